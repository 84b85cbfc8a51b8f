/-! THE CLAIM OUT OF ONE WALK OF THE LAW'S BODY. Your part is whole_start (and what it stands on); all else here is the same for every law, but numbers. -/
def R_law : String := "LineDebuggerLaw"
def lw_P (b : Addr) (xs : List Int32) (args : Array Value) (s : State) : Prop := args = #[.ref b] ∧ s.IntsAt b xs ∧ xs.length ≤ 2560 ∧ (Jvm.Cond.and given_1 narrow_1).before args s = true
def lw_Q (_ : Array Value) (s : State) (o : Outcome) (t : State) : Prop := o = .returned (some (.int 1)) ∧ Framed s o t [] 601024 7293034
def lw_Z (below : List Frame) (a : Array Value) (s : State) : State → Prop := fun t => ∃ o, t.status = .running ∧ Ended t below o ∧ lw_Q a s o t
/-- the law's own end, with 1 on the stack, nothing written that was there before, its room as the claim has it -/
theorem lw_ret {p : Program} {l : Launch} {e : Env} {s : State} {m : MethodId} {below : List Frame} {meth : Method} {c : Code} {b : Nat} (hx : p.tables.exec = Jvm.exec) (hb : c.code = code) (hr : meth.sig.returnType = ret) (hlocks : meth.locks = false) {pc : Nat} {H : Heap} {ls : Array Slot} (hdg : decode code pc = .ok (.ireturn, 1)) : W p l e room_1 s m #[Value.ref b] below meth c H [] 601024 7293034 (lw_Z below #[Value.ref b] s) (F0 m pc ls [.int 1]) := by
  intro T hT X
  obtain ⟨fs, hret, hrun, hended, hW, hframe⟩ := X.leave (v := some (.int 1)) (hlocks := hlocks) (fun h => by rw [hr] at h; cases h)
  have hmeth' : T.vm.method? m = some meth := X.method'
  refine ⟨T.setFrames fs, ?_, .returned (some (.int 1)), hrun, hended, rfl, ⟨_, rfl⟩, hW, hframe⟩
  jvm_step X.here [X.here.top, hx, hb, hdg, hmeth', hr, ret, narrow_b1]
  (try refine ⟨rfl, ?_⟩); (try refine ⟨rfl, ?_⟩)
  first | (intro acts; rw [hret _ acts rfl rfl rfl]) | rw [hret _ _ rfl rfl rfl]
  exact Steps.refl _
/-- what holds at the law's entry: the machine, the code, the tables' words (any of lw_tbl by 'hts w (by decide +kernel)'), the script of L ints xs at the cell b, what the Statement gives of the start (any of its parts by flat_of_before) -/
def lw_At (p : Program) (s : State) (m : MethodId) (meth : Method) (c : Code) (b L : Nat) (xs : Nat → Int32) : Prop :=
  p.tables.exec = Jvm.exec ∧ c.code = code ∧ meth.sig.returnType = ret ∧ c.maxLocals = 7 ∧ s.vm.findClass R_law = some m.cls ∧ (∀ w ∈ lw_tbl, w.before #[Value.ref b] s = true) ∧ va_X b L xs s s.heap ∧ b < s.heap.size ∧ meth.locks = false ∧ (Jvm.Cond.and given_1 narrow_1).before #[Value.ref b] s = true
section L23
variable {p : Program} {l : Launch} {e : Env} {s : State} {m : MethodId} {args : Array Value} {below : List Frame} {meth : Method} {c : Code} {D : va_G} {t : Nat → ClassId} {ad : Nat → Nat} {A : Nat → Prop} {sc : am_S}
def law_K : am_K := fun o _ _ _ _ => o = .inl (some (.inl 1))
/-- the law from its loop on -/
theorem law_23 (hfl0 : l.flags = pinnedFlags ++ [noTraceFlag]) (hexec : p.tables.exec = Jvm.exec) (hb : c.code = code) (hml : c.maxLocals = 7) (hret : meth.sig.returnType = ret) (hlocks : meth.locks = false) (hown : s.vm.findClass "LineDebuggerLaw" = some m.cls) (hts : ∀ w ∈ wd_T, w.before args s = true)
    (hK : va_K D am_cl (am_tys t) s) (hZ : am_Zw sc ad s.heap s) (hA : ∀ q, A q → s.heap.size ≤ q) (hbl : ad 900 < s.heap.size) (hlen : sc.1 ≤ 2560) {H : Heap} {locs : List Loc} {cells slots : Nat} {lj : Array Slot} {J : am_J}
    (hP : va_P D am_cl (am_ws t ad am_I0 (am_p0 0) J) H) (hD : va_D A (am_ws t ad am_I0 (am_p0 0) J)) (hS : va_S A s.heap H locs) (hL : lv_has lj 7 (am_lm ad [(0, .inr (.inr (some 900))), (1, .inr (.inr (some 0))), (2, .inr (.inr (some 21))), (3, .inr (.inr (some 39))), (4, .inl (nI (5 * 0)))])) (hc : cells + 512 ≤ 601024) (hs : slots + 6 * 512 ≤ 7293034) :
    W p l e room_1 s m args below meth c H locs cells slots (lw_Z below args s) (F0 m 23 lj []) := by
  intro T hT X
  have hadm := X.admits
  have hV := mt_closed (R := room_1) (below := below) (nL := 7) (cc := code) (ret := some .boolean) (K := law_K) (tb := tb_La_law) (hok := mt_noh) hfl0 hadm hexec hb hml hret hlocks hown hts hK hZ hA hbl chk_La_law (Or.inl rfl) (law_mv hfl0 hA hbl) (law_ms hfl0 hA hbl) (fun pc hh hk ls E I' P' J' n' h' => by
    have : hh = [] := by simpa [mt_noh] using hk
    subst this
    have h2 : law_K (.inr E) I' P' J' n' := h'
    unfold law_K at h2
    cases h2) rows_La_law
  have hl := law_loop am_Wa_drop hV hlen (fun _ _ _ _ => rfl) 512 0 0 0 512 am_I0 J [] rfl (by omega) (by omega) (by omega) RT_0
  have hw : am_lw [(0, .inr (.inr (some 900))), (1, .inr (.inr (some 0))), (2, .inr (.inr (some 21))), (3, .inr (.inr (some 39))), (4, .inl (nI (5 * 0)))] := ⟨by decide, fun q hq x => by
    simp only [List.mem_cons, List.not_mem_nil, or_false] at hq
    rcases hq with rfl | rfl | rfl | rfl | rfl <;> exact fun h => by cases h⟩
  have hW := hl H locs cells slots lj hP hD hS hL hw hc hs
  refine am_mono hW (fun u hu => ?_) T hT X
  obtain ⟨o, hrun, hend, oa, I', P', J', n', L, k, q, hKo, hWm, hsm, hLA, hk, hq, -, -, -, hout⟩ := hu
  have hKo : oa = .inl (some (.inl 1)) := hKo
  subst hKo
  have ho : o = .returned (some (.int 1)) := hout
  refine ⟨o, hrun, hend, ho, ⟨_, ho⟩, hWm, ?_⟩
  have hk' : k + n' ≤ 601024 := hk
  have hq' : q + 6 * n' ≤ 7293034 := hq
  exact (State.sameButNew.drop_fresh (L := []) (J := L) hsm (fun x hx => hA _ (hLA x hx))).mono (by omega) (by omega)
end L23
