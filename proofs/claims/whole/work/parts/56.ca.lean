/-! Catching: a call of a helper's, whose exceptions its table takes. -/
def am_En : Nat → String
  | 1 => "java/lang/IllegalArgumentException"
  | 2 => "java/lang/IllegalStateException"
  | 3 => "java/lang/UnsupportedOperationException"
  | 4 => "java/lang/IndexOutOfBoundsException"
  | _ => "java/lang/ArithmeticException"
/-- no two of the five exceptions are of one line -/
def am_Nc (U : State) : Prop := ∀ a b : Nat, 1 ≤ a → a ≤ 5 → 1 ≤ b → b ≤ 5 → a ≠ b → ∃ ca cb, U.vm.findClass (am_En a) = some ca ∧ U.vm.findClass (am_En b) = some cb ∧ U.vm.assignable ca cb = false
theorem am_Nc.moved {s U : State} (h : am_Nc s) (hW : s.WarmedH U.vm) : am_Nc U := fun a b h1 h2 h3 h4 h5 => by
  obtain ⟨ca, cb, g1, g2, g3⟩ := h a b h1 h2 h3 h4 h5
  exact ⟨ca, cb, by rw [hW.alike.findClass]; exact g1, by rw [hW.alike.findClass]; exact g2, by rw [hW.alike.assignable]; exact g3⟩
def am_Zz (H0 : Heap) (U : State) : Prop := am_Zk H0 U ∧ am_Nc U
theorem am_Zz.moved {H0 : Heap} {s U : State} (h : am_Zz H0 s) (hW : s.WarmedH U.vm) : am_Zz H0 U := ⟨h.1.moved hW, h.2.moved hW⟩
/-- a table of handlers over pc against the row's list -/
def am_hx (cc : ByteArray) (nL pc : Nat) (own : String) (Ts : List Cond) : List (Nat × Nat × Nat × Nat) → List (Nat × Nat) → Prop
  | [], [] => True
  | (s0, e0, h0, ct) :: r, (E, t) :: r' => ((s0 ≤ pc ∧ pc < e0) ∧ ct ≠ 0 ∧ (1 ≤ E ∧ E ≤ 5) ∧ Cond.classLink own ct (am_En E) ∈ Ts ∧ Cond.castable (am_En E) (am_En E) ∈ Ts ∧ ∃ k, k < nL ∧ ((decode cc h0 = .ok (.astore k, 2) ∧ t = h0 + 2) ∨ ∃ f : Fin 4, f.val = k ∧ decode cc h0 = .ok (.astore_n f, 1) ∧ t = h0 + 1)) ∧ am_hx cc nL pc own Ts r r'
  | _, _ => False
def am_xr (h : ExceptionTableEntry) : Nat × Nat × Nat × Nat := (h.startPc, h.endPc, h.handlerPc, h.catchType)
theorem am_hand_in {V : am_W} {K : am_K} {I : am_I} {P : am_P} {J : am_J} {n E : Nat} {cc : ByteArray} {nL pc : Nat} {own : String} {Ts : List Cond} (hKx : ∀ E I P J n, ¬ K (.inr E) I P J n) : ∀ (hl : List (Nat × Nat × Nat × Nat)) (hs : List (Nat × Nat)), am_hx cc nL pc own Ts hl hs → am_hand V K I P J n E hs → 1 ≤ E ∧ E ≤ 5
  | [], [], _, h => absurd h (hKx _ _ _ _ _)
  | [], _ :: _, hx, _ => hx.elim
  | _ :: _, [], hx, _ => hx.elim
  | (s0, e0, h0, ct) :: r, (E', t) :: r', hx, h => by
    obtain ⟨⟨-, -, g4, -⟩, hx'⟩ := hx
    cases hz : Nat.beq E' E with
    | true =>
      have := Nat.eq_of_beq_eq_true hz
      subst this
      exact g4
    | false =>
      have h' : am_hand V K I P J n E r' := by simpa [am_hand, hz] using h
      exact am_hand_in hKx r r' hx' h'
section CA
variable {p : Program} {l : Launch} {e : Env} {R : Room} {s : State} {m : MethodId} {args : Array Value} {below : List Frame} {meth : Method} {c : Code} {Q : State → Prop}
variable {D : va_G} {cl : List vw_C} {t : Nat → ClassId} {ad : Nat → Nat} {A : Nat → Prop} {H0 : Heap} {nL : Nat} {cc : ByteArray} {pc n : Nat} {ls : am_L} {I : am_I} {P : am_P} {J : am_J} {K : am_K}
theorem so_catch (hexec : p.tables.exec = Jvm.exec) (hb : c.code = cc) {Ts : List Cond} (hts : ∀ w ∈ Ts, w.before args s = true) {own : String} (hown : s.vm.findClass own = some m.cls) (hN : am_Nc s) (hKx : ∀ E I P J n, ¬ K (.inr E) I P J n)
    {hl : List (Nat × Nat × Nat × Nat)} {hs : List (Nat × Nat)} (htab : c.exceptionTable.toList.map am_xr = hl) (hh : am_hx cc nL pc own Ts hl hs) {E : Nat}
    (h : am_hand (am_Wa p l e R s m args below meth c Q D cl t ad A H0 nL) K I P J n E hs) : am_Wx p l e R s m args below meth c Q D cl t ad A H0 nL am_En pc E ls I P J n := by
  intro H locs cells slots lj rest x ce hP hD hS hL hc hsl h1 h2 h3 T hT X
  have hpl : e.platform.magicAccessors = ({} : Platform).magicAccessors := by rw [X.admits.platform]
  have key : ∀ (hs : List (Nat × Nat)) (xs : List ExceptionTableEntry) (pre : List ExceptionTableEntry), c.exceptionTable.toList = pre ++ xs → (∀ y ∈ pre, RowPassed e.platform s m.cls pc ce.cls y) → am_hx cc nL pc own Ts (xs.map am_xr) hs → am_hand (am_Wa p l e R s m args below meth c Q D cl t ad A H0 nL) K I P J n E hs →
      ∃ u, Steps p.tables e below ((T.setTop (F0 m pc lj rest)).pushFrame (.throwing x)) u ∧ Q u := by
    intro hs
    induction hs with
    | nil =>
      intro xs pre _ _ _ h
      exact absurd h (hKx _ _ _ _ _)
    | cons q hs ih =>
      intro xs pre hsp hpass hx h
      obtain ⟨E', t'⟩ := q
      match xs, hsp, hx with
      | [], _, hx => exact hx.elim
      | y :: ys, hsp, hx =>
        obtain ⟨⟨⟨g1, g2⟩, g3, ⟨g4, g5⟩, g6, g7, k, hk, g8⟩, hx'⟩ := hx
        have hcov : covers y pc = true := by
          have z1 : y.startPc ≤ pc := g1
          have z2 : pc < y.endPc := g2
          simp [covers, z1, z2]
        by_cases eE : E' = E
        · subst eE
          have hV : (am_Wa p l e R s m args below meth c Q D cl t ad A H0 nL) t' [] [] I P J n := by
            simpa [am_hand, Nat.beq_refl] using h
          obtain ⟨c1, c2, hc1, hc2, hasg⟩ := Cond.castable_spec (hts _ g7)
          have e1 : c1 = ce.cls := Option.some.inj (hc1.symm.trans h3)
          have e2 : c2 = ce.cls := Option.some.inj (hc2.symm.trans h3)
          rw [e1, e2] at hasg
          obtain ⟨hrc, hk0⟩ := X.catches_of_link hown (x := y) g3 (hts _ g6) h3 hasg
          obtain ⟨vm', XV, hst⟩ := X.thenCaughtThrough x (g := F0 m pc lj rest) rfl (Steps.refl _) (by rw [hT]; exact h1) (by rw [h2]; rfl) hk0 pre y ys hsp hpass hcov hrc
          have hW : W p l e R s m args below meth c H locs cells slots Q (F0 m y.handlerPc lj [.ref x]) := by
            have h8 : (decode cc y.handlerPc = .ok (.astore k, 2) ∧ t' = y.handlerPc + 2) ∨ ∃ f : Fin 4, f.val = k ∧ decode cc y.handlerPc = .ok (.astore_n f, 1) ∧ t' = y.handlerPc + 1 := g8
            have hL0 : lv_has lj nL [] := ⟨hL.1, hL.2.1, fun q hq => by cases hq⟩
            have hw0 : am_lw [] := ⟨List.nodup_nil, fun q hq => by cases hq⟩
            rcases h8 with ⟨hd, rfl⟩ | ⟨f, hf, hd, rfl⟩
            · refine lv_astore hexec hb hd hL0 hk rfl fun lj' h' => ?_
              exact hV H locs cells slots lj' hP hD hS ⟨h'.1, h'.2.1, fun q hq => by cases hq⟩ hw0 hc hsl
            · refine lv_astore_n hexec hb hd hf hL0 hk rfl fun lj' h' => ?_
              exact hV H locs cells slots lj' hP hD hS ⟨h'.1, h'.2.1, fun q hq => by cases hq⟩ hw0 hc hsl
          obtain ⟨u, a1, b1⟩ := hW (T.setVm vm') hT XV
          exact ⟨u, hst.trans a1, b1⟩
        · have hbeq : Nat.beq E' E = false := by
            cases hz : Nat.beq E' E with
            | false => rfl
            | true => exact absurd (Nat.eq_of_beq_eq_true hz) eE
          have h' : am_hand (am_Wa p l e R s m args below meth c Q D cl t ad A H0 nL) K I P J n E hs := by
            simpa [am_hand, hbeq] using h
          refine ih ys (pre ++ [y]) (by rw [hsp]; simp) (fun z hz => ?_) hx' h'
          rcases List.mem_append.mp hz with hz | hz
          · exact hpass z hz
          · have hzy : z = y := by simpa using hz
            subst hzy
            have hE5 := am_hand_in hKx _ _ hx' h'
            obtain ⟨ca, cb, n1, n2, n3⟩ := hN E E' hE5.1 hE5.2 g4 g5 (fun z => eE z.symm)
            have e1 : ca = ce.cls := Option.some.inj (n1.symm.trans h3)
            obtain ⟨c', hc', hcl⟩ := Cond.classLink_spec hown (hts _ g6) e.platform hpl
            have e2 : c' = cb := Option.some.inj (hc'.symm.trans n2)
            refine Or.inr ⟨g3, c', hcl, ?_⟩
            rw [e2, ← e1]
            exact n3
  exact key hs c.exceptionTable.toList [] rfl (fun y hy => by cases hy) (by rw [htab]; exact hh) h
end CA
/-- as am_Snd, of a method with handlers: its K takes no exception -/
def am_SndW (l : Launch) (D : va_G) (t : Nat → ClassId) (ad : Nat → Nat) (A : Nat → Prop) (H0 : Heap) (Zk : State → Prop) (En : Nat → String) (y : MethodName) (ws : List Cond) (F Lc : Nat) (cc : ByteArray) (nL : Nat) (ret : Option FieldType) (hl : List (Nat × Nat × Nat × Nat)) (sc : am_S) (C9 : Nat → am_T) (tb : Nat → am_R) : Prop :=
  ∀ (p : Program) (e : Env) (s : State) (m : MethodId) (args : Array Value) (below : List Frame) (meth : Method) (c : Code) (n : Nat) (K : am_K),
    l.admits e → p.tables.exec = Jvm.exec → c.code = cc → c.maxLocals = nL → meth.sig.returnType = ret → meth.locks = false → s.vm.findClass y.cls = some m.cls → (∀ w ∈ ws, w.before args s = true) → c.exceptionTable.toList.map am_xr = hl → (∀ E I P J n, ¬ K (.inr E) I P J n) →
    va_K D am_cl (am_tys t) s → va_S A H0 s.heap [] → Zk s →
    am_closed sc C9 tb (am_Wa p l e (am_rm F Lc n) s m args below meth c (am_Q (am_rm F Lc n) below s D am_cl t ad A H0 En K) D am_cl t ad A H0 nL) K
def am_noX (K : am_K) : am_K := fun o I P J n => match o with
  | .inl v => K (.inl v) I P J n
  | .inr _ => False
theorem am_metW {l : Launch} {D : va_G} {t : Nat → ClassId} {ad : Nat → Nat} {A : Nat → Prop} {H0 : Heap} {Zk : State → Prop} {En : Nat → String} {y : MethodName} {ws ws' : List Cond} {F Lc nb : Nat} {cc : ByteArray} {nL : Nat} {ret : Option FieldType} {hl : List (Nat × Nat × Nat × Nat)} {sc : am_S} {C9 : Nat → am_T} {tb : Nat → am_R} {T : am_T}
    (hy : plainName y.cls = true) (hw : ws = Cond.codeWith y cc nL ret hl :: ws') (hnb : nb ≤ nL) (hT0 : ∀ as I P J n K, T as I P J n K → T as I P J n (am_noX K)) (hok : am_ok sc C9 tb T) (hso : am_SndW l D t ad A H0 Zk En y ws F Lc cc nL ret hl sc C9 tb) : am_Met l D am_cl t ad A H0 Zk En y ws F Lc nb T := by
  intro as I P J n K hT hnol hlen
  refine MetFree.of_bodyS (code := cc) (maxLocals := nL) (ret := ret) hy ?_ ?_
  · intro args s m h hn
    obtain ⟨m', meth, c, hn', h1, h2, h3, h4, h5, h6, h7, -⟩ := Cond.codeWith_spec (atoms_spec (ws := ws) h _ (by rw [hw]; exact List.mem_cons_self))
    cases hn.symm.trans hn'
    exact ⟨meth, c, h1, h2, h3, h4, h6, h7⟩
  · intro p e s m args below meth c s₁ B hml hP _
    have hts : ∀ w ∈ ws, w.before args s = true := atoms_spec (ws := ws) B.pre
    obtain ⟨hargs, hP0, hD, hS, hK, hZ⟩ := hP
    have X₀ := Stand.of_body B
    have htab : c.exceptionTable.toList.map am_xr = hl := by
      obtain ⟨m', meth', c', hn', h1, h2, h3, h4, h5, -⟩ := Cond.codeWith_spec (hts _ (by rw [hw]; exact List.mem_cons_self))
      cases B.named.symm.trans hn'
      cases X₀.method.symm.trans h1
      cases X₀.code.symm.trans h2
      exact h5
    have hcl := hso p e s m args below meth c n (am_noX K) X₀.admits B.exec B.bytes hml B.returns B.notSynchronized (findClass_of_methodNamed B.named) hts htab (fun _ _ _ _ _ h => h) hK hS hZ
    have hV := hok as I P J n (am_noX K) (hT0 _ _ _ _ _ _ hT) _ am_Wa_drop hcl
    have hl : (lg_sl (as.map (am_v ad))).length ≤ nL := by rw [am_sl_len ad as hnol]; omega
    have hlv := lv_entry (as.map (am_v ad)) hl
    rw [am_args_lv ad as 0 hnol] at hlv
    have hW := hV s.heap [] 0 0 _ hP0 hD hS hlv (am_args_lw hnol) (by show 0 + n ≤ n; omega) (by show 0 + 6 * n ≤ 6 * n; omega)
    have hh0 : s₁.heap = s.heap := by rw [B.state]; rfl
    obtain ⟨u, a1, o, b1, b2, b3⟩ := hW s₁ hh0 X₀
    refine ⟨u, o, ?_, b1, b2, ?_⟩
    · rw [hargs, lg_entry_eq]
      exact a1
    · obtain ⟨oa, I', P', J', n', L, k, q, hKx, r⟩ := b3
      refine ⟨oa, I', P', J', n', L, k, q, ?_, r⟩
      match oa, hKx with
      | .inl v, hKx => exact hKx
      | .inr E, hKx => exact hKx.elim
