/-! From a table that is checked, and a pure proof about it, to a method's contract. -/
theorem am_args_lv (ad : Nat → Nat) : ∀ (as : List am_V) (i : Nat), am_nol as = true → lv_args i (as.map (am_v ad)) = am_lm ad (am_args i as)
  | [], _, _ => rfl
  | v :: r, i, h => by
    have h1 := am_nol_of h v List.mem_cons_self
    have h2 : am_nol r = true := by
      match v, h with
      | .inl y, h => simpa [am_nol] using h
      | .inr (.inl y), h => exact absurd rfl (h1 y)
      | .inr (.inr y), h => simpa [am_nol] using h
    have hc := am_v_cat (ad := ad) h1
    simp only [List.map_cons, lv_args, am_args, am_lm]
    rw [if_neg (by omega), am_args_lv ad r (i + 1) h2]
    rfl
theorem am_args_keys : ∀ (as : List am_V) (i : Nat), (am_args i as).map Prod.fst = List.range' i as.length
  | [], _ => rfl
  | v :: r, i => by simp only [am_args, List.map_cons, List.length_cons, List.range'_succ]; rw [am_args_keys r (i + 1)]
theorem am_args_mem : ∀ (as : List am_V) (i : Nat), ∀ q ∈ am_args i as, q.2 ∈ as
  | [], _, q, h => by cases h
  | v :: r, i, q, h => by
    rcases List.mem_cons.mp h with rfl | h
    · exact List.mem_cons_self
    · exact List.mem_cons_of_mem _ (am_args_mem r (i + 1) q h)
theorem am_args_lw {as : List am_V} (h : am_nol as = true) : am_lw (am_args 0 as) := by
  refine ⟨?_, fun q hq => am_nol_of h q.2 (am_args_mem as 0 q hq)⟩
  rw [am_args_keys]
  exact List.nodup_range'
theorem am_sl_len (ad : Nat → Nat) : ∀ (as : List am_V), am_nol as = true → (lg_sl (as.map (am_v ad))).length = as.length
  | [], _ => rfl
  | v :: r, h => by
    have h1 := am_nol_of h v List.mem_cons_self
    have h2 : am_nol r = true := by
      match v, h with
      | .inl y, h => simpa [am_nol] using h
      | .inr (.inl y), h => exact absurd rfl (h1 y)
      | .inr (.inr y), h => simpa [am_nol] using h
    have hc := am_v_cat (ad := ad) h1
    have := am_sl_len ad r h2
    simp only [lg_sl, List.map_cons, List.flatMap_cons, List.length_append, List.length_cons] at this ⊢
    rw [if_neg (by omega), this]
    simp
    omega
/-- what a method's body may rely on, and what is wanted of it: V is sound at every instruction -/
def am_Snd (l : Launch) (D : va_G) (t : Nat → ClassId) (ad : Nat → Nat) (A : Nat → Prop) (H0 : Heap) (Zk : State → Prop) (En : Nat → String) (y : MethodName) (ws : List Cond) (F Lc : Nat) (cc : ByteArray) (nL : Nat) (ret : Option FieldType) (sc : am_S) (C9 : Nat → am_T) (tb : Nat → am_R) : Prop :=
  ∀ (p : Program) (e : Env) (s : State) (m : MethodId) (args : Array Value) (below : List Frame) (meth : Method) (c : Code) (n : Nat) (K : am_K),
    l.admits e → p.tables.exec = Jvm.exec → c.code = cc → c.maxLocals = nL → meth.sig.returnType = ret → meth.locks = false → s.vm.findClass y.cls = some m.cls → (∀ w ∈ ws, w.before args s = true) → c.exceptionTable.isEmpty = true →
    va_K D am_cl (am_tys t) s → va_S A H0 s.heap [] → Zk s →
    am_closed sc C9 tb (am_Wa p l e (am_rm F Lc n) s m args below meth c (am_Q (am_rm F Lc n) below s D am_cl t ad A H0 En K) D am_cl t ad A H0 nL) K
theorem am_Wa_drop {p : Program} {l : Launch} {e : Env} {R : Room} {s : State} {m : MethodId} {args : Array Value} {below : List Frame} {meth : Method} {c : Code} {Q : State → Prop} {D : va_G} {cl : List vw_C} {t : Nat → ClassId} {ad : Nat → Nat} {A : Nat → Prop} {H0 : Heap} {nL : Nat} :
    am_drop (am_Wa p l e R s m args below meth c Q D cl t ad A H0 nL) := by
  intro k pc ls st I P J n h H locs cells slots lj hP hD hS hL hw hc hs
  refine h H locs cells slots lj hP hD hS ⟨hL.1, hL.2.1, fun q hq => ?_⟩ ⟨?_, fun q hq => hw.2 q (List.mem_of_mem_take hq)⟩ hc hs
  · obtain ⟨r, hr, rfl⟩ := List.mem_map.mp hq
    exact hL.2.2 _ (List.mem_map_of_mem (f := fun q : Nat × am_V => (q.1, am_v ad q.2)) (List.mem_of_mem_take hr))
  · exact ((List.take_sublist k ls).map Prod.fst).nodup hw.1
theorem am_met {l : Launch} {D : va_G} {t : Nat → ClassId} {ad : Nat → Nat} {A : Nat → Prop} {H0 : Heap} {Zk : State → Prop} {En : Nat → String} {y : MethodName} {ws ws' : List Cond} {F Lc nb : Nat} {cc : ByteArray} {nL : Nat} {ret : Option FieldType} {sc : am_S} {C9 : Nat → am_T} {tb : Nat → am_R} {T : am_T}
    (hy : plainName y.cls = true) (hw : ws = Cond.code y cc nL ret :: ws') (hnb : nb ≤ nL) (hok : am_ok sc C9 tb T) (hso : am_Snd l D t ad A H0 Zk En y ws F Lc cc nL ret sc C9 tb) : am_Met l D am_cl t ad A H0 Zk En y ws F Lc nb T := by
  intro as I P J n K hT hnol hlen
  refine MetFree.of_bodyS (code := cc) (maxLocals := nL) (ret := ret) hy ?_ ?_
  · intro args s m h hn
    obtain ⟨meth, c, h1, h2, h3, h4, h5, h6, -, -⟩ := Cond.code_spec hn (atoms_spec (ws := ws) h _ (by rw [hw]; exact List.mem_cons_self))
    exact ⟨meth, c, h1, h2, h3, h4, h5, h6⟩
  · intro p e s m args below meth c s₁ B hml hP _
    have hts : ∀ w ∈ ws, w.before args s = true := atoms_spec (ws := ws) B.pre
    obtain ⟨hargs, hP0, hD, hS, hK, hZ⟩ := hP
    have hcode : (Cond.code y cc nL ret).before args s = true := hts _ (by rw [hw]; exact List.mem_cons_self)
    have X₀ := Stand.of_body B
    have hcl := hso p e s m args below meth c n K X₀.admits B.exec B.bytes hml B.returns B.notSynchronized (findClass_of_methodNamed B.named) hts (B.noHandlers hcode) hK hS hZ
    have hV := hok as I P J n K hT _ am_Wa_drop hcl
    have hl : (lg_sl (as.map (am_v ad))).length ≤ nL := by rw [am_sl_len ad as hnol]; omega
    have hlv := lv_entry (as.map (am_v ad)) hl
    rw [am_args_lv ad as 0 hnol] at hlv
    have hW := hV s.heap [] 0 0 _ hP0 hD hS hlv (am_args_lw hnol) (by show 0 + n ≤ n; omega) (by show 0 + 6 * n ≤ 6 * n; omega)
    have hh0 : s₁.heap = s.heap := by rw [B.state]; rfl
    obtain ⟨u, a1, o, b1, b2, b3⟩ := hW s₁ hh0 X₀
    refine ⟨u, o, ?_, b1, b2, b3⟩
    rw [hargs, lg_entry_eq]
    exact a1
