/-! The soundness of the instructions that read and write the memory, and of a method's end. -/
theorem am_l0_or (q : Nat × Nat) : am_l0 q = 0 ∨ q = (0, am_l0 q) := by
  obtain ⟨k, n⟩ := q
  match k with
  | 0 => exact Or.inr rfl
  | k + 1 => exact Or.inl rfl
theorem am_l1_or (q : Nat × Nat) : am_l1 q = 0 ∨ q = (1, am_l1 q) := by
  obtain ⟨k, n⟩ := q
  match k with
  | 0 => exact Or.inl rfl
  | 1 => exact Or.inr rfl
  | k + 2 => exact Or.inl rfl
theorem am_l2_or (q : Nat × Nat) : am_l2 q = 0 ∨ q = (2, am_l2 q) := by
  obtain ⟨k, n⟩ := q
  match k with
  | 0 => exact Or.inl rfl
  | 1 => exact Or.inl rfl
  | 2 => exact Or.inr rfl
  | k + 3 => exact Or.inl rfl
theorem am_l3_or (q : Nat × Nat) : am_l3 q = 0 ∨ q = (3, am_l3 q) ∨ q = (4, am_l3 q) := by
  obtain ⟨k, n⟩ := q
  match k with
  | 0 => exact Or.inl rfl
  | 1 => exact Or.inl rfl
  | 2 => exact Or.inl rfl
  | 3 => exact Or.inr (Or.inl rfl)
  | 4 => exact Or.inr (Or.inr rfl)
  | k + 5 => exact Or.inl rfl
theorem am_in0 {x : Int32} {n : Nat} (h : vp_in x n) : n ≠ 0 := fun he => h (Or.inr (by rw [he]; exact Nat.zero_le _))
theorem am_ai_kd {o : Nat} {x : Int32} (h : vp_in x (am_ai o)) : am_kd o = (0, am_ai o) := (am_l0_or (am_kd o)).resolve_left (am_in0 h)
theorem am_az_kd {o : Nat} {x : Int32} (h : vp_in x (am_az o)) : am_kd o = (1, am_az o) := (am_l1_or (am_kd o)).resolve_left (am_in0 h)
theorem am_aj_kd {o : Nat} {x : Int32} (h : vp_in x (am_aj o)) : am_kd o = (2, am_aj o) := (am_l2_or (am_kd o)).resolve_left (am_in0 h)
theorem am_ar_kd {o : Nat} {x : Int32} (h : vp_in x (am_ar o)) : am_kd o = (3, am_ar o) ∨ am_kd o = (4, am_ar o) := (am_l3_or (am_kd o)).resolve_left (am_in0 h)
theorem am_ent0 (t : Nat → ClassId) (ad : Nat → Nat) (I : am_I) (P : am_P) (J : am_J) {o n : Nat} (h : am_kd o = (0, n)) : am_ent t ad I P J o = .inl (t 0, n, .inl (I o)) := by simp only [am_ent, h]
theorem am_ent1 (t : Nat → ClassId) (ad : Nat → Nat) (I : am_I) (P : am_P) (J : am_J) {o n : Nat} (h : am_kd o = (1, n)) : am_ent t ad I P J o = .inl (t 1, n, .inl (I o)) := by simp only [am_ent, h]
theorem am_ent2 (t : Nat → ClassId) (ad : Nat → Nat) (I : am_I) (P : am_P) (J : am_J) {o n : Nat} (h : am_kd o = (2, n)) : am_ent t ad I P J o = .inl (t 2, n, .inr (.inl (J o))) := by simp only [am_ent, h]
theorem am_ent3 (t : Nat → ClassId) (ad : Nat → Nat) (I : am_I) (P : am_P) (J : am_J) {o n : Nat} (h : am_kd o = (3, n)) : am_ent t ad I P J o = .inl (t 3, n, .inr (.inr (.inr (.inr fun j => (P o j).map ad)))) := by simp only [am_ent, h]
theorem am_ent4 (t : Nat → ClassId) (ad : Nat → Nat) (I : am_I) (P : am_P) (J : am_J) {o n : Nat} (h : am_kd o = (4, n)) : am_ent t ad I P J o = .inl (t 4, n, .inr (.inr (.inr (.inr fun j => (P o j).map ad)))) := by simp only [am_ent, h]
theorem am_ent5 (t : Nat → ClassId) (ad : Nat → Nat) (I : am_I) (P : am_P) (J : am_J) {o b : Nat} (h : am_kd o = (5, b)) : am_ent t ad I P J o = .inr (b, am_fs ad I P o 0 (am_fk b)) := by simp only [am_ent, h]
/-- what is left when a method has ended: o: its outcome, u: its last state -/
def am_out (s : State) (ad : Nat → Nat) (En : Nat → String) : am_O → Outcome → State → Prop
  | .inl v, o, _ => o = .returned (v.map (am_v ad))
  | .inr E, o, u => ∃ (x : Addr) (ce : Cell), o = .threw x ∧ u.heap[x]? = some ce ∧ ce.vm = .none ∧ s.vm.findClass (En E) = some ce.cls
def am_End (R : Room) (s : State) (D : va_G) (cl : List vw_C) (t : Nat → ClassId) (ad : Nat → Nat) (A : Nat → Prop) (H0 : Heap) (En : Nat → String) (K : am_K) (o : Outcome) (u : State) : Prop :=
  ∃ (oa : am_O) (I : am_I) (P : am_P) (J : am_J) (n : Nat) (L : List Loc) (k q : Nat), K oa I P J n ∧ s.WarmedH u.vm ∧ s.sameButNew ({ u with vm := s.vm } : State) L k q ∧ (∀ z ∈ L, A z.base) ∧ k + n ≤ R.cells ∧ q + 6 * n ≤ R.slots ∧
    va_P D cl (am_ws t ad I P J) u.heap ∧ va_D A (am_ws t ad I P J) ∧ va_S A H0 u.heap [] ∧ am_out s ad En oa o u
def am_Q (R : Room) (below : List Frame) (s : State) (D : va_G) (cl : List vw_C) (t : Nat → ClassId) (ad : Nat → Nat) (A : Nat → Prop) (H0 : Heap) (En : Nat → String) (K : am_K) : State → Prop := fun u =>
  ∃ o, u.status = .running ∧ Ended u below o ∧ am_End R s D cl t ad A H0 En K o u
theorem am_mono {p : Program} {l : Launch} {e : Env} {R : Room} {s : State} {m : MethodId} {args : Array Value} {below : List Frame} {meth : Method} {c : Code} {H : Heap} {locs : List Loc} {cells slots : Nat} {Q1 Q2 : State → Prop} {g : JFrame}
    (k : W p l e R s m args below meth c H locs cells slots Q1 g) (h : ∀ u, Q1 u → Q2 u) : W p l e R s m args below meth c H locs cells slots Q2 g := by
  intro T hT X
  obtain ⟨u, a1, b1⟩ := k T hT X
  exact ⟨u, a1, h u b1⟩
section MM
variable {p : Program} {l : Launch} {e : Env} {R : Room} {s : State} {m : MethodId} {args : Array Value} {below : List Frame} {meth : Method} {c : Code} {Q : State → Prop}
variable {D : va_G} {cl : List vw_C} {t : Nat → ClassId} {ad : Nat → Nat} {A : Nat → Prop} {H0 : Heap} {nL : Nat} {cc : ByteArray} {pc nx a b n : Nat} {ls : am_L} {st : List am_V} {I : am_I} {P : am_P} {J : am_J}
theorem so_geti (hexec : p.tables.exec = Jvm.exec) (hb : c.code = cc) {Ts : List Cond} (hts : ∀ w ∈ Ts, w.before args s = true) (hK : va_K D cl (am_tys t) s) {own C : String} (hown : s.vm.findClass own = some m.cls) {T : u_T} {N idx : Nat} (hcl : cl[b]? = some (C, T, N)) (hin : ∀ w ∈ u_ws C T N, w ∈ Ts) (hk : a < N)
    (hlink : Cond.fieldLink own idx (T a).1 (T a).2.1 (T a).2.2.1 ∈ Ts) (hf : (am_fk b)[a]? = some false) (hd : decode cc pc = .ok (.getfield idx, 3) ∧ nx = pc + 3) (h : am_geti (am_Wa p l e R s m args below meth c Q D cl t ad A H0 nL) nx a b ls st I P J n) : (am_Wa p l e R s m args below meth c Q D cl t ad A H0 nL) pc ls st I P J n := by
  unfold am_geti at h
  obtain ⟨hd, rfl⟩ := hd
  split at h
  · rename_i o st'
    intro H locs cells slots lj hP hD hS hL hw hc hs
    have ho := am_kd_lt h.1 (by decide)
    have e2 := am_ws_at t ad I P J ho
    rw [am_ent5 t ad I P J h.1] at e2
    have e3 := am_fs_i ad I P o (am_fk b) 0 a hf
    rw [Nat.zero_add] at e3
    exact va_get hexec hb hts hin hown hK hP o e2 hcl a hk (hts _ hlink) (fun x hx => hx) e3 hd (h.2 H locs cells slots lj hP hD hS hL hw hc hs)
  · exact h.elim
theorem so_getr (hexec : p.tables.exec = Jvm.exec) (hb : c.code = cc) {Ts : List Cond} (hts : ∀ w ∈ Ts, w.before args s = true) (hK : va_K D cl (am_tys t) s) {own C : String} (hown : s.vm.findClass own = some m.cls) {T : u_T} {N idx : Nat} (hcl : cl[b]? = some (C, T, N)) (hin : ∀ w ∈ u_ws C T N, w ∈ Ts) (hk : a < N)
    (hlink : Cond.fieldLink own idx (T a).1 (T a).2.1 (T a).2.2.1 ∈ Ts) (hf : (am_fk b)[a]? = some true) (hd : decode cc pc = .ok (.getfield idx, 3) ∧ nx = pc + 3) (h : am_getr (am_Wa p l e R s m args below meth c Q D cl t ad A H0 nL) nx a b ls st I P J n) : (am_Wa p l e R s m args below meth c Q D cl t ad A H0 nL) pc ls st I P J n := by
  unfold am_getr at h
  obtain ⟨hd, rfl⟩ := hd
  split at h
  · rename_i o st'
    intro H locs cells slots lj hP hD hS hL hw hc hs
    have ho := am_kd_lt h.1 (by decide)
    have e2 := am_ws_at t ad I P J ho
    rw [am_ent5 t ad I P J h.1] at e2
    have e3 := am_fs_r ad I P o (am_fk b) 0 a hf
    rw [Nat.zero_add] at e3
    exact va_get hexec hb hts hin hown hK hP o e2 hcl a hk (hts _ hlink) (fun x hx => hx) e3 hd (h.2 H locs cells slots lj hP hD hS hL hw hc hs)
  · exact h.elim
theorem so_puti (hexec : p.tables.exec = Jvm.exec) (hb : c.code = cc) {Ts : List Cond} (hts : ∀ w ∈ Ts, w.before args s = true) (hK : va_K D cl (am_tys t) s) {own C : String} (hown : s.vm.findClass own = some m.cls) {T : u_T} {N idx : Nat} (hcl : cl[b]? = some (C, T, N)) (hin : ∀ w ∈ u_ws C T N, w ∈ Ts) (hk : a < N)
    {ty0 : Nat → FieldType} (hty : ∀ k, k < N → parseFieldDescriptor (T k).2.2.1 = some (ty0 k)) (hnm : ∀ a, a < N → ∀ b, b < N → a ≠ b → (T a).2.1 ≠ (T b).2.1) (hfin : (T a).2.2.2 = false) (hdi : parseFieldDescriptor (T a).2.2.1 = some .int)
    (hlink : Cond.fieldLink own idx (T a).1 (T a).2.1 (T a).2.2.1 ∈ Ts) (hf : (am_fk b)[a]? = some false) (hd : decode cc pc = .ok (.putfield idx, 3) ∧ nx = pc + 3) (h : am_puti (am_Wa p l e R s m args below meth c Q D cl t ad A H0 nL) nx a b ls st I P J n) : (am_Wa p l e R s m args below meth c Q D cl t ad A H0 nL) pc ls st I P J n := by
  unfold am_puti at h
  obtain ⟨hd, rfl⟩ := hd
  split at h
  · rename_i x o st'
    intro H locs cells slots lj hP hD hS hL hw hc hs
    have ho := am_kd_lt h.1 (by decide)
    have e2 := am_ws_at t ad I P J ho
    rw [am_ent5 t ad I P J h.1] at e2
    refine va_put hexec hb hts hin ty0 hty hnm hown hK hP hD hS o e2 hcl a hk (hts _ hlink) (fun x hx => hx) hfin hdi rfl rfl (by rw [am_fs_len]; exact (List.getElem?_eq_some_iff.mp hf).1) hd fun H1 locs1 g1 g2 g3 => ?_
    have e3 : (am_ws t ad I P J).set o (ad o, .inr (b, (am_fs ad I P o 0 (am_fk b)).set a (.int x))) = am_ws t ad (am_ui I o a x) P J :=
      am_ws_set ho (by rw [am_ent5 t ad _ P J h.1, am_fs_seti _ _ _ _ _ _ _ _ hf, Nat.zero_add]) (fun j hj => am_ent_same (am_ui_ne I a x hj) rfl rfl)
    have g1' : va_P D cl (am_ws t ad (am_ui I o a x) P J) H1 := e3 ▸ g1
    have g2' : va_D A (am_ws t ad (am_ui I o a x) P J) := e3 ▸ g2
    exact h.2 H1 locs1 cells slots lj g1' g2' g3 hL hw hc hs
  · exact h.elim
theorem so_putr (hexec : p.tables.exec = Jvm.exec) (hb : c.code = cc) {Ts : List Cond} (hts : ∀ w ∈ Ts, w.before args s = true) (hK : va_K D cl (am_tys t) s) {own C : String} (hown : s.vm.findClass own = some m.cls) {T : u_T} {N idx : Nat} (hcl : cl[b]? = some (C, T, N)) (hin : ∀ w ∈ u_ws C T N, w ∈ Ts) (hk : a < N)
    {ty0 : Nat → FieldType} (hty : ∀ k, k < N → parseFieldDescriptor (T k).2.2.1 = some (ty0 k)) (hnm : ∀ a, a < N → ∀ b, b < N → a ≠ b → (T a).2.1 ≠ (T b).2.1) (hfin : (T a).2.2.2 = false) {ft : FieldType} (hdi : parseFieldDescriptor (T a).2.2.1 = some ft) (hft : (∃ z, ft = .object z) ∨ ∃ z, ft = .array z)
    (hlink : Cond.fieldLink own idx (T a).1 (T a).2.1 (T a).2.2.1 ∈ Ts) (hf : (am_fk b)[a]? = some true) (hd : decode cc pc = .ok (.putfield idx, 3) ∧ nx = pc + 3) (h : am_putr (am_Wa p l e R s m args below meth c Q D cl t ad A H0 nL) nx a b ls st I P J n) : (am_Wa p l e R s m args below meth c Q D cl t ad A H0 nL) pc ls st I P J n := by
  unfold am_putr at h
  obtain ⟨hd, rfl⟩ := hd
  split at h
  · rename_i x o st'
    intro H locs cells slots lj hP hD hS hL hw hc hs
    have ho := am_kd_lt h.1 (by decide)
    have e2 := am_ws_at t ad I P J ho
    rw [am_ent5 t ad I P J h.1] at e2
    refine va_put hexec hb hts hin ty0 hty hnm hown hK hP hD hS o e2 hcl a hk (hts _ hlink) (fun x hx => hx) hfin hdi (v := va_re ad x) (by rcases hft with ⟨z, rfl⟩ | ⟨z, rfl⟩ <;> cases x <;> rfl) (by rcases hft with ⟨z, rfl⟩ | ⟨z, rfl⟩ <;> cases x <;> rfl) (by rw [am_fs_len]; exact (List.getElem?_eq_some_iff.mp hf).1) hd fun H1 locs1 g1 g2 g3 => ?_
    have e3 : (am_ws t ad I P J).set o (ad o, .inr (b, (am_fs ad I P o 0 (am_fk b)).set a (va_re ad x))) = am_ws t ad I (am_up P o a x) J :=
      am_ws_set ho (by rw [am_ent5 t ad I _ J h.1, am_fs_setr _ _ _ _ _ _ _ _ hf, Nat.zero_add]) (fun j hj => am_ent_same rfl (am_up_ne P a x hj) rfl)
    have g1' : va_P D cl (am_ws t ad I (am_up P o a x) J) H1 := e3 ▸ g1
    have g2' : va_D A (am_ws t ad I (am_up P o a x) J) := e3 ▸ g2
    exact h.2 H1 locs1 cells slots lj g1' g2' g3 hL hw hc hs
  · exact h.elim
theorem so_iald (hexec : p.tables.exec = Jvm.exec) (hb : c.code = cc) {sc : am_S} (hK : va_K D cl (am_tys t) s) (hX : va_X (ad 900) sc.1 sc.2 s H0) (hbl : ad 900 < H0.size) (hbA : ¬ A (ad 900)) (hd : decode cc pc = .ok (.iaload, 1) ∧ nx = pc + 1) (h : am_iald sc (am_Wa p l e R s m args below meth c Q D cl t ad A H0 nL) nx ls st I P J n) : (am_Wa p l e R s m args below meth c Q D cl t ad A H0 nL) pc ls st I P J n := by
  unfold am_iald at h
  obtain ⟨hd, rfl⟩ := hd
  split at h
  · rename_i x o st'
    cases h9 : Nat.beq o 900 with
    | true =>
      simp only [h9] at h
      have ho := Nat.eq_of_beq_eq_true h9
      subst ho
      intro H locs cells slots lj hP hD hS hL hw hc hs
      exact va_sld hexec hb hX hbl hbA hS h.1 hd (h.2 H locs cells slots lj hP hD hS hL hw hc hs)
    | false =>
      simp only [h9] at h
      intro H locs cells slots lj hP hD hS hL hw hc hs
      have hk := am_ai_kd h.1
      have ho := am_kd_lt hk (by decide)
      have e2 := am_ws_at t ad I P J ho
      rw [am_ent0 t ad I P J hk] at e2
      exact va_iald hexec hb hK hP o 0 e2 rfl h.1 hd (h.2 H locs cells slots lj hP hD hS hL hw hc hs)
  · exact h.elim
theorem so_iast (hexec : p.tables.exec = Jvm.exec) (hb : c.code = cc) (hK : va_K D cl (am_tys t) s) (hd : decode cc pc = .ok (.iastore, 1) ∧ nx = pc + 1) (h : am_iast (am_Wa p l e R s m args below meth c Q D cl t ad A H0 nL) nx ls st I P J n) : (am_Wa p l e R s m args below meth c Q D cl t ad A H0 nL) pc ls st I P J n := by
  unfold am_iast at h
  obtain ⟨hd, rfl⟩ := hd
  split at h
  · rename_i v x o st'
    intro H locs cells slots lj hP hD hS hL hw hc hs
    have hk := am_ai_kd h.1
    have ho := am_kd_lt hk (by decide)
    have e2 := am_ws_at t ad I P J ho
    rw [am_ent0 t ad I P J hk] at e2
    refine va_iast hexec hb hK hP hD hS o 0 e2 rfl h.1 hd fun H1 locs1 g1 g2 g3 => ?_
    have e3 : (am_ws t ad I P J).set o (ad o, .inl (t 0, am_ai o, .inl (upd (I o) x.toNatClampNeg v))) = am_ws t ad (am_ui I o x.toNatClampNeg v) P J :=
      am_ws_set ho (by rw [am_ent0 t ad _ P J hk, am_ui_eq]) (fun j hj => am_ent_same (am_ui_ne I _ v hj) rfl rfl)
    have g1' : va_P D cl (am_ws t ad (am_ui I o x.toNatClampNeg v) P J) H1 := e3 ▸ g1
    have g2' : va_D A (am_ws t ad (am_ui I o x.toNatClampNeg v) P J) := e3 ▸ g2
    exact h.2 H1 locs1 cells slots lj g1' g2' g3 hL hw hc hs
  · exact h.elim
theorem so_zald (hexec : p.tables.exec = Jvm.exec) (hb : c.code = cc) (hK : va_K D cl (am_tys t) s) (hd : decode cc pc = .ok (.baload, 1) ∧ nx = pc + 1) (h : am_zald (am_Wa p l e R s m args below meth c Q D cl t ad A H0 nL) nx ls st I P J n) : (am_Wa p l e R s m args below meth c Q D cl t ad A H0 nL) pc ls st I P J n := by
  unfold am_zald at h
  obtain ⟨hd, rfl⟩ := hd
  split at h
  · rename_i x o st'
    intro H locs cells slots lj hP hD hS hL hw hc hs
    have hk := am_az_kd h.1
    have ho := am_kd_lt hk (by decide)
    have e2 := am_ws_at t ad I P J ho
    rw [am_ent1 t ad I P J hk] at e2
    exact va_zald hexec hb hK hP o 1 e2 rfl h.1 hd (h.2 H locs cells slots lj hP hD hS hL hw hc hs)
  · exact h.elim
theorem so_zast (hexec : p.tables.exec = Jvm.exec) (hb : c.code = cc) (hK : va_K D cl (am_tys t) s) (hd : decode cc pc = .ok (.bastore, 1) ∧ nx = pc + 1) (h : am_zast (am_Wa p l e R s m args below meth c Q D cl t ad A H0 nL) nx ls st I P J n) : (am_Wa p l e R s m args below meth c Q D cl t ad A H0 nL) pc ls st I P J n := by
  unfold am_zast at h
  obtain ⟨hd, rfl⟩ := hd
  split at h
  · rename_i v x o st'
    intro H locs cells slots lj hP hD hS hL hw hc hs
    have hk := am_az_kd h.1
    have ho := am_kd_lt hk (by decide)
    have e2 := am_ws_at t ad I P J ho
    rw [am_ent1 t ad I P J hk] at e2
    refine va_zast hexec hb hK hP hD hS o 1 e2 rfl h.1 hd fun H1 locs1 g1 g2 g3 => ?_
    have e3 : (am_ws t ad I P J).set o (ad o, .inl (t 1, am_az o, .inl (upd (I o) x.toNatClampNeg (vp_nar .boolean v)))) = am_ws t ad (am_ui I o x.toNatClampNeg (vp_nar .boolean v)) P J :=
      am_ws_set ho (by rw [am_ent1 t ad _ P J hk, am_ui_eq]) (fun j hj => am_ent_same (am_ui_ne I _ _ hj) rfl rfl)
    have g1' : va_P D cl (am_ws t ad (am_ui I o x.toNatClampNeg (vp_nar .boolean v)) P J) H1 := e3 ▸ g1
    have g2' : va_D A (am_ws t ad (am_ui I o x.toNatClampNeg (vp_nar .boolean v)) P J) := e3 ▸ g2
    exact h.2 H1 locs1 cells slots lj g1' g2' g3 hL hw hc hs
  · exact h.elim
theorem so_lald (hexec : p.tables.exec = Jvm.exec) (hb : c.code = cc) (hK : va_K D cl (am_tys t) s) (hd : decode cc pc = .ok (.laload, 1) ∧ nx = pc + 1) (h : am_lald (am_Wa p l e R s m args below meth c Q D cl t ad A H0 nL) nx ls st I P J n) : (am_Wa p l e R s m args below meth c Q D cl t ad A H0 nL) pc ls st I P J n := by
  unfold am_lald at h
  obtain ⟨hd, rfl⟩ := hd
  split at h
  · rename_i x o st'
    intro H locs cells slots lj hP hD hS hL hw hc hs
    have hk := am_aj_kd h.1
    have ho := am_kd_lt hk (by decide)
    have e2 := am_ws_at t ad I P J ho
    rw [am_ent2 t ad I P J hk] at e2
    exact va_lald hexec hb hK hP o 2 e2 rfl h.1 hd (h.2 H locs cells slots lj hP hD hS hL hw hc hs)
  · exact h.elim
theorem so_last (hexec : p.tables.exec = Jvm.exec) (hb : c.code = cc) (hK : va_K D cl (am_tys t) s) (hd : decode cc pc = .ok (.lastore, 1) ∧ nx = pc + 1) (h : am_last (am_Wa p l e R s m args below meth c Q D cl t ad A H0 nL) nx ls st I P J n) : (am_Wa p l e R s m args below meth c Q D cl t ad A H0 nL) pc ls st I P J n := by
  unfold am_last at h
  obtain ⟨hd, rfl⟩ := hd
  split at h
  · rename_i v x o st'
    intro H locs cells slots lj hP hD hS hL hw hc hs
    have hk := am_aj_kd h.1
    have ho := am_kd_lt hk (by decide)
    have e2 := am_ws_at t ad I P J ho
    rw [am_ent2 t ad I P J hk] at e2
    refine va_last hexec hb hK hP hD hS o 2 e2 rfl h.1 hd fun H1 locs1 g1 g2 g3 => ?_
    have e3 : (am_ws t ad I P J).set o (ad o, .inl (t 2, am_aj o, .inr (.inl (vp_updL (J o) x.toNatClampNeg v)))) = am_ws t ad I P (am_uj J o x.toNatClampNeg v) :=
      am_ws_set ho (by rw [am_ent2 t ad I P _ hk, am_uj_eq]) (fun j hj => am_ent_same rfl rfl (am_uj_ne J _ v hj))
    have g1' : va_P D cl (am_ws t ad I P (am_uj J o x.toNatClampNeg v)) H1 := e3 ▸ g1
    have g2' : va_D A (am_ws t ad I P (am_uj J o x.toNatClampNeg v)) := e3 ▸ g2
    exact h.2 H1 locs1 cells slots lj g1' g2' g3 hL hw hc hs
  · exact h.elim
theorem so_aald (hexec : p.tables.exec = Jvm.exec) (hb : c.code = cc) (hK : va_K D cl (am_tys t) s) (hd : decode cc pc = .ok (.aaload, 1) ∧ nx = pc + 1) (h : am_aald (am_Wa p l e R s m args below meth c Q D cl t ad A H0 nL) nx ls st I P J n) : (am_Wa p l e R s m args below meth c Q D cl t ad A H0 nL) pc ls st I P J n := by
  unfold am_aald at h
  obtain ⟨hd, rfl⟩ := hd
  split at h
  · rename_i x o st'
    intro H locs cells slots lj hP hD hS hL hw hc hs
    rcases am_ar_kd h.1 with hk | hk
    · have ho := am_kd_lt hk (by decide)
      have e2 := am_ws_at t ad I P J ho
      rw [am_ent3 t ad I P J hk] at e2
      exact va_aldq hexec hb hK hP o 3 e2 rfl h.1 hd (h.2 H locs cells slots lj hP hD hS hL hw hc hs)
    · have ho := am_kd_lt hk (by decide)
      have e2 := am_ws_at t ad I P J ho
      rw [am_ent4 t ad I P J hk] at e2
      have hlt : x.toNatClampNeg < am_ar o := Nat.not_le.mp fun q => h.1 (Or.inr q)
      exact W.aald (v := va_re ad (P o x.toNatClampNeg)) (ty := .array .int) hexec hb (hP o _ e2) ((hK.2 4 _ rfl).1 (am_ar o) (fun j => va_rf ((P o j).map ad))) rfl (fun q => by cases q) (by show ¬ (x < 0 ∨ (arrV _ _ _).slots.size ≤ _); rw [arrV_size]; exact h.1) (by show (arrV _ _ _).slots[_]? = _; rw [arrV_read _ _ hlt]; rfl) rfl rfl hd (h.2 H locs cells slots lj hP hD hS hL hw hc hs)
  · exact h.elim
theorem so_alen (hexec : p.tables.exec = Jvm.exec) (hb : c.code = cc) {sc : am_S} (hX : va_X (ad 900) sc.1 sc.2 s H0) (hbl : ad 900 < H0.size) (hbA : ¬ A (ad 900)) (hd : decode cc pc = .ok (.arraylength, 1) ∧ nx = pc + 1) (h : am_alen sc (am_Wa p l e R s m args below meth c Q D cl t ad A H0 nL) nx ls st I P J n) : (am_Wa p l e R s m args below meth c Q D cl t ad A H0 nL) pc ls st I P J n := by
  unfold am_alen at h
  obtain ⟨hd, rfl⟩ := hd
  split at h
  · rename_i o st'
    obtain ⟨ho, h⟩ := h
    subst ho
    intro H locs cells slots lj hP hD hS hL hw hc hs
    exact va_slen hexec hb hX hbl hbA hS hd (h H locs cells slots lj hP hD hS hL hw hc hs)
  · exact h.elim
theorem so_copy (hexec : p.tables.exec = Jvm.exec) (hb : c.code = cc) {Ts : List Cond} (hts : ∀ w ∈ Ts, w.before args s = true) (hK : va_K D cl (am_tys t) s) {own : String} (hown : s.vm.findClass own = some m.cls) {idx : Nat} (hml : c.maxLocals = nL) (hlink : Cond.methodLink own idx arraycopyName ∈ Ts) (hnat : Cond.native arraycopyName ∈ Ts) (hstat : Cond.static arraycopyName ∈ Ts) (hini : Cond.initialized "java/lang/System" ∈ Ts)
    (hfr : 1 ≤ R.frames) (hlo : nativeFrameWords "java/lang/System" "arraycopy" 5 + 11 ≤ R.locals) (hd : decode cc pc = .ok (.invokestatic idx, 3) ∧ nx = pc + 3) (h : am_copy (am_Wa p l e R s m args below meth c Q D cl t ad A H0 nL) nx ls st I P J n) : (am_Wa p l e R s m args below meth c Q D cl t ad A H0 nL) pc ls st I P J n := by
  unfold am_copy at h
  obtain ⟨hd, rfl⟩ := hd
  split at h
  · rename_i k dp d sp o
    obtain ⟨⟨i1, i2, h1, h2, h3, h4, h5⟩, h⟩ := h
    intro H locs cells slots lj hP hD hS hL hw hc hs
    have hk := am_ai_kd i1
    have ho := am_kd_lt hk (by decide)
    have e2 := am_ws_at t ad I P J ho
    rw [am_ent0 t ad I P J hk] at e2
    have hk' := am_ai_kd i2
    have ho' := am_kd_lt hk' (by decide)
    have e2' := am_ws_at t ad I P J ho'
    rw [am_ent0 t ad I P J hk'] at e2'
    refine va_copyi hexec hb (hml.trans hL.1.symm) hown (hts _ hlink) (hts _ hnat) (hts _ hstat) (hts _ hini) hK hP hD hS o d 0 0 e2 e2' rfl rfl rfl h1 h2 h3 h4 h5 (fun i hi => rfl) hfr (by show 0 + (nativeFrameWords "java/lang/System" "arraycopy" 5 + 11) ≤ R.locals; omega) hd fun H1 locs1 g1 g2 g3 => ?_
    have e3 : (am_ws t ad I P J).set d (ad d, .inl (t 0, am_ai d, .inl (va_cpy (I o) (I d) sp.toNatClampNeg dp.toNatClampNeg k.toNatClampNeg))) = am_ws t ad (am_cp I o d sp.toNatClampNeg dp.toNatClampNeg k.toNatClampNeg) P J :=
      am_ws_set ho' (by rw [am_ent0 t ad _ P J hk', am_cp_eq]) (fun j hj => am_ent_same (am_cp_ne I _ _ _ hj) rfl rfl)
    have g1' : va_P D cl (am_ws t ad (am_cp I o d sp.toNatClampNeg dp.toNatClampNeg k.toNatClampNeg) P J) H1 := e3 ▸ g1
    have g2' : va_D A (am_ws t ad (am_cp I o d sp.toNatClampNeg dp.toNatClampNeg k.toNatClampNeg) P J) := e3 ▸ g2
    exact h H1 locs1 cells slots lj g1' g2' g3 hL hw hc hs
  · exact h.elim
variable {En : Nat → String} {K : am_K}
theorem so_end {H : Heap} {locs : List Loc} {cells slots : Nat} {v : Option am_V} (h : K (.inl v) I P J n) (hP : va_P D cl (am_ws t ad I P J) H) (hD : va_D A (am_ws t ad I P J)) (hS : va_S A H0 H locs) (hc : cells + n ≤ R.cells) (hs : slots + 6 * n ≤ R.slots) :
    ∀ u, MQ below (fun _ _ o u => o = .returned (v.map (am_v ad)) ∧ u.heap = H) args s cells slots A u → am_Q R below s D cl t ad A H0 En K u := by
  intro u hu
  obtain ⟨o, g1, g2, ⟨g3, g4⟩, L, ⟨-, g5, g6⟩, g7⟩ := hu
  exact ⟨o, g1, g2, .inl v, I, P, J, n, L, cells, slots, h, g5, g6, g7, hc, hs, by rw [g4]; exact hP, hD, ⟨by rw [g4]; exact hS.1, fun q h1 h2 => by rw [g4]; exact hS.2.1 q h1 h2, fun _ h => by cases h⟩, g3⟩
theorem so_iret (hexec : p.tables.exec = Jvm.exec) (hb : c.code = cc) (hlocks : meth.locks = false) (hd : decode cc pc = .ok (.ireturn, 1)) (hr : (b = 0 ∧ meth.sig.returnType = some .int) ∨ (b = 1 ∧ meth.sig.returnType = some .boolean)) (h : am_iret K b st I P J n) :
    (am_Wa p l e R s m args below meth c (am_Q R below s D cl t ad A H0 En K) D cl t ad A H0 nL) pc ls st I P J n := by
  unfold am_iret at h
  split at h
  · rename_i x
    intro H locs cells slots lj hP hD hS hL hw hc hs
    rcases hr with ⟨rfl, hr⟩ | ⟨rfl, hr⟩
    · exact am_mono (W.iret (free := A) hexec hb hr (fun u hu _ => ⟨rfl, hu⟩) hS.2.2 hd hlocks) (so_end (v := some (.inl x)) h hP hD hS hc hs)
    · exact am_mono (W.zret (free := A) hexec hb hr (by rcases h.1 with rfl | rfl <;> rfl) (fun u hu _ => ⟨rfl, hu⟩) hS.2.2 hd hlocks) (so_end (v := some (.inl x)) h.2 hP hD hS hc hs)
  · exact h.elim
theorem so_aret (hexec : p.tables.exec = Jvm.exec) (hb : c.code = cc) (hlocks : meth.locks = false) (hd : decode cc pc = .ok (.areturn, 1)) {rt : FieldType} (hr : meth.sig.returnType = some rt) (hrt : (∃ n, rt = .object n) ∨ ∃ t, rt = .array t) (h : am_aret K st I P J n) :
    (am_Wa p l e R s m args below meth c (am_Q R below s D cl t ad A H0 En K) D cl t ad A H0 nL) pc ls st I P J n := by
  unfold am_aret at h
  split at h
  · rename_i x
    intro H locs cells slots lj hP hD hS hL hw hc hs
    exact am_mono (W.aret (free := A) hexec hb hr hrt (va_re_or ad x) (fun u hu _ => ⟨rfl, hu⟩) hS.2.2 hd hlocks) (so_end (v := some (.inr (.inr x))) h hP hD hS hc hs)
  · exact h.elim
theorem so_vret (hexec : p.tables.exec = Jvm.exec) (hb : c.code = cc) (hlocks : meth.locks = false) (hd : decode cc pc = .ok (.return_, 1)) (hr : meth.sig.returnType = none) (h : am_vret K st I P J n) :
    (am_Wa p l e R s m args below meth c (am_Q R below s D cl t ad A H0 En K) D cl t ad A H0 nL) pc ls st I P J n := by
  unfold am_vret at h
  split at h
  · intro H locs cells slots lj hP hD hS hL hw hc hs
    exact am_mono (W.vret (free := A) hexec hb hr (fun u hu _ => ⟨rfl, hu⟩) hS.2.2 hd hlocks) (so_end (v := none) h hP hD hS hc hs)
  · exact h.elim
end MM
