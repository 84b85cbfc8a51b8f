/-! The memory's world in the heap; the soundness of the instructions that call nothing. -/
def am_v (ad : Nat → Nat) : am_V → Value
  | .inl x => .int x
  | .inr (.inl x) => .long x
  | .inr (.inr r) => va_re ad r
/-- the fields of an object; true: a reference -/
def am_fs (ad : Nat → Nat) (I : am_I) (P : am_P) (k : Nat) : Nat → List Bool → List Value
  | _, [] => []
  | j, true :: r => va_re ad (P k j) :: am_fs ad I P k (j + 1) r
  | j, false :: r => .int (I k j) :: am_fs ad I P k (j + 1) r
theorem am_fs_len (ad : Nat → Nat) (I : am_I) (P : am_P) (k : Nat) : ∀ (l : List Bool) (j : Nat), (am_fs ad I P k j l).length = l.length
  | [], _ => rfl
  | true :: r, j => by simp [am_fs, am_fs_len ad I P k r (j + 1)]
  | false :: r, j => by simp [am_fs, am_fs_len ad I P k r (j + 1)]
theorem am_fs_i (ad : Nat → Nat) (I : am_I) (P : am_P) (k : Nat) : ∀ (l : List Bool) (j a : Nat), l[a]? = some false → (am_fs ad I P k j l)[a]? = some (.int (I k (j + a)))
  | [], _, _, h => by simp at h
  | true :: r, j, 0, h => by simp at h
  | false :: r, j, 0, _ => by simp [am_fs]
  | true :: r, j, a + 1, h => by
    have h' : r[a]? = some false := by simpa using h
    have := am_fs_i ad I P k r (j + 1) a h'
    rw [show j + (a + 1) = j + 1 + a by omega]
    simpa [am_fs] using this
  | false :: r, j, a + 1, h => by
    have h' : r[a]? = some false := by simpa using h
    have := am_fs_i ad I P k r (j + 1) a h'
    rw [show j + (a + 1) = j + 1 + a by omega]
    simpa [am_fs] using this
theorem am_fs_r (ad : Nat → Nat) (I : am_I) (P : am_P) (k : Nat) : ∀ (l : List Bool) (j a : Nat), l[a]? = some true → (am_fs ad I P k j l)[a]? = some (va_re ad (P k (j + a)))
  | [], _, _, h => by simp at h
  | false :: r, j, 0, h => by simp at h
  | true :: r, j, 0, _ => by simp [am_fs]
  | true :: r, j, a + 1, h => by
    have h' : r[a]? = some true := by simpa using h
    have := am_fs_r ad I P k r (j + 1) a h'
    rw [show j + (a + 1) = j + 1 + a by omega]
    simpa [am_fs] using this
  | false :: r, j, a + 1, h => by
    have h' : r[a]? = some true := by simpa using h
    have := am_fs_r ad I P k r (j + 1) a h'
    rw [show j + (a + 1) = j + 1 + a by omega]
    simpa [am_fs] using this
theorem am_fs_same (ad : Nat → Nat) {I I' : am_I} {P P' : am_P} {k : Nat} (hI : I k = I' k) (hP : P k = P' k) : ∀ (l : List Bool) (j : Nat), am_fs ad I P k j l = am_fs ad I' P' k j l
  | [], _ => rfl
  | true :: r, j => by simp only [am_fs]; rw [am_fs_same ad hI hP r (j + 1), hP]
  | false :: r, j => by simp only [am_fs]; rw [am_fs_same ad hI hP r (j + 1), hI]
theorem am_ui_eq (I : am_I) (o a : Nat) (x : Int32) : am_ui I o a x o = upd (I o) a x := by simp [am_ui, Nat.beq_refl]
theorem am_ui_ne (I : am_I) {o q : Nat} (a : Nat) (x : Int32) (h : q ≠ o) : am_ui I o a x q = I q := by
  have : Nat.beq q o = false := by
    cases hb : Nat.beq q o
    · rfl
    · exact absurd (Nat.eq_of_beq_eq_true hb) h
  simp [am_ui, this]
theorem am_up_eq (P : am_P) (o a : Nat) (x : Option Nat) : am_up P o a x o = va_up (P o) a x := by simp [am_up, Nat.beq_refl]
theorem am_up_ne (P : am_P) {o q : Nat} (a : Nat) (x : Option Nat) (h : q ≠ o) : am_up P o a x q = P q := by
  have : Nat.beq q o = false := by
    cases hb : Nat.beq q o
    · rfl
    · exact absurd (Nat.eq_of_beq_eq_true hb) h
  simp [am_up, this]
theorem am_uj_eq (J : am_J) (o a : Nat) (x : Int64) : am_uj J o a x o = vp_updL (J o) a x := by simp [am_uj, Nat.beq_refl]
theorem am_uj_ne (J : am_J) {o q : Nat} (a : Nat) (x : Int64) (h : q ≠ o) : am_uj J o a x q = J q := by
  have : Nat.beq q o = false := by
    cases hb : Nat.beq q o
    · rfl
    · exact absurd (Nat.eq_of_beq_eq_true hb) h
  simp [am_uj, this]
theorem am_cp_eq (I : am_I) (a d sp dp n : Nat) : am_cp I a d sp dp n d = va_cpy (I a) (I d) sp dp n := by simp [am_cp, Nat.beq_refl]
theorem am_cp_ne (I : am_I) {a d q : Nat} (sp dp n : Nat) (h : q ≠ d) : am_cp I a d sp dp n q = I q := by
  have : Nat.beq q d = false := by
    cases hb : Nat.beq q d
    · rfl
    · exact absurd (Nat.eq_of_beq_eq_true hb) h
  simp [am_cp, this]
theorem am_fs_seti (ad : Nat → Nat) (I : am_I) (P : am_P) (k : Nat) (x : Int32) : ∀ (l : List Bool) (j a : Nat), l[a]? = some false → (am_fs ad I P k j l).set a (.int x) = am_fs ad (am_ui I k (j + a) x) P k j l := by
  intro l
  induction l with
  | nil => intro j a h; simp at h
  | cons b r ih =>
    intro j a h
    cases a with
    | zero =>
      have hb : b = false := by simpa using h
      subst hb
      have rest : ∀ (l : List Bool) (i : Nat), j < i → am_fs ad I P k i l = am_fs ad (am_ui I k (j + 0) x) P k i l := by
        intro l
        induction l with
        | nil => intro i _; rfl
        | cons b r ih2 =>
          intro i hi
          cases b
          · simp only [am_fs]
            rw [ih2 (i + 1) (by omega), am_ui_eq]
            simp [upd, show ¬ i = j by omega]
          · simp only [am_fs]
            rw [ih2 (i + 1) (by omega)]
      simp only [am_fs, List.set_cons_zero]
      rw [← rest r (j + 1) (by omega), am_ui_eq]
      simp [upd]
    | succ a =>
      have h' : r[a]? = some false := by simpa using h
      have := ih (j + 1) a h'
      rw [show j + 1 + a = j + (a + 1) by omega] at this
      cases b
      · simp only [am_fs, List.set_cons_succ]
        rw [this, am_ui_eq]
        simp [upd]
      · simp only [am_fs, List.set_cons_succ]
        rw [this]
theorem am_fs_setr (ad : Nat → Nat) (I : am_I) (P : am_P) (k : Nat) (x : Option Nat) : ∀ (l : List Bool) (j a : Nat), l[a]? = some true → (am_fs ad I P k j l).set a (va_re ad x) = am_fs ad I (am_up P k (j + a) x) k j l := by
  intro l
  induction l with
  | nil => intro j a h; simp at h
  | cons b r ih =>
    intro j a h
    cases a with
    | zero =>
      have hb : b = true := by simpa using h
      subst hb
      have rest : ∀ (l : List Bool) (i : Nat), j < i → am_fs ad I P k i l = am_fs ad I (am_up P k (j + 0) x) k i l := by
        intro l
        induction l with
        | nil => intro i _; rfl
        | cons b r ih2 =>
          intro i hi
          cases b
          · simp only [am_fs]
            rw [ih2 (i + 1) (by omega)]
          · simp only [am_fs]
            rw [ih2 (i + 1) (by omega), am_up_eq]
            simp [va_up, show ¬ i = j by omega]
      simp only [am_fs, List.set_cons_zero]
      rw [← rest r (j + 1) (by omega), am_up_eq]
      simp [va_up]
    | succ a =>
      have h' : r[a]? = some true := by simpa using h
      have := ih (j + 1) a h'
      rw [show j + 1 + a = j + (a + 1) by omega] at this
      cases b
      · simp only [am_fs, List.set_cons_succ]
        rw [this]
      · simp only [am_fs, List.set_cons_succ]
        rw [this, am_up_eq]
        simp [va_up]
/-- which fields of a class are references, in the order of the slots -/
def am_fk : Nat → List Bool
  | 0 => [true, true, true, true, true, true]
  | 1 => [true, true, false, false]
  | 2 => [true, false, true, true, true, false, false]
  | 3 => [true, false, false, false, false, false, false, true, true, false, true]
  | 4 => [true, false]
  | 5 => [true, false, true]
  | 6 => [false, false, true, true, true]
  | 7 => [false, false, false, true]
  | _ => [true, true, false, false, false, true, true, false, false, false, false, true, true, true, false, false, false, false, false, false, false, true, true, true, true, true, false, true, false, true, false, true, true, false, true, false]
def am_ent (t : Nat → ClassId) (ad : Nat → Nat) (I : am_I) (P : am_P) (J : am_J) (k : Nat) : va_E := match am_kd k with
  | (0, n) => .inl (t 0, n, .inl (I k))
  | (1, n) => .inl (t 1, n, .inl (I k))
  | (2, n) => .inl (t 2, n, .inr (.inl (J k)))
  | (3, n) => .inl (t 3, n, .inr (.inr (.inr (.inr fun j => (P k j).map ad))))
  | (4, n) => .inl (t 4, n, .inr (.inr (.inr (.inr fun j => (P k j).map ad))))
  | (_, b) => .inr (b, am_fs ad I P k 0 (am_fk b))
def am_ws (t : Nat → ClassId) (ad : Nat → Nat) (I : am_I) (P : am_P) (J : am_J) : va_W := (List.range 72).map fun k => (ad k, am_ent t ad I P J k)
def am_tys (t : Nat → ClassId) : List (ClassId × FieldType) := [(t 0, .int), (t 1, .boolean), (t 2, .long), (t 3, .object "LineDebugger$Rule"), (t 4, .array .int)]
theorem am_kd_lt {k a b : Nat} (h : am_kd k = (a, b)) (ha : a ≠ 9) : k < 72 := by
  apply Nat.lt_of_not_le
  intro hk
  have hb : ∀ m, m < 72 → Nat.ble k m = false := by
    intro m hm
    cases hh : Nat.ble k m
    · rfl
    · have := Nat.le_of_ble_eq_true hh
      omega
  simp only [am_kd, hb 21 (by omega), hb 38 (by omega), hb 39 (by omega), hb 47 (by omega), hb 71 (by omega)] at h
  cases h
  exact ha rfl
theorem am_ws_at (t : Nat → ClassId) (ad : Nat → Nat) (I : am_I) (P : am_P) (J : am_J) {k : Nat} (hk : k < 72) : (am_ws t ad I P J)[k]? = some (ad k, am_ent t ad I P J k) := by
  simp [am_ws, List.getElem?_map, List.getElem?_range hk]
theorem am_ws_set {t : Nat → ClassId} {ad : Nat → Nat} {I I' : am_I} {P P' : am_P} {J J' : am_J} {k : Nat} {e : va_E} (hk : k < 72) (h1 : am_ent t ad I' P' J' k = e) (h2 : ∀ j, j ≠ k → am_ent t ad I' P' J' j = am_ent t ad I P J j) :
    (am_ws t ad I P J).set k (ad k, e) = am_ws t ad I' P' J' := by
  apply List.ext_getElem?
  intro j
  rw [List.getElem?_set]
  by_cases hj : k = j
  · subst hj
    have hk' : k < (am_ws t ad I P J).length := by simpa [am_ws] using hk
    rw [if_pos rfl, if_pos hk', am_ws_at _ _ _ _ _ hk, h1]
  · rw [if_neg hj]
    by_cases hj2 : j < 72
    · rw [am_ws_at _ _ _ _ _ hj2, am_ws_at _ _ _ _ _ hj2, h2 j (Ne.symm hj)]
    · rw [List.getElem?_eq_none (by simp [am_ws]; omega), List.getElem?_eq_none (by simp [am_ws]; omega)]
theorem am_ent_same {t : Nat → ClassId} {ad : Nat → Nat} {I I' : am_I} {P P' : am_P} {J J' : am_J} {k : Nat} (hI : I' k = I k) (hP : P' k = P k) (hJ : J' k = J k) : am_ent t ad I' P' J' k = am_ent t ad I P J k := by
  unfold am_ent
  rw [hI, hP, hJ]
  split <;> first | rfl | exact congrArg _ (congrArg _ (am_fs_same ad hI hP _ _))
/-- locals: each place once, no long -/
def am_lw (ls : am_L) : Prop := (ls.map Prod.fst).Nodup ∧ ∀ q ∈ ls, ∀ x, q.2 ≠ .inr (.inl x)
def am_lm (ad : Nat → Nat) (ls : am_L) : List (Nat × Value) := ls.map fun q => (q.1, am_v ad q.2)
def am_Wa (p : Program) (l : Launch) (e : Env) (R : Room) (s : State) (m : MethodId) (args : Array Value) (below : List Frame) (meth : Method) (c : Code) (Q : State → Prop)
    (D : va_G) (cl : List vw_C) (t : Nat → ClassId) (ad : Nat → Nat) (A : Nat → Prop) (H0 : Heap) (nL : Nat) : am_W := fun pc ls st I P J n =>
  ∀ (H : Heap) (locs : List Loc) (cells slots : Nat) (lj : Array Slot), va_P D cl (am_ws t ad I P J) H → va_D A (am_ws t ad I P J) → va_S A H0 H locs → lv_has lj nL (am_lm ad ls) → am_lw ls →
    cells + n ≤ R.cells → slots + 6 * n ≤ R.slots → W p l e R s m args below meth c H locs cells slots Q (F0 m pc lj (st.map (am_v ad)))
theorem am_ld_mem {ls : am_L} {i : Nat} {k : am_V → Prop} (h : am_ld ls i k) : ∃ v, (i, v) ∈ ls ∧ k v := by
  induction ls with
  | nil => exact h.elim
  | cons q r ih =>
    obtain ⟨j, v⟩ := q
    cases hb : Nat.beq j i with
    | true =>
      simp only [am_ld, hb] at h
      have hj := Nat.eq_of_beq_eq_true hb
      subst hj
      exact ⟨v, List.mem_cons_self, h⟩
    | false =>
      simp only [am_ld, hb] at h
      obtain ⟨w, h1, h2⟩ := ih h
      exact ⟨w, List.mem_cons_of_mem _ h1, h2⟩
theorem am_st_mem {i : Nat} {v : am_V} : ∀ {ls : am_L} {k : am_L → Prop}, (ls.map Prod.fst).Nodup → am_st ls i v k → ∃ ls', k ls' ∧ (ls'.map Prod.fst).Nodup ∧ ∀ q ∈ ls', q = (i, v) ∨ (q ∈ ls ∧ q.1 ≠ i) := by
  intro ls
  induction ls with
  | nil =>
    intro k _ h
    exact ⟨[(i, v)], h, by simp, fun q hq => Or.inl (List.mem_singleton.mp hq)⟩
  | cons q r ih =>
    intro k hn h
    obtain ⟨j, w⟩ := q
    simp only [List.map_cons, List.nodup_cons] at hn
    cases hb : Nat.beq j i with
    | true =>
      simp only [am_st, hb] at h
      have hj := Nat.eq_of_beq_eq_true hb
      subst hj
      refine ⟨_, h, by simpa using hn, fun q hq => ?_⟩
      rcases List.mem_cons.mp hq with rfl | hq
      · exact Or.inl rfl
      · exact Or.inr ⟨List.mem_cons_of_mem _ hq, fun he => hn.1 (he ▸ List.mem_map_of_mem hq)⟩
    | false =>
      simp only [am_st, hb] at h
      have hj : j ≠ i := fun he => by
        subst he
        rw [Nat.beq_refl] at hb
        cases hb
      obtain ⟨r', h1, h2, h3⟩ := ih hn.2 h
      refine ⟨_, h1, ?_, fun q hq => ?_⟩
      · simp only [List.map_cons, List.nodup_cons]
        refine ⟨fun hm => ?_, h2⟩
        obtain ⟨q, hq, he⟩ := List.mem_map.mp hm
        rcases h3 q hq with rfl | ⟨h4, -⟩
        · exact hj he.symm
        · exact hn.1 (he ▸ List.mem_map_of_mem h4)
      · rcases List.mem_cons.mp hq with rfl | hq
        · exact Or.inr ⟨List.mem_cons_self, hj⟩
        · rcases h3 q hq with h | ⟨h4, h5⟩
          · exact Or.inl h
          · exact Or.inr ⟨List.mem_cons_of_mem _ h4, h5⟩
theorem am_lm_at {ad : Nat → Nat} {ls : am_L} {lj : Array Slot} {nL i : Nat} {v : am_V} (h : lv_has lj nL (am_lm ad ls)) (hm : (i, v) ∈ ls) : lj[i]? = some (.val (am_v ad v)) :=
  h.2.2 (i, am_v ad v) (List.mem_map_of_mem (f := fun q : Nat × am_V => (q.1, am_v ad q.2)) hm)
theorem am_v_cat {ad : Nat → Nat} {v : am_V} (h : ∀ x, v ≠ .inr (.inl x)) : (am_v ad v).category = 1 := by
  match v with
  | .inl x => rfl
  | .inr (.inl x) => exact absurd rfl (h x)
  | .inr (.inr none) => rfl
  | .inr (.inr (some r)) => rfl
/-- a store into the locals -/
theorem am_stored {ad : Nat → Nat} {ls ls' : am_L} {lj : Array Slot} {nL i : Nat} {v : am_V} (h : lv_has lj nL (am_lm ad ls)) (hw : am_lw ls) (hv : ∀ x, v ≠ .inr (.inl x)) (hn : (ls'.map Prod.fst).Nodup)
    (hm : ∀ q ∈ ls', q = (i, v) ∨ (q ∈ ls ∧ q.1 ≠ i)) {lj' : Array Slot} (h' : lv_has lj' nL ((i, am_v ad v) :: (am_lm ad ls).filter (fun q => !(q.1 == i) && !(q.1 + 1 == i && q.2.category == 2)))) : lv_has lj' nL (am_lm ad ls') ∧ am_lw ls' := by
  refine ⟨⟨h'.1, h'.2.1, fun q hq => ?_⟩, hn, fun q hq x => ?_⟩
  · obtain ⟨r, hr, rfl⟩ := List.mem_map.mp hq
    rcases hm r hr with rfl | ⟨h1, h2⟩
    · exact h'.2.2 _ List.mem_cons_self
    · refine h'.2.2 _ (List.mem_cons_of_mem _ (List.mem_filter.mpr ⟨List.mem_map_of_mem (f := fun q : Nat × am_V => (q.1, am_v ad q.2)) h1, ?_⟩))
      have hc : (am_v ad r.2).category = 1 := am_v_cat (hw.2 r h1)
      simp [h2, hc]
  · rcases hm q hq with rfl | ⟨h1, -⟩
    · exact hv x
    · exact hw.2 q h1 x

section SO
variable {p : Program} {l : Launch} {e : Env} {R : Room} {s : State} {m : MethodId} {args : Array Value} {below : List Frame} {meth : Method} {c : Code} {Q : State → Prop}
variable {D : va_G} {cl : List vw_C} {t : Nat → ClassId} {ad : Nat → Nat} {A : Nat → Prop} {H0 : Heap} {nL : Nat} {cc : ByteArray} {pc nx a b n : Nat} {ls : am_L} {st : List am_V} {I : am_I} {P : am_P} {J : am_J}
theorem so_const (hexec : p.tables.exec = Jvm.exec) (hb : c.code = cc) {v : Int} {k : Int32} (hd : (decode cc pc = .ok (.iconst v, 1) ∧ Int32.ofInt v = k ∧ nx = pc + 1) ∨ (decode cc pc = .ok (.bipush v, 2) ∧ (Int8.ofInt v).toInt32 = k ∧ nx = pc + 2) ∨ (decode cc pc = .ok (.sipush v, 3) ∧ (Int16.ofInt v).toInt32 = k ∧ nx = pc + 3))
    (h : (am_Wa p l e R s m args below meth c Q D cl t ad A H0 nL) nx ls (.inl k :: st) I P J n) : (am_Wa p l e R s m args below meth c Q D cl t ad A H0 nL) pc ls st I P J n := by
  intro H locs cells slots lj hP hD hS hL hw hc hs
  rcases hd with ⟨h1, h2, rfl⟩ | ⟨h1, h2, rfl⟩ | ⟨h1, h2, rfl⟩
  · exact lv_iconst hexec hb h1 h2 (h H locs cells slots lj hP hD hS hL hw hc hs)
  · exact lv_bipush hexec hb h1 h2 (h H locs cells slots lj hP hD hS hL hw hc hs)
  · exact lv_sipush hexec hb h1 h2 (h H locs cells slots lj hP hD hS hL hw hc hs)
theorem so_iload (hexec : p.tables.exec = Jvm.exec) (hb : c.code = cc) (hd : (decode cc pc = .ok (.iload a, 2) ∧ nx = pc + 2) ∨ ∃ f : Fin 4, f.val = a ∧ decode cc pc = .ok (.iload_n f, 1) ∧ nx = pc + 1) (h : am_iload (am_Wa p l e R s m args below meth c Q D cl t ad A H0 nL) nx a ls st I P J n) : (am_Wa p l e R s m args below meth c Q D cl t ad A H0 nL) pc ls st I P J n := by
  obtain ⟨v, hm, hv⟩ := am_ld_mem h
  match v, hv with
  | .inl z, hv =>
    intro H locs cells slots lj hP hD hS hL hw hc hs
    have hl := am_lm_at hL hm
    rcases hd with ⟨h1, rfl⟩ | ⟨f, hf, h1, rfl⟩
    · exact lv_iload hexec hb h1 hl (hv H locs cells slots lj hP hD hS hL hw hc hs)
    · exact lv_iload_n hexec hb h1 hf hl (hv H locs cells slots lj hP hD hS hL hw hc hs)
  | .inr _, hv => exact hv.elim
theorem so_aload (hexec : p.tables.exec = Jvm.exec) (hb : c.code = cc) (hd : (decode cc pc = .ok (.aload a, 2) ∧ nx = pc + 2) ∨ ∃ f : Fin 4, f.val = a ∧ decode cc pc = .ok (.aload_n f, 1) ∧ nx = pc + 1) (h : am_aload (am_Wa p l e R s m args below meth c Q D cl t ad A H0 nL) nx a ls st I P J n) : (am_Wa p l e R s m args below meth c Q D cl t ad A H0 nL) pc ls st I P J n := by
  obtain ⟨v, hm, hv⟩ := am_ld_mem h
  match v, hv with
  | .inl z, hv => exact hv.elim
  | .inr (.inl z), hv => exact hv.elim
  | .inr (.inr none), hv =>
    intro H locs cells slots lj hP hD hS hL hw hc hs
    have hl := am_lm_at hL hm
    rcases hd with ⟨h1, rfl⟩ | ⟨f, hf, h1, rfl⟩
    · exact lv_aloadN hexec hb h1 hl (hv H locs cells slots lj hP hD hS hL hw hc hs)
    · exact lv_aload_nN hexec hb h1 hf hl (hv H locs cells slots lj hP hD hS hL hw hc hs)
  | .inr (.inr (some r)), hv =>
    intro H locs cells slots lj hP hD hS hL hw hc hs
    have hl := am_lm_at hL hm
    rcases hd with ⟨h1, rfl⟩ | ⟨f, hf, h1, rfl⟩
    · exact lv_aload hexec hb h1 hl (hv H locs cells slots lj hP hD hS hL hw hc hs)
    · exact lv_aload_n hexec hb h1 hf hl (hv H locs cells slots lj hP hD hS hL hw hc hs)
theorem so_istore (hexec : p.tables.exec = Jvm.exec) (hb : c.code = cc) (ha : a < nL) (hd : (decode cc pc = .ok (.istore a, 2) ∧ nx = pc + 2) ∨ ∃ f : Fin 4, f.val = a ∧ decode cc pc = .ok (.istore_n f, 1) ∧ nx = pc + 1) (h : am_istore (am_Wa p l e R s m args below meth c Q D cl t ad A H0 nL) nx a ls st I P J n) : (am_Wa p l e R s m args below meth c Q D cl t ad A H0 nL) pc ls st I P J n := by
  unfold am_istore at h
  split at h
  · rename_i z st'
    intro H locs cells slots lj hP hD hS hL hw hc hs
    obtain ⟨ls', h1, h2, h3⟩ := am_st_mem hw.1 h
    rcases hd with ⟨hd, rfl⟩ | ⟨f, hf, hd, rfl⟩
    · refine lv_istore hexec hb hd hL ha rfl fun lj' h' => ?_
      obtain ⟨e1, e2⟩ := am_stored (v := .inl z) hL hw (fun x h => by cases h) h2 h3 h'
      exact h1 H locs cells slots lj' hP hD hS e1 e2 hc hs
    · refine lv_istore_n hexec hb hd hf hL ha rfl fun lj' h' => ?_
      obtain ⟨e1, e2⟩ := am_stored (v := .inl z) hL hw (fun x h => by cases h) h2 h3 h'
      exact h1 H locs cells slots lj' hP hD hS e1 e2 hc hs
  · exact h.elim
theorem so_astore (hexec : p.tables.exec = Jvm.exec) (hb : c.code = cc) (ha : a < nL) (hd : (decode cc pc = .ok (.astore a, 2) ∧ nx = pc + 2) ∨ ∃ f : Fin 4, f.val = a ∧ decode cc pc = .ok (.astore_n f, 1) ∧ nx = pc + 1) (h : am_astore (am_Wa p l e R s m args below meth c Q D cl t ad A H0 nL) nx a ls st I P J n) : (am_Wa p l e R s m args below meth c Q D cl t ad A H0 nL) pc ls st I P J n := by
  unfold am_astore at h
  split at h
  · rename_i z st'
    intro H locs cells slots lj hP hD hS hL hw hc hs
    obtain ⟨ls', h1, h2, h3⟩ := am_st_mem hw.1 h
    cases z with
    | none =>
      rcases hd with ⟨hd, rfl⟩ | ⟨f, hf, hd, rfl⟩
      · refine lv_astoreN hexec hb hd hL ha rfl fun lj' h' => ?_
        obtain ⟨e1, e2⟩ := am_stored (v := .inr (.inr none)) hL hw (fun x h => by cases h) h2 h3 h'
        exact h1 H locs cells slots lj' hP hD hS e1 e2 hc hs
      · refine lv_astore_nN hexec hb hd hf hL ha rfl fun lj' h' => ?_
        obtain ⟨e1, e2⟩ := am_stored (v := .inr (.inr none)) hL hw (fun x h => by cases h) h2 h3 h'
        exact h1 H locs cells slots lj' hP hD hS e1 e2 hc hs
    | some r =>
      rcases hd with ⟨hd, rfl⟩ | ⟨f, hf, hd, rfl⟩
      · refine lv_astore hexec hb hd hL ha rfl fun lj' h' => ?_
        obtain ⟨e1, e2⟩ := am_stored (v := .inr (.inr (some r))) hL hw (fun x h => by cases h) h2 h3 h'
        exact h1 H locs cells slots lj' hP hD hS e1 e2 hc hs
      · refine lv_astore_n hexec hb hd hf hL ha rfl fun lj' h' => ?_
        obtain ⟨e1, e2⟩ := am_stored (v := .inr (.inr (some r))) hL hw (fun x h => by cases h) h2 h3 h'
        exact h1 H locs cells slots lj' hP hD hS e1 e2 hc hs
  · exact h.elim
theorem so_iinc (hexec : p.tables.exec = Jvm.exec) (hb : c.code = cc) (ha : a < nL) {v : Int} {k : Int32} (hk : Int32.ofInt v = k) (hd : decode cc pc = .ok (.iinc a v, 3) ∧ nx = pc + 3) (h : am_iinc (am_Wa p l e R s m args below meth c Q D cl t ad A H0 nL) nx a ls st I P J n k) : (am_Wa p l e R s m args below meth c Q D cl t ad A H0 nL) pc ls st I P J n := by
  obtain ⟨z, hm, hv⟩ := am_ld_mem h
  obtain ⟨hd, rfl⟩ := hd
  match z, hv with
  | .inr _, hv => exact hv.elim
  | .inl z, hv =>
    intro H locs cells slots lj hP hD hS hL hw hc hs
    obtain ⟨ls', h1, h2, h3⟩ := am_st_mem hw.1 hv
    obtain ⟨q, hq⟩ := List.getElem?_of_mem (List.mem_map_of_mem (f := fun q : Nat × am_V => (q.1, am_v ad q.2)) hm)
    refine lv_iinc hexec hb (k := q) (v := z + k) hd hL hq (by rw [hk]) ha rfl fun lj' h' => ?_
    obtain ⟨e1, e2⟩ := am_stored (v := .inl (z + k)) hL hw (fun x h => by cases h) h2 h3 h'
    exact h1 H locs cells slots lj' hP hD hS e1 e2 hc hs
theorem so_iadd (hexec : p.tables.exec = Jvm.exec) (hb : c.code = cc) (hd : decode cc pc = .ok (.iadd, 1) ∧ nx = pc + 1) (h : am_bin (am_Wa p l e R s m args below meth c Q D cl t ad A H0 nL) nx ls st I P J n (HAdd.hAdd)) : (am_Wa p l e R s m args below meth c Q D cl t ad A H0 nL) pc ls st I P J n := by
  unfold am_bin at h
  obtain ⟨hd, rfl⟩ := hd
  split at h
  · intro H locs cells slots lj hP hD hS hL hw hc hs
    exact lv_iadd hexec hb hd (h H locs cells slots lj hP hD hS hL hw hc hs)
  · exact h.elim
theorem so_isub (hexec : p.tables.exec = Jvm.exec) (hb : c.code = cc) (hd : decode cc pc = .ok (.isub, 1) ∧ nx = pc + 1) (h : am_bin (am_Wa p l e R s m args below meth c Q D cl t ad A H0 nL) nx ls st I P J n (HSub.hSub)) : (am_Wa p l e R s m args below meth c Q D cl t ad A H0 nL) pc ls st I P J n := by
  unfold am_bin at h
  obtain ⟨hd, rfl⟩ := hd
  split at h
  · intro H locs cells slots lj hP hD hS hL hw hc hs
    exact lv_isub hexec hb hd (h H locs cells slots lj hP hD hS hL hw hc hs)
  · exact h.elim
theorem so_imul (hexec : p.tables.exec = Jvm.exec) (hb : c.code = cc) (hd : decode cc pc = .ok (.imul, 1) ∧ nx = pc + 1) (h : am_bin (am_Wa p l e R s m args below meth c Q D cl t ad A H0 nL) nx ls st I P J n (HMul.hMul)) : (am_Wa p l e R s m args below meth c Q D cl t ad A H0 nL) pc ls st I P J n := by
  unfold am_bin at h
  obtain ⟨hd, rfl⟩ := hd
  split at h
  · intro H locs cells slots lj hP hD hS hL hw hc hs
    exact lv_imul hexec hb hd (h H locs cells slots lj hP hD hS hL hw hc hs)
  · exact h.elim
theorem so_iand (hexec : p.tables.exec = Jvm.exec) (hb : c.code = cc) (hd : decode cc pc = .ok (.iand, 1) ∧ nx = pc + 1) (h : am_bin (am_Wa p l e R s m args below meth c Q D cl t ad A H0 nL) nx ls st I P J n (HAnd.hAnd)) : (am_Wa p l e R s m args below meth c Q D cl t ad A H0 nL) pc ls st I P J n := by
  unfold am_bin at h
  obtain ⟨hd, rfl⟩ := hd
  split at h
  · intro H locs cells slots lj hP hD hS hL hw hc hs
    exact lv_iand hexec hb hd (h H locs cells slots lj hP hD hS hL hw hc hs)
  · exact h.elim
theorem so_ior (hexec : p.tables.exec = Jvm.exec) (hb : c.code = cc) (hd : decode cc pc = .ok (.ior, 1) ∧ nx = pc + 1) (h : am_bin (am_Wa p l e R s m args below meth c Q D cl t ad A H0 nL) nx ls st I P J n (HOr.hOr)) : (am_Wa p l e R s m args below meth c Q D cl t ad A H0 nL) pc ls st I P J n := by
  unfold am_bin at h
  obtain ⟨hd, rfl⟩ := hd
  split at h
  · intro H locs cells slots lj hP hD hS hL hw hc hs
    exact lv_ior hexec hb hd (h H locs cells slots lj hP hD hS hL hw hc hs)
  · exact h.elim
theorem so_ixor (hexec : p.tables.exec = Jvm.exec) (hb : c.code = cc) (hd : decode cc pc = .ok (.ixor, 1) ∧ nx = pc + 1) (h : am_bin (am_Wa p l e R s m args below meth c Q D cl t ad A H0 nL) nx ls st I P J n (HXor.hXor)) : (am_Wa p l e R s m args below meth c Q D cl t ad A H0 nL) pc ls st I P J n := by
  unfold am_bin at h
  obtain ⟨hd, rfl⟩ := hd
  split at h
  · intro H locs cells slots lj hP hD hS hL hw hc hs
    exact lv_ixor hexec hb hd (h H locs cells slots lj hP hD hS hL hw hc hs)
  · exact h.elim
theorem so_ishl (hexec : p.tables.exec = Jvm.exec) (hb : c.code = cc) (hd : decode cc pc = .ok (.ishl, 1) ∧ nx = pc + 1) (h : am_bin (am_Wa p l e R s m args below meth c Q D cl t ad A H0 nL) nx ls st I P J n (am_shl)) : (am_Wa p l e R s m args below meth c Q D cl t ad A H0 nL) pc ls st I P J n := by
  unfold am_bin at h
  obtain ⟨hd, rfl⟩ := hd
  split at h
  · intro H locs cells slots lj hP hD hS hL hw hc hs
    exact lv_ishl hexec hb hd (h H locs cells slots lj hP hD hS hL hw hc hs)
  · exact h.elim
theorem so_ishr (hexec : p.tables.exec = Jvm.exec) (hb : c.code = cc) (hd : decode cc pc = .ok (.ishr, 1) ∧ nx = pc + 1) (h : am_bin (am_Wa p l e R s m args below meth c Q D cl t ad A H0 nL) nx ls st I P J n (am_shr)) : (am_Wa p l e R s m args below meth c Q D cl t ad A H0 nL) pc ls st I P J n := by
  unfold am_bin at h
  obtain ⟨hd, rfl⟩ := hd
  split at h
  · intro H locs cells slots lj hP hD hS hL hw hc hs
    exact lv_ishr hexec hb hd (h H locs cells slots lj hP hD hS hL hw hc hs)
  · exact h.elim
theorem so_iushr (hexec : p.tables.exec = Jvm.exec) (hb : c.code = cc) (hd : decode cc pc = .ok (.iushr, 1) ∧ nx = pc + 1) (h : am_bin (am_Wa p l e R s m args below meth c Q D cl t ad A H0 nL) nx ls st I P J n am_ushr) : (am_Wa p l e R s m args below meth c Q D cl t ad A H0 nL) pc ls st I P J n := by
  unfold am_bin at h
  obtain ⟨hd, rfl⟩ := hd
  split at h
  · intro H locs cells slots lj hP hD hS hL hw hc hs
    exact lv_iushr hexec hb hd rfl (h H locs cells slots lj hP hD hS hL hw hc hs)
  · exact h.elim
theorem so_idiv (hexec : p.tables.exec = Jvm.exec) (hb : c.code = cc) (hd : decode cc pc = .ok (.idiv, 1) ∧ nx = pc + 1) (h : am_div (am_Wa p l e R s m args below meth c Q D cl t ad A H0 nL) nx ls st I P J n HDiv.hDiv) : (am_Wa p l e R s m args below meth c Q D cl t ad A H0 nL) pc ls st I P J n := by
  unfold am_div at h
  obtain ⟨hd, rfl⟩ := hd
  split at h
  · intro H locs cells slots lj hP hD hS hL hw hc hs
    exact lv_idiv hexec hb hd h.1 (h.2 H locs cells slots lj hP hD hS hL hw hc hs)
  · exact h.elim
theorem so_irem (hexec : p.tables.exec = Jvm.exec) (hb : c.code = cc) (hd : decode cc pc = .ok (.irem, 1) ∧ nx = pc + 1) (h : am_div (am_Wa p l e R s m args below meth c Q D cl t ad A H0 nL) nx ls st I P J n am_rem) : (am_Wa p l e R s m args below meth c Q D cl t ad A H0 nL) pc ls st I P J n := by
  unfold am_div at h
  obtain ⟨hd, rfl⟩ := hd
  split at h
  · intro H locs cells slots lj hP hD hS hL hw hc hs
    exact lv_irem hexec hb hd h.1 (h.2 H locs cells slots lj hP hD hS hL hw hc hs)
  · exact h.elim
theorem so_dup (hexec : p.tables.exec = Jvm.exec) (hb : c.code = cc) (hd : decode cc pc = .ok (.dup, 1) ∧ nx = pc + 1) (h : am_dup (am_Wa p l e R s m args below meth c Q D cl t ad A H0 nL) nx ls st I P J n) : (am_Wa p l e R s m args below meth c Q D cl t ad A H0 nL) pc ls st I P J n := by
  unfold am_dup at h
  obtain ⟨hd, rfl⟩ := hd
  split at h
  · intro H locs cells slots lj hP hD hS hL hw hc hs
    exact lv_dup hexec hb hd rfl (h H locs cells slots lj hP hD hS hL hw hc hs)
  · rename_i r st'
    intro H locs cells slots lj hP hD hS hL hw hc hs
    exact lv_dup hexec hb hd (by cases r <;> rfl) (h H locs cells slots lj hP hD hS hL hw hc hs)
  · exact h.elim
theorem so_dup2 (hexec : p.tables.exec = Jvm.exec) (hb : c.code = cc) (hd : decode cc pc = .ok (.dup2, 1) ∧ nx = pc + 1) (h : am_dup2 (am_Wa p l e R s m args below meth c Q D cl t ad A H0 nL) nx ls st I P J n) : (am_Wa p l e R s m args below meth c Q D cl t ad A H0 nL) pc ls st I P J n := by
  unfold am_dup2 at h
  obtain ⟨hd, rfl⟩ := hd
  split at h
  · rename_i x r st'
    intro H locs cells slots lj hP hD hS hL hw hc hs
    exact lv_dup2_11 hexec hb hd rfl (by cases r <;> rfl) (h H locs cells slots lj hP hD hS hL hw hc hs)
  · exact h.elim
theorem so_if_eq (hexec : p.tables.exec = Jvm.exec) (hb : c.code = cc) {off : Int} (hd : decode cc pc = .ok (.ifCond .eq off, 3) ∧ (pc : Int) + off = (a : Int) ∧ nx = pc + 3) (h : am_if_eq (am_Wa p l e R s m args below meth c Q D cl t ad A H0 nL) nx a ls st I P J n) : (am_Wa p l e R s m args below meth c Q D cl t ad A H0 nL) pc ls st I P J n := by
  unfold am_if_eq at h
  obtain ⟨hd, ht, rfl⟩ := hd
  split at h
  · intro H locs cells slots lj hP hD hS hL hw hc hs
    exact lv_if_eq hexec hb hd ht (fun q => h.1 q H locs cells slots lj hP hD hS hL hw hc hs) (fun q => h.2 q H locs cells slots lj hP hD hS hL hw hc hs)
  · exact h.elim
theorem so_if_lt (hexec : p.tables.exec = Jvm.exec) (hb : c.code = cc) {off : Int} (hd : decode cc pc = .ok (.ifCond .lt off, 3) ∧ (pc : Int) + off = (a : Int) ∧ nx = pc + 3) (h : am_if_lt (am_Wa p l e R s m args below meth c Q D cl t ad A H0 nL) nx a ls st I P J n) : (am_Wa p l e R s m args below meth c Q D cl t ad A H0 nL) pc ls st I P J n := by
  unfold am_if_lt at h
  obtain ⟨hd, ht, rfl⟩ := hd
  split at h
  · intro H locs cells slots lj hP hD hS hL hw hc hs
    exact lv_if_lt hexec hb hd ht (fun q => h.1 q H locs cells slots lj hP hD hS hL hw hc hs) (fun q => h.2 q H locs cells slots lj hP hD hS hL hw hc hs)
  · exact h.elim
theorem so_if_ge (hexec : p.tables.exec = Jvm.exec) (hb : c.code = cc) {off : Int} (hd : decode cc pc = .ok (.ifCond .ge off, 3) ∧ (pc : Int) + off = (a : Int) ∧ nx = pc + 3) (h : am_if_ge (am_Wa p l e R s m args below meth c Q D cl t ad A H0 nL) nx a ls st I P J n) : (am_Wa p l e R s m args below meth c Q D cl t ad A H0 nL) pc ls st I P J n := by
  unfold am_if_ge at h
  obtain ⟨hd, ht, rfl⟩ := hd
  split at h
  · intro H locs cells slots lj hP hD hS hL hw hc hs
    exact lv_if_ge hexec hb hd ht (fun q => h.1 q H locs cells slots lj hP hD hS hL hw hc hs) (fun q => h.2 q H locs cells slots lj hP hD hS hL hw hc hs)
  · exact h.elim
theorem so_if_gt (hexec : p.tables.exec = Jvm.exec) (hb : c.code = cc) {off : Int} (hd : decode cc pc = .ok (.ifCond .gt off, 3) ∧ (pc : Int) + off = (a : Int) ∧ nx = pc + 3) (h : am_if_gt (am_Wa p l e R s m args below meth c Q D cl t ad A H0 nL) nx a ls st I P J n) : (am_Wa p l e R s m args below meth c Q D cl t ad A H0 nL) pc ls st I P J n := by
  unfold am_if_gt at h
  obtain ⟨hd, ht, rfl⟩ := hd
  split at h
  · intro H locs cells slots lj hP hD hS hL hw hc hs
    exact lv_if_gt hexec hb hd ht (fun q => h.1 q H locs cells slots lj hP hD hS hL hw hc hs) (fun q => h.2 q H locs cells slots lj hP hD hS hL hw hc hs)
  · exact h.elim
theorem so_if_le (hexec : p.tables.exec = Jvm.exec) (hb : c.code = cc) {off : Int} (hd : decode cc pc = .ok (.ifCond .le off, 3) ∧ (pc : Int) + off = (a : Int) ∧ nx = pc + 3) (h : am_if_le (am_Wa p l e R s m args below meth c Q D cl t ad A H0 nL) nx a ls st I P J n) : (am_Wa p l e R s m args below meth c Q D cl t ad A H0 nL) pc ls st I P J n := by
  unfold am_if_le at h
  obtain ⟨hd, ht, rfl⟩ := hd
  split at h
  · intro H locs cells slots lj hP hD hS hL hw hc hs
    exact lv_if_le hexec hb hd ht (fun q => h.1 q H locs cells slots lj hP hD hS hL hw hc hs) (fun q => h.2 q H locs cells slots lj hP hD hS hL hw hc hs)
  · exact h.elim
theorem so_cmp_eq (hexec : p.tables.exec = Jvm.exec) (hb : c.code = cc) {off : Int} (hd : decode cc pc = .ok (.if_icmp .eq off, 3) ∧ (pc : Int) + off = (a : Int) ∧ nx = pc + 3) (h : am_cm_eq (am_Wa p l e R s m args below meth c Q D cl t ad A H0 nL) nx a ls st I P J n) : (am_Wa p l e R s m args below meth c Q D cl t ad A H0 nL) pc ls st I P J n := by
  unfold am_cm_eq at h
  obtain ⟨hd, ht, rfl⟩ := hd
  split at h
  · intro H locs cells slots lj hP hD hS hL hw hc hs
    exact lv_icmp_eq hexec hb hd ht (fun q => h.1 q H locs cells slots lj hP hD hS hL hw hc hs) (fun q => h.2 q H locs cells slots lj hP hD hS hL hw hc hs)
  · exact h.elim
theorem so_cmp_lt (hexec : p.tables.exec = Jvm.exec) (hb : c.code = cc) {off : Int} (hd : decode cc pc = .ok (.if_icmp .lt off, 3) ∧ (pc : Int) + off = (a : Int) ∧ nx = pc + 3) (h : am_cm_lt (am_Wa p l e R s m args below meth c Q D cl t ad A H0 nL) nx a ls st I P J n) : (am_Wa p l e R s m args below meth c Q D cl t ad A H0 nL) pc ls st I P J n := by
  unfold am_cm_lt at h
  obtain ⟨hd, ht, rfl⟩ := hd
  split at h
  · intro H locs cells slots lj hP hD hS hL hw hc hs
    exact lv_icmp_lt hexec hb hd ht (fun q => h.1 q H locs cells slots lj hP hD hS hL hw hc hs) (fun q => h.2 q H locs cells slots lj hP hD hS hL hw hc hs)
  · exact h.elim
theorem so_cmp_ge (hexec : p.tables.exec = Jvm.exec) (hb : c.code = cc) {off : Int} (hd : decode cc pc = .ok (.if_icmp .ge off, 3) ∧ (pc : Int) + off = (a : Int) ∧ nx = pc + 3) (h : am_cm_ge (am_Wa p l e R s m args below meth c Q D cl t ad A H0 nL) nx a ls st I P J n) : (am_Wa p l e R s m args below meth c Q D cl t ad A H0 nL) pc ls st I P J n := by
  unfold am_cm_ge at h
  obtain ⟨hd, ht, rfl⟩ := hd
  split at h
  · intro H locs cells slots lj hP hD hS hL hw hc hs
    exact lv_icmp_ge hexec hb hd ht (fun q => h.1 q H locs cells slots lj hP hD hS hL hw hc hs) (fun q => h.2 q H locs cells slots lj hP hD hS hL hw hc hs)
  · exact h.elim
theorem so_cmp_gt (hexec : p.tables.exec = Jvm.exec) (hb : c.code = cc) {off : Int} (hd : decode cc pc = .ok (.if_icmp .gt off, 3) ∧ (pc : Int) + off = (a : Int) ∧ nx = pc + 3) (h : am_cm_gt (am_Wa p l e R s m args below meth c Q D cl t ad A H0 nL) nx a ls st I P J n) : (am_Wa p l e R s m args below meth c Q D cl t ad A H0 nL) pc ls st I P J n := by
  unfold am_cm_gt at h
  obtain ⟨hd, ht, rfl⟩ := hd
  split at h
  · intro H locs cells slots lj hP hD hS hL hw hc hs
    exact lv_icmp_gt hexec hb hd ht (fun q => h.1 q H locs cells slots lj hP hD hS hL hw hc hs) (fun q => h.2 q H locs cells slots lj hP hD hS hL hw hc hs)
  · exact h.elim
theorem so_cmp_le (hexec : p.tables.exec = Jvm.exec) (hb : c.code = cc) {off : Int} (hd : decode cc pc = .ok (.if_icmp .le off, 3) ∧ (pc : Int) + off = (a : Int) ∧ nx = pc + 3) (h : am_cm_le (am_Wa p l e R s m args below meth c Q D cl t ad A H0 nL) nx a ls st I P J n) : (am_Wa p l e R s m args below meth c Q D cl t ad A H0 nL) pc ls st I P J n := by
  unfold am_cm_le at h
  obtain ⟨hd, ht, rfl⟩ := hd
  split at h
  · intro H locs cells slots lj hP hD hS hL hw hc hs
    exact lv_icmp_le hexec hb hd ht (fun q => h.1 q H locs cells slots lj hP hD hS hL hw hc hs) (fun q => h.2 q H locs cells slots lj hP hD hS hL hw hc hs)
  · exact h.elim
theorem so_if_ne (hexec : p.tables.exec = Jvm.exec) (hb : c.code = cc) {off : Int} (hd : decode cc pc = .ok (.ifCond .ne off, 3) ∧ (pc : Int) + off = (a : Int) ∧ nx = pc + 3) (h : am_if_eq (am_Wa p l e R s m args below meth c Q D cl t ad A H0 nL) a nx ls st I P J n) : (am_Wa p l e R s m args below meth c Q D cl t ad A H0 nL) pc ls st I P J n := by
  unfold am_if_eq at h
  obtain ⟨hd, ht, rfl⟩ := hd
  split at h
  · intro H locs cells slots lj hP hD hS hL hw hc hs
    exact lv_if_ne hexec hb hd ht (fun q => h.2 q H locs cells slots lj hP hD hS hL hw hc hs) (fun q => h.1 q H locs cells slots lj hP hD hS hL hw hc hs)
  · exact h.elim
theorem so_cmp_ne (hexec : p.tables.exec = Jvm.exec) (hb : c.code = cc) {off : Int} (hd : decode cc pc = .ok (.if_icmp .ne off, 3) ∧ (pc : Int) + off = (a : Int) ∧ nx = pc + 3) (h : am_cm_eq (am_Wa p l e R s m args below meth c Q D cl t ad A H0 nL) a nx ls st I P J n) : (am_Wa p l e R s m args below meth c Q D cl t ad A H0 nL) pc ls st I P J n := by
  unfold am_cm_eq at h
  obtain ⟨hd, ht, rfl⟩ := hd
  split at h
  · intro H locs cells slots lj hP hD hS hL hw hc hs
    exact lv_icmp_ne hexec hb hd ht (fun q => h.2 q H locs cells slots lj hP hD hS hL hw hc hs) (fun q => h.1 q H locs cells slots lj hP hD hS hL hw hc hs)
  · exact h.elim
theorem so_nonnull (hexec : p.tables.exec = Jvm.exec) (hb : c.code = cc) {off : Int} (hd : decode cc pc = .ok (.ifnonnull off, 3) ∧ (pc : Int) + off = (a : Int) ∧ nx = pc + 3) (h : am_nonnull (am_Wa p l e R s m args below meth c Q D cl t ad A H0 nL) nx a ls st I P J n) : (am_Wa p l e R s m args below meth c Q D cl t ad A H0 nL) pc ls st I P J n := by
  unfold am_nonnull at h
  obtain ⟨hd, ht, rfl⟩ := hd
  split at h
  · intro H locs cells slots lj hP hD hS hL hw hc hs
    exact lv_ifnonnullN hexec hb hd (h H locs cells slots lj hP hD hS hL hw hc hs)
  · intro H locs cells slots lj hP hD hS hL hw hc hs
    exact lv_ifnonnull hexec hb hd ht (h H locs cells slots lj hP hD hS hL hw hc hs)
  · exact h.elim
theorem so_goto (hexec : p.tables.exec = Jvm.exec) (hb : c.code = cc) {off : Int} (hd : decode cc pc = .ok (.goto off, 3) ∧ (pc : Int) + off = (a : Int)) (h : (am_Wa p l e R s m args below meth c Q D cl t ad A H0 nL) a ls st I P J n) : (am_Wa p l e R s m args below meth c Q D cl t ad A H0 nL) pc ls st I P J n := by
  intro H locs cells slots lj hP hD hS hL hw hc hs
  exact lv_goto hexec hb hd.1 hd.2 (h H locs cells slots lj hP hD hS hL hw hc hs)
theorem so_null (hexec : p.tables.exec = Jvm.exec) (hb : c.code = cc) (hd : decode cc pc = .ok (.aconst_null, 1) ∧ nx = pc + 1) (h : (am_Wa p l e R s m args below meth c Q D cl t ad A H0 nL) nx ls (.inr (.inr none) :: st) I P J n) : (am_Wa p l e R s m args below meth c Q D cl t ad A H0 nL) pc ls st I P J n := by
  obtain ⟨hd, rfl⟩ := hd
  intro H locs cells slots lj hP hD hS hL hw hc hs
  exact lv_null hexec hb hd (h H locs cells slots lj hP hD hS hL hw hc hs)
theorem so_i2l (hexec : p.tables.exec = Jvm.exec) (hb : c.code = cc) (hd : decode cc pc = .ok (.i2l, 1) ∧ nx = pc + 1) (h : am_i2l (am_Wa p l e R s m args below meth c Q D cl t ad A H0 nL) nx ls st I P J n) : (am_Wa p l e R s m args below meth c Q D cl t ad A H0 nL) pc ls st I P J n := by
  unfold am_i2l at h
  obtain ⟨hd, rfl⟩ := hd
  split at h
  · intro H locs cells slots lj hP hD hS hL hw hc hs
    exact lv_i2l hexec hb hd rfl (h H locs cells slots lj hP hD hS hL hw hc hs)
  · exact h.elim
theorem so_lcmp (hexec : p.tables.exec = Jvm.exec) (hb : c.code = cc) (hd : decode cc pc = .ok (.lcmp, 1) ∧ nx = pc + 1) (h : am_lcmp (am_Wa p l e R s m args below meth c Q D cl t ad A H0 nL) nx ls st I P J n) : (am_Wa p l e R s m args below meth c Q D cl t ad A H0 nL) pc ls st I P J n := by
  unfold am_lcmp at h
  obtain ⟨hd, rfl⟩ := hd
  split at h
  · intro H locs cells slots lj hP hD hS hL hw hc hs
    exact W.lcmp hexec hb hd (h H locs cells slots lj hP hD hS hL hw hc hs)
  · exact h.elim
/-- a switch: the cases are the table's -/
theorem so_cases {x : Int32} {st' : List am_V} : ∀ {sw : List (Int32 × Nat)}, am_cases (am_Wa p l e R s m args below meth c Q D cl t ad A H0 nL) a ls I P J n x st' sw → ((∃ q ∈ sw, x = q.1 ∧ (am_Wa p l e R s m args below meth c Q D cl t ad A H0 nL) q.2 ls st' I P J n) ∨ ((∀ q ∈ sw, ¬ x = q.1) ∧ (am_Wa p l e R s m args below meth c Q D cl t ad A H0 nL) a ls st' I P J n))
  | [], h => Or.inr ⟨fun q hq => (by cases hq), h⟩
  | (v, g) :: r, h => by
    by_cases hx : x = v
    · exact Or.inl ⟨(v, g), List.mem_cons_self, hx, h.1 hx⟩
    · rcases so_cases (h.2 hx) with ⟨q, h1, h2⟩ | ⟨h1, h2⟩
      · exact Or.inl ⟨q, List.mem_cons_of_mem _ h1, h2⟩
      · refine Or.inr ⟨fun q hq => ?_, h2⟩
        rcases List.mem_cons.mp hq with rfl | hq
        · exact hx
        · exact h1 q hq
theorem so_table (hexec : p.tables.exec = Jvm.exec) (hb : c.code = cc) {dflt lo hi : Int} {offs : Array Int} {len : Nat} {sw : List (Int32 × Nat)} (hd : decode cc pc = .ok (.tableswitch dflt lo hi offs, len)) (hdf : (pc : Int) + dflt = (a : Int))
    (h1 : ∀ q ∈ sw, ¬ q.1.toInt < lo ∧ ¬ hi < q.1.toInt ∧ ∃ off, offs[(q.1.toInt - lo).toNat]? = some off ∧ (pc : Int) + off = (q.2 : Int)) (h2 : ∀ x : Int32, ¬ x.toInt < lo → ¬ hi < x.toInt → ∃ q ∈ sw, x = q.1) (h : am_table (am_Wa p l e R s m args below meth c Q D cl t ad A H0 nL) a ls st I P J n sw) : (am_Wa p l e R s m args below meth c Q D cl t ad A H0 nL) pc ls st I P J n := by
  unfold am_table at h
  split at h
  · rename_i x st'
    intro H locs cells slots lj hP hD hS hL hw hc hs
    rcases so_cases h with ⟨q, e1, e2, e3⟩ | ⟨e1, e2⟩
    · obtain ⟨g1, g2, off, g3, g4⟩ := h1 q e1
      subst e2
      exact lv_tableIn hexec hb hd g1 g2 g3 g4 (e3 H locs cells slots lj hP hD hS hL hw hc hs)
    · refine lv_tableOut hexec hb hd ?_ hdf (e2 H locs cells slots lj hP hD hS hL hw hc hs)
      apply Classical.byContradiction
      intro hn
      obtain ⟨q, q1, q2⟩ := h2 x (fun z => hn (Or.inl z)) (fun z => hn (Or.inr z))
      exact e1 q q1 q2
  · exact h.elim
end SO
