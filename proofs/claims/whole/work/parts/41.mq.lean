/-! The reference: the public methods that ask nothing. -/
def T_mdrop : am_T := fun as I P J n K => match as with
  | [.inr (.inr (some o))] => o = 21 ∧ K (.inl (some (.inl (I 21 30)))) (am_ui (am_ui I 21 35 0) 21 30 0) P J n
  | _ => False
theorem ok_mdrop (sc : am_S) (C : Nat → am_T) : am_ok sc C tb_Mo_drop T_mdrop := by
  intro as I P J n K hT V hD hV
  unfold T_mdrop at hT
  split at hT
  · rename_i o
    obtain ⟨rfl, hK⟩ := hT
    show V 0 [(0, .inr (.inr (some 21)))] [] I P J n
    repeat' first
      | apply hV
      | (change (_ → V _ _ _ _ _ _ _) ∧ _; refine ⟨fun h => ?_, fun h => ?_⟩)
      | (change am_kd _ = (5, _) ∧ _; refine ⟨rfl, ?_⟩)
      | fail
    exact hK
  · exact hT.elim

def mo_count (I : am_I) (w : Int32) : Int32 := if w = 0 then I 21 15 else if w = 1 then I 21 16 else if w = 2 then I 21 17 else if w = 3 then I 21 18 else if w = 4 then I 21 10 else if w = 5 then I 21 3 else if w = 6 then I 21 4 else if w = 7 then I 21 26 else if w = 8 then I 21 2 else if w = 9 then I 21 30 else -1
def T_mcount : am_T := fun as I P J n K => match as with
  | [.inr (.inr (some o)), .inl w] => o = 21 ∧ K (.inl (some (.inl (mo_count I w)))) (am_ui I 21 35 0) P J n
  | _ => False
theorem ok_mcount (sc : am_S) (C : Nat → am_T) : am_ok sc C tb_Mo_count T_mcount := by
  intro as I P J n K hT V hD hV
  unfold T_mcount at hT
  split at hT
  · rename_i o w
    obtain ⟨rfl, hK⟩ := hT
    show V 0 [(0, .inr (.inr (some 21))), (1, .inl w)] [] I P J n
    repeat' first
      | apply hV
      | (change (_ → V _ _ _ _ _ _ _) ∧ _; refine ⟨fun h => ?_, fun h => ?_⟩)
      | (change am_kd _ = (5, _) ∧ _; refine ⟨rfl, ?_⟩)
      | fail
    all_goals change K _ _ _ _ _
    all_goals
      unfold mo_count at hK
      repeat (first | rw [if_pos (by with_reducible assumption)] at hK | rw [if_neg (by with_reducible assumption)] at hK | rw [if_neg (am_lit15 (by with_reducible assumption) (by decide))] at hK)
    all_goals exact hK
  · exact hT.elim

def mo_byte (r : Nat → Int32) (i : Int32) : Int32 := if i < 0 then (if i < 16 then 0 else if 23 ≤ i then 0 else r (i - 8).toNatClampNeg) else if 8 ≤ i then (if i < 16 then 0 else if 23 ≤ i then 0 else r (i - 8).toNatClampNeg) else r i.toNatClampNeg
theorem mb_1 {i : Int32} (h1 : ¬ i < 0) (h2 : ¬ 8 ≤ i) : vp_in i 15 := by
  have h := pb_in (n := 8) h1 h2 (by decide)
  obtain ⟨c, hc, rfl⟩ := pl_of_in h
  exact nI_in (by omega) (by omega)
theorem mb_2 {i : Int32} (h1 : ¬ i < 16) (h2 : ¬ 23 ≤ i) : ∃ c, c < 7 ∧ i = nI (16 + c) := by
  have h0 : ¬ i < 0 := fun h => h1 (pb_neg16 h)
  obtain ⟨c, hc, rfl⟩ := pl_of_in (pb_in (n := 23) h0 h2 (by decide))
  have : ¬ nI c < nI 16 := h1
  rw [nI_ltI (by omega) (by omega)] at this
  exact ⟨c - 16, by omega, by rw [show 16 + (c - 16) = c by omega]⟩
theorem nI_sub8 (c : Nat) : nI (16 + c) - 8 = nI (8 + c) := by
  have : nI (16 + c) = nI (8 + c) + nI 8 := by rw [nI_add]; congr 1; omega
  rw [this]
  show nI (8 + c) + nI 8 - nI 8 = _
  rw [Int32.add_sub_cancel]
theorem mb_3 {i : Int32} (h1 : ¬ i < 16) (h2 : ¬ 23 ≤ i) : vp_in (i - 8) 15 := by
  obtain ⟨c, hc, rfl⟩ := mb_2 h1 h2
  rw [nI_sub8]
  exact nI_in (by omega) (by omega)
def T_mbyteAt : am_T := fun as I P J n K => match as with
  | [.inr (.inr (some o)), .inl i] => o = 21 ∧ (∃ q, P = am_p0 q) ∧ K (.inl (some (.inl (mo_byte (I 28) i)))) (am_ui I 21 35 0) P J n
  | _ => False
theorem ok_mbyteAt (sc : am_S) (C : Nat → am_T) : am_ok sc C tb_Mo_byteAt T_mbyteAt := by
  intro as I P J n K hT V hD hV
  unfold T_mbyteAt at hT
  split at hT
  · rename_i o i
    obtain ⟨rfl, ⟨q, rfl⟩, hK⟩ := hT
    show V 0 [(0, .inr (.inr (some 21))), (1, .inl i)] [] I (am_p0 q) J n
    repeat' first
      | apply hV
      | (change (_ → V _ _ _ _ _ _ _) ∧ _; refine ⟨fun h => ?_, fun h => ?_⟩)
      | (change am_kd _ = (5, _) ∧ _; refine ⟨rfl, ?_⟩)
      | (change vp_in _ 15 ∧ _; refine ⟨by with_reducible first | exact mb_1 (by assumption) (by assumption) | exact mb_3 (by assumption) (by assumption), ?_⟩)
      | fail
    all_goals change K _ _ _ _ _
    all_goals
      unfold mo_byte at hK
      repeat (first | rw [if_pos (by with_reducible assumption)] at hK | rw [if_neg (by with_reducible assumption)] at hK)
    all_goals exact hK
  · exact hT.elim

def T_mfault : am_T := fun as I P J n K => match as with
  | [.inr (.inr (some o)), .inl f] => o = 21 ∧ (∃ q, P = am_p0 q) ∧ ∃ w, w ≤ 40 ∧ I 21 10 = nI w ∧ (¬ 0 ≤ f → K (.inl (some (.inl 0))) (am_ui I 21 35 1) P J n) ∧ (0 ≤ f → w = 40 → K (.inl (some (.inl 0))) (am_ui I 21 35 2) P J n) ∧ (0 ≤ f → w < 40 → K (.inl (some (.inl (nI (w + 1))))) (am_ui (am_ui (am_ui I 21 35 0) 26 w f) 21 10 (nI (w + 1))) P J n)
  | _ => False
theorem ok_mfault (sc : am_S) (C : Nat → am_T) : am_ok sc C tb_Mo_fault T_mfault := by
  intro as I P J n K hT V hD hV
  unfold T_mfault at hT
  split at hT
  · rename_i o f
    obtain ⟨rfl, ⟨q, rfl⟩, w, hw, ew, hK1, hK2, hK3⟩ := hT
    have e2 : (I 21 10).toNatClampNeg = w := by rw [ew]; exact nI_clamp (by omega)
    have c40 : ¬ I 21 10 = 40 → w < 40 := fun h => Nat.lt_of_le_of_ne hw (fun e => h (by rw [ew, e]; rfl))
    have d40 : I 21 10 = 40 → w = 40 := fun h => (nI_eq (by omega) (by omega)).1 (ew.symm.trans h)
    have i40 : ¬ I 21 10 = 40 → vp_in (I 21 10) 40 := fun h => by rw [ew]; exact nI_in (c40 h) (by omega)
    show V 0 [(0, .inr (.inr (some 21))), (1, .inl f)] [] I (am_p0 q) J n
    repeat' first
      | exact absurd (show (1 : Int32) = 0 from ht) (by decide)
      | exact absurd (show (2 : Int32) = 0 from ht) (by decide)
      | exact absurd (show (0 : Int32) = 0 from rfl) ht
      | apply hV
      | (change (am_ui _ 21 35 _ 21 35 = 0 → V _ _ _ _ _ _ _) ∧ _; refine ⟨fun ht => ?_, fun ht => ?_⟩)
      | (change (_ → V _ _ _ _ _ _ _) ∧ _; refine ⟨fun h => ?_, fun h => ?_⟩)
      | (change am_kd _ = (5, _) ∧ _; refine ⟨rfl, ?_⟩)
      | (change vp_in _ 40 ∧ _; refine ⟨i40 (by with_reducible assumption), ?_⟩)
      | fail
    all_goals change K _ _ _ _ _
    all_goals first
      | exact hK1 (by with_reducible assumption)
      | exact hK2 (by with_reducible assumption) (d40 (by with_reducible assumption))
      | (have hK := hK3 (by with_reducible assumption) (c40 (by with_reducible assumption)); rw [← nI_1, ← ew, ← e2] at hK; exact hK)
  · exact hT.elim

def mo_opok (op v : Int32) : Bool := !decide (op < 0) && !decide (10 < op) && (!decide (op = 1) || (!decide (v < 0) && decide (v ≤ 7)))
def T_moperation : am_T := fun as I P J n K => match as with
  | [.inr (.inr (some o)), .inl op, .inl v] => o = 21 ∧ (∃ q, P = am_p0 q) ∧ ∃ e, e ≤ 20 ∧ I 21 30 = nI e ∧ (mo_opok op v = false → K (.inl (some (.inl 0))) (am_ui I 21 35 1) P J n) ∧ (mo_opok op v = true → e = 20 → K (.inl (some (.inl 0))) (am_ui I 21 35 2) P J n) ∧ (mo_opok op v = true → e < 20 → K (.inl (some (.inl (nI (e + 1))))) (am_ui (am_ui (am_ui (am_ui I 21 35 0) 36 e op) 37 e v) 21 30 (nI (e + 1))) P J n)
  | _ => False
theorem ok_moperation (sc : am_S) (C : Nat → am_T) : am_ok sc C tb_Mo_operation T_moperation := by
  intro as I P J n K hT V hD hV
  unfold T_moperation at hT
  split at hT
  · rename_i o op v
    obtain ⟨rfl, ⟨q, rfl⟩, w, hw, ew, hK1, hK2, hK3⟩ := hT
    have e2 : (I 21 30).toNatClampNeg = w := by rw [ew]; exact nI_clamp (by omega)
    have c40 : ¬ I 21 30 = 20 → w < 20 := fun h => Nat.lt_of_le_of_ne hw (fun e => h (by rw [ew, e]; rfl))
    have d40 : I 21 30 = 20 → w = 20 := fun h => (nI_eq (by omega) (by omega)).1 (ew.symm.trans h)
    have i40 : ¬ I 21 30 = 20 → vp_in (I 21 30) 20 := fun h => by rw [ew]; exact nI_in (c40 h) (by omega)
    show V 0 [(0, .inr (.inr (some 21))), (1, .inl op), (2, .inl v)] [] I (am_p0 q) J n
    repeat' first
      | exact absurd (show (1 : Int32) = 0 from ht) (by decide)
      | exact absurd (show (2 : Int32) = 0 from ht) (by decide)
      | exact absurd (show (0 : Int32) = 0 from rfl) ht
      | apply hV
      | (change (am_ui _ 21 35 _ 21 35 = 0 → V _ _ _ _ _ _ _) ∧ _; refine ⟨fun ht => ?_, fun ht => ?_⟩)
      | (change (_ → V _ _ _ _ _ _ _) ∧ _; refine ⟨fun h => ?_, fun h => ?_⟩)
      | (change am_kd _ = (5, _) ∧ _; refine ⟨rfl, ?_⟩)
      | (change vp_in _ 20 ∧ _; refine ⟨i40 (by with_reducible assumption), ?_⟩)
      | fail
    all_goals change K _ _ _ _ _
    all_goals first
      | exact hK1 (by simp [mo_opok, *])
      | exact hK2 (by simp [mo_opok, *]) (d40 (by with_reducible assumption))
      | (have hK := hK3 (by simp [mo_opok, *]) (c40 (by with_reducible assumption)); rw [← nI_1, ← ew, ← e2] at hK; exact hK)
  · exact hT.elim

def mo_fq (I : am_I) (f r : Int32) : Bool := !decide (f < 0) && !decide (I 21 26 ≤ f) && !decide (r < 0) && decide (r ≤ 8)
def T_mframe : am_T := fun as I P J n K => match as with
  | [.inr (.inr (some o)), .inl f, .inl r] => o = 21 ∧ (∃ q, P = am_p0 q) ∧ (mo_fq I f r = false → K (.inl (some (.inl 0))) (am_ui I 21 35 1) P J n) ∧ (mo_fq I f r = true → ∃ j p, j < 8 ∧ p ≤ 8 ∧ f = nI j ∧ r = nI p ∧ K (.inl (some (.inl (I 34 (9 * j + p))))) (am_ui I 21 35 0) P J n)
  | _ => False
theorem nI_92 (j p : Nat) : 9 * nI j + nI p = nI (9 * j + p) := by
  show nI 9 * nI j + nI p = _
  rw [pk_mul, nI_add]
theorem nI_82 (j p : Nat) : 8 * nI j + nI p = nI (8 * j + p) := by
  show nI 8 * nI j + nI p = _
  rw [pk_mul, nI_add]
theorem ok_mframe (sc : am_S) (C : Nat → am_T) : am_ok sc C tb_Mo_frame T_mframe := by
  intro as I P J n K hT V hD hV
  unfold T_mframe at hT
  split at hT
  · rename_i o f r
    obtain ⟨rfl, ⟨q, rfl⟩, hK1, hK2⟩ := hT
    show V 0 [(0, .inr (.inr (some 21))), (1, .inl f), (2, .inl r)] [] I (am_p0 q) J n
    have no : mo_fq I f r = false → V 23 [(0, .inr (.inr (some 21))), (1, .inl f), (2, .inl r)] [.inr (.inr (some 21))] I (am_p0 q) J n := by
      intro hq
      have hK := hK1 hq
      clear hK1 hK2
      repeat' first
        | exact absurd (show (1 : Int32) = 0 from ht) (by decide)
        | exact absurd (show (2 : Int32) = 0 from ht) (by decide)
        | exact absurd (show (0 : Int32) = 0 from rfl) ht
        | apply hV
        | (change (am_ui _ 21 35 _ 21 35 = 0 → V _ _ _ _ _ _ _) ∧ _; refine ⟨fun ht => ?_, fun ht => ?_⟩)
        | (change (_ → V _ _ _ _ _ _ _) ∧ _; refine ⟨fun h => ?_, fun h => ?_⟩)
        | (change am_kd _ = (5, _) ∧ _; refine ⟨rfl, ?_⟩)
        | fail
      exact hK
    apply hV; apply hV; apply hV
    refine ⟨fun h1 => no (by simp [mo_fq, h1]), fun h1 => ?_⟩
    apply hV; apply hV; apply hV
    refine ⟨rfl, ?_⟩
    apply hV
    refine ⟨fun h2 => no (by simp [mo_fq, h2]), fun h2 => ?_⟩
    apply hV; apply hV
    refine ⟨fun h3 => no (by simp [mo_fq, h3]), fun h3 => ?_⟩
    apply hV; apply hV; apply hV
    refine ⟨fun h4 => ?_, fun h4 => no (by simp [mo_fq, h4])⟩
    obtain ⟨j, p, hj, hp, rfl, rfl, hK⟩ := hK2 (by simp [mo_fq, h1, h2, h3, h4])
    clear hK1 hK2 no
    have e2 : (9 * nI j + nI p).toNatClampNeg = 9 * j + p := by rw [nI_92]; exact nI_clamp (by omega)
    have i2 : vp_in (9 * nI j + nI p) 72 := by rw [nI_92]; exact nI_in (by omega) (by omega)
    apply hV; apply hV
    refine ⟨rfl, ?_⟩
    apply hV; apply hV
    refine ⟨rfl, ?_⟩
    apply hV
    refine ⟨fun _ => ?_, fun ht => absurd (show (0 : Int32) = 0 from rfl) ht⟩
    apply hV; apply hV
    refine ⟨rfl, ?_⟩
    apply hV; apply hV; apply hV; apply hV; apply hV; apply hV
    refine ⟨i2, ?_⟩
    rw [e2]
    apply hV; apply hV
    exact hK
  · exact hT.elim
def mo_rf (I : am_I) (pc : Int32) : Nat → Nat → Option Nat
  | _, 0 => none
  | i, k + 1 => if pc < I 29 i then mo_rf I pc (i + 1) k else if I 30 i < pc then mo_rf I pc (i + 1) k else some i
def T_mruleOf : am_T := fun as I P J n K => match as with
  | [.inr (.inr (some o)), .inl pc] => o = 21 ∧ (∃ q, P = am_p0 q) ∧ ∃ m, m ≤ 8 ∧ I 21 20 = nI m ∧ K (.inl (some (.inl (mo_ob (mo_rf I pc 0 m))))) I P J n
  | _ => False
theorem ok_mruleOf (sc : am_S) (C : Nat → am_T) : am_ok sc C tb_Mo_ruleOf T_mruleOf := by
  intro as I P J n K hT V hD hV
  unfold T_mruleOf at hT
  split at hT
  · rename_i o a
    obtain ⟨rfl, ⟨q, rfl⟩, m, hm, em, hK⟩ := hT
    show V 0 [(0, .inr (.inr (some 21))), (1, .inl a)] [] I (am_p0 q) J n
    have loop : ∀ (k i : Nat), i + k = m → K (.inl (some (.inl (mo_ob (mo_rf I a i k))))) I (am_p0 q) J n → V 2 [(0, .inr (.inr (some 21))), (1, .inl a), (2, .inl (nI i))] [] I (am_p0 q) J n := by
      intro k
      induction k with
      | zero =>
        intro i hi hK
        apply hV; apply hV; apply hV
        refine ⟨rfl, ?_⟩
        apply hV
        refine ⟨fun h => ?_, fun h => absurd (by rw [em]; exact nI_le (by omega) (by omega)) h⟩
        apply hV; apply hV
        exact hK
      | succ k ih =>
        intro i hi hK
        have e2 : (nI i).toNatClampNeg = i := nI_clamp (by omega)
        have ii : vp_in (nI i) 8 := nI_in (by omega) (by omega)
        have next : K (.inl (some (.inl (mo_ob (mo_rf I a (i + 1) k))))) I (am_p0 q) J n → V 32 [(0, .inr (.inr (some 21))), (1, .inl a), (2, .inl (nI i))] [] I (am_p0 q) J n := by
          intro hK
          apply hV; apply hV
          show V 2 [(0, .inr (.inr (some 21))), (1, .inl a), (2, .inl (nI i + 1))] [] I (am_p0 q) J n
          rw [← nI_succ]
          exact ih (i + 1) (by omega) hK
        apply hV; apply hV; apply hV
        refine ⟨rfl, ?_⟩
        apply hV
        refine ⟨fun h => absurd h (by rw [em]; exact nI_ge (by omega) (by omega)), fun h => ?_⟩
        apply hV; apply hV
        refine ⟨rfl, ?_⟩
        apply hV; apply hV
        refine ⟨ii, ?_⟩
        rw [e2]
        apply hV; apply hV
        refine ⟨fun c => ?_, fun c => ?_⟩
        · have c' : a < I 29 i := c
          simp only [mo_rf, if_pos c'] at hK
          exact next hK
        · have c' : ¬ a < I 29 i := c
          apply hV; apply hV; apply hV
          refine ⟨rfl, ?_⟩
          apply hV; apply hV
          refine ⟨ii, ?_⟩
          rw [e2]
          apply hV
          refine ⟨fun c2 => ?_, fun c2 => ?_⟩
          · have c2' : I 30 i < a := c2
            simp only [mo_rf, if_neg c', if_pos c2'] at hK
            exact next hK
          · have c2' : ¬ I 30 i < a := c2
            simp only [mo_rf, if_neg c', if_neg c2'] at hK
            apply hV; apply hV
            exact hK
    apply hV; apply hV
    exact loop m 0 (by omega) hK
  · exact hT.elim
def mo_sv (r sl : Int32) : Bool := !decide (r < 0) && !decide (7 < r) && !decide (r = 6) && !decide (sl < 0) && decide (sl ≤ 15)
def T_msave : am_T := fun as I P J n K => match as with
  | [.inr (.inr (some o)), .inl r, .inl sl] => o = 21 ∧ (∃ q, P = am_p0 q) ∧ (I 21 20 = 0 → K (.inl none) (am_ui I 21 35 1) P J n) ∧ (¬ I 21 20 = 0 → mo_sv r sl = false → K (.inl none) (am_ui I 21 35 2) P J n) ∧ (¬ I 21 20 = 0 → mo_sv r sl = true → ∃ m p, m < 8 ∧ p < 8 ∧ I 21 20 = nI (m + 1) ∧ r = nI p ∧ K (.inl none) (am_ui (am_ui I 21 35 0) 33 (8 * m + p) sl) P J n)
  | _ => False
theorem ok_msave (sc : am_S) (C : Nat → am_T) : am_ok sc C tb_Mo_save T_msave := by
  intro as I P J n K hT V hD hV
  unfold T_msave at hT
  split at hT
  · rename_i o r sl
    obtain ⟨rfl, ⟨q, rfl⟩, hK1, hK2, hK3⟩ := hT
    show V 0 [(0, .inr (.inr (some 21))), (1, .inl r), (2, .inl sl)] [] I (am_p0 q) J n
    apply hV; apply hV; apply hV
    refine ⟨rfl, ?_⟩
    apply hV
    refine ⟨fun h0 => ?_, fun h0 => ?_⟩
    · have hK := hK1 h0
      clear hK1 hK2 hK3 h0
      repeat' first
        | exact absurd (show (1 : Int32) = 0 from ht) (by decide)
        | exact absurd (show (2 : Int32) = 0 from ht) (by decide)
        | exact absurd (show (0 : Int32) = 0 from rfl) ht
        | apply hV
        | (change (am_ui _ 21 35 _ 21 35 = 0 → V _ _ _ _ _ _ _) ∧ _; refine ⟨fun ht => ?_, fun ht => ?_⟩)
        | (change (_ → V _ _ _ _ _ _ _) ∧ _; refine ⟨fun h => ?_, fun h => ?_⟩)
        | (change am_kd _ = (5, _) ∧ _; refine ⟨rfl, ?_⟩)
        | fail
      exact hK
    have no : mo_sv r sl = false → V 38 [(0, .inr (.inr (some 21))), (1, .inl r), (2, .inl sl)] [.inr (.inr (some 21))] I (am_p0 q) J n := by
      intro hq
      have hK := hK2 h0 hq
      clear hK1 hK2 hK3 h0
      repeat' first
        | exact absurd (show (1 : Int32) = 0 from ht) (by decide)
        | exact absurd (show (2 : Int32) = 0 from ht) (by decide)
        | exact absurd (show (0 : Int32) = 0 from rfl) ht
        | apply hV
        | (change (am_ui _ 21 35 _ 21 35 = 0 → V _ _ _ _ _ _ _) ∧ _; refine ⟨fun ht => ?_, fun ht => ?_⟩)
        | (change (_ → V _ _ _ _ _ _ _) ∧ _; refine ⟨fun h => ?_, fun h => ?_⟩)
        | (change am_kd _ = (5, _) ∧ _; refine ⟨rfl, ?_⟩)
        | fail
      exact hK
    apply hV; apply hV
    refine ⟨fun h1 => no (by simp [mo_sv, h1]), fun h1 => ?_⟩
    apply hV; apply hV; apply hV
    refine ⟨fun h2 => no (by simp [mo_sv, h2]), fun h2 => ?_⟩
    apply hV; apply hV; apply hV
    refine ⟨fun h3 => no (by simp [mo_sv, h3]), fun h3 => ?_⟩
    apply hV; apply hV
    refine ⟨fun h4 => no (by simp [mo_sv, h4]), fun h4 => ?_⟩
    apply hV; apply hV; apply hV
    refine ⟨fun h5 => ?_, fun h5 => no (by simp [mo_sv, h5])⟩
    obtain ⟨m, p, hm, hp, em, rfl, hK⟩ := hK3 h0 (by simp [mo_sv, h1, h2, h3, h4, h5])
    clear hK1 hK2 hK3 no
    have e1 : I 21 20 - 1 = nI m := by rw [em]; exact nI_pred m
    have e2 : (8 * nI m + nI p).toNatClampNeg = 8 * m + p := by rw [nI_82]; exact nI_clamp (by omega)
    have i2 : vp_in (8 * nI m + nI p) 64 := by rw [nI_82]; exact nI_in (by omega) (by omega)
    apply hV; apply hV
    refine ⟨rfl, ?_⟩
    apply hV; apply hV
    refine ⟨rfl, ?_⟩
    apply hV
    refine ⟨fun _ => ?_, fun ht => absurd (show (0 : Int32) = 0 from rfl) ht⟩
    apply hV; apply hV
    refine ⟨rfl, ?_⟩
    apply hV; apply hV; apply hV
    refine ⟨rfl, ?_⟩
    apply hV; apply hV
    have e1' : am_ui I 21 35 0 21 20 - 1 = nI m := e1
    show V 65 [(0, .inr (.inr (some 21))), (1, .inl (nI p)), (2, .inl sl)] [.inl (am_ui I 21 35 0 21 20 - 1), .inl 8, .inr (.inr (some 33))] (am_ui I 21 35 0) (am_p0 q) J n
    rw [e1']
    apply hV; apply hV; apply hV; apply hV; apply hV
    refine ⟨i2, ?_⟩
    rw [e2]
    apply hV
    exact hK
  · exact hT.elim
def mo_rl (fr to sz sl : Int32) : Bool := !decide (to < fr) && !decide (sz < 0) && !decide (15 < sz) && !decide (sl < -1) && decide (sl ≤ 15)
def mo_fl (f : Nat → Int32) (o e : Nat) : Nat → Int32 := fun k => if o ≤ k ∧ k < o + e then -1 else f k
theorem mo_fl_0 (f : Nat → Int32) (o : Nat) : mo_fl f o 0 = f := by
  funext k
  unfold mo_fl
  rw [if_neg (by omega)]
theorem mo_fl_s (f : Nat → Int32) (o e : Nat) : upd (mo_fl f o e) (o + e) (-1) = mo_fl f o (e + 1) := by
  funext k
  rw [pb_upd]
  unfold mo_fl
  by_cases h : k = o + e
  · rw [if_pos h, if_pos (by omega)]
  · rw [if_neg h]
    by_cases h2 : o ≤ k ∧ k < o + e
    · rw [if_pos h2, if_pos (by omega)]
    · rw [if_neg h2, if_neg (by omega)]
def T_mrule : am_T := fun as I P J n K => match as with
  | [.inr (.inr (some o)), .inl fr, .inl to, .inl sz, .inl sl] => o = 21 ∧ (∃ q, P = am_p0 q) ∧ ∃ m, m ≤ 8 ∧ I 21 20 = nI m ∧ (mo_rl fr to sz sl = false → K (.inl (some (.inl 0))) (am_ui I 21 35 1) P J n) ∧ (mo_rl fr to sz sl = true → m = 8 → K (.inl (some (.inl 0))) (am_ui I 21 35 2) P J n) ∧ (mo_rl fr to sz sl = true → m < 8 → ∀ X : am_I, X 29 = upd (I 29) m fr → X 30 = upd (I 30) m to → X 31 = upd (I 31) m sz → X 32 = upd (I 32) m sl → X 33 = mo_fl (I 33) (8 * m) 8 → X 21 = upd (upd (I 21) 35 0) 20 (nI (m + 1)) → (∀ k, ¬ (k = 21 ∨ (29 ≤ k ∧ k ≤ 33)) → X k = I k) → K (.inl (some (.inl (nI (m + 1))))) X P J n)
  | _ => False
theorem ok_mrule (sc : am_S) (C : Nat → am_T) : am_ok sc C tb_Mo_rule T_mrule := by
  intro as I P J n K hT V hD hV
  unfold T_mrule at hT
  split at hT
  · rename_i o fr to sz sl
    obtain ⟨rfl, ⟨q, rfl⟩, m, hm, em, hK1, hK2, hK3⟩ := hT
    show V 0 [(0, .inr (.inr (some 21))), (1, .inl fr), (2, .inl to), (3, .inl sz), (4, .inl sl)] [] I (am_p0 q) J n
    have no : mo_rl fr to sz sl = false → V 29 [(0, .inr (.inr (some 21))), (1, .inl fr), (2, .inl to), (3, .inl sz), (4, .inl sl)] [.inr (.inr (some 21))] I (am_p0 q) J n := by
      intro hq
      have hK := hK1 hq
      clear hK1 hK2 hK3
      repeat' first
        | exact absurd (show (1 : Int32) = 0 from ht) (by decide)
        | exact absurd (show (2 : Int32) = 0 from ht) (by decide)
        | exact absurd (show (0 : Int32) = 0 from rfl) ht
        | apply hV
        | (change (am_ui _ 21 35 _ 21 35 = 0 → V _ _ _ _ _ _ _) ∧ _; refine ⟨fun ht => ?_, fun ht => ?_⟩)
        | (change (_ → V _ _ _ _ _ _ _) ∧ _; refine ⟨fun h => ?_, fun h => ?_⟩)
        | (change am_kd _ = (5, _) ∧ _; refine ⟨rfl, ?_⟩)
        | fail
      exact hK
    apply hV; apply hV; apply hV; apply hV
    refine ⟨fun h1 => no (by simp [mo_rl, h1]), fun h1 => ?_⟩
    apply hV; apply hV
    refine ⟨fun h2 => no (by simp [mo_rl, h2]), fun h2 => ?_⟩
    apply hV; apply hV; apply hV
    refine ⟨fun h3 => no (by simp [mo_rl, h3]), fun h3 => ?_⟩
    apply hV; apply hV; apply hV
    refine ⟨fun h4 => no (by simp [mo_rl, h4]), fun h4 => ?_⟩
    apply hV; apply hV; apply hV
    refine ⟨fun h5 => ?_, fun h5 => no (by simp [mo_rl, h5])⟩
    have ok : mo_rl fr to sz sl = true := by simp [mo_rl, h1, h2, h3, h4, h5]
    clear no h1 h2 h3 h4 h5 hK1
    apply hV; apply hV
    refine ⟨rfl, ?_⟩
    apply hV; apply hV
    refine ⟨fun h8 => ?_, fun h8 => ?_⟩
    · have hK := hK2 ok ((nI_eq (by omega) (by omega)).1 (em.symm.trans h8))
      clear hK2 hK3
      repeat' first
        | exact absurd (show (1 : Int32) = 0 from ht) (by decide)
        | exact absurd (show (2 : Int32) = 0 from ht) (by decide)
        | exact absurd (show (0 : Int32) = 0 from rfl) ht
        | apply hV
        | (change (am_ui _ 21 35 _ 21 35 = 0 → V _ _ _ _ _ _ _) ∧ _; refine ⟨fun ht => ?_, fun ht => ?_⟩)
        | (change (_ → V _ _ _ _ _ _ _) ∧ _; refine ⟨fun h => ?_, fun h => ?_⟩)
        | (change am_kd _ = (5, _) ∧ _; refine ⟨rfl, ?_⟩)
        | fail
      exact hK
    have hm8 : m < 8 := Nat.lt_of_le_of_ne hm (fun e => h8 (by show I 21 20 = 8; rw [em, e]; rfl))
    have hK := hK3 ok hm8
    clear hK2 hK3
    have lp : ∀ (d j : Nat) (X : am_I), j + d = 8 → X 29 = upd (I 29) m fr → X 30 = upd (I 30) m to → X 31 = upd (I 31) m sz → X 32 = upd (I 32) m sl → X 33 = mo_fl (I 33) (8 * m) j → X 21 = upd (I 21) 35 0 → (∀ k, ¬ (k = 21 ∨ (29 ≤ k ∧ k ≤ 33)) → X k = I k) → V 103 [(0, .inr (.inr (some 21))), (1, .inl fr), (2, .inl to), (3, .inl sz), (4, .inl sl), (5, .inl (nI j))] [] X (am_p0 q) J n := by
      intro d
      induction d with
      | zero =>
        intro j X hj x29 x30 x31 x32 x33 x21 xo
        have hj' : j = 8 := by omega
        subst hj'
        have er : X 21 20 = nI m := by rw [x21]; exact em
        apply hV; apply hV; apply hV
        refine ⟨fun h => ?_, fun h => absurd (show nI 8 ≤ nI 8 from nI_le (by omega) (by omega)) h⟩
        apply hV; apply hV; apply hV
        refine ⟨rfl, ?_⟩
        apply hV; apply hV; apply hV
        refine ⟨rfl, ?_⟩
        apply hV; apply hV
        refine ⟨rfl, ?_⟩
        have e1 : X 21 20 + 1 = nI (m + 1) := by rw [er, nI_1]
        rw [e1]
        apply hV
        refine hK _ x29 x30 x31 x32 x33 ?_ (fun k hk => ?_)
        · rw [am_ui_eq, x21]
        · rw [am_ui_ne _ _ _ (by omega)]
          exact xo k hk
      | succ d ih =>
        intro j X hj x29 x30 x31 x32 x33 x21 xo
        have er : X 21 20 = nI m := by rw [x21]; exact em
        have e2 : (8 * nI m + nI j).toNatClampNeg = 8 * m + j := by rw [nI_82]; exact nI_clamp (by omega)
        have i2 : vp_in (8 * nI m + nI j) 64 := by rw [nI_82]; exact nI_in (by omega) (by omega)
        apply hV; apply hV; apply hV
        refine ⟨fun h => absurd h (show ¬ nI 8 ≤ nI j from nI_ge (by omega) (by omega)), fun h => ?_⟩
        apply hV; apply hV
        refine ⟨rfl, ?_⟩
        apply hV; apply hV; apply hV
        refine ⟨rfl, ?_⟩
        rw [er]
        apply hV; apply hV; apply hV; apply hV; apply hV
        refine ⟨i2, ?_⟩
        rw [e2]
        apply hV; apply hV
        show V 103 [(0, .inr (.inr (some 21))), (1, .inl fr), (2, .inl to), (3, .inl sz), (4, .inl sl), (5, .inl (nI j + 1))] [] (am_ui X 33 (8 * m + j) (-1)) (am_p0 q) J n
        rw [← nI_succ]
        refine ih (j + 1) _ (by omega) x29 x30 x31 x32 ?_ x21 (fun k hk => ?_)
        · rw [am_ui_eq, x33]
          exact mo_fl_s _ _ _
        · rw [am_ui_ne _ _ _ (by omega)]
          exact xo k hk
    have e2 : (I 21 20).toNatClampNeg = m := by rw [em]; exact nI_clamp (by omega)
    have i2 : vp_in (I 21 20) 8 := by rw [em]; exact nI_in (by omega) (by omega)
    apply hV; apply hV
    refine ⟨rfl, ?_⟩
    apply hV; apply hV
    refine ⟨rfl, ?_⟩
    apply hV
    refine ⟨fun _ => ?_, fun ht => absurd (show (0 : Int32) = 0 from rfl) ht⟩
    apply hV; apply hV
    refine ⟨rfl, ?_⟩
    apply hV; apply hV
    refine ⟨rfl, ?_⟩
    apply hV; apply hV
    refine ⟨i2, ?_⟩
    apply hV; apply hV
    refine ⟨rfl, ?_⟩
    apply hV; apply hV
    refine ⟨rfl, ?_⟩
    apply hV; apply hV
    refine ⟨i2, ?_⟩
    apply hV; apply hV
    refine ⟨rfl, ?_⟩
    apply hV; apply hV
    refine ⟨rfl, ?_⟩
    apply hV; apply hV
    refine ⟨i2, ?_⟩
    apply hV; apply hV
    refine ⟨rfl, ?_⟩
    apply hV; apply hV
    refine ⟨rfl, ?_⟩
    apply hV; apply hV
    refine ⟨i2, ?_⟩
    apply hV; apply hV
    rw [← e2] at lp
    refine lp 8 0 _ (by omega) rfl rfl rfl rfl (mo_fl_0 _ _).symm rfl (fun k hk => ?_)
    rw [am_ui_ne _ _ _ (by omega), am_ui_ne _ _ _ (by omega), am_ui_ne _ _ _ (by omega), am_ui_ne _ _ _ (by omega), am_ui_ne _ _ _ (by omega)]
  · exact hT.elim
