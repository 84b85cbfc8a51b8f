/-! The expression's small methods. -/
/-- exception E is thrown, and paid for -/
def am_thr (E : Nat) (I : am_I) (P : am_P) (J : am_J) (n : Nat) (K : am_K) : Prop := ∃ z, n = z + 1 ∧ K (.inr E) I P J z
def T_need : am_T := fun as I P J n K => match as with
  | [.inr (.inr (some o)), .inl c] => o = 15 ∧ (∃ q, P = am_p0 q) ∧ (c ≤ I 15 1 → K (.inl none) I P J n) ∧ (¬ c ≤ I 15 1 → am_thr 2 I P J n K)
  | _ => False
theorem ok_need (sc : am_S) (C : Nat → am_T) : am_ok sc C tb_Ex_need T_need := by
  intro as I P J n K hT V hD hV
  unfold T_need at hT
  split at hT
  · rename_i o c
    obtain ⟨rfl, ⟨q, rfl⟩, hK1, hK2⟩ := hT
    show V 0 [(0, .inr (.inr (some 15))), (1, .inl c)] [] I (am_p0 q) J n
    repeat' first
      | apply hV
      | (change (_ → V _ _ _ _ _ _ _) ∧ _; refine ⟨fun h => ?_, fun h => ?_⟩)
      | (change am_kd _ = (5, _) ∧ _; refine ⟨rfl, ?_⟩)
      | fail
    all_goals first
      | exact hK1 h
      | (obtain ⟨z, rfl, hz⟩ := hK2 h; exact hz)
  · exact hT.elim
def T_push : am_T := fun as I P J n K => match as with
  | [.inr (.inr (some o)), .inl x] => o = 15 ∧ (∃ q, P = am_p0 q) ∧ (I 15 1 = 8 → am_thr 2 I P J n K) ∧ (¬ I 15 1 = 8 → vp_in (I 15 1) 8 ∧ K (.inl none) (am_ui (am_ui I 18 (I 15 1).toNatClampNeg x) 15 1 (I 15 1 + 1)) P J n)
  | _ => False
theorem ok_push (sc : am_S) (C : Nat → am_T) : am_ok sc C tb_Ex_push T_push := by
  intro as I P J n K hT V hD hV
  unfold T_push at hT
  split at hT
  · rename_i o x
    obtain ⟨rfl, ⟨q, rfl⟩, hK1, hK2⟩ := hT
    show V 0 [(0, .inr (.inr (some 15))), (1, .inl x)] [] I (am_p0 q) J n
    repeat' first
      | apply hV
      | (change (_ → V _ _ _ _ _ _ _) ∧ _; refine ⟨fun h => ?_, fun h => ?_⟩)
      | (change am_kd _ = (5, _) ∧ _; refine ⟨rfl, ?_⟩)
      | (change vp_in _ 8 ∧ _; refine ⟨(hK2 h).1, ?_⟩)
      | fail
    all_goals first
      | exact (hK2 h).2
      | (obtain ⟨z, rfl, hz⟩ := hK1 h; exact hz)
  · exact hT.elim
def T_append : am_T := fun as I P J n K => match as with
  | [.inr (.inr (some o)), .inl x, .inl v] => o = 15 ∧ (∃ q, P = am_p0 q) ∧ (I 15 0 = 20 → am_thr 2 I P J n K) ∧ (¬ I 15 0 = 20 → vp_in (I 15 0) 20 ∧ K (.inl (some (.inl (I 15 0 + 1)))) (am_ui (am_ui (am_ui I 16 (I 15 0).toNatClampNeg x) 17 (I 15 0).toNatClampNeg v) 15 0 (I 15 0 + 1)) P J n)
  | _ => False
theorem ok_append (sc : am_S) (C : Nat → am_T) : am_ok sc C tb_Ex_append T_append := by
  intro as I P J n K hT V hD hV
  unfold T_append at hT
  split at hT
  · rename_i o x v
    obtain ⟨rfl, ⟨q, rfl⟩, hK1, hK2⟩ := hT
    show V 0 [(0, .inr (.inr (some 15))), (1, .inl x), (2, .inl v)] [] I (am_p0 q) J n
    repeat' first
      | apply hV
      | (change (_ → V _ _ _ _ _ _ _) ∧ _; refine ⟨fun h => ?_, fun h => ?_⟩)
      | (change am_kd _ = (5, _) ∧ _; refine ⟨rfl, ?_⟩)
      | (change vp_in _ 20 ∧ _; refine ⟨(hK2 h).1, ?_⟩)
      | fail
    all_goals first
      | exact (hK2 h).2
      | (obtain ⟨z, rfl, hz⟩ := hK1 h; exact hz)
  · exact hT.elim
def T_top : am_T := fun as I P J n K => match as with
  | [.inr (.inr (some o))] => o = 15 ∧ (∃ q, P = am_p0 q) ∧ (1 ≤ I 15 1 → vp_in (I 15 1 - 1) 8 ∧ K (.inl (some (.inl (I 18 (I 15 1 - 1).toNatClampNeg)))) I P J n) ∧ (¬ 1 ≤ I 15 1 → am_thr 2 I P J n K)
  | _ => False
theorem ok_top (sc : am_S) (C : Nat → am_T) (h65 : am_has C 65 T_need) : am_ok sc C tb_Ex_top T_top := by
  intro as I P J n K hT V hD hV
  unfold T_top at hT
  split at hT
  · rename_i o
    obtain ⟨rfl, ⟨q, rfl⟩, hK1, hK2⟩ := hT
    show V 0 [(0, .inr (.inr (some 15)))] [] I (am_p0 q) J n
    repeat' first
      | apply hV
      | (change (_ → V _ _ _ _ _ _ _) ∧ _; refine ⟨fun h => ?_, fun h => ?_⟩)
      | (change am_kd _ = (5, _) ∧ _; refine ⟨rfl, ?_⟩)
      | (change vp_in _ 8 ∧ _; refine ⟨(hK1 h).1, ?_⟩)
      | refine h65 _ _ _ _ _ _ ⟨rfl, ⟨_, rfl⟩, fun h => ?_, fun h => ?_⟩
      | fail
    all_goals first
      | exact (hK1 h).2
      | (obtain ⟨z, rfl, hz⟩ := hK2 h; exact ⟨z, rfl, hz⟩)
  · exact hT.elim
def T_change : am_T := fun as I P J n K => match as with
  | [.inr (.inr (some o))] => o = 15 ∧ (∃ q, P = am_p0 q) ∧ (2 ≤ I 15 1 → vp_in (I 15 1 - 1) 8 ∧ vp_in (I 15 1 - 2) 8 ∧ K (.inl none) (am_ui (am_ui I 18 (I 15 1 - 1).toNatClampNeg (I 18 (I 15 1 - 2).toNatClampNeg)) 18 (I 15 1 - 2).toNatClampNeg (I 18 (I 15 1 - 1).toNatClampNeg)) P J n) ∧ (¬ 2 ≤ I 15 1 → am_thr 2 I P J n K)
  | _ => False
theorem ok_change (sc : am_S) (C : Nat → am_T) (h65 : am_has C 65 T_need) : am_ok sc C tb_Ex_changePlaces T_change := by
  intro as I P J n K hT V hD hV
  unfold T_change at hT
  split at hT
  · rename_i o
    obtain ⟨rfl, ⟨q, rfl⟩, hK1, hK2⟩ := hT
    show V 0 [(0, .inr (.inr (some 15)))] [] I (am_p0 q) J n
    repeat' first
      | apply hV
      | (change (_ → V _ _ _ _ _ _ _) ∧ _; refine ⟨fun h => ?_, fun h => ?_⟩)
      | (change am_kd _ = (5, _) ∧ _; refine ⟨rfl, ?_⟩)
      | (change vp_in _ 8 ∧ _; refine ⟨by with_reducible first | exact (hK1 h).1 | exact (hK1 h).2.1, ?_⟩)
      | (change vp_in _ 8 ∧ _; refine ⟨(show vp_in (I 15 1 - 2) 8 from (hK1 h).2.1), ?_⟩)
      | refine h65 _ _ _ _ _ _ ⟨rfl, ⟨_, rfl⟩, fun h => ?_, fun h => ?_⟩
      | fail
    all_goals first
      | exact (hK1 h).2.2
      | (obtain ⟨z, rfl, hz⟩ := hK2 h; exact ⟨z, rfl, hz⟩)
  · exact hT.elim
def cm_comb (op x y : Int32) : Option Int32 := if op = 3 then some (x + y) else if op = 4 then some (x - y) else if op = 5 then some (x * y) else if y = 0 then none else some (x / y)
def T_combine : am_T := fun as I P J n K => match as with
  | [.inl op, .inl x, .inl y] => (∀ r, cm_comb op x y = some r → K (.inl (some (.inl r))) I P J n) ∧ (cm_comb op x y = none → am_thr 5 I P J n K)
  | _ => False
theorem ok_combine (sc : am_S) (C : Nat → am_T) : am_ok sc C tb_Ex_combine T_combine := by
  intro as I P J n K hT V hD hV
  unfold T_combine at hT
  split at hT
  · rename_i op x y
    obtain ⟨hK1, hK2⟩ := hT
    show V 0 [(0, .inl op), (1, .inl x), (2, .inl y)] [] I P J n
    repeat' first
      | apply hV
      | (change (_ → V _ _ _ _ _ _ _) ∧ _; refine ⟨fun h => ?_, fun h => ?_⟩)
      | (change am_kd _ = (5, _) ∧ _; refine ⟨rfl, ?_⟩)
      | (change (¬ _ = (0 : Int32)) ∧ _; refine ⟨by with_reducible assumption, ?_⟩)
      | fail
    all_goals first
      | exact hK1 _ (by simp [cm_comb, *])
      | (obtain ⟨z, rfl, hz⟩ := hK2 (by simp [cm_comb, *]); exact hz)
  · exact hT.elim
def T_hasFrame : am_T := fun as I P J n K => match as with
  | [.inr (.inr (some o)), .inl f] => o = 14 ∧ (∃ q, P = am_p0 q) ∧ K (.inl (some (.inl (cs_b (!decide (f < 0) && !decide (I 14 1 ≤ f)))))) I P J n
  | _ => False
theorem ok_hasFrame (sc : am_S) (C : Nat → am_T) : am_ok sc C tb_Ba_has T_hasFrame := by
  intro as I P J n K hT V hD hV
  unfold T_hasFrame at hT
  split at hT
  · rename_i o f
    obtain ⟨rfl, ⟨q, rfl⟩, hK⟩ := hT
    show V 0 [(0, .inr (.inr (some 14))), (1, .inl f)] [] I (am_p0 q) J n
    repeat' first
      | apply hV
      | (change (_ → V _ _ _ _ _ _ _) ∧ _; refine ⟨fun h => ?_, fun h => ?_⟩)
      | (change am_kd _ = (5, _) ∧ _; refine ⟨rfl, ?_⟩)
      | (change ((0 : Int32) = 0 ∨ _) ∧ _; refine ⟨Or.inl rfl, ?_⟩)
      | (change ((1 : Int32) = 0 ∨ _) ∧ _; refine ⟨Or.inr rfl, ?_⟩)
      | fail
    all_goals simpa [cs_b, *] using hK
  · exact hT.elim
def T_load : am_T := fun as I P J n K => match as with
  | [.inr (.inr (some o)), .inl a, .inl v] => o = 0 ∧ (∃ q, P = am_p0 q) ∧ (cs_adr a = true → K (.inl (some (.inl 1))) (am_ui I 2 a.toNatClampNeg v) P J n) ∧ (cs_adr a = false → K (.inl (some (.inl 0))) I P J n)
  | _ => False
theorem ok_load (sc : am_S) (C : Nat → am_T) (h12 : am_has C 12 (T_adr cs_adr)) : am_ok sc C tb_L_load T_load := by
  intro as I P J n K hT V hD hV
  unfold T_load at hT
  split at hT
  · rename_i o a v
    obtain ⟨rfl, ⟨q, rfl⟩, hK1, hK2⟩ := hT
    show V 0 [(0, .inr (.inr (some 0))), (1, .inl a), (2, .inl v)] [] I (am_p0 q) J n
    repeat' first
      | apply hV
      | (change (_ → V _ _ _ _ _ _ _) ∧ _; refine ⟨fun h => ?_, fun h => ?_⟩)
      | (change am_kd _ = (5, _) ∧ _; refine ⟨rfl, ?_⟩)
      | (change vp_in _ 64 ∧ _; refine ⟨cs_adr_in (cs_b1 (by with_reducible assumption)), ?_⟩)
      | refine h12 _ _ _ _ _ _ ?_
      | (change ((0 : Int32) = 0 ∨ _) ∧ _; refine ⟨Or.inl rfl, ?_⟩)
      | (change ((1 : Int32) = 0 ∨ _) ∧ _; refine ⟨Or.inr rfl, ?_⟩)
      | fail
    all_goals first
      | exact hK1 (cs_b1 (by with_reducible assumption))
      | exact hK2 (cs_b0 (by with_reducible assumption))
  · exact hT.elim
def T_drop : am_T := fun as I P J n K => match as with
  | [.inr (.inr (some o))] => o = 0 ∧ (∃ q, P = am_p0 q) ∧ K (.inl (some (.inl (I 15 0)))) (am_ui I 15 0 0) P J n
  | _ => False
theorem ok_drop (sc : am_S) (C : Nat → am_T) : am_ok sc C tb_L_drop T_drop := by
  intro as I P J n K hT V hD hV
  unfold T_drop at hT
  split at hT
  · rename_i o
    obtain ⟨rfl, ⟨q, rfl⟩, hK⟩ := hT
    show V 0 [(0, .inr (.inr (some 0)))] [] I (am_p0 q) J n
    repeat' first
      | apply hV
      | (change (_ → V _ _ _ _ _ _ _) ∧ _; refine ⟨fun h => ?_, fun h => ?_⟩)
      | (change am_kd _ = (5, _) ∧ _; refine ⟨rfl, ?_⟩)
      | fail
    exact hK
  · exact hT.elim
def cm_count (I : am_I) (w : Int32) : Int32 := if w = 0 then I 8 2 else if w = 1 then I 8 3 else if w = 2 then I 8 4 else if w = 3 then I 8 5 else if w = 4 then I 8 6 else if w = 5 then I 1 3 else if w = 6 then I 4 1 else if w = 7 then I 14 1 else if w = 8 then I 1 2 else if w = 9 then I 15 0 else -1
def T_count : am_T := fun as I P J n K => match as with
  | [.inr (.inr (some o)), .inl w] => o = 0 ∧ (∃ q, P = am_p0 q) ∧ K (.inl (some (.inl (cm_count I w)))) I P J n
  | _ => False
theorem ok_count (sc : am_S) (C : Nat → am_T) : am_ok sc C tb_L_count T_count := by
  intro as I P J n K hT V hD hV
  unfold T_count at hT
  split at hT
  · rename_i o w
    obtain ⟨rfl, ⟨q, rfl⟩, hK⟩ := hT
    show V 0 [(0, .inr (.inr (some 0))), (1, .inl w)] [] I (am_p0 q) J n
    repeat' first
      | apply hV
      | (change (_ → V _ _ _ _ _ _ _) ∧ _; refine ⟨fun h => ?_, fun h => ?_⟩)
      | (change am_kd _ = (5, _) ∧ _; refine ⟨rfl, ?_⟩)
      | fail
    all_goals change K _ _ _ _ _
    all_goals simpa [cm_count, *] using hK
  · exact hT.elim
