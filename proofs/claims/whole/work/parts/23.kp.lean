/-! Backtrace.keep: the two rows of frames change places. -/
theorem p0_oth (q r : Nat) : ∀ {a : Nat} (_ : a ≠ 14) (b : Nat), am_p0 q a b = am_p0 r a b
  | 0, h, b => rfl
  | 1, h, b => rfl
  | 2, h, b => rfl
  | 3, h, b => rfl
  | 4, h, b => rfl
  | 5, h, b => rfl
  | 6, h, b => rfl
  | 7, h, b => rfl
  | 8, h, b => rfl
  | 9, h, b => rfl
  | 10, h, b => rfl
  | 11, h, b => rfl
  | 12, h, b => rfl
  | 13, h, b => rfl
  | 14, h, b => absurd rfl h
  | 15, h, b => rfl
  | 16, h, b => rfl
  | 17, h, b => rfl
  | 18, h, b => rfl
  | 19, h, b => rfl
  | 20, h, b => rfl
  | 21, h, b => rfl
  | 22, h, b => rfl
  | 23, h, b => rfl
  | 24, h, b => rfl
  | 25, h, b => rfl
  | 26, h, b => rfl
  | 27, h, b => rfl
  | 28, h, b => rfl
  | 29, h, b => rfl
  | 30, h, b => rfl
  | 31, h, b => rfl
  | 32, h, b => rfl
  | 33, h, b => rfl
  | 34, h, b => rfl
  | 35, h, b => rfl
  | 36, h, b => rfl
  | 37, h, b => rfl
  | 38, h, b => rfl
  | 39, h, b => rfl
  | 40, h, b => rfl
  | 41, h, b => rfl
  | 42, h, b => rfl
  | 43, h, b => rfl
  | 44, h, b => rfl
  | 45, h, b => rfl
  | 46, h, b => rfl
  | 47, h, b => rfl
  | a + 48, h, b => rfl
theorem p0_swap {q : Nat} (hq : q < 2) : am_up (am_up (am_p0 q) 14 0 (am_p0 q 14 2)) 14 2 (am_p0 q 14 0) = am_p0 (1 - q) := by
  funext a b
  by_cases h : a = 14
  · subst h
    rw [am_up_eq, am_up_eq]
    have hq2 : q = 0 ∨ q = 1 := by omega
    rcases hq2 with rfl | rfl
    · match b with
      | 0 => rfl
      | 1 => rfl
      | 2 => rfl
      | b + 3 => rfl
    · match b with
      | 0 => rfl
      | 1 => rfl
      | 2 => rfl
      | b + 3 => rfl
  · rw [am_up_ne _ _ _ h, am_up_ne _ _ _ h]
    exact p0_oth _ _ h b
def T_keep : am_T := fun as I P J n K => match as with
  | [.inr (.inr (some o)), .inl c] => o = 14 ∧ ∃ q, q < 2 ∧ P = am_p0 q ∧ K (.inl none) (am_ui I 14 1 c) (am_p0 (1 - q)) J n
  | _ => False
theorem ok_keep (sc : am_S) (C : Nat → am_T) : am_ok sc C tb_Ba_keep T_keep := by
  intro as I P J n K hT V hD hV
  unfold T_keep at hT
  split at hT
  · rename_i o c
    obtain ⟨rfl, q, hq, rfl, hK⟩ := hT
    show V 0 [(0, .inr (.inr (some 14))), (1, .inl c)] [] I (am_p0 q) J n
    repeat' first
      | apply hV
      | (change am_kd _ = (5, _) ∧ _; refine ⟨rfl, ?_⟩)
      | fail
    change K _ _ _ _ _
    rw [← p0_swap hq] at hK
    exact hK
  · exact hT.elim
