/-! Frames as bytes: the class's four static methods on them. -/
def pm_word (f : Nat → Int32) (k : Nat) : Int32 := ((f k ||| am_shl (f (k + 1)) 8) ||| am_shl (f (k + 2)) 16) ||| am_shl (f (k + 3)) 24
def pm_sum7 (f : Nat → Int32) : Int32 := (0 + f 0 + f 1 + f 2 + f 3 + f 4 + f 5 + f 6) &&& 255
def pm_sum6 (f : Nat → Int32) : Int32 := (0 + f 0 + f 1 + f 2 + f 3 + f 4 + f 5) &&& 255
def pm_put (f : Nat → Int32) (k : Nat) (w : Int32) : Nat → Int32 := upd (upd (upd (upd f k (am_shr w 0 &&& 255)) (k + 1) (am_shr w 8 &&& 255)) (k + 2) (am_shr w 16 &&& 255)) (k + 3) (am_shr w 24 &&& 255)
def T_word : am_T := fun as I P J n K => match as with
  | [.inr (.inr (some o)), .inl a] => o = 11 ∧ ((a = 2 ∧ K (.inl (some (.inl (pm_word (I 11) 2)))) I P J n) ∨ (a = 3 ∧ K (.inl (some (.inl (pm_word (I 11) 3)))) I P J n))
  | _ => False
theorem ok_word (sc : am_S) (C : Nat → am_T) : am_ok sc C tb_By_word T_word := by
  intro as I P J n K hT V hD hV
  unfold T_word at hT
  split at hT
  · rename_i o a
    obtain ⟨rfl, ⟨rfl, hK⟩ | ⟨rfl, hK⟩⟩ := hT
    · show V 0 [(0, .inr (.inr (some 11))), (1, .inl 2)] [] I P J n
      repeat' first
        | apply hV
        | (change vp_in _ 8 ∧ _; refine ⟨by unfold vp_in; decide, ?_⟩)
        | fail
      exact hK
    · show V 0 [(0, .inr (.inr (some 11))), (1, .inl 3)] [] I P J n
      repeat' first
        | apply hV
        | (change vp_in _ 8 ∧ _; refine ⟨by unfold vp_in; decide, ?_⟩)
        | fail
      exact hK
  · exact hT.elim
/-- row o is f in I', all else as in I -/
def cs_row (I I' : am_I) (o : Nat) (f : Nat → Int32) : Prop := I' o = f ∧ ∀ k, k ≠ o → I' k = I k
def T_putWord : am_T := fun as I P J n K => match as with
  | [.inr (.inr (some o)), .inl a, .inl w] => (o = 5 ∧ a = 2 ∧ ∀ I', cs_row I I' 5 (pm_put (I 5) 2 w) → K (.inl none) I' P J n) ∨ (o = 9 ∧ a = 3 ∧ ∀ I', cs_row I I' 9 (pm_put (I 9) 3 w) → K (.inl none) I' P J n)
  | _ => False
theorem ok_putWord (sc : am_S) (C : Nat → am_T) : am_ok sc C tb_By_putWord T_putWord := by
  intro as I P J n K hT V hD hV
  unfold T_putWord at hT
  split at hT
  · rename_i o a w
    obtain ⟨rfl, rfl, hK⟩ | ⟨rfl, rfl, hK⟩ := hT
    · show V 0 [(0, .inr (.inr (some 5))), (1, .inl 2), (2, .inl w)] [] I P J n
      repeat' first
        | exact absurd h (by decide)
        | apply hV
        | (change (_ → V _ _ _ _ _ _ _) ∧ _; refine ⟨fun h => ?_, fun h => ?_⟩)
        | (change vp_in _ 7 ∧ _; refine ⟨by unfold vp_in; decide, ?_⟩)
        | fail
      exact hK _ ⟨rfl, fun k hk => by simp only [am_ui_ne _ _ _ hk]⟩
    · show V 0 [(0, .inr (.inr (some 9))), (1, .inl 3), (2, .inl w)] [] I P J n
      repeat' first
        | exact absurd h (by decide)
        | apply hV
        | (change (_ → V _ _ _ _ _ _ _) ∧ _; refine ⟨fun h => ?_, fun h => ?_⟩)
        | (change vp_in _ 8 ∧ _; refine ⟨by unfold vp_in; decide, ?_⟩)
        | fail
      exact hK _ ⟨rfl, fun k hk => by simp only [am_ui_ne _ _ _ hk]⟩
  · exact hT.elim
def T_sum : am_T := fun as I P J n K => match as with
  | [.inr (.inr (some o)), .inl a] => ((o = 9 ∨ o = 11) ∧ a = 8 ∧ K (.inl (some (.inl (pm_sum7 (I o))))) I P J n) ∨ ((o = 5 ∨ o = 11) ∧ a = 7 ∧ K (.inl (some (.inl (pm_sum6 (I o))))) I P J n)
  | _ => False
theorem ok_sum (sc : am_S) (C : Nat → am_T) : am_ok sc C tb_By_sum T_sum := by
  intro as I P J n K hT V hD hV
  unfold T_sum at hT
  split at hT
  · rename_i o a
    obtain ⟨ho, rfl, hK⟩ | ⟨ho, rfl, hK⟩ := hT
    · show V 0 [(0, .inr (.inr (some o))), (1, .inl 8)] [] I P J n
      rcases ho with rfl | rfl
      all_goals
        repeat' first
          | exact absurd h (by decide)
          | apply hV
          | (change (_ → V _ _ _ _ _ _ _) ∧ _; refine ⟨fun h => ?_, fun h => ?_⟩)
          | (change vp_in _ 8 ∧ _; refine ⟨by unfold vp_in; decide, ?_⟩)
          | fail
        exact hK
    · show V 0 [(0, .inr (.inr (some o))), (1, .inl 7)] [] I P J n
      rcases ho with rfl | rfl
      all_goals
        repeat' first
          | exact absurd h (by decide)
          | apply hV
          | (change (_ → V _ _ _ _ _ _ _) ∧ _; refine ⟨fun h => ?_, fun h => ?_⟩)
          | (change vp_in _ 7 ∧ _; refine ⟨by unfold vp_in; decide, ?_⟩)
          | (change vp_in _ 8 ∧ _; refine ⟨by unfold vp_in; decide, ?_⟩)
          | fail
        exact hK
  · exact hT.elim
def T_putSum : am_T := fun as I P J n K => match as with
  | [.inr (.inr (some o)), .inl a] => (o = 9 ∧ a = 8 ∧ ∀ I', cs_row I I' 9 (upd (I 9) 7 (pm_sum7 (I 9))) → K (.inl none) I' P J n) ∨ (o = 5 ∧ a = 7 ∧ ∀ I', cs_row I I' 5 (upd (I 5) 6 (pm_sum6 (I 5))) → K (.inl none) I' P J n)
  | _ => False
theorem ok_putSum (sc : am_S) (C : Nat → am_T) (h60 : am_has C 60 T_sum) : am_ok sc C tb_By_putSum T_putSum := by
  intro as I P J n K hT V hD hV
  unfold T_putSum at hT
  split at hT
  · rename_i o a
    obtain ⟨rfl, rfl, hK⟩ | ⟨rfl, rfl, hK⟩ := hT
    · show V 0 [(0, .inr (.inr (some 9))), (1, .inl 8)] [] I P J n
      repeat' first
        | apply hV
        | (change vp_in _ 8 ∧ _; refine ⟨by unfold vp_in; decide, ?_⟩)
        | refine h60 _ _ _ _ _ _ (Or.inl ⟨Or.inl rfl, rfl, ?_⟩)
        | fail
      exact hK _ ⟨rfl, fun k hk => by simp only [am_ui_ne _ _ _ hk]⟩
    · show V 0 [(0, .inr (.inr (some 5))), (1, .inl 7)] [] I P J n
      repeat' first
        | apply hV
        | (change vp_in _ 7 ∧ _; refine ⟨by unfold vp_in; decide, ?_⟩)
        | refine h60 _ _ _ _ _ _ (Or.inr ⟨Or.inl rfl, rfl, ?_⟩)
        | fail
      exact hK _ ⟨rfl, fun k hk => by simp only [am_ui_ne _ _ _ hk]⟩
  · exact hT.elim
