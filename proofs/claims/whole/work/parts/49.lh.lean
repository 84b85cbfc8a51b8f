/-! The law's helpers: a call, its exceptions turned into numbers. -/
def am_kh (hs : List (Nat × Int32)) (K : am_K) : Nat → am_I → am_P → am_J → Nat → Prop := match hs with
  | [] => fun _ _ _ _ _ => False
  | (e, c) :: r => fun E I P J n => if E = e then K (.inl (some (.inl c))) I P J n else am_kh r K E I P J n
/-- behind a helper's call; d: its answer goes to the long -/
def am_KH (d : Bool) (hs : List (Nat × Int32)) (K : am_K) : am_K := fun o I P J n => match o with
  | .inl (some (.inl v)) => match d with
    | true => K (.inl (some (.inl 0))) I P (am_uj J 39 0 v.toInt64) n
    | false => False
  | .inl none => match d with
    | true => False
    | false => K (.inl (some (.inl 0))) I P J n
  | .inr E => am_kh hs K E I P J n
  | _ => False
def T_La_fault : am_T := fun as I P J n K => match as with
  | [.inr (.inr (some o)), .inl p0, .inr (.inr (some u))] => o = 0 ∧ u = 39 ∧ ∀ K', (∀ c I P J n, am_KH true [(1, 1), (2, 2)] K c I P J n → K' c I P J n) → T_fault [.inr (.inr (some 0)), .inl p0] I P J n K'
  | _ => False
theorem ok_La_fault (sc : am_S) (C : Nat → am_T) (hc : am_has C 1 T_fault) : am_ok sc C tb_La_fault T_La_fault := by
  intro as I P J n K hT V hD hV
  unfold T_La_fault at hT
  split at hT
  · rename_i o p0 u
    obtain ⟨rfl, rfl, hT⟩ := hT
    show V 0 [(0, .inr (.inr (some 0))), (1, .inl p0), (2, .inr (.inr (some 39)))] [] I P J n
    apply hV; apply hV; apply hV; apply hV; apply hV
    refine ⟨rfl, ?_⟩
    refine hc _ _ _ _ _ _ (hT _ (fun c I' P' J' n' h => ?_))
    match c, h with
    | .inl (some (.inl v)), h =>
      apply hV; apply hV
      refine ⟨by unfold vp_in; decide, ?_⟩
      apply hV; apply hV; apply hV
      exact h
    | .inl none, h => exact h.elim
    | .inl (some (.inr v)), h => exact h.elim
    | .inr E, h =>
      have h : am_kh [(1, 1), (2, 2)] K E I' P' J' n' := h
      unfold am_kh at h
      by_cases e0 : E = 1
      · subst e0
        rw [if_pos rfl] at h
        apply hV; apply hV
        exact h
      rw [if_neg e0] at h
      unfold am_kh at h
      by_cases e1 : E = 2
      · subst e1
        rw [if_pos rfl] at h
        apply hV; apply hV
        exact h
      rw [if_neg e1] at h
      exact h.elim
  · exact hT.elim
def T_La_request : am_T := fun as I P J n K => match as with
  | [.inr (.inr (some o)), .inl p0, .inl p1, .inl p2, .inr (.inr (some u))] => o = 0 ∧ u = 39 ∧ ∀ K', (∀ c I P J n, am_KH true [(1, 1), (3, 2)] K c I P J n → K' c I P J n) → T_request [.inr (.inr (some 0)), .inl p0, .inl p1, .inl p2] I P J n K'
  | _ => False
theorem ok_La_request (sc : am_S) (C : Nat → am_T) (hc : am_has C 2 T_request) : am_ok sc C tb_La_request T_La_request := by
  intro as I P J n K hT V hD hV
  unfold T_La_request at hT
  split at hT
  · rename_i o p0 p1 p2 u
    obtain ⟨rfl, rfl, hT⟩ := hT
    show V 0 [(0, .inr (.inr (some 0))), (1, .inl p0), (2, .inl p1), (3, .inl p2), (4, .inr (.inr (some 39)))] [] I P J n
    apply hV; apply hV; apply hV; apply hV; apply hV; apply hV; apply hV
    refine ⟨rfl, ?_⟩
    refine hc _ _ _ _ _ _ (hT _ (fun c I' P' J' n' h => ?_))
    match c, h with
    | .inl (some (.inl v)), h =>
      apply hV; apply hV
      refine ⟨by unfold vp_in; decide, ?_⟩
      apply hV; apply hV; apply hV
      exact h
    | .inl none, h => exact h.elim
    | .inl (some (.inr v)), h => exact h.elim
    | .inr E, h =>
      have h : am_kh [(1, 1), (3, 2)] K E I' P' J' n' := h
      unfold am_kh at h
      by_cases e0 : E = 1
      · subst e0
        rw [if_pos rfl] at h
        apply hV; apply hV
        exact h
      rw [if_neg e0] at h
      unfold am_kh at h
      by_cases e1 : E = 3
      · subst e1
        rw [if_pos rfl] at h
        apply hV; apply hV
        exact h
      rw [if_neg e1] at h
      exact h.elim
  · exact hT.elim
def T_La_rule : am_T := fun as I P J n K => match as with
  | [.inr (.inr (some o)), .inl p0, .inl p1, .inl p2, .inl p3, .inr (.inr (some u))] => o = 0 ∧ u = 39 ∧ ∀ K', (∀ c I P J n, am_KH true [(1, 1), (2, 2)] K c I P J n → K' c I P J n) → T_rule [.inr (.inr (some 0)), .inl p0, .inl p1, .inl p2, .inl p3] I P J n K'
  | _ => False
theorem ok_La_rule (sc : am_S) (C : Nat → am_T) (hc : am_has C 4 T_rule) : am_ok sc C tb_La_rule T_La_rule := by
  intro as I P J n K hT V hD hV
  unfold T_La_rule at hT
  split at hT
  · rename_i o p0 p1 p2 p3 u
    obtain ⟨rfl, rfl, hT⟩ := hT
    show V 0 [(0, .inr (.inr (some 0))), (1, .inl p0), (2, .inl p1), (3, .inl p2), (4, .inl p3), (5, .inr (.inr (some 39)))] [] I P J n
    apply hV; apply hV; apply hV; apply hV; apply hV; apply hV; apply hV; apply hV
    refine ⟨rfl, ?_⟩
    refine hc _ _ _ _ _ _ (hT _ (fun c I' P' J' n' h => ?_))
    match c, h with
    | .inl (some (.inl v)), h =>
      apply hV; apply hV
      refine ⟨by unfold vp_in; decide, ?_⟩
      apply hV; apply hV; apply hV
      exact h
    | .inl none, h => exact h.elim
    | .inl (some (.inr v)), h => exact h.elim
    | .inr E, h =>
      have h : am_kh [(1, 1), (2, 2)] K E I' P' J' n' := h
      unfold am_kh at h
      by_cases e0 : E = 1
      · subst e0
        rw [if_pos rfl] at h
        apply hV; apply hV
        exact h
      rw [if_neg e0] at h
      unfold am_kh at h
      by_cases e1 : E = 2
      · subst e1
        rw [if_pos rfl] at h
        apply hV; apply hV
        exact h
      rw [if_neg e1] at h
      exact h.elim
  · exact hT.elim
def T_La_save : am_T := fun as I P J n K => match as with
  | [.inr (.inr (some o)), .inl p0, .inl p1] => o = 0 ∧ ∀ K', (∀ c I P J n, am_KH false [(2, 1), (1, 2)] K c I P J n → K' c I P J n) → T_save [.inr (.inr (some 0)), .inl p0, .inl p1] I P J n K'
  | _ => False
theorem ok_La_save (sc : am_S) (C : Nat → am_T) (hc : am_has C 5 T_save) : am_ok sc C tb_La_save T_La_save := by
  intro as I P J n K hT V hD hV
  unfold T_La_save at hT
  split at hT
  · rename_i o p0 p1
    obtain ⟨rfl, hT⟩ := hT
    show V 0 [(0, .inr (.inr (some 0))), (1, .inl p0), (2, .inl p1)] [] I P J n
    apply hV; apply hV; apply hV; apply hV
    refine ⟨rfl, ?_⟩
    refine hc _ _ _ _ _ _ (hT _ (fun c I' P' J' n' h => ?_))
    match c, h with
    | .inl none, h =>
      apply hV; apply hV; apply hV
      exact h
    | .inl (some (.inl v)), h => exact h.elim
    | .inl (some (.inr v)), h => exact h.elim
    | .inr E, h =>
      have h : am_kh [(2, 1), (1, 2)] K E I' P' J' n' := h
      unfold am_kh at h
      by_cases e0 : E = 2
      · subst e0
        rw [if_pos rfl] at h
        apply hV; apply hV
        exact h
      rw [if_neg e0] at h
      unfold am_kh at h
      by_cases e1 : E = 1
      · subst e1
        rw [if_pos rfl] at h
        apply hV; apply hV
        exact h
      rw [if_neg e1] at h
      exact h.elim
  · exact hT.elim
def T_La_unwind : am_T := fun as I P J n K => match as with
  | [.inr (.inr (some o)), .inr (.inr (some u))] => o = 0 ∧ u = 39 ∧ ∀ K', (∀ c I P J n, am_KH true [(3, 1)] K c I P J n → K' c I P J n) → T_unwind [.inr (.inr (some 0))] I P J n K'
  | _ => False
theorem ok_La_unwind (sc : am_S) (C : Nat → am_T) (hc : am_has C 6 T_unwind) : am_ok sc C tb_La_unwind T_La_unwind := by
  intro as I P J n K hT V hD hV
  unfold T_La_unwind at hT
  split at hT
  · rename_i o u
    obtain ⟨rfl, rfl, hT⟩ := hT
    show V 0 [(0, .inr (.inr (some 0))), (1, .inr (.inr (some 39)))] [] I P J n
    apply hV; apply hV; apply hV; apply hV
    refine ⟨rfl, ?_⟩
    refine hc _ _ _ _ _ _ (hT _ (fun c I' P' J' n' h => ?_))
    match c, h with
    | .inl (some (.inl v)), h =>
      apply hV; apply hV
      refine ⟨by unfold vp_in; decide, ?_⟩
      apply hV; apply hV; apply hV
      exact h
    | .inl none, h => exact h.elim
    | .inl (some (.inr v)), h => exact h.elim
    | .inr E, h =>
      have h : am_kh [(3, 1)] K E I' P' J' n' := h
      unfold am_kh at h
      by_cases e0 : E = 3
      · subst e0
        rw [if_pos rfl] at h
        apply hV; apply hV
        exact h
      rw [if_neg e0] at h
      exact h.elim
  · exact hT.elim
def T_La_frame : am_T := fun as I P J n K => match as with
  | [.inr (.inr (some o)), .inl p0, .inl p1, .inr (.inr (some u))] => o = 0 ∧ u = 39 ∧ ∀ K', (∀ c I P J n, am_KH true [(4, 1)] K c I P J n → K' c I P J n) → T_frame [.inr (.inr (some 0)), .inl p0, .inl p1] I P J n K'
  | _ => False
theorem ok_La_frame (sc : am_S) (C : Nat → am_T) (hc : am_has C 7 T_frame) : am_ok sc C tb_La_frame T_La_frame := by
  intro as I P J n K hT V hD hV
  unfold T_La_frame at hT
  split at hT
  · rename_i o p0 p1 u
    obtain ⟨rfl, rfl, hT⟩ := hT
    show V 0 [(0, .inr (.inr (some 0))), (1, .inl p0), (2, .inl p1), (3, .inr (.inr (some 39)))] [] I P J n
    apply hV; apply hV; apply hV; apply hV; apply hV; apply hV
    refine ⟨rfl, ?_⟩
    refine hc _ _ _ _ _ _ (hT _ (fun c I' P' J' n' h => ?_))
    match c, h with
    | .inl (some (.inl v)), h =>
      apply hV; apply hV
      refine ⟨by unfold vp_in; decide, ?_⟩
      apply hV; apply hV; apply hV
      exact h
    | .inl none, h => exact h.elim
    | .inl (some (.inr v)), h => exact h.elim
    | .inr E, h =>
      have h : am_kh [(4, 1)] K E I' P' J' n' := h
      unfold am_kh at h
      by_cases e0 : E = 4
      · subst e0
        rw [if_pos rfl] at h
        apply hV; apply hV
        exact h
      rw [if_neg e0] at h
      exact h.elim
  · exact hT.elim
def T_La_operation : am_T := fun as I P J n K => match as with
  | [.inr (.inr (some o)), .inl p0, .inl p1, .inr (.inr (some u))] => o = 0 ∧ u = 39 ∧ ∀ K', (∀ c I P J n, am_KH true [(1, 1), (2, 2)] K c I P J n → K' c I P J n) → T_operation [.inr (.inr (some 0)), .inl p0, .inl p1] I P J n K'
  | _ => False
theorem ok_La_operation (sc : am_S) (C : Nat → am_T) (hc : am_has C 8 T_operation) : am_ok sc C tb_La_operation T_La_operation := by
  intro as I P J n K hT V hD hV
  unfold T_La_operation at hT
  split at hT
  · rename_i o p0 p1 u
    obtain ⟨rfl, rfl, hT⟩ := hT
    show V 0 [(0, .inr (.inr (some 0))), (1, .inl p0), (2, .inl p1), (3, .inr (.inr (some 39)))] [] I P J n
    apply hV; apply hV; apply hV; apply hV; apply hV; apply hV
    refine ⟨rfl, ?_⟩
    refine hc _ _ _ _ _ _ (hT _ (fun c I' P' J' n' h => ?_))
    match c, h with
    | .inl (some (.inl v)), h =>
      apply hV; apply hV
      refine ⟨by unfold vp_in; decide, ?_⟩
      apply hV; apply hV; apply hV
      exact h
    | .inl none, h => exact h.elim
    | .inl (some (.inr v)), h => exact h.elim
    | .inr E, h =>
      have h : am_kh [(1, 1), (2, 2)] K E I' P' J' n' := h
      unfold am_kh at h
      by_cases e0 : E = 1
      · subst e0
        rw [if_pos rfl] at h
        apply hV; apply hV
        exact h
      rw [if_neg e0] at h
      unfold am_kh at h
      by_cases e1 : E = 2
      · subst e1
        rw [if_pos rfl] at h
        apply hV; apply hV
        exact h
      rw [if_neg e1] at h
      exact h.elim
  · exact hT.elim
def T_La_evaluate : am_T := fun as I P J n K => match as with
  | [.inr (.inr (some o)), .inl p0, .inr (.inr (some u))] => o = 0 ∧ u = 39 ∧ ∀ K', (∀ c I P J n, am_KH true [(4, 1), (2, 2), (5, 3), (1, 4), (3, 5)] K c I P J n → K' c I P J n) → T_evaluate [.inr (.inr (some 0)), .inl p0] I P J n K'
  | _ => False
theorem ok_La_evaluate (sc : am_S) (C : Nat → am_T) (hc : am_has C 10 T_evaluate) : am_ok sc C tb_La_evaluate T_La_evaluate := by
  intro as I P J n K hT V hD hV
  unfold T_La_evaluate at hT
  split at hT
  · rename_i o p0 u
    obtain ⟨rfl, rfl, hT⟩ := hT
    show V 0 [(0, .inr (.inr (some 0))), (1, .inl p0), (2, .inr (.inr (some 39)))] [] I P J n
    apply hV; apply hV; apply hV; apply hV; apply hV
    refine ⟨rfl, ?_⟩
    refine hc _ _ _ _ _ _ (hT _ (fun c I' P' J' n' h => ?_))
    match c, h with
    | .inl (some (.inl v)), h =>
      apply hV; apply hV
      refine ⟨by unfold vp_in; decide, ?_⟩
      apply hV; apply hV; apply hV
      exact h
    | .inl none, h => exact h.elim
    | .inl (some (.inr v)), h => exact h.elim
    | .inr E, h =>
      have h : am_kh [(4, 1), (2, 2), (5, 3), (1, 4), (3, 5)] K E I' P' J' n' := h
      unfold am_kh at h
      by_cases e0 : E = 4
      · subst e0
        rw [if_pos rfl] at h
        apply hV; apply hV
        exact h
      rw [if_neg e0] at h
      unfold am_kh at h
      by_cases e1 : E = 2
      · subst e1
        rw [if_pos rfl] at h
        apply hV; apply hV
        exact h
      rw [if_neg e1] at h
      unfold am_kh at h
      by_cases e2 : E = 5
      · subst e2
        rw [if_pos rfl] at h
        apply hV; apply hV
        exact h
      rw [if_neg e2] at h
      unfold am_kh at h
      by_cases e3 : E = 1
      · subst e3
        rw [if_pos rfl] at h
        apply hV; apply hV
        exact h
      rw [if_neg e3] at h
      unfold am_kh at h
      by_cases e4 : E = 3
      · subst e4
        rw [if_pos rfl] at h
        apply hV; apply hV
        exact h
      rw [if_neg e4] at h
      exact h.elim
  · exact hT.elim
