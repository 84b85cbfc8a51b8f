/-! The stub's run. -/
/-- at most k steps, the first with w -/
def cm_run : Nat → Int32 → am_I → Int32 × am_I
  | 0, _, I => (5, I)
  | k + 1, w, I => if (cm_ex w I).1 = 1 then match cs_brk (pm_at ((cm_ex w I).2 2) ((cm_ex w I).2 1 2)) with
      | true => (2, (cm_ex w I).2)
      | false => cm_run k (pm_at ((cm_ex w I).2 2) ((cm_ex w I).2 1 2)) (cm_ex w I).2
    else cm_ex w I
theorem ok_run_loop {sc : am_S} {C : Nat → am_T} (h74 : am_has C 74 (T_adr cs_brk)) (h75 : am_has C 75 T_atPc) (h76 : am_has C 76 T_execute) {q n m : Nat} {w0 : Int32} {J : am_J} {K : am_K} {V : am_W} (hD : am_drop V) (hV : am_closed sc C tb_St_run V K) (hm : m ≤ 200) :
    ∀ (k i : Nat) (w : Int32) (I : am_I), i + k = m → K (.inl (some (.inl (cm_run k w I).1))) (cm_run k w I).2 (am_p0 q) J n →
      V 21 [(0, .inr (.inr (some 4))), (1, .inl w0), (2, .inl (nI m)), (3, .inl w), (4, .inl (nI i))] [] I (am_p0 q) J n := by
  intro k
  induction k with
  | zero =>
    intro i w I hi hK
    apply hV; apply hV; apply hV
    refine ⟨fun h => ?_, fun h => absurd (nI_le (by omega) (by omega)) h⟩
    apply hV; apply hV
    exact hK
  | succ k ih =>
    intro i w I hi hK
    apply hV; apply hV; apply hV
    refine ⟨fun h => absurd h (nI_ge (by omega) (by omega)), fun h => ?_⟩
    apply hV; apply hV
    refine ⟨rfl, ?_⟩
    apply hV; apply hV
    refine ⟨rfl, ?_⟩
    refine h76 _ _ _ _ _ _ ⟨rfl, ⟨_, rfl⟩, ?_⟩
    apply hV; apply hV; apply hV; apply hV
    refine ⟨fun h1 => ?_, fun h1 => ?_⟩
    · simp only [cm_run, if_pos h1] at hK
      apply hV; apply hV
      refine ⟨rfl, ?_⟩
      apply hV
      refine ⟨rfl, ?_⟩
      refine h75 _ _ _ _ _ _ ⟨rfl, ⟨_, rfl⟩, ?_⟩
      apply hV; apply hV; apply hV
      refine h74 _ _ _ _ _ _ ?_
      apply hV
      refine ⟨fun h2 => ?_, fun h2 => ?_⟩
      · simp only [cs_b_eq0] at h2
        simp only [h2] at hK
        apply hV; apply hV
        apply hD 5
        show V 21 [(0, .inr (.inr (some 4))), (1, .inl w0), (2, .inl (nI m)), (3, .inl (pm_at ((cm_ex w I).2 2) ((cm_ex w I).2 1 2))), (4, .inl (nI i + 1))] [] (cm_ex w I).2 (am_p0 q) J n
        rw [← nI_succ]
        exact ih (i + 1) _ _ (by omega) hK
      · simp only [cs_b_eq0, Bool.not_eq_false] at h2
        simp only [h2] at hK
        apply hV; apply hV
        exact hK
    · simp only [cm_run, if_neg h1] at hK
      apply hV; apply hV
      exact hK
def ps_ok (v : Int32) : Bool := !decide (v < 0) && decide (v ≤ 200)
def T_run : am_T := fun as I P J n K => match as with
  | [.inr (.inr (some o)), .inl w, .inl v] => o = 4 ∧ (∃ q, P = am_p0 q) ∧ (ps_ok v = true → K (.inl (some (.inl (cm_run v.toNatClampNeg w I).1))) (cm_run v.toNatClampNeg w I).2 P J n) ∧ (ps_ok v = false → K (.inl (some (.inl 0))) (am_ui I 4 6 1) P J n)
  | _ => False
theorem ok_run (sc : am_S) (C : Nat → am_T) (h74 : am_has C 74 (T_adr cs_brk)) (h75 : am_has C 75 T_atPc) (h76 : am_has C 76 T_execute) (h82 : am_has C 82 T_refuse) : am_ok sc C tb_St_run T_run := by
  intro as I P J n K hT V hD hV
  unfold T_run at hT
  split at hT
  · rename_i o w v
    obtain ⟨rfl, ⟨q, rfl⟩, hK1, hK2⟩ := hT
    show V 0 [(0, .inr (.inr (some 4))), (1, .inl w), (2, .inl v)] [] I (am_p0 q) J n
    apply hV; apply hV
    refine ⟨fun h => ?_, fun h => ?_⟩
    · apply hV; apply hV
      refine ⟨rfl, ?_⟩
      refine h82 _ _ _ _ _ _ ⟨rfl, ?_⟩
      apply hV
      exact hK2 (by simp [ps_ok, h])
    · apply hV; apply hV; apply hV
      refine ⟨fun h1 => ?_, fun h1 => ?_⟩
      · obtain ⟨m, hm, rfl⟩ := nI_of2 (M := 200) (n := 200) (by decide) h h1
        have hK := hK1 (by simp [ps_ok, h, h1])
        rw [nI_clamp (by omega)] at hK
        apply hV; apply hV; apply hV; apply hV
        exact ok_run_loop h74 h75 h76 hD hV hm m 0 w I (by omega) hK
      · apply hV; apply hV
        refine ⟨rfl, ?_⟩
        refine h82 _ _ _ _ _ _ ⟨rfl, ?_⟩
        apply hV
        exact hK2 (by simp [ps_ok, h1])
  · exact hT.elim
