/-! evaluate. -/
/-- k operations from number i on, the frame's row r -/
def cm_evl (r : Nat) : Nat → Nat → am_I → Option Nat × am_I
  | 0, _, I => (none, I)
  | k + 1, i, I => match (cm_apply (I 16 i) (I 17 i) (I r) I).1 with
    | none => cm_evl r k (i + 1) (cm_apply (I 16 i) (I 17 i) (I r) I).2
    | some E => (some E, (cm_apply (I 16 i) (I 17 i) (I r) I).2)
theorem ok_evl_loop {sc : am_S} {C : Nat → am_T} (h63 : am_has C 63 T_top) (h64 : am_has C 64 T_apply) {q n m j : Nat} {J : am_J} {K : am_K} {V : am_W} (hV : am_closed sc C tb_L_evaluate V K) (hq : q < 2) (hm : m ≤ 20) (hj : j < 8) :
    ∀ (k i : Nat) (I : am_I), i + k = m → I 15 0 = nI m → cm_exok I → (∀ a, a < m → I 16 a = 1 → vp_in (I 17 a) 9) →
      (∀ E I', cm_evl (56 + (8 * q + j)) k i I = (some E, I') → am_thr E I' (am_p0 q) J n K) →
      (∀ I', cm_evl (56 + (8 * q + j)) k i I = (none, I') → (1 ≤ I' 15 1 → K (.inl (some (.inl (I' 18 (I' 15 1 - 1).toNatClampNeg)))) I' (am_p0 q) J n) ∧ (¬ 1 ≤ I' 15 1 → am_thr 2 I' (am_p0 q) J n K)) →
      V 31 [(0, .inr (.inr (some 0))), (1, .inl (nI j)), (2, .inl (nI i))] [] I (am_p0 q) J n := by
  intro k
  induction k with
  | zero =>
    intro i I hi hs hx _ _ hK
    obtain ⟨hK1, hK2⟩ := hK I rfl
    apply hV; apply hV; apply hV
    refine ⟨rfl, ?_⟩
    apply hV
    refine ⟨rfl, ?_⟩
    apply hV
    refine ⟨fun h => ?_, fun h => absurd (by rw [hs]; exact nI_le (by omega) (by omega)) h⟩
    apply hV; apply hV
    refine ⟨rfl, ?_⟩
    apply hV
    refine ⟨rfl, ?_⟩
    refine h63 _ _ _ _ _ _ ⟨rfl, ⟨_, rfl⟩, fun g => ⟨cm_exok_d1 hx g, ?_⟩, fun g => ?_⟩
    · apply hV
      exact hK1 g
    · obtain ⟨z, rfl, hz⟩ := hK2 g
      exact ⟨z, rfl, hz⟩
  | succ k ih =>
    intro i I hi hs hx ho hK1 hK2
    have e2 : (nI i).toNatClampNeg = i := nI_clamp (by omega)
    have ej : (nI j).toNatClampNeg = j := nI_clamp (by omega)
    apply hV; apply hV; apply hV
    refine ⟨rfl, ?_⟩
    apply hV
    refine ⟨rfl, ?_⟩
    apply hV
    refine ⟨fun h => absurd h (by rw [hs]; exact nI_ge (by omega) (by omega)), fun h => ?_⟩
    apply hV; apply hV
    refine ⟨rfl, ?_⟩
    apply hV; apply hV; apply hV
    refine ⟨rfl, ?_⟩
    apply hV
    refine ⟨rfl, ?_⟩
    have row : V 56 [(0, .inr (.inr (some 0))), (1, .inl (nI j)), (2, .inl (nI i))] [.inr (.inr (some (56 + (8 * q + j)))), .inl (nI i), .inr (.inr (some 15))] I (am_p0 q) J n := by
      apply hV; apply hV
      refine ⟨rfl, ?_⟩
      apply hV
      refine ⟨rfl, ?_⟩
      refine h64 _ _ _ _ _ _ ⟨rfl, rfl, ⟨_, rfl⟩, nI_in (by omega) (by omega), ne_rows _ (by omega), fun g => ?_, hx.1, cm_exok_d0 hx, cm_exok_d1 hx, cm_exok_d2 hx, ?_⟩
      · rw [e2] at g ⊢
        rw [ai_rows (by omega)]
        exact ho i (by omega) g
      · rw [e2]
        obtain ⟨a, I1, ea⟩ : ∃ a I1, cm_apply (I 16 i) (I 17 i) (I (56 + (8 * q + j))) I = (a, I1) := ⟨_, _, rfl⟩
        cases a with
        | some E =>
          obtain ⟨z, rfl, hz⟩ := hK1 E I1 (by simp only [cm_evl, ea])
          rw [ea]
          exact ⟨z, rfl, hz⟩
        | none =>
          have kp : cz_keep I I1 := by
            have := cm_apply_ok (op := I 16 i) (v := I 17 i) (row := I (56 + (8 * q + j))) hx (by rw [ea])
            rw [ea] at this
            exact this
          simp only [cm_evl, ea] at hK1 hK2
          rw [ea]
          show V 63 [(0, .inr (.inr (some 0))), (1, .inl (nI j)), (2, .inl (nI i))] [] I1 (am_p0 q) J n
          apply hV; apply hV
          show V 31 [(0, .inr (.inr (some 0))), (1, .inl (nI j)), (2, .inl (nI i + 1))] [] I1 (am_p0 q) J n
          rw [← nI_succ]
          refine ih (i + 1) I1 (by omega) (kp.2.1.trans hs) kp.1 ?_ hK1 hK2
          rw [kp.2.2 16 (by omega) (by omega) (by omega), kp.2.2 17 (by omega) (by omega) (by omega)]
          exact ho
    have hq2 : q = 0 ∨ q = 1 := by omega
    rcases hq2 with rfl | rfl
    · apply hV; apply hV
      refine ⟨show vp_in (nI j) 8 from nI_in hj (by omega), ?_⟩
      rw [ej]
      rw [show 8 * 0 + j = j by omega] at row
      exact row
    · apply hV; apply hV
      refine ⟨show vp_in (nI j) 8 from nI_in hj (by omega), ?_⟩
      rw [ej]
      rw [show 56 + (8 * 1 + j) = 64 + j by omega] at row
      exact row
def T_evaluate : am_T := fun as I P J n K => match as with
  | [.inr (.inr (some o)), .inl f] => o = 0 ∧ ∃ q, q < 2 ∧ P = am_p0 q ∧ ((!decide (f < 0) && !decide (I 14 1 ≤ f)) = false → am_thr 4 I P J n K) ∧
      ((!decide (f < 0) && !decide (I 14 1 ≤ f)) = true → ∃ j m, j < 8 ∧ m ≤ 20 ∧ f = nI j ∧ I 15 0 = nI m ∧ vp_in (I 8 9) 40 ∧ (∀ a, a < m → I 16 a = 1 → vp_in (I 17 a) 9) ∧
        (∀ E I', cm_evl (56 + (8 * q + j)) m 0 (am_ui I 15 1 0) = (some E, I') → am_thr E I' P J n K) ∧
        (∀ I', cm_evl (56 + (8 * q + j)) m 0 (am_ui I 15 1 0) = (none, I') → (1 ≤ I' 15 1 → K (.inl (some (.inl (I' 18 (I' 15 1 - 1).toNatClampNeg)))) I' P J n) ∧ (¬ 1 ≤ I' 15 1 → am_thr 2 I' P J n K)))
  | _ => False
theorem ok_evaluate (sc : am_S) (C : Nat → am_T) (h54 : am_has C 54 T_hasFrame) (h63 : am_has C 63 T_top) (h64 : am_has C 64 T_apply) : am_ok sc C tb_L_evaluate T_evaluate := by
  intro as I P J n K hT V hD hV
  unfold T_evaluate at hT
  split at hT
  · rename_i o f
    obtain ⟨rfl, q, hq, rfl, hK1, hK2⟩ := hT
    show V 0 [(0, .inr (.inr (some 0))), (1, .inl f)] [] I (am_p0 q) J n
    apply hV; apply hV
    refine ⟨rfl, ?_⟩
    apply hV; apply hV
    refine ⟨rfl, ?_⟩
    refine h54 _ _ _ _ _ _ ⟨rfl, ⟨_, rfl⟩, ?_⟩
    apply hV
    refine ⟨fun h => ?_, fun h => ?_⟩
    · obtain ⟨z, rfl, hz⟩ := hK1 (cs_b0 h)
      apply hV
      exact hz
    obtain ⟨j, m, hj, hm, rfl, hs, hin, ho, hK3, hK4⟩ := hK2 (cs_b1 h)
    apply hV; apply hV
    refine ⟨rfl, ?_⟩
    apply hV; apply hV
    refine ⟨rfl, ?_⟩
    apply hV; apply hV
    exact ok_evl_loop h63 h64 hV hq hm hj m 0 (am_ui I 15 1 0) (by omega) hs ⟨hin, 0, by omega, rfl⟩ ho hK3 hK4
  · exact hT.elim
