/-! A request, asked up to four times. -/
def cm_c8 (I : am_I) : Int32 × am_I := cm_car8 (am_ui I 8 3 (I 8 3 + 1))
def cm_c7 (I : am_I) : Int32 × am_I := cm_car7 (am_ui (cm_rec I) 8 4 (cm_rec I 8 4 + 1))
def cm_try (I : am_I) : Bool × am_I :=
  if (cm_c8 I).1 = 0 then (false, (cm_c8 I).2)
  else if (cm_c7 (cm_c8 I).2).1 = 0 then (false, (cm_c7 (cm_c8 I).2).2)
  else if (cm_c7 (cm_c8 I).2).2 11 0 = (cm_c7 (cm_c8 I).2).2 9 0 then (true, (cm_c7 (cm_c8 I).2).2)
  else (false, (cm_c7 (cm_c8 I).2).2)
def cm_ask : Nat → am_I → Option Int32 × am_I
  | 0, I => (none, I)
  | k + 1, I => match (cm_try I).1 with
    | true => (some (pm_word ((cm_try I).2 11) 2), am_ui (cm_try I).2 8 1 ((cm_try I).2 11 1))
    | false => cm_ask k (cm_try I).2
theorem cm_c8_in {I : am_I} (h : vp_in (I 8 9) 40) : vp_in ((cm_c8 I).2 8 9) 40 := cm_car8_in (I := am_ui I 8 3 (I 8 3 + 1)) h
theorem cm_c7_in {I : am_I} (h : vp_in (I 8 9) 40) : vp_in ((cm_c7 I).2 8 9) 40 := by
  refine cm_car7_in (I := am_ui (cm_rec I) 8 4 (cm_rec I 8 4 + 1)) ?_
  show vp_in (cm_rec I 8 9) 40
  rw [cm_rec_oth I (k := 8) (by omega)]
  exact h
theorem ok_ask_loop {sc : am_S} {C : Nat → am_T} (h58 : am_has C 58 T_word) (h72 : am_has C 72 T_carry) (h80 : am_has C 80 T_receive) {q n : Nat} {kind a v : Int32} {J : am_J} {K : am_K} {V : am_W} (hV : am_closed sc C tb_Li_ask V K) :
    ∀ (k i : Nat) (I : am_I), i + k = 4 → vp_in (I 8 9) 40 → (∀ x, (cm_ask k I).1 = some x → K (.inl (some (.inl x))) (cm_ask k I).2 (am_p0 q) J n) → ((cm_ask k I).1 = none → ∃ z, n = z + 1 ∧ K (.inr 3) (cm_ask k I).2 (am_p0 q) J z) →
      V 10 [(0, .inr (.inr (some 8))), (1, .inl kind), (2, .inl a), (3, .inl v), (4, .inl (nI i))] [] I (am_p0 q) J n := by
  intro k
  induction k with
  | zero =>
    intro i I hi _ _ hK
    apply hV; apply hV; apply hV
    refine ⟨fun h => ?_, fun h => absurd (show nI 4 ≤ nI i from nI_le (by omega) (by omega)) h⟩
    obtain ⟨z, rfl, hz⟩ := hK rfl
    apply hV
    exact hz
  | succ k ih =>
    intro i I hi hin hK1 hK2
    have back : ∀ I', vp_in (I' 8 9) 40 → (cm_try I).1 = false → (cm_try I).2 = I' → V 110 [(0, .inr (.inr (some 8))), (1, .inl kind), (2, .inl a), (3, .inl v), (4, .inl (nI i))] [] I' (am_p0 q) J n := by
      intro I' h1 h2 h3
      simp only [cm_ask, h2, h3] at hK1 hK2
      apply hV; apply hV
      show V 10 [(0, .inr (.inr (some 8))), (1, .inl kind), (2, .inl a), (3, .inl v), (4, .inl (nI i + 1))] [] I' (am_p0 q) J n
      rw [← nI_succ]
      exact ih (i + 1) I' (by omega) h1 hK1 hK2
    apply hV; apply hV; apply hV
    refine ⟨fun h => absurd h (show ¬ nI 4 ≤ nI i from nI_ge (by omega) (by omega)), fun h => ?_⟩
    apply hV; apply hV; apply hV
    refine ⟨rfl, ?_⟩
    apply hV; apply hV; apply hV
    refine ⟨rfl, ?_⟩
    apply hV; apply hV; apply hV
    refine ⟨rfl, ?_⟩
    apply hV; apply hV
    refine ⟨rfl, ?_⟩
    refine h72 _ _ _ _ _ _ ⟨rfl, ⟨_, rfl⟩, hin, Or.inl ⟨rfl, rfl, ?_⟩⟩
    obtain ⟨b1, I1, e1⟩ : ∃ b1 I1, cm_c8 I = (b1, I1) := ⟨(cm_c8 I).1, (cm_c8 I).2, rfl⟩
    have in1 : vp_in (I1 8 9) 40 := by
      have := cm_c8_in hin
      rw [e1] at this
      exact this
    change V 36 [(0, .inr (.inr (some 8))), (1, .inl kind), (2, .inl a), (3, .inl v), (4, .inl (nI i))] [.inl (cm_c8 I).1] (cm_c8 I).2 (am_p0 q) J n
    rw [e1]
    show V 36 [(0, .inr (.inr (some 8))), (1, .inl kind), (2, .inl a), (3, .inl v), (4, .inl (nI i))] [.inl b1] I1 (am_p0 q) J n
    apply hV
    refine ⟨fun c1 => ?_, fun c1 => ?_⟩
    · exact back _ in1 (by simp only [cm_try, e1, if_pos c1]) (by simp only [cm_try, e1, if_pos c1])
    apply hV; apply hV
    refine ⟨rfl, ?_⟩
    apply hV; apply hV
    refine ⟨rfl, ?_⟩
    apply hV
    refine ⟨rfl, ?_⟩
    refine h80 _ _ _ _ _ _ ⟨rfl, rfl, ⟨_, rfl⟩, ?_⟩
    have in2 : vp_in (cm_rec I1 8 9) 40 := by
      rw [cm_rec_oth _ (k := 8) (by omega)]
      exact in1
    obtain ⟨b2, I3, e2⟩ : ∃ b2 I3, cm_c7 I1 = (b2, I3) := ⟨(cm_c7 I1).1, (cm_c7 I1).2, rfl⟩
    have in3 : vp_in (I3 8 9) 40 := by
      have := cm_c7_in in1
      rw [e2] at this
      exact this
    have e3 : cm_car7 (am_ui (cm_rec I1) 8 4 (cm_rec I1 8 4 + 1)) = (b2, I3) := e2
    generalize cm_rec I1 = I2 at e3 in2 ⊢
    apply hV; apply hV; apply hV
    refine ⟨rfl, ?_⟩
    apply hV; apply hV; apply hV
    refine ⟨rfl, ?_⟩
    apply hV; apply hV; apply hV
    refine ⟨rfl, ?_⟩
    apply hV
    refine ⟨rfl, ?_⟩
    apply hV; apply hV
    refine ⟨rfl, ?_⟩
    refine h72 _ _ _ _ _ _ ⟨rfl, ⟨_, rfl⟩, in2, Or.inr ⟨rfl, rfl, ?_⟩⟩
    rw [e3]
    show V 73 [(0, .inr (.inr (some 8))), (1, .inl kind), (2, .inl a), (3, .inl v), (4, .inl (nI i))] [.inl b2] I3 (am_p0 q) J n
    apply hV
    refine ⟨fun c2 => ?_, fun c2 => ?_⟩
    · exact back _ in3 (by simp only [cm_try, e1, e2, if_neg c1, if_pos c2]) (by simp only [cm_try, e1, e2, if_neg c1, if_pos c2])
    apply hV; apply hV
    refine ⟨rfl, ?_⟩
    apply hV; apply hV
    refine ⟨by unfold vp_in; decide, ?_⟩
    apply hV; apply hV
    refine ⟨rfl, ?_⟩
    apply hV; apply hV
    refine ⟨by unfold vp_in; decide, ?_⟩
    apply hV
    refine ⟨fun c3 => ?_, fun c3 => ?_⟩
    · have c3' : I3 11 0 = I3 9 0 := c3
      have g1 : (cm_try I).1 = true := by simp only [cm_try, e1, e2, if_neg c1, if_neg c2, if_pos c3']
      have g2 : (cm_try I).2 = I3 := by simp only [cm_try, e1, e2, if_neg c1, if_neg c2, if_pos c3']
      simp only [cm_ask, g1, g2] at hK1
      have hK := hK1 _ rfl
      apply hV; apply hV; apply hV
      refine ⟨rfl, ?_⟩
      apply hV; apply hV
      refine ⟨by unfold vp_in; decide, ?_⟩
      apply hV
      refine ⟨rfl, ?_⟩
      apply hV; apply hV
      refine ⟨rfl, ?_⟩
      apply hV; apply hV
      refine h58 _ _ _ _ _ _ ⟨rfl, Or.inl ⟨rfl, ?_⟩⟩
      apply hV
      exact hK
    · have c3' : ¬ I3 11 0 = I3 9 0 := c3
      exact back _ in3 (by simp only [cm_try, e1, e2, if_neg c1, if_neg c2, if_neg c3']) (by simp only [cm_try, e1, e2, if_neg c1, if_neg c2, if_neg c3'])
def T_ask : am_T := fun as I P J n K => match as with
  | [.inr (.inr (some o)), .inl kind, .inl a, .inl v] => o = 8 ∧ (∃ q, P = am_p0 q) ∧ vp_in (I 8 9) 40 ∧ (∀ x, (cm_ask 4 (cm_wr kind a v I)).1 = some x → K (.inl (some (.inl x))) (cm_ask 4 (cm_wr kind a v I)).2 P J n) ∧ ((cm_ask 4 (cm_wr kind a v I)).1 = none → ∃ z, n = z + 1 ∧ K (.inr 3) (cm_ask 4 (cm_wr kind a v I)).2 P J z)
  | _ => False
theorem ok_ask (sc : am_S) (C : Nat → am_T) (h58 : am_has C 58 T_word) (h71 : am_has C 71 T_writeRequest) (h72 : am_has C 72 T_carry) (h80 : am_has C 80 T_receive) : am_ok sc C tb_Li_ask T_ask := by
  intro as I P J n K hT V hD hV
  unfold T_ask at hT
  split at hT
  · rename_i o kind a v
    obtain ⟨rfl, ⟨q, rfl⟩, hin, hK1, hK2⟩ := hT
    show V 0 [(0, .inr (.inr (some 8))), (1, .inl kind), (2, .inl a), (3, .inl v)] [] I (am_p0 q) J n
    apply hV; apply hV; apply hV; apply hV; apply hV
    refine ⟨rfl, ?_⟩
    refine h71 _ _ _ _ _ _ ⟨rfl, ⟨_, rfl⟩, ?_⟩
    apply hV; apply hV
    exact ok_ask_loop h58 h72 h80 hV 4 0 (cm_wr kind a v I) rfl hin hK1 hK2
  · exact hT.elim
