/-! What a request leaves as it was. -/
theorem cm_tk_oth (I : am_I) {k : Nat} (h : k ≠ 8) : cm_tk I k = I k := by
  unfold cm_tk
  split
  · rfl
  · rw [am_ui_ne _ _ _ h, am_ui_ne _ _ _ h]
theorem cm_car8_oth (I : am_I) {k : Nat} (h : k ≠ 8) (h' : k ≠ 11) : (cm_car8 I).2 k = I k := by
  have key : ∀ r, r = cm_car8 I → r.2 k = I k := by
    intro r hr
    unfold cm_car8 at hr
    repeat' split at hr
    all_goals subst hr
    · exact cm_tk_oth I h
    · exact (cm_cpy_oth _ _ _ _ _ h').trans (cm_tk_oth I h)
    · exact (am_ui_ne _ _ _ h).trans ((cm_cpy_oth _ _ _ _ _ h').trans (cm_tk_oth I h))
  exact key _ rfl
theorem cm_car7_oth (I : am_I) {k : Nat} (h : k ≠ 8) (h' : k ≠ 11) : (cm_car7 I).2 k = I k := by
  have key : ∀ r, r = cm_car7 I → r.2 k = I k := by
    intro r hr
    unfold cm_car7 at hr
    repeat' split at hr
    all_goals subst hr
    · exact cm_tk_oth I h
    · exact (cm_cpy_oth _ _ _ _ _ h').trans (cm_tk_oth I h)
    · exact (am_ui_ne _ _ _ h).trans ((cm_cpy_oth _ _ _ _ _ h').trans (cm_tk_oth I h))
  exact key _ rfl
theorem cm_c8_oth (I : am_I) {k : Nat} (h : k ≠ 8) (h' : k ≠ 11) : (cm_c8 I).2 k = I k := (cm_car8_oth _ h h').trans (am_ui_ne _ _ _ h)
theorem cm_c7_oth (I : am_I) {k : Nat} (h : ¬ (1 ≤ k ∧ k ≤ 8)) (h' : k ≠ 11) : (cm_c7 I).2 k = I k :=
  (cm_car7_oth _ (by omega) h').trans ((am_ui_ne _ _ _ (by omega)).trans (cm_rec_oth I (by omega)))
theorem cm_try_oth (I : am_I) {k : Nat} (h : ¬ (1 ≤ k ∧ k ≤ 8)) (h' : k ≠ 11) : (cm_try I).2 k = I k := by
  obtain ⟨b1, I1, e1⟩ : ∃ b1 I1, cm_c8 I = (b1, I1) := ⟨(cm_c8 I).1, (cm_c8 I).2, rfl⟩
  obtain ⟨b2, I3, e2⟩ : ∃ b2 I3, cm_c7 I1 = (b2, I3) := ⟨(cm_c7 I1).1, (cm_c7 I1).2, rfl⟩
  have e8 : I1 k = I k := by
    have := cm_c8_oth I (k := k) (by omega) h'
    rw [e1] at this
    exact this
  have e7 : I3 k = I k := by
    have := cm_c7_oth I1 h h'
    rw [e2] at this
    exact this.trans e8
  simp only [cm_try, e1, e2]
  by_cases c1 : b1 = 0
  · simp only [if_pos c1]; exact e8
  · by_cases c2 : b2 = 0
    · simp only [if_neg c1, if_pos c2]; exact e7
    · by_cases c3 : I3 11 0 = I3 9 0
      · simp only [if_neg c1, if_neg c2, if_pos c3]; exact e7
      · simp only [if_neg c1, if_neg c2, if_neg c3]; exact e7
theorem cm_ask_oth : ∀ (m : Nat) (I : am_I) {k : Nat}, ¬ (1 ≤ k ∧ k ≤ 8) → k ≠ 11 → (cm_ask m I).2 k = I k
  | 0, _, _, _, _ => rfl
  | m + 1, I, k, h, h' => by
    have e := cm_try_oth I h h'
    obtain ⟨b, I1, e1⟩ : ∃ b I1, cm_try I = (b, I1) := ⟨(cm_try I).1, (cm_try I).2, rfl⟩
    rw [e1] at e
    simp only [cm_ask, e1]
    cases b
    · exact (cm_ask_oth m I1 h h').trans e
    · exact (am_ui_ne _ _ _ (by omega)).trans e
theorem cm_wr_oth (kind a v : Int32) (I : am_I) {k : Nat} (h : k ≠ 8) (h' : k ≠ 9) : cm_wr kind a v I k = I k := by
  unfold cm_wr
  rw [am_ui_ne _ _ _ h, cm_row_ne _ _ h']
theorem cm_try_in {I : am_I} (h : vp_in (I 8 9) 40) : vp_in ((cm_try I).2 8 9) 40 := by
  obtain ⟨b1, I1, e1⟩ : ∃ b1 I1, cm_c8 I = (b1, I1) := ⟨(cm_c8 I).1, (cm_c8 I).2, rfl⟩
  obtain ⟨b2, I3, e2⟩ : ∃ b2 I3, cm_c7 I1 = (b2, I3) := ⟨(cm_c7 I1).1, (cm_c7 I1).2, rfl⟩
  have e8 : vp_in (I1 8 9) 40 := by
    have := cm_c8_in h
    rw [e1] at this
    exact this
  have e7 : vp_in (I3 8 9) 40 := by
    have := cm_c7_in e8
    rw [e2] at this
    exact this
  simp only [cm_try, e1, e2]
  by_cases c1 : b1 = 0
  · simp only [if_pos c1]; exact e8
  · by_cases c2 : b2 = 0
    · simp only [if_neg c1, if_pos c2]; exact e7
    · by_cases c3 : I3 11 0 = I3 9 0
      · simp only [if_neg c1, if_neg c2, if_pos c3]; exact e7
      · simp only [if_neg c1, if_neg c2, if_neg c3]; exact e7
theorem cm_ask_in : ∀ (m : Nat) {I : am_I}, vp_in (I 8 9) 40 → vp_in ((cm_ask m I).2 8 9) 40
  | 0, _, h => h
  | m + 1, I, h => by
    have e := cm_try_in h
    obtain ⟨b, I1, e1⟩ : ∃ b I1, cm_try I = (b, I1) := ⟨(cm_try I).1, (cm_try I).2, rfl⟩
    rw [e1] at e
    simp only [cm_ask, e1]
    cases b
    · exact cm_ask_in m e
    · exact e
/-- what an expression's work needs of the memory: m numbers on the stack -/
def cm_exok (I : am_I) : Prop := vp_in (I 8 9) 40 ∧ ∃ m, m ≤ 8 ∧ I 15 1 = nI m
theorem cm_exok_d0 {I : am_I} (h : cm_exok I) : ¬ I 15 1 = 8 → vp_in (I 15 1) 8 := by
  obtain ⟨-, m, hm, e⟩ := h
  rw [e]
  intro h8
  refine nI_in ?_ (by omega)
  rcases Nat.lt_or_ge m 8 with z | z
  · exact z
  · exact absurd (show nI m = nI 8 by congr 1; omega) h8
theorem cm_exok_d1 {I : am_I} (h : cm_exok I) : 1 ≤ I 15 1 → vp_in (I 15 1 - 1) 8 := by
  obtain ⟨-, m, hm, e⟩ := h
  rw [e]
  intro h1
  have h1' : nI 1 ≤ nI m := h1
  rw [nI_leI (by omega) (by omega)] at h1'
  obtain ⟨k, rfl⟩ : ∃ k, m = k + 1 := ⟨m - 1, by omega⟩
  rw [nI_pred]
  exact nI_in (by omega) (by omega)
theorem cm_exok_d2 {I : am_I} (h : cm_exok I) : 2 ≤ I 15 1 → vp_in (I 15 1 - 2) 8 := by
  obtain ⟨-, m, hm, e⟩ := h
  rw [e]
  intro h1
  have h1' : nI 2 ≤ nI m := h1
  rw [nI_leI (by omega) (by omega)] at h1'
  obtain ⟨k, rfl⟩ : ∃ k, m = k + 2 := ⟨m - 2, by omega⟩
  have e2 : nI (k + 2) - 2 = nI k := by
    rw [← nI_add]
    show nI k + nI 2 - nI 2 = _
    rw [Int32.add_sub_cancel]
  rw [e2]
  exact nI_in (by omega) (by omega)
