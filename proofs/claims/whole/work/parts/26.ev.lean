/-! An operation keeps what the next one needs. -/
def cz_keep (I I' : am_I) : Prop := cm_exok I' ∧ I' 15 0 = I 15 0 ∧ ∀ k, 12 ≤ k → k ≠ 15 → k ≠ 18 → I' k = I k
theorem cm_push_ok {x : Int32} {I : am_I} (h : cm_exok I) (hn : (cm_push x I).1 = none) : cz_keep I (cm_push x I).2 := by
  by_cases c : I 15 1 = 8
  · simp only [cm_push, if_pos c] at hn
    cases hn
  · simp only [cm_push, if_neg c]
    obtain ⟨h1, m, hm, e⟩ := h
    have hm8 : m < 8 := by
      rcases Nat.lt_or_ge m 8 with z | z
      · exact z
      · exact absurd (e.trans (show nI m = nI 8 by congr 1; omega)) c
    refine ⟨⟨h1, m + 1, by omega, ?_⟩, rfl, fun k h2 h3 h4 => by rw [am_ui_ne _ _ _ h3, am_ui_ne _ _ _ h4]⟩
    show I 15 1 + 1 = nI (m + 1)
    rw [e, nI_1]
theorem cm_down {m : Nat} {x : Int32} (hm : m ≤ 8) (e : x = nI m) (h1 : 1 ≤ x) : ∃ k, k ≤ 8 ∧ x - 1 = nI k := by
  subst e
  have h1' : nI 1 ≤ nI m := h1
  rw [nI_leI (by omega) (by omega)] at h1'
  obtain ⟨k, rfl⟩ : ∃ k, m = k + 1 := ⟨m - 1, by omega⟩
  exact ⟨k, by omega, nI_pred k⟩
theorem cm_opw_ok {I : am_I} (h : cm_exok I) (hn : (cm_opw I).1 = none) : cz_keep I (cm_opw I).2 := by
  have hin : vp_in ((cm_ask 4 (cm_wr 2 (I 18 (I 15 1 - 1).toNatClampNeg) 0 I)).2 8 9) 40 := cm_ask_in 4 (I := cm_wr 2 (I 18 (I 15 1 - 1).toNatClampNeg) 0 I) h.1
  have hoth : ∀ k, 12 ≤ k → (cm_ask 4 (cm_wr 2 (I 18 (I 15 1 - 1).toNatClampNeg) 0 I)).2 k = I k := fun k hk => (cm_ask_oth 4 _ (by omega) (by omega)).trans (cm_wr_oth _ _ _ I (by omega) (by omega))
  unfold cm_opw at hn ⊢
  cases hc : cs_adr (I 18 (I 15 1 - 1).toNatClampNeg) with
  | false => simp only [hc] at hn; cases hn
  | true =>
    simp only [hc] at hn ⊢
    generalize cm_ask 4 (cm_wr 2 (I 18 (I 15 1 - 1).toNatClampNeg) 0 I) = r at hin hoth hn ⊢
    obtain ⟨a, I1⟩ := r
    cases a with
    | none => cases hn
    | some y =>
      have h15 : I1 15 = I 15 := hoth 15 (by omega)
      obtain ⟨-, m, hm, e⟩ := h
      refine ⟨⟨hin, m, hm, ?_⟩, ?_, fun k h2 h3 h4 => ?_⟩
      · show I1 15 1 = nI m
        rw [h15]; exact e
      · show I1 15 0 = I 15 0
        rw [h15]
      · show am_ui I1 18 _ y k = I k
        rw [am_ui_ne _ _ _ h4]
        exact hoth k h2
theorem cm_join_ok {op : Int32} {I : am_I} (h : cm_exok I) (h2 : 2 ≤ I 15 1) (hn : (cm_join op I).1 = none) : cz_keep I (cm_join op I).2 := by
  unfold cm_join at hn ⊢
  cases hc : cm_comb op (I 18 (I 15 1 - 2).toNatClampNeg) (I 18 (I 15 1 - 1).toNatClampNeg) with
  | none => simp only [hc] at hn; cases hn
  | some x =>
    simp only [hc]
    obtain ⟨h1, m, hm, e⟩ := h
    obtain ⟨k, hk, ek⟩ := cm_down hm e (am_le12 h2)
    exact ⟨⟨h1, k, hk, ek⟩, rfl, fun j g2 g3 g4 => by rw [am_ui_ne _ _ _ g3, am_ui_ne _ _ _ g4]⟩
theorem cm_apply_ok {op v : Int32} {row : Nat → Int32} {I : am_I} (h : cm_exok I) (hn : (cm_apply op v row I).1 = none) : cz_keep I (cm_apply op v row I).2 := by
  unfold cm_apply at hn ⊢
  by_cases c0 : op = 0
  · rw [if_pos c0] at hn ⊢; exact cm_push_ok h hn
  rw [if_neg c0] at hn ⊢
  by_cases c1 : op = 1
  · rw [if_pos c1] at hn ⊢; exact cm_push_ok h hn
  rw [if_neg c1] at hn ⊢
  by_cases c2 : op = 2
  · rw [if_pos c2] at hn ⊢
    by_cases d : 1 ≤ I 15 1
    · rw [if_pos d] at hn ⊢; exact cm_opw_ok h hn
    · rw [if_neg d] at hn; cases hn
  rw [if_neg c2] at hn ⊢
  by_cases c7 : op = 7
  · rw [if_pos c7] at hn ⊢
    by_cases d : 1 ≤ I 15 1
    · rw [if_pos d] at hn ⊢; exact cm_push_ok h hn
    · rw [if_neg d] at hn; cases hn
  rw [if_neg c7] at hn ⊢
  by_cases c8 : op = 8
  · rw [if_pos c8] at hn ⊢
    by_cases d : 2 ≤ I 15 1
    · rw [if_pos d]
      exact ⟨⟨h.1, h.2⟩, rfl, fun k g2 g3 g4 => (am_ui_ne _ _ _ g4).trans (am_ui_ne _ _ _ g4)⟩
    · rw [if_neg d] at hn; cases hn
  rw [if_neg c8] at hn ⊢
  by_cases c9 : op = 9
  · rw [if_pos c9] at hn ⊢
    by_cases d : 1 ≤ I 15 1
    · rw [if_pos d]
      obtain ⟨h1, m, hm, e⟩ := h
      obtain ⟨k, hk, ek⟩ := cm_down hm e d
      exact ⟨⟨h1, k, hk, ek⟩, rfl, fun j g2 g3 g4 => am_ui_ne _ _ _ g3⟩
    · rw [if_neg d] at hn; cases hn
  rw [if_neg c9] at hn ⊢
  by_cases c10 : op = 10
  · rw [if_pos c10] at hn ⊢
    by_cases d : 2 ≤ I 15 1
    · rw [if_pos d] at hn ⊢; exact cm_push_ok h hn
    · rw [if_neg d] at hn; cases hn
  rw [if_neg c10] at hn ⊢
  by_cases d : 2 ≤ I 15 1
  · rw [if_pos d] at hn ⊢; exact cm_join_ok h d hn
  · rw [if_neg d] at hn; cases hn
