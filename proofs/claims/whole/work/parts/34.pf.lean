/-! The reference: perform, held against the class's. -/
def agP (I I' : am_I) : Prop := (∀ k, ¬ (21 ≤ k ∧ k ≤ 25) → I' k = I k) ∧ ∀ a, ¬ (2 ≤ a ∧ a ≤ 4) → ¬ (8 ≤ a ∧ a ≤ 9) → I' 21 a = I 21 a
theorem agP_refl (I : am_I) : agP I I := ⟨fun _ _ => rfl, fun _ _ _ => rfl⟩
theorem agP_S {I X : am_I} (h : agS I X) : agP I X := ⟨fun k hk => h.1 k (by omega), fun a h1 _ => h.2 a (by omega) (by omega)⟩
theorem agP_ui {I X : am_I} (h : agP I X) {o : Nat} (ho : 22 ≤ o ∧ o ≤ 25) (a : Nat) (x : Int32) : agP I (am_ui X o a x) := by
  refine ⟨fun k hk => ?_, fun a h2 h3 => ?_⟩
  · rw [am_ui_ne _ _ _ (by omega)]
    exact h.1 k hk
  · rw [am_ui_ne _ _ _ (by omega)]
    exact h.2 a h2 h3
theorem agP_f {I X : am_I} (h : agP I X) {b : Nat} (hb : (2 ≤ b ∧ b ≤ 4) ∨ (8 ≤ b ∧ b ≤ 9)) (x : Int32) : agP I (am_ui X 21 b x) := by
  refine ⟨fun k hk => ?_, fun a h2 h3 => ?_⟩
  · rw [am_ui_ne _ _ _ (by omega)]
    exact h.1 k hk
  · rw [am_ui_eq, pb_upd, if_neg (by omega)]
    exact h.2 a h2 h3
theorem agP_an {I X : am_I} (h : agP I X) (s y : Int32) : agP I (mo_an X s y) := agP_f (agP_f h (Or.inr (by omega)) _) (Or.inr (by omega)) _
theorem RM_an {G X : am_I} (h : RM G X) (s y : Int32) : RM G (mo_an X s y) := ⟨h.1, h.2.1, h.2.2.1, h.2.2.2⟩
theorem RB_an {m : Nat} {G X : am_I} (h : RB m G X) (s y : Int32) : RB m G (mo_an X s y) := RB_ag h (fun _ _ => rfl) rfl rfl rfl
theorem RM_ref {G X : am_I} (h : RM G X) : RM (am_ui G 4 6 1) X := ⟨h.1, h.2.1, h.2.2.1, h.2.2.2⟩
theorem RB_ref {m : Nat} {G X : am_I} (h : RB m G X) : RB m (am_ui G 4 6 1) X := ⟨h.1, h.2.1, h.2.2.1, h.2.2.2⟩
theorem upd_self (f : Nat → Int32) (k : Nat) : upd f k (f k) = f := by
  funext j
  rw [pb_upd]
  by_cases h : j = k
  · rw [if_pos h, h]
  · rw [if_neg h]
theorem and7 : ∀ c, c < 8 → nI c &&& 7 = nI c := by decide +kernel
/-- what the reference must bring about: the answer (status, value) and the relation again -/
def mo_pf (G I : am_I) (kind a v : Int32) (X : am_I) : Prop :=
  ∃ (m : Nat) (s y : Int32) (X' : am_I), X = mo_an X' s y ∧ RM (cm_perf kind a v G).2 X' ∧ RB m (cm_perf kind a v G).2 X' ∧ (cm_perf kind a v G).2 4 6 = s ∧ (cm_perf kind a v G).1 = (if s = 0 then y else 0) ∧ agP I X'
theorem mo_pf_ref {G I X : am_I} {kind a v y : Int32} {m : Nat} (e : cm_perf kind a v G = (0, am_ui G 4 6 1)) (h1 : RM G X) (h2 : RB m G X) (h3 : agP I X) : mo_pf G I kind a v (mo_an X 1 y) := by
  refine ⟨m, 1, y, X, rfl, ?_, ?_, ?_, ?_, h3⟩
  · rw [e]; exact RM_ref h1
  · rw [e]; exact RB_ref h2
  · rw [e]; rfl
  · rw [e]; rfl
theorem mo_pf_ok {G G' I X : am_I} {kind a v y : Int32} {m : Nat} (e : cm_perf kind a v G = (y, G')) (h0 : G' 4 6 = 0) (h1 : RM G' X) (h2 : RB m G' X) (h3 : agP I X) : mo_pf G I kind a v (mo_an X 0 y) := by
  refine ⟨m, 0, y, X, rfl, ?_, ?_, ?_, ?_, h3⟩
  · rw [e]; exact h1
  · rw [e]; exact h2
  · rw [e]; exact h0
  · rw [e]; rfl
def T_mperform : am_T := fun as I P J n K => match as with
  | [.inr (.inr (some o)), .inl kind, .inl a, .inl v] => o = 21 ∧ (∃ q, P = am_p0 q) ∧ ∃ G m, RM G I ∧ RB m G I ∧ G 4 6 = 0 ∧ (∃ c, c ≤ 255 ∧ a = nI c) ∧ (∃ d, d ≤ 9 ∧ kind = nI d) ∧ ∀ X, mo_pf G I kind a v X → K (.inl none) X P J n
  | _ => False
/-- a breakpoint put -/
theorem RB_put {m : Nat} {G I : am_I} {a : Int32} (hR : RM G I) (hB : RB m G I) (h : mo_may a m I = true) :
    ps_may (G 6) (G 4 1) a = true ∧ RB (m + 1) (am_ui (am_ui (am_ui (am_ui G 6 a.toNatClampNeg 1) 7 a.toNatClampNeg (G 2 a.toNatClampNeg)) 2 a.toNatClampNeg 15) 4 1 (G 4 1 + 1)) (am_ui (am_ui (am_ui (am_ui I 24 m a) 25 m (I 22 a.toNatClampNeg)) 22 a.toNatClampNeg 15) 21 4 (I 21 4 + 1)) := by
  simp only [mo_may, Bool.and_eq_true, Bool.not_eq_true', decide_eq_false_iff_not] at h
  obtain ⟨⟨ha, hb⟩, h4⟩ := h
  obtain ⟨c, hc, rfl⟩ := cs_adr_n ha
  have eb : mo_bk (I 24) (nI c) 0 m = none := by simpa using hb
  have h0 := RB_none hB eb ha
  obtain ⟨b1, b2, b3, b4, b5, b6⟩ := hB
  rw [nI_clamp (by omega)] at h0 ⊢
  have hm4 : m < 4 := by
    apply Nat.lt_of_le_of_ne b1
    intro e
    rw [e] at b2
    exact h4 b2
  have new : ∀ k, k < m → ¬ I 24 k = nI c := fun k hk => mo_bk_none eb k (by omega) (by omega)
  refine ⟨?_, by omega, ?_, ?_, ?_, ?_, ?_⟩
  · simp [ps_may, ha, nI_clamp (show c < 2 ^ 31 by omega), h0, b3]
    intro e
    have e' : nI m = nI 4 := e
    rw [nI_eq (by omega) (by omega)] at e'
    omega
  · show I 21 4 + 1 = nI (m + 1)
    rw [b2, nI_1]
  · show G 4 1 + 1 = nI (m + 1)
    rw [b3, nI_1]
  · intro k hk
    show ∃ b, b < 64 ∧ upd (I 24) m (nI c) k = nI b ∧ ¬ upd (G 6) c 1 b = 0 ∧ upd (I 25) m (I 22 c) k = upd (G 7) c (G 2 c) b
    by_cases e : k = m
    · refine ⟨c, hc, ?_, ?_, ?_⟩
      · rw [pb_upd, if_pos e]
      · rw [pb_upd, if_pos rfl]; decide
      · rw [pb_upd, if_pos e, pb_upd, if_pos rfl, hR.1]
    · obtain ⟨b, hb, e1, e2, e3⟩ := b4 k (by omega)
      have hbc : ¬ b = c := fun e4 => new k (by omega) (by rw [e1, e4])
      refine ⟨b, hb, ?_, ?_, ?_⟩
      · rw [pb_upd, if_neg e]; exact e1
      · rw [pb_upd, if_neg hbc]; exact e2
      · rw [pb_upd, if_neg e, pb_upd, if_neg hbc]; exact e3
  · intro b hb
    show ¬ upd (G 6) c 1 b = 0 → ∃ k, k < m + 1 ∧ upd (I 24) m (nI c) k = nI b
    intro h6
    by_cases e : b = c
    · exact ⟨m, by omega, by rw [pb_upd, if_pos rfl, e]⟩
    · rw [pb_upd, if_neg e] at h6
      obtain ⟨k, hk, ek⟩ := b5 b hb h6
      exact ⟨k, by omega, by rw [pb_upd, if_neg (by omega)]; exact ek⟩
  · intro k l hk hl
    show upd (I 24) m (nI c) k = upd (I 24) m (nI c) l → k = l
    intro e
    rw [pb_upd, pb_upd] at e
    by_cases hk' : k = m
    · by_cases hl' : l = m
      · omega
      · rw [if_pos hk', if_neg hl'] at e
        exact absurd e.symm (new l (by omega))
    · by_cases hl' : l = m
      · rw [if_neg hk', if_pos hl'] at e
        exact absurd e (new k (by omega))
      · rw [if_neg hk', if_neg hl'] at e
        exact b6 k l (by omega) (by omega) e
theorem RB_mayno {m : Nat} {G I : am_I} {a : Int32} (hB : RB m G I) (h : mo_may a m I = false) : ps_may (G 6) (G 4 1) a = false := by
  unfold mo_may at h
  unfold ps_may
  rw [hB.2.2.1, ← hB.2.1]
  cases ha : cs_adr a with
  | false => rfl
  | true =>
    cases eb : mo_bk (I 24) a 0 m with
    | none =>
      rw [ha, eb] at h
      have : (I 21 4 = 4) := by simpa using h
      simp [this]
    | some k =>
      obtain ⟨-, -, -, h1, -⟩ := RB_some hB eb
      simp [h1]
/-- a breakpoint taken -/
theorem RB_take {m k : Nat} {G I X : am_I} {a : Int32} (hB : RB m G I) (e : mo_bk (I 24) a 0 m = some k) (x24 : X 24 = mo_sh k (m - 1) (I 24)) (x25 : X 25 = mo_sh k (m - 1) (I 25)) (x21 : X 21 4 = nI (m - 1)) :
    RB (m - 1) (am_ui (am_ui (am_ui G 6 a.toNatClampNeg 0) 2 a.toNatClampNeg (G 7 a.toNatClampNeg)) 4 1 (G 4 1 - 1)) X := by
  obtain ⟨hk, ek, ha, h6, h7⟩ := RB_some hB e
  obtain ⟨c, hc, rfl⟩ := cs_adr_n ha
  rw [nI_clamp (by omega)] at h6 h7 ⊢
  obtain ⟨b1, b2, b3, b4, b5, b6⟩ := hB
  obtain ⟨d, rfl⟩ : ∃ d, m = d + 1 := ⟨m - 1, by omega⟩
  have ed : d + 1 - 1 = d := rfl
  rw [ed] at x24 x25 x21 ⊢
  have at_ : ∀ j, j < d → ∃ i, i < d + 1 ∧ i ≠ k ∧ X 24 j = I 24 i ∧ X 25 j = I 25 i ∧ (i = j ∨ i = j + 1) ∧ (i = j ↔ j < k) := by
    intro j hj
    rw [x24, x25]
    unfold mo_sh
    by_cases h : k ≤ j ∧ j < d
    · exact ⟨j + 1, by omega, by omega, by rw [if_pos h], by rw [if_pos h], by omega, by omega⟩
    · exact ⟨j, by omega, by omega, by rw [if_neg h], by rw [if_neg h], by omega, by omega⟩
  refine ⟨by omega, x21, ?_, ?_, ?_, ?_⟩
  · show G 4 1 - 1 = nI d
    rw [b3]
    exact nI_pred d
  · intro j hj
    show ∃ b, b < 64 ∧ X 24 j = nI b ∧ ¬ upd (G 6) c 0 b = 0 ∧ X 25 j = G 7 b
    obtain ⟨i, hi, hik, e1, e2, -, -⟩ := at_ j hj
    obtain ⟨b, hb, f1, f2, f3⟩ := b4 i hi
    have hbc : ¬ b = c := fun e4 => hik (b6 i k hi hk (by rw [f1, ek, e4]))
    exact ⟨b, hb, e1.trans f1, by rw [pb_upd, if_neg hbc]; exact f2, e2.trans f3⟩
  · intro b hb
    show ¬ upd (G 6) c 0 b = 0 → ∃ j, j < d ∧ X 24 j = nI b
    intro h
    by_cases hbc : b = c
    · rw [pb_upd, if_pos hbc] at h
      exact absurd rfl h
    · rw [pb_upd, if_neg hbc] at h
      obtain ⟨i, hi, ei⟩ := b5 b hb h
      have hik : i ≠ k := by
        intro e5
        rw [e5, ek, nI_eq (by omega) (by omega)] at ei
        exact hbc ei.symm
      by_cases hl : i < k
      · refine ⟨i, by omega, ?_⟩
        rw [x24]
        unfold mo_sh
        rw [if_neg (by omega)]
        exact ei
      · refine ⟨i - 1, by omega, ?_⟩
        rw [x24]
        unfold mo_sh
        rw [if_pos (by omega), show i - 1 + 1 = i by omega]
        exact ei
  · intro j l hj hl e5
    obtain ⟨i, hi, hik, e1, -, -, o1⟩ := at_ j hj
    obtain ⟨i', hi', hik', e1', -, -, o2⟩ := at_ l hl
    have := b6 i i' hi hi' (by rw [← e1, ← e1', e5])
    obtain ⟨i, hi, hik, e1, -, o3, o1⟩ := at_ j hj
    obtain ⟨i', hi', hik', e1', -, o4, o2⟩ := at_ l hl
    have := b6 i i' hi hi' (by rw [← e1, ← e1', e5])
    omega
