/-! The relation between the class's machine (G) and the reference's (I): words, registers, PC, steps; breakpoints. -/
def RM (G I : am_I) : Prop := I 22 = G 2 ∧ I 23 = G 3 ∧ I 21 2 = G 1 2 ∧ I 21 3 = G 1 3
theorem RM_reg {G I : am_I} (h : RM G I) (a : Nat) (x : Int32) : RM (am_ui G 3 a x) (am_ui I 23 a x) := ⟨h.1, by show upd (I 23) a x = upd (G 3) a x; rw [h.2.1], h.2.2⟩
theorem RM_mem {G I : am_I} (h : RM G I) (a : Nat) (x : Int32) : RM (am_ui G 2 a x) (am_ui I 22 a x) := ⟨by show upd (I 22) a x = upd (G 2) a x; rw [h.1], h.2⟩
theorem RM_go {G I : am_I} (h : RM G I) (nx : Int32) : RM (cm_go G nx) (mo_go I nx) := ⟨h.1, h.2.1, rfl, by show I 21 3 + 1 = G 1 3 + 1; rw [h.2.2.2]⟩
def agS (I I' : am_I) : Prop := (∀ k, ¬ (21 ≤ k ∧ k ≤ 23) → I' k = I k) ∧ ∀ a, a ≠ 2 → a ≠ 3 → I' 21 a = I 21 a
def agC (G G' : am_I) : Prop := ∀ k, ¬ (1 ≤ k ∧ k ≤ 3) → G' k = G k
theorem agS_refl (I : am_I) : agS I I := ⟨fun _ _ => rfl, fun _ _ _ => rfl⟩
theorem agC_refl (I : am_I) : agC I I := fun _ _ => rfl
theorem agS_go {I X : am_I} (h : agS I X) (nx : Int32) : agS I (mo_go X nx) := by
  refine ⟨fun k hk => ?_, fun a h2 h3 => ?_⟩
  · unfold mo_go
    rw [am_ui_ne _ _ _ (by omega), am_ui_ne _ _ _ (by omega)]
    exact h.1 k hk
  · unfold mo_go
    rw [am_ui_eq, am_ui_eq, pb_upd, if_neg h3, pb_upd, if_neg h2]
    exact h.2 a h2 h3
theorem agS_ui {I X : am_I} (h : agS I X) {o : Nat} (ho : o = 22 ∨ o = 23) (a : Nat) (x : Int32) : agS I (am_ui X o a x) := by
  refine ⟨fun k hk => ?_, fun a h2 h3 => ?_⟩
  · rw [am_ui_ne _ _ _ (by omega)]
    exact h.1 k hk
  · rw [am_ui_ne _ _ _ (by omega)]
    exact h.2 a h2 h3
theorem agC_go {I X : am_I} (h : agC I X) (nx : Int32) : agC I (cm_go X nx) := by
  intro k hk
  unfold cm_go
  rw [am_ui_ne _ _ _ (by omega), am_ui_ne _ _ _ (by omega)]
  exact h k hk
theorem agC_ui {I X : am_I} (h : agC I X) {o : Nat} (ho : o = 2 ∨ o = 3) (a : Nat) (x : Int32) : agC I (am_ui X o a x) := by
  intro k hk
  rw [am_ui_ne _ _ _ (by omega)]
  exact h k hk
theorem rel_ex {G I : am_I} (hR : RM G I) (w : Int32) : (mo_ex w I).1 = (cm_ex w G).1 ∧ RM (cm_ex w G).2 (mo_ex w I).2 ∧ agS I (mo_ex w I).2 ∧ agC G (cm_ex w G).2 := by
  have h22 := hR.1
  have h23 := hR.2.1
  have h2 := hR.2.2.1
  rcases pb_15 w with h | h | h | h | h | h | h | h | h | h | h | h | h | h | h | h
  · have ec : cm_ex w G = (3, G) := by unfold cm_ex; repeat (first | rw [if_pos h] | rw [if_neg (am_lit15 h (by decide))])
    have em : mo_ex w I = (3, I) := by unfold mo_ex; repeat (first | rw [if_pos h] | rw [if_neg (am_lit15 h (by decide))])
    rw [em, ec]
    refine ⟨rfl, ?_, agS_refl I, agC_refl G⟩
    try simp only [h22, h23, h2]
    exact hR
  · have ek : cs_calc (w &&& 15) (G 3 (am_shr w 7 &&& 7).toNatClampNeg) (G 3 (am_shr w 10 &&& 7).toNatClampNeg) (am_shr w 16) = am_shr w 16 := by rw [h]; unfold cs_calc; simp
    have ec : cm_ex w G = (1, cm_go (am_ui G 3 (am_shr w 4 &&& 7).toNatClampNeg (cs_calc (w &&& 15) (G 3 (am_shr w 7 &&& 7).toNatClampNeg) (G 3 (am_shr w 10 &&& 7).toNatClampNeg) (am_shr w 16))) (G 1 2 + 1)) := by unfold cm_ex; repeat (first | rw [if_pos h] | rw [if_neg (am_lit15 h (by decide))])
    rw [ek] at ec
    have em : mo_ex w I = (1, mo_go (am_ui I 23 (am_shr w 4 &&& 7).toNatClampNeg (am_shr w 16)) (I 21 2 + 1)) := by unfold mo_ex; repeat (first | rw [if_pos h] | rw [if_neg (am_lit15 h (by decide))])
    rw [em, ec]
    refine ⟨rfl, ?_, agS_go (agS_ui (agS_refl I) (Or.inr rfl) _ _) _, agC_go (agC_ui (agC_refl G) (Or.inr rfl) _ _) _⟩
    try simp only [h22, h23, h2]
    exact RM_go (RM_reg hR _ _) _
  · have ek : cs_calc (w &&& 15) (G 3 (am_shr w 7 &&& 7).toNatClampNeg) (G 3 (am_shr w 10 &&& 7).toNatClampNeg) (am_shr w 16) = G 3 (am_shr w 7 &&& 7).toNatClampNeg + am_shr w 16 := by rw [h]; unfold cs_calc; simp
    have ec : cm_ex w G = (1, cm_go (am_ui G 3 (am_shr w 4 &&& 7).toNatClampNeg (cs_calc (w &&& 15) (G 3 (am_shr w 7 &&& 7).toNatClampNeg) (G 3 (am_shr w 10 &&& 7).toNatClampNeg) (am_shr w 16))) (G 1 2 + 1)) := by unfold cm_ex; repeat (first | rw [if_pos h] | rw [if_neg (am_lit15 h (by decide))])
    rw [ek] at ec
    have em : mo_ex w I = (1, mo_go (am_ui I 23 (am_shr w 4 &&& 7).toNatClampNeg (I 23 (am_shr w 7 &&& 7).toNatClampNeg + am_shr w 16)) (I 21 2 + 1)) := by unfold mo_ex; repeat (first | rw [if_pos h] | rw [if_neg (am_lit15 h (by decide))])
    rw [em, ec]
    refine ⟨rfl, ?_, agS_go (agS_ui (agS_refl I) (Or.inr rfl) _ _) _, agC_go (agC_ui (agC_refl G) (Or.inr rfl) _ _) _⟩
    try simp only [h22, h23, h2]
    exact RM_go (RM_reg hR _ _) _
  · have ek : cs_calc (w &&& 15) (G 3 (am_shr w 7 &&& 7).toNatClampNeg) (G 3 (am_shr w 10 &&& 7).toNatClampNeg) (am_shr w 16) = G 3 (am_shr w 7 &&& 7).toNatClampNeg + G 3 (am_shr w 10 &&& 7).toNatClampNeg := by rw [h]; unfold cs_calc; simp
    have ec : cm_ex w G = (1, cm_go (am_ui G 3 (am_shr w 4 &&& 7).toNatClampNeg (cs_calc (w &&& 15) (G 3 (am_shr w 7 &&& 7).toNatClampNeg) (G 3 (am_shr w 10 &&& 7).toNatClampNeg) (am_shr w 16))) (G 1 2 + 1)) := by unfold cm_ex; repeat (first | rw [if_pos h] | rw [if_neg (am_lit15 h (by decide))])
    rw [ek] at ec
    have em : mo_ex w I = (1, mo_go (am_ui I 23 (am_shr w 4 &&& 7).toNatClampNeg (I 23 (am_shr w 7 &&& 7).toNatClampNeg + I 23 (am_shr w 10 &&& 7).toNatClampNeg)) (I 21 2 + 1)) := by unfold mo_ex; repeat (first | rw [if_pos h] | rw [if_neg (am_lit15 h (by decide))])
    rw [em, ec]
    refine ⟨rfl, ?_, agS_go (agS_ui (agS_refl I) (Or.inr rfl) _ _) _, agC_go (agC_ui (agC_refl G) (Or.inr rfl) _ _) _⟩
    try simp only [h22, h23, h2]
    exact RM_go (RM_reg hR _ _) _
  · have ek : cs_calc (w &&& 15) (G 3 (am_shr w 7 &&& 7).toNatClampNeg) (G 3 (am_shr w 10 &&& 7).toNatClampNeg) (am_shr w 16) = G 3 (am_shr w 7 &&& 7).toNatClampNeg - G 3 (am_shr w 10 &&& 7).toNatClampNeg := by rw [h]; unfold cs_calc; simp
    have ec : cm_ex w G = (1, cm_go (am_ui G 3 (am_shr w 4 &&& 7).toNatClampNeg (cs_calc (w &&& 15) (G 3 (am_shr w 7 &&& 7).toNatClampNeg) (G 3 (am_shr w 10 &&& 7).toNatClampNeg) (am_shr w 16))) (G 1 2 + 1)) := by unfold cm_ex; repeat (first | rw [if_pos h] | rw [if_neg (am_lit15 h (by decide))])
    rw [ek] at ec
    have em : mo_ex w I = (1, mo_go (am_ui I 23 (am_shr w 4 &&& 7).toNatClampNeg (I 23 (am_shr w 7 &&& 7).toNatClampNeg - I 23 (am_shr w 10 &&& 7).toNatClampNeg)) (I 21 2 + 1)) := by unfold mo_ex; repeat (first | rw [if_pos h] | rw [if_neg (am_lit15 h (by decide))])
    rw [em, ec]
    refine ⟨rfl, ?_, agS_go (agS_ui (agS_refl I) (Or.inr rfl) _ _) _, agC_go (agC_ui (agC_refl G) (Or.inr rfl) _ _) _⟩
    try simp only [h22, h23, h2]
    exact RM_go (RM_reg hR _ _) _
  · have ek : cs_calc (w &&& 15) (G 3 (am_shr w 7 &&& 7).toNatClampNeg) (G 3 (am_shr w 10 &&& 7).toNatClampNeg) (am_shr w 16) = G 3 (am_shr w 7 &&& 7).toNatClampNeg * G 3 (am_shr w 10 &&& 7).toNatClampNeg := by rw [h]; unfold cs_calc; simp
    have ec : cm_ex w G = (1, cm_go (am_ui G 3 (am_shr w 4 &&& 7).toNatClampNeg (cs_calc (w &&& 15) (G 3 (am_shr w 7 &&& 7).toNatClampNeg) (G 3 (am_shr w 10 &&& 7).toNatClampNeg) (am_shr w 16))) (G 1 2 + 1)) := by unfold cm_ex; repeat (first | rw [if_pos h] | rw [if_neg (am_lit15 h (by decide))])
    rw [ek] at ec
    have em : mo_ex w I = (1, mo_go (am_ui I 23 (am_shr w 4 &&& 7).toNatClampNeg (I 23 (am_shr w 7 &&& 7).toNatClampNeg * I 23 (am_shr w 10 &&& 7).toNatClampNeg)) (I 21 2 + 1)) := by unfold mo_ex; repeat (first | rw [if_pos h] | rw [if_neg (am_lit15 h (by decide))])
    rw [em, ec]
    refine ⟨rfl, ?_, agS_go (agS_ui (agS_refl I) (Or.inr rfl) _ _) _, agC_go (agC_ui (agC_refl G) (Or.inr rfl) _ _) _⟩
    try simp only [h22, h23, h2]
    exact RM_go (RM_reg hR _ _) _
  · have em : mo_ex w I = if I 23 (am_shr w 10 &&& 7).toNatClampNeg = 0 then (4, I) else (1, mo_go (am_ui I 23 (am_shr w 4 &&& 7).toNatClampNeg (I 23 (am_shr w 7 &&& 7).toNatClampNeg / I 23 (am_shr w 10 &&& 7).toNatClampNeg)) (I 21 2 + 1)) := by unfold mo_ex; repeat (first | rw [if_pos h] | rw [if_neg (am_lit15 h (by decide))])
    have ec : cm_ex w G = if G 3 (am_shr w 10 &&& 7).toNatClampNeg = 0 then (4, G) else (1, cm_go (am_ui G 3 (am_shr w 4 &&& 7).toNatClampNeg (G 3 (am_shr w 7 &&& 7).toNatClampNeg / G 3 (am_shr w 10 &&& 7).toNatClampNeg)) (G 1 2 + 1)) := by unfold cm_ex; repeat (first | rw [if_pos h] | rw [if_neg (am_lit15 h (by decide))])
    by_cases hy : G 3 (am_shr w 10 &&& 7).toNatClampNeg = 0
    · rw [if_pos (by rw [h23]; exact hy)] at em
      rw [if_pos hy] at ec
      rw [em, ec]
      refine ⟨rfl, ?_, agS_refl I, agC_refl G⟩
      try simp only [h22, h23, h2]
      exact hR
    · rw [if_neg (by rw [h23]; exact hy)] at em
      rw [if_neg hy] at ec
      rw [em, ec]
      refine ⟨rfl, ?_, agS_go (agS_ui (agS_refl I) (Or.inr rfl) _ _) _, agC_go (agC_ui (agC_refl G) (Or.inr rfl) _ _) _⟩
      try simp only [h22, h23, h2]
      exact RM_go (RM_reg hR _ _) _
  · have em : mo_ex w I = mo_mv (w &&& 15) (am_shr w 4 &&& 7) (I 23 (am_shr w 7 &&& 7).toNatClampNeg + am_shr w 16) I := by unfold mo_ex; repeat (first | rw [if_pos h] | rw [if_neg (am_lit15 h (by decide))])
    unfold mo_mv at em
    rw [if_pos h] at em
    have ec : cm_ex w G = match cs_adr (G 3 (am_shr w 7 &&& 7).toNatClampNeg + am_shr w 16) with | true => (1, cm_go (am_ui G 3 (am_shr w 4 &&& 7).toNatClampNeg (G 2 (G 3 (am_shr w 7 &&& 7).toNatClampNeg + am_shr w 16).toNatClampNeg)) (G 1 2 + 1)) | false => (4, G) := by unfold cm_ex; (repeat (first | rw [if_pos h] | rw [if_neg (am_lit15 h (by decide))])); rfl
    have ea : (I 23 (am_shr w 7 &&& 7).toNatClampNeg + am_shr w 16) = (G 3 (am_shr w 7 &&& 7).toNatClampNeg + am_shr w 16) := by rw [h23]
    rw [ea] at em
    cases hy : cs_adr (G 3 (am_shr w 7 &&& 7).toNatClampNeg + am_shr w 16) with
    | false =>
      simp only [hy] at em ec
      rw [em, ec]
      refine ⟨rfl, ?_, agS_refl I, agC_refl G⟩
      try simp only [h22, h23, h2]
      exact hR
    | true =>
      simp only [hy] at em ec
      rw [em, ec]
      refine ⟨rfl, ?_, agS_go (agS_ui (agS_refl I) (Or.inr rfl) _ _) _, agC_go (agC_ui (agC_refl G) (Or.inr rfl) _ _) _⟩
      try simp only [h22, h23, h2]
      exact RM_go (RM_reg hR _ _) _
  · have em : mo_ex w I = mo_mv (w &&& 15) (am_shr w 4 &&& 7) (I 23 (am_shr w 7 &&& 7).toNatClampNeg + am_shr w 16) I := by unfold mo_ex; repeat (first | rw [if_pos h] | rw [if_neg (am_lit15 h (by decide))])
    unfold mo_mv at em
    rw [if_neg (am_lit15 h (by decide))] at em
    have ec : cm_ex w G = match cs_adr (G 3 (am_shr w 7 &&& 7).toNatClampNeg + am_shr w 16) with | true => (1, cm_go (am_ui G 2 (G 3 (am_shr w 7 &&& 7).toNatClampNeg + am_shr w 16).toNatClampNeg (G 3 (am_shr w 4 &&& 7).toNatClampNeg)) (G 1 2 + 1)) | false => (4, G) := by unfold cm_ex; (repeat (first | rw [if_pos h] | rw [if_neg (am_lit15 h (by decide))])); rfl
    have ea : (I 23 (am_shr w 7 &&& 7).toNatClampNeg + am_shr w 16) = (G 3 (am_shr w 7 &&& 7).toNatClampNeg + am_shr w 16) := by rw [h23]
    rw [ea] at em
    cases hy : cs_adr (G 3 (am_shr w 7 &&& 7).toNatClampNeg + am_shr w 16) with
    | false =>
      simp only [hy] at em ec
      rw [em, ec]
      refine ⟨rfl, ?_, agS_refl I, agC_refl G⟩
      try simp only [h22, h23, h2]
      exact hR
    | true =>
      simp only [hy] at em ec
      rw [em, ec]
      refine ⟨rfl, ?_, agS_go (agS_ui (agS_refl I) (Or.inl rfl) _ _) _, agC_go (agC_ui (agC_refl G) (Or.inl rfl) _ _) _⟩
      try simp only [h22, h23, h2]
      exact RM_go (RM_mem hR _ _) _
  · have ec : cm_ex w G = (1, cm_go G (am_shr w 16)) := by unfold cm_ex; repeat (first | rw [if_pos h] | rw [if_neg (am_lit15 h (by decide))])
    have em : mo_ex w I = (1, mo_go I (am_shr w 16)) := by unfold mo_ex; repeat (first | rw [if_pos h] | rw [if_neg (am_lit15 h (by decide))])
    rw [em, ec]
    refine ⟨rfl, ?_, agS_go (agS_refl I) _, agC_go (agC_refl G) _⟩
    try simp only [h22, h23, h2]
    exact RM_go hR _
  · have ec : cm_ex w G = (1, cm_go G (if G 3 (am_shr w 4 &&& 7).toNatClampNeg = 0 then am_shr w 16 else (G 1 2 + 1))) := by unfold cm_ex; repeat (first | rw [if_pos h] | rw [if_neg (am_lit15 h (by decide))])
    have em : mo_ex w I = (1, mo_go I (if I 23 (am_shr w 4 &&& 7).toNatClampNeg = 0 then am_shr w 16 else (I 21 2 + 1))) := by unfold mo_ex; repeat (first | rw [if_pos h] | rw [if_neg (am_lit15 h (by decide))])
    rw [em, ec]
    refine ⟨rfl, ?_, agS_go (agS_refl I) _, agC_go (agC_refl G) _⟩
    try simp only [h22, h23, h2]
    exact RM_go hR _
  · have ec : cm_ex w G = (1, cm_go (am_ui G 3 7 (G 1 2 + 1)) (am_shr w 16)) := by unfold cm_ex; repeat (first | rw [if_pos h] | rw [if_neg (am_lit15 h (by decide))])
    have em : mo_ex w I = (1, mo_go (am_ui I 23 7 (I 21 2 + 1)) (am_shr w 16)) := by unfold mo_ex; repeat (first | rw [if_pos h] | rw [if_neg (am_lit15 h (by decide))])
    rw [em, ec]
    refine ⟨rfl, ?_, agS_go (agS_ui (agS_refl I) (Or.inr rfl) _ _) _, agC_go (agC_ui (agC_refl G) (Or.inr rfl) _ _) _⟩
    try simp only [h22, h23, h2]
    exact RM_go (RM_reg hR _ _) _
  · have ec : cm_ex w G = (1, cm_go G (G 3 (am_shr w 4 &&& 7).toNatClampNeg)) := by unfold cm_ex; repeat (first | rw [if_pos h] | rw [if_neg (am_lit15 h (by decide))])
    have em : mo_ex w I = (1, mo_go I (I 23 (am_shr w 4 &&& 7).toNatClampNeg)) := by unfold mo_ex; repeat (first | rw [if_pos h] | rw [if_neg (am_lit15 h (by decide))])
    rw [em, ec]
    refine ⟨rfl, ?_, agS_go (agS_refl I) _, agC_go (agC_refl G) _⟩
    try simp only [h22, h23, h2]
    exact RM_go hR _
  · have ec : cm_ex w G = (1, cm_go G (if 0 ≤ G 3 (am_shr w 4 &&& 7).toNatClampNeg then (G 1 2 + 1) else am_shr w 16)) := by unfold cm_ex; repeat (first | rw [if_pos h] | rw [if_neg (am_lit15 h (by decide))])
    have em : mo_ex w I = (1, mo_go I (if 0 ≤ I 23 (am_shr w 4 &&& 7).toNatClampNeg then (I 21 2 + 1) else am_shr w 16)) := by unfold mo_ex; repeat (first | rw [if_pos h] | rw [if_neg (am_lit15 h (by decide))])
    rw [em, ec]
    refine ⟨rfl, ?_, agS_go (agS_refl I) _, agC_go (agC_refl G) _⟩
    try simp only [h22, h23, h2]
    exact RM_go hR _
  · have ec : cm_ex w G = (4, G) := by unfold cm_ex; repeat (first | rw [if_pos h] | rw [if_neg (am_lit15 h (by decide))])
    have em : mo_ex w I = (4, I) := by unfold mo_ex; repeat (first | rw [if_pos h] | rw [if_neg (am_lit15 h (by decide))])
    rw [em, ec]
    refine ⟨rfl, ?_, agS_refl I, agC_refl G⟩
    try simp only [h22, h23, h2]
    exact hR
  · have ec : cm_ex w G = (2, G) := by unfold cm_ex; repeat (first | rw [if_pos h] | rw [if_neg (am_lit15 h (by decide))])
    have em : mo_ex w I = (2, I) := by unfold mo_ex; repeat (first | rw [if_pos h] | rw [if_neg (am_lit15 h (by decide))])
    rw [em, ec]
    refine ⟨rfl, ?_, agS_refl I, agC_refl G⟩
    try simp only [h22, h23, h2]
    exact hR
/-- m breakpoints; the reference has them in a row, the class by addresses -/
def RB (m : Nat) (G I : am_I) : Prop := m ≤ 4 ∧ I 21 4 = nI m ∧ G 4 1 = nI m ∧ (∀ k, k < m → ∃ a, a < 64 ∧ I 24 k = nI a ∧ ¬ G 6 a = 0 ∧ I 25 k = G 7 a) ∧ (∀ a, a < 64 → ¬ G 6 a = 0 → ∃ k, k < m ∧ I 24 k = nI a) ∧ (∀ k l, k < m → l < m → I 24 k = I 24 l → k = l)
theorem cs_adr_n {a : Int32} (h : cs_adr a = true) : ∃ c, c < 64 ∧ a = nI c := pl_of_in (cs_adr_in h)
theorem cs_adr_of {c : Nat} (h : c < 64) : cs_adr (nI c) = true := by
  have h1 : ¬ nI c < 0 := nI_pos (by omega)
  have h2 : ¬ (64 : Int32) ≤ nI c := show ¬ nI 64 ≤ nI c from nI_ge h (by omega)
  simp [cs_adr, h1, h2]
theorem RB_some {m : Nat} {G I : am_I} (h : RB m G I) {a : Int32} {k : Nat} (e : mo_bk (I 24) a 0 m = some k) : k < m ∧ I 24 k = a ∧ cs_adr a = true ∧ ¬ G 6 a.toNatClampNeg = 0 ∧ I 25 k = G 7 a.toNatClampNeg := by
  obtain ⟨hk, ek⟩ := mo_bk_some e
  obtain ⟨c, hc, e1, e2, e3⟩ := h.2.2.2.1 k (by omega)
  rw [ek] at e1
  subst e1
  rw [nI_clamp (by omega)]
  exact ⟨by omega, ek, cs_adr_of hc, e2, e3⟩
theorem RB_none {m : Nat} {G I : am_I} (h : RB m G I) {a : Int32} (e : mo_bk (I 24) a 0 m = none) (ha : cs_adr a = true) : G 6 a.toNatClampNeg = 0 := by
  obtain ⟨c, hc, rfl⟩ := cs_adr_n ha
  rw [nI_clamp (by omega)]
  apply Classical.byContradiction
  intro hn
  obtain ⟨k, hk, ek⟩ := h.2.2.2.2.1 c hc hn
  exact mo_bk_none e k (by omega) (by omega) ek
theorem RB_ag {m : Nat} {G G' I I' : am_I} (h : RB m G I) (hg : ∀ k, 4 ≤ k → G' k = G k) (hi : I' 21 4 = I 21 4) (h24 : I' 24 = I 24) (h25 : I' 25 = I 25) : RB m G' I' := by
  unfold RB at h ⊢
  rw [hg 4 (by omega), hg 6 (by omega), hg 7 (by omega), hi, h24, h25]
  exact h
theorem mo_w1 {m : Nat} {G I : am_I} (hR : RM G I) (hB : RB m G I) (ha : cs_adr (I 21 2) = true) : mo_w 1 m I = ps_first (G 2) (G 6) (G 7) (G 1 2) := by
  unfold mo_w
  rw [if_neg (by decide), ← hR.2.2.1, ← hR.1]
  unfold ps_first ps_has
  cases e : mo_bk (I 24) (I 21 2) 0 m with
  | none =>
    have h0 := RB_none hB e ha
    simp [h0, pm_at, ha]
  | some k =>
    obtain ⟨-, -, -, h1, h2⟩ := RB_some hB e
    simp [h1, h2, ha]
/-- a step of both -/
theorem rel_st {m : Nat} {G I : am_I} {u w : Int32} (hR : RM G I) (hB : RB m G I) (hw : (u = 1 ∧ w = ps_first (G 2) (G 6) (G 7) (G 1 2)) ∨ (u = 0 ∧ w = pm_at (G 2) (G 1 2))) :
    (mo_st u m I).1 = (cm_ex w G).1 ∧ RM (cm_ex w G).2 (mo_st u m I).2 ∧ agS I (mo_st u m I).2 ∧ agC G (cm_ex w G).2 := by
  unfold mo_st
  cases ha : cs_adr (I 21 2) with
  | true =>
    have ew : mo_w u m I = w := by
      rcases hw with ⟨rfl, rfl⟩ | ⟨rfl, rfl⟩
      · exact mo_w1 hR hB ha
      · unfold mo_w pm_at
        rw [if_pos rfl, ← hR.2.2.1, ha, ← hR.1]
    show (mo_ex (mo_w u m I) I).1 = _ ∧ RM _ (mo_ex (mo_w u m I) I).2 ∧ agS I (mo_ex (mo_w u m I) I).2 ∧ _
    rw [ew]
    exact rel_ex hR w
  | false =>
    have ew : w = 14 := by
      rw [hR.2.2.1] at ha
      rcases hw with ⟨rfl, rfl⟩ | ⟨rfl, rfl⟩
      · simp [ps_first, ps_has, ha, pm_at]
      · simp [pm_at, ha]
    subst ew
    have ec : cm_ex 14 G = (4, G) := by
      unfold cm_ex
      have h : (14 : Int32) &&& 15 = 14 := by decide
      repeat (first | rw [if_pos h] | rw [if_neg (am_lit15 h (by decide))])
    rw [ec]
    exact ⟨rfl, hR, agS_refl I, agC_refl G⟩
def mo_g0 (I : am_I) : am_I := fun k => match k with
  | 1 => I 21
  | 2 => I 22
  | 3 => I 23
  | _ => fun _ => 0
theorem mo_st_ag (u : Int32) (m : Nat) (I : am_I) : agS I (mo_st u m I).2 := by
  unfold mo_st
  cases cs_adr (I 21 2) with
  | true => exact (rel_ex (G := mo_g0 I) ⟨rfl, rfl, rfl, rfl⟩ _).2.2.1
  | false => exact agS_refl I
/-- at most k steps; u: the first of them -/
def mo_sts (m : Nat) : Nat → Int32 → am_I → Int32 × am_I
  | 0, _, I => (5, I)
  | k + 1, u, I => if (mo_st u m I).1 = 1 then match cs_brk (pm_at ((mo_st u m I).2 22) ((mo_st u m I).2 21 2)) with
      | true => (2, (mo_st u m I).2)
      | false => mo_sts m k 0 (mo_st u m I).2
    else mo_st u m I
theorem agS_trans {I X Y : am_I} (h : agS I X) (h' : agS X Y) : agS I Y := ⟨fun k hk => (h'.1 k hk).trans (h.1 k hk), fun a h2 h3 => (h'.2 a h2 h3).trans (h.2 a h2 h3)⟩
theorem agC_trans {I X Y : am_I} (h : agC I X) (h' : agC X Y) : agC I Y := fun k hk => (h' k hk).trans (h k hk)
theorem rel_sts {m : Nat} : ∀ (k : Nat) {G I : am_I} {u w : Int32}, RM G I → RB m G I → ((u = 1 ∧ w = ps_first (G 2) (G 6) (G 7) (G 1 2)) ∨ (u = 0 ∧ w = pm_at (G 2) (G 1 2))) →
    (mo_sts m k u I).1 = (cm_run k w G).1 ∧ RM (cm_run k w G).2 (mo_sts m k u I).2 ∧ agS I (mo_sts m k u I).2 ∧ agC G (cm_run k w G).2 := by
  intro k
  induction k with
  | zero => intro G I u w hR _ _; exact ⟨rfl, hR, agS_refl I, agC_refl G⟩
  | succ k ih =>
    intro G I u w hR hB hw
    have hs := rel_st hR hB hw
    unfold mo_sts cm_run
    generalize mo_st u m I = y at hs ⊢
    generalize cm_ex w G = x at hs ⊢
    obtain ⟨s, X⟩ := y
    obtain ⟨s', Y⟩ := x
    obtain ⟨e, hR', hS, hC⟩ := hs
    have e : s = s' := e
    subst e
    have hR' : RM Y X := hR'
    have hS : agS I X := hS
    have hC : agC G Y := hC
    show (ite (s = 1) _ _ : Int32 × am_I).1 = (ite (s = 1) _ _ : Int32 × am_I).1 ∧ _
    by_cases hs1 : s = 1
    · rw [if_pos hs1, if_pos hs1]
      show (match cs_brk (pm_at (X 22) (X 21 2)) with | true => (2, X) | false => mo_sts m k 0 X : Int32 × am_I).1 = (match cs_brk (pm_at (Y 2) (Y 1 2)) with | true => (2, Y) | false => cm_run k (pm_at (Y 2) (Y 1 2)) Y : Int32 × am_I).1 ∧ RM (match cs_brk (pm_at (Y 2) (Y 1 2)) with | true => (2, Y) | false => cm_run k (pm_at (Y 2) (Y 1 2)) Y : Int32 × am_I).2 (match cs_brk (pm_at (X 22) (X 21 2)) with | true => (2, X) | false => mo_sts m k 0 X : Int32 × am_I).2 ∧ agS I (match cs_brk (pm_at (X 22) (X 21 2)) with | true => (2, X) | false => mo_sts m k 0 X : Int32 × am_I).2 ∧ agC G (match cs_brk (pm_at (Y 2) (Y 1 2)) with | true => (2, Y) | false => cm_run k (pm_at (Y 2) (Y 1 2)) Y : Int32 × am_I).2
      rw [hR'.1, hR'.2.2.1]
      cases cs_brk (pm_at (Y 2) (Y 1 2)) with
      | true => exact ⟨rfl, hR', hS, hC⟩
      | false =>
        obtain ⟨a1, a2, a3, a4⟩ := ih (G := Y) (I := X) (u := 0) (w := pm_at (Y 2) (Y 1 2)) hR' (RB_ag hB (fun k hk => hC k (by omega)) (hS.2 4 (by omega) (by omega)) (hS.1 24 (by omega)) (hS.1 25 (by omega))) (Or.inr ⟨rfl, rfl⟩)
        exact ⟨a1, a2, agS_trans hS a3, agC_trans hC a4⟩
    · rw [if_neg hs1, if_neg hs1]
      exact ⟨rfl, hR', hS, hC⟩
theorem mo_sts_ag (m : Nat) : ∀ (k : Nat) (u : Int32) (I : am_I), agS I (mo_sts m k u I).2 := by
  intro k
  induction k with
  | zero => intro u I; exact agS_refl I
  | succ k ih =>
    intro u I
    have hs := mo_st_ag u m I
    unfold mo_sts
    generalize mo_st u m I = y at hs ⊢
    by_cases h1 : y.1 = 1
    · rw [if_pos h1]
      cases cs_brk (pm_at (y.2 22) (y.2 21 2)) with
      | true => exact hs
      | false => exact agS_trans hs (ih _ _)
    · rw [if_neg h1]
      exact hs
