/-! save, frame, keep. -/
theorem cs_reg_in9 {a : Int32} (h : cs_reg a = true) : vp_in a 9 := by
  obtain ⟨c, hc, rfl⟩ := pl_of_in (cs_reg_in h)
  exact nI_in (by omega) (by omega)
def cm_sv (r sl : Int32) : Bool := cs_reg r && !decide (r = 6) && cs_slo sl
def T_save : am_T := fun as I P J n K => match as with
  | [.inr (.inr (some o)), .inl r, .inl sl] => o = 0 ∧ (∃ q, P = am_p0 q) ∧ (I 12 1 = 0 → am_thr 2 I P J n K) ∧ (¬ I 12 1 = 0 → cm_sv r sl = false → am_thr 1 I P J n K) ∧ (¬ I 12 1 = 0 → cm_sv r sl = true → ∃ j, j < 8 ∧ I 12 1 - 1 = nI j ∧ K (.inl none) (am_ui I (48 + j) r.toNatClampNeg sl) P J n)
  | _ => False
theorem ok_save (sc : am_S) (C : Nat → am_T) (h13 : am_has C 13 (T_adr cs_reg)) (h14 : am_has C 14 (T_adr cs_slo)) : am_ok sc C tb_L_save T_save := by
  intro as I P J n K hT V hD hV
  unfold T_save at hT
  split at hT
  · rename_i o r sl
    obtain ⟨rfl, ⟨q, rfl⟩, hK1, hK2, hK3⟩ := hT
    show V 0 [(0, .inr (.inr (some 0))), (1, .inl r), (2, .inl sl)] [] I (am_p0 q) J n
    apply hV; apply hV
    refine ⟨rfl, ?_⟩
    apply hV
    refine ⟨rfl, ?_⟩
    apply hV
    refine ⟨fun h => ?_, fun h => ?_⟩
    · obtain ⟨z, rfl, hz⟩ := hK1 h
      apply hV
      exact hz
    apply hV; apply hV
    refine h13 _ _ _ _ _ _ ?_
    have bad : cm_sv r sl = false → V 33 [(0, .inr (.inr (some 0))), (1, .inl r), (2, .inl sl)] [] I (am_p0 q) J n := by
      intro hb
      obtain ⟨z, rfl, hz⟩ := hK2 h hb
      apply hV
      exact hz
    apply hV
    refine ⟨fun h1 => bad (by simp [cm_sv, cs_b0 h1]), fun h1 => ?_⟩
    apply hV; apply hV; apply hV
    refine ⟨fun h2 => bad (by simp [cm_sv, h2]), fun h2 => ?_⟩
    apply hV; apply hV
    refine h14 _ _ _ _ _ _ ?_
    apply hV
    refine ⟨fun h3 => ?_, fun h3 => ?_⟩
    · obtain ⟨z, rfl, hz⟩ := hK2 h (by simp [cm_sv, cs_b0 h3])
      apply hV
      exact hz
    obtain ⟨j, hj, e, hK⟩ := hK3 h (by simp [cm_sv, cs_b1 h1, h2, cs_b1 h3])
    have e2 : (I 12 1 - 1).toNatClampNeg = j := by rw [e]; exact nI_clamp (by omega)
    apply hV; apply hV
    refine ⟨rfl, ?_⟩
    apply hV
    refine ⟨rfl, ?_⟩
    apply hV; apply hV
    refine ⟨rfl, ?_⟩
    apply hV
    refine ⟨rfl, ?_⟩
    apply hV; apply hV; apply hV
    refine ⟨show vp_in (I 12 1 - 1) 8 by rw [e]; exact nI_in hj (by omega), ?_⟩
    rw [e2]
    show V 77 [(0, .inr (.inr (some 0))), (1, .inl r), (2, .inl sl)] [.inr (.inr (some (40 + j)))] I (am_p0 q) J n
    apply hV
    refine ⟨kd_rule j hj, ?_⟩
    rw [p0_rule q hj]
    apply hV; apply hV; apply hV
    refine ⟨by rw [ai_slots hj]; exact cs_reg_in9 (cs_b1 h1), ?_⟩
    apply hV
    exact hK
  · exact hT.elim
theorem am_iald_of {sc : am_S} {V : am_W} {nx o n : Nat} {ls : am_L} {x : Int32} {st' : List am_V} {I : am_I} {P : am_P} {J : am_J} (h9 : Nat.beq o 900 = false) (h : vp_in x (am_ai o) ∧ V nx ls (.inl (I o x.toNatClampNeg) :: st') I P J n) :
    am_iald sc V nx ls (.inl x :: .inr (.inr (some o)) :: st') I P J n := by
  unfold am_iald
  simp only [h9]
  exact h
theorem kd_rows : ∀ j, j < 16 → am_kd (56 + j) = (0, 9) := by decide
theorem ne_rows : ∀ j, j < 16 → Nat.beq (56 + j) 900 = false := by decide
theorem ai_rows {j : Nat} (h : j < 16) : am_ai (56 + j) = 9 := by unfold am_ai; rw [kd_rows j h]; rfl
/-- frame's question: is there such a frame, such a register? -/
def cm_fq (I : am_I) (f r : Int32) : Bool := (!decide (f < 0) && !decide (I 14 1 ≤ f)) && (decide (r = 8) || cs_reg r)
def T_frame : am_T := fun as I P J n K => match as with
  | [.inr (.inr (some o)), .inl f, .inl r] => o = 0 ∧ ∃ q, q < 2 ∧ P = am_p0 q ∧ (cm_fq I f r = false → am_thr 4 I P J n K) ∧ (cm_fq I f r = true → ∃ j, j < 8 ∧ f = nI j ∧ K (.inl (some (.inl (I (56 + (8 * q + j)) r.toNatClampNeg)))) I P J n)
  | _ => False
theorem ok_frame (sc : am_S) (C : Nat → am_T) (h13 : am_has C 13 (T_adr cs_reg)) (h54 : am_has C 54 T_hasFrame) : am_ok sc C tb_L_frame T_frame := by
  intro as I P J n K hT V hD hV
  unfold T_frame at hT
  split at hT
  · rename_i o f r
    obtain ⟨rfl, q, hq, rfl, hK1, hK2⟩ := hT
    show V 0 [(0, .inr (.inr (some 0))), (1, .inl f), (2, .inl r)] [] I (am_p0 q) J n
    apply hV; apply hV
    refine ⟨rfl, ?_⟩
    apply hV; apply hV
    refine ⟨rfl, ?_⟩
    refine h54 _ _ _ _ _ _ ⟨rfl, ⟨_, rfl⟩, ?_⟩
    apply hV
    refine ⟨fun h => ?_, fun h => ?_⟩
    · have h' := cs_b0 h
      obtain ⟨z, rfl, hz⟩ := hK1 (by simp only [cm_fq, h', Bool.false_and])
      apply hV
      exact hz
    have h' := cs_b1 h
    have good : (decide (r = 8) || cs_reg r) = true → vp_in r 9 → V 44 [(0, .inr (.inr (some 0))), (1, .inl f), (2, .inl r)] [] I (am_p0 q) J n := by
      intro hg hr
      obtain ⟨j, hj, rfl, hK⟩ := hK2 (by simp only [cm_fq, h', hg, Bool.and_self])
      have e2 : (nI j).toNatClampNeg = j := nI_clamp (by omega)
      apply hV; apply hV
      refine ⟨rfl, ?_⟩
      apply hV
      refine ⟨rfl, ?_⟩
      have hq2 : q = 0 ∨ q = 1 := by omega
      rcases hq2 with rfl | rfl
      · apply hV; apply hV
        refine ⟨show vp_in (nI j) 8 from nI_in hj (by omega), ?_⟩
        rw [e2]
        apply hV; apply hV
        refine am_iald_of (o := 56 + j) (ne_rows j (by omega)) ⟨by rw [ai_rows (by omega)]; exact hr, ?_⟩
        apply hV
        rw [show 8 * 0 + j = j by omega] at hK
        exact hK
      · apply hV; apply hV
        refine ⟨show vp_in (nI j) 8 from nI_in hj (by omega), ?_⟩
        rw [e2]
        apply hV; apply hV
        have e64 : 64 + j = 56 + (8 + j) := by omega
        refine am_iald_of (o := 64 + j) (by rw [e64]; exact ne_rows _ (by omega)) ⟨by rw [e64, ai_rows (by omega)]; exact hr, ?_⟩
        apply hV
        rw [show 56 + (8 * 1 + j) = 64 + j by omega] at hK
        exact hK
    apply hV; apply hV; apply hV
    refine ⟨fun h1 => good (by simp [h1]) (by rw [h1]; unfold vp_in; decide), fun h1 => ?_⟩
    apply hV; apply hV
    refine h13 _ _ _ _ _ _ ?_
    apply hV
    refine ⟨fun h2 => ?_, fun h2 => good (by simp [cs_b1 h2]) (cs_reg_in9 (cs_b1 h2))⟩
    obtain ⟨z, rfl, hz⟩ := hK1 (by simp [cm_fq, h1, cs_b0 h2])
    apply hV
    exact hz
  · exact hT.elim
