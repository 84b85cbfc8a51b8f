/-! The table of rules. -/
theorem kd_rule : ∀ j, j < 8 → am_kd (40 + j) = (5, 7) := by decide
theorem kd_slots : ∀ j, j < 8 → am_kd (48 + j) = (0, 9) := by decide
theorem p0_rule (q : Nat) {j : Nat} (h : j < 8) : am_p0 q (40 + j) 3 = some (48 + j) := by
  have : j = 0 ∨ j = 1 ∨ j = 2 ∨ j = 3 ∨ j = 4 ∨ j = 5 ∨ j = 6 ∨ j = 7 := by omega
  rcases this with rfl | rfl | rfl | rfl | rfl | rfl | rfl | rfl <;> rfl
theorem ai_slots {j : Nat} (h : j < 8) : am_ai (48 + j) = 9 := by unfold am_ai; rw [kd_slots j h]; rfl
theorem in_slots {j : Nat} (h : j < 8) : vp_in 8 (am_ai (48 + j)) := by
  rw [ai_slots h]
  unfold vp_in
  decide
def cm_app (j : Nat) (fr to sz sl : Int32) (I : am_I) : am_I := am_ui (am_ui (am_ui (am_ui (am_ui I (40 + j) 0 fr) (40 + j) 1 to) (40 + j) 2 sz) (48 + j) 8 sl) 12 1 (I 12 1 + 1)
def T_rtAppend : am_T := fun as I P J n K => match as with
  | [.inr (.inr (some o)), .inl fr, .inl to, .inl sz, .inl sl] => o = 12 ∧ (∃ q, P = am_p0 q) ∧ (I 12 1 = 8 → am_thr 2 I P J n K) ∧ (¬ I 12 1 = 8 → ∃ j, j < 8 ∧ I 12 1 = nI j ∧ K (.inl (some (.inl (I 12 1 + 1)))) (cm_app j fr to sz sl I) P J n)
  | _ => False
theorem ok_rtAppend (sc : am_S) (C : Nat → am_T) : am_ok sc C tb_Rt_append T_rtAppend := by
  intro as I P J n K hT V hD hV
  unfold T_rtAppend at hT
  split at hT
  · rename_i o fr to sz sl
    obtain ⟨rfl, ⟨q, rfl⟩, hK1, hK2⟩ := hT
    show V 0 [(0, .inr (.inr (some 12))), (1, .inl fr), (2, .inl to), (3, .inl sz), (4, .inl sl)] [] I (am_p0 q) J n
    apply hV; apply hV
    refine ⟨rfl, ?_⟩
    apply hV; apply hV
    refine ⟨fun h => ?_, fun h => ?_⟩
    · obtain ⟨z, rfl, hz⟩ := hK1 h
      apply hV
      exact hz
    obtain ⟨j, hj, e, hK⟩ := hK2 h
    have e2 : (I 12 1).toNatClampNeg = j := by rw [e]; exact nI_clamp (by omega)
    apply hV; apply hV
    refine ⟨rfl, ?_⟩
    apply hV; apply hV
    refine ⟨rfl, ?_⟩
    apply hV
    refine ⟨show vp_in (I 12 1) 8 by rw [e]; exact nI_in hj (by omega), ?_⟩
    rw [e2]
    show V 28 [(0, .inr (.inr (some 12))), (1, .inl fr), (2, .inl to), (3, .inl sz), (4, .inl sl)] [.inr (.inr (some (40 + j)))] I (am_p0 q) J n
    apply hV; apply hV; apply hV; apply hV
    refine ⟨kd_rule j hj, ?_⟩
    apply hV; apply hV; apply hV
    refine ⟨kd_rule j hj, ?_⟩
    apply hV; apply hV; apply hV
    refine ⟨kd_rule j hj, ?_⟩
    apply hV; apply hV
    refine ⟨kd_rule j hj, ?_⟩
    rw [p0_rule q hj]
    apply hV; apply hV; apply hV
    refine ⟨in_slots hj, ?_⟩
    apply hV; apply hV; apply hV
    refine ⟨rfl, ?_⟩
    apply hV; apply hV; apply hV
    refine ⟨rfl, ?_⟩
    apply hV; apply hV
    refine ⟨rfl, ?_⟩
    apply hV
    have r12 : am_ui (am_ui (am_ui (am_ui I (40 + j) 0 fr) (40 + j) 1 to) (40 + j) 2 sz) (48 + j) 8 sl 12 = I 12 := by
      rw [am_ui_ne _ _ _ (by omega), am_ui_ne _ _ _ (by omega), am_ui_ne _ _ _ (by omega), am_ui_ne _ _ _ (by omega)]
    change K (.inl (some (.inl (am_ui (am_ui (am_ui (am_ui (am_ui I (40 + j) 0 fr) (40 + j) 1 to) (40 + j) 2 sz) (48 + j) 8 sl) 12 1 (am_ui (am_ui (am_ui (am_ui I (40 + j) 0 fr) (40 + j) 1 to) (40 + j) 2 sz) (48 + j) 8 sl 12 1 + 1) 12 1)))) (am_ui (am_ui (am_ui (am_ui (am_ui I (40 + j) 0 fr) (40 + j) 1 to) (40 + j) 2 sz) (48 + j) 8 sl) 12 1 (am_ui (am_ui (am_ui (am_ui I (40 + j) 0 fr) (40 + j) 1 to) (40 + j) 2 sz) (48 + j) 8 sl 12 1 + 1)) _ _ _
    rw [r12, am_ui_eq]
    exact hK
  · exact hT.elim
def cm_rule (fr to sz sl : Int32) : Bool := decide (fr ≤ to) && !decide (sz < 0) && decide (sz ≤ 15) && (decide (sl = -1) || cs_slo sl)
def T_rule : am_T := fun as I P J n K => match as with
  | [.inr (.inr (some o)), .inl fr, .inl to, .inl sz, .inl sl] => o = 0 ∧ (∃ q, P = am_p0 q) ∧ (cm_rule fr to sz sl = false → am_thr 1 I P J n K) ∧ (cm_rule fr to sz sl = true → I 12 1 = 8 → am_thr 2 I P J n K) ∧ (cm_rule fr to sz sl = true → ¬ I 12 1 = 8 → ∃ j, j < 8 ∧ I 12 1 = nI j ∧ K (.inl (some (.inl (I 12 1 + 1)))) (cm_app j fr to sz sl I) P J n)
  | _ => False
theorem ok_rule (sc : am_S) (C : Nat → am_T) (h14 : am_has C 14 (T_adr cs_slo)) (h78 : am_has C 78 T_rtAppend) : am_ok sc C tb_L_rule T_rule := by
  intro as I P J n K hT V hD hV
  unfold T_rule at hT
  split at hT
  · rename_i o fr to sz sl
    obtain ⟨rfl, ⟨q, rfl⟩, hK1, hK2, hK3⟩ := hT
    show V 0 [(0, .inr (.inr (some 0))), (1, .inl fr), (2, .inl to), (3, .inl sz), (4, .inl sl)] [] I (am_p0 q) J n
    repeat' first
      | apply hV
      | (change (_ → V _ _ _ _ _ _ _) ∧ _; refine ⟨fun h => ?_, fun h => ?_⟩)
      | (change am_kd _ = (5, _) ∧ _; refine ⟨rfl, ?_⟩)
      | refine h14 _ _ _ _ _ _ ?_
      | refine h78 _ _ _ _ _ _ ⟨rfl, ⟨_, rfl⟩, fun g => ?_, fun g => ?_⟩
      | fail
    all_goals try simp only [cs_b_eq0, Bool.not_eq_false] at *
    all_goals first
      | (obtain ⟨j, hj, e, hK⟩ := hK3 (by simp [cm_rule, *]) g; refine ⟨j, hj, e, ?_⟩; apply hV; exact hK)
      | (obtain ⟨z, rfl, hz⟩ := hK2 (by simp [cm_rule, *]) g; exact ⟨z, rfl, hz⟩)
      | (obtain ⟨z, rfl, hz⟩ := hK1 (by simp [cm_rule, *]); exact hz)
  · exact hT.elim
/-- the first rule for pc among those from number i on, k of them -/
def cm_find (I : am_I) (pc : Int32) : Nat → Nat → Option Nat
  | _, 0 => none
  | i, k + 1 => if pc < I (40 + i) 0 then cm_find I pc (i + 1) k else if I (40 + i) 1 < pc then cm_find I pc (i + 1) k else some (40 + i)
def T_firstFor : am_T := fun as I P J n K => match as with
  | [.inr (.inr (some o)), .inl pc] => o = 12 ∧ (∃ q, P = am_p0 q) ∧ ∃ m, m ≤ 8 ∧ I 12 1 = nI m ∧ K (.inl (some (.inr (.inr (cm_find I pc 0 m))))) I P J n
  | _ => False
theorem ok_firstFor (sc : am_S) (C : Nat → am_T) : am_ok sc C tb_Rt_firstFor T_firstFor := by
  intro as I P J n K hT V hD hV
  unfold T_firstFor at hT
  split at hT
  · rename_i o pc
    obtain ⟨rfl, ⟨q, rfl⟩, m, hm, em, hK⟩ := hT
    show V 0 [(0, .inr (.inr (some 12))), (1, .inl pc)] [] I (am_p0 q) J n
    have loop : ∀ (k i : Nat), i + k = m → K (.inl (some (.inr (.inr (cm_find I pc i k))))) I (am_p0 q) J n → V 2 [(0, .inr (.inr (some 12))), (1, .inl pc), (2, .inl (nI i))] [] I (am_p0 q) J n := by
      intro k
      induction k with
      | zero =>
        intro i hi hK
        apply hV; apply hV; apply hV
        refine ⟨rfl, ?_⟩
        apply hV
        refine ⟨fun h => ?_, fun h => absurd (by rw [em]; exact nI_le (by omega) (by omega)) h⟩
        apply hV; apply hV
        exact hK
      | succ k ih =>
        intro i hi hK
        have hi8 : i < 8 := by omega
        have e2 : (nI i).toNatClampNeg = i := nI_clamp (by omega)
        have next : K (.inl (some (.inr (.inr (cm_find I pc (i + 1) k))))) I (am_p0 q) J n → V 43 [(0, .inr (.inr (some 12))), (1, .inl pc), (2, .inl (nI i))] [] I (am_p0 q) J n := by
          intro hK
          apply hV; apply hV
          show V 2 [(0, .inr (.inr (some 12))), (1, .inl pc), (2, .inl (nI i + 1))] [] I (am_p0 q) J n
          rw [← nI_succ]
          exact ih (i + 1) (by omega) hK
        apply hV; apply hV; apply hV
        refine ⟨rfl, ?_⟩
        apply hV
        refine ⟨fun h => absurd h (by rw [em]; exact nI_ge (by omega) (by omega)), fun h => ?_⟩
        apply hV; apply hV
        refine ⟨rfl, ?_⟩
        apply hV; apply hV
        refine ⟨show vp_in (nI i) 8 from nI_in hi8 (by omega), ?_⟩
        rw [e2]
        show V 16 [(0, .inr (.inr (some 12))), (1, .inl pc), (2, .inl (nI i))] [.inr (.inr (some (40 + i)))] I (am_p0 q) J n
        apply hV
        refine ⟨kd_rule i hi8, ?_⟩
        apply hV; apply hV
        refine ⟨fun c1 => next (by simp only [cm_find, if_pos c1] at hK; exact hK), fun c1 => ?_⟩
        apply hV; apply hV; apply hV
        refine ⟨rfl, ?_⟩
        apply hV; apply hV
        refine ⟨show vp_in (nI i) 8 from nI_in hi8 (by omega), ?_⟩
        rw [e2]
        show V 30 [(0, .inr (.inr (some 12))), (1, .inl pc), (2, .inl (nI i))] [.inr (.inr (some (40 + i))), .inl pc] I (am_p0 q) J n
        apply hV
        refine ⟨kd_rule i hi8, ?_⟩
        apply hV
        refine ⟨fun c2 => next (by simp only [cm_find, if_neg c1, if_pos c2] at hK; exact hK), fun c2 => ?_⟩
        apply hV; apply hV
        refine ⟨rfl, ?_⟩
        apply hV; apply hV
        refine ⟨show vp_in (nI i) 8 from nI_in hi8 (by omega), ?_⟩
        rw [e2]
        simp only [cm_find, if_neg c1, if_neg c2] at hK
        apply hV
        exact hK
    apply hV; apply hV
    exact loop m 0 (by omega) hK
  · exact hT.elim
def cm_save (I : am_I) (r sl : Int32) : Bool := cs_reg r && !decide (r = 6) && cs_slo sl
