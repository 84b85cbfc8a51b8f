/-! The reference: perform. -/
theorem cs_reg_of {c : Nat} (h : c < 8) : cs_reg (nI c) = true := by
  have h1 : ¬ nI c < 0 := nI_pos (by omega)
  have h2 : ¬ (8 : Int32) ≤ nI c := show ¬ nI 8 ≤ nI c from nI_ge h (by omega)
  simp [cs_reg, h1, h2]
theorem cs_reg_no {c : Nat} (h : 8 ≤ c) (hc : c < 2 ^ 31) : cs_reg (nI c) = false := by
  have h2 : (8 : Int32) ≤ nI c := show nI 8 ≤ nI c from nI_le h hc
  simp [cs_reg, h2]
theorem cm_run_46 (k : Nat) (w : Int32) (G I : am_I) {m : Nat} {u : Int32} (hR : RM G I) (hB : RB m G I) (hw : (u = 1 ∧ w = ps_first (G 2) (G 6) (G 7) (G 1 2)) ∨ (u = 0 ∧ w = pm_at (G 2) (G 1 2))) : (cm_run k w G).2 4 6 = G 4 6 :=
  congrFun ((rel_sts k hR hB hw).2.2.2 4 (by omega)) 6
theorem ok_mperform (sc : am_S) (C : Nat → am_T) (h22 : am_has C 22 T_mstep) (h23 : am_has C 23 T_msteps) (h24 : am_has C 24 T_manswer) (h25 : am_has C 25 T_mputBreak) (h26 : am_has C 26 T_mtakeBreak) (h27 : am_has C 27 T_mword) : am_ok sc C tb_Mo_perform T_mperform := by
  intro as I P J n K hT V hD hV
  unfold T_mperform at hT
  split at hT
  · rename_i o kind a v
    obtain ⟨rfl, ⟨q, rfl⟩, G, m, hR, hB, hS, ⟨c, hc, rfl⟩, ⟨d, hd, ed⟩, hK⟩ := hT
    show V 0 [(0, .inr (.inr (some 21))), (1, .inl kind), (2, .inl (nI c)), (3, .inl v)] [] I (am_p0 q) J n
    have em := hB.2.1
    have hm := hB.1
    have h23R := hR.2.1
    have a7 : nI c ≤ 7 → c < 8 := fun h => by
      have := (nI_leI (a := c) (b := 7) (by omega) (by omega)).1 h
      omega
    have a8 : ¬ nI c ≤ 7 → 8 ≤ c := fun h => by
      apply Classical.byContradiction
      intro hn
      exact h (show nI c ≤ nI 7 from nI_le (by omega) (by omega))
    apply hV; apply hV
    refine ⟨fun h => ?_, fun h0 => ?_⟩
    · have e : cm_perf kind (nI c) v G = match cs_reg (nI c) with | true => (G 3 (nI c).toNatClampNeg, G) | false => (0, am_ui G 4 6 1) := by
        unfold cm_perf
        (repeat (first | rw [if_pos h] | rw [if_neg (am_lit15 h (by decide))]))
        rfl
      apply hV; apply hV; apply hV; apply hV
      refine ⟨fun h7 => ?_, fun h7 => ?_⟩
      · rw [cs_reg_of (a7 h7)] at e
        apply hV; apply hV; apply hV
        refine ⟨rfl, ?_⟩
        apply hV; apply hV; apply hV; apply hV
        refine ⟨pb_7 _, ?_⟩
        apply hV
        refine ⟨rfl, ?_⟩
        refine h24 _ _ _ _ _ _ ⟨rfl, ?_⟩
        apply hV; apply hV
        show K (.inl none) (mo_an I 0 (I 23 (nI c &&& 7).toNatClampNeg)) _ _ _
        refine hK _ (mo_pf_ok (e.trans ?_) hS hR hB (agP_refl I))
        rw [and7 c (a7 h7), h23R]
      · rw [cs_reg_no (a8 h7) (by omega)] at e
        apply hV; apply hV; apply hV; apply hV
        refine ⟨rfl, ?_⟩
        apply hV; apply hV; apply hV; apply hV
        refine ⟨pb_7 _, ?_⟩
        apply hV
        refine ⟨rfl, ?_⟩
        refine h24 _ _ _ _ _ _ ⟨rfl, ?_⟩
        apply hV; apply hV
        show K (.inl none) (mo_an I 1 (I 23 (nI c &&& 7).toNatClampNeg)) _ _ _
        exact hK _ (mo_pf_ref e hR hB (agP_refl I))
    refine ⟨fun h => ?_, fun h1 => ?_⟩
    · have e : cm_perf kind (nI c) v G = match cs_reg (nI c) with | true => (0, am_ui G 3 (nI c).toNatClampNeg v) | false => (0, am_ui G 4 6 1) := by
        unfold cm_perf
        (repeat (first | rw [if_pos h] | rw [if_neg (am_lit15 h (by decide))]))
        rfl
      apply hV; apply hV
      refine ⟨rfl, ?_⟩
      apply hV; apply hV; apply hV; apply hV; apply hV; apply hV
      refine ⟨fun h7 => ?_, fun h7 => ?_⟩
      · rw [cs_reg_of (a7 h7)] at e
        apply hV; apply hV
        refine ⟨pb_7 _, ?_⟩
        apply hV; apply hV; apply hV; apply hV
        refine ⟨fun _ => ?_, fun h8 => absurd h7 h8⟩
        apply hV; apply hV; apply hV
        refine ⟨rfl, ?_⟩
        refine h24 _ _ _ _ _ _ ⟨rfl, ?_⟩
        apply hV; apply hV
        show K (.inl none) (mo_an (am_ui I 23 (nI c &&& 7).toNatClampNeg v) 0 0) _ _ _
        rw [and7 c (a7 h7)]
        refine hK _ (mo_pf_ok (m := m) e hS (RM_reg hR _ _) (RB_ag hB (fun k hk => ?_) rfl rfl rfl) (agP_ui (agP_refl I) (by omega) _ _))
        exact am_ui_ne _ _ _ (by omega)
      · rw [cs_reg_no (a8 h7) (by omega)] at e
        apply hV; apply hV
        refine ⟨rfl, ?_⟩
        apply hV; apply hV; apply hV; apply hV
        refine ⟨pb_7 _, ?_⟩
        apply hV; apply hV
        refine ⟨pb_7 _, ?_⟩
        apply hV; apply hV; apply hV; apply hV
        refine ⟨fun h8 => absurd h8 h7, fun _ => ?_⟩
        apply hV; apply hV; apply hV; apply hV
        refine ⟨rfl, ?_⟩
        refine h24 _ _ _ _ _ _ ⟨rfl, ?_⟩
        apply hV; apply hV
        show K (.inl none) (mo_an (am_ui I 23 (nI c &&& 7).toNatClampNeg (I 23 (nI c &&& 7).toNatClampNeg)) 1 0) _ _ _
        generalize (nI c &&& 7).toNatClampNeg = j
        refine hK _ (mo_pf_ref (m := m) e ?_ (RB_ag hB (fun k hk => rfl) rfl rfl rfl) (agP_ui (agP_refl I) (by omega) _ _))
        refine ⟨hR.1, ?_, hR.2.2⟩
        show upd (I 23) j (I 23 j) = G 3
        rw [upd_self]
        exact h23R
    have wd : ∀ (z : Nat), kind = nI z → (z = 2 ∨ z = 3) → V 139 [(0, .inr (.inr (some 21))), (1, .inl kind), (2, .inl (nI c)), (3, .inl v)] [.inl (if z = 3 then 1 else 0), .inl v, .inl (nI c), .inr (.inr (some 21))] I (am_p0 q) J n := by
      intro z ez hz
      apply hV
      refine ⟨rfl, ?_⟩
      refine h27 _ _ _ _ _ _ ⟨rfl, ⟨_, rfl⟩, m, hm, em, fun ha => ?_, fun ha => ?_⟩
      · apply hV; apply hV
        refine hK _ ?_
        unfold mo_wd
        have hcl : (nI c).toNatClampNeg = c := nI_clamp (by omega)
        rcases hz with rfl | rfl
        · have h : kind = 2 := ez
          have e : cm_perf kind (nI c) v G = match cs_adr (nI c) with | true => (ps_rd (G 2) (G 6) (G 7) (nI c), G) | false => (0, am_ui G 4 6 1) := by
            unfold cm_perf
            (repeat (first | rw [if_pos h] | rw [if_neg (am_lit15 h (by decide))]))
            rfl
          simp only [ha, ps_rd] at e
          cases eb : mo_bk (I 24) (nI c) 0 m with
          | none =>
            rw [if_pos (RB_none hB eb ha)] at e
            show mo_pf G I kind (nI c) v (mo_an I 0 (I 22 (nI c).toNatClampNeg))
            rw [hR.1]
            exact mo_pf_ok e hS hR hB (agP_refl I)
          | some k =>
            obtain ⟨-, -, -, g1, g2⟩ := RB_some hB eb
            rw [if_neg g1] at e
            show mo_pf G I kind (nI c) v (mo_an I 0 (I 25 k))
            rw [g2]
            exact mo_pf_ok e hS hR hB (agP_refl I)
        · have h : kind = 3 := ez
          have e : cm_perf kind (nI c) v G = match cs_adr (nI c) with | true => if G 6 (nI c).toNatClampNeg = 0 then (0, am_ui G 2 (nI c).toNatClampNeg v) else (0, am_ui G 7 (nI c).toNatClampNeg v) | false => (0, am_ui G 4 6 1) := by
            unfold cm_perf
            (repeat (first | rw [if_pos h] | rw [if_neg (am_lit15 h (by decide))]))
            rfl
          simp only [ha] at e
          cases eb : mo_bk (I 24) (nI c) 0 m with
          | none =>
            rw [if_pos (RB_none hB eb ha)] at e
            show mo_pf G I kind (nI c) v (mo_an (am_ui I 22 (nI c).toNatClampNeg v) 0 0)
            refine mo_pf_ok (m := m) e hS (RM_mem hR _ _) (RB_ag hB (fun k hk => am_ui_ne _ _ _ (by omega)) rfl rfl rfl) (agP_ui (agP_refl I) (by omega) _ _)
          | some k =>
            obtain ⟨hk, ek, -, g1, g2⟩ := RB_some hB eb
            rw [if_neg g1] at e
            show mo_pf G I kind (nI c) v (mo_an (am_ui I 25 k v) 0 0)
            rw [hcl] at e g1 g2
            refine mo_pf_ok (m := m) e hS ⟨hR.1, hR.2.1, hR.2.2.1, hR.2.2.2⟩ ?_ (agP_ui (agP_refl I) (by omega) _ _)
            obtain ⟨b1, b2, b3, b4, b5, b6⟩ := hB
            refine ⟨b1, b2, b3, fun i hi => ?_, b5, b6⟩
            obtain ⟨b, hb, f1, f2, f3⟩ := b4 i hi
            refine ⟨b, hb, f1, f2, ?_⟩
            show upd (I 25) k v i = upd (G 7) c v b
            by_cases e9 : i = k
            · have ebc : b = c := by
                rw [e9, ek, nI_eq (by omega) (by omega)] at f1
                exact f1.symm
              rw [pb_upd, if_pos e9, pb_upd, if_pos ebc]
            · have ebc : ¬ b = c := by
                intro e5
                exact e9 (b6 i k hi hk (by rw [f1, ek, e5]))
              rw [pb_upd, if_neg e9, pb_upd, if_neg ebc]
              exact f3
      · apply hV; apply hV
        refine hK _ (mo_pf_ref (m := m) ?_ hR hB (agP_refl I))
        rcases hz with rfl | rfl
        · have h : kind = 2 := ez
          unfold cm_perf
          (repeat (first | rw [if_pos h] | rw [if_neg (am_lit15 h (by decide))]))
          simp only [ha]
        · have h : kind = 3 := ez
          unfold cm_perf
          (repeat (first | rw [if_pos h] | rw [if_neg (am_lit15 h (by decide))]))
          simp only [ha]
    refine ⟨fun h => ?_, fun h2 => ?_⟩
    · apply hV; apply hV; apply hV; apply hV; apply hV; apply hV
      refine ⟨fun h3 => absurd (h.symm.trans h3) (by decide), fun h3 => ?_⟩
      apply hV
      exact wd 2 h (Or.inl rfl)
    refine ⟨fun h => ?_, fun h3 => ?_⟩
    · apply hV; apply hV; apply hV; apply hV; apply hV; apply hV
      refine ⟨fun h3 => ?_, fun h3 => absurd h h3⟩
      apply hV; apply hV
      exact wd 3 h (Or.inr rfl)
    refine ⟨fun h => ?_, fun h4 => ?_⟩
    · have e : cm_perf kind (nI c) v G = match ps_may (G 6) (G 4 1) (nI c) with | true => (0, am_ui (am_ui (am_ui (am_ui G 6 (nI c).toNatClampNeg 1) 7 (nI c).toNatClampNeg (G 2 (nI c).toNatClampNeg)) 2 (nI c).toNatClampNeg 15) 4 1 (G 4 1 + 1)) | false => (0, am_ui G 4 6 1) := by
        unfold cm_perf
        (repeat (first | rw [if_pos h] | rw [if_neg (am_lit15 h (by decide))]))
        rfl
      apply hV; apply hV; apply hV
      refine ⟨rfl, ?_⟩
      refine h25 _ _ _ _ _ _ ⟨rfl, ⟨_, rfl⟩, m, hm, em, fun ha => ?_, fun ha => ?_⟩
      · apply hV; apply hV
        obtain ⟨g1, g2⟩ := RB_put hR hB ha
        rw [g1] at e
        refine hK _ (mo_pf_ok e hS ?_ g2 (agP_f (agP_ui (agP_ui (agP_ui (agP_refl I) (by omega) _ _) (by omega) _ _) (by omega) _ _) (Or.inl (by omega)) _))
        refine ⟨?_, hR.2.1, hR.2.2.1, hR.2.2.2⟩
        show upd (I 22) (nI c).toNatClampNeg 15 = upd (G 2) (nI c).toNatClampNeg 15
        rw [hR.1]
      · apply hV; apply hV
        rw [RB_mayno hB ha] at e
        exact hK _ (mo_pf_ref e hR hB (agP_refl I))
    refine ⟨fun h => ?_, fun h5 => ?_⟩
    · have e : cm_perf kind (nI c) v G = match ps_has (G 6) (nI c) with | true => (0, am_ui (am_ui (am_ui G 6 (nI c).toNatClampNeg 0) 2 (nI c).toNatClampNeg (G 7 (nI c).toNatClampNeg)) 4 1 (G 4 1 - 1)) | false => (0, am_ui G 4 6 1) := by
        unfold cm_perf
        (repeat (first | rw [if_pos h] | rw [if_neg (am_lit15 h (by decide))]))
        rfl
      apply hV; apply hV; apply hV
      refine ⟨rfl, ?_⟩
      refine h26 _ _ _ _ _ _ ⟨rfl, ⟨_, rfl⟩, m, hm, em, fun eb => ?_, fun k eb => ?_⟩
      · apply hV; apply hV
        refine hK _ (mo_pf_ref (m := m) ?_ hR hB (agP_refl I))
        cases ha : cs_adr (nI c) with
        | false => simpa [ps_has, ha] using e
        | true => simpa [ps_has, ha, RB_none hB eb ha] using e
      · obtain ⟨-, -, ha, g1, g2⟩ := RB_some hB eb
        refine ⟨cs_adr_in ha, fun X x24 x25 x22 x21 xo => ?_⟩
        apply hV; apply hV
        have eh : ps_has (G 6) (nI c) = true := by simp [ps_has, ha, g1]
        rw [eh] at e
        refine hK _ (mo_pf_ok e hS ⟨?_, ?_, ?_, ?_⟩ (RB_take hB eb x24 x25 (by rw [x21]; rfl)) ⟨fun k hk => xo k (by omega), fun b hb1 hb2 => ?_⟩)
        · rw [x22, hR.1, g2]
          rfl
        · rw [xo 23 (by omega)]
          exact hR.2.1
        · rw [x21]
          exact hR.2.2.1
        · rw [x21]
          exact hR.2.2.2
        · rw [x21, pb_upd, if_neg (by omega)]
    refine ⟨fun h => ?_, fun h6 => ?_⟩
    · have e : cm_perf kind (nI c) v G = cm_ex (ps_first (G 2) (G 6) (G 7) (G 1 2)) G := by
        unfold cm_perf
        (repeat (first | rw [if_pos h] | rw [if_neg (am_lit15 h (by decide))]))
      apply hV; apply hV; apply hV; apply hV; apply hV
      refine ⟨rfl, ?_⟩
      refine h22 _ _ _ _ _ _ ⟨rfl, ⟨_, rfl⟩, m, hm, em, ?_⟩
      obtain ⟨f1, f2, f3, f4⟩ := rel_st hR hB (Or.inl ⟨rfl, rfl⟩)
      generalize mo_st 1 m I = y at f1 f2 f3 ⊢
      obtain ⟨s, X⟩ := y
      generalize cm_ex (ps_first (G 2) (G 6) (G 7) (G 1 2)) G = x at e f1 f2 f4
      obtain ⟨s', Y⟩ := x
      have f1 : s = s' := f1
      subst f1
      apply hV
      refine ⟨rfl, ?_⟩
      refine h24 _ _ _ _ _ _ ⟨rfl, ?_⟩
      apply hV; apply hV
      show K (.inl none) (mo_an X 0 s) _ _ _
      have f4 : agC G Y := f4
      have f3 : agS I X := f3
      refine hK _ (mo_pf_ok e ((congrFun (f4 4 (by omega)) 6).trans hS) f2 (RB_ag hB (fun k hk => f4 k (by omega)) (f3.2 4 (by omega) (by omega)) (f3.1 24 (by omega)) (f3.1 25 (by omega))) (agP_S f3))
    refine ⟨fun h => ?_, fun h7 => ?_⟩
    · have e : cm_perf kind (nI c) v G = match ps_ok v with | true => cm_run v.toNatClampNeg (ps_first (G 2) (G 6) (G 7) (G 1 2)) G | false => (0, am_ui G 4 6 1) := by
        unfold cm_perf
        (repeat (first | rw [if_pos h] | rw [if_neg (am_lit15 h (by decide))]))
        rfl
      have no : ps_ok v = false → V 185 [(0, .inr (.inr (some 21))), (1, .inl kind), (2, .inl (nI c)), (3, .inl v)] [] I (am_p0 q) J n := by
        intro hv
        rw [hv] at e
        apply hV; apply hV; apply hV; apply hV
        refine ⟨rfl, ?_⟩
        refine h24 _ _ _ _ _ _ ⟨rfl, ?_⟩
        apply hV; apply hV
        exact hK _ (mo_pf_ref (y := 0) e hR hB (agP_refl I))
      apply hV; apply hV
      refine ⟨fun hv => no (by simp [ps_ok, hv]), fun hv => ?_⟩
      apply hV; apply hV; apply hV
      refine ⟨fun hv2 => ?_, fun hv2 => no (by simp [ps_ok, hv2])⟩
      obtain ⟨z, hz, rfl⟩ := nI_of2 (M := 200) (n := 200) (by decide) hv hv2
      have eo : ps_ok (nI z) = true := by simp [ps_ok, hv, hv2]
      rw [eo, nI_clamp (by omega)] at e
      apply hV; apply hV; apply hV; apply hV; apply hV
      refine ⟨rfl, ?_⟩
      refine h23 _ _ _ _ _ _ ⟨rfl, ⟨_, rfl⟩, m, z, hm, em, hz, rfl, ?_⟩
      obtain ⟨f1, f2, f3, f4⟩ := rel_sts z hR hB (Or.inl ⟨rfl, rfl⟩)
      generalize mo_sts m z 1 I = y at f1 f2 f3 ⊢
      obtain ⟨s, X⟩ := y
      have e : cm_perf kind (nI c) (nI z) G = cm_run z (ps_first (G 2) (G 6) (G 7) (G 1 2)) G := e
      generalize cm_run z (ps_first (G 2) (G 6) (G 7) (G 1 2)) G = x at e f1 f2 f4
      obtain ⟨s', Y⟩ := x
      have f1 : s = s' := f1
      subst f1
      apply hV
      refine ⟨rfl, ?_⟩
      refine h24 _ _ _ _ _ _ ⟨rfl, ?_⟩
      apply hV; apply hV
      show K (.inl none) (mo_an X 0 s) _ _ _
      have f4 : agC G Y := f4
      have f3 : agS I X := f3
      refine hK _ (mo_pf_ok e ((congrFun (f4 4 (by omega)) 6).trans hS) f2 (RB_ag hB (fun k hk => f4 k (by omega)) (f3.2 4 (by omega) (by omega)) (f3.1 24 (by omega)) (f3.1 25 (by omega))) (agP_S f3))
    refine ⟨fun h => ?_, fun h8 => ?_⟩
    · have e : cm_perf kind (nI c) v G = (G 1 2, G) := by
        unfold cm_perf
        (repeat (first | rw [if_pos h] | rw [if_neg (am_lit15 h (by decide))]))
      apply hV; apply hV; apply hV; apply hV
      refine ⟨rfl, ?_⟩
      apply hV
      refine ⟨rfl, ?_⟩
      refine h24 _ _ _ _ _ _ ⟨rfl, ?_⟩
      apply hV; apply hV
      show K (.inl none) (mo_an I 0 (I 21 2)) _ _ _
      rw [hR.2.2.1]
      exact hK _ (mo_pf_ok e hS hR hB (agP_refl I))
    · have h : kind = 9 := by
        rcases (by omega : d = 0 ∨ d = 1 ∨ d = 2 ∨ d = 3 ∨ d = 4 ∨ d = 5 ∨ d = 6 ∨ d = 7 ∨ d = 8 ∨ d = 9) with r | r | r | r | r | r | r | r | r | r <;> subst r
        · exact absurd ed h0
        · exact absurd ed h1
        · exact absurd ed h2
        · exact absurd ed h3
        · exact absurd ed h4
        · exact absurd ed h5
        · exact absurd ed h6
        · exact absurd ed h7
        · exact absurd ed h8
        · exact ed
      have e : cm_perf kind (nI c) v G = (0, am_ui G 1 2 v) := by
        unfold cm_perf
        (repeat (first | rw [if_pos h] | rw [if_neg (am_lit15 h (by decide))]))
      apply hV; apply hV; apply hV
      refine ⟨rfl, ?_⟩
      apply hV; apply hV; apply hV; apply hV
      refine ⟨rfl, ?_⟩
      refine h24 _ _ _ _ _ _ ⟨rfl, ?_⟩
      apply hV
      show K (.inl none) (mo_an (am_ui I 21 2 v) 0 0) _ _ _
      refine hK _ (mo_pf_ok (m := m) e hS ⟨hR.1, hR.2.1, rfl, hR.2.2.2⟩ (RB_ag hB (fun k hk => am_ui_ne _ _ _ (by omega)) rfl rfl rfl) (agP_f (agP_refl I) (Or.inl (by omega)) _))
  · exact hT.elim
