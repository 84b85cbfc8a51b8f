/-! The reference: request, and an expression's operations, held against the class's. -/
theorem RK_cells {t N : Nat} {G G' I I' : am_I} (h : RK t N G I) (hg : ∀ k, k ≤ 11 → G' k = G k) (hi : ∀ k, 22 ≤ k → k ≤ 28 → I' k = I k) (hf : ∀ a, a < 19 → I' 21 a = I 21 a) : RK t N G' I' := by
  obtain ⟨m, w, d, ⟨x1, x2, x3, x4, x5, x6⟩, hl, h82, h14, hld, ht⟩ := h
  refine ⟨m, w, d, ⟨RM_cells x1 (hg 1 (by omega)) (hg 2 (by omega)) (hg 3 (by omega)) (hi 22 (by omega) (by omega)) (hi 23 (by omega) (by omega)) (hf 2 (by omega)) (hf 3 (by omega)), RB_cells x2 (by rw [hg 4 (by omega)]) (hg 6 (by omega)) (hg 7 (by omega)) (hf 4 (by omega)) (hi 24 (by omega) (by omega)) (hi 25 (by omega) (by omega)), RA_cells x3 (by rw [hg 4 (by omega)]) (hg 5 (by omega)) (hf 7 (by omega)) (hf 8 (by omega)) (hf 9 (by omega)), RF_G x4 (by rw [hg 8 (by omega)]) (by rw [hg 8 (by omega)]) (hg 10 (by omega)) (hf 10 (by omega)) (hi 26 (by omega) (by omega)), ⟨?_, ?_, ?_, ?_⟩, ?_⟩, ?_, ?_, ?_, ?_, ht⟩
  · rw [hf 15 (by omega), hg 8 (by omega)]; exact x5.1
  · rw [hf 16 (by omega), hg 8 (by omega)]; exact x5.2.1
  · rw [hf 17 (by omega), hg 8 (by omega)]; exact x5.2.2.1
  · rw [hf 18 (by omega), hg 8 (by omega)]; exact x5.2.2.2
  · intro k hk
    rw [hi 28 (by omega) (by omega), hg 5 (by omega)]
    exact x6 k hk
  · intro k hk
    rw [hi 28 (by omega) (by omega), hg 9 (by omega)]
    exact hl k hk
  · rw [hg 8 (by omega)]; exact h82
  · rw [hf 14 (by omega)]; exact h14
  · rw [hf 7 (by omega)]; exact hld
theorem RK_f {t N : Nat} {G I : am_I} (h : RK t N G I) {b : Nat} (hb : 19 ≤ b) (x : Int32) : RK t N G (am_ui I 21 b x) :=
  RK_cells h (fun _ _ => rfl) (fun k h1 _ => am_ui_ne _ _ _ (by omega)) (fun a ha => by rw [am_ui_eq, pb_upd, if_neg (by omega)])
theorem RK_o {t N : Nat} {G I : am_I} (h : RK t N G I) {k : Nat} (hk : 29 ≤ k) (b : Nat) (x : Int32) : RK t N G (am_ui I k b x) :=
  RK_cells h (fun _ _ => rfl) (fun j h1 h2 => am_ui_ne _ _ _ (by omega)) (fun a ha => by rw [am_ui_ne _ _ _ (by omega)])
theorem RK_G {t N : Nat} {G I : am_I} (h : RK t N G I) {k : Nat} (hk : 12 ≤ k) (b : Nat) (x : Int32) : RK t N (am_ui G k b x) I :=
  RK_cells h (fun j hj => am_ui_ne _ _ _ (by omega)) (fun _ _ _ => rfl) (fun _ _ => rfl)
def mo_thr (s : Int32) : Int32 := if s = -1 then 2 else if s = 1 then 1 else 0
def T_mrequest : am_T := fun as I P J n K => match as with
  | [.inr (.inr (some o)), .inl kind, .inl a, .inl v] => o = 21 ∧ (∃ q, P = am_p0 q) ∧ (ps_kind kind = false → K (.inl (some (.inl 0))) (am_ui I 21 35 1) P J n) ∧ (ps_kind kind = true → ∃ G t N, t ≤ 512 ∧ N < 2 ^ 31 - 1 ∧ RK t N G I ∧
      ∀ Y s, Rask t N kind a (am_ui I 21 35 0) (cm_ask 4 (cm_wr kind a v G)) s Y → K (.inl (some (.inl (if mo_thr s = 0 then Y 21 19 else 0)))) (am_ui Y 21 35 (mo_thr s)) P J n)
  | _ => False
theorem ps_kind_n {k : Int32} (h : ps_kind k = true) : ∃ d, d ≤ 9 ∧ k = nI d := by
  simp only [ps_kind, Bool.and_eq_true, Bool.not_eq_true', decide_eq_false_iff_not, decide_eq_true_eq] at h
  obtain ⟨j, hj, e⟩ := nI_of2 (M := 9) (n := 9) (by decide) h.1 h.2
  exact ⟨j, hj, e⟩
theorem ok_mrequest (sc : am_S) (C : Nat → am_T) (h35 : am_has C 35 T_mask) : am_ok sc C tb_Mo_request T_mrequest := by
  intro as I P J n K hT V hD hV
  unfold T_mrequest at hT
  split at hT
  · rename_i o kind a v
    obtain ⟨rfl, ⟨q, rfl⟩, hK1, hK2⟩ := hT
    show V 0 [(0, .inr (.inr (some 21))), (1, .inl kind), (2, .inl a), (3, .inl v)] [] I (am_p0 q) J n
    have no : ps_kind kind = false → V 11 [(0, .inr (.inr (some 21))), (1, .inl kind), (2, .inl a), (3, .inl v)] [.inr (.inr (some 21))] I (am_p0 q) J n := by
      intro hq
      have hK := hK1 hq
      clear hK1 hK2
      apply hV; apply hV; apply hV
      refine ⟨rfl, ?_⟩
      apply hV; apply hV
      refine ⟨rfl, ?_⟩
      apply hV
      refine ⟨fun ht => absurd (show (1 : Int32) = 0 from ht) (by decide), fun _ => ?_⟩
      apply hV; apply hV
      exact hK
    apply hV; apply hV; apply hV
    refine ⟨fun h1 => no (by simp [ps_kind, h1]), fun h1 => ?_⟩
    apply hV; apply hV; apply hV
    refine ⟨fun h2 => ?_, fun h2 => no (by simp [ps_kind, h2])⟩
    have hk : ps_kind kind = true := by simp [ps_kind, h1, h2]
    obtain ⟨G, t, N, ht, hN, hR, hK⟩ := hK2 hk
    clear hK1 hK2 no
    apply hV; apply hV
    refine ⟨rfl, ?_⟩
    apply hV; apply hV
    refine ⟨rfl, ?_⟩
    apply hV
    refine ⟨fun _ => ?_, fun ht => absurd (show (0 : Int32) = 0 from rfl) ht⟩
    apply hV; apply hV; apply hV; apply hV; apply hV
    refine ⟨rfl, ?_⟩
    refine h35 _ _ _ _ _ _ ⟨rfl, ⟨_, rfl⟩, G, t, N, ht, hN, RK_f hR (by omega) _, ps_kind_n hk, fun Y s hr => ?_⟩
    have hK := hK Y s hr
    have fin : ∀ x : Int32, x = mo_thr s → V 59 [(0, .inr (.inr (some 21))), (1, .inl kind), (2, .inl a), (3, .inl v), (4, .inl s)] [.inl x, .inr (.inr (some 21))] Y (am_p0 q) J n := by
      intro x hx
      rw [← hx] at hK
      apply hV
      refine ⟨rfl, ?_⟩
      apply hV; apply hV
      refine ⟨rfl, ?_⟩
      apply hV
      refine ⟨fun h3 => ?_, fun h3 => ?_⟩
      · have h3' : x = 0 := h3
        rw [if_pos h3'] at hK
        apply hV; apply hV
        refine ⟨rfl, ?_⟩
        apply hV; apply hV
        exact hK
      · have h3' : ¬ x = 0 := h3
        rw [if_neg h3'] at hK
        apply hV; apply hV
        exact hK
    apply hV; apply hV; apply hV; apply hV; apply hV
    refine ⟨fun h3 => ?_, fun h3 => ?_⟩
    · apply hV; apply hV
      exact fin _ (by unfold mo_thr; rw [if_pos h3])
    · apply hV; apply hV; apply hV
      refine ⟨fun h4 => ?_, fun h4 => ?_⟩
      · apply hV; apply hV
        exact fin _ (by unfold mo_thr; rw [if_neg h3, if_pos h4])
      · apply hV
        exact fin _ (by unfold mo_thr; rw [if_neg h3, if_neg h4])
  · exact hT.elim
def T_mpush : am_T := fun as I P J n K => match as with
  | [.inr (.inr (some o)), .inl x] => o = 21 ∧ (∃ q, P = am_p0 q) ∧ ∃ h, h ≤ 8 ∧ I 21 33 = nI h ∧ (h = 8 → K (.inl (some (.inl 2))) I P J n) ∧ (h < 8 → K (.inl (some (.inl 0))) (am_ui (am_ui I 38 h x) 21 33 (nI (h + 1))) P J n)
  | _ => False
theorem ok_mpush (sc : am_S) (C : Nat → am_T) : am_ok sc C tb_Mo_push T_mpush := by
  intro as I P J n K hT V hD hV
  unfold T_mpush at hT
  split at hT
  · rename_i o x
    obtain ⟨rfl, ⟨q, rfl⟩, h, hh, eh, hK1, hK2⟩ := hT
    show V 0 [(0, .inr (.inr (some 21))), (1, .inl x)] [] I (am_p0 q) J n
    apply hV; apply hV
    refine ⟨rfl, ?_⟩
    apply hV; apply hV
    refine ⟨fun h8 => ?_, fun h8 => ?_⟩
    · apply hV; apply hV
      exact hK1 ((nI_eq (by omega) (by omega)).1 (eh.symm.trans h8))
    · have hm8 : h < 8 := Nat.lt_of_le_of_ne hh (fun e => h8 (by show I 21 33 = 8; rw [eh, e]; rfl))
      have hK := hK2 hm8
      have e2 : (I 21 33).toNatClampNeg = h := by rw [eh]; exact nI_clamp (by omega)
      apply hV; apply hV
      refine ⟨rfl, ?_⟩
      apply hV; apply hV
      refine ⟨rfl, ?_⟩
      apply hV; apply hV
      refine ⟨show vp_in (I 21 33) 8 by rw [eh]; exact nI_in (by omega) (by omega), ?_⟩
      rw [e2]
      apply hV; apply hV; apply hV
      refine ⟨rfl, ?_⟩
      apply hV; apply hV; apply hV
      refine ⟨rfl, ?_⟩
      apply hV; apply hV
      rw [← nI_1, ← eh] at hK
      exact hK
  · exact hT.elim
def T_mjoin : am_T := fun as I P J n K => match as with
  | [.inr (.inr (some o)), .inl op] => o = 21 ∧ (∃ q, P = am_p0 q) ∧ (op = 3 ∨ op = 4 ∨ op = 5 ∨ op = 6) ∧ ∃ h, h ≤ 6 ∧ I 21 33 = nI (h + 2) ∧ (cm_comb op (I 38 h) (I 38 (h + 1)) = none → K (.inl (some (.inl 3))) I P J n) ∧ (∀ r, cm_comb op (I 38 h) (I 38 (h + 1)) = some r → K (.inl (some (.inl 0))) (am_ui (am_ui I 21 33 (nI (h + 1))) 38 h r) P J n)
  | _ => False
theorem nI_m2 (h : Nat) : nI (h + 2) - 2 = nI h := by
  show nI (h + 2) - nI 2 = _
  rw [pk_sub (by omega)]
  rfl
theorem nI_m1 (h : Nat) : nI (h + 2) - 1 = nI (h + 1) := nI_pred (h + 1)
theorem ok_mjoin (sc : am_S) (C : Nat → am_T) : am_ok sc C tb_Mo_join T_mjoin := by
  intro as I P J n K hT V hD hV
  unfold T_mjoin at hT
  split at hT
  · rename_i o op
    obtain ⟨rfl, ⟨q, rfl⟩, hop, h, hh, eh, hK1, hK2⟩ := hT
    show V 0 [(0, .inr (.inr (some 21))), (1, .inl op)] [] I (am_p0 q) J n
    have e1 : (nI (h + 1)).toNatClampNeg = h + 1 := nI_clamp (by omega)
    have e0 : (nI h).toNatClampNeg = h := nI_clamp (by omega)
    have i1 : vp_in (nI (h + 1)) 8 := nI_in (by omega) (by omega)
    have i0 : vp_in (nI h) 8 := nI_in (by omega) (by omega)
    apply hV; apply hV
    refine ⟨rfl, ?_⟩
    apply hV; apply hV
    refine ⟨rfl, ?_⟩
    rw [eh]
    apply hV; apply hV
    show V 10 [(0, .inr (.inr (some 21))), (1, .inl op)] [.inl (nI (h + 2) - 1), .inr (.inr (some 38))] I (am_p0 q) J n
    rw [nI_m1]
    apply hV
    refine ⟨i1, ?_⟩
    rw [e1]
    apply hV; apply hV; apply hV
    refine ⟨rfl, ?_⟩
    apply hV; apply hV
    refine ⟨rfl, ?_⟩
    rw [eh]
    apply hV; apply hV
    show V 22 [(0, .inr (.inr (some 21))), (1, .inl op), (2, .inl (I 38 (h + 1)))] [.inl (nI (h + 2) - 2), .inr (.inr (some 38))] I (am_p0 q) J n
    rw [nI_m2]
    apply hV
    refine ⟨i0, ?_⟩
    rw [e0]
    have go : ∀ r, cm_comb op (I 38 h) (I 38 (h + 1)) = some r → V 92 [(0, .inr (.inr (some 21))), (1, .inl op), (2, .inl (I 38 (h + 1))), (3, .inl (I 38 h))] [.inl r, .inl (nI h), .inr (.inr (some 38))] (am_ui I 21 33 (nI (h + 1))) (am_p0 q) J n := by
      intro r hr
      apply hV
      refine ⟨i0, ?_⟩
      rw [e0]
      apply hV; apply hV
      exact hK2 r hr
    have st : (∃ r, cm_comb op (I 38 h) (I 38 (h + 1)) = some r) → V 36 [(0, .inr (.inr (some 21))), (1, .inl op), (2, .inl (I 38 (h + 1))), (3, .inl (I 38 h))] [] I (am_p0 q) J n := by
      intro hr
      apply hV; apply hV; apply hV
      refine ⟨rfl, ?_⟩
      rw [eh]
      apply hV; apply hV; apply hV
      refine ⟨rfl, ?_⟩
      rw [nI_m1]
      apply hV; apply hV
      refine ⟨rfl, ?_⟩
      apply hV; apply hV
      refine ⟨rfl, ?_⟩
      apply hV; apply hV
      show V 56 [(0, .inr (.inr (some 21))), (1, .inl op), (2, .inl (I 38 (h + 1))), (3, .inl (I 38 h))] [.inl (nI (h + 1) - 1), .inr (.inr (some 38))] (am_ui I 21 33 (nI (h + 1))) (am_p0 q) J n
      rw [nI_pred]
      unfold cm_comb at go hr
      apply hV; apply hV; apply hV
      refine ⟨fun c3 => ?_, fun c3 => ?_⟩
      · apply hV; apply hV; apply hV; apply hV
        exact go _ (by rw [if_pos c3])
      apply hV; apply hV; apply hV
      refine ⟨fun c4 => ?_, fun c4 => ?_⟩
      · apply hV; apply hV; apply hV; apply hV
        exact go _ (by rw [if_neg c3, if_pos c4])
      apply hV; apply hV; apply hV
      refine ⟨fun c5 => ?_, fun c5 => ?_⟩
      · apply hV; apply hV; apply hV; apply hV
        exact go _ (by rw [if_neg c3, if_neg c4, if_pos c5])
      obtain ⟨r, hr⟩ := hr
      rw [if_neg c3, if_neg c4, if_neg c5] at hr
      by_cases hy : I 38 (h + 1) = 0
      · rw [if_pos hy] at hr
        cases hr
      apply hV; apply hV; apply hV
      refine ⟨hy, ?_⟩
      exact go _ (by rw [if_neg c3, if_neg c4, if_neg c5, if_neg hy])
    apply hV; apply hV; apply hV; apply hV
    refine ⟨fun c6 => ?_, fun c6 => ?_⟩
    · apply hV; apply hV
      refine ⟨fun hy => ?_, fun hy => ?_⟩
      · apply hV; apply hV
        refine hK1 ?_
        unfold cm_comb
        rw [if_neg (am_lit15 c6 (by decide)), if_neg (am_lit15 c6 (by decide)), if_neg (am_lit15 c6 (by decide)), if_pos hy]
      · refine st ⟨I 38 h / I 38 (h + 1), ?_⟩
        · unfold cm_comb
          rw [if_neg (am_lit15 c6 (by decide)), if_neg (am_lit15 c6 (by decide)), if_neg (am_lit15 c6 (by decide)), if_neg hy]
    · refine st ?_
      unfold cm_comb
      rcases hop with c | c | c | c
      · exact ⟨_, if_pos c⟩
      · exact ⟨_, by rw [if_neg (am_lit15 c (by decide)), if_pos c]⟩
      · exact ⟨_, by rw [if_neg (am_lit15 c (by decide)), if_neg (am_lit15 c (by decide)), if_pos c]⟩
      · exact absurd c c6
  · exact hT.elim
def T_mwordOnTop : am_T := fun as I P J n K => match as with
  | [.inr (.inr (some o))] => o = 21 ∧ (∃ q, P = am_p0 q) ∧ ∃ h, h < 8 ∧ I 21 33 = nI (h + 1) ∧ (cs_adr (I 38 h) = false → K (.inl (some (.inl 4))) I P J n) ∧ (cs_adr (I 38 h) = true → ∃ G t N, t ≤ 512 ∧ N < 2 ^ 31 - 1 ∧ RK t N G I ∧
      ∀ Y s, Rask t N 2 (I 38 h) I (cm_ask 4 (cm_wr 2 (I 38 h) 0 G)) s Y → K (.inl (some (.inl (if s = -1 then 5 else 0)))) (am_ui Y 38 h (Y 21 19)) P J n)
  | _ => False
theorem ok_mwordOnTop (sc : am_S) (C : Nat → am_T) (h16 : am_has C 16 (T_adr cs_adr)) (h35 : am_has C 35 T_mask) : am_ok sc C tb_Mo_wordOnTop T_mwordOnTop := by
  intro as I P J n K hT V hD hV
  unfold T_mwordOnTop at hT
  split at hT
  · rename_i o
    obtain ⟨rfl, ⟨q, rfl⟩, h, hh, eh, hK1, hK2⟩ := hT
    show V 0 [(0, .inr (.inr (some 21)))] [] I (am_p0 q) J n
    have e0 : (nI h).toNatClampNeg = h := nI_clamp (by omega)
    have i0 : vp_in (nI h) 8 := nI_in (by omega) (by omega)
    apply hV; apply hV
    refine ⟨rfl, ?_⟩
    apply hV; apply hV
    refine ⟨rfl, ?_⟩
    rw [eh]
    apply hV; apply hV
    show V 10 [(0, .inr (.inr (some 21)))] [.inl (nI (h + 1) - 1), .inr (.inr (some 38))] I (am_p0 q) J n
    rw [nI_pred]
    apply hV
    refine ⟨i0, ?_⟩
    rw [e0]
    apply hV
    refine h16 _ _ _ _ _ _ ?_
    apply hV
    refine ⟨fun ha => ?_, fun ha => ?_⟩
    · apply hV; apply hV
      exact hK1 (cs_b0 ha)
    obtain ⟨G, t, N, ht, hN, hR, hK⟩ := hK2 (cs_b1 ha)
    apply hV; apply hV; apply hV; apply hV
    refine ⟨rfl, ?_⟩
    apply hV; apply hV
    refine ⟨rfl, ?_⟩
    rw [eh]
    apply hV; apply hV
    show V 31 [(0, .inr (.inr (some 21)))] [.inl (nI (h + 1) - 1), .inr (.inr (some 38)), .inl 2, .inr (.inr (some 21))] I (am_p0 q) J n
    rw [nI_pred]
    apply hV
    refine ⟨i0, ?_⟩
    rw [e0]
    apply hV; apply hV
    refine ⟨rfl, ?_⟩
    refine h35 _ _ _ _ _ _ ⟨rfl, ⟨_, rfl⟩, G, t, N, ht, hN, hR, ⟨2, by omega, rfl⟩, fun Y s hr => ?_⟩
    have hK := hK Y s hr
    have eh' : Y 21 33 = nI (h + 1) := (hr.2.1.2 33 (by omega)).trans eh
    apply hV; apply hV; apply hV
    refine ⟨rfl, ?_⟩
    apply hV; apply hV
    refine ⟨rfl, ?_⟩
    rw [eh']
    apply hV; apply hV
    show V 47 [(0, .inr (.inr (some 21))), (1, .inl s)] [.inl (nI (h + 1) - 1), .inr (.inr (some 38))] Y (am_p0 q) J n
    rw [nI_pred]
    apply hV; apply hV
    refine ⟨rfl, ?_⟩
    apply hV
    refine ⟨i0, ?_⟩
    rw [e0]
    apply hV; apply hV; apply hV
    refine ⟨fun c => ?_, fun c => ?_⟩
    · rw [if_pos c] at hK
      apply hV; apply hV; apply hV
      exact hK
    · rw [if_neg c] at hK
      apply hV; apply hV
      exact hK
  · exact hT.elim
