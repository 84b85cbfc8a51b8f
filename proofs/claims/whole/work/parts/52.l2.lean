/-! The law: rule, save, frame, operation. -/
theorem rl_eq (fr to sz sl : Int32) : cm_rule fr to sz sl = mo_rl fr to sz sl := by
  have e0 : (0 : Int32).toInt = 0 := rfl
  have e1 : (1 : Int32).toInt = 1 := rfl
  have e6 : (6 : Int32).toInt = 6 := rfl
  have e7 : (7 : Int32).toInt = 7 := rfl
  have e8 : (8 : Int32).toInt = 8 := rfl
  have e10 : (10 : Int32).toInt = 10 := rfl
  have e15 : (15 : Int32).toInt = 15 := rfl
  have em : (-1 : Int32).toInt = -1 := by decide
  rw [Bool.eq_iff_iff]
  simp only [cm_rule, mo_rl, cs_slo, Bool.and_eq_true, Bool.or_eq_true, Bool.not_eq_true', decide_eq_false_iff_not, decide_eq_true_eq, Int32.lt_iff_toInt_lt, Int32.le_iff_toInt_le, ← Int32.toInt_inj]
  try simp only [e0, e1, e6, e7, e8, e10, e15, em]
  omega
theorem sv_eq (r sl : Int32) : cm_sv r sl = mo_sv r sl := by
  have e0 : (0 : Int32).toInt = 0 := rfl
  have e1 : (1 : Int32).toInt = 1 := rfl
  have e6 : (6 : Int32).toInt = 6 := rfl
  have e7 : (7 : Int32).toInt = 7 := rfl
  have e8 : (8 : Int32).toInt = 8 := rfl
  have e10 : (10 : Int32).toInt = 10 := rfl
  have e15 : (15 : Int32).toInt = 15 := rfl
  have em : (-1 : Int32).toInt = -1 := by decide
  rw [Bool.eq_iff_iff]
  simp only [cm_sv, mo_sv, cs_slo, cs_reg, Bool.and_eq_true, Bool.or_eq_true, Bool.not_eq_true', decide_eq_false_iff_not, decide_eq_true_eq, Int32.lt_iff_toInt_lt, Int32.le_iff_toInt_le, ← Int32.toInt_inj]
  try simp only [e0, e1, e6, e7, e8, e10, e15, em]
  omega
theorem op_eq (op v : Int32) : cm_opok op v = mo_opok op v := by
  have e0 : (0 : Int32).toInt = 0 := rfl
  have e1 : (1 : Int32).toInt = 1 := rfl
  have e6 : (6 : Int32).toInt = 6 := rfl
  have e7 : (7 : Int32).toInt = 7 := rfl
  have e8 : (8 : Int32).toInt = 8 := rfl
  have e10 : (10 : Int32).toInt = 10 := rfl
  have e15 : (15 : Int32).toInt = 15 := rfl
  have em : (-1 : Int32).toInt = -1 := by decide
  rw [Bool.eq_iff_iff]
  simp only [cm_opok, mo_opok, cs_reg, Bool.and_eq_true, Bool.or_eq_true, Bool.not_eq_true', decide_eq_false_iff_not, decide_eq_true_eq, Int32.lt_iff_toInt_lt, Int32.le_iff_toInt_le, ← Int32.toInt_inj]
  try simp only [e0, e1, e6, e7, e8, e10, e15, em]
  omega
theorem fq_eq {I G : am_I} (h : G 14 1 = I 21 26) (f r : Int32) : cm_fq G f r = mo_fq I f r := by
  have e0 : (0 : Int32).toInt = 0 := rfl
  have e1 : (1 : Int32).toInt = 1 := rfl
  have e6 : (6 : Int32).toInt = 6 := rfl
  have e7 : (7 : Int32).toInt = 7 := rfl
  have e8 : (8 : Int32).toInt = 8 := rfl
  have e10 : (10 : Int32).toInt = 10 := rfl
  have e15 : (15 : Int32).toInt = 15 := rfl
  have em : (-1 : Int32).toInt = -1 := by decide
  rw [Bool.eq_iff_iff]
  simp only [cm_fq, mo_fq, cs_reg, h, Bool.and_eq_true, Bool.or_eq_true, Bool.not_eq_true', decide_eq_false_iff_not, decide_eq_true_eq, Int32.lt_iff_toInt_lt, Int32.le_iff_toInt_le, ← Int32.toInt_inj]
  try simp only [e0, e1, e6, e7, e8, e10, e15, em]
  omega
theorem rt_rule {t N q r : Nat} {I X : am_I} {fr to sz sl : Int32} (hq : q < 2) (h : RT t N q I) (hRR : RR r I I) (hr : r < 8) (hsl : sl = -1 ∨ ∃ c, c ≤ 15 ∧ sl = nI c)
    (x29 : X 29 = upd (I 29) r fr) (x30 : X 30 = upd (I 30) r to) (x31 : X 31 = upd (I 31) r sz) (x32 : X 32 = upd (I 32) r sl) (x33 : X 33 = mo_fl (I 33) (8 * r) 8) (x21 : X 21 = upd (upd (I 21) 35 0) 20 (nI (r + 1))) (xo : ∀ k, ¬ (k = 21 ∨ (29 ≤ k ∧ k ≤ 33)) → X k = cm_app r fr to sz sl I k) : RT (t + 1) N q X := by
  have ao : ∀ k, k ≠ 12 → k ≠ 40 + r → k ≠ 48 + r → cm_app r fr to sz sl I k = I k := fun k h1 h2 h3 => by
    unfold cm_app
    rw [am_ui_ne _ _ _ h1, am_ui_ne _ _ _ h3, am_ui_ne _ _ _ h2, am_ui_ne _ _ _ h2, am_ui_ne _ _ _ h2]
  have xa : ∀ k, k ≠ 12 → k ≠ 40 + r → k ≠ 48 + r → ¬ (k = 21 ∨ (29 ≤ k ∧ k ≤ 33)) → X k = I k := fun k h1 h2 h3 h4 => (xo k h4).trans (ao k h1 h2 h3)
  have xf : ∀ a, a ≠ 35 → a ≠ 20 → X 21 a = I 21 a := fun a h1 h2 => by rw [x21, pb_upd, if_neg h2, pb_upd, if_neg h1]
  obtain ⟨h1, -, h3, h4⟩ := h
  obtain ⟨r1, r2, r3, r4, r5, r6⟩ := hRR
  have x12 : X 12 1 = nI (r + 1) := by
    rw [xo 12 (by omega)]
    unfold cm_app
    rw [am_ui_eq, pb_upd, if_pos rfl, r3, nI_1]
  have x40 : X (40 + r) = upd (upd (upd (I (40 + r)) 0 fr) 1 to) 2 sz := by
    rw [xo (40 + r) (by omega)]
    unfold cm_app
    rw [am_ui_ne _ _ _ (by omega), am_ui_ne _ _ _ (by omega), am_ui_eq, am_ui_eq, am_ui_eq]
  have x48 : X (48 + r) = upd (I (48 + r)) 8 sl := by
    rw [xo (48 + r) (by omega)]
    unfold cm_app
    rw [am_ui_ne _ _ _ (by omega), am_ui_eq, am_ui_ne _ _ _ (by omega), am_ui_ne _ _ _ (by omega), am_ui_ne _ _ _ (by omega)]
  refine ⟨RK_t (RK_cells h1 (fun k hk => xa k (by omega) (by omega) (by omega) (by omega)) (fun k k1 k2 => xa k (by omega) (by omega) (by omega) (by omega)) (fun a ha => xf a (by omega) (by omega))) (by omega), ⟨r + 1, by omega, by rw [x21]; rfl, x12, fun j hj => ?_, fun j hj p hp => ?_, fun j hj1 hj2 p hp => ?_⟩, RU_c h3 hq (by rw [xa 14 (by omega) (by omega) (by omega) (by omega)]) (fun k k1 k2 => xa k (by omega) (by omega) (by omega) (by omega)) (xa 34 (by omega) (by omega) (by omega) (by omega)) (xf 26 (by omega) (by omega)), RE_c h4 (by rw [xa 15 (by omega) (by omega) (by omega) (by omega)]) (xa 16 (by omega) (by omega) (by omega) (by omega)) (xa 17 (by omega) (by omega) (by omega) (by omega)) (xa 36 (by omega) (by omega) (by omega) (by omega)) (xa 37 (by omega) (by omega) (by omega) (by omega)) (xf 30 (by omega) (by omega))⟩
  · rw [x29, x30, x31, x32, x33]
    by_cases e : j = r
    · subst e
      rw [x40, x48]
      refine ⟨by rw [pb_upd, if_pos rfl]; rfl, by rw [pb_upd, if_pos rfl]; rfl, by rw [pb_upd, if_pos rfl]; rfl, by rw [pb_upd, if_pos rfl]; rfl, fun p hp => ?_⟩
      unfold mo_fl
      rw [if_pos (by omega), pb_upd, if_neg (by omega)]
      exact (r6 j (Nat.le_refl j) (by omega) p hp).symm
    · rw [xa (40 + j) (by omega) (by omega) (by omega) (by omega), xa (48 + j) (by omega) (by omega) (by omega) (by omega)]
      obtain ⟨a1, a2, a3, a4, a5⟩ := r4 j (by omega)
      refine ⟨by rw [pb_upd, if_neg e]; exact a1, by rw [pb_upd, if_neg e]; exact a2, by rw [pb_upd, if_neg e]; exact a3, by rw [pb_upd, if_neg e]; exact a4, fun p hp => ?_⟩
      unfold mo_fl
      rw [if_neg (by omega)]
      exact a5 p hp
  · by_cases e : j = r
    · subst e
      rw [x48, pb_upd]
      by_cases p8 : p = 8
      · rw [if_pos p8]; exact hsl
      · rw [if_neg p8]; exact r5 j hj p hp
    · rw [xa (48 + j) (by omega) (by omega) (by omega) (by omega)]
      exact r5 j hj p hp
  · rw [xa (48 + j) (by omega) (by omega) (by omega) (by omega)]
    exact r6 j (by omega) hj2 p hp
theorem mo_rl_sl {fr to sz sl : Int32} (h : cm_rule fr to sz sl = true) : sl = -1 ∨ ∃ c, c ≤ 15 ∧ sl = nI c := by
  simp only [cm_rule, Bool.and_eq_true, Bool.or_eq_true, decide_eq_true_eq] at h
  rcases h.2 with h | h
  · exact Or.inl h
  · simp only [cs_slo, Bool.and_eq_true, Bool.not_eq_true', decide_eq_false_iff_not] at h
    refine Or.inr ?_
    have h2 : sl ≤ 15 := by
      have := h.2
      rw [Int32.lt_iff_toInt_lt] at this
      rw [Int32.le_iff_toInt_le]
      omega
    obtain ⟨c, hc, e⟩ := nI_of2 (M := 15) (n := 15) (by decide) h.1 h2
    exact ⟨c, hc, e⟩
theorem law_rule {sc : am_S} {C : Nat → am_T} {k N q n : Nat} {J : am_J} {K : am_K} {V : am_W} {I : am_I} (h15 : am_has C 15 T_mthrown) (h93 : am_has C 93 T_La_rule) (h39 : am_has C 39 T_mrule) (hV : am_closed sc C tb_La_law V K) (hk : k < 512) (hN : N ≤ 100 * k) (hq : q < 2) (hn : 1 ≤ n) (hR : RT k N q I) (hs : ∀ a, a ≤ 4 → vp_in (nI (5 * k) + nI a) sc.1) (next : law_nx V k N n) : V 298 [(0, .inr (.inr (some 900))), (1, .inr (.inr (some 0))), (2, .inr (.inr (some 21))), (3, .inr (.inr (some 39))), (4, .inl (nI (5 * k)))] [] I (am_p0 q) J n := by
  obtain ⟨r, hRR⟩ := hR.2.1
  have r1 := hRR.1
  have r2 := hRR.2.1
  have r3 := hRR.2.2.1
  apply hV
  apply hV; apply hV; apply hV; apply hV; apply hV
  refine ⟨hs 1 (by omega), ?_⟩
  apply hV; apply hV; apply hV; apply hV; apply hV
  refine ⟨hs 2 (by omega), ?_⟩
  apply hV; apply hV; apply hV; apply hV; apply hV
  refine ⟨hs 3 (by omega), ?_⟩
  apply hV; apply hV; apply hV; apply hV; apply hV
  refine ⟨hs 4 (by omega), ?_⟩
  apply hV; apply hV
  generalize ef : sc.2 (nI (5 * k) + 1).toNatClampNeg = fr
  generalize et : sc.2 (nI (5 * k) + 2).toNatClampNeg = to
  generalize ez : sc.2 (nI (5 * k) + 3).toNatClampNeg = sz
  generalize el : sc.2 (nI (5 * k) + 4).toNatClampNeg = sl
  have eq := rl_eq fr to sz sl
  refine h93 _ _ _ _ _ _ ⟨rfl, rfl, fun K' hK' => ⟨rfl, ⟨_, rfl⟩, fun c => ?_, fun c c8 => ?_, fun c c8 => ?_⟩⟩
  · refine ⟨n - 1, by omega, hK' _ _ _ _ _ ?_⟩
    show V 327 [(0, .inr (.inr (some 900))), (1, .inr (.inr (some 0))), (2, .inr (.inr (some 21))), (3, .inr (.inr (some 39))), (4, .inl (nI (5 * k)))] [.inl 1] I (am_p0 q) J (n - 1)
    apply hV; apply hV
    apply hV; apply hV; apply hV; apply hV; apply hV
    refine ⟨hs 1 (by omega), ?_⟩
    apply hV; apply hV; apply hV; apply hV; apply hV
    refine ⟨hs 2 (by omega), ?_⟩
    apply hV; apply hV; apply hV; apply hV; apply hV
    refine ⟨hs 3 (by omega), ?_⟩
    apply hV; apply hV; apply hV; apply hV; apply hV
    refine ⟨hs 4 (by omega), ?_⟩
    apply hV
    refine ⟨rfl, ?_⟩
    rw [ef, et, ez, el]
    refine h39 _ _ _ _ _ _ ⟨rfl, ⟨_, rfl⟩, r, r1, r2, fun _ => ?_, fun g => absurd (c.symm.trans (eq.trans g)) (by decide), fun g => absurd (c.symm.trans (eq.trans g)) (by decide)⟩
    apply hV; apply hV
    apply hV
    refine ⟨rfl, ?_⟩
    refine h15 _ _ _ _ _ _ ⟨rfl, ?_⟩
    apply hV
    apply hV
    refine ⟨fun _ => ?_, fun h => absurd rfl h⟩
    apply hV; apply hV
    refine ⟨fun h => absurd h (by decide), fun _ => ?_⟩
    apply hV
    exact next _ q _ N _ _ hq (by omega) (by omega) (rt_35 hq hR _)
  · have r8 : r = 8 := (nI_eq (by omega) (by omega)).1 (r3.symm.trans c8)
    refine ⟨n - 1, by omega, hK' _ _ _ _ _ ?_⟩
    show V 327 [(0, .inr (.inr (some 900))), (1, .inr (.inr (some 0))), (2, .inr (.inr (some 21))), (3, .inr (.inr (some 39))), (4, .inl (nI (5 * k)))] [.inl 2] I (am_p0 q) J (n - 1)
    apply hV; apply hV
    apply hV; apply hV; apply hV; apply hV; apply hV
    refine ⟨hs 1 (by omega), ?_⟩
    apply hV; apply hV; apply hV; apply hV; apply hV
    refine ⟨hs 2 (by omega), ?_⟩
    apply hV; apply hV; apply hV; apply hV; apply hV
    refine ⟨hs 3 (by omega), ?_⟩
    apply hV; apply hV; apply hV; apply hV; apply hV
    refine ⟨hs 4 (by omega), ?_⟩
    apply hV
    refine ⟨rfl, ?_⟩
    rw [ef, et, ez, el]
    refine h39 _ _ _ _ _ _ ⟨rfl, ⟨_, rfl⟩, r, r1, r2, fun g => absurd (c.symm.trans (eq.trans g)) (by decide), fun _ _ => ?_, fun _ g => absurd g (by omega)⟩
    apply hV; apply hV
    apply hV
    refine ⟨rfl, ?_⟩
    refine h15 _ _ _ _ _ _ ⟨rfl, ?_⟩
    apply hV
    apply hV
    refine ⟨fun _ => ?_, fun h => absurd rfl h⟩
    apply hV; apply hV
    refine ⟨fun h => absurd h (by decide), fun _ => ?_⟩
    apply hV
    exact next _ q _ N _ _ hq (by omega) (by omega) (rt_35 hq hR _)
  · have r8 : r < 8 := Nat.lt_of_le_of_ne r1 (fun e => c8 (by rw [r3, e]; rfl))
    refine ⟨r, r8, r3, hK' _ _ _ _ _ ?_⟩
    have er : I 12 1 + 1 = nI (r + 1) := by rw [r3, nI_1]
    rw [er]
    show V 327 [(0, .inr (.inr (some 900))), (1, .inr (.inr (some 0))), (2, .inr (.inr (some 21))), (3, .inr (.inr (some 39))), (4, .inl (nI (5 * k)))] [.inl 0] (cm_app r fr to sz sl I) (am_p0 q) (am_uj J 39 0 (nI (r + 1)).toInt64) n
    have e20 : cm_app r fr to sz sl I 21 = I 21 := by
      unfold cm_app
      rw [am_ui_ne _ _ _ (by omega), am_ui_ne _ _ _ (by omega), am_ui_ne _ _ _ (by omega), am_ui_ne _ _ _ (by omega), am_ui_ne _ _ _ (by omega)]
    have ea : ∀ k, 29 ≤ k → k ≤ 33 → cm_app r fr to sz sl I k = I k := fun k k1 k2 => by
      unfold cm_app
      rw [am_ui_ne _ _ _ (by omega), am_ui_ne _ _ _ (by omega), am_ui_ne _ _ _ (by omega), am_ui_ne _ _ _ (by omega), am_ui_ne _ _ _ (by omega)]
    apply hV; apply hV
    apply hV; apply hV; apply hV; apply hV; apply hV
    refine ⟨hs 1 (by omega), ?_⟩
    apply hV; apply hV; apply hV; apply hV; apply hV
    refine ⟨hs 2 (by omega), ?_⟩
    apply hV; apply hV; apply hV; apply hV; apply hV
    refine ⟨hs 3 (by omega), ?_⟩
    apply hV; apply hV; apply hV; apply hV; apply hV
    refine ⟨hs 4 (by omega), ?_⟩
    apply hV
    refine ⟨rfl, ?_⟩
    rw [ef, et, ez, el]
    refine h39 _ _ _ _ _ _ ⟨rfl, ⟨_, rfl⟩, r, r1, by rw [e20]; exact r2, fun g => absurd (c.symm.trans (eq.trans g)) (by decide), fun _ g => absurd g (by omega), fun _ _ X x29 x30 x31 x32 x33 x21 xo => ?_⟩
    rw [ea 29 (by omega) (by omega)] at x29
    rw [ea 30 (by omega) (by omega)] at x30
    rw [ea 31 (by omega) (by omega)] at x31
    rw [ea 32 (by omega) (by omega)] at x32
    rw [ea 33 (by omega) (by omega)] at x33
    rw [e20] at x21
    have t0 : X 21 35 = 0 := by rw [x21]; rfl
    apply hV; apply hV
    apply hV
    refine ⟨rfl, ?_⟩
    refine h15 _ _ _ _ _ _ ⟨rfl, ?_⟩
    apply hV
    apply hV
    refine ⟨fun _ => ?_, fun h => absurd t0 h⟩
    apply hV; apply hV
    refine ⟨fun _ => ?_, fun h => absurd (show (0 : Int32) = 0 from rfl) h⟩
    apply hV; apply hV; apply hV
    refine ⟨by unfold vp_in; decide, ?_⟩
    apply hV; apply hV; apply hV; apply hV
    refine ⟨fun _ => ?_, fun h => absurd (lg_self _) h⟩
    apply hV
    exact next _ q _ N _ _ hq (by omega) (by omega) (rt_rule hq hR hRR r8 (mo_rl_sl c) x29 x30 x31 x32 x33 x21 xo)
theorem rt_save {t N q r p : Nat} {I : am_I} {sl : Int32} (hq : q < 2) (h : RT t N q I) (hRR : RR (r + 1) I I) (hp : p < 8) (hsl : ∃ c, c ≤ 15 ∧ sl = nI c) : RT (t + 1) N q (am_ui (am_ui (am_ui I (48 + r) p sl) 21 35 0) 33 (8 * r + p) sl) := by
  have r8 := hRR.1
  have xa : ∀ k, k ≠ 21 → k ≠ 33 → k ≠ 48 + r → am_ui (am_ui (am_ui I (48 + r) p sl) 21 35 0) 33 (8 * r + p) sl k = I k := fun k h1 h2 h3 => by
    rw [am_ui_ne _ _ _ h2, am_ui_ne _ _ _ h1, am_ui_ne _ _ _ h3]
  have xf : ∀ a, a ≠ 35 → am_ui (am_ui (am_ui I (48 + r) p sl) 21 35 0) 33 (8 * r + p) sl 21 a = I 21 a := fun a h1 => by
    rw [am_ui_ne _ _ _ (by omega), am_ui_eq, pb_upd, if_neg h1, am_ui_ne _ _ _ (by omega)]
  have x33 : am_ui (am_ui (am_ui I (48 + r) p sl) 21 35 0) 33 (8 * r + p) sl 33 = upd (I 33) (8 * r + p) sl := by
    rw [am_ui_eq, am_ui_ne _ _ _ (by omega), am_ui_ne _ _ _ (by omega)]
  have x48 : am_ui (am_ui (am_ui I (48 + r) p sl) 21 35 0) 33 (8 * r + p) sl (48 + r) = upd (I (48 + r)) p sl := by
    rw [am_ui_ne _ _ _ (by omega), am_ui_ne _ _ _ (by omega), am_ui_eq]
  generalize am_ui (am_ui (am_ui I (48 + r) p sl) 21 35 0) 33 (8 * r + p) sl = X at xa xf x33 x48 ⊢
  obtain ⟨h1, -, h3, h4⟩ := h
  obtain ⟨r1, r2, r3, r4, r5, r6⟩ := hRR
  refine ⟨RK_t (RK_cells h1 (fun k hk => xa k (by omega) (by omega) (by omega)) (fun k k1 k2 => xa k (by omega) (by omega) (by omega)) (fun a ha => xf a (by omega))) (by omega), ⟨r + 1, r1, (xf 20 (by omega)).trans r2, by rw [xa 12 (by omega) (by omega) (by omega)]; exact r3, fun j hj => ?_, fun j hj p' hp' => ?_, fun j hj1 hj2 p' hp' => ?_⟩, RU_c h3 hq (by rw [xa 14 (by omega) (by omega) (by omega)]) (fun k k1 k2 => xa k (by omega) (by omega) (by omega)) (xa 34 (by omega) (by omega) (by omega)) (xf 26 (by omega)), RE_c h4 (by rw [xa 15 (by omega) (by omega) (by omega)]) (xa 16 (by omega) (by omega) (by omega)) (xa 17 (by omega) (by omega) (by omega)) (xa 36 (by omega) (by omega) (by omega)) (xa 37 (by omega) (by omega) (by omega)) (xf 30 (by omega))⟩
  · obtain ⟨a1, a2, a3, a4, a5⟩ := r4 j hj
    rw [xa 29 (by omega) (by omega) (by omega), xa 30 (by omega) (by omega) (by omega), xa 31 (by omega) (by omega) (by omega), xa 32 (by omega) (by omega) (by omega), xa (40 + j) (by omega) (by omega) (by omega), x33]
    by_cases e : j = r
    · subst e
      rw [x48]
      refine ⟨a1, a2, a3, by rw [pb_upd, if_neg (by omega)]; exact a4, fun p' hp' => ?_⟩
      rw [pb_upd, pb_upd]
      by_cases ep : p' = p
      · rw [if_pos (by omega), if_pos ep]
      · rw [if_neg (by omega), if_neg ep]
        exact a5 p' hp'
    · rw [xa (48 + j) (by omega) (by omega) (by omega)]
      refine ⟨a1, a2, a3, a4, fun p' hp' => ?_⟩
      rw [pb_upd, if_neg (by omega)]
      exact a5 p' hp'
  · by_cases e : j = r
    · subst e
      rw [x48, pb_upd]
      by_cases ep : p' = p
      · rw [if_pos ep]; exact Or.inr hsl
      · rw [if_neg ep]; exact r5 j hj p' hp'
    · rw [xa (48 + j) (by omega) (by omega) (by omega)]
      exact r5 j hj p' hp'
  · rw [xa (48 + j) (by omega) (by omega) (by omega)]
    exact r6 j hj1 hj2 p' hp'
theorem cm_sv_n {r sl : Int32} (h : cm_sv r sl = true) : (∃ p, p < 8 ∧ r = nI p) ∧ ∃ c, c ≤ 15 ∧ sl = nI c := by
  simp only [cm_sv, Bool.and_eq_true] at h
  refine ⟨pl_of_in (cs_reg_in h.1.1), ?_⟩
  have h2 := h.2
  simp only [cs_slo, Bool.and_eq_true, Bool.not_eq_true', decide_eq_false_iff_not] at h2
  have h3 : sl ≤ 15 := by
    have := h2.2
    rw [Int32.lt_iff_toInt_lt] at this
    rw [Int32.le_iff_toInt_le]
    omega
  obtain ⟨c, hc, e⟩ := nI_of2 (M := 15) (n := 15) (by decide) h2.1 h3
  exact ⟨c, hc, e⟩
theorem law_save {sc : am_S} {C : Nat → am_T} {k N q n : Nat} {J : am_J} {K : am_K} {V : am_W} {I : am_I} (h15 : am_has C 15 T_mthrown) (h94 : am_has C 94 T_La_save) (h40 : am_has C 40 T_msave) (hV : am_closed sc C tb_La_law V K) (hk : k < 512) (hN : N ≤ 100 * k) (hq : q < 2) (hn : 1 ≤ n) (hR : RT k N q I) (hs : ∀ a, a ≤ 4 → vp_in (nI (5 * k) + nI a) sc.1) (next : law_nx V k N n) : V 390 [(0, .inr (.inr (some 900))), (1, .inr (.inr (some 0))), (2, .inr (.inr (some 21))), (3, .inr (.inr (some 39))), (4, .inl (nI (5 * k)))] [] I (am_p0 q) J n := by
  obtain ⟨r, hRR⟩ := hR.2.1
  have r1 := hRR.1
  have r2 := hRR.2.1
  have r3 := hRR.2.2.1
  apply hV
  apply hV; apply hV; apply hV; apply hV; apply hV
  refine ⟨hs 1 (by omega), ?_⟩
  apply hV; apply hV; apply hV; apply hV; apply hV
  refine ⟨hs 2 (by omega), ?_⟩
  apply hV
  generalize er : sc.2 (nI (5 * k) + 1).toNatClampNeg = rg
  generalize el : sc.2 (nI (5 * k) + 2).toNatClampNeg = sl
  have eq := sv_eq rg sl
  have e21 : I 12 1 = I 21 20 := r3.trans r2.symm
  refine h94 _ _ _ _ _ _ ⟨rfl, fun K' hK' => ⟨rfl, ⟨_, rfl⟩, fun c => ?_, fun c0 c => ?_, fun c0 c => ?_⟩⟩
  · refine ⟨n - 1, by omega, hK' _ _ _ _ _ ?_⟩
    show V 406 [(0, .inr (.inr (some 900))), (1, .inr (.inr (some 0))), (2, .inr (.inr (some 21))), (3, .inr (.inr (some 39))), (4, .inl (nI (5 * k)))] [.inl 1] I (am_p0 q) J (n - 1)
    rw [e21] at c
    apply hV; apply hV
    apply hV; apply hV; apply hV; apply hV; apply hV
    refine ⟨hs 1 (by omega), ?_⟩
    apply hV; apply hV; apply hV; apply hV; apply hV
    refine ⟨hs 2 (by omega), ?_⟩
    apply hV
    refine ⟨rfl, ?_⟩
    rw [er, el]
    refine h40 _ _ _ _ _ _ ⟨rfl, ⟨_, rfl⟩, fun _ => ?_, fun g => absurd c g, fun g => absurd c g⟩
    apply hV
    apply hV
    refine ⟨rfl, ?_⟩
    refine h15 _ _ _ _ _ _ ⟨rfl, ?_⟩
    apply hV
    apply hV
    refine ⟨fun _ => ?_, fun h => absurd rfl h⟩
    apply hV
    exact next _ q _ N _ _ hq (by omega) (by omega) (rt_35 hq hR _)
  · refine ⟨n - 1, by omega, hK' _ _ _ _ _ ?_⟩
    show V 406 [(0, .inr (.inr (some 900))), (1, .inr (.inr (some 0))), (2, .inr (.inr (some 21))), (3, .inr (.inr (some 39))), (4, .inl (nI (5 * k)))] [.inl 2] I (am_p0 q) J (n - 1)
    rw [e21] at c0
    apply hV; apply hV
    apply hV; apply hV; apply hV; apply hV; apply hV
    refine ⟨hs 1 (by omega), ?_⟩
    apply hV; apply hV; apply hV; apply hV; apply hV
    refine ⟨hs 2 (by omega), ?_⟩
    apply hV
    refine ⟨rfl, ?_⟩
    rw [er, el]
    refine h40 _ _ _ _ _ _ ⟨rfl, ⟨_, rfl⟩, fun g => absurd g c0, fun _ _ => ?_, fun _ g => absurd (c.symm.trans (eq.trans g)) (by decide)⟩
    apply hV
    apply hV
    refine ⟨rfl, ?_⟩
    refine h15 _ _ _ _ _ _ ⟨rfl, ?_⟩
    apply hV
    apply hV
    refine ⟨fun _ => ?_, fun h => absurd rfl h⟩
    apply hV
    exact next _ q _ N _ _ hq (by omega) (by omega) (rt_35 hq hR _)
  · rw [e21] at c0
    obtain ⟨m, rfl⟩ : ∃ m, r = m + 1 := ⟨r - 1, by
      have : r ≠ 0 := fun e => c0 (by rw [r2, e]; rfl)
      omega⟩
    obtain ⟨⟨p, hp, rfl⟩, hsl⟩ := cm_sv_n c
    have ecl : (nI p).toNatClampNeg = p := nI_clamp (by omega)
    have ej : I 12 1 - 1 = nI m := by rw [r3]; exact nI_pred m
    refine ⟨m, by omega, ej, hK' _ _ _ _ _ ?_⟩
    rw [ecl]
    show V 406 [(0, .inr (.inr (some 900))), (1, .inr (.inr (some 0))), (2, .inr (.inr (some 21))), (3, .inr (.inr (some 39))), (4, .inl (nI (5 * k)))] [.inl 0] (am_ui I (48 + m) p sl) (am_p0 q) J n
    have x20 : am_ui I (48 + m) p sl 21 20 = nI (m + 1) := by rw [am_ui_ne _ _ _ (by omega)]; exact r2
    apply hV; apply hV
    apply hV; apply hV; apply hV; apply hV; apply hV
    refine ⟨hs 1 (by omega), ?_⟩
    apply hV; apply hV; apply hV; apply hV; apply hV
    refine ⟨hs 2 (by omega), ?_⟩
    apply hV
    refine ⟨rfl, ?_⟩
    rw [er, el]
    refine h40 _ _ _ _ _ _ ⟨rfl, ⟨_, rfl⟩, fun g => absurd (x20.symm.trans g) (nI_ne0 (by omega) (by omega)), fun _ g => absurd (c.symm.trans (eq.trans g)) (by decide), fun _ _ => ⟨m, p, by omega, hp, x20, rfl, ?_⟩⟩
    apply hV
    apply hV
    refine ⟨rfl, ?_⟩
    refine h15 _ _ _ _ _ _ ⟨rfl, ?_⟩
    apply hV
    apply hV
    refine ⟨fun _ => ?_, fun h => absurd rfl h⟩
    apply hV
    exact next _ q _ N _ _ hq (by omega) (by omega) (rt_save hq hR hRR hp hsl)
theorem law_frame {sc : am_S} {C : Nat → am_T} {k N q n : Nat} {J : am_J} {K : am_K} {V : am_W} {I : am_I} (h15 : am_has C 15 T_mthrown) (h96 : am_has C 96 T_La_frame) (h45 : am_has C 45 T_mframe) (hV : am_closed sc C tb_La_law V K) (hk : k < 512) (hN : N ≤ 100 * k) (hq : q < 2) (hn : 1 ≤ n) (hR : RT k N q I) (hs : ∀ a, a ≤ 4 → vp_in (nI (5 * k) + nI a) sc.1) (next : law_nx V k N n) : V 482 [(0, .inr (.inr (some 900))), (1, .inr (.inr (some 0))), (2, .inr (.inr (some 21))), (3, .inr (.inr (some 39))), (4, .inl (nI (5 * k)))] [] I (am_p0 q) J n := by
  obtain ⟨cc, u1, u2, u3, u4⟩ := hR.2.2.1
  apply hV
  apply hV; apply hV; apply hV; apply hV; apply hV
  refine ⟨hs 1 (by omega), ?_⟩
  apply hV; apply hV; apply hV; apply hV; apply hV
  refine ⟨hs 2 (by omega), ?_⟩
  apply hV; apply hV
  generalize ef : sc.2 (nI (5 * k) + 1).toNatClampNeg = f
  generalize er : sc.2 (nI (5 * k) + 2).toNatClampNeg = r
  have eq := fq_eq (I := I) (G := I) (u3.trans u2.symm) f r
  refine h96 _ _ _ _ _ _ ⟨rfl, rfl, fun K' hK' => ⟨rfl, q, hq, rfl, fun c => ?_, fun c => ?_⟩⟩
  · refine ⟨n - 1, by omega, hK' _ _ _ _ _ ?_⟩
    show V 499 [(0, .inr (.inr (some 900))), (1, .inr (.inr (some 0))), (2, .inr (.inr (some 21))), (3, .inr (.inr (some 39))), (4, .inl (nI (5 * k)))] [.inl 1] I (am_p0 q) J (n - 1)
    apply hV; apply hV
    apply hV; apply hV; apply hV; apply hV; apply hV
    refine ⟨hs 1 (by omega), ?_⟩
    apply hV; apply hV; apply hV; apply hV; apply hV
    refine ⟨hs 2 (by omega), ?_⟩
    apply hV
    refine ⟨rfl, ?_⟩
    rw [ef, er]
    refine h45 _ _ _ _ _ _ ⟨rfl, ⟨_, rfl⟩, fun _ => ?_, fun g => absurd (c.symm.trans (eq.trans g)) (by decide)⟩
    apply hV; apply hV
    apply hV
    refine ⟨rfl, ?_⟩
    refine h15 _ _ _ _ _ _ ⟨rfl, ?_⟩
    apply hV
    apply hV
    refine ⟨fun _ => ?_, fun h => absurd rfl h⟩
    apply hV; apply hV
    refine ⟨fun h => absurd h (by decide), fun _ => ?_⟩
    apply hV
    exact next _ q _ N _ _ hq (by omega) (by omega) (rt_35 hq hR _)
  · have c' := c
    simp only [cm_fq, Bool.and_eq_true, Bool.not_eq_true', decide_eq_false_iff_not] at c'
    obtain ⟨⟨f0, f1⟩, f2⟩ := c'
    obtain ⟨j, hj, rfl⟩ := nI_of f0
    have hjc : j < cc := by
      rw [u3, nI_leI (by omega) (by omega)] at f1
      omega
    obtain ⟨p, hp, rfl⟩ : ∃ p, p ≤ 8 ∧ r = nI p := by
      simp only [Bool.or_eq_true, decide_eq_true_eq] at f2
      rcases f2 with f2 | f2
      · exact ⟨8, by omega, f2⟩
      · obtain ⟨p, hp, e⟩ := pl_of_in (cs_reg_in f2)
        exact ⟨p, by omega, e⟩
    refine ⟨j, by omega, rfl, hK' _ _ _ _ _ ?_⟩
    rw [nI_clamp (show p < 2 ^ 31 by omega)]
    show V 499 [(0, .inr (.inr (some 900))), (1, .inr (.inr (some 0))), (2, .inr (.inr (some 21))), (3, .inr (.inr (some 39))), (4, .inl (nI (5 * k)))] [.inl 0] I (am_p0 q) (am_uj J 39 0 (I (56 + (8 * q + j)) p).toInt64) n
    apply hV; apply hV
    apply hV; apply hV; apply hV; apply hV; apply hV
    refine ⟨hs 1 (by omega), ?_⟩
    apply hV; apply hV; apply hV; apply hV; apply hV
    refine ⟨hs 2 (by omega), ?_⟩
    apply hV
    refine ⟨rfl, ?_⟩
    rw [ef, er]
    refine h45 _ _ _ _ _ _ ⟨rfl, ⟨_, rfl⟩, fun g => absurd (c.symm.trans (eq.trans g)) (by decide), fun _ => ⟨j, p, by omega, hp, rfl, rfl, ?_⟩⟩
    rw [u4 j hjc p (by omega)]
    apply hV; apply hV
    apply hV
    refine ⟨rfl, ?_⟩
    refine h15 _ _ _ _ _ _ ⟨rfl, ?_⟩
    apply hV
    apply hV
    refine ⟨fun _ => ?_, fun h => absurd rfl h⟩
    apply hV; apply hV
    refine ⟨fun _ => ?_, fun h => absurd (show (0 : Int32) = 0 from rfl) h⟩
    apply hV; apply hV; apply hV
    refine ⟨by unfold vp_in; decide, ?_⟩
    apply hV; apply hV; apply hV; apply hV
    refine ⟨fun _ => ?_, fun h => absurd (lg_self _) h⟩
    apply hV
    exact next _ q _ N _ _ hq (by omega) (by omega) (rt_35 hq hR _)
theorem rt_oper {t N q e : Nat} {I : am_I} {op v : Int32} (hq : q < 2) (h : RT t N q I) (he : e < 20) (h30 : I 21 30 = nI e) (hok : ∃ d, d ≤ 10 ∧ op = nI d ∧ (d = 1 → ∃ p, p < 8 ∧ v = nI p)) :
    RT (t + 1) N q (am_ui (am_ui (am_ui (am_ui (am_ui (am_ui (am_ui I 16 e op) 17 e v) 15 0 (nI (e + 1))) 21 35 0) 36 e op) 37 e v) 21 30 (nI (e + 1))) := by
  have xa : ∀ k, ¬ (k = 15 ∨ k = 16 ∨ k = 17 ∨ k = 21 ∨ k = 36 ∨ k = 37) → (am_ui (am_ui (am_ui (am_ui (am_ui (am_ui (am_ui I 16 e op) 17 e v) 15 0 (nI (e + 1))) 21 35 0) 36 e op) 37 e v) 21 30 (nI (e + 1))) k = I k := fun k hk => by
    rw [am_ui_ne _ _ _ (by omega), am_ui_ne _ _ _ (by omega), am_ui_ne _ _ _ (by omega), am_ui_ne _ _ _ (by omega), am_ui_ne _ _ _ (by omega), am_ui_ne _ _ _ (by omega), am_ui_ne _ _ _ (by omega)]
  have xf : ∀ a, a ≠ 35 → a ≠ 30 → (am_ui (am_ui (am_ui (am_ui (am_ui (am_ui (am_ui I 16 e op) 17 e v) 15 0 (nI (e + 1))) 21 35 0) 36 e op) 37 e v) 21 30 (nI (e + 1))) 21 a = I 21 a := fun a h1 h2 => by
    rw [am_ui_eq, pb_upd, if_neg h2, am_ui_ne _ _ _ (by omega), am_ui_ne _ _ _ (by omega), am_ui_eq, pb_upd, if_neg h1]
    rfl
  obtain ⟨h1, ⟨r, h2⟩, h3, e', h4, h5, h6, h7⟩ := h
  have ee : e' = e := (nI_eq (by omega) (by omega)).1 (h5.symm.trans h30)
  subst ee
  refine ⟨RK_t (RK_cells h1 (fun k hk => xa k (by omega)) (fun k k1 k2 => xa k (by omega)) (fun a ha => xf a (by omega) (by omega))) (by omega), ⟨r, RR_c2 h2 (fun k hk => xa k (by omega)) (fun k k1 k2 => xa k (by omega)) (xf 20 (by omega) (by omega))⟩, RU_c h3 hq rfl (fun k k1 k2 => xa k (by omega)) rfl (xf 26 (by omega) (by omega)), e' + 1, by omega, rfl, rfl, fun a ha => ?_⟩
  show upd (I 36) e' op a = upd (I 16) e' op a ∧ upd (I 37) e' v a = upd (I 17) e' v a ∧ ∃ d, d ≤ 10 ∧ upd (I 16) e' op a = nI d ∧ (d = 1 → ∃ p, p < 8 ∧ upd (I 17) e' v a = nI p)
  simp only [pb_upd]
  by_cases e9 : a = e'
  · simp only [if_pos e9]
    exact ⟨trivial, trivial, hok⟩
  · simp only [if_neg e9]
    exact h7 a (by omega)
theorem cm_opok_n {op v : Int32} (h : cm_opok op v = true) : ∃ d, d ≤ 10 ∧ op = nI d ∧ (d = 1 → ∃ p, p < 8 ∧ v = nI p) := by
  simp only [cm_opok, Bool.and_eq_true, Bool.not_eq_true', decide_eq_false_iff_not, decide_eq_true_eq] at h
  obtain ⟨d, hd, e⟩ := nI_of2 (M := 10) (n := 10) (by decide) h.1.1 h.1.2
  refine ⟨d, hd, e, fun e1 => ?_⟩
  have h2 := h.2
  simp only [Bool.or_eq_true, Bool.not_eq_true', decide_eq_false_iff_not] at h2
  rcases h2 with h2 | h2
  · exact absurd (by rw [e, e1]; rfl) h2
  · exact pl_of_in (cs_reg_in h2)
theorem law_operation {sc : am_S} {C : Nat → am_T} {k N q n : Nat} {J : am_J} {K : am_K} {V : am_W} {I : am_I} (h15 : am_has C 15 T_mthrown) (h97 : am_has C 97 T_La_operation) (h46 : am_has C 46 T_moperation) (hV : am_closed sc C tb_La_law V K) (hk : k < 512) (hN : N ≤ 100 * k) (hq : q < 2) (hn : 1 ≤ n) (hR : RT k N q I) (hs : ∀ a, a ≤ 4 → vp_in (nI (5 * k) + nI a) sc.1) (next : law_nx V k N n) : V 550 [(0, .inr (.inr (some 900))), (1, .inr (.inr (some 0))), (2, .inr (.inr (some 21))), (3, .inr (.inr (some 39))), (4, .inl (nI (5 * k)))] [] I (am_p0 q) J n := by
  obtain ⟨e, u1, u2, u3, u4⟩ := hR.2.2.2
  apply hV
  apply hV; apply hV; apply hV; apply hV; apply hV
  refine ⟨hs 1 (by omega), ?_⟩
  apply hV; apply hV; apply hV; apply hV; apply hV
  refine ⟨hs 2 (by omega), ?_⟩
  apply hV; apply hV
  generalize ef : sc.2 (nI (5 * k) + 1).toNatClampNeg = op
  generalize er : sc.2 (nI (5 * k) + 2).toNatClampNeg = v
  have eq := op_eq op v
  refine h97 _ _ _ _ _ _ ⟨rfl, rfl, fun K' hK' => ⟨rfl, ⟨_, rfl⟩, fun c => ?_, fun c c8 => ?_, fun c c8 => ?_⟩⟩
  · refine ⟨n - 1, by omega, hK' _ _ _ _ _ ?_⟩
    show V 567 [(0, .inr (.inr (some 900))), (1, .inr (.inr (some 0))), (2, .inr (.inr (some 21))), (3, .inr (.inr (some 39))), (4, .inl (nI (5 * k)))] [.inl 1] I (am_p0 q) J (n - 1)
    apply hV; apply hV
    apply hV; apply hV; apply hV; apply hV; apply hV
    refine ⟨hs 1 (by omega), ?_⟩
    apply hV; apply hV; apply hV; apply hV; apply hV
    refine ⟨hs 2 (by omega), ?_⟩
    apply hV
    refine ⟨rfl, ?_⟩
    rw [ef, er]
    refine h46 _ _ _ _ _ _ ⟨rfl, ⟨_, rfl⟩, e, u1, u2, fun _ => ?_, fun g => absurd (c.symm.trans (eq.trans g)) (by decide), fun g => absurd (c.symm.trans (eq.trans g)) (by decide)⟩
    apply hV; apply hV
    apply hV
    refine ⟨rfl, ?_⟩
    refine h15 _ _ _ _ _ _ ⟨rfl, ?_⟩
    apply hV
    apply hV
    refine ⟨fun _ => ?_, fun h => absurd rfl h⟩
    apply hV; apply hV
    refine ⟨fun h => absurd h (by decide), fun _ => ?_⟩
    apply hV
    exact next _ q _ N _ _ hq (by omega) (by omega) (rt_35 hq hR _)
  · have e8 : e = 20 := (nI_eq (by omega) (by omega)).1 (u3.symm.trans c8)
    refine ⟨n - 1, by omega, hK' _ _ _ _ _ ?_⟩
    show V 567 [(0, .inr (.inr (some 900))), (1, .inr (.inr (some 0))), (2, .inr (.inr (some 21))), (3, .inr (.inr (some 39))), (4, .inl (nI (5 * k)))] [.inl 2] I (am_p0 q) J (n - 1)
    apply hV; apply hV
    apply hV; apply hV; apply hV; apply hV; apply hV
    refine ⟨hs 1 (by omega), ?_⟩
    apply hV; apply hV; apply hV; apply hV; apply hV
    refine ⟨hs 2 (by omega), ?_⟩
    apply hV
    refine ⟨rfl, ?_⟩
    rw [ef, er]
    refine h46 _ _ _ _ _ _ ⟨rfl, ⟨_, rfl⟩, e, u1, u2, fun g => absurd (c.symm.trans (eq.trans g)) (by decide), fun _ _ => ?_, fun _ g => absurd g (by omega)⟩
    apply hV; apply hV
    apply hV
    refine ⟨rfl, ?_⟩
    refine h15 _ _ _ _ _ _ ⟨rfl, ?_⟩
    apply hV
    apply hV
    refine ⟨fun _ => ?_, fun h => absurd rfl h⟩
    apply hV; apply hV
    refine ⟨fun h => absurd h (by decide), fun _ => ?_⟩
    apply hV
    exact next _ q _ N _ _ hq (by omega) (by omega) (rt_35 hq hR _)
  · have e8 : e < 20 := Nat.lt_of_le_of_ne u1 (fun e9 => c8 (by rw [u3, e9]; rfl))
    rw [u3, nI_clamp (by omega), nI_1]
    refine ⟨nI_in (by omega) (by omega), hK' _ _ _ _ _ ?_⟩
    show V 567 [(0, .inr (.inr (some 900))), (1, .inr (.inr (some 0))), (2, .inr (.inr (some 21))), (3, .inr (.inr (some 39))), (4, .inl (nI (5 * k)))] [.inl 0] (am_ui (am_ui (am_ui I 16 e op) 17 e v) 15 0 (nI (e + 1))) (am_p0 q) (am_uj J 39 0 (nI (e + 1)).toInt64) n
    apply hV; apply hV
    apply hV; apply hV; apply hV; apply hV; apply hV
    refine ⟨hs 1 (by omega), ?_⟩
    apply hV; apply hV; apply hV; apply hV; apply hV
    refine ⟨hs 2 (by omega), ?_⟩
    apply hV
    refine ⟨rfl, ?_⟩
    rw [ef, er]
    refine h46 _ _ _ _ _ _ ⟨rfl, ⟨_, rfl⟩, e, u1, u2, fun g => absurd (c.symm.trans (eq.trans g)) (by decide), fun _ g => absurd g (by omega), fun _ _ => ?_⟩
    apply hV; apply hV
    apply hV
    refine ⟨rfl, ?_⟩
    refine h15 _ _ _ _ _ _ ⟨rfl, ?_⟩
    apply hV
    apply hV
    refine ⟨fun _ => ?_, fun h => absurd rfl h⟩
    apply hV; apply hV
    refine ⟨fun _ => ?_, fun h => absurd (show (0 : Int32) = 0 from rfl) h⟩
    apply hV; apply hV; apply hV
    refine ⟨by unfold vp_in; decide, ?_⟩
    apply hV; apply hV; apply hV; apply hV
    refine ⟨fun _ => ?_, fun h => absurd (lg_self _) h⟩
    apply hV
    exact next _ q _ N _ _ hq (by omega) (by omega) (rt_oper hq hR e8 u2 (cm_opok_n c))
