/-! The reference: answered, held against the stub's receive and the way back. -/
theorem RB_cells {m : Nat} {G G' I I' : am_I} (h : RB m G I) (g4 : G' 4 1 = G 4 1) (g6 : G' 6 = G 6) (g7 : G' 7 = G 7) (i4 : I' 21 4 = I 21 4) (i24 : I' 24 = I 24) (i25 : I' 25 = I 25) : RB m G' I' := by
  unfold RB at h ⊢
  rw [g4, g6, g7, i4, i24, i25]
  exact h
def okk (kind a : Int32) : Prop := kind = 8 ∨ (kind = 0 ∧ cs_reg (a &&& 255) = true) ∨ (kind = 2 ∧ cs_adr (a &&& 255) = true)
theorem cm_ex_46 (w : Int32) (G : am_I) (a : Nat) : (cm_ex w G).2 4 a = G 4 a := congrFun (cm_ex_oth w G (by omega) (by omega) (by omega)) a
theorem cm_run_4 (k : Nat) (w : Int32) (G : am_I) (a : Nat) : (cm_run k w G).2 4 a = G 4 a := congrFun (cm_run_oth k w G (by omega) (by omega) (by omega)) a
theorem cm_perf_45 (kind a v : Int32) (G : am_I) : (cm_perf kind a v G).2 4 5 = G 4 5 := by
  have key : ∀ r, r = cm_perf kind a v G → r.2 4 5 = G 4 5 := by
    intro r hr
    unfold cm_perf at hr
    repeat' split at hr
    all_goals subst hr
    all_goals first
      | rfl
      | exact cm_ex_46 _ _ _
      | exact cm_run_4 _ _ _ _
  exact key _ rfl
theorem cm_perf_46 (kind a v : Int32) (G : am_I) (h : G 4 6 = 0) : (cm_perf kind a v G).2 4 6 = 0 ∨ (cm_perf kind a v G).2 4 6 = 1 := by
  have key : ∀ r, r = cm_perf kind a v G → r.2 4 6 = 0 ∨ r.2 4 6 = 1 := by
    intro r hr
    unfold cm_perf at hr
    repeat' split at hr
    all_goals subst hr
    all_goals first
      | exact Or.inr rfl
      | exact Or.inl h
      | exact Or.inl ((cm_ex_46 _ _ _).trans h)
      | exact Or.inl ((cm_run_4 _ _ _ _).trans h)
  exact key _ rfl
theorem perf_ok {kind a v : Int32} {G : am_I} (h : G 4 6 = 0) (ho : okk kind a) : (cm_perf kind (a &&& 255) v G).2 4 6 = 0 := by
  unfold cm_perf
  rcases ho with rfl | ⟨rfl, h1⟩ | ⟨rfl, h1⟩
  · rw [if_neg (by decide), if_neg (by decide), if_neg (by decide), if_neg (by decide), if_neg (by decide), if_neg (by decide), if_neg (by decide), if_neg (by decide), if_pos rfl]
    exact h
  · rw [if_pos rfl, h1]
    exact h
  · rw [if_neg (by decide), if_neg (by decide), if_pos rfl, h1]
    exact h
def agK (I I' : am_I) : Prop := (∀ k, ¬ (21 ≤ k ∧ k ≤ 28) → I' k = I k) ∧ ∀ a, 20 ≤ a → I' 21 a = I 21 a
theorem agK_refl (I : am_I) : agK I I := ⟨fun _ _ => rfl, fun _ _ => rfl⟩
theorem agK_trans {I X Y : am_I} (h : agK I X) (h' : agK X Y) : agK I Y := ⟨fun k hk => (h'.1 k hk).trans (h.1 k hk), fun a ha => (h'.2 a ha).trans (h.2 a ha)⟩
/-- what an answer brings: x what the class has behind it -/
def Ran (num kind a : Int32) (w : Nat) (G I : am_I) (x : Int32 × am_I) (Y : am_I) : Prop :=
  ∃ m, RX m (w - 1) x.2 Y ∧ Y 21 7 = num ∧ (okk kind a → Y 21 8 = 0) ∧ (x.1 = 1 → eqn 7 (Y 27) (x.2 11) ∧ x.2 11 0 = num ∧ x.2 11 1 = Y 21 8) ∧ (x.1 = 0 ∨ x.1 = 1) ∧ agK I Y ∧ x.2 9 = G 9 ∧ x.2 8 2 = G 8 2 ∧ (∀ k, k < 8 → Y 28 k = I 28 k) ∧ Y 21 14 = I 21 14
def T_manswered : am_T := fun as I P J n K => match as with
  | [.inr (.inr (some o))] => o = 21 ∧ (∃ q, P = am_p0 q) ∧ ∃ G m w num kind a v, RX m w G I ∧ eqn 8 (I 27) (rq num kind a v) ∧ eqn 8 (G 11) (rq num kind a v) ∧ (∃ c, c < 256 ∧ num = nI c) ∧ (∃ d, d ≤ 9 ∧ kind = nI d) ∧ (I 21 7 = num → okk kind a → I 21 8 = 0) ∧
      ∀ Y, Ran num kind a w G I (cm_c7 G) Y → K (.inl (some (.inl (cm_c7 G).1))) Y P J n
  | _ => False
/-- from where the request is done -/
theorem ok_mans_tail {sc : am_S} {C : Nat → am_T} (h29 : am_has C 29 T_mput) (h30 : am_has C 30 T_msum) (h32 : am_has C 32 T_marrives) {q n m w : Nat} {num kind a : Int32} {J : am_J} {K : am_K} {V : am_W} (hV : am_closed sc C tb_Mo_answered V K) {G H I X : am_I}
    (x1 : RM H X) (x2 : RB m H X) (x3 : RA H X) (x4 : RF w H X) (x5 : RC H X) (h7 : X 21 7 = num) (h8 : okk kind a → X 21 8 = 0) (hI : agK I X) (h9 : H 9 = G 9) (h82 : H 8 2 = G 8 2) (h28 : X 28 = I 28) (h14 : X 21 14 = I 21 14)
    (hK : ∀ Y, Ran num kind a w G I (cm_car7 (am_ui H 8 4 (H 8 4 + 1))) Y → K (.inl (some (.inl (cm_car7 (am_ui H 8 4 (H 8 4 + 1))).1))) Y (am_p0 q) J n) :
    V 44 [(0, .inr (.inr (some 21)))] [] X (am_p0 q) J n := by
  have hw := x4.1
  have ew := x4.2.1
  have fin : ∀ Z : am_I, eqn 7 (Z 27) (an (X 21 7) (X 21 8) (X 21 9)) → Z 28 = va_cpy (Z 27) (X 28) 0 8 7 → Z 21 = upd (X 21) 17 (X 21 17 + 1) → (∀ k, ¬ (k = 21 ∨ k = 27 ∨ k = 28) → Z k = X k) → ((mo_ar7 w Z).1 = 0 ∨ (mo_ar7 w Z).1 = 1) ∧ K (.inl (some (.inl (mo_ar7 w Z).1))) (mo_ar7 w Z).2 (am_p0 q) J n := by
    intro Z z27 z28 z21 zo
    have zf : ∀ b, b ≠ 17 → Z 21 b = X 21 b := fun b hb => by rw [z21, pb_upd, if_neg hb]
    have g5 : eqn 7 (H 5) (an (X 21 7) (X 21 8) (X 21 9)) := x3.2.1
    have e5 : am_ui H 8 4 (H 8 4 + 1) 5 = H 5 := rfl
    have hF : RF w (am_ui H 8 4 (H 8 4 + 1)) Z := RF_G x4 rfl rfl rfl (zf 10 (by omega)) (zo 26 (by omega))
    have hr := rel_car7 hF (eqn_trans z27 (eqn_symm g5)) (byt_eq g5 (an_byt x3.2.2.1 x3.2.2.2)) (by
      show H 5 6 = pm_sum6 (H 5)
      rw [g5 6 (by omega), pm_sum6_eq (fun k hk => g5 k (by omega))]
      exact an_sum _ _ _) (by rw [zf 18 (by omega)]; exact x5.2.2.2)
    obtain ⟨y1, y2, y3, y4, y5, -, y7, y8⟩ := hr
    have hRZ : RX m w (am_ui H 8 4 (H 8 4 + 1)) Z := by
      refine ⟨RM_cells x1 rfl rfl rfl (zo 22 (by omega)) (zo 23 (by omega)) (zf 2 (by omega)) (zf 3 (by omega)), RB_cells x2 rfl rfl rfl (zf 4 (by omega)) (zo 24 (by omega)) (zo 25 (by omega)), RA_cells x3 rfl rfl (zf 7 (by omega)) (zf 8 (by omega)) (zf 9 (by omega)), hF, ⟨?_, ?_, ?_, ?_⟩, ?_⟩
      · rw [zf 15 (by omega)]; exact x5.1
      · rw [zf 16 (by omega)]; exact x5.2.1
      · rw [z21]
        show X 21 17 + 1 = H 8 4 + 1
        rw [x5.2.2.1]
      · rw [zf 18 (by omega)]; exact x5.2.2.2
      · intro k hk
        show Z 28 (8 + k) = H 5 k
        rw [z28]
        unfold va_cpy
        rw [if_pos (by omega), show 0 + (8 + k - 8) = k by omega, z27 k hk]
        exact (g5 k hk).symm
    have hR2 := RX_car hRZ y8 y7 y3 y4
    rw [y1]
    refine ⟨y2, hK _ ⟨m, hR2, ?_, ?_, ?_, y2, ⟨?_, ?_⟩, ?_, ?_, ?_, ?_⟩⟩
    · rw [y7.2 7 (by omega) (by omega), zf 7 (by omega)]; exact h7
    · intro ho
      rw [y7.2 8 (by omega) (by omega), zf 8 (by omega)]
      exact h8 ho
    · intro h1
      obtain ⟨r1, r2⟩ := y5 h1
      have r3 : eqn 7 ((cm_car7 (am_ui H 8 4 (H 8 4 + 1))).2 11) (an (X 21 7) (X 21 8) (X 21 9)) := eqn_trans r2 g5
      refine ⟨r1, (r3 0 (by omega)).trans h7, (r3 1 (by omega)).trans ?_⟩
      rw [y7.2 8 (by omega) (by omega), zf 8 (by omega)]
      rfl
    · intro k hk
      rw [y7.1 k (by omega), zo k (by omega)]
      exact hI.1 k hk
    · intro b hb
      rw [y7.2 b (by omega) (by omega), zf b (by omega)]
      exact hI.2 b hb
    · rw [y8.1 9 (by omega) (by omega)]
      exact h9
    · rw [y8.2 2 (by omega) (by omega) (by omega)]
      exact h82
    · intro k hk
      rw [y7.1 28 (by omega), z28, ← h28]
      unfold va_cpy
      rw [if_neg (by omega)]
    · rw [y7.2 14 (by omega) (by omega), zf 14 (by omega)]
      exact h14
  have lp : ∀ (d j : Nat) (Z : am_I), j + d = 7 → eqn 7 (Z 27) (an (X 21 7) (X 21 8) (X 21 9)) → Z 28 = va_cpy (Z 27) (X 28) 0 8 j → Z 21 = X 21 → (∀ k, ¬ (k = 21 ∨ k = 27 ∨ k = 28) → Z k = X k) → V 88 [(0, .inr (.inr (some 21))), (1, .inl (nI j))] [] Z (am_p0 q) J n := by
    intro d
    induction d with
    | zero =>
      intro j Z hj z27 z28 z21 zo
      have hj' : j = 7 := by omega
      subst hj'
      obtain ⟨hb, hK3⟩ := fin (am_ui Z 21 17 (Z 21 17 + 1)) z27 z28 (by rw [am_ui_eq, z21]) (fun k hk => by rw [am_ui_ne _ _ _ (by omega)]; exact zo k hk)
      have ez : Z 21 10 = nI w := by rw [z21]; exact ew
      apply hV; apply hV; apply hV
      refine ⟨fun h => ?_, fun h => absurd (show nI 7 ≤ nI 7 from nI_le (by omega) (by omega)) h⟩
      apply hV; apply hV; apply hV
      refine ⟨rfl, ?_⟩
      apply hV; apply hV; apply hV
      refine ⟨rfl, ?_⟩
      apply hV; apply hV; apply hV
      refine ⟨rfl, ?_⟩
      refine h32 _ _ _ _ _ _ ⟨rfl, ⟨_, rfl⟩, w, hw, ez, Or.inr ⟨rfl, ?_⟩⟩
      apply hV
      exact ⟨hb, hK3⟩
    | succ d ih =>
      intro j Z hj z27 z28 z21 zo
      have ej : (nI j).toNatClampNeg = j := nI_clamp (by omega)
      have ej8 : (8 + nI j).toNatClampNeg = 8 + j := by
        show (nI 8 + nI j).toNatClampNeg = _
        rw [nI_add]
        exact nI_clamp (by omega)
      have ij8 : vp_in (8 + nI j) 15 := by
        show vp_in (nI 8 + nI j) 15
        rw [nI_add]
        exact nI_in (by omega) (by omega)
      apply hV; apply hV; apply hV
      refine ⟨fun h => absurd h (show ¬ nI 7 ≤ nI j from nI_ge (by omega) (by omega)), fun h => ?_⟩
      apply hV; apply hV
      refine ⟨rfl, ?_⟩
      apply hV; apply hV; apply hV; apply hV; apply hV
      refine ⟨rfl, ?_⟩
      apply hV; apply hV
      refine ⟨show vp_in (nI j) 8 from nI_in (by omega) (by omega), ?_⟩
      rw [ej]
      apply hV
      refine ⟨ij8, ?_⟩
      rw [ej8]
      apply hV; apply hV
      show V 88 [(0, .inr (.inr (some 21))), (1, .inl (nI j + 1))] [] (am_ui Z 28 (8 + j) (Z 27 j)) (am_p0 q) J n
      rw [← nI_succ]
      refine ih (j + 1) _ (by omega) z27 ?_ z21 (fun k hk => ?_)
      · rw [am_ui_eq, z28]
        exact va_cpy_s (Z 27) (X 28) 8 j
      · rw [am_ui_ne _ _ _ (by omega)]
        exact zo k hk
  apply hV; apply hV
  refine ⟨rfl, ?_⟩
  apply hV; apply hV; apply hV
  refine ⟨rfl, ?_⟩
  apply hV
  refine ⟨by unfold vp_in; decide, ?_⟩
  apply hV; apply hV
  refine ⟨rfl, ?_⟩
  apply hV; apply hV; apply hV
  refine ⟨rfl, ?_⟩
  apply hV
  refine ⟨by unfold vp_in; decide, ?_⟩
  apply hV; apply hV; apply hV; apply hV
  refine ⟨rfl, ?_⟩
  apply hV
  refine ⟨rfl, ?_⟩
  refine h29 _ _ _ _ _ _ ⟨rfl, ⟨_, rfl⟩, Or.inl ⟨rfl, fun I2 h2 => ?_⟩⟩
  apply hV; apply hV
  refine ⟨rfl, ?_⟩
  apply hV; apply hV; apply hV; apply hV
  refine ⟨rfl, ?_⟩
  refine h30 _ _ _ _ _ _ ⟨rfl, ⟨_, rfl⟩, Or.inr ⟨rfl, ?_⟩⟩
  apply hV
  refine ⟨by unfold vp_in; decide, ?_⟩
  apply hV; apply hV
  refine lp 7 0 _ (by omega) ?_ ?_ ?_ (fun k hk => ?_)
  · show eqn 7 (upd (I2 27) 6 (pm_sum6 (I2 27))) _
    rw [h2.1]
    exact an_any (X 27) (X 21 7) (X 21 8) (X 21 9)
  · rw [va_cpy_0]
    show I2 28 = X 28
    exact h2.2 28 (by omega)
  · show I2 21 = X 21
    exact h2.2 21 (by omega)
  · rw [am_ui_ne _ _ _ (by omega), h2.2 k (by omega), am_ui_ne _ _ _ (by omega), am_ui_ne _ _ _ (by omega)]
theorem ok_manswered (sc : am_S) (C : Nat → am_T) (h28 : am_has C 28 T_mperform) (h29 : am_has C 29 T_mput) (h30 : am_has C 30 T_msum) (h31 : am_has C 31 T_mread) (h32 : am_has C 32 T_marrives) : am_ok sc C tb_Mo_answered T_manswered := by
  intro as I P J n K hT V hD hV
  unfold T_manswered at hT
  split at hT
  · rename_i o
    obtain ⟨rfl, ⟨q, rfl⟩, G, m, w, num, kind, a, v, hX, h27, h11, hnum, hkind, hz, hK⟩ := hT
    show V 0 [(0, .inr (.inr (some 21)))] [] I (am_p0 q) J n
    have i0 : I 27 0 = num := h27 0 (by omega)
    have i1 : I 27 1 = kind := h27 1 (by omega)
    have i2 : I 27 2 = a &&& 255 := h27 2 (by omega)
    have g0 : G 11 0 = num := h11 0 (by omega)
    have g1 : G 11 1 = kind := h11 1 (by omega)
    have g2 : G 11 2 = a &&& 255 := h11 2 (by omega)
    have g3 : pm_word (I 27) 3 = pm_word (G 11) 3 := pm_word_eq3 (eqn_trans h27 (eqn_symm h11))
    have hRA := hX.2.2.1
    apply hV; apply hV
    refine ⟨rfl, ?_⟩
    apply hV; apply hV
    refine ⟨by unfold vp_in; decide, ?_⟩
    apply hV; apply hV
    refine ⟨rfl, ?_⟩
    apply hV
    refine ⟨fun h => ?_, fun h => ?_⟩
    · have h' : I 27 0 = I 21 7 := h
      have e : cm_c7 G = cm_car7 (am_ui G 8 4 (G 8 4 + 1)) := by
        unfold cm_c7 cm_rec
        rw [if_pos (by rw [g0, ← i0, h', hRA.1])]
      rw [e] at hK
      have h7 : I 21 7 = num := by rw [← h', i0]
      exact ok_mans_tail h29 h30 h32 hV (G := G) (I := I) hX.1 hX.2.1 hX.2.2.1 hX.2.2.2.1 hX.2.2.2.2.1 h7 (hz h7) (agK_refl I) rfl rfl rfl rfl hK
    · have h' : ¬ I 27 0 = I 21 7 := h
      have e : cm_rec G = cm_ans (cm_perf kind (a &&& 255) (pm_word (G 11) 3) (am_ui (am_ui G 4 5 num) 4 6 0)).2 (cm_perf kind (a &&& 255) (pm_word (G 11) 3) (am_ui (am_ui G 4 5 num) 4 6 0)).1 := by
        unfold cm_rec
        rw [if_neg (by rw [g0, ← i0, hRA.1]; exact h'), g0, g1, g2]
      have e' : cm_c7 G = cm_car7 (am_ui (cm_rec G) 8 4 (cm_rec G 8 4 + 1)) := rfl
      rw [e', e] at hK
      clear e e'
      apply hV; apply hV; apply hV
      refine ⟨rfl, ?_⟩
      apply hV; apply hV
      refine ⟨by unfold vp_in; decide, ?_⟩
      apply hV
      refine ⟨rfl, ?_⟩
      apply hV; apply hV; apply hV
      refine ⟨rfl, ?_⟩
      apply hV; apply hV
      refine ⟨by unfold vp_in; decide, ?_⟩
      apply hV; apply hV
      refine ⟨rfl, ?_⟩
      apply hV; apply hV
      refine ⟨by unfold vp_in; decide, ?_⟩
      apply hV; apply hV; apply hV
      refine ⟨rfl, ?_⟩
      refine h31 _ _ _ _ _ _ ⟨rfl, ⟨_, rfl⟩, Or.inr ⟨rfl, ?_⟩⟩
      show V 41 [(0, .inr (.inr (some 21)))] [.inl (pm_word (I 27) 3), .inl (I 27 2), .inl (I 27 1), .inr (.inr (some 21))] (am_ui I 21 7 (I 27 0)) (am_p0 q) J n
      rw [g3, i0, i1, i2]
      obtain ⟨x1, x2, x3, x4, x5, x6⟩ := hX
      obtain ⟨b255, hb255, eb255⟩ := byte_and a
      apply hV
      refine ⟨rfl, ?_⟩
      have hG6 : (am_ui (am_ui G 4 5 num) 4 6 0) 4 6 = 0 := rfl
      refine h28 _ _ _ _ _ _ ⟨rfl, ⟨_, rfl⟩, am_ui (am_ui G 4 5 num) 4 6 0, m, ⟨x1.1, x1.2.1, x1.2.2.1, x1.2.2.2⟩, ⟨x2.1, x2.2.1, x2.2.2.1, x2.2.2.2⟩, hG6, ⟨b255, by omega, eb255⟩, hkind, fun X hpf => ?_⟩
      have p45 := cm_perf_45 kind (a &&& 255) (pm_word (G 11) 3) (am_ui (am_ui G 4 5 num) 4 6 0)
      have p46 := cm_perf_46 kind (a &&& 255) (pm_word (G 11) 3) (am_ui (am_ui G 4 5 num) 4 6 0) hG6
      have pok := perf_ok (kind := kind) (a := a) (v := pm_word (G 11) 3) hG6
      have poth : ∀ k, k ≠ 1 → k ≠ 2 → k ≠ 3 → k ≠ 4 → k ≠ 6 → k ≠ 7 → (cm_perf kind (a &&& 255) (pm_word (G 11) 3) (am_ui (am_ui G 4 5 num) 4 6 0)).2 k = G k := fun k k1 k2 k3 k4 k6 k7 => (cm_perf_oth _ _ _ _ k1 k2 k3 k4 k6 k7).trans ((am_ui_ne _ _ _ k4).trans (am_ui_ne _ _ _ k4))
      unfold mo_pf at hpf
      generalize cm_perf kind (a &&& 255) (pm_word (G 11) 3) (am_ui (am_ui G 4 5 num) 4 6 0) = r at hK hpf p45 p46 pok poth
      obtain ⟨y, H⟩ := r
      obtain ⟨m', s, z, X', rfl, f1, f2, f3, f4, f5⟩ := hpf
      have f1 : RM H X' := f1
      have f2 : RB m' H X' := f2
      have f3 : H 4 6 = s := f3
      have f4 : y = if s = 0 then z else 0 := f4
      have p45 : H 4 5 = num := p45
      have p46 : s = 0 ∨ s = 1 := by rw [← f3]; exact p46
      have pok : okk kind a → s = 0 := fun ho => by rw [← f3]; exact pok ho
      have poth : ∀ k, k ≠ 1 → k ≠ 2 → k ≠ 3 → k ≠ 4 → k ≠ 6 → k ≠ 7 → H k = G k := poth
      have hK : ∀ Y, Ran num kind a w G I (cm_car7 (am_ui (cm_ans H y) 8 4 (cm_ans H y 8 4 + 1))) Y → K (.inl (some (.inl (cm_car7 (am_ui (cm_ans H y) 8 4 (cm_ans H y 8 4 + 1))).1))) Y (am_p0 q) J n := hK
      have x7 : X' 21 7 = num := f5.2 7 (by omega) (by omega)
      have xf : ∀ b, ¬ (2 ≤ b ∧ b ≤ 4) → ¬ (7 ≤ b ∧ b ≤ 9) → X' 21 b = I 21 b := fun b hb1 hb2 => by
        rw [f5.2 b hb1 (by omega), am_ui_eq, pb_upd, if_neg (by omega)]
      have xk : ∀ k, ¬ (21 ≤ k ∧ k ≤ 25) → X' k = I k := fun k hk => by
        rw [f5.1 k hk, am_ui_ne _ _ _ (by omega)]
      have xn : ∀ b, b ≠ 8 → b ≠ 9 → mo_an X' s z 21 b = X' 21 b := fun b hb1 hb2 => by
        unfold mo_an
        rw [am_ui_eq, pb_upd, if_neg hb2, am_ui_eq, pb_upd, if_neg hb1]
      have ck : ∀ k, k ≠ 5 → cm_ans H y k = H k := fun k hk => cm_row_ne _ _ hk
      have c5 : eqn 7 (cm_ans H y 5) (an num s y) := by
        have : cm_ans H y 5 = upd (pm_put (upd (upd (H 5) 0 (H 4 5)) 1 (H 4 6)) 2 y) 6 (pm_sum6 (pm_put (upd (upd (H 5) 0 (H 4 5)) 1 (H 4 6)) 2 y))   := by unfold cm_ans; exact cm_row_eq _ _ _
        rw [this, p45, f3]
        exact an_any (H 5) num s y
      have a8 : mo_an X' s z 21 8 = s := rfl
      have a9 : mo_an X' s z 21 9 = y := f4.symm
      have a7 : mo_an X' s z 21 7 = num := x7
      show V 44 [(0, .inr (.inr (some 21)))] [] (mo_an X' s z) (am_p0 q) J n
      refine ok_mans_tail (m := m') (w := w) (kind := kind) (a := a) h29 h30 h32 hV (G := G) (H := cm_ans H y) (I := I) ?_ ?_ ?_ ?_ ?_ a7 (fun ho => a8.trans (pok ho)) ⟨fun k hk => ?_, fun b hb => ?_⟩ ?_ ?_ ?_ ?_ hK
      · exact RM_cells (RM_an f1 s z) (ck 1 (by omega)) (ck 2 (by omega)) (ck 3 (by omega)) rfl rfl rfl rfl
      · exact RB_cells (RB_an f2 s z) (by rw [ck 4 (by omega)]) (ck 6 (by omega)) (ck 7 (by omega)) rfl rfl rfl
      · refine ⟨?_, ?_, ?_, ?_⟩
        · rw [ck 4 (by omega), p45, a7]
        · rw [a7, a8, a9]
          exact c5
        · rw [a7]; exact hnum
        · rw [a8]; exact p46
      · refine RF_G x4 ?_ ?_ ?_ ?_ ?_
        · rw [ck 8 (by omega), poth 8 (by omega) (by omega) (by omega) (by omega) (by omega) (by omega)]
        · rw [ck 8 (by omega), poth 8 (by omega) (by omega) (by omega) (by omega) (by omega) (by omega)]
        · rw [ck 10 (by omega), poth 10 (by omega) (by omega) (by omega) (by omega) (by omega) (by omega)]
        · rw [xn 10 (by omega) (by omega)]; exact xf 10 (by omega) (by omega)
        · exact xk 26 (by omega)
      · have g8 : cm_ans H y 8 = G 8 := by rw [ck 8 (by omega), poth 8 (by omega) (by omega) (by omega) (by omega) (by omega) (by omega)]
        refine ⟨?_, ?_, ?_, ?_⟩
        · rw [xn 15 (by omega) (by omega), xf 15 (by omega) (by omega), g8]; exact x5.1
        · rw [xn 16 (by omega) (by omega), xf 16 (by omega) (by omega), g8]; exact x5.2.1
        · rw [xn 17 (by omega) (by omega), xf 17 (by omega) (by omega), g8]; exact x5.2.2.1
        · rw [xn 18 (by omega) (by omega), xf 18 (by omega) (by omega), g8]; exact x5.2.2.2
      · unfold mo_an
        rw [am_ui_ne _ _ _ (by omega), am_ui_ne _ _ _ (by omega)]
        exact xk k (by omega)
      · rw [xn b (by omega) (by omega)]
        exact xf b (by omega) (by omega)
      · rw [ck 9 (by omega), poth 9 (by omega) (by omega) (by omega) (by omega) (by omega) (by omega)]
      · rw [ck 8 (by omega), poth 8 (by omega) (by omega) (by omega) (by omega) (by omega) (by omega)]
      · exact xk 28 (by omega)
      · rw [xn 14 (by omega) (by omega)]
        exact xf 14 (by omega) (by omega)
  · exact hT.elim
