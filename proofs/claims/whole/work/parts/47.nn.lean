/-! The reference: next, from its beginning. -/
theorem va_cpy_sh {f : Nat → Int32} {a i : Nat} (hi : i < 9) : upd (va_cpy f f a (a + 9) i) (a + 9 + i) (va_cpy f f a (a + 9) i (a + i)) = va_cpy f f a (a + 9) (i + 1) := by
  funext k
  rw [pb_upd]
  unfold va_cpy
  rw [if_neg (by omega : ¬ (a + 9 ≤ a + i ∧ a + i < a + 9 + i))]
  by_cases h : k = a + 9 + i
  · rw [if_pos h, if_pos (by omega)]
    congr 1
    omega
  · rw [if_neg h]
    by_cases h2 : a + 9 ≤ k ∧ k < a + 9 + i
    · rw [if_pos h2, if_pos (by omega)]
    · rw [if_neg h2, if_neg (by omega)]
theorem va_cpy_sh0 {f : Nat → Int32} {a b : Nat} : va_cpy f f a b 0 = f := by
  funext k
  unfold va_cpy
  rw [if_neg (by omega)]
theorem ok_mnext (sc : am_S) (C : Nat → am_T) (h41 : am_has C 41 T_mruleOf) (h42 : am_has C 42 T_mfetch) : am_ok sc C tb_Mo_next T_mnext := by
  intro as I P J n K hT V hD hV
  unfold T_mnext at hT
  split at hT
  · rename_i o
    obtain ⟨rfl, ⟨q0, rfl⟩, G, t, N, q, g, r, hq, hg, ht, hN, hR, hRR, h28, hW, hK1, hK2⟩ := hT
    show V 0 [(0, .inr (.inr (some 21)))] [] I (am_p0 q0) J n
    have ax : ∀ a, nI (9 * g) + nI a = nI (9 * g + a) := fun a => nI_add _ _
    apply hV; apply hV; apply hV
    refine ⟨rfl, ?_⟩
    rw [h28]
    apply hV; apply hV
    show V 8 [(0, .inr (.inr (some 21)))] [.inl (nI (g + 1) - 1), .inl 9] I (am_p0 q0) J n
    rw [nI_pred]
    apply hV
    show V 9 [(0, .inr (.inr (some 21)))] [.inl (nI 9 * nI g)] I (am_p0 q0) J n
    rw [pk_mul]
    apply hV; apply hV; apply hV
    refine ⟨rfl, ?_⟩
    rw [h28]
    apply hV; apply hV
    refine ⟨fun h8 => ?_, fun h8 => ?_⟩
    · have g7 : g = 7 := by
        have := (nI_eq (a := g + 1) (b := 8) (by omega) (by omega)).1 h8
        omega
      apply hV; apply hV; apply hV; apply hV; apply hV
      refine ⟨fun h => absurd h (by decide), fun _ => ?_⟩
      apply hV; apply hV
      exact hK1 g7
    have hg7 : g < 7 := by
      have : g ≠ 7 := fun e => h8 (by rw [e]; rfl)
      omega
    have hK := hK2 hg7
    clear hK1 hK2
    obtain ⟨r1, r2, r3, r4, r5, r6⟩ := hRR
    apply hV; apply hV; apply hV
    refine ⟨rfl, ?_⟩
    apply hV; apply hV; apply hV
    show V 32 [(0, .inr (.inr (some 21))), (1, .inl (nI (9 * g)))] [.inl (nI (9 * g) + nI 8), .inr (.inr (some 35)), .inr (.inr (some 21))] I (am_p0 q0) J n
    rw [ax]
    apply hV
    refine ⟨show vp_in (nI (9 * g + 8)) 72 from nI_in (by omega) (by omega), ?_⟩
    rw [nI_clamp (by omega)]
    apply hV
    refine ⟨rfl, ?_⟩
    refine h41 _ _ _ _ _ _ ⟨rfl, ⟨_, rfl⟩, r, r1, r2, ?_⟩
    have ef := rel_find (G := G) (I := I) (G (56 + (8 * (1 - q) + g)) 8) r 0 (fun j hj => ⟨(r4 j (by omega)).1, (r4 j (by omega)).2.1⟩)
    have e8 : I 35 (9 * g + 8) = G (56 + (8 * (1 - q) + g)) 8 := hW g (Nat.le_refl g) 8 (by omega)
    rw [e8]
    unfold cm_caller at hK
    rw [ef] at hK
    cases em : mo_rf I (G (56 + (8 * (1 - q) + g)) 8) 0 r with
    | none =>
      rw [em] at hK
      apply hV; apply hV; apply hV
      refine ⟨fun h => absurd h (by decide), fun _ => ?_⟩
      apply hV; apply hV
      exact hK _ _ ⟨⟨N, Nat.le_refl N, by omega, hR⟩, agU_refl I, rfl, h28, hW⟩
    | some j =>
      have hj := mo_rf_lt em
      have hj : j < r := by omega
      rw [em] at hK
      have hK : ∀ s Y, Rnx t N q g I (cm_fill (8 * (1 - q) + g) (40 + j) 9 0 (cm_base (8 * (1 - q) + g) (40 + j) G)) s Y → K (.inl (some (.inl s))) Y (am_p0 q0) J n := hK
      clear ef em
      obtain ⟨-, -, rz, rs, -⟩ := r4 j hj
      have ij : vp_in (nI j) 8 := nI_in (by omega) (by omega)
      have ej : (nI j).toNatClampNeg = j := nI_clamp (by omega)
      have i72 : ∀ a, a < 72 → vp_in (nI a) 72 := fun a ha => nI_in ha (by omega)
      have cl : ∀ a, a < 72 → (nI a).toNatClampNeg = a := fun a ha => nI_clamp (by omega)
      -- behind the copying
      have after : ∀ (X : am_I) (ls : am_L), X 35 = va_cpy (I 35) (I 35) (9 * g) (9 * g + 9) 9 → (∀ k, k ≠ 35 → X k = I k) → V 76 ((0, .inr (.inr (some 21))) :: (1, .inl (nI (9 * g))) :: (2, .inl (nI j)) :: ls) [] X (am_p0 q0) J n := by
        intro X ls x35 xo
        apply hD 3
        show V 76 [(0, .inr (.inr (some 21))), (1, .inl (nI (9 * g))), (2, .inl (nI j))] [] X (am_p0 q0) J n
        have lo : ∀ a, a < 9 → X 35 (9 * g + a) = I 35 (9 * g + a) := by
          intro a ha
          rw [x35]
          unfold va_cpy
          rw [if_neg (by omega)]
        apply hV; apply hV
        refine ⟨rfl, ?_⟩
        apply hV; apply hV; apply hV
        show V 84 [(0, .inr (.inr (some 21))), (1, .inl (nI (9 * g))), (2, .inl (nI j))] [.inl (nI (9 * g) + nI 6), .inr (.inr (some 35))] X (am_p0 q0) J n
        rw [ax]
        apply hV
        refine ⟨i72 _ (by omega), ?_⟩
        rw [cl _ (by omega), lo 6 (by omega), hW g (Nat.le_refl g) 6 (by omega)]
        generalize hbt : G (56 + (8 * (1 - q) + g)) 6 = bt
        apply hV; apply hV; apply hV
        refine ⟨rfl, ?_⟩
        apply hV; apply hV; apply hV
        show V 94 [(0, .inr (.inr (some 21))), (1, .inl (nI (9 * g))), (2, .inl (nI j)), (3, .inl bt)] [.inl (nI (9 * g) + nI 15), .inr (.inr (some 35))] X (am_p0 q0) J n
        rw [ax]
        apply hV; apply hV; apply hV
        refine ⟨rfl, ?_⟩
        apply hV; apply hV
        refine ⟨ij, ?_⟩
        rw [ej]
        have x31 : X 31 j = G (40 + j) 2 := by rw [xo 31 (by omega)]; exact rz
        rw [x31]
        apply hV; apply hV
        refine ⟨i72 _ (by omega), ?_⟩
        rw [cl _ (by omega)]
        apply hV; apply hV
        refine ⟨rfl, ?_⟩
        apply hV; apply hV; apply hV
        show V 111 [(0, .inr (.inr (some 21))), (1, .inl (nI (9 * g))), (2, .inl (nI j)), (3, .inl bt)] [.inl (nI (9 * g) + nI 17), .inr (.inr (some 35))] (am_ui X 35 (9 * g + 15) (bt + G (40 + j) 2)) (am_p0 q0) J n
        rw [ax]
        apply hV; apply hV
        refine ⟨rfl, ?_⟩
        apply hV; apply hV; apply hV
        show V 119 [(0, .inr (.inr (some 21))), (1, .inl (nI (9 * g))), (2, .inl (nI j)), (3, .inl bt)] [.inl (nI (9 * g) + nI 7), .inr (.inr (some 35)), .inl (nI (9 * g + 17)), .inr (.inr (some 35))] (am_ui X 35 (9 * g + 15) (bt + G (40 + j) 2)) (am_p0 q0) J n
        rw [ax]
        apply hV
        refine ⟨i72 _ (by omega), ?_⟩
        rw [cl _ (by omega)]
        have e7 : am_ui X 35 (9 * g + 15) (bt + G (40 + j) 2) 35 (9 * g + 7) = G (56 + (8 * (1 - q) + g)) 7 := by
          rw [am_ui_eq, pb_upd, if_neg (by omega), lo 7 (by omega)]
          exact hW g (Nat.le_refl g) 7 (by omega)
        rw [e7]
        apply hV
        refine ⟨i72 _ (by omega), ?_⟩
        rw [cl _ (by omega)]
        -- the frame's beginning stands
        have hL : LN t N q g N G I (cm_base (8 * (1 - q) + g) (40 + j) G) (am_ui (am_ui X 35 (9 * g + 15) (bt + G (40 + j) 2)) 35 (9 * g + 17) (G (56 + (8 * (1 - q) + g)) 7)) := by
          have xag : agU I X := ⟨fun k h1 h2 => xo k h2, fun a _ _ _ => by rw [xo 21 (by omega)]⟩
          refine ⟨Nat.le_refl N, RK_o (RK_o (RK_cells hR (fun k hk => cm_base_oth G (by omega)) (fun k h1 h2 => xo k (by omega)) (fun a ha => by rw [xo 21 (by omega)])) (by omega) _ _) (by omega) _ _, agU_35 (agU_35 xag _ _) _ _, ?_, fun k h1 h2 => cm_base_oth G h2, fun p hp => ?_, fun i hi => ?_⟩
          · show X 21 28 = _
            rw [xo 21 (by omega)]
            exact h28
          · rw [am_ui_eq, pb_upd, am_ui_eq, pb_upd]
            unfold cm_base
            rw [am_ui_eq, pb_upd, am_ui_eq, pb_upd, am_cp_eq]
            by_cases p8 : p = 8
            · rw [if_pos (by omega), if_pos p8]
            · rw [if_neg (by omega), if_neg p8]
              by_cases p6 : p = 6
              · rw [if_pos (by omega), if_pos p6, hbt]
              · rw [if_neg (by omega), if_neg p6, x35]
                unfold va_cpy
                rw [if_pos (by omega), if_pos (by omega), show 9 * g + (9 * (g + 1) + p - (9 * g + 9)) = 9 * g + p by omega, show 0 + (p - 0) = p by omega]
                exact hW g (Nat.le_refl g) p hp
          · rw [am_ui_eq, pb_upd, if_neg (by omega), am_ui_eq, pb_upd, if_neg (by omega), x35]
            unfold va_cpy
            rw [if_neg (by omega)]
        generalize am_ui (am_ui X 35 (9 * g + 15) (bt + G (40 + j) 2)) 35 (9 * g + 17) (G (56 + (8 * (1 - q) + g)) 7) = Y at hL ⊢
        have eb8 : cm_base (8 * (1 - q) + g) (40 + j) G (40 + j + 8) 8 = G (48 + j) 8 := by
          rw [cm_base_oth G (by omega), show 40 + j + 8 = 48 + j by omega]
        have eb6 : cm_base (8 * (1 - q) + g) (40 + j) G (56 + (8 * (1 - q) + g)) 6 = bt := by
          rw [cm_base_oth G (by omega), hbt]
        generalize cm_base (8 * (1 - q) + g) (40 + j) G = H at hL hK eb8 eb6
        unfold cm_fill at hK
        rw [show cm_pl 0 = 8 from rfl, eb8, eb6] at hK
        have y32 : Y 32 j = G (48 + j) 8 := by rw [hL.2.2.1.1 32 (by omega) (by omega)]; exact rs
        have lp := fun Nc H' Y' hL' hNc hK' => mnx_loop (q0 := q0) (n := n) (J := J) h42 hD hV ht hN hq hg7 hj ⟨r1, r2, r3, r4, r5, r6⟩ hW hbt.symm 8 0 Nc H' Y' (by omega) hL' hNc hK'
        apply hV; apply hV
        refine ⟨rfl, ?_⟩
        apply hV; apply hV
        refine ⟨ij, ?_⟩
        rw [ej, y32]
        rcases r5 j (by omega) 8 (by omega) with e1 | ⟨c, hc, e1⟩
        · rw [e1]
          rw [if_pos e1] at hK
          apply hV
          refine ⟨fun h => absurd h (by decide), fun _ => ?_⟩
          apply hV; apply hV; apply hV; apply hV; apply hV
          exact lp N H Y hL (by omega) hK
        · rw [e1]
          rw [if_neg (by rw [e1]; intro h; have : ¬ nI c < 0 := nI_pos (by omega); rw [h] at this; exact this (by decide))] at hK
          rw [e1] at y32 hK
          apply hV
          refine ⟨fun _ => ?_, fun h => absurd (nI_pos' (by omega)) h⟩
          apply hV; apply hV; apply hV; apply hV
          refine ⟨rfl, ?_⟩
          apply hV; apply hV
          refine ⟨ij, ?_⟩
          rw [ej, y32]
          apply hV; apply hV; apply hV; apply hV; apply hV
          refine ⟨rfl, ?_⟩
          have epl : nI (9 * g) + 17 = nI (9 * (g + 1) + 8) := by
            show nI (9 * g) + nI 17 = _
            rw [nI_add]
            congr 1
          refine h42 _ _ _ _ _ _ ⟨rfl, ⟨_, rfl⟩, 9 * (g + 1) + 8, by omega, epl, fun ha => ?_, fun ha => ⟨H, t, N, 56 + (8 * (1 - q) + g + 1), 8, ht, by omega, hL.2.1, by omega, fun s Y' hf => ?_⟩⟩
          · simp only [ha] at hK
            apply hV; apply hV; apply hV
            exact mnx_exit hV (by decide) (mnx_no (by omega) hL hW hK)
          · simp only [ha] at hK
            obtain ⟨b, H', eg, hb1, hb2⟩ := LN_get (by omega) hg7 hL hf
            rw [show 56 + (8 * (1 - q) + g + 1) = 56 + ((8 * (1 - q) + g) + 1) from rfl] at eg
            rw [eg] at hK
            show V 150 [(0, .inr (.inr (some 21))), (1, .inl (nI (9 * g))), (2, .inl (nI j)), (3, .inl bt)] [.inl s] Y' (am_p0 q0) J n
            apply hV; apply hV; apply hV
            cases b with
            | true =>
              obtain ⟨rfl, hL'⟩ := hb1 rfl
              exact lp (N + 1) H' Y' hL' (by omega) hK
            | false =>
              obtain ⟨hs, hR', ha'⟩ := hb2 rfl
              exact mnx_exit (i := 0) hV (by rw [hs]; decide) (mnx_out hs ⟨by omega, by omega⟩ hR' ha' hK)
      have lp : ∀ (d i : Nat) (X : am_I), i + d = 9 → X 35 = va_cpy (I 35) (I 35) (9 * g) (9 * g + 9) i → (∀ k, k ≠ 35 → X k = I k) → V 45 [(0, .inr (.inr (some 21))), (1, .inl (nI (9 * g))), (2, .inl (nI j)), (3, .inl (nI i))] [] X (am_p0 q0) J n := by
        intro d
        induction d with
        | zero =>
          intro i X hi x35 xo
          have hi' : i = 9 := by omega
          subst hi'
          apply hV; apply hV; apply hV
          refine ⟨fun _ => after X _ x35 xo, fun h => absurd (show nI 9 ≤ nI 9 from nI_le (by omega) (by omega)) h⟩
        | succ d ih =>
          intro i X hi x35 xo
          apply hV; apply hV; apply hV
          refine ⟨fun h => absurd h (show ¬ nI 9 ≤ nI i from nI_ge (by omega) (by omega)), fun _ => ?_⟩
          apply hV; apply hV
          refine ⟨rfl, ?_⟩
          apply hV; apply hV; apply hV; apply hV; apply hV
          show V 61 [(0, .inr (.inr (some 21))), (1, .inl (nI (9 * g))), (2, .inl (nI j)), (3, .inl (nI i))] [.inl (nI (9 * g) + nI 9 + nI i), .inr (.inr (some 35))] X (am_p0 q0) J n
          rw [ax, nI_add]
          apply hV; apply hV
          refine ⟨rfl, ?_⟩
          apply hV; apply hV; apply hV
          show V 68 [(0, .inr (.inr (some 21))), (1, .inl (nI (9 * g))), (2, .inl (nI j)), (3, .inl (nI i))] [.inl (nI (9 * g) + nI i), .inr (.inr (some 35)), .inl (nI (9 * g + 9 + i)), .inr (.inr (some 35))] X (am_p0 q0) J n
          rw [ax]
          apply hV
          refine ⟨i72 _ (by omega), ?_⟩
          rw [cl _ (by omega)]
          apply hV
          refine ⟨i72 _ (by omega), ?_⟩
          rw [cl _ (by omega)]
          apply hV; apply hV
          show V 45 [(0, .inr (.inr (some 21))), (1, .inl (nI (9 * g))), (2, .inl (nI j)), (3, .inl (nI i + 1))] [] (am_ui X 35 (9 * g + 9 + i) (X 35 (9 * g + i))) (am_p0 q0) J n
          rw [← nI_succ]
          refine ih (i + 1) _ (by omega) ?_ (fun k hk => ?_)
          · rw [am_ui_eq, x35]
            exact va_cpy_sh (by omega)
          · rw [am_ui_ne _ _ _ hk]
            exact xo k hk
      apply hV; apply hV; apply hV
      refine ⟨fun _ => ?_, fun h => absurd (show (0 : Int32) ≤ nI j from nI_pos' (by omega)) h⟩
      apply hV; apply hV
      exact lp 9 0 I (by omega) va_cpy_sh0.symm (fun _ _ => rfl)
  · exact hT.elim
