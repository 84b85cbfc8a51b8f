/-! The reference: evaluate. -/
def Rev (t N e : Nat) (I : am_I) (x : Option Nat × am_I) (ret : Int32) (Y : am_I) : Prop :=
  (∃ N', N ≤ N' ∧ N' ≤ N + e ∧ RK t N' x.2 Y) ∧ agE I Y ∧ match x.1 with
    | some E => Y 21 35 = mo_code E ∧ ret = 0
    | none => (1 ≤ x.2 15 1 → Y 21 35 = 0 ∧ ret = x.2 18 (x.2 15 1 - 1).toNatClampNeg) ∧ (¬ 1 ≤ x.2 15 1 → Y 21 35 = 2 ∧ ret = 0)
/-- the operations of both, e of them; each is one of the document's -/
def ROp (e : Nat) (G I : am_I) : Prop := ∀ a, a < e → I 36 a = G 16 a ∧ I 37 a = G 17 a ∧ ∃ d, d ≤ 10 ∧ G 16 a = nI d ∧ (d = 1 → ∃ p, p < 8 ∧ G 17 a = nI p)
def T_mevaluate : am_T := fun as I P J n K => match as with
  | [.inr (.inr (some o)), .inl f] => o = 21 ∧ (∃ q, P = am_p0 q) ∧ ((!decide (f < 0) && decide (f < I 21 26)) = false → ∀ X : am_I, (∀ k, k ≠ 21 → X k = I k) → (∀ a, a ≠ 33 → a ≠ 35 → X 21 a = I 21 a) → X 21 35 = 1 → K (.inl (some (.inl 0))) X P J n) ∧
      ((!decide (f < 0) && decide (f < I 21 26)) = true → ∃ G t N j e r, t ≤ 512 ∧ N + e < 2 ^ 31 - 1 ∧ f = nI j ∧ j < 8 ∧ e ≤ 20 ∧ 56 ≤ r ∧ G 15 1 = 0 ∧ RK t N G I ∧ I 21 30 = nI e ∧ ROp e G I ∧ (∀ p, p < 8 → I 34 (9 * j + p) = G r p) ∧ ∀ ret Y, Rev t N e I (cm_evl r e 0 G) ret Y → K (.inl (some (.inl ret))) Y P J n)
  | _ => False
theorem ok_mev_end {sc : am_S} {C : Nat → am_T} {q n : Nat} {J : am_J} {K : am_K} {V : am_W} (hD : am_drop V) (hV : am_closed sc C tb_Mo_evaluate V K) {X : am_I} {f : Int32} {ls : am_L}
    (h1 : ¬ X 21 35 = 0 → K (.inl (some (.inl 0))) (am_ui X 21 35 (X 21 35)) (am_p0 q) J n) (h2 : X 21 35 = 0 → X 21 33 = 0 → K (.inl (some (.inl 0))) (am_ui X 21 35 2) (am_p0 q) J n)
    (h3 : X 21 35 = 0 → ¬ X 21 33 = 0 → vp_in (X 21 33 - 1) 8 ∧ K (.inl (some (.inl (X 38 (X 21 33 - 1).toNatClampNeg)))) (am_ui X 21 35 0) (am_p0 q) J n) :
    V 70 ((0, .inr (.inr (some 21))) :: ls) [] X (am_p0 q) J n := by
  apply hD 1
  show V 70 [(0, .inr (.inr (some 21)))] [] X (am_p0 q) J n
  apply hV; apply hV; apply hV
  refine ⟨rfl, ?_⟩
  apply hV
  refine ⟨fun g => ?_, fun g => ?_⟩
  · apply hV; apply hV
    refine ⟨rfl, ?_⟩
    apply hV
    refine ⟨fun g2 => ?_, fun g2 => ?_⟩
    · apply hV; apply hV; apply hV
      refine ⟨rfl, ?_⟩
      apply hV; apply hV
      refine ⟨rfl, ?_⟩
      apply hV
      refine ⟨fun g3 => absurd (show (2 : Int32) = 0 from g3) (by decide), fun _ => ?_⟩
      apply hV; apply hV
      exact h2 g g2
    · obtain ⟨hi, hK⟩ := h3 g g2
      have g' : X 21 35 = 0 := g
      apply hV; apply hV
      refine ⟨rfl, ?_⟩
      rw [g']
      apply hV
      refine ⟨rfl, ?_⟩
      apply hV; apply hV
      refine ⟨rfl, ?_⟩
      apply hV
      refine ⟨fun _ => ?_, fun g3 => absurd (show (0 : Int32) = 0 from rfl) g3⟩
      apply hV; apply hV
      refine ⟨rfl, ?_⟩
      apply hV; apply hV
      refine ⟨rfl, ?_⟩
      apply hV; apply hV; apply hV
      refine ⟨hi, ?_⟩
      apply hV; apply hV
      exact hK
  · have g' : ¬ X 21 35 = 0 := g
    apply hV; apply hV
    refine ⟨rfl, ?_⟩
    apply hV
    refine ⟨rfl, ?_⟩
    apply hV; apply hV
    refine ⟨rfl, ?_⟩
    apply hV
    refine ⟨fun g3 => absurd (show X 21 35 = 0 from g3) g', fun _ => ?_⟩
    apply hV; apply hV
    exact h1 g'
theorem RK_in {t N : Nat} {G I : am_I} (h : RK t N G I) : vp_in (G 8 9) 40 := by
  obtain ⟨m, w, d, hX, -⟩ := h
  obtain ⟨-, -, -, f, hf, e, -⟩ := hX.2.2.2.1
  rw [e]
  exact nI_in hf (by omega)
theorem ok_mev_loop {sc : am_S} {C : Nat → am_T} (h51 : am_has C 51 T_moperate) {q n t e j r : Nat} {J : am_J} {K : am_K} {V : am_W} (hD : am_drop V) (hV : am_closed sc C tb_Mo_evaluate V K) (ht : t ≤ 512) (he : e ≤ 20) (hj : j < 8) (hr : 56 ≤ r) :
    ∀ (k i N h : Nat) (G X : am_I), i + k = e → RS h G X → RK t N G X → X 21 35 = 0 → X 21 30 = nI e → ROp e G X → (∀ p, p < 8 → X 34 (9 * j + p) = G r p) → N + k < 2 ^ 31 - 1 → (∀ ret Y, Rev t N k X (cm_evl r k i G) ret Y → K (.inl (some (.inl ret))) Y (am_p0 q) J n) →
      V 28 [(0, .inr (.inr (some 21))), (1, .inl (nI j)), (2, .inl (nI i))] [] X (am_p0 q) J n := by
  intro k
  induction k with
  | zero =>
    intro i N h G X hi hS hR h35 h30 hO hrow hN hK
    obtain ⟨s1, s2, s3, s4⟩ := hS
    apply hV; apply hV; apply hV
    refine ⟨rfl, ?_⟩
    rw [h30]
    apply hV
    refine ⟨fun g => ?_, fun g => absurd (nI_le (by omega) (by omega)) g⟩
    refine ok_mev_end (f := 0) hD hV (fun g => absurd h35 g) (fun _ g => ?_) (fun _ g => ?_)
    · have h0 : h = 0 := (nI_eq (by omega) (by omega)).1 (s2.symm.trans g)
      refine hK 0 _ ⟨⟨N, Nat.le_refl N, by omega, RK_f hR (by omega) _⟩, agE_f (agE_refl X) (Or.inr rfl) _, fun g1 => ?_, fun _ => ⟨rfl, rfl⟩⟩
      have g1 : (1 : Int32) ≤ G 15 1 := g1
      rw [s3, h0] at g1
      exact absurd g1 (by decide)
    · have hpos : 0 < h := by
        apply Nat.pos_of_ne_zero
        intro e0
        exact g (by rw [s2, e0]; rfl)
      obtain ⟨m, rfl⟩ : ∃ m, h = m + 1 := ⟨h - 1, by omega⟩
      have e1 : X 21 33 - 1 = nI m := by rw [s2, nI_pred]
      have e2 : G 15 1 - 1 = nI m := by rw [s3, nI_pred]
      rw [e1]
      refine ⟨nI_in (by omega) (by omega), ?_⟩
      rw [nI_clamp (by omega), s4 m (by omega)]
      refine hK _ _ ⟨⟨N, Nat.le_refl N, by omega, RK_f hR (by omega) _⟩, agE_f (agE_refl X) (Or.inr rfl) _, fun _ => ⟨rfl, ?_⟩, fun g1 => ?_⟩
      · show G 18 m = G 18 (G 15 1 - 1).toNatClampNeg
        rw [e2, nI_clamp (by omega)]
      · exact absurd (by show (1 : Int32) ≤ G 15 1; rw [s3]; exact show nI 1 ≤ nI (m + 1) from nI_le (by omega) (by omega)) g1
  | succ k ih =>
    intro i N h G X hi hS hR h35 h30 hO hrow hN hK
    have ei : (nI i).toNatClampNeg = i := nI_clamp (by omega)
    have ii : vp_in (nI i) 20 := nI_in (by omega) (by omega)
    obtain ⟨o1, o2, d, hd, o3, o4⟩ := hO i (by omega)
    apply hV; apply hV; apply hV
    refine ⟨rfl, ?_⟩
    rw [h30]
    apply hV
    refine ⟨fun g => absurd g (nI_ge (by omega) (by omega)), fun g => ?_⟩
    apply hV; apply hV
    refine ⟨rfl, ?_⟩
    rw [h35]
    apply hV
    refine ⟨fun _ => ?_, fun g => absurd rfl g⟩
    apply hV; apply hV; apply hV; apply hV
    refine ⟨rfl, ?_⟩
    apply hV; apply hV
    refine ⟨ii, ?_⟩
    rw [ei]
    apply hV; apply hV
    refine ⟨rfl, ?_⟩
    apply hV; apply hV
    refine ⟨ii, ?_⟩
    rw [ei]
    apply hV; apply hV
    refine ⟨rfl, ?_⟩
    rw [o1, o2]
    refine h51 _ _ _ _ _ _ ⟨rfl, ⟨_, rfl⟩, G, t, N, h, j, d, G r, ht, by omega, o3, hd, rfl, hj, hS, hR, fun e1 => ?_, fun s Y hr2 => ?_⟩
    · obtain ⟨p, hp, ep⟩ := o4 e1
      exact ⟨p, hp, ep, hrow p hp⟩
    have hok : (cm_apply (G 16 i) (G 17 i) (G r) G).1 = none → cz_keep G (cm_apply (G 16 i) (G 17 i) (G r) G).2 := fun hn => cm_apply_ok ⟨RK_in hR, h, hS.1, hS.2.2.1⟩ hn
    unfold cm_evl at hK
    unfold Rop at hr2
    generalize cm_apply (G 16 i) (G 17 i) (G r) G = x at hr2 hok hK
    obtain ⟨b, H⟩ := x
    obtain ⟨⟨N', n1, n2, r1⟩, r2, r3⟩ := hr2
    have r1 : RK t N' H Y := r1
    have y30 : am_ui Y 21 35 s 21 30 = nI e := (r2.2 30 (by omega) (by omega) (by omega)).trans h30
    show V 61 [(0, .inr (.inr (some 21))), (1, .inl (nI j)), (2, .inl (nI i))] [.inl s, .inr (.inr (some 21))] Y (am_p0 q) J n
    apply hV
    refine ⟨rfl, ?_⟩
    apply hV; apply hV
    show V 28 [(0, .inr (.inr (some 21))), (1, .inl (nI j)), (2, .inl (nI i + 1))] [] (am_ui Y 21 35 s) (am_p0 q) J n
    rw [← nI_succ]
    cases b with
    | none =>
      obtain ⟨r3, h', r4⟩ := r3
      obtain ⟨k1, k2, k3⟩ := hok rfl
      have r4 : RS h' H Y := r4
      have r1 : RK t N' H Y := r1
      have k3 : ∀ k, 12 ≤ k → k ≠ 15 → k ≠ 18 → H k = G k := k3
      subst r3
      refine ih (i + 1) N' h' H (am_ui Y 21 35 0) (by omega) ⟨r4.1, r4.2.1, r4.2.2.1, r4.2.2.2⟩ (RK_f r1 (by omega) _) rfl y30 (fun a ha => ?_) (fun p hp => ?_) (by omega) (fun ret Z hz => hK ret Z ?_)
      · show Y 36 a = H 16 a ∧ Y 37 a = H 17 a ∧ _
        rw [r2.1 36 (by omega) (by omega), r2.1 37 (by omega) (by omega), k3 16 (by omega) (by omega) (by omega), k3 17 (by omega) (by omega) (by omega)]
        exact hO a ha
      · show Y 34 (9 * j + p) = H r p
        rw [r2.1 34 (by omega) (by omega), k3 r (by omega) (by omega) (by omega)]
        exact hrow p hp
      · obtain ⟨⟨N2, m1, m2, z1⟩, z2, z3⟩ := hz
        exact ⟨⟨N2, by omega, by omega, z1⟩, agE_trans (agE_f r2 (Or.inr rfl) _) z2, z3⟩
    | some E =>
      have r3 : s = mo_code E := r3
      have ns : ¬ s = 0 := by rw [r3]; exact mo_code_0 E
      have fin : V 70 [(0, .inr (.inr (some 21))), (1, .inl (nI j)), (2, .inl (nI (i + 1)))] [] (am_ui Y 21 35 s) (am_p0 q) J n := by
        refine ok_mev_end (f := 0) hD hV (fun _ => ?_) (fun g => absurd g ns) (fun g => absurd g ns)
        have r1 : RK t N' H Y := r1
        exact hK 0 _ ⟨⟨N', n1, by omega, RK_f (RK_f r1 (by omega) _) (by omega) _⟩, agE_f (agE_f r2 (Or.inr rfl) _) (Or.inr rfl) _, r3, rfl⟩
      apply hV; apply hV; apply hV
      refine ⟨rfl, ?_⟩
      apply hV
      refine ⟨fun _ => fin, fun _ => ?_⟩
      apply hV; apply hV
      refine ⟨rfl, ?_⟩
      apply hV
      refine ⟨fun g => absurd g ns, fun _ => fin⟩
theorem ok_mevaluate (sc : am_S) (C : Nat → am_T) (h51 : am_has C 51 T_moperate) : am_ok sc C tb_Mo_evaluate T_mevaluate := by
  intro as I P J n K hT V hD hV
  unfold T_mevaluate at hT
  split at hT
  · rename_i o f
    obtain ⟨rfl, ⟨q, rfl⟩, hK1, hK2⟩ := hT
    show V 0 [(0, .inr (.inr (some 21))), (1, .inl f)] [] I (am_p0 q) J n
    have no : (!decide (f < 0) && decide (f < I 21 26)) = false → V 13 [(0, .inr (.inr (some 21))), (1, .inl f)] [.inr (.inr (some 21))] I (am_p0 q) J n := by
      intro hq
      have hK := hK1 hq
      have fin : ∀ ls, V 70 ((0, .inr (.inr (some 21))) :: ls) [] (am_ui (am_ui I 21 35 1) 21 33 0) (am_p0 q) J n := by
        intro ls
        refine ok_mev_end (f := 0) hD hV (fun _ => ?_) (fun g => absurd (show (1 : Int32) = 0 from g) (by decide)) (fun g => absurd (show (1 : Int32) = 0 from g) (by decide))
        refine hK _ (fun k hk => ?_) (fun a h1 h2 => ?_) rfl
        · rw [am_ui_ne _ _ _ hk, am_ui_ne _ _ _ hk, am_ui_ne _ _ _ hk]
        · rw [am_ui_eq, pb_upd, if_neg h2, am_ui_eq, pb_upd, if_neg h1, am_ui_eq, pb_upd, if_neg h2]
      apply hV; apply hV; apply hV
      refine ⟨rfl, ?_⟩
      apply hV; apply hV; apply hV
      refine ⟨rfl, ?_⟩
      apply hV; apply hV; apply hV; apply hV; apply hV
      refine ⟨rfl, ?_⟩
      apply hV
      refine ⟨fun _ => fin _, fun _ => ?_⟩
      apply hV; apply hV
      refine ⟨rfl, ?_⟩
      apply hV
      refine ⟨fun g => absurd (show (1 : Int32) = 0 from g) (by decide), fun _ => fin _⟩
    apply hV; apply hV; apply hV
    refine ⟨fun h1 => no (by simp [h1]), fun h1 => ?_⟩
    apply hV; apply hV; apply hV
    refine ⟨rfl, ?_⟩
    apply hV
    refine ⟨fun h2 => ?_, fun h2 => no (by simp [h2])⟩
    obtain ⟨G, t, N, j, e, r, ht, hN, rfl, hj, he, hr, hg, hR, h30, hO, hrow, hK⟩ := hK2 (by simp [h1, h2])
    clear hK1 hK2 no
    apply hV; apply hV
    refine ⟨rfl, ?_⟩
    apply hV; apply hV; apply hV
    refine ⟨rfl, ?_⟩
    apply hV; apply hV
    refine ok_mev_loop h51 hD hV ht he hj hr e 0 N 0 G _ (by omega) ⟨by omega, rfl, hg, fun i hi => absurd hi (by omega)⟩ (RK_f (RK_f hR (by omega) _) (by omega) _) rfl h30 (fun a ha => hO a ha) (fun p hp => hrow p hp) hN (fun ret Y hz => hK ret Y ?_)
    obtain ⟨z1, z2, z3⟩ := hz
    exact ⟨z1, agE_trans (agE_f (agE_f (agE_refl I) (Or.inr rfl) _) (Or.inl rfl) _) z2, z3⟩
  · exact hT.elim
