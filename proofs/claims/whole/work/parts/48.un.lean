/-! The reference: unwind. -/
def agV (I Y : am_I) : Prop := (∀ k, ¬ (21 ≤ k ∧ k ≤ 28) → k ≠ 34 → k ≠ 35 → Y k = I k) ∧ ∀ a, 20 ≤ a → a ≠ 26 → a ≠ 28 → a ≠ 35 → Y 21 a = I 21 a
theorem agV_U {I Y : am_I} (h : agU I Y) : agV I Y := ⟨fun k h1 _ h3 => h.1 k h1 h3, fun a h1 _ h3 h4 => h.2 a h1 h3 h4⟩
def Runw (t N q : Nat) (I : am_I) (x : Option Nat × am_I) (ret : Int32) (Y : am_I) : Prop :=
  (∃ N', N ≤ N' ∧ N' ≤ N + 72 ∧ RK t N' x.2 Y) ∧ agV I Y ∧ match x.1 with
    | none => Y 21 35 = 1 ∧ ret = 0 ∧ Y 34 = I 34 ∧ Y 21 26 = I 21 26
    | some c => Y 21 35 = 0 ∧ ret = nI c ∧ Y 21 26 = nI c ∧ 1 ≤ c ∧ c ≤ 8 ∧ ∀ f, f < c → ∀ p, p < 9 → Y 34 (9 * f + p) = x.2 (56 + (8 * (1 - q) + f)) p
theorem RR_cells {r : Nat} {G G' I I' : am_I} (h : RR r G I) (hg : ∀ k, 12 ≤ k → k < 56 → G' k = G k) (hi : ∀ k, 29 ≤ k → k ≤ 33 → I' k = I k) (hf : I' 21 20 = I 21 20) : RR r G' I' := by
  obtain ⟨h1, h2, h3, h4, h5, h6⟩ := h
  refine ⟨h1, hf.trans h2, by rw [hg 12 (by omega) (by omega)]; exact h3, fun j hj => ?_, fun j hj p hp => ?_, fun j hj1 hj2 p hp => ?_⟩
  · rw [hi 29 (by omega) (by omega), hi 30 (by omega) (by omega), hi 31 (by omega) (by omega), hi 32 (by omega) (by omega), hi 33 (by omega) (by omega), hg (40 + j) (by omega) (by omega), hg (48 + j) (by omega) (by omega)]
    exact h4 j hj
  · rw [hg (48 + j) (by omega) (by omega)]
    exact h5 j hj p hp
  · rw [hg (48 + j) (by omega) (by omega)]
    exact h6 j hj1 hj2 p hp
def LU (t N q Nc : Nat) (S : Nat → Prop) (G I H Y : am_I) : Prop :=
  N ≤ Nc ∧ RK t Nc H Y ∧ agU I Y ∧ Y 21 28 = nI 1 ∧ (∀ k, 12 ≤ k → k ≠ 56 + 8 * (1 - q) → H k = G k) ∧ ∀ p, S p → Y 35 p = H (56 + 8 * (1 - q)) p
theorem LU_get {t N q Nc p : Nat} {S : Nat → Prop} {kind a s : Int32} {G I H Y Y' : am_I} (hL : LU t N q Nc S G I H Y) (hf : Rft t Nc (56 + 8 * (1 - q)) p p Y (cm_get kind a (56 + 8 * (1 - q)) p H) s Y') :
    ∃ b H', cm_get kind a (56 + 8 * (1 - q)) p H = (b, H') ∧ (b = true → s = 0 ∧ LU t N q (Nc + 1) (fun i => i = p ∨ S i) G I H' Y') ∧ (b = false → s = -1 ∧ RK t (Nc + 1) H' Y' ∧ agU I Y') := by
  obtain ⟨l0, l1, l2, l3, l4, l5⟩ := hL
  have hoth : ∀ k, 12 ≤ k → k ≠ 56 + 8 * (1 - q) → (cm_get kind a (56 + 8 * (1 - q)) p H).2 k = H k := fun k h1 h2 => cm_get_oth H (by omega) (by omega) h2
  have hrow : (cm_get kind a (56 + 8 * (1 - q)) p H).1 = true → ∀ i, i ≠ p → (cm_get kind a (56 + 8 * (1 - q)) p H).2 (56 + 8 * (1 - q)) i = H (56 + 8 * (1 - q)) i := by
    have e : (cm_ask 4 (cm_wr kind a 0 H)).2 (56 + 8 * (1 - q)) = H (56 + 8 * (1 - q)) := (cm_ask_oth 4 _ (by omega) (by omega)).trans (cm_wr_oth _ _ _ _ (by omega) (by omega))
    unfold cm_get
    generalize cm_ask 4 (cm_wr kind a 0 H) = x at e ⊢
    obtain ⟨b, Z⟩ := x
    cases b with
    | none => intro h; cases h
    | some x =>
      intro _ i hi
      show am_ui Z (56 + 8 * (1 - q)) p x (56 + 8 * (1 - q)) i = _
      rw [am_ui_eq, pb_upd, if_neg hi]
      exact congrFun e i
  unfold Rft at hf
  generalize cm_get kind a (56 + 8 * (1 - q)) p H = x at hf hoth hrow
  obtain ⟨b, H'⟩ := x
  obtain ⟨f1, Z, y, f2, f3, f4, f5⟩ := hf
  have f1 : RK t (Nc + 1) H' Y' := f1
  have hoth : ∀ k, 12 ≤ k → k ≠ 56 + 8 * (1 - q) → H' k = H k := hoth
  have hrow : b = true → ∀ i, i ≠ p → H' (56 + 8 * (1 - q)) i = H (56 + 8 * (1 - q)) i := hrow
  have yag : agU I Y' := by rw [f3]; exact agU_trans l2 (agU_35 (agU_K f2) _ _)
  refine ⟨b, H', rfl, fun hb => ?_, fun hb => ⟨f5 hb, f1, yag⟩⟩
  obtain ⟨f4, f6⟩ := f4 hb
  have y35 : Y' 35 = upd (Y 35) p y := by rw [f3, am_ui_eq, f2.1 35 (by omega)]
  refine ⟨f4, by omega, f1, yag, ?_, fun k h1 h2 => (hoth k h1 h2).trans (l4 k h1 h2), fun i hi => ?_⟩
  · rw [f3]
    show Z 21 28 = _
    rw [f2.2 28 (by omega)]
    exact l3
  · rw [y35, pb_upd]
    by_cases e : i = p
    · rw [if_pos e, e, f6]
    · rw [if_neg e, hrow hb i e]
      rcases hi with hi | hi
      · exact absurd hi e
      · exact l5 i hi
section UN
variable {sc : am_S} {C : Nat → am_T} {q0 n t N q r : Nat} {J : am_J} {K : am_K} {V : am_W} {G I : am_I}
/-- given up -/
theorem mun_out (hD : am_drop V) (hV : am_closed sc C tb_Mo_unwind V K) {Nc : Nat} {H Y : am_I} {s : Int32} {ls : am_L} (hs : s = -1) (hN : N ≤ Nc ∧ Nc ≤ N + 72) (hR : RK t Nc H Y) (ha : agU I Y) (hK : ∀ ret Z, Runw t N q I (none, H) ret Z → K (.inl (some (.inl ret))) Z (am_p0 q0) J n) :
    V 61 ((0, .inr (.inr (some 21))) :: (1, .inl s) :: ls) [] Y (am_p0 q0) J n := by
  subst hs
  apply hD 2
  show V 61 [(0, .inr (.inr (some 21))), (1, .inl (-1))] [] Y (am_p0 q0) J n
  apply hV; apply hV
  refine ⟨fun h => absurd h (by decide), fun _ => ?_⟩
  apply hV; apply hV; apply hV; apply hV
  refine ⟨fun _ => ?_, fun h => absurd rfl h⟩
  apply hV; apply hV; apply hV
  refine ⟨rfl, ?_⟩
  apply hV; apply hV
  refine ⟨rfl, ?_⟩
  apply hV
  refine ⟨fun h => absurd (show (1 : Int32) = 0 from h) (by decide), fun _ => ?_⟩
  apply hV; apply hV
  have ha2 := agV_U ha
  refine hK 0 _ ⟨⟨Nc, hN.1, hN.2, RK_f hR (by omega) _⟩, ⟨fun k h1 h2 h3 => ?_, fun a h1 h2 h3 h4 => ?_⟩, rfl, rfl, ?_, ?_⟩
  · rw [am_ui_ne _ _ _ (by omega)]
    exact ha2.1 k h1 h2 h3
  · rw [am_ui_eq, pb_upd, if_neg h4]
    exact ha2.2 a h1 h2 h3 h4
  · show Y 34 = I 34
    exact ha.1 34 (by omega) (by omega)
  · show Y 21 26 = I 21 26
    exact ha.2 26 (by omega) (by omega) (by omega)
/-- g + 1 frames in all -/
theorem mun_done (hD : am_drop V) (hV : am_closed sc C tb_Mo_unwind V K) {Nc g : Nat} {H Y : am_I} {ls : am_L} (hg : g < 8) (hN : N ≤ Nc ∧ Nc ≤ N + 72) (hR : RK t Nc H Y) (ha : agU I Y) (h28 : Y 21 28 = nI (g + 1)) (hW : RW q g H Y) (hK : ∀ ret Z, Runw t N q I (some (g + 1), H) ret Z → K (.inl (some (.inl ret))) Z (am_p0 q0) J n) :
    V 61 ((0, .inr (.inr (some 21))) :: (1, .inl 1) :: ls) [] Y (am_p0 q0) J n := by
  apply hD 2
  show V 61 [(0, .inr (.inr (some 21))), (1, .inl 1)] [] Y (am_p0 q0) J n
  have ha2 := agV_U ha
  have lp : ∀ (d i : Nat) (X : am_I), i + d = 72 → X 35 = Y 35 → X 34 = va_cpy (Y 35) (Y 34) 0 0 i → X 21 = upd (upd (Y 21) 35 0) 26 (nI (g + 1)) → (∀ k, k ≠ 21 → k ≠ 34 → X k = Y k) → V 106 [(0, .inr (.inr (some 21))), (1, .inl 1), (2, .inl (nI i))] [] X (am_p0 q0) J n := by
    intro d
    induction d with
    | zero =>
      intro i X hi x35 x34 x21 xo
      have hi' : i = 72 := by omega
      subst hi'
      have e26 : X 21 26 = nI (g + 1) := by rw [x21]; rfl
      apply hV; apply hV; apply hV
      refine ⟨fun _ => ?_, fun h => absurd (show nI 72 ≤ nI 72 from nI_le (by omega) (by omega)) h⟩
      apply hV; apply hV
      refine ⟨rfl, ?_⟩
      rw [e26]
      apply hV
      refine hK _ _ ⟨⟨Nc, hN.1, hN.2, ?_⟩, ⟨fun k h1 h2 h3 => ?_, fun a h1 h2 h3 h4 => ?_⟩, ?_, rfl, e26, by omega, by omega, fun f hf p hp => ?_⟩
      · refine RK_cells hR (fun _ _ => rfl) (fun k h1 h2 => xo k (by omega) (by omega)) (fun a ha => ?_)
        rw [x21, pb_upd, if_neg (by omega), pb_upd, if_neg (by omega)]
      · rw [xo k (by omega) h2]
        exact ha2.1 k h1 h2 h3
      · rw [x21, pb_upd, if_neg h2, pb_upd, if_neg h4]
        exact ha2.2 a h1 h2 h3 h4
      · rw [x21]
        rfl
      · rw [x34]
        unfold va_cpy
        rw [if_pos (by omega), show 0 + (9 * f + p - 0) = 9 * f + p by omega]
        exact hW f (by omega) p hp
    | succ d ih =>
      intro i X hi x35 x34 x21 xo
      have ei : (nI i).toNatClampNeg = i := nI_clamp (by omega)
      have ii : vp_in (nI i) 72 := nI_in (by omega) (by omega)
      apply hV; apply hV; apply hV
      refine ⟨fun h => absurd h (show ¬ nI 72 ≤ nI i from nI_ge (by omega) (by omega)), fun _ => ?_⟩
      apply hV; apply hV
      refine ⟨rfl, ?_⟩
      apply hV; apply hV; apply hV
      refine ⟨rfl, ?_⟩
      apply hV; apply hV
      refine ⟨ii, ?_⟩
      rw [ei]
      apply hV
      refine ⟨ii, ?_⟩
      rw [ei]
      apply hV; apply hV
      show V 106 [(0, .inr (.inr (some 21))), (1, .inl 1), (2, .inl (nI i + 1))] [] (am_ui X 34 i (X 35 i)) (am_p0 q0) J n
      rw [← nI_succ]
      refine ih (i + 1) _ (by omega) x35 ?_ x21 (fun k h1 h2 => ?_)
      · rw [am_ui_eq, x34, x35]
        have e := va_cpy_s (Y 35) (Y 34) 0 i
        rw [Nat.zero_add] at e
        exact e
      · rw [am_ui_ne _ _ _ h2]
        exact xo k h1 h2
  apply hV; apply hV
  refine ⟨fun h => absurd h (by decide), fun _ => ?_⟩
  apply hV; apply hV; apply hV; apply hV
  refine ⟨fun h => absurd h (by decide), fun _ => ?_⟩
  apply hV; apply hV
  refine ⟨rfl, ?_⟩
  apply hV; apply hV
  refine ⟨rfl, ?_⟩
  apply hV
  refine ⟨fun _ => ?_, fun h => absurd (show (0 : Int32) = 0 from rfl) h⟩
  apply hV; apply hV; apply hV
  refine ⟨rfl, ?_⟩
  apply hV
  refine ⟨rfl, ?_⟩
  apply hV; apply hV
  refine lp 72 0 _ (by omega) rfl (by rw [va_cpy_0]; rfl) ?_ (fun k h1 h2 => by rw [am_ui_ne _ _ _ h1, am_ui_ne _ _ _ h1])
  show upd (upd (Y 21) 35 0) 26 (Y 21 28) = _
  rw [h28]
theorem mun_loop (h43 : am_has C 43 T_mnext) (hD : am_drop V) (hV : am_closed sc C tb_Mo_unwind V K) (hq : q < 2) (ht : t ≤ 512) (hNN : N + 100 < 2 ^ 31 - 1) :
    ∀ (k g Nc : Nat) (H Y : am_I) (ls : am_L), g + k = 7 → N ≤ Nc → Nc ≤ N + 9 + 9 * g → RK t Nc H Y → RR r H Y → Y 21 28 = nI (g + 1) → RW q g H Y → agU I Y → (∀ ret Z, Runw t N q I (cm_frames q r k g H) ret Z → K (.inl (some (.inl ret))) Z (am_p0 q0) J n) →
      V 61 ((0, .inr (.inr (some 21))) :: (1, .inl 0) :: ls) [] Y (am_p0 q0) J n := by
  intro k
  induction k with
  | zero =>
    intro g Nc H Y ls hg n1 n2 hR hRR h28 hW ha hK
    apply hD 2
    show V 61 [(0, .inr (.inr (some 21))), (1, .inl 0)] [] Y (am_p0 q0) J n
    apply hV; apply hV
    refine ⟨fun _ => ?_, fun h => absurd rfl h⟩
    apply hV; apply hV
    refine ⟨rfl, ?_⟩
    refine h43 _ _ _ _ _ _ ⟨rfl, ⟨_, rfl⟩, H, t, Nc, q, g, r, hq, by omega, ht, by omega, hR, hRR, h28, hW, fun _ => ?_, fun h => absurd h (by omega)⟩
    apply hV; apply hV
    exact mun_done hD hV (by omega) ⟨n1, by omega⟩ hR ha h28 hW hK
  | succ k ih =>
    intro g Nc H Y ls hg n1 n2 hR hRR h28 hW ha hK
    apply hD 2
    show V 61 [(0, .inr (.inr (some 21))), (1, .inl 0)] [] Y (am_p0 q0) J n
    apply hV; apply hV
    refine ⟨fun _ => ?_, fun h => absurd rfl h⟩
    apply hV; apply hV
    refine ⟨rfl, ?_⟩
    refine h43 _ _ _ _ _ _ ⟨rfl, ⟨_, rfl⟩, H, t, Nc, q, g, r, hq, by omega, ht, by omega, hR, hRR, h28, hW, fun h => absurd h (by omega), fun _ s Z hx => ?_⟩
    have hoth : ∀ k, 12 ≤ k → k < 56 → (cm_caller (8 * (1 - q) + g) r H).2 k = H k := fun k h1 h2 => cm_caller_oth H (by omega) (by omega) (by omega)
    unfold cm_frames at hK
    unfold Rnx at hx
    generalize cm_caller (8 * (1 - q) + g) r H = x at hx hK hoth
    obtain ⟨b, H'⟩ := x
    obtain ⟨⟨N', m1, m2, x1⟩, x2, x3⟩ := hx
    have x1 : RK t N' H' Z := x1
    have hoth : ∀ k, 12 ≤ k → k < 56 → H' k = H k := hoth
    have za := agU_trans ha x2
    show V 69 [(0, .inr (.inr (some 21))), (1, .inl 0)] [.inl s] Z (am_p0 q0) J n
    apply hV; apply hV
    show V 61 [(0, .inr (.inr (some 21))), (1, .inl s)] [] Z (am_p0 q0) J n
    match b, x3, hK with
    | none, x3, hK => exact mun_out hD hV x3 ⟨by omega, by omega⟩ x1 za hK
    | some false, x3, hK =>
      obtain ⟨rfl, y1, y2⟩ := x3
      exact mun_done hD hV (by omega) ⟨by omega, by omega⟩ x1 za y1 y2 hK
    | some true, x3, hK =>
      obtain ⟨rfl, y1, y2⟩ := x3
      exact ih (g + 1) N' H' Z [] (by omega) (by omega) (by omega) x1 (RR_cells hRR hoth (fun k h1 h2 => x2.1 k (by omega) (by omega)) (x2.2 20 (by omega) (by omega) (by omega))) y1 y2 za hK
theorem mun_regs (h35 : am_has C 35 T_mask) (h43 : am_has C 43 T_mnext) (hD : am_drop V) (hV : am_closed sc C tb_Mo_unwind V K) (hq : q < 2) (ht : t ≤ 512) (hNN : N + 100 < 2 ^ 31 - 1) (hRR : RR r G I) :
    ∀ (k i Nc : Nat) (H Y : am_I), i + k = 8 → LU t N q Nc (fun p => p = 8 ∨ p < i) G I H Y → Nc ≤ N + 1 + i →
      (∀ H', cm_regs (56 + 8 * (1 - q)) k i H = (true, H') → ∀ ret Z, Runw t N q I (cm_frames q r 7 0 H') ret Z → K (.inl (some (.inl ret))) Z (am_p0 q0) J n) →
      (∀ H', cm_regs (56 + 8 * (1 - q)) k i H = (false, H') → ∀ ret Z, Runw t N q I (none, H') ret Z → K (.inl (some (.inl ret))) Z (am_p0 q0) J n) →
      V 27 [(0, .inr (.inr (some 21))), (1, .inl 0), (2, .inl (nI i))] [] Y (am_p0 q0) J n := by
  intro k
  induction k with
  | zero =>
    intro i Nc H Y hi hL hNc hK1 hK2
    obtain ⟨l0, l1, l2, l3, l4, l5⟩ := hL
    apply hV; apply hV; apply hV
    refine ⟨fun _ => ?_, fun h => absurd (show nI 8 ≤ nI i from nI_le (by omega) (by omega)) h⟩
    refine mun_loop h43 hD hV hq ht hNN 7 0 Nc H Y _ (by omega) l0 (by omega) l1 (RR_cells hRR (fun k h1 h2 => l4 k h1 (by omega)) (fun k h1 h2 => l2.1 k (by omega) (by omega)) (l2.2 20 (by omega) (by omega) (by omega))) l3 (fun f hf p hp => ?_) l2 (hK1 H rfl)
    have f0 : f = 0 := by omega
    subst f0
    have := l5 p (by omega)
    rw [show 9 * 0 + p = p by omega, show 56 + (8 * (1 - q) + 0) = 56 + 8 * (1 - q) from rfl]
    exact this
  | succ k ih =>
    intro i Nc H Y hi hL hNc hK1 hK2
    have hL0 := hL
    obtain ⟨l0, l1, l2, l3, l4, l5⟩ := hL
    have ei : (nI i).toNatClampNeg = i := nI_clamp (by omega)
    apply hV; apply hV; apply hV
    refine ⟨fun h => absurd h (show ¬ nI 8 ≤ nI i from nI_ge (by omega) (by omega)), fun _ => ?_⟩
    apply hV; apply hV
    refine ⟨fun _ => ?_, fun h => absurd rfl h⟩
    apply hV; apply hV; apply hV; apply hV; apply hV
    refine ⟨rfl, ?_⟩
    refine h35 _ _ _ _ _ _ ⟨rfl, ⟨_, rfl⟩, H, t, Nc, ht, by omega, l1, ⟨0, by omega, rfl⟩, fun Z s hr => ?_⟩
    have hf : Rft t Nc (56 + 8 * (1 - q)) i i Y (cm_get 0 (nI i) (56 + 8 * (1 - q)) i H) s (am_ui Z 35 i (Z 21 19)) := rft_of (by omega) (okk_0 (by omega)) hr
    obtain ⟨b, H', eg, hb1, hb2⟩ := LU_get hL0 hf
    unfold cm_regs at hK1 hK2
    rw [eg] at hK1 hK2
    apply hV; apply hV; apply hV
    refine ⟨rfl, ?_⟩
    apply hV; apply hV; apply hV
    refine ⟨rfl, ?_⟩
    apply hV
    refine ⟨show vp_in (nI i) 72 from nI_in (by omega) (by omega), ?_⟩
    rw [ei]
    apply hV; apply hV
    show V 27 [(0, .inr (.inr (some 21))), (1, .inl s), (2, .inl (nI i + 1))] [] (am_ui Z 35 i (Z 21 19)) (am_p0 q0) J n
    rw [← nI_succ]
    cases b with
    | true =>
      obtain ⟨rfl, m0, m1, m2, m3, m4, m5⟩ := hb1 rfl
      exact ih (i + 1) (Nc + 1) H' _ (by omega) ⟨m0, m1, m2, m3, m4, fun p hp => m5 p (by omega)⟩ (by omega) hK1 hK2
    | false =>
      obtain ⟨hs, hR', ha'⟩ := hb2 rfl
      have fin : V 61 [(0, .inr (.inr (some 21))), (1, .inl s), (2, .inl (nI (i + 1)))] [] (am_ui Z 35 i (Z 21 19)) (am_p0 q0) J n := mun_out hD hV hs ⟨by omega, by omega⟩ hR' ha' (hK2 H' rfl)
      apply hV; apply hV; apply hV
      refine ⟨fun _ => fin, fun _ => ?_⟩
      apply hV; apply hV
      exact ⟨fun h => absurd h (by rw [hs]; decide), fun _ => fin⟩
end UN
def T_munwind : am_T := fun as I P J n K => match as with
  | [.inr (.inr (some o))] => o = 21 ∧ (∃ q, P = am_p0 q) ∧ ∃ G t N q r, q < 2 ∧ t ≤ 512 ∧ N + 100 < 2 ^ 31 - 1 ∧ RK t N G I ∧ RR r G I ∧ ∀ ret Z, Runw t N q I (cm_unw q r G) ret Z → K (.inl (some (.inl ret))) Z P J n
  | _ => False
theorem ok_munwind (sc : am_S) (C : Nat → am_T) (h35 : am_has C 35 T_mask) (h43 : am_has C 43 T_mnext) : am_ok sc C tb_Mo_unwind T_munwind := by
  intro as I P J n K hT V hD hV
  unfold T_munwind at hT
  split at hT
  · rename_i o
    obtain ⟨rfl, ⟨q0, rfl⟩, G, t, N, q, r, hq, ht, hNN, hR, hRR, hK⟩ := hT
    show V 0 [(0, .inr (.inr (some 21)))] [] I (am_p0 q0) J n
    apply hV; apply hV; apply hV
    refine ⟨rfl, ?_⟩
    apply hV; apply hV; apply hV; apply hV; apply hV
    refine ⟨rfl, ?_⟩
    have hI : agU I (am_ui I 21 28 1) := agU_28 (agU_refl I) _
    have hL : LU t N q N (fun _ => False) G I G (am_ui I 21 28 1) := ⟨Nat.le_refl N, RK_f hR (by omega) _, hI, rfl, fun _ _ _ => rfl, fun _ h => h.elim⟩
    refine h35 _ _ _ _ _ _ ⟨rfl, ⟨_, rfl⟩, G, t, N, ht, by omega, hL.2.1, ⟨8, by omega, rfl⟩, fun Z s hr => ?_⟩
    have hf : Rft t N (56 + 8 * (1 - q)) 8 8 (am_ui I 21 28 1) (cm_get 8 0 (56 + 8 * (1 - q)) 8 G) s (am_ui Z 35 8 (Z 21 19)) := rft_of (by omega) (Or.inl rfl) hr
    obtain ⟨b, H', eg, hb1, hb2⟩ := LU_get hL hf
    unfold cm_unw at hK
    rw [eg] at hK
    apply hV; apply hV; apply hV
    refine ⟨rfl, ?_⟩
    apply hV; apply hV; apply hV
    refine ⟨rfl, ?_⟩
    apply hV
    refine ⟨by unfold vp_in; decide, ?_⟩
    apply hV; apply hV
    show V 27 [(0, .inr (.inr (some 21))), (1, .inl s), (2, .inl (nI 0))] [] (am_ui Z 35 8 (Z 21 19)) (am_p0 q0) J n
    cases b with
    | true =>
      obtain ⟨rfl, m0, m1, m2, m3, m4, m5⟩ := hb1 rfl
      refine mun_regs h35 h43 hD hV hq ht hNN hRR 8 0 (N + 1) H' _ (by omega) ⟨m0, m1, m2, m3, m4, fun p hp => m5 p (Or.inl (by omega))⟩ (by omega) (fun H2 e2 => ?_) (fun H2 e2 => ?_)
      · simp only [e2] at hK
        exact hK
      · simp only [e2] at hK
        exact hK
    | false =>
      obtain ⟨hs, hR', ha'⟩ := hb2 rfl
      have fin : V 61 [(0, .inr (.inr (some 21))), (1, .inl s), (2, .inl (nI 0))] [] (am_ui Z 35 8 (Z 21 19)) (am_p0 q0) J n := mun_out hD hV hs ⟨by omega, by omega⟩ hR' ha' hK
      apply hV; apply hV; apply hV
      refine ⟨fun _ => fin, fun _ => ?_⟩
      apply hV; apply hV
      exact ⟨fun h => absurd h (by rw [hs]; decide), fun _ => fin⟩
  · exact hT.elim
