/-! The reference: next, the caller's frame. -/
def RW (q g : Nat) (G I : am_I) : Prop := ∀ f, f ≤ g → ∀ p, p < 9 → I 35 (9 * f + p) = G (56 + (8 * (1 - q) + f)) p
def agU (I Y : am_I) : Prop := (∀ k, ¬ (21 ≤ k ∧ k ≤ 28) → k ≠ 35 → Y k = I k) ∧ ∀ a, 20 ≤ a → a ≠ 28 → a ≠ 35 → Y 21 a = I 21 a
theorem agU_refl (I : am_I) : agU I I := ⟨fun _ _ _ => rfl, fun _ _ _ _ => rfl⟩
theorem agU_trans {I X Y : am_I} (h : agU I X) (h' : agU X Y) : agU I Y := ⟨fun k h1 h2 => (h'.1 k h1 h2).trans (h.1 k h1 h2), fun a h1 h2 h3 => (h'.2 a h1 h2 h3).trans (h.2 a h1 h2 h3)⟩
theorem agU_K {I Y : am_I} (h : agK I Y) : agU I Y := ⟨fun k hk _ => h.1 k hk, fun a ha _ _ => h.2 a ha⟩
theorem agU_35 {I Y : am_I} (h : agU I Y) (b : Nat) (x : Int32) : agU I (am_ui Y 35 b x) := ⟨fun k h1 h2 => (am_ui_ne _ _ _ h2).trans (h.1 k h1 h2), fun a h1 h2 h3 => by rw [am_ui_ne _ _ _ (by omega)]; exact h.2 a h1 h2 h3⟩
theorem agU_28 {I Y : am_I} (h : agU I Y) (x : Int32) : agU I (am_ui Y 21 28 x) := ⟨fun k h1 h2 => (am_ui_ne _ _ _ (by omega)).trans (h.1 k h1 h2), fun a h1 h2 h3 => by rw [am_ui_eq, pb_upd, if_neg (by omega)]; exact h.2 a h1 h2 h3⟩
def Rnx (t N q g : Nat) (I : am_I) (x : Option Bool × am_I) (s : Int32) (Y : am_I) : Prop :=
  (∃ N', N ≤ N' ∧ N' ≤ N + 9 ∧ RK t N' x.2 Y) ∧ agU I Y ∧ match x.1 with
    | none => s = -1
    | some false => s = 1 ∧ Y 21 28 = nI (g + 1) ∧ RW q g x.2 Y
    | some true => s = 0 ∧ Y 21 28 = nI (g + 2) ∧ RW q (g + 1) x.2 Y
def T_mnext : am_T := fun as I P J n K => match as with
  | [.inr (.inr (some o))] => o = 21 ∧ (∃ q, P = am_p0 q) ∧ ∃ G t N q g r, q < 2 ∧ g < 8 ∧ t ≤ 512 ∧ N + 9 < 2 ^ 31 - 1 ∧ RK t N G I ∧ RR r G I ∧ I 21 28 = nI (g + 1) ∧ RW q g G I ∧ (g = 7 → K (.inl (some (.inl 1))) I P J n) ∧ (g < 7 → ∀ s Y, Rnx t N q g I (cm_caller (8 * (1 - q) + g) r G) s Y → K (.inl (some (.inl s))) Y P J n)
  | _ => False
/-- while a caller's frame is filled in: H, Y with Nc requests so far; G, I how it began -/
def LN (t N q g Nc : Nat) (G I H Y : am_I) : Prop :=
  N ≤ Nc ∧ RK t Nc H Y ∧ agU I Y ∧ Y 21 28 = nI (g + 1) ∧ (∀ k, 12 ≤ k → k ≠ 56 + (8 * (1 - q) + g + 1) → H k = G k) ∧ (∀ p, p < 9 → Y 35 (9 * (g + 1) + p) = H (56 + (8 * (1 - q) + g + 1)) p) ∧ ∀ i, i < 9 * (g + 1) → Y 35 i = I 35 i
theorem LN_get {t N q g Nc p : Nat} {ad s : Int32} {G I H Y Y' : am_I} (hp : p < 9) (hg : g < 7) (hL : LN t N q g Nc G I H Y) (hf : Rft t Nc (56 + (8 * (1 - q) + g + 1)) p (9 * (g + 1) + p) Y (cm_get 2 ad (56 + (8 * (1 - q) + g + 1)) p H) s Y') :
    ∃ b H', cm_get 2 ad (56 + (8 * (1 - q) + g + 1)) p H = (b, H') ∧ (b = true → s = 0 ∧ LN t N q g (Nc + 1) G I H' Y') ∧ (b = false → s = -1 ∧ RK t (Nc + 1) H' Y' ∧ agU I Y') := by
  obtain ⟨l0, l1, l2, l3, l4, l5, l6⟩ := hL
  have hoth : ∀ k, 12 ≤ k → k ≠ 56 + (8 * (1 - q) + g + 1) → (cm_get 2 ad (56 + (8 * (1 - q) + g + 1)) p H).2 k = H k := fun k h1 h2 => cm_get_oth H (by omega) (by omega) h2
  have hrow : (cm_get 2 ad (56 + (8 * (1 - q) + g + 1)) p H).1 = true → ∀ i, i ≠ p → (cm_get 2 ad (56 + (8 * (1 - q) + g + 1)) p H).2 (56 + (8 * (1 - q) + g + 1)) i = H (56 + (8 * (1 - q) + g + 1)) i := by
    have e : (cm_ask 4 (cm_wr 2 ad 0 H)).2 (56 + (8 * (1 - q) + g + 1)) = H (56 + (8 * (1 - q) + g + 1)) := (cm_ask_oth 4 _ (by omega) (by omega)).trans (cm_wr_oth _ _ _ _ (by omega) (by omega))
    unfold cm_get
    generalize cm_ask 4 (cm_wr 2 ad 0 H) = x at e ⊢
    obtain ⟨b, Z⟩ := x
    cases b with
    | none => intro h; cases h
    | some x =>
      intro _ i hi
      show am_ui Z (56 + (8 * (1 - q) + g + 1)) p x (56 + (8 * (1 - q) + g + 1)) i = _
      rw [am_ui_eq, pb_upd, if_neg hi]
      exact congrFun e i
  unfold Rft at hf
  generalize cm_get 2 ad (56 + (8 * (1 - q) + g + 1)) p H = x at hf hoth hrow
  obtain ⟨b, H'⟩ := x
  obtain ⟨f1, Z, y, f2, f3, f4, f5⟩ := hf
  have f1 : RK t (Nc + 1) H' Y' := f1
  have hoth : ∀ k, 12 ≤ k → k ≠ 56 + (8 * (1 - q) + g + 1) → H' k = H k := hoth
  have hrow : b = true → ∀ i, i ≠ p → H' (56 + (8 * (1 - q) + g + 1)) i = H (56 + (8 * (1 - q) + g + 1)) i := hrow
  have yag : agU I Y' := by rw [f3]; exact agU_trans l2 (agU_35 (agU_K f2) _ _)
  refine ⟨b, H', rfl, fun hb => ?_, fun hb => ⟨f5 hb, f1, yag⟩⟩
  obtain ⟨f4, f6⟩ := f4 hb
  have y35 : Y' 35 = upd (Y 35) (9 * (g + 1) + p) y := by rw [f3, am_ui_eq, f2.1 35 (by omega)]
  refine ⟨f4, by omega, f1, yag, ?_, fun k h1 h2 => (hoth k h1 h2).trans (l4 k h1 h2), fun i hi => ?_, fun i hi => ?_⟩
  · rw [f3]
    show Z 21 28 = _
    rw [f2.2 28 (by omega)]
    exact l3
  · rw [y35, pb_upd]
    by_cases e : i = p
    · rw [if_pos (by omega), e, f6]
    · rw [if_neg (by omega), hrow hb i e]
      exact l5 i hi
  · rw [y35, pb_upd, if_neg (by omega)]
    exact l6 i hi
section NX
variable {sc : am_S} {C : Nat → am_T} {q0 n t N q g j r : Nat} {bt : Int32} {J : am_J} {K : am_K} {V : am_W} {G I : am_I}
/-- the end: s is 0 or not -/
theorem mnx_end (hV : am_closed sc C tb_Mo_next V K) {s : Int32} {a1 a2 a3 a5 : am_V} {Y : am_I} (h0 : s = 0 → K (.inl (some (.inl 0))) (am_ui Y 21 28 (Y 21 28 + 1)) (am_p0 q0) J n) (h1 : ¬ s = 0 → K (.inl (some (.inl s))) (am_ui Y 21 28 (Y 21 28)) (am_p0 q0) J n) :
    V 215 [(0, .inr (.inr (some 21))), (1, a1), (2, a2), (3, a3), (4, .inl s), (5, a5)] [] Y (am_p0 q0) J n := by
  apply hV; apply hV; apply hV
  refine ⟨fun e => ?_, fun e => ?_⟩
  · apply hV; apply hV
    refine ⟨rfl, ?_⟩
    apply hV; apply hV; apply hV; apply hV
    refine ⟨rfl, ?_⟩
    apply hV; apply hV
    rw [e]
    exact h0 e
  · apply hV; apply hV
    refine ⟨rfl, ?_⟩
    apply hV
    refine ⟨rfl, ?_⟩
    apply hV; apply hV
    exact h1 e
theorem mnx_exit (hV : am_closed sc C tb_Mo_next V K) {s : Int32} {a1 a2 a3 : am_V} {i : Nat} {Y : am_I} (hs : ¬ s = 0) (h1 : K (.inl (some (.inl s))) (am_ui Y 21 28 (Y 21 28)) (am_p0 q0) J n) :
    V 155 [(0, .inr (.inr (some 21))), (1, a1), (2, a2), (3, a3), (4, .inl s), (5, .inl (nI i))] [] Y (am_p0 q0) J n := by
  have fin := mnx_end (a1 := a1) (a2 := a2) (a3 := a3) (a5 := .inl (nI i)) hV (s := s) (Y := Y) (fun e => absurd e hs) (fun _ => h1)
  apply hV; apply hV; apply hV
  refine ⟨fun _ => fin, fun _ => ?_⟩
  apply hV; apply hV
  exact ⟨fun e => absurd e hs, fun _ => fin⟩
theorem mnx_out {Nc : Nat} {H Y : am_I} {s : Int32} (hs : s = -1) (hN : N ≤ Nc ∧ Nc ≤ N + 9) (hR : RK t Nc H Y) (ha : agU I Y) (hK : ∀ s' Y', Rnx t N q g I (none, H) s' Y' → K (.inl (some (.inl s'))) Y' (am_p0 q0) J n) : K (.inl (some (.inl s))) (am_ui Y 21 28 (Y 21 28)) (am_p0 q0) J n :=
  hK _ _ ⟨⟨Nc, hN.1, hN.2, RK_f hR (by omega) _⟩, agU_28 ha _, hs⟩
theorem LN_RW {Nc : Nat} {H Y : am_I} (hW : RW q g G I) (hL : LN t N q g Nc G I H Y) : RW q g H Y := by
  intro f hf p hp
  rw [hL.2.2.2.2.2.2 (9 * f + p) (by omega), hL.2.2.2.2.1 _ (by omega) (by omega)]
  exact hW f hf p hp
theorem mnx_no {Nc : Nat} {H Y : am_I} (hN : Nc ≤ N + 9) (hL : LN t N q g Nc G I H Y) (hW : RW q g G I) (hK : ∀ s' Y', Rnx t N q g I (some false, H) s' Y' → K (.inl (some (.inl s'))) Y' (am_p0 q0) J n) : K (.inl (some (.inl 1))) (am_ui Y 21 28 (Y 21 28)) (am_p0 q0) J n :=
  hK _ _ ⟨⟨Nc, hL.1, hN, RK_f hL.2.1 (by omega) _⟩, agU_28 hL.2.2.1 _, rfl, hL.2.2.2.1, fun f hf p hp => LN_RW hW hL f hf p hp⟩
theorem mnx_loop (h42 : am_has C 42 T_mfetch) (hD : am_drop V) (hV : am_closed sc C tb_Mo_next V K) (ht : t ≤ 512) (hN : N + 9 < 2 ^ 31 - 1) (hq : q < 2) (hg : g < 7) (hj : j < r) (hRR : RR r G I) (hW : RW q g G I) (hbt : bt = G (56 + (8 * (1 - q) + g)) 6) :
    ∀ (k i Nc : Nat) (H Y : am_I), i + k = 8 → LN t N q g Nc G I H Y → Nc ≤ N + 1 + i → (∀ s' Y', Rnx t N q g I (cm_fill (8 * (1 - q) + g) (40 + j) k (i + 1) H) s' Y' → K (.inl (some (.inl s'))) Y' (am_p0 q0) J n) →
      V 155 [(0, .inr (.inr (some 21))), (1, .inl (nI (9 * g))), (2, .inl (nI j)), (3, .inl bt), (4, .inl 0), (5, .inl (nI i))] [] Y (am_p0 q0) J n := by
  intro k
  induction k with
  | zero =>
    intro i Nc H Y hi hL hNc hK
    obtain ⟨l0, l1, l2, l3, l4, l5, l6⟩ := hL
    apply hV; apply hV; apply hV
    refine ⟨fun _ => ?_, fun h => absurd (show nI 8 ≤ nI i from nI_le (by omega) (by omega)) h⟩
    refine mnx_end hV (fun _ => ?_) (fun h => absurd rfl h)
    refine hK _ _ ⟨⟨Nc, l0, by omega, RK_f l1 (by omega) _⟩, agU_28 l2 _, rfl, ?_, ?_⟩
    · show Y 21 28 + 1 = _
      rw [l3, nI_1]
    · intro f hf p hp
      by_cases e : f = g + 1
      · subst e
        exact l5 p hp
      · exact LN_RW hW ⟨l0, l1, l2, l3, l4, l5, l6⟩ f (by omega) p hp
  | succ k ih =>
    intro i Nc H Y hi hL hNc hK
    have hL0 := hL
    obtain ⟨l0, l1, l2, l3, l4, l5, l6⟩ := hL
    obtain ⟨r1, r2, r3, r4, r5, r6⟩ := hRR
    obtain ⟨-, -, -, -, sv⟩ := r4 j hj
    have e2 : (8 * nI j + nI i).toNatClampNeg = 8 * j + i := by rw [nI_82]; exact nI_clamp (by omega)
    have i2 : vp_in (8 * nI j + nI i) 64 := by rw [nI_82]; exact nI_in (by omega) (by omega)
    have ev : Y 33 (8 * j + i) = G (48 + j) i := by rw [l2.1 33 (by omega) (by omega)]; exact sv i (by omega)
    have eh : H (40 + j + 8) i = G (48 + j) i := by
      rw [show 40 + j + 8 = 48 + j by omega, l4 (48 + j) (by omega) (by omega)]
    have ebt : H (56 + (8 * (1 - q) + g)) 6 = bt := by rw [l4 _ (by omega) (by omega), hbt]
    unfold cm_fill at hK
    rw [show cm_pl (i + 1) = i from rfl, eh, ebt] at hK
    have next : ∀ (s' : Int32) (Y' : am_I), V 155 [(0, .inr (.inr (some 21))), (1, .inl (nI (9 * g))), (2, .inl (nI j)), (3, .inl bt), (4, .inl s'), (5, .inl (nI (i + 1)))] [] Y' (am_p0 q0) J n → V 209 [(0, .inr (.inr (some 21))), (1, .inl (nI (9 * g))), (2, .inl (nI j)), (3, .inl bt), (4, .inl s'), (5, .inl (nI i))] [] Y' (am_p0 q0) J n := by
      intro s' Y' h
      apply hV; apply hV
      show V 155 [(0, .inr (.inr (some 21))), (1, .inl (nI (9 * g))), (2, .inl (nI j)), (3, .inl bt), (4, .inl s'), (5, .inl (nI i + 1))] [] Y' (am_p0 q0) J n
      rw [← nI_succ]
      exact h
    apply hV; apply hV; apply hV
    refine ⟨fun h => absurd h (show ¬ nI 8 ≤ nI i from nI_ge (by omega) (by omega)), fun _ => ?_⟩
    apply hV; apply hV
    refine ⟨fun _ => ?_, fun h => absurd rfl h⟩
    apply hV; apply hV
    refine ⟨rfl, ?_⟩
    apply hV; apply hV; apply hV; apply hV; apply hV; apply hV
    refine ⟨i2, ?_⟩
    rw [e2, ev]
    rcases r5 j (by omega) i (by omega) with e1 | ⟨c, hc, e1⟩
    · rw [e1]
      rw [if_pos e1] at hK
      apply hV
      refine ⟨fun _ => ?_, fun h => absurd (by decide) h⟩
      exact next 0 Y (ih (i + 1) Nc H Y (by omega) hL0 (by omega) hK)
    · rw [e1]
      rw [if_neg (by rw [e1]; intro h; have : ¬ nI c < 0 := nI_pos (by omega); rw [h] at this; exact this (by decide))] at hK
      rw [e1] at ev hK
      apply hV
      refine ⟨fun h => absurd h (nI_pos (by omega)), fun _ => ?_⟩
      apply hV; apply hV; apply hV; apply hV
      refine ⟨rfl, ?_⟩
      apply hV; apply hV; apply hV; apply hV; apply hV; apply hV
      refine ⟨i2, ?_⟩
      rw [e2, ev]
      apply hV; apply hV; apply hV; apply hV; apply hV; apply hV; apply hV
      refine ⟨rfl, ?_⟩
      have epl : nI (9 * g) + 9 + nI i = nI (9 * (g + 1) + i) := by
        show nI (9 * g) + nI 9 + nI i = _
        rw [nI_add, nI_add]
        congr 1
      refine h42 _ _ _ _ _ _ ⟨rfl, ⟨_, rfl⟩, 9 * (g + 1) + i, by omega, epl, fun ha => ?_, fun ha => ⟨H, t, Nc, 56 + (8 * (1 - q) + g + 1), i, ht, by omega, l1, by omega, fun s Y' hf => ?_⟩⟩
      · simp only [ha] at hK
        apply hV
        exact next 1 Y (mnx_exit hV (by decide) (mnx_no (by omega) hL0 hW hK))
      · simp only [ha] at hK
        obtain ⟨b, H', eg, hb1, hb2⟩ := LN_get (by omega) hg hL0 hf
        rw [show 56 + (8 * (1 - q) + g + 1) = 56 + ((8 * (1 - q) + g) + 1) from rfl] at eg
        rw [eg] at hK
        show V 207 [(0, .inr (.inr (some 21))), (1, .inl (nI (9 * g))), (2, .inl (nI j)), (3, .inl bt), (4, .inl 0), (5, .inl (nI i))] [.inl s] Y' (am_p0 q0) J n
        apply hV
        cases b with
        | true =>
          obtain ⟨rfl, hL'⟩ := hb1 rfl
          exact next 0 Y' (ih (i + 1) (Nc + 1) H' Y' (by omega) hL' (by omega) hK)
        | false =>
          obtain ⟨hs, hR', ha'⟩ := hb2 rfl
          exact next s Y' (mnx_exit hV (by rw [hs]; decide) (mnx_out hs ⟨by omega, by omega⟩ hR' ha' hK))
end NX
