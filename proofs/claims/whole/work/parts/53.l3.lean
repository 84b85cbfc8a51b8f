/-! The law: unwind, evaluate, the loop. -/
theorem cm_frames_oth {q m : Nat} {k : Nat} (h : 12 ≤ k) : ∀ (d g : Nat) (I : am_I), g + d = 7 → ¬ (56 + 8 * (1 - q) ≤ k ∧ k < 64 + 8 * (1 - q)) → (cm_frames q m d g I).2 k = I k := by
  intro d
  induction d with
  | zero => intro g I _ _; rfl
  | succ d ih =>
    intro g I hg hk
    have e := cm_caller_oth (s := 8 * (1 - q) + g) (m := m) I (k := k) (by omega) (by omega) (by omega)
    unfold cm_frames
    generalize cm_caller (8 * (1 - q) + g) m I = y at e ⊢
    obtain ⟨b, I1⟩ := y
    match b, e with
    | some true, e => exact (ih (g + 1) I1 (by omega) hk).trans e
    | some false, e => exact e
    | none, e => exact e
theorem cm_unw_oth {q m : Nat} {k : Nat} (I : am_I) (h : 12 ≤ k) (hk : ¬ (56 + 8 * (1 - q) ≤ k ∧ k < 64 + 8 * (1 - q))) : (cm_unw q m I).2 k = I k := by
  have e1 := cm_get_oth (kind := 8) (a := 0) (rc := 56 + 8 * (1 - q)) (p := 8) I (k := k) (by omega) (by omega) (by omega)
  unfold cm_unw
  generalize cm_get 8 0 (56 + 8 * (1 - q)) 8 I = y at e1 ⊢
  obtain ⟨b, I1⟩ := y
  cases b with
  | false => exact e1
  | true =>
    have e2 := cm_regs_oth (rc := 56 + 8 * (1 - q)) (k := k) (by omega) (by omega) (by omega) 8 0 I1
    show (match (cm_regs (56 + 8 * (1 - q)) 8 0 I1).1 with | true => cm_frames q m 7 0 (cm_regs (56 + 8 * (1 - q)) 8 0 I1).2 | false => (none, (cm_regs (56 + 8 * (1 - q)) 8 0 I1).2) : Option Nat × am_I).2 k = I k
    generalize cm_regs (56 + 8 * (1 - q)) 8 0 I1 = z at e2 ⊢
    obtain ⟨b, I2⟩ := z
    cases b with
    | false => exact e2.trans e1
    | true => exact (cm_frames_oth h 7 0 I2 (by omega) hk).trans (e2.trans e1)
theorem rt_unw {t N N' q c : Nat} {I G Y : am_I} (hq : q < 2) (h : RT t N q I) (hoth : ∀ k, 12 ≤ k → ¬ (56 + 8 * (1 - q) ≤ k ∧ k < 64 + 8 * (1 - q)) → G k = I k) (hK : RK t N' G Y) (hag : agV (am_ui G 14 1 (nI c)) Y) (y26 : Y 21 26 = nI c) (hc : c ≤ 8) (y34 : ∀ f, f < c → ∀ p, p < 9 → Y 34 (9 * f + p) = G (56 + (8 * (1 - q) + f)) p) : RT (t + 1) N' (1 - q) Y := by
  have ya : ∀ k, ¬ (21 ≤ k ∧ k ≤ 28) → k ≠ 34 → k ≠ 35 → k ≠ 14 → Y k = G k := fun k h1 h2 h3 h4 => by rw [hag.1 k h1 h2 h3, am_ui_ne _ _ _ h4]
  have yf : ∀ a, 20 ≤ a → a ≠ 26 → a ≠ 28 → a ≠ 35 → Y 21 a = I 21 a := fun a h1 h2 h3 h4 => by rw [hag.2 a h1 h2 h3 h4, am_ui_ne _ _ _ (by omega), hoth 21 (by omega) (by omega)]
  have yi : ∀ k, 12 ≤ k → k < 56 → ¬ (21 ≤ k ∧ k ≤ 28) → k ≠ 34 → k ≠ 35 → k ≠ 14 → Y k = I k := fun k h0 h1 h2 h3 h4 h5 => by rw [ya k h2 h3 h4 h5, hoth k h0 (by omega)]
  obtain ⟨h1, ⟨r, h2⟩, h3, h4⟩ := h
  refine ⟨RK_t (RK_self hK (fun k hk => ya k (by omega) (by omega) (by omega) (by omega))) (by omega), ⟨r, RR_c2 h2 (fun k hk => yi k (by omega) (by omega) (by omega) (by omega) (by omega) (by omega)) (fun k k1 k2 => yi k (by omega) (by omega) (by omega) (by omega) (by omega) (by omega)) (yf 20 (by omega) (by omega) (by omega) (by omega))⟩, ⟨c, hc, y26, ?_, fun f hf p hp => ?_⟩, RE_c h4 (by rw [yi 15 (by omega) (by omega) (by omega) (by omega) (by omega) (by omega)]) (yi 16 (by omega) (by omega) (by omega) (by omega) (by omega) (by omega)) (yi 17 (by omega) (by omega) (by omega) (by omega) (by omega) (by omega)) (yi 36 (by omega) (by omega) (by omega) (by omega) (by omega) (by omega)) (yi 37 (by omega) (by omega) (by omega) (by omega) (by omega) (by omega)) (yf 30 (by omega) (by omega) (by omega) (by omega))⟩
  · rw [hag.1 14 (by omega) (by omega) (by omega), am_ui_eq, pb_upd, if_pos rfl]
  · rw [y34 f hf p hp, ya _ (by omega) (by omega) (by omega) (by omega)]
theorem rt_unw0 {t N N' q : Nat} {I G Y : am_I} (hq : q < 2) (h : RT t N q I) (hoth : ∀ k, 12 ≤ k → ¬ (56 + 8 * (1 - q) ≤ k ∧ k < 64 + 8 * (1 - q)) → G k = I k) (hK : RK t N' G Y) (hag : agV G Y) (y26 : Y 21 26 = G 21 26) (y34 : Y 34 = G 34) : RT (t + 1) N' q Y := by
  have ya : ∀ k, ¬ (21 ≤ k ∧ k ≤ 28) → k ≠ 34 → k ≠ 35 → Y k = G k := fun k h1 h2 h3 => hag.1 k h1 h2 h3
  have yf : ∀ a, 20 ≤ a → a ≠ 26 → a ≠ 28 → a ≠ 35 → Y 21 a = I 21 a := fun a h1 h2 h3 h4 => by rw [hag.2 a h1 h2 h3 h4, hoth 21 (by omega) (by omega)]
  have yi : ∀ k, 12 ≤ k → k < 56 → ¬ (21 ≤ k ∧ k ≤ 28) → k ≠ 34 → k ≠ 35 → Y k = I k := fun k h0 h1 h2 h3 h4 => by rw [ya k h2 h3 h4, hoth k h0 (by omega)]
  obtain ⟨h1, ⟨r, h2⟩, ⟨c, u1, u2, u3, u4⟩, h4⟩ := h
  refine ⟨RK_t (RK_self hK (fun k hk => ya k (by omega) (by omega) (by omega))) (by omega), ⟨r, RR_c2 h2 (fun k hk => yi k (by omega) (by omega) (by omega) (by omega) (by omega)) (fun k k1 k2 => yi k (by omega) (by omega) (by omega) (by omega) (by omega)) (yf 20 (by omega) (by omega) (by omega) (by omega))⟩, ⟨c, u1, ?_, ?_, fun f hf p hp => ?_⟩, RE_c h4 (by rw [yi 15 (by omega) (by omega) (by omega) (by omega) (by omega)]) (yi 16 (by omega) (by omega) (by omega) (by omega) (by omega)) (yi 17 (by omega) (by omega) (by omega) (by omega) (by omega)) (yi 36 (by omega) (by omega) (by omega) (by omega) (by omega)) (yi 37 (by omega) (by omega) (by omega) (by omega) (by omega)) (yf 30 (by omega) (by omega) (by omega) (by omega))⟩
  · rw [y26, hoth 21 (by omega) (by omega)]; exact u2
  · rw [yi 14 (by omega) (by omega) (by omega) (by omega) (by omega)]; exact u3
  · rw [y34, hoth 34 (by omega) (by omega), ya _ (by omega) (by omega) (by omega), hoth _ (by omega) (by omega)]
    exact u4 f hf p hp
theorem law_unwind {sc : am_S} {C : Nat → am_T} {k N q n : Nat} {J : am_J} {K : am_K} {V : am_W} {I : am_I} (h15 : am_has C 15 T_mthrown) (h95 : am_has C 95 T_La_unwind) (h44 : am_has C 44 T_munwind) (hV : am_closed sc C tb_La_law V K) (hk : k < 512) (hN : N ≤ 100 * k) (hq : q < 2) (hn : 1 ≤ n) (hR : RT k N q I) (hs : ∀ a, a ≤ 4 → vp_in (nI (5 * k) + nI a) sc.1) (next : law_nx V k N n) : V 438 [(0, .inr (.inr (some 900))), (1, .inr (.inr (some 0))), (2, .inr (.inr (some 21))), (3, .inr (.inr (some 39))), (4, .inl (nI (5 * k)))] [] I (am_p0 q) J n := by
  obtain ⟨r, hRR⟩ := hR.2.1
  have r1 := hRR.1
  have r3 := hRR.2.2.1
  have hoth := fun k (h : 12 ≤ k) hk => cm_unw_oth (q := q) (m := r) (k := k) I h hk
  obtain ⟨b, G, eg⟩ : ∃ b G, cm_unw q r I = (b, G) := ⟨_, _, rfl⟩
  rw [eg] at hoth
  have hoth : ∀ k, 12 ≤ k → ¬ (56 + 8 * (1 - q) ≤ k ∧ k < 64 + 8 * (1 - q)) → G k = I k := hoth
  apply hV; apply hV; apply hV
  refine h95 _ _ _ _ _ _ ⟨rfl, rfl, fun K' hK' => ⟨rfl, q, r, hq, rfl, r1, r3, RK_in hR.1, fun c G' e => ?_, fun G' e => ?_⟩⟩
  · rw [eg] at e
    cases e
    have hoth : ∀ k, 12 ≤ k → ¬ (56 + 8 * (1 - q) ≤ k ∧ k < 64 + 8 * (1 - q)) → G k = I k := hoth
    refine hK' _ _ _ _ _ ?_
    show V 443 [(0, .inr (.inr (some 900))), (1, .inr (.inr (some 0))), (2, .inr (.inr (some 21))), (3, .inr (.inr (some 39))), (4, .inl (nI (5 * k)))] [.inl 0] (am_ui G 14 1 (nI c)) (am_p0 (1 - q)) (am_uj J 39 0 (nI c).toInt64) n
    apply hV; apply hV; apply hV
    refine ⟨rfl, ?_⟩
    refine h44 _ _ _ _ _ _ ⟨rfl, ⟨_, rfl⟩, I, k, N, q, r, hq, by omega, by omega, RK_cells hR.1 (fun _ _ => rfl) (fun j h1 h2 => ?_) (fun a ha => ?_), RR_c2 hRR (fun _ _ => rfl) (fun j h1 h2 => ?_) ?_, fun ret Y hy => ?_⟩
    · rw [am_ui_ne _ _ _ (by omega), hoth j (by omega) (by omega)]
    · rw [am_ui_ne _ _ _ (by omega), hoth 21 (by omega) (by omega)]
    · rw [am_ui_ne _ _ _ (by omega), hoth j (by omega) (by omega)]
    · rw [am_ui_ne _ _ _ (by omega), hoth 21 (by omega) (by omega)]
    rw [eg] at hy
    obtain ⟨⟨N', n1, n2, y1⟩, y2, y3, y4, y5, y6, y7, y8⟩ := hy
    have y4 : ret = nI c := y4
    subst y4
    apply hV; apply hV
    apply hV
    refine ⟨rfl, ?_⟩
    refine h15 _ _ _ _ _ _ ⟨rfl, ?_⟩
    apply hV
    apply hV
    refine ⟨fun _ => ?_, fun h => absurd y3 h⟩
    apply hV; apply hV
    refine ⟨fun _ => ?_, fun h => absurd (show (0 : Int32) = 0 from rfl) h⟩
    apply hV; apply hV; apply hV
    refine ⟨by unfold vp_in; decide, ?_⟩
    apply hV; apply hV; apply hV; apply hV
    refine ⟨fun _ => ?_, fun h => absurd (lg_self _) h⟩
    apply hV
    exact next _ (1 - q) _ N' _ _ (by omega) (by omega) (by omega) (rt_unw hq hR hoth y1 y2 y5 y7 y8)
  · rw [eg] at e
    cases e
    have hoth : ∀ k, 12 ≤ k → ¬ (56 + 8 * (1 - q) ≤ k ∧ k < 64 + 8 * (1 - q)) → G k = I k := hoth
    refine ⟨n - 1, by omega, hK' _ _ _ _ _ ?_⟩
    show V 443 [(0, .inr (.inr (some 900))), (1, .inr (.inr (some 0))), (2, .inr (.inr (some 21))), (3, .inr (.inr (some 39))), (4, .inl (nI (5 * k)))] [.inl 1] G (am_p0 q) J (n - 1)
    apply hV; apply hV; apply hV
    refine ⟨rfl, ?_⟩
    refine h44 _ _ _ _ _ _ ⟨rfl, ⟨_, rfl⟩, I, k, N, q, r, hq, by omega, by omega, RK_cells hR.1 (fun _ _ => rfl) (fun j h1 h2 => ?_) (fun a ha => ?_), RR_c2 hRR (fun _ _ => rfl) (fun j h1 h2 => ?_) ?_, fun ret Y hy => ?_⟩
    · rw [hoth j (by omega) (by omega)]
    · rw [hoth 21 (by omega) (by omega)]
    · rw [hoth j (by omega) (by omega)]
    · rw [hoth 21 (by omega) (by omega)]
    rw [eg] at hy
    obtain ⟨⟨N', n1, n2, y1⟩, y2, y3, y4, y5, y6⟩ := hy
    apply hV; apply hV
    apply hV
    refine ⟨rfl, ?_⟩
    refine h15 _ _ _ _ _ _ ⟨rfl, ?_⟩
    apply hV
    apply hV
    refine ⟨fun _ => ?_, fun h => absurd y3 h⟩
    apply hV; apply hV
    refine ⟨fun h => absurd h (by decide), fun _ => ?_⟩
    apply hV
    exact next _ q _ N' _ _ hq (by omega) (by omega) (rt_unw0 hq hR hoth y1 y2 y6 y5)
/-- what an operation leaves as it was, done or not; which exceptions it knows -/
def cz_o (I : am_I) (x : Option Nat × am_I) : Prop := (∀ k, 12 ≤ k → k ≠ 15 → k ≠ 18 → x.2 k = I k) ∧ x.2 15 0 = I 15 0 ∧ ∀ E, x.1 = some E → E = 1 ∨ E = 2 ∨ E = 3 ∨ E = 5
theorem cz_2 (I : am_I) : cz_o I (some 2, I) := ⟨fun _ _ _ _ => rfl, rfl, fun E e => by cases e; exact Or.inr (Or.inl rfl)⟩
theorem cz_push (x : Int32) (I : am_I) : cz_o I (cm_push x I) := by
  unfold cm_push
  split
  · exact cz_2 I
  · exact ⟨fun k h1 h2 h3 => (am_ui_ne _ _ _ h2).trans (am_ui_ne _ _ _ h3), rfl, fun E e => by cases e⟩
theorem cz_opw (I : am_I) : cz_o I (cm_opw I) := by
  have hoth := ask_oth (kind := 2) (a := I 18 (I 15 1 - 1).toNatClampNeg) (v := 0) (I := I)
  unfold cm_opw
  cases cs_adr (I 18 (I 15 1 - 1).toNatClampNeg) with
  | false => exact ⟨fun _ _ _ _ => rfl, rfl, fun E e => by cases e; exact Or.inl rfl⟩
  | true =>
    generalize cm_ask 4 (cm_wr 2 (I 18 (I 15 1 - 1).toNatClampNeg) 0 I) = y at hoth ⊢
    obtain ⟨b, G⟩ := y
    have hoth : ∀ k, 12 ≤ k → G k = I k := hoth
    cases b with
    | none => exact ⟨fun k h1 _ _ => hoth k h1, by rw [hoth 15 (by omega)], fun E e => by cases e; exact Or.inr (Or.inr (Or.inl rfl))⟩
    | some y =>
      refine ⟨fun k h1 h2 h3 => ?_, ?_, fun E e => by cases e⟩
      · exact (am_ui_ne _ _ _ h3).trans (hoth k h1)
      · show am_ui G 18 (I 15 1 - 1).toNatClampNeg y 15 0 = _
        have hoth : ∀ k, 12 ≤ k → G k = I k := hoth
        rw [am_ui_ne _ _ _ (by omega), hoth 15 (by omega)]
theorem cz_join (op : Int32) (I : am_I) : cz_o I (cm_join op I) := by
  unfold cm_join
  cases cm_comb op (I 18 (I 15 1 - 2).toNatClampNeg) (I 18 (I 15 1 - 1).toNatClampNeg) with
  | none => exact ⟨fun _ _ _ _ => rfl, rfl, fun E e => by cases e; exact Or.inr (Or.inr (Or.inr rfl))⟩
  | some x => exact ⟨fun k h1 h2 h3 => (am_ui_ne _ _ _ h2).trans (am_ui_ne _ _ _ h3), rfl, fun E e => by cases e⟩
theorem cz_apply (op v : Int32) (row : Nat → Int32) (I : am_I) : cz_o I (cm_apply op v row I) := by
  have ite2 : ∀ (p : Prop) [Decidable p] (x : Option Nat × am_I), cz_o I x → cz_o I (if p then x else (some 2, I)) := fun p _ x h => by
    by_cases hp : p
    · rw [if_pos hp]; exact h
    · rw [if_neg hp]; exact cz_2 I
  unfold cm_apply
  by_cases c0 : op = 0
  · rw [if_pos c0]; exact cz_push _ _
  rw [if_neg c0]
  by_cases c1 : op = 1
  · rw [if_pos c1]; exact cz_push _ _
  rw [if_neg c1]
  by_cases c2 : op = 2
  · rw [if_pos c2]; exact ite2 _ _ (cz_opw I)
  rw [if_neg c2]
  by_cases c7 : op = 7
  · rw [if_pos c7]; exact ite2 _ _ (cz_push _ _)
  rw [if_neg c7]
  by_cases c8 : op = 8
  · rw [if_pos c8]
    refine ite2 _ _ ⟨fun k h1 h2 h3 => ?_, rfl, fun E e => by cases e⟩
    exact (am_ui_ne _ _ _ h3).trans (am_ui_ne _ _ _ h3)
  rw [if_neg c8]
  by_cases c9 : op = 9
  · rw [if_pos c9]
    refine ite2 _ _ ⟨fun k h1 h2 h3 => am_ui_ne _ _ _ h2, rfl, fun E e => by cases e⟩
  rw [if_neg c9]
  by_cases c10 : op = 10
  · rw [if_pos c10]; exact ite2 _ _ (cz_push _ _)
  rw [if_neg c10]
  exact ite2 _ _ (cz_join op I)
theorem cz_evl (r : Nat) : ∀ (k i : Nat) (I : am_I), cz_o I (cm_evl r k i I) := by
  intro k
  induction k with
  | zero => intro i I; exact ⟨fun _ _ _ _ => rfl, rfl, fun E e => by cases e⟩
  | succ k ih =>
    intro i I
    have h := cz_apply (I 16 i) (I 17 i) (I r) I
    unfold cm_evl
    generalize cm_apply (I 16 i) (I 17 i) (I r) I = y at h ⊢
    obtain ⟨b, G⟩ := y
    cases b with
    | none =>
      obtain ⟨a1, a2, a3⟩ := ih (i + 1) G
      exact ⟨fun k h1 h2 h3 => (a1 k h1 h2 h3).trans (h.1 k h1 h2 h3), a2.trans h.2.1, a3⟩
    | some E => exact h
theorem kh_code {K : am_K} {E n : Nat} {I : am_I} {P : am_P} {J : am_J} (hE : E = 1 ∨ E = 2 ∨ E = 3 ∨ E = 5) (h : K (.inl (some (.inl (mo_code E)))) I P J n) : am_kh [(4, 1), (2, 2), (5, 3), (1, 4), (3, 5)] K E I P J n := by
  rcases hE with rfl | rfl | rfl | rfl
  · exact h
  · exact h
  · exact h
  · exact h
theorem rt_evl {t N N' q : Nat} {I G Y : am_I} (hq : q < 2) (h : RT t N q I) (ho : ∀ k, 12 ≤ k → k ≠ 15 → k ≠ 18 → G k = I k) (h15 : G 15 0 = I 15 0) (hK : RK t N' G Y) (hag : agE G Y) : RT (t + 1) N' q Y := by
  refine RT_of hq h (RK_self hK (fun k hk => hag.1 k (by omega) (by omega))) (fun k k1 k2 k3 k4 _ k6 _ => (hag.1 k k2 k6).trans (ho k k1 k3 k4)) ?_ (fun a h1 h2 h3 h4 => ?_)
  · rw [hag.1 15 (by omega) (by omega)]; exact h15
  · rw [hag.2 a h1 h3 h4, ho 21 (by omega) (by omega) (by omega)]
theorem rt_of_x {t N q : Nat} {I X : am_I} (hq : q < 2) (h : RT t N q I) (xo : ∀ k, k ≠ 21 → X k = I k) (xf : ∀ a, a ≠ 33 → a ≠ 35 → X 21 a = I 21 a) : RT (t + 1) N q X :=
  RT_of hq h (RK_cells h.1 (fun k hk => xo k (by omega)) (fun k k1 k2 => xo k (by omega)) (fun a ha => xf a (by omega) (by omega))) (fun k k1 k2 _ _ _ _ _ => xo k (by omega)) (by rw [xo 15 (by omega)]) (fun a _ _ h3 h4 => xf a h3 h4)
theorem law_evaluate {sc : am_S} {C : Nat → am_T} {k N q n : Nat} {J : am_J} {K : am_K} {V : am_W} {I : am_I} (h15 : am_has C 15 T_mthrown) (h98 : am_has C 98 T_La_evaluate) (h52 : am_has C 52 T_mevaluate) (hV : am_closed sc C tb_La_law V K) (hk : k < 512) (hN : N ≤ 100 * k) (hq : q < 2) (hn : 1 ≤ n) (hR : RT k N q I) (hs : ∀ a, a ≤ 4 → vp_in (nI (5 * k) + nI a) sc.1) (next : law_nx V k N n) : V 631 [(0, .inr (.inr (some 900))), (1, .inr (.inr (some 0))), (2, .inr (.inr (some 21))), (3, .inr (.inr (some 39))), (4, .inl (nI (5 * k)))] [] I (am_p0 q) J n := by
  obtain ⟨cc, u1, u2, u3, u4⟩ := hR.2.2.1
  obtain ⟨e, v1, v2, v3, v4⟩ := hR.2.2.2
  apply hV
  apply hV; apply hV; apply hV; apply hV; apply hV
  refine ⟨hs 1 (by omega), ?_⟩
  apply hV; apply hV
  generalize ef : sc.2 (nI (5 * k) + 1).toNatClampNeg = f
  have eq : (!decide (f < 0) && !decide (I 14 1 ≤ f)) = (!decide (f < 0) && decide (f < I 21 26)) := by
    rw [u3, u2, Bool.eq_iff_iff]
    simp only [Bool.and_eq_true, Bool.not_eq_true', decide_eq_false_iff_not, decide_eq_true_eq, Int32.lt_iff_toInt_lt, Int32.le_iff_toInt_le]
    omega
  refine h98 _ _ _ _ _ _ ⟨rfl, rfl, fun K' hK' => ⟨rfl, q, hq, rfl, fun c => ?_, fun c => ?_⟩⟩
  · refine ⟨n - 1, by omega, hK' _ _ _ _ _ ?_⟩
    show V 642 [(0, .inr (.inr (some 900))), (1, .inr (.inr (some 0))), (2, .inr (.inr (some 21))), (3, .inr (.inr (some 39))), (4, .inl (nI (5 * k)))] [.inl 1] I (am_p0 q) J (n - 1)
    apply hV; apply hV
    apply hV; apply hV; apply hV; apply hV; apply hV
    refine ⟨hs 1 (by omega), ?_⟩
    apply hV
    refine ⟨rfl, ?_⟩
    rw [ef]
    refine h52 _ _ _ _ _ _ ⟨rfl, ⟨_, rfl⟩, fun _ X xo xf x35 => ?_, fun g => absurd (c.symm.trans (eq.trans g)) (by decide)⟩
    apply hV; apply hV
    apply hV
    refine ⟨rfl, ?_⟩
    refine h15 _ _ _ _ _ _ ⟨rfl, ?_⟩
    apply hV
    apply hV
    refine ⟨fun _ => ?_, fun h => absurd x35 h⟩
    apply hV; apply hV
    refine ⟨fun h => absurd h (by decide), fun _ => ?_⟩
    apply hV
    exact next _ q _ N _ _ hq (by omega) (by omega) (rt_of_x hq hR xo xf)
  · have c' := c
    simp only [Bool.and_eq_true, Bool.not_eq_true', decide_eq_false_iff_not] at c'
    obtain ⟨f0, f1⟩ := c'
    obtain ⟨j, hj, rfl⟩ := nI_of f0
    have hjc : j < cc := by
      rw [u3, nI_leI (by omega) (by omega)] at f1
      omega
    obtain ⟨ho, h15c, hE⟩ := cz_evl (56 + (8 * q + j)) e 0 (am_ui I 15 1 0)
    obtain ⟨b, G, eg⟩ : ∃ b G, cm_evl (56 + (8 * q + j)) e 0 (am_ui I 15 1 0) = (b, G) := ⟨_, _, rfl⟩
    rw [eg] at ho h15c hE
    have ho : ∀ k, 12 ≤ k → k ≠ 15 → k ≠ 18 → G k = I k := fun k h1 h2 h3 => (ho k h1 h2 h3).trans (am_ui_ne _ _ _ h2)
    have h15c : G 15 0 = I 15 0 := h15c
    have hE : ∀ E, b = some E → E = 1 ∨ E = 2 ∨ E = 3 ∨ E = 5 := hE
    have hRK : RK k N (am_ui I 15 1 0) G := RK_cells hR.1 (fun k hk => am_ui_ne _ _ _ (by omega)) (fun k h1 h2 => ho k (by omega) (by omega) (by omega)) (fun a ha => by rw [ho 21 (by omega) (by omega) (by omega)])
    have hop : ROp e (am_ui I 15 1 0) G := fun a ha => by
      rw [ho 36 (by omega) (by omega) (by omega), ho 37 (by omega) (by omega) (by omega)]
      exact v4 a ha
    have g30 : G 21 30 = nI e := by rw [ho 21 (by omega) (by omega) (by omega)]; exact v2
    have g26 : G 21 26 = I 21 26 := by rw [ho 21 (by omega) (by omega) (by omega)]
    have grow : ∀ p, p < 8 → G 34 (9 * j + p) = am_ui I 15 1 0 (56 + (8 * q + j)) p := fun p hp => by
      rw [ho 34 (by omega) (by omega) (by omega), am_ui_ne _ _ _ (by omega)]
      exact u4 j hjc p (by omega)
    have hno : (!decide (nI j < 0) && decide (nI j < G 21 26)) = true := by rw [g26, ← eq]; exact c
    have model : ∀ (z : Int32) (J2 : am_J) (n2 : Nat), n ≤ n2 + 1 → (∀ ret Y, Rev k N e G (b, G) ret Y → Y 21 35 = z ∧ (z = 0 → J2 39 0 = ret.toInt64)) → V 642 [(0, .inr (.inr (some 900))), (1, .inr (.inr (some 0))), (2, .inr (.inr (some 21))), (3, .inr (.inr (some 39))), (4, .inl (nI (5 * k)))] [.inl z] G (am_p0 q) J2 n2 := by
      intro z J2 n2 hn2 hz
      apply hV; apply hV
      apply hV; apply hV; apply hV; apply hV; apply hV
      refine ⟨hs 1 (by omega), ?_⟩
      apply hV
      refine ⟨rfl, ?_⟩
      rw [ef]
      refine h52 _ _ _ _ _ _ ⟨rfl, ⟨_, rfl⟩, fun g => absurd (hno.symm.trans g) (by decide), fun _ => ⟨am_ui I 15 1 0, k, N, j, e, 56 + (8 * q + j), by omega, by omega, rfl, by omega, v1, by omega, rfl, hRK, g30, hop, grow, fun ret Y hy => ?_⟩⟩
      rw [eg] at hy
      obtain ⟨z1, z2⟩ := hz ret Y hy
      obtain ⟨⟨N', n1, n2', y1⟩, y2, -⟩ := hy
      have fin : ∀ ls, V 712 ((0, .inr (.inr (some 900))) :: (1, .inr (.inr (some 0))) :: (2, .inr (.inr (some 21))) :: (3, .inr (.inr (some 39))) :: (4, .inl (nI (5 * k))) :: ls) [] Y (am_p0 q) J2 n2 := fun ls => next _ q _ N' _ ls hq (by omega) hn2 (rt_evl hq hR ho h15c y1 y2)
      apply hV; apply hV
      apply hV
      refine ⟨rfl, ?_⟩
      refine h15 _ _ _ _ _ _ ⟨rfl, ?_⟩
      apply hV
      apply hV
      refine ⟨fun _ => ?_, fun h => absurd z1 h⟩
      apply hV; apply hV
      refine ⟨fun h0 => ?_, fun _ => ?_⟩
      · apply hV; apply hV; apply hV
        refine ⟨by unfold vp_in; decide, ?_⟩
        have z3 : J2 39 (0 : Int32).toNatClampNeg = ret.toInt64 := z2 h0
        rw [z3]
        apply hV; apply hV; apply hV; apply hV
        refine ⟨fun _ => ?_, fun h => absurd (lg_self _) h⟩
        apply hV
        exact fin _
      · apply hV
        exact fin _
    refine ⟨j, e, by omega, v1, rfl, v3, RK_in hR.1, fun a ha h1 => ?_, fun E G' eE => ?_, fun G' eN => ⟨fun s1 => ?_, fun s1 => ?_⟩⟩
    · obtain ⟨-, -, d, hd, o1, o2⟩ := v4 a ha
      have d1 : d = 1 := (nI_eq (by omega) (by omega)).1 (o1.symm.trans h1)
      obtain ⟨p, hp, ep⟩ := o2 d1
      rw [ep]
      exact nI_in (by omega) (by omega)
    · rw [eg] at eE
      cases eE
      refine ⟨n - 1, by omega, hK' _ _ _ _ _ (kh_code (hE E rfl) ?_)⟩
      refine model (mo_code E) J (n - 1) (by omega) (fun ret Y hy => ?_)
      obtain ⟨-, -, y3, -⟩ := hy
      exact ⟨y3, fun h0 => absurd h0 (mo_code_0 E)⟩
    · rw [eg] at eN
      cases eN
      refine hK' _ _ _ _ _ ?_
      refine model 0 (am_uj J 39 0 (G 18 (G 15 1 - 1).toNatClampNeg).toInt64) n (by omega) (fun ret Y hy => ?_)
      obtain ⟨-, -, y3, -⟩ := hy
      obtain ⟨y4, y5⟩ := y3 s1
      exact ⟨y4, fun _ => by rw [y5]; rfl⟩
    · rw [eg] at eN
      cases eN
      refine ⟨n - 1, by omega, hK' _ _ _ _ _ ?_⟩
      refine model 2 J (n - 1) (by omega) (fun ret Y hy => ?_)
      obtain ⟨-, -, -, y3⟩ := hy
      exact ⟨(y3 s1).1, fun h0 => absurd h0 (by decide)⟩
