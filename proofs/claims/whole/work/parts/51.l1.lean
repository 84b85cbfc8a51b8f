/-! The law's loop, case by case. -/
theorem lg_self (x : Int64) : lg_cmp x x = 0 := by unfold lg_cmp; simp
def law_nx (V : am_W) (k N n : Nat) : Prop := ∀ (I' : am_I) (q' : Nat) (J' : am_J) (N' n' : Nat) (ls : am_L), q' < 2 → N' ≤ N + 100 → n ≤ n' + 1 → RT (k + 1) N' q' I' → V 712 ((0, .inr (.inr (some 900))) :: (1, .inr (.inr (some 0))) :: (2, .inr (.inr (some 21))) :: (3, .inr (.inr (some 39))) :: (4, .inl (nI (5 * k))) :: ls) [] I' (am_p0 q') J' n'
theorem law_load {sc : am_S} {C : Nat → am_T} {k N q n : Nat} {J : am_J} {K : am_K} {V : am_W} {I : am_I} (h0 : am_has C 0 T_load) (h17 : am_has C 17 T_mload) (hV : am_closed sc C tb_La_law V K) (hk : k < 512) (hN : N ≤ 100 * k) (hq : q < 2) (hn : 1 ≤ n) (hR : RT k N q I) (hs : ∀ a, a ≤ 4 → vp_in (nI (5 * k) + nI a) sc.1) (next : law_nx V k N n) : V 100 [(0, .inr (.inr (some 900))), (1, .inr (.inr (some 0))), (2, .inr (.inr (some 21))), (3, .inr (.inr (some 39))), (4, .inl (nI (5 * k)))] [] I (am_p0 q) J n := by
  apply hV
  apply hV; apply hV; apply hV; apply hV; apply hV
  refine ⟨hs 1 (by omega), ?_⟩
  apply hV; apply hV; apply hV; apply hV; apply hV
  refine ⟨hs 2 (by omega), ?_⟩
  apply hV
  refine ⟨rfl, ?_⟩
  refine h0 _ _ _ _ _ _ ⟨rfl, ⟨_, rfl⟩, fun ha => ?_, fun ha => ?_⟩
  · apply hV
    apply hV; apply hV; apply hV; apply hV; apply hV
    refine ⟨hs 1 (by omega), ?_⟩
    apply hV; apply hV; apply hV; apply hV; apply hV
    refine ⟨hs 2 (by omega), ?_⟩
    apply hV
    refine ⟨rfl, ?_⟩
    refine h17 _ _ _ _ _ _ ⟨rfl, ⟨_, rfl⟩, fun _ => ?_, fun hb => absurd (ha.symm.trans hb) (by decide)⟩
    apply hV
    exact ⟨fun _ => next _ q _ N n [] hq (by omega) (by omega) (rt_load hq hR _ _), fun h => absurd rfl h⟩
  · apply hV
    apply hV; apply hV; apply hV; apply hV; apply hV
    refine ⟨hs 1 (by omega), ?_⟩
    apply hV; apply hV; apply hV; apply hV; apply hV
    refine ⟨hs 2 (by omega), ?_⟩
    apply hV
    refine ⟨rfl, ?_⟩
    refine h17 _ _ _ _ _ _ ⟨rfl, ⟨_, rfl⟩, fun hb => absurd (hb.symm.trans ha) (by decide), fun _ => ?_⟩
    apply hV
    exact ⟨fun _ => next _ q _ N n [] hq (by omega) (by omega) (rt_35 hq hR _), fun h => absurd rfl h⟩
theorem law_byteAt {sc : am_S} {C : Nat → am_T} {k N q n : Nat} {J : am_J} {K : am_K} {V : am_W} {I : am_I} (h3 : am_has C 3 T_byteAt) (h38 : am_has C 38 T_mbyteAt) (hV : am_closed sc C tb_La_law V K) (hk : k < 512) (hN : N ≤ 100 * k) (hq : q < 2) (hn : 1 ≤ n) (hR : RT k N q I) (hs : ∀ a, a ≤ 4 → vp_in (nI (5 * k) + nI a) sc.1) (next : law_nx V k N n) : V 273 [(0, .inr (.inr (some 900))), (1, .inr (.inr (some 0))), (2, .inr (.inr (some 21))), (3, .inr (.inr (some 39))), (4, .inl (nI (5 * k)))] [] I (am_p0 q) J n := by
  apply hV
  apply hV; apply hV; apply hV; apply hV; apply hV
  refine ⟨hs 1 (by omega), ?_⟩
  apply hV
  refine ⟨rfl, ?_⟩
  refine h3 _ _ _ _ _ _ ⟨rfl, ⟨_, rfl⟩, ?_⟩
  apply hV
  apply hV; apply hV; apply hV; apply hV; apply hV
  refine ⟨hs 1 (by omega), ?_⟩
  apply hV
  refine ⟨rfl, ?_⟩
  refine h38 _ _ _ _ _ _ ⟨rfl, ⟨_, rfl⟩, ?_⟩
  apply hV
  exact ⟨fun _ => next _ q _ N n [] hq (by omega) (by omega) (rt_35 hq hR _), fun h => absurd (rt_byte hR _) h⟩
theorem law_count {sc : am_S} {C : Nat → am_T} {k N q n : Nat} {J : am_J} {K : am_K} {V : am_W} {I : am_I} (h11 : am_has C 11 T_count) (h53 : am_has C 53 T_mcount) (hV : am_closed sc C tb_La_law V K) (hk : k < 512) (hN : N ≤ 100 * k) (hq : q < 2) (hn : 1 ≤ n) (hR : RT k N q I) (hs : ∀ a, a ≤ 4 → vp_in (nI (5 * k) + nI a) sc.1) (next : law_nx V k N n) : V 687 [(0, .inr (.inr (some 900))), (1, .inr (.inr (some 0))), (2, .inr (.inr (some 21))), (3, .inr (.inr (some 39))), (4, .inl (nI (5 * k)))] [] I (am_p0 q) J n := by
  apply hV
  apply hV; apply hV; apply hV; apply hV; apply hV
  refine ⟨hs 1 (by omega), ?_⟩
  apply hV
  refine ⟨rfl, ?_⟩
  refine h11 _ _ _ _ _ _ ⟨rfl, ⟨_, rfl⟩, ?_⟩
  apply hV
  apply hV; apply hV; apply hV; apply hV; apply hV
  refine ⟨hs 1 (by omega), ?_⟩
  apply hV
  refine ⟨rfl, ?_⟩
  refine h53 _ _ _ _ _ _ ⟨rfl, ?_⟩
  apply hV
  exact ⟨fun _ => next _ q _ N n [] hq (by omega) (by omega) (rt_35 hq hR _), fun h => absurd (rt_count hR _) h⟩
theorem rt_drop {t N q : Nat} {I : am_I} (hq : q < 2) (h : RT t N q I) : I 15 0 = I 21 30 ∧ RT (t + 1) N q (am_ui (am_ui (am_ui I 15 0 0) 21 35 0) 21 30 0) := by
  obtain ⟨h1, ⟨r, h2⟩, h3, e, h4, h5, h6, h7⟩ := h
  refine ⟨h6.trans h5.symm, RK_t (RK_cells h1 (fun k hk => ?_) (fun k k1 k2 => ?_) (fun a ha => ?_)) (by omega), ⟨r, RR_c2 h2 (fun k hk => ?_) (fun k k1 k2 => ?_) rfl⟩, RU_c h3 hq rfl (fun k k1 k2 => ?_) rfl rfl, 0, by omega, rfl, rfl, fun a ha => absurd ha (by omega)⟩
  · rw [am_ui_ne _ _ _ (by omega), am_ui_ne _ _ _ (by omega), am_ui_ne _ _ _ (by omega)]
  · rw [am_ui_ne _ _ _ (by omega), am_ui_ne _ _ _ (by omega), am_ui_ne _ _ _ (by omega)]
  · rw [am_ui_eq, pb_upd, if_neg (by omega), am_ui_eq, pb_upd, if_neg (by omega)]
    rfl
  · rw [am_ui_ne _ _ _ (by omega), am_ui_ne _ _ _ (by omega), am_ui_ne _ _ _ (by omega)]
  · rw [am_ui_ne _ _ _ (by omega), am_ui_ne _ _ _ (by omega), am_ui_ne _ _ _ (by omega)]
  · rw [am_ui_ne _ _ _ (by omega), am_ui_ne _ _ _ (by omega), am_ui_ne _ _ _ (by omega)]
theorem law_drop {sc : am_S} {C : Nat → am_T} {k N q n : Nat} {J : am_J} {K : am_K} {V : am_W} {I : am_I} (h9 : am_has C 9 T_drop) (h47 : am_has C 47 T_mdrop) (hV : am_closed sc C tb_La_law V K) (hk : k < 512) (hN : N ≤ 100 * k) (hq : q < 2) (hn : 1 ≤ n) (hR : RT k N q I) (hs : ∀ a, a ≤ 4 → vp_in (nI (5 * k) + nI a) sc.1) (next : law_nx V k N n) : V 618 [(0, .inr (.inr (some 900))), (1, .inr (.inr (some 0))), (2, .inr (.inr (some 21))), (3, .inr (.inr (some 39))), (4, .inl (nI (5 * k)))] [] I (am_p0 q) J n := by
  apply hV; apply hV
  refine ⟨rfl, ?_⟩
  refine h9 _ _ _ _ _ _ ⟨rfl, ⟨_, rfl⟩, ?_⟩
  apply hV; apply hV
  refine ⟨rfl, ?_⟩
  refine h47 _ _ _ _ _ _ ⟨rfl, ?_⟩
  apply hV
  exact ⟨fun _ => next _ q _ N n [] hq (by omega) (by omega) (rt_drop hq hR).2, fun h => absurd (rt_drop hq hR).1 h⟩
theorem law_fault {sc : am_S} {C : Nat → am_T} {k N q n : Nat} {J : am_J} {K : am_K} {V : am_W} {I : am_I} (h15 : am_has C 15 T_mthrown) (h91 : am_has C 91 T_La_fault) (h36 : am_has C 36 T_mfault) (hV : am_closed sc C tb_La_law V K) (hk : k < 512) (hN : N ≤ 100 * k) (hq : q < 2) (hn : 1 ≤ n) (hR : RT k N q I) (hs : ∀ a, a ≤ 4 → vp_in (nI (5 * k) + nI a) sc.1) (next : law_nx V k N n) : V 137 [(0, .inr (.inr (some 900))), (1, .inr (.inr (some 0))), (2, .inr (.inr (some 21))), (3, .inr (.inr (some 39))), (4, .inl (nI (5 * k)))] [] I (am_p0 q) J n := by
  obtain ⟨w, f, hw, hf, e1, e2, e3⟩ := RT_w hR
  apply hV
  apply hV; apply hV; apply hV; apply hV; apply hV
  refine ⟨hs 1 (by omega), ?_⟩
  apply hV; apply hV
  refine h91 _ _ _ _ _ _ ⟨rfl, rfl, fun K' hK' => ⟨rfl, ⟨_, rfl⟩, fun c => ?_, fun c1 c2 => ?_, fun c1 c2 => ?_⟩⟩
  · refine ⟨n - 1, by omega, hK' _ _ _ _ _ ?_⟩
    show V 148 [(0, .inr (.inr (some 900))), (1, .inr (.inr (some 0))), (2, .inr (.inr (some 21))), (3, .inr (.inr (some 39))), (4, .inl (nI (5 * k)))] [.inl 1] I (am_p0 q) J (n - 1)
    apply hV; apply hV
    apply hV; apply hV; apply hV; apply hV; apply hV
    refine ⟨hs 1 (by omega), ?_⟩
    apply hV
    refine ⟨rfl, ?_⟩
    refine h36 _ _ _ _ _ _ ⟨rfl, ⟨_, rfl⟩, w, hw, e1, fun _ => ?_, fun g => absurd g c, fun g => absurd g c⟩
    apply hV; apply hV
    apply hV
    refine ⟨rfl, ?_⟩
    refine h15 _ _ _ _ _ _ ⟨rfl, ?_⟩
    apply hV
    apply hV
    refine ⟨fun _ => ?_, fun h => absurd rfl h⟩
    apply hV; apply hV
    refine ⟨fun h => absurd h (by decide), fun _ => ?_⟩
    apply hV
    exact next _ q _ N _ _ hq (by omega) (by omega) (rt_35 hq hR _)
  · have w40 : w = 40 := (nI_eq (by omega) (by omega)).1 (e2.symm.trans c2)
    refine ⟨n - 1, by omega, hK' _ _ _ _ _ ?_⟩
    show V 148 [(0, .inr (.inr (some 900))), (1, .inr (.inr (some 0))), (2, .inr (.inr (some 21))), (3, .inr (.inr (some 39))), (4, .inl (nI (5 * k)))] [.inl 2] I (am_p0 q) J (n - 1)
    apply hV; apply hV
    apply hV; apply hV; apply hV; apply hV; apply hV
    refine ⟨hs 1 (by omega), ?_⟩
    apply hV
    refine ⟨rfl, ?_⟩
    refine h36 _ _ _ _ _ _ ⟨rfl, ⟨_, rfl⟩, w, hw, e1, fun g => absurd c1 g, fun _ _ => ?_, fun _ g => absurd g (by omega)⟩
    apply hV; apply hV
    apply hV
    refine ⟨rfl, ?_⟩
    refine h15 _ _ _ _ _ _ ⟨rfl, ?_⟩
    apply hV
    apply hV
    refine ⟨fun _ => ?_, fun h => absurd rfl h⟩
    apply hV; apply hV
    refine ⟨fun h => absurd h (by decide), fun _ => ?_⟩
    apply hV
    exact next _ q _ N _ _ hq (by omega) (by omega) (rt_35 hq hR _)
  · have w40 : w < 40 := Nat.lt_of_le_of_ne hw (fun e => c2 (by rw [e2, e]; rfl))
    have ea : am_rem (I 8 9 + I 8 6) 40 = nI ((f + w) % 40) := by
      rw [e2, e3, nI_add]
      exact pk_rem (d := 40) (by omega) (by omega) (by omega)
    rw [ea, nI_clamp (by omega), e2, nI_1]
    refine ⟨nI_in (by omega) (by omega), hK' _ _ _ _ _ ?_⟩
    show V 148 [(0, .inr (.inr (some 900))), (1, .inr (.inr (some 0))), (2, .inr (.inr (some 21))), (3, .inr (.inr (some 39))), (4, .inl (nI (5 * k)))] [.inl 0] (am_ui (am_ui I 10 ((f + w) % 40) _) 8 6 (nI (w + 1))) (am_p0 q) (am_uj J 39 0 (nI (w + 1)).toInt64) n
    apply hV; apply hV
    apply hV; apply hV; apply hV; apply hV; apply hV
    refine ⟨hs 1 (by omega), ?_⟩
    apply hV
    refine ⟨rfl, ?_⟩
    refine h36 _ _ _ _ _ _ ⟨rfl, ⟨_, rfl⟩, w, hw, e1, fun g => absurd c1 g, fun _ g => absurd g (by omega), fun _ _ => ?_⟩
    apply hV; apply hV
    apply hV
    refine ⟨rfl, ?_⟩
    refine h15 _ _ _ _ _ _ ⟨rfl, ?_⟩
    apply hV
    apply hV
    refine ⟨fun _ => ?_, fun h => absurd rfl h⟩
    apply hV; apply hV
    refine ⟨fun _ => ?_, fun h => absurd (show (0 : Int32) = 0 from rfl) h⟩
    apply hV; apply hV; apply hV
    refine ⟨by unfold vp_in; decide, ?_⟩
    apply hV; apply hV; apply hV; apply hV
    refine ⟨fun _ => ?_, fun h => absurd (lg_self _) h⟩
    apply hV
    exact next _ q _ N _ _ hq (by omega) (by omega) (rt_fault hq hR w40 hf e1 e3 _)
/-- behind a request: the reference's cells Y, made out of what the class left (G) -/
theorem RK_self {t N : Nat} {G Y : am_I} (h : RK t N G Y) (hg : ∀ k, k ≤ 11 → Y k = G k) : RK t N Y Y := RK_cells h hg (fun _ _ _ => rfl) (fun _ _ => rfl)
theorem ask_oth {kind a v : Int32} {I : am_I} : ∀ k, 12 ≤ k → (cm_ask 4 (cm_wr kind a v I)).2 k = I k := fun k hk => (cm_ask_oth 4 _ (by omega) (by omega)).trans (cm_wr_oth _ _ _ I (by omega) (by omega))
theorem rt_req {t N q : Nat} {I G Y : am_I} (hq : q < 2) (h : RT t N q I) (hoth : ∀ k, 12 ≤ k → G k = I k) (hK : RK t (N + 1) G Y) (hag : agK (am_ui G 21 35 0) Y) (x : Int32) : RT (t + 1) (N + 1) q (am_ui Y 21 35 x) := by
  have y0 : ∀ k, ¬ (21 ≤ k ∧ k ≤ 28) → am_ui Y 21 35 x k = G k := fun k hk => by
    rw [am_ui_ne _ _ _ (by omega), hag.1 k hk, am_ui_ne _ _ _ (by omega)]
  refine RT_of hq h (RK_self (RK_f hK (by omega) x) (fun k hk => y0 k (by omega))) (fun k k1 k2 _ _ _ _ _ => (y0 k k2).trans (hoth k k1)) ?_ (fun a h1 h2 h3 h4 => ?_)
  · rw [y0 15 (by omega), hoth 15 (by omega)]
  · rw [am_ui_eq, pb_upd, if_neg h4, hag.2 a h1, am_ui_eq, pb_upd, if_neg h4, hoth 21 (by omega)]
theorem RK_35 {t N : Nat} {I G : am_I} (h : RK t N I I) (hoth : ∀ k, 12 ≤ k → G k = I k) : RK t N I G := RK_cells h (fun _ _ => rfl) (fun k h1 h2 => hoth k (by omega)) (fun a _ => by rw [hoth 21 (by omega)])
theorem law_request {sc : am_S} {C : Nat → am_T} {k N q n : Nat} {J : am_J} {K : am_K} {V : am_W} {I : am_I} (h15 : am_has C 15 T_mthrown) (h92 : am_has C 92 T_La_request) (h37 : am_has C 37 T_mrequest) (hV : am_closed sc C tb_La_law V K) (hk : k < 512) (hN : N ≤ 100 * k) (hq : q < 2) (hn : 1 ≤ n) (hR : RT k N q I) (hs : ∀ a, a ≤ 4 → vp_in (nI (5 * k) + nI a) sc.1) (next : law_nx V k N n) : V 193 [(0, .inr (.inr (some 900))), (1, .inr (.inr (some 0))), (2, .inr (.inr (some 21))), (3, .inr (.inr (some 39))), (4, .inl (nI (5 * k)))] [] I (am_p0 q) J n := by
  apply hV
  apply hV; apply hV; apply hV; apply hV; apply hV
  refine ⟨hs 1 (by omega), ?_⟩
  apply hV; apply hV; apply hV; apply hV; apply hV
  refine ⟨hs 2 (by omega), ?_⟩
  apply hV; apply hV; apply hV; apply hV; apply hV
  refine ⟨hs 3 (by omega), ?_⟩
  apply hV; apply hV
  generalize ek : sc.2 (nI (5 * k) + 1).toNatClampNeg = kind
  generalize ea : sc.2 (nI (5 * k) + 2).toNatClampNeg = a
  generalize ev : sc.2 (nI (5 * k) + 3).toNatClampNeg = v
  have hoth := ask_oth (kind := kind) (a := a) (v := v) (I := I)
  obtain ⟨b, G, eg⟩ : ∃ b G, cm_ask 4 (cm_wr kind a v I) = (b, G) := ⟨_, _, rfl⟩
  rw [eg] at hoth
  have hoth : ∀ k, 12 ≤ k → G k = I k := hoth
  have hRK : RK k N I G := RK_35 hR.1 hoth
  refine h92 _ _ _ _ _ _ ⟨rfl, rfl, fun K' hK' => ⟨rfl, ⟨_, rfl⟩, RK_in hR.1, fun c => ?_, fun c e => ?_, fun c x e s0 => ?_, fun c x e s0 => ?_⟩⟩
  · refine ⟨n - 1, by omega, hK' _ _ _ _ _ ?_⟩
    show V 216 [(0, .inr (.inr (some 900))), (1, .inr (.inr (some 0))), (2, .inr (.inr (some 21))), (3, .inr (.inr (some 39))), (4, .inl (nI (5 * k)))] [.inl 1] I (am_p0 q) J (n - 1)
    apply hV; apply hV
    apply hV; apply hV; apply hV; apply hV; apply hV
    refine ⟨hs 1 (by omega), ?_⟩
    apply hV; apply hV; apply hV; apply hV; apply hV
    refine ⟨hs 2 (by omega), ?_⟩
    apply hV; apply hV; apply hV; apply hV; apply hV
    refine ⟨hs 3 (by omega), ?_⟩
    apply hV
    refine ⟨rfl, ?_⟩
    rw [ek, ea, ev]
    refine h37 _ _ _ _ _ _ ⟨rfl, ⟨_, rfl⟩, fun _ => ?_, fun g => absurd (c.symm.trans g) (by decide)⟩
    apply hV; apply hV
    apply hV
    refine ⟨rfl, ?_⟩
    refine h15 _ _ _ _ _ _ ⟨rfl, ?_⟩
    apply hV
    apply hV
    refine ⟨fun _ => ?_, fun h => absurd rfl h⟩
    apply hV; apply hV
    refine ⟨fun h => absurd h (by decide), fun _ => ?_⟩
    apply hV
    exact next _ q _ N _ _ hq (by omega) (by omega) (rt_35 hq hR _)
  · rw [eg] at e ⊢
    have e : b = none := e
    subst e
    refine ⟨n - 1, by omega, hK' _ _ _ _ _ ?_⟩
    show V 216 [(0, .inr (.inr (some 900))), (1, .inr (.inr (some 0))), (2, .inr (.inr (some 21))), (3, .inr (.inr (some 39))), (4, .inl (nI (5 * k)))] [.inl 2] G (am_p0 q) J (n - 1)
    apply hV; apply hV
    apply hV; apply hV; apply hV; apply hV; apply hV
    refine ⟨hs 1 (by omega), ?_⟩
    apply hV; apply hV; apply hV; apply hV; apply hV
    refine ⟨hs 2 (by omega), ?_⟩
    apply hV; apply hV; apply hV; apply hV; apply hV
    refine ⟨hs 3 (by omega), ?_⟩
    apply hV
    refine ⟨rfl, ?_⟩
    rw [ek, ea, ev]
    refine h37 _ _ _ _ _ _ ⟨rfl, ⟨_, rfl⟩, fun g => absurd (c.symm.trans g) (by decide), fun _ => ⟨I, k, N, by omega, by omega, hRK, fun Y s hr => ?_⟩⟩
    rw [eg] at hr
    obtain ⟨r1, r2, r3⟩ := hr
    have r3 : s = -1 := r3
    subst r3
    apply hV; apply hV
    apply hV
    refine ⟨rfl, ?_⟩
    refine h15 _ _ _ _ _ _ ⟨rfl, ?_⟩
    apply hV
    apply hV
    refine ⟨fun _ => ?_, fun h => absurd rfl h⟩
    apply hV; apply hV
    refine ⟨fun h => absurd h (by decide), fun _ => ?_⟩
    apply hV
    exact next _ q _ (N + 1) _ _ hq (by omega) (by omega) (rt_req hq hR hoth r1 r2 _)
  · rw [eg] at e s0 ⊢
    have e : b = some x := e
    subst e
    have s0 : G 8 1 = 0 := s0
    refine hK' _ _ _ _ _ ?_
    show V 216 [(0, .inr (.inr (some 900))), (1, .inr (.inr (some 0))), (2, .inr (.inr (some 21))), (3, .inr (.inr (some 39))), (4, .inl (nI (5 * k)))] [.inl 0] G (am_p0 q) (am_uj J 39 0 x.toInt64) n
    apply hV; apply hV
    apply hV; apply hV; apply hV; apply hV; apply hV
    refine ⟨hs 1 (by omega), ?_⟩
    apply hV; apply hV; apply hV; apply hV; apply hV
    refine ⟨hs 2 (by omega), ?_⟩
    apply hV; apply hV; apply hV; apply hV; apply hV
    refine ⟨hs 3 (by omega), ?_⟩
    apply hV
    refine ⟨rfl, ?_⟩
    rw [ek, ea, ev]
    refine h37 _ _ _ _ _ _ ⟨rfl, ⟨_, rfl⟩, fun g => absurd (c.symm.trans g) (by decide), fun _ => ⟨I, k, N, by omega, by omega, hRK, fun Y s hr => ?_⟩⟩
    rw [eg] at hr
    obtain ⟨r1, r2, r3, r4, -, -⟩ := hr
    have r3 : Y 21 19 = x := r3
    have r4 : s = 0 := r4.trans s0
    subst r4
    rw [r3]
    apply hV; apply hV
    apply hV
    refine ⟨rfl, ?_⟩
    refine h15 _ _ _ _ _ _ ⟨rfl, ?_⟩
    apply hV
    apply hV
    refine ⟨fun _ => ?_, fun h => absurd rfl h⟩
    apply hV; apply hV
    refine ⟨fun _ => ?_, fun h => absurd (show (0 : Int32) = 0 from rfl) h⟩
    apply hV; apply hV; apply hV
    refine ⟨by unfold vp_in; decide, ?_⟩
    apply hV; apply hV; apply hV; apply hV
    refine ⟨fun _ => ?_, fun h => absurd (lg_self _) h⟩
    apply hV
    exact next _ q _ (N + 1) _ _ hq (by omega) (by omega) (rt_req hq hR hoth r1 r2 _)
  · rw [eg] at e s0 ⊢
    have e : b = some x := e
    subst e
    have s0 : ¬ G 8 1 = 0 := s0
    refine ⟨n - 1, by omega, hK' _ _ _ _ _ ?_⟩
    show V 216 [(0, .inr (.inr (some 900))), (1, .inr (.inr (some 0))), (2, .inr (.inr (some 21))), (3, .inr (.inr (some 39))), (4, .inl (nI (5 * k)))] [.inl 1] G (am_p0 q) J (n - 1)
    apply hV; apply hV
    apply hV; apply hV; apply hV; apply hV; apply hV
    refine ⟨hs 1 (by omega), ?_⟩
    apply hV; apply hV; apply hV; apply hV; apply hV
    refine ⟨hs 2 (by omega), ?_⟩
    apply hV; apply hV; apply hV; apply hV; apply hV
    refine ⟨hs 3 (by omega), ?_⟩
    apply hV
    refine ⟨rfl, ?_⟩
    rw [ek, ea, ev]
    refine h37 _ _ _ _ _ _ ⟨rfl, ⟨_, rfl⟩, fun g => absurd (c.symm.trans g) (by decide), fun _ => ⟨I, k, N, by omega, by omega, hRK, fun Y s hr => ?_⟩⟩
    rw [eg] at hr
    obtain ⟨r1, r2, r3, r4, r5, -⟩ := hr
    have r4 : s = G 8 1 := r4
    have r6 : s = 1 := by
      rcases r5 with r5 | r5
      · exact absurd (r4.symm.trans r5) s0
      · exact r5
    subst r6
    apply hV; apply hV
    apply hV
    refine ⟨rfl, ?_⟩
    refine h15 _ _ _ _ _ _ ⟨rfl, ?_⟩
    apply hV
    apply hV
    refine ⟨fun _ => ?_, fun h => absurd rfl h⟩
    apply hV; apply hV
    refine ⟨fun h => absurd h (by decide), fun _ => ?_⟩
    apply hV
    exact next _ q _ (N + 1) _ _ hq (by omega) (by omega) (rt_req hq hR hoth r1 r2 _)
