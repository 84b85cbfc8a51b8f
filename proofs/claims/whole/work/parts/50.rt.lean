/-! The whole relation between calls, and what keeps it. -/
def RU (q : Nat) (G I : am_I) : Prop := ∃ c, c ≤ 8 ∧ I 21 26 = nI c ∧ G 14 1 = nI c ∧ ∀ f, f < c → ∀ p, p < 9 → I 34 (9 * f + p) = G (56 + (8 * q + f)) p
def RE (G I : am_I) : Prop := ∃ e, e ≤ 20 ∧ I 21 30 = nI e ∧ G 15 0 = nI e ∧ ROp e G I
def RT (t N q : Nat) (I : am_I) : Prop := RK t N I I ∧ (∃ r, RR r I I) ∧ RU q I I ∧ RE I I
theorem RK_t {t t' N : Nat} {G I : am_I} (h : RK t N G I) (ht : t ≤ t') : RK t' N G I := by
  obtain ⟨m, w, d, h1, h2, h3, h4, h5, h6⟩ := h
  exact ⟨m, w, d, h1, h2, h3, h4, h5, by omega⟩
theorem RR_c2 {r : Nat} {G G' I I' : am_I} (h : RR r G I) (hg : ∀ k, (k = 12 ∨ (40 ≤ k ∧ k < 56)) → G' k = G k) (hi : ∀ k, 29 ≤ k → k ≤ 33 → I' k = I k) (hf : I' 21 20 = I 21 20) : RR r G' I' := by
  obtain ⟨h1, h2, h3, h4, h5, h6⟩ := h
  refine ⟨h1, hf.trans h2, by rw [hg 12 (by omega)]; exact h3, fun j hj => ?_, fun j hj p hp => ?_, fun j hj1 hj2 p hp => ?_⟩
  · rw [hi 29 (by omega) (by omega), hi 30 (by omega) (by omega), hi 31 (by omega) (by omega), hi 32 (by omega) (by omega), hi 33 (by omega) (by omega), hg (40 + j) (by omega), hg (48 + j) (by omega)]
    exact h4 j hj
  · rw [hg (48 + j) (by omega)]
    exact h5 j hj p hp
  · rw [hg (48 + j) (by omega)]
    exact h6 j hj1 hj2 p hp
theorem RU_c {q : Nat} {G G' I I' : am_I} (h : RU q G I) (hq : q < 2) (h14 : G' 14 1 = G 14 1) (hg : ∀ k, 56 ≤ k → k < 72 → G' k = G k) (hi : I' 34 = I 34) (hf : I' 21 26 = I 21 26) : RU q G' I' := by
  obtain ⟨c, h1, h2, h3, h4⟩ := h
  refine ⟨c, h1, hf.trans h2, h14.trans h3, fun f hf p hp => ?_⟩
  rw [hi, hg _ (by omega) (by omega)]
  exact h4 f hf p hp
theorem RE_c {G G' I I' : am_I} (h : RE G I) (h15 : G' 15 0 = G 15 0) (h16 : G' 16 = G 16) (h17 : G' 17 = G 17) (h36 : I' 36 = I 36) (h37 : I' 37 = I 37) (hf : I' 21 30 = I 21 30) : RE G' I' := by
  obtain ⟨e, h1, h2, h3, h4⟩ := h
  refine ⟨e, h1, hf.trans h2, h15.trans h3, ?_⟩
  unfold ROp at h4 ⊢
  rw [h16, h17, h36, h37]
  exact h4
/-- from old cells I to new ones Y: what the line does not touch is as it was -/
theorem RT_of {t N N' q : Nat} {I Y : am_I} (hq : q < 2) (h : RT t N q I) (hK : RK t N' Y Y) (hk : ∀ k, 12 ≤ k → ¬ (21 ≤ k ∧ k ≤ 28) → k ≠ 15 → k ≠ 18 → k ≠ 35 → k ≠ 38 → k ≠ 39 → Y k = I k) (h15 : Y 15 0 = I 15 0) (hf : ∀ a, 20 ≤ a → a ≠ 28 → a ≠ 33 → a ≠ 35 → Y 21 a = I 21 a) : RT (t + 1) N' q Y := by
  obtain ⟨-, ⟨r, h2⟩, h3, h4⟩ := h
  refine ⟨RK_t hK (by omega), ⟨r, RR_c2 h2 (fun k hk' => ?_) (fun k k1 k2 => ?_) (hf 20 (by omega) (by omega) (by omega) (by omega))⟩, RU_c h3 hq ?_ (fun k k1 k2 => ?_) ?_ (hf 26 (by omega) (by omega) (by omega) (by omega)), RE_c h4 h15 ?_ ?_ ?_ ?_ (hf 30 (by omega) (by omega) (by omega) (by omega))⟩
  · exact hk k (by omega) (by omega) (by omega) (by omega) (by omega) (by omega) (by omega)
  · exact hk k (by omega) (by omega) (by omega) (by omega) (by omega) (by omega) (by omega)
  · rw [hk 14 (by omega) (by omega) (by omega) (by omega) (by omega) (by omega) (by omega)]
  · exact hk k (by omega) (by omega) (by omega) (by omega) (by omega) (by omega) (by omega)
  · exact hk 34 (by omega) (by omega) (by omega) (by omega) (by omega) (by omega) (by omega)
  · exact hk 16 (by omega) (by omega) (by omega) (by omega) (by omega) (by omega) (by omega)
  · exact hk 17 (by omega) (by omega) (by omega) (by omega) (by omega) (by omega) (by omega)
  · exact hk 36 (by omega) (by omega) (by omega) (by omega) (by omega) (by omega) (by omega)
  · exact hk 37 (by omega) (by omega) (by omega) (by omega) (by omega) (by omega) (by omega)
theorem rt_35 {t N q : Nat} {I : am_I} (hq : q < 2) (h : RT t N q I) (x : Int32) : RT (t + 1) N q (am_ui I 21 35 x) := by
  refine RT_of hq h (RK_cells h.1 (fun k hk => am_ui_ne _ _ _ (by omega)) (fun k h1 h2 => am_ui_ne _ _ _ (by omega)) (fun a ha => by rw [am_ui_eq, pb_upd, if_neg (by omega)])) (fun k k1 k2 _ _ _ _ _ => am_ui_ne _ _ _ (by omega)) rfl (fun a _ _ _ h4 => by rw [am_ui_eq, pb_upd, if_neg h4])
theorem rt_load {t N q : Nat} {I : am_I} (hq : q < 2) (h : RT t N q I) (c : Nat) (w : Int32) : RT (t + 1) N q (am_ui (am_ui (am_ui I 2 c w) 21 35 0) 22 c w) := by
  refine RT_of hq h ?_ (fun k k1 k2 _ _ _ _ _ => by rw [am_ui_ne _ _ _ (by omega), am_ui_ne _ _ _ (by omega), am_ui_ne _ _ _ (by omega)]) rfl (fun a _ _ _ h4 => by rw [am_ui_ne _ _ _ (by omega), am_ui_eq, pb_upd, if_neg h4]; rfl)
  obtain ⟨m, w', d, ⟨x1, x2, x3, x4, x5, x6⟩, hl, h82, h14, hld, ht⟩ := h.1
  refine ⟨m, w', d, ⟨⟨?_, x1.2.1, x1.2.2.1, x1.2.2.2⟩, RB_cells x2 rfl rfl rfl rfl rfl rfl, RA_cells x3 rfl rfl rfl rfl rfl, RF_G x4 rfl rfl rfl rfl rfl, x5, x6⟩, hl, h82, h14, hld, ht⟩
  show upd (I 22) c w = upd (I 2) c w
  rw [x1.1]
theorem RT_w {t N q : Nat} {I : am_I} (h : RT t N q I) : ∃ w f, w ≤ 40 ∧ f < 40 ∧ I 21 10 = nI w ∧ I 8 6 = nI w ∧ I 8 9 = nI f := by
  obtain ⟨m, w, d, hX, -⟩ := h.1
  obtain ⟨hw, e1, e2, f, hf, e3, -⟩ := hX.2.2.2.1
  exact ⟨w, f, hw, hf, e1, e2, e3⟩
theorem rt_fault {t N q w f : Nat} {I : am_I} (hq : q < 2) (h : RT t N q I) (hw : w < 40) (hf : f < 40) (e1 : I 21 10 = nI w) (e3 : I 8 9 = nI f) (x : Int32) :
    RT (t + 1) N q (am_ui (am_ui (am_ui (am_ui (am_ui I 10 ((f + w) % 40) x) 8 6 (nI (w + 1))) 21 35 0) 26 w x) 21 10 (nI (w + 1))) := by
  have hoth : ∀ k, ¬ (k = 8 ∨ k = 10 ∨ k = 21 ∨ k = 26) → (am_ui (am_ui (am_ui (am_ui (am_ui I 10 ((f + w) % 40) x) 8 6 (nI (w + 1))) 21 35 0) 26 w x) 21 10 (nI (w + 1))) k = I k := fun k hk => by
    rw [am_ui_ne _ _ _ (by omega), am_ui_ne _ _ _ (by omega), am_ui_ne _ _ _ (by omega), am_ui_ne _ _ _ (by omega), am_ui_ne _ _ _ (by omega)]
  have h21 : ∀ a, a ≠ 35 → a ≠ 10 → (am_ui (am_ui (am_ui (am_ui (am_ui I 10 ((f + w) % 40) x) 8 6 (nI (w + 1))) 21 35 0) 26 w x) 21 10 (nI (w + 1))) 21 a = I 21 a := fun a h1 h2 => by
    rw [am_ui_eq, pb_upd, if_neg h2, am_ui_ne _ _ _ (by omega), am_ui_eq, pb_upd, if_neg h1]
    rfl
  obtain ⟨⟨m, w', d, ⟨x1, x2, x3, x4, x5, x6⟩, hl, h82, h14, hld, ht⟩, ⟨r, h2⟩, h3, h4⟩ := h
  obtain ⟨y1, y2, y3, f', y4, y5, y6⟩ := x4
  have ew : w' = w := (nI_eq (by omega) (by omega)).1 (y2.symm.trans e1)
  have ef : f' = f := (nI_eq (by omega) (by omega)).1 (y5.symm.trans e3)
  subst ew ef
  refine ⟨⟨m, w' + 1, d, ⟨⟨x1.1, x1.2.1, x1.2.2.1, x1.2.2.2⟩, RB_cells x2 rfl rfl rfl rfl rfl rfl, RA_cells x3 rfl rfl rfl rfl rfl, ⟨by omega, rfl, rfl, f', y4, y5, fun i hi => ?_⟩, x5, x6⟩, hl, h82, h14, hld, by omega⟩, ⟨r, RR_c2 h2 (fun k hk => hoth k (by omega)) (fun k k1 k2 => hoth k (by omega)) (h21 20 (by omega) (by omega))⟩, RU_c h3 hq rfl (fun k k1 k2 => hoth k (by omega)) rfl (h21 26 (by omega) (by omega)), RE_c h4 rfl rfl rfl rfl rfl (h21 30 (by omega) (by omega))⟩
  show upd (I 26) w' x i = upd (I 10) ((f' + w') % 40) x ((f' + i) % 40)
  rw [pb_upd, pb_upd]
  by_cases e : i = w'
  · rw [if_pos e, if_pos (by rw [e])]
  · rw [if_neg e, if_neg (by omega)]
    exact y6 i (by omega)
theorem rt_byte {t N q : Nat} {I : am_I} (h : RT t N q I) (i : Int32) : cm_byte I i = mo_byte (I 28) i := by
  obtain ⟨⟨m, w', d, ⟨x1, x2, x3, x4, x5, x6⟩, hl, -⟩, -⟩ := h
  unfold cm_byte mo_byte
  by_cases c1 : i < 0
  · rw [if_pos c1, if_pos c1, if_pos (pb_neg16 c1)]
  · rw [if_neg c1, if_neg c1]
    by_cases c2 : 8 ≤ i
    · rw [if_neg (fun h => h c2), if_pos c2]
      by_cases c3 : i < 16
      · rw [if_pos c3, if_pos c3]
      · rw [if_neg c3, if_neg c3]
        by_cases c4 : 23 ≤ i
        · rw [if_pos c4, if_pos c4]
        · rw [if_neg c4, if_neg c4]
          obtain ⟨c, hc, rfl⟩ := mb_2 c3 c4
          rw [nI_sub8, nI_clamp (by omega), x6 c hc]
          have : nI (16 + c) - 16 = nI c := by
            show nI (16 + c) - nI 16 = _
            rw [pk_sub (by omega)]
            congr 1
            omega
          rw [this, nI_clamp (by omega)]
    · rw [if_pos c2, if_neg c2]
      obtain ⟨c, hc, rfl⟩ := pl_of_in (pb_in (n := 8) c1 c2 (by decide))
      rw [nI_clamp (by omega)]
      exact (hl c hc).symm
theorem rt_count {t N q : Nat} {I : am_I} (h : RT t N q I) (w : Int32) : cm_count I w = mo_count I w := by
  obtain ⟨⟨m, w', d, ⟨x1, x2, x3, x4, x5, x6⟩, hl, -⟩, -, ⟨c, -, u1, u2, -⟩, ⟨e, -, e1, e2, -⟩⟩ := h
  unfold cm_count mo_count
  rw [x5.1, x5.2.1, x5.2.2.1, x5.2.2.2, x4.2.1, ← x4.2.2.1, x1.2.2.2, x2.2.1, ← x2.2.2.1, x1.2.2.1, u1, ← u2, e1, ← e2]
