/-! The reference: fetch; the rules of both. -/
/-- r rules; a slot is -1 or 0 to 15; rows that no rule has yet have no saved register -/
def RR (r : Nat) (G I : am_I) : Prop := r ≤ 8 ∧ I 21 20 = nI r ∧ G 12 1 = nI r ∧ (∀ j, j < r → I 29 j = G (40 + j) 0 ∧ I 30 j = G (40 + j) 1 ∧ I 31 j = G (40 + j) 2 ∧ I 32 j = G (48 + j) 8 ∧ ∀ p, p < 8 → I 33 (8 * j + p) = G (48 + j) p) ∧ (∀ j, j < 8 → ∀ p, p < 9 → G (48 + j) p = -1 ∨ ∃ c, c ≤ 15 ∧ G (48 + j) p = nI c) ∧ ∀ j, r ≤ j → j < 8 → ∀ p, p < 8 → G (48 + j) p = -1
theorem rel_find {G I : am_I} (pc : Int32) : ∀ (k i : Nat), (∀ j, j < i + k → I 29 j = G (40 + j) 0 ∧ I 30 j = G (40 + j) 1) → cm_find G pc i k = (mo_rf I pc i k).map (fun j => 40 + j) := by
  intro k
  induction k with
  | zero => intro i _; rfl
  | succ k ih =>
    intro i h
    obtain ⟨h1, h2⟩ := h i (by omega)
    unfold cm_find mo_rf
    rw [h1, h2]
    by_cases c1 : pc < G (40 + i) 0
    · rw [if_pos c1, if_pos c1]
      exact ih (i + 1) (fun j hj => h j (by omega))
    · rw [if_neg c1, if_neg c1]
      by_cases c2 : G (40 + i) 1 < pc
      · rw [if_pos c2, if_pos c2]
        exact ih (i + 1) (fun j hj => h j (by omega))
      · rw [if_neg c2, if_neg c2]
        rfl
theorem mo_rf_lt {I : am_I} {pc : Int32} {c : Nat} : ∀ {k i : Nat}, mo_rf I pc i k = some c → c < i + k := by
  intro k
  induction k with
  | zero => intro i h; cases h
  | succ k ih =>
    intro i h
    unfold mo_rf at h
    split at h
    · have := ih h; omega
    · split at h
      · have := ih h; omega
      · cases h
        omega
theorem okk_2 {ad : Int32} (h : cs_adr ad = true) : okk 2 ad := by
  obtain ⟨c, hc, rfl⟩ := cs_adr_n h
  refine Or.inr (Or.inr ⟨rfl, ?_⟩)
  rw [and255, Nat.mod_eq_of_lt (by omega)]
  exact h
theorem okk_0 {r : Nat} (h : r < 8) : okk 0 (nI r) := by
  refine Or.inr (Or.inl ⟨rfl, ?_⟩)
  rw [and255, Nat.mod_eq_of_lt (by omega)]
  exact cs_reg_of h
/-- a word fetched: x what the class has, its place rc, pc; the reference's place p -/
def Rft (t N rc pc p : Nat) (I : am_I) (x : Bool × am_I) (s : Int32) (Y : am_I) : Prop :=
  RK t (N + 1) x.2 Y ∧ ∃ (Z : am_I) (y : Int32), agK I Z ∧ Y = am_ui Z 35 p y ∧ (x.1 = true → s = 0 ∧ y = x.2 rc pc) ∧ (x.1 = false → s = -1)
theorem rft_of {t N rc pc p : Nat} {I G Z : am_I} {kind a s : Int32} (hr : 56 ≤ rc) (ho : okk kind a) (h : Rask t N kind a I (cm_ask 4 (cm_wr kind a 0 G)) s Z) : Rft t N rc pc p I (cm_get kind a rc pc G) s (am_ui Z 35 p (Z 21 19)) := by
  unfold cm_get
  unfold Rask at h
  generalize cm_ask 4 (cm_wr kind a 0 G) = x at h ⊢
  obtain ⟨b, H⟩ := x
  obtain ⟨h1, h2, h3⟩ := h
  have h1 : RK t (N + 1) H Z := h1
  cases b with
  | none =>
    have h3 : s = -1 := h3
    exact ⟨RK_o h1 (by omega) _ _, Z, _, h2, rfl, (fun e => by cases e), fun _ => h3⟩
  | some g =>
    obtain ⟨h3, h4, h5, h6⟩ := h3
    refine ⟨RK_G (RK_o h1 (by omega) _ _) (by omega) _ _, Z, _, h2, rfl, fun _ => ⟨h6 ho, ?_⟩, fun e => by cases e⟩
    show Z 21 19 = am_ui H rc pc g rc pc
    rw [am_ui_eq, pb_upd, if_pos rfl]
    exact h3
def T_mfetch : am_T := fun as I P J n K => match as with
  | [.inr (.inr (some o)), .inl ad, .inl pl] => o = 21 ∧ (∃ q, P = am_p0 q) ∧ ∃ p, p < 72 ∧ pl = nI p ∧ (cs_adr ad = false → K (.inl (some (.inl 1))) I P J n) ∧ (cs_adr ad = true → ∃ G t N rc pc, t ≤ 512 ∧ N < 2 ^ 31 - 1 ∧ RK t N G I ∧ 56 ≤ rc ∧ ∀ s Y, Rft t N rc pc p I (cm_get 2 ad rc pc G) s Y → K (.inl (some (.inl s))) Y P J n)
  | _ => False
theorem ok_mfetch (sc : am_S) (C : Nat → am_T) (h16 : am_has C 16 (T_adr cs_adr)) (h35 : am_has C 35 T_mask) : am_ok sc C tb_Mo_fetch T_mfetch := by
  intro as I P J n K hT V hD hV
  unfold T_mfetch at hT
  split at hT
  · rename_i o ad pl
    obtain ⟨rfl, ⟨q, rfl⟩, p, hp, rfl, hK1, hK2⟩ := hT
    show V 0 [(0, .inr (.inr (some 21))), (1, .inl ad), (2, .inl (nI p))] [] I (am_p0 q) J n
    apply hV; apply hV
    refine h16 _ _ _ _ _ _ ?_
    apply hV
    refine ⟨fun ha => ?_, fun ha => ?_⟩
    · apply hV; apply hV
      exact hK1 (cs_b0 ha)
    have ha' := cs_b1 ha
    obtain ⟨G, t, N, rc, pc, ht, hN, hR, hrc, hK⟩ := hK2 ha'
    apply hV; apply hV; apply hV; apply hV; apply hV
    refine ⟨rfl, ?_⟩
    refine h35 _ _ _ _ _ _ ⟨rfl, ⟨_, rfl⟩, G, t, N, ht, hN, hR, ⟨2, by omega, rfl⟩, fun Z s hr => ?_⟩
    apply hV; apply hV; apply hV
    refine ⟨rfl, ?_⟩
    apply hV; apply hV; apply hV
    refine ⟨rfl, ?_⟩
    apply hV
    refine ⟨show vp_in (nI p) 72 from nI_in hp (by omega), ?_⟩
    rw [nI_clamp (by omega)]
    apply hV; apply hV
    exact hK s _ (rft_of hrc (okk_2 ha') hr)
  · exact hT.elim
