/-! The reference: operate and evaluate. -/
/-- the stacks, of h numbers -/
def RS (h : Nat) (G I : am_I) : Prop := h ≤ 8 ∧ I 21 33 = nI h ∧ G 15 1 = nI h ∧ ∀ i, i < h → I 38 i = G 18 i
def agE (I Y : am_I) : Prop := (∀ k, ¬ (21 ≤ k ∧ k ≤ 28) → k ≠ 38 → Y k = I k) ∧ ∀ a, 20 ≤ a → a ≠ 33 → a ≠ 35 → Y 21 a = I 21 a
theorem agE_refl (I : am_I) : agE I I := ⟨fun _ _ _ => rfl, fun _ _ _ _ => rfl⟩
theorem agE_trans {I X Y : am_I} (h : agE I X) (h' : agE X Y) : agE I Y := ⟨fun k h1 h2 => (h'.1 k h1 h2).trans (h.1 k h1 h2), fun a h1 h2 h3 => (h'.2 a h1 h2 h3).trans (h.2 a h1 h2 h3)⟩
theorem agE_K {I Y : am_I} (h : agK I Y) : agE I Y := ⟨fun k hk _ => h.1 k hk, fun a ha _ _ => h.2 a ha⟩
theorem agE_38 {I Y : am_I} (h : agE I Y) (b : Nat) (x : Int32) : agE I (am_ui Y 38 b x) := ⟨fun k h1 h2 => (am_ui_ne _ _ _ h2).trans (h.1 k h1 h2), fun a h1 h2 h3 => by rw [am_ui_ne _ _ _ (by omega)]; exact h.2 a h1 h2 h3⟩
theorem agE_f {I Y : am_I} (h : agE I Y) {b : Nat} (hb : b = 33 ∨ b = 35) (x : Int32) : agE I (am_ui Y 21 b x) := ⟨fun k h1 h2 => (am_ui_ne _ _ _ (by omega)).trans (h.1 k h1 h2), fun a h1 h2 h3 => by rw [am_ui_eq, pb_upd, if_neg (by omega)]; exact h.2 a h1 h2 h3⟩
/-- the law's number of an exception that evaluate throws -/
def mo_code : Nat → Int32
  | 1 => 4
  | 2 => 2
  | 3 => 5
  | 5 => 3
  | _ => 1
theorem mo_code_0 (E : Nat) : ¬ mo_code E = 0 := by
  unfold mo_code
  split <;> decide
def Rop (t N : Nat) (I : am_I) (x : Option Nat × am_I) (s : Int32) (Y : am_I) : Prop :=
  (∃ N', N ≤ N' ∧ N' ≤ N + 1 ∧ RK t N' x.2 Y) ∧ agE I Y ∧ match x.1 with
    | none => s = 0 ∧ ∃ h, RS h x.2 Y
    | some E => s = mo_code E
theorem Rop_some {t N : Nat} {I Y G : am_I} {x : Option Nat × am_I} {E : Nat} (e : x = (some E, G)) (hR : RK t N G Y) (ha : agE I Y) : Rop t N I x (mo_code E) Y := by
  subst e
  exact ⟨⟨N, Nat.le_refl N, by omega, hR⟩, ha, rfl⟩
theorem Rop_none {t N h : Nat} {I Y G : am_I} {x : Option Nat × am_I} (e : x = (none, G)) (hR : RK t N G Y) (ha : agE I Y) (hs : RS h G Y) : Rop t N I x 0 Y := by
  subst e
  exact ⟨⟨N, Nat.le_refl N, by omega, hR⟩, ha, rfl, h, hs⟩
theorem rop_push {t N h : Nat} {I G : am_I} {x y : Int32} (hS : RS h G I) (hR : RK t N G I) (exy : y = x) : (h = 8 → Rop t N I (cm_push x G) 2 I) ∧ (h < 8 → Rop t N I (cm_push x G) 0 (am_ui (am_ui I 38 h y) 21 33 (nI (h + 1)))) := by
  subst exy
  obtain ⟨h1, h2, h3, h4⟩ := hS
  refine ⟨fun e => ?_, fun e => ?_⟩
  · have : cm_push y G = (some 2, G) := by
      unfold cm_push
      rw [if_pos (by rw [h3, e]; rfl)]
    exact Rop_some (E := 2) this hR (agE_refl I)
  · have : cm_push y G = (none, am_ui (am_ui G 18 h y) 15 1 (nI (h + 1))) := by
      unfold cm_push
      rw [if_neg (by rw [h3]; intro e'; have := (nI_eq (a := h) (b := 8) (by omega) (by omega)).1 e'; omega), h3, nI_clamp (by omega), nI_1]
    refine Rop_none (h := h + 1) this (RK_f (RK_o (RK_G (RK_G hR (by omega) _ _) (by omega) _ _) (by omega) _ _) (by omega) _) (agE_f (agE_38 (agE_refl I) _ _) (Or.inl rfl) _) ⟨by omega, rfl, rfl, fun i hi => ?_⟩
    show upd (I 38) h y i = upd (G 18) h y i
    rw [pb_upd, pb_upd]
    by_cases e1 : i = h
    · rw [if_pos e1, if_pos e1]
    · rw [if_neg e1, if_neg e1]
      exact h4 i (by omega)
def T_moperate : am_T := fun as I P J n K => match as with
  | [.inr (.inr (some o)), .inl op, .inl v, .inl f] => o = 21 ∧ (∃ q, P = am_p0 q) ∧ ∃ (G : am_I) (t N h j d : Nat) (row : Nat → Int32), t ≤ 512 ∧ N < 2 ^ 31 - 1 ∧ op = nI d ∧ d ≤ 10 ∧ f = nI j ∧ j < 8 ∧ RS h G I ∧ RK t N G I ∧ (d = 1 → ∃ p, p < 8 ∧ v = nI p ∧ I 34 (9 * j + p) = row p) ∧ ∀ s Y, Rop t N I (cm_apply op v row G) s Y → K (.inl (some (.inl s))) Y P J n
  | _ => False
theorem le_nI {a h : Nat} (ha : a ≤ 8) (hh : h ≤ 8) (x : Int32) (e : x = nI h) : (nI a ≤ x ↔ a ≤ h) := by
  rw [e]
  exact nI_leI (by omega) (by omega)
theorem moper_0 {sc : am_S} {C : Nat → am_T} {q n : Nat} {J : am_J} {K : am_K} {V : am_W} (hV : am_closed sc C tb_Mo_operate V K) {I : am_I} {v : Int32} {h j : Nat} (hh : h ≤ 8) (eh : I 21 33 = nI h)
    (h1 : h < 0 → K (.inl (some (.inl 2))) I (am_p0 q) J n) (h2 : 0 ≤ h → V 104 [(0, .inr (.inr (some 21))), (1, .inl (nI 0)), (2, .inl v), (3, .inl (nI j)), (4, .inl 0)] [] I (am_p0 q) J n) : V 0 [(0, .inr (.inr (some 21))), (1, .inl (nI 0)), (2, .inl v), (3, .inl (nI j))] [] I (am_p0 q) J n := by
  have le := le_nI (a := 0) (by omega) hh _ eh
  have t1 : (0 : Int32) ≤ I 21 33 → V 104 [(0, .inr (.inr (some 21))), (1, .inl (nI 0)), (2, .inl v), (3, .inl (nI j)), (4, .inl 0)] [] I (am_p0 q) J n := fun g => h2 (le.1 g)
  have t2 : ¬ (0 : Int32) ≤ I 21 33 → K (.inl (some (.inl 2))) I (am_p0 q) J n := fun g => h1 (by
    apply Classical.byContradiction
    intro g'
    exact g (le.2 (by omega)))
  clear h1 h2 le
  repeat' first
    | exact absurd h (by decide)
    | exact t1 (by with_reducible assumption)
    | exact t2 (by with_reducible assumption)
    | apply hV
    | (change (_ → V _ _ _ _ _ _ _) ∧ _; refine ⟨fun h => ?_, fun h => ?_⟩)
    | (change am_kd _ = (5, _) ∧ _; refine ⟨rfl, ?_⟩)
    | fail
  all_goals first
    | exact absurd h (by decide)
    | exact t1 (by assumption)
    | exact t2 (by assumption)
theorem moper_1 {sc : am_S} {C : Nat → am_T} {q n : Nat} {J : am_J} {K : am_K} {V : am_W} (hV : am_closed sc C tb_Mo_operate V K) {I : am_I} {v : Int32} {h j : Nat} (hh : h ≤ 8) (eh : I 21 33 = nI h)
    (h1 : h < 0 → K (.inl (some (.inl 2))) I (am_p0 q) J n) (h2 : 0 ≤ h → V 110 [(0, .inr (.inr (some 21))), (1, .inl (nI 1)), (2, .inl v), (3, .inl (nI j)), (4, .inl 0)] [] I (am_p0 q) J n) : V 0 [(0, .inr (.inr (some 21))), (1, .inl (nI 1)), (2, .inl v), (3, .inl (nI j))] [] I (am_p0 q) J n := by
  have le := le_nI (a := 0) (by omega) hh _ eh
  have t1 : (0 : Int32) ≤ I 21 33 → V 110 [(0, .inr (.inr (some 21))), (1, .inl (nI 1)), (2, .inl v), (3, .inl (nI j)), (4, .inl 0)] [] I (am_p0 q) J n := fun g => h2 (le.1 g)
  have t2 : ¬ (0 : Int32) ≤ I 21 33 → K (.inl (some (.inl 2))) I (am_p0 q) J n := fun g => h1 (by
    apply Classical.byContradiction
    intro g'
    exact g (le.2 (by omega)))
  clear h1 h2 le
  repeat' first
    | exact absurd h (by decide)
    | exact t1 (by with_reducible assumption)
    | exact t2 (by with_reducible assumption)
    | apply hV
    | (change (_ → V _ _ _ _ _ _ _) ∧ _; refine ⟨fun h => ?_, fun h => ?_⟩)
    | (change am_kd _ = (5, _) ∧ _; refine ⟨rfl, ?_⟩)
    | fail
  all_goals first
    | exact absurd h (by decide)
    | exact t1 (by assumption)
    | exact t2 (by assumption)
theorem moper_2 {sc : am_S} {C : Nat → am_T} {q n : Nat} {J : am_J} {K : am_K} {V : am_W} (hV : am_closed sc C tb_Mo_operate V K) {I : am_I} {v : Int32} {h j : Nat} (hh : h ≤ 8) (eh : I 21 33 = nI h)
    (h1 : h < 1 → K (.inl (some (.inl 2))) I (am_p0 q) J n) (h2 : 1 ≤ h → V 126 [(0, .inr (.inr (some 21))), (1, .inl (nI 2)), (2, .inl v), (3, .inl (nI j)), (4, .inl 1)] [] I (am_p0 q) J n) : V 0 [(0, .inr (.inr (some 21))), (1, .inl (nI 2)), (2, .inl v), (3, .inl (nI j))] [] I (am_p0 q) J n := by
  have le := le_nI (a := 1) (by omega) hh _ eh
  have t1 : (1 : Int32) ≤ I 21 33 → V 126 [(0, .inr (.inr (some 21))), (1, .inl (nI 2)), (2, .inl v), (3, .inl (nI j)), (4, .inl 1)] [] I (am_p0 q) J n := fun g => h2 (le.1 g)
  have t2 : ¬ (1 : Int32) ≤ I 21 33 → K (.inl (some (.inl 2))) I (am_p0 q) J n := fun g => h1 (by
    apply Classical.byContradiction
    intro g'
    exact g (le.2 (by omega)))
  clear h1 h2 le
  repeat' first
    | exact absurd h (by decide)
    | exact t1 (by with_reducible assumption)
    | exact t2 (by with_reducible assumption)
    | apply hV
    | (change (_ → V _ _ _ _ _ _ _) ∧ _; refine ⟨fun h => ?_, fun h => ?_⟩)
    | (change am_kd _ = (5, _) ∧ _; refine ⟨rfl, ?_⟩)
    | fail
  all_goals first
    | exact absurd h (by decide)
    | exact t1 (by assumption)
    | exact t2 (by assumption)
theorem moper_3 {sc : am_S} {C : Nat → am_T} {q n : Nat} {J : am_J} {K : am_K} {V : am_W} (hV : am_closed sc C tb_Mo_operate V K) {I : am_I} {v : Int32} {h j : Nat} (hh : h ≤ 8) (eh : I 21 33 = nI h)
    (h1 : h < 2 → K (.inl (some (.inl 2))) I (am_p0 q) J n) (h2 : 2 ≤ h → V 225 [(0, .inr (.inr (some 21))), (1, .inl (nI 3)), (2, .inl v), (3, .inl (nI j)), (4, .inl 2)] [] I (am_p0 q) J n) : V 0 [(0, .inr (.inr (some 21))), (1, .inl (nI 3)), (2, .inl v), (3, .inl (nI j))] [] I (am_p0 q) J n := by
  have le := le_nI (a := 2) (by omega) hh _ eh
  have t1 : (2 : Int32) ≤ I 21 33 → V 225 [(0, .inr (.inr (some 21))), (1, .inl (nI 3)), (2, .inl v), (3, .inl (nI j)), (4, .inl 2)] [] I (am_p0 q) J n := fun g => h2 (le.1 g)
  have t2 : ¬ (2 : Int32) ≤ I 21 33 → K (.inl (some (.inl 2))) I (am_p0 q) J n := fun g => h1 (by
    apply Classical.byContradiction
    intro g'
    exact g (le.2 (by omega)))
  clear h1 h2 le
  repeat' first
    | exact absurd h (by decide)
    | exact t1 (by with_reducible assumption)
    | exact t2 (by with_reducible assumption)
    | apply hV
    | (change (_ → V _ _ _ _ _ _ _) ∧ _; refine ⟨fun h => ?_, fun h => ?_⟩)
    | (change am_kd _ = (5, _) ∧ _; refine ⟨rfl, ?_⟩)
    | fail
  all_goals first
    | exact absurd h (by decide)
    | exact t1 (by assumption)
    | exact t2 (by assumption)
theorem moper_4 {sc : am_S} {C : Nat → am_T} {q n : Nat} {J : am_J} {K : am_K} {V : am_W} (hV : am_closed sc C tb_Mo_operate V K) {I : am_I} {v : Int32} {h j : Nat} (hh : h ≤ 8) (eh : I 21 33 = nI h)
    (h1 : h < 2 → K (.inl (some (.inl 2))) I (am_p0 q) J n) (h2 : 2 ≤ h → V 225 [(0, .inr (.inr (some 21))), (1, .inl (nI 4)), (2, .inl v), (3, .inl (nI j)), (4, .inl 2)] [] I (am_p0 q) J n) : V 0 [(0, .inr (.inr (some 21))), (1, .inl (nI 4)), (2, .inl v), (3, .inl (nI j))] [] I (am_p0 q) J n := by
  have le := le_nI (a := 2) (by omega) hh _ eh
  have t1 : (2 : Int32) ≤ I 21 33 → V 225 [(0, .inr (.inr (some 21))), (1, .inl (nI 4)), (2, .inl v), (3, .inl (nI j)), (4, .inl 2)] [] I (am_p0 q) J n := fun g => h2 (le.1 g)
  have t2 : ¬ (2 : Int32) ≤ I 21 33 → K (.inl (some (.inl 2))) I (am_p0 q) J n := fun g => h1 (by
    apply Classical.byContradiction
    intro g'
    exact g (le.2 (by omega)))
  clear h1 h2 le
  repeat' first
    | exact absurd h (by decide)
    | exact t1 (by with_reducible assumption)
    | exact t2 (by with_reducible assumption)
    | apply hV
    | (change (_ → V _ _ _ _ _ _ _) ∧ _; refine ⟨fun h => ?_, fun h => ?_⟩)
    | (change am_kd _ = (5, _) ∧ _; refine ⟨rfl, ?_⟩)
    | fail
  all_goals first
    | exact absurd h (by decide)
    | exact t1 (by assumption)
    | exact t2 (by assumption)
theorem moper_5 {sc : am_S} {C : Nat → am_T} {q n : Nat} {J : am_J} {K : am_K} {V : am_W} (hV : am_closed sc C tb_Mo_operate V K) {I : am_I} {v : Int32} {h j : Nat} (hh : h ≤ 8) (eh : I 21 33 = nI h)
    (h1 : h < 2 → K (.inl (some (.inl 2))) I (am_p0 q) J n) (h2 : 2 ≤ h → V 225 [(0, .inr (.inr (some 21))), (1, .inl (nI 5)), (2, .inl v), (3, .inl (nI j)), (4, .inl 2)] [] I (am_p0 q) J n) : V 0 [(0, .inr (.inr (some 21))), (1, .inl (nI 5)), (2, .inl v), (3, .inl (nI j))] [] I (am_p0 q) J n := by
  have le := le_nI (a := 2) (by omega) hh _ eh
  have t1 : (2 : Int32) ≤ I 21 33 → V 225 [(0, .inr (.inr (some 21))), (1, .inl (nI 5)), (2, .inl v), (3, .inl (nI j)), (4, .inl 2)] [] I (am_p0 q) J n := fun g => h2 (le.1 g)
  have t2 : ¬ (2 : Int32) ≤ I 21 33 → K (.inl (some (.inl 2))) I (am_p0 q) J n := fun g => h1 (by
    apply Classical.byContradiction
    intro g'
    exact g (le.2 (by omega)))
  clear h1 h2 le
  repeat' first
    | exact absurd h (by decide)
    | exact t1 (by with_reducible assumption)
    | exact t2 (by with_reducible assumption)
    | apply hV
    | (change (_ → V _ _ _ _ _ _ _) ∧ _; refine ⟨fun h => ?_, fun h => ?_⟩)
    | (change am_kd _ = (5, _) ∧ _; refine ⟨rfl, ?_⟩)
    | fail
  all_goals first
    | exact absurd h (by decide)
    | exact t1 (by assumption)
    | exact t2 (by assumption)
theorem moper_6 {sc : am_S} {C : Nat → am_T} {q n : Nat} {J : am_J} {K : am_K} {V : am_W} (hV : am_closed sc C tb_Mo_operate V K) {I : am_I} {v : Int32} {h j : Nat} (hh : h ≤ 8) (eh : I 21 33 = nI h)
    (h1 : h < 2 → K (.inl (some (.inl 2))) I (am_p0 q) J n) (h2 : 2 ≤ h → V 225 [(0, .inr (.inr (some 21))), (1, .inl (nI 6)), (2, .inl v), (3, .inl (nI j)), (4, .inl 2)] [] I (am_p0 q) J n) : V 0 [(0, .inr (.inr (some 21))), (1, .inl (nI 6)), (2, .inl v), (3, .inl (nI j))] [] I (am_p0 q) J n := by
  have le := le_nI (a := 2) (by omega) hh _ eh
  have t1 : (2 : Int32) ≤ I 21 33 → V 225 [(0, .inr (.inr (some 21))), (1, .inl (nI 6)), (2, .inl v), (3, .inl (nI j)), (4, .inl 2)] [] I (am_p0 q) J n := fun g => h2 (le.1 g)
  have t2 : ¬ (2 : Int32) ≤ I 21 33 → K (.inl (some (.inl 2))) I (am_p0 q) J n := fun g => h1 (by
    apply Classical.byContradiction
    intro g'
    exact g (le.2 (by omega)))
  clear h1 h2 le
  repeat' first
    | exact absurd h (by decide)
    | exact t1 (by with_reducible assumption)
    | exact t2 (by with_reducible assumption)
    | apply hV
    | (change (_ → V _ _ _ _ _ _ _) ∧ _; refine ⟨fun h => ?_, fun h => ?_⟩)
    | (change am_kd _ = (5, _) ∧ _; refine ⟨rfl, ?_⟩)
    | fail
  all_goals first
    | exact absurd h (by decide)
    | exact t1 (by assumption)
    | exact t2 (by assumption)
theorem moper_7 {sc : am_S} {C : Nat → am_T} {q n : Nat} {J : am_J} {K : am_K} {V : am_W} (hV : am_closed sc C tb_Mo_operate V K) {I : am_I} {v : Int32} {h j : Nat} (hh : h ≤ 8) (eh : I 21 33 = nI h)
    (h1 : h < 1 → K (.inl (some (.inl 2))) I (am_p0 q) J n) (h2 : 1 ≤ h → V 131 [(0, .inr (.inr (some 21))), (1, .inl (nI 7)), (2, .inl v), (3, .inl (nI j)), (4, .inl 1)] [] I (am_p0 q) J n) : V 0 [(0, .inr (.inr (some 21))), (1, .inl (nI 7)), (2, .inl v), (3, .inl (nI j))] [] I (am_p0 q) J n := by
  have le := le_nI (a := 1) (by omega) hh _ eh
  have t1 : (1 : Int32) ≤ I 21 33 → V 131 [(0, .inr (.inr (some 21))), (1, .inl (nI 7)), (2, .inl v), (3, .inl (nI j)), (4, .inl 1)] [] I (am_p0 q) J n := fun g => h2 (le.1 g)
  have t2 : ¬ (1 : Int32) ≤ I 21 33 → K (.inl (some (.inl 2))) I (am_p0 q) J n := fun g => h1 (by
    apply Classical.byContradiction
    intro g'
    exact g (le.2 (by omega)))
  clear h1 h2 le
  repeat' first
    | exact absurd h (by decide)
    | exact t1 (by with_reducible assumption)
    | exact t2 (by with_reducible assumption)
    | apply hV
    | (change (_ → V _ _ _ _ _ _ _) ∧ _; refine ⟨fun h => ?_, fun h => ?_⟩)
    | (change am_kd _ = (5, _) ∧ _; refine ⟨rfl, ?_⟩)
    | fail
  all_goals first
    | exact absurd h (by decide)
    | exact t1 (by assumption)
    | exact t2 (by assumption)
theorem moper_8 {sc : am_S} {C : Nat → am_T} {q n : Nat} {J : am_J} {K : am_K} {V : am_W} (hV : am_closed sc C tb_Mo_operate V K) {I : am_I} {v : Int32} {h j : Nat} (hh : h ≤ 8) (eh : I 21 33 = nI h)
    (h1 : h < 2 → K (.inl (some (.inl 2))) I (am_p0 q) J n) (h2 : 2 ≤ h → V 147 [(0, .inr (.inr (some 21))), (1, .inl (nI 8)), (2, .inl v), (3, .inl (nI j)), (4, .inl 2)] [] I (am_p0 q) J n) : V 0 [(0, .inr (.inr (some 21))), (1, .inl (nI 8)), (2, .inl v), (3, .inl (nI j))] [] I (am_p0 q) J n := by
  have le := le_nI (a := 2) (by omega) hh _ eh
  have t1 : (2 : Int32) ≤ I 21 33 → V 147 [(0, .inr (.inr (some 21))), (1, .inl (nI 8)), (2, .inl v), (3, .inl (nI j)), (4, .inl 2)] [] I (am_p0 q) J n := fun g => h2 (le.1 g)
  have t2 : ¬ (2 : Int32) ≤ I 21 33 → K (.inl (some (.inl 2))) I (am_p0 q) J n := fun g => h1 (by
    apply Classical.byContradiction
    intro g'
    exact g (le.2 (by omega)))
  clear h1 h2 le
  repeat' first
    | exact absurd h (by decide)
    | exact t1 (by with_reducible assumption)
    | exact t2 (by with_reducible assumption)
    | apply hV
    | (change (_ → V _ _ _ _ _ _ _) ∧ _; refine ⟨fun h => ?_, fun h => ?_⟩)
    | (change am_kd _ = (5, _) ∧ _; refine ⟨rfl, ?_⟩)
    | fail
  all_goals first
    | exact absurd h (by decide)
    | exact t1 (by assumption)
    | exact t2 (by assumption)
theorem moper_9 {sc : am_S} {C : Nat → am_T} {q n : Nat} {J : am_J} {K : am_K} {V : am_W} (hV : am_closed sc C tb_Mo_operate V K) {I : am_I} {v : Int32} {h j : Nat} (hh : h ≤ 8) (eh : I 21 33 = nI h)
    (h1 : h < 1 → K (.inl (some (.inl 2))) I (am_p0 q) J n) (h2 : 1 ≤ h → V 197 [(0, .inr (.inr (some 21))), (1, .inl (nI 9)), (2, .inl v), (3, .inl (nI j)), (4, .inl 1)] [] I (am_p0 q) J n) : V 0 [(0, .inr (.inr (some 21))), (1, .inl (nI 9)), (2, .inl v), (3, .inl (nI j))] [] I (am_p0 q) J n := by
  have le := le_nI (a := 1) (by omega) hh _ eh
  have t1 : (1 : Int32) ≤ I 21 33 → V 197 [(0, .inr (.inr (some 21))), (1, .inl (nI 9)), (2, .inl v), (3, .inl (nI j)), (4, .inl 1)] [] I (am_p0 q) J n := fun g => h2 (le.1 g)
  have t2 : ¬ (1 : Int32) ≤ I 21 33 → K (.inl (some (.inl 2))) I (am_p0 q) J n := fun g => h1 (by
    apply Classical.byContradiction
    intro g'
    exact g (le.2 (by omega)))
  clear h1 h2 le
  repeat' first
    | exact absurd h (by decide)
    | exact t1 (by with_reducible assumption)
    | exact t2 (by with_reducible assumption)
    | apply hV
    | (change (_ → V _ _ _ _ _ _ _) ∧ _; refine ⟨fun h => ?_, fun h => ?_⟩)
    | (change am_kd _ = (5, _) ∧ _; refine ⟨rfl, ?_⟩)
    | fail
  all_goals first
    | exact absurd h (by decide)
    | exact t1 (by assumption)
    | exact t2 (by assumption)
theorem moper_10 {sc : am_S} {C : Nat → am_T} {q n : Nat} {J : am_J} {K : am_K} {V : am_W} (hV : am_closed sc C tb_Mo_operate V K) {I : am_I} {v : Int32} {h j : Nat} (hh : h ≤ 8) (eh : I 21 33 = nI h)
    (h1 : h < 2 → K (.inl (some (.inl 2))) I (am_p0 q) J n) (h2 : 2 ≤ h → V 209 [(0, .inr (.inr (some 21))), (1, .inl (nI 10)), (2, .inl v), (3, .inl (nI j)), (4, .inl 2)] [] I (am_p0 q) J n) : V 0 [(0, .inr (.inr (some 21))), (1, .inl (nI 10)), (2, .inl v), (3, .inl (nI j))] [] I (am_p0 q) J n := by
  have le := le_nI (a := 2) (by omega) hh _ eh
  have t1 : (2 : Int32) ≤ I 21 33 → V 209 [(0, .inr (.inr (some 21))), (1, .inl (nI 10)), (2, .inl v), (3, .inl (nI j)), (4, .inl 2)] [] I (am_p0 q) J n := fun g => h2 (le.1 g)
  have t2 : ¬ (2 : Int32) ≤ I 21 33 → K (.inl (some (.inl 2))) I (am_p0 q) J n := fun g => h1 (by
    apply Classical.byContradiction
    intro g'
    exact g (le.2 (by omega)))
  clear h1 h2 le
  repeat' first
    | exact absurd h (by decide)
    | exact t1 (by with_reducible assumption)
    | exact t2 (by with_reducible assumption)
    | apply hV
    | (change (_ → V _ _ _ _ _ _ _) ∧ _; refine ⟨fun h => ?_, fun h => ?_⟩)
    | (change am_kd _ = (5, _) ∧ _; refine ⟨rfl, ?_⟩)
    | fail
  all_goals first
    | exact absurd h (by decide)
    | exact t1 (by assumption)
    | exact t2 (by assumption)
theorem ok_moperate (sc : am_S) (C : Nat → am_T) (h48 : am_has C 48 T_mpush) (h49 : am_has C 49 T_mjoin) (h50 : am_has C 50 T_mwordOnTop) : am_ok sc C tb_Mo_operate T_moperate := by
  intro as I P J n K hT V hD hV
  unfold T_moperate at hT
  split at hT
  · rename_i o op v f
    obtain ⟨rfl, ⟨q, rfl⟩, G, t, N, h, j, d, row, ht, hN, rfl, hd, rfl, hj, hS, hR, hv, hK⟩ := hT
    show V 0 [(0, .inr (.inr (some 21))), (1, .inl (nI d)), (2, .inl v), (3, .inl (nI j))] [] I (am_p0 q) J n
    have hh := hS.1
    have eh := hS.2.1
    have gh := hS.2.2.1
    have st := hS.2.2.2
    have no : ∀ x, x = (some 2, G) → cm_apply (nI d) v row G = x → K (.inl (some (.inl 2))) I (am_p0 q) J n := fun x e1 e2 => hK 2 I (Rop_some (E := 2) (e2.trans e1) hR (agE_refl I))
    have push : ∀ (pc : Nat) (ls : am_L) (x y : Int32), cm_apply (nI d) v row G = cm_push x G → y = x → (∀ s Y, Rop t N I (cm_push x G) s Y → V pc ls [.inl s] Y (am_p0 q) J n) → C 48 [.inr (.inr (some 21)), .inl y] I (am_p0 q) J n (am_ret V K pc ls [] []) := by
      intro pc ls x y e exy hr
      obtain ⟨p1, p2⟩ := rop_push hS hR exy
      exact h48 _ _ _ _ _ _ ⟨rfl, ⟨_, rfl⟩, h, hh, eh, fun g => hr _ _ (p1 g), fun g => hr _ _ (p2 g)⟩
    have g1 : ¬ h < 1 → (1 : Int32) ≤ G 15 1 := fun g => by rw [gh]; exact show nI 1 ≤ nI h from nI_le (by omega) (by omega)
    have g1n : h < 1 → ¬ (1 : Int32) ≤ G 15 1 := fun g => by rw [gh]; exact show ¬ nI 1 ≤ nI h from nI_ge (by omega) (by omega)
    have g2 : ¬ h < 2 → (2 : Int32) ≤ G 15 1 := fun g => by rw [gh]; exact show nI 2 ≤ nI h from nI_le (by omega) (by omega)
    have g2n : h < 2 → ¬ (2 : Int32) ≤ G 15 1 := fun g => by rw [gh]; exact show ¬ nI 2 ≤ nI h from nI_ge (by omega) (by omega)
    have top : ∀ m, h = m + 1 → (G 15 1 - 1).toNatClampNeg = m := fun m e => by rw [gh, e, nI_pred]; exact nI_clamp (by omega)
    have sec : ∀ m, h = m + 2 → (G 15 1 - 2).toNatClampNeg = m := fun m e => by rw [gh, e, nI_m2]; exact nI_clamp (by omega)
    have itop : ∀ m, h = m + 1 → I 21 33 - 1 = nI m := fun m e => by rw [eh, e, nI_pred]
    have isec : ∀ m, h = m + 2 → I 21 33 - 2 = nI m := fun m e => by rw [eh, e, nI_m2]
    have cl : ∀ m, m < 8 → (nI m).toNatClampNeg = m := fun m hm => nI_clamp (by omega)
    have vi : ∀ m, m < 8 → vp_in (nI m) 8 := fun m hm => nI_in (by omega) (by omega)
    rcases (by omega : d = 0 ∨ d = 1 ∨ d = 2 ∨ d = 3 ∨ d = 4 ∨ d = 5 ∨ d = 6 ∨ d = 7 ∨ d = 8 ∨ d = 9 ∨ d = 10) with rfl | rfl | rfl | rfl | rfl | rfl | rfl | rfl | rfl | rfl | rfl
    · have e : cm_apply (nI 0) v row G = cm_push v G := by unfold cm_apply; rw [if_pos (show nI 0 = 0 from rfl)]
      refine moper_0 hV hh eh (fun g => absurd g (by omega)) (fun g => ?_)
      apply hV; apply hV; apply hV
      refine ⟨rfl, ?_⟩
      refine push _ _ _ _ e rfl (fun s Y hr => ?_)
      apply hV
      exact hK s Y (by rw [e]; exact hr)
    · have e : cm_apply (nI 1) v row G = cm_push (row v.toNatClampNeg) G := by unfold cm_apply; rw [if_neg (by decide), if_pos (show nI 1 = 1 from rfl)]
      obtain ⟨p, hp, rfl, er⟩ := hv rfl
      refine moper_1 hV hh eh (fun g => absurd g (by omega)) (fun g => ?_)
      have e2 : (9 * nI j + nI p).toNatClampNeg = 9 * j + p := by rw [nI_92]; exact nI_clamp (by omega)
      have i2 : vp_in (9 * nI j + nI p) 72 := by rw [nI_92]; exact nI_in (by omega) (by omega)
      apply hV; apply hV; apply hV
      refine ⟨rfl, ?_⟩
      apply hV; apply hV; apply hV; apply hV; apply hV; apply hV
      refine ⟨i2, ?_⟩
      rw [e2]
      apply hV
      refine ⟨rfl, ?_⟩
      refine push _ _ _ _ e (by rw [nI_clamp (by omega)]; exact er) (fun s Y hr => ?_)
      apply hV
      exact hK s Y (by rw [e]; exact hr)
    · have e : cm_apply (nI 2) v row G = if 1 ≤ G 15 1 then cm_opw G else (some 2, G) := by unfold cm_apply; rw [if_neg (by decide), if_neg (by decide), if_pos (show nI 2 = 2 from rfl)]
      refine moper_2 hV hh eh (fun g => no _ (if_neg (g1n g)) e) (fun g => ?_)
      rw [if_pos (g1 (by omega))] at e
      obtain ⟨m, rfl⟩ : ∃ m, h = m + 1 := ⟨h - 1, by omega⟩
      unfold cm_opw at e
      rw [top m rfl, ← st m (by omega)] at e
      apply hV; apply hV
      refine ⟨rfl, ?_⟩
      refine h50 _ _ _ _ _ _ ⟨rfl, ⟨_, rfl⟩, m, by omega, eh, fun ha => ?_, fun ha => ⟨G, t, N, ht, hN, hR, fun Y s hr => ?_⟩⟩
      · simp only [ha] at e
        apply hV
        exact hK _ _ (Rop_some (E := 1) e hR (agE_refl I))
      · simp only [ha] at e
        have goth : ∀ k, 12 ≤ k → (cm_ask 4 (cm_wr 2 (I 38 m) 0 G)).2 k = G k := fun k hk => (cm_ask_oth 4 _ (by omega) (by omega)).trans (cm_wr_oth _ _ _ G (by omega) (by omega))
        unfold Rask at hr
        generalize cm_ask 4 (cm_wr 2 (I 38 m) 0 G) = x at e hr goth
        obtain ⟨b, H⟩ := x
        obtain ⟨r1, r2, r3⟩ := hr
        have r1 : RK t (N + 1) H Y := r1
        have goth : ∀ k, 12 ≤ k → H k = G k := goth
        have yo : ∀ k, 29 ≤ k → Y k = I k := fun k hk => r2.1 k (by omega)
        apply hV
        cases b with
        | none =>
          have r3 : s = -1 := r3
          rw [if_pos r3]
          have e : cm_apply (nI 2) v row G = (some 3, H) := e
          refine hK _ _ ?_
          rw [e]
          exact ⟨⟨N + 1, by omega, by omega, RK_o r1 (by omega) _ _⟩, agE_38 (agE_K r2) _ _, rfl⟩
        | some y =>
          obtain ⟨r3, r4, r5, r6⟩ := r3
          have e : cm_apply (nI 2) v row G = (none, am_ui H 18 m y) := e
          have r3 : Y 21 19 = y := r3
          have goth : ∀ k, 12 ≤ k → H k = G k := goth
          have r1 : RK t (N + 1) H Y := r1
          rw [if_neg (by rcases r5 with r5 | r5 <;> (rw [r5]; decide)), r3]
          refine hK _ _ ?_
          rw [e]
          refine ⟨⟨N + 1, by omega, by omega, RK_o (RK_G r1 (by omega) _ _) (by omega) _ _⟩, agE_38 (agE_K r2) _ _, rfl, m + 1, hh, ?_, ?_, fun i hi => ?_⟩
          · show Y 21 33 = _
            rw [r2.2 33 (by omega)]
            exact eh
          · show H 15 1 = _
            rw [goth 15 (by omega)]
            exact gh
          · show upd (Y 38) m y i = upd (H 18) m y i
            rw [pb_upd, pb_upd]
            by_cases e1 : i = m
            · rw [if_pos e1, if_pos e1]
            · rw [if_neg e1, if_neg e1, yo 38 (by omega), goth 18 (by omega)]
              exact st i (by omega)
    · have e : cm_apply (nI 3) v row G = if 2 ≤ G 15 1 then cm_join (nI 3) G else (some 2, G) := by unfold cm_apply; rw [if_neg (by decide), if_neg (by decide), if_neg (by decide), if_neg (by decide), if_neg (by decide), if_neg (by decide), if_neg (by decide)]
      refine moper_3 hV hh eh (fun g => no _ (if_neg (g2n g)) e) (fun g => ?_)
      rw [if_pos (g2 (by omega))] at e
      obtain ⟨m, rfl⟩ : ∃ m, h = m + 2 := ⟨h - 2, by omega⟩
      unfold cm_join at e
      rw [top (m + 1) rfl, sec m rfl, ← st m (by omega), ← st (m + 1) (by omega)] at e
      apply hV; apply hV; apply hV
      refine ⟨rfl, ?_⟩
      refine h49 _ _ _ _ _ _ ⟨rfl, ⟨_, rfl⟩, Or.inl rfl, m, by omega, eh, fun ec => ?_, fun r ec => ?_⟩
      · simp only [ec] at e
        apply hV
        exact hK _ _ (Rop_some (E := 5) e hR (agE_refl I))
      · simp only [ec] at e
        apply hV
        rw [gh, show nI (m + 2) - 1 = nI (m + 1) from nI_pred (m + 1)] at e
        refine hK _ _ (Rop_none (h := m + 1) e (RK_o (RK_f (RK_G (RK_G hR (by omega) _ _) (by omega) _ _) (by omega) _) (by omega) _ _) (agE_38 (agE_f (agE_refl I) (Or.inl rfl) _) _ _) ⟨by omega, rfl, rfl, fun i hi => ?_⟩)
        show upd (I 38) m r i = upd (G 18) m r i
        rw [pb_upd, pb_upd]
        by_cases e1 : i = m
        · rw [if_pos e1, if_pos e1]
        · rw [if_neg e1, if_neg e1]
          exact st i (by omega)
    · have e : cm_apply (nI 4) v row G = if 2 ≤ G 15 1 then cm_join (nI 4) G else (some 2, G) := by unfold cm_apply; rw [if_neg (by decide), if_neg (by decide), if_neg (by decide), if_neg (by decide), if_neg (by decide), if_neg (by decide), if_neg (by decide)]
      refine moper_4 hV hh eh (fun g => no _ (if_neg (g2n g)) e) (fun g => ?_)
      rw [if_pos (g2 (by omega))] at e
      obtain ⟨m, rfl⟩ : ∃ m, h = m + 2 := ⟨h - 2, by omega⟩
      unfold cm_join at e
      rw [top (m + 1) rfl, sec m rfl, ← st m (by omega), ← st (m + 1) (by omega)] at e
      apply hV; apply hV; apply hV
      refine ⟨rfl, ?_⟩
      refine h49 _ _ _ _ _ _ ⟨rfl, ⟨_, rfl⟩, Or.inr (Or.inl rfl), m, by omega, eh, fun ec => ?_, fun r ec => ?_⟩
      · simp only [ec] at e
        apply hV
        exact hK _ _ (Rop_some (E := 5) e hR (agE_refl I))
      · simp only [ec] at e
        apply hV
        rw [gh, show nI (m + 2) - 1 = nI (m + 1) from nI_pred (m + 1)] at e
        refine hK _ _ (Rop_none (h := m + 1) e (RK_o (RK_f (RK_G (RK_G hR (by omega) _ _) (by omega) _ _) (by omega) _) (by omega) _ _) (agE_38 (agE_f (agE_refl I) (Or.inl rfl) _) _ _) ⟨by omega, rfl, rfl, fun i hi => ?_⟩)
        show upd (I 38) m r i = upd (G 18) m r i
        rw [pb_upd, pb_upd]
        by_cases e1 : i = m
        · rw [if_pos e1, if_pos e1]
        · rw [if_neg e1, if_neg e1]
          exact st i (by omega)
    · have e : cm_apply (nI 5) v row G = if 2 ≤ G 15 1 then cm_join (nI 5) G else (some 2, G) := by unfold cm_apply; rw [if_neg (by decide), if_neg (by decide), if_neg (by decide), if_neg (by decide), if_neg (by decide), if_neg (by decide), if_neg (by decide)]
      refine moper_5 hV hh eh (fun g => no _ (if_neg (g2n g)) e) (fun g => ?_)
      rw [if_pos (g2 (by omega))] at e
      obtain ⟨m, rfl⟩ : ∃ m, h = m + 2 := ⟨h - 2, by omega⟩
      unfold cm_join at e
      rw [top (m + 1) rfl, sec m rfl, ← st m (by omega), ← st (m + 1) (by omega)] at e
      apply hV; apply hV; apply hV
      refine ⟨rfl, ?_⟩
      refine h49 _ _ _ _ _ _ ⟨rfl, ⟨_, rfl⟩, Or.inr (Or.inr (Or.inl rfl)), m, by omega, eh, fun ec => ?_, fun r ec => ?_⟩
      · simp only [ec] at e
        apply hV
        exact hK _ _ (Rop_some (E := 5) e hR (agE_refl I))
      · simp only [ec] at e
        apply hV
        rw [gh, show nI (m + 2) - 1 = nI (m + 1) from nI_pred (m + 1)] at e
        refine hK _ _ (Rop_none (h := m + 1) e (RK_o (RK_f (RK_G (RK_G hR (by omega) _ _) (by omega) _ _) (by omega) _) (by omega) _ _) (agE_38 (agE_f (agE_refl I) (Or.inl rfl) _) _ _) ⟨by omega, rfl, rfl, fun i hi => ?_⟩)
        show upd (I 38) m r i = upd (G 18) m r i
        rw [pb_upd, pb_upd]
        by_cases e1 : i = m
        · rw [if_pos e1, if_pos e1]
        · rw [if_neg e1, if_neg e1]
          exact st i (by omega)
    · have e : cm_apply (nI 6) v row G = if 2 ≤ G 15 1 then cm_join (nI 6) G else (some 2, G) := by unfold cm_apply; rw [if_neg (by decide), if_neg (by decide), if_neg (by decide), if_neg (by decide), if_neg (by decide), if_neg (by decide), if_neg (by decide)]
      refine moper_6 hV hh eh (fun g => no _ (if_neg (g2n g)) e) (fun g => ?_)
      rw [if_pos (g2 (by omega))] at e
      obtain ⟨m, rfl⟩ : ∃ m, h = m + 2 := ⟨h - 2, by omega⟩
      unfold cm_join at e
      rw [top (m + 1) rfl, sec m rfl, ← st m (by omega), ← st (m + 1) (by omega)] at e
      apply hV; apply hV; apply hV
      refine ⟨rfl, ?_⟩
      refine h49 _ _ _ _ _ _ ⟨rfl, ⟨_, rfl⟩, Or.inr (Or.inr (Or.inr rfl)), m, by omega, eh, fun ec => ?_, fun r ec => ?_⟩
      · simp only [ec] at e
        apply hV
        exact hK _ _ (Rop_some (E := 5) e hR (agE_refl I))
      · simp only [ec] at e
        apply hV
        rw [gh, show nI (m + 2) - 1 = nI (m + 1) from nI_pred (m + 1)] at e
        refine hK _ _ (Rop_none (h := m + 1) e (RK_o (RK_f (RK_G (RK_G hR (by omega) _ _) (by omega) _ _) (by omega) _) (by omega) _ _) (agE_38 (agE_f (agE_refl I) (Or.inl rfl) _) _ _) ⟨by omega, rfl, rfl, fun i hi => ?_⟩)
        show upd (I 38) m r i = upd (G 18) m r i
        rw [pb_upd, pb_upd]
        by_cases e1 : i = m
        · rw [if_pos e1, if_pos e1]
        · rw [if_neg e1, if_neg e1]
          exact st i (by omega)
    · have e : cm_apply (nI 7) v row G = if 1 ≤ G 15 1 then cm_push (G 18 (G 15 1 - 1).toNatClampNeg) G else (some 2, G) := by unfold cm_apply; rw [if_neg (by decide), if_neg (by decide), if_neg (by decide), if_pos (show nI 7 = 7 from rfl)]
      refine moper_7 hV hh eh (fun g => no _ (if_neg (g1n g)) e) (fun g => ?_)
      rw [if_pos (g1 (by omega))] at e
      have gg := g
      obtain ⟨m, em⟩ : ∃ m, h = m + 1 := ⟨h - 1, by omega⟩
      rw [top m em] at e
      apply hV; apply hV; apply hV
      refine ⟨rfl, ?_⟩
      apply hV; apply hV
      refine ⟨rfl, ?_⟩
      apply hV; apply hV
      show V 142 [(0, .inr (.inr (some 21))), (1, .inl (nI 7)), (2, .inl v), (3, .inl (nI j)), (4, .inl 1)] [.inl (I 21 33 - 1), .inr (.inr (some 38)), .inr (.inr (some 21))] I (am_p0 q) J n
      rw [itop m em]
      apply hV
      refine ⟨vi m (by omega), ?_⟩
      rw [cl m (by omega)]
      apply hV
      refine ⟨rfl, ?_⟩
      refine push _ _ _ _ e (st m (by omega)) (fun s Y hr => ?_)
      apply hV
      exact hK s Y (by rw [e]; exact hr)
    · have e : cm_apply (nI 8) v row G = if 2 ≤ G 15 1 then (none, am_ui (am_ui G 18 (G 15 1 - 1).toNatClampNeg (G 18 (G 15 1 - 2).toNatClampNeg)) 18 (G 15 1 - 2).toNatClampNeg (G 18 (G 15 1 - 1).toNatClampNeg)) else (some 2, G) := by unfold cm_apply; rw [if_neg (by decide), if_neg (by decide), if_neg (by decide), if_neg (by decide), if_pos (show nI 8 = 8 from rfl)]
      refine moper_8 hV hh eh (fun g => no _ (if_neg (g2n g)) e) (fun g => ?_)
      rw [if_pos (g2 (by omega))] at e
      obtain ⟨m, em⟩ : ∃ m, h = m + 2 := ⟨h - 2, by omega⟩
      rw [top (m + 1) (by omega), sec m em] at e
      have it1 := itop (m + 1) (by omega)
      have is1 := isec m em
      apply hV; apply hV
      refine ⟨rfl, ?_⟩
      apply hV; apply hV
      refine ⟨rfl, ?_⟩
      apply hV; apply hV
      show V 157 [(0, .inr (.inr (some 21))), (1, .inl (nI 8)), (2, .inl v), (3, .inl (nI j)), (4, .inl 2)] [.inl (I 21 33 - 1), .inr (.inr (some 38))] I (am_p0 q) J n
      rw [it1]
      apply hV
      refine ⟨vi (m + 1) (by omega), ?_⟩
      rw [cl (m + 1) (by omega)]
      apply hV; apply hV; apply hV
      refine ⟨rfl, ?_⟩
      apply hV; apply hV
      refine ⟨rfl, ?_⟩
      apply hV; apply hV
      show V 170 [(0, .inr (.inr (some 21))), (1, .inl (nI 8)), (2, .inl v), (3, .inl (nI j)), (4, .inl 2), (5, .inl (I 38 (m + 1)))] [.inl (I 21 33 - 1), .inr (.inr (some 38))] I (am_p0 q) J n
      rw [it1]
      apply hV; apply hV
      refine ⟨rfl, ?_⟩
      apply hV; apply hV
      refine ⟨rfl, ?_⟩
      apply hV; apply hV
      show V 180 [(0, .inr (.inr (some 21))), (1, .inl (nI 8)), (2, .inl v), (3, .inl (nI j)), (4, .inl 2), (5, .inl (I 38 (m + 1)))] [.inl (I 21 33 - 2), .inr (.inr (some 38)), .inl (nI (m + 1)), .inr (.inr (some 38))] I (am_p0 q) J n
      rw [is1]
      apply hV
      refine ⟨vi m (by omega), ?_⟩
      rw [cl m (by omega)]
      apply hV
      refine ⟨vi (m + 1) (by omega), ?_⟩
      rw [cl (m + 1) (by omega)]
      apply hV; apply hV
      refine ⟨rfl, ?_⟩
      apply hV; apply hV
      refine ⟨rfl, ?_⟩
      apply hV; apply hV
      show V 192 [(0, .inr (.inr (some 21))), (1, .inl (nI 8)), (2, .inl v), (3, .inl (nI j)), (4, .inl 2), (5, .inl (I 38 (m + 1)))] [.inl (I 21 33 - 2), .inr (.inr (some 38))] (am_ui I 38 (m + 1) (I 38 m)) (am_p0 q) J n
      rw [is1]
      apply hV; apply hV
      refine ⟨vi m (by omega), ?_⟩
      rw [cl m (by omega)]
      apply hV; apply hV
      refine hK _ _ (Rop_none (h := h) e (RK_o (RK_o (RK_G (RK_G hR (by omega) _ _) (by omega) _ _) (by omega) _ _) (by omega) _ _) (agE_38 (agE_38 (agE_refl I) _ _) _ _) ⟨hh, eh, gh, fun i hi => ?_⟩)
      show upd (upd (I 38) (m + 1) (I 38 m)) m (I 38 (m + 1)) i = upd (upd (G 18) (m + 1) (G 18 m)) m (G 18 (m + 1)) i
      simp only [pb_upd]
      rw [st m (by omega), st (m + 1) (by omega), st i hi]
    · have e : cm_apply (nI 9) v row G = if 1 ≤ G 15 1 then (none, am_ui G 15 1 (G 15 1 - 1)) else (some 2, G) := by unfold cm_apply; rw [if_neg (by decide), if_neg (by decide), if_neg (by decide), if_neg (by decide), if_neg (by decide), if_pos (show nI 9 = 9 from rfl)]
      refine moper_9 hV hh eh (fun g => no _ (if_neg (g1n g)) e) (fun g => ?_)
      rw [if_pos (g1 (by omega))] at e
      obtain ⟨m, em⟩ : ∃ m, h = m + 1 := ⟨h - 1, by omega⟩
      rw [show G 15 1 - 1 = nI m by rw [gh, em, nI_pred]] at e
      apply hV; apply hV; apply hV
      refine ⟨rfl, ?_⟩
      apply hV; apply hV; apply hV
      refine ⟨rfl, ?_⟩
      rw [itop m em]
      apply hV; apply hV
      refine hK _ _ (Rop_none (h := m) e (RK_f (RK_G hR (by omega) _ _) (by omega) _) (agE_f (agE_refl I) (Or.inl rfl) _) ⟨by omega, rfl, rfl, fun i hi => st i (by omega)⟩)
    · have e : cm_apply (nI 10) v row G = if 2 ≤ G 15 1 then cm_push (G 18 (G 15 1 - 2).toNatClampNeg) G else (some 2, G) := by unfold cm_apply; rw [if_neg (by decide), if_neg (by decide), if_neg (by decide), if_neg (by decide), if_neg (by decide), if_neg (by decide), if_pos (show nI 10 = 10 from rfl)]
      refine moper_10 hV hh eh (fun g => no _ (if_neg (g2n g)) e) (fun g => ?_)
      rw [if_pos (g2 (by omega))] at e
      obtain ⟨m, em⟩ : ∃ m, h = m + 2 := ⟨h - 2, by omega⟩
      rw [sec m em] at e
      apply hV; apply hV; apply hV
      refine ⟨rfl, ?_⟩
      apply hV; apply hV
      refine ⟨rfl, ?_⟩
      apply hV; apply hV
      show V 220 [(0, .inr (.inr (some 21))), (1, .inl (nI 10)), (2, .inl v), (3, .inl (nI j)), (4, .inl 2)] [.inl (I 21 33 - 2), .inr (.inr (some 38)), .inr (.inr (some 21))] I (am_p0 q) J n
      rw [isec m em]
      apply hV
      refine ⟨vi m (by omega), ?_⟩
      rw [cl m (by omega)]
      apply hV
      refine ⟨rfl, ?_⟩
      refine push _ _ _ _ e (st m (by omega)) (fun s Y hr => ?_)
      apply hV
      exact hK s Y (by rw [e]; exact hr)
  · exact hT.elim
