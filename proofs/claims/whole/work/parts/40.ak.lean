/-! The reference: ask, held against the class's. -/
def mo_no : Nat → Nat
  | 0 => 0
  | n + 1 => n % 255 + 1
/-- between calls: t: how many faults were told at most, N: requests so far -/
def RK (t N : Nat) (G I : am_I) : Prop :=
  ∃ m w d, RX m w G I ∧ (∀ k, k < 8 → I 28 k = G 9 k) ∧ G 8 2 = nI N ∧ I 21 14 = nI (mo_no N) ∧ ((I 21 7 = 0 ∧ d = N) ∨ (d < N ∧ I 21 7 = nI ((N - d - 1) % 255 + 1))) ∧ 4 * d + w ≤ t
def Rask (t N : Nat) (kind a : Int32) (I : am_I) (x : Option Int32 × am_I) (s : Int32) (Y : am_I) : Prop :=
  RK t (N + 1) x.2 Y ∧ agK I Y ∧ match x.1 with
    | none => s = -1
    | some g => Y 21 19 = g ∧ s = x.2 8 1 ∧ (s = 0 ∨ s = 1) ∧ (okk kind a → s = 0)
def T_mask : am_T := fun as I P J n K => match as with
  | [.inr (.inr (some o)), .inl kind, .inl a, .inl v] => o = 21 ∧ (∃ q, P = am_p0 q) ∧ ∃ G t N, t ≤ 512 ∧ N < 2 ^ 31 - 1 ∧ RK t N G I ∧ (∃ d, d ≤ 9 ∧ kind = nI d) ∧
      ∀ Y s, Rask t N kind a I (cm_ask 4 (cm_wr kind a v G)) s Y → K (.inl (some (.inl s))) Y P J n
  | _ => False
/-- while a request is tried: i tries were made -/
def LI (num kind a v ld : Int32) (w0 N i : Nat) (I0 G I : am_I) : Prop :=
  ∃ m w, RX m w G I ∧ eqn 8 (G 9) (rq num kind a v) ∧ I 21 14 = num ∧ (i = 0 ∨ ∀ k, k < 8 → I 28 k = G 9 k) ∧ (I 21 7 = num → okk kind a → I 21 8 = 0) ∧ ((I 21 7 = num ∧ w ≤ w0) ∨ (I 21 7 = ld ∧ w + i = w0)) ∧ G 8 2 = nI (N + 1) ∧ agK I0 I
theorem RX_8 {m w : Nat} {G I : am_I} (h : RX m w G I) (x y : Int32) : RX m w (am_ui G 8 1 x) (am_ui I 21 19 y) := by
  obtain ⟨x1, x2, x3, x4, x5, x6⟩ := h
  exact ⟨RM_cells x1 rfl rfl rfl rfl rfl rfl rfl, RB_cells x2 rfl rfl rfl rfl rfl rfl, RA_cells x3 rfl rfl rfl rfl rfl, RF_G x4 rfl rfl rfl rfl rfl, x5, x6⟩
theorem cm_try_0 {G G2 : am_I} {b : Int32} (e : cm_c8 G = (b, G2)) (h : b = 0) : cm_try G = (false, G2) := by unfold cm_try; rw [e, if_pos h]
theorem cm_try_1 {G G2 G3 : am_I} {b c : Int32} (e : cm_c8 G = (b, G2)) (e' : cm_c7 G2 = (c, G3)) (h : ¬ b = 0) (h' : c = 0) : cm_try G = (false, G3) := by unfold cm_try; rw [e, if_neg h, e', if_pos h']
theorem cm_try_2 {G G2 G3 : am_I} {b c : Int32} (e : cm_c8 G = (b, G2)) (e' : cm_c7 G2 = (c, G3)) (h : ¬ b = 0) (h' : ¬ c = 0) (h2 : G3 11 0 = G3 9 0) : cm_try G = (true, G3) := by unfold cm_try; rw [e, if_neg h, e', if_neg h', if_pos h2]
theorem ok_mask_loop {sc : am_S} {C : Nat → am_T} (h31 : am_has C 31 T_mread) (h33 : am_has C 33 T_msend) (h34 : am_has C 34 T_manswered) {q n t N w0 d : Nat} {num kind a v ld : Int32} {J : am_J} {K : am_K} {V : am_W} (hD : am_drop V) (hV : am_closed sc C tb_Mo_ask V K) {I0 : am_I}
    (hn1 : num = nI (N % 255 + 1)) (hkind : ∃ d, d ≤ 9 ∧ kind = nI d) (hld : (ld = 0 ∧ d = N) ∨ (d < N ∧ ld = nI ((N - d - 1) % 255 + 1))) (ht : 4 * d + w0 ≤ t) :
    ∀ (k i : Nat) (G I : am_I), i + k = 4 → LI num kind a v ld w0 N i I0 G I → (∀ Y s, Rask t N kind a I0 (cm_ask k G) s Y → K (.inl (some (.inl s))) Y (am_p0 q) J n) →
      V 27 [(0, .inr (.inr (some 21))), (1, .inl kind), (2, .inl a), (3, .inl v), (4, .inl (nI i))] [] I (am_p0 q) J n := by
  have hnum : ∃ c, c < 256 ∧ num = nI c := ⟨N % 255 + 1, by omega, hn1⟩
  intro k
  induction k with
  | zero =>
    intro i G I hi hL hK
    obtain ⟨m, w, hX, h9, h14, hl, hz, hA, h82, hag⟩ := hL
    apply hV; apply hV; apply hV
    refine ⟨fun h => ?_, fun h => absurd (show nI 4 ≤ nI i from nI_le (by omega) (by omega)) h⟩
    apply hV; apply hV
    refine hK I (-1) ⟨?_, hag, rfl⟩
    have hl' : ∀ k, k < 8 → I 28 k = G 9 k := by
      rcases hl with h0 | h0
      · omega
      · exact h0
    have hno : I 21 14 = nI (mo_no (N + 1)) := by rw [h14, hn1]; rfl
    rcases hA with ⟨h7, hw⟩ | ⟨h7, hw⟩
    · refine ⟨m, w, 0, hX, hl', h82, hno, Or.inr ⟨by omega, ?_⟩, by omega⟩
      rw [h7, hn1]
      rfl
    · refine ⟨m, w, d + 1, hX, hl', h82, hno, ?_, by omega⟩
      rcases hld with ⟨e0, ed⟩ | ⟨hd, e0⟩
      · exact Or.inl ⟨h7.trans e0, by omega⟩
      · refine Or.inr ⟨by omega, ?_⟩
        rw [h7, e0, show N + 1 - (d + 1) - 1 = N - d - 1 by omega]
  | succ k ih =>
    intro i G I hi hL hK
    obtain ⟨m, w, hX, h9, h14, hl, hz, hA, h82, hag⟩ := hL
    have next : ∀ G' I', LI num kind a v ld w0 N (i + 1) I0 G' I' → cm_try G = (false, G') → V 66 [(0, .inr (.inr (some 21))), (1, .inl kind), (2, .inl a), (3, .inl v), (4, .inl (nI i))] [] I' (am_p0 q) J n := by
      intro G' I' hL' e
      apply hV; apply hV
      show V 27 [(0, .inr (.inr (some 21))), (1, .inl kind), (2, .inl a), (3, .inl v), (4, .inl (nI i + 1))] [] I' (am_p0 q) J n
      rw [← nI_succ]
      refine ih (i + 1) G' I' (by omega) hL' (fun Y s hr => hK Y s ?_)
      have e2 : cm_ask (k + 1) G = cm_ask k G' := by
        rw [cm_ask, e]
      rw [e2]
      exact hr
    obtain ⟨x1, x2, x3, x4, x5, x6⟩ := hX
    apply hV; apply hV; apply hV
    refine ⟨fun h => absurd h (show ¬ nI 4 ≤ nI i from nI_ge (by omega) (by omega)), fun h => ?_⟩
    apply hV; apply hV; apply hV; apply hV; apply hV
    refine ⟨rfl, ?_⟩
    refine h33 _ _ _ _ _ _ ⟨rfl, ⟨_, rfl⟩, w, x4.1, x4.2.1, fun X r er x27 x28 x21 xo => ?_⟩
    have xf : ∀ b, b ≠ 16 → X 21 b = I 21 b := fun b hb => by rw [x21, pb_upd, if_neg hb]
    rw [h14] at er
    have hF : RF w (am_ui G 8 3 (G 8 3 + 1)) X := RF_G x4 rfl rfl rfl (xf 10 (by omega)) (xo 26 (by omega))
    have hrow : eqn 8 (X 27) (am_ui G 8 3 (G 8 3 + 1) 9) := by
      rw [x27]
      exact eqn_trans er (eqn_symm h9)
    have hRX : RX m w (am_ui G 8 3 (G 8 3 + 1)) X := by
      refine ⟨RM_cells x1 rfl rfl rfl (xo 22 (by omega)) (xo 23 (by omega)) (xf 2 (by omega)) (xf 3 (by omega)), RB_cells x2 rfl rfl rfl (xf 4 (by omega)) (xo 24 (by omega)) (xo 25 (by omega)), RA_cells x3 rfl rfl (xf 7 (by omega)) (xf 8 (by omega)) (xf 9 (by omega)), hF, ⟨?_, ?_, ?_, ?_⟩, ?_⟩
      · rw [xf 15 (by omega)]; exact x5.1
      · rw [x21]
        show I 21 16 + 1 = G 8 3 + 1
        rw [x5.2.1]
      · rw [xf 17 (by omega)]; exact x5.2.2.1
      · rw [xf 18 (by omega)]; exact x5.2.2.2
      · intro j hj
        rw [x28]
        unfold va_cpy
        rw [if_neg (by omega)]
        exact x6 j hj
    have hr := rel_car8 hF hrow (byt_eq h9 (rq_byt hnum hkind)) (by
      show G 9 7 = pm_sum7 (G 9)
      rw [h9 7 (by omega), pm_sum7_eq (fun k hk => h9 k (by omega))]
      exact rq_sum _ _ _ _) (by rw [xf 18 (by omega)]; exact x5.2.2.2)
    have ec8 : cm_c8 G = cm_car8 (am_ui G 8 3 (G 8 3 + 1)) := rfl
    rw [← ec8] at hr
    clear ec8
    obtain ⟨b8, G2, hc8⟩ : ∃ b8 G2, cm_c8 G = (b8, G2) := ⟨_, _, rfl⟩
    rw [hc8] at hr
    obtain ⟨y1, y2, y3, y4, y5, y6, y7, y8⟩ := hr
    have y1 : (mo_ar8 w X).1 = b8 := y1
    have y2 : b8 = 0 ∨ b8 = 1 := y2
    have y3 : RF (w - 1) G2 (mo_ar8 w X).2 := y3
    have y4 : (mo_ar8 w X).2 21 18 = G2 8 5 := y4
    have y5 : b8 = 1 → eqn 8 ((mo_ar8 w X).2 27) (G2 11) ∧ eqn 8 (G2 11) (G 9) := y5
    have y6 : b8 = 0 → 1 ≤ w := y6
    have y8 : agL (am_ui G 8 3 (G 8 3 + 1)) G2 := y8
    have hR2 := RX_car hRX y8 y7 y3 y4
    rw [y1]
    refine ⟨y2, ?_⟩
    generalize hZ : (mo_ar8 w X).2 = Z at y3 y4 y5 y7 hR2 ⊢
    have ezf : ∀ b, b ≠ 10 → b ≠ 16 → b ≠ 18 → Z 21 b = I 21 b := fun b h1 h2 h3 => (y7.2 b h1 h3).trans (xf b h2)
    have ezo : ∀ k, ¬ (k = 21 ∨ k = 26 ∨ k = 27 ∨ k = 28) → Z k = I k := fun k hk => (y7.1 k (by omega)).trans (xo k (by omega))
    have g9 : G2 9 = G 9 := y8.1 9 (by omega) (by omega)
    have g82 : G2 8 2 = G 8 2 := y8.2 2 (by omega) (by omega) (by omega)
    have z28 : ∀ k, k < 8 → Z 28 k = G2 9 k := by
      intro j hj
      rw [y7.1 28 (by omega), x28, g9]
      unfold va_cpy
      rw [if_pos (by omega), show 0 + (j - 0) = j by omega, er j hj]
      exact (h9 j hj).symm
    have zag : agK I0 Z := agK_trans hag ⟨fun k hk => ezo k (by omega), fun b hb => ezf b (by omega) (by omega) (by omega)⟩
    have z7 : Z 21 7 = I 21 7 := ezf 7 (by omega) (by omega) (by omega)
    have z8 : Z 21 8 = I 21 8 := ezf 8 (by omega) (by omega) (by omega)
    have z14 : Z 21 14 = num := (ezf 14 (by omega) (by omega) (by omega)).trans h14
    show V 40 [(0, .inr (.inr (some 21))), (1, .inl kind), (2, .inl a), (3, .inl v), (4, .inl (nI i))] [.inl b8] Z (am_p0 q) J n
    apply hV
    refine ⟨fun h0 => ?_, fun h0 => ?_⟩
    · refine next G2 Z ⟨m, w - 1, hR2, by rw [g9]; exact h9, z14, Or.inr z28, by rw [z7, z8]; exact hz, ?_, g82.trans h82, zag⟩ (cm_try_0 hc8 h0)
      rw [z7]
      have w1 := y6 h0
      rcases hA with ⟨h7, hw⟩ | ⟨h7, hw⟩
      · exact Or.inl ⟨h7, by omega⟩
      · exact Or.inr ⟨h7, by omega⟩
    · have h1 : b8 = 1 := by
        rcases y2 with y2 | y2
        · exact absurd y2 h0
        · exact y2
      obtain ⟨r1, r2⟩ := y5 h1
      have r2' : eqn 8 (G2 11) (rq num kind a v) := eqn_trans r2 h9
      apply hV; apply hV
      refine ⟨rfl, ?_⟩
      refine h34 _ _ _ _ _ _ ⟨rfl, ⟨_, rfl⟩, G2, m, w - 1, num, kind, a, v, hR2, eqn_trans r1 r2', r2', hnum, hkind, by rw [z7, z8]; exact hz, fun Y hY => ?_⟩
      obtain ⟨b7, G3, hc7⟩ : ∃ b7 G3, cm_c7 G2 = (b7, G3) := ⟨_, _, rfl⟩
      rw [hc7] at hY ⊢
      obtain ⟨m', q1, q2, q3, q4, q5, q6, q7, q8, q9, q10⟩ := hY
      have q1 : RX m' (w - 1 - 1) G3 Y := q1
      have q4 : b7 = 1 → eqn 7 (Y 27) (G3 11) ∧ G3 11 0 = num ∧ G3 11 1 = Y 21 8 := q4
      have q5 : b7 = 0 ∨ b7 = 1 := q5
      have q7 : G3 9 = G2 9 := q7
      have q8 : G3 8 2 = G2 8 2 := q8
      show V 47 [(0, .inr (.inr (some 21))), (1, .inl kind), (2, .inl a), (3, .inl v), (4, .inl (nI i))] [.inl b7] Y (am_p0 q) J n
      have yag : agK I0 Y := agK_trans zag q6
      have g9' : G3 9 = G 9 := q7.trans g9
      have g82' : G3 8 2 = nI (N + 1) := q8.trans (g82.trans h82)
      have hwl : w - 1 - 1 ≤ w0 := by
        rcases hA with ⟨-, hw⟩ | ⟨-, hw⟩ <;> omega
      have y28 : ∀ k, k < 8 → Y 28 k = G3 9 k := fun j hj => by
        rw [q9 j hj, z28 j hj, q7]
      have y14 : Y 21 14 = num := q10.trans z14
      apply hV
      refine ⟨fun h2 => ?_, fun h2 => ?_⟩
      · exact next G3 Y ⟨m', w - 1 - 1, q1, by rw [g9']; exact h9, y14, Or.inr y28, fun _ => q3, Or.inl ⟨q2, hwl⟩, g82', yag⟩ (cm_try_1 hc8 hc7 h0 h2)
      · have h21 : b7 = 1 := by
          rcases q5 with q5 | q5
          · exact absurd q5 h2
          · exact q5
        obtain ⟨p1, p2, p3⟩ := q4 h21
        have et := cm_try_2 hc8 hc7 h0 h2 (by rw [p2, g9', h9 0 (by omega)]; rfl)
        have ea : cm_ask (k + 1) G = (some (pm_word (G3 11) 2), am_ui G3 8 1 (G3 11 1)) := by
          rw [cm_ask, et]
        rw [ea] at hK
        apply hV; apply hV; apply hV; apply hV
        refine ⟨rfl, ?_⟩
        refine h31 _ _ _ _ _ _ ⟨rfl, ⟨_, rfl⟩, Or.inl ⟨rfl, ?_⟩⟩
        apply hV
        refine ⟨rfl, ?_⟩
        apply hV; apply hV
        refine ⟨rfl, ?_⟩
        apply hV; apply hV
        refine ⟨by unfold vp_in; decide, ?_⟩
        apply hV
        have es : Y 27 1 = Y 21 8 := (p1 1 (by omega)).trans p3
        show K (.inl (some (.inl (Y 27 1)))) (am_ui Y 21 19 (pm_word (Y 27) 2)) (am_p0 q) J n
        refine hK _ _ ⟨?_, ⟨fun k hk => ?_, fun b hb => ?_⟩, ?_, ?_, ?_, ?_⟩
        · refine ⟨m', w - 1 - 1, 0, RX_8 q1 _ _, y28, g82', ?_, Or.inr ⟨by omega, ?_⟩, by omega⟩
          · show Y 21 14 = _
            rw [y14, hn1]
            rfl
          · show Y 21 7 = _
            rw [q2, hn1]
            rfl
        · rw [am_ui_ne _ _ _ (by omega)]
          exact yag.1 k hk
        · rw [am_ui_eq, pb_upd, if_neg (by omega)]
          exact yag.2 b hb
        · show pm_word (Y 27) 2 = _
          exact pm_word_eq2 p1
        · exact p1 1 (by omega)
        · rw [es]
          exact q1.2.2.1.2.2.2
        · intro ho
          rw [es]
          exact q3 ho
theorem ok_mask (sc : am_S) (C : Nat → am_T) (h31 : am_has C 31 T_mread) (h33 : am_has C 33 T_msend) (h34 : am_has C 34 T_manswered) : am_ok sc C tb_Mo_ask T_mask := by
  intro as I P J n K hT V hD hV
  unfold T_mask at hT
  split at hT
  · rename_i o kind a v
    obtain ⟨rfl, ⟨q, rfl⟩, G, t, N, ht, hN, ⟨m, w, d, hX, hl, h82, h14, hld, hdw⟩, hkind, hK⟩ := hT
    show V 0 [(0, .inr (.inr (some 21))), (1, .inl kind), (2, .inl a), (3, .inl v)] [] I (am_p0 q) J n
    have en1 : am_rem (I 21 14) 255 + 1 = nI (N % 255 + 1) := by
      rw [h14]
      have e : am_rem (nI (mo_no N)) 255 = nI (mo_no N % 255) := by
        refine pk_rem (d := 255) ?_ (by omega) (by omega)
        cases N with
        | zero => decide
        | succ n =>
          show n % 255 + 1 < 2 ^ 31
          omega
      rw [e, nI_1]
      congr 1
      cases N with
      | zero => rfl
      | succ n =>
        show (n % 255 + 1) % 255 + 1 = (n + 1) % 255 + 1
        omega
    have en2 : am_rem (G 8 2) 255 + 1 = nI (N % 255 + 1) := by
      rw [h82]
      have e : am_rem (nI N) 255 = nI (N % 255) := pk_rem (d := 255) (by omega) (by omega) (by omega)
      rw [e, nI_1]
    have hne : ¬ I 21 7 = nI (N % 255 + 1) := by
      rcases hld with ⟨e0, -⟩ | ⟨hd, e0⟩
      · rw [e0]
        exact fun h => nI_ne0 (n := N % 255 + 1) (by omega) (by omega) h.symm
      · rw [e0, nI_eq (by omega) (by omega)]
        omega
    apply hV; apply hV; apply hV
    refine ⟨rfl, ?_⟩
    apply hV; apply hV
    refine ⟨by decide, ?_⟩
    apply hV; apply hV; apply hV
    refine ⟨rfl, ?_⟩
    rw [en1]
    apply hV; apply hV; apply hV
    refine ⟨rfl, ?_⟩
    apply hV; apply hV; apply hV
    refine ⟨rfl, ?_⟩
    apply hV; apply hV
    obtain ⟨x1, x2, x3, x4, x5, x6⟩ := hX
    have e8 : ∀ b, b ≠ 2 → cm_wr kind a v G 8 b = G 8 b := by
      intro b hb
      unfold cm_wr
      rw [am_ui_eq, pb_upd, if_neg hb, cm_row_ne _ _ (by omega)]
    have ek : ∀ k, k ≠ 8 → k ≠ 9 → cm_wr kind a v G k = G k := fun k h1 h2 => cm_wr_oth _ _ _ _ h1 h2
    have e9 : eqn 8 (cm_wr kind a v G 9) (rq (nI (N % 255 + 1)) kind a v) := by
      have : cm_wr kind a v G 9 = upd (pm_put (upd (upd (upd (G 9) 0 (am_rem (G 8 2) 255 + 1)) 1 kind) 2 (a &&& 255)) 3 v) 7 (pm_sum7 (pm_put (upd (upd (upd (G 9) 0 (am_rem (G 8 2) 255 + 1)) 1 kind) 2 (a &&& 255)) 3 v)) := by
        unfold cm_wr
        rw [am_ui_ne _ _ _ (by omega)]
        exact cm_row_eq _ _ _
      rw [this, en2]
      exact rq_any _ _ _ _ _
    refine ok_mask_loop (ld := I 21 7) (w0 := w) h31 h33 h34 hD hV (I0 := I) rfl hkind hld hdw 4 0 (cm_wr kind a v G) _ (by omega) ⟨m, w, ?_, e9, rfl, Or.inl rfl, fun h => absurd h hne, Or.inr ⟨rfl, by omega⟩, ?_, ⟨fun k hk => ?_, fun b hb => ?_⟩⟩ hK
    · refine ⟨RM_cells x1 (ek 1 (by omega) (by omega)) (ek 2 (by omega) (by omega)) (ek 3 (by omega) (by omega)) rfl rfl rfl rfl, RB_cells x2 (by rw [ek 4 (by omega) (by omega)]) (ek 6 (by omega) (by omega)) (ek 7 (by omega) (by omega)) rfl rfl rfl, RA_cells x3 (by rw [ek 4 (by omega) (by omega)]) (ek 5 (by omega) (by omega)) rfl rfl rfl, RF_G x4 (e8 6 (by omega)) (e8 9 (by omega)) (ek 10 (by omega) (by omega)) rfl rfl, ⟨?_, ?_, ?_, ?_⟩, ?_⟩
      · show I 21 15 + 1 = cm_wr kind a v G 8 2
        unfold cm_wr
        rw [am_ui_eq, pb_upd, if_pos rfl, x5.1]
      · rw [e8 3 (by omega)]; exact x5.2.1
      · rw [e8 4 (by omega)]; exact x5.2.2.1
      · rw [e8 5 (by omega)]; exact x5.2.2.2
      · intro j hj
        rw [ek 5 (by omega) (by omega)]
        exact x6 j hj
    · show cm_wr kind a v G 8 2 = nI (N + 1)
      unfold cm_wr
      rw [am_ui_eq, pb_upd, if_pos rfl, h82, nI_1]
    · rw [am_ui_ne _ _ _ (by omega), am_ui_ne _ _ _ (by omega)]
    · rw [am_ui_eq, pb_upd, if_neg (by omega), am_ui_eq, pb_upd, if_neg (by omega)]
  · exact hT.elim
