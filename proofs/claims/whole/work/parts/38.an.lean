/-! The reference: sendOut and answered. -/
def rq (num kind a v : Int32) : Nat → Int32 := upd (pm_put (upd (upd (upd (fun _ => 0) 0 num) 1 kind) 2 (a &&& 255)) 3 v) 7 (pm_sum7 (pm_put (upd (upd (upd (fun _ => 0) 0 num) 1 kind) 2 (a &&& 255)) 3 v))
def an (num s x : Int32) : Nat → Int32 := upd (pm_put (upd (upd (fun _ => 0) 0 num) 1 s) 2 x) 6 (pm_sum6 (pm_put (upd (upd (fun _ => 0) 0 num) 1 s) 2 x))
theorem eqn_next {j : Nat} {f g : Nat → Int32} (h : eqn j f g) {x y : Int32} (e : x = y) : eqn (j + 1) (upd f j x) (upd g j y) := by
  intro k hk
  rw [pb_upd, pb_upd, e]
  by_cases hkj : k = j
  · rw [if_pos hkj, if_pos hkj]
  · rw [if_neg hkj, if_neg hkj]
    exact h k (by omega)
theorem eqn_0 (f g : Nat → Int32) : eqn 0 f g := fun k hk => absurd hk (Nat.not_lt_zero k)
theorem eqn_put {j : Nat} {f g : Nat → Int32} (h : eqn j f g) (v : Int32) : eqn (j + 4) (pm_put f j v) (pm_put g j v) := eqn_next (eqn_next (eqn_next (eqn_next h rfl) rfl) rfl) rfl
theorem byt_next {j : Nat} {f : Nat → Int32} (h : byt j f) {x : Int32} (e : ∃ a, a < 256 ∧ x = nI a) : byt (j + 1) (upd f j x) := by
  intro k hk
  rw [pb_upd]
  by_cases hkj : k = j
  · rw [if_pos hkj]; exact e
  · rw [if_neg hkj]
    exact h k (by omega)
theorem byt_0 (f : Nat → Int32) : byt 0 f := fun k hk => absurd hk (Nat.not_lt_zero k)
theorem byte_and (x : Int32) : ∃ a, a < 256 ∧ x &&& 255 = nI a := by
  obtain ⟨n, hn, e⟩ := pb_m x 8
  exact ⟨n, hn, e⟩
theorem byt_put {j : Nat} {f : Nat → Int32} (h : byt j f) (v : Int32) : byt (j + 4) (pm_put f j v) := byt_next (byt_next (byt_next (byt_next h (byte_and _)) (byte_and _)) (byte_and _)) (byte_and _)
theorem eqn_upd (f : Nat → Int32) (j : Nat) (x : Int32) : eqn j (upd f j x) f := by
  intro k hk
  rw [pb_upd, if_neg (by omega)]
theorem byte_sum7 (f : Nat → Int32) : ∃ a, a < 256 ∧ pm_sum7 f = nI a := by unfold pm_sum7; exact byte_and _
theorem byte_sum6 (f : Nat → Int32) : ∃ a, a < 256 ∧ pm_sum6 f = nI a := by unfold pm_sum6; exact byte_and _
theorem rq_any (r : Nat → Int32) (num kind a v : Int32) : eqn 8 (upd (pm_put (upd (upd (upd r 0 num) 1 kind) 2 (a &&& 255)) 3 v) 7 (pm_sum7 (pm_put (upd (upd (upd r 0 num) 1 kind) 2 (a &&& 255)) 3 v))) (rq num kind a v) := by
  have h : eqn 7 (pm_put (upd (upd (upd r 0 num) 1 kind) 2 (a &&& 255)) 3 v) (pm_put (upd (upd (upd (fun _ => 0) 0 num) 1 kind) 2 (a &&& 255)) 3 v) := eqn_put (eqn_next (eqn_next (eqn_next (eqn_0 _ _) rfl) rfl) rfl) v
  exact eqn_next h (pm_sum7_eq h)
theorem an_any (r : Nat → Int32) (num s x : Int32) : eqn 7 (upd (pm_put (upd (upd r 0 num) 1 s) 2 x) 6 (pm_sum6 (pm_put (upd (upd r 0 num) 1 s) 2 x))) (an num s x) := by
  have h : eqn 6 (pm_put (upd (upd r 0 num) 1 s) 2 x) (pm_put (upd (upd (fun _ => 0) 0 num) 1 s) 2 x) := eqn_put (eqn_next (eqn_next (eqn_0 _ _) rfl) rfl) x
  exact eqn_next h (pm_sum6_eq h)
theorem rq_byt {num kind a v : Int32} (h1 : ∃ c, c < 256 ∧ num = nI c) (h2 : ∃ d, d ≤ 9 ∧ kind = nI d) : byt 8 (rq num kind a v) := by
  have h2' : ∃ c, c < 256 ∧ kind = nI c := by
    obtain ⟨d, hd, e⟩ := h2
    exact ⟨d, by omega, e⟩
  exact byt_next (byt_put (byt_next (byt_next (byt_next (byt_0 _) h1) h2') (byte_and _)) v) (byte_sum7 _)
theorem rq_sum (num kind a v : Int32) : rq num kind a v 7 = pm_sum7 (rq num kind a v) := by
  unfold rq
  rw [pb_upd, if_pos rfl]
  exact (pm_sum7_eq (eqn_upd _ _ _)).symm
theorem an_byt {num s x : Int32} (h1 : ∃ c, c < 256 ∧ num = nI c) (h2 : s = 0 ∨ s = 1) : byt 7 (an num s x) := by
  have h2' : ∃ c, c < 256 ∧ s = nI c := by
    rcases h2 with h2 | h2
    · exact ⟨0, by omega, h2⟩
    · exact ⟨1, by omega, h2⟩
  exact byt_next (byt_put (byt_next (byt_next (byt_0 _) h1) h2') x) (byte_sum6 _)
theorem an_sum (num s x : Int32) : an num s x 6 = pm_sum6 (an num s x) := by
  unfold an
  rw [pb_upd, if_pos rfl]
  exact (pm_sum6_eq (eqn_upd _ _ _)).symm
def RA (G I : am_I) : Prop := G 4 5 = I 21 7 ∧ eqn 7 (G 5) (an (I 21 7) (I 21 8) (I 21 9)) ∧ (∃ c, c < 256 ∧ I 21 7 = nI c) ∧ (I 21 8 = 0 ∨ I 21 8 = 1)
def RC (G I : am_I) : Prop := I 21 15 = G 8 2 ∧ I 21 16 = G 8 3 ∧ I 21 17 = G 8 4 ∧ I 21 18 = G 8 5
def RL (G I : am_I) : Prop := ∀ k, k < 7 → I 28 (8 + k) = G 5 k
def RX (m w : Nat) (G I : am_I) : Prop := RM G I ∧ RB m G I ∧ RA G I ∧ RF w G I ∧ RC G I ∧ RL G I
theorem RM_cells {G G' I I' : am_I} (h : RM G I) (g1 : G' 1 = G 1) (g2 : G' 2 = G 2) (g3 : G' 3 = G 3) (i22 : I' 22 = I 22) (i23 : I' 23 = I 23) (i2 : I' 21 2 = I 21 2) (i3 : I' 21 3 = I 21 3) : RM G' I' := by
  unfold RM at h ⊢
  rw [g1, g2, g3, i22, i23, i2, i3]
  exact h
theorem RA_cells {G G' I I' : am_I} (h : RA G I) (g4 : G' 4 5 = G 4 5) (g5 : G' 5 = G 5) (i7 : I' 21 7 = I 21 7) (i8 : I' 21 8 = I 21 8) (i9 : I' 21 9 = I 21 9) : RA G' I' := by
  unfold RA at h ⊢
  rw [g4, g5, i7, i8, i9]
  exact h
/-- a frame went over: what it leaves as it was is related as before -/
theorem RX_car {m w w' : Nat} {G G' I I' : am_I} (h : RX m w G I) (hg : agL G G') (hi : agA I I') (hF : RF w' G' I') (h18 : I' 21 18 = G' 8 5) : RX m w' G' I' := by
  obtain ⟨h1, h2, h3, h4, h5, h6⟩ := h
  refine ⟨RM_cells h1 (hg.1 1 (by omega) (by omega)) (hg.1 2 (by omega) (by omega)) (hg.1 3 (by omega) (by omega)) (hi.1 22 (by omega)) (hi.1 23 (by omega)) (hi.2 2 (by omega) (by omega)) (hi.2 3 (by omega) (by omega)), ?_, ?_, hF, ⟨?_, ?_, ?_, h18⟩, ?_⟩
  · unfold RB at h2 ⊢
    rw [hg.1 4 (by omega) (by omega), hg.1 6 (by omega) (by omega), hg.1 7 (by omega) (by omega), hi.1 24 (by omega), hi.1 25 (by omega), hi.2 4 (by omega) (by omega)]
    exact h2
  · exact RA_cells h3 (congrFun (hg.1 4 (by omega) (by omega)) 5) (hg.1 5 (by omega) (by omega)) (hi.2 7 (by omega) (by omega)) (hi.2 8 (by omega) (by omega)) (hi.2 9 (by omega) (by omega))
  · rw [hi.2 15 (by omega) (by omega), hg.2 2 (by omega) (by omega) (by omega)]; exact h5.1
  · rw [hi.2 16 (by omega) (by omega), hg.2 3 (by omega) (by omega) (by omega)]; exact h5.2.1
  · rw [hi.2 17 (by omega) (by omega), hg.2 4 (by omega) (by omega) (by omega)]; exact h5.2.2.1
  · intro k hk
    rw [hi.1 28 (by omega), hg.1 5 (by omega) (by omega)]
    exact h6 k hk
theorem va_cpy_s (r g : Nat → Int32) (o j : Nat) : upd (va_cpy r g 0 o j) (o + j) (r j) = va_cpy r g 0 o (j + 1) := by
  funext k
  rw [pb_upd]
  unfold va_cpy
  by_cases h : k = o + j
  · rw [if_pos h, if_pos (by omega)]
    congr 1
    omega
  · rw [if_neg h]
    by_cases h2 : o ≤ k ∧ k < o + j
    · rw [if_pos h2, if_pos (by omega)]
    · rw [if_neg h2, if_neg (by omega)]
theorem va_cpy_0 (r g : Nat → Int32) (o : Nat) : va_cpy r g 0 o 0 = g := by
  funext k
  unfold va_cpy
  rw [if_neg (by omega)]
def T_msend : am_T := fun as I P J n K => match as with
  | [.inr (.inr (some o)), .inl kind, .inl a, .inl v] => o = 21 ∧ (∃ q, P = am_p0 q) ∧ ∃ w, w ≤ 40 ∧ I 21 10 = nI w ∧ ∀ (X : am_I) (r : Nat → Int32), eqn 8 r (rq (I 21 14) kind a v) → X 27 = r → X 28 = va_cpy r (I 28) 0 0 8 → X 21 = upd (I 21) 16 (I 21 16 + 1) → (∀ k, ¬ (k = 21 ∨ k = 27 ∨ k = 28) → X k = I k) → ((mo_ar8 w X).1 = 0 ∨ (mo_ar8 w X).1 = 1) ∧ K (.inl (some (.inl (mo_ar8 w X).1))) (mo_ar8 w X).2 P J n
  | _ => False
theorem ok_msend (sc : am_S) (C : Nat → am_T) (h29 : am_has C 29 T_mput) (h30 : am_has C 30 T_msum) (h32 : am_has C 32 T_marrives) : am_ok sc C tb_Mo_sendOut T_msend := by
  intro as I P J n K hT V hD hV
  unfold T_msend at hT
  split at hT
  · rename_i o kind a v
    obtain ⟨rfl, ⟨q, rfl⟩, w, hw, ew, hK⟩ := hT
    show V 0 [(0, .inr (.inr (some 21))), (1, .inl kind), (2, .inl a), (3, .inl v)] [] I (am_p0 q) J n
    have loop : ∀ Y : am_I, Y 28 = I 28 → Y 21 = I 21 → eqn 8 (Y 27) (rq (I 21 14) kind a v) → (∀ k, ¬ (k = 21 ∨ k = 27 ∨ k = 28) → Y k = I k) → V 47 [(0, .inr (.inr (some 21))), (1, .inl kind), (2, .inl a), (3, .inl v)] [] Y (am_p0 q) J n := by
      intro Y y28 y21 yr yo
      have lp : ∀ (d j : Nat) (X : am_I), j + d = 8 → X 27 = Y 27 → X 28 = va_cpy (Y 27) (I 28) 0 0 j → X 21 = I 21 → (∀ k, ¬ (k = 21 ∨ k = 27 ∨ k = 28) → X k = I k) → V 50 [(0, .inr (.inr (some 21))), (1, .inl kind), (2, .inl a), (3, .inl v), (4, .inl (nI j))] [] X (am_p0 q) J n := by
        intro d
        induction d with
        | zero =>
          intro j X hj x27 x28 x21 xo
          have hj' : j = 8 := by omega
          subst hj'
          have ey : X 21 10 = nI w := by rw [x21]; exact ew
          obtain ⟨hb, hK3⟩ := hK (am_ui X 21 16 (X 21 16 + 1)) (Y 27) yr x27 x28 (by rw [am_ui_eq, x21]) (fun k hk => by rw [am_ui_ne _ _ _ (by omega)]; exact xo k hk)
          apply hV; apply hV; apply hV
          refine ⟨fun h => ?_, fun h => absurd (show nI 8 ≤ nI 8 from nI_le (by omega) (by omega)) h⟩
          apply hV; apply hV; apply hV
          refine ⟨rfl, ?_⟩
          apply hV; apply hV; apply hV
          refine ⟨rfl, ?_⟩
          apply hV; apply hV; apply hV
          refine ⟨rfl, ?_⟩
          refine h32 _ _ _ _ _ _ ⟨rfl, ⟨_, rfl⟩, w, hw, ey, Or.inl ⟨rfl, ?_⟩⟩
          apply hV
          exact ⟨hb, hK3⟩
        | succ d ih =>
          intro j X hj x27 x28 x21 xo
          have ej : (nI j).toNatClampNeg = j := nI_clamp (by omega)
          apply hV; apply hV; apply hV
          refine ⟨fun h => absurd h (show ¬ nI 8 ≤ nI j from nI_ge (by omega) (by omega)), fun h => ?_⟩
          apply hV; apply hV
          refine ⟨rfl, ?_⟩
          apply hV; apply hV; apply hV
          refine ⟨rfl, ?_⟩
          apply hV; apply hV
          refine ⟨show vp_in (nI j) 8 from nI_in (by omega) (by omega), ?_⟩
          rw [ej]
          apply hV
          refine ⟨show vp_in (nI j) 15 from nI_in (by omega) (by omega), ?_⟩
          rw [ej]
          apply hV; apply hV
          show V 50 [(0, .inr (.inr (some 21))), (1, .inl kind), (2, .inl a), (3, .inl v), (4, .inl (nI j + 1))] [] (am_ui X 28 j (X 27 j)) (am_p0 q) J n
          rw [← nI_succ]
          refine ih (j + 1) _ (by omega) x27 ?_ x21 (fun k hk => ?_)
          · rw [am_ui_eq, x28, x27]
            have e := va_cpy_s (Y 27) (I 28) 0 j
            rw [Nat.zero_add] at e
            exact e
          · rw [am_ui_ne _ _ _ (by omega)]
            exact xo k hk
      apply hV; apply hV
      exact lp 8 0 Y (by omega) rfl (by rw [va_cpy_0]; exact y28) y21 yo
    apply hV; apply hV
    refine ⟨rfl, ?_⟩
    apply hV; apply hV; apply hV
    refine ⟨rfl, ?_⟩
    apply hV
    refine ⟨by unfold vp_in; decide, ?_⟩
    apply hV; apply hV
    refine ⟨rfl, ?_⟩
    apply hV; apply hV; apply hV
    refine ⟨by unfold vp_in; decide, ?_⟩
    apply hV; apply hV
    refine ⟨rfl, ?_⟩
    apply hV; apply hV; apply hV; apply hV; apply hV
    refine ⟨by unfold vp_in; decide, ?_⟩
    apply hV; apply hV; apply hV; apply hV
    refine ⟨rfl, ?_⟩
    refine h29 _ _ _ _ _ _ ⟨rfl, ⟨_, rfl⟩, Or.inr ⟨rfl, fun I2 h2 => ?_⟩⟩
    apply hV; apply hV
    refine ⟨rfl, ?_⟩
    apply hV; apply hV; apply hV; apply hV
    refine ⟨rfl, ?_⟩
    refine h30 _ _ _ _ _ _ ⟨rfl, ⟨_, rfl⟩, Or.inl ⟨rfl, ?_⟩⟩
    apply hV
    refine ⟨by unfold vp_in; decide, ?_⟩
    refine loop _ ?_ ?_ ?_ (fun k hk => ?_)
    · show I2 28 = I 28
      exact h2.2 28 (by omega)
    · show I2 21 = I 21
      exact h2.2 21 (by omega)
    · show eqn 8 (upd (I2 27) 7 (pm_sum7 (I2 27))) _
      rw [h2.1]
      exact rq_any (I 27) (I 21 14) kind a v
    · rw [am_ui_ne _ _ _ (by omega), h2.2 k (by omega), am_ui_ne _ _ _ (by omega), am_ui_ne _ _ _ (by omega), am_ui_ne _ _ _ (by omega)]
  · exact hT.elim
