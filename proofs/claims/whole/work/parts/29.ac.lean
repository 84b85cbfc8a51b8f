/-! Backtrace.askCaller: the frame of the caller. -/
theorem ne_slots : ∀ j, j < 8 → Nat.beq (48 + j) 900 = false := by decide
/-- places in the order in which they are asked for: the return address first -/
def cm_pl : Nat → Nat
  | 0 => 8
  | i + 1 => i
theorem cm_pl_lt {i : Nat} (h : i ≤ 8) : cm_pl i ≤ 8 := by
  cases i with
  | zero => exact Nat.le_refl 8
  | succ i => exact (by omega : i ≤ 8)
/-- the places from the i-th on, k of them, of row 56 + s + 1, by the slots of row c; some false: no such word; none: given up -/
def cm_fill (s c : Nat) : Nat → Nat → am_I → Option Bool × am_I
  | 0, _, I => (some true, I)
  | k + 1, i, I => if I (c + 8) (cm_pl i) = -1 then cm_fill s c k (i + 1) I else match cs_adr (I (56 + s) 6 + I (c + 8) (cm_pl i)) with
    | false => (some false, I)
    | true => match (cm_get 2 (I (56 + s) 6 + I (c + 8) (cm_pl i)) (56 + (s + 1)) (cm_pl i) I).1 with
      | true => cm_fill s c k (i + 1) (cm_get 2 (I (56 + s) 6 + I (c + 8) (cm_pl i)) (56 + (s + 1)) (cm_pl i) I).2
      | false => (none, (cm_get 2 (I (56 + s) 6 + I (c + 8) (cm_pl i)) (56 + (s + 1)) (cm_pl i) I).2)
def cm_base (s c : Nat) (I : am_I) : am_I :=
  am_ui (am_ui (am_cp I (56 + s) (56 + (s + 1)) 0 0 8) (56 + (s + 1)) 6 (I (56 + s) 6 + I c 2)) (56 + (s + 1)) 8 (I (56 + s) 7)
def cm_caller (s m : Nat) (I : am_I) : Option Bool × am_I := match cm_find I (I (56 + s) 8) 0 m with
  | none => (some false, I)
  | some c => cm_fill s c 9 0 (cm_base s c I)
theorem cm_find_some {I : am_I} {pc : Int32} {c : Nat} : ∀ {k i : Nat}, cm_find I pc i k = some c → ∃ j, j < k + i ∧ c = 40 + j := by
  intro k
  induction k with
  | zero => intro i h; cases h
  | succ k ih =>
    intro i h
    unfold cm_find at h
    split at h
    · obtain ⟨j, hj, e⟩ := ih h
      exact ⟨j, by omega, e⟩
    · split at h
      · obtain ⟨j, hj, e⟩ := ih h
        exact ⟨j, by omega, e⟩
      · cases h
        exact ⟨i, by omega, rfl⟩
theorem ok_fill_loop {sc : am_S} {C : Nat → am_T} (h12 : am_has C 12 (T_adr cs_adr)) (h70 : am_has C 70 T_ask) {q n s j : Nat} {fv : Int32} {J : am_J} {K : am_K} {V : am_W} (hD : am_drop V) (hV : am_closed sc C tb_Ba_askCaller V K) (hs : s < 15) (hj : j < 8) :
    ∀ (k i : Nat) (I : am_I), i + k = 9 → vp_in (I 8 9) 40 → (∀ b I', cm_fill s (40 + j) k i I = (some b, I') → K (.inl (some (.inl (cs_b b)))) I' (am_p0 q) J n) → (∀ I', cm_fill s (40 + j) k i I = (none, I') → am_thr 3 I' (am_p0 q) J n K) →
      V 76 [(0, .inr (.inr (some 14))), (1, .inl fv), (2, .inr (.inr (some 12))), (3, .inr (.inr (some 8))), (4, .inr (.inr (some (56 + s)))), (5, .inr (.inr (some (56 + (s + 1))))), (6, .inr (.inr (some (40 + j)))), (7, .inl (nI i))] [] I (am_p0 q) J n := by
  intro k
  induction k with
  | zero =>
    intro i I hi _ hK _
    apply hV; apply hV; apply hV
    refine ⟨fun h => ?_, fun h => absurd (show nI 8 < nI i from nI_lt (by omega) (by omega)) h⟩
    apply hV; apply hV
    exact ⟨Or.inr rfl, hK true I rfl⟩
  | succ k ih =>
    intro i I hi hin hK1 hK2
    have step : ∀ I', vp_in (I' 8 9) 40 → (∀ b I'', cm_fill s (40 + j) k (i + 1) I' = (some b, I'') → K (.inl (some (.inl (cs_b b)))) I'' (am_p0 q) J n) → (∀ I'', cm_fill s (40 + j) k (i + 1) I' = (none, I'') → am_thr 3 I'' (am_p0 q) J n K) →
        ∀ r, V 150 ((0, .inr (.inr (some 14))) :: (1, .inl fv) :: (2, .inr (.inr (some 12))) :: (3, .inr (.inr (some 8))) :: (4, .inr (.inr (some (56 + s)))) :: (5, .inr (.inr (some (56 + (s + 1))))) :: (6, .inr (.inr (some (40 + j)))) :: (7, .inl (nI i)) :: r) [] I' (am_p0 q) J n := by
      intro I' h1 h2 h3 r
      apply hD 8
      apply hV; apply hV
      show V 76 [(0, .inr (.inr (some 14))), (1, .inl fv), (2, .inr (.inr (some 12))), (3, .inr (.inr (some 8))), (4, .inr (.inr (some (56 + s)))), (5, .inr (.inr (some (56 + (s + 1))))), (6, .inr (.inr (some (40 + j)))), (7, .inl (nI i + 1))] [] I' (am_p0 q) J n
      rw [← nI_succ]
      exact ih (i + 1) I' (by omega) h1 h2 h3
    have hp := cm_pl_lt (i := i) (by omega)
    have at97 : V 97 [(0, .inr (.inr (some 14))), (1, .inl fv), (2, .inr (.inr (some 12))), (3, .inr (.inr (some 8))), (4, .inr (.inr (some (56 + s)))), (5, .inr (.inr (some (56 + (s + 1))))), (6, .inr (.inr (some (40 + j)))), (7, .inl (nI i))] [.inl (nI (cm_pl i))] I (am_p0 q) J n := by
      unfold cm_fill at hK1 hK2
      generalize cm_pl i = p at hp hK1 hK2 ⊢
      have e2 : (nI p).toNatClampNeg = p := nI_clamp (by omega)
      have e48 : 40 + j + 8 = 48 + j := by omega
      rw [e48] at hK1 hK2
      apply hV; apply hV; apply hV
      refine ⟨kd_rule j hj, ?_⟩
      rw [p0_rule q hj]
      apply hV; apply hV
      refine am_iald_of (o := 48 + j) (ne_slots j hj) ⟨by rw [ai_slots hj]; exact nI_in (by omega) (by omega), ?_⟩
      rw [e2]
      apply hV; apply hV
      refine ⟨fun h => ?_, fun h => ?_⟩
      · have h' : I (48 + j) p = -1 := h
        simp only [if_pos h'] at hK1 hK2
        exact step I hin hK1 hK2 _
      · have h' : ¬ I (48 + j) p = -1 := h
        simp only [if_neg h'] at hK1 hK2
        apply hV; apply hV; apply hV
        refine am_iald_of (o := 56 + s) (ne_rows s (by omega)) ⟨by rw [ai_rows (by omega)]; unfold vp_in; decide, ?_⟩
        apply hV; apply hV
        refine ⟨kd_rule j hj, ?_⟩
        rw [p0_rule q hj]
        apply hV; apply hV
        refine am_iald_of (o := 48 + j) (ne_slots j hj) ⟨by rw [ai_slots hj]; exact nI_in (by omega) (by omega), ?_⟩
        rw [e2]
        apply hV; apply hV
        generalize ead : I (56 + s) 6 + I (48 + j) p = ad at hK1 hK2
        have ead' : I (56 + s) (6 : Int32).toNatClampNeg + I (48 + j) p = ad := ead
        rw [ead']
        apply hV; apply hV
        refine h12 _ _ _ _ _ _ ?_
        apply hV
        refine ⟨fun h2 => ?_, fun h2 => ?_⟩
        · have h3 := cs_b0 h2
          simp only [h3] at hK1
          apply hV; apply hV
          exact ⟨Or.inl rfl, hK1 false I rfl⟩
        · have h3 := cs_b1 h2
          simp only [h3] at hK1 hK2
          apply hV; apply hV; apply hV; apply hV; apply hV; apply hV; apply hV
          refine ⟨rfl, ?_⟩
          have gi := cm_get_in (kind := 2) (a := ad) (rc := 56 + (s + 1)) (p := p) (by omega) hin
          obtain ⟨b, I1, eg⟩ : ∃ b I1, cm_get 2 ad (56 + (s + 1)) p I = (b, I1) := ⟨_, _, rfl⟩
          rw [eg] at gi
          simp only [eg] at hK1 hK2
          unfold cm_get at eg
          refine h70 _ _ _ _ _ _ ⟨rfl, ⟨_, rfl⟩, hin, fun x hx => ?_, fun hx => ?_⟩
          · simp only [hx] at eg
            generalize (cm_ask 4 (cm_wr 2 ad 0 I)).2 = X at eg ⊢
            cases eg
            apply hV
            refine ⟨by rw [ai_rows (by omega)]; exact nI_in (by omega) (by omega), ?_⟩
            rw [e2]
            exact step _ gi hK1 hK2 _
          · simp only [hx] at eg
            cases eg
            obtain ⟨z, rfl, hz⟩ := hK2 _ rfl
            exact ⟨z, rfl, hz⟩
    apply hV; apply hV; apply hV
    refine ⟨fun h => absurd h (show ¬ nI 8 < nI i from nI_nlt (by omega) (by omega)), fun h => ?_⟩
    apply hV; apply hV
    refine ⟨fun h1 => ?_, fun h1 => ?_⟩
    · apply hV; apply hV
      have e0 : i = 0 := (nI_eq (by omega) (by omega)).1 (show nI i = nI 0 from h1)
      subst e0
      exact at97
    · cases i with
      | zero => exact absurd rfl h1
      | succ i =>
        apply hV; apply hV; apply hV
        show V 97 _ [.inl (nI (i + 1) - 1)] _ _ _ _
        rw [nI_pred]
        exact at97
def T_askCaller : am_T := fun as I P J n K => match as with
  | [.inr (.inr (some o)), .inl f, .inr (.inr (some t)), .inr (.inr (some l))] => o = 14 ∧ t = 12 ∧ l = 8 ∧ ∃ q g m, q < 2 ∧ P = am_p0 q ∧ g < 7 ∧ f = nI (g + 1) ∧ m ≤ 8 ∧ I 12 1 = nI m ∧ vp_in (I 8 9) 40 ∧
      (∀ b I', cm_caller (8 * (1 - q) + g) m I = (some b, I') → K (.inl (some (.inl (cs_b b)))) I' P J n) ∧ (∀ I', cm_caller (8 * (1 - q) + g) m I = (none, I') → am_thr 3 I' P J n K)
  | _ => False
theorem ok_askCaller (sc : am_S) (C : Nat → am_T) (h12 : am_has C 12 (T_adr cs_adr)) (h70 : am_has C 70 T_ask) (h79 : am_has C 79 T_firstFor) : am_ok sc C tb_Ba_askCaller T_askCaller := by
  intro as I P J n K hT V hD hV
  unfold T_askCaller at hT
  split at hT
  · rename_i o f t l
    obtain ⟨rfl, rfl, rfl, q, g, m, hq, rfl, hg, rfl, hm, em, hin, hK1, hK2⟩ := hT
    show V 0 [(0, .inr (.inr (some 14))), (1, .inl (nI (g + 1))), (2, .inr (.inr (some 12))), (3, .inr (.inr (some 8)))] [] I (am_p0 q) J n
    have go : ∀ s, s < 15 → s = 8 * (1 - q) + g → V 18 [(0, .inr (.inr (some 14))), (1, .inl (nI (g + 1))), (2, .inr (.inr (some 12))), (3, .inr (.inr (some 8))), (4, .inr (.inr (some (56 + s)))), (5, .inr (.inr (some (56 + (s + 1)))))] [] I (am_p0 q) J n := by
      intro s hs es
      rw [← es] at hK1 hK2
      apply hV; apply hV; apply hV; apply hV
      refine am_iald_of (o := 56 + s) (ne_rows s (by omega)) ⟨by rw [ai_rows (by omega)]; unfold vp_in; decide, ?_⟩
      apply hV
      refine ⟨rfl, ?_⟩
      refine h79 _ _ _ _ _ _ ⟨rfl, ⟨_, rfl⟩, m, hm, em, ?_⟩
      unfold cm_caller at hK1 hK2
      have e8 : I (56 + s) (8 : Int32).toNatClampNeg = I (56 + s) 8 := rfl
      rw [e8]
      cases ef : cm_find I (I (56 + s) 8) 0 m with
      | none =>
        simp only [ef] at hK1
        apply hV; apply hV; apply hV; apply hV; apply hV
        exact ⟨Or.inl rfl, hK1 false I rfl⟩
      | some c =>
        obtain ⟨j, hj, rfl⟩ := cm_find_some ef
        simp only [ef] at hK1 hK2
        have hj8 : j < 8 := by omega
        have a1 : am_ai (56 + s) = 9 := ai_rows (by omega)
        have a2 : am_ai (56 + (s + 1)) = 9 := ai_rows (by omega)
        apply hV; apply hV; apply hV; apply hV; apply hV; apply hV; apply hV; apply hV; apply hV
        refine ⟨⟨by rw [a1]; unfold vp_in; decide, by rw [a2]; unfold vp_in; decide, by decide, by decide, by decide, by rw [a1]; decide, by rw [a2]; decide⟩, ?_⟩
        apply hV; apply hV; apply hV; apply hV; apply hV
        have c1 : ∀ k, k ≠ 56 + (s + 1) → am_cp I (56 + s) (56 + (s + 1)) (0 : Int32).toNatClampNeg (0 : Int32).toNatClampNeg (8 : Int32).toNatClampNeg k = I k := fun k hk => am_cp_ne I _ _ _ hk
        refine am_iald_of (o := 56 + s) (ne_rows s (by omega)) ⟨by rw [a1]; unfold vp_in; decide, ?_⟩
        rw [c1 (56 + s) (by omega)]
        apply hV; apply hV
        refine ⟨kd_rule j hj8, ?_⟩
        rw [c1 (40 + j) (by omega)]
        apply hV; apply hV
        refine ⟨by rw [a2]; unfold vp_in; decide, ?_⟩
        apply hV; apply hV; apply hV; apply hV; apply hV
        refine am_iald_of (o := 56 + s) (ne_rows s (by omega)) ⟨by rw [a1]; unfold vp_in; decide, ?_⟩
        rw [am_ui_ne _ _ _ (by omega), c1 (56 + s) (by omega)]
        apply hV
        refine ⟨by rw [a2]; unfold vp_in; decide, ?_⟩
        apply hV; apply hV
        have hb : vp_in (cm_base s (40 + j) I 8 9) 40 := by
          unfold cm_base
          rw [am_ui_ne _ _ _ (by omega), am_ui_ne _ _ _ (by omega), am_cp_ne I _ _ _ (by omega)]
          exact hin
        exact ok_fill_loop h12 h70 hD hV hs hj8 9 0 (cm_base s (40 + j) I) (by omega) hb hK1 hK2
    have e1 : (nI (g + 1)).toNatClampNeg = g + 1 := nI_clamp (by omega)
    have e0 : (nI g).toNatClampNeg = g := nI_clamp (by omega)
    have hq2 : q = 0 ∨ q = 1 := by omega
    rcases hq2 with rfl | rfl
    · apply hV; apply hV
      refine ⟨rfl, ?_⟩
      apply hV; apply hV; apply hV
      show V 7 _ (.inl (nI (g + 1) - 1) :: _) _ _ _ _
      rw [nI_pred]
      apply hV
      refine ⟨show vp_in (nI g) 8 from nI_in (by omega) (by omega), ?_⟩
      rw [e0]
      apply hV; apply hV; apply hV
      refine ⟨rfl, ?_⟩
      apply hV; apply hV
      refine ⟨show vp_in (nI (g + 1)) 8 from nI_in (by omega) (by omega), ?_⟩
      rw [e1]
      apply hV
      have h := go (8 + g) (by omega) (by omega)
      rw [show 56 + (8 + g) = 64 + g by omega, show 56 + (8 + g + 1) = 64 + (g + 1) by omega] at h
      exact h
    · apply hV; apply hV
      refine ⟨rfl, ?_⟩
      apply hV; apply hV; apply hV
      show V 7 _ (.inl (nI (g + 1) - 1) :: _) _ _ _ _
      rw [nI_pred]
      apply hV
      refine ⟨show vp_in (nI g) 8 from nI_in (by omega) (by omega), ?_⟩
      rw [e0]
      apply hV; apply hV; apply hV
      refine ⟨rfl, ?_⟩
      apply hV; apply hV
      refine ⟨show vp_in (nI (g + 1)) 8 from nI_in (by omega) (by omega), ?_⟩
      rw [e1]
      apply hV
      exact go g (by omega) (by omega)
  · exact hT.elim
