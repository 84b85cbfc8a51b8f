/-! LineDebugger.unwind. -/
theorem cm_get_oth {kind a : Int32} {rc p : Nat} (I : am_I) {k : Nat} (h : ¬ (1 ≤ k ∧ k ≤ 9)) (h' : k ≠ 11) (hr : k ≠ rc) : (cm_get kind a rc p I).2 k = I k := by
  have e : (cm_ask 4 (cm_wr kind a 0 I)).2 k = I k := (cm_ask_oth 4 _ (by omega) h').trans (cm_wr_oth _ _ _ _ (by omega) (by omega))
  unfold cm_get
  generalize cm_ask 4 (cm_wr kind a 0 I) = r at e ⊢
  obtain ⟨b, I1⟩ := r
  cases b with
  | none => exact e
  | some x => exact (am_ui_ne _ _ _ hr).trans e
theorem cm_regs_oth {rc : Nat} {k : Nat} (h : ¬ (1 ≤ k ∧ k ≤ 9)) (h' : k ≠ 11) (hr : k ≠ rc) : ∀ (m r : Nat) (I : am_I), (cm_regs rc m r I).2 k = I k := by
  intro m
  induction m with
  | zero => intro r I; rfl
  | succ m ih =>
    intro r I
    have e := cm_get_oth (kind := 0) (a := nI r) (p := r) I h h' hr
    unfold cm_regs
    generalize cm_get 0 (nI r) rc r I = y at e ⊢
    obtain ⟨b, I1⟩ := y
    cases b with
    | true => exact (ih _ _).trans e
    | false => exact e
theorem cm_regs_in {rc : Nat} (hr : 56 ≤ rc) : ∀ (m r : Nat) (I : am_I), vp_in (I 8 9) 40 → vp_in ((cm_regs rc m r I).2 8 9) 40 := by
  intro m
  induction m with
  | zero => intro r I h; exact h
  | succ m ih =>
    intro r I h
    have e := cm_get_in (kind := 0) (a := nI r) (p := r) hr h
    unfold cm_regs
    generalize cm_get 0 (nI r) rc r I = y at e ⊢
    obtain ⟨b, I1⟩ := y
    cases b with
    | true => exact ih _ _ e
    | false => exact e
theorem cm_fill_oth {s c : Nat} {k : Nat} (h : ¬ (1 ≤ k ∧ k ≤ 9)) (h' : k ≠ 11) (hr : k ≠ 56 + (s + 1)) : ∀ (m i : Nat) (I : am_I), (cm_fill s c m i I).2 k = I k := by
  intro m
  induction m with
  | zero => intro i I; rfl
  | succ m ih =>
    intro i I
    unfold cm_fill
    split
    · exact ih _ _
    · have e := cm_get_oth (kind := 2) (a := I (56 + s) 6 + I (c + 8) (cm_pl i)) (p := cm_pl i) I h h' hr
      generalize cm_get 2 (I (56 + s) 6 + I (c + 8) (cm_pl i)) (56 + (s + 1)) (cm_pl i) I = y at e ⊢
      cases cs_adr (I (56 + s) 6 + I (c + 8) (cm_pl i)) with
      | false => rfl
      | true =>
        obtain ⟨b, I1⟩ := y
        cases b with
        | true => exact (ih _ _).trans e
        | false => exact e
theorem cm_fill_in {s c : Nat} : ∀ (m i : Nat) (I : am_I), vp_in (I 8 9) 40 → vp_in ((cm_fill s c m i I).2 8 9) 40 := by
  intro m
  induction m with
  | zero => intro i I h; exact h
  | succ m ih =>
    intro i I h
    unfold cm_fill
    split
    · exact ih _ _ h
    · have e := cm_get_in (kind := 2) (a := I (56 + s) 6 + I (c + 8) (cm_pl i)) (rc := 56 + (s + 1)) (p := cm_pl i) (by omega) h
      generalize cm_get 2 (I (56 + s) 6 + I (c + 8) (cm_pl i)) (56 + (s + 1)) (cm_pl i) I = y at e ⊢
      cases cs_adr (I (56 + s) 6 + I (c + 8) (cm_pl i)) with
      | false => exact h
      | true =>
        obtain ⟨b, I1⟩ := y
        cases b with
        | true => exact ih _ _ e
        | false => exact e
theorem cm_base_oth {s c : Nat} (I : am_I) {k : Nat} (hr : k ≠ 56 + (s + 1)) : cm_base s c I k = I k := by
  unfold cm_base
  rw [am_ui_ne _ _ _ hr, am_ui_ne _ _ _ hr, am_cp_ne I _ _ _ hr]
theorem cm_caller_oth {s m : Nat} (I : am_I) {k : Nat} (h : ¬ (1 ≤ k ∧ k ≤ 9)) (h' : k ≠ 11) (hr : k ≠ 56 + (s + 1)) : (cm_caller s m I).2 k = I k := by
  unfold cm_caller
  cases cm_find I (I (56 + s) 8) 0 m with
  | none => rfl
  | some c => exact (cm_fill_oth h h' hr _ _ _).trans (cm_base_oth I hr)
theorem cm_caller_in {s m : Nat} {I : am_I} (h : vp_in (I 8 9) 40) : vp_in ((cm_caller s m I).2 8 9) 40 := by
  unfold cm_caller
  cases cm_find I (I (56 + s) 8) 0 m with
  | none => exact h
  | some c => exact cm_fill_in _ _ _ (by rw [cm_base_oth I (by omega)]; exact h)
/-- frames from number g + 1 on, k of them at most; how many there are, none: given up -/
def cm_frames (q m : Nat) : Nat → Nat → am_I → Option Nat × am_I
  | 0, g, I => (some (g + 1), I)
  | k + 1, g, I => match (cm_caller (8 * (1 - q) + g) m I).1 with
    | some true => cm_frames q m k (g + 1) (cm_caller (8 * (1 - q) + g) m I).2
    | some false => (some (g + 1), (cm_caller (8 * (1 - q) + g) m I).2)
    | none => (none, (cm_caller (8 * (1 - q) + g) m I).2)
def cm_unw (q m : Nat) (I : am_I) : Option Nat × am_I := match (cm_get 8 0 (56 + 8 * (1 - q)) 8 I).1 with
  | true => match (cm_regs (56 + 8 * (1 - q)) 8 0 (cm_get 8 0 (56 + 8 * (1 - q)) 8 I).2).1 with
    | true => cm_frames q m 7 0 (cm_regs (56 + 8 * (1 - q)) 8 0 (cm_get 8 0 (56 + 8 * (1 - q)) 8 I).2).2
    | false => (none, (cm_regs (56 + 8 * (1 - q)) 8 0 (cm_get 8 0 (56 + 8 * (1 - q)) 8 I).2).2)
  | false => (none, (cm_get 8 0 (56 + 8 * (1 - q)) 8 I).2)
def T_unwind : am_T := fun as I P J n K => match as with
  | [.inr (.inr (some o))] => o = 0 ∧ ∃ q m, q < 2 ∧ P = am_p0 q ∧ m ≤ 8 ∧ I 12 1 = nI m ∧ vp_in (I 8 9) 40 ∧
      (∀ c I', cm_unw q m I = (some c, I') → K (.inl (some (.inl (nI c)))) (am_ui I' 14 1 (nI c)) (am_p0 (1 - q)) J n) ∧ (∀ I', cm_unw q m I = (none, I') → am_thr 3 I' P J n K)
  | _ => False
theorem ok_frames_loop {sc : am_S} {C : Nat → am_T} (h56 : am_has C 56 T_askCaller) (h57 : am_has C 57 T_keep) {q m n : Nat} {J : am_J} {K : am_K} {V : am_W} (hV : am_closed sc C tb_L_unwind V K) (hq : q < 2) (hm : m ≤ 8) :
    ∀ (k g : Nat) (I : am_I), g + k = 7 → I 12 1 = nI m → vp_in (I 8 9) 40 → (∀ c I', cm_frames q m k g I = (some c, I') → K (.inl (some (.inl (nI c)))) (am_ui I' 14 1 (nI c)) (am_p0 (1 - q)) J n) → (∀ I', cm_frames q m k g I = (none, I') → am_thr 3 I' (am_p0 q) J n K) →
      V 13 [(0, .inr (.inr (some 0))), (1, .inl (nI (g + 1)))] [] I (am_p0 q) J n := by
  have fin : ∀ (g : Nat) (I : am_I), K (.inl (some (.inl (nI (g + 1))))) (am_ui I 14 1 (nI (g + 1))) (am_p0 (1 - q)) J n → V 44 [(0, .inr (.inr (some 0))), (1, .inl (nI (g + 1)))] [] I (am_p0 q) J n := by
    intro g I hK
    apply hV; apply hV
    refine ⟨rfl, ?_⟩
    apply hV; apply hV
    refine ⟨rfl, ?_⟩
    refine h57 _ _ _ _ _ _ ⟨rfl, q, hq, rfl, ?_⟩
    apply hV; apply hV
    exact hK
  intro k
  induction k with
  | zero =>
    intro g I hg em hin hK1 hK2
    apply hV; apply hV; apply hV
    refine ⟨fun h => fin g I (hK1 _ _ rfl), fun h => absurd (show nI 8 ≤ nI (g + 1) from nI_le (by omega) (by omega)) h⟩
  | succ k ih =>
    intro g I hg em hin hK1 hK2
    apply hV; apply hV; apply hV
    refine ⟨fun h => absurd h (show ¬ nI 8 ≤ nI (g + 1) from nI_ge (by omega) (by omega)), fun h => ?_⟩
    apply hV; apply hV
    refine ⟨rfl, ?_⟩
    apply hV; apply hV; apply hV
    refine ⟨rfl, ?_⟩
    apply hV; apply hV
    refine ⟨rfl, ?_⟩
    apply hV
    refine ⟨rfl, ?_⟩
    have e12 := congrFun (cm_caller_oth (s := 8 * (1 - q) + g) (m := m) I (k := 12) (by omega) (by omega) (by omega)) 1
    have ein := cm_caller_in (s := 8 * (1 - q) + g) (m := m) hin
    unfold cm_frames at hK1 hK2
    generalize ey : cm_caller (8 * (1 - q) + g) m I = y at e12 ein hK1 hK2
    obtain ⟨b, I1⟩ := y
    refine h56 _ _ _ _ _ _ ⟨rfl, rfl, rfl, q, g, m, hq, rfl, by omega, rfl, hm, em, hin, fun b' I' e => ?_, fun I' e => ?_⟩
    · rw [ey] at e
      cases e
      apply hV
      cases b' with
      | true =>
        refine ⟨fun h1 => absurd h1 (by decide), fun h1 => ?_⟩
        apply hV; apply hV
        show V 13 [(0, .inr (.inr (some 0))), (1, .inl (nI (g + 1) + 1))] [] I1 (am_p0 q) J n
        rw [← nI_succ]
        exact ih (g + 1) I1 (by omega) (e12.trans em) ein hK1 hK2
      | false =>
        refine ⟨fun h1 => ?_, fun h1 => absurd rfl h1⟩
        exact fin g I1 (hK1 _ _ rfl)
    · rw [ey] at e
      cases e
      obtain ⟨z, rfl, hz⟩ := hK2 _ rfl
      exact ⟨z, rfl, hz⟩
theorem ok_unwind (sc : am_S) (C : Nat → am_T) (h55 : am_has C 55 T_askMachine) (h56 : am_has C 56 T_askCaller) (h57 : am_has C 57 T_keep) : am_ok sc C tb_L_unwind T_unwind := by
  intro as I P J n K hT V hD hV
  unfold T_unwind at hT
  split at hT
  · rename_i o
    obtain ⟨rfl, q, m, hq, rfl, hm, em, hin, hK1, hK2⟩ := hT
    show V 0 [(0, .inr (.inr (some 0)))] [] I (am_p0 q) J n
    apply hV; apply hV
    refine ⟨rfl, ?_⟩
    apply hV; apply hV
    refine ⟨rfl, ?_⟩
    apply hV
    refine ⟨rfl, ?_⟩
    unfold cm_unw at hK1 hK2
    have e12 := congrFun (cm_get_oth (kind := 8) (a := 0) (rc := 56 + 8 * (1 - q)) (p := 8) I (k := 12) (by omega) (by omega) (by omega)) 1
    have ein := cm_get_in (kind := 8) (a := 0) (rc := 56 + 8 * (1 - q)) (p := 8) (by omega) hin
    generalize ey : cm_get 8 0 (56 + 8 * (1 - q)) 8 I = y at e12 ein hK1 hK2
    obtain ⟨b, I1⟩ := y
    refine h55 _ _ _ _ _ _ ⟨rfl, rfl, q, hq, rfl, hin, fun I' e => ?_, fun I2 e => ?_⟩
    · rw [ey] at e
      cases e
      obtain ⟨z, rfl, hz⟩ := hK2 _ rfl
      exact ⟨z, rfl, hz⟩
    · rw [ey] at e
      cases e
      have f12 := congrFun (cm_regs_oth (rc := 56 + 8 * (1 - q)) (k := 12) (by omega) (by omega) (by omega) 8 0 I1) 1
      have fin := cm_regs_in (rc := 56 + 8 * (1 - q)) (by omega) 8 0 I1 ein
      simp only at hK1 hK2
      generalize ez : cm_regs (56 + 8 * (1 - q)) 8 0 I1 = y at f12 fin hK1 hK2
      obtain ⟨b, I3⟩ := y
      refine ⟨fun I' e => ?_, fun I' e => ?_⟩
      · cases e
        apply hV; apply hV
        exact ok_frames_loop h56 h57 hV hq hm 7 0 I3 (by omega) (f12.trans (e12.trans em)) fin hK1 hK2
      · cases e
        obtain ⟨z, rfl, hz⟩ := hK2 _ rfl
        exact ⟨z, rfl, hz⟩
  · exact hT.elim
