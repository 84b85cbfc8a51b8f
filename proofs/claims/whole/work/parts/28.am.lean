/-! Backtrace.askMachine: the innermost frame. -/
/-- the answer to a request goes to place p of row rc; false: given up -/
def cm_get (kind a : Int32) (rc p : Nat) (I : am_I) : Bool × am_I := match (cm_ask 4 (cm_wr kind a 0 I)).1 with
  | some x => (true, am_ui (cm_ask 4 (cm_wr kind a 0 I)).2 rc p x)
  | none => (false, (cm_ask 4 (cm_wr kind a 0 I)).2)
/-- registers r, r + 1 .., k of them -/
def cm_regs (rc : Nat) : Nat → Nat → am_I → Bool × am_I
  | 0, _, I => (true, I)
  | k + 1, r, I => match (cm_get 0 (nI r) rc r I).1 with
    | true => cm_regs rc k (r + 1) (cm_get 0 (nI r) rc r I).2
    | false => (false, (cm_get 0 (nI r) rc r I).2)
theorem cm_get_in {kind a : Int32} {rc p : Nat} {I : am_I} (hr : 56 ≤ rc) (h : vp_in (I 8 9) 40) : vp_in ((cm_get kind a rc p I).2 8 9) 40 := by
  have e := cm_ask_in 4 (I := cm_wr kind a 0 I) h
  unfold cm_get
  generalize cm_ask 4 (cm_wr kind a 0 I) = r at e ⊢
  obtain ⟨b, I1⟩ := r
  cases b with
  | none => exact e
  | some x =>
    show vp_in (am_ui I1 rc p x 8 9) 40
    rw [am_ui_ne _ _ _ (by omega)]
    exact e
theorem ok_regs_loop {sc : am_S} {C : Nat → am_T} (h70 : am_has C 70 T_ask) {q n : Nat} {J : am_J} {K : am_K} {V : am_W} (hV : am_closed sc C tb_Ba_askMachine V K) (hq : q < 2) :
    ∀ (k r : Nat) (I : am_I), r + k = 8 → vp_in (I 8 9) 40 → (∀ I', cm_regs (56 + 8 * (1 - q)) k r I = (true, I') → K (.inl none) I' (am_p0 q) J n) → (∀ I', cm_regs (56 + 8 * (1 - q)) k r I = (false, I') → am_thr 3 I' (am_p0 q) J n K) →
      V 19 [(0, .inr (.inr (some 14))), (1, .inr (.inr (some 8))), (2, .inl (nI r))] [] I (am_p0 q) J n := by
  intro k
  induction k with
  | zero =>
    intro r I hr _ hK _
    apply hV; apply hV; apply hV
    refine ⟨fun h => ?_, fun h => absurd (show nI 8 ≤ nI r from nI_le (by omega) (by omega)) h⟩
    apply hV
    exact hK I rfl
  | succ k ih =>
    intro r I hr hin hK1 hK2
    have e2 : (nI r).toNatClampNeg = r := nI_clamp (by omega)
    apply hV; apply hV; apply hV
    refine ⟨fun h => absurd h (show ¬ nI 8 ≤ nI r from nI_ge (by omega) (by omega)), fun h => ?_⟩
    apply hV; apply hV
    refine ⟨rfl, ?_⟩
    have go : V 31 [(0, .inr (.inr (some 14))), (1, .inr (.inr (some 8))), (2, .inl (nI r))] [.inr (.inr (some (56 + 8 * (1 - q))))] I (am_p0 q) J n := by
      apply hV; apply hV; apply hV; apply hV; apply hV; apply hV
      refine ⟨rfl, ?_⟩
      have gi := cm_get_in (kind := 0) (a := nI r) (rc := 56 + 8 * (1 - q)) (p := r) (by omega) hin
      obtain ⟨b, I1, eg⟩ : ∃ b I1, cm_get 0 (nI r) (56 + 8 * (1 - q)) r I = (b, I1) := ⟨_, _, rfl⟩
      simp only [cm_regs, eg] at hK1 hK2
      rw [eg] at gi
      unfold cm_get at eg
      refine h70 _ _ _ _ _ _ ⟨rfl, ⟨_, rfl⟩, hin, fun x hx => ?_, fun hx => ?_⟩
      · simp only [hx] at eg
        generalize (cm_ask 4 (cm_wr 0 (nI r) 0 I)).2 = X at eg ⊢
        cases eg
        apply hV
        refine ⟨by rw [show 56 + 8 * (1 - q) = 56 + (8 * (1 - q)) from rfl, ai_rows (by omega)]; exact nI_in (by omega) (by omega), ?_⟩
        rw [e2]
        apply hV; apply hV
        show V 19 [(0, .inr (.inr (some 14))), (1, .inr (.inr (some 8))), (2, .inl (nI r + 1))] [] _ (am_p0 q) J n
        rw [← nI_succ]
        exact ih (r + 1) _ (by omega) gi hK1 hK2
      · simp only [hx] at eg
        cases eg
        obtain ⟨z, rfl, hz⟩ := hK2 _ rfl
        exact ⟨z, rfl, hz⟩
    have hq2 : q = 0 ∨ q = 1 := by omega
    rcases hq2 with rfl | rfl
    · apply hV; apply hV
      refine ⟨by unfold vp_in; decide, ?_⟩
      exact go
    · apply hV; apply hV
      refine ⟨by unfold vp_in; decide, ?_⟩
      exact go
def T_askMachine : am_T := fun as I P J n K => match as with
  | [.inr (.inr (some o)), .inr (.inr (some l))] => o = 14 ∧ l = 8 ∧ ∃ q, q < 2 ∧ P = am_p0 q ∧ vp_in (I 8 9) 40 ∧ (∀ I', cm_get 8 0 (56 + 8 * (1 - q)) 8 I = (false, I') → am_thr 3 I' P J n K) ∧
      (∀ I1, cm_get 8 0 (56 + 8 * (1 - q)) 8 I = (true, I1) → (∀ I', cm_regs (56 + 8 * (1 - q)) 8 0 I1 = (true, I') → K (.inl none) I' P J n) ∧ (∀ I', cm_regs (56 + 8 * (1 - q)) 8 0 I1 = (false, I') → am_thr 3 I' P J n K))
  | _ => False
theorem ok_askMachine (sc : am_S) (C : Nat → am_T) (h70 : am_has C 70 T_ask) : am_ok sc C tb_Ba_askMachine T_askMachine := by
  intro as I P J n K hT V hD hV
  unfold T_askMachine at hT
  split at hT
  · rename_i o l
    obtain ⟨rfl, rfl, q, hq, rfl, hin, hK1, hK2⟩ := hT
    show V 0 [(0, .inr (.inr (some 14))), (1, .inr (.inr (some 8)))] [] I (am_p0 q) J n
    apply hV; apply hV
    refine ⟨rfl, ?_⟩
    have go : V 6 [(0, .inr (.inr (some 14))), (1, .inr (.inr (some 8)))] [.inr (.inr (some (56 + 8 * (1 - q))))] I (am_p0 q) J n := by
      apply hV; apply hV; apply hV; apply hV; apply hV; apply hV
      refine ⟨rfl, ?_⟩
      have gi := cm_get_in (kind := 8) (a := 0) (rc := 56 + 8 * (1 - q)) (p := 8) (by omega) hin
      obtain ⟨b, I1, eg⟩ : ∃ b I1, cm_get 8 0 (56 + 8 * (1 - q)) 8 I = (b, I1) := ⟨_, _, rfl⟩
      rw [eg] at gi
      simp only [eg] at hK1 hK2
      unfold cm_get at eg
      refine h70 _ _ _ _ _ _ ⟨rfl, ⟨_, rfl⟩, hin, fun x hx => ?_, fun hx => ?_⟩
      · simp only [hx] at eg
        generalize (cm_ask 4 (cm_wr 8 0 0 I)).2 = X at eg ⊢
        cases eg
        obtain ⟨hK3, hK4⟩ := hK2 _ rfl
        apply hV
        refine ⟨by rw [show 56 + 8 * (1 - q) = 56 + (8 * (1 - q)) from rfl, ai_rows (by omega)]; unfold vp_in; decide, ?_⟩
        apply hV; apply hV
        exact ok_regs_loop h70 hV hq 8 0 _ (by omega) gi hK3 hK4
      · simp only [hx] at eg
        cases eg
        obtain ⟨z, rfl, hz⟩ := hK1 _ rfl
        exact ⟨z, rfl, hz⟩
    have hq2 : q = 0 ∨ q = 1 := by omega
    rcases hq2 with rfl | rfl
    · apply hV; apply hV
      refine ⟨by unfold vp_in; decide, ?_⟩
      exact go
    · apply hV; apply hV
      refine ⟨by unfold vp_in; decide, ?_⟩
      exact go
  · exact hT.elim
