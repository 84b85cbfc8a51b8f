/-! The line: faults, the two ways of a frame, a request asked up to four times. -/
theorem cm_go_oth (I : am_I) (x : Int32) {k : Nat} (h1 : k ≠ 1) : cm_go I x k = I k := by
  unfold cm_go
  rw [am_ui_ne _ _ _ h1, am_ui_ne _ _ _ h1]
theorem cm_ex_oth (w : Int32) (I : am_I) {k : Nat} (h1 : k ≠ 1) (h2 : k ≠ 2) (h3 : k ≠ 3) : (cm_ex w I).2 k = I k := by
  unfold cm_ex
  by_cases c0 : w &&& 15 = 0
  · rw [if_pos c0]
  rw [if_neg c0]
  by_cases c6 : w &&& 15 = 6
  · rw [if_pos c6]
    by_cases d : I 3 (am_shr w 10 &&& 7).toNatClampNeg = 0
    · rw [if_pos d]
    · rw [if_neg d]; exact (cm_go_oth _ _ h1).trans (am_ui_ne _ _ _ h3)
  rw [if_neg c6]
  by_cases c7 : w &&& 15 = 7
  · rw [if_pos c7]
    cases cs_adr (I 3 (am_shr w 7 &&& 7).toNatClampNeg + am_shr w 16)
    · rfl
    · exact (cm_go_oth _ _ h1).trans (am_ui_ne _ _ _ h3)
  rw [if_neg c7]
  by_cases c8 : w &&& 15 = 8
  · rw [if_pos c8]
    cases cs_adr (I 3 (am_shr w 7 &&& 7).toNatClampNeg + am_shr w 16)
    · rfl
    · exact (cm_go_oth _ _ h1).trans (am_ui_ne _ _ _ h2)
  rw [if_neg c8]
  by_cases c9 : w &&& 15 = 9
  · rw [if_pos c9]; exact cm_go_oth _ _ h1
  rw [if_neg c9]
  by_cases c10 : w &&& 15 = 10
  · rw [if_pos c10]; exact cm_go_oth _ _ h1
  rw [if_neg c10]
  by_cases c11 : w &&& 15 = 11
  · rw [if_pos c11]; exact (cm_go_oth _ _ h1).trans (am_ui_ne _ _ _ h3)
  rw [if_neg c11]
  by_cases c12 : w &&& 15 = 12
  · rw [if_pos c12]; exact cm_go_oth _ _ h1
  rw [if_neg c12]
  by_cases c13 : w &&& 15 = 13
  · rw [if_pos c13]; exact cm_go_oth _ _ h1
  rw [if_neg c13]
  by_cases c14 : w &&& 15 = 14
  · rw [if_pos c14]
  rw [if_neg c14]
  by_cases c15 : w &&& 15 = 15
  · rw [if_pos c15]
  rw [if_neg c15]
  exact (cm_go_oth _ _ h1).trans (am_ui_ne _ _ _ h3)
theorem cm_run_oth : ∀ (n : Nat) (w : Int32) (I : am_I) {k : Nat}, k ≠ 1 → k ≠ 2 → k ≠ 3 → (cm_run n w I).2 k = I k
  | 0, _, _, _, _, _, _ => rfl
  | n + 1, w, I, k, h1, h2, h3 => by
    have key : ∀ r, r = cm_run (n + 1) w I → r.2 k = I k := by
      intro r hr
      unfold cm_run at hr
      repeat' split at hr
      all_goals subst hr
      all_goals first
        | exact cm_ex_oth w I h1 h2 h3
        | exact (cm_run_oth n _ _ h1 h2 h3).trans (cm_ex_oth w I h1 h2 h3)
    exact key _ rfl
theorem cm_perf_oth (kind a v : Int32) (I : am_I) {k : Nat} (h1 : k ≠ 1) (h2 : k ≠ 2) (h3 : k ≠ 3) (h4 : k ≠ 4) (h6 : k ≠ 6) (h7 : k ≠ 7) : (cm_perf kind a v I).2 k = I k := by
  have key : ∀ r, r = cm_perf kind a v I → r.2 k = I k := by
    intro r hr
    unfold cm_perf at hr
    repeat' split at hr
    all_goals subst hr
    all_goals first
      | rfl
      | exact cm_ex_oth _ _ h1 h2 h3
      | exact cm_run_oth _ _ _ h1 h2 h3
      | simp only [am_ui_ne _ _ _ h1, am_ui_ne _ _ _ h2, am_ui_ne _ _ _ h3, am_ui_ne _ _ _ h4, am_ui_ne _ _ _ h6, am_ui_ne _ _ _ h7]
  exact key _ rfl
theorem cm_row_ne (I : am_I) {o k : Nat} (f : Nat → Int32) (h : k ≠ o) : cm_row I o f k = I k := by
  have : Nat.beq k o = false := by
    cases hb : Nat.beq k o
    · rfl
    · exact absurd (Nat.eq_of_beq_eq_true hb) h
  simp [cm_row, this]
theorem cm_row_eq (I : am_I) (o : Nat) (f : Nat → Int32) : cm_row I o f o = f := by simp [cm_row, Nat.beq_refl]
theorem cm_rec_oth (I : am_I) {k : Nat} (h : ¬ (1 ≤ k ∧ k ≤ 7)) : (cm_rec I) k = I k := by
  unfold cm_rec
  split
  · rfl
  · unfold cm_ans
    rw [cm_row_ne _ _ (by omega), cm_perf_oth _ _ _ _ (by omega) (by omega) (by omega) (by omega) (by omega) (by omega), am_ui_ne _ _ _ (by omega), am_ui_ne _ _ _ (by omega)]
/-- the next fault, and the memory without it -/
def cm_flt (I : am_I) : Int32 := if I 8 6 = 0 then 0 else I 10 (I 8 9).toNatClampNeg
def cm_tk (I : am_I) : am_I := if I 8 6 = 0 then I else am_ui (am_ui I 8 9 (am_rem (I 8 9 + 1) 40)) 8 6 (I 8 6 - 1)
def T_takeFault : am_T := fun as I P J n K => match as with
  | [.inr (.inr (some o))] => o = 8 ∧ (∃ q, P = am_p0 q) ∧ vp_in (I 8 9) 40 ∧ K (.inl (some (.inl (cm_flt I)))) (cm_tk I) P J n
  | _ => False
theorem ok_takeFault (sc : am_S) (C : Nat → am_T) : am_ok sc C tb_Li_takeFault T_takeFault := by
  intro as I P J n K hT V hD hV
  unfold T_takeFault at hT
  split at hT
  · rename_i o
    obtain ⟨rfl, ⟨q, rfl⟩, hi, hK⟩ := hT
    show V 0 [(0, .inr (.inr (some 8)))] [] I (am_p0 q) J n
    repeat' first
      | apply hV
      | (change (_ → V _ _ _ _ _ _ _) ∧ _; refine ⟨fun h => ?_, fun h => ?_⟩)
      | (change am_kd _ = (5, _) ∧ _; refine ⟨rfl, ?_⟩)
      | (change (¬ (40 : Int32) = 0) ∧ _; refine ⟨by decide, ?_⟩)
      | (change vp_in _ 40 ∧ _; refine ⟨hi, ?_⟩)
      | fail
    · simp only [cm_flt, cm_tk, if_pos h] at hK
      exact hK
    · simp only [cm_flt, cm_tk, if_neg h] at hK
      exact hK
  · exact hT.elim
def T_tellFault : am_T := fun as I P J n K => match as with
  | [.inr (.inr (some o)), .inl f] => o = 8 ∧ (∃ q, P = am_p0 q) ∧ (I 8 6 = 40 → ∃ k, n = k + 1 ∧ K (.inr 2) I P J k) ∧ (¬ I 8 6 = 40 → vp_in (am_rem (I 8 9 + I 8 6) 40) 40 ∧ K (.inl (some (.inl (I 8 6 + 1)))) (am_ui (am_ui I 10 (am_rem (I 8 9 + I 8 6) 40).toNatClampNeg f) 8 6 (I 8 6 + 1)) P J n)
  | _ => False
theorem ok_tellFault (sc : am_S) (C : Nat → am_T) : am_ok sc C tb_Li_tellFault T_tellFault := by
  intro as I P J n K hT V hD hV
  unfold T_tellFault at hT
  split at hT
  · rename_i o f
    obtain ⟨rfl, ⟨q, rfl⟩, hK1, hK2⟩ := hT
    show V 0 [(0, .inr (.inr (some 8))), (1, .inl f)] [] I (am_p0 q) J n
    repeat' first
      | apply hV
      | (change (_ → V _ _ _ _ _ _ _) ∧ _; refine ⟨fun h => ?_, fun h => ?_⟩)
      | (change am_kd _ = (5, _) ∧ _; refine ⟨rfl, ?_⟩)
      | (change (¬ (40 : Int32) = 0) ∧ _; refine ⟨by decide, ?_⟩)
      | (change vp_in _ 40 ∧ _; refine ⟨(hK2 h).1, ?_⟩)
      | fail
    · obtain ⟨k, rfl, hK⟩ := hK1 h
      exact hK
    · exact (hK2 h).2
  · exact hT.elim
/-- the request's row: number, kind, a, v, sum; one request more -/
def cm_wr (kind a v : Int32) (I : am_I) : am_I :=
  let f := pm_put (upd (upd (upd (I 9) 0 (am_rem (I 8 2) 255 + 1)) 1 kind) 2 (a &&& 255)) 3 v
  am_ui (cm_row I 9 (upd f 7 (pm_sum7 f))) 8 2 (I 8 2 + 1)
def T_writeRequest : am_T := fun as I P J n K => match as with
  | [.inr (.inr (some o)), .inl kind, .inl a, .inl v] => o = 8 ∧ (∃ q, P = am_p0 q) ∧ K (.inl none) (cm_wr kind a v I) P J n
  | _ => False
theorem ok_writeRequest (sc : am_S) (C : Nat → am_T) (h59 : am_has C 59 T_putWord) (h61 : am_has C 61 T_putSum) : am_ok sc C tb_Li_writeRequest T_writeRequest := by
  intro as I P J n K hT V hD hV
  unfold T_writeRequest at hT
  split at hT
  · rename_i o kind a v
    obtain ⟨rfl, ⟨q, rfl⟩, hK⟩ := hT
    show V 0 [(0, .inr (.inr (some 8))), (1, .inl kind), (2, .inl a), (3, .inl v)] [] I (am_p0 q) J n
    repeat' first
      | apply hV
      | (change (_ → V _ _ _ _ _ _ _) ∧ _; refine ⟨fun h => ?_, fun h => ?_⟩)
      | (change am_kd _ = (5, _) ∧ _; refine ⟨rfl, ?_⟩)
      | (change (¬ (255 : Int32) = 0) ∧ _; refine ⟨by decide, ?_⟩)
      | (change vp_in _ 8 ∧ _; refine ⟨by unfold vp_in; decide, ?_⟩)
      | refine h59 _ _ _ _ _ _ (Or.inr ⟨rfl, rfl, fun I2 h2 => ?_⟩)
      | refine h61 _ _ _ _ _ _ (Or.inl ⟨rfl, rfl, fun I3 h3 => ?_⟩)
      | fail
    change K _ _ _ _ _
    have e : I3 = cm_row I 9 (upd (pm_put (upd (upd (upd (I 9) 0 (am_rem (I 8 2) 255 + 1)) 1 kind) 2 (a &&& 255)) 3 v) 7 (pm_sum7 (pm_put (upd (upd (upd (I 9) 0 (am_rem (I 8 2) 255 + 1)) 1 kind) 2 (a &&& 255)) 3 v))) := by
      refine cm_row_of ⟨?_, fun k hk => ?_⟩
      · rw [h3.1, h2.1]
        rfl
      · rw [h3.2 k hk, h2.2 k hk, am_ui_ne _ _ _ hk, am_ui_ne _ _ _ hk, am_ui_ne _ _ _ hk]
    rw [e]
    exact hK
  · exact hT.elim
/-- a fault of 2 or more turns a bit -/
theorem pl_bit {f : Int32} (h : ¬ f < 2) {d : Nat} (h0 : 0 < d) (hd : d < 2 ^ 31) : ∃ b, b < d ∧ am_rem (f - 2) (nI d) = nI b := by
  have h9 : ¬ f < 0 := fun z => h (by rw [Int32.lt_iff_toInt_lt] at z ⊢; have : (0 : Int32).toInt = 0 := rfl; have : (2 : Int32).toInt = 2 := rfl; omega)
  obtain ⟨j, hj, rfl⟩ := nI_of h9
  have hj2 : 2 ≤ j := by
    have : ¬ nI j < nI 2 := h
    rw [nI_ltI hj (by omega)] at this
    omega
  have e : nI j - 2 = nI (j - 2) := by
    have : nI j = nI (j - 2) + nI 2 := by rw [nI_add]; congr 1; omega
    rw [this]
    show nI (j - 2) + nI 2 - nI 2 = _
    rw [Int32.add_sub_cancel]
  refine ⟨(j - 2) % d, Nat.mod_lt _ h0, ?_⟩
  unfold am_rem
  rw [e]
  exact pk_rem (by omega) h0 hd
theorem pl_byte {b d : Nat} (hb : b < d) (hd : d ≤ 64) : vp_in (nI b / 8) 8 := by
  have e : nI b / 8 = nI (b / 8) := pk_div (d := 8) (by omega) (by omega) (by omega)
  rw [e]
  exact nI_in (by omega) (by omega)
/-- the frame in row o, of d / 8 bytes, comes into the row of what has arrived; f: the fault -/
def cm_cpy (I : am_I) (o len : Nat) (d f : Int32) : am_I :=
  if f < 2 then am_cp I o 11 0 0 len else am_ui (am_cp I o 11 0 0 len) 11 (am_rem (f - 2) d / 8).toNatClampNeg (am_cp I o 11 0 0 len 11 (am_rem (f - 2) d / 8).toNatClampNeg ^^^ am_shl 1 (am_rem (am_rem (f - 2) d) 8))
def cm_car8 (I : am_I) : Int32 × am_I :=
  if cm_flt I = 1 then (0, cm_tk I)
  else if pm_sum7 (cm_cpy (cm_tk I) 9 8 64 (cm_flt I) 11) = cm_cpy (cm_tk I) 9 8 64 (cm_flt I) 11 7 then (1, cm_cpy (cm_tk I) 9 8 64 (cm_flt I))
  else (0, am_ui (cm_cpy (cm_tk I) 9 8 64 (cm_flt I)) 8 5 (cm_cpy (cm_tk I) 9 8 64 (cm_flt I) 8 5 + 1))
def cm_car7 (I : am_I) : Int32 × am_I :=
  if cm_flt I = 1 then (0, cm_tk I)
  else if pm_sum6 (cm_cpy (cm_tk I) 5 7 56 (cm_flt I) 11) = cm_cpy (cm_tk I) 5 7 56 (cm_flt I) 11 6 then (1, cm_cpy (cm_tk I) 5 7 56 (cm_flt I))
  else (0, am_ui (cm_cpy (cm_tk I) 5 7 56 (cm_flt I)) 8 5 (cm_cpy (cm_tk I) 5 7 56 (cm_flt I) 8 5 + 1))
def T_carry : am_T := fun as I P J n K => match as with
  | [.inr (.inr (some o)), .inr (.inr (some f)), .inl k] => o = 8 ∧ (∃ q, P = am_p0 q) ∧ vp_in (I 8 9) 40 ∧ ((f = 9 ∧ k = 8 ∧ K (.inl (some (.inl (cm_car8 I).1))) (cm_car8 I).2 P J n) ∨ (f = 5 ∧ k = 7 ∧ K (.inl (some (.inl (cm_car7 I).1))) (cm_car7 I).2 P J n))
  | _ => False
theorem ok_carry (sc : am_S) (C : Nat → am_T) (h60 : am_has C 60 T_sum) (h73 : am_has C 73 T_takeFault) : am_ok sc C tb_Li_carry T_carry := by
  intro as I P J n K hT V hD hV
  unfold T_carry at hT
  split at hT
  · rename_i o f k
    obtain ⟨rfl, ⟨q, rfl⟩, hi, ⟨rfl, rfl, hK⟩ | ⟨rfl, rfl, hK⟩⟩ := hT
    · show V 0 [(0, .inr (.inr (some 8))), (1, .inr (.inr (some 9))), (2, .inl 8)] [] I (am_p0 q) J n
      repeat' first
        | apply hV
        | (change (_ → V _ _ _ _ _ _ _) ∧ _; refine ⟨fun h => ?_, fun h => ?_⟩)
        | (change am_kd _ = (5, _) ∧ _; refine ⟨rfl, ?_⟩)
        | (change (¬ (8 : Int32) * 8 = 0) ∧ _; refine ⟨by decide, ?_⟩)
        | (change (¬ (8 : Int32) = 0) ∧ _; refine ⟨by decide, ?_⟩)
        | (change (vp_in 0 8 ∧ vp_in 0 8 ∧ _) ∧ _; refine ⟨⟨by unfold vp_in; decide, by unfold vp_in; decide, by decide, by decide, by decide, by decide, by decide⟩, ?_⟩)
        | (change vp_in _ 8 ∧ _; refine ⟨(by obtain ⟨b, hb, e⟩ := pl_bit (by with_reducible assumption) (d := 64) (by omega) (by omega); exact e ▸ pl_byte hb (by omega)), ?_⟩)
        | (change vp_in _ 8 ∧ _; refine ⟨by unfold vp_in; decide, ?_⟩)
        | refine h73 _ _ _ _ _ _ ⟨rfl, ⟨_, rfl⟩, hi, ?_⟩
        | refine h60 _ _ _ _ _ _ (Or.inl ⟨Or.inr rfl, rfl, ?_⟩)
        | (change ((0 : Int32) = 0 ∨ _) ∧ _; refine ⟨Or.inl rfl, ?_⟩)
        | (change ((1 : Int32) = 0 ∨ _) ∧ _; refine ⟨Or.inr rfl, ?_⟩)
        | fail
      all_goals try change K _ _ _ _ _
      · simp only [cm_car8, if_pos h] at hK
        exact hK
      all_goals
        rename_i h1 h2
        first
          | simp only [cm_car8, if_neg h1, cm_cpy, if_pos (c := cm_flt I < 2) h2] at hK
          | simp only [cm_car8, if_neg h1, cm_cpy, if_neg (c := cm_flt I < 2) h2] at hK
        split at hK
        all_goals first
          | exact hK
          | (rename_i hc; exact absurd h hc)
          | (rename_i hc; exact absurd hc h)
    · show V 0 [(0, .inr (.inr (some 8))), (1, .inr (.inr (some 5))), (2, .inl 7)] [] I (am_p0 q) J n
      repeat' first
        | apply hV
        | (change (_ → V _ _ _ _ _ _ _) ∧ _; refine ⟨fun h => ?_, fun h => ?_⟩)
        | (change am_kd _ = (5, _) ∧ _; refine ⟨rfl, ?_⟩)
        | (change (¬ (8 : Int32) * 7 = 0) ∧ _; refine ⟨by decide, ?_⟩)
        | (change (¬ (8 : Int32) = 0) ∧ _; refine ⟨by decide, ?_⟩)
        | (change (vp_in 0 7 ∧ vp_in 0 8 ∧ _) ∧ _; refine ⟨⟨by unfold vp_in; decide, by unfold vp_in; decide, by decide, by decide, by decide, by decide, by decide⟩, ?_⟩)
        | (change vp_in _ 8 ∧ _; refine ⟨(by obtain ⟨b, hb, e⟩ := pl_bit (by with_reducible assumption) (d := 56) (by omega) (by omega); exact e ▸ pl_byte hb (by omega)), ?_⟩)
        | (change vp_in _ 8 ∧ _; refine ⟨by unfold vp_in; decide, ?_⟩)
        | refine h73 _ _ _ _ _ _ ⟨rfl, ⟨_, rfl⟩, hi, ?_⟩
        | refine h60 _ _ _ _ _ _ (Or.inr ⟨Or.inr rfl, rfl, ?_⟩)
        | (change ((0 : Int32) = 0 ∨ _) ∧ _; refine ⟨Or.inl rfl, ?_⟩)
        | (change ((1 : Int32) = 0 ∨ _) ∧ _; refine ⟨Or.inr rfl, ?_⟩)
        | fail
      all_goals try change K _ _ _ _ _
      · simp only [cm_car7, if_pos h] at hK
        exact hK
      all_goals
        rename_i h1 h2
        first
          | simp only [cm_car7, if_neg h1, cm_cpy, if_pos (c := cm_flt I < 2) h2] at hK
          | simp only [cm_car7, if_neg h1, cm_cpy, if_neg (c := cm_flt I < 2) h2] at hK
        split at hK
        all_goals first
          | exact hK
          | (rename_i hc; exact absurd h hc)
          | (rename_i hc; exact absurd hc h)
  · exact hT.elim
theorem pl_of_in {x : Int32} {n : Nat} (h : vp_in x n) : ∃ c, c < n ∧ x = nI c := by
  have h1 : ¬ x < 0 := fun z => h (Or.inl z)
  obtain ⟨j, hj, rfl⟩ := nI_of h1
  refine ⟨j, ?_, rfl⟩
  have h2 : ¬ n ≤ (nI j).toNatClampNeg := fun z => h (Or.inr z)
  rw [nI_clamp hj] at h2
  omega
theorem cm_tk_in {I : am_I} (h : vp_in (I 8 9) 40) : vp_in (cm_tk I 8 9) 40 := by
  unfold cm_tk
  split
  · exact h
  · obtain ⟨c, hc, e⟩ := pl_of_in h
    have e2 : am_rem (I 8 9 + 1) 40 = nI ((c + 1) % 40) := by
      rw [e, nI_1]
      exact pk_rem (d := 40) (by omega) (by omega) (by omega)
    show vp_in (am_rem (I 8 9 + 1) 40) 40
    rw [e2]
    exact nI_in (by omega) (by omega)
theorem cm_cpy_oth (I : am_I) (o len : Nat) (d f : Int32) {k : Nat} (h : k ≠ 11) : cm_cpy I o len d f k = I k := by
  unfold cm_cpy
  split
  · exact am_cp_ne I _ _ _ h
  · exact (am_ui_ne _ _ _ h).trans (am_cp_ne I _ _ _ h)
theorem cm_car8_in {I : am_I} (h : vp_in (I 8 9) 40) : vp_in ((cm_car8 I).2 8 9) 40 := by
  have h9 := cm_tk_in h
  have hc := cm_cpy_oth (cm_tk I) 9 8 64 (cm_flt I) (k := 8) (by decide)
  have key : ∀ r, r = cm_car8 I → vp_in (r.2 8 9) 40 := by
    intro r hr
    unfold cm_car8 at hr
    repeat' split at hr
    all_goals subst hr
    · exact h9
    · show vp_in (cm_cpy (cm_tk I) 9 8 64 (cm_flt I) 8 9) 40
      rw [hc]; exact h9
    · show vp_in (cm_cpy (cm_tk I) 9 8 64 (cm_flt I) 8 9) 40
      rw [hc]; exact h9
  exact key _ rfl
theorem cm_car7_in {I : am_I} (h : vp_in (I 8 9) 40) : vp_in ((cm_car7 I).2 8 9) 40 := by
  have h9 := cm_tk_in h
  have hc := cm_cpy_oth (cm_tk I) 5 7 56 (cm_flt I) (k := 8) (by decide)
  have key : ∀ r, r = cm_car7 I → vp_in (r.2 8 9) 40 := by
    intro r hr
    unfold cm_car7 at hr
    repeat' split at hr
    all_goals subst hr
    · exact h9
    · show vp_in (cm_cpy (cm_tk I) 5 7 56 (cm_flt I) 8 9) 40
      rw [hc]; exact h9
    · show vp_in (cm_cpy (cm_tk I) 5 7 56 (cm_flt I) 8 9) 40
      rw [hc]; exact h9
  exact key _ rfl
