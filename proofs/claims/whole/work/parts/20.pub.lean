/-! Public methods of the class. -/
theorem pb_le8 {a : Int32} (h1 : ¬ a < 0) (h2 : ¬ 8 ≤ a) : vp_in a 8 := pb_in (n := 8) h1 h2 (by decide)
theorem pb_in16 {i : Int32} (h1 : ¬ i < 16) (h2 : ¬ 23 ≤ i) : vp_in (i - 16) 7 := by
  have h9 : ¬ i < 0 := fun z => h1 (by rw [Int32.lt_iff_toInt_lt] at z ⊢; have : (0 : Int32).toInt = 0 := rfl; have : (16 : Int32).toInt = 16 := rfl; omega)
  obtain ⟨j, hj, rfl⟩ := nI_of h9
  have a1 : ¬ nI j < nI 16 := h1
  have a2 : ¬ nI 23 ≤ nI j := h2
  rw [nI_ltI hj (by omega)] at a1
  rw [nI_leI (by omega) hj] at a2
  have e : nI j - 16 = nI (j - 16) := by
    have : nI j = nI (j - 16) + nI 16 := by rw [nI_add]; congr 1; omega
    rw [this]
    show nI (j - 16) + nI 16 - nI 16 = _
    rw [Int32.add_sub_cancel]
  rw [e]
  exact nI_in (by omega) (by omega)
def T_fault : am_T := fun as I P J n K => match as with
  | [.inr (.inr (some o)), .inl f] => o = 0 ∧ (∃ q, P = am_p0 q) ∧ (¬ 0 ≤ f → am_thr 1 I P J n K) ∧ (0 ≤ f → I 8 6 = 40 → am_thr 2 I P J n K) ∧ (0 ≤ f → ¬ I 8 6 = 40 → vp_in (am_rem (I 8 9 + I 8 6) 40) 40 ∧ K (.inl (some (.inl (I 8 6 + 1)))) (am_ui (am_ui I 10 (am_rem (I 8 9 + I 8 6) 40).toNatClampNeg f) 8 6 (I 8 6 + 1)) P J n)
  | _ => False
theorem ok_fault (sc : am_S) (C : Nat → am_T) (h69 : am_has C 69 T_tellFault) : am_ok sc C tb_L_fault T_fault := by
  intro as I P J n K hT V hD hV
  unfold T_fault at hT
  split at hT
  · rename_i o f
    obtain ⟨rfl, ⟨q, rfl⟩, hK1, hK2, hK3⟩ := hT
    show V 0 [(0, .inr (.inr (some 0))), (1, .inl f)] [] I (am_p0 q) J n
    repeat' first
      | apply hV
      | (change (_ → V _ _ _ _ _ _ _) ∧ _; refine ⟨fun h => ?_, fun h => ?_⟩)
      | (change am_kd _ = (5, _) ∧ _; refine ⟨rfl, ?_⟩)
      | refine h69 _ _ _ _ _ _ ⟨rfl, ⟨_, rfl⟩, fun g => ?_, fun g => ⟨(hK3 h g).1, ?_⟩⟩
      | fail
    all_goals first
      | exact (hK3 h g).2
      | (obtain ⟨z, rfl, hz⟩ := hK2 h g; exact ⟨z, rfl, hz⟩)
      | (obtain ⟨z, rfl, hz⟩ := hK1 h; exact hz)
  · exact hT.elim
def cm_byte (I : am_I) (i : Int32) : Int32 := if i < 0 then 0 else if ¬ 8 ≤ i then I 9 i.toNatClampNeg else if i < 16 then 0 else if 23 ≤ i then 0 else I 5 (i - 16).toNatClampNeg
theorem pb_neg16 {i : Int32} (h : i < 0) : i < 16 := by
  rw [Int32.lt_iff_toInt_lt] at h ⊢
  have : (0 : Int32).toInt = 0 := rfl
  have : (16 : Int32).toInt = 16 := rfl
  omega
def T_byteAt : am_T := fun as I P J n K => match as with
  | [.inr (.inr (some o)), .inl i] => o = 0 ∧ (∃ q, P = am_p0 q) ∧ K (.inl (some (.inl (cm_byte I i)))) I P J n
  | _ => False
theorem ok_byteAt (sc : am_S) (C : Nat → am_T) : am_ok sc C tb_L_byteAt T_byteAt := by
  intro as I P J n K hT V hD hV
  unfold T_byteAt at hT
  split at hT
  · rename_i o i
    obtain ⟨rfl, ⟨q, rfl⟩, hK⟩ := hT
    show V 0 [(0, .inr (.inr (some 0))), (1, .inl i)] [] I (am_p0 q) J n
    repeat' first
      | apply hV
      | (change (_ → V _ _ _ _ _ _ _) ∧ _; refine ⟨fun h => ?_, fun h => ?_⟩)
      | (change am_kd _ = (5, _) ∧ _; refine ⟨rfl, ?_⟩)
      | exact absurd (pb_neg16 (by with_reducible assumption)) (by with_reducible assumption)
      | (change vp_in _ 8 ∧ _; refine ⟨pb_le8 (by with_reducible assumption) (by with_reducible assumption), ?_⟩)
      | (change vp_in _ 7 ∧ _; refine ⟨pb_in16 (by with_reducible assumption) (by with_reducible assumption), ?_⟩)
      | fail
    all_goals change K _ _ _ _ _
    all_goals simpa [cm_byte, *] using hK
  · exact hT.elim
def ps_kind (k : Int32) : Bool := !decide (k < 0) && decide (k ≤ 9)
def T_request : am_T := fun as I P J n K => match as with
  | [.inr (.inr (some o)), .inl kind, .inl a, .inl v] => o = 0 ∧ (∃ q, P = am_p0 q) ∧ vp_in (I 8 9) 40 ∧ (ps_kind kind = false → am_thr 1 I P J n K) ∧ (ps_kind kind = true → (cm_ask 4 (cm_wr kind a v I)).1 = none → am_thr 3 (cm_ask 4 (cm_wr kind a v I)).2 P J n K) ∧ (ps_kind kind = true → ∀ x, (cm_ask 4 (cm_wr kind a v I)).1 = some x → (cm_ask 4 (cm_wr kind a v I)).2 8 1 = 0 → K (.inl (some (.inl x))) (cm_ask 4 (cm_wr kind a v I)).2 P J n) ∧ (ps_kind kind = true → ∀ x, (cm_ask 4 (cm_wr kind a v I)).1 = some x → ¬ (cm_ask 4 (cm_wr kind a v I)).2 8 1 = 0 → am_thr 1 (cm_ask 4 (cm_wr kind a v I)).2 P J n K)
  | _ => False
theorem ok_request (sc : am_S) (C : Nat → am_T) (h70 : am_has C 70 T_ask) : am_ok sc C tb_L_request T_request := by
  intro as I P J n K hT V hD hV
  unfold T_request at hT
  split at hT
  · rename_i o kind a v
    obtain ⟨rfl, ⟨q, rfl⟩, hin, hK1, hK2, hK3, hK4⟩ := hT
    show V 0 [(0, .inr (.inr (some 0))), (1, .inl kind), (2, .inl a), (3, .inl v)] [] I (am_p0 q) J n
    apply hV; apply hV
    refine ⟨fun h => ?_, fun h => ?_⟩
    · obtain ⟨z, rfl, hz⟩ := hK1 (by simp [ps_kind, h])
      apply hV
      exact hz
    apply hV; apply hV; apply hV
    refine ⟨fun h1 => ?_, fun h1 => ?_⟩
    · have hk : ps_kind kind = true := by simp [ps_kind, h, h1]
      have hK2 := hK2 hk
      have hK3 := hK3 hk
      have hK4 := hK4 hk
      apply hV; apply hV
      refine ⟨rfl, ?_⟩
      apply hV; apply hV; apply hV; apply hV
      refine ⟨rfl, ?_⟩
      refine h70 _ _ _ _ _ _ ⟨rfl, ⟨_, rfl⟩, hin, fun x hx => ?_, fun hx => ?_⟩
      · have hK3 := hK3 x hx
        have hK4 := hK4 x hx
        clear hK2 hx
        generalize (cm_ask 4 (cm_wr kind a v I)).2 = X at hK3 hK4 ⊢
        apply hV; apply hV; apply hV
        refine ⟨rfl, ?_⟩
        apply hV
        refine ⟨rfl, ?_⟩
        apply hV
        refine ⟨fun h2 => ?_, fun h2 => ?_⟩
        · apply hV; apply hV
          exact hK3 h2
        · obtain ⟨z, rfl, hz⟩ := hK4 h2
          apply hV
          exact hz
      · obtain ⟨z, rfl, hz⟩ := hK2 hx
        exact ⟨z, rfl, hz⟩
    · obtain ⟨z, rfl, hz⟩ := hK1 (by simp [ps_kind, h1])
      apply hV
      exact hz
  · exact hT.elim
def cm_opok (op v : Int32) : Bool := !decide (op < 0) && decide (op ≤ 10) && (!decide (op = 1) || cs_reg v)
def T_operation : am_T := fun as I P J n K => match as with
  | [.inr (.inr (some o)), .inl op, .inl v] => o = 0 ∧ (∃ q, P = am_p0 q) ∧ (cm_opok op v = false → am_thr 1 I P J n K) ∧ (cm_opok op v = true → I 15 0 = 20 → am_thr 2 I P J n K) ∧ (cm_opok op v = true → ¬ I 15 0 = 20 → vp_in (I 15 0) 20 ∧ K (.inl (some (.inl (I 15 0 + 1)))) (am_ui (am_ui (am_ui I 16 (I 15 0).toNatClampNeg op) 17 (I 15 0).toNatClampNeg v) 15 0 (I 15 0 + 1)) P J n)
  | _ => False
theorem ok_operation (sc : am_S) (C : Nat → am_T) (h13 : am_has C 13 (T_adr cs_reg)) (h62 : am_has C 62 T_append) : am_ok sc C tb_L_operation T_operation := by
  intro as I P J n K hT V hD hV
  unfold T_operation at hT
  split at hT
  · rename_i o op v
    obtain ⟨rfl, ⟨q, rfl⟩, hK1, hK2, hK3⟩ := hT
    show V 0 [(0, .inr (.inr (some 0))), (1, .inl op), (2, .inl v)] [] I (am_p0 q) J n
    repeat' first
      | apply hV
      | (change (_ → V _ _ _ _ _ _ _) ∧ _; refine ⟨fun h => ?_, fun h => ?_⟩)
      | (change am_kd _ = (5, _) ∧ _; refine ⟨rfl, ?_⟩)
      | refine h13 _ _ _ _ _ _ ?_
      | refine h62 _ _ _ _ _ _ ⟨rfl, ⟨_, rfl⟩, fun g => ?_, fun g => ⟨?_, ?_⟩⟩
      | fail
    all_goals try simp only [cs_b_eq0, Bool.not_eq_false] at *
    all_goals first
      | exact (hK3 (by simp [cm_opok, *]) g).1
      | exact (hK3 (by simp [cm_opok, *]) g).2
      | (obtain ⟨z, rfl, hz⟩ := hK2 (by simp [cm_opok, *]) g; exact ⟨z, rfl, hz⟩)
      | (obtain ⟨z, rfl, hz⟩ := hK1 (by simp [cm_opok, *]); exact hz)
  · exact hT.elim
