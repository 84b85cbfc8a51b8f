/-! The stub's own methods. -/
def ps_has (isB : Nat → Int32) (a : Int32) : Bool := cs_adr a && !decide (isB a.toNatClampNeg = 0)
theorem ps_has_adr {isB : Nat → Int32} {a : Int32} (h : ps_has isB a = true) : cs_adr a = true := by
  simp only [ps_has, Bool.and_eq_true] at h
  exact h.1
theorem ps_has_in {isB : Nat → Int32} {a : Int32} (h : ps_has isB a = true) : vp_in a 64 := cs_adr_in (ps_has_adr h)
def T_refuse : am_T := fun as I P J n K => match as with
  | [.inr (.inr (some o))] => o = 4 ∧ K (.inl (some (.inl 0))) (am_ui I 4 6 1) P J n
  | _ => False
theorem ok_refuse (sc : am_S) (C : Nat → am_T) : am_ok sc C tb_St_refuse T_refuse := by
  intro as I P J n K hT V hD hV
  unfold T_refuse at hT
  split at hT
  · rename_i o
    obtain ⟨rfl, hK⟩ := hT
    show V 0 [(0, .inr (.inr (some 4)))] [] I P J n
    repeat' first
      | apply hV
      | (change (_ → V _ _ _ _ _ _ _) ∧ _; refine ⟨fun h => ?_, fun h => ?_⟩)
      | (change am_kd _ = (5, _) ∧ _; refine ⟨rfl, ?_⟩)
      | fail
    exact hK
  · exact hT.elim

def T_has : am_T := fun as I P J n K => match as with
  | [.inr (.inr (some o)), .inl a] => o = 4 ∧ (∃ q, P = am_p0 q) ∧ K (.inl (some (.inl (cs_b (ps_has (I 6) a))))) I P J n
  | _ => False
theorem ok_has (sc : am_S) (C : Nat → am_T) (h12 : am_has C 12 (T_adr cs_adr)) : am_ok sc C tb_St_hasBreakpoint T_has := by
  intro as I P J n K hT V hD hV
  unfold T_has at hT
  split at hT
  · rename_i o a
    obtain ⟨rfl, ⟨q, rfl⟩, hK⟩ := hT
    show V 0 [(0, .inr (.inr (some 4))), (1, .inl a)] [] I (am_p0 q) J n
    repeat' first
      | apply hV
      | (change (_ → V _ _ _ _ _ _ _) ∧ _; refine ⟨fun h => ?_, fun h => ?_⟩)
      | (change am_kd _ = (5, _) ∧ _; refine ⟨rfl, ?_⟩)
      | (change vp_in _ 64 ∧ _; refine ⟨cs_adr_in (cs_b1 (by with_reducible assumption)), ?_⟩)
      | refine h12 _ _ _ _ _ _ ?_
      | (change ((0 : Int32) = 0 ∨ _) ∧ _; refine ⟨Or.inl rfl, ?_⟩)
      | (change ((1 : Int32) = 0 ∨ _) ∧ _; refine ⟨Or.inr rfl, ?_⟩)
      | fail
    all_goals try simp only [cs_b_eq0, Bool.not_eq_false] at *
    all_goals simpa [ps_has, cs_b, *] using hK
  · exact hT.elim

def T_writeRegister : am_T := fun as I P J n K => match as with
  | [.inr (.inr (some o)), .inl a, .inl v] => o = 4 ∧ (∃ q, P = am_p0 q) ∧ (cs_reg a = true → K (.inl (some (.inl 0))) (am_ui I 3 a.toNatClampNeg v) P J n) ∧ (cs_reg a = false → K (.inl (some (.inl 0))) (am_ui I 4 6 1) P J n)
  | _ => False
theorem ok_writeRegister (sc : am_S) (C : Nat → am_T) (h13 : am_has C 13 (T_adr cs_reg)) (h82 : am_has C 82 T_refuse) : am_ok sc C tb_St_writeRegister T_writeRegister := by
  intro as I P J n K hT V hD hV
  unfold T_writeRegister at hT
  split at hT
  · rename_i o a v
    obtain ⟨rfl, ⟨q, rfl⟩, hK1, hK2⟩ := hT
    show V 0 [(0, .inr (.inr (some 4))), (1, .inl a), (2, .inl v)] [] I (am_p0 q) J n
    repeat' first
      | apply hV
      | (change (_ → V _ _ _ _ _ _ _) ∧ _; refine ⟨fun h => ?_, fun h => ?_⟩)
      | (change am_kd _ = (5, _) ∧ _; refine ⟨rfl, ?_⟩)
      | (change vp_in _ 8 ∧ _; refine ⟨cs_reg_in (cs_b1 (by with_reducible assumption)), ?_⟩)
      | refine h13 _ _ _ _ _ _ ?_
      | refine h82 _ _ _ _ _ _ ⟨rfl, ?_⟩
      | fail
    all_goals first
      | exact hK1 (cs_b1 (by with_reducible assumption))
      | exact hK2 (cs_b0 (by with_reducible assumption))
  · exact hT.elim

def ps_rd (mem isB und : Nat → Int32) (a : Int32) : Int32 := if isB a.toNatClampNeg = 0 then mem a.toNatClampNeg else und a.toNatClampNeg
def T_readWord : am_T := fun as I P J n K => match as with
  | [.inr (.inr (some o)), .inl a] => o = 4 ∧ (∃ q, P = am_p0 q) ∧ (cs_adr a = true → K (.inl (some (.inl (ps_rd (I 2) (I 6) (I 7) a)))) I P J n) ∧ (cs_adr a = false → K (.inl (some (.inl 0))) (am_ui I 4 6 1) P J n)
  | _ => False
theorem ok_readWord (sc : am_S) (C : Nat → am_T) (h12 : am_has C 12 (T_adr cs_adr)) (h82 : am_has C 82 T_refuse) : am_ok sc C tb_St_readWord T_readWord := by
  intro as I P J n K hT V hD hV
  unfold T_readWord at hT
  split at hT
  · rename_i o a
    obtain ⟨rfl, ⟨q, rfl⟩, hK1, hK2⟩ := hT
    show V 0 [(0, .inr (.inr (some 4))), (1, .inl a)] [] I (am_p0 q) J n
    repeat' first
      | apply hV
      | (change (_ → V _ _ _ _ _ _ _) ∧ _; refine ⟨fun h => ?_, fun h => ?_⟩)
      | (change am_kd _ = (5, _) ∧ _; refine ⟨rfl, ?_⟩)
      | (change vp_in _ 64 ∧ _; refine ⟨cs_adr_in (cs_b1 (by with_reducible assumption)), ?_⟩)
      | refine h12 _ _ _ _ _ _ ?_
      | refine h82 _ _ _ _ _ _ ⟨rfl, ?_⟩
      | fail
    all_goals first
      | exact hK2 (cs_b0 (by with_reducible assumption))
      | (have hK3 := hK1 (cs_b1 (by with_reducible assumption)); simp only [ps_rd, if_pos h] at hK3; exact hK3)
      | (have hK3 := hK1 (cs_b1 (by with_reducible assumption)); simp only [ps_rd, if_neg h] at hK3; exact hK3)
  · exact hT.elim

def T_writeWord : am_T := fun as I P J n K => match as with
  | [.inr (.inr (some o)), .inl a, .inl v] => o = 4 ∧ (∃ q, P = am_p0 q) ∧ (cs_adr a = true → I 6 a.toNatClampNeg = 0 → K (.inl (some (.inl 0))) (am_ui I 2 a.toNatClampNeg v) P J n) ∧ (cs_adr a = true → ¬ I 6 a.toNatClampNeg = 0 → K (.inl (some (.inl 0))) (am_ui I 7 a.toNatClampNeg v) P J n) ∧ (cs_adr a = false → K (.inl (some (.inl 0))) (am_ui I 4 6 1) P J n)
  | _ => False
theorem ok_writeWord (sc : am_S) (C : Nat → am_T) (h12 : am_has C 12 (T_adr cs_adr)) (h82 : am_has C 82 T_refuse) : am_ok sc C tb_St_writeWord T_writeWord := by
  intro as I P J n K hT V hD hV
  unfold T_writeWord at hT
  split at hT
  · rename_i o a v
    obtain ⟨rfl, ⟨q, rfl⟩, hK1, hK2, hK3⟩ := hT
    show V 0 [(0, .inr (.inr (some 4))), (1, .inl a), (2, .inl v)] [] I (am_p0 q) J n
    repeat' first
      | apply hV
      | (change (_ → V _ _ _ _ _ _ _) ∧ _; refine ⟨fun h => ?_, fun h => ?_⟩)
      | (change am_kd _ = (5, _) ∧ _; refine ⟨rfl, ?_⟩)
      | (change vp_in _ 64 ∧ _; refine ⟨cs_adr_in (cs_b1 (by with_reducible assumption)), ?_⟩)
      | refine h12 _ _ _ _ _ _ ?_
      | refine h82 _ _ _ _ _ _ ⟨rfl, ?_⟩
      | fail
    all_goals first
      | exact hK1 (cs_b1 (by with_reducible assumption)) h
      | exact hK2 (cs_b1 (by with_reducible assumption)) h
      | exact hK3 (cs_b0 (by with_reducible assumption))
  · exact hT.elim

def ps_may (isB : Nat → Int32) (cnt a : Int32) : Bool := cs_adr a && decide (isB a.toNatClampNeg = 0) && !decide (cnt = 4)
def T_putBreakpoint : am_T := fun as I P J n K => match as with
  | [.inr (.inr (some o)), .inl a] => o = 4 ∧ (∃ q, P = am_p0 q) ∧ (ps_may (I 6) (I 4 1) a = true → K (.inl (some (.inl 0))) (am_ui (am_ui (am_ui (am_ui I 6 a.toNatClampNeg 1) 7 a.toNatClampNeg (I 2 a.toNatClampNeg)) 2 a.toNatClampNeg 15) 4 1 (I 4 1 + 1)) P J n) ∧ (ps_may (I 6) (I 4 1) a = false → K (.inl (some (.inl 0))) (am_ui I 4 6 1) P J n)
  | _ => False
theorem ok_putBreakpoint (sc : am_S) (C : Nat → am_T) (h12 : am_has C 12 (T_adr cs_adr)) (h82 : am_has C 82 T_refuse) : am_ok sc C tb_St_putBreakpoint T_putBreakpoint := by
  intro as I P J n K hT V hD hV
  unfold T_putBreakpoint at hT
  split at hT
  · rename_i o a
    obtain ⟨rfl, ⟨q, rfl⟩, hK1, hK2⟩ := hT
    show V 0 [(0, .inr (.inr (some 4))), (1, .inl a)] [] I (am_p0 q) J n
    repeat' first
      | apply hV
      | (change (_ → V _ _ _ _ _ _ _) ∧ _; refine ⟨fun h => ?_, fun h => ?_⟩)
      | (change am_kd _ = (5, _) ∧ _; refine ⟨rfl, ?_⟩)
      | (change vp_in _ 64 ∧ _; refine ⟨cs_adr_in (cs_b1 (by with_reducible assumption)), ?_⟩)
      | refine h12 _ _ _ _ _ _ ?_
      | refine h82 _ _ _ _ _ _ ⟨rfl, ?_⟩
      | fail
    all_goals try simp only [cs_b_eq0, Bool.not_eq_false] at *
    all_goals first
      | exact hK1 (by simp [ps_may, *])
      | exact hK2 (by simp [ps_may, *])
  · exact hT.elim

def T_takeBreakpoint : am_T := fun as I P J n K => match as with
  | [.inr (.inr (some o)), .inl a] => o = 4 ∧ (∃ q, P = am_p0 q) ∧ (ps_has (I 6) a = true → K (.inl (some (.inl 0))) (am_ui (am_ui (am_ui I 6 a.toNatClampNeg 0) 2 a.toNatClampNeg (I 7 a.toNatClampNeg)) 4 1 (I 4 1 - 1)) P J n) ∧ (ps_has (I 6) a = false → K (.inl (some (.inl 0))) (am_ui I 4 6 1) P J n)
  | _ => False
theorem ok_takeBreakpoint (sc : am_S) (C : Nat → am_T) (h82 : am_has C 82 T_refuse) (h83 : am_has C 83 T_has) : am_ok sc C tb_St_takeBreakpoint T_takeBreakpoint := by
  intro as I P J n K hT V hD hV
  unfold T_takeBreakpoint at hT
  split at hT
  · rename_i o a
    obtain ⟨rfl, ⟨q, rfl⟩, hK1, hK2⟩ := hT
    show V 0 [(0, .inr (.inr (some 4))), (1, .inl a)] [] I (am_p0 q) J n
    repeat' first
      | apply hV
      | (change (_ → V _ _ _ _ _ _ _) ∧ _; refine ⟨fun h => ?_, fun h => ?_⟩)
      | (change am_kd _ = (5, _) ∧ _; refine ⟨rfl, ?_⟩)
      | (change vp_in _ 64 ∧ _; refine ⟨ps_has_in (cs_b1 (by with_reducible assumption)), ?_⟩)
      | refine h82 _ _ _ _ _ _ ⟨rfl, ?_⟩
      | refine h83 _ _ _ _ _ _ ⟨rfl, ⟨_, rfl⟩, ?_⟩
      | fail
    all_goals first
      | exact hK1 (cs_b1 (by with_reducible assumption))
      | exact hK2 (cs_b0 (by with_reducible assumption))
  · exact hT.elim

def ps_first (mem isB und : Nat → Int32) (pc : Int32) : Int32 := match ps_has isB pc with
  | true => und pc.toNatClampNeg
  | false => pm_at mem pc
def T_first : am_T := fun as I P J n K => match as with
  | [.inr (.inr (some o))] => o = 4 ∧ (∃ q, P = am_p0 q) ∧ K (.inl (some (.inl (ps_first (I 2) (I 6) (I 7) (I 1 2))))) I P J n
  | _ => False
theorem ok_first (sc : am_S) (C : Nat → am_T) (h83 : am_has C 83 T_has) (h75 : am_has C 75 T_atPc) : am_ok sc C tb_St_firstInstruction T_first := by
  intro as I P J n K hT V hD hV
  unfold T_first at hT
  split at hT
  · rename_i o
    obtain ⟨rfl, ⟨q, rfl⟩, hK⟩ := hT
    show V 0 [(0, .inr (.inr (some 4)))] [] I (am_p0 q) J n
    repeat' first
      | apply hV
      | (change (_ → V _ _ _ _ _ _ _) ∧ _; refine ⟨fun h => ?_, fun h => ?_⟩)
      | (change am_kd _ = (5, _) ∧ _; refine ⟨rfl, ?_⟩)
      | (change vp_in _ 64 ∧ _; refine ⟨ps_has_in (cs_b1 (by with_reducible assumption)), ?_⟩)
      | refine h83 _ _ _ _ _ _ ⟨rfl, ⟨_, rfl⟩, ?_⟩
      | refine h75 _ _ _ _ _ _ ⟨rfl, ⟨_, rfl⟩, ?_⟩
      | fail
    all_goals simp only [cs_b_eq0, Bool.not_eq_false] at h
    all_goals simp only [ps_first, h] at hK
    all_goals exact hK
  · exact hT.elim

