/-! The machine's own methods. -/
def T_adr (f : Int32 → Bool) : am_T := fun as I P J n K => match as with
  | [.inl a] => K (.inl (some (.inl (cs_b (f a))))) I P J n
  | _ => False
theorem ok_isAddress (sc : am_S) (C : Nat → am_T) : am_ok sc C tb_L_isAddress (T_adr cs_adr) := by
  intro as I P J n K hT V hD hV
  unfold T_adr at hT
  split at hT
  · rename_i a
    show V 0 [(0, .inl a)] [] I P J n
    repeat' first
      | apply hV
      | refine ⟨fun h => ?_, fun h => ?_⟩
      | refine ⟨Or.inl rfl, ?_⟩
      | refine ⟨Or.inr rfl, ?_⟩
      | fail
    all_goals simpa [cs_adr, cs_b, *] using hT
  · exact hT.elim
theorem ok_isRegister (sc : am_S) (C : Nat → am_T) : am_ok sc C tb_L_isRegister (T_adr cs_reg) := by
  intro as I P J n K hT V hD hV
  unfold T_adr at hT
  split at hT
  · rename_i a
    show V 0 [(0, .inl a)] [] I P J n
    repeat' first
      | apply hV
      | refine ⟨fun h => ?_, fun h => ?_⟩
      | refine ⟨Or.inl rfl, ?_⟩
      | refine ⟨Or.inr rfl, ?_⟩
      | fail
    all_goals simpa [cs_reg, cs_b, *] using hT
  · exact hT.elim
theorem ok_isSlot (sc : am_S) (C : Nat → am_T) : am_ok sc C tb_L_isSlot (T_adr cs_slo) := by
  intro as I P J n K hT V hD hV
  unfold T_adr at hT
  split at hT
  · rename_i a
    show V 0 [(0, .inl a)] [] I P J n
    repeat' first
      | apply hV
      | refine ⟨fun h => ?_, fun h => ?_⟩
      | refine ⟨Or.inl rfl, ?_⟩
      | refine ⟨Or.inr rfl, ?_⟩
      | fail
    all_goals simpa [cs_slo, cs_b, *] using hT
  · exact hT.elim
theorem ok_Mo_isAddress (sc : am_S) (C : Nat → am_T) : am_ok sc C tb_Mo_isAddress (T_adr cs_adr) := by
  intro as I P J n K hT V hD hV
  unfold T_adr at hT
  split at hT
  · rename_i a
    show V 0 [(0, .inl a)] [] I P J n
    repeat' first
      | apply hV
      | refine ⟨fun h => ?_, fun h => ?_⟩
      | refine ⟨Or.inl rfl, ?_⟩
      | refine ⟨Or.inr rfl, ?_⟩
      | fail
    all_goals simpa [cs_adr, cs_b, *] using hT
  · exact hT.elim
def cs_brk (w : Int32) : Bool := decide (w &&& 15 = 15)
theorem ok_isBreak (sc : am_S) (C : Nat → am_T) : am_ok sc C tb_Ma_isBreak (T_adr cs_brk) := by
  intro as I P J n K hT V hD hV
  unfold T_adr at hT
  split at hT
  · rename_i a
    show V 0 [(0, .inl a)] [] I P J n
    repeat' first
      | apply hV
      | refine ⟨fun h => ?_, fun h => ?_⟩
      | refine ⟨Or.inl rfl, ?_⟩
      | refine ⟨Or.inr rfl, ?_⟩
      | fail
    all_goals simpa [cs_brk, cs_b, *] using hT
  · exact hT.elim
def cs_calc (op b c n : Int32) : Int32 := if op = 1 then n else if op = 2 then b + n else if op = 3 then b + c else if op = 4 then b - c else b * c
def T_calc : am_T := fun as I P J n K => match as with
  | [.inl op, .inl b, .inl c, .inl k] => K (.inl (some (.inl (cs_calc op b c k)))) I P J n
  | _ => False
theorem ok_calculate (sc : am_S) (C : Nat → am_T) : am_ok sc C tb_Ma_calculate T_calc := by
  intro as I P J n K hT V hD hV
  unfold T_calc at hT
  split at hT
  · rename_i op b c k
    show V 0 [(0, .inl op), (1, .inl b), (2, .inl c), (3, .inl k)] [] I P J n
    repeat' first
      | apply hV
      | refine ⟨fun h => ?_, fun h => ?_⟩
      | fail
    all_goals change K _ _ _ _ _
    all_goals simpa [cs_calc, *] using hT
  · exact hT.elim
/-- the end of an instruction that is a step: the PC goes to nx, one step more -/
def cm_go (I : am_I) (nx : Int32) : am_I := am_ui (am_ui I 1 2 nx) 1 3 (am_ui I 1 2 nx 1 3 + 1)
/-- one instruction w of the class's machine: the stop, the memory behind it -/
def cm_ex (w : Int32) (I : am_I) : Int32 × am_I :=
  if w &&& 15 = 0 then (3, I)
  else if w &&& 15 = 6 then if I 3 (am_shr w 10 &&& 7).toNatClampNeg = 0 then (4, I) else (1, cm_go (am_ui I 3 (am_shr w 4 &&& 7).toNatClampNeg (I 3 (am_shr w 7 &&& 7).toNatClampNeg / I 3 (am_shr w 10 &&& 7).toNatClampNeg)) (I 1 2 + 1))
  else if w &&& 15 = 7 then match cs_adr (I 3 (am_shr w 7 &&& 7).toNatClampNeg + am_shr w 16) with
    | true => (1, cm_go (am_ui I 3 (am_shr w 4 &&& 7).toNatClampNeg (I 2 (I 3 (am_shr w 7 &&& 7).toNatClampNeg + am_shr w 16).toNatClampNeg)) (I 1 2 + 1))
    | false => (4, I)
  else if w &&& 15 = 8 then match cs_adr (I 3 (am_shr w 7 &&& 7).toNatClampNeg + am_shr w 16) with
    | true => (1, cm_go (am_ui I 2 (I 3 (am_shr w 7 &&& 7).toNatClampNeg + am_shr w 16).toNatClampNeg (I 3 (am_shr w 4 &&& 7).toNatClampNeg)) (I 1 2 + 1))
    | false => (4, I)
  else if w &&& 15 = 9 then (1, cm_go I (am_shr w 16))
  else if w &&& 15 = 10 then (1, cm_go I (if I 3 (am_shr w 4 &&& 7).toNatClampNeg = 0 then am_shr w 16 else I 1 2 + 1))
  else if w &&& 15 = 11 then (1, cm_go (am_ui I 3 7 (I 1 2 + 1)) (am_shr w 16))
  else if w &&& 15 = 12 then (1, cm_go I (I 3 (am_shr w 4 &&& 7).toNatClampNeg))
  else if w &&& 15 = 13 then (1, cm_go I (if 0 ≤ I 3 (am_shr w 4 &&& 7).toNatClampNeg then I 1 2 + 1 else am_shr w 16))
  else if w &&& 15 = 14 then (4, I)
  else if w &&& 15 = 15 then (2, I)
  else (1, cm_go (am_ui I 3 (am_shr w 4 &&& 7).toNatClampNeg (cs_calc (w &&& 15) (I 3 (am_shr w 7 &&& 7).toNatClampNeg) (I 3 (am_shr w 10 &&& 7).toNatClampNeg) (am_shr w 16))) (I 1 2 + 1))
def T_execute : am_T := fun as I P J n K => match as with
  | [.inr (.inr (some o)), .inl w] => o = 1 ∧ (∃ q, P = am_p0 q) ∧ K (.inl (some (.inl (cm_ex w I).1))) (cm_ex w I).2 P J n
  | _ => False
theorem am_lit15 {x a b : Int32} (h : x = a) (hn : ¬ a = b) : ¬ x = b := fun e => hn (h.symm.trans e)
theorem ok_execute (sc : am_S) (C : Nat → am_T) (h12 : am_has C 12 (T_adr cs_adr)) (h77 : am_has C 77 T_calc) : am_ok sc C tb_Ma_execute T_execute := by
  intro as I P J n K hT V hD hV
  unfold T_execute at hT
  split at hT
  · rename_i o w
    obtain ⟨rfl, ⟨q, rfl⟩, hK⟩ := hT
    show V 0 [(0, .inr (.inr (some 1))), (1, .inl w)] [] I (am_p0 q) J n
    repeat' first
      | apply hV
      | (change (_ → V _ _ _ _ _ _ _) ∧ _; refine ⟨fun h => ?_, fun h => ?_⟩)
      | (change am_kd _ = (5, _) ∧ _; refine ⟨rfl, ?_⟩)
      | (change vp_in _ 8 ∧ _; refine ⟨by with_reducible first | exact pb_7 _ | exact pb_78, ?_⟩)
      | (change vp_in _ 64 ∧ _; refine ⟨cs_adr_in (cs_b1 (by with_reducible assumption)), ?_⟩)
      | (change (¬ _ = (0 : Int32)) ∧ _; refine ⟨by with_reducible assumption, ?_⟩)
      | refine h12 _ _ _ _ _ _ ?_
      | refine h77 _ _ _ _ _ _ ?_
      | fail
    all_goals change K _ _ _ _ _
    all_goals try simp only [cs_b_eq0, Bool.not_eq_false] at h
    all_goals
      unfold cm_ex at hK
      repeat (first | rw [if_pos (by with_reducible assumption)] at hK | rw [if_neg (by with_reducible assumption)] at hK | rw [if_neg (am_lit15 (by with_reducible assumption) (by decide))] at hK)
    all_goals first
      | exact hK
      | (simp only [h] at hK; exact hK)
  · exact hT.elim
/-- instructionAtPc -/
def pm_at (mem : Nat → Int32) (pc : Int32) : Int32 := match cs_adr pc with
  | true => mem pc.toNatClampNeg
  | false => 14
def T_atPc : am_T := fun as I P J n K => match as with
  | [.inr (.inr (some o))] => o = 1 ∧ (∃ q, P = am_p0 q) ∧ K (.inl (some (.inl (pm_at (I 2) (I 1 2))))) I P J n
  | _ => False
theorem ok_atPc (sc : am_S) (C : Nat → am_T) (h12 : am_has C 12 (T_adr cs_adr)) : am_ok sc C tb_Ma_instructionAtPc T_atPc := by
  intro as I P J n K hT V hD hV
  unfold T_atPc at hT
  split at hT
  · rename_i o
    obtain ⟨rfl, ⟨q, rfl⟩, hK⟩ := hT
    show V 0 [(0, .inr (.inr (some 1)))] [] I (am_p0 q) J n
    repeat' first
      | apply hV
      | (change (_ → V _ _ _ _ _ _ _) ∧ _; refine ⟨fun h => ?_, fun h => ?_⟩)
      | (change am_kd _ = (5, _) ∧ _; refine ⟨rfl, ?_⟩)
      | (change vp_in _ 64 ∧ _; refine ⟨cs_adr_in (cs_b1 (by with_reducible assumption)), ?_⟩)
      | refine h12 _ _ _ _ _ _ ?_
      | fail
    all_goals change K _ _ _ _ _
    all_goals simp only [cs_b_eq0, Bool.not_eq_false] at h
    all_goals simpa [pm_at, *] using hK
  · exact hT.elim
