/-! One operation of an expression. -/
/-- none: done; some E: exception E -/
def am_fin (r : Option Nat × am_I) (P : am_P) (J : am_J) (n : Nat) (K : am_K) : Prop := match r.1 with
  | none => K (.inl none) r.2 P J n
  | some E => am_thr E r.2 P J n K
def cm_push (x : Int32) (I : am_I) : Option Nat × am_I := if I 15 1 = 8 then (some 2, I) else (none, am_ui (am_ui I 18 (I 15 1).toNatClampNeg x) 15 1 (I 15 1 + 1))
def cm_opw (I : am_I) : Option Nat × am_I := match cs_adr (I 18 (I 15 1 - 1).toNatClampNeg) with
  | false => (some 1, I)
  | true => match (cm_ask 4 (cm_wr 2 (I 18 (I 15 1 - 1).toNatClampNeg) 0 I)).1 with
    | none => (some 3, (cm_ask 4 (cm_wr 2 (I 18 (I 15 1 - 1).toNatClampNeg) 0 I)).2)
    | some y => (none, am_ui (cm_ask 4 (cm_wr 2 (I 18 (I 15 1 - 1).toNatClampNeg) 0 I)).2 18 (I 15 1 - 1).toNatClampNeg y)
def cm_join (op : Int32) (I : am_I) : Option Nat × am_I := match cm_comb op (I 18 (I 15 1 - 2).toNatClampNeg) (I 18 (I 15 1 - 1).toNatClampNeg) with
  | none => (some 5, I)
  | some x => (none, am_ui (am_ui I 18 (I 15 1 - 2).toNatClampNeg x) 15 1 (I 15 1 - 1))
def cm_apply (op v : Int32) (row : Nat → Int32) (I : am_I) : Option Nat × am_I :=
  if op = 0 then cm_push v I
  else if op = 1 then cm_push (row v.toNatClampNeg) I
  else if op = 2 then if 1 ≤ I 15 1 then cm_opw I else (some 2, I)
  else if op = 7 then if 1 ≤ I 15 1 then cm_push (I 18 (I 15 1 - 1).toNatClampNeg) I else (some 2, I)
  else if op = 8 then if 2 ≤ I 15 1 then (none, am_ui (am_ui I 18 (I 15 1 - 1).toNatClampNeg (I 18 (I 15 1 - 2).toNatClampNeg)) 18 (I 15 1 - 2).toNatClampNeg (I 18 (I 15 1 - 1).toNatClampNeg)) else (some 2, I)
  else if op = 9 then if 1 ≤ I 15 1 then (none, am_ui I 15 1 (I 15 1 - 1)) else (some 2, I)
  else if op = 10 then if 2 ≤ I 15 1 then cm_push (I 18 (I 15 1 - 2).toNatClampNeg) I else (some 2, I)
  else if 2 ≤ I 15 1 then cm_join op I else (some 2, I)
def T_apply : am_T := fun as I P J n K => match as with
  | [.inr (.inr (some o)), .inl i, .inr (.inr (some r)), .inr (.inr (some l))] => o = 15 ∧ l = 8 ∧ (∃ q, P = am_p0 q) ∧ vp_in i 20 ∧ Nat.beq r 900 = false ∧ (I 16 i.toNatClampNeg = 1 → vp_in (I 17 i.toNatClampNeg) (am_ai r)) ∧ vp_in (I 8 9) 40 ∧ (¬ I 15 1 = 8 → vp_in (I 15 1) 8) ∧ (1 ≤ I 15 1 → vp_in (I 15 1 - 1) 8) ∧ (2 ≤ I 15 1 → vp_in (I 15 1 - 2) 8) ∧ am_fin (cm_apply (I 16 i.toNatClampNeg) (I 17 i.toNatClampNeg) (I r) I) P J n K
  | _ => False
theorem am_le12 {x : Int32} (h : 2 ≤ x) : 1 ≤ x := by
  rw [Int32.le_iff_toInt_le] at h ⊢
  have : (1 : Int32).toInt = 1 := rfl
  have : (2 : Int32).toInt = 2 := rfl
  omega
theorem ok_apply (sc : am_S) (C : Nat → am_T) (h12 : am_has C 12 (T_adr cs_adr)) (h65 : am_has C 65 T_need) (h66 : am_has C 66 T_push) (h67 : am_has C 67 T_change) (h68 : am_has C 68 T_combine) (h70 : am_has C 70 T_ask) : am_ok sc C tb_Ex_apply T_apply := by
  intro as I P J n K hT V hD hV
  unfold T_apply at hT
  split at hT
  · rename_i o i r l
    obtain ⟨rfl, rfl, ⟨q, rfl⟩, hi, h900, hrow, hin, hd0, hd1, hd2, hK⟩ := hT
    show V 0 [(0, .inr (.inr (some 15))), (1, .inl i), (2, .inr (.inr (some r))), (3, .inr (.inr (some 8)))] [] I (am_p0 q) J n
    repeat' first
      | apply hV
      | (change (_ → V _ _ _ _ _ _ _) ∧ _; refine ⟨fun h => ?_, fun h => ?_⟩)
      | (change am_kd _ = (5, _) ∧ _; refine ⟨rfl, ?_⟩)
      | (change vp_in _ 20 ∧ _; refine ⟨hi, ?_⟩)
      | (change vp_in _ 8 ∧ _; refine ⟨by with_reducible first | exact hd1 g | exact hd2 g | exact hd1 (am_le12 g), ?_⟩)
      | refine h12 _ _ _ _ _ _ ?_
      | refine h65 _ _ _ _ _ _ ⟨rfl, ⟨_, rfl⟩, fun g => ?_, fun g => ?_⟩
      | refine h66 _ _ _ _ _ _ ⟨rfl, ⟨_, rfl⟩, fun h9 => ?_, fun h9 => ⟨hd0 h9, ?_⟩⟩
      | refine h67 _ _ _ _ _ _ ⟨rfl, ⟨_, rfl⟩, fun g => ⟨hd1 (am_le12 g), hd2 g, ?_⟩, fun g => ?_⟩
      | refine h68 _ _ _ _ _ _ ⟨fun y hy => ?_, fun hy => ?_⟩
      | refine h70 _ _ _ _ _ _ ⟨rfl, ⟨_, rfl⟩, hin, fun y hy => ?_, fun hy => ?_⟩
      | refine am_iald_of h900 ⟨hrow (by with_reducible assumption), ?_⟩
      | fail
    all_goals try change K _ _ _ _ _
    all_goals try simp only [cs_b_eq0, Bool.not_eq_false] at h
    all_goals
      unfold cm_apply at hK
      repeat (first | rw [if_pos (by with_reducible assumption)] at hK | rw [if_neg (by with_reducible assumption)] at hK | rw [if_neg (am_lit15 (by with_reducible assumption) (by decide))] at hK)
    all_goals first
      | exact hK
      | (simp only [cm_push, if_pos h9, if_neg h9, am_fin] at hK; exact hK)
      | (simp only [cm_push, if_pos h9, am_fin] at hK; obtain ⟨z, rfl, hz⟩ := hK; exact ⟨z, rfl, hz⟩)
      | (simp only [cm_push, if_neg h9, am_fin] at hK; exact hK)
      | (obtain ⟨z, rfl, hz⟩ := hK; exact ⟨z, rfl, hz⟩)
      | (simp only [cm_join, hy, am_fin] at hK; exact hK)
      | (simp only [cm_join, hy, am_fin] at hK; obtain ⟨z, rfl, hz⟩ := hK; exact ⟨z, rfl, hz⟩)
      | (simp only [cm_opw, h, hy, am_fin] at hK; exact hK)
      | (simp only [cm_opw, h, hy, am_fin] at hK; obtain ⟨z, rfl, hz⟩ := hK; exact ⟨z, rfl, hz⟩)
      | (simp only [cm_opw, h, am_fin] at hK; obtain ⟨z, rfl, hz⟩ := hK; exact hz)
      | trace_state
  · exact hT.elim
