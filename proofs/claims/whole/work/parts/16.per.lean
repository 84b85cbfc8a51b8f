/-! What the stub does for a request. -/
/-- a request: its value, the memory behind it (status 1 where it is refused) -/
def cm_perf (kind a v : Int32) (I : am_I) : Int32 × am_I :=
  if kind = 0 then match cs_reg a with
    | true => (I 3 a.toNatClampNeg, I)
    | false => (0, am_ui I 4 6 1)
  else if kind = 1 then match cs_reg a with
    | true => (0, am_ui I 3 a.toNatClampNeg v)
    | false => (0, am_ui I 4 6 1)
  else if kind = 2 then match cs_adr a with
    | true => (ps_rd (I 2) (I 6) (I 7) a, I)
    | false => (0, am_ui I 4 6 1)
  else if kind = 3 then match cs_adr a with
    | true => if I 6 a.toNatClampNeg = 0 then (0, am_ui I 2 a.toNatClampNeg v) else (0, am_ui I 7 a.toNatClampNeg v)
    | false => (0, am_ui I 4 6 1)
  else if kind = 4 then match ps_may (I 6) (I 4 1) a with
    | true => (0, am_ui (am_ui (am_ui (am_ui I 6 a.toNatClampNeg 1) 7 a.toNatClampNeg (I 2 a.toNatClampNeg)) 2 a.toNatClampNeg 15) 4 1 (I 4 1 + 1))
    | false => (0, am_ui I 4 6 1)
  else if kind = 5 then match ps_has (I 6) a with
    | true => (0, am_ui (am_ui (am_ui I 6 a.toNatClampNeg 0) 2 a.toNatClampNeg (I 7 a.toNatClampNeg)) 4 1 (I 4 1 - 1))
    | false => (0, am_ui I 4 6 1)
  else if kind = 6 then cm_ex (ps_first (I 2) (I 6) (I 7) (I 1 2)) I
  else if kind = 7 then match ps_ok v with
    | true => cm_run v.toNatClampNeg (ps_first (I 2) (I 6) (I 7) (I 1 2)) I
    | false => (0, am_ui I 4 6 1)
  else if kind = 8 then (I 1 2, I)
  else if kind = 9 then (0, am_ui I 1 2 v)
  else (0, am_ui I 4 6 1)
def T_perform : am_T := fun as I P J n K => match as with
  | [.inr (.inr (some o)), .inl kind, .inl a, .inl v] => o = 4 ∧ (∃ q, P = am_p0 q) ∧ K (.inl (some (.inl (cm_perf kind a v I).1))) (cm_perf kind a v I).2 P J n
  | _ => False
theorem ok_perform (sc : am_S) (C : Nat → am_T) (h13 : am_has C 13 (T_adr cs_reg)) (h76 : am_has C 76 T_execute) (h82 : am_has C 82 T_refuse) (h84 : am_has C 84 T_writeRegister) (h85 : am_has C 85 T_readWord) (h86 : am_has C 86 T_writeWord) (h87 : am_has C 87 T_putBreakpoint) (h88 : am_has C 88 T_takeBreakpoint) (h89 : am_has C 89 T_first) (h90 : am_has C 90 T_run) : am_ok sc C tb_St_perform T_perform := by
  intro as I P J n K hT V hD hV
  unfold T_perform at hT
  split at hT
  · rename_i o kind a v
    obtain ⟨rfl, ⟨q, rfl⟩, hK⟩ := hT
    show V 0 [(0, .inr (.inr (some 4))), (1, .inl kind), (2, .inl a), (3, .inl v)] [] I (am_p0 q) J n
    repeat' first
      | apply hV
      | (change (_ → V _ _ _ _ _ _ _) ∧ _; refine ⟨fun h => ?_, fun h => ?_⟩)
      | (change am_kd _ = (5, _) ∧ _; refine ⟨rfl, ?_⟩)
      | (change vp_in _ 8 ∧ _; refine ⟨cs_reg_in (cs_b1 (by with_reducible assumption)), ?_⟩)
      | refine h13 _ _ _ _ _ _ ?_
      | refine h76 _ _ _ _ _ _ ⟨rfl, ⟨_, rfl⟩, ?_⟩
      | refine h82 _ _ _ _ _ _ ⟨rfl, ?_⟩
      | refine h84 _ _ _ _ _ _ ⟨rfl, ⟨_, rfl⟩, fun h => ?_, fun h => ?_⟩
      | refine h85 _ _ _ _ _ _ ⟨rfl, ⟨_, rfl⟩, fun h => ?_, fun h => ?_⟩
      | refine h86 _ _ _ _ _ _ ⟨rfl, ⟨_, rfl⟩, fun h h9 => ?_, fun h h9 => ?_, fun h => ?_⟩
      | refine h87 _ _ _ _ _ _ ⟨rfl, ⟨_, rfl⟩, fun h => ?_, fun h => ?_⟩
      | refine h88 _ _ _ _ _ _ ⟨rfl, ⟨_, rfl⟩, fun h => ?_, fun h => ?_⟩
      | refine h89 _ _ _ _ _ _ ⟨rfl, ⟨_, rfl⟩, ?_⟩
      | refine h90 _ _ _ _ _ _ ⟨rfl, ⟨_, rfl⟩, fun h => ?_, fun h => ?_⟩
      | fail
    all_goals change K _ _ _ _ _
    all_goals try simp only [cs_b_eq0, Bool.not_eq_false] at h
    all_goals
      unfold cm_perf at hK
      repeat (first | rw [if_pos (by with_reducible assumption)] at hK | rw [if_neg (by with_reducible assumption)] at hK | rw [if_neg (am_lit15 (by with_reducible assumption) (by decide))] at hK)
    all_goals first
      | exact hK
      | (simp only [h] at hK; exact hK)
      | (simp only [h, if_pos h9] at hK; exact hK)
      | (simp only [h, if_neg h9] at hK; exact hK)
  · exact hT.elim
/-- row o becomes f -/
def cm_row (I : am_I) (o : Nat) (f : Nat → Int32) : am_I := fun k => match Nat.beq k o with
  | true => f
  | false => I k
theorem cm_row_of {I I' : am_I} {o : Nat} {f : Nat → Int32} (h : cs_row I I' o f) : I' = cm_row I o f := by
  funext k
  unfold cm_row
  cases hb : Nat.beq k o with
  | true => rw [Nat.eq_of_beq_eq_true hb]; exact h.1
  | false => exact h.2 k fun e => by rw [e, Nat.beq_refl] at hb; cases hb
/-- the answer's row: number, status, value, sum -/
def cm_ans (I : am_I) (v : Int32) : am_I :=
  let f := pm_put (upd (upd (I 5) 0 (I 4 5)) 1 (I 4 6)) 2 v
  cm_row I 5 (upd f 6 (pm_sum6 f))
/-- a frame that the stub receives -/
def cm_rec (I : am_I) : am_I :=
  if I 11 0 = I 4 5 then I else
    let r := cm_perf (I 11 1) (I 11 2) (pm_word (I 11) 3) (am_ui (am_ui I 4 5 (I 11 0)) 4 6 0)
    cm_ans r.2 r.1
def T_receive : am_T := fun as I P J n K => match as with
  | [.inr (.inr (some o)), .inr (.inr (some f))] => o = 4 ∧ f = 11 ∧ (∃ q, P = am_p0 q) ∧ K (.inl none) (cm_rec I) P J n
  | _ => False
theorem ok_receive (sc : am_S) (C : Nat → am_T) (h58 : am_has C 58 T_word) (h59 : am_has C 59 T_putWord) (h61 : am_has C 61 T_putSum) (h81 : am_has C 81 T_perform) : am_ok sc C tb_St_receive T_receive := by
  intro as I P J n K hT V hD hV
  unfold T_receive at hT
  split at hT
  · rename_i o f
    obtain ⟨rfl, rfl, ⟨q, rfl⟩, hK⟩ := hT
    show V 0 [(0, .inr (.inr (some 4))), (1, .inr (.inr (some 11)))] [] I (am_p0 q) J n
    repeat' first
      | apply hV
      | (change (_ → V _ _ _ _ _ _ _) ∧ _; refine ⟨fun h => ?_, fun h => ?_⟩)
      | (change am_kd _ = (5, _) ∧ _; refine ⟨rfl, ?_⟩)
      | (change vp_in _ 8 ∧ _; refine ⟨by unfold vp_in; decide, ?_⟩)
      | (change vp_in _ 7 ∧ _; refine ⟨by unfold vp_in; decide, ?_⟩)
      | refine h58 _ _ _ _ _ _ ⟨rfl, Or.inr ⟨rfl, ?_⟩⟩
      | refine h81 _ _ _ _ _ _ ⟨rfl, ⟨_, rfl⟩, ?_⟩
      | refine h59 _ _ _ _ _ _ (Or.inl ⟨rfl, rfl, fun I2 h2 => ?_⟩)
      | refine h61 _ _ _ _ _ _ (Or.inr ⟨rfl, rfl, fun I3 h3 => ?_⟩)
      | fail
    · change K _ _ _ _ _
      have h' : I 11 0 = I 4 5 := h
      rw [cm_rec, if_pos h'] at hK
      exact hK
    · change K _ _ _ _ _
      have h' : ¬ I 11 0 = I 4 5 := h
      rw [cm_rec, if_neg h'] at hK
      have e : I3 = cm_ans (cm_perf (I 11 1) (I 11 2) (pm_word (I 11) 3) (am_ui (am_ui I 4 5 (I 11 0)) 4 6 0)).2 (cm_perf (I 11 1) (I 11 2) (pm_word (I 11) 3) (am_ui (am_ui I 4 5 (I 11 0)) 4 6 0)).1 := by
        refine cm_row_of ⟨?_, fun k hk => ?_⟩
        · rw [h3.1, h2.1]
          rfl
        · rw [h3.2 k hk, h2.2 k hk, am_ui_ne _ _ _ hk, am_ui_ne _ _ _ hk]
          rfl
      rw [e]
      exact hK
  · exact hT.elim
