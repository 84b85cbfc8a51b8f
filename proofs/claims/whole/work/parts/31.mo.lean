/-! The reference: its machine. -/
def T_mthrown : am_T := fun as I P J n K => match as with
  | [.inr (.inr (some o))] => o = 21 ∧ K (.inl (some (.inl (I 21 35)))) I P J n
  | _ => False
theorem ok_mthrown (sc : am_S) (C : Nat → am_T) : am_ok sc C tb_Mo_thrown T_mthrown := by
  intro as I P J n K hT V hD hV
  unfold T_mthrown at hT
  split at hT
  · rename_i o
    obtain ⟨rfl, hK⟩ := hT
    show V 0 [(0, .inr (.inr (some 21)))] [] I P J n
    repeat' first
      | apply hV
      | (change (_ → V _ _ _ _ _ _ _) ∧ _; refine ⟨fun h => ?_, fun h => ?_⟩)
      | (change am_kd _ = (5, _) ∧ _; refine ⟨rfl, ?_⟩)
      | fail
    exact hK
  · exact hT.elim

def T_mload : am_T := fun as I P J n K => match as with
  | [.inr (.inr (some o)), .inl a, .inl w] => o = 21 ∧ (∃ q, P = am_p0 q) ∧ (cs_adr a = true → K (.inl (some (.inl 1))) (am_ui (am_ui I 21 35 0) 22 a.toNatClampNeg w) P J n) ∧ (cs_adr a = false → K (.inl (some (.inl 0))) (am_ui I 21 35 0) P J n)
  | _ => False
theorem ok_mload (sc : am_S) (C : Nat → am_T) (h16 : am_has C 16 (T_adr cs_adr)) : am_ok sc C tb_Mo_load T_mload := by
  intro as I P J n K hT V hD hV
  unfold T_mload at hT
  split at hT
  · rename_i o a w
    obtain ⟨rfl, ⟨q, rfl⟩, hK1, hK2⟩ := hT
    show V 0 [(0, .inr (.inr (some 21))), (1, .inl a), (2, .inl w)] [] I (am_p0 q) J n
    repeat' first
      | apply hV
      | (change (_ → V _ _ _ _ _ _ _) ∧ _; refine ⟨fun h => ?_, fun h => ?_⟩)
      | (change am_kd _ = (5, _) ∧ _; refine ⟨rfl, ?_⟩)
      | (change vp_in _ 64 ∧ _; refine ⟨cs_adr_in (cs_b1 (by with_reducible assumption)), ?_⟩)
      | refine h16 _ _ _ _ _ _ ?_
      | (change ((0 : Int32) = 0 ∨ _) ∧ _; refine ⟨Or.inl rfl, ?_⟩)
      | (change ((1 : Int32) = 0 ∨ _) ∧ _; refine ⟨Or.inr rfl, ?_⟩)
      | fail
    all_goals first
      | exact hK1 (cs_b1 (by with_reducible assumption))
      | exact hK2 (cs_b0 (by with_reducible assumption))
  · exact hT.elim

def T_manswer : am_T := fun as I P J n K => match as with
  | [.inr (.inr (some o)), .inl s, .inl v] => o = 21 ∧ K (.inl none) (am_ui (am_ui I 21 8 s) 21 9 (if s = 0 then v else 0)) P J n
  | _ => False
theorem ok_manswer (sc : am_S) (C : Nat → am_T) : am_ok sc C tb_Mo_answer T_manswer := by
  intro as I P J n K hT V hD hV
  unfold T_manswer at hT
  split at hT
  · rename_i o s v
    obtain ⟨rfl, hK⟩ := hT
    show V 0 [(0, .inr (.inr (some 21))), (1, .inl s), (2, .inl v)] [] I P J n
    repeat' first
      | apply hV
      | (change (_ → V _ _ _ _ _ _ _) ∧ _; refine ⟨fun h => ?_, fun h => ?_⟩)
      | (change am_kd _ = (5, _) ∧ _; refine ⟨rfl, ?_⟩)
      | fail
    all_goals change K _ _ _ _ _
    all_goals first
      | (rw [if_pos (by with_reducible assumption)] at hK; exact hK)
      | (rw [if_neg (by with_reducible assumption)] at hK; exact hK)
  · exact hT.elim

def mo_go (I : am_I) (nx : Int32) : am_I := am_ui (am_ui I 21 2 nx) 21 3 (am_ui I 21 2 nx 21 3 + 1)
def T_mdone : am_T := fun as I P J n K => match as with
  | [.inr (.inr (some o)), .inl x] => o = 21 ∧ K (.inl (some (.inl 1))) (mo_go I x) P J n
  | _ => False
theorem ok_mdone (sc : am_S) (C : Nat → am_T) : am_ok sc C tb_Mo_done T_mdone := by
  intro as I P J n K hT V hD hV
  unfold T_mdone at hT
  split at hT
  · rename_i o x
    obtain ⟨rfl, hK⟩ := hT
    show V 0 [(0, .inr (.inr (some 21))), (1, .inl x)] [] I P J n
    repeat' first
      | apply hV
      | (change (_ → V _ _ _ _ _ _ _) ∧ _; refine ⟨fun h => ?_, fun h => ?_⟩)
      | (change am_kd _ = (5, _) ∧ _; refine ⟨rfl, ?_⟩)
      | fail
    exact hK
  · exact hT.elim

def T_mset : am_T := fun as I P J n K => match as with
  | [.inr (.inr (some o)), .inl a, .inl v] => o = 21 ∧ (∃ q, P = am_p0 q) ∧ vp_in a 8 ∧ K (.inl (some (.inl 1))) (mo_go (am_ui I 23 a.toNatClampNeg v) (I 21 2 + 1)) P J n
  | _ => False
theorem ok_mset (sc : am_S) (C : Nat → am_T) (h19 : am_has C 19 T_mdone) : am_ok sc C tb_Mo_set T_mset := by
  intro as I P J n K hT V hD hV
  unfold T_mset at hT
  split at hT
  · rename_i o a v
    obtain ⟨rfl, ⟨q, rfl⟩, ha, hK⟩ := hT
    show V 0 [(0, .inr (.inr (some 21))), (1, .inl a), (2, .inl v)] [] I (am_p0 q) J n
    repeat' first
      | apply hV
      | (change (_ → V _ _ _ _ _ _ _) ∧ _; refine ⟨fun h => ?_, fun h => ?_⟩)
      | (change am_kd _ = (5, _) ∧ _; refine ⟨rfl, ?_⟩)
      | (change vp_in _ 8 ∧ _; refine ⟨ha, ?_⟩)
      | refine h19 _ _ _ _ _ _ ⟨rfl, ?_⟩
      | fail
    exact hK
  · exact hT.elim

def mo_mv (op a ad : Int32) (I : am_I) : Int32 × am_I := match cs_adr ad with
  | false => (4, I)
  | true => if op = 7 then (1, mo_go (am_ui I 23 a.toNatClampNeg (I 22 ad.toNatClampNeg)) (I 21 2 + 1)) else (1, mo_go (am_ui I 22 ad.toNatClampNeg (I 23 a.toNatClampNeg)) (I 21 2 + 1))
def T_mmoved : am_T := fun as I P J n K => match as with
  | [.inr (.inr (some o)), .inl op, .inl a, .inl ad] => o = 21 ∧ (∃ q, P = am_p0 q) ∧ vp_in a 8 ∧ K (.inl (some (.inl (mo_mv op a ad I).1))) (mo_mv op a ad I).2 P J n
  | _ => False
theorem ok_mmoved (sc : am_S) (C : Nat → am_T) (h16 : am_has C 16 (T_adr cs_adr)) (h19 : am_has C 19 T_mdone) (h20 : am_has C 20 T_mset) : am_ok sc C tb_Mo_moved T_mmoved := by
  intro as I P J n K hT V hD hV
  unfold T_mmoved at hT
  split at hT
  · rename_i o op a ad
    obtain ⟨rfl, ⟨q, rfl⟩, ha, hK⟩ := hT
    show V 0 [(0, .inr (.inr (some 21))), (1, .inl op), (2, .inl a), (3, .inl ad)] [] I (am_p0 q) J n
    repeat' first
      | apply hV
      | (change (_ → V _ _ _ _ _ _ _) ∧ _; refine ⟨fun h => ?_, fun h => ?_⟩)
      | (change am_kd _ = (5, _) ∧ _; refine ⟨rfl, ?_⟩)
      | (change vp_in _ 8 ∧ _; refine ⟨ha, ?_⟩)
      | (change vp_in _ 64 ∧ _; refine ⟨cs_adr_in (cs_b1 (by with_reducible assumption)), ?_⟩)
      | refine h16 _ _ _ _ _ _ ?_
      | refine h19 _ _ _ _ _ _ ⟨rfl, ?_⟩
      | refine h20 _ _ _ _ _ _ ⟨rfl, ⟨_, rfl⟩, ha, ?_⟩
      | fail
    all_goals change K _ _ _ _ _
    all_goals unfold mo_mv at hK
    all_goals first
      | (simp only [cs_b0 (by with_reducible assumption)] at hK; exact hK)
      | (simp only [cs_b1 (by with_reducible assumption), if_pos h] at hK; exact hK)
      | (simp only [cs_b1 (by with_reducible assumption), if_neg h] at hK; exact hK)
  · exact hT.elim

/-- the first of the places i, i + 1 .. of f, k of them, that holds a -/
def mo_bk (f : Nat → Int32) (a : Int32) : Nat → Nat → Option Nat
  | _, 0 => none
  | i, k + 1 => if f i = a then some i else mo_bk f a (i + 1) k
def mo_ob : Option Nat → Int32
  | some k => nI k
  | none => -1
theorem mo_bk_some {f : Nat → Int32} {a : Int32} {c : Nat} : ∀ {k i : Nat}, mo_bk f a i k = some c → c < i + k ∧ f c = a := by
  intro k
  induction k with
  | zero => intro i h; cases h
  | succ k ih =>
    intro i h
    unfold mo_bk at h
    split at h
    · rename_i e
      cases h
      exact ⟨by omega, e⟩
    · obtain ⟨h1, h2⟩ := ih h
      exact ⟨by omega, h2⟩
theorem mo_bk_none {f : Nat → Int32} {a : Int32} : ∀ {k i : Nat}, mo_bk f a i k = none → ∀ c, i ≤ c → c < i + k → ¬ f c = a := by
  intro k
  induction k with
  | zero => intro i h c h1 h2; omega
  | succ k ih =>
    intro i h c h1 h2
    unfold mo_bk at h
    split at h
    · cases h
    · rename_i e
      by_cases hc : c = i
      · rw [hc]; exact e
      · exact ih h c (by omega) (by omega)
def T_mbreakOf : am_T := fun as I P J n K => match as with
  | [.inr (.inr (some o)), .inl a] => o = 21 ∧ (∃ q, P = am_p0 q) ∧ ∃ m, m ≤ 4 ∧ I 21 4 = nI m ∧ K (.inl (some (.inl (mo_ob (mo_bk (I 24) a 0 m))))) I P J n
  | _ => False
theorem ok_mbreakOf (sc : am_S) (C : Nat → am_T) : am_ok sc C tb_Mo_breakOf T_mbreakOf := by
  intro as I P J n K hT V hD hV
  unfold T_mbreakOf at hT
  split at hT
  · rename_i o a
    obtain ⟨rfl, ⟨q, rfl⟩, m, hm, em, hK⟩ := hT
    show V 0 [(0, .inr (.inr (some 21))), (1, .inl a)] [] I (am_p0 q) J n
    have loop : ∀ (k i : Nat), i + k = m → K (.inl (some (.inl (mo_ob (mo_bk (I 24) a i k))))) I (am_p0 q) J n → V 2 [(0, .inr (.inr (some 21))), (1, .inl a), (2, .inl (nI i))] [] I (am_p0 q) J n := by
      intro k
      induction k with
      | zero =>
        intro i hi hK
        apply hV; apply hV; apply hV
        refine ⟨rfl, ?_⟩
        apply hV
        refine ⟨fun h => ?_, fun h => absurd (by rw [em]; exact nI_le (by omega) (by omega)) h⟩
        apply hV; apply hV
        exact hK
      | succ k ih =>
        intro i hi hK
        have e2 : (nI i).toNatClampNeg = i := nI_clamp (by omega)
        apply hV; apply hV; apply hV
        refine ⟨rfl, ?_⟩
        apply hV
        refine ⟨fun h => absurd h (by rw [em]; exact nI_ge (by omega) (by omega)), fun h => ?_⟩
        apply hV; apply hV
        refine ⟨rfl, ?_⟩
        apply hV; apply hV
        refine ⟨show vp_in (nI i) 4 from nI_in (by omega) (by omega), ?_⟩
        rw [e2]
        apply hV; apply hV
        refine ⟨fun c => ?_, fun c => ?_⟩
        · have c' : I 24 i = a := c
          simp only [mo_bk, if_pos c'] at hK
          apply hV; apply hV
          exact hK
        · have c' : ¬ I 24 i = a := c
          simp only [mo_bk, if_neg c'] at hK
          apply hV; apply hV
          show V 2 [(0, .inr (.inr (some 21))), (1, .inl a), (2, .inl (nI i + 1))] [] I (am_p0 q) J n
          rw [← nI_succ]
          exact ih (i + 1) (by omega) hK
    apply hV; apply hV
    exact loop m 0 (by omega) hK
  · exact hT.elim
/-- one instruction w of the reference's machine -/
def mo_ex (w : Int32) (I : am_I) : Int32 × am_I :=
  if w &&& 15 = 0 then (3, I)
  else if w &&& 15 = 1 then (1, mo_go (am_ui I 23 (am_shr w 4 &&& 7).toNatClampNeg (am_shr w 16)) (I 21 2 + 1))
  else if w &&& 15 = 2 then (1, mo_go (am_ui I 23 (am_shr w 4 &&& 7).toNatClampNeg (I 23 (am_shr w 7 &&& 7).toNatClampNeg + am_shr w 16)) (I 21 2 + 1))
  else if w &&& 15 = 3 then (1, mo_go (am_ui I 23 (am_shr w 4 &&& 7).toNatClampNeg (I 23 (am_shr w 7 &&& 7).toNatClampNeg + I 23 (am_shr w 10 &&& 7).toNatClampNeg)) (I 21 2 + 1))
  else if w &&& 15 = 4 then (1, mo_go (am_ui I 23 (am_shr w 4 &&& 7).toNatClampNeg (I 23 (am_shr w 7 &&& 7).toNatClampNeg - I 23 (am_shr w 10 &&& 7).toNatClampNeg)) (I 21 2 + 1))
  else if w &&& 15 = 5 then (1, mo_go (am_ui I 23 (am_shr w 4 &&& 7).toNatClampNeg (I 23 (am_shr w 7 &&& 7).toNatClampNeg * I 23 (am_shr w 10 &&& 7).toNatClampNeg)) (I 21 2 + 1))
  else if w &&& 15 = 6 then if I 23 (am_shr w 10 &&& 7).toNatClampNeg = 0 then (4, I) else (1, mo_go (am_ui I 23 (am_shr w 4 &&& 7).toNatClampNeg (I 23 (am_shr w 7 &&& 7).toNatClampNeg / I 23 (am_shr w 10 &&& 7).toNatClampNeg)) (I 21 2 + 1))
  else if w &&& 15 = 7 then mo_mv (w &&& 15) (am_shr w 4 &&& 7) (I 23 (am_shr w 7 &&& 7).toNatClampNeg + am_shr w 16) I
  else if w &&& 15 = 8 then mo_mv (w &&& 15) (am_shr w 4 &&& 7) (I 23 (am_shr w 7 &&& 7).toNatClampNeg + am_shr w 16) I
  else if w &&& 15 = 9 then (1, mo_go I (am_shr w 16))
  else if w &&& 15 = 10 then (1, mo_go I (if I 23 (am_shr w 4 &&& 7).toNatClampNeg = 0 then am_shr w 16 else I 21 2 + 1))
  else if w &&& 15 = 11 then (1, mo_go (am_ui I 23 7 (I 21 2 + 1)) (am_shr w 16))
  else if w &&& 15 = 12 then (1, mo_go I (I 23 (am_shr w 4 &&& 7).toNatClampNeg))
  else if w &&& 15 = 13 then (1, mo_go I (if 0 ≤ I 23 (am_shr w 4 &&& 7).toNatClampNeg then I 21 2 + 1 else am_shr w 16))
  else if w &&& 15 = 14 then (4, I)
  else if w &&& 15 = 15 then (2, I)
  else (4, I)
/-- the word of a step; u: the first step of a run, which looks under a breakpoint -/
def mo_w (u : Int32) (m : Nat) (I : am_I) : Int32 := if u = 0 then I 22 (I 21 2).toNatClampNeg else match mo_bk (I 24) (I 21 2) 0 m with
  | some k => I 25 k
  | none => I 22 (I 21 2).toNatClampNeg
def mo_st (u : Int32) (m : Nat) (I : am_I) : Int32 × am_I := match cs_adr (I 21 2) with
  | true => mo_ex (mo_w u m I) I
  | false => (4, I)
def T_mstep : am_T := fun as I P J n K => match as with
  | [.inr (.inr (some o)), .inl u] => o = 21 ∧ (∃ q, P = am_p0 q) ∧ ∃ m, m ≤ 4 ∧ I 21 4 = nI m ∧ K (.inl (some (.inl (mo_st u m I).1))) (mo_st u m I).2 P J n
  | _ => False
theorem ok_mstep (sc : am_S) (C : Nat → am_T) (h16 : am_has C 16 (T_adr cs_adr)) (h18 : am_has C 18 T_mbreakOf) (h19 : am_has C 19 T_mdone) (h20 : am_has C 20 T_mset) (h21 : am_has C 21 T_mmoved) : am_ok sc C tb_Mo_step T_mstep := by
  intro as I P J n K hT V hD hV
  unfold T_mstep at hT
  split at hT
  · rename_i o u
    obtain ⟨rfl, ⟨q, rfl⟩, m, hm, em, hK⟩ := hT
    show V 0 [(0, .inr (.inr (some 21))), (1, .inl u)] [] I (am_p0 q) J n
    have go : ∀ (w z : Int32), K (.inl (some (.inl (mo_ex w I).1))) (mo_ex w I).2 (am_p0 q) J n → V 47 [(0, .inr (.inr (some 21))), (1, .inl u), (2, .inl z)] [.inl w] I (am_p0 q) J n := by
      clear hK
      intro w z hK
      repeat' first
        | apply hV
        | (change (_ → V _ _ _ _ _ _ _) ∧ _; refine ⟨fun h => ?_, fun h => ?_⟩)
        | (change am_kd _ = (5, _) ∧ _; refine ⟨rfl, ?_⟩)
        | (change vp_in _ 8 ∧ _; refine ⟨by with_reducible first | exact pb_7 _ | exact pb_78, ?_⟩)
        | refine h16 _ _ _ _ _ _ ?_
        | refine h19 _ _ _ _ _ _ ⟨rfl, ?_⟩
        | refine h20 _ _ _ _ _ _ ⟨rfl, ⟨_, rfl⟩, pb_7 _, ?_⟩
        | refine h21 _ _ _ _ _ _ ⟨rfl, ⟨_, rfl⟩, pb_7 _, ?_⟩
        | (change (¬ _ = (0 : Int32)) ∧ _; refine ⟨by with_reducible assumption, ?_⟩)
        | fail
      all_goals change K _ _ _ _ _
      all_goals
        unfold mo_ex at hK
        repeat (first | rw [if_pos (by with_reducible assumption)] at hK | rw [if_neg (by with_reducible assumption)] at hK | rw [if_neg (am_lit15 (by with_reducible assumption) (by decide))] at hK)
      all_goals exact hK
    apply hV; apply hV
    refine ⟨rfl, ?_⟩
    apply hV
    refine h16 _ _ _ _ _ _ ?_
    apply hV
    refine ⟨fun h => ?_, fun h => ?_⟩
    · have h' := cs_b0 h
      apply hV; apply hV
      simp only [mo_st, h'] at hK
      exact hK
    · have h' := cs_b1 h
      simp only [mo_st, h'] at hK
      apply hV; apply hV; apply hV
      refine ⟨rfl, ?_⟩
      apply hV
      refine ⟨rfl, ?_⟩
      refine h18 _ _ _ _ _ _ ⟨rfl, ⟨_, rfl⟩, m, hm, em, ?_⟩
      have plain : ∀ z, mo_w u m I = I 22 (I 21 2).toNatClampNeg → V 38 [(0, .inr (.inr (some 21))), (1, .inl u), (2, .inl z)] [] I (am_p0 q) J n := by
        intro z e
        rw [e] at hK
        apply hV; apply hV
        refine ⟨rfl, ?_⟩
        apply hV; apply hV
        refine ⟨rfl, ?_⟩
        apply hV
        refine ⟨show vp_in (I 21 2) 64 from cs_adr_in h', ?_⟩
        exact go _ _ hK
      apply hV; apply hV; apply hV
      refine ⟨fun hu => plain _ (by unfold mo_w; rw [if_pos hu]), fun hu => ?_⟩
      unfold mo_w at plain hK
      rw [if_neg hu] at plain hK
      cases eb : mo_bk (I 24) (I 21 2) 0 m with
      | none =>
        simp only [eb] at plain
        apply hV; apply hV
        refine ⟨fun h => plain _ trivial, fun h => absurd (by decide) h⟩
      | some k =>
        simp only [eb] at hK
        obtain ⟨hk, -⟩ := mo_bk_some eb
        have e2 : (mo_ob (some k)).toNatClampNeg = k := nI_clamp (by omega)
        apply hV; apply hV
        refine ⟨fun h => absurd h (nI_pos (by omega)), fun h => ?_⟩
        apply hV; apply hV
        refine ⟨rfl, ?_⟩
        apply hV; apply hV
        refine ⟨show vp_in (nI k) 4 from nI_in (by omega) (by omega), ?_⟩
        rw [e2]
        apply hV
        exact go _ _ hK
  · exact hT.elim
