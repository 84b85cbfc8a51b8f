/-! The reference: frames (put, sum, read, arrives). -/
theorem ush_and {s : Nat} (hs : s ≤ 24) (v : Int32) : (v.toUInt32 >>> UInt32.ofNat s).toInt32 &&& 255 = (v >>> nI s) &&& 255 := by
  apply Int32.toBitVec_inj.1
  apply BitVec.eq_of_getLsbD_eq
  intro i hi
  have h1 : ((v.toUInt32 >>> UInt32.ofNat s).toInt32 &&& 255).toBitVec = (v.toBitVec >>> s) &&& 255#32 := by
    show (v.toUInt32 >>> UInt32.ofNat s).toBitVec &&& 255#32 = _
    rw [UInt32.toBitVec_shiftRight]
    have : ((UInt32.ofNat s).toBitVec % 32 : BitVec 32) = BitVec.ofNat 32 s := by
      apply BitVec.eq_of_toNat_eq
      show (s % 2 ^ 32) % 32 = s % 2 ^ 32
      omega
    show (v.toBitVec >>> ((UInt32.ofNat s).toBitVec % 32)) &&& 255#32 = _
    rw [this]
    show (v.toBitVec >>> (BitVec.ofNat 32 s).toNat) &&& 255#32 = _
    rw [BitVec.toNat_ofNat, Nat.mod_eq_of_lt (by omega)]
  have h2 : ((v >>> nI s) &&& 255).toBitVec = (v.toBitVec.sshiftRight s) &&& 255#32 := by
    show (v >>> nI s).toBitVec &&& 255#32 = _
    rw [Int32.toBitVec_shiftRight]
    have : ((nI s).toBitVec.smod 32 : BitVec 32) = BitVec.ofNat 32 s := by
      have key : ∀ s, s < 32 → (nI s).toBitVec.smod 32 = BitVec.ofNat 32 s := by decide +kernel
      exact key s (by omega)
    rw [this]
    show v.toBitVec.sshiftRight (BitVec.ofNat 32 s).toNat &&& 255#32 = _
    rw [BitVec.toNat_ofNat, Nat.mod_eq_of_lt (by omega)]
  rw [h1, h2, BitVec.getLsbD_and, BitVec.getLsbD_and, BitVec.getLsbD_ushiftRight, BitVec.getLsbD_sshiftRight]
  by_cases h8 : i < 8
  · have h9 : s + i < 32 := by omega
    have h10 : ¬ 32 ≤ i := by omega
    simp [h9, h10]
  · have : (255#32).getLsbD i = false := by
      have : ∀ i, i < 32 → ¬ i < 8 → (255#32).getLsbD i = false := by decide +kernel
      exact this i hi h8
    rw [this]
    simp
theorem us0 (v : Int32) : am_ushr v 0 &&& 255 = am_shr v 0 &&& 255 := ush_and (s := 0) (by omega) v
theorem us8 (v : Int32) : am_ushr v 8 &&& 255 = am_shr v 8 &&& 255 := ush_and (s := 8) (by omega) v
theorem us16 (v : Int32) : am_ushr v 16 &&& 255 = am_shr v 16 &&& 255 := ush_and (s := 16) (by omega) v
theorem us24 (v : Int32) : am_ushr v 24 &&& 255 = am_shr v 24 &&& 255 := ush_and (s := 24) (by omega) v
theorem put_us (f : Nat → Int32) (k : Nat) (v : Int32) : upd (upd (upd (upd f k (am_ushr v 0 &&& 255)) (k + 1) (am_ushr v 8 &&& 255)) (k + 2) (am_ushr v 16 &&& 255)) (k + 3) (am_ushr v 24 &&& 255) = pm_put f k v := by
  rw [us0, us8, us16, us24]
  rfl
def T_mput : am_T := fun as I P J n K => match as with
  | [.inr (.inr (some o)), .inl a, .inl v] => o = 21 ∧ (∃ q, P = am_p0 q) ∧ ((a = 2 ∧ ∀ I', cs_row I I' 27 (pm_put (I 27) 2 v) → K (.inl none) I' P J n) ∨ (a = 3 ∧ ∀ I', cs_row I I' 27 (pm_put (I 27) 3 v) → K (.inl none) I' P J n))
  | _ => False
theorem ok_mput (sc : am_S) (C : Nat → am_T) : am_ok sc C tb_Mo_put T_mput := by
  intro as I P J n K hT V hD hV
  unfold T_mput at hT
  split at hT
  · rename_i o a v
    obtain ⟨rfl, ⟨q, rfl⟩, ⟨rfl, hK⟩ | ⟨rfl, hK⟩⟩ := hT
    · show V 0 [(0, .inr (.inr (some 21))), (1, .inl 2), (2, .inl v)] [] I (am_p0 q) J n
      repeat' first
        | exact absurd h (by decide)
        | apply hV
        | (change (_ → V _ _ _ _ _ _ _) ∧ _; refine ⟨fun h => ?_, fun h => ?_⟩)
        | (change am_kd _ = (5, _) ∧ _; refine ⟨rfl, ?_⟩)
        | (change vp_in _ 8 ∧ _; refine ⟨by unfold vp_in; decide, ?_⟩)
        | fail
      exact hK _ ⟨put_us (I 27) 2 v, fun k hk => by simp only [am_ui_ne _ _ _ hk]⟩
    · show V 0 [(0, .inr (.inr (some 21))), (1, .inl 3), (2, .inl v)] [] I (am_p0 q) J n
      repeat' first
        | exact absurd h (by decide)
        | apply hV
        | (change (_ → V _ _ _ _ _ _ _) ∧ _; refine ⟨fun h => ?_, fun h => ?_⟩)
        | (change am_kd _ = (5, _) ∧ _; refine ⟨rfl, ?_⟩)
        | (change vp_in _ 8 ∧ _; refine ⟨by unfold vp_in; decide, ?_⟩)
        | fail
      exact hK _ ⟨put_us (I 27) 3 v, fun k hk => by simp only [am_ui_ne _ _ _ hk]⟩
  · exact hT.elim
def T_msum : am_T := fun as I P J n K => match as with
  | [.inr (.inr (some o)), .inl a] => o = 21 ∧ (∃ q, P = am_p0 q) ∧ ((a = 7 ∧ K (.inl (some (.inl (pm_sum7 (I 27))))) I P J n) ∨ (a = 6 ∧ K (.inl (some (.inl (pm_sum6 (I 27))))) I P J n))
  | _ => False
theorem ok_msum (sc : am_S) (C : Nat → am_T) : am_ok sc C tb_Mo_sum T_msum := by
  intro as I P J n K hT V hD hV
  unfold T_msum at hT
  split at hT
  · rename_i o a
    obtain ⟨rfl, ⟨q, rfl⟩, ⟨rfl, hK⟩ | ⟨rfl, hK⟩⟩ := hT
    · show V 0 [(0, .inr (.inr (some 21))), (1, .inl 7)] [] I (am_p0 q) J n
      repeat' first
        | exact absurd h (by decide)
        | apply hV
        | (change (_ → V _ _ _ _ _ _ _) ∧ _; refine ⟨fun h => ?_, fun h => ?_⟩)
        | (change am_kd _ = (5, _) ∧ _; refine ⟨rfl, ?_⟩)
        | (change vp_in _ 8 ∧ _; refine ⟨by unfold vp_in; decide, ?_⟩)
        | fail
      exact hK
    · show V 0 [(0, .inr (.inr (some 21))), (1, .inl 6)] [] I (am_p0 q) J n
      repeat' first
        | exact absurd h (by decide)
        | apply hV
        | (change (_ → V _ _ _ _ _ _ _) ∧ _; refine ⟨fun h => ?_, fun h => ?_⟩)
        | (change am_kd _ = (5, _) ∧ _; refine ⟨rfl, ?_⟩)
        | (change vp_in _ 8 ∧ _; refine ⟨by unfold vp_in; decide, ?_⟩)
        | fail
      exact hK
  · exact hT.elim
def T_mread : am_T := fun as I P J n K => match as with
  | [.inr (.inr (some o)), .inl a] => o = 21 ∧ (∃ q, P = am_p0 q) ∧ ((a = 2 ∧ K (.inl (some (.inl (pm_word (I 27) 2)))) I P J n) ∨ (a = 3 ∧ K (.inl (some (.inl (pm_word (I 27) 3)))) I P J n))
  | _ => False
theorem ok_mread (sc : am_S) (C : Nat → am_T) : am_ok sc C tb_Mo_read T_mread := by
  intro as I P J n K hT V hD hV
  unfold T_mread at hT
  split at hT
  · rename_i o a
    obtain ⟨rfl, ⟨q, rfl⟩, ⟨rfl, hK⟩ | ⟨rfl, hK⟩⟩ := hT
    all_goals
      apply hV; apply hV
      refine ⟨rfl, ?_⟩
      repeat' first
        | apply hV
        | (change am_kd _ = (5, _) ∧ _; refine ⟨rfl, ?_⟩)
        | (change vp_in _ 8 ∧ _; refine ⟨by unfold vp_in; decide, ?_⟩)
        | fail
      exact hK
  · exact hT.elim
/-- the fault at hand, of w that wait -/
def mo_flt (w : Nat) (I : am_I) : Int32 := match w with
  | 0 => 0
  | _ + 1 => I 26 0
def mo_tk (w : Nat) (I : am_I) : am_I := match w with
  | 0 => I
  | e + 1 => cm_row (am_ui I 21 10 (nI e)) 26 (mo_sh 0 e (I 26))
/-- the frame's row with one bit turned, where f says so -/
def mo_sp (d f : Int32) (r : Nat → Int32) : Nat → Int32 := if f ≤ 1 then r else upd r (am_rem (f - 2) d / 8).toNatClampNeg (r (am_rem (f - 2) d / 8).toNatClampNeg ^^^ am_shl 1 (am_rem (am_rem (f - 2) d) 8))
def mo_in (p : Prop) [Decidable p] (X : am_I) : Int32 × am_I := if p then (1, am_ui X 21 18 (X 21 18)) else (0, am_ui X 21 18 (X 21 18 + 1))
def mo_ar8 (w : Nat) (I : am_I) : Int32 × am_I :=
  if mo_flt w I = 1 then (0, mo_tk w I)
  else mo_in (mo_sp 64 (mo_flt w I) (mo_tk w I 27) 7 = pm_sum7 (mo_sp 64 (mo_flt w I) (mo_tk w I 27))) (cm_row (mo_tk w I) 27 (mo_sp 64 (mo_flt w I) (mo_tk w I 27)))
def mo_ar7 (w : Nat) (I : am_I) : Int32 × am_I :=
  if mo_flt w I = 1 then (0, mo_tk w I)
  else mo_in (mo_sp 56 (mo_flt w I) (mo_tk w I 27) 6 = pm_sum6 (mo_sp 56 (mo_flt w I) (mo_tk w I 27))) (cm_row (mo_tk w I) 27 (mo_sp 56 (mo_flt w I) (mo_tk w I 27)))
def T_marrives : am_T := fun as I P J n K => match as with
  | [.inr (.inr (some o)), .inl a] => o = 21 ∧ (∃ q, P = am_p0 q) ∧ ∃ w, w ≤ 40 ∧ I 21 10 = nI w ∧ ((a = 8 ∧ K (.inl (some (.inl (mo_ar8 w I).1))) (mo_ar8 w I).2 P J n) ∨ (a = 7 ∧ K (.inl (some (.inl (mo_ar7 w I).1))) (mo_ar7 w I).2 P J n))
  | _ => False
theorem cm_row_ui {X : am_I} {o k : Nat} {x : Int32} : am_ui X o k x = cm_row X o (upd (X o) k x) := cm_row_of ⟨am_ui_eq _ _ _ _, fun j hj => am_ui_ne _ _ _ hj⟩
theorem cm_row_same (X : am_I) (o : Nat) : cm_row X o (X o) = X := (cm_row_of (I := X) (I' := X) ⟨rfl, fun _ _ => rfl⟩).symm
theorem lt2_le1 (f : Int32) : f < 2 ↔ f ≤ 1 := by
  rw [Int32.lt_iff_toInt_lt, Int32.le_iff_toInt_le]
  have h1 : (2 : Int32).toInt = 2 := by decide
  have h2 : (1 : Int32).toInt = 1 := by decide
  omega
/-- from where the fault is known -/
theorem ok_marr_tail {sc : am_S} {C : Nat → am_T} (h30 : am_has C 30 T_msum) {q n : Nat} {J : am_J} {K : am_K} {V : am_W} (hD : am_drop V) (hV : am_closed sc C tb_Mo_arrives V K) (X : am_I) (f : Int32) (ex : List (Nat × am_V)) :
    (f = 1 → K (.inl (some (.inl 0))) X (am_p0 q) J n) →
    (¬ f = 1 → K (.inl (some (.inl (mo_in (mo_sp 64 f (X 27) 7 = pm_sum7 (mo_sp 64 f (X 27))) (cm_row X 27 (mo_sp 64 f (X 27)))).1))) (mo_in (mo_sp 64 f (X 27) 7 = pm_sum7 (mo_sp 64 f (X 27))) (cm_row X 27 (mo_sp 64 f (X 27)))).2 (am_p0 q) J n) →
    V 56 ((0, .inr (.inr (some 21))) :: (1, .inl 8) :: (2, .inl f) :: ex) [] X (am_p0 q) J n := by
  intro hK1 hK2
  apply hD 3
  show V 56 [(0, .inr (.inr (some 21))), (1, .inl 8), (2, .inl f)] [] X (am_p0 q) J n
  apply hV; apply hV; apply hV
  refine ⟨fun h => ?_, fun h => ?_⟩
  · apply hV; apply hV
    exact ⟨Or.inl rfl, hK1 h⟩
  have hK := hK2 h
  have tail : ∀ (r : Nat → Int32) (Y : am_I) (e : List (Nat × am_V)), Y = cm_row X 27 r → K (.inl (some (.inl (mo_in (r 7 = pm_sum7 r) (cm_row X 27 r)).1))) (mo_in (r 7 = pm_sum7 r) (cm_row X 27 r)).2 (am_p0 q) J n → V 95 ((0, .inr (.inr (some 21))) :: (1, .inl 8) :: (2, .inl f) :: e) [] Y (am_p0 q) J n := by
    intro r Y e eY hK
    have e27 : Y 27 = r := by rw [eY]; exact cm_row_eq _ _ _
    rw [← eY, ← e27] at hK
    unfold mo_in at hK
    apply hD 3
    show V 95 [(0, .inr (.inr (some 21))), (1, .inl 8), (2, .inl f)] [] Y (am_p0 q) J n
    apply hV; apply hV
    refine ⟨rfl, ?_⟩
    apply hV; apply hV; apply hV; apply hV
    refine ⟨by unfold vp_in; decide, ?_⟩
    apply hV; apply hV; apply hV; apply hV; apply hV
    refine ⟨rfl, ?_⟩
    refine h30 _ _ _ _ _ _ ⟨rfl, ⟨_, rfl⟩, Or.inl ⟨by decide, ?_⟩⟩
    apply hV
    refine ⟨fun g => ?_, fun g => ?_⟩
    · have g' : Y 27 7 = pm_sum7 (Y 27) := g
      rw [if_pos g'] at hK
      apply hV; apply hV; apply hV; apply hV; apply hV; apply hV
      refine ⟨fun g2 => absurd g2 (by decide), fun g2 => ?_⟩
      apply hV; apply hV
      refine ⟨rfl, ?_⟩
      apply hV; apply hV
      refine ⟨rfl, ?_⟩
      apply hV; apply hV
      exact ⟨Or.inr rfl, hK⟩
    · have g' : ¬ Y 27 7 = pm_sum7 (Y 27) := g
      rw [if_neg g'] at hK
      apply hV; apply hV; apply hV; apply hV; apply hV
      refine ⟨fun g2 => ?_, fun g2 => absurd rfl g2⟩
      apply hV; apply hV
      refine ⟨rfl, ?_⟩
      apply hV; apply hV; apply hV
      refine ⟨rfl, ?_⟩
      apply hV; apply hV
      exact ⟨Or.inl rfl, hK⟩
  apply hV; apply hV; apply hV
  refine ⟨fun g => ?_, fun g => ?_⟩
  · have e : mo_sp 64 f (X 27) = X 27 := by unfold mo_sp; rw [if_pos g]
    rw [e] at hK
    exact tail (X 27) X [] (cm_row_same X 27).symm hK
  · have g2 : ¬ f < 2 := fun g3 => g ((lt2_le1 f).1 g3)
    have e : mo_sp 64 f (X 27) = upd (X 27) (am_rem (f - 2) 64 / 8).toNatClampNeg (X 27 (am_rem (f - 2) 64 / 8).toNatClampNeg ^^^ am_shl 1 (am_rem (am_rem (f - 2) 64) 8)) := by unfold mo_sp; rw [if_neg g]
    rw [e] at hK
    obtain ⟨b, hb, eb⟩ := pl_bit g2 (d := 64) (by decide) (by decide)
    have eb : am_rem (f - 2) 64 = nI b := eb
    rw [eb] at hK
    have ib : vp_in (nI b / 8) 8 := pl_byte hb (by decide)
    apply hV; apply hV; apply hV; apply hV; apply hV; apply hV; apply hV
    refine ⟨by decide, ?_⟩
    have eb2 : am_rem (f - 2) (8 * 8) = nI b := eb
    rw [eb2]
    apply hV; apply hV; apply hV
    refine ⟨rfl, ?_⟩
    apply hV; apply hV; apply hV
    refine ⟨by decide, ?_⟩
    apply hV; apply hV
    refine ⟨ib, ?_⟩
    apply hV; apply hV; apply hV; apply hV
    refine ⟨by decide, ?_⟩
    apply hV; apply hV; apply hV
    refine ⟨ib, ?_⟩
    exact tail _ _ _ cm_row_ui hK
/-- from where the fault is known -/
theorem ok_marr_tail7 {sc : am_S} {C : Nat → am_T} (h30 : am_has C 30 T_msum) {q n : Nat} {J : am_J} {K : am_K} {V : am_W} (hD : am_drop V) (hV : am_closed sc C tb_Mo_arrives V K) (X : am_I) (f : Int32) (ex : List (Nat × am_V)) :
    (f = 1 → K (.inl (some (.inl 0))) X (am_p0 q) J n) →
    (¬ f = 1 → K (.inl (some (.inl (mo_in (mo_sp 56 f (X 27) 6 = pm_sum6 (mo_sp 56 f (X 27))) (cm_row X 27 (mo_sp 56 f (X 27)))).1))) (mo_in (mo_sp 56 f (X 27) 6 = pm_sum6 (mo_sp 56 f (X 27))) (cm_row X 27 (mo_sp 56 f (X 27)))).2 (am_p0 q) J n) →
    V 56 ((0, .inr (.inr (some 21))) :: (1, .inl 7) :: (2, .inl f) :: ex) [] X (am_p0 q) J n := by
  intro hK1 hK2
  apply hD 3
  show V 56 [(0, .inr (.inr (some 21))), (1, .inl 7), (2, .inl f)] [] X (am_p0 q) J n
  apply hV; apply hV; apply hV
  refine ⟨fun h => ?_, fun h => ?_⟩
  · apply hV; apply hV
    exact ⟨Or.inl rfl, hK1 h⟩
  have hK := hK2 h
  have tail : ∀ (r : Nat → Int32) (Y : am_I) (e : List (Nat × am_V)), Y = cm_row X 27 r → K (.inl (some (.inl (mo_in (r 6 = pm_sum6 r) (cm_row X 27 r)).1))) (mo_in (r 6 = pm_sum6 r) (cm_row X 27 r)).2 (am_p0 q) J n → V 95 ((0, .inr (.inr (some 21))) :: (1, .inl 7) :: (2, .inl f) :: e) [] Y (am_p0 q) J n := by
    intro r Y e eY hK
    have e27 : Y 27 = r := by rw [eY]; exact cm_row_eq _ _ _
    rw [← eY, ← e27] at hK
    unfold mo_in at hK
    apply hD 3
    show V 95 [(0, .inr (.inr (some 21))), (1, .inl 7), (2, .inl f)] [] Y (am_p0 q) J n
    apply hV; apply hV
    refine ⟨rfl, ?_⟩
    apply hV; apply hV; apply hV; apply hV
    refine ⟨by unfold vp_in; decide, ?_⟩
    apply hV; apply hV; apply hV; apply hV; apply hV
    refine ⟨rfl, ?_⟩
    refine h30 _ _ _ _ _ _ ⟨rfl, ⟨_, rfl⟩, Or.inr ⟨by decide, ?_⟩⟩
    apply hV
    refine ⟨fun g => ?_, fun g => ?_⟩
    · have g' : Y 27 6 = pm_sum6 (Y 27) := g
      rw [if_pos g'] at hK
      apply hV; apply hV; apply hV; apply hV; apply hV; apply hV
      refine ⟨fun g2 => absurd g2 (by decide), fun g2 => ?_⟩
      apply hV; apply hV
      refine ⟨rfl, ?_⟩
      apply hV; apply hV
      refine ⟨rfl, ?_⟩
      apply hV; apply hV
      exact ⟨Or.inr rfl, hK⟩
    · have g' : ¬ Y 27 6 = pm_sum6 (Y 27) := g
      rw [if_neg g'] at hK
      apply hV; apply hV; apply hV; apply hV; apply hV
      refine ⟨fun g2 => ?_, fun g2 => absurd rfl g2⟩
      apply hV; apply hV
      refine ⟨rfl, ?_⟩
      apply hV; apply hV; apply hV
      refine ⟨rfl, ?_⟩
      apply hV; apply hV
      exact ⟨Or.inl rfl, hK⟩
  apply hV; apply hV; apply hV
  refine ⟨fun g => ?_, fun g => ?_⟩
  · have e : mo_sp 56 f (X 27) = X 27 := by unfold mo_sp; rw [if_pos g]
    rw [e] at hK
    exact tail (X 27) X [] (cm_row_same X 27).symm hK
  · have g2 : ¬ f < 2 := fun g3 => g ((lt2_le1 f).1 g3)
    have e : mo_sp 56 f (X 27) = upd (X 27) (am_rem (f - 2) 56 / 8).toNatClampNeg (X 27 (am_rem (f - 2) 56 / 8).toNatClampNeg ^^^ am_shl 1 (am_rem (am_rem (f - 2) 56) 8)) := by unfold mo_sp; rw [if_neg g]
    rw [e] at hK
    obtain ⟨b, hb, eb⟩ := pl_bit g2 (d := 56) (by decide) (by decide)
    have eb : am_rem (f - 2) 56 = nI b := eb
    rw [eb] at hK
    have ib : vp_in (nI b / 8) 8 := pl_byte hb (by decide)
    apply hV; apply hV; apply hV; apply hV; apply hV; apply hV; apply hV
    refine ⟨by decide, ?_⟩
    have eb2 : am_rem (f - 2) (8 * 7) = nI b := eb
    rw [eb2]
    apply hV; apply hV; apply hV
    refine ⟨rfl, ?_⟩
    apply hV; apply hV; apply hV
    refine ⟨by decide, ?_⟩
    apply hV; apply hV
    refine ⟨ib, ?_⟩
    apply hV; apply hV; apply hV; apply hV
    refine ⟨by decide, ?_⟩
    apply hV; apply hV; apply hV
    refine ⟨ib, ?_⟩
    exact tail _ _ _ cm_row_ui hK
theorem ok_marrives (sc : am_S) (C : Nat → am_T) (h30 : am_has C 30 T_msum) : am_ok sc C tb_Mo_arrives T_marrives := by
  intro as I P J n K hT V hD hV
  unfold T_marrives at hT
  split at hT
  · rename_i o a
    obtain ⟨rfl, ⟨q, rfl⟩, w, hw, ew, hK⟩ := hT
    show V 0 [(0, .inr (.inr (some 21))), (1, .inl a)] [] I (am_p0 q) J n
    have tail : ∀ ex, V 56 ((0, .inr (.inr (some 21))) :: (1, .inl a) :: (2, .inl (mo_flt w I)) :: ex) [] (mo_tk w I) (am_p0 q) J n := by
      intro ex
      rcases hK with ⟨rfl, hK⟩ | ⟨rfl, hK⟩
      · unfold mo_ar8 at hK
        refine ok_marr_tail h30 hD hV _ _ _ (fun h => ?_) (fun h => ?_)
        · rw [if_pos h] at hK; exact hK
        · rw [if_neg h] at hK; exact hK
      · unfold mo_ar7 at hK
        refine ok_marr_tail7 h30 hD hV _ _ _ (fun h => ?_) (fun h => ?_)
        · rw [if_pos h] at hK; exact hK
        · rw [if_neg h] at hK; exact hK
    apply hV; apply hV; apply hV; apply hV
    refine ⟨rfl, ?_⟩
    rw [ew]
    cases w with
    | zero =>
      apply hV
      refine ⟨fun h => tail [], fun h => absurd (by decide) h⟩
    | succ e =>
      have loop : ∀ (d j : Nat) (X : am_I), j + d = e → X 26 = mo_sh 0 j (I 26) → X 21 = upd (I 21) 10 (nI e) → (∀ i, ¬ (i = 21 ∨ i = 26) → X i = I i) →
          V 28 [(0, .inr (.inr (some 21))), (1, .inl a), (2, .inl (I 26 0)), (3, .inl (nI j))] [] X (am_p0 q) J n := by
        intro d
        induction d with
        | zero =>
          intro j X hj x26 x21 xo
          have xe : X 21 10 = nI e := by rw [x21]; rfl
          have hj' : j = e := by omega
          subst hj'
          apply hV; apply hV; apply hV
          refine ⟨rfl, ?_⟩
          rw [xe]
          apply hV
          refine ⟨fun h => ?_, fun h => absurd (nI_le (by omega) (by omega)) h⟩
          have eX : X = mo_tk (j + 1) I := by
            refine cm_row_of ⟨x26, fun k hk => ?_⟩
            by_cases h21 : k = 21
            · rw [h21, x21, am_ui_eq]
            · rw [am_ui_ne _ _ _ h21]
              exact xo k (by omega)
          rw [eX]
          exact tail _
        | succ d ih =>
          intro j X hj x26 x21 xo
          have xe : X 21 10 = nI e := by rw [x21]; rfl
          have ej : (nI j).toNatClampNeg = j := nI_clamp (by omega)
          have ej1 : (nI j + 1).toNatClampNeg = j + 1 := by rw [nI_1]; exact nI_clamp (by omega)
          have ij : vp_in (nI j) 40 := nI_in (by omega) (by omega)
          have ij1 : vp_in (nI j + 1) 40 := by rw [nI_1]; exact nI_in (by omega) (by omega)
          apply hV; apply hV; apply hV
          refine ⟨rfl, ?_⟩
          rw [xe]
          apply hV
          refine ⟨fun h => absurd h (nI_ge (by omega) (by omega)), fun h => ?_⟩
          apply hV; apply hV
          refine ⟨rfl, ?_⟩
          apply hV; apply hV; apply hV
          refine ⟨rfl, ?_⟩
          apply hV; apply hV; apply hV; apply hV
          refine ⟨ij1, ?_⟩
          rw [ej1]
          apply hV
          refine ⟨ij, ?_⟩
          rw [ej]
          apply hV; apply hV
          show V 28 [(0, .inr (.inr (some 21))), (1, .inl a), (2, .inl (I 26 0)), (3, .inl (nI j + 1))] [] (am_ui X 26 j (X 26 (j + 1))) (am_p0 q) J n
          rw [← nI_succ]
          refine ih (j + 1) _ (by omega) ?_ x21 (fun i hi => ?_)
          · show upd (X 26) j (X 26 (j + 1)) = _
            rw [x26]
            exact mo_sh_s (by omega) _
          · rw [am_ui_ne _ _ _ (by omega)]
            exact xo i hi
      apply hV
      refine ⟨fun h => absurd h (nI_nle (by omega) (by omega)), fun h => ?_⟩
      apply hV; apply hV
      refine ⟨rfl, ?_⟩
      apply hV; apply hV
      refine ⟨by unfold vp_in; decide, ?_⟩
      apply hV; apply hV; apply hV; apply hV
      refine ⟨rfl, ?_⟩
      apply hV; apply hV; apply hV
      refine ⟨rfl, ?_⟩
      apply hV; apply hV
      refine loop e 0 _ (by omega) (mo_sh_0 0 _).symm ?_ (fun i hi => am_ui_ne _ _ _ (by omega))
      show upd (I 21) 10 (I 21 10 - 1) = _
      rw [ew, nI_pred]
  · exact hT.elim
