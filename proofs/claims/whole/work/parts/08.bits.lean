/-! Small facts about ints (nx_and, wb_of32: pasted from kit/laws/BITS.to-paste). -/
theorem nx_and (a b : Nat) : nI a &&& nI b = nI (a &&& b) := by
  apply Int32.toBitVec_inj.1
  show BitVec.ofNat 32 a &&& BitVec.ofNat 32 b = BitVec.ofNat 32 (a &&& b)
  apply BitVec.eq_of_getLsbD_eq
  intro i hi
  simp [hi]
theorem wb_of32 (x : Int32) : ∃ n, n < 2 ^ 32 ∧ x = nI n := ⟨x.toBitVec.toNat, x.toBitVec.isLt, Int32.toBitVec_inj.mp (by show _ = BitVec.ofNat 32 _; simp)⟩
theorem pb_m (x : Int32) (k : Nat) : ∃ n, n < 2 ^ k ∧ x &&& nI (2 ^ k - 1) = nI n := by
  obtain ⟨n, -, rfl⟩ := wb_of32 x
  exact ⟨n % 2 ^ k, Nat.mod_lt _ (Nat.two_pow_pos k), by rw [nx_and, Nat.and_two_pow_sub_one_eq_mod]⟩
theorem pb_in8 : ∀ n, n < 8 → ¬ (nI n < 0 ∨ 8 ≤ (nI n).toNatClampNeg) := by decide +kernel
theorem pb_7 (x : Int32) : vp_in (x &&& 7) 8 := by
  obtain ⟨n, hn, e⟩ := pb_m x 3
  have e' : x &&& 7 = nI n := e
  rw [e']
  exact pb_in8 n hn
theorem pb_78 : vp_in 7 8 := pb_in8 7 (by decide)
theorem pb_upd (f : Nat → Int32) (k j : Nat) (x : Int32) : upd f k x j = if j = k then x else f j := rfl
theorem pb_op16 : ∀ n, n < 16 → nI n = 0 ∨ nI n = 1 ∨ nI n = 2 ∨ nI n = 3 ∨ nI n = 4 ∨ nI n = 5 ∨ nI n = 6 ∨ nI n = 7 ∨ nI n = 8 ∨ nI n = 9 ∨ nI n = 10 ∨ nI n = 11 ∨ nI n = 12 ∨ nI n = 13 ∨ nI n = 14 ∨ nI n = 15 := by decide +kernel
theorem pb_15 (x : Int32) : x &&& 15 = 0 ∨ x &&& 15 = 1 ∨ x &&& 15 = 2 ∨ x &&& 15 = 3 ∨ x &&& 15 = 4 ∨ x &&& 15 = 5 ∨ x &&& 15 = 6 ∨ x &&& 15 = 7 ∨ x &&& 15 = 8 ∨ x &&& 15 = 9 ∨ x &&& 15 = 10 ∨ x &&& 15 = 11 ∨ x &&& 15 = 12 ∨ x &&& 15 = 13 ∨ x &&& 15 = 14 ∨ x &&& 15 = 15 := by
  obtain ⟨n, hn, e⟩ := pb_m x 4
  have e' : x &&& 15 = nI n := e
  rw [e']
  exact pb_op16 n hn
theorem pb_lit (k n : Nat) (h : ¬ (nI k < 0 ∨ n ≤ (nI k).toNatClampNeg)) : vp_in (nI k) n := h
/-- 0 or 1 -/
def cs_b (p : Bool) : Int32 := match p with
  | true => 1
  | false => 0
theorem cs_b0 {p : Bool} (h : cs_b p = 0) : p = false := by cases p <;> first | rfl | (exact absurd h (by decide))
theorem cs_b1 {p : Bool} (h : ¬ cs_b p = 0) : p = true := by cases p <;> first | rfl | (exact absurd rfl h)
theorem cs_b_eq0 {p : Bool} : cs_b p = 0 ↔ p = false := ⟨cs_b0, fun h => by rw [h]; rfl⟩
def cs_adr (a : Int32) : Bool := !decide (a < 0) && !decide (64 ≤ a)
def cs_reg (a : Int32) : Bool := !decide (a < 0) && !decide (8 ≤ a)
def cs_slo (a : Int32) : Bool := !decide (a < 0) && !decide (15 < a)
theorem pb_in {a : Int32} {n : Nat} (h1 : ¬ a < 0) (h2 : ¬ nI n ≤ a) (hn : n < 2 ^ 31) : vp_in a n := by
  intro h
  rcases h with h | h
  · exact h1 h
  · apply h2
    rw [Int32.le_iff_toInt_le, nI_toInt hn]
    rw [Int32.lt_iff_toInt_lt, Int32.toInt_zero] at h1
    unfold Int32.toNatClampNeg at h
    omega
theorem cs_adr_in {a : Int32} (h : cs_adr a = true) : vp_in a 64 := by
  simp only [cs_adr, Bool.and_eq_true, Bool.not_eq_true', decide_eq_false_iff_not] at h
  exact pb_in (n := 64) h.1 h.2 (by decide)
theorem cs_reg_in {a : Int32} (h : cs_reg a = true) : vp_in a 8 := by
  simp only [cs_reg, Bool.and_eq_true, Bool.not_eq_true', decide_eq_false_iff_not] at h
  exact pb_in (n := 8) h.1 h.2 (by decide)
/-- the contract of method j is among C's -/
def am_has (C : Nat → am_T) (j : Nat) (T : am_T) : Prop := ∀ as I P J n K, T as I P J n K → C j as I P J n K
