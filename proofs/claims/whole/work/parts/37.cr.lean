/-! Bytes: a frame of which one bit was turned never passes for whole. The two lines held against each other. -/
theorem nx_xor (a b : Nat) : nI a ^^^ nI b = nI (a ^^^ b) := by
  apply Int32.toBitVec_inj.1
  show BitVec.ofNat 32 a ^^^ BitVec.ofNat 32 b = BitVec.ofNat 32 (a ^^^ b)
  apply BitVec.eq_of_getLsbD_eq
  intro i hi
  simp [hi]
theorem xor_b {a t : Nat} (ha : a < 256) (ht : t < 8) : a ^^^ 2 ^ t < 256 ∧ ¬ a ^^^ 2 ^ t = a := by
  refine ⟨Nat.xor_lt_two_pow (n := 8) ha (Nat.pow_lt_pow_right (by omega) ht), fun h => ?_⟩
  have h2 : a ^^^ (a ^^^ 2 ^ t) = a ^^^ a := by rw [h]
  rw [← Nat.xor_assoc, Nat.xor_self, Nat.zero_xor] at h2
  have := Nat.two_pow_pos t
  omega
theorem shl_b : ∀ t, t < 8 → am_shl 1 (nI t) = nI (2 ^ t) := by decide +kernel
/-- bytes at the first n places -/
def byt (n : Nat) (r : Nat → Int32) : Prop := ∀ k, k < n → ∃ a, a < 256 ∧ r k = nI a
def eqn (n : Nat) (f g : Nat → Int32) : Prop := ∀ k, k < n → f k = g k
def nat_r (r : Nat → Int32) (k : Nat) : Nat := (r k).toNatClampNeg
theorem byt_n {n : Nat} {r : Nat → Int32} (h : byt n r) : ∀ k, k < n → nat_r r k < 256 ∧ r k = nI (nat_r r k) := by
  intro k hk
  obtain ⟨a, ha, e⟩ := h k hk
  unfold nat_r
  rw [e, nI_clamp (by omega)]
  exact ⟨ha, rfl⟩
theorem and255 (x : Nat) : nI x &&& 255 = nI (x % 256) := by
  show nI x &&& nI (2 ^ 8 - 1) = _
  rw [nx_and, Nat.and_two_pow_sub_one_eq_mod]
theorem sp_row {f : Int32} (d : Nat) (hf : ¬ f ≤ 1) (h0 : 0 < d) (hd : d ≤ 64) (r : Nat → Int32) : ∃ b, b < d ∧ mo_sp (nI d) f r = upd r (b / 8) (r (b / 8) ^^^ nI (2 ^ (b % 8))) := by
  obtain ⟨b, hb, e⟩ := pl_bit (fun h => hf ((lt2_le1 f).1 h)) h0 (by omega)
  refine ⟨b, hb, ?_⟩
  unfold mo_sp
  have e1 : nI b / 8 = nI (b / 8) := pk_div (d := 8) (by omega) (by omega) (by omega)
  have e2 : am_rem (nI b) 8 = nI (b % 8) := pk_rem (d := 8) (by omega) (by omega) (by omega)
  rw [if_neg hf, e, e1, e2, nI_clamp (by omega), shl_b _ (by omega)]
theorem pm_sum7_n {r : Nat → Int32} (h : byt 7 r) : pm_sum7 r = nI ((nat_r r 0 + nat_r r 1 + nat_r r 2 + nat_r r 3 + nat_r r 4 + nat_r r 5 + nat_r r 6) % 256) := by
  have e := byt_n h
  unfold pm_sum7
  have z : (0 : Int32) = nI 0 := rfl
  rw [(e 0 (by omega)).2, (e 1 (by omega)).2, (e 2 (by omega)).2, (e 3 (by omega)).2, (e 4 (by omega)).2, (e 5 (by omega)).2, (e 6 (by omega)).2, z]
  simp only [nI_add]
  rw [and255]
  congr 2
  omega
theorem sp8 {r : Nat → Int32} {f : Int32} (h : byt 8 r) (hs : r 7 = pm_sum7 r) (hf : ¬ f ≤ 1) : ¬ pm_sum7 (mo_sp 64 f r) = mo_sp 64 f r 7 := by
  obtain ⟨b, hb, e⟩ := sp_row 64 hf (by omega) (by omega) r
  have e' : mo_sp 64 f r = upd r (b / 8) (r (b / 8) ^^^ nI (2 ^ (b % 8))) := e
  rw [e']
  clear e e'
  have hn := byt_n h
  have hj8 : b / 8 < 8 := by omega
  have hx := xor_b (hn (b / 8) hj8).1 (show b % 8 < 8 by omega)
  generalize b / 8 = j at hj8 hx ⊢
  have ev : r j ^^^ nI (2 ^ (b % 8)) = nI (nat_r r j ^^^ 2 ^ (b % 8)) := by
    rw [← nx_xor, ← (hn j hj8).2]
  rw [ev]
  generalize hX : nat_r r j ^^^ 2 ^ (b % 8) = X at hx ⊢
  have hb' : byt 8 (upd r j (nI X)) := by
    intro k hk
    rw [pb_upd]
    by_cases hkj : k = j
    · rw [if_pos hkj]; exact ⟨X, hx.1, rfl⟩
    · rw [if_neg hkj]; exact h k hk
  have upn : ∀ k, k < 8 → nat_r (upd r j (nI X)) k = if k = j then X else nat_r r k := by
    intro k hk
    unfold nat_r
    rw [pb_upd]
    by_cases hkj : k = j
    · rw [if_pos hkj, if_pos hkj, nI_clamp (by omega)]
    · rw [if_neg hkj, if_neg hkj]
  have h7 : nat_r r 7 = (nat_r r 0 + nat_r r 1 + nat_r r 2 + nat_r r 3 + nat_r r 4 + nat_r r 5 + nat_r r 6) % 256 := by
    have := hs
    rw [pm_sum7_n (fun k hk => h k (by omega)), (hn 7 (by omega)).2, nI_eq (by have := (hn 7 (by omega)).1; omega) (by omega)] at this
    exact this
  rw [pm_sum7_n (fun k hk => hb' k (by omega)), (byt_n hb' 7 (by omega)).2, nI_eq (by omega) (by have := (byt_n hb' 7 (by omega)).1; omega)]
  have hl := fun k hk => (hn k hk).1
  have bnd := hx.2
  have bx := hx.1
  have hall := And.intro (hl 0 (by omega)) (And.intro (hl 1 (by omega)) (And.intro (hl 2 (by omega)) (And.intro (hl 3 (by omega)) (And.intro (hl 4 (by omega)) (And.intro (hl 5 (by omega)) (And.intro (hl 6 (by omega)) (hl 7 (by omega))))))))
  obtain ⟨l0, l1, l2, l3, l4, l5, l6, l7⟩ := hall
  clear hX ev hb' hs h hn hb hx
  rcases (by omega : j = 0 ∨ j = 1 ∨ j = 2 ∨ j = 3 ∨ j = 4 ∨ j = 5 ∨ j = 6 ∨ j = 7) with hj | hj | hj | hj | hj | hj | hj | hj
  · subst hj
    have x := upn 0 (by omega)
    rw [if_pos rfl] at x
    have y1 := upn 1 (by omega)
    rw [if_neg (by omega)] at y1
    have y2 := upn 2 (by omega)
    rw [if_neg (by omega)] at y2
    have y3 := upn 3 (by omega)
    rw [if_neg (by omega)] at y3
    have y4 := upn 4 (by omega)
    rw [if_neg (by omega)] at y4
    have y5 := upn 5 (by omega)
    rw [if_neg (by omega)] at y5
    have y6 := upn 6 (by omega)
    rw [if_neg (by omega)] at y6
    have y7 := upn 7 (by omega)
    rw [if_neg (by omega)] at y7
    omega
  · subst hj
    have x := upn 1 (by omega)
    rw [if_pos rfl] at x
    have y0 := upn 0 (by omega)
    rw [if_neg (by omega)] at y0
    have y2 := upn 2 (by omega)
    rw [if_neg (by omega)] at y2
    have y3 := upn 3 (by omega)
    rw [if_neg (by omega)] at y3
    have y4 := upn 4 (by omega)
    rw [if_neg (by omega)] at y4
    have y5 := upn 5 (by omega)
    rw [if_neg (by omega)] at y5
    have y6 := upn 6 (by omega)
    rw [if_neg (by omega)] at y6
    have y7 := upn 7 (by omega)
    rw [if_neg (by omega)] at y7
    omega
  · subst hj
    have x := upn 2 (by omega)
    rw [if_pos rfl] at x
    have y0 := upn 0 (by omega)
    rw [if_neg (by omega)] at y0
    have y1 := upn 1 (by omega)
    rw [if_neg (by omega)] at y1
    have y3 := upn 3 (by omega)
    rw [if_neg (by omega)] at y3
    have y4 := upn 4 (by omega)
    rw [if_neg (by omega)] at y4
    have y5 := upn 5 (by omega)
    rw [if_neg (by omega)] at y5
    have y6 := upn 6 (by omega)
    rw [if_neg (by omega)] at y6
    have y7 := upn 7 (by omega)
    rw [if_neg (by omega)] at y7
    omega
  · subst hj
    have x := upn 3 (by omega)
    rw [if_pos rfl] at x
    have y0 := upn 0 (by omega)
    rw [if_neg (by omega)] at y0
    have y1 := upn 1 (by omega)
    rw [if_neg (by omega)] at y1
    have y2 := upn 2 (by omega)
    rw [if_neg (by omega)] at y2
    have y4 := upn 4 (by omega)
    rw [if_neg (by omega)] at y4
    have y5 := upn 5 (by omega)
    rw [if_neg (by omega)] at y5
    have y6 := upn 6 (by omega)
    rw [if_neg (by omega)] at y6
    have y7 := upn 7 (by omega)
    rw [if_neg (by omega)] at y7
    omega
  · subst hj
    have x := upn 4 (by omega)
    rw [if_pos rfl] at x
    have y0 := upn 0 (by omega)
    rw [if_neg (by omega)] at y0
    have y1 := upn 1 (by omega)
    rw [if_neg (by omega)] at y1
    have y2 := upn 2 (by omega)
    rw [if_neg (by omega)] at y2
    have y3 := upn 3 (by omega)
    rw [if_neg (by omega)] at y3
    have y5 := upn 5 (by omega)
    rw [if_neg (by omega)] at y5
    have y6 := upn 6 (by omega)
    rw [if_neg (by omega)] at y6
    have y7 := upn 7 (by omega)
    rw [if_neg (by omega)] at y7
    omega
  · subst hj
    have x := upn 5 (by omega)
    rw [if_pos rfl] at x
    have y0 := upn 0 (by omega)
    rw [if_neg (by omega)] at y0
    have y1 := upn 1 (by omega)
    rw [if_neg (by omega)] at y1
    have y2 := upn 2 (by omega)
    rw [if_neg (by omega)] at y2
    have y3 := upn 3 (by omega)
    rw [if_neg (by omega)] at y3
    have y4 := upn 4 (by omega)
    rw [if_neg (by omega)] at y4
    have y6 := upn 6 (by omega)
    rw [if_neg (by omega)] at y6
    have y7 := upn 7 (by omega)
    rw [if_neg (by omega)] at y7
    omega
  · subst hj
    have x := upn 6 (by omega)
    rw [if_pos rfl] at x
    have y0 := upn 0 (by omega)
    rw [if_neg (by omega)] at y0
    have y1 := upn 1 (by omega)
    rw [if_neg (by omega)] at y1
    have y2 := upn 2 (by omega)
    rw [if_neg (by omega)] at y2
    have y3 := upn 3 (by omega)
    rw [if_neg (by omega)] at y3
    have y4 := upn 4 (by omega)
    rw [if_neg (by omega)] at y4
    have y5 := upn 5 (by omega)
    rw [if_neg (by omega)] at y5
    have y7 := upn 7 (by omega)
    rw [if_neg (by omega)] at y7
    omega
  · subst hj
    have x := upn 7 (by omega)
    rw [if_pos rfl] at x
    have y0 := upn 0 (by omega)
    rw [if_neg (by omega)] at y0
    have y1 := upn 1 (by omega)
    rw [if_neg (by omega)] at y1
    have y2 := upn 2 (by omega)
    rw [if_neg (by omega)] at y2
    have y3 := upn 3 (by omega)
    rw [if_neg (by omega)] at y3
    have y4 := upn 4 (by omega)
    rw [if_neg (by omega)] at y4
    have y5 := upn 5 (by omega)
    rw [if_neg (by omega)] at y5
    have y6 := upn 6 (by omega)
    rw [if_neg (by omega)] at y6
    omega
theorem pm_sum7_eq {f g : Nat → Int32} (h : eqn 7 f g) : pm_sum7 f = pm_sum7 g := by
  unfold pm_sum7
  rw [h 0 (by omega), h 1 (by omega), h 2 (by omega), h 3 (by omega), h 4 (by omega), h 5 (by omega), h 6 (by omega)]
theorem pm_sum6_n {r : Nat → Int32} (h : byt 6 r) : pm_sum6 r = nI ((nat_r r 0 + nat_r r 1 + nat_r r 2 + nat_r r 3 + nat_r r 4 + nat_r r 5) % 256) := by
  have e := byt_n h
  unfold pm_sum6
  have z : (0 : Int32) = nI 0 := rfl
  rw [(e 0 (by omega)).2, (e 1 (by omega)).2, (e 2 (by omega)).2, (e 3 (by omega)).2, (e 4 (by omega)).2, (e 5 (by omega)).2, z]
  simp only [nI_add]
  rw [and255]
  congr 2
  omega
theorem sp7 {r : Nat → Int32} {f : Int32} (h : byt 7 r) (hs : r 6 = pm_sum6 r) (hf : ¬ f ≤ 1) : ¬ pm_sum6 (mo_sp 56 f r) = mo_sp 56 f r 6 := by
  obtain ⟨b, hb, e⟩ := sp_row 56 hf (by omega) (by omega) r
  have e' : mo_sp 56 f r = upd r (b / 8) (r (b / 8) ^^^ nI (2 ^ (b % 8))) := e
  rw [e']
  clear e e'
  have hn := byt_n h
  have hj8 : b / 8 < 7 := by omega
  have hx := xor_b (hn (b / 8) hj8).1 (show b % 8 < 8 by omega)
  generalize b / 8 = j at hj8 hx ⊢
  have ev : r j ^^^ nI (2 ^ (b % 8)) = nI (nat_r r j ^^^ 2 ^ (b % 8)) := by
    rw [← nx_xor, ← (hn j hj8).2]
  rw [ev]
  generalize hX : nat_r r j ^^^ 2 ^ (b % 8) = X at hx ⊢
  have hb' : byt 7 (upd r j (nI X)) := by
    intro k hk
    rw [pb_upd]
    by_cases hkj : k = j
    · rw [if_pos hkj]; exact ⟨X, hx.1, rfl⟩
    · rw [if_neg hkj]; exact h k hk
  have upn : ∀ k, k < 7 → nat_r (upd r j (nI X)) k = if k = j then X else nat_r r k := by
    intro k hk
    unfold nat_r
    rw [pb_upd]
    by_cases hkj : k = j
    · rw [if_pos hkj, if_pos hkj, nI_clamp (by omega)]
    · rw [if_neg hkj, if_neg hkj]
  have h7 : nat_r r 6 = (nat_r r 0 + nat_r r 1 + nat_r r 2 + nat_r r 3 + nat_r r 4 + nat_r r 5) % 256 := by
    have := hs
    rw [pm_sum6_n (fun k hk => h k (by omega)), (hn 6 (by omega)).2, nI_eq (by have := (hn 6 (by omega)).1; omega) (by omega)] at this
    exact this
  rw [pm_sum6_n (fun k hk => hb' k (by omega)), (byt_n hb' 6 (by omega)).2, nI_eq (by omega) (by have := (byt_n hb' 6 (by omega)).1; omega)]
  have hl := fun k hk => (hn k hk).1
  have bnd := hx.2
  have bx := hx.1
  have hall := And.intro (hl 0 (by omega)) (And.intro (hl 1 (by omega)) (And.intro (hl 2 (by omega)) (And.intro (hl 3 (by omega)) (And.intro (hl 4 (by omega)) (And.intro (hl 5 (by omega)) (hl 6 (by omega)))))))
  obtain ⟨l0, l1, l2, l3, l4, l5, l6⟩ := hall
  clear hX ev hb' hs h hn hb hx
  rcases (by omega : j = 0 ∨ j = 1 ∨ j = 2 ∨ j = 3 ∨ j = 4 ∨ j = 5 ∨ j = 6) with hj | hj | hj | hj | hj | hj | hj
  · subst hj
    have x := upn 0 (by omega)
    rw [if_pos rfl] at x
    have y1 := upn 1 (by omega)
    rw [if_neg (by omega)] at y1
    have y2 := upn 2 (by omega)
    rw [if_neg (by omega)] at y2
    have y3 := upn 3 (by omega)
    rw [if_neg (by omega)] at y3
    have y4 := upn 4 (by omega)
    rw [if_neg (by omega)] at y4
    have y5 := upn 5 (by omega)
    rw [if_neg (by omega)] at y5
    have y6 := upn 6 (by omega)
    rw [if_neg (by omega)] at y6
    omega
  · subst hj
    have x := upn 1 (by omega)
    rw [if_pos rfl] at x
    have y0 := upn 0 (by omega)
    rw [if_neg (by omega)] at y0
    have y2 := upn 2 (by omega)
    rw [if_neg (by omega)] at y2
    have y3 := upn 3 (by omega)
    rw [if_neg (by omega)] at y3
    have y4 := upn 4 (by omega)
    rw [if_neg (by omega)] at y4
    have y5 := upn 5 (by omega)
    rw [if_neg (by omega)] at y5
    have y6 := upn 6 (by omega)
    rw [if_neg (by omega)] at y6
    omega
  · subst hj
    have x := upn 2 (by omega)
    rw [if_pos rfl] at x
    have y0 := upn 0 (by omega)
    rw [if_neg (by omega)] at y0
    have y1 := upn 1 (by omega)
    rw [if_neg (by omega)] at y1
    have y3 := upn 3 (by omega)
    rw [if_neg (by omega)] at y3
    have y4 := upn 4 (by omega)
    rw [if_neg (by omega)] at y4
    have y5 := upn 5 (by omega)
    rw [if_neg (by omega)] at y5
    have y6 := upn 6 (by omega)
    rw [if_neg (by omega)] at y6
    omega
  · subst hj
    have x := upn 3 (by omega)
    rw [if_pos rfl] at x
    have y0 := upn 0 (by omega)
    rw [if_neg (by omega)] at y0
    have y1 := upn 1 (by omega)
    rw [if_neg (by omega)] at y1
    have y2 := upn 2 (by omega)
    rw [if_neg (by omega)] at y2
    have y4 := upn 4 (by omega)
    rw [if_neg (by omega)] at y4
    have y5 := upn 5 (by omega)
    rw [if_neg (by omega)] at y5
    have y6 := upn 6 (by omega)
    rw [if_neg (by omega)] at y6
    omega
  · subst hj
    have x := upn 4 (by omega)
    rw [if_pos rfl] at x
    have y0 := upn 0 (by omega)
    rw [if_neg (by omega)] at y0
    have y1 := upn 1 (by omega)
    rw [if_neg (by omega)] at y1
    have y2 := upn 2 (by omega)
    rw [if_neg (by omega)] at y2
    have y3 := upn 3 (by omega)
    rw [if_neg (by omega)] at y3
    have y5 := upn 5 (by omega)
    rw [if_neg (by omega)] at y5
    have y6 := upn 6 (by omega)
    rw [if_neg (by omega)] at y6
    omega
  · subst hj
    have x := upn 5 (by omega)
    rw [if_pos rfl] at x
    have y0 := upn 0 (by omega)
    rw [if_neg (by omega)] at y0
    have y1 := upn 1 (by omega)
    rw [if_neg (by omega)] at y1
    have y2 := upn 2 (by omega)
    rw [if_neg (by omega)] at y2
    have y3 := upn 3 (by omega)
    rw [if_neg (by omega)] at y3
    have y4 := upn 4 (by omega)
    rw [if_neg (by omega)] at y4
    have y6 := upn 6 (by omega)
    rw [if_neg (by omega)] at y6
    omega
  · subst hj
    have x := upn 6 (by omega)
    rw [if_pos rfl] at x
    have y0 := upn 0 (by omega)
    rw [if_neg (by omega)] at y0
    have y1 := upn 1 (by omega)
    rw [if_neg (by omega)] at y1
    have y2 := upn 2 (by omega)
    rw [if_neg (by omega)] at y2
    have y3 := upn 3 (by omega)
    rw [if_neg (by omega)] at y3
    have y4 := upn 4 (by omega)
    rw [if_neg (by omega)] at y4
    have y5 := upn 5 (by omega)
    rw [if_neg (by omega)] at y5
    omega
theorem pm_sum6_eq {f g : Nat → Int32} (h : eqn 6 f g) : pm_sum6 f = pm_sum6 g := by
  unfold pm_sum6
  rw [h 0 (by omega), h 1 (by omega), h 2 (by omega), h 3 (by omega), h 4 (by omega), h 5 (by omega)]
theorem pm_word_eq2 {f g : Nat → Int32} (h : eqn 7 f g) : pm_word f 2 = pm_word g 2 := by
  unfold pm_word
  rw [h 2 (by omega), h (2 + 1) (by omega), h (2 + 2) (by omega), h (2 + 3) (by omega)]
theorem pm_word_eq3 {f g : Nat → Int32} (h : eqn 8 f g) : pm_word f 3 = pm_word g 3 := by
  unfold pm_word
  rw [h 3 (by omega), h (3 + 1) (by omega), h (3 + 2) (by omega), h (3 + 3) (by omega)]
theorem eqn_symm {n : Nat} {f g : Nat → Int32} (h : eqn n f g) : eqn n g f := fun k hk => (h k hk).symm
theorem eqn_trans {n : Nat} {f g e : Nat → Int32} (h : eqn n f g) (h' : eqn n g e) : eqn n f e := fun k hk => (h k hk).trans (h' k hk)
theorem byt_eq {n : Nat} {f g : Nat → Int32} (h : eqn n f g) (hb : byt n g) : byt n f := fun k hk => by rw [h k hk]; exact hb k hk
/-- w faults wait: the reference's row against the class's ring -/
def RF (w : Nat) (G I : am_I) : Prop := w ≤ 40 ∧ I 21 10 = nI w ∧ G 8 6 = nI w ∧ ∃ f, f < 40 ∧ G 8 9 = nI f ∧ ∀ i, i < w → I 26 i = G 10 ((f + i) % 40)
theorem rel_flt {w : Nat} {G I : am_I} (h : RF w G I) : mo_flt w I = cm_flt G := by
  obtain ⟨hw, e1, e2, f, hf, e3, e4⟩ := h
  unfold cm_flt
  cases w with
  | zero => rw [if_pos (show G 8 6 = 0 from e2)]; rfl
  | succ e =>
    rw [if_neg (by rw [e2]; exact nI_ne0 (by omega) (by omega)), e3, nI_clamp (by omega)]
    have := e4 0 (by omega)
    rw [Nat.add_zero, Nat.mod_eq_of_lt hf] at this
    exact this
theorem rel_tk {w : Nat} {G I : am_I} (h : RF w G I) : RF (w - 1) (cm_tk G) (mo_tk w I) := by
  obtain ⟨hw, e1, e2, f, hf, e3, e4⟩ := h
  unfold cm_tk
  cases w with
  | zero =>
    rw [if_pos (show G 8 6 = 0 from e2)]
    exact ⟨hw, e1, e2, f, hf, e3, e4⟩
  | succ e =>
    rw [if_neg (by rw [e2]; exact nI_ne0 (by omega) (by omega))]
    refine ⟨by omega, rfl, ?_, (f + 1) % 40, by omega, ?_, fun i hi => ?_⟩
    · show G 8 6 - 1 = nI e
      rw [e2]
      exact nI_pred e
    · show am_rem (G 8 9 + 1) 40 = _
      rw [e3, nI_1]
      exact pk_rem (d := 40) (by omega) (by omega) (by omega)
    · show mo_sh 0 e (I 26) i = G 10 (((f + 1) % 40 + i) % 40)
      unfold mo_sh
      rw [if_pos (by omega), e4 (i + 1) (by omega)]
      congr 1
      omega
def agA (I I' : am_I) : Prop := (∀ k, ¬ (k = 21 ∨ k = 26 ∨ k = 27) → I' k = I k) ∧ ∀ a, a ≠ 10 → a ≠ 18 → I' 21 a = I 21 a
def agL (G G' : am_I) : Prop := (∀ k, k ≠ 8 → k ≠ 11 → G' k = G k) ∧ ∀ a, a ≠ 5 → a ≠ 6 → a ≠ 9 → G' 8 a = G 8 a
theorem mo_tk_ag (w : Nat) (I : am_I) : agA I (mo_tk w I) ∧ mo_tk w I 27 = I 27 ∧ mo_tk w I 21 18 = I 21 18 := by
  cases w with
  | zero => exact ⟨⟨fun _ _ => rfl, fun _ _ _ => rfl⟩, rfl, rfl⟩
  | succ e =>
    refine ⟨⟨fun k hk => ?_, fun a h1 h2 => ?_⟩, rfl, rfl⟩
    · show cm_row (am_ui I 21 10 (nI e)) 26 (mo_sh 0 e (I 26)) k = I k
      rw [cm_row_ne _ _ (by omega), am_ui_ne _ _ _ (by omega)]
    · show cm_row (am_ui I 21 10 (nI e)) 26 (mo_sh 0 e (I 26)) 21 a = I 21 a
      rw [cm_row_ne _ _ (by omega), am_ui_eq, pb_upd, if_neg h1]
theorem cm_tk_ag (G : am_I) : agL G (cm_tk G) ∧ cm_tk G 11 = G 11 ∧ cm_tk G 8 5 = G 8 5 := by
  unfold cm_tk
  split
  · exact ⟨⟨fun _ _ _ => rfl, fun _ _ _ _ => rfl⟩, rfl, rfl⟩
  · refine ⟨⟨fun k h1 h2 => ?_, fun a h1 h2 h3 => ?_⟩, rfl, rfl⟩
    · rw [am_ui_ne _ _ _ h1, am_ui_ne _ _ _ h1]
    · rw [am_ui_eq, pb_upd, if_neg h2, am_ui_eq, pb_upd, if_neg h3]
theorem cpy_sp (I : am_I) (o len : Nat) (d f : Int32) : cm_cpy I o len d f 11 = mo_sp d f (va_cpy (I o) (I 11) 0 0 len) := by
  unfold cm_cpy mo_sp
  by_cases h : f < 2
  · rw [if_pos h, if_pos ((lt2_le1 f).1 h), am_cp_eq]
  · rw [if_neg h, if_neg (fun h' => h ((lt2_le1 f).2 h')), am_ui_eq, am_cp_eq]
theorem va_cpy_eqn (f g : Nat → Int32) (n : Nat) : eqn n (va_cpy f g 0 0 n) f := by
  intro k hk
  unfold va_cpy
  rw [if_pos (by omega), Nat.sub_zero, Nat.zero_add]
theorem RF_ui {w : Nat} {G I : am_I} (h : RF w G I) (x y : Int32) : RF w (am_ui G 8 5 x) (am_ui I 21 18 y) := ⟨h.1, h.2.1, h.2.2.1, h.2.2.2⟩
theorem RF_G {w : Nat} {G G' I I' : am_I} (h : RF w G I) (h6 : G' 8 6 = G 8 6) (h9 : G' 8 9 = G 8 9) (h10 : G' 10 = G 10) (i10 : I' 21 10 = I 21 10) (i26 : I' 26 = I 26) : RF w G' I' := by
  unfold RF at h ⊢
  rw [h6, h9, h10, i10, i26]
  exact h
/-- a frame of 8 bytes goes over both lines -/
def Rcar8 (w : Nat) (G I : am_I) (x y : Int32 × am_I) : Prop := y.1 = x.1 ∧ (x.1 = 0 ∨ x.1 = 1) ∧ RF (w - 1) x.2 y.2 ∧ y.2 21 18 = x.2 8 5 ∧ (x.1 = 1 → eqn 8 (y.2 27) (x.2 11) ∧ eqn 8 (x.2 11) (G 9)) ∧ (x.1 = 0 → 1 ≤ w) ∧ agA I y.2 ∧ agL G x.2
theorem Rcar8_mk {w : Nat} {G I X Y : am_I} {x y : Int32} (h1 : y = x) (h2 : x = 0 ∨ x = 1) (h3 : RF (w - 1) X Y) (h4 : Y 21 18 = X 8 5) (h5 : x = 1 → eqn 8 (Y 27) (X 11) ∧ eqn 8 (X 11) (G 9)) (h6 : x = 0 → 1 ≤ w) (h7 : agA I Y) (h8 : agL G X) : Rcar8 w G I (x, X) (y, Y) := ⟨h1, h2, h3, h4, h5, h6, h7, h8⟩
theorem rel_car8 {w : Nat} {G I : am_I} (hF : RF w G I) (hf : eqn 8 (I 27) (G 9)) (hb : byt 8 (G 9)) (hs : G 9 7 = pm_sum7 (G 9)) (hc : I 21 18 = G 8 5) : Rcar8 w G I (cm_car8 G) (mo_ar8 w I) := by
  have ef := rel_flt hF
  have hT := rel_tk hF
  obtain ⟨ta, t27, t18⟩ := mo_tk_ag w I
  obtain ⟨ca, c11, c85⟩ := cm_tk_ag G
  have c9 : cm_tk G 9 = G 9 := ca.1 9 (by omega) (by omega)
  have hw0 : ¬ mo_flt w I = 0 → 1 ≤ w := by
    intro h
    cases w with
    | zero => exact absurd rfl h
    | succ e => omega
  unfold cm_car8 mo_ar8
  rw [ef] at hw0 ⊢
  by_cases h1 : cm_flt G = 1
  · rw [if_pos h1, if_pos h1]
    exact Rcar8_mk rfl (Or.inl rfl) hT (by rw [t18, c85]; exact hc) (fun h => absurd h (show ¬ (0 : Int32) = 1 by decide)) (fun _ => hw0 (by rw [h1]; decide)) ta ca
  rw [if_neg h1, if_neg h1, cpy_sp, c9, c11, t27]
  have co : ∀ k, k ≠ 11 → cm_cpy (cm_tk G) 9 8 64 (cm_flt G) k = cm_tk G k := fun k hk => cm_cpy_oth _ _ _ _ _ hk
  have e11 : eqn 8 (va_cpy (G 9) (G 11) 0 0 8) (G 9) := va_cpy_eqn _ _ _
  have agl : ∀ x : am_I, (∀ k, k ≠ 8 → k ≠ 11 → x k = cm_tk G k) → (∀ a, a ≠ 5 → x 8 a = cm_tk G 8 a) → agL G x := fun x h2 h3 => ⟨fun k h4 h5 => (h2 k h4 h5).trans (ca.1 k h4 h5), fun a h4 h5 h6 => (h3 a h4).trans (ca.2 a h4 h5 h6)⟩
  have aga : ∀ x : am_I, (∀ k, ¬ (k = 21 ∨ k = 26 ∨ k = 27) → x k = mo_tk w I k) → (∀ a, a ≠ 18 → x 21 a = mo_tk w I 21 a) → agA I x := fun x h2 h3 => ⟨fun k h4 => (h2 k h4).trans (ta.1 k h4), fun a h4 h5 => (h3 a h5).trans (ta.2 a h4 h5)⟩
  by_cases h2 : cm_flt G ≤ 1
  · have es : ∀ r, mo_sp 64 (cm_flt G) r = r := fun r => by unfold mo_sp; rw [if_pos h2]
    rw [es, es]
    have k1 : pm_sum7 (va_cpy (G 9) (G 11) 0 0 8) = va_cpy (G 9) (G 11) 0 0 8 7 := by
      rw [pm_sum7_eq (fun k hk => e11 k (by omega)), e11 7 (by omega)]
      exact hs.symm
    have k2 : I 27 7 = pm_sum7 (I 27) := by
      rw [pm_sum7_eq (fun k hk => hf k (by omega)), hf 7 (by omega)]
      exact hs
    rw [if_pos k1]
    unfold mo_in
    rw [if_pos k2]
    have r11 : cm_cpy (cm_tk G) 9 8 64 (cm_flt G) 11 = va_cpy (G 9) (G 11) 0 0 8 := by rw [cpy_sp, c9, c11, es]
    have r27 : cm_row (mo_tk w I) 27 (I 27) = mo_tk w I := by
      have := cm_row_same (mo_tk w I) 27
      rw [t27] at this
      exact this
    rw [r27]
    refine Rcar8_mk rfl (Or.inr rfl) ?_ ?_ (fun _ => ⟨?_, ?_⟩) (fun h => absurd h (show ¬ (1 : Int32) = 0 by decide)) ?_ ?_
    · refine RF_G hT (by rw [co 8 (by omega)]) (by rw [co 8 (by omega)]) (co 10 (by omega)) rfl rfl
    · show mo_tk w I 21 18 = cm_cpy (cm_tk G) 9 8 64 (cm_flt G) 8 5
      rw [co 8 (by omega), t18, c85]
      exact hc
    · show eqn 8 (mo_tk w I 27) (cm_cpy (cm_tk G) 9 8 64 (cm_flt G) 11)
      rw [r11, t27]
      exact eqn_trans hf (eqn_symm e11)
    · show eqn 8 (cm_cpy (cm_tk G) 9 8 64 (cm_flt G) 11) (G 9)
      rw [r11]
      exact e11
    · refine aga _ (fun k hk => am_ui_ne _ _ _ (by omega)) (fun a ha => ?_)
      rw [am_ui_eq, pb_upd, if_neg ha]
    · exact agl _ (fun k _ hk => co k hk) (fun a _ => by rw [co 8 (by omega)])
  · have k1 : ¬ pm_sum7 (mo_sp 64 (cm_flt G) (va_cpy (G 9) (G 11) 0 0 8)) = mo_sp 64 (cm_flt G) (va_cpy (G 9) (G 11) 0 0 8) 7 := by
      refine sp8 (byt_eq e11 hb) ?_ h2
      rw [pm_sum7_eq (fun k hk => e11 k (by omega)), e11 7 (by omega)]
      exact hs
    have k2 : ¬ mo_sp 64 (cm_flt G) (I 27) 7 = pm_sum7 (mo_sp 64 (cm_flt G) (I 27)) := by
      intro h
      refine sp8 (byt_eq hf hb) ?_ h2 h.symm
      rw [pm_sum7_eq (fun k hk => hf k (by omega)), hf 7 (by omega)]
      exact hs
    rw [if_neg k1]
    unfold mo_in
    rw [if_neg k2]
    refine Rcar8_mk rfl (Or.inl rfl) ?_ ?_ (fun h => absurd h (show ¬ (0 : Int32) = 1 by decide)) (fun _ => hw0 (fun h0 => h2 (by rw [h0]; decide))) ?_ ?_
    · refine RF_ui (RF_G hT (by rw [co 8 (by omega)]) (by rw [co 8 (by omega)]) (co 10 (by omega)) rfl rfl) _ _
    · show mo_tk w I 21 18 + 1 = cm_cpy (cm_tk G) 9 8 64 (cm_flt G) 8 5 + 1
      rw [co 8 (by omega), t18, c85, hc]
    · refine aga _ (fun k hk => ?_) (fun a ha => ?_)
      · rw [am_ui_ne _ _ _ (by omega), cm_row_ne _ _ (by omega)]
      · rw [am_ui_eq, pb_upd, if_neg ha, cm_row_ne _ _ (by omega)]
    · refine agl _ (fun k h3 hk => ?_) (fun a ha => ?_)
      · rw [am_ui_ne _ _ _ h3, co k hk]
      · rw [am_ui_eq, pb_upd, if_neg ha, co 8 (by omega)]
/-- a frame of 7 bytes goes over both lines -/
def Rcar7 (w : Nat) (G I : am_I) (x y : Int32 × am_I) : Prop := y.1 = x.1 ∧ (x.1 = 0 ∨ x.1 = 1) ∧ RF (w - 1) x.2 y.2 ∧ y.2 21 18 = x.2 8 5 ∧ (x.1 = 1 → eqn 7 (y.2 27) (x.2 11) ∧ eqn 7 (x.2 11) (G 5)) ∧ (x.1 = 0 → 1 ≤ w) ∧ agA I y.2 ∧ agL G x.2
theorem Rcar7_mk {w : Nat} {G I X Y : am_I} {x y : Int32} (h1 : y = x) (h2 : x = 0 ∨ x = 1) (h3 : RF (w - 1) X Y) (h4 : Y 21 18 = X 8 5) (h5 : x = 1 → eqn 7 (Y 27) (X 11) ∧ eqn 7 (X 11) (G 5)) (h6 : x = 0 → 1 ≤ w) (h7 : agA I Y) (h8 : agL G X) : Rcar7 w G I (x, X) (y, Y) := ⟨h1, h2, h3, h4, h5, h6, h7, h8⟩
theorem rel_car7 {w : Nat} {G I : am_I} (hF : RF w G I) (hf : eqn 7 (I 27) (G 5)) (hb : byt 7 (G 5)) (hs : G 5 6 = pm_sum6 (G 5)) (hc : I 21 18 = G 8 5) : Rcar7 w G I (cm_car7 G) (mo_ar7 w I) := by
  have ef := rel_flt hF
  have hT := rel_tk hF
  obtain ⟨ta, t27, t18⟩ := mo_tk_ag w I
  obtain ⟨ca, c11, c85⟩ := cm_tk_ag G
  have c9 : cm_tk G 5 = G 5 := ca.1 5 (by omega) (by omega)
  have hw0 : ¬ mo_flt w I = 0 → 1 ≤ w := by
    intro h
    cases w with
    | zero => exact absurd rfl h
    | succ e => omega
  unfold cm_car7 mo_ar7
  rw [ef] at hw0 ⊢
  by_cases h1 : cm_flt G = 1
  · rw [if_pos h1, if_pos h1]
    exact Rcar7_mk rfl (Or.inl rfl) hT (by rw [t18, c85]; exact hc) (fun h => absurd h (show ¬ (0 : Int32) = 1 by decide)) (fun _ => hw0 (by rw [h1]; decide)) ta ca
  rw [if_neg h1, if_neg h1, cpy_sp, c9, c11, t27]
  have co : ∀ k, k ≠ 11 → cm_cpy (cm_tk G) 5 7 56 (cm_flt G) k = cm_tk G k := fun k hk => cm_cpy_oth _ _ _ _ _ hk
  have e11 : eqn 7 (va_cpy (G 5) (G 11) 0 0 7) (G 5) := va_cpy_eqn _ _ _
  have agl : ∀ x : am_I, (∀ k, k ≠ 8 → k ≠ 11 → x k = cm_tk G k) → (∀ a, a ≠ 5 → x 8 a = cm_tk G 8 a) → agL G x := fun x h2 h3 => ⟨fun k h4 h5 => (h2 k h4 h5).trans (ca.1 k h4 h5), fun a h4 h5 h6 => (h3 a h4).trans (ca.2 a h4 h5 h6)⟩
  have aga : ∀ x : am_I, (∀ k, ¬ (k = 21 ∨ k = 26 ∨ k = 27) → x k = mo_tk w I k) → (∀ a, a ≠ 18 → x 21 a = mo_tk w I 21 a) → agA I x := fun x h2 h3 => ⟨fun k h4 => (h2 k h4).trans (ta.1 k h4), fun a h4 h5 => (h3 a h5).trans (ta.2 a h4 h5)⟩
  by_cases h2 : cm_flt G ≤ 1
  · have es : ∀ r, mo_sp 56 (cm_flt G) r = r := fun r => by unfold mo_sp; rw [if_pos h2]
    rw [es, es]
    have k1 : pm_sum6 (va_cpy (G 5) (G 11) 0 0 7) = va_cpy (G 5) (G 11) 0 0 7 6 := by
      rw [pm_sum6_eq (fun k hk => e11 k (by omega)), e11 6 (by omega)]
      exact hs.symm
    have k2 : I 27 6 = pm_sum6 (I 27) := by
      rw [pm_sum6_eq (fun k hk => hf k (by omega)), hf 6 (by omega)]
      exact hs
    rw [if_pos k1]
    unfold mo_in
    rw [if_pos k2]
    have r11 : cm_cpy (cm_tk G) 5 7 56 (cm_flt G) 11 = va_cpy (G 5) (G 11) 0 0 7 := by rw [cpy_sp, c9, c11, es]
    have r27 : cm_row (mo_tk w I) 27 (I 27) = mo_tk w I := by
      have := cm_row_same (mo_tk w I) 27
      rw [t27] at this
      exact this
    rw [r27]
    refine Rcar7_mk rfl (Or.inr rfl) ?_ ?_ (fun _ => ⟨?_, ?_⟩) (fun h => absurd h (show ¬ (1 : Int32) = 0 by decide)) ?_ ?_
    · refine RF_G hT (by rw [co 8 (by omega)]) (by rw [co 8 (by omega)]) (co 10 (by omega)) rfl rfl
    · show mo_tk w I 21 18 = cm_cpy (cm_tk G) 5 7 56 (cm_flt G) 8 5
      rw [co 8 (by omega), t18, c85]
      exact hc
    · show eqn 7 (mo_tk w I 27) (cm_cpy (cm_tk G) 5 7 56 (cm_flt G) 11)
      rw [r11, t27]
      exact eqn_trans hf (eqn_symm e11)
    · show eqn 7 (cm_cpy (cm_tk G) 5 7 56 (cm_flt G) 11) (G 5)
      rw [r11]
      exact e11
    · refine aga _ (fun k hk => am_ui_ne _ _ _ (by omega)) (fun a ha => ?_)
      rw [am_ui_eq, pb_upd, if_neg ha]
    · exact agl _ (fun k _ hk => co k hk) (fun a _ => by rw [co 8 (by omega)])
  · have k1 : ¬ pm_sum6 (mo_sp 56 (cm_flt G) (va_cpy (G 5) (G 11) 0 0 7)) = mo_sp 56 (cm_flt G) (va_cpy (G 5) (G 11) 0 0 7) 6 := by
      refine sp7 (byt_eq e11 hb) ?_ h2
      rw [pm_sum6_eq (fun k hk => e11 k (by omega)), e11 6 (by omega)]
      exact hs
    have k2 : ¬ mo_sp 56 (cm_flt G) (I 27) 6 = pm_sum6 (mo_sp 56 (cm_flt G) (I 27)) := by
      intro h
      refine sp7 (byt_eq hf hb) ?_ h2 h.symm
      rw [pm_sum6_eq (fun k hk => hf k (by omega)), hf 6 (by omega)]
      exact hs
    rw [if_neg k1]
    unfold mo_in
    rw [if_neg k2]
    refine Rcar7_mk rfl (Or.inl rfl) ?_ ?_ (fun h => absurd h (show ¬ (0 : Int32) = 1 by decide)) (fun _ => hw0 (fun h0 => h2 (by rw [h0]; decide))) ?_ ?_
    · refine RF_ui (RF_G hT (by rw [co 8 (by omega)]) (by rw [co 8 (by omega)]) (co 10 (by omega)) rfl rfl) _ _
    · show mo_tk w I 21 18 + 1 = cm_cpy (cm_tk G) 5 7 56 (cm_flt G) 8 5 + 1
      rw [co 8 (by omega), t18, c85, hc]
    · refine aga _ (fun k hk => ?_) (fun a ha => ?_)
      · rw [am_ui_ne _ _ _ (by omega), cm_row_ne _ _ (by omega)]
      · rw [am_ui_eq, pb_upd, if_neg ha, cm_row_ne _ _ (by omega)]
    · refine agl _ (fun k h3 hk => ?_) (fun a ha => ?_)
      · rw [am_ui_ne _ _ _ h3, co k hk]
      · rw [am_ui_eq, pb_upd, if_neg ha, co 8 (by omega)]
