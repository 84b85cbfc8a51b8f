/-! The law's helpers, with handlers; the law's own rows. -/
def hk_La_fault (pc : Nat) (hs : List (Nat × Nat)) : Bool := decide (pc = 4) && decide (hs = [(1, 13), (2, 16)])
theorem nop_La_fault (pc : Nat) (h : 20 ≤ pc) : tb_La_fault pc = am_nop := by
  unfold tb_La_fault
  simp only [nble h (show 9 < 20 by omega), nble h (show 15 < 20 by omega), nble h (show 17 < 20 by omega), nble h (show 18 < 20 by omega), nble h (show 19 < 20 by omega)]
theorem rows_La_fault : ∀ pc, am_row (mt_L 91) (mt_R 91) [] [(7, 1, 2, 0)] [] [] [] hk_La_fault (mt_B 91) pc (tb_La_fault pc) = true := by
  have ck : (List.range 20).all (fun pc => am_row (mt_L 91) (mt_R 91) [] [(7, 1, 2, 0)] [] [] [] hk_La_fault (mt_B 91) pc (tb_La_fault pc)) = true := by decide +kernel
  intro pc
  by_cases h : pc < 20
  · exact List.all_eq_true.mp ck pc (List.mem_range.mpr h)
  · rw [nop_La_fault pc (by omega)]
    rfl
theorem chk_La_fault : mt_chk (mt_Y 91).cls (mt_F 91) (mt_Lc 91) [] [(7, 1, 2, 0)] [] [] [] = true := by decide +kernel
theorem hh_La_fault : ∀ pc hs, hk_La_fault pc hs = true → am_hx (mt_B 91) (mt_L 91) pc (mt_Y 91).cls wd_T (mt_H 91) hs := by
  intro pc hs h
  simp only [hk_La_fault, Bool.and_eq_true, decide_eq_true_eq] at h
  obtain ⟨rfl, rfl⟩ := h
  exact ⟨⟨⟨by decide, by decide⟩, by decide, ⟨by decide, by decide⟩, wd_in_T (by decide +kernel), wd_in_T (by decide +kernel), 3, by decide, Or.inr ⟨⟨3, by decide⟩, rfl, by decide +kernel, rfl⟩⟩, ⟨⟨⟨by decide, by decide⟩, by decide, ⟨by decide, by decide⟩, wd_in_T (by decide +kernel), wd_in_T (by decide +kernel), 3, by decide, Or.inr ⟨⟨3, by decide⟩, rfl, by decide +kernel, rfl⟩⟩, trivial⟩⟩
def hk_La_request (pc : Nat) (hs : List (Nat × Nat)) : Bool := decide (pc = 7) && decide (hs = [(1, 17), (3, 21)])
theorem nop_La_request (pc : Nat) (h : 25 ≤ pc) : tb_La_request pc = am_nop := by
  unfold tb_La_request
  simp only [nble h (show 10 < 25 by omega), nble h (show 18 < 25 by omega), nble h (show 22 < 25 by omega), nble h (show 23 < 25 by omega), nble h (show 24 < 25 by omega)]
theorem rows_La_request : ∀ pc, am_row (mt_L 92) (mt_R 92) [] [(17, 2, 4, 0)] [] [] [] hk_La_request (mt_B 92) pc (tb_La_request pc) = true := by
  have ck : (List.range 25).all (fun pc => am_row (mt_L 92) (mt_R 92) [] [(17, 2, 4, 0)] [] [] [] hk_La_request (mt_B 92) pc (tb_La_request pc)) = true := by decide +kernel
  intro pc
  by_cases h : pc < 25
  · exact List.all_eq_true.mp ck pc (List.mem_range.mpr h)
  · rw [nop_La_request pc (by omega)]
    rfl
theorem chk_La_request : mt_chk (mt_Y 92).cls (mt_F 92) (mt_Lc 92) [] [(17, 2, 4, 0)] [] [] [] = true := by decide +kernel
theorem hh_La_request : ∀ pc hs, hk_La_request pc hs = true → am_hx (mt_B 92) (mt_L 92) pc (mt_Y 92).cls wd_T (mt_H 92) hs := by
  intro pc hs h
  simp only [hk_La_request, Bool.and_eq_true, decide_eq_true_eq] at h
  obtain ⟨rfl, rfl⟩ := h
  exact ⟨⟨⟨by decide, by decide⟩, by decide, ⟨by decide, by decide⟩, wd_in_T (by decide +kernel), wd_in_T (by decide +kernel), 5, by decide, Or.inl ⟨by decide +kernel, rfl⟩⟩, ⟨⟨⟨by decide, by decide⟩, by decide, ⟨by decide, by decide⟩, wd_in_T (by decide +kernel), wd_in_T (by decide +kernel), 5, by decide, Or.inl ⟨by decide +kernel, rfl⟩⟩, trivial⟩⟩
def hk_La_rule (pc : Nat) (hs : List (Nat × Nat)) : Bool := decide (pc = 9) && decide (hs = [(1, 19), (2, 23)])
theorem nop_La_rule (pc : Nat) (h : 27 ≤ pc) : tb_La_rule pc = am_nop := by
  unfold tb_La_rule
  simp only [nble h (show 11 < 27 by omega), nble h (show 20 < 27 by omega), nble h (show 24 < 27 by omega), nble h (show 25 < 27 by omega), nble h (show 26 < 27 by omega)]
theorem rows_La_rule : ∀ pc, am_row (mt_L 93) (mt_R 93) [] [(23, 4, 5, 0)] [] [] [] hk_La_rule (mt_B 93) pc (tb_La_rule pc) = true := by
  have ck : (List.range 27).all (fun pc => am_row (mt_L 93) (mt_R 93) [] [(23, 4, 5, 0)] [] [] [] hk_La_rule (mt_B 93) pc (tb_La_rule pc)) = true := by decide +kernel
  intro pc
  by_cases h : pc < 27
  · exact List.all_eq_true.mp ck pc (List.mem_range.mpr h)
  · rw [nop_La_rule pc (by omega)]
    rfl
theorem chk_La_rule : mt_chk (mt_Y 93).cls (mt_F 93) (mt_Lc 93) [] [(23, 4, 5, 0)] [] [] [] = true := by decide +kernel
theorem hh_La_rule : ∀ pc hs, hk_La_rule pc hs = true → am_hx (mt_B 93) (mt_L 93) pc (mt_Y 93).cls wd_T (mt_H 93) hs := by
  intro pc hs h
  simp only [hk_La_rule, Bool.and_eq_true, decide_eq_true_eq] at h
  obtain ⟨rfl, rfl⟩ := h
  exact ⟨⟨⟨by decide, by decide⟩, by decide, ⟨by decide, by decide⟩, wd_in_T (by decide +kernel), wd_in_T (by decide +kernel), 6, by decide, Or.inl ⟨by decide +kernel, rfl⟩⟩, ⟨⟨⟨by decide, by decide⟩, by decide, ⟨by decide, by decide⟩, wd_in_T (by decide +kernel), wd_in_T (by decide +kernel), 6, by decide, Or.inl ⟨by decide +kernel, rfl⟩⟩, trivial⟩⟩
def hk_La_save (pc : Nat) (hs : List (Nat × Nat)) : Bool := decide (pc = 3) && decide (hs = [(2, 10), (1, 13)])
theorem nop_La_save (pc : Nat) (h : 17 ≤ pc) : tb_La_save pc = am_nop := by
  unfold tb_La_save
  simp only [nble h (show 9 < 17 by omega), nble h (show 13 < 17 by omega), nble h (show 15 < 17 by omega), nble h (show 16 < 17 by omega)]
theorem rows_La_save : ∀ pc, am_row (mt_L 94) (mt_R 94) [] [(27, 5, 3, 0)] [] [] [] hk_La_save (mt_B 94) pc (tb_La_save pc) = true := by
  have ck : (List.range 17).all (fun pc => am_row (mt_L 94) (mt_R 94) [] [(27, 5, 3, 0)] [] [] [] hk_La_save (mt_B 94) pc (tb_La_save pc)) = true := by decide +kernel
  intro pc
  by_cases h : pc < 17
  · exact List.all_eq_true.mp ck pc (List.mem_range.mpr h)
  · rw [nop_La_save pc (by omega)]
    rfl
theorem chk_La_save : mt_chk (mt_Y 94).cls (mt_F 94) (mt_Lc 94) [] [(27, 5, 3, 0)] [] [] [] = true := by decide +kernel
theorem hh_La_save : ∀ pc hs, hk_La_save pc hs = true → am_hx (mt_B 94) (mt_L 94) pc (mt_Y 94).cls wd_T (mt_H 94) hs := by
  intro pc hs h
  simp only [hk_La_save, Bool.and_eq_true, decide_eq_true_eq] at h
  obtain ⟨rfl, rfl⟩ := h
  exact ⟨⟨⟨by decide, by decide⟩, by decide, ⟨by decide, by decide⟩, wd_in_T (by decide +kernel), wd_in_T (by decide +kernel), 3, by decide, Or.inr ⟨⟨3, by decide⟩, rfl, by decide +kernel, rfl⟩⟩, ⟨⟨⟨by decide, by decide⟩, by decide, ⟨by decide, by decide⟩, wd_in_T (by decide +kernel), wd_in_T (by decide +kernel), 3, by decide, Or.inr ⟨⟨3, by decide⟩, rfl, by decide +kernel, rfl⟩⟩, trivial⟩⟩
def hk_La_unwind (pc : Nat) (hs : List (Nat × Nat)) : Bool := decide (pc = 3) && decide (hs = [(3, 12)])
theorem nop_La_unwind (pc : Nat) (h : 16 ≤ pc) : tb_La_unwind pc = am_nop := by
  unfold tb_La_unwind
  simp only [nble h (show 7 < 16 by omega), nble h (show 12 < 16 by omega), nble h (show 14 < 16 by omega), nble h (show 15 < 16 by omega)]
theorem rows_La_unwind : ∀ pc, am_row (mt_L 95) (mt_R 95) [] [(31, 6, 1, 0)] [] [] [] hk_La_unwind (mt_B 95) pc (tb_La_unwind pc) = true := by
  have ck : (List.range 16).all (fun pc => am_row (mt_L 95) (mt_R 95) [] [(31, 6, 1, 0)] [] [] [] hk_La_unwind (mt_B 95) pc (tb_La_unwind pc)) = true := by decide +kernel
  intro pc
  by_cases h : pc < 16
  · exact List.all_eq_true.mp ck pc (List.mem_range.mpr h)
  · rw [nop_La_unwind pc (by omega)]
    rfl
theorem chk_La_unwind : mt_chk (mt_Y 95).cls (mt_F 95) (mt_Lc 95) [] [(31, 6, 1, 0)] [] [] [] = true := by decide +kernel
theorem hh_La_unwind : ∀ pc hs, hk_La_unwind pc hs = true → am_hx (mt_B 95) (mt_L 95) pc (mt_Y 95).cls wd_T (mt_H 95) hs := by
  intro pc hs h
  simp only [hk_La_unwind, Bool.and_eq_true, decide_eq_true_eq] at h
  obtain ⟨rfl, rfl⟩ := h
  exact ⟨⟨⟨by decide, by decide⟩, by decide, ⟨by decide, by decide⟩, wd_in_T (by decide +kernel), wd_in_T (by decide +kernel), 2, by decide, Or.inr ⟨⟨2, by decide⟩, rfl, by decide +kernel, rfl⟩⟩, trivial⟩
def hk_La_frame (pc : Nat) (hs : List (Nat × Nat)) : Bool := decide (pc = 5) && decide (hs = [(4, 15)])
theorem nop_La_frame (pc : Nat) (h : 19 ≤ pc) : tb_La_frame pc = am_nop := by
  unfold tb_La_frame
  simp only [nble h (show 8 < 19 by omega), nble h (show 15 < 19 by omega), nble h (show 17 < 19 by omega), nble h (show 18 < 19 by omega)]
theorem rows_La_frame : ∀ pc, am_row (mt_L 96) (mt_R 96) [] [(35, 7, 3, 0)] [] [] [] hk_La_frame (mt_B 96) pc (tb_La_frame pc) = true := by
  have ck : (List.range 19).all (fun pc => am_row (mt_L 96) (mt_R 96) [] [(35, 7, 3, 0)] [] [] [] hk_La_frame (mt_B 96) pc (tb_La_frame pc)) = true := by decide +kernel
  intro pc
  by_cases h : pc < 19
  · exact List.all_eq_true.mp ck pc (List.mem_range.mpr h)
  · rw [nop_La_frame pc (by omega)]
    rfl
theorem chk_La_frame : mt_chk (mt_Y 96).cls (mt_F 96) (mt_Lc 96) [] [(35, 7, 3, 0)] [] [] [] = true := by decide +kernel
theorem hh_La_frame : ∀ pc hs, hk_La_frame pc hs = true → am_hx (mt_B 96) (mt_L 96) pc (mt_Y 96).cls wd_T (mt_H 96) hs := by
  intro pc hs h
  simp only [hk_La_frame, Bool.and_eq_true, decide_eq_true_eq] at h
  obtain ⟨rfl, rfl⟩ := h
  exact ⟨⟨⟨by decide, by decide⟩, by decide, ⟨by decide, by decide⟩, wd_in_T (by decide +kernel), wd_in_T (by decide +kernel), 4, by decide, Or.inl ⟨by decide +kernel, rfl⟩⟩, trivial⟩
def hk_La_operation (pc : Nat) (hs : List (Nat × Nat)) : Bool := decide (pc = 5) && decide (hs = [(1, 15), (2, 19)])
theorem nop_La_operation (pc : Nat) (h : 23 ≤ pc) : tb_La_operation pc = am_nop := by
  unfold tb_La_operation
  simp only [nble h (show 9 < 23 by omega), nble h (show 18 < 23 by omega), nble h (show 20 < 23 by omega), nble h (show 21 < 23 by omega), nble h (show 22 < 23 by omega)]
theorem rows_La_operation : ∀ pc, am_row (mt_L 97) (mt_R 97) [] [(41, 8, 3, 0)] [] [] [] hk_La_operation (mt_B 97) pc (tb_La_operation pc) = true := by
  have ck : (List.range 23).all (fun pc => am_row (mt_L 97) (mt_R 97) [] [(41, 8, 3, 0)] [] [] [] hk_La_operation (mt_B 97) pc (tb_La_operation pc)) = true := by decide +kernel
  intro pc
  by_cases h : pc < 23
  · exact List.all_eq_true.mp ck pc (List.mem_range.mpr h)
  · rw [nop_La_operation pc (by omega)]
    rfl
theorem chk_La_operation : mt_chk (mt_Y 97).cls (mt_F 97) (mt_Lc 97) [] [(41, 8, 3, 0)] [] [] [] = true := by decide +kernel
theorem hh_La_operation : ∀ pc hs, hk_La_operation pc hs = true → am_hx (mt_B 97) (mt_L 97) pc (mt_Y 97).cls wd_T (mt_H 97) hs := by
  intro pc hs h
  simp only [hk_La_operation, Bool.and_eq_true, decide_eq_true_eq] at h
  obtain ⟨rfl, rfl⟩ := h
  exact ⟨⟨⟨by decide, by decide⟩, by decide, ⟨by decide, by decide⟩, wd_in_T (by decide +kernel), wd_in_T (by decide +kernel), 4, by decide, Or.inl ⟨by decide +kernel, rfl⟩⟩, ⟨⟨⟨by decide, by decide⟩, by decide, ⟨by decide, by decide⟩, wd_in_T (by decide +kernel), wd_in_T (by decide +kernel), 4, by decide, Or.inl ⟨by decide +kernel, rfl⟩⟩, trivial⟩⟩
def hk_La_evaluate (pc : Nat) (hs : List (Nat × Nat)) : Bool := decide (pc = 4) && decide (hs = [(4, 13), (2, 16), (5, 19), (1, 22), (3, 25)])
theorem nop_La_evaluate (pc : Nat) (h : 29 ≤ pc) : tb_La_evaluate pc = am_nop := by
  unfold tb_La_evaluate
  simp only [nble h (show 15 < 29 by omega), nble h (show 22 < 29 by omega), nble h (show 25 < 29 by omega), nble h (show 27 < 29 by omega), nble h (show 28 < 29 by omega)]
theorem rows_La_evaluate : ∀ pc, am_row (mt_L 98) (mt_R 98) [] [(44, 10, 2, 0)] [] [] [] hk_La_evaluate (mt_B 98) pc (tb_La_evaluate pc) = true := by
  have ck : (List.range 29).all (fun pc => am_row (mt_L 98) (mt_R 98) [] [(44, 10, 2, 0)] [] [] [] hk_La_evaluate (mt_B 98) pc (tb_La_evaluate pc)) = true := by decide +kernel
  intro pc
  by_cases h : pc < 29
  · exact List.all_eq_true.mp ck pc (List.mem_range.mpr h)
  · rw [nop_La_evaluate pc (by omega)]
    rfl
theorem chk_La_evaluate : mt_chk (mt_Y 98).cls (mt_F 98) (mt_Lc 98) [] [(44, 10, 2, 0)] [] [] [] = true := by decide +kernel
theorem hh_La_evaluate : ∀ pc hs, hk_La_evaluate pc hs = true → am_hx (mt_B 98) (mt_L 98) pc (mt_Y 98).cls wd_T (mt_H 98) hs := by
  intro pc hs h
  simp only [hk_La_evaluate, Bool.and_eq_true, decide_eq_true_eq] at h
  obtain ⟨rfl, rfl⟩ := h
  exact ⟨⟨⟨by decide, by decide⟩, by decide, ⟨by decide, by decide⟩, wd_in_T (by decide +kernel), wd_in_T (by decide +kernel), 3, by decide, Or.inr ⟨⟨3, by decide⟩, rfl, by decide +kernel, rfl⟩⟩, ⟨⟨⟨by decide, by decide⟩, by decide, ⟨by decide, by decide⟩, wd_in_T (by decide +kernel), wd_in_T (by decide +kernel), 3, by decide, Or.inr ⟨⟨3, by decide⟩, rfl, by decide +kernel, rfl⟩⟩, ⟨⟨⟨by decide, by decide⟩, by decide, ⟨by decide, by decide⟩, wd_in_T (by decide +kernel), wd_in_T (by decide +kernel), 3, by decide, Or.inr ⟨⟨3, by decide⟩, rfl, by decide +kernel, rfl⟩⟩, ⟨⟨⟨by decide, by decide⟩, by decide, ⟨by decide, by decide⟩, wd_in_T (by decide +kernel), wd_in_T (by decide +kernel), 3, by decide, Or.inr ⟨⟨3, by decide⟩, rfl, by decide +kernel, rfl⟩⟩, ⟨⟨⟨by decide, by decide⟩, by decide, ⟨by decide, by decide⟩, wd_in_T (by decide +kernel), wd_in_T (by decide +kernel), 3, by decide, Or.inr ⟨⟨3, by decide⟩, rfl, by decide +kernel, rfl⟩⟩, trivial⟩⟩⟩⟩⟩
section HM
variable {l : Launch} {D : va_G} {t : Nat → ClassId} {ad : Nat → Nat} {A : Nat → Prop} {H0 : Heap} {sc : am_S}
theorem mt_91 (hfl0 : l.flags = pinnedFlags ++ [noTraceFlag]) (hA : ∀ q, A q → H0.size ≤ q) (hbl : ad 900 < H0.size) : am_MT l D t ad A H0 sc 91 :=
  mt_hand hfl0 hA hbl (j := 91) rfl (by decide) (by decide) chk_La_fault rows_La_fault (ok_La_fault sc am_CT ct_1) (fun _ _ _ _ _ _ h => h) hh_La_fault
  (fun q hq => by
    simp only [List.mem_cons, List.not_mem_nil, or_false] at hq
    subst hq
    exact mt_1 hfl0 hA hbl)
  (fun q hq => by cases hq)
theorem mt_92 (hfl0 : l.flags = pinnedFlags ++ [noTraceFlag]) (hA : ∀ q, A q → H0.size ≤ q) (hbl : ad 900 < H0.size) : am_MT l D t ad A H0 sc 92 :=
  mt_hand hfl0 hA hbl (j := 92) rfl (by decide) (by decide) chk_La_request rows_La_request (ok_La_request sc am_CT ct_2) (fun _ _ _ _ _ _ h => h) hh_La_request
  (fun q hq => by
    simp only [List.mem_cons, List.not_mem_nil, or_false] at hq
    subst hq
    exact mt_2 hfl0 hA hbl)
  (fun q hq => by cases hq)
theorem mt_93 (hfl0 : l.flags = pinnedFlags ++ [noTraceFlag]) (hA : ∀ q, A q → H0.size ≤ q) (hbl : ad 900 < H0.size) : am_MT l D t ad A H0 sc 93 :=
  mt_hand hfl0 hA hbl (j := 93) rfl (by decide) (by decide) chk_La_rule rows_La_rule (ok_La_rule sc am_CT ct_4) (fun _ _ _ _ _ _ h => h) hh_La_rule
  (fun q hq => by
    simp only [List.mem_cons, List.not_mem_nil, or_false] at hq
    subst hq
    exact mt_4 hfl0 hA hbl)
  (fun q hq => by cases hq)
theorem mt_94 (hfl0 : l.flags = pinnedFlags ++ [noTraceFlag]) (hA : ∀ q, A q → H0.size ≤ q) (hbl : ad 900 < H0.size) : am_MT l D t ad A H0 sc 94 :=
  mt_hand hfl0 hA hbl (j := 94) rfl (by decide) (by decide) chk_La_save rows_La_save (ok_La_save sc am_CT ct_5) (fun _ _ _ _ _ _ h => h) hh_La_save
  (fun q hq => by
    simp only [List.mem_cons, List.not_mem_nil, or_false] at hq
    subst hq
    exact mt_5 hfl0 hA hbl)
  (fun q hq => by cases hq)
theorem mt_95 (hfl0 : l.flags = pinnedFlags ++ [noTraceFlag]) (hA : ∀ q, A q → H0.size ≤ q) (hbl : ad 900 < H0.size) : am_MT l D t ad A H0 sc 95 :=
  mt_hand hfl0 hA hbl (j := 95) rfl (by decide) (by decide) chk_La_unwind rows_La_unwind (ok_La_unwind sc am_CT ct_6) (fun _ _ _ _ _ _ h => h) hh_La_unwind
  (fun q hq => by
    simp only [List.mem_cons, List.not_mem_nil, or_false] at hq
    subst hq
    exact mt_6 hfl0 hA hbl)
  (fun q hq => by cases hq)
theorem mt_96 (hfl0 : l.flags = pinnedFlags ++ [noTraceFlag]) (hA : ∀ q, A q → H0.size ≤ q) (hbl : ad 900 < H0.size) : am_MT l D t ad A H0 sc 96 :=
  mt_hand hfl0 hA hbl (j := 96) rfl (by decide) (by decide) chk_La_frame rows_La_frame (ok_La_frame sc am_CT ct_7) (fun _ _ _ _ _ _ h => h) hh_La_frame
  (fun q hq => by
    simp only [List.mem_cons, List.not_mem_nil, or_false] at hq
    subst hq
    exact mt_7 hfl0 hA hbl)
  (fun q hq => by cases hq)
theorem mt_97 (hfl0 : l.flags = pinnedFlags ++ [noTraceFlag]) (hA : ∀ q, A q → H0.size ≤ q) (hbl : ad 900 < H0.size) : am_MT l D t ad A H0 sc 97 :=
  mt_hand hfl0 hA hbl (j := 97) rfl (by decide) (by decide) chk_La_operation rows_La_operation (ok_La_operation sc am_CT ct_8) (fun _ _ _ _ _ _ h => h) hh_La_operation
  (fun q hq => by
    simp only [List.mem_cons, List.not_mem_nil, or_false] at hq
    subst hq
    exact mt_8 hfl0 hA hbl)
  (fun q hq => by cases hq)
theorem mt_98 (hfl0 : l.flags = pinnedFlags ++ [noTraceFlag]) (hA : ∀ q, A q → H0.size ≤ q) (hbl : ad 900 < H0.size) : am_MT l D t ad A H0 sc 98 :=
  mt_hand hfl0 hA hbl (j := 98) rfl (by decide) (by decide) chk_La_evaluate rows_La_evaluate (ok_La_evaluate sc am_CT ct_10) (fun _ _ _ _ _ _ h => h) hh_La_evaluate
  (fun q hq => by
    simp only [List.mem_cons, List.not_mem_nil, or_false] at hq
    subst hq
    exact mt_10 hfl0 hA hbl)
  (fun q hq => by cases hq)
end HM
