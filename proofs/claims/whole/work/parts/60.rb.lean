/-! The tables against the bytes: the reference. -/
theorem nop_Mo_thrown (pc : Nat) (h : 5 ≤ pc) : tb_Mo_thrown pc = am_nop := by
  unfold tb_Mo_thrown
  simp only [nble h (show 1 < 5 by omega), nble h (show 3 < 5 by omega), nble h (show 4 < 5 by omega)]
theorem rows_Mo_thrown : ∀ pc, am_row (mt_L 15) (mt_R 15) [(61, 8, 35)] [] [] [] [] mt_noh (mt_B 15) pc (tb_Mo_thrown pc) = true := by
  have ck : (List.range 5).all (fun pc => am_row (mt_L 15) (mt_R 15) [(61, 8, 35)] [] [] [] [] mt_noh (mt_B 15) pc (tb_Mo_thrown pc)) = true := by decide +kernel
  intro pc
  by_cases h : pc < 5
  · exact List.all_eq_true.mp ck pc (List.mem_range.mpr h)
  · rw [nop_Mo_thrown pc (by omega)]
    rfl
theorem nop_Mo_isAddress (pc : Nat) (h : 16 ≤ pc) : tb_Mo_isAddress pc = am_nop := by
  unfold tb_Mo_isAddress
  simp only [nble h (show 7 < 16 by omega), nble h (show 11 < 16 by omega), nble h (show 14 < 16 by omega), nble h (show 15 < 16 by omega)]
theorem rows_Mo_isAddress : ∀ pc, am_row (mt_L 16) (mt_R 16) [] [] [] [] [] mt_noh (mt_B 16) pc (tb_Mo_isAddress pc) = true := by
  have ck : (List.range 16).all (fun pc => am_row (mt_L 16) (mt_R 16) [] [] [] [] [] mt_noh (mt_B 16) pc (tb_Mo_isAddress pc)) = true := by decide +kernel
  intro pc
  by_cases h : pc < 16
  · exact List.all_eq_true.mp ck pc (List.mem_range.mpr h)
  · rw [nop_Mo_isAddress pc (by omega)]
    rfl
theorem nop_Mo_load (pc : Nat) (h : 23 ≤ pc) : tb_Mo_load pc = am_nop := by
  unfold tb_Mo_load
  simp only [nble h (show 12 < 23 by omega), nble h (show 18 < 23 by omega), nble h (show 20 < 23 by omega), nble h (show 21 < 23 by omega), nble h (show 22 < 23 by omega)]
theorem rows_Mo_load : ∀ pc, am_row (mt_L 17) (mt_R 17) [(7, 8, 0), (61, 8, 35)] [] [(65, 16, 1)] [] [] mt_noh (mt_B 17) pc (tb_Mo_load pc) = true := by
  have ck : (List.range 23).all (fun pc => am_row (mt_L 17) (mt_R 17) [(7, 8, 0), (61, 8, 35)] [] [(65, 16, 1)] [] [] mt_noh (mt_B 17) pc (tb_Mo_load pc)) = true := by decide +kernel
  intro pc
  by_cases h : pc < 23
  · exact List.all_eq_true.mp ck pc (List.mem_range.mpr h)
  · rw [nop_Mo_load pc (by omega)]
    rfl
theorem nop_Mo_breakOf (pc : Nat) (h : 30 ≤ pc) : tb_Mo_breakOf pc = am_nop := by
  unfold tb_Mo_breakOf
  simp only [nble h (show 14 < 30 by omega), nble h (show 21 < 30 by omega), nble h (show 25 < 30 by omega), nble h (show 28 < 30 by omega), nble h (show 29 < 30 by omega)]
theorem rows_Mo_breakOf : ∀ pc, am_row (mt_L 18) (mt_R 18) [(16, 8, 5), (69, 8, 4)] [] [] [] [] mt_noh (mt_B 18) pc (tb_Mo_breakOf pc) = true := by
  have ck : (List.range 30).all (fun pc => am_row (mt_L 18) (mt_R 18) [(16, 8, 5), (69, 8, 4)] [] [] [] [] mt_noh (mt_B 18) pc (tb_Mo_breakOf pc)) = true := by decide +kernel
  intro pc
  by_cases h : pc < 30
  · exact List.all_eq_true.mp ck pc (List.mem_range.mpr h)
  · rw [nop_Mo_breakOf pc (by omega)]
    rfl
theorem nop_Mo_done (pc : Nat) (h : 17 ≤ pc) : tb_Mo_done pc = am_nop := by
  unfold tb_Mo_done
  simp only [nble h (show 7 < 17 by omega), nble h (show 12 < 17 by omega), nble h (show 15 < 17 by omega), nble h (show 16 < 17 by omega)]
theorem rows_Mo_done : ∀ pc, am_row (mt_L 19) (mt_R 19) [(72, 8, 2), (75, 8, 3)] [] [] [] [] mt_noh (mt_B 19) pc (tb_Mo_done pc) = true := by
  have ck : (List.range 17).all (fun pc => am_row (mt_L 19) (mt_R 19) [(72, 8, 2), (75, 8, 3)] [] [] [] [] mt_noh (mt_B 19) pc (tb_Mo_done pc)) = true := by decide +kernel
  intro pc
  by_cases h : pc < 17
  · exact List.all_eq_true.mp ck pc (List.mem_range.mpr h)
  · rw [nop_Mo_done pc (by omega)]
    rfl
theorem nop_Mo_set (pc : Nat) (h : 18 ≤ pc) : tb_Mo_set pc = am_nop := by
  unfold tb_Mo_set
  simp only [nble h (show 8 < 18 by omega), nble h (show 13 < 18 by omega), nble h (show 16 < 18 by omega), nble h (show 17 < 18 by omega)]
theorem rows_Mo_set : ∀ pc, am_row (mt_L 20) (mt_R 20) [(13, 8, 1), (72, 8, 2)] [(78, 19, 2, 8)] [] [] [] mt_noh (mt_B 20) pc (tb_Mo_set pc) = true := by
  have ck : (List.range 18).all (fun pc => am_row (mt_L 20) (mt_R 20) [(13, 8, 1), (72, 8, 2)] [(78, 19, 2, 8)] [] [] [] mt_noh (mt_B 20) pc (tb_Mo_set pc)) = true := by decide +kernel
  intro pc
  by_cases h : pc < 18
  · exact List.all_eq_true.mp ck pc (List.mem_range.mpr h)
  · rw [nop_Mo_set pc (by omega)]
    rfl
theorem nop_Mo_moved (pc : Nat) (h : 50 ≤ pc) : tb_Mo_moved pc = am_nop := by
  unfold tb_Mo_moved
  simp only [nble h (show 25 < 50 by omega), nble h (show 37 < 50 by omega), nble h (show 43 < 50 by omega), nble h (show 46 < 50 by omega), nble h (show 48 < 50 by omega), nble h (show 49 < 50 by omega)]
theorem rows_Mo_moved : ∀ pc, am_row (mt_L 21) (mt_R 21) [(7, 8, 0), (13, 8, 1), (72, 8, 2)] [(78, 19, 2, 8), (82, 20, 3, 8)] [(65, 16, 1)] [] [] mt_noh (mt_B 21) pc (tb_Mo_moved pc) = true := by
  have ck : (List.range 50).all (fun pc => am_row (mt_L 21) (mt_R 21) [(7, 8, 0), (13, 8, 1), (72, 8, 2)] [(78, 19, 2, 8), (82, 20, 3, 8)] [(65, 16, 1)] [] [] mt_noh (mt_B 21) pc (tb_Mo_moved pc)) = true := by decide +kernel
  intro pc
  by_cases h : pc < 50
  · exact List.all_eq_true.mp ck pc (List.mem_range.mpr h)
  · rw [nop_Mo_moved pc (by omega)]
    rfl
theorem nop_Mo_step (pc : Nat) (h : 367 ≤ pc) : tb_Mo_step pc = am_nop := by
  unfold tb_Mo_step
  simp only [nble h (show 218 < 367 by omega), nble h (show 290 < 367 by omega), nble h (show 329 < 367 by omega), nble h (show 348 < 367 by omega), nble h (show 358 < 367 by omega), nble h (show 363 < 367 by omega), nble h (show 365 < 367 by omega), nble h (show 366 < 367 by omega)]
theorem rows_Mo_step : ∀ pc, am_row (mt_L 22) (mt_R 22) [(7, 8, 0), (13, 8, 1), (19, 8, 6), (72, 8, 2)] [(78, 19, 2, 8), (82, 20, 3, 8), (86, 18, 2, 8), (89, 21, 4, 8)] [(65, 16, 1)] [] [] mt_noh (mt_B 22) pc (tb_Mo_step pc) = true := by
  have ck : (List.range 367).all (fun pc => am_row (mt_L 22) (mt_R 22) [(7, 8, 0), (13, 8, 1), (19, 8, 6), (72, 8, 2)] [(78, 19, 2, 8), (82, 20, 3, 8), (86, 18, 2, 8), (89, 21, 4, 8)] [(65, 16, 1)] [] [] mt_noh (mt_B 22) pc (tb_Mo_step pc)) = true := by decide +kernel
  intro pc
  by_cases h : pc < 367
  · exact List.all_eq_true.mp ck pc (List.mem_range.mpr h)
  · rw [nop_Mo_step pc (by omega)]
    rfl
theorem nop_Mo_steps (pc : Nat) (h : 65 ≤ pc) : tb_Mo_steps pc = am_nop := by
  unfold tb_Mo_steps
  simp only [nble h (show 31 < 65 by omega), nble h (show 48 < 65 by omega), nble h (show 56 < 65 by omega), nble h (show 60 < 65 by omega), nble h (show 63 < 65 by omega), nble h (show 64 < 65 by omega)]
theorem rows_Mo_steps : ∀ pc, am_row (mt_L 23) (mt_R 23) [(7, 8, 0), (72, 8, 2)] [(93, 22, 2, 8)] [(65, 16, 1)] [] [] mt_noh (mt_B 23) pc (tb_Mo_steps pc) = true := by
  have ck : (List.range 65).all (fun pc => am_row (mt_L 23) (mt_R 23) [(7, 8, 0), (72, 8, 2)] [(93, 22, 2, 8)] [(65, 16, 1)] [] [] mt_noh (mt_B 23) pc (tb_Mo_steps pc)) = true := by decide +kernel
  intro pc
  by_cases h : pc < 65
  · exact List.all_eq_true.mp ck pc (List.mem_range.mpr h)
  · rw [nop_Mo_steps pc (by omega)]
    rfl
theorem nop_Mo_answer (pc : Nat) (h : 19 ≤ pc) : tb_Mo_answer pc = am_nop := by
  unfold tb_Mo_answer
  simp only [nble h (show 9 < 19 by omega), nble h (show 14 < 19 by omega), nble h (show 17 < 19 by omega), nble h (show 18 < 19 by omega)]
theorem rows_Mo_answer : ∀ pc, am_row (mt_L 24) (mt_R 24) [(97, 8, 8), (100, 8, 9)] [] [] [] [] mt_noh (mt_B 24) pc (tb_Mo_answer pc) = true := by
  have ck : (List.range 19).all (fun pc => am_row (mt_L 24) (mt_R 24) [(97, 8, 8), (100, 8, 9)] [] [] [] [] mt_noh (mt_B 24) pc (tb_Mo_answer pc)) = true := by decide +kernel
  intro pc
  by_cases h : pc < 19
  · exact List.all_eq_true.mp ck pc (List.mem_range.mpr h)
  · rw [nop_Mo_answer pc (by omega)]
    rfl
theorem nop_Mo_putBreak (pc : Nat) (h : 80 ≤ pc) : tb_Mo_putBreak pc = am_nop := by
  unfold tb_Mo_putBreak
  simp only [nble h (show 40 < 80 by omega), nble h (show 60 < 80 by omega), nble h (show 69 < 80 by omega), nble h (show 74 < 80 by omega), nble h (show 76 < 80 by omega), nble h (show 78 < 80 by omega), nble h (show 79 < 80 by omega)]
theorem rows_Mo_putBreak : ∀ pc, am_row (mt_L 25) (mt_R 25) [(7, 8, 0), (16, 8, 5), (19, 8, 6), (69, 8, 4)] [(86, 18, 2, 8), (103, 24, 3, 8)] [(65, 16, 1)] [] [] mt_noh (mt_B 25) pc (tb_Mo_putBreak pc) = true := by
  have ck : (List.range 80).all (fun pc => am_row (mt_L 25) (mt_R 25) [(7, 8, 0), (16, 8, 5), (19, 8, 6), (69, 8, 4)] [(86, 18, 2, 8), (103, 24, 3, 8)] [(65, 16, 1)] [] [] mt_noh (mt_B 25) pc (tb_Mo_putBreak pc)) = true := by decide +kernel
  intro pc
  by_cases h : pc < 80
  · exact List.all_eq_true.mp ck pc (List.mem_range.mpr h)
  · rw [nop_Mo_putBreak pc (by omega)]
    rfl
theorem nop_Mo_takeBreak (pc : Nat) (h : 90 ≤ pc) : tb_Mo_takeBreak pc = am_nop := by
  unfold tb_Mo_takeBreak
  simp only [nble h (show 43 < 90 by omega), nble h (show 67 < 90 by omega), nble h (show 77 < 90 by omega), nble h (show 84 < 90 by omega), nble h (show 86 < 90 by omega), nble h (show 88 < 90 by omega), nble h (show 89 < 90 by omega)]
theorem rows_Mo_takeBreak : ∀ pc, am_row (mt_L 26) (mt_R 26) [(7, 8, 0), (16, 8, 5), (19, 8, 6), (69, 8, 4)] [(86, 18, 2, 8), (103, 24, 3, 8)] [] [] [] mt_noh (mt_B 26) pc (tb_Mo_takeBreak pc) = true := by
  have ck : (List.range 90).all (fun pc => am_row (mt_L 26) (mt_R 26) [(7, 8, 0), (16, 8, 5), (19, 8, 6), (69, 8, 4)] [(86, 18, 2, 8), (103, 24, 3, 8)] [] [] [] mt_noh (mt_B 26) pc (tb_Mo_takeBreak pc)) = true := by decide +kernel
  intro pc
  by_cases h : pc < 90
  · exact List.all_eq_true.mp ck pc (List.mem_range.mpr h)
  · rw [nop_Mo_takeBreak pc (by omega)]
    rfl
theorem nop_Mo_word (pc : Nat) (h : 87 ≤ pc) : tb_Mo_word pc = am_nop := by
  unfold tb_Mo_word
  simp only [nble h (show 42 < 87 by omega), nble h (show 64 < 87 by omega), nble h (show 76 < 87 by omega), nble h (show 81 < 87 by omega), nble h (show 83 < 87 by omega), nble h (show 85 < 87 by omega), nble h (show 86 < 87 by omega)]
theorem rows_Mo_word : ∀ pc, am_row (mt_L 27) (mt_R 27) [(7, 8, 0), (19, 8, 6)] [(86, 18, 2, 8), (103, 24, 3, 8)] [(65, 16, 1)] [] [] mt_noh (mt_B 27) pc (tb_Mo_word pc) = true := by
  have ck : (List.range 87).all (fun pc => am_row (mt_L 27) (mt_R 27) [(7, 8, 0), (19, 8, 6)] [(86, 18, 2, 8), (103, 24, 3, 8)] [(65, 16, 1)] [] [] mt_noh (mt_B 27) pc (tb_Mo_word pc)) = true := by decide +kernel
  intro pc
  by_cases h : pc < 87
  · exact List.all_eq_true.mp ck pc (List.mem_range.mpr h)
  · rw [nop_Mo_word pc (by omega)]
    rfl
theorem nop_Mo_perform (pc : Nat) (h : 231 ≤ pc) : tb_Mo_perform pc = am_nop := by
  unfold tb_Mo_perform
  simp only [nble h (show 135 < 231 by omega), nble h (show 184 < 231 by omega), nble h (show 207 < 231 by omega), nble h (show 219 < 231 by omega), nble h (show 225 < 231 by omega), nble h (show 227 < 231 by omega), nble h (show 229 < 231 by omega), nble h (show 230 < 231 by omega)]
theorem rows_Mo_perform : ∀ pc, am_row (mt_L 28) (mt_R 28) [(13, 8, 1), (72, 8, 2)] [(93, 22, 2, 8), (103, 24, 3, 8), (107, 27, 4, 8), (111, 25, 2, 8), (115, 26, 2, 8), (118, 23, 2, 8)] [] [] [] mt_noh (mt_B 28) pc (tb_Mo_perform pc) = true := by
  have ck : (List.range 231).all (fun pc => am_row (mt_L 28) (mt_R 28) [(13, 8, 1), (72, 8, 2)] [(93, 22, 2, 8), (103, 24, 3, 8), (107, 27, 4, 8), (111, 25, 2, 8), (115, 26, 2, 8), (118, 23, 2, 8)] [] [] [] mt_noh (mt_B 28) pc (tb_Mo_perform pc)) = true := by decide +kernel
  intro pc
  by_cases h : pc < 231
  · exact List.all_eq_true.mp ck pc (List.mem_range.mpr h)
  · rw [nop_Mo_perform pc (by omega)]
    rfl
theorem nop_Mo_put (pc : Nat) (h : 32 ≤ pc) : tb_Mo_put pc = am_nop := by
  unfold tb_Mo_put
  simp only [nble h (show 15 < 32 by omega), nble h (show 23 < 32 by omega), nble h (show 27 < 32 by omega), nble h (show 30 < 32 by omega), nble h (show 31 < 32 by omega)]
theorem rows_Mo_put : ∀ pc, am_row (mt_L 29) (mt_R 29) [(25, 8, 12)] [] [] [] [] mt_noh (mt_B 29) pc (tb_Mo_put pc) = true := by
  have ck : (List.range 32).all (fun pc => am_row (mt_L 29) (mt_R 29) [(25, 8, 12)] [] [] [] [] mt_noh (mt_B 29) pc (tb_Mo_put pc)) = true := by decide +kernel
  intro pc
  by_cases h : pc < 32
  · exact List.all_eq_true.mp ck pc (List.mem_range.mpr h)
  · rw [nop_Mo_put pc (by omega)]
    rfl
theorem nop_Mo_sum (pc : Nat) (h : 30 ≤ pc) : tb_Mo_sum pc = am_nop := by
  unfold tb_Mo_sum
  simp only [nble h (show 14 < 30 by omega), nble h (show 21 < 30 by omega), nble h (show 25 < 30 by omega), nble h (show 28 < 30 by omega), nble h (show 29 < 30 by omega)]
theorem rows_Mo_sum : ∀ pc, am_row (mt_L 30) (mt_R 30) [(25, 8, 12)] [] [] [] [] mt_noh (mt_B 30) pc (tb_Mo_sum pc) = true := by
  have ck : (List.range 30).all (fun pc => am_row (mt_L 30) (mt_R 30) [(25, 8, 12)] [] [] [] [] mt_noh (mt_B 30) pc (tb_Mo_sum pc)) = true := by decide +kernel
  intro pc
  by_cases h : pc < 30
  · exact List.all_eq_true.mp ck pc (List.mem_range.mpr h)
  · rw [nop_Mo_sum pc (by omega)]
    rfl
theorem nop_Mo_read (pc : Nat) (h : 43 ≤ pc) : tb_Mo_read pc = am_nop := by
  unfold tb_Mo_read
  simp only [nble h (show 22 < 43 by omega), nble h (show 33 < 43 by omega), nble h (show 38 < 43 by omega), nble h (show 40 < 43 by omega), nble h (show 41 < 43 by omega), nble h (show 42 < 43 by omega)]
theorem rows_Mo_read : ∀ pc, am_row (mt_L 31) (mt_R 31) [(25, 8, 12)] [] [] [] [] mt_noh (mt_B 31) pc (tb_Mo_read pc) = true := by
  have ck : (List.range 43).all (fun pc => am_row (mt_L 31) (mt_R 31) [(25, 8, 12)] [] [] [] [] mt_noh (mt_B 31) pc (tb_Mo_read pc)) = true := by decide +kernel
  intro pc
  by_cases h : pc < 43
  · exact List.all_eq_true.mp ck pc (List.mem_range.mpr h)
  · rw [nop_Mo_read pc (by omega)]
    rfl
theorem nop_Mo_arrives (pc : Nat) (h : 142 ≤ pc) : tb_Mo_arrives pc = am_nop := by
  unfold tb_Mo_arrives
  simp only [nble h (show 72 < 142 by omega), nble h (show 104 < 142 by omega), nble h (show 123 < 142 by omega), nble h (show 132 < 142 by omega), nble h (show 137 < 142 by omega), nble h (show 140 < 142 by omega), nble h (show 141 < 142 by omega)]
theorem rows_Mo_arrives : ∀ pc, am_row (mt_L 32) (mt_R 32) [(22, 8, 11), (25, 8, 12), (121, 8, 10), (127, 8, 18)] [(124, 30, 2, 8)] [] [] [] mt_noh (mt_B 32) pc (tb_Mo_arrives pc) = true := by
  have ck : (List.range 142).all (fun pc => am_row (mt_L 32) (mt_R 32) [(22, 8, 11), (25, 8, 12), (121, 8, 10), (127, 8, 18)] [(124, 30, 2, 8)] [] [] [] mt_noh (mt_B 32) pc (tb_Mo_arrives pc)) = true := by decide +kernel
  intro pc
  by_cases h : pc < 142
  · exact List.all_eq_true.mp ck pc (List.mem_range.mpr h)
  · rw [nop_Mo_arrives pc (by omega)]
    rfl
theorem nop_Mo_sendOut (pc : Nat) (h : 94 ≤ pc) : tb_Mo_sendOut pc = am_nop := by
  unfold tb_Mo_sendOut
  simp only [nble h (show 46 < 94 by omega), nble h (show 69 < 94 by omega), nble h (show 82 < 94 by omega), nble h (show 88 < 94 by omega), nble h (show 90 < 94 by omega), nble h (show 92 < 94 by omega), nble h (show 93 < 94 by omega)]
theorem rows_Mo_sendOut : ∀ pc, am_row (mt_L 33) (mt_R 33) [(25, 8, 12), (28, 8, 13), (130, 8, 14), (136, 8, 16)] [(124, 30, 2, 8), (133, 29, 3, 8), (139, 32, 2, 8)] [] [] [] mt_noh (mt_B 33) pc (tb_Mo_sendOut pc) = true := by
  have ck : (List.range 94).all (fun pc => am_row (mt_L 33) (mt_R 33) [(25, 8, 12), (28, 8, 13), (130, 8, 14), (136, 8, 16)] [(124, 30, 2, 8), (133, 29, 3, 8), (139, 32, 2, 8)] [] [] [] mt_noh (mt_B 33) pc (tb_Mo_sendOut pc)) = true := by decide +kernel
  intro pc
  by_cases h : pc < 94
  · exact List.all_eq_true.mp ck pc (List.mem_range.mpr h)
  · rw [nop_Mo_sendOut pc (by omega)]
    rfl
theorem nop_Mo_answered (pc : Nat) (h : 132 ≤ pc) : tb_Mo_answered pc = am_nop := by
  unfold tb_Mo_answered
  simp only [nble h (show 66 < 132 by omega), nble h (show 99 < 132 by omega), nble h (show 115 < 132 by omega), nble h (show 124 < 132 by omega), nble h (show 127 < 132 by omega), nble h (show 130 < 132 by omega), nble h (show 131 < 132 by omega)]
theorem rows_Mo_answered : ∀ pc, am_row (mt_L 34) (mt_R 34) [(25, 8, 12), (28, 8, 13), (97, 8, 8), (100, 8, 9), (142, 8, 7), (152, 8, 17)] [(124, 30, 2, 8), (133, 29, 3, 8), (139, 32, 2, 8), (145, 31, 2, 8), (148, 28, 4, 8)] [] [] [] mt_noh (mt_B 34) pc (tb_Mo_answered pc) = true := by
  have ck : (List.range 132).all (fun pc => am_row (mt_L 34) (mt_R 34) [(25, 8, 12), (28, 8, 13), (97, 8, 8), (100, 8, 9), (142, 8, 7), (152, 8, 17)] [(124, 30, 2, 8), (133, 29, 3, 8), (139, 32, 2, 8), (145, 31, 2, 8), (148, 28, 4, 8)] [] [] [] mt_noh (mt_B 34) pc (tb_Mo_answered pc)) = true := by decide +kernel
  intro pc
  by_cases h : pc < 132
  · exact List.all_eq_true.mp ck pc (List.mem_range.mpr h)
  · rw [nop_Mo_answered pc (by omega)]
    rfl
theorem nop_Mo_ask (pc : Nat) (h : 74 ≤ pc) : tb_Mo_ask pc = am_nop := by
  unfold tb_Mo_ask
  simp only [nble h (show 35 < 74 by omega), nble h (show 55 < 74 by omega), nble h (show 64 < 74 by omega), nble h (show 69 < 74 by omega), nble h (show 72 < 74 by omega), nble h (show 73 < 74 by omega)]
theorem rows_Mo_ask : ∀ pc, am_row (mt_L 35) (mt_R 35) [(25, 8, 12), (130, 8, 14), (155, 8, 15), (166, 8, 19)] [(145, 31, 2, 8), (158, 33, 4, 8), (162, 34, 1, 8)] [] [] [] mt_noh (mt_B 35) pc (tb_Mo_ask pc) = true := by
  have ck : (List.range 74).all (fun pc => am_row (mt_L 35) (mt_R 35) [(25, 8, 12), (130, 8, 14), (155, 8, 15), (166, 8, 19)] [(145, 31, 2, 8), (158, 33, 4, 8), (162, 34, 1, 8)] [] [] [] mt_noh (mt_B 35) pc (tb_Mo_ask pc)) = true := by decide +kernel
  intro pc
  by_cases h : pc < 74
  · exact List.all_eq_true.mp ck pc (List.mem_range.mpr h)
  · rw [nop_Mo_ask pc (by omega)]
    rfl
theorem nop_Mo_fault (pc : Nat) (h : 60 ≤ pc) : tb_Mo_fault pc = am_nop := by
  unfold tb_Mo_fault
  simp only [nble h (show 30 < 60 by omega), nble h (show 45 < 60 by omega), nble h (show 52 < 60 by omega), nble h (show 56 < 60 by omega), nble h (show 58 < 60 by omega), nble h (show 59 < 60 by omega)]
theorem rows_Mo_fault : ∀ pc, am_row (mt_L 36) (mt_R 36) [(22, 8, 11), (61, 8, 35), (121, 8, 10)] [] [] [] [] mt_noh (mt_B 36) pc (tb_Mo_fault pc) = true := by
  have ck : (List.range 60).all (fun pc => am_row (mt_L 36) (mt_R 36) [(22, 8, 11), (61, 8, 35), (121, 8, 10)] [] [] [] [] mt_noh (mt_B 36) pc (tb_Mo_fault pc)) = true := by decide +kernel
  intro pc
  by_cases h : pc < 60
  · exact List.all_eq_true.mp ck pc (List.mem_range.mpr h)
  · rw [nop_Mo_fault pc (by omega)]
    rfl
theorem nop_Mo_request (pc : Nat) (h : 78 ≤ pc) : tb_Mo_request pc = am_nop := by
  unfold tb_Mo_request
  simp only [nble h (show 37 < 78 by omega), nble h (show 57 < 78 by omega), nble h (show 68 < 78 by omega), nble h (show 73 < 78 by omega), nble h (show 76 < 78 by omega), nble h (show 77 < 78 by omega)]
theorem rows_Mo_request : ∀ pc, am_row (mt_L 37) (mt_R 37) [(61, 8, 35), (166, 8, 19)] [(169, 35, 4, 8)] [] [] [] mt_noh (mt_B 37) pc (tb_Mo_request pc) = true := by
  have ck : (List.range 78).all (fun pc => am_row (mt_L 37) (mt_R 37) [(61, 8, 35), (166, 8, 19)] [(169, 35, 4, 8)] [] [] [] mt_noh (mt_B 37) pc (tb_Mo_request pc)) = true := by decide +kernel
  intro pc
  by_cases h : pc < 78
  · exact List.all_eq_true.mp ck pc (List.mem_range.mpr h)
  · rw [nop_Mo_request pc (by omega)]
    rfl
theorem nop_Mo_byteAt (pc : Nat) (h : 50 ≤ pc) : tb_Mo_byteAt pc = am_nop := by
  unfold tb_Mo_byteAt
  simp only [nble h (show 25 < 50 by omega), nble h (show 37 < 50 by omega), nble h (show 43 < 50 by omega), nble h (show 47 < 50 by omega), nble h (show 48 < 50 by omega), nble h (show 49 < 50 by omega)]
theorem rows_Mo_byteAt : ∀ pc, am_row (mt_L 38) (mt_R 38) [(28, 8, 13), (61, 8, 35)] [] [] [] [] mt_noh (mt_B 38) pc (tb_Mo_byteAt pc) = true := by
  have ck : (List.range 50).all (fun pc => am_row (mt_L 38) (mt_R 38) [(28, 8, 13), (61, 8, 35)] [] [] [] [] mt_noh (mt_B 38) pc (tb_Mo_byteAt pc)) = true := by decide +kernel
  intro pc
  by_cases h : pc < 50
  · exact List.all_eq_true.mp ck pc (List.mem_range.mpr h)
  · rw [nop_Mo_byteAt pc (by omega)]
    rfl
theorem nop_Mo_rule (pc : Nat) (h : 147 ≤ pc) : tb_Mo_rule pc = am_nop := by
  unfold tb_Mo_rule
  simp only [nble h (show 74 < 147 by omega), nble h (show 110 < 147 by omega), nble h (show 128 < 147 by omega), nble h (show 137 < 147 by omega), nble h (show 142 < 147 by omega), nble h (show 145 < 147 by omega), nble h (show 146 < 147 by omega)]
theorem rows_Mo_rule : ∀ pc, am_row (mt_L 39) (mt_R 39) [(31, 8, 21), (34, 8, 22), (37, 8, 23), (40, 8, 24), (43, 8, 25), (61, 8, 35), (172, 8, 20)] [] [] [] [] mt_noh (mt_B 39) pc (tb_Mo_rule pc) = true := by
  have ck : (List.range 147).all (fun pc => am_row (mt_L 39) (mt_R 39) [(31, 8, 21), (34, 8, 22), (37, 8, 23), (40, 8, 24), (43, 8, 25), (61, 8, 35), (172, 8, 20)] [] [] [] [] mt_noh (mt_B 39) pc (tb_Mo_rule pc)) = true := by decide +kernel
  intro pc
  by_cases h : pc < 147
  · exact List.all_eq_true.mp ck pc (List.mem_range.mpr h)
  · rw [nop_Mo_rule pc (by omega)]
    rfl
theorem nop_Mo_save (pc : Nat) (h : 71 ≤ pc) : tb_Mo_save pc = am_nop := by
  unfold tb_Mo_save
  simp only [nble h (show 35 < 71 by omega), nble h (show 54 < 71 by omega), nble h (show 63 < 71 by omega), nble h (show 67 < 71 by omega), nble h (show 69 < 71 by omega), nble h (show 70 < 71 by omega)]
theorem rows_Mo_save : ∀ pc, am_row (mt_L 40) (mt_R 40) [(43, 8, 25), (61, 8, 35), (172, 8, 20)] [] [] [] [] mt_noh (mt_B 40) pc (tb_Mo_save pc) = true := by
  have ck : (List.range 71).all (fun pc => am_row (mt_L 40) (mt_R 40) [(43, 8, 25), (61, 8, 35), (172, 8, 20)] [] [] [] [] mt_noh (mt_B 40) pc (tb_Mo_save pc)) = true := by decide +kernel
  intro pc
  by_cases h : pc < 71
  · exact List.all_eq_true.mp ck pc (List.mem_range.mpr h)
  · rw [nop_Mo_save pc (by omega)]
    rfl
theorem nop_Mo_ruleOf (pc : Nat) (h : 40 ≤ pc) : tb_Mo_ruleOf pc = am_nop := by
  unfold tb_Mo_ruleOf
  simp only [nble h (show 19 < 40 by omega), nble h (show 29 < 40 by omega), nble h (show 34 < 40 by omega), nble h (show 37 < 40 by omega), nble h (show 38 < 40 by omega), nble h (show 39 < 40 by omega)]
theorem rows_Mo_ruleOf : ∀ pc, am_row (mt_L 41) (mt_R 41) [(31, 8, 21), (34, 8, 22), (172, 8, 20)] [] [] [] [] mt_noh (mt_B 41) pc (tb_Mo_ruleOf pc) = true := by
  have ck : (List.range 40).all (fun pc => am_row (mt_L 41) (mt_R 41) [(31, 8, 21), (34, 8, 22), (172, 8, 20)] [] [] [] [] mt_noh (mt_B 41) pc (tb_Mo_ruleOf pc)) = true := by decide +kernel
  intro pc
  by_cases h : pc < 40
  · exact List.all_eq_true.mp ck pc (List.mem_range.mpr h)
  · rw [nop_Mo_ruleOf pc (by omega)]
    rfl
theorem nop_Mo_fetch (pc : Nat) (h : 29 ≤ pc) : tb_Mo_fetch pc = am_nop := by
  unfold tb_Mo_fetch
  simp only [nble h (show 13 < 29 by omega), nble h (show 21 < 29 by omega), nble h (show 25 < 29 by omega), nble h (show 27 < 29 by omega), nble h (show 28 < 29 by omega)]
theorem rows_Mo_fetch : ∀ pc, am_row (mt_L 42) (mt_R 42) [(49, 8, 29), (166, 8, 19)] [(169, 35, 4, 8)] [(65, 16, 1)] [] [] mt_noh (mt_B 42) pc (tb_Mo_fetch pc) = true := by
  have ck : (List.range 29).all (fun pc => am_row (mt_L 42) (mt_R 42) [(49, 8, 29), (166, 8, 19)] [(169, 35, 4, 8)] [(65, 16, 1)] [] [] mt_noh (mt_B 42) pc (tb_Mo_fetch pc)) = true := by decide +kernel
  intro pc
  by_cases h : pc < 29
  · exact List.all_eq_true.mp ck pc (List.mem_range.mpr h)
  · rw [nop_Mo_fetch pc (by omega)]
    rfl
theorem nop_Mo_next (pc : Nat) (h : 240 ≤ pc) : tb_Mo_next pc = am_nop := by
  unfold tb_Mo_next
  simp only [nble h (show 119 < 240 by omega), nble h (show 178 < 240 by omega), nble h (show 207 < 240 by omega), nble h (show 224 < 240 by omega), nble h (show 231 < 240 by omega), nble h (show 236 < 240 by omega), nble h (show 238 < 240 by omega), nble h (show 239 < 240 by omega)]
theorem rows_Mo_next : ∀ pc, am_row (mt_L 43) (mt_R 43) [(37, 8, 23), (40, 8, 24), (43, 8, 25), (49, 8, 29), (175, 8, 28)] [(178, 41, 2, 8), (181, 42, 3, 8)] [] [] [] mt_noh (mt_B 43) pc (tb_Mo_next pc) = true := by
  have ck : (List.range 240).all (fun pc => am_row (mt_L 43) (mt_R 43) [(37, 8, 23), (40, 8, 24), (43, 8, 25), (49, 8, 29), (175, 8, 28)] [(178, 41, 2, 8), (181, 42, 3, 8)] [] [] [] mt_noh (mt_B 43) pc (tb_Mo_next pc)) = true := by decide +kernel
  intro pc
  by_cases h : pc < 240
  · exact List.all_eq_true.mp ck pc (List.mem_range.mpr h)
  · rw [nop_Mo_next pc (by omega)]
    rfl
theorem nop_Mo_unwind (pc : Nat) (h : 135 ≤ pc) : tb_Mo_unwind pc = am_nop := by
  unfold tb_Mo_unwind
  simp only [nble h (show 65 < 135 by omega), nble h (show 100 < 135 by omega), nble h (show 117 < 135 by omega), nble h (show 126 < 135 by omega), nble h (show 130 < 135 by omega), nble h (show 133 < 135 by omega), nble h (show 134 < 135 by omega)]
theorem rows_Mo_unwind : ∀ pc, am_row (mt_L 44) (mt_R 44) [(46, 8, 27), (49, 8, 29), (61, 8, 35), (166, 8, 19), (175, 8, 28), (188, 8, 26)] [(169, 35, 4, 8), (184, 43, 1, 8)] [] [] [] mt_noh (mt_B 44) pc (tb_Mo_unwind pc) = true := by
  have ck : (List.range 135).all (fun pc => am_row (mt_L 44) (mt_R 44) [(46, 8, 27), (49, 8, 29), (61, 8, 35), (166, 8, 19), (175, 8, 28), (188, 8, 26)] [(169, 35, 4, 8), (184, 43, 1, 8)] [] [] [] mt_noh (mt_B 44) pc (tb_Mo_unwind pc)) = true := by decide +kernel
  intro pc
  by_cases h : pc < 135
  · exact List.all_eq_true.mp ck pc (List.mem_range.mpr h)
  · rw [nop_Mo_unwind pc (by omega)]
    rfl
theorem nop_Mo_frame (pc : Nat) (h : 54 ≤ pc) : tb_Mo_frame pc = am_nop := by
  unfold tb_Mo_frame
  simp only [nble h (show 27 < 54 by omega), nble h (show 42 < 54 by omega), nble h (show 47 < 54 by omega), nble h (show 51 < 54 by omega), nble h (show 52 < 54 by omega), nble h (show 53 < 54 by omega)]
theorem rows_Mo_frame : ∀ pc, am_row (mt_L 45) (mt_R 45) [(46, 8, 27), (61, 8, 35), (188, 8, 26)] [] [] [] [] mt_noh (mt_B 45) pc (tb_Mo_frame pc) = true := by
  have ck : (List.range 54).all (fun pc => am_row (mt_L 45) (mt_R 45) [(46, 8, 27), (61, 8, 35), (188, 8, 26)] [] [] [] [] mt_noh (mt_B 45) pc (tb_Mo_frame pc)) = true := by decide +kernel
  intro pc
  by_cases h : pc < 54
  · exact List.all_eq_true.mp ck pc (List.mem_range.mpr h)
  · rw [nop_Mo_frame pc (by omega)]
    rfl
theorem nop_Mo_operation (pc : Nat) (h : 91 ≤ pc) : tb_Mo_operation pc = am_nop := by
  unfold tb_Mo_operation
  simp only [nble h (show 44 < 91 by omega), nble h (show 67 < 91 by omega), nble h (show 78 < 91 by omega), nble h (show 85 < 91 by omega), nble h (show 87 < 91 by omega), nble h (show 89 < 91 by omega), nble h (show 90 < 91 by omega)]
theorem rows_Mo_operation : ∀ pc, am_row (mt_L 46) (mt_R 46) [(52, 8, 31), (55, 8, 32), (61, 8, 35), (191, 8, 30)] [] [] [] [] mt_noh (mt_B 46) pc (tb_Mo_operation pc) = true := by
  have ck : (List.range 91).all (fun pc => am_row (mt_L 46) (mt_R 46) [(52, 8, 31), (55, 8, 32), (61, 8, 35), (191, 8, 30)] [] [] [] [] mt_noh (mt_B 46) pc (tb_Mo_operation pc)) = true := by decide +kernel
  intro pc
  by_cases h : pc < 91
  · exact List.all_eq_true.mp ck pc (List.mem_range.mpr h)
  · rw [nop_Mo_operation pc (by omega)]
    rfl
theorem nop_Mo_drop (pc : Nat) (h : 17 ≤ pc) : tb_Mo_drop pc = am_nop := by
  unfold tb_Mo_drop
  simp only [nble h (show 8 < 17 by omega), nble h (show 12 < 17 by omega), nble h (show 15 < 17 by omega), nble h (show 16 < 17 by omega)]
theorem rows_Mo_drop : ∀ pc, am_row (mt_L 47) (mt_R 47) [(61, 8, 35), (191, 8, 30)] [] [] [] [] mt_noh (mt_B 47) pc (tb_Mo_drop pc) = true := by
  have ck : (List.range 17).all (fun pc => am_row (mt_L 47) (mt_R 47) [(61, 8, 35), (191, 8, 30)] [] [] [] [] mt_noh (mt_B 47) pc (tb_Mo_drop pc)) = true := by decide +kernel
  intro pc
  by_cases h : pc < 17
  · exact List.all_eq_true.mp ck pc (List.mem_range.mpr h)
  · rw [nop_Mo_drop pc (by omega)]
    rfl
theorem nop_Mo_push (pc : Nat) (h : 33 ≤ pc) : tb_Mo_push pc = am_nop := by
  unfold tb_Mo_push
  simp only [nble h (show 16 < 33 by omega), nble h (show 25 < 33 by omega), nble h (show 28 < 33 by omega), nble h (show 31 < 33 by omega), nble h (show 32 < 33 by omega)]
theorem rows_Mo_push : ∀ pc, am_row (mt_L 48) (mt_R 48) [(58, 8, 34), (194, 8, 33)] [] [] [] [] mt_noh (mt_B 48) pc (tb_Mo_push pc) = true := by
  have ck : (List.range 33).all (fun pc => am_row (mt_L 48) (mt_R 48) [(58, 8, 34), (194, 8, 33)] [] [] [] [] mt_noh (mt_B 48) pc (tb_Mo_push pc)) = true := by decide +kernel
  intro pc
  by_cases h : pc < 33
  · exact List.all_eq_true.mp ck pc (List.mem_range.mpr h)
  · rw [nop_Mo_push pc (by omega)]
    rfl
theorem nop_Mo_join (pc : Nat) (h : 95 ≤ pc) : tb_Mo_join pc = am_nop := by
  unfold tb_Mo_join
  simp only [nble h (show 47 < 95 by omega), nble h (show 72 < 95 by omega), nble h (show 84 < 95 by omega), nble h (show 90 < 95 by omega), nble h (show 92 < 95 by omega), nble h (show 93 < 95 by omega), nble h (show 94 < 95 by omega)]
theorem rows_Mo_join : ∀ pc, am_row (mt_L 49) (mt_R 49) [(58, 8, 34), (194, 8, 33)] [] [] [] [] mt_noh (mt_B 49) pc (tb_Mo_join pc) = true := by
  have ck : (List.range 95).all (fun pc => am_row (mt_L 49) (mt_R 49) [(58, 8, 34), (194, 8, 33)] [] [] [] [] mt_noh (mt_B 49) pc (tb_Mo_join pc)) = true := by decide +kernel
  intro pc
  by_cases h : pc < 95
  · exact List.all_eq_true.mp ck pc (List.mem_range.mpr h)
  · rw [nop_Mo_join pc (by omega)]
    rfl
theorem nop_Mo_wordOnTop (pc : Nat) (h : 63 ≤ pc) : tb_Mo_wordOnTop pc = am_nop := by
  unfold tb_Mo_wordOnTop
  simp only [nble h (show 31 < 63 by omega), nble h (show 47 < 63 by omega), nble h (show 54 < 63 by omega), nble h (show 58 < 63 by omega), nble h (show 61 < 63 by omega), nble h (show 62 < 63 by omega)]
theorem rows_Mo_wordOnTop : ∀ pc, am_row (mt_L 50) (mt_R 50) [(58, 8, 34), (166, 8, 19), (194, 8, 33)] [(169, 35, 4, 8)] [(65, 16, 1)] [] [] mt_noh (mt_B 50) pc (tb_Mo_wordOnTop pc) = true := by
  have ck : (List.range 63).all (fun pc => am_row (mt_L 50) (mt_R 50) [(58, 8, 34), (166, 8, 19), (194, 8, 33)] [(169, 35, 4, 8)] [(65, 16, 1)] [] [] mt_noh (mt_B 50) pc (tb_Mo_wordOnTop pc)) = true := by decide +kernel
  intro pc
  by_cases h : pc < 63
  · exact List.all_eq_true.mp ck pc (List.mem_range.mpr h)
  · rw [nop_Mo_wordOnTop pc (by omega)]
    rfl
theorem nop_Mo_operate (pc : Nat) (h : 231 ≤ pc) : tb_Mo_operate pc = am_nop := by
  unfold tb_Mo_operate
  simp only [nble h (show 143 < 231 by omega), nble h (show 187 < 231 by omega), nble h (show 208 < 231 by omega), nble h (show 219 < 231 by omega), nble h (show 225 < 231 by omega), nble h (show 227 < 231 by omega), nble h (show 229 < 231 by omega), nble h (show 230 < 231 by omega)]
theorem rows_Mo_operate : ∀ pc, am_row (mt_L 51) (mt_R 51) [(46, 8, 27), (58, 8, 34), (194, 8, 33)] [(197, 48, 2, 8), (200, 50, 1, 8), (203, 49, 2, 8)] [] [] [] mt_noh (mt_B 51) pc (tb_Mo_operate pc) = true := by
  have ck : (List.range 231).all (fun pc => am_row (mt_L 51) (mt_R 51) [(46, 8, 27), (58, 8, 34), (194, 8, 33)] [(197, 48, 2, 8), (200, 50, 1, 8), (203, 49, 2, 8)] [] [] [] mt_noh (mt_B 51) pc (tb_Mo_operate pc)) = true := by decide +kernel
  intro pc
  by_cases h : pc < 231
  · exact List.all_eq_true.mp ck pc (List.mem_range.mpr h)
  · rw [nop_Mo_operate pc (by omega)]
    rfl
theorem nop_Mo_evaluate (pc : Nat) (h : 119 ≤ pc) : tb_Mo_evaluate pc = am_nop := by
  unfold tb_Mo_evaluate
  simp only [nble h (show 57 < 119 by omega), nble h (show 89 < 119 by omega), nble h (show 104 < 119 by omega), nble h (show 112 < 119 by omega), nble h (show 116 < 119 by omega), nble h (show 117 < 119 by omega), nble h (show 118 < 119 by omega)]
theorem rows_Mo_evaluate : ∀ pc, am_row (mt_L 52) (mt_R 52) [(52, 8, 31), (55, 8, 32), (58, 8, 34), (61, 8, 35), (188, 8, 26), (191, 8, 30), (194, 8, 33)] [(206, 51, 4, 8)] [] [] [] mt_noh (mt_B 52) pc (tb_Mo_evaluate pc) = true := by
  have ck : (List.range 119).all (fun pc => am_row (mt_L 52) (mt_R 52) [(52, 8, 31), (55, 8, 32), (58, 8, 34), (61, 8, 35), (188, 8, 26), (191, 8, 30), (194, 8, 33)] [(206, 51, 4, 8)] [] [] [] mt_noh (mt_B 52) pc (tb_Mo_evaluate pc)) = true := by decide +kernel
  intro pc
  by_cases h : pc < 119
  · exact List.all_eq_true.mp ck pc (List.mem_range.mpr h)
  · rw [nop_Mo_evaluate pc (by omega)]
    rfl
theorem nop_Mo_count (pc : Nat) (h : 112 ≤ pc) : tb_Mo_count pc = am_nop := by
  unfold tb_Mo_count
  simp only [nble h (show 81 < 112 by omega), nble h (show 96 < 112 by omega), nble h (show 104 < 112 by omega), nble h (show 108 < 112 by omega), nble h (show 110 < 112 by omega), nble h (show 111 < 112 by omega)]
theorem rows_Mo_count : ∀ pc, am_row (mt_L 53) (mt_R 53) [(61, 8, 35), (69, 8, 4), (72, 8, 2), (75, 8, 3), (121, 8, 10), (127, 8, 18), (136, 8, 16), (152, 8, 17), (155, 8, 15), (188, 8, 26), (191, 8, 30)] [] [] [] [] mt_noh (mt_B 53) pc (tb_Mo_count pc) = true := by
  have ck : (List.range 112).all (fun pc => am_row (mt_L 53) (mt_R 53) [(61, 8, 35), (69, 8, 4), (72, 8, 2), (75, 8, 3), (121, 8, 10), (127, 8, 18), (136, 8, 16), (152, 8, 17), (155, 8, 15), (188, 8, 26), (191, 8, 30)] [] [] [] [] mt_noh (mt_B 53) pc (tb_Mo_count pc)) = true := by decide +kernel
  intro pc
  by_cases h : pc < 112
  · exact List.all_eq_true.mp ck pc (List.mem_range.mpr h)
  · rw [nop_Mo_count pc (by omega)]
    rfl
