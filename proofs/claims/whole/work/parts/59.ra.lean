/-! The tables against the bytes: the class. -/
theorem nble {pc k N : Nat} (h : N ≤ pc) (hk : k < N) : Nat.ble pc k = false := by
  cases hz : Nat.ble pc k with
  | false => rfl
  | true => exact absurd (Nat.le_of_ble_eq_true hz) (by omega)
theorem nop_L_load (pc : Nat) (h : 21 ≤ pc) : tb_L_load pc = am_nop := by
  unfold tb_L_load
  simp only [nble h (show 10 < 21 by omega), nble h (show 16 < 21 by omega), nble h (show 18 < 21 by omega), nble h (show 19 < 21 by omega), nble h (show 20 < 21 by omega)]
theorem rows_L_load : ∀ pc, am_row (mt_L 0) (mt_R 0) [(10, 0, 0), (59, 1, 0)] [] [(55, 12, 1)] [] [] mt_noh (mt_B 0) pc (tb_L_load pc) = true := by
  have ck : (List.range 21).all (fun pc => am_row (mt_L 0) (mt_R 0) [(10, 0, 0), (59, 1, 0)] [] [(55, 12, 1)] [] [] mt_noh (mt_B 0) pc (tb_L_load pc)) = true := by decide +kernel
  intro pc
  by_cases h : pc < 21
  · exact List.all_eq_true.mp ck pc (List.mem_range.mpr h)
  · rw [nop_L_load pc (by omega)]
    rfl
theorem nop_L_fault (pc : Nat) (h : 23 ≤ pc) : tb_L_fault pc = am_nop := by
  unfold tb_L_fault
  simp only [nble h (show 14 < 23 by omega), nble h (show 18 < 23 by omega), nble h (show 21 < 23 by omega), nble h (show 22 < 23 by omega)]
theorem rows_L_fault : ∀ pc, am_row (mt_L 1) (mt_R 1) [(30, 0, 2)] [(70, 69, 2, 3)] [] [(63, 65, 67, 1)] [] mt_noh (mt_B 1) pc (tb_L_fault pc) = true := by
  have ck : (List.range 23).all (fun pc => am_row (mt_L 1) (mt_R 1) [(30, 0, 2)] [(70, 69, 2, 3)] [] [(63, 65, 67, 1)] [] mt_noh (mt_B 1) pc (tb_L_fault pc)) = true := by decide +kernel
  intro pc
  by_cases h : pc < 23
  · exact List.all_eq_true.mp ck pc (List.mem_range.mpr h)
  · rw [nop_L_fault pc (by omega)]
    rfl
theorem nop_L_request (pc : Nat) (h : 55 ≤ pc) : tb_L_request pc = am_nop := by
  unfold tb_L_request
  simp only [nble h (show 26 < 55 by omega), nble h (show 36 < 55 by omega), nble h (show 42 < 55 by omega), nble h (show 52 < 55 by omega), nble h (show 53 < 55 by omega), nble h (show 54 < 55 by omega)]
theorem rows_L_request : ∀ pc, am_row (mt_L 2) (mt_R 2) [(30, 0, 2), (80, 3, 1)] [(76, 70, 4, 3)] [] [(63, 74, 67, 1), (63, 84, 67, 1)] [] mt_noh (mt_B 2) pc (tb_L_request pc) = true := by
  have ck : (List.range 55).all (fun pc => am_row (mt_L 2) (mt_R 2) [(30, 0, 2), (80, 3, 1)] [(76, 70, 4, 3)] [] [(63, 74, 67, 1), (63, 84, 67, 1)] [] mt_noh (mt_B 2) pc (tb_L_request pc)) = true := by decide +kernel
  intro pc
  by_cases h : pc < 55
  · exact List.all_eq_true.mp ck pc (List.mem_range.mpr h)
  · rw [nop_L_request pc (by omega)]
    rfl
theorem nop_L_byteAt (pc : Nat) (h : 47 ≤ pc) : tb_L_byteAt pc = am_nop := by
  unfold tb_L_byteAt
  simp only [nble h (show 23 < 47 by omega), nble h (show 36 < 47 by omega), nble h (show 42 < 47 by omega), nble h (show 44 < 47 by omega), nble h (show 45 < 47 by omega), nble h (show 46 < 47 by omega)]
theorem rows_L_byteAt : ∀ pc, am_row (mt_L 3) (mt_R 3) [(21, 0, 1), (30, 0, 2), (86, 3, 0), (89, 2, 0)] [] [] [] [] mt_noh (mt_B 3) pc (tb_L_byteAt pc) = true := by
  have ck : (List.range 47).all (fun pc => am_row (mt_L 3) (mt_R 3) [(21, 0, 1), (30, 0, 2), (86, 3, 0), (89, 2, 0)] [] [] [] [] mt_noh (mt_B 3) pc (tb_L_byteAt pc)) = true := by decide +kernel
  intro pc
  by_cases h : pc < 47
  · exact List.all_eq_true.mp ck pc (List.mem_range.mpr h)
  · rw [nop_L_byteAt pc (by omega)]
    rfl
theorem nop_L_rule (pc : Nat) (h : 72 ≤ pc) : tb_L_rule pc = am_nop := by
  unfold tb_L_rule
  simp only [nble h (show 38 < 72 by omega), nble h (show 59 < 72 by omega), nble h (show 65 < 72 by omega), nble h (show 68 < 72 by omega), nble h (show 70 < 72 by omega), nble h (show 71 < 72 by omega)]
theorem rows_L_rule : ∀ pc, am_row (mt_L 4) (mt_R 4) [(37, 0, 3)] [(101, 78, 5, 4)] [(96, 14, 1)] [(63, 92, 67, 1), (63, 94, 67, 1), (63, 99, 67, 1)] [] mt_noh (mt_B 4) pc (tb_L_rule pc) = true := by
  have ck : (List.range 72).all (fun pc => am_row (mt_L 4) (mt_R 4) [(37, 0, 3)] [(101, 78, 5, 4)] [(96, 14, 1)] [(63, 92, 67, 1), (63, 94, 67, 1), (63, 99, 67, 1)] [] mt_noh (mt_B 4) pc (tb_L_rule pc)) = true := by decide +kernel
  intro pc
  by_cases h : pc < 72
  · exact List.all_eq_true.mp ck pc (List.mem_range.mpr h)
  · rw [nop_L_rule pc (by omega)]
    rfl
theorem nop_L_save (pc : Nat) (h : 84 ≤ pc) : tb_L_save pc = am_nop := by
  unfold tb_L_save
  simp only [nble h (show 46 < 84 by omega), nble h (show 70 < 84 by omega), nble h (show 77 < 84 by omega), nble h (show 81 < 84 by omega), nble h (show 82 < 84 by omega), nble h (show 83 < 84 by omega)]
theorem rows_L_save : ∀ pc, am_row (mt_L 5) (mt_R 5) [(37, 0, 3), (105, 4, 1), (120, 4, 0), (124, 7, 3)] [] [(96, 14, 1), (113, 13, 1)] [(63, 116, 67, 1), (63, 118, 67, 1), (108, 110, 112, 2)] [] mt_noh (mt_B 5) pc (tb_L_save pc) = true := by
  have ck : (List.range 84).all (fun pc => am_row (mt_L 5) (mt_R 5) [(37, 0, 3), (105, 4, 1), (120, 4, 0), (124, 7, 3)] [] [(96, 14, 1), (113, 13, 1)] [(63, 116, 67, 1), (63, 118, 67, 1), (108, 110, 112, 2)] [] mt_noh (mt_B 5) pc (tb_L_save pc)) = true := by decide +kernel
  intro pc
  by_cases h : pc < 84
  · exact List.all_eq_true.mp ck pc (List.mem_range.mpr h)
  · rw [nop_L_save pc (by omega)]
    rfl
theorem nop_L_unwind (pc : Nat) (h : 54 ≤ pc) : tb_L_unwind pc = am_nop := by
  unfold tb_L_unwind
  simp only [nble h (show 25 < 54 by omega), nble h (show 40 < 54 by omega), nble h (show 47 < 54 by omega), nble h (show 51 < 54 by omega), nble h (show 52 < 54 by omega), nble h (show 53 < 54 by omega)]
theorem rows_L_unwind : ∀ pc, am_row (mt_L 6) (mt_R 6) [(30, 0, 2), (37, 0, 3), (44, 0, 4)] [(129, 55, 2, 5), (133, 56, 4, 5), (137, 57, 2, 5)] [] [] [] mt_noh (mt_B 6) pc (tb_L_unwind pc) = true := by
  have ck : (List.range 54).all (fun pc => am_row (mt_L 6) (mt_R 6) [(30, 0, 2), (37, 0, 3), (44, 0, 4)] [(129, 55, 2, 5), (133, 56, 4, 5), (137, 57, 2, 5)] [] [] [] mt_noh (mt_B 6) pc (tb_L_unwind pc)) = true := by decide +kernel
  intro pc
  by_cases h : pc < 54
  · exact List.all_eq_true.mp ck pc (List.mem_range.mpr h)
  · rw [nop_L_unwind pc (by omega)]
    rfl
theorem nop_L_frame (pc : Nat) (h : 56 ≤ pc) : tb_L_frame pc = am_nop := by
  unfold tb_L_frame
  simp only [nble h (show 27 < 56 by omega), nble h (show 45 < 56 by omega), nble h (show 51 < 56 by omega), nble h (show 53 < 56 by omega), nble h (show 54 < 56 by omega), nble h (show 55 < 56 by omega)]
theorem rows_L_frame : ∀ pc, am_row (mt_L 7) (mt_R 7) [(44, 0, 4), (151, 5, 0)] [(141, 54, 2, 5)] [(113, 13, 1)] [(144, 146, 148, 4), (144, 149, 148, 4)] [] mt_noh (mt_B 7) pc (tb_L_frame pc) = true := by
  have ck : (List.range 56).all (fun pc => am_row (mt_L 7) (mt_R 7) [(44, 0, 4), (151, 5, 0)] [(141, 54, 2, 5)] [(113, 13, 1)] [(144, 146, 148, 4), (144, 149, 148, 4)] [] mt_noh (mt_B 7) pc (tb_L_frame pc)) = true := by decide +kernel
  intro pc
  by_cases h : pc < 56
  · exact List.all_eq_true.mp ck pc (List.mem_range.mpr h)
  · rw [nop_L_frame pc (by omega)]
    rfl
theorem nop_L_operation (pc : Nat) (h : 52 ≤ pc) : tb_L_operation pc = am_nop := by
  unfold tb_L_operation
  simp only [nble h (show 25 < 52 by omega), nble h (show 42 < 52 by omega), nble h (show 47 < 52 by omega), nble h (show 50 < 52 by omega), nble h (show 51 < 52 by omega)]
theorem rows_L_operation : ∀ pc, am_row (mt_L 8) (mt_R 8) [(51, 0, 5)] [(159, 62, 3, 6)] [(113, 13, 1)] [(63, 155, 67, 1), (63, 157, 67, 1)] [] mt_noh (mt_B 8) pc (tb_L_operation pc) = true := by
  have ck : (List.range 52).all (fun pc => am_row (mt_L 8) (mt_R 8) [(51, 0, 5)] [(159, 62, 3, 6)] [(113, 13, 1)] [(63, 155, 67, 1), (63, 157, 67, 1)] [] mt_noh (mt_B 8) pc (tb_L_operation pc)) = true := by decide +kernel
  intro pc
  by_cases h : pc < 52
  · exact List.all_eq_true.mp ck pc (List.mem_range.mpr h)
  · rw [nop_L_operation pc (by omega)]
    rfl
theorem nop_L_drop (pc : Nat) (h : 18 ≤ pc) : tb_L_drop pc = am_nop := by
  unfold tb_L_drop
  simp only [nble h (show 8 < 18 by omega), nble h (show 13 < 18 by omega), nble h (show 16 < 18 by omega), nble h (show 17 < 18 by omega)]
theorem rows_L_drop : ∀ pc, am_row (mt_L 9) (mt_R 9) [(51, 0, 5), (162, 6, 0)] [] [] [] [] mt_noh (mt_B 9) pc (tb_L_drop pc) = true := by
  have ck : (List.range 18).all (fun pc => am_row (mt_L 9) (mt_R 9) [(51, 0, 5), (162, 6, 0)] [] [] [] [] mt_noh (mt_B 9) pc (tb_L_drop pc)) = true := by decide +kernel
  intro pc
  by_cases h : pc < 18
  · exact List.all_eq_true.mp ck pc (List.mem_range.mpr h)
  · rw [nop_L_drop pc (by omega)]
    rfl
theorem nop_L_evaluate (pc : Nat) (h : 77 ≤ pc) : tb_L_evaluate pc = am_nop := by
  unfold tb_L_evaluate
  simp only [nble h (show 41 < 77 by omega), nble h (show 57 < 77 by omega), nble h (show 68 < 77 by omega), nble h (show 72 < 77 by omega), nble h (show 75 < 77 by omega), nble h (show 76 < 77 by omega)]
theorem rows_L_evaluate : ∀ pc, am_row (mt_L 10) (mt_R 10) [(30, 0, 2), (44, 0, 4), (51, 0, 5), (151, 5, 0), (162, 6, 0), (163, 6, 1)] [(141, 54, 2, 5), (166, 64, 4, 6), (170, 63, 1, 6)] [] [(144, 146, 148, 4)] [] mt_noh (mt_B 10) pc (tb_L_evaluate pc) = true := by
  have ck : (List.range 77).all (fun pc => am_row (mt_L 10) (mt_R 10) [(30, 0, 2), (44, 0, 4), (51, 0, 5), (151, 5, 0), (162, 6, 0), (163, 6, 1)] [(141, 54, 2, 5), (166, 64, 4, 6), (170, 63, 1, 6)] [] [(144, 146, 148, 4)] [] mt_noh (mt_B 10) pc (tb_L_evaluate pc)) = true := by decide +kernel
  intro pc
  by_cases h : pc < 77
  · exact List.all_eq_true.mp ck pc (List.mem_range.mpr h)
  · rw [nop_L_evaluate pc (by omega)]
    rfl
theorem nop_L_count (pc : Nat) (h : 138 ≤ pc) : tb_L_count pc = am_nop := by
  unfold tb_L_count
  simp only [nble h (show 95 < 138 by omega), nble h (show 116 < 138 by omega), nble h (show 127 < 138 by omega), nble h (show 132 < 138 by omega), nble h (show 135 < 138 by omega), nble h (show 136 < 138 by omega), nble h (show 137 < 138 by omega)]
theorem rows_L_count : ∀ pc, am_row (mt_L 11) (mt_R 11) [(10, 0, 0), (21, 0, 1), (30, 0, 2), (44, 0, 4), (51, 0, 5), (162, 6, 0), (174, 3, 2), (177, 3, 3), (180, 3, 4), (183, 3, 5), (186, 3, 6), (189, 1, 3), (192, 2, 1), (195, 5, 1), (196, 1, 2)] [] [] [] [] mt_noh (mt_B 11) pc (tb_L_count pc) = true := by
  have ck : (List.range 138).all (fun pc => am_row (mt_L 11) (mt_R 11) [(10, 0, 0), (21, 0, 1), (30, 0, 2), (44, 0, 4), (51, 0, 5), (162, 6, 0), (174, 3, 2), (177, 3, 3), (180, 3, 4), (183, 3, 5), (186, 3, 6), (189, 1, 3), (192, 2, 1), (195, 5, 1), (196, 1, 2)] [] [] [] [] mt_noh (mt_B 11) pc (tb_L_count pc)) = true := by decide +kernel
  intro pc
  by_cases h : pc < 138
  · exact List.all_eq_true.mp ck pc (List.mem_range.mpr h)
  · rw [nop_L_count pc (by omega)]
    rfl
theorem nop_L_isAddress (pc : Nat) (h : 16 ≤ pc) : tb_L_isAddress pc = am_nop := by
  unfold tb_L_isAddress
  simp only [nble h (show 7 < 16 by omega), nble h (show 11 < 16 by omega), nble h (show 14 < 16 by omega), nble h (show 15 < 16 by omega)]
theorem rows_L_isAddress : ∀ pc, am_row (mt_L 12) (mt_R 12) [] [] [] [] [] mt_noh (mt_B 12) pc (tb_L_isAddress pc) = true := by
  have ck : (List.range 16).all (fun pc => am_row (mt_L 12) (mt_R 12) [] [] [] [] [] mt_noh (mt_B 12) pc (tb_L_isAddress pc)) = true := by decide +kernel
  intro pc
  by_cases h : pc < 16
  · exact List.all_eq_true.mp ck pc (List.mem_range.mpr h)
  · rw [nop_L_isAddress pc (by omega)]
    rfl
theorem nop_L_isRegister (pc : Nat) (h : 16 ≤ pc) : tb_L_isRegister pc = am_nop := by
  unfold tb_L_isRegister
  simp only [nble h (show 7 < 16 by omega), nble h (show 11 < 16 by omega), nble h (show 14 < 16 by omega), nble h (show 15 < 16 by omega)]
theorem rows_L_isRegister : ∀ pc, am_row (mt_L 13) (mt_R 13) [] [] [] [] [] mt_noh (mt_B 13) pc (tb_L_isRegister pc) = true := by
  have ck : (List.range 16).all (fun pc => am_row (mt_L 13) (mt_R 13) [] [] [] [] [] mt_noh (mt_B 13) pc (tb_L_isRegister pc)) = true := by decide +kernel
  intro pc
  by_cases h : pc < 16
  · exact List.all_eq_true.mp ck pc (List.mem_range.mpr h)
  · rw [nop_L_isRegister pc (by omega)]
    rfl
theorem nop_L_isSlot (pc : Nat) (h : 16 ≤ pc) : tb_L_isSlot pc = am_nop := by
  unfold tb_L_isSlot
  simp only [nble h (show 7 < 16 by omega), nble h (show 11 < 16 by omega), nble h (show 14 < 16 by omega), nble h (show 15 < 16 by omega)]
theorem rows_L_isSlot : ∀ pc, am_row (mt_L 14) (mt_R 14) [] [] [] [] [] mt_noh (mt_B 14) pc (tb_L_isSlot pc) = true := by
  have ck : (List.range 16).all (fun pc => am_row (mt_L 14) (mt_R 14) [] [] [] [] [] mt_noh (mt_B 14) pc (tb_L_isSlot pc)) = true := by decide +kernel
  intro pc
  by_cases h : pc < 16
  · exact List.all_eq_true.mp ck pc (List.mem_range.mpr h)
  · rw [nop_L_isSlot pc (by omega)]
    rfl
theorem nop_Ba_has (pc : Nat) (h : 18 ≤ pc) : tb_Ba_has pc = am_nop := by
  unfold tb_Ba_has
  simp only [nble h (show 8 < 18 by omega), nble h (show 13 < 18 by omega), nble h (show 16 < 18 by omega), nble h (show 17 < 18 by omega)]
theorem rows_Ba_has : ∀ pc, am_row (mt_L 54) (mt_R 54) [(19, 5, 1)] [] [] [] [] mt_noh (mt_B 54) pc (tb_Ba_has pc) = true := by
  have ck : (List.range 18).all (fun pc => am_row (mt_L 54) (mt_R 54) [(19, 5, 1)] [] [] [] [] mt_noh (mt_B 54) pc (tb_Ba_has pc)) = true := by decide +kernel
  intro pc
  by_cases h : pc < 18
  · exact List.all_eq_true.mp ck pc (List.mem_range.mpr h)
  · rw [nop_Ba_has pc (by omega)]
    rfl
theorem nop_Ba_askMachine (pc : Nat) (h : 47 ≤ pc) : tb_Ba_askMachine pc = am_nop := by
  unfold tb_Ba_askMachine
  simp only [nble h (show 21 < 47 by omega), nble h (show 33 < 47 by omega), nble h (show 39 < 47 by omega), nble h (show 43 < 47 by omega), nble h (show 45 < 47 by omega), nble h (show 46 < 47 by omega)]
theorem rows_Ba_askMachine : ∀ pc, am_row (mt_L 55) (mt_R 55) [(16, 5, 2)] [(23, 70, 4, 3)] [] [] [] mt_noh (mt_B 55) pc (tb_Ba_askMachine pc) = true := by
  have ck : (List.range 47).all (fun pc => am_row (mt_L 55) (mt_R 55) [(16, 5, 2)] [(23, 70, 4, 3)] [] [] [] mt_noh (mt_B 55) pc (tb_Ba_askMachine pc)) = true := by decide +kernel
  intro pc
  by_cases h : pc < 47
  · exact List.all_eq_true.mp ck pc (List.mem_range.mpr h)
  · rw [nop_Ba_askMachine pc (by omega)]
    rfl
theorem nop_Ba_askCaller (pc : Nat) (h : 158 ≤ pc) : tb_Ba_askCaller pc = am_nop := by
  unfold tb_Ba_askCaller
  simp only [nble h (show 76 < 158 by omega), nble h (show 116 < 158 by omega), nble h (show 137 < 158 by omega), nble h (show 146 < 158 by omega), nble h (show 152 < 158 by omega), nble h (show 155 < 158 by omega), nble h (show 156 < 158 by omega), nble h (show 157 < 158 by omega)]
theorem rows_Ba_askCaller : ∀ pc, am_row (mt_L 56) (mt_R 56) [(16, 5, 2), (41, 7, 2), (44, 7, 3)] [(23, 70, 4, 3), (29, 79, 2, 4)] [(48, 12, 1)] [] [35] mt_noh (mt_B 56) pc (tb_Ba_askCaller pc) = true := by
  have ck : (List.range 158).all (fun pc => am_row (mt_L 56) (mt_R 56) [(16, 5, 2), (41, 7, 2), (44, 7, 3)] [(23, 70, 4, 3), (29, 79, 2, 4)] [(48, 12, 1)] [] [35] mt_noh (mt_B 56) pc (tb_Ba_askCaller pc)) = true := by decide +kernel
  intro pc
  by_cases h : pc < 158
  · exact List.all_eq_true.mp ck pc (List.mem_range.mpr h)
  · rw [nop_Ba_askCaller pc (by omega)]
    rfl
theorem nop_Ba_keep (pc : Nat) (h : 24 ≤ pc) : tb_Ba_keep pc = am_nop := by
  unfold tb_Ba_keep
  simp only [nble h (show 12 < 24 by omega), nble h (show 18 < 24 by omega), nble h (show 20 < 24 by omega), nble h (show 22 < 24 by omega), nble h (show 23 < 24 by omega)]
theorem rows_Ba_keep : ∀ pc, am_row (mt_L 57) (mt_R 57) [(11, 5, 0), (16, 5, 2), (19, 5, 1)] [] [] [] [] mt_noh (mt_B 57) pc (tb_Ba_keep pc) = true := by
  have ck : (List.range 24).all (fun pc => am_row (mt_L 57) (mt_R 57) [(11, 5, 0), (16, 5, 2), (19, 5, 1)] [] [] [] [] mt_noh (mt_B 57) pc (tb_Ba_keep pc)) = true := by decide +kernel
  intro pc
  by_cases h : pc < 24
  · exact List.all_eq_true.mp ck pc (List.mem_range.mpr h)
  · rw [nop_Ba_keep pc (by omega)]
    rfl
theorem nop_By_word (pc : Nat) (h : 31 ≤ pc) : tb_By_word pc = am_nop := by
  unfold tb_By_word
  simp only [nble h (show 15 < 31 by omega), nble h (show 23 < 31 by omega), nble h (show 27 < 31 by omega), nble h (show 29 < 31 by omega), nble h (show 30 < 31 by omega)]
theorem rows_By_word : ∀ pc, am_row (mt_L 58) (mt_R 58) [] [] [] [] [] mt_noh (mt_B 58) pc (tb_By_word pc) = true := by
  have ck : (List.range 31).all (fun pc => am_row (mt_L 58) (mt_R 58) [] [] [] [] [] mt_noh (mt_B 58) pc (tb_By_word pc)) = true := by decide +kernel
  intro pc
  by_cases h : pc < 31
  · exact List.all_eq_true.mp ck pc (List.mem_range.mpr h)
  · rw [nop_By_word pc (by omega)]
    rfl
theorem nop_By_putWord (pc : Nat) (h : 29 ≤ pc) : tb_By_putWord pc = am_nop := by
  unfold tb_By_putWord
  simp only [nble h (show 13 < 29 by omega), nble h (show 20 < 29 by omega), nble h (show 24 < 29 by omega), nble h (show 27 < 29 by omega), nble h (show 28 < 29 by omega)]
theorem rows_By_putWord : ∀ pc, am_row (mt_L 59) (mt_R 59) [] [] [] [] [] mt_noh (mt_B 59) pc (tb_By_putWord pc) = true := by
  have ck : (List.range 29).all (fun pc => am_row (mt_L 59) (mt_R 59) [] [] [] [] [] mt_noh (mt_B 59) pc (tb_By_putWord pc)) = true := by decide +kernel
  intro pc
  by_cases h : pc < 29
  · exact List.all_eq_true.mp ck pc (List.mem_range.mpr h)
  · rw [nop_By_putWord pc (by omega)]
    rfl
theorem nop_By_sum (pc : Nat) (h : 29 ≤ pc) : tb_By_sum pc = am_nop := by
  unfold tb_By_sum
  simp only [nble h (show 13 < 29 by omega), nble h (show 20 < 29 by omega), nble h (show 24 < 29 by omega), nble h (show 27 < 29 by omega), nble h (show 28 < 29 by omega)]
theorem rows_By_sum : ∀ pc, am_row (mt_L 60) (mt_R 60) [] [] [] [] [] mt_noh (mt_B 60) pc (tb_By_sum pc) = true := by
  have ck : (List.range 29).all (fun pc => am_row (mt_L 60) (mt_R 60) [] [] [] [] [] mt_noh (mt_B 60) pc (tb_By_sum pc)) = true := by decide +kernel
  intro pc
  by_cases h : pc < 29
  · exact List.all_eq_true.mp ck pc (List.mem_range.mpr h)
  · rw [nop_By_sum pc (by omega)]
    rfl
theorem nop_By_putSum (pc : Nat) (h : 11 ≤ pc) : tb_By_putSum pc = am_nop := by
  unfold tb_By_putSum
  simp only [nble h (show 4 < 11 by omega), nble h (show 8 < 11 by omega), nble h (show 9 < 11 by omega), nble h (show 10 < 11 by omega)]
theorem rows_By_putSum : ∀ pc, am_row (mt_L 61) (mt_R 61) [] [] [(7, 60, 2)] [] [] mt_noh (mt_B 61) pc (tb_By_putSum pc) = true := by
  have ck : (List.range 11).all (fun pc => am_row (mt_L 61) (mt_R 61) [] [] [(7, 60, 2)] [] [] mt_noh (mt_B 61) pc (tb_By_putSum pc)) = true := by decide +kernel
  intro pc
  by_cases h : pc < 11
  · exact List.all_eq_true.mp ck pc (List.mem_range.mpr h)
  · rw [nop_By_putSum pc (by omega)]
    rfl
theorem nop_Ex_append (pc : Nat) (h : 54 ≤ pc) : tb_Ex_append pc = am_nop := by
  unfold tb_Ex_append
  simp only [nble h (show 30 < 54 by omega), nble h (show 41 < 54 by omega), nble h (show 48 < 54 by omega), nble h (show 50 < 54 by omega), nble h (show 52 < 54 by omega), nble h (show 53 < 54 by omega)]
theorem rows_Ex_append : ∀ pc, am_row (mt_L 62) (mt_R 62) [(11, 6, 2), (15, 6, 3), (21, 6, 0)] [] [] [(25, 27, 29, 2)] [] mt_noh (mt_B 62) pc (tb_Ex_append pc) = true := by
  have ck : (List.range 54).all (fun pc => am_row (mt_L 62) (mt_R 62) [(11, 6, 2), (15, 6, 3), (21, 6, 0)] [] [] [(25, 27, 29, 2)] [] mt_noh (mt_B 62) pc (tb_Ex_append pc)) = true := by decide +kernel
  intro pc
  by_cases h : pc < 54
  · exact List.all_eq_true.mp ck pc (List.mem_range.mpr h)
  · rw [nop_Ex_append pc (by omega)]
    rfl
theorem nop_Ex_top (pc : Nat) (h : 17 ≤ pc) : tb_Ex_top pc = am_nop := by
  unfold tb_Ex_top
  simp only [nble h (show 8 < 17 by omega), nble h (show 13 < 17 by omega), nble h (show 15 < 17 by omega), nble h (show 16 < 17 by omega)]
theorem rows_Ex_top : ∀ pc, am_row (mt_L 63) (mt_R 63) [(18, 6, 4), (36, 6, 1)] [(32, 65, 2, 6)] [] [] [] mt_noh (mt_B 63) pc (tb_Ex_top pc) = true := by
  have ck : (List.range 17).all (fun pc => am_row (mt_L 63) (mt_R 63) [(18, 6, 4), (36, 6, 1)] [(32, 65, 2, 6)] [] [] [] mt_noh (mt_B 63) pc (tb_Ex_top pc)) = true := by decide +kernel
  intro pc
  by_cases h : pc < 17
  · exact List.all_eq_true.mp ck pc (List.mem_range.mpr h)
  · rw [nop_Ex_top pc (by omega)]
    rfl
theorem nop_Ex_apply (pc : Nat) (h : 284 ≤ pc) : tb_Ex_apply pc = am_nop := by
  unfold tb_Ex_apply
  simp only [nble h (show 172 < 284 by omega), nble h (show 230 < 284 by omega), nble h (show 257 < 284 by omega), nble h (show 271 < 284 by omega), nble h (show 277 < 284 by omega), nble h (show 280 < 284 by omega), nble h (show 282 < 284 by omega), nble h (show 283 < 284 by omega)]
theorem rows_Ex_apply : ∀ pc, am_row (mt_L 64) (mt_R 64) [(11, 6, 2), (15, 6, 3), (18, 6, 4), (36, 6, 1)] [(32, 65, 2, 6), (39, 66, 2, 6), (51, 70, 4, 3), (57, 67, 1, 6)] [(42, 12, 1), (60, 68, 3)] [(46, 48, 50, 1)] [] mt_noh (mt_B 64) pc (tb_Ex_apply pc) = true := by
  have ck : (List.range 284).all (fun pc => am_row (mt_L 64) (mt_R 64) [(11, 6, 2), (15, 6, 3), (18, 6, 4), (36, 6, 1)] [(32, 65, 2, 6), (39, 66, 2, 6), (51, 70, 4, 3), (57, 67, 1, 6)] [(42, 12, 1), (60, 68, 3)] [(46, 48, 50, 1)] [] mt_noh (mt_B 64) pc (tb_Ex_apply pc)) = true := by decide +kernel
  intro pc
  by_cases h : pc < 284
  · exact List.all_eq_true.mp ck pc (List.mem_range.mpr h)
  · rw [nop_Ex_apply pc (by omega)]
    rfl
theorem nop_Ex_need (pc : Nat) (h : 19 ≤ pc) : tb_Ex_need pc = am_nop := by
  unfold tb_Ex_need
  simp only [nble h (show 5 < 19 by omega), nble h (show 8 < 19 by omega), nble h (show 17 < 19 by omega), nble h (show 18 < 19 by omega)]
theorem rows_Ex_need : ∀ pc, am_row (mt_L 65) (mt_R 65) [(36, 6, 1)] [] [] [(25, 63, 29, 2)] [] mt_noh (mt_B 65) pc (tb_Ex_need pc) = true := by
  have ck : (List.range 19).all (fun pc => am_row (mt_L 65) (mt_R 65) [(36, 6, 1)] [] [] [(25, 63, 29, 2)] [] mt_noh (mt_B 65) pc (tb_Ex_need pc)) = true := by decide +kernel
  intro pc
  by_cases h : pc < 19
  · exact List.all_eq_true.mp ck pc (List.mem_range.mpr h)
  · rw [nop_Ex_need pc (by omega)]
    rfl
theorem nop_Ex_push (pc : Nat) (h : 40 ≤ pc) : tb_Ex_push pc = am_nop := by
  unfold tb_Ex_push
  simp only [nble h (show 23 < 40 by omega), nble h (show 31 < 40 by omega), nble h (show 35 < 40 by omega), nble h (show 38 < 40 by omega), nble h (show 39 < 40 by omega)]
theorem rows_Ex_push : ∀ pc, am_row (mt_L 66) (mt_R 66) [(18, 6, 4), (36, 6, 1)] [] [] [(25, 65, 29, 2)] [] mt_noh (mt_B 66) pc (tb_Ex_push pc) = true := by
  have ck : (List.range 40).all (fun pc => am_row (mt_L 66) (mt_R 66) [(18, 6, 4), (36, 6, 1)] [] [] [(25, 65, 29, 2)] [] mt_noh (mt_B 66) pc (tb_Ex_push pc)) = true := by decide +kernel
  intro pc
  by_cases h : pc < 40
  · exact List.all_eq_true.mp ck pc (List.mem_range.mpr h)
  · rw [nop_Ex_push pc (by omega)]
    rfl
theorem nop_Ex_changePlaces (pc : Nat) (h : 52 ≤ pc) : tb_Ex_changePlaces pc = am_nop := by
  unfold tb_Ex_changePlaces
  simp only [nble h (show 26 < 52 by omega), nble h (show 39 < 52 by omega), nble h (show 46 < 52 by omega), nble h (show 49 < 52 by omega), nble h (show 50 < 52 by omega), nble h (show 51 < 52 by omega)]
theorem rows_Ex_changePlaces : ∀ pc, am_row (mt_L 67) (mt_R 67) [(18, 6, 4), (36, 6, 1)] [(32, 65, 2, 6)] [] [] [] mt_noh (mt_B 67) pc (tb_Ex_changePlaces pc) = true := by
  have ck : (List.range 52).all (fun pc => am_row (mt_L 67) (mt_R 67) [(18, 6, 4), (36, 6, 1)] [(32, 65, 2, 6)] [] [] [] mt_noh (mt_B 67) pc (tb_Ex_changePlaces pc)) = true := by decide +kernel
  intro pc
  by_cases h : pc < 52
  · exact List.all_eq_true.mp ck pc (List.mem_range.mpr h)
  · rw [nop_Ex_changePlaces pc (by omega)]
    rfl
theorem nop_Ex_combine (pc : Nat) (h : 62 ≤ pc) : tb_Ex_combine pc = am_nop := by
  unfold tb_Ex_combine
  simp only [nble h (show 40 < 62 by omega), nble h (show 47 < 62 by omega), nble h (show 58 < 62 by omega), nble h (show 60 < 62 by omega), nble h (show 61 < 62 by omega)]
theorem rows_Ex_combine : ∀ pc, am_row (mt_L 68) (mt_R 68) [] [] [] [(67, 69, 71, 5)] [] mt_noh (mt_B 68) pc (tb_Ex_combine pc) = true := by
  have ck : (List.range 62).all (fun pc => am_row (mt_L 68) (mt_R 68) [] [] [] [(67, 69, 71, 5)] [] mt_noh (mt_B 68) pc (tb_Ex_combine pc)) = true := by decide +kernel
  intro pc
  by_cases h : pc < 62
  · exact List.all_eq_true.mp ck pc (List.mem_range.mpr h)
  · rw [nop_Ex_combine pc (by omega)]
    rfl
theorem nop_Li_tellFault (pc : Nat) (h : 52 ≤ pc) : tb_Li_tellFault pc = am_nop := by
  unfold tb_Li_tellFault
  simp only [nble h (show 30 < 52 by omega), nble h (show 39 < 52 by omega), nble h (show 46 < 52 by omega), nble h (show 48 < 52 by omega), nble h (show 50 < 52 by omega), nble h (show 51 < 52 by omega)]
theorem rows_Li_tellFault : ∀ pc, am_row (mt_L 69) (mt_R 69) [(15, 3, 8), (25, 3, 6), (36, 3, 9)] [] [] [(29, 31, 33, 2)] [] mt_noh (mt_B 69) pc (tb_Li_tellFault pc) = true := by
  have ck : (List.range 52).all (fun pc => am_row (mt_L 69) (mt_R 69) [(15, 3, 8), (25, 3, 6), (36, 3, 9)] [] [] [(29, 31, 33, 2)] [] mt_noh (mt_B 69) pc (tb_Li_tellFault pc)) = true := by decide +kernel
  intro pc
  by_cases h : pc < 52
  · exact List.all_eq_true.mp ck pc (List.mem_range.mpr h)
  · rw [nop_Li_tellFault pc (by omega)]
    rfl
theorem nop_Li_ask (pc : Nat) (h : 126 ≤ pc) : tb_Li_ask pc = am_nop := by
  unfold tb_Li_ask
  simp only [nble h (show 57 < 126 by omega), nble h (show 87 < 126 by omega), nble h (show 102 < 126 by omega), nble h (show 110 < 126 by omega), nble h (show 115 < 126 by omega), nble h (show 116 < 126 by omega), nble h (show 125 < 126 by omega)]
theorem rows_Li_ask : ∀ pc, am_row (mt_L 70) (mt_R 70) [(9, 3, 0), (18, 3, 10), (21, 3, 7), (43, 3, 3), (56, 3, 4), (59, 2, 0), (62, 3, 1)] [(39, 71, 4, 3), (46, 72, 3, 3), (50, 80, 2, 2)] [(65, 58, 2)] [(71, 73, 75, 3)] [] mt_noh (mt_B 70) pc (tb_Li_ask pc) = true := by
  have ck : (List.range 126).all (fun pc => am_row (mt_L 70) (mt_R 70) [(9, 3, 0), (18, 3, 10), (21, 3, 7), (43, 3, 3), (56, 3, 4), (59, 2, 0), (62, 3, 1)] [(39, 71, 4, 3), (46, 72, 3, 3), (50, 80, 2, 2)] [(65, 58, 2)] [(71, 73, 75, 3)] [] mt_noh (mt_B 70) pc (tb_Li_ask pc)) = true := by decide +kernel
  intro pc
  by_cases h : pc < 126
  · exact List.all_eq_true.mp ck pc (List.mem_range.mpr h)
  · rw [nop_Li_ask pc (by omega)]
    rfl
theorem nop_Li_writeRequest (pc : Nat) (h : 63 ≤ pc) : tb_Li_writeRequest pc = am_nop := by
  unfold tb_Li_writeRequest
  simp only [nble h (show 31 < 63 by omega), nble h (show 47 < 63 by omega), nble h (show 54 < 63 by omega), nble h (show 58 < 63 by omega), nble h (show 61 < 63 by omega), nble h (show 62 < 63 by omega)]
theorem rows_Li_writeRequest : ∀ pc, am_row (mt_L 71) (mt_R 71) [(9, 3, 0), (76, 3, 2)] [] [(79, 59, 3), (83, 61, 2)] [] [] mt_noh (mt_B 71) pc (tb_Li_writeRequest pc) = true := by
  have ck : (List.range 63).all (fun pc => am_row (mt_L 71) (mt_R 71) [(9, 3, 0), (76, 3, 2)] [] [(79, 59, 3), (83, 61, 2)] [] [] mt_noh (mt_B 71) pc (tb_Li_writeRequest pc)) = true := by decide +kernel
  intro pc
  by_cases h : pc < 63
  · exact List.all_eq_true.mp ck pc (List.mem_range.mpr h)
  · rw [nop_Li_writeRequest pc (by omega)]
    rfl
theorem nop_Li_carry (pc : Nat) (h : 91 ≤ pc) : tb_Li_carry pc = am_nop := by
  unfold tb_Li_carry
  simp only [nble h (show 45 < 91 by omega), nble h (show 67 < 91 by omega), nble h (show 79 < 91 by omega), nble h (show 85 < 91 by omega), nble h (show 88 < 91 by omega), nble h (show 89 < 91 by omega), nble h (show 90 < 91 by omega)]
theorem rows_Li_carry : ∀ pc, am_row (mt_L 72) (mt_R 72) [(18, 3, 10), (100, 3, 5)] [(87, 73, 1, 3)] [(97, 60, 2)] [] [91] mt_noh (mt_B 72) pc (tb_Li_carry pc) = true := by
  have ck : (List.range 91).all (fun pc => am_row (mt_L 72) (mt_R 72) [(18, 3, 10), (100, 3, 5)] [(87, 73, 1, 3)] [(97, 60, 2)] [] [91] mt_noh (mt_B 72) pc (tb_Li_carry pc)) = true := by decide +kernel
  intro pc
  by_cases h : pc < 91
  · exact List.all_eq_true.mp ck pc (List.mem_range.mpr h)
  · rw [nop_Li_carry pc (by omega)]
    rfl
theorem nop_Li_takeFault (pc : Nat) (h : 44 ≤ pc) : tb_Li_takeFault pc = am_nop := by
  unfold tb_Li_takeFault
  simp only [nble h (show 21 < 44 by omega), nble h (show 32 < 44 by omega), nble h (show 38 < 44 by omega), nble h (show 41 < 44 by omega), nble h (show 42 < 44 by omega), nble h (show 43 < 44 by omega)]
theorem rows_Li_takeFault : ∀ pc, am_row (mt_L 73) (mt_R 73) [(15, 3, 8), (25, 3, 6), (36, 3, 9)] [] [] [] [] mt_noh (mt_B 73) pc (tb_Li_takeFault pc) = true := by
  have ck : (List.range 44).all (fun pc => am_row (mt_L 73) (mt_R 73) [(15, 3, 8), (25, 3, 6), (36, 3, 9)] [] [] [] [] mt_noh (mt_B 73) pc (tb_Li_takeFault pc)) = true := by decide +kernel
  intro pc
  by_cases h : pc < 44
  · exact List.all_eq_true.mp ck pc (List.mem_range.mpr h)
  · rw [nop_Li_takeFault pc (by omega)]
    rfl
theorem nop_Ma_isBreak (pc : Nat) (h : 15 ≤ pc) : tb_Ma_isBreak pc = am_nop := by
  unfold tb_Ma_isBreak
  simp only [nble h (show 6 < 15 by omega), nble h (show 10 < 15 by omega), nble h (show 13 < 15 by omega), nble h (show 14 < 15 by omega)]
theorem rows_Ma_isBreak : ∀ pc, am_row (mt_L 74) (mt_R 74) [] [] [] [] [] mt_noh (mt_B 74) pc (tb_Ma_isBreak pc) = true := by
  have ck : (List.range 15).all (fun pc => am_row (mt_L 74) (mt_R 74) [] [] [] [] [] mt_noh (mt_B 74) pc (tb_Ma_isBreak pc)) = true := by decide +kernel
  intro pc
  by_cases h : pc < 15
  · exact List.all_eq_true.mp ck pc (List.mem_range.mpr h)
  · rw [nop_Ma_isBreak pc (by omega)]
    rfl
theorem nop_Ma_instructionAtPc (pc : Nat) (h : 25 ≤ pc) : tb_Ma_instructionAtPc pc = am_nop := by
  unfold tb_Ma_instructionAtPc
  simp only [nble h (show 13 < 25 by omega), nble h (show 19 < 25 by omega), nble h (show 22 < 25 by omega), nble h (show 23 < 25 by omega), nble h (show 24 < 25 by omega)]
theorem rows_Ma_instructionAtPc : ∀ pc, am_row (mt_L 75) (mt_R 75) [(9, 1, 0), (18, 1, 2)] [] [(22, 12, 1)] [] [] mt_noh (mt_B 75) pc (tb_Ma_instructionAtPc pc) = true := by
  have ck : (List.range 25).all (fun pc => am_row (mt_L 75) (mt_R 75) [(9, 1, 0), (18, 1, 2)] [] [(22, 12, 1)] [] [] mt_noh (mt_B 75) pc (tb_Ma_instructionAtPc pc)) = true := by decide +kernel
  intro pc
  by_cases h : pc < 25
  · exact List.all_eq_true.mp ck pc (List.mem_range.mpr h)
  · rw [nop_Ma_instructionAtPc pc (by omega)]
    rfl
theorem nop_Ma_execute (pc : Nat) (h : 330 ≤ pc) : tb_Ma_execute pc = am_nop := by
  unfold tb_Ma_execute
  simp only [nble h (show 200 < 330 by omega), nble h (show 266 < 330 by omega), nble h (show 298 < 330 by omega), nble h (show 313 < 330 by omega), nble h (show 322 < 330 by omega), nble h (show 325 < 330 by omega), nble h (show 328 < 330 by omega), nble h (show 329 < 330 by omega)]
theorem rows_Ma_execute : ∀ pc, am_row (mt_L 76) (mt_R 76) [(9, 1, 0), (15, 1, 1), (18, 1, 2), (30, 1, 3)] [] [(22, 12, 1), (26, 77, 4)] [] [] mt_noh (mt_B 76) pc (tb_Ma_execute pc) = true := by
  have ck : (List.range 330).all (fun pc => am_row (mt_L 76) (mt_R 76) [(9, 1, 0), (15, 1, 1), (18, 1, 2), (30, 1, 3)] [] [(22, 12, 1), (26, 77, 4)] [] [] mt_noh (mt_B 76) pc (tb_Ma_execute pc)) = true := by decide +kernel
  intro pc
  by_cases h : pc < 330
  · exact List.all_eq_true.mp ck pc (List.mem_range.mpr h)
  · rw [nop_Ma_execute pc (by omega)]
    rfl
theorem nop_Ma_calculate (pc : Nat) (h : 54 ≤ pc) : tb_Ma_calculate pc = am_nop := by
  unfold tb_Ma_calculate
  simp only [nble h (show 43 < 54 by omega), nble h (show 48 < 54 by omega), nble h (show 51 < 54 by omega), nble h (show 52 < 54 by omega), nble h (show 53 < 54 by omega)]
theorem rows_Ma_calculate : ∀ pc, am_row (mt_L 77) (mt_R 77) [] [] [] [] [] mt_noh (mt_B 77) pc (tb_Ma_calculate pc) = true := by
  have ck : (List.range 54).all (fun pc => am_row (mt_L 77) (mt_R 77) [] [] [] [] [] mt_noh (mt_B 77) pc (tb_Ma_calculate pc)) = true := by decide +kernel
  intro pc
  by_cases h : pc < 54
  · exact List.all_eq_true.mp ck pc (List.mem_range.mpr h)
  · rw [nop_Ma_calculate pc (by omega)]
    rfl
theorem nop_Rt_append (pc : Nat) (h : 73 ≤ pc) : tb_Rt_append pc = am_nop := by
  unfold tb_Rt_append
  simp only [nble h (show 39 < 73 by omega), nble h (show 56 < 73 by omega), nble h (show 64 < 73 by omega), nble h (show 68 < 73 by omega), nble h (show 71 < 73 by omega), nble h (show 72 < 73 by omega)]
theorem rows_Rt_append : ∀ pc, am_row (mt_L 78) (mt_R 78) [(11, 4, 0), (18, 4, 1), (29, 7, 0), (32, 7, 1), (35, 7, 2), (36, 7, 3)] [] [] [(22, 24, 26, 2)] [] mt_noh (mt_B 78) pc (tb_Rt_append pc) = true := by
  have ck : (List.range 73).all (fun pc => am_row (mt_L 78) (mt_R 78) [(11, 4, 0), (18, 4, 1), (29, 7, 0), (32, 7, 1), (35, 7, 2), (36, 7, 3)] [] [] [(22, 24, 26, 2)] [] mt_noh (mt_B 78) pc (tb_Rt_append pc)) = true := by decide +kernel
  intro pc
  by_cases h : pc < 73
  · exact List.all_eq_true.mp ck pc (List.mem_range.mpr h)
  · rw [nop_Rt_append pc (by omega)]
    rfl
theorem nop_Rt_firstFor (pc : Nat) (h : 51 ≤ pc) : tb_Rt_firstFor pc = am_nop := by
  unfold tb_Rt_firstFor
  simp only [nble h (show 24 < 51 by omega), nble h (show 37 < 51 by omega), nble h (show 43 < 51 by omega), nble h (show 48 < 51 by omega), nble h (show 49 < 51 by omega), nble h (show 50 < 51 by omega)]
theorem rows_Rt_firstFor : ∀ pc, am_row (mt_L 79) (mt_R 79) [(11, 4, 0), (18, 4, 1), (29, 7, 0), (32, 7, 1)] [] [] [] [] mt_noh (mt_B 79) pc (tb_Rt_firstFor pc) = true := by
  have ck : (List.range 51).all (fun pc => am_row (mt_L 79) (mt_R 79) [(11, 4, 0), (18, 4, 1), (29, 7, 0), (32, 7, 1)] [] [] [] [] mt_noh (mt_B 79) pc (tb_Rt_firstFor pc)) = true := by decide +kernel
  intro pc
  by_cases h : pc < 51
  · exact List.all_eq_true.mp ck pc (List.mem_range.mpr h)
  · rw [nop_Rt_firstFor pc (by omega)]
    rfl
theorem nop_St_receive (pc : Nat) (h : 78 ≤ pc) : tb_St_receive pc = am_nop := by
  unfold tb_St_receive
  simp only [nble h (show 37 < 78 by omega), nble h (show 57 < 78 by omega), nble h (show 67 < 78 by omega), nble h (show 72 < 78 by omega), nble h (show 74 < 78 by omega), nble h (show 76 < 78 by omega), nble h (show 77 < 78 by omega)]
theorem rows_St_receive : ∀ pc, am_row (mt_L 80) (mt_R 80) [(9, 2, 0), (26, 2, 5), (30, 2, 6)] [(39, 81, 4, 2)] [(33, 58, 2), (43, 59, 3), (47, 61, 2)] [] [] mt_noh (mt_B 80) pc (tb_St_receive pc) = true := by
  have ck : (List.range 78).all (fun pc => am_row (mt_L 80) (mt_R 80) [(9, 2, 0), (26, 2, 5), (30, 2, 6)] [(39, 81, 4, 2)] [(33, 58, 2), (43, 59, 3), (47, 61, 2)] [] [] mt_noh (mt_B 80) pc (tb_St_receive pc)) = true := by decide +kernel
  intro pc
  by_cases h : pc < 78
  · exact List.all_eq_true.mp ck pc (List.mem_range.mpr h)
  · rw [nop_St_receive pc (by omega)]
    rfl
theorem nop_St_perform (pc : Nat) (h : 157 ≤ pc) : tb_St_perform pc = am_nop := by
  unfold tb_St_perform
  simp only [nble h (show 104 < 157 by omega), nble h (show 130 < 157 by omega), nble h (show 143 < 157 by omega), nble h (show 150 < 157 by omega), nble h (show 153 < 157 by omega), nble h (show 155 < 157 by omega), nble h (show 156 < 157 by omega)]
theorem rows_St_perform : ∀ pc, am_row (mt_L 81) (mt_R 81) [(22, 2, 2), (55, 1, 1), (90, 1, 2)] [(60, 82, 1, 2), (64, 84, 3, 2), (68, 85, 2, 2), (72, 86, 3, 2), (75, 87, 2, 2), (78, 88, 2, 2), (81, 89, 1, 2), (84, 76, 2, 1), (87, 90, 3, 2)] [(51, 13, 1)] [] [] mt_noh (mt_B 81) pc (tb_St_perform pc) = true := by
  have ck : (List.range 157).all (fun pc => am_row (mt_L 81) (mt_R 81) [(22, 2, 2), (55, 1, 1), (90, 1, 2)] [(60, 82, 1, 2), (64, 84, 3, 2), (68, 85, 2, 2), (72, 86, 3, 2), (75, 87, 2, 2), (78, 88, 2, 2), (81, 89, 1, 2), (84, 76, 2, 1), (87, 90, 3, 2)] [(51, 13, 1)] [] [] mt_noh (mt_B 81) pc (tb_St_perform pc)) = true := by decide +kernel
  intro pc
  by_cases h : pc < 157
  · exact List.all_eq_true.mp ck pc (List.mem_range.mpr h)
  · rw [nop_St_perform pc (by omega)]
    rfl
theorem nop_St_refuse (pc : Nat) (h : 7 ≤ pc) : tb_St_refuse pc = am_nop := by
  unfold tb_St_refuse
  simp only [nble h (show 2 < 7 by omega), nble h (show 5 < 7 by omega), nble h (show 6 < 7 by omega)]
theorem rows_St_refuse : ∀ pc, am_row (mt_L 82) (mt_R 82) [(30, 2, 6)] [] [] [] [] mt_noh (mt_B 82) pc (tb_St_refuse pc) = true := by
  have ck : (List.range 7).all (fun pc => am_row (mt_L 82) (mt_R 82) [(30, 2, 6)] [] [] [] [] mt_noh (mt_B 82) pc (tb_St_refuse pc)) = true := by decide +kernel
  intro pc
  by_cases h : pc < 7
  · exact List.all_eq_true.mp ck pc (List.mem_range.mpr h)
  · rw [nop_St_refuse pc (by omega)]
    rfl
theorem nop_St_hasBreakpoint (pc : Nat) (h : 22 ≤ pc) : tb_St_hasBreakpoint pc = am_nop := by
  unfold tb_St_hasBreakpoint
  simp only [nble h (show 11 < 22 by omega), nble h (show 16 < 22 by omega), nble h (show 19 < 22 by omega), nble h (show 20 < 22 by omega), nble h (show 21 < 22 by omega)]
theorem rows_St_hasBreakpoint : ∀ pc, am_row (mt_L 83) (mt_R 83) [(15, 2, 3)] [] [(93, 12, 1)] [] [] mt_noh (mt_B 83) pc (tb_St_hasBreakpoint pc) = true := by
  have ck : (List.range 22).all (fun pc => am_row (mt_L 83) (mt_R 83) [(15, 2, 3)] [] [(93, 12, 1)] [] [] mt_noh (mt_B 83) pc (tb_St_hasBreakpoint pc)) = true := by decide +kernel
  intro pc
  by_cases h : pc < 22
  · exact List.all_eq_true.mp ck pc (List.mem_range.mpr h)
  · rw [nop_St_hasBreakpoint pc (by omega)]
    rfl
theorem nop_St_writeRegister (pc : Nat) (h : 24 ≤ pc) : tb_St_writeRegister pc = am_nop := by
  unfold tb_St_writeRegister
  simp only [nble h (show 12 < 24 by omega), nble h (show 19 < 24 by omega), nble h (show 21 < 24 by omega), nble h (show 22 < 24 by omega), nble h (show 23 < 24 by omega)]
theorem rows_St_writeRegister : ∀ pc, am_row (mt_L 84) (mt_R 84) [(22, 2, 2), (55, 1, 1)] [(60, 82, 1, 2)] [(51, 13, 1)] [] [] mt_noh (mt_B 84) pc (tb_St_writeRegister pc) = true := by
  have ck : (List.range 24).all (fun pc => am_row (mt_L 84) (mt_R 84) [(22, 2, 2), (55, 1, 1)] [(60, 82, 1, 2)] [(51, 13, 1)] [] [] mt_noh (mt_B 84) pc (tb_St_writeRegister pc)) = true := by decide +kernel
  intro pc
  by_cases h : pc < 24
  · exact List.all_eq_true.mp ck pc (List.mem_range.mpr h)
  · rw [nop_St_writeRegister pc (by omega)]
    rfl
theorem nop_St_readWord (pc : Nat) (h : 40 ≤ pc) : tb_St_readWord pc = am_nop := by
  unfold tb_St_readWord
  simp only [nble h (show 20 < 40 by omega), nble h (show 30 < 40 by omega), nble h (show 36 < 40 by omega), nble h (show 38 < 40 by omega), nble h (show 39 < 40 by omega)]
theorem rows_St_readWord : ∀ pc, am_row (mt_L 85) (mt_R 85) [(15, 2, 3), (19, 2, 4), (22, 2, 2), (96, 1, 0)] [(60, 82, 1, 2)] [(93, 12, 1)] [] [] mt_noh (mt_B 85) pc (tb_St_readWord pc) = true := by
  have ck : (List.range 40).all (fun pc => am_row (mt_L 85) (mt_R 85) [(15, 2, 3), (19, 2, 4), (22, 2, 2), (96, 1, 0)] [(60, 82, 1, 2)] [(93, 12, 1)] [] [] mt_noh (mt_B 85) pc (tb_St_readWord pc)) = true := by decide +kernel
  intro pc
  by_cases h : pc < 40
  · exact List.all_eq_true.mp ck pc (List.mem_range.mpr h)
  · rw [nop_St_readWord pc (by omega)]
    rfl
theorem nop_St_writeWord (pc : Nat) (h : 43 ≤ pc) : tb_St_writeWord pc = am_nop := by
  unfold tb_St_writeWord
  simp only [nble h (show 21 < 43 by omega), nble h (show 32 < 43 by omega), nble h (show 38 < 43 by omega), nble h (show 40 < 43 by omega), nble h (show 41 < 43 by omega), nble h (show 42 < 43 by omega)]
theorem rows_St_writeWord : ∀ pc, am_row (mt_L 86) (mt_R 86) [(15, 2, 3), (19, 2, 4), (22, 2, 2), (96, 1, 0)] [(60, 82, 1, 2)] [(93, 12, 1)] [] [] mt_noh (mt_B 86) pc (tb_St_writeWord pc) = true := by
  have ck : (List.range 43).all (fun pc => am_row (mt_L 86) (mt_R 86) [(15, 2, 3), (19, 2, 4), (22, 2, 2), (96, 1, 0)] [(60, 82, 1, 2)] [(93, 12, 1)] [] [] mt_noh (mt_B 86) pc (tb_St_writeWord pc)) = true := by decide +kernel
  intro pc
  by_cases h : pc < 43
  · exact List.all_eq_true.mp ck pc (List.mem_range.mpr h)
  · rw [nop_St_writeWord pc (by omega)]
    rfl
theorem nop_St_putBreakpoint (pc : Nat) (h : 74 ≤ pc) : tb_St_putBreakpoint pc = am_nop := by
  unfold tb_St_putBreakpoint
  simp only [nble h (show 37 < 74 by omega), nble h (show 57 < 74 by omega), nble h (show 64 < 74 by omega), nble h (show 69 < 74 by omega), nble h (show 72 < 74 by omega), nble h (show 73 < 74 by omega)]
theorem rows_St_putBreakpoint : ∀ pc, am_row (mt_L 87) (mt_R 87) [(15, 2, 3), (19, 2, 4), (22, 2, 2), (96, 1, 0), (99, 2, 1)] [(60, 82, 1, 2)] [(93, 12, 1)] [] [] mt_noh (mt_B 87) pc (tb_St_putBreakpoint pc) = true := by
  have ck : (List.range 74).all (fun pc => am_row (mt_L 87) (mt_R 87) [(15, 2, 3), (19, 2, 4), (22, 2, 2), (96, 1, 0), (99, 2, 1)] [(60, 82, 1, 2)] [(93, 12, 1)] [] [] mt_noh (mt_B 87) pc (tb_St_putBreakpoint pc)) = true := by decide +kernel
  intro pc
  by_cases h : pc < 74
  · exact List.all_eq_true.mp ck pc (List.mem_range.mpr h)
  · rw [nop_St_putBreakpoint pc (by omega)]
    rfl
theorem nop_St_takeBreakpoint (pc : Nat) (h : 47 ≤ pc) : tb_St_takeBreakpoint pc = am_nop := by
  unfold tb_St_takeBreakpoint
  simp only [nble h (show 23 < 47 by omega), nble h (show 35 < 47 by omega), nble h (show 41 < 47 by omega), nble h (show 44 < 47 by omega), nble h (show 45 < 47 by omega), nble h (show 46 < 47 by omega)]
theorem rows_St_takeBreakpoint : ∀ pc, am_row (mt_L 88) (mt_R 88) [(15, 2, 3), (19, 2, 4), (22, 2, 2), (96, 1, 0), (99, 2, 1)] [(60, 82, 1, 2), (102, 83, 2, 2)] [] [] [] mt_noh (mt_B 88) pc (tb_St_takeBreakpoint pc) = true := by
  have ck : (List.range 47).all (fun pc => am_row (mt_L 88) (mt_R 88) [(15, 2, 3), (19, 2, 4), (22, 2, 2), (96, 1, 0), (99, 2, 1)] [(60, 82, 1, 2), (102, 83, 2, 2)] [] [] [] mt_noh (mt_B 88) pc (tb_St_takeBreakpoint pc)) = true := by decide +kernel
  intro pc
  by_cases h : pc < 47
  · exact List.all_eq_true.mp ck pc (List.mem_range.mpr h)
  · rw [nop_St_takeBreakpoint pc (by omega)]
    rfl
theorem nop_St_firstInstruction (pc : Nat) (h : 37 ≤ pc) : tb_St_firstInstruction pc = am_nop := by
  unfold tb_St_firstInstruction
  simp only [nble h (show 18 < 37 by omega), nble h (show 28 < 37 by omega), nble h (show 32 < 37 by omega), nble h (show 35 < 37 by omega), nble h (show 36 < 37 by omega)]
theorem rows_St_firstInstruction : ∀ pc, am_row (mt_L 89) (mt_R 89) [(19, 2, 4), (22, 2, 2), (90, 1, 2)] [(102, 83, 2, 2), (105, 75, 1, 1)] [] [] [] mt_noh (mt_B 89) pc (tb_St_firstInstruction pc) = true := by
  have ck : (List.range 37).all (fun pc => am_row (mt_L 89) (mt_R 89) [(19, 2, 4), (22, 2, 2), (90, 1, 2)] [(102, 83, 2, 2), (105, 75, 1, 1)] [] [] [] mt_noh (mt_B 89) pc (tb_St_firstInstruction pc)) = true := by decide +kernel
  intro pc
  by_cases h : pc < 37
  · exact List.all_eq_true.mp ck pc (List.mem_range.mpr h)
  · rw [nop_St_firstInstruction pc (by omega)]
    rfl
theorem nop_St_run (pc : Nat) (h : 71 ≤ pc) : tb_St_run pc = am_nop := by
  unfold tb_St_run
  simp only [nble h (show 35 < 71 by omega), nble h (show 52 < 71 by omega), nble h (show 61 < 71 by omega), nble h (show 66 < 71 by omega), nble h (show 69 < 71 by omega), nble h (show 70 < 71 by omega)]
theorem rows_St_run : ∀ pc, am_row (mt_L 90) (mt_R 90) [(22, 2, 2)] [(60, 82, 1, 2), (84, 76, 2, 1), (105, 75, 1, 1)] [(108, 74, 1)] [] [] mt_noh (mt_B 90) pc (tb_St_run pc) = true := by
  have ck : (List.range 71).all (fun pc => am_row (mt_L 90) (mt_R 90) [(22, 2, 2)] [(60, 82, 1, 2), (84, 76, 2, 1), (105, 75, 1, 1)] [(108, 74, 1)] [] [] mt_noh (mt_B 90) pc (tb_St_run pc)) = true := by decide +kernel
  intro pc
  by_cases h : pc < 71
  · exact List.all_eq_true.mp ck pc (List.mem_range.mpr h)
  · rw [nop_St_run pc (by omega)]
    rfl
