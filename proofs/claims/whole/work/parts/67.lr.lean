/-! The law's own rows and words. -/
theorem nop_La_law (pc : Nat) (h : 720 ≤ pc) : tb_La_law pc = am_nop := by
  unfold tb_La_law
  simp only [nble h (show 386 < 720 by omega), nble h (show 552 < 720 by omega), nble h (show 635 < 720 by omega), nble h (show 676 < 720 by omega), nble h (show 697 < 720 by omega), nble h (show 707 < 720 by omega), nble h (show 714 < 720 by omega), nble h (show 717 < 720 by omega), nble h (show 718 < 720 by omega), nble h (show 719 < 720 by omega)]
theorem rows_La_law : ∀ pc, am_row (mt_L 99) (mt_R 99) [] [(53, 0, 3, 0), (57, 17, 3, 8), (63, 36, 2, 8), (64, 15, 1, 8), (70, 37, 4, 8), (71, 3, 2, 0), (74, 38, 2, 8), (78, 39, 5, 8), (82, 40, 3, 8), (86, 44, 1, 8), (90, 45, 3, 8), (93, 46, 3, 8), (94, 9, 1, 0), (97, 47, 1, 8), (100, 52, 2, 8), (101, 11, 2, 0), (104, 53, 2, 8)] [(58, 91, 3), (67, 92, 5), (75, 93, 6), (79, 94, 3), (83, 95, 2), (87, 96, 4), (91, 97, 4), (98, 98, 3)] [] [] mt_noh (mt_B 99) pc (tb_La_law pc) = true := by
  have ck : (List.range 720).all (fun pc => am_row (mt_L 99) (mt_R 99) [] [(53, 0, 3, 0), (57, 17, 3, 8), (63, 36, 2, 8), (64, 15, 1, 8), (70, 37, 4, 8), (71, 3, 2, 0), (74, 38, 2, 8), (78, 39, 5, 8), (82, 40, 3, 8), (86, 44, 1, 8), (90, 45, 3, 8), (93, 46, 3, 8), (94, 9, 1, 0), (97, 47, 1, 8), (100, 52, 2, 8), (101, 11, 2, 0), (104, 53, 2, 8)] [(58, 91, 3), (67, 92, 5), (75, 93, 6), (79, 94, 3), (83, 95, 2), (87, 96, 4), (91, 97, 4), (98, 98, 3)] [] [] mt_noh (mt_B 99) pc (tb_La_law pc)) = true := by decide +kernel
  intro pc
  by_cases h : pc < 720
  · exact List.all_eq_true.mp ck pc (List.mem_range.mpr h)
  · rw [nop_La_law pc (by omega)]
    rfl
theorem chk_La_law : mt_chk (mt_Y 99).cls room_1.frames room_1.locals [] [(53, 0, 3, 0), (57, 17, 3, 8), (63, 36, 2, 8), (64, 15, 1, 8), (70, 37, 4, 8), (71, 3, 2, 0), (74, 38, 2, 8), (78, 39, 5, 8), (82, 40, 3, 8), (86, 44, 1, 8), (90, 45, 3, 8), (93, 46, 3, 8), (94, 9, 1, 0), (97, 47, 1, 8), (100, 52, 2, 8), (101, 11, 2, 0), (104, 53, 2, 8)] [(58, 91, 3), (67, 92, 5), (75, 93, 6), (79, 94, 3), (83, 95, 2), (87, 96, 4), (91, 97, 4), (98, 98, 3)] [] [] = true := by decide +kernel
section LR
variable {l : Launch} {D : va_G} {t : Nat → ClassId} {ad : Nat → Nat} {A : Nat → Prop} {H0 : Heap} {sc : am_S}
theorem law_mv (hfl0 : l.flags = pinnedFlags ++ [noTraceFlag]) (hA : ∀ q, A q → H0.size ≤ q) (hbl : ad 900 < H0.size) : ∀ q ∈ ([(53, 0, 3, 0), (57, 17, 3, 8), (63, 36, 2, 8), (64, 15, 1, 8), (70, 37, 4, 8), (71, 3, 2, 0), (74, 38, 2, 8), (78, 39, 5, 8), (82, 40, 3, 8), (86, 44, 1, 8), (90, 45, 3, 8), (93, 46, 3, 8), (94, 9, 1, 0), (97, 47, 1, 8), (100, 52, 2, 8), (101, 11, 2, 0), (104, 53, 2, 8)] : List (Nat × Nat × Nat × Nat)), am_MT l D t ad A H0 sc q.2.1 :=
  fun q hq => by
    simp only [List.mem_cons, List.not_mem_nil, or_false] at hq
    rcases hq with rfl | rfl | rfl | rfl | rfl | rfl | rfl | rfl | rfl | rfl | rfl | rfl | rfl | rfl | rfl | rfl | rfl
    · exact mt_0 hfl0 hA hbl
    · exact mt_17 hfl0 hA hbl
    · exact mt_36 hfl0 hA hbl
    · exact mt_15 hfl0 hA hbl
    · exact mt_37 hfl0 hA hbl
    · exact mt_3 hfl0 hA hbl
    · exact mt_38 hfl0 hA hbl
    · exact mt_39 hfl0 hA hbl
    · exact mt_40 hfl0 hA hbl
    · exact mt_44 hfl0 hA hbl
    · exact mt_45 hfl0 hA hbl
    · exact mt_46 hfl0 hA hbl
    · exact mt_9 hfl0 hA hbl
    · exact mt_47 hfl0 hA hbl
    · exact mt_52 hfl0 hA hbl
    · exact mt_11 hfl0 hA hbl
    · exact mt_53 hfl0 hA hbl
theorem law_ms (hfl0 : l.flags = pinnedFlags ++ [noTraceFlag]) (hA : ∀ q, A q → H0.size ≤ q) (hbl : ad 900 < H0.size) : ∀ q ∈ ([(58, 91, 3), (67, 92, 5), (75, 93, 6), (79, 94, 3), (83, 95, 2), (87, 96, 4), (91, 97, 4), (98, 98, 3)] : List (Nat × Nat × Nat)), am_MT l D t ad A H0 sc q.2.1 :=
  fun q hq => by
    simp only [List.mem_cons, List.not_mem_nil, or_false] at hq
    rcases hq with rfl | rfl | rfl | rfl | rfl | rfl | rfl | rfl
    · exact mt_91 hfl0 hA hbl
    · exact mt_92 hfl0 hA hbl
    · exact mt_93 hfl0 hA hbl
    · exact mt_94 hfl0 hA hbl
    · exact mt_95 hfl0 hA hbl
    · exact mt_96 hfl0 hA hbl
    · exact mt_97 hfl0 hA hbl
    · exact mt_98 hfl0 hA hbl
end LR
