/-! All contracts. -/
section MM
variable {l : Launch} {D : va_G} {t : Nat → ClassId} {ad : Nat → Nat} {A : Nat → Prop} {H0 : Heap} {sc : am_S}
theorem mt_3 (hfl0 : l.flags = pinnedFlags ++ [noTraceFlag]) (hA : ∀ q, A q → H0.size ≤ q) (hbl : ad 900 < H0.size) : am_MT l D t ad A H0 sc 3 :=
  mt_plain hfl0 hA hbl (j := 3) rfl (by decide) (by decide) chk_L_byteAt rows_L_byteAt (ok_byteAt sc am_CT)
  (fun q hq => by cases hq)
  (fun q hq => by cases hq)
theorem mt_9 (hfl0 : l.flags = pinnedFlags ++ [noTraceFlag]) (hA : ∀ q, A q → H0.size ≤ q) (hbl : ad 900 < H0.size) : am_MT l D t ad A H0 sc 9 :=
  mt_plain hfl0 hA hbl (j := 9) rfl (by decide) (by decide) chk_L_drop rows_L_drop (ok_drop sc am_CT)
  (fun q hq => by cases hq)
  (fun q hq => by cases hq)
theorem mt_11 (hfl0 : l.flags = pinnedFlags ++ [noTraceFlag]) (hA : ∀ q, A q → H0.size ≤ q) (hbl : ad 900 < H0.size) : am_MT l D t ad A H0 sc 11 :=
  mt_plain hfl0 hA hbl (j := 11) rfl (by decide) (by decide) chk_L_count rows_L_count (ok_count sc am_CT)
  (fun q hq => by cases hq)
  (fun q hq => by cases hq)
theorem mt_12 (hfl0 : l.flags = pinnedFlags ++ [noTraceFlag]) (hA : ∀ q, A q → H0.size ≤ q) (hbl : ad 900 < H0.size) : am_MT l D t ad A H0 sc 12 :=
  mt_plain hfl0 hA hbl (j := 12) rfl (by decide) (by decide) chk_L_isAddress rows_L_isAddress (ok_isAddress sc am_CT)
  (fun q hq => by cases hq)
  (fun q hq => by cases hq)
theorem mt_13 (hfl0 : l.flags = pinnedFlags ++ [noTraceFlag]) (hA : ∀ q, A q → H0.size ≤ q) (hbl : ad 900 < H0.size) : am_MT l D t ad A H0 sc 13 :=
  mt_plain hfl0 hA hbl (j := 13) rfl (by decide) (by decide) chk_L_isRegister rows_L_isRegister (ok_isRegister sc am_CT)
  (fun q hq => by cases hq)
  (fun q hq => by cases hq)
theorem mt_14 (hfl0 : l.flags = pinnedFlags ++ [noTraceFlag]) (hA : ∀ q, A q → H0.size ≤ q) (hbl : ad 900 < H0.size) : am_MT l D t ad A H0 sc 14 :=
  mt_plain hfl0 hA hbl (j := 14) rfl (by decide) (by decide) chk_L_isSlot rows_L_isSlot (ok_isSlot sc am_CT)
  (fun q hq => by cases hq)
  (fun q hq => by cases hq)
theorem mt_15 (hfl0 : l.flags = pinnedFlags ++ [noTraceFlag]) (hA : ∀ q, A q → H0.size ≤ q) (hbl : ad 900 < H0.size) : am_MT l D t ad A H0 sc 15 :=
  mt_plain hfl0 hA hbl (j := 15) rfl (by decide) (by decide) chk_Mo_thrown rows_Mo_thrown (ok_mthrown sc am_CT)
  (fun q hq => by cases hq)
  (fun q hq => by cases hq)
theorem mt_16 (hfl0 : l.flags = pinnedFlags ++ [noTraceFlag]) (hA : ∀ q, A q → H0.size ≤ q) (hbl : ad 900 < H0.size) : am_MT l D t ad A H0 sc 16 :=
  mt_plain hfl0 hA hbl (j := 16) rfl (by decide) (by decide) chk_Mo_isAddress rows_Mo_isAddress (ok_Mo_isAddress sc am_CT)
  (fun q hq => by cases hq)
  (fun q hq => by cases hq)
theorem mt_18 (hfl0 : l.flags = pinnedFlags ++ [noTraceFlag]) (hA : ∀ q, A q → H0.size ≤ q) (hbl : ad 900 < H0.size) : am_MT l D t ad A H0 sc 18 :=
  mt_plain hfl0 hA hbl (j := 18) rfl (by decide) (by decide) chk_Mo_breakOf rows_Mo_breakOf (ok_mbreakOf sc am_CT)
  (fun q hq => by cases hq)
  (fun q hq => by cases hq)
theorem mt_19 (hfl0 : l.flags = pinnedFlags ++ [noTraceFlag]) (hA : ∀ q, A q → H0.size ≤ q) (hbl : ad 900 < H0.size) : am_MT l D t ad A H0 sc 19 :=
  mt_plain hfl0 hA hbl (j := 19) rfl (by decide) (by decide) chk_Mo_done rows_Mo_done (ok_mdone sc am_CT)
  (fun q hq => by cases hq)
  (fun q hq => by cases hq)
theorem mt_24 (hfl0 : l.flags = pinnedFlags ++ [noTraceFlag]) (hA : ∀ q, A q → H0.size ≤ q) (hbl : ad 900 < H0.size) : am_MT l D t ad A H0 sc 24 :=
  mt_plain hfl0 hA hbl (j := 24) rfl (by decide) (by decide) chk_Mo_answer rows_Mo_answer (ok_manswer sc am_CT)
  (fun q hq => by cases hq)
  (fun q hq => by cases hq)
theorem mt_29 (hfl0 : l.flags = pinnedFlags ++ [noTraceFlag]) (hA : ∀ q, A q → H0.size ≤ q) (hbl : ad 900 < H0.size) : am_MT l D t ad A H0 sc 29 :=
  mt_plain hfl0 hA hbl (j := 29) rfl (by decide) (by decide) chk_Mo_put rows_Mo_put (ok_mput sc am_CT)
  (fun q hq => by cases hq)
  (fun q hq => by cases hq)
theorem mt_30 (hfl0 : l.flags = pinnedFlags ++ [noTraceFlag]) (hA : ∀ q, A q → H0.size ≤ q) (hbl : ad 900 < H0.size) : am_MT l D t ad A H0 sc 30 :=
  mt_plain hfl0 hA hbl (j := 30) rfl (by decide) (by decide) chk_Mo_sum rows_Mo_sum (ok_msum sc am_CT)
  (fun q hq => by cases hq)
  (fun q hq => by cases hq)
theorem mt_31 (hfl0 : l.flags = pinnedFlags ++ [noTraceFlag]) (hA : ∀ q, A q → H0.size ≤ q) (hbl : ad 900 < H0.size) : am_MT l D t ad A H0 sc 31 :=
  mt_plain hfl0 hA hbl (j := 31) rfl (by decide) (by decide) chk_Mo_read rows_Mo_read (ok_mread sc am_CT)
  (fun q hq => by cases hq)
  (fun q hq => by cases hq)
theorem mt_36 (hfl0 : l.flags = pinnedFlags ++ [noTraceFlag]) (hA : ∀ q, A q → H0.size ≤ q) (hbl : ad 900 < H0.size) : am_MT l D t ad A H0 sc 36 :=
  mt_plain hfl0 hA hbl (j := 36) rfl (by decide) (by decide) chk_Mo_fault rows_Mo_fault (ok_mfault sc am_CT)
  (fun q hq => by cases hq)
  (fun q hq => by cases hq)
theorem mt_38 (hfl0 : l.flags = pinnedFlags ++ [noTraceFlag]) (hA : ∀ q, A q → H0.size ≤ q) (hbl : ad 900 < H0.size) : am_MT l D t ad A H0 sc 38 :=
  mt_plain hfl0 hA hbl (j := 38) rfl (by decide) (by decide) chk_Mo_byteAt rows_Mo_byteAt (ok_mbyteAt sc am_CT)
  (fun q hq => by cases hq)
  (fun q hq => by cases hq)
theorem mt_39 (hfl0 : l.flags = pinnedFlags ++ [noTraceFlag]) (hA : ∀ q, A q → H0.size ≤ q) (hbl : ad 900 < H0.size) : am_MT l D t ad A H0 sc 39 :=
  mt_plain hfl0 hA hbl (j := 39) rfl (by decide) (by decide) chk_Mo_rule rows_Mo_rule (ok_mrule sc am_CT)
  (fun q hq => by cases hq)
  (fun q hq => by cases hq)
theorem mt_40 (hfl0 : l.flags = pinnedFlags ++ [noTraceFlag]) (hA : ∀ q, A q → H0.size ≤ q) (hbl : ad 900 < H0.size) : am_MT l D t ad A H0 sc 40 :=
  mt_plain hfl0 hA hbl (j := 40) rfl (by decide) (by decide) chk_Mo_save rows_Mo_save (ok_msave sc am_CT)
  (fun q hq => by cases hq)
  (fun q hq => by cases hq)
theorem mt_41 (hfl0 : l.flags = pinnedFlags ++ [noTraceFlag]) (hA : ∀ q, A q → H0.size ≤ q) (hbl : ad 900 < H0.size) : am_MT l D t ad A H0 sc 41 :=
  mt_plain hfl0 hA hbl (j := 41) rfl (by decide) (by decide) chk_Mo_ruleOf rows_Mo_ruleOf (ok_mruleOf sc am_CT)
  (fun q hq => by cases hq)
  (fun q hq => by cases hq)
theorem mt_45 (hfl0 : l.flags = pinnedFlags ++ [noTraceFlag]) (hA : ∀ q, A q → H0.size ≤ q) (hbl : ad 900 < H0.size) : am_MT l D t ad A H0 sc 45 :=
  mt_plain hfl0 hA hbl (j := 45) rfl (by decide) (by decide) chk_Mo_frame rows_Mo_frame (ok_mframe sc am_CT)
  (fun q hq => by cases hq)
  (fun q hq => by cases hq)
theorem mt_46 (hfl0 : l.flags = pinnedFlags ++ [noTraceFlag]) (hA : ∀ q, A q → H0.size ≤ q) (hbl : ad 900 < H0.size) : am_MT l D t ad A H0 sc 46 :=
  mt_plain hfl0 hA hbl (j := 46) rfl (by decide) (by decide) chk_Mo_operation rows_Mo_operation (ok_moperation sc am_CT)
  (fun q hq => by cases hq)
  (fun q hq => by cases hq)
theorem mt_47 (hfl0 : l.flags = pinnedFlags ++ [noTraceFlag]) (hA : ∀ q, A q → H0.size ≤ q) (hbl : ad 900 < H0.size) : am_MT l D t ad A H0 sc 47 :=
  mt_plain hfl0 hA hbl (j := 47) rfl (by decide) (by decide) chk_Mo_drop rows_Mo_drop (ok_mdrop sc am_CT)
  (fun q hq => by cases hq)
  (fun q hq => by cases hq)
theorem mt_48 (hfl0 : l.flags = pinnedFlags ++ [noTraceFlag]) (hA : ∀ q, A q → H0.size ≤ q) (hbl : ad 900 < H0.size) : am_MT l D t ad A H0 sc 48 :=
  mt_plain hfl0 hA hbl (j := 48) rfl (by decide) (by decide) chk_Mo_push rows_Mo_push (ok_mpush sc am_CT)
  (fun q hq => by cases hq)
  (fun q hq => by cases hq)
theorem mt_49 (hfl0 : l.flags = pinnedFlags ++ [noTraceFlag]) (hA : ∀ q, A q → H0.size ≤ q) (hbl : ad 900 < H0.size) : am_MT l D t ad A H0 sc 49 :=
  mt_plain hfl0 hA hbl (j := 49) rfl (by decide) (by decide) chk_Mo_join rows_Mo_join (ok_mjoin sc am_CT)
  (fun q hq => by cases hq)
  (fun q hq => by cases hq)
theorem mt_53 (hfl0 : l.flags = pinnedFlags ++ [noTraceFlag]) (hA : ∀ q, A q → H0.size ≤ q) (hbl : ad 900 < H0.size) : am_MT l D t ad A H0 sc 53 :=
  mt_plain hfl0 hA hbl (j := 53) rfl (by decide) (by decide) chk_Mo_count rows_Mo_count (ok_mcount sc am_CT)
  (fun q hq => by cases hq)
  (fun q hq => by cases hq)
theorem mt_54 (hfl0 : l.flags = pinnedFlags ++ [noTraceFlag]) (hA : ∀ q, A q → H0.size ≤ q) (hbl : ad 900 < H0.size) : am_MT l D t ad A H0 sc 54 :=
  mt_plain hfl0 hA hbl (j := 54) rfl (by decide) (by decide) chk_Ba_has rows_Ba_has (ok_hasFrame sc am_CT)
  (fun q hq => by cases hq)
  (fun q hq => by cases hq)
theorem mt_57 (hfl0 : l.flags = pinnedFlags ++ [noTraceFlag]) (hA : ∀ q, A q → H0.size ≤ q) (hbl : ad 900 < H0.size) : am_MT l D t ad A H0 sc 57 :=
  mt_plain hfl0 hA hbl (j := 57) rfl (by decide) (by decide) chk_Ba_keep rows_Ba_keep (ok_keep sc am_CT)
  (fun q hq => by cases hq)
  (fun q hq => by cases hq)
theorem mt_58 (hfl0 : l.flags = pinnedFlags ++ [noTraceFlag]) (hA : ∀ q, A q → H0.size ≤ q) (hbl : ad 900 < H0.size) : am_MT l D t ad A H0 sc 58 :=
  mt_plain hfl0 hA hbl (j := 58) rfl (by decide) (by decide) chk_By_word rows_By_word (ok_word sc am_CT)
  (fun q hq => by cases hq)
  (fun q hq => by cases hq)
theorem mt_59 (hfl0 : l.flags = pinnedFlags ++ [noTraceFlag]) (hA : ∀ q, A q → H0.size ≤ q) (hbl : ad 900 < H0.size) : am_MT l D t ad A H0 sc 59 :=
  mt_plain hfl0 hA hbl (j := 59) rfl (by decide) (by decide) chk_By_putWord rows_By_putWord (ok_putWord sc am_CT)
  (fun q hq => by cases hq)
  (fun q hq => by cases hq)
theorem mt_60 (hfl0 : l.flags = pinnedFlags ++ [noTraceFlag]) (hA : ∀ q, A q → H0.size ≤ q) (hbl : ad 900 < H0.size) : am_MT l D t ad A H0 sc 60 :=
  mt_plain hfl0 hA hbl (j := 60) rfl (by decide) (by decide) chk_By_sum rows_By_sum (ok_sum sc am_CT)
  (fun q hq => by cases hq)
  (fun q hq => by cases hq)
theorem mt_62 (hfl0 : l.flags = pinnedFlags ++ [noTraceFlag]) (hA : ∀ q, A q → H0.size ≤ q) (hbl : ad 900 < H0.size) : am_MT l D t ad A H0 sc 62 :=
  mt_plain hfl0 hA hbl (j := 62) rfl (by decide) (by decide) chk_Ex_append rows_Ex_append (ok_append sc am_CT)
  (fun q hq => by cases hq)
  (fun q hq => by cases hq)
theorem mt_65 (hfl0 : l.flags = pinnedFlags ++ [noTraceFlag]) (hA : ∀ q, A q → H0.size ≤ q) (hbl : ad 900 < H0.size) : am_MT l D t ad A H0 sc 65 :=
  mt_plain hfl0 hA hbl (j := 65) rfl (by decide) (by decide) chk_Ex_need rows_Ex_need (ok_need sc am_CT)
  (fun q hq => by cases hq)
  (fun q hq => by cases hq)
theorem mt_66 (hfl0 : l.flags = pinnedFlags ++ [noTraceFlag]) (hA : ∀ q, A q → H0.size ≤ q) (hbl : ad 900 < H0.size) : am_MT l D t ad A H0 sc 66 :=
  mt_plain hfl0 hA hbl (j := 66) rfl (by decide) (by decide) chk_Ex_push rows_Ex_push (ok_push sc am_CT)
  (fun q hq => by cases hq)
  (fun q hq => by cases hq)
theorem mt_68 (hfl0 : l.flags = pinnedFlags ++ [noTraceFlag]) (hA : ∀ q, A q → H0.size ≤ q) (hbl : ad 900 < H0.size) : am_MT l D t ad A H0 sc 68 :=
  mt_plain hfl0 hA hbl (j := 68) rfl (by decide) (by decide) chk_Ex_combine rows_Ex_combine (ok_combine sc am_CT)
  (fun q hq => by cases hq)
  (fun q hq => by cases hq)
theorem mt_69 (hfl0 : l.flags = pinnedFlags ++ [noTraceFlag]) (hA : ∀ q, A q → H0.size ≤ q) (hbl : ad 900 < H0.size) : am_MT l D t ad A H0 sc 69 :=
  mt_plain hfl0 hA hbl (j := 69) rfl (by decide) (by decide) chk_Li_tellFault rows_Li_tellFault (ok_tellFault sc am_CT)
  (fun q hq => by cases hq)
  (fun q hq => by cases hq)
theorem mt_73 (hfl0 : l.flags = pinnedFlags ++ [noTraceFlag]) (hA : ∀ q, A q → H0.size ≤ q) (hbl : ad 900 < H0.size) : am_MT l D t ad A H0 sc 73 :=
  mt_plain hfl0 hA hbl (j := 73) rfl (by decide) (by decide) chk_Li_takeFault rows_Li_takeFault (ok_takeFault sc am_CT)
  (fun q hq => by cases hq)
  (fun q hq => by cases hq)
theorem mt_74 (hfl0 : l.flags = pinnedFlags ++ [noTraceFlag]) (hA : ∀ q, A q → H0.size ≤ q) (hbl : ad 900 < H0.size) : am_MT l D t ad A H0 sc 74 :=
  mt_plain hfl0 hA hbl (j := 74) rfl (by decide) (by decide) chk_Ma_isBreak rows_Ma_isBreak (ok_isBreak sc am_CT)
  (fun q hq => by cases hq)
  (fun q hq => by cases hq)
theorem mt_77 (hfl0 : l.flags = pinnedFlags ++ [noTraceFlag]) (hA : ∀ q, A q → H0.size ≤ q) (hbl : ad 900 < H0.size) : am_MT l D t ad A H0 sc 77 :=
  mt_plain hfl0 hA hbl (j := 77) rfl (by decide) (by decide) chk_Ma_calculate rows_Ma_calculate (ok_calculate sc am_CT)
  (fun q hq => by cases hq)
  (fun q hq => by cases hq)
theorem mt_78 (hfl0 : l.flags = pinnedFlags ++ [noTraceFlag]) (hA : ∀ q, A q → H0.size ≤ q) (hbl : ad 900 < H0.size) : am_MT l D t ad A H0 sc 78 :=
  mt_plain hfl0 hA hbl (j := 78) rfl (by decide) (by decide) chk_Rt_append rows_Rt_append (ok_rtAppend sc am_CT)
  (fun q hq => by cases hq)
  (fun q hq => by cases hq)
theorem mt_79 (hfl0 : l.flags = pinnedFlags ++ [noTraceFlag]) (hA : ∀ q, A q → H0.size ≤ q) (hbl : ad 900 < H0.size) : am_MT l D t ad A H0 sc 79 :=
  mt_plain hfl0 hA hbl (j := 79) rfl (by decide) (by decide) chk_Rt_firstFor rows_Rt_firstFor (ok_firstFor sc am_CT)
  (fun q hq => by cases hq)
  (fun q hq => by cases hq)
theorem mt_82 (hfl0 : l.flags = pinnedFlags ++ [noTraceFlag]) (hA : ∀ q, A q → H0.size ≤ q) (hbl : ad 900 < H0.size) : am_MT l D t ad A H0 sc 82 :=
  mt_plain hfl0 hA hbl (j := 82) rfl (by decide) (by decide) chk_St_refuse rows_St_refuse (ok_refuse sc am_CT)
  (fun q hq => by cases hq)
  (fun q hq => by cases hq)
theorem mt_0 (hfl0 : l.flags = pinnedFlags ++ [noTraceFlag]) (hA : ∀ q, A q → H0.size ≤ q) (hbl : ad 900 < H0.size) : am_MT l D t ad A H0 sc 0 :=
  mt_plain hfl0 hA hbl (j := 0) rfl (by decide) (by decide) chk_L_load rows_L_load (ok_load sc am_CT ct_12)
  (fun q hq => by cases hq)
  (fun q hq => by
    simp only [List.mem_cons, List.not_mem_nil, or_false] at hq
    rcases hq with rfl
    · exact mt_12 hfl0 hA hbl)
theorem mt_1 (hfl0 : l.flags = pinnedFlags ++ [noTraceFlag]) (hA : ∀ q, A q → H0.size ≤ q) (hbl : ad 900 < H0.size) : am_MT l D t ad A H0 sc 1 :=
  mt_plain hfl0 hA hbl (j := 1) rfl (by decide) (by decide) chk_L_fault rows_L_fault (ok_fault sc am_CT ct_69)
  (fun q hq => by
    simp only [List.mem_cons, List.not_mem_nil, or_false] at hq
    rcases hq with rfl
    · exact mt_69 hfl0 hA hbl)
  (fun q hq => by cases hq)
theorem mt_4 (hfl0 : l.flags = pinnedFlags ++ [noTraceFlag]) (hA : ∀ q, A q → H0.size ≤ q) (hbl : ad 900 < H0.size) : am_MT l D t ad A H0 sc 4 :=
  mt_plain hfl0 hA hbl (j := 4) rfl (by decide) (by decide) chk_L_rule rows_L_rule (ok_rule sc am_CT ct_14 ct_78)
  (fun q hq => by
    simp only [List.mem_cons, List.not_mem_nil, or_false] at hq
    rcases hq with rfl
    · exact mt_78 hfl0 hA hbl)
  (fun q hq => by
    simp only [List.mem_cons, List.not_mem_nil, or_false] at hq
    rcases hq with rfl
    · exact mt_14 hfl0 hA hbl)
theorem mt_5 (hfl0 : l.flags = pinnedFlags ++ [noTraceFlag]) (hA : ∀ q, A q → H0.size ≤ q) (hbl : ad 900 < H0.size) : am_MT l D t ad A H0 sc 5 :=
  mt_plain hfl0 hA hbl (j := 5) rfl (by decide) (by decide) chk_L_save rows_L_save (ok_save sc am_CT ct_13 ct_14)
  (fun q hq => by cases hq)
  (fun q hq => by
    simp only [List.mem_cons, List.not_mem_nil, or_false] at hq
    rcases hq with rfl | rfl
    · exact mt_14 hfl0 hA hbl
    · exact mt_13 hfl0 hA hbl)
theorem mt_7 (hfl0 : l.flags = pinnedFlags ++ [noTraceFlag]) (hA : ∀ q, A q → H0.size ≤ q) (hbl : ad 900 < H0.size) : am_MT l D t ad A H0 sc 7 :=
  mt_plain hfl0 hA hbl (j := 7) rfl (by decide) (by decide) chk_L_frame rows_L_frame (ok_frame sc am_CT ct_13 ct_54)
  (fun q hq => by
    simp only [List.mem_cons, List.not_mem_nil, or_false] at hq
    rcases hq with rfl
    · exact mt_54 hfl0 hA hbl)
  (fun q hq => by
    simp only [List.mem_cons, List.not_mem_nil, or_false] at hq
    rcases hq with rfl
    · exact mt_13 hfl0 hA hbl)
theorem mt_8 (hfl0 : l.flags = pinnedFlags ++ [noTraceFlag]) (hA : ∀ q, A q → H0.size ≤ q) (hbl : ad 900 < H0.size) : am_MT l D t ad A H0 sc 8 :=
  mt_plain hfl0 hA hbl (j := 8) rfl (by decide) (by decide) chk_L_operation rows_L_operation (ok_operation sc am_CT ct_13 ct_62)
  (fun q hq => by
    simp only [List.mem_cons, List.not_mem_nil, or_false] at hq
    rcases hq with rfl
    · exact mt_62 hfl0 hA hbl)
  (fun q hq => by
    simp only [List.mem_cons, List.not_mem_nil, or_false] at hq
    rcases hq with rfl
    · exact mt_13 hfl0 hA hbl)
theorem mt_17 (hfl0 : l.flags = pinnedFlags ++ [noTraceFlag]) (hA : ∀ q, A q → H0.size ≤ q) (hbl : ad 900 < H0.size) : am_MT l D t ad A H0 sc 17 :=
  mt_plain hfl0 hA hbl (j := 17) rfl (by decide) (by decide) chk_Mo_load rows_Mo_load (ok_mload sc am_CT ct_16)
  (fun q hq => by cases hq)
  (fun q hq => by
    simp only [List.mem_cons, List.not_mem_nil, or_false] at hq
    rcases hq with rfl
    · exact mt_16 hfl0 hA hbl)
theorem mt_20 (hfl0 : l.flags = pinnedFlags ++ [noTraceFlag]) (hA : ∀ q, A q → H0.size ≤ q) (hbl : ad 900 < H0.size) : am_MT l D t ad A H0 sc 20 :=
  mt_plain hfl0 hA hbl (j := 20) rfl (by decide) (by decide) chk_Mo_set rows_Mo_set (ok_mset sc am_CT ct_19)
  (fun q hq => by
    simp only [List.mem_cons, List.not_mem_nil, or_false] at hq
    rcases hq with rfl
    · exact mt_19 hfl0 hA hbl)
  (fun q hq => by cases hq)
theorem mt_25 (hfl0 : l.flags = pinnedFlags ++ [noTraceFlag]) (hA : ∀ q, A q → H0.size ≤ q) (hbl : ad 900 < H0.size) : am_MT l D t ad A H0 sc 25 :=
  mt_plain hfl0 hA hbl (j := 25) rfl (by decide) (by decide) chk_Mo_putBreak rows_Mo_putBreak (ok_mputBreak sc am_CT ct_16 ct_18 ct_24)
  (fun q hq => by
    simp only [List.mem_cons, List.not_mem_nil, or_false] at hq
    rcases hq with rfl | rfl
    · exact mt_18 hfl0 hA hbl
    · exact mt_24 hfl0 hA hbl)
  (fun q hq => by
    simp only [List.mem_cons, List.not_mem_nil, or_false] at hq
    rcases hq with rfl
    · exact mt_16 hfl0 hA hbl)
theorem mt_26 (hfl0 : l.flags = pinnedFlags ++ [noTraceFlag]) (hA : ∀ q, A q → H0.size ≤ q) (hbl : ad 900 < H0.size) : am_MT l D t ad A H0 sc 26 :=
  mt_plain hfl0 hA hbl (j := 26) rfl (by decide) (by decide) chk_Mo_takeBreak rows_Mo_takeBreak (ok_mtakeBreak sc am_CT ct_18 ct_24)
  (fun q hq => by
    simp only [List.mem_cons, List.not_mem_nil, or_false] at hq
    rcases hq with rfl | rfl
    · exact mt_18 hfl0 hA hbl
    · exact mt_24 hfl0 hA hbl)
  (fun q hq => by cases hq)
theorem mt_27 (hfl0 : l.flags = pinnedFlags ++ [noTraceFlag]) (hA : ∀ q, A q → H0.size ≤ q) (hbl : ad 900 < H0.size) : am_MT l D t ad A H0 sc 27 :=
  mt_plain hfl0 hA hbl (j := 27) rfl (by decide) (by decide) chk_Mo_word rows_Mo_word (ok_mword sc am_CT ct_16 ct_18 ct_24)
  (fun q hq => by
    simp only [List.mem_cons, List.not_mem_nil, or_false] at hq
    rcases hq with rfl | rfl
    · exact mt_18 hfl0 hA hbl
    · exact mt_24 hfl0 hA hbl)
  (fun q hq => by
    simp only [List.mem_cons, List.not_mem_nil, or_false] at hq
    rcases hq with rfl
    · exact mt_16 hfl0 hA hbl)
theorem mt_32 (hfl0 : l.flags = pinnedFlags ++ [noTraceFlag]) (hA : ∀ q, A q → H0.size ≤ q) (hbl : ad 900 < H0.size) : am_MT l D t ad A H0 sc 32 :=
  mt_plain hfl0 hA hbl (j := 32) rfl (by decide) (by decide) chk_Mo_arrives rows_Mo_arrives (ok_marrives sc am_CT ct_30)
  (fun q hq => by
    simp only [List.mem_cons, List.not_mem_nil, or_false] at hq
    rcases hq with rfl
    · exact mt_30 hfl0 hA hbl)
  (fun q hq => by cases hq)
theorem mt_61 (hfl0 : l.flags = pinnedFlags ++ [noTraceFlag]) (hA : ∀ q, A q → H0.size ≤ q) (hbl : ad 900 < H0.size) : am_MT l D t ad A H0 sc 61 :=
  mt_plain hfl0 hA hbl (j := 61) rfl (by decide) (by decide) chk_By_putSum rows_By_putSum (ok_putSum sc am_CT ct_60)
  (fun q hq => by cases hq)
  (fun q hq => by
    simp only [List.mem_cons, List.not_mem_nil, or_false] at hq
    rcases hq with rfl
    · exact mt_60 hfl0 hA hbl)
theorem mt_63 (hfl0 : l.flags = pinnedFlags ++ [noTraceFlag]) (hA : ∀ q, A q → H0.size ≤ q) (hbl : ad 900 < H0.size) : am_MT l D t ad A H0 sc 63 :=
  mt_plain hfl0 hA hbl (j := 63) rfl (by decide) (by decide) chk_Ex_top rows_Ex_top (ok_top sc am_CT ct_65)
  (fun q hq => by
    simp only [List.mem_cons, List.not_mem_nil, or_false] at hq
    rcases hq with rfl
    · exact mt_65 hfl0 hA hbl)
  (fun q hq => by cases hq)
theorem mt_67 (hfl0 : l.flags = pinnedFlags ++ [noTraceFlag]) (hA : ∀ q, A q → H0.size ≤ q) (hbl : ad 900 < H0.size) : am_MT l D t ad A H0 sc 67 :=
  mt_plain hfl0 hA hbl (j := 67) rfl (by decide) (by decide) chk_Ex_changePlaces rows_Ex_changePlaces (ok_change sc am_CT ct_65)
  (fun q hq => by
    simp only [List.mem_cons, List.not_mem_nil, or_false] at hq
    rcases hq with rfl
    · exact mt_65 hfl0 hA hbl)
  (fun q hq => by cases hq)
theorem mt_72 (hfl0 : l.flags = pinnedFlags ++ [noTraceFlag]) (hA : ∀ q, A q → H0.size ≤ q) (hbl : ad 900 < H0.size) : am_MT l D t ad A H0 sc 72 :=
  mt_plain hfl0 hA hbl (j := 72) rfl (by decide) (by decide) chk_Li_carry rows_Li_carry (ok_carry sc am_CT ct_60 ct_73)
  (fun q hq => by
    simp only [List.mem_cons, List.not_mem_nil, or_false] at hq
    rcases hq with rfl
    · exact mt_73 hfl0 hA hbl)
  (fun q hq => by
    simp only [List.mem_cons, List.not_mem_nil, or_false] at hq
    rcases hq with rfl
    · exact mt_60 hfl0 hA hbl)
theorem mt_75 (hfl0 : l.flags = pinnedFlags ++ [noTraceFlag]) (hA : ∀ q, A q → H0.size ≤ q) (hbl : ad 900 < H0.size) : am_MT l D t ad A H0 sc 75 :=
  mt_plain hfl0 hA hbl (j := 75) rfl (by decide) (by decide) chk_Ma_instructionAtPc rows_Ma_instructionAtPc (ok_atPc sc am_CT ct_12)
  (fun q hq => by cases hq)
  (fun q hq => by
    simp only [List.mem_cons, List.not_mem_nil, or_false] at hq
    rcases hq with rfl
    · exact mt_12 hfl0 hA hbl)
theorem mt_76 (hfl0 : l.flags = pinnedFlags ++ [noTraceFlag]) (hA : ∀ q, A q → H0.size ≤ q) (hbl : ad 900 < H0.size) : am_MT l D t ad A H0 sc 76 :=
  mt_plain hfl0 hA hbl (j := 76) rfl (by decide) (by decide) chk_Ma_execute rows_Ma_execute (ok_execute sc am_CT ct_12 ct_77)
  (fun q hq => by cases hq)
  (fun q hq => by
    simp only [List.mem_cons, List.not_mem_nil, or_false] at hq
    rcases hq with rfl | rfl
    · exact mt_12 hfl0 hA hbl
    · exact mt_77 hfl0 hA hbl)
theorem mt_83 (hfl0 : l.flags = pinnedFlags ++ [noTraceFlag]) (hA : ∀ q, A q → H0.size ≤ q) (hbl : ad 900 < H0.size) : am_MT l D t ad A H0 sc 83 :=
  mt_plain hfl0 hA hbl (j := 83) rfl (by decide) (by decide) chk_St_hasBreakpoint rows_St_hasBreakpoint (ok_has sc am_CT ct_12)
  (fun q hq => by cases hq)
  (fun q hq => by
    simp only [List.mem_cons, List.not_mem_nil, or_false] at hq
    rcases hq with rfl
    · exact mt_12 hfl0 hA hbl)
theorem mt_84 (hfl0 : l.flags = pinnedFlags ++ [noTraceFlag]) (hA : ∀ q, A q → H0.size ≤ q) (hbl : ad 900 < H0.size) : am_MT l D t ad A H0 sc 84 :=
  mt_plain hfl0 hA hbl (j := 84) rfl (by decide) (by decide) chk_St_writeRegister rows_St_writeRegister (ok_writeRegister sc am_CT ct_13 ct_82)
  (fun q hq => by
    simp only [List.mem_cons, List.not_mem_nil, or_false] at hq
    rcases hq with rfl
    · exact mt_82 hfl0 hA hbl)
  (fun q hq => by
    simp only [List.mem_cons, List.not_mem_nil, or_false] at hq
    rcases hq with rfl
    · exact mt_13 hfl0 hA hbl)
theorem mt_85 (hfl0 : l.flags = pinnedFlags ++ [noTraceFlag]) (hA : ∀ q, A q → H0.size ≤ q) (hbl : ad 900 < H0.size) : am_MT l D t ad A H0 sc 85 :=
  mt_plain hfl0 hA hbl (j := 85) rfl (by decide) (by decide) chk_St_readWord rows_St_readWord (ok_readWord sc am_CT ct_12 ct_82)
  (fun q hq => by
    simp only [List.mem_cons, List.not_mem_nil, or_false] at hq
    rcases hq with rfl
    · exact mt_82 hfl0 hA hbl)
  (fun q hq => by
    simp only [List.mem_cons, List.not_mem_nil, or_false] at hq
    rcases hq with rfl
    · exact mt_12 hfl0 hA hbl)
theorem mt_86 (hfl0 : l.flags = pinnedFlags ++ [noTraceFlag]) (hA : ∀ q, A q → H0.size ≤ q) (hbl : ad 900 < H0.size) : am_MT l D t ad A H0 sc 86 :=
  mt_plain hfl0 hA hbl (j := 86) rfl (by decide) (by decide) chk_St_writeWord rows_St_writeWord (ok_writeWord sc am_CT ct_12 ct_82)
  (fun q hq => by
    simp only [List.mem_cons, List.not_mem_nil, or_false] at hq
    rcases hq with rfl
    · exact mt_82 hfl0 hA hbl)
  (fun q hq => by
    simp only [List.mem_cons, List.not_mem_nil, or_false] at hq
    rcases hq with rfl
    · exact mt_12 hfl0 hA hbl)
theorem mt_87 (hfl0 : l.flags = pinnedFlags ++ [noTraceFlag]) (hA : ∀ q, A q → H0.size ≤ q) (hbl : ad 900 < H0.size) : am_MT l D t ad A H0 sc 87 :=
  mt_plain hfl0 hA hbl (j := 87) rfl (by decide) (by decide) chk_St_putBreakpoint rows_St_putBreakpoint (ok_putBreakpoint sc am_CT ct_12 ct_82)
  (fun q hq => by
    simp only [List.mem_cons, List.not_mem_nil, or_false] at hq
    rcases hq with rfl
    · exact mt_82 hfl0 hA hbl)
  (fun q hq => by
    simp only [List.mem_cons, List.not_mem_nil, or_false] at hq
    rcases hq with rfl
    · exact mt_12 hfl0 hA hbl)
theorem mt_21 (hfl0 : l.flags = pinnedFlags ++ [noTraceFlag]) (hA : ∀ q, A q → H0.size ≤ q) (hbl : ad 900 < H0.size) : am_MT l D t ad A H0 sc 21 :=
  mt_plain hfl0 hA hbl (j := 21) rfl (by decide) (by decide) chk_Mo_moved rows_Mo_moved (ok_mmoved sc am_CT ct_16 ct_19 ct_20)
  (fun q hq => by
    simp only [List.mem_cons, List.not_mem_nil, or_false] at hq
    rcases hq with rfl | rfl
    · exact mt_19 hfl0 hA hbl
    · exact mt_20 hfl0 hA hbl)
  (fun q hq => by
    simp only [List.mem_cons, List.not_mem_nil, or_false] at hq
    rcases hq with rfl
    · exact mt_16 hfl0 hA hbl)
theorem mt_33 (hfl0 : l.flags = pinnedFlags ++ [noTraceFlag]) (hA : ∀ q, A q → H0.size ≤ q) (hbl : ad 900 < H0.size) : am_MT l D t ad A H0 sc 33 :=
  mt_plain hfl0 hA hbl (j := 33) rfl (by decide) (by decide) chk_Mo_sendOut rows_Mo_sendOut (ok_msend sc am_CT ct_29 ct_30 ct_32)
  (fun q hq => by
    simp only [List.mem_cons, List.not_mem_nil, or_false] at hq
    rcases hq with rfl | rfl | rfl
    · exact mt_30 hfl0 hA hbl
    · exact mt_29 hfl0 hA hbl
    · exact mt_32 hfl0 hA hbl)
  (fun q hq => by cases hq)
theorem mt_71 (hfl0 : l.flags = pinnedFlags ++ [noTraceFlag]) (hA : ∀ q, A q → H0.size ≤ q) (hbl : ad 900 < H0.size) : am_MT l D t ad A H0 sc 71 :=
  mt_plain hfl0 hA hbl (j := 71) rfl (by decide) (by decide) chk_Li_writeRequest rows_Li_writeRequest (ok_writeRequest sc am_CT ct_59 ct_61)
  (fun q hq => by cases hq)
  (fun q hq => by
    simp only [List.mem_cons, List.not_mem_nil, or_false] at hq
    rcases hq with rfl | rfl
    · exact mt_59 hfl0 hA hbl
    · exact mt_61 hfl0 hA hbl)
theorem mt_88 (hfl0 : l.flags = pinnedFlags ++ [noTraceFlag]) (hA : ∀ q, A q → H0.size ≤ q) (hbl : ad 900 < H0.size) : am_MT l D t ad A H0 sc 88 :=
  mt_plain hfl0 hA hbl (j := 88) rfl (by decide) (by decide) chk_St_takeBreakpoint rows_St_takeBreakpoint (ok_takeBreakpoint sc am_CT ct_82 ct_83)
  (fun q hq => by
    simp only [List.mem_cons, List.not_mem_nil, or_false] at hq
    rcases hq with rfl | rfl
    · exact mt_82 hfl0 hA hbl
    · exact mt_83 hfl0 hA hbl)
  (fun q hq => by cases hq)
theorem mt_89 (hfl0 : l.flags = pinnedFlags ++ [noTraceFlag]) (hA : ∀ q, A q → H0.size ≤ q) (hbl : ad 900 < H0.size) : am_MT l D t ad A H0 sc 89 :=
  mt_plain hfl0 hA hbl (j := 89) rfl (by decide) (by decide) chk_St_firstInstruction rows_St_firstInstruction (ok_first sc am_CT ct_83 ct_75)
  (fun q hq => by
    simp only [List.mem_cons, List.not_mem_nil, or_false] at hq
    rcases hq with rfl | rfl
    · exact mt_83 hfl0 hA hbl
    · exact mt_75 hfl0 hA hbl)
  (fun q hq => by cases hq)
theorem mt_90 (hfl0 : l.flags = pinnedFlags ++ [noTraceFlag]) (hA : ∀ q, A q → H0.size ≤ q) (hbl : ad 900 < H0.size) : am_MT l D t ad A H0 sc 90 :=
  mt_plain hfl0 hA hbl (j := 90) rfl (by decide) (by decide) chk_St_run rows_St_run (ok_run sc am_CT ct_74 ct_75 ct_76 ct_82)
  (fun q hq => by
    simp only [List.mem_cons, List.not_mem_nil, or_false] at hq
    rcases hq with rfl | rfl | rfl
    · exact mt_82 hfl0 hA hbl
    · exact mt_76 hfl0 hA hbl
    · exact mt_75 hfl0 hA hbl)
  (fun q hq => by
    simp only [List.mem_cons, List.not_mem_nil, or_false] at hq
    rcases hq with rfl
    · exact mt_74 hfl0 hA hbl)
theorem mt_22 (hfl0 : l.flags = pinnedFlags ++ [noTraceFlag]) (hA : ∀ q, A q → H0.size ≤ q) (hbl : ad 900 < H0.size) : am_MT l D t ad A H0 sc 22 :=
  mt_plain hfl0 hA hbl (j := 22) rfl (by decide) (by decide) chk_Mo_step rows_Mo_step (ok_mstep sc am_CT ct_16 ct_18 ct_19 ct_20 ct_21)
  (fun q hq => by
    simp only [List.mem_cons, List.not_mem_nil, or_false] at hq
    rcases hq with rfl | rfl | rfl | rfl
    · exact mt_19 hfl0 hA hbl
    · exact mt_20 hfl0 hA hbl
    · exact mt_18 hfl0 hA hbl
    · exact mt_21 hfl0 hA hbl)
  (fun q hq => by
    simp only [List.mem_cons, List.not_mem_nil, or_false] at hq
    rcases hq with rfl
    · exact mt_16 hfl0 hA hbl)
theorem mt_81 (hfl0 : l.flags = pinnedFlags ++ [noTraceFlag]) (hA : ∀ q, A q → H0.size ≤ q) (hbl : ad 900 < H0.size) : am_MT l D t ad A H0 sc 81 :=
  mt_plain hfl0 hA hbl (j := 81) rfl (by decide) (by decide) chk_St_perform rows_St_perform (ok_perform sc am_CT ct_13 ct_76 ct_82 ct_84 ct_85 ct_86 ct_87 ct_88 ct_89 ct_90)
  (fun q hq => by
    simp only [List.mem_cons, List.not_mem_nil, or_false] at hq
    rcases hq with rfl | rfl | rfl | rfl | rfl | rfl | rfl | rfl | rfl
    · exact mt_82 hfl0 hA hbl
    · exact mt_84 hfl0 hA hbl
    · exact mt_85 hfl0 hA hbl
    · exact mt_86 hfl0 hA hbl
    · exact mt_87 hfl0 hA hbl
    · exact mt_88 hfl0 hA hbl
    · exact mt_89 hfl0 hA hbl
    · exact mt_76 hfl0 hA hbl
    · exact mt_90 hfl0 hA hbl)
  (fun q hq => by
    simp only [List.mem_cons, List.not_mem_nil, or_false] at hq
    rcases hq with rfl
    · exact mt_13 hfl0 hA hbl)
theorem mt_23 (hfl0 : l.flags = pinnedFlags ++ [noTraceFlag]) (hA : ∀ q, A q → H0.size ≤ q) (hbl : ad 900 < H0.size) : am_MT l D t ad A H0 sc 23 :=
  mt_plain hfl0 hA hbl (j := 23) rfl (by decide) (by decide) chk_Mo_steps rows_Mo_steps (ok_msteps sc am_CT ct_16 ct_22)
  (fun q hq => by
    simp only [List.mem_cons, List.not_mem_nil, or_false] at hq
    rcases hq with rfl
    · exact mt_22 hfl0 hA hbl)
  (fun q hq => by
    simp only [List.mem_cons, List.not_mem_nil, or_false] at hq
    rcases hq with rfl
    · exact mt_16 hfl0 hA hbl)
theorem mt_80 (hfl0 : l.flags = pinnedFlags ++ [noTraceFlag]) (hA : ∀ q, A q → H0.size ≤ q) (hbl : ad 900 < H0.size) : am_MT l D t ad A H0 sc 80 :=
  mt_plain hfl0 hA hbl (j := 80) rfl (by decide) (by decide) chk_St_receive rows_St_receive (ok_receive sc am_CT ct_58 ct_59 ct_61 ct_81)
  (fun q hq => by
    simp only [List.mem_cons, List.not_mem_nil, or_false] at hq
    rcases hq with rfl
    · exact mt_81 hfl0 hA hbl)
  (fun q hq => by
    simp only [List.mem_cons, List.not_mem_nil, or_false] at hq
    rcases hq with rfl | rfl | rfl
    · exact mt_58 hfl0 hA hbl
    · exact mt_59 hfl0 hA hbl
    · exact mt_61 hfl0 hA hbl)
theorem mt_28 (hfl0 : l.flags = pinnedFlags ++ [noTraceFlag]) (hA : ∀ q, A q → H0.size ≤ q) (hbl : ad 900 < H0.size) : am_MT l D t ad A H0 sc 28 :=
  mt_plain hfl0 hA hbl (j := 28) rfl (by decide) (by decide) chk_Mo_perform rows_Mo_perform (ok_mperform sc am_CT ct_22 ct_23 ct_24 ct_25 ct_26 ct_27)
  (fun q hq => by
    simp only [List.mem_cons, List.not_mem_nil, or_false] at hq
    rcases hq with rfl | rfl | rfl | rfl | rfl | rfl
    · exact mt_22 hfl0 hA hbl
    · exact mt_24 hfl0 hA hbl
    · exact mt_27 hfl0 hA hbl
    · exact mt_25 hfl0 hA hbl
    · exact mt_26 hfl0 hA hbl
    · exact mt_23 hfl0 hA hbl)
  (fun q hq => by cases hq)
theorem mt_70 (hfl0 : l.flags = pinnedFlags ++ [noTraceFlag]) (hA : ∀ q, A q → H0.size ≤ q) (hbl : ad 900 < H0.size) : am_MT l D t ad A H0 sc 70 :=
  mt_plain hfl0 hA hbl (j := 70) rfl (by decide) (by decide) chk_Li_ask rows_Li_ask (ok_ask sc am_CT ct_58 ct_71 ct_72 ct_80)
  (fun q hq => by
    simp only [List.mem_cons, List.not_mem_nil, or_false] at hq
    rcases hq with rfl | rfl | rfl
    · exact mt_71 hfl0 hA hbl
    · exact mt_72 hfl0 hA hbl
    · exact mt_80 hfl0 hA hbl)
  (fun q hq => by
    simp only [List.mem_cons, List.not_mem_nil, or_false] at hq
    rcases hq with rfl
    · exact mt_58 hfl0 hA hbl)
theorem mt_2 (hfl0 : l.flags = pinnedFlags ++ [noTraceFlag]) (hA : ∀ q, A q → H0.size ≤ q) (hbl : ad 900 < H0.size) : am_MT l D t ad A H0 sc 2 :=
  mt_plain hfl0 hA hbl (j := 2) rfl (by decide) (by decide) chk_L_request rows_L_request (ok_request sc am_CT ct_70)
  (fun q hq => by
    simp only [List.mem_cons, List.not_mem_nil, or_false] at hq
    rcases hq with rfl
    · exact mt_70 hfl0 hA hbl)
  (fun q hq => by cases hq)
theorem mt_34 (hfl0 : l.flags = pinnedFlags ++ [noTraceFlag]) (hA : ∀ q, A q → H0.size ≤ q) (hbl : ad 900 < H0.size) : am_MT l D t ad A H0 sc 34 :=
  mt_plain hfl0 hA hbl (j := 34) rfl (by decide) (by decide) chk_Mo_answered rows_Mo_answered (ok_manswered sc am_CT ct_28 ct_29 ct_30 ct_31 ct_32)
  (fun q hq => by
    simp only [List.mem_cons, List.not_mem_nil, or_false] at hq
    rcases hq with rfl | rfl | rfl | rfl | rfl
    · exact mt_30 hfl0 hA hbl
    · exact mt_29 hfl0 hA hbl
    · exact mt_32 hfl0 hA hbl
    · exact mt_31 hfl0 hA hbl
    · exact mt_28 hfl0 hA hbl)
  (fun q hq => by cases hq)
theorem mt_55 (hfl0 : l.flags = pinnedFlags ++ [noTraceFlag]) (hA : ∀ q, A q → H0.size ≤ q) (hbl : ad 900 < H0.size) : am_MT l D t ad A H0 sc 55 :=
  mt_plain hfl0 hA hbl (j := 55) rfl (by decide) (by decide) chk_Ba_askMachine rows_Ba_askMachine (ok_askMachine sc am_CT ct_70)
  (fun q hq => by
    simp only [List.mem_cons, List.not_mem_nil, or_false] at hq
    rcases hq with rfl
    · exact mt_70 hfl0 hA hbl)
  (fun q hq => by cases hq)
theorem mt_56 (hfl0 : l.flags = pinnedFlags ++ [noTraceFlag]) (hA : ∀ q, A q → H0.size ≤ q) (hbl : ad 900 < H0.size) : am_MT l D t ad A H0 sc 56 :=
  mt_plain hfl0 hA hbl (j := 56) rfl (by decide) (by decide) chk_Ba_askCaller rows_Ba_askCaller (ok_askCaller sc am_CT ct_12 ct_70 ct_79)
  (fun q hq => by
    simp only [List.mem_cons, List.not_mem_nil, or_false] at hq
    rcases hq with rfl | rfl
    · exact mt_70 hfl0 hA hbl
    · exact mt_79 hfl0 hA hbl)
  (fun q hq => by
    simp only [List.mem_cons, List.not_mem_nil, or_false] at hq
    rcases hq with rfl
    · exact mt_12 hfl0 hA hbl)
theorem mt_64 (hfl0 : l.flags = pinnedFlags ++ [noTraceFlag]) (hA : ∀ q, A q → H0.size ≤ q) (hbl : ad 900 < H0.size) : am_MT l D t ad A H0 sc 64 :=
  mt_plain hfl0 hA hbl (j := 64) rfl (by decide) (by decide) chk_Ex_apply rows_Ex_apply (ok_apply sc am_CT ct_12 ct_65 ct_66 ct_67 ct_68 ct_70)
  (fun q hq => by
    simp only [List.mem_cons, List.not_mem_nil, or_false] at hq
    rcases hq with rfl | rfl | rfl | rfl
    · exact mt_65 hfl0 hA hbl
    · exact mt_66 hfl0 hA hbl
    · exact mt_70 hfl0 hA hbl
    · exact mt_67 hfl0 hA hbl)
  (fun q hq => by
    simp only [List.mem_cons, List.not_mem_nil, or_false] at hq
    rcases hq with rfl | rfl
    · exact mt_12 hfl0 hA hbl
    · exact mt_68 hfl0 hA hbl)
theorem mt_6 (hfl0 : l.flags = pinnedFlags ++ [noTraceFlag]) (hA : ∀ q, A q → H0.size ≤ q) (hbl : ad 900 < H0.size) : am_MT l D t ad A H0 sc 6 :=
  mt_plain hfl0 hA hbl (j := 6) rfl (by decide) (by decide) chk_L_unwind rows_L_unwind (ok_unwind sc am_CT ct_55 ct_56 ct_57)
  (fun q hq => by
    simp only [List.mem_cons, List.not_mem_nil, or_false] at hq
    rcases hq with rfl | rfl | rfl
    · exact mt_55 hfl0 hA hbl
    · exact mt_56 hfl0 hA hbl
    · exact mt_57 hfl0 hA hbl)
  (fun q hq => by cases hq)
theorem mt_10 (hfl0 : l.flags = pinnedFlags ++ [noTraceFlag]) (hA : ∀ q, A q → H0.size ≤ q) (hbl : ad 900 < H0.size) : am_MT l D t ad A H0 sc 10 :=
  mt_plain hfl0 hA hbl (j := 10) rfl (by decide) (by decide) chk_L_evaluate rows_L_evaluate (ok_evaluate sc am_CT ct_54 ct_63 ct_64)
  (fun q hq => by
    simp only [List.mem_cons, List.not_mem_nil, or_false] at hq
    rcases hq with rfl | rfl | rfl
    · exact mt_54 hfl0 hA hbl
    · exact mt_64 hfl0 hA hbl
    · exact mt_63 hfl0 hA hbl)
  (fun q hq => by cases hq)
theorem mt_35 (hfl0 : l.flags = pinnedFlags ++ [noTraceFlag]) (hA : ∀ q, A q → H0.size ≤ q) (hbl : ad 900 < H0.size) : am_MT l D t ad A H0 sc 35 :=
  mt_plain hfl0 hA hbl (j := 35) rfl (by decide) (by decide) chk_Mo_ask rows_Mo_ask (ok_mask sc am_CT ct_31 ct_33 ct_34)
  (fun q hq => by
    simp only [List.mem_cons, List.not_mem_nil, or_false] at hq
    rcases hq with rfl | rfl | rfl
    · exact mt_31 hfl0 hA hbl
    · exact mt_33 hfl0 hA hbl
    · exact mt_34 hfl0 hA hbl)
  (fun q hq => by cases hq)
theorem mt_37 (hfl0 : l.flags = pinnedFlags ++ [noTraceFlag]) (hA : ∀ q, A q → H0.size ≤ q) (hbl : ad 900 < H0.size) : am_MT l D t ad A H0 sc 37 :=
  mt_plain hfl0 hA hbl (j := 37) rfl (by decide) (by decide) chk_Mo_request rows_Mo_request (ok_mrequest sc am_CT ct_35)
  (fun q hq => by
    simp only [List.mem_cons, List.not_mem_nil, or_false] at hq
    rcases hq with rfl
    · exact mt_35 hfl0 hA hbl)
  (fun q hq => by cases hq)
theorem mt_42 (hfl0 : l.flags = pinnedFlags ++ [noTraceFlag]) (hA : ∀ q, A q → H0.size ≤ q) (hbl : ad 900 < H0.size) : am_MT l D t ad A H0 sc 42 :=
  mt_plain hfl0 hA hbl (j := 42) rfl (by decide) (by decide) chk_Mo_fetch rows_Mo_fetch (ok_mfetch sc am_CT ct_16 ct_35)
  (fun q hq => by
    simp only [List.mem_cons, List.not_mem_nil, or_false] at hq
    rcases hq with rfl
    · exact mt_35 hfl0 hA hbl)
  (fun q hq => by
    simp only [List.mem_cons, List.not_mem_nil, or_false] at hq
    rcases hq with rfl
    · exact mt_16 hfl0 hA hbl)
theorem mt_50 (hfl0 : l.flags = pinnedFlags ++ [noTraceFlag]) (hA : ∀ q, A q → H0.size ≤ q) (hbl : ad 900 < H0.size) : am_MT l D t ad A H0 sc 50 :=
  mt_plain hfl0 hA hbl (j := 50) rfl (by decide) (by decide) chk_Mo_wordOnTop rows_Mo_wordOnTop (ok_mwordOnTop sc am_CT ct_16 ct_35)
  (fun q hq => by
    simp only [List.mem_cons, List.not_mem_nil, or_false] at hq
    rcases hq with rfl
    · exact mt_35 hfl0 hA hbl)
  (fun q hq => by
    simp only [List.mem_cons, List.not_mem_nil, or_false] at hq
    rcases hq with rfl
    · exact mt_16 hfl0 hA hbl)
theorem mt_43 (hfl0 : l.flags = pinnedFlags ++ [noTraceFlag]) (hA : ∀ q, A q → H0.size ≤ q) (hbl : ad 900 < H0.size) : am_MT l D t ad A H0 sc 43 :=
  mt_plain hfl0 hA hbl (j := 43) rfl (by decide) (by decide) chk_Mo_next rows_Mo_next (ok_mnext sc am_CT ct_41 ct_42)
  (fun q hq => by
    simp only [List.mem_cons, List.not_mem_nil, or_false] at hq
    rcases hq with rfl | rfl
    · exact mt_41 hfl0 hA hbl
    · exact mt_42 hfl0 hA hbl)
  (fun q hq => by cases hq)
theorem mt_51 (hfl0 : l.flags = pinnedFlags ++ [noTraceFlag]) (hA : ∀ q, A q → H0.size ≤ q) (hbl : ad 900 < H0.size) : am_MT l D t ad A H0 sc 51 :=
  mt_plain hfl0 hA hbl (j := 51) rfl (by decide) (by decide) chk_Mo_operate rows_Mo_operate (ok_moperate sc am_CT ct_48 ct_49 ct_50)
  (fun q hq => by
    simp only [List.mem_cons, List.not_mem_nil, or_false] at hq
    rcases hq with rfl | rfl | rfl
    · exact mt_48 hfl0 hA hbl
    · exact mt_50 hfl0 hA hbl
    · exact mt_49 hfl0 hA hbl)
  (fun q hq => by cases hq)
theorem mt_44 (hfl0 : l.flags = pinnedFlags ++ [noTraceFlag]) (hA : ∀ q, A q → H0.size ≤ q) (hbl : ad 900 < H0.size) : am_MT l D t ad A H0 sc 44 :=
  mt_plain hfl0 hA hbl (j := 44) rfl (by decide) (by decide) chk_Mo_unwind rows_Mo_unwind (ok_munwind sc am_CT ct_35 ct_43)
  (fun q hq => by
    simp only [List.mem_cons, List.not_mem_nil, or_false] at hq
    rcases hq with rfl | rfl
    · exact mt_35 hfl0 hA hbl
    · exact mt_43 hfl0 hA hbl)
  (fun q hq => by cases hq)
theorem mt_52 (hfl0 : l.flags = pinnedFlags ++ [noTraceFlag]) (hA : ∀ q, A q → H0.size ≤ q) (hbl : ad 900 < H0.size) : am_MT l D t ad A H0 sc 52 :=
  mt_plain hfl0 hA hbl (j := 52) rfl (by decide) (by decide) chk_Mo_evaluate rows_Mo_evaluate (ok_mevaluate sc am_CT ct_51)
  (fun q hq => by
    simp only [List.mem_cons, List.not_mem_nil, or_false] at hq
    rcases hq with rfl
    · exact mt_51 hfl0 hA hbl)
  (fun q hq => by cases hq)
end MM
