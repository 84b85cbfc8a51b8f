/-! The words that each method needs. -/
theorem chk_L_load : mt_chk (mt_Y 0).cls (mt_F 0) (mt_Lc 0) [(10, 0, 0), (59, 1, 0)] [] [(55, 12, 1)] [] [] = true := by decide +kernel
theorem chk_L_fault : mt_chk (mt_Y 1).cls (mt_F 1) (mt_Lc 1) [(30, 0, 2)] [(70, 69, 2, 3)] [] [(63, 65, 67, 1)] [] = true := by decide +kernel
theorem chk_L_request : mt_chk (mt_Y 2).cls (mt_F 2) (mt_Lc 2) [(30, 0, 2), (80, 3, 1)] [(76, 70, 4, 3)] [] [(63, 74, 67, 1), (63, 84, 67, 1)] [] = true := by decide +kernel
theorem chk_L_byteAt : mt_chk (mt_Y 3).cls (mt_F 3) (mt_Lc 3) [(21, 0, 1), (30, 0, 2), (86, 3, 0), (89, 2, 0)] [] [] [] [] = true := by decide +kernel
theorem chk_L_rule : mt_chk (mt_Y 4).cls (mt_F 4) (mt_Lc 4) [(37, 0, 3)] [(101, 78, 5, 4)] [(96, 14, 1)] [(63, 92, 67, 1), (63, 94, 67, 1), (63, 99, 67, 1)] [] = true := by decide +kernel
theorem chk_L_save : mt_chk (mt_Y 5).cls (mt_F 5) (mt_Lc 5) [(37, 0, 3), (105, 4, 1), (120, 4, 0), (124, 7, 3)] [] [(96, 14, 1), (113, 13, 1)] [(63, 116, 67, 1), (63, 118, 67, 1), (108, 110, 112, 2)] [] = true := by decide +kernel
theorem chk_L_unwind : mt_chk (mt_Y 6).cls (mt_F 6) (mt_Lc 6) [(30, 0, 2), (37, 0, 3), (44, 0, 4)] [(129, 55, 2, 5), (133, 56, 4, 5), (137, 57, 2, 5)] [] [] [] = true := by decide +kernel
theorem chk_L_frame : mt_chk (mt_Y 7).cls (mt_F 7) (mt_Lc 7) [(44, 0, 4), (151, 5, 0)] [(141, 54, 2, 5)] [(113, 13, 1)] [(144, 146, 148, 4), (144, 149, 148, 4)] [] = true := by decide +kernel
theorem chk_L_operation : mt_chk (mt_Y 8).cls (mt_F 8) (mt_Lc 8) [(51, 0, 5)] [(159, 62, 3, 6)] [(113, 13, 1)] [(63, 155, 67, 1), (63, 157, 67, 1)] [] = true := by decide +kernel
theorem chk_L_drop : mt_chk (mt_Y 9).cls (mt_F 9) (mt_Lc 9) [(51, 0, 5), (162, 6, 0)] [] [] [] [] = true := by decide +kernel
theorem chk_L_evaluate : mt_chk (mt_Y 10).cls (mt_F 10) (mt_Lc 10) [(30, 0, 2), (44, 0, 4), (51, 0, 5), (151, 5, 0), (162, 6, 0), (163, 6, 1)] [(141, 54, 2, 5), (166, 64, 4, 6), (170, 63, 1, 6)] [] [(144, 146, 148, 4)] [] = true := by decide +kernel
theorem chk_L_count : mt_chk (mt_Y 11).cls (mt_F 11) (mt_Lc 11) [(10, 0, 0), (21, 0, 1), (30, 0, 2), (44, 0, 4), (51, 0, 5), (162, 6, 0), (174, 3, 2), (177, 3, 3), (180, 3, 4), (183, 3, 5), (186, 3, 6), (189, 1, 3), (192, 2, 1), (195, 5, 1), (196, 1, 2)] [] [] [] [] = true := by decide +kernel
theorem chk_L_isAddress : mt_chk (mt_Y 12).cls (mt_F 12) (mt_Lc 12) [] [] [] [] [] = true := by decide +kernel
theorem chk_L_isRegister : mt_chk (mt_Y 13).cls (mt_F 13) (mt_Lc 13) [] [] [] [] [] = true := by decide +kernel
theorem chk_L_isSlot : mt_chk (mt_Y 14).cls (mt_F 14) (mt_Lc 14) [] [] [] [] [] = true := by decide +kernel
theorem chk_Mo_thrown : mt_chk (mt_Y 15).cls (mt_F 15) (mt_Lc 15) [(61, 8, 35)] [] [] [] [] = true := by decide +kernel
theorem chk_Mo_isAddress : mt_chk (mt_Y 16).cls (mt_F 16) (mt_Lc 16) [] [] [] [] [] = true := by decide +kernel
theorem chk_Mo_load : mt_chk (mt_Y 17).cls (mt_F 17) (mt_Lc 17) [(7, 8, 0), (61, 8, 35)] [] [(65, 16, 1)] [] [] = true := by decide +kernel
theorem chk_Mo_breakOf : mt_chk (mt_Y 18).cls (mt_F 18) (mt_Lc 18) [(16, 8, 5), (69, 8, 4)] [] [] [] [] = true := by decide +kernel
theorem chk_Mo_done : mt_chk (mt_Y 19).cls (mt_F 19) (mt_Lc 19) [(72, 8, 2), (75, 8, 3)] [] [] [] [] = true := by decide +kernel
theorem chk_Mo_set : mt_chk (mt_Y 20).cls (mt_F 20) (mt_Lc 20) [(13, 8, 1), (72, 8, 2)] [(78, 19, 2, 8)] [] [] [] = true := by decide +kernel
theorem chk_Mo_moved : mt_chk (mt_Y 21).cls (mt_F 21) (mt_Lc 21) [(7, 8, 0), (13, 8, 1), (72, 8, 2)] [(78, 19, 2, 8), (82, 20, 3, 8)] [(65, 16, 1)] [] [] = true := by decide +kernel
theorem chk_Mo_step : mt_chk (mt_Y 22).cls (mt_F 22) (mt_Lc 22) [(7, 8, 0), (13, 8, 1), (19, 8, 6), (72, 8, 2)] [(78, 19, 2, 8), (82, 20, 3, 8), (86, 18, 2, 8), (89, 21, 4, 8)] [(65, 16, 1)] [] [] = true := by decide +kernel
theorem chk_Mo_steps : mt_chk (mt_Y 23).cls (mt_F 23) (mt_Lc 23) [(7, 8, 0), (72, 8, 2)] [(93, 22, 2, 8)] [(65, 16, 1)] [] [] = true := by decide +kernel
theorem chk_Mo_answer : mt_chk (mt_Y 24).cls (mt_F 24) (mt_Lc 24) [(97, 8, 8), (100, 8, 9)] [] [] [] [] = true := by decide +kernel
theorem chk_Mo_putBreak : mt_chk (mt_Y 25).cls (mt_F 25) (mt_Lc 25) [(7, 8, 0), (16, 8, 5), (19, 8, 6), (69, 8, 4)] [(86, 18, 2, 8), (103, 24, 3, 8)] [(65, 16, 1)] [] [] = true := by decide +kernel
theorem chk_Mo_takeBreak : mt_chk (mt_Y 26).cls (mt_F 26) (mt_Lc 26) [(7, 8, 0), (16, 8, 5), (19, 8, 6), (69, 8, 4)] [(86, 18, 2, 8), (103, 24, 3, 8)] [] [] [] = true := by decide +kernel
theorem chk_Mo_word : mt_chk (mt_Y 27).cls (mt_F 27) (mt_Lc 27) [(7, 8, 0), (19, 8, 6)] [(86, 18, 2, 8), (103, 24, 3, 8)] [(65, 16, 1)] [] [] = true := by decide +kernel
theorem chk_Mo_perform : mt_chk (mt_Y 28).cls (mt_F 28) (mt_Lc 28) [(13, 8, 1), (72, 8, 2)] [(93, 22, 2, 8), (103, 24, 3, 8), (107, 27, 4, 8), (111, 25, 2, 8), (115, 26, 2, 8), (118, 23, 2, 8)] [] [] [] = true := by decide +kernel
theorem chk_Mo_put : mt_chk (mt_Y 29).cls (mt_F 29) (mt_Lc 29) [(25, 8, 12)] [] [] [] [] = true := by decide +kernel
theorem chk_Mo_sum : mt_chk (mt_Y 30).cls (mt_F 30) (mt_Lc 30) [(25, 8, 12)] [] [] [] [] = true := by decide +kernel
theorem chk_Mo_read : mt_chk (mt_Y 31).cls (mt_F 31) (mt_Lc 31) [(25, 8, 12)] [] [] [] [] = true := by decide +kernel
theorem chk_Mo_arrives : mt_chk (mt_Y 32).cls (mt_F 32) (mt_Lc 32) [(22, 8, 11), (25, 8, 12), (121, 8, 10), (127, 8, 18)] [(124, 30, 2, 8)] [] [] [] = true := by decide +kernel
theorem chk_Mo_sendOut : mt_chk (mt_Y 33).cls (mt_F 33) (mt_Lc 33) [(25, 8, 12), (28, 8, 13), (130, 8, 14), (136, 8, 16)] [(124, 30, 2, 8), (133, 29, 3, 8), (139, 32, 2, 8)] [] [] [] = true := by decide +kernel
theorem chk_Mo_answered : mt_chk (mt_Y 34).cls (mt_F 34) (mt_Lc 34) [(25, 8, 12), (28, 8, 13), (97, 8, 8), (100, 8, 9), (142, 8, 7), (152, 8, 17)] [(124, 30, 2, 8), (133, 29, 3, 8), (139, 32, 2, 8), (145, 31, 2, 8), (148, 28, 4, 8)] [] [] [] = true := by decide +kernel
theorem chk_Mo_ask : mt_chk (mt_Y 35).cls (mt_F 35) (mt_Lc 35) [(25, 8, 12), (130, 8, 14), (155, 8, 15), (166, 8, 19)] [(145, 31, 2, 8), (158, 33, 4, 8), (162, 34, 1, 8)] [] [] [] = true := by decide +kernel
theorem chk_Mo_fault : mt_chk (mt_Y 36).cls (mt_F 36) (mt_Lc 36) [(22, 8, 11), (61, 8, 35), (121, 8, 10)] [] [] [] [] = true := by decide +kernel
theorem chk_Mo_request : mt_chk (mt_Y 37).cls (mt_F 37) (mt_Lc 37) [(61, 8, 35), (166, 8, 19)] [(169, 35, 4, 8)] [] [] [] = true := by decide +kernel
theorem chk_Mo_byteAt : mt_chk (mt_Y 38).cls (mt_F 38) (mt_Lc 38) [(28, 8, 13), (61, 8, 35)] [] [] [] [] = true := by decide +kernel
theorem chk_Mo_rule : mt_chk (mt_Y 39).cls (mt_F 39) (mt_Lc 39) [(31, 8, 21), (34, 8, 22), (37, 8, 23), (40, 8, 24), (43, 8, 25), (61, 8, 35), (172, 8, 20)] [] [] [] [] = true := by decide +kernel
theorem chk_Mo_save : mt_chk (mt_Y 40).cls (mt_F 40) (mt_Lc 40) [(43, 8, 25), (61, 8, 35), (172, 8, 20)] [] [] [] [] = true := by decide +kernel
theorem chk_Mo_ruleOf : mt_chk (mt_Y 41).cls (mt_F 41) (mt_Lc 41) [(31, 8, 21), (34, 8, 22), (172, 8, 20)] [] [] [] [] = true := by decide +kernel
theorem chk_Mo_fetch : mt_chk (mt_Y 42).cls (mt_F 42) (mt_Lc 42) [(49, 8, 29), (166, 8, 19)] [(169, 35, 4, 8)] [(65, 16, 1)] [] [] = true := by decide +kernel
theorem chk_Mo_next : mt_chk (mt_Y 43).cls (mt_F 43) (mt_Lc 43) [(37, 8, 23), (40, 8, 24), (43, 8, 25), (49, 8, 29), (175, 8, 28)] [(178, 41, 2, 8), (181, 42, 3, 8)] [] [] [] = true := by decide +kernel
theorem chk_Mo_unwind : mt_chk (mt_Y 44).cls (mt_F 44) (mt_Lc 44) [(46, 8, 27), (49, 8, 29), (61, 8, 35), (166, 8, 19), (175, 8, 28), (188, 8, 26)] [(169, 35, 4, 8), (184, 43, 1, 8)] [] [] [] = true := by decide +kernel
theorem chk_Mo_frame : mt_chk (mt_Y 45).cls (mt_F 45) (mt_Lc 45) [(46, 8, 27), (61, 8, 35), (188, 8, 26)] [] [] [] [] = true := by decide +kernel
theorem chk_Mo_operation : mt_chk (mt_Y 46).cls (mt_F 46) (mt_Lc 46) [(52, 8, 31), (55, 8, 32), (61, 8, 35), (191, 8, 30)] [] [] [] [] = true := by decide +kernel
theorem chk_Mo_drop : mt_chk (mt_Y 47).cls (mt_F 47) (mt_Lc 47) [(61, 8, 35), (191, 8, 30)] [] [] [] [] = true := by decide +kernel
theorem chk_Mo_push : mt_chk (mt_Y 48).cls (mt_F 48) (mt_Lc 48) [(58, 8, 34), (194, 8, 33)] [] [] [] [] = true := by decide +kernel
theorem chk_Mo_join : mt_chk (mt_Y 49).cls (mt_F 49) (mt_Lc 49) [(58, 8, 34), (194, 8, 33)] [] [] [] [] = true := by decide +kernel
theorem chk_Mo_wordOnTop : mt_chk (mt_Y 50).cls (mt_F 50) (mt_Lc 50) [(58, 8, 34), (166, 8, 19), (194, 8, 33)] [(169, 35, 4, 8)] [(65, 16, 1)] [] [] = true := by decide +kernel
theorem chk_Mo_operate : mt_chk (mt_Y 51).cls (mt_F 51) (mt_Lc 51) [(46, 8, 27), (58, 8, 34), (194, 8, 33)] [(197, 48, 2, 8), (200, 50, 1, 8), (203, 49, 2, 8)] [] [] [] = true := by decide +kernel
theorem chk_Mo_evaluate : mt_chk (mt_Y 52).cls (mt_F 52) (mt_Lc 52) [(52, 8, 31), (55, 8, 32), (58, 8, 34), (61, 8, 35), (188, 8, 26), (191, 8, 30), (194, 8, 33)] [(206, 51, 4, 8)] [] [] [] = true := by decide +kernel
theorem chk_Mo_count : mt_chk (mt_Y 53).cls (mt_F 53) (mt_Lc 53) [(61, 8, 35), (69, 8, 4), (72, 8, 2), (75, 8, 3), (121, 8, 10), (127, 8, 18), (136, 8, 16), (152, 8, 17), (155, 8, 15), (188, 8, 26), (191, 8, 30)] [] [] [] [] = true := by decide +kernel
theorem chk_Ba_has : mt_chk (mt_Y 54).cls (mt_F 54) (mt_Lc 54) [(19, 5, 1)] [] [] [] [] = true := by decide +kernel
theorem chk_Ba_askMachine : mt_chk (mt_Y 55).cls (mt_F 55) (mt_Lc 55) [(16, 5, 2)] [(23, 70, 4, 3)] [] [] [] = true := by decide +kernel
theorem chk_Ba_askCaller : mt_chk (mt_Y 56).cls (mt_F 56) (mt_Lc 56) [(16, 5, 2), (41, 7, 2), (44, 7, 3)] [(23, 70, 4, 3), (29, 79, 2, 4)] [(48, 12, 1)] [] [35] = true := by decide +kernel
theorem chk_Ba_keep : mt_chk (mt_Y 57).cls (mt_F 57) (mt_Lc 57) [(11, 5, 0), (16, 5, 2), (19, 5, 1)] [] [] [] [] = true := by decide +kernel
theorem chk_By_word : mt_chk (mt_Y 58).cls (mt_F 58) (mt_Lc 58) [] [] [] [] [] = true := by decide +kernel
theorem chk_By_putWord : mt_chk (mt_Y 59).cls (mt_F 59) (mt_Lc 59) [] [] [] [] [] = true := by decide +kernel
theorem chk_By_sum : mt_chk (mt_Y 60).cls (mt_F 60) (mt_Lc 60) [] [] [] [] [] = true := by decide +kernel
theorem chk_By_putSum : mt_chk (mt_Y 61).cls (mt_F 61) (mt_Lc 61) [] [] [(7, 60, 2)] [] [] = true := by decide +kernel
theorem chk_Ex_append : mt_chk (mt_Y 62).cls (mt_F 62) (mt_Lc 62) [(11, 6, 2), (15, 6, 3), (21, 6, 0)] [] [] [(25, 27, 29, 2)] [] = true := by decide +kernel
theorem chk_Ex_top : mt_chk (mt_Y 63).cls (mt_F 63) (mt_Lc 63) [(18, 6, 4), (36, 6, 1)] [(32, 65, 2, 6)] [] [] [] = true := by decide +kernel
theorem chk_Ex_apply : mt_chk (mt_Y 64).cls (mt_F 64) (mt_Lc 64) [(11, 6, 2), (15, 6, 3), (18, 6, 4), (36, 6, 1)] [(32, 65, 2, 6), (39, 66, 2, 6), (51, 70, 4, 3), (57, 67, 1, 6)] [(42, 12, 1), (60, 68, 3)] [(46, 48, 50, 1)] [] = true := by decide +kernel
theorem chk_Ex_need : mt_chk (mt_Y 65).cls (mt_F 65) (mt_Lc 65) [(36, 6, 1)] [] [] [(25, 63, 29, 2)] [] = true := by decide +kernel
theorem chk_Ex_push : mt_chk (mt_Y 66).cls (mt_F 66) (mt_Lc 66) [(18, 6, 4), (36, 6, 1)] [] [] [(25, 65, 29, 2)] [] = true := by decide +kernel
theorem chk_Ex_changePlaces : mt_chk (mt_Y 67).cls (mt_F 67) (mt_Lc 67) [(18, 6, 4), (36, 6, 1)] [(32, 65, 2, 6)] [] [] [] = true := by decide +kernel
theorem chk_Ex_combine : mt_chk (mt_Y 68).cls (mt_F 68) (mt_Lc 68) [] [] [] [(67, 69, 71, 5)] [] = true := by decide +kernel
theorem chk_Li_tellFault : mt_chk (mt_Y 69).cls (mt_F 69) (mt_Lc 69) [(15, 3, 8), (25, 3, 6), (36, 3, 9)] [] [] [(29, 31, 33, 2)] [] = true := by decide +kernel
theorem chk_Li_ask : mt_chk (mt_Y 70).cls (mt_F 70) (mt_Lc 70) [(9, 3, 0), (18, 3, 10), (21, 3, 7), (43, 3, 3), (56, 3, 4), (59, 2, 0), (62, 3, 1)] [(39, 71, 4, 3), (46, 72, 3, 3), (50, 80, 2, 2)] [(65, 58, 2)] [(71, 73, 75, 3)] [] = true := by decide +kernel
theorem chk_Li_writeRequest : mt_chk (mt_Y 71).cls (mt_F 71) (mt_Lc 71) [(9, 3, 0), (76, 3, 2)] [] [(79, 59, 3), (83, 61, 2)] [] [] = true := by decide +kernel
theorem chk_Li_carry : mt_chk (mt_Y 72).cls (mt_F 72) (mt_Lc 72) [(18, 3, 10), (100, 3, 5)] [(87, 73, 1, 3)] [(97, 60, 2)] [] [91] = true := by decide +kernel
theorem chk_Li_takeFault : mt_chk (mt_Y 73).cls (mt_F 73) (mt_Lc 73) [(15, 3, 8), (25, 3, 6), (36, 3, 9)] [] [] [] [] = true := by decide +kernel
theorem chk_Ma_isBreak : mt_chk (mt_Y 74).cls (mt_F 74) (mt_Lc 74) [] [] [] [] [] = true := by decide +kernel
theorem chk_Ma_instructionAtPc : mt_chk (mt_Y 75).cls (mt_F 75) (mt_Lc 75) [(9, 1, 0), (18, 1, 2)] [] [(22, 12, 1)] [] [] = true := by decide +kernel
theorem chk_Ma_execute : mt_chk (mt_Y 76).cls (mt_F 76) (mt_Lc 76) [(9, 1, 0), (15, 1, 1), (18, 1, 2), (30, 1, 3)] [] [(22, 12, 1), (26, 77, 4)] [] [] = true := by decide +kernel
theorem chk_Ma_calculate : mt_chk (mt_Y 77).cls (mt_F 77) (mt_Lc 77) [] [] [] [] [] = true := by decide +kernel
theorem chk_Rt_append : mt_chk (mt_Y 78).cls (mt_F 78) (mt_Lc 78) [(11, 4, 0), (18, 4, 1), (29, 7, 0), (32, 7, 1), (35, 7, 2), (36, 7, 3)] [] [] [(22, 24, 26, 2)] [] = true := by decide +kernel
theorem chk_Rt_firstFor : mt_chk (mt_Y 79).cls (mt_F 79) (mt_Lc 79) [(11, 4, 0), (18, 4, 1), (29, 7, 0), (32, 7, 1)] [] [] [] [] = true := by decide +kernel
theorem chk_St_receive : mt_chk (mt_Y 80).cls (mt_F 80) (mt_Lc 80) [(9, 2, 0), (26, 2, 5), (30, 2, 6)] [(39, 81, 4, 2)] [(33, 58, 2), (43, 59, 3), (47, 61, 2)] [] [] = true := by decide +kernel
theorem chk_St_perform : mt_chk (mt_Y 81).cls (mt_F 81) (mt_Lc 81) [(22, 2, 2), (55, 1, 1), (90, 1, 2)] [(60, 82, 1, 2), (64, 84, 3, 2), (68, 85, 2, 2), (72, 86, 3, 2), (75, 87, 2, 2), (78, 88, 2, 2), (81, 89, 1, 2), (84, 76, 2, 1), (87, 90, 3, 2)] [(51, 13, 1)] [] [] = true := by decide +kernel
theorem chk_St_refuse : mt_chk (mt_Y 82).cls (mt_F 82) (mt_Lc 82) [(30, 2, 6)] [] [] [] [] = true := by decide +kernel
theorem chk_St_hasBreakpoint : mt_chk (mt_Y 83).cls (mt_F 83) (mt_Lc 83) [(15, 2, 3)] [] [(93, 12, 1)] [] [] = true := by decide +kernel
theorem chk_St_writeRegister : mt_chk (mt_Y 84).cls (mt_F 84) (mt_Lc 84) [(22, 2, 2), (55, 1, 1)] [(60, 82, 1, 2)] [(51, 13, 1)] [] [] = true := by decide +kernel
theorem chk_St_readWord : mt_chk (mt_Y 85).cls (mt_F 85) (mt_Lc 85) [(15, 2, 3), (19, 2, 4), (22, 2, 2), (96, 1, 0)] [(60, 82, 1, 2)] [(93, 12, 1)] [] [] = true := by decide +kernel
theorem chk_St_writeWord : mt_chk (mt_Y 86).cls (mt_F 86) (mt_Lc 86) [(15, 2, 3), (19, 2, 4), (22, 2, 2), (96, 1, 0)] [(60, 82, 1, 2)] [(93, 12, 1)] [] [] = true := by decide +kernel
theorem chk_St_putBreakpoint : mt_chk (mt_Y 87).cls (mt_F 87) (mt_Lc 87) [(15, 2, 3), (19, 2, 4), (22, 2, 2), (96, 1, 0), (99, 2, 1)] [(60, 82, 1, 2)] [(93, 12, 1)] [] [] = true := by decide +kernel
theorem chk_St_takeBreakpoint : mt_chk (mt_Y 88).cls (mt_F 88) (mt_Lc 88) [(15, 2, 3), (19, 2, 4), (22, 2, 2), (96, 1, 0), (99, 2, 1)] [(60, 82, 1, 2), (102, 83, 2, 2)] [] [] [] = true := by decide +kernel
theorem chk_St_firstInstruction : mt_chk (mt_Y 89).cls (mt_F 89) (mt_Lc 89) [(19, 2, 4), (22, 2, 2), (90, 1, 2)] [(102, 83, 2, 2), (105, 75, 1, 1)] [] [] [] = true := by decide +kernel
theorem chk_St_run : mt_chk (mt_Y 90).cls (mt_F 90) (mt_Lc 90) [(22, 2, 2)] [(60, 82, 1, 2), (84, 76, 2, 1), (105, 75, 1, 1)] [(108, 74, 1)] [] [] = true := by decide +kernel
