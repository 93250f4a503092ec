theorem dX10_bitOf_0 : decode cX10_bitOf 0 = .ok (.iload_n 0, 1) := by decide +kernel
theorem dX10_bitOf_1 : decode cX10_bitOf 1 = .ok (.iload_n 1, 1) := by decide +kernel
theorem dX10_bitOf_2 : decode cX10_bitOf 2 = .ok (.ishr, 1) := by decide +kernel
theorem dX10_bitOf_3 : decode cX10_bitOf 3 = .ok (.iconst 1, 1) := by decide +kernel
theorem dX10_bitOf_4 : decode cX10_bitOf 4 = .ok (.iand, 1) := by decide +kernel
theorem dX10_bitOf_5 : decode cX10_bitOf 5 = .ok (.ireturn, 1) := by decide +kernel
theorem dX6_hasBook_0 : decode cX6_hasBook 0 = .ok (.iload_n 1, 1) := by decide +kernel
theorem dX6_hasBook_1 : decode cX6_hasBook 1 = .ok (.ifCond .lt 15, 3) := by decide +kernel
theorem dX6_hasBook_16 : decode cX6_hasBook 16 = .ok (.iconst 0, 1) := by decide +kernel
theorem dX6_hasBook_17 : decode cX6_hasBook 17 = .ok (.ireturn, 1) := by decide +kernel
theorem dX6_hasBook_4 : decode cX6_hasBook 4 = .ok (.iload_n 1, 1) := by decide +kernel
theorem dX6_hasBook_5 : decode cX6_hasBook 5 = .ok (.aload_n 0, 1) := by decide +kernel
theorem dX6_hasBook_6 : decode cX6_hasBook 6 = .ok (.getfield 30, 3) := by decide +kernel
theorem kF_RX6_30 : Cond.fieldLink RX6 30 "CobwebLibrary$Plan" "books" "I" ∈ gT := List.mem_filter.mpr ⟨List.mem_of_getElem? (i := 244) (by decide +kernel), by decide +kernel⟩
theorem dX6_hasBook_9 : decode cX6_hasBook 9 = .ok (.if_icmp .ge 7, 3) := by decide +kernel
theorem dX6_hasBook_12 : decode cX6_hasBook 12 = .ok (.iconst 1, 1) := by decide +kernel
theorem dX6_hasBook_13 : decode cX6_hasBook 13 = .ok (.goto 4, 3) := by decide +kernel
theorem dX6_hasRow_0 : decode cX6_hasRow 0 = .ok (.iload_n 1, 1) := by decide +kernel
theorem dX6_hasRow_1 : decode cX6_hasRow 1 = .ok (.ifCond .lt 15, 3) := by decide +kernel
theorem dX6_hasRow_16 : decode cX6_hasRow 16 = .ok (.iconst 0, 1) := by decide +kernel
theorem dX6_hasRow_17 : decode cX6_hasRow 17 = .ok (.ireturn, 1) := by decide +kernel
theorem dX6_hasRow_4 : decode cX6_hasRow 4 = .ok (.iload_n 1, 1) := by decide +kernel
theorem dX6_hasRow_5 : decode cX6_hasRow 5 = .ok (.aload_n 0, 1) := by decide +kernel
theorem dX6_hasRow_6 : decode cX6_hasRow 6 = .ok (.getfield 15, 3) := by decide +kernel
theorem kF_RX6_15 : Cond.fieldLink RX6 15 "CobwebLibrary$Plan" "high" "I" ∈ gT := List.mem_filter.mpr ⟨List.mem_of_getElem? (i := 227) (by decide +kernel), by decide +kernel⟩
theorem dX6_hasRow_9 : decode cX6_hasRow 9 = .ok (.if_icmp .ge 7, 3) := by decide +kernel
theorem dX6_hasRow_12 : decode cX6_hasRow 12 = .ok (.iconst 1, 1) := by decide +kernel
theorem dX6_hasRow_13 : decode cX6_hasRow 13 = .ok (.goto 4, 3) := by decide +kernel
theorem dX6_hasCell_0 : decode cX6_hasCell 0 = .ok (.iload_n 1, 1) := by decide +kernel
theorem dX6_hasCell_1 : decode cX6_hasCell 1 = .ok (.ifCond .lt 23, 3) := by decide +kernel
theorem dX6_hasCell_24 : decode cX6_hasCell 24 = .ok (.iconst 0, 1) := by decide +kernel
theorem dX6_hasCell_25 : decode cX6_hasCell 25 = .ok (.ireturn, 1) := by decide +kernel
theorem dX6_hasCell_4 : decode cX6_hasCell 4 = .ok (.iload_n 1, 1) := by decide +kernel
theorem dX6_hasCell_5 : decode cX6_hasCell 5 = .ok (.aload_n 0, 1) := by decide +kernel
theorem dX6_hasCell_6 : decode cX6_hasCell 6 = .ok (.getfield 9, 3) := by decide +kernel
theorem kF_RX6_9 : Cond.fieldLink RX6 9 "CobwebLibrary$Plan" "wide" "I" ∈ gT := List.mem_filter.mpr ⟨List.mem_of_getElem? (i := 223) (by decide +kernel), by decide +kernel⟩
theorem dX6_hasCell_9 : decode cX6_hasCell 9 = .ok (.if_icmp .ge 15, 3) := by decide +kernel
theorem dX6_hasCell_12 : decode cX6_hasCell 12 = .ok (.aload_n 0, 1) := by decide +kernel
theorem dX6_hasCell_13 : decode cX6_hasCell 13 = .ok (.iload_n 2, 1) := by decide +kernel
theorem dX6_hasCell_14 : decode cX6_hasCell 14 = .ok (.invokevirtual 52, 3) := by decide +kernel
theorem kwV_X6_hasRow : MwV RX6 yX6_hasRow cX6_hasRow 2 (some .boolean) 1 := ⟨List.mem_filter.mpr ⟨List.mem_of_getElem? (i := 998) (by decide +kernel), by decide +kernel⟩, List.mem_filter.mpr ⟨List.mem_of_getElem? (i := 996) (by decide +kernel), by decide +kernel⟩, List.mem_filter.mpr ⟨List.mem_of_getElem? (i := 997) (by decide +kernel), by decide +kernel⟩, List.mem_filter.mpr ⟨List.mem_of_getElem? (i := 130) (by decide +kernel), by decide +kernel⟩, by decide +kernel⟩
theorem kM_RX6_52 : Cond.methodLink RX6 52 yX6_hasRow ∈ gT := List.mem_filter.mpr ⟨List.mem_of_getElem? (i := 1014) (by decide +kernel), by decide +kernel⟩
theorem dX6_hasCell_17 : decode cX6_hasCell 17 = .ok (.ifCond .eq 7, 3) := by decide +kernel
theorem dX6_hasCell_20 : decode cX6_hasCell 20 = .ok (.iconst 1, 1) := by decide +kernel
theorem dX6_hasCell_21 : decode cX6_hasCell 21 = .ok (.goto 4, 3) := by decide +kernel
theorem dX6_reading_0 : decode cX6_reading 0 = .ok (.iload_n 1, 1) := by decide +kernel
theorem dX6_reading_1 : decode cX6_reading 1 = .ok (.aload_n 0, 1) := by decide +kernel
theorem dX6_reading_2 : decode cX6_reading 2 = .ok (.getfield 18, 3) := by decide +kernel
theorem kF_RX6_18 : Cond.fieldLink RX6 18 "CobwebLibrary$Plan" "law" "I" ∈ gT := List.mem_filter.mpr ⟨List.mem_of_getElem? (i := 231) (by decide +kernel), by decide +kernel⟩
theorem dX6_reading_5 : decode cX6_reading 5 = .ok (.if_icmp .ge 5, 3) := by decide +kernel
theorem dX6_reading_10 : decode cX6_reading 10 = .ok (.iload_n 1, 1) := by decide +kernel
theorem dX6_reading_11 : decode cX6_reading 11 = .ok (.iconst 2, 1) := by decide +kernel
theorem dX6_reading_12 : decode cX6_reading 12 = .ok (.aload_n 0, 1) := by decide +kernel
theorem dX6_reading_13 : decode cX6_reading 13 = .ok (.getfield 18, 3) := by decide +kernel
theorem dX6_reading_16 : decode cX6_reading 16 = .ok (.imul, 1) := by decide +kernel
theorem dX6_reading_17 : decode cX6_reading 17 = .ok (.if_icmp .ge 7, 3) := by decide +kernel
theorem dX6_reading_24 : decode cX6_reading 24 = .ok (.iconst 2, 1) := by decide +kernel
theorem dX6_reading_25 : decode cX6_reading 25 = .ok (.ireturn, 1) := by decide +kernel
theorem dX6_reading_20 : decode cX6_reading 20 = .ok (.iconst 1, 1) := by decide +kernel
theorem dX6_reading_21 : decode cX6_reading 21 = .ok (.goto 4, 3) := by decide +kernel
theorem dX6_reading_8 : decode cX6_reading 8 = .ok (.iconst 0, 1) := by decide +kernel
theorem dX6_reading_9 : decode cX6_reading 9 = .ok (.ireturn, 1) := by decide +kernel
theorem dX10_seedBehind_0 : decode cX10_seedBehind 0 = .ok (.iload_n 0, 1) := by decide +kernel
theorem dX10_seedBehind_1 : decode cX10_seedBehind 1 = .ok (.ldc_w 405, 3) := by decide +kernel
theorem kC_RX10_405 : Cond.constant RX10 405 (1103515245 : Int32) ∈ gT := List.mem_filter.mpr ⟨List.mem_of_getElem? (i := 1060) (by decide +kernel), by decide +kernel⟩
theorem dX10_seedBehind_4 : decode cX10_seedBehind 4 = .ok (.imul, 1) := by decide +kernel
theorem dX10_seedBehind_5 : decode cX10_seedBehind 5 = .ok (.sipush 12345, 3) := by decide +kernel
theorem dX10_seedBehind_8 : decode cX10_seedBehind 8 = .ok (.iadd, 1) := by decide +kernel
theorem dX10_seedBehind_9 : decode cX10_seedBehind 9 = .ok (.ireturn, 1) := by decide +kernel
theorem dX10_drawnOf_0 : decode cX10_drawnOf 0 = .ok (.iload_n 1, 1) := by decide +kernel
theorem dX10_drawnOf_1 : decode cX10_drawnOf 1 = .ok (.ifCond .le 12, 3) := by decide +kernel
theorem dX10_drawnOf_4 : decode cX10_drawnOf 4 = .ok (.iload_n 0, 1) := by decide +kernel
theorem dX10_drawnOf_5 : decode cX10_drawnOf 5 = .ok (.bipush 8, 2) := by decide +kernel
theorem dX10_drawnOf_7 : decode cX10_drawnOf 7 = .ok (.iushr, 1) := by decide +kernel
theorem dX10_drawnOf_8 : decode cX10_drawnOf 8 = .ok (.iload_n 1, 1) := by decide +kernel
theorem dX10_drawnOf_9 : decode cX10_drawnOf 9 = .ok (.irem, 1) := by decide +kernel
theorem dX10_drawnOf_10 : decode cX10_drawnOf 10 = .ok (.goto 4, 3) := by decide +kernel
theorem dX10_drawnOf_14 : decode cX10_drawnOf 14 = .ok (.ireturn, 1) := by decide +kernel
theorem dX10_drawnOf_13 : decode cX10_drawnOf 13 = .ok (.iconst 0, 1) := by decide +kernel
theorem dX10_isBetween_0 : decode cX10_isBetween 0 = .ok (.iload_n 1, 1) := by decide +kernel
theorem dX10_isBetween_1 : decode cX10_isBetween 1 = .ok (.iload_n 0, 1) := by decide +kernel
theorem dX10_isBetween_10 : decode cX10_isBetween 10 = .ok (.iload_n 2, 1) := by decide +kernel
theorem dX10_isBetween_11 : decode cX10_isBetween 11 = .ok (.iload_n 0, 1) := by decide +kernel
theorem dX10_isBetween_12 : decode cX10_isBetween 12 = .ok (.if_icmp .ge 12, 3) := by decide +kernel
theorem dX10_isBetween_24 : decode cX10_isBetween 24 = .ok (.iconst 0, 1) := by decide +kernel
theorem dX10_isBetween_25 : decode cX10_isBetween 25 = .ok (.ireturn, 1) := by decide +kernel
theorem dX10_isBetween_15 : decode cX10_isBetween 15 = .ok (.iload_n 0, 1) := by decide +kernel
theorem dX10_isBetween_16 : decode cX10_isBetween 16 = .ok (.iload_n 1, 1) := by decide +kernel
theorem dX10_isBetween_17 : decode cX10_isBetween 17 = .ok (.if_icmp .ge 7, 3) := by decide +kernel
theorem dX10_isBetween_20 : decode cX10_isBetween 20 = .ok (.iconst 1, 1) := by decide +kernel
theorem dX10_isBetween_21 : decode cX10_isBetween 21 = .ok (.goto 4, 3) := by decide +kernel
theorem dX10_isBetween_2 : decode cX10_isBetween 2 = .ok (.if_icmp .ge 8, 3) := by decide +kernel
theorem dX10_isBetween_5 : decode cX10_isBetween 5 = .ok (.iload_n 0, 1) := by decide +kernel
theorem dX10_isBetween_6 : decode cX10_isBetween 6 = .ok (.iload_n 2, 1) := by decide +kernel
theorem dX10_isBetween_7 : decode cX10_isBetween 7 = .ok (.if_icmp .lt 13, 3) := by decide +kernel
theorem dX10_pairPlace_0 : decode cX10_pairPlace 0 = .ok (.iload_n 0, 1) := by decide +kernel
theorem dX10_pairPlace_1 : decode cX10_pairPlace 1 = .ok (.bipush 8, 2) := by decide +kernel
theorem dX10_pairPlace_3 : decode cX10_pairPlace 3 = .ok (.imul, 1) := by decide +kernel
theorem dX10_pairPlace_4 : decode cX10_pairPlace 4 = .ok (.iload_n 1, 1) := by decide +kernel
theorem dX10_pairPlace_5 : decode cX10_pairPlace 5 = .ok (.iadd, 1) := by decide +kernel
theorem dX10_pairPlace_6 : decode cX10_pairPlace 6 = .ok (.ireturn, 1) := by decide +kernel
theorem dX10_bookOf_0 : decode cX10_bookOf 0 = .ok (.iconst 0, 1) := by decide +kernel
theorem dX10_bookOf_1 : decode cX10_bookOf 1 = .ok (.istore_n 2, 1) := by decide +kernel
theorem dX10_bookOf_2 : decode cX10_bookOf 2 = .ok (.iconst 0, 1) := by decide +kernel
theorem dX10_bookOf_3 : decode cX10_bookOf 3 = .ok (.istore_n 3, 1) := by decide +kernel
theorem dX10_bookOf_4 : decode cX10_bookOf 4 = .ok (.iload_n 3, 1) := by decide +kernel
theorem dX10_bookOf_5 : decode cX10_bookOf 5 = .ok (.bipush 8, 2) := by decide +kernel
theorem dX10_bookOf_7 : decode cX10_bookOf 7 = .ok (.if_icmp .ge 28, 3) := by decide +kernel
theorem dX10_bookOf_35 : decode cX10_bookOf 35 = .ok (.iconst (-1), 1) := by decide +kernel
theorem dX10_bookOf_36 : decode cX10_bookOf 36 = .ok (.ireturn, 1) := by decide +kernel
theorem dX10_bookOf_10 : decode cX10_bookOf 10 = .ok (.iload_n 0, 1) := by decide +kernel
theorem dX10_bookOf_11 : decode cX10_bookOf 11 = .ok (.iload_n 3, 1) := by decide +kernel
theorem dX10_bookOf_12 : decode cX10_bookOf 12 = .ok (.invokestatic 192, 3) := by decide +kernel
theorem kwS_X10_bitOf : MwS yX10_bitOf cX10_bitOf 2 (some .int) 2 := ⟨List.mem_filter.mpr ⟨List.mem_of_getElem? (i := 749) (by decide +kernel), by decide +kernel⟩, List.mem_filter.mpr ⟨List.mem_of_getElem? (i := 748) (by decide +kernel), by decide +kernel⟩, List.mem_filter.mpr ⟨List.mem_of_getElem? (i := 128) (by decide +kernel), by decide +kernel⟩, by decide +kernel⟩
theorem kM_RX10_192 : Cond.methodLink RX10 192 yX10_bitOf ∈ gT := List.mem_filter.mpr ⟨List.mem_of_getElem? (i := 951) (by decide +kernel), by decide +kernel⟩
theorem dX10_bookOf_15 : decode cX10_bookOf 15 = .ok (.iconst 1, 1) := by decide +kernel
theorem dX10_bookOf_16 : decode cX10_bookOf 16 = .ok (.if_icmp .ne 13, 3) := by decide +kernel
theorem dX10_bookOf_29 : decode cX10_bookOf 29 = .ok (.iinc 3 1, 3) := by decide +kernel
theorem dX10_bookOf_32 : decode cX10_bookOf 32 = .ok (.goto (-28), 3) := by decide +kernel
theorem dX10_bookOf_19 : decode cX10_bookOf 19 = .ok (.iload_n 2, 1) := by decide +kernel
theorem dX10_bookOf_20 : decode cX10_bookOf 20 = .ok (.iload_n 1, 1) := by decide +kernel
theorem dX10_bookOf_21 : decode cX10_bookOf 21 = .ok (.if_icmp .ne 5, 3) := by decide +kernel
theorem dX10_bookOf_26 : decode cX10_bookOf 26 = .ok (.iinc 2 1, 3) := by decide +kernel
theorem dX10_bookOf_24 : decode cX10_bookOf 24 = .ok (.iload_n 3, 1) := by decide +kernel
theorem dX10_bookOf_25 : decode cX10_bookOf 25 = .ok (.ireturn, 1) := by decide +kernel
theorem dX9_isBlank_0 : decode cX9_isBlank 0 = .ok (.iload_n 0, 1) := by decide +kernel
theorem dX9_isBlank_1 : decode cX9_isBlank 1 = .ok (.bipush 32, 2) := by decide +kernel
theorem dX9_isBlank_3 : decode cX9_isBlank 3 = .ok (.if_icmp .eq 9, 3) := by decide +kernel
theorem dX9_isBlank_12 : decode cX9_isBlank 12 = .ok (.iconst 1, 1) := by decide +kernel
theorem dX9_isBlank_13 : decode cX9_isBlank 13 = .ok (.goto 4, 3) := by decide +kernel
theorem dX9_isBlank_17 : decode cX9_isBlank 17 = .ok (.ireturn, 1) := by decide +kernel
theorem dX9_isBlank_6 : decode cX9_isBlank 6 = .ok (.iload_n 0, 1) := by decide +kernel
theorem dX9_isBlank_7 : decode cX9_isBlank 7 = .ok (.bipush 10, 2) := by decide +kernel
theorem dX9_isBlank_9 : decode cX9_isBlank 9 = .ok (.if_icmp .ne 7, 3) := by decide +kernel
theorem dX9_isBlank_16 : decode cX9_isBlank 16 = .ok (.iconst 0, 1) := by decide +kernel
theorem dX9_isLetter_0 : decode cX9_isLetter 0 = .ok (.iload_n 0, 1) := by decide +kernel
theorem dX9_isLetter_1 : decode cX9_isLetter 1 = .ok (.bipush 97, 2) := by decide +kernel
theorem dX9_isLetter_3 : decode cX9_isLetter 3 = .ok (.if_icmp .lt 13, 3) := by decide +kernel
theorem dX9_isLetter_16 : decode cX9_isLetter 16 = .ok (.iconst 0, 1) := by decide +kernel
theorem dX9_isLetter_17 : decode cX9_isLetter 17 = .ok (.ireturn, 1) := by decide +kernel
theorem dX9_isLetter_6 : decode cX9_isLetter 6 = .ok (.iload_n 0, 1) := by decide +kernel
theorem dX9_isLetter_7 : decode cX9_isLetter 7 = .ok (.bipush 122, 2) := by decide +kernel
theorem dX9_isLetter_9 : decode cX9_isLetter 9 = .ok (.if_icmp .gt 7, 3) := by decide +kernel
theorem dX9_isLetter_12 : decode cX9_isLetter 12 = .ok (.iconst 1, 1) := by decide +kernel
theorem dX9_isLetter_13 : decode cX9_isLetter 13 = .ok (.goto 4, 3) := by decide +kernel
theorem dX9_isDigit_0 : decode cX9_isDigit 0 = .ok (.iload_n 0, 1) := by decide +kernel
theorem dX9_isDigit_1 : decode cX9_isDigit 1 = .ok (.bipush 48, 2) := by decide +kernel
theorem dX9_isDigit_3 : decode cX9_isDigit 3 = .ok (.if_icmp .lt 13, 3) := by decide +kernel
theorem dX9_isDigit_16 : decode cX9_isDigit 16 = .ok (.iconst 0, 1) := by decide +kernel
theorem dX9_isDigit_17 : decode cX9_isDigit 17 = .ok (.ireturn, 1) := by decide +kernel
theorem dX9_isDigit_6 : decode cX9_isDigit 6 = .ok (.iload_n 0, 1) := by decide +kernel
theorem dX9_isDigit_7 : decode cX9_isDigit 7 = .ok (.bipush 57, 2) := by decide +kernel
theorem dX9_isDigit_9 : decode cX9_isDigit 9 = .ok (.if_icmp .gt 7, 3) := by decide +kernel
theorem dX9_isDigit_12 : decode cX9_isDigit 12 = .ok (.iconst 1, 1) := by decide +kernel
theorem dX9_isDigit_13 : decode cX9_isDigit 13 = .ok (.goto 4, 3) := by decide +kernel
theorem dX9_isSign_0 : decode cX9_isSign 0 = .ok (.iload_n 0, 1) := by decide +kernel
theorem dX9_isSign_1 : decode cX9_isSign 1 = .ok (.bipush 59, 2) := by decide +kernel
theorem dX9_isSign_3 : decode cX9_isSign 3 = .ok (.if_icmp .eq 27, 3) := by decide +kernel
theorem dX9_isSign_30 : decode cX9_isSign 30 = .ok (.iconst 1, 1) := by decide +kernel
theorem dX9_isSign_31 : decode cX9_isSign 31 = .ok (.goto 4, 3) := by decide +kernel
theorem dX9_isSign_35 : decode cX9_isSign 35 = .ok (.ireturn, 1) := by decide +kernel
theorem dX9_isSign_6 : decode cX9_isSign 6 = .ok (.iload_n 0, 1) := by decide +kernel
theorem dX9_isSign_7 : decode cX9_isSign 7 = .ok (.bipush 40, 2) := by decide +kernel
theorem dX9_isSign_9 : decode cX9_isSign 9 = .ok (.if_icmp .eq 21, 3) := by decide +kernel
theorem dX9_isSign_12 : decode cX9_isSign 12 = .ok (.iload_n 0, 1) := by decide +kernel
theorem dX9_isSign_13 : decode cX9_isSign 13 = .ok (.bipush 41, 2) := by decide +kernel
theorem dX9_isSign_15 : decode cX9_isSign 15 = .ok (.if_icmp .eq 15, 3) := by decide +kernel
theorem dX9_isSign_18 : decode cX9_isSign 18 = .ok (.iload_n 0, 1) := by decide +kernel
theorem dX9_isSign_19 : decode cX9_isSign 19 = .ok (.bipush 60, 2) := by decide +kernel
theorem dX9_isSign_21 : decode cX9_isSign 21 = .ok (.if_icmp .lt 13, 3) := by decide +kernel
theorem dX9_isSign_34 : decode cX9_isSign 34 = .ok (.iconst 0, 1) := by decide +kernel
theorem dX9_isSign_24 : decode cX9_isSign 24 = .ok (.iload_n 0, 1) := by decide +kernel
theorem dX9_isSign_25 : decode cX9_isSign 25 = .ok (.bipush 62, 2) := by decide +kernel
theorem dX9_isSign_27 : decode cX9_isSign 27 = .ok (.if_icmp .gt 7, 3) := by decide +kernel
theorem dX9_isName_0 : decode cX9_isName 0 = .ok (.aload_n 0, 1) := by decide +kernel
theorem dX9_isName_1 : decode cX9_isName 1 = .ok (.getfield 19, 3) := by decide +kernel
theorem kF_RX9_19 : Cond.fieldLink RX9 19 "CobwebLibrary$Tape" "kind" "I" ∈ gT := List.mem_filter.mpr ⟨List.mem_of_getElem? (i := 171) (by decide +kernel), by decide +kernel⟩
theorem dX9_isName_4 : decode cX9_isName 4 = .ok (.iconst 1, 1) := by decide +kernel
theorem dX9_isName_5 : decode cX9_isName 5 = .ok (.if_icmp .ne 14, 3) := by decide +kernel
theorem dX9_isName_19 : decode cX9_isName 19 = .ok (.iconst 0, 1) := by decide +kernel
theorem dX9_isName_20 : decode cX9_isName 20 = .ok (.ireturn, 1) := by decide +kernel
theorem dX9_isName_8 : decode cX9_isName 8 = .ok (.aload_n 0, 1) := by decide +kernel
theorem dX9_isName_9 : decode cX9_isName 9 = .ok (.getfield 31, 3) := by decide +kernel
theorem kF_RX9_31 : Cond.fieldLink RX9 31 "CobwebLibrary$Tape" "word" "I" ∈ gT := List.mem_filter.mpr ⟨List.mem_of_getElem? (i := 183) (by decide +kernel), by decide +kernel⟩
theorem dX9_isName_12 : decode cX9_isName 12 = .ok (.ifCond .ne 7, 3) := by decide +kernel
theorem dX9_isName_15 : decode cX9_isName 15 = .ok (.iconst 1, 1) := by decide +kernel
theorem dX9_isName_16 : decode cX9_isName 16 = .ok (.goto 4, 3) := by decide +kernel
theorem dX9_fail_0 : decode cX9_fail 0 = .ok (.aload_n 0, 1) := by decide +kernel
theorem dX9_fail_1 : decode cX9_fail 1 = .ok (.iload_n 1, 1) := by decide +kernel
theorem dX9_fail_2 : decode cX9_fail 2 = .ok (.putfield 34, 3) := by decide +kernel
theorem kF_RX9_34 : Cond.fieldLink RX9 34 "CobwebLibrary$Tape" "faultKind" "I" ∈ gT := List.mem_filter.mpr ⟨List.mem_of_getElem? (i := 187) (by decide +kernel), by decide +kernel⟩
theorem dX9_fail_5 : decode cX9_fail 5 = .ok (.aload_n 0, 1) := by decide +kernel
theorem dX9_fail_6 : decode cX9_fail 6 = .ok (.aload_n 0, 1) := by decide +kernel
theorem dX9_fail_7 : decode cX9_fail 7 = .ok (.getfield 22, 3) := by decide +kernel
theorem kF_RX9_22 : Cond.fieldLink RX9 22 "CobwebLibrary$Tape" "place" "I" ∈ gT := List.mem_filter.mpr ⟨List.mem_of_getElem? (i := 175) (by decide +kernel), by decide +kernel⟩
theorem dX9_fail_10 : decode cX9_fail 10 = .ok (.putfield 37, 3) := by decide +kernel
theorem kF_RX9_37 : Cond.fieldLink RX9 37 "CobwebLibrary$Tape" "faultPlace" "I" ∈ gT := List.mem_filter.mpr ⟨List.mem_of_getElem? (i := 189) (by decide +kernel), by decide +kernel⟩
theorem dX9_fail_13 : decode cX9_fail 13 = .ok (.iconst 0, 1) := by decide +kernel
theorem dX9_fail_14 : decode cX9_fail 14 = .ok (.ireturn, 1) := by decide +kernel
set_option maxHeartbeats 4000000 in
set_option maxRecDepth 100000 in
theorem b_o_bitOf (l : Launch) (D : va_G) (cy : Nat → ClassId) (v : Int32) (w : Int32)  {p : Program} {e : Env} {s : State} {m : MethodId} {args : Array Value} {below : List Frame} {meth : Method} {c : Code} {A : Nat → Prop} {Q : State → Prop} {cells slots : Nat} (hroom : cells ≤ ((Rm 0 0 0 0)).cells ∧ slots ≤ ((Rm 0 0 0 0)).slots) (C : Cx p s m args meth c cX10_bitOf 2 (some .int) RX10 "bitOf" D cy A) (hQ : Q = MQ below (va_Qi (fun (r : Int32) (u : Unit) => (0 ≤ r.toInt ∧ r.toInt ≤ 1) ∧ ((r.toInt = 1 ∧ bt v w = 1) ∨ (r.toInt = 0 ∧ bt v w ≠ 1))) (Bx D A (fun u : Unit => [])) A) args s ((Rm 0 0 0 0)).cells ((Rm 0 0 0 0)).slots A) (H : Heap) (locs : List Loc) (ls : Array Slot) (hP : va_P D vwCl [] H) (hD : va_D A []) (hS : va_S A s.heap H locs) (hl : lv_has ls 2 [(0, .int v), (1, .int w)]) : W p l e (Rm 0 0 0 0) s m args below meth c H locs cells slots Q (F0 m 0 ls []) := by
  have hx := C.1
  have hb := C.2.1
  have hqv := o_rng v
  have hqw := o_rng w
  refine lv_iload_n hx hb dX10_bitOf_0 rfl (lv_at hl 0 rfl) ?_
  refine lv_iload_n hx hb dX10_bitOf_1 rfl (lv_at hl 1 rfl) ?_
  refine lv_ishr hx hb dX10_bitOf_2 ?_
  refine lv_topi (fun z_1 hz_1 => ?_)
  have dz_1 := hz_1
  clear hz_1
  refine lv_iconst (v := 1) hx hb dX10_bitOf_3 (by decide) ?_
  refine lv_iand hx hb dX10_bitOf_4 ?_
  refine lv_topi (fun z_2 hz_2 => ?_)
  have dz_2 := hz_2
  have hz_2 := o_and hz_2 (b := 1) (by decide) (by decide)
  refine o_wq hQ ?_
  exact q_iret (rm := (Rm 0 0 0 0)) C hS () rfl ⟨(show 0 ≤ z_2.toInt ∧ z_2.toInt ≤ 1 by omega), (show (z_2.toInt = 1 ∧ bt v w = 1) ∨ (z_2.toInt = 0 ∧ bt v w ≠ 1) from (btc dz_1 dz_2))⟩ (q_subP hP [] rfl) (hD.sub [] (by decide) rfl) hroom.1 hroom.2 dX10_bitOf_5
theorem o_bitOf (l : Launch) (D : va_G) (cy : Nat → ClassId) (v : Int32) (w : Int32) (sz : Nat)  : MI l yX10_bitOf cX10_bitOf 2 (some .int) (Rm 0 0 0 0) D cy [.int v, .int w] sz [] (fun (r : Int32) (u : Unit) => (0 ≤ r.toInt ∧ r.toInt ≤ 1) ∧ ((r.toInt = 1 ∧ bt v w = 1) ∨ (r.toInt = 0 ∧ bt v w ≠ 1))) (fun u : Unit => []) := by
  refine MI.enter (by decide) (Nat.le_of_ble_eq_true rfl) ?_
  intro p e s m below meth c ls A hsz hAe C hP hD hS hl
  exact b_o_bitOf l D cy v w  ⟨Nat.le_of_ble_eq_true rfl, Nat.le_of_ble_eq_true rfl⟩ C rfl _ _ ls hP hD hS hl
set_option maxHeartbeats 4000000 in
set_option maxRecDepth 100000 in
theorem b_o_hasBook (l : Launch) (D : va_G) (cy : Nat → ClassId) (h : Nat) (v : Int32) (h_wide : Int32) (h_high : Int32) (h_law : Int32) (h_spin : Int32) (h_line : Int32) (h_draught : Int32) (h_books : Int32) (h_rare : Int32) (h_quarrels_ : Nat) (h_nameSizes_ : Nat) (h_names_ : Nat) (h_quarrels : Nat → Int32) (h_nameSizes : Nat → Int32) (h_names : Nat → Int32) (hb0 : 0 ≤ h_wide.toInt ∧ h_wide.toInt ≤ 6) (hb1 : 0 ≤ h_high.toInt ∧ h_high.toInt ≤ 6) (hb2 : 0 ≤ h_books.toInt ∧ h_books.toInt ≤ 8) (hR0 : Rg h_nameSizes 0 8 (-900) 7) {p : Program} {e : Env} {s : State} {m : MethodId} {args : Array Value} {below : List Frame} {meth : Method} {c : Code} {A : Nat → Prop} {Q : State → Prop} {cells slots : Nat} (hroom : cells ≤ ((Rm 0 0 0 0)).cells ∧ slots ≤ ((Rm 0 0 0 0)).slots) (C : Cx p s m args meth c cX6_hasBook 2 (some .boolean) RX6 "hasBook" D cy A) (hQ : Q = MQ below (va_Qi (fun (r : Int32) (u : Unit) => (0 ≤ r.toInt ∧ r.toInt ≤ 1) ∧ (0 ≤ v.toInt + (-17179869184) * r.toInt + 17179869184 ∧ 0 ≤ h_books.toInt + (-1) * v.toInt + (-17179869184) * r.toInt + 17179869183)) (Bx D A (fun u : Unit => [(h, .inr (6, [.int h_wide, .int h_high, .int h_law, .int h_spin, .int h_line, .int h_draught, .int h_books, .int h_rare, .ref h_quarrels_, .ref h_nameSizes_, .ref h_names_])), (h_quarrels_, .inl (cy 1, 8, .inl h_quarrels)), (h_nameSizes_, .inl (cy 1, 8, .inl h_nameSizes)), (h_names_, .inl (cy 1, 56, .inl h_names))])) A) args s ((Rm 0 0 0 0)).cells ((Rm 0 0 0 0)).slots A) (H : Heap) (locs : List Loc) (ls : Array Slot) (hP : va_P D vwCl [(h, .inr (6, [.int h_wide, .int h_high, .int h_law, .int h_spin, .int h_line, .int h_draught, .int h_books, .int h_rare, .ref h_quarrels_, .ref h_nameSizes_, .ref h_names_])), (h_quarrels_, .inl (cy 1, 8, .inl h_quarrels)), (h_nameSizes_, .inl (cy 1, 8, .inl h_nameSizes)), (h_names_, .inl (cy 1, 56, .inl h_names))] H) (hD : va_D A [(h, .inr (6, [.int h_wide, .int h_high, .int h_law, .int h_spin, .int h_line, .int h_draught, .int h_books, .int h_rare, .ref h_quarrels_, .ref h_nameSizes_, .ref h_names_])), (h_quarrels_, .inl (cy 1, 8, .inl h_quarrels)), (h_nameSizes_, .inl (cy 1, 8, .inl h_nameSizes)), (h_names_, .inl (cy 1, 56, .inl h_names))]) (hS : va_S A s.heap H locs) (hl : lv_has ls 2 [(0, .ref h), (1, .int v)]) : W p l e (Rm 0 0 0 0) s m args below meth c H locs cells slots Q (F0 m 0 ls []) := by
  have hx := C.1
  have hb := C.2.1
  have hqv := o_rng v
  have hqh_law := o_rng h_law
  have hqh_spin := o_rng h_spin
  have hqh_line := o_rng h_line
  have hqh_draught := o_rng h_draught
  have hqh_rare := o_rng h_rare
  refine lv_iload_n hx hb dX6_hasBook_0 rfl (lv_at hl 1 rfl) ?_
  refine lv_if_lt (tgt := 16) hx hb dX6_hasBook_1 (by decide) (fun c_1 => ?_) (fun c_1 => ?_)
  · have hc_1 := o_lt (rfl : v.toInt = v.toInt) (by decide : (0 : Int32).toInt = 0) c_1
    refine lv_iconst (v := 0) hx hb dX6_hasBook_16 (by decide) ?_
    refine o_wq hQ ?_
    exact q_iret (rm := (Rm 0 0 0 0)) C hS () rfl ⟨(show 0 ≤ (0 : Int32).toInt ∧ (0 : Int32).toInt ≤ 1 by decide), (show 0 ≤ v.toInt + (-17179869184) * (0 : Int32).toInt + 17179869184 ∧ 0 ≤ h_books.toInt + (-1) * v.toInt + (-17179869184) * (0 : Int32).toInt + 17179869183 by have e0 : (0 : Int32).toInt = 0 := (by decide); omega)⟩ (q_subP hP [0, 1, 2, 3] rfl) (hD.sub [0, 1, 2, 3] (by decide) rfl) hroom.1 hroom.2 dX6_hasBook_17
  · have hc_1 := o_nlt (rfl : v.toInt = v.toInt) (by decide : (0 : Int32).toInt = 0) c_1
    refine lv_iload_n hx hb dX6_hasBook_4 rfl (lv_at hl 1 rfl) ?_
    refine lv_aload_n hx hb dX6_hasBook_5 rfl (lv_at hl 0 rfl) ?_
    refine q_get (v := .int h_books) C hP 0 6 rfl rfl inX6 (by decide) kF_RX6_30 rfl rfl dX6_hasBook_6 ?_
    refine lv_icmp_ge (tgt := 16) hx hb dX6_hasBook_9 (by decide) (fun c_2 => ?_) (fun c_2 => ?_)
    · have hc_2 := o_le (rfl : h_books.toInt = h_books.toInt) (rfl : v.toInt = v.toInt) c_2
      refine lv_iconst (v := 0) hx hb dX6_hasBook_16 (by decide) ?_
      refine o_wq hQ ?_
      exact q_iret (rm := (Rm 0 0 0 0)) C hS () rfl ⟨(show 0 ≤ (0 : Int32).toInt ∧ (0 : Int32).toInt ≤ 1 by decide), (show 0 ≤ v.toInt + (-17179869184) * (0 : Int32).toInt + 17179869184 ∧ 0 ≤ h_books.toInt + (-1) * v.toInt + (-17179869184) * (0 : Int32).toInt + 17179869183 by have e0 : (0 : Int32).toInt = 0 := (by decide); omega)⟩ (q_subP hP [0, 1, 2, 3] rfl) (hD.sub [0, 1, 2, 3] (by decide) rfl) hroom.1 hroom.2 dX6_hasBook_17
    · have hc_2 := o_nle (rfl : h_books.toInt = h_books.toInt) (rfl : v.toInt = v.toInt) c_2
      refine lv_iconst (v := 1) hx hb dX6_hasBook_12 (by decide) ?_
      refine lv_goto (tgt := 17) hx hb dX6_hasBook_13 (by decide) ?_
      refine o_wq hQ ?_
      exact q_iret (rm := (Rm 0 0 0 0)) C hS () rfl ⟨(show 0 ≤ (1 : Int32).toInt ∧ (1 : Int32).toInt ≤ 1 by decide), (show 0 ≤ v.toInt + (-17179869184) * (1 : Int32).toInt + 17179869184 ∧ 0 ≤ h_books.toInt + (-1) * v.toInt + (-17179869184) * (1 : Int32).toInt + 17179869183 by have e0 : (1 : Int32).toInt = 1 := (by decide); omega)⟩ (q_subP hP [0, 1, 2, 3] rfl) (hD.sub [0, 1, 2, 3] (by decide) rfl) hroom.1 hroom.2 dX6_hasBook_17
theorem o_hasBook (l : Launch) (D : va_G) (cy : Nat → ClassId) (h : Nat) (v : Int32) (h_wide : Int32) (h_high : Int32) (h_law : Int32) (h_spin : Int32) (h_line : Int32) (h_draught : Int32) (h_books : Int32) (h_rare : Int32) (h_quarrels_ : Nat) (h_nameSizes_ : Nat) (h_names_ : Nat) (h_quarrels : Nat → Int32) (h_nameSizes : Nat → Int32) (h_names : Nat → Int32) (sz : Nat) (hb0 : 0 ≤ h_wide.toInt ∧ h_wide.toInt ≤ 6) (hb1 : 0 ≤ h_high.toInt ∧ h_high.toInt ≤ 6) (hb2 : 0 ≤ h_books.toInt ∧ h_books.toInt ≤ 8) (hR0 : Rg h_nameSizes 0 8 (-900) 7) : MI l yX6_hasBook cX6_hasBook 2 (some .boolean) (Rm 0 0 0 0) D cy [.ref h, .int v] sz [(h, .inr (6, [.int h_wide, .int h_high, .int h_law, .int h_spin, .int h_line, .int h_draught, .int h_books, .int h_rare, .ref h_quarrels_, .ref h_nameSizes_, .ref h_names_])), (h_quarrels_, .inl (cy 1, 8, .inl h_quarrels)), (h_nameSizes_, .inl (cy 1, 8, .inl h_nameSizes)), (h_names_, .inl (cy 1, 56, .inl h_names))] (fun (r : Int32) (u : Unit) => (0 ≤ r.toInt ∧ r.toInt ≤ 1) ∧ (0 ≤ v.toInt + (-17179869184) * r.toInt + 17179869184 ∧ 0 ≤ h_books.toInt + (-1) * v.toInt + (-17179869184) * r.toInt + 17179869183)) (fun u : Unit => [(h, .inr (6, [.int h_wide, .int h_high, .int h_law, .int h_spin, .int h_line, .int h_draught, .int h_books, .int h_rare, .ref h_quarrels_, .ref h_nameSizes_, .ref h_names_])), (h_quarrels_, .inl (cy 1, 8, .inl h_quarrels)), (h_nameSizes_, .inl (cy 1, 8, .inl h_nameSizes)), (h_names_, .inl (cy 1, 56, .inl h_names))]) := by
  refine MI.enter (by decide) (Nat.le_of_ble_eq_true rfl) ?_
  intro p e s m below meth c ls A hsz hAe C hP hD hS hl
  exact b_o_hasBook l D cy h v h_wide h_high h_law h_spin h_line h_draught h_books h_rare h_quarrels_ h_nameSizes_ h_names_ h_quarrels h_nameSizes h_names hb0 hb1 hb2 hR0 ⟨Nat.le_of_ble_eq_true rfl, Nat.le_of_ble_eq_true rfl⟩ C rfl _ _ ls hP hD hS hl
set_option maxHeartbeats 4000000 in
set_option maxRecDepth 100000 in
theorem b_o_hasRow (l : Launch) (D : va_G) (cy : Nat → ClassId) (h : Nat) (v : Int32) (h_wide : Int32) (h_high : Int32) (h_law : Int32) (h_spin : Int32) (h_line : Int32) (h_draught : Int32) (h_books : Int32) (h_rare : Int32) (h_quarrels_ : Nat) (h_nameSizes_ : Nat) (h_names_ : Nat) (h_quarrels : Nat → Int32) (h_nameSizes : Nat → Int32) (h_names : Nat → Int32) (hb0 : 0 ≤ h_wide.toInt ∧ h_wide.toInt ≤ 6) (hb1 : 0 ≤ h_high.toInt ∧ h_high.toInt ≤ 6) (hb2 : 0 ≤ h_books.toInt ∧ h_books.toInt ≤ 8) (hR0 : Rg h_nameSizes 0 8 (-900) 7) {p : Program} {e : Env} {s : State} {m : MethodId} {args : Array Value} {below : List Frame} {meth : Method} {c : Code} {A : Nat → Prop} {Q : State → Prop} {cells slots : Nat} (hroom : cells ≤ ((Rm 0 0 0 0)).cells ∧ slots ≤ ((Rm 0 0 0 0)).slots) (C : Cx p s m args meth c cX6_hasRow 2 (some .boolean) RX6 "hasRow" D cy A) (hQ : Q = MQ below (va_Qi (fun (r : Int32) (u : Unit) => (0 ≤ r.toInt ∧ r.toInt ≤ 1) ∧ (0 ≤ v.toInt + (-17179869184) * r.toInt + 17179869184 ∧ 0 ≤ h_high.toInt + (-1) * v.toInt + (-17179869184) * r.toInt + 17179869183)) (Bx D A (fun u : Unit => [(h, .inr (6, [.int h_wide, .int h_high, .int h_law, .int h_spin, .int h_line, .int h_draught, .int h_books, .int h_rare, .ref h_quarrels_, .ref h_nameSizes_, .ref h_names_])), (h_quarrels_, .inl (cy 1, 8, .inl h_quarrels)), (h_nameSizes_, .inl (cy 1, 8, .inl h_nameSizes)), (h_names_, .inl (cy 1, 56, .inl h_names))])) A) args s ((Rm 0 0 0 0)).cells ((Rm 0 0 0 0)).slots A) (H : Heap) (locs : List Loc) (ls : Array Slot) (hP : va_P D vwCl [(h, .inr (6, [.int h_wide, .int h_high, .int h_law, .int h_spin, .int h_line, .int h_draught, .int h_books, .int h_rare, .ref h_quarrels_, .ref h_nameSizes_, .ref h_names_])), (h_quarrels_, .inl (cy 1, 8, .inl h_quarrels)), (h_nameSizes_, .inl (cy 1, 8, .inl h_nameSizes)), (h_names_, .inl (cy 1, 56, .inl h_names))] H) (hD : va_D A [(h, .inr (6, [.int h_wide, .int h_high, .int h_law, .int h_spin, .int h_line, .int h_draught, .int h_books, .int h_rare, .ref h_quarrels_, .ref h_nameSizes_, .ref h_names_])), (h_quarrels_, .inl (cy 1, 8, .inl h_quarrels)), (h_nameSizes_, .inl (cy 1, 8, .inl h_nameSizes)), (h_names_, .inl (cy 1, 56, .inl h_names))]) (hS : va_S A s.heap H locs) (hl : lv_has ls 2 [(0, .ref h), (1, .int v)]) : W p l e (Rm 0 0 0 0) s m args below meth c H locs cells slots Q (F0 m 0 ls []) := by
  have hx := C.1
  have hb := C.2.1
  have hqv := o_rng v
  have hqh_law := o_rng h_law
  have hqh_spin := o_rng h_spin
  have hqh_line := o_rng h_line
  have hqh_draught := o_rng h_draught
  have hqh_rare := o_rng h_rare
  refine lv_iload_n hx hb dX6_hasRow_0 rfl (lv_at hl 1 rfl) ?_
  refine lv_if_lt (tgt := 16) hx hb dX6_hasRow_1 (by decide) (fun c_1 => ?_) (fun c_1 => ?_)
  · have hc_1 := o_lt (rfl : v.toInt = v.toInt) (by decide : (0 : Int32).toInt = 0) c_1
    refine lv_iconst (v := 0) hx hb dX6_hasRow_16 (by decide) ?_
    refine o_wq hQ ?_
    exact q_iret (rm := (Rm 0 0 0 0)) C hS () rfl ⟨(show 0 ≤ (0 : Int32).toInt ∧ (0 : Int32).toInt ≤ 1 by decide), (show 0 ≤ v.toInt + (-17179869184) * (0 : Int32).toInt + 17179869184 ∧ 0 ≤ h_high.toInt + (-1) * v.toInt + (-17179869184) * (0 : Int32).toInt + 17179869183 by have e0 : (0 : Int32).toInt = 0 := (by decide); omega)⟩ (q_subP hP [0, 1, 2, 3] rfl) (hD.sub [0, 1, 2, 3] (by decide) rfl) hroom.1 hroom.2 dX6_hasRow_17
  · have hc_1 := o_nlt (rfl : v.toInt = v.toInt) (by decide : (0 : Int32).toInt = 0) c_1
    refine lv_iload_n hx hb dX6_hasRow_4 rfl (lv_at hl 1 rfl) ?_
    refine lv_aload_n hx hb dX6_hasRow_5 rfl (lv_at hl 0 rfl) ?_
    refine q_get (v := .int h_high) C hP 0 1 rfl rfl inX6 (by decide) kF_RX6_15 rfl rfl dX6_hasRow_6 ?_
    refine lv_icmp_ge (tgt := 16) hx hb dX6_hasRow_9 (by decide) (fun c_2 => ?_) (fun c_2 => ?_)
    · have hc_2 := o_le (rfl : h_high.toInt = h_high.toInt) (rfl : v.toInt = v.toInt) c_2
      refine lv_iconst (v := 0) hx hb dX6_hasRow_16 (by decide) ?_
      refine o_wq hQ ?_
      exact q_iret (rm := (Rm 0 0 0 0)) C hS () rfl ⟨(show 0 ≤ (0 : Int32).toInt ∧ (0 : Int32).toInt ≤ 1 by decide), (show 0 ≤ v.toInt + (-17179869184) * (0 : Int32).toInt + 17179869184 ∧ 0 ≤ h_high.toInt + (-1) * v.toInt + (-17179869184) * (0 : Int32).toInt + 17179869183 by have e0 : (0 : Int32).toInt = 0 := (by decide); omega)⟩ (q_subP hP [0, 1, 2, 3] rfl) (hD.sub [0, 1, 2, 3] (by decide) rfl) hroom.1 hroom.2 dX6_hasRow_17
    · have hc_2 := o_nle (rfl : h_high.toInt = h_high.toInt) (rfl : v.toInt = v.toInt) c_2
      refine lv_iconst (v := 1) hx hb dX6_hasRow_12 (by decide) ?_
      refine lv_goto (tgt := 17) hx hb dX6_hasRow_13 (by decide) ?_
      refine o_wq hQ ?_
      exact q_iret (rm := (Rm 0 0 0 0)) C hS () rfl ⟨(show 0 ≤ (1 : Int32).toInt ∧ (1 : Int32).toInt ≤ 1 by decide), (show 0 ≤ v.toInt + (-17179869184) * (1 : Int32).toInt + 17179869184 ∧ 0 ≤ h_high.toInt + (-1) * v.toInt + (-17179869184) * (1 : Int32).toInt + 17179869183 by have e0 : (1 : Int32).toInt = 1 := (by decide); omega)⟩ (q_subP hP [0, 1, 2, 3] rfl) (hD.sub [0, 1, 2, 3] (by decide) rfl) hroom.1 hroom.2 dX6_hasRow_17
theorem o_hasRow (l : Launch) (D : va_G) (cy : Nat → ClassId) (h : Nat) (v : Int32) (h_wide : Int32) (h_high : Int32) (h_law : Int32) (h_spin : Int32) (h_line : Int32) (h_draught : Int32) (h_books : Int32) (h_rare : Int32) (h_quarrels_ : Nat) (h_nameSizes_ : Nat) (h_names_ : Nat) (h_quarrels : Nat → Int32) (h_nameSizes : Nat → Int32) (h_names : Nat → Int32) (sz : Nat) (hb0 : 0 ≤ h_wide.toInt ∧ h_wide.toInt ≤ 6) (hb1 : 0 ≤ h_high.toInt ∧ h_high.toInt ≤ 6) (hb2 : 0 ≤ h_books.toInt ∧ h_books.toInt ≤ 8) (hR0 : Rg h_nameSizes 0 8 (-900) 7) : MI l yX6_hasRow cX6_hasRow 2 (some .boolean) (Rm 0 0 0 0) D cy [.ref h, .int v] sz [(h, .inr (6, [.int h_wide, .int h_high, .int h_law, .int h_spin, .int h_line, .int h_draught, .int h_books, .int h_rare, .ref h_quarrels_, .ref h_nameSizes_, .ref h_names_])), (h_quarrels_, .inl (cy 1, 8, .inl h_quarrels)), (h_nameSizes_, .inl (cy 1, 8, .inl h_nameSizes)), (h_names_, .inl (cy 1, 56, .inl h_names))] (fun (r : Int32) (u : Unit) => (0 ≤ r.toInt ∧ r.toInt ≤ 1) ∧ (0 ≤ v.toInt + (-17179869184) * r.toInt + 17179869184 ∧ 0 ≤ h_high.toInt + (-1) * v.toInt + (-17179869184) * r.toInt + 17179869183)) (fun u : Unit => [(h, .inr (6, [.int h_wide, .int h_high, .int h_law, .int h_spin, .int h_line, .int h_draught, .int h_books, .int h_rare, .ref h_quarrels_, .ref h_nameSizes_, .ref h_names_])), (h_quarrels_, .inl (cy 1, 8, .inl h_quarrels)), (h_nameSizes_, .inl (cy 1, 8, .inl h_nameSizes)), (h_names_, .inl (cy 1, 56, .inl h_names))]) := by
  refine MI.enter (by decide) (Nat.le_of_ble_eq_true rfl) ?_
  intro p e s m below meth c ls A hsz hAe C hP hD hS hl
  exact b_o_hasRow l D cy h v h_wide h_high h_law h_spin h_line h_draught h_books h_rare h_quarrels_ h_nameSizes_ h_names_ h_quarrels h_nameSizes h_names hb0 hb1 hb2 hR0 ⟨Nat.le_of_ble_eq_true rfl, Nat.le_of_ble_eq_true rfl⟩ C rfl _ _ ls hP hD hS hl
set_option maxHeartbeats 4000000 in
set_option maxRecDepth 100000 in
theorem b_o_hasCell (l : Launch) (D : va_G) (cy : Nat → ClassId) (h : Nat) (v : Int32) (w : Int32) (h_wide : Int32) (h_high : Int32) (h_law : Int32) (h_spin : Int32) (h_line : Int32) (h_draught : Int32) (h_books : Int32) (h_rare : Int32) (h_quarrels_ : Nat) (h_nameSizes_ : Nat) (h_names_ : Nat) (h_quarrels : Nat → Int32) (h_nameSizes : Nat → Int32) (h_names : Nat → Int32) (hb0 : 0 ≤ h_wide.toInt ∧ h_wide.toInt ≤ 6) (hb1 : 0 ≤ h_high.toInt ∧ h_high.toInt ≤ 6) (hb2 : 0 ≤ h_books.toInt ∧ h_books.toInt ≤ 8) (hR0 : Rg h_nameSizes 0 8 (-900) 7) {p : Program} {e : Env} {s : State} {m : MethodId} {args : Array Value} {below : List Frame} {meth : Method} {c : Code} {A : Nat → Prop} {Q : State → Prop} {cells slots : Nat} (hroom : cells ≤ ((Rm 1 21 0 0)).cells ∧ slots ≤ ((Rm 1 21 0 0)).slots) (C : Cx p s m args meth c cX6_hasCell 3 (some .boolean) RX6 "hasCell" D cy A) (hQ : Q = MQ below (va_Qi (fun (r : Int32) (u : Unit) => (0 ≤ r.toInt ∧ r.toInt ≤ 1) ∧ (0 ≤ v.toInt + (-17179869184) * r.toInt + 17179869184 ∧ 0 ≤ h_wide.toInt + (-1) * v.toInt + (-17179869184) * r.toInt + 17179869183 ∧ 0 ≤ w.toInt + (-17179869184) * r.toInt + 17179869184 ∧ 0 ≤ h_high.toInt + (-1) * w.toInt + (-17179869184) * r.toInt + 17179869183)) (Bx D A (fun u : Unit => [(h, .inr (6, [.int h_wide, .int h_high, .int h_law, .int h_spin, .int h_line, .int h_draught, .int h_books, .int h_rare, .ref h_quarrels_, .ref h_nameSizes_, .ref h_names_])), (h_quarrels_, .inl (cy 1, 8, .inl h_quarrels)), (h_nameSizes_, .inl (cy 1, 8, .inl h_nameSizes)), (h_names_, .inl (cy 1, 56, .inl h_names))])) A) args s ((Rm 1 21 0 0)).cells ((Rm 1 21 0 0)).slots A) (H : Heap) (locs : List Loc) (ls : Array Slot) (hP : va_P D vwCl [(h, .inr (6, [.int h_wide, .int h_high, .int h_law, .int h_spin, .int h_line, .int h_draught, .int h_books, .int h_rare, .ref h_quarrels_, .ref h_nameSizes_, .ref h_names_])), (h_quarrels_, .inl (cy 1, 8, .inl h_quarrels)), (h_nameSizes_, .inl (cy 1, 8, .inl h_nameSizes)), (h_names_, .inl (cy 1, 56, .inl h_names))] H) (hD : va_D A [(h, .inr (6, [.int h_wide, .int h_high, .int h_law, .int h_spin, .int h_line, .int h_draught, .int h_books, .int h_rare, .ref h_quarrels_, .ref h_nameSizes_, .ref h_names_])), (h_quarrels_, .inl (cy 1, 8, .inl h_quarrels)), (h_nameSizes_, .inl (cy 1, 8, .inl h_nameSizes)), (h_names_, .inl (cy 1, 56, .inl h_names))]) (hS : va_S A s.heap H locs) (hl : lv_has ls 3 [(0, .ref h), (1, .int v), (2, .int w)]) : W p l e (Rm 1 21 0 0) s m args below meth c H locs cells slots Q (F0 m 0 ls []) := by
  have hx := C.1
  have hb := C.2.1
  have hqv := o_rng v
  have hqw := o_rng w
  have hqh_law := o_rng h_law
  have hqh_spin := o_rng h_spin
  have hqh_line := o_rng h_line
  have hqh_draught := o_rng h_draught
  have hqh_rare := o_rng h_rare
  refine lv_iload_n hx hb dX6_hasCell_0 rfl (lv_at hl 1 rfl) ?_
  refine lv_if_lt (tgt := 24) hx hb dX6_hasCell_1 (by decide) (fun c_1 => ?_) (fun c_1 => ?_)
  · have hc_1 := o_lt (rfl : v.toInt = v.toInt) (by decide : (0 : Int32).toInt = 0) c_1
    refine lv_iconst (v := 0) hx hb dX6_hasCell_24 (by decide) ?_
    refine o_wq hQ ?_
    exact q_iret (rm := (Rm 1 21 0 0)) C hS () rfl ⟨(show 0 ≤ (0 : Int32).toInt ∧ (0 : Int32).toInt ≤ 1 by decide), (show 0 ≤ v.toInt + (-17179869184) * (0 : Int32).toInt + 17179869184 ∧ 0 ≤ h_wide.toInt + (-1) * v.toInt + (-17179869184) * (0 : Int32).toInt + 17179869183 ∧ 0 ≤ w.toInt + (-17179869184) * (0 : Int32).toInt + 17179869184 ∧ 0 ≤ h_high.toInt + (-1) * w.toInt + (-17179869184) * (0 : Int32).toInt + 17179869183 by have e0 : (0 : Int32).toInt = 0 := (by decide); omega)⟩ (q_subP hP [0, 1, 2, 3] rfl) (hD.sub [0, 1, 2, 3] (by decide) rfl) hroom.1 hroom.2 dX6_hasCell_25
  · have hc_1 := o_nlt (rfl : v.toInt = v.toInt) (by decide : (0 : Int32).toInt = 0) c_1
    refine lv_iload_n hx hb dX6_hasCell_4 rfl (lv_at hl 1 rfl) ?_
    refine lv_aload_n hx hb dX6_hasCell_5 rfl (lv_at hl 0 rfl) ?_
    refine q_get (v := .int h_wide) C hP 0 0 rfl rfl inX6 (by decide) kF_RX6_9 rfl rfl dX6_hasCell_6 ?_
    refine lv_icmp_ge (tgt := 24) hx hb dX6_hasCell_9 (by decide) (fun c_2 => ?_) (fun c_2 => ?_)
    · have hc_2 := o_le (rfl : h_wide.toInt = h_wide.toInt) (rfl : v.toInt = v.toInt) c_2
      refine lv_iconst (v := 0) hx hb dX6_hasCell_24 (by decide) ?_
      refine o_wq hQ ?_
      exact q_iret (rm := (Rm 1 21 0 0)) C hS () rfl ⟨(show 0 ≤ (0 : Int32).toInt ∧ (0 : Int32).toInt ≤ 1 by decide), (show 0 ≤ v.toInt + (-17179869184) * (0 : Int32).toInt + 17179869184 ∧ 0 ≤ h_wide.toInt + (-1) * v.toInt + (-17179869184) * (0 : Int32).toInt + 17179869183 ∧ 0 ≤ w.toInt + (-17179869184) * (0 : Int32).toInt + 17179869184 ∧ 0 ≤ h_high.toInt + (-1) * w.toInt + (-17179869184) * (0 : Int32).toInt + 17179869183 by have e0 : (0 : Int32).toInt = 0 := (by decide); omega)⟩ (q_subP hP [0, 1, 2, 3] rfl) (hD.sub [0, 1, 2, 3] (by decide) rfl) hroom.1 hroom.2 dX6_hasCell_25
    · have hc_2 := o_nle (rfl : h_wide.toInt = h_wide.toInt) (rfl : v.toInt = v.toInt) c_2
      refine lv_aload_n hx hb dX6_hasCell_12 rfl (lv_at hl 0 rfl) ?_
      refine lv_iload_n hx hb dX6_hasCell_13 rfl (lv_at hl 2 rfl) ?_
      refine q_ai (wr := []) (r_V (rm := (Rm 0 0 0 0)) (q0 := 0) (As := [.int w]) (rest := []) (wc := [(h, .inr (6, [.int h_wide, .int h_high, .int h_law, .int h_spin, .int h_line, .int h_draught, .int h_books, .int h_rare, .ref h_quarrels_, .ref h_nameSizes_, .ref h_names_])), (h_quarrels_, .inl (cy 1, 8, .inl h_quarrels)), (h_nameSizes_, .inl (cy 1, 8, .inl h_nameSizes)), (h_names_, .inl (cy 1, 56, .inl h_names))]) C hS (q_subP hP [0, 1, 2, 3] rfl) (hD.sub [0, 1, 2, 3] (by decide) rfl) (o_hasRow l D cy h w h_wide h_high h_law h_spin h_line h_draught h_books h_rare h_quarrels_ h_nameSizes_ h_names_ h_quarrels h_nameSizes h_names _ (by omega) (by omega) (by omega) hR0) kwV_X6_hasRow kM_RX6_52 rfl rfl ⟨Nat.le_of_ble_eq_true rfl, Nat.le_of_ble_eq_true rfl⟩ rfl hl.1 rfl (Nat.le_of_ble_eq_true rfl) dX6_hasCell_14 ⟨hroom.1, hroom.2⟩) C.2.2.2.2.2.2.1 hP hD hS [0, 1, 2, 3] [] rfl rfl (by decide) (by decide) (fun r_4 u_3 H locs hw_5 hP hD hS => ?_)
      have hp_5 : 0 ≤ r_4.toInt ∧ r_4.toInt ≤ 1 := hw_5.1
      have hp_6 : 0 ≤ w.toInt + (-17179869184) * r_4.toInt + 17179869184 ∧ 0 ≤ h_high.toInt + (-1) * w.toInt + (-17179869184) * r_4.toInt + 17179869183 := hw_5.2
      refine lv_if_eq (tgt := 24) hx hb dX6_hasCell_17 (by decide) (fun c_8 => ?_) (fun c_8 => ?_)
      · have hc_8 := o_eq (rfl : r_4.toInt = r_4.toInt) (by decide : (0 : Int32).toInt = 0) c_8
        refine lv_iconst (v := 0) hx hb dX6_hasCell_24 (by decide) ?_
        refine o_wq hQ ?_
        exact q_iret (rm := (Rm 1 21 0 0)) C hS () rfl ⟨(show 0 ≤ (0 : Int32).toInt ∧ (0 : Int32).toInt ≤ 1 by decide), (show 0 ≤ v.toInt + (-17179869184) * (0 : Int32).toInt + 17179869184 ∧ 0 ≤ h_wide.toInt + (-1) * v.toInt + (-17179869184) * (0 : Int32).toInt + 17179869183 ∧ 0 ≤ w.toInt + (-17179869184) * (0 : Int32).toInt + 17179869184 ∧ 0 ≤ h_high.toInt + (-1) * w.toInt + (-17179869184) * (0 : Int32).toInt + 17179869183 by have e0 : (0 : Int32).toInt = 0 := (by decide); omega)⟩ (q_subP hP [0, 1, 2, 3] rfl) (hD.sub [0, 1, 2, 3] (by decide) rfl) hroom.1 hroom.2 dX6_hasCell_25
      · have hc_8 := o_ne (rfl : r_4.toInt = r_4.toInt) (by decide : (0 : Int32).toInt = 0) c_8
        have hnc_8 : 0 ≤ r_4.toInt + (-1) := by rcases Int.lt_or_gt_of_ne hc_8 with h9 | h9 <;> omega
        refine lv_iconst (v := 1) hx hb dX6_hasCell_20 (by decide) ?_
        refine lv_goto (tgt := 25) hx hb dX6_hasCell_21 (by decide) ?_
        refine o_wq hQ ?_
        exact q_iret (rm := (Rm 1 21 0 0)) C hS () rfl ⟨(show 0 ≤ (1 : Int32).toInt ∧ (1 : Int32).toInt ≤ 1 by decide), (show 0 ≤ v.toInt + (-17179869184) * (1 : Int32).toInt + 17179869184 ∧ 0 ≤ h_wide.toInt + (-1) * v.toInt + (-17179869184) * (1 : Int32).toInt + 17179869183 ∧ 0 ≤ w.toInt + (-17179869184) * (1 : Int32).toInt + 17179869184 ∧ 0 ≤ h_high.toInt + (-1) * w.toInt + (-17179869184) * (1 : Int32).toInt + 17179869183 by have e0 : (1 : Int32).toInt = 1 := (by decide); omega)⟩ (q_subP hP [0, 1, 2, 3] rfl) (hD.sub [0, 1, 2, 3] (by decide) rfl) hroom.1 hroom.2 dX6_hasCell_25
theorem o_hasCell (l : Launch) (D : va_G) (cy : Nat → ClassId) (h : Nat) (v : Int32) (w : Int32) (h_wide : Int32) (h_high : Int32) (h_law : Int32) (h_spin : Int32) (h_line : Int32) (h_draught : Int32) (h_books : Int32) (h_rare : Int32) (h_quarrels_ : Nat) (h_nameSizes_ : Nat) (h_names_ : Nat) (h_quarrels : Nat → Int32) (h_nameSizes : Nat → Int32) (h_names : Nat → Int32) (sz : Nat) (hb0 : 0 ≤ h_wide.toInt ∧ h_wide.toInt ≤ 6) (hb1 : 0 ≤ h_high.toInt ∧ h_high.toInt ≤ 6) (hb2 : 0 ≤ h_books.toInt ∧ h_books.toInt ≤ 8) (hR0 : Rg h_nameSizes 0 8 (-900) 7) : MI l yX6_hasCell cX6_hasCell 3 (some .boolean) (Rm 1 21 0 0) D cy [.ref h, .int v, .int w] sz [(h, .inr (6, [.int h_wide, .int h_high, .int h_law, .int h_spin, .int h_line, .int h_draught, .int h_books, .int h_rare, .ref h_quarrels_, .ref h_nameSizes_, .ref h_names_])), (h_quarrels_, .inl (cy 1, 8, .inl h_quarrels)), (h_nameSizes_, .inl (cy 1, 8, .inl h_nameSizes)), (h_names_, .inl (cy 1, 56, .inl h_names))] (fun (r : Int32) (u : Unit) => (0 ≤ r.toInt ∧ r.toInt ≤ 1) ∧ (0 ≤ v.toInt + (-17179869184) * r.toInt + 17179869184 ∧ 0 ≤ h_wide.toInt + (-1) * v.toInt + (-17179869184) * r.toInt + 17179869183 ∧ 0 ≤ w.toInt + (-17179869184) * r.toInt + 17179869184 ∧ 0 ≤ h_high.toInt + (-1) * w.toInt + (-17179869184) * r.toInt + 17179869183)) (fun u : Unit => [(h, .inr (6, [.int h_wide, .int h_high, .int h_law, .int h_spin, .int h_line, .int h_draught, .int h_books, .int h_rare, .ref h_quarrels_, .ref h_nameSizes_, .ref h_names_])), (h_quarrels_, .inl (cy 1, 8, .inl h_quarrels)), (h_nameSizes_, .inl (cy 1, 8, .inl h_nameSizes)), (h_names_, .inl (cy 1, 56, .inl h_names))]) := by
  refine MI.enter (by decide) (Nat.le_of_ble_eq_true rfl) ?_
  intro p e s m below meth c ls A hsz hAe C hP hD hS hl
  exact b_o_hasCell l D cy h v w h_wide h_high h_law h_spin h_line h_draught h_books h_rare h_quarrels_ h_nameSizes_ h_names_ h_quarrels h_nameSizes h_names hb0 hb1 hb2 hR0 ⟨Nat.le_of_ble_eq_true rfl, Nat.le_of_ble_eq_true rfl⟩ C rfl _ _ ls hP hD hS hl
set_option maxHeartbeats 4000000 in
set_option maxRecDepth 100000 in
theorem b_o_reading (l : Launch) (D : va_G) (cy : Nat → ClassId) (h : Nat) (v : Int32) (h_wide : Int32) (h_high : Int32) (h_law : Int32) (h_spin : Int32) (h_line : Int32) (h_draught : Int32) (h_books : Int32) (h_rare : Int32) (h_quarrels_ : Nat) (h_nameSizes_ : Nat) (h_names_ : Nat) (h_quarrels : Nat → Int32) (h_nameSizes : Nat → Int32) (h_names : Nat → Int32) (hb0 : 0 ≤ h_wide.toInt ∧ h_wide.toInt ≤ 6) (hb1 : 0 ≤ h_high.toInt ∧ h_high.toInt ≤ 6) (hb2 : 0 ≤ h_books.toInt ∧ h_books.toInt ≤ 8) (hR0 : Rg h_nameSizes 0 8 (-900) 7) {p : Program} {e : Env} {s : State} {m : MethodId} {args : Array Value} {below : List Frame} {meth : Method} {c : Code} {A : Nat → Prop} {Q : State → Prop} {cells slots : Nat} (hroom : cells ≤ ((Rm 0 0 0 0)).cells ∧ slots ≤ ((Rm 0 0 0 0)).slots) (C : Cx p s m args meth c cX6_reading 2 (some .int) RX6 "reading" D cy A) (hQ : Q = MQ below (va_Qi (fun (r : Int32) (u : Unit) => (0 ≤ r.toInt ∧ r.toInt ≤ 2)) (Bx D A (fun u : Unit => [(h, .inr (6, [.int h_wide, .int h_high, .int h_law, .int h_spin, .int h_line, .int h_draught, .int h_books, .int h_rare, .ref h_quarrels_, .ref h_nameSizes_, .ref h_names_])), (h_quarrels_, .inl (cy 1, 8, .inl h_quarrels)), (h_nameSizes_, .inl (cy 1, 8, .inl h_nameSizes)), (h_names_, .inl (cy 1, 56, .inl h_names))])) A) args s ((Rm 0 0 0 0)).cells ((Rm 0 0 0 0)).slots A) (H : Heap) (locs : List Loc) (ls : Array Slot) (hP : va_P D vwCl [(h, .inr (6, [.int h_wide, .int h_high, .int h_law, .int h_spin, .int h_line, .int h_draught, .int h_books, .int h_rare, .ref h_quarrels_, .ref h_nameSizes_, .ref h_names_])), (h_quarrels_, .inl (cy 1, 8, .inl h_quarrels)), (h_nameSizes_, .inl (cy 1, 8, .inl h_nameSizes)), (h_names_, .inl (cy 1, 56, .inl h_names))] H) (hD : va_D A [(h, .inr (6, [.int h_wide, .int h_high, .int h_law, .int h_spin, .int h_line, .int h_draught, .int h_books, .int h_rare, .ref h_quarrels_, .ref h_nameSizes_, .ref h_names_])), (h_quarrels_, .inl (cy 1, 8, .inl h_quarrels)), (h_nameSizes_, .inl (cy 1, 8, .inl h_nameSizes)), (h_names_, .inl (cy 1, 56, .inl h_names))]) (hS : va_S A s.heap H locs) (hl : lv_has ls 2 [(0, .ref h), (1, .int v)]) : W p l e (Rm 0 0 0 0) s m args below meth c H locs cells slots Q (F0 m 0 ls []) := by
  have hx := C.1
  have hb := C.2.1
  have hqv := o_rng v
  refine lv_iload_n hx hb dX6_reading_0 rfl (lv_at hl 1 rfl) ?_
  refine lv_aload_n hx hb dX6_reading_1 rfl (lv_at hl 0 rfl) ?_
  refine q_get (v := .int h_law) C hP 0 2 rfl rfl inX6 (by decide) kF_RX6_18 rfl rfl dX6_reading_2 ?_
  refine lv_icmp_ge (tgt := 10) hx hb dX6_reading_5 (by decide) (fun c_1 => ?_) (fun c_1 => ?_)
  · have hc_1 := o_le (rfl : h_law.toInt = h_law.toInt) (rfl : v.toInt = v.toInt) c_1
    refine lv_iload_n hx hb dX6_reading_10 rfl (lv_at hl 1 rfl) ?_
    refine lv_iconst (v := 2) hx hb dX6_reading_11 (by decide) ?_
    refine lv_aload_n hx hb dX6_reading_12 rfl (lv_at hl 0 rfl) ?_
    refine q_get (v := .int h_law) C hP 0 2 rfl rfl inX6 (by decide) kF_RX6_18 rfl rfl dX6_reading_13 ?_
    refine lv_imul hx hb dX6_reading_16 ?_
    refine lv_topi (fun z_2 hz_2 => ?_)
    clear hz_2
    refine lv_icmp_ge (tgt := 24) hx hb dX6_reading_17 (by decide) (fun c_3 => ?_) (fun c_3 => ?_)
    · have hc_3 := o_le (rfl : z_2.toInt = z_2.toInt) (rfl : v.toInt = v.toInt) c_3
      refine lv_iconst (v := 2) hx hb dX6_reading_24 (by decide) ?_
      refine o_wq hQ ?_
      exact q_iret (rm := (Rm 0 0 0 0)) C hS () rfl (show 0 ≤ (2 : Int32).toInt ∧ (2 : Int32).toInt ≤ 2 by decide) (q_subP hP [0, 1, 2, 3] rfl) (hD.sub [0, 1, 2, 3] (by decide) rfl) hroom.1 hroom.2 dX6_reading_25
    · have hc_3 := o_nle (rfl : z_2.toInt = z_2.toInt) (rfl : v.toInt = v.toInt) c_3
      refine lv_iconst (v := 1) hx hb dX6_reading_20 (by decide) ?_
      refine lv_goto (tgt := 25) hx hb dX6_reading_21 (by decide) ?_
      refine o_wq hQ ?_
      exact q_iret (rm := (Rm 0 0 0 0)) C hS () rfl (show 0 ≤ (1 : Int32).toInt ∧ (1 : Int32).toInt ≤ 2 by decide) (q_subP hP [0, 1, 2, 3] rfl) (hD.sub [0, 1, 2, 3] (by decide) rfl) hroom.1 hroom.2 dX6_reading_25
  · have hc_1 := o_nle (rfl : h_law.toInt = h_law.toInt) (rfl : v.toInt = v.toInt) c_1
    refine lv_iconst (v := 0) hx hb dX6_reading_8 (by decide) ?_
    refine o_wq hQ ?_
    exact q_iret (rm := (Rm 0 0 0 0)) C hS () rfl (show 0 ≤ (0 : Int32).toInt ∧ (0 : Int32).toInt ≤ 2 by decide) (q_subP hP [0, 1, 2, 3] rfl) (hD.sub [0, 1, 2, 3] (by decide) rfl) hroom.1 hroom.2 dX6_reading_9
theorem o_reading (l : Launch) (D : va_G) (cy : Nat → ClassId) (h : Nat) (v : Int32) (h_wide : Int32) (h_high : Int32) (h_law : Int32) (h_spin : Int32) (h_line : Int32) (h_draught : Int32) (h_books : Int32) (h_rare : Int32) (h_quarrels_ : Nat) (h_nameSizes_ : Nat) (h_names_ : Nat) (h_quarrels : Nat → Int32) (h_nameSizes : Nat → Int32) (h_names : Nat → Int32) (sz : Nat) (hb0 : 0 ≤ h_wide.toInt ∧ h_wide.toInt ≤ 6) (hb1 : 0 ≤ h_high.toInt ∧ h_high.toInt ≤ 6) (hb2 : 0 ≤ h_books.toInt ∧ h_books.toInt ≤ 8) (hR0 : Rg h_nameSizes 0 8 (-900) 7) : MI l yX6_reading cX6_reading 2 (some .int) (Rm 0 0 0 0) D cy [.ref h, .int v] sz [(h, .inr (6, [.int h_wide, .int h_high, .int h_law, .int h_spin, .int h_line, .int h_draught, .int h_books, .int h_rare, .ref h_quarrels_, .ref h_nameSizes_, .ref h_names_])), (h_quarrels_, .inl (cy 1, 8, .inl h_quarrels)), (h_nameSizes_, .inl (cy 1, 8, .inl h_nameSizes)), (h_names_, .inl (cy 1, 56, .inl h_names))] (fun (r : Int32) (u : Unit) => (0 ≤ r.toInt ∧ r.toInt ≤ 2)) (fun u : Unit => [(h, .inr (6, [.int h_wide, .int h_high, .int h_law, .int h_spin, .int h_line, .int h_draught, .int h_books, .int h_rare, .ref h_quarrels_, .ref h_nameSizes_, .ref h_names_])), (h_quarrels_, .inl (cy 1, 8, .inl h_quarrels)), (h_nameSizes_, .inl (cy 1, 8, .inl h_nameSizes)), (h_names_, .inl (cy 1, 56, .inl h_names))]) := by
  refine MI.enter (by decide) (Nat.le_of_ble_eq_true rfl) ?_
  intro p e s m below meth c ls A hsz hAe C hP hD hS hl
  exact b_o_reading l D cy h v h_wide h_high h_law h_spin h_line h_draught h_books h_rare h_quarrels_ h_nameSizes_ h_names_ h_quarrels h_nameSizes h_names hb0 hb1 hb2 hR0 ⟨Nat.le_of_ble_eq_true rfl, Nat.le_of_ble_eq_true rfl⟩ C rfl _ _ ls hP hD hS hl
set_option maxHeartbeats 4000000 in
set_option maxRecDepth 100000 in
theorem b_o_seedBehind (l : Launch) (D : va_G) (cy : Nat → ClassId) (v : Int32)  {p : Program} {e : Env} {s : State} {m : MethodId} {args : Array Value} {below : List Frame} {meth : Method} {c : Code} {A : Nat → Prop} {Q : State → Prop} {cells slots : Nat} (hroom : cells ≤ ((Rm 0 0 0 0)).cells ∧ slots ≤ ((Rm 0 0 0 0)).slots) (C : Cx p s m args meth c cX10_seedBehind 1 (some .int) RX10 "seedBehind" D cy A) (hQ : Q = MQ below (va_Qi (fun (r : Int32) (u : Unit) => True) (Bx D A (fun u : Unit => [])) A) args s ((Rm 0 0 0 0)).cells ((Rm 0 0 0 0)).slots A) (H : Heap) (locs : List Loc) (ls : Array Slot) (hP : va_P D vwCl [] H) (hD : va_D A []) (hS : va_S A s.heap H locs) (hl : lv_has ls 1 [(0, .int v)]) : W p l e (Rm 0 0 0 0) s m args below meth c H locs cells slots Q (F0 m 0 ls []) := by
  have hx := C.1
  have hb := C.2.1
  have hqv := o_rng v
  refine lv_iload_n hx hb dX10_seedBehind_0 rfl (lv_at hl 0 rfl) ?_
  refine q_ldc_w (v := 1103515245) C kC_RX10_405 dX10_seedBehind_1 ?_
  refine lv_imul hx hb dX10_seedBehind_4 ?_
  refine lv_topi (fun z_1 hz_1 => ?_)
  clear hz_1
  refine lv_sipush (v := 12345) hx hb dX10_seedBehind_5 (by decide) ?_
  refine lv_iadd hx hb dX10_seedBehind_8 ?_
  refine lv_topi (fun z_2 hz_2 => ?_)
  clear hz_2
  refine o_wq hQ ?_
  exact q_iret (rm := (Rm 0 0 0 0)) C hS () rfl trivial (q_subP hP [] rfl) (hD.sub [] (by decide) rfl) hroom.1 hroom.2 dX10_seedBehind_9
theorem o_seedBehind (l : Launch) (D : va_G) (cy : Nat → ClassId) (v : Int32) (sz : Nat)  : MI l yX10_seedBehind cX10_seedBehind 1 (some .int) (Rm 0 0 0 0) D cy [.int v] sz [] (fun (r : Int32) (u : Unit) => True) (fun u : Unit => []) := by
  refine MI.enter (by decide) (Nat.le_of_ble_eq_true rfl) ?_
  intro p e s m below meth c ls A hsz hAe C hP hD hS hl
  exact b_o_seedBehind l D cy v  ⟨Nat.le_of_ble_eq_true rfl, Nat.le_of_ble_eq_true rfl⟩ C rfl _ _ ls hP hD hS hl
set_option maxHeartbeats 4000000 in
set_option maxRecDepth 100000 in
theorem b_o_drawn12 (l : Launch) (D : va_G) (cy : Nat → ClassId) (v : Int32)  {p : Program} {e : Env} {s : State} {m : MethodId} {args : Array Value} {below : List Frame} {meth : Method} {c : Code} {A : Nat → Prop} {Q : State → Prop} {cells slots : Nat} (hroom : cells ≤ ((Rm 0 0 0 0)).cells ∧ slots ≤ ((Rm 0 0 0 0)).slots) (C : Cx p s m args meth c cX10_drawnOf 2 (some .int) RX10 "drawnOf" D cy A) (hQ : Q = MQ below (va_Qi (fun (r : Int32) (u : Unit) => (0 ≤ r.toInt ∧ r.toInt ≤ 11)) (Bx D A (fun u : Unit => [])) A) args s ((Rm 0 0 0 0)).cells ((Rm 0 0 0 0)).slots A) (H : Heap) (locs : List Loc) (ls : Array Slot) (hP : va_P D vwCl [] H) (hD : va_D A []) (hS : va_S A s.heap H locs) (hl : lv_has ls 2 [(0, .int v), (1, .int 12)]) : W p l e (Rm 0 0 0 0) s m args below meth c H locs cells slots Q (F0 m 0 ls []) := by
  have hx := C.1
  have hb := C.2.1
  have hqv := o_rng v
  refine lv_iload_n hx hb dX10_drawnOf_0 rfl (lv_at hl 1 rfl) ?_
  refine lv_if_le (tgt := 13) hx hb dX10_drawnOf_1 (by decide) (fun c_0 => absurd c_0 (by decide)) (fun _ => ?_)
  refine lv_iload_n hx hb dX10_drawnOf_4 rfl (lv_at hl 0 rfl) ?_
  refine lv_bipush (v := 8) hx hb dX10_drawnOf_5 (by decide) ?_
  obtain ⟨z_1, hz_1⟩ : ∃ z : Int32, z = ((v : Int32).toUInt32 >>> ((8 : Int32).toUInt32 &&& Int32.toUInt32 31)).toInt32 := ⟨_, rfl⟩
  refine lv_iushr (v := z_1) hx hb dX10_drawnOf_7 hz_1.symm ?_
  have hz_1 := o_ushr 8 16777215 hz_1 (by decide) (by decide)
  refine lv_iload_n hx hb dX10_drawnOf_8 rfl (lv_at hl 1 rfl) ?_
  refine lv_irem hx hb dX10_drawnOf_9 (by decide) ?_
  refine lv_topi (fun z_2 hz_2 => ?_)
  have hz_2 := o_rem hz_2 (rfl : z_1.toInt = z_1.toInt) (by decide : (12 : Int32).toInt = 12) (by omega) (by omega)
  refine lv_goto (tgt := 14) hx hb dX10_drawnOf_10 (by decide) ?_
  refine o_wq hQ ?_
  exact q_iret (rm := (Rm 0 0 0 0)) C hS () rfl (show 0 ≤ z_2.toInt ∧ z_2.toInt ≤ 11 by omega) (q_subP hP [] rfl) (hD.sub [] (by decide) rfl) hroom.1 hroom.2 dX10_drawnOf_14
theorem o_drawn12 (l : Launch) (D : va_G) (cy : Nat → ClassId) (v : Int32) (sz : Nat)  : MI l yX10_drawnOf cX10_drawnOf 2 (some .int) (Rm 0 0 0 0) D cy [.int v, .int 12] sz [] (fun (r : Int32) (u : Unit) => (0 ≤ r.toInt ∧ r.toInt ≤ 11)) (fun u : Unit => []) := by
  refine MI.enter (by decide) (Nat.le_of_ble_eq_true rfl) ?_
  intro p e s m below meth c ls A hsz hAe C hP hD hS hl
  exact b_o_drawn12 l D cy v  ⟨Nat.le_of_ble_eq_true rfl, Nat.le_of_ble_eq_true rfl⟩ C rfl _ _ ls hP hD hS hl
set_option maxHeartbeats 4000000 in
set_option maxRecDepth 100000 in
theorem b_o_drawnOf (l : Launch) (D : va_G) (cy : Nat → ClassId) (v : Int32) (n : Int32) (hb0 : n.toInt ≤ 8) {p : Program} {e : Env} {s : State} {m : MethodId} {args : Array Value} {below : List Frame} {meth : Method} {c : Code} {A : Nat → Prop} {Q : State → Prop} {cells slots : Nat} (hroom : cells ≤ ((Rm 0 0 0 0)).cells ∧ slots ≤ ((Rm 0 0 0 0)).slots) (C : Cx p s m args meth c cX10_drawnOf 2 (some .int) RX10 "drawnOf" D cy A) (hQ : Q = MQ below (va_Qi (fun (r : Int32) (u : Unit) => (0 ≤ r.toInt ∧ r.toInt ≤ 7)) (Bx D A (fun u : Unit => [])) A) args s ((Rm 0 0 0 0)).cells ((Rm 0 0 0 0)).slots A) (H : Heap) (locs : List Loc) (ls : Array Slot) (hP : va_P D vwCl [] H) (hD : va_D A []) (hS : va_S A s.heap H locs) (hl : lv_has ls 2 [(0, .int v), (1, .int n)]) : W p l e (Rm 0 0 0 0) s m args below meth c H locs cells slots Q (F0 m 0 ls []) := by
  have hx := C.1
  have hb := C.2.1
  have hqv := o_rng v
  refine lv_iload_n hx hb dX10_drawnOf_0 rfl (lv_at hl 1 rfl) ?_
  refine lv_if_le (tgt := 13) hx hb dX10_drawnOf_1 (by decide) (fun c_1 => ?_) (fun c_1 => ?_)
  · have hc_1 := o_le (rfl : n.toInt = n.toInt) (by decide : (0 : Int32).toInt = 0) c_1
    refine lv_iconst (v := 0) hx hb dX10_drawnOf_13 (by decide) ?_
    refine o_wq hQ ?_
    exact q_iret (rm := (Rm 0 0 0 0)) C hS () rfl (show 0 ≤ (0 : Int32).toInt ∧ (0 : Int32).toInt ≤ 7 by decide) (q_subP hP [] rfl) (hD.sub [] (by decide) rfl) hroom.1 hroom.2 dX10_drawnOf_14
  · have hc_1 := o_nle (rfl : n.toInt = n.toInt) (by decide : (0 : Int32).toInt = 0) c_1
    refine lv_iload_n hx hb dX10_drawnOf_4 rfl (lv_at hl 0 rfl) ?_
    refine lv_bipush (v := 8) hx hb dX10_drawnOf_5 (by decide) ?_
    obtain ⟨z_2, hz_2⟩ : ∃ z : Int32, z = ((v : Int32).toUInt32 >>> ((8 : Int32).toUInt32 &&& Int32.toUInt32 31)).toInt32 := ⟨_, rfl⟩
    refine lv_iushr (v := z_2) hx hb dX10_drawnOf_7 hz_2.symm ?_
    have hz_2 := o_ushr 8 16777215 hz_2 (by decide) (by decide)
    refine lv_iload_n hx hb dX10_drawnOf_8 rfl (lv_at hl 1 rfl) ?_
    refine lv_irem hx hb dX10_drawnOf_9 (o_mne (b := 0) (rfl : n.toInt = n.toInt) (by decide) (by omega)) ?_
    refine lv_topi (fun z_3 hz_3 => ?_)
    have hz_3 := o_rem hz_3 (rfl : z_2.toInt = z_2.toInt) (rfl : n.toInt = n.toInt) (by omega) (by omega)
    refine lv_goto (tgt := 14) hx hb dX10_drawnOf_10 (by decide) ?_
    refine o_wq hQ ?_
    exact q_iret (rm := (Rm 0 0 0 0)) C hS () rfl (show 0 ≤ z_3.toInt ∧ z_3.toInt ≤ 7 by omega) (q_subP hP [] rfl) (hD.sub [] (by decide) rfl) hroom.1 hroom.2 dX10_drawnOf_14
theorem o_drawnOf (l : Launch) (D : va_G) (cy : Nat → ClassId) (v : Int32) (n : Int32) (sz : Nat) (hb0 : n.toInt ≤ 8) : MI l yX10_drawnOf cX10_drawnOf 2 (some .int) (Rm 0 0 0 0) D cy [.int v, .int n] sz [] (fun (r : Int32) (u : Unit) => (0 ≤ r.toInt ∧ r.toInt ≤ 7)) (fun u : Unit => []) := by
  refine MI.enter (by decide) (Nat.le_of_ble_eq_true rfl) ?_
  intro p e s m below meth c ls A hsz hAe C hP hD hS hl
  exact b_o_drawnOf l D cy v n hb0 ⟨Nat.le_of_ble_eq_true rfl, Nat.le_of_ble_eq_true rfl⟩ C rfl _ _ ls hP hD hS hl
set_option maxHeartbeats 4000000 in
set_option maxRecDepth 100000 in
theorem b_o_isBetween (l : Launch) (D : va_G) (cy : Nat → ClassId) (v1 : Int32) (v2 : Int32) (v3 : Int32)  {p : Program} {e : Env} {s : State} {m : MethodId} {args : Array Value} {below : List Frame} {meth : Method} {c : Code} {A : Nat → Prop} {Q : State → Prop} {cells slots : Nat} (hroom : cells ≤ ((Rm 0 0 0 0)).cells ∧ slots ≤ ((Rm 0 0 0 0)).slots) (C : Cx p s m args meth c cX10_isBetween 3 (some .boolean) RX10 "isBetween" D cy A) (hQ : Q = MQ below (va_Qi (fun (r : Int32) (u : Unit) => (0 ≤ r.toInt ∧ r.toInt ≤ 1)) (Bx D A (fun u : Unit => [])) A) args s ((Rm 0 0 0 0)).cells ((Rm 0 0 0 0)).slots A) (H : Heap) (locs : List Loc) (ls : Array Slot) (hP : va_P D vwCl [] H) (hD : va_D A []) (hS : va_S A s.heap H locs) (hl : lv_has ls 3 [(0, .int v1), (1, .int v2), (2, .int v3)]) : W p l e (Rm 0 0 0 0) s m args below meth c H locs cells slots Q (F0 m 0 ls []) := by
  have hx := C.1
  have hb := C.2.1
  have hqv1 := o_rng v1
  have hqv2 := o_rng v2
  have hqv3 := o_rng v3
  refine lv_iload_n hx hb dX10_isBetween_0 rfl (lv_at hl 1 rfl) ?_
  refine lv_iload_n hx hb dX10_isBetween_1 rfl (lv_at hl 0 rfl) ?_
  have cut_10_0 : ∀  (H : Heap) (locs : List Loc) (ls : Array Slot), va_P D vwCl [] H → va_D A [] → va_S A s.heap H locs → lv_has ls 3 [(0, .int v1), (1, .int v2), (2, .int v3)] → W p l e (Rm 0 0 0 0) s m args below meth c H locs cells slots Q (F0 m 10 ls []) := by
    intro  H locs ls  hP hD hS hl
    refine lv_iload_n hx hb dX10_isBetween_10 rfl (lv_at hl 2 rfl) ?_
    refine lv_iload_n hx hb dX10_isBetween_11 rfl (lv_at hl 0 rfl) ?_
    refine lv_icmp_ge (tgt := 24) hx hb dX10_isBetween_12 (by decide) (fun c_2 => ?_) (fun c_2 => ?_)
    · have hc_2 := o_le (rfl : v1.toInt = v1.toInt) (rfl : v3.toInt = v3.toInt) c_2
      refine lv_iconst (v := 0) hx hb dX10_isBetween_24 (by decide) ?_
      refine o_wq hQ ?_
      exact q_iret (rm := (Rm 0 0 0 0)) C hS () rfl (show 0 ≤ (0 : Int32).toInt ∧ (0 : Int32).toInt ≤ 1 by decide) (q_subP hP [] rfl) (hD.sub [] (by decide) rfl) hroom.1 hroom.2 dX10_isBetween_25
    · have hc_2 := o_nle (rfl : v1.toInt = v1.toInt) (rfl : v3.toInt = v3.toInt) c_2
      refine lv_iload_n hx hb dX10_isBetween_15 rfl (lv_at hl 0 rfl) ?_
      refine lv_iload_n hx hb dX10_isBetween_16 rfl (lv_at hl 1 rfl) ?_
      refine lv_icmp_ge (tgt := 24) hx hb dX10_isBetween_17 (by decide) (fun c_3 => ?_) (fun c_3 => ?_)
      · have hc_3 := o_le (rfl : v2.toInt = v2.toInt) (rfl : v1.toInt = v1.toInt) c_3
        refine lv_iconst (v := 0) hx hb dX10_isBetween_24 (by decide) ?_
        refine o_wq hQ ?_
        exact q_iret (rm := (Rm 0 0 0 0)) C hS () rfl (show 0 ≤ (0 : Int32).toInt ∧ (0 : Int32).toInt ≤ 1 by decide) (q_subP hP [] rfl) (hD.sub [] (by decide) rfl) hroom.1 hroom.2 dX10_isBetween_25
      · have hc_3 := o_nle (rfl : v2.toInt = v2.toInt) (rfl : v1.toInt = v1.toInt) c_3
        refine lv_iconst (v := 1) hx hb dX10_isBetween_20 (by decide) ?_
        refine lv_goto (tgt := 25) hx hb dX10_isBetween_21 (by decide) ?_
        refine o_wq hQ ?_
        exact q_iret (rm := (Rm 0 0 0 0)) C hS () rfl (show 0 ≤ (1 : Int32).toInt ∧ (1 : Int32).toInt ≤ 1 by decide) (q_subP hP [] rfl) (hD.sub [] (by decide) rfl) hroom.1 hroom.2 dX10_isBetween_25
  refine lv_icmp_ge (tgt := 10) hx hb dX10_isBetween_2 (by decide) (fun c_4 => ?_) (fun c_4 => ?_)
  · have hc_4 := o_le (rfl : v1.toInt = v1.toInt) (rfl : v2.toInt = v2.toInt) c_4
    exact cut_10_0  H locs ls   hP hD hS (lv_sub hl [0, 1, 2] rfl)
  · have hc_4 := o_nle (rfl : v1.toInt = v1.toInt) (rfl : v2.toInt = v2.toInt) c_4
    refine lv_iload_n hx hb dX10_isBetween_5 rfl (lv_at hl 0 rfl) ?_
    refine lv_iload_n hx hb dX10_isBetween_6 rfl (lv_at hl 2 rfl) ?_
    refine lv_icmp_lt (tgt := 20) hx hb dX10_isBetween_7 (by decide) (fun c_5 => ?_) (fun c_5 => ?_)
    · have hc_5 := o_lt (rfl : v1.toInt = v1.toInt) (rfl : v3.toInt = v3.toInt) c_5
      refine lv_iconst (v := 1) hx hb dX10_isBetween_20 (by decide) ?_
      refine lv_goto (tgt := 25) hx hb dX10_isBetween_21 (by decide) ?_
      refine o_wq hQ ?_
      exact q_iret (rm := (Rm 0 0 0 0)) C hS () rfl (show 0 ≤ (1 : Int32).toInt ∧ (1 : Int32).toInt ≤ 1 by decide) (q_subP hP [] rfl) (hD.sub [] (by decide) rfl) hroom.1 hroom.2 dX10_isBetween_25
    · have hc_5 := o_nlt (rfl : v1.toInt = v1.toInt) (rfl : v3.toInt = v3.toInt) c_5
      exact cut_10_0  H locs ls   hP hD hS (lv_sub hl [0, 1, 2] rfl)
theorem o_isBetween (l : Launch) (D : va_G) (cy : Nat → ClassId) (v1 : Int32) (v2 : Int32) (v3 : Int32) (sz : Nat)  : MI l yX10_isBetween cX10_isBetween 3 (some .boolean) (Rm 0 0 0 0) D cy [.int v1, .int v2, .int v3] sz [] (fun (r : Int32) (u : Unit) => (0 ≤ r.toInt ∧ r.toInt ≤ 1)) (fun u : Unit => []) := by
  refine MI.enter (by decide) (Nat.le_of_ble_eq_true rfl) ?_
  intro p e s m below meth c ls A hsz hAe C hP hD hS hl
  exact b_o_isBetween l D cy v1 v2 v3  ⟨Nat.le_of_ble_eq_true rfl, Nat.le_of_ble_eq_true rfl⟩ C rfl _ _ ls hP hD hS hl
set_option maxHeartbeats 4000000 in
set_option maxRecDepth 100000 in
theorem b_o_pairPlace (l : Launch) (D : va_G) (cy : Nat → ClassId) (v1 : Int32) (v2 : Int32) (hb0 : 0 ≤ v1.toInt ∧ v1.toInt ≤ 7) (hb1 : 0 ≤ v2.toInt ∧ v2.toInt ≤ 7) {p : Program} {e : Env} {s : State} {m : MethodId} {args : Array Value} {below : List Frame} {meth : Method} {c : Code} {A : Nat → Prop} {Q : State → Prop} {cells slots : Nat} (hroom : cells ≤ ((Rm 0 0 0 0)).cells ∧ slots ≤ ((Rm 0 0 0 0)).slots) (C : Cx p s m args meth c cX10_pairPlace 2 (some .int) RX10 "pairPlace" D cy A) (hQ : Q = MQ below (va_Qi (fun (r : Int32) (u : Unit) => (0 ≤ r.toInt ∧ r.toInt ≤ 63)) (Bx D A (fun u : Unit => [])) A) args s ((Rm 0 0 0 0)).cells ((Rm 0 0 0 0)).slots A) (H : Heap) (locs : List Loc) (ls : Array Slot) (hP : va_P D vwCl [] H) (hD : va_D A []) (hS : va_S A s.heap H locs) (hl : lv_has ls 2 [(0, .int v1), (1, .int v2)]) : W p l e (Rm 0 0 0 0) s m args below meth c H locs cells slots Q (F0 m 0 ls []) := by
  have hx := C.1
  have hb := C.2.1
  refine lv_iload_n hx hb dX10_pairPlace_0 rfl (lv_at hl 0 rfl) ?_
  refine lv_bipush (v := 8) hx hb dX10_pairPlace_1 (by decide) ?_
  refine lv_imul hx hb dX10_pairPlace_3 ?_
  refine lv_topi (fun z_1 hz_1 => ?_)
  have hz_1 := o_mul hz_1 (rfl : v1.toInt = v1.toInt) (by decide : (8 : Int32).toInt = 8) (by omega) (by omega)
  refine lv_iload_n hx hb dX10_pairPlace_4 rfl (lv_at hl 1 rfl) ?_
  refine lv_iadd hx hb dX10_pairPlace_5 ?_
  refine lv_topi (fun z_2 hz_2 => ?_)
  have hz_2 := o_add hz_2 (rfl : z_1.toInt = z_1.toInt) (rfl : v2.toInt = v2.toInt) (by omega) (by omega)
  refine o_wq hQ ?_
  exact q_iret (rm := (Rm 0 0 0 0)) C hS () rfl (show 0 ≤ z_2.toInt ∧ z_2.toInt ≤ 63 by omega) (q_subP hP [] rfl) (hD.sub [] (by decide) rfl) hroom.1 hroom.2 dX10_pairPlace_6
theorem o_pairPlace (l : Launch) (D : va_G) (cy : Nat → ClassId) (v1 : Int32) (v2 : Int32) (sz : Nat) (hb0 : 0 ≤ v1.toInt ∧ v1.toInt ≤ 7) (hb1 : 0 ≤ v2.toInt ∧ v2.toInt ≤ 7) : MI l yX10_pairPlace cX10_pairPlace 2 (some .int) (Rm 0 0 0 0) D cy [.int v1, .int v2] sz [] (fun (r : Int32) (u : Unit) => (0 ≤ r.toInt ∧ r.toInt ≤ 63)) (fun u : Unit => []) := by
  refine MI.enter (by decide) (Nat.le_of_ble_eq_true rfl) ?_
  intro p e s m below meth c ls A hsz hAe C hP hD hS hl
  exact b_o_pairPlace l D cy v1 v2 hb0 hb1 ⟨Nat.le_of_ble_eq_true rfl, Nat.le_of_ble_eq_true rfl⟩ C rfl _ _ ls hP hD hS hl
set_option maxHeartbeats 4000000 in
set_option maxRecDepth 100000 in
theorem b_o_bookOf (l : Launch) (D : va_G) (cy : Nat → ClassId) (v1 : Int32) (v2 : Int32)  {p : Program} {e : Env} {s : State} {m : MethodId} {args : Array Value} {below : List Frame} {meth : Method} {c : Code} {A : Nat → Prop} {Q : State → Prop} {cells slots : Nat} (hroom : cells ≤ ((Rm 1 21 0 0)).cells ∧ slots ≤ ((Rm 1 21 0 0)).slots) (C : Cx p s m args meth c cX10_bookOf 4 (some .int) RX10 "bookOf" D cy A) (hQ : Q = MQ below (va_Qi (fun (r : Int32) (u : Unit) => ((-1) ≤ r.toInt ∧ r.toInt ≤ 7)) (Bx D A (fun u : Unit => [])) A) args s ((Rm 1 21 0 0)).cells ((Rm 1 21 0 0)).slots A) (H : Heap) (locs : List Loc) (ls : Array Slot) (hP : va_P D vwCl [] H) (hD : va_D A []) (hS : va_S A s.heap H locs) (hl : lv_has ls 4 [(0, .int v1), (1, .int v2)]) : W p l e (Rm 1 21 0 0) s m args below meth c H locs cells slots Q (F0 m 0 ls []) := by
  have hx := C.1
  have hb := C.2.1
  have hqv1 := o_rng v1
  have hqv2 := o_rng v2
  refine lv_iconst (v := 0) hx hb dX10_bookOf_0 (by decide) ?_
  refine lv_istore_n (lv' := [(2, .int 0), (0, .int v1), (1, .int v2)]) hx hb dX10_bookOf_1 rfl hl (by decide) rfl (fun ls hl => ?_)
  refine lv_iconst (v := 0) hx hb dX10_bookOf_2 (by decide) ?_
  refine lv_istore_n (lv' := [(3, .int 0), (2, .int 0), (0, .int v1), (1, .int v2)]) hx hb dX10_bookOf_3 rfl hl (by decide) rfl (fun ls hl => ?_)
  have lp_4_2 : ∀ (n_3 : Nat) (x_1 : Int32) (x_2 : Int32) (H : Heap) (locs : List Loc) (ls : Array Slot), (-1) * x_2.toInt + 8 < (n_3 : Int) → (0 ≤ x_2.toInt ∧ x_2.toInt ≤ 8) → va_P D vwCl [] H → va_D A [] → va_S A s.heap H locs → lv_has ls 4 [(0, .int v1), (1, .int v2), (2, .int x_1), (3, .int x_2)] → W p l e (Rm 1 21 0 0) s m args below meth c H locs cells slots Q (F0 m 4 ls []) := by
    intro n_3
    induction n_3 with
    | zero =>
      intro x_1 x_2 H locs ls hm_5 hf_4 hP hD hS hl
      exact absurd hm_5 (by omega)
    | succ n_3 ih_6 =>
      intro x_1 x_2 H locs ls hm_5 hf_4 hP hD hS hl
      refine lv_iload_n hx hb dX10_bookOf_4 rfl (lv_at hl 3 rfl) ?_
      refine lv_bipush (v := 8) hx hb dX10_bookOf_5 (by decide) ?_
      refine lv_icmp_ge (tgt := 35) hx hb dX10_bookOf_7 (by decide) (fun c_8 => ?_) (fun c_8 => ?_)
      · have hc_8 := o_le (by decide : (8 : Int32).toInt = 8) (rfl : x_2.toInt = x_2.toInt) c_8
        refine lv_iconst (v := (-1)) hx hb dX10_bookOf_35 (by decide) ?_
        refine o_wq hQ ?_
        exact q_iret (rm := (Rm 1 21 0 0)) C hS () rfl (show (-1) ≤ ((-1) : Int32).toInt ∧ ((-1) : Int32).toInt ≤ 7 by decide) (q_subP hP [] rfl) (hD.sub [] (by decide) rfl) hroom.1 hroom.2 dX10_bookOf_36
      · have hc_8 := o_nle (by decide : (8 : Int32).toInt = 8) (rfl : x_2.toInt = x_2.toInt) c_8
        refine lv_iload_n hx hb dX10_bookOf_10 rfl (lv_at hl 0 rfl) ?_
        refine lv_iload_n hx hb dX10_bookOf_11 rfl (lv_at hl 3 rfl) ?_
        refine q_ai (wr := []) (r_S (rm := (Rm 0 0 0 0)) (As := [.int v1, .int x_2]) (rest := []) (wc := []) C hS (q_subP hP [] rfl) (hD.sub [] (by decide) rfl) (o_bitOf l D cy v1 x_2 _ ) kwS_X10_bitOf kM_RX10_192 ⟨Nat.le_of_ble_eq_true rfl, Nat.le_of_ble_eq_true rfl⟩ rfl hl.1 rfl (Nat.le_of_ble_eq_true rfl) dX10_bookOf_12 ⟨hroom.1, hroom.2⟩) C.2.2.2.2.2.2.1 hP hD hS [] [] rfl rfl (by decide) (by decide) (fun r_10 u_9 H locs hw_11 hP hD hS => ?_)
        have hp_11 : 0 ≤ r_10.toInt ∧ r_10.toInt ≤ 1 := hw_11.1
        have hp_12 : Hd ((r_10.toInt = 1 ∧ bt v1 x_2 = 1) ∨ (r_10.toInt = 0 ∧ bt v1 x_2 ≠ 1)) := hw_11.2
        refine lv_iconst (v := 1) hx hb dX10_bookOf_15 (by decide) ?_
        refine lv_icmp_ne (tgt := 29) hx hb dX10_bookOf_16 (by decide) (fun c_14 => ?_) (fun c_14 => ?_)
        · have hc_14 := o_ne (rfl : r_10.toInt = r_10.toInt) (by decide : (1 : Int32).toInt = 1) c_14
          have hnc_14 : 0 ≤ (-1) * r_10.toInt := by rcases Int.lt_or_gt_of_ne hc_14 with h9 | h9 <;> omega
          have hd_14 : Hd (r_10.toInt = 0 ∧ bt v1 x_2 ≠ 1) := (Hd.un hp_12).resolve_left (fun z9 => by omega)
          have hd_14_0 : r_10.toInt = 0 := (Hd.un hd_14).1
          obtain ⟨z_16, hz_16⟩ : ∃ z : Int32, z = x_2 + 1 := ⟨_, rfl⟩
          refine lv_iinc (v := z_16) (lv' := [(3, .int z_16), (0, .int v1), (1, .int v2), (2, .int x_1)]) hx hb dX10_bookOf_29 hl (k := 3) rfl hz_16.symm (by decide) rfl (fun ls hl => ?_)
          have hz_16 := o_add hz_16 (rfl : x_2.toInt = x_2.toInt) (by decide : (1 : Int32).toInt = 1) (by omega) (by omega)
          refine lv_goto (tgt := 4) hx hb dX10_bookOf_32 (by decide) ?_
          exact ih_6 x_1 z_16 H locs ls (by omega) (by omega) hP hD hS (lv_sub hl [1, 2, 3, 0] rfl)
        · have hc_14 := o_eq (rfl : r_10.toInt = r_10.toInt) (by decide : (1 : Int32).toInt = 1) c_14
          have hd_16 : Hd (r_10.toInt = 1 ∧ bt v1 x_2 = 1) := (Hd.un hp_12).resolve_right (fun z9 => by omega)
          have hd_16_0 : r_10.toInt = 1 := (Hd.un hd_16).1
          refine lv_iload_n hx hb dX10_bookOf_19 rfl (lv_at hl 2 rfl) ?_
          refine lv_iload_n hx hb dX10_bookOf_20 rfl (lv_at hl 1 rfl) ?_
          refine lv_icmp_ne (tgt := 26) hx hb dX10_bookOf_21 (by decide) (fun c_18 => ?_) (fun c_18 => ?_)
          · have hc_18 := o_ne (rfl : x_1.toInt = x_1.toInt) (rfl : v2.toInt = v2.toInt) c_18
            obtain ⟨z_19, hz_19⟩ : ∃ z : Int32, z = x_1 + 1 := ⟨_, rfl⟩
            refine lv_iinc (v := z_19) (lv' := [(2, .int z_19), (0, .int v1), (1, .int v2), (3, .int x_2)]) hx hb dX10_bookOf_26 hl (k := 2) rfl hz_19.symm (by decide) rfl (fun ls hl => ?_)
            obtain ⟨z_20, hz_20⟩ : ∃ z : Int32, z = x_2 + 1 := ⟨_, rfl⟩
            refine lv_iinc (v := z_20) (lv' := [(3, .int z_20), (2, .int z_19), (0, .int v1), (1, .int v2)]) hx hb dX10_bookOf_29 hl (k := 3) rfl hz_20.symm (by decide) rfl (fun ls hl => ?_)
            have hz_20 := o_add hz_20 (rfl : x_2.toInt = x_2.toInt) (by decide : (1 : Int32).toInt = 1) (by omega) (by omega)
            refine lv_goto (tgt := 4) hx hb dX10_bookOf_32 (by decide) ?_
            exact ih_6 z_19 z_20 H locs ls (by omega) (by omega) hP hD hS (lv_sub hl [2, 3, 1, 0] rfl)
          · have hc_18 := o_eq (rfl : x_1.toInt = x_1.toInt) (rfl : v2.toInt = v2.toInt) c_18
            refine lv_iload_n hx hb dX10_bookOf_24 rfl (lv_at hl 3 rfl) ?_
            refine o_wq hQ ?_
            exact q_iret (rm := (Rm 1 21 0 0)) C hS () rfl (show (-1) ≤ x_2.toInt ∧ x_2.toInt ≤ 7 by omega) (q_subP hP [] rfl) (hD.sub [] (by decide) rfl) hroom.1 hroom.2 dX10_bookOf_25
  exact lp_4_2 9 (0 : Int32) (0 : Int32) H locs ls (by have e0 : (0 : Int32).toInt = 0 := (by decide); omega) (by have e0 : (0 : Int32).toInt = 0 := (by decide); omega) hP hD hS (lv_sub hl [2, 3, 1, 0] rfl)
theorem o_bookOf (l : Launch) (D : va_G) (cy : Nat → ClassId) (v1 : Int32) (v2 : Int32) (sz : Nat)  : MI l yX10_bookOf cX10_bookOf 4 (some .int) (Rm 1 21 0 0) D cy [.int v1, .int v2] sz [] (fun (r : Int32) (u : Unit) => ((-1) ≤ r.toInt ∧ r.toInt ≤ 7)) (fun u : Unit => []) := by
  refine MI.enter (by decide) (Nat.le_of_ble_eq_true rfl) ?_
  intro p e s m below meth c ls A hsz hAe C hP hD hS hl
  exact b_o_bookOf l D cy v1 v2  ⟨Nat.le_of_ble_eq_true rfl, Nat.le_of_ble_eq_true rfl⟩ C rfl _ _ ls hP hD hS hl
set_option maxHeartbeats 4000000 in
set_option maxRecDepth 100000 in
theorem b_o_isBlank (l : Launch) (D : va_G) (cy : Nat → ClassId) (v : Int32)  {p : Program} {e : Env} {s : State} {m : MethodId} {args : Array Value} {below : List Frame} {meth : Method} {c : Code} {A : Nat → Prop} {Q : State → Prop} {cells slots : Nat} (hroom : cells ≤ ((Rm 0 0 0 0)).cells ∧ slots ≤ ((Rm 0 0 0 0)).slots) (C : Cx p s m args meth c cX9_isBlank 1 (some .boolean) RX9 "isBlank" D cy A) (hQ : Q = MQ below (va_Qi (fun (r : Int32) (u : Unit) => (0 ≤ r.toInt ∧ r.toInt ≤ 1) ∧ ((r.toInt = 1 ∧ (v.toInt = 32 ∨ v.toInt = 10)) ∨ (r.toInt = 0 ∧ ¬ (v.toInt = 32 ∨ v.toInt = 10)))) (Bx D A (fun u : Unit => [])) A) args s ((Rm 0 0 0 0)).cells ((Rm 0 0 0 0)).slots A) (H : Heap) (locs : List Loc) (ls : Array Slot) (hP : va_P D vwCl [] H) (hD : va_D A []) (hS : va_S A s.heap H locs) (hl : lv_has ls 1 [(0, .int v)]) : W p l e (Rm 0 0 0 0) s m args below meth c H locs cells slots Q (F0 m 0 ls []) := by
  have hx := C.1
  have hb := C.2.1
  have hqv := o_rng v
  refine lv_iload_n hx hb dX9_isBlank_0 rfl (lv_at hl 0 rfl) ?_
  refine lv_bipush (v := 32) hx hb dX9_isBlank_1 (by decide) ?_
  refine lv_icmp_eq (tgt := 12) hx hb dX9_isBlank_3 (by decide) (fun c_1 => ?_) (fun c_1 => ?_)
  · have hc_1 := o_eq (rfl : v.toInt = v.toInt) (by decide : (32 : Int32).toInt = 32) c_1
    refine lv_iconst (v := 1) hx hb dX9_isBlank_12 (by decide) ?_
    refine lv_goto (tgt := 17) hx hb dX9_isBlank_13 (by decide) ?_
    refine o_wq hQ ?_
    exact q_iret (rm := (Rm 0 0 0 0)) C hS () rfl ⟨(show 0 ≤ (1 : Int32).toInt ∧ (1 : Int32).toInt ≤ 1 by decide), (show ((1 : Int32).toInt = 1 ∧ (v.toInt = 32 ∨ v.toInt = 10)) ∨ ((1 : Int32).toInt = 0 ∧ ¬ (v.toInt = 32 ∨ v.toInt = 10)) from (by have e0 : (0 : Int32).toInt = 0 := (by decide); have e1 : (1 : Int32).toInt = 1 := (by decide); omega))⟩ (q_subP hP [] rfl) (hD.sub [] (by decide) rfl) hroom.1 hroom.2 dX9_isBlank_17
  · have hc_1 := o_ne (rfl : v.toInt = v.toInt) (by decide : (32 : Int32).toInt = 32) c_1
    refine lv_iload_n hx hb dX9_isBlank_6 rfl (lv_at hl 0 rfl) ?_
    refine lv_bipush (v := 10) hx hb dX9_isBlank_7 (by decide) ?_
    refine lv_icmp_ne (tgt := 16) hx hb dX9_isBlank_9 (by decide) (fun c_2 => ?_) (fun c_2 => ?_)
    · have hc_2 := o_ne (rfl : v.toInt = v.toInt) (by decide : (10 : Int32).toInt = 10) c_2
      refine lv_iconst (v := 0) hx hb dX9_isBlank_16 (by decide) ?_
      refine o_wq hQ ?_
      exact q_iret (rm := (Rm 0 0 0 0)) C hS () rfl ⟨(show 0 ≤ (0 : Int32).toInt ∧ (0 : Int32).toInt ≤ 1 by decide), (show ((0 : Int32).toInt = 1 ∧ (v.toInt = 32 ∨ v.toInt = 10)) ∨ ((0 : Int32).toInt = 0 ∧ ¬ (v.toInt = 32 ∨ v.toInt = 10)) from (by have e0 : (0 : Int32).toInt = 0 := (by decide); have e1 : (1 : Int32).toInt = 1 := (by decide); omega))⟩ (q_subP hP [] rfl) (hD.sub [] (by decide) rfl) hroom.1 hroom.2 dX9_isBlank_17
    · have hc_2 := o_eq (rfl : v.toInt = v.toInt) (by decide : (10 : Int32).toInt = 10) c_2
      refine lv_iconst (v := 1) hx hb dX9_isBlank_12 (by decide) ?_
      refine lv_goto (tgt := 17) hx hb dX9_isBlank_13 (by decide) ?_
      refine o_wq hQ ?_
      exact q_iret (rm := (Rm 0 0 0 0)) C hS () rfl ⟨(show 0 ≤ (1 : Int32).toInt ∧ (1 : Int32).toInt ≤ 1 by decide), (show ((1 : Int32).toInt = 1 ∧ (v.toInt = 32 ∨ v.toInt = 10)) ∨ ((1 : Int32).toInt = 0 ∧ ¬ (v.toInt = 32 ∨ v.toInt = 10)) from (by have e0 : (0 : Int32).toInt = 0 := (by decide); have e1 : (1 : Int32).toInt = 1 := (by decide); omega))⟩ (q_subP hP [] rfl) (hD.sub [] (by decide) rfl) hroom.1 hroom.2 dX9_isBlank_17
theorem o_isBlank (l : Launch) (D : va_G) (cy : Nat → ClassId) (v : Int32) (sz : Nat)  : MI l yX9_isBlank cX9_isBlank 1 (some .boolean) (Rm 0 0 0 0) D cy [.int v] sz [] (fun (r : Int32) (u : Unit) => (0 ≤ r.toInt ∧ r.toInt ≤ 1) ∧ ((r.toInt = 1 ∧ (v.toInt = 32 ∨ v.toInt = 10)) ∨ (r.toInt = 0 ∧ ¬ (v.toInt = 32 ∨ v.toInt = 10)))) (fun u : Unit => []) := by
  refine MI.enter (by decide) (Nat.le_of_ble_eq_true rfl) ?_
  intro p e s m below meth c ls A hsz hAe C hP hD hS hl
  exact b_o_isBlank l D cy v  ⟨Nat.le_of_ble_eq_true rfl, Nat.le_of_ble_eq_true rfl⟩ C rfl _ _ ls hP hD hS hl
set_option maxHeartbeats 4000000 in
set_option maxRecDepth 100000 in
theorem b_o_isLetter (l : Launch) (D : va_G) (cy : Nat → ClassId) (v : Int32)  {p : Program} {e : Env} {s : State} {m : MethodId} {args : Array Value} {below : List Frame} {meth : Method} {c : Code} {A : Nat → Prop} {Q : State → Prop} {cells slots : Nat} (hroom : cells ≤ ((Rm 0 0 0 0)).cells ∧ slots ≤ ((Rm 0 0 0 0)).slots) (C : Cx p s m args meth c cX9_isLetter 1 (some .boolean) RX9 "isLetter" D cy A) (hQ : Q = MQ below (va_Qi (fun (r : Int32) (u : Unit) => (0 ≤ r.toInt ∧ r.toInt ≤ 1) ∧ ((r.toInt = 1 ∧ (97 ≤ v.toInt ∧ v.toInt ≤ 122)) ∨ (r.toInt = 0 ∧ ¬ (97 ≤ v.toInt ∧ v.toInt ≤ 122)))) (Bx D A (fun u : Unit => [])) A) args s ((Rm 0 0 0 0)).cells ((Rm 0 0 0 0)).slots A) (H : Heap) (locs : List Loc) (ls : Array Slot) (hP : va_P D vwCl [] H) (hD : va_D A []) (hS : va_S A s.heap H locs) (hl : lv_has ls 1 [(0, .int v)]) : W p l e (Rm 0 0 0 0) s m args below meth c H locs cells slots Q (F0 m 0 ls []) := by
  have hx := C.1
  have hb := C.2.1
  have hqv := o_rng v
  refine lv_iload_n hx hb dX9_isLetter_0 rfl (lv_at hl 0 rfl) ?_
  refine lv_bipush (v := 97) hx hb dX9_isLetter_1 (by decide) ?_
  refine lv_icmp_lt (tgt := 16) hx hb dX9_isLetter_3 (by decide) (fun c_1 => ?_) (fun c_1 => ?_)
  · have hc_1 := o_lt (rfl : v.toInt = v.toInt) (by decide : (97 : Int32).toInt = 97) c_1
    refine lv_iconst (v := 0) hx hb dX9_isLetter_16 (by decide) ?_
    refine o_wq hQ ?_
    exact q_iret (rm := (Rm 0 0 0 0)) C hS () rfl ⟨(show 0 ≤ (0 : Int32).toInt ∧ (0 : Int32).toInt ≤ 1 by decide), (show ((0 : Int32).toInt = 1 ∧ (97 ≤ v.toInt ∧ v.toInt ≤ 122)) ∨ ((0 : Int32).toInt = 0 ∧ ¬ (97 ≤ v.toInt ∧ v.toInt ≤ 122)) from (by have e0 : (0 : Int32).toInt = 0 := (by decide); have e1 : (1 : Int32).toInt = 1 := (by decide); omega))⟩ (q_subP hP [] rfl) (hD.sub [] (by decide) rfl) hroom.1 hroom.2 dX9_isLetter_17
  · have hc_1 := o_nlt (rfl : v.toInt = v.toInt) (by decide : (97 : Int32).toInt = 97) c_1
    refine lv_iload_n hx hb dX9_isLetter_6 rfl (lv_at hl 0 rfl) ?_
    refine lv_bipush (v := 122) hx hb dX9_isLetter_7 (by decide) ?_
    refine lv_icmp_gt (tgt := 16) hx hb dX9_isLetter_9 (by decide) (fun c_2 => ?_) (fun c_2 => ?_)
    · have hc_2 := o_lt (by decide : (122 : Int32).toInt = 122) (rfl : v.toInt = v.toInt) c_2
      refine lv_iconst (v := 0) hx hb dX9_isLetter_16 (by decide) ?_
      refine o_wq hQ ?_
      exact q_iret (rm := (Rm 0 0 0 0)) C hS () rfl ⟨(show 0 ≤ (0 : Int32).toInt ∧ (0 : Int32).toInt ≤ 1 by decide), (show ((0 : Int32).toInt = 1 ∧ (97 ≤ v.toInt ∧ v.toInt ≤ 122)) ∨ ((0 : Int32).toInt = 0 ∧ ¬ (97 ≤ v.toInt ∧ v.toInt ≤ 122)) from (by have e0 : (0 : Int32).toInt = 0 := (by decide); have e1 : (1 : Int32).toInt = 1 := (by decide); omega))⟩ (q_subP hP [] rfl) (hD.sub [] (by decide) rfl) hroom.1 hroom.2 dX9_isLetter_17
    · have hc_2 := o_nlt (by decide : (122 : Int32).toInt = 122) (rfl : v.toInt = v.toInt) c_2
      refine lv_iconst (v := 1) hx hb dX9_isLetter_12 (by decide) ?_
      refine lv_goto (tgt := 17) hx hb dX9_isLetter_13 (by decide) ?_
      refine o_wq hQ ?_
      exact q_iret (rm := (Rm 0 0 0 0)) C hS () rfl ⟨(show 0 ≤ (1 : Int32).toInt ∧ (1 : Int32).toInt ≤ 1 by decide), (show ((1 : Int32).toInt = 1 ∧ (97 ≤ v.toInt ∧ v.toInt ≤ 122)) ∨ ((1 : Int32).toInt = 0 ∧ ¬ (97 ≤ v.toInt ∧ v.toInt ≤ 122)) from (by have e0 : (0 : Int32).toInt = 0 := (by decide); have e1 : (1 : Int32).toInt = 1 := (by decide); omega))⟩ (q_subP hP [] rfl) (hD.sub [] (by decide) rfl) hroom.1 hroom.2 dX9_isLetter_17
theorem o_isLetter (l : Launch) (D : va_G) (cy : Nat → ClassId) (v : Int32) (sz : Nat)  : MI l yX9_isLetter cX9_isLetter 1 (some .boolean) (Rm 0 0 0 0) D cy [.int v] sz [] (fun (r : Int32) (u : Unit) => (0 ≤ r.toInt ∧ r.toInt ≤ 1) ∧ ((r.toInt = 1 ∧ (97 ≤ v.toInt ∧ v.toInt ≤ 122)) ∨ (r.toInt = 0 ∧ ¬ (97 ≤ v.toInt ∧ v.toInt ≤ 122)))) (fun u : Unit => []) := by
  refine MI.enter (by decide) (Nat.le_of_ble_eq_true rfl) ?_
  intro p e s m below meth c ls A hsz hAe C hP hD hS hl
  exact b_o_isLetter l D cy v  ⟨Nat.le_of_ble_eq_true rfl, Nat.le_of_ble_eq_true rfl⟩ C rfl _ _ ls hP hD hS hl
set_option maxHeartbeats 4000000 in
set_option maxRecDepth 100000 in
theorem b_o_isDigit (l : Launch) (D : va_G) (cy : Nat → ClassId) (v : Int32)  {p : Program} {e : Env} {s : State} {m : MethodId} {args : Array Value} {below : List Frame} {meth : Method} {c : Code} {A : Nat → Prop} {Q : State → Prop} {cells slots : Nat} (hroom : cells ≤ ((Rm 0 0 0 0)).cells ∧ slots ≤ ((Rm 0 0 0 0)).slots) (C : Cx p s m args meth c cX9_isDigit 1 (some .boolean) RX9 "isDigit" D cy A) (hQ : Q = MQ below (va_Qi (fun (r : Int32) (u : Unit) => (0 ≤ r.toInt ∧ r.toInt ≤ 1) ∧ ((r.toInt = 1 ∧ (48 ≤ v.toInt ∧ v.toInt ≤ 57)) ∨ (r.toInt = 0 ∧ ¬ (48 ≤ v.toInt ∧ v.toInt ≤ 57)))) (Bx D A (fun u : Unit => [])) A) args s ((Rm 0 0 0 0)).cells ((Rm 0 0 0 0)).slots A) (H : Heap) (locs : List Loc) (ls : Array Slot) (hP : va_P D vwCl [] H) (hD : va_D A []) (hS : va_S A s.heap H locs) (hl : lv_has ls 1 [(0, .int v)]) : W p l e (Rm 0 0 0 0) s m args below meth c H locs cells slots Q (F0 m 0 ls []) := by
  have hx := C.1
  have hb := C.2.1
  have hqv := o_rng v
  refine lv_iload_n hx hb dX9_isDigit_0 rfl (lv_at hl 0 rfl) ?_
  refine lv_bipush (v := 48) hx hb dX9_isDigit_1 (by decide) ?_
  refine lv_icmp_lt (tgt := 16) hx hb dX9_isDigit_3 (by decide) (fun c_1 => ?_) (fun c_1 => ?_)
  · have hc_1 := o_lt (rfl : v.toInt = v.toInt) (by decide : (48 : Int32).toInt = 48) c_1
    refine lv_iconst (v := 0) hx hb dX9_isDigit_16 (by decide) ?_
    refine o_wq hQ ?_
    exact q_iret (rm := (Rm 0 0 0 0)) C hS () rfl ⟨(show 0 ≤ (0 : Int32).toInt ∧ (0 : Int32).toInt ≤ 1 by decide), (show ((0 : Int32).toInt = 1 ∧ (48 ≤ v.toInt ∧ v.toInt ≤ 57)) ∨ ((0 : Int32).toInt = 0 ∧ ¬ (48 ≤ v.toInt ∧ v.toInt ≤ 57)) from (by have e0 : (0 : Int32).toInt = 0 := (by decide); have e1 : (1 : Int32).toInt = 1 := (by decide); omega))⟩ (q_subP hP [] rfl) (hD.sub [] (by decide) rfl) hroom.1 hroom.2 dX9_isDigit_17
  · have hc_1 := o_nlt (rfl : v.toInt = v.toInt) (by decide : (48 : Int32).toInt = 48) c_1
    refine lv_iload_n hx hb dX9_isDigit_6 rfl (lv_at hl 0 rfl) ?_
    refine lv_bipush (v := 57) hx hb dX9_isDigit_7 (by decide) ?_
    refine lv_icmp_gt (tgt := 16) hx hb dX9_isDigit_9 (by decide) (fun c_2 => ?_) (fun c_2 => ?_)
    · have hc_2 := o_lt (by decide : (57 : Int32).toInt = 57) (rfl : v.toInt = v.toInt) c_2
      refine lv_iconst (v := 0) hx hb dX9_isDigit_16 (by decide) ?_
      refine o_wq hQ ?_
      exact q_iret (rm := (Rm 0 0 0 0)) C hS () rfl ⟨(show 0 ≤ (0 : Int32).toInt ∧ (0 : Int32).toInt ≤ 1 by decide), (show ((0 : Int32).toInt = 1 ∧ (48 ≤ v.toInt ∧ v.toInt ≤ 57)) ∨ ((0 : Int32).toInt = 0 ∧ ¬ (48 ≤ v.toInt ∧ v.toInt ≤ 57)) from (by have e0 : (0 : Int32).toInt = 0 := (by decide); have e1 : (1 : Int32).toInt = 1 := (by decide); omega))⟩ (q_subP hP [] rfl) (hD.sub [] (by decide) rfl) hroom.1 hroom.2 dX9_isDigit_17
    · have hc_2 := o_nlt (by decide : (57 : Int32).toInt = 57) (rfl : v.toInt = v.toInt) c_2
      refine lv_iconst (v := 1) hx hb dX9_isDigit_12 (by decide) ?_
      refine lv_goto (tgt := 17) hx hb dX9_isDigit_13 (by decide) ?_
      refine o_wq hQ ?_
      exact q_iret (rm := (Rm 0 0 0 0)) C hS () rfl ⟨(show 0 ≤ (1 : Int32).toInt ∧ (1 : Int32).toInt ≤ 1 by decide), (show ((1 : Int32).toInt = 1 ∧ (48 ≤ v.toInt ∧ v.toInt ≤ 57)) ∨ ((1 : Int32).toInt = 0 ∧ ¬ (48 ≤ v.toInt ∧ v.toInt ≤ 57)) from (by have e0 : (0 : Int32).toInt = 0 := (by decide); have e1 : (1 : Int32).toInt = 1 := (by decide); omega))⟩ (q_subP hP [] rfl) (hD.sub [] (by decide) rfl) hroom.1 hroom.2 dX9_isDigit_17
theorem o_isDigit (l : Launch) (D : va_G) (cy : Nat → ClassId) (v : Int32) (sz : Nat)  : MI l yX9_isDigit cX9_isDigit 1 (some .boolean) (Rm 0 0 0 0) D cy [.int v] sz [] (fun (r : Int32) (u : Unit) => (0 ≤ r.toInt ∧ r.toInt ≤ 1) ∧ ((r.toInt = 1 ∧ (48 ≤ v.toInt ∧ v.toInt ≤ 57)) ∨ (r.toInt = 0 ∧ ¬ (48 ≤ v.toInt ∧ v.toInt ≤ 57)))) (fun u : Unit => []) := by
  refine MI.enter (by decide) (Nat.le_of_ble_eq_true rfl) ?_
  intro p e s m below meth c ls A hsz hAe C hP hD hS hl
  exact b_o_isDigit l D cy v  ⟨Nat.le_of_ble_eq_true rfl, Nat.le_of_ble_eq_true rfl⟩ C rfl _ _ ls hP hD hS hl
set_option maxHeartbeats 4000000 in
set_option maxRecDepth 100000 in
theorem b_o_isSign (l : Launch) (D : va_G) (cy : Nat → ClassId) (v : Int32)  {p : Program} {e : Env} {s : State} {m : MethodId} {args : Array Value} {below : List Frame} {meth : Method} {c : Code} {A : Nat → Prop} {Q : State → Prop} {cells slots : Nat} (hroom : cells ≤ ((Rm 0 0 0 0)).cells ∧ slots ≤ ((Rm 0 0 0 0)).slots) (C : Cx p s m args meth c cX9_isSign 1 (some .boolean) RX9 "isSign" D cy A) (hQ : Q = MQ below (va_Qi (fun (r : Int32) (u : Unit) => (0 ≤ r.toInt ∧ r.toInt ≤ 1) ∧ ((r.toInt = 1 ∧ (v.toInt = 59 ∨ v.toInt = 40 ∨ v.toInt = 41 ∨ (60 ≤ v.toInt ∧ v.toInt ≤ 62))) ∨ (r.toInt = 0 ∧ ¬ (v.toInt = 59 ∨ v.toInt = 40 ∨ v.toInt = 41 ∨ (60 ≤ v.toInt ∧ v.toInt ≤ 62))))) (Bx D A (fun u : Unit => [])) A) args s ((Rm 0 0 0 0)).cells ((Rm 0 0 0 0)).slots A) (H : Heap) (locs : List Loc) (ls : Array Slot) (hP : va_P D vwCl [] H) (hD : va_D A []) (hS : va_S A s.heap H locs) (hl : lv_has ls 1 [(0, .int v)]) : W p l e (Rm 0 0 0 0) s m args below meth c H locs cells slots Q (F0 m 0 ls []) := by
  have hx := C.1
  have hb := C.2.1
  have hqv := o_rng v
  refine lv_iload_n hx hb dX9_isSign_0 rfl (lv_at hl 0 rfl) ?_
  refine lv_bipush (v := 59) hx hb dX9_isSign_1 (by decide) ?_
  refine lv_icmp_eq (tgt := 30) hx hb dX9_isSign_3 (by decide) (fun c_1 => ?_) (fun c_1 => ?_)
  · have hc_1 := o_eq (rfl : v.toInt = v.toInt) (by decide : (59 : Int32).toInt = 59) c_1
    refine lv_iconst (v := 1) hx hb dX9_isSign_30 (by decide) ?_
    refine lv_goto (tgt := 35) hx hb dX9_isSign_31 (by decide) ?_
    refine o_wq hQ ?_
    exact q_iret (rm := (Rm 0 0 0 0)) C hS () rfl ⟨(show 0 ≤ (1 : Int32).toInt ∧ (1 : Int32).toInt ≤ 1 by decide), (show ((1 : Int32).toInt = 1 ∧ (v.toInt = 59 ∨ v.toInt = 40 ∨ v.toInt = 41 ∨ (60 ≤ v.toInt ∧ v.toInt ≤ 62))) ∨ ((1 : Int32).toInt = 0 ∧ ¬ (v.toInt = 59 ∨ v.toInt = 40 ∨ v.toInt = 41 ∨ (60 ≤ v.toInt ∧ v.toInt ≤ 62))) from (by have e0 : (0 : Int32).toInt = 0 := (by decide); have e1 : (1 : Int32).toInt = 1 := (by decide); omega))⟩ (q_subP hP [] rfl) (hD.sub [] (by decide) rfl) hroom.1 hroom.2 dX9_isSign_35
  · have hc_1 := o_ne (rfl : v.toInt = v.toInt) (by decide : (59 : Int32).toInt = 59) c_1
    refine lv_iload_n hx hb dX9_isSign_6 rfl (lv_at hl 0 rfl) ?_
    refine lv_bipush (v := 40) hx hb dX9_isSign_7 (by decide) ?_
    refine lv_icmp_eq (tgt := 30) hx hb dX9_isSign_9 (by decide) (fun c_2 => ?_) (fun c_2 => ?_)
    · have hc_2 := o_eq (rfl : v.toInt = v.toInt) (by decide : (40 : Int32).toInt = 40) c_2
      refine lv_iconst (v := 1) hx hb dX9_isSign_30 (by decide) ?_
      refine lv_goto (tgt := 35) hx hb dX9_isSign_31 (by decide) ?_
      refine o_wq hQ ?_
      exact q_iret (rm := (Rm 0 0 0 0)) C hS () rfl ⟨(show 0 ≤ (1 : Int32).toInt ∧ (1 : Int32).toInt ≤ 1 by decide), (show ((1 : Int32).toInt = 1 ∧ (v.toInt = 59 ∨ v.toInt = 40 ∨ v.toInt = 41 ∨ (60 ≤ v.toInt ∧ v.toInt ≤ 62))) ∨ ((1 : Int32).toInt = 0 ∧ ¬ (v.toInt = 59 ∨ v.toInt = 40 ∨ v.toInt = 41 ∨ (60 ≤ v.toInt ∧ v.toInt ≤ 62))) from (by have e0 : (0 : Int32).toInt = 0 := (by decide); have e1 : (1 : Int32).toInt = 1 := (by decide); omega))⟩ (q_subP hP [] rfl) (hD.sub [] (by decide) rfl) hroom.1 hroom.2 dX9_isSign_35
    · have hc_2 := o_ne (rfl : v.toInt = v.toInt) (by decide : (40 : Int32).toInt = 40) c_2
      refine lv_iload_n hx hb dX9_isSign_12 rfl (lv_at hl 0 rfl) ?_
      refine lv_bipush (v := 41) hx hb dX9_isSign_13 (by decide) ?_
      refine lv_icmp_eq (tgt := 30) hx hb dX9_isSign_15 (by decide) (fun c_3 => ?_) (fun c_3 => ?_)
      · have hc_3 := o_eq (rfl : v.toInt = v.toInt) (by decide : (41 : Int32).toInt = 41) c_3
        refine lv_iconst (v := 1) hx hb dX9_isSign_30 (by decide) ?_
        refine lv_goto (tgt := 35) hx hb dX9_isSign_31 (by decide) ?_
        refine o_wq hQ ?_
        exact q_iret (rm := (Rm 0 0 0 0)) C hS () rfl ⟨(show 0 ≤ (1 : Int32).toInt ∧ (1 : Int32).toInt ≤ 1 by decide), (show ((1 : Int32).toInt = 1 ∧ (v.toInt = 59 ∨ v.toInt = 40 ∨ v.toInt = 41 ∨ (60 ≤ v.toInt ∧ v.toInt ≤ 62))) ∨ ((1 : Int32).toInt = 0 ∧ ¬ (v.toInt = 59 ∨ v.toInt = 40 ∨ v.toInt = 41 ∨ (60 ≤ v.toInt ∧ v.toInt ≤ 62))) from (by have e0 : (0 : Int32).toInt = 0 := (by decide); have e1 : (1 : Int32).toInt = 1 := (by decide); omega))⟩ (q_subP hP [] rfl) (hD.sub [] (by decide) rfl) hroom.1 hroom.2 dX9_isSign_35
      · have hc_3 := o_ne (rfl : v.toInt = v.toInt) (by decide : (41 : Int32).toInt = 41) c_3
        refine lv_iload_n hx hb dX9_isSign_18 rfl (lv_at hl 0 rfl) ?_
        refine lv_bipush (v := 60) hx hb dX9_isSign_19 (by decide) ?_
        refine lv_icmp_lt (tgt := 34) hx hb dX9_isSign_21 (by decide) (fun c_4 => ?_) (fun c_4 => ?_)
        · have hc_4 := o_lt (rfl : v.toInt = v.toInt) (by decide : (60 : Int32).toInt = 60) c_4
          refine lv_iconst (v := 0) hx hb dX9_isSign_34 (by decide) ?_
          refine o_wq hQ ?_
          exact q_iret (rm := (Rm 0 0 0 0)) C hS () rfl ⟨(show 0 ≤ (0 : Int32).toInt ∧ (0 : Int32).toInt ≤ 1 by decide), (show ((0 : Int32).toInt = 1 ∧ (v.toInt = 59 ∨ v.toInt = 40 ∨ v.toInt = 41 ∨ (60 ≤ v.toInt ∧ v.toInt ≤ 62))) ∨ ((0 : Int32).toInt = 0 ∧ ¬ (v.toInt = 59 ∨ v.toInt = 40 ∨ v.toInt = 41 ∨ (60 ≤ v.toInt ∧ v.toInt ≤ 62))) from (by have e0 : (0 : Int32).toInt = 0 := (by decide); have e1 : (1 : Int32).toInt = 1 := (by decide); omega))⟩ (q_subP hP [] rfl) (hD.sub [] (by decide) rfl) hroom.1 hroom.2 dX9_isSign_35
        · have hc_4 := o_nlt (rfl : v.toInt = v.toInt) (by decide : (60 : Int32).toInt = 60) c_4
          refine lv_iload_n hx hb dX9_isSign_24 rfl (lv_at hl 0 rfl) ?_
          refine lv_bipush (v := 62) hx hb dX9_isSign_25 (by decide) ?_
          refine lv_icmp_gt (tgt := 34) hx hb dX9_isSign_27 (by decide) (fun c_5 => ?_) (fun c_5 => ?_)
          · have hc_5 := o_lt (by decide : (62 : Int32).toInt = 62) (rfl : v.toInt = v.toInt) c_5
            refine lv_iconst (v := 0) hx hb dX9_isSign_34 (by decide) ?_
            refine o_wq hQ ?_
            exact q_iret (rm := (Rm 0 0 0 0)) C hS () rfl ⟨(show 0 ≤ (0 : Int32).toInt ∧ (0 : Int32).toInt ≤ 1 by decide), (show ((0 : Int32).toInt = 1 ∧ (v.toInt = 59 ∨ v.toInt = 40 ∨ v.toInt = 41 ∨ (60 ≤ v.toInt ∧ v.toInt ≤ 62))) ∨ ((0 : Int32).toInt = 0 ∧ ¬ (v.toInt = 59 ∨ v.toInt = 40 ∨ v.toInt = 41 ∨ (60 ≤ v.toInt ∧ v.toInt ≤ 62))) from (by have e0 : (0 : Int32).toInt = 0 := (by decide); have e1 : (1 : Int32).toInt = 1 := (by decide); omega))⟩ (q_subP hP [] rfl) (hD.sub [] (by decide) rfl) hroom.1 hroom.2 dX9_isSign_35
          · have hc_5 := o_nlt (by decide : (62 : Int32).toInt = 62) (rfl : v.toInt = v.toInt) c_5
            refine lv_iconst (v := 1) hx hb dX9_isSign_30 (by decide) ?_
            refine lv_goto (tgt := 35) hx hb dX9_isSign_31 (by decide) ?_
            refine o_wq hQ ?_
            exact q_iret (rm := (Rm 0 0 0 0)) C hS () rfl ⟨(show 0 ≤ (1 : Int32).toInt ∧ (1 : Int32).toInt ≤ 1 by decide), (show ((1 : Int32).toInt = 1 ∧ (v.toInt = 59 ∨ v.toInt = 40 ∨ v.toInt = 41 ∨ (60 ≤ v.toInt ∧ v.toInt ≤ 62))) ∨ ((1 : Int32).toInt = 0 ∧ ¬ (v.toInt = 59 ∨ v.toInt = 40 ∨ v.toInt = 41 ∨ (60 ≤ v.toInt ∧ v.toInt ≤ 62))) from (by have e0 : (0 : Int32).toInt = 0 := (by decide); have e1 : (1 : Int32).toInt = 1 := (by decide); omega))⟩ (q_subP hP [] rfl) (hD.sub [] (by decide) rfl) hroom.1 hroom.2 dX9_isSign_35
theorem o_isSign (l : Launch) (D : va_G) (cy : Nat → ClassId) (v : Int32) (sz : Nat)  : MI l yX9_isSign cX9_isSign 1 (some .boolean) (Rm 0 0 0 0) D cy [.int v] sz [] (fun (r : Int32) (u : Unit) => (0 ≤ r.toInt ∧ r.toInt ≤ 1) ∧ ((r.toInt = 1 ∧ (v.toInt = 59 ∨ v.toInt = 40 ∨ v.toInt = 41 ∨ (60 ≤ v.toInt ∧ v.toInt ≤ 62))) ∨ (r.toInt = 0 ∧ ¬ (v.toInt = 59 ∨ v.toInt = 40 ∨ v.toInt = 41 ∨ (60 ≤ v.toInt ∧ v.toInt ≤ 62))))) (fun u : Unit => []) := by
  refine MI.enter (by decide) (Nat.le_of_ble_eq_true rfl) ?_
  intro p e s m below meth c ls A hsz hAe C hP hD hS hl
  exact b_o_isSign l D cy v  ⟨Nat.le_of_ble_eq_true rfl, Nat.le_of_ble_eq_true rfl⟩ C rfl _ _ ls hP hD hS hl
set_option maxHeartbeats 4000000 in
set_option maxRecDepth 100000 in
theorem b_o_isNameC (l : Launch) (D : va_G) (cy : Nat → ClassId) (t : Nat) (t_bytes_ : Nat) (t_length : Int32) (t_kind : Int32) (t_place : Int32) (t_size : Int32) (t_value : Int32) (t_word : Int32) (t_faultKind : Int32) (t_faultPlace : Int32) (t_limit : Int32) (t_next : Int32) (t_bytes : Nat → Int32) (hb0 : 0 ≤ t_length.toInt ∧ t_length.toInt ≤ 940) (hb1 : 0 ≤ t_place.toInt ∧ t_place.toInt ≤ 900) (hb2 : (-900) ≤ t_size.toInt ∧ t_size.toInt ≤ 940) (hb3 : 0 ≤ t_limit.toInt ∧ t_limit.toInt ≤ 900) (hb4 : 0 ≤ t_next.toInt ∧ t_next.toInt ≤ 940) (hR0 : Rg t_bytes 0 940 0 255) {p : Program} {e : Env} {s : State} {m : MethodId} {args : Array Value} {below : List Frame} {meth : Method} {c : Code} {A : Nat → Prop} {Q : State → Prop} {cells slots : Nat} (hroom : cells ≤ ((Rm 0 0 0 0)).cells ∧ slots ≤ ((Rm 0 0 0 0)).slots) (C : Cx p s m args meth c cX9_isName 1 (some .boolean) RX9 "isName" D cy A) (hQ : Q = MQ below (va_Qi (fun (r : Int32) (u : Unit) => (0 ≤ r.toInt ∧ r.toInt ≤ 1) ∧ ((r.toInt = 1 ∧ t_kind.toInt = 1 ∧ t_word.toInt = 0) ∨ (r.toInt = 0 ∧ ¬ (t_kind.toInt = 1 ∧ t_word.toInt = 0)))) (Bx D A (fun u : Unit => [(t, .inr (9, [.ref t_bytes_, .int t_length, .int t_kind, .int t_place, .int t_size, .int t_value, .int t_word, .int t_faultKind, .int t_faultPlace, .int t_limit, .int t_next])), (t_bytes_, .inl (cy 1, 940, .inl t_bytes))])) A) args s ((Rm 0 0 0 0)).cells ((Rm 0 0 0 0)).slots A) (H : Heap) (locs : List Loc) (ls : Array Slot) (hP : va_P D vwCl [(t, .inr (9, [.ref t_bytes_, .int t_length, .int t_kind, .int t_place, .int t_size, .int t_value, .int t_word, .int t_faultKind, .int t_faultPlace, .int t_limit, .int t_next])), (t_bytes_, .inl (cy 1, 940, .inl t_bytes))] H) (hD : va_D A [(t, .inr (9, [.ref t_bytes_, .int t_length, .int t_kind, .int t_place, .int t_size, .int t_value, .int t_word, .int t_faultKind, .int t_faultPlace, .int t_limit, .int t_next])), (t_bytes_, .inl (cy 1, 940, .inl t_bytes))]) (hS : va_S A s.heap H locs) (hl : lv_has ls 1 [(0, .ref t)]) : W p l e (Rm 0 0 0 0) s m args below meth c H locs cells slots Q (F0 m 0 ls []) := by
  have hx := C.1
  have hb := C.2.1
  refine lv_aload_n hx hb dX9_isName_0 rfl (lv_at hl 0 rfl) ?_
  refine q_get (v := .int t_kind) C hP 0 2 rfl rfl inX9 (by decide) kF_RX9_19 rfl rfl dX9_isName_1 ?_
  refine lv_iconst (v := 1) hx hb dX9_isName_4 (by decide) ?_
  refine lv_icmp_ne (tgt := 19) hx hb dX9_isName_5 (by decide) (fun c_1 => ?_) (fun c_1 => ?_)
  · have hc_1 := o_ne (rfl : t_kind.toInt = t_kind.toInt) (by decide : (1 : Int32).toInt = 1) c_1
    refine lv_iconst (v := 0) hx hb dX9_isName_19 (by decide) ?_
    refine o_wq hQ ?_
    exact q_iret (rm := (Rm 0 0 0 0)) C hS () rfl ⟨(show 0 ≤ (0 : Int32).toInt ∧ (0 : Int32).toInt ≤ 1 by decide), (show ((0 : Int32).toInt = 1 ∧ t_kind.toInt = 1 ∧ t_word.toInt = 0) ∨ ((0 : Int32).toInt = 0 ∧ ¬ (t_kind.toInt = 1 ∧ t_word.toInt = 0)) from (by have e0 : (0 : Int32).toInt = 0 := (by decide); have e1 : (1 : Int32).toInt = 1 := (by decide); omega))⟩ (q_subP hP [0, 1] rfl) (hD.sub [0, 1] (by decide) rfl) hroom.1 hroom.2 dX9_isName_20
  · have hc_1 := o_eq (rfl : t_kind.toInt = t_kind.toInt) (by decide : (1 : Int32).toInt = 1) c_1
    refine lv_aload_n hx hb dX9_isName_8 rfl (lv_at hl 0 rfl) ?_
    refine q_get (v := .int t_word) C hP 0 6 rfl rfl inX9 (by decide) kF_RX9_31 rfl rfl dX9_isName_9 ?_
    refine lv_if_ne (tgt := 19) hx hb dX9_isName_12 (by decide) (fun c_2 => ?_) (fun c_2 => ?_)
    · have hc_2 := o_ne (rfl : t_word.toInt = t_word.toInt) (by decide : (0 : Int32).toInt = 0) c_2
      refine lv_iconst (v := 0) hx hb dX9_isName_19 (by decide) ?_
      refine o_wq hQ ?_
      exact q_iret (rm := (Rm 0 0 0 0)) C hS () rfl ⟨(show 0 ≤ (0 : Int32).toInt ∧ (0 : Int32).toInt ≤ 1 by decide), (show ((0 : Int32).toInt = 1 ∧ t_kind.toInt = 1 ∧ t_word.toInt = 0) ∨ ((0 : Int32).toInt = 0 ∧ ¬ (t_kind.toInt = 1 ∧ t_word.toInt = 0)) from (by have e0 : (0 : Int32).toInt = 0 := (by decide); have e1 : (1 : Int32).toInt = 1 := (by decide); omega))⟩ (q_subP hP [0, 1] rfl) (hD.sub [0, 1] (by decide) rfl) hroom.1 hroom.2 dX9_isName_20
    · have hc_2 := o_eq (rfl : t_word.toInt = t_word.toInt) (by decide : (0 : Int32).toInt = 0) c_2
      refine lv_iconst (v := 1) hx hb dX9_isName_15 (by decide) ?_
      refine lv_goto (tgt := 20) hx hb dX9_isName_16 (by decide) ?_
      refine o_wq hQ ?_
      exact q_iret (rm := (Rm 0 0 0 0)) C hS () rfl ⟨(show 0 ≤ (1 : Int32).toInt ∧ (1 : Int32).toInt ≤ 1 by decide), (show ((1 : Int32).toInt = 1 ∧ t_kind.toInt = 1 ∧ t_word.toInt = 0) ∨ ((1 : Int32).toInt = 0 ∧ ¬ (t_kind.toInt = 1 ∧ t_word.toInt = 0)) from (by have e0 : (0 : Int32).toInt = 0 := (by decide); have e1 : (1 : Int32).toInt = 1 := (by decide); omega))⟩ (q_subP hP [0, 1] rfl) (hD.sub [0, 1] (by decide) rfl) hroom.1 hroom.2 dX9_isName_20
theorem o_isNameC (l : Launch) (D : va_G) (cy : Nat → ClassId) (t : Nat) (t_bytes_ : Nat) (t_length : Int32) (t_kind : Int32) (t_place : Int32) (t_size : Int32) (t_value : Int32) (t_word : Int32) (t_faultKind : Int32) (t_faultPlace : Int32) (t_limit : Int32) (t_next : Int32) (t_bytes : Nat → Int32) (sz : Nat) (hb0 : 0 ≤ t_length.toInt ∧ t_length.toInt ≤ 940) (hb1 : 0 ≤ t_place.toInt ∧ t_place.toInt ≤ 900) (hb2 : (-900) ≤ t_size.toInt ∧ t_size.toInt ≤ 940) (hb3 : 0 ≤ t_limit.toInt ∧ t_limit.toInt ≤ 900) (hb4 : 0 ≤ t_next.toInt ∧ t_next.toInt ≤ 940) (hR0 : Rg t_bytes 0 940 0 255) : MI l yX9_isName cX9_isName 1 (some .boolean) (Rm 0 0 0 0) D cy [.ref t] sz [(t, .inr (9, [.ref t_bytes_, .int t_length, .int t_kind, .int t_place, .int t_size, .int t_value, .int t_word, .int t_faultKind, .int t_faultPlace, .int t_limit, .int t_next])), (t_bytes_, .inl (cy 1, 940, .inl t_bytes))] (fun (r : Int32) (u : Unit) => (0 ≤ r.toInt ∧ r.toInt ≤ 1) ∧ ((r.toInt = 1 ∧ t_kind.toInt = 1 ∧ t_word.toInt = 0) ∨ (r.toInt = 0 ∧ ¬ (t_kind.toInt = 1 ∧ t_word.toInt = 0)))) (fun u : Unit => [(t, .inr (9, [.ref t_bytes_, .int t_length, .int t_kind, .int t_place, .int t_size, .int t_value, .int t_word, .int t_faultKind, .int t_faultPlace, .int t_limit, .int t_next])), (t_bytes_, .inl (cy 1, 940, .inl t_bytes))]) := by
  refine MI.enter (by decide) (Nat.le_of_ble_eq_true rfl) ?_
  intro p e s m below meth c ls A hsz hAe C hP hD hS hl
  exact b_o_isNameC l D cy t t_bytes_ t_length t_kind t_place t_size t_value t_word t_faultKind t_faultPlace t_limit t_next t_bytes hb0 hb1 hb2 hb3 hb4 hR0 ⟨Nat.le_of_ble_eq_true rfl, Nat.le_of_ble_eq_true rfl⟩ C rfl _ _ ls hP hD hS hl
set_option maxHeartbeats 4000000 in
set_option maxRecDepth 100000 in
theorem b_o_fail (l : Launch) (D : va_G) (cy : Nat → ClassId) (t : Nat) (v : Int32) (t_bytes_ : Nat) (t_length : Int32) (t_kind : Int32) (t_place : Int32) (t_size : Int32) (t_value : Int32) (t_word : Int32) (t_faultKind : Int32) (t_faultPlace : Int32) (t_limit : Int32) (t_next : Int32) (t_bytes : Nat → Int32) (hb0 : 0 ≤ t_length.toInt ∧ t_length.toInt ≤ 940) (hb1 : 0 ≤ t_place.toInt ∧ t_place.toInt ≤ 900) (hb2 : (-900) ≤ t_size.toInt ∧ t_size.toInt ≤ 940) (hb3 : 0 ≤ t_limit.toInt ∧ t_limit.toInt ≤ 900) (hb4 : 0 ≤ t_next.toInt ∧ t_next.toInt ≤ 940) (hR0 : Rg t_bytes 0 940 0 255) {p : Program} {e : Env} {s : State} {m : MethodId} {args : Array Value} {below : List Frame} {meth : Method} {c : Code} {A : Nat → Prop} {Q : State → Prop} {cells slots : Nat} (hroom : cells ≤ ((Rm 0 0 0 0)).cells ∧ slots ≤ ((Rm 0 0 0 0)).slots) (C : Cx p s m args meth c cX9_fail 2 (some .boolean) RX9 "fail" D cy A) (hQ : Q = MQ below (va_Qi (fun (r : Int32) (u : Int32 × Int32) => (0 ≤ r.toInt ∧ r.toInt ≤ 0) ∧ (0 ≤ u.1.toInt + (-1) * v.toInt ∧ 0 ≤ (-1) * u.1.toInt + v.toInt ∧ 0 ≤ u.2.toInt + (-1) * t_place.toInt ∧ 0 ≤ (-1) * u.2.toInt + t_place.toInt)) (Bx D A (fun u : Int32 × Int32 => [(t, .inr (9, [.ref t_bytes_, .int t_length, .int t_kind, .int t_place, .int t_size, .int t_value, .int t_word, .int u.1, .int u.2, .int t_limit, .int t_next])), (t_bytes_, .inl (cy 1, 940, .inl t_bytes))])) A) args s ((Rm 0 0 0 0)).cells ((Rm 0 0 0 0)).slots A) (H : Heap) (locs : List Loc) (ls : Array Slot) (hP : va_P D vwCl [(t, .inr (9, [.ref t_bytes_, .int t_length, .int t_kind, .int t_place, .int t_size, .int t_value, .int t_word, .int t_faultKind, .int t_faultPlace, .int t_limit, .int t_next])), (t_bytes_, .inl (cy 1, 940, .inl t_bytes))] H) (hD : va_D A [(t, .inr (9, [.ref t_bytes_, .int t_length, .int t_kind, .int t_place, .int t_size, .int t_value, .int t_word, .int t_faultKind, .int t_faultPlace, .int t_limit, .int t_next])), (t_bytes_, .inl (cy 1, 940, .inl t_bytes))]) (hS : va_S A s.heap H locs) (hl : lv_has ls 2 [(0, .ref t), (1, .int v)]) : W p l e (Rm 0 0 0 0) s m args below meth c H locs cells slots Q (F0 m 0 ls []) := by
  have hx := C.1
  have hb := C.2.1
  have hqv := o_rng v
  have hqt_kind := o_rng t_kind
  have hqt_value := o_rng t_value
  have hqt_word := o_rng t_word
  have hqt_faultKind := o_rng t_faultKind
  have hqt_faultPlace := o_rng t_faultPlace
  refine lv_aload_n hx hb dX9_fail_0 rfl (lv_at hl 0 rfl) ?_
  refine lv_iload_n hx hb dX9_fail_1 rfl (lv_at hl 1 rfl) ?_
  refine q_put (v := .int v) (w' := [(t, .inr (9, [.ref t_bytes_, .int t_length, .int t_kind, .int t_place, .int t_size, .int t_value, .int t_word, .int v, .int t_faultPlace, .int t_limit, .int t_next])), (t_bytes_, .inl (cy 1, 940, .inl t_bytes))]) (ty := .int) C hP hD hS 0 7 rfl rfl inX9 tyX9 tyX9_ok nmX9 (by decide) kF_RX9_34 rfl rfl rfl rfl rfl (Nat.le_of_ble_eq_true rfl) rfl dX9_fail_2 (fun H locs hP hD hS => ?_)
  refine lv_aload_n hx hb dX9_fail_5 rfl (lv_at hl 0 rfl) ?_
  refine lv_aload_n hx hb dX9_fail_6 rfl (lv_at hl 0 rfl) ?_
  refine q_get (v := .int t_place) C hP 0 3 rfl rfl inX9 (by decide) kF_RX9_22 rfl rfl dX9_fail_7 ?_
  refine q_put (v := .int t_place) (w' := [(t, .inr (9, [.ref t_bytes_, .int t_length, .int t_kind, .int t_place, .int t_size, .int t_value, .int t_word, .int v, .int t_place, .int t_limit, .int t_next])), (t_bytes_, .inl (cy 1, 940, .inl t_bytes))]) (ty := .int) C hP hD hS 0 8 rfl rfl inX9 tyX9 tyX9_ok nmX9 (by decide) kF_RX9_37 rfl rfl rfl rfl rfl (Nat.le_of_ble_eq_true rfl) rfl dX9_fail_10 (fun H locs hP hD hS => ?_)
  refine lv_iconst (v := 0) hx hb dX9_fail_13 (by decide) ?_
  refine o_wq hQ ?_
  exact q_iret (rm := (Rm 0 0 0 0)) C hS (v, t_place) rfl ⟨(show 0 ≤ (0 : Int32).toInt ∧ (0 : Int32).toInt ≤ 0 by decide), (show 0 ≤ v.toInt + (-1) * v.toInt ∧ 0 ≤ (-1) * v.toInt + v.toInt ∧ 0 ≤ t_place.toInt + (-1) * t_place.toInt ∧ 0 ≤ (-1) * t_place.toInt + t_place.toInt by have e0 : (0 : Int32).toInt = 0 := (by decide); omega)⟩ (q_subP hP [0, 1] rfl) (hD.sub [0, 1] (by decide) rfl) hroom.1 hroom.2 dX9_fail_14
theorem o_fail (l : Launch) (D : va_G) (cy : Nat → ClassId) (t : Nat) (v : Int32) (t_bytes_ : Nat) (t_length : Int32) (t_kind : Int32) (t_place : Int32) (t_size : Int32) (t_value : Int32) (t_word : Int32) (t_faultKind : Int32) (t_faultPlace : Int32) (t_limit : Int32) (t_next : Int32) (t_bytes : Nat → Int32) (sz : Nat) (hb0 : 0 ≤ t_length.toInt ∧ t_length.toInt ≤ 940) (hb1 : 0 ≤ t_place.toInt ∧ t_place.toInt ≤ 900) (hb2 : (-900) ≤ t_size.toInt ∧ t_size.toInt ≤ 940) (hb3 : 0 ≤ t_limit.toInt ∧ t_limit.toInt ≤ 900) (hb4 : 0 ≤ t_next.toInt ∧ t_next.toInt ≤ 940) (hR0 : Rg t_bytes 0 940 0 255) : MI l yX9_fail cX9_fail 2 (some .boolean) (Rm 0 0 0 0) D cy [.ref t, .int v] sz [(t, .inr (9, [.ref t_bytes_, .int t_length, .int t_kind, .int t_place, .int t_size, .int t_value, .int t_word, .int t_faultKind, .int t_faultPlace, .int t_limit, .int t_next])), (t_bytes_, .inl (cy 1, 940, .inl t_bytes))] (fun (r : Int32) (u : Int32 × Int32) => (0 ≤ r.toInt ∧ r.toInt ≤ 0) ∧ (0 ≤ u.1.toInt + (-1) * v.toInt ∧ 0 ≤ (-1) * u.1.toInt + v.toInt ∧ 0 ≤ u.2.toInt + (-1) * t_place.toInt ∧ 0 ≤ (-1) * u.2.toInt + t_place.toInt)) (fun u : Int32 × Int32 => [(t, .inr (9, [.ref t_bytes_, .int t_length, .int t_kind, .int t_place, .int t_size, .int t_value, .int t_word, .int u.1, .int u.2, .int t_limit, .int t_next])), (t_bytes_, .inl (cy 1, 940, .inl t_bytes))]) := by
  refine MI.enter (by decide) (Nat.le_of_ble_eq_true rfl) ?_
  intro p e s m below meth c ls A hsz hAe C hP hD hS hl
  exact b_o_fail l D cy t v t_bytes_ t_length t_kind t_place t_size t_value t_word t_faultKind t_faultPlace t_limit t_next t_bytes hb0 hb1 hb2 hb3 hb4 hR0 ⟨Nat.le_of_ble_eq_true rfl, Nat.le_of_ble_eq_true rfl⟩ C rfl _ _ ls hP hD hS hl
