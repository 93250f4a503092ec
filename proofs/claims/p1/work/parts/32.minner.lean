theorem dX11_four_0 : decode cX11_four 0 = .ok (.bipush 24, 2) := by decide +kernel
theorem dX11_four_2 : decode cX11_four 2 = .ok (.istore_n 2, 1) := by decide +kernel
theorem dX11_four_3 : decode cX11_four 3 = .ok (.iload_n 2, 1) := by decide +kernel
theorem dX11_four_4 : decode cX11_four 4 = .ok (.ifCond .lt 32, 3) := by decide +kernel
theorem dX11_four_7 : decode cX11_four 7 = .ok (.aload_n 0, 1) := by decide +kernel
theorem dX11_four_8 : decode cX11_four 8 = .ok (.getfield 14, 3) := by decide +kernel
theorem dX11_four_11 : decode cX11_four 11 = .ok (.aload_n 0, 1) := by decide +kernel
theorem dX11_four_12 : decode cX11_four 12 = .ok (.getfield 7, 3) := by decide +kernel
theorem kF_RX11_7 : Cond.fieldLink RX11 7 "CobwebLibraryModel" "length" "I" ∈ gT := List.mem_filter.mpr ⟨List.mem_of_getElem? (i := 1511) (by decide +kernel), by decide +kernel⟩
theorem dX11_four_15 : decode cX11_four 15 = .ok (.iload_n 1, 1) := by decide +kernel
theorem dX11_four_16 : decode cX11_four 16 = .ok (.iload_n 2, 1) := by decide +kernel
theorem dX11_four_17 : decode cX11_four 17 = .ok (.ishr, 1) := by decide +kernel
theorem dX11_four_18 : decode cX11_four 18 = .ok (.i2b, 1) := by decide +kernel
theorem dX11_four_19 : decode cX11_four 19 = .ok (.bastore, 1) := by decide +kernel
theorem dX11_four_20 : decode cX11_four 20 = .ok (.aload_n 0, 1) := by decide +kernel
theorem dX11_four_21 : decode cX11_four 21 = .ok (.dup, 1) := by decide +kernel
theorem dX11_four_22 : decode cX11_four 22 = .ok (.getfield 7, 3) := by decide +kernel
theorem dX11_four_25 : decode cX11_four 25 = .ok (.iconst 1, 1) := by decide +kernel
theorem dX11_four_26 : decode cX11_four 26 = .ok (.iadd, 1) := by decide +kernel
theorem dX11_four_27 : decode cX11_four 27 = .ok (.putfield 7, 3) := by decide +kernel
theorem dX11_four_30 : decode cX11_four 30 = .ok (.iinc 2 (-8), 3) := by decide +kernel
theorem dX11_four_33 : decode cX11_four 33 = .ok (.goto (-30), 3) := by decide +kernel
theorem dX11_four_36 : decode cX11_four 36 = .ok (.return_, 1) := by decide +kernel
theorem dX11_taken_0 : decode cX11_taken 0 = .ok (.aload_n 0, 1) := by decide +kernel
theorem dX11_taken_1 : decode cX11_taken 1 = .ok (.aload_n 0, 1) := by decide +kernel
theorem dX11_taken_2 : decode cX11_taken 2 = .ok (.getfield 7, 3) := by decide +kernel
theorem dX11_taken_5 : decode cX11_taken 5 = .ok (.putfield 18, 3) := by decide +kernel
theorem kF_RX11_18 : Cond.fieldLink RX11 18 "CobwebLibraryModel" "size" "I" ∈ gT := List.mem_filter.mpr ⟨List.mem_of_getElem? (i := 1512) (by decide +kernel), by decide +kernel⟩
theorem dX11_taken_8 : decode cX11_taken 8 = .ok (.aload_n 0, 1) := by decide +kernel
theorem dX11_taken_9 : decode cX11_taken 9 = .ok (.iconst 0, 1) := by decide +kernel
theorem dX11_taken_10 : decode cX11_taken 10 = .ok (.putfield 7, 3) := by decide +kernel
theorem dX11_taken_13 : decode cX11_taken 13 = .ok (.aload_n 0, 1) := by decide +kernel
theorem dX11_taken_14 : decode cX11_taken 14 = .ok (.iconst 0, 1) := by decide +kernel
theorem dX11_taken_15 : decode cX11_taken 15 = .ok (.putfield 21, 3) := by decide +kernel
theorem kF_RX11_21 : Cond.fieldLink RX11 21 "CobwebLibraryModel" "p" "I" ∈ gT := List.mem_filter.mpr ⟨List.mem_of_getElem? (i := 1513) (by decide +kernel), by decide +kernel⟩
theorem dX11_taken_18 : decode cX11_taken 18 = .ok (.aload_n 0, 1) := by decide +kernel
theorem dX11_taken_19 : decode cX11_taken 19 = .ok (.iload_n 1, 1) := by decide +kernel
theorem dX11_taken_20 : decode cX11_taken 20 = .ok (.putfield 24, 3) := by decide +kernel
theorem kF_RX11_24 : Cond.fieldLink RX11 24 "CobwebLibraryModel" "limit" "I" ∈ gT := List.mem_filter.mpr ⟨List.mem_of_getElem? (i := 1514) (by decide +kernel), by decide +kernel⟩
theorem dX11_taken_23 : decode cX11_taken 23 = .ok (.return_, 1) := by decide +kernel
theorem dX11_peek_0 : decode cX11_peek 0 = .ok (.aload_n 0, 1) := by decide +kernel
theorem dX11_peek_1 : decode cX11_peek 1 = .ok (.getfield 21, 3) := by decide +kernel
theorem dX11_peek_4 : decode cX11_peek 4 = .ok (.aload_n 0, 1) := by decide +kernel
theorem dX11_peek_5 : decode cX11_peek 5 = .ok (.getfield 18, 3) := by decide +kernel
theorem dX11_peek_8 : decode cX11_peek 8 = .ok (.if_icmp .ge 19, 3) := by decide +kernel
theorem dX11_peek_27 : decode cX11_peek 27 = .ok (.iconst (-1), 1) := by decide +kernel
theorem dX11_peek_28 : decode cX11_peek 28 = .ok (.ireturn, 1) := by decide +kernel
theorem dX11_next_0 : decode cX11_next 0 = .ok (.aload_n 0, 1) := by decide +kernel
theorem dX11_next_1 : decode cX11_next 1 = .ok (.invokevirtual 164, 3) := by decide +kernel
theorem kwV_X11_peek : MwV RX11 yX11_peek cX11_peek 1 (some .int) 0 := ⟨List.mem_filter.mpr ⟨List.mem_of_getElem? (i := 1701) (by decide +kernel), by decide +kernel⟩, List.mem_filter.mpr ⟨List.mem_of_getElem? (i := 1700) (by decide +kernel), by decide +kernel⟩, List.mem_filter.mpr ⟨List.mem_of_getElem? (i := 58) (by decide +kernel), by decide +kernel⟩, List.mem_filter.mpr ⟨List.mem_of_getElem? (i := 139) (by decide +kernel), by decide +kernel⟩, by decide +kernel⟩
theorem kM_RX11_164 : Cond.methodLink RX11 164 yX11_peek ∈ gT := List.mem_filter.mpr ⟨List.mem_of_getElem? (i := 1698) (by decide +kernel), by decide +kernel⟩
theorem dX11_next_4 : decode cX11_next 4 = .ok (.bipush 32, 2) := by decide +kernel
theorem dX11_next_6 : decode cX11_next 6 = .ok (.if_icmp .eq 12, 3) := by decide +kernel
theorem dX11_next_9 : decode cX11_next 9 = .ok (.aload_n 0, 1) := by decide +kernel
theorem dX11_next_10 : decode cX11_next 10 = .ok (.invokevirtual 164, 3) := by decide +kernel
theorem dX11_next_13 : decode cX11_next 13 = .ok (.bipush 10, 2) := by decide +kernel
theorem dX11_next_15 : decode cX11_next 15 = .ok (.if_icmp .ne 16, 3) := by decide +kernel
theorem dX11_next_31 : decode cX11_next 31 = .ok (.aload_n 0, 1) := by decide +kernel
theorem dX11_next_32 : decode cX11_next 32 = .ok (.aload_n 0, 1) := by decide +kernel
theorem dX11_next_33 : decode cX11_next 33 = .ok (.getfield 21, 3) := by decide +kernel
theorem dX11_next_36 : decode cX11_next 36 = .ok (.putfield 168, 3) := by decide +kernel
theorem kF_RX11_168 : Cond.fieldLink RX11 168 "CobwebLibraryModel" "at" "I" ∈ gT := List.mem_filter.mpr ⟨List.mem_of_getElem? (i := 1521) (by decide +kernel), by decide +kernel⟩
theorem dX11_next_39 : decode cX11_next 39 = .ok (.aload_n 0, 1) := by decide +kernel
theorem dX11_next_40 : decode cX11_next 40 = .ok (.iconst 0, 1) := by decide +kernel
theorem dX11_next_41 : decode cX11_next 41 = .ok (.putfield 171, 3) := by decide +kernel
theorem kF_RX11_171 : Cond.fieldLink RX11 171 "CobwebLibraryModel" "span" "I" ∈ gT := List.mem_filter.mpr ⟨List.mem_of_getElem? (i := 1522) (by decide +kernel), by decide +kernel⟩
theorem dX11_next_44 : decode cX11_next 44 = .ok (.aload_n 0, 1) := by decide +kernel
theorem dX11_next_45 : decode cX11_next 45 = .ok (.getfield 18, 3) := by decide +kernel
theorem dX11_next_48 : decode cX11_next 48 = .ok (.aload_n 0, 1) := by decide +kernel
theorem dX11_next_49 : decode cX11_next 49 = .ok (.getfield 24, 3) := by decide +kernel
theorem dX11_next_52 : decode cX11_next 52 = .ok (.if_icmp .le 28, 3) := by decide +kernel
theorem dX11_next_80 : decode cX11_next 80 = .ok (.aload_n 0, 1) := by decide +kernel
theorem dX11_next_81 : decode cX11_next 81 = .ok (.invokevirtual 164, 3) := by decide +kernel
theorem dX11_next_84 : decode cX11_next 84 = .ok (.istore_n 1, 1) := by decide +kernel
theorem dX11_next_85 : decode cX11_next 85 = .ok (.iload_n 1, 1) := by decide +kernel
theorem dX11_next_86 : decode cX11_next 86 = .ok (.ifCond .ge 9, 3) := by decide +kernel
theorem dX11_next_89 : decode cX11_next 89 = .ok (.aload_n 0, 1) := by decide +kernel
theorem dX11_next_90 : decode cX11_next 90 = .ok (.iconst 0, 1) := by decide +kernel
theorem dX11_next_91 : decode cX11_next 91 = .ok (.putfield 174, 3) := by decide +kernel
theorem kF_RX11_174 : Cond.fieldLink RX11 174 "CobwebLibraryModel" "token" "I" ∈ gT := List.mem_filter.mpr ⟨List.mem_of_getElem? (i := 1520) (by decide +kernel), by decide +kernel⟩
theorem dX11_next_94 : decode cX11_next 94 = .ok (.return_, 1) := by decide +kernel
theorem dX11_isBook_0 : decode cX11_isBook 0 = .ok (.iload_n 1, 1) := by decide +kernel
theorem dX11_isBook_1 : decode cX11_isBook 1 = .ok (.iconst 0, 1) := by decide +kernel
theorem dX11_isBook_2 : decode cX11_isBook 2 = .ok (.aload_n 0, 1) := by decide +kernel
theorem dX11_isBook_3 : decode cX11_isBook 3 = .ok (.getfield 33, 3) := by decide +kernel
theorem dX11_isBook_6 : decode cX11_isBook 6 = .ok (.iconst 0, 1) := by decide +kernel
theorem dX11_isBook_7 : decode cX11_isBook 7 = .ok (.iaload, 1) := by decide +kernel
theorem dX11_isBook_8 : decode cX11_isBook 8 = .ok (.iconst 1, 1) := by decide +kernel
theorem dX11_isBook_9 : decode cX11_isBook 9 = .ok (.isub, 1) := by decide +kernel
theorem dX11_isBook_10 : decode cX11_isBook 10 = .ok (.invokestatic 206, 3) := by decide +kernel
theorem kwS_X11_isIn : MwS yX11_isIn cX11_isIn 3 (some .boolean) 3 := ⟨List.mem_filter.mpr ⟨List.mem_of_getElem? (i := 1737) (by decide +kernel), by decide +kernel⟩, List.mem_filter.mpr ⟨List.mem_of_getElem? (i := 1736) (by decide +kernel), by decide +kernel⟩, List.mem_filter.mpr ⟨List.mem_of_getElem? (i := 139) (by decide +kernel), by decide +kernel⟩, by decide +kernel⟩
theorem kM_RX11_206 : Cond.methodLink RX11 206 yX11_isIn ∈ gT := List.mem_filter.mpr ⟨List.mem_of_getElem? (i := 1735) (by decide +kernel), by decide +kernel⟩
theorem dX11_isBook_13 : decode cX11_isBook 13 = .ok (.ireturn, 1) := by decide +kernel
theorem dX11_isCell_0 : decode cX11_isCell 0 = .ok (.iload_n 1, 1) := by decide +kernel
theorem dX11_isCell_1 : decode cX11_isCell 1 = .ok (.iconst 0, 1) := by decide +kernel
theorem dX11_isCell_2 : decode cX11_isCell 2 = .ok (.aload_n 0, 1) := by decide +kernel
theorem dX11_isCell_3 : decode cX11_isCell 3 = .ok (.getfield 33, 3) := by decide +kernel
theorem dX11_isCell_6 : decode cX11_isCell 6 = .ok (.iconst 1, 1) := by decide +kernel
theorem dX11_isCell_7 : decode cX11_isCell 7 = .ok (.iaload, 1) := by decide +kernel
theorem dX11_isCell_8 : decode cX11_isCell 8 = .ok (.iconst 1, 1) := by decide +kernel
theorem dX11_isCell_9 : decode cX11_isCell 9 = .ok (.isub, 1) := by decide +kernel
theorem dX11_isCell_10 : decode cX11_isCell 10 = .ok (.invokestatic 206, 3) := by decide +kernel
theorem dX11_isCell_13 : decode cX11_isCell 13 = .ok (.ifCond .eq 23, 3) := by decide +kernel
theorem dX11_isCell_16 : decode cX11_isCell 16 = .ok (.iload_n 2, 1) := by decide +kernel
theorem dX11_isCell_17 : decode cX11_isCell 17 = .ok (.iconst 0, 1) := by decide +kernel
theorem dX11_isCell_18 : decode cX11_isCell 18 = .ok (.aload_n 0, 1) := by decide +kernel
theorem dX11_isCell_19 : decode cX11_isCell 19 = .ok (.getfield 33, 3) := by decide +kernel
theorem dX11_isCell_22 : decode cX11_isCell 22 = .ok (.iconst 2, 1) := by decide +kernel
theorem dX11_isCell_23 : decode cX11_isCell 23 = .ok (.iaload, 1) := by decide +kernel
theorem dX11_isCell_24 : decode cX11_isCell 24 = .ok (.iconst 1, 1) := by decide +kernel
theorem dX11_isCell_25 : decode cX11_isCell 25 = .ok (.isub, 1) := by decide +kernel
theorem dX11_isCell_26 : decode cX11_isCell 26 = .ok (.invokestatic 206, 3) := by decide +kernel
theorem dX11_isCell_29 : decode cX11_isCell 29 = .ok (.ifCond .eq 7, 3) := by decide +kernel
theorem dX11_isCell_32 : decode cX11_isCell 32 = .ok (.iconst 1, 1) := by decide +kernel
theorem dX11_isCell_33 : decode cX11_isCell 33 = .ok (.goto 4, 3) := by decide +kernel
theorem dX11_isCell_37 : decode cX11_isCell 37 = .ok (.ireturn, 1) := by decide +kernel
theorem dX11_isCell_36 : decode cX11_isCell 36 = .ok (.iconst 0, 1) := by decide +kernel
theorem dX11_bookAt_0 : decode cX11_bookAt 0 = .ok (.iconst 0, 1) := by decide +kernel
theorem dX11_bookAt_1 : decode cX11_bookAt 1 = .ok (.istore_n 3, 1) := by decide +kernel
theorem dX11_bookAt_2 : decode cX11_bookAt 2 = .ok (.iload_n 3, 1) := by decide +kernel
theorem dX11_bookAt_3 : decode cX11_bookAt 3 = .ok (.aload_n 0, 1) := by decide +kernel
theorem dX11_bookAt_4 : decode cX11_bookAt 4 = .ok (.getfield 33, 3) := by decide +kernel
theorem dX11_bookAt_7 : decode cX11_bookAt 7 = .ok (.iconst 0, 1) := by decide +kernel
theorem dX11_bookAt_8 : decode cX11_bookAt 8 = .ok (.iaload, 1) := by decide +kernel
theorem dX11_bookAt_9 : decode cX11_bookAt 9 = .ok (.if_icmp .ge 37, 3) := by decide +kernel
theorem dX11_bookAt_46 : decode cX11_bookAt 46 = .ok (.iconst (-1), 1) := by decide +kernel
theorem dX11_bookAt_47 : decode cX11_bookAt 47 = .ok (.ireturn, 1) := by decide +kernel
theorem dX11_readSet_0 : decode cX11_readSet 0 = .ok (.iconst 0, 1) := by decide +kernel
theorem dX11_readSet_1 : decode cX11_readSet 1 = .ok (.istore_n 2, 1) := by decide +kernel
theorem dX11_readSet_2 : decode cX11_readSet 2 = .ok (.iconst 0, 1) := by decide +kernel
theorem dX11_readSet_3 : decode cX11_readSet 3 = .ok (.istore_n 3, 1) := by decide +kernel
theorem dX11_readSet_4 : decode cX11_readSet 4 = .ok (.iload_n 3, 1) := by decide +kernel
theorem dX11_readSet_5 : decode cX11_readSet 5 = .ok (.aload_n 0, 1) := by decide +kernel
theorem dX11_readSet_6 : decode cX11_readSet 6 = .ok (.getfield 33, 3) := by decide +kernel
theorem dX11_readSet_9 : decode cX11_readSet 9 = .ok (.iconst 0, 1) := by decide +kernel
theorem dX11_readSet_10 : decode cX11_readSet 10 = .ok (.iaload, 1) := by decide +kernel
theorem dX11_readSet_11 : decode cX11_readSet 11 = .ok (.if_icmp .ge 36, 3) := by decide +kernel
theorem dX11_readSet_47 : decode cX11_readSet 47 = .ok (.iload_n 2, 1) := by decide +kernel
theorem dX11_readSet_48 : decode cX11_readSet 48 = .ok (.ireturn, 1) := by decide +kernel
theorem dX11_isDusty_0 : decode cX11_isDusty 0 = .ok (.iconst 0, 1) := by decide +kernel
theorem dX11_isDusty_1 : decode cX11_isDusty 1 = .ok (.istore_n 2, 1) := by decide +kernel
theorem dX11_isDusty_2 : decode cX11_isDusty 2 = .ok (.iconst 0, 1) := by decide +kernel
theorem dX11_isDusty_3 : decode cX11_isDusty 3 = .ok (.istore_n 3, 1) := by decide +kernel
theorem dX11_isDusty_4 : decode cX11_isDusty 4 = .ok (.iload_n 3, 1) := by decide +kernel
theorem dX11_isDusty_5 : decode cX11_isDusty 5 = .ok (.aload_n 0, 1) := by decide +kernel
theorem dX11_isDusty_6 : decode cX11_isDusty 6 = .ok (.getfield 33, 3) := by decide +kernel
theorem dX11_isDusty_9 : decode cX11_isDusty 9 = .ok (.iconst 0, 1) := by decide +kernel
theorem dX11_isDusty_10 : decode cX11_isDusty 10 = .ok (.iaload, 1) := by decide +kernel
theorem dX11_isDusty_11 : decode cX11_isDusty 11 = .ok (.if_icmp .ge 87, 3) := by decide +kernel
theorem dX11_isDusty_98 : decode cX11_isDusty 98 = .ok (.iload_n 2, 1) := by decide +kernel
theorem dX11_isDusty_99 : decode cX11_isDusty 99 = .ok (.ireturn, 1) := by decide +kernel
theorem dX11_keeps_0 : decode cX11_keeps 0 = .ok (.aload_n 0, 1) := by decide +kernel
theorem dX11_keeps_1 : decode cX11_keeps 1 = .ok (.getfield 288, 3) := by decide +kernel
theorem kF_RX11_288 : Cond.fieldLink RX11 288 "CobwebLibraryModel" "undoMany" "I" ∈ gT := List.mem_filter.mpr ⟨List.mem_of_getElem? (i := 1536) (by decide +kernel), by decide +kernel⟩
theorem dX11_keeps_4 : decode cX11_keeps 4 = .ok (.bipush 8, 2) := by decide +kernel
theorem dX11_keeps_6 : decode cX11_keeps 6 = .ok (.if_icmp .ne 39, 3) := by decide +kernel
theorem dX11_keeps_45 : decode cX11_keeps 45 = .ok (.iconst 0, 1) := by decide +kernel
theorem dX11_keeps_46 : decode cX11_keeps 46 = .ok (.istore_n 1, 1) := by decide +kernel
theorem dX11_keeps_47 : decode cX11_keeps 47 = .ok (.iload_n 1, 1) := by decide +kernel
theorem dX11_keeps_48 : decode cX11_keeps 48 = .ok (.bipush 98, 2) := by decide +kernel
theorem dX11_keeps_50 : decode cX11_keeps 50 = .ok (.if_icmp .ge 32, 3) := by decide +kernel
theorem dX11_keeps_53 : decode cX11_keeps 53 = .ok (.aload_n 0, 1) := by decide +kernel
theorem dX11_keeps_54 : decode cX11_keeps 54 = .ok (.getfield 50, 3) := by decide +kernel
theorem dX11_keeps_57 : decode cX11_keeps 57 = .ok (.bipush 98, 2) := by decide +kernel
theorem dX11_keeps_59 : decode cX11_keeps 59 = .ok (.aload_n 0, 1) := by decide +kernel
theorem dX11_keeps_60 : decode cX11_keeps 60 = .ok (.getfield 288, 3) := by decide +kernel
theorem dX11_keeps_63 : decode cX11_keeps 63 = .ok (.imul, 1) := by decide +kernel
theorem dX11_keeps_64 : decode cX11_keeps 64 = .ok (.iload_n 1, 1) := by decide +kernel
theorem dX11_keeps_65 : decode cX11_keeps 65 = .ok (.iadd, 1) := by decide +kernel
theorem dX11_keeps_66 : decode cX11_keeps 66 = .ok (.aload_n 0, 1) := by decide +kernel
theorem dX11_keeps_67 : decode cX11_keeps 67 = .ok (.getfield 33, 3) := by decide +kernel
theorem dX11_keeps_70 : decode cX11_keeps 70 = .ok (.bipush 104, 2) := by decide +kernel
theorem dX11_keeps_72 : decode cX11_keeps 72 = .ok (.iload_n 1, 1) := by decide +kernel
theorem dX11_keeps_73 : decode cX11_keeps 73 = .ok (.iadd, 1) := by decide +kernel
theorem dX11_keeps_74 : decode cX11_keeps 74 = .ok (.iaload, 1) := by decide +kernel
theorem dX11_keeps_75 : decode cX11_keeps 75 = .ok (.iastore, 1) := by decide +kernel
theorem dX11_keeps_76 : decode cX11_keeps 76 = .ok (.iinc 1 1, 3) := by decide +kernel
theorem dX11_keeps_79 : decode cX11_keeps 79 = .ok (.goto (-32), 3) := by decide +kernel
theorem dX11_keeps_82 : decode cX11_keeps 82 = .ok (.aload_n 0, 1) := by decide +kernel
theorem dX11_keeps_83 : decode cX11_keeps 83 = .ok (.dup, 1) := by decide +kernel
theorem dX11_keeps_84 : decode cX11_keeps 84 = .ok (.getfield 288, 3) := by decide +kernel
theorem dX11_keeps_87 : decode cX11_keeps 87 = .ok (.iconst 1, 1) := by decide +kernel
theorem dX11_keeps_88 : decode cX11_keeps 88 = .ok (.iadd, 1) := by decide +kernel
theorem dX11_keeps_89 : decode cX11_keeps 89 = .ok (.putfield 288, 3) := by decide +kernel
theorem dX11_keeps_92 : decode cX11_keeps 92 = .ok (.return_, 1) := by decide +kernel
theorem dX11_tries_0 : decode cX11_tries 0 = .ok (.iconst 0, 1) := by decide +kernel
theorem dX11_tries_1 : decode cX11_tries 1 = .ok (.istore_n 1, 1) := by decide +kernel
theorem dX11_tries_2 : decode cX11_tries 2 = .ok (.iload_n 1, 1) := by decide +kernel
theorem dX11_tries_3 : decode cX11_tries 3 = .ok (.bipush 98, 2) := by decide +kernel
theorem dX11_tries_5 : decode cX11_tries 5 = .ok (.if_icmp .ge 24, 3) := by decide +kernel
theorem dX11_tries_8 : decode cX11_tries 8 = .ok (.aload_n 0, 1) := by decide +kernel
theorem dX11_tries_9 : decode cX11_tries 9 = .ok (.getfield 53, 3) := by decide +kernel
theorem dX11_tries_12 : decode cX11_tries 12 = .ok (.iload_n 1, 1) := by decide +kernel
theorem dX11_tries_13 : decode cX11_tries 13 = .ok (.aload_n 0, 1) := by decide +kernel
theorem dX11_tries_14 : decode cX11_tries 14 = .ok (.getfield 33, 3) := by decide +kernel
theorem dX11_tries_17 : decode cX11_tries 17 = .ok (.bipush 104, 2) := by decide +kernel
theorem dX11_tries_19 : decode cX11_tries 19 = .ok (.iload_n 1, 1) := by decide +kernel
theorem dX11_tries_20 : decode cX11_tries 20 = .ok (.iadd, 1) := by decide +kernel
theorem dX11_tries_21 : decode cX11_tries 21 = .ok (.iaload, 1) := by decide +kernel
theorem dX11_tries_22 : decode cX11_tries 22 = .ok (.iastore, 1) := by decide +kernel
theorem dX11_tries_23 : decode cX11_tries 23 = .ok (.iinc 1 1, 3) := by decide +kernel
theorem dX11_tries_26 : decode cX11_tries 26 = .ok (.goto (-24), 3) := by decide +kernel
theorem dX11_tries_29 : decode cX11_tries 29 = .ok (.return_, 1) := by decide +kernel
theorem dX11_back_0 : decode cX11_back 0 = .ok (.iconst 0, 1) := by decide +kernel
theorem dX11_back_1 : decode cX11_back 1 = .ok (.istore_n 1, 1) := by decide +kernel
theorem dX11_back_2 : decode cX11_back 2 = .ok (.iload_n 1, 1) := by decide +kernel
theorem dX11_back_3 : decode cX11_back 3 = .ok (.bipush 98, 2) := by decide +kernel
theorem dX11_back_5 : decode cX11_back 5 = .ok (.if_icmp .ge 24, 3) := by decide +kernel
theorem dX11_back_8 : decode cX11_back 8 = .ok (.aload_n 0, 1) := by decide +kernel
theorem dX11_back_9 : decode cX11_back 9 = .ok (.getfield 33, 3) := by decide +kernel
theorem dX11_back_12 : decode cX11_back 12 = .ok (.bipush 104, 2) := by decide +kernel
theorem dX11_back_14 : decode cX11_back 14 = .ok (.iload_n 1, 1) := by decide +kernel
theorem dX11_back_15 : decode cX11_back 15 = .ok (.iadd, 1) := by decide +kernel
theorem dX11_back_16 : decode cX11_back 16 = .ok (.aload_n 0, 1) := by decide +kernel
theorem dX11_back_17 : decode cX11_back 17 = .ok (.getfield 53, 3) := by decide +kernel
theorem dX11_back_20 : decode cX11_back 20 = .ok (.iload_n 1, 1) := by decide +kernel
theorem dX11_back_21 : decode cX11_back 21 = .ok (.iaload, 1) := by decide +kernel
theorem dX11_back_22 : decode cX11_back 22 = .ok (.iastore, 1) := by decide +kernel
theorem dX11_back_23 : decode cX11_back 23 = .ok (.iinc 1 1, 3) := by decide +kernel
theorem dX11_back_26 : decode cX11_back 26 = .ok (.goto (-24), 3) := by decide +kernel
theorem dX11_back_29 : decode cX11_back 29 = .ok (.return_, 1) := by decide +kernel
theorem dX11_draw_0 : decode cX11_draw 0 = .ok (.aload_n 0, 1) := by decide +kernel
theorem dX11_draw_1 : decode cX11_draw 1 = .ok (.aload_n 0, 1) := by decide +kernel
theorem dX11_draw_2 : decode cX11_draw 2 = .ok (.getfield 334, 3) := by decide +kernel
theorem kF_RX11_334 : Cond.fieldLink RX11 334 "CobwebLibraryModel" "seed" "I" ∈ gT := List.mem_filter.mpr ⟨List.mem_of_getElem? (i := 1533) (by decide +kernel), by decide +kernel⟩
theorem dX11_draw_5 : decode cX11_draw 5 = .ok (.ldc_w 337, 3) := by decide +kernel
theorem kC_RX11_337 : Cond.constant RX11 337 (1103515245 : Int32) ∈ gT := List.mem_filter.mpr ⟨List.mem_of_getElem? (i := 1915) (by decide +kernel), by decide +kernel⟩
theorem dX11_draw_8 : decode cX11_draw 8 = .ok (.imul, 1) := by decide +kernel
theorem dX11_draw_9 : decode cX11_draw 9 = .ok (.sipush 12345, 3) := by decide +kernel
theorem dX11_draw_12 : decode cX11_draw 12 = .ok (.iadd, 1) := by decide +kernel
theorem dX11_draw_13 : decode cX11_draw 13 = .ok (.putfield 334, 3) := by decide +kernel
theorem dX11_draw_16 : decode cX11_draw 16 = .ok (.aload_n 0, 1) := by decide +kernel
theorem dX11_draw_17 : decode cX11_draw 17 = .ok (.getfield 334, 3) := by decide +kernel
theorem dX11_draw_20 : decode cX11_draw 20 = .ok (.bipush 8, 2) := by decide +kernel
theorem dX11_draw_22 : decode cX11_draw 22 = .ok (.iushr, 1) := by decide +kernel
theorem dX11_draw_23 : decode cX11_draw 23 = .ok (.iload_n 1, 1) := by decide +kernel
theorem dX11_draw_24 : decode cX11_draw 24 = .ok (.irem, 1) := by decide +kernel
theorem dX11_draw_25 : decode cX11_draw 25 = .ok (.ireturn, 1) := by decide +kernel
theorem dX11_day_0 : decode cX11_day 0 = .ok (.iconst 0, 1) := by decide +kernel
theorem dX11_day_1 : decode cX11_day 1 = .ok (.istore_n 1, 1) := by decide +kernel
theorem dX11_day_2 : decode cX11_day 2 = .ok (.iload_n 1, 1) := by decide +kernel
theorem dX11_day_3 : decode cX11_day 3 = .ok (.aload_n 0, 1) := by decide +kernel
theorem dX11_day_4 : decode cX11_day 4 = .ok (.getfield 33, 3) := by decide +kernel
theorem dX11_day_7 : decode cX11_day 7 = .ok (.iconst 0, 1) := by decide +kernel
theorem dX11_day_8 : decode cX11_day 8 = .ok (.iaload, 1) := by decide +kernel
theorem dX11_day_9 : decode cX11_day 9 = .ok (.if_icmp .ge 113, 3) := by decide +kernel
theorem dX11_day_122 : decode cX11_day 122 = .ok (.aload_n 0, 1) := by decide +kernel
theorem dX11_day_123 : decode cX11_day 123 = .ok (.bipush 12, 2) := by decide +kernel
theorem dX11_day_125 : decode cX11_day 125 = .ok (.invokevirtual 341, 3) := by decide +kernel
theorem kwV_X11_draw : MwV RX11 yX11_draw cX11_draw 2 (some .int) 1 := ⟨List.mem_filter.mpr ⟨List.mem_of_getElem? (i := 1914) (by decide +kernel), by decide +kernel⟩, List.mem_filter.mpr ⟨List.mem_of_getElem? (i := 1913) (by decide +kernel), by decide +kernel⟩, List.mem_filter.mpr ⟨List.mem_of_getElem? (i := 96) (by decide +kernel), by decide +kernel⟩, List.mem_filter.mpr ⟨List.mem_of_getElem? (i := 139) (by decide +kernel), by decide +kernel⟩, by decide +kernel⟩
theorem kM_RX11_341 : Cond.methodLink RX11 341 yX11_draw ∈ gT := List.mem_filter.mpr ⟨List.mem_of_getElem? (i := 1911) (by decide +kernel), by decide +kernel⟩
theorem dX11_day_128 : decode cX11_day 128 = .ok (.aload_n 0, 1) := by decide +kernel
theorem dX11_day_129 : decode cX11_day 129 = .ok (.getfield 33, 3) := by decide +kernel
theorem dX11_day_132 : decode cX11_day 132 = .ok (.bipush 6, 2) := by decide +kernel
theorem dX11_day_134 : decode cX11_day 134 = .ok (.iaload, 1) := by decide +kernel
theorem dX11_day_135 : decode cX11_day 135 = .ok (.if_icmp .ge 41, 3) := by decide +kernel
theorem dX11_day_176 : decode cX11_day 176 = .ok (.aload_n 0, 1) := by decide +kernel
theorem dX11_day_177 : decode cX11_day 177 = .ok (.getfield 33, 3) := by decide +kernel
theorem dX11_day_180 : decode cX11_day 180 = .ok (.bipush 105, 2) := by decide +kernel
theorem dX11_day_182 : decode cX11_day 182 = .ok (.iconst 0, 1) := by decide +kernel
theorem dX11_day_183 : decode cX11_day 183 = .ok (.iastore, 1) := by decide +kernel
theorem dX11_day_184 : decode cX11_day 184 = .ok (.aload_n 0, 1) := by decide +kernel
theorem dX11_day_185 : decode cX11_day 185 = .ok (.getfield 33, 3) := by decide +kernel
theorem dX11_day_188 : decode cX11_day 188 = .ok (.bipush 104, 2) := by decide +kernel
theorem dX11_day_190 : decode cX11_day 190 = .ok (.dup2, 1) := by decide +kernel
theorem dX11_day_191 : decode cX11_day 191 = .ok (.iaload, 1) := by decide +kernel
theorem dX11_day_192 : decode cX11_day 192 = .ok (.iconst 1, 1) := by decide +kernel
theorem dX11_day_193 : decode cX11_day 193 = .ok (.iadd, 1) := by decide +kernel
theorem dX11_day_194 : decode cX11_day 194 = .ok (.iastore, 1) := by decide +kernel
theorem dX11_day_195 : decode cX11_day 195 = .ok (.return_, 1) := by decide +kernel
theorem dX11_day_138 : decode cX11_day 138 = .ok (.aload_n 0, 1) := by decide +kernel
theorem dX11_day_139 : decode cX11_day 139 = .ok (.getfield 33, 3) := by decide +kernel
theorem dX11_day_142 : decode cX11_day 142 = .ok (.iconst 0, 1) := by decide +kernel
theorem dX11_day_143 : decode cX11_day 143 = .ok (.iaload, 1) := by decide +kernel
theorem dX11_day_144 : decode cX11_day 144 = .ok (.ifCond .le 32, 3) := by decide +kernel
theorem dX11_goesOn_0 : decode cX11_goesOn 0 = .ok (.aload_n 0, 1) := by decide +kernel
theorem dX11_goesOn_1 : decode cX11_goesOn 1 = .ok (.iload_n 2, 1) := by decide +kernel
theorem dX11_goesOn_2 : decode cX11_goesOn 2 = .ok (.putfield 334, 3) := by decide +kernel
theorem dX11_goesOn_5 : decode cX11_goesOn 5 = .ok (.iconst 0, 1) := by decide +kernel
theorem dX11_goesOn_6 : decode cX11_goesOn 6 = .ok (.istore_n 3, 1) := by decide +kernel
theorem dX11_goesOn_7 : decode cX11_goesOn 7 = .ok (.iload_n 3, 1) := by decide +kernel
theorem dX11_goesOn_8 : decode cX11_goesOn 8 = .ok (.iload_n 1, 1) := by decide +kernel
theorem dX11_goesOn_9 : decode cX11_goesOn 9 = .ok (.if_icmp .ge 26, 3) := by decide +kernel
theorem dX11_goesOn_12 : decode cX11_goesOn 12 = .ok (.aload_n 0, 1) := by decide +kernel
theorem dX11_goesOn_13 : decode cX11_goesOn 13 = .ok (.getfield 33, 3) := by decide +kernel
theorem dX11_goesOn_16 : decode cX11_goesOn 16 = .ok (.bipush 104, 2) := by decide +kernel
theorem dX11_goesOn_18 : decode cX11_goesOn 18 = .ok (.iaload, 1) := by decide +kernel
theorem dX11_goesOn_19 : decode cX11_goesOn 19 = .ok (.sipush 400, 3) := by decide +kernel
theorem dX11_goesOn_22 : decode cX11_goesOn 22 = .ok (.if_icmp .ge 13, 3) := by decide +kernel
theorem dX11_goesOn_25 : decode cX11_goesOn 25 = .ok (.aload_n 0, 1) := by decide +kernel
theorem dX11_goesOn_26 : decode cX11_goesOn 26 = .ok (.invokevirtual 344, 3) := by decide +kernel
theorem kwV_X11_day : MwV RX11 yX11_day cX11_day 3 none 0 := ⟨List.mem_filter.mpr ⟨List.mem_of_getElem? (i := 1910) (by decide +kernel), by decide +kernel⟩, List.mem_filter.mpr ⟨List.mem_of_getElem? (i := 1909) (by decide +kernel), by decide +kernel⟩, List.mem_filter.mpr ⟨List.mem_of_getElem? (i := 95) (by decide +kernel), by decide +kernel⟩, List.mem_filter.mpr ⟨List.mem_of_getElem? (i := 139) (by decide +kernel), by decide +kernel⟩, by decide +kernel⟩
theorem kM_RX11_344 : Cond.methodLink RX11 344 yX11_day ∈ gT := List.mem_filter.mpr ⟨List.mem_of_getElem? (i := 1907) (by decide +kernel), by decide +kernel⟩
theorem dX11_goesOn_29 : decode cX11_goesOn 29 = .ok (.iinc 3 1, 3) := by decide +kernel
theorem dX11_goesOn_32 : decode cX11_goesOn 32 = .ok (.goto (-25), 3) := by decide +kernel
theorem dX11_goesOn_35 : decode cX11_goesOn 35 = .ok (.iload_n 3, 1) := by decide +kernel
theorem dX11_goesOn_36 : decode cX11_goesOn 36 = .ok (.ireturn, 1) := by decide +kernel
set_option maxHeartbeats 4000000 in
set_option maxRecDepth 100000 in
theorem m_four (l : Launch) (D : va_G) (cy : Nat → ClassId) (m0 : Nat) (v : Int32) (m_tape : Nat) (n0 : Nat) (m_s : Nat) (m_h : Nat) (m_read : Nat) (m_names : Nat) (m_reserved : Nat) (m_undone : Nat) (m_before : Nat) (m_far : Nat) (m_wayRow : Nat) (m_keptRow : Nat) (m_askedRow : Nat) (m_rares : Nat) (m_trial : Nat) (m_hangs : Nat) (m_paths : Nat) (m_text : Nat) (m_toldAt : Nat) (m_stack : Nat) (m_truths : Nat) (m_imaged : Nat) (m_namesKept : Nat) (m_areKept : Nat) (f : Nat → Int32) (sz : Nat) (hn0 : n0 + 4 ≤ 940) : MV l yX11_four cX11_four 3 (Rm 0 0 0 0) D cy [.ref m0, .int v] sz [(m0, .inr (11, [.int 0, .ref m_tape, .int (nI n0), .int 0, .int 0, .int 0, .ref m_s, .ref m_h, .ref m_read, .ref m_names, .ref m_reserved, .int 0, .int 0, .int 0, .int 0, .int 0, .int 0, .long 0, .int 0, .int 0, .int 0, .int 0, .int 0, .int 0, .int 0, .ref m_undone, .ref m_before, .int 0, .ref m_far, .ref m_wayRow, .int (-1), .ref m_keptRow, .ref m_askedRow, .ref m_rares, .ref m_trial, .int (-1), .int (-1), .ref m_hangs, .ref m_paths, .int 0, .int 0, .int 0, .int 0, .ref m_text, .int 0, .int 0, .ref m_toldAt, .int 0, .ref m_stack, .int 0, .int 0, .int 0, .int 0, .int 0, .ref m_truths, .ref m_imaged, .ref m_namesKept, .ref m_areKept])), (m_tape, .inl (cy 0, 940, .inl f))] (fun _ : Nat → Int32 => True) (fun u : Nat → Int32 => [(m0, .inr (11, [.int 0, .ref m_tape, .int (nI (n0 + 4)), .int 0, .int 0, .int 0, .ref m_s, .ref m_h, .ref m_read, .ref m_names, .ref m_reserved, .int 0, .int 0, .int 0, .int 0, .int 0, .int 0, .long 0, .int 0, .int 0, .int 0, .int 0, .int 0, .int 0, .int 0, .ref m_undone, .ref m_before, .int 0, .ref m_far, .ref m_wayRow, .int (-1), .ref m_keptRow, .ref m_askedRow, .ref m_rares, .ref m_trial, .int (-1), .int (-1), .ref m_hangs, .ref m_paths, .int 0, .int 0, .int 0, .int 0, .ref m_text, .int 0, .int 0, .ref m_toldAt, .int 0, .ref m_stack, .int 0, .int 0, .int 0, .int 0, .int 0, .ref m_truths, .ref m_imaged, .ref m_namesKept, .ref m_areKept])), (m_tape, .inl (cy 0, 940, .inl u))]) := by
  refine MV.enter (by decide) (Nat.le_of_ble_eq_true rfl) ?_
  intro p e s m below meth c ls A hsz hAe C hP hD hS hl
  have C : Cx p s m _ meth c cX11_four 3 none RX11 "four" D cy A := C
  have hx := C.1
  have hb := C.2.1
  have hl : lv_has ls 3 [(0, .ref m0), (1, .int v)] := hl
  refine lv_bipush (v := 24) hx hb dX11_four_0 (by decide) ?_
  refine lv_istore_n (lv' := [(2, .int 24), (0, .ref m0), (1, .int v)]) hx hb dX11_four_2 rfl hl (by decide) rfl (fun ls hl => ?_)
  refine lv_iload_n hx hb dX11_four_3 rfl (lv_at hl 0 rfl) ?_
  refine lv_if_lt (tgt := 36) hx hb dX11_four_4 (by decide) (fun c_0 => absurd c_0 (by decide)) (fun _ => ?_)
  refine lv_aload_n hx hb dX11_four_7 rfl (lv_at hl 1 rfl) ?_
  refine q_get (v := .ref m_tape) C hP 0 1 rfl rfl inX11 (by decide) kF_RX11_14 rfl rfl dX11_four_8 ?_
  refine lv_aload_n hx hb dX11_four_11 rfl (lv_at hl 1 rfl) ?_
  refine q_get (v := .int (nI n0)) C hP 0 2 rfl rfl inX11 (by decide) kF_RX11_7 rfl rfl dX11_four_12 ?_
  refine lv_iload_n hx hb dX11_four_15 rfl (lv_at hl 2 rfl) ?_
  refine lv_iload_n hx hb dX11_four_16 rfl (lv_at hl 0 rfl) ?_
  refine lv_ishr hx hb dX11_four_17 ?_
  refine lv_i2b (v := (v >>> (24 &&& 31)).toInt8.toInt32) hx hb dX11_four_18 rfl ?_
  refine q_bastB (g := upd f n0 (vp_nar .byte ((v >>> (24 &&& 31)).toInt8.toInt32))) (w' := [(m0, .inr (11, [.int 0, .ref m_tape, .int (nI n0), .int 0, .int 0, .int 0, .ref m_s, .ref m_h, .ref m_read, .ref m_names, .ref m_reserved, .int 0, .int 0, .int 0, .int 0, .int 0, .int 0, .long 0, .int 0, .int 0, .int 0, .int 0, .int 0, .int 0, .int 0, .ref m_undone, .ref m_before, .int 0, .ref m_far, .ref m_wayRow, .int (-1), .ref m_keptRow, .ref m_askedRow, .ref m_rares, .ref m_trial, .int (-1), .int (-1), .ref m_hangs, .ref m_paths, .int 0, .int 0, .int 0, .int 0, .ref m_text, .int 0, .int 0, .ref m_toldAt, .int 0, .ref m_stack, .int 0, .int 0, .int 0, .int 0, .int 0, .ref m_truths, .ref m_imaged, .ref m_namesKept, .ref m_areKept])), (m_tape, .inl (cy 0, 940, .inl (upd f n0 (vp_nar .byte ((v >>> (24 &&& 31)).toInt8.toInt32)))))]) C hP hD hS 1 rfl (vp_in_nI (by omega) (by decide)) (by rw [nI_clamp (by omega)]) rfl dX11_four_19 (fun H locs hP hD hS => ?_)
  refine lv_aload_n hx hb dX11_four_20 rfl (lv_at hl 1 rfl) ?_
  refine lv_dup hx hb dX11_four_21 rfl ?_
  refine q_get (v := .int (nI n0)) C hP 0 2 rfl rfl inX11 (by decide) kF_RX11_7 rfl rfl dX11_four_22 ?_
  refine lv_iconst (v := 1) hx hb dX11_four_25 (by decide) ?_
  refine lv_iadd hx hb dX11_four_26 ?_
  refine q_val (v := (nI (n0 + 1))) (nI_add n0 1) ?_
  refine q_put (v := .int (nI (n0 + 1))) (w' := [(m0, .inr (11, [.int 0, .ref m_tape, .int (nI (n0 + 1)), .int 0, .int 0, .int 0, .ref m_s, .ref m_h, .ref m_read, .ref m_names, .ref m_reserved, .int 0, .int 0, .int 0, .int 0, .int 0, .int 0, .long 0, .int 0, .int 0, .int 0, .int 0, .int 0, .int 0, .int 0, .ref m_undone, .ref m_before, .int 0, .ref m_far, .ref m_wayRow, .int (-1), .ref m_keptRow, .ref m_askedRow, .ref m_rares, .ref m_trial, .int (-1), .int (-1), .ref m_hangs, .ref m_paths, .int 0, .int 0, .int 0, .int 0, .ref m_text, .int 0, .int 0, .ref m_toldAt, .int 0, .ref m_stack, .int 0, .int 0, .int 0, .int 0, .int 0, .ref m_truths, .ref m_imaged, .ref m_namesKept, .ref m_areKept])), (m_tape, .inl (cy 0, 940, .inl (upd f n0 (vp_nar .byte ((v >>> (24 &&& 31)).toInt8.toInt32)))))]) (ty := .int) C hP hD hS 0 2 rfl rfl inX11 tyX11 tyX11_ok nmX11 (by decide) kF_RX11_7 rfl rfl rfl rfl rfl (Nat.le_of_ble_eq_true rfl) rfl dX11_four_27 (fun H locs hP hD hS => ?_)
  refine lv_iinc (v := 16) (lv' := [(2, .int 16), (0, .ref m0), (1, .int v)]) hx hb dX11_four_30 hl (k := 0) rfl (by decide) (by decide) rfl (fun ls hl => ?_)
  refine lv_goto (tgt := 3) hx hb dX11_four_33 (by decide) ?_
  refine lv_iload_n hx hb dX11_four_3 rfl (lv_at hl 0 rfl) ?_
  refine lv_if_lt (tgt := 36) hx hb dX11_four_4 (by decide) (fun c_0 => absurd c_0 (by decide)) (fun _ => ?_)
  refine lv_aload_n hx hb dX11_four_7 rfl (lv_at hl 1 rfl) ?_
  refine q_get (v := .ref m_tape) C hP 0 1 rfl rfl inX11 (by decide) kF_RX11_14 rfl rfl dX11_four_8 ?_
  refine lv_aload_n hx hb dX11_four_11 rfl (lv_at hl 1 rfl) ?_
  refine q_get (v := .int (nI (n0 + 1))) C hP 0 2 rfl rfl inX11 (by decide) kF_RX11_7 rfl rfl dX11_four_12 ?_
  refine lv_iload_n hx hb dX11_four_15 rfl (lv_at hl 2 rfl) ?_
  refine lv_iload_n hx hb dX11_four_16 rfl (lv_at hl 0 rfl) ?_
  refine lv_ishr hx hb dX11_four_17 ?_
  refine lv_i2b (v := (v >>> (16 &&& 31)).toInt8.toInt32) hx hb dX11_four_18 rfl ?_
  refine q_bastB (g := upd (upd f n0 (vp_nar .byte ((v >>> (24 &&& 31)).toInt8.toInt32))) (n0 + 1) (vp_nar .byte ((v >>> (16 &&& 31)).toInt8.toInt32))) (w' := [(m0, .inr (11, [.int 0, .ref m_tape, .int (nI (n0 + 1)), .int 0, .int 0, .int 0, .ref m_s, .ref m_h, .ref m_read, .ref m_names, .ref m_reserved, .int 0, .int 0, .int 0, .int 0, .int 0, .int 0, .long 0, .int 0, .int 0, .int 0, .int 0, .int 0, .int 0, .int 0, .ref m_undone, .ref m_before, .int 0, .ref m_far, .ref m_wayRow, .int (-1), .ref m_keptRow, .ref m_askedRow, .ref m_rares, .ref m_trial, .int (-1), .int (-1), .ref m_hangs, .ref m_paths, .int 0, .int 0, .int 0, .int 0, .ref m_text, .int 0, .int 0, .ref m_toldAt, .int 0, .ref m_stack, .int 0, .int 0, .int 0, .int 0, .int 0, .ref m_truths, .ref m_imaged, .ref m_namesKept, .ref m_areKept])), (m_tape, .inl (cy 0, 940, .inl (upd (upd f n0 (vp_nar .byte ((v >>> (24 &&& 31)).toInt8.toInt32))) (n0 + 1) (vp_nar .byte ((v >>> (16 &&& 31)).toInt8.toInt32)))))]) C hP hD hS 1 rfl (vp_in_nI (by omega) (by decide)) (by rw [nI_clamp (by omega)]) rfl dX11_four_19 (fun H locs hP hD hS => ?_)
  refine lv_aload_n hx hb dX11_four_20 rfl (lv_at hl 1 rfl) ?_
  refine lv_dup hx hb dX11_four_21 rfl ?_
  refine q_get (v := .int (nI (n0 + 1))) C hP 0 2 rfl rfl inX11 (by decide) kF_RX11_7 rfl rfl dX11_four_22 ?_
  refine lv_iconst (v := 1) hx hb dX11_four_25 (by decide) ?_
  refine lv_iadd hx hb dX11_four_26 ?_
  refine q_val (v := (nI (n0 + 2))) (nI_add (n0 + 1) 1) ?_
  refine q_put (v := .int (nI (n0 + 2))) (w' := [(m0, .inr (11, [.int 0, .ref m_tape, .int (nI (n0 + 2)), .int 0, .int 0, .int 0, .ref m_s, .ref m_h, .ref m_read, .ref m_names, .ref m_reserved, .int 0, .int 0, .int 0, .int 0, .int 0, .int 0, .long 0, .int 0, .int 0, .int 0, .int 0, .int 0, .int 0, .int 0, .ref m_undone, .ref m_before, .int 0, .ref m_far, .ref m_wayRow, .int (-1), .ref m_keptRow, .ref m_askedRow, .ref m_rares, .ref m_trial, .int (-1), .int (-1), .ref m_hangs, .ref m_paths, .int 0, .int 0, .int 0, .int 0, .ref m_text, .int 0, .int 0, .ref m_toldAt, .int 0, .ref m_stack, .int 0, .int 0, .int 0, .int 0, .int 0, .ref m_truths, .ref m_imaged, .ref m_namesKept, .ref m_areKept])), (m_tape, .inl (cy 0, 940, .inl (upd (upd f n0 (vp_nar .byte ((v >>> (24 &&& 31)).toInt8.toInt32))) (n0 + 1) (vp_nar .byte ((v >>> (16 &&& 31)).toInt8.toInt32)))))]) (ty := .int) C hP hD hS 0 2 rfl rfl inX11 tyX11 tyX11_ok nmX11 (by decide) kF_RX11_7 rfl rfl rfl rfl rfl (Nat.le_of_ble_eq_true rfl) rfl dX11_four_27 (fun H locs hP hD hS => ?_)
  refine lv_iinc (v := 8) (lv' := [(2, .int 8), (0, .ref m0), (1, .int v)]) hx hb dX11_four_30 hl (k := 0) rfl (by decide) (by decide) rfl (fun ls hl => ?_)
  refine lv_goto (tgt := 3) hx hb dX11_four_33 (by decide) ?_
  refine lv_iload_n hx hb dX11_four_3 rfl (lv_at hl 0 rfl) ?_
  refine lv_if_lt (tgt := 36) hx hb dX11_four_4 (by decide) (fun c_0 => absurd c_0 (by decide)) (fun _ => ?_)
  refine lv_aload_n hx hb dX11_four_7 rfl (lv_at hl 1 rfl) ?_
  refine q_get (v := .ref m_tape) C hP 0 1 rfl rfl inX11 (by decide) kF_RX11_14 rfl rfl dX11_four_8 ?_
  refine lv_aload_n hx hb dX11_four_11 rfl (lv_at hl 1 rfl) ?_
  refine q_get (v := .int (nI (n0 + 2))) C hP 0 2 rfl rfl inX11 (by decide) kF_RX11_7 rfl rfl dX11_four_12 ?_
  refine lv_iload_n hx hb dX11_four_15 rfl (lv_at hl 2 rfl) ?_
  refine lv_iload_n hx hb dX11_four_16 rfl (lv_at hl 0 rfl) ?_
  refine lv_ishr hx hb dX11_four_17 ?_
  refine lv_i2b (v := (v >>> (8 &&& 31)).toInt8.toInt32) hx hb dX11_four_18 rfl ?_
  refine q_bastB (g := upd (upd (upd f n0 (vp_nar .byte ((v >>> (24 &&& 31)).toInt8.toInt32))) (n0 + 1) (vp_nar .byte ((v >>> (16 &&& 31)).toInt8.toInt32))) (n0 + 2) (vp_nar .byte ((v >>> (8 &&& 31)).toInt8.toInt32))) (w' := [(m0, .inr (11, [.int 0, .ref m_tape, .int (nI (n0 + 2)), .int 0, .int 0, .int 0, .ref m_s, .ref m_h, .ref m_read, .ref m_names, .ref m_reserved, .int 0, .int 0, .int 0, .int 0, .int 0, .int 0, .long 0, .int 0, .int 0, .int 0, .int 0, .int 0, .int 0, .int 0, .ref m_undone, .ref m_before, .int 0, .ref m_far, .ref m_wayRow, .int (-1), .ref m_keptRow, .ref m_askedRow, .ref m_rares, .ref m_trial, .int (-1), .int (-1), .ref m_hangs, .ref m_paths, .int 0, .int 0, .int 0, .int 0, .ref m_text, .int 0, .int 0, .ref m_toldAt, .int 0, .ref m_stack, .int 0, .int 0, .int 0, .int 0, .int 0, .ref m_truths, .ref m_imaged, .ref m_namesKept, .ref m_areKept])), (m_tape, .inl (cy 0, 940, .inl (upd (upd (upd f n0 (vp_nar .byte ((v >>> (24 &&& 31)).toInt8.toInt32))) (n0 + 1) (vp_nar .byte ((v >>> (16 &&& 31)).toInt8.toInt32))) (n0 + 2) (vp_nar .byte ((v >>> (8 &&& 31)).toInt8.toInt32)))))]) C hP hD hS 1 rfl (vp_in_nI (by omega) (by decide)) (by rw [nI_clamp (by omega)]) rfl dX11_four_19 (fun H locs hP hD hS => ?_)
  refine lv_aload_n hx hb dX11_four_20 rfl (lv_at hl 1 rfl) ?_
  refine lv_dup hx hb dX11_four_21 rfl ?_
  refine q_get (v := .int (nI (n0 + 2))) C hP 0 2 rfl rfl inX11 (by decide) kF_RX11_7 rfl rfl dX11_four_22 ?_
  refine lv_iconst (v := 1) hx hb dX11_four_25 (by decide) ?_
  refine lv_iadd hx hb dX11_four_26 ?_
  refine q_val (v := (nI (n0 + 3))) (nI_add (n0 + 2) 1) ?_
  refine q_put (v := .int (nI (n0 + 3))) (w' := [(m0, .inr (11, [.int 0, .ref m_tape, .int (nI (n0 + 3)), .int 0, .int 0, .int 0, .ref m_s, .ref m_h, .ref m_read, .ref m_names, .ref m_reserved, .int 0, .int 0, .int 0, .int 0, .int 0, .int 0, .long 0, .int 0, .int 0, .int 0, .int 0, .int 0, .int 0, .int 0, .ref m_undone, .ref m_before, .int 0, .ref m_far, .ref m_wayRow, .int (-1), .ref m_keptRow, .ref m_askedRow, .ref m_rares, .ref m_trial, .int (-1), .int (-1), .ref m_hangs, .ref m_paths, .int 0, .int 0, .int 0, .int 0, .ref m_text, .int 0, .int 0, .ref m_toldAt, .int 0, .ref m_stack, .int 0, .int 0, .int 0, .int 0, .int 0, .ref m_truths, .ref m_imaged, .ref m_namesKept, .ref m_areKept])), (m_tape, .inl (cy 0, 940, .inl (upd (upd (upd f n0 (vp_nar .byte ((v >>> (24 &&& 31)).toInt8.toInt32))) (n0 + 1) (vp_nar .byte ((v >>> (16 &&& 31)).toInt8.toInt32))) (n0 + 2) (vp_nar .byte ((v >>> (8 &&& 31)).toInt8.toInt32)))))]) (ty := .int) C hP hD hS 0 2 rfl rfl inX11 tyX11 tyX11_ok nmX11 (by decide) kF_RX11_7 rfl rfl rfl rfl rfl (Nat.le_of_ble_eq_true rfl) rfl dX11_four_27 (fun H locs hP hD hS => ?_)
  refine lv_iinc (v := 0) (lv' := [(2, .int 0), (0, .ref m0), (1, .int v)]) hx hb dX11_four_30 hl (k := 0) rfl (by decide) (by decide) rfl (fun ls hl => ?_)
  refine lv_goto (tgt := 3) hx hb dX11_four_33 (by decide) ?_
  refine lv_iload_n hx hb dX11_four_3 rfl (lv_at hl 0 rfl) ?_
  refine lv_if_lt (tgt := 36) hx hb dX11_four_4 (by decide) (fun c_0 => absurd c_0 (by decide)) (fun _ => ?_)
  refine lv_aload_n hx hb dX11_four_7 rfl (lv_at hl 1 rfl) ?_
  refine q_get (v := .ref m_tape) C hP 0 1 rfl rfl inX11 (by decide) kF_RX11_14 rfl rfl dX11_four_8 ?_
  refine lv_aload_n hx hb dX11_four_11 rfl (lv_at hl 1 rfl) ?_
  refine q_get (v := .int (nI (n0 + 3))) C hP 0 2 rfl rfl inX11 (by decide) kF_RX11_7 rfl rfl dX11_four_12 ?_
  refine lv_iload_n hx hb dX11_four_15 rfl (lv_at hl 2 rfl) ?_
  refine lv_iload_n hx hb dX11_four_16 rfl (lv_at hl 0 rfl) ?_
  refine lv_ishr hx hb dX11_four_17 ?_
  refine lv_i2b (v := (v >>> (0 &&& 31)).toInt8.toInt32) hx hb dX11_four_18 rfl ?_
  refine q_bastB (g := upd (upd (upd (upd f n0 (vp_nar .byte ((v >>> (24 &&& 31)).toInt8.toInt32))) (n0 + 1) (vp_nar .byte ((v >>> (16 &&& 31)).toInt8.toInt32))) (n0 + 2) (vp_nar .byte ((v >>> (8 &&& 31)).toInt8.toInt32))) (n0 + 3) (vp_nar .byte ((v >>> (0 &&& 31)).toInt8.toInt32))) (w' := [(m0, .inr (11, [.int 0, .ref m_tape, .int (nI (n0 + 3)), .int 0, .int 0, .int 0, .ref m_s, .ref m_h, .ref m_read, .ref m_names, .ref m_reserved, .int 0, .int 0, .int 0, .int 0, .int 0, .int 0, .long 0, .int 0, .int 0, .int 0, .int 0, .int 0, .int 0, .int 0, .ref m_undone, .ref m_before, .int 0, .ref m_far, .ref m_wayRow, .int (-1), .ref m_keptRow, .ref m_askedRow, .ref m_rares, .ref m_trial, .int (-1), .int (-1), .ref m_hangs, .ref m_paths, .int 0, .int 0, .int 0, .int 0, .ref m_text, .int 0, .int 0, .ref m_toldAt, .int 0, .ref m_stack, .int 0, .int 0, .int 0, .int 0, .int 0, .ref m_truths, .ref m_imaged, .ref m_namesKept, .ref m_areKept])), (m_tape, .inl (cy 0, 940, .inl (upd (upd (upd (upd f n0 (vp_nar .byte ((v >>> (24 &&& 31)).toInt8.toInt32))) (n0 + 1) (vp_nar .byte ((v >>> (16 &&& 31)).toInt8.toInt32))) (n0 + 2) (vp_nar .byte ((v >>> (8 &&& 31)).toInt8.toInt32))) (n0 + 3) (vp_nar .byte ((v >>> (0 &&& 31)).toInt8.toInt32)))))]) C hP hD hS 1 rfl (vp_in_nI (by omega) (by decide)) (by rw [nI_clamp (by omega)]) rfl dX11_four_19 (fun H locs hP hD hS => ?_)
  refine lv_aload_n hx hb dX11_four_20 rfl (lv_at hl 1 rfl) ?_
  refine lv_dup hx hb dX11_four_21 rfl ?_
  refine q_get (v := .int (nI (n0 + 3))) C hP 0 2 rfl rfl inX11 (by decide) kF_RX11_7 rfl rfl dX11_four_22 ?_
  refine lv_iconst (v := 1) hx hb dX11_four_25 (by decide) ?_
  refine lv_iadd hx hb dX11_four_26 ?_
  refine q_val (v := (nI (n0 + 4))) (nI_add (n0 + 3) 1) ?_
  refine q_put (v := .int (nI (n0 + 4))) (w' := [(m0, .inr (11, [.int 0, .ref m_tape, .int (nI (n0 + 4)), .int 0, .int 0, .int 0, .ref m_s, .ref m_h, .ref m_read, .ref m_names, .ref m_reserved, .int 0, .int 0, .int 0, .int 0, .int 0, .int 0, .long 0, .int 0, .int 0, .int 0, .int 0, .int 0, .int 0, .int 0, .ref m_undone, .ref m_before, .int 0, .ref m_far, .ref m_wayRow, .int (-1), .ref m_keptRow, .ref m_askedRow, .ref m_rares, .ref m_trial, .int (-1), .int (-1), .ref m_hangs, .ref m_paths, .int 0, .int 0, .int 0, .int 0, .ref m_text, .int 0, .int 0, .ref m_toldAt, .int 0, .ref m_stack, .int 0, .int 0, .int 0, .int 0, .int 0, .ref m_truths, .ref m_imaged, .ref m_namesKept, .ref m_areKept])), (m_tape, .inl (cy 0, 940, .inl (upd (upd (upd (upd f n0 (vp_nar .byte ((v >>> (24 &&& 31)).toInt8.toInt32))) (n0 + 1) (vp_nar .byte ((v >>> (16 &&& 31)).toInt8.toInt32))) (n0 + 2) (vp_nar .byte ((v >>> (8 &&& 31)).toInt8.toInt32))) (n0 + 3) (vp_nar .byte ((v >>> (0 &&& 31)).toInt8.toInt32)))))]) (ty := .int) C hP hD hS 0 2 rfl rfl inX11 tyX11 tyX11_ok nmX11 (by decide) kF_RX11_7 rfl rfl rfl rfl rfl (Nat.le_of_ble_eq_true rfl) rfl dX11_four_27 (fun H locs hP hD hS => ?_)
  refine lv_iinc (v := (-8)) (lv' := [(2, .int (-8)), (0, .ref m0), (1, .int v)]) hx hb dX11_four_30 hl (k := 0) rfl (by decide) (by decide) rfl (fun ls hl => ?_)
  refine lv_goto (tgt := 3) hx hb dX11_four_33 (by decide) ?_
  refine lv_iload_n hx hb dX11_four_3 rfl (lv_at hl 0 rfl) ?_
  refine lv_if_lt (tgt := 36) hx hb dX11_four_4 (by decide) (fun _ => ?_) (fun c_0 => absurd (by decide) c_0)
  exact q_vret (rm := (Rm 0 0 0 0)) C hS (upd (upd (upd (upd f n0 (vp_nar .byte ((v >>> (24 &&& 31)).toInt8.toInt32))) (n0 + 1) (vp_nar .byte ((v >>> (16 &&& 31)).toInt8.toInt32))) (n0 + 2) (vp_nar .byte ((v >>> (8 &&& 31)).toInt8.toInt32))) (n0 + 3) (vp_nar .byte ((v >>> (0 &&& 31)).toInt8.toInt32))) trivial (q_subP hP [0, 1] rfl) (hD.sub [0, 1] (by decide) rfl) (Nat.le_of_ble_eq_true rfl) (Nat.le_of_ble_eq_true rfl) dX11_four_36
set_option maxHeartbeats 4000000 in
set_option maxRecDepth 100000 in
theorem m_taken_900 (l : Launch) (D : va_G) (cy : Nat → ClassId) (m0 : Nat) (m_tape : Nat) (m_s : Nat) (m_h : Nat) (m_read : Nat) (m_names : Nat) (m_reserved : Nat) (m_undone : Nat) (m_before : Nat) (m_far : Nat) (m_wayRow : Nat) (m_keptRow : Nat) (m_askedRow : Nat) (m_rares : Nat) (m_trial : Nat) (m_hangs : Nat) (m_paths : Nat) (m_text : Nat) (m_toldAt : Nat) (m_stack : Nat) (m_truths : Nat) (m_imaged : Nat) (m_namesKept : Nat) (m_areKept : Nat) (sz : Nat)  : MV l yX11_taken cX11_taken 2 (Rm 0 0 0 0) D cy [.ref m0, .int 900] sz [(m0, .inr (11, [.int 0, .ref m_tape, .int 0, .int 0, .int 0, .int 0, .ref m_s, .ref m_h, .ref m_read, .ref m_names, .ref m_reserved, .int 0, .int 0, .int 0, .int 0, .int 0, .int 0, .long 0, .int 0, .int 0, .int 0, .int 0, .int 0, .int 0, .int 0, .ref m_undone, .ref m_before, .int 0, .ref m_far, .ref m_wayRow, .int (-1), .ref m_keptRow, .ref m_askedRow, .ref m_rares, .ref m_trial, .int (-1), .int (-1), .ref m_hangs, .ref m_paths, .int 0, .int 0, .int 0, .int 0, .ref m_text, .int 0, .int 0, .ref m_toldAt, .int 0, .ref m_stack, .int 0, .int 0, .int 0, .int 0, .int 0, .ref m_truths, .ref m_imaged, .ref m_namesKept, .ref m_areKept]))] (fun _ : Unit => True) (fun u : Unit => [(m0, .inr (11, [.int 0, .ref m_tape, .int 0, .int 0, .int 0, .int 900, .ref m_s, .ref m_h, .ref m_read, .ref m_names, .ref m_reserved, .int 0, .int 0, .int 0, .int 0, .int 0, .int 0, .long 0, .int 0, .int 0, .int 0, .int 0, .int 0, .int 0, .int 0, .ref m_undone, .ref m_before, .int 0, .ref m_far, .ref m_wayRow, .int (-1), .ref m_keptRow, .ref m_askedRow, .ref m_rares, .ref m_trial, .int (-1), .int (-1), .ref m_hangs, .ref m_paths, .int 0, .int 0, .int 0, .int 0, .ref m_text, .int 0, .int 0, .ref m_toldAt, .int 0, .ref m_stack, .int 0, .int 0, .int 0, .int 0, .int 0, .ref m_truths, .ref m_imaged, .ref m_namesKept, .ref m_areKept]))]) := by
  refine MV.enter (by decide) (Nat.le_of_ble_eq_true rfl) ?_
  intro p e s m below meth c ls A hsz hAe C hP hD hS hl
  have C : Cx p s m _ meth c cX11_taken 2 none RX11 "taken" D cy A := C
  have hx := C.1
  have hb := C.2.1
  have hl : lv_has ls 2 [(0, .ref m0), (1, .int 900)] := hl
  refine lv_aload_n hx hb dX11_taken_0 rfl (lv_at hl 0 rfl) ?_
  refine lv_aload_n hx hb dX11_taken_1 rfl (lv_at hl 0 rfl) ?_
  refine q_get (v := .int 0) C hP 0 2 rfl rfl inX11 (by decide) kF_RX11_7 rfl rfl dX11_taken_2 ?_
  refine q_put (v := .int 0) (w' := [(m0, .inr (11, [.int 0, .ref m_tape, .int 0, .int 0, .int 0, .int 0, .ref m_s, .ref m_h, .ref m_read, .ref m_names, .ref m_reserved, .int 0, .int 0, .int 0, .int 0, .int 0, .int 0, .long 0, .int 0, .int 0, .int 0, .int 0, .int 0, .int 0, .int 0, .ref m_undone, .ref m_before, .int 0, .ref m_far, .ref m_wayRow, .int (-1), .ref m_keptRow, .ref m_askedRow, .ref m_rares, .ref m_trial, .int (-1), .int (-1), .ref m_hangs, .ref m_paths, .int 0, .int 0, .int 0, .int 0, .ref m_text, .int 0, .int 0, .ref m_toldAt, .int 0, .ref m_stack, .int 0, .int 0, .int 0, .int 0, .int 0, .ref m_truths, .ref m_imaged, .ref m_namesKept, .ref m_areKept]))]) (ty := .int) C hP hD hS 0 3 rfl rfl inX11 tyX11 tyX11_ok nmX11 (by decide) kF_RX11_18 rfl rfl rfl rfl rfl (Nat.le_of_ble_eq_true rfl) rfl dX11_taken_5 (fun H locs hP hD hS => ?_)
  refine lv_aload_n hx hb dX11_taken_8 rfl (lv_at hl 0 rfl) ?_
  refine lv_iconst (v := 0) hx hb dX11_taken_9 (by decide) ?_
  refine q_put (v := .int 0) (w' := [(m0, .inr (11, [.int 0, .ref m_tape, .int 0, .int 0, .int 0, .int 0, .ref m_s, .ref m_h, .ref m_read, .ref m_names, .ref m_reserved, .int 0, .int 0, .int 0, .int 0, .int 0, .int 0, .long 0, .int 0, .int 0, .int 0, .int 0, .int 0, .int 0, .int 0, .ref m_undone, .ref m_before, .int 0, .ref m_far, .ref m_wayRow, .int (-1), .ref m_keptRow, .ref m_askedRow, .ref m_rares, .ref m_trial, .int (-1), .int (-1), .ref m_hangs, .ref m_paths, .int 0, .int 0, .int 0, .int 0, .ref m_text, .int 0, .int 0, .ref m_toldAt, .int 0, .ref m_stack, .int 0, .int 0, .int 0, .int 0, .int 0, .ref m_truths, .ref m_imaged, .ref m_namesKept, .ref m_areKept]))]) (ty := .int) C hP hD hS 0 2 rfl rfl inX11 tyX11 tyX11_ok nmX11 (by decide) kF_RX11_7 rfl rfl rfl rfl rfl (Nat.le_of_ble_eq_true rfl) rfl dX11_taken_10 (fun H locs hP hD hS => ?_)
  refine lv_aload_n hx hb dX11_taken_13 rfl (lv_at hl 0 rfl) ?_
  refine lv_iconst (v := 0) hx hb dX11_taken_14 (by decide) ?_
  refine q_put (v := .int 0) (w' := [(m0, .inr (11, [.int 0, .ref m_tape, .int 0, .int 0, .int 0, .int 0, .ref m_s, .ref m_h, .ref m_read, .ref m_names, .ref m_reserved, .int 0, .int 0, .int 0, .int 0, .int 0, .int 0, .long 0, .int 0, .int 0, .int 0, .int 0, .int 0, .int 0, .int 0, .ref m_undone, .ref m_before, .int 0, .ref m_far, .ref m_wayRow, .int (-1), .ref m_keptRow, .ref m_askedRow, .ref m_rares, .ref m_trial, .int (-1), .int (-1), .ref m_hangs, .ref m_paths, .int 0, .int 0, .int 0, .int 0, .ref m_text, .int 0, .int 0, .ref m_toldAt, .int 0, .ref m_stack, .int 0, .int 0, .int 0, .int 0, .int 0, .ref m_truths, .ref m_imaged, .ref m_namesKept, .ref m_areKept]))]) (ty := .int) C hP hD hS 0 4 rfl rfl inX11 tyX11 tyX11_ok nmX11 (by decide) kF_RX11_21 rfl rfl rfl rfl rfl (Nat.le_of_ble_eq_true rfl) rfl dX11_taken_15 (fun H locs hP hD hS => ?_)
  refine lv_aload_n hx hb dX11_taken_18 rfl (lv_at hl 0 rfl) ?_
  refine lv_iload_n hx hb dX11_taken_19 rfl (lv_at hl 1 rfl) ?_
  refine q_put (v := .int 900) (w' := [(m0, .inr (11, [.int 0, .ref m_tape, .int 0, .int 0, .int 0, .int 900, .ref m_s, .ref m_h, .ref m_read, .ref m_names, .ref m_reserved, .int 0, .int 0, .int 0, .int 0, .int 0, .int 0, .long 0, .int 0, .int 0, .int 0, .int 0, .int 0, .int 0, .int 0, .ref m_undone, .ref m_before, .int 0, .ref m_far, .ref m_wayRow, .int (-1), .ref m_keptRow, .ref m_askedRow, .ref m_rares, .ref m_trial, .int (-1), .int (-1), .ref m_hangs, .ref m_paths, .int 0, .int 0, .int 0, .int 0, .ref m_text, .int 0, .int 0, .ref m_toldAt, .int 0, .ref m_stack, .int 0, .int 0, .int 0, .int 0, .int 0, .ref m_truths, .ref m_imaged, .ref m_namesKept, .ref m_areKept]))]) (ty := .int) C hP hD hS 0 5 rfl rfl inX11 tyX11 tyX11_ok nmX11 (by decide) kF_RX11_24 rfl rfl rfl rfl rfl (Nat.le_of_ble_eq_true rfl) rfl dX11_taken_20 (fun H locs hP hD hS => ?_)
  exact q_vret (rm := (Rm 0 0 0 0)) C hS () trivial (q_subP hP [0] rfl) (hD.sub [0] (by decide) rfl) (Nat.le_of_ble_eq_true rfl) (Nat.le_of_ble_eq_true rfl) dX11_taken_23
set_option maxHeartbeats 4000000 in
set_option maxRecDepth 100000 in
theorem m_taken_400 (l : Launch) (D : va_G) (cy : Nat → ClassId) (m0 : Nat) (m_tape : Nat) (m_s : Nat) (m_h : Nat) (m_read : Nat) (m_names : Nat) (m_reserved : Nat) (m_undone : Nat) (m_before : Nat) (m_far : Nat) (m_wayRow : Nat) (m_keptRow : Nat) (m_askedRow : Nat) (m_rares : Nat) (m_trial : Nat) (m_hangs : Nat) (m_paths : Nat) (m_text : Nat) (m_toldAt : Nat) (m_stack : Nat) (m_truths : Nat) (m_imaged : Nat) (m_namesKept : Nat) (m_areKept : Nat) (sz : Nat)  : MV l yX11_taken cX11_taken 2 (Rm 0 0 0 0) D cy [.ref m0, .int 400] sz [(m0, .inr (11, [.int 0, .ref m_tape, .int 0, .int 0, .int 0, .int 0, .ref m_s, .ref m_h, .ref m_read, .ref m_names, .ref m_reserved, .int 0, .int 0, .int 0, .int 0, .int 0, .int 0, .long 0, .int 0, .int 0, .int 0, .int 0, .int 0, .int 0, .int 0, .ref m_undone, .ref m_before, .int 0, .ref m_far, .ref m_wayRow, .int (-1), .ref m_keptRow, .ref m_askedRow, .ref m_rares, .ref m_trial, .int (-1), .int (-1), .ref m_hangs, .ref m_paths, .int 0, .int 0, .int 0, .int 0, .ref m_text, .int 0, .int 0, .ref m_toldAt, .int 0, .ref m_stack, .int 0, .int 0, .int 0, .int 0, .int 0, .ref m_truths, .ref m_imaged, .ref m_namesKept, .ref m_areKept]))] (fun _ : Unit => True) (fun u : Unit => [(m0, .inr (11, [.int 0, .ref m_tape, .int 0, .int 0, .int 0, .int 400, .ref m_s, .ref m_h, .ref m_read, .ref m_names, .ref m_reserved, .int 0, .int 0, .int 0, .int 0, .int 0, .int 0, .long 0, .int 0, .int 0, .int 0, .int 0, .int 0, .int 0, .int 0, .ref m_undone, .ref m_before, .int 0, .ref m_far, .ref m_wayRow, .int (-1), .ref m_keptRow, .ref m_askedRow, .ref m_rares, .ref m_trial, .int (-1), .int (-1), .ref m_hangs, .ref m_paths, .int 0, .int 0, .int 0, .int 0, .ref m_text, .int 0, .int 0, .ref m_toldAt, .int 0, .ref m_stack, .int 0, .int 0, .int 0, .int 0, .int 0, .ref m_truths, .ref m_imaged, .ref m_namesKept, .ref m_areKept]))]) := by
  refine MV.enter (by decide) (Nat.le_of_ble_eq_true rfl) ?_
  intro p e s m below meth c ls A hsz hAe C hP hD hS hl
  have C : Cx p s m _ meth c cX11_taken 2 none RX11 "taken" D cy A := C
  have hx := C.1
  have hb := C.2.1
  have hl : lv_has ls 2 [(0, .ref m0), (1, .int 400)] := hl
  refine lv_aload_n hx hb dX11_taken_0 rfl (lv_at hl 0 rfl) ?_
  refine lv_aload_n hx hb dX11_taken_1 rfl (lv_at hl 0 rfl) ?_
  refine q_get (v := .int 0) C hP 0 2 rfl rfl inX11 (by decide) kF_RX11_7 rfl rfl dX11_taken_2 ?_
  refine q_put (v := .int 0) (w' := [(m0, .inr (11, [.int 0, .ref m_tape, .int 0, .int 0, .int 0, .int 0, .ref m_s, .ref m_h, .ref m_read, .ref m_names, .ref m_reserved, .int 0, .int 0, .int 0, .int 0, .int 0, .int 0, .long 0, .int 0, .int 0, .int 0, .int 0, .int 0, .int 0, .int 0, .ref m_undone, .ref m_before, .int 0, .ref m_far, .ref m_wayRow, .int (-1), .ref m_keptRow, .ref m_askedRow, .ref m_rares, .ref m_trial, .int (-1), .int (-1), .ref m_hangs, .ref m_paths, .int 0, .int 0, .int 0, .int 0, .ref m_text, .int 0, .int 0, .ref m_toldAt, .int 0, .ref m_stack, .int 0, .int 0, .int 0, .int 0, .int 0, .ref m_truths, .ref m_imaged, .ref m_namesKept, .ref m_areKept]))]) (ty := .int) C hP hD hS 0 3 rfl rfl inX11 tyX11 tyX11_ok nmX11 (by decide) kF_RX11_18 rfl rfl rfl rfl rfl (Nat.le_of_ble_eq_true rfl) rfl dX11_taken_5 (fun H locs hP hD hS => ?_)
  refine lv_aload_n hx hb dX11_taken_8 rfl (lv_at hl 0 rfl) ?_
  refine lv_iconst (v := 0) hx hb dX11_taken_9 (by decide) ?_
  refine q_put (v := .int 0) (w' := [(m0, .inr (11, [.int 0, .ref m_tape, .int 0, .int 0, .int 0, .int 0, .ref m_s, .ref m_h, .ref m_read, .ref m_names, .ref m_reserved, .int 0, .int 0, .int 0, .int 0, .int 0, .int 0, .long 0, .int 0, .int 0, .int 0, .int 0, .int 0, .int 0, .int 0, .ref m_undone, .ref m_before, .int 0, .ref m_far, .ref m_wayRow, .int (-1), .ref m_keptRow, .ref m_askedRow, .ref m_rares, .ref m_trial, .int (-1), .int (-1), .ref m_hangs, .ref m_paths, .int 0, .int 0, .int 0, .int 0, .ref m_text, .int 0, .int 0, .ref m_toldAt, .int 0, .ref m_stack, .int 0, .int 0, .int 0, .int 0, .int 0, .ref m_truths, .ref m_imaged, .ref m_namesKept, .ref m_areKept]))]) (ty := .int) C hP hD hS 0 2 rfl rfl inX11 tyX11 tyX11_ok nmX11 (by decide) kF_RX11_7 rfl rfl rfl rfl rfl (Nat.le_of_ble_eq_true rfl) rfl dX11_taken_10 (fun H locs hP hD hS => ?_)
  refine lv_aload_n hx hb dX11_taken_13 rfl (lv_at hl 0 rfl) ?_
  refine lv_iconst (v := 0) hx hb dX11_taken_14 (by decide) ?_
  refine q_put (v := .int 0) (w' := [(m0, .inr (11, [.int 0, .ref m_tape, .int 0, .int 0, .int 0, .int 0, .ref m_s, .ref m_h, .ref m_read, .ref m_names, .ref m_reserved, .int 0, .int 0, .int 0, .int 0, .int 0, .int 0, .long 0, .int 0, .int 0, .int 0, .int 0, .int 0, .int 0, .int 0, .ref m_undone, .ref m_before, .int 0, .ref m_far, .ref m_wayRow, .int (-1), .ref m_keptRow, .ref m_askedRow, .ref m_rares, .ref m_trial, .int (-1), .int (-1), .ref m_hangs, .ref m_paths, .int 0, .int 0, .int 0, .int 0, .ref m_text, .int 0, .int 0, .ref m_toldAt, .int 0, .ref m_stack, .int 0, .int 0, .int 0, .int 0, .int 0, .ref m_truths, .ref m_imaged, .ref m_namesKept, .ref m_areKept]))]) (ty := .int) C hP hD hS 0 4 rfl rfl inX11 tyX11 tyX11_ok nmX11 (by decide) kF_RX11_21 rfl rfl rfl rfl rfl (Nat.le_of_ble_eq_true rfl) rfl dX11_taken_15 (fun H locs hP hD hS => ?_)
  refine lv_aload_n hx hb dX11_taken_18 rfl (lv_at hl 0 rfl) ?_
  refine lv_iload_n hx hb dX11_taken_19 rfl (lv_at hl 1 rfl) ?_
  refine q_put (v := .int 400) (w' := [(m0, .inr (11, [.int 0, .ref m_tape, .int 0, .int 0, .int 0, .int 400, .ref m_s, .ref m_h, .ref m_read, .ref m_names, .ref m_reserved, .int 0, .int 0, .int 0, .int 0, .int 0, .int 0, .long 0, .int 0, .int 0, .int 0, .int 0, .int 0, .int 0, .int 0, .ref m_undone, .ref m_before, .int 0, .ref m_far, .ref m_wayRow, .int (-1), .ref m_keptRow, .ref m_askedRow, .ref m_rares, .ref m_trial, .int (-1), .int (-1), .ref m_hangs, .ref m_paths, .int 0, .int 0, .int 0, .int 0, .ref m_text, .int 0, .int 0, .ref m_toldAt, .int 0, .ref m_stack, .int 0, .int 0, .int 0, .int 0, .int 0, .ref m_truths, .ref m_imaged, .ref m_namesKept, .ref m_areKept]))]) (ty := .int) C hP hD hS 0 5 rfl rfl inX11 tyX11 tyX11_ok nmX11 (by decide) kF_RX11_24 rfl rfl rfl rfl rfl (Nat.le_of_ble_eq_true rfl) rfl dX11_taken_20 (fun H locs hP hD hS => ?_)
  exact q_vret (rm := (Rm 0 0 0 0)) C hS () trivial (q_subP hP [0] rfl) (hD.sub [0] (by decide) rfl) (Nat.le_of_ble_eq_true rfl) (Nat.le_of_ble_eq_true rfl) dX11_taken_23
set_option maxHeartbeats 4000000 in
set_option maxRecDepth 100000 in
theorem m_taken_200 (l : Launch) (D : va_G) (cy : Nat → ClassId) (m0 : Nat) (m_tape : Nat) (m_s : Nat) (m_h : Nat) (m_read : Nat) (m_names : Nat) (m_reserved : Nat) (m_undone : Nat) (m_before : Nat) (m_far : Nat) (m_wayRow : Nat) (m_keptRow : Nat) (m_askedRow : Nat) (m_rares : Nat) (m_trial : Nat) (m_hangs : Nat) (m_paths : Nat) (m_text : Nat) (m_toldAt : Nat) (m_stack : Nat) (m_truths : Nat) (m_imaged : Nat) (m_namesKept : Nat) (m_areKept : Nat) (sz : Nat)  : MV l yX11_taken cX11_taken 2 (Rm 0 0 0 0) D cy [.ref m0, .int 200] sz [(m0, .inr (11, [.int 0, .ref m_tape, .int 0, .int 0, .int 0, .int 0, .ref m_s, .ref m_h, .ref m_read, .ref m_names, .ref m_reserved, .int 0, .int 0, .int 0, .int 0, .int 0, .int 0, .long 0, .int 0, .int 0, .int 0, .int 0, .int 0, .int 0, .int 0, .ref m_undone, .ref m_before, .int 0, .ref m_far, .ref m_wayRow, .int (-1), .ref m_keptRow, .ref m_askedRow, .ref m_rares, .ref m_trial, .int (-1), .int (-1), .ref m_hangs, .ref m_paths, .int 0, .int 0, .int 0, .int 0, .ref m_text, .int 0, .int 0, .ref m_toldAt, .int 0, .ref m_stack, .int 0, .int 0, .int 0, .int 0, .int 0, .ref m_truths, .ref m_imaged, .ref m_namesKept, .ref m_areKept]))] (fun _ : Unit => True) (fun u : Unit => [(m0, .inr (11, [.int 0, .ref m_tape, .int 0, .int 0, .int 0, .int 200, .ref m_s, .ref m_h, .ref m_read, .ref m_names, .ref m_reserved, .int 0, .int 0, .int 0, .int 0, .int 0, .int 0, .long 0, .int 0, .int 0, .int 0, .int 0, .int 0, .int 0, .int 0, .ref m_undone, .ref m_before, .int 0, .ref m_far, .ref m_wayRow, .int (-1), .ref m_keptRow, .ref m_askedRow, .ref m_rares, .ref m_trial, .int (-1), .int (-1), .ref m_hangs, .ref m_paths, .int 0, .int 0, .int 0, .int 0, .ref m_text, .int 0, .int 0, .ref m_toldAt, .int 0, .ref m_stack, .int 0, .int 0, .int 0, .int 0, .int 0, .ref m_truths, .ref m_imaged, .ref m_namesKept, .ref m_areKept]))]) := by
  refine MV.enter (by decide) (Nat.le_of_ble_eq_true rfl) ?_
  intro p e s m below meth c ls A hsz hAe C hP hD hS hl
  have C : Cx p s m _ meth c cX11_taken 2 none RX11 "taken" D cy A := C
  have hx := C.1
  have hb := C.2.1
  have hl : lv_has ls 2 [(0, .ref m0), (1, .int 200)] := hl
  refine lv_aload_n hx hb dX11_taken_0 rfl (lv_at hl 0 rfl) ?_
  refine lv_aload_n hx hb dX11_taken_1 rfl (lv_at hl 0 rfl) ?_
  refine q_get (v := .int 0) C hP 0 2 rfl rfl inX11 (by decide) kF_RX11_7 rfl rfl dX11_taken_2 ?_
  refine q_put (v := .int 0) (w' := [(m0, .inr (11, [.int 0, .ref m_tape, .int 0, .int 0, .int 0, .int 0, .ref m_s, .ref m_h, .ref m_read, .ref m_names, .ref m_reserved, .int 0, .int 0, .int 0, .int 0, .int 0, .int 0, .long 0, .int 0, .int 0, .int 0, .int 0, .int 0, .int 0, .int 0, .ref m_undone, .ref m_before, .int 0, .ref m_far, .ref m_wayRow, .int (-1), .ref m_keptRow, .ref m_askedRow, .ref m_rares, .ref m_trial, .int (-1), .int (-1), .ref m_hangs, .ref m_paths, .int 0, .int 0, .int 0, .int 0, .ref m_text, .int 0, .int 0, .ref m_toldAt, .int 0, .ref m_stack, .int 0, .int 0, .int 0, .int 0, .int 0, .ref m_truths, .ref m_imaged, .ref m_namesKept, .ref m_areKept]))]) (ty := .int) C hP hD hS 0 3 rfl rfl inX11 tyX11 tyX11_ok nmX11 (by decide) kF_RX11_18 rfl rfl rfl rfl rfl (Nat.le_of_ble_eq_true rfl) rfl dX11_taken_5 (fun H locs hP hD hS => ?_)
  refine lv_aload_n hx hb dX11_taken_8 rfl (lv_at hl 0 rfl) ?_
  refine lv_iconst (v := 0) hx hb dX11_taken_9 (by decide) ?_
  refine q_put (v := .int 0) (w' := [(m0, .inr (11, [.int 0, .ref m_tape, .int 0, .int 0, .int 0, .int 0, .ref m_s, .ref m_h, .ref m_read, .ref m_names, .ref m_reserved, .int 0, .int 0, .int 0, .int 0, .int 0, .int 0, .long 0, .int 0, .int 0, .int 0, .int 0, .int 0, .int 0, .int 0, .ref m_undone, .ref m_before, .int 0, .ref m_far, .ref m_wayRow, .int (-1), .ref m_keptRow, .ref m_askedRow, .ref m_rares, .ref m_trial, .int (-1), .int (-1), .ref m_hangs, .ref m_paths, .int 0, .int 0, .int 0, .int 0, .ref m_text, .int 0, .int 0, .ref m_toldAt, .int 0, .ref m_stack, .int 0, .int 0, .int 0, .int 0, .int 0, .ref m_truths, .ref m_imaged, .ref m_namesKept, .ref m_areKept]))]) (ty := .int) C hP hD hS 0 2 rfl rfl inX11 tyX11 tyX11_ok nmX11 (by decide) kF_RX11_7 rfl rfl rfl rfl rfl (Nat.le_of_ble_eq_true rfl) rfl dX11_taken_10 (fun H locs hP hD hS => ?_)
  refine lv_aload_n hx hb dX11_taken_13 rfl (lv_at hl 0 rfl) ?_
  refine lv_iconst (v := 0) hx hb dX11_taken_14 (by decide) ?_
  refine q_put (v := .int 0) (w' := [(m0, .inr (11, [.int 0, .ref m_tape, .int 0, .int 0, .int 0, .int 0, .ref m_s, .ref m_h, .ref m_read, .ref m_names, .ref m_reserved, .int 0, .int 0, .int 0, .int 0, .int 0, .int 0, .long 0, .int 0, .int 0, .int 0, .int 0, .int 0, .int 0, .int 0, .ref m_undone, .ref m_before, .int 0, .ref m_far, .ref m_wayRow, .int (-1), .ref m_keptRow, .ref m_askedRow, .ref m_rares, .ref m_trial, .int (-1), .int (-1), .ref m_hangs, .ref m_paths, .int 0, .int 0, .int 0, .int 0, .ref m_text, .int 0, .int 0, .ref m_toldAt, .int 0, .ref m_stack, .int 0, .int 0, .int 0, .int 0, .int 0, .ref m_truths, .ref m_imaged, .ref m_namesKept, .ref m_areKept]))]) (ty := .int) C hP hD hS 0 4 rfl rfl inX11 tyX11 tyX11_ok nmX11 (by decide) kF_RX11_21 rfl rfl rfl rfl rfl (Nat.le_of_ble_eq_true rfl) rfl dX11_taken_15 (fun H locs hP hD hS => ?_)
  refine lv_aload_n hx hb dX11_taken_18 rfl (lv_at hl 0 rfl) ?_
  refine lv_iload_n hx hb dX11_taken_19 rfl (lv_at hl 1 rfl) ?_
  refine q_put (v := .int 200) (w' := [(m0, .inr (11, [.int 0, .ref m_tape, .int 0, .int 0, .int 0, .int 200, .ref m_s, .ref m_h, .ref m_read, .ref m_names, .ref m_reserved, .int 0, .int 0, .int 0, .int 0, .int 0, .int 0, .long 0, .int 0, .int 0, .int 0, .int 0, .int 0, .int 0, .int 0, .ref m_undone, .ref m_before, .int 0, .ref m_far, .ref m_wayRow, .int (-1), .ref m_keptRow, .ref m_askedRow, .ref m_rares, .ref m_trial, .int (-1), .int (-1), .ref m_hangs, .ref m_paths, .int 0, .int 0, .int 0, .int 0, .ref m_text, .int 0, .int 0, .ref m_toldAt, .int 0, .ref m_stack, .int 0, .int 0, .int 0, .int 0, .int 0, .ref m_truths, .ref m_imaged, .ref m_namesKept, .ref m_areKept]))]) (ty := .int) C hP hD hS 0 5 rfl rfl inX11 tyX11 tyX11_ok nmX11 (by decide) kF_RX11_24 rfl rfl rfl rfl rfl (Nat.le_of_ble_eq_true rfl) rfl dX11_taken_20 (fun H locs hP hD hS => ?_)
  exact q_vret (rm := (Rm 0 0 0 0)) C hS () trivial (q_subP hP [0] rfl) (hD.sub [0] (by decide) rfl) (Nat.le_of_ble_eq_true rfl) (Nat.le_of_ble_eq_true rfl) dX11_taken_23
set_option maxHeartbeats 4000000 in
set_option maxRecDepth 100000 in
theorem m_taken_940 (l : Launch) (D : va_G) (cy : Nat → ClassId) (m0 : Nat) (m_tape : Nat) (m_s : Nat) (m_h : Nat) (m_read : Nat) (m_names : Nat) (m_reserved : Nat) (m_undone : Nat) (m_before : Nat) (m_far : Nat) (m_wayRow : Nat) (m_keptRow : Nat) (m_askedRow : Nat) (m_rares : Nat) (m_trial : Nat) (m_hangs : Nat) (m_paths : Nat) (m_text : Nat) (m_toldAt : Nat) (m_stack : Nat) (m_truths : Nat) (m_imaged : Nat) (m_namesKept : Nat) (m_areKept : Nat) (sz : Nat)  : MV l yX11_taken cX11_taken 2 (Rm 0 0 0 0) D cy [.ref m0, .int 940] sz [(m0, .inr (11, [.int 0, .ref m_tape, .int 0, .int 0, .int 0, .int 0, .ref m_s, .ref m_h, .ref m_read, .ref m_names, .ref m_reserved, .int 0, .int 0, .int 0, .int 0, .int 0, .int 0, .long 0, .int 0, .int 0, .int 0, .int 0, .int 0, .int 0, .int 0, .ref m_undone, .ref m_before, .int 0, .ref m_far, .ref m_wayRow, .int (-1), .ref m_keptRow, .ref m_askedRow, .ref m_rares, .ref m_trial, .int (-1), .int (-1), .ref m_hangs, .ref m_paths, .int 0, .int 0, .int 0, .int 0, .ref m_text, .int 0, .int 0, .ref m_toldAt, .int 0, .ref m_stack, .int 0, .int 0, .int 0, .int 0, .int 0, .ref m_truths, .ref m_imaged, .ref m_namesKept, .ref m_areKept]))] (fun _ : Unit => True) (fun u : Unit => [(m0, .inr (11, [.int 0, .ref m_tape, .int 0, .int 0, .int 0, .int 940, .ref m_s, .ref m_h, .ref m_read, .ref m_names, .ref m_reserved, .int 0, .int 0, .int 0, .int 0, .int 0, .int 0, .long 0, .int 0, .int 0, .int 0, .int 0, .int 0, .int 0, .int 0, .ref m_undone, .ref m_before, .int 0, .ref m_far, .ref m_wayRow, .int (-1), .ref m_keptRow, .ref m_askedRow, .ref m_rares, .ref m_trial, .int (-1), .int (-1), .ref m_hangs, .ref m_paths, .int 0, .int 0, .int 0, .int 0, .ref m_text, .int 0, .int 0, .ref m_toldAt, .int 0, .ref m_stack, .int 0, .int 0, .int 0, .int 0, .int 0, .ref m_truths, .ref m_imaged, .ref m_namesKept, .ref m_areKept]))]) := by
  refine MV.enter (by decide) (Nat.le_of_ble_eq_true rfl) ?_
  intro p e s m below meth c ls A hsz hAe C hP hD hS hl
  have C : Cx p s m _ meth c cX11_taken 2 none RX11 "taken" D cy A := C
  have hx := C.1
  have hb := C.2.1
  have hl : lv_has ls 2 [(0, .ref m0), (1, .int 940)] := hl
  refine lv_aload_n hx hb dX11_taken_0 rfl (lv_at hl 0 rfl) ?_
  refine lv_aload_n hx hb dX11_taken_1 rfl (lv_at hl 0 rfl) ?_
  refine q_get (v := .int 0) C hP 0 2 rfl rfl inX11 (by decide) kF_RX11_7 rfl rfl dX11_taken_2 ?_
  refine q_put (v := .int 0) (w' := [(m0, .inr (11, [.int 0, .ref m_tape, .int 0, .int 0, .int 0, .int 0, .ref m_s, .ref m_h, .ref m_read, .ref m_names, .ref m_reserved, .int 0, .int 0, .int 0, .int 0, .int 0, .int 0, .long 0, .int 0, .int 0, .int 0, .int 0, .int 0, .int 0, .int 0, .ref m_undone, .ref m_before, .int 0, .ref m_far, .ref m_wayRow, .int (-1), .ref m_keptRow, .ref m_askedRow, .ref m_rares, .ref m_trial, .int (-1), .int (-1), .ref m_hangs, .ref m_paths, .int 0, .int 0, .int 0, .int 0, .ref m_text, .int 0, .int 0, .ref m_toldAt, .int 0, .ref m_stack, .int 0, .int 0, .int 0, .int 0, .int 0, .ref m_truths, .ref m_imaged, .ref m_namesKept, .ref m_areKept]))]) (ty := .int) C hP hD hS 0 3 rfl rfl inX11 tyX11 tyX11_ok nmX11 (by decide) kF_RX11_18 rfl rfl rfl rfl rfl (Nat.le_of_ble_eq_true rfl) rfl dX11_taken_5 (fun H locs hP hD hS => ?_)
  refine lv_aload_n hx hb dX11_taken_8 rfl (lv_at hl 0 rfl) ?_
  refine lv_iconst (v := 0) hx hb dX11_taken_9 (by decide) ?_
  refine q_put (v := .int 0) (w' := [(m0, .inr (11, [.int 0, .ref m_tape, .int 0, .int 0, .int 0, .int 0, .ref m_s, .ref m_h, .ref m_read, .ref m_names, .ref m_reserved, .int 0, .int 0, .int 0, .int 0, .int 0, .int 0, .long 0, .int 0, .int 0, .int 0, .int 0, .int 0, .int 0, .int 0, .ref m_undone, .ref m_before, .int 0, .ref m_far, .ref m_wayRow, .int (-1), .ref m_keptRow, .ref m_askedRow, .ref m_rares, .ref m_trial, .int (-1), .int (-1), .ref m_hangs, .ref m_paths, .int 0, .int 0, .int 0, .int 0, .ref m_text, .int 0, .int 0, .ref m_toldAt, .int 0, .ref m_stack, .int 0, .int 0, .int 0, .int 0, .int 0, .ref m_truths, .ref m_imaged, .ref m_namesKept, .ref m_areKept]))]) (ty := .int) C hP hD hS 0 2 rfl rfl inX11 tyX11 tyX11_ok nmX11 (by decide) kF_RX11_7 rfl rfl rfl rfl rfl (Nat.le_of_ble_eq_true rfl) rfl dX11_taken_10 (fun H locs hP hD hS => ?_)
  refine lv_aload_n hx hb dX11_taken_13 rfl (lv_at hl 0 rfl) ?_
  refine lv_iconst (v := 0) hx hb dX11_taken_14 (by decide) ?_
  refine q_put (v := .int 0) (w' := [(m0, .inr (11, [.int 0, .ref m_tape, .int 0, .int 0, .int 0, .int 0, .ref m_s, .ref m_h, .ref m_read, .ref m_names, .ref m_reserved, .int 0, .int 0, .int 0, .int 0, .int 0, .int 0, .long 0, .int 0, .int 0, .int 0, .int 0, .int 0, .int 0, .int 0, .ref m_undone, .ref m_before, .int 0, .ref m_far, .ref m_wayRow, .int (-1), .ref m_keptRow, .ref m_askedRow, .ref m_rares, .ref m_trial, .int (-1), .int (-1), .ref m_hangs, .ref m_paths, .int 0, .int 0, .int 0, .int 0, .ref m_text, .int 0, .int 0, .ref m_toldAt, .int 0, .ref m_stack, .int 0, .int 0, .int 0, .int 0, .int 0, .ref m_truths, .ref m_imaged, .ref m_namesKept, .ref m_areKept]))]) (ty := .int) C hP hD hS 0 4 rfl rfl inX11 tyX11 tyX11_ok nmX11 (by decide) kF_RX11_21 rfl rfl rfl rfl rfl (Nat.le_of_ble_eq_true rfl) rfl dX11_taken_15 (fun H locs hP hD hS => ?_)
  refine lv_aload_n hx hb dX11_taken_18 rfl (lv_at hl 0 rfl) ?_
  refine lv_iload_n hx hb dX11_taken_19 rfl (lv_at hl 1 rfl) ?_
  refine q_put (v := .int 940) (w' := [(m0, .inr (11, [.int 0, .ref m_tape, .int 0, .int 0, .int 0, .int 940, .ref m_s, .ref m_h, .ref m_read, .ref m_names, .ref m_reserved, .int 0, .int 0, .int 0, .int 0, .int 0, .int 0, .long 0, .int 0, .int 0, .int 0, .int 0, .int 0, .int 0, .int 0, .ref m_undone, .ref m_before, .int 0, .ref m_far, .ref m_wayRow, .int (-1), .ref m_keptRow, .ref m_askedRow, .ref m_rares, .ref m_trial, .int (-1), .int (-1), .ref m_hangs, .ref m_paths, .int 0, .int 0, .int 0, .int 0, .ref m_text, .int 0, .int 0, .ref m_toldAt, .int 0, .ref m_stack, .int 0, .int 0, .int 0, .int 0, .int 0, .ref m_truths, .ref m_imaged, .ref m_namesKept, .ref m_areKept]))]) (ty := .int) C hP hD hS 0 5 rfl rfl inX11 tyX11 tyX11_ok nmX11 (by decide) kF_RX11_24 rfl rfl rfl rfl rfl (Nat.le_of_ble_eq_true rfl) rfl dX11_taken_20 (fun H locs hP hD hS => ?_)
  exact q_vret (rm := (Rm 0 0 0 0)) C hS () trivial (q_subP hP [0] rfl) (hD.sub [0] (by decide) rfl) (Nat.le_of_ble_eq_true rfl) (Nat.le_of_ble_eq_true rfl) dX11_taken_23
set_option maxHeartbeats 4000000 in
set_option maxRecDepth 100000 in
theorem m_peek (l : Launch) (D : va_G) (cy : Nat → ClassId) (m0 : Nat) (m_tape : Nat) (v : Int32) (m_s : Nat) (m_h : Nat) (m_read : Nat) (m_names : Nat) (m_reserved : Nat) (m_undone : Nat) (m_before : Nat) (m_far : Nat) (m_wayRow : Nat) (m_keptRow : Nat) (m_askedRow : Nat) (m_rares : Nat) (m_trial : Nat) (m_hangs : Nat) (m_paths : Nat) (m_text : Nat) (m_toldAt : Nat) (m_stack : Nat) (v2 : Int32) (m_truths : Nat) (m_imaged : Nat) (m_namesKept : Nat) (m_areKept : Nat) (sz : Nat)  : MI l yX11_peek cX11_peek 1 (some .int) (Rm 0 0 0 0) D cy [.ref m0] sz [(m0, .inr (11, [.int 0, .ref m_tape, .int 0, .int 0, .int 0, .int v, .ref m_s, .ref m_h, .ref m_read, .ref m_names, .ref m_reserved, .int 0, .int 0, .int 0, .int 0, .int 0, .int 0, .long 0, .int 0, .int 0, .int 0, .int 0, .int 0, .int 0, .int 0, .ref m_undone, .ref m_before, .int 0, .ref m_far, .ref m_wayRow, .int (-1), .ref m_keptRow, .ref m_askedRow, .ref m_rares, .ref m_trial, .int (-1), .int (-1), .ref m_hangs, .ref m_paths, .int 0, .int 0, .int 0, .int 0, .ref m_text, .int 0, .int 0, .ref m_toldAt, .int 0, .ref m_stack, .int 0, .int 0, .int 0, .int v2, .int 0, .ref m_truths, .ref m_imaged, .ref m_namesKept, .ref m_areKept]))] (fun (r : Int32) (u : Unit) => r = (-1)) (fun u : Unit => [(m0, .inr (11, [.int 0, .ref m_tape, .int 0, .int 0, .int 0, .int v, .ref m_s, .ref m_h, .ref m_read, .ref m_names, .ref m_reserved, .int 0, .int 0, .int 0, .int 0, .int 0, .int 0, .long 0, .int 0, .int 0, .int 0, .int 0, .int 0, .int 0, .int 0, .ref m_undone, .ref m_before, .int 0, .ref m_far, .ref m_wayRow, .int (-1), .ref m_keptRow, .ref m_askedRow, .ref m_rares, .ref m_trial, .int (-1), .int (-1), .ref m_hangs, .ref m_paths, .int 0, .int 0, .int 0, .int 0, .ref m_text, .int 0, .int 0, .ref m_toldAt, .int 0, .ref m_stack, .int 0, .int 0, .int 0, .int v2, .int 0, .ref m_truths, .ref m_imaged, .ref m_namesKept, .ref m_areKept]))]) := by
  refine MI.enter (by decide) (Nat.le_of_ble_eq_true rfl) ?_
  intro p e s m below meth c ls A hsz hAe C hP hD hS hl
  have C : Cx p s m _ meth c cX11_peek 1 (some .int) RX11 "peek" D cy A := C
  have hx := C.1
  have hb := C.2.1
  have hl : lv_has ls 1 [(0, .ref m0)] := hl
  refine lv_aload_n hx hb dX11_peek_0 rfl (lv_at hl 0 rfl) ?_
  refine q_get (v := .int 0) C hP 0 4 rfl rfl inX11 (by decide) kF_RX11_21 rfl rfl dX11_peek_1 ?_
  refine lv_aload_n hx hb dX11_peek_4 rfl (lv_at hl 0 rfl) ?_
  refine q_get (v := .int 0) C hP 0 3 rfl rfl inX11 (by decide) kF_RX11_18 rfl rfl dX11_peek_5 ?_
  refine lv_icmp_ge (tgt := 27) hx hb dX11_peek_8 (by decide) (fun _ => ?_) (fun c_0 => absurd (by decide) c_0)
  refine lv_iconst (v := (-1)) hx hb dX11_peek_27 (by decide) ?_
  exact q_iret (rm := (Rm 0 0 0 0)) C hS () rfl rfl (q_subP hP [0] rfl) (hD.sub [0] (by decide) rfl) (Nat.le_of_ble_eq_true rfl) (Nat.le_of_ble_eq_true rfl) dX11_peek_28
set_option maxHeartbeats 4000000 in
set_option maxRecDepth 100000 in
theorem m_next900 (l : Launch) (D : va_G) (cy : Nat → ClassId) (m0 : Nat) (m_tape : Nat) (m_s : Nat) (m_h : Nat) (m_read : Nat) (m_names : Nat) (m_reserved : Nat) (m_undone : Nat) (m_before : Nat) (m_far : Nat) (m_wayRow : Nat) (m_keptRow : Nat) (m_askedRow : Nat) (m_rares : Nat) (m_trial : Nat) (m_hangs : Nat) (m_paths : Nat) (m_text : Nat) (m_toldAt : Nat) (m_stack : Nat) (m_truths : Nat) (m_imaged : Nat) (m_namesKept : Nat) (m_areKept : Nat) (sz : Nat)  : MV l yX11_next cX11_next 4 (Rm 1 20 0 0) D cy [.ref m0] sz [(m0, .inr (11, [.int 0, .ref m_tape, .int 0, .int 0, .int 0, .int 900, .ref m_s, .ref m_h, .ref m_read, .ref m_names, .ref m_reserved, .int 0, .int 0, .int 0, .int 0, .int 0, .int 0, .long 0, .int 0, .int 0, .int 0, .int 0, .int 0, .int 0, .int 0, .ref m_undone, .ref m_before, .int 0, .ref m_far, .ref m_wayRow, .int (-1), .ref m_keptRow, .ref m_askedRow, .ref m_rares, .ref m_trial, .int (-1), .int (-1), .ref m_hangs, .ref m_paths, .int 0, .int 0, .int 0, .int 0, .ref m_text, .int 0, .int 0, .ref m_toldAt, .int 0, .ref m_stack, .int 0, .int 0, .int 0, .int 0, .int 0, .ref m_truths, .ref m_imaged, .ref m_namesKept, .ref m_areKept]))] (fun _ : Unit => True) (fun u : Unit => [(m0, .inr (11, [.int 0, .ref m_tape, .int 0, .int 0, .int 0, .int 900, .ref m_s, .ref m_h, .ref m_read, .ref m_names, .ref m_reserved, .int 0, .int 0, .int 0, .int 0, .int 0, .int 0, .long 0, .int 0, .int 0, .int 0, .int 0, .int 0, .int 0, .int 0, .ref m_undone, .ref m_before, .int 0, .ref m_far, .ref m_wayRow, .int (-1), .ref m_keptRow, .ref m_askedRow, .ref m_rares, .ref m_trial, .int (-1), .int (-1), .ref m_hangs, .ref m_paths, .int 0, .int 0, .int 0, .int 0, .ref m_text, .int 0, .int 0, .ref m_toldAt, .int 0, .ref m_stack, .int 0, .int 0, .int 0, .int 0, .int 0, .ref m_truths, .ref m_imaged, .ref m_namesKept, .ref m_areKept]))]) := by
  refine MV.enter (by decide) (Nat.le_of_ble_eq_true rfl) ?_
  intro p e s m below meth c ls A hsz hAe C hP hD hS hl
  have C : Cx p s m _ meth c cX11_next 4 none RX11 "next" D cy A := C
  have hx := C.1
  have hb := C.2.1
  have hl : lv_has ls 4 [(0, .ref m0)] := hl
  refine lv_aload_n hx hb dX11_next_0 rfl (lv_at hl 0 rfl) ?_
  refine q_ai (wr := []) (r_V (q0 := 0) (As := []) (rest := []) (wc := [(m0, .inr (11, [.int 0, .ref m_tape, .int 0, .int 0, .int 0, .int 900, .ref m_s, .ref m_h, .ref m_read, .ref m_names, .ref m_reserved, .int 0, .int 0, .int 0, .int 0, .int 0, .int 0, .long 0, .int 0, .int 0, .int 0, .int 0, .int 0, .int 0, .int 0, .ref m_undone, .ref m_before, .int 0, .ref m_far, .ref m_wayRow, .int (-1), .ref m_keptRow, .ref m_askedRow, .ref m_rares, .ref m_trial, .int (-1), .int (-1), .ref m_hangs, .ref m_paths, .int 0, .int 0, .int 0, .int 0, .ref m_text, .int 0, .int 0, .ref m_toldAt, .int 0, .ref m_stack, .int 0, .int 0, .int 0, .int 0, .int 0, .ref m_truths, .ref m_imaged, .ref m_namesKept, .ref m_areKept]))]) C (q_subP hP [0] rfl) (hD.sub [0] (by decide) rfl) (m_peek l D cy m0 m_tape 900 m_s m_h m_read m_names m_reserved m_undone m_before m_far m_wayRow m_keptRow m_askedRow m_rares m_trial m_hangs m_paths m_text m_toldAt m_stack 0 m_truths m_imaged m_namesKept m_areKept _ ) kwV_X11_peek kM_RX11_164 rfl rfl ⟨Nat.le_of_ble_eq_true rfl, Nat.le_of_ble_eq_true rfl⟩ rfl hl.1 rfl (Nat.le_of_ble_eq_true rfl) dX11_next_1 ⟨Nat.le_of_ble_eq_true rfl, Nat.le_of_ble_eq_true rfl⟩) C.2.2.2.2.2.2.1 hP hD hS [0] [] rfl rfl (by decide) (by decide) (fun r_2 u_1 H locs hw_3 hP hD hS => ?_)
  have hP : va_P D vwCl [(m0, .inr (11, [.int 0, .ref m_tape, .int 0, .int 0, .int 0, .int 900, .ref m_s, .ref m_h, .ref m_read, .ref m_names, .ref m_reserved, .int 0, .int 0, .int 0, .int 0, .int 0, .int 0, .long 0, .int 0, .int 0, .int 0, .int 0, .int 0, .int 0, .int 0, .ref m_undone, .ref m_before, .int 0, .ref m_far, .ref m_wayRow, .int (-1), .ref m_keptRow, .ref m_askedRow, .ref m_rares, .ref m_trial, .int (-1), .int (-1), .ref m_hangs, .ref m_paths, .int 0, .int 0, .int 0, .int 0, .ref m_text, .int 0, .int 0, .ref m_toldAt, .int 0, .ref m_stack, .int 0, .int 0, .int 0, .int 0, .int 0, .ref m_truths, .ref m_imaged, .ref m_namesKept, .ref m_areKept]))] H := hP
  have hD : va_D A [(m0, .inr (11, [.int 0, .ref m_tape, .int 0, .int 0, .int 0, .int 900, .ref m_s, .ref m_h, .ref m_read, .ref m_names, .ref m_reserved, .int 0, .int 0, .int 0, .int 0, .int 0, .int 0, .long 0, .int 0, .int 0, .int 0, .int 0, .int 0, .int 0, .int 0, .ref m_undone, .ref m_before, .int 0, .ref m_far, .ref m_wayRow, .int (-1), .ref m_keptRow, .ref m_askedRow, .ref m_rares, .ref m_trial, .int (-1), .int (-1), .ref m_hangs, .ref m_paths, .int 0, .int 0, .int 0, .int 0, .ref m_text, .int 0, .int 0, .ref m_toldAt, .int 0, .ref m_stack, .int 0, .int 0, .int 0, .int 0, .int 0, .ref m_truths, .ref m_imaged, .ref m_namesKept, .ref m_areKept]))] := hD
  obtain rfl : r_2 = (-1) := hw_3
  refine lv_bipush (v := 32) hx hb dX11_next_4 (by decide) ?_
  refine lv_icmp_eq (tgt := 18) hx hb dX11_next_6 (by decide) (fun c_0 => absurd c_0 (by decide)) (fun _ => ?_)
  refine lv_aload_n hx hb dX11_next_9 rfl (lv_at hl 0 rfl) ?_
  refine q_ai (wr := []) (r_V (q0 := 0) (As := []) (rest := []) (wc := [(m0, .inr (11, [.int 0, .ref m_tape, .int 0, .int 0, .int 0, .int 900, .ref m_s, .ref m_h, .ref m_read, .ref m_names, .ref m_reserved, .int 0, .int 0, .int 0, .int 0, .int 0, .int 0, .long 0, .int 0, .int 0, .int 0, .int 0, .int 0, .int 0, .int 0, .ref m_undone, .ref m_before, .int 0, .ref m_far, .ref m_wayRow, .int (-1), .ref m_keptRow, .ref m_askedRow, .ref m_rares, .ref m_trial, .int (-1), .int (-1), .ref m_hangs, .ref m_paths, .int 0, .int 0, .int 0, .int 0, .ref m_text, .int 0, .int 0, .ref m_toldAt, .int 0, .ref m_stack, .int 0, .int 0, .int 0, .int 0, .int 0, .ref m_truths, .ref m_imaged, .ref m_namesKept, .ref m_areKept]))]) C (q_subP hP [0] rfl) (hD.sub [0] (by decide) rfl) (m_peek l D cy m0 m_tape 900 m_s m_h m_read m_names m_reserved m_undone m_before m_far m_wayRow m_keptRow m_askedRow m_rares m_trial m_hangs m_paths m_text m_toldAt m_stack 0 m_truths m_imaged m_namesKept m_areKept _ ) kwV_X11_peek kM_RX11_164 rfl rfl ⟨Nat.le_of_ble_eq_true rfl, Nat.le_of_ble_eq_true rfl⟩ rfl hl.1 rfl (Nat.le_of_ble_eq_true rfl) dX11_next_10 ⟨Nat.le_of_ble_eq_true rfl, Nat.le_of_ble_eq_true rfl⟩) C.2.2.2.2.2.2.1 hP hD hS [0] [] rfl rfl (by decide) (by decide) (fun r_5 u_4 H locs hw_6 hP hD hS => ?_)
  have hP : va_P D vwCl [(m0, .inr (11, [.int 0, .ref m_tape, .int 0, .int 0, .int 0, .int 900, .ref m_s, .ref m_h, .ref m_read, .ref m_names, .ref m_reserved, .int 0, .int 0, .int 0, .int 0, .int 0, .int 0, .long 0, .int 0, .int 0, .int 0, .int 0, .int 0, .int 0, .int 0, .ref m_undone, .ref m_before, .int 0, .ref m_far, .ref m_wayRow, .int (-1), .ref m_keptRow, .ref m_askedRow, .ref m_rares, .ref m_trial, .int (-1), .int (-1), .ref m_hangs, .ref m_paths, .int 0, .int 0, .int 0, .int 0, .ref m_text, .int 0, .int 0, .ref m_toldAt, .int 0, .ref m_stack, .int 0, .int 0, .int 0, .int 0, .int 0, .ref m_truths, .ref m_imaged, .ref m_namesKept, .ref m_areKept]))] H := hP
  have hD : va_D A [(m0, .inr (11, [.int 0, .ref m_tape, .int 0, .int 0, .int 0, .int 900, .ref m_s, .ref m_h, .ref m_read, .ref m_names, .ref m_reserved, .int 0, .int 0, .int 0, .int 0, .int 0, .int 0, .long 0, .int 0, .int 0, .int 0, .int 0, .int 0, .int 0, .int 0, .ref m_undone, .ref m_before, .int 0, .ref m_far, .ref m_wayRow, .int (-1), .ref m_keptRow, .ref m_askedRow, .ref m_rares, .ref m_trial, .int (-1), .int (-1), .ref m_hangs, .ref m_paths, .int 0, .int 0, .int 0, .int 0, .ref m_text, .int 0, .int 0, .ref m_toldAt, .int 0, .ref m_stack, .int 0, .int 0, .int 0, .int 0, .int 0, .ref m_truths, .ref m_imaged, .ref m_namesKept, .ref m_areKept]))] := hD
  obtain rfl : r_5 = (-1) := hw_6
  refine lv_bipush (v := 10) hx hb dX11_next_13 (by decide) ?_
  refine lv_icmp_ne (tgt := 31) hx hb dX11_next_15 (by decide) (fun _ => ?_) (fun c_0 => absurd c_0 (by decide))
  refine lv_aload_n hx hb dX11_next_31 rfl (lv_at hl 0 rfl) ?_
  refine lv_aload_n hx hb dX11_next_32 rfl (lv_at hl 0 rfl) ?_
  refine q_get (v := .int 0) C hP 0 4 rfl rfl inX11 (by decide) kF_RX11_21 rfl rfl dX11_next_33 ?_
  refine q_put (v := .int 0) (w' := [(m0, .inr (11, [.int 0, .ref m_tape, .int 0, .int 0, .int 0, .int 900, .ref m_s, .ref m_h, .ref m_read, .ref m_names, .ref m_reserved, .int 0, .int 0, .int 0, .int 0, .int 0, .int 0, .long 0, .int 0, .int 0, .int 0, .int 0, .int 0, .int 0, .int 0, .ref m_undone, .ref m_before, .int 0, .ref m_far, .ref m_wayRow, .int (-1), .ref m_keptRow, .ref m_askedRow, .ref m_rares, .ref m_trial, .int (-1), .int (-1), .ref m_hangs, .ref m_paths, .int 0, .int 0, .int 0, .int 0, .ref m_text, .int 0, .int 0, .ref m_toldAt, .int 0, .ref m_stack, .int 0, .int 0, .int 0, .int 0, .int 0, .ref m_truths, .ref m_imaged, .ref m_namesKept, .ref m_areKept]))]) (ty := .int) C hP hD hS 0 12 rfl rfl inX11 tyX11 tyX11_ok nmX11 (by decide) kF_RX11_168 rfl rfl rfl rfl rfl (Nat.le_of_ble_eq_true rfl) rfl dX11_next_36 (fun H locs hP hD hS => ?_)
  refine lv_aload_n hx hb dX11_next_39 rfl (lv_at hl 0 rfl) ?_
  refine lv_iconst (v := 0) hx hb dX11_next_40 (by decide) ?_
  refine q_put (v := .int 0) (w' := [(m0, .inr (11, [.int 0, .ref m_tape, .int 0, .int 0, .int 0, .int 900, .ref m_s, .ref m_h, .ref m_read, .ref m_names, .ref m_reserved, .int 0, .int 0, .int 0, .int 0, .int 0, .int 0, .long 0, .int 0, .int 0, .int 0, .int 0, .int 0, .int 0, .int 0, .ref m_undone, .ref m_before, .int 0, .ref m_far, .ref m_wayRow, .int (-1), .ref m_keptRow, .ref m_askedRow, .ref m_rares, .ref m_trial, .int (-1), .int (-1), .ref m_hangs, .ref m_paths, .int 0, .int 0, .int 0, .int 0, .ref m_text, .int 0, .int 0, .ref m_toldAt, .int 0, .ref m_stack, .int 0, .int 0, .int 0, .int 0, .int 0, .ref m_truths, .ref m_imaged, .ref m_namesKept, .ref m_areKept]))]) (ty := .int) C hP hD hS 0 13 rfl rfl inX11 tyX11 tyX11_ok nmX11 (by decide) kF_RX11_171 rfl rfl rfl rfl rfl (Nat.le_of_ble_eq_true rfl) rfl dX11_next_41 (fun H locs hP hD hS => ?_)
  refine lv_aload_n hx hb dX11_next_44 rfl (lv_at hl 0 rfl) ?_
  refine q_get (v := .int 0) C hP 0 3 rfl rfl inX11 (by decide) kF_RX11_18 rfl rfl dX11_next_45 ?_
  refine lv_aload_n hx hb dX11_next_48 rfl (lv_at hl 0 rfl) ?_
  refine q_get (v := .int 900) C hP 0 5 rfl rfl inX11 (by decide) kF_RX11_24 rfl rfl dX11_next_49 ?_
  refine lv_icmp_le (tgt := 80) hx hb dX11_next_52 (by decide) (fun _ => ?_) (fun c_0 => absurd (by decide) c_0)
  refine lv_aload_n hx hb dX11_next_80 rfl (lv_at hl 0 rfl) ?_
  refine q_ai (wr := []) (r_V (q0 := 0) (As := []) (rest := []) (wc := [(m0, .inr (11, [.int 0, .ref m_tape, .int 0, .int 0, .int 0, .int 900, .ref m_s, .ref m_h, .ref m_read, .ref m_names, .ref m_reserved, .int 0, .int 0, .int 0, .int 0, .int 0, .int 0, .long 0, .int 0, .int 0, .int 0, .int 0, .int 0, .int 0, .int 0, .ref m_undone, .ref m_before, .int 0, .ref m_far, .ref m_wayRow, .int (-1), .ref m_keptRow, .ref m_askedRow, .ref m_rares, .ref m_trial, .int (-1), .int (-1), .ref m_hangs, .ref m_paths, .int 0, .int 0, .int 0, .int 0, .ref m_text, .int 0, .int 0, .ref m_toldAt, .int 0, .ref m_stack, .int 0, .int 0, .int 0, .int 0, .int 0, .ref m_truths, .ref m_imaged, .ref m_namesKept, .ref m_areKept]))]) C (q_subP hP [0] rfl) (hD.sub [0] (by decide) rfl) (m_peek l D cy m0 m_tape 900 m_s m_h m_read m_names m_reserved m_undone m_before m_far m_wayRow m_keptRow m_askedRow m_rares m_trial m_hangs m_paths m_text m_toldAt m_stack 0 m_truths m_imaged m_namesKept m_areKept _ ) kwV_X11_peek kM_RX11_164 rfl rfl ⟨Nat.le_of_ble_eq_true rfl, Nat.le_of_ble_eq_true rfl⟩ rfl hl.1 rfl (Nat.le_of_ble_eq_true rfl) dX11_next_81 ⟨Nat.le_of_ble_eq_true rfl, Nat.le_of_ble_eq_true rfl⟩) C.2.2.2.2.2.2.1 hP hD hS [0] [] rfl rfl (by decide) (by decide) (fun r_8 u_7 H locs hw_9 hP hD hS => ?_)
  have hP : va_P D vwCl [(m0, .inr (11, [.int 0, .ref m_tape, .int 0, .int 0, .int 0, .int 900, .ref m_s, .ref m_h, .ref m_read, .ref m_names, .ref m_reserved, .int 0, .int 0, .int 0, .int 0, .int 0, .int 0, .long 0, .int 0, .int 0, .int 0, .int 0, .int 0, .int 0, .int 0, .ref m_undone, .ref m_before, .int 0, .ref m_far, .ref m_wayRow, .int (-1), .ref m_keptRow, .ref m_askedRow, .ref m_rares, .ref m_trial, .int (-1), .int (-1), .ref m_hangs, .ref m_paths, .int 0, .int 0, .int 0, .int 0, .ref m_text, .int 0, .int 0, .ref m_toldAt, .int 0, .ref m_stack, .int 0, .int 0, .int 0, .int 0, .int 0, .ref m_truths, .ref m_imaged, .ref m_namesKept, .ref m_areKept]))] H := hP
  have hD : va_D A [(m0, .inr (11, [.int 0, .ref m_tape, .int 0, .int 0, .int 0, .int 900, .ref m_s, .ref m_h, .ref m_read, .ref m_names, .ref m_reserved, .int 0, .int 0, .int 0, .int 0, .int 0, .int 0, .long 0, .int 0, .int 0, .int 0, .int 0, .int 0, .int 0, .int 0, .ref m_undone, .ref m_before, .int 0, .ref m_far, .ref m_wayRow, .int (-1), .ref m_keptRow, .ref m_askedRow, .ref m_rares, .ref m_trial, .int (-1), .int (-1), .ref m_hangs, .ref m_paths, .int 0, .int 0, .int 0, .int 0, .ref m_text, .int 0, .int 0, .ref m_toldAt, .int 0, .ref m_stack, .int 0, .int 0, .int 0, .int 0, .int 0, .ref m_truths, .ref m_imaged, .ref m_namesKept, .ref m_areKept]))] := hD
  obtain rfl : r_8 = (-1) := hw_9
  refine lv_istore_n (lv' := [(1, .int (-1)), (0, .ref m0)]) hx hb dX11_next_84 rfl hl (by decide) rfl (fun ls hl => ?_)
  refine lv_iload_n hx hb dX11_next_85 rfl (lv_at hl 0 rfl) ?_
  refine lv_if_ge (tgt := 95) hx hb dX11_next_86 (by decide) (fun c_0 => absurd c_0 (by decide)) (fun _ => ?_)
  refine lv_aload_n hx hb dX11_next_89 rfl (lv_at hl 1 rfl) ?_
  refine lv_iconst (v := 0) hx hb dX11_next_90 (by decide) ?_
  refine q_put (v := .int 0) (w' := [(m0, .inr (11, [.int 0, .ref m_tape, .int 0, .int 0, .int 0, .int 900, .ref m_s, .ref m_h, .ref m_read, .ref m_names, .ref m_reserved, .int 0, .int 0, .int 0, .int 0, .int 0, .int 0, .long 0, .int 0, .int 0, .int 0, .int 0, .int 0, .int 0, .int 0, .ref m_undone, .ref m_before, .int 0, .ref m_far, .ref m_wayRow, .int (-1), .ref m_keptRow, .ref m_askedRow, .ref m_rares, .ref m_trial, .int (-1), .int (-1), .ref m_hangs, .ref m_paths, .int 0, .int 0, .int 0, .int 0, .ref m_text, .int 0, .int 0, .ref m_toldAt, .int 0, .ref m_stack, .int 0, .int 0, .int 0, .int 0, .int 0, .ref m_truths, .ref m_imaged, .ref m_namesKept, .ref m_areKept]))]) (ty := .int) C hP hD hS 0 11 rfl rfl inX11 tyX11 tyX11_ok nmX11 (by decide) kF_RX11_174 rfl rfl rfl rfl rfl (Nat.le_of_ble_eq_true rfl) rfl dX11_next_91 (fun H locs hP hD hS => ?_)
  exact q_vret (rm := (Rm 1 20 0 0)) C hS () trivial (q_subP hP [0] rfl) (hD.sub [0] (by decide) rfl) (Nat.le_of_ble_eq_true rfl) (Nat.le_of_ble_eq_true rfl) dX11_next_94
set_option maxHeartbeats 4000000 in
set_option maxRecDepth 100000 in
theorem m_next400 (l : Launch) (D : va_G) (cy : Nat → ClassId) (m0 : Nat) (m_tape : Nat) (m_s : Nat) (m_h : Nat) (m_read : Nat) (m_names : Nat) (m_reserved : Nat) (m_undone : Nat) (m_before : Nat) (m_far : Nat) (m_wayRow : Nat) (m_keptRow : Nat) (m_askedRow : Nat) (m_rares : Nat) (m_trial : Nat) (m_hangs : Nat) (m_paths : Nat) (m_text : Nat) (m_toldAt : Nat) (m_stack : Nat) (m_truths : Nat) (m_imaged : Nat) (m_namesKept : Nat) (m_areKept : Nat) (sz : Nat)  : MV l yX11_next cX11_next 4 (Rm 1 20 0 0) D cy [.ref m0] sz [(m0, .inr (11, [.int 0, .ref m_tape, .int 0, .int 0, .int 0, .int 400, .ref m_s, .ref m_h, .ref m_read, .ref m_names, .ref m_reserved, .int 0, .int 0, .int 0, .int 0, .int 0, .int 0, .long 0, .int 0, .int 0, .int 0, .int 0, .int 0, .int 0, .int 0, .ref m_undone, .ref m_before, .int 0, .ref m_far, .ref m_wayRow, .int (-1), .ref m_keptRow, .ref m_askedRow, .ref m_rares, .ref m_trial, .int (-1), .int (-1), .ref m_hangs, .ref m_paths, .int 0, .int 0, .int 0, .int 0, .ref m_text, .int 0, .int 0, .ref m_toldAt, .int 0, .ref m_stack, .int 0, .int 0, .int 0, .int 0, .int 0, .ref m_truths, .ref m_imaged, .ref m_namesKept, .ref m_areKept]))] (fun _ : Unit => True) (fun u : Unit => [(m0, .inr (11, [.int 0, .ref m_tape, .int 0, .int 0, .int 0, .int 400, .ref m_s, .ref m_h, .ref m_read, .ref m_names, .ref m_reserved, .int 0, .int 0, .int 0, .int 0, .int 0, .int 0, .long 0, .int 0, .int 0, .int 0, .int 0, .int 0, .int 0, .int 0, .ref m_undone, .ref m_before, .int 0, .ref m_far, .ref m_wayRow, .int (-1), .ref m_keptRow, .ref m_askedRow, .ref m_rares, .ref m_trial, .int (-1), .int (-1), .ref m_hangs, .ref m_paths, .int 0, .int 0, .int 0, .int 0, .ref m_text, .int 0, .int 0, .ref m_toldAt, .int 0, .ref m_stack, .int 0, .int 0, .int 0, .int 0, .int 0, .ref m_truths, .ref m_imaged, .ref m_namesKept, .ref m_areKept]))]) := by
  refine MV.enter (by decide) (Nat.le_of_ble_eq_true rfl) ?_
  intro p e s m below meth c ls A hsz hAe C hP hD hS hl
  have C : Cx p s m _ meth c cX11_next 4 none RX11 "next" D cy A := C
  have hx := C.1
  have hb := C.2.1
  have hl : lv_has ls 4 [(0, .ref m0)] := hl
  refine lv_aload_n hx hb dX11_next_0 rfl (lv_at hl 0 rfl) ?_
  refine q_ai (wr := []) (r_V (q0 := 0) (As := []) (rest := []) (wc := [(m0, .inr (11, [.int 0, .ref m_tape, .int 0, .int 0, .int 0, .int 400, .ref m_s, .ref m_h, .ref m_read, .ref m_names, .ref m_reserved, .int 0, .int 0, .int 0, .int 0, .int 0, .int 0, .long 0, .int 0, .int 0, .int 0, .int 0, .int 0, .int 0, .int 0, .ref m_undone, .ref m_before, .int 0, .ref m_far, .ref m_wayRow, .int (-1), .ref m_keptRow, .ref m_askedRow, .ref m_rares, .ref m_trial, .int (-1), .int (-1), .ref m_hangs, .ref m_paths, .int 0, .int 0, .int 0, .int 0, .ref m_text, .int 0, .int 0, .ref m_toldAt, .int 0, .ref m_stack, .int 0, .int 0, .int 0, .int 0, .int 0, .ref m_truths, .ref m_imaged, .ref m_namesKept, .ref m_areKept]))]) C (q_subP hP [0] rfl) (hD.sub [0] (by decide) rfl) (m_peek l D cy m0 m_tape 400 m_s m_h m_read m_names m_reserved m_undone m_before m_far m_wayRow m_keptRow m_askedRow m_rares m_trial m_hangs m_paths m_text m_toldAt m_stack 0 m_truths m_imaged m_namesKept m_areKept _ ) kwV_X11_peek kM_RX11_164 rfl rfl ⟨Nat.le_of_ble_eq_true rfl, Nat.le_of_ble_eq_true rfl⟩ rfl hl.1 rfl (Nat.le_of_ble_eq_true rfl) dX11_next_1 ⟨Nat.le_of_ble_eq_true rfl, Nat.le_of_ble_eq_true rfl⟩) C.2.2.2.2.2.2.1 hP hD hS [0] [] rfl rfl (by decide) (by decide) (fun r_2 u_1 H locs hw_3 hP hD hS => ?_)
  have hP : va_P D vwCl [(m0, .inr (11, [.int 0, .ref m_tape, .int 0, .int 0, .int 0, .int 400, .ref m_s, .ref m_h, .ref m_read, .ref m_names, .ref m_reserved, .int 0, .int 0, .int 0, .int 0, .int 0, .int 0, .long 0, .int 0, .int 0, .int 0, .int 0, .int 0, .int 0, .int 0, .ref m_undone, .ref m_before, .int 0, .ref m_far, .ref m_wayRow, .int (-1), .ref m_keptRow, .ref m_askedRow, .ref m_rares, .ref m_trial, .int (-1), .int (-1), .ref m_hangs, .ref m_paths, .int 0, .int 0, .int 0, .int 0, .ref m_text, .int 0, .int 0, .ref m_toldAt, .int 0, .ref m_stack, .int 0, .int 0, .int 0, .int 0, .int 0, .ref m_truths, .ref m_imaged, .ref m_namesKept, .ref m_areKept]))] H := hP
  have hD : va_D A [(m0, .inr (11, [.int 0, .ref m_tape, .int 0, .int 0, .int 0, .int 400, .ref m_s, .ref m_h, .ref m_read, .ref m_names, .ref m_reserved, .int 0, .int 0, .int 0, .int 0, .int 0, .int 0, .long 0, .int 0, .int 0, .int 0, .int 0, .int 0, .int 0, .int 0, .ref m_undone, .ref m_before, .int 0, .ref m_far, .ref m_wayRow, .int (-1), .ref m_keptRow, .ref m_askedRow, .ref m_rares, .ref m_trial, .int (-1), .int (-1), .ref m_hangs, .ref m_paths, .int 0, .int 0, .int 0, .int 0, .ref m_text, .int 0, .int 0, .ref m_toldAt, .int 0, .ref m_stack, .int 0, .int 0, .int 0, .int 0, .int 0, .ref m_truths, .ref m_imaged, .ref m_namesKept, .ref m_areKept]))] := hD
  obtain rfl : r_2 = (-1) := hw_3
  refine lv_bipush (v := 32) hx hb dX11_next_4 (by decide) ?_
  refine lv_icmp_eq (tgt := 18) hx hb dX11_next_6 (by decide) (fun c_0 => absurd c_0 (by decide)) (fun _ => ?_)
  refine lv_aload_n hx hb dX11_next_9 rfl (lv_at hl 0 rfl) ?_
  refine q_ai (wr := []) (r_V (q0 := 0) (As := []) (rest := []) (wc := [(m0, .inr (11, [.int 0, .ref m_tape, .int 0, .int 0, .int 0, .int 400, .ref m_s, .ref m_h, .ref m_read, .ref m_names, .ref m_reserved, .int 0, .int 0, .int 0, .int 0, .int 0, .int 0, .long 0, .int 0, .int 0, .int 0, .int 0, .int 0, .int 0, .int 0, .ref m_undone, .ref m_before, .int 0, .ref m_far, .ref m_wayRow, .int (-1), .ref m_keptRow, .ref m_askedRow, .ref m_rares, .ref m_trial, .int (-1), .int (-1), .ref m_hangs, .ref m_paths, .int 0, .int 0, .int 0, .int 0, .ref m_text, .int 0, .int 0, .ref m_toldAt, .int 0, .ref m_stack, .int 0, .int 0, .int 0, .int 0, .int 0, .ref m_truths, .ref m_imaged, .ref m_namesKept, .ref m_areKept]))]) C (q_subP hP [0] rfl) (hD.sub [0] (by decide) rfl) (m_peek l D cy m0 m_tape 400 m_s m_h m_read m_names m_reserved m_undone m_before m_far m_wayRow m_keptRow m_askedRow m_rares m_trial m_hangs m_paths m_text m_toldAt m_stack 0 m_truths m_imaged m_namesKept m_areKept _ ) kwV_X11_peek kM_RX11_164 rfl rfl ⟨Nat.le_of_ble_eq_true rfl, Nat.le_of_ble_eq_true rfl⟩ rfl hl.1 rfl (Nat.le_of_ble_eq_true rfl) dX11_next_10 ⟨Nat.le_of_ble_eq_true rfl, Nat.le_of_ble_eq_true rfl⟩) C.2.2.2.2.2.2.1 hP hD hS [0] [] rfl rfl (by decide) (by decide) (fun r_5 u_4 H locs hw_6 hP hD hS => ?_)
  have hP : va_P D vwCl [(m0, .inr (11, [.int 0, .ref m_tape, .int 0, .int 0, .int 0, .int 400, .ref m_s, .ref m_h, .ref m_read, .ref m_names, .ref m_reserved, .int 0, .int 0, .int 0, .int 0, .int 0, .int 0, .long 0, .int 0, .int 0, .int 0, .int 0, .int 0, .int 0, .int 0, .ref m_undone, .ref m_before, .int 0, .ref m_far, .ref m_wayRow, .int (-1), .ref m_keptRow, .ref m_askedRow, .ref m_rares, .ref m_trial, .int (-1), .int (-1), .ref m_hangs, .ref m_paths, .int 0, .int 0, .int 0, .int 0, .ref m_text, .int 0, .int 0, .ref m_toldAt, .int 0, .ref m_stack, .int 0, .int 0, .int 0, .int 0, .int 0, .ref m_truths, .ref m_imaged, .ref m_namesKept, .ref m_areKept]))] H := hP
  have hD : va_D A [(m0, .inr (11, [.int 0, .ref m_tape, .int 0, .int 0, .int 0, .int 400, .ref m_s, .ref m_h, .ref m_read, .ref m_names, .ref m_reserved, .int 0, .int 0, .int 0, .int 0, .int 0, .int 0, .long 0, .int 0, .int 0, .int 0, .int 0, .int 0, .int 0, .int 0, .ref m_undone, .ref m_before, .int 0, .ref m_far, .ref m_wayRow, .int (-1), .ref m_keptRow, .ref m_askedRow, .ref m_rares, .ref m_trial, .int (-1), .int (-1), .ref m_hangs, .ref m_paths, .int 0, .int 0, .int 0, .int 0, .ref m_text, .int 0, .int 0, .ref m_toldAt, .int 0, .ref m_stack, .int 0, .int 0, .int 0, .int 0, .int 0, .ref m_truths, .ref m_imaged, .ref m_namesKept, .ref m_areKept]))] := hD
  obtain rfl : r_5 = (-1) := hw_6
  refine lv_bipush (v := 10) hx hb dX11_next_13 (by decide) ?_
  refine lv_icmp_ne (tgt := 31) hx hb dX11_next_15 (by decide) (fun _ => ?_) (fun c_0 => absurd c_0 (by decide))
  refine lv_aload_n hx hb dX11_next_31 rfl (lv_at hl 0 rfl) ?_
  refine lv_aload_n hx hb dX11_next_32 rfl (lv_at hl 0 rfl) ?_
  refine q_get (v := .int 0) C hP 0 4 rfl rfl inX11 (by decide) kF_RX11_21 rfl rfl dX11_next_33 ?_
  refine q_put (v := .int 0) (w' := [(m0, .inr (11, [.int 0, .ref m_tape, .int 0, .int 0, .int 0, .int 400, .ref m_s, .ref m_h, .ref m_read, .ref m_names, .ref m_reserved, .int 0, .int 0, .int 0, .int 0, .int 0, .int 0, .long 0, .int 0, .int 0, .int 0, .int 0, .int 0, .int 0, .int 0, .ref m_undone, .ref m_before, .int 0, .ref m_far, .ref m_wayRow, .int (-1), .ref m_keptRow, .ref m_askedRow, .ref m_rares, .ref m_trial, .int (-1), .int (-1), .ref m_hangs, .ref m_paths, .int 0, .int 0, .int 0, .int 0, .ref m_text, .int 0, .int 0, .ref m_toldAt, .int 0, .ref m_stack, .int 0, .int 0, .int 0, .int 0, .int 0, .ref m_truths, .ref m_imaged, .ref m_namesKept, .ref m_areKept]))]) (ty := .int) C hP hD hS 0 12 rfl rfl inX11 tyX11 tyX11_ok nmX11 (by decide) kF_RX11_168 rfl rfl rfl rfl rfl (Nat.le_of_ble_eq_true rfl) rfl dX11_next_36 (fun H locs hP hD hS => ?_)
  refine lv_aload_n hx hb dX11_next_39 rfl (lv_at hl 0 rfl) ?_
  refine lv_iconst (v := 0) hx hb dX11_next_40 (by decide) ?_
  refine q_put (v := .int 0) (w' := [(m0, .inr (11, [.int 0, .ref m_tape, .int 0, .int 0, .int 0, .int 400, .ref m_s, .ref m_h, .ref m_read, .ref m_names, .ref m_reserved, .int 0, .int 0, .int 0, .int 0, .int 0, .int 0, .long 0, .int 0, .int 0, .int 0, .int 0, .int 0, .int 0, .int 0, .ref m_undone, .ref m_before, .int 0, .ref m_far, .ref m_wayRow, .int (-1), .ref m_keptRow, .ref m_askedRow, .ref m_rares, .ref m_trial, .int (-1), .int (-1), .ref m_hangs, .ref m_paths, .int 0, .int 0, .int 0, .int 0, .ref m_text, .int 0, .int 0, .ref m_toldAt, .int 0, .ref m_stack, .int 0, .int 0, .int 0, .int 0, .int 0, .ref m_truths, .ref m_imaged, .ref m_namesKept, .ref m_areKept]))]) (ty := .int) C hP hD hS 0 13 rfl rfl inX11 tyX11 tyX11_ok nmX11 (by decide) kF_RX11_171 rfl rfl rfl rfl rfl (Nat.le_of_ble_eq_true rfl) rfl dX11_next_41 (fun H locs hP hD hS => ?_)
  refine lv_aload_n hx hb dX11_next_44 rfl (lv_at hl 0 rfl) ?_
  refine q_get (v := .int 0) C hP 0 3 rfl rfl inX11 (by decide) kF_RX11_18 rfl rfl dX11_next_45 ?_
  refine lv_aload_n hx hb dX11_next_48 rfl (lv_at hl 0 rfl) ?_
  refine q_get (v := .int 400) C hP 0 5 rfl rfl inX11 (by decide) kF_RX11_24 rfl rfl dX11_next_49 ?_
  refine lv_icmp_le (tgt := 80) hx hb dX11_next_52 (by decide) (fun _ => ?_) (fun c_0 => absurd (by decide) c_0)
  refine lv_aload_n hx hb dX11_next_80 rfl (lv_at hl 0 rfl) ?_
  refine q_ai (wr := []) (r_V (q0 := 0) (As := []) (rest := []) (wc := [(m0, .inr (11, [.int 0, .ref m_tape, .int 0, .int 0, .int 0, .int 400, .ref m_s, .ref m_h, .ref m_read, .ref m_names, .ref m_reserved, .int 0, .int 0, .int 0, .int 0, .int 0, .int 0, .long 0, .int 0, .int 0, .int 0, .int 0, .int 0, .int 0, .int 0, .ref m_undone, .ref m_before, .int 0, .ref m_far, .ref m_wayRow, .int (-1), .ref m_keptRow, .ref m_askedRow, .ref m_rares, .ref m_trial, .int (-1), .int (-1), .ref m_hangs, .ref m_paths, .int 0, .int 0, .int 0, .int 0, .ref m_text, .int 0, .int 0, .ref m_toldAt, .int 0, .ref m_stack, .int 0, .int 0, .int 0, .int 0, .int 0, .ref m_truths, .ref m_imaged, .ref m_namesKept, .ref m_areKept]))]) C (q_subP hP [0] rfl) (hD.sub [0] (by decide) rfl) (m_peek l D cy m0 m_tape 400 m_s m_h m_read m_names m_reserved m_undone m_before m_far m_wayRow m_keptRow m_askedRow m_rares m_trial m_hangs m_paths m_text m_toldAt m_stack 0 m_truths m_imaged m_namesKept m_areKept _ ) kwV_X11_peek kM_RX11_164 rfl rfl ⟨Nat.le_of_ble_eq_true rfl, Nat.le_of_ble_eq_true rfl⟩ rfl hl.1 rfl (Nat.le_of_ble_eq_true rfl) dX11_next_81 ⟨Nat.le_of_ble_eq_true rfl, Nat.le_of_ble_eq_true rfl⟩) C.2.2.2.2.2.2.1 hP hD hS [0] [] rfl rfl (by decide) (by decide) (fun r_8 u_7 H locs hw_9 hP hD hS => ?_)
  have hP : va_P D vwCl [(m0, .inr (11, [.int 0, .ref m_tape, .int 0, .int 0, .int 0, .int 400, .ref m_s, .ref m_h, .ref m_read, .ref m_names, .ref m_reserved, .int 0, .int 0, .int 0, .int 0, .int 0, .int 0, .long 0, .int 0, .int 0, .int 0, .int 0, .int 0, .int 0, .int 0, .ref m_undone, .ref m_before, .int 0, .ref m_far, .ref m_wayRow, .int (-1), .ref m_keptRow, .ref m_askedRow, .ref m_rares, .ref m_trial, .int (-1), .int (-1), .ref m_hangs, .ref m_paths, .int 0, .int 0, .int 0, .int 0, .ref m_text, .int 0, .int 0, .ref m_toldAt, .int 0, .ref m_stack, .int 0, .int 0, .int 0, .int 0, .int 0, .ref m_truths, .ref m_imaged, .ref m_namesKept, .ref m_areKept]))] H := hP
  have hD : va_D A [(m0, .inr (11, [.int 0, .ref m_tape, .int 0, .int 0, .int 0, .int 400, .ref m_s, .ref m_h, .ref m_read, .ref m_names, .ref m_reserved, .int 0, .int 0, .int 0, .int 0, .int 0, .int 0, .long 0, .int 0, .int 0, .int 0, .int 0, .int 0, .int 0, .int 0, .ref m_undone, .ref m_before, .int 0, .ref m_far, .ref m_wayRow, .int (-1), .ref m_keptRow, .ref m_askedRow, .ref m_rares, .ref m_trial, .int (-1), .int (-1), .ref m_hangs, .ref m_paths, .int 0, .int 0, .int 0, .int 0, .ref m_text, .int 0, .int 0, .ref m_toldAt, .int 0, .ref m_stack, .int 0, .int 0, .int 0, .int 0, .int 0, .ref m_truths, .ref m_imaged, .ref m_namesKept, .ref m_areKept]))] := hD
  obtain rfl : r_8 = (-1) := hw_9
  refine lv_istore_n (lv' := [(1, .int (-1)), (0, .ref m0)]) hx hb dX11_next_84 rfl hl (by decide) rfl (fun ls hl => ?_)
  refine lv_iload_n hx hb dX11_next_85 rfl (lv_at hl 0 rfl) ?_
  refine lv_if_ge (tgt := 95) hx hb dX11_next_86 (by decide) (fun c_0 => absurd c_0 (by decide)) (fun _ => ?_)
  refine lv_aload_n hx hb dX11_next_89 rfl (lv_at hl 1 rfl) ?_
  refine lv_iconst (v := 0) hx hb dX11_next_90 (by decide) ?_
  refine q_put (v := .int 0) (w' := [(m0, .inr (11, [.int 0, .ref m_tape, .int 0, .int 0, .int 0, .int 400, .ref m_s, .ref m_h, .ref m_read, .ref m_names, .ref m_reserved, .int 0, .int 0, .int 0, .int 0, .int 0, .int 0, .long 0, .int 0, .int 0, .int 0, .int 0, .int 0, .int 0, .int 0, .ref m_undone, .ref m_before, .int 0, .ref m_far, .ref m_wayRow, .int (-1), .ref m_keptRow, .ref m_askedRow, .ref m_rares, .ref m_trial, .int (-1), .int (-1), .ref m_hangs, .ref m_paths, .int 0, .int 0, .int 0, .int 0, .ref m_text, .int 0, .int 0, .ref m_toldAt, .int 0, .ref m_stack, .int 0, .int 0, .int 0, .int 0, .int 0, .ref m_truths, .ref m_imaged, .ref m_namesKept, .ref m_areKept]))]) (ty := .int) C hP hD hS 0 11 rfl rfl inX11 tyX11 tyX11_ok nmX11 (by decide) kF_RX11_174 rfl rfl rfl rfl rfl (Nat.le_of_ble_eq_true rfl) rfl dX11_next_91 (fun H locs hP hD hS => ?_)
  exact q_vret (rm := (Rm 1 20 0 0)) C hS () trivial (q_subP hP [0] rfl) (hD.sub [0] (by decide) rfl) (Nat.le_of_ble_eq_true rfl) (Nat.le_of_ble_eq_true rfl) dX11_next_94
set_option maxHeartbeats 4000000 in
set_option maxRecDepth 100000 in
theorem m_next200 (l : Launch) (D : va_G) (cy : Nat → ClassId) (m0 : Nat) (m_tape : Nat) (m_s : Nat) (m_h : Nat) (m_read : Nat) (m_names : Nat) (m_reserved : Nat) (m_undone : Nat) (m_before : Nat) (m_far : Nat) (m_wayRow : Nat) (m_keptRow : Nat) (m_askedRow : Nat) (m_rares : Nat) (m_trial : Nat) (m_hangs : Nat) (m_paths : Nat) (m_text : Nat) (m_toldAt : Nat) (m_stack : Nat) (m_truths : Nat) (m_imaged : Nat) (m_namesKept : Nat) (m_areKept : Nat) (sz : Nat)  : MV l yX11_next cX11_next 4 (Rm 1 20 0 0) D cy [.ref m0] sz [(m0, .inr (11, [.int 0, .ref m_tape, .int 0, .int 0, .int 0, .int 200, .ref m_s, .ref m_h, .ref m_read, .ref m_names, .ref m_reserved, .int 0, .int 0, .int 0, .int 0, .int 0, .int 0, .long 0, .int 0, .int 0, .int 0, .int 0, .int 0, .int 0, .int 0, .ref m_undone, .ref m_before, .int 0, .ref m_far, .ref m_wayRow, .int (-1), .ref m_keptRow, .ref m_askedRow, .ref m_rares, .ref m_trial, .int (-1), .int (-1), .ref m_hangs, .ref m_paths, .int 0, .int 0, .int 0, .int 0, .ref m_text, .int 0, .int 0, .ref m_toldAt, .int 0, .ref m_stack, .int 0, .int 0, .int 0, .int 1, .int 0, .ref m_truths, .ref m_imaged, .ref m_namesKept, .ref m_areKept]))] (fun _ : Unit => True) (fun u : Unit => [(m0, .inr (11, [.int 0, .ref m_tape, .int 0, .int 0, .int 0, .int 200, .ref m_s, .ref m_h, .ref m_read, .ref m_names, .ref m_reserved, .int 0, .int 0, .int 0, .int 0, .int 0, .int 0, .long 0, .int 0, .int 0, .int 0, .int 0, .int 0, .int 0, .int 0, .ref m_undone, .ref m_before, .int 0, .ref m_far, .ref m_wayRow, .int (-1), .ref m_keptRow, .ref m_askedRow, .ref m_rares, .ref m_trial, .int (-1), .int (-1), .ref m_hangs, .ref m_paths, .int 0, .int 0, .int 0, .int 0, .ref m_text, .int 0, .int 0, .ref m_toldAt, .int 0, .ref m_stack, .int 0, .int 0, .int 0, .int 1, .int 0, .ref m_truths, .ref m_imaged, .ref m_namesKept, .ref m_areKept]))]) := by
  refine MV.enter (by decide) (Nat.le_of_ble_eq_true rfl) ?_
  intro p e s m below meth c ls A hsz hAe C hP hD hS hl
  have C : Cx p s m _ meth c cX11_next 4 none RX11 "next" D cy A := C
  have hx := C.1
  have hb := C.2.1
  have hl : lv_has ls 4 [(0, .ref m0)] := hl
  refine lv_aload_n hx hb dX11_next_0 rfl (lv_at hl 0 rfl) ?_
  refine q_ai (wr := []) (r_V (q0 := 0) (As := []) (rest := []) (wc := [(m0, .inr (11, [.int 0, .ref m_tape, .int 0, .int 0, .int 0, .int 200, .ref m_s, .ref m_h, .ref m_read, .ref m_names, .ref m_reserved, .int 0, .int 0, .int 0, .int 0, .int 0, .int 0, .long 0, .int 0, .int 0, .int 0, .int 0, .int 0, .int 0, .int 0, .ref m_undone, .ref m_before, .int 0, .ref m_far, .ref m_wayRow, .int (-1), .ref m_keptRow, .ref m_askedRow, .ref m_rares, .ref m_trial, .int (-1), .int (-1), .ref m_hangs, .ref m_paths, .int 0, .int 0, .int 0, .int 0, .ref m_text, .int 0, .int 0, .ref m_toldAt, .int 0, .ref m_stack, .int 0, .int 0, .int 0, .int 1, .int 0, .ref m_truths, .ref m_imaged, .ref m_namesKept, .ref m_areKept]))]) C (q_subP hP [0] rfl) (hD.sub [0] (by decide) rfl) (m_peek l D cy m0 m_tape 200 m_s m_h m_read m_names m_reserved m_undone m_before m_far m_wayRow m_keptRow m_askedRow m_rares m_trial m_hangs m_paths m_text m_toldAt m_stack 1 m_truths m_imaged m_namesKept m_areKept _ ) kwV_X11_peek kM_RX11_164 rfl rfl ⟨Nat.le_of_ble_eq_true rfl, Nat.le_of_ble_eq_true rfl⟩ rfl hl.1 rfl (Nat.le_of_ble_eq_true rfl) dX11_next_1 ⟨Nat.le_of_ble_eq_true rfl, Nat.le_of_ble_eq_true rfl⟩) C.2.2.2.2.2.2.1 hP hD hS [0] [] rfl rfl (by decide) (by decide) (fun r_2 u_1 H locs hw_3 hP hD hS => ?_)
  have hP : va_P D vwCl [(m0, .inr (11, [.int 0, .ref m_tape, .int 0, .int 0, .int 0, .int 200, .ref m_s, .ref m_h, .ref m_read, .ref m_names, .ref m_reserved, .int 0, .int 0, .int 0, .int 0, .int 0, .int 0, .long 0, .int 0, .int 0, .int 0, .int 0, .int 0, .int 0, .int 0, .ref m_undone, .ref m_before, .int 0, .ref m_far, .ref m_wayRow, .int (-1), .ref m_keptRow, .ref m_askedRow, .ref m_rares, .ref m_trial, .int (-1), .int (-1), .ref m_hangs, .ref m_paths, .int 0, .int 0, .int 0, .int 0, .ref m_text, .int 0, .int 0, .ref m_toldAt, .int 0, .ref m_stack, .int 0, .int 0, .int 0, .int 1, .int 0, .ref m_truths, .ref m_imaged, .ref m_namesKept, .ref m_areKept]))] H := hP
  have hD : va_D A [(m0, .inr (11, [.int 0, .ref m_tape, .int 0, .int 0, .int 0, .int 200, .ref m_s, .ref m_h, .ref m_read, .ref m_names, .ref m_reserved, .int 0, .int 0, .int 0, .int 0, .int 0, .int 0, .long 0, .int 0, .int 0, .int 0, .int 0, .int 0, .int 0, .int 0, .ref m_undone, .ref m_before, .int 0, .ref m_far, .ref m_wayRow, .int (-1), .ref m_keptRow, .ref m_askedRow, .ref m_rares, .ref m_trial, .int (-1), .int (-1), .ref m_hangs, .ref m_paths, .int 0, .int 0, .int 0, .int 0, .ref m_text, .int 0, .int 0, .ref m_toldAt, .int 0, .ref m_stack, .int 0, .int 0, .int 0, .int 1, .int 0, .ref m_truths, .ref m_imaged, .ref m_namesKept, .ref m_areKept]))] := hD
  obtain rfl : r_2 = (-1) := hw_3
  refine lv_bipush (v := 32) hx hb dX11_next_4 (by decide) ?_
  refine lv_icmp_eq (tgt := 18) hx hb dX11_next_6 (by decide) (fun c_0 => absurd c_0 (by decide)) (fun _ => ?_)
  refine lv_aload_n hx hb dX11_next_9 rfl (lv_at hl 0 rfl) ?_
  refine q_ai (wr := []) (r_V (q0 := 0) (As := []) (rest := []) (wc := [(m0, .inr (11, [.int 0, .ref m_tape, .int 0, .int 0, .int 0, .int 200, .ref m_s, .ref m_h, .ref m_read, .ref m_names, .ref m_reserved, .int 0, .int 0, .int 0, .int 0, .int 0, .int 0, .long 0, .int 0, .int 0, .int 0, .int 0, .int 0, .int 0, .int 0, .ref m_undone, .ref m_before, .int 0, .ref m_far, .ref m_wayRow, .int (-1), .ref m_keptRow, .ref m_askedRow, .ref m_rares, .ref m_trial, .int (-1), .int (-1), .ref m_hangs, .ref m_paths, .int 0, .int 0, .int 0, .int 0, .ref m_text, .int 0, .int 0, .ref m_toldAt, .int 0, .ref m_stack, .int 0, .int 0, .int 0, .int 1, .int 0, .ref m_truths, .ref m_imaged, .ref m_namesKept, .ref m_areKept]))]) C (q_subP hP [0] rfl) (hD.sub [0] (by decide) rfl) (m_peek l D cy m0 m_tape 200 m_s m_h m_read m_names m_reserved m_undone m_before m_far m_wayRow m_keptRow m_askedRow m_rares m_trial m_hangs m_paths m_text m_toldAt m_stack 1 m_truths m_imaged m_namesKept m_areKept _ ) kwV_X11_peek kM_RX11_164 rfl rfl ⟨Nat.le_of_ble_eq_true rfl, Nat.le_of_ble_eq_true rfl⟩ rfl hl.1 rfl (Nat.le_of_ble_eq_true rfl) dX11_next_10 ⟨Nat.le_of_ble_eq_true rfl, Nat.le_of_ble_eq_true rfl⟩) C.2.2.2.2.2.2.1 hP hD hS [0] [] rfl rfl (by decide) (by decide) (fun r_5 u_4 H locs hw_6 hP hD hS => ?_)
  have hP : va_P D vwCl [(m0, .inr (11, [.int 0, .ref m_tape, .int 0, .int 0, .int 0, .int 200, .ref m_s, .ref m_h, .ref m_read, .ref m_names, .ref m_reserved, .int 0, .int 0, .int 0, .int 0, .int 0, .int 0, .long 0, .int 0, .int 0, .int 0, .int 0, .int 0, .int 0, .int 0, .ref m_undone, .ref m_before, .int 0, .ref m_far, .ref m_wayRow, .int (-1), .ref m_keptRow, .ref m_askedRow, .ref m_rares, .ref m_trial, .int (-1), .int (-1), .ref m_hangs, .ref m_paths, .int 0, .int 0, .int 0, .int 0, .ref m_text, .int 0, .int 0, .ref m_toldAt, .int 0, .ref m_stack, .int 0, .int 0, .int 0, .int 1, .int 0, .ref m_truths, .ref m_imaged, .ref m_namesKept, .ref m_areKept]))] H := hP
  have hD : va_D A [(m0, .inr (11, [.int 0, .ref m_tape, .int 0, .int 0, .int 0, .int 200, .ref m_s, .ref m_h, .ref m_read, .ref m_names, .ref m_reserved, .int 0, .int 0, .int 0, .int 0, .int 0, .int 0, .long 0, .int 0, .int 0, .int 0, .int 0, .int 0, .int 0, .int 0, .ref m_undone, .ref m_before, .int 0, .ref m_far, .ref m_wayRow, .int (-1), .ref m_keptRow, .ref m_askedRow, .ref m_rares, .ref m_trial, .int (-1), .int (-1), .ref m_hangs, .ref m_paths, .int 0, .int 0, .int 0, .int 0, .ref m_text, .int 0, .int 0, .ref m_toldAt, .int 0, .ref m_stack, .int 0, .int 0, .int 0, .int 1, .int 0, .ref m_truths, .ref m_imaged, .ref m_namesKept, .ref m_areKept]))] := hD
  obtain rfl : r_5 = (-1) := hw_6
  refine lv_bipush (v := 10) hx hb dX11_next_13 (by decide) ?_
  refine lv_icmp_ne (tgt := 31) hx hb dX11_next_15 (by decide) (fun _ => ?_) (fun c_0 => absurd c_0 (by decide))
  refine lv_aload_n hx hb dX11_next_31 rfl (lv_at hl 0 rfl) ?_
  refine lv_aload_n hx hb dX11_next_32 rfl (lv_at hl 0 rfl) ?_
  refine q_get (v := .int 0) C hP 0 4 rfl rfl inX11 (by decide) kF_RX11_21 rfl rfl dX11_next_33 ?_
  refine q_put (v := .int 0) (w' := [(m0, .inr (11, [.int 0, .ref m_tape, .int 0, .int 0, .int 0, .int 200, .ref m_s, .ref m_h, .ref m_read, .ref m_names, .ref m_reserved, .int 0, .int 0, .int 0, .int 0, .int 0, .int 0, .long 0, .int 0, .int 0, .int 0, .int 0, .int 0, .int 0, .int 0, .ref m_undone, .ref m_before, .int 0, .ref m_far, .ref m_wayRow, .int (-1), .ref m_keptRow, .ref m_askedRow, .ref m_rares, .ref m_trial, .int (-1), .int (-1), .ref m_hangs, .ref m_paths, .int 0, .int 0, .int 0, .int 0, .ref m_text, .int 0, .int 0, .ref m_toldAt, .int 0, .ref m_stack, .int 0, .int 0, .int 0, .int 1, .int 0, .ref m_truths, .ref m_imaged, .ref m_namesKept, .ref m_areKept]))]) (ty := .int) C hP hD hS 0 12 rfl rfl inX11 tyX11 tyX11_ok nmX11 (by decide) kF_RX11_168 rfl rfl rfl rfl rfl (Nat.le_of_ble_eq_true rfl) rfl dX11_next_36 (fun H locs hP hD hS => ?_)
  refine lv_aload_n hx hb dX11_next_39 rfl (lv_at hl 0 rfl) ?_
  refine lv_iconst (v := 0) hx hb dX11_next_40 (by decide) ?_
  refine q_put (v := .int 0) (w' := [(m0, .inr (11, [.int 0, .ref m_tape, .int 0, .int 0, .int 0, .int 200, .ref m_s, .ref m_h, .ref m_read, .ref m_names, .ref m_reserved, .int 0, .int 0, .int 0, .int 0, .int 0, .int 0, .long 0, .int 0, .int 0, .int 0, .int 0, .int 0, .int 0, .int 0, .ref m_undone, .ref m_before, .int 0, .ref m_far, .ref m_wayRow, .int (-1), .ref m_keptRow, .ref m_askedRow, .ref m_rares, .ref m_trial, .int (-1), .int (-1), .ref m_hangs, .ref m_paths, .int 0, .int 0, .int 0, .int 0, .ref m_text, .int 0, .int 0, .ref m_toldAt, .int 0, .ref m_stack, .int 0, .int 0, .int 0, .int 1, .int 0, .ref m_truths, .ref m_imaged, .ref m_namesKept, .ref m_areKept]))]) (ty := .int) C hP hD hS 0 13 rfl rfl inX11 tyX11 tyX11_ok nmX11 (by decide) kF_RX11_171 rfl rfl rfl rfl rfl (Nat.le_of_ble_eq_true rfl) rfl dX11_next_41 (fun H locs hP hD hS => ?_)
  refine lv_aload_n hx hb dX11_next_44 rfl (lv_at hl 0 rfl) ?_
  refine q_get (v := .int 0) C hP 0 3 rfl rfl inX11 (by decide) kF_RX11_18 rfl rfl dX11_next_45 ?_
  refine lv_aload_n hx hb dX11_next_48 rfl (lv_at hl 0 rfl) ?_
  refine q_get (v := .int 200) C hP 0 5 rfl rfl inX11 (by decide) kF_RX11_24 rfl rfl dX11_next_49 ?_
  refine lv_icmp_le (tgt := 80) hx hb dX11_next_52 (by decide) (fun _ => ?_) (fun c_0 => absurd (by decide) c_0)
  refine lv_aload_n hx hb dX11_next_80 rfl (lv_at hl 0 rfl) ?_
  refine q_ai (wr := []) (r_V (q0 := 0) (As := []) (rest := []) (wc := [(m0, .inr (11, [.int 0, .ref m_tape, .int 0, .int 0, .int 0, .int 200, .ref m_s, .ref m_h, .ref m_read, .ref m_names, .ref m_reserved, .int 0, .int 0, .int 0, .int 0, .int 0, .int 0, .long 0, .int 0, .int 0, .int 0, .int 0, .int 0, .int 0, .int 0, .ref m_undone, .ref m_before, .int 0, .ref m_far, .ref m_wayRow, .int (-1), .ref m_keptRow, .ref m_askedRow, .ref m_rares, .ref m_trial, .int (-1), .int (-1), .ref m_hangs, .ref m_paths, .int 0, .int 0, .int 0, .int 0, .ref m_text, .int 0, .int 0, .ref m_toldAt, .int 0, .ref m_stack, .int 0, .int 0, .int 0, .int 1, .int 0, .ref m_truths, .ref m_imaged, .ref m_namesKept, .ref m_areKept]))]) C (q_subP hP [0] rfl) (hD.sub [0] (by decide) rfl) (m_peek l D cy m0 m_tape 200 m_s m_h m_read m_names m_reserved m_undone m_before m_far m_wayRow m_keptRow m_askedRow m_rares m_trial m_hangs m_paths m_text m_toldAt m_stack 1 m_truths m_imaged m_namesKept m_areKept _ ) kwV_X11_peek kM_RX11_164 rfl rfl ⟨Nat.le_of_ble_eq_true rfl, Nat.le_of_ble_eq_true rfl⟩ rfl hl.1 rfl (Nat.le_of_ble_eq_true rfl) dX11_next_81 ⟨Nat.le_of_ble_eq_true rfl, Nat.le_of_ble_eq_true rfl⟩) C.2.2.2.2.2.2.1 hP hD hS [0] [] rfl rfl (by decide) (by decide) (fun r_8 u_7 H locs hw_9 hP hD hS => ?_)
  have hP : va_P D vwCl [(m0, .inr (11, [.int 0, .ref m_tape, .int 0, .int 0, .int 0, .int 200, .ref m_s, .ref m_h, .ref m_read, .ref m_names, .ref m_reserved, .int 0, .int 0, .int 0, .int 0, .int 0, .int 0, .long 0, .int 0, .int 0, .int 0, .int 0, .int 0, .int 0, .int 0, .ref m_undone, .ref m_before, .int 0, .ref m_far, .ref m_wayRow, .int (-1), .ref m_keptRow, .ref m_askedRow, .ref m_rares, .ref m_trial, .int (-1), .int (-1), .ref m_hangs, .ref m_paths, .int 0, .int 0, .int 0, .int 0, .ref m_text, .int 0, .int 0, .ref m_toldAt, .int 0, .ref m_stack, .int 0, .int 0, .int 0, .int 1, .int 0, .ref m_truths, .ref m_imaged, .ref m_namesKept, .ref m_areKept]))] H := hP
  have hD : va_D A [(m0, .inr (11, [.int 0, .ref m_tape, .int 0, .int 0, .int 0, .int 200, .ref m_s, .ref m_h, .ref m_read, .ref m_names, .ref m_reserved, .int 0, .int 0, .int 0, .int 0, .int 0, .int 0, .long 0, .int 0, .int 0, .int 0, .int 0, .int 0, .int 0, .int 0, .ref m_undone, .ref m_before, .int 0, .ref m_far, .ref m_wayRow, .int (-1), .ref m_keptRow, .ref m_askedRow, .ref m_rares, .ref m_trial, .int (-1), .int (-1), .ref m_hangs, .ref m_paths, .int 0, .int 0, .int 0, .int 0, .ref m_text, .int 0, .int 0, .ref m_toldAt, .int 0, .ref m_stack, .int 0, .int 0, .int 0, .int 1, .int 0, .ref m_truths, .ref m_imaged, .ref m_namesKept, .ref m_areKept]))] := hD
  obtain rfl : r_8 = (-1) := hw_9
  refine lv_istore_n (lv' := [(1, .int (-1)), (0, .ref m0)]) hx hb dX11_next_84 rfl hl (by decide) rfl (fun ls hl => ?_)
  refine lv_iload_n hx hb dX11_next_85 rfl (lv_at hl 0 rfl) ?_
  refine lv_if_ge (tgt := 95) hx hb dX11_next_86 (by decide) (fun c_0 => absurd c_0 (by decide)) (fun _ => ?_)
  refine lv_aload_n hx hb dX11_next_89 rfl (lv_at hl 1 rfl) ?_
  refine lv_iconst (v := 0) hx hb dX11_next_90 (by decide) ?_
  refine q_put (v := .int 0) (w' := [(m0, .inr (11, [.int 0, .ref m_tape, .int 0, .int 0, .int 0, .int 200, .ref m_s, .ref m_h, .ref m_read, .ref m_names, .ref m_reserved, .int 0, .int 0, .int 0, .int 0, .int 0, .int 0, .long 0, .int 0, .int 0, .int 0, .int 0, .int 0, .int 0, .int 0, .ref m_undone, .ref m_before, .int 0, .ref m_far, .ref m_wayRow, .int (-1), .ref m_keptRow, .ref m_askedRow, .ref m_rares, .ref m_trial, .int (-1), .int (-1), .ref m_hangs, .ref m_paths, .int 0, .int 0, .int 0, .int 0, .ref m_text, .int 0, .int 0, .ref m_toldAt, .int 0, .ref m_stack, .int 0, .int 0, .int 0, .int 1, .int 0, .ref m_truths, .ref m_imaged, .ref m_namesKept, .ref m_areKept]))]) (ty := .int) C hP hD hS 0 11 rfl rfl inX11 tyX11 tyX11_ok nmX11 (by decide) kF_RX11_174 rfl rfl rfl rfl rfl (Nat.le_of_ble_eq_true rfl) rfl dX11_next_91 (fun H locs hP hD hS => ?_)
  exact q_vret (rm := (Rm 1 20 0 0)) C hS () trivial (q_subP hP [0] rfl) (hD.sub [0] (by decide) rfl) (Nat.le_of_ble_eq_true rfl) (Nat.le_of_ble_eq_true rfl) dX11_next_94
set_option maxHeartbeats 4000000 in
set_option maxRecDepth 100000 in
theorem m_isBook (l : Launch) (D : va_G) (cy : Nat → ClassId) (m0 : Nat) (b : Int32) (v : Int32) (m_tape : Nat) (m_s : Nat) (m_h : Nat) (m_read : Nat) (m_names : Nat) (m_reserved : Nat) (m_undone : Nat) (m_before : Nat) (m_far : Nat) (m_wayRow : Nat) (m_keptRow : Nat) (m_askedRow : Nat) (m_rares : Nat) (m_trial : Nat) (m_hangs : Nat) (m_paths : Nat) (m_text : Nat) (m_toldAt : Nat) (m_stack : Nat) (m_truths : Nat) (m_imaged : Nat) (m_namesKept : Nat) (m_areKept : Nat) (sz : Nat)  : MI l yX11_isBook cX11_isBook 2 (some .boolean) (Rm 1 22 0 0) D cy [.ref m0, .int b] sz [(m0, .inr (11, [.int v, .ref m_tape, .int 0, .int 0, .int 0, .int 0, .ref m_s, .ref m_h, .ref m_read, .ref m_names, .ref m_reserved, .int 0, .int 0, .int 0, .int 0, .int 0, .int 0, .long 0, .int 0, .int 0, .int 0, .int 0, .int 0, .int 0, .int 0, .ref m_undone, .ref m_before, .int 0, .ref m_far, .ref m_wayRow, .int (-1), .ref m_keptRow, .ref m_askedRow, .ref m_rares, .ref m_trial, .int (-1), .int (-1), .ref m_hangs, .ref m_paths, .int 0, .int 0, .int 0, .int 0, .ref m_text, .int 0, .int 0, .ref m_toldAt, .int 0, .ref m_stack, .int 0, .int 0, .int 0, .int 0, .int 0, .ref m_truths, .ref m_imaged, .ref m_namesKept, .ref m_areKept])), (m_s, .inl (cy 1, 383, .inl (sD 0)))] (fun (r : Int32) (u : Unit) => r = 0) (fun u : Unit => [(m0, .inr (11, [.int v, .ref m_tape, .int 0, .int 0, .int 0, .int 0, .ref m_s, .ref m_h, .ref m_read, .ref m_names, .ref m_reserved, .int 0, .int 0, .int 0, .int 0, .int 0, .int 0, .long 0, .int 0, .int 0, .int 0, .int 0, .int 0, .int 0, .int 0, .ref m_undone, .ref m_before, .int 0, .ref m_far, .ref m_wayRow, .int (-1), .ref m_keptRow, .ref m_askedRow, .ref m_rares, .ref m_trial, .int (-1), .int (-1), .ref m_hangs, .ref m_paths, .int 0, .int 0, .int 0, .int 0, .ref m_text, .int 0, .int 0, .ref m_toldAt, .int 0, .ref m_stack, .int 0, .int 0, .int 0, .int 0, .int 0, .ref m_truths, .ref m_imaged, .ref m_namesKept, .ref m_areKept])), (m_s, .inl (cy 1, 383, .inl (sD 0)))]) := by
  refine MI.enter (by decide) (Nat.le_of_ble_eq_true rfl) ?_
  intro p e s m below meth c ls A hsz hAe C hP hD hS hl
  have C : Cx p s m _ meth c cX11_isBook 2 (some .boolean) RX11 "isBook" D cy A := C
  have hx := C.1
  have hb := C.2.1
  have hl : lv_has ls 2 [(0, .ref m0), (1, .int b)] := hl
  refine lv_iload_n hx hb dX11_isBook_0 rfl (lv_at hl 1 rfl) ?_
  refine lv_iconst (v := 0) hx hb dX11_isBook_1 (by decide) ?_
  refine lv_aload_n hx hb dX11_isBook_2 rfl (lv_at hl 0 rfl) ?_
  refine q_get (v := .ref m_s) C hP 0 6 rfl rfl inX11 (by decide) kF_RX11_33 rfl rfl dX11_isBook_3 ?_
  refine lv_iconst (v := 0) hx hb dX11_isBook_6 (by decide) ?_
  refine q_iald (v := 0) C hP 1 rfl (vin (by decide +kernel)) (by decide +kernel) dX11_isBook_7 ?_
  refine lv_iconst (v := 1) hx hb dX11_isBook_8 (by decide) ?_
  refine lv_isub hx hb dX11_isBook_9 ?_
  refine q_val (v := (-1)) (by decide) ?_
  refine q_ai (wr := [(m0, .inr (11, [.int v, .ref m_tape, .int 0, .int 0, .int 0, .int 0, .ref m_s, .ref m_h, .ref m_read, .ref m_names, .ref m_reserved, .int 0, .int 0, .int 0, .int 0, .int 0, .int 0, .long 0, .int 0, .int 0, .int 0, .int 0, .int 0, .int 0, .int 0, .ref m_undone, .ref m_before, .int 0, .ref m_far, .ref m_wayRow, .int (-1), .ref m_keptRow, .ref m_askedRow, .ref m_rares, .ref m_trial, .int (-1), .int (-1), .ref m_hangs, .ref m_paths, .int 0, .int 0, .int 0, .int 0, .ref m_text, .int 0, .int 0, .ref m_toldAt, .int 0, .ref m_stack, .int 0, .int 0, .int 0, .int 0, .int 0, .ref m_truths, .ref m_imaged, .ref m_namesKept, .ref m_areKept])), (m_s, .inl (cy 1, 383, .inl (sD 0)))]) (r_S (As := [.int b, .int 0, .int (-1)]) (rest := []) (wc := []) C (q_subP hP [] rfl) (hD.sub [] (by decide) rfl) (c_isIn l D cy b 0 (-1) _ ) kwS_X11_isIn kM_RX11_206 ⟨Nat.le_of_ble_eq_true rfl, Nat.le_of_ble_eq_true rfl⟩ rfl hl.1 rfl (Nat.le_of_ble_eq_true rfl) dX11_isBook_10 ⟨Nat.le_of_ble_eq_true rfl, Nat.le_of_ble_eq_true rfl⟩) C.2.2.2.2.2.2.1 hP hD hS [] [0, 1] rfl rfl (by decide) (by decide) (fun r_2 u_1 H locs hw_3 hP hD hS => ?_)
  have hP : va_P D vwCl [(m0, .inr (11, [.int v, .ref m_tape, .int 0, .int 0, .int 0, .int 0, .ref m_s, .ref m_h, .ref m_read, .ref m_names, .ref m_reserved, .int 0, .int 0, .int 0, .int 0, .int 0, .int 0, .long 0, .int 0, .int 0, .int 0, .int 0, .int 0, .int 0, .int 0, .ref m_undone, .ref m_before, .int 0, .ref m_far, .ref m_wayRow, .int (-1), .ref m_keptRow, .ref m_askedRow, .ref m_rares, .ref m_trial, .int (-1), .int (-1), .ref m_hangs, .ref m_paths, .int 0, .int 0, .int 0, .int 0, .ref m_text, .int 0, .int 0, .ref m_toldAt, .int 0, .ref m_stack, .int 0, .int 0, .int 0, .int 0, .int 0, .ref m_truths, .ref m_imaged, .ref m_namesKept, .ref m_areKept])), (m_s, .inl (cy 1, 383, .inl (sD 0)))] H := hP
  have hD : va_D A [(m0, .inr (11, [.int v, .ref m_tape, .int 0, .int 0, .int 0, .int 0, .ref m_s, .ref m_h, .ref m_read, .ref m_names, .ref m_reserved, .int 0, .int 0, .int 0, .int 0, .int 0, .int 0, .long 0, .int 0, .int 0, .int 0, .int 0, .int 0, .int 0, .int 0, .ref m_undone, .ref m_before, .int 0, .ref m_far, .ref m_wayRow, .int (-1), .ref m_keptRow, .ref m_askedRow, .ref m_rares, .ref m_trial, .int (-1), .int (-1), .ref m_hangs, .ref m_paths, .int 0, .int 0, .int 0, .int 0, .ref m_text, .int 0, .int 0, .ref m_toldAt, .int 0, .ref m_stack, .int 0, .int 0, .int 0, .int 0, .int 0, .ref m_truths, .ref m_imaged, .ref m_namesKept, .ref m_areKept])), (m_s, .inl (cy 1, 383, .inl (sD 0)))] := hD
  obtain rfl : r_2 = 0 := rJn_no (lo := 0) (hi := -1) (rJn_lit (a := 0) (b := -1) hw_3 (by decide) (by decide)) (by decide)
  exact q_iret (rm := (Rm 1 22 0 0)) C hS () rfl rfl (q_subP hP [0, 1] rfl) (hD.sub [0, 1] (by decide) rfl) (Nat.le_of_ble_eq_true rfl) (Nat.le_of_ble_eq_true rfl) dX11_isBook_13
set_option maxHeartbeats 4000000 in
set_option maxRecDepth 100000 in
theorem m_isCell (l : Launch) (D : va_G) (cy : Nat → ClassId) (m0 : Nat) (b : Int32) (v : Int32) (m_tape : Nat) (m_s : Nat) (m_h : Nat) (m_read : Nat) (m_names : Nat) (m_reserved : Nat) (m_undone : Nat) (m_before : Nat) (m_far : Nat) (m_wayRow : Nat) (m_keptRow : Nat) (m_askedRow : Nat) (m_rares : Nat) (m_trial : Nat) (m_hangs : Nat) (m_paths : Nat) (m_text : Nat) (m_toldAt : Nat) (m_stack : Nat) (m_truths : Nat) (m_imaged : Nat) (m_namesKept : Nat) (m_areKept : Nat) (sz : Nat)  : MI l yX11_isCell cX11_isCell 3 (some .boolean) (Rm 1 22 0 0) D cy [.ref m0, .int b, .int v] sz [(m0, .inr (11, [.int 0, .ref m_tape, .int 0, .int 0, .int 0, .int 0, .ref m_s, .ref m_h, .ref m_read, .ref m_names, .ref m_reserved, .int 0, .int 0, .int 0, .int 0, .int 0, .int 0, .long 0, .int 0, .int 0, .int 0, .int 0, .int 0, .int 0, .int 0, .ref m_undone, .ref m_before, .int 0, .ref m_far, .ref m_wayRow, .int (-1), .ref m_keptRow, .ref m_askedRow, .ref m_rares, .ref m_trial, .int (-1), .int (-1), .ref m_hangs, .ref m_paths, .int 0, .int 0, .int 0, .int 0, .ref m_text, .int 0, .int 0, .ref m_toldAt, .int 0, .ref m_stack, .int 0, .int 0, .int 0, .int 0, .int 0, .ref m_truths, .ref m_imaged, .ref m_namesKept, .ref m_areKept])), (m_s, .inl (cy 1, 383, .inl (sD 0)))] (fun (r : Int32) (u : Unit) => True) (fun u : Unit => [(m0, .inr (11, [.int 0, .ref m_tape, .int 0, .int 0, .int 0, .int 0, .ref m_s, .ref m_h, .ref m_read, .ref m_names, .ref m_reserved, .int 0, .int 0, .int 0, .int 0, .int 0, .int 0, .long 0, .int 0, .int 0, .int 0, .int 0, .int 0, .int 0, .int 0, .ref m_undone, .ref m_before, .int 0, .ref m_far, .ref m_wayRow, .int (-1), .ref m_keptRow, .ref m_askedRow, .ref m_rares, .ref m_trial, .int (-1), .int (-1), .ref m_hangs, .ref m_paths, .int 0, .int 0, .int 0, .int 0, .ref m_text, .int 0, .int 0, .ref m_toldAt, .int 0, .ref m_stack, .int 0, .int 0, .int 0, .int 0, .int 0, .ref m_truths, .ref m_imaged, .ref m_namesKept, .ref m_areKept])), (m_s, .inl (cy 1, 383, .inl (sD 0)))]) := by
  refine MI.enter (by decide) (Nat.le_of_ble_eq_true rfl) ?_
  intro p e s m below meth c ls A hsz hAe C hP hD hS hl
  have C : Cx p s m _ meth c cX11_isCell 3 (some .boolean) RX11 "isCell" D cy A := C
  have hx := C.1
  have hb := C.2.1
  have hl : lv_has ls 3 [(0, .ref m0), (1, .int b), (2, .int v)] := hl
  refine lv_iload_n hx hb dX11_isCell_0 rfl (lv_at hl 1 rfl) ?_
  refine lv_iconst (v := 0) hx hb dX11_isCell_1 (by decide) ?_
  refine lv_aload_n hx hb dX11_isCell_2 rfl (lv_at hl 0 rfl) ?_
  refine q_get (v := .ref m_s) C hP 0 6 rfl rfl inX11 (by decide) kF_RX11_33 rfl rfl dX11_isCell_3 ?_
  refine lv_iconst (v := 1) hx hb dX11_isCell_6 (by decide) ?_
  refine q_iald (v := 4) C hP 1 rfl (vin (by decide +kernel)) (by decide +kernel) dX11_isCell_7 ?_
  refine lv_iconst (v := 1) hx hb dX11_isCell_8 (by decide) ?_
  refine lv_isub hx hb dX11_isCell_9 ?_
  refine q_val (v := 3) (by decide) ?_
  refine q_ai (wr := [(m0, .inr (11, [.int 0, .ref m_tape, .int 0, .int 0, .int 0, .int 0, .ref m_s, .ref m_h, .ref m_read, .ref m_names, .ref m_reserved, .int 0, .int 0, .int 0, .int 0, .int 0, .int 0, .long 0, .int 0, .int 0, .int 0, .int 0, .int 0, .int 0, .int 0, .ref m_undone, .ref m_before, .int 0, .ref m_far, .ref m_wayRow, .int (-1), .ref m_keptRow, .ref m_askedRow, .ref m_rares, .ref m_trial, .int (-1), .int (-1), .ref m_hangs, .ref m_paths, .int 0, .int 0, .int 0, .int 0, .ref m_text, .int 0, .int 0, .ref m_toldAt, .int 0, .ref m_stack, .int 0, .int 0, .int 0, .int 0, .int 0, .ref m_truths, .ref m_imaged, .ref m_namesKept, .ref m_areKept])), (m_s, .inl (cy 1, 383, .inl (sD 0)))]) (r_S (As := [.int b, .int 0, .int 3]) (rest := []) (wc := []) C (q_subP hP [] rfl) (hD.sub [] (by decide) rfl) (c_isIn l D cy b 0 3 _ ) kwS_X11_isIn kM_RX11_206 ⟨Nat.le_of_ble_eq_true rfl, Nat.le_of_ble_eq_true rfl⟩ rfl hl.1 rfl (Nat.le_of_ble_eq_true rfl) dX11_isCell_10 ⟨Nat.le_of_ble_eq_true rfl, Nat.le_of_ble_eq_true rfl⟩) C.2.2.2.2.2.2.1 hP hD hS [] [0, 1] rfl rfl (by decide) (by decide) (fun r_2 u_1 H locs hw_3 hP hD hS => ?_)
  have hP : va_P D vwCl [(m0, .inr (11, [.int 0, .ref m_tape, .int 0, .int 0, .int 0, .int 0, .ref m_s, .ref m_h, .ref m_read, .ref m_names, .ref m_reserved, .int 0, .int 0, .int 0, .int 0, .int 0, .int 0, .long 0, .int 0, .int 0, .int 0, .int 0, .int 0, .int 0, .int 0, .ref m_undone, .ref m_before, .int 0, .ref m_far, .ref m_wayRow, .int (-1), .ref m_keptRow, .ref m_askedRow, .ref m_rares, .ref m_trial, .int (-1), .int (-1), .ref m_hangs, .ref m_paths, .int 0, .int 0, .int 0, .int 0, .ref m_text, .int 0, .int 0, .ref m_toldAt, .int 0, .ref m_stack, .int 0, .int 0, .int 0, .int 0, .int 0, .ref m_truths, .ref m_imaged, .ref m_namesKept, .ref m_areKept])), (m_s, .inl (cy 1, 383, .inl (sD 0)))] H := hP
  have hD : va_D A [(m0, .inr (11, [.int 0, .ref m_tape, .int 0, .int 0, .int 0, .int 0, .ref m_s, .ref m_h, .ref m_read, .ref m_names, .ref m_reserved, .int 0, .int 0, .int 0, .int 0, .int 0, .int 0, .long 0, .int 0, .int 0, .int 0, .int 0, .int 0, .int 0, .int 0, .ref m_undone, .ref m_before, .int 0, .ref m_far, .ref m_wayRow, .int (-1), .ref m_keptRow, .ref m_askedRow, .ref m_rares, .ref m_trial, .int (-1), .int (-1), .ref m_hangs, .ref m_paths, .int 0, .int 0, .int 0, .int 0, .ref m_text, .int 0, .int 0, .ref m_toldAt, .int 0, .ref m_stack, .int 0, .int 0, .int 0, .int 0, .int 0, .ref m_truths, .ref m_imaged, .ref m_namesKept, .ref m_areKept])), (m_s, .inl (cy 1, 383, .inl (sD 0)))] := hD
  rcases rJn_c (lo := 0) (hi := 3) (rJn_lit (a := 0) (b := 3) hw_3 (by decide) (by decide)) with ⟨rfl, i_4a, i_4b⟩ | ⟨rfl, i_4n⟩
  · refine lv_if_eq (tgt := 36) hx hb dX11_isCell_13 (by decide) (fun c_0 => absurd c_0 (by decide)) (fun _ => ?_)
    refine lv_iload_n hx hb dX11_isCell_16 rfl (lv_at hl 2 rfl) ?_
    refine lv_iconst (v := 0) hx hb dX11_isCell_17 (by decide) ?_
    refine lv_aload_n hx hb dX11_isCell_18 rfl (lv_at hl 0 rfl) ?_
    refine q_get (v := .ref m_s) C hP 0 6 rfl rfl inX11 (by decide) kF_RX11_33 rfl rfl dX11_isCell_19 ?_
    refine lv_iconst (v := 2) hx hb dX11_isCell_22 (by decide) ?_
    refine q_iald (v := 4) C hP 1 rfl (vin (by decide +kernel)) (by decide +kernel) dX11_isCell_23 ?_
    refine lv_iconst (v := 1) hx hb dX11_isCell_24 (by decide) ?_
    refine lv_isub hx hb dX11_isCell_25 ?_
    refine q_val (v := 3) (by decide) ?_
    refine q_ai (wr := [(m0, .inr (11, [.int 0, .ref m_tape, .int 0, .int 0, .int 0, .int 0, .ref m_s, .ref m_h, .ref m_read, .ref m_names, .ref m_reserved, .int 0, .int 0, .int 0, .int 0, .int 0, .int 0, .long 0, .int 0, .int 0, .int 0, .int 0, .int 0, .int 0, .int 0, .ref m_undone, .ref m_before, .int 0, .ref m_far, .ref m_wayRow, .int (-1), .ref m_keptRow, .ref m_askedRow, .ref m_rares, .ref m_trial, .int (-1), .int (-1), .ref m_hangs, .ref m_paths, .int 0, .int 0, .int 0, .int 0, .ref m_text, .int 0, .int 0, .ref m_toldAt, .int 0, .ref m_stack, .int 0, .int 0, .int 0, .int 0, .int 0, .ref m_truths, .ref m_imaged, .ref m_namesKept, .ref m_areKept])), (m_s, .inl (cy 1, 383, .inl (sD 0)))]) (r_S (As := [.int v, .int 0, .int 3]) (rest := []) (wc := []) C (q_subP hP [] rfl) (hD.sub [] (by decide) rfl) (c_isIn l D cy v 0 3 _ ) kwS_X11_isIn kM_RX11_206 ⟨Nat.le_of_ble_eq_true rfl, Nat.le_of_ble_eq_true rfl⟩ rfl hl.1 rfl (Nat.le_of_ble_eq_true rfl) dX11_isCell_26 ⟨Nat.le_of_ble_eq_true rfl, Nat.le_of_ble_eq_true rfl⟩) C.2.2.2.2.2.2.1 hP hD hS [] [0, 1] rfl rfl (by decide) (by decide) (fun r_6 u_5 H locs hw_7 hP hD hS => ?_)
    have hP : va_P D vwCl [(m0, .inr (11, [.int 0, .ref m_tape, .int 0, .int 0, .int 0, .int 0, .ref m_s, .ref m_h, .ref m_read, .ref m_names, .ref m_reserved, .int 0, .int 0, .int 0, .int 0, .int 0, .int 0, .long 0, .int 0, .int 0, .int 0, .int 0, .int 0, .int 0, .int 0, .ref m_undone, .ref m_before, .int 0, .ref m_far, .ref m_wayRow, .int (-1), .ref m_keptRow, .ref m_askedRow, .ref m_rares, .ref m_trial, .int (-1), .int (-1), .ref m_hangs, .ref m_paths, .int 0, .int 0, .int 0, .int 0, .ref m_text, .int 0, .int 0, .ref m_toldAt, .int 0, .ref m_stack, .int 0, .int 0, .int 0, .int 0, .int 0, .ref m_truths, .ref m_imaged, .ref m_namesKept, .ref m_areKept])), (m_s, .inl (cy 1, 383, .inl (sD 0)))] H := hP
    have hD : va_D A [(m0, .inr (11, [.int 0, .ref m_tape, .int 0, .int 0, .int 0, .int 0, .ref m_s, .ref m_h, .ref m_read, .ref m_names, .ref m_reserved, .int 0, .int 0, .int 0, .int 0, .int 0, .int 0, .long 0, .int 0, .int 0, .int 0, .int 0, .int 0, .int 0, .int 0, .ref m_undone, .ref m_before, .int 0, .ref m_far, .ref m_wayRow, .int (-1), .ref m_keptRow, .ref m_askedRow, .ref m_rares, .ref m_trial, .int (-1), .int (-1), .ref m_hangs, .ref m_paths, .int 0, .int 0, .int 0, .int 0, .ref m_text, .int 0, .int 0, .ref m_toldAt, .int 0, .ref m_stack, .int 0, .int 0, .int 0, .int 0, .int 0, .ref m_truths, .ref m_imaged, .ref m_namesKept, .ref m_areKept])), (m_s, .inl (cy 1, 383, .inl (sD 0)))] := hD
    rcases rJn_c (lo := 0) (hi := 3) (rJn_lit (a := 0) (b := 3) hw_7 (by decide) (by decide)) with ⟨rfl, i_8a, i_8b⟩ | ⟨rfl, i_8n⟩
    · refine lv_if_eq (tgt := 36) hx hb dX11_isCell_29 (by decide) (fun c_0 => absurd c_0 (by decide)) (fun _ => ?_)
      refine lv_iconst (v := 1) hx hb dX11_isCell_32 (by decide) ?_
      refine lv_goto (tgt := 37) hx hb dX11_isCell_33 (by decide) ?_
      exact q_iret (rm := (Rm 1 22 0 0)) C hS () rfl trivial (q_subP hP [0, 1] rfl) (hD.sub [0, 1] (by decide) rfl) (Nat.le_of_ble_eq_true rfl) (Nat.le_of_ble_eq_true rfl) dX11_isCell_37
    · refine lv_if_eq (tgt := 36) hx hb dX11_isCell_29 (by decide) (fun _ => ?_) (fun c_0 => absurd (by decide) c_0)
      refine lv_iconst (v := 0) hx hb dX11_isCell_36 (by decide) ?_
      exact q_iret (rm := (Rm 1 22 0 0)) C hS () rfl trivial (q_subP hP [0, 1] rfl) (hD.sub [0, 1] (by decide) rfl) (Nat.le_of_ble_eq_true rfl) (Nat.le_of_ble_eq_true rfl) dX11_isCell_37
  · refine lv_if_eq (tgt := 36) hx hb dX11_isCell_13 (by decide) (fun _ => ?_) (fun c_0 => absurd (by decide) c_0)
    refine lv_iconst (v := 0) hx hb dX11_isCell_36 (by decide) ?_
    exact q_iret (rm := (Rm 1 22 0 0)) C hS () rfl trivial (q_subP hP [0, 1] rfl) (hD.sub [0, 1] (by decide) rfl) (Nat.le_of_ble_eq_true rfl) (Nat.le_of_ble_eq_true rfl) dX11_isCell_37
set_option maxHeartbeats 4000000 in
set_option maxRecDepth 100000 in
theorem m_bookAt (l : Launch) (D : va_G) (cy : Nat → ClassId) (m0 : Nat) (b : Int32) (v : Int32) (m_tape : Nat) (m_s : Nat) (m_h : Nat) (m_read : Nat) (m_names : Nat) (m_reserved : Nat) (m_undone : Nat) (m_before : Nat) (m_far : Nat) (m_wayRow : Nat) (m_keptRow : Nat) (m_askedRow : Nat) (m_rares : Nat) (m_trial : Nat) (m_hangs : Nat) (m_paths : Nat) (m_text : Nat) (m_toldAt : Nat) (m_stack : Nat) (m_truths : Nat) (m_imaged : Nat) (m_namesKept : Nat) (m_areKept : Nat) (sz : Nat)  : MI l yX11_bookAt cX11_bookAt 4 (some .int) (Rm 0 0 0 0) D cy [.ref m0, .int b, .int v] sz [(m0, .inr (11, [.int 0, .ref m_tape, .int 0, .int 0, .int 0, .int 0, .ref m_s, .ref m_h, .ref m_read, .ref m_names, .ref m_reserved, .int 0, .int 0, .int 0, .int 0, .int 0, .int 0, .long 0, .int 0, .int 0, .int 0, .int 0, .int 0, .int 0, .int 0, .ref m_undone, .ref m_before, .int 0, .ref m_far, .ref m_wayRow, .int (-1), .ref m_keptRow, .ref m_askedRow, .ref m_rares, .ref m_trial, .int (-1), .int (-1), .ref m_hangs, .ref m_paths, .int 0, .int 0, .int 0, .int 0, .ref m_text, .int 0, .int 0, .ref m_toldAt, .int 0, .ref m_stack, .int 0, .int 0, .int 0, .int 0, .int 0, .ref m_truths, .ref m_imaged, .ref m_namesKept, .ref m_areKept])), (m_s, .inl (cy 1, 383, .inl (sD 0)))] (fun (r : Int32) (u : Unit) => r = (-1)) (fun u : Unit => [(m0, .inr (11, [.int 0, .ref m_tape, .int 0, .int 0, .int 0, .int 0, .ref m_s, .ref m_h, .ref m_read, .ref m_names, .ref m_reserved, .int 0, .int 0, .int 0, .int 0, .int 0, .int 0, .long 0, .int 0, .int 0, .int 0, .int 0, .int 0, .int 0, .int 0, .ref m_undone, .ref m_before, .int 0, .ref m_far, .ref m_wayRow, .int (-1), .ref m_keptRow, .ref m_askedRow, .ref m_rares, .ref m_trial, .int (-1), .int (-1), .ref m_hangs, .ref m_paths, .int 0, .int 0, .int 0, .int 0, .ref m_text, .int 0, .int 0, .ref m_toldAt, .int 0, .ref m_stack, .int 0, .int 0, .int 0, .int 0, .int 0, .ref m_truths, .ref m_imaged, .ref m_namesKept, .ref m_areKept])), (m_s, .inl (cy 1, 383, .inl (sD 0)))]) := by
  refine MI.enter (by decide) (Nat.le_of_ble_eq_true rfl) ?_
  intro p e s m below meth c ls A hsz hAe C hP hD hS hl
  have C : Cx p s m _ meth c cX11_bookAt 4 (some .int) RX11 "bookAt" D cy A := C
  have hx := C.1
  have hb := C.2.1
  have hl : lv_has ls 4 [(0, .ref m0), (1, .int b), (2, .int v)] := hl
  refine lv_iconst (v := 0) hx hb dX11_bookAt_0 (by decide) ?_
  refine lv_istore_n (lv' := [(3, .int 0), (0, .ref m0), (1, .int b), (2, .int v)]) hx hb dX11_bookAt_1 rfl hl (by decide) rfl (fun ls hl => ?_)
  refine lv_iload_n hx hb dX11_bookAt_2 rfl (lv_at hl 0 rfl) ?_
  refine lv_aload_n hx hb dX11_bookAt_3 rfl (lv_at hl 1 rfl) ?_
  refine q_get (v := .ref m_s) C hP 0 6 rfl rfl inX11 (by decide) kF_RX11_33 rfl rfl dX11_bookAt_4 ?_
  refine lv_iconst (v := 0) hx hb dX11_bookAt_7 (by decide) ?_
  refine q_iald (v := 0) C hP 1 rfl (vin (by decide +kernel)) (by decide +kernel) dX11_bookAt_8 ?_
  refine lv_icmp_ge (tgt := 46) hx hb dX11_bookAt_9 (by decide) (fun _ => ?_) (fun c_0 => absurd (by decide) c_0)
  refine lv_iconst (v := (-1)) hx hb dX11_bookAt_46 (by decide) ?_
  exact q_iret (rm := (Rm 0 0 0 0)) C hS () rfl rfl (q_subP hP [0, 1] rfl) (hD.sub [0, 1] (by decide) rfl) (Nat.le_of_ble_eq_true rfl) (Nat.le_of_ble_eq_true rfl) dX11_bookAt_47
set_option maxHeartbeats 4000000 in
set_option maxRecDepth 100000 in
theorem m_readSet (l : Launch) (D : va_G) (cy : Nat → ClassId) (m0 : Nat) (v : Int32) (m_tape : Nat) (v1 : Int32) (m_s : Nat) (m_h : Nat) (m_read : Nat) (m_names : Nat) (m_reserved : Nat) (m_undone : Nat) (m_before : Nat) (m_far : Nat) (m_wayRow : Nat) (m_keptRow : Nat) (m_askedRow : Nat) (m_rares : Nat) (m_trial : Nat) (m_hangs : Nat) (m_paths : Nat) (m_text : Nat) (m_toldAt : Nat) (m_stack : Nat) (m_truths : Nat) (m_imaged : Nat) (m_namesKept : Nat) (m_areKept : Nat) (sz : Nat)  : MI l yX11_readSet cX11_readSet 4 (some .int) (Rm 0 0 0 0) D cy [.ref m0, .int v] sz [(m0, .inr (11, [.int 0, .ref m_tape, .int 0, .int 0, .int 0, .int v1, .ref m_s, .ref m_h, .ref m_read, .ref m_names, .ref m_reserved, .int 0, .int 0, .int 0, .int 0, .int 0, .int 0, .long 0, .int 0, .int 0, .int 0, .int 0, .int 0, .int 0, .int 0, .ref m_undone, .ref m_before, .int 0, .ref m_far, .ref m_wayRow, .int (-1), .ref m_keptRow, .ref m_askedRow, .ref m_rares, .ref m_trial, .int (-1), .int (-1), .ref m_hangs, .ref m_paths, .int 0, .int 0, .int 0, .int 0, .ref m_text, .int 0, .int 0, .ref m_toldAt, .int 0, .ref m_stack, .int 0, .int 0, .int 0, .int 0, .int 0, .ref m_truths, .ref m_imaged, .ref m_namesKept, .ref m_areKept])), (m_s, .inl (cy 1, 383, .inl (sD 0)))] (fun (r : Int32) (u : Unit) => r = 0) (fun u : Unit => [(m0, .inr (11, [.int 0, .ref m_tape, .int 0, .int 0, .int 0, .int v1, .ref m_s, .ref m_h, .ref m_read, .ref m_names, .ref m_reserved, .int 0, .int 0, .int 0, .int 0, .int 0, .int 0, .long 0, .int 0, .int 0, .int 0, .int 0, .int 0, .int 0, .int 0, .ref m_undone, .ref m_before, .int 0, .ref m_far, .ref m_wayRow, .int (-1), .ref m_keptRow, .ref m_askedRow, .ref m_rares, .ref m_trial, .int (-1), .int (-1), .ref m_hangs, .ref m_paths, .int 0, .int 0, .int 0, .int 0, .ref m_text, .int 0, .int 0, .ref m_toldAt, .int 0, .ref m_stack, .int 0, .int 0, .int 0, .int 0, .int 0, .ref m_truths, .ref m_imaged, .ref m_namesKept, .ref m_areKept])), (m_s, .inl (cy 1, 383, .inl (sD 0)))]) := by
  refine MI.enter (by decide) (Nat.le_of_ble_eq_true rfl) ?_
  intro p e s m below meth c ls A hsz hAe C hP hD hS hl
  have C : Cx p s m _ meth c cX11_readSet 4 (some .int) RX11 "readSet" D cy A := C
  have hx := C.1
  have hb := C.2.1
  have hl : lv_has ls 4 [(0, .ref m0), (1, .int v)] := hl
  refine lv_iconst (v := 0) hx hb dX11_readSet_0 (by decide) ?_
  refine lv_istore_n (lv' := [(2, .int 0), (0, .ref m0), (1, .int v)]) hx hb dX11_readSet_1 rfl hl (by decide) rfl (fun ls hl => ?_)
  refine lv_iconst (v := 0) hx hb dX11_readSet_2 (by decide) ?_
  refine lv_istore_n (lv' := [(3, .int 0), (2, .int 0), (0, .ref m0), (1, .int v)]) hx hb dX11_readSet_3 rfl hl (by decide) rfl (fun ls hl => ?_)
  refine lv_iload_n hx hb dX11_readSet_4 rfl (lv_at hl 0 rfl) ?_
  refine lv_aload_n hx hb dX11_readSet_5 rfl (lv_at hl 2 rfl) ?_
  refine q_get (v := .ref m_s) C hP 0 6 rfl rfl inX11 (by decide) kF_RX11_33 rfl rfl dX11_readSet_6 ?_
  refine lv_iconst (v := 0) hx hb dX11_readSet_9 (by decide) ?_
  refine q_iald (v := 0) C hP 1 rfl (vin (by decide +kernel)) (by decide +kernel) dX11_readSet_10 ?_
  refine lv_icmp_ge (tgt := 47) hx hb dX11_readSet_11 (by decide) (fun _ => ?_) (fun c_0 => absurd (by decide) c_0)
  refine lv_iload_n hx hb dX11_readSet_47 rfl (lv_at hl 1 rfl) ?_
  exact q_iret (rm := (Rm 0 0 0 0)) C hS () rfl rfl (q_subP hP [0, 1] rfl) (hD.sub [0, 1] (by decide) rfl) (Nat.le_of_ble_eq_true rfl) (Nat.le_of_ble_eq_true rfl) dX11_readSet_48
set_option maxHeartbeats 4000000 in
set_option maxRecDepth 100000 in
theorem m_isDusty (l : Launch) (D : va_G) (cy : Nat → ClassId) (m0 : Nat) (v : Int32) (m_tape : Nat) (m_s : Nat) (m_h : Nat) (m_read : Nat) (m_names : Nat) (m_reserved : Nat) (m_undone : Nat) (m_before : Nat) (m_far : Nat) (m_wayRow : Nat) (m_keptRow : Nat) (m_askedRow : Nat) (m_rares : Nat) (m_trial : Nat) (m_hangs : Nat) (m_paths : Nat) (m_text : Nat) (m_toldAt : Nat) (m_stack : Nat) (m_truths : Nat) (m_imaged : Nat) (m_namesKept : Nat) (m_areKept : Nat) (sz : Nat)  : MI l yX11_isDusty cX11_isDusty 5 (some .boolean) (Rm 0 0 0 0) D cy [.ref m0, .int v] sz [(m0, .inr (11, [.int 0, .ref m_tape, .int 0, .int 0, .int 0, .int 0, .ref m_s, .ref m_h, .ref m_read, .ref m_names, .ref m_reserved, .int 0, .int 0, .int 0, .int 0, .int 0, .int 0, .long 0, .int 0, .int 0, .int 0, .int 0, .int 0, .int 0, .int 0, .ref m_undone, .ref m_before, .int 0, .ref m_far, .ref m_wayRow, .int (-1), .ref m_keptRow, .ref m_askedRow, .ref m_rares, .ref m_trial, .int (-1), .int (-1), .ref m_hangs, .ref m_paths, .int 0, .int 0, .int 0, .int 0, .ref m_text, .int 0, .int 0, .ref m_toldAt, .int 0, .ref m_stack, .int 0, .int 0, .int 0, .int 0, .int 0, .ref m_truths, .ref m_imaged, .ref m_namesKept, .ref m_areKept])), (m_s, .inl (cy 1, 383, .inl (sD 0)))] (fun (r : Int32) (u : Unit) => r = 0) (fun u : Unit => [(m0, .inr (11, [.int 0, .ref m_tape, .int 0, .int 0, .int 0, .int 0, .ref m_s, .ref m_h, .ref m_read, .ref m_names, .ref m_reserved, .int 0, .int 0, .int 0, .int 0, .int 0, .int 0, .long 0, .int 0, .int 0, .int 0, .int 0, .int 0, .int 0, .int 0, .ref m_undone, .ref m_before, .int 0, .ref m_far, .ref m_wayRow, .int (-1), .ref m_keptRow, .ref m_askedRow, .ref m_rares, .ref m_trial, .int (-1), .int (-1), .ref m_hangs, .ref m_paths, .int 0, .int 0, .int 0, .int 0, .ref m_text, .int 0, .int 0, .ref m_toldAt, .int 0, .ref m_stack, .int 0, .int 0, .int 0, .int 0, .int 0, .ref m_truths, .ref m_imaged, .ref m_namesKept, .ref m_areKept])), (m_s, .inl (cy 1, 383, .inl (sD 0)))]) := by
  refine MI.enter (by decide) (Nat.le_of_ble_eq_true rfl) ?_
  intro p e s m below meth c ls A hsz hAe C hP hD hS hl
  have C : Cx p s m _ meth c cX11_isDusty 5 (some .boolean) RX11 "isDusty" D cy A := C
  have hx := C.1
  have hb := C.2.1
  have hl : lv_has ls 5 [(0, .ref m0), (1, .int v)] := hl
  refine lv_iconst (v := 0) hx hb dX11_isDusty_0 (by decide) ?_
  refine lv_istore_n (lv' := [(2, .int 0), (0, .ref m0), (1, .int v)]) hx hb dX11_isDusty_1 rfl hl (by decide) rfl (fun ls hl => ?_)
  refine lv_iconst (v := 0) hx hb dX11_isDusty_2 (by decide) ?_
  refine lv_istore_n (lv' := [(3, .int 0), (2, .int 0), (0, .ref m0), (1, .int v)]) hx hb dX11_isDusty_3 rfl hl (by decide) rfl (fun ls hl => ?_)
  refine lv_iload_n hx hb dX11_isDusty_4 rfl (lv_at hl 0 rfl) ?_
  refine lv_aload_n hx hb dX11_isDusty_5 rfl (lv_at hl 2 rfl) ?_
  refine q_get (v := .ref m_s) C hP 0 6 rfl rfl inX11 (by decide) kF_RX11_33 rfl rfl dX11_isDusty_6 ?_
  refine lv_iconst (v := 0) hx hb dX11_isDusty_9 (by decide) ?_
  refine q_iald (v := 0) C hP 1 rfl (vin (by decide +kernel)) (by decide +kernel) dX11_isDusty_10 ?_
  refine lv_icmp_ge (tgt := 98) hx hb dX11_isDusty_11 (by decide) (fun _ => ?_) (fun c_0 => absurd (by decide) c_0)
  refine lv_iload_n hx hb dX11_isDusty_98 rfl (lv_at hl 1 rfl) ?_
  exact q_iret (rm := (Rm 0 0 0 0)) C hS () rfl rfl (q_subP hP [0, 1] rfl) (hD.sub [0, 1] (by decide) rfl) (Nat.le_of_ble_eq_true rfl) (Nat.le_of_ble_eq_true rfl) dX11_isDusty_99
set_option maxHeartbeats 4000000 in
set_option maxRecDepth 100000 in
theorem lp_m_keeps_47 (l : Launch) (D : va_G) (cy : Nat → ClassId) (m0 : Nat) (m_areKept : Nat) (m_askedRow : Nat) (m_before : Nat) (m_far : Nat) (m_h : Nat) (m_hangs : Nat) (m_imaged : Nat) (m_keptRow : Nat) (m_names : Nat) (m_namesKept : Nat) (m_paths : Nat) (m_rares : Nat) (m_read : Nat) (m_reserved : Nat) (m_s : Nat) (m_stack : Nat) (m_tape : Nat) (m_text : Nat) (m_toldAt : Nat) (m_trial : Nat) (m_truths : Nat) (m_undone : Nat) (m_wayRow : Nat)   {p : Program} {e : Env} {s : State} {m : MethodId} {args : Array Value} {below : List Frame} {meth : Method} {c : Code} {A : Nat → Prop} {Q : State → Prop} {cells slots : Nat} (hroom : cells ≤ ((Rm 0 0 0 0)).cells ∧ slots ≤ ((Rm 0 0 0 0)).slots) (C : Cx p s m args meth c cX11_keeps 2 none RX11 "keeps" D cy A)
    (cont : ∀ (gu : Nat → Int32) (H : Heap) (locs : List Loc) (ls : Array Slot), va_P D vwCl [(m0, .inr (11, [.int 0, .ref m_tape, .int 0, .int 0, .int 0, .int 0, .ref m_s, .ref m_h, .ref m_read, .ref m_names, .ref m_reserved, .int 0, .int 0, .int 0, .int 0, .int 0, .int 0, .long 0, .int 0, .int 0, .int 0, .int 0, .int 0, .int 0, .int 0, .ref m_undone, .ref m_before, .int 0, .ref m_far, .ref m_wayRow, .int (-1), .ref m_keptRow, .ref m_askedRow, .ref m_rares, .ref m_trial, .int (-1), .int (-1), .ref m_hangs, .ref m_paths, .int 0, .int 0, .int 0, .int 0, .ref m_text, .int 0, .int 0, .ref m_toldAt, .int 0, .ref m_stack, .int 0, .int 0, .int 0, .int 0, .int 0, .ref m_truths, .ref m_imaged, .ref m_namesKept, .ref m_areKept])), (m_s, .inl (cy 1, 383, .inl (sD 0))), (m_undone, .inl (cy 1, 784, .inl gu))] H → va_D A [(m0, .inr (11, [.int 0, .ref m_tape, .int 0, .int 0, .int 0, .int 0, .ref m_s, .ref m_h, .ref m_read, .ref m_names, .ref m_reserved, .int 0, .int 0, .int 0, .int 0, .int 0, .int 0, .long 0, .int 0, .int 0, .int 0, .int 0, .int 0, .int 0, .int 0, .ref m_undone, .ref m_before, .int 0, .ref m_far, .ref m_wayRow, .int (-1), .ref m_keptRow, .ref m_askedRow, .ref m_rares, .ref m_trial, .int (-1), .int (-1), .ref m_hangs, .ref m_paths, .int 0, .int 0, .int 0, .int 0, .ref m_text, .int 0, .int 0, .ref m_toldAt, .int 0, .ref m_stack, .int 0, .int 0, .int 0, .int 0, .int 0, .ref m_truths, .ref m_imaged, .ref m_namesKept, .ref m_areKept])), (m_s, .inl (cy 1, 383, .inl (sD 0))), (m_undone, .inl (cy 1, 784, .inl gu))] → va_S A s.heap H locs → lv_has ls 2 [(1, .int 98), (0, .ref m0)] → W p l e (Rm 0 0 0 0) s m args below meth c H locs cells slots Q (F0 m 82 ls [])) :
    ∀ (k i_1 : Nat) (gu : Nat → Int32) (H : Heap) (locs : List Loc) (ls : Array Slot), i_1 + k = 98 → va_P D vwCl [(m0, .inr (11, [.int 0, .ref m_tape, .int 0, .int 0, .int 0, .int 0, .ref m_s, .ref m_h, .ref m_read, .ref m_names, .ref m_reserved, .int 0, .int 0, .int 0, .int 0, .int 0, .int 0, .long 0, .int 0, .int 0, .int 0, .int 0, .int 0, .int 0, .int 0, .ref m_undone, .ref m_before, .int 0, .ref m_far, .ref m_wayRow, .int (-1), .ref m_keptRow, .ref m_askedRow, .ref m_rares, .ref m_trial, .int (-1), .int (-1), .ref m_hangs, .ref m_paths, .int 0, .int 0, .int 0, .int 0, .ref m_text, .int 0, .int 0, .ref m_toldAt, .int 0, .ref m_stack, .int 0, .int 0, .int 0, .int 0, .int 0, .ref m_truths, .ref m_imaged, .ref m_namesKept, .ref m_areKept])), (m_s, .inl (cy 1, 383, .inl (sD 0))), (m_undone, .inl (cy 1, 784, .inl gu))] H → va_D A [(m0, .inr (11, [.int 0, .ref m_tape, .int 0, .int 0, .int 0, .int 0, .ref m_s, .ref m_h, .ref m_read, .ref m_names, .ref m_reserved, .int 0, .int 0, .int 0, .int 0, .int 0, .int 0, .long 0, .int 0, .int 0, .int 0, .int 0, .int 0, .int 0, .int 0, .ref m_undone, .ref m_before, .int 0, .ref m_far, .ref m_wayRow, .int (-1), .ref m_keptRow, .ref m_askedRow, .ref m_rares, .ref m_trial, .int (-1), .int (-1), .ref m_hangs, .ref m_paths, .int 0, .int 0, .int 0, .int 0, .ref m_text, .int 0, .int 0, .ref m_toldAt, .int 0, .ref m_stack, .int 0, .int 0, .int 0, .int 0, .int 0, .ref m_truths, .ref m_imaged, .ref m_namesKept, .ref m_areKept])), (m_s, .inl (cy 1, 383, .inl (sD 0))), (m_undone, .inl (cy 1, 784, .inl gu))] → va_S A s.heap H locs → lv_has ls 2 [(1, .int (nI i_1)), (0, .ref m0)] → W p l e (Rm 0 0 0 0) s m args below meth c H locs cells slots Q (F0 m 47 ls []) := by
  have hx := C.1
  have hb := C.2.1
  intro k
  induction k with
  | zero =>
    intro i_1 gu H locs ls hik hP hD hS hl
    obtain rfl : i_1 = 98 := by omega
    have hl : lv_has ls 2 [(1, .int 98), (0, .ref m0)] := hl
    have hP : va_P D vwCl [(m0, .inr (11, [.int 0, .ref m_tape, .int 0, .int 0, .int 0, .int 0, .ref m_s, .ref m_h, .ref m_read, .ref m_names, .ref m_reserved, .int 0, .int 0, .int 0, .int 0, .int 0, .int 0, .long 0, .int 0, .int 0, .int 0, .int 0, .int 0, .int 0, .int 0, .ref m_undone, .ref m_before, .int 0, .ref m_far, .ref m_wayRow, .int (-1), .ref m_keptRow, .ref m_askedRow, .ref m_rares, .ref m_trial, .int (-1), .int (-1), .ref m_hangs, .ref m_paths, .int 0, .int 0, .int 0, .int 0, .ref m_text, .int 0, .int 0, .ref m_toldAt, .int 0, .ref m_stack, .int 0, .int 0, .int 0, .int 0, .int 0, .ref m_truths, .ref m_imaged, .ref m_namesKept, .ref m_areKept])), (m_s, .inl (cy 1, 383, .inl (sD 0))), (m_undone, .inl (cy 1, 784, .inl gu))] H := hP
    have hD : va_D A [(m0, .inr (11, [.int 0, .ref m_tape, .int 0, .int 0, .int 0, .int 0, .ref m_s, .ref m_h, .ref m_read, .ref m_names, .ref m_reserved, .int 0, .int 0, .int 0, .int 0, .int 0, .int 0, .long 0, .int 0, .int 0, .int 0, .int 0, .int 0, .int 0, .int 0, .ref m_undone, .ref m_before, .int 0, .ref m_far, .ref m_wayRow, .int (-1), .ref m_keptRow, .ref m_askedRow, .ref m_rares, .ref m_trial, .int (-1), .int (-1), .ref m_hangs, .ref m_paths, .int 0, .int 0, .int 0, .int 0, .ref m_text, .int 0, .int 0, .ref m_toldAt, .int 0, .ref m_stack, .int 0, .int 0, .int 0, .int 0, .int 0, .ref m_truths, .ref m_imaged, .ref m_namesKept, .ref m_areKept])), (m_s, .inl (cy 1, 383, .inl (sD 0))), (m_undone, .inl (cy 1, 784, .inl gu))] := hD
    refine lv_iload_n hx hb dX11_keeps_47 rfl (lv_at hl 0 rfl) ?_
    refine lv_bipush (v := 98) hx hb dX11_keeps_48 (by decide) ?_
    refine lv_icmp_ge (tgt := 82) hx hb dX11_keeps_50 (by decide) (fun _ => ?_) (fun c_0 => absurd (by decide) c_0)
    exact cont gu H locs ls hP hD hS hl
  | succ k ih =>
    intro i_1 gu H locs ls hik hP hD hS hl
    refine lv_iload_n hx hb dX11_keeps_47 rfl (lv_at hl 0 rfl) ?_
    refine lv_bipush (v := 98) hx hb dX11_keeps_48 (by decide) ?_
    refine lv_icmp_ge (tgt := 82) hx hb dX11_keeps_50 (by decide) (fun c_0 => absurd c_0 (nI_ge (b := 98) (by omega) (by decide))) (fun _ => ?_)
    refine lv_aload_n hx hb dX11_keeps_53 rfl (lv_at hl 1 rfl) ?_
    refine q_get (v := .ref m_undone) C hP 0 25 rfl rfl inX11 (by decide) kF_RX11_50 rfl rfl dX11_keeps_54 ?_
    refine lv_bipush (v := 98) hx hb dX11_keeps_57 (by decide) ?_
    refine lv_aload_n hx hb dX11_keeps_59 rfl (lv_at hl 1 rfl) ?_
    refine q_get (v := .int 0) C hP 0 27 rfl rfl inX11 (by decide) kF_RX11_288 rfl rfl dX11_keeps_60 ?_
    refine lv_imul hx hb dX11_keeps_63 ?_
    refine q_val (v := 0) (by decide) ?_
    refine lv_iload_n hx hb dX11_keeps_64 rfl (lv_at hl 0 rfl) ?_
    refine lv_iadd hx hb dX11_keeps_65 ?_
    refine q_val (v := (nI (0 + i_1))) (nI_add 0 i_1) ?_
    refine lv_aload_n hx hb dX11_keeps_66 rfl (lv_at hl 1 rfl) ?_
    refine q_get (v := .ref m_s) C hP 0 6 rfl rfl inX11 (by decide) kF_RX11_33 rfl rfl dX11_keeps_67 ?_
    refine lv_bipush (v := 104) hx hb dX11_keeps_70 (by decide) ?_
    refine lv_iload_n hx hb dX11_keeps_72 rfl (lv_at hl 0 rfl) ?_
    refine lv_iadd hx hb dX11_keeps_73 ?_
    refine q_val (v := (nI (104 + i_1))) (nI_add 104 i_1) ?_
    refine q_iald (v := ((sD 0) (104 + i_1))) C hP 1 rfl (vp_in_nI (by omega) (by decide)) (by rw [nI_clamp (by omega)]) dX11_keeps_74 ?_
    refine q_iast (g := upd gu (0 + i_1) ((sD 0) (104 + i_1))) (w' := [(m0, .inr (11, [.int 0, .ref m_tape, .int 0, .int 0, .int 0, .int 0, .ref m_s, .ref m_h, .ref m_read, .ref m_names, .ref m_reserved, .int 0, .int 0, .int 0, .int 0, .int 0, .int 0, .long 0, .int 0, .int 0, .int 0, .int 0, .int 0, .int 0, .int 0, .ref m_undone, .ref m_before, .int 0, .ref m_far, .ref m_wayRow, .int (-1), .ref m_keptRow, .ref m_askedRow, .ref m_rares, .ref m_trial, .int (-1), .int (-1), .ref m_hangs, .ref m_paths, .int 0, .int 0, .int 0, .int 0, .ref m_text, .int 0, .int 0, .ref m_toldAt, .int 0, .ref m_stack, .int 0, .int 0, .int 0, .int 0, .int 0, .ref m_truths, .ref m_imaged, .ref m_namesKept, .ref m_areKept])), (m_s, .inl (cy 1, 383, .inl (sD 0))), (m_undone, .inl (cy 1, 784, .inl (upd gu (0 + i_1) ((sD 0) (104 + i_1)))))]) C hP hD hS 2 rfl (vp_in_nI (by omega) (by decide)) (by rw [nI_clamp (by omega)]) rfl dX11_keeps_75 (fun H locs hP hD hS => ?_)
    refine lv_iinc (v := (nI (i_1 + 1))) (lv' := [(1, .int (nI (i_1 + 1))), (0, .ref m0)]) hx hb dX11_keeps_76 hl (k := 0) rfl (nI_1 _) (by decide) rfl (fun ls hl => ?_)
    refine lv_goto (tgt := 47) hx hb dX11_keeps_79 (by decide) ?_
    exact ih (i_1 + 1) (upd gu (0 + i_1) ((sD 0) (104 + i_1))) H locs ls (by omega) hP hD hS (lv_sub hl [0, 1] rfl)
set_option maxHeartbeats 4000000 in
set_option maxRecDepth 100000 in
theorem m_keeps (l : Launch) (D : va_G) (cy : Nat → ClassId) (m0 : Nat) (m_tape : Nat) (m_s : Nat) (m_h : Nat) (m_read : Nat) (m_names : Nat) (m_reserved : Nat) (m_undone : Nat) (m_before : Nat) (m_far : Nat) (m_wayRow : Nat) (m_keptRow : Nat) (m_askedRow : Nat) (m_rares : Nat) (m_trial : Nat) (m_hangs : Nat) (m_paths : Nat) (m_text : Nat) (m_toldAt : Nat) (m_stack : Nat) (m_truths : Nat) (m_imaged : Nat) (m_namesKept : Nat) (m_areKept : Nat) (f : Nat → Int32) (sz : Nat)  : MV l yX11_keeps cX11_keeps 2 (Rm 0 0 0 0) D cy [.ref m0] sz [(m0, .inr (11, [.int 0, .ref m_tape, .int 0, .int 0, .int 0, .int 0, .ref m_s, .ref m_h, .ref m_read, .ref m_names, .ref m_reserved, .int 0, .int 0, .int 0, .int 0, .int 0, .int 0, .long 0, .int 0, .int 0, .int 0, .int 0, .int 0, .int 0, .int 0, .ref m_undone, .ref m_before, .int 0, .ref m_far, .ref m_wayRow, .int (-1), .ref m_keptRow, .ref m_askedRow, .ref m_rares, .ref m_trial, .int (-1), .int (-1), .ref m_hangs, .ref m_paths, .int 0, .int 0, .int 0, .int 0, .ref m_text, .int 0, .int 0, .ref m_toldAt, .int 0, .ref m_stack, .int 0, .int 0, .int 0, .int 0, .int 0, .ref m_truths, .ref m_imaged, .ref m_namesKept, .ref m_areKept])), (m_s, .inl (cy 1, 383, .inl (sD 0))), (m_undone, .inl (cy 1, 784, .inl f))] (fun _ : Nat → Int32 => True) (fun u : Nat → Int32 => [(m0, .inr (11, [.int 0, .ref m_tape, .int 0, .int 0, .int 0, .int 0, .ref m_s, .ref m_h, .ref m_read, .ref m_names, .ref m_reserved, .int 0, .int 0, .int 0, .int 0, .int 0, .int 0, .long 0, .int 0, .int 0, .int 0, .int 0, .int 0, .int 0, .int 0, .ref m_undone, .ref m_before, .int 1, .ref m_far, .ref m_wayRow, .int (-1), .ref m_keptRow, .ref m_askedRow, .ref m_rares, .ref m_trial, .int (-1), .int (-1), .ref m_hangs, .ref m_paths, .int 0, .int 0, .int 0, .int 0, .ref m_text, .int 0, .int 0, .ref m_toldAt, .int 0, .ref m_stack, .int 0, .int 0, .int 0, .int 0, .int 0, .ref m_truths, .ref m_imaged, .ref m_namesKept, .ref m_areKept])), (m_s, .inl (cy 1, 383, .inl (sD 0))), (m_undone, .inl (cy 1, 784, .inl u))]) := by
  refine MV.enter (by decide) (Nat.le_of_ble_eq_true rfl) ?_
  intro p e s m below meth c ls A hsz hAe C hP hD hS hl
  have C : Cx p s m _ meth c cX11_keeps 2 none RX11 "keeps" D cy A := C
  have hx := C.1
  have hb := C.2.1
  have hl : lv_has ls 2 [(0, .ref m0)] := hl
  refine lv_aload_n hx hb dX11_keeps_0 rfl (lv_at hl 0 rfl) ?_
  refine q_get (v := .int 0) C hP 0 27 rfl rfl inX11 (by decide) kF_RX11_288 rfl rfl dX11_keeps_1 ?_
  refine lv_bipush (v := 8) hx hb dX11_keeps_4 (by decide) ?_
  refine lv_icmp_ne (tgt := 45) hx hb dX11_keeps_6 (by decide) (fun _ => ?_) (fun c_0 => absurd c_0 (by decide))
  refine lv_iconst (v := 0) hx hb dX11_keeps_45 (by decide) ?_
  refine lv_istore_n (lv' := [(1, .int 0), (0, .ref m0)]) hx hb dX11_keeps_46 rfl hl (by decide) rfl (fun ls hl => ?_)
  refine lp_m_keeps_47 l D cy m0 m_areKept m_askedRow m_before m_far m_h m_hangs m_imaged m_keptRow m_names m_namesKept m_paths m_rares m_read m_reserved m_s m_stack m_tape m_text m_toldAt m_trial m_truths m_undone m_wayRow   ⟨Nat.le_of_ble_eq_true rfl, Nat.le_of_ble_eq_true rfl⟩ C (fun gu H locs ls hP hD hS hl => ?_) 98 0 f _ _ ls (by omega) hP hD hS (lv_sub hl [0, 1] rfl)
  refine lv_aload_n hx hb dX11_keeps_82 rfl (lv_at hl 1 rfl) ?_
  refine lv_dup hx hb dX11_keeps_83 rfl ?_
  refine q_get (v := .int 0) C hP 0 27 rfl rfl inX11 (by decide) kF_RX11_288 rfl rfl dX11_keeps_84 ?_
  refine lv_iconst (v := 1) hx hb dX11_keeps_87 (by decide) ?_
  refine lv_iadd hx hb dX11_keeps_88 ?_
  refine q_val (v := 1) (by decide) ?_
  refine q_put (v := .int 1) (w' := [(m0, .inr (11, [.int 0, .ref m_tape, .int 0, .int 0, .int 0, .int 0, .ref m_s, .ref m_h, .ref m_read, .ref m_names, .ref m_reserved, .int 0, .int 0, .int 0, .int 0, .int 0, .int 0, .long 0, .int 0, .int 0, .int 0, .int 0, .int 0, .int 0, .int 0, .ref m_undone, .ref m_before, .int 1, .ref m_far, .ref m_wayRow, .int (-1), .ref m_keptRow, .ref m_askedRow, .ref m_rares, .ref m_trial, .int (-1), .int (-1), .ref m_hangs, .ref m_paths, .int 0, .int 0, .int 0, .int 0, .ref m_text, .int 0, .int 0, .ref m_toldAt, .int 0, .ref m_stack, .int 0, .int 0, .int 0, .int 0, .int 0, .ref m_truths, .ref m_imaged, .ref m_namesKept, .ref m_areKept])), (m_s, .inl (cy 1, 383, .inl (sD 0))), (m_undone, .inl (cy 1, 784, .inl gu))]) (ty := .int) C hP hD hS 0 27 rfl rfl inX11 tyX11 tyX11_ok nmX11 (by decide) kF_RX11_288 rfl rfl rfl rfl rfl (Nat.le_of_ble_eq_true rfl) rfl dX11_keeps_89 (fun H locs hP hD hS => ?_)
  exact q_vret (rm := (Rm 0 0 0 0)) C hS (gu) trivial (q_subP hP [0, 1, 2] rfl) (hD.sub [0, 1, 2] (by decide) rfl) (Nat.le_of_ble_eq_true rfl) (Nat.le_of_ble_eq_true rfl) dX11_keeps_92
set_option maxHeartbeats 4000000 in
set_option maxRecDepth 100000 in
theorem lp_m_tries_2 (l : Launch) (D : va_G) (cy : Nat → ClassId) (m0 : Nat) (m_areKept : Nat) (m_askedRow : Nat) (m_before : Nat) (m_far : Nat) (m_h : Nat) (m_hangs : Nat) (m_imaged : Nat) (m_keptRow : Nat) (m_names : Nat) (m_namesKept : Nat) (m_paths : Nat) (m_rares : Nat) (m_read : Nat) (m_reserved : Nat) (m_s : Nat) (m_stack : Nat) (m_tape : Nat) (m_text : Nat) (m_toldAt : Nat) (m_trial : Nat) (m_truths : Nat) (m_undone : Nat) (m_wayRow : Nat)   {p : Program} {e : Env} {s : State} {m : MethodId} {args : Array Value} {below : List Frame} {meth : Method} {c : Code} {A : Nat → Prop} {Q : State → Prop} {cells slots : Nat} (hroom : cells ≤ ((Rm 0 0 0 0)).cells ∧ slots ≤ ((Rm 0 0 0 0)).slots) (C : Cx p s m args meth c cX11_tries 2 none RX11 "tries" D cy A)
    (cont : ∀ (gu : Nat → Int32) (H : Heap) (locs : List Loc) (ls : Array Slot), va_P D vwCl [(m0, .inr (11, [.int 0, .ref m_tape, .int 0, .int 0, .int 0, .int 400, .ref m_s, .ref m_h, .ref m_read, .ref m_names, .ref m_reserved, .int 0, .int 0, .int 0, .int 0, .int 0, .int 0, .long 0, .int 0, .int 0, .int 0, .int 0, .int 0, .int 0, .int 0, .ref m_undone, .ref m_before, .int 0, .ref m_far, .ref m_wayRow, .int (-1), .ref m_keptRow, .ref m_askedRow, .ref m_rares, .ref m_trial, .int (-1), .int (-1), .ref m_hangs, .ref m_paths, .int 0, .int 0, .int 0, .int 0, .ref m_text, .int 0, .int 0, .ref m_toldAt, .int 0, .ref m_stack, .int 0, .int 0, .int 0, .int 0, .int 0, .ref m_truths, .ref m_imaged, .ref m_namesKept, .ref m_areKept])), (m_s, .inl (cy 1, 383, .inl (sD 0))), (m_before, .inl (cy 1, 98, .inl gu))] H → va_D A [(m0, .inr (11, [.int 0, .ref m_tape, .int 0, .int 0, .int 0, .int 400, .ref m_s, .ref m_h, .ref m_read, .ref m_names, .ref m_reserved, .int 0, .int 0, .int 0, .int 0, .int 0, .int 0, .long 0, .int 0, .int 0, .int 0, .int 0, .int 0, .int 0, .int 0, .ref m_undone, .ref m_before, .int 0, .ref m_far, .ref m_wayRow, .int (-1), .ref m_keptRow, .ref m_askedRow, .ref m_rares, .ref m_trial, .int (-1), .int (-1), .ref m_hangs, .ref m_paths, .int 0, .int 0, .int 0, .int 0, .ref m_text, .int 0, .int 0, .ref m_toldAt, .int 0, .ref m_stack, .int 0, .int 0, .int 0, .int 0, .int 0, .ref m_truths, .ref m_imaged, .ref m_namesKept, .ref m_areKept])), (m_s, .inl (cy 1, 383, .inl (sD 0))), (m_before, .inl (cy 1, 98, .inl gu))] → va_S A s.heap H locs → lv_has ls 2 [(1, .int 98), (0, .ref m0)] → W p l e (Rm 0 0 0 0) s m args below meth c H locs cells slots Q (F0 m 29 ls [])) :
    ∀ (k i_1 : Nat) (gu : Nat → Int32) (H : Heap) (locs : List Loc) (ls : Array Slot), i_1 + k = 98 → va_P D vwCl [(m0, .inr (11, [.int 0, .ref m_tape, .int 0, .int 0, .int 0, .int 400, .ref m_s, .ref m_h, .ref m_read, .ref m_names, .ref m_reserved, .int 0, .int 0, .int 0, .int 0, .int 0, .int 0, .long 0, .int 0, .int 0, .int 0, .int 0, .int 0, .int 0, .int 0, .ref m_undone, .ref m_before, .int 0, .ref m_far, .ref m_wayRow, .int (-1), .ref m_keptRow, .ref m_askedRow, .ref m_rares, .ref m_trial, .int (-1), .int (-1), .ref m_hangs, .ref m_paths, .int 0, .int 0, .int 0, .int 0, .ref m_text, .int 0, .int 0, .ref m_toldAt, .int 0, .ref m_stack, .int 0, .int 0, .int 0, .int 0, .int 0, .ref m_truths, .ref m_imaged, .ref m_namesKept, .ref m_areKept])), (m_s, .inl (cy 1, 383, .inl (sD 0))), (m_before, .inl (cy 1, 98, .inl gu))] H → va_D A [(m0, .inr (11, [.int 0, .ref m_tape, .int 0, .int 0, .int 0, .int 400, .ref m_s, .ref m_h, .ref m_read, .ref m_names, .ref m_reserved, .int 0, .int 0, .int 0, .int 0, .int 0, .int 0, .long 0, .int 0, .int 0, .int 0, .int 0, .int 0, .int 0, .int 0, .ref m_undone, .ref m_before, .int 0, .ref m_far, .ref m_wayRow, .int (-1), .ref m_keptRow, .ref m_askedRow, .ref m_rares, .ref m_trial, .int (-1), .int (-1), .ref m_hangs, .ref m_paths, .int 0, .int 0, .int 0, .int 0, .ref m_text, .int 0, .int 0, .ref m_toldAt, .int 0, .ref m_stack, .int 0, .int 0, .int 0, .int 0, .int 0, .ref m_truths, .ref m_imaged, .ref m_namesKept, .ref m_areKept])), (m_s, .inl (cy 1, 383, .inl (sD 0))), (m_before, .inl (cy 1, 98, .inl gu))] → va_S A s.heap H locs → lv_has ls 2 [(1, .int (nI i_1)), (0, .ref m0)] → W p l e (Rm 0 0 0 0) s m args below meth c H locs cells slots Q (F0 m 2 ls []) := by
  have hx := C.1
  have hb := C.2.1
  intro k
  induction k with
  | zero =>
    intro i_1 gu H locs ls hik hP hD hS hl
    obtain rfl : i_1 = 98 := by omega
    have hl : lv_has ls 2 [(1, .int 98), (0, .ref m0)] := hl
    have hP : va_P D vwCl [(m0, .inr (11, [.int 0, .ref m_tape, .int 0, .int 0, .int 0, .int 400, .ref m_s, .ref m_h, .ref m_read, .ref m_names, .ref m_reserved, .int 0, .int 0, .int 0, .int 0, .int 0, .int 0, .long 0, .int 0, .int 0, .int 0, .int 0, .int 0, .int 0, .int 0, .ref m_undone, .ref m_before, .int 0, .ref m_far, .ref m_wayRow, .int (-1), .ref m_keptRow, .ref m_askedRow, .ref m_rares, .ref m_trial, .int (-1), .int (-1), .ref m_hangs, .ref m_paths, .int 0, .int 0, .int 0, .int 0, .ref m_text, .int 0, .int 0, .ref m_toldAt, .int 0, .ref m_stack, .int 0, .int 0, .int 0, .int 0, .int 0, .ref m_truths, .ref m_imaged, .ref m_namesKept, .ref m_areKept])), (m_s, .inl (cy 1, 383, .inl (sD 0))), (m_before, .inl (cy 1, 98, .inl gu))] H := hP
    have hD : va_D A [(m0, .inr (11, [.int 0, .ref m_tape, .int 0, .int 0, .int 0, .int 400, .ref m_s, .ref m_h, .ref m_read, .ref m_names, .ref m_reserved, .int 0, .int 0, .int 0, .int 0, .int 0, .int 0, .long 0, .int 0, .int 0, .int 0, .int 0, .int 0, .int 0, .int 0, .ref m_undone, .ref m_before, .int 0, .ref m_far, .ref m_wayRow, .int (-1), .ref m_keptRow, .ref m_askedRow, .ref m_rares, .ref m_trial, .int (-1), .int (-1), .ref m_hangs, .ref m_paths, .int 0, .int 0, .int 0, .int 0, .ref m_text, .int 0, .int 0, .ref m_toldAt, .int 0, .ref m_stack, .int 0, .int 0, .int 0, .int 0, .int 0, .ref m_truths, .ref m_imaged, .ref m_namesKept, .ref m_areKept])), (m_s, .inl (cy 1, 383, .inl (sD 0))), (m_before, .inl (cy 1, 98, .inl gu))] := hD
    refine lv_iload_n hx hb dX11_tries_2 rfl (lv_at hl 0 rfl) ?_
    refine lv_bipush (v := 98) hx hb dX11_tries_3 (by decide) ?_
    refine lv_icmp_ge (tgt := 29) hx hb dX11_tries_5 (by decide) (fun _ => ?_) (fun c_0 => absurd (by decide) c_0)
    exact cont gu H locs ls hP hD hS hl
  | succ k ih =>
    intro i_1 gu H locs ls hik hP hD hS hl
    refine lv_iload_n hx hb dX11_tries_2 rfl (lv_at hl 0 rfl) ?_
    refine lv_bipush (v := 98) hx hb dX11_tries_3 (by decide) ?_
    refine lv_icmp_ge (tgt := 29) hx hb dX11_tries_5 (by decide) (fun c_0 => absurd c_0 (nI_ge (b := 98) (by omega) (by decide))) (fun _ => ?_)
    refine lv_aload_n hx hb dX11_tries_8 rfl (lv_at hl 1 rfl) ?_
    refine q_get (v := .ref m_before) C hP 0 26 rfl rfl inX11 (by decide) kF_RX11_53 rfl rfl dX11_tries_9 ?_
    refine lv_iload_n hx hb dX11_tries_12 rfl (lv_at hl 0 rfl) ?_
    refine lv_aload_n hx hb dX11_tries_13 rfl (lv_at hl 1 rfl) ?_
    refine q_get (v := .ref m_s) C hP 0 6 rfl rfl inX11 (by decide) kF_RX11_33 rfl rfl dX11_tries_14 ?_
    refine lv_bipush (v := 104) hx hb dX11_tries_17 (by decide) ?_
    refine lv_iload_n hx hb dX11_tries_19 rfl (lv_at hl 0 rfl) ?_
    refine lv_iadd hx hb dX11_tries_20 ?_
    refine q_val (v := (nI (104 + i_1))) (nI_add 104 i_1) ?_
    refine q_iald (v := ((sD 0) (104 + i_1))) C hP 1 rfl (vp_in_nI (by omega) (by decide)) (by rw [nI_clamp (by omega)]) dX11_tries_21 ?_
    refine q_iast (g := upd gu i_1 ((sD 0) (104 + i_1))) (w' := [(m0, .inr (11, [.int 0, .ref m_tape, .int 0, .int 0, .int 0, .int 400, .ref m_s, .ref m_h, .ref m_read, .ref m_names, .ref m_reserved, .int 0, .int 0, .int 0, .int 0, .int 0, .int 0, .long 0, .int 0, .int 0, .int 0, .int 0, .int 0, .int 0, .int 0, .ref m_undone, .ref m_before, .int 0, .ref m_far, .ref m_wayRow, .int (-1), .ref m_keptRow, .ref m_askedRow, .ref m_rares, .ref m_trial, .int (-1), .int (-1), .ref m_hangs, .ref m_paths, .int 0, .int 0, .int 0, .int 0, .ref m_text, .int 0, .int 0, .ref m_toldAt, .int 0, .ref m_stack, .int 0, .int 0, .int 0, .int 0, .int 0, .ref m_truths, .ref m_imaged, .ref m_namesKept, .ref m_areKept])), (m_s, .inl (cy 1, 383, .inl (sD 0))), (m_before, .inl (cy 1, 98, .inl (upd gu i_1 ((sD 0) (104 + i_1)))))]) C hP hD hS 2 rfl (vp_in_nI (by omega) (by decide)) (by rw [nI_clamp (by omega)]) rfl dX11_tries_22 (fun H locs hP hD hS => ?_)
    refine lv_iinc (v := (nI (i_1 + 1))) (lv' := [(1, .int (nI (i_1 + 1))), (0, .ref m0)]) hx hb dX11_tries_23 hl (k := 0) rfl (nI_1 _) (by decide) rfl (fun ls hl => ?_)
    refine lv_goto (tgt := 2) hx hb dX11_tries_26 (by decide) ?_
    exact ih (i_1 + 1) (upd gu i_1 ((sD 0) (104 + i_1))) H locs ls (by omega) hP hD hS (lv_sub hl [0, 1] rfl)
set_option maxHeartbeats 4000000 in
set_option maxRecDepth 100000 in
theorem m_tries (l : Launch) (D : va_G) (cy : Nat → ClassId) (m0 : Nat) (m_tape : Nat) (m_s : Nat) (m_h : Nat) (m_read : Nat) (m_names : Nat) (m_reserved : Nat) (m_undone : Nat) (m_before : Nat) (m_far : Nat) (m_wayRow : Nat) (m_keptRow : Nat) (m_askedRow : Nat) (m_rares : Nat) (m_trial : Nat) (m_hangs : Nat) (m_paths : Nat) (m_text : Nat) (m_toldAt : Nat) (m_stack : Nat) (m_truths : Nat) (m_imaged : Nat) (m_namesKept : Nat) (m_areKept : Nat) (f : Nat → Int32) (sz : Nat)  : MV l yX11_tries cX11_tries 2 (Rm 0 0 0 0) D cy [.ref m0] sz [(m0, .inr (11, [.int 0, .ref m_tape, .int 0, .int 0, .int 0, .int 400, .ref m_s, .ref m_h, .ref m_read, .ref m_names, .ref m_reserved, .int 0, .int 0, .int 0, .int 0, .int 0, .int 0, .long 0, .int 0, .int 0, .int 0, .int 0, .int 0, .int 0, .int 0, .ref m_undone, .ref m_before, .int 0, .ref m_far, .ref m_wayRow, .int (-1), .ref m_keptRow, .ref m_askedRow, .ref m_rares, .ref m_trial, .int (-1), .int (-1), .ref m_hangs, .ref m_paths, .int 0, .int 0, .int 0, .int 0, .ref m_text, .int 0, .int 0, .ref m_toldAt, .int 0, .ref m_stack, .int 0, .int 0, .int 0, .int 0, .int 0, .ref m_truths, .ref m_imaged, .ref m_namesKept, .ref m_areKept])), (m_s, .inl (cy 1, 383, .inl (sD 0))), (m_before, .inl (cy 1, 98, .inl f))] (fun _ : Nat → Int32 => True) (fun u : Nat → Int32 => [(m0, .inr (11, [.int 0, .ref m_tape, .int 0, .int 0, .int 0, .int 400, .ref m_s, .ref m_h, .ref m_read, .ref m_names, .ref m_reserved, .int 0, .int 0, .int 0, .int 0, .int 0, .int 0, .long 0, .int 0, .int 0, .int 0, .int 0, .int 0, .int 0, .int 0, .ref m_undone, .ref m_before, .int 0, .ref m_far, .ref m_wayRow, .int (-1), .ref m_keptRow, .ref m_askedRow, .ref m_rares, .ref m_trial, .int (-1), .int (-1), .ref m_hangs, .ref m_paths, .int 0, .int 0, .int 0, .int 0, .ref m_text, .int 0, .int 0, .ref m_toldAt, .int 0, .ref m_stack, .int 0, .int 0, .int 0, .int 0, .int 0, .ref m_truths, .ref m_imaged, .ref m_namesKept, .ref m_areKept])), (m_s, .inl (cy 1, 383, .inl (sD 0))), (m_before, .inl (cy 1, 98, .inl u))]) := by
  refine MV.enter (by decide) (Nat.le_of_ble_eq_true rfl) ?_
  intro p e s m below meth c ls A hsz hAe C hP hD hS hl
  have C : Cx p s m _ meth c cX11_tries 2 none RX11 "tries" D cy A := C
  have hx := C.1
  have hb := C.2.1
  have hl : lv_has ls 2 [(0, .ref m0)] := hl
  refine lv_iconst (v := 0) hx hb dX11_tries_0 (by decide) ?_
  refine lv_istore_n (lv' := [(1, .int 0), (0, .ref m0)]) hx hb dX11_tries_1 rfl hl (by decide) rfl (fun ls hl => ?_)
  refine lp_m_tries_2 l D cy m0 m_areKept m_askedRow m_before m_far m_h m_hangs m_imaged m_keptRow m_names m_namesKept m_paths m_rares m_read m_reserved m_s m_stack m_tape m_text m_toldAt m_trial m_truths m_undone m_wayRow   ⟨Nat.le_of_ble_eq_true rfl, Nat.le_of_ble_eq_true rfl⟩ C (fun gu H locs ls hP hD hS hl => ?_) 98 0 f _ _ ls (by omega) hP hD hS (lv_sub hl [0, 1] rfl)
  exact q_vret (rm := (Rm 0 0 0 0)) C hS (gu) trivial (q_subP hP [0, 1, 2] rfl) (hD.sub [0, 1, 2] (by decide) rfl) (Nat.le_of_ble_eq_true rfl) (Nat.le_of_ble_eq_true rfl) dX11_tries_29
set_option maxHeartbeats 4000000 in
set_option maxRecDepth 100000 in
theorem lp_m_back_2 (l : Launch) (D : va_G) (cy : Nat → ClassId) (f : Nat → Int32) (m0 : Nat) (m_areKept : Nat) (m_askedRow : Nat) (m_before : Nat) (m_far : Nat) (m_h : Nat) (m_hangs : Nat) (m_imaged : Nat) (m_keptRow : Nat) (m_names : Nat) (m_namesKept : Nat) (m_paths : Nat) (m_rares : Nat) (m_read : Nat) (m_reserved : Nat) (m_s : Nat) (m_stack : Nat) (m_tape : Nat) (m_text : Nat) (m_toldAt : Nat) (m_trial : Nat) (m_truths : Nat) (m_undone : Nat) (m_wayRow : Nat)   {p : Program} {e : Env} {s : State} {m : MethodId} {args : Array Value} {below : List Frame} {meth : Method} {c : Code} {A : Nat → Prop} {Q : State → Prop} {cells slots : Nat} (hroom : cells ≤ ((Rm 0 0 0 0)).cells ∧ slots ≤ ((Rm 0 0 0 0)).slots) (C : Cx p s m args meth c cX11_back 2 none RX11 "back" D cy A)
    (cont : ∀ (gu : Nat → Int32) (H : Heap) (locs : List Loc) (ls : Array Slot), va_P D vwCl [(m0, .inr (11, [.int 0, .ref m_tape, .int 0, .int 0, .int 0, .int 400, .ref m_s, .ref m_h, .ref m_read, .ref m_names, .ref m_reserved, .int 0, .int 0, .int 0, .int 0, .int 0, .int 0, .long 0, .int 0, .int 0, .int 0, .int 0, .int 0, .int 0, .int 0, .ref m_undone, .ref m_before, .int 0, .ref m_far, .ref m_wayRow, .int (-1), .ref m_keptRow, .ref m_askedRow, .ref m_rares, .ref m_trial, .int (-1), .int (-1), .ref m_hangs, .ref m_paths, .int 0, .int 0, .int 0, .int 0, .ref m_text, .int 0, .int 0, .ref m_toldAt, .int 1, .ref m_stack, .int 0, .int 0, .int 0, .int 0, .int 0, .ref m_truths, .ref m_imaged, .ref m_namesKept, .ref m_areKept])), (m_s, .inl (cy 1, 383, .inl gu)), (m_before, .inl (cy 1, 98, .inl f))] H → va_D A [(m0, .inr (11, [.int 0, .ref m_tape, .int 0, .int 0, .int 0, .int 400, .ref m_s, .ref m_h, .ref m_read, .ref m_names, .ref m_reserved, .int 0, .int 0, .int 0, .int 0, .int 0, .int 0, .long 0, .int 0, .int 0, .int 0, .int 0, .int 0, .int 0, .int 0, .ref m_undone, .ref m_before, .int 0, .ref m_far, .ref m_wayRow, .int (-1), .ref m_keptRow, .ref m_askedRow, .ref m_rares, .ref m_trial, .int (-1), .int (-1), .ref m_hangs, .ref m_paths, .int 0, .int 0, .int 0, .int 0, .ref m_text, .int 0, .int 0, .ref m_toldAt, .int 1, .ref m_stack, .int 0, .int 0, .int 0, .int 0, .int 0, .ref m_truths, .ref m_imaged, .ref m_namesKept, .ref m_areKept])), (m_s, .inl (cy 1, 383, .inl gu)), (m_before, .inl (cy 1, 98, .inl f))] → va_S A s.heap H locs → lv_has ls 2 [(1, .int 98), (0, .ref m0)] → W p l e (Rm 0 0 0 0) s m args below meth c H locs cells slots Q (F0 m 29 ls [])) :
    ∀ (k i_1 : Nat) (gu : Nat → Int32) (H : Heap) (locs : List Loc) (ls : Array Slot), i_1 + k = 98 → va_P D vwCl [(m0, .inr (11, [.int 0, .ref m_tape, .int 0, .int 0, .int 0, .int 400, .ref m_s, .ref m_h, .ref m_read, .ref m_names, .ref m_reserved, .int 0, .int 0, .int 0, .int 0, .int 0, .int 0, .long 0, .int 0, .int 0, .int 0, .int 0, .int 0, .int 0, .int 0, .ref m_undone, .ref m_before, .int 0, .ref m_far, .ref m_wayRow, .int (-1), .ref m_keptRow, .ref m_askedRow, .ref m_rares, .ref m_trial, .int (-1), .int (-1), .ref m_hangs, .ref m_paths, .int 0, .int 0, .int 0, .int 0, .ref m_text, .int 0, .int 0, .ref m_toldAt, .int 1, .ref m_stack, .int 0, .int 0, .int 0, .int 0, .int 0, .ref m_truths, .ref m_imaged, .ref m_namesKept, .ref m_areKept])), (m_s, .inl (cy 1, 383, .inl gu)), (m_before, .inl (cy 1, 98, .inl f))] H → va_D A [(m0, .inr (11, [.int 0, .ref m_tape, .int 0, .int 0, .int 0, .int 400, .ref m_s, .ref m_h, .ref m_read, .ref m_names, .ref m_reserved, .int 0, .int 0, .int 0, .int 0, .int 0, .int 0, .long 0, .int 0, .int 0, .int 0, .int 0, .int 0, .int 0, .int 0, .ref m_undone, .ref m_before, .int 0, .ref m_far, .ref m_wayRow, .int (-1), .ref m_keptRow, .ref m_askedRow, .ref m_rares, .ref m_trial, .int (-1), .int (-1), .ref m_hangs, .ref m_paths, .int 0, .int 0, .int 0, .int 0, .ref m_text, .int 0, .int 0, .ref m_toldAt, .int 1, .ref m_stack, .int 0, .int 0, .int 0, .int 0, .int 0, .ref m_truths, .ref m_imaged, .ref m_namesKept, .ref m_areKept])), (m_s, .inl (cy 1, 383, .inl gu)), (m_before, .inl (cy 1, 98, .inl f))] → va_S A s.heap H locs → lv_has ls 2 [(1, .int (nI i_1)), (0, .ref m0)] → W p l e (Rm 0 0 0 0) s m args below meth c H locs cells slots Q (F0 m 2 ls []) := by
  have hx := C.1
  have hb := C.2.1
  intro k
  induction k with
  | zero =>
    intro i_1 gu H locs ls hik hP hD hS hl
    obtain rfl : i_1 = 98 := by omega
    have hl : lv_has ls 2 [(1, .int 98), (0, .ref m0)] := hl
    have hP : va_P D vwCl [(m0, .inr (11, [.int 0, .ref m_tape, .int 0, .int 0, .int 0, .int 400, .ref m_s, .ref m_h, .ref m_read, .ref m_names, .ref m_reserved, .int 0, .int 0, .int 0, .int 0, .int 0, .int 0, .long 0, .int 0, .int 0, .int 0, .int 0, .int 0, .int 0, .int 0, .ref m_undone, .ref m_before, .int 0, .ref m_far, .ref m_wayRow, .int (-1), .ref m_keptRow, .ref m_askedRow, .ref m_rares, .ref m_trial, .int (-1), .int (-1), .ref m_hangs, .ref m_paths, .int 0, .int 0, .int 0, .int 0, .ref m_text, .int 0, .int 0, .ref m_toldAt, .int 1, .ref m_stack, .int 0, .int 0, .int 0, .int 0, .int 0, .ref m_truths, .ref m_imaged, .ref m_namesKept, .ref m_areKept])), (m_s, .inl (cy 1, 383, .inl gu)), (m_before, .inl (cy 1, 98, .inl f))] H := hP
    have hD : va_D A [(m0, .inr (11, [.int 0, .ref m_tape, .int 0, .int 0, .int 0, .int 400, .ref m_s, .ref m_h, .ref m_read, .ref m_names, .ref m_reserved, .int 0, .int 0, .int 0, .int 0, .int 0, .int 0, .long 0, .int 0, .int 0, .int 0, .int 0, .int 0, .int 0, .int 0, .ref m_undone, .ref m_before, .int 0, .ref m_far, .ref m_wayRow, .int (-1), .ref m_keptRow, .ref m_askedRow, .ref m_rares, .ref m_trial, .int (-1), .int (-1), .ref m_hangs, .ref m_paths, .int 0, .int 0, .int 0, .int 0, .ref m_text, .int 0, .int 0, .ref m_toldAt, .int 1, .ref m_stack, .int 0, .int 0, .int 0, .int 0, .int 0, .ref m_truths, .ref m_imaged, .ref m_namesKept, .ref m_areKept])), (m_s, .inl (cy 1, 383, .inl gu)), (m_before, .inl (cy 1, 98, .inl f))] := hD
    refine lv_iload_n hx hb dX11_back_2 rfl (lv_at hl 0 rfl) ?_
    refine lv_bipush (v := 98) hx hb dX11_back_3 (by decide) ?_
    refine lv_icmp_ge (tgt := 29) hx hb dX11_back_5 (by decide) (fun _ => ?_) (fun c_0 => absurd (by decide) c_0)
    exact cont gu H locs ls hP hD hS hl
  | succ k ih =>
    intro i_1 gu H locs ls hik hP hD hS hl
    refine lv_iload_n hx hb dX11_back_2 rfl (lv_at hl 0 rfl) ?_
    refine lv_bipush (v := 98) hx hb dX11_back_3 (by decide) ?_
    refine lv_icmp_ge (tgt := 29) hx hb dX11_back_5 (by decide) (fun c_0 => absurd c_0 (nI_ge (b := 98) (by omega) (by decide))) (fun _ => ?_)
    refine lv_aload_n hx hb dX11_back_8 rfl (lv_at hl 1 rfl) ?_
    refine q_get (v := .ref m_s) C hP 0 6 rfl rfl inX11 (by decide) kF_RX11_33 rfl rfl dX11_back_9 ?_
    refine lv_bipush (v := 104) hx hb dX11_back_12 (by decide) ?_
    refine lv_iload_n hx hb dX11_back_14 rfl (lv_at hl 0 rfl) ?_
    refine lv_iadd hx hb dX11_back_15 ?_
    refine q_val (v := (nI (104 + i_1))) (nI_add 104 i_1) ?_
    refine lv_aload_n hx hb dX11_back_16 rfl (lv_at hl 1 rfl) ?_
    refine q_get (v := .ref m_before) C hP 0 26 rfl rfl inX11 (by decide) kF_RX11_53 rfl rfl dX11_back_17 ?_
    refine lv_iload_n hx hb dX11_back_20 rfl (lv_at hl 0 rfl) ?_
    refine q_iald (v := (f i_1)) C hP 2 rfl (vp_in_nI (by omega) (by decide)) (by rw [nI_clamp (by omega)]) dX11_back_21 ?_
    refine q_iast (g := upd gu (104 + i_1) (f i_1)) (w' := [(m0, .inr (11, [.int 0, .ref m_tape, .int 0, .int 0, .int 0, .int 400, .ref m_s, .ref m_h, .ref m_read, .ref m_names, .ref m_reserved, .int 0, .int 0, .int 0, .int 0, .int 0, .int 0, .long 0, .int 0, .int 0, .int 0, .int 0, .int 0, .int 0, .int 0, .ref m_undone, .ref m_before, .int 0, .ref m_far, .ref m_wayRow, .int (-1), .ref m_keptRow, .ref m_askedRow, .ref m_rares, .ref m_trial, .int (-1), .int (-1), .ref m_hangs, .ref m_paths, .int 0, .int 0, .int 0, .int 0, .ref m_text, .int 0, .int 0, .ref m_toldAt, .int 1, .ref m_stack, .int 0, .int 0, .int 0, .int 0, .int 0, .ref m_truths, .ref m_imaged, .ref m_namesKept, .ref m_areKept])), (m_s, .inl (cy 1, 383, .inl (upd gu (104 + i_1) (f i_1)))), (m_before, .inl (cy 1, 98, .inl f))]) C hP hD hS 1 rfl (vp_in_nI (by omega) (by decide)) (by rw [nI_clamp (by omega)]) rfl dX11_back_22 (fun H locs hP hD hS => ?_)
    refine lv_iinc (v := (nI (i_1 + 1))) (lv' := [(1, .int (nI (i_1 + 1))), (0, .ref m0)]) hx hb dX11_back_23 hl (k := 0) rfl (nI_1 _) (by decide) rfl (fun ls hl => ?_)
    refine lv_goto (tgt := 2) hx hb dX11_back_26 (by decide) ?_
    exact ih (i_1 + 1) (upd gu (104 + i_1) (f i_1)) H locs ls (by omega) hP hD hS (lv_sub hl [0, 1] rfl)
set_option maxHeartbeats 4000000 in
set_option maxRecDepth 100000 in
theorem m_back (l : Launch) (D : va_G) (cy : Nat → ClassId) (m0 : Nat) (m_tape : Nat) (m_s : Nat) (m_h : Nat) (m_read : Nat) (m_names : Nat) (m_reserved : Nat) (m_undone : Nat) (m_before : Nat) (m_far : Nat) (m_wayRow : Nat) (m_keptRow : Nat) (m_askedRow : Nat) (m_rares : Nat) (m_trial : Nat) (m_hangs : Nat) (m_paths : Nat) (m_text : Nat) (m_toldAt : Nat) (m_stack : Nat) (m_truths : Nat) (m_imaged : Nat) (m_namesKept : Nat) (m_areKept : Nat) (f1 : Nat → Int32) (f : Nat → Int32) (sz : Nat)  : MV l yX11_back cX11_back 2 (Rm 0 0 0 0) D cy [.ref m0] sz [(m0, .inr (11, [.int 0, .ref m_tape, .int 0, .int 0, .int 0, .int 400, .ref m_s, .ref m_h, .ref m_read, .ref m_names, .ref m_reserved, .int 0, .int 0, .int 0, .int 0, .int 0, .int 0, .long 0, .int 0, .int 0, .int 0, .int 0, .int 0, .int 0, .int 0, .ref m_undone, .ref m_before, .int 0, .ref m_far, .ref m_wayRow, .int (-1), .ref m_keptRow, .ref m_askedRow, .ref m_rares, .ref m_trial, .int (-1), .int (-1), .ref m_hangs, .ref m_paths, .int 0, .int 0, .int 0, .int 0, .ref m_text, .int 0, .int 0, .ref m_toldAt, .int 1, .ref m_stack, .int 0, .int 0, .int 0, .int 0, .int 0, .ref m_truths, .ref m_imaged, .ref m_namesKept, .ref m_areKept])), (m_s, .inl (cy 1, 383, .inl f1)), (m_before, .inl (cy 1, 98, .inl f))] (fun _ : Unit => True) (fun u : Unit => [(m0, .inr (11, [.int 0, .ref m_tape, .int 0, .int 0, .int 0, .int 400, .ref m_s, .ref m_h, .ref m_read, .ref m_names, .ref m_reserved, .int 0, .int 0, .int 0, .int 0, .int 0, .int 0, .long 0, .int 0, .int 0, .int 0, .int 0, .int 0, .int 0, .int 0, .ref m_undone, .ref m_before, .int 0, .ref m_far, .ref m_wayRow, .int (-1), .ref m_keptRow, .ref m_askedRow, .ref m_rares, .ref m_trial, .int (-1), .int (-1), .ref m_hangs, .ref m_paths, .int 0, .int 0, .int 0, .int 0, .ref m_text, .int 0, .int 0, .ref m_toldAt, .int 1, .ref m_stack, .int 0, .int 0, .int 0, .int 0, .int 0, .ref m_truths, .ref m_imaged, .ref m_namesKept, .ref m_areKept]))]) := by
  refine MV.enter (by decide) (Nat.le_of_ble_eq_true rfl) ?_
  intro p e s m below meth c ls A hsz hAe C hP hD hS hl
  have C : Cx p s m _ meth c cX11_back 2 none RX11 "back" D cy A := C
  have hx := C.1
  have hb := C.2.1
  have hl : lv_has ls 2 [(0, .ref m0)] := hl
  refine lv_iconst (v := 0) hx hb dX11_back_0 (by decide) ?_
  refine lv_istore_n (lv' := [(1, .int 0), (0, .ref m0)]) hx hb dX11_back_1 rfl hl (by decide) rfl (fun ls hl => ?_)
  refine lp_m_back_2 l D cy f m0 m_areKept m_askedRow m_before m_far m_h m_hangs m_imaged m_keptRow m_names m_namesKept m_paths m_rares m_read m_reserved m_s m_stack m_tape m_text m_toldAt m_trial m_truths m_undone m_wayRow   ⟨Nat.le_of_ble_eq_true rfl, Nat.le_of_ble_eq_true rfl⟩ C (fun gu H locs ls hP hD hS hl => ?_) 98 0 f1 _ _ ls (by omega) hP hD hS (lv_sub hl [0, 1] rfl)
  exact q_vret (rm := (Rm 0 0 0 0)) C hS () trivial (q_subP hP [0] rfl) (hD.sub [0] (by decide) rfl) (Nat.le_of_ble_eq_true rfl) (Nat.le_of_ble_eq_true rfl) dX11_back_29
set_option maxHeartbeats 4000000 in
set_option maxRecDepth 100000 in
theorem m_draw (l : Launch) (D : va_G) (cy : Nat → ClassId) (m0 : Nat) (m_tape : Nat) (m_s : Nat) (m_h : Nat) (m_read : Nat) (m_names : Nat) (m_reserved : Nat) (v : Int32) (m_undone : Nat) (m_before : Nat) (m_far : Nat) (m_wayRow : Nat) (m_keptRow : Nat) (m_askedRow : Nat) (m_rares : Nat) (m_trial : Nat) (m_hangs : Nat) (m_paths : Nat) (m_text : Nat) (m_toldAt : Nat) (m_stack : Nat) (m_truths : Nat) (m_imaged : Nat) (m_namesKept : Nat) (m_areKept : Nat) (sz : Nat)  : MI l yX11_draw cX11_draw 2 (some .int) (Rm 0 0 0 0) D cy [.ref m0, .int 12] sz [(m0, .inr (11, [.int 0, .ref m_tape, .int 0, .int 0, .int 0, .int 0, .ref m_s, .ref m_h, .ref m_read, .ref m_names, .ref m_reserved, .int 0, .int 0, .int 0, .int 0, .int 0, .int 0, .long 0, .int 0, .int 0, .int 0, .int 0, .int 0, .int 0, .int v, .ref m_undone, .ref m_before, .int 1, .ref m_far, .ref m_wayRow, .int (-1), .ref m_keptRow, .ref m_askedRow, .ref m_rares, .ref m_trial, .int (-1), .int (-1), .ref m_hangs, .ref m_paths, .int 0, .int 0, .int 0, .int 0, .ref m_text, .int 0, .int 0, .ref m_toldAt, .int 0, .ref m_stack, .int 0, .int 0, .int 0, .int 0, .int 0, .ref m_truths, .ref m_imaged, .ref m_namesKept, .ref m_areKept]))] (fun (r : Int32) (u : Int32) => True) (fun u : Int32 => [(m0, .inr (11, [.int 0, .ref m_tape, .int 0, .int 0, .int 0, .int 0, .ref m_s, .ref m_h, .ref m_read, .ref m_names, .ref m_reserved, .int 0, .int 0, .int 0, .int 0, .int 0, .int 0, .long 0, .int 0, .int 0, .int 0, .int 0, .int 0, .int 0, .int u, .ref m_undone, .ref m_before, .int 1, .ref m_far, .ref m_wayRow, .int (-1), .ref m_keptRow, .ref m_askedRow, .ref m_rares, .ref m_trial, .int (-1), .int (-1), .ref m_hangs, .ref m_paths, .int 0, .int 0, .int 0, .int 0, .ref m_text, .int 0, .int 0, .ref m_toldAt, .int 0, .ref m_stack, .int 0, .int 0, .int 0, .int 0, .int 0, .ref m_truths, .ref m_imaged, .ref m_namesKept, .ref m_areKept]))]) := by
  refine MI.enter (by decide) (Nat.le_of_ble_eq_true rfl) ?_
  intro p e s m below meth c ls A hsz hAe C hP hD hS hl
  have C : Cx p s m _ meth c cX11_draw 2 (some .int) RX11 "draw" D cy A := C
  have hx := C.1
  have hb := C.2.1
  have hl : lv_has ls 2 [(0, .ref m0), (1, .int 12)] := hl
  refine lv_aload_n hx hb dX11_draw_0 rfl (lv_at hl 0 rfl) ?_
  refine lv_aload_n hx hb dX11_draw_1 rfl (lv_at hl 0 rfl) ?_
  refine q_get (v := .int v) C hP 0 24 rfl rfl inX11 (by decide) kF_RX11_334 rfl rfl dX11_draw_2 ?_
  refine q_ldc_w (v := 1103515245) C kC_RX11_337 dX11_draw_5 ?_
  refine lv_imul hx hb dX11_draw_8 ?_
  refine lv_sipush (v := 12345) hx hb dX11_draw_9 (by decide) ?_
  refine lv_iadd hx hb dX11_draw_12 ?_
  refine q_put (v := .int ((v * 1103515245) + 12345)) (w' := [(m0, .inr (11, [.int 0, .ref m_tape, .int 0, .int 0, .int 0, .int 0, .ref m_s, .ref m_h, .ref m_read, .ref m_names, .ref m_reserved, .int 0, .int 0, .int 0, .int 0, .int 0, .int 0, .long 0, .int 0, .int 0, .int 0, .int 0, .int 0, .int 0, .int ((v * 1103515245) + 12345), .ref m_undone, .ref m_before, .int 1, .ref m_far, .ref m_wayRow, .int (-1), .ref m_keptRow, .ref m_askedRow, .ref m_rares, .ref m_trial, .int (-1), .int (-1), .ref m_hangs, .ref m_paths, .int 0, .int 0, .int 0, .int 0, .ref m_text, .int 0, .int 0, .ref m_toldAt, .int 0, .ref m_stack, .int 0, .int 0, .int 0, .int 0, .int 0, .ref m_truths, .ref m_imaged, .ref m_namesKept, .ref m_areKept]))]) (ty := .int) C hP hD hS 0 24 rfl rfl inX11 tyX11 tyX11_ok nmX11 (by decide) kF_RX11_334 rfl rfl rfl rfl rfl (Nat.le_of_ble_eq_true rfl) rfl dX11_draw_13 (fun H locs hP hD hS => ?_)
  refine lv_aload_n hx hb dX11_draw_16 rfl (lv_at hl 0 rfl) ?_
  refine q_get (v := .int ((v * 1103515245) + 12345)) C hP 0 24 rfl rfl inX11 (by decide) kF_RX11_334 rfl rfl dX11_draw_17 ?_
  refine lv_bipush (v := 8) hx hb dX11_draw_20 (by decide) ?_
  refine lv_iushr (v := ((((v * 1103515245) + 12345) : Int32).toUInt32 >>> ((8 : Int32).toUInt32 &&& Int32.toUInt32 31)).toInt32) hx hb dX11_draw_22 rfl ?_
  refine lv_iload_n hx hb dX11_draw_23 rfl (lv_at hl 1 rfl) ?_
  refine lv_irem hx hb dX11_draw_24 (by decide) ?_
  exact q_iret (rm := (Rm 0 0 0 0)) C hS (((v * 1103515245) + 12345)) rfl trivial (q_subP hP [0] rfl) (hD.sub [0] (by decide) rfl) (Nat.le_of_ble_eq_true rfl) (Nat.le_of_ble_eq_true rfl) dX11_draw_25
set_option maxHeartbeats 4000000 in
set_option maxRecDepth 100000 in
theorem m_day (l : Launch) (D : va_G) (cy : Nat → ClassId) (m0 : Nat) (m_tape : Nat) (m_s : Nat) (m_h : Nat) (m_read : Nat) (m_names : Nat) (m_reserved : Nat) (v : Int32) (m_undone : Nat) (m_before : Nat) (m_far : Nat) (m_wayRow : Nat) (m_keptRow : Nat) (m_askedRow : Nat) (m_rares : Nat) (m_trial : Nat) (m_hangs : Nat) (m_paths : Nat) (m_text : Nat) (m_toldAt : Nat) (m_stack : Nat) (m_truths : Nat) (m_imaged : Nat) (m_namesKept : Nat) (m_areKept : Nat) (n0 : Nat) (sz : Nat) (hn0 : n0 ≤ 29) : MV l yX11_day cX11_day 3 (Rm 1 21 0 0) D cy [.ref m0] sz [(m0, .inr (11, [.int 0, .ref m_tape, .int 0, .int 0, .int 0, .int 0, .ref m_s, .ref m_h, .ref m_read, .ref m_names, .ref m_reserved, .int 0, .int 0, .int 0, .int 0, .int 0, .int 0, .long 0, .int 0, .int 0, .int 0, .int 0, .int 0, .int 0, .int v, .ref m_undone, .ref m_before, .int 1, .ref m_far, .ref m_wayRow, .int (-1), .ref m_keptRow, .ref m_askedRow, .ref m_rares, .ref m_trial, .int (-1), .int (-1), .ref m_hangs, .ref m_paths, .int 0, .int 0, .int 0, .int 0, .ref m_text, .int 0, .int 0, .ref m_toldAt, .int 0, .ref m_stack, .int 0, .int 0, .int 0, .int 0, .int 0, .ref m_truths, .ref m_imaged, .ref m_namesKept, .ref m_areKept])), (m_s, .inl (cy 1, 383, .inl (sD n0)))] (fun _ : Int32 => True) (fun u : Int32 => [(m0, .inr (11, [.int 0, .ref m_tape, .int 0, .int 0, .int 0, .int 0, .ref m_s, .ref m_h, .ref m_read, .ref m_names, .ref m_reserved, .int 0, .int 0, .int 0, .int 0, .int 0, .int 0, .long 0, .int 0, .int 0, .int 0, .int 0, .int 0, .int 0, .int u, .ref m_undone, .ref m_before, .int 1, .ref m_far, .ref m_wayRow, .int (-1), .ref m_keptRow, .ref m_askedRow, .ref m_rares, .ref m_trial, .int (-1), .int (-1), .ref m_hangs, .ref m_paths, .int 0, .int 0, .int 0, .int 0, .ref m_text, .int 0, .int 0, .ref m_toldAt, .int 0, .ref m_stack, .int 0, .int 0, .int 0, .int 0, .int 0, .ref m_truths, .ref m_imaged, .ref m_namesKept, .ref m_areKept])), (m_s, .inl (cy 1, 383, .inl (sD (n0 + 1))))]) := by
  refine MV.enter (by decide) (Nat.le_of_ble_eq_true rfl) ?_
  intro p e s m below meth c ls A hsz hAe C hP hD hS hl
  have C : Cx p s m _ meth c cX11_day 3 none RX11 "day" D cy A := C
  have hx := C.1
  have hb := C.2.1
  have hl : lv_has ls 3 [(0, .ref m0)] := hl
  refine lv_iconst (v := 0) hx hb dX11_day_0 (by decide) ?_
  refine lv_istore_n (lv' := [(1, .int 0), (0, .ref m0)]) hx hb dX11_day_1 rfl hl (by decide) rfl (fun ls hl => ?_)
  refine lv_iload_n hx hb dX11_day_2 rfl (lv_at hl 0 rfl) ?_
  refine lv_aload_n hx hb dX11_day_3 rfl (lv_at hl 1 rfl) ?_
  refine q_get (v := .ref m_s) C hP 0 6 rfl rfl inX11 (by decide) kF_RX11_33 rfl rfl dX11_day_4 ?_
  refine lv_iconst (v := 0) hx hb dX11_day_7 (by decide) ?_
  refine q_iald (v := 0) C hP 1 rfl (vin (by decide +kernel)) (by rfl) dX11_day_8 ?_
  refine lv_icmp_ge (tgt := 122) hx hb dX11_day_9 (by decide) (fun _ => ?_) (fun c_0 => absurd (by decide) c_0)
  refine lv_aload_n hx hb dX11_day_122 rfl (lv_at hl 1 rfl) ?_
  refine lv_bipush (v := 12) hx hb dX11_day_123 (by decide) ?_
  refine q_ai (wr := [(m_s, .inl (cy 1, 383, .inl (sD n0)))]) (r_V (q0 := 0) (As := [.int 12]) (rest := []) (wc := [(m0, .inr (11, [.int 0, .ref m_tape, .int 0, .int 0, .int 0, .int 0, .ref m_s, .ref m_h, .ref m_read, .ref m_names, .ref m_reserved, .int 0, .int 0, .int 0, .int 0, .int 0, .int 0, .long 0, .int 0, .int 0, .int 0, .int 0, .int 0, .int 0, .int v, .ref m_undone, .ref m_before, .int 1, .ref m_far, .ref m_wayRow, .int (-1), .ref m_keptRow, .ref m_askedRow, .ref m_rares, .ref m_trial, .int (-1), .int (-1), .ref m_hangs, .ref m_paths, .int 0, .int 0, .int 0, .int 0, .ref m_text, .int 0, .int 0, .ref m_toldAt, .int 0, .ref m_stack, .int 0, .int 0, .int 0, .int 0, .int 0, .ref m_truths, .ref m_imaged, .ref m_namesKept, .ref m_areKept]))]) C (q_subP hP [0] rfl) (hD.sub [0] (by decide) rfl) (m_draw l D cy m0 m_tape m_s m_h m_read m_names m_reserved v m_undone m_before m_far m_wayRow m_keptRow m_askedRow m_rares m_trial m_hangs m_paths m_text m_toldAt m_stack m_truths m_imaged m_namesKept m_areKept _ ) kwV_X11_draw kM_RX11_341 rfl rfl ⟨Nat.le_of_ble_eq_true rfl, Nat.le_of_ble_eq_true rfl⟩ rfl hl.1 rfl (Nat.le_of_ble_eq_true rfl) dX11_day_125 ⟨Nat.le_of_ble_eq_true rfl, Nat.le_of_ble_eq_true rfl⟩) C.2.2.2.2.2.2.1 hP hD hS [0] [1] rfl rfl (by decide) (by decide) (fun r_2 u_1 H locs hw_3 hP hD hS => ?_)
  have hP : va_P D vwCl [(m_s, .inl (cy 1, 383, .inl (sD n0))), (m0, .inr (11, [.int 0, .ref m_tape, .int 0, .int 0, .int 0, .int 0, .ref m_s, .ref m_h, .ref m_read, .ref m_names, .ref m_reserved, .int 0, .int 0, .int 0, .int 0, .int 0, .int 0, .long 0, .int 0, .int 0, .int 0, .int 0, .int 0, .int 0, .int u_1, .ref m_undone, .ref m_before, .int 1, .ref m_far, .ref m_wayRow, .int (-1), .ref m_keptRow, .ref m_askedRow, .ref m_rares, .ref m_trial, .int (-1), .int (-1), .ref m_hangs, .ref m_paths, .int 0, .int 0, .int 0, .int 0, .ref m_text, .int 0, .int 0, .ref m_toldAt, .int 0, .ref m_stack, .int 0, .int 0, .int 0, .int 0, .int 0, .ref m_truths, .ref m_imaged, .ref m_namesKept, .ref m_areKept]))] H := hP
  have hD : va_D A [(m_s, .inl (cy 1, 383, .inl (sD n0))), (m0, .inr (11, [.int 0, .ref m_tape, .int 0, .int 0, .int 0, .int 0, .ref m_s, .ref m_h, .ref m_read, .ref m_names, .ref m_reserved, .int 0, .int 0, .int 0, .int 0, .int 0, .int 0, .long 0, .int 0, .int 0, .int 0, .int 0, .int 0, .int 0, .int u_1, .ref m_undone, .ref m_before, .int 1, .ref m_far, .ref m_wayRow, .int (-1), .ref m_keptRow, .ref m_askedRow, .ref m_rares, .ref m_trial, .int (-1), .int (-1), .ref m_hangs, .ref m_paths, .int 0, .int 0, .int 0, .int 0, .ref m_text, .int 0, .int 0, .ref m_toldAt, .int 0, .ref m_stack, .int 0, .int 0, .int 0, .int 0, .int 0, .ref m_truths, .ref m_imaged, .ref m_namesKept, .ref m_areKept]))] := hD
  refine lv_aload_n hx hb dX11_day_128 rfl (lv_at hl 1 rfl) ?_
  refine q_get (v := .ref m_s) C hP 1 6 rfl rfl inX11 (by decide) kF_RX11_33 rfl rfl dX11_day_129 ?_
  refine lv_bipush (v := 6) hx hb dX11_day_132 (by decide) ?_
  refine q_iald (v := 0) C hP 0 rfl (vin (by decide +kernel)) (by rfl) dX11_day_134 ?_
  refine lv_icmp_ge (tgt := 176) hx hb dX11_day_135 (by decide) (fun c_4 => ?_) (fun c_4 => ?_)
  · refine lv_aload_n hx hb dX11_day_176 rfl (lv_at hl 1 rfl) ?_
    refine q_get (v := .ref m_s) C hP 1 6 rfl rfl inX11 (by decide) kF_RX11_33 rfl rfl dX11_day_177 ?_
    refine lv_bipush (v := 105) hx hb dX11_day_180 (by decide) ?_
    refine lv_iconst (v := 0) hx hb dX11_day_182 (by decide) ?_
    refine q_iast (g := sD n0) (w' := [(m_s, .inl (cy 1, 383, .inl (sD n0))), (m0, .inr (11, [.int 0, .ref m_tape, .int 0, .int 0, .int 0, .int 0, .ref m_s, .ref m_h, .ref m_read, .ref m_names, .ref m_reserved, .int 0, .int 0, .int 0, .int 0, .int 0, .int 0, .long 0, .int 0, .int 0, .int 0, .int 0, .int 0, .int 0, .int u_1, .ref m_undone, .ref m_before, .int 1, .ref m_far, .ref m_wayRow, .int (-1), .ref m_keptRow, .ref m_askedRow, .ref m_rares, .ref m_trial, .int (-1), .int (-1), .ref m_hangs, .ref m_paths, .int 0, .int 0, .int 0, .int 0, .ref m_text, .int 0, .int 0, .ref m_toldAt, .int 0, .ref m_stack, .int 0, .int 0, .int 0, .int 0, .int 0, .ref m_truths, .ref m_imaged, .ref m_namesKept, .ref m_areKept]))]) C hP hD hS 0 rfl (vin (by decide +kernel)) (sD_z _) rfl dX11_day_183 (fun H locs hP hD hS => ?_)
    refine lv_aload_n hx hb dX11_day_184 rfl (lv_at hl 1 rfl) ?_
    refine q_get (v := .ref m_s) C hP 1 6 rfl rfl inX11 (by decide) kF_RX11_33 rfl rfl dX11_day_185 ?_
    refine lv_bipush (v := 104) hx hb dX11_day_188 (by decide) ?_
    refine lv_dup2_11 hx hb dX11_day_190 rfl rfl ?_
    refine q_iald (v := (nI n0)) C hP 0 rfl (vin (by decide +kernel)) rfl dX11_day_191 ?_
    refine lv_iconst (v := 1) hx hb dX11_day_192 (by decide) ?_
    refine lv_iadd hx hb dX11_day_193 ?_
    refine q_val (v := (nI (n0 + 1))) (nI_add n0 1) ?_
    refine q_iast (g := sD (n0 + 1)) (w' := [(m_s, .inl (cy 1, 383, .inl (sD (n0 + 1)))), (m0, .inr (11, [.int 0, .ref m_tape, .int 0, .int 0, .int 0, .int 0, .ref m_s, .ref m_h, .ref m_read, .ref m_names, .ref m_reserved, .int 0, .int 0, .int 0, .int 0, .int 0, .int 0, .long 0, .int 0, .int 0, .int 0, .int 0, .int 0, .int 0, .int u_1, .ref m_undone, .ref m_before, .int 1, .ref m_far, .ref m_wayRow, .int (-1), .ref m_keptRow, .ref m_askedRow, .ref m_rares, .ref m_trial, .int (-1), .int (-1), .ref m_hangs, .ref m_paths, .int 0, .int 0, .int 0, .int 0, .ref m_text, .int 0, .int 0, .ref m_toldAt, .int 0, .ref m_stack, .int 0, .int 0, .int 0, .int 0, .int 0, .ref m_truths, .ref m_imaged, .ref m_namesKept, .ref m_areKept]))]) C hP hD hS 0 rfl (vin (by decide +kernel)) (sD_s _) rfl dX11_day_194 (fun H locs hP hD hS => ?_)
    exact q_vret (rm := (Rm 1 21 0 0)) C hS (u_1) trivial (q_subP hP [1, 0] rfl) (hD.sub [1, 0] (by decide) rfl) (Nat.le_of_ble_eq_true rfl) (Nat.le_of_ble_eq_true rfl) dX11_day_195
  · refine lv_aload_n hx hb dX11_day_138 rfl (lv_at hl 1 rfl) ?_
    refine q_get (v := .ref m_s) C hP 1 6 rfl rfl inX11 (by decide) kF_RX11_33 rfl rfl dX11_day_139 ?_
    refine lv_iconst (v := 0) hx hb dX11_day_142 (by decide) ?_
    refine q_iald (v := 0) C hP 0 rfl (vin (by decide +kernel)) (by rfl) dX11_day_143 ?_
    refine lv_if_le (tgt := 176) hx hb dX11_day_144 (by decide) (fun _ => ?_) (fun c_0 => absurd (by decide) c_0)
    refine lv_aload_n hx hb dX11_day_176 rfl (lv_at hl 1 rfl) ?_
    refine q_get (v := .ref m_s) C hP 1 6 rfl rfl inX11 (by decide) kF_RX11_33 rfl rfl dX11_day_177 ?_
    refine lv_bipush (v := 105) hx hb dX11_day_180 (by decide) ?_
    refine lv_iconst (v := 0) hx hb dX11_day_182 (by decide) ?_
    refine q_iast (g := sD n0) (w' := [(m_s, .inl (cy 1, 383, .inl (sD n0))), (m0, .inr (11, [.int 0, .ref m_tape, .int 0, .int 0, .int 0, .int 0, .ref m_s, .ref m_h, .ref m_read, .ref m_names, .ref m_reserved, .int 0, .int 0, .int 0, .int 0, .int 0, .int 0, .long 0, .int 0, .int 0, .int 0, .int 0, .int 0, .int 0, .int u_1, .ref m_undone, .ref m_before, .int 1, .ref m_far, .ref m_wayRow, .int (-1), .ref m_keptRow, .ref m_askedRow, .ref m_rares, .ref m_trial, .int (-1), .int (-1), .ref m_hangs, .ref m_paths, .int 0, .int 0, .int 0, .int 0, .ref m_text, .int 0, .int 0, .ref m_toldAt, .int 0, .ref m_stack, .int 0, .int 0, .int 0, .int 0, .int 0, .ref m_truths, .ref m_imaged, .ref m_namesKept, .ref m_areKept]))]) C hP hD hS 0 rfl (vin (by decide +kernel)) (sD_z _) rfl dX11_day_183 (fun H locs hP hD hS => ?_)
    refine lv_aload_n hx hb dX11_day_184 rfl (lv_at hl 1 rfl) ?_
    refine q_get (v := .ref m_s) C hP 1 6 rfl rfl inX11 (by decide) kF_RX11_33 rfl rfl dX11_day_185 ?_
    refine lv_bipush (v := 104) hx hb dX11_day_188 (by decide) ?_
    refine lv_dup2_11 hx hb dX11_day_190 rfl rfl ?_
    refine q_iald (v := (nI n0)) C hP 0 rfl (vin (by decide +kernel)) rfl dX11_day_191 ?_
    refine lv_iconst (v := 1) hx hb dX11_day_192 (by decide) ?_
    refine lv_iadd hx hb dX11_day_193 ?_
    refine q_val (v := (nI (n0 + 1))) (nI_add n0 1) ?_
    refine q_iast (g := sD (n0 + 1)) (w' := [(m_s, .inl (cy 1, 383, .inl (sD (n0 + 1)))), (m0, .inr (11, [.int 0, .ref m_tape, .int 0, .int 0, .int 0, .int 0, .ref m_s, .ref m_h, .ref m_read, .ref m_names, .ref m_reserved, .int 0, .int 0, .int 0, .int 0, .int 0, .int 0, .long 0, .int 0, .int 0, .int 0, .int 0, .int 0, .int 0, .int u_1, .ref m_undone, .ref m_before, .int 1, .ref m_far, .ref m_wayRow, .int (-1), .ref m_keptRow, .ref m_askedRow, .ref m_rares, .ref m_trial, .int (-1), .int (-1), .ref m_hangs, .ref m_paths, .int 0, .int 0, .int 0, .int 0, .ref m_text, .int 0, .int 0, .ref m_toldAt, .int 0, .ref m_stack, .int 0, .int 0, .int 0, .int 0, .int 0, .ref m_truths, .ref m_imaged, .ref m_namesKept, .ref m_areKept]))]) C hP hD hS 0 rfl (vin (by decide +kernel)) (sD_s _) rfl dX11_day_194 (fun H locs hP hD hS => ?_)
    exact q_vret (rm := (Rm 1 21 0 0)) C hS (u_1) trivial (q_subP hP [1, 0] rfl) (hD.sub [1, 0] (by decide) rfl) (Nat.le_of_ble_eq_true rfl) (Nat.le_of_ble_eq_true rfl) dX11_day_195
set_option maxHeartbeats 4000000 in
set_option maxRecDepth 100000 in
theorem lp_m_goesOn_7 (l : Launch) (D : va_G) (cy : Nat → ClassId) (m0 : Nat) (m_areKept : Nat) (m_askedRow : Nat) (m_before : Nat) (m_far : Nat) (m_h : Nat) (m_hangs : Nat) (m_imaged : Nat) (m_keptRow : Nat) (m_names : Nat) (m_namesKept : Nat) (m_paths : Nat) (m_rares : Nat) (m_read : Nat) (m_reserved : Nat) (m_s : Nat) (m_stack : Nat) (m_tape : Nat) (m_text : Nat) (m_toldAt : Nat) (m_trial : Nat) (m_truths : Nat) (m_undone : Nat) (m_wayRow : Nat) (n1 : Nat) (v : Int32) (hn1 : 1 ≤ n1) (hn2 : n1 ≤ 30)  {p : Program} {e : Env} {s : State} {m : MethodId} {args : Array Value} {below : List Frame} {meth : Method} {c : Code} {A : Nat → Prop} {Q : State → Prop} {cells slots : Nat} (hroom : cells ≤ ((Rm 2 43 0 0)).cells ∧ slots ≤ ((Rm 2 43 0 0)).slots) (C : Cx p s m args meth c cX11_goesOn 4 (some .int) RX11 "goesOn" D cy A)
    (cont : ∀ (gs : Int32) (H : Heap) (locs : List Loc) (ls : Array Slot), va_P D vwCl [(m0, .inr (11, [.int 0, .ref m_tape, .int 0, .int 0, .int 0, .int 0, .ref m_s, .ref m_h, .ref m_read, .ref m_names, .ref m_reserved, .int 0, .int 0, .int 0, .int 0, .int 0, .int 0, .long 0, .int 0, .int 0, .int 0, .int 0, .int 0, .int 0, .int gs, .ref m_undone, .ref m_before, .int 1, .ref m_far, .ref m_wayRow, .int (-1), .ref m_keptRow, .ref m_askedRow, .ref m_rares, .ref m_trial, .int (-1), .int (-1), .ref m_hangs, .ref m_paths, .int 0, .int 0, .int 0, .int 0, .ref m_text, .int 0, .int 0, .ref m_toldAt, .int 0, .ref m_stack, .int 0, .int 0, .int 0, .int 0, .int 0, .ref m_truths, .ref m_imaged, .ref m_namesKept, .ref m_areKept])), (m_s, .inl (cy 1, 383, .inl (sD n1)))] H → va_D A [(m0, .inr (11, [.int 0, .ref m_tape, .int 0, .int 0, .int 0, .int 0, .ref m_s, .ref m_h, .ref m_read, .ref m_names, .ref m_reserved, .int 0, .int 0, .int 0, .int 0, .int 0, .int 0, .long 0, .int 0, .int 0, .int 0, .int 0, .int 0, .int 0, .int gs, .ref m_undone, .ref m_before, .int 1, .ref m_far, .ref m_wayRow, .int (-1), .ref m_keptRow, .ref m_askedRow, .ref m_rares, .ref m_trial, .int (-1), .int (-1), .ref m_hangs, .ref m_paths, .int 0, .int 0, .int 0, .int 0, .ref m_text, .int 0, .int 0, .ref m_toldAt, .int 0, .ref m_stack, .int 0, .int 0, .int 0, .int 0, .int 0, .ref m_truths, .ref m_imaged, .ref m_namesKept, .ref m_areKept])), (m_s, .inl (cy 1, 383, .inl (sD n1)))] → va_S A s.heap H locs → lv_has ls 4 [(3, .int (nI n1)), (0, .ref m0), (1, .int (nI n1)), (2, .int v)] → W p l e (Rm 2 43 0 0) s m args below meth c H locs cells slots Q (F0 m 35 ls [])) :
    ∀ (k i_1 : Nat) (gs : Int32) (H : Heap) (locs : List Loc) (ls : Array Slot), i_1 + k = n1 → va_P D vwCl [(m0, .inr (11, [.int 0, .ref m_tape, .int 0, .int 0, .int 0, .int 0, .ref m_s, .ref m_h, .ref m_read, .ref m_names, .ref m_reserved, .int 0, .int 0, .int 0, .int 0, .int 0, .int 0, .long 0, .int 0, .int 0, .int 0, .int 0, .int 0, .int 0, .int gs, .ref m_undone, .ref m_before, .int 1, .ref m_far, .ref m_wayRow, .int (-1), .ref m_keptRow, .ref m_askedRow, .ref m_rares, .ref m_trial, .int (-1), .int (-1), .ref m_hangs, .ref m_paths, .int 0, .int 0, .int 0, .int 0, .ref m_text, .int 0, .int 0, .ref m_toldAt, .int 0, .ref m_stack, .int 0, .int 0, .int 0, .int 0, .int 0, .ref m_truths, .ref m_imaged, .ref m_namesKept, .ref m_areKept])), (m_s, .inl (cy 1, 383, .inl (sD i_1)))] H → va_D A [(m0, .inr (11, [.int 0, .ref m_tape, .int 0, .int 0, .int 0, .int 0, .ref m_s, .ref m_h, .ref m_read, .ref m_names, .ref m_reserved, .int 0, .int 0, .int 0, .int 0, .int 0, .int 0, .long 0, .int 0, .int 0, .int 0, .int 0, .int 0, .int 0, .int gs, .ref m_undone, .ref m_before, .int 1, .ref m_far, .ref m_wayRow, .int (-1), .ref m_keptRow, .ref m_askedRow, .ref m_rares, .ref m_trial, .int (-1), .int (-1), .ref m_hangs, .ref m_paths, .int 0, .int 0, .int 0, .int 0, .ref m_text, .int 0, .int 0, .ref m_toldAt, .int 0, .ref m_stack, .int 0, .int 0, .int 0, .int 0, .int 0, .ref m_truths, .ref m_imaged, .ref m_namesKept, .ref m_areKept])), (m_s, .inl (cy 1, 383, .inl (sD i_1)))] → va_S A s.heap H locs → lv_has ls 4 [(3, .int (nI i_1)), (0, .ref m0), (1, .int (nI n1)), (2, .int v)] → W p l e (Rm 2 43 0 0) s m args below meth c H locs cells slots Q (F0 m 7 ls []) := by
  have hx := C.1
  have hb := C.2.1
  intro k
  induction k with
  | zero =>
    intro i_1 gs H locs ls hik hP hD hS hl
    have hik : n1 = i_1 := (by omega)
    subst hik
    have hl : lv_has ls 4 [(3, .int (nI n1)), (0, .ref m0), (1, .int (nI n1)), (2, .int v)] := hl
    have hP : va_P D vwCl [(m0, .inr (11, [.int 0, .ref m_tape, .int 0, .int 0, .int 0, .int 0, .ref m_s, .ref m_h, .ref m_read, .ref m_names, .ref m_reserved, .int 0, .int 0, .int 0, .int 0, .int 0, .int 0, .long 0, .int 0, .int 0, .int 0, .int 0, .int 0, .int 0, .int gs, .ref m_undone, .ref m_before, .int 1, .ref m_far, .ref m_wayRow, .int (-1), .ref m_keptRow, .ref m_askedRow, .ref m_rares, .ref m_trial, .int (-1), .int (-1), .ref m_hangs, .ref m_paths, .int 0, .int 0, .int 0, .int 0, .ref m_text, .int 0, .int 0, .ref m_toldAt, .int 0, .ref m_stack, .int 0, .int 0, .int 0, .int 0, .int 0, .ref m_truths, .ref m_imaged, .ref m_namesKept, .ref m_areKept])), (m_s, .inl (cy 1, 383, .inl (sD n1)))] H := hP
    have hD : va_D A [(m0, .inr (11, [.int 0, .ref m_tape, .int 0, .int 0, .int 0, .int 0, .ref m_s, .ref m_h, .ref m_read, .ref m_names, .ref m_reserved, .int 0, .int 0, .int 0, .int 0, .int 0, .int 0, .long 0, .int 0, .int 0, .int 0, .int 0, .int 0, .int 0, .int gs, .ref m_undone, .ref m_before, .int 1, .ref m_far, .ref m_wayRow, .int (-1), .ref m_keptRow, .ref m_askedRow, .ref m_rares, .ref m_trial, .int (-1), .int (-1), .ref m_hangs, .ref m_paths, .int 0, .int 0, .int 0, .int 0, .ref m_text, .int 0, .int 0, .ref m_toldAt, .int 0, .ref m_stack, .int 0, .int 0, .int 0, .int 0, .int 0, .ref m_truths, .ref m_imaged, .ref m_namesKept, .ref m_areKept])), (m_s, .inl (cy 1, 383, .inl (sD n1)))] := hD
    refine lv_iload_n hx hb dX11_goesOn_7 rfl (lv_at hl 0 rfl) ?_
    refine lv_iload_n hx hb dX11_goesOn_8 rfl (lv_at hl 2 rfl) ?_
    refine lv_icmp_ge (tgt := 35) hx hb dX11_goesOn_9 (by decide) (fun _ => ?_) (fun c_0 => absurd (Int32.le_refl _) c_0)
    exact cont gs H locs ls hP hD hS hl
  | succ k ih =>
    intro i_1 gs H locs ls hik hP hD hS hl
    have hlt : i_1 < n1 := (by omega)
    refine lv_iload_n hx hb dX11_goesOn_7 rfl (lv_at hl 0 rfl) ?_
    refine lv_iload_n hx hb dX11_goesOn_8 rfl (lv_at hl 2 rfl) ?_
    refine lv_icmp_ge (tgt := 35) hx hb dX11_goesOn_9 (by decide) (fun c_0 => absurd c_0 (nI_ge (by omega) (by omega))) (fun _ => ?_)
    refine lv_aload_n hx hb dX11_goesOn_12 rfl (lv_at hl 1 rfl) ?_
    refine q_get (v := .ref m_s) C hP 0 6 rfl rfl inX11 (by decide) kF_RX11_33 rfl rfl dX11_goesOn_13 ?_
    refine lv_bipush (v := 104) hx hb dX11_goesOn_16 (by decide) ?_
    refine q_iald (v := (nI i_1)) C hP 1 rfl (vin (by decide +kernel)) rfl dX11_goesOn_18 ?_
    refine lv_sipush (v := 400) hx hb dX11_goesOn_19 (by decide) ?_
    refine lv_icmp_ge (tgt := 35) hx hb dX11_goesOn_22 (by decide) (fun c_0 => absurd c_0 (nI_ge (b := 400) (by omega) (by decide))) (fun _ => ?_)
    refine lv_aload_n hx hb dX11_goesOn_25 rfl (lv_at hl 1 rfl) ?_
    refine q_av (wr := []) (r_V (rm := (Rm 1 21 0 0)) (q0 := 0) (As := []) (rest := []) (wc := [(m0, .inr (11, [.int 0, .ref m_tape, .int 0, .int 0, .int 0, .int 0, .ref m_s, .ref m_h, .ref m_read, .ref m_names, .ref m_reserved, .int 0, .int 0, .int 0, .int 0, .int 0, .int 0, .long 0, .int 0, .int 0, .int 0, .int 0, .int 0, .int 0, .int gs, .ref m_undone, .ref m_before, .int 1, .ref m_far, .ref m_wayRow, .int (-1), .ref m_keptRow, .ref m_askedRow, .ref m_rares, .ref m_trial, .int (-1), .int (-1), .ref m_hangs, .ref m_paths, .int 0, .int 0, .int 0, .int 0, .ref m_text, .int 0, .int 0, .ref m_toldAt, .int 0, .ref m_stack, .int 0, .int 0, .int 0, .int 0, .int 0, .ref m_truths, .ref m_imaged, .ref m_namesKept, .ref m_areKept])), (m_s, .inl (cy 1, 383, .inl (sD i_1)))]) C (q_subP hP [0, 1] rfl) (hD.sub [0, 1] (by decide) rfl) (m_day l D cy m0 m_tape m_s m_h m_read m_names m_reserved gs m_undone m_before m_far m_wayRow m_keptRow m_askedRow m_rares m_trial m_hangs m_paths m_text m_toldAt m_stack m_truths m_imaged m_namesKept m_areKept i_1 _ (by omega)) kwV_X11_day kM_RX11_344 rfl rfl ⟨Nat.le_of_ble_eq_true rfl, Nat.le_of_ble_eq_true rfl⟩ rfl hl.1 rfl (Nat.le_of_ble_eq_true rfl) dX11_goesOn_26 ⟨hroom.1, hroom.2⟩) C.2.2.2.2.2.2.1 hP hD hS [0, 1] [] rfl rfl (by decide) (by decide) (fun u_102 H locs hw_104 hP hD hS => ?_)
    have hP : va_P D vwCl [(m0, .inr (11, [.int 0, .ref m_tape, .int 0, .int 0, .int 0, .int 0, .ref m_s, .ref m_h, .ref m_read, .ref m_names, .ref m_reserved, .int 0, .int 0, .int 0, .int 0, .int 0, .int 0, .long 0, .int 0, .int 0, .int 0, .int 0, .int 0, .int 0, .int u_102, .ref m_undone, .ref m_before, .int 1, .ref m_far, .ref m_wayRow, .int (-1), .ref m_keptRow, .ref m_askedRow, .ref m_rares, .ref m_trial, .int (-1), .int (-1), .ref m_hangs, .ref m_paths, .int 0, .int 0, .int 0, .int 0, .ref m_text, .int 0, .int 0, .ref m_toldAt, .int 0, .ref m_stack, .int 0, .int 0, .int 0, .int 0, .int 0, .ref m_truths, .ref m_imaged, .ref m_namesKept, .ref m_areKept])), (m_s, .inl (cy 1, 383, .inl (sD (i_1 + 1))))] H := hP
    have hD : va_D A [(m0, .inr (11, [.int 0, .ref m_tape, .int 0, .int 0, .int 0, .int 0, .ref m_s, .ref m_h, .ref m_read, .ref m_names, .ref m_reserved, .int 0, .int 0, .int 0, .int 0, .int 0, .int 0, .long 0, .int 0, .int 0, .int 0, .int 0, .int 0, .int 0, .int u_102, .ref m_undone, .ref m_before, .int 1, .ref m_far, .ref m_wayRow, .int (-1), .ref m_keptRow, .ref m_askedRow, .ref m_rares, .ref m_trial, .int (-1), .int (-1), .ref m_hangs, .ref m_paths, .int 0, .int 0, .int 0, .int 0, .ref m_text, .int 0, .int 0, .ref m_toldAt, .int 0, .ref m_stack, .int 0, .int 0, .int 0, .int 0, .int 0, .ref m_truths, .ref m_imaged, .ref m_namesKept, .ref m_areKept])), (m_s, .inl (cy 1, 383, .inl (sD (i_1 + 1))))] := hD
    refine lv_iinc (v := (nI (i_1 + 1))) (lv' := [(3, .int (nI (i_1 + 1))), (0, .ref m0), (1, .int (nI n1)), (2, .int v)]) hx hb dX11_goesOn_29 hl (k := 0) rfl (nI_1 _) (by decide) rfl (fun ls hl => ?_)
    refine lv_goto (tgt := 7) hx hb dX11_goesOn_32 (by decide) ?_
    exact ih (i_1 + 1) u_102 H locs ls (by omega) hP hD hS (lv_sub hl [0, 1, 2, 3] rfl)
set_option maxHeartbeats 4000000 in
set_option maxRecDepth 100000 in
theorem m_goesOn (l : Launch) (D : va_G) (cy : Nat → ClassId) (m0 : Nat) (n1 : Nat) (v : Int32) (m_tape : Nat) (m_s : Nat) (m_h : Nat) (m_read : Nat) (m_names : Nat) (m_reserved : Nat) (m_undone : Nat) (m_before : Nat) (m_far : Nat) (m_wayRow : Nat) (m_keptRow : Nat) (m_askedRow : Nat) (m_rares : Nat) (m_trial : Nat) (m_hangs : Nat) (m_paths : Nat) (m_text : Nat) (m_toldAt : Nat) (m_stack : Nat) (m_truths : Nat) (m_imaged : Nat) (m_namesKept : Nat) (m_areKept : Nat) (sz : Nat) (hn1 : 1 ≤ n1) (hn2 : n1 ≤ 30) : MI l yX11_goesOn cX11_goesOn 4 (some .int) (Rm 2 43 0 0) D cy [.ref m0, .int (nI n1), .int v] sz [(m0, .inr (11, [.int 0, .ref m_tape, .int 0, .int 0, .int 0, .int 0, .ref m_s, .ref m_h, .ref m_read, .ref m_names, .ref m_reserved, .int 0, .int 0, .int 0, .int 0, .int 0, .int 0, .long 0, .int 0, .int 0, .int 0, .int 0, .int 0, .int 0, .int 0, .ref m_undone, .ref m_before, .int 1, .ref m_far, .ref m_wayRow, .int (-1), .ref m_keptRow, .ref m_askedRow, .ref m_rares, .ref m_trial, .int (-1), .int (-1), .ref m_hangs, .ref m_paths, .int 0, .int 0, .int 0, .int 0, .ref m_text, .int 0, .int 0, .ref m_toldAt, .int 0, .ref m_stack, .int 0, .int 0, .int 0, .int 0, .int 0, .ref m_truths, .ref m_imaged, .ref m_namesKept, .ref m_areKept])), (m_s, .inl (cy 1, 383, .inl (sD 0)))] (fun (r : Int32) (u : Unit) => r = (nI n1)) (fun u : Unit => []) := by
  refine MI.enter (by decide) (Nat.le_of_ble_eq_true rfl) ?_
  intro p e s m below meth c ls A hsz hAe C hP hD hS hl
  have C : Cx p s m _ meth c cX11_goesOn 4 (some .int) RX11 "goesOn" D cy A := C
  have hx := C.1
  have hb := C.2.1
  have hl : lv_has ls 4 [(0, .ref m0), (1, .int (nI n1)), (2, .int v)] := hl
  refine lv_aload_n hx hb dX11_goesOn_0 rfl (lv_at hl 0 rfl) ?_
  refine lv_iload_n hx hb dX11_goesOn_1 rfl (lv_at hl 2 rfl) ?_
  refine q_put (v := .int v) (w' := [(m0, .inr (11, [.int 0, .ref m_tape, .int 0, .int 0, .int 0, .int 0, .ref m_s, .ref m_h, .ref m_read, .ref m_names, .ref m_reserved, .int 0, .int 0, .int 0, .int 0, .int 0, .int 0, .long 0, .int 0, .int 0, .int 0, .int 0, .int 0, .int 0, .int v, .ref m_undone, .ref m_before, .int 1, .ref m_far, .ref m_wayRow, .int (-1), .ref m_keptRow, .ref m_askedRow, .ref m_rares, .ref m_trial, .int (-1), .int (-1), .ref m_hangs, .ref m_paths, .int 0, .int 0, .int 0, .int 0, .ref m_text, .int 0, .int 0, .ref m_toldAt, .int 0, .ref m_stack, .int 0, .int 0, .int 0, .int 0, .int 0, .ref m_truths, .ref m_imaged, .ref m_namesKept, .ref m_areKept])), (m_s, .inl (cy 1, 383, .inl (sD 0)))]) (ty := .int) C hP hD hS 0 24 rfl rfl inX11 tyX11 tyX11_ok nmX11 (by decide) kF_RX11_334 rfl rfl rfl rfl rfl (Nat.le_of_ble_eq_true rfl) rfl dX11_goesOn_2 (fun H locs hP hD hS => ?_)
  refine lv_iconst (v := 0) hx hb dX11_goesOn_5 (by decide) ?_
  refine lv_istore_n (lv' := [(3, .int 0), (0, .ref m0), (1, .int (nI n1)), (2, .int v)]) hx hb dX11_goesOn_6 rfl hl (by decide) rfl (fun ls hl => ?_)
  refine lp_m_goesOn_7 l D cy m0 m_areKept m_askedRow m_before m_far m_h m_hangs m_imaged m_keptRow m_names m_namesKept m_paths m_rares m_read m_reserved m_s m_stack m_tape m_text m_toldAt m_trial m_truths m_undone m_wayRow n1 v hn1 hn2  ⟨Nat.le_of_ble_eq_true rfl, Nat.le_of_ble_eq_true rfl⟩ C (fun gs H locs ls hP hD hS hl => ?_) n1 0 v _ _ ls (by omega) hP hD hS (lv_sub hl [0, 1, 2, 3] rfl)
  refine lv_iload_n hx hb dX11_goesOn_35 rfl (lv_at hl 0 rfl) ?_
  exact q_iret (rm := (Rm 2 43 0 0)) C hS () rfl rfl (q_subP hP [] rfl) (hD.sub [] (by decide) rfl) (Nat.le_of_ble_eq_true rfl) (Nat.le_of_ble_eq_true rfl) dX11_goesOn_36
