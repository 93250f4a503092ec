theorem dX11_isBook_0 : decode cX11_isBook 0 = .ok (.iload_n 1, 1) := by decide +kernel
theorem dX11_isBook_1 : decode cX11_isBook 1 = .ok (.iconst 0, 1) := by decide +kernel
theorem dX11_isBook_2 : decode cX11_isBook 2 = .ok (.aload_n 0, 1) := by decide +kernel
theorem dX11_isBook_3 : decode cX11_isBook 3 = .ok (.getfield 33, 3) := by decide +kernel
theorem dX11_isBook_6 : decode cX11_isBook 6 = .ok (.iconst 0, 1) := by decide +kernel
theorem dX11_isBook_7 : decode cX11_isBook 7 = .ok (.iaload, 1) := by decide +kernel
theorem dX11_isBook_8 : decode cX11_isBook 8 = .ok (.iconst 1, 1) := by decide +kernel
theorem dX11_isBook_9 : decode cX11_isBook 9 = .ok (.isub, 1) := by decide +kernel
theorem dX11_isBook_10 : decode cX11_isBook 10 = .ok (.invokestatic 206, 3) := by decide +kernel
theorem dX11_isBook_13 : decode cX11_isBook 13 = .ok (.ireturn, 1) := by decide +kernel
theorem dX11_isCell_0 : decode cX11_isCell 0 = .ok (.iload_n 1, 1) := by decide +kernel
theorem dX11_isCell_1 : decode cX11_isCell 1 = .ok (.iconst 0, 1) := by decide +kernel
theorem dX11_isCell_2 : decode cX11_isCell 2 = .ok (.aload_n 0, 1) := by decide +kernel
theorem dX11_isCell_3 : decode cX11_isCell 3 = .ok (.getfield 33, 3) := by decide +kernel
theorem dX11_isCell_6 : decode cX11_isCell 6 = .ok (.iconst 1, 1) := by decide +kernel
theorem dX11_isCell_7 : decode cX11_isCell 7 = .ok (.iaload, 1) := by decide +kernel
theorem dX11_isCell_8 : decode cX11_isCell 8 = .ok (.iconst 1, 1) := by decide +kernel
theorem dX11_isCell_9 : decode cX11_isCell 9 = .ok (.isub, 1) := by decide +kernel
theorem dX11_isCell_10 : decode cX11_isCell 10 = .ok (.invokestatic 206, 3) := by decide +kernel
theorem dX11_isCell_13 : decode cX11_isCell 13 = .ok (.ifCond .eq 23, 3) := by decide +kernel
theorem dX11_isCell_36 : decode cX11_isCell 36 = .ok (.iconst 0, 1) := by decide +kernel
theorem dX11_isCell_37 : decode cX11_isCell 37 = .ok (.ireturn, 1) := by decide +kernel
theorem dX11_isCell_16 : decode cX11_isCell 16 = .ok (.iload_n 2, 1) := by decide +kernel
theorem dX11_isCell_17 : decode cX11_isCell 17 = .ok (.iconst 0, 1) := by decide +kernel
theorem dX11_isCell_18 : decode cX11_isCell 18 = .ok (.aload_n 0, 1) := by decide +kernel
theorem dX11_isCell_19 : decode cX11_isCell 19 = .ok (.getfield 33, 3) := by decide +kernel
theorem dX11_isCell_22 : decode cX11_isCell 22 = .ok (.iconst 2, 1) := by decide +kernel
theorem dX11_isCell_23 : decode cX11_isCell 23 = .ok (.iaload, 1) := by decide +kernel
theorem dX11_isCell_24 : decode cX11_isCell 24 = .ok (.iconst 1, 1) := by decide +kernel
theorem dX11_isCell_25 : decode cX11_isCell 25 = .ok (.isub, 1) := by decide +kernel
theorem dX11_isCell_26 : decode cX11_isCell 26 = .ok (.invokestatic 206, 3) := by decide +kernel
theorem dX11_isCell_29 : decode cX11_isCell 29 = .ok (.ifCond .eq 7, 3) := by decide +kernel
theorem dX11_isCell_32 : decode cX11_isCell 32 = .ok (.iconst 1, 1) := by decide +kernel
theorem dX11_isCell_33 : decode cX11_isCell 33 = .ok (.goto 4, 3) := by decide +kernel
theorem dX11_isAsked_0 : decode cX11_isAsked 0 = .ok (.aload_n 0, 1) := by decide +kernel
theorem dX11_isAsked_1 : decode cX11_isAsked 1 = .ok (.getfield 33, 3) := by decide +kernel
theorem dX11_isAsked_4 : decode cX11_isAsked 4 = .ok (.bipush 105, 2) := by decide +kernel
theorem dX11_isAsked_6 : decode cX11_isAsked 6 = .ok (.iaload, 1) := by decide +kernel
theorem dX11_isAsked_7 : decode cX11_isAsked 7 = .ok (.iload_n 1, 1) := by decide +kernel
theorem dX11_isAsked_8 : decode cX11_isAsked 8 = .ok (.invokestatic 231, 3) := by decide +kernel
theorem dX11_isAsked_11 : decode cX11_isAsked 11 = .ok (.ireturn, 1) := by decide +kernel
theorem dX11_threadOf_0 : decode cX11_threadOf 0 = .ok (.aload_n 0, 1) := by decide +kernel
theorem dX11_threadOf_1 : decode cX11_threadOf 1 = .ok (.getfield 33, 3) := by decide +kernel
theorem dX11_threadOf_4 : decode cX11_threadOf 4 = .ok (.sipush 138, 3) := by decide +kernel
theorem dX11_threadOf_7 : decode cX11_threadOf 7 = .ok (.bipush 8, 2) := by decide +kernel
theorem dX11_threadOf_9 : decode cX11_threadOf 9 = .ok (.iload_n 1, 1) := by decide +kernel
theorem dX11_threadOf_10 : decode cX11_threadOf 10 = .ok (.imul, 1) := by decide +kernel
theorem dX11_threadOf_11 : decode cX11_threadOf 11 = .ok (.iadd, 1) := by decide +kernel
theorem dX11_threadOf_12 : decode cX11_threadOf 12 = .ok (.iload_n 2, 1) := by decide +kernel
theorem dX11_threadOf_13 : decode cX11_threadOf 13 = .ok (.iadd, 1) := by decide +kernel
theorem dX11_threadOf_14 : decode cX11_threadOf 14 = .ok (.iaload, 1) := by decide +kernel
theorem dX11_threadOf_15 : decode cX11_threadOf 15 = .ok (.ireturn, 1) := by decide +kernel
theorem dX11_reads_0 : decode cX11_reads 0 = .ok (.iload_n 1, 1) := by decide +kernel
theorem dX11_reads_1 : decode cX11_reads 1 = .ok (.aload_n 0, 1) := by decide +kernel
theorem dX11_reads_2 : decode cX11_reads 2 = .ok (.getfield 33, 3) := by decide +kernel
theorem dX11_reads_5 : decode cX11_reads 5 = .ok (.iconst 3, 1) := by decide +kernel
theorem dX11_reads_6 : decode cX11_reads 6 = .ok (.iaload, 1) := by decide +kernel
theorem dX11_reads_7 : decode cX11_reads 7 = .ok (.if_icmp .ge 7, 3) := by decide +kernel
theorem dX11_reads_14 : decode cX11_reads 14 = .ok (.iload_n 1, 1) := by decide +kernel
theorem dX11_reads_15 : decode cX11_reads 15 = .ok (.iconst 2, 1) := by decide +kernel
theorem dX11_reads_16 : decode cX11_reads 16 = .ok (.aload_n 0, 1) := by decide +kernel
theorem dX11_reads_17 : decode cX11_reads 17 = .ok (.getfield 33, 3) := by decide +kernel
theorem dX11_reads_20 : decode cX11_reads 20 = .ok (.iconst 3, 1) := by decide +kernel
theorem dX11_reads_21 : decode cX11_reads 21 = .ok (.iaload, 1) := by decide +kernel
theorem dX11_reads_22 : decode cX11_reads 22 = .ok (.imul, 1) := by decide +kernel
theorem dX11_reads_23 : decode cX11_reads 23 = .ok (.if_icmp .ge 7, 3) := by decide +kernel
theorem dX11_reads_30 : decode cX11_reads 30 = .ok (.iconst 2, 1) := by decide +kernel
theorem dX11_reads_31 : decode cX11_reads 31 = .ok (.ireturn, 1) := by decide +kernel
theorem dX11_reads_26 : decode cX11_reads 26 = .ok (.iconst 1, 1) := by decide +kernel
theorem dX11_reads_27 : decode cX11_reads 27 = .ok (.goto 4, 3) := by decide +kernel
theorem dX11_reads_10 : decode cX11_reads 10 = .ok (.iconst 0, 1) := by decide +kernel
theorem dX11_reads_11 : decode cX11_reads 11 = .ok (.goto 20, 3) := by decide +kernel
theorem dX11_linesOf_0 : decode cX11_linesOf 0 = .ok (.iconst 0, 1) := by decide +kernel
theorem dX11_linesOf_1 : decode cX11_linesOf 1 = .ok (.istore_n 2, 1) := by decide +kernel
theorem dX11_linesOf_2 : decode cX11_linesOf 2 = .ok (.iconst 0, 1) := by decide +kernel
theorem dX11_linesOf_3 : decode cX11_linesOf 3 = .ok (.istore_n 3, 1) := by decide +kernel
theorem dX11_linesOf_4 : decode cX11_linesOf 4 = .ok (.iload_n 3, 1) := by decide +kernel
theorem dX11_linesOf_5 : decode cX11_linesOf 5 = .ok (.aload_n 0, 1) := by decide +kernel
theorem dX11_linesOf_6 : decode cX11_linesOf 6 = .ok (.getfield 33, 3) := by decide +kernel
theorem dX11_linesOf_9 : decode cX11_linesOf 9 = .ok (.iconst 0, 1) := by decide +kernel
theorem dX11_linesOf_10 : decode cX11_linesOf 10 = .ok (.iaload, 1) := by decide +kernel
theorem dX11_linesOf_11 : decode cX11_linesOf 11 = .ok (.if_icmp .ge 34, 3) := by decide +kernel
theorem dX11_linesOf_45 : decode cX11_linesOf 45 = .ok (.iload_n 2, 1) := by decide +kernel
theorem dX11_linesOf_46 : decode cX11_linesOf 46 = .ok (.ireturn, 1) := by decide +kernel
theorem dX11_linesOf_14 : decode cX11_linesOf 14 = .ok (.iload_n 2, 1) := by decide +kernel
theorem dX11_linesOf_15 : decode cX11_linesOf 15 = .ok (.aload_n 0, 1) := by decide +kernel
theorem dX11_linesOf_16 : decode cX11_linesOf 16 = .ok (.iload_n 1, 1) := by decide +kernel
theorem dX11_linesOf_17 : decode cX11_linesOf 17 = .ok (.iload_n 3, 1) := by decide +kernel
theorem dX11_linesOf_18 : decode cX11_linesOf 18 = .ok (.invokevirtual 291, 3) := by decide +kernel
theorem kwV_X11_threadOf : MwV RX11 yX11_threadOf cX11_threadOf 3 (some .int) 2 := ⟨List.mem_filter.mpr ⟨List.mem_of_getElem? (i := 1808) (by decide +kernel), by decide +kernel⟩, List.mem_filter.mpr ⟨List.mem_of_getElem? (i := 1807) (by decide +kernel), by decide +kernel⟩, List.mem_filter.mpr ⟨List.mem_of_getElem? (i := 80) (by decide +kernel), by decide +kernel⟩, List.mem_filter.mpr ⟨List.mem_of_getElem? (i := 139) (by decide +kernel), by decide +kernel⟩, by decide +kernel⟩
theorem kM_RX11_291 : Cond.methodLink RX11 291 yX11_threadOf ∈ gT := List.mem_filter.mpr ⟨List.mem_of_getElem? (i := 1805) (by decide +kernel), by decide +kernel⟩
theorem dX11_linesOf_21 : decode cX11_linesOf 21 = .ok (.aload_n 0, 1) := by decide +kernel
theorem dX11_linesOf_22 : decode cX11_linesOf 22 = .ok (.getfield 33, 3) := by decide +kernel
theorem dX11_linesOf_25 : decode cX11_linesOf 25 = .ok (.iconst 5, 1) := by decide +kernel
theorem dX11_linesOf_26 : decode cX11_linesOf 26 = .ok (.iaload, 1) := by decide +kernel
theorem dX11_linesOf_27 : decode cX11_linesOf 27 = .ok (.if_icmp .lt 9, 3) := by decide +kernel
theorem dX11_linesOf_36 : decode cX11_linesOf 36 = .ok (.iconst 0, 1) := by decide +kernel
theorem dX11_linesOf_37 : decode cX11_linesOf 37 = .ok (.ior, 1) := by decide +kernel
theorem dX11_linesOf_38 : decode cX11_linesOf 38 = .ok (.istore_n 2, 1) := by decide +kernel
theorem dX11_linesOf_39 : decode cX11_linesOf 39 = .ok (.iinc 3 1, 3) := by decide +kernel
theorem dX11_linesOf_42 : decode cX11_linesOf 42 = .ok (.goto (-38), 3) := by decide +kernel
theorem dX11_linesOf_30 : decode cX11_linesOf 30 = .ok (.iconst 1, 1) := by decide +kernel
theorem dX11_linesOf_31 : decode cX11_linesOf 31 = .ok (.iload_n 3, 1) := by decide +kernel
theorem dX11_linesOf_32 : decode cX11_linesOf 32 = .ok (.ishl, 1) := by decide +kernel
theorem dX11_linesOf_33 : decode cX11_linesOf 33 = .ok (.goto 4, 3) := by decide +kernel
theorem dX11_bookAt_0 : decode cX11_bookAt 0 = .ok (.iconst 0, 1) := by decide +kernel
theorem dX11_bookAt_1 : decode cX11_bookAt 1 = .ok (.istore_n 3, 1) := by decide +kernel
theorem dX11_bookAt_2 : decode cX11_bookAt 2 = .ok (.iload_n 3, 1) := by decide +kernel
theorem dX11_bookAt_3 : decode cX11_bookAt 3 = .ok (.aload_n 0, 1) := by decide +kernel
theorem dX11_bookAt_4 : decode cX11_bookAt 4 = .ok (.getfield 33, 3) := by decide +kernel
theorem dX11_bookAt_7 : decode cX11_bookAt 7 = .ok (.iconst 0, 1) := by decide +kernel
theorem dX11_bookAt_8 : decode cX11_bookAt 8 = .ok (.iaload, 1) := by decide +kernel
theorem dX11_bookAt_9 : decode cX11_bookAt 9 = .ok (.if_icmp .ge 37, 3) := by decide +kernel
theorem dX11_bookAt_46 : decode cX11_bookAt 46 = .ok (.iconst (-1), 1) := by decide +kernel
theorem dX11_bookAt_47 : decode cX11_bookAt 47 = .ok (.ireturn, 1) := by decide +kernel
theorem dX11_bookAt_12 : decode cX11_bookAt 12 = .ok (.aload_n 0, 1) := by decide +kernel
theorem dX11_bookAt_13 : decode cX11_bookAt 13 = .ok (.getfield 33, 3) := by decide +kernel
theorem dX11_bookAt_16 : decode cX11_bookAt 16 = .ok (.bipush 106, 2) := by decide +kernel
theorem dX11_bookAt_18 : decode cX11_bookAt 18 = .ok (.iload_n 3, 1) := by decide +kernel
theorem dX11_bookAt_19 : decode cX11_bookAt 19 = .ok (.iadd, 1) := by decide +kernel
theorem dX11_bookAt_20 : decode cX11_bookAt 20 = .ok (.iaload, 1) := by decide +kernel
theorem dX11_bookAt_21 : decode cX11_bookAt 21 = .ok (.iload_n 1, 1) := by decide +kernel
theorem dX11_bookAt_22 : decode cX11_bookAt 22 = .ok (.if_icmp .ne 18, 3) := by decide +kernel
theorem dX11_bookAt_40 : decode cX11_bookAt 40 = .ok (.iinc 3 1, 3) := by decide +kernel
theorem dX11_bookAt_43 : decode cX11_bookAt 43 = .ok (.goto (-41), 3) := by decide +kernel
theorem dX11_bookAt_25 : decode cX11_bookAt 25 = .ok (.aload_n 0, 1) := by decide +kernel
theorem dX11_bookAt_26 : decode cX11_bookAt 26 = .ok (.getfield 33, 3) := by decide +kernel
theorem dX11_bookAt_29 : decode cX11_bookAt 29 = .ok (.bipush 114, 2) := by decide +kernel
theorem dX11_bookAt_31 : decode cX11_bookAt 31 = .ok (.iload_n 3, 1) := by decide +kernel
theorem dX11_bookAt_32 : decode cX11_bookAt 32 = .ok (.iadd, 1) := by decide +kernel
theorem dX11_bookAt_33 : decode cX11_bookAt 33 = .ok (.iaload, 1) := by decide +kernel
theorem dX11_bookAt_34 : decode cX11_bookAt 34 = .ok (.iload_n 2, 1) := by decide +kernel
theorem dX11_bookAt_35 : decode cX11_bookAt 35 = .ok (.if_icmp .ne 5, 3) := by decide +kernel
theorem dX11_bookAt_38 : decode cX11_bookAt 38 = .ok (.iload_n 3, 1) := by decide +kernel
theorem dX11_bookAt_39 : decode cX11_bookAt 39 = .ok (.ireturn, 1) := by decide +kernel
theorem dX11_isBetween_0 : decode cX11_isBetween 0 = .ok (.aload_n 0, 1) := by decide +kernel
theorem dX11_isBetween_1 : decode cX11_isBetween 1 = .ok (.getfield 33, 3) := by decide +kernel
theorem dX11_isBetween_4 : decode cX11_isBetween 4 = .ok (.bipush 106, 2) := by decide +kernel
theorem dX11_isBetween_6 : decode cX11_isBetween 6 = .ok (.iload_n 1, 1) := by decide +kernel
theorem dX11_isBetween_7 : decode cX11_isBetween 7 = .ok (.iadd, 1) := by decide +kernel
theorem dX11_isBetween_8 : decode cX11_isBetween 8 = .ok (.iaload, 1) := by decide +kernel
theorem dX11_isBetween_9 : decode cX11_isBetween 9 = .ok (.aload_n 0, 1) := by decide +kernel
theorem dX11_isBetween_10 : decode cX11_isBetween 10 = .ok (.getfield 33, 3) := by decide +kernel
theorem dX11_isBetween_13 : decode cX11_isBetween 13 = .ok (.bipush 106, 2) := by decide +kernel
theorem dX11_isBetween_15 : decode cX11_isBetween 15 = .ok (.iload_n 2, 1) := by decide +kernel
theorem dX11_isBetween_16 : decode cX11_isBetween 16 = .ok (.iadd, 1) := by decide +kernel
theorem dX11_isBetween_17 : decode cX11_isBetween 17 = .ok (.iaload, 1) := by decide +kernel
theorem dX11_isBetween_86 : decode cX11_isBetween 86 = .ok (.aload_n 0, 1) := by decide +kernel
theorem dX11_isBetween_87 : decode cX11_isBetween 87 = .ok (.getfield 33, 3) := by decide +kernel
theorem dX11_isBetween_90 : decode cX11_isBetween 90 = .ok (.bipush 114, 2) := by decide +kernel
theorem dX11_isBetween_92 : decode cX11_isBetween 92 = .ok (.iload_n 1, 1) := by decide +kernel
theorem dX11_isBetween_93 : decode cX11_isBetween 93 = .ok (.iadd, 1) := by decide +kernel
theorem dX11_isBetween_94 : decode cX11_isBetween 94 = .ok (.iaload, 1) := by decide +kernel
theorem dX11_isBetween_95 : decode cX11_isBetween 95 = .ok (.aload_n 0, 1) := by decide +kernel
theorem dX11_isBetween_96 : decode cX11_isBetween 96 = .ok (.getfield 33, 3) := by decide +kernel
theorem dX11_isBetween_99 : decode cX11_isBetween 99 = .ok (.bipush 114, 2) := by decide +kernel
theorem dX11_isBetween_101 : decode cX11_isBetween 101 = .ok (.iload_n 2, 1) := by decide +kernel
theorem dX11_isBetween_102 : decode cX11_isBetween 102 = .ok (.iadd, 1) := by decide +kernel
theorem dX11_isBetween_103 : decode cX11_isBetween 103 = .ok (.iaload, 1) := by decide +kernel
theorem dX11_isBetween_104 : decode cX11_isBetween 104 = .ok (.if_icmp .ne 68, 3) := by decide +kernel
theorem dX11_isBetween_172 : decode cX11_isBetween 172 = .ok (.iconst 0, 1) := by decide +kernel
theorem dX11_isBetween_173 : decode cX11_isBetween 173 = .ok (.ireturn, 1) := by decide +kernel
theorem dX11_isBetween_107 : decode cX11_isBetween 107 = .ok (.iload 4, 2) := by decide +kernel
theorem dX11_isBetween_109 : decode cX11_isBetween 109 = .ok (.aload_n 0, 1) := by decide +kernel
theorem dX11_isBetween_110 : decode cX11_isBetween 110 = .ok (.getfield 33, 3) := by decide +kernel
theorem dX11_isBetween_113 : decode cX11_isBetween 113 = .ok (.bipush 114, 2) := by decide +kernel
theorem dX11_isBetween_115 : decode cX11_isBetween 115 = .ok (.iload_n 1, 1) := by decide +kernel
theorem dX11_isBetween_116 : decode cX11_isBetween 116 = .ok (.iadd, 1) := by decide +kernel
theorem dX11_isBetween_117 : decode cX11_isBetween 117 = .ok (.iaload, 1) := by decide +kernel
theorem dX11_isBetween_118 : decode cX11_isBetween 118 = .ok (.if_icmp .ne 54, 3) := by decide +kernel
theorem dX11_isBetween_121 : decode cX11_isBetween 121 = .ok (.iload_n 3, 1) := by decide +kernel
theorem dX11_isBetween_122 : decode cX11_isBetween 122 = .ok (.aload_n 0, 1) := by decide +kernel
theorem dX11_isBetween_123 : decode cX11_isBetween 123 = .ok (.getfield 33, 3) := by decide +kernel
theorem dX11_isBetween_126 : decode cX11_isBetween 126 = .ok (.bipush 106, 2) := by decide +kernel
theorem dX11_isBetween_128 : decode cX11_isBetween 128 = .ok (.iload_n 1, 1) := by decide +kernel
theorem dX11_isBetween_129 : decode cX11_isBetween 129 = .ok (.iadd, 1) := by decide +kernel
theorem dX11_isBetween_130 : decode cX11_isBetween 130 = .ok (.iaload, 1) := by decide +kernel
theorem dX11_isBetween_131 : decode cX11_isBetween 131 = .ok (.aload_n 0, 1) := by decide +kernel
theorem dX11_isBetween_132 : decode cX11_isBetween 132 = .ok (.getfield 33, 3) := by decide +kernel
theorem dX11_isBetween_135 : decode cX11_isBetween 135 = .ok (.bipush 106, 2) := by decide +kernel
theorem dX11_isBetween_137 : decode cX11_isBetween 137 = .ok (.iload_n 2, 1) := by decide +kernel
theorem dX11_isBetween_138 : decode cX11_isBetween 138 = .ok (.iadd, 1) := by decide +kernel
theorem dX11_isBetween_139 : decode cX11_isBetween 139 = .ok (.iaload, 1) := by decide +kernel
theorem dX11_isBetween_140 : decode cX11_isBetween 140 = .ok (.invokestatic 294, 3) := by decide +kernel
theorem kwS_X11_lesser : MwS yX11_lesser cX11_lesser 2 (some .int) 2 := ⟨List.mem_filter.mpr ⟨List.mem_of_getElem? (i := 1831) (by decide +kernel), by decide +kernel⟩, List.mem_filter.mpr ⟨List.mem_of_getElem? (i := 1830) (by decide +kernel), by decide +kernel⟩, List.mem_filter.mpr ⟨List.mem_of_getElem? (i := 139) (by decide +kernel), by decide +kernel⟩, by decide +kernel⟩
theorem kM_RX11_294 : Cond.methodLink RX11 294 yX11_lesser ∈ gT := List.mem_filter.mpr ⟨List.mem_of_getElem? (i := 1829) (by decide +kernel), by decide +kernel⟩
theorem dX11_isBetween_143 : decode cX11_isBetween 143 = .ok (.iconst 1, 1) := by decide +kernel
theorem dX11_isBetween_144 : decode cX11_isBetween 144 = .ok (.iadd, 1) := by decide +kernel
theorem dX11_isBetween_145 : decode cX11_isBetween 145 = .ok (.aload_n 0, 1) := by decide +kernel
theorem dX11_isBetween_146 : decode cX11_isBetween 146 = .ok (.getfield 33, 3) := by decide +kernel
theorem dX11_isBetween_149 : decode cX11_isBetween 149 = .ok (.bipush 106, 2) := by decide +kernel
theorem dX11_isBetween_151 : decode cX11_isBetween 151 = .ok (.iload_n 1, 1) := by decide +kernel
theorem dX11_isBetween_152 : decode cX11_isBetween 152 = .ok (.iadd, 1) := by decide +kernel
theorem dX11_isBetween_153 : decode cX11_isBetween 153 = .ok (.iaload, 1) := by decide +kernel
theorem dX11_isBetween_154 : decode cX11_isBetween 154 = .ok (.aload_n 0, 1) := by decide +kernel
theorem dX11_isBetween_155 : decode cX11_isBetween 155 = .ok (.getfield 33, 3) := by decide +kernel
theorem dX11_isBetween_158 : decode cX11_isBetween 158 = .ok (.bipush 106, 2) := by decide +kernel
theorem dX11_isBetween_160 : decode cX11_isBetween 160 = .ok (.iload_n 2, 1) := by decide +kernel
theorem dX11_isBetween_161 : decode cX11_isBetween 161 = .ok (.iadd, 1) := by decide +kernel
theorem dX11_isBetween_162 : decode cX11_isBetween 162 = .ok (.iaload, 1) := by decide +kernel
theorem dX11_isBetween_163 : decode cX11_isBetween 163 = .ok (.invokestatic 297, 3) := by decide +kernel
theorem kwS_X11_greater : MwS yX11_greater cX11_greater 2 (some .int) 2 := ⟨List.mem_filter.mpr ⟨List.mem_of_getElem? (i := 1834) (by decide +kernel), by decide +kernel⟩, List.mem_filter.mpr ⟨List.mem_of_getElem? (i := 1833) (by decide +kernel), by decide +kernel⟩, List.mem_filter.mpr ⟨List.mem_of_getElem? (i := 139) (by decide +kernel), by decide +kernel⟩, by decide +kernel⟩
theorem kM_RX11_297 : Cond.methodLink RX11 297 yX11_greater ∈ gT := List.mem_filter.mpr ⟨List.mem_of_getElem? (i := 1832) (by decide +kernel), by decide +kernel⟩
theorem dX11_isBetween_166 : decode cX11_isBetween 166 = .ok (.iconst 1, 1) := by decide +kernel
theorem dX11_isBetween_167 : decode cX11_isBetween 167 = .ok (.isub, 1) := by decide +kernel
theorem dX11_isBetween_168 : decode cX11_isBetween 168 = .ok (.invokestatic 206, 3) := by decide +kernel
theorem dX11_isBetween_171 : decode cX11_isBetween 171 = .ok (.ireturn, 1) := by decide +kernel
theorem dX11_isBetween_18 : decode cX11_isBetween 18 = .ok (.if_icmp .ne 68, 3) := by decide +kernel
theorem dX11_isBetween_21 : decode cX11_isBetween 21 = .ok (.iload_n 3, 1) := by decide +kernel
theorem dX11_isBetween_22 : decode cX11_isBetween 22 = .ok (.aload_n 0, 1) := by decide +kernel
theorem dX11_isBetween_23 : decode cX11_isBetween 23 = .ok (.getfield 33, 3) := by decide +kernel
theorem dX11_isBetween_26 : decode cX11_isBetween 26 = .ok (.bipush 106, 2) := by decide +kernel
theorem dX11_isBetween_28 : decode cX11_isBetween 28 = .ok (.iload_n 1, 1) := by decide +kernel
theorem dX11_isBetween_29 : decode cX11_isBetween 29 = .ok (.iadd, 1) := by decide +kernel
theorem dX11_isBetween_30 : decode cX11_isBetween 30 = .ok (.iaload, 1) := by decide +kernel
theorem dX11_isBetween_31 : decode cX11_isBetween 31 = .ok (.if_icmp .ne 55, 3) := by decide +kernel
theorem dX11_isBetween_34 : decode cX11_isBetween 34 = .ok (.iload 4, 2) := by decide +kernel
theorem dX11_isBetween_36 : decode cX11_isBetween 36 = .ok (.aload_n 0, 1) := by decide +kernel
theorem dX11_isBetween_37 : decode cX11_isBetween 37 = .ok (.getfield 33, 3) := by decide +kernel
theorem dX11_isBetween_40 : decode cX11_isBetween 40 = .ok (.bipush 114, 2) := by decide +kernel
theorem dX11_isBetween_42 : decode cX11_isBetween 42 = .ok (.iload_n 1, 1) := by decide +kernel
theorem dX11_isBetween_43 : decode cX11_isBetween 43 = .ok (.iadd, 1) := by decide +kernel
theorem dX11_isBetween_44 : decode cX11_isBetween 44 = .ok (.iaload, 1) := by decide +kernel
theorem dX11_isBetween_45 : decode cX11_isBetween 45 = .ok (.aload_n 0, 1) := by decide +kernel
theorem dX11_isBetween_46 : decode cX11_isBetween 46 = .ok (.getfield 33, 3) := by decide +kernel
theorem dX11_isBetween_49 : decode cX11_isBetween 49 = .ok (.bipush 114, 2) := by decide +kernel
theorem dX11_isBetween_51 : decode cX11_isBetween 51 = .ok (.iload_n 2, 1) := by decide +kernel
theorem dX11_isBetween_52 : decode cX11_isBetween 52 = .ok (.iadd, 1) := by decide +kernel
theorem dX11_isBetween_53 : decode cX11_isBetween 53 = .ok (.iaload, 1) := by decide +kernel
theorem dX11_isBetween_54 : decode cX11_isBetween 54 = .ok (.invokestatic 294, 3) := by decide +kernel
theorem dX11_isBetween_57 : decode cX11_isBetween 57 = .ok (.iconst 1, 1) := by decide +kernel
theorem dX11_isBetween_58 : decode cX11_isBetween 58 = .ok (.iadd, 1) := by decide +kernel
theorem dX11_isBetween_59 : decode cX11_isBetween 59 = .ok (.aload_n 0, 1) := by decide +kernel
theorem dX11_isBetween_60 : decode cX11_isBetween 60 = .ok (.getfield 33, 3) := by decide +kernel
theorem dX11_isBetween_63 : decode cX11_isBetween 63 = .ok (.bipush 114, 2) := by decide +kernel
theorem dX11_isBetween_65 : decode cX11_isBetween 65 = .ok (.iload_n 1, 1) := by decide +kernel
theorem dX11_isBetween_66 : decode cX11_isBetween 66 = .ok (.iadd, 1) := by decide +kernel
theorem dX11_isBetween_67 : decode cX11_isBetween 67 = .ok (.iaload, 1) := by decide +kernel
theorem dX11_isBetween_68 : decode cX11_isBetween 68 = .ok (.aload_n 0, 1) := by decide +kernel
theorem dX11_isBetween_69 : decode cX11_isBetween 69 = .ok (.getfield 33, 3) := by decide +kernel
theorem dX11_isBetween_72 : decode cX11_isBetween 72 = .ok (.bipush 114, 2) := by decide +kernel
theorem dX11_isBetween_74 : decode cX11_isBetween 74 = .ok (.iload_n 2, 1) := by decide +kernel
theorem dX11_isBetween_75 : decode cX11_isBetween 75 = .ok (.iadd, 1) := by decide +kernel
theorem dX11_isBetween_76 : decode cX11_isBetween 76 = .ok (.iaload, 1) := by decide +kernel
theorem dX11_isBetween_77 : decode cX11_isBetween 77 = .ok (.invokestatic 297, 3) := by decide +kernel
theorem dX11_isBetween_80 : decode cX11_isBetween 80 = .ok (.iconst 1, 1) := by decide +kernel
theorem dX11_isBetween_81 : decode cX11_isBetween 81 = .ok (.isub, 1) := by decide +kernel
theorem dX11_isBetween_82 : decode cX11_isBetween 82 = .ok (.invokestatic 206, 3) := by decide +kernel
theorem dX11_isBetween_85 : decode cX11_isBetween 85 = .ok (.ireturn, 1) := by decide +kernel
theorem dX11_areInSight_0 : decode cX11_areInSight 0 = .ok (.iload_n 1, 1) := by decide +kernel
theorem dX11_areInSight_1 : decode cX11_areInSight 1 = .ok (.iload_n 2, 1) := by decide +kernel
theorem dX11_areInSight_2 : decode cX11_areInSight 2 = .ok (.if_icmp .eq 45, 3) := by decide +kernel
theorem dX11_areInSight_47 : decode cX11_areInSight 47 = .ok (.iconst 0, 1) := by decide +kernel
theorem dX11_areInSight_48 : decode cX11_areInSight 48 = .ok (.ireturn, 1) := by decide +kernel
theorem dX11_areInSight_5 : decode cX11_areInSight 5 = .ok (.aload_n 0, 1) := by decide +kernel
theorem dX11_areInSight_6 : decode cX11_areInSight 6 = .ok (.getfield 33, 3) := by decide +kernel
theorem dX11_areInSight_9 : decode cX11_areInSight 9 = .ok (.bipush 106, 2) := by decide +kernel
theorem dX11_areInSight_11 : decode cX11_areInSight 11 = .ok (.iload_n 1, 1) := by decide +kernel
theorem dX11_areInSight_12 : decode cX11_areInSight 12 = .ok (.iadd, 1) := by decide +kernel
theorem dX11_areInSight_13 : decode cX11_areInSight 13 = .ok (.iaload, 1) := by decide +kernel
theorem dX11_areInSight_14 : decode cX11_areInSight 14 = .ok (.aload_n 0, 1) := by decide +kernel
theorem dX11_areInSight_15 : decode cX11_areInSight 15 = .ok (.getfield 33, 3) := by decide +kernel
theorem dX11_areInSight_18 : decode cX11_areInSight 18 = .ok (.bipush 106, 2) := by decide +kernel
theorem dX11_areInSight_20 : decode cX11_areInSight 20 = .ok (.iload_n 2, 1) := by decide +kernel
theorem dX11_areInSight_21 : decode cX11_areInSight 21 = .ok (.iadd, 1) := by decide +kernel
theorem dX11_areInSight_22 : decode cX11_areInSight 22 = .ok (.iaload, 1) := by decide +kernel
theorem dX11_areInSight_23 : decode cX11_areInSight 23 = .ok (.if_icmp .eq 26, 3) := by decide +kernel
theorem dX11_areInSight_49 : decode cX11_areInSight 49 = .ok (.iconst 1, 1) := by decide +kernel
theorem dX11_areInSight_50 : decode cX11_areInSight 50 = .ok (.istore_n 3, 1) := by decide +kernel
theorem dX11_areInSight_51 : decode cX11_areInSight 51 = .ok (.iconst 0, 1) := by decide +kernel
theorem dX11_areInSight_52 : decode cX11_areInSight 52 = .ok (.istore 4, 2) := by decide +kernel
theorem dX11_areInSight_54 : decode cX11_areInSight 54 = .ok (.iload 4, 2) := by decide +kernel
theorem dX11_areInSight_56 : decode cX11_areInSight 56 = .ok (.aload_n 0, 1) := by decide +kernel
theorem dX11_areInSight_57 : decode cX11_areInSight 57 = .ok (.getfield 33, 3) := by decide +kernel
theorem dX11_areInSight_60 : decode cX11_areInSight 60 = .ok (.iconst 0, 1) := by decide +kernel
theorem dX11_areInSight_61 : decode cX11_areInSight 61 = .ok (.iaload, 1) := by decide +kernel
theorem dX11_areInSight_62 : decode cX11_areInSight 62 = .ok (.if_icmp .ge 48, 3) := by decide +kernel
theorem dX11_areInSight_110 : decode cX11_areInSight 110 = .ok (.iload_n 3, 1) := by decide +kernel
theorem dX11_areInSight_111 : decode cX11_areInSight 111 = .ok (.ireturn, 1) := by decide +kernel
theorem dX11_areInSight_65 : decode cX11_areInSight 65 = .ok (.iload_n 3, 1) := by decide +kernel
theorem dX11_areInSight_66 : decode cX11_areInSight 66 = .ok (.ifCond .eq 36, 3) := by decide +kernel
theorem dX11_areInSight_102 : decode cX11_areInSight 102 = .ok (.iconst 0, 1) := by decide +kernel
theorem dX11_areInSight_103 : decode cX11_areInSight 103 = .ok (.istore_n 3, 1) := by decide +kernel
theorem dX11_areInSight_104 : decode cX11_areInSight 104 = .ok (.iinc 4 1, 3) := by decide +kernel
theorem dX11_areInSight_107 : decode cX11_areInSight 107 = .ok (.goto (-53), 3) := by decide +kernel
theorem dX11_areInSight_69 : decode cX11_areInSight 69 = .ok (.aload_n 0, 1) := by decide +kernel
theorem dX11_areInSight_70 : decode cX11_areInSight 70 = .ok (.iload_n 1, 1) := by decide +kernel
theorem dX11_areInSight_71 : decode cX11_areInSight 71 = .ok (.iload_n 2, 1) := by decide +kernel
theorem dX11_areInSight_72 : decode cX11_areInSight 72 = .ok (.aload_n 0, 1) := by decide +kernel
theorem dX11_areInSight_73 : decode cX11_areInSight 73 = .ok (.getfield 33, 3) := by decide +kernel
theorem dX11_areInSight_76 : decode cX11_areInSight 76 = .ok (.bipush 106, 2) := by decide +kernel
theorem dX11_areInSight_78 : decode cX11_areInSight 78 = .ok (.iload 4, 2) := by decide +kernel
theorem dX11_areInSight_80 : decode cX11_areInSight 80 = .ok (.iadd, 1) := by decide +kernel
theorem dX11_areInSight_81 : decode cX11_areInSight 81 = .ok (.iaload, 1) := by decide +kernel
theorem dX11_areInSight_82 : decode cX11_areInSight 82 = .ok (.aload_n 0, 1) := by decide +kernel
theorem dX11_areInSight_83 : decode cX11_areInSight 83 = .ok (.getfield 33, 3) := by decide +kernel
theorem dX11_areInSight_86 : decode cX11_areInSight 86 = .ok (.bipush 114, 2) := by decide +kernel
theorem dX11_areInSight_88 : decode cX11_areInSight 88 = .ok (.iload 4, 2) := by decide +kernel
theorem dX11_areInSight_90 : decode cX11_areInSight 90 = .ok (.iadd, 1) := by decide +kernel
theorem dX11_areInSight_91 : decode cX11_areInSight 91 = .ok (.iaload, 1) := by decide +kernel
theorem dX11_areInSight_92 : decode cX11_areInSight 92 = .ok (.invokevirtual 300, 3) := by decide +kernel
theorem kwV_X11_isBetween : MwV RX11 yX11_isBetween cX11_isBetween 5 (some .boolean) 4 := ⟨List.mem_filter.mpr ⟨List.mem_of_getElem? (i := 1828) (by decide +kernel), by decide +kernel⟩, List.mem_filter.mpr ⟨List.mem_of_getElem? (i := 1827) (by decide +kernel), by decide +kernel⟩, List.mem_filter.mpr ⟨List.mem_of_getElem? (i := 83) (by decide +kernel), by decide +kernel⟩, List.mem_filter.mpr ⟨List.mem_of_getElem? (i := 139) (by decide +kernel), by decide +kernel⟩, by decide +kernel⟩
theorem kM_RX11_300 : Cond.methodLink RX11 300 yX11_isBetween ∈ gT := List.mem_filter.mpr ⟨List.mem_of_getElem? (i := 1825) (by decide +kernel), by decide +kernel⟩
theorem dX11_areInSight_95 : decode cX11_areInSight 95 = .ok (.ifCond .ne 7, 3) := by decide +kernel
theorem dX11_areInSight_98 : decode cX11_areInSight 98 = .ok (.iconst 1, 1) := by decide +kernel
theorem dX11_areInSight_99 : decode cX11_areInSight 99 = .ok (.goto 4, 3) := by decide +kernel
theorem dX11_areInSight_26 : decode cX11_areInSight 26 = .ok (.aload_n 0, 1) := by decide +kernel
theorem dX11_areInSight_27 : decode cX11_areInSight 27 = .ok (.getfield 33, 3) := by decide +kernel
theorem dX11_areInSight_30 : decode cX11_areInSight 30 = .ok (.bipush 114, 2) := by decide +kernel
theorem dX11_areInSight_32 : decode cX11_areInSight 32 = .ok (.iload_n 1, 1) := by decide +kernel
theorem dX11_areInSight_33 : decode cX11_areInSight 33 = .ok (.iadd, 1) := by decide +kernel
theorem dX11_areInSight_34 : decode cX11_areInSight 34 = .ok (.iaload, 1) := by decide +kernel
theorem dX11_areInSight_35 : decode cX11_areInSight 35 = .ok (.aload_n 0, 1) := by decide +kernel
theorem dX11_areInSight_36 : decode cX11_areInSight 36 = .ok (.getfield 33, 3) := by decide +kernel
theorem dX11_areInSight_39 : decode cX11_areInSight 39 = .ok (.bipush 114, 2) := by decide +kernel
theorem dX11_areInSight_41 : decode cX11_areInSight 41 = .ok (.iload_n 2, 1) := by decide +kernel
theorem dX11_areInSight_42 : decode cX11_areInSight 42 = .ok (.iadd, 1) := by decide +kernel
theorem dX11_areInSight_43 : decode cX11_areInSight 43 = .ok (.iaload, 1) := by decide +kernel
theorem dX11_areInSight_44 : decode cX11_areInSight 44 = .ok (.if_icmp .eq 5, 3) := by decide +kernel
set_option maxHeartbeats 4000000 in
set_option maxRecDepth 100000 in
theorem b_y_isBook (l : Launch) (D : va_G) (cy : Nat → ClassId) (q : Nat) (a : Int32) (q_thrown : Int32) (q_tape_ : Nat) (q_length : Int32) (q_size : Int32) (q_p : Int32) (q_limit : Int32) (q_s_ : Nat) (q_h_ : Nat) (q_read_ : Nat) (q_names_ : Nat) (q_reserved_ : Nat) (q_token : Int32) (q_at : Int32) (q_span : Int32) (q_number : Int32) (q_fault : Int32) (q_faultAt : Int32) (q_word : Int64) (q_got : Int32) (q_lines : Int32) (q_onces : Int32) (q_webs : Int32) (q_one : Int32) (q_two : Int32) (q_seed : Int32) (q_undone_ : Nat) (q_before_ : Nat) (q_undoMany : Int32) (q_far_ : Nat) (q_wayRow_ : Nat) (q_wayMany : Int32) (q_keptRow_ : Nat) (q_askedRow_ : Nat) (q_rares_ : Nat) (q_trial_ : Nat) (q_keptMany : Int32) (q_askedMany : Int32) (q_hangs_ : Nat) (q_paths_ : Nat) (q_tornSteps : Int32) (q_hasTorn : Int32) (q_turnOne : Int32) (q_hasTurn : Int32) (q_text_ : Nat) (q_textMany : Int32) (q_toldMany : Int32) (q_toldAt_ : Nat) (q_hasTold : Int32) (q_stack_ : Nat) (q_codes : Int32) (q_ones : Int32) (q_top : Int32) (q_deep : Int32) (q_isWhole : Int32) (q_truths_ : Nat) (q_imaged_ : Nat) (q_namesKept_ : Nat) (q_areKept_ : Nat) (q_s : Nat → Int32) (hb0 : 0 ≤ q_length.toInt ∧ q_length.toInt ≤ 940) (hb1 : 0 ≤ q_size.toInt ∧ q_size.toInt ≤ 940) (hb2 : 0 ≤ q_p.toInt ∧ q_p.toInt ≤ 940) (hb3 : 0 ≤ q_limit.toInt ∧ q_limit.toInt ≤ 940) (hb4 : 0 ≤ q_span.toInt ∧ q_span.toInt ≤ 940) (hb5 : 0 ≤ q_number.toInt ∧ q_number.toInt ≤ 8214) (hb6 : (-1) ≤ q_got.toInt ∧ q_got.toInt ≤ 8214) (hb7 : 0 ≤ q_one.toInt ∧ q_one.toInt ≤ 7) (hb8 : 0 ≤ q_two.toInt ∧ q_two.toInt ≤ 7) (hb9 : 0 ≤ q_undoMany.toInt ∧ q_undoMany.toInt ≤ 8) (hb10 : (-1) ≤ q_wayMany.toInt ∧ q_wayMany.toInt ≤ 8) (hb11 : (-1) ≤ q_keptMany.toInt ∧ q_keptMany.toInt ≤ 8) (hb12 : (-1) ≤ q_askedMany.toInt ∧ q_askedMany.toInt ≤ 3) (hb13 : 0 ≤ q_hasTorn.toInt ∧ q_hasTorn.toInt ≤ 1) (hb14 : 0 ≤ q_hasTurn.toInt ∧ q_hasTurn.toInt ≤ 1) (hb15 : 0 ≤ q_textMany.toInt ∧ q_textMany.toInt ≤ 48) (hb16 : 0 ≤ q_toldMany.toInt ∧ q_toldMany.toInt ≤ 40) (hb17 : 0 ≤ q_hasTold.toInt ∧ q_hasTold.toInt ≤ 1) (hb18 : 0 ≤ q_codes.toInt ∧ q_codes.toInt ≤ 40) (hb19 : 0 ≤ q_ones.toInt ∧ q_ones.toInt ≤ 20) (hb20 : 0 ≤ q_top.toInt ∧ q_top.toInt ≤ 40) (hb21 : 0 ≤ q_isWhole.toInt ∧ q_isWhole.toInt ≤ 1) (hR0 : Rg q_s 0 1 0 8) (hR1 : Rg q_s 1 3 0 6) (hR2 : Rg q_s 3 4 1 50) (hR3 : Rg q_s 4 5 1 5) (hR4 : Rg q_s 103 104 0 255) (hR5 : Rg q_s 7 23 0 5) (hR6 : Rg q_s 106 122 0 5) (hR7 : Rg q_s 23 31 0 99) (hR8 : Rg q_s 122 130 0 99) {p : Program} {e : Env} {s : State} {m : MethodId} {args : Array Value} {below : List Frame} {meth : Method} {c : Code} {A : Nat → Prop} {Q : State → Prop} {cells slots : Nat} (hroom : cells ≤ ((Rm 1 22 0 0)).cells ∧ slots ≤ ((Rm 1 22 0 0)).slots) (C : Cx p s m args meth c cX11_isBook 2 (some .boolean) RX11 "isBook" D cy A) (hQ : Q = MQ below (va_Qi (fun (r : Int32) (u : Unit) => (0 ≤ r.toInt ∧ r.toInt ≤ 1) ∧ (r.toInt = 1 → a.toInt < (q_s 0).toInt) ∧ ((0 ≤ r.toInt + (-1)) → (0 ≤ a.toInt ∧ 0 ≤ (-1) * a.toInt + 7))) (Bx D A (fun u : Unit => [(q, oC11 q_thrown q_tape_ q_length q_size q_p q_limit q_s_ q_h_ q_read_ q_names_ q_reserved_ q_token q_at q_span q_number q_fault q_faultAt q_word q_got q_lines q_onces q_webs q_one q_two q_seed q_undone_ q_before_ q_undoMany q_far_ q_wayRow_ q_wayMany q_keptRow_ q_askedRow_ q_rares_ q_trial_ q_keptMany q_askedMany q_hangs_ q_paths_ q_tornSteps q_hasTorn q_turnOne q_hasTurn q_text_ q_textMany q_toldMany q_toldAt_ q_hasTold q_stack_ q_codes q_ones q_top q_deep q_isWhole q_truths_ q_imaged_ q_namesKept_ q_areKept_), (q_s_, aC1 cy 383 q_s)])) A) args s ((Rm 1 22 0 0)).cells ((Rm 1 22 0 0)).slots A) (H : Heap) (locs : List Loc) (ls : Array Slot) (hP : va_P D vwCl [(q, oC11 q_thrown q_tape_ q_length q_size q_p q_limit q_s_ q_h_ q_read_ q_names_ q_reserved_ q_token q_at q_span q_number q_fault q_faultAt q_word q_got q_lines q_onces q_webs q_one q_two q_seed q_undone_ q_before_ q_undoMany q_far_ q_wayRow_ q_wayMany q_keptRow_ q_askedRow_ q_rares_ q_trial_ q_keptMany q_askedMany q_hangs_ q_paths_ q_tornSteps q_hasTorn q_turnOne q_hasTurn q_text_ q_textMany q_toldMany q_toldAt_ q_hasTold q_stack_ q_codes q_ones q_top q_deep q_isWhole q_truths_ q_imaged_ q_namesKept_ q_areKept_), (q_s_, aC1 cy 383 q_s)] H) (hD : va_D A [(q, oC11 q_thrown q_tape_ q_length q_size q_p q_limit q_s_ q_h_ q_read_ q_names_ q_reserved_ q_token q_at q_span q_number q_fault q_faultAt q_word q_got q_lines q_onces q_webs q_one q_two q_seed q_undone_ q_before_ q_undoMany q_far_ q_wayRow_ q_wayMany q_keptRow_ q_askedRow_ q_rares_ q_trial_ q_keptMany q_askedMany q_hangs_ q_paths_ q_tornSteps q_hasTorn q_turnOne q_hasTurn q_text_ q_textMany q_toldMany q_toldAt_ q_hasTold q_stack_ q_codes q_ones q_top q_deep q_isWhole q_truths_ q_imaged_ q_namesKept_ q_areKept_), (q_s_, aC1 cy 383 q_s)]) (hS : va_S A s.heap H locs) (hl : lv_has ls 2 [(0, .ref q), (1, .int a)]) : W p l e (Rm 1 22 0 0) s m args below meth c H locs cells slots Q (F0 m 0 ls []) := by
  have hx := C.1
  have hb := C.2.1
  have hqa := o_rng a
  refine lv_iload_n hx hb dX11_isBook_0 rfl (lv_at hl 1 rfl) ?_
  refine lv_iconst (v := 0) hx hb dX11_isBook_1 (by decide) ?_
  refine lv_aload_n hx hb dX11_isBook_2 rfl (lv_at hl 0 rfl) ?_
  refine q_get11 (v := .ref q_s_) C hP 0 6 rfl fT_6 (by decide) kF_RX11_33 rfl dX11_isBook_3 ?_
  refine lv_iconst (v := 0) hx hb dX11_isBook_6 (by decide) ?_
  refine q_iald (v := q_s 0) C hP 1 rfl (vin (by decide +kernel)) rfl dX11_isBook_7 ?_
  refine lv_topi (fun z_1 ez_1 => ?_)
  have hz_1 : 0 ≤ z_1.toInt ∧ z_1.toInt ≤ 8 := (by rw [ez_1]; exact hR0 0 (by decide) (by decide))
  refine lv_iconst (v := 1) hx hb dX11_isBook_8 (by decide) ?_
  refine lv_isub hx hb dX11_isBook_9 ?_
  refine lv_topi (fun z_2 hz_2 => ?_)
  have hz_2 := o_sub hz_2 (rfl : z_1.toInt = z_1.toInt) (by decide : (1 : Int32).toInt = 1) (by omega) (by omega)
  refine q_ai (wr := [(q, oC11 q_thrown q_tape_ q_length q_size q_p q_limit q_s_ q_h_ q_read_ q_names_ q_reserved_ q_token q_at q_span q_number q_fault q_faultAt q_word q_got q_lines q_onces q_webs q_one q_two q_seed q_undone_ q_before_ q_undoMany q_far_ q_wayRow_ q_wayMany q_keptRow_ q_askedRow_ q_rares_ q_trial_ q_keptMany q_askedMany q_hangs_ q_paths_ q_tornSteps q_hasTorn q_turnOne q_hasTurn q_text_ q_textMany q_toldMany q_toldAt_ q_hasTold q_stack_ q_codes q_ones q_top q_deep q_isWhole q_truths_ q_imaged_ q_namesKept_ q_areKept_), (q_s_, aC1 cy 383 q_s)]) (r_S (rm := (Rm 0 0 0 0)) (As := [.int a, .int 0, .int z_2]) (rest := []) (wc := []) C hS (q_subP hP [] rfl) (hD.sub [] (by decide) rfl) (y_isIn l D cy a 0 z_2 _ ) kwS_X11_isIn kM_RX11_206 ⟨Nat.le_of_ble_eq_true rfl, Nat.le_of_ble_eq_true rfl⟩ rfl hl.1 rfl (Nat.le_of_ble_eq_true rfl) dX11_isBook_10 ⟨hroom.1, hroom.2⟩) C.2.2.2.2.2.2.1 hP hD hS [] [0, 1] rfl rfl (by decide) (by decide) (fun r_4 u_3 H locs hw_5 hP hD hS => ?_)
  have hp_5 : 0 ≤ r_4.toInt ∧ r_4.toInt ≤ 1 := hw_5.1
  have hp_6 : (0 ≤ r_4.toInt + (-1)) → (0 ≤ a.toInt ∧ 0 ≤ z_2.toInt + (-1) * a.toInt) := by have e0 : (0 : Int32).toInt = 0 := (by decide); have h0 : (0 ≤ r_4.toInt + (-1)) → (0 ≤ a.toInt + (-1) * (0 : Int32).toInt ∧ 0 ≤ z_2.toInt + (-1) * a.toInt) := hw_5.2.1; omega
  have hp_7 : (0 ≤ a.toInt ∧ 0 ≤ z_2.toInt + (-1) * a.toInt) → (0 ≤ r_4.toInt + (-1)) := by have e0 : (0 : Int32).toInt = 0 := (by decide); have h0 : (0 ≤ a.toInt + (-1) * (0 : Int32).toInt ∧ 0 ≤ z_2.toInt + (-1) * a.toInt) → (0 ≤ r_4.toInt + (-1)) := hw_5.2.2; omega
  clear hw_5
  refine o_wq hQ ?_
  exact q_iret (rm := (Rm 1 22 0 0)) C hS () (o_bool (rfl : r_4.toInt = r_4.toInt) (by omega) (by omega)).1 ⟨(show 0 ≤ r_4.toInt ∧ r_4.toInt ≤ 1 by omega), (show r_4.toInt = 1 → a.toInt < (q_s 0).toInt from (fun h9 => by rw [← ez_1]; omega)), (show (0 ≤ r_4.toInt + (-1)) → (0 ≤ a.toInt ∧ 0 ≤ (-1) * a.toInt + 7) by omega)⟩ (q_subP hP [0, 1] rfl) (hD.sub [0, 1] (by decide) rfl) hroom.1 hroom.2 dX11_isBook_13
theorem y_isBook (l : Launch) (D : va_G) (cy : Nat → ClassId) (q : Nat) (a : Int32) (q_thrown : Int32) (q_tape_ : Nat) (q_length : Int32) (q_size : Int32) (q_p : Int32) (q_limit : Int32) (q_s_ : Nat) (q_h_ : Nat) (q_read_ : Nat) (q_names_ : Nat) (q_reserved_ : Nat) (q_token : Int32) (q_at : Int32) (q_span : Int32) (q_number : Int32) (q_fault : Int32) (q_faultAt : Int32) (q_word : Int64) (q_got : Int32) (q_lines : Int32) (q_onces : Int32) (q_webs : Int32) (q_one : Int32) (q_two : Int32) (q_seed : Int32) (q_undone_ : Nat) (q_before_ : Nat) (q_undoMany : Int32) (q_far_ : Nat) (q_wayRow_ : Nat) (q_wayMany : Int32) (q_keptRow_ : Nat) (q_askedRow_ : Nat) (q_rares_ : Nat) (q_trial_ : Nat) (q_keptMany : Int32) (q_askedMany : Int32) (q_hangs_ : Nat) (q_paths_ : Nat) (q_tornSteps : Int32) (q_hasTorn : Int32) (q_turnOne : Int32) (q_hasTurn : Int32) (q_text_ : Nat) (q_textMany : Int32) (q_toldMany : Int32) (q_toldAt_ : Nat) (q_hasTold : Int32) (q_stack_ : Nat) (q_codes : Int32) (q_ones : Int32) (q_top : Int32) (q_deep : Int32) (q_isWhole : Int32) (q_truths_ : Nat) (q_imaged_ : Nat) (q_namesKept_ : Nat) (q_areKept_ : Nat) (q_s : Nat → Int32) (sz : Nat) (hb0 : 0 ≤ q_length.toInt ∧ q_length.toInt ≤ 940) (hb1 : 0 ≤ q_size.toInt ∧ q_size.toInt ≤ 940) (hb2 : 0 ≤ q_p.toInt ∧ q_p.toInt ≤ 940) (hb3 : 0 ≤ q_limit.toInt ∧ q_limit.toInt ≤ 940) (hb4 : 0 ≤ q_span.toInt ∧ q_span.toInt ≤ 940) (hb5 : 0 ≤ q_number.toInt ∧ q_number.toInt ≤ 8214) (hb6 : (-1) ≤ q_got.toInt ∧ q_got.toInt ≤ 8214) (hb7 : 0 ≤ q_one.toInt ∧ q_one.toInt ≤ 7) (hb8 : 0 ≤ q_two.toInt ∧ q_two.toInt ≤ 7) (hb9 : 0 ≤ q_undoMany.toInt ∧ q_undoMany.toInt ≤ 8) (hb10 : (-1) ≤ q_wayMany.toInt ∧ q_wayMany.toInt ≤ 8) (hb11 : (-1) ≤ q_keptMany.toInt ∧ q_keptMany.toInt ≤ 8) (hb12 : (-1) ≤ q_askedMany.toInt ∧ q_askedMany.toInt ≤ 3) (hb13 : 0 ≤ q_hasTorn.toInt ∧ q_hasTorn.toInt ≤ 1) (hb14 : 0 ≤ q_hasTurn.toInt ∧ q_hasTurn.toInt ≤ 1) (hb15 : 0 ≤ q_textMany.toInt ∧ q_textMany.toInt ≤ 48) (hb16 : 0 ≤ q_toldMany.toInt ∧ q_toldMany.toInt ≤ 40) (hb17 : 0 ≤ q_hasTold.toInt ∧ q_hasTold.toInt ≤ 1) (hb18 : 0 ≤ q_codes.toInt ∧ q_codes.toInt ≤ 40) (hb19 : 0 ≤ q_ones.toInt ∧ q_ones.toInt ≤ 20) (hb20 : 0 ≤ q_top.toInt ∧ q_top.toInt ≤ 40) (hb21 : 0 ≤ q_isWhole.toInt ∧ q_isWhole.toInt ≤ 1) (hR0 : Rg q_s 0 1 0 8) (hR1 : Rg q_s 1 3 0 6) (hR2 : Rg q_s 3 4 1 50) (hR3 : Rg q_s 4 5 1 5) (hR4 : Rg q_s 103 104 0 255) (hR5 : Rg q_s 7 23 0 5) (hR6 : Rg q_s 106 122 0 5) (hR7 : Rg q_s 23 31 0 99) (hR8 : Rg q_s 122 130 0 99) : MI l yX11_isBook cX11_isBook 2 (some .boolean) (Rm 1 22 0 0) D cy [.ref q, .int a] sz [(q, oC11 q_thrown q_tape_ q_length q_size q_p q_limit q_s_ q_h_ q_read_ q_names_ q_reserved_ q_token q_at q_span q_number q_fault q_faultAt q_word q_got q_lines q_onces q_webs q_one q_two q_seed q_undone_ q_before_ q_undoMany q_far_ q_wayRow_ q_wayMany q_keptRow_ q_askedRow_ q_rares_ q_trial_ q_keptMany q_askedMany q_hangs_ q_paths_ q_tornSteps q_hasTorn q_turnOne q_hasTurn q_text_ q_textMany q_toldMany q_toldAt_ q_hasTold q_stack_ q_codes q_ones q_top q_deep q_isWhole q_truths_ q_imaged_ q_namesKept_ q_areKept_), (q_s_, aC1 cy 383 q_s)] (fun (r : Int32) (u : Unit) => (0 ≤ r.toInt ∧ r.toInt ≤ 1) ∧ (r.toInt = 1 → a.toInt < (q_s 0).toInt) ∧ ((0 ≤ r.toInt + (-1)) → (0 ≤ a.toInt ∧ 0 ≤ (-1) * a.toInt + 7))) (fun u : Unit => [(q, oC11 q_thrown q_tape_ q_length q_size q_p q_limit q_s_ q_h_ q_read_ q_names_ q_reserved_ q_token q_at q_span q_number q_fault q_faultAt q_word q_got q_lines q_onces q_webs q_one q_two q_seed q_undone_ q_before_ q_undoMany q_far_ q_wayRow_ q_wayMany q_keptRow_ q_askedRow_ q_rares_ q_trial_ q_keptMany q_askedMany q_hangs_ q_paths_ q_tornSteps q_hasTorn q_turnOne q_hasTurn q_text_ q_textMany q_toldMany q_toldAt_ q_hasTold q_stack_ q_codes q_ones q_top q_deep q_isWhole q_truths_ q_imaged_ q_namesKept_ q_areKept_), (q_s_, aC1 cy 383 q_s)]) := by
  refine MI.enter (by decide) (Nat.le_of_ble_eq_true rfl) ?_
  intro p e s m below meth c ls A hsz hAe C hP hD hS hl
  exact b_y_isBook l D cy q a q_thrown q_tape_ q_length q_size q_p q_limit q_s_ q_h_ q_read_ q_names_ q_reserved_ q_token q_at q_span q_number q_fault q_faultAt q_word q_got q_lines q_onces q_webs q_one q_two q_seed q_undone_ q_before_ q_undoMany q_far_ q_wayRow_ q_wayMany q_keptRow_ q_askedRow_ q_rares_ q_trial_ q_keptMany q_askedMany q_hangs_ q_paths_ q_tornSteps q_hasTorn q_turnOne q_hasTurn q_text_ q_textMany q_toldMany q_toldAt_ q_hasTold q_stack_ q_codes q_ones q_top q_deep q_isWhole q_truths_ q_imaged_ q_namesKept_ q_areKept_ q_s hb0 hb1 hb2 hb3 hb4 hb5 hb6 hb7 hb8 hb9 hb10 hb11 hb12 hb13 hb14 hb15 hb16 hb17 hb18 hb19 hb20 hb21 hR0 hR1 hR2 hR3 hR4 hR5 hR6 hR7 hR8 ⟨Nat.le_of_ble_eq_true rfl, Nat.le_of_ble_eq_true rfl⟩ C rfl _ _ ls hP hD hS hl
set_option maxHeartbeats 4000000 in
set_option maxRecDepth 100000 in
theorem b_y_isCell (l : Launch) (D : va_G) (cy : Nat → ClassId) (q : Nat) (a : Int32) (b : Int32) (q_thrown : Int32) (q_tape_ : Nat) (q_length : Int32) (q_size : Int32) (q_p : Int32) (q_limit : Int32) (q_s_ : Nat) (q_h_ : Nat) (q_read_ : Nat) (q_names_ : Nat) (q_reserved_ : Nat) (q_token : Int32) (q_at : Int32) (q_span : Int32) (q_number : Int32) (q_fault : Int32) (q_faultAt : Int32) (q_word : Int64) (q_got : Int32) (q_lines : Int32) (q_onces : Int32) (q_webs : Int32) (q_one : Int32) (q_two : Int32) (q_seed : Int32) (q_undone_ : Nat) (q_before_ : Nat) (q_undoMany : Int32) (q_far_ : Nat) (q_wayRow_ : Nat) (q_wayMany : Int32) (q_keptRow_ : Nat) (q_askedRow_ : Nat) (q_rares_ : Nat) (q_trial_ : Nat) (q_keptMany : Int32) (q_askedMany : Int32) (q_hangs_ : Nat) (q_paths_ : Nat) (q_tornSteps : Int32) (q_hasTorn : Int32) (q_turnOne : Int32) (q_hasTurn : Int32) (q_text_ : Nat) (q_textMany : Int32) (q_toldMany : Int32) (q_toldAt_ : Nat) (q_hasTold : Int32) (q_stack_ : Nat) (q_codes : Int32) (q_ones : Int32) (q_top : Int32) (q_deep : Int32) (q_isWhole : Int32) (q_truths_ : Nat) (q_imaged_ : Nat) (q_namesKept_ : Nat) (q_areKept_ : Nat) (q_s : Nat → Int32) (hb0 : 0 ≤ q_length.toInt ∧ q_length.toInt ≤ 940) (hb1 : 0 ≤ q_size.toInt ∧ q_size.toInt ≤ 940) (hb2 : 0 ≤ q_p.toInt ∧ q_p.toInt ≤ 940) (hb3 : 0 ≤ q_limit.toInt ∧ q_limit.toInt ≤ 940) (hb4 : 0 ≤ q_span.toInt ∧ q_span.toInt ≤ 940) (hb5 : 0 ≤ q_number.toInt ∧ q_number.toInt ≤ 8214) (hb6 : (-1) ≤ q_got.toInt ∧ q_got.toInt ≤ 8214) (hb7 : 0 ≤ q_one.toInt ∧ q_one.toInt ≤ 7) (hb8 : 0 ≤ q_two.toInt ∧ q_two.toInt ≤ 7) (hb9 : 0 ≤ q_undoMany.toInt ∧ q_undoMany.toInt ≤ 8) (hb10 : (-1) ≤ q_wayMany.toInt ∧ q_wayMany.toInt ≤ 8) (hb11 : (-1) ≤ q_keptMany.toInt ∧ q_keptMany.toInt ≤ 8) (hb12 : (-1) ≤ q_askedMany.toInt ∧ q_askedMany.toInt ≤ 3) (hb13 : 0 ≤ q_hasTorn.toInt ∧ q_hasTorn.toInt ≤ 1) (hb14 : 0 ≤ q_hasTurn.toInt ∧ q_hasTurn.toInt ≤ 1) (hb15 : 0 ≤ q_textMany.toInt ∧ q_textMany.toInt ≤ 48) (hb16 : 0 ≤ q_toldMany.toInt ∧ q_toldMany.toInt ≤ 40) (hb17 : 0 ≤ q_hasTold.toInt ∧ q_hasTold.toInt ≤ 1) (hb18 : 0 ≤ q_codes.toInt ∧ q_codes.toInt ≤ 40) (hb19 : 0 ≤ q_ones.toInt ∧ q_ones.toInt ≤ 20) (hb20 : 0 ≤ q_top.toInt ∧ q_top.toInt ≤ 40) (hb21 : 0 ≤ q_isWhole.toInt ∧ q_isWhole.toInt ≤ 1) (hR0 : Rg q_s 0 1 0 8) (hR1 : Rg q_s 1 3 0 6) (hR2 : Rg q_s 3 4 1 50) (hR3 : Rg q_s 4 5 1 5) (hR4 : Rg q_s 103 104 0 255) (hR5 : Rg q_s 7 23 0 5) (hR6 : Rg q_s 106 122 0 5) (hR7 : Rg q_s 23 31 0 99) (hR8 : Rg q_s 122 130 0 99) {p : Program} {e : Env} {s : State} {m : MethodId} {args : Array Value} {below : List Frame} {meth : Method} {c : Code} {A : Nat → Prop} {Q : State → Prop} {cells slots : Nat} (hroom : cells ≤ ((Rm 1 22 0 0)).cells ∧ slots ≤ ((Rm 1 22 0 0)).slots) (C : Cx p s m args meth c cX11_isCell 3 (some .boolean) RX11 "isCell" D cy A) (hQ : Q = MQ below (va_Qi (fun (r : Int32) (u : Unit) => (0 ≤ r.toInt ∧ r.toInt ≤ 1) ∧ ((0 ≤ r.toInt + (-1)) → (0 ≤ a.toInt ∧ 0 ≤ (-1) * a.toInt + 5 ∧ 0 ≤ b.toInt ∧ 0 ≤ (-1) * b.toInt + 5))) (Bx D A (fun u : Unit => [(q, oC11 q_thrown q_tape_ q_length q_size q_p q_limit q_s_ q_h_ q_read_ q_names_ q_reserved_ q_token q_at q_span q_number q_fault q_faultAt q_word q_got q_lines q_onces q_webs q_one q_two q_seed q_undone_ q_before_ q_undoMany q_far_ q_wayRow_ q_wayMany q_keptRow_ q_askedRow_ q_rares_ q_trial_ q_keptMany q_askedMany q_hangs_ q_paths_ q_tornSteps q_hasTorn q_turnOne q_hasTurn q_text_ q_textMany q_toldMany q_toldAt_ q_hasTold q_stack_ q_codes q_ones q_top q_deep q_isWhole q_truths_ q_imaged_ q_namesKept_ q_areKept_), (q_s_, aC1 cy 383 q_s)])) A) args s ((Rm 1 22 0 0)).cells ((Rm 1 22 0 0)).slots A) (H : Heap) (locs : List Loc) (ls : Array Slot) (hP : va_P D vwCl [(q, oC11 q_thrown q_tape_ q_length q_size q_p q_limit q_s_ q_h_ q_read_ q_names_ q_reserved_ q_token q_at q_span q_number q_fault q_faultAt q_word q_got q_lines q_onces q_webs q_one q_two q_seed q_undone_ q_before_ q_undoMany q_far_ q_wayRow_ q_wayMany q_keptRow_ q_askedRow_ q_rares_ q_trial_ q_keptMany q_askedMany q_hangs_ q_paths_ q_tornSteps q_hasTorn q_turnOne q_hasTurn q_text_ q_textMany q_toldMany q_toldAt_ q_hasTold q_stack_ q_codes q_ones q_top q_deep q_isWhole q_truths_ q_imaged_ q_namesKept_ q_areKept_), (q_s_, aC1 cy 383 q_s)] H) (hD : va_D A [(q, oC11 q_thrown q_tape_ q_length q_size q_p q_limit q_s_ q_h_ q_read_ q_names_ q_reserved_ q_token q_at q_span q_number q_fault q_faultAt q_word q_got q_lines q_onces q_webs q_one q_two q_seed q_undone_ q_before_ q_undoMany q_far_ q_wayRow_ q_wayMany q_keptRow_ q_askedRow_ q_rares_ q_trial_ q_keptMany q_askedMany q_hangs_ q_paths_ q_tornSteps q_hasTorn q_turnOne q_hasTurn q_text_ q_textMany q_toldMany q_toldAt_ q_hasTold q_stack_ q_codes q_ones q_top q_deep q_isWhole q_truths_ q_imaged_ q_namesKept_ q_areKept_), (q_s_, aC1 cy 383 q_s)]) (hS : va_S A s.heap H locs) (hl : lv_has ls 3 [(0, .ref q), (1, .int a), (2, .int b)]) : W p l e (Rm 1 22 0 0) s m args below meth c H locs cells slots Q (F0 m 0 ls []) := by
  have hx := C.1
  have hb := C.2.1
  have hqa := o_rng a
  have hqb := o_rng b
  refine lv_iload_n hx hb dX11_isCell_0 rfl (lv_at hl 1 rfl) ?_
  refine lv_iconst (v := 0) hx hb dX11_isCell_1 (by decide) ?_
  refine lv_aload_n hx hb dX11_isCell_2 rfl (lv_at hl 0 rfl) ?_
  refine q_get11 (v := .ref q_s_) C hP 0 6 rfl fT_6 (by decide) kF_RX11_33 rfl dX11_isCell_3 ?_
  refine lv_iconst (v := 1) hx hb dX11_isCell_6 (by decide) ?_
  refine q_iald (v := q_s 1) C hP 1 rfl (vin (by decide +kernel)) rfl dX11_isCell_7 ?_
  refine lv_topi (fun z_1 ez_1 => ?_)
  have hz_1 : 0 ≤ z_1.toInt ∧ z_1.toInt ≤ 6 := (by rw [ez_1]; exact hR1 1 (by decide) (by decide))
  refine lv_iconst (v := 1) hx hb dX11_isCell_8 (by decide) ?_
  refine lv_isub hx hb dX11_isCell_9 ?_
  refine lv_topi (fun z_2 hz_2 => ?_)
  have hz_2 := o_sub hz_2 (rfl : z_1.toInt = z_1.toInt) (by decide : (1 : Int32).toInt = 1) (by omega) (by omega)
  refine q_ai (wr := [(q, oC11 q_thrown q_tape_ q_length q_size q_p q_limit q_s_ q_h_ q_read_ q_names_ q_reserved_ q_token q_at q_span q_number q_fault q_faultAt q_word q_got q_lines q_onces q_webs q_one q_two q_seed q_undone_ q_before_ q_undoMany q_far_ q_wayRow_ q_wayMany q_keptRow_ q_askedRow_ q_rares_ q_trial_ q_keptMany q_askedMany q_hangs_ q_paths_ q_tornSteps q_hasTorn q_turnOne q_hasTurn q_text_ q_textMany q_toldMany q_toldAt_ q_hasTold q_stack_ q_codes q_ones q_top q_deep q_isWhole q_truths_ q_imaged_ q_namesKept_ q_areKept_), (q_s_, aC1 cy 383 q_s)]) (r_S (rm := (Rm 0 0 0 0)) (As := [.int a, .int 0, .int z_2]) (rest := []) (wc := []) C hS (q_subP hP [] rfl) (hD.sub [] (by decide) rfl) (y_isIn l D cy a 0 z_2 _ ) kwS_X11_isIn kM_RX11_206 ⟨Nat.le_of_ble_eq_true rfl, Nat.le_of_ble_eq_true rfl⟩ rfl hl.1 rfl (Nat.le_of_ble_eq_true rfl) dX11_isCell_10 ⟨hroom.1, hroom.2⟩) C.2.2.2.2.2.2.1 hP hD hS [] [0, 1] rfl rfl (by decide) (by decide) (fun r_4 u_3 H locs hw_5 hP hD hS => ?_)
  have hp_5 : 0 ≤ r_4.toInt ∧ r_4.toInt ≤ 1 := hw_5.1
  have hp_6 : (0 ≤ r_4.toInt + (-1)) → (0 ≤ a.toInt ∧ 0 ≤ z_2.toInt + (-1) * a.toInt) := by have e0 : (0 : Int32).toInt = 0 := (by decide); have h0 : (0 ≤ r_4.toInt + (-1)) → (0 ≤ a.toInt + (-1) * (0 : Int32).toInt ∧ 0 ≤ z_2.toInt + (-1) * a.toInt) := hw_5.2.1; omega
  have hp_7 : (0 ≤ a.toInt ∧ 0 ≤ z_2.toInt + (-1) * a.toInt) → (0 ≤ r_4.toInt + (-1)) := by have e0 : (0 : Int32).toInt = 0 := (by decide); have h0 : (0 ≤ a.toInt + (-1) * (0 : Int32).toInt ∧ 0 ≤ z_2.toInt + (-1) * a.toInt) → (0 ≤ r_4.toInt + (-1)) := hw_5.2.2; omega
  clear hw_5
  refine lv_if_eq (tgt := 36) hx hb dX11_isCell_13 (by decide) (fun c_9 => ?_) (fun c_9 => ?_)
  · have hc_9 := o_eq (rfl : r_4.toInt = r_4.toInt) (by decide : (0 : Int32).toInt = 0) c_9
    clear hp_6
    refine lv_iconst (v := 0) hx hb dX11_isCell_36 (by decide) ?_
    refine o_wq hQ ?_
    exact q_iret (rm := (Rm 1 22 0 0)) C hS () rfl ⟨(show 0 ≤ (0 : Int32).toInt ∧ (0 : Int32).toInt ≤ 1 by decide), (show (0 ≤ (0 : Int32).toInt + (-1)) → (0 ≤ a.toInt ∧ 0 ≤ (-1) * a.toInt + 5 ∧ 0 ≤ b.toInt ∧ 0 ≤ (-1) * b.toInt + 5) by have e0 : (0 : Int32).toInt = 0 := (by decide); omega)⟩ (q_subP hP [0, 1] rfl) (hD.sub [0, 1] (by decide) rfl) hroom.1 hroom.2 dX11_isCell_37
  · have hc_9 := o_ne (rfl : r_4.toInt = r_4.toInt) (by decide : (0 : Int32).toInt = 0) c_9
    have hnc_9 : 0 ≤ r_4.toInt + (-1) := by rcases Int.lt_or_gt_of_ne hc_9 with h9 | h9 <;> omega
    have hp_6 := hp_6 (by omega)
    have hp_7 := hp_7 (by omega)
    refine lv_iload_n hx hb dX11_isCell_16 rfl (lv_at hl 2 rfl) ?_
    refine lv_iconst (v := 0) hx hb dX11_isCell_17 (by decide) ?_
    refine lv_aload_n hx hb dX11_isCell_18 rfl (lv_at hl 0 rfl) ?_
    refine q_get11 (v := .ref q_s_) C hP 0 6 rfl fT_6 (by decide) kF_RX11_33 rfl dX11_isCell_19 ?_
    refine lv_iconst (v := 2) hx hb dX11_isCell_22 (by decide) ?_
    refine q_iald (v := q_s 2) C hP 1 rfl (vin (by decide +kernel)) rfl dX11_isCell_23 ?_
    refine lv_topi (fun z_10 ez_10 => ?_)
    have hz_10 : 0 ≤ z_10.toInt ∧ z_10.toInt ≤ 6 := (by rw [ez_10]; exact hR1 2 (by decide) (by decide))
    refine lv_iconst (v := 1) hx hb dX11_isCell_24 (by decide) ?_
    refine lv_isub hx hb dX11_isCell_25 ?_
    refine lv_topi (fun z_11 hz_11 => ?_)
    have hz_11 := o_sub hz_11 (rfl : z_10.toInt = z_10.toInt) (by decide : (1 : Int32).toInt = 1) (by omega) (by omega)
    refine q_ai (wr := [(q, oC11 q_thrown q_tape_ q_length q_size q_p q_limit q_s_ q_h_ q_read_ q_names_ q_reserved_ q_token q_at q_span q_number q_fault q_faultAt q_word q_got q_lines q_onces q_webs q_one q_two q_seed q_undone_ q_before_ q_undoMany q_far_ q_wayRow_ q_wayMany q_keptRow_ q_askedRow_ q_rares_ q_trial_ q_keptMany q_askedMany q_hangs_ q_paths_ q_tornSteps q_hasTorn q_turnOne q_hasTurn q_text_ q_textMany q_toldMany q_toldAt_ q_hasTold q_stack_ q_codes q_ones q_top q_deep q_isWhole q_truths_ q_imaged_ q_namesKept_ q_areKept_), (q_s_, aC1 cy 383 q_s)]) (r_S (rm := (Rm 0 0 0 0)) (As := [.int b, .int 0, .int z_11]) (rest := []) (wc := []) C hS (q_subP hP [] rfl) (hD.sub [] (by decide) rfl) (y_isIn l D cy b 0 z_11 _ ) kwS_X11_isIn kM_RX11_206 ⟨Nat.le_of_ble_eq_true rfl, Nat.le_of_ble_eq_true rfl⟩ rfl hl.1 rfl (Nat.le_of_ble_eq_true rfl) dX11_isCell_26 ⟨hroom.1, hroom.2⟩) C.2.2.2.2.2.2.1 hP hD hS [] [0, 1] rfl rfl (by decide) (by decide) (fun r_13 u_12 H locs hw_14 hP hD hS => ?_)
    have hp_14 : 0 ≤ r_13.toInt ∧ r_13.toInt ≤ 1 := hw_14.1
    have hp_15 : (0 ≤ r_13.toInt + (-1)) → (0 ≤ b.toInt ∧ 0 ≤ z_11.toInt + (-1) * b.toInt) := by have e0 : (0 : Int32).toInt = 0 := (by decide); have h0 : (0 ≤ r_13.toInt + (-1)) → (0 ≤ b.toInt + (-1) * (0 : Int32).toInt ∧ 0 ≤ z_11.toInt + (-1) * b.toInt) := hw_14.2.1; omega
    have hp_16 : (0 ≤ b.toInt ∧ 0 ≤ z_11.toInt + (-1) * b.toInt) → (0 ≤ r_13.toInt + (-1)) := by have e0 : (0 : Int32).toInt = 0 := (by decide); have h0 : (0 ≤ b.toInt + (-1) * (0 : Int32).toInt ∧ 0 ≤ z_11.toInt + (-1) * b.toInt) → (0 ≤ r_13.toInt + (-1)) := hw_14.2.2; omega
    clear hw_14
    refine lv_if_eq (tgt := 36) hx hb dX11_isCell_29 (by decide) (fun c_18 => ?_) (fun c_18 => ?_)
    · have hc_18 := o_eq (rfl : r_13.toInt = r_13.toInt) (by decide : (0 : Int32).toInt = 0) c_18
      clear hp_15
      refine lv_iconst (v := 0) hx hb dX11_isCell_36 (by decide) ?_
      refine o_wq hQ ?_
      exact q_iret (rm := (Rm 1 22 0 0)) C hS () rfl ⟨(show 0 ≤ (0 : Int32).toInt ∧ (0 : Int32).toInt ≤ 1 by decide), (show (0 ≤ (0 : Int32).toInt + (-1)) → (0 ≤ a.toInt ∧ 0 ≤ (-1) * a.toInt + 5 ∧ 0 ≤ b.toInt ∧ 0 ≤ (-1) * b.toInt + 5) by have e0 : (0 : Int32).toInt = 0 := (by decide); omega)⟩ (q_subP hP [0, 1] rfl) (hD.sub [0, 1] (by decide) rfl) hroom.1 hroom.2 dX11_isCell_37
    · have hc_18 := o_ne (rfl : r_13.toInt = r_13.toInt) (by decide : (0 : Int32).toInt = 0) c_18
      have hnc_18 : 0 ≤ r_13.toInt + (-1) := by rcases Int.lt_or_gt_of_ne hc_18 with h9 | h9 <;> omega
      have hp_15 := hp_15 (by omega)
      have hp_16 := hp_16 (by omega)
      refine lv_iconst (v := 1) hx hb dX11_isCell_32 (by decide) ?_
      refine lv_goto (tgt := 37) hx hb dX11_isCell_33 (by decide) ?_
      refine o_wq hQ ?_
      exact q_iret (rm := (Rm 1 22 0 0)) C hS () rfl ⟨(show 0 ≤ (1 : Int32).toInt ∧ (1 : Int32).toInt ≤ 1 by decide), (show (0 ≤ (1 : Int32).toInt + (-1)) → (0 ≤ a.toInt ∧ 0 ≤ (-1) * a.toInt + 5 ∧ 0 ≤ b.toInt ∧ 0 ≤ (-1) * b.toInt + 5) by have e0 : (1 : Int32).toInt = 1 := (by decide); omega)⟩ (q_subP hP [0, 1] rfl) (hD.sub [0, 1] (by decide) rfl) hroom.1 hroom.2 dX11_isCell_37
theorem y_isCell (l : Launch) (D : va_G) (cy : Nat → ClassId) (q : Nat) (a : Int32) (b : Int32) (q_thrown : Int32) (q_tape_ : Nat) (q_length : Int32) (q_size : Int32) (q_p : Int32) (q_limit : Int32) (q_s_ : Nat) (q_h_ : Nat) (q_read_ : Nat) (q_names_ : Nat) (q_reserved_ : Nat) (q_token : Int32) (q_at : Int32) (q_span : Int32) (q_number : Int32) (q_fault : Int32) (q_faultAt : Int32) (q_word : Int64) (q_got : Int32) (q_lines : Int32) (q_onces : Int32) (q_webs : Int32) (q_one : Int32) (q_two : Int32) (q_seed : Int32) (q_undone_ : Nat) (q_before_ : Nat) (q_undoMany : Int32) (q_far_ : Nat) (q_wayRow_ : Nat) (q_wayMany : Int32) (q_keptRow_ : Nat) (q_askedRow_ : Nat) (q_rares_ : Nat) (q_trial_ : Nat) (q_keptMany : Int32) (q_askedMany : Int32) (q_hangs_ : Nat) (q_paths_ : Nat) (q_tornSteps : Int32) (q_hasTorn : Int32) (q_turnOne : Int32) (q_hasTurn : Int32) (q_text_ : Nat) (q_textMany : Int32) (q_toldMany : Int32) (q_toldAt_ : Nat) (q_hasTold : Int32) (q_stack_ : Nat) (q_codes : Int32) (q_ones : Int32) (q_top : Int32) (q_deep : Int32) (q_isWhole : Int32) (q_truths_ : Nat) (q_imaged_ : Nat) (q_namesKept_ : Nat) (q_areKept_ : Nat) (q_s : Nat → Int32) (sz : Nat) (hb0 : 0 ≤ q_length.toInt ∧ q_length.toInt ≤ 940) (hb1 : 0 ≤ q_size.toInt ∧ q_size.toInt ≤ 940) (hb2 : 0 ≤ q_p.toInt ∧ q_p.toInt ≤ 940) (hb3 : 0 ≤ q_limit.toInt ∧ q_limit.toInt ≤ 940) (hb4 : 0 ≤ q_span.toInt ∧ q_span.toInt ≤ 940) (hb5 : 0 ≤ q_number.toInt ∧ q_number.toInt ≤ 8214) (hb6 : (-1) ≤ q_got.toInt ∧ q_got.toInt ≤ 8214) (hb7 : 0 ≤ q_one.toInt ∧ q_one.toInt ≤ 7) (hb8 : 0 ≤ q_two.toInt ∧ q_two.toInt ≤ 7) (hb9 : 0 ≤ q_undoMany.toInt ∧ q_undoMany.toInt ≤ 8) (hb10 : (-1) ≤ q_wayMany.toInt ∧ q_wayMany.toInt ≤ 8) (hb11 : (-1) ≤ q_keptMany.toInt ∧ q_keptMany.toInt ≤ 8) (hb12 : (-1) ≤ q_askedMany.toInt ∧ q_askedMany.toInt ≤ 3) (hb13 : 0 ≤ q_hasTorn.toInt ∧ q_hasTorn.toInt ≤ 1) (hb14 : 0 ≤ q_hasTurn.toInt ∧ q_hasTurn.toInt ≤ 1) (hb15 : 0 ≤ q_textMany.toInt ∧ q_textMany.toInt ≤ 48) (hb16 : 0 ≤ q_toldMany.toInt ∧ q_toldMany.toInt ≤ 40) (hb17 : 0 ≤ q_hasTold.toInt ∧ q_hasTold.toInt ≤ 1) (hb18 : 0 ≤ q_codes.toInt ∧ q_codes.toInt ≤ 40) (hb19 : 0 ≤ q_ones.toInt ∧ q_ones.toInt ≤ 20) (hb20 : 0 ≤ q_top.toInt ∧ q_top.toInt ≤ 40) (hb21 : 0 ≤ q_isWhole.toInt ∧ q_isWhole.toInt ≤ 1) (hR0 : Rg q_s 0 1 0 8) (hR1 : Rg q_s 1 3 0 6) (hR2 : Rg q_s 3 4 1 50) (hR3 : Rg q_s 4 5 1 5) (hR4 : Rg q_s 103 104 0 255) (hR5 : Rg q_s 7 23 0 5) (hR6 : Rg q_s 106 122 0 5) (hR7 : Rg q_s 23 31 0 99) (hR8 : Rg q_s 122 130 0 99) : MI l yX11_isCell cX11_isCell 3 (some .boolean) (Rm 1 22 0 0) D cy [.ref q, .int a, .int b] sz [(q, oC11 q_thrown q_tape_ q_length q_size q_p q_limit q_s_ q_h_ q_read_ q_names_ q_reserved_ q_token q_at q_span q_number q_fault q_faultAt q_word q_got q_lines q_onces q_webs q_one q_two q_seed q_undone_ q_before_ q_undoMany q_far_ q_wayRow_ q_wayMany q_keptRow_ q_askedRow_ q_rares_ q_trial_ q_keptMany q_askedMany q_hangs_ q_paths_ q_tornSteps q_hasTorn q_turnOne q_hasTurn q_text_ q_textMany q_toldMany q_toldAt_ q_hasTold q_stack_ q_codes q_ones q_top q_deep q_isWhole q_truths_ q_imaged_ q_namesKept_ q_areKept_), (q_s_, aC1 cy 383 q_s)] (fun (r : Int32) (u : Unit) => (0 ≤ r.toInt ∧ r.toInt ≤ 1) ∧ ((0 ≤ r.toInt + (-1)) → (0 ≤ a.toInt ∧ 0 ≤ (-1) * a.toInt + 5 ∧ 0 ≤ b.toInt ∧ 0 ≤ (-1) * b.toInt + 5))) (fun u : Unit => [(q, oC11 q_thrown q_tape_ q_length q_size q_p q_limit q_s_ q_h_ q_read_ q_names_ q_reserved_ q_token q_at q_span q_number q_fault q_faultAt q_word q_got q_lines q_onces q_webs q_one q_two q_seed q_undone_ q_before_ q_undoMany q_far_ q_wayRow_ q_wayMany q_keptRow_ q_askedRow_ q_rares_ q_trial_ q_keptMany q_askedMany q_hangs_ q_paths_ q_tornSteps q_hasTorn q_turnOne q_hasTurn q_text_ q_textMany q_toldMany q_toldAt_ q_hasTold q_stack_ q_codes q_ones q_top q_deep q_isWhole q_truths_ q_imaged_ q_namesKept_ q_areKept_), (q_s_, aC1 cy 383 q_s)]) := by
  refine MI.enter (by decide) (Nat.le_of_ble_eq_true rfl) ?_
  intro p e s m below meth c ls A hsz hAe C hP hD hS hl
  exact b_y_isCell l D cy q a b q_thrown q_tape_ q_length q_size q_p q_limit q_s_ q_h_ q_read_ q_names_ q_reserved_ q_token q_at q_span q_number q_fault q_faultAt q_word q_got q_lines q_onces q_webs q_one q_two q_seed q_undone_ q_before_ q_undoMany q_far_ q_wayRow_ q_wayMany q_keptRow_ q_askedRow_ q_rares_ q_trial_ q_keptMany q_askedMany q_hangs_ q_paths_ q_tornSteps q_hasTorn q_turnOne q_hasTurn q_text_ q_textMany q_toldMany q_toldAt_ q_hasTold q_stack_ q_codes q_ones q_top q_deep q_isWhole q_truths_ q_imaged_ q_namesKept_ q_areKept_ q_s hb0 hb1 hb2 hb3 hb4 hb5 hb6 hb7 hb8 hb9 hb10 hb11 hb12 hb13 hb14 hb15 hb16 hb17 hb18 hb19 hb20 hb21 hR0 hR1 hR2 hR3 hR4 hR5 hR6 hR7 hR8 ⟨Nat.le_of_ble_eq_true rfl, Nat.le_of_ble_eq_true rfl⟩ C rfl _ _ ls hP hD hS hl
set_option maxHeartbeats 4000000 in
set_option maxRecDepth 100000 in
theorem b_y_isAsked (l : Launch) (D : va_G) (cy : Nat → ClassId) (q : Nat) (a : Int32) (q_thrown : Int32) (q_tape_ : Nat) (q_length : Int32) (q_size : Int32) (q_p : Int32) (q_limit : Int32) (q_s_ : Nat) (q_h_ : Nat) (q_read_ : Nat) (q_names_ : Nat) (q_reserved_ : Nat) (q_token : Int32) (q_at : Int32) (q_span : Int32) (q_number : Int32) (q_fault : Int32) (q_faultAt : Int32) (q_word : Int64) (q_got : Int32) (q_lines : Int32) (q_onces : Int32) (q_webs : Int32) (q_one : Int32) (q_two : Int32) (q_seed : Int32) (q_undone_ : Nat) (q_before_ : Nat) (q_undoMany : Int32) (q_far_ : Nat) (q_wayRow_ : Nat) (q_wayMany : Int32) (q_keptRow_ : Nat) (q_askedRow_ : Nat) (q_rares_ : Nat) (q_trial_ : Nat) (q_keptMany : Int32) (q_askedMany : Int32) (q_hangs_ : Nat) (q_paths_ : Nat) (q_tornSteps : Int32) (q_hasTorn : Int32) (q_turnOne : Int32) (q_hasTurn : Int32) (q_text_ : Nat) (q_textMany : Int32) (q_toldMany : Int32) (q_toldAt_ : Nat) (q_hasTold : Int32) (q_stack_ : Nat) (q_codes : Int32) (q_ones : Int32) (q_top : Int32) (q_deep : Int32) (q_isWhole : Int32) (q_truths_ : Nat) (q_imaged_ : Nat) (q_namesKept_ : Nat) (q_areKept_ : Nat) (q_s : Nat → Int32) (hb0 : 0 ≤ q_length.toInt ∧ q_length.toInt ≤ 940) (hb1 : 0 ≤ q_size.toInt ∧ q_size.toInt ≤ 940) (hb2 : 0 ≤ q_p.toInt ∧ q_p.toInt ≤ 940) (hb3 : 0 ≤ q_limit.toInt ∧ q_limit.toInt ≤ 940) (hb4 : 0 ≤ q_span.toInt ∧ q_span.toInt ≤ 940) (hb5 : 0 ≤ q_number.toInt ∧ q_number.toInt ≤ 8214) (hb6 : (-1) ≤ q_got.toInt ∧ q_got.toInt ≤ 8214) (hb7 : 0 ≤ q_one.toInt ∧ q_one.toInt ≤ 7) (hb8 : 0 ≤ q_two.toInt ∧ q_two.toInt ≤ 7) (hb9 : 0 ≤ q_undoMany.toInt ∧ q_undoMany.toInt ≤ 8) (hb10 : (-1) ≤ q_wayMany.toInt ∧ q_wayMany.toInt ≤ 8) (hb11 : (-1) ≤ q_keptMany.toInt ∧ q_keptMany.toInt ≤ 8) (hb12 : (-1) ≤ q_askedMany.toInt ∧ q_askedMany.toInt ≤ 3) (hb13 : 0 ≤ q_hasTorn.toInt ∧ q_hasTorn.toInt ≤ 1) (hb14 : 0 ≤ q_hasTurn.toInt ∧ q_hasTurn.toInt ≤ 1) (hb15 : 0 ≤ q_textMany.toInt ∧ q_textMany.toInt ≤ 48) (hb16 : 0 ≤ q_toldMany.toInt ∧ q_toldMany.toInt ≤ 40) (hb17 : 0 ≤ q_hasTold.toInt ∧ q_hasTold.toInt ≤ 1) (hb18 : 0 ≤ q_codes.toInt ∧ q_codes.toInt ≤ 40) (hb19 : 0 ≤ q_ones.toInt ∧ q_ones.toInt ≤ 20) (hb20 : 0 ≤ q_top.toInt ∧ q_top.toInt ≤ 40) (hb21 : 0 ≤ q_isWhole.toInt ∧ q_isWhole.toInt ≤ 1) (hR0 : Rg q_s 0 1 0 8) (hR1 : Rg q_s 1 3 0 6) (hR2 : Rg q_s 3 4 1 50) (hR3 : Rg q_s 4 5 1 5) (hR4 : Rg q_s 103 104 0 255) (hR5 : Rg q_s 7 23 0 5) (hR6 : Rg q_s 106 122 0 5) (hR7 : Rg q_s 23 31 0 99) (hR8 : Rg q_s 122 130 0 99) {p : Program} {e : Env} {s : State} {m : MethodId} {args : Array Value} {below : List Frame} {meth : Method} {c : Code} {A : Nat → Prop} {Q : State → Prop} {cells slots : Nat} (hroom : cells ≤ ((Rm 1 21 0 0)).cells ∧ slots ≤ ((Rm 1 21 0 0)).slots) (C : Cx p s m args meth c cX11_isAsked 2 (some .boolean) RX11 "isAsked" D cy A) (hQ : Q = MQ below (va_Qi (fun (r : Int32) (u : Unit) => (0 ≤ r.toInt ∧ r.toInt ≤ 1)) (Bx D A (fun u : Unit => [(q, oC11 q_thrown q_tape_ q_length q_size q_p q_limit q_s_ q_h_ q_read_ q_names_ q_reserved_ q_token q_at q_span q_number q_fault q_faultAt q_word q_got q_lines q_onces q_webs q_one q_two q_seed q_undone_ q_before_ q_undoMany q_far_ q_wayRow_ q_wayMany q_keptRow_ q_askedRow_ q_rares_ q_trial_ q_keptMany q_askedMany q_hangs_ q_paths_ q_tornSteps q_hasTorn q_turnOne q_hasTurn q_text_ q_textMany q_toldMany q_toldAt_ q_hasTold q_stack_ q_codes q_ones q_top q_deep q_isWhole q_truths_ q_imaged_ q_namesKept_ q_areKept_), (q_s_, aC1 cy 383 q_s)])) A) args s ((Rm 1 21 0 0)).cells ((Rm 1 21 0 0)).slots A) (H : Heap) (locs : List Loc) (ls : Array Slot) (hP : va_P D vwCl [(q, oC11 q_thrown q_tape_ q_length q_size q_p q_limit q_s_ q_h_ q_read_ q_names_ q_reserved_ q_token q_at q_span q_number q_fault q_faultAt q_word q_got q_lines q_onces q_webs q_one q_two q_seed q_undone_ q_before_ q_undoMany q_far_ q_wayRow_ q_wayMany q_keptRow_ q_askedRow_ q_rares_ q_trial_ q_keptMany q_askedMany q_hangs_ q_paths_ q_tornSteps q_hasTorn q_turnOne q_hasTurn q_text_ q_textMany q_toldMany q_toldAt_ q_hasTold q_stack_ q_codes q_ones q_top q_deep q_isWhole q_truths_ q_imaged_ q_namesKept_ q_areKept_), (q_s_, aC1 cy 383 q_s)] H) (hD : va_D A [(q, oC11 q_thrown q_tape_ q_length q_size q_p q_limit q_s_ q_h_ q_read_ q_names_ q_reserved_ q_token q_at q_span q_number q_fault q_faultAt q_word q_got q_lines q_onces q_webs q_one q_two q_seed q_undone_ q_before_ q_undoMany q_far_ q_wayRow_ q_wayMany q_keptRow_ q_askedRow_ q_rares_ q_trial_ q_keptMany q_askedMany q_hangs_ q_paths_ q_tornSteps q_hasTorn q_turnOne q_hasTurn q_text_ q_textMany q_toldMany q_toldAt_ q_hasTold q_stack_ q_codes q_ones q_top q_deep q_isWhole q_truths_ q_imaged_ q_namesKept_ q_areKept_), (q_s_, aC1 cy 383 q_s)]) (hS : va_S A s.heap H locs) (hl : lv_has ls 2 [(0, .ref q), (1, .int a)]) : W p l e (Rm 1 21 0 0) s m args below meth c H locs cells slots Q (F0 m 0 ls []) := by
  have hx := C.1
  have hb := C.2.1
  have hqa := o_rng a
  refine lv_aload_n hx hb dX11_isAsked_0 rfl (lv_at hl 0 rfl) ?_
  refine q_get11 (v := .ref q_s_) C hP 0 6 rfl fT_6 (by decide) kF_RX11_33 rfl dX11_isAsked_1 ?_
  refine lv_bipush (v := 105) hx hb dX11_isAsked_4 (by decide) ?_
  refine q_iald (v := q_s 105) C hP 1 rfl (vin (by decide +kernel)) rfl dX11_isAsked_6 ?_
  refine lv_topi (fun z_1 ez_1 => ?_)
  refine lv_iload_n hx hb dX11_isAsked_7 rfl (lv_at hl 1 rfl) ?_
  refine q_ai (wr := [(q, oC11 q_thrown q_tape_ q_length q_size q_p q_limit q_s_ q_h_ q_read_ q_names_ q_reserved_ q_token q_at q_span q_number q_fault q_faultAt q_word q_got q_lines q_onces q_webs q_one q_two q_seed q_undone_ q_before_ q_undoMany q_far_ q_wayRow_ q_wayMany q_keptRow_ q_askedRow_ q_rares_ q_trial_ q_keptMany q_askedMany q_hangs_ q_paths_ q_tornSteps q_hasTorn q_turnOne q_hasTurn q_text_ q_textMany q_toldMany q_toldAt_ q_hasTold q_stack_ q_codes q_ones q_top q_deep q_isWhole q_truths_ q_imaged_ q_namesKept_ q_areKept_), (q_s_, aC1 cy 383 q_s)]) (r_S (rm := (Rm 0 0 0 0)) (As := [.int z_1, .int a]) (rest := []) (wc := []) C hS (q_subP hP [] rfl) (hD.sub [] (by decide) rfl) (y_bitOf l D cy z_1 a _ ) kwS_X11_bitOf kM_RX11_231 ⟨Nat.le_of_ble_eq_true rfl, Nat.le_of_ble_eq_true rfl⟩ rfl hl.1 rfl (Nat.le_of_ble_eq_true rfl) dX11_isAsked_8 ⟨hroom.1, hroom.2⟩) C.2.2.2.2.2.2.1 hP hD hS [] [0, 1] rfl rfl (by decide) (by decide) (fun r_3 u_2 H locs hw_4 hP hD hS => ?_)
  have hp_4 : 0 ≤ r_3.toInt ∧ r_3.toInt ≤ 1 := hw_4.1
  have hp_5 : r_3 = bt z_1 a := hw_4.2
  clear hw_4
  refine o_wq hQ ?_
  exact q_iret (rm := (Rm 1 21 0 0)) C hS () (o_bool (rfl : r_3.toInt = r_3.toInt) (by omega) (by omega)).1 (show 0 ≤ r_3.toInt ∧ r_3.toInt ≤ 1 by omega) (q_subP hP [0, 1] rfl) (hD.sub [0, 1] (by decide) rfl) hroom.1 hroom.2 dX11_isAsked_11
theorem y_isAsked (l : Launch) (D : va_G) (cy : Nat → ClassId) (q : Nat) (a : Int32) (q_thrown : Int32) (q_tape_ : Nat) (q_length : Int32) (q_size : Int32) (q_p : Int32) (q_limit : Int32) (q_s_ : Nat) (q_h_ : Nat) (q_read_ : Nat) (q_names_ : Nat) (q_reserved_ : Nat) (q_token : Int32) (q_at : Int32) (q_span : Int32) (q_number : Int32) (q_fault : Int32) (q_faultAt : Int32) (q_word : Int64) (q_got : Int32) (q_lines : Int32) (q_onces : Int32) (q_webs : Int32) (q_one : Int32) (q_two : Int32) (q_seed : Int32) (q_undone_ : Nat) (q_before_ : Nat) (q_undoMany : Int32) (q_far_ : Nat) (q_wayRow_ : Nat) (q_wayMany : Int32) (q_keptRow_ : Nat) (q_askedRow_ : Nat) (q_rares_ : Nat) (q_trial_ : Nat) (q_keptMany : Int32) (q_askedMany : Int32) (q_hangs_ : Nat) (q_paths_ : Nat) (q_tornSteps : Int32) (q_hasTorn : Int32) (q_turnOne : Int32) (q_hasTurn : Int32) (q_text_ : Nat) (q_textMany : Int32) (q_toldMany : Int32) (q_toldAt_ : Nat) (q_hasTold : Int32) (q_stack_ : Nat) (q_codes : Int32) (q_ones : Int32) (q_top : Int32) (q_deep : Int32) (q_isWhole : Int32) (q_truths_ : Nat) (q_imaged_ : Nat) (q_namesKept_ : Nat) (q_areKept_ : Nat) (q_s : Nat → Int32) (sz : Nat) (hb0 : 0 ≤ q_length.toInt ∧ q_length.toInt ≤ 940) (hb1 : 0 ≤ q_size.toInt ∧ q_size.toInt ≤ 940) (hb2 : 0 ≤ q_p.toInt ∧ q_p.toInt ≤ 940) (hb3 : 0 ≤ q_limit.toInt ∧ q_limit.toInt ≤ 940) (hb4 : 0 ≤ q_span.toInt ∧ q_span.toInt ≤ 940) (hb5 : 0 ≤ q_number.toInt ∧ q_number.toInt ≤ 8214) (hb6 : (-1) ≤ q_got.toInt ∧ q_got.toInt ≤ 8214) (hb7 : 0 ≤ q_one.toInt ∧ q_one.toInt ≤ 7) (hb8 : 0 ≤ q_two.toInt ∧ q_two.toInt ≤ 7) (hb9 : 0 ≤ q_undoMany.toInt ∧ q_undoMany.toInt ≤ 8) (hb10 : (-1) ≤ q_wayMany.toInt ∧ q_wayMany.toInt ≤ 8) (hb11 : (-1) ≤ q_keptMany.toInt ∧ q_keptMany.toInt ≤ 8) (hb12 : (-1) ≤ q_askedMany.toInt ∧ q_askedMany.toInt ≤ 3) (hb13 : 0 ≤ q_hasTorn.toInt ∧ q_hasTorn.toInt ≤ 1) (hb14 : 0 ≤ q_hasTurn.toInt ∧ q_hasTurn.toInt ≤ 1) (hb15 : 0 ≤ q_textMany.toInt ∧ q_textMany.toInt ≤ 48) (hb16 : 0 ≤ q_toldMany.toInt ∧ q_toldMany.toInt ≤ 40) (hb17 : 0 ≤ q_hasTold.toInt ∧ q_hasTold.toInt ≤ 1) (hb18 : 0 ≤ q_codes.toInt ∧ q_codes.toInt ≤ 40) (hb19 : 0 ≤ q_ones.toInt ∧ q_ones.toInt ≤ 20) (hb20 : 0 ≤ q_top.toInt ∧ q_top.toInt ≤ 40) (hb21 : 0 ≤ q_isWhole.toInt ∧ q_isWhole.toInt ≤ 1) (hR0 : Rg q_s 0 1 0 8) (hR1 : Rg q_s 1 3 0 6) (hR2 : Rg q_s 3 4 1 50) (hR3 : Rg q_s 4 5 1 5) (hR4 : Rg q_s 103 104 0 255) (hR5 : Rg q_s 7 23 0 5) (hR6 : Rg q_s 106 122 0 5) (hR7 : Rg q_s 23 31 0 99) (hR8 : Rg q_s 122 130 0 99) : MI l yX11_isAsked cX11_isAsked 2 (some .boolean) (Rm 1 21 0 0) D cy [.ref q, .int a] sz [(q, oC11 q_thrown q_tape_ q_length q_size q_p q_limit q_s_ q_h_ q_read_ q_names_ q_reserved_ q_token q_at q_span q_number q_fault q_faultAt q_word q_got q_lines q_onces q_webs q_one q_two q_seed q_undone_ q_before_ q_undoMany q_far_ q_wayRow_ q_wayMany q_keptRow_ q_askedRow_ q_rares_ q_trial_ q_keptMany q_askedMany q_hangs_ q_paths_ q_tornSteps q_hasTorn q_turnOne q_hasTurn q_text_ q_textMany q_toldMany q_toldAt_ q_hasTold q_stack_ q_codes q_ones q_top q_deep q_isWhole q_truths_ q_imaged_ q_namesKept_ q_areKept_), (q_s_, aC1 cy 383 q_s)] (fun (r : Int32) (u : Unit) => (0 ≤ r.toInt ∧ r.toInt ≤ 1)) (fun u : Unit => [(q, oC11 q_thrown q_tape_ q_length q_size q_p q_limit q_s_ q_h_ q_read_ q_names_ q_reserved_ q_token q_at q_span q_number q_fault q_faultAt q_word q_got q_lines q_onces q_webs q_one q_two q_seed q_undone_ q_before_ q_undoMany q_far_ q_wayRow_ q_wayMany q_keptRow_ q_askedRow_ q_rares_ q_trial_ q_keptMany q_askedMany q_hangs_ q_paths_ q_tornSteps q_hasTorn q_turnOne q_hasTurn q_text_ q_textMany q_toldMany q_toldAt_ q_hasTold q_stack_ q_codes q_ones q_top q_deep q_isWhole q_truths_ q_imaged_ q_namesKept_ q_areKept_), (q_s_, aC1 cy 383 q_s)]) := by
  refine MI.enter (by decide) (Nat.le_of_ble_eq_true rfl) ?_
  intro p e s m below meth c ls A hsz hAe C hP hD hS hl
  exact b_y_isAsked l D cy q a q_thrown q_tape_ q_length q_size q_p q_limit q_s_ q_h_ q_read_ q_names_ q_reserved_ q_token q_at q_span q_number q_fault q_faultAt q_word q_got q_lines q_onces q_webs q_one q_two q_seed q_undone_ q_before_ q_undoMany q_far_ q_wayRow_ q_wayMany q_keptRow_ q_askedRow_ q_rares_ q_trial_ q_keptMany q_askedMany q_hangs_ q_paths_ q_tornSteps q_hasTorn q_turnOne q_hasTurn q_text_ q_textMany q_toldMany q_toldAt_ q_hasTold q_stack_ q_codes q_ones q_top q_deep q_isWhole q_truths_ q_imaged_ q_namesKept_ q_areKept_ q_s hb0 hb1 hb2 hb3 hb4 hb5 hb6 hb7 hb8 hb9 hb10 hb11 hb12 hb13 hb14 hb15 hb16 hb17 hb18 hb19 hb20 hb21 hR0 hR1 hR2 hR3 hR4 hR5 hR6 hR7 hR8 ⟨Nat.le_of_ble_eq_true rfl, Nat.le_of_ble_eq_true rfl⟩ C rfl _ _ ls hP hD hS hl
set_option maxHeartbeats 4000000 in
set_option maxRecDepth 100000 in
theorem b_y_threadOf (l : Launch) (D : va_G) (cy : Nat → ClassId) (q : Nat) (a : Int32) (b : Int32) (q_thrown : Int32) (q_tape_ : Nat) (q_length : Int32) (q_size : Int32) (q_p : Int32) (q_limit : Int32) (q_s_ : Nat) (q_h_ : Nat) (q_read_ : Nat) (q_names_ : Nat) (q_reserved_ : Nat) (q_token : Int32) (q_at : Int32) (q_span : Int32) (q_number : Int32) (q_fault : Int32) (q_faultAt : Int32) (q_word : Int64) (q_got : Int32) (q_lines : Int32) (q_onces : Int32) (q_webs : Int32) (q_one : Int32) (q_two : Int32) (q_seed : Int32) (q_undone_ : Nat) (q_before_ : Nat) (q_undoMany : Int32) (q_far_ : Nat) (q_wayRow_ : Nat) (q_wayMany : Int32) (q_keptRow_ : Nat) (q_askedRow_ : Nat) (q_rares_ : Nat) (q_trial_ : Nat) (q_keptMany : Int32) (q_askedMany : Int32) (q_hangs_ : Nat) (q_paths_ : Nat) (q_tornSteps : Int32) (q_hasTorn : Int32) (q_turnOne : Int32) (q_hasTurn : Int32) (q_text_ : Nat) (q_textMany : Int32) (q_toldMany : Int32) (q_toldAt_ : Nat) (q_hasTold : Int32) (q_stack_ : Nat) (q_codes : Int32) (q_ones : Int32) (q_top : Int32) (q_deep : Int32) (q_isWhole : Int32) (q_truths_ : Nat) (q_imaged_ : Nat) (q_namesKept_ : Nat) (q_areKept_ : Nat) (q_s : Nat → Int32) (hb0 : 0 ≤ q_length.toInt ∧ q_length.toInt ≤ 940) (hb1 : 0 ≤ q_size.toInt ∧ q_size.toInt ≤ 940) (hb2 : 0 ≤ q_p.toInt ∧ q_p.toInt ≤ 940) (hb3 : 0 ≤ q_limit.toInt ∧ q_limit.toInt ≤ 940) (hb4 : 0 ≤ q_span.toInt ∧ q_span.toInt ≤ 940) (hb5 : 0 ≤ q_number.toInt ∧ q_number.toInt ≤ 8214) (hb6 : (-1) ≤ q_got.toInt ∧ q_got.toInt ≤ 8214) (hb7 : 0 ≤ q_one.toInt ∧ q_one.toInt ≤ 7) (hb8 : 0 ≤ q_two.toInt ∧ q_two.toInt ≤ 7) (hb9 : 0 ≤ q_undoMany.toInt ∧ q_undoMany.toInt ≤ 8) (hb10 : (-1) ≤ q_wayMany.toInt ∧ q_wayMany.toInt ≤ 8) (hb11 : (-1) ≤ q_keptMany.toInt ∧ q_keptMany.toInt ≤ 8) (hb12 : (-1) ≤ q_askedMany.toInt ∧ q_askedMany.toInt ≤ 3) (hb13 : 0 ≤ q_hasTorn.toInt ∧ q_hasTorn.toInt ≤ 1) (hb14 : 0 ≤ q_hasTurn.toInt ∧ q_hasTurn.toInt ≤ 1) (hb15 : 0 ≤ q_textMany.toInt ∧ q_textMany.toInt ≤ 48) (hb16 : 0 ≤ q_toldMany.toInt ∧ q_toldMany.toInt ≤ 40) (hb17 : 0 ≤ q_hasTold.toInt ∧ q_hasTold.toInt ≤ 1) (hb18 : 0 ≤ q_codes.toInt ∧ q_codes.toInt ≤ 40) (hb19 : 0 ≤ q_ones.toInt ∧ q_ones.toInt ≤ 20) (hb20 : 0 ≤ q_top.toInt ∧ q_top.toInt ≤ 40) (hb21 : 0 ≤ q_isWhole.toInt ∧ q_isWhole.toInt ≤ 1) (hb22 : 0 ≤ a.toInt ∧ a.toInt ≤ 7) (hb23 : 0 ≤ b.toInt ∧ b.toInt ≤ 7) (hR0 : Rg q_s 0 1 0 8) (hR1 : Rg q_s 1 3 0 6) (hR2 : Rg q_s 3 4 1 50) (hR3 : Rg q_s 4 5 1 5) (hR4 : Rg q_s 103 104 0 255) (hR5 : Rg q_s 7 23 0 5) (hR6 : Rg q_s 106 122 0 5) (hR7 : Rg q_s 23 31 0 99) (hR8 : Rg q_s 122 130 0 99) {p : Program} {e : Env} {s : State} {m : MethodId} {args : Array Value} {below : List Frame} {meth : Method} {c : Code} {A : Nat → Prop} {Q : State → Prop} {cells slots : Nat} (hroom : cells ≤ ((Rm 0 0 0 0)).cells ∧ slots ≤ ((Rm 0 0 0 0)).slots) (C : Cx p s m args meth c cX11_threadOf 3 (some .int) RX11 "threadOf" D cy A) (hQ : Q = MQ below (va_Qi (fun (r : Int32) (u : Unit) => (r = thr q_s a b)) (Bx D A (fun u : Unit => [(q, oC11 q_thrown q_tape_ q_length q_size q_p q_limit q_s_ q_h_ q_read_ q_names_ q_reserved_ q_token q_at q_span q_number q_fault q_faultAt q_word q_got q_lines q_onces q_webs q_one q_two q_seed q_undone_ q_before_ q_undoMany q_far_ q_wayRow_ q_wayMany q_keptRow_ q_askedRow_ q_rares_ q_trial_ q_keptMany q_askedMany q_hangs_ q_paths_ q_tornSteps q_hasTorn q_turnOne q_hasTurn q_text_ q_textMany q_toldMany q_toldAt_ q_hasTold q_stack_ q_codes q_ones q_top q_deep q_isWhole q_truths_ q_imaged_ q_namesKept_ q_areKept_), (q_s_, aC1 cy 383 q_s)])) A) args s ((Rm 0 0 0 0)).cells ((Rm 0 0 0 0)).slots A) (H : Heap) (locs : List Loc) (ls : Array Slot) (hP : va_P D vwCl [(q, oC11 q_thrown q_tape_ q_length q_size q_p q_limit q_s_ q_h_ q_read_ q_names_ q_reserved_ q_token q_at q_span q_number q_fault q_faultAt q_word q_got q_lines q_onces q_webs q_one q_two q_seed q_undone_ q_before_ q_undoMany q_far_ q_wayRow_ q_wayMany q_keptRow_ q_askedRow_ q_rares_ q_trial_ q_keptMany q_askedMany q_hangs_ q_paths_ q_tornSteps q_hasTorn q_turnOne q_hasTurn q_text_ q_textMany q_toldMany q_toldAt_ q_hasTold q_stack_ q_codes q_ones q_top q_deep q_isWhole q_truths_ q_imaged_ q_namesKept_ q_areKept_), (q_s_, aC1 cy 383 q_s)] H) (hD : va_D A [(q, oC11 q_thrown q_tape_ q_length q_size q_p q_limit q_s_ q_h_ q_read_ q_names_ q_reserved_ q_token q_at q_span q_number q_fault q_faultAt q_word q_got q_lines q_onces q_webs q_one q_two q_seed q_undone_ q_before_ q_undoMany q_far_ q_wayRow_ q_wayMany q_keptRow_ q_askedRow_ q_rares_ q_trial_ q_keptMany q_askedMany q_hangs_ q_paths_ q_tornSteps q_hasTorn q_turnOne q_hasTurn q_text_ q_textMany q_toldMany q_toldAt_ q_hasTold q_stack_ q_codes q_ones q_top q_deep q_isWhole q_truths_ q_imaged_ q_namesKept_ q_areKept_), (q_s_, aC1 cy 383 q_s)]) (hS : va_S A s.heap H locs) (hl : lv_has ls 3 [(0, .ref q), (1, .int a), (2, .int b)]) : W p l e (Rm 0 0 0 0) s m args below meth c H locs cells slots Q (F0 m 0 ls []) := by
  have hx := C.1
  have hb := C.2.1
  refine lv_aload_n hx hb dX11_threadOf_0 rfl (lv_at hl 0 rfl) ?_
  refine q_get11 (v := .ref q_s_) C hP 0 6 rfl fT_6 (by decide) kF_RX11_33 rfl dX11_threadOf_1 ?_
  refine lv_sipush (v := 138) hx hb dX11_threadOf_4 (by decide) ?_
  refine lv_bipush (v := 8) hx hb dX11_threadOf_7 (by decide) ?_
  refine lv_iload_n hx hb dX11_threadOf_9 rfl (lv_at hl 1 rfl) ?_
  refine lv_imul hx hb dX11_threadOf_10 ?_
  refine lv_topi (fun z_1 hz_1 => ?_)
  have hz_1 := o_mul hz_1 (by decide : (8 : Int32).toInt = 8) (rfl : a.toInt = a.toInt) (by omega) (by omega)
  refine lv_iadd hx hb dX11_threadOf_11 ?_
  refine lv_topi (fun z_2 hz_2 => ?_)
  have hz_2 := o_add hz_2 (by decide : (138 : Int32).toInt = 138) (rfl : z_1.toInt = z_1.toInt) (by omega) (by omega)
  refine lv_iload_n hx hb dX11_threadOf_12 rfl (lv_at hl 2 rfl) ?_
  refine lv_iadd hx hb dX11_threadOf_13 ?_
  refine lv_topi (fun z_3 hz_3 => ?_)
  have hz_3 := o_add hz_3 (rfl : z_2.toInt = z_2.toInt) (rfl : b.toInt = b.toInt) (by omega) (by omega)
  refine q_iald (v := q_s z_3.toNatClampNeg) C hP 1 rfl (o_in (rfl : z_3.toInt = z_3.toInt) (by omega) (by omega)) rfl dX11_threadOf_14 ?_
  refine lv_topi (fun z_4 ez_4 => ?_)
  refine o_wq hQ ?_
  exact q_iret (rm := (Rm 0 0 0 0)) C hS () rfl (show z_4 = thr q_s a b from (thr_of (x := z_3) ez_4 (by omega) (by omega) (by omega))) (q_subP hP [0, 1] rfl) (hD.sub [0, 1] (by decide) rfl) hroom.1 hroom.2 dX11_threadOf_15
theorem y_threadOf (l : Launch) (D : va_G) (cy : Nat → ClassId) (q : Nat) (a : Int32) (b : Int32) (q_thrown : Int32) (q_tape_ : Nat) (q_length : Int32) (q_size : Int32) (q_p : Int32) (q_limit : Int32) (q_s_ : Nat) (q_h_ : Nat) (q_read_ : Nat) (q_names_ : Nat) (q_reserved_ : Nat) (q_token : Int32) (q_at : Int32) (q_span : Int32) (q_number : Int32) (q_fault : Int32) (q_faultAt : Int32) (q_word : Int64) (q_got : Int32) (q_lines : Int32) (q_onces : Int32) (q_webs : Int32) (q_one : Int32) (q_two : Int32) (q_seed : Int32) (q_undone_ : Nat) (q_before_ : Nat) (q_undoMany : Int32) (q_far_ : Nat) (q_wayRow_ : Nat) (q_wayMany : Int32) (q_keptRow_ : Nat) (q_askedRow_ : Nat) (q_rares_ : Nat) (q_trial_ : Nat) (q_keptMany : Int32) (q_askedMany : Int32) (q_hangs_ : Nat) (q_paths_ : Nat) (q_tornSteps : Int32) (q_hasTorn : Int32) (q_turnOne : Int32) (q_hasTurn : Int32) (q_text_ : Nat) (q_textMany : Int32) (q_toldMany : Int32) (q_toldAt_ : Nat) (q_hasTold : Int32) (q_stack_ : Nat) (q_codes : Int32) (q_ones : Int32) (q_top : Int32) (q_deep : Int32) (q_isWhole : Int32) (q_truths_ : Nat) (q_imaged_ : Nat) (q_namesKept_ : Nat) (q_areKept_ : Nat) (q_s : Nat → Int32) (sz : Nat) (hb0 : 0 ≤ q_length.toInt ∧ q_length.toInt ≤ 940) (hb1 : 0 ≤ q_size.toInt ∧ q_size.toInt ≤ 940) (hb2 : 0 ≤ q_p.toInt ∧ q_p.toInt ≤ 940) (hb3 : 0 ≤ q_limit.toInt ∧ q_limit.toInt ≤ 940) (hb4 : 0 ≤ q_span.toInt ∧ q_span.toInt ≤ 940) (hb5 : 0 ≤ q_number.toInt ∧ q_number.toInt ≤ 8214) (hb6 : (-1) ≤ q_got.toInt ∧ q_got.toInt ≤ 8214) (hb7 : 0 ≤ q_one.toInt ∧ q_one.toInt ≤ 7) (hb8 : 0 ≤ q_two.toInt ∧ q_two.toInt ≤ 7) (hb9 : 0 ≤ q_undoMany.toInt ∧ q_undoMany.toInt ≤ 8) (hb10 : (-1) ≤ q_wayMany.toInt ∧ q_wayMany.toInt ≤ 8) (hb11 : (-1) ≤ q_keptMany.toInt ∧ q_keptMany.toInt ≤ 8) (hb12 : (-1) ≤ q_askedMany.toInt ∧ q_askedMany.toInt ≤ 3) (hb13 : 0 ≤ q_hasTorn.toInt ∧ q_hasTorn.toInt ≤ 1) (hb14 : 0 ≤ q_hasTurn.toInt ∧ q_hasTurn.toInt ≤ 1) (hb15 : 0 ≤ q_textMany.toInt ∧ q_textMany.toInt ≤ 48) (hb16 : 0 ≤ q_toldMany.toInt ∧ q_toldMany.toInt ≤ 40) (hb17 : 0 ≤ q_hasTold.toInt ∧ q_hasTold.toInt ≤ 1) (hb18 : 0 ≤ q_codes.toInt ∧ q_codes.toInt ≤ 40) (hb19 : 0 ≤ q_ones.toInt ∧ q_ones.toInt ≤ 20) (hb20 : 0 ≤ q_top.toInt ∧ q_top.toInt ≤ 40) (hb21 : 0 ≤ q_isWhole.toInt ∧ q_isWhole.toInt ≤ 1) (hb22 : 0 ≤ a.toInt ∧ a.toInt ≤ 7) (hb23 : 0 ≤ b.toInt ∧ b.toInt ≤ 7) (hR0 : Rg q_s 0 1 0 8) (hR1 : Rg q_s 1 3 0 6) (hR2 : Rg q_s 3 4 1 50) (hR3 : Rg q_s 4 5 1 5) (hR4 : Rg q_s 103 104 0 255) (hR5 : Rg q_s 7 23 0 5) (hR6 : Rg q_s 106 122 0 5) (hR7 : Rg q_s 23 31 0 99) (hR8 : Rg q_s 122 130 0 99) : MI l yX11_threadOf cX11_threadOf 3 (some .int) (Rm 0 0 0 0) D cy [.ref q, .int a, .int b] sz [(q, oC11 q_thrown q_tape_ q_length q_size q_p q_limit q_s_ q_h_ q_read_ q_names_ q_reserved_ q_token q_at q_span q_number q_fault q_faultAt q_word q_got q_lines q_onces q_webs q_one q_two q_seed q_undone_ q_before_ q_undoMany q_far_ q_wayRow_ q_wayMany q_keptRow_ q_askedRow_ q_rares_ q_trial_ q_keptMany q_askedMany q_hangs_ q_paths_ q_tornSteps q_hasTorn q_turnOne q_hasTurn q_text_ q_textMany q_toldMany q_toldAt_ q_hasTold q_stack_ q_codes q_ones q_top q_deep q_isWhole q_truths_ q_imaged_ q_namesKept_ q_areKept_), (q_s_, aC1 cy 383 q_s)] (fun (r : Int32) (u : Unit) => (r = thr q_s a b)) (fun u : Unit => [(q, oC11 q_thrown q_tape_ q_length q_size q_p q_limit q_s_ q_h_ q_read_ q_names_ q_reserved_ q_token q_at q_span q_number q_fault q_faultAt q_word q_got q_lines q_onces q_webs q_one q_two q_seed q_undone_ q_before_ q_undoMany q_far_ q_wayRow_ q_wayMany q_keptRow_ q_askedRow_ q_rares_ q_trial_ q_keptMany q_askedMany q_hangs_ q_paths_ q_tornSteps q_hasTorn q_turnOne q_hasTurn q_text_ q_textMany q_toldMany q_toldAt_ q_hasTold q_stack_ q_codes q_ones q_top q_deep q_isWhole q_truths_ q_imaged_ q_namesKept_ q_areKept_), (q_s_, aC1 cy 383 q_s)]) := by
  refine MI.enter (by decide) (Nat.le_of_ble_eq_true rfl) ?_
  intro p e s m below meth c ls A hsz hAe C hP hD hS hl
  exact b_y_threadOf l D cy q a b q_thrown q_tape_ q_length q_size q_p q_limit q_s_ q_h_ q_read_ q_names_ q_reserved_ q_token q_at q_span q_number q_fault q_faultAt q_word q_got q_lines q_onces q_webs q_one q_two q_seed q_undone_ q_before_ q_undoMany q_far_ q_wayRow_ q_wayMany q_keptRow_ q_askedRow_ q_rares_ q_trial_ q_keptMany q_askedMany q_hangs_ q_paths_ q_tornSteps q_hasTorn q_turnOne q_hasTurn q_text_ q_textMany q_toldMany q_toldAt_ q_hasTold q_stack_ q_codes q_ones q_top q_deep q_isWhole q_truths_ q_imaged_ q_namesKept_ q_areKept_ q_s hb0 hb1 hb2 hb3 hb4 hb5 hb6 hb7 hb8 hb9 hb10 hb11 hb12 hb13 hb14 hb15 hb16 hb17 hb18 hb19 hb20 hb21 hb22 hb23 hR0 hR1 hR2 hR3 hR4 hR5 hR6 hR7 hR8 ⟨Nat.le_of_ble_eq_true rfl, Nat.le_of_ble_eq_true rfl⟩ C rfl _ _ ls hP hD hS hl
set_option maxHeartbeats 4000000 in
set_option maxRecDepth 100000 in
theorem b_y_reads (l : Launch) (D : va_G) (cy : Nat → ClassId) (q : Nat) (a : Int32) (q_thrown : Int32) (q_tape_ : Nat) (q_length : Int32) (q_size : Int32) (q_p : Int32) (q_limit : Int32) (q_s_ : Nat) (q_h_ : Nat) (q_read_ : Nat) (q_names_ : Nat) (q_reserved_ : Nat) (q_token : Int32) (q_at : Int32) (q_span : Int32) (q_number : Int32) (q_fault : Int32) (q_faultAt : Int32) (q_word : Int64) (q_got : Int32) (q_lines : Int32) (q_onces : Int32) (q_webs : Int32) (q_one : Int32) (q_two : Int32) (q_seed : Int32) (q_undone_ : Nat) (q_before_ : Nat) (q_undoMany : Int32) (q_far_ : Nat) (q_wayRow_ : Nat) (q_wayMany : Int32) (q_keptRow_ : Nat) (q_askedRow_ : Nat) (q_rares_ : Nat) (q_trial_ : Nat) (q_keptMany : Int32) (q_askedMany : Int32) (q_hangs_ : Nat) (q_paths_ : Nat) (q_tornSteps : Int32) (q_hasTorn : Int32) (q_turnOne : Int32) (q_hasTurn : Int32) (q_text_ : Nat) (q_textMany : Int32) (q_toldMany : Int32) (q_toldAt_ : Nat) (q_hasTold : Int32) (q_stack_ : Nat) (q_codes : Int32) (q_ones : Int32) (q_top : Int32) (q_deep : Int32) (q_isWhole : Int32) (q_truths_ : Nat) (q_imaged_ : Nat) (q_namesKept_ : Nat) (q_areKept_ : Nat) (q_s : Nat → Int32) (hb0 : 0 ≤ q_length.toInt ∧ q_length.toInt ≤ 940) (hb1 : 0 ≤ q_size.toInt ∧ q_size.toInt ≤ 940) (hb2 : 0 ≤ q_p.toInt ∧ q_p.toInt ≤ 940) (hb3 : 0 ≤ q_limit.toInt ∧ q_limit.toInt ≤ 940) (hb4 : 0 ≤ q_span.toInt ∧ q_span.toInt ≤ 940) (hb5 : 0 ≤ q_number.toInt ∧ q_number.toInt ≤ 8214) (hb6 : (-1) ≤ q_got.toInt ∧ q_got.toInt ≤ 8214) (hb7 : 0 ≤ q_one.toInt ∧ q_one.toInt ≤ 7) (hb8 : 0 ≤ q_two.toInt ∧ q_two.toInt ≤ 7) (hb9 : 0 ≤ q_undoMany.toInt ∧ q_undoMany.toInt ≤ 8) (hb10 : (-1) ≤ q_wayMany.toInt ∧ q_wayMany.toInt ≤ 8) (hb11 : (-1) ≤ q_keptMany.toInt ∧ q_keptMany.toInt ≤ 8) (hb12 : (-1) ≤ q_askedMany.toInt ∧ q_askedMany.toInt ≤ 3) (hb13 : 0 ≤ q_hasTorn.toInt ∧ q_hasTorn.toInt ≤ 1) (hb14 : 0 ≤ q_hasTurn.toInt ∧ q_hasTurn.toInt ≤ 1) (hb15 : 0 ≤ q_textMany.toInt ∧ q_textMany.toInt ≤ 48) (hb16 : 0 ≤ q_toldMany.toInt ∧ q_toldMany.toInt ≤ 40) (hb17 : 0 ≤ q_hasTold.toInt ∧ q_hasTold.toInt ≤ 1) (hb18 : 0 ≤ q_codes.toInt ∧ q_codes.toInt ≤ 40) (hb19 : 0 ≤ q_ones.toInt ∧ q_ones.toInt ≤ 20) (hb20 : 0 ≤ q_top.toInt ∧ q_top.toInt ≤ 40) (hb21 : 0 ≤ q_isWhole.toInt ∧ q_isWhole.toInt ≤ 1) (hR0 : Rg q_s 0 1 0 8) (hR1 : Rg q_s 1 3 0 6) (hR2 : Rg q_s 3 4 1 50) (hR3 : Rg q_s 4 5 1 5) (hR4 : Rg q_s 103 104 0 255) (hR5 : Rg q_s 7 23 0 5) (hR6 : Rg q_s 106 122 0 5) (hR7 : Rg q_s 23 31 0 99) (hR8 : Rg q_s 122 130 0 99) {p : Program} {e : Env} {s : State} {m : MethodId} {args : Array Value} {below : List Frame} {meth : Method} {c : Code} {A : Nat → Prop} {Q : State → Prop} {cells slots : Nat} (hroom : cells ≤ ((Rm 0 0 0 0)).cells ∧ slots ≤ ((Rm 0 0 0 0)).slots) (C : Cx p s m args meth c cX11_reads 2 (some .int) RX11 "reads" D cy A) (hQ : Q = MQ below (va_Qi (fun (r : Int32) (u : Unit) => (0 ≤ r.toInt ∧ r.toInt ≤ 2)) (Bx D A (fun u : Unit => [(q, oC11 q_thrown q_tape_ q_length q_size q_p q_limit q_s_ q_h_ q_read_ q_names_ q_reserved_ q_token q_at q_span q_number q_fault q_faultAt q_word q_got q_lines q_onces q_webs q_one q_two q_seed q_undone_ q_before_ q_undoMany q_far_ q_wayRow_ q_wayMany q_keptRow_ q_askedRow_ q_rares_ q_trial_ q_keptMany q_askedMany q_hangs_ q_paths_ q_tornSteps q_hasTorn q_turnOne q_hasTurn q_text_ q_textMany q_toldMany q_toldAt_ q_hasTold q_stack_ q_codes q_ones q_top q_deep q_isWhole q_truths_ q_imaged_ q_namesKept_ q_areKept_), (q_s_, aC1 cy 383 q_s)])) A) args s ((Rm 0 0 0 0)).cells ((Rm 0 0 0 0)).slots A) (H : Heap) (locs : List Loc) (ls : Array Slot) (hP : va_P D vwCl [(q, oC11 q_thrown q_tape_ q_length q_size q_p q_limit q_s_ q_h_ q_read_ q_names_ q_reserved_ q_token q_at q_span q_number q_fault q_faultAt q_word q_got q_lines q_onces q_webs q_one q_two q_seed q_undone_ q_before_ q_undoMany q_far_ q_wayRow_ q_wayMany q_keptRow_ q_askedRow_ q_rares_ q_trial_ q_keptMany q_askedMany q_hangs_ q_paths_ q_tornSteps q_hasTorn q_turnOne q_hasTurn q_text_ q_textMany q_toldMany q_toldAt_ q_hasTold q_stack_ q_codes q_ones q_top q_deep q_isWhole q_truths_ q_imaged_ q_namesKept_ q_areKept_), (q_s_, aC1 cy 383 q_s)] H) (hD : va_D A [(q, oC11 q_thrown q_tape_ q_length q_size q_p q_limit q_s_ q_h_ q_read_ q_names_ q_reserved_ q_token q_at q_span q_number q_fault q_faultAt q_word q_got q_lines q_onces q_webs q_one q_two q_seed q_undone_ q_before_ q_undoMany q_far_ q_wayRow_ q_wayMany q_keptRow_ q_askedRow_ q_rares_ q_trial_ q_keptMany q_askedMany q_hangs_ q_paths_ q_tornSteps q_hasTorn q_turnOne q_hasTurn q_text_ q_textMany q_toldMany q_toldAt_ q_hasTold q_stack_ q_codes q_ones q_top q_deep q_isWhole q_truths_ q_imaged_ q_namesKept_ q_areKept_), (q_s_, aC1 cy 383 q_s)]) (hS : va_S A s.heap H locs) (hl : lv_has ls 2 [(0, .ref q), (1, .int a)]) : W p l e (Rm 0 0 0 0) s m args below meth c H locs cells slots Q (F0 m 0 ls []) := by
  have hx := C.1
  have hb := C.2.1
  have hqa := o_rng a
  refine lv_iload_n hx hb dX11_reads_0 rfl (lv_at hl 1 rfl) ?_
  refine lv_aload_n hx hb dX11_reads_1 rfl (lv_at hl 0 rfl) ?_
  refine q_get11 (v := .ref q_s_) C hP 0 6 rfl fT_6 (by decide) kF_RX11_33 rfl dX11_reads_2 ?_
  refine lv_iconst (v := 3) hx hb dX11_reads_5 (by decide) ?_
  refine q_iald (v := q_s 3) C hP 1 rfl (vin (by decide +kernel)) rfl dX11_reads_6 ?_
  refine lv_topi (fun z_1 ez_1 => ?_)
  have hz_1 : 1 ≤ z_1.toInt ∧ z_1.toInt ≤ 50 := (by rw [ez_1]; exact hR2 3 (by decide) (by decide))
  refine lv_icmp_ge (tgt := 14) hx hb dX11_reads_7 (by decide) (fun c_2 => ?_) (fun c_2 => ?_)
  · have hc_2 := o_le (rfl : z_1.toInt = z_1.toInt) (rfl : a.toInt = a.toInt) c_2
    refine lv_iload_n hx hb dX11_reads_14 rfl (lv_at hl 1 rfl) ?_
    refine lv_iconst (v := 2) hx hb dX11_reads_15 (by decide) ?_
    refine lv_aload_n hx hb dX11_reads_16 rfl (lv_at hl 0 rfl) ?_
    refine q_get11 (v := .ref q_s_) C hP 0 6 rfl fT_6 (by decide) kF_RX11_33 rfl dX11_reads_17 ?_
    refine lv_iconst (v := 3) hx hb dX11_reads_20 (by decide) ?_
    refine q_iald (v := z_1) C hP 1 rfl (vin (by decide +kernel)) ez_1.symm dX11_reads_21 ?_
    refine lv_imul hx hb dX11_reads_22 ?_
    refine lv_topi (fun z_3 hz_3 => ?_)
    have hz_3 := o_mul hz_3 (by decide : (2 : Int32).toInt = 2) (rfl : z_1.toInt = z_1.toInt) (by omega) (by omega)
    refine lv_icmp_ge (tgt := 30) hx hb dX11_reads_23 (by decide) (fun c_4 => ?_) (fun c_4 => ?_)
    · have hc_4 := o_le (rfl : z_3.toInt = z_3.toInt) (rfl : a.toInt = a.toInt) c_4
      refine lv_iconst (v := 2) hx hb dX11_reads_30 (by decide) ?_
      refine o_wq hQ ?_
      exact q_iret (rm := (Rm 0 0 0 0)) C hS () rfl (show 0 ≤ (2 : Int32).toInt ∧ (2 : Int32).toInt ≤ 2 by decide) (q_subP hP [0, 1] rfl) (hD.sub [0, 1] (by decide) rfl) hroom.1 hroom.2 dX11_reads_31
    · have hc_4 := o_nle (rfl : z_3.toInt = z_3.toInt) (rfl : a.toInt = a.toInt) c_4
      refine lv_iconst (v := 1) hx hb dX11_reads_26 (by decide) ?_
      refine lv_goto (tgt := 31) hx hb dX11_reads_27 (by decide) ?_
      refine o_wq hQ ?_
      exact q_iret (rm := (Rm 0 0 0 0)) C hS () rfl (show 0 ≤ (1 : Int32).toInt ∧ (1 : Int32).toInt ≤ 2 by decide) (q_subP hP [0, 1] rfl) (hD.sub [0, 1] (by decide) rfl) hroom.1 hroom.2 dX11_reads_31
  · have hc_2 := o_nle (rfl : z_1.toInt = z_1.toInt) (rfl : a.toInt = a.toInt) c_2
    refine lv_iconst (v := 0) hx hb dX11_reads_10 (by decide) ?_
    refine lv_goto (tgt := 31) hx hb dX11_reads_11 (by decide) ?_
    refine o_wq hQ ?_
    exact q_iret (rm := (Rm 0 0 0 0)) C hS () rfl (show 0 ≤ (0 : Int32).toInt ∧ (0 : Int32).toInt ≤ 2 by decide) (q_subP hP [0, 1] rfl) (hD.sub [0, 1] (by decide) rfl) hroom.1 hroom.2 dX11_reads_31
theorem y_reads (l : Launch) (D : va_G) (cy : Nat → ClassId) (q : Nat) (a : Int32) (q_thrown : Int32) (q_tape_ : Nat) (q_length : Int32) (q_size : Int32) (q_p : Int32) (q_limit : Int32) (q_s_ : Nat) (q_h_ : Nat) (q_read_ : Nat) (q_names_ : Nat) (q_reserved_ : Nat) (q_token : Int32) (q_at : Int32) (q_span : Int32) (q_number : Int32) (q_fault : Int32) (q_faultAt : Int32) (q_word : Int64) (q_got : Int32) (q_lines : Int32) (q_onces : Int32) (q_webs : Int32) (q_one : Int32) (q_two : Int32) (q_seed : Int32) (q_undone_ : Nat) (q_before_ : Nat) (q_undoMany : Int32) (q_far_ : Nat) (q_wayRow_ : Nat) (q_wayMany : Int32) (q_keptRow_ : Nat) (q_askedRow_ : Nat) (q_rares_ : Nat) (q_trial_ : Nat) (q_keptMany : Int32) (q_askedMany : Int32) (q_hangs_ : Nat) (q_paths_ : Nat) (q_tornSteps : Int32) (q_hasTorn : Int32) (q_turnOne : Int32) (q_hasTurn : Int32) (q_text_ : Nat) (q_textMany : Int32) (q_toldMany : Int32) (q_toldAt_ : Nat) (q_hasTold : Int32) (q_stack_ : Nat) (q_codes : Int32) (q_ones : Int32) (q_top : Int32) (q_deep : Int32) (q_isWhole : Int32) (q_truths_ : Nat) (q_imaged_ : Nat) (q_namesKept_ : Nat) (q_areKept_ : Nat) (q_s : Nat → Int32) (sz : Nat) (hb0 : 0 ≤ q_length.toInt ∧ q_length.toInt ≤ 940) (hb1 : 0 ≤ q_size.toInt ∧ q_size.toInt ≤ 940) (hb2 : 0 ≤ q_p.toInt ∧ q_p.toInt ≤ 940) (hb3 : 0 ≤ q_limit.toInt ∧ q_limit.toInt ≤ 940) (hb4 : 0 ≤ q_span.toInt ∧ q_span.toInt ≤ 940) (hb5 : 0 ≤ q_number.toInt ∧ q_number.toInt ≤ 8214) (hb6 : (-1) ≤ q_got.toInt ∧ q_got.toInt ≤ 8214) (hb7 : 0 ≤ q_one.toInt ∧ q_one.toInt ≤ 7) (hb8 : 0 ≤ q_two.toInt ∧ q_two.toInt ≤ 7) (hb9 : 0 ≤ q_undoMany.toInt ∧ q_undoMany.toInt ≤ 8) (hb10 : (-1) ≤ q_wayMany.toInt ∧ q_wayMany.toInt ≤ 8) (hb11 : (-1) ≤ q_keptMany.toInt ∧ q_keptMany.toInt ≤ 8) (hb12 : (-1) ≤ q_askedMany.toInt ∧ q_askedMany.toInt ≤ 3) (hb13 : 0 ≤ q_hasTorn.toInt ∧ q_hasTorn.toInt ≤ 1) (hb14 : 0 ≤ q_hasTurn.toInt ∧ q_hasTurn.toInt ≤ 1) (hb15 : 0 ≤ q_textMany.toInt ∧ q_textMany.toInt ≤ 48) (hb16 : 0 ≤ q_toldMany.toInt ∧ q_toldMany.toInt ≤ 40) (hb17 : 0 ≤ q_hasTold.toInt ∧ q_hasTold.toInt ≤ 1) (hb18 : 0 ≤ q_codes.toInt ∧ q_codes.toInt ≤ 40) (hb19 : 0 ≤ q_ones.toInt ∧ q_ones.toInt ≤ 20) (hb20 : 0 ≤ q_top.toInt ∧ q_top.toInt ≤ 40) (hb21 : 0 ≤ q_isWhole.toInt ∧ q_isWhole.toInt ≤ 1) (hR0 : Rg q_s 0 1 0 8) (hR1 : Rg q_s 1 3 0 6) (hR2 : Rg q_s 3 4 1 50) (hR3 : Rg q_s 4 5 1 5) (hR4 : Rg q_s 103 104 0 255) (hR5 : Rg q_s 7 23 0 5) (hR6 : Rg q_s 106 122 0 5) (hR7 : Rg q_s 23 31 0 99) (hR8 : Rg q_s 122 130 0 99) : MI l yX11_reads cX11_reads 2 (some .int) (Rm 0 0 0 0) D cy [.ref q, .int a] sz [(q, oC11 q_thrown q_tape_ q_length q_size q_p q_limit q_s_ q_h_ q_read_ q_names_ q_reserved_ q_token q_at q_span q_number q_fault q_faultAt q_word q_got q_lines q_onces q_webs q_one q_two q_seed q_undone_ q_before_ q_undoMany q_far_ q_wayRow_ q_wayMany q_keptRow_ q_askedRow_ q_rares_ q_trial_ q_keptMany q_askedMany q_hangs_ q_paths_ q_tornSteps q_hasTorn q_turnOne q_hasTurn q_text_ q_textMany q_toldMany q_toldAt_ q_hasTold q_stack_ q_codes q_ones q_top q_deep q_isWhole q_truths_ q_imaged_ q_namesKept_ q_areKept_), (q_s_, aC1 cy 383 q_s)] (fun (r : Int32) (u : Unit) => (0 ≤ r.toInt ∧ r.toInt ≤ 2)) (fun u : Unit => [(q, oC11 q_thrown q_tape_ q_length q_size q_p q_limit q_s_ q_h_ q_read_ q_names_ q_reserved_ q_token q_at q_span q_number q_fault q_faultAt q_word q_got q_lines q_onces q_webs q_one q_two q_seed q_undone_ q_before_ q_undoMany q_far_ q_wayRow_ q_wayMany q_keptRow_ q_askedRow_ q_rares_ q_trial_ q_keptMany q_askedMany q_hangs_ q_paths_ q_tornSteps q_hasTorn q_turnOne q_hasTurn q_text_ q_textMany q_toldMany q_toldAt_ q_hasTold q_stack_ q_codes q_ones q_top q_deep q_isWhole q_truths_ q_imaged_ q_namesKept_ q_areKept_), (q_s_, aC1 cy 383 q_s)]) := by
  refine MI.enter (by decide) (Nat.le_of_ble_eq_true rfl) ?_
  intro p e s m below meth c ls A hsz hAe C hP hD hS hl
  exact b_y_reads l D cy q a q_thrown q_tape_ q_length q_size q_p q_limit q_s_ q_h_ q_read_ q_names_ q_reserved_ q_token q_at q_span q_number q_fault q_faultAt q_word q_got q_lines q_onces q_webs q_one q_two q_seed q_undone_ q_before_ q_undoMany q_far_ q_wayRow_ q_wayMany q_keptRow_ q_askedRow_ q_rares_ q_trial_ q_keptMany q_askedMany q_hangs_ q_paths_ q_tornSteps q_hasTorn q_turnOne q_hasTurn q_text_ q_textMany q_toldMany q_toldAt_ q_hasTold q_stack_ q_codes q_ones q_top q_deep q_isWhole q_truths_ q_imaged_ q_namesKept_ q_areKept_ q_s hb0 hb1 hb2 hb3 hb4 hb5 hb6 hb7 hb8 hb9 hb10 hb11 hb12 hb13 hb14 hb15 hb16 hb17 hb18 hb19 hb20 hb21 hR0 hR1 hR2 hR3 hR4 hR5 hR6 hR7 hR8 ⟨Nat.le_of_ble_eq_true rfl, Nat.le_of_ble_eq_true rfl⟩ C rfl _ _ ls hP hD hS hl
set_option maxHeartbeats 4000000 in
set_option maxRecDepth 100000 in
theorem b_y_linesOf (l : Launch) (D : va_G) (cy : Nat → ClassId) (q : Nat) (a : Int32) (q_thrown : Int32) (q_tape_ : Nat) (q_length : Int32) (q_size : Int32) (q_p : Int32) (q_limit : Int32) (q_s_ : Nat) (q_h_ : Nat) (q_read_ : Nat) (q_names_ : Nat) (q_reserved_ : Nat) (q_token : Int32) (q_at : Int32) (q_span : Int32) (q_number : Int32) (q_fault : Int32) (q_faultAt : Int32) (q_word : Int64) (q_got : Int32) (q_lines : Int32) (q_onces : Int32) (q_webs : Int32) (q_one : Int32) (q_two : Int32) (q_seed : Int32) (q_undone_ : Nat) (q_before_ : Nat) (q_undoMany : Int32) (q_far_ : Nat) (q_wayRow_ : Nat) (q_wayMany : Int32) (q_keptRow_ : Nat) (q_askedRow_ : Nat) (q_rares_ : Nat) (q_trial_ : Nat) (q_keptMany : Int32) (q_askedMany : Int32) (q_hangs_ : Nat) (q_paths_ : Nat) (q_tornSteps : Int32) (q_hasTorn : Int32) (q_turnOne : Int32) (q_hasTurn : Int32) (q_text_ : Nat) (q_textMany : Int32) (q_toldMany : Int32) (q_toldAt_ : Nat) (q_hasTold : Int32) (q_stack_ : Nat) (q_codes : Int32) (q_ones : Int32) (q_top : Int32) (q_deep : Int32) (q_isWhole : Int32) (q_truths_ : Nat) (q_imaged_ : Nat) (q_namesKept_ : Nat) (q_areKept_ : Nat) (q_s : Nat → Int32) (hb0 : 0 ≤ q_length.toInt ∧ q_length.toInt ≤ 940) (hb1 : 0 ≤ q_size.toInt ∧ q_size.toInt ≤ 940) (hb2 : 0 ≤ q_p.toInt ∧ q_p.toInt ≤ 940) (hb3 : 0 ≤ q_limit.toInt ∧ q_limit.toInt ≤ 940) (hb4 : 0 ≤ q_span.toInt ∧ q_span.toInt ≤ 940) (hb5 : 0 ≤ q_number.toInt ∧ q_number.toInt ≤ 8214) (hb6 : (-1) ≤ q_got.toInt ∧ q_got.toInt ≤ 8214) (hb7 : 0 ≤ q_one.toInt ∧ q_one.toInt ≤ 7) (hb8 : 0 ≤ q_two.toInt ∧ q_two.toInt ≤ 7) (hb9 : 0 ≤ q_undoMany.toInt ∧ q_undoMany.toInt ≤ 8) (hb10 : (-1) ≤ q_wayMany.toInt ∧ q_wayMany.toInt ≤ 8) (hb11 : (-1) ≤ q_keptMany.toInt ∧ q_keptMany.toInt ≤ 8) (hb12 : (-1) ≤ q_askedMany.toInt ∧ q_askedMany.toInt ≤ 3) (hb13 : 0 ≤ q_hasTorn.toInt ∧ q_hasTorn.toInt ≤ 1) (hb14 : 0 ≤ q_hasTurn.toInt ∧ q_hasTurn.toInt ≤ 1) (hb15 : 0 ≤ q_textMany.toInt ∧ q_textMany.toInt ≤ 48) (hb16 : 0 ≤ q_toldMany.toInt ∧ q_toldMany.toInt ≤ 40) (hb17 : 0 ≤ q_hasTold.toInt ∧ q_hasTold.toInt ≤ 1) (hb18 : 0 ≤ q_codes.toInt ∧ q_codes.toInt ≤ 40) (hb19 : 0 ≤ q_ones.toInt ∧ q_ones.toInt ≤ 20) (hb20 : 0 ≤ q_top.toInt ∧ q_top.toInt ≤ 40) (hb21 : 0 ≤ q_isWhole.toInt ∧ q_isWhole.toInt ≤ 1) (hb22 : 0 ≤ a.toInt ∧ a.toInt ≤ 7) (hR0 : Rg q_s 0 1 0 8) (hR1 : Rg q_s 1 3 0 6) (hR2 : Rg q_s 3 4 1 50) (hR3 : Rg q_s 4 5 1 5) (hR4 : Rg q_s 103 104 0 255) (hR5 : Rg q_s 7 23 0 5) (hR6 : Rg q_s 106 122 0 5) (hR7 : Rg q_s 23 31 0 99) (hR8 : Rg q_s 122 130 0 99) {p : Program} {e : Env} {s : State} {m : MethodId} {args : Array Value} {below : List Frame} {meth : Method} {c : Code} {A : Nat → Prop} {Q : State → Prop} {cells slots : Nat} (hroom : cells ≤ ((Rm 1 22 0 0)).cells ∧ slots ≤ ((Rm 1 22 0 0)).slots) (C : Cx p s m args meth c cX11_linesOf 4 (some .int) RX11 "linesOf" D cy A) (hQ : Q = MQ below (va_Qi (fun (r : Int32) (u : Unit) => (0 ≤ r.toInt ∧ r.toInt ≤ 255) ∧ (r = lnF q_s a (q_s 0).toNatClampNeg)) (Bx D A (fun u : Unit => [(q, oC11 q_thrown q_tape_ q_length q_size q_p q_limit q_s_ q_h_ q_read_ q_names_ q_reserved_ q_token q_at q_span q_number q_fault q_faultAt q_word q_got q_lines q_onces q_webs q_one q_two q_seed q_undone_ q_before_ q_undoMany q_far_ q_wayRow_ q_wayMany q_keptRow_ q_askedRow_ q_rares_ q_trial_ q_keptMany q_askedMany q_hangs_ q_paths_ q_tornSteps q_hasTorn q_turnOne q_hasTurn q_text_ q_textMany q_toldMany q_toldAt_ q_hasTold q_stack_ q_codes q_ones q_top q_deep q_isWhole q_truths_ q_imaged_ q_namesKept_ q_areKept_), (q_s_, aC1 cy 383 q_s)])) A) args s ((Rm 1 22 0 0)).cells ((Rm 1 22 0 0)).slots A) (H : Heap) (locs : List Loc) (ls : Array Slot) (hP : va_P D vwCl [(q, oC11 q_thrown q_tape_ q_length q_size q_p q_limit q_s_ q_h_ q_read_ q_names_ q_reserved_ q_token q_at q_span q_number q_fault q_faultAt q_word q_got q_lines q_onces q_webs q_one q_two q_seed q_undone_ q_before_ q_undoMany q_far_ q_wayRow_ q_wayMany q_keptRow_ q_askedRow_ q_rares_ q_trial_ q_keptMany q_askedMany q_hangs_ q_paths_ q_tornSteps q_hasTorn q_turnOne q_hasTurn q_text_ q_textMany q_toldMany q_toldAt_ q_hasTold q_stack_ q_codes q_ones q_top q_deep q_isWhole q_truths_ q_imaged_ q_namesKept_ q_areKept_), (q_s_, aC1 cy 383 q_s)] H) (hD : va_D A [(q, oC11 q_thrown q_tape_ q_length q_size q_p q_limit q_s_ q_h_ q_read_ q_names_ q_reserved_ q_token q_at q_span q_number q_fault q_faultAt q_word q_got q_lines q_onces q_webs q_one q_two q_seed q_undone_ q_before_ q_undoMany q_far_ q_wayRow_ q_wayMany q_keptRow_ q_askedRow_ q_rares_ q_trial_ q_keptMany q_askedMany q_hangs_ q_paths_ q_tornSteps q_hasTorn q_turnOne q_hasTurn q_text_ q_textMany q_toldMany q_toldAt_ q_hasTold q_stack_ q_codes q_ones q_top q_deep q_isWhole q_truths_ q_imaged_ q_namesKept_ q_areKept_), (q_s_, aC1 cy 383 q_s)]) (hS : va_S A s.heap H locs) (hl : lv_has ls 4 [(0, .ref q), (1, .int a)]) : W p l e (Rm 1 22 0 0) s m args below meth c H locs cells slots Q (F0 m 0 ls []) := by
  have hx := C.1
  have hb := C.2.1
  obtain ⟨n_1, en_1⟩ : ∃ z : Int32, z = q_s 0 := ⟨_, rfl⟩
  have hn_1 : 0 ≤ n_1.toInt ∧ n_1.toInt ≤ 8 := (by rw [en_1]; exact hR0 0 (by decide) (by decide))
  refine lv_iconst (v := 0) hx hb dX11_linesOf_0 (by decide) ?_
  refine lv_istore_n (lv' := [(2, .int 0), (0, .ref q), (1, .int a)]) hx hb dX11_linesOf_1 rfl hl (by decide) rfl (fun ls hl => ?_)
  refine lv_iconst (v := 0) hx hb dX11_linesOf_2 (by decide) ?_
  refine lv_istore_n (lv' := [(3, .int 0), (2, .int 0), (0, .ref q), (1, .int a)]) hx hb dX11_linesOf_3 rfl hl (by decide) rfl (fun ls hl => ?_)
  have lp_4_3 : ∀ (n_4 : Nat) (x_2 : Int32) (x_3 : Int32) (H : Heap) (locs : List Loc) (ls : Array Slot), (-1) * x_3.toInt + 8 < (n_4 : Int) → (0 ≤ x_2.toInt ∧ x_2.toInt ≤ 255) → (0 ≤ x_3.toInt ∧ x_3.toInt ≤ 8) → (0 ≤ n_1.toInt + (-1) * x_3.toInt) → (x_2 = lnF q_s a x_3.toNatClampNeg) → va_P D vwCl [(q, oC11 q_thrown q_tape_ q_length q_size q_p q_limit q_s_ q_h_ q_read_ q_names_ q_reserved_ q_token q_at q_span q_number q_fault q_faultAt q_word q_got q_lines q_onces q_webs q_one q_two q_seed q_undone_ q_before_ q_undoMany q_far_ q_wayRow_ q_wayMany q_keptRow_ q_askedRow_ q_rares_ q_trial_ q_keptMany q_askedMany q_hangs_ q_paths_ q_tornSteps q_hasTorn q_turnOne q_hasTurn q_text_ q_textMany q_toldMany q_toldAt_ q_hasTold q_stack_ q_codes q_ones q_top q_deep q_isWhole q_truths_ q_imaged_ q_namesKept_ q_areKept_), (q_s_, aC1 cy 383 q_s)] H → va_D A [(q, oC11 q_thrown q_tape_ q_length q_size q_p q_limit q_s_ q_h_ q_read_ q_names_ q_reserved_ q_token q_at q_span q_number q_fault q_faultAt q_word q_got q_lines q_onces q_webs q_one q_two q_seed q_undone_ q_before_ q_undoMany q_far_ q_wayRow_ q_wayMany q_keptRow_ q_askedRow_ q_rares_ q_trial_ q_keptMany q_askedMany q_hangs_ q_paths_ q_tornSteps q_hasTorn q_turnOne q_hasTurn q_text_ q_textMany q_toldMany q_toldAt_ q_hasTold q_stack_ q_codes q_ones q_top q_deep q_isWhole q_truths_ q_imaged_ q_namesKept_ q_areKept_), (q_s_, aC1 cy 383 q_s)] → va_S A s.heap H locs → lv_has ls 4 [(0, .ref q), (1, .int a), (2, .int x_2), (3, .int x_3)] → W p l e (Rm 1 22 0 0) s m args below meth c H locs cells slots Q (F0 m 4 ls []) := by
    intro n_4
    induction n_4 with
    | zero =>
      intro x_2 x_3 H locs ls hm_9 hf_5 hf_6 hf_7 hf_8 hP hD hS hl
      exact absurd hm_9 (by omega)
    | succ n_4 ih_10 =>
      intro x_2 x_3 H locs ls hm_9 hf_5 hf_6 hf_7 hf_8 hP hD hS hl
      refine lv_iload_n hx hb dX11_linesOf_4 rfl (lv_at hl 3 rfl) ?_
      refine lv_aload_n hx hb dX11_linesOf_5 rfl (lv_at hl 0 rfl) ?_
      refine q_get11 (v := .ref q_s_) C hP 0 6 rfl fT_6 (by decide) kF_RX11_33 rfl dX11_linesOf_6 ?_
      refine lv_iconst (v := 0) hx hb dX11_linesOf_9 (by decide) ?_
      refine q_iald (v := n_1) C hP 1 rfl (vin (by decide +kernel)) en_1.symm dX11_linesOf_10 ?_
      refine lv_icmp_ge (tgt := 45) hx hb dX11_linesOf_11 (by decide) (fun c_12 => ?_) (fun c_12 => ?_)
      · have hc_12 := o_le (rfl : n_1.toInt = n_1.toInt) (rfl : x_3.toInt = x_3.toInt) c_12
        refine lv_iload_n hx hb dX11_linesOf_45 rfl (lv_at hl 2 rfl) ?_
        refine o_wq hQ ?_
        exact q_iret (rm := (Rm 1 22 0 0)) C hS () rfl ⟨(show 0 ≤ x_2.toInt ∧ x_2.toInt ≤ 255 by omega), (show x_2 = lnF q_s a (q_s 0).toNatClampNeg from (lnF_end (k := x_3) hf_8 en_1 (by omega)))⟩ (q_subP hP [0, 1] rfl) (hD.sub [0, 1] (by decide) rfl) hroom.1 hroom.2 dX11_linesOf_46
      · have hc_12 := o_nle (rfl : n_1.toInt = n_1.toInt) (rfl : x_3.toInt = x_3.toInt) c_12
        refine lv_iload_n hx hb dX11_linesOf_14 rfl (lv_at hl 2 rfl) ?_
        refine lv_aload_n hx hb dX11_linesOf_15 rfl (lv_at hl 0 rfl) ?_
        refine lv_iload_n hx hb dX11_linesOf_16 rfl (lv_at hl 1 rfl) ?_
        refine lv_iload_n hx hb dX11_linesOf_17 rfl (lv_at hl 3 rfl) ?_
        refine q_ai (wr := []) (r_V (rm := (Rm 0 0 0 0)) (q0 := 0) (As := [.int a, .int x_3]) (rest := [.int x_2]) (wc := [(q, oC11 q_thrown q_tape_ q_length q_size q_p q_limit q_s_ q_h_ q_read_ q_names_ q_reserved_ q_token q_at q_span q_number q_fault q_faultAt q_word q_got q_lines q_onces q_webs q_one q_two q_seed q_undone_ q_before_ q_undoMany q_far_ q_wayRow_ q_wayMany q_keptRow_ q_askedRow_ q_rares_ q_trial_ q_keptMany q_askedMany q_hangs_ q_paths_ q_tornSteps q_hasTorn q_turnOne q_hasTurn q_text_ q_textMany q_toldMany q_toldAt_ q_hasTold q_stack_ q_codes q_ones q_top q_deep q_isWhole q_truths_ q_imaged_ q_namesKept_ q_areKept_), (q_s_, aC1 cy 383 q_s)]) C hS (q_subP hP [0, 1] rfl) (hD.sub [0, 1] (by decide) rfl) (y_threadOf l D cy q a x_3 q_thrown q_tape_ q_length q_size q_p q_limit q_s_ q_h_ q_read_ q_names_ q_reserved_ q_token q_at q_span q_number q_fault q_faultAt q_word q_got q_lines q_onces q_webs q_one q_two q_seed q_undone_ q_before_ q_undoMany q_far_ q_wayRow_ q_wayMany q_keptRow_ q_askedRow_ q_rares_ q_trial_ q_keptMany q_askedMany q_hangs_ q_paths_ q_tornSteps q_hasTorn q_turnOne q_hasTurn q_text_ q_textMany q_toldMany q_toldAt_ q_hasTold q_stack_ q_codes q_ones q_top q_deep q_isWhole q_truths_ q_imaged_ q_namesKept_ q_areKept_ q_s _ (by omega) (by omega) (by omega) (by omega) (by omega) (by omega) (by omega) (by omega) (by omega) (by omega) (by omega) (by omega) (by omega) (by omega) (by omega) (by omega) (by omega) (by omega) (by omega) (by omega) (by omega) (by omega) (by omega) (by omega) hR0 hR1 hR2 hR3 hR4 hR5 hR6 hR7 hR8) kwV_X11_threadOf kM_RX11_291 rfl rfl ⟨Nat.le_of_ble_eq_true rfl, Nat.le_of_ble_eq_true rfl⟩ rfl hl.1 rfl (Nat.le_of_ble_eq_true rfl) dX11_linesOf_18 ⟨hroom.1, hroom.2⟩) C.2.2.2.2.2.2.1 hP hD hS [0, 1] [] rfl rfl (by decide) (by decide) (fun r_14 u_13 H locs hw_15 hP hD hS => ?_)
        have hp_15 : r_14 = thr q_s a x_3 := hw_15
        clear hw_15
        refine lv_aload_n hx hb dX11_linesOf_21 rfl (lv_at hl 0 rfl) ?_
        refine q_get11 (v := .ref q_s_) C hP 0 6 rfl fT_6 (by decide) kF_RX11_33 rfl dX11_linesOf_22 ?_
        refine lv_iconst (v := 5) hx hb dX11_linesOf_25 (by decide) ?_
        refine q_iald (v := q_s 5) C hP 1 rfl (vin (by decide +kernel)) rfl dX11_linesOf_26 ?_
        refine lv_topi (fun z_17 ez_17 => ?_)
        refine lv_icmp_lt (tgt := 36) hx hb dX11_linesOf_27 (by decide) (fun c_18 => ?_) (fun c_18 => ?_)
        · have hc_18 := o_lt (rfl : r_14.toInt = r_14.toInt) (rfl : z_17.toInt = z_17.toInt) c_18
          refine lv_iconst (v := 0) hx hb dX11_linesOf_36 (by decide) ?_
          refine lv_ior hx hb dX11_linesOf_37 ?_
          refine lv_topi (fun z_19 hz_19 => ?_)
          have ez_19 := hz_19
          have hz_19 := o_or 8 256 hz_19 (rfl : x_2.toInt = x_2.toInt) (by decide : (0 : Int32).toInt = 0) (by omega) (by omega) (by omega) (by omega) (by decide) (by decide)
          refine lv_istore_n (lv' := [(2, .int z_19), (0, .ref q), (1, .int a), (3, .int x_3)]) hx hb dX11_linesOf_38 rfl hl (by decide) rfl (fun ls hl => ?_)
          obtain ⟨z_20, hz_20⟩ : ∃ z : Int32, z = x_3 + 1 := ⟨_, rfl⟩
          refine lv_iinc (v := z_20) (lv' := [(3, .int z_20), (2, .int z_19), (0, .ref q), (1, .int a)]) hx hb dX11_linesOf_39 hl (k := 3) rfl hz_20.symm (by decide) rfl (fun ls hl => ?_)
          have hz_20 := o_add hz_20 (rfl : x_3.toInt = x_3.toInt) (by decide : (1 : Int32).toInt = 1) (by omega) (by omega)
          have hq_20 : z_19 = lnF q_s a z_20.toNatClampNeg := lnF_b (k := x_3) hf_8 (by omega) hp_15 ez_17 (by omega) ez_19 (by omega)
          refine lv_goto (tgt := 4) hx hb dX11_linesOf_42 (by decide) ?_
          exact ih_10 z_19 z_20 H locs ls (by omega) (by omega) (by omega) (by omega) hq_20 hP hD hS (lv_sub hl [2, 3, 1, 0] rfl)
        · have hc_18 := o_nlt (rfl : r_14.toInt = r_14.toInt) (rfl : z_17.toInt = z_17.toInt) c_18
          refine lv_iconst (v := 1) hx hb dX11_linesOf_30 (by decide) ?_
          refine lv_iload_n hx hb dX11_linesOf_31 rfl (lv_at hl 3 rfl) ?_
          refine lv_ishl hx hb dX11_linesOf_32 ?_
          refine lv_topi (fun z_22 hz_22 => ?_)
          have ez_22 := hz_22
          have hz_22 := o_shl1 hz_22 (rfl : x_3.toInt = x_3.toInt) (by omega) (by omega)
          refine lv_goto (tgt := 37) hx hb dX11_linesOf_33 (by decide) ?_
          refine lv_ior hx hb dX11_linesOf_37 ?_
          refine lv_topi (fun z_23 hz_23 => ?_)
          have ez_23 := hz_23
          have hz_23 := o_or 8 256 hz_23 (rfl : x_2.toInt = x_2.toInt) (rfl : z_22.toInt = z_22.toInt) (by omega) (by omega) (by omega) (by omega) (by decide) (by decide)
          refine lv_istore_n (lv' := [(2, .int z_23), (0, .ref q), (1, .int a), (3, .int x_3)]) hx hb dX11_linesOf_38 rfl hl (by decide) rfl (fun ls hl => ?_)
          obtain ⟨z_24, hz_24⟩ : ∃ z : Int32, z = x_3 + 1 := ⟨_, rfl⟩
          refine lv_iinc (v := z_24) (lv' := [(3, .int z_24), (2, .int z_23), (0, .ref q), (1, .int a)]) hx hb dX11_linesOf_39 hl (k := 3) rfl hz_24.symm (by decide) rfl (fun ls hl => ?_)
          have hz_24 := o_add hz_24 (rfl : x_3.toInt = x_3.toInt) (by decide : (1 : Int32).toInt = 1) (by omega) (by omega)
          have hq_24 : z_23 = lnF q_s a z_24.toNatClampNeg := lnF_a (k := x_3) hf_8 (by omega) hp_15 ez_17 (by omega) ez_22 ez_23 (by omega)
          refine lv_goto (tgt := 4) hx hb dX11_linesOf_42 (by decide) ?_
          exact ih_10 z_23 z_24 H locs ls (by omega) (by omega) (by omega) (by omega) hq_24 hP hD hS (lv_sub hl [2, 3, 1, 0] rfl)
  exact lp_4_3 9 (0 : Int32) (0 : Int32) H locs ls (by have e0 : (0 : Int32).toInt = 0 := (by decide); omega) (by have e0 : (0 : Int32).toInt = 0 := (by decide); omega) (by have e0 : (0 : Int32).toInt = 0 := (by decide); omega) (by have e0 : (0 : Int32).toInt = 0 := (by decide); omega) lnF_zero hP hD hS (lv_sub hl [2, 3, 1, 0] rfl)
theorem y_linesOf (l : Launch) (D : va_G) (cy : Nat → ClassId) (q : Nat) (a : Int32) (q_thrown : Int32) (q_tape_ : Nat) (q_length : Int32) (q_size : Int32) (q_p : Int32) (q_limit : Int32) (q_s_ : Nat) (q_h_ : Nat) (q_read_ : Nat) (q_names_ : Nat) (q_reserved_ : Nat) (q_token : Int32) (q_at : Int32) (q_span : Int32) (q_number : Int32) (q_fault : Int32) (q_faultAt : Int32) (q_word : Int64) (q_got : Int32) (q_lines : Int32) (q_onces : Int32) (q_webs : Int32) (q_one : Int32) (q_two : Int32) (q_seed : Int32) (q_undone_ : Nat) (q_before_ : Nat) (q_undoMany : Int32) (q_far_ : Nat) (q_wayRow_ : Nat) (q_wayMany : Int32) (q_keptRow_ : Nat) (q_askedRow_ : Nat) (q_rares_ : Nat) (q_trial_ : Nat) (q_keptMany : Int32) (q_askedMany : Int32) (q_hangs_ : Nat) (q_paths_ : Nat) (q_tornSteps : Int32) (q_hasTorn : Int32) (q_turnOne : Int32) (q_hasTurn : Int32) (q_text_ : Nat) (q_textMany : Int32) (q_toldMany : Int32) (q_toldAt_ : Nat) (q_hasTold : Int32) (q_stack_ : Nat) (q_codes : Int32) (q_ones : Int32) (q_top : Int32) (q_deep : Int32) (q_isWhole : Int32) (q_truths_ : Nat) (q_imaged_ : Nat) (q_namesKept_ : Nat) (q_areKept_ : Nat) (q_s : Nat → Int32) (sz : Nat) (hb0 : 0 ≤ q_length.toInt ∧ q_length.toInt ≤ 940) (hb1 : 0 ≤ q_size.toInt ∧ q_size.toInt ≤ 940) (hb2 : 0 ≤ q_p.toInt ∧ q_p.toInt ≤ 940) (hb3 : 0 ≤ q_limit.toInt ∧ q_limit.toInt ≤ 940) (hb4 : 0 ≤ q_span.toInt ∧ q_span.toInt ≤ 940) (hb5 : 0 ≤ q_number.toInt ∧ q_number.toInt ≤ 8214) (hb6 : (-1) ≤ q_got.toInt ∧ q_got.toInt ≤ 8214) (hb7 : 0 ≤ q_one.toInt ∧ q_one.toInt ≤ 7) (hb8 : 0 ≤ q_two.toInt ∧ q_two.toInt ≤ 7) (hb9 : 0 ≤ q_undoMany.toInt ∧ q_undoMany.toInt ≤ 8) (hb10 : (-1) ≤ q_wayMany.toInt ∧ q_wayMany.toInt ≤ 8) (hb11 : (-1) ≤ q_keptMany.toInt ∧ q_keptMany.toInt ≤ 8) (hb12 : (-1) ≤ q_askedMany.toInt ∧ q_askedMany.toInt ≤ 3) (hb13 : 0 ≤ q_hasTorn.toInt ∧ q_hasTorn.toInt ≤ 1) (hb14 : 0 ≤ q_hasTurn.toInt ∧ q_hasTurn.toInt ≤ 1) (hb15 : 0 ≤ q_textMany.toInt ∧ q_textMany.toInt ≤ 48) (hb16 : 0 ≤ q_toldMany.toInt ∧ q_toldMany.toInt ≤ 40) (hb17 : 0 ≤ q_hasTold.toInt ∧ q_hasTold.toInt ≤ 1) (hb18 : 0 ≤ q_codes.toInt ∧ q_codes.toInt ≤ 40) (hb19 : 0 ≤ q_ones.toInt ∧ q_ones.toInt ≤ 20) (hb20 : 0 ≤ q_top.toInt ∧ q_top.toInt ≤ 40) (hb21 : 0 ≤ q_isWhole.toInt ∧ q_isWhole.toInt ≤ 1) (hb22 : 0 ≤ a.toInt ∧ a.toInt ≤ 7) (hR0 : Rg q_s 0 1 0 8) (hR1 : Rg q_s 1 3 0 6) (hR2 : Rg q_s 3 4 1 50) (hR3 : Rg q_s 4 5 1 5) (hR4 : Rg q_s 103 104 0 255) (hR5 : Rg q_s 7 23 0 5) (hR6 : Rg q_s 106 122 0 5) (hR7 : Rg q_s 23 31 0 99) (hR8 : Rg q_s 122 130 0 99) : MI l yX11_linesOf cX11_linesOf 4 (some .int) (Rm 1 22 0 0) D cy [.ref q, .int a] sz [(q, oC11 q_thrown q_tape_ q_length q_size q_p q_limit q_s_ q_h_ q_read_ q_names_ q_reserved_ q_token q_at q_span q_number q_fault q_faultAt q_word q_got q_lines q_onces q_webs q_one q_two q_seed q_undone_ q_before_ q_undoMany q_far_ q_wayRow_ q_wayMany q_keptRow_ q_askedRow_ q_rares_ q_trial_ q_keptMany q_askedMany q_hangs_ q_paths_ q_tornSteps q_hasTorn q_turnOne q_hasTurn q_text_ q_textMany q_toldMany q_toldAt_ q_hasTold q_stack_ q_codes q_ones q_top q_deep q_isWhole q_truths_ q_imaged_ q_namesKept_ q_areKept_), (q_s_, aC1 cy 383 q_s)] (fun (r : Int32) (u : Unit) => (0 ≤ r.toInt ∧ r.toInt ≤ 255) ∧ (r = lnF q_s a (q_s 0).toNatClampNeg)) (fun u : Unit => [(q, oC11 q_thrown q_tape_ q_length q_size q_p q_limit q_s_ q_h_ q_read_ q_names_ q_reserved_ q_token q_at q_span q_number q_fault q_faultAt q_word q_got q_lines q_onces q_webs q_one q_two q_seed q_undone_ q_before_ q_undoMany q_far_ q_wayRow_ q_wayMany q_keptRow_ q_askedRow_ q_rares_ q_trial_ q_keptMany q_askedMany q_hangs_ q_paths_ q_tornSteps q_hasTorn q_turnOne q_hasTurn q_text_ q_textMany q_toldMany q_toldAt_ q_hasTold q_stack_ q_codes q_ones q_top q_deep q_isWhole q_truths_ q_imaged_ q_namesKept_ q_areKept_), (q_s_, aC1 cy 383 q_s)]) := by
  refine MI.enter (by decide) (Nat.le_of_ble_eq_true rfl) ?_
  intro p e s m below meth c ls A hsz hAe C hP hD hS hl
  exact b_y_linesOf l D cy q a q_thrown q_tape_ q_length q_size q_p q_limit q_s_ q_h_ q_read_ q_names_ q_reserved_ q_token q_at q_span q_number q_fault q_faultAt q_word q_got q_lines q_onces q_webs q_one q_two q_seed q_undone_ q_before_ q_undoMany q_far_ q_wayRow_ q_wayMany q_keptRow_ q_askedRow_ q_rares_ q_trial_ q_keptMany q_askedMany q_hangs_ q_paths_ q_tornSteps q_hasTorn q_turnOne q_hasTurn q_text_ q_textMany q_toldMany q_toldAt_ q_hasTold q_stack_ q_codes q_ones q_top q_deep q_isWhole q_truths_ q_imaged_ q_namesKept_ q_areKept_ q_s hb0 hb1 hb2 hb3 hb4 hb5 hb6 hb7 hb8 hb9 hb10 hb11 hb12 hb13 hb14 hb15 hb16 hb17 hb18 hb19 hb20 hb21 hb22 hR0 hR1 hR2 hR3 hR4 hR5 hR6 hR7 hR8 ⟨Nat.le_of_ble_eq_true rfl, Nat.le_of_ble_eq_true rfl⟩ C rfl _ _ ls hP hD hS hl
set_option maxHeartbeats 4000000 in
set_option maxRecDepth 100000 in
theorem b_y_bookAt (l : Launch) (D : va_G) (cy : Nat → ClassId) (q : Nat) (a : Int32) (b : Int32) (q_thrown : Int32) (q_tape_ : Nat) (q_length : Int32) (q_size : Int32) (q_p : Int32) (q_limit : Int32) (q_s_ : Nat) (q_h_ : Nat) (q_read_ : Nat) (q_names_ : Nat) (q_reserved_ : Nat) (q_token : Int32) (q_at : Int32) (q_span : Int32) (q_number : Int32) (q_fault : Int32) (q_faultAt : Int32) (q_word : Int64) (q_got : Int32) (q_lines : Int32) (q_onces : Int32) (q_webs : Int32) (q_one : Int32) (q_two : Int32) (q_seed : Int32) (q_undone_ : Nat) (q_before_ : Nat) (q_undoMany : Int32) (q_far_ : Nat) (q_wayRow_ : Nat) (q_wayMany : Int32) (q_keptRow_ : Nat) (q_askedRow_ : Nat) (q_rares_ : Nat) (q_trial_ : Nat) (q_keptMany : Int32) (q_askedMany : Int32) (q_hangs_ : Nat) (q_paths_ : Nat) (q_tornSteps : Int32) (q_hasTorn : Int32) (q_turnOne : Int32) (q_hasTurn : Int32) (q_text_ : Nat) (q_textMany : Int32) (q_toldMany : Int32) (q_toldAt_ : Nat) (q_hasTold : Int32) (q_stack_ : Nat) (q_codes : Int32) (q_ones : Int32) (q_top : Int32) (q_deep : Int32) (q_isWhole : Int32) (q_truths_ : Nat) (q_imaged_ : Nat) (q_namesKept_ : Nat) (q_areKept_ : Nat) (q_s : Nat → Int32) (hb0 : 0 ≤ q_length.toInt ∧ q_length.toInt ≤ 940) (hb1 : 0 ≤ q_size.toInt ∧ q_size.toInt ≤ 940) (hb2 : 0 ≤ q_p.toInt ∧ q_p.toInt ≤ 940) (hb3 : 0 ≤ q_limit.toInt ∧ q_limit.toInt ≤ 940) (hb4 : 0 ≤ q_span.toInt ∧ q_span.toInt ≤ 940) (hb5 : 0 ≤ q_number.toInt ∧ q_number.toInt ≤ 8214) (hb6 : (-1) ≤ q_got.toInt ∧ q_got.toInt ≤ 8214) (hb7 : 0 ≤ q_one.toInt ∧ q_one.toInt ≤ 7) (hb8 : 0 ≤ q_two.toInt ∧ q_two.toInt ≤ 7) (hb9 : 0 ≤ q_undoMany.toInt ∧ q_undoMany.toInt ≤ 8) (hb10 : (-1) ≤ q_wayMany.toInt ∧ q_wayMany.toInt ≤ 8) (hb11 : (-1) ≤ q_keptMany.toInt ∧ q_keptMany.toInt ≤ 8) (hb12 : (-1) ≤ q_askedMany.toInt ∧ q_askedMany.toInt ≤ 3) (hb13 : 0 ≤ q_hasTorn.toInt ∧ q_hasTorn.toInt ≤ 1) (hb14 : 0 ≤ q_hasTurn.toInt ∧ q_hasTurn.toInt ≤ 1) (hb15 : 0 ≤ q_textMany.toInt ∧ q_textMany.toInt ≤ 48) (hb16 : 0 ≤ q_toldMany.toInt ∧ q_toldMany.toInt ≤ 40) (hb17 : 0 ≤ q_hasTold.toInt ∧ q_hasTold.toInt ≤ 1) (hb18 : 0 ≤ q_codes.toInt ∧ q_codes.toInt ≤ 40) (hb19 : 0 ≤ q_ones.toInt ∧ q_ones.toInt ≤ 20) (hb20 : 0 ≤ q_top.toInt ∧ q_top.toInt ≤ 40) (hb21 : 0 ≤ q_isWhole.toInt ∧ q_isWhole.toInt ≤ 1) (hR0 : Rg q_s 0 1 0 8) (hR1 : Rg q_s 1 3 0 6) (hR2 : Rg q_s 3 4 1 50) (hR3 : Rg q_s 4 5 1 5) (hR4 : Rg q_s 103 104 0 255) (hR5 : Rg q_s 7 23 0 5) (hR6 : Rg q_s 106 122 0 5) (hR7 : Rg q_s 23 31 0 99) (hR8 : Rg q_s 122 130 0 99) {p : Program} {e : Env} {s : State} {m : MethodId} {args : Array Value} {below : List Frame} {meth : Method} {c : Code} {A : Nat → Prop} {Q : State → Prop} {cells slots : Nat} (hroom : cells ≤ ((Rm 0 0 0 0)).cells ∧ slots ≤ ((Rm 0 0 0 0)).slots) (C : Cx p s m args meth c cX11_bookAt 4 (some .int) RX11 "bookAt" D cy A) (hQ : Q = MQ below (va_Qi (fun (r : Int32) (u : Unit) => ((-1) ≤ r.toInt ∧ r.toInt ≤ 7)) (Bx D A (fun u : Unit => [(q, oC11 q_thrown q_tape_ q_length q_size q_p q_limit q_s_ q_h_ q_read_ q_names_ q_reserved_ q_token q_at q_span q_number q_fault q_faultAt q_word q_got q_lines q_onces q_webs q_one q_two q_seed q_undone_ q_before_ q_undoMany q_far_ q_wayRow_ q_wayMany q_keptRow_ q_askedRow_ q_rares_ q_trial_ q_keptMany q_askedMany q_hangs_ q_paths_ q_tornSteps q_hasTorn q_turnOne q_hasTurn q_text_ q_textMany q_toldMany q_toldAt_ q_hasTold q_stack_ q_codes q_ones q_top q_deep q_isWhole q_truths_ q_imaged_ q_namesKept_ q_areKept_), (q_s_, aC1 cy 383 q_s)])) A) args s ((Rm 0 0 0 0)).cells ((Rm 0 0 0 0)).slots A) (H : Heap) (locs : List Loc) (ls : Array Slot) (hP : va_P D vwCl [(q, oC11 q_thrown q_tape_ q_length q_size q_p q_limit q_s_ q_h_ q_read_ q_names_ q_reserved_ q_token q_at q_span q_number q_fault q_faultAt q_word q_got q_lines q_onces q_webs q_one q_two q_seed q_undone_ q_before_ q_undoMany q_far_ q_wayRow_ q_wayMany q_keptRow_ q_askedRow_ q_rares_ q_trial_ q_keptMany q_askedMany q_hangs_ q_paths_ q_tornSteps q_hasTorn q_turnOne q_hasTurn q_text_ q_textMany q_toldMany q_toldAt_ q_hasTold q_stack_ q_codes q_ones q_top q_deep q_isWhole q_truths_ q_imaged_ q_namesKept_ q_areKept_), (q_s_, aC1 cy 383 q_s)] H) (hD : va_D A [(q, oC11 q_thrown q_tape_ q_length q_size q_p q_limit q_s_ q_h_ q_read_ q_names_ q_reserved_ q_token q_at q_span q_number q_fault q_faultAt q_word q_got q_lines q_onces q_webs q_one q_two q_seed q_undone_ q_before_ q_undoMany q_far_ q_wayRow_ q_wayMany q_keptRow_ q_askedRow_ q_rares_ q_trial_ q_keptMany q_askedMany q_hangs_ q_paths_ q_tornSteps q_hasTorn q_turnOne q_hasTurn q_text_ q_textMany q_toldMany q_toldAt_ q_hasTold q_stack_ q_codes q_ones q_top q_deep q_isWhole q_truths_ q_imaged_ q_namesKept_ q_areKept_), (q_s_, aC1 cy 383 q_s)]) (hS : va_S A s.heap H locs) (hl : lv_has ls 4 [(0, .ref q), (1, .int a), (2, .int b)]) : W p l e (Rm 0 0 0 0) s m args below meth c H locs cells slots Q (F0 m 0 ls []) := by
  have hx := C.1
  have hb := C.2.1
  have hqa := o_rng a
  have hqb := o_rng b
  refine lv_iconst (v := 0) hx hb dX11_bookAt_0 (by decide) ?_
  refine lv_istore_n (lv' := [(3, .int 0), (0, .ref q), (1, .int a), (2, .int b)]) hx hb dX11_bookAt_1 rfl hl (by decide) rfl (fun ls hl => ?_)
  have lp_2_1 : ∀ (n_2 : Nat) (x_1 : Int32) (H : Heap) (locs : List Loc) (ls : Array Slot), (-1) * x_1.toInt + 8 < (n_2 : Int) → (0 ≤ x_1.toInt ∧ x_1.toInt ≤ 8) → va_P D vwCl [(q, oC11 q_thrown q_tape_ q_length q_size q_p q_limit q_s_ q_h_ q_read_ q_names_ q_reserved_ q_token q_at q_span q_number q_fault q_faultAt q_word q_got q_lines q_onces q_webs q_one q_two q_seed q_undone_ q_before_ q_undoMany q_far_ q_wayRow_ q_wayMany q_keptRow_ q_askedRow_ q_rares_ q_trial_ q_keptMany q_askedMany q_hangs_ q_paths_ q_tornSteps q_hasTorn q_turnOne q_hasTurn q_text_ q_textMany q_toldMany q_toldAt_ q_hasTold q_stack_ q_codes q_ones q_top q_deep q_isWhole q_truths_ q_imaged_ q_namesKept_ q_areKept_), (q_s_, aC1 cy 383 q_s)] H → va_D A [(q, oC11 q_thrown q_tape_ q_length q_size q_p q_limit q_s_ q_h_ q_read_ q_names_ q_reserved_ q_token q_at q_span q_number q_fault q_faultAt q_word q_got q_lines q_onces q_webs q_one q_two q_seed q_undone_ q_before_ q_undoMany q_far_ q_wayRow_ q_wayMany q_keptRow_ q_askedRow_ q_rares_ q_trial_ q_keptMany q_askedMany q_hangs_ q_paths_ q_tornSteps q_hasTorn q_turnOne q_hasTurn q_text_ q_textMany q_toldMany q_toldAt_ q_hasTold q_stack_ q_codes q_ones q_top q_deep q_isWhole q_truths_ q_imaged_ q_namesKept_ q_areKept_), (q_s_, aC1 cy 383 q_s)] → va_S A s.heap H locs → lv_has ls 4 [(0, .ref q), (1, .int a), (2, .int b), (3, .int x_1)] → W p l e (Rm 0 0 0 0) s m args below meth c H locs cells slots Q (F0 m 2 ls []) := by
    intro n_2
    induction n_2 with
    | zero =>
      intro x_1 H locs ls hm_4 hf_3 hP hD hS hl
      exact absurd hm_4 (by omega)
    | succ n_2 ih_5 =>
      intro x_1 H locs ls hm_4 hf_3 hP hD hS hl
      refine lv_iload_n hx hb dX11_bookAt_2 rfl (lv_at hl 3 rfl) ?_
      refine lv_aload_n hx hb dX11_bookAt_3 rfl (lv_at hl 0 rfl) ?_
      refine q_get11 (v := .ref q_s_) C hP 0 6 rfl fT_6 (by decide) kF_RX11_33 rfl dX11_bookAt_4 ?_
      refine lv_iconst (v := 0) hx hb dX11_bookAt_7 (by decide) ?_
      refine q_iald (v := q_s 0) C hP 1 rfl (vin (by decide +kernel)) rfl dX11_bookAt_8 ?_
      refine lv_topi (fun z_7 ez_7 => ?_)
      have hz_7 : 0 ≤ z_7.toInt ∧ z_7.toInt ≤ 8 := (by rw [ez_7]; exact hR0 0 (by decide) (by decide))
      refine lv_icmp_ge (tgt := 46) hx hb dX11_bookAt_9 (by decide) (fun c_8 => ?_) (fun c_8 => ?_)
      · have hc_8 := o_le (rfl : z_7.toInt = z_7.toInt) (rfl : x_1.toInt = x_1.toInt) c_8
        refine lv_iconst (v := (-1)) hx hb dX11_bookAt_46 (by decide) ?_
        refine o_wq hQ ?_
        exact q_iret (rm := (Rm 0 0 0 0)) C hS () rfl (show (-1) ≤ ((-1) : Int32).toInt ∧ ((-1) : Int32).toInt ≤ 7 by decide) (q_subP hP [0, 1] rfl) (hD.sub [0, 1] (by decide) rfl) hroom.1 hroom.2 dX11_bookAt_47
      · have hc_8 := o_nle (rfl : z_7.toInt = z_7.toInt) (rfl : x_1.toInt = x_1.toInt) c_8
        refine lv_aload_n hx hb dX11_bookAt_12 rfl (lv_at hl 0 rfl) ?_
        refine q_get11 (v := .ref q_s_) C hP 0 6 rfl fT_6 (by decide) kF_RX11_33 rfl dX11_bookAt_13 ?_
        refine lv_bipush (v := 106) hx hb dX11_bookAt_16 (by decide) ?_
        refine lv_iload_n hx hb dX11_bookAt_18 rfl (lv_at hl 3 rfl) ?_
        refine lv_iadd hx hb dX11_bookAt_19 ?_
        refine lv_topi (fun z_9 hz_9 => ?_)
        have hz_9 := o_add hz_9 (by decide : (106 : Int32).toInt = 106) (rfl : x_1.toInt = x_1.toInt) (by omega) (by omega)
        refine q_iald (v := q_s z_9.toNatClampNeg) C hP 1 rfl (o_in (rfl : z_9.toInt = z_9.toInt) (by omega) (by omega)) rfl dX11_bookAt_20 ?_
        refine lv_topi (fun z_10 ez_10 => ?_)
        have hz_10 := Rg.at hR6 ez_10 (by have := o_cl (rfl : z_9.toInt = z_9.toInt) (by omega); omega) (by have := o_cl (rfl : z_9.toInt = z_9.toInt) (by omega); omega)
        refine lv_iload_n hx hb dX11_bookAt_21 rfl (lv_at hl 1 rfl) ?_
        refine lv_icmp_ne (tgt := 40) hx hb dX11_bookAt_22 (by decide) (fun c_11 => ?_) (fun c_11 => ?_)
        · have hc_11 := o_ne (rfl : z_10.toInt = z_10.toInt) (rfl : a.toInt = a.toInt) c_11
          obtain ⟨z_12, hz_12⟩ : ∃ z : Int32, z = x_1 + 1 := ⟨_, rfl⟩
          refine lv_iinc (v := z_12) (lv' := [(3, .int z_12), (0, .ref q), (1, .int a), (2, .int b)]) hx hb dX11_bookAt_40 hl (k := 3) rfl hz_12.symm (by decide) rfl (fun ls hl => ?_)
          have hz_12 := o_add hz_12 (rfl : x_1.toInt = x_1.toInt) (by decide : (1 : Int32).toInt = 1) (by omega) (by omega)
          refine lv_goto (tgt := 2) hx hb dX11_bookAt_43 (by decide) ?_
          exact ih_5 z_12 H locs ls (by omega) (by omega) hP hD hS (lv_sub hl [1, 2, 3, 0] rfl)
        · have hc_11 := o_eq (rfl : z_10.toInt = z_10.toInt) (rfl : a.toInt = a.toInt) c_11
          refine lv_aload_n hx hb dX11_bookAt_25 rfl (lv_at hl 0 rfl) ?_
          refine q_get11 (v := .ref q_s_) C hP 0 6 rfl fT_6 (by decide) kF_RX11_33 rfl dX11_bookAt_26 ?_
          refine lv_bipush (v := 114) hx hb dX11_bookAt_29 (by decide) ?_
          refine lv_iload_n hx hb dX11_bookAt_31 rfl (lv_at hl 3 rfl) ?_
          refine lv_iadd hx hb dX11_bookAt_32 ?_
          refine lv_topi (fun z_13 hz_13 => ?_)
          have hz_13 := o_add hz_13 (by decide : (114 : Int32).toInt = 114) (rfl : x_1.toInt = x_1.toInt) (by omega) (by omega)
          refine q_iald (v := q_s z_13.toNatClampNeg) C hP 1 rfl (o_in (rfl : z_13.toInt = z_13.toInt) (by omega) (by omega)) rfl dX11_bookAt_33 ?_
          refine lv_topi (fun z_14 ez_14 => ?_)
          have hz_14 := Rg.at hR6 ez_14 (by have := o_cl (rfl : z_13.toInt = z_13.toInt) (by omega); omega) (by have := o_cl (rfl : z_13.toInt = z_13.toInt) (by omega); omega)
          refine lv_iload_n hx hb dX11_bookAt_34 rfl (lv_at hl 2 rfl) ?_
          refine lv_icmp_ne (tgt := 40) hx hb dX11_bookAt_35 (by decide) (fun c_15 => ?_) (fun c_15 => ?_)
          · have hc_15 := o_ne (rfl : z_14.toInt = z_14.toInt) (rfl : b.toInt = b.toInt) c_15
            obtain ⟨z_16, hz_16⟩ : ∃ z : Int32, z = x_1 + 1 := ⟨_, rfl⟩
            refine lv_iinc (v := z_16) (lv' := [(3, .int z_16), (0, .ref q), (1, .int a), (2, .int b)]) hx hb dX11_bookAt_40 hl (k := 3) rfl hz_16.symm (by decide) rfl (fun ls hl => ?_)
            have hz_16 := o_add hz_16 (rfl : x_1.toInt = x_1.toInt) (by decide : (1 : Int32).toInt = 1) (by omega) (by omega)
            refine lv_goto (tgt := 2) hx hb dX11_bookAt_43 (by decide) ?_
            exact ih_5 z_16 H locs ls (by omega) (by omega) hP hD hS (lv_sub hl [1, 2, 3, 0] rfl)
          · have hc_15 := o_eq (rfl : z_14.toInt = z_14.toInt) (rfl : b.toInt = b.toInt) c_15
            refine lv_iload_n hx hb dX11_bookAt_38 rfl (lv_at hl 3 rfl) ?_
            refine o_wq hQ ?_
            exact q_iret (rm := (Rm 0 0 0 0)) C hS () rfl (show (-1) ≤ x_1.toInt ∧ x_1.toInt ≤ 7 by omega) (q_subP hP [0, 1] rfl) (hD.sub [0, 1] (by decide) rfl) hroom.1 hroom.2 dX11_bookAt_39
  exact lp_2_1 9 (0 : Int32) H locs ls (by have e0 : (0 : Int32).toInt = 0 := (by decide); omega) (by have e0 : (0 : Int32).toInt = 0 := (by decide); omega) hP hD hS (lv_sub hl [1, 2, 3, 0] rfl)
theorem y_bookAt (l : Launch) (D : va_G) (cy : Nat → ClassId) (q : Nat) (a : Int32) (b : Int32) (q_thrown : Int32) (q_tape_ : Nat) (q_length : Int32) (q_size : Int32) (q_p : Int32) (q_limit : Int32) (q_s_ : Nat) (q_h_ : Nat) (q_read_ : Nat) (q_names_ : Nat) (q_reserved_ : Nat) (q_token : Int32) (q_at : Int32) (q_span : Int32) (q_number : Int32) (q_fault : Int32) (q_faultAt : Int32) (q_word : Int64) (q_got : Int32) (q_lines : Int32) (q_onces : Int32) (q_webs : Int32) (q_one : Int32) (q_two : Int32) (q_seed : Int32) (q_undone_ : Nat) (q_before_ : Nat) (q_undoMany : Int32) (q_far_ : Nat) (q_wayRow_ : Nat) (q_wayMany : Int32) (q_keptRow_ : Nat) (q_askedRow_ : Nat) (q_rares_ : Nat) (q_trial_ : Nat) (q_keptMany : Int32) (q_askedMany : Int32) (q_hangs_ : Nat) (q_paths_ : Nat) (q_tornSteps : Int32) (q_hasTorn : Int32) (q_turnOne : Int32) (q_hasTurn : Int32) (q_text_ : Nat) (q_textMany : Int32) (q_toldMany : Int32) (q_toldAt_ : Nat) (q_hasTold : Int32) (q_stack_ : Nat) (q_codes : Int32) (q_ones : Int32) (q_top : Int32) (q_deep : Int32) (q_isWhole : Int32) (q_truths_ : Nat) (q_imaged_ : Nat) (q_namesKept_ : Nat) (q_areKept_ : Nat) (q_s : Nat → Int32) (sz : Nat) (hb0 : 0 ≤ q_length.toInt ∧ q_length.toInt ≤ 940) (hb1 : 0 ≤ q_size.toInt ∧ q_size.toInt ≤ 940) (hb2 : 0 ≤ q_p.toInt ∧ q_p.toInt ≤ 940) (hb3 : 0 ≤ q_limit.toInt ∧ q_limit.toInt ≤ 940) (hb4 : 0 ≤ q_span.toInt ∧ q_span.toInt ≤ 940) (hb5 : 0 ≤ q_number.toInt ∧ q_number.toInt ≤ 8214) (hb6 : (-1) ≤ q_got.toInt ∧ q_got.toInt ≤ 8214) (hb7 : 0 ≤ q_one.toInt ∧ q_one.toInt ≤ 7) (hb8 : 0 ≤ q_two.toInt ∧ q_two.toInt ≤ 7) (hb9 : 0 ≤ q_undoMany.toInt ∧ q_undoMany.toInt ≤ 8) (hb10 : (-1) ≤ q_wayMany.toInt ∧ q_wayMany.toInt ≤ 8) (hb11 : (-1) ≤ q_keptMany.toInt ∧ q_keptMany.toInt ≤ 8) (hb12 : (-1) ≤ q_askedMany.toInt ∧ q_askedMany.toInt ≤ 3) (hb13 : 0 ≤ q_hasTorn.toInt ∧ q_hasTorn.toInt ≤ 1) (hb14 : 0 ≤ q_hasTurn.toInt ∧ q_hasTurn.toInt ≤ 1) (hb15 : 0 ≤ q_textMany.toInt ∧ q_textMany.toInt ≤ 48) (hb16 : 0 ≤ q_toldMany.toInt ∧ q_toldMany.toInt ≤ 40) (hb17 : 0 ≤ q_hasTold.toInt ∧ q_hasTold.toInt ≤ 1) (hb18 : 0 ≤ q_codes.toInt ∧ q_codes.toInt ≤ 40) (hb19 : 0 ≤ q_ones.toInt ∧ q_ones.toInt ≤ 20) (hb20 : 0 ≤ q_top.toInt ∧ q_top.toInt ≤ 40) (hb21 : 0 ≤ q_isWhole.toInt ∧ q_isWhole.toInt ≤ 1) (hR0 : Rg q_s 0 1 0 8) (hR1 : Rg q_s 1 3 0 6) (hR2 : Rg q_s 3 4 1 50) (hR3 : Rg q_s 4 5 1 5) (hR4 : Rg q_s 103 104 0 255) (hR5 : Rg q_s 7 23 0 5) (hR6 : Rg q_s 106 122 0 5) (hR7 : Rg q_s 23 31 0 99) (hR8 : Rg q_s 122 130 0 99) : MI l yX11_bookAt cX11_bookAt 4 (some .int) (Rm 0 0 0 0) D cy [.ref q, .int a, .int b] sz [(q, oC11 q_thrown q_tape_ q_length q_size q_p q_limit q_s_ q_h_ q_read_ q_names_ q_reserved_ q_token q_at q_span q_number q_fault q_faultAt q_word q_got q_lines q_onces q_webs q_one q_two q_seed q_undone_ q_before_ q_undoMany q_far_ q_wayRow_ q_wayMany q_keptRow_ q_askedRow_ q_rares_ q_trial_ q_keptMany q_askedMany q_hangs_ q_paths_ q_tornSteps q_hasTorn q_turnOne q_hasTurn q_text_ q_textMany q_toldMany q_toldAt_ q_hasTold q_stack_ q_codes q_ones q_top q_deep q_isWhole q_truths_ q_imaged_ q_namesKept_ q_areKept_), (q_s_, aC1 cy 383 q_s)] (fun (r : Int32) (u : Unit) => ((-1) ≤ r.toInt ∧ r.toInt ≤ 7)) (fun u : Unit => [(q, oC11 q_thrown q_tape_ q_length q_size q_p q_limit q_s_ q_h_ q_read_ q_names_ q_reserved_ q_token q_at q_span q_number q_fault q_faultAt q_word q_got q_lines q_onces q_webs q_one q_two q_seed q_undone_ q_before_ q_undoMany q_far_ q_wayRow_ q_wayMany q_keptRow_ q_askedRow_ q_rares_ q_trial_ q_keptMany q_askedMany q_hangs_ q_paths_ q_tornSteps q_hasTorn q_turnOne q_hasTurn q_text_ q_textMany q_toldMany q_toldAt_ q_hasTold q_stack_ q_codes q_ones q_top q_deep q_isWhole q_truths_ q_imaged_ q_namesKept_ q_areKept_), (q_s_, aC1 cy 383 q_s)]) := by
  refine MI.enter (by decide) (Nat.le_of_ble_eq_true rfl) ?_
  intro p e s m below meth c ls A hsz hAe C hP hD hS hl
  exact b_y_bookAt l D cy q a b q_thrown q_tape_ q_length q_size q_p q_limit q_s_ q_h_ q_read_ q_names_ q_reserved_ q_token q_at q_span q_number q_fault q_faultAt q_word q_got q_lines q_onces q_webs q_one q_two q_seed q_undone_ q_before_ q_undoMany q_far_ q_wayRow_ q_wayMany q_keptRow_ q_askedRow_ q_rares_ q_trial_ q_keptMany q_askedMany q_hangs_ q_paths_ q_tornSteps q_hasTorn q_turnOne q_hasTurn q_text_ q_textMany q_toldMany q_toldAt_ q_hasTold q_stack_ q_codes q_ones q_top q_deep q_isWhole q_truths_ q_imaged_ q_namesKept_ q_areKept_ q_s hb0 hb1 hb2 hb3 hb4 hb5 hb6 hb7 hb8 hb9 hb10 hb11 hb12 hb13 hb14 hb15 hb16 hb17 hb18 hb19 hb20 hb21 hR0 hR1 hR2 hR3 hR4 hR5 hR6 hR7 hR8 ⟨Nat.le_of_ble_eq_true rfl, Nat.le_of_ble_eq_true rfl⟩ C rfl _ _ ls hP hD hS hl
set_option maxHeartbeats 4000000 in
set_option maxRecDepth 100000 in
theorem b_y_isBetween (l : Launch) (D : va_G) (cy : Nat → ClassId) (q : Nat) (a : Int32) (b : Int32) (x : Int32) (y : Int32) (q_thrown : Int32) (q_tape_ : Nat) (q_length : Int32) (q_size : Int32) (q_p : Int32) (q_limit : Int32) (q_s_ : Nat) (q_h_ : Nat) (q_read_ : Nat) (q_names_ : Nat) (q_reserved_ : Nat) (q_token : Int32) (q_at : Int32) (q_span : Int32) (q_number : Int32) (q_fault : Int32) (q_faultAt : Int32) (q_word : Int64) (q_got : Int32) (q_lines : Int32) (q_onces : Int32) (q_webs : Int32) (q_one : Int32) (q_two : Int32) (q_seed : Int32) (q_undone_ : Nat) (q_before_ : Nat) (q_undoMany : Int32) (q_far_ : Nat) (q_wayRow_ : Nat) (q_wayMany : Int32) (q_keptRow_ : Nat) (q_askedRow_ : Nat) (q_rares_ : Nat) (q_trial_ : Nat) (q_keptMany : Int32) (q_askedMany : Int32) (q_hangs_ : Nat) (q_paths_ : Nat) (q_tornSteps : Int32) (q_hasTorn : Int32) (q_turnOne : Int32) (q_hasTurn : Int32) (q_text_ : Nat) (q_textMany : Int32) (q_toldMany : Int32) (q_toldAt_ : Nat) (q_hasTold : Int32) (q_stack_ : Nat) (q_codes : Int32) (q_ones : Int32) (q_top : Int32) (q_deep : Int32) (q_isWhole : Int32) (q_truths_ : Nat) (q_imaged_ : Nat) (q_namesKept_ : Nat) (q_areKept_ : Nat) (q_s : Nat → Int32) (hb0 : 0 ≤ q_length.toInt ∧ q_length.toInt ≤ 940) (hb1 : 0 ≤ q_size.toInt ∧ q_size.toInt ≤ 940) (hb2 : 0 ≤ q_p.toInt ∧ q_p.toInt ≤ 940) (hb3 : 0 ≤ q_limit.toInt ∧ q_limit.toInt ≤ 940) (hb4 : 0 ≤ q_span.toInt ∧ q_span.toInt ≤ 940) (hb5 : 0 ≤ q_number.toInt ∧ q_number.toInt ≤ 8214) (hb6 : (-1) ≤ q_got.toInt ∧ q_got.toInt ≤ 8214) (hb7 : 0 ≤ q_one.toInt ∧ q_one.toInt ≤ 7) (hb8 : 0 ≤ q_two.toInt ∧ q_two.toInt ≤ 7) (hb9 : 0 ≤ q_undoMany.toInt ∧ q_undoMany.toInt ≤ 8) (hb10 : (-1) ≤ q_wayMany.toInt ∧ q_wayMany.toInt ≤ 8) (hb11 : (-1) ≤ q_keptMany.toInt ∧ q_keptMany.toInt ≤ 8) (hb12 : (-1) ≤ q_askedMany.toInt ∧ q_askedMany.toInt ≤ 3) (hb13 : 0 ≤ q_hasTorn.toInt ∧ q_hasTorn.toInt ≤ 1) (hb14 : 0 ≤ q_hasTurn.toInt ∧ q_hasTurn.toInt ≤ 1) (hb15 : 0 ≤ q_textMany.toInt ∧ q_textMany.toInt ≤ 48) (hb16 : 0 ≤ q_toldMany.toInt ∧ q_toldMany.toInt ≤ 40) (hb17 : 0 ≤ q_hasTold.toInt ∧ q_hasTold.toInt ≤ 1) (hb18 : 0 ≤ q_codes.toInt ∧ q_codes.toInt ≤ 40) (hb19 : 0 ≤ q_ones.toInt ∧ q_ones.toInt ≤ 20) (hb20 : 0 ≤ q_top.toInt ∧ q_top.toInt ≤ 40) (hb21 : 0 ≤ q_isWhole.toInt ∧ q_isWhole.toInt ≤ 1) (hb22 : 0 ≤ a.toInt ∧ a.toInt ≤ 7) (hb23 : 0 ≤ b.toInt ∧ b.toInt ≤ 7) (hR0 : Rg q_s 0 1 0 8) (hR1 : Rg q_s 1 3 0 6) (hR2 : Rg q_s 3 4 1 50) (hR3 : Rg q_s 4 5 1 5) (hR4 : Rg q_s 103 104 0 255) (hR5 : Rg q_s 7 23 0 5) (hR6 : Rg q_s 106 122 0 5) (hR7 : Rg q_s 23 31 0 99) (hR8 : Rg q_s 122 130 0 99) {p : Program} {e : Env} {s : State} {m : MethodId} {args : Array Value} {below : List Frame} {meth : Method} {c : Code} {A : Nat → Prop} {Q : State → Prop} {cells slots : Nat} (hroom : cells ≤ ((Rm 1 22 0 0)).cells ∧ slots ≤ ((Rm 1 22 0 0)).slots) (C : Cx p s m args meth c cX11_isBetween 5 (some .boolean) RX11 "isBetween" D cy A) (hQ : Q = MQ below (va_Qi (fun (r : Int32) (u : Unit) => (0 ≤ r.toInt ∧ r.toInt ≤ 1)) (Bx D A (fun u : Unit => [(q, oC11 q_thrown q_tape_ q_length q_size q_p q_limit q_s_ q_h_ q_read_ q_names_ q_reserved_ q_token q_at q_span q_number q_fault q_faultAt q_word q_got q_lines q_onces q_webs q_one q_two q_seed q_undone_ q_before_ q_undoMany q_far_ q_wayRow_ q_wayMany q_keptRow_ q_askedRow_ q_rares_ q_trial_ q_keptMany q_askedMany q_hangs_ q_paths_ q_tornSteps q_hasTorn q_turnOne q_hasTurn q_text_ q_textMany q_toldMany q_toldAt_ q_hasTold q_stack_ q_codes q_ones q_top q_deep q_isWhole q_truths_ q_imaged_ q_namesKept_ q_areKept_), (q_s_, aC1 cy 383 q_s)])) A) args s ((Rm 1 22 0 0)).cells ((Rm 1 22 0 0)).slots A) (H : Heap) (locs : List Loc) (ls : Array Slot) (hP : va_P D vwCl [(q, oC11 q_thrown q_tape_ q_length q_size q_p q_limit q_s_ q_h_ q_read_ q_names_ q_reserved_ q_token q_at q_span q_number q_fault q_faultAt q_word q_got q_lines q_onces q_webs q_one q_two q_seed q_undone_ q_before_ q_undoMany q_far_ q_wayRow_ q_wayMany q_keptRow_ q_askedRow_ q_rares_ q_trial_ q_keptMany q_askedMany q_hangs_ q_paths_ q_tornSteps q_hasTorn q_turnOne q_hasTurn q_text_ q_textMany q_toldMany q_toldAt_ q_hasTold q_stack_ q_codes q_ones q_top q_deep q_isWhole q_truths_ q_imaged_ q_namesKept_ q_areKept_), (q_s_, aC1 cy 383 q_s)] H) (hD : va_D A [(q, oC11 q_thrown q_tape_ q_length q_size q_p q_limit q_s_ q_h_ q_read_ q_names_ q_reserved_ q_token q_at q_span q_number q_fault q_faultAt q_word q_got q_lines q_onces q_webs q_one q_two q_seed q_undone_ q_before_ q_undoMany q_far_ q_wayRow_ q_wayMany q_keptRow_ q_askedRow_ q_rares_ q_trial_ q_keptMany q_askedMany q_hangs_ q_paths_ q_tornSteps q_hasTorn q_turnOne q_hasTurn q_text_ q_textMany q_toldMany q_toldAt_ q_hasTold q_stack_ q_codes q_ones q_top q_deep q_isWhole q_truths_ q_imaged_ q_namesKept_ q_areKept_), (q_s_, aC1 cy 383 q_s)]) (hS : va_S A s.heap H locs) (hl : lv_has ls 5 [(0, .ref q), (1, .int a), (2, .int b), (3, .int x), (4, .int y)]) : W p l e (Rm 1 22 0 0) s m args below meth c H locs cells slots Q (F0 m 0 ls []) := by
  have hx := C.1
  have hb := C.2.1
  have hqx := o_rng x
  have hqy := o_rng y
  refine lv_aload_n hx hb dX11_isBetween_0 rfl (lv_at hl 0 rfl) ?_
  refine q_get11 (v := .ref q_s_) C hP 0 6 rfl fT_6 (by decide) kF_RX11_33 rfl dX11_isBetween_1 ?_
  refine lv_bipush (v := 106) hx hb dX11_isBetween_4 (by decide) ?_
  refine lv_iload_n hx hb dX11_isBetween_6 rfl (lv_at hl 1 rfl) ?_
  refine lv_iadd hx hb dX11_isBetween_7 ?_
  refine lv_topi (fun z_1 hz_1 => ?_)
  have hz_1 := o_add hz_1 (by decide : (106 : Int32).toInt = 106) (rfl : a.toInt = a.toInt) (by omega) (by omega)
  refine q_iald (v := q_s z_1.toNatClampNeg) C hP 1 rfl (o_in (rfl : z_1.toInt = z_1.toInt) (by omega) (by omega)) rfl dX11_isBetween_8 ?_
  refine lv_topi (fun z_2 ez_2 => ?_)
  have hz_2 := Rg.at hR6 ez_2 (by have := o_cl (rfl : z_1.toInt = z_1.toInt) (by omega); omega) (by have := o_cl (rfl : z_1.toInt = z_1.toInt) (by omega); omega)
  refine lv_aload_n hx hb dX11_isBetween_9 rfl (lv_at hl 0 rfl) ?_
  refine q_get11 (v := .ref q_s_) C hP 0 6 rfl fT_6 (by decide) kF_RX11_33 rfl dX11_isBetween_10 ?_
  refine lv_bipush (v := 106) hx hb dX11_isBetween_13 (by decide) ?_
  refine lv_iload_n hx hb dX11_isBetween_15 rfl (lv_at hl 2 rfl) ?_
  refine lv_iadd hx hb dX11_isBetween_16 ?_
  refine lv_topi (fun z_3 hz_3 => ?_)
  have hz_3 := o_add hz_3 (by decide : (106 : Int32).toInt = 106) (rfl : b.toInt = b.toInt) (by omega) (by omega)
  refine q_iald (v := q_s z_3.toNatClampNeg) C hP 1 rfl (o_in (rfl : z_3.toInt = z_3.toInt) (by omega) (by omega)) rfl dX11_isBetween_17 ?_
  refine lv_topi (fun z_4 ez_4 => ?_)
  have hz_4 := Rg.at hR6 ez_4 (by have := o_cl (rfl : z_3.toInt = z_3.toInt) (by omega); omega) (by have := o_cl (rfl : z_3.toInt = z_3.toInt) (by omega); omega)
  have cut_86_4 : ∀  (H : Heap) (locs : List Loc) (ls : Array Slot), va_P D vwCl [(q, oC11 q_thrown q_tape_ q_length q_size q_p q_limit q_s_ q_h_ q_read_ q_names_ q_reserved_ q_token q_at q_span q_number q_fault q_faultAt q_word q_got q_lines q_onces q_webs q_one q_two q_seed q_undone_ q_before_ q_undoMany q_far_ q_wayRow_ q_wayMany q_keptRow_ q_askedRow_ q_rares_ q_trial_ q_keptMany q_askedMany q_hangs_ q_paths_ q_tornSteps q_hasTorn q_turnOne q_hasTurn q_text_ q_textMany q_toldMany q_toldAt_ q_hasTold q_stack_ q_codes q_ones q_top q_deep q_isWhole q_truths_ q_imaged_ q_namesKept_ q_areKept_), (q_s_, aC1 cy 383 q_s)] H → va_D A [(q, oC11 q_thrown q_tape_ q_length q_size q_p q_limit q_s_ q_h_ q_read_ q_names_ q_reserved_ q_token q_at q_span q_number q_fault q_faultAt q_word q_got q_lines q_onces q_webs q_one q_two q_seed q_undone_ q_before_ q_undoMany q_far_ q_wayRow_ q_wayMany q_keptRow_ q_askedRow_ q_rares_ q_trial_ q_keptMany q_askedMany q_hangs_ q_paths_ q_tornSteps q_hasTorn q_turnOne q_hasTurn q_text_ q_textMany q_toldMany q_toldAt_ q_hasTold q_stack_ q_codes q_ones q_top q_deep q_isWhole q_truths_ q_imaged_ q_namesKept_ q_areKept_), (q_s_, aC1 cy 383 q_s)] → va_S A s.heap H locs → lv_has ls 5 [(0, .ref q), (1, .int a), (2, .int b), (3, .int x), (4, .int y)] → W p l e (Rm 1 22 0 0) s m args below meth c H locs cells slots Q (F0 m 86 ls []) := by
    intro  H locs ls  hP hD hS hl
    refine lv_aload_n hx hb dX11_isBetween_86 rfl (lv_at hl 0 rfl) ?_
    refine q_get11 (v := .ref q_s_) C hP 0 6 rfl fT_6 (by decide) kF_RX11_33 rfl dX11_isBetween_87 ?_
    refine lv_bipush (v := 114) hx hb dX11_isBetween_90 (by decide) ?_
    refine lv_iload_n hx hb dX11_isBetween_92 rfl (lv_at hl 1 rfl) ?_
    refine lv_iadd hx hb dX11_isBetween_93 ?_
    refine lv_topi (fun z_6 hz_6 => ?_)
    have hz_6 := o_add hz_6 (by decide : (114 : Int32).toInt = 114) (rfl : a.toInt = a.toInt) (by omega) (by omega)
    refine q_iald (v := q_s z_6.toNatClampNeg) C hP 1 rfl (o_in (rfl : z_6.toInt = z_6.toInt) (by omega) (by omega)) rfl dX11_isBetween_94 ?_
    refine lv_topi (fun z_7 ez_7 => ?_)
    have hz_7 := Rg.at hR6 ez_7 (by have := o_cl (rfl : z_6.toInt = z_6.toInt) (by omega); omega) (by have := o_cl (rfl : z_6.toInt = z_6.toInt) (by omega); omega)
    refine lv_aload_n hx hb dX11_isBetween_95 rfl (lv_at hl 0 rfl) ?_
    refine q_get11 (v := .ref q_s_) C hP 0 6 rfl fT_6 (by decide) kF_RX11_33 rfl dX11_isBetween_96 ?_
    refine lv_bipush (v := 114) hx hb dX11_isBetween_99 (by decide) ?_
    refine lv_iload_n hx hb dX11_isBetween_101 rfl (lv_at hl 2 rfl) ?_
    refine lv_iadd hx hb dX11_isBetween_102 ?_
    refine lv_topi (fun z_8 hz_8 => ?_)
    have hz_8 := o_add hz_8 (by decide : (114 : Int32).toInt = 114) (rfl : b.toInt = b.toInt) (by omega) (by omega)
    refine q_iald (v := q_s z_8.toNatClampNeg) C hP 1 rfl (o_in (rfl : z_8.toInt = z_8.toInt) (by omega) (by omega)) rfl dX11_isBetween_103 ?_
    refine lv_topi (fun z_9 ez_9 => ?_)
    have hz_9 := Rg.at hR6 ez_9 (by have := o_cl (rfl : z_8.toInt = z_8.toInt) (by omega); omega) (by have := o_cl (rfl : z_8.toInt = z_8.toInt) (by omega); omega)
    refine lv_icmp_ne (tgt := 172) hx hb dX11_isBetween_104 (by decide) (fun c_10 => ?_) (fun c_10 => ?_)
    · have hc_10 := o_ne (rfl : z_7.toInt = z_7.toInt) (rfl : z_9.toInt = z_9.toInt) c_10
      refine lv_iconst (v := 0) hx hb dX11_isBetween_172 (by decide) ?_
      refine o_wq hQ ?_
      exact q_iret (rm := (Rm 1 22 0 0)) C hS () rfl (show 0 ≤ (0 : Int32).toInt ∧ (0 : Int32).toInt ≤ 1 by decide) (q_subP hP [0, 1] rfl) (hD.sub [0, 1] (by decide) rfl) hroom.1 hroom.2 dX11_isBetween_173
    · have hc_10 := o_eq (rfl : z_7.toInt = z_7.toInt) (rfl : z_9.toInt = z_9.toInt) c_10
      refine lv_iload hx hb dX11_isBetween_107 (lv_at hl 4 rfl) ?_
      refine lv_aload_n hx hb dX11_isBetween_109 rfl (lv_at hl 0 rfl) ?_
      refine q_get11 (v := .ref q_s_) C hP 0 6 rfl fT_6 (by decide) kF_RX11_33 rfl dX11_isBetween_110 ?_
      refine lv_bipush (v := 114) hx hb dX11_isBetween_113 (by decide) ?_
      refine lv_iload_n hx hb dX11_isBetween_115 rfl (lv_at hl 1 rfl) ?_
      refine lv_iadd hx hb dX11_isBetween_116 ?_
      refine lv_topi (fun z_11 hz_11 => ?_)
      have hz_11 := o_add hz_11 (by decide : (114 : Int32).toInt = 114) (rfl : a.toInt = a.toInt) (by omega) (by omega)
      refine q_iald (v := q_s z_11.toNatClampNeg) C hP 1 rfl (o_in (rfl : z_11.toInt = z_11.toInt) (by omega) (by omega)) rfl dX11_isBetween_117 ?_
      refine lv_topi (fun z_12 ez_12 => ?_)
      have hz_12 := Rg.at hR6 ez_12 (by have := o_cl (rfl : z_11.toInt = z_11.toInt) (by omega); omega) (by have := o_cl (rfl : z_11.toInt = z_11.toInt) (by omega); omega)
      refine lv_icmp_ne (tgt := 172) hx hb dX11_isBetween_118 (by decide) (fun c_13 => ?_) (fun c_13 => ?_)
      · have hc_13 := o_ne (rfl : y.toInt = y.toInt) (rfl : z_12.toInt = z_12.toInt) c_13
        refine lv_iconst (v := 0) hx hb dX11_isBetween_172 (by decide) ?_
        refine o_wq hQ ?_
        exact q_iret (rm := (Rm 1 22 0 0)) C hS () rfl (show 0 ≤ (0 : Int32).toInt ∧ (0 : Int32).toInt ≤ 1 by decide) (q_subP hP [0, 1] rfl) (hD.sub [0, 1] (by decide) rfl) hroom.1 hroom.2 dX11_isBetween_173
      · have hc_13 := o_eq (rfl : y.toInt = y.toInt) (rfl : z_12.toInt = z_12.toInt) c_13
        refine lv_iload_n hx hb dX11_isBetween_121 rfl (lv_at hl 3 rfl) ?_
        refine lv_aload_n hx hb dX11_isBetween_122 rfl (lv_at hl 0 rfl) ?_
        refine q_get11 (v := .ref q_s_) C hP 0 6 rfl fT_6 (by decide) kF_RX11_33 rfl dX11_isBetween_123 ?_
        refine lv_bipush (v := 106) hx hb dX11_isBetween_126 (by decide) ?_
        refine lv_iload_n hx hb dX11_isBetween_128 rfl (lv_at hl 1 rfl) ?_
        refine lv_iadd hx hb dX11_isBetween_129 ?_
        refine lv_topi (fun z_14 hz_14 => ?_)
        have hz_14 := o_add hz_14 (by decide : (106 : Int32).toInt = 106) (rfl : a.toInt = a.toInt) (by omega) (by omega)
        refine q_iald (v := q_s z_14.toNatClampNeg) C hP 1 rfl (o_in (rfl : z_14.toInt = z_14.toInt) (by omega) (by omega)) rfl dX11_isBetween_130 ?_
        refine lv_topi (fun z_15 ez_15 => ?_)
        have hz_15 := Rg.at hR6 ez_15 (by have := o_cl (rfl : z_14.toInt = z_14.toInt) (by omega); omega) (by have := o_cl (rfl : z_14.toInt = z_14.toInt) (by omega); omega)
        refine lv_aload_n hx hb dX11_isBetween_131 rfl (lv_at hl 0 rfl) ?_
        refine q_get11 (v := .ref q_s_) C hP 0 6 rfl fT_6 (by decide) kF_RX11_33 rfl dX11_isBetween_132 ?_
        refine lv_bipush (v := 106) hx hb dX11_isBetween_135 (by decide) ?_
        refine lv_iload_n hx hb dX11_isBetween_137 rfl (lv_at hl 2 rfl) ?_
        refine lv_iadd hx hb dX11_isBetween_138 ?_
        refine lv_topi (fun z_16 hz_16 => ?_)
        have hz_16 := o_add hz_16 (by decide : (106 : Int32).toInt = 106) (rfl : b.toInt = b.toInt) (by omega) (by omega)
        refine q_iald (v := q_s z_16.toNatClampNeg) C hP 1 rfl (o_in (rfl : z_16.toInt = z_16.toInt) (by omega) (by omega)) rfl dX11_isBetween_139 ?_
        refine lv_topi (fun z_17 ez_17 => ?_)
        have hz_17 := Rg.at hR6 ez_17 (by have := o_cl (rfl : z_16.toInt = z_16.toInt) (by omega); omega) (by have := o_cl (rfl : z_16.toInt = z_16.toInt) (by omega); omega)
        refine q_ai (wr := [(q, oC11 q_thrown q_tape_ q_length q_size q_p q_limit q_s_ q_h_ q_read_ q_names_ q_reserved_ q_token q_at q_span q_number q_fault q_faultAt q_word q_got q_lines q_onces q_webs q_one q_two q_seed q_undone_ q_before_ q_undoMany q_far_ q_wayRow_ q_wayMany q_keptRow_ q_askedRow_ q_rares_ q_trial_ q_keptMany q_askedMany q_hangs_ q_paths_ q_tornSteps q_hasTorn q_turnOne q_hasTurn q_text_ q_textMany q_toldMany q_toldAt_ q_hasTold q_stack_ q_codes q_ones q_top q_deep q_isWhole q_truths_ q_imaged_ q_namesKept_ q_areKept_), (q_s_, aC1 cy 383 q_s)]) (r_S (rm := (Rm 0 0 0 0)) (As := [.int z_15, .int z_17]) (rest := [.int x]) (wc := []) C hS (q_subP hP [] rfl) (hD.sub [] (by decide) rfl) (y_lesser l D cy z_15 z_17 _ ) kwS_X11_lesser kM_RX11_294 ⟨Nat.le_of_ble_eq_true rfl, Nat.le_of_ble_eq_true rfl⟩ rfl hl.1 rfl (Nat.le_of_ble_eq_true rfl) dX11_isBetween_140 ⟨hroom.1, hroom.2⟩) C.2.2.2.2.2.2.1 hP hD hS [] [0, 1] rfl rfl (by decide) (by decide) (fun r_19 u_18 H locs hw_20 hP hD hS => ?_)
        have hp_20 : 0 ≤ z_15.toInt + (-1) * r_19.toInt ∧ 0 ≤ z_17.toInt + (-1) * r_19.toInt := hw_20.1
        have hp_21 : Hd ((r_19.toInt = z_15.toInt ∧ z_15.toInt ≤ z_17.toInt) ∨ (r_19.toInt = z_17.toInt ∧ z_17.toInt ≤ z_15.toInt)) := hw_20.2.1
        have hp_22 : (0 ≤ z_15.toInt ∧ 0 ≤ z_17.toInt) → (0 ≤ r_19.toInt) := hw_20.2.2
        have hp_22 := hp_22 (by omega)
        clear hw_20
        refine lv_iconst (v := 1) hx hb dX11_isBetween_143 (by decide) ?_
        refine lv_iadd hx hb dX11_isBetween_144 ?_
        refine lv_topi (fun z_24 hz_24 => ?_)
        have hz_24 := o_add hz_24 (rfl : r_19.toInt = r_19.toInt) (by decide : (1 : Int32).toInt = 1) (by omega) (by omega)
        refine lv_aload_n hx hb dX11_isBetween_145 rfl (lv_at hl 0 rfl) ?_
        refine q_get11 (v := .ref q_s_) C hP 0 6 rfl fT_6 (by decide) kF_RX11_33 rfl dX11_isBetween_146 ?_
        refine lv_bipush (v := 106) hx hb dX11_isBetween_149 (by decide) ?_
        refine lv_iload_n hx hb dX11_isBetween_151 rfl (lv_at hl 1 rfl) ?_
        refine lv_iadd hx hb dX11_isBetween_152 ?_
        refine lv_topi (fun z_25 hz_25 => ?_)
        have hz_25 := o_add hz_25 (by decide : (106 : Int32).toInt = 106) (rfl : a.toInt = a.toInt) (by omega) (by omega)
        refine q_iald (v := q_s z_25.toNatClampNeg) C hP 1 rfl (o_in (rfl : z_25.toInt = z_25.toInt) (by omega) (by omega)) rfl dX11_isBetween_153 ?_
        refine lv_topi (fun z_26 ez_26 => ?_)
        have hz_26 := Rg.at hR6 ez_26 (by have := o_cl (rfl : z_25.toInt = z_25.toInt) (by omega); omega) (by have := o_cl (rfl : z_25.toInt = z_25.toInt) (by omega); omega)
        refine lv_aload_n hx hb dX11_isBetween_154 rfl (lv_at hl 0 rfl) ?_
        refine q_get11 (v := .ref q_s_) C hP 0 6 rfl fT_6 (by decide) kF_RX11_33 rfl dX11_isBetween_155 ?_
        refine lv_bipush (v := 106) hx hb dX11_isBetween_158 (by decide) ?_
        refine lv_iload_n hx hb dX11_isBetween_160 rfl (lv_at hl 2 rfl) ?_
        refine lv_iadd hx hb dX11_isBetween_161 ?_
        refine lv_topi (fun z_27 hz_27 => ?_)
        have hz_27 := o_add hz_27 (by decide : (106 : Int32).toInt = 106) (rfl : b.toInt = b.toInt) (by omega) (by omega)
        refine q_iald (v := q_s z_27.toNatClampNeg) C hP 1 rfl (o_in (rfl : z_27.toInt = z_27.toInt) (by omega) (by omega)) rfl dX11_isBetween_162 ?_
        refine lv_topi (fun z_28 ez_28 => ?_)
        have hz_28 := Rg.at hR6 ez_28 (by have := o_cl (rfl : z_27.toInt = z_27.toInt) (by omega); omega) (by have := o_cl (rfl : z_27.toInt = z_27.toInt) (by omega); omega)
        refine q_ai (wr := [(q, oC11 q_thrown q_tape_ q_length q_size q_p q_limit q_s_ q_h_ q_read_ q_names_ q_reserved_ q_token q_at q_span q_number q_fault q_faultAt q_word q_got q_lines q_onces q_webs q_one q_two q_seed q_undone_ q_before_ q_undoMany q_far_ q_wayRow_ q_wayMany q_keptRow_ q_askedRow_ q_rares_ q_trial_ q_keptMany q_askedMany q_hangs_ q_paths_ q_tornSteps q_hasTorn q_turnOne q_hasTurn q_text_ q_textMany q_toldMany q_toldAt_ q_hasTold q_stack_ q_codes q_ones q_top q_deep q_isWhole q_truths_ q_imaged_ q_namesKept_ q_areKept_), (q_s_, aC1 cy 383 q_s)]) (r_S (rm := (Rm 0 0 0 0)) (As := [.int z_26, .int z_28]) (rest := [.int z_24, .int x]) (wc := []) C hS (q_subP hP [] rfl) (hD.sub [] (by decide) rfl) (y_greater l D cy z_26 z_28 _ ) kwS_X11_greater kM_RX11_297 ⟨Nat.le_of_ble_eq_true rfl, Nat.le_of_ble_eq_true rfl⟩ rfl hl.1 rfl (Nat.le_of_ble_eq_true rfl) dX11_isBetween_163 ⟨hroom.1, hroom.2⟩) C.2.2.2.2.2.2.1 hP hD hS [] [0, 1] rfl rfl (by decide) (by decide) (fun r_30 u_29 H locs hw_31 hP hD hS => ?_)
        have hp_31 : 0 ≤ r_30.toInt + (-1) * z_26.toInt ∧ 0 ≤ r_30.toInt + (-1) * z_28.toInt := hw_31
        clear hw_31
        refine lv_iconst (v := 1) hx hb dX11_isBetween_166 (by decide) ?_
        refine lv_isub hx hb dX11_isBetween_167 ?_
        refine lv_topi (fun z_33 hz_33 => ?_)
        clear hz_33
        refine q_ai (wr := [(q, oC11 q_thrown q_tape_ q_length q_size q_p q_limit q_s_ q_h_ q_read_ q_names_ q_reserved_ q_token q_at q_span q_number q_fault q_faultAt q_word q_got q_lines q_onces q_webs q_one q_two q_seed q_undone_ q_before_ q_undoMany q_far_ q_wayRow_ q_wayMany q_keptRow_ q_askedRow_ q_rares_ q_trial_ q_keptMany q_askedMany q_hangs_ q_paths_ q_tornSteps q_hasTorn q_turnOne q_hasTurn q_text_ q_textMany q_toldMany q_toldAt_ q_hasTold q_stack_ q_codes q_ones q_top q_deep q_isWhole q_truths_ q_imaged_ q_namesKept_ q_areKept_), (q_s_, aC1 cy 383 q_s)]) (r_S (rm := (Rm 0 0 0 0)) (As := [.int x, .int z_24, .int z_33]) (rest := []) (wc := []) C hS (q_subP hP [] rfl) (hD.sub [] (by decide) rfl) (y_isIn l D cy x z_24 z_33 _ ) kwS_X11_isIn kM_RX11_206 ⟨Nat.le_of_ble_eq_true rfl, Nat.le_of_ble_eq_true rfl⟩ rfl hl.1 rfl (Nat.le_of_ble_eq_true rfl) dX11_isBetween_168 ⟨hroom.1, hroom.2⟩) C.2.2.2.2.2.2.1 hP hD hS [] [0, 1] rfl rfl (by decide) (by decide) (fun r_35 u_34 H locs hw_36 hP hD hS => ?_)
        have hp_36 : 0 ≤ r_35.toInt ∧ r_35.toInt ≤ 1 := hw_36.1
        have hp_37 : (0 ≤ r_35.toInt + (-1)) → (0 ≤ x.toInt + (-1) * z_24.toInt ∧ 0 ≤ z_33.toInt + (-1) * x.toInt) := hw_36.2.1
        have hp_38 : (0 ≤ x.toInt + (-1) * z_24.toInt ∧ 0 ≤ z_33.toInt + (-1) * x.toInt) → (0 ≤ r_35.toInt + (-1)) := hw_36.2.2
        clear hw_36
        refine o_wq hQ ?_
        exact q_iret (rm := (Rm 1 22 0 0)) C hS () (o_bool (rfl : r_35.toInt = r_35.toInt) (by omega) (by omega)).1 (show 0 ≤ r_35.toInt ∧ r_35.toInt ≤ 1 by omega) (q_subP hP [0, 1] rfl) (hD.sub [0, 1] (by decide) rfl) hroom.1 hroom.2 dX11_isBetween_171
  refine lv_icmp_ne (tgt := 86) hx hb dX11_isBetween_18 (by decide) (fun c_40 => ?_) (fun c_40 => ?_)
  · have hc_40 := o_ne (rfl : z_2.toInt = z_2.toInt) (rfl : z_4.toInt = z_4.toInt) c_40
    exact cut_86_4  H locs ls   hP hD hS (lv_sub hl [0, 1, 2, 3, 4] rfl)
  · have hc_40 := o_eq (rfl : z_2.toInt = z_2.toInt) (rfl : z_4.toInt = z_4.toInt) c_40
    refine lv_iload_n hx hb dX11_isBetween_21 rfl (lv_at hl 3 rfl) ?_
    refine lv_aload_n hx hb dX11_isBetween_22 rfl (lv_at hl 0 rfl) ?_
    refine q_get11 (v := .ref q_s_) C hP 0 6 rfl fT_6 (by decide) kF_RX11_33 rfl dX11_isBetween_23 ?_
    refine lv_bipush (v := 106) hx hb dX11_isBetween_26 (by decide) ?_
    refine lv_iload_n hx hb dX11_isBetween_28 rfl (lv_at hl 1 rfl) ?_
    refine lv_iadd hx hb dX11_isBetween_29 ?_
    refine lv_topi (fun z_41 hz_41 => ?_)
    have hz_41 := o_add hz_41 (by decide : (106 : Int32).toInt = 106) (rfl : a.toInt = a.toInt) (by omega) (by omega)
    refine q_iald (v := q_s z_41.toNatClampNeg) C hP 1 rfl (o_in (rfl : z_41.toInt = z_41.toInt) (by omega) (by omega)) rfl dX11_isBetween_30 ?_
    refine lv_topi (fun z_42 ez_42 => ?_)
    have hz_42 := Rg.at hR6 ez_42 (by have := o_cl (rfl : z_41.toInt = z_41.toInt) (by omega); omega) (by have := o_cl (rfl : z_41.toInt = z_41.toInt) (by omega); omega)
    refine lv_icmp_ne (tgt := 86) hx hb dX11_isBetween_31 (by decide) (fun c_43 => ?_) (fun c_43 => ?_)
    · have hc_43 := o_ne (rfl : x.toInt = x.toInt) (rfl : z_42.toInt = z_42.toInt) c_43
      exact cut_86_4  H locs ls   hP hD hS (lv_sub hl [0, 1, 2, 3, 4] rfl)
    · have hc_43 := o_eq (rfl : x.toInt = x.toInt) (rfl : z_42.toInt = z_42.toInt) c_43
      refine lv_iload hx hb dX11_isBetween_34 (lv_at hl 4 rfl) ?_
      refine lv_aload_n hx hb dX11_isBetween_36 rfl (lv_at hl 0 rfl) ?_
      refine q_get11 (v := .ref q_s_) C hP 0 6 rfl fT_6 (by decide) kF_RX11_33 rfl dX11_isBetween_37 ?_
      refine lv_bipush (v := 114) hx hb dX11_isBetween_40 (by decide) ?_
      refine lv_iload_n hx hb dX11_isBetween_42 rfl (lv_at hl 1 rfl) ?_
      refine lv_iadd hx hb dX11_isBetween_43 ?_
      refine lv_topi (fun z_44 hz_44 => ?_)
      have hz_44 := o_add hz_44 (by decide : (114 : Int32).toInt = 114) (rfl : a.toInt = a.toInt) (by omega) (by omega)
      refine q_iald (v := q_s z_44.toNatClampNeg) C hP 1 rfl (o_in (rfl : z_44.toInt = z_44.toInt) (by omega) (by omega)) rfl dX11_isBetween_44 ?_
      refine lv_topi (fun z_45 ez_45 => ?_)
      have hz_45 := Rg.at hR6 ez_45 (by have := o_cl (rfl : z_44.toInt = z_44.toInt) (by omega); omega) (by have := o_cl (rfl : z_44.toInt = z_44.toInt) (by omega); omega)
      refine lv_aload_n hx hb dX11_isBetween_45 rfl (lv_at hl 0 rfl) ?_
      refine q_get11 (v := .ref q_s_) C hP 0 6 rfl fT_6 (by decide) kF_RX11_33 rfl dX11_isBetween_46 ?_
      refine lv_bipush (v := 114) hx hb dX11_isBetween_49 (by decide) ?_
      refine lv_iload_n hx hb dX11_isBetween_51 rfl (lv_at hl 2 rfl) ?_
      refine lv_iadd hx hb dX11_isBetween_52 ?_
      refine lv_topi (fun z_46 hz_46 => ?_)
      have hz_46 := o_add hz_46 (by decide : (114 : Int32).toInt = 114) (rfl : b.toInt = b.toInt) (by omega) (by omega)
      refine q_iald (v := q_s z_46.toNatClampNeg) C hP 1 rfl (o_in (rfl : z_46.toInt = z_46.toInt) (by omega) (by omega)) rfl dX11_isBetween_53 ?_
      refine lv_topi (fun z_47 ez_47 => ?_)
      have hz_47 := Rg.at hR6 ez_47 (by have := o_cl (rfl : z_46.toInt = z_46.toInt) (by omega); omega) (by have := o_cl (rfl : z_46.toInt = z_46.toInt) (by omega); omega)
      refine q_ai (wr := [(q, oC11 q_thrown q_tape_ q_length q_size q_p q_limit q_s_ q_h_ q_read_ q_names_ q_reserved_ q_token q_at q_span q_number q_fault q_faultAt q_word q_got q_lines q_onces q_webs q_one q_two q_seed q_undone_ q_before_ q_undoMany q_far_ q_wayRow_ q_wayMany q_keptRow_ q_askedRow_ q_rares_ q_trial_ q_keptMany q_askedMany q_hangs_ q_paths_ q_tornSteps q_hasTorn q_turnOne q_hasTurn q_text_ q_textMany q_toldMany q_toldAt_ q_hasTold q_stack_ q_codes q_ones q_top q_deep q_isWhole q_truths_ q_imaged_ q_namesKept_ q_areKept_), (q_s_, aC1 cy 383 q_s)]) (r_S (rm := (Rm 0 0 0 0)) (As := [.int z_45, .int z_47]) (rest := [.int y]) (wc := []) C hS (q_subP hP [] rfl) (hD.sub [] (by decide) rfl) (y_lesser l D cy z_45 z_47 _ ) kwS_X11_lesser kM_RX11_294 ⟨Nat.le_of_ble_eq_true rfl, Nat.le_of_ble_eq_true rfl⟩ rfl hl.1 rfl (Nat.le_of_ble_eq_true rfl) dX11_isBetween_54 ⟨hroom.1, hroom.2⟩) C.2.2.2.2.2.2.1 hP hD hS [] [0, 1] rfl rfl (by decide) (by decide) (fun r_49 u_48 H locs hw_50 hP hD hS => ?_)
      have hp_50 : 0 ≤ z_45.toInt + (-1) * r_49.toInt ∧ 0 ≤ z_47.toInt + (-1) * r_49.toInt := hw_50.1
      have hp_51 : Hd ((r_49.toInt = z_45.toInt ∧ z_45.toInt ≤ z_47.toInt) ∨ (r_49.toInt = z_47.toInt ∧ z_47.toInt ≤ z_45.toInt)) := hw_50.2.1
      have hp_52 : (0 ≤ z_45.toInt ∧ 0 ≤ z_47.toInt) → (0 ≤ r_49.toInt) := hw_50.2.2
      have hp_52 := hp_52 (by omega)
      clear hw_50
      refine lv_iconst (v := 1) hx hb dX11_isBetween_57 (by decide) ?_
      refine lv_iadd hx hb dX11_isBetween_58 ?_
      refine lv_topi (fun z_54 hz_54 => ?_)
      have hz_54 := o_add hz_54 (rfl : r_49.toInt = r_49.toInt) (by decide : (1 : Int32).toInt = 1) (by omega) (by omega)
      refine lv_aload_n hx hb dX11_isBetween_59 rfl (lv_at hl 0 rfl) ?_
      refine q_get11 (v := .ref q_s_) C hP 0 6 rfl fT_6 (by decide) kF_RX11_33 rfl dX11_isBetween_60 ?_
      refine lv_bipush (v := 114) hx hb dX11_isBetween_63 (by decide) ?_
      refine lv_iload_n hx hb dX11_isBetween_65 rfl (lv_at hl 1 rfl) ?_
      refine lv_iadd hx hb dX11_isBetween_66 ?_
      refine lv_topi (fun z_55 hz_55 => ?_)
      have hz_55 := o_add hz_55 (by decide : (114 : Int32).toInt = 114) (rfl : a.toInt = a.toInt) (by omega) (by omega)
      refine q_iald (v := q_s z_55.toNatClampNeg) C hP 1 rfl (o_in (rfl : z_55.toInt = z_55.toInt) (by omega) (by omega)) rfl dX11_isBetween_67 ?_
      refine lv_topi (fun z_56 ez_56 => ?_)
      have hz_56 := Rg.at hR6 ez_56 (by have := o_cl (rfl : z_55.toInt = z_55.toInt) (by omega); omega) (by have := o_cl (rfl : z_55.toInt = z_55.toInt) (by omega); omega)
      refine lv_aload_n hx hb dX11_isBetween_68 rfl (lv_at hl 0 rfl) ?_
      refine q_get11 (v := .ref q_s_) C hP 0 6 rfl fT_6 (by decide) kF_RX11_33 rfl dX11_isBetween_69 ?_
      refine lv_bipush (v := 114) hx hb dX11_isBetween_72 (by decide) ?_
      refine lv_iload_n hx hb dX11_isBetween_74 rfl (lv_at hl 2 rfl) ?_
      refine lv_iadd hx hb dX11_isBetween_75 ?_
      refine lv_topi (fun z_57 hz_57 => ?_)
      have hz_57 := o_add hz_57 (by decide : (114 : Int32).toInt = 114) (rfl : b.toInt = b.toInt) (by omega) (by omega)
      refine q_iald (v := q_s z_57.toNatClampNeg) C hP 1 rfl (o_in (rfl : z_57.toInt = z_57.toInt) (by omega) (by omega)) rfl dX11_isBetween_76 ?_
      refine lv_topi (fun z_58 ez_58 => ?_)
      have hz_58 := Rg.at hR6 ez_58 (by have := o_cl (rfl : z_57.toInt = z_57.toInt) (by omega); omega) (by have := o_cl (rfl : z_57.toInt = z_57.toInt) (by omega); omega)
      refine q_ai (wr := [(q, oC11 q_thrown q_tape_ q_length q_size q_p q_limit q_s_ q_h_ q_read_ q_names_ q_reserved_ q_token q_at q_span q_number q_fault q_faultAt q_word q_got q_lines q_onces q_webs q_one q_two q_seed q_undone_ q_before_ q_undoMany q_far_ q_wayRow_ q_wayMany q_keptRow_ q_askedRow_ q_rares_ q_trial_ q_keptMany q_askedMany q_hangs_ q_paths_ q_tornSteps q_hasTorn q_turnOne q_hasTurn q_text_ q_textMany q_toldMany q_toldAt_ q_hasTold q_stack_ q_codes q_ones q_top q_deep q_isWhole q_truths_ q_imaged_ q_namesKept_ q_areKept_), (q_s_, aC1 cy 383 q_s)]) (r_S (rm := (Rm 0 0 0 0)) (As := [.int z_56, .int z_58]) (rest := [.int z_54, .int y]) (wc := []) C hS (q_subP hP [] rfl) (hD.sub [] (by decide) rfl) (y_greater l D cy z_56 z_58 _ ) kwS_X11_greater kM_RX11_297 ⟨Nat.le_of_ble_eq_true rfl, Nat.le_of_ble_eq_true rfl⟩ rfl hl.1 rfl (Nat.le_of_ble_eq_true rfl) dX11_isBetween_77 ⟨hroom.1, hroom.2⟩) C.2.2.2.2.2.2.1 hP hD hS [] [0, 1] rfl rfl (by decide) (by decide) (fun r_60 u_59 H locs hw_61 hP hD hS => ?_)
      have hp_61 : 0 ≤ r_60.toInt + (-1) * z_56.toInt ∧ 0 ≤ r_60.toInt + (-1) * z_58.toInt := hw_61
      clear hw_61
      refine lv_iconst (v := 1) hx hb dX11_isBetween_80 (by decide) ?_
      refine lv_isub hx hb dX11_isBetween_81 ?_
      refine lv_topi (fun z_63 hz_63 => ?_)
      clear hz_63
      refine q_ai (wr := [(q, oC11 q_thrown q_tape_ q_length q_size q_p q_limit q_s_ q_h_ q_read_ q_names_ q_reserved_ q_token q_at q_span q_number q_fault q_faultAt q_word q_got q_lines q_onces q_webs q_one q_two q_seed q_undone_ q_before_ q_undoMany q_far_ q_wayRow_ q_wayMany q_keptRow_ q_askedRow_ q_rares_ q_trial_ q_keptMany q_askedMany q_hangs_ q_paths_ q_tornSteps q_hasTorn q_turnOne q_hasTurn q_text_ q_textMany q_toldMany q_toldAt_ q_hasTold q_stack_ q_codes q_ones q_top q_deep q_isWhole q_truths_ q_imaged_ q_namesKept_ q_areKept_), (q_s_, aC1 cy 383 q_s)]) (r_S (rm := (Rm 0 0 0 0)) (As := [.int y, .int z_54, .int z_63]) (rest := []) (wc := []) C hS (q_subP hP [] rfl) (hD.sub [] (by decide) rfl) (y_isIn l D cy y z_54 z_63 _ ) kwS_X11_isIn kM_RX11_206 ⟨Nat.le_of_ble_eq_true rfl, Nat.le_of_ble_eq_true rfl⟩ rfl hl.1 rfl (Nat.le_of_ble_eq_true rfl) dX11_isBetween_82 ⟨hroom.1, hroom.2⟩) C.2.2.2.2.2.2.1 hP hD hS [] [0, 1] rfl rfl (by decide) (by decide) (fun r_65 u_64 H locs hw_66 hP hD hS => ?_)
      have hp_66 : 0 ≤ r_65.toInt ∧ r_65.toInt ≤ 1 := hw_66.1
      have hp_67 : (0 ≤ r_65.toInt + (-1)) → (0 ≤ y.toInt + (-1) * z_54.toInt ∧ 0 ≤ z_63.toInt + (-1) * y.toInt) := hw_66.2.1
      have hp_68 : (0 ≤ y.toInt + (-1) * z_54.toInt ∧ 0 ≤ z_63.toInt + (-1) * y.toInt) → (0 ≤ r_65.toInt + (-1)) := hw_66.2.2
      clear hw_66
      refine o_wq hQ ?_
      exact q_iret (rm := (Rm 1 22 0 0)) C hS () (o_bool (rfl : r_65.toInt = r_65.toInt) (by omega) (by omega)).1 (show 0 ≤ r_65.toInt ∧ r_65.toInt ≤ 1 by omega) (q_subP hP [0, 1] rfl) (hD.sub [0, 1] (by decide) rfl) hroom.1 hroom.2 dX11_isBetween_85
theorem y_isBetween (l : Launch) (D : va_G) (cy : Nat → ClassId) (q : Nat) (a : Int32) (b : Int32) (x : Int32) (y : Int32) (q_thrown : Int32) (q_tape_ : Nat) (q_length : Int32) (q_size : Int32) (q_p : Int32) (q_limit : Int32) (q_s_ : Nat) (q_h_ : Nat) (q_read_ : Nat) (q_names_ : Nat) (q_reserved_ : Nat) (q_token : Int32) (q_at : Int32) (q_span : Int32) (q_number : Int32) (q_fault : Int32) (q_faultAt : Int32) (q_word : Int64) (q_got : Int32) (q_lines : Int32) (q_onces : Int32) (q_webs : Int32) (q_one : Int32) (q_two : Int32) (q_seed : Int32) (q_undone_ : Nat) (q_before_ : Nat) (q_undoMany : Int32) (q_far_ : Nat) (q_wayRow_ : Nat) (q_wayMany : Int32) (q_keptRow_ : Nat) (q_askedRow_ : Nat) (q_rares_ : Nat) (q_trial_ : Nat) (q_keptMany : Int32) (q_askedMany : Int32) (q_hangs_ : Nat) (q_paths_ : Nat) (q_tornSteps : Int32) (q_hasTorn : Int32) (q_turnOne : Int32) (q_hasTurn : Int32) (q_text_ : Nat) (q_textMany : Int32) (q_toldMany : Int32) (q_toldAt_ : Nat) (q_hasTold : Int32) (q_stack_ : Nat) (q_codes : Int32) (q_ones : Int32) (q_top : Int32) (q_deep : Int32) (q_isWhole : Int32) (q_truths_ : Nat) (q_imaged_ : Nat) (q_namesKept_ : Nat) (q_areKept_ : Nat) (q_s : Nat → Int32) (sz : Nat) (hb0 : 0 ≤ q_length.toInt ∧ q_length.toInt ≤ 940) (hb1 : 0 ≤ q_size.toInt ∧ q_size.toInt ≤ 940) (hb2 : 0 ≤ q_p.toInt ∧ q_p.toInt ≤ 940) (hb3 : 0 ≤ q_limit.toInt ∧ q_limit.toInt ≤ 940) (hb4 : 0 ≤ q_span.toInt ∧ q_span.toInt ≤ 940) (hb5 : 0 ≤ q_number.toInt ∧ q_number.toInt ≤ 8214) (hb6 : (-1) ≤ q_got.toInt ∧ q_got.toInt ≤ 8214) (hb7 : 0 ≤ q_one.toInt ∧ q_one.toInt ≤ 7) (hb8 : 0 ≤ q_two.toInt ∧ q_two.toInt ≤ 7) (hb9 : 0 ≤ q_undoMany.toInt ∧ q_undoMany.toInt ≤ 8) (hb10 : (-1) ≤ q_wayMany.toInt ∧ q_wayMany.toInt ≤ 8) (hb11 : (-1) ≤ q_keptMany.toInt ∧ q_keptMany.toInt ≤ 8) (hb12 : (-1) ≤ q_askedMany.toInt ∧ q_askedMany.toInt ≤ 3) (hb13 : 0 ≤ q_hasTorn.toInt ∧ q_hasTorn.toInt ≤ 1) (hb14 : 0 ≤ q_hasTurn.toInt ∧ q_hasTurn.toInt ≤ 1) (hb15 : 0 ≤ q_textMany.toInt ∧ q_textMany.toInt ≤ 48) (hb16 : 0 ≤ q_toldMany.toInt ∧ q_toldMany.toInt ≤ 40) (hb17 : 0 ≤ q_hasTold.toInt ∧ q_hasTold.toInt ≤ 1) (hb18 : 0 ≤ q_codes.toInt ∧ q_codes.toInt ≤ 40) (hb19 : 0 ≤ q_ones.toInt ∧ q_ones.toInt ≤ 20) (hb20 : 0 ≤ q_top.toInt ∧ q_top.toInt ≤ 40) (hb21 : 0 ≤ q_isWhole.toInt ∧ q_isWhole.toInt ≤ 1) (hb22 : 0 ≤ a.toInt ∧ a.toInt ≤ 7) (hb23 : 0 ≤ b.toInt ∧ b.toInt ≤ 7) (hR0 : Rg q_s 0 1 0 8) (hR1 : Rg q_s 1 3 0 6) (hR2 : Rg q_s 3 4 1 50) (hR3 : Rg q_s 4 5 1 5) (hR4 : Rg q_s 103 104 0 255) (hR5 : Rg q_s 7 23 0 5) (hR6 : Rg q_s 106 122 0 5) (hR7 : Rg q_s 23 31 0 99) (hR8 : Rg q_s 122 130 0 99) : MI l yX11_isBetween cX11_isBetween 5 (some .boolean) (Rm 1 22 0 0) D cy [.ref q, .int a, .int b, .int x, .int y] sz [(q, oC11 q_thrown q_tape_ q_length q_size q_p q_limit q_s_ q_h_ q_read_ q_names_ q_reserved_ q_token q_at q_span q_number q_fault q_faultAt q_word q_got q_lines q_onces q_webs q_one q_two q_seed q_undone_ q_before_ q_undoMany q_far_ q_wayRow_ q_wayMany q_keptRow_ q_askedRow_ q_rares_ q_trial_ q_keptMany q_askedMany q_hangs_ q_paths_ q_tornSteps q_hasTorn q_turnOne q_hasTurn q_text_ q_textMany q_toldMany q_toldAt_ q_hasTold q_stack_ q_codes q_ones q_top q_deep q_isWhole q_truths_ q_imaged_ q_namesKept_ q_areKept_), (q_s_, aC1 cy 383 q_s)] (fun (r : Int32) (u : Unit) => (0 ≤ r.toInt ∧ r.toInt ≤ 1)) (fun u : Unit => [(q, oC11 q_thrown q_tape_ q_length q_size q_p q_limit q_s_ q_h_ q_read_ q_names_ q_reserved_ q_token q_at q_span q_number q_fault q_faultAt q_word q_got q_lines q_onces q_webs q_one q_two q_seed q_undone_ q_before_ q_undoMany q_far_ q_wayRow_ q_wayMany q_keptRow_ q_askedRow_ q_rares_ q_trial_ q_keptMany q_askedMany q_hangs_ q_paths_ q_tornSteps q_hasTorn q_turnOne q_hasTurn q_text_ q_textMany q_toldMany q_toldAt_ q_hasTold q_stack_ q_codes q_ones q_top q_deep q_isWhole q_truths_ q_imaged_ q_namesKept_ q_areKept_), (q_s_, aC1 cy 383 q_s)]) := by
  refine MI.enter (by decide) (Nat.le_of_ble_eq_true rfl) ?_
  intro p e s m below meth c ls A hsz hAe C hP hD hS hl
  exact b_y_isBetween l D cy q a b x y q_thrown q_tape_ q_length q_size q_p q_limit q_s_ q_h_ q_read_ q_names_ q_reserved_ q_token q_at q_span q_number q_fault q_faultAt q_word q_got q_lines q_onces q_webs q_one q_two q_seed q_undone_ q_before_ q_undoMany q_far_ q_wayRow_ q_wayMany q_keptRow_ q_askedRow_ q_rares_ q_trial_ q_keptMany q_askedMany q_hangs_ q_paths_ q_tornSteps q_hasTorn q_turnOne q_hasTurn q_text_ q_textMany q_toldMany q_toldAt_ q_hasTold q_stack_ q_codes q_ones q_top q_deep q_isWhole q_truths_ q_imaged_ q_namesKept_ q_areKept_ q_s hb0 hb1 hb2 hb3 hb4 hb5 hb6 hb7 hb8 hb9 hb10 hb11 hb12 hb13 hb14 hb15 hb16 hb17 hb18 hb19 hb20 hb21 hb22 hb23 hR0 hR1 hR2 hR3 hR4 hR5 hR6 hR7 hR8 ⟨Nat.le_of_ble_eq_true rfl, Nat.le_of_ble_eq_true rfl⟩ C rfl _ _ ls hP hD hS hl
set_option maxHeartbeats 4000000 in
set_option maxRecDepth 100000 in
theorem b_y_areInSight (l : Launch) (D : va_G) (cy : Nat → ClassId) (q : Nat) (a : Int32) (b : Int32) (q_thrown : Int32) (q_tape_ : Nat) (q_length : Int32) (q_size : Int32) (q_p : Int32) (q_limit : Int32) (q_s_ : Nat) (q_h_ : Nat) (q_read_ : Nat) (q_names_ : Nat) (q_reserved_ : Nat) (q_token : Int32) (q_at : Int32) (q_span : Int32) (q_number : Int32) (q_fault : Int32) (q_faultAt : Int32) (q_word : Int64) (q_got : Int32) (q_lines : Int32) (q_onces : Int32) (q_webs : Int32) (q_one : Int32) (q_two : Int32) (q_seed : Int32) (q_undone_ : Nat) (q_before_ : Nat) (q_undoMany : Int32) (q_far_ : Nat) (q_wayRow_ : Nat) (q_wayMany : Int32) (q_keptRow_ : Nat) (q_askedRow_ : Nat) (q_rares_ : Nat) (q_trial_ : Nat) (q_keptMany : Int32) (q_askedMany : Int32) (q_hangs_ : Nat) (q_paths_ : Nat) (q_tornSteps : Int32) (q_hasTorn : Int32) (q_turnOne : Int32) (q_hasTurn : Int32) (q_text_ : Nat) (q_textMany : Int32) (q_toldMany : Int32) (q_toldAt_ : Nat) (q_hasTold : Int32) (q_stack_ : Nat) (q_codes : Int32) (q_ones : Int32) (q_top : Int32) (q_deep : Int32) (q_isWhole : Int32) (q_truths_ : Nat) (q_imaged_ : Nat) (q_namesKept_ : Nat) (q_areKept_ : Nat) (q_s : Nat → Int32) (hb0 : 0 ≤ q_length.toInt ∧ q_length.toInt ≤ 940) (hb1 : 0 ≤ q_size.toInt ∧ q_size.toInt ≤ 940) (hb2 : 0 ≤ q_p.toInt ∧ q_p.toInt ≤ 940) (hb3 : 0 ≤ q_limit.toInt ∧ q_limit.toInt ≤ 940) (hb4 : 0 ≤ q_span.toInt ∧ q_span.toInt ≤ 940) (hb5 : 0 ≤ q_number.toInt ∧ q_number.toInt ≤ 8214) (hb6 : (-1) ≤ q_got.toInt ∧ q_got.toInt ≤ 8214) (hb7 : 0 ≤ q_one.toInt ∧ q_one.toInt ≤ 7) (hb8 : 0 ≤ q_two.toInt ∧ q_two.toInt ≤ 7) (hb9 : 0 ≤ q_undoMany.toInt ∧ q_undoMany.toInt ≤ 8) (hb10 : (-1) ≤ q_wayMany.toInt ∧ q_wayMany.toInt ≤ 8) (hb11 : (-1) ≤ q_keptMany.toInt ∧ q_keptMany.toInt ≤ 8) (hb12 : (-1) ≤ q_askedMany.toInt ∧ q_askedMany.toInt ≤ 3) (hb13 : 0 ≤ q_hasTorn.toInt ∧ q_hasTorn.toInt ≤ 1) (hb14 : 0 ≤ q_hasTurn.toInt ∧ q_hasTurn.toInt ≤ 1) (hb15 : 0 ≤ q_textMany.toInt ∧ q_textMany.toInt ≤ 48) (hb16 : 0 ≤ q_toldMany.toInt ∧ q_toldMany.toInt ≤ 40) (hb17 : 0 ≤ q_hasTold.toInt ∧ q_hasTold.toInt ≤ 1) (hb18 : 0 ≤ q_codes.toInt ∧ q_codes.toInt ≤ 40) (hb19 : 0 ≤ q_ones.toInt ∧ q_ones.toInt ≤ 20) (hb20 : 0 ≤ q_top.toInt ∧ q_top.toInt ≤ 40) (hb21 : 0 ≤ q_isWhole.toInt ∧ q_isWhole.toInt ≤ 1) (hb22 : 0 ≤ a.toInt ∧ a.toInt ≤ 7) (hb23 : 0 ≤ b.toInt ∧ b.toInt ≤ 7) (hR0 : Rg q_s 0 1 0 8) (hR1 : Rg q_s 1 3 0 6) (hR2 : Rg q_s 3 4 1 50) (hR3 : Rg q_s 4 5 1 5) (hR4 : Rg q_s 103 104 0 255) (hR5 : Rg q_s 7 23 0 5) (hR6 : Rg q_s 106 122 0 5) (hR7 : Rg q_s 23 31 0 99) (hR8 : Rg q_s 122 130 0 99) {p : Program} {e : Env} {s : State} {m : MethodId} {args : Array Value} {below : List Frame} {meth : Method} {c : Code} {A : Nat → Prop} {Q : State → Prop} {cells slots : Nat} (hroom : cells ≤ ((Rm 2 46 0 0)).cells ∧ slots ≤ ((Rm 2 46 0 0)).slots) (C : Cx p s m args meth c cX11_areInSight 5 (some .boolean) RX11 "areInSight" D cy A) (hQ : Q = MQ below (va_Qi (fun (r : Int32) (u : Unit) => (0 ≤ r.toInt ∧ r.toInt ≤ 1)) (Bx D A (fun u : Unit => [(q, oC11 q_thrown q_tape_ q_length q_size q_p q_limit q_s_ q_h_ q_read_ q_names_ q_reserved_ q_token q_at q_span q_number q_fault q_faultAt q_word q_got q_lines q_onces q_webs q_one q_two q_seed q_undone_ q_before_ q_undoMany q_far_ q_wayRow_ q_wayMany q_keptRow_ q_askedRow_ q_rares_ q_trial_ q_keptMany q_askedMany q_hangs_ q_paths_ q_tornSteps q_hasTorn q_turnOne q_hasTurn q_text_ q_textMany q_toldMany q_toldAt_ q_hasTold q_stack_ q_codes q_ones q_top q_deep q_isWhole q_truths_ q_imaged_ q_namesKept_ q_areKept_), (q_s_, aC1 cy 383 q_s)])) A) args s ((Rm 2 46 0 0)).cells ((Rm 2 46 0 0)).slots A) (H : Heap) (locs : List Loc) (ls : Array Slot) (hP : va_P D vwCl [(q, oC11 q_thrown q_tape_ q_length q_size q_p q_limit q_s_ q_h_ q_read_ q_names_ q_reserved_ q_token q_at q_span q_number q_fault q_faultAt q_word q_got q_lines q_onces q_webs q_one q_two q_seed q_undone_ q_before_ q_undoMany q_far_ q_wayRow_ q_wayMany q_keptRow_ q_askedRow_ q_rares_ q_trial_ q_keptMany q_askedMany q_hangs_ q_paths_ q_tornSteps q_hasTorn q_turnOne q_hasTurn q_text_ q_textMany q_toldMany q_toldAt_ q_hasTold q_stack_ q_codes q_ones q_top q_deep q_isWhole q_truths_ q_imaged_ q_namesKept_ q_areKept_), (q_s_, aC1 cy 383 q_s)] H) (hD : va_D A [(q, oC11 q_thrown q_tape_ q_length q_size q_p q_limit q_s_ q_h_ q_read_ q_names_ q_reserved_ q_token q_at q_span q_number q_fault q_faultAt q_word q_got q_lines q_onces q_webs q_one q_two q_seed q_undone_ q_before_ q_undoMany q_far_ q_wayRow_ q_wayMany q_keptRow_ q_askedRow_ q_rares_ q_trial_ q_keptMany q_askedMany q_hangs_ q_paths_ q_tornSteps q_hasTorn q_turnOne q_hasTurn q_text_ q_textMany q_toldMany q_toldAt_ q_hasTold q_stack_ q_codes q_ones q_top q_deep q_isWhole q_truths_ q_imaged_ q_namesKept_ q_areKept_), (q_s_, aC1 cy 383 q_s)]) (hS : va_S A s.heap H locs) (hl : lv_has ls 5 [(0, .ref q), (1, .int a), (2, .int b)]) : W p l e (Rm 2 46 0 0) s m args below meth c H locs cells slots Q (F0 m 0 ls []) := by
  have hx := C.1
  have hb := C.2.1
  refine lv_iload_n hx hb dX11_areInSight_0 rfl (lv_at hl 1 rfl) ?_
  refine lv_iload_n hx hb dX11_areInSight_1 rfl (lv_at hl 2 rfl) ?_
  refine lv_icmp_eq (tgt := 47) hx hb dX11_areInSight_2 (by decide) (fun c_1 => ?_) (fun c_1 => ?_)
  · have hc_1 := o_eq (rfl : a.toInt = a.toInt) (rfl : b.toInt = b.toInt) c_1
    refine lv_iconst (v := 0) hx hb dX11_areInSight_47 (by decide) ?_
    refine o_wq hQ ?_
    exact q_iret (rm := (Rm 2 46 0 0)) C hS () rfl (show 0 ≤ (0 : Int32).toInt ∧ (0 : Int32).toInt ≤ 1 by decide) (q_subP hP [0, 1] rfl) (hD.sub [0, 1] (by decide) rfl) hroom.1 hroom.2 dX11_areInSight_48
  · have hc_1 := o_ne (rfl : a.toInt = a.toInt) (rfl : b.toInt = b.toInt) c_1
    refine lv_aload_n hx hb dX11_areInSight_5 rfl (lv_at hl 0 rfl) ?_
    refine q_get11 (v := .ref q_s_) C hP 0 6 rfl fT_6 (by decide) kF_RX11_33 rfl dX11_areInSight_6 ?_
    refine lv_bipush (v := 106) hx hb dX11_areInSight_9 (by decide) ?_
    refine lv_iload_n hx hb dX11_areInSight_11 rfl (lv_at hl 1 rfl) ?_
    refine lv_iadd hx hb dX11_areInSight_12 ?_
    refine lv_topi (fun z_2 hz_2 => ?_)
    have hz_2 := o_add hz_2 (by decide : (106 : Int32).toInt = 106) (rfl : a.toInt = a.toInt) (by omega) (by omega)
    refine q_iald (v := q_s z_2.toNatClampNeg) C hP 1 rfl (o_in (rfl : z_2.toInt = z_2.toInt) (by omega) (by omega)) rfl dX11_areInSight_13 ?_
    refine lv_topi (fun z_3 ez_3 => ?_)
    have hz_3 := Rg.at hR6 ez_3 (by have := o_cl (rfl : z_2.toInt = z_2.toInt) (by omega); omega) (by have := o_cl (rfl : z_2.toInt = z_2.toInt) (by omega); omega)
    refine lv_aload_n hx hb dX11_areInSight_14 rfl (lv_at hl 0 rfl) ?_
    refine q_get11 (v := .ref q_s_) C hP 0 6 rfl fT_6 (by decide) kF_RX11_33 rfl dX11_areInSight_15 ?_
    refine lv_bipush (v := 106) hx hb dX11_areInSight_18 (by decide) ?_
    refine lv_iload_n hx hb dX11_areInSight_20 rfl (lv_at hl 2 rfl) ?_
    refine lv_iadd hx hb dX11_areInSight_21 ?_
    refine lv_topi (fun z_4 hz_4 => ?_)
    have hz_4 := o_add hz_4 (by decide : (106 : Int32).toInt = 106) (rfl : b.toInt = b.toInt) (by omega) (by omega)
    refine q_iald (v := q_s z_4.toNatClampNeg) C hP 1 rfl (o_in (rfl : z_4.toInt = z_4.toInt) (by omega) (by omega)) rfl dX11_areInSight_22 ?_
    refine lv_topi (fun z_5 ez_5 => ?_)
    have hz_5 := Rg.at hR6 ez_5 (by have := o_cl (rfl : z_4.toInt = z_4.toInt) (by omega); omega) (by have := o_cl (rfl : z_4.toInt = z_4.toInt) (by omega); omega)
    refine lv_icmp_eq (tgt := 49) hx hb dX11_areInSight_23 (by decide) (fun c_6 => ?_) (fun c_6 => ?_)
    · have hc_6 := o_eq (rfl : z_3.toInt = z_3.toInt) (rfl : z_5.toInt = z_5.toInt) c_6
      refine lv_iconst (v := 1) hx hb dX11_areInSight_49 (by decide) ?_
      refine lv_istore_n (lv' := [(3, .int 1), (0, .ref q), (1, .int a), (2, .int b)]) hx hb dX11_areInSight_50 rfl hl (by decide) rfl (fun ls hl => ?_)
      refine lv_iconst (v := 0) hx hb dX11_areInSight_51 (by decide) ?_
      refine lv_istore (lv' := [(4, .int 0), (3, .int 1), (0, .ref q), (1, .int a), (2, .int b)]) hx hb dX11_areInSight_52 hl (by decide) rfl (fun ls hl => ?_)
      have lp_54_8 : ∀ (n_9 : Nat) (x_7 : Int32) (x_8 : Int32) (H : Heap) (locs : List Loc) (ls : Array Slot), (-1) * x_8.toInt + 8 < (n_9 : Int) → (0 ≤ x_7.toInt ∧ x_7.toInt ≤ 1) → (0 ≤ x_8.toInt ∧ x_8.toInt ≤ 8) → va_P D vwCl [(q, oC11 q_thrown q_tape_ q_length q_size q_p q_limit q_s_ q_h_ q_read_ q_names_ q_reserved_ q_token q_at q_span q_number q_fault q_faultAt q_word q_got q_lines q_onces q_webs q_one q_two q_seed q_undone_ q_before_ q_undoMany q_far_ q_wayRow_ q_wayMany q_keptRow_ q_askedRow_ q_rares_ q_trial_ q_keptMany q_askedMany q_hangs_ q_paths_ q_tornSteps q_hasTorn q_turnOne q_hasTurn q_text_ q_textMany q_toldMany q_toldAt_ q_hasTold q_stack_ q_codes q_ones q_top q_deep q_isWhole q_truths_ q_imaged_ q_namesKept_ q_areKept_), (q_s_, aC1 cy 383 q_s)] H → va_D A [(q, oC11 q_thrown q_tape_ q_length q_size q_p q_limit q_s_ q_h_ q_read_ q_names_ q_reserved_ q_token q_at q_span q_number q_fault q_faultAt q_word q_got q_lines q_onces q_webs q_one q_two q_seed q_undone_ q_before_ q_undoMany q_far_ q_wayRow_ q_wayMany q_keptRow_ q_askedRow_ q_rares_ q_trial_ q_keptMany q_askedMany q_hangs_ q_paths_ q_tornSteps q_hasTorn q_turnOne q_hasTurn q_text_ q_textMany q_toldMany q_toldAt_ q_hasTold q_stack_ q_codes q_ones q_top q_deep q_isWhole q_truths_ q_imaged_ q_namesKept_ q_areKept_), (q_s_, aC1 cy 383 q_s)] → va_S A s.heap H locs → lv_has ls 5 [(0, .ref q), (1, .int a), (2, .int b), (3, .int x_7), (4, .int x_8)] → W p l e (Rm 2 46 0 0) s m args below meth c H locs cells slots Q (F0 m 54 ls []) := by
        intro n_9
        induction n_9 with
        | zero =>
          intro x_7 x_8 H locs ls hm_12 hf_10 hf_11 hP hD hS hl
          exact absurd hm_12 (by omega)
        | succ n_9 ih_13 =>
          intro x_7 x_8 H locs ls hm_12 hf_10 hf_11 hP hD hS hl
          refine lv_iload hx hb dX11_areInSight_54 (lv_at hl 4 rfl) ?_
          refine lv_aload_n hx hb dX11_areInSight_56 rfl (lv_at hl 0 rfl) ?_
          refine q_get11 (v := .ref q_s_) C hP 0 6 rfl fT_6 (by decide) kF_RX11_33 rfl dX11_areInSight_57 ?_
          refine lv_iconst (v := 0) hx hb dX11_areInSight_60 (by decide) ?_
          refine q_iald (v := q_s 0) C hP 1 rfl (vin (by decide +kernel)) rfl dX11_areInSight_61 ?_
          refine lv_topi (fun z_15 ez_15 => ?_)
          have hz_15 : 0 ≤ z_15.toInt ∧ z_15.toInt ≤ 8 := (by rw [ez_15]; exact hR0 0 (by decide) (by decide))
          refine lv_icmp_ge (tgt := 110) hx hb dX11_areInSight_62 (by decide) (fun c_16 => ?_) (fun c_16 => ?_)
          · have hc_16 := o_le (rfl : z_15.toInt = z_15.toInt) (rfl : x_8.toInt = x_8.toInt) c_16
            refine lv_iload_n hx hb dX11_areInSight_110 rfl (lv_at hl 3 rfl) ?_
            refine o_wq hQ ?_
            exact q_iret (rm := (Rm 2 46 0 0)) C hS () (o_bool (rfl : x_7.toInt = x_7.toInt) (by omega) (by omega)).1 (show 0 ≤ x_7.toInt ∧ x_7.toInt ≤ 1 by omega) (q_subP hP [0, 1] rfl) (hD.sub [0, 1] (by decide) rfl) hroom.1 hroom.2 dX11_areInSight_111
          · have hc_16 := o_nle (rfl : z_15.toInt = z_15.toInt) (rfl : x_8.toInt = x_8.toInt) c_16
            refine lv_iload_n hx hb dX11_areInSight_65 rfl (lv_at hl 3 rfl) ?_
            refine lv_if_eq (tgt := 102) hx hb dX11_areInSight_66 (by decide) (fun c_17 => ?_) (fun c_17 => ?_)
            · have hc_17 := o_eq (rfl : x_7.toInt = x_7.toInt) (by decide : (0 : Int32).toInt = 0) c_17
              refine lv_iconst (v := 0) hx hb dX11_areInSight_102 (by decide) ?_
              refine lv_istore_n (lv' := [(3, .int 0), (0, .ref q), (1, .int a), (2, .int b), (4, .int x_8)]) hx hb dX11_areInSight_103 rfl hl (by decide) rfl (fun ls hl => ?_)
              obtain ⟨z_18, hz_18⟩ : ∃ z : Int32, z = x_8 + 1 := ⟨_, rfl⟩
              refine lv_iinc (v := z_18) (lv' := [(4, .int z_18), (3, .int 0), (0, .ref q), (1, .int a), (2, .int b)]) hx hb dX11_areInSight_104 hl (k := 4) rfl hz_18.symm (by decide) rfl (fun ls hl => ?_)
              have hz_18 := o_add hz_18 (rfl : x_8.toInt = x_8.toInt) (by decide : (1 : Int32).toInt = 1) (by omega) (by omega)
              refine lv_goto (tgt := 54) hx hb dX11_areInSight_107 (by decide) ?_
              exact ih_13 (0 : Int32) z_18 H locs ls (by have e0 : (0 : Int32).toInt = 0 := (by decide); omega) (by have e0 : (0 : Int32).toInt = 0 := (by decide); omega) (by have e0 : (0 : Int32).toInt = 0 := (by decide); omega) hP hD hS (lv_sub hl [2, 3, 4, 1, 0] rfl)
            · have hc_17 := o_ne (rfl : x_7.toInt = x_7.toInt) (by decide : (0 : Int32).toInt = 0) c_17
              have hnc_17 : 0 ≤ x_7.toInt + (-1) := by rcases Int.lt_or_gt_of_ne hc_17 with h9 | h9 <;> omega
              refine lv_aload_n hx hb dX11_areInSight_69 rfl (lv_at hl 0 rfl) ?_
              refine lv_iload_n hx hb dX11_areInSight_70 rfl (lv_at hl 1 rfl) ?_
              refine lv_iload_n hx hb dX11_areInSight_71 rfl (lv_at hl 2 rfl) ?_
              refine lv_aload_n hx hb dX11_areInSight_72 rfl (lv_at hl 0 rfl) ?_
              refine q_get11 (v := .ref q_s_) C hP 0 6 rfl fT_6 (by decide) kF_RX11_33 rfl dX11_areInSight_73 ?_
              refine lv_bipush (v := 106) hx hb dX11_areInSight_76 (by decide) ?_
              refine lv_iload hx hb dX11_areInSight_78 (lv_at hl 4 rfl) ?_
              refine lv_iadd hx hb dX11_areInSight_80 ?_
              refine lv_topi (fun z_19 hz_19 => ?_)
              have hz_19 := o_add hz_19 (by decide : (106 : Int32).toInt = 106) (rfl : x_8.toInt = x_8.toInt) (by omega) (by omega)
              refine q_iald (v := q_s z_19.toNatClampNeg) C hP 1 rfl (o_in (rfl : z_19.toInt = z_19.toInt) (by omega) (by omega)) rfl dX11_areInSight_81 ?_
              refine lv_topi (fun z_20 ez_20 => ?_)
              have hz_20 := Rg.at hR6 ez_20 (by have := o_cl (rfl : z_19.toInt = z_19.toInt) (by omega); omega) (by have := o_cl (rfl : z_19.toInt = z_19.toInt) (by omega); omega)
              refine lv_aload_n hx hb dX11_areInSight_82 rfl (lv_at hl 0 rfl) ?_
              refine q_get11 (v := .ref q_s_) C hP 0 6 rfl fT_6 (by decide) kF_RX11_33 rfl dX11_areInSight_83 ?_
              refine lv_bipush (v := 114) hx hb dX11_areInSight_86 (by decide) ?_
              refine lv_iload hx hb dX11_areInSight_88 (lv_at hl 4 rfl) ?_
              refine lv_iadd hx hb dX11_areInSight_90 ?_
              refine lv_topi (fun z_21 hz_21 => ?_)
              have hz_21 := o_add hz_21 (by decide : (114 : Int32).toInt = 114) (rfl : x_8.toInt = x_8.toInt) (by omega) (by omega)
              refine q_iald (v := q_s z_21.toNatClampNeg) C hP 1 rfl (o_in (rfl : z_21.toInt = z_21.toInt) (by omega) (by omega)) rfl dX11_areInSight_91 ?_
              refine lv_topi (fun z_22 ez_22 => ?_)
              have hz_22 := Rg.at hR6 ez_22 (by have := o_cl (rfl : z_21.toInt = z_21.toInt) (by omega); omega) (by have := o_cl (rfl : z_21.toInt = z_21.toInt) (by omega); omega)
              refine q_ai (wr := []) (r_V (rm := (Rm 1 22 0 0)) (q0 := 0) (As := [.int a, .int b, .int z_20, .int z_22]) (rest := []) (wc := [(q, oC11 q_thrown q_tape_ q_length q_size q_p q_limit q_s_ q_h_ q_read_ q_names_ q_reserved_ q_token q_at q_span q_number q_fault q_faultAt q_word q_got q_lines q_onces q_webs q_one q_two q_seed q_undone_ q_before_ q_undoMany q_far_ q_wayRow_ q_wayMany q_keptRow_ q_askedRow_ q_rares_ q_trial_ q_keptMany q_askedMany q_hangs_ q_paths_ q_tornSteps q_hasTorn q_turnOne q_hasTurn q_text_ q_textMany q_toldMany q_toldAt_ q_hasTold q_stack_ q_codes q_ones q_top q_deep q_isWhole q_truths_ q_imaged_ q_namesKept_ q_areKept_), (q_s_, aC1 cy 383 q_s)]) C hS (q_subP hP [0, 1] rfl) (hD.sub [0, 1] (by decide) rfl) (y_isBetween l D cy q a b z_20 z_22 q_thrown q_tape_ q_length q_size q_p q_limit q_s_ q_h_ q_read_ q_names_ q_reserved_ q_token q_at q_span q_number q_fault q_faultAt q_word q_got q_lines q_onces q_webs q_one q_two q_seed q_undone_ q_before_ q_undoMany q_far_ q_wayRow_ q_wayMany q_keptRow_ q_askedRow_ q_rares_ q_trial_ q_keptMany q_askedMany q_hangs_ q_paths_ q_tornSteps q_hasTorn q_turnOne q_hasTurn q_text_ q_textMany q_toldMany q_toldAt_ q_hasTold q_stack_ q_codes q_ones q_top q_deep q_isWhole q_truths_ q_imaged_ q_namesKept_ q_areKept_ q_s _ (by omega) (by omega) (by omega) (by omega) (by omega) (by omega) (by omega) (by omega) (by omega) (by omega) (by omega) (by omega) (by omega) (by omega) (by omega) (by omega) (by omega) (by omega) (by omega) (by omega) (by omega) (by omega) (by omega) (by omega) hR0 hR1 hR2 hR3 hR4 hR5 hR6 hR7 hR8) kwV_X11_isBetween kM_RX11_300 rfl rfl ⟨Nat.le_of_ble_eq_true rfl, Nat.le_of_ble_eq_true rfl⟩ rfl hl.1 rfl (Nat.le_of_ble_eq_true rfl) dX11_areInSight_92 ⟨hroom.1, hroom.2⟩) C.2.2.2.2.2.2.1 hP hD hS [0, 1] [] rfl rfl (by decide) (by decide) (fun r_24 u_23 H locs hw_25 hP hD hS => ?_)
              have hp_25 : 0 ≤ r_24.toInt ∧ r_24.toInt ≤ 1 := hw_25
              clear hw_25
              refine lv_if_ne (tgt := 102) hx hb dX11_areInSight_95 (by decide) (fun c_27 => ?_) (fun c_27 => ?_)
              · have hc_27 := o_ne (rfl : r_24.toInt = r_24.toInt) (by decide : (0 : Int32).toInt = 0) c_27
                have hnc_27 : 0 ≤ r_24.toInt + (-1) := by rcases Int.lt_or_gt_of_ne hc_27 with h9 | h9 <;> omega
                refine lv_iconst (v := 0) hx hb dX11_areInSight_102 (by decide) ?_
                refine lv_istore_n (lv' := [(3, .int 0), (0, .ref q), (1, .int a), (2, .int b), (4, .int x_8)]) hx hb dX11_areInSight_103 rfl hl (by decide) rfl (fun ls hl => ?_)
                obtain ⟨z_28, hz_28⟩ : ∃ z : Int32, z = x_8 + 1 := ⟨_, rfl⟩
                refine lv_iinc (v := z_28) (lv' := [(4, .int z_28), (3, .int 0), (0, .ref q), (1, .int a), (2, .int b)]) hx hb dX11_areInSight_104 hl (k := 4) rfl hz_28.symm (by decide) rfl (fun ls hl => ?_)
                have hz_28 := o_add hz_28 (rfl : x_8.toInt = x_8.toInt) (by decide : (1 : Int32).toInt = 1) (by omega) (by omega)
                refine lv_goto (tgt := 54) hx hb dX11_areInSight_107 (by decide) ?_
                exact ih_13 (0 : Int32) z_28 H locs ls (by have e0 : (0 : Int32).toInt = 0 := (by decide); omega) (by have e0 : (0 : Int32).toInt = 0 := (by decide); omega) (by have e0 : (0 : Int32).toInt = 0 := (by decide); omega) hP hD hS (lv_sub hl [2, 3, 4, 1, 0] rfl)
              · have hc_27 := o_eq (rfl : r_24.toInt = r_24.toInt) (by decide : (0 : Int32).toInt = 0) c_27
                refine lv_iconst (v := 1) hx hb dX11_areInSight_98 (by decide) ?_
                refine lv_goto (tgt := 103) hx hb dX11_areInSight_99 (by decide) ?_
                refine lv_istore_n (lv' := [(3, .int 1), (0, .ref q), (1, .int a), (2, .int b), (4, .int x_8)]) hx hb dX11_areInSight_103 rfl hl (by decide) rfl (fun ls hl => ?_)
                obtain ⟨z_29, hz_29⟩ : ∃ z : Int32, z = x_8 + 1 := ⟨_, rfl⟩
                refine lv_iinc (v := z_29) (lv' := [(4, .int z_29), (3, .int 1), (0, .ref q), (1, .int a), (2, .int b)]) hx hb dX11_areInSight_104 hl (k := 4) rfl hz_29.symm (by decide) rfl (fun ls hl => ?_)
                have hz_29 := o_add hz_29 (rfl : x_8.toInt = x_8.toInt) (by decide : (1 : Int32).toInt = 1) (by omega) (by omega)
                refine lv_goto (tgt := 54) hx hb dX11_areInSight_107 (by decide) ?_
                exact ih_13 (1 : Int32) z_29 H locs ls (by have e0 : (1 : Int32).toInt = 1 := (by decide); omega) (by have e0 : (1 : Int32).toInt = 1 := (by decide); omega) (by have e0 : (1 : Int32).toInt = 1 := (by decide); omega) hP hD hS (lv_sub hl [2, 3, 4, 1, 0] rfl)
      exact lp_54_8 9 (1 : Int32) (0 : Int32) H locs ls (by have e0 : (0 : Int32).toInt = 0 := (by decide); have e1 : (1 : Int32).toInt = 1 := (by decide); omega) (by have e0 : (0 : Int32).toInt = 0 := (by decide); have e1 : (1 : Int32).toInt = 1 := (by decide); omega) (by have e0 : (0 : Int32).toInt = 0 := (by decide); have e1 : (1 : Int32).toInt = 1 := (by decide); omega) hP hD hS (lv_sub hl [2, 3, 4, 1, 0] rfl)
    · have hc_6 := o_ne (rfl : z_3.toInt = z_3.toInt) (rfl : z_5.toInt = z_5.toInt) c_6
      refine lv_aload_n hx hb dX11_areInSight_26 rfl (lv_at hl 0 rfl) ?_
      refine q_get11 (v := .ref q_s_) C hP 0 6 rfl fT_6 (by decide) kF_RX11_33 rfl dX11_areInSight_27 ?_
      refine lv_bipush (v := 114) hx hb dX11_areInSight_30 (by decide) ?_
      refine lv_iload_n hx hb dX11_areInSight_32 rfl (lv_at hl 1 rfl) ?_
      refine lv_iadd hx hb dX11_areInSight_33 ?_
      refine lv_topi (fun z_30 hz_30 => ?_)
      have hz_30 := o_add hz_30 (by decide : (114 : Int32).toInt = 114) (rfl : a.toInt = a.toInt) (by omega) (by omega)
      refine q_iald (v := q_s z_30.toNatClampNeg) C hP 1 rfl (o_in (rfl : z_30.toInt = z_30.toInt) (by omega) (by omega)) rfl dX11_areInSight_34 ?_
      refine lv_topi (fun z_31 ez_31 => ?_)
      have hz_31 := Rg.at hR6 ez_31 (by have := o_cl (rfl : z_30.toInt = z_30.toInt) (by omega); omega) (by have := o_cl (rfl : z_30.toInt = z_30.toInt) (by omega); omega)
      refine lv_aload_n hx hb dX11_areInSight_35 rfl (lv_at hl 0 rfl) ?_
      refine q_get11 (v := .ref q_s_) C hP 0 6 rfl fT_6 (by decide) kF_RX11_33 rfl dX11_areInSight_36 ?_
      refine lv_bipush (v := 114) hx hb dX11_areInSight_39 (by decide) ?_
      refine lv_iload_n hx hb dX11_areInSight_41 rfl (lv_at hl 2 rfl) ?_
      refine lv_iadd hx hb dX11_areInSight_42 ?_
      refine lv_topi (fun z_32 hz_32 => ?_)
      have hz_32 := o_add hz_32 (by decide : (114 : Int32).toInt = 114) (rfl : b.toInt = b.toInt) (by omega) (by omega)
      refine q_iald (v := q_s z_32.toNatClampNeg) C hP 1 rfl (o_in (rfl : z_32.toInt = z_32.toInt) (by omega) (by omega)) rfl dX11_areInSight_43 ?_
      refine lv_topi (fun z_33 ez_33 => ?_)
      have hz_33 := Rg.at hR6 ez_33 (by have := o_cl (rfl : z_32.toInt = z_32.toInt) (by omega); omega) (by have := o_cl (rfl : z_32.toInt = z_32.toInt) (by omega); omega)
      refine lv_icmp_eq (tgt := 49) hx hb dX11_areInSight_44 (by decide) (fun c_34 => ?_) (fun c_34 => ?_)
      · have hc_34 := o_eq (rfl : z_31.toInt = z_31.toInt) (rfl : z_33.toInt = z_33.toInt) c_34
        refine lv_iconst (v := 1) hx hb dX11_areInSight_49 (by decide) ?_
        refine lv_istore_n (lv' := [(3, .int 1), (0, .ref q), (1, .int a), (2, .int b)]) hx hb dX11_areInSight_50 rfl hl (by decide) rfl (fun ls hl => ?_)
        refine lv_iconst (v := 0) hx hb dX11_areInSight_51 (by decide) ?_
        refine lv_istore (lv' := [(4, .int 0), (3, .int 1), (0, .ref q), (1, .int a), (2, .int b)]) hx hb dX11_areInSight_52 hl (by decide) rfl (fun ls hl => ?_)
        have lp_54_36 : ∀ (n_37 : Nat) (x_35 : Int32) (x_36 : Int32) (H : Heap) (locs : List Loc) (ls : Array Slot), (-1) * x_36.toInt + 8 < (n_37 : Int) → (0 ≤ x_35.toInt ∧ x_35.toInt ≤ 1) → (0 ≤ x_36.toInt ∧ x_36.toInt ≤ 8) → va_P D vwCl [(q, oC11 q_thrown q_tape_ q_length q_size q_p q_limit q_s_ q_h_ q_read_ q_names_ q_reserved_ q_token q_at q_span q_number q_fault q_faultAt q_word q_got q_lines q_onces q_webs q_one q_two q_seed q_undone_ q_before_ q_undoMany q_far_ q_wayRow_ q_wayMany q_keptRow_ q_askedRow_ q_rares_ q_trial_ q_keptMany q_askedMany q_hangs_ q_paths_ q_tornSteps q_hasTorn q_turnOne q_hasTurn q_text_ q_textMany q_toldMany q_toldAt_ q_hasTold q_stack_ q_codes q_ones q_top q_deep q_isWhole q_truths_ q_imaged_ q_namesKept_ q_areKept_), (q_s_, aC1 cy 383 q_s)] H → va_D A [(q, oC11 q_thrown q_tape_ q_length q_size q_p q_limit q_s_ q_h_ q_read_ q_names_ q_reserved_ q_token q_at q_span q_number q_fault q_faultAt q_word q_got q_lines q_onces q_webs q_one q_two q_seed q_undone_ q_before_ q_undoMany q_far_ q_wayRow_ q_wayMany q_keptRow_ q_askedRow_ q_rares_ q_trial_ q_keptMany q_askedMany q_hangs_ q_paths_ q_tornSteps q_hasTorn q_turnOne q_hasTurn q_text_ q_textMany q_toldMany q_toldAt_ q_hasTold q_stack_ q_codes q_ones q_top q_deep q_isWhole q_truths_ q_imaged_ q_namesKept_ q_areKept_), (q_s_, aC1 cy 383 q_s)] → va_S A s.heap H locs → lv_has ls 5 [(0, .ref q), (1, .int a), (2, .int b), (3, .int x_35), (4, .int x_36)] → W p l e (Rm 2 46 0 0) s m args below meth c H locs cells slots Q (F0 m 54 ls []) := by
          intro n_37
          induction n_37 with
          | zero =>
            intro x_35 x_36 H locs ls hm_40 hf_38 hf_39 hP hD hS hl
            exact absurd hm_40 (by omega)
          | succ n_37 ih_41 =>
            intro x_35 x_36 H locs ls hm_40 hf_38 hf_39 hP hD hS hl
            refine lv_iload hx hb dX11_areInSight_54 (lv_at hl 4 rfl) ?_
            refine lv_aload_n hx hb dX11_areInSight_56 rfl (lv_at hl 0 rfl) ?_
            refine q_get11 (v := .ref q_s_) C hP 0 6 rfl fT_6 (by decide) kF_RX11_33 rfl dX11_areInSight_57 ?_
            refine lv_iconst (v := 0) hx hb dX11_areInSight_60 (by decide) ?_
            refine q_iald (v := q_s 0) C hP 1 rfl (vin (by decide +kernel)) rfl dX11_areInSight_61 ?_
            refine lv_topi (fun z_43 ez_43 => ?_)
            have hz_43 : 0 ≤ z_43.toInt ∧ z_43.toInt ≤ 8 := (by rw [ez_43]; exact hR0 0 (by decide) (by decide))
            refine lv_icmp_ge (tgt := 110) hx hb dX11_areInSight_62 (by decide) (fun c_44 => ?_) (fun c_44 => ?_)
            · have hc_44 := o_le (rfl : z_43.toInt = z_43.toInt) (rfl : x_36.toInt = x_36.toInt) c_44
              refine lv_iload_n hx hb dX11_areInSight_110 rfl (lv_at hl 3 rfl) ?_
              refine o_wq hQ ?_
              exact q_iret (rm := (Rm 2 46 0 0)) C hS () (o_bool (rfl : x_35.toInt = x_35.toInt) (by omega) (by omega)).1 (show 0 ≤ x_35.toInt ∧ x_35.toInt ≤ 1 by omega) (q_subP hP [0, 1] rfl) (hD.sub [0, 1] (by decide) rfl) hroom.1 hroom.2 dX11_areInSight_111
            · have hc_44 := o_nle (rfl : z_43.toInt = z_43.toInt) (rfl : x_36.toInt = x_36.toInt) c_44
              refine lv_iload_n hx hb dX11_areInSight_65 rfl (lv_at hl 3 rfl) ?_
              refine lv_if_eq (tgt := 102) hx hb dX11_areInSight_66 (by decide) (fun c_45 => ?_) (fun c_45 => ?_)
              · have hc_45 := o_eq (rfl : x_35.toInt = x_35.toInt) (by decide : (0 : Int32).toInt = 0) c_45
                refine lv_iconst (v := 0) hx hb dX11_areInSight_102 (by decide) ?_
                refine lv_istore_n (lv' := [(3, .int 0), (0, .ref q), (1, .int a), (2, .int b), (4, .int x_36)]) hx hb dX11_areInSight_103 rfl hl (by decide) rfl (fun ls hl => ?_)
                obtain ⟨z_46, hz_46⟩ : ∃ z : Int32, z = x_36 + 1 := ⟨_, rfl⟩
                refine lv_iinc (v := z_46) (lv' := [(4, .int z_46), (3, .int 0), (0, .ref q), (1, .int a), (2, .int b)]) hx hb dX11_areInSight_104 hl (k := 4) rfl hz_46.symm (by decide) rfl (fun ls hl => ?_)
                have hz_46 := o_add hz_46 (rfl : x_36.toInt = x_36.toInt) (by decide : (1 : Int32).toInt = 1) (by omega) (by omega)
                refine lv_goto (tgt := 54) hx hb dX11_areInSight_107 (by decide) ?_
                exact ih_41 (0 : Int32) z_46 H locs ls (by have e0 : (0 : Int32).toInt = 0 := (by decide); omega) (by have e0 : (0 : Int32).toInt = 0 := (by decide); omega) (by have e0 : (0 : Int32).toInt = 0 := (by decide); omega) hP hD hS (lv_sub hl [2, 3, 4, 1, 0] rfl)
              · have hc_45 := o_ne (rfl : x_35.toInt = x_35.toInt) (by decide : (0 : Int32).toInt = 0) c_45
                have hnc_45 : 0 ≤ x_35.toInt + (-1) := by rcases Int.lt_or_gt_of_ne hc_45 with h9 | h9 <;> omega
                refine lv_aload_n hx hb dX11_areInSight_69 rfl (lv_at hl 0 rfl) ?_
                refine lv_iload_n hx hb dX11_areInSight_70 rfl (lv_at hl 1 rfl) ?_
                refine lv_iload_n hx hb dX11_areInSight_71 rfl (lv_at hl 2 rfl) ?_
                refine lv_aload_n hx hb dX11_areInSight_72 rfl (lv_at hl 0 rfl) ?_
                refine q_get11 (v := .ref q_s_) C hP 0 6 rfl fT_6 (by decide) kF_RX11_33 rfl dX11_areInSight_73 ?_
                refine lv_bipush (v := 106) hx hb dX11_areInSight_76 (by decide) ?_
                refine lv_iload hx hb dX11_areInSight_78 (lv_at hl 4 rfl) ?_
                refine lv_iadd hx hb dX11_areInSight_80 ?_
                refine lv_topi (fun z_47 hz_47 => ?_)
                have hz_47 := o_add hz_47 (by decide : (106 : Int32).toInt = 106) (rfl : x_36.toInt = x_36.toInt) (by omega) (by omega)
                refine q_iald (v := q_s z_47.toNatClampNeg) C hP 1 rfl (o_in (rfl : z_47.toInt = z_47.toInt) (by omega) (by omega)) rfl dX11_areInSight_81 ?_
                refine lv_topi (fun z_48 ez_48 => ?_)
                have hz_48 := Rg.at hR6 ez_48 (by have := o_cl (rfl : z_47.toInt = z_47.toInt) (by omega); omega) (by have := o_cl (rfl : z_47.toInt = z_47.toInt) (by omega); omega)
                refine lv_aload_n hx hb dX11_areInSight_82 rfl (lv_at hl 0 rfl) ?_
                refine q_get11 (v := .ref q_s_) C hP 0 6 rfl fT_6 (by decide) kF_RX11_33 rfl dX11_areInSight_83 ?_
                refine lv_bipush (v := 114) hx hb dX11_areInSight_86 (by decide) ?_
                refine lv_iload hx hb dX11_areInSight_88 (lv_at hl 4 rfl) ?_
                refine lv_iadd hx hb dX11_areInSight_90 ?_
                refine lv_topi (fun z_49 hz_49 => ?_)
                have hz_49 := o_add hz_49 (by decide : (114 : Int32).toInt = 114) (rfl : x_36.toInt = x_36.toInt) (by omega) (by omega)
                refine q_iald (v := q_s z_49.toNatClampNeg) C hP 1 rfl (o_in (rfl : z_49.toInt = z_49.toInt) (by omega) (by omega)) rfl dX11_areInSight_91 ?_
                refine lv_topi (fun z_50 ez_50 => ?_)
                have hz_50 := Rg.at hR6 ez_50 (by have := o_cl (rfl : z_49.toInt = z_49.toInt) (by omega); omega) (by have := o_cl (rfl : z_49.toInt = z_49.toInt) (by omega); omega)
                refine q_ai (wr := []) (r_V (rm := (Rm 1 22 0 0)) (q0 := 0) (As := [.int a, .int b, .int z_48, .int z_50]) (rest := []) (wc := [(q, oC11 q_thrown q_tape_ q_length q_size q_p q_limit q_s_ q_h_ q_read_ q_names_ q_reserved_ q_token q_at q_span q_number q_fault q_faultAt q_word q_got q_lines q_onces q_webs q_one q_two q_seed q_undone_ q_before_ q_undoMany q_far_ q_wayRow_ q_wayMany q_keptRow_ q_askedRow_ q_rares_ q_trial_ q_keptMany q_askedMany q_hangs_ q_paths_ q_tornSteps q_hasTorn q_turnOne q_hasTurn q_text_ q_textMany q_toldMany q_toldAt_ q_hasTold q_stack_ q_codes q_ones q_top q_deep q_isWhole q_truths_ q_imaged_ q_namesKept_ q_areKept_), (q_s_, aC1 cy 383 q_s)]) C hS (q_subP hP [0, 1] rfl) (hD.sub [0, 1] (by decide) rfl) (y_isBetween l D cy q a b z_48 z_50 q_thrown q_tape_ q_length q_size q_p q_limit q_s_ q_h_ q_read_ q_names_ q_reserved_ q_token q_at q_span q_number q_fault q_faultAt q_word q_got q_lines q_onces q_webs q_one q_two q_seed q_undone_ q_before_ q_undoMany q_far_ q_wayRow_ q_wayMany q_keptRow_ q_askedRow_ q_rares_ q_trial_ q_keptMany q_askedMany q_hangs_ q_paths_ q_tornSteps q_hasTorn q_turnOne q_hasTurn q_text_ q_textMany q_toldMany q_toldAt_ q_hasTold q_stack_ q_codes q_ones q_top q_deep q_isWhole q_truths_ q_imaged_ q_namesKept_ q_areKept_ q_s _ (by omega) (by omega) (by omega) (by omega) (by omega) (by omega) (by omega) (by omega) (by omega) (by omega) (by omega) (by omega) (by omega) (by omega) (by omega) (by omega) (by omega) (by omega) (by omega) (by omega) (by omega) (by omega) (by omega) (by omega) hR0 hR1 hR2 hR3 hR4 hR5 hR6 hR7 hR8) kwV_X11_isBetween kM_RX11_300 rfl rfl ⟨Nat.le_of_ble_eq_true rfl, Nat.le_of_ble_eq_true rfl⟩ rfl hl.1 rfl (Nat.le_of_ble_eq_true rfl) dX11_areInSight_92 ⟨hroom.1, hroom.2⟩) C.2.2.2.2.2.2.1 hP hD hS [0, 1] [] rfl rfl (by decide) (by decide) (fun r_52 u_51 H locs hw_53 hP hD hS => ?_)
                have hp_53 : 0 ≤ r_52.toInt ∧ r_52.toInt ≤ 1 := hw_53
                clear hw_53
                refine lv_if_ne (tgt := 102) hx hb dX11_areInSight_95 (by decide) (fun c_55 => ?_) (fun c_55 => ?_)
                · have hc_55 := o_ne (rfl : r_52.toInt = r_52.toInt) (by decide : (0 : Int32).toInt = 0) c_55
                  have hnc_55 : 0 ≤ r_52.toInt + (-1) := by rcases Int.lt_or_gt_of_ne hc_55 with h9 | h9 <;> omega
                  refine lv_iconst (v := 0) hx hb dX11_areInSight_102 (by decide) ?_
                  refine lv_istore_n (lv' := [(3, .int 0), (0, .ref q), (1, .int a), (2, .int b), (4, .int x_36)]) hx hb dX11_areInSight_103 rfl hl (by decide) rfl (fun ls hl => ?_)
                  obtain ⟨z_56, hz_56⟩ : ∃ z : Int32, z = x_36 + 1 := ⟨_, rfl⟩
                  refine lv_iinc (v := z_56) (lv' := [(4, .int z_56), (3, .int 0), (0, .ref q), (1, .int a), (2, .int b)]) hx hb dX11_areInSight_104 hl (k := 4) rfl hz_56.symm (by decide) rfl (fun ls hl => ?_)
                  have hz_56 := o_add hz_56 (rfl : x_36.toInt = x_36.toInt) (by decide : (1 : Int32).toInt = 1) (by omega) (by omega)
                  refine lv_goto (tgt := 54) hx hb dX11_areInSight_107 (by decide) ?_
                  exact ih_41 (0 : Int32) z_56 H locs ls (by have e0 : (0 : Int32).toInt = 0 := (by decide); omega) (by have e0 : (0 : Int32).toInt = 0 := (by decide); omega) (by have e0 : (0 : Int32).toInt = 0 := (by decide); omega) hP hD hS (lv_sub hl [2, 3, 4, 1, 0] rfl)
                · have hc_55 := o_eq (rfl : r_52.toInt = r_52.toInt) (by decide : (0 : Int32).toInt = 0) c_55
                  refine lv_iconst (v := 1) hx hb dX11_areInSight_98 (by decide) ?_
                  refine lv_goto (tgt := 103) hx hb dX11_areInSight_99 (by decide) ?_
                  refine lv_istore_n (lv' := [(3, .int 1), (0, .ref q), (1, .int a), (2, .int b), (4, .int x_36)]) hx hb dX11_areInSight_103 rfl hl (by decide) rfl (fun ls hl => ?_)
                  obtain ⟨z_57, hz_57⟩ : ∃ z : Int32, z = x_36 + 1 := ⟨_, rfl⟩
                  refine lv_iinc (v := z_57) (lv' := [(4, .int z_57), (3, .int 1), (0, .ref q), (1, .int a), (2, .int b)]) hx hb dX11_areInSight_104 hl (k := 4) rfl hz_57.symm (by decide) rfl (fun ls hl => ?_)
                  have hz_57 := o_add hz_57 (rfl : x_36.toInt = x_36.toInt) (by decide : (1 : Int32).toInt = 1) (by omega) (by omega)
                  refine lv_goto (tgt := 54) hx hb dX11_areInSight_107 (by decide) ?_
                  exact ih_41 (1 : Int32) z_57 H locs ls (by have e0 : (1 : Int32).toInt = 1 := (by decide); omega) (by have e0 : (1 : Int32).toInt = 1 := (by decide); omega) (by have e0 : (1 : Int32).toInt = 1 := (by decide); omega) hP hD hS (lv_sub hl [2, 3, 4, 1, 0] rfl)
        exact lp_54_36 9 (1 : Int32) (0 : Int32) H locs ls (by have e0 : (0 : Int32).toInt = 0 := (by decide); have e1 : (1 : Int32).toInt = 1 := (by decide); omega) (by have e0 : (0 : Int32).toInt = 0 := (by decide); have e1 : (1 : Int32).toInt = 1 := (by decide); omega) (by have e0 : (0 : Int32).toInt = 0 := (by decide); have e1 : (1 : Int32).toInt = 1 := (by decide); omega) hP hD hS (lv_sub hl [2, 3, 4, 1, 0] rfl)
      · have hc_34 := o_ne (rfl : z_31.toInt = z_31.toInt) (rfl : z_33.toInt = z_33.toInt) c_34
        refine lv_iconst (v := 0) hx hb dX11_areInSight_47 (by decide) ?_
        refine o_wq hQ ?_
        exact q_iret (rm := (Rm 2 46 0 0)) C hS () rfl (show 0 ≤ (0 : Int32).toInt ∧ (0 : Int32).toInt ≤ 1 by decide) (q_subP hP [0, 1] rfl) (hD.sub [0, 1] (by decide) rfl) hroom.1 hroom.2 dX11_areInSight_48
theorem y_areInSight (l : Launch) (D : va_G) (cy : Nat → ClassId) (q : Nat) (a : Int32) (b : Int32) (q_thrown : Int32) (q_tape_ : Nat) (q_length : Int32) (q_size : Int32) (q_p : Int32) (q_limit : Int32) (q_s_ : Nat) (q_h_ : Nat) (q_read_ : Nat) (q_names_ : Nat) (q_reserved_ : Nat) (q_token : Int32) (q_at : Int32) (q_span : Int32) (q_number : Int32) (q_fault : Int32) (q_faultAt : Int32) (q_word : Int64) (q_got : Int32) (q_lines : Int32) (q_onces : Int32) (q_webs : Int32) (q_one : Int32) (q_two : Int32) (q_seed : Int32) (q_undone_ : Nat) (q_before_ : Nat) (q_undoMany : Int32) (q_far_ : Nat) (q_wayRow_ : Nat) (q_wayMany : Int32) (q_keptRow_ : Nat) (q_askedRow_ : Nat) (q_rares_ : Nat) (q_trial_ : Nat) (q_keptMany : Int32) (q_askedMany : Int32) (q_hangs_ : Nat) (q_paths_ : Nat) (q_tornSteps : Int32) (q_hasTorn : Int32) (q_turnOne : Int32) (q_hasTurn : Int32) (q_text_ : Nat) (q_textMany : Int32) (q_toldMany : Int32) (q_toldAt_ : Nat) (q_hasTold : Int32) (q_stack_ : Nat) (q_codes : Int32) (q_ones : Int32) (q_top : Int32) (q_deep : Int32) (q_isWhole : Int32) (q_truths_ : Nat) (q_imaged_ : Nat) (q_namesKept_ : Nat) (q_areKept_ : Nat) (q_s : Nat → Int32) (sz : Nat) (hb0 : 0 ≤ q_length.toInt ∧ q_length.toInt ≤ 940) (hb1 : 0 ≤ q_size.toInt ∧ q_size.toInt ≤ 940) (hb2 : 0 ≤ q_p.toInt ∧ q_p.toInt ≤ 940) (hb3 : 0 ≤ q_limit.toInt ∧ q_limit.toInt ≤ 940) (hb4 : 0 ≤ q_span.toInt ∧ q_span.toInt ≤ 940) (hb5 : 0 ≤ q_number.toInt ∧ q_number.toInt ≤ 8214) (hb6 : (-1) ≤ q_got.toInt ∧ q_got.toInt ≤ 8214) (hb7 : 0 ≤ q_one.toInt ∧ q_one.toInt ≤ 7) (hb8 : 0 ≤ q_two.toInt ∧ q_two.toInt ≤ 7) (hb9 : 0 ≤ q_undoMany.toInt ∧ q_undoMany.toInt ≤ 8) (hb10 : (-1) ≤ q_wayMany.toInt ∧ q_wayMany.toInt ≤ 8) (hb11 : (-1) ≤ q_keptMany.toInt ∧ q_keptMany.toInt ≤ 8) (hb12 : (-1) ≤ q_askedMany.toInt ∧ q_askedMany.toInt ≤ 3) (hb13 : 0 ≤ q_hasTorn.toInt ∧ q_hasTorn.toInt ≤ 1) (hb14 : 0 ≤ q_hasTurn.toInt ∧ q_hasTurn.toInt ≤ 1) (hb15 : 0 ≤ q_textMany.toInt ∧ q_textMany.toInt ≤ 48) (hb16 : 0 ≤ q_toldMany.toInt ∧ q_toldMany.toInt ≤ 40) (hb17 : 0 ≤ q_hasTold.toInt ∧ q_hasTold.toInt ≤ 1) (hb18 : 0 ≤ q_codes.toInt ∧ q_codes.toInt ≤ 40) (hb19 : 0 ≤ q_ones.toInt ∧ q_ones.toInt ≤ 20) (hb20 : 0 ≤ q_top.toInt ∧ q_top.toInt ≤ 40) (hb21 : 0 ≤ q_isWhole.toInt ∧ q_isWhole.toInt ≤ 1) (hb22 : 0 ≤ a.toInt ∧ a.toInt ≤ 7) (hb23 : 0 ≤ b.toInt ∧ b.toInt ≤ 7) (hR0 : Rg q_s 0 1 0 8) (hR1 : Rg q_s 1 3 0 6) (hR2 : Rg q_s 3 4 1 50) (hR3 : Rg q_s 4 5 1 5) (hR4 : Rg q_s 103 104 0 255) (hR5 : Rg q_s 7 23 0 5) (hR6 : Rg q_s 106 122 0 5) (hR7 : Rg q_s 23 31 0 99) (hR8 : Rg q_s 122 130 0 99) : MI l yX11_areInSight cX11_areInSight 5 (some .boolean) (Rm 2 46 0 0) D cy [.ref q, .int a, .int b] sz [(q, oC11 q_thrown q_tape_ q_length q_size q_p q_limit q_s_ q_h_ q_read_ q_names_ q_reserved_ q_token q_at q_span q_number q_fault q_faultAt q_word q_got q_lines q_onces q_webs q_one q_two q_seed q_undone_ q_before_ q_undoMany q_far_ q_wayRow_ q_wayMany q_keptRow_ q_askedRow_ q_rares_ q_trial_ q_keptMany q_askedMany q_hangs_ q_paths_ q_tornSteps q_hasTorn q_turnOne q_hasTurn q_text_ q_textMany q_toldMany q_toldAt_ q_hasTold q_stack_ q_codes q_ones q_top q_deep q_isWhole q_truths_ q_imaged_ q_namesKept_ q_areKept_), (q_s_, aC1 cy 383 q_s)] (fun (r : Int32) (u : Unit) => (0 ≤ r.toInt ∧ r.toInt ≤ 1)) (fun u : Unit => [(q, oC11 q_thrown q_tape_ q_length q_size q_p q_limit q_s_ q_h_ q_read_ q_names_ q_reserved_ q_token q_at q_span q_number q_fault q_faultAt q_word q_got q_lines q_onces q_webs q_one q_two q_seed q_undone_ q_before_ q_undoMany q_far_ q_wayRow_ q_wayMany q_keptRow_ q_askedRow_ q_rares_ q_trial_ q_keptMany q_askedMany q_hangs_ q_paths_ q_tornSteps q_hasTorn q_turnOne q_hasTurn q_text_ q_textMany q_toldMany q_toldAt_ q_hasTold q_stack_ q_codes q_ones q_top q_deep q_isWhole q_truths_ q_imaged_ q_namesKept_ q_areKept_), (q_s_, aC1 cy 383 q_s)]) := by
  refine MI.enter (by decide) (Nat.le_of_ble_eq_true rfl) ?_
  intro p e s m below meth c ls A hsz hAe C hP hD hS hl
  exact b_y_areInSight l D cy q a b q_thrown q_tape_ q_length q_size q_p q_limit q_s_ q_h_ q_read_ q_names_ q_reserved_ q_token q_at q_span q_number q_fault q_faultAt q_word q_got q_lines q_onces q_webs q_one q_two q_seed q_undone_ q_before_ q_undoMany q_far_ q_wayRow_ q_wayMany q_keptRow_ q_askedRow_ q_rares_ q_trial_ q_keptMany q_askedMany q_hangs_ q_paths_ q_tornSteps q_hasTorn q_turnOne q_hasTurn q_text_ q_textMany q_toldMany q_toldAt_ q_hasTold q_stack_ q_codes q_ones q_top q_deep q_isWhole q_truths_ q_imaged_ q_namesKept_ q_areKept_ q_s hb0 hb1 hb2 hb3 hb4 hb5 hb6 hb7 hb8 hb9 hb10 hb11 hb12 hb13 hb14 hb15 hb16 hb17 hb18 hb19 hb20 hb21 hb22 hb23 hR0 hR1 hR2 hR3 hR4 hR5 hR6 hR7 hR8 ⟨Nat.le_of_ble_eq_true rfl, Nat.le_of_ble_eq_true rfl⟩ C rfl _ _ ls hP hD hS hl
