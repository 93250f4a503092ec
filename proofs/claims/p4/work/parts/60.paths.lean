theorem dX5_cellPlace_0 : decode cX5_cellPlace 0 = .ok (.iload_n 1, 1) := by decide +kernel
theorem dX5_cellPlace_1 : decode cX5_cellPlace 1 = .ok (.bipush 6, 2) := by decide +kernel
theorem dX5_cellPlace_3 : decode cX5_cellPlace 3 = .ok (.imul, 1) := by decide +kernel
theorem dX5_cellPlace_4 : decode cX5_cellPlace 4 = .ok (.iload_n 0, 1) := by decide +kernel
theorem dX5_cellPlace_5 : decode cX5_cellPlace 5 = .ok (.iadd, 1) := by decide +kernel
theorem dX5_cellPlace_6 : decode cX5_cellPlace 6 = .ok (.ireturn, 1) := by decide +kernel
theorem dX5_ringOf_0 : decode cX5_ringOf 0 = .ok (.iconst 1, 1) := by decide +kernel
theorem dX5_ringOf_1 : decode cX5_ringOf 1 = .ok (.iload 4, 2) := by decide +kernel
theorem dX5_ringOf_3 : decode cX5_ringOf 3 = .ok (.ishl, 1) := by decide +kernel
theorem dX5_ringOf_4 : decode cX5_ringOf 4 = .ok (.istore 5, 2) := by decide +kernel
theorem dX5_ringOf_6 : decode cX5_ringOf 6 = .ok (.aload_n 0, 1) := by decide +kernel
theorem dX5_ringOf_7 : decode cX5_ringOf 7 = .ok (.getfield 22, 3) := by decide +kernel
theorem kF_RX5_22 : Cond.fieldLink RX5 22 "CobwebLibrary$Paths" "rings" "[I" ∈ gT := List.mem_filter.mpr ⟨List.mem_of_getElem? (i := 536) (by decide +kernel), by decide +kernel⟩
theorem dX5_ringOf_10 : decode cX5_ringOf 10 = .ok (.iconst 0, 1) := by decide +kernel
theorem dX5_ringOf_11 : decode cX5_ringOf 11 = .ok (.iload 5, 2) := by decide +kernel
theorem dX5_ringOf_13 : decode cX5_ringOf 13 = .ok (.iastore, 1) := by decide +kernel
theorem dX5_ringOf_14 : decode cX5_ringOf 14 = .ok (.iconst 0, 1) := by decide +kernel
theorem dX5_ringOf_15 : decode cX5_ringOf 15 = .ok (.istore 6, 2) := by decide +kernel
theorem dX5_ringOf_17 : decode cX5_ringOf 17 = .ok (.iload 6, 2) := by decide +kernel
theorem dX5_ringOf_19 : decode cX5_ringOf 19 = .ok (.bipush 8, 2) := by decide +kernel
theorem dX5_ringOf_21 : decode cX5_ringOf 21 = .ok (.if_icmp .ge 109, 3) := by decide +kernel
theorem dX5_ringOf_130 : decode cX5_ringOf 130 = .ok (.iconst (-1), 1) := by decide +kernel
theorem dX5_ringOf_131 : decode cX5_ringOf 131 = .ok (.ireturn, 1) := by decide +kernel
theorem dX5_ringOf_24 : decode cX5_ringOf 24 = .ok (.aload_n 0, 1) := by decide +kernel
theorem dX5_ringOf_25 : decode cX5_ringOf 25 = .ok (.getfield 22, 3) := by decide +kernel
theorem dX5_ringOf_28 : decode cX5_ringOf 28 = .ok (.iload 6, 2) := by decide +kernel
theorem dX5_ringOf_30 : decode cX5_ringOf 30 = .ok (.iaload, 1) := by decide +kernel
theorem dX5_ringOf_31 : decode cX5_ringOf 31 = .ok (.ifCond .eq 99, 3) := by decide +kernel
theorem dX5_ringOf_34 : decode cX5_ringOf 34 = .ok (.aload_n 0, 1) := by decide +kernel
theorem dX5_ringOf_35 : decode cX5_ringOf 35 = .ok (.getfield 22, 3) := by decide +kernel
theorem dX5_ringOf_38 : decode cX5_ringOf 38 = .ok (.iload 6, 2) := by decide +kernel
theorem dX5_ringOf_40 : decode cX5_ringOf 40 = .ok (.iaload, 1) := by decide +kernel
theorem dX5_ringOf_41 : decode cX5_ringOf 41 = .ok (.iload_n 3, 1) := by decide +kernel
theorem dX5_ringOf_42 : decode cX5_ringOf 42 = .ok (.invokestatic 50, 3) := by decide +kernel
theorem kN_RX5_50 : (RX5, 50, yX10_bitOf, RX10) ∈ nestQ := List.mem_of_getElem? (i := 19) (by decide +kernel)
theorem dX5_ringOf_45 : decode cX5_ringOf 45 = .ok (.iconst 1, 1) := by decide +kernel
theorem dX5_ringOf_46 : decode cX5_ringOf 46 = .ok (.if_icmp .ne 6, 3) := by decide +kernel
theorem dX5_ringOf_52 : decode cX5_ringOf 52 = .ok (.iconst 0, 1) := by decide +kernel
theorem dX5_ringOf_53 : decode cX5_ringOf 53 = .ok (.istore 7, 2) := by decide +kernel
theorem dX5_ringOf_55 : decode cX5_ringOf 55 = .ok (.iconst 0, 1) := by decide +kernel
theorem dX5_ringOf_56 : decode cX5_ringOf 56 = .ok (.istore 8, 2) := by decide +kernel
theorem dX5_ringOf_58 : decode cX5_ringOf 58 = .ok (.iload 8, 2) := by decide +kernel
theorem dX5_ringOf_60 : decode cX5_ringOf 60 = .ok (.aload_n 1, 1) := by decide +kernel
theorem dX5_ringOf_61 : decode cX5_ringOf 61 = .ok (.getfield 53, 3) := by decide +kernel
theorem kF_RX5_53 : Cond.fieldLink RX5 53 "CobwebLibrary$Plan" "books" "I" ∈ gT := List.mem_filter.mpr ⟨List.mem_of_getElem? (i := 246) (by decide +kernel), by decide +kernel⟩
theorem dX5_ringOf_64 : decode cX5_ringOf 64 = .ok (.if_icmp .ge 37, 3) := by decide +kernel
theorem dX5_ringOf_101 : decode cX5_ringOf 101 = .ok (.aload_n 0, 1) := by decide +kernel
theorem dX5_ringOf_102 : decode cX5_ringOf 102 = .ok (.getfield 22, 3) := by decide +kernel
theorem dX5_ringOf_105 : decode cX5_ringOf 105 = .ok (.iload 6, 2) := by decide +kernel
theorem dX5_ringOf_107 : decode cX5_ringOf 107 = .ok (.iconst 1, 1) := by decide +kernel
theorem dX5_ringOf_108 : decode cX5_ringOf 108 = .ok (.iadd, 1) := by decide +kernel
theorem dX5_ringOf_109 : decode cX5_ringOf 109 = .ok (.iload 7, 2) := by decide +kernel
theorem dX5_ringOf_111 : decode cX5_ringOf 111 = .ok (.iload 5, 2) := by decide +kernel
theorem dX5_ringOf_113 : decode cX5_ringOf 113 = .ok (.iconst (-1), 1) := by decide +kernel
theorem dX5_ringOf_114 : decode cX5_ringOf 114 = .ok (.ixor, 1) := by decide +kernel
theorem dX5_ringOf_115 : decode cX5_ringOf 115 = .ok (.iand, 1) := by decide +kernel
theorem dX5_ringOf_116 : decode cX5_ringOf 116 = .ok (.iastore, 1) := by decide +kernel
theorem dX5_ringOf_117 : decode cX5_ringOf 117 = .ok (.iload 5, 2) := by decide +kernel
theorem dX5_ringOf_119 : decode cX5_ringOf 119 = .ok (.iload 7, 2) := by decide +kernel
theorem dX5_ringOf_121 : decode cX5_ringOf 121 = .ok (.ior, 1) := by decide +kernel
theorem dX5_ringOf_122 : decode cX5_ringOf 122 = .ok (.istore 5, 2) := by decide +kernel
theorem dX5_ringOf_124 : decode cX5_ringOf 124 = .ok (.iinc 6 1, 3) := by decide +kernel
theorem dX5_ringOf_127 : decode cX5_ringOf 127 = .ok (.goto (-110), 3) := by decide +kernel
theorem dX5_ringOf_67 : decode cX5_ringOf 67 = .ok (.aload_n 0, 1) := by decide +kernel
theorem dX5_ringOf_68 : decode cX5_ringOf 68 = .ok (.getfield 22, 3) := by decide +kernel
theorem dX5_ringOf_71 : decode cX5_ringOf 71 = .ok (.iload 6, 2) := by decide +kernel
theorem dX5_ringOf_73 : decode cX5_ringOf 73 = .ok (.iaload, 1) := by decide +kernel
theorem dX5_ringOf_74 : decode cX5_ringOf 74 = .ok (.iload 8, 2) := by decide +kernel
theorem dX5_ringOf_76 : decode cX5_ringOf 76 = .ok (.invokestatic 50, 3) := by decide +kernel
theorem dX5_ringOf_79 : decode cX5_ringOf 79 = .ok (.iconst 1, 1) := by decide +kernel
theorem dX5_ringOf_80 : decode cX5_ringOf 80 = .ok (.if_icmp .ne 15, 3) := by decide +kernel
theorem dX5_ringOf_95 : decode cX5_ringOf 95 = .ok (.iinc 8 1, 3) := by decide +kernel
theorem dX5_ringOf_98 : decode cX5_ringOf 98 = .ok (.goto (-40), 3) := by decide +kernel
theorem dX5_ringOf_83 : decode cX5_ringOf 83 = .ok (.iload 7, 2) := by decide +kernel
theorem dX5_ringOf_85 : decode cX5_ringOf 85 = .ok (.aload_n 2, 1) := by decide +kernel
theorem dX5_ringOf_86 : decode cX5_ringOf 86 = .ok (.aload_n 1, 1) := by decide +kernel
theorem dX5_ringOf_87 : decode cX5_ringOf 87 = .ok (.iload 8, 2) := by decide +kernel
theorem dX5_ringOf_89 : decode cX5_ringOf 89 = .ok (.invokevirtual 35, 3) := by decide +kernel
theorem kM_RX5_35 : Cond.methodLink RX5 35 yX8_linesOf ∈ gT := List.mem_filter.mpr ⟨List.mem_of_getElem? (i := 1222) (by decide +kernel), by decide +kernel⟩
theorem dX5_ringOf_92 : decode cX5_ringOf 92 = .ok (.ior, 1) := by decide +kernel
theorem dX5_ringOf_93 : decode cX5_ringOf 93 = .ok (.istore 7, 2) := by decide +kernel
theorem dX5_ringOf_49 : decode cX5_ringOf 49 = .ok (.iload 6, 2) := by decide +kernel
theorem dX5_ringOf_51 : decode cX5_ringOf 51 = .ok (.ireturn, 1) := by decide +kernel
theorem dX5_findWay_0 : decode cX5_findWay 0 = .ok (.aload_n 0, 1) := by decide +kernel
theorem dX5_findWay_1 : decode cX5_findWay 1 = .ok (.aload_n 1, 1) := by decide +kernel
theorem dX5_findWay_2 : decode cX5_findWay 2 = .ok (.aload_n 2, 1) := by decide +kernel
theorem dX5_findWay_3 : decode cX5_findWay 3 = .ok (.iload_n 3, 1) := by decide +kernel
theorem dX5_findWay_4 : decode cX5_findWay 4 = .ok (.iload 4, 2) := by decide +kernel
theorem dX5_findWay_6 : decode cX5_findWay 6 = .ok (.invokevirtual 31, 3) := by decide +kernel
theorem kwV_X5_ringOf : MwV RX5 yX5_ringOf cX5_ringOf 9 (some .int) 4 := ⟨List.mem_filter.mpr ⟨List.mem_of_getElem? (i := 1220) (by decide +kernel), by decide +kernel⟩, List.mem_filter.mpr ⟨List.mem_of_getElem? (i := 1219) (by decide +kernel), by decide +kernel⟩, List.mem_filter.mpr ⟨List.mem_of_getElem? (i := 35) (by decide +kernel), by decide +kernel⟩, List.mem_filter.mpr ⟨List.mem_of_getElem? (i := 137) (by decide +kernel), by decide +kernel⟩, by decide +kernel⟩
theorem kM_RX5_31 : Cond.methodLink RX5 31 yX5_ringOf ∈ gT := List.mem_filter.mpr ⟨List.mem_of_getElem? (i := 1217) (by decide +kernel), by decide +kernel⟩
theorem dX5_findWay_9 : decode cX5_findWay 9 = .ok (.istore 5, 2) := by decide +kernel
theorem dX5_findWay_11 : decode cX5_findWay 11 = .ok (.iload 5, 2) := by decide +kernel
theorem dX5_findWay_13 : decode cX5_findWay 13 = .ok (.iconst (-1), 1) := by decide +kernel
theorem dX5_findWay_14 : decode cX5_findWay 14 = .ok (.if_icmp .ne 5, 3) := by decide +kernel
theorem dX5_findWay_19 : decode cX5_findWay 19 = .ok (.aload_n 0, 1) := by decide +kernel
theorem dX5_findWay_20 : decode cX5_findWay 20 = .ok (.getfield 9, 3) := by decide +kernel
theorem kF_RX5_9 : Cond.fieldLink RX5 9 "CobwebLibrary$Paths" "way" "[I" ∈ gT := List.mem_filter.mpr ⟨List.mem_of_getElem? (i := 530) (by decide +kernel), by decide +kernel⟩
theorem dX5_findWay_23 : decode cX5_findWay 23 = .ok (.iconst 0, 1) := by decide +kernel
theorem dX5_findWay_24 : decode cX5_findWay 24 = .ok (.iload_n 3, 1) := by decide +kernel
theorem dX5_findWay_25 : decode cX5_findWay 25 = .ok (.iastore, 1) := by decide +kernel
theorem dX5_findWay_26 : decode cX5_findWay 26 = .ok (.iconst 1, 1) := by decide +kernel
theorem dX5_findWay_27 : decode cX5_findWay 27 = .ok (.istore 6, 2) := by decide +kernel
theorem dX5_findWay_29 : decode cX5_findWay 29 = .ok (.iload 6, 2) := by decide +kernel
theorem dX5_findWay_31 : decode cX5_findWay 31 = .ok (.iload 5, 2) := by decide +kernel
theorem dX5_findWay_33 : decode cX5_findWay 33 = .ok (.if_icmp .gt 60, 3) := by decide +kernel
theorem dX5_findWay_93 : decode cX5_findWay 93 = .ok (.aload_n 0, 1) := by decide +kernel
theorem dX5_findWay_94 : decode cX5_findWay 94 = .ok (.iload 5, 2) := by decide +kernel
theorem dX5_findWay_96 : decode cX5_findWay 96 = .ok (.iconst 1, 1) := by decide +kernel
theorem dX5_findWay_97 : decode cX5_findWay 97 = .ok (.iadd, 1) := by decide +kernel
theorem dX5_findWay_98 : decode cX5_findWay 98 = .ok (.putfield 15, 3) := by decide +kernel
theorem kF_RX5_15 : Cond.fieldLink RX5 15 "CobwebLibrary$Paths" "waySize" "I" ∈ gT := List.mem_filter.mpr ⟨List.mem_of_getElem? (i := 532) (by decide +kernel), by decide +kernel⟩
theorem dX5_findWay_101 : decode cX5_findWay 101 = .ok (.iload 5, 2) := by decide +kernel
theorem dX5_findWay_103 : decode cX5_findWay 103 = .ok (.ireturn, 1) := by decide +kernel
theorem dX5_findWay_36 : decode cX5_findWay 36 = .ok (.iload 6, 2) := by decide +kernel
theorem dX5_findWay_38 : decode cX5_findWay 38 = .ok (.bipush 8, 2) := by decide +kernel
theorem dX5_findWay_40 : decode cX5_findWay 40 = .ok (.if_icmp .ge 53, 3) := by decide +kernel
theorem dX5_findWay_43 : decode cX5_findWay 43 = .ok (.aload_n 2, 1) := by decide +kernel
theorem dX5_findWay_44 : decode cX5_findWay 44 = .ok (.aload_n 1, 1) := by decide +kernel
theorem dX5_findWay_45 : decode cX5_findWay 45 = .ok (.aload_n 0, 1) := by decide +kernel
theorem dX5_findWay_46 : decode cX5_findWay 46 = .ok (.getfield 9, 3) := by decide +kernel
theorem dX5_findWay_49 : decode cX5_findWay 49 = .ok (.iload 6, 2) := by decide +kernel
theorem dX5_findWay_51 : decode cX5_findWay 51 = .ok (.iconst 1, 1) := by decide +kernel
theorem dX5_findWay_52 : decode cX5_findWay 52 = .ok (.isub, 1) := by decide +kernel
theorem dX5_findWay_53 : decode cX5_findWay 53 = .ok (.iaload, 1) := by decide +kernel
theorem dX5_findWay_54 : decode cX5_findWay 54 = .ok (.invokevirtual 35, 3) := by decide +kernel
theorem dX5_findWay_57 : decode cX5_findWay 57 = .ok (.aload_n 0, 1) := by decide +kernel
theorem dX5_findWay_58 : decode cX5_findWay 58 = .ok (.getfield 22, 3) := by decide +kernel
theorem dX5_findWay_61 : decode cX5_findWay 61 = .ok (.iload 5, 2) := by decide +kernel
theorem dX5_findWay_63 : decode cX5_findWay 63 = .ok (.iload 6, 2) := by decide +kernel
theorem dX5_findWay_65 : decode cX5_findWay 65 = .ok (.isub, 1) := by decide +kernel
theorem dX5_findWay_66 : decode cX5_findWay 66 = .ok (.iaload, 1) := by decide +kernel
theorem dX5_findWay_67 : decode cX5_findWay 67 = .ok (.iand, 1) := by decide +kernel
theorem dX5_findWay_68 : decode cX5_findWay 68 = .ok (.istore 7, 2) := by decide +kernel
theorem dX5_findWay_70 : decode cX5_findWay 70 = .ok (.aload_n 0, 1) := by decide +kernel
theorem dX5_findWay_71 : decode cX5_findWay 71 = .ok (.getfield 9, 3) := by decide +kernel
theorem dX5_findWay_74 : decode cX5_findWay 74 = .ok (.iload 6, 2) := by decide +kernel
theorem dX5_findWay_76 : decode cX5_findWay 76 = .ok (.iconst 0, 1) := by decide +kernel
theorem dX5_findWay_77 : decode cX5_findWay 77 = .ok (.iload 7, 2) := by decide +kernel
theorem dX5_findWay_79 : decode cX5_findWay 79 = .ok (.iconst 0, 1) := by decide +kernel
theorem dX5_findWay_80 : decode cX5_findWay 80 = .ok (.invokestatic 41, 3) := by decide +kernel
theorem kwS_X10_bookOf : MwS yX10_bookOf cX10_bookOf 4 (some .int) 2 := ⟨List.mem_filter.mpr ⟨List.mem_of_getElem? (i := 950) (by decide +kernel), by decide +kernel⟩, List.mem_filter.mpr ⟨List.mem_of_getElem? (i := 949) (by decide +kernel), by decide +kernel⟩, List.mem_filter.mpr ⟨List.mem_of_getElem? (i := 128) (by decide +kernel), by decide +kernel⟩, by decide +kernel⟩
theorem kN_RX5_41 : (RX5, 41, yX10_bookOf, RX10) ∈ nestQ := List.mem_of_getElem? (i := 18) (by decide +kernel)
theorem dX5_findWay_83 : decode cX5_findWay 83 = .ok (.invokestatic 45, 3) := by decide +kernel
theorem kM_RX5_45 : Cond.methodLink RX5 45 Lib.Math.max.name ∈ gT := List.mem_filter.mpr ⟨List.mem_of_getElem? (i := 1224) (by decide +kernel), by decide +kernel⟩
theorem dX5_findWay_86 : decode cX5_findWay 86 = .ok (.iastore, 1) := by decide +kernel
theorem dX5_findWay_87 : decode cX5_findWay 87 = .ok (.iinc 6 1, 3) := by decide +kernel
theorem dX5_findWay_90 : decode cX5_findWay 90 = .ok (.goto (-61), 3) := by decide +kernel
theorem dX5_findWay_17 : decode cX5_findWay 17 = .ok (.iconst (-1), 1) := by decide +kernel
theorem dX5_findWay_18 : decode cX5_findWay 18 = .ok (.ireturn, 1) := by decide +kernel
theorem dX5_hangOne_0 : decode cX5_hangOne 0 = .ok (.iconst 0, 1) := by decide +kernel
theorem dX5_hangOne_1 : decode cX5_hangOne 1 = .ok (.istore 5, 2) := by decide +kernel
theorem dX5_hangOne_3 : decode cX5_hangOne 3 = .ok (.iload 5, 2) := by decide +kernel
theorem dX5_hangOne_5 : decode cX5_hangOne 5 = .ok (.bipush 6, 2) := by decide +kernel
theorem dX5_hangOne_7 : decode cX5_hangOne 7 = .ok (.if_icmp .ge 121, 3) := by decide +kernel
theorem dX5_hangOne_128 : decode cX5_hangOne 128 = .ok (.return_, 1) := by decide +kernel
theorem dX5_hangOne_10 : decode cX5_hangOne 10 = .ok (.aload_n 1, 1) := by decide +kernel
theorem dX5_hangOne_11 : decode cX5_hangOne 11 = .ok (.getfield 70, 3) := by decide +kernel
theorem kF_RX5_70 : Cond.fieldLink RX5 70 "CobwebLibrary$Shelves" "y" "[I" ∈ gT := List.mem_filter.mpr ⟨List.mem_of_getElem? (i := 298) (by decide +kernel), by decide +kernel⟩
theorem dX5_hangOne_14 : decode cX5_hangOne 14 = .ok (.iload_n 2, 1) := by decide +kernel
theorem dX5_hangOne_15 : decode cX5_hangOne 15 = .ok (.iaload, 1) := by decide +kernel
theorem dX5_hangOne_16 : decode cX5_hangOne 16 = .ok (.aload_n 1, 1) := by decide +kernel
theorem dX5_hangOne_17 : decode cX5_hangOne 17 = .ok (.getfield 70, 3) := by decide +kernel
theorem dX5_hangOne_20 : decode cX5_hangOne 20 = .ok (.iload_n 3, 1) := by decide +kernel
theorem dX5_hangOne_21 : decode cX5_hangOne 21 = .ok (.iaload, 1) := by decide +kernel
theorem dX5_hangOne_66 : decode cX5_hangOne 66 = .ok (.aload_n 1, 1) := by decide +kernel
theorem dX5_hangOne_67 : decode cX5_hangOne 67 = .ok (.getfield 67, 3) := by decide +kernel
theorem kF_RX5_67 : Cond.fieldLink RX5 67 "CobwebLibrary$Shelves" "x" "[I" ∈ gT := List.mem_filter.mpr ⟨List.mem_of_getElem? (i := 294) (by decide +kernel), by decide +kernel⟩
theorem dX5_hangOne_70 : decode cX5_hangOne 70 = .ok (.iload_n 2, 1) := by decide +kernel
theorem dX5_hangOne_71 : decode cX5_hangOne 71 = .ok (.iaload, 1) := by decide +kernel
theorem dX5_hangOne_72 : decode cX5_hangOne 72 = .ok (.aload_n 1, 1) := by decide +kernel
theorem dX5_hangOne_73 : decode cX5_hangOne 73 = .ok (.getfield 67, 3) := by decide +kernel
theorem dX5_hangOne_76 : decode cX5_hangOne 76 = .ok (.iload_n 3, 1) := by decide +kernel
theorem dX5_hangOne_77 : decode cX5_hangOne 77 = .ok (.iaload, 1) := by decide +kernel
theorem dX5_hangOne_78 : decode cX5_hangOne 78 = .ok (.if_icmp .ne 44, 3) := by decide +kernel
theorem dX5_hangOne_122 : decode cX5_hangOne 122 = .ok (.iinc 5 1, 3) := by decide +kernel
theorem dX5_hangOne_125 : decode cX5_hangOne 125 = .ok (.goto (-122), 3) := by decide +kernel
theorem dX5_hangOne_81 : decode cX5_hangOne 81 = .ok (.iload 5, 2) := by decide +kernel
theorem dX5_hangOne_83 : decode cX5_hangOne 83 = .ok (.aload_n 1, 1) := by decide +kernel
theorem dX5_hangOne_84 : decode cX5_hangOne 84 = .ok (.getfield 70, 3) := by decide +kernel
theorem dX5_hangOne_87 : decode cX5_hangOne 87 = .ok (.iload_n 2, 1) := by decide +kernel
theorem dX5_hangOne_88 : decode cX5_hangOne 88 = .ok (.iaload, 1) := by decide +kernel
theorem dX5_hangOne_89 : decode cX5_hangOne 89 = .ok (.aload_n 1, 1) := by decide +kernel
theorem dX5_hangOne_90 : decode cX5_hangOne 90 = .ok (.getfield 70, 3) := by decide +kernel
theorem dX5_hangOne_93 : decode cX5_hangOne 93 = .ok (.iload_n 3, 1) := by decide +kernel
theorem dX5_hangOne_94 : decode cX5_hangOne 94 = .ok (.iaload, 1) := by decide +kernel
theorem dX5_hangOne_95 : decode cX5_hangOne 95 = .ok (.invokestatic 86, 3) := by decide +kernel
theorem kN_RX5_86 : (RX5, 86, yX10_isBetween, RX10) ∈ nestQ := List.mem_of_getElem? (i := 21) (by decide +kernel)
theorem dX5_hangOne_98 : decode cX5_hangOne 98 = .ok (.ifCond .eq 24, 3) := by decide +kernel
theorem dX5_hangOne_101 : decode cX5_hangOne 101 = .ok (.aload_n 0, 1) := by decide +kernel
theorem dX5_hangOne_102 : decode cX5_hangOne 102 = .ok (.getfield 25, 3) := by decide +kernel
theorem kF_RX5_25 : Cond.fieldLink RX5 25 "CobwebLibrary$Paths" "hanging" "[I" ∈ gT := List.mem_filter.mpr ⟨List.mem_of_getElem? (i := 537) (by decide +kernel), by decide +kernel⟩
theorem dX5_hangOne_105 : decode cX5_hangOne 105 = .ok (.aload_n 1, 1) := by decide +kernel
theorem dX5_hangOne_106 : decode cX5_hangOne 106 = .ok (.getfield 67, 3) := by decide +kernel
theorem dX5_hangOne_109 : decode cX5_hangOne 109 = .ok (.iload_n 2, 1) := by decide +kernel
theorem dX5_hangOne_110 : decode cX5_hangOne 110 = .ok (.iaload, 1) := by decide +kernel
theorem dX5_hangOne_111 : decode cX5_hangOne 111 = .ok (.iload 5, 2) := by decide +kernel
theorem dX5_hangOne_113 : decode cX5_hangOne 113 = .ok (.invokestatic 73, 3) := by decide +kernel
theorem kwS_X5_cellPlace : MwS yX5_cellPlace cX5_cellPlace 2 (some .int) 2 := ⟨List.mem_filter.mpr ⟨List.mem_of_getElem? (i := 1337) (by decide +kernel), by decide +kernel⟩, List.mem_filter.mpr ⟨List.mem_of_getElem? (i := 1336) (by decide +kernel), by decide +kernel⟩, List.mem_filter.mpr ⟨List.mem_of_getElem? (i := 137) (by decide +kernel), by decide +kernel⟩, by decide +kernel⟩
theorem kM_RX5_73 : Cond.methodLink RX5 73 yX5_cellPlace ∈ gT := List.mem_filter.mpr ⟨List.mem_of_getElem? (i := 1335) (by decide +kernel), by decide +kernel⟩
theorem dX5_hangOne_116 : decode cX5_hangOne 116 = .ok (.dup2, 1) := by decide +kernel
theorem dX5_hangOne_117 : decode cX5_hangOne 117 = .ok (.iaload, 1) := by decide +kernel
theorem dX5_hangOne_118 : decode cX5_hangOne 118 = .ok (.iload 4, 2) := by decide +kernel
theorem dX5_hangOne_120 : decode cX5_hangOne 120 = .ok (.iadd, 1) := by decide +kernel
theorem dX5_hangOne_121 : decode cX5_hangOne 121 = .ok (.iastore, 1) := by decide +kernel
theorem dX5_hangOne_22 : decode cX5_hangOne 22 = .ok (.if_icmp .ne 44, 3) := by decide +kernel
theorem dX5_hangOne_25 : decode cX5_hangOne 25 = .ok (.iload 5, 2) := by decide +kernel
theorem dX5_hangOne_27 : decode cX5_hangOne 27 = .ok (.aload_n 1, 1) := by decide +kernel
theorem dX5_hangOne_28 : decode cX5_hangOne 28 = .ok (.getfield 67, 3) := by decide +kernel
theorem dX5_hangOne_31 : decode cX5_hangOne 31 = .ok (.iload_n 2, 1) := by decide +kernel
theorem dX5_hangOne_32 : decode cX5_hangOne 32 = .ok (.iaload, 1) := by decide +kernel
theorem dX5_hangOne_33 : decode cX5_hangOne 33 = .ok (.aload_n 1, 1) := by decide +kernel
theorem dX5_hangOne_34 : decode cX5_hangOne 34 = .ok (.getfield 67, 3) := by decide +kernel
theorem dX5_hangOne_37 : decode cX5_hangOne 37 = .ok (.iload_n 3, 1) := by decide +kernel
theorem dX5_hangOne_38 : decode cX5_hangOne 38 = .ok (.iaload, 1) := by decide +kernel
theorem dX5_hangOne_39 : decode cX5_hangOne 39 = .ok (.invokestatic 86, 3) := by decide +kernel
theorem dX5_hangOne_42 : decode cX5_hangOne 42 = .ok (.ifCond .eq 24, 3) := by decide +kernel
theorem dX5_hangOne_45 : decode cX5_hangOne 45 = .ok (.aload_n 0, 1) := by decide +kernel
theorem dX5_hangOne_46 : decode cX5_hangOne 46 = .ok (.getfield 25, 3) := by decide +kernel
theorem dX5_hangOne_49 : decode cX5_hangOne 49 = .ok (.iload 5, 2) := by decide +kernel
theorem dX5_hangOne_51 : decode cX5_hangOne 51 = .ok (.aload_n 1, 1) := by decide +kernel
theorem dX5_hangOne_52 : decode cX5_hangOne 52 = .ok (.getfield 70, 3) := by decide +kernel
theorem dX5_hangOne_55 : decode cX5_hangOne 55 = .ok (.iload_n 2, 1) := by decide +kernel
theorem dX5_hangOne_56 : decode cX5_hangOne 56 = .ok (.iaload, 1) := by decide +kernel
theorem dX5_hangOne_57 : decode cX5_hangOne 57 = .ok (.invokestatic 73, 3) := by decide +kernel
theorem dX5_hangOne_60 : decode cX5_hangOne 60 = .ok (.dup2, 1) := by decide +kernel
theorem dX5_hangOne_61 : decode cX5_hangOne 61 = .ok (.iaload, 1) := by decide +kernel
theorem dX5_hangOne_62 : decode cX5_hangOne 62 = .ok (.iload 4, 2) := by decide +kernel
theorem dX5_hangOne_64 : decode cX5_hangOne 64 = .ok (.iadd, 1) := by decide +kernel
theorem dX5_hangOne_65 : decode cX5_hangOne 65 = .ok (.iastore, 1) := by decide +kernel
theorem dX5_hangThreads_0 : decode cX5_hangThreads 0 = .ok (.iconst 0, 1) := by decide +kernel
theorem dX5_hangThreads_1 : decode cX5_hangThreads 1 = .ok (.istore_n 3, 1) := by decide +kernel
theorem dX5_hangThreads_2 : decode cX5_hangThreads 2 = .ok (.iload_n 3, 1) := by decide +kernel
theorem dX5_hangThreads_3 : decode cX5_hangThreads 3 = .ok (.bipush 36, 2) := by decide +kernel
theorem dX5_hangThreads_5 : decode cX5_hangThreads 5 = .ok (.if_icmp .ge 16, 3) := by decide +kernel
theorem dX5_hangThreads_21 : decode cX5_hangThreads 21 = .ok (.iconst 0, 1) := by decide +kernel
theorem dX5_hangThreads_22 : decode cX5_hangThreads 22 = .ok (.istore_n 3, 1) := by decide +kernel
theorem dX5_hangThreads_23 : decode cX5_hangThreads 23 = .ok (.iload_n 3, 1) := by decide +kernel
theorem dX5_hangThreads_24 : decode cX5_hangThreads 24 = .ok (.aload_n 1, 1) := by decide +kernel
theorem dX5_hangThreads_25 : decode cX5_hangThreads 25 = .ok (.getfield 53, 3) := by decide +kernel
theorem dX5_hangThreads_28 : decode cX5_hangThreads 28 = .ok (.if_icmp .ge 57, 3) := by decide +kernel
theorem dX5_hangThreads_85 : decode cX5_hangThreads 85 = .ok (.return_, 1) := by decide +kernel
theorem dX5_hangThreads_31 : decode cX5_hangThreads 31 = .ok (.iload_n 3, 1) := by decide +kernel
theorem dX5_hangThreads_32 : decode cX5_hangThreads 32 = .ok (.iconst 1, 1) := by decide +kernel
theorem dX5_hangThreads_33 : decode cX5_hangThreads 33 = .ok (.iadd, 1) := by decide +kernel
theorem dX5_hangThreads_34 : decode cX5_hangThreads 34 = .ok (.istore 4, 2) := by decide +kernel
theorem dX5_hangThreads_36 : decode cX5_hangThreads 36 = .ok (.iload 4, 2) := by decide +kernel
theorem dX5_hangThreads_38 : decode cX5_hangThreads 38 = .ok (.aload_n 1, 1) := by decide +kernel
theorem dX5_hangThreads_39 : decode cX5_hangThreads 39 = .ok (.getfield 53, 3) := by decide +kernel
theorem dX5_hangThreads_42 : decode cX5_hangThreads 42 = .ok (.if_icmp .ge 37, 3) := by decide +kernel
theorem dX5_hangThreads_79 : decode cX5_hangThreads 79 = .ok (.iinc 3 1, 3) := by decide +kernel
theorem dX5_hangThreads_82 : decode cX5_hangThreads 82 = .ok (.goto (-59), 3) := by decide +kernel
theorem dX5_hangThreads_45 : decode cX5_hangThreads 45 = .ok (.aload_n 2, 1) := by decide +kernel
theorem dX5_hangThreads_46 : decode cX5_hangThreads 46 = .ok (.getfield 76, 3) := by decide +kernel
theorem kF_RX5_76 : Cond.fieldLink RX5 76 "CobwebLibrary$Shelves" "threads" "[I" ∈ gT := List.mem_filter.mpr ⟨List.mem_of_getElem? (i := 309) (by decide +kernel), by decide +kernel⟩
theorem dX5_hangThreads_49 : decode cX5_hangThreads 49 = .ok (.iload_n 3, 1) := by decide +kernel
theorem dX5_hangThreads_50 : decode cX5_hangThreads 50 = .ok (.iload 4, 2) := by decide +kernel
theorem dX5_hangThreads_52 : decode cX5_hangThreads 52 = .ok (.invokestatic 79, 3) := by decide +kernel
theorem kN_RX5_79 : (RX5, 79, yX10_pairPlace, RX10) ∈ nestQ := List.mem_of_getElem? (i := 20) (by decide +kernel)
theorem dX5_hangThreads_55 : decode cX5_hangThreads 55 = .ok (.iaload, 1) := by decide +kernel
theorem dX5_hangThreads_56 : decode cX5_hangThreads 56 = .ok (.istore 5, 2) := by decide +kernel
theorem dX5_hangThreads_58 : decode cX5_hangThreads 58 = .ok (.iload 5, 2) := by decide +kernel
theorem dX5_hangThreads_60 : decode cX5_hangThreads 60 = .ok (.ifCond .le 13, 3) := by decide +kernel
theorem dX5_hangThreads_73 : decode cX5_hangThreads 73 = .ok (.iinc 4 1, 3) := by decide +kernel
theorem dX5_hangThreads_76 : decode cX5_hangThreads 76 = .ok (.goto (-40), 3) := by decide +kernel
theorem dX5_hangThreads_63 : decode cX5_hangThreads 63 = .ok (.aload_n 0, 1) := by decide +kernel
theorem dX5_hangThreads_64 : decode cX5_hangThreads 64 = .ok (.aload_n 2, 1) := by decide +kernel
theorem dX5_hangThreads_65 : decode cX5_hangThreads 65 = .ok (.iload_n 3, 1) := by decide +kernel
theorem dX5_hangThreads_66 : decode cX5_hangThreads 66 = .ok (.iload 4, 2) := by decide +kernel
theorem dX5_hangThreads_68 : decode cX5_hangThreads 68 = .ok (.iload 5, 2) := by decide +kernel
theorem dX5_hangThreads_70 : decode cX5_hangThreads 70 = .ok (.invokevirtual 82, 3) := by decide +kernel
theorem kwV_X5_hangOne : MwV RX5 yX5_hangOne cX5_hangOne 6 none 4 := ⟨List.mem_filter.mpr ⟨List.mem_of_getElem? (i := 1333) (by decide +kernel), by decide +kernel⟩, List.mem_filter.mpr ⟨List.mem_of_getElem? (i := 1332) (by decide +kernel), by decide +kernel⟩, List.mem_filter.mpr ⟨List.mem_of_getElem? (i := 48) (by decide +kernel), by decide +kernel⟩, List.mem_filter.mpr ⟨List.mem_of_getElem? (i := 137) (by decide +kernel), by decide +kernel⟩, by decide +kernel⟩
theorem kM_RX5_82 : Cond.methodLink RX5 82 yX5_hangOne ∈ gT := List.mem_filter.mpr ⟨List.mem_of_getElem? (i := 1330) (by decide +kernel), by decide +kernel⟩
theorem dX5_hangThreads_8 : decode cX5_hangThreads 8 = .ok (.aload_n 0, 1) := by decide +kernel
theorem dX5_hangThreads_9 : decode cX5_hangThreads 9 = .ok (.getfield 25, 3) := by decide +kernel
theorem dX5_hangThreads_12 : decode cX5_hangThreads 12 = .ok (.iload_n 3, 1) := by decide +kernel
theorem dX5_hangThreads_13 : decode cX5_hangThreads 13 = .ok (.iconst 0, 1) := by decide +kernel
theorem dX5_hangThreads_14 : decode cX5_hangThreads 14 = .ok (.iastore, 1) := by decide +kernel
theorem dX5_hangThreads_15 : decode cX5_hangThreads 15 = .ok (.iinc 3 1, 3) := by decide +kernel
theorem dX5_hangThreads_18 : decode cX5_hangThreads 18 = .ok (.goto (-16), 3) := by decide +kernel
theorem dX5_costAt_0 : decode cX5_costAt 0 = .ok (.aload_n 1, 1) := by decide +kernel
theorem dX5_costAt_1 : decode cX5_costAt 1 = .ok (.iload_n 2, 1) := by decide +kernel
theorem dX5_costAt_2 : decode cX5_costAt 2 = .ok (.iload_n 3, 1) := by decide +kernel
theorem dX5_costAt_3 : decode cX5_costAt 3 = .ok (.invokevirtual 103, 3) := by decide +kernel
theorem kM_RX5_103 : Cond.methodLink RX5 103 yX6_hasCell ∈ gT := List.mem_filter.mpr ⟨List.mem_of_getElem? (i := 1347) (by decide +kernel), by decide +kernel⟩
theorem dX5_costAt_6 : decode cX5_costAt 6 = .ok (.ifCond .eq 16, 3) := by decide +kernel
theorem dX5_costAt_22 : decode cX5_costAt 22 = .ok (.ldc 62, 2) := by decide +kernel
theorem kC_RX5_62 : Cond.constant RX5 62 (1000000000 : Int32) ∈ gT := List.mem_filter.mpr ⟨List.mem_of_getElem? (i := 1338) (by decide +kernel), by decide +kernel⟩
theorem dX5_costAt_24 : decode cX5_costAt 24 = .ok (.ireturn, 1) := by decide +kernel
theorem dX5_costAt_9 : decode cX5_costAt 9 = .ok (.aload_n 0, 1) := by decide +kernel
theorem dX5_costAt_10 : decode cX5_costAt 10 = .ok (.getfield 28, 3) := by decide +kernel
theorem kF_RX5_28 : Cond.fieldLink RX5 28 "CobwebLibrary$Paths" "costs" "[I" ∈ gT := List.mem_filter.mpr ⟨List.mem_of_getElem? (i := 538) (by decide +kernel), by decide +kernel⟩
theorem dX5_costAt_13 : decode cX5_costAt 13 = .ok (.iload_n 2, 1) := by decide +kernel
theorem dX5_costAt_14 : decode cX5_costAt 14 = .ok (.iload_n 3, 1) := by decide +kernel
theorem dX5_costAt_15 : decode cX5_costAt 15 = .ok (.invokestatic 73, 3) := by decide +kernel
theorem dX5_costAt_18 : decode cX5_costAt 18 = .ok (.iaload, 1) := by decide +kernel
theorem dX5_costAt_19 : decode cX5_costAt 19 = .ok (.goto 5, 3) := by decide +kernel
theorem dX5_spreadCosts_0 : decode cX5_spreadCosts 0 = .ok (.iconst 0, 1) := by decide +kernel
theorem dX5_spreadCosts_1 : decode cX5_spreadCosts 1 = .ok (.istore_n 2, 1) := by decide +kernel
theorem dX5_spreadCosts_2 : decode cX5_spreadCosts 2 = .ok (.iconst 0, 1) := by decide +kernel
theorem dX5_spreadCosts_3 : decode cX5_spreadCosts 3 = .ok (.istore_n 3, 1) := by decide +kernel
theorem dX5_spreadCosts_4 : decode cX5_spreadCosts 4 = .ok (.iload_n 3, 1) := by decide +kernel
theorem dX5_spreadCosts_5 : decode cX5_spreadCosts 5 = .ok (.aload_n 1, 1) := by decide +kernel
theorem dX5_spreadCosts_6 : decode cX5_spreadCosts 6 = .ok (.getfield 90, 3) := by decide +kernel
theorem kF_RX5_90 : Cond.fieldLink RX5 90 "CobwebLibrary$Plan" "high" "I" ∈ gT := List.mem_filter.mpr ⟨List.mem_of_getElem? (i := 229) (by decide +kernel), by decide +kernel⟩
theorem dX5_spreadCosts_9 : decode cX5_spreadCosts 9 = .ok (.if_icmp .ge 145, 3) := by decide +kernel
theorem dX5_spreadCosts_154 : decode cX5_spreadCosts 154 = .ok (.iload_n 2, 1) := by decide +kernel
theorem dX5_spreadCosts_155 : decode cX5_spreadCosts 155 = .ok (.ireturn, 1) := by decide +kernel
theorem dX5_spreadCosts_12 : decode cX5_spreadCosts 12 = .ok (.iconst 0, 1) := by decide +kernel
theorem dX5_spreadCosts_13 : decode cX5_spreadCosts 13 = .ok (.istore 4, 2) := by decide +kernel
theorem dX5_spreadCosts_15 : decode cX5_spreadCosts 15 = .ok (.iload 4, 2) := by decide +kernel
theorem dX5_spreadCosts_17 : decode cX5_spreadCosts 17 = .ok (.aload_n 1, 1) := by decide +kernel
theorem dX5_spreadCosts_18 : decode cX5_spreadCosts 18 = .ok (.getfield 93, 3) := by decide +kernel
theorem kF_RX5_93 : Cond.fieldLink RX5 93 "CobwebLibrary$Plan" "wide" "I" ∈ gT := List.mem_filter.mpr ⟨List.mem_of_getElem? (i := 225) (by decide +kernel), by decide +kernel⟩
theorem dX5_spreadCosts_21 : decode cX5_spreadCosts 21 = .ok (.if_icmp .ge 127, 3) := by decide +kernel
theorem dX5_spreadCosts_148 : decode cX5_spreadCosts 148 = .ok (.iinc 3 1, 3) := by decide +kernel
theorem dX5_spreadCosts_151 : decode cX5_spreadCosts 151 = .ok (.goto (-147), 3) := by decide +kernel
theorem dX5_spreadCosts_24 : decode cX5_spreadCosts 24 = .ok (.aload_n 0, 1) := by decide +kernel
theorem dX5_spreadCosts_25 : decode cX5_spreadCosts 25 = .ok (.aload_n 1, 1) := by decide +kernel
theorem dX5_spreadCosts_26 : decode cX5_spreadCosts 26 = .ok (.iload 4, 2) := by decide +kernel
theorem dX5_spreadCosts_28 : decode cX5_spreadCosts 28 = .ok (.iconst 1, 1) := by decide +kernel
theorem dX5_spreadCosts_29 : decode cX5_spreadCosts 29 = .ok (.isub, 1) := by decide +kernel
theorem dX5_spreadCosts_30 : decode cX5_spreadCosts 30 = .ok (.iload_n 3, 1) := by decide +kernel
theorem dX5_spreadCosts_31 : decode cX5_spreadCosts 31 = .ok (.invokevirtual 96, 3) := by decide +kernel
theorem kwV_X5_costAt : MwV RX5 yX5_costAt cX5_costAt 4 (some .int) 3 := ⟨List.mem_filter.mpr ⟨List.mem_of_getElem? (i := 1346) (by decide +kernel), by decide +kernel⟩, List.mem_filter.mpr ⟨List.mem_of_getElem? (i := 1345) (by decide +kernel), by decide +kernel⟩, List.mem_filter.mpr ⟨List.mem_of_getElem? (i := 50) (by decide +kernel), by decide +kernel⟩, List.mem_filter.mpr ⟨List.mem_of_getElem? (i := 137) (by decide +kernel), by decide +kernel⟩, by decide +kernel⟩
theorem kM_RX5_96 : Cond.methodLink RX5 96 yX5_costAt ∈ gT := List.mem_filter.mpr ⟨List.mem_of_getElem? (i := 1343) (by decide +kernel), by decide +kernel⟩
theorem dX5_spreadCosts_34 : decode cX5_spreadCosts 34 = .ok (.istore 5, 2) := by decide +kernel
theorem dX5_spreadCosts_36 : decode cX5_spreadCosts 36 = .ok (.iload 5, 2) := by decide +kernel
theorem dX5_spreadCosts_38 : decode cX5_spreadCosts 38 = .ok (.aload_n 0, 1) := by decide +kernel
theorem dX5_spreadCosts_39 : decode cX5_spreadCosts 39 = .ok (.aload_n 1, 1) := by decide +kernel
theorem dX5_spreadCosts_40 : decode cX5_spreadCosts 40 = .ok (.iload 4, 2) := by decide +kernel
theorem dX5_spreadCosts_42 : decode cX5_spreadCosts 42 = .ok (.iconst 1, 1) := by decide +kernel
theorem dX5_spreadCosts_43 : decode cX5_spreadCosts 43 = .ok (.iadd, 1) := by decide +kernel
theorem dX5_spreadCosts_44 : decode cX5_spreadCosts 44 = .ok (.iload_n 3, 1) := by decide +kernel
theorem dX5_spreadCosts_45 : decode cX5_spreadCosts 45 = .ok (.invokevirtual 96, 3) := by decide +kernel
theorem dX5_spreadCosts_48 : decode cX5_spreadCosts 48 = .ok (.invokestatic 100, 3) := by decide +kernel
theorem kM_RX5_100 : Cond.methodLink RX5 100 Lib.Math.min.name ∈ gT := List.mem_filter.mpr ⟨List.mem_of_getElem? (i := 1348) (by decide +kernel), by decide +kernel⟩
theorem dX5_spreadCosts_51 : decode cX5_spreadCosts 51 = .ok (.istore 5, 2) := by decide +kernel
theorem dX5_spreadCosts_53 : decode cX5_spreadCosts 53 = .ok (.iload 5, 2) := by decide +kernel
theorem dX5_spreadCosts_55 : decode cX5_spreadCosts 55 = .ok (.aload_n 0, 1) := by decide +kernel
theorem dX5_spreadCosts_56 : decode cX5_spreadCosts 56 = .ok (.aload_n 1, 1) := by decide +kernel
theorem dX5_spreadCosts_57 : decode cX5_spreadCosts 57 = .ok (.iload 4, 2) := by decide +kernel
theorem dX5_spreadCosts_59 : decode cX5_spreadCosts 59 = .ok (.iload_n 3, 1) := by decide +kernel
theorem dX5_spreadCosts_60 : decode cX5_spreadCosts 60 = .ok (.iconst 1, 1) := by decide +kernel
theorem dX5_spreadCosts_61 : decode cX5_spreadCosts 61 = .ok (.isub, 1) := by decide +kernel
theorem dX5_spreadCosts_62 : decode cX5_spreadCosts 62 = .ok (.invokevirtual 96, 3) := by decide +kernel
theorem dX5_spreadCosts_65 : decode cX5_spreadCosts 65 = .ok (.invokestatic 100, 3) := by decide +kernel
theorem dX5_spreadCosts_68 : decode cX5_spreadCosts 68 = .ok (.istore 5, 2) := by decide +kernel
theorem dX5_spreadCosts_70 : decode cX5_spreadCosts 70 = .ok (.iload 5, 2) := by decide +kernel
theorem dX5_spreadCosts_72 : decode cX5_spreadCosts 72 = .ok (.aload_n 0, 1) := by decide +kernel
theorem dX5_spreadCosts_73 : decode cX5_spreadCosts 73 = .ok (.aload_n 1, 1) := by decide +kernel
theorem dX5_spreadCosts_74 : decode cX5_spreadCosts 74 = .ok (.iload 4, 2) := by decide +kernel
theorem dX5_spreadCosts_76 : decode cX5_spreadCosts 76 = .ok (.iload_n 3, 1) := by decide +kernel
theorem dX5_spreadCosts_77 : decode cX5_spreadCosts 77 = .ok (.iconst 1, 1) := by decide +kernel
theorem dX5_spreadCosts_78 : decode cX5_spreadCosts 78 = .ok (.iadd, 1) := by decide +kernel
theorem dX5_spreadCosts_79 : decode cX5_spreadCosts 79 = .ok (.invokevirtual 96, 3) := by decide +kernel
theorem dX5_spreadCosts_82 : decode cX5_spreadCosts 82 = .ok (.invokestatic 100, 3) := by decide +kernel
theorem dX5_spreadCosts_85 : decode cX5_spreadCosts 85 = .ok (.istore 5, 2) := by decide +kernel
theorem dX5_spreadCosts_87 : decode cX5_spreadCosts 87 = .ok (.iload 4, 2) := by decide +kernel
theorem dX5_spreadCosts_89 : decode cX5_spreadCosts 89 = .ok (.iload_n 3, 1) := by decide +kernel
theorem dX5_spreadCosts_90 : decode cX5_spreadCosts 90 = .ok (.invokestatic 73, 3) := by decide +kernel
theorem dX5_spreadCosts_93 : decode cX5_spreadCosts 93 = .ok (.istore 6, 2) := by decide +kernel
theorem dX5_spreadCosts_95 : decode cX5_spreadCosts 95 = .ok (.iload 5, 2) := by decide +kernel
theorem dX5_spreadCosts_97 : decode cX5_spreadCosts 97 = .ok (.aload_n 0, 1) := by decide +kernel
theorem dX5_spreadCosts_98 : decode cX5_spreadCosts 98 = .ok (.getfield 25, 3) := by decide +kernel
theorem dX5_spreadCosts_101 : decode cX5_spreadCosts 101 = .ok (.iload 6, 2) := by decide +kernel
theorem dX5_spreadCosts_103 : decode cX5_spreadCosts 103 = .ok (.iaload, 1) := by decide +kernel
theorem dX5_spreadCosts_104 : decode cX5_spreadCosts 104 = .ok (.bipush 64, 2) := by decide +kernel
theorem dX5_spreadCosts_106 : decode cX5_spreadCosts 106 = .ok (.imul, 1) := by decide +kernel
theorem dX5_spreadCosts_107 : decode cX5_spreadCosts 107 = .ok (.iadd, 1) := by decide +kernel
theorem dX5_spreadCosts_108 : decode cX5_spreadCosts 108 = .ok (.iconst 1, 1) := by decide +kernel
theorem dX5_spreadCosts_109 : decode cX5_spreadCosts 109 = .ok (.iadd, 1) := by decide +kernel
theorem dX5_spreadCosts_110 : decode cX5_spreadCosts 110 = .ok (.istore 7, 2) := by decide +kernel
theorem dX5_spreadCosts_112 : decode cX5_spreadCosts 112 = .ok (.iload 5, 2) := by decide +kernel
theorem dX5_spreadCosts_114 : decode cX5_spreadCosts 114 = .ok (.ldc 62, 2) := by decide +kernel
theorem dX5_spreadCosts_116 : decode cX5_spreadCosts 116 = .ok (.if_icmp .ge 26, 3) := by decide +kernel
theorem dX5_spreadCosts_142 : decode cX5_spreadCosts 142 = .ok (.iinc 4 1, 3) := by decide +kernel
theorem dX5_spreadCosts_145 : decode cX5_spreadCosts 145 = .ok (.goto (-130), 3) := by decide +kernel
theorem dX5_spreadCosts_119 : decode cX5_spreadCosts 119 = .ok (.iload 7, 2) := by decide +kernel
theorem dX5_spreadCosts_121 : decode cX5_spreadCosts 121 = .ok (.aload_n 0, 1) := by decide +kernel
theorem dX5_spreadCosts_122 : decode cX5_spreadCosts 122 = .ok (.getfield 28, 3) := by decide +kernel
theorem dX5_spreadCosts_125 : decode cX5_spreadCosts 125 = .ok (.iload 6, 2) := by decide +kernel
theorem dX5_spreadCosts_127 : decode cX5_spreadCosts 127 = .ok (.iaload, 1) := by decide +kernel
theorem dX5_spreadCosts_128 : decode cX5_spreadCosts 128 = .ok (.if_icmp .ge 14, 3) := by decide +kernel
theorem dX5_spreadCosts_131 : decode cX5_spreadCosts 131 = .ok (.aload_n 0, 1) := by decide +kernel
theorem dX5_spreadCosts_132 : decode cX5_spreadCosts 132 = .ok (.getfield 28, 3) := by decide +kernel
theorem dX5_spreadCosts_135 : decode cX5_spreadCosts 135 = .ok (.iload 6, 2) := by decide +kernel
theorem dX5_spreadCosts_137 : decode cX5_spreadCosts 137 = .ok (.iload 7, 2) := by decide +kernel
theorem dX5_spreadCosts_139 : decode cX5_spreadCosts 139 = .ok (.iastore, 1) := by decide +kernel
theorem dX5_spreadCosts_140 : decode cX5_spreadCosts 140 = .ok (.iconst 1, 1) := by decide +kernel
theorem dX5_spreadCosts_141 : decode cX5_spreadCosts 141 = .ok (.istore_n 2, 1) := by decide +kernel
theorem dX5_findTorn_0 : decode cX5_findTorn 0 = .ok (.aload_n 0, 1) := by decide +kernel
theorem dX5_findTorn_1 : decode cX5_findTorn 1 = .ok (.aload_n 1, 1) := by decide +kernel
theorem dX5_findTorn_2 : decode cX5_findTorn 2 = .ok (.aload_n 2, 1) := by decide +kernel
theorem dX5_findTorn_3 : decode cX5_findTorn 3 = .ok (.invokevirtual 58, 3) := by decide +kernel
theorem kwV_X5_hangThreads : MwV RX5 yX5_hangThreads cX5_hangThreads 6 none 2 := ⟨List.mem_filter.mpr ⟨List.mem_of_getElem? (i := 1328) (by decide +kernel), by decide +kernel⟩, List.mem_filter.mpr ⟨List.mem_of_getElem? (i := 1327) (by decide +kernel), by decide +kernel⟩, List.mem_filter.mpr ⟨List.mem_of_getElem? (i := 47) (by decide +kernel), by decide +kernel⟩, List.mem_filter.mpr ⟨List.mem_of_getElem? (i := 137) (by decide +kernel), by decide +kernel⟩, by decide +kernel⟩
theorem kM_RX5_58 : Cond.methodLink RX5 58 yX5_hangThreads ∈ gT := List.mem_filter.mpr ⟨List.mem_of_getElem? (i := 1325) (by decide +kernel), by decide +kernel⟩
theorem dX5_findTorn_6 : decode cX5_findTorn 6 = .ok (.iconst 0, 1) := by decide +kernel
theorem dX5_findTorn_7 : decode cX5_findTorn 7 = .ok (.istore 4, 2) := by decide +kernel
theorem dX5_findTorn_9 : decode cX5_findTorn 9 = .ok (.iload 4, 2) := by decide +kernel
theorem dX5_findTorn_11 : decode cX5_findTorn 11 = .ok (.bipush 36, 2) := by decide +kernel
theorem dX5_findTorn_13 : decode cX5_findTorn 13 = .ok (.if_icmp .ge 18, 3) := by decide +kernel
theorem dX5_findTorn_31 : decode cX5_findTorn 31 = .ok (.aload_n 0, 1) := by decide +kernel
theorem dX5_findTorn_32 : decode cX5_findTorn 32 = .ok (.getfield 28, 3) := by decide +kernel
theorem dX5_findTorn_35 : decode cX5_findTorn 35 = .ok (.iconst 0, 1) := by decide +kernel
theorem dX5_findTorn_36 : decode cX5_findTorn 36 = .ok (.aload_n 0, 1) := by decide +kernel
theorem dX5_findTorn_37 : decode cX5_findTorn 37 = .ok (.getfield 25, 3) := by decide +kernel
theorem dX5_findTorn_40 : decode cX5_findTorn 40 = .ok (.iconst 0, 1) := by decide +kernel
theorem dX5_findTorn_41 : decode cX5_findTorn 41 = .ok (.iaload, 1) := by decide +kernel
theorem dX5_findTorn_42 : decode cX5_findTorn 42 = .ok (.bipush 64, 2) := by decide +kernel
theorem dX5_findTorn_44 : decode cX5_findTorn 44 = .ok (.imul, 1) := by decide +kernel
theorem dX5_findTorn_45 : decode cX5_findTorn 45 = .ok (.iastore, 1) := by decide +kernel
theorem dX5_findTorn_46 : decode cX5_findTorn 46 = .ok (.iconst 1, 1) := by decide +kernel
theorem dX5_findTorn_47 : decode cX5_findTorn 47 = .ok (.istore 4, 2) := by decide +kernel
theorem dX5_findTorn_49 : decode cX5_findTorn 49 = .ok (.iconst 0, 1) := by decide +kernel
theorem dX5_findTorn_50 : decode cX5_findTorn 50 = .ok (.istore 5, 2) := by decide +kernel
theorem dX5_findTorn_52 : decode cX5_findTorn 52 = .ok (.iload 5, 2) := by decide +kernel
theorem dX5_findTorn_54 : decode cX5_findTorn 54 = .ok (.bipush 36, 2) := by decide +kernel
theorem dX5_findTorn_77 : decode cX5_findTorn 77 = .ok (.aload_n 0, 1) := by decide +kernel
theorem dX5_findTorn_78 : decode cX5_findTorn 78 = .ok (.getfield 28, 3) := by decide +kernel
theorem dX5_findTorn_81 : decode cX5_findTorn 81 = .ok (.aload_n 2, 1) := by decide +kernel
theorem dX5_findTorn_82 : decode cX5_findTorn 82 = .ok (.getfield 67, 3) := by decide +kernel
theorem dX5_findTorn_85 : decode cX5_findTorn 85 = .ok (.iload_n 3, 1) := by decide +kernel
theorem dX5_findTorn_86 : decode cX5_findTorn 86 = .ok (.iaload, 1) := by decide +kernel
theorem dX5_findTorn_87 : decode cX5_findTorn 87 = .ok (.aload_n 2, 1) := by decide +kernel
theorem dX5_findTorn_88 : decode cX5_findTorn 88 = .ok (.getfield 70, 3) := by decide +kernel
theorem dX5_findTorn_91 : decode cX5_findTorn 91 = .ok (.iload_n 3, 1) := by decide +kernel
theorem dX5_findTorn_92 : decode cX5_findTorn 92 = .ok (.iaload, 1) := by decide +kernel
theorem dX5_findTorn_93 : decode cX5_findTorn 93 = .ok (.invokestatic 73, 3) := by decide +kernel
theorem dX5_findTorn_96 : decode cX5_findTorn 96 = .ok (.iaload, 1) := by decide +kernel
theorem dX5_findTorn_97 : decode cX5_findTorn 97 = .ok (.istore 5, 2) := by decide +kernel
theorem dX5_findTorn_99 : decode cX5_findTorn 99 = .ok (.aload_n 0, 1) := by decide +kernel
theorem dX5_findTorn_100 : decode cX5_findTorn 100 = .ok (.iload 5, 2) := by decide +kernel
theorem dX5_findTorn_102 : decode cX5_findTorn 102 = .ok (.bipush 64, 2) := by decide +kernel
theorem dX5_findTorn_104 : decode cX5_findTorn 104 = .ok (.irem, 1) := by decide +kernel
theorem dX5_findTorn_105 : decode cX5_findTorn 105 = .ok (.putfield 19, 3) := by decide +kernel
theorem kF_RX5_19 : Cond.fieldLink RX5 19 "CobwebLibrary$Paths" "tornSteps" "I" ∈ gT := List.mem_filter.mpr ⟨List.mem_of_getElem? (i := 534) (by decide +kernel), by decide +kernel⟩
theorem dX5_findTorn_108 : decode cX5_findTorn 108 = .ok (.iload 5, 2) := by decide +kernel
theorem dX5_findTorn_110 : decode cX5_findTorn 110 = .ok (.bipush 64, 2) := by decide +kernel
theorem dX5_findTorn_112 : decode cX5_findTorn 112 = .ok (.idiv, 1) := by decide +kernel
theorem dX5_findTorn_113 : decode cX5_findTorn 113 = .ok (.ireturn, 1) := by decide +kernel
theorem dX5_findTorn_56 : decode cX5_findTorn 56 = .ok (.if_icmp .ge 21, 3) := by decide +kernel
theorem dX5_findTorn_59 : decode cX5_findTorn 59 = .ok (.iload 4, 2) := by decide +kernel
theorem dX5_findTorn_61 : decode cX5_findTorn 61 = .ok (.ifCond .eq 16, 3) := by decide +kernel
theorem dX5_findTorn_64 : decode cX5_findTorn 64 = .ok (.aload_n 0, 1) := by decide +kernel
theorem dX5_findTorn_65 : decode cX5_findTorn 65 = .ok (.aload_n 1, 1) := by decide +kernel
theorem dX5_findTorn_66 : decode cX5_findTorn 66 = .ok (.invokevirtual 63, 3) := by decide +kernel
theorem kwV_X5_spreadCosts : MwV RX5 yX5_spreadCosts cX5_spreadCosts 8 (some .boolean) 1 := ⟨List.mem_filter.mpr ⟨List.mem_of_getElem? (i := 1342) (by decide +kernel), by decide +kernel⟩, List.mem_filter.mpr ⟨List.mem_of_getElem? (i := 1341) (by decide +kernel), by decide +kernel⟩, List.mem_filter.mpr ⟨List.mem_of_getElem? (i := 49) (by decide +kernel), by decide +kernel⟩, List.mem_filter.mpr ⟨List.mem_of_getElem? (i := 137) (by decide +kernel), by decide +kernel⟩, by decide +kernel⟩
theorem kM_RX5_63 : Cond.methodLink RX5 63 yX5_spreadCosts ∈ gT := List.mem_filter.mpr ⟨List.mem_of_getElem? (i := 1339) (by decide +kernel), by decide +kernel⟩
theorem dX5_findTorn_69 : decode cX5_findTorn 69 = .ok (.istore 4, 2) := by decide +kernel
theorem dX5_findTorn_71 : decode cX5_findTorn 71 = .ok (.iinc 5 1, 3) := by decide +kernel
theorem dX5_findTorn_74 : decode cX5_findTorn 74 = .ok (.goto (-22), 3) := by decide +kernel
theorem dX5_findTorn_16 : decode cX5_findTorn 16 = .ok (.aload_n 0, 1) := by decide +kernel
theorem dX5_findTorn_17 : decode cX5_findTorn 17 = .ok (.getfield 28, 3) := by decide +kernel
theorem dX5_findTorn_20 : decode cX5_findTorn 20 = .ok (.iload 4, 2) := by decide +kernel
theorem dX5_findTorn_22 : decode cX5_findTorn 22 = .ok (.ldc 62, 2) := by decide +kernel
theorem dX5_findTorn_24 : decode cX5_findTorn 24 = .ok (.iastore, 1) := by decide +kernel
theorem dX5_findTorn_25 : decode cX5_findTorn 25 = .ok (.iinc 4 1, 3) := by decide +kernel
theorem dX5_findTorn_28 : decode cX5_findTorn 28 = .ok (.goto (-19), 3) := by decide +kernel
set_option maxHeartbeats 4000000 in
set_option maxRecDepth 100000 in
theorem b_o_cellPlace (l : Launch) (D : va_G) (cy : Nat → ClassId) (v : Int32) (w : Int32) (hb0 : 0 ≤ v.toInt ∧ v.toInt ≤ 5) (hb1 : 0 ≤ w.toInt ∧ w.toInt ≤ 5) {p : Program} {e : Env} {s : State} {m : MethodId} {args : Array Value} {below : List Frame} {meth : Method} {c : Code} {A : Nat → Prop} {Q : State → Prop} {cells slots : Nat} (hroom : cells ≤ ((Rm 0 0 0 0)).cells ∧ slots ≤ ((Rm 0 0 0 0)).slots) (C : Cx p s m args meth c cX5_cellPlace 2 (some .int) RX5 "cellPlace" D cy A) (hQ : Q = MQ below (va_Qi (fun (r : Int32) (u : Unit) => (0 ≤ r.toInt ∧ r.toInt ≤ 35)) (Bx D A (fun u : Unit => [])) A) args s ((Rm 0 0 0 0)).cells ((Rm 0 0 0 0)).slots A) (H : Heap) (locs : List Loc) (ls : Array Slot) (hP : va_P D vwCl [] H) (hD : va_D A []) (hS : va_S A s.heap H locs) (hl : lv_has ls 2 [(0, .int v), (1, .int w)]) : W p l e (Rm 0 0 0 0) s m args below meth c H locs cells slots Q (F0 m 0 ls []) := by
  have hx := C.1
  have hb := C.2.1
  refine lv_iload_n hx hb dX5_cellPlace_0 rfl (lv_at hl 1 rfl) ?_
  refine lv_bipush (v := 6) hx hb dX5_cellPlace_1 (by decide) ?_
  refine lv_imul hx hb dX5_cellPlace_3 ?_
  refine lv_topi (fun z_1 hz_1 => ?_)
  have hz_1 := o_mul hz_1 (rfl : w.toInt = w.toInt) (by decide : (6 : Int32).toInt = 6) (by omega) (by omega)
  refine lv_iload_n hx hb dX5_cellPlace_4 rfl (lv_at hl 0 rfl) ?_
  refine lv_iadd hx hb dX5_cellPlace_5 ?_
  refine lv_topi (fun z_2 hz_2 => ?_)
  have hz_2 := o_add hz_2 (rfl : z_1.toInt = z_1.toInt) (rfl : v.toInt = v.toInt) (by omega) (by omega)
  refine o_wq hQ ?_
  exact q_iret (rm := (Rm 0 0 0 0)) C hS () rfl (show 0 ≤ z_2.toInt ∧ z_2.toInt ≤ 35 by omega) (q_subP hP [] rfl) (hD.sub [] (by decide) rfl) hroom.1 hroom.2 dX5_cellPlace_6
theorem o_cellPlace (l : Launch) (D : va_G) (cy : Nat → ClassId) (v : Int32) (w : Int32) (sz : Nat) (hb0 : 0 ≤ v.toInt ∧ v.toInt ≤ 5) (hb1 : 0 ≤ w.toInt ∧ w.toInt ≤ 5) : MI l yX5_cellPlace cX5_cellPlace 2 (some .int) (Rm 0 0 0 0) D cy [.int v, .int w] sz [] (fun (r : Int32) (u : Unit) => (0 ≤ r.toInt ∧ r.toInt ≤ 35)) (fun u : Unit => []) := by
  refine MI.enter (by decide) (Nat.le_of_ble_eq_true rfl) ?_
  intro p e s m below meth c ls A hsz hAe C hP hD hS hl
  exact b_o_cellPlace l D cy v w hb0 hb1 ⟨Nat.le_of_ble_eq_true rfl, Nat.le_of_ble_eq_true rfl⟩ C rfl _ _ ls hP hD hS hl
set_option maxHeartbeats 4000000 in
set_option maxRecDepth 100000 in
theorem b_o_ringOf (l : Launch) (D : va_G) (cy : Nat → ClassId) (w : Nat) (h : Nat) (k : Nat) (a : Int32) (b : Int32) (w_way_ : Nat) (w_waySize : Int32) (w_tornSteps : Int32) (w_rings_ : Nat) (w_hanging_ : Nat) (w_costs_ : Nat) (w_way : Nat → Int32) (w_rings : Nat → Int32) (w_hanging : Nat → Int32) (w_costs : Nat → Int32) (h_wide : Int32) (h_high : Int32) (h_law : Int32) (h_spin : Int32) (h_line : Int32) (h_draught : Int32) (h_books : Int32) (h_rare : Int32) (h_quarrels_ : Nat) (h_nameSizes_ : Nat) (h_names_ : Nat) (h_quarrels : Nat → Int32) (h_nameSizes : Nat → Int32) (h_names : Nat → Int32) (k_x_ : Nat) (k_y_ : Nat) (k_web_ : Nat) (k_asks_ : Nat) (k_threads_ : Nat) (k_today : Int32) (k_day : Int32) (k_seen_ : Nat) (k_x : Nat → Int32) (k_y : Nat → Int32) (k_web : Nat → Int32) (k_asks : Nat → Int32) (k_threads : Nat → Int32) (k_seen : Nat → Int32) (hb0 : w_waySize.toInt ≤ 8) (hb1 : 0 ≤ h_wide.toInt ∧ h_wide.toInt ≤ 6) (hb2 : 0 ≤ h_high.toInt ∧ h_high.toInt ≤ 6) (hb3 : 0 ≤ h_books.toInt ∧ h_books.toInt ≤ 8) (hb4 : 0 ≤ a.toInt ∧ a.toInt ≤ 7) (hb5 : 0 ≤ b.toInt ∧ b.toInt ≤ 7) (hR0 : Rg w_way 0 8 0 7) (hR1 : Rg h_nameSizes 0 8 (-900) 7) (hR2 : Rg k_x 0 8 0 5) (hR3 : Rg k_y 0 8 0 5) {p : Program} {e : Env} {s : State} {m : MethodId} {args : Array Value} {below : List Frame} {meth : Method} {c : Code} {A : Nat → Prop} {Q : State → Prop} {cells slots : Nat} (hroom : cells ≤ ((Rm 2 45 0 0)).cells ∧ slots ≤ ((Rm 2 45 0 0)).slots) (C : Cx p s m args meth c cX5_ringOf 9 (some .int) RX5 "ringOf" D cy A) (hQ : Q = MQ below (va_Qi (fun (r : Int32) (u : (Nat → Int32)) => ((-1) ≤ r.toInt ∧ r.toInt ≤ 7)) (Bx D A (fun u : (Nat → Int32) => [(w, .inr (5, [.ref w_way_, .int w_waySize, .int w_tornSteps, .ref w_rings_, .ref w_hanging_, .ref w_costs_])), (w_way_, .inl (cy 1, 8, .inl w_way)), (w_rings_, .inl (cy 1, 9, .inl u)), (w_hanging_, .inl (cy 1, 36, .inl w_hanging)), (w_costs_, .inl (cy 1, 36, .inl w_costs)), (h, .inr (6, [.int h_wide, .int h_high, .int h_law, .int h_spin, .int h_line, .int h_draught, .int h_books, .int h_rare, .ref h_quarrels_, .ref h_nameSizes_, .ref h_names_])), (h_quarrels_, .inl (cy 1, 8, .inl h_quarrels)), (h_nameSizes_, .inl (cy 1, 8, .inl h_nameSizes)), (h_names_, .inl (cy 1, 56, .inl h_names)), (k, .inr (8, [.ref k_x_, .ref k_y_, .ref k_web_, .ref k_asks_, .ref k_threads_, .int k_today, .int k_day, .ref k_seen_])), (k_x_, .inl (cy 1, 8, .inl k_x)), (k_y_, .inl (cy 1, 8, .inl k_y)), (k_web_, .inl (cy 1, 8, .inl k_web)), (k_asks_, .inl (cy 1, 8, .inl k_asks)), (k_threads_, .inl (cy 1, 64, .inl k_threads)), (k_seen_, .inl (cy 1, 8, .inl k_seen))])) A) args s ((Rm 2 45 0 0)).cells ((Rm 2 45 0 0)).slots A) (H : Heap) (locs : List Loc) (ls : Array Slot) (hP : va_P D vwCl [(w, .inr (5, [.ref w_way_, .int w_waySize, .int w_tornSteps, .ref w_rings_, .ref w_hanging_, .ref w_costs_])), (w_way_, .inl (cy 1, 8, .inl w_way)), (w_rings_, .inl (cy 1, 9, .inl w_rings)), (w_hanging_, .inl (cy 1, 36, .inl w_hanging)), (w_costs_, .inl (cy 1, 36, .inl w_costs)), (h, .inr (6, [.int h_wide, .int h_high, .int h_law, .int h_spin, .int h_line, .int h_draught, .int h_books, .int h_rare, .ref h_quarrels_, .ref h_nameSizes_, .ref h_names_])), (h_quarrels_, .inl (cy 1, 8, .inl h_quarrels)), (h_nameSizes_, .inl (cy 1, 8, .inl h_nameSizes)), (h_names_, .inl (cy 1, 56, .inl h_names)), (k, .inr (8, [.ref k_x_, .ref k_y_, .ref k_web_, .ref k_asks_, .ref k_threads_, .int k_today, .int k_day, .ref k_seen_])), (k_x_, .inl (cy 1, 8, .inl k_x)), (k_y_, .inl (cy 1, 8, .inl k_y)), (k_web_, .inl (cy 1, 8, .inl k_web)), (k_asks_, .inl (cy 1, 8, .inl k_asks)), (k_threads_, .inl (cy 1, 64, .inl k_threads)), (k_seen_, .inl (cy 1, 8, .inl k_seen))] H) (hD : va_D A [(w, .inr (5, [.ref w_way_, .int w_waySize, .int w_tornSteps, .ref w_rings_, .ref w_hanging_, .ref w_costs_])), (w_way_, .inl (cy 1, 8, .inl w_way)), (w_rings_, .inl (cy 1, 9, .inl w_rings)), (w_hanging_, .inl (cy 1, 36, .inl w_hanging)), (w_costs_, .inl (cy 1, 36, .inl w_costs)), (h, .inr (6, [.int h_wide, .int h_high, .int h_law, .int h_spin, .int h_line, .int h_draught, .int h_books, .int h_rare, .ref h_quarrels_, .ref h_nameSizes_, .ref h_names_])), (h_quarrels_, .inl (cy 1, 8, .inl h_quarrels)), (h_nameSizes_, .inl (cy 1, 8, .inl h_nameSizes)), (h_names_, .inl (cy 1, 56, .inl h_names)), (k, .inr (8, [.ref k_x_, .ref k_y_, .ref k_web_, .ref k_asks_, .ref k_threads_, .int k_today, .int k_day, .ref k_seen_])), (k_x_, .inl (cy 1, 8, .inl k_x)), (k_y_, .inl (cy 1, 8, .inl k_y)), (k_web_, .inl (cy 1, 8, .inl k_web)), (k_asks_, .inl (cy 1, 8, .inl k_asks)), (k_threads_, .inl (cy 1, 64, .inl k_threads)), (k_seen_, .inl (cy 1, 8, .inl k_seen))]) (hS : va_S A s.heap H locs) (hl : lv_has ls 9 [(0, .ref w), (1, .ref h), (2, .ref k), (3, .int a), (4, .int b)]) : W p l e (Rm 2 45 0 0) s m args below meth c H locs cells slots Q (F0 m 0 ls []) := by
  have hx := C.1
  have hb := C.2.1
  refine lv_iconst (v := 1) hx hb dX5_ringOf_0 (by decide) ?_
  refine lv_iload hx hb dX5_ringOf_1 (lv_at hl 4 rfl) ?_
  refine lv_ishl hx hb dX5_ringOf_3 ?_
  refine lv_topi (fun z_1 hz_1 => ?_)
  clear hz_1
  refine lv_istore (lv' := [(5, .int z_1), (0, .ref w), (1, .ref h), (2, .ref k), (3, .int a), (4, .int b)]) hx hb dX5_ringOf_4 hl (by decide) rfl (fun ls hl => ?_)
  refine lv_aload_n hx hb dX5_ringOf_6 rfl (lv_at hl 1 rfl) ?_
  refine q_get (v := .ref w_rings_) C hP 0 3 rfl rfl inX5 (by decide) kF_RX5_22 rfl rfl dX5_ringOf_7 ?_
  refine lv_iconst (v := 0) hx hb dX5_ringOf_10 (by decide) ?_
  refine lv_iload hx hb dX5_ringOf_11 (lv_at hl 0 rfl) ?_
  refine q_iast (g := upd w_rings 0 z_1) (w' := [(w, .inr (5, [.ref w_way_, .int w_waySize, .int w_tornSteps, .ref w_rings_, .ref w_hanging_, .ref w_costs_])), (w_way_, .inl (cy 1, 8, .inl w_way)), (w_rings_, .inl (cy 1, 9, .inl (upd w_rings 0 z_1))), (w_hanging_, .inl (cy 1, 36, .inl w_hanging)), (w_costs_, .inl (cy 1, 36, .inl w_costs)), (h, .inr (6, [.int h_wide, .int h_high, .int h_law, .int h_spin, .int h_line, .int h_draught, .int h_books, .int h_rare, .ref h_quarrels_, .ref h_nameSizes_, .ref h_names_])), (h_quarrels_, .inl (cy 1, 8, .inl h_quarrels)), (h_nameSizes_, .inl (cy 1, 8, .inl h_nameSizes)), (h_names_, .inl (cy 1, 56, .inl h_names)), (k, .inr (8, [.ref k_x_, .ref k_y_, .ref k_web_, .ref k_asks_, .ref k_threads_, .int k_today, .int k_day, .ref k_seen_])), (k_x_, .inl (cy 1, 8, .inl k_x)), (k_y_, .inl (cy 1, 8, .inl k_y)), (k_web_, .inl (cy 1, 8, .inl k_web)), (k_asks_, .inl (cy 1, 8, .inl k_asks)), (k_threads_, .inl (cy 1, 64, .inl k_threads)), (k_seen_, .inl (cy 1, 8, .inl k_seen))]) C hP hD hS 2 rfl (vin (by decide +kernel)) rfl rfl dX5_ringOf_13 (fun H locs hP hD hS => ?_)
  generalize upd w_rings 0 z_1 = g_2 at hP hD 
  have hP : va_P D vwCl [(w, .inr (5, [.ref w_way_, .int w_waySize, .int w_tornSteps, .ref w_rings_, .ref w_hanging_, .ref w_costs_])), (w_way_, .inl (cy 1, 8, .inl w_way)), (w_rings_, .inl (cy 1, 9, .inl g_2)), (w_hanging_, .inl (cy 1, 36, .inl w_hanging)), (w_costs_, .inl (cy 1, 36, .inl w_costs)), (h, .inr (6, [.int h_wide, .int h_high, .int h_law, .int h_spin, .int h_line, .int h_draught, .int h_books, .int h_rare, .ref h_quarrels_, .ref h_nameSizes_, .ref h_names_])), (h_quarrels_, .inl (cy 1, 8, .inl h_quarrels)), (h_nameSizes_, .inl (cy 1, 8, .inl h_nameSizes)), (h_names_, .inl (cy 1, 56, .inl h_names)), (k, .inr (8, [.ref k_x_, .ref k_y_, .ref k_web_, .ref k_asks_, .ref k_threads_, .int k_today, .int k_day, .ref k_seen_])), (k_x_, .inl (cy 1, 8, .inl k_x)), (k_y_, .inl (cy 1, 8, .inl k_y)), (k_web_, .inl (cy 1, 8, .inl k_web)), (k_asks_, .inl (cy 1, 8, .inl k_asks)), (k_threads_, .inl (cy 1, 64, .inl k_threads)), (k_seen_, .inl (cy 1, 8, .inl k_seen))] H := hP
  have hD : va_D A [(w, .inr (5, [.ref w_way_, .int w_waySize, .int w_tornSteps, .ref w_rings_, .ref w_hanging_, .ref w_costs_])), (w_way_, .inl (cy 1, 8, .inl w_way)), (w_rings_, .inl (cy 1, 9, .inl g_2)), (w_hanging_, .inl (cy 1, 36, .inl w_hanging)), (w_costs_, .inl (cy 1, 36, .inl w_costs)), (h, .inr (6, [.int h_wide, .int h_high, .int h_law, .int h_spin, .int h_line, .int h_draught, .int h_books, .int h_rare, .ref h_quarrels_, .ref h_nameSizes_, .ref h_names_])), (h_quarrels_, .inl (cy 1, 8, .inl h_quarrels)), (h_nameSizes_, .inl (cy 1, 8, .inl h_nameSizes)), (h_names_, .inl (cy 1, 56, .inl h_names)), (k, .inr (8, [.ref k_x_, .ref k_y_, .ref k_web_, .ref k_asks_, .ref k_threads_, .int k_today, .int k_day, .ref k_seen_])), (k_x_, .inl (cy 1, 8, .inl k_x)), (k_y_, .inl (cy 1, 8, .inl k_y)), (k_web_, .inl (cy 1, 8, .inl k_web)), (k_asks_, .inl (cy 1, 8, .inl k_asks)), (k_threads_, .inl (cy 1, 64, .inl k_threads)), (k_seen_, .inl (cy 1, 8, .inl k_seen))] := hD
  refine lv_iconst (v := 0) hx hb dX5_ringOf_14 (by decide) ?_
  refine lv_istore (lv' := [(6, .int 0), (5, .int z_1), (0, .ref w), (1, .ref h), (2, .ref k), (3, .int a), (4, .int b)]) hx hb dX5_ringOf_15 hl (by decide) rfl (fun ls hl => ?_)
  have lp_17_5 : ∀ (n_6 : Nat) (x_3 : Int32) (x_4 : Int32) (g_5 : Nat → Int32) (H : Heap) (locs : List Loc) (ls : Array Slot), (-1) * x_4.toInt + 8 < (n_6 : Int) → (0 ≤ x_4.toInt ∧ x_4.toInt ≤ 8) → va_P D vwCl [(w, .inr (5, [.ref w_way_, .int w_waySize, .int w_tornSteps, .ref w_rings_, .ref w_hanging_, .ref w_costs_])), (w_way_, .inl (cy 1, 8, .inl w_way)), (w_rings_, .inl (cy 1, 9, .inl g_5)), (w_hanging_, .inl (cy 1, 36, .inl w_hanging)), (w_costs_, .inl (cy 1, 36, .inl w_costs)), (h, .inr (6, [.int h_wide, .int h_high, .int h_law, .int h_spin, .int h_line, .int h_draught, .int h_books, .int h_rare, .ref h_quarrels_, .ref h_nameSizes_, .ref h_names_])), (h_quarrels_, .inl (cy 1, 8, .inl h_quarrels)), (h_nameSizes_, .inl (cy 1, 8, .inl h_nameSizes)), (h_names_, .inl (cy 1, 56, .inl h_names)), (k, .inr (8, [.ref k_x_, .ref k_y_, .ref k_web_, .ref k_asks_, .ref k_threads_, .int k_today, .int k_day, .ref k_seen_])), (k_x_, .inl (cy 1, 8, .inl k_x)), (k_y_, .inl (cy 1, 8, .inl k_y)), (k_web_, .inl (cy 1, 8, .inl k_web)), (k_asks_, .inl (cy 1, 8, .inl k_asks)), (k_threads_, .inl (cy 1, 64, .inl k_threads)), (k_seen_, .inl (cy 1, 8, .inl k_seen))] H → va_D A [(w, .inr (5, [.ref w_way_, .int w_waySize, .int w_tornSteps, .ref w_rings_, .ref w_hanging_, .ref w_costs_])), (w_way_, .inl (cy 1, 8, .inl w_way)), (w_rings_, .inl (cy 1, 9, .inl g_5)), (w_hanging_, .inl (cy 1, 36, .inl w_hanging)), (w_costs_, .inl (cy 1, 36, .inl w_costs)), (h, .inr (6, [.int h_wide, .int h_high, .int h_law, .int h_spin, .int h_line, .int h_draught, .int h_books, .int h_rare, .ref h_quarrels_, .ref h_nameSizes_, .ref h_names_])), (h_quarrels_, .inl (cy 1, 8, .inl h_quarrels)), (h_nameSizes_, .inl (cy 1, 8, .inl h_nameSizes)), (h_names_, .inl (cy 1, 56, .inl h_names)), (k, .inr (8, [.ref k_x_, .ref k_y_, .ref k_web_, .ref k_asks_, .ref k_threads_, .int k_today, .int k_day, .ref k_seen_])), (k_x_, .inl (cy 1, 8, .inl k_x)), (k_y_, .inl (cy 1, 8, .inl k_y)), (k_web_, .inl (cy 1, 8, .inl k_web)), (k_asks_, .inl (cy 1, 8, .inl k_asks)), (k_threads_, .inl (cy 1, 64, .inl k_threads)), (k_seen_, .inl (cy 1, 8, .inl k_seen))] → va_S A s.heap H locs → lv_has ls 9 [(0, .ref w), (1, .ref h), (2, .ref k), (3, .int a), (5, .int x_3), (6, .int x_4)] → W p l e (Rm 2 45 0 0) s m args below meth c H locs cells slots Q (F0 m 17 ls []) := by
    intro n_6
    induction n_6 with
    | zero =>
      intro x_3 x_4 g_5 H locs ls hm_8 hf_7 hP hD hS hl
      exact absurd hm_8 (by omega)
    | succ n_6 ih_9 =>
      intro x_3 x_4 g_5 H locs ls hm_8 hf_7 hP hD hS hl
      refine lv_iload hx hb dX5_ringOf_17 (lv_at hl 5 rfl) ?_
      refine lv_bipush (v := 8) hx hb dX5_ringOf_19 (by decide) ?_
      refine lv_icmp_ge (tgt := 130) hx hb dX5_ringOf_21 (by decide) (fun c_11 => ?_) (fun c_11 => ?_)
      · have hc_11 := o_le (by decide : (8 : Int32).toInt = 8) (rfl : x_4.toInt = x_4.toInt) c_11
        refine lv_iconst (v := (-1)) hx hb dX5_ringOf_130 (by decide) ?_
        refine o_wq hQ ?_
        exact q_iret (rm := (Rm 2 45 0 0)) C hS g_5 rfl (show (-1) ≤ ((-1) : Int32).toInt ∧ ((-1) : Int32).toInt ≤ 7 by decide) (q_subP hP [0, 1, 2, 3, 4, 5, 6, 7, 8, 9, 10, 11, 12, 13, 14, 15] rfl) (hD.sub [0, 1, 2, 3, 4, 5, 6, 7, 8, 9, 10, 11, 12, 13, 14, 15] (by decide) rfl) hroom.1 hroom.2 dX5_ringOf_131
      · have hc_11 := o_nle (by decide : (8 : Int32).toInt = 8) (rfl : x_4.toInt = x_4.toInt) c_11
        refine lv_aload_n hx hb dX5_ringOf_24 rfl (lv_at hl 0 rfl) ?_
        refine q_get (v := .ref w_rings_) C hP 0 3 rfl rfl inX5 (by decide) kF_RX5_22 rfl rfl dX5_ringOf_25 ?_
        refine lv_iload hx hb dX5_ringOf_28 (lv_at hl 5 rfl) ?_
        refine q_iald (v := g_5 x_4.toNatClampNeg) C hP 2 rfl (o_in (rfl : x_4.toInt = x_4.toInt) (by omega) (by omega)) rfl dX5_ringOf_30 ?_
        refine lv_topi (fun z_12 ez_12 => ?_)
        refine lv_if_eq (tgt := 130) hx hb dX5_ringOf_31 (by decide) (fun c_13 => ?_) (fun c_13 => ?_)
        · have hc_13 := o_eq (rfl : z_12.toInt = z_12.toInt) (by decide : (0 : Int32).toInt = 0) c_13
          refine lv_iconst (v := (-1)) hx hb dX5_ringOf_130 (by decide) ?_
          refine o_wq hQ ?_
          exact q_iret (rm := (Rm 2 45 0 0)) C hS g_5 rfl (show (-1) ≤ ((-1) : Int32).toInt ∧ ((-1) : Int32).toInt ≤ 7 by decide) (q_subP hP [0, 1, 2, 3, 4, 5, 6, 7, 8, 9, 10, 11, 12, 13, 14, 15] rfl) (hD.sub [0, 1, 2, 3, 4, 5, 6, 7, 8, 9, 10, 11, 12, 13, 14, 15] (by decide) rfl) hroom.1 hroom.2 dX5_ringOf_131
        · have hc_13 := o_ne (rfl : z_12.toInt = z_12.toInt) (by decide : (0 : Int32).toInt = 0) c_13
          refine lv_aload_n hx hb dX5_ringOf_34 rfl (lv_at hl 0 rfl) ?_
          refine q_get (v := .ref w_rings_) C hP 0 3 rfl rfl inX5 (by decide) kF_RX5_22 rfl rfl dX5_ringOf_35 ?_
          refine lv_iload hx hb dX5_ringOf_38 (lv_at hl 5 rfl) ?_
          refine q_iald (v := z_12) C hP 2 rfl (o_in (rfl : x_4.toInt = x_4.toInt) (by omega) (by omega)) ez_12.symm dX5_ringOf_40 ?_
          refine lv_iload_n hx hb dX5_ringOf_41 rfl (lv_at hl 3 rfl) ?_
          refine q_ai (wr := [(w, .inr (5, [.ref w_way_, .int w_waySize, .int w_tornSteps, .ref w_rings_, .ref w_hanging_, .ref w_costs_])), (w_way_, .inl (cy 1, 8, .inl w_way)), (w_rings_, .inl (cy 1, 9, .inl g_5)), (w_hanging_, .inl (cy 1, 36, .inl w_hanging)), (w_costs_, .inl (cy 1, 36, .inl w_costs)), (h, .inr (6, [.int h_wide, .int h_high, .int h_law, .int h_spin, .int h_line, .int h_draught, .int h_books, .int h_rare, .ref h_quarrels_, .ref h_nameSizes_, .ref h_names_])), (h_quarrels_, .inl (cy 1, 8, .inl h_quarrels)), (h_nameSizes_, .inl (cy 1, 8, .inl h_nameSizes)), (h_names_, .inl (cy 1, 56, .inl h_names)), (k, .inr (8, [.ref k_x_, .ref k_y_, .ref k_web_, .ref k_asks_, .ref k_threads_, .int k_today, .int k_day, .ref k_seen_])), (k_x_, .inl (cy 1, 8, .inl k_x)), (k_y_, .inl (cy 1, 8, .inl k_y)), (k_web_, .inl (cy 1, 8, .inl k_web)), (k_asks_, .inl (cy 1, 8, .inl k_asks)), (k_threads_, .inl (cy 1, 64, .inl k_threads)), (k_seen_, .inl (cy 1, 8, .inl k_seen))]) (r_SN (rm := (Rm 0 0 0 0)) (As := [.int z_12, .int a]) (rest := []) (wc := []) C hS (q_subP hP [] rfl) (hD.sub [] (by decide) rfl) (o_bitOf l D cy z_12 a _ ) kwS_X10_bitOf kN_RX5_50 ⟨Nat.le_of_ble_eq_true rfl, Nat.le_of_ble_eq_true rfl⟩ rfl hl.1 rfl (Nat.le_of_ble_eq_true rfl) dX5_ringOf_42 ⟨hroom.1, hroom.2⟩) C.2.2.2.2.2.2.1 hP hD hS [] [0, 1, 2, 3, 4, 5, 6, 7, 8, 9, 10, 11, 12, 13, 14, 15] rfl rfl (by decide) (by decide) (fun r_15 u_14 H locs hw_16 hP hD hS => ?_)
          have hp_16 : 0 ≤ r_15.toInt ∧ r_15.toInt ≤ 1 := hw_16.1
          have hp_17 : Hd ((r_15.toInt = 1 ∧ bt z_12 a = 1) ∨ (r_15.toInt = 0 ∧ bt z_12 a ≠ 1)) := hw_16.2
          refine lv_iconst (v := 1) hx hb dX5_ringOf_45 (by decide) ?_
          refine lv_icmp_ne (tgt := 52) hx hb dX5_ringOf_46 (by decide) (fun c_19 => ?_) (fun c_19 => ?_)
          · have hc_19 := o_ne (rfl : r_15.toInt = r_15.toInt) (by decide : (1 : Int32).toInt = 1) c_19
            have hnc_19 : 0 ≤ (-1) * r_15.toInt := by rcases Int.lt_or_gt_of_ne hc_19 with h9 | h9 <;> omega
            have hd_19 : Hd (r_15.toInt = 0 ∧ bt z_12 a ≠ 1) := (Hd.un hp_17).resolve_left (fun z9 => by omega)
            have hd_19_0 : r_15.toInt = 0 := (Hd.un hd_19).1
            refine lv_iconst (v := 0) hx hb dX5_ringOf_52 (by decide) ?_
            refine lv_istore (lv' := [(7, .int 0), (0, .ref w), (1, .ref h), (2, .ref k), (3, .int a), (5, .int x_3), (6, .int x_4)]) hx hb dX5_ringOf_53 hl (by decide) rfl (fun ls hl => ?_)
            refine lv_iconst (v := 0) hx hb dX5_ringOf_55 (by decide) ?_
            refine lv_istore (lv' := [(8, .int 0), (7, .int 0), (0, .ref w), (1, .ref h), (2, .ref k), (3, .int a), (5, .int x_3), (6, .int x_4)]) hx hb dX5_ringOf_56 hl (by decide) rfl (fun ls hl => ?_)
            have lp_58_22 : ∀ (n_23 : Nat) (x_21 : Int32) (x_22 : Int32) (H : Heap) (locs : List Loc) (ls : Array Slot), (-1) * x_22.toInt + 8 < (n_23 : Int) → (0 ≤ x_22.toInt ∧ x_22.toInt ≤ 8) → va_P D vwCl [(w, .inr (5, [.ref w_way_, .int w_waySize, .int w_tornSteps, .ref w_rings_, .ref w_hanging_, .ref w_costs_])), (w_way_, .inl (cy 1, 8, .inl w_way)), (w_rings_, .inl (cy 1, 9, .inl g_5)), (w_hanging_, .inl (cy 1, 36, .inl w_hanging)), (w_costs_, .inl (cy 1, 36, .inl w_costs)), (h, .inr (6, [.int h_wide, .int h_high, .int h_law, .int h_spin, .int h_line, .int h_draught, .int h_books, .int h_rare, .ref h_quarrels_, .ref h_nameSizes_, .ref h_names_])), (h_quarrels_, .inl (cy 1, 8, .inl h_quarrels)), (h_nameSizes_, .inl (cy 1, 8, .inl h_nameSizes)), (h_names_, .inl (cy 1, 56, .inl h_names)), (k, .inr (8, [.ref k_x_, .ref k_y_, .ref k_web_, .ref k_asks_, .ref k_threads_, .int k_today, .int k_day, .ref k_seen_])), (k_x_, .inl (cy 1, 8, .inl k_x)), (k_y_, .inl (cy 1, 8, .inl k_y)), (k_web_, .inl (cy 1, 8, .inl k_web)), (k_asks_, .inl (cy 1, 8, .inl k_asks)), (k_threads_, .inl (cy 1, 64, .inl k_threads)), (k_seen_, .inl (cy 1, 8, .inl k_seen))] H → va_D A [(w, .inr (5, [.ref w_way_, .int w_waySize, .int w_tornSteps, .ref w_rings_, .ref w_hanging_, .ref w_costs_])), (w_way_, .inl (cy 1, 8, .inl w_way)), (w_rings_, .inl (cy 1, 9, .inl g_5)), (w_hanging_, .inl (cy 1, 36, .inl w_hanging)), (w_costs_, .inl (cy 1, 36, .inl w_costs)), (h, .inr (6, [.int h_wide, .int h_high, .int h_law, .int h_spin, .int h_line, .int h_draught, .int h_books, .int h_rare, .ref h_quarrels_, .ref h_nameSizes_, .ref h_names_])), (h_quarrels_, .inl (cy 1, 8, .inl h_quarrels)), (h_nameSizes_, .inl (cy 1, 8, .inl h_nameSizes)), (h_names_, .inl (cy 1, 56, .inl h_names)), (k, .inr (8, [.ref k_x_, .ref k_y_, .ref k_web_, .ref k_asks_, .ref k_threads_, .int k_today, .int k_day, .ref k_seen_])), (k_x_, .inl (cy 1, 8, .inl k_x)), (k_y_, .inl (cy 1, 8, .inl k_y)), (k_web_, .inl (cy 1, 8, .inl k_web)), (k_asks_, .inl (cy 1, 8, .inl k_asks)), (k_threads_, .inl (cy 1, 64, .inl k_threads)), (k_seen_, .inl (cy 1, 8, .inl k_seen))] → va_S A s.heap H locs → lv_has ls 9 [(0, .ref w), (1, .ref h), (2, .ref k), (3, .int a), (5, .int x_3), (6, .int x_4), (7, .int x_21), (8, .int x_22)] → W p l e (Rm 2 45 0 0) s m args below meth c H locs cells slots Q (F0 m 58 ls []) := by
              intro n_23
              induction n_23 with
              | zero =>
                intro x_21 x_22 H locs ls hm_25 hf_24 hP hD hS hl
                exact absurd hm_25 (by omega)
              | succ n_23 ih_26 =>
                intro x_21 x_22 H locs ls hm_25 hf_24 hP hD hS hl
                refine lv_iload hx hb dX5_ringOf_58 (lv_at hl 7 rfl) ?_
                refine lv_aload_n hx hb dX5_ringOf_60 rfl (lv_at hl 1 rfl) ?_
                refine q_get (v := .int h_books) C hP 5 6 rfl rfl inX6 (by decide) kF_RX5_53 rfl rfl dX5_ringOf_61 ?_
                refine lv_icmp_ge (tgt := 101) hx hb dX5_ringOf_64 (by decide) (fun c_28 => ?_) (fun c_28 => ?_)
                · have hc_28 := o_le (rfl : h_books.toInt = h_books.toInt) (rfl : x_22.toInt = x_22.toInt) c_28
                  refine lv_aload_n hx hb dX5_ringOf_101 rfl (lv_at hl 0 rfl) ?_
                  refine q_get (v := .ref w_rings_) C hP 0 3 rfl rfl inX5 (by decide) kF_RX5_22 rfl rfl dX5_ringOf_102 ?_
                  refine lv_iload hx hb dX5_ringOf_105 (lv_at hl 5 rfl) ?_
                  refine lv_iconst (v := 1) hx hb dX5_ringOf_107 (by decide) ?_
                  refine lv_iadd hx hb dX5_ringOf_108 ?_
                  refine lv_topi (fun z_29 hz_29 => ?_)
                  have hz_29 := o_add hz_29 (rfl : x_4.toInt = x_4.toInt) (by decide : (1 : Int32).toInt = 1) (by omega) (by omega)
                  refine lv_iload hx hb dX5_ringOf_109 (lv_at hl 6 rfl) ?_
                  refine lv_iload hx hb dX5_ringOf_111 (lv_at hl 4 rfl) ?_
                  refine lv_iconst (v := (-1)) hx hb dX5_ringOf_113 (by decide) ?_
                  refine lv_ixor hx hb dX5_ringOf_114 ?_
                  refine lv_topi (fun z_30 hz_30 => ?_)
                  clear hz_30
                  refine lv_iand hx hb dX5_ringOf_115 ?_
                  refine lv_topi (fun z_31 hz_31 => ?_)
                  clear hz_31
                  refine q_iast (g := upd g_5 z_29.toNatClampNeg z_31) (w' := [(w, .inr (5, [.ref w_way_, .int w_waySize, .int w_tornSteps, .ref w_rings_, .ref w_hanging_, .ref w_costs_])), (w_way_, .inl (cy 1, 8, .inl w_way)), (w_rings_, .inl (cy 1, 9, .inl (upd g_5 z_29.toNatClampNeg z_31))), (w_hanging_, .inl (cy 1, 36, .inl w_hanging)), (w_costs_, .inl (cy 1, 36, .inl w_costs)), (h, .inr (6, [.int h_wide, .int h_high, .int h_law, .int h_spin, .int h_line, .int h_draught, .int h_books, .int h_rare, .ref h_quarrels_, .ref h_nameSizes_, .ref h_names_])), (h_quarrels_, .inl (cy 1, 8, .inl h_quarrels)), (h_nameSizes_, .inl (cy 1, 8, .inl h_nameSizes)), (h_names_, .inl (cy 1, 56, .inl h_names)), (k, .inr (8, [.ref k_x_, .ref k_y_, .ref k_web_, .ref k_asks_, .ref k_threads_, .int k_today, .int k_day, .ref k_seen_])), (k_x_, .inl (cy 1, 8, .inl k_x)), (k_y_, .inl (cy 1, 8, .inl k_y)), (k_web_, .inl (cy 1, 8, .inl k_web)), (k_asks_, .inl (cy 1, 8, .inl k_asks)), (k_threads_, .inl (cy 1, 64, .inl k_threads)), (k_seen_, .inl (cy 1, 8, .inl k_seen))]) C hP hD hS 2 rfl (o_in (rfl : z_29.toInt = z_29.toInt) (by omega) (by omega)) rfl rfl dX5_ringOf_116 (fun H locs hP hD hS => ?_)
                  generalize upd g_5 z_29.toNatClampNeg z_31 = g_32 at hP hD 
                  have hP : va_P D vwCl [(w, .inr (5, [.ref w_way_, .int w_waySize, .int w_tornSteps, .ref w_rings_, .ref w_hanging_, .ref w_costs_])), (w_way_, .inl (cy 1, 8, .inl w_way)), (w_rings_, .inl (cy 1, 9, .inl g_32)), (w_hanging_, .inl (cy 1, 36, .inl w_hanging)), (w_costs_, .inl (cy 1, 36, .inl w_costs)), (h, .inr (6, [.int h_wide, .int h_high, .int h_law, .int h_spin, .int h_line, .int h_draught, .int h_books, .int h_rare, .ref h_quarrels_, .ref h_nameSizes_, .ref h_names_])), (h_quarrels_, .inl (cy 1, 8, .inl h_quarrels)), (h_nameSizes_, .inl (cy 1, 8, .inl h_nameSizes)), (h_names_, .inl (cy 1, 56, .inl h_names)), (k, .inr (8, [.ref k_x_, .ref k_y_, .ref k_web_, .ref k_asks_, .ref k_threads_, .int k_today, .int k_day, .ref k_seen_])), (k_x_, .inl (cy 1, 8, .inl k_x)), (k_y_, .inl (cy 1, 8, .inl k_y)), (k_web_, .inl (cy 1, 8, .inl k_web)), (k_asks_, .inl (cy 1, 8, .inl k_asks)), (k_threads_, .inl (cy 1, 64, .inl k_threads)), (k_seen_, .inl (cy 1, 8, .inl k_seen))] H := hP
                  have hD : va_D A [(w, .inr (5, [.ref w_way_, .int w_waySize, .int w_tornSteps, .ref w_rings_, .ref w_hanging_, .ref w_costs_])), (w_way_, .inl (cy 1, 8, .inl w_way)), (w_rings_, .inl (cy 1, 9, .inl g_32)), (w_hanging_, .inl (cy 1, 36, .inl w_hanging)), (w_costs_, .inl (cy 1, 36, .inl w_costs)), (h, .inr (6, [.int h_wide, .int h_high, .int h_law, .int h_spin, .int h_line, .int h_draught, .int h_books, .int h_rare, .ref h_quarrels_, .ref h_nameSizes_, .ref h_names_])), (h_quarrels_, .inl (cy 1, 8, .inl h_quarrels)), (h_nameSizes_, .inl (cy 1, 8, .inl h_nameSizes)), (h_names_, .inl (cy 1, 56, .inl h_names)), (k, .inr (8, [.ref k_x_, .ref k_y_, .ref k_web_, .ref k_asks_, .ref k_threads_, .int k_today, .int k_day, .ref k_seen_])), (k_x_, .inl (cy 1, 8, .inl k_x)), (k_y_, .inl (cy 1, 8, .inl k_y)), (k_web_, .inl (cy 1, 8, .inl k_web)), (k_asks_, .inl (cy 1, 8, .inl k_asks)), (k_threads_, .inl (cy 1, 64, .inl k_threads)), (k_seen_, .inl (cy 1, 8, .inl k_seen))] := hD
                  refine lv_iload hx hb dX5_ringOf_117 (lv_at hl 4 rfl) ?_
                  refine lv_iload hx hb dX5_ringOf_119 (lv_at hl 6 rfl) ?_
                  refine lv_ior hx hb dX5_ringOf_121 ?_
                  refine lv_topi (fun z_33 hz_33 => ?_)
                  clear hz_33
                  refine lv_istore (lv' := [(5, .int z_33), (0, .ref w), (1, .ref h), (2, .ref k), (3, .int a), (6, .int x_4), (7, .int x_21), (8, .int x_22)]) hx hb dX5_ringOf_122 hl (by decide) rfl (fun ls hl => ?_)
                  obtain ⟨z_34, hz_34⟩ : ∃ z : Int32, z = x_4 + 1 := ⟨_, rfl⟩
                  refine lv_iinc (v := z_34) (lv' := [(6, .int z_34), (5, .int z_33), (0, .ref w), (1, .ref h), (2, .ref k), (3, .int a), (7, .int x_21), (8, .int x_22)]) hx hb dX5_ringOf_124 hl (k := 5) rfl hz_34.symm (by decide) rfl (fun ls hl => ?_)
                  have hz_34 := o_add hz_34 (rfl : x_4.toInt = x_4.toInt) (by decide : (1 : Int32).toInt = 1) (by omega) (by omega)
                  refine lv_goto (tgt := 17) hx hb dX5_ringOf_127 (by decide) ?_
                  exact ih_9 z_33 z_34 g_32 H locs ls (by omega) (by omega) hP hD hS (lv_sub hl [2, 3, 4, 5, 1, 0] rfl)
                · have hc_28 := o_nle (rfl : h_books.toInt = h_books.toInt) (rfl : x_22.toInt = x_22.toInt) c_28
                  refine lv_aload_n hx hb dX5_ringOf_67 rfl (lv_at hl 0 rfl) ?_
                  refine q_get (v := .ref w_rings_) C hP 0 3 rfl rfl inX5 (by decide) kF_RX5_22 rfl rfl dX5_ringOf_68 ?_
                  refine lv_iload hx hb dX5_ringOf_71 (lv_at hl 5 rfl) ?_
                  refine q_iald (v := g_5 x_4.toNatClampNeg) C hP 2 rfl (o_in (rfl : x_4.toInt = x_4.toInt) (by omega) (by omega)) rfl dX5_ringOf_73 ?_
                  refine lv_topi (fun z_35 ez_35 => ?_)
                  refine lv_iload hx hb dX5_ringOf_74 (lv_at hl 7 rfl) ?_
                  refine q_ai (wr := [(w, .inr (5, [.ref w_way_, .int w_waySize, .int w_tornSteps, .ref w_rings_, .ref w_hanging_, .ref w_costs_])), (w_way_, .inl (cy 1, 8, .inl w_way)), (w_rings_, .inl (cy 1, 9, .inl g_5)), (w_hanging_, .inl (cy 1, 36, .inl w_hanging)), (w_costs_, .inl (cy 1, 36, .inl w_costs)), (h, .inr (6, [.int h_wide, .int h_high, .int h_law, .int h_spin, .int h_line, .int h_draught, .int h_books, .int h_rare, .ref h_quarrels_, .ref h_nameSizes_, .ref h_names_])), (h_quarrels_, .inl (cy 1, 8, .inl h_quarrels)), (h_nameSizes_, .inl (cy 1, 8, .inl h_nameSizes)), (h_names_, .inl (cy 1, 56, .inl h_names)), (k, .inr (8, [.ref k_x_, .ref k_y_, .ref k_web_, .ref k_asks_, .ref k_threads_, .int k_today, .int k_day, .ref k_seen_])), (k_x_, .inl (cy 1, 8, .inl k_x)), (k_y_, .inl (cy 1, 8, .inl k_y)), (k_web_, .inl (cy 1, 8, .inl k_web)), (k_asks_, .inl (cy 1, 8, .inl k_asks)), (k_threads_, .inl (cy 1, 64, .inl k_threads)), (k_seen_, .inl (cy 1, 8, .inl k_seen))]) (r_SN (rm := (Rm 0 0 0 0)) (As := [.int z_35, .int x_22]) (rest := []) (wc := []) C hS (q_subP hP [] rfl) (hD.sub [] (by decide) rfl) (o_bitOf l D cy z_35 x_22 _ ) kwS_X10_bitOf kN_RX5_50 ⟨Nat.le_of_ble_eq_true rfl, Nat.le_of_ble_eq_true rfl⟩ rfl hl.1 rfl (Nat.le_of_ble_eq_true rfl) dX5_ringOf_76 ⟨hroom.1, hroom.2⟩) C.2.2.2.2.2.2.1 hP hD hS [] [0, 1, 2, 3, 4, 5, 6, 7, 8, 9, 10, 11, 12, 13, 14, 15] rfl rfl (by decide) (by decide) (fun r_37 u_36 H locs hw_38 hP hD hS => ?_)
                  have hp_38 : 0 ≤ r_37.toInt ∧ r_37.toInt ≤ 1 := hw_38.1
                  have hp_39 : Hd ((r_37.toInt = 1 ∧ bt z_35 x_22 = 1) ∨ (r_37.toInt = 0 ∧ bt z_35 x_22 ≠ 1)) := hw_38.2
                  refine lv_iconst (v := 1) hx hb dX5_ringOf_79 (by decide) ?_
                  refine lv_icmp_ne (tgt := 95) hx hb dX5_ringOf_80 (by decide) (fun c_41 => ?_) (fun c_41 => ?_)
                  · have hc_41 := o_ne (rfl : r_37.toInt = r_37.toInt) (by decide : (1 : Int32).toInt = 1) c_41
                    have hnc_41 : 0 ≤ (-1) * r_37.toInt := by rcases Int.lt_or_gt_of_ne hc_41 with h9 | h9 <;> omega
                    have hd_41 : Hd (r_37.toInt = 0 ∧ bt z_35 x_22 ≠ 1) := (Hd.un hp_39).resolve_left (fun z9 => by omega)
                    have hd_41_0 : r_37.toInt = 0 := (Hd.un hd_41).1
                    obtain ⟨z_43, hz_43⟩ : ∃ z : Int32, z = x_22 + 1 := ⟨_, rfl⟩
                    refine lv_iinc (v := z_43) (lv' := [(8, .int z_43), (0, .ref w), (1, .ref h), (2, .ref k), (3, .int a), (5, .int x_3), (6, .int x_4), (7, .int x_21)]) hx hb dX5_ringOf_95 hl (k := 7) rfl hz_43.symm (by decide) rfl (fun ls hl => ?_)
                    have hz_43 := o_add hz_43 (rfl : x_22.toInt = x_22.toInt) (by decide : (1 : Int32).toInt = 1) (by omega) (by omega)
                    refine lv_goto (tgt := 58) hx hb dX5_ringOf_98 (by decide) ?_
                    exact ih_26 x_21 z_43 H locs ls (by omega) (by omega) hP hD hS (lv_sub hl [1, 2, 3, 4, 5, 6, 7, 0] rfl)
                  · have hc_41 := o_eq (rfl : r_37.toInt = r_37.toInt) (by decide : (1 : Int32).toInt = 1) c_41
                    have hd_43 : Hd (r_37.toInt = 1 ∧ bt z_35 x_22 = 1) := (Hd.un hp_39).resolve_right (fun z9 => by omega)
                    have hd_43_0 : r_37.toInt = 1 := (Hd.un hd_43).1
                    refine lv_iload hx hb dX5_ringOf_83 (lv_at hl 6 rfl) ?_
                    refine lv_aload_n hx hb dX5_ringOf_85 rfl (lv_at hl 2 rfl) ?_
                    refine lv_aload_n hx hb dX5_ringOf_86 rfl (lv_at hl 1 rfl) ?_
                    refine lv_iload hx hb dX5_ringOf_87 (lv_at hl 7 rfl) ?_
                    refine q_ai (wr := [(w, .inr (5, [.ref w_way_, .int w_waySize, .int w_tornSteps, .ref w_rings_, .ref w_hanging_, .ref w_costs_])), (w_way_, .inl (cy 1, 8, .inl w_way)), (w_rings_, .inl (cy 1, 9, .inl g_5)), (w_hanging_, .inl (cy 1, 36, .inl w_hanging)), (w_costs_, .inl (cy 1, 36, .inl w_costs))]) (r_V (rm := (Rm 1 21 0 0)) (q0 := 0) (As := [.ref h, .int x_22]) (rest := [.int x_21]) (wc := [(k, .inr (8, [.ref k_x_, .ref k_y_, .ref k_web_, .ref k_asks_, .ref k_threads_, .int k_today, .int k_day, .ref k_seen_])), (k_x_, .inl (cy 1, 8, .inl k_x)), (k_y_, .inl (cy 1, 8, .inl k_y)), (k_web_, .inl (cy 1, 8, .inl k_web)), (k_asks_, .inl (cy 1, 8, .inl k_asks)), (k_threads_, .inl (cy 1, 64, .inl k_threads)), (k_seen_, .inl (cy 1, 8, .inl k_seen)), (h, .inr (6, [.int h_wide, .int h_high, .int h_law, .int h_spin, .int h_line, .int h_draught, .int h_books, .int h_rare, .ref h_quarrels_, .ref h_nameSizes_, .ref h_names_])), (h_quarrels_, .inl (cy 1, 8, .inl h_quarrels)), (h_nameSizes_, .inl (cy 1, 8, .inl h_nameSizes)), (h_names_, .inl (cy 1, 56, .inl h_names))]) C hS (q_subP hP [9, 10, 11, 12, 13, 14, 15, 5, 6, 7, 8] rfl) (hD.sub [9, 10, 11, 12, 13, 14, 15, 5, 6, 7, 8] (by decide) rfl) (o_linesOf l D cy k h x_22 k_x_ k_y_ k_web_ k_asks_ k_threads_ k_today k_day k_seen_ k_x k_y k_web k_asks k_threads k_seen h_wide h_high h_law h_spin h_line h_draught h_books h_rare h_quarrels_ h_nameSizes_ h_names_ h_quarrels h_nameSizes h_names _ (by omega) (by omega) (by omega) (by omega) hR2 hR3 hR1) kwV_X8_linesOf kM_RX5_35 rfl rfl ⟨Nat.le_of_ble_eq_true rfl, Nat.le_of_ble_eq_true rfl⟩ rfl hl.1 rfl (Nat.le_of_ble_eq_true rfl) dX5_ringOf_89 ⟨hroom.1, hroom.2⟩) C.2.2.2.2.2.2.1 hP hD hS [9, 10, 11, 12, 13, 14, 15, 5, 6, 7, 8] [0, 1, 2, 3, 4] rfl rfl (by decide) (by decide) (fun r_46 u_45 H locs hw_47 hP hD hS => ?_)
                    refine lv_ior hx hb dX5_ringOf_92 ?_
                    refine lv_topi (fun z_48 hz_48 => ?_)
                    clear hz_48
                    refine lv_istore (lv' := [(7, .int z_48), (0, .ref w), (1, .ref h), (2, .ref k), (3, .int a), (5, .int x_3), (6, .int x_4), (8, .int x_22)]) hx hb dX5_ringOf_93 hl (by decide) rfl (fun ls hl => ?_)
                    obtain ⟨z_49, hz_49⟩ : ∃ z : Int32, z = x_22 + 1 := ⟨_, rfl⟩
                    refine lv_iinc (v := z_49) (lv' := [(8, .int z_49), (7, .int z_48), (0, .ref w), (1, .ref h), (2, .ref k), (3, .int a), (5, .int x_3), (6, .int x_4)]) hx hb dX5_ringOf_95 hl (k := 7) rfl hz_49.symm (by decide) rfl (fun ls hl => ?_)
                    have hz_49 := o_add hz_49 (rfl : x_22.toInt = x_22.toInt) (by decide : (1 : Int32).toInt = 1) (by omega) (by omega)
                    refine lv_goto (tgt := 58) hx hb dX5_ringOf_98 (by decide) ?_
                    exact ih_26 z_48 z_49 H locs ls (by omega) (by omega) (q_subP hP [0, 1, 2, 3, 4, 12, 13, 14, 15, 5, 6, 7, 8, 9, 10, 11] rfl) (hD.sub [0, 1, 2, 3, 4, 12, 13, 14, 15, 5, 6, 7, 8, 9, 10, 11] (by decide) rfl) hS (lv_sub hl [2, 3, 4, 5, 6, 7, 1, 0] rfl)
            exact lp_58_22 9 (0 : Int32) (0 : Int32) H locs ls (by have e0 : (0 : Int32).toInt = 0 := (by decide); omega) (by have e0 : (0 : Int32).toInt = 0 := (by decide); omega) hP hD hS (lv_sub hl [2, 3, 4, 5, 6, 7, 1, 0] rfl)
          · have hc_19 := o_eq (rfl : r_15.toInt = r_15.toInt) (by decide : (1 : Int32).toInt = 1) c_19
            have hd_49 : Hd (r_15.toInt = 1 ∧ bt z_12 a = 1) := (Hd.un hp_17).resolve_right (fun z9 => by omega)
            have hd_49_0 : r_15.toInt = 1 := (Hd.un hd_49).1
            refine lv_iload hx hb dX5_ringOf_49 (lv_at hl 5 rfl) ?_
            refine o_wq hQ ?_
            exact q_iret (rm := (Rm 2 45 0 0)) C hS g_5 rfl (show (-1) ≤ x_4.toInt ∧ x_4.toInt ≤ 7 by omega) (q_subP hP [0, 1, 2, 3, 4, 5, 6, 7, 8, 9, 10, 11, 12, 13, 14, 15] rfl) (hD.sub [0, 1, 2, 3, 4, 5, 6, 7, 8, 9, 10, 11, 12, 13, 14, 15] (by decide) rfl) hroom.1 hroom.2 dX5_ringOf_51
  exact lp_17_5 9 z_1 (0 : Int32) g_2 H locs ls (by have e0 : (0 : Int32).toInt = 0 := (by decide); omega) (by have e0 : (0 : Int32).toInt = 0 := (by decide); omega) hP hD hS (lv_sub hl [2, 3, 4, 5, 1, 0] rfl)
theorem o_ringOf (l : Launch) (D : va_G) (cy : Nat → ClassId) (w : Nat) (h : Nat) (k : Nat) (a : Int32) (b : Int32) (w_way_ : Nat) (w_waySize : Int32) (w_tornSteps : Int32) (w_rings_ : Nat) (w_hanging_ : Nat) (w_costs_ : Nat) (w_way : Nat → Int32) (w_rings : Nat → Int32) (w_hanging : Nat → Int32) (w_costs : Nat → Int32) (h_wide : Int32) (h_high : Int32) (h_law : Int32) (h_spin : Int32) (h_line : Int32) (h_draught : Int32) (h_books : Int32) (h_rare : Int32) (h_quarrels_ : Nat) (h_nameSizes_ : Nat) (h_names_ : Nat) (h_quarrels : Nat → Int32) (h_nameSizes : Nat → Int32) (h_names : Nat → Int32) (k_x_ : Nat) (k_y_ : Nat) (k_web_ : Nat) (k_asks_ : Nat) (k_threads_ : Nat) (k_today : Int32) (k_day : Int32) (k_seen_ : Nat) (k_x : Nat → Int32) (k_y : Nat → Int32) (k_web : Nat → Int32) (k_asks : Nat → Int32) (k_threads : Nat → Int32) (k_seen : Nat → Int32) (sz : Nat) (hb0 : w_waySize.toInt ≤ 8) (hb1 : 0 ≤ h_wide.toInt ∧ h_wide.toInt ≤ 6) (hb2 : 0 ≤ h_high.toInt ∧ h_high.toInt ≤ 6) (hb3 : 0 ≤ h_books.toInt ∧ h_books.toInt ≤ 8) (hb4 : 0 ≤ a.toInt ∧ a.toInt ≤ 7) (hb5 : 0 ≤ b.toInt ∧ b.toInt ≤ 7) (hR0 : Rg w_way 0 8 0 7) (hR1 : Rg h_nameSizes 0 8 (-900) 7) (hR2 : Rg k_x 0 8 0 5) (hR3 : Rg k_y 0 8 0 5) : MI l yX5_ringOf cX5_ringOf 9 (some .int) (Rm 2 45 0 0) D cy [.ref w, .ref h, .ref k, .int a, .int b] sz [(w, .inr (5, [.ref w_way_, .int w_waySize, .int w_tornSteps, .ref w_rings_, .ref w_hanging_, .ref w_costs_])), (w_way_, .inl (cy 1, 8, .inl w_way)), (w_rings_, .inl (cy 1, 9, .inl w_rings)), (w_hanging_, .inl (cy 1, 36, .inl w_hanging)), (w_costs_, .inl (cy 1, 36, .inl w_costs)), (h, .inr (6, [.int h_wide, .int h_high, .int h_law, .int h_spin, .int h_line, .int h_draught, .int h_books, .int h_rare, .ref h_quarrels_, .ref h_nameSizes_, .ref h_names_])), (h_quarrels_, .inl (cy 1, 8, .inl h_quarrels)), (h_nameSizes_, .inl (cy 1, 8, .inl h_nameSizes)), (h_names_, .inl (cy 1, 56, .inl h_names)), (k, .inr (8, [.ref k_x_, .ref k_y_, .ref k_web_, .ref k_asks_, .ref k_threads_, .int k_today, .int k_day, .ref k_seen_])), (k_x_, .inl (cy 1, 8, .inl k_x)), (k_y_, .inl (cy 1, 8, .inl k_y)), (k_web_, .inl (cy 1, 8, .inl k_web)), (k_asks_, .inl (cy 1, 8, .inl k_asks)), (k_threads_, .inl (cy 1, 64, .inl k_threads)), (k_seen_, .inl (cy 1, 8, .inl k_seen))] (fun (r : Int32) (u : (Nat → Int32)) => ((-1) ≤ r.toInt ∧ r.toInt ≤ 7)) (fun u : (Nat → Int32) => [(w, .inr (5, [.ref w_way_, .int w_waySize, .int w_tornSteps, .ref w_rings_, .ref w_hanging_, .ref w_costs_])), (w_way_, .inl (cy 1, 8, .inl w_way)), (w_rings_, .inl (cy 1, 9, .inl u)), (w_hanging_, .inl (cy 1, 36, .inl w_hanging)), (w_costs_, .inl (cy 1, 36, .inl w_costs)), (h, .inr (6, [.int h_wide, .int h_high, .int h_law, .int h_spin, .int h_line, .int h_draught, .int h_books, .int h_rare, .ref h_quarrels_, .ref h_nameSizes_, .ref h_names_])), (h_quarrels_, .inl (cy 1, 8, .inl h_quarrels)), (h_nameSizes_, .inl (cy 1, 8, .inl h_nameSizes)), (h_names_, .inl (cy 1, 56, .inl h_names)), (k, .inr (8, [.ref k_x_, .ref k_y_, .ref k_web_, .ref k_asks_, .ref k_threads_, .int k_today, .int k_day, .ref k_seen_])), (k_x_, .inl (cy 1, 8, .inl k_x)), (k_y_, .inl (cy 1, 8, .inl k_y)), (k_web_, .inl (cy 1, 8, .inl k_web)), (k_asks_, .inl (cy 1, 8, .inl k_asks)), (k_threads_, .inl (cy 1, 64, .inl k_threads)), (k_seen_, .inl (cy 1, 8, .inl k_seen))]) := by
  refine MI.enter (by decide) (Nat.le_of_ble_eq_true rfl) ?_
  intro p e s m below meth c ls A hsz hAe C hP hD hS hl
  exact b_o_ringOf l D cy w h k a b w_way_ w_waySize w_tornSteps w_rings_ w_hanging_ w_costs_ w_way w_rings w_hanging w_costs h_wide h_high h_law h_spin h_line h_draught h_books h_rare h_quarrels_ h_nameSizes_ h_names_ h_quarrels h_nameSizes h_names k_x_ k_y_ k_web_ k_asks_ k_threads_ k_today k_day k_seen_ k_x k_y k_web k_asks k_threads k_seen hb0 hb1 hb2 hb3 hb4 hb5 hR0 hR1 hR2 hR3 ⟨Nat.le_of_ble_eq_true rfl, Nat.le_of_ble_eq_true rfl⟩ C rfl _ _ ls hP hD hS hl
set_option maxHeartbeats 4000000 in
set_option maxRecDepth 100000 in
theorem b_o_findWay (l : Launch) (D : va_G) (cy : Nat → ClassId) (w : Nat) (h : Nat) (k : Nat) (a : Int32) (b : Int32) (w_way_ : Nat) (w_waySize : Int32) (w_tornSteps : Int32) (w_rings_ : Nat) (w_hanging_ : Nat) (w_costs_ : Nat) (w_way : Nat → Int32) (w_rings : Nat → Int32) (w_hanging : Nat → Int32) (w_costs : Nat → Int32) (h_wide : Int32) (h_high : Int32) (h_law : Int32) (h_spin : Int32) (h_line : Int32) (h_draught : Int32) (h_books : Int32) (h_rare : Int32) (h_quarrels_ : Nat) (h_nameSizes_ : Nat) (h_names_ : Nat) (h_quarrels : Nat → Int32) (h_nameSizes : Nat → Int32) (h_names : Nat → Int32) (k_x_ : Nat) (k_y_ : Nat) (k_web_ : Nat) (k_asks_ : Nat) (k_threads_ : Nat) (k_today : Int32) (k_day : Int32) (k_seen_ : Nat) (k_x : Nat → Int32) (k_y : Nat → Int32) (k_web : Nat → Int32) (k_asks : Nat → Int32) (k_threads : Nat → Int32) (k_seen : Nat → Int32) (hb0 : w_waySize.toInt ≤ 8) (hb1 : 0 ≤ h_wide.toInt ∧ h_wide.toInt ≤ 6) (hb2 : 0 ≤ h_high.toInt ∧ h_high.toInt ≤ 6) (hb3 : 0 ≤ h_books.toInt ∧ h_books.toInt ≤ 8) (hb4 : 0 ≤ a.toInt ∧ a.toInt ≤ 7) (hb5 : 0 ≤ b.toInt ∧ b.toInt ≤ 7) (hR0 : Rg w_way 0 8 0 7) (hR1 : Rg h_nameSizes 0 8 (-900) 7) (hR2 : Rg k_x 0 8 0 5) (hR3 : Rg k_y 0 8 0 5) {p : Program} {e : Env} {s : State} {m : MethodId} {args : Array Value} {below : List Frame} {meth : Method} {c : Code} {A : Nat → Prop} {Q : State → Prop} {cells slots : Nat} (hroom : cells ≤ ((Rm 3 73 0 0)).cells ∧ slots ≤ ((Rm 3 73 0 0)).slots) (C : Cx p s m args meth c cX5_findWay 8 (some .int) RX5 "findWay" D cy A) (hQ : Q = MQ below (va_Qi (fun (r : Int32) (u : Int32 × (Nat → Int32) × (Nat → Int32)) => ((-1) ≤ r.toInt ∧ r.toInt ≤ 7) ∧ (u.1.toInt ≤ 8) ∧ (Rg u.2.1 0 8 0 7)) (Bx D A (fun u : Int32 × (Nat → Int32) × (Nat → Int32) => [(w, .inr (5, [.ref w_way_, .int u.1, .int w_tornSteps, .ref w_rings_, .ref w_hanging_, .ref w_costs_])), (w_way_, .inl (cy 1, 8, .inl u.2.1)), (w_rings_, .inl (cy 1, 9, .inl u.2.2)), (w_hanging_, .inl (cy 1, 36, .inl w_hanging)), (w_costs_, .inl (cy 1, 36, .inl w_costs)), (h, .inr (6, [.int h_wide, .int h_high, .int h_law, .int h_spin, .int h_line, .int h_draught, .int h_books, .int h_rare, .ref h_quarrels_, .ref h_nameSizes_, .ref h_names_])), (h_quarrels_, .inl (cy 1, 8, .inl h_quarrels)), (h_nameSizes_, .inl (cy 1, 8, .inl h_nameSizes)), (h_names_, .inl (cy 1, 56, .inl h_names)), (k, .inr (8, [.ref k_x_, .ref k_y_, .ref k_web_, .ref k_asks_, .ref k_threads_, .int k_today, .int k_day, .ref k_seen_])), (k_x_, .inl (cy 1, 8, .inl k_x)), (k_y_, .inl (cy 1, 8, .inl k_y)), (k_web_, .inl (cy 1, 8, .inl k_web)), (k_asks_, .inl (cy 1, 8, .inl k_asks)), (k_threads_, .inl (cy 1, 64, .inl k_threads)), (k_seen_, .inl (cy 1, 8, .inl k_seen))])) A) args s ((Rm 3 73 0 0)).cells ((Rm 3 73 0 0)).slots A) (H : Heap) (locs : List Loc) (ls : Array Slot) (hP : va_P D vwCl [(w, .inr (5, [.ref w_way_, .int w_waySize, .int w_tornSteps, .ref w_rings_, .ref w_hanging_, .ref w_costs_])), (w_way_, .inl (cy 1, 8, .inl w_way)), (w_rings_, .inl (cy 1, 9, .inl w_rings)), (w_hanging_, .inl (cy 1, 36, .inl w_hanging)), (w_costs_, .inl (cy 1, 36, .inl w_costs)), (h, .inr (6, [.int h_wide, .int h_high, .int h_law, .int h_spin, .int h_line, .int h_draught, .int h_books, .int h_rare, .ref h_quarrels_, .ref h_nameSizes_, .ref h_names_])), (h_quarrels_, .inl (cy 1, 8, .inl h_quarrels)), (h_nameSizes_, .inl (cy 1, 8, .inl h_nameSizes)), (h_names_, .inl (cy 1, 56, .inl h_names)), (k, .inr (8, [.ref k_x_, .ref k_y_, .ref k_web_, .ref k_asks_, .ref k_threads_, .int k_today, .int k_day, .ref k_seen_])), (k_x_, .inl (cy 1, 8, .inl k_x)), (k_y_, .inl (cy 1, 8, .inl k_y)), (k_web_, .inl (cy 1, 8, .inl k_web)), (k_asks_, .inl (cy 1, 8, .inl k_asks)), (k_threads_, .inl (cy 1, 64, .inl k_threads)), (k_seen_, .inl (cy 1, 8, .inl k_seen))] H) (hD : va_D A [(w, .inr (5, [.ref w_way_, .int w_waySize, .int w_tornSteps, .ref w_rings_, .ref w_hanging_, .ref w_costs_])), (w_way_, .inl (cy 1, 8, .inl w_way)), (w_rings_, .inl (cy 1, 9, .inl w_rings)), (w_hanging_, .inl (cy 1, 36, .inl w_hanging)), (w_costs_, .inl (cy 1, 36, .inl w_costs)), (h, .inr (6, [.int h_wide, .int h_high, .int h_law, .int h_spin, .int h_line, .int h_draught, .int h_books, .int h_rare, .ref h_quarrels_, .ref h_nameSizes_, .ref h_names_])), (h_quarrels_, .inl (cy 1, 8, .inl h_quarrels)), (h_nameSizes_, .inl (cy 1, 8, .inl h_nameSizes)), (h_names_, .inl (cy 1, 56, .inl h_names)), (k, .inr (8, [.ref k_x_, .ref k_y_, .ref k_web_, .ref k_asks_, .ref k_threads_, .int k_today, .int k_day, .ref k_seen_])), (k_x_, .inl (cy 1, 8, .inl k_x)), (k_y_, .inl (cy 1, 8, .inl k_y)), (k_web_, .inl (cy 1, 8, .inl k_web)), (k_asks_, .inl (cy 1, 8, .inl k_asks)), (k_threads_, .inl (cy 1, 64, .inl k_threads)), (k_seen_, .inl (cy 1, 8, .inl k_seen))]) (hS : va_S A s.heap H locs) (hl : lv_has ls 8 [(0, .ref w), (1, .ref h), (2, .ref k), (3, .int a), (4, .int b)]) : W p l e (Rm 3 73 0 0) s m args below meth c H locs cells slots Q (F0 m 0 ls []) := by
  have hx := C.1
  have hb := C.2.1
  refine lv_aload_n hx hb dX5_findWay_0 rfl (lv_at hl 0 rfl) ?_
  refine lv_aload_n hx hb dX5_findWay_1 rfl (lv_at hl 1 rfl) ?_
  refine lv_aload_n hx hb dX5_findWay_2 rfl (lv_at hl 2 rfl) ?_
  refine lv_iload_n hx hb dX5_findWay_3 rfl (lv_at hl 3 rfl) ?_
  refine lv_iload hx hb dX5_findWay_4 (lv_at hl 4 rfl) ?_
  refine q_ai (wr := []) (r_V (rm := (Rm 2 45 0 0)) (q0 := 0) (As := [.ref h, .ref k, .int a, .int b]) (rest := []) (wc := [(w, .inr (5, [.ref w_way_, .int w_waySize, .int w_tornSteps, .ref w_rings_, .ref w_hanging_, .ref w_costs_])), (w_way_, .inl (cy 1, 8, .inl w_way)), (w_rings_, .inl (cy 1, 9, .inl w_rings)), (w_hanging_, .inl (cy 1, 36, .inl w_hanging)), (w_costs_, .inl (cy 1, 36, .inl w_costs)), (h, .inr (6, [.int h_wide, .int h_high, .int h_law, .int h_spin, .int h_line, .int h_draught, .int h_books, .int h_rare, .ref h_quarrels_, .ref h_nameSizes_, .ref h_names_])), (h_quarrels_, .inl (cy 1, 8, .inl h_quarrels)), (h_nameSizes_, .inl (cy 1, 8, .inl h_nameSizes)), (h_names_, .inl (cy 1, 56, .inl h_names)), (k, .inr (8, [.ref k_x_, .ref k_y_, .ref k_web_, .ref k_asks_, .ref k_threads_, .int k_today, .int k_day, .ref k_seen_])), (k_x_, .inl (cy 1, 8, .inl k_x)), (k_y_, .inl (cy 1, 8, .inl k_y)), (k_web_, .inl (cy 1, 8, .inl k_web)), (k_asks_, .inl (cy 1, 8, .inl k_asks)), (k_threads_, .inl (cy 1, 64, .inl k_threads)), (k_seen_, .inl (cy 1, 8, .inl k_seen))]) C hS (q_subP hP [0, 1, 2, 3, 4, 5, 6, 7, 8, 9, 10, 11, 12, 13, 14, 15] rfl) (hD.sub [0, 1, 2, 3, 4, 5, 6, 7, 8, 9, 10, 11, 12, 13, 14, 15] (by decide) rfl) (o_ringOf l D cy w h k a b w_way_ w_waySize w_tornSteps w_rings_ w_hanging_ w_costs_ w_way w_rings w_hanging w_costs h_wide h_high h_law h_spin h_line h_draught h_books h_rare h_quarrels_ h_nameSizes_ h_names_ h_quarrels h_nameSizes h_names k_x_ k_y_ k_web_ k_asks_ k_threads_ k_today k_day k_seen_ k_x k_y k_web k_asks k_threads k_seen _ (by omega) (by omega) (by omega) (by omega) (by omega) (by omega) hR0 hR1 hR2 hR3) kwV_X5_ringOf kM_RX5_31 rfl rfl ⟨Nat.le_of_ble_eq_true rfl, Nat.le_of_ble_eq_true rfl⟩ rfl hl.1 rfl (Nat.le_of_ble_eq_true rfl) dX5_findWay_6 ⟨hroom.1, hroom.2⟩) C.2.2.2.2.2.2.1 hP hD hS [0, 1, 2, 3, 4, 5, 6, 7, 8, 9, 10, 11, 12, 13, 14, 15] [] rfl rfl (by decide) (by decide) (fun r_2 u_1 H locs hw_3 hP hD hS => ?_)
  obtain ⟨g_4, rfl⟩ : ∃ z, z = u_1 := ⟨_, rfl⟩
  have hP : va_P D vwCl [(w, .inr (5, [.ref w_way_, .int w_waySize, .int w_tornSteps, .ref w_rings_, .ref w_hanging_, .ref w_costs_])), (w_way_, .inl (cy 1, 8, .inl w_way)), (w_rings_, .inl (cy 1, 9, .inl g_4)), (w_hanging_, .inl (cy 1, 36, .inl w_hanging)), (w_costs_, .inl (cy 1, 36, .inl w_costs)), (h, .inr (6, [.int h_wide, .int h_high, .int h_law, .int h_spin, .int h_line, .int h_draught, .int h_books, .int h_rare, .ref h_quarrels_, .ref h_nameSizes_, .ref h_names_])), (h_quarrels_, .inl (cy 1, 8, .inl h_quarrels)), (h_nameSizes_, .inl (cy 1, 8, .inl h_nameSizes)), (h_names_, .inl (cy 1, 56, .inl h_names)), (k, .inr (8, [.ref k_x_, .ref k_y_, .ref k_web_, .ref k_asks_, .ref k_threads_, .int k_today, .int k_day, .ref k_seen_])), (k_x_, .inl (cy 1, 8, .inl k_x)), (k_y_, .inl (cy 1, 8, .inl k_y)), (k_web_, .inl (cy 1, 8, .inl k_web)), (k_asks_, .inl (cy 1, 8, .inl k_asks)), (k_threads_, .inl (cy 1, 64, .inl k_threads)), (k_seen_, .inl (cy 1, 8, .inl k_seen))] H := hP
  have hD : va_D A [(w, .inr (5, [.ref w_way_, .int w_waySize, .int w_tornSteps, .ref w_rings_, .ref w_hanging_, .ref w_costs_])), (w_way_, .inl (cy 1, 8, .inl w_way)), (w_rings_, .inl (cy 1, 9, .inl g_4)), (w_hanging_, .inl (cy 1, 36, .inl w_hanging)), (w_costs_, .inl (cy 1, 36, .inl w_costs)), (h, .inr (6, [.int h_wide, .int h_high, .int h_law, .int h_spin, .int h_line, .int h_draught, .int h_books, .int h_rare, .ref h_quarrels_, .ref h_nameSizes_, .ref h_names_])), (h_quarrels_, .inl (cy 1, 8, .inl h_quarrels)), (h_nameSizes_, .inl (cy 1, 8, .inl h_nameSizes)), (h_names_, .inl (cy 1, 56, .inl h_names)), (k, .inr (8, [.ref k_x_, .ref k_y_, .ref k_web_, .ref k_asks_, .ref k_threads_, .int k_today, .int k_day, .ref k_seen_])), (k_x_, .inl (cy 1, 8, .inl k_x)), (k_y_, .inl (cy 1, 8, .inl k_y)), (k_web_, .inl (cy 1, 8, .inl k_web)), (k_asks_, .inl (cy 1, 8, .inl k_asks)), (k_threads_, .inl (cy 1, 64, .inl k_threads)), (k_seen_, .inl (cy 1, 8, .inl k_seen))] := hD
  have hp_4 : (-1) ≤ r_2.toInt ∧ r_2.toInt ≤ 7 := hw_3
  refine lv_istore (lv' := [(5, .int r_2), (0, .ref w), (1, .ref h), (2, .ref k), (3, .int a), (4, .int b)]) hx hb dX5_findWay_9 hl (by decide) rfl (fun ls hl => ?_)
  refine lv_iload hx hb dX5_findWay_11 (lv_at hl 0 rfl) ?_
  refine lv_iconst (v := (-1)) hx hb dX5_findWay_13 (by decide) ?_
  refine lv_icmp_ne (tgt := 19) hx hb dX5_findWay_14 (by decide) (fun c_6 => ?_) (fun c_6 => ?_)
  · have hc_6 := o_ne (rfl : r_2.toInt = r_2.toInt) (by decide : ((-1) : Int32).toInt = -1) c_6
    have hnc_6 : 0 ≤ r_2.toInt := by rcases Int.lt_or_gt_of_ne hc_6 with h9 | h9 <;> omega
    refine lv_aload_n hx hb dX5_findWay_19 rfl (lv_at hl 1 rfl) ?_
    refine q_get (v := .ref w_way_) C hP 0 0 rfl rfl inX5 (by decide) kF_RX5_9 rfl rfl dX5_findWay_20 ?_
    refine lv_iconst (v := 0) hx hb dX5_findWay_23 (by decide) ?_
    refine lv_iload_n hx hb dX5_findWay_24 rfl (lv_at hl 4 rfl) ?_
    refine q_iast (g := upd w_way 0 a) (w' := [(w, .inr (5, [.ref w_way_, .int w_waySize, .int w_tornSteps, .ref w_rings_, .ref w_hanging_, .ref w_costs_])), (w_way_, .inl (cy 1, 8, .inl (upd w_way 0 a))), (w_rings_, .inl (cy 1, 9, .inl g_4)), (w_hanging_, .inl (cy 1, 36, .inl w_hanging)), (w_costs_, .inl (cy 1, 36, .inl w_costs)), (h, .inr (6, [.int h_wide, .int h_high, .int h_law, .int h_spin, .int h_line, .int h_draught, .int h_books, .int h_rare, .ref h_quarrels_, .ref h_nameSizes_, .ref h_names_])), (h_quarrels_, .inl (cy 1, 8, .inl h_quarrels)), (h_nameSizes_, .inl (cy 1, 8, .inl h_nameSizes)), (h_names_, .inl (cy 1, 56, .inl h_names)), (k, .inr (8, [.ref k_x_, .ref k_y_, .ref k_web_, .ref k_asks_, .ref k_threads_, .int k_today, .int k_day, .ref k_seen_])), (k_x_, .inl (cy 1, 8, .inl k_x)), (k_y_, .inl (cy 1, 8, .inl k_y)), (k_web_, .inl (cy 1, 8, .inl k_web)), (k_asks_, .inl (cy 1, 8, .inl k_asks)), (k_threads_, .inl (cy 1, 64, .inl k_threads)), (k_seen_, .inl (cy 1, 8, .inl k_seen))]) C hP hD hS 1 rfl (vin (by decide +kernel)) rfl rfl dX5_findWay_25 (fun H locs hP hD hS => ?_)
    have Rg_7_0 := Rg.upd_in (k := 0) (v := a) hR0 (by omega) (by omega)
    generalize upd w_way 0 a = g_7 at hP hD Rg_7_0
    have hP : va_P D vwCl [(w, .inr (5, [.ref w_way_, .int w_waySize, .int w_tornSteps, .ref w_rings_, .ref w_hanging_, .ref w_costs_])), (w_way_, .inl (cy 1, 8, .inl g_7)), (w_rings_, .inl (cy 1, 9, .inl g_4)), (w_hanging_, .inl (cy 1, 36, .inl w_hanging)), (w_costs_, .inl (cy 1, 36, .inl w_costs)), (h, .inr (6, [.int h_wide, .int h_high, .int h_law, .int h_spin, .int h_line, .int h_draught, .int h_books, .int h_rare, .ref h_quarrels_, .ref h_nameSizes_, .ref h_names_])), (h_quarrels_, .inl (cy 1, 8, .inl h_quarrels)), (h_nameSizes_, .inl (cy 1, 8, .inl h_nameSizes)), (h_names_, .inl (cy 1, 56, .inl h_names)), (k, .inr (8, [.ref k_x_, .ref k_y_, .ref k_web_, .ref k_asks_, .ref k_threads_, .int k_today, .int k_day, .ref k_seen_])), (k_x_, .inl (cy 1, 8, .inl k_x)), (k_y_, .inl (cy 1, 8, .inl k_y)), (k_web_, .inl (cy 1, 8, .inl k_web)), (k_asks_, .inl (cy 1, 8, .inl k_asks)), (k_threads_, .inl (cy 1, 64, .inl k_threads)), (k_seen_, .inl (cy 1, 8, .inl k_seen))] H := hP
    have hD : va_D A [(w, .inr (5, [.ref w_way_, .int w_waySize, .int w_tornSteps, .ref w_rings_, .ref w_hanging_, .ref w_costs_])), (w_way_, .inl (cy 1, 8, .inl g_7)), (w_rings_, .inl (cy 1, 9, .inl g_4)), (w_hanging_, .inl (cy 1, 36, .inl w_hanging)), (w_costs_, .inl (cy 1, 36, .inl w_costs)), (h, .inr (6, [.int h_wide, .int h_high, .int h_law, .int h_spin, .int h_line, .int h_draught, .int h_books, .int h_rare, .ref h_quarrels_, .ref h_nameSizes_, .ref h_names_])), (h_quarrels_, .inl (cy 1, 8, .inl h_quarrels)), (h_nameSizes_, .inl (cy 1, 8, .inl h_nameSizes)), (h_names_, .inl (cy 1, 56, .inl h_names)), (k, .inr (8, [.ref k_x_, .ref k_y_, .ref k_web_, .ref k_asks_, .ref k_threads_, .int k_today, .int k_day, .ref k_seen_])), (k_x_, .inl (cy 1, 8, .inl k_x)), (k_y_, .inl (cy 1, 8, .inl k_y)), (k_web_, .inl (cy 1, 8, .inl k_web)), (k_asks_, .inl (cy 1, 8, .inl k_asks)), (k_threads_, .inl (cy 1, 64, .inl k_threads)), (k_seen_, .inl (cy 1, 8, .inl k_seen))] := hD
    refine lv_iconst (v := 1) hx hb dX5_findWay_26 (by decide) ?_
    refine lv_istore (lv' := [(6, .int 1), (5, .int r_2), (0, .ref w), (1, .ref h), (2, .ref k), (3, .int a), (4, .int b)]) hx hb dX5_findWay_27 hl (by decide) rfl (fun ls hl => ?_)
    have lp_29_9 : ∀ (n_10 : Nat) (x_8 : Int32) (g_9 : Nat → Int32) (H : Heap) (locs : List Loc) (ls : Array Slot), (-1) * x_8.toInt + 8 < (n_10 : Int) → (1 ≤ x_8.toInt ∧ x_8.toInt ≤ 8) → Rg g_9 0 8 0 7 → va_P D vwCl [(w, .inr (5, [.ref w_way_, .int w_waySize, .int w_tornSteps, .ref w_rings_, .ref w_hanging_, .ref w_costs_])), (w_way_, .inl (cy 1, 8, .inl g_9)), (w_rings_, .inl (cy 1, 9, .inl g_4)), (w_hanging_, .inl (cy 1, 36, .inl w_hanging)), (w_costs_, .inl (cy 1, 36, .inl w_costs)), (h, .inr (6, [.int h_wide, .int h_high, .int h_law, .int h_spin, .int h_line, .int h_draught, .int h_books, .int h_rare, .ref h_quarrels_, .ref h_nameSizes_, .ref h_names_])), (h_quarrels_, .inl (cy 1, 8, .inl h_quarrels)), (h_nameSizes_, .inl (cy 1, 8, .inl h_nameSizes)), (h_names_, .inl (cy 1, 56, .inl h_names)), (k, .inr (8, [.ref k_x_, .ref k_y_, .ref k_web_, .ref k_asks_, .ref k_threads_, .int k_today, .int k_day, .ref k_seen_])), (k_x_, .inl (cy 1, 8, .inl k_x)), (k_y_, .inl (cy 1, 8, .inl k_y)), (k_web_, .inl (cy 1, 8, .inl k_web)), (k_asks_, .inl (cy 1, 8, .inl k_asks)), (k_threads_, .inl (cy 1, 64, .inl k_threads)), (k_seen_, .inl (cy 1, 8, .inl k_seen))] H → va_D A [(w, .inr (5, [.ref w_way_, .int w_waySize, .int w_tornSteps, .ref w_rings_, .ref w_hanging_, .ref w_costs_])), (w_way_, .inl (cy 1, 8, .inl g_9)), (w_rings_, .inl (cy 1, 9, .inl g_4)), (w_hanging_, .inl (cy 1, 36, .inl w_hanging)), (w_costs_, .inl (cy 1, 36, .inl w_costs)), (h, .inr (6, [.int h_wide, .int h_high, .int h_law, .int h_spin, .int h_line, .int h_draught, .int h_books, .int h_rare, .ref h_quarrels_, .ref h_nameSizes_, .ref h_names_])), (h_quarrels_, .inl (cy 1, 8, .inl h_quarrels)), (h_nameSizes_, .inl (cy 1, 8, .inl h_nameSizes)), (h_names_, .inl (cy 1, 56, .inl h_names)), (k, .inr (8, [.ref k_x_, .ref k_y_, .ref k_web_, .ref k_asks_, .ref k_threads_, .int k_today, .int k_day, .ref k_seen_])), (k_x_, .inl (cy 1, 8, .inl k_x)), (k_y_, .inl (cy 1, 8, .inl k_y)), (k_web_, .inl (cy 1, 8, .inl k_web)), (k_asks_, .inl (cy 1, 8, .inl k_asks)), (k_threads_, .inl (cy 1, 64, .inl k_threads)), (k_seen_, .inl (cy 1, 8, .inl k_seen))] → va_S A s.heap H locs → lv_has ls 8 [(0, .ref w), (1, .ref h), (2, .ref k), (5, .int r_2), (6, .int x_8)] → W p l e (Rm 3 73 0 0) s m args below meth c H locs cells slots Q (F0 m 29 ls []) := by
      intro n_10
      induction n_10 with
      | zero =>
        intro x_8 g_9 H locs ls hm_13 hf_11 hg_12 hP hD hS hl
        exact absurd hm_13 (by omega)
      | succ n_10 ih_14 =>
        intro x_8 g_9 H locs ls hm_13 hf_11 hg_12 hP hD hS hl
        refine lv_iload hx hb dX5_findWay_29 (lv_at hl 4 rfl) ?_
        refine lv_iload hx hb dX5_findWay_31 (lv_at hl 3 rfl) ?_
        refine lv_icmp_gt (tgt := 93) hx hb dX5_findWay_33 (by decide) (fun c_16 => ?_) (fun c_16 => ?_)
        · have hc_16 := o_lt (rfl : r_2.toInt = r_2.toInt) (rfl : x_8.toInt = x_8.toInt) c_16
          refine lv_aload_n hx hb dX5_findWay_93 rfl (lv_at hl 0 rfl) ?_
          refine lv_iload hx hb dX5_findWay_94 (lv_at hl 3 rfl) ?_
          refine lv_iconst (v := 1) hx hb dX5_findWay_96 (by decide) ?_
          refine lv_iadd hx hb dX5_findWay_97 ?_
          refine lv_topi (fun z_17 hz_17 => ?_)
          have hz_17 := o_add hz_17 (rfl : r_2.toInt = r_2.toInt) (by decide : (1 : Int32).toInt = 1) (by omega) (by omega)
          refine q_put (v := .int z_17) (w' := [(w, .inr (5, [.ref w_way_, .int z_17, .int w_tornSteps, .ref w_rings_, .ref w_hanging_, .ref w_costs_])), (w_way_, .inl (cy 1, 8, .inl g_9)), (w_rings_, .inl (cy 1, 9, .inl g_4)), (w_hanging_, .inl (cy 1, 36, .inl w_hanging)), (w_costs_, .inl (cy 1, 36, .inl w_costs)), (h, .inr (6, [.int h_wide, .int h_high, .int h_law, .int h_spin, .int h_line, .int h_draught, .int h_books, .int h_rare, .ref h_quarrels_, .ref h_nameSizes_, .ref h_names_])), (h_quarrels_, .inl (cy 1, 8, .inl h_quarrels)), (h_nameSizes_, .inl (cy 1, 8, .inl h_nameSizes)), (h_names_, .inl (cy 1, 56, .inl h_names)), (k, .inr (8, [.ref k_x_, .ref k_y_, .ref k_web_, .ref k_asks_, .ref k_threads_, .int k_today, .int k_day, .ref k_seen_])), (k_x_, .inl (cy 1, 8, .inl k_x)), (k_y_, .inl (cy 1, 8, .inl k_y)), (k_web_, .inl (cy 1, 8, .inl k_web)), (k_asks_, .inl (cy 1, 8, .inl k_asks)), (k_threads_, .inl (cy 1, 64, .inl k_threads)), (k_seen_, .inl (cy 1, 8, .inl k_seen))]) (ty := .int) C hP hD hS 0 1 rfl rfl inX5 tyX5 tyX5_ok nmX5 (by decide) kF_RX5_15 rfl rfl rfl rfl rfl (Nat.le_of_ble_eq_true rfl) rfl dX5_findWay_98 (fun H locs hP hD hS => ?_)
          refine lv_iload hx hb dX5_findWay_101 (lv_at hl 3 rfl) ?_
          refine o_wq hQ ?_
          exact q_iret (rm := (Rm 3 73 0 0)) C hS (z_17, g_9, g_4) rfl ⟨(show (-1) ≤ r_2.toInt ∧ r_2.toInt ≤ 7 by omega), (show z_17.toInt ≤ 8 by omega), hg_12⟩ (q_subP hP [0, 1, 2, 3, 4, 5, 6, 7, 8, 9, 10, 11, 12, 13, 14, 15] rfl) (hD.sub [0, 1, 2, 3, 4, 5, 6, 7, 8, 9, 10, 11, 12, 13, 14, 15] (by decide) rfl) hroom.1 hroom.2 dX5_findWay_103
        · have hc_16 := o_nlt (rfl : r_2.toInt = r_2.toInt) (rfl : x_8.toInt = x_8.toInt) c_16
          refine lv_iload hx hb dX5_findWay_36 (lv_at hl 4 rfl) ?_
          refine lv_bipush (v := 8) hx hb dX5_findWay_38 (by decide) ?_
          refine lv_icmp_ge (tgt := 93) hx hb dX5_findWay_40 (by decide) (fun c_0 => absurd c_0 (o_mnle (by decide : (8 : Int32).toInt = 8) (rfl : x_8.toInt = x_8.toInt) (by omega))) (fun _ => ?_)
          refine lv_aload_n hx hb dX5_findWay_43 rfl (lv_at hl 2 rfl) ?_
          refine lv_aload_n hx hb dX5_findWay_44 rfl (lv_at hl 1 rfl) ?_
          refine lv_aload_n hx hb dX5_findWay_45 rfl (lv_at hl 0 rfl) ?_
          refine q_get (v := .ref w_way_) C hP 0 0 rfl rfl inX5 (by decide) kF_RX5_9 rfl rfl dX5_findWay_46 ?_
          refine lv_iload hx hb dX5_findWay_49 (lv_at hl 4 rfl) ?_
          refine lv_iconst (v := 1) hx hb dX5_findWay_51 (by decide) ?_
          refine lv_isub hx hb dX5_findWay_52 ?_
          refine lv_topi (fun z_18 hz_18 => ?_)
          have hz_18 := o_sub hz_18 (rfl : x_8.toInt = x_8.toInt) (by decide : (1 : Int32).toInt = 1) (by omega) (by omega)
          refine q_iald (v := g_9 z_18.toNatClampNeg) C hP 1 rfl (o_in (rfl : z_18.toInt = z_18.toInt) (by omega) (by omega)) rfl dX5_findWay_53 ?_
          refine lv_topi (fun z_19 ez_19 => ?_)
          have hz_19 := Rg.at hg_12 ez_19 (by have := o_cl (rfl : z_18.toInt = z_18.toInt) (by omega); omega) (by have := o_cl (rfl : z_18.toInt = z_18.toInt) (by omega); omega)
          refine q_ai (wr := [(w, .inr (5, [.ref w_way_, .int w_waySize, .int w_tornSteps, .ref w_rings_, .ref w_hanging_, .ref w_costs_])), (w_way_, .inl (cy 1, 8, .inl g_9)), (w_rings_, .inl (cy 1, 9, .inl g_4)), (w_hanging_, .inl (cy 1, 36, .inl w_hanging)), (w_costs_, .inl (cy 1, 36, .inl w_costs))]) (r_V (rm := (Rm 1 21 0 0)) (q0 := 0) (As := [.ref h, .int z_19]) (rest := []) (wc := [(k, .inr (8, [.ref k_x_, .ref k_y_, .ref k_web_, .ref k_asks_, .ref k_threads_, .int k_today, .int k_day, .ref k_seen_])), (k_x_, .inl (cy 1, 8, .inl k_x)), (k_y_, .inl (cy 1, 8, .inl k_y)), (k_web_, .inl (cy 1, 8, .inl k_web)), (k_asks_, .inl (cy 1, 8, .inl k_asks)), (k_threads_, .inl (cy 1, 64, .inl k_threads)), (k_seen_, .inl (cy 1, 8, .inl k_seen)), (h, .inr (6, [.int h_wide, .int h_high, .int h_law, .int h_spin, .int h_line, .int h_draught, .int h_books, .int h_rare, .ref h_quarrels_, .ref h_nameSizes_, .ref h_names_])), (h_quarrels_, .inl (cy 1, 8, .inl h_quarrels)), (h_nameSizes_, .inl (cy 1, 8, .inl h_nameSizes)), (h_names_, .inl (cy 1, 56, .inl h_names))]) C hS (q_subP hP [9, 10, 11, 12, 13, 14, 15, 5, 6, 7, 8] rfl) (hD.sub [9, 10, 11, 12, 13, 14, 15, 5, 6, 7, 8] (by decide) rfl) (o_linesOf l D cy k h z_19 k_x_ k_y_ k_web_ k_asks_ k_threads_ k_today k_day k_seen_ k_x k_y k_web k_asks k_threads k_seen h_wide h_high h_law h_spin h_line h_draught h_books h_rare h_quarrels_ h_nameSizes_ h_names_ h_quarrels h_nameSizes h_names _ (by omega) (by omega) (by omega) (by omega) hR2 hR3 hR1) kwV_X8_linesOf kM_RX5_35 rfl rfl ⟨Nat.le_of_ble_eq_true rfl, Nat.le_of_ble_eq_true rfl⟩ rfl hl.1 rfl (Nat.le_of_ble_eq_true rfl) dX5_findWay_54 ⟨hroom.1, hroom.2⟩) C.2.2.2.2.2.2.1 hP hD hS [9, 10, 11, 12, 13, 14, 15, 5, 6, 7, 8] [0, 1, 2, 3, 4] rfl rfl (by decide) (by decide) (fun r_21 u_20 H locs hw_22 hP hD hS => ?_)
          refine lv_aload_n hx hb dX5_findWay_57 rfl (lv_at hl 0 rfl) ?_
          refine q_get (v := .ref w_rings_) C hP 0 3 rfl rfl inX5 (by decide) kF_RX5_22 rfl rfl dX5_findWay_58 ?_
          refine lv_iload hx hb dX5_findWay_61 (lv_at hl 3 rfl) ?_
          refine lv_iload hx hb dX5_findWay_63 (lv_at hl 4 rfl) ?_
          refine lv_isub hx hb dX5_findWay_65 ?_
          refine lv_topi (fun z_23 hz_23 => ?_)
          have hz_23 := o_sub hz_23 (rfl : r_2.toInt = r_2.toInt) (rfl : x_8.toInt = x_8.toInt) (by omega) (by omega)
          refine q_iald (v := g_4 z_23.toNatClampNeg) C hP 2 rfl (o_in (rfl : z_23.toInt = z_23.toInt) (by omega) (by omega)) rfl dX5_findWay_66 ?_
          refine lv_topi (fun z_24 ez_24 => ?_)
          refine lv_iand hx hb dX5_findWay_67 ?_
          refine lv_topi (fun z_25 hz_25 => ?_)
          clear hz_25
          refine lv_istore (lv' := [(7, .int z_25), (0, .ref w), (1, .ref h), (2, .ref k), (5, .int r_2), (6, .int x_8)]) hx hb dX5_findWay_68 hl (by decide) rfl (fun ls hl => ?_)
          refine lv_aload_n hx hb dX5_findWay_70 rfl (lv_at hl 1 rfl) ?_
          refine q_get (v := .ref w_way_) C hP 0 0 rfl rfl inX5 (by decide) kF_RX5_9 rfl rfl dX5_findWay_71 ?_
          refine lv_iload hx hb dX5_findWay_74 (lv_at hl 5 rfl) ?_
          refine lv_iconst (v := 0) hx hb dX5_findWay_76 (by decide) ?_
          refine lv_iload hx hb dX5_findWay_77 (lv_at hl 0 rfl) ?_
          refine lv_iconst (v := 0) hx hb dX5_findWay_79 (by decide) ?_
          refine q_ai (wr := [(w, .inr (5, [.ref w_way_, .int w_waySize, .int w_tornSteps, .ref w_rings_, .ref w_hanging_, .ref w_costs_])), (w_way_, .inl (cy 1, 8, .inl g_9)), (w_rings_, .inl (cy 1, 9, .inl g_4)), (w_hanging_, .inl (cy 1, 36, .inl w_hanging)), (w_costs_, .inl (cy 1, 36, .inl w_costs)), (k, .inr (8, [.ref k_x_, .ref k_y_, .ref k_web_, .ref k_asks_, .ref k_threads_, .int k_today, .int k_day, .ref k_seen_])), (k_x_, .inl (cy 1, 8, .inl k_x)), (k_y_, .inl (cy 1, 8, .inl k_y)), (k_web_, .inl (cy 1, 8, .inl k_web)), (k_asks_, .inl (cy 1, 8, .inl k_asks)), (k_threads_, .inl (cy 1, 64, .inl k_threads)), (k_seen_, .inl (cy 1, 8, .inl k_seen)), (h, .inr (6, [.int h_wide, .int h_high, .int h_law, .int h_spin, .int h_line, .int h_draught, .int h_books, .int h_rare, .ref h_quarrels_, .ref h_nameSizes_, .ref h_names_])), (h_quarrels_, .inl (cy 1, 8, .inl h_quarrels)), (h_nameSizes_, .inl (cy 1, 8, .inl h_nameSizes)), (h_names_, .inl (cy 1, 56, .inl h_names))]) (r_SN (rm := (Rm 1 21 0 0)) (As := [.int z_25, .int 0]) (rest := [.int 0, .int x_8, .ref w_way_]) (wc := []) C hS (q_subP hP [] rfl) (hD.sub [] (by decide) rfl) (o_bookOf l D cy z_25 0 _ ) kwS_X10_bookOf kN_RX5_41 ⟨Nat.le_of_ble_eq_true rfl, Nat.le_of_ble_eq_true rfl⟩ rfl hl.1 rfl (Nat.le_of_ble_eq_true rfl) dX5_findWay_80 ⟨hroom.1, hroom.2⟩) C.2.2.2.2.2.2.1 hP hD hS [] [0, 1, 2, 3, 4, 5, 6, 7, 8, 9, 10, 11, 12, 13, 14, 15] rfl rfl (by decide) (by decide) (fun r_27 u_26 H locs hw_28 hP hD hS => ?_)
          have hp_28 : (-1) ≤ r_27.toInt ∧ r_27.toInt ≤ 7 := hw_28
          refine q_mmax C hl.1 kM_RX5_45 (Nat.le_of_ble_eq_true rfl) (Nat.le_of_ble_eq_true rfl) hroom.1 hroom.2 dX5_findWay_83 ?_
          refine lv_topi (fun z_30 hz_30 => ?_)
          have hz_30 := o_max hz_30 (by decide : (0 : Int32).toInt = 0) (rfl : r_27.toInt = r_27.toInt)
          refine q_iast (g := upd g_9 x_8.toNatClampNeg z_30) (w' := [(w, .inr (5, [.ref w_way_, .int w_waySize, .int w_tornSteps, .ref w_rings_, .ref w_hanging_, .ref w_costs_])), (w_way_, .inl (cy 1, 8, .inl (upd g_9 x_8.toNatClampNeg z_30))), (w_rings_, .inl (cy 1, 9, .inl g_4)), (w_hanging_, .inl (cy 1, 36, .inl w_hanging)), (w_costs_, .inl (cy 1, 36, .inl w_costs)), (k, .inr (8, [.ref k_x_, .ref k_y_, .ref k_web_, .ref k_asks_, .ref k_threads_, .int k_today, .int k_day, .ref k_seen_])), (k_x_, .inl (cy 1, 8, .inl k_x)), (k_y_, .inl (cy 1, 8, .inl k_y)), (k_web_, .inl (cy 1, 8, .inl k_web)), (k_asks_, .inl (cy 1, 8, .inl k_asks)), (k_threads_, .inl (cy 1, 64, .inl k_threads)), (k_seen_, .inl (cy 1, 8, .inl k_seen)), (h, .inr (6, [.int h_wide, .int h_high, .int h_law, .int h_spin, .int h_line, .int h_draught, .int h_books, .int h_rare, .ref h_quarrels_, .ref h_nameSizes_, .ref h_names_])), (h_quarrels_, .inl (cy 1, 8, .inl h_quarrels)), (h_nameSizes_, .inl (cy 1, 8, .inl h_nameSizes)), (h_names_, .inl (cy 1, 56, .inl h_names))]) C hP hD hS 1 rfl (o_in (rfl : x_8.toInt = x_8.toInt) (by omega) (by omega)) rfl rfl dX5_findWay_86 (fun H locs hP hD hS => ?_)
          have Rg_31_0 := Rg.upd_in (k := x_8.toNatClampNeg) (v := z_30) hg_12 (by omega) (by omega)
          generalize upd g_9 x_8.toNatClampNeg z_30 = g_31 at hP hD Rg_31_0
          have hP : va_P D vwCl [(w, .inr (5, [.ref w_way_, .int w_waySize, .int w_tornSteps, .ref w_rings_, .ref w_hanging_, .ref w_costs_])), (w_way_, .inl (cy 1, 8, .inl g_31)), (w_rings_, .inl (cy 1, 9, .inl g_4)), (w_hanging_, .inl (cy 1, 36, .inl w_hanging)), (w_costs_, .inl (cy 1, 36, .inl w_costs)), (k, .inr (8, [.ref k_x_, .ref k_y_, .ref k_web_, .ref k_asks_, .ref k_threads_, .int k_today, .int k_day, .ref k_seen_])), (k_x_, .inl (cy 1, 8, .inl k_x)), (k_y_, .inl (cy 1, 8, .inl k_y)), (k_web_, .inl (cy 1, 8, .inl k_web)), (k_asks_, .inl (cy 1, 8, .inl k_asks)), (k_threads_, .inl (cy 1, 64, .inl k_threads)), (k_seen_, .inl (cy 1, 8, .inl k_seen)), (h, .inr (6, [.int h_wide, .int h_high, .int h_law, .int h_spin, .int h_line, .int h_draught, .int h_books, .int h_rare, .ref h_quarrels_, .ref h_nameSizes_, .ref h_names_])), (h_quarrels_, .inl (cy 1, 8, .inl h_quarrels)), (h_nameSizes_, .inl (cy 1, 8, .inl h_nameSizes)), (h_names_, .inl (cy 1, 56, .inl h_names))] H := hP
          have hD : va_D A [(w, .inr (5, [.ref w_way_, .int w_waySize, .int w_tornSteps, .ref w_rings_, .ref w_hanging_, .ref w_costs_])), (w_way_, .inl (cy 1, 8, .inl g_31)), (w_rings_, .inl (cy 1, 9, .inl g_4)), (w_hanging_, .inl (cy 1, 36, .inl w_hanging)), (w_costs_, .inl (cy 1, 36, .inl w_costs)), (k, .inr (8, [.ref k_x_, .ref k_y_, .ref k_web_, .ref k_asks_, .ref k_threads_, .int k_today, .int k_day, .ref k_seen_])), (k_x_, .inl (cy 1, 8, .inl k_x)), (k_y_, .inl (cy 1, 8, .inl k_y)), (k_web_, .inl (cy 1, 8, .inl k_web)), (k_asks_, .inl (cy 1, 8, .inl k_asks)), (k_threads_, .inl (cy 1, 64, .inl k_threads)), (k_seen_, .inl (cy 1, 8, .inl k_seen)), (h, .inr (6, [.int h_wide, .int h_high, .int h_law, .int h_spin, .int h_line, .int h_draught, .int h_books, .int h_rare, .ref h_quarrels_, .ref h_nameSizes_, .ref h_names_])), (h_quarrels_, .inl (cy 1, 8, .inl h_quarrels)), (h_nameSizes_, .inl (cy 1, 8, .inl h_nameSizes)), (h_names_, .inl (cy 1, 56, .inl h_names))] := hD
          obtain ⟨z_32, hz_32⟩ : ∃ z : Int32, z = x_8 + 1 := ⟨_, rfl⟩
          refine lv_iinc (v := z_32) (lv' := [(6, .int z_32), (7, .int z_25), (0, .ref w), (1, .ref h), (2, .ref k), (5, .int r_2)]) hx hb dX5_findWay_87 hl (k := 5) rfl hz_32.symm (by decide) rfl (fun ls hl => ?_)
          have hz_32 := o_add hz_32 (rfl : x_8.toInt = x_8.toInt) (by decide : (1 : Int32).toInt = 1) (by omega) (by omega)
          refine lv_goto (tgt := 29) hx hb dX5_findWay_90 (by decide) ?_
          exact ih_14 z_32 g_31 H locs ls (by omega) (by omega) Rg_31_0 (q_subP hP [0, 1, 2, 3, 4, 12, 13, 14, 15, 5, 6, 7, 8, 9, 10, 11] rfl) (hD.sub [0, 1, 2, 3, 4, 12, 13, 14, 15, 5, 6, 7, 8, 9, 10, 11] (by decide) rfl) hS (lv_sub hl [2, 3, 4, 5, 0] rfl)
    exact lp_29_9 8 (1 : Int32) g_7 H locs ls (by have e0 : (1 : Int32).toInt = 1 := (by decide); omega) (by have e0 : (1 : Int32).toInt = 1 := (by decide); omega) Rg_7_0 hP hD hS (lv_sub hl [2, 3, 4, 1, 0] rfl)
  · have hc_6 := o_eq (rfl : r_2.toInt = r_2.toInt) (by decide : ((-1) : Int32).toInt = -1) c_6
    refine lv_iconst (v := (-1)) hx hb dX5_findWay_17 (by decide) ?_
    refine o_wq hQ ?_
    exact q_iret (rm := (Rm 3 73 0 0)) C hS (w_waySize, w_way, g_4) rfl ⟨(show (-1) ≤ ((-1) : Int32).toInt ∧ ((-1) : Int32).toInt ≤ 7 by decide), (show w_waySize.toInt ≤ 8 by omega), hR0⟩ (q_subP hP [0, 1, 2, 3, 4, 5, 6, 7, 8, 9, 10, 11, 12, 13, 14, 15] rfl) (hD.sub [0, 1, 2, 3, 4, 5, 6, 7, 8, 9, 10, 11, 12, 13, 14, 15] (by decide) rfl) hroom.1 hroom.2 dX5_findWay_18
theorem o_findWay (l : Launch) (D : va_G) (cy : Nat → ClassId) (w : Nat) (h : Nat) (k : Nat) (a : Int32) (b : Int32) (w_way_ : Nat) (w_waySize : Int32) (w_tornSteps : Int32) (w_rings_ : Nat) (w_hanging_ : Nat) (w_costs_ : Nat) (w_way : Nat → Int32) (w_rings : Nat → Int32) (w_hanging : Nat → Int32) (w_costs : Nat → Int32) (h_wide : Int32) (h_high : Int32) (h_law : Int32) (h_spin : Int32) (h_line : Int32) (h_draught : Int32) (h_books : Int32) (h_rare : Int32) (h_quarrels_ : Nat) (h_nameSizes_ : Nat) (h_names_ : Nat) (h_quarrels : Nat → Int32) (h_nameSizes : Nat → Int32) (h_names : Nat → Int32) (k_x_ : Nat) (k_y_ : Nat) (k_web_ : Nat) (k_asks_ : Nat) (k_threads_ : Nat) (k_today : Int32) (k_day : Int32) (k_seen_ : Nat) (k_x : Nat → Int32) (k_y : Nat → Int32) (k_web : Nat → Int32) (k_asks : Nat → Int32) (k_threads : Nat → Int32) (k_seen : Nat → Int32) (sz : Nat) (hb0 : w_waySize.toInt ≤ 8) (hb1 : 0 ≤ h_wide.toInt ∧ h_wide.toInt ≤ 6) (hb2 : 0 ≤ h_high.toInt ∧ h_high.toInt ≤ 6) (hb3 : 0 ≤ h_books.toInt ∧ h_books.toInt ≤ 8) (hb4 : 0 ≤ a.toInt ∧ a.toInt ≤ 7) (hb5 : 0 ≤ b.toInt ∧ b.toInt ≤ 7) (hR0 : Rg w_way 0 8 0 7) (hR1 : Rg h_nameSizes 0 8 (-900) 7) (hR2 : Rg k_x 0 8 0 5) (hR3 : Rg k_y 0 8 0 5) : MI l yX5_findWay cX5_findWay 8 (some .int) (Rm 3 73 0 0) D cy [.ref w, .ref h, .ref k, .int a, .int b] sz [(w, .inr (5, [.ref w_way_, .int w_waySize, .int w_tornSteps, .ref w_rings_, .ref w_hanging_, .ref w_costs_])), (w_way_, .inl (cy 1, 8, .inl w_way)), (w_rings_, .inl (cy 1, 9, .inl w_rings)), (w_hanging_, .inl (cy 1, 36, .inl w_hanging)), (w_costs_, .inl (cy 1, 36, .inl w_costs)), (h, .inr (6, [.int h_wide, .int h_high, .int h_law, .int h_spin, .int h_line, .int h_draught, .int h_books, .int h_rare, .ref h_quarrels_, .ref h_nameSizes_, .ref h_names_])), (h_quarrels_, .inl (cy 1, 8, .inl h_quarrels)), (h_nameSizes_, .inl (cy 1, 8, .inl h_nameSizes)), (h_names_, .inl (cy 1, 56, .inl h_names)), (k, .inr (8, [.ref k_x_, .ref k_y_, .ref k_web_, .ref k_asks_, .ref k_threads_, .int k_today, .int k_day, .ref k_seen_])), (k_x_, .inl (cy 1, 8, .inl k_x)), (k_y_, .inl (cy 1, 8, .inl k_y)), (k_web_, .inl (cy 1, 8, .inl k_web)), (k_asks_, .inl (cy 1, 8, .inl k_asks)), (k_threads_, .inl (cy 1, 64, .inl k_threads)), (k_seen_, .inl (cy 1, 8, .inl k_seen))] (fun (r : Int32) (u : Int32 × (Nat → Int32) × (Nat → Int32)) => ((-1) ≤ r.toInt ∧ r.toInt ≤ 7) ∧ (u.1.toInt ≤ 8) ∧ (Rg u.2.1 0 8 0 7)) (fun u : Int32 × (Nat → Int32) × (Nat → Int32) => [(w, .inr (5, [.ref w_way_, .int u.1, .int w_tornSteps, .ref w_rings_, .ref w_hanging_, .ref w_costs_])), (w_way_, .inl (cy 1, 8, .inl u.2.1)), (w_rings_, .inl (cy 1, 9, .inl u.2.2)), (w_hanging_, .inl (cy 1, 36, .inl w_hanging)), (w_costs_, .inl (cy 1, 36, .inl w_costs)), (h, .inr (6, [.int h_wide, .int h_high, .int h_law, .int h_spin, .int h_line, .int h_draught, .int h_books, .int h_rare, .ref h_quarrels_, .ref h_nameSizes_, .ref h_names_])), (h_quarrels_, .inl (cy 1, 8, .inl h_quarrels)), (h_nameSizes_, .inl (cy 1, 8, .inl h_nameSizes)), (h_names_, .inl (cy 1, 56, .inl h_names)), (k, .inr (8, [.ref k_x_, .ref k_y_, .ref k_web_, .ref k_asks_, .ref k_threads_, .int k_today, .int k_day, .ref k_seen_])), (k_x_, .inl (cy 1, 8, .inl k_x)), (k_y_, .inl (cy 1, 8, .inl k_y)), (k_web_, .inl (cy 1, 8, .inl k_web)), (k_asks_, .inl (cy 1, 8, .inl k_asks)), (k_threads_, .inl (cy 1, 64, .inl k_threads)), (k_seen_, .inl (cy 1, 8, .inl k_seen))]) := by
  refine MI.enter (by decide) (Nat.le_of_ble_eq_true rfl) ?_
  intro p e s m below meth c ls A hsz hAe C hP hD hS hl
  exact b_o_findWay l D cy w h k a b w_way_ w_waySize w_tornSteps w_rings_ w_hanging_ w_costs_ w_way w_rings w_hanging w_costs h_wide h_high h_law h_spin h_line h_draught h_books h_rare h_quarrels_ h_nameSizes_ h_names_ h_quarrels h_nameSizes h_names k_x_ k_y_ k_web_ k_asks_ k_threads_ k_today k_day k_seen_ k_x k_y k_web k_asks k_threads k_seen hb0 hb1 hb2 hb3 hb4 hb5 hR0 hR1 hR2 hR3 ⟨Nat.le_of_ble_eq_true rfl, Nat.le_of_ble_eq_true rfl⟩ C rfl _ _ ls hP hD hS hl
set_option maxHeartbeats 4000000 in
set_option maxRecDepth 100000 in
theorem b_o_hangOne (l : Launch) (D : va_G) (cy : Nat → ClassId) (w : Nat) (k : Nat) (a : Int32) (b : Int32) (z : Int32) (w_way_ : Nat) (w_waySize : Int32) (w_tornSteps : Int32) (w_rings_ : Nat) (w_hanging_ : Nat) (w_costs_ : Nat) (w_way : Nat → Int32) (w_rings : Nat → Int32) (w_hanging : Nat → Int32) (w_costs : Nat → Int32) (k_x_ : Nat) (k_y_ : Nat) (k_web_ : Nat) (k_asks_ : Nat) (k_threads_ : Nat) (k_today : Int32) (k_day : Int32) (k_seen_ : Nat) (k_x : Nat → Int32) (k_y : Nat → Int32) (k_web : Nat → Int32) (k_asks : Nat → Int32) (k_threads : Nat → Int32) (k_seen : Nat → Int32) (hb0 : w_waySize.toInt ≤ 8) (hb1 : 0 ≤ a.toInt ∧ a.toInt ≤ 7) (hb2 : 0 ≤ b.toInt ∧ b.toInt ≤ 7) (hR0 : Rg w_way 0 8 0 7) (hR1 : Rg k_x 0 8 0 5) (hR2 : Rg k_y 0 8 0 5) {p : Program} {e : Env} {s : State} {m : MethodId} {args : Array Value} {below : List Frame} {meth : Method} {c : Code} {A : Nat → Prop} {Q : State → Prop} {cells slots : Nat} (hroom : cells ≤ ((Rm 1 22 0 0)).cells ∧ slots ≤ ((Rm 1 22 0 0)).slots) (C : Cx p s m args meth c cX5_hangOne 6 none RX5 "hangOne" D cy A) (hQ : Q = MQ below (va_Qv (fun u : (Nat → Int32) => True) (Bx D A (fun u : (Nat → Int32) => [(w, .inr (5, [.ref w_way_, .int w_waySize, .int w_tornSteps, .ref w_rings_, .ref w_hanging_, .ref w_costs_])), (w_way_, .inl (cy 1, 8, .inl w_way)), (w_rings_, .inl (cy 1, 9, .inl w_rings)), (w_hanging_, .inl (cy 1, 36, .inl u)), (w_costs_, .inl (cy 1, 36, .inl w_costs)), (k, .inr (8, [.ref k_x_, .ref k_y_, .ref k_web_, .ref k_asks_, .ref k_threads_, .int k_today, .int k_day, .ref k_seen_])), (k_x_, .inl (cy 1, 8, .inl k_x)), (k_y_, .inl (cy 1, 8, .inl k_y)), (k_web_, .inl (cy 1, 8, .inl k_web)), (k_asks_, .inl (cy 1, 8, .inl k_asks)), (k_threads_, .inl (cy 1, 64, .inl k_threads)), (k_seen_, .inl (cy 1, 8, .inl k_seen))])) A) args s ((Rm 1 22 0 0)).cells ((Rm 1 22 0 0)).slots A) (H : Heap) (locs : List Loc) (ls : Array Slot) (hP : va_P D vwCl [(w, .inr (5, [.ref w_way_, .int w_waySize, .int w_tornSteps, .ref w_rings_, .ref w_hanging_, .ref w_costs_])), (w_way_, .inl (cy 1, 8, .inl w_way)), (w_rings_, .inl (cy 1, 9, .inl w_rings)), (w_hanging_, .inl (cy 1, 36, .inl w_hanging)), (w_costs_, .inl (cy 1, 36, .inl w_costs)), (k, .inr (8, [.ref k_x_, .ref k_y_, .ref k_web_, .ref k_asks_, .ref k_threads_, .int k_today, .int k_day, .ref k_seen_])), (k_x_, .inl (cy 1, 8, .inl k_x)), (k_y_, .inl (cy 1, 8, .inl k_y)), (k_web_, .inl (cy 1, 8, .inl k_web)), (k_asks_, .inl (cy 1, 8, .inl k_asks)), (k_threads_, .inl (cy 1, 64, .inl k_threads)), (k_seen_, .inl (cy 1, 8, .inl k_seen))] H) (hD : va_D A [(w, .inr (5, [.ref w_way_, .int w_waySize, .int w_tornSteps, .ref w_rings_, .ref w_hanging_, .ref w_costs_])), (w_way_, .inl (cy 1, 8, .inl w_way)), (w_rings_, .inl (cy 1, 9, .inl w_rings)), (w_hanging_, .inl (cy 1, 36, .inl w_hanging)), (w_costs_, .inl (cy 1, 36, .inl w_costs)), (k, .inr (8, [.ref k_x_, .ref k_y_, .ref k_web_, .ref k_asks_, .ref k_threads_, .int k_today, .int k_day, .ref k_seen_])), (k_x_, .inl (cy 1, 8, .inl k_x)), (k_y_, .inl (cy 1, 8, .inl k_y)), (k_web_, .inl (cy 1, 8, .inl k_web)), (k_asks_, .inl (cy 1, 8, .inl k_asks)), (k_threads_, .inl (cy 1, 64, .inl k_threads)), (k_seen_, .inl (cy 1, 8, .inl k_seen))]) (hS : va_S A s.heap H locs) (hl : lv_has ls 6 [(0, .ref w), (1, .ref k), (2, .int a), (3, .int b), (4, .int z)]) : W p l e (Rm 1 22 0 0) s m args below meth c H locs cells slots Q (F0 m 0 ls []) := by
  have hx := C.1
  have hb := C.2.1
  have hqz := o_rng z
  refine lv_iconst (v := 0) hx hb dX5_hangOne_0 (by decide) ?_
  refine lv_istore (lv' := [(5, .int 0), (0, .ref w), (1, .ref k), (2, .int a), (3, .int b), (4, .int z)]) hx hb dX5_hangOne_1 hl (by decide) rfl (fun ls hl => ?_)
  have lp_3_2 : ∀ (n_3 : Nat) (x_1 : Int32) (g_2 : Nat → Int32) (H : Heap) (locs : List Loc) (ls : Array Slot), (-1) * x_1.toInt + 6 < (n_3 : Int) → (0 ≤ x_1.toInt ∧ x_1.toInt ≤ 6) → va_P D vwCl [(w, .inr (5, [.ref w_way_, .int w_waySize, .int w_tornSteps, .ref w_rings_, .ref w_hanging_, .ref w_costs_])), (w_way_, .inl (cy 1, 8, .inl w_way)), (w_rings_, .inl (cy 1, 9, .inl w_rings)), (w_hanging_, .inl (cy 1, 36, .inl g_2)), (w_costs_, .inl (cy 1, 36, .inl w_costs)), (k, .inr (8, [.ref k_x_, .ref k_y_, .ref k_web_, .ref k_asks_, .ref k_threads_, .int k_today, .int k_day, .ref k_seen_])), (k_x_, .inl (cy 1, 8, .inl k_x)), (k_y_, .inl (cy 1, 8, .inl k_y)), (k_web_, .inl (cy 1, 8, .inl k_web)), (k_asks_, .inl (cy 1, 8, .inl k_asks)), (k_threads_, .inl (cy 1, 64, .inl k_threads)), (k_seen_, .inl (cy 1, 8, .inl k_seen))] H → va_D A [(w, .inr (5, [.ref w_way_, .int w_waySize, .int w_tornSteps, .ref w_rings_, .ref w_hanging_, .ref w_costs_])), (w_way_, .inl (cy 1, 8, .inl w_way)), (w_rings_, .inl (cy 1, 9, .inl w_rings)), (w_hanging_, .inl (cy 1, 36, .inl g_2)), (w_costs_, .inl (cy 1, 36, .inl w_costs)), (k, .inr (8, [.ref k_x_, .ref k_y_, .ref k_web_, .ref k_asks_, .ref k_threads_, .int k_today, .int k_day, .ref k_seen_])), (k_x_, .inl (cy 1, 8, .inl k_x)), (k_y_, .inl (cy 1, 8, .inl k_y)), (k_web_, .inl (cy 1, 8, .inl k_web)), (k_asks_, .inl (cy 1, 8, .inl k_asks)), (k_threads_, .inl (cy 1, 64, .inl k_threads)), (k_seen_, .inl (cy 1, 8, .inl k_seen))] → va_S A s.heap H locs → lv_has ls 6 [(0, .ref w), (1, .ref k), (2, .int a), (3, .int b), (4, .int z), (5, .int x_1)] → W p l e (Rm 1 22 0 0) s m args below meth c H locs cells slots Q (F0 m 3 ls []) := by
    intro n_3
    induction n_3 with
    | zero =>
      intro x_1 g_2 H locs ls hm_5 hf_4 hP hD hS hl
      exact absurd hm_5 (by omega)
    | succ n_3 ih_6 =>
      intro x_1 g_2 H locs ls hm_5 hf_4 hP hD hS hl
      refine lv_iload hx hb dX5_hangOne_3 (lv_at hl 5 rfl) ?_
      refine lv_bipush (v := 6) hx hb dX5_hangOne_5 (by decide) ?_
      refine lv_icmp_ge (tgt := 128) hx hb dX5_hangOne_7 (by decide) (fun c_8 => ?_) (fun c_8 => ?_)
      · have hc_8 := o_le (by decide : (6 : Int32).toInt = 6) (rfl : x_1.toInt = x_1.toInt) c_8
        refine o_wq hQ ?_
        exact q_vret (rm := (Rm 1 22 0 0)) C hS g_2 trivial (q_subP hP [0, 1, 2, 3, 4, 5, 6, 7, 8, 9, 10, 11] rfl) (hD.sub [0, 1, 2, 3, 4, 5, 6, 7, 8, 9, 10, 11] (by decide) rfl) hroom.1 hroom.2 dX5_hangOne_128
      · have hc_8 := o_nle (by decide : (6 : Int32).toInt = 6) (rfl : x_1.toInt = x_1.toInt) c_8
        refine lv_aload_n hx hb dX5_hangOne_10 rfl (lv_at hl 1 rfl) ?_
        refine q_get (v := .ref k_y_) C hP 5 1 rfl rfl inX8 (by decide) kF_RX5_70 rfl rfl dX5_hangOne_11 ?_
        refine lv_iload_n hx hb dX5_hangOne_14 rfl (lv_at hl 2 rfl) ?_
        refine q_iald (v := k_y a.toNatClampNeg) C hP 7 rfl (o_in (rfl : a.toInt = a.toInt) (by omega) (by omega)) rfl dX5_hangOne_15 ?_
        refine lv_topi (fun z_9 ez_9 => ?_)
        have hz_9 := Rg.at hR2 ez_9 (by have := o_cl (rfl : a.toInt = a.toInt) (by omega); omega) (by have := o_cl (rfl : a.toInt = a.toInt) (by omega); omega)
        refine lv_aload_n hx hb dX5_hangOne_16 rfl (lv_at hl 1 rfl) ?_
        refine q_get (v := .ref k_y_) C hP 5 1 rfl rfl inX8 (by decide) kF_RX5_70 rfl rfl dX5_hangOne_17 ?_
        refine lv_iload_n hx hb dX5_hangOne_20 rfl (lv_at hl 3 rfl) ?_
        refine q_iald (v := k_y b.toNatClampNeg) C hP 7 rfl (o_in (rfl : b.toInt = b.toInt) (by omega) (by omega)) rfl dX5_hangOne_21 ?_
        refine lv_topi (fun z_10 ez_10 => ?_)
        have hz_10 := Rg.at hR2 ez_10 (by have := o_cl (rfl : b.toInt = b.toInt) (by omega); omega) (by have := o_cl (rfl : b.toInt = b.toInt) (by omega); omega)
        have cut_66_11 : ∀ (g_11 : Nat → Int32) (H : Heap) (locs : List Loc) (ls : Array Slot), va_P D vwCl [(w, .inr (5, [.ref w_way_, .int w_waySize, .int w_tornSteps, .ref w_rings_, .ref w_hanging_, .ref w_costs_])), (w_way_, .inl (cy 1, 8, .inl w_way)), (w_rings_, .inl (cy 1, 9, .inl w_rings)), (w_hanging_, .inl (cy 1, 36, .inl g_11)), (w_costs_, .inl (cy 1, 36, .inl w_costs)), (k, .inr (8, [.ref k_x_, .ref k_y_, .ref k_web_, .ref k_asks_, .ref k_threads_, .int k_today, .int k_day, .ref k_seen_])), (k_x_, .inl (cy 1, 8, .inl k_x)), (k_y_, .inl (cy 1, 8, .inl k_y)), (k_web_, .inl (cy 1, 8, .inl k_web)), (k_asks_, .inl (cy 1, 8, .inl k_asks)), (k_threads_, .inl (cy 1, 64, .inl k_threads)), (k_seen_, .inl (cy 1, 8, .inl k_seen))] H → va_D A [(w, .inr (5, [.ref w_way_, .int w_waySize, .int w_tornSteps, .ref w_rings_, .ref w_hanging_, .ref w_costs_])), (w_way_, .inl (cy 1, 8, .inl w_way)), (w_rings_, .inl (cy 1, 9, .inl w_rings)), (w_hanging_, .inl (cy 1, 36, .inl g_11)), (w_costs_, .inl (cy 1, 36, .inl w_costs)), (k, .inr (8, [.ref k_x_, .ref k_y_, .ref k_web_, .ref k_asks_, .ref k_threads_, .int k_today, .int k_day, .ref k_seen_])), (k_x_, .inl (cy 1, 8, .inl k_x)), (k_y_, .inl (cy 1, 8, .inl k_y)), (k_web_, .inl (cy 1, 8, .inl k_web)), (k_asks_, .inl (cy 1, 8, .inl k_asks)), (k_threads_, .inl (cy 1, 64, .inl k_threads)), (k_seen_, .inl (cy 1, 8, .inl k_seen))] → va_S A s.heap H locs → lv_has ls 6 [(0, .ref w), (1, .ref k), (2, .int a), (3, .int b), (4, .int z), (5, .int x_1)] → W p l e (Rm 1 22 0 0) s m args below meth c H locs cells slots Q (F0 m 66 ls []) := by
          intro g_11 H locs ls  hP hD hS hl
          refine lv_aload_n hx hb dX5_hangOne_66 rfl (lv_at hl 1 rfl) ?_
          refine q_get (v := .ref k_x_) C hP 5 0 rfl rfl inX8 (by decide) kF_RX5_67 rfl rfl dX5_hangOne_67 ?_
          refine lv_iload_n hx hb dX5_hangOne_70 rfl (lv_at hl 2 rfl) ?_
          refine q_iald (v := k_x a.toNatClampNeg) C hP 6 rfl (o_in (rfl : a.toInt = a.toInt) (by omega) (by omega)) rfl dX5_hangOne_71 ?_
          refine lv_topi (fun z_13 ez_13 => ?_)
          have hz_13 := Rg.at hR1 ez_13 (by have := o_cl (rfl : a.toInt = a.toInt) (by omega); omega) (by have := o_cl (rfl : a.toInt = a.toInt) (by omega); omega)
          refine lv_aload_n hx hb dX5_hangOne_72 rfl (lv_at hl 1 rfl) ?_
          refine q_get (v := .ref k_x_) C hP 5 0 rfl rfl inX8 (by decide) kF_RX5_67 rfl rfl dX5_hangOne_73 ?_
          refine lv_iload_n hx hb dX5_hangOne_76 rfl (lv_at hl 3 rfl) ?_
          refine q_iald (v := k_x b.toNatClampNeg) C hP 6 rfl (o_in (rfl : b.toInt = b.toInt) (by omega) (by omega)) rfl dX5_hangOne_77 ?_
          refine lv_topi (fun z_14 ez_14 => ?_)
          have hz_14 := Rg.at hR1 ez_14 (by have := o_cl (rfl : b.toInt = b.toInt) (by omega); omega) (by have := o_cl (rfl : b.toInt = b.toInt) (by omega); omega)
          refine lv_icmp_ne (tgt := 122) hx hb dX5_hangOne_78 (by decide) (fun c_15 => ?_) (fun c_15 => ?_)
          · have hc_15 := o_ne (rfl : z_13.toInt = z_13.toInt) (rfl : z_14.toInt = z_14.toInt) c_15
            obtain ⟨z_16, hz_16⟩ : ∃ z : Int32, z = x_1 + 1 := ⟨_, rfl⟩
            refine lv_iinc (v := z_16) (lv' := [(5, .int z_16), (0, .ref w), (1, .ref k), (2, .int a), (3, .int b), (4, .int z)]) hx hb dX5_hangOne_122 hl (k := 5) rfl hz_16.symm (by decide) rfl (fun ls hl => ?_)
            have hz_16 := o_add hz_16 (rfl : x_1.toInt = x_1.toInt) (by decide : (1 : Int32).toInt = 1) (by omega) (by omega)
            refine lv_goto (tgt := 3) hx hb dX5_hangOne_125 (by decide) ?_
            exact ih_6 z_16 g_11 H locs ls (by omega) (by omega) hP hD hS (lv_sub hl [1, 2, 3, 4, 5, 0] rfl)
          · have hc_15 := o_eq (rfl : z_13.toInt = z_13.toInt) (rfl : z_14.toInt = z_14.toInt) c_15
            refine lv_iload hx hb dX5_hangOne_81 (lv_at hl 5 rfl) ?_
            refine lv_aload_n hx hb dX5_hangOne_83 rfl (lv_at hl 1 rfl) ?_
            refine q_get (v := .ref k_y_) C hP 5 1 rfl rfl inX8 (by decide) kF_RX5_70 rfl rfl dX5_hangOne_84 ?_
            refine lv_iload_n hx hb dX5_hangOne_87 rfl (lv_at hl 2 rfl) ?_
            refine q_iald (v := k_y a.toNatClampNeg) C hP 7 rfl (o_in (rfl : a.toInt = a.toInt) (by omega) (by omega)) rfl dX5_hangOne_88 ?_
            refine lv_topi (fun z_17 ez_17 => ?_)
            have hz_17 := Rg.at hR2 ez_17 (by have := o_cl (rfl : a.toInt = a.toInt) (by omega); omega) (by have := o_cl (rfl : a.toInt = a.toInt) (by omega); omega)
            refine lv_aload_n hx hb dX5_hangOne_89 rfl (lv_at hl 1 rfl) ?_
            refine q_get (v := .ref k_y_) C hP 5 1 rfl rfl inX8 (by decide) kF_RX5_70 rfl rfl dX5_hangOne_90 ?_
            refine lv_iload_n hx hb dX5_hangOne_93 rfl (lv_at hl 3 rfl) ?_
            refine q_iald (v := k_y b.toNatClampNeg) C hP 7 rfl (o_in (rfl : b.toInt = b.toInt) (by omega) (by omega)) rfl dX5_hangOne_94 ?_
            refine lv_topi (fun z_18 ez_18 => ?_)
            have hz_18 := Rg.at hR2 ez_18 (by have := o_cl (rfl : b.toInt = b.toInt) (by omega); omega) (by have := o_cl (rfl : b.toInt = b.toInt) (by omega); omega)
            refine q_ai (wr := [(w, .inr (5, [.ref w_way_, .int w_waySize, .int w_tornSteps, .ref w_rings_, .ref w_hanging_, .ref w_costs_])), (w_way_, .inl (cy 1, 8, .inl w_way)), (w_rings_, .inl (cy 1, 9, .inl w_rings)), (w_hanging_, .inl (cy 1, 36, .inl g_11)), (w_costs_, .inl (cy 1, 36, .inl w_costs)), (k, .inr (8, [.ref k_x_, .ref k_y_, .ref k_web_, .ref k_asks_, .ref k_threads_, .int k_today, .int k_day, .ref k_seen_])), (k_x_, .inl (cy 1, 8, .inl k_x)), (k_y_, .inl (cy 1, 8, .inl k_y)), (k_web_, .inl (cy 1, 8, .inl k_web)), (k_asks_, .inl (cy 1, 8, .inl k_asks)), (k_threads_, .inl (cy 1, 64, .inl k_threads)), (k_seen_, .inl (cy 1, 8, .inl k_seen))]) (r_SN (rm := (Rm 0 0 0 0)) (As := [.int x_1, .int z_17, .int z_18]) (rest := []) (wc := []) C hS (q_subP hP [] rfl) (hD.sub [] (by decide) rfl) (o_isBetween l D cy x_1 z_17 z_18 _ ) kwS_X10_isBetween kN_RX5_86 ⟨Nat.le_of_ble_eq_true rfl, Nat.le_of_ble_eq_true rfl⟩ rfl hl.1 rfl (Nat.le_of_ble_eq_true rfl) dX5_hangOne_95 ⟨hroom.1, hroom.2⟩) C.2.2.2.2.2.2.1 hP hD hS [] [0, 1, 2, 3, 4, 5, 6, 7, 8, 9, 10, 11] rfl rfl (by decide) (by decide) (fun r_20 u_19 H locs hw_21 hP hD hS => ?_)
            have hp_21 : 0 ≤ r_20.toInt ∧ r_20.toInt ≤ 1 := hw_21
            refine lv_if_eq (tgt := 122) hx hb dX5_hangOne_98 (by decide) (fun c_23 => ?_) (fun c_23 => ?_)
            · have hc_23 := o_eq (rfl : r_20.toInt = r_20.toInt) (by decide : (0 : Int32).toInt = 0) c_23
              obtain ⟨z_24, hz_24⟩ : ∃ z : Int32, z = x_1 + 1 := ⟨_, rfl⟩
              refine lv_iinc (v := z_24) (lv' := [(5, .int z_24), (0, .ref w), (1, .ref k), (2, .int a), (3, .int b), (4, .int z)]) hx hb dX5_hangOne_122 hl (k := 5) rfl hz_24.symm (by decide) rfl (fun ls hl => ?_)
              have hz_24 := o_add hz_24 (rfl : x_1.toInt = x_1.toInt) (by decide : (1 : Int32).toInt = 1) (by omega) (by omega)
              refine lv_goto (tgt := 3) hx hb dX5_hangOne_125 (by decide) ?_
              exact ih_6 z_24 g_11 H locs ls (by omega) (by omega) hP hD hS (lv_sub hl [1, 2, 3, 4, 5, 0] rfl)
            · have hc_23 := o_ne (rfl : r_20.toInt = r_20.toInt) (by decide : (0 : Int32).toInt = 0) c_23
              have hnc_23 : 0 ≤ r_20.toInt + (-1) := by rcases Int.lt_or_gt_of_ne hc_23 with h9 | h9 <;> omega
              refine lv_aload_n hx hb dX5_hangOne_101 rfl (lv_at hl 0 rfl) ?_
              refine q_get (v := .ref w_hanging_) C hP 0 4 rfl rfl inX5 (by decide) kF_RX5_25 rfl rfl dX5_hangOne_102 ?_
              refine lv_aload_n hx hb dX5_hangOne_105 rfl (lv_at hl 1 rfl) ?_
              refine q_get (v := .ref k_x_) C hP 5 0 rfl rfl inX8 (by decide) kF_RX5_67 rfl rfl dX5_hangOne_106 ?_
              refine lv_iload_n hx hb dX5_hangOne_109 rfl (lv_at hl 2 rfl) ?_
              refine q_iald (v := z_13) C hP 6 rfl (o_in (rfl : a.toInt = a.toInt) (by omega) (by omega)) ez_13.symm dX5_hangOne_110 ?_
              refine lv_iload hx hb dX5_hangOne_111 (lv_at hl 5 rfl) ?_
              refine q_ai (wr := [(w, .inr (5, [.ref w_way_, .int w_waySize, .int w_tornSteps, .ref w_rings_, .ref w_hanging_, .ref w_costs_])), (w_way_, .inl (cy 1, 8, .inl w_way)), (w_rings_, .inl (cy 1, 9, .inl w_rings)), (w_hanging_, .inl (cy 1, 36, .inl g_11)), (w_costs_, .inl (cy 1, 36, .inl w_costs)), (k, .inr (8, [.ref k_x_, .ref k_y_, .ref k_web_, .ref k_asks_, .ref k_threads_, .int k_today, .int k_day, .ref k_seen_])), (k_x_, .inl (cy 1, 8, .inl k_x)), (k_y_, .inl (cy 1, 8, .inl k_y)), (k_web_, .inl (cy 1, 8, .inl k_web)), (k_asks_, .inl (cy 1, 8, .inl k_asks)), (k_threads_, .inl (cy 1, 64, .inl k_threads)), (k_seen_, .inl (cy 1, 8, .inl k_seen))]) (r_S (rm := (Rm 0 0 0 0)) (As := [.int z_13, .int x_1]) (rest := [.ref w_hanging_]) (wc := []) C hS (q_subP hP [] rfl) (hD.sub [] (by decide) rfl) (o_cellPlace l D cy z_13 x_1 _ (by omega) (by omega)) kwS_X5_cellPlace kM_RX5_73 ⟨Nat.le_of_ble_eq_true rfl, Nat.le_of_ble_eq_true rfl⟩ rfl hl.1 rfl (Nat.le_of_ble_eq_true rfl) dX5_hangOne_113 ⟨hroom.1, hroom.2⟩) C.2.2.2.2.2.2.1 hP hD hS [] [0, 1, 2, 3, 4, 5, 6, 7, 8, 9, 10, 11] rfl rfl (by decide) (by decide) (fun r_26 u_25 H locs hw_27 hP hD hS => ?_)
              have hp_27 : 0 ≤ r_26.toInt ∧ r_26.toInt ≤ 35 := hw_27
              refine lv_dup2_11 hx hb dX5_hangOne_116 rfl rfl ?_
              refine q_iald (v := g_11 r_26.toNatClampNeg) C hP 3 rfl (o_in (rfl : r_26.toInt = r_26.toInt) (by omega) (by omega)) rfl dX5_hangOne_117 ?_
              refine lv_topi (fun z_29 ez_29 => ?_)
              refine lv_iload hx hb dX5_hangOne_118 (lv_at hl 4 rfl) ?_
              refine lv_iadd hx hb dX5_hangOne_120 ?_
              refine lv_topi (fun z_30 hz_30 => ?_)
              clear hz_30
              refine q_iast (g := upd g_11 r_26.toNatClampNeg z_30) (w' := [(w, .inr (5, [.ref w_way_, .int w_waySize, .int w_tornSteps, .ref w_rings_, .ref w_hanging_, .ref w_costs_])), (w_way_, .inl (cy 1, 8, .inl w_way)), (w_rings_, .inl (cy 1, 9, .inl w_rings)), (w_hanging_, .inl (cy 1, 36, .inl (upd g_11 r_26.toNatClampNeg z_30))), (w_costs_, .inl (cy 1, 36, .inl w_costs)), (k, .inr (8, [.ref k_x_, .ref k_y_, .ref k_web_, .ref k_asks_, .ref k_threads_, .int k_today, .int k_day, .ref k_seen_])), (k_x_, .inl (cy 1, 8, .inl k_x)), (k_y_, .inl (cy 1, 8, .inl k_y)), (k_web_, .inl (cy 1, 8, .inl k_web)), (k_asks_, .inl (cy 1, 8, .inl k_asks)), (k_threads_, .inl (cy 1, 64, .inl k_threads)), (k_seen_, .inl (cy 1, 8, .inl k_seen))]) C hP hD hS 3 rfl (o_in (rfl : r_26.toInt = r_26.toInt) (by omega) (by omega)) rfl rfl dX5_hangOne_121 (fun H locs hP hD hS => ?_)
              generalize upd g_11 r_26.toNatClampNeg z_30 = g_31 at hP hD 
              have hP : va_P D vwCl [(w, .inr (5, [.ref w_way_, .int w_waySize, .int w_tornSteps, .ref w_rings_, .ref w_hanging_, .ref w_costs_])), (w_way_, .inl (cy 1, 8, .inl w_way)), (w_rings_, .inl (cy 1, 9, .inl w_rings)), (w_hanging_, .inl (cy 1, 36, .inl g_31)), (w_costs_, .inl (cy 1, 36, .inl w_costs)), (k, .inr (8, [.ref k_x_, .ref k_y_, .ref k_web_, .ref k_asks_, .ref k_threads_, .int k_today, .int k_day, .ref k_seen_])), (k_x_, .inl (cy 1, 8, .inl k_x)), (k_y_, .inl (cy 1, 8, .inl k_y)), (k_web_, .inl (cy 1, 8, .inl k_web)), (k_asks_, .inl (cy 1, 8, .inl k_asks)), (k_threads_, .inl (cy 1, 64, .inl k_threads)), (k_seen_, .inl (cy 1, 8, .inl k_seen))] H := hP
              have hD : va_D A [(w, .inr (5, [.ref w_way_, .int w_waySize, .int w_tornSteps, .ref w_rings_, .ref w_hanging_, .ref w_costs_])), (w_way_, .inl (cy 1, 8, .inl w_way)), (w_rings_, .inl (cy 1, 9, .inl w_rings)), (w_hanging_, .inl (cy 1, 36, .inl g_31)), (w_costs_, .inl (cy 1, 36, .inl w_costs)), (k, .inr (8, [.ref k_x_, .ref k_y_, .ref k_web_, .ref k_asks_, .ref k_threads_, .int k_today, .int k_day, .ref k_seen_])), (k_x_, .inl (cy 1, 8, .inl k_x)), (k_y_, .inl (cy 1, 8, .inl k_y)), (k_web_, .inl (cy 1, 8, .inl k_web)), (k_asks_, .inl (cy 1, 8, .inl k_asks)), (k_threads_, .inl (cy 1, 64, .inl k_threads)), (k_seen_, .inl (cy 1, 8, .inl k_seen))] := hD
              obtain ⟨z_32, hz_32⟩ : ∃ z : Int32, z = x_1 + 1 := ⟨_, rfl⟩
              refine lv_iinc (v := z_32) (lv' := [(5, .int z_32), (0, .ref w), (1, .ref k), (2, .int a), (3, .int b), (4, .int z)]) hx hb dX5_hangOne_122 hl (k := 5) rfl hz_32.symm (by decide) rfl (fun ls hl => ?_)
              have hz_32 := o_add hz_32 (rfl : x_1.toInt = x_1.toInt) (by decide : (1 : Int32).toInt = 1) (by omega) (by omega)
              refine lv_goto (tgt := 3) hx hb dX5_hangOne_125 (by decide) ?_
              exact ih_6 z_32 g_31 H locs ls (by omega) (by omega) hP hD hS (lv_sub hl [1, 2, 3, 4, 5, 0] rfl)
        refine lv_icmp_ne (tgt := 66) hx hb dX5_hangOne_22 (by decide) (fun c_33 => ?_) (fun c_33 => ?_)
        · have hc_33 := o_ne (rfl : z_9.toInt = z_9.toInt) (rfl : z_10.toInt = z_10.toInt) c_33
          exact cut_66_11 g_2 H locs ls   hP hD hS (lv_sub hl [0, 1, 2, 3, 4, 5] rfl)
        · have hc_33 := o_eq (rfl : z_9.toInt = z_9.toInt) (rfl : z_10.toInt = z_10.toInt) c_33
          refine lv_iload hx hb dX5_hangOne_25 (lv_at hl 5 rfl) ?_
          refine lv_aload_n hx hb dX5_hangOne_27 rfl (lv_at hl 1 rfl) ?_
          refine q_get (v := .ref k_x_) C hP 5 0 rfl rfl inX8 (by decide) kF_RX5_67 rfl rfl dX5_hangOne_28 ?_
          refine lv_iload_n hx hb dX5_hangOne_31 rfl (lv_at hl 2 rfl) ?_
          refine q_iald (v := k_x a.toNatClampNeg) C hP 6 rfl (o_in (rfl : a.toInt = a.toInt) (by omega) (by omega)) rfl dX5_hangOne_32 ?_
          refine lv_topi (fun z_34 ez_34 => ?_)
          have hz_34 := Rg.at hR1 ez_34 (by have := o_cl (rfl : a.toInt = a.toInt) (by omega); omega) (by have := o_cl (rfl : a.toInt = a.toInt) (by omega); omega)
          refine lv_aload_n hx hb dX5_hangOne_33 rfl (lv_at hl 1 rfl) ?_
          refine q_get (v := .ref k_x_) C hP 5 0 rfl rfl inX8 (by decide) kF_RX5_67 rfl rfl dX5_hangOne_34 ?_
          refine lv_iload_n hx hb dX5_hangOne_37 rfl (lv_at hl 3 rfl) ?_
          refine q_iald (v := k_x b.toNatClampNeg) C hP 6 rfl (o_in (rfl : b.toInt = b.toInt) (by omega) (by omega)) rfl dX5_hangOne_38 ?_
          refine lv_topi (fun z_35 ez_35 => ?_)
          have hz_35 := Rg.at hR1 ez_35 (by have := o_cl (rfl : b.toInt = b.toInt) (by omega); omega) (by have := o_cl (rfl : b.toInt = b.toInt) (by omega); omega)
          refine q_ai (wr := [(w, .inr (5, [.ref w_way_, .int w_waySize, .int w_tornSteps, .ref w_rings_, .ref w_hanging_, .ref w_costs_])), (w_way_, .inl (cy 1, 8, .inl w_way)), (w_rings_, .inl (cy 1, 9, .inl w_rings)), (w_hanging_, .inl (cy 1, 36, .inl g_2)), (w_costs_, .inl (cy 1, 36, .inl w_costs)), (k, .inr (8, [.ref k_x_, .ref k_y_, .ref k_web_, .ref k_asks_, .ref k_threads_, .int k_today, .int k_day, .ref k_seen_])), (k_x_, .inl (cy 1, 8, .inl k_x)), (k_y_, .inl (cy 1, 8, .inl k_y)), (k_web_, .inl (cy 1, 8, .inl k_web)), (k_asks_, .inl (cy 1, 8, .inl k_asks)), (k_threads_, .inl (cy 1, 64, .inl k_threads)), (k_seen_, .inl (cy 1, 8, .inl k_seen))]) (r_SN (rm := (Rm 0 0 0 0)) (As := [.int x_1, .int z_34, .int z_35]) (rest := []) (wc := []) C hS (q_subP hP [] rfl) (hD.sub [] (by decide) rfl) (o_isBetween l D cy x_1 z_34 z_35 _ ) kwS_X10_isBetween kN_RX5_86 ⟨Nat.le_of_ble_eq_true rfl, Nat.le_of_ble_eq_true rfl⟩ rfl hl.1 rfl (Nat.le_of_ble_eq_true rfl) dX5_hangOne_39 ⟨hroom.1, hroom.2⟩) C.2.2.2.2.2.2.1 hP hD hS [] [0, 1, 2, 3, 4, 5, 6, 7, 8, 9, 10, 11] rfl rfl (by decide) (by decide) (fun r_37 u_36 H locs hw_38 hP hD hS => ?_)
          have hp_38 : 0 ≤ r_37.toInt ∧ r_37.toInt ≤ 1 := hw_38
          refine lv_if_eq (tgt := 66) hx hb dX5_hangOne_42 (by decide) (fun c_40 => ?_) (fun c_40 => ?_)
          · have hc_40 := o_eq (rfl : r_37.toInt = r_37.toInt) (by decide : (0 : Int32).toInt = 0) c_40
            exact cut_66_11 g_2 H locs ls   hP hD hS (lv_sub hl [0, 1, 2, 3, 4, 5] rfl)
          · have hc_40 := o_ne (rfl : r_37.toInt = r_37.toInt) (by decide : (0 : Int32).toInt = 0) c_40
            have hnc_40 : 0 ≤ r_37.toInt + (-1) := by rcases Int.lt_or_gt_of_ne hc_40 with h9 | h9 <;> omega
            refine lv_aload_n hx hb dX5_hangOne_45 rfl (lv_at hl 0 rfl) ?_
            refine q_get (v := .ref w_hanging_) C hP 0 4 rfl rfl inX5 (by decide) kF_RX5_25 rfl rfl dX5_hangOne_46 ?_
            refine lv_iload hx hb dX5_hangOne_49 (lv_at hl 5 rfl) ?_
            refine lv_aload_n hx hb dX5_hangOne_51 rfl (lv_at hl 1 rfl) ?_
            refine q_get (v := .ref k_y_) C hP 5 1 rfl rfl inX8 (by decide) kF_RX5_70 rfl rfl dX5_hangOne_52 ?_
            refine lv_iload_n hx hb dX5_hangOne_55 rfl (lv_at hl 2 rfl) ?_
            refine q_iald (v := z_9) C hP 7 rfl (o_in (rfl : a.toInt = a.toInt) (by omega) (by omega)) ez_9.symm dX5_hangOne_56 ?_
            refine q_ai (wr := [(w, .inr (5, [.ref w_way_, .int w_waySize, .int w_tornSteps, .ref w_rings_, .ref w_hanging_, .ref w_costs_])), (w_way_, .inl (cy 1, 8, .inl w_way)), (w_rings_, .inl (cy 1, 9, .inl w_rings)), (w_hanging_, .inl (cy 1, 36, .inl g_2)), (w_costs_, .inl (cy 1, 36, .inl w_costs)), (k, .inr (8, [.ref k_x_, .ref k_y_, .ref k_web_, .ref k_asks_, .ref k_threads_, .int k_today, .int k_day, .ref k_seen_])), (k_x_, .inl (cy 1, 8, .inl k_x)), (k_y_, .inl (cy 1, 8, .inl k_y)), (k_web_, .inl (cy 1, 8, .inl k_web)), (k_asks_, .inl (cy 1, 8, .inl k_asks)), (k_threads_, .inl (cy 1, 64, .inl k_threads)), (k_seen_, .inl (cy 1, 8, .inl k_seen))]) (r_S (rm := (Rm 0 0 0 0)) (As := [.int x_1, .int z_9]) (rest := [.ref w_hanging_]) (wc := []) C hS (q_subP hP [] rfl) (hD.sub [] (by decide) rfl) (o_cellPlace l D cy x_1 z_9 _ (by omega) (by omega)) kwS_X5_cellPlace kM_RX5_73 ⟨Nat.le_of_ble_eq_true rfl, Nat.le_of_ble_eq_true rfl⟩ rfl hl.1 rfl (Nat.le_of_ble_eq_true rfl) dX5_hangOne_57 ⟨hroom.1, hroom.2⟩) C.2.2.2.2.2.2.1 hP hD hS [] [0, 1, 2, 3, 4, 5, 6, 7, 8, 9, 10, 11] rfl rfl (by decide) (by decide) (fun r_42 u_41 H locs hw_43 hP hD hS => ?_)
            have hp_43 : 0 ≤ r_42.toInt ∧ r_42.toInt ≤ 35 := hw_43
            refine lv_dup2_11 hx hb dX5_hangOne_60 rfl rfl ?_
            refine q_iald (v := g_2 r_42.toNatClampNeg) C hP 3 rfl (o_in (rfl : r_42.toInt = r_42.toInt) (by omega) (by omega)) rfl dX5_hangOne_61 ?_
            refine lv_topi (fun z_45 ez_45 => ?_)
            refine lv_iload hx hb dX5_hangOne_62 (lv_at hl 4 rfl) ?_
            refine lv_iadd hx hb dX5_hangOne_64 ?_
            refine lv_topi (fun z_46 hz_46 => ?_)
            clear hz_46
            refine q_iast (g := upd g_2 r_42.toNatClampNeg z_46) (w' := [(w, .inr (5, [.ref w_way_, .int w_waySize, .int w_tornSteps, .ref w_rings_, .ref w_hanging_, .ref w_costs_])), (w_way_, .inl (cy 1, 8, .inl w_way)), (w_rings_, .inl (cy 1, 9, .inl w_rings)), (w_hanging_, .inl (cy 1, 36, .inl (upd g_2 r_42.toNatClampNeg z_46))), (w_costs_, .inl (cy 1, 36, .inl w_costs)), (k, .inr (8, [.ref k_x_, .ref k_y_, .ref k_web_, .ref k_asks_, .ref k_threads_, .int k_today, .int k_day, .ref k_seen_])), (k_x_, .inl (cy 1, 8, .inl k_x)), (k_y_, .inl (cy 1, 8, .inl k_y)), (k_web_, .inl (cy 1, 8, .inl k_web)), (k_asks_, .inl (cy 1, 8, .inl k_asks)), (k_threads_, .inl (cy 1, 64, .inl k_threads)), (k_seen_, .inl (cy 1, 8, .inl k_seen))]) C hP hD hS 3 rfl (o_in (rfl : r_42.toInt = r_42.toInt) (by omega) (by omega)) rfl rfl dX5_hangOne_65 (fun H locs hP hD hS => ?_)
            generalize upd g_2 r_42.toNatClampNeg z_46 = g_47 at hP hD 
            have hP : va_P D vwCl [(w, .inr (5, [.ref w_way_, .int w_waySize, .int w_tornSteps, .ref w_rings_, .ref w_hanging_, .ref w_costs_])), (w_way_, .inl (cy 1, 8, .inl w_way)), (w_rings_, .inl (cy 1, 9, .inl w_rings)), (w_hanging_, .inl (cy 1, 36, .inl g_47)), (w_costs_, .inl (cy 1, 36, .inl w_costs)), (k, .inr (8, [.ref k_x_, .ref k_y_, .ref k_web_, .ref k_asks_, .ref k_threads_, .int k_today, .int k_day, .ref k_seen_])), (k_x_, .inl (cy 1, 8, .inl k_x)), (k_y_, .inl (cy 1, 8, .inl k_y)), (k_web_, .inl (cy 1, 8, .inl k_web)), (k_asks_, .inl (cy 1, 8, .inl k_asks)), (k_threads_, .inl (cy 1, 64, .inl k_threads)), (k_seen_, .inl (cy 1, 8, .inl k_seen))] H := hP
            have hD : va_D A [(w, .inr (5, [.ref w_way_, .int w_waySize, .int w_tornSteps, .ref w_rings_, .ref w_hanging_, .ref w_costs_])), (w_way_, .inl (cy 1, 8, .inl w_way)), (w_rings_, .inl (cy 1, 9, .inl w_rings)), (w_hanging_, .inl (cy 1, 36, .inl g_47)), (w_costs_, .inl (cy 1, 36, .inl w_costs)), (k, .inr (8, [.ref k_x_, .ref k_y_, .ref k_web_, .ref k_asks_, .ref k_threads_, .int k_today, .int k_day, .ref k_seen_])), (k_x_, .inl (cy 1, 8, .inl k_x)), (k_y_, .inl (cy 1, 8, .inl k_y)), (k_web_, .inl (cy 1, 8, .inl k_web)), (k_asks_, .inl (cy 1, 8, .inl k_asks)), (k_threads_, .inl (cy 1, 64, .inl k_threads)), (k_seen_, .inl (cy 1, 8, .inl k_seen))] := hD
            exact cut_66_11 g_47 H locs ls   hP hD hS (lv_sub hl [0, 1, 2, 3, 4, 5] rfl)
  exact lp_3_2 7 (0 : Int32) w_hanging H locs ls (by have e0 : (0 : Int32).toInt = 0 := (by decide); omega) (by have e0 : (0 : Int32).toInt = 0 := (by decide); omega) hP hD hS (lv_sub hl [1, 2, 3, 4, 5, 0] rfl)
theorem o_hangOne (l : Launch) (D : va_G) (cy : Nat → ClassId) (w : Nat) (k : Nat) (a : Int32) (b : Int32) (z : Int32) (w_way_ : Nat) (w_waySize : Int32) (w_tornSteps : Int32) (w_rings_ : Nat) (w_hanging_ : Nat) (w_costs_ : Nat) (w_way : Nat → Int32) (w_rings : Nat → Int32) (w_hanging : Nat → Int32) (w_costs : Nat → Int32) (k_x_ : Nat) (k_y_ : Nat) (k_web_ : Nat) (k_asks_ : Nat) (k_threads_ : Nat) (k_today : Int32) (k_day : Int32) (k_seen_ : Nat) (k_x : Nat → Int32) (k_y : Nat → Int32) (k_web : Nat → Int32) (k_asks : Nat → Int32) (k_threads : Nat → Int32) (k_seen : Nat → Int32) (sz : Nat) (hb0 : w_waySize.toInt ≤ 8) (hb1 : 0 ≤ a.toInt ∧ a.toInt ≤ 7) (hb2 : 0 ≤ b.toInt ∧ b.toInt ≤ 7) (hR0 : Rg w_way 0 8 0 7) (hR1 : Rg k_x 0 8 0 5) (hR2 : Rg k_y 0 8 0 5) : MV l yX5_hangOne cX5_hangOne 6 (Rm 1 22 0 0) D cy [.ref w, .ref k, .int a, .int b, .int z] sz [(w, .inr (5, [.ref w_way_, .int w_waySize, .int w_tornSteps, .ref w_rings_, .ref w_hanging_, .ref w_costs_])), (w_way_, .inl (cy 1, 8, .inl w_way)), (w_rings_, .inl (cy 1, 9, .inl w_rings)), (w_hanging_, .inl (cy 1, 36, .inl w_hanging)), (w_costs_, .inl (cy 1, 36, .inl w_costs)), (k, .inr (8, [.ref k_x_, .ref k_y_, .ref k_web_, .ref k_asks_, .ref k_threads_, .int k_today, .int k_day, .ref k_seen_])), (k_x_, .inl (cy 1, 8, .inl k_x)), (k_y_, .inl (cy 1, 8, .inl k_y)), (k_web_, .inl (cy 1, 8, .inl k_web)), (k_asks_, .inl (cy 1, 8, .inl k_asks)), (k_threads_, .inl (cy 1, 64, .inl k_threads)), (k_seen_, .inl (cy 1, 8, .inl k_seen))] (fun u : (Nat → Int32) => True) (fun u : (Nat → Int32) => [(w, .inr (5, [.ref w_way_, .int w_waySize, .int w_tornSteps, .ref w_rings_, .ref w_hanging_, .ref w_costs_])), (w_way_, .inl (cy 1, 8, .inl w_way)), (w_rings_, .inl (cy 1, 9, .inl w_rings)), (w_hanging_, .inl (cy 1, 36, .inl u)), (w_costs_, .inl (cy 1, 36, .inl w_costs)), (k, .inr (8, [.ref k_x_, .ref k_y_, .ref k_web_, .ref k_asks_, .ref k_threads_, .int k_today, .int k_day, .ref k_seen_])), (k_x_, .inl (cy 1, 8, .inl k_x)), (k_y_, .inl (cy 1, 8, .inl k_y)), (k_web_, .inl (cy 1, 8, .inl k_web)), (k_asks_, .inl (cy 1, 8, .inl k_asks)), (k_threads_, .inl (cy 1, 64, .inl k_threads)), (k_seen_, .inl (cy 1, 8, .inl k_seen))]) := by
  refine MV.enter (by decide) (Nat.le_of_ble_eq_true rfl) ?_
  intro p e s m below meth c ls A hsz hAe C hP hD hS hl
  exact b_o_hangOne l D cy w k a b z w_way_ w_waySize w_tornSteps w_rings_ w_hanging_ w_costs_ w_way w_rings w_hanging w_costs k_x_ k_y_ k_web_ k_asks_ k_threads_ k_today k_day k_seen_ k_x k_y k_web k_asks k_threads k_seen hb0 hb1 hb2 hR0 hR1 hR2 ⟨Nat.le_of_ble_eq_true rfl, Nat.le_of_ble_eq_true rfl⟩ C rfl _ _ ls hP hD hS hl
set_option maxHeartbeats 4000000 in
set_option maxRecDepth 100000 in
theorem b_o_hangThreads (l : Launch) (D : va_G) (cy : Nat → ClassId) (w : Nat) (h : Nat) (k : Nat) (w_way_ : Nat) (w_waySize : Int32) (w_tornSteps : Int32) (w_rings_ : Nat) (w_hanging_ : Nat) (w_costs_ : Nat) (w_way : Nat → Int32) (w_rings : Nat → Int32) (w_hanging : Nat → Int32) (w_costs : Nat → Int32) (h_wide : Int32) (h_high : Int32) (h_law : Int32) (h_spin : Int32) (h_line : Int32) (h_draught : Int32) (h_books : Int32) (h_rare : Int32) (h_quarrels_ : Nat) (h_nameSizes_ : Nat) (h_names_ : Nat) (h_quarrels : Nat → Int32) (h_nameSizes : Nat → Int32) (h_names : Nat → Int32) (k_x_ : Nat) (k_y_ : Nat) (k_web_ : Nat) (k_asks_ : Nat) (k_threads_ : Nat) (k_today : Int32) (k_day : Int32) (k_seen_ : Nat) (k_x : Nat → Int32) (k_y : Nat → Int32) (k_web : Nat → Int32) (k_asks : Nat → Int32) (k_threads : Nat → Int32) (k_seen : Nat → Int32) (hb0 : w_waySize.toInt ≤ 8) (hb1 : 0 ≤ h_wide.toInt ∧ h_wide.toInt ≤ 6) (hb2 : 0 ≤ h_high.toInt ∧ h_high.toInt ≤ 6) (hb3 : 0 ≤ h_books.toInt ∧ h_books.toInt ≤ 8) (hR0 : Rg w_way 0 8 0 7) (hR1 : Rg h_nameSizes 0 8 (-900) 7) (hR2 : Rg k_x 0 8 0 5) (hR3 : Rg k_y 0 8 0 5) {p : Program} {e : Env} {s : State} {m : MethodId} {args : Array Value} {below : List Frame} {meth : Method} {c : Code} {A : Nat → Prop} {Q : State → Prop} {cells slots : Nat} (hroom : cells ≤ ((Rm 2 47 0 0)).cells ∧ slots ≤ ((Rm 2 47 0 0)).slots) (C : Cx p s m args meth c cX5_hangThreads 6 none RX5 "hangThreads" D cy A) (hQ : Q = MQ below (va_Qv (fun u : (Nat → Int32) => True) (Bx D A (fun u : (Nat → Int32) => [(w, .inr (5, [.ref w_way_, .int w_waySize, .int w_tornSteps, .ref w_rings_, .ref w_hanging_, .ref w_costs_])), (w_way_, .inl (cy 1, 8, .inl w_way)), (w_rings_, .inl (cy 1, 9, .inl w_rings)), (w_hanging_, .inl (cy 1, 36, .inl u)), (w_costs_, .inl (cy 1, 36, .inl w_costs)), (h, .inr (6, [.int h_wide, .int h_high, .int h_law, .int h_spin, .int h_line, .int h_draught, .int h_books, .int h_rare, .ref h_quarrels_, .ref h_nameSizes_, .ref h_names_])), (h_quarrels_, .inl (cy 1, 8, .inl h_quarrels)), (h_nameSizes_, .inl (cy 1, 8, .inl h_nameSizes)), (h_names_, .inl (cy 1, 56, .inl h_names)), (k, .inr (8, [.ref k_x_, .ref k_y_, .ref k_web_, .ref k_asks_, .ref k_threads_, .int k_today, .int k_day, .ref k_seen_])), (k_x_, .inl (cy 1, 8, .inl k_x)), (k_y_, .inl (cy 1, 8, .inl k_y)), (k_web_, .inl (cy 1, 8, .inl k_web)), (k_asks_, .inl (cy 1, 8, .inl k_asks)), (k_threads_, .inl (cy 1, 64, .inl k_threads)), (k_seen_, .inl (cy 1, 8, .inl k_seen))])) A) args s ((Rm 2 47 0 0)).cells ((Rm 2 47 0 0)).slots A) (H : Heap) (locs : List Loc) (ls : Array Slot) (hP : va_P D vwCl [(w, .inr (5, [.ref w_way_, .int w_waySize, .int w_tornSteps, .ref w_rings_, .ref w_hanging_, .ref w_costs_])), (w_way_, .inl (cy 1, 8, .inl w_way)), (w_rings_, .inl (cy 1, 9, .inl w_rings)), (w_hanging_, .inl (cy 1, 36, .inl w_hanging)), (w_costs_, .inl (cy 1, 36, .inl w_costs)), (h, .inr (6, [.int h_wide, .int h_high, .int h_law, .int h_spin, .int h_line, .int h_draught, .int h_books, .int h_rare, .ref h_quarrels_, .ref h_nameSizes_, .ref h_names_])), (h_quarrels_, .inl (cy 1, 8, .inl h_quarrels)), (h_nameSizes_, .inl (cy 1, 8, .inl h_nameSizes)), (h_names_, .inl (cy 1, 56, .inl h_names)), (k, .inr (8, [.ref k_x_, .ref k_y_, .ref k_web_, .ref k_asks_, .ref k_threads_, .int k_today, .int k_day, .ref k_seen_])), (k_x_, .inl (cy 1, 8, .inl k_x)), (k_y_, .inl (cy 1, 8, .inl k_y)), (k_web_, .inl (cy 1, 8, .inl k_web)), (k_asks_, .inl (cy 1, 8, .inl k_asks)), (k_threads_, .inl (cy 1, 64, .inl k_threads)), (k_seen_, .inl (cy 1, 8, .inl k_seen))] H) (hD : va_D A [(w, .inr (5, [.ref w_way_, .int w_waySize, .int w_tornSteps, .ref w_rings_, .ref w_hanging_, .ref w_costs_])), (w_way_, .inl (cy 1, 8, .inl w_way)), (w_rings_, .inl (cy 1, 9, .inl w_rings)), (w_hanging_, .inl (cy 1, 36, .inl w_hanging)), (w_costs_, .inl (cy 1, 36, .inl w_costs)), (h, .inr (6, [.int h_wide, .int h_high, .int h_law, .int h_spin, .int h_line, .int h_draught, .int h_books, .int h_rare, .ref h_quarrels_, .ref h_nameSizes_, .ref h_names_])), (h_quarrels_, .inl (cy 1, 8, .inl h_quarrels)), (h_nameSizes_, .inl (cy 1, 8, .inl h_nameSizes)), (h_names_, .inl (cy 1, 56, .inl h_names)), (k, .inr (8, [.ref k_x_, .ref k_y_, .ref k_web_, .ref k_asks_, .ref k_threads_, .int k_today, .int k_day, .ref k_seen_])), (k_x_, .inl (cy 1, 8, .inl k_x)), (k_y_, .inl (cy 1, 8, .inl k_y)), (k_web_, .inl (cy 1, 8, .inl k_web)), (k_asks_, .inl (cy 1, 8, .inl k_asks)), (k_threads_, .inl (cy 1, 64, .inl k_threads)), (k_seen_, .inl (cy 1, 8, .inl k_seen))]) (hS : va_S A s.heap H locs) (hl : lv_has ls 6 [(0, .ref w), (1, .ref h), (2, .ref k)]) : W p l e (Rm 2 47 0 0) s m args below meth c H locs cells slots Q (F0 m 0 ls []) := by
  have hx := C.1
  have hb := C.2.1
  refine lv_iconst (v := 0) hx hb dX5_hangThreads_0 (by decide) ?_
  refine lv_istore_n (lv' := [(3, .int 0), (0, .ref w), (1, .ref h), (2, .ref k)]) hx hb dX5_hangThreads_1 rfl hl (by decide) rfl (fun ls hl => ?_)
  have lp_2_2 : ∀ (n_3 : Nat) (x_1 : Int32) (g_2 : Nat → Int32) (H : Heap) (locs : List Loc) (ls : Array Slot), (-1) * x_1.toInt + 36 < (n_3 : Int) → (0 ≤ x_1.toInt ∧ x_1.toInt ≤ 36) → va_P D vwCl [(w, .inr (5, [.ref w_way_, .int w_waySize, .int w_tornSteps, .ref w_rings_, .ref w_hanging_, .ref w_costs_])), (w_way_, .inl (cy 1, 8, .inl w_way)), (w_rings_, .inl (cy 1, 9, .inl w_rings)), (w_hanging_, .inl (cy 1, 36, .inl g_2)), (w_costs_, .inl (cy 1, 36, .inl w_costs)), (h, .inr (6, [.int h_wide, .int h_high, .int h_law, .int h_spin, .int h_line, .int h_draught, .int h_books, .int h_rare, .ref h_quarrels_, .ref h_nameSizes_, .ref h_names_])), (h_quarrels_, .inl (cy 1, 8, .inl h_quarrels)), (h_nameSizes_, .inl (cy 1, 8, .inl h_nameSizes)), (h_names_, .inl (cy 1, 56, .inl h_names)), (k, .inr (8, [.ref k_x_, .ref k_y_, .ref k_web_, .ref k_asks_, .ref k_threads_, .int k_today, .int k_day, .ref k_seen_])), (k_x_, .inl (cy 1, 8, .inl k_x)), (k_y_, .inl (cy 1, 8, .inl k_y)), (k_web_, .inl (cy 1, 8, .inl k_web)), (k_asks_, .inl (cy 1, 8, .inl k_asks)), (k_threads_, .inl (cy 1, 64, .inl k_threads)), (k_seen_, .inl (cy 1, 8, .inl k_seen))] H → va_D A [(w, .inr (5, [.ref w_way_, .int w_waySize, .int w_tornSteps, .ref w_rings_, .ref w_hanging_, .ref w_costs_])), (w_way_, .inl (cy 1, 8, .inl w_way)), (w_rings_, .inl (cy 1, 9, .inl w_rings)), (w_hanging_, .inl (cy 1, 36, .inl g_2)), (w_costs_, .inl (cy 1, 36, .inl w_costs)), (h, .inr (6, [.int h_wide, .int h_high, .int h_law, .int h_spin, .int h_line, .int h_draught, .int h_books, .int h_rare, .ref h_quarrels_, .ref h_nameSizes_, .ref h_names_])), (h_quarrels_, .inl (cy 1, 8, .inl h_quarrels)), (h_nameSizes_, .inl (cy 1, 8, .inl h_nameSizes)), (h_names_, .inl (cy 1, 56, .inl h_names)), (k, .inr (8, [.ref k_x_, .ref k_y_, .ref k_web_, .ref k_asks_, .ref k_threads_, .int k_today, .int k_day, .ref k_seen_])), (k_x_, .inl (cy 1, 8, .inl k_x)), (k_y_, .inl (cy 1, 8, .inl k_y)), (k_web_, .inl (cy 1, 8, .inl k_web)), (k_asks_, .inl (cy 1, 8, .inl k_asks)), (k_threads_, .inl (cy 1, 64, .inl k_threads)), (k_seen_, .inl (cy 1, 8, .inl k_seen))] → va_S A s.heap H locs → lv_has ls 6 [(0, .ref w), (1, .ref h), (2, .ref k), (3, .int x_1)] → W p l e (Rm 2 47 0 0) s m args below meth c H locs cells slots Q (F0 m 2 ls []) := by
    intro n_3
    induction n_3 with
    | zero =>
      intro x_1 g_2 H locs ls hm_5 hf_4 hP hD hS hl
      exact absurd hm_5 (by omega)
    | succ n_3 ih_6 =>
      intro x_1 g_2 H locs ls hm_5 hf_4 hP hD hS hl
      refine lv_iload_n hx hb dX5_hangThreads_2 rfl (lv_at hl 3 rfl) ?_
      refine lv_bipush (v := 36) hx hb dX5_hangThreads_3 (by decide) ?_
      refine lv_icmp_ge (tgt := 21) hx hb dX5_hangThreads_5 (by decide) (fun c_8 => ?_) (fun c_8 => ?_)
      · have hc_8 := o_le (by decide : (36 : Int32).toInt = 36) (rfl : x_1.toInt = x_1.toInt) c_8
        refine lv_iconst (v := 0) hx hb dX5_hangThreads_21 (by decide) ?_
        refine lv_istore_n (lv' := [(3, .int 0), (0, .ref w), (1, .ref h), (2, .ref k)]) hx hb dX5_hangThreads_22 rfl hl (by decide) rfl (fun ls hl => ?_)
        have lp_23_10 : ∀ (n_11 : Nat) (x_9 : Int32) (g_10 : Nat → Int32) (H : Heap) (locs : List Loc) (ls : Array Slot), (-1) * x_9.toInt + 8 < (n_11 : Int) → (0 ≤ x_9.toInt ∧ x_9.toInt ≤ 8) → va_P D vwCl [(w, .inr (5, [.ref w_way_, .int w_waySize, .int w_tornSteps, .ref w_rings_, .ref w_hanging_, .ref w_costs_])), (w_way_, .inl (cy 1, 8, .inl w_way)), (w_rings_, .inl (cy 1, 9, .inl w_rings)), (w_hanging_, .inl (cy 1, 36, .inl g_10)), (w_costs_, .inl (cy 1, 36, .inl w_costs)), (h, .inr (6, [.int h_wide, .int h_high, .int h_law, .int h_spin, .int h_line, .int h_draught, .int h_books, .int h_rare, .ref h_quarrels_, .ref h_nameSizes_, .ref h_names_])), (h_quarrels_, .inl (cy 1, 8, .inl h_quarrels)), (h_nameSizes_, .inl (cy 1, 8, .inl h_nameSizes)), (h_names_, .inl (cy 1, 56, .inl h_names)), (k, .inr (8, [.ref k_x_, .ref k_y_, .ref k_web_, .ref k_asks_, .ref k_threads_, .int k_today, .int k_day, .ref k_seen_])), (k_x_, .inl (cy 1, 8, .inl k_x)), (k_y_, .inl (cy 1, 8, .inl k_y)), (k_web_, .inl (cy 1, 8, .inl k_web)), (k_asks_, .inl (cy 1, 8, .inl k_asks)), (k_threads_, .inl (cy 1, 64, .inl k_threads)), (k_seen_, .inl (cy 1, 8, .inl k_seen))] H → va_D A [(w, .inr (5, [.ref w_way_, .int w_waySize, .int w_tornSteps, .ref w_rings_, .ref w_hanging_, .ref w_costs_])), (w_way_, .inl (cy 1, 8, .inl w_way)), (w_rings_, .inl (cy 1, 9, .inl w_rings)), (w_hanging_, .inl (cy 1, 36, .inl g_10)), (w_costs_, .inl (cy 1, 36, .inl w_costs)), (h, .inr (6, [.int h_wide, .int h_high, .int h_law, .int h_spin, .int h_line, .int h_draught, .int h_books, .int h_rare, .ref h_quarrels_, .ref h_nameSizes_, .ref h_names_])), (h_quarrels_, .inl (cy 1, 8, .inl h_quarrels)), (h_nameSizes_, .inl (cy 1, 8, .inl h_nameSizes)), (h_names_, .inl (cy 1, 56, .inl h_names)), (k, .inr (8, [.ref k_x_, .ref k_y_, .ref k_web_, .ref k_asks_, .ref k_threads_, .int k_today, .int k_day, .ref k_seen_])), (k_x_, .inl (cy 1, 8, .inl k_x)), (k_y_, .inl (cy 1, 8, .inl k_y)), (k_web_, .inl (cy 1, 8, .inl k_web)), (k_asks_, .inl (cy 1, 8, .inl k_asks)), (k_threads_, .inl (cy 1, 64, .inl k_threads)), (k_seen_, .inl (cy 1, 8, .inl k_seen))] → va_S A s.heap H locs → lv_has ls 6 [(0, .ref w), (1, .ref h), (2, .ref k), (3, .int x_9)] → W p l e (Rm 2 47 0 0) s m args below meth c H locs cells slots Q (F0 m 23 ls []) := by
          intro n_11
          induction n_11 with
          | zero =>
            intro x_9 g_10 H locs ls hm_13 hf_12 hP hD hS hl
            exact absurd hm_13 (by omega)
          | succ n_11 ih_14 =>
            intro x_9 g_10 H locs ls hm_13 hf_12 hP hD hS hl
            refine lv_iload_n hx hb dX5_hangThreads_23 rfl (lv_at hl 3 rfl) ?_
            refine lv_aload_n hx hb dX5_hangThreads_24 rfl (lv_at hl 1 rfl) ?_
            refine q_get (v := .int h_books) C hP 5 6 rfl rfl inX6 (by decide) kF_RX5_53 rfl rfl dX5_hangThreads_25 ?_
            refine lv_icmp_ge (tgt := 85) hx hb dX5_hangThreads_28 (by decide) (fun c_16 => ?_) (fun c_16 => ?_)
            · have hc_16 := o_le (rfl : h_books.toInt = h_books.toInt) (rfl : x_9.toInt = x_9.toInt) c_16
              refine o_wq hQ ?_
              exact q_vret (rm := (Rm 2 47 0 0)) C hS g_10 trivial (q_subP hP [0, 1, 2, 3, 4, 5, 6, 7, 8, 9, 10, 11, 12, 13, 14, 15] rfl) (hD.sub [0, 1, 2, 3, 4, 5, 6, 7, 8, 9, 10, 11, 12, 13, 14, 15] (by decide) rfl) hroom.1 hroom.2 dX5_hangThreads_85
            · have hc_16 := o_nle (rfl : h_books.toInt = h_books.toInt) (rfl : x_9.toInt = x_9.toInt) c_16
              refine lv_iload_n hx hb dX5_hangThreads_31 rfl (lv_at hl 3 rfl) ?_
              refine lv_iconst (v := 1) hx hb dX5_hangThreads_32 (by decide) ?_
              refine lv_iadd hx hb dX5_hangThreads_33 ?_
              refine lv_topi (fun z_17 hz_17 => ?_)
              have hz_17 := o_add hz_17 (rfl : x_9.toInt = x_9.toInt) (by decide : (1 : Int32).toInt = 1) (by omega) (by omega)
              refine lv_istore (lv' := [(4, .int z_17), (0, .ref w), (1, .ref h), (2, .ref k), (3, .int x_9)]) hx hb dX5_hangThreads_34 hl (by decide) rfl (fun ls hl => ?_)
              have lp_36_19 : ∀ (n_20 : Nat) (x_18 : Int32) (g_19 : Nat → Int32) (H : Heap) (locs : List Loc) (ls : Array Slot), (-1) * x_18.toInt + 8 < (n_20 : Int) → (1 ≤ x_18.toInt ∧ x_18.toInt ≤ 8) → va_P D vwCl [(w, .inr (5, [.ref w_way_, .int w_waySize, .int w_tornSteps, .ref w_rings_, .ref w_hanging_, .ref w_costs_])), (w_way_, .inl (cy 1, 8, .inl w_way)), (w_rings_, .inl (cy 1, 9, .inl w_rings)), (w_hanging_, .inl (cy 1, 36, .inl g_19)), (w_costs_, .inl (cy 1, 36, .inl w_costs)), (h, .inr (6, [.int h_wide, .int h_high, .int h_law, .int h_spin, .int h_line, .int h_draught, .int h_books, .int h_rare, .ref h_quarrels_, .ref h_nameSizes_, .ref h_names_])), (h_quarrels_, .inl (cy 1, 8, .inl h_quarrels)), (h_nameSizes_, .inl (cy 1, 8, .inl h_nameSizes)), (h_names_, .inl (cy 1, 56, .inl h_names)), (k, .inr (8, [.ref k_x_, .ref k_y_, .ref k_web_, .ref k_asks_, .ref k_threads_, .int k_today, .int k_day, .ref k_seen_])), (k_x_, .inl (cy 1, 8, .inl k_x)), (k_y_, .inl (cy 1, 8, .inl k_y)), (k_web_, .inl (cy 1, 8, .inl k_web)), (k_asks_, .inl (cy 1, 8, .inl k_asks)), (k_threads_, .inl (cy 1, 64, .inl k_threads)), (k_seen_, .inl (cy 1, 8, .inl k_seen))] H → va_D A [(w, .inr (5, [.ref w_way_, .int w_waySize, .int w_tornSteps, .ref w_rings_, .ref w_hanging_, .ref w_costs_])), (w_way_, .inl (cy 1, 8, .inl w_way)), (w_rings_, .inl (cy 1, 9, .inl w_rings)), (w_hanging_, .inl (cy 1, 36, .inl g_19)), (w_costs_, .inl (cy 1, 36, .inl w_costs)), (h, .inr (6, [.int h_wide, .int h_high, .int h_law, .int h_spin, .int h_line, .int h_draught, .int h_books, .int h_rare, .ref h_quarrels_, .ref h_nameSizes_, .ref h_names_])), (h_quarrels_, .inl (cy 1, 8, .inl h_quarrels)), (h_nameSizes_, .inl (cy 1, 8, .inl h_nameSizes)), (h_names_, .inl (cy 1, 56, .inl h_names)), (k, .inr (8, [.ref k_x_, .ref k_y_, .ref k_web_, .ref k_asks_, .ref k_threads_, .int k_today, .int k_day, .ref k_seen_])), (k_x_, .inl (cy 1, 8, .inl k_x)), (k_y_, .inl (cy 1, 8, .inl k_y)), (k_web_, .inl (cy 1, 8, .inl k_web)), (k_asks_, .inl (cy 1, 8, .inl k_asks)), (k_threads_, .inl (cy 1, 64, .inl k_threads)), (k_seen_, .inl (cy 1, 8, .inl k_seen))] → va_S A s.heap H locs → lv_has ls 6 [(0, .ref w), (1, .ref h), (2, .ref k), (3, .int x_9), (4, .int x_18)] → W p l e (Rm 2 47 0 0) s m args below meth c H locs cells slots Q (F0 m 36 ls []) := by
                intro n_20
                induction n_20 with
                | zero =>
                  intro x_18 g_19 H locs ls hm_22 hf_21 hP hD hS hl
                  exact absurd hm_22 (by omega)
                | succ n_20 ih_23 =>
                  intro x_18 g_19 H locs ls hm_22 hf_21 hP hD hS hl
                  refine lv_iload hx hb dX5_hangThreads_36 (lv_at hl 4 rfl) ?_
                  refine lv_aload_n hx hb dX5_hangThreads_38 rfl (lv_at hl 1 rfl) ?_
                  refine q_get (v := .int h_books) C hP 5 6 rfl rfl inX6 (by decide) kF_RX5_53 rfl rfl dX5_hangThreads_39 ?_
                  refine lv_icmp_ge (tgt := 79) hx hb dX5_hangThreads_42 (by decide) (fun c_25 => ?_) (fun c_25 => ?_)
                  · have hc_25 := o_le (rfl : h_books.toInt = h_books.toInt) (rfl : x_18.toInt = x_18.toInt) c_25
                    obtain ⟨z_26, hz_26⟩ : ∃ z : Int32, z = x_9 + 1 := ⟨_, rfl⟩
                    refine lv_iinc (v := z_26) (lv' := [(3, .int z_26), (0, .ref w), (1, .ref h), (2, .ref k), (4, .int x_18)]) hx hb dX5_hangThreads_79 hl (k := 3) rfl hz_26.symm (by decide) rfl (fun ls hl => ?_)
                    have hz_26 := o_add hz_26 (rfl : x_9.toInt = x_9.toInt) (by decide : (1 : Int32).toInt = 1) (by omega) (by omega)
                    refine lv_goto (tgt := 23) hx hb dX5_hangThreads_82 (by decide) ?_
                    exact ih_14 z_26 g_19 H locs ls (by omega) (by omega) hP hD hS (lv_sub hl [1, 2, 3, 0] rfl)
                  · have hc_25 := o_nle (rfl : h_books.toInt = h_books.toInt) (rfl : x_18.toInt = x_18.toInt) c_25
                    refine lv_aload_n hx hb dX5_hangThreads_45 rfl (lv_at hl 2 rfl) ?_
                    refine q_get (v := .ref k_threads_) C hP 9 4 rfl rfl inX8 (by decide) kF_RX5_76 rfl rfl dX5_hangThreads_46 ?_
                    refine lv_iload_n hx hb dX5_hangThreads_49 rfl (lv_at hl 3 rfl) ?_
                    refine lv_iload hx hb dX5_hangThreads_50 (lv_at hl 4 rfl) ?_
                    refine q_ai (wr := [(w, .inr (5, [.ref w_way_, .int w_waySize, .int w_tornSteps, .ref w_rings_, .ref w_hanging_, .ref w_costs_])), (w_way_, .inl (cy 1, 8, .inl w_way)), (w_rings_, .inl (cy 1, 9, .inl w_rings)), (w_hanging_, .inl (cy 1, 36, .inl g_19)), (w_costs_, .inl (cy 1, 36, .inl w_costs)), (h, .inr (6, [.int h_wide, .int h_high, .int h_law, .int h_spin, .int h_line, .int h_draught, .int h_books, .int h_rare, .ref h_quarrels_, .ref h_nameSizes_, .ref h_names_])), (h_quarrels_, .inl (cy 1, 8, .inl h_quarrels)), (h_nameSizes_, .inl (cy 1, 8, .inl h_nameSizes)), (h_names_, .inl (cy 1, 56, .inl h_names)), (k, .inr (8, [.ref k_x_, .ref k_y_, .ref k_web_, .ref k_asks_, .ref k_threads_, .int k_today, .int k_day, .ref k_seen_])), (k_x_, .inl (cy 1, 8, .inl k_x)), (k_y_, .inl (cy 1, 8, .inl k_y)), (k_web_, .inl (cy 1, 8, .inl k_web)), (k_asks_, .inl (cy 1, 8, .inl k_asks)), (k_threads_, .inl (cy 1, 64, .inl k_threads)), (k_seen_, .inl (cy 1, 8, .inl k_seen))]) (r_SN (rm := (Rm 0 0 0 0)) (As := [.int x_9, .int x_18]) (rest := [.ref k_threads_]) (wc := []) C hS (q_subP hP [] rfl) (hD.sub [] (by decide) rfl) (o_pairPlace l D cy x_9 x_18 _ (by omega) (by omega)) kwS_X10_pairPlace kN_RX5_79 ⟨Nat.le_of_ble_eq_true rfl, Nat.le_of_ble_eq_true rfl⟩ rfl hl.1 rfl (Nat.le_of_ble_eq_true rfl) dX5_hangThreads_52 ⟨hroom.1, hroom.2⟩) C.2.2.2.2.2.2.1 hP hD hS [] [0, 1, 2, 3, 4, 5, 6, 7, 8, 9, 10, 11, 12, 13, 14, 15] rfl rfl (by decide) (by decide) (fun r_28 u_27 H locs hw_29 hP hD hS => ?_)
                    have hp_29 : 0 ≤ r_28.toInt ∧ r_28.toInt ≤ 63 := hw_29
                    refine q_iald (v := k_threads r_28.toNatClampNeg) C hP 14 rfl (o_in (rfl : r_28.toInt = r_28.toInt) (by omega) (by omega)) rfl dX5_hangThreads_55 ?_
                    refine lv_topi (fun z_31 ez_31 => ?_)
                    refine lv_istore (lv' := [(5, .int z_31), (0, .ref w), (1, .ref h), (2, .ref k), (3, .int x_9), (4, .int x_18)]) hx hb dX5_hangThreads_56 hl (by decide) rfl (fun ls hl => ?_)
                    refine lv_iload hx hb dX5_hangThreads_58 (lv_at hl 0 rfl) ?_
                    refine lv_if_le (tgt := 73) hx hb dX5_hangThreads_60 (by decide) (fun c_32 => ?_) (fun c_32 => ?_)
                    · have hc_32 := o_le (rfl : z_31.toInt = z_31.toInt) (by decide : (0 : Int32).toInt = 0) c_32
                      obtain ⟨z_33, hz_33⟩ : ∃ z : Int32, z = x_18 + 1 := ⟨_, rfl⟩
                      refine lv_iinc (v := z_33) (lv' := [(4, .int z_33), (5, .int z_31), (0, .ref w), (1, .ref h), (2, .ref k), (3, .int x_9)]) hx hb dX5_hangThreads_73 hl (k := 5) rfl hz_33.symm (by decide) rfl (fun ls hl => ?_)
                      have hz_33 := o_add hz_33 (rfl : x_18.toInt = x_18.toInt) (by decide : (1 : Int32).toInt = 1) (by omega) (by omega)
                      refine lv_goto (tgt := 36) hx hb dX5_hangThreads_76 (by decide) ?_
                      exact ih_23 z_33 g_19 H locs ls (by omega) (by omega) hP hD hS (lv_sub hl [2, 3, 4, 5, 0] rfl)
                    · have hc_32 := o_nle (rfl : z_31.toInt = z_31.toInt) (by decide : (0 : Int32).toInt = 0) c_32
                      refine lv_aload_n hx hb dX5_hangThreads_63 rfl (lv_at hl 1 rfl) ?_
                      refine lv_aload_n hx hb dX5_hangThreads_64 rfl (lv_at hl 3 rfl) ?_
                      refine lv_iload_n hx hb dX5_hangThreads_65 rfl (lv_at hl 4 rfl) ?_
                      refine lv_iload hx hb dX5_hangThreads_66 (lv_at hl 5 rfl) ?_
                      refine lv_iload hx hb dX5_hangThreads_68 (lv_at hl 0 rfl) ?_
                      refine q_av (wr := [(h, .inr (6, [.int h_wide, .int h_high, .int h_law, .int h_spin, .int h_line, .int h_draught, .int h_books, .int h_rare, .ref h_quarrels_, .ref h_nameSizes_, .ref h_names_])), (h_quarrels_, .inl (cy 1, 8, .inl h_quarrels)), (h_nameSizes_, .inl (cy 1, 8, .inl h_nameSizes)), (h_names_, .inl (cy 1, 56, .inl h_names))]) (r_V (rm := (Rm 1 22 0 0)) (q0 := 0) (As := [.ref k, .int x_9, .int x_18, .int z_31]) (rest := []) (wc := [(w, .inr (5, [.ref w_way_, .int w_waySize, .int w_tornSteps, .ref w_rings_, .ref w_hanging_, .ref w_costs_])), (w_way_, .inl (cy 1, 8, .inl w_way)), (w_rings_, .inl (cy 1, 9, .inl w_rings)), (w_hanging_, .inl (cy 1, 36, .inl g_19)), (w_costs_, .inl (cy 1, 36, .inl w_costs)), (k, .inr (8, [.ref k_x_, .ref k_y_, .ref k_web_, .ref k_asks_, .ref k_threads_, .int k_today, .int k_day, .ref k_seen_])), (k_x_, .inl (cy 1, 8, .inl k_x)), (k_y_, .inl (cy 1, 8, .inl k_y)), (k_web_, .inl (cy 1, 8, .inl k_web)), (k_asks_, .inl (cy 1, 8, .inl k_asks)), (k_threads_, .inl (cy 1, 64, .inl k_threads)), (k_seen_, .inl (cy 1, 8, .inl k_seen))]) C hS (q_subP hP [0, 1, 2, 3, 4, 9, 10, 11, 12, 13, 14, 15] rfl) (hD.sub [0, 1, 2, 3, 4, 9, 10, 11, 12, 13, 14, 15] (by decide) rfl) (o_hangOne l D cy w k x_9 x_18 z_31 w_way_ w_waySize w_tornSteps w_rings_ w_hanging_ w_costs_ w_way w_rings g_19 w_costs k_x_ k_y_ k_web_ k_asks_ k_threads_ k_today k_day k_seen_ k_x k_y k_web k_asks k_threads k_seen _ (by omega) (by omega) (by omega) hR0 hR2 hR3) kwV_X5_hangOne kM_RX5_82 rfl rfl ⟨Nat.le_of_ble_eq_true rfl, Nat.le_of_ble_eq_true rfl⟩ rfl hl.1 rfl (Nat.le_of_ble_eq_true rfl) dX5_hangThreads_70 ⟨hroom.1, hroom.2⟩) C.2.2.2.2.2.2.1 hP hD hS [0, 1, 2, 3, 4, 9, 10, 11, 12, 13, 14, 15] [5, 6, 7, 8] rfl rfl (by decide) (by decide) (fun u_34 H locs hw_36 hP hD hS => ?_)
                      obtain ⟨g_37, rfl⟩ : ∃ z, z = u_34 := ⟨_, rfl⟩
                      have hP : va_P D vwCl [(h, .inr (6, [.int h_wide, .int h_high, .int h_law, .int h_spin, .int h_line, .int h_draught, .int h_books, .int h_rare, .ref h_quarrels_, .ref h_nameSizes_, .ref h_names_])), (h_quarrels_, .inl (cy 1, 8, .inl h_quarrels)), (h_nameSizes_, .inl (cy 1, 8, .inl h_nameSizes)), (h_names_, .inl (cy 1, 56, .inl h_names)), (w, .inr (5, [.ref w_way_, .int w_waySize, .int w_tornSteps, .ref w_rings_, .ref w_hanging_, .ref w_costs_])), (w_way_, .inl (cy 1, 8, .inl w_way)), (w_rings_, .inl (cy 1, 9, .inl w_rings)), (w_hanging_, .inl (cy 1, 36, .inl g_37)), (w_costs_, .inl (cy 1, 36, .inl w_costs)), (k, .inr (8, [.ref k_x_, .ref k_y_, .ref k_web_, .ref k_asks_, .ref k_threads_, .int k_today, .int k_day, .ref k_seen_])), (k_x_, .inl (cy 1, 8, .inl k_x)), (k_y_, .inl (cy 1, 8, .inl k_y)), (k_web_, .inl (cy 1, 8, .inl k_web)), (k_asks_, .inl (cy 1, 8, .inl k_asks)), (k_threads_, .inl (cy 1, 64, .inl k_threads)), (k_seen_, .inl (cy 1, 8, .inl k_seen))] H := hP
                      have hD : va_D A [(h, .inr (6, [.int h_wide, .int h_high, .int h_law, .int h_spin, .int h_line, .int h_draught, .int h_books, .int h_rare, .ref h_quarrels_, .ref h_nameSizes_, .ref h_names_])), (h_quarrels_, .inl (cy 1, 8, .inl h_quarrels)), (h_nameSizes_, .inl (cy 1, 8, .inl h_nameSizes)), (h_names_, .inl (cy 1, 56, .inl h_names)), (w, .inr (5, [.ref w_way_, .int w_waySize, .int w_tornSteps, .ref w_rings_, .ref w_hanging_, .ref w_costs_])), (w_way_, .inl (cy 1, 8, .inl w_way)), (w_rings_, .inl (cy 1, 9, .inl w_rings)), (w_hanging_, .inl (cy 1, 36, .inl g_37)), (w_costs_, .inl (cy 1, 36, .inl w_costs)), (k, .inr (8, [.ref k_x_, .ref k_y_, .ref k_web_, .ref k_asks_, .ref k_threads_, .int k_today, .int k_day, .ref k_seen_])), (k_x_, .inl (cy 1, 8, .inl k_x)), (k_y_, .inl (cy 1, 8, .inl k_y)), (k_web_, .inl (cy 1, 8, .inl k_web)), (k_asks_, .inl (cy 1, 8, .inl k_asks)), (k_threads_, .inl (cy 1, 64, .inl k_threads)), (k_seen_, .inl (cy 1, 8, .inl k_seen))] := hD
                      obtain ⟨z_38, hz_38⟩ : ∃ z : Int32, z = x_18 + 1 := ⟨_, rfl⟩
                      refine lv_iinc (v := z_38) (lv' := [(4, .int z_38), (5, .int z_31), (0, .ref w), (1, .ref h), (2, .ref k), (3, .int x_9)]) hx hb dX5_hangThreads_73 hl (k := 5) rfl hz_38.symm (by decide) rfl (fun ls hl => ?_)
                      have hz_38 := o_add hz_38 (rfl : x_18.toInt = x_18.toInt) (by decide : (1 : Int32).toInt = 1) (by omega) (by omega)
                      refine lv_goto (tgt := 36) hx hb dX5_hangThreads_76 (by decide) ?_
                      exact ih_23 z_38 g_37 H locs ls (by omega) (by omega) (q_subP hP [4, 5, 6, 7, 8, 0, 1, 2, 3, 9, 10, 11, 12, 13, 14, 15] rfl) (hD.sub [4, 5, 6, 7, 8, 0, 1, 2, 3, 9, 10, 11, 12, 13, 14, 15] (by decide) rfl) hS (lv_sub hl [2, 3, 4, 5, 0] rfl)
              exact lp_36_19 (((-1) * z_17.toInt + 8 : Int).toNat + 1) z_17 g_10 H locs ls (by omega) (by omega) hP hD hS (lv_sub hl [1, 2, 3, 4, 0] rfl)
        exact lp_23_10 9 (0 : Int32) g_2 H locs ls (by have e0 : (0 : Int32).toInt = 0 := (by decide); omega) (by have e0 : (0 : Int32).toInt = 0 := (by decide); omega) hP hD hS (lv_sub hl [1, 2, 3, 0] rfl)
      · have hc_8 := o_nle (by decide : (36 : Int32).toInt = 36) (rfl : x_1.toInt = x_1.toInt) c_8
        refine lv_aload_n hx hb dX5_hangThreads_8 rfl (lv_at hl 0 rfl) ?_
        refine q_get (v := .ref w_hanging_) C hP 0 4 rfl rfl inX5 (by decide) kF_RX5_25 rfl rfl dX5_hangThreads_9 ?_
        refine lv_iload_n hx hb dX5_hangThreads_12 rfl (lv_at hl 3 rfl) ?_
        refine lv_iconst (v := 0) hx hb dX5_hangThreads_13 (by decide) ?_
        refine q_iast (g := upd g_2 x_1.toNatClampNeg 0) (w' := [(w, .inr (5, [.ref w_way_, .int w_waySize, .int w_tornSteps, .ref w_rings_, .ref w_hanging_, .ref w_costs_])), (w_way_, .inl (cy 1, 8, .inl w_way)), (w_rings_, .inl (cy 1, 9, .inl w_rings)), (w_hanging_, .inl (cy 1, 36, .inl (upd g_2 x_1.toNatClampNeg 0))), (w_costs_, .inl (cy 1, 36, .inl w_costs)), (h, .inr (6, [.int h_wide, .int h_high, .int h_law, .int h_spin, .int h_line, .int h_draught, .int h_books, .int h_rare, .ref h_quarrels_, .ref h_nameSizes_, .ref h_names_])), (h_quarrels_, .inl (cy 1, 8, .inl h_quarrels)), (h_nameSizes_, .inl (cy 1, 8, .inl h_nameSizes)), (h_names_, .inl (cy 1, 56, .inl h_names)), (k, .inr (8, [.ref k_x_, .ref k_y_, .ref k_web_, .ref k_asks_, .ref k_threads_, .int k_today, .int k_day, .ref k_seen_])), (k_x_, .inl (cy 1, 8, .inl k_x)), (k_y_, .inl (cy 1, 8, .inl k_y)), (k_web_, .inl (cy 1, 8, .inl k_web)), (k_asks_, .inl (cy 1, 8, .inl k_asks)), (k_threads_, .inl (cy 1, 64, .inl k_threads)), (k_seen_, .inl (cy 1, 8, .inl k_seen))]) C hP hD hS 3 rfl (o_in (rfl : x_1.toInt = x_1.toInt) (by omega) (by omega)) rfl rfl dX5_hangThreads_14 (fun H locs hP hD hS => ?_)
        generalize upd g_2 x_1.toNatClampNeg 0 = g_39 at hP hD 
        have hP : va_P D vwCl [(w, .inr (5, [.ref w_way_, .int w_waySize, .int w_tornSteps, .ref w_rings_, .ref w_hanging_, .ref w_costs_])), (w_way_, .inl (cy 1, 8, .inl w_way)), (w_rings_, .inl (cy 1, 9, .inl w_rings)), (w_hanging_, .inl (cy 1, 36, .inl g_39)), (w_costs_, .inl (cy 1, 36, .inl w_costs)), (h, .inr (6, [.int h_wide, .int h_high, .int h_law, .int h_spin, .int h_line, .int h_draught, .int h_books, .int h_rare, .ref h_quarrels_, .ref h_nameSizes_, .ref h_names_])), (h_quarrels_, .inl (cy 1, 8, .inl h_quarrels)), (h_nameSizes_, .inl (cy 1, 8, .inl h_nameSizes)), (h_names_, .inl (cy 1, 56, .inl h_names)), (k, .inr (8, [.ref k_x_, .ref k_y_, .ref k_web_, .ref k_asks_, .ref k_threads_, .int k_today, .int k_day, .ref k_seen_])), (k_x_, .inl (cy 1, 8, .inl k_x)), (k_y_, .inl (cy 1, 8, .inl k_y)), (k_web_, .inl (cy 1, 8, .inl k_web)), (k_asks_, .inl (cy 1, 8, .inl k_asks)), (k_threads_, .inl (cy 1, 64, .inl k_threads)), (k_seen_, .inl (cy 1, 8, .inl k_seen))] H := hP
        have hD : va_D A [(w, .inr (5, [.ref w_way_, .int w_waySize, .int w_tornSteps, .ref w_rings_, .ref w_hanging_, .ref w_costs_])), (w_way_, .inl (cy 1, 8, .inl w_way)), (w_rings_, .inl (cy 1, 9, .inl w_rings)), (w_hanging_, .inl (cy 1, 36, .inl g_39)), (w_costs_, .inl (cy 1, 36, .inl w_costs)), (h, .inr (6, [.int h_wide, .int h_high, .int h_law, .int h_spin, .int h_line, .int h_draught, .int h_books, .int h_rare, .ref h_quarrels_, .ref h_nameSizes_, .ref h_names_])), (h_quarrels_, .inl (cy 1, 8, .inl h_quarrels)), (h_nameSizes_, .inl (cy 1, 8, .inl h_nameSizes)), (h_names_, .inl (cy 1, 56, .inl h_names)), (k, .inr (8, [.ref k_x_, .ref k_y_, .ref k_web_, .ref k_asks_, .ref k_threads_, .int k_today, .int k_day, .ref k_seen_])), (k_x_, .inl (cy 1, 8, .inl k_x)), (k_y_, .inl (cy 1, 8, .inl k_y)), (k_web_, .inl (cy 1, 8, .inl k_web)), (k_asks_, .inl (cy 1, 8, .inl k_asks)), (k_threads_, .inl (cy 1, 64, .inl k_threads)), (k_seen_, .inl (cy 1, 8, .inl k_seen))] := hD
        obtain ⟨z_40, hz_40⟩ : ∃ z : Int32, z = x_1 + 1 := ⟨_, rfl⟩
        refine lv_iinc (v := z_40) (lv' := [(3, .int z_40), (0, .ref w), (1, .ref h), (2, .ref k)]) hx hb dX5_hangThreads_15 hl (k := 3) rfl hz_40.symm (by decide) rfl (fun ls hl => ?_)
        have hz_40 := o_add hz_40 (rfl : x_1.toInt = x_1.toInt) (by decide : (1 : Int32).toInt = 1) (by omega) (by omega)
        refine lv_goto (tgt := 2) hx hb dX5_hangThreads_18 (by decide) ?_
        exact ih_6 z_40 g_39 H locs ls (by omega) (by omega) hP hD hS (lv_sub hl [1, 2, 3, 0] rfl)
  exact lp_2_2 37 (0 : Int32) w_hanging H locs ls (by have e0 : (0 : Int32).toInt = 0 := (by decide); omega) (by have e0 : (0 : Int32).toInt = 0 := (by decide); omega) hP hD hS (lv_sub hl [1, 2, 3, 0] rfl)
theorem o_hangThreads (l : Launch) (D : va_G) (cy : Nat → ClassId) (w : Nat) (h : Nat) (k : Nat) (w_way_ : Nat) (w_waySize : Int32) (w_tornSteps : Int32) (w_rings_ : Nat) (w_hanging_ : Nat) (w_costs_ : Nat) (w_way : Nat → Int32) (w_rings : Nat → Int32) (w_hanging : Nat → Int32) (w_costs : Nat → Int32) (h_wide : Int32) (h_high : Int32) (h_law : Int32) (h_spin : Int32) (h_line : Int32) (h_draught : Int32) (h_books : Int32) (h_rare : Int32) (h_quarrels_ : Nat) (h_nameSizes_ : Nat) (h_names_ : Nat) (h_quarrels : Nat → Int32) (h_nameSizes : Nat → Int32) (h_names : Nat → Int32) (k_x_ : Nat) (k_y_ : Nat) (k_web_ : Nat) (k_asks_ : Nat) (k_threads_ : Nat) (k_today : Int32) (k_day : Int32) (k_seen_ : Nat) (k_x : Nat → Int32) (k_y : Nat → Int32) (k_web : Nat → Int32) (k_asks : Nat → Int32) (k_threads : Nat → Int32) (k_seen : Nat → Int32) (sz : Nat) (hb0 : w_waySize.toInt ≤ 8) (hb1 : 0 ≤ h_wide.toInt ∧ h_wide.toInt ≤ 6) (hb2 : 0 ≤ h_high.toInt ∧ h_high.toInt ≤ 6) (hb3 : 0 ≤ h_books.toInt ∧ h_books.toInt ≤ 8) (hR0 : Rg w_way 0 8 0 7) (hR1 : Rg h_nameSizes 0 8 (-900) 7) (hR2 : Rg k_x 0 8 0 5) (hR3 : Rg k_y 0 8 0 5) : MV l yX5_hangThreads cX5_hangThreads 6 (Rm 2 47 0 0) D cy [.ref w, .ref h, .ref k] sz [(w, .inr (5, [.ref w_way_, .int w_waySize, .int w_tornSteps, .ref w_rings_, .ref w_hanging_, .ref w_costs_])), (w_way_, .inl (cy 1, 8, .inl w_way)), (w_rings_, .inl (cy 1, 9, .inl w_rings)), (w_hanging_, .inl (cy 1, 36, .inl w_hanging)), (w_costs_, .inl (cy 1, 36, .inl w_costs)), (h, .inr (6, [.int h_wide, .int h_high, .int h_law, .int h_spin, .int h_line, .int h_draught, .int h_books, .int h_rare, .ref h_quarrels_, .ref h_nameSizes_, .ref h_names_])), (h_quarrels_, .inl (cy 1, 8, .inl h_quarrels)), (h_nameSizes_, .inl (cy 1, 8, .inl h_nameSizes)), (h_names_, .inl (cy 1, 56, .inl h_names)), (k, .inr (8, [.ref k_x_, .ref k_y_, .ref k_web_, .ref k_asks_, .ref k_threads_, .int k_today, .int k_day, .ref k_seen_])), (k_x_, .inl (cy 1, 8, .inl k_x)), (k_y_, .inl (cy 1, 8, .inl k_y)), (k_web_, .inl (cy 1, 8, .inl k_web)), (k_asks_, .inl (cy 1, 8, .inl k_asks)), (k_threads_, .inl (cy 1, 64, .inl k_threads)), (k_seen_, .inl (cy 1, 8, .inl k_seen))] (fun u : (Nat → Int32) => True) (fun u : (Nat → Int32) => [(w, .inr (5, [.ref w_way_, .int w_waySize, .int w_tornSteps, .ref w_rings_, .ref w_hanging_, .ref w_costs_])), (w_way_, .inl (cy 1, 8, .inl w_way)), (w_rings_, .inl (cy 1, 9, .inl w_rings)), (w_hanging_, .inl (cy 1, 36, .inl u)), (w_costs_, .inl (cy 1, 36, .inl w_costs)), (h, .inr (6, [.int h_wide, .int h_high, .int h_law, .int h_spin, .int h_line, .int h_draught, .int h_books, .int h_rare, .ref h_quarrels_, .ref h_nameSizes_, .ref h_names_])), (h_quarrels_, .inl (cy 1, 8, .inl h_quarrels)), (h_nameSizes_, .inl (cy 1, 8, .inl h_nameSizes)), (h_names_, .inl (cy 1, 56, .inl h_names)), (k, .inr (8, [.ref k_x_, .ref k_y_, .ref k_web_, .ref k_asks_, .ref k_threads_, .int k_today, .int k_day, .ref k_seen_])), (k_x_, .inl (cy 1, 8, .inl k_x)), (k_y_, .inl (cy 1, 8, .inl k_y)), (k_web_, .inl (cy 1, 8, .inl k_web)), (k_asks_, .inl (cy 1, 8, .inl k_asks)), (k_threads_, .inl (cy 1, 64, .inl k_threads)), (k_seen_, .inl (cy 1, 8, .inl k_seen))]) := by
  refine MV.enter (by decide) (Nat.le_of_ble_eq_true rfl) ?_
  intro p e s m below meth c ls A hsz hAe C hP hD hS hl
  exact b_o_hangThreads l D cy w h k w_way_ w_waySize w_tornSteps w_rings_ w_hanging_ w_costs_ w_way w_rings w_hanging w_costs h_wide h_high h_law h_spin h_line h_draught h_books h_rare h_quarrels_ h_nameSizes_ h_names_ h_quarrels h_nameSizes h_names k_x_ k_y_ k_web_ k_asks_ k_threads_ k_today k_day k_seen_ k_x k_y k_web k_asks k_threads k_seen hb0 hb1 hb2 hb3 hR0 hR1 hR2 hR3 ⟨Nat.le_of_ble_eq_true rfl, Nat.le_of_ble_eq_true rfl⟩ C rfl _ _ ls hP hD hS hl
set_option maxHeartbeats 4000000 in
set_option maxRecDepth 100000 in
theorem b_o_costAt (l : Launch) (D : va_G) (cy : Nat → ClassId) (w : Nat) (h : Nat) (a : Int32) (b : Int32) (w_way_ : Nat) (w_waySize : Int32) (w_tornSteps : Int32) (w_rings_ : Nat) (w_hanging_ : Nat) (w_costs_ : Nat) (w_way : Nat → Int32) (w_rings : Nat → Int32) (w_hanging : Nat → Int32) (w_costs : Nat → Int32) (h_wide : Int32) (h_high : Int32) (h_law : Int32) (h_spin : Int32) (h_line : Int32) (h_draught : Int32) (h_books : Int32) (h_rare : Int32) (h_quarrels_ : Nat) (h_nameSizes_ : Nat) (h_names_ : Nat) (h_quarrels : Nat → Int32) (h_nameSizes : Nat → Int32) (h_names : Nat → Int32) (hb0 : w_waySize.toInt ≤ 8) (hb1 : 0 ≤ h_wide.toInt ∧ h_wide.toInt ≤ 6) (hb2 : 0 ≤ h_high.toInt ∧ h_high.toInt ≤ 6) (hb3 : 0 ≤ h_books.toInt ∧ h_books.toInt ≤ 8) (hR0 : Rg w_way 0 8 0 7) (hR1 : Rg h_nameSizes 0 8 (-900) 7) {p : Program} {e : Env} {s : State} {m : MethodId} {args : Array Value} {below : List Frame} {meth : Method} {c : Code} {A : Nat → Prop} {Q : State → Prop} {cells slots : Nat} (hroom : cells ≤ ((Rm 2 43 0 0)).cells ∧ slots ≤ ((Rm 2 43 0 0)).slots) (C : Cx p s m args meth c cX5_costAt 4 (some .int) RX5 "costAt" D cy A) (hQ : Q = MQ below (va_Qi (fun (r : Int32) (u : Unit) => True) (Bx D A (fun u : Unit => [(w, .inr (5, [.ref w_way_, .int w_waySize, .int w_tornSteps, .ref w_rings_, .ref w_hanging_, .ref w_costs_])), (w_way_, .inl (cy 1, 8, .inl w_way)), (w_rings_, .inl (cy 1, 9, .inl w_rings)), (w_hanging_, .inl (cy 1, 36, .inl w_hanging)), (w_costs_, .inl (cy 1, 36, .inl w_costs)), (h, .inr (6, [.int h_wide, .int h_high, .int h_law, .int h_spin, .int h_line, .int h_draught, .int h_books, .int h_rare, .ref h_quarrels_, .ref h_nameSizes_, .ref h_names_])), (h_quarrels_, .inl (cy 1, 8, .inl h_quarrels)), (h_nameSizes_, .inl (cy 1, 8, .inl h_nameSizes)), (h_names_, .inl (cy 1, 56, .inl h_names))])) A) args s ((Rm 2 43 0 0)).cells ((Rm 2 43 0 0)).slots A) (H : Heap) (locs : List Loc) (ls : Array Slot) (hP : va_P D vwCl [(w, .inr (5, [.ref w_way_, .int w_waySize, .int w_tornSteps, .ref w_rings_, .ref w_hanging_, .ref w_costs_])), (w_way_, .inl (cy 1, 8, .inl w_way)), (w_rings_, .inl (cy 1, 9, .inl w_rings)), (w_hanging_, .inl (cy 1, 36, .inl w_hanging)), (w_costs_, .inl (cy 1, 36, .inl w_costs)), (h, .inr (6, [.int h_wide, .int h_high, .int h_law, .int h_spin, .int h_line, .int h_draught, .int h_books, .int h_rare, .ref h_quarrels_, .ref h_nameSizes_, .ref h_names_])), (h_quarrels_, .inl (cy 1, 8, .inl h_quarrels)), (h_nameSizes_, .inl (cy 1, 8, .inl h_nameSizes)), (h_names_, .inl (cy 1, 56, .inl h_names))] H) (hD : va_D A [(w, .inr (5, [.ref w_way_, .int w_waySize, .int w_tornSteps, .ref w_rings_, .ref w_hanging_, .ref w_costs_])), (w_way_, .inl (cy 1, 8, .inl w_way)), (w_rings_, .inl (cy 1, 9, .inl w_rings)), (w_hanging_, .inl (cy 1, 36, .inl w_hanging)), (w_costs_, .inl (cy 1, 36, .inl w_costs)), (h, .inr (6, [.int h_wide, .int h_high, .int h_law, .int h_spin, .int h_line, .int h_draught, .int h_books, .int h_rare, .ref h_quarrels_, .ref h_nameSizes_, .ref h_names_])), (h_quarrels_, .inl (cy 1, 8, .inl h_quarrels)), (h_nameSizes_, .inl (cy 1, 8, .inl h_nameSizes)), (h_names_, .inl (cy 1, 56, .inl h_names))]) (hS : va_S A s.heap H locs) (hl : lv_has ls 4 [(0, .ref w), (1, .ref h), (2, .int a), (3, .int b)]) : W p l e (Rm 2 43 0 0) s m args below meth c H locs cells slots Q (F0 m 0 ls []) := by
  have hx := C.1
  have hb := C.2.1
  have hqa := o_rng a
  have hqb := o_rng b
  refine lv_aload_n hx hb dX5_costAt_0 rfl (lv_at hl 1 rfl) ?_
  refine lv_iload_n hx hb dX5_costAt_1 rfl (lv_at hl 2 rfl) ?_
  refine lv_iload_n hx hb dX5_costAt_2 rfl (lv_at hl 3 rfl) ?_
  refine q_ai (wr := [(w, .inr (5, [.ref w_way_, .int w_waySize, .int w_tornSteps, .ref w_rings_, .ref w_hanging_, .ref w_costs_])), (w_way_, .inl (cy 1, 8, .inl w_way)), (w_rings_, .inl (cy 1, 9, .inl w_rings)), (w_hanging_, .inl (cy 1, 36, .inl w_hanging)), (w_costs_, .inl (cy 1, 36, .inl w_costs))]) (r_V (rm := (Rm 1 21 0 0)) (q0 := 0) (As := [.int a, .int b]) (rest := []) (wc := [(h, .inr (6, [.int h_wide, .int h_high, .int h_law, .int h_spin, .int h_line, .int h_draught, .int h_books, .int h_rare, .ref h_quarrels_, .ref h_nameSizes_, .ref h_names_])), (h_quarrels_, .inl (cy 1, 8, .inl h_quarrels)), (h_nameSizes_, .inl (cy 1, 8, .inl h_nameSizes)), (h_names_, .inl (cy 1, 56, .inl h_names))]) C hS (q_subP hP [5, 6, 7, 8] rfl) (hD.sub [5, 6, 7, 8] (by decide) rfl) (o_hasCell l D cy h a b h_wide h_high h_law h_spin h_line h_draught h_books h_rare h_quarrels_ h_nameSizes_ h_names_ h_quarrels h_nameSizes h_names _ (by omega) (by omega) (by omega) hR1) kwV_X6_hasCell kM_RX5_103 rfl rfl ⟨Nat.le_of_ble_eq_true rfl, Nat.le_of_ble_eq_true rfl⟩ rfl hl.1 rfl (Nat.le_of_ble_eq_true rfl) dX5_costAt_3 ⟨hroom.1, hroom.2⟩) C.2.2.2.2.2.2.1 hP hD hS [5, 6, 7, 8] [0, 1, 2, 3, 4] rfl rfl (by decide) (by decide) (fun r_2 u_1 H locs hw_3 hP hD hS => ?_)
  have hp_3 : 0 ≤ r_2.toInt ∧ r_2.toInt ≤ 1 := hw_3.1
  have hp_4 : 0 ≤ a.toInt + (-17179869184) * r_2.toInt + 17179869184 ∧ 0 ≤ h_wide.toInt + (-1) * a.toInt + (-17179869184) * r_2.toInt + 17179869183 ∧ 0 ≤ b.toInt + (-17179869184) * r_2.toInt + 17179869184 ∧ 0 ≤ h_high.toInt + (-1) * b.toInt + (-17179869184) * r_2.toInt + 17179869183 := hw_3.2
  refine lv_if_eq (tgt := 22) hx hb dX5_costAt_6 (by decide) (fun c_6 => ?_) (fun c_6 => ?_)
  · have hc_6 := o_eq (rfl : r_2.toInt = r_2.toInt) (by decide : (0 : Int32).toInt = 0) c_6
    refine q_ldc (v := 1000000000) C kC_RX5_62 dX5_costAt_22 ?_
    refine o_wq hQ ?_
    exact q_iret (rm := (Rm 2 43 0 0)) C hS () rfl trivial (q_subP hP [0, 1, 2, 3, 4, 5, 6, 7, 8] rfl) (hD.sub [0, 1, 2, 3, 4, 5, 6, 7, 8] (by decide) rfl) hroom.1 hroom.2 dX5_costAt_24
  · have hc_6 := o_ne (rfl : r_2.toInt = r_2.toInt) (by decide : (0 : Int32).toInt = 0) c_6
    have hnc_6 : 0 ≤ r_2.toInt + (-1) := by rcases Int.lt_or_gt_of_ne hc_6 with h9 | h9 <;> omega
    refine lv_aload_n hx hb dX5_costAt_9 rfl (lv_at hl 0 rfl) ?_
    refine q_get (v := .ref w_costs_) C hP 0 5 rfl rfl inX5 (by decide) kF_RX5_28 rfl rfl dX5_costAt_10 ?_
    refine lv_iload_n hx hb dX5_costAt_13 rfl (lv_at hl 2 rfl) ?_
    refine lv_iload_n hx hb dX5_costAt_14 rfl (lv_at hl 3 rfl) ?_
    refine q_ai (wr := [(w, .inr (5, [.ref w_way_, .int w_waySize, .int w_tornSteps, .ref w_rings_, .ref w_hanging_, .ref w_costs_])), (w_way_, .inl (cy 1, 8, .inl w_way)), (w_rings_, .inl (cy 1, 9, .inl w_rings)), (w_hanging_, .inl (cy 1, 36, .inl w_hanging)), (w_costs_, .inl (cy 1, 36, .inl w_costs)), (h, .inr (6, [.int h_wide, .int h_high, .int h_law, .int h_spin, .int h_line, .int h_draught, .int h_books, .int h_rare, .ref h_quarrels_, .ref h_nameSizes_, .ref h_names_])), (h_quarrels_, .inl (cy 1, 8, .inl h_quarrels)), (h_nameSizes_, .inl (cy 1, 8, .inl h_nameSizes)), (h_names_, .inl (cy 1, 56, .inl h_names))]) (r_S (rm := (Rm 0 0 0 0)) (As := [.int a, .int b]) (rest := [.ref w_costs_]) (wc := []) C hS (q_subP hP [] rfl) (hD.sub [] (by decide) rfl) (o_cellPlace l D cy a b _ (by omega) (by omega)) kwS_X5_cellPlace kM_RX5_73 ⟨Nat.le_of_ble_eq_true rfl, Nat.le_of_ble_eq_true rfl⟩ rfl hl.1 rfl (Nat.le_of_ble_eq_true rfl) dX5_costAt_15 ⟨hroom.1, hroom.2⟩) C.2.2.2.2.2.2.1 hP hD hS [] [0, 1, 2, 3, 4, 5, 6, 7, 8] rfl rfl (by decide) (by decide) (fun r_8 u_7 H locs hw_9 hP hD hS => ?_)
    have hp_9 : 0 ≤ r_8.toInt ∧ r_8.toInt ≤ 35 := hw_9
    refine q_iald (v := w_costs r_8.toNatClampNeg) C hP 4 rfl (o_in (rfl : r_8.toInt = r_8.toInt) (by omega) (by omega)) rfl dX5_costAt_18 ?_
    refine lv_topi (fun z_11 ez_11 => ?_)
    refine lv_goto (tgt := 24) hx hb dX5_costAt_19 (by decide) ?_
    refine o_wq hQ ?_
    exact q_iret (rm := (Rm 2 43 0 0)) C hS () rfl trivial (q_subP hP [0, 1, 2, 3, 4, 5, 6, 7, 8] rfl) (hD.sub [0, 1, 2, 3, 4, 5, 6, 7, 8] (by decide) rfl) hroom.1 hroom.2 dX5_costAt_24
theorem o_costAt (l : Launch) (D : va_G) (cy : Nat → ClassId) (w : Nat) (h : Nat) (a : Int32) (b : Int32) (w_way_ : Nat) (w_waySize : Int32) (w_tornSteps : Int32) (w_rings_ : Nat) (w_hanging_ : Nat) (w_costs_ : Nat) (w_way : Nat → Int32) (w_rings : Nat → Int32) (w_hanging : Nat → Int32) (w_costs : Nat → Int32) (h_wide : Int32) (h_high : Int32) (h_law : Int32) (h_spin : Int32) (h_line : Int32) (h_draught : Int32) (h_books : Int32) (h_rare : Int32) (h_quarrels_ : Nat) (h_nameSizes_ : Nat) (h_names_ : Nat) (h_quarrels : Nat → Int32) (h_nameSizes : Nat → Int32) (h_names : Nat → Int32) (sz : Nat) (hb0 : w_waySize.toInt ≤ 8) (hb1 : 0 ≤ h_wide.toInt ∧ h_wide.toInt ≤ 6) (hb2 : 0 ≤ h_high.toInt ∧ h_high.toInt ≤ 6) (hb3 : 0 ≤ h_books.toInt ∧ h_books.toInt ≤ 8) (hR0 : Rg w_way 0 8 0 7) (hR1 : Rg h_nameSizes 0 8 (-900) 7) : MI l yX5_costAt cX5_costAt 4 (some .int) (Rm 2 43 0 0) D cy [.ref w, .ref h, .int a, .int b] sz [(w, .inr (5, [.ref w_way_, .int w_waySize, .int w_tornSteps, .ref w_rings_, .ref w_hanging_, .ref w_costs_])), (w_way_, .inl (cy 1, 8, .inl w_way)), (w_rings_, .inl (cy 1, 9, .inl w_rings)), (w_hanging_, .inl (cy 1, 36, .inl w_hanging)), (w_costs_, .inl (cy 1, 36, .inl w_costs)), (h, .inr (6, [.int h_wide, .int h_high, .int h_law, .int h_spin, .int h_line, .int h_draught, .int h_books, .int h_rare, .ref h_quarrels_, .ref h_nameSizes_, .ref h_names_])), (h_quarrels_, .inl (cy 1, 8, .inl h_quarrels)), (h_nameSizes_, .inl (cy 1, 8, .inl h_nameSizes)), (h_names_, .inl (cy 1, 56, .inl h_names))] (fun (r : Int32) (u : Unit) => True) (fun u : Unit => [(w, .inr (5, [.ref w_way_, .int w_waySize, .int w_tornSteps, .ref w_rings_, .ref w_hanging_, .ref w_costs_])), (w_way_, .inl (cy 1, 8, .inl w_way)), (w_rings_, .inl (cy 1, 9, .inl w_rings)), (w_hanging_, .inl (cy 1, 36, .inl w_hanging)), (w_costs_, .inl (cy 1, 36, .inl w_costs)), (h, .inr (6, [.int h_wide, .int h_high, .int h_law, .int h_spin, .int h_line, .int h_draught, .int h_books, .int h_rare, .ref h_quarrels_, .ref h_nameSizes_, .ref h_names_])), (h_quarrels_, .inl (cy 1, 8, .inl h_quarrels)), (h_nameSizes_, .inl (cy 1, 8, .inl h_nameSizes)), (h_names_, .inl (cy 1, 56, .inl h_names))]) := by
  refine MI.enter (by decide) (Nat.le_of_ble_eq_true rfl) ?_
  intro p e s m below meth c ls A hsz hAe C hP hD hS hl
  exact b_o_costAt l D cy w h a b w_way_ w_waySize w_tornSteps w_rings_ w_hanging_ w_costs_ w_way w_rings w_hanging w_costs h_wide h_high h_law h_spin h_line h_draught h_books h_rare h_quarrels_ h_nameSizes_ h_names_ h_quarrels h_nameSizes h_names hb0 hb1 hb2 hb3 hR0 hR1 ⟨Nat.le_of_ble_eq_true rfl, Nat.le_of_ble_eq_true rfl⟩ C rfl _ _ ls hP hD hS hl
set_option maxHeartbeats 4000000 in
set_option maxRecDepth 100000 in
theorem b_o_spread (l : Launch) (D : va_G) (cy : Nat → ClassId) (w : Nat) (h : Nat) (w_way_ : Nat) (w_waySize : Int32) (w_tornSteps : Int32) (w_rings_ : Nat) (w_hanging_ : Nat) (w_costs_ : Nat) (w_way : Nat → Int32) (w_rings : Nat → Int32) (w_hanging : Nat → Int32) (w_costs : Nat → Int32) (h_wide : Int32) (h_high : Int32) (h_law : Int32) (h_spin : Int32) (h_line : Int32) (h_draught : Int32) (h_books : Int32) (h_rare : Int32) (h_quarrels_ : Nat) (h_nameSizes_ : Nat) (h_names_ : Nat) (h_quarrels : Nat → Int32) (h_nameSizes : Nat → Int32) (h_names : Nat → Int32) (hb0 : w_waySize.toInt ≤ 8) (hb1 : 0 ≤ h_wide.toInt ∧ h_wide.toInt ≤ 6) (hb2 : 0 ≤ h_high.toInt ∧ h_high.toInt ≤ 6) (hb3 : 0 ≤ h_books.toInt ∧ h_books.toInt ≤ 8) (hR0 : Rg w_way 0 8 0 7) (hR1 : Rg h_nameSizes 0 8 (-900) 7) {p : Program} {e : Env} {s : State} {m : MethodId} {args : Array Value} {below : List Frame} {meth : Method} {c : Code} {A : Nat → Prop} {Q : State → Prop} {cells slots : Nat} (hroom : cells ≤ ((Rm 3 66 0 0)).cells ∧ slots ≤ ((Rm 3 66 0 0)).slots) (C : Cx p s m args meth c cX5_spreadCosts 8 (some .boolean) RX5 "spreadCosts" D cy A) (hQ : Q = MQ below (va_Qi (fun (r : Int32) (u : (Nat → Int32)) => (0 ≤ r.toInt ∧ r.toInt ≤ 1)) (Bx D A (fun u : (Nat → Int32) => [(w, .inr (5, [.ref w_way_, .int w_waySize, .int w_tornSteps, .ref w_rings_, .ref w_hanging_, .ref w_costs_])), (w_way_, .inl (cy 1, 8, .inl w_way)), (w_rings_, .inl (cy 1, 9, .inl w_rings)), (w_hanging_, .inl (cy 1, 36, .inl w_hanging)), (w_costs_, .inl (cy 1, 36, .inl u)), (h, .inr (6, [.int h_wide, .int h_high, .int h_law, .int h_spin, .int h_line, .int h_draught, .int h_books, .int h_rare, .ref h_quarrels_, .ref h_nameSizes_, .ref h_names_])), (h_quarrels_, .inl (cy 1, 8, .inl h_quarrels)), (h_nameSizes_, .inl (cy 1, 8, .inl h_nameSizes)), (h_names_, .inl (cy 1, 56, .inl h_names))])) A) args s ((Rm 3 66 0 0)).cells ((Rm 3 66 0 0)).slots A) (H : Heap) (locs : List Loc) (ls : Array Slot) (hP : va_P D vwCl [(w, .inr (5, [.ref w_way_, .int w_waySize, .int w_tornSteps, .ref w_rings_, .ref w_hanging_, .ref w_costs_])), (w_way_, .inl (cy 1, 8, .inl w_way)), (w_rings_, .inl (cy 1, 9, .inl w_rings)), (w_hanging_, .inl (cy 1, 36, .inl w_hanging)), (w_costs_, .inl (cy 1, 36, .inl w_costs)), (h, .inr (6, [.int h_wide, .int h_high, .int h_law, .int h_spin, .int h_line, .int h_draught, .int h_books, .int h_rare, .ref h_quarrels_, .ref h_nameSizes_, .ref h_names_])), (h_quarrels_, .inl (cy 1, 8, .inl h_quarrels)), (h_nameSizes_, .inl (cy 1, 8, .inl h_nameSizes)), (h_names_, .inl (cy 1, 56, .inl h_names))] H) (hD : va_D A [(w, .inr (5, [.ref w_way_, .int w_waySize, .int w_tornSteps, .ref w_rings_, .ref w_hanging_, .ref w_costs_])), (w_way_, .inl (cy 1, 8, .inl w_way)), (w_rings_, .inl (cy 1, 9, .inl w_rings)), (w_hanging_, .inl (cy 1, 36, .inl w_hanging)), (w_costs_, .inl (cy 1, 36, .inl w_costs)), (h, .inr (6, [.int h_wide, .int h_high, .int h_law, .int h_spin, .int h_line, .int h_draught, .int h_books, .int h_rare, .ref h_quarrels_, .ref h_nameSizes_, .ref h_names_])), (h_quarrels_, .inl (cy 1, 8, .inl h_quarrels)), (h_nameSizes_, .inl (cy 1, 8, .inl h_nameSizes)), (h_names_, .inl (cy 1, 56, .inl h_names))]) (hS : va_S A s.heap H locs) (hl : lv_has ls 8 [(0, .ref w), (1, .ref h)]) : W p l e (Rm 3 66 0 0) s m args below meth c H locs cells slots Q (F0 m 0 ls []) := by
  have hx := C.1
  have hb := C.2.1
  refine lv_iconst (v := 0) hx hb dX5_spreadCosts_0 (by decide) ?_
  refine lv_istore_n (lv' := [(2, .int 0), (0, .ref w), (1, .ref h)]) hx hb dX5_spreadCosts_1 rfl hl (by decide) rfl (fun ls hl => ?_)
  refine lv_iconst (v := 0) hx hb dX5_spreadCosts_2 (by decide) ?_
  refine lv_istore_n (lv' := [(3, .int 0), (2, .int 0), (0, .ref w), (1, .ref h)]) hx hb dX5_spreadCosts_3 rfl hl (by decide) rfl (fun ls hl => ?_)
  have lp_4_3 : ∀ (n_4 : Nat) (x_1 : Int32) (x_2 : Int32) (g_3 : Nat → Int32) (H : Heap) (locs : List Loc) (ls : Array Slot), (-1) * x_2.toInt + 6 < (n_4 : Int) → (0 ≤ x_1.toInt ∧ x_1.toInt ≤ 1) → (0 ≤ x_2.toInt ∧ x_2.toInt ≤ 6) → va_P D vwCl [(w, .inr (5, [.ref w_way_, .int w_waySize, .int w_tornSteps, .ref w_rings_, .ref w_hanging_, .ref w_costs_])), (w_way_, .inl (cy 1, 8, .inl w_way)), (w_rings_, .inl (cy 1, 9, .inl w_rings)), (w_hanging_, .inl (cy 1, 36, .inl w_hanging)), (w_costs_, .inl (cy 1, 36, .inl g_3)), (h, .inr (6, [.int h_wide, .int h_high, .int h_law, .int h_spin, .int h_line, .int h_draught, .int h_books, .int h_rare, .ref h_quarrels_, .ref h_nameSizes_, .ref h_names_])), (h_quarrels_, .inl (cy 1, 8, .inl h_quarrels)), (h_nameSizes_, .inl (cy 1, 8, .inl h_nameSizes)), (h_names_, .inl (cy 1, 56, .inl h_names))] H → va_D A [(w, .inr (5, [.ref w_way_, .int w_waySize, .int w_tornSteps, .ref w_rings_, .ref w_hanging_, .ref w_costs_])), (w_way_, .inl (cy 1, 8, .inl w_way)), (w_rings_, .inl (cy 1, 9, .inl w_rings)), (w_hanging_, .inl (cy 1, 36, .inl w_hanging)), (w_costs_, .inl (cy 1, 36, .inl g_3)), (h, .inr (6, [.int h_wide, .int h_high, .int h_law, .int h_spin, .int h_line, .int h_draught, .int h_books, .int h_rare, .ref h_quarrels_, .ref h_nameSizes_, .ref h_names_])), (h_quarrels_, .inl (cy 1, 8, .inl h_quarrels)), (h_nameSizes_, .inl (cy 1, 8, .inl h_nameSizes)), (h_names_, .inl (cy 1, 56, .inl h_names))] → va_S A s.heap H locs → lv_has ls 8 [(0, .ref w), (1, .ref h), (2, .int x_1), (3, .int x_2)] → W p l e (Rm 3 66 0 0) s m args below meth c H locs cells slots Q (F0 m 4 ls []) := by
    intro n_4
    induction n_4 with
    | zero =>
      intro x_1 x_2 g_3 H locs ls hm_7 hf_5 hf_6 hP hD hS hl
      exact absurd hm_7 (by omega)
    | succ n_4 ih_8 =>
      intro x_1 x_2 g_3 H locs ls hm_7 hf_5 hf_6 hP hD hS hl
      refine lv_iload_n hx hb dX5_spreadCosts_4 rfl (lv_at hl 3 rfl) ?_
      refine lv_aload_n hx hb dX5_spreadCosts_5 rfl (lv_at hl 1 rfl) ?_
      refine q_get (v := .int h_high) C hP 5 1 rfl rfl inX6 (by decide) kF_RX5_90 rfl rfl dX5_spreadCosts_6 ?_
      refine lv_icmp_ge (tgt := 154) hx hb dX5_spreadCosts_9 (by decide) (fun c_10 => ?_) (fun c_10 => ?_)
      · have hc_10 := o_le (rfl : h_high.toInt = h_high.toInt) (rfl : x_2.toInt = x_2.toInt) c_10
        refine lv_iload_n hx hb dX5_spreadCosts_154 rfl (lv_at hl 2 rfl) ?_
        refine o_wq hQ ?_
        exact q_iret (rm := (Rm 3 66 0 0)) C hS g_3 (o_bool (rfl : x_1.toInt = x_1.toInt) (by omega) (by omega)).1 (show 0 ≤ x_1.toInt ∧ x_1.toInt ≤ 1 by omega) (q_subP hP [0, 1, 2, 3, 4, 5, 6, 7, 8] rfl) (hD.sub [0, 1, 2, 3, 4, 5, 6, 7, 8] (by decide) rfl) hroom.1 hroom.2 dX5_spreadCosts_155
      · have hc_10 := o_nle (rfl : h_high.toInt = h_high.toInt) (rfl : x_2.toInt = x_2.toInt) c_10
        refine lv_iconst (v := 0) hx hb dX5_spreadCosts_12 (by decide) ?_
        refine lv_istore (lv' := [(4, .int 0), (0, .ref w), (1, .ref h), (2, .int x_1), (3, .int x_2)]) hx hb dX5_spreadCosts_13 hl (by decide) rfl (fun ls hl => ?_)
        have lp_15_13 : ∀ (n_14 : Nat) (x_11 : Int32) (x_12 : Int32) (g_13 : Nat → Int32) (H : Heap) (locs : List Loc) (ls : Array Slot), (-1) * x_12.toInt + 6 < (n_14 : Int) → (0 ≤ x_11.toInt ∧ x_11.toInt ≤ 1) → (0 ≤ x_12.toInt ∧ x_12.toInt ≤ 6) → va_P D vwCl [(w, .inr (5, [.ref w_way_, .int w_waySize, .int w_tornSteps, .ref w_rings_, .ref w_hanging_, .ref w_costs_])), (w_way_, .inl (cy 1, 8, .inl w_way)), (w_rings_, .inl (cy 1, 9, .inl w_rings)), (w_hanging_, .inl (cy 1, 36, .inl w_hanging)), (w_costs_, .inl (cy 1, 36, .inl g_13)), (h, .inr (6, [.int h_wide, .int h_high, .int h_law, .int h_spin, .int h_line, .int h_draught, .int h_books, .int h_rare, .ref h_quarrels_, .ref h_nameSizes_, .ref h_names_])), (h_quarrels_, .inl (cy 1, 8, .inl h_quarrels)), (h_nameSizes_, .inl (cy 1, 8, .inl h_nameSizes)), (h_names_, .inl (cy 1, 56, .inl h_names))] H → va_D A [(w, .inr (5, [.ref w_way_, .int w_waySize, .int w_tornSteps, .ref w_rings_, .ref w_hanging_, .ref w_costs_])), (w_way_, .inl (cy 1, 8, .inl w_way)), (w_rings_, .inl (cy 1, 9, .inl w_rings)), (w_hanging_, .inl (cy 1, 36, .inl w_hanging)), (w_costs_, .inl (cy 1, 36, .inl g_13)), (h, .inr (6, [.int h_wide, .int h_high, .int h_law, .int h_spin, .int h_line, .int h_draught, .int h_books, .int h_rare, .ref h_quarrels_, .ref h_nameSizes_, .ref h_names_])), (h_quarrels_, .inl (cy 1, 8, .inl h_quarrels)), (h_nameSizes_, .inl (cy 1, 8, .inl h_nameSizes)), (h_names_, .inl (cy 1, 56, .inl h_names))] → va_S A s.heap H locs → lv_has ls 8 [(0, .ref w), (1, .ref h), (2, .int x_11), (3, .int x_2), (4, .int x_12)] → W p l e (Rm 3 66 0 0) s m args below meth c H locs cells slots Q (F0 m 15 ls []) := by
          intro n_14
          induction n_14 with
          | zero =>
            intro x_11 x_12 g_13 H locs ls hm_17 hf_15 hf_16 hP hD hS hl
            exact absurd hm_17 (by omega)
          | succ n_14 ih_18 =>
            intro x_11 x_12 g_13 H locs ls hm_17 hf_15 hf_16 hP hD hS hl
            refine lv_iload hx hb dX5_spreadCosts_15 (lv_at hl 4 rfl) ?_
            refine lv_aload_n hx hb dX5_spreadCosts_17 rfl (lv_at hl 1 rfl) ?_
            refine q_get (v := .int h_wide) C hP 5 0 rfl rfl inX6 (by decide) kF_RX5_93 rfl rfl dX5_spreadCosts_18 ?_
            refine lv_icmp_ge (tgt := 148) hx hb dX5_spreadCosts_21 (by decide) (fun c_20 => ?_) (fun c_20 => ?_)
            · have hc_20 := o_le (rfl : h_wide.toInt = h_wide.toInt) (rfl : x_12.toInt = x_12.toInt) c_20
              obtain ⟨z_21, hz_21⟩ : ∃ z : Int32, z = x_2 + 1 := ⟨_, rfl⟩
              refine lv_iinc (v := z_21) (lv' := [(3, .int z_21), (0, .ref w), (1, .ref h), (2, .int x_11), (4, .int x_12)]) hx hb dX5_spreadCosts_148 hl (k := 3) rfl hz_21.symm (by decide) rfl (fun ls hl => ?_)
              have hz_21 := o_add hz_21 (rfl : x_2.toInt = x_2.toInt) (by decide : (1 : Int32).toInt = 1) (by omega) (by omega)
              refine lv_goto (tgt := 4) hx hb dX5_spreadCosts_151 (by decide) ?_
              exact ih_8 x_11 z_21 g_13 H locs ls (by omega) (by omega) (by omega) hP hD hS (lv_sub hl [1, 2, 3, 0] rfl)
            · have hc_20 := o_nle (rfl : h_wide.toInt = h_wide.toInt) (rfl : x_12.toInt = x_12.toInt) c_20
              refine lv_aload_n hx hb dX5_spreadCosts_24 rfl (lv_at hl 0 rfl) ?_
              refine lv_aload_n hx hb dX5_spreadCosts_25 rfl (lv_at hl 1 rfl) ?_
              refine lv_iload hx hb dX5_spreadCosts_26 (lv_at hl 4 rfl) ?_
              refine lv_iconst (v := 1) hx hb dX5_spreadCosts_28 (by decide) ?_
              refine lv_isub hx hb dX5_spreadCosts_29 ?_
              refine lv_topi (fun z_22 hz_22 => ?_)
              have hz_22 := o_sub hz_22 (rfl : x_12.toInt = x_12.toInt) (by decide : (1 : Int32).toInt = 1) (by omega) (by omega)
              refine lv_iload_n hx hb dX5_spreadCosts_30 rfl (lv_at hl 3 rfl) ?_
              refine q_ai (wr := []) (r_V (rm := (Rm 2 43 0 0)) (q0 := 0) (As := [.ref h, .int z_22, .int x_2]) (rest := []) (wc := [(w, .inr (5, [.ref w_way_, .int w_waySize, .int w_tornSteps, .ref w_rings_, .ref w_hanging_, .ref w_costs_])), (w_way_, .inl (cy 1, 8, .inl w_way)), (w_rings_, .inl (cy 1, 9, .inl w_rings)), (w_hanging_, .inl (cy 1, 36, .inl w_hanging)), (w_costs_, .inl (cy 1, 36, .inl g_13)), (h, .inr (6, [.int h_wide, .int h_high, .int h_law, .int h_spin, .int h_line, .int h_draught, .int h_books, .int h_rare, .ref h_quarrels_, .ref h_nameSizes_, .ref h_names_])), (h_quarrels_, .inl (cy 1, 8, .inl h_quarrels)), (h_nameSizes_, .inl (cy 1, 8, .inl h_nameSizes)), (h_names_, .inl (cy 1, 56, .inl h_names))]) C hS (q_subP hP [0, 1, 2, 3, 4, 5, 6, 7, 8] rfl) (hD.sub [0, 1, 2, 3, 4, 5, 6, 7, 8] (by decide) rfl) (o_costAt l D cy w h z_22 x_2 w_way_ w_waySize w_tornSteps w_rings_ w_hanging_ w_costs_ w_way w_rings w_hanging g_13 h_wide h_high h_law h_spin h_line h_draught h_books h_rare h_quarrels_ h_nameSizes_ h_names_ h_quarrels h_nameSizes h_names _ (by omega) (by omega) (by omega) (by omega) hR0 hR1) kwV_X5_costAt kM_RX5_96 rfl rfl ⟨Nat.le_of_ble_eq_true rfl, Nat.le_of_ble_eq_true rfl⟩ rfl hl.1 rfl (Nat.le_of_ble_eq_true rfl) dX5_spreadCosts_31 ⟨hroom.1, hroom.2⟩) C.2.2.2.2.2.2.1 hP hD hS [0, 1, 2, 3, 4, 5, 6, 7, 8] [] rfl rfl (by decide) (by decide) (fun r_24 u_23 H locs hw_25 hP hD hS => ?_)
              refine lv_istore (lv' := [(5, .int r_24), (0, .ref w), (1, .ref h), (2, .int x_11), (3, .int x_2), (4, .int x_12)]) hx hb dX5_spreadCosts_34 hl (by decide) rfl (fun ls hl => ?_)
              refine lv_iload hx hb dX5_spreadCosts_36 (lv_at hl 0 rfl) ?_
              refine lv_aload_n hx hb dX5_spreadCosts_38 rfl (lv_at hl 1 rfl) ?_
              refine lv_aload_n hx hb dX5_spreadCosts_39 rfl (lv_at hl 2 rfl) ?_
              refine lv_iload hx hb dX5_spreadCosts_40 (lv_at hl 5 rfl) ?_
              refine lv_iconst (v := 1) hx hb dX5_spreadCosts_42 (by decide) ?_
              refine lv_iadd hx hb dX5_spreadCosts_43 ?_
              refine lv_topi (fun z_26 hz_26 => ?_)
              have hz_26 := o_add hz_26 (rfl : x_12.toInt = x_12.toInt) (by decide : (1 : Int32).toInt = 1) (by omega) (by omega)
              refine lv_iload_n hx hb dX5_spreadCosts_44 rfl (lv_at hl 4 rfl) ?_
              refine q_ai (wr := []) (r_V (rm := (Rm 2 43 0 0)) (q0 := 0) (As := [.ref h, .int z_26, .int x_2]) (rest := [.int r_24]) (wc := [(w, .inr (5, [.ref w_way_, .int w_waySize, .int w_tornSteps, .ref w_rings_, .ref w_hanging_, .ref w_costs_])), (w_way_, .inl (cy 1, 8, .inl w_way)), (w_rings_, .inl (cy 1, 9, .inl w_rings)), (w_hanging_, .inl (cy 1, 36, .inl w_hanging)), (w_costs_, .inl (cy 1, 36, .inl g_13)), (h, .inr (6, [.int h_wide, .int h_high, .int h_law, .int h_spin, .int h_line, .int h_draught, .int h_books, .int h_rare, .ref h_quarrels_, .ref h_nameSizes_, .ref h_names_])), (h_quarrels_, .inl (cy 1, 8, .inl h_quarrels)), (h_nameSizes_, .inl (cy 1, 8, .inl h_nameSizes)), (h_names_, .inl (cy 1, 56, .inl h_names))]) C hS (q_subP hP [0, 1, 2, 3, 4, 5, 6, 7, 8] rfl) (hD.sub [0, 1, 2, 3, 4, 5, 6, 7, 8] (by decide) rfl) (o_costAt l D cy w h z_26 x_2 w_way_ w_waySize w_tornSteps w_rings_ w_hanging_ w_costs_ w_way w_rings w_hanging g_13 h_wide h_high h_law h_spin h_line h_draught h_books h_rare h_quarrels_ h_nameSizes_ h_names_ h_quarrels h_nameSizes h_names _ (by omega) (by omega) (by omega) (by omega) hR0 hR1) kwV_X5_costAt kM_RX5_96 rfl rfl ⟨Nat.le_of_ble_eq_true rfl, Nat.le_of_ble_eq_true rfl⟩ rfl hl.1 rfl (Nat.le_of_ble_eq_true rfl) dX5_spreadCosts_45 ⟨hroom.1, hroom.2⟩) C.2.2.2.2.2.2.1 hP hD hS [0, 1, 2, 3, 4, 5, 6, 7, 8] [] rfl rfl (by decide) (by decide) (fun r_28 u_27 H locs hw_29 hP hD hS => ?_)
              refine q_mmin C hl.1 kM_RX5_100 (Nat.le_of_ble_eq_true rfl) (Nat.le_of_ble_eq_true rfl) hroom.1 hroom.2 dX5_spreadCosts_48 ?_
              refine lv_topi (fun z_30 hz_30 => ?_)
              have hz_30 := o_min hz_30 (rfl : r_24.toInt = r_24.toInt) (rfl : r_28.toInt = r_28.toInt)
              refine lv_istore (lv' := [(5, .int z_30), (0, .ref w), (1, .ref h), (2, .int x_11), (3, .int x_2), (4, .int x_12)]) hx hb dX5_spreadCosts_51 hl (by decide) rfl (fun ls hl => ?_)
              refine lv_iload hx hb dX5_spreadCosts_53 (lv_at hl 0 rfl) ?_
              refine lv_aload_n hx hb dX5_spreadCosts_55 rfl (lv_at hl 1 rfl) ?_
              refine lv_aload_n hx hb dX5_spreadCosts_56 rfl (lv_at hl 2 rfl) ?_
              refine lv_iload hx hb dX5_spreadCosts_57 (lv_at hl 5 rfl) ?_
              refine lv_iload_n hx hb dX5_spreadCosts_59 rfl (lv_at hl 4 rfl) ?_
              refine lv_iconst (v := 1) hx hb dX5_spreadCosts_60 (by decide) ?_
              refine lv_isub hx hb dX5_spreadCosts_61 ?_
              refine lv_topi (fun z_31 hz_31 => ?_)
              have hz_31 := o_sub hz_31 (rfl : x_2.toInt = x_2.toInt) (by decide : (1 : Int32).toInt = 1) (by omega) (by omega)
              refine q_ai (wr := []) (r_V (rm := (Rm 2 43 0 0)) (q0 := 0) (As := [.ref h, .int x_12, .int z_31]) (rest := [.int z_30]) (wc := [(w, .inr (5, [.ref w_way_, .int w_waySize, .int w_tornSteps, .ref w_rings_, .ref w_hanging_, .ref w_costs_])), (w_way_, .inl (cy 1, 8, .inl w_way)), (w_rings_, .inl (cy 1, 9, .inl w_rings)), (w_hanging_, .inl (cy 1, 36, .inl w_hanging)), (w_costs_, .inl (cy 1, 36, .inl g_13)), (h, .inr (6, [.int h_wide, .int h_high, .int h_law, .int h_spin, .int h_line, .int h_draught, .int h_books, .int h_rare, .ref h_quarrels_, .ref h_nameSizes_, .ref h_names_])), (h_quarrels_, .inl (cy 1, 8, .inl h_quarrels)), (h_nameSizes_, .inl (cy 1, 8, .inl h_nameSizes)), (h_names_, .inl (cy 1, 56, .inl h_names))]) C hS (q_subP hP [0, 1, 2, 3, 4, 5, 6, 7, 8] rfl) (hD.sub [0, 1, 2, 3, 4, 5, 6, 7, 8] (by decide) rfl) (o_costAt l D cy w h x_12 z_31 w_way_ w_waySize w_tornSteps w_rings_ w_hanging_ w_costs_ w_way w_rings w_hanging g_13 h_wide h_high h_law h_spin h_line h_draught h_books h_rare h_quarrels_ h_nameSizes_ h_names_ h_quarrels h_nameSizes h_names _ (by omega) (by omega) (by omega) (by omega) hR0 hR1) kwV_X5_costAt kM_RX5_96 rfl rfl ⟨Nat.le_of_ble_eq_true rfl, Nat.le_of_ble_eq_true rfl⟩ rfl hl.1 rfl (Nat.le_of_ble_eq_true rfl) dX5_spreadCosts_62 ⟨hroom.1, hroom.2⟩) C.2.2.2.2.2.2.1 hP hD hS [0, 1, 2, 3, 4, 5, 6, 7, 8] [] rfl rfl (by decide) (by decide) (fun r_33 u_32 H locs hw_34 hP hD hS => ?_)
              refine q_mmin C hl.1 kM_RX5_100 (Nat.le_of_ble_eq_true rfl) (Nat.le_of_ble_eq_true rfl) hroom.1 hroom.2 dX5_spreadCosts_65 ?_
              refine lv_topi (fun z_35 hz_35 => ?_)
              have hz_35 := o_min hz_35 (rfl : z_30.toInt = z_30.toInt) (rfl : r_33.toInt = r_33.toInt)
              refine lv_istore (lv' := [(5, .int z_35), (0, .ref w), (1, .ref h), (2, .int x_11), (3, .int x_2), (4, .int x_12)]) hx hb dX5_spreadCosts_68 hl (by decide) rfl (fun ls hl => ?_)
              refine lv_iload hx hb dX5_spreadCosts_70 (lv_at hl 0 rfl) ?_
              refine lv_aload_n hx hb dX5_spreadCosts_72 rfl (lv_at hl 1 rfl) ?_
              refine lv_aload_n hx hb dX5_spreadCosts_73 rfl (lv_at hl 2 rfl) ?_
              refine lv_iload hx hb dX5_spreadCosts_74 (lv_at hl 5 rfl) ?_
              refine lv_iload_n hx hb dX5_spreadCosts_76 rfl (lv_at hl 4 rfl) ?_
              refine lv_iconst (v := 1) hx hb dX5_spreadCosts_77 (by decide) ?_
              refine lv_iadd hx hb dX5_spreadCosts_78 ?_
              refine lv_topi (fun z_36 hz_36 => ?_)
              have hz_36 := o_add hz_36 (rfl : x_2.toInt = x_2.toInt) (by decide : (1 : Int32).toInt = 1) (by omega) (by omega)
              refine q_ai (wr := []) (r_V (rm := (Rm 2 43 0 0)) (q0 := 0) (As := [.ref h, .int x_12, .int z_36]) (rest := [.int z_35]) (wc := [(w, .inr (5, [.ref w_way_, .int w_waySize, .int w_tornSteps, .ref w_rings_, .ref w_hanging_, .ref w_costs_])), (w_way_, .inl (cy 1, 8, .inl w_way)), (w_rings_, .inl (cy 1, 9, .inl w_rings)), (w_hanging_, .inl (cy 1, 36, .inl w_hanging)), (w_costs_, .inl (cy 1, 36, .inl g_13)), (h, .inr (6, [.int h_wide, .int h_high, .int h_law, .int h_spin, .int h_line, .int h_draught, .int h_books, .int h_rare, .ref h_quarrels_, .ref h_nameSizes_, .ref h_names_])), (h_quarrels_, .inl (cy 1, 8, .inl h_quarrels)), (h_nameSizes_, .inl (cy 1, 8, .inl h_nameSizes)), (h_names_, .inl (cy 1, 56, .inl h_names))]) C hS (q_subP hP [0, 1, 2, 3, 4, 5, 6, 7, 8] rfl) (hD.sub [0, 1, 2, 3, 4, 5, 6, 7, 8] (by decide) rfl) (o_costAt l D cy w h x_12 z_36 w_way_ w_waySize w_tornSteps w_rings_ w_hanging_ w_costs_ w_way w_rings w_hanging g_13 h_wide h_high h_law h_spin h_line h_draught h_books h_rare h_quarrels_ h_nameSizes_ h_names_ h_quarrels h_nameSizes h_names _ (by omega) (by omega) (by omega) (by omega) hR0 hR1) kwV_X5_costAt kM_RX5_96 rfl rfl ⟨Nat.le_of_ble_eq_true rfl, Nat.le_of_ble_eq_true rfl⟩ rfl hl.1 rfl (Nat.le_of_ble_eq_true rfl) dX5_spreadCosts_79 ⟨hroom.1, hroom.2⟩) C.2.2.2.2.2.2.1 hP hD hS [0, 1, 2, 3, 4, 5, 6, 7, 8] [] rfl rfl (by decide) (by decide) (fun r_38 u_37 H locs hw_39 hP hD hS => ?_)
              refine q_mmin C hl.1 kM_RX5_100 (Nat.le_of_ble_eq_true rfl) (Nat.le_of_ble_eq_true rfl) hroom.1 hroom.2 dX5_spreadCosts_82 ?_
              refine lv_topi (fun z_40 hz_40 => ?_)
              have hz_40 := o_min hz_40 (rfl : z_35.toInt = z_35.toInt) (rfl : r_38.toInt = r_38.toInt)
              refine lv_istore (lv' := [(5, .int z_40), (0, .ref w), (1, .ref h), (2, .int x_11), (3, .int x_2), (4, .int x_12)]) hx hb dX5_spreadCosts_85 hl (by decide) rfl (fun ls hl => ?_)
              refine lv_iload hx hb dX5_spreadCosts_87 (lv_at hl 5 rfl) ?_
              refine lv_iload_n hx hb dX5_spreadCosts_89 rfl (lv_at hl 4 rfl) ?_
              refine q_ai (wr := [(w, .inr (5, [.ref w_way_, .int w_waySize, .int w_tornSteps, .ref w_rings_, .ref w_hanging_, .ref w_costs_])), (w_way_, .inl (cy 1, 8, .inl w_way)), (w_rings_, .inl (cy 1, 9, .inl w_rings)), (w_hanging_, .inl (cy 1, 36, .inl w_hanging)), (w_costs_, .inl (cy 1, 36, .inl g_13)), (h, .inr (6, [.int h_wide, .int h_high, .int h_law, .int h_spin, .int h_line, .int h_draught, .int h_books, .int h_rare, .ref h_quarrels_, .ref h_nameSizes_, .ref h_names_])), (h_quarrels_, .inl (cy 1, 8, .inl h_quarrels)), (h_nameSizes_, .inl (cy 1, 8, .inl h_nameSizes)), (h_names_, .inl (cy 1, 56, .inl h_names))]) (r_S (rm := (Rm 0 0 0 0)) (As := [.int x_12, .int x_2]) (rest := []) (wc := []) C hS (q_subP hP [] rfl) (hD.sub [] (by decide) rfl) (o_cellPlace l D cy x_12 x_2 _ (by omega) (by omega)) kwS_X5_cellPlace kM_RX5_73 ⟨Nat.le_of_ble_eq_true rfl, Nat.le_of_ble_eq_true rfl⟩ rfl hl.1 rfl (Nat.le_of_ble_eq_true rfl) dX5_spreadCosts_90 ⟨hroom.1, hroom.2⟩) C.2.2.2.2.2.2.1 hP hD hS [] [0, 1, 2, 3, 4, 5, 6, 7, 8] rfl rfl (by decide) (by decide) (fun r_42 u_41 H locs hw_43 hP hD hS => ?_)
              have hp_43 : 0 ≤ r_42.toInt ∧ r_42.toInt ≤ 35 := hw_43
              refine lv_istore (lv' := [(6, .int r_42), (5, .int z_40), (0, .ref w), (1, .ref h), (2, .int x_11), (3, .int x_2), (4, .int x_12)]) hx hb dX5_spreadCosts_93 hl (by decide) rfl (fun ls hl => ?_)
              refine lv_iload hx hb dX5_spreadCosts_95 (lv_at hl 1 rfl) ?_
              refine lv_aload_n hx hb dX5_spreadCosts_97 rfl (lv_at hl 2 rfl) ?_
              refine q_get (v := .ref w_hanging_) C hP 0 4 rfl rfl inX5 (by decide) kF_RX5_25 rfl rfl dX5_spreadCosts_98 ?_
              refine lv_iload hx hb dX5_spreadCosts_101 (lv_at hl 0 rfl) ?_
              refine q_iald (v := w_hanging r_42.toNatClampNeg) C hP 3 rfl (o_in (rfl : r_42.toInt = r_42.toInt) (by omega) (by omega)) rfl dX5_spreadCosts_103 ?_
              refine lv_topi (fun z_45 ez_45 => ?_)
              refine lv_bipush (v := 64) hx hb dX5_spreadCosts_104 (by decide) ?_
              refine lv_imul hx hb dX5_spreadCosts_106 ?_
              refine lv_topi (fun z_46 hz_46 => ?_)
              clear hz_46
              refine lv_iadd hx hb dX5_spreadCosts_107 ?_
              refine lv_topi (fun z_47 hz_47 => ?_)
              clear hz_47
              refine lv_iconst (v := 1) hx hb dX5_spreadCosts_108 (by decide) ?_
              refine lv_iadd hx hb dX5_spreadCosts_109 ?_
              refine lv_topi (fun z_48 hz_48 => ?_)
              clear hz_48
              refine lv_istore (lv' := [(7, .int z_48), (6, .int r_42), (5, .int z_40), (0, .ref w), (1, .ref h), (2, .int x_11), (3, .int x_2), (4, .int x_12)]) hx hb dX5_spreadCosts_110 hl (by decide) rfl (fun ls hl => ?_)
              refine lv_iload hx hb dX5_spreadCosts_112 (lv_at hl 2 rfl) ?_
              refine q_ldc (v := 1000000000) C kC_RX5_62 dX5_spreadCosts_114 ?_
              refine lv_icmp_ge (tgt := 142) hx hb dX5_spreadCosts_116 (by decide) (fun c_49 => ?_) (fun c_49 => ?_)
              · have hc_49 := o_le (by decide : (1000000000 : Int32).toInt = 1000000000) (rfl : z_40.toInt = z_40.toInt) c_49
                obtain ⟨z_50, hz_50⟩ : ∃ z : Int32, z = x_12 + 1 := ⟨_, rfl⟩
                refine lv_iinc (v := z_50) (lv' := [(4, .int z_50), (7, .int z_48), (6, .int r_42), (5, .int z_40), (0, .ref w), (1, .ref h), (2, .int x_11), (3, .int x_2)]) hx hb dX5_spreadCosts_142 hl (k := 7) rfl hz_50.symm (by decide) rfl (fun ls hl => ?_)
                have hz_50 := o_add hz_50 (rfl : x_12.toInt = x_12.toInt) (by decide : (1 : Int32).toInt = 1) (by omega) (by omega)
                refine lv_goto (tgt := 15) hx hb dX5_spreadCosts_145 (by decide) ?_
                exact ih_18 x_11 z_50 g_13 H locs ls (by omega) (by omega) (by omega) hP hD hS (lv_sub hl [4, 5, 6, 7, 0] rfl)
              · have hc_49 := o_nle (by decide : (1000000000 : Int32).toInt = 1000000000) (rfl : z_40.toInt = z_40.toInt) c_49
                refine lv_iload hx hb dX5_spreadCosts_119 (lv_at hl 0 rfl) ?_
                refine lv_aload_n hx hb dX5_spreadCosts_121 rfl (lv_at hl 3 rfl) ?_
                refine q_get (v := .ref w_costs_) C hP 0 5 rfl rfl inX5 (by decide) kF_RX5_28 rfl rfl dX5_spreadCosts_122 ?_
                refine lv_iload hx hb dX5_spreadCosts_125 (lv_at hl 1 rfl) ?_
                refine q_iald (v := g_13 r_42.toNatClampNeg) C hP 4 rfl (o_in (rfl : r_42.toInt = r_42.toInt) (by omega) (by omega)) rfl dX5_spreadCosts_127 ?_
                refine lv_topi (fun z_51 ez_51 => ?_)
                refine lv_icmp_ge (tgt := 142) hx hb dX5_spreadCosts_128 (by decide) (fun c_52 => ?_) (fun c_52 => ?_)
                · have hc_52 := o_le (rfl : z_51.toInt = z_51.toInt) (rfl : z_48.toInt = z_48.toInt) c_52
                  obtain ⟨z_53, hz_53⟩ : ∃ z : Int32, z = x_12 + 1 := ⟨_, rfl⟩
                  refine lv_iinc (v := z_53) (lv' := [(4, .int z_53), (7, .int z_48), (6, .int r_42), (5, .int z_40), (0, .ref w), (1, .ref h), (2, .int x_11), (3, .int x_2)]) hx hb dX5_spreadCosts_142 hl (k := 7) rfl hz_53.symm (by decide) rfl (fun ls hl => ?_)
                  have hz_53 := o_add hz_53 (rfl : x_12.toInt = x_12.toInt) (by decide : (1 : Int32).toInt = 1) (by omega) (by omega)
                  refine lv_goto (tgt := 15) hx hb dX5_spreadCosts_145 (by decide) ?_
                  exact ih_18 x_11 z_53 g_13 H locs ls (by omega) (by omega) (by omega) hP hD hS (lv_sub hl [4, 5, 6, 7, 0] rfl)
                · have hc_52 := o_nle (rfl : z_51.toInt = z_51.toInt) (rfl : z_48.toInt = z_48.toInt) c_52
                  refine lv_aload_n hx hb dX5_spreadCosts_131 rfl (lv_at hl 3 rfl) ?_
                  refine q_get (v := .ref w_costs_) C hP 0 5 rfl rfl inX5 (by decide) kF_RX5_28 rfl rfl dX5_spreadCosts_132 ?_
                  refine lv_iload hx hb dX5_spreadCosts_135 (lv_at hl 1 rfl) ?_
                  refine lv_iload hx hb dX5_spreadCosts_137 (lv_at hl 0 rfl) ?_
                  refine q_iast (g := upd g_13 r_42.toNatClampNeg z_48) (w' := [(w, .inr (5, [.ref w_way_, .int w_waySize, .int w_tornSteps, .ref w_rings_, .ref w_hanging_, .ref w_costs_])), (w_way_, .inl (cy 1, 8, .inl w_way)), (w_rings_, .inl (cy 1, 9, .inl w_rings)), (w_hanging_, .inl (cy 1, 36, .inl w_hanging)), (w_costs_, .inl (cy 1, 36, .inl (upd g_13 r_42.toNatClampNeg z_48))), (h, .inr (6, [.int h_wide, .int h_high, .int h_law, .int h_spin, .int h_line, .int h_draught, .int h_books, .int h_rare, .ref h_quarrels_, .ref h_nameSizes_, .ref h_names_])), (h_quarrels_, .inl (cy 1, 8, .inl h_quarrels)), (h_nameSizes_, .inl (cy 1, 8, .inl h_nameSizes)), (h_names_, .inl (cy 1, 56, .inl h_names))]) C hP hD hS 4 rfl (o_in (rfl : r_42.toInt = r_42.toInt) (by omega) (by omega)) rfl rfl dX5_spreadCosts_139 (fun H locs hP hD hS => ?_)
                  generalize upd g_13 r_42.toNatClampNeg z_48 = g_54 at hP hD 
                  have hP : va_P D vwCl [(w, .inr (5, [.ref w_way_, .int w_waySize, .int w_tornSteps, .ref w_rings_, .ref w_hanging_, .ref w_costs_])), (w_way_, .inl (cy 1, 8, .inl w_way)), (w_rings_, .inl (cy 1, 9, .inl w_rings)), (w_hanging_, .inl (cy 1, 36, .inl w_hanging)), (w_costs_, .inl (cy 1, 36, .inl g_54)), (h, .inr (6, [.int h_wide, .int h_high, .int h_law, .int h_spin, .int h_line, .int h_draught, .int h_books, .int h_rare, .ref h_quarrels_, .ref h_nameSizes_, .ref h_names_])), (h_quarrels_, .inl (cy 1, 8, .inl h_quarrels)), (h_nameSizes_, .inl (cy 1, 8, .inl h_nameSizes)), (h_names_, .inl (cy 1, 56, .inl h_names))] H := hP
                  have hD : va_D A [(w, .inr (5, [.ref w_way_, .int w_waySize, .int w_tornSteps, .ref w_rings_, .ref w_hanging_, .ref w_costs_])), (w_way_, .inl (cy 1, 8, .inl w_way)), (w_rings_, .inl (cy 1, 9, .inl w_rings)), (w_hanging_, .inl (cy 1, 36, .inl w_hanging)), (w_costs_, .inl (cy 1, 36, .inl g_54)), (h, .inr (6, [.int h_wide, .int h_high, .int h_law, .int h_spin, .int h_line, .int h_draught, .int h_books, .int h_rare, .ref h_quarrels_, .ref h_nameSizes_, .ref h_names_])), (h_quarrels_, .inl (cy 1, 8, .inl h_quarrels)), (h_nameSizes_, .inl (cy 1, 8, .inl h_nameSizes)), (h_names_, .inl (cy 1, 56, .inl h_names))] := hD
                  refine lv_iconst (v := 1) hx hb dX5_spreadCosts_140 (by decide) ?_
                  refine lv_istore_n (lv' := [(2, .int 1), (7, .int z_48), (6, .int r_42), (5, .int z_40), (0, .ref w), (1, .ref h), (3, .int x_2), (4, .int x_12)]) hx hb dX5_spreadCosts_141 rfl hl (by decide) rfl (fun ls hl => ?_)
                  obtain ⟨z_55, hz_55⟩ : ∃ z : Int32, z = x_12 + 1 := ⟨_, rfl⟩
                  refine lv_iinc (v := z_55) (lv' := [(4, .int z_55), (2, .int 1), (7, .int z_48), (6, .int r_42), (5, .int z_40), (0, .ref w), (1, .ref h), (3, .int x_2)]) hx hb dX5_spreadCosts_142 hl (k := 7) rfl hz_55.symm (by decide) rfl (fun ls hl => ?_)
                  have hz_55 := o_add hz_55 (rfl : x_12.toInt = x_12.toInt) (by decide : (1 : Int32).toInt = 1) (by omega) (by omega)
                  refine lv_goto (tgt := 15) hx hb dX5_spreadCosts_145 (by decide) ?_
                  exact ih_18 (1 : Int32) z_55 g_54 H locs ls (by have e0 : (1 : Int32).toInt = 1 := (by decide); omega) (by have e0 : (1 : Int32).toInt = 1 := (by decide); omega) (by have e0 : (1 : Int32).toInt = 1 := (by decide); omega) hP hD hS (lv_sub hl [5, 6, 1, 7, 0] rfl)
        exact lp_15_13 7 x_1 (0 : Int32) g_3 H locs ls (by have e0 : (0 : Int32).toInt = 0 := (by decide); omega) (by have e0 : (0 : Int32).toInt = 0 := (by decide); omega) (by have e0 : (0 : Int32).toInt = 0 := (by decide); omega) hP hD hS (lv_sub hl [1, 2, 3, 4, 0] rfl)
  exact lp_4_3 7 (0 : Int32) (0 : Int32) w_costs H locs ls (by have e0 : (0 : Int32).toInt = 0 := (by decide); omega) (by have e0 : (0 : Int32).toInt = 0 := (by decide); omega) (by have e0 : (0 : Int32).toInt = 0 := (by decide); omega) hP hD hS (lv_sub hl [2, 3, 1, 0] rfl)
theorem o_spread (l : Launch) (D : va_G) (cy : Nat → ClassId) (w : Nat) (h : Nat) (w_way_ : Nat) (w_waySize : Int32) (w_tornSteps : Int32) (w_rings_ : Nat) (w_hanging_ : Nat) (w_costs_ : Nat) (w_way : Nat → Int32) (w_rings : Nat → Int32) (w_hanging : Nat → Int32) (w_costs : Nat → Int32) (h_wide : Int32) (h_high : Int32) (h_law : Int32) (h_spin : Int32) (h_line : Int32) (h_draught : Int32) (h_books : Int32) (h_rare : Int32) (h_quarrels_ : Nat) (h_nameSizes_ : Nat) (h_names_ : Nat) (h_quarrels : Nat → Int32) (h_nameSizes : Nat → Int32) (h_names : Nat → Int32) (sz : Nat) (hb0 : w_waySize.toInt ≤ 8) (hb1 : 0 ≤ h_wide.toInt ∧ h_wide.toInt ≤ 6) (hb2 : 0 ≤ h_high.toInt ∧ h_high.toInt ≤ 6) (hb3 : 0 ≤ h_books.toInt ∧ h_books.toInt ≤ 8) (hR0 : Rg w_way 0 8 0 7) (hR1 : Rg h_nameSizes 0 8 (-900) 7) : MI l yX5_spreadCosts cX5_spreadCosts 8 (some .boolean) (Rm 3 66 0 0) D cy [.ref w, .ref h] sz [(w, .inr (5, [.ref w_way_, .int w_waySize, .int w_tornSteps, .ref w_rings_, .ref w_hanging_, .ref w_costs_])), (w_way_, .inl (cy 1, 8, .inl w_way)), (w_rings_, .inl (cy 1, 9, .inl w_rings)), (w_hanging_, .inl (cy 1, 36, .inl w_hanging)), (w_costs_, .inl (cy 1, 36, .inl w_costs)), (h, .inr (6, [.int h_wide, .int h_high, .int h_law, .int h_spin, .int h_line, .int h_draught, .int h_books, .int h_rare, .ref h_quarrels_, .ref h_nameSizes_, .ref h_names_])), (h_quarrels_, .inl (cy 1, 8, .inl h_quarrels)), (h_nameSizes_, .inl (cy 1, 8, .inl h_nameSizes)), (h_names_, .inl (cy 1, 56, .inl h_names))] (fun (r : Int32) (u : (Nat → Int32)) => (0 ≤ r.toInt ∧ r.toInt ≤ 1)) (fun u : (Nat → Int32) => [(w, .inr (5, [.ref w_way_, .int w_waySize, .int w_tornSteps, .ref w_rings_, .ref w_hanging_, .ref w_costs_])), (w_way_, .inl (cy 1, 8, .inl w_way)), (w_rings_, .inl (cy 1, 9, .inl w_rings)), (w_hanging_, .inl (cy 1, 36, .inl w_hanging)), (w_costs_, .inl (cy 1, 36, .inl u)), (h, .inr (6, [.int h_wide, .int h_high, .int h_law, .int h_spin, .int h_line, .int h_draught, .int h_books, .int h_rare, .ref h_quarrels_, .ref h_nameSizes_, .ref h_names_])), (h_quarrels_, .inl (cy 1, 8, .inl h_quarrels)), (h_nameSizes_, .inl (cy 1, 8, .inl h_nameSizes)), (h_names_, .inl (cy 1, 56, .inl h_names))]) := by
  refine MI.enter (by decide) (Nat.le_of_ble_eq_true rfl) ?_
  intro p e s m below meth c ls A hsz hAe C hP hD hS hl
  exact b_o_spread l D cy w h w_way_ w_waySize w_tornSteps w_rings_ w_hanging_ w_costs_ w_way w_rings w_hanging w_costs h_wide h_high h_law h_spin h_line h_draught h_books h_rare h_quarrels_ h_nameSizes_ h_names_ h_quarrels h_nameSizes h_names hb0 hb1 hb2 hb3 hR0 hR1 ⟨Nat.le_of_ble_eq_true rfl, Nat.le_of_ble_eq_true rfl⟩ C rfl _ _ ls hP hD hS hl
set_option maxHeartbeats 4000000 in
set_option maxRecDepth 100000 in
theorem b_o_findTorn (l : Launch) (D : va_G) (cy : Nat → ClassId) (w : Nat) (h : Nat) (k : Nat) (a : Int32) (w_way_ : Nat) (w_waySize : Int32) (w_tornSteps : Int32) (w_rings_ : Nat) (w_hanging_ : Nat) (w_costs_ : Nat) (w_way : Nat → Int32) (w_rings : Nat → Int32) (w_hanging : Nat → Int32) (w_costs : Nat → Int32) (h_wide : Int32) (h_high : Int32) (h_law : Int32) (h_spin : Int32) (h_line : Int32) (h_draught : Int32) (h_books : Int32) (h_rare : Int32) (h_quarrels_ : Nat) (h_nameSizes_ : Nat) (h_names_ : Nat) (h_quarrels : Nat → Int32) (h_nameSizes : Nat → Int32) (h_names : Nat → Int32) (k_x_ : Nat) (k_y_ : Nat) (k_web_ : Nat) (k_asks_ : Nat) (k_threads_ : Nat) (k_today : Int32) (k_day : Int32) (k_seen_ : Nat) (k_x : Nat → Int32) (k_y : Nat → Int32) (k_web : Nat → Int32) (k_asks : Nat → Int32) (k_threads : Nat → Int32) (k_seen : Nat → Int32) (hb0 : w_waySize.toInt ≤ 8) (hb1 : 0 ≤ h_wide.toInt ∧ h_wide.toInt ≤ 6) (hb2 : 0 ≤ h_high.toInt ∧ h_high.toInt ≤ 6) (hb3 : 0 ≤ h_books.toInt ∧ h_books.toInt ≤ 8) (hb4 : 0 ≤ a.toInt ∧ a.toInt ≤ 7) (hR0 : Rg w_way 0 8 0 7) (hR1 : Rg h_nameSizes 0 8 (-900) 7) (hR2 : Rg k_x 0 8 0 5) (hR3 : Rg k_y 0 8 0 5) {p : Program} {e : Env} {s : State} {m : MethodId} {args : Array Value} {below : List Frame} {meth : Method} {c : Code} {A : Nat → Prop} {Q : State → Prop} {cells slots : Nat} (hroom : cells ≤ ((Rm 4 93 0 0)).cells ∧ slots ≤ ((Rm 4 93 0 0)).slots) (C : Cx p s m args meth c cX5_findTorn 6 (some .int) RX5 "findTorn" D cy A) (hQ : Q = MQ below (va_Qi (fun (r : Int32) (u : Int32 × (Nat → Int32) × (Nat → Int32)) => True) (Bx D A (fun u : Int32 × (Nat → Int32) × (Nat → Int32) => [(w, .inr (5, [.ref w_way_, .int w_waySize, .int u.1, .ref w_rings_, .ref w_hanging_, .ref w_costs_])), (w_way_, .inl (cy 1, 8, .inl w_way)), (w_rings_, .inl (cy 1, 9, .inl w_rings)), (w_hanging_, .inl (cy 1, 36, .inl u.2.1)), (w_costs_, .inl (cy 1, 36, .inl u.2.2)), (h, .inr (6, [.int h_wide, .int h_high, .int h_law, .int h_spin, .int h_line, .int h_draught, .int h_books, .int h_rare, .ref h_quarrels_, .ref h_nameSizes_, .ref h_names_])), (h_quarrels_, .inl (cy 1, 8, .inl h_quarrels)), (h_nameSizes_, .inl (cy 1, 8, .inl h_nameSizes)), (h_names_, .inl (cy 1, 56, .inl h_names)), (k, .inr (8, [.ref k_x_, .ref k_y_, .ref k_web_, .ref k_asks_, .ref k_threads_, .int k_today, .int k_day, .ref k_seen_])), (k_x_, .inl (cy 1, 8, .inl k_x)), (k_y_, .inl (cy 1, 8, .inl k_y)), (k_web_, .inl (cy 1, 8, .inl k_web)), (k_asks_, .inl (cy 1, 8, .inl k_asks)), (k_threads_, .inl (cy 1, 64, .inl k_threads)), (k_seen_, .inl (cy 1, 8, .inl k_seen))])) A) args s ((Rm 4 93 0 0)).cells ((Rm 4 93 0 0)).slots A) (H : Heap) (locs : List Loc) (ls : Array Slot) (hP : va_P D vwCl [(w, .inr (5, [.ref w_way_, .int w_waySize, .int w_tornSteps, .ref w_rings_, .ref w_hanging_, .ref w_costs_])), (w_way_, .inl (cy 1, 8, .inl w_way)), (w_rings_, .inl (cy 1, 9, .inl w_rings)), (w_hanging_, .inl (cy 1, 36, .inl w_hanging)), (w_costs_, .inl (cy 1, 36, .inl w_costs)), (h, .inr (6, [.int h_wide, .int h_high, .int h_law, .int h_spin, .int h_line, .int h_draught, .int h_books, .int h_rare, .ref h_quarrels_, .ref h_nameSizes_, .ref h_names_])), (h_quarrels_, .inl (cy 1, 8, .inl h_quarrels)), (h_nameSizes_, .inl (cy 1, 8, .inl h_nameSizes)), (h_names_, .inl (cy 1, 56, .inl h_names)), (k, .inr (8, [.ref k_x_, .ref k_y_, .ref k_web_, .ref k_asks_, .ref k_threads_, .int k_today, .int k_day, .ref k_seen_])), (k_x_, .inl (cy 1, 8, .inl k_x)), (k_y_, .inl (cy 1, 8, .inl k_y)), (k_web_, .inl (cy 1, 8, .inl k_web)), (k_asks_, .inl (cy 1, 8, .inl k_asks)), (k_threads_, .inl (cy 1, 64, .inl k_threads)), (k_seen_, .inl (cy 1, 8, .inl k_seen))] H) (hD : va_D A [(w, .inr (5, [.ref w_way_, .int w_waySize, .int w_tornSteps, .ref w_rings_, .ref w_hanging_, .ref w_costs_])), (w_way_, .inl (cy 1, 8, .inl w_way)), (w_rings_, .inl (cy 1, 9, .inl w_rings)), (w_hanging_, .inl (cy 1, 36, .inl w_hanging)), (w_costs_, .inl (cy 1, 36, .inl w_costs)), (h, .inr (6, [.int h_wide, .int h_high, .int h_law, .int h_spin, .int h_line, .int h_draught, .int h_books, .int h_rare, .ref h_quarrels_, .ref h_nameSizes_, .ref h_names_])), (h_quarrels_, .inl (cy 1, 8, .inl h_quarrels)), (h_nameSizes_, .inl (cy 1, 8, .inl h_nameSizes)), (h_names_, .inl (cy 1, 56, .inl h_names)), (k, .inr (8, [.ref k_x_, .ref k_y_, .ref k_web_, .ref k_asks_, .ref k_threads_, .int k_today, .int k_day, .ref k_seen_])), (k_x_, .inl (cy 1, 8, .inl k_x)), (k_y_, .inl (cy 1, 8, .inl k_y)), (k_web_, .inl (cy 1, 8, .inl k_web)), (k_asks_, .inl (cy 1, 8, .inl k_asks)), (k_threads_, .inl (cy 1, 64, .inl k_threads)), (k_seen_, .inl (cy 1, 8, .inl k_seen))]) (hS : va_S A s.heap H locs) (hl : lv_has ls 6 [(0, .ref w), (1, .ref h), (2, .ref k), (3, .int a)]) : W p l e (Rm 4 93 0 0) s m args below meth c H locs cells slots Q (F0 m 0 ls []) := by
  have hx := C.1
  have hb := C.2.1
  refine lv_aload_n hx hb dX5_findTorn_0 rfl (lv_at hl 0 rfl) ?_
  refine lv_aload_n hx hb dX5_findTorn_1 rfl (lv_at hl 1 rfl) ?_
  refine lv_aload_n hx hb dX5_findTorn_2 rfl (lv_at hl 2 rfl) ?_
  refine q_av (wr := []) (r_V (rm := (Rm 2 47 0 0)) (q0 := 0) (As := [.ref h, .ref k]) (rest := []) (wc := [(w, .inr (5, [.ref w_way_, .int w_waySize, .int w_tornSteps, .ref w_rings_, .ref w_hanging_, .ref w_costs_])), (w_way_, .inl (cy 1, 8, .inl w_way)), (w_rings_, .inl (cy 1, 9, .inl w_rings)), (w_hanging_, .inl (cy 1, 36, .inl w_hanging)), (w_costs_, .inl (cy 1, 36, .inl w_costs)), (h, .inr (6, [.int h_wide, .int h_high, .int h_law, .int h_spin, .int h_line, .int h_draught, .int h_books, .int h_rare, .ref h_quarrels_, .ref h_nameSizes_, .ref h_names_])), (h_quarrels_, .inl (cy 1, 8, .inl h_quarrels)), (h_nameSizes_, .inl (cy 1, 8, .inl h_nameSizes)), (h_names_, .inl (cy 1, 56, .inl h_names)), (k, .inr (8, [.ref k_x_, .ref k_y_, .ref k_web_, .ref k_asks_, .ref k_threads_, .int k_today, .int k_day, .ref k_seen_])), (k_x_, .inl (cy 1, 8, .inl k_x)), (k_y_, .inl (cy 1, 8, .inl k_y)), (k_web_, .inl (cy 1, 8, .inl k_web)), (k_asks_, .inl (cy 1, 8, .inl k_asks)), (k_threads_, .inl (cy 1, 64, .inl k_threads)), (k_seen_, .inl (cy 1, 8, .inl k_seen))]) C hS (q_subP hP [0, 1, 2, 3, 4, 5, 6, 7, 8, 9, 10, 11, 12, 13, 14, 15] rfl) (hD.sub [0, 1, 2, 3, 4, 5, 6, 7, 8, 9, 10, 11, 12, 13, 14, 15] (by decide) rfl) (o_hangThreads l D cy w h k w_way_ w_waySize w_tornSteps w_rings_ w_hanging_ w_costs_ w_way w_rings w_hanging w_costs h_wide h_high h_law h_spin h_line h_draught h_books h_rare h_quarrels_ h_nameSizes_ h_names_ h_quarrels h_nameSizes h_names k_x_ k_y_ k_web_ k_asks_ k_threads_ k_today k_day k_seen_ k_x k_y k_web k_asks k_threads k_seen _ (by omega) (by omega) (by omega) (by omega) hR0 hR1 hR2 hR3) kwV_X5_hangThreads kM_RX5_58 rfl rfl ⟨Nat.le_of_ble_eq_true rfl, Nat.le_of_ble_eq_true rfl⟩ rfl hl.1 rfl (Nat.le_of_ble_eq_true rfl) dX5_findTorn_3 ⟨hroom.1, hroom.2⟩) C.2.2.2.2.2.2.1 hP hD hS [0, 1, 2, 3, 4, 5, 6, 7, 8, 9, 10, 11, 12, 13, 14, 15] [] rfl rfl (by decide) (by decide) (fun u_1 H locs hw_3 hP hD hS => ?_)
  obtain ⟨g_4, rfl⟩ : ∃ z, z = u_1 := ⟨_, rfl⟩
  have hP : va_P D vwCl [(w, .inr (5, [.ref w_way_, .int w_waySize, .int w_tornSteps, .ref w_rings_, .ref w_hanging_, .ref w_costs_])), (w_way_, .inl (cy 1, 8, .inl w_way)), (w_rings_, .inl (cy 1, 9, .inl w_rings)), (w_hanging_, .inl (cy 1, 36, .inl g_4)), (w_costs_, .inl (cy 1, 36, .inl w_costs)), (h, .inr (6, [.int h_wide, .int h_high, .int h_law, .int h_spin, .int h_line, .int h_draught, .int h_books, .int h_rare, .ref h_quarrels_, .ref h_nameSizes_, .ref h_names_])), (h_quarrels_, .inl (cy 1, 8, .inl h_quarrels)), (h_nameSizes_, .inl (cy 1, 8, .inl h_nameSizes)), (h_names_, .inl (cy 1, 56, .inl h_names)), (k, .inr (8, [.ref k_x_, .ref k_y_, .ref k_web_, .ref k_asks_, .ref k_threads_, .int k_today, .int k_day, .ref k_seen_])), (k_x_, .inl (cy 1, 8, .inl k_x)), (k_y_, .inl (cy 1, 8, .inl k_y)), (k_web_, .inl (cy 1, 8, .inl k_web)), (k_asks_, .inl (cy 1, 8, .inl k_asks)), (k_threads_, .inl (cy 1, 64, .inl k_threads)), (k_seen_, .inl (cy 1, 8, .inl k_seen))] H := hP
  have hD : va_D A [(w, .inr (5, [.ref w_way_, .int w_waySize, .int w_tornSteps, .ref w_rings_, .ref w_hanging_, .ref w_costs_])), (w_way_, .inl (cy 1, 8, .inl w_way)), (w_rings_, .inl (cy 1, 9, .inl w_rings)), (w_hanging_, .inl (cy 1, 36, .inl g_4)), (w_costs_, .inl (cy 1, 36, .inl w_costs)), (h, .inr (6, [.int h_wide, .int h_high, .int h_law, .int h_spin, .int h_line, .int h_draught, .int h_books, .int h_rare, .ref h_quarrels_, .ref h_nameSizes_, .ref h_names_])), (h_quarrels_, .inl (cy 1, 8, .inl h_quarrels)), (h_nameSizes_, .inl (cy 1, 8, .inl h_nameSizes)), (h_names_, .inl (cy 1, 56, .inl h_names)), (k, .inr (8, [.ref k_x_, .ref k_y_, .ref k_web_, .ref k_asks_, .ref k_threads_, .int k_today, .int k_day, .ref k_seen_])), (k_x_, .inl (cy 1, 8, .inl k_x)), (k_y_, .inl (cy 1, 8, .inl k_y)), (k_web_, .inl (cy 1, 8, .inl k_web)), (k_asks_, .inl (cy 1, 8, .inl k_asks)), (k_threads_, .inl (cy 1, 64, .inl k_threads)), (k_seen_, .inl (cy 1, 8, .inl k_seen))] := hD
  refine lv_iconst (v := 0) hx hb dX5_findTorn_6 (by decide) ?_
  refine lv_istore (lv' := [(4, .int 0), (0, .ref w), (1, .ref h), (2, .ref k), (3, .int a)]) hx hb dX5_findTorn_7 hl (by decide) rfl (fun ls hl => ?_)
  have lp_9_6 : ∀ (n_7 : Nat) (x_5 : Int32) (g_6 : Nat → Int32) (H : Heap) (locs : List Loc) (ls : Array Slot), (-1) * x_5.toInt + 36 < (n_7 : Int) → (0 ≤ x_5.toInt ∧ x_5.toInt ≤ 36) → va_P D vwCl [(w, .inr (5, [.ref w_way_, .int w_waySize, .int w_tornSteps, .ref w_rings_, .ref w_hanging_, .ref w_costs_])), (w_way_, .inl (cy 1, 8, .inl w_way)), (w_rings_, .inl (cy 1, 9, .inl w_rings)), (w_hanging_, .inl (cy 1, 36, .inl g_4)), (w_costs_, .inl (cy 1, 36, .inl g_6)), (h, .inr (6, [.int h_wide, .int h_high, .int h_law, .int h_spin, .int h_line, .int h_draught, .int h_books, .int h_rare, .ref h_quarrels_, .ref h_nameSizes_, .ref h_names_])), (h_quarrels_, .inl (cy 1, 8, .inl h_quarrels)), (h_nameSizes_, .inl (cy 1, 8, .inl h_nameSizes)), (h_names_, .inl (cy 1, 56, .inl h_names)), (k, .inr (8, [.ref k_x_, .ref k_y_, .ref k_web_, .ref k_asks_, .ref k_threads_, .int k_today, .int k_day, .ref k_seen_])), (k_x_, .inl (cy 1, 8, .inl k_x)), (k_y_, .inl (cy 1, 8, .inl k_y)), (k_web_, .inl (cy 1, 8, .inl k_web)), (k_asks_, .inl (cy 1, 8, .inl k_asks)), (k_threads_, .inl (cy 1, 64, .inl k_threads)), (k_seen_, .inl (cy 1, 8, .inl k_seen))] H → va_D A [(w, .inr (5, [.ref w_way_, .int w_waySize, .int w_tornSteps, .ref w_rings_, .ref w_hanging_, .ref w_costs_])), (w_way_, .inl (cy 1, 8, .inl w_way)), (w_rings_, .inl (cy 1, 9, .inl w_rings)), (w_hanging_, .inl (cy 1, 36, .inl g_4)), (w_costs_, .inl (cy 1, 36, .inl g_6)), (h, .inr (6, [.int h_wide, .int h_high, .int h_law, .int h_spin, .int h_line, .int h_draught, .int h_books, .int h_rare, .ref h_quarrels_, .ref h_nameSizes_, .ref h_names_])), (h_quarrels_, .inl (cy 1, 8, .inl h_quarrels)), (h_nameSizes_, .inl (cy 1, 8, .inl h_nameSizes)), (h_names_, .inl (cy 1, 56, .inl h_names)), (k, .inr (8, [.ref k_x_, .ref k_y_, .ref k_web_, .ref k_asks_, .ref k_threads_, .int k_today, .int k_day, .ref k_seen_])), (k_x_, .inl (cy 1, 8, .inl k_x)), (k_y_, .inl (cy 1, 8, .inl k_y)), (k_web_, .inl (cy 1, 8, .inl k_web)), (k_asks_, .inl (cy 1, 8, .inl k_asks)), (k_threads_, .inl (cy 1, 64, .inl k_threads)), (k_seen_, .inl (cy 1, 8, .inl k_seen))] → va_S A s.heap H locs → lv_has ls 6 [(0, .ref w), (1, .ref h), (2, .ref k), (3, .int a), (4, .int x_5)] → W p l e (Rm 4 93 0 0) s m args below meth c H locs cells slots Q (F0 m 9 ls []) := by
    intro n_7
    induction n_7 with
    | zero =>
      intro x_5 g_6 H locs ls hm_9 hf_8 hP hD hS hl
      exact absurd hm_9 (by omega)
    | succ n_7 ih_10 =>
      intro x_5 g_6 H locs ls hm_9 hf_8 hP hD hS hl
      refine lv_iload hx hb dX5_findTorn_9 (lv_at hl 4 rfl) ?_
      refine lv_bipush (v := 36) hx hb dX5_findTorn_11 (by decide) ?_
      refine lv_icmp_ge (tgt := 31) hx hb dX5_findTorn_13 (by decide) (fun c_12 => ?_) (fun c_12 => ?_)
      · have hc_12 := o_le (by decide : (36 : Int32).toInt = 36) (rfl : x_5.toInt = x_5.toInt) c_12
        refine lv_aload_n hx hb dX5_findTorn_31 rfl (lv_at hl 0 rfl) ?_
        refine q_get (v := .ref w_costs_) C hP 0 5 rfl rfl inX5 (by decide) kF_RX5_28 rfl rfl dX5_findTorn_32 ?_
        refine lv_iconst (v := 0) hx hb dX5_findTorn_35 (by decide) ?_
        refine lv_aload_n hx hb dX5_findTorn_36 rfl (lv_at hl 0 rfl) ?_
        refine q_get (v := .ref w_hanging_) C hP 0 4 rfl rfl inX5 (by decide) kF_RX5_25 rfl rfl dX5_findTorn_37 ?_
        refine lv_iconst (v := 0) hx hb dX5_findTorn_40 (by decide) ?_
        refine q_iald (v := g_4 0) C hP 3 rfl (vin (by decide +kernel)) rfl dX5_findTorn_41 ?_
        refine lv_topi (fun z_13 ez_13 => ?_)
        refine lv_bipush (v := 64) hx hb dX5_findTorn_42 (by decide) ?_
        refine lv_imul hx hb dX5_findTorn_44 ?_
        refine lv_topi (fun z_14 hz_14 => ?_)
        clear hz_14
        refine q_iast (g := upd g_6 0 z_14) (w' := [(w, .inr (5, [.ref w_way_, .int w_waySize, .int w_tornSteps, .ref w_rings_, .ref w_hanging_, .ref w_costs_])), (w_way_, .inl (cy 1, 8, .inl w_way)), (w_rings_, .inl (cy 1, 9, .inl w_rings)), (w_hanging_, .inl (cy 1, 36, .inl g_4)), (w_costs_, .inl (cy 1, 36, .inl (upd g_6 0 z_14))), (h, .inr (6, [.int h_wide, .int h_high, .int h_law, .int h_spin, .int h_line, .int h_draught, .int h_books, .int h_rare, .ref h_quarrels_, .ref h_nameSizes_, .ref h_names_])), (h_quarrels_, .inl (cy 1, 8, .inl h_quarrels)), (h_nameSizes_, .inl (cy 1, 8, .inl h_nameSizes)), (h_names_, .inl (cy 1, 56, .inl h_names)), (k, .inr (8, [.ref k_x_, .ref k_y_, .ref k_web_, .ref k_asks_, .ref k_threads_, .int k_today, .int k_day, .ref k_seen_])), (k_x_, .inl (cy 1, 8, .inl k_x)), (k_y_, .inl (cy 1, 8, .inl k_y)), (k_web_, .inl (cy 1, 8, .inl k_web)), (k_asks_, .inl (cy 1, 8, .inl k_asks)), (k_threads_, .inl (cy 1, 64, .inl k_threads)), (k_seen_, .inl (cy 1, 8, .inl k_seen))]) C hP hD hS 4 rfl (vin (by decide +kernel)) rfl rfl dX5_findTorn_45 (fun H locs hP hD hS => ?_)
        generalize upd g_6 0 z_14 = g_15 at hP hD 
        have hP : va_P D vwCl [(w, .inr (5, [.ref w_way_, .int w_waySize, .int w_tornSteps, .ref w_rings_, .ref w_hanging_, .ref w_costs_])), (w_way_, .inl (cy 1, 8, .inl w_way)), (w_rings_, .inl (cy 1, 9, .inl w_rings)), (w_hanging_, .inl (cy 1, 36, .inl g_4)), (w_costs_, .inl (cy 1, 36, .inl g_15)), (h, .inr (6, [.int h_wide, .int h_high, .int h_law, .int h_spin, .int h_line, .int h_draught, .int h_books, .int h_rare, .ref h_quarrels_, .ref h_nameSizes_, .ref h_names_])), (h_quarrels_, .inl (cy 1, 8, .inl h_quarrels)), (h_nameSizes_, .inl (cy 1, 8, .inl h_nameSizes)), (h_names_, .inl (cy 1, 56, .inl h_names)), (k, .inr (8, [.ref k_x_, .ref k_y_, .ref k_web_, .ref k_asks_, .ref k_threads_, .int k_today, .int k_day, .ref k_seen_])), (k_x_, .inl (cy 1, 8, .inl k_x)), (k_y_, .inl (cy 1, 8, .inl k_y)), (k_web_, .inl (cy 1, 8, .inl k_web)), (k_asks_, .inl (cy 1, 8, .inl k_asks)), (k_threads_, .inl (cy 1, 64, .inl k_threads)), (k_seen_, .inl (cy 1, 8, .inl k_seen))] H := hP
        have hD : va_D A [(w, .inr (5, [.ref w_way_, .int w_waySize, .int w_tornSteps, .ref w_rings_, .ref w_hanging_, .ref w_costs_])), (w_way_, .inl (cy 1, 8, .inl w_way)), (w_rings_, .inl (cy 1, 9, .inl w_rings)), (w_hanging_, .inl (cy 1, 36, .inl g_4)), (w_costs_, .inl (cy 1, 36, .inl g_15)), (h, .inr (6, [.int h_wide, .int h_high, .int h_law, .int h_spin, .int h_line, .int h_draught, .int h_books, .int h_rare, .ref h_quarrels_, .ref h_nameSizes_, .ref h_names_])), (h_quarrels_, .inl (cy 1, 8, .inl h_quarrels)), (h_nameSizes_, .inl (cy 1, 8, .inl h_nameSizes)), (h_names_, .inl (cy 1, 56, .inl h_names)), (k, .inr (8, [.ref k_x_, .ref k_y_, .ref k_web_, .ref k_asks_, .ref k_threads_, .int k_today, .int k_day, .ref k_seen_])), (k_x_, .inl (cy 1, 8, .inl k_x)), (k_y_, .inl (cy 1, 8, .inl k_y)), (k_web_, .inl (cy 1, 8, .inl k_web)), (k_asks_, .inl (cy 1, 8, .inl k_asks)), (k_threads_, .inl (cy 1, 64, .inl k_threads)), (k_seen_, .inl (cy 1, 8, .inl k_seen))] := hD
        refine lv_iconst (v := 1) hx hb dX5_findTorn_46 (by decide) ?_
        refine lv_istore (lv' := [(4, .int 1), (0, .ref w), (1, .ref h), (2, .ref k), (3, .int a)]) hx hb dX5_findTorn_47 hl (by decide) rfl (fun ls hl => ?_)
        refine lv_iconst (v := 0) hx hb dX5_findTorn_49 (by decide) ?_
        refine lv_istore (lv' := [(5, .int 0), (4, .int 1), (0, .ref w), (1, .ref h), (2, .ref k), (3, .int a)]) hx hb dX5_findTorn_50 hl (by decide) rfl (fun ls hl => ?_)
        have lp_52_18 : ∀ (n_19 : Nat) (x_16 : Int32) (x_17 : Int32) (g_18 : Nat → Int32) (H : Heap) (locs : List Loc) (ls : Array Slot), (-1) * x_17.toInt + 36 < (n_19 : Int) → (0 ≤ x_16.toInt ∧ x_16.toInt ≤ 1) → (0 ≤ x_17.toInt ∧ x_17.toInt ≤ 36) → va_P D vwCl [(w, .inr (5, [.ref w_way_, .int w_waySize, .int w_tornSteps, .ref w_rings_, .ref w_hanging_, .ref w_costs_])), (w_way_, .inl (cy 1, 8, .inl w_way)), (w_rings_, .inl (cy 1, 9, .inl w_rings)), (w_hanging_, .inl (cy 1, 36, .inl g_4)), (w_costs_, .inl (cy 1, 36, .inl g_18)), (h, .inr (6, [.int h_wide, .int h_high, .int h_law, .int h_spin, .int h_line, .int h_draught, .int h_books, .int h_rare, .ref h_quarrels_, .ref h_nameSizes_, .ref h_names_])), (h_quarrels_, .inl (cy 1, 8, .inl h_quarrels)), (h_nameSizes_, .inl (cy 1, 8, .inl h_nameSizes)), (h_names_, .inl (cy 1, 56, .inl h_names)), (k, .inr (8, [.ref k_x_, .ref k_y_, .ref k_web_, .ref k_asks_, .ref k_threads_, .int k_today, .int k_day, .ref k_seen_])), (k_x_, .inl (cy 1, 8, .inl k_x)), (k_y_, .inl (cy 1, 8, .inl k_y)), (k_web_, .inl (cy 1, 8, .inl k_web)), (k_asks_, .inl (cy 1, 8, .inl k_asks)), (k_threads_, .inl (cy 1, 64, .inl k_threads)), (k_seen_, .inl (cy 1, 8, .inl k_seen))] H → va_D A [(w, .inr (5, [.ref w_way_, .int w_waySize, .int w_tornSteps, .ref w_rings_, .ref w_hanging_, .ref w_costs_])), (w_way_, .inl (cy 1, 8, .inl w_way)), (w_rings_, .inl (cy 1, 9, .inl w_rings)), (w_hanging_, .inl (cy 1, 36, .inl g_4)), (w_costs_, .inl (cy 1, 36, .inl g_18)), (h, .inr (6, [.int h_wide, .int h_high, .int h_law, .int h_spin, .int h_line, .int h_draught, .int h_books, .int h_rare, .ref h_quarrels_, .ref h_nameSizes_, .ref h_names_])), (h_quarrels_, .inl (cy 1, 8, .inl h_quarrels)), (h_nameSizes_, .inl (cy 1, 8, .inl h_nameSizes)), (h_names_, .inl (cy 1, 56, .inl h_names)), (k, .inr (8, [.ref k_x_, .ref k_y_, .ref k_web_, .ref k_asks_, .ref k_threads_, .int k_today, .int k_day, .ref k_seen_])), (k_x_, .inl (cy 1, 8, .inl k_x)), (k_y_, .inl (cy 1, 8, .inl k_y)), (k_web_, .inl (cy 1, 8, .inl k_web)), (k_asks_, .inl (cy 1, 8, .inl k_asks)), (k_threads_, .inl (cy 1, 64, .inl k_threads)), (k_seen_, .inl (cy 1, 8, .inl k_seen))] → va_S A s.heap H locs → lv_has ls 6 [(0, .ref w), (1, .ref h), (2, .ref k), (3, .int a), (4, .int x_16), (5, .int x_17)] → W p l e (Rm 4 93 0 0) s m args below meth c H locs cells slots Q (F0 m 52 ls []) := by
          intro n_19
          induction n_19 with
          | zero =>
            intro x_16 x_17 g_18 H locs ls hm_22 hf_20 hf_21 hP hD hS hl
            exact absurd hm_22 (by omega)
          | succ n_19 ih_23 =>
            intro x_16 x_17 g_18 H locs ls hm_22 hf_20 hf_21 hP hD hS hl
            refine lv_iload hx hb dX5_findTorn_52 (lv_at hl 5 rfl) ?_
            refine lv_bipush (v := 36) hx hb dX5_findTorn_54 (by decide) ?_
            have cut_77_24 : ∀  (H : Heap) (locs : List Loc) (ls : Array Slot), va_P D vwCl [(w, .inr (5, [.ref w_way_, .int w_waySize, .int w_tornSteps, .ref w_rings_, .ref w_hanging_, .ref w_costs_])), (w_way_, .inl (cy 1, 8, .inl w_way)), (w_rings_, .inl (cy 1, 9, .inl w_rings)), (w_hanging_, .inl (cy 1, 36, .inl g_4)), (w_costs_, .inl (cy 1, 36, .inl g_18)), (h, .inr (6, [.int h_wide, .int h_high, .int h_law, .int h_spin, .int h_line, .int h_draught, .int h_books, .int h_rare, .ref h_quarrels_, .ref h_nameSizes_, .ref h_names_])), (h_quarrels_, .inl (cy 1, 8, .inl h_quarrels)), (h_nameSizes_, .inl (cy 1, 8, .inl h_nameSizes)), (h_names_, .inl (cy 1, 56, .inl h_names)), (k, .inr (8, [.ref k_x_, .ref k_y_, .ref k_web_, .ref k_asks_, .ref k_threads_, .int k_today, .int k_day, .ref k_seen_])), (k_x_, .inl (cy 1, 8, .inl k_x)), (k_y_, .inl (cy 1, 8, .inl k_y)), (k_web_, .inl (cy 1, 8, .inl k_web)), (k_asks_, .inl (cy 1, 8, .inl k_asks)), (k_threads_, .inl (cy 1, 64, .inl k_threads)), (k_seen_, .inl (cy 1, 8, .inl k_seen))] H → va_D A [(w, .inr (5, [.ref w_way_, .int w_waySize, .int w_tornSteps, .ref w_rings_, .ref w_hanging_, .ref w_costs_])), (w_way_, .inl (cy 1, 8, .inl w_way)), (w_rings_, .inl (cy 1, 9, .inl w_rings)), (w_hanging_, .inl (cy 1, 36, .inl g_4)), (w_costs_, .inl (cy 1, 36, .inl g_18)), (h, .inr (6, [.int h_wide, .int h_high, .int h_law, .int h_spin, .int h_line, .int h_draught, .int h_books, .int h_rare, .ref h_quarrels_, .ref h_nameSizes_, .ref h_names_])), (h_quarrels_, .inl (cy 1, 8, .inl h_quarrels)), (h_nameSizes_, .inl (cy 1, 8, .inl h_nameSizes)), (h_names_, .inl (cy 1, 56, .inl h_names)), (k, .inr (8, [.ref k_x_, .ref k_y_, .ref k_web_, .ref k_asks_, .ref k_threads_, .int k_today, .int k_day, .ref k_seen_])), (k_x_, .inl (cy 1, 8, .inl k_x)), (k_y_, .inl (cy 1, 8, .inl k_y)), (k_web_, .inl (cy 1, 8, .inl k_web)), (k_asks_, .inl (cy 1, 8, .inl k_asks)), (k_threads_, .inl (cy 1, 64, .inl k_threads)), (k_seen_, .inl (cy 1, 8, .inl k_seen))] → va_S A s.heap H locs → lv_has ls 6 [(0, .ref w), (2, .ref k), (3, .int a)] → W p l e (Rm 4 93 0 0) s m args below meth c H locs cells slots Q (F0 m 77 ls []) := by
              intro  H locs ls  hP hD hS hl
              refine lv_aload_n hx hb dX5_findTorn_77 rfl (lv_at hl 0 rfl) ?_
              refine q_get (v := .ref w_costs_) C hP 0 5 rfl rfl inX5 (by decide) kF_RX5_28 rfl rfl dX5_findTorn_78 ?_
              refine lv_aload_n hx hb dX5_findTorn_81 rfl (lv_at hl 1 rfl) ?_
              refine q_get (v := .ref k_x_) C hP 9 0 rfl rfl inX8 (by decide) kF_RX5_67 rfl rfl dX5_findTorn_82 ?_
              refine lv_iload_n hx hb dX5_findTorn_85 rfl (lv_at hl 2 rfl) ?_
              refine q_iald (v := k_x a.toNatClampNeg) C hP 10 rfl (o_in (rfl : a.toInt = a.toInt) (by omega) (by omega)) rfl dX5_findTorn_86 ?_
              refine lv_topi (fun z_26 ez_26 => ?_)
              have hz_26 := Rg.at hR2 ez_26 (by have := o_cl (rfl : a.toInt = a.toInt) (by omega); omega) (by have := o_cl (rfl : a.toInt = a.toInt) (by omega); omega)
              refine lv_aload_n hx hb dX5_findTorn_87 rfl (lv_at hl 1 rfl) ?_
              refine q_get (v := .ref k_y_) C hP 9 1 rfl rfl inX8 (by decide) kF_RX5_70 rfl rfl dX5_findTorn_88 ?_
              refine lv_iload_n hx hb dX5_findTorn_91 rfl (lv_at hl 2 rfl) ?_
              refine q_iald (v := k_y a.toNatClampNeg) C hP 11 rfl (o_in (rfl : a.toInt = a.toInt) (by omega) (by omega)) rfl dX5_findTorn_92 ?_
              refine lv_topi (fun z_27 ez_27 => ?_)
              have hz_27 := Rg.at hR3 ez_27 (by have := o_cl (rfl : a.toInt = a.toInt) (by omega); omega) (by have := o_cl (rfl : a.toInt = a.toInt) (by omega); omega)
              refine q_ai (wr := [(w, .inr (5, [.ref w_way_, .int w_waySize, .int w_tornSteps, .ref w_rings_, .ref w_hanging_, .ref w_costs_])), (w_way_, .inl (cy 1, 8, .inl w_way)), (w_rings_, .inl (cy 1, 9, .inl w_rings)), (w_hanging_, .inl (cy 1, 36, .inl g_4)), (w_costs_, .inl (cy 1, 36, .inl g_18)), (h, .inr (6, [.int h_wide, .int h_high, .int h_law, .int h_spin, .int h_line, .int h_draught, .int h_books, .int h_rare, .ref h_quarrels_, .ref h_nameSizes_, .ref h_names_])), (h_quarrels_, .inl (cy 1, 8, .inl h_quarrels)), (h_nameSizes_, .inl (cy 1, 8, .inl h_nameSizes)), (h_names_, .inl (cy 1, 56, .inl h_names)), (k, .inr (8, [.ref k_x_, .ref k_y_, .ref k_web_, .ref k_asks_, .ref k_threads_, .int k_today, .int k_day, .ref k_seen_])), (k_x_, .inl (cy 1, 8, .inl k_x)), (k_y_, .inl (cy 1, 8, .inl k_y)), (k_web_, .inl (cy 1, 8, .inl k_web)), (k_asks_, .inl (cy 1, 8, .inl k_asks)), (k_threads_, .inl (cy 1, 64, .inl k_threads)), (k_seen_, .inl (cy 1, 8, .inl k_seen))]) (r_S (rm := (Rm 0 0 0 0)) (As := [.int z_26, .int z_27]) (rest := [.ref w_costs_]) (wc := []) C hS (q_subP hP [] rfl) (hD.sub [] (by decide) rfl) (o_cellPlace l D cy z_26 z_27 _ (by omega) (by omega)) kwS_X5_cellPlace kM_RX5_73 ⟨Nat.le_of_ble_eq_true rfl, Nat.le_of_ble_eq_true rfl⟩ rfl hl.1 rfl (Nat.le_of_ble_eq_true rfl) dX5_findTorn_93 ⟨hroom.1, hroom.2⟩) C.2.2.2.2.2.2.1 hP hD hS [] [0, 1, 2, 3, 4, 5, 6, 7, 8, 9, 10, 11, 12, 13, 14, 15] rfl rfl (by decide) (by decide) (fun r_29 u_28 H locs hw_30 hP hD hS => ?_)
              have hp_30 : 0 ≤ r_29.toInt ∧ r_29.toInt ≤ 35 := hw_30
              refine q_iald (v := g_18 r_29.toNatClampNeg) C hP 4 rfl (o_in (rfl : r_29.toInt = r_29.toInt) (by omega) (by omega)) rfl dX5_findTorn_96 ?_
              refine lv_topi (fun z_32 ez_32 => ?_)
              refine lv_istore (lv' := [(5, .int z_32), (0, .ref w), (2, .ref k), (3, .int a)]) hx hb dX5_findTorn_97 hl (by decide) rfl (fun ls hl => ?_)
              refine lv_aload_n hx hb dX5_findTorn_99 rfl (lv_at hl 1 rfl) ?_
              refine lv_iload hx hb dX5_findTorn_100 (lv_at hl 0 rfl) ?_
              refine lv_bipush (v := 64) hx hb dX5_findTorn_102 (by decide) ?_
              refine lv_irem hx hb dX5_findTorn_104 (by decide) ?_
              refine lv_topi (fun z_33 hz_33 => ?_)
              clear hz_33
              refine q_put (v := .int z_33) (w' := [(w, .inr (5, [.ref w_way_, .int w_waySize, .int z_33, .ref w_rings_, .ref w_hanging_, .ref w_costs_])), (w_way_, .inl (cy 1, 8, .inl w_way)), (w_rings_, .inl (cy 1, 9, .inl w_rings)), (w_hanging_, .inl (cy 1, 36, .inl g_4)), (w_costs_, .inl (cy 1, 36, .inl g_18)), (h, .inr (6, [.int h_wide, .int h_high, .int h_law, .int h_spin, .int h_line, .int h_draught, .int h_books, .int h_rare, .ref h_quarrels_, .ref h_nameSizes_, .ref h_names_])), (h_quarrels_, .inl (cy 1, 8, .inl h_quarrels)), (h_nameSizes_, .inl (cy 1, 8, .inl h_nameSizes)), (h_names_, .inl (cy 1, 56, .inl h_names)), (k, .inr (8, [.ref k_x_, .ref k_y_, .ref k_web_, .ref k_asks_, .ref k_threads_, .int k_today, .int k_day, .ref k_seen_])), (k_x_, .inl (cy 1, 8, .inl k_x)), (k_y_, .inl (cy 1, 8, .inl k_y)), (k_web_, .inl (cy 1, 8, .inl k_web)), (k_asks_, .inl (cy 1, 8, .inl k_asks)), (k_threads_, .inl (cy 1, 64, .inl k_threads)), (k_seen_, .inl (cy 1, 8, .inl k_seen))]) (ty := .int) C hP hD hS 0 2 rfl rfl inX5 tyX5 tyX5_ok nmX5 (by decide) kF_RX5_19 rfl rfl rfl rfl rfl (Nat.le_of_ble_eq_true rfl) rfl dX5_findTorn_105 (fun H locs hP hD hS => ?_)
              refine lv_iload hx hb dX5_findTorn_108 (lv_at hl 0 rfl) ?_
              refine lv_bipush (v := 64) hx hb dX5_findTorn_110 (by decide) ?_
              refine lv_idiv hx hb dX5_findTorn_112 (by decide) ?_
              refine lv_topi (fun z_34 hz_34 => ?_)
              clear hz_34
              refine o_wq hQ ?_
              exact q_iret (rm := (Rm 4 93 0 0)) C hS (z_33, g_4, g_18) rfl trivial (q_subP hP [0, 1, 2, 3, 4, 5, 6, 7, 8, 9, 10, 11, 12, 13, 14, 15] rfl) (hD.sub [0, 1, 2, 3, 4, 5, 6, 7, 8, 9, 10, 11, 12, 13, 14, 15] (by decide) rfl) hroom.1 hroom.2 dX5_findTorn_113
            refine lv_icmp_ge (tgt := 77) hx hb dX5_findTorn_56 (by decide) (fun c_35 => ?_) (fun c_35 => ?_)
            · have hc_35 := o_le (by decide : (36 : Int32).toInt = 36) (rfl : x_17.toInt = x_17.toInt) c_35
              exact cut_77_24  H locs ls   hP hD hS (lv_sub hl [0, 2, 3] rfl)
            · have hc_35 := o_nle (by decide : (36 : Int32).toInt = 36) (rfl : x_17.toInt = x_17.toInt) c_35
              refine lv_iload hx hb dX5_findTorn_59 (lv_at hl 4 rfl) ?_
              refine lv_if_eq (tgt := 77) hx hb dX5_findTorn_61 (by decide) (fun c_36 => ?_) (fun c_36 => ?_)
              · have hc_36 := o_eq (rfl : x_16.toInt = x_16.toInt) (by decide : (0 : Int32).toInt = 0) c_36
                exact cut_77_24  H locs ls   hP hD hS (lv_sub hl [0, 2, 3] rfl)
              · have hc_36 := o_ne (rfl : x_16.toInt = x_16.toInt) (by decide : (0 : Int32).toInt = 0) c_36
                have hnc_36 : 0 ≤ x_16.toInt + (-1) := by rcases Int.lt_or_gt_of_ne hc_36 with h9 | h9 <;> omega
                refine lv_aload_n hx hb dX5_findTorn_64 rfl (lv_at hl 0 rfl) ?_
                refine lv_aload_n hx hb dX5_findTorn_65 rfl (lv_at hl 1 rfl) ?_
                refine q_ai (wr := [(k, .inr (8, [.ref k_x_, .ref k_y_, .ref k_web_, .ref k_asks_, .ref k_threads_, .int k_today, .int k_day, .ref k_seen_])), (k_x_, .inl (cy 1, 8, .inl k_x)), (k_y_, .inl (cy 1, 8, .inl k_y)), (k_web_, .inl (cy 1, 8, .inl k_web)), (k_asks_, .inl (cy 1, 8, .inl k_asks)), (k_threads_, .inl (cy 1, 64, .inl k_threads)), (k_seen_, .inl (cy 1, 8, .inl k_seen))]) (r_V (rm := (Rm 3 66 0 0)) (q0 := 0) (As := [.ref h]) (rest := []) (wc := [(w, .inr (5, [.ref w_way_, .int w_waySize, .int w_tornSteps, .ref w_rings_, .ref w_hanging_, .ref w_costs_])), (w_way_, .inl (cy 1, 8, .inl w_way)), (w_rings_, .inl (cy 1, 9, .inl w_rings)), (w_hanging_, .inl (cy 1, 36, .inl g_4)), (w_costs_, .inl (cy 1, 36, .inl g_18)), (h, .inr (6, [.int h_wide, .int h_high, .int h_law, .int h_spin, .int h_line, .int h_draught, .int h_books, .int h_rare, .ref h_quarrels_, .ref h_nameSizes_, .ref h_names_])), (h_quarrels_, .inl (cy 1, 8, .inl h_quarrels)), (h_nameSizes_, .inl (cy 1, 8, .inl h_nameSizes)), (h_names_, .inl (cy 1, 56, .inl h_names))]) C hS (q_subP hP [0, 1, 2, 3, 4, 5, 6, 7, 8] rfl) (hD.sub [0, 1, 2, 3, 4, 5, 6, 7, 8] (by decide) rfl) (o_spread l D cy w h w_way_ w_waySize w_tornSteps w_rings_ w_hanging_ w_costs_ w_way w_rings g_4 g_18 h_wide h_high h_law h_spin h_line h_draught h_books h_rare h_quarrels_ h_nameSizes_ h_names_ h_quarrels h_nameSizes h_names _ (by omega) (by omega) (by omega) (by omega) hR0 hR1) kwV_X5_spreadCosts kM_RX5_63 rfl rfl ⟨Nat.le_of_ble_eq_true rfl, Nat.le_of_ble_eq_true rfl⟩ rfl hl.1 rfl (Nat.le_of_ble_eq_true rfl) dX5_findTorn_66 ⟨hroom.1, hroom.2⟩) C.2.2.2.2.2.2.1 hP hD hS [0, 1, 2, 3, 4, 5, 6, 7, 8] [9, 10, 11, 12, 13, 14, 15] rfl rfl (by decide) (by decide) (fun r_38 u_37 H locs hw_39 hP hD hS => ?_)
                obtain ⟨g_40, rfl⟩ : ∃ z, z = u_37 := ⟨_, rfl⟩
                have hP : va_P D vwCl [(k, .inr (8, [.ref k_x_, .ref k_y_, .ref k_web_, .ref k_asks_, .ref k_threads_, .int k_today, .int k_day, .ref k_seen_])), (k_x_, .inl (cy 1, 8, .inl k_x)), (k_y_, .inl (cy 1, 8, .inl k_y)), (k_web_, .inl (cy 1, 8, .inl k_web)), (k_asks_, .inl (cy 1, 8, .inl k_asks)), (k_threads_, .inl (cy 1, 64, .inl k_threads)), (k_seen_, .inl (cy 1, 8, .inl k_seen)), (w, .inr (5, [.ref w_way_, .int w_waySize, .int w_tornSteps, .ref w_rings_, .ref w_hanging_, .ref w_costs_])), (w_way_, .inl (cy 1, 8, .inl w_way)), (w_rings_, .inl (cy 1, 9, .inl w_rings)), (w_hanging_, .inl (cy 1, 36, .inl g_4)), (w_costs_, .inl (cy 1, 36, .inl g_40)), (h, .inr (6, [.int h_wide, .int h_high, .int h_law, .int h_spin, .int h_line, .int h_draught, .int h_books, .int h_rare, .ref h_quarrels_, .ref h_nameSizes_, .ref h_names_])), (h_quarrels_, .inl (cy 1, 8, .inl h_quarrels)), (h_nameSizes_, .inl (cy 1, 8, .inl h_nameSizes)), (h_names_, .inl (cy 1, 56, .inl h_names))] H := hP
                have hD : va_D A [(k, .inr (8, [.ref k_x_, .ref k_y_, .ref k_web_, .ref k_asks_, .ref k_threads_, .int k_today, .int k_day, .ref k_seen_])), (k_x_, .inl (cy 1, 8, .inl k_x)), (k_y_, .inl (cy 1, 8, .inl k_y)), (k_web_, .inl (cy 1, 8, .inl k_web)), (k_asks_, .inl (cy 1, 8, .inl k_asks)), (k_threads_, .inl (cy 1, 64, .inl k_threads)), (k_seen_, .inl (cy 1, 8, .inl k_seen)), (w, .inr (5, [.ref w_way_, .int w_waySize, .int w_tornSteps, .ref w_rings_, .ref w_hanging_, .ref w_costs_])), (w_way_, .inl (cy 1, 8, .inl w_way)), (w_rings_, .inl (cy 1, 9, .inl w_rings)), (w_hanging_, .inl (cy 1, 36, .inl g_4)), (w_costs_, .inl (cy 1, 36, .inl g_40)), (h, .inr (6, [.int h_wide, .int h_high, .int h_law, .int h_spin, .int h_line, .int h_draught, .int h_books, .int h_rare, .ref h_quarrels_, .ref h_nameSizes_, .ref h_names_])), (h_quarrels_, .inl (cy 1, 8, .inl h_quarrels)), (h_nameSizes_, .inl (cy 1, 8, .inl h_nameSizes)), (h_names_, .inl (cy 1, 56, .inl h_names))] := hD
                have hp_40 : 0 ≤ r_38.toInt ∧ r_38.toInt ≤ 1 := hw_39
                refine lv_istore (lv' := [(4, .int r_38), (0, .ref w), (1, .ref h), (2, .ref k), (3, .int a), (5, .int x_17)]) hx hb dX5_findTorn_69 hl (by decide) rfl (fun ls hl => ?_)
                obtain ⟨z_42, hz_42⟩ : ∃ z : Int32, z = x_17 + 1 := ⟨_, rfl⟩
                refine lv_iinc (v := z_42) (lv' := [(5, .int z_42), (4, .int r_38), (0, .ref w), (1, .ref h), (2, .ref k), (3, .int a)]) hx hb dX5_findTorn_71 hl (k := 5) rfl hz_42.symm (by decide) rfl (fun ls hl => ?_)
                have hz_42 := o_add hz_42 (rfl : x_17.toInt = x_17.toInt) (by decide : (1 : Int32).toInt = 1) (by omega) (by omega)
                refine lv_goto (tgt := 52) hx hb dX5_findTorn_74 (by decide) ?_
                exact ih_23 r_38 z_42 g_40 H locs ls (by omega) (by omega) (by omega) (q_subP hP [7, 8, 9, 10, 11, 12, 13, 14, 15, 0, 1, 2, 3, 4, 5, 6] rfl) (hD.sub [7, 8, 9, 10, 11, 12, 13, 14, 15, 0, 1, 2, 3, 4, 5, 6] (by decide) rfl) hS (lv_sub hl [2, 3, 4, 5, 1, 0] rfl)
        exact lp_52_18 37 (1 : Int32) (0 : Int32) g_15 H locs ls (by have e0 : (0 : Int32).toInt = 0 := (by decide); have e1 : (1 : Int32).toInt = 1 := (by decide); omega) (by have e0 : (0 : Int32).toInt = 0 := (by decide); have e1 : (1 : Int32).toInt = 1 := (by decide); omega) (by have e0 : (0 : Int32).toInt = 0 := (by decide); have e1 : (1 : Int32).toInt = 1 := (by decide); omega) hP hD hS (lv_sub hl [2, 3, 4, 5, 1, 0] rfl)
      · have hc_12 := o_nle (by decide : (36 : Int32).toInt = 36) (rfl : x_5.toInt = x_5.toInt) c_12
        refine lv_aload_n hx hb dX5_findTorn_16 rfl (lv_at hl 0 rfl) ?_
        refine q_get (v := .ref w_costs_) C hP 0 5 rfl rfl inX5 (by decide) kF_RX5_28 rfl rfl dX5_findTorn_17 ?_
        refine lv_iload hx hb dX5_findTorn_20 (lv_at hl 4 rfl) ?_
        refine q_ldc (v := 1000000000) C kC_RX5_62 dX5_findTorn_22 ?_
        refine q_iast (g := upd g_6 x_5.toNatClampNeg 1000000000) (w' := [(w, .inr (5, [.ref w_way_, .int w_waySize, .int w_tornSteps, .ref w_rings_, .ref w_hanging_, .ref w_costs_])), (w_way_, .inl (cy 1, 8, .inl w_way)), (w_rings_, .inl (cy 1, 9, .inl w_rings)), (w_hanging_, .inl (cy 1, 36, .inl g_4)), (w_costs_, .inl (cy 1, 36, .inl (upd g_6 x_5.toNatClampNeg 1000000000))), (h, .inr (6, [.int h_wide, .int h_high, .int h_law, .int h_spin, .int h_line, .int h_draught, .int h_books, .int h_rare, .ref h_quarrels_, .ref h_nameSizes_, .ref h_names_])), (h_quarrels_, .inl (cy 1, 8, .inl h_quarrels)), (h_nameSizes_, .inl (cy 1, 8, .inl h_nameSizes)), (h_names_, .inl (cy 1, 56, .inl h_names)), (k, .inr (8, [.ref k_x_, .ref k_y_, .ref k_web_, .ref k_asks_, .ref k_threads_, .int k_today, .int k_day, .ref k_seen_])), (k_x_, .inl (cy 1, 8, .inl k_x)), (k_y_, .inl (cy 1, 8, .inl k_y)), (k_web_, .inl (cy 1, 8, .inl k_web)), (k_asks_, .inl (cy 1, 8, .inl k_asks)), (k_threads_, .inl (cy 1, 64, .inl k_threads)), (k_seen_, .inl (cy 1, 8, .inl k_seen))]) C hP hD hS 4 rfl (o_in (rfl : x_5.toInt = x_5.toInt) (by omega) (by omega)) rfl rfl dX5_findTorn_24 (fun H locs hP hD hS => ?_)
        generalize upd g_6 x_5.toNatClampNeg 1000000000 = g_43 at hP hD 
        have hP : va_P D vwCl [(w, .inr (5, [.ref w_way_, .int w_waySize, .int w_tornSteps, .ref w_rings_, .ref w_hanging_, .ref w_costs_])), (w_way_, .inl (cy 1, 8, .inl w_way)), (w_rings_, .inl (cy 1, 9, .inl w_rings)), (w_hanging_, .inl (cy 1, 36, .inl g_4)), (w_costs_, .inl (cy 1, 36, .inl g_43)), (h, .inr (6, [.int h_wide, .int h_high, .int h_law, .int h_spin, .int h_line, .int h_draught, .int h_books, .int h_rare, .ref h_quarrels_, .ref h_nameSizes_, .ref h_names_])), (h_quarrels_, .inl (cy 1, 8, .inl h_quarrels)), (h_nameSizes_, .inl (cy 1, 8, .inl h_nameSizes)), (h_names_, .inl (cy 1, 56, .inl h_names)), (k, .inr (8, [.ref k_x_, .ref k_y_, .ref k_web_, .ref k_asks_, .ref k_threads_, .int k_today, .int k_day, .ref k_seen_])), (k_x_, .inl (cy 1, 8, .inl k_x)), (k_y_, .inl (cy 1, 8, .inl k_y)), (k_web_, .inl (cy 1, 8, .inl k_web)), (k_asks_, .inl (cy 1, 8, .inl k_asks)), (k_threads_, .inl (cy 1, 64, .inl k_threads)), (k_seen_, .inl (cy 1, 8, .inl k_seen))] H := hP
        have hD : va_D A [(w, .inr (5, [.ref w_way_, .int w_waySize, .int w_tornSteps, .ref w_rings_, .ref w_hanging_, .ref w_costs_])), (w_way_, .inl (cy 1, 8, .inl w_way)), (w_rings_, .inl (cy 1, 9, .inl w_rings)), (w_hanging_, .inl (cy 1, 36, .inl g_4)), (w_costs_, .inl (cy 1, 36, .inl g_43)), (h, .inr (6, [.int h_wide, .int h_high, .int h_law, .int h_spin, .int h_line, .int h_draught, .int h_books, .int h_rare, .ref h_quarrels_, .ref h_nameSizes_, .ref h_names_])), (h_quarrels_, .inl (cy 1, 8, .inl h_quarrels)), (h_nameSizes_, .inl (cy 1, 8, .inl h_nameSizes)), (h_names_, .inl (cy 1, 56, .inl h_names)), (k, .inr (8, [.ref k_x_, .ref k_y_, .ref k_web_, .ref k_asks_, .ref k_threads_, .int k_today, .int k_day, .ref k_seen_])), (k_x_, .inl (cy 1, 8, .inl k_x)), (k_y_, .inl (cy 1, 8, .inl k_y)), (k_web_, .inl (cy 1, 8, .inl k_web)), (k_asks_, .inl (cy 1, 8, .inl k_asks)), (k_threads_, .inl (cy 1, 64, .inl k_threads)), (k_seen_, .inl (cy 1, 8, .inl k_seen))] := hD
        obtain ⟨z_44, hz_44⟩ : ∃ z : Int32, z = x_5 + 1 := ⟨_, rfl⟩
        refine lv_iinc (v := z_44) (lv' := [(4, .int z_44), (0, .ref w), (1, .ref h), (2, .ref k), (3, .int a)]) hx hb dX5_findTorn_25 hl (k := 4) rfl hz_44.symm (by decide) rfl (fun ls hl => ?_)
        have hz_44 := o_add hz_44 (rfl : x_5.toInt = x_5.toInt) (by decide : (1 : Int32).toInt = 1) (by omega) (by omega)
        refine lv_goto (tgt := 9) hx hb dX5_findTorn_28 (by decide) ?_
        exact ih_10 z_44 g_43 H locs ls (by omega) (by omega) hP hD hS (lv_sub hl [1, 2, 3, 4, 0] rfl)
  exact lp_9_6 37 (0 : Int32) w_costs H locs ls (by have e0 : (0 : Int32).toInt = 0 := (by decide); omega) (by have e0 : (0 : Int32).toInt = 0 := (by decide); omega) hP hD hS (lv_sub hl [1, 2, 3, 4, 0] rfl)
theorem o_findTorn (l : Launch) (D : va_G) (cy : Nat → ClassId) (w : Nat) (h : Nat) (k : Nat) (a : Int32) (w_way_ : Nat) (w_waySize : Int32) (w_tornSteps : Int32) (w_rings_ : Nat) (w_hanging_ : Nat) (w_costs_ : Nat) (w_way : Nat → Int32) (w_rings : Nat → Int32) (w_hanging : Nat → Int32) (w_costs : Nat → Int32) (h_wide : Int32) (h_high : Int32) (h_law : Int32) (h_spin : Int32) (h_line : Int32) (h_draught : Int32) (h_books : Int32) (h_rare : Int32) (h_quarrels_ : Nat) (h_nameSizes_ : Nat) (h_names_ : Nat) (h_quarrels : Nat → Int32) (h_nameSizes : Nat → Int32) (h_names : Nat → Int32) (k_x_ : Nat) (k_y_ : Nat) (k_web_ : Nat) (k_asks_ : Nat) (k_threads_ : Nat) (k_today : Int32) (k_day : Int32) (k_seen_ : Nat) (k_x : Nat → Int32) (k_y : Nat → Int32) (k_web : Nat → Int32) (k_asks : Nat → Int32) (k_threads : Nat → Int32) (k_seen : Nat → Int32) (sz : Nat) (hb0 : w_waySize.toInt ≤ 8) (hb1 : 0 ≤ h_wide.toInt ∧ h_wide.toInt ≤ 6) (hb2 : 0 ≤ h_high.toInt ∧ h_high.toInt ≤ 6) (hb3 : 0 ≤ h_books.toInt ∧ h_books.toInt ≤ 8) (hb4 : 0 ≤ a.toInt ∧ a.toInt ≤ 7) (hR0 : Rg w_way 0 8 0 7) (hR1 : Rg h_nameSizes 0 8 (-900) 7) (hR2 : Rg k_x 0 8 0 5) (hR3 : Rg k_y 0 8 0 5) : MI l yX5_findTorn cX5_findTorn 6 (some .int) (Rm 4 93 0 0) D cy [.ref w, .ref h, .ref k, .int a] sz [(w, .inr (5, [.ref w_way_, .int w_waySize, .int w_tornSteps, .ref w_rings_, .ref w_hanging_, .ref w_costs_])), (w_way_, .inl (cy 1, 8, .inl w_way)), (w_rings_, .inl (cy 1, 9, .inl w_rings)), (w_hanging_, .inl (cy 1, 36, .inl w_hanging)), (w_costs_, .inl (cy 1, 36, .inl w_costs)), (h, .inr (6, [.int h_wide, .int h_high, .int h_law, .int h_spin, .int h_line, .int h_draught, .int h_books, .int h_rare, .ref h_quarrels_, .ref h_nameSizes_, .ref h_names_])), (h_quarrels_, .inl (cy 1, 8, .inl h_quarrels)), (h_nameSizes_, .inl (cy 1, 8, .inl h_nameSizes)), (h_names_, .inl (cy 1, 56, .inl h_names)), (k, .inr (8, [.ref k_x_, .ref k_y_, .ref k_web_, .ref k_asks_, .ref k_threads_, .int k_today, .int k_day, .ref k_seen_])), (k_x_, .inl (cy 1, 8, .inl k_x)), (k_y_, .inl (cy 1, 8, .inl k_y)), (k_web_, .inl (cy 1, 8, .inl k_web)), (k_asks_, .inl (cy 1, 8, .inl k_asks)), (k_threads_, .inl (cy 1, 64, .inl k_threads)), (k_seen_, .inl (cy 1, 8, .inl k_seen))] (fun (r : Int32) (u : Int32 × (Nat → Int32) × (Nat → Int32)) => True) (fun u : Int32 × (Nat → Int32) × (Nat → Int32) => [(w, .inr (5, [.ref w_way_, .int w_waySize, .int u.1, .ref w_rings_, .ref w_hanging_, .ref w_costs_])), (w_way_, .inl (cy 1, 8, .inl w_way)), (w_rings_, .inl (cy 1, 9, .inl w_rings)), (w_hanging_, .inl (cy 1, 36, .inl u.2.1)), (w_costs_, .inl (cy 1, 36, .inl u.2.2)), (h, .inr (6, [.int h_wide, .int h_high, .int h_law, .int h_spin, .int h_line, .int h_draught, .int h_books, .int h_rare, .ref h_quarrels_, .ref h_nameSizes_, .ref h_names_])), (h_quarrels_, .inl (cy 1, 8, .inl h_quarrels)), (h_nameSizes_, .inl (cy 1, 8, .inl h_nameSizes)), (h_names_, .inl (cy 1, 56, .inl h_names)), (k, .inr (8, [.ref k_x_, .ref k_y_, .ref k_web_, .ref k_asks_, .ref k_threads_, .int k_today, .int k_day, .ref k_seen_])), (k_x_, .inl (cy 1, 8, .inl k_x)), (k_y_, .inl (cy 1, 8, .inl k_y)), (k_web_, .inl (cy 1, 8, .inl k_web)), (k_asks_, .inl (cy 1, 8, .inl k_asks)), (k_threads_, .inl (cy 1, 64, .inl k_threads)), (k_seen_, .inl (cy 1, 8, .inl k_seen))]) := by
  refine MI.enter (by decide) (Nat.le_of_ble_eq_true rfl) ?_
  intro p e s m below meth c ls A hsz hAe C hP hD hS hl
  exact b_o_findTorn l D cy w h k a w_way_ w_waySize w_tornSteps w_rings_ w_hanging_ w_costs_ w_way w_rings w_hanging w_costs h_wide h_high h_law h_spin h_line h_draught h_books h_rare h_quarrels_ h_nameSizes_ h_names_ h_quarrels h_nameSizes h_names k_x_ k_y_ k_web_ k_asks_ k_threads_ k_today k_day k_seen_ k_x k_y k_web k_asks k_threads k_seen hb0 hb1 hb2 hb3 hb4 hR0 hR1 hR2 hR3 ⟨Nat.le_of_ble_eq_true rfl, Nat.le_of_ble_eq_true rfl⟩ C rfl _ _ ls hP hD hS hl
