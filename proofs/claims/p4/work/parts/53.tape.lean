theorem dX9_addNumber_0 : decode cX9_addNumber 0 = .ok (.bipush 24, 2) := by decide +kernel
theorem dX9_addNumber_2 : decode cX9_addNumber 2 = .ok (.istore_n 2, 1) := by decide +kernel
theorem dX9_addNumber_3 : decode cX9_addNumber 3 = .ok (.iload_n 2, 1) := by decide +kernel
theorem dX9_addNumber_4 : decode cX9_addNumber 4 = .ok (.ifCond .lt 47, 3) := by decide +kernel
theorem dX9_addNumber_51 : decode cX9_addNumber 51 = .ok (.return_, 1) := by decide +kernel
theorem dX9_addNumber_7 : decode cX9_addNumber 7 = .ok (.aload_n 0, 1) := by decide +kernel
theorem dX9_addNumber_8 : decode cX9_addNumber 8 = .ok (.getfield 15, 3) := by decide +kernel
theorem kF_RX9_15 : Cond.fieldLink RX9 15 "CobwebLibrary$Tape" "length" "I" ∈ gT := List.mem_filter.mpr ⟨List.mem_of_getElem? (i := 168) (by decide +kernel), by decide +kernel⟩
theorem dX9_addNumber_11 : decode cX9_addNumber 11 = .ok (.aload_n 0, 1) := by decide +kernel
theorem dX9_addNumber_12 : decode cX9_addNumber 12 = .ok (.getfield 9, 3) := by decide +kernel
theorem kF_RX9_9 : Cond.fieldLink RX9 9 "CobwebLibrary$Tape" "bytes" "[I" ∈ gT := List.mem_filter.mpr ⟨List.mem_of_getElem? (i := 165) (by decide +kernel), by decide +kernel⟩
theorem dX9_addNumber_15 : decode cX9_addNumber 15 = .ok (.arraylength, 1) := by decide +kernel
theorem dX9_addNumber_16 : decode cX9_addNumber 16 = .ok (.if_icmp .ge 29, 3) := by decide +kernel
theorem dX9_addNumber_45 : decode cX9_addNumber 45 = .ok (.iinc 2 (-8), 3) := by decide +kernel
theorem dX9_addNumber_48 : decode cX9_addNumber 48 = .ok (.goto (-45), 3) := by decide +kernel
theorem dX9_addNumber_19 : decode cX9_addNumber 19 = .ok (.aload_n 0, 1) := by decide +kernel
theorem dX9_addNumber_20 : decode cX9_addNumber 20 = .ok (.getfield 9, 3) := by decide +kernel
theorem dX9_addNumber_23 : decode cX9_addNumber 23 = .ok (.aload_n 0, 1) := by decide +kernel
theorem dX9_addNumber_24 : decode cX9_addNumber 24 = .ok (.getfield 15, 3) := by decide +kernel
theorem dX9_addNumber_27 : decode cX9_addNumber 27 = .ok (.iload_n 1, 1) := by decide +kernel
theorem dX9_addNumber_28 : decode cX9_addNumber 28 = .ok (.iload_n 2, 1) := by decide +kernel
theorem dX9_addNumber_29 : decode cX9_addNumber 29 = .ok (.iushr, 1) := by decide +kernel
theorem dX9_addNumber_30 : decode cX9_addNumber 30 = .ok (.sipush 255, 3) := by decide +kernel
theorem dX9_addNumber_33 : decode cX9_addNumber 33 = .ok (.iand, 1) := by decide +kernel
theorem dX9_addNumber_34 : decode cX9_addNumber 34 = .ok (.iastore, 1) := by decide +kernel
theorem dX9_addNumber_35 : decode cX9_addNumber 35 = .ok (.aload_n 0, 1) := by decide +kernel
theorem dX9_addNumber_36 : decode cX9_addNumber 36 = .ok (.dup, 1) := by decide +kernel
theorem dX9_addNumber_37 : decode cX9_addNumber 37 = .ok (.getfield 15, 3) := by decide +kernel
theorem dX9_addNumber_40 : decode cX9_addNumber 40 = .ok (.iconst 1, 1) := by decide +kernel
theorem dX9_addNumber_41 : decode cX9_addNumber 41 = .ok (.iadd, 1) := by decide +kernel
theorem dX9_addNumber_42 : decode cX9_addNumber 42 = .ok (.putfield 15, 3) := by decide +kernel
theorem dX9_wordNumber_0 : decode cX9_wordNumber 0 = .ok (.iconst 0, 1) := by decide +kernel
theorem dX9_wordNumber_1 : decode cX9_wordNumber 1 = .ok (.istore_n 1, 1) := by decide +kernel
theorem dX9_wordNumber_2 : decode cX9_wordNumber 2 = .ok (.iload_n 1, 1) := by decide +kernel
theorem dX9_wordNumber_3 : decode cX9_wordNumber 3 = .ok (.bipush 8, 2) := by decide +kernel
theorem dX9_wordNumber_5 : decode cX9_wordNumber 5 = .ok (.iadd, 1) := by decide +kernel
theorem dX9_wordNumber_6 : decode cX9_wordNumber 6 = .ok (.ldc 75, 2) := by decide +kernel
theorem kS_0 : (RX9, 75, "shelves book    rare    web     thread  quarrel law     spin    line    draught ask     broom   move    day     or      and     not     doubt   lawful  dogma   asked   follows dust    bonds   number  ", 100) ∈ strQ := List.mem_of_getElem? (i := 0) rfl
theorem dX9_wordNumber_8 : decode cX9_wordNumber 8 = .ok (.invokevirtual 77, 3) := by decide +kernel
theorem kwV_J0_length_8abf5 : MwV RJ0 yJ0_length_8abf5 cJ0_length_8abf5 1 (some .int) 0 := ⟨List.mem_filter.mpr ⟨List.mem_of_getElem? (i := 683) (by decide +kernel), by decide +kernel⟩, List.mem_filter.mpr ⟨List.mem_of_getElem? (i := 681) (by decide +kernel), by decide +kernel⟩, List.mem_filter.mpr ⟨List.mem_of_getElem? (i := 682) (by decide +kernel), by decide +kernel⟩, List.mem_filter.mpr ⟨List.mem_of_getElem? (i := 141) (by decide +kernel), by decide +kernel⟩, by decide +kernel⟩
theorem kM_RX9_77 : Cond.methodLink RX9 77 yJ0_length_8abf5 ∈ gT := List.mem_filter.mpr ⟨List.mem_of_getElem? (i := 680) (by decide +kernel), by decide +kernel⟩
theorem dX9_wordNumber_11 : decode cX9_wordNumber 11 = .ok (.if_icmp .gt 75, 3) := by decide +kernel
theorem dX9_wordNumber_86 : decode cX9_wordNumber 86 = .ok (.iconst 0, 1) := by decide +kernel
theorem dX9_wordNumber_87 : decode cX9_wordNumber 87 = .ok (.ireturn, 1) := by decide +kernel
theorem dX9_wordNumber_14 : decode cX9_wordNumber 14 = .ok (.iconst 0, 1) := by decide +kernel
theorem dX9_wordNumber_15 : decode cX9_wordNumber 15 = .ok (.istore_n 2, 1) := by decide +kernel
theorem dX9_wordNumber_16 : decode cX9_wordNumber 16 = .ok (.iload_n 2, 1) := by decide +kernel
theorem dX9_wordNumber_17 : decode cX9_wordNumber 17 = .ok (.aload_n 0, 1) := by decide +kernel
theorem dX9_wordNumber_18 : decode cX9_wordNumber 18 = .ok (.getfield 25, 3) := by decide +kernel
theorem kF_RX9_25 : Cond.fieldLink RX9 25 "CobwebLibrary$Tape" "size" "I" ∈ gT := List.mem_filter.mpr ⟨List.mem_of_getElem? (i := 177) (by decide +kernel), by decide +kernel⟩
theorem dX9_wordNumber_52 : decode cX9_wordNumber 52 = .ok (.iload_n 2, 1) := by decide +kernel
theorem dX9_wordNumber_53 : decode cX9_wordNumber 53 = .ok (.aload_n 0, 1) := by decide +kernel
theorem dX9_wordNumber_54 : decode cX9_wordNumber 54 = .ok (.getfield 25, 3) := by decide +kernel
theorem dX9_wordNumber_57 : decode cX9_wordNumber 57 = .ok (.if_icmp .ne 23, 3) := by decide +kernel
theorem dX9_wordNumber_80 : decode cX9_wordNumber 80 = .ok (.iinc 1 8, 3) := by decide +kernel
theorem dX9_wordNumber_83 : decode cX9_wordNumber 83 = .ok (.goto (-81), 3) := by decide +kernel
theorem dX9_wordNumber_60 : decode cX9_wordNumber 60 = .ok (.ldc 75, 2) := by decide +kernel
theorem dX9_wordNumber_62 : decode cX9_wordNumber 62 = .ok (.iload_n 1, 1) := by decide +kernel
theorem dX9_wordNumber_63 : decode cX9_wordNumber 63 = .ok (.iload_n 2, 1) := by decide +kernel
theorem dX9_wordNumber_64 : decode cX9_wordNumber 64 = .ok (.iadd, 1) := by decide +kernel
theorem dX9_wordNumber_65 : decode cX9_wordNumber 65 = .ok (.invokevirtual 81, 3) := by decide +kernel
theorem kwV_J0_charAt_5068e : MwV RJ0 yJ0_charAt_5068e cJ0_charAt_5068e 2 (some .char) 1 := ⟨List.mem_filter.mpr ⟨List.mem_of_getElem? (i := 693) (by decide +kernel), by decide +kernel⟩, List.mem_filter.mpr ⟨List.mem_of_getElem? (i := 691) (by decide +kernel), by decide +kernel⟩, List.mem_filter.mpr ⟨List.mem_of_getElem? (i := 692) (by decide +kernel), by decide +kernel⟩, List.mem_filter.mpr ⟨List.mem_of_getElem? (i := 141) (by decide +kernel), by decide +kernel⟩, by decide +kernel⟩
theorem kM_RX9_81 : Cond.methodLink RX9 81 yJ0_charAt_5068e ∈ gT := List.mem_filter.mpr ⟨List.mem_of_getElem? (i := 690) (by decide +kernel), by decide +kernel⟩
theorem dX9_wordNumber_68 : decode cX9_wordNumber 68 = .ok (.bipush 32, 2) := by decide +kernel
theorem dX9_wordNumber_70 : decode cX9_wordNumber 70 = .ok (.if_icmp .ne 10, 3) := by decide +kernel
theorem dX9_wordNumber_73 : decode cX9_wordNumber 73 = .ok (.iload_n 1, 1) := by decide +kernel
theorem dX9_wordNumber_74 : decode cX9_wordNumber 74 = .ok (.bipush 8, 2) := by decide +kernel
theorem dX9_wordNumber_76 : decode cX9_wordNumber 76 = .ok (.idiv, 1) := by decide +kernel
theorem dX9_wordNumber_77 : decode cX9_wordNumber 77 = .ok (.iconst 1, 1) := by decide +kernel
theorem dX9_wordNumber_78 : decode cX9_wordNumber 78 = .ok (.iadd, 1) := by decide +kernel
theorem dX9_wordNumber_79 : decode cX9_wordNumber 79 = .ok (.ireturn, 1) := by decide +kernel
theorem dX9_wordNumber_21 : decode cX9_wordNumber 21 = .ok (.if_icmp .ge 31, 3) := by decide +kernel
theorem dX9_wordNumber_24 : decode cX9_wordNumber 24 = .ok (.ldc 75, 2) := by decide +kernel
theorem dX9_wordNumber_26 : decode cX9_wordNumber 26 = .ok (.iload_n 1, 1) := by decide +kernel
theorem dX9_wordNumber_27 : decode cX9_wordNumber 27 = .ok (.iload_n 2, 1) := by decide +kernel
theorem dX9_wordNumber_28 : decode cX9_wordNumber 28 = .ok (.iadd, 1) := by decide +kernel
theorem dX9_wordNumber_29 : decode cX9_wordNumber 29 = .ok (.invokevirtual 81, 3) := by decide +kernel
theorem dX9_wordNumber_32 : decode cX9_wordNumber 32 = .ok (.aload_n 0, 1) := by decide +kernel
theorem dX9_wordNumber_33 : decode cX9_wordNumber 33 = .ok (.getfield 9, 3) := by decide +kernel
theorem dX9_wordNumber_36 : decode cX9_wordNumber 36 = .ok (.aload_n 0, 1) := by decide +kernel
theorem dX9_wordNumber_37 : decode cX9_wordNumber 37 = .ok (.getfield 22, 3) := by decide +kernel
theorem dX9_wordNumber_40 : decode cX9_wordNumber 40 = .ok (.iload_n 2, 1) := by decide +kernel
theorem dX9_wordNumber_41 : decode cX9_wordNumber 41 = .ok (.iadd, 1) := by decide +kernel
theorem dX9_wordNumber_42 : decode cX9_wordNumber 42 = .ok (.iaload, 1) := by decide +kernel
theorem dX9_wordNumber_43 : decode cX9_wordNumber 43 = .ok (.if_icmp .ne 9, 3) := by decide +kernel
theorem dX9_wordNumber_46 : decode cX9_wordNumber 46 = .ok (.iinc 2 1, 3) := by decide +kernel
theorem dX9_wordNumber_49 : decode cX9_wordNumber 49 = .ok (.goto (-33), 3) := by decide +kernel
theorem dX9_readRun_0 : decode cX9_readRun 0 = .ok (.iconst 0, 1) := by decide +kernel
theorem dX9_readRun_1 : decode cX9_readRun 1 = .ok (.istore_n 1, 1) := by decide +kernel
theorem dX9_readRun_2 : decode cX9_readRun 2 = .ok (.aload_n 0, 1) := by decide +kernel
theorem dX9_readRun_3 : decode cX9_readRun 3 = .ok (.getfield 43, 3) := by decide +kernel
theorem kF_RX9_43 : Cond.fieldLink RX9 43 "CobwebLibrary$Tape" "next" "I" ∈ gT := List.mem_filter.mpr ⟨List.mem_of_getElem? (i := 192) (by decide +kernel), by decide +kernel⟩
theorem dX9_readRun_6 : decode cX9_readRun 6 = .ok (.aload_n 0, 1) := by decide +kernel
theorem dX9_readRun_7 : decode cX9_readRun 7 = .ok (.getfield 15, 3) := by decide +kernel
theorem dX9_readRun_101 : decode cX9_readRun 101 = .ok (.aload_n 0, 1) := by decide +kernel
theorem dX9_readRun_102 : decode cX9_readRun 102 = .ok (.aload_n 0, 1) := by decide +kernel
theorem dX9_readRun_103 : decode cX9_readRun 103 = .ok (.getfield 43, 3) := by decide +kernel
theorem dX9_readRun_106 : decode cX9_readRun 106 = .ok (.aload_n 0, 1) := by decide +kernel
theorem dX9_readRun_107 : decode cX9_readRun 107 = .ok (.getfield 22, 3) := by decide +kernel
theorem dX9_readRun_110 : decode cX9_readRun 110 = .ok (.isub, 1) := by decide +kernel
theorem dX9_readRun_111 : decode cX9_readRun 111 = .ok (.putfield 25, 3) := by decide +kernel
theorem dX9_readRun_114 : decode cX9_readRun 114 = .ok (.aload_n 0, 1) := by decide +kernel
theorem dX9_readRun_115 : decode cX9_readRun 115 = .ok (.iconst (-1), 1) := by decide +kernel
theorem dX9_readRun_116 : decode cX9_readRun 116 = .ok (.putfield 19, 3) := by decide +kernel
theorem dX9_readRun_119 : decode cX9_readRun 119 = .ok (.iload_n 1, 1) := by decide +kernel
theorem dX9_readRun_139 : decode cX9_readRun 139 = .ok (.iload_n 1, 1) := by decide +kernel
theorem dX9_readRun_140 : decode cX9_readRun 140 = .ok (.aload_n 0, 1) := by decide +kernel
theorem dX9_readRun_141 : decode cX9_readRun 141 = .ok (.getfield 25, 3) := by decide +kernel
theorem dX9_readRun_144 : decode cX9_readRun 144 = .ok (.if_icmp .ne 25, 3) := by decide +kernel
theorem dX9_readRun_169 : decode cX9_readRun 169 = .ok (.return_, 1) := by decide +kernel
theorem dX9_readRun_147 : decode cX9_readRun 147 = .ok (.aload_n 0, 1) := by decide +kernel
theorem dX9_readRun_148 : decode cX9_readRun 148 = .ok (.getfield 25, 3) := by decide +kernel
theorem dX9_readRun_151 : decode cX9_readRun 151 = .ok (.bipush 7, 2) := by decide +kernel
theorem dX9_readRun_153 : decode cX9_readRun 153 = .ok (.if_icmp .gt 16, 3) := by decide +kernel
theorem dX9_readRun_156 : decode cX9_readRun 156 = .ok (.aload_n 0, 1) := by decide +kernel
theorem dX9_readRun_157 : decode cX9_readRun 157 = .ok (.iconst 1, 1) := by decide +kernel
theorem dX9_readRun_158 : decode cX9_readRun 158 = .ok (.putfield 19, 3) := by decide +kernel
theorem dX9_readRun_161 : decode cX9_readRun 161 = .ok (.aload_n 0, 1) := by decide +kernel
theorem dX9_readRun_162 : decode cX9_readRun 162 = .ok (.aload_n 0, 1) := by decide +kernel
theorem dX9_readRun_163 : decode cX9_readRun 163 = .ok (.invokevirtual 71, 3) := by decide +kernel
theorem kwV_X9_wordNumber : MwV RX9 yX9_wordNumber cX9_wordNumber 3 (some .int) 0 := ⟨List.mem_filter.mpr ⟨List.mem_of_getElem? (i := 678) (by decide +kernel), by decide +kernel⟩, List.mem_filter.mpr ⟨List.mem_of_getElem? (i := 677) (by decide +kernel), by decide +kernel⟩, List.mem_filter.mpr ⟨List.mem_of_getElem? (i := 1) (by decide +kernel), by decide +kernel⟩, List.mem_filter.mpr ⟨List.mem_of_getElem? (i := 129) (by decide +kernel), by decide +kernel⟩, by decide +kernel⟩
theorem kM_RX9_71 : Cond.methodLink RX9 71 yX9_wordNumber ∈ gT := List.mem_filter.mpr ⟨List.mem_of_getElem? (i := 675) (by decide +kernel), by decide +kernel⟩
theorem dX9_readRun_166 : decode cX9_readRun 166 = .ok (.putfield 31, 3) := by decide +kernel
theorem dX9_readRun_120 : decode cX9_readRun 120 = .ok (.ifCond .ne 19, 3) := by decide +kernel
theorem dX9_readRun_123 : decode cX9_readRun 123 = .ok (.aload_n 0, 1) := by decide +kernel
theorem dX9_readRun_124 : decode cX9_readRun 124 = .ok (.getfield 25, 3) := by decide +kernel
theorem dX9_readRun_127 : decode cX9_readRun 127 = .ok (.iconst 3, 1) := by decide +kernel
theorem dX9_readRun_128 : decode cX9_readRun 128 = .ok (.if_icmp .gt 11, 3) := by decide +kernel
theorem dX9_readRun_131 : decode cX9_readRun 131 = .ok (.aload_n 0, 1) := by decide +kernel
theorem dX9_readRun_132 : decode cX9_readRun 132 = .ok (.iconst 2, 1) := by decide +kernel
theorem dX9_readRun_133 : decode cX9_readRun 133 = .ok (.putfield 19, 3) := by decide +kernel
theorem dX9_readRun_136 : decode cX9_readRun 136 = .ok (.goto 33, 3) := by decide +kernel
theorem dX9_readRun_10 : decode cX9_readRun 10 = .ok (.if_icmp .ge 91, 3) := by decide +kernel
theorem dX9_readRun_13 : decode cX9_readRun 13 = .ok (.aload_n 0, 1) := by decide +kernel
theorem dX9_readRun_14 : decode cX9_readRun 14 = .ok (.getfield 9, 3) := by decide +kernel
theorem dX9_readRun_17 : decode cX9_readRun 17 = .ok (.aload_n 0, 1) := by decide +kernel
theorem dX9_readRun_18 : decode cX9_readRun 18 = .ok (.getfield 43, 3) := by decide +kernel
theorem dX9_readRun_21 : decode cX9_readRun 21 = .ok (.iaload, 1) := by decide +kernel
theorem dX9_readRun_22 : decode cX9_readRun 22 = .ok (.invokestatic 59, 3) := by decide +kernel
theorem kwS_X9_isLetter : MwS yX9_isLetter cX9_isLetter 1 (some .boolean) 1 := ⟨List.mem_filter.mpr ⟨List.mem_of_getElem? (i := 667) (by decide +kernel), by decide +kernel⟩, List.mem_filter.mpr ⟨List.mem_of_getElem? (i := 666) (by decide +kernel), by decide +kernel⟩, List.mem_filter.mpr ⟨List.mem_of_getElem? (i := 129) (by decide +kernel), by decide +kernel⟩, by decide +kernel⟩
theorem kM_RX9_59 : Cond.methodLink RX9 59 yX9_isLetter ∈ gT := List.mem_filter.mpr ⟨List.mem_of_getElem? (i := 665) (by decide +kernel), by decide +kernel⟩
theorem dX9_readRun_43 : decode cX9_readRun 43 = .ok (.aload_n 0, 1) := by decide +kernel
theorem dX9_readRun_44 : decode cX9_readRun 44 = .ok (.getfield 9, 3) := by decide +kernel
theorem dX9_readRun_47 : decode cX9_readRun 47 = .ok (.aload_n 0, 1) := by decide +kernel
theorem dX9_readRun_48 : decode cX9_readRun 48 = .ok (.getfield 43, 3) := by decide +kernel
theorem dX9_readRun_51 : decode cX9_readRun 51 = .ok (.iaload, 1) := by decide +kernel
theorem dX9_readRun_52 : decode cX9_readRun 52 = .ok (.invokestatic 59, 3) := by decide +kernel
theorem dX9_readRun_55 : decode cX9_readRun 55 = .ok (.ifCond .eq 9, 3) := by decide +kernel
theorem dX9_readRun_64 : decode cX9_readRun 64 = .ok (.aload_n 0, 1) := by decide +kernel
theorem dX9_readRun_65 : decode cX9_readRun 65 = .ok (.aload_n 0, 1) := by decide +kernel
theorem dX9_readRun_66 : decode cX9_readRun 66 = .ok (.getfield 28, 3) := by decide +kernel
theorem kF_RX9_28 : Cond.fieldLink RX9 28 "CobwebLibrary$Tape" "value" "I" ∈ gT := List.mem_filter.mpr ⟨List.mem_of_getElem? (i := 179) (by decide +kernel), by decide +kernel⟩
theorem dX9_readRun_69 : decode cX9_readRun 69 = .ok (.bipush 10, 2) := by decide +kernel
theorem dX9_readRun_71 : decode cX9_readRun 71 = .ok (.imul, 1) := by decide +kernel
theorem dX9_readRun_72 : decode cX9_readRun 72 = .ok (.aload_n 0, 1) := by decide +kernel
theorem dX9_readRun_73 : decode cX9_readRun 73 = .ok (.getfield 9, 3) := by decide +kernel
theorem dX9_readRun_76 : decode cX9_readRun 76 = .ok (.aload_n 0, 1) := by decide +kernel
theorem dX9_readRun_77 : decode cX9_readRun 77 = .ok (.getfield 43, 3) := by decide +kernel
theorem dX9_readRun_80 : decode cX9_readRun 80 = .ok (.iaload, 1) := by decide +kernel
theorem dX9_readRun_81 : decode cX9_readRun 81 = .ok (.iadd, 1) := by decide +kernel
theorem dX9_readRun_82 : decode cX9_readRun 82 = .ok (.bipush 48, 2) := by decide +kernel
theorem dX9_readRun_84 : decode cX9_readRun 84 = .ok (.isub, 1) := by decide +kernel
theorem dX9_readRun_85 : decode cX9_readRun 85 = .ok (.putfield 28, 3) := by decide +kernel
theorem dX9_readRun_88 : decode cX9_readRun 88 = .ok (.aload_n 0, 1) := by decide +kernel
theorem dX9_readRun_89 : decode cX9_readRun 89 = .ok (.dup, 1) := by decide +kernel
theorem dX9_readRun_90 : decode cX9_readRun 90 = .ok (.getfield 43, 3) := by decide +kernel
theorem dX9_readRun_93 : decode cX9_readRun 93 = .ok (.iconst 1, 1) := by decide +kernel
theorem dX9_readRun_94 : decode cX9_readRun 94 = .ok (.iadd, 1) := by decide +kernel
theorem dX9_readRun_95 : decode cX9_readRun 95 = .ok (.putfield 43, 3) := by decide +kernel
theorem dX9_readRun_98 : decode cX9_readRun 98 = .ok (.goto (-96), 3) := by decide +kernel
theorem dX9_readRun_58 : decode cX9_readRun 58 = .ok (.iinc 1 1, 3) := by decide +kernel
theorem dX9_readRun_61 : decode cX9_readRun 61 = .ok (.goto 27, 3) := by decide +kernel
theorem dX9_readRun_25 : decode cX9_readRun 25 = .ok (.ifCond .ne 18, 3) := by decide +kernel
theorem dX9_readRun_28 : decode cX9_readRun 28 = .ok (.aload_n 0, 1) := by decide +kernel
theorem dX9_readRun_29 : decode cX9_readRun 29 = .ok (.getfield 9, 3) := by decide +kernel
theorem dX9_readRun_32 : decode cX9_readRun 32 = .ok (.aload_n 0, 1) := by decide +kernel
theorem dX9_readRun_33 : decode cX9_readRun 33 = .ok (.getfield 43, 3) := by decide +kernel
theorem dX9_readRun_36 : decode cX9_readRun 36 = .ok (.iaload, 1) := by decide +kernel
theorem dX9_readRun_37 : decode cX9_readRun 37 = .ok (.invokestatic 62, 3) := by decide +kernel
theorem kwS_X9_isDigit : MwS yX9_isDigit cX9_isDigit 1 (some .boolean) 1 := ⟨List.mem_filter.mpr ⟨List.mem_of_getElem? (i := 670) (by decide +kernel), by decide +kernel⟩, List.mem_filter.mpr ⟨List.mem_of_getElem? (i := 669) (by decide +kernel), by decide +kernel⟩, List.mem_filter.mpr ⟨List.mem_of_getElem? (i := 129) (by decide +kernel), by decide +kernel⟩, by decide +kernel⟩
theorem kM_RX9_62 : Cond.methodLink RX9 62 yX9_isDigit ∈ gT := List.mem_filter.mpr ⟨List.mem_of_getElem? (i := 668) (by decide +kernel), by decide +kernel⟩
theorem dX9_readRun_40 : decode cX9_readRun 40 = .ok (.ifCond .eq 61, 3) := by decide +kernel
theorem dX9_advance_0 : decode cX9_advance 0 = .ok (.aload_n 0, 1) := by decide +kernel
theorem dX9_advance_1 : decode cX9_advance 1 = .ok (.getfield 43, 3) := by decide +kernel
theorem dX9_advance_4 : decode cX9_advance 4 = .ok (.aload_n 0, 1) := by decide +kernel
theorem dX9_advance_5 : decode cX9_advance 5 = .ok (.getfield 40, 3) := by decide +kernel
theorem kF_RX9_40 : Cond.fieldLink RX9 40 "CobwebLibrary$Tape" "limit" "I" ∈ gT := List.mem_filter.mpr ⟨List.mem_of_getElem? (i := 191) (by decide +kernel), by decide +kernel⟩
theorem dX9_advance_39 : decode cX9_advance 39 = .ok (.aload_n 0, 1) := by decide +kernel
theorem dX9_advance_40 : decode cX9_advance 40 = .ok (.iconst 0, 1) := by decide +kernel
theorem dX9_advance_41 : decode cX9_advance 41 = .ok (.putfield 31, 3) := by decide +kernel
theorem dX9_advance_44 : decode cX9_advance 44 = .ok (.aload_n 0, 1) := by decide +kernel
theorem dX9_advance_45 : decode cX9_advance 45 = .ok (.iconst 0, 1) := by decide +kernel
theorem dX9_advance_46 : decode cX9_advance 46 = .ok (.putfield 28, 3) := by decide +kernel
theorem dX9_advance_49 : decode cX9_advance 49 = .ok (.aload_n 0, 1) := by decide +kernel
theorem dX9_advance_50 : decode cX9_advance 50 = .ok (.iconst 0, 1) := by decide +kernel
theorem dX9_advance_51 : decode cX9_advance 51 = .ok (.putfield 25, 3) := by decide +kernel
theorem dX9_advance_54 : decode cX9_advance 54 = .ok (.aload_n 0, 1) := by decide +kernel
theorem dX9_advance_55 : decode cX9_advance 55 = .ok (.getfield 43, 3) := by decide +kernel
theorem dX9_advance_58 : decode cX9_advance 58 = .ok (.aload_n 0, 1) := by decide +kernel
theorem dX9_advance_59 : decode cX9_advance 59 = .ok (.getfield 40, 3) := by decide +kernel
theorem dX9_advance_62 : decode cX9_advance 62 = .ok (.if_icmp .lt 17, 3) := by decide +kernel
theorem dX9_advance_79 : decode cX9_advance 79 = .ok (.aload_n 0, 1) := by decide +kernel
theorem dX9_advance_80 : decode cX9_advance 80 = .ok (.aload_n 0, 1) := by decide +kernel
theorem dX9_advance_81 : decode cX9_advance 81 = .ok (.getfield 43, 3) := by decide +kernel
theorem dX9_advance_84 : decode cX9_advance 84 = .ok (.putfield 22, 3) := by decide +kernel
theorem dX9_advance_87 : decode cX9_advance 87 = .ok (.aload_n 0, 1) := by decide +kernel
theorem dX9_advance_88 : decode cX9_advance 88 = .ok (.getfield 9, 3) := by decide +kernel
theorem dX9_advance_91 : decode cX9_advance 91 = .ok (.aload_n 0, 1) := by decide +kernel
theorem dX9_advance_92 : decode cX9_advance 92 = .ok (.getfield 43, 3) := by decide +kernel
theorem dX9_advance_95 : decode cX9_advance 95 = .ok (.iaload, 1) := by decide +kernel
theorem dX9_advance_96 : decode cX9_advance 96 = .ok (.invokestatic 59, 3) := by decide +kernel
theorem dX9_advance_99 : decode cX9_advance 99 = .ok (.ifCond .ne 18, 3) := by decide +kernel
theorem dX9_advance_117 : decode cX9_advance 117 = .ok (.aload_n 0, 1) := by decide +kernel
theorem dX9_advance_118 : decode cX9_advance 118 = .ok (.invokevirtual 65, 3) := by decide +kernel
theorem kwV_X9_readRun : MwV RX9 yX9_readRun cX9_readRun 2 none 0 := ⟨List.mem_filter.mpr ⟨List.mem_of_getElem? (i := 674) (by decide +kernel), by decide +kernel⟩, List.mem_filter.mpr ⟨List.mem_of_getElem? (i := 673) (by decide +kernel), by decide +kernel⟩, List.mem_filter.mpr ⟨List.mem_of_getElem? (i := 0) (by decide +kernel), by decide +kernel⟩, List.mem_filter.mpr ⟨List.mem_of_getElem? (i := 129) (by decide +kernel), by decide +kernel⟩, by decide +kernel⟩
theorem kM_RX9_65 : Cond.methodLink RX9 65 yX9_readRun ∈ gT := List.mem_filter.mpr ⟨List.mem_of_getElem? (i := 671) (by decide +kernel), by decide +kernel⟩
theorem dX9_advance_121 : decode cX9_advance 121 = .ok (.return_, 1) := by decide +kernel
theorem dX9_advance_102 : decode cX9_advance 102 = .ok (.aload_n 0, 1) := by decide +kernel
theorem dX9_advance_103 : decode cX9_advance 103 = .ok (.getfield 9, 3) := by decide +kernel
theorem dX9_advance_106 : decode cX9_advance 106 = .ok (.aload_n 0, 1) := by decide +kernel
theorem dX9_advance_107 : decode cX9_advance 107 = .ok (.getfield 43, 3) := by decide +kernel
theorem dX9_advance_110 : decode cX9_advance 110 = .ok (.iaload, 1) := by decide +kernel
theorem dX9_advance_111 : decode cX9_advance 111 = .ok (.invokestatic 62, 3) := by decide +kernel
theorem dX9_advance_114 : decode cX9_advance 114 = .ok (.ifCond .eq 8, 3) := by decide +kernel
theorem dX9_advance_122 : decode cX9_advance 122 = .ok (.aload_n 0, 1) := by decide +kernel
theorem dX9_advance_123 : decode cX9_advance 123 = .ok (.aload_n 0, 1) := by decide +kernel
theorem dX9_advance_124 : decode cX9_advance 124 = .ok (.getfield 9, 3) := by decide +kernel
theorem dX9_advance_127 : decode cX9_advance 127 = .ok (.aload_n 0, 1) := by decide +kernel
theorem dX9_advance_128 : decode cX9_advance 128 = .ok (.getfield 43, 3) := by decide +kernel
theorem dX9_advance_131 : decode cX9_advance 131 = .ok (.iaload, 1) := by decide +kernel
theorem dX9_advance_132 : decode cX9_advance 132 = .ok (.invokestatic 68, 3) := by decide +kernel
theorem kwS_X9_isSign : MwS yX9_isSign cX9_isSign 1 (some .boolean) 1 := ⟨List.mem_filter.mpr ⟨List.mem_of_getElem? (i := 730) (by decide +kernel), by decide +kernel⟩, List.mem_filter.mpr ⟨List.mem_of_getElem? (i := 729) (by decide +kernel), by decide +kernel⟩, List.mem_filter.mpr ⟨List.mem_of_getElem? (i := 129) (by decide +kernel), by decide +kernel⟩, by decide +kernel⟩
theorem kM_RX9_68 : Cond.methodLink RX9 68 yX9_isSign ∈ gT := List.mem_filter.mpr ⟨List.mem_of_getElem? (i := 728) (by decide +kernel), by decide +kernel⟩
theorem dX9_advance_151 : decode cX9_advance 151 = .ok (.putfield 19, 3) := by decide +kernel
theorem dX9_advance_154 : decode cX9_advance 154 = .ok (.aload_n 0, 1) := by decide +kernel
theorem dX9_advance_155 : decode cX9_advance 155 = .ok (.dup, 1) := by decide +kernel
theorem dX9_advance_156 : decode cX9_advance 156 = .ok (.getfield 43, 3) := by decide +kernel
theorem dX9_advance_159 : decode cX9_advance 159 = .ok (.iconst 1, 1) := by decide +kernel
theorem dX9_advance_160 : decode cX9_advance 160 = .ok (.iadd, 1) := by decide +kernel
theorem dX9_advance_161 : decode cX9_advance 161 = .ok (.putfield 43, 3) := by decide +kernel
theorem dX9_advance_164 : decode cX9_advance 164 = .ok (.return_, 1) := by decide +kernel
theorem dX9_advance_135 : decode cX9_advance 135 = .ok (.ifCond .eq 15, 3) := by decide +kernel
theorem dX9_advance_150 : decode cX9_advance 150 = .ok (.iconst (-1), 1) := by decide +kernel
theorem dX9_advance_138 : decode cX9_advance 138 = .ok (.aload_n 0, 1) := by decide +kernel
theorem dX9_advance_139 : decode cX9_advance 139 = .ok (.getfield 9, 3) := by decide +kernel
theorem dX9_advance_142 : decode cX9_advance 142 = .ok (.aload_n 0, 1) := by decide +kernel
theorem dX9_advance_143 : decode cX9_advance 143 = .ok (.getfield 43, 3) := by decide +kernel
theorem dX9_advance_146 : decode cX9_advance 146 = .ok (.iaload, 1) := by decide +kernel
theorem dX9_advance_147 : decode cX9_advance 147 = .ok (.goto 4, 3) := by decide +kernel
theorem dX9_advance_65 : decode cX9_advance 65 = .ok (.aload_n 0, 1) := by decide +kernel
theorem dX9_advance_66 : decode cX9_advance 66 = .ok (.aload_n 0, 1) := by decide +kernel
theorem dX9_advance_67 : decode cX9_advance 67 = .ok (.getfield 40, 3) := by decide +kernel
theorem dX9_advance_70 : decode cX9_advance 70 = .ok (.putfield 22, 3) := by decide +kernel
theorem dX9_advance_73 : decode cX9_advance 73 = .ok (.aload_n 0, 1) := by decide +kernel
theorem dX9_advance_74 : decode cX9_advance 74 = .ok (.iconst 0, 1) := by decide +kernel
theorem dX9_advance_75 : decode cX9_advance 75 = .ok (.putfield 19, 3) := by decide +kernel
theorem dX9_advance_78 : decode cX9_advance 78 = .ok (.return_, 1) := by decide +kernel
theorem dX9_advance_8 : decode cX9_advance 8 = .ok (.if_icmp .ge 31, 3) := by decide +kernel
theorem dX9_advance_11 : decode cX9_advance 11 = .ok (.aload_n 0, 1) := by decide +kernel
theorem dX9_advance_12 : decode cX9_advance 12 = .ok (.getfield 9, 3) := by decide +kernel
theorem dX9_advance_15 : decode cX9_advance 15 = .ok (.aload_n 0, 1) := by decide +kernel
theorem dX9_advance_16 : decode cX9_advance 16 = .ok (.getfield 43, 3) := by decide +kernel
theorem dX9_advance_19 : decode cX9_advance 19 = .ok (.iaload, 1) := by decide +kernel
theorem dX9_advance_20 : decode cX9_advance 20 = .ok (.invokestatic 55, 3) := by decide +kernel
theorem kwS_X9_isBlank : MwS yX9_isBlank cX9_isBlank 1 (some .boolean) 1 := ⟨List.mem_filter.mpr ⟨List.mem_of_getElem? (i := 664) (by decide +kernel), by decide +kernel⟩, List.mem_filter.mpr ⟨List.mem_of_getElem? (i := 663) (by decide +kernel), by decide +kernel⟩, List.mem_filter.mpr ⟨List.mem_of_getElem? (i := 129) (by decide +kernel), by decide +kernel⟩, by decide +kernel⟩
theorem kM_RX9_55 : Cond.methodLink RX9 55 yX9_isBlank ∈ gT := List.mem_filter.mpr ⟨List.mem_of_getElem? (i := 662) (by decide +kernel), by decide +kernel⟩
theorem dX9_advance_23 : decode cX9_advance 23 = .ok (.ifCond .eq 16, 3) := by decide +kernel
theorem dX9_advance_26 : decode cX9_advance 26 = .ok (.aload_n 0, 1) := by decide +kernel
theorem dX9_advance_27 : decode cX9_advance 27 = .ok (.dup, 1) := by decide +kernel
theorem dX9_advance_28 : decode cX9_advance 28 = .ok (.getfield 43, 3) := by decide +kernel
theorem dX9_advance_31 : decode cX9_advance 31 = .ok (.iconst 1, 1) := by decide +kernel
theorem dX9_advance_32 : decode cX9_advance 32 = .ok (.iadd, 1) := by decide +kernel
theorem dX9_advance_33 : decode cX9_advance 33 = .ok (.putfield 43, 3) := by decide +kernel
theorem dX9_advance_36 : decode cX9_advance 36 = .ok (.goto (-36), 3) := by decide +kernel
theorem dX9_open_0 : decode cX9_open 0 = .ok (.aload_n 0, 1) := by decide +kernel
theorem dX9_open_1 : decode cX9_open 1 = .ok (.aload_n 0, 1) := by decide +kernel
theorem dX9_open_2 : decode cX9_open 2 = .ok (.getfield 15, 3) := by decide +kernel
theorem dX9_open_5 : decode cX9_open 5 = .ok (.iload_n 1, 1) := by decide +kernel
theorem dX9_open_6 : decode cX9_open 6 = .ok (.invokestatic 46, 3) := by decide +kernel
theorem kM_RX9_46 : Cond.methodLink RX9 46 Lib.Math.min.name ∈ gT := List.mem_filter.mpr ⟨List.mem_of_getElem? (i := 655) (by decide +kernel), by decide +kernel⟩
theorem dX9_open_9 : decode cX9_open 9 = .ok (.putfield 40, 3) := by decide +kernel
theorem dX9_open_12 : decode cX9_open 12 = .ok (.aload_n 0, 1) := by decide +kernel
theorem dX9_open_13 : decode cX9_open 13 = .ok (.iconst 0, 1) := by decide +kernel
theorem dX9_open_14 : decode cX9_open 14 = .ok (.putfield 43, 3) := by decide +kernel
theorem dX9_open_17 : decode cX9_open 17 = .ok (.aload_n 0, 1) := by decide +kernel
theorem dX9_open_18 : decode cX9_open 18 = .ok (.iconst 0, 1) := by decide +kernel
theorem dX9_open_19 : decode cX9_open 19 = .ok (.putfield 34, 3) := by decide +kernel
theorem dX9_open_22 : decode cX9_open 22 = .ok (.aload_n 0, 1) := by decide +kernel
theorem dX9_open_23 : decode cX9_open 23 = .ok (.iconst 0, 1) := by decide +kernel
theorem dX9_open_24 : decode cX9_open 24 = .ok (.putfield 37, 3) := by decide +kernel
theorem dX9_open_27 : decode cX9_open 27 = .ok (.aload_n 0, 1) := by decide +kernel
theorem dX9_open_28 : decode cX9_open 28 = .ok (.invokevirtual 52, 3) := by decide +kernel
theorem kwV_X9_advance : MwV RX9 yX9_advance cX9_advance 1 none 0 := ⟨List.mem_filter.mpr ⟨List.mem_of_getElem? (i := 661) (by decide +kernel), by decide +kernel⟩, List.mem_filter.mpr ⟨List.mem_of_getElem? (i := 659) (by decide +kernel), by decide +kernel⟩, List.mem_filter.mpr ⟨List.mem_of_getElem? (i := 660) (by decide +kernel), by decide +kernel⟩, List.mem_filter.mpr ⟨List.mem_of_getElem? (i := 129) (by decide +kernel), by decide +kernel⟩, by decide +kernel⟩
theorem kM_RX9_52 : Cond.methodLink RX9 52 yX9_advance ∈ gT := List.mem_filter.mpr ⟨List.mem_of_getElem? (i := 658) (by decide +kernel), by decide +kernel⟩
theorem dX9_open_31 : decode cX9_open 31 = .ok (.return_, 1) := by decide +kernel
theorem dX9_hasNumber_0 : decode cX9_hasNumber 0 = .ok (.aload_n 0, 1) := by decide +kernel
theorem dX9_hasNumber_1 : decode cX9_hasNumber 1 = .ok (.getfield 19, 3) := by decide +kernel
theorem dX9_hasNumber_4 : decode cX9_hasNumber 4 = .ok (.iconst 2, 1) := by decide +kernel
theorem dX9_hasNumber_5 : decode cX9_hasNumber 5 = .ok (.if_icmp .eq 9, 3) := by decide +kernel
theorem dX9_hasNumber_14 : decode cX9_hasNumber 14 = .ok (.aload_n 0, 1) := by decide +kernel
theorem dX9_hasNumber_15 : decode cX9_hasNumber 15 = .ok (.getfield 28, 3) := by decide +kernel
theorem dX9_hasNumber_18 : decode cX9_hasNumber 18 = .ok (.iload_n 1, 1) := by decide +kernel
theorem dX9_hasNumber_19 : decode cX9_hasNumber 19 = .ok (.if_icmp .lt 11, 3) := by decide +kernel
theorem dX9_hasNumber_30 : decode cX9_hasNumber 30 = .ok (.aload_n 0, 1) := by decide +kernel
theorem dX9_hasNumber_31 : decode cX9_hasNumber 31 = .ok (.iconst 2, 1) := by decide +kernel
theorem dX9_hasNumber_32 : decode cX9_hasNumber 32 = .ok (.invokevirtual 85, 3) := by decide +kernel
theorem kwV_X9_fail : MwV RX9 yX9_fail cX9_fail 2 (some .boolean) 1 := ⟨List.mem_filter.mpr ⟨List.mem_of_getElem? (i := 742) (by decide +kernel), by decide +kernel⟩, List.mem_filter.mpr ⟨List.mem_of_getElem? (i := 740) (by decide +kernel), by decide +kernel⟩, List.mem_filter.mpr ⟨List.mem_of_getElem? (i := 741) (by decide +kernel), by decide +kernel⟩, List.mem_filter.mpr ⟨List.mem_of_getElem? (i := 129) (by decide +kernel), by decide +kernel⟩, by decide +kernel⟩
theorem kM_RX9_85 : Cond.methodLink RX9 85 yX9_fail ∈ gT := List.mem_filter.mpr ⟨List.mem_of_getElem? (i := 755) (by decide +kernel), by decide +kernel⟩
theorem dX9_hasNumber_35 : decode cX9_hasNumber 35 = .ok (.ifCond .eq 7, 3) := by decide +kernel
theorem dX9_hasNumber_42 : decode cX9_hasNumber 42 = .ok (.iconst 0, 1) := by decide +kernel
theorem dX9_hasNumber_43 : decode cX9_hasNumber 43 = .ok (.ireturn, 1) := by decide +kernel
theorem dX9_hasNumber_22 : decode cX9_hasNumber 22 = .ok (.aload_n 0, 1) := by decide +kernel
theorem dX9_hasNumber_23 : decode cX9_hasNumber 23 = .ok (.getfield 28, 3) := by decide +kernel
theorem dX9_hasNumber_26 : decode cX9_hasNumber 26 = .ok (.iload_n 2, 1) := by decide +kernel
theorem dX9_hasNumber_27 : decode cX9_hasNumber 27 = .ok (.if_icmp .le 11, 3) := by decide +kernel
theorem dX9_hasNumber_38 : decode cX9_hasNumber 38 = .ok (.iconst 1, 1) := by decide +kernel
theorem dX9_hasNumber_39 : decode cX9_hasNumber 39 = .ok (.goto 4, 3) := by decide +kernel
theorem dX9_hasNumber_8 : decode cX9_hasNumber 8 = .ok (.aload_n 0, 1) := by decide +kernel
theorem dX9_hasNumber_9 : decode cX9_hasNumber 9 = .ok (.iconst 1, 1) := by decide +kernel
theorem dX9_hasNumber_10 : decode cX9_hasNumber 10 = .ok (.invokevirtual 85, 3) := by decide +kernel
theorem dX9_hasNumber_13 : decode cX9_hasNumber 13 = .ok (.ireturn, 1) := by decide +kernel
theorem dX9_passSign_0 : decode cX9_passSign 0 = .ok (.aload_n 0, 1) := by decide +kernel
theorem dX9_passSign_1 : decode cX9_passSign 1 = .ok (.getfield 19, 3) := by decide +kernel
theorem dX9_passSign_4 : decode cX9_passSign 4 = .ok (.iload_n 1, 1) := by decide +kernel
theorem dX9_passSign_5 : decode cX9_passSign 5 = .ok (.if_icmp .eq 9, 3) := by decide +kernel
theorem dX9_passSign_14 : decode cX9_passSign 14 = .ok (.aload_n 0, 1) := by decide +kernel
theorem dX9_passSign_15 : decode cX9_passSign 15 = .ok (.invokevirtual 52, 3) := by decide +kernel
theorem dX9_passSign_18 : decode cX9_passSign 18 = .ok (.iconst 1, 1) := by decide +kernel
theorem dX9_passSign_19 : decode cX9_passSign 19 = .ok (.ireturn, 1) := by decide +kernel
theorem dX9_passSign_8 : decode cX9_passSign 8 = .ok (.aload_n 0, 1) := by decide +kernel
theorem dX9_passSign_9 : decode cX9_passSign 9 = .ok (.iconst 1, 1) := by decide +kernel
theorem dX9_passSign_10 : decode cX9_passSign 10 = .ok (.invokevirtual 85, 3) := by decide +kernel
theorem dX9_passSign_13 : decode cX9_passSign 13 = .ok (.ireturn, 1) := by decide +kernel
theorem dX9_closes_0 : decode cX9_closes 0 = .ok (.aload_n 0, 1) := by decide +kernel
theorem dX9_closes_1 : decode cX9_closes 1 = .ok (.getfield 19, 3) := by decide +kernel
theorem dX9_closes_4 : decode cX9_closes 4 = .ok (.ifCond .ne 14, 3) := by decide +kernel
theorem dX9_closes_18 : decode cX9_closes 18 = .ok (.aload_n 0, 1) := by decide +kernel
theorem dX9_closes_19 : decode cX9_closes 19 = .ok (.iconst 1, 1) := by decide +kernel
theorem dX9_closes_20 : decode cX9_closes 20 = .ok (.invokevirtual 85, 3) := by decide +kernel
theorem dX9_closes_23 : decode cX9_closes 23 = .ok (.ifCond .eq 7, 3) := by decide +kernel
theorem dX9_closes_30 : decode cX9_closes 30 = .ok (.iconst 0, 1) := by decide +kernel
theorem dX9_closes_31 : decode cX9_closes 31 = .ok (.ireturn, 1) := by decide +kernel
theorem dX9_closes_7 : decode cX9_closes 7 = .ok (.aload_n 0, 1) := by decide +kernel
theorem dX9_closes_8 : decode cX9_closes 8 = .ok (.getfield 15, 3) := by decide +kernel
theorem dX9_closes_11 : decode cX9_closes 11 = .ok (.aload_n 0, 1) := by decide +kernel
theorem dX9_closes_12 : decode cX9_closes 12 = .ok (.getfield 40, 3) := by decide +kernel
theorem dX9_closes_15 : decode cX9_closes 15 = .ok (.if_icmp .le 11, 3) := by decide +kernel
theorem dX9_closes_26 : decode cX9_closes 26 = .ok (.iconst 1, 1) := by decide +kernel
theorem dX9_closes_27 : decode cX9_closes 27 = .ok (.goto 4, 3) := by decide +kernel
set_option maxHeartbeats 4000000 in
set_option maxRecDepth 100000 in
theorem b_o_wordNumberX (l : Launch) (D : va_G) (cy : Nat → ClassId) (t : Nat) (t_bytes_ : Nat) (t_length : Int32) (t_kind : Int32) (t_place : Int32) (t_size : Int32) (t_value : Int32) (t_word : Int32) (t_faultKind : Int32) (t_faultPlace : Int32) (t_limit : Int32) (t_next : Int32) (t_bytes : Nat → Int32) (hb0 : 0 ≤ t_length.toInt ∧ t_length.toInt ≤ 940) (hb1 : 0 ≤ t_place.toInt ∧ t_place.toInt ≤ 900) (hb2 : 1 ≤ t_size.toInt ∧ t_size.toInt ≤ 7) (hb3 : 0 ≤ t_limit.toInt ∧ t_limit.toInt ≤ 900) (hb4 : 0 ≤ t_next.toInt ∧ t_next.toInt ≤ 940) (hw1 : 0 ≤ t_place.toInt ∧ 0 ≤ t_length.toInt + (-1) * t_place.toInt + (-1) * t_size.toInt) (hR0 : Rg t_bytes 0 940 0 255) (hX0 : Lts (Pk t_bytes t_length.toInt) t_place.toInt t_size.toInt.toNat) {p : Program} {e : Env} {s : State} {m : MethodId} {args : Array Value} {below : List Frame} {meth : Method} {c : Code} {A : Nat → Prop} {Q : State → Prop} {cells slots : Nat} (hroom : cells ≤ ((Rm 4 85 0 0)).cells ∧ slots ≤ ((Rm 4 85 0 0)).slots) (C : Cx p s m args meth c cX9_wordNumber 3 (some .int) RX9 "wordNumber" D cy A) (hQ : Q = MQ below (va_Qi (fun (r : Int32) (u : Unit) => (0 ≤ r.toInt ∧ r.toInt ≤ 25) ∧ (r.toInt = wi (cod (Pk t_bytes t_length.toInt) t_place.toInt t_size.toInt.toNat))) (Bx D A (fun u : Unit => [(t, .inr (9, [.ref t_bytes_, .int t_length, .int t_kind, .int t_place, .int t_size, .int t_value, .int t_word, .int t_faultKind, .int t_faultPlace, .int t_limit, .int t_next])), (t_bytes_, .inl (cy 1, 940, .inl t_bytes))])) A) args s ((Rm 4 85 0 0)).cells ((Rm 4 85 0 0)).slots A) (H : Heap) (locs : List Loc) (ls : Array Slot) (hP : va_P D vwCl [(t, .inr (9, [.ref t_bytes_, .int t_length, .int t_kind, .int t_place, .int t_size, .int t_value, .int t_word, .int t_faultKind, .int t_faultPlace, .int t_limit, .int t_next])), (t_bytes_, .inl (cy 1, 940, .inl t_bytes))] H) (hD : va_D A [(t, .inr (9, [.ref t_bytes_, .int t_length, .int t_kind, .int t_place, .int t_size, .int t_value, .int t_word, .int t_faultKind, .int t_faultPlace, .int t_limit, .int t_next])), (t_bytes_, .inl (cy 1, 940, .inl t_bytes))]) (hS : va_S A s.heap H locs) (hl : lv_has ls 3 [(0, .ref t)]) : W p l e (Rm 4 85 0 0) s m args below meth c H locs cells slots Q (F0 m 0 ls []) := by
  have hx := C.1
  have hb := C.2.1
  refine lv_iconst (v := 0) hx hb dX9_wordNumber_0 (by decide) ?_
  refine lv_istore_n (lv' := [(1, .int 0), (0, .ref t)]) hx hb dX9_wordNumber_1 rfl hl (by decide) rfl (fun ls hl => ?_)
  have lp_2_1 : ∀ (n_2 : Nat) (x_1 : Int32) (H : Heap) (locs : List Loc) (ls : Array Slot), (-1) * x_1.toInt + 200 < (n_2 : Int) → (0 ≤ x_1.toInt ∧ x_1.toInt ≤ 200) → (wi (cod (Pk t_bytes t_length.toInt) t_place.toInt t_size.toInt.toNat) = wiT (cod (Pk t_bytes t_length.toInt) t_place.toInt t_size.toInt.toNat) (x_1.toInt / 8).toNat) → (x_1.toInt % 8 = 0) → va_P D vwCl [(t, .inr (9, [.ref t_bytes_, .int t_length, .int t_kind, .int t_place, .int t_size, .int t_value, .int t_word, .int t_faultKind, .int t_faultPlace, .int t_limit, .int t_next])), (t_bytes_, .inl (cy 1, 940, .inl t_bytes))] H → va_D A [(t, .inr (9, [.ref t_bytes_, .int t_length, .int t_kind, .int t_place, .int t_size, .int t_value, .int t_word, .int t_faultKind, .int t_faultPlace, .int t_limit, .int t_next])), (t_bytes_, .inl (cy 1, 940, .inl t_bytes))] → va_S A s.heap H locs → lv_has ls 3 [(0, .ref t), (1, .int x_1)] → W p l e (Rm 4 85 0 0) s m args below meth c H locs cells slots Q (F0 m 2 ls []) := by
    intro n_2
    induction n_2 with
    | zero =>
      intro x_1 H locs ls hm_6 hf_3 hf_4 hf_5 hP hD hS hl
      exact absurd hm_6 (by omega)
    | succ n_2 ih_7 =>
      intro x_1 H locs ls hm_6 hf_3 hf_4 hf_5 hP hD hS hl
      refine lv_iload_n hx hb dX9_wordNumber_2 rfl (lv_at hl 1 rfl) ?_
      refine lv_bipush (v := 8) hx hb dX9_wordNumber_3 (by decide) ?_
      refine lv_iadd hx hb dX9_wordNumber_5 ?_
      refine lv_topi (fun z_9 hz_9 => ?_)
      have hz_9 := o_add hz_9 (rfl : x_1.toInt = x_1.toInt) (by decide : (8 : Int32).toInt = 8) (by omega) (by omega)
      refine q_ldcS (j := 100) (tx := "shelves book    rare    web     thread  quarrel law     spin    line    draught ask     broom   move    day     or      and     not     doubt   lawful  dogma   asked   follows dust    bonds   number  ") C kS_0 dX9_wordNumber_6 ?_
      refine q_ai (wr := [(t, .inr (9, [.ref t_bytes_, .int t_length, .int t_kind, .int t_place, .int t_size, .int t_value, .int t_word, .int t_faultKind, .int t_faultPlace, .int t_limit, .int t_next])), (t_bytes_, .inl (cy 1, 940, .inl t_bytes))]) (r_VS (rm := (Rm 1 20 0 0)) (j := 0) (hj := by decide) (As := []) (rest := [.int z_9]) (wc := []) C hS (q_subP hP [] rfl) (hD.sub [] (by decide) rfl) (o_length0 l D cy  _ ) kwV_J0_length_8abf5 kM_RX9_77 ⟨Nat.le_of_ble_eq_true rfl, Nat.le_of_ble_eq_true rfl⟩ rfl hl.1 rfl (Nat.le_of_ble_eq_true rfl) dX9_wordNumber_8 ⟨hroom.1, hroom.2⟩) C.2.2.2.2.2.2.1 hP hD hS [] [0, 1] rfl rfl (by decide) (by decide) (fun r_11 u_10 H locs hw_12 hP hD hS => ?_)
      have hp_12 : 200 ≤ r_11.toInt ∧ r_11.toInt ≤ 200 := hw_12
      obtain rfl : r_11 = 200 := o_meq (b := 200) rfl (by decide) (by omega)
      refine lv_icmp_gt (tgt := 86) hx hb dX9_wordNumber_11 (by decide) (fun c_14 => ?_) (fun c_14 => ?_)
      · have hc_14 := o_lt (by decide : (200 : Int32).toInt = 200) (rfl : z_9.toInt = z_9.toInt) c_14
        refine lv_iconst (v := 0) hx hb dX9_wordNumber_86 (by decide) ?_
        refine o_wq hQ ?_
        exact q_iret (rm := (Rm 4 85 0 0)) C hS () rfl ⟨(show 0 ≤ (0 : Int32).toInt ∧ (0 : Int32).toInt ≤ 25 by decide), (show (0 : Int32).toInt = wi (cod (Pk t_bytes t_length.toInt) t_place.toInt t_size.toInt.toNat) from (by rw [hf_4, wiT_end (by omega)]; decide))⟩ (q_subP hP [0, 1] rfl) (hD.sub [0, 1] (by decide) rfl) hroom.1 hroom.2 dX9_wordNumber_87
      · have hc_14 := o_nlt (by decide : (200 : Int32).toInt = 200) (rfl : z_9.toInt = z_9.toInt) c_14
        refine lv_iconst (v := 0) hx hb dX9_wordNumber_14 (by decide) ?_
        refine lv_istore_n (lv' := [(2, .int 0), (0, .ref t), (1, .int x_1)]) hx hb dX9_wordNumber_15 rfl hl (by decide) rfl (fun ls hl => ?_)
        have lp_16_15 : ∀ (n_16 : Nat) (x_15 : Int32) (H : Heap) (locs : List Loc) (ls : Array Slot), (-1) * x_15.toInt + 7 < (n_16 : Int) → (0 ≤ x_15.toInt ∧ x_15.toInt ≤ 7) → (0 ≤ t_size.toInt + (-1) * x_15.toInt) → (Mp (Pk t_bytes t_length.toInt) x_1.toInt t_place.toInt x_15.toInt) → va_P D vwCl [(t, .inr (9, [.ref t_bytes_, .int t_length, .int t_kind, .int t_place, .int t_size, .int t_value, .int t_word, .int t_faultKind, .int t_faultPlace, .int t_limit, .int t_next])), (t_bytes_, .inl (cy 1, 940, .inl t_bytes))] H → va_D A [(t, .inr (9, [.ref t_bytes_, .int t_length, .int t_kind, .int t_place, .int t_size, .int t_value, .int t_word, .int t_faultKind, .int t_faultPlace, .int t_limit, .int t_next])), (t_bytes_, .inl (cy 1, 940, .inl t_bytes))] → va_S A s.heap H locs → lv_has ls 3 [(0, .ref t), (1, .int x_1), (2, .int x_15)] → W p l e (Rm 4 85 0 0) s m args below meth c H locs cells slots Q (F0 m 16 ls []) := by
          intro n_16
          induction n_16 with
          | zero =>
            intro x_15 H locs ls hm_20 hf_17 hf_18 hf_19 hP hD hS hl
            exact absurd hm_20 (by omega)
          | succ n_16 ih_21 =>
            intro x_15 H locs ls hm_20 hf_17 hf_18 hf_19 hP hD hS hl
            refine lv_iload_n hx hb dX9_wordNumber_16 rfl (lv_at hl 2 rfl) ?_
            refine lv_aload_n hx hb dX9_wordNumber_17 rfl (lv_at hl 0 rfl) ?_
            refine q_get (v := .int t_size) C hP 0 4 rfl rfl inX9 (by decide) kF_RX9_25 rfl rfl dX9_wordNumber_18 ?_
            refine lv_icmp_ge (tgt := 52) hx hb dX9_wordNumber_21 (by decide) (fun c_23 => ?_) (fun c_23 => ?_)
            · have hc_23 := o_le (rfl : t_size.toInt = t_size.toInt) (rfl : x_15.toInt = x_15.toInt) c_23
              refine lv_iload_n hx hb dX9_wordNumber_52 rfl (lv_at hl 2 rfl) ?_
              refine lv_aload_n hx hb dX9_wordNumber_53 rfl (lv_at hl 0 rfl) ?_
              refine q_get (v := .int t_size) C hP 0 4 rfl rfl inX9 (by decide) kF_RX9_25 rfl rfl dX9_wordNumber_54 ?_
              refine lv_icmp_ne (tgt := 80) hx hb dX9_wordNumber_57 (by decide) (fun c_0 => absurd (o_meq (rfl : x_15.toInt = x_15.toInt) (rfl : t_size.toInt = t_size.toInt) (by omega)) c_0) (fun _ => ?_)
              refine q_ldcS (j := 100) (tx := "shelves book    rare    web     thread  quarrel law     spin    line    draught ask     broom   move    day     or      and     not     doubt   lawful  dogma   asked   follows dust    bonds   number  ") C kS_0 dX9_wordNumber_60 ?_
              refine lv_iload_n hx hb dX9_wordNumber_62 rfl (lv_at hl 1 rfl) ?_
              refine lv_iload_n hx hb dX9_wordNumber_63 rfl (lv_at hl 2 rfl) ?_
              refine lv_iadd hx hb dX9_wordNumber_64 ?_
              refine lv_topi (fun z_24 hz_24 => ?_)
              have hz_24 := o_add hz_24 (rfl : x_1.toInt = x_1.toInt) (rfl : x_15.toInt = x_15.toInt) (by omega) (by omega)
              refine q_ai (wr := [(t, .inr (9, [.ref t_bytes_, .int t_length, .int t_kind, .int t_place, .int t_size, .int t_value, .int t_word, .int t_faultKind, .int t_faultPlace, .int t_limit, .int t_next])), (t_bytes_, .inl (cy 1, 940, .inl t_bytes))]) (r_VS (rm := (Rm 3 64 0 0)) (j := 0) (hj := by decide) (As := [.int z_24]) (rest := []) (wc := []) C hS (q_subP hP [] rfl) (hD.sub [] (by decide) rfl) (o_charAt0 l D cy z_24 _ (by omega)) kwV_J0_charAt_5068e kM_RX9_81 ⟨Nat.le_of_ble_eq_true rfl, Nat.le_of_ble_eq_true rfl⟩ rfl hl.1 rfl (Nat.le_of_ble_eq_true rfl) dX9_wordNumber_65 ⟨hroom.1, hroom.2⟩) C.2.2.2.2.2.2.1 hP hD hS [] [0, 1] rfl rfl (by decide) (by decide) (fun r_26 u_25 H locs hw_27 hP hD hS => ?_)
              have hp_27 : 0 ≤ r_26.toInt ∧ r_26.toInt ≤ 65535 := hw_27.1
              have hp_28 : r_26.toInt = Wj 0 z_24.toInt := hw_27.2
              refine lv_bipush (v := 32) hx hb dX9_wordNumber_68 (by decide) ?_
              refine lv_icmp_ne (tgt := 80) hx hb dX9_wordNumber_70 (by decide) (fun c_30 => ?_) (fun c_30 => ?_)
              · have hc_30 := o_ne (rfl : r_26.toInt = r_26.toInt) (by decide : (32 : Int32).toInt = 32) c_30
                obtain ⟨z_31, hz_31⟩ : ∃ z : Int32, z = x_1 + 8 := ⟨_, rfl⟩
                refine lv_iinc (v := z_31) (lv' := [(1, .int z_31), (0, .ref t), (2, .int x_15)]) hx hb dX9_wordNumber_80 hl (k := 1) rfl hz_31.symm (by decide) rfl (fun ls hl => ?_)
                have hz_31 := o_add hz_31 (rfl : x_1.toInt = x_1.toInt) (by decide : (8 : Int32).toInt = 8) (by omega) (by omega)
                have hq_31 : wi (cod (Pk t_bytes t_length.toInt) t_place.toInt t_size.toInt.toNat) = wiT (cod (Pk t_bytes t_length.toInt) t_place.toInt t_size.toInt.toNat) (z_31.toInt / 8).toNat := wt_no2 (l := x_15.toInt) (x := z_24.toInt) hf_4 (by omega) (by omega) (by omega) hX0 (by omega) (by omega) (by omega) (by rw [← hp_28]; omega) (by omega)
                refine lv_goto (tgt := 2) hx hb dX9_wordNumber_83 (by decide) ?_
                exact ih_7 z_31 H locs ls (by omega) (by omega) hq_31 (by omega) hP hD hS (lv_sub hl [1, 0] rfl)
              · have hc_30 := o_eq (rfl : r_26.toInt = r_26.toInt) (by decide : (32 : Int32).toInt = 32) c_30
                refine lv_iload_n hx hb dX9_wordNumber_73 rfl (lv_at hl 1 rfl) ?_
                refine lv_bipush (v := 8) hx hb dX9_wordNumber_74 (by decide) ?_
                refine lv_idiv hx hb dX9_wordNumber_76 (by decide) ?_
                refine lv_topi (fun z_33 hz_33 => ?_)
                have hz_33 := o_div hz_33 (rfl : x_1.toInt = x_1.toInt) (by decide : (8 : Int32).toInt = 8) (by omega) (by decide)
                refine lv_iconst (v := 1) hx hb dX9_wordNumber_77 (by decide) ?_
                refine lv_iadd hx hb dX9_wordNumber_78 ?_
                refine lv_topi (fun z_34 hz_34 => ?_)
                have hz_34 := o_add hz_34 (rfl : z_33.toInt = z_33.toInt) (by decide : (1 : Int32).toInt = 1) (by omega) (by omega)
                refine o_wq hQ ?_
                exact q_iret (rm := (Rm 4 85 0 0)) C hS () rfl ⟨(show 0 ≤ z_34.toInt ∧ z_34.toInt ≤ 25 by omega), (show z_34.toInt = wi (cod (Pk t_bytes t_length.toInt) t_place.toInt t_size.toInt.toNat) from (by have h9 := wt_yes (l := x_15.toInt) (x := z_24.toInt) hf_4 (by omega) (by omega) (by omega) hX0 (by omega) (by omega) hf_19 (by omega) (by omega) (by rw [← hp_28]; omega); omega))⟩ (q_subP hP [0, 1] rfl) (hD.sub [0, 1] (by decide) rfl) hroom.1 hroom.2 dX9_wordNumber_79
            · have hc_23 := o_nle (rfl : t_size.toInt = t_size.toInt) (rfl : x_15.toInt = x_15.toInt) c_23
              refine q_ldcS (j := 100) (tx := "shelves book    rare    web     thread  quarrel law     spin    line    draught ask     broom   move    day     or      and     not     doubt   lawful  dogma   asked   follows dust    bonds   number  ") C kS_0 dX9_wordNumber_24 ?_
              refine lv_iload_n hx hb dX9_wordNumber_26 rfl (lv_at hl 1 rfl) ?_
              refine lv_iload_n hx hb dX9_wordNumber_27 rfl (lv_at hl 2 rfl) ?_
              refine lv_iadd hx hb dX9_wordNumber_28 ?_
              refine lv_topi (fun z_35 hz_35 => ?_)
              have hz_35 := o_add hz_35 (rfl : x_1.toInt = x_1.toInt) (rfl : x_15.toInt = x_15.toInt) (by omega) (by omega)
              refine q_ai (wr := [(t, .inr (9, [.ref t_bytes_, .int t_length, .int t_kind, .int t_place, .int t_size, .int t_value, .int t_word, .int t_faultKind, .int t_faultPlace, .int t_limit, .int t_next])), (t_bytes_, .inl (cy 1, 940, .inl t_bytes))]) (r_VS (rm := (Rm 3 64 0 0)) (j := 0) (hj := by decide) (As := [.int z_35]) (rest := []) (wc := []) C hS (q_subP hP [] rfl) (hD.sub [] (by decide) rfl) (o_charAt0 l D cy z_35 _ (by omega)) kwV_J0_charAt_5068e kM_RX9_81 ⟨Nat.le_of_ble_eq_true rfl, Nat.le_of_ble_eq_true rfl⟩ rfl hl.1 rfl (Nat.le_of_ble_eq_true rfl) dX9_wordNumber_29 ⟨hroom.1, hroom.2⟩) C.2.2.2.2.2.2.1 hP hD hS [] [0, 1] rfl rfl (by decide) (by decide) (fun r_37 u_36 H locs hw_38 hP hD hS => ?_)
              have hp_38 : 0 ≤ r_37.toInt ∧ r_37.toInt ≤ 65535 := hw_38.1
              have hp_39 : r_37.toInt = Wj 0 z_35.toInt := hw_38.2
              refine lv_aload_n hx hb dX9_wordNumber_32 rfl (lv_at hl 0 rfl) ?_
              refine q_get (v := .ref t_bytes_) C hP 0 0 rfl rfl inX9 (by decide) kF_RX9_9 rfl rfl dX9_wordNumber_33 ?_
              refine lv_aload_n hx hb dX9_wordNumber_36 rfl (lv_at hl 0 rfl) ?_
              refine q_get (v := .int t_place) C hP 0 3 rfl rfl inX9 (by decide) kF_RX9_22 rfl rfl dX9_wordNumber_37 ?_
              refine lv_iload_n hx hb dX9_wordNumber_40 rfl (lv_at hl 2 rfl) ?_
              refine lv_iadd hx hb dX9_wordNumber_41 ?_
              refine lv_topi (fun z_41 hz_41 => ?_)
              have hz_41 := o_add hz_41 (rfl : t_place.toInt = t_place.toInt) (rfl : x_15.toInt = x_15.toInt) (by omega) (by omega)
              refine q_iald (v := t_bytes z_41.toNatClampNeg) C hP 1 rfl (o_in (rfl : z_41.toInt = z_41.toInt) (by omega) (by omega)) rfl dX9_wordNumber_42 ?_
              refine lv_topi (fun z_42 ez_42 => ?_)
              have hz_42 := Rg.at hR0 ez_42 (by have := o_cl (rfl : z_41.toInt = z_41.toInt) (by omega); omega) (by have := o_cl (rfl : z_41.toInt = z_41.toInt) (by omega); omega)
              have hq_42 : Pk t_bytes t_length.toInt z_41.toInt = z_42.toInt := ld_Pk ez_42 (by omega) (by omega) (by omega) (by omega)
              refine lv_icmp_ne (tgt := 52) hx hb dX9_wordNumber_43 (by decide) (fun c_44 => ?_) (fun c_44 => ?_)
              · have hc_44 := o_ne (rfl : r_37.toInt = r_37.toInt) (rfl : z_42.toInt = z_42.toInt) c_44
                refine lv_iload_n hx hb dX9_wordNumber_52 rfl (lv_at hl 2 rfl) ?_
                refine lv_aload_n hx hb dX9_wordNumber_53 rfl (lv_at hl 0 rfl) ?_
                refine q_get (v := .int t_size) C hP 0 4 rfl rfl inX9 (by decide) kF_RX9_25 rfl rfl dX9_wordNumber_54 ?_
                refine lv_icmp_ne (tgt := 80) hx hb dX9_wordNumber_57 (by decide) (fun _ => ?_) (fun c_0 => absurd c_0 (o_mne (rfl : x_15.toInt = x_15.toInt) (rfl : t_size.toInt = t_size.toInt) (by omega)))
                obtain ⟨z_45, hz_45⟩ : ∃ z : Int32, z = x_1 + 8 := ⟨_, rfl⟩
                refine lv_iinc (v := z_45) (lv' := [(1, .int z_45), (0, .ref t), (2, .int x_15)]) hx hb dX9_wordNumber_80 hl (k := 1) rfl hz_45.symm (by decide) rfl (fun ls hl => ?_)
                have hz_45 := o_add hz_45 (rfl : x_1.toInt = x_1.toInt) (by decide : (8 : Int32).toInt = 8) (by omega) (by omega)
                have hq_45 : wi (cod (Pk t_bytes t_length.toInt) t_place.toInt t_size.toInt.toNat) = wiT (cod (Pk t_bytes t_length.toInt) t_place.toInt t_size.toInt.toNat) (z_45.toInt / 8).toNat := wt_no1 (l := x_15.toInt) (x := z_35.toInt) (y := z_41.toInt) hf_4 (by omega) (by omega) (by omega) hX0 (by omega) (by omega) (by omega) (by omega) (by rw [← hp_39, hq_42]; omega) (by omega)
                refine lv_goto (tgt := 2) hx hb dX9_wordNumber_83 (by decide) ?_
                exact ih_7 z_45 H locs ls (by omega) (by omega) hq_45 (by omega) hP hD hS (lv_sub hl [1, 0] rfl)
              · have hc_44 := o_eq (rfl : r_37.toInt = r_37.toInt) (rfl : z_42.toInt = z_42.toInt) c_44
                obtain ⟨z_47, hz_47⟩ : ∃ z : Int32, z = x_15 + 1 := ⟨_, rfl⟩
                refine lv_iinc (v := z_47) (lv' := [(2, .int z_47), (0, .ref t), (1, .int x_1)]) hx hb dX9_wordNumber_46 hl (k := 2) rfl hz_47.symm (by decide) rfl (fun ls hl => ?_)
                have hz_47 := o_add hz_47 (rfl : x_15.toInt = x_15.toInt) (by decide : (1 : Int32).toInt = 1) (by omega) (by omega)
                have hq_47 : Mp (Pk t_bytes t_length.toInt) x_1.toInt t_place.toInt z_47.toInt := Mp.step (x := z_35.toInt) (y := z_41.toInt) hf_19 (by omega) (by omega) (by omega) (by rw [← hp_39, hq_42]; omega) (by omega)
                refine lv_goto (tgt := 16) hx hb dX9_wordNumber_49 (by decide) ?_
                exact ih_21 z_47 H locs ls (by omega) (by omega) (by omega) hq_47 hP hD hS (lv_sub hl [1, 2, 0] rfl)
        exact lp_16_15 8 (0 : Int32) H locs ls (by have e0 : (0 : Int32).toInt = 0 := (by decide); omega) (by have e0 : (0 : Int32).toInt = 0 := (by decide); omega) (by have e0 : (0 : Int32).toInt = 0 := (by decide); omega) (Mp.zero (by decide)) hP hD hS (lv_sub hl [1, 2, 0] rfl)
  exact lp_2_1 201 (0 : Int32) H locs ls (by have e0 : (0 : Int32).toInt = 0 := (by decide); omega) (by have e0 : (0 : Int32).toInt = 0 := (by decide); omega) rfl (by have e0 : (0 : Int32).toInt = 0 := (by decide); omega) hP hD hS (lv_sub hl [1, 0] rfl)
theorem o_wordNumberX (l : Launch) (D : va_G) (cy : Nat → ClassId) (t : Nat) (t_bytes_ : Nat) (t_length : Int32) (t_kind : Int32) (t_place : Int32) (t_size : Int32) (t_value : Int32) (t_word : Int32) (t_faultKind : Int32) (t_faultPlace : Int32) (t_limit : Int32) (t_next : Int32) (t_bytes : Nat → Int32) (sz : Nat) (hb0 : 0 ≤ t_length.toInt ∧ t_length.toInt ≤ 940) (hb1 : 0 ≤ t_place.toInt ∧ t_place.toInt ≤ 900) (hb2 : 1 ≤ t_size.toInt ∧ t_size.toInt ≤ 7) (hb3 : 0 ≤ t_limit.toInt ∧ t_limit.toInt ≤ 900) (hb4 : 0 ≤ t_next.toInt ∧ t_next.toInt ≤ 940) (hw1 : 0 ≤ t_place.toInt ∧ 0 ≤ t_length.toInt + (-1) * t_place.toInt + (-1) * t_size.toInt) (hR0 : Rg t_bytes 0 940 0 255) (hX0 : Lts (Pk t_bytes t_length.toInt) t_place.toInt t_size.toInt.toNat) : MI l yX9_wordNumber cX9_wordNumber 3 (some .int) (Rm 4 85 0 0) D cy [.ref t] sz [(t, .inr (9, [.ref t_bytes_, .int t_length, .int t_kind, .int t_place, .int t_size, .int t_value, .int t_word, .int t_faultKind, .int t_faultPlace, .int t_limit, .int t_next])), (t_bytes_, .inl (cy 1, 940, .inl t_bytes))] (fun (r : Int32) (u : Unit) => (0 ≤ r.toInt ∧ r.toInt ≤ 25) ∧ (r.toInt = wi (cod (Pk t_bytes t_length.toInt) t_place.toInt t_size.toInt.toNat))) (fun u : Unit => [(t, .inr (9, [.ref t_bytes_, .int t_length, .int t_kind, .int t_place, .int t_size, .int t_value, .int t_word, .int t_faultKind, .int t_faultPlace, .int t_limit, .int t_next])), (t_bytes_, .inl (cy 1, 940, .inl t_bytes))]) := by
  refine MI.enter (by decide) (Nat.le_of_ble_eq_true rfl) ?_
  intro p e s m below meth c ls A hsz hAe C hP hD hS hl
  exact b_o_wordNumberX l D cy t t_bytes_ t_length t_kind t_place t_size t_value t_word t_faultKind t_faultPlace t_limit t_next t_bytes hb0 hb1 hb2 hb3 hb4 hw1 hR0 hX0 ⟨Nat.le_of_ble_eq_true rfl, Nat.le_of_ble_eq_true rfl⟩ C rfl _ _ ls hP hD hS hl
set_option maxHeartbeats 4000000 in
set_option maxRecDepth 100000 in
theorem b_o_readRunX (l : Launch) (D : va_G) (cy : Nat → ClassId) (t : Nat) (t_bytes_ : Nat) (t_length : Int32) (t_kind : Int32) (t_place : Int32) (t_size : Int32) (t_value : Int32) (t_word : Int32) (t_faultKind : Int32) (t_faultPlace : Int32) (t_limit : Int32) (t_next : Int32) (t_bytes : Nat → Int32) (hb0 : 0 ≤ t_length.toInt ∧ t_length.toInt ≤ 940) (hb1 : 0 ≤ t_place.toInt ∧ t_place.toInt ≤ 900) (hb2 : (-900) ≤ t_size.toInt ∧ t_size.toInt ≤ 940) (hb3 : 0 ≤ t_limit.toInt ∧ t_limit.toInt ≤ 900) (hb4 : 0 ≤ t_next.toInt ∧ t_next.toInt ≤ 940) (hr1 : 0 ≤ t_value.toInt ∧ 0 ≤ (-1) * t_value.toInt ∧ 0 ≤ t_word.toInt ∧ 0 ≤ (-1) * t_word.toInt ∧ 0 ≤ t_next.toInt + (-1) * t_place.toInt ∧ 0 ≤ (-1) * t_next.toInt + t_place.toInt ∧ 0 ≤ t_place.toInt ∧ 0 ≤ t_length.toInt + (-1) * t_place.toInt + (-1)) (hR0 : Rg t_bytes 0 940 0 255) (hX0 : aln (Pk t_bytes t_length.toInt t_place.toInt) = true) {p : Program} {e : Env} {s : State} {m : MethodId} {args : Array Value} {below : List Frame} {meth : Method} {c : Code} {A : Nat → Prop} {Q : State → Prop} {cells slots : Nat} (hroom : cells ≤ ((Rm 5 107 0 0)).cells ∧ slots ≤ ((Rm 5 107 0 0)).slots) (C : Cx p s m args meth c cX9_readRun 2 none RX9 "readRun" D cy A) (hQ : Q = MQ below (va_Qv (fun u : Int32 × Int32 × Int32 × Int32 × Int32 => ((-900) ≤ u.2.1.toInt ∧ u.2.1.toInt ≤ 940) ∧ (0 ≤ u.2.2.2.2.toInt ∧ u.2.2.2.2.toInt ≤ 940) ∧ (Tr (Pk t_bytes t_length.toInt) t_length.toInt t_place.toInt u.1.toInt u.2.1.toInt u.2.2.1.toInt u.2.2.2.1.toInt u.2.2.2.2.toInt)) (Bx D A (fun u : Int32 × Int32 × Int32 × Int32 × Int32 => [(t, .inr (9, [.ref t_bytes_, .int t_length, .int u.1, .int t_place, .int u.2.1, .int u.2.2.1, .int u.2.2.2.1, .int t_faultKind, .int t_faultPlace, .int t_limit, .int u.2.2.2.2])), (t_bytes_, .inl (cy 1, 940, .inl t_bytes))])) A) args s ((Rm 5 107 0 0)).cells ((Rm 5 107 0 0)).slots A) (H : Heap) (locs : List Loc) (ls : Array Slot) (hP : va_P D vwCl [(t, .inr (9, [.ref t_bytes_, .int t_length, .int t_kind, .int t_place, .int t_size, .int t_value, .int t_word, .int t_faultKind, .int t_faultPlace, .int t_limit, .int t_next])), (t_bytes_, .inl (cy 1, 940, .inl t_bytes))] H) (hD : va_D A [(t, .inr (9, [.ref t_bytes_, .int t_length, .int t_kind, .int t_place, .int t_size, .int t_value, .int t_word, .int t_faultKind, .int t_faultPlace, .int t_limit, .int t_next])), (t_bytes_, .inl (cy 1, 940, .inl t_bytes))]) (hS : va_S A s.heap H locs) (hl : lv_has ls 2 [(0, .ref t)]) : W p l e (Rm 5 107 0 0) s m args below meth c H locs cells slots Q (F0 m 0 ls []) := by
  have hx := C.1
  have hb := C.2.1
  refine lv_iconst (v := 0) hx hb dX9_readRun_0 (by decide) ?_
  refine lv_istore_n (lv' := [(1, .int 0), (0, .ref t)]) hx hb dX9_readRun_1 rfl hl (by decide) rfl (fun ls hl => ?_)
  have lp_2_3 : ∀ (n_4 : Nat) (x_1 : Int32) (x_2 : Int32) (x_3 : Int32) (H : Heap) (locs : List Loc) (ls : Array Slot), (-1) * x_3.toInt + 940 < (n_4 : Int) → (0 ≤ x_3.toInt ∧ x_3.toInt ≤ 940) → (0 ≤ x_3.toInt + (-1) * t_place.toInt) → (0 ≤ t_length.toInt + (-1) * x_3.toInt) → (0 ≤ x_1.toInt) → (0 ≤ x_3.toInt + (-1) * t_place.toInt + (-1) * x_1.toInt) → (wh aln (Pk t_bytes t_length.toInt) t_length.toInt t_place.toInt = wh aln (Pk t_bytes t_length.toInt) t_length.toInt x_3.toInt) → (x_1.toInt = ltr (Pk t_bytes t_length.toInt) t_place.toInt (x_3.toInt - t_place.toInt).toNat) → (Vl (Pk t_bytes t_length.toInt) t_place.toInt (x_3.toInt - t_place.toInt) x_1.toInt x_2.toInt) → va_P D vwCl [(t, .inr (9, [.ref t_bytes_, .int t_length, .int t_kind, .int t_place, .int t_size, .int x_2, .int t_word, .int t_faultKind, .int t_faultPlace, .int t_limit, .int x_3])), (t_bytes_, .inl (cy 1, 940, .inl t_bytes))] H → va_D A [(t, .inr (9, [.ref t_bytes_, .int t_length, .int t_kind, .int t_place, .int t_size, .int x_2, .int t_word, .int t_faultKind, .int t_faultPlace, .int t_limit, .int x_3])), (t_bytes_, .inl (cy 1, 940, .inl t_bytes))] → va_S A s.heap H locs → lv_has ls 2 [(0, .ref t), (1, .int x_1)] → W p l e (Rm 5 107 0 0) s m args below meth c H locs cells slots Q (F0 m 2 ls []) := by
    intro n_4
    induction n_4 with
    | zero =>
      intro x_1 x_2 x_3 H locs ls hm_13 hf_5 hf_6 hf_7 hf_8 hf_9 hf_10 hf_11 hf_12 hP hD hS hl
      exact absurd hm_13 (by omega)
    | succ n_4 ih_14 =>
      intro x_1 x_2 x_3 H locs ls hm_13 hf_5 hf_6 hf_7 hf_8 hf_9 hf_10 hf_11 hf_12 hP hD hS hl
      refine lv_aload_n hx hb dX9_readRun_2 rfl (lv_at hl 0 rfl) ?_
      refine q_get (v := .int x_3) C hP 0 10 rfl rfl inX9 (by decide) kF_RX9_43 rfl rfl dX9_readRun_3 ?_
      refine lv_aload_n hx hb dX9_readRun_6 rfl (lv_at hl 0 rfl) ?_
      refine q_get (v := .int t_length) C hP 0 1 rfl rfl inX9 (by decide) kF_RX9_15 rfl rfl dX9_readRun_7 ?_
      refine lv_icmp_ge (tgt := 101) hx hb dX9_readRun_10 (by decide) (fun c_16 => ?_) (fun c_16 => ?_)
      · have hc_16 := o_le (rfl : t_length.toInt = t_length.toInt) (rfl : x_3.toInt = x_3.toInt) c_16
        have hq_16 : wh aln (Pk t_bytes t_length.toInt) t_length.toInt t_place.toInt = x_3.toInt := hf_10.trans (wh_end (by omega))
        have hq_17 : t_place.toInt + 1 ≤ x_3.toInt := wh_pos hq_16 (by omega) hX0
        refine lv_aload_n hx hb dX9_readRun_101 rfl (lv_at hl 0 rfl) ?_
        refine lv_aload_n hx hb dX9_readRun_102 rfl (lv_at hl 0 rfl) ?_
        refine q_get (v := .int x_3) C hP 0 10 rfl rfl inX9 (by decide) kF_RX9_43 rfl rfl dX9_readRun_103 ?_
        refine lv_aload_n hx hb dX9_readRun_106 rfl (lv_at hl 0 rfl) ?_
        refine q_get (v := .int t_place) C hP 0 3 rfl rfl inX9 (by decide) kF_RX9_22 rfl rfl dX9_readRun_107 ?_
        refine lv_isub hx hb dX9_readRun_110 ?_
        refine lv_topi (fun z_19 hz_19 => ?_)
        have dz_19 := hz_19
        have hz_19 := o_sub hz_19 (rfl : x_3.toInt = x_3.toInt) (rfl : t_place.toInt = t_place.toInt) (by omega) (by omega)
        refine q_put (v := .int z_19) (w' := [(t, .inr (9, [.ref t_bytes_, .int t_length, .int t_kind, .int t_place, .int z_19, .int x_2, .int t_word, .int t_faultKind, .int t_faultPlace, .int t_limit, .int x_3])), (t_bytes_, .inl (cy 1, 940, .inl t_bytes))]) (ty := .int) C hP hD hS 0 4 rfl rfl inX9 tyX9 tyX9_ok nmX9 (by decide) kF_RX9_25 rfl rfl rfl rfl rfl (Nat.le_of_ble_eq_true rfl) rfl dX9_readRun_111 (fun H locs hP hD hS => ?_)
        refine lv_aload_n hx hb dX9_readRun_114 rfl (lv_at hl 0 rfl) ?_
        refine lv_iconst (v := (-1)) hx hb dX9_readRun_115 (by decide) ?_
        refine q_put (v := .int (-1)) (w' := [(t, .inr (9, [.ref t_bytes_, .int t_length, .int (-1), .int t_place, .int z_19, .int x_2, .int t_word, .int t_faultKind, .int t_faultPlace, .int t_limit, .int x_3])), (t_bytes_, .inl (cy 1, 940, .inl t_bytes))]) (ty := .int) C hP hD hS 0 2 rfl rfl inX9 tyX9 tyX9_ok nmX9 (by decide) kF_RX9_19 rfl rfl rfl rfl rfl (Nat.le_of_ble_eq_true rfl) rfl dX9_readRun_116 (fun H locs hP hD hS => ?_)
        refine lv_iload_n hx hb dX9_readRun_119 rfl (lv_at hl 1 rfl) ?_
        refine lv_if_ne (tgt := 139) hx hb dX9_readRun_120 (by decide) (fun c_20 => ?_) (fun c_20 => ?_)
        · have hc_20 := o_ne (rfl : x_1.toInt = x_1.toInt) (by decide : (0 : Int32).toInt = 0) c_20
          have hnc_20 : 0 ≤ x_1.toInt + (-1) := by rcases Int.lt_or_gt_of_ne hc_20 with h9 | h9 <;> omega
          refine lv_iload_n hx hb dX9_readRun_139 rfl (lv_at hl 1 rfl) ?_
          refine lv_aload_n hx hb dX9_readRun_140 rfl (lv_at hl 0 rfl) ?_
          refine q_get (v := .int z_19) C hP 0 4 rfl rfl inX9 (by decide) kF_RX9_25 rfl rfl dX9_readRun_141 ?_
          refine lv_icmp_ne (tgt := 169) hx hb dX9_readRun_144 (by decide) (fun c_21 => ?_) (fun c_21 => ?_)
          · have hc_21 := o_ne (rfl : x_1.toInt = x_1.toInt) (rfl : z_19.toInt = z_19.toInt) c_21
            have hnc_21 : 0 ≤ z_19.toInt + (-1) * x_1.toInt + (-1) := by rcases Int.lt_or_gt_of_ne hc_21 with h9 | h9 <;> omega
            refine o_wq hQ ?_
            exact q_vret (rm := (Rm 5 107 0 0)) C hS ((-1), z_19, x_2, t_word, x_3) ⟨(show (-900) ≤ z_19.toInt ∧ z_19.toInt ≤ 940 by omega), (show 0 ≤ x_3.toInt ∧ x_3.toInt ≤ 940 by omega), (show Tr (Pk t_bytes t_length.toInt) t_length.toInt t_place.toInt ((-1) : Int32).toInt z_19.toInt x_2.toInt t_word.toInt x_3.toInt from (Tr.of (letters := x_1.toInt) hq_16 (by omega) (by omega) (by rw [show z_19.toInt = x_3.toInt - t_place.toInt by omega]; exact hf_11) (by rw [show z_19.toInt = x_3.toInt - t_place.toInt by omega]; exact hf_12) (Or.inr (Or.inr ⟨by omega, by omega, by decide, by omega⟩))))⟩ (q_subP hP [0, 1] rfl) (hD.sub [0, 1] (by decide) rfl) hroom.1 hroom.2 dX9_readRun_169
          · have hc_21 := o_eq (rfl : x_1.toInt = x_1.toInt) (rfl : z_19.toInt = z_19.toInt) c_21
            refine lv_aload_n hx hb dX9_readRun_147 rfl (lv_at hl 0 rfl) ?_
            refine q_get (v := .int z_19) C hP 0 4 rfl rfl inX9 (by decide) kF_RX9_25 rfl rfl dX9_readRun_148 ?_
            refine lv_bipush (v := 7) hx hb dX9_readRun_151 (by decide) ?_
            refine lv_icmp_gt (tgt := 169) hx hb dX9_readRun_153 (by decide) (fun c_22 => ?_) (fun c_22 => ?_)
            · have hc_22 := o_lt (by decide : (7 : Int32).toInt = 7) (rfl : z_19.toInt = z_19.toInt) c_22
              refine o_wq hQ ?_
              exact q_vret (rm := (Rm 5 107 0 0)) C hS ((-1), z_19, x_2, t_word, x_3) ⟨(show (-900) ≤ z_19.toInt ∧ z_19.toInt ≤ 940 by omega), (show 0 ≤ x_3.toInt ∧ x_3.toInt ≤ 940 by omega), (show Tr (Pk t_bytes t_length.toInt) t_length.toInt t_place.toInt ((-1) : Int32).toInt z_19.toInt x_2.toInt t_word.toInt x_3.toInt from (Tr.of (letters := x_1.toInt) hq_16 (by omega) (by omega) (by rw [show z_19.toInt = x_3.toInt - t_place.toInt by omega]; exact hf_11) (by rw [show z_19.toInt = x_3.toInt - t_place.toInt by omega]; exact hf_12) (Or.inr (Or.inr ⟨by omega, by omega, by decide, by omega⟩))))⟩ (q_subP hP [0, 1] rfl) (hD.sub [0, 1] (by decide) rfl) hroom.1 hroom.2 dX9_readRun_169
            · have hc_22 := o_nlt (by decide : (7 : Int32).toInt = 7) (rfl : z_19.toInt = z_19.toInt) c_22
              refine lv_aload_n hx hb dX9_readRun_156 rfl (lv_at hl 0 rfl) ?_
              refine lv_iconst (v := 1) hx hb dX9_readRun_157 (by decide) ?_
              refine q_put (v := .int 1) (w' := [(t, .inr (9, [.ref t_bytes_, .int t_length, .int 1, .int t_place, .int z_19, .int x_2, .int t_word, .int t_faultKind, .int t_faultPlace, .int t_limit, .int x_3])), (t_bytes_, .inl (cy 1, 940, .inl t_bytes))]) (ty := .int) C hP hD hS 0 2 rfl rfl inX9 tyX9 tyX9_ok nmX9 (by decide) kF_RX9_19 rfl rfl rfl rfl rfl (Nat.le_of_ble_eq_true rfl) rfl dX9_readRun_158 (fun H locs hP hD hS => ?_)
              refine lv_aload_n hx hb dX9_readRun_161 rfl (lv_at hl 0 rfl) ?_
              refine lv_aload_n hx hb dX9_readRun_162 rfl (lv_at hl 0 rfl) ?_
              have hq_22 : x_1.toInt = ltr (Pk t_bytes t_length.toInt) t_place.toInt z_19.toInt.toNat := by rw [show z_19.toInt = x_3.toInt - t_place.toInt by omega]; exact hf_11
              have hq_23 : Lts (Pk t_bytes t_length.toInt) t_place.toInt z_19.toInt.toNat := ltr_all _ (by rw [← hq_22]; omega)
              refine q_ai (wr := []) (r_V (rm := (Rm 4 85 0 0)) (q0 := 0) (As := []) (rest := [.ref t]) (wc := [(t, .inr (9, [.ref t_bytes_, .int t_length, .int 1, .int t_place, .int z_19, .int x_2, .int t_word, .int t_faultKind, .int t_faultPlace, .int t_limit, .int x_3])), (t_bytes_, .inl (cy 1, 940, .inl t_bytes))]) C hS (q_subP hP [0, 1] rfl) (hD.sub [0, 1] (by decide) rfl) (o_wordNumberX l D cy t t_bytes_ t_length 1 t_place z_19 x_2 t_word t_faultKind t_faultPlace t_limit x_3 t_bytes _ (by omega) (by omega) (by omega) (by omega) (by omega) (by have e0 : (1 : Int32).toInt = 1 := (by decide); omega) hR0 hq_23) kwV_X9_wordNumber kM_RX9_71 rfl rfl ⟨Nat.le_of_ble_eq_true rfl, Nat.le_of_ble_eq_true rfl⟩ rfl hl.1 rfl (Nat.le_of_ble_eq_true rfl) dX9_readRun_163 ⟨hroom.1, hroom.2⟩) C.2.2.2.2.2.2.1 hP hD hS [0, 1] [] rfl rfl (by decide) (by decide) (fun r_26 u_25 H locs hw_27 hP hD hS => ?_)
              have hp_27 : 0 ≤ r_26.toInt ∧ r_26.toInt ≤ 25 := hw_27.1
              have hp_28 : r_26.toInt = wi (cod (Pk t_bytes t_length.toInt) t_place.toInt z_19.toInt.toNat) := hw_27.2
              refine q_put (v := .int r_26) (w' := [(t, .inr (9, [.ref t_bytes_, .int t_length, .int 1, .int t_place, .int z_19, .int x_2, .int r_26, .int t_faultKind, .int t_faultPlace, .int t_limit, .int x_3])), (t_bytes_, .inl (cy 1, 940, .inl t_bytes))]) (ty := .int) C hP hD hS 0 6 rfl rfl inX9 tyX9 tyX9_ok nmX9 (by decide) kF_RX9_31 rfl rfl rfl rfl rfl (Nat.le_of_ble_eq_true rfl) rfl dX9_readRun_166 (fun H locs hP hD hS => ?_)
              refine o_wq hQ ?_
              exact q_vret (rm := (Rm 5 107 0 0)) C hS (1, z_19, x_2, r_26, x_3) ⟨(show (-900) ≤ z_19.toInt ∧ z_19.toInt ≤ 940 by omega), (show 0 ≤ x_3.toInt ∧ x_3.toInt ≤ 940 by omega), (show Tr (Pk t_bytes t_length.toInt) t_length.toInt t_place.toInt (1 : Int32).toInt z_19.toInt x_2.toInt r_26.toInt x_3.toInt from (Tr.of (letters := x_1.toInt) hq_16 (by omega) (by omega) (by rw [show z_19.toInt = x_3.toInt - t_place.toInt by omega]; exact hf_11) (by rw [show z_19.toInt = x_3.toInt - t_place.toInt by omega]; exact hf_12) (Or.inr (Or.inl ⟨by omega, by omega, by omega, by decide, hp_28⟩))))⟩ (q_subP hP [0, 1] rfl) (hD.sub [0, 1] (by decide) rfl) hroom.1 hroom.2 dX9_readRun_169
        · have hc_20 := o_eq (rfl : x_1.toInt = x_1.toInt) (by decide : (0 : Int32).toInt = 0) c_20
          refine lv_aload_n hx hb dX9_readRun_123 rfl (lv_at hl 0 rfl) ?_
          refine q_get (v := .int z_19) C hP 0 4 rfl rfl inX9 (by decide) kF_RX9_25 rfl rfl dX9_readRun_124 ?_
          refine lv_iconst (v := 3) hx hb dX9_readRun_127 (by decide) ?_
          refine lv_icmp_gt (tgt := 139) hx hb dX9_readRun_128 (by decide) (fun c_30 => ?_) (fun c_30 => ?_)
          · have hc_30 := o_lt (by decide : (3 : Int32).toInt = 3) (rfl : z_19.toInt = z_19.toInt) c_30
            refine lv_iload_n hx hb dX9_readRun_139 rfl (lv_at hl 1 rfl) ?_
            refine lv_aload_n hx hb dX9_readRun_140 rfl (lv_at hl 0 rfl) ?_
            refine q_get (v := .int z_19) C hP 0 4 rfl rfl inX9 (by decide) kF_RX9_25 rfl rfl dX9_readRun_141 ?_
            refine lv_icmp_ne (tgt := 169) hx hb dX9_readRun_144 (by decide) (fun _ => ?_) (fun c_0 => absurd c_0 (o_mne (rfl : x_1.toInt = x_1.toInt) (rfl : z_19.toInt = z_19.toInt) (by omega)))
            refine o_wq hQ ?_
            exact q_vret (rm := (Rm 5 107 0 0)) C hS ((-1), z_19, x_2, t_word, x_3) ⟨(show (-900) ≤ z_19.toInt ∧ z_19.toInt ≤ 940 by omega), (show 0 ≤ x_3.toInt ∧ x_3.toInt ≤ 940 by omega), (show Tr (Pk t_bytes t_length.toInt) t_length.toInt t_place.toInt ((-1) : Int32).toInt z_19.toInt x_2.toInt t_word.toInt x_3.toInt from (Tr.of (letters := x_1.toInt) hq_16 (by omega) (by omega) (by rw [show z_19.toInt = x_3.toInt - t_place.toInt by omega]; exact hf_11) (by rw [show z_19.toInt = x_3.toInt - t_place.toInt by omega]; exact hf_12) (Or.inr (Or.inr ⟨by omega, by omega, by decide, by omega⟩))))⟩ (q_subP hP [0, 1] rfl) (hD.sub [0, 1] (by decide) rfl) hroom.1 hroom.2 dX9_readRun_169
          · have hc_30 := o_nlt (by decide : (3 : Int32).toInt = 3) (rfl : z_19.toInt = z_19.toInt) c_30
            refine lv_aload_n hx hb dX9_readRun_131 rfl (lv_at hl 0 rfl) ?_
            refine lv_iconst (v := 2) hx hb dX9_readRun_132 (by decide) ?_
            refine q_put (v := .int 2) (w' := [(t, .inr (9, [.ref t_bytes_, .int t_length, .int 2, .int t_place, .int z_19, .int x_2, .int t_word, .int t_faultKind, .int t_faultPlace, .int t_limit, .int x_3])), (t_bytes_, .inl (cy 1, 940, .inl t_bytes))]) (ty := .int) C hP hD hS 0 2 rfl rfl inX9 tyX9 tyX9_ok nmX9 (by decide) kF_RX9_19 rfl rfl rfl rfl rfl (Nat.le_of_ble_eq_true rfl) rfl dX9_readRun_133 (fun H locs hP hD hS => ?_)
            refine lv_goto (tgt := 169) hx hb dX9_readRun_136 (by decide) ?_
            refine o_wq hQ ?_
            exact q_vret (rm := (Rm 5 107 0 0)) C hS (2, z_19, x_2, t_word, x_3) ⟨(show (-900) ≤ z_19.toInt ∧ z_19.toInt ≤ 940 by omega), (show 0 ≤ x_3.toInt ∧ x_3.toInt ≤ 940 by omega), (show Tr (Pk t_bytes t_length.toInt) t_length.toInt t_place.toInt (2 : Int32).toInt z_19.toInt x_2.toInt t_word.toInt x_3.toInt from (Tr.of (letters := x_1.toInt) hq_16 (by omega) (by omega) (by rw [show z_19.toInt = x_3.toInt - t_place.toInt by omega]; exact hf_11) (by rw [show z_19.toInt = x_3.toInt - t_place.toInt by omega]; exact hf_12) (Or.inl ⟨by omega, by omega, by decide, by omega⟩)))⟩ (q_subP hP [0, 1] rfl) (hD.sub [0, 1] (by decide) rfl) hroom.1 hroom.2 dX9_readRun_169
      · have hc_16 := o_nle (rfl : t_length.toInt = t_length.toInt) (rfl : x_3.toInt = x_3.toInt) c_16
        refine lv_aload_n hx hb dX9_readRun_13 rfl (lv_at hl 0 rfl) ?_
        refine q_get (v := .ref t_bytes_) C hP 0 0 rfl rfl inX9 (by decide) kF_RX9_9 rfl rfl dX9_readRun_14 ?_
        refine lv_aload_n hx hb dX9_readRun_17 rfl (lv_at hl 0 rfl) ?_
        refine q_get (v := .int x_3) C hP 0 10 rfl rfl inX9 (by decide) kF_RX9_43 rfl rfl dX9_readRun_18 ?_
        refine q_iald (v := t_bytes x_3.toNatClampNeg) C hP 1 rfl (o_in (rfl : x_3.toInt = x_3.toInt) (by omega) (by omega)) rfl dX9_readRun_21 ?_
        refine lv_topi (fun z_31 ez_31 => ?_)
        have hz_31 := Rg.at hR0 ez_31 (by have := o_cl (rfl : x_3.toInt = x_3.toInt) (by omega); omega) (by have := o_cl (rfl : x_3.toInt = x_3.toInt) (by omega); omega)
        have hq_31 : Pk t_bytes t_length.toInt x_3.toInt = z_31.toInt := ld_Pk ez_31 (by omega) (by omega) (by omega) (by omega)
        refine q_ai (wr := [(t, .inr (9, [.ref t_bytes_, .int t_length, .int t_kind, .int t_place, .int t_size, .int x_2, .int t_word, .int t_faultKind, .int t_faultPlace, .int t_limit, .int x_3])), (t_bytes_, .inl (cy 1, 940, .inl t_bytes))]) (r_S (rm := (Rm 0 0 0 0)) (As := [.int z_31]) (rest := []) (wc := []) C hS (q_subP hP [] rfl) (hD.sub [] (by decide) rfl) (o_isLetter l D cy z_31 _ ) kwS_X9_isLetter kM_RX9_59 ⟨Nat.le_of_ble_eq_true rfl, Nat.le_of_ble_eq_true rfl⟩ rfl hl.1 rfl (Nat.le_of_ble_eq_true rfl) dX9_readRun_22 ⟨hroom.1, hroom.2⟩) C.2.2.2.2.2.2.1 hP hD hS [] [0, 1] rfl rfl (by decide) (by decide) (fun r_34 u_33 H locs hw_35 hP hD hS => ?_)
        have hp_35 : 0 ≤ r_34.toInt ∧ r_34.toInt ≤ 1 := hw_35.1
        have hp_36 : Hd ((r_34.toInt = 1 ∧ (97 ≤ z_31.toInt ∧ z_31.toInt ≤ 122)) ∨ (r_34.toInt = 0 ∧ ¬ (97 ≤ z_31.toInt ∧ z_31.toInt ≤ 122))) := hw_35.2
        refine lv_if_ne (tgt := 43) hx hb dX9_readRun_25 (by decide) (fun c_38 => ?_) (fun c_38 => ?_)
        · have hc_38 := o_ne (rfl : r_34.toInt = r_34.toInt) (by decide : (0 : Int32).toInt = 0) c_38
          have hnc_38 : 0 ≤ r_34.toInt + (-1) := by rcases Int.lt_or_gt_of_ne hc_38 with h9 | h9 <;> omega
          have hd_38 : Hd (r_34.toInt = 1 ∧ (97 ≤ z_31.toInt ∧ z_31.toInt ≤ 122)) := (Hd.un hp_36).resolve_right (fun z9 => by omega)
          have hd_38_0 : r_34.toInt = 1 := (Hd.un hd_38).1
          refine lv_aload_n hx hb dX9_readRun_43 rfl (lv_at hl 0 rfl) ?_
          refine q_get (v := .ref t_bytes_) C hP 0 0 rfl rfl inX9 (by decide) kF_RX9_9 rfl rfl dX9_readRun_44 ?_
          refine lv_aload_n hx hb dX9_readRun_47 rfl (lv_at hl 0 rfl) ?_
          refine q_get (v := .int x_3) C hP 0 10 rfl rfl inX9 (by decide) kF_RX9_43 rfl rfl dX9_readRun_48 ?_
          refine q_iald (v := z_31) C hP 1 rfl (o_in (rfl : x_3.toInt = x_3.toInt) (by omega) (by omega)) ez_31.symm dX9_readRun_51 ?_
          refine q_ai (wr := [(t, .inr (9, [.ref t_bytes_, .int t_length, .int t_kind, .int t_place, .int t_size, .int x_2, .int t_word, .int t_faultKind, .int t_faultPlace, .int t_limit, .int x_3])), (t_bytes_, .inl (cy 1, 940, .inl t_bytes))]) (r_S (rm := (Rm 0 0 0 0)) (As := [.int z_31]) (rest := []) (wc := []) C hS (q_subP hP [] rfl) (hD.sub [] (by decide) rfl) (o_isLetter l D cy z_31 _ ) kwS_X9_isLetter kM_RX9_59 ⟨Nat.le_of_ble_eq_true rfl, Nat.le_of_ble_eq_true rfl⟩ rfl hl.1 rfl (Nat.le_of_ble_eq_true rfl) dX9_readRun_52 ⟨hroom.1, hroom.2⟩) C.2.2.2.2.2.2.1 hP hD hS [] [0, 1] rfl rfl (by decide) (by decide) (fun r_41 u_40 H locs hw_42 hP hD hS => ?_)
          have hp_42 : 0 ≤ r_41.toInt ∧ r_41.toInt ≤ 1 := hw_42.1
          have hp_43 : Hd ((r_41.toInt = 1 ∧ (97 ≤ z_31.toInt ∧ z_31.toInt ≤ 122)) ∨ (r_41.toInt = 0 ∧ ¬ (97 ≤ z_31.toInt ∧ z_31.toInt ≤ 122))) := hw_42.2
          refine lv_if_eq (tgt := 64) hx hb dX9_readRun_55 (by decide) (fun c_45 => ?_) (fun c_45 => ?_)
          · have hc_45 := o_eq (rfl : r_41.toInt = r_41.toInt) (by decide : (0 : Int32).toInt = 0) c_45
            have hd_45 : Hd (r_41.toInt = 0 ∧ ¬ (97 ≤ z_31.toInt ∧ z_31.toInt ≤ 122)) := (Hd.un hp_43).resolve_left (fun z9 => by omega)
            have hd_45_0 : r_41.toInt = 0 := (Hd.un hd_45).1
            refine lv_aload_n hx hb dX9_readRun_64 rfl (lv_at hl 0 rfl) ?_
            refine lv_aload_n hx hb dX9_readRun_65 rfl (lv_at hl 0 rfl) ?_
            refine q_get (v := .int x_2) C hP 0 5 rfl rfl inX9 (by decide) kF_RX9_28 rfl rfl dX9_readRun_66 ?_
            refine lv_bipush (v := 10) hx hb dX9_readRun_69 (by decide) ?_
            refine lv_imul hx hb dX9_readRun_71 ?_
            refine lv_topi (fun z_47 hz_47 => ?_)
            have dz_47 := hz_47
            clear hz_47
            refine lv_aload_n hx hb dX9_readRun_72 rfl (lv_at hl 0 rfl) ?_
            refine q_get (v := .ref t_bytes_) C hP 0 0 rfl rfl inX9 (by decide) kF_RX9_9 rfl rfl dX9_readRun_73 ?_
            refine lv_aload_n hx hb dX9_readRun_76 rfl (lv_at hl 0 rfl) ?_
            refine q_get (v := .int x_3) C hP 0 10 rfl rfl inX9 (by decide) kF_RX9_43 rfl rfl dX9_readRun_77 ?_
            refine q_iald (v := z_31) C hP 1 rfl (o_in (rfl : x_3.toInt = x_3.toInt) (by omega) (by omega)) ez_31.symm dX9_readRun_80 ?_
            refine lv_iadd hx hb dX9_readRun_81 ?_
            refine lv_topi (fun z_48 hz_48 => ?_)
            have dz_48 := hz_48
            clear hz_48
            refine lv_bipush (v := 48) hx hb dX9_readRun_82 (by decide) ?_
            refine lv_isub hx hb dX9_readRun_84 ?_
            refine lv_topi (fun z_49 hz_49 => ?_)
            have dz_49 := hz_49
            clear hz_49
            refine q_put (v := .int z_49) (w' := [(t, .inr (9, [.ref t_bytes_, .int t_length, .int t_kind, .int t_place, .int t_size, .int z_49, .int t_word, .int t_faultKind, .int t_faultPlace, .int t_limit, .int x_3])), (t_bytes_, .inl (cy 1, 940, .inl t_bytes))]) (ty := .int) C hP hD hS 0 5 rfl rfl inX9 tyX9 tyX9_ok nmX9 (by decide) kF_RX9_28 rfl rfl rfl rfl rfl (Nat.le_of_ble_eq_true rfl) rfl dX9_readRun_85 (fun H locs hP hD hS => ?_)
            refine lv_aload_n hx hb dX9_readRun_88 rfl (lv_at hl 0 rfl) ?_
            refine lv_dup hx hb dX9_readRun_89 rfl ?_
            refine q_get (v := .int x_3) C hP 0 10 rfl rfl inX9 (by decide) kF_RX9_43 rfl rfl dX9_readRun_90 ?_
            refine lv_iconst (v := 1) hx hb dX9_readRun_93 (by decide) ?_
            refine lv_iadd hx hb dX9_readRun_94 ?_
            refine lv_topi (fun z_50 hz_50 => ?_)
            have dz_50 := hz_50
            have hz_50 := o_add hz_50 (rfl : x_3.toInt = x_3.toInt) (by decide : (1 : Int32).toInt = 1) (by omega) (by omega)
            refine q_put (v := .int z_50) (w' := [(t, .inr (9, [.ref t_bytes_, .int t_length, .int t_kind, .int t_place, .int t_size, .int z_49, .int t_word, .int t_faultKind, .int t_faultPlace, .int t_limit, .int z_50])), (t_bytes_, .inl (cy 1, 940, .inl t_bytes))]) (ty := .int) C hP hD hS 0 10 rfl rfl inX9 tyX9 tyX9_ok nmX9 (by decide) kF_RX9_43 rfl rfl rfl rfl rfl (Nat.le_of_ble_eq_true rfl) rfl dX9_readRun_95 (fun H locs hP hD hS => ?_)
            have hq_50 : wh aln (Pk t_bytes t_length.toInt) t_length.toInt t_place.toInt = wh aln (Pk t_bytes t_length.toInt) t_length.toInt z_50.toInt := wh_next hf_10 (by omega) (by unfold aln; rw [hq_31]; exact decide_eq_true (by omega)) (by omega)
            have hq_51 : x_1.toInt = ltr (Pk t_bytes t_length.toInt) t_place.toInt (z_50.toInt - t_place.toInt).toNat := ltr_step hf_11 (by omega) (by omega) hq_31 (by omega) (by omega)
            have hq_52 : Vl (Pk t_bytes t_length.toInt) t_place.toInt (z_50.toInt - t_place.toInt) x_1.toInt z_49.toInt := Vl.digit (p := x_3.toInt) hf_12 (by omega) (by omega) hq_31 rfl (by omega) (by omega) dz_47 dz_48 dz_49 (by omega)
            refine lv_goto (tgt := 2) hx hb dX9_readRun_98 (by decide) ?_
            exact ih_14 x_1 z_49 z_50 H locs ls (by omega) (by omega) (by omega) (by omega) (by omega) (by omega) hq_50 hq_51 hq_52 hP hD hS (lv_sub hl [0, 1] rfl)
          · have hc_45 := o_ne (rfl : r_41.toInt = r_41.toInt) (by decide : (0 : Int32).toInt = 0) c_45
            have hnc_45 : 0 ≤ r_41.toInt + (-1) := by rcases Int.lt_or_gt_of_ne hc_45 with h9 | h9 <;> omega
            have hd_53 : Hd (r_41.toInt = 1 ∧ (97 ≤ z_31.toInt ∧ z_31.toInt ≤ 122)) := (Hd.un hp_43).resolve_right (fun z9 => by omega)
            have hd_53_0 : r_41.toInt = 1 := (Hd.un hd_53).1
            obtain ⟨z_55, hz_55⟩ : ∃ z : Int32, z = x_1 + 1 := ⟨_, rfl⟩
            refine lv_iinc (v := z_55) (lv' := [(1, .int z_55), (0, .ref t)]) hx hb dX9_readRun_58 hl (k := 1) rfl hz_55.symm (by decide) rfl (fun ls hl => ?_)
            have hz_55 := o_add hz_55 (rfl : x_1.toInt = x_1.toInt) (by decide : (1 : Int32).toInt = 1) (by omega) (by omega)
            refine lv_goto (tgt := 88) hx hb dX9_readRun_61 (by decide) ?_
            refine lv_aload_n hx hb dX9_readRun_88 rfl (lv_at hl 1 rfl) ?_
            refine lv_dup hx hb dX9_readRun_89 rfl ?_
            refine q_get (v := .int x_3) C hP 0 10 rfl rfl inX9 (by decide) kF_RX9_43 rfl rfl dX9_readRun_90 ?_
            refine lv_iconst (v := 1) hx hb dX9_readRun_93 (by decide) ?_
            refine lv_iadd hx hb dX9_readRun_94 ?_
            refine lv_topi (fun z_56 hz_56 => ?_)
            have dz_56 := hz_56
            have hz_56 := o_add hz_56 (rfl : x_3.toInt = x_3.toInt) (by decide : (1 : Int32).toInt = 1) (by omega) (by omega)
            refine q_put (v := .int z_56) (w' := [(t, .inr (9, [.ref t_bytes_, .int t_length, .int t_kind, .int t_place, .int t_size, .int x_2, .int t_word, .int t_faultKind, .int t_faultPlace, .int t_limit, .int z_56])), (t_bytes_, .inl (cy 1, 940, .inl t_bytes))]) (ty := .int) C hP hD hS 0 10 rfl rfl inX9 tyX9 tyX9_ok nmX9 (by decide) kF_RX9_43 rfl rfl rfl rfl rfl (Nat.le_of_ble_eq_true rfl) rfl dX9_readRun_95 (fun H locs hP hD hS => ?_)
            have hq_56 : wh aln (Pk t_bytes t_length.toInt) t_length.toInt t_place.toInt = wh aln (Pk t_bytes t_length.toInt) t_length.toInt z_56.toInt := wh_next hf_10 (by omega) (by unfold aln; rw [hq_31]; exact decide_eq_true (by omega)) (by omega)
            have hq_57 : z_55.toInt = ltr (Pk t_bytes t_length.toInt) t_place.toInt (z_56.toInt - t_place.toInt).toNat := ltr_step hf_11 (by omega) (by omega) hq_31 (by omega) (by omega)
            have hq_58 : Vl (Pk t_bytes t_length.toInt) t_place.toInt (z_56.toInt - t_place.toInt) z_55.toInt x_2.toInt := Vl.letter (by omega)
            refine lv_goto (tgt := 2) hx hb dX9_readRun_98 (by decide) ?_
            exact ih_14 z_55 x_2 z_56 H locs ls (by omega) (by omega) (by omega) (by omega) (by omega) (by omega) hq_56 hq_57 hq_58 hP hD hS (lv_sub hl [1, 0] rfl)
        · have hc_38 := o_eq (rfl : r_34.toInt = r_34.toInt) (by decide : (0 : Int32).toInt = 0) c_38
          have hd_59 : Hd (r_34.toInt = 0 ∧ ¬ (97 ≤ z_31.toInt ∧ z_31.toInt ≤ 122)) := (Hd.un hp_36).resolve_left (fun z9 => by omega)
          have hd_59_0 : r_34.toInt = 0 := (Hd.un hd_59).1
          refine lv_aload_n hx hb dX9_readRun_28 rfl (lv_at hl 0 rfl) ?_
          refine q_get (v := .ref t_bytes_) C hP 0 0 rfl rfl inX9 (by decide) kF_RX9_9 rfl rfl dX9_readRun_29 ?_
          refine lv_aload_n hx hb dX9_readRun_32 rfl (lv_at hl 0 rfl) ?_
          refine q_get (v := .int x_3) C hP 0 10 rfl rfl inX9 (by decide) kF_RX9_43 rfl rfl dX9_readRun_33 ?_
          refine q_iald (v := z_31) C hP 1 rfl (o_in (rfl : x_3.toInt = x_3.toInt) (by omega) (by omega)) ez_31.symm dX9_readRun_36 ?_
          refine q_ai (wr := [(t, .inr (9, [.ref t_bytes_, .int t_length, .int t_kind, .int t_place, .int t_size, .int x_2, .int t_word, .int t_faultKind, .int t_faultPlace, .int t_limit, .int x_3])), (t_bytes_, .inl (cy 1, 940, .inl t_bytes))]) (r_S (rm := (Rm 0 0 0 0)) (As := [.int z_31]) (rest := []) (wc := []) C hS (q_subP hP [] rfl) (hD.sub [] (by decide) rfl) (o_isDigit l D cy z_31 _ ) kwS_X9_isDigit kM_RX9_62 ⟨Nat.le_of_ble_eq_true rfl, Nat.le_of_ble_eq_true rfl⟩ rfl hl.1 rfl (Nat.le_of_ble_eq_true rfl) dX9_readRun_37 ⟨hroom.1, hroom.2⟩) C.2.2.2.2.2.2.1 hP hD hS [] [0, 1] rfl rfl (by decide) (by decide) (fun r_62 u_61 H locs hw_63 hP hD hS => ?_)
          have hp_63 : 0 ≤ r_62.toInt ∧ r_62.toInt ≤ 1 := hw_63.1
          have hp_64 : Hd ((r_62.toInt = 1 ∧ (48 ≤ z_31.toInt ∧ z_31.toInt ≤ 57)) ∨ (r_62.toInt = 0 ∧ ¬ (48 ≤ z_31.toInt ∧ z_31.toInt ≤ 57))) := hw_63.2
          refine lv_if_eq (tgt := 101) hx hb dX9_readRun_40 (by decide) (fun c_66 => ?_) (fun c_66 => ?_)
          · have hc_66 := o_eq (rfl : r_62.toInt = r_62.toInt) (by decide : (0 : Int32).toInt = 0) c_66
            have hd_66 : Hd (r_62.toInt = 0 ∧ ¬ (48 ≤ z_31.toInt ∧ z_31.toInt ≤ 57)) := (Hd.un hp_64).resolve_left (fun z9 => by omega)
            have hd_66_0 : r_62.toInt = 0 := (Hd.un hd_66).1
            have hq_67 : wh aln (Pk t_bytes t_length.toInt) t_length.toInt t_place.toInt = x_3.toInt := hf_10.trans (wh_stop (by unfold aln; rw [hq_31]; exact decide_eq_false (by omega)))
            have hq_68 : t_place.toInt + 1 ≤ x_3.toInt := wh_pos hq_67 (by omega) hX0
            refine lv_aload_n hx hb dX9_readRun_101 rfl (lv_at hl 0 rfl) ?_
            refine lv_aload_n hx hb dX9_readRun_102 rfl (lv_at hl 0 rfl) ?_
            refine q_get (v := .int x_3) C hP 0 10 rfl rfl inX9 (by decide) kF_RX9_43 rfl rfl dX9_readRun_103 ?_
            refine lv_aload_n hx hb dX9_readRun_106 rfl (lv_at hl 0 rfl) ?_
            refine q_get (v := .int t_place) C hP 0 3 rfl rfl inX9 (by decide) kF_RX9_22 rfl rfl dX9_readRun_107 ?_
            refine lv_isub hx hb dX9_readRun_110 ?_
            refine lv_topi (fun z_70 hz_70 => ?_)
            have dz_70 := hz_70
            have hz_70 := o_sub hz_70 (rfl : x_3.toInt = x_3.toInt) (rfl : t_place.toInt = t_place.toInt) (by omega) (by omega)
            refine q_put (v := .int z_70) (w' := [(t, .inr (9, [.ref t_bytes_, .int t_length, .int t_kind, .int t_place, .int z_70, .int x_2, .int t_word, .int t_faultKind, .int t_faultPlace, .int t_limit, .int x_3])), (t_bytes_, .inl (cy 1, 940, .inl t_bytes))]) (ty := .int) C hP hD hS 0 4 rfl rfl inX9 tyX9 tyX9_ok nmX9 (by decide) kF_RX9_25 rfl rfl rfl rfl rfl (Nat.le_of_ble_eq_true rfl) rfl dX9_readRun_111 (fun H locs hP hD hS => ?_)
            refine lv_aload_n hx hb dX9_readRun_114 rfl (lv_at hl 0 rfl) ?_
            refine lv_iconst (v := (-1)) hx hb dX9_readRun_115 (by decide) ?_
            refine q_put (v := .int (-1)) (w' := [(t, .inr (9, [.ref t_bytes_, .int t_length, .int (-1), .int t_place, .int z_70, .int x_2, .int t_word, .int t_faultKind, .int t_faultPlace, .int t_limit, .int x_3])), (t_bytes_, .inl (cy 1, 940, .inl t_bytes))]) (ty := .int) C hP hD hS 0 2 rfl rfl inX9 tyX9 tyX9_ok nmX9 (by decide) kF_RX9_19 rfl rfl rfl rfl rfl (Nat.le_of_ble_eq_true rfl) rfl dX9_readRun_116 (fun H locs hP hD hS => ?_)
            refine lv_iload_n hx hb dX9_readRun_119 rfl (lv_at hl 1 rfl) ?_
            refine lv_if_ne (tgt := 139) hx hb dX9_readRun_120 (by decide) (fun c_71 => ?_) (fun c_71 => ?_)
            · have hc_71 := o_ne (rfl : x_1.toInt = x_1.toInt) (by decide : (0 : Int32).toInt = 0) c_71
              have hnc_71 : 0 ≤ x_1.toInt + (-1) := by rcases Int.lt_or_gt_of_ne hc_71 with h9 | h9 <;> omega
              refine lv_iload_n hx hb dX9_readRun_139 rfl (lv_at hl 1 rfl) ?_
              refine lv_aload_n hx hb dX9_readRun_140 rfl (lv_at hl 0 rfl) ?_
              refine q_get (v := .int z_70) C hP 0 4 rfl rfl inX9 (by decide) kF_RX9_25 rfl rfl dX9_readRun_141 ?_
              refine lv_icmp_ne (tgt := 169) hx hb dX9_readRun_144 (by decide) (fun c_72 => ?_) (fun c_72 => ?_)
              · have hc_72 := o_ne (rfl : x_1.toInt = x_1.toInt) (rfl : z_70.toInt = z_70.toInt) c_72
                have hnc_72 : 0 ≤ z_70.toInt + (-1) * x_1.toInt + (-1) := by rcases Int.lt_or_gt_of_ne hc_72 with h9 | h9 <;> omega
                refine o_wq hQ ?_
                exact q_vret (rm := (Rm 5 107 0 0)) C hS ((-1), z_70, x_2, t_word, x_3) ⟨(show (-900) ≤ z_70.toInt ∧ z_70.toInt ≤ 940 by omega), (show 0 ≤ x_3.toInt ∧ x_3.toInt ≤ 940 by omega), (show Tr (Pk t_bytes t_length.toInt) t_length.toInt t_place.toInt ((-1) : Int32).toInt z_70.toInt x_2.toInt t_word.toInt x_3.toInt from (Tr.of (letters := x_1.toInt) hq_67 (by omega) (by omega) (by rw [show z_70.toInt = x_3.toInt - t_place.toInt by omega]; exact hf_11) (by rw [show z_70.toInt = x_3.toInt - t_place.toInt by omega]; exact hf_12) (Or.inr (Or.inr ⟨by omega, by omega, by decide, by omega⟩))))⟩ (q_subP hP [0, 1] rfl) (hD.sub [0, 1] (by decide) rfl) hroom.1 hroom.2 dX9_readRun_169
              · have hc_72 := o_eq (rfl : x_1.toInt = x_1.toInt) (rfl : z_70.toInt = z_70.toInt) c_72
                refine lv_aload_n hx hb dX9_readRun_147 rfl (lv_at hl 0 rfl) ?_
                refine q_get (v := .int z_70) C hP 0 4 rfl rfl inX9 (by decide) kF_RX9_25 rfl rfl dX9_readRun_148 ?_
                refine lv_bipush (v := 7) hx hb dX9_readRun_151 (by decide) ?_
                refine lv_icmp_gt (tgt := 169) hx hb dX9_readRun_153 (by decide) (fun c_73 => ?_) (fun c_73 => ?_)
                · have hc_73 := o_lt (by decide : (7 : Int32).toInt = 7) (rfl : z_70.toInt = z_70.toInt) c_73
                  refine o_wq hQ ?_
                  exact q_vret (rm := (Rm 5 107 0 0)) C hS ((-1), z_70, x_2, t_word, x_3) ⟨(show (-900) ≤ z_70.toInt ∧ z_70.toInt ≤ 940 by omega), (show 0 ≤ x_3.toInt ∧ x_3.toInt ≤ 940 by omega), (show Tr (Pk t_bytes t_length.toInt) t_length.toInt t_place.toInt ((-1) : Int32).toInt z_70.toInt x_2.toInt t_word.toInt x_3.toInt from (Tr.of (letters := x_1.toInt) hq_67 (by omega) (by omega) (by rw [show z_70.toInt = x_3.toInt - t_place.toInt by omega]; exact hf_11) (by rw [show z_70.toInt = x_3.toInt - t_place.toInt by omega]; exact hf_12) (Or.inr (Or.inr ⟨by omega, by omega, by decide, by omega⟩))))⟩ (q_subP hP [0, 1] rfl) (hD.sub [0, 1] (by decide) rfl) hroom.1 hroom.2 dX9_readRun_169
                · have hc_73 := o_nlt (by decide : (7 : Int32).toInt = 7) (rfl : z_70.toInt = z_70.toInt) c_73
                  refine lv_aload_n hx hb dX9_readRun_156 rfl (lv_at hl 0 rfl) ?_
                  refine lv_iconst (v := 1) hx hb dX9_readRun_157 (by decide) ?_
                  refine q_put (v := .int 1) (w' := [(t, .inr (9, [.ref t_bytes_, .int t_length, .int 1, .int t_place, .int z_70, .int x_2, .int t_word, .int t_faultKind, .int t_faultPlace, .int t_limit, .int x_3])), (t_bytes_, .inl (cy 1, 940, .inl t_bytes))]) (ty := .int) C hP hD hS 0 2 rfl rfl inX9 tyX9 tyX9_ok nmX9 (by decide) kF_RX9_19 rfl rfl rfl rfl rfl (Nat.le_of_ble_eq_true rfl) rfl dX9_readRun_158 (fun H locs hP hD hS => ?_)
                  refine lv_aload_n hx hb dX9_readRun_161 rfl (lv_at hl 0 rfl) ?_
                  refine lv_aload_n hx hb dX9_readRun_162 rfl (lv_at hl 0 rfl) ?_
                  have hq_73 : x_1.toInt = ltr (Pk t_bytes t_length.toInt) t_place.toInt z_70.toInt.toNat := by rw [show z_70.toInt = x_3.toInt - t_place.toInt by omega]; exact hf_11
                  have hq_74 : Lts (Pk t_bytes t_length.toInt) t_place.toInt z_70.toInt.toNat := ltr_all _ (by rw [← hq_73]; omega)
                  refine q_ai (wr := []) (r_V (rm := (Rm 4 85 0 0)) (q0 := 0) (As := []) (rest := [.ref t]) (wc := [(t, .inr (9, [.ref t_bytes_, .int t_length, .int 1, .int t_place, .int z_70, .int x_2, .int t_word, .int t_faultKind, .int t_faultPlace, .int t_limit, .int x_3])), (t_bytes_, .inl (cy 1, 940, .inl t_bytes))]) C hS (q_subP hP [0, 1] rfl) (hD.sub [0, 1] (by decide) rfl) (o_wordNumberX l D cy t t_bytes_ t_length 1 t_place z_70 x_2 t_word t_faultKind t_faultPlace t_limit x_3 t_bytes _ (by omega) (by omega) (by omega) (by omega) (by omega) (by have e0 : (1 : Int32).toInt = 1 := (by decide); omega) hR0 hq_74) kwV_X9_wordNumber kM_RX9_71 rfl rfl ⟨Nat.le_of_ble_eq_true rfl, Nat.le_of_ble_eq_true rfl⟩ rfl hl.1 rfl (Nat.le_of_ble_eq_true rfl) dX9_readRun_163 ⟨hroom.1, hroom.2⟩) C.2.2.2.2.2.2.1 hP hD hS [0, 1] [] rfl rfl (by decide) (by decide) (fun r_77 u_76 H locs hw_78 hP hD hS => ?_)
                  have hp_78 : 0 ≤ r_77.toInt ∧ r_77.toInt ≤ 25 := hw_78.1
                  have hp_79 : r_77.toInt = wi (cod (Pk t_bytes t_length.toInt) t_place.toInt z_70.toInt.toNat) := hw_78.2
                  refine q_put (v := .int r_77) (w' := [(t, .inr (9, [.ref t_bytes_, .int t_length, .int 1, .int t_place, .int z_70, .int x_2, .int r_77, .int t_faultKind, .int t_faultPlace, .int t_limit, .int x_3])), (t_bytes_, .inl (cy 1, 940, .inl t_bytes))]) (ty := .int) C hP hD hS 0 6 rfl rfl inX9 tyX9 tyX9_ok nmX9 (by decide) kF_RX9_31 rfl rfl rfl rfl rfl (Nat.le_of_ble_eq_true rfl) rfl dX9_readRun_166 (fun H locs hP hD hS => ?_)
                  refine o_wq hQ ?_
                  exact q_vret (rm := (Rm 5 107 0 0)) C hS (1, z_70, x_2, r_77, x_3) ⟨(show (-900) ≤ z_70.toInt ∧ z_70.toInt ≤ 940 by omega), (show 0 ≤ x_3.toInt ∧ x_3.toInt ≤ 940 by omega), (show Tr (Pk t_bytes t_length.toInt) t_length.toInt t_place.toInt (1 : Int32).toInt z_70.toInt x_2.toInt r_77.toInt x_3.toInt from (Tr.of (letters := x_1.toInt) hq_67 (by omega) (by omega) (by rw [show z_70.toInt = x_3.toInt - t_place.toInt by omega]; exact hf_11) (by rw [show z_70.toInt = x_3.toInt - t_place.toInt by omega]; exact hf_12) (Or.inr (Or.inl ⟨by omega, by omega, by omega, by decide, hp_79⟩))))⟩ (q_subP hP [0, 1] rfl) (hD.sub [0, 1] (by decide) rfl) hroom.1 hroom.2 dX9_readRun_169
            · have hc_71 := o_eq (rfl : x_1.toInt = x_1.toInt) (by decide : (0 : Int32).toInt = 0) c_71
              refine lv_aload_n hx hb dX9_readRun_123 rfl (lv_at hl 0 rfl) ?_
              refine q_get (v := .int z_70) C hP 0 4 rfl rfl inX9 (by decide) kF_RX9_25 rfl rfl dX9_readRun_124 ?_
              refine lv_iconst (v := 3) hx hb dX9_readRun_127 (by decide) ?_
              refine lv_icmp_gt (tgt := 139) hx hb dX9_readRun_128 (by decide) (fun c_81 => ?_) (fun c_81 => ?_)
              · have hc_81 := o_lt (by decide : (3 : Int32).toInt = 3) (rfl : z_70.toInt = z_70.toInt) c_81
                refine lv_iload_n hx hb dX9_readRun_139 rfl (lv_at hl 1 rfl) ?_
                refine lv_aload_n hx hb dX9_readRun_140 rfl (lv_at hl 0 rfl) ?_
                refine q_get (v := .int z_70) C hP 0 4 rfl rfl inX9 (by decide) kF_RX9_25 rfl rfl dX9_readRun_141 ?_
                refine lv_icmp_ne (tgt := 169) hx hb dX9_readRun_144 (by decide) (fun _ => ?_) (fun c_0 => absurd c_0 (o_mne (rfl : x_1.toInt = x_1.toInt) (rfl : z_70.toInt = z_70.toInt) (by omega)))
                refine o_wq hQ ?_
                exact q_vret (rm := (Rm 5 107 0 0)) C hS ((-1), z_70, x_2, t_word, x_3) ⟨(show (-900) ≤ z_70.toInt ∧ z_70.toInt ≤ 940 by omega), (show 0 ≤ x_3.toInt ∧ x_3.toInt ≤ 940 by omega), (show Tr (Pk t_bytes t_length.toInt) t_length.toInt t_place.toInt ((-1) : Int32).toInt z_70.toInt x_2.toInt t_word.toInt x_3.toInt from (Tr.of (letters := x_1.toInt) hq_67 (by omega) (by omega) (by rw [show z_70.toInt = x_3.toInt - t_place.toInt by omega]; exact hf_11) (by rw [show z_70.toInt = x_3.toInt - t_place.toInt by omega]; exact hf_12) (Or.inr (Or.inr ⟨by omega, by omega, by decide, by omega⟩))))⟩ (q_subP hP [0, 1] rfl) (hD.sub [0, 1] (by decide) rfl) hroom.1 hroom.2 dX9_readRun_169
              · have hc_81 := o_nlt (by decide : (3 : Int32).toInt = 3) (rfl : z_70.toInt = z_70.toInt) c_81
                refine lv_aload_n hx hb dX9_readRun_131 rfl (lv_at hl 0 rfl) ?_
                refine lv_iconst (v := 2) hx hb dX9_readRun_132 (by decide) ?_
                refine q_put (v := .int 2) (w' := [(t, .inr (9, [.ref t_bytes_, .int t_length, .int 2, .int t_place, .int z_70, .int x_2, .int t_word, .int t_faultKind, .int t_faultPlace, .int t_limit, .int x_3])), (t_bytes_, .inl (cy 1, 940, .inl t_bytes))]) (ty := .int) C hP hD hS 0 2 rfl rfl inX9 tyX9 tyX9_ok nmX9 (by decide) kF_RX9_19 rfl rfl rfl rfl rfl (Nat.le_of_ble_eq_true rfl) rfl dX9_readRun_133 (fun H locs hP hD hS => ?_)
                refine lv_goto (tgt := 169) hx hb dX9_readRun_136 (by decide) ?_
                refine o_wq hQ ?_
                exact q_vret (rm := (Rm 5 107 0 0)) C hS (2, z_70, x_2, t_word, x_3) ⟨(show (-900) ≤ z_70.toInt ∧ z_70.toInt ≤ 940 by omega), (show 0 ≤ x_3.toInt ∧ x_3.toInt ≤ 940 by omega), (show Tr (Pk t_bytes t_length.toInt) t_length.toInt t_place.toInt (2 : Int32).toInt z_70.toInt x_2.toInt t_word.toInt x_3.toInt from (Tr.of (letters := x_1.toInt) hq_67 (by omega) (by omega) (by rw [show z_70.toInt = x_3.toInt - t_place.toInt by omega]; exact hf_11) (by rw [show z_70.toInt = x_3.toInt - t_place.toInt by omega]; exact hf_12) (Or.inl ⟨by omega, by omega, by decide, by omega⟩)))⟩ (q_subP hP [0, 1] rfl) (hD.sub [0, 1] (by decide) rfl) hroom.1 hroom.2 dX9_readRun_169
          · have hc_66 := o_ne (rfl : r_62.toInt = r_62.toInt) (by decide : (0 : Int32).toInt = 0) c_66
            have hnc_66 : 0 ≤ r_62.toInt + (-1) := by rcases Int.lt_or_gt_of_ne hc_66 with h9 | h9 <;> omega
            have hd_81 : Hd (r_62.toInt = 1 ∧ (48 ≤ z_31.toInt ∧ z_31.toInt ≤ 57)) := (Hd.un hp_64).resolve_right (fun z9 => by omega)
            have hd_81_0 : r_62.toInt = 1 := (Hd.un hd_81).1
            refine lv_aload_n hx hb dX9_readRun_43 rfl (lv_at hl 0 rfl) ?_
            refine q_get (v := .ref t_bytes_) C hP 0 0 rfl rfl inX9 (by decide) kF_RX9_9 rfl rfl dX9_readRun_44 ?_
            refine lv_aload_n hx hb dX9_readRun_47 rfl (lv_at hl 0 rfl) ?_
            refine q_get (v := .int x_3) C hP 0 10 rfl rfl inX9 (by decide) kF_RX9_43 rfl rfl dX9_readRun_48 ?_
            refine q_iald (v := z_31) C hP 1 rfl (o_in (rfl : x_3.toInt = x_3.toInt) (by omega) (by omega)) ez_31.symm dX9_readRun_51 ?_
            refine q_ai (wr := [(t, .inr (9, [.ref t_bytes_, .int t_length, .int t_kind, .int t_place, .int t_size, .int x_2, .int t_word, .int t_faultKind, .int t_faultPlace, .int t_limit, .int x_3])), (t_bytes_, .inl (cy 1, 940, .inl t_bytes))]) (r_S (rm := (Rm 0 0 0 0)) (As := [.int z_31]) (rest := []) (wc := []) C hS (q_subP hP [] rfl) (hD.sub [] (by decide) rfl) (o_isLetter l D cy z_31 _ ) kwS_X9_isLetter kM_RX9_59 ⟨Nat.le_of_ble_eq_true rfl, Nat.le_of_ble_eq_true rfl⟩ rfl hl.1 rfl (Nat.le_of_ble_eq_true rfl) dX9_readRun_52 ⟨hroom.1, hroom.2⟩) C.2.2.2.2.2.2.1 hP hD hS [] [0, 1] rfl rfl (by decide) (by decide) (fun r_84 u_83 H locs hw_85 hP hD hS => ?_)
            have hp_85 : 0 ≤ r_84.toInt ∧ r_84.toInt ≤ 1 := hw_85.1
            have hp_86 : Hd ((r_84.toInt = 1 ∧ (97 ≤ z_31.toInt ∧ z_31.toInt ≤ 122)) ∨ (r_84.toInt = 0 ∧ ¬ (97 ≤ z_31.toInt ∧ z_31.toInt ≤ 122))) := hw_85.2
            refine lv_if_eq (tgt := 64) hx hb dX9_readRun_55 (by decide) (fun c_88 => ?_) (fun c_88 => ?_)
            · have hc_88 := o_eq (rfl : r_84.toInt = r_84.toInt) (by decide : (0 : Int32).toInt = 0) c_88
              have hd_88 : Hd (r_84.toInt = 0 ∧ ¬ (97 ≤ z_31.toInt ∧ z_31.toInt ≤ 122)) := (Hd.un hp_86).resolve_left (fun z9 => by omega)
              have hd_88_0 : r_84.toInt = 0 := (Hd.un hd_88).1
              refine lv_aload_n hx hb dX9_readRun_64 rfl (lv_at hl 0 rfl) ?_
              refine lv_aload_n hx hb dX9_readRun_65 rfl (lv_at hl 0 rfl) ?_
              refine q_get (v := .int x_2) C hP 0 5 rfl rfl inX9 (by decide) kF_RX9_28 rfl rfl dX9_readRun_66 ?_
              refine lv_bipush (v := 10) hx hb dX9_readRun_69 (by decide) ?_
              refine lv_imul hx hb dX9_readRun_71 ?_
              refine lv_topi (fun z_90 hz_90 => ?_)
              have dz_90 := hz_90
              clear hz_90
              refine lv_aload_n hx hb dX9_readRun_72 rfl (lv_at hl 0 rfl) ?_
              refine q_get (v := .ref t_bytes_) C hP 0 0 rfl rfl inX9 (by decide) kF_RX9_9 rfl rfl dX9_readRun_73 ?_
              refine lv_aload_n hx hb dX9_readRun_76 rfl (lv_at hl 0 rfl) ?_
              refine q_get (v := .int x_3) C hP 0 10 rfl rfl inX9 (by decide) kF_RX9_43 rfl rfl dX9_readRun_77 ?_
              refine q_iald (v := z_31) C hP 1 rfl (o_in (rfl : x_3.toInt = x_3.toInt) (by omega) (by omega)) ez_31.symm dX9_readRun_80 ?_
              refine lv_iadd hx hb dX9_readRun_81 ?_
              refine lv_topi (fun z_91 hz_91 => ?_)
              have dz_91 := hz_91
              clear hz_91
              refine lv_bipush (v := 48) hx hb dX9_readRun_82 (by decide) ?_
              refine lv_isub hx hb dX9_readRun_84 ?_
              refine lv_topi (fun z_92 hz_92 => ?_)
              have dz_92 := hz_92
              clear hz_92
              refine q_put (v := .int z_92) (w' := [(t, .inr (9, [.ref t_bytes_, .int t_length, .int t_kind, .int t_place, .int t_size, .int z_92, .int t_word, .int t_faultKind, .int t_faultPlace, .int t_limit, .int x_3])), (t_bytes_, .inl (cy 1, 940, .inl t_bytes))]) (ty := .int) C hP hD hS 0 5 rfl rfl inX9 tyX9 tyX9_ok nmX9 (by decide) kF_RX9_28 rfl rfl rfl rfl rfl (Nat.le_of_ble_eq_true rfl) rfl dX9_readRun_85 (fun H locs hP hD hS => ?_)
              refine lv_aload_n hx hb dX9_readRun_88 rfl (lv_at hl 0 rfl) ?_
              refine lv_dup hx hb dX9_readRun_89 rfl ?_
              refine q_get (v := .int x_3) C hP 0 10 rfl rfl inX9 (by decide) kF_RX9_43 rfl rfl dX9_readRun_90 ?_
              refine lv_iconst (v := 1) hx hb dX9_readRun_93 (by decide) ?_
              refine lv_iadd hx hb dX9_readRun_94 ?_
              refine lv_topi (fun z_93 hz_93 => ?_)
              have dz_93 := hz_93
              have hz_93 := o_add hz_93 (rfl : x_3.toInt = x_3.toInt) (by decide : (1 : Int32).toInt = 1) (by omega) (by omega)
              refine q_put (v := .int z_93) (w' := [(t, .inr (9, [.ref t_bytes_, .int t_length, .int t_kind, .int t_place, .int t_size, .int z_92, .int t_word, .int t_faultKind, .int t_faultPlace, .int t_limit, .int z_93])), (t_bytes_, .inl (cy 1, 940, .inl t_bytes))]) (ty := .int) C hP hD hS 0 10 rfl rfl inX9 tyX9 tyX9_ok nmX9 (by decide) kF_RX9_43 rfl rfl rfl rfl rfl (Nat.le_of_ble_eq_true rfl) rfl dX9_readRun_95 (fun H locs hP hD hS => ?_)
              have hq_93 : wh aln (Pk t_bytes t_length.toInt) t_length.toInt t_place.toInt = wh aln (Pk t_bytes t_length.toInt) t_length.toInt z_93.toInt := wh_next hf_10 (by omega) (by unfold aln; rw [hq_31]; exact decide_eq_true (by omega)) (by omega)
              have hq_94 : x_1.toInt = ltr (Pk t_bytes t_length.toInt) t_place.toInt (z_93.toInt - t_place.toInt).toNat := ltr_step hf_11 (by omega) (by omega) hq_31 (by omega) (by omega)
              have hq_95 : Vl (Pk t_bytes t_length.toInt) t_place.toInt (z_93.toInt - t_place.toInt) x_1.toInt z_92.toInt := Vl.digit (p := x_3.toInt) hf_12 (by omega) (by omega) hq_31 rfl (by omega) (by omega) dz_90 dz_91 dz_92 (by omega)
              refine lv_goto (tgt := 2) hx hb dX9_readRun_98 (by decide) ?_
              exact ih_14 x_1 z_92 z_93 H locs ls (by omega) (by omega) (by omega) (by omega) (by omega) (by omega) hq_93 hq_94 hq_95 hP hD hS (lv_sub hl [0, 1] rfl)
            · have hc_88 := o_ne (rfl : r_84.toInt = r_84.toInt) (by decide : (0 : Int32).toInt = 0) c_88
              have hnc_88 : 0 ≤ r_84.toInt + (-1) := by rcases Int.lt_or_gt_of_ne hc_88 with h9 | h9 <;> omega
              have hd_96 : Hd (r_84.toInt = 1 ∧ (97 ≤ z_31.toInt ∧ z_31.toInt ≤ 122)) := (Hd.un hp_86).resolve_right (fun z9 => by omega)
              have hd_96_0 : r_84.toInt = 1 := (Hd.un hd_96).1
              obtain ⟨z_98, hz_98⟩ : ∃ z : Int32, z = x_1 + 1 := ⟨_, rfl⟩
              refine lv_iinc (v := z_98) (lv' := [(1, .int z_98), (0, .ref t)]) hx hb dX9_readRun_58 hl (k := 1) rfl hz_98.symm (by decide) rfl (fun ls hl => ?_)
              have hz_98 := o_add hz_98 (rfl : x_1.toInt = x_1.toInt) (by decide : (1 : Int32).toInt = 1) (by omega) (by omega)
              refine lv_goto (tgt := 88) hx hb dX9_readRun_61 (by decide) ?_
              refine lv_aload_n hx hb dX9_readRun_88 rfl (lv_at hl 1 rfl) ?_
              refine lv_dup hx hb dX9_readRun_89 rfl ?_
              refine q_get (v := .int x_3) C hP 0 10 rfl rfl inX9 (by decide) kF_RX9_43 rfl rfl dX9_readRun_90 ?_
              refine lv_iconst (v := 1) hx hb dX9_readRun_93 (by decide) ?_
              refine lv_iadd hx hb dX9_readRun_94 ?_
              refine lv_topi (fun z_99 hz_99 => ?_)
              have dz_99 := hz_99
              have hz_99 := o_add hz_99 (rfl : x_3.toInt = x_3.toInt) (by decide : (1 : Int32).toInt = 1) (by omega) (by omega)
              refine q_put (v := .int z_99) (w' := [(t, .inr (9, [.ref t_bytes_, .int t_length, .int t_kind, .int t_place, .int t_size, .int x_2, .int t_word, .int t_faultKind, .int t_faultPlace, .int t_limit, .int z_99])), (t_bytes_, .inl (cy 1, 940, .inl t_bytes))]) (ty := .int) C hP hD hS 0 10 rfl rfl inX9 tyX9 tyX9_ok nmX9 (by decide) kF_RX9_43 rfl rfl rfl rfl rfl (Nat.le_of_ble_eq_true rfl) rfl dX9_readRun_95 (fun H locs hP hD hS => ?_)
              have hq_99 : wh aln (Pk t_bytes t_length.toInt) t_length.toInt t_place.toInt = wh aln (Pk t_bytes t_length.toInt) t_length.toInt z_99.toInt := wh_next hf_10 (by omega) (by unfold aln; rw [hq_31]; exact decide_eq_true (by omega)) (by omega)
              have hq_100 : z_98.toInt = ltr (Pk t_bytes t_length.toInt) t_place.toInt (z_99.toInt - t_place.toInt).toNat := ltr_step hf_11 (by omega) (by omega) hq_31 (by omega) (by omega)
              have hq_101 : Vl (Pk t_bytes t_length.toInt) t_place.toInt (z_99.toInt - t_place.toInt) z_98.toInt x_2.toInt := Vl.letter (by omega)
              refine lv_goto (tgt := 2) hx hb dX9_readRun_98 (by decide) ?_
              exact ih_14 z_98 x_2 z_99 H locs ls (by omega) (by omega) (by omega) (by omega) (by omega) (by omega) hq_99 hq_100 hq_101 hP hD hS (lv_sub hl [1, 0] rfl)
  exact lp_2_3 (((-1) * t_next.toInt + 940 : Int).toNat + 1) (0 : Int32) t_value t_next H locs ls (by have e0 : (0 : Int32).toInt = 0 := (by decide); omega) (by have e0 : (0 : Int32).toInt = 0 := (by decide); omega) (by have e0 : (0 : Int32).toInt = 0 := (by decide); omega) (by have e0 : (0 : Int32).toInt = 0 := (by decide); omega) (by have e0 : (0 : Int32).toInt = 0 := (by decide); omega) (by have e0 : (0 : Int32).toInt = 0 := (by decide); omega) (by rw [show t_next.toInt = t_place.toInt by omega]) (by rw [show (t_next.toInt - t_place.toInt).toNat = 0 by omega]; rfl) (Vl.zero (by omega) (by omega)) hP hD hS (lv_sub hl [1, 0] rfl)
theorem o_readRunX (l : Launch) (D : va_G) (cy : Nat → ClassId) (t : Nat) (t_bytes_ : Nat) (t_length : Int32) (t_kind : Int32) (t_place : Int32) (t_size : Int32) (t_value : Int32) (t_word : Int32) (t_faultKind : Int32) (t_faultPlace : Int32) (t_limit : Int32) (t_next : Int32) (t_bytes : Nat → Int32) (sz : Nat) (hb0 : 0 ≤ t_length.toInt ∧ t_length.toInt ≤ 940) (hb1 : 0 ≤ t_place.toInt ∧ t_place.toInt ≤ 900) (hb2 : (-900) ≤ t_size.toInt ∧ t_size.toInt ≤ 940) (hb3 : 0 ≤ t_limit.toInt ∧ t_limit.toInt ≤ 900) (hb4 : 0 ≤ t_next.toInt ∧ t_next.toInt ≤ 940) (hr1 : 0 ≤ t_value.toInt ∧ 0 ≤ (-1) * t_value.toInt ∧ 0 ≤ t_word.toInt ∧ 0 ≤ (-1) * t_word.toInt ∧ 0 ≤ t_next.toInt + (-1) * t_place.toInt ∧ 0 ≤ (-1) * t_next.toInt + t_place.toInt ∧ 0 ≤ t_place.toInt ∧ 0 ≤ t_length.toInt + (-1) * t_place.toInt + (-1)) (hR0 : Rg t_bytes 0 940 0 255) (hX0 : aln (Pk t_bytes t_length.toInt t_place.toInt) = true) : MV l yX9_readRun cX9_readRun 2 (Rm 5 107 0 0) D cy [.ref t] sz [(t, .inr (9, [.ref t_bytes_, .int t_length, .int t_kind, .int t_place, .int t_size, .int t_value, .int t_word, .int t_faultKind, .int t_faultPlace, .int t_limit, .int t_next])), (t_bytes_, .inl (cy 1, 940, .inl t_bytes))] (fun u : Int32 × Int32 × Int32 × Int32 × Int32 => ((-900) ≤ u.2.1.toInt ∧ u.2.1.toInt ≤ 940) ∧ (0 ≤ u.2.2.2.2.toInt ∧ u.2.2.2.2.toInt ≤ 940) ∧ (Tr (Pk t_bytes t_length.toInt) t_length.toInt t_place.toInt u.1.toInt u.2.1.toInt u.2.2.1.toInt u.2.2.2.1.toInt u.2.2.2.2.toInt)) (fun u : Int32 × Int32 × Int32 × Int32 × Int32 => [(t, .inr (9, [.ref t_bytes_, .int t_length, .int u.1, .int t_place, .int u.2.1, .int u.2.2.1, .int u.2.2.2.1, .int t_faultKind, .int t_faultPlace, .int t_limit, .int u.2.2.2.2])), (t_bytes_, .inl (cy 1, 940, .inl t_bytes))]) := by
  refine MV.enter (by decide) (Nat.le_of_ble_eq_true rfl) ?_
  intro p e s m below meth c ls A hsz hAe C hP hD hS hl
  exact b_o_readRunX l D cy t t_bytes_ t_length t_kind t_place t_size t_value t_word t_faultKind t_faultPlace t_limit t_next t_bytes hb0 hb1 hb2 hb3 hb4 hr1 hR0 hX0 ⟨Nat.le_of_ble_eq_true rfl, Nat.le_of_ble_eq_true rfl⟩ C rfl _ _ ls hP hD hS hl
set_option maxHeartbeats 4000000 in
set_option maxRecDepth 100000 in
theorem b_o_advanceX (l : Launch) (D : va_G) (cy : Nat → ClassId) (t : Nat) (t_bytes_ : Nat) (t_length : Int32) (t_kind : Int32) (t_place : Int32) (t_size : Int32) (t_value : Int32) (t_word : Int32) (t_faultKind : Int32) (t_faultPlace : Int32) (t_limit : Int32) (t_next : Int32) (t_bytes : Nat → Int32) (hb0 : 0 ≤ t_length.toInt ∧ t_length.toInt ≤ 940) (hb1 : 0 ≤ t_place.toInt ∧ t_place.toInt ≤ 900) (hb2 : (-900) ≤ t_size.toInt ∧ t_size.toInt ≤ 940) (hb3 : 0 ≤ t_limit.toInt ∧ t_limit.toInt ≤ 900) (hb4 : 0 ≤ t_next.toInt ∧ t_next.toInt ≤ 940) (ha1 : 0 ≤ t_length.toInt + (-1) * t_next.toInt ∧ 0 ≤ t_length.toInt + (-1) * t_limit.toInt ∧ 0 ≤ t_limit.toInt ∧ 0 ≤ t_next.toInt) (hR0 : Rg t_bytes 0 940 0 255) {p : Program} {e : Env} {s : State} {m : MethodId} {args : Array Value} {below : List Frame} {meth : Method} {c : Code} {A : Nat → Prop} {Q : State → Prop} {cells slots : Nat} (hroom : cells ≤ ((Rm 6 128 0 0)).cells ∧ slots ≤ ((Rm 6 128 0 0)).slots) (C : Cx p s m args meth c cX9_advance 1 none RX9 "advance" D cy A) (hQ : Q = MQ below (va_Qv (fun u : Int32 × Int32 × Int32 × Int32 × Int32 × Int32 => (0 ≤ u.2.1.toInt ∧ u.2.1.toInt ≤ 900) ∧ ((-900) ≤ u.2.2.1.toInt ∧ u.2.2.1.toInt ≤ 940) ∧ (0 ≤ u.2.2.2.2.2.toInt ∧ u.2.2.2.2.2.toInt ≤ 940) ∧ (Tc (Pk t_bytes t_length.toInt) t_length.toInt t_limit.toInt (wh blk (Pk t_bytes t_length.toInt) t_length.toInt t_next.toInt) u.1.toInt u.2.1.toInt u.2.2.1.toInt u.2.2.2.1.toInt u.2.2.2.2.1.toInt u.2.2.2.2.2.toInt)) (Bx D A (fun u : Int32 × Int32 × Int32 × Int32 × Int32 × Int32 => [(t, .inr (9, [.ref t_bytes_, .int t_length, .int u.1, .int u.2.1, .int u.2.2.1, .int u.2.2.2.1, .int u.2.2.2.2.1, .int t_faultKind, .int t_faultPlace, .int t_limit, .int u.2.2.2.2.2])), (t_bytes_, .inl (cy 1, 940, .inl t_bytes))])) A) args s ((Rm 6 128 0 0)).cells ((Rm 6 128 0 0)).slots A) (H : Heap) (locs : List Loc) (ls : Array Slot) (hP : va_P D vwCl [(t, .inr (9, [.ref t_bytes_, .int t_length, .int t_kind, .int t_place, .int t_size, .int t_value, .int t_word, .int t_faultKind, .int t_faultPlace, .int t_limit, .int t_next])), (t_bytes_, .inl (cy 1, 940, .inl t_bytes))] H) (hD : va_D A [(t, .inr (9, [.ref t_bytes_, .int t_length, .int t_kind, .int t_place, .int t_size, .int t_value, .int t_word, .int t_faultKind, .int t_faultPlace, .int t_limit, .int t_next])), (t_bytes_, .inl (cy 1, 940, .inl t_bytes))]) (hS : va_S A s.heap H locs) (hl : lv_has ls 1 [(0, .ref t)]) : W p l e (Rm 6 128 0 0) s m args below meth c H locs cells slots Q (F0 m 0 ls []) := by
  have hx := C.1
  have hb := C.2.1
  have lp_0_1 : ∀ (n_2 : Nat) (x_1 : Int32) (H : Heap) (locs : List Loc) (ls : Array Slot), (-1) * x_1.toInt + 940 < (n_2 : Int) → (0 ≤ x_1.toInt ∧ x_1.toInt ≤ 940) → (0 ≤ x_1.toInt) → (0 ≤ t_length.toInt + (-1) * x_1.toInt) → (wh blk (Pk t_bytes t_length.toInt) t_length.toInt t_next.toInt = wh blk (Pk t_bytes t_length.toInt) t_length.toInt x_1.toInt) → va_P D vwCl [(t, .inr (9, [.ref t_bytes_, .int t_length, .int t_kind, .int t_place, .int t_size, .int t_value, .int t_word, .int t_faultKind, .int t_faultPlace, .int t_limit, .int x_1])), (t_bytes_, .inl (cy 1, 940, .inl t_bytes))] H → va_D A [(t, .inr (9, [.ref t_bytes_, .int t_length, .int t_kind, .int t_place, .int t_size, .int t_value, .int t_word, .int t_faultKind, .int t_faultPlace, .int t_limit, .int x_1])), (t_bytes_, .inl (cy 1, 940, .inl t_bytes))] → va_S A s.heap H locs → lv_has ls 1 [(0, .ref t)] → W p l e (Rm 6 128 0 0) s m args below meth c H locs cells slots Q (F0 m 0 ls []) := by
    intro n_2
    induction n_2 with
    | zero =>
      intro x_1 H locs ls hm_7 hf_3 hf_4 hf_5 hf_6 hP hD hS hl
      exact absurd hm_7 (by omega)
    | succ n_2 ih_8 =>
      intro x_1 H locs ls hm_7 hf_3 hf_4 hf_5 hf_6 hP hD hS hl
      refine lv_aload_n hx hb dX9_advance_0 rfl (lv_at hl 0 rfl) ?_
      refine q_get (v := .int x_1) C hP 0 10 rfl rfl inX9 (by decide) kF_RX9_43 rfl rfl dX9_advance_1 ?_
      refine lv_aload_n hx hb dX9_advance_4 rfl (lv_at hl 0 rfl) ?_
      refine q_get (v := .int t_limit) C hP 0 9 rfl rfl inX9 (by decide) kF_RX9_40 rfl rfl dX9_advance_5 ?_
      refine lv_icmp_ge (tgt := 39) hx hb dX9_advance_8 (by decide) (fun c_10 => ?_) (fun c_10 => ?_)
      · have hc_10 := o_le (rfl : t_limit.toInt = t_limit.toInt) (rfl : x_1.toInt = x_1.toInt) c_10
        refine lv_aload_n hx hb dX9_advance_39 rfl (lv_at hl 0 rfl) ?_
        refine lv_iconst (v := 0) hx hb dX9_advance_40 (by decide) ?_
        refine q_put (v := .int 0) (w' := [(t, .inr (9, [.ref t_bytes_, .int t_length, .int t_kind, .int t_place, .int t_size, .int t_value, .int 0, .int t_faultKind, .int t_faultPlace, .int t_limit, .int x_1])), (t_bytes_, .inl (cy 1, 940, .inl t_bytes))]) (ty := .int) C hP hD hS 0 6 rfl rfl inX9 tyX9 tyX9_ok nmX9 (by decide) kF_RX9_31 rfl rfl rfl rfl rfl (Nat.le_of_ble_eq_true rfl) rfl dX9_advance_41 (fun H locs hP hD hS => ?_)
        refine lv_aload_n hx hb dX9_advance_44 rfl (lv_at hl 0 rfl) ?_
        refine lv_iconst (v := 0) hx hb dX9_advance_45 (by decide) ?_
        refine q_put (v := .int 0) (w' := [(t, .inr (9, [.ref t_bytes_, .int t_length, .int t_kind, .int t_place, .int t_size, .int 0, .int 0, .int t_faultKind, .int t_faultPlace, .int t_limit, .int x_1])), (t_bytes_, .inl (cy 1, 940, .inl t_bytes))]) (ty := .int) C hP hD hS 0 5 rfl rfl inX9 tyX9 tyX9_ok nmX9 (by decide) kF_RX9_28 rfl rfl rfl rfl rfl (Nat.le_of_ble_eq_true rfl) rfl dX9_advance_46 (fun H locs hP hD hS => ?_)
        refine lv_aload_n hx hb dX9_advance_49 rfl (lv_at hl 0 rfl) ?_
        refine lv_iconst (v := 0) hx hb dX9_advance_50 (by decide) ?_
        refine q_put (v := .int 0) (w' := [(t, .inr (9, [.ref t_bytes_, .int t_length, .int t_kind, .int t_place, .int 0, .int 0, .int 0, .int t_faultKind, .int t_faultPlace, .int t_limit, .int x_1])), (t_bytes_, .inl (cy 1, 940, .inl t_bytes))]) (ty := .int) C hP hD hS 0 4 rfl rfl inX9 tyX9 tyX9_ok nmX9 (by decide) kF_RX9_25 rfl rfl rfl rfl rfl (Nat.le_of_ble_eq_true rfl) rfl dX9_advance_51 (fun H locs hP hD hS => ?_)
        refine lv_aload_n hx hb dX9_advance_54 rfl (lv_at hl 0 rfl) ?_
        refine q_get (v := .int x_1) C hP 0 10 rfl rfl inX9 (by decide) kF_RX9_43 rfl rfl dX9_advance_55 ?_
        refine lv_aload_n hx hb dX9_advance_58 rfl (lv_at hl 0 rfl) ?_
        refine q_get (v := .int t_limit) C hP 0 9 rfl rfl inX9 (by decide) kF_RX9_40 rfl rfl dX9_advance_59 ?_
        refine lv_icmp_lt (tgt := 79) hx hb dX9_advance_62 (by decide) (fun c_0 => absurd c_0 (o_mnlt (rfl : x_1.toInt = x_1.toInt) (rfl : t_limit.toInt = t_limit.toInt) (by omega))) (fun _ => ?_)
        refine lv_aload_n hx hb dX9_advance_65 rfl (lv_at hl 0 rfl) ?_
        refine lv_aload_n hx hb dX9_advance_66 rfl (lv_at hl 0 rfl) ?_
        refine q_get (v := .int t_limit) C hP 0 9 rfl rfl inX9 (by decide) kF_RX9_40 rfl rfl dX9_advance_67 ?_
        refine q_put (v := .int t_limit) (w' := [(t, .inr (9, [.ref t_bytes_, .int t_length, .int t_kind, .int t_limit, .int 0, .int 0, .int 0, .int t_faultKind, .int t_faultPlace, .int t_limit, .int x_1])), (t_bytes_, .inl (cy 1, 940, .inl t_bytes))]) (ty := .int) C hP hD hS 0 3 rfl rfl inX9 tyX9 tyX9_ok nmX9 (by decide) kF_RX9_22 rfl rfl rfl rfl rfl (Nat.le_of_ble_eq_true rfl) rfl dX9_advance_70 (fun H locs hP hD hS => ?_)
        refine lv_aload_n hx hb dX9_advance_73 rfl (lv_at hl 0 rfl) ?_
        refine lv_iconst (v := 0) hx hb dX9_advance_74 (by decide) ?_
        refine q_put (v := .int 0) (w' := [(t, .inr (9, [.ref t_bytes_, .int t_length, .int 0, .int t_limit, .int 0, .int 0, .int 0, .int t_faultKind, .int t_faultPlace, .int t_limit, .int x_1])), (t_bytes_, .inl (cy 1, 940, .inl t_bytes))]) (ty := .int) C hP hD hS 0 2 rfl rfl inX9 tyX9 tyX9_ok nmX9 (by decide) kF_RX9_19 rfl rfl rfl rfl rfl (Nat.le_of_ble_eq_true rfl) rfl dX9_advance_75 (fun H locs hP hD hS => ?_)
        refine o_wq hQ ?_
        exact q_vret (rm := (Rm 6 128 0 0)) C hS (0, t_limit, 0, 0, 0, x_1) ⟨(show 0 ≤ t_limit.toInt ∧ t_limit.toInt ≤ 900 by omega), (show (-900) ≤ (0 : Int32).toInt ∧ (0 : Int32).toInt ≤ 940 by decide), (show 0 ≤ x_1.toInt ∧ x_1.toInt ≤ 940 by omega), (show Tc (Pk t_bytes t_length.toInt) t_length.toInt t_limit.toInt (wh blk (Pk t_bytes t_length.toInt) t_length.toInt t_next.toInt) (0 : Int32).toInt t_limit.toInt (0 : Int32).toInt (0 : Int32).toInt (0 : Int32).toInt x_1.toInt from (Tc.done (by omega) (wh_le (by omega)) (by omega) (by rw [hf_6]; exact Int.le_trans (by omega) wh_ge) (by omega) (by omega) (by decide) rfl (by decide)))⟩ (q_subP hP [0, 1] rfl) (hD.sub [0, 1] (by decide) rfl) hroom.1 hroom.2 dX9_advance_78
      · have hc_10 := o_nle (rfl : t_limit.toInt = t_limit.toInt) (rfl : x_1.toInt = x_1.toInt) c_10
        refine lv_aload_n hx hb dX9_advance_11 rfl (lv_at hl 0 rfl) ?_
        refine q_get (v := .ref t_bytes_) C hP 0 0 rfl rfl inX9 (by decide) kF_RX9_9 rfl rfl dX9_advance_12 ?_
        refine lv_aload_n hx hb dX9_advance_15 rfl (lv_at hl 0 rfl) ?_
        refine q_get (v := .int x_1) C hP 0 10 rfl rfl inX9 (by decide) kF_RX9_43 rfl rfl dX9_advance_16 ?_
        refine q_iald (v := t_bytes x_1.toNatClampNeg) C hP 1 rfl (o_in (rfl : x_1.toInt = x_1.toInt) (by omega) (by omega)) rfl dX9_advance_19 ?_
        refine lv_topi (fun z_11 ez_11 => ?_)
        have hz_11 := Rg.at hR0 ez_11 (by have := o_cl (rfl : x_1.toInt = x_1.toInt) (by omega); omega) (by have := o_cl (rfl : x_1.toInt = x_1.toInt) (by omega); omega)
        have hq_11 : Pk t_bytes t_length.toInt x_1.toInt = z_11.toInt := ld_Pk ez_11 (by omega) (by omega) (by omega) (by omega)
        refine q_ai (wr := [(t, .inr (9, [.ref t_bytes_, .int t_length, .int t_kind, .int t_place, .int t_size, .int t_value, .int t_word, .int t_faultKind, .int t_faultPlace, .int t_limit, .int x_1])), (t_bytes_, .inl (cy 1, 940, .inl t_bytes))]) (r_S (rm := (Rm 0 0 0 0)) (As := [.int z_11]) (rest := []) (wc := []) C hS (q_subP hP [] rfl) (hD.sub [] (by decide) rfl) (o_isBlank l D cy z_11 _ ) kwS_X9_isBlank kM_RX9_55 ⟨Nat.le_of_ble_eq_true rfl, Nat.le_of_ble_eq_true rfl⟩ rfl hl.1 rfl (Nat.le_of_ble_eq_true rfl) dX9_advance_20 ⟨hroom.1, hroom.2⟩) C.2.2.2.2.2.2.1 hP hD hS [] [0, 1] rfl rfl (by decide) (by decide) (fun r_14 u_13 H locs hw_15 hP hD hS => ?_)
        have hp_15 : 0 ≤ r_14.toInt ∧ r_14.toInt ≤ 1 := hw_15.1
        have hp_16 : Hd ((r_14.toInt = 1 ∧ (z_11.toInt = 32 ∨ z_11.toInt = 10)) ∨ (r_14.toInt = 0 ∧ ¬ (z_11.toInt = 32 ∨ z_11.toInt = 10))) := hw_15.2
        refine lv_if_eq (tgt := 39) hx hb dX9_advance_23 (by decide) (fun c_18 => ?_) (fun c_18 => ?_)
        · have hc_18 := o_eq (rfl : r_14.toInt = r_14.toInt) (by decide : (0 : Int32).toInt = 0) c_18
          have hd_18 : Hd (r_14.toInt = 0 ∧ ¬ (z_11.toInt = 32 ∨ z_11.toInt = 10)) := (Hd.un hp_16).resolve_left (fun z9 => by omega)
          have hd_18_0 : r_14.toInt = 0 := (Hd.un hd_18).1
          refine lv_aload_n hx hb dX9_advance_39 rfl (lv_at hl 0 rfl) ?_
          refine lv_iconst (v := 0) hx hb dX9_advance_40 (by decide) ?_
          refine q_put (v := .int 0) (w' := [(t, .inr (9, [.ref t_bytes_, .int t_length, .int t_kind, .int t_place, .int t_size, .int t_value, .int 0, .int t_faultKind, .int t_faultPlace, .int t_limit, .int x_1])), (t_bytes_, .inl (cy 1, 940, .inl t_bytes))]) (ty := .int) C hP hD hS 0 6 rfl rfl inX9 tyX9 tyX9_ok nmX9 (by decide) kF_RX9_31 rfl rfl rfl rfl rfl (Nat.le_of_ble_eq_true rfl) rfl dX9_advance_41 (fun H locs hP hD hS => ?_)
          refine lv_aload_n hx hb dX9_advance_44 rfl (lv_at hl 0 rfl) ?_
          refine lv_iconst (v := 0) hx hb dX9_advance_45 (by decide) ?_
          refine q_put (v := .int 0) (w' := [(t, .inr (9, [.ref t_bytes_, .int t_length, .int t_kind, .int t_place, .int t_size, .int 0, .int 0, .int t_faultKind, .int t_faultPlace, .int t_limit, .int x_1])), (t_bytes_, .inl (cy 1, 940, .inl t_bytes))]) (ty := .int) C hP hD hS 0 5 rfl rfl inX9 tyX9 tyX9_ok nmX9 (by decide) kF_RX9_28 rfl rfl rfl rfl rfl (Nat.le_of_ble_eq_true rfl) rfl dX9_advance_46 (fun H locs hP hD hS => ?_)
          refine lv_aload_n hx hb dX9_advance_49 rfl (lv_at hl 0 rfl) ?_
          refine lv_iconst (v := 0) hx hb dX9_advance_50 (by decide) ?_
          refine q_put (v := .int 0) (w' := [(t, .inr (9, [.ref t_bytes_, .int t_length, .int t_kind, .int t_place, .int 0, .int 0, .int 0, .int t_faultKind, .int t_faultPlace, .int t_limit, .int x_1])), (t_bytes_, .inl (cy 1, 940, .inl t_bytes))]) (ty := .int) C hP hD hS 0 4 rfl rfl inX9 tyX9 tyX9_ok nmX9 (by decide) kF_RX9_25 rfl rfl rfl rfl rfl (Nat.le_of_ble_eq_true rfl) rfl dX9_advance_51 (fun H locs hP hD hS => ?_)
          refine lv_aload_n hx hb dX9_advance_54 rfl (lv_at hl 0 rfl) ?_
          refine q_get (v := .int x_1) C hP 0 10 rfl rfl inX9 (by decide) kF_RX9_43 rfl rfl dX9_advance_55 ?_
          refine lv_aload_n hx hb dX9_advance_58 rfl (lv_at hl 0 rfl) ?_
          refine q_get (v := .int t_limit) C hP 0 9 rfl rfl inX9 (by decide) kF_RX9_40 rfl rfl dX9_advance_59 ?_
          refine lv_icmp_lt (tgt := 79) hx hb dX9_advance_62 (by decide) (fun _ => ?_) (fun c_0 => absurd (o_mlt (rfl : x_1.toInt = x_1.toInt) (rfl : t_limit.toInt = t_limit.toInt) (by omega)) c_0)
          have hq_19 : wh blk (Pk t_bytes t_length.toInt) t_length.toInt t_next.toInt = x_1.toInt := hf_6.trans (wh_stop (by unfold blk; rw [hq_11]; exact decide_eq_false (by omega)))
          refine lv_aload_n hx hb dX9_advance_79 rfl (lv_at hl 0 rfl) ?_
          refine lv_aload_n hx hb dX9_advance_80 rfl (lv_at hl 0 rfl) ?_
          refine q_get (v := .int x_1) C hP 0 10 rfl rfl inX9 (by decide) kF_RX9_43 rfl rfl dX9_advance_81 ?_
          refine q_put (v := .int x_1) (w' := [(t, .inr (9, [.ref t_bytes_, .int t_length, .int t_kind, .int x_1, .int 0, .int 0, .int 0, .int t_faultKind, .int t_faultPlace, .int t_limit, .int x_1])), (t_bytes_, .inl (cy 1, 940, .inl t_bytes))]) (ty := .int) C hP hD hS 0 3 rfl rfl inX9 tyX9 tyX9_ok nmX9 (by decide) kF_RX9_22 rfl rfl rfl rfl rfl (Nat.le_of_ble_eq_true rfl) rfl dX9_advance_84 (fun H locs hP hD hS => ?_)
          refine lv_aload_n hx hb dX9_advance_87 rfl (lv_at hl 0 rfl) ?_
          refine q_get (v := .ref t_bytes_) C hP 0 0 rfl rfl inX9 (by decide) kF_RX9_9 rfl rfl dX9_advance_88 ?_
          refine lv_aload_n hx hb dX9_advance_91 rfl (lv_at hl 0 rfl) ?_
          refine q_get (v := .int x_1) C hP 0 10 rfl rfl inX9 (by decide) kF_RX9_43 rfl rfl dX9_advance_92 ?_
          refine q_iald (v := z_11) C hP 1 rfl (o_in (rfl : x_1.toInt = x_1.toInt) (by omega) (by omega)) ez_11.symm dX9_advance_95 ?_
          refine q_ai (wr := [(t, .inr (9, [.ref t_bytes_, .int t_length, .int t_kind, .int x_1, .int 0, .int 0, .int 0, .int t_faultKind, .int t_faultPlace, .int t_limit, .int x_1])), (t_bytes_, .inl (cy 1, 940, .inl t_bytes))]) (r_S (rm := (Rm 0 0 0 0)) (As := [.int z_11]) (rest := []) (wc := []) C hS (q_subP hP [] rfl) (hD.sub [] (by decide) rfl) (o_isLetter l D cy z_11 _ ) kwS_X9_isLetter kM_RX9_59 ⟨Nat.le_of_ble_eq_true rfl, Nat.le_of_ble_eq_true rfl⟩ rfl hl.1 rfl (Nat.le_of_ble_eq_true rfl) dX9_advance_96 ⟨hroom.1, hroom.2⟩) C.2.2.2.2.2.2.1 hP hD hS [] [0, 1] rfl rfl (by decide) (by decide) (fun r_22 u_21 H locs hw_23 hP hD hS => ?_)
          have hp_23 : 0 ≤ r_22.toInt ∧ r_22.toInt ≤ 1 := hw_23.1
          have hp_24 : Hd ((r_22.toInt = 1 ∧ (97 ≤ z_11.toInt ∧ z_11.toInt ≤ 122)) ∨ (r_22.toInt = 0 ∧ ¬ (97 ≤ z_11.toInt ∧ z_11.toInt ≤ 122))) := hw_23.2
          refine lv_if_ne (tgt := 117) hx hb dX9_advance_99 (by decide) (fun c_26 => ?_) (fun c_26 => ?_)
          · have hc_26 := o_ne (rfl : r_22.toInt = r_22.toInt) (by decide : (0 : Int32).toInt = 0) c_26
            have hnc_26 : 0 ≤ r_22.toInt + (-1) := by rcases Int.lt_or_gt_of_ne hc_26 with h9 | h9 <;> omega
            have hd_26 : Hd (r_22.toInt = 1 ∧ (97 ≤ z_11.toInt ∧ z_11.toInt ≤ 122)) := (Hd.un hp_24).resolve_right (fun z9 => by omega)
            have hd_26_0 : r_22.toInt = 1 := (Hd.un hd_26).1
            have hq_27 : aln (Pk t_bytes t_length.toInt x_1.toInt) = true := by unfold aln; rw [hq_11]; exact decide_eq_true (by omega)
            refine lv_aload_n hx hb dX9_advance_117 rfl (lv_at hl 0 rfl) ?_
            refine q_av (wr := []) (r_V (rm := (Rm 5 107 0 0)) (q0 := 0) (As := []) (rest := []) (wc := [(t, .inr (9, [.ref t_bytes_, .int t_length, .int t_kind, .int x_1, .int 0, .int 0, .int 0, .int t_faultKind, .int t_faultPlace, .int t_limit, .int x_1])), (t_bytes_, .inl (cy 1, 940, .inl t_bytes))]) C hS (q_subP hP [0, 1] rfl) (hD.sub [0, 1] (by decide) rfl) (o_readRunX l D cy t t_bytes_ t_length t_kind x_1 0 0 0 t_faultKind t_faultPlace t_limit x_1 t_bytes _ (by omega) (by omega) (by decide) (by omega) (by omega) (by have e0 : (0 : Int32).toInt = 0 := (by decide); omega) hR0 hq_27) kwV_X9_readRun kM_RX9_65 rfl rfl ⟨Nat.le_of_ble_eq_true rfl, Nat.le_of_ble_eq_true rfl⟩ rfl hl.1 rfl (Nat.le_of_ble_eq_true rfl) dX9_advance_118 ⟨hroom.1, hroom.2⟩) C.2.2.2.2.2.2.1 hP hD hS [0, 1] [] rfl rfl (by decide) (by decide) (fun u_29 H locs hw_31 hP hD hS => ?_)
            obtain ⟨x_32, x_33, x_34, x_35, x_36⟩ := u_29
            have hP : va_P D vwCl [(t, .inr (9, [.ref t_bytes_, .int t_length, .int x_32, .int x_1, .int x_33, .int x_34, .int x_35, .int t_faultKind, .int t_faultPlace, .int t_limit, .int x_36])), (t_bytes_, .inl (cy 1, 940, .inl t_bytes))] H := hP
            have hD : va_D A [(t, .inr (9, [.ref t_bytes_, .int t_length, .int x_32, .int x_1, .int x_33, .int x_34, .int x_35, .int t_faultKind, .int t_faultPlace, .int t_limit, .int x_36])), (t_bytes_, .inl (cy 1, 940, .inl t_bytes))] := hD
            have hp_36 : (-900) ≤ x_33.toInt ∧ x_33.toInt ≤ 940 := hw_31.1
            have hp_37 : 0 ≤ x_36.toInt ∧ x_36.toInt ≤ 940 := hw_31.2.1
            have hp_38 : Tr (Pk t_bytes t_length.toInt) t_length.toInt x_1.toInt x_32.toInt x_33.toInt x_34.toInt x_35.toInt x_36.toInt := hw_31.2.2
            refine o_wq hQ ?_
            exact q_vret (rm := (Rm 6 128 0 0)) C hS (x_32, x_1, x_33, x_34, x_35, x_36) ⟨(show 0 ≤ x_1.toInt ∧ x_1.toInt ≤ 900 by omega), (show (-900) ≤ x_33.toInt ∧ x_33.toInt ≤ 940 by omega), (show 0 ≤ x_36.toInt ∧ x_36.toInt ≤ 940 by omega), (show Tc (Pk t_bytes t_length.toInt) t_length.toInt t_limit.toInt (wh blk (Pk t_bytes t_length.toInt) t_length.toInt t_next.toInt) x_32.toInt x_1.toInt x_33.toInt x_34.toInt x_35.toInt x_36.toInt from (Tc.cast (Tc.run (by omega) (by omega) (by omega) hq_27 (by rw [hq_11]; omega) hp_38 rfl) hq_19))⟩ (q_subP hP [0, 1] rfl) (hD.sub [0, 1] (by decide) rfl) hroom.1 hroom.2 dX9_advance_121
          · have hc_26 := o_eq (rfl : r_22.toInt = r_22.toInt) (by decide : (0 : Int32).toInt = 0) c_26
            have hd_39 : Hd (r_22.toInt = 0 ∧ ¬ (97 ≤ z_11.toInt ∧ z_11.toInt ≤ 122)) := (Hd.un hp_24).resolve_left (fun z9 => by omega)
            have hd_39_0 : r_22.toInt = 0 := (Hd.un hd_39).1
            refine lv_aload_n hx hb dX9_advance_102 rfl (lv_at hl 0 rfl) ?_
            refine q_get (v := .ref t_bytes_) C hP 0 0 rfl rfl inX9 (by decide) kF_RX9_9 rfl rfl dX9_advance_103 ?_
            refine lv_aload_n hx hb dX9_advance_106 rfl (lv_at hl 0 rfl) ?_
            refine q_get (v := .int x_1) C hP 0 10 rfl rfl inX9 (by decide) kF_RX9_43 rfl rfl dX9_advance_107 ?_
            refine q_iald (v := z_11) C hP 1 rfl (o_in (rfl : x_1.toInt = x_1.toInt) (by omega) (by omega)) ez_11.symm dX9_advance_110 ?_
            refine q_ai (wr := [(t, .inr (9, [.ref t_bytes_, .int t_length, .int t_kind, .int x_1, .int 0, .int 0, .int 0, .int t_faultKind, .int t_faultPlace, .int t_limit, .int x_1])), (t_bytes_, .inl (cy 1, 940, .inl t_bytes))]) (r_S (rm := (Rm 0 0 0 0)) (As := [.int z_11]) (rest := []) (wc := []) C hS (q_subP hP [] rfl) (hD.sub [] (by decide) rfl) (o_isDigit l D cy z_11 _ ) kwS_X9_isDigit kM_RX9_62 ⟨Nat.le_of_ble_eq_true rfl, Nat.le_of_ble_eq_true rfl⟩ rfl hl.1 rfl (Nat.le_of_ble_eq_true rfl) dX9_advance_111 ⟨hroom.1, hroom.2⟩) C.2.2.2.2.2.2.1 hP hD hS [] [0, 1] rfl rfl (by decide) (by decide) (fun r_42 u_41 H locs hw_43 hP hD hS => ?_)
            have hp_43 : 0 ≤ r_42.toInt ∧ r_42.toInt ≤ 1 := hw_43.1
            have hp_44 : Hd ((r_42.toInt = 1 ∧ (48 ≤ z_11.toInt ∧ z_11.toInt ≤ 57)) ∨ (r_42.toInt = 0 ∧ ¬ (48 ≤ z_11.toInt ∧ z_11.toInt ≤ 57))) := hw_43.2
            refine lv_if_eq (tgt := 122) hx hb dX9_advance_114 (by decide) (fun c_46 => ?_) (fun c_46 => ?_)
            · have hc_46 := o_eq (rfl : r_42.toInt = r_42.toInt) (by decide : (0 : Int32).toInt = 0) c_46
              have hd_46 : Hd (r_42.toInt = 0 ∧ ¬ (48 ≤ z_11.toInt ∧ z_11.toInt ≤ 57)) := (Hd.un hp_44).resolve_left (fun z9 => by omega)
              have hd_46_0 : r_42.toInt = 0 := (Hd.un hd_46).1
              refine lv_aload_n hx hb dX9_advance_122 rfl (lv_at hl 0 rfl) ?_
              refine lv_aload_n hx hb dX9_advance_123 rfl (lv_at hl 0 rfl) ?_
              refine q_get (v := .ref t_bytes_) C hP 0 0 rfl rfl inX9 (by decide) kF_RX9_9 rfl rfl dX9_advance_124 ?_
              refine lv_aload_n hx hb dX9_advance_127 rfl (lv_at hl 0 rfl) ?_
              refine q_get (v := .int x_1) C hP 0 10 rfl rfl inX9 (by decide) kF_RX9_43 rfl rfl dX9_advance_128 ?_
              refine q_iald (v := z_11) C hP 1 rfl (o_in (rfl : x_1.toInt = x_1.toInt) (by omega) (by omega)) ez_11.symm dX9_advance_131 ?_
              refine q_ai (wr := [(t, .inr (9, [.ref t_bytes_, .int t_length, .int t_kind, .int x_1, .int 0, .int 0, .int 0, .int t_faultKind, .int t_faultPlace, .int t_limit, .int x_1])), (t_bytes_, .inl (cy 1, 940, .inl t_bytes))]) (r_S (rm := (Rm 0 0 0 0)) (As := [.int z_11]) (rest := [.ref t]) (wc := []) C hS (q_subP hP [] rfl) (hD.sub [] (by decide) rfl) (o_isSign l D cy z_11 _ ) kwS_X9_isSign kM_RX9_68 ⟨Nat.le_of_ble_eq_true rfl, Nat.le_of_ble_eq_true rfl⟩ rfl hl.1 rfl (Nat.le_of_ble_eq_true rfl) dX9_advance_132 ⟨hroom.1, hroom.2⟩) C.2.2.2.2.2.2.1 hP hD hS [] [0, 1] rfl rfl (by decide) (by decide) (fun r_49 u_48 H locs hw_50 hP hD hS => ?_)
              have hp_50 : 0 ≤ r_49.toInt ∧ r_49.toInt ≤ 1 := hw_50.1
              have hp_51 : Hd ((r_49.toInt = 1 ∧ (z_11.toInt = 59 ∨ z_11.toInt = 40 ∨ z_11.toInt = 41 ∨ (60 ≤ z_11.toInt ∧ z_11.toInt ≤ 62))) ∨ (r_49.toInt = 0 ∧ ¬ (z_11.toInt = 59 ∨ z_11.toInt = 40 ∨ z_11.toInt = 41 ∨ (60 ≤ z_11.toInt ∧ z_11.toInt ≤ 62)))) := hw_50.2
              refine lv_if_eq (tgt := 150) hx hb dX9_advance_135 (by decide) (fun c_53 => ?_) (fun c_53 => ?_)
              · have hc_53 := o_eq (rfl : r_49.toInt = r_49.toInt) (by decide : (0 : Int32).toInt = 0) c_53
                have hd_53 : Hd (r_49.toInt = 0 ∧ ¬ (z_11.toInt = 59 ∨ z_11.toInt = 40 ∨ z_11.toInt = 41 ∨ (60 ≤ z_11.toInt ∧ z_11.toInt ≤ 62))) := (Hd.un hp_51).resolve_left (fun z9 => by omega)
                have hd_53_0 : r_49.toInt = 0 := (Hd.un hd_53).1
                refine lv_iconst (v := (-1)) hx hb dX9_advance_150 (by decide) ?_
                refine q_put (v := .int (-1)) (w' := [(t, .inr (9, [.ref t_bytes_, .int t_length, .int (-1), .int x_1, .int 0, .int 0, .int 0, .int t_faultKind, .int t_faultPlace, .int t_limit, .int x_1])), (t_bytes_, .inl (cy 1, 940, .inl t_bytes))]) (ty := .int) C hP hD hS 0 2 rfl rfl inX9 tyX9 tyX9_ok nmX9 (by decide) kF_RX9_19 rfl rfl rfl rfl rfl (Nat.le_of_ble_eq_true rfl) rfl dX9_advance_151 (fun H locs hP hD hS => ?_)
                refine lv_aload_n hx hb dX9_advance_154 rfl (lv_at hl 0 rfl) ?_
                refine lv_dup hx hb dX9_advance_155 rfl ?_
                refine q_get (v := .int x_1) C hP 0 10 rfl rfl inX9 (by decide) kF_RX9_43 rfl rfl dX9_advance_156 ?_
                refine lv_iconst (v := 1) hx hb dX9_advance_159 (by decide) ?_
                refine lv_iadd hx hb dX9_advance_160 ?_
                refine lv_topi (fun z_55 hz_55 => ?_)
                have hz_55 := o_add hz_55 (rfl : x_1.toInt = x_1.toInt) (by decide : (1 : Int32).toInt = 1) (by omega) (by omega)
                refine q_put (v := .int z_55) (w' := [(t, .inr (9, [.ref t_bytes_, .int t_length, .int (-1), .int x_1, .int 0, .int 0, .int 0, .int t_faultKind, .int t_faultPlace, .int t_limit, .int z_55])), (t_bytes_, .inl (cy 1, 940, .inl t_bytes))]) (ty := .int) C hP hD hS 0 10 rfl rfl inX9 tyX9 tyX9_ok nmX9 (by decide) kF_RX9_43 rfl rfl rfl rfl rfl (Nat.le_of_ble_eq_true rfl) rfl dX9_advance_161 (fun H locs hP hD hS => ?_)
                refine o_wq hQ ?_
                exact q_vret (rm := (Rm 6 128 0 0)) C hS ((-1), x_1, 0, 0, 0, z_55) ⟨(show 0 ≤ x_1.toInt ∧ x_1.toInt ≤ 900 by omega), (show (-900) ≤ (0 : Int32).toInt ∧ (0 : Int32).toInt ≤ 940 by decide), (show 0 ≤ z_55.toInt ∧ z_55.toInt ≤ 940 by omega), (show Tc (Pk t_bytes t_length.toInt) t_length.toInt t_limit.toInt (wh blk (Pk t_bytes t_length.toInt) t_length.toInt t_next.toInt) ((-1) : Int32).toInt x_1.toInt (0 : Int32).toInt (0 : Int32).toInt (0 : Int32).toInt z_55.toInt from (Tc.cast (Tc.sign (by omega) (by omega) (by omega) hq_11 (by omega) (by omega) (Or.inr ⟨by omega, by decide⟩) rfl (by decide) (by omega)) hq_19))⟩ (q_subP hP [0, 1] rfl) (hD.sub [0, 1] (by decide) rfl) hroom.1 hroom.2 dX9_advance_164
              · have hc_53 := o_ne (rfl : r_49.toInt = r_49.toInt) (by decide : (0 : Int32).toInt = 0) c_53
                have hnc_53 : 0 ≤ r_49.toInt + (-1) := by rcases Int.lt_or_gt_of_ne hc_53 with h9 | h9 <;> omega
                have hd_55 : Hd (r_49.toInt = 1 ∧ (z_11.toInt = 59 ∨ z_11.toInt = 40 ∨ z_11.toInt = 41 ∨ (60 ≤ z_11.toInt ∧ z_11.toInt ≤ 62))) := (Hd.un hp_51).resolve_right (fun z9 => by omega)
                have hd_55_0 : r_49.toInt = 1 := (Hd.un hd_55).1
                refine lv_aload_n hx hb dX9_advance_138 rfl (lv_at hl 0 rfl) ?_
                refine q_get (v := .ref t_bytes_) C hP 0 0 rfl rfl inX9 (by decide) kF_RX9_9 rfl rfl dX9_advance_139 ?_
                refine lv_aload_n hx hb dX9_advance_142 rfl (lv_at hl 0 rfl) ?_
                refine q_get (v := .int x_1) C hP 0 10 rfl rfl inX9 (by decide) kF_RX9_43 rfl rfl dX9_advance_143 ?_
                refine q_iald (v := z_11) C hP 1 rfl (o_in (rfl : x_1.toInt = x_1.toInt) (by omega) (by omega)) ez_11.symm dX9_advance_146 ?_
                refine lv_goto (tgt := 151) hx hb dX9_advance_147 (by decide) ?_
                refine q_put (v := .int z_11) (w' := [(t, .inr (9, [.ref t_bytes_, .int t_length, .int z_11, .int x_1, .int 0, .int 0, .int 0, .int t_faultKind, .int t_faultPlace, .int t_limit, .int x_1])), (t_bytes_, .inl (cy 1, 940, .inl t_bytes))]) (ty := .int) C hP hD hS 0 2 rfl rfl inX9 tyX9 tyX9_ok nmX9 (by decide) kF_RX9_19 rfl rfl rfl rfl rfl (Nat.le_of_ble_eq_true rfl) rfl dX9_advance_151 (fun H locs hP hD hS => ?_)
                refine lv_aload_n hx hb dX9_advance_154 rfl (lv_at hl 0 rfl) ?_
                refine lv_dup hx hb dX9_advance_155 rfl ?_
                refine q_get (v := .int x_1) C hP 0 10 rfl rfl inX9 (by decide) kF_RX9_43 rfl rfl dX9_advance_156 ?_
                refine lv_iconst (v := 1) hx hb dX9_advance_159 (by decide) ?_
                refine lv_iadd hx hb dX9_advance_160 ?_
                refine lv_topi (fun z_57 hz_57 => ?_)
                have hz_57 := o_add hz_57 (rfl : x_1.toInt = x_1.toInt) (by decide : (1 : Int32).toInt = 1) (by omega) (by omega)
                refine q_put (v := .int z_57) (w' := [(t, .inr (9, [.ref t_bytes_, .int t_length, .int z_11, .int x_1, .int 0, .int 0, .int 0, .int t_faultKind, .int t_faultPlace, .int t_limit, .int z_57])), (t_bytes_, .inl (cy 1, 940, .inl t_bytes))]) (ty := .int) C hP hD hS 0 10 rfl rfl inX9 tyX9 tyX9_ok nmX9 (by decide) kF_RX9_43 rfl rfl rfl rfl rfl (Nat.le_of_ble_eq_true rfl) rfl dX9_advance_161 (fun H locs hP hD hS => ?_)
                refine o_wq hQ ?_
                exact q_vret (rm := (Rm 6 128 0 0)) C hS (z_11, x_1, 0, 0, 0, z_57) ⟨(show 0 ≤ x_1.toInt ∧ x_1.toInt ≤ 900 by omega), (show (-900) ≤ (0 : Int32).toInt ∧ (0 : Int32).toInt ≤ 940 by decide), (show 0 ≤ z_57.toInt ∧ z_57.toInt ≤ 940 by omega), (show Tc (Pk t_bytes t_length.toInt) t_length.toInt t_limit.toInt (wh blk (Pk t_bytes t_length.toInt) t_length.toInt t_next.toInt) z_11.toInt x_1.toInt (0 : Int32).toInt (0 : Int32).toInt (0 : Int32).toInt z_57.toInt from (Tc.cast (Tc.sign (by omega) (by omega) (by omega) hq_11 (by omega) (by omega) (Or.inl ⟨by omega, rfl⟩) rfl (by decide) (by omega)) hq_19))⟩ (q_subP hP [0, 1] rfl) (hD.sub [0, 1] (by decide) rfl) hroom.1 hroom.2 dX9_advance_164
            · have hc_46 := o_ne (rfl : r_42.toInt = r_42.toInt) (by decide : (0 : Int32).toInt = 0) c_46
              have hnc_46 : 0 ≤ r_42.toInt + (-1) := by rcases Int.lt_or_gt_of_ne hc_46 with h9 | h9 <;> omega
              have hd_57 : Hd (r_42.toInt = 1 ∧ (48 ≤ z_11.toInt ∧ z_11.toInt ≤ 57)) := (Hd.un hp_44).resolve_right (fun z9 => by omega)
              have hd_57_0 : r_42.toInt = 1 := (Hd.un hd_57).1
              have hq_58 : aln (Pk t_bytes t_length.toInt x_1.toInt) = true := by unfold aln; rw [hq_11]; exact decide_eq_true (by omega)
              refine lv_aload_n hx hb dX9_advance_117 rfl (lv_at hl 0 rfl) ?_
              refine q_av (wr := []) (r_V (rm := (Rm 5 107 0 0)) (q0 := 0) (As := []) (rest := []) (wc := [(t, .inr (9, [.ref t_bytes_, .int t_length, .int t_kind, .int x_1, .int 0, .int 0, .int 0, .int t_faultKind, .int t_faultPlace, .int t_limit, .int x_1])), (t_bytes_, .inl (cy 1, 940, .inl t_bytes))]) C hS (q_subP hP [0, 1] rfl) (hD.sub [0, 1] (by decide) rfl) (o_readRunX l D cy t t_bytes_ t_length t_kind x_1 0 0 0 t_faultKind t_faultPlace t_limit x_1 t_bytes _ (by omega) (by omega) (by decide) (by omega) (by omega) (by have e0 : (0 : Int32).toInt = 0 := (by decide); omega) hR0 hq_58) kwV_X9_readRun kM_RX9_65 rfl rfl ⟨Nat.le_of_ble_eq_true rfl, Nat.le_of_ble_eq_true rfl⟩ rfl hl.1 rfl (Nat.le_of_ble_eq_true rfl) dX9_advance_118 ⟨hroom.1, hroom.2⟩) C.2.2.2.2.2.2.1 hP hD hS [0, 1] [] rfl rfl (by decide) (by decide) (fun u_60 H locs hw_62 hP hD hS => ?_)
              obtain ⟨x_63, x_64, x_65, x_66, x_67⟩ := u_60
              have hP : va_P D vwCl [(t, .inr (9, [.ref t_bytes_, .int t_length, .int x_63, .int x_1, .int x_64, .int x_65, .int x_66, .int t_faultKind, .int t_faultPlace, .int t_limit, .int x_67])), (t_bytes_, .inl (cy 1, 940, .inl t_bytes))] H := hP
              have hD : va_D A [(t, .inr (9, [.ref t_bytes_, .int t_length, .int x_63, .int x_1, .int x_64, .int x_65, .int x_66, .int t_faultKind, .int t_faultPlace, .int t_limit, .int x_67])), (t_bytes_, .inl (cy 1, 940, .inl t_bytes))] := hD
              have hp_67 : (-900) ≤ x_64.toInt ∧ x_64.toInt ≤ 940 := hw_62.1
              have hp_68 : 0 ≤ x_67.toInt ∧ x_67.toInt ≤ 940 := hw_62.2.1
              have hp_69 : Tr (Pk t_bytes t_length.toInt) t_length.toInt x_1.toInt x_63.toInt x_64.toInt x_65.toInt x_66.toInt x_67.toInt := hw_62.2.2
              refine o_wq hQ ?_
              exact q_vret (rm := (Rm 6 128 0 0)) C hS (x_63, x_1, x_64, x_65, x_66, x_67) ⟨(show 0 ≤ x_1.toInt ∧ x_1.toInt ≤ 900 by omega), (show (-900) ≤ x_64.toInt ∧ x_64.toInt ≤ 940 by omega), (show 0 ≤ x_67.toInt ∧ x_67.toInt ≤ 940 by omega), (show Tc (Pk t_bytes t_length.toInt) t_length.toInt t_limit.toInt (wh blk (Pk t_bytes t_length.toInt) t_length.toInt t_next.toInt) x_63.toInt x_1.toInt x_64.toInt x_65.toInt x_66.toInt x_67.toInt from (Tc.cast (Tc.run (by omega) (by omega) (by omega) hq_58 (by rw [hq_11]; omega) hp_69 rfl) hq_19))⟩ (q_subP hP [0, 1] rfl) (hD.sub [0, 1] (by decide) rfl) hroom.1 hroom.2 dX9_advance_121
        · have hc_18 := o_ne (rfl : r_14.toInt = r_14.toInt) (by decide : (0 : Int32).toInt = 0) c_18
          have hnc_18 : 0 ≤ r_14.toInt + (-1) := by rcases Int.lt_or_gt_of_ne hc_18 with h9 | h9 <;> omega
          have hd_70 : Hd (r_14.toInt = 1 ∧ (z_11.toInt = 32 ∨ z_11.toInt = 10)) := (Hd.un hp_16).resolve_right (fun z9 => by omega)
          have hd_70_0 : r_14.toInt = 1 := (Hd.un hd_70).1
          refine lv_aload_n hx hb dX9_advance_26 rfl (lv_at hl 0 rfl) ?_
          refine lv_dup hx hb dX9_advance_27 rfl ?_
          refine q_get (v := .int x_1) C hP 0 10 rfl rfl inX9 (by decide) kF_RX9_43 rfl rfl dX9_advance_28 ?_
          refine lv_iconst (v := 1) hx hb dX9_advance_31 (by decide) ?_
          refine lv_iadd hx hb dX9_advance_32 ?_
          refine lv_topi (fun z_72 hz_72 => ?_)
          have hz_72 := o_add hz_72 (rfl : x_1.toInt = x_1.toInt) (by decide : (1 : Int32).toInt = 1) (by omega) (by omega)
          refine q_put (v := .int z_72) (w' := [(t, .inr (9, [.ref t_bytes_, .int t_length, .int t_kind, .int t_place, .int t_size, .int t_value, .int t_word, .int t_faultKind, .int t_faultPlace, .int t_limit, .int z_72])), (t_bytes_, .inl (cy 1, 940, .inl t_bytes))]) (ty := .int) C hP hD hS 0 10 rfl rfl inX9 tyX9 tyX9_ok nmX9 (by decide) kF_RX9_43 rfl rfl rfl rfl rfl (Nat.le_of_ble_eq_true rfl) rfl dX9_advance_33 (fun H locs hP hD hS => ?_)
          have hq_72 : wh blk (Pk t_bytes t_length.toInt) t_length.toInt t_next.toInt = wh blk (Pk t_bytes t_length.toInt) t_length.toInt z_72.toInt := wh_next hf_6 (by omega) (by unfold blk; rw [hq_11]; exact decide_eq_true (by omega)) (by omega)
          refine lv_goto (tgt := 0) hx hb dX9_advance_36 (by decide) ?_
          exact ih_8 z_72 H locs ls (by omega) (by omega) (by omega) (by omega) hq_72 hP hD hS (lv_sub hl [0] rfl)
  exact lp_0_1 (((-1) * t_next.toInt + 940 : Int).toNat + 1) t_next H locs ls (by omega) (by omega) (by omega) (by omega) rfl hP hD hS (lv_sub hl [0] rfl)
theorem o_advanceX (l : Launch) (D : va_G) (cy : Nat → ClassId) (t : Nat) (t_bytes_ : Nat) (t_length : Int32) (t_kind : Int32) (t_place : Int32) (t_size : Int32) (t_value : Int32) (t_word : Int32) (t_faultKind : Int32) (t_faultPlace : Int32) (t_limit : Int32) (t_next : Int32) (t_bytes : Nat → Int32) (sz : Nat) (hb0 : 0 ≤ t_length.toInt ∧ t_length.toInt ≤ 940) (hb1 : 0 ≤ t_place.toInt ∧ t_place.toInt ≤ 900) (hb2 : (-900) ≤ t_size.toInt ∧ t_size.toInt ≤ 940) (hb3 : 0 ≤ t_limit.toInt ∧ t_limit.toInt ≤ 900) (hb4 : 0 ≤ t_next.toInt ∧ t_next.toInt ≤ 940) (ha1 : 0 ≤ t_length.toInt + (-1) * t_next.toInt ∧ 0 ≤ t_length.toInt + (-1) * t_limit.toInt ∧ 0 ≤ t_limit.toInt ∧ 0 ≤ t_next.toInt) (hR0 : Rg t_bytes 0 940 0 255) : MV l yX9_advance cX9_advance 1 (Rm 6 128 0 0) D cy [.ref t] sz [(t, .inr (9, [.ref t_bytes_, .int t_length, .int t_kind, .int t_place, .int t_size, .int t_value, .int t_word, .int t_faultKind, .int t_faultPlace, .int t_limit, .int t_next])), (t_bytes_, .inl (cy 1, 940, .inl t_bytes))] (fun u : Int32 × Int32 × Int32 × Int32 × Int32 × Int32 => (0 ≤ u.2.1.toInt ∧ u.2.1.toInt ≤ 900) ∧ ((-900) ≤ u.2.2.1.toInt ∧ u.2.2.1.toInt ≤ 940) ∧ (0 ≤ u.2.2.2.2.2.toInt ∧ u.2.2.2.2.2.toInt ≤ 940) ∧ (Tc (Pk t_bytes t_length.toInt) t_length.toInt t_limit.toInt (wh blk (Pk t_bytes t_length.toInt) t_length.toInt t_next.toInt) u.1.toInt u.2.1.toInt u.2.2.1.toInt u.2.2.2.1.toInt u.2.2.2.2.1.toInt u.2.2.2.2.2.toInt)) (fun u : Int32 × Int32 × Int32 × Int32 × Int32 × Int32 => [(t, .inr (9, [.ref t_bytes_, .int t_length, .int u.1, .int u.2.1, .int u.2.2.1, .int u.2.2.2.1, .int u.2.2.2.2.1, .int t_faultKind, .int t_faultPlace, .int t_limit, .int u.2.2.2.2.2])), (t_bytes_, .inl (cy 1, 940, .inl t_bytes))]) := by
  refine MV.enter (by decide) (Nat.le_of_ble_eq_true rfl) ?_
  intro p e s m below meth c ls A hsz hAe C hP hD hS hl
  exact b_o_advanceX l D cy t t_bytes_ t_length t_kind t_place t_size t_value t_word t_faultKind t_faultPlace t_limit t_next t_bytes hb0 hb1 hb2 hb3 hb4 ha1 hR0 ⟨Nat.le_of_ble_eq_true rfl, Nat.le_of_ble_eq_true rfl⟩ C rfl _ _ ls hP hD hS hl
set_option maxHeartbeats 4000000 in
set_option maxRecDepth 100000 in
theorem b_o_open (l : Launch) (D : va_G) (cy : Nat → ClassId) (t : Nat) (v : Int32) (t_bytes_ : Nat) (t_length : Int32) (t_kind : Int32) (t_place : Int32) (t_size : Int32) (t_value : Int32) (t_word : Int32) (t_faultKind : Int32) (t_faultPlace : Int32) (t_limit : Int32) (t_next : Int32) (t_bytes : Nat → Int32) (hb0 : 0 ≤ t_length.toInt ∧ t_length.toInt ≤ 940) (hb1 : 0 ≤ t_place.toInt ∧ t_place.toInt ≤ 900) (hb2 : (-900) ≤ t_size.toInt ∧ t_size.toInt ≤ 940) (hb3 : 0 ≤ t_limit.toInt ∧ t_limit.toInt ≤ 900) (hb4 : 0 ≤ t_next.toInt ∧ t_next.toInt ≤ 940) (hb5 : 0 ≤ v.toInt ∧ v.toInt ≤ 900) (hR0 : Rg t_bytes 0 940 0 255) {p : Program} {e : Env} {s : State} {m : MethodId} {args : Array Value} {below : List Frame} {meth : Method} {c : Code} {A : Nat → Prop} {Q : State → Prop} {cells slots : Nat} (hroom : cells ≤ ((Rm 7 148 0 0)).cells ∧ slots ≤ ((Rm 7 148 0 0)).slots) (C : Cx p s m args meth c cX9_open 2 none RX9 "open" D cy A) (hQ : Q = MQ below (va_Qv (fun u : Int32 × Int32 × Int32 × Int32 × Int32 × Int32 × Int32 × Int32 × Int32 => (0 ≤ u.2.1.toInt ∧ u.2.1.toInt ≤ 900) ∧ ((-900) ≤ u.2.2.1.toInt ∧ u.2.2.1.toInt ≤ 940) ∧ (0 ≤ u.2.2.2.2.2.2.2.1.toInt ∧ u.2.2.2.2.2.2.2.1.toInt ≤ 900) ∧ (0 ≤ u.2.2.2.2.2.2.2.2.toInt ∧ u.2.2.2.2.2.2.2.2.toInt ≤ 940) ∧ (0 ≤ u.2.2.2.2.2.1.toInt ∧ 0 ≤ (-1) * u.2.2.2.2.2.1.toInt ∧ 0 ≤ u.2.2.2.2.2.2.1.toInt ∧ 0 ≤ (-1) * u.2.2.2.2.2.2.1.toInt) ∧ (Tc (Pk t_bytes t_length.toInt) t_length.toInt u.2.2.2.2.2.2.2.1.toInt (wh blk (Pk t_bytes t_length.toInt) t_length.toInt 0) u.1.toInt u.2.1.toInt u.2.2.1.toInt u.2.2.2.1.toInt u.2.2.2.2.1.toInt u.2.2.2.2.2.2.2.2.toInt) ∧ (u.2.2.2.2.2.2.2.1.toInt = lm t_length.toInt v.toInt)) (Bx D A (fun u : Int32 × Int32 × Int32 × Int32 × Int32 × Int32 × Int32 × Int32 × Int32 => [(t, .inr (9, [.ref t_bytes_, .int t_length, .int u.1, .int u.2.1, .int u.2.2.1, .int u.2.2.2.1, .int u.2.2.2.2.1, .int u.2.2.2.2.2.1, .int u.2.2.2.2.2.2.1, .int u.2.2.2.2.2.2.2.1, .int u.2.2.2.2.2.2.2.2])), (t_bytes_, .inl (cy 1, 940, .inl t_bytes))])) A) args s ((Rm 7 148 0 0)).cells ((Rm 7 148 0 0)).slots A) (H : Heap) (locs : List Loc) (ls : Array Slot) (hP : va_P D vwCl [(t, .inr (9, [.ref t_bytes_, .int t_length, .int t_kind, .int t_place, .int t_size, .int t_value, .int t_word, .int t_faultKind, .int t_faultPlace, .int t_limit, .int t_next])), (t_bytes_, .inl (cy 1, 940, .inl t_bytes))] H) (hD : va_D A [(t, .inr (9, [.ref t_bytes_, .int t_length, .int t_kind, .int t_place, .int t_size, .int t_value, .int t_word, .int t_faultKind, .int t_faultPlace, .int t_limit, .int t_next])), (t_bytes_, .inl (cy 1, 940, .inl t_bytes))]) (hS : va_S A s.heap H locs) (hl : lv_has ls 2 [(0, .ref t), (1, .int v)]) : W p l e (Rm 7 148 0 0) s m args below meth c H locs cells slots Q (F0 m 0 ls []) := by
  have hx := C.1
  have hb := C.2.1
  have hqt_kind := o_rng t_kind
  have hqt_value := o_rng t_value
  have hqt_word := o_rng t_word
  have hqt_faultKind := o_rng t_faultKind
  have hqt_faultPlace := o_rng t_faultPlace
  refine lv_aload_n hx hb dX9_open_0 rfl (lv_at hl 0 rfl) ?_
  refine lv_aload_n hx hb dX9_open_1 rfl (lv_at hl 0 rfl) ?_
  refine q_get (v := .int t_length) C hP 0 1 rfl rfl inX9 (by decide) kF_RX9_15 rfl rfl dX9_open_2 ?_
  refine lv_iload_n hx hb dX9_open_5 rfl (lv_at hl 1 rfl) ?_
  refine q_mmin C hl.1 kM_RX9_46 (Nat.le_of_ble_eq_true rfl) (Nat.le_of_ble_eq_true rfl) hroom.1 hroom.2 dX9_open_6 ?_
  refine lv_topi (fun z_1 hz_1 => ?_)
  have hz_1 := o_min hz_1 (rfl : t_length.toInt = t_length.toInt) (rfl : v.toInt = v.toInt)
  refine q_put (v := .int z_1) (w' := [(t, .inr (9, [.ref t_bytes_, .int t_length, .int t_kind, .int t_place, .int t_size, .int t_value, .int t_word, .int t_faultKind, .int t_faultPlace, .int z_1, .int t_next])), (t_bytes_, .inl (cy 1, 940, .inl t_bytes))]) (ty := .int) C hP hD hS 0 9 rfl rfl inX9 tyX9 tyX9_ok nmX9 (by decide) kF_RX9_40 rfl rfl rfl rfl rfl (Nat.le_of_ble_eq_true rfl) rfl dX9_open_9 (fun H locs hP hD hS => ?_)
  refine lv_aload_n hx hb dX9_open_12 rfl (lv_at hl 0 rfl) ?_
  refine lv_iconst (v := 0) hx hb dX9_open_13 (by decide) ?_
  refine q_put (v := .int 0) (w' := [(t, .inr (9, [.ref t_bytes_, .int t_length, .int t_kind, .int t_place, .int t_size, .int t_value, .int t_word, .int t_faultKind, .int t_faultPlace, .int z_1, .int 0])), (t_bytes_, .inl (cy 1, 940, .inl t_bytes))]) (ty := .int) C hP hD hS 0 10 rfl rfl inX9 tyX9 tyX9_ok nmX9 (by decide) kF_RX9_43 rfl rfl rfl rfl rfl (Nat.le_of_ble_eq_true rfl) rfl dX9_open_14 (fun H locs hP hD hS => ?_)
  refine lv_aload_n hx hb dX9_open_17 rfl (lv_at hl 0 rfl) ?_
  refine lv_iconst (v := 0) hx hb dX9_open_18 (by decide) ?_
  refine q_put (v := .int 0) (w' := [(t, .inr (9, [.ref t_bytes_, .int t_length, .int t_kind, .int t_place, .int t_size, .int t_value, .int t_word, .int 0, .int t_faultPlace, .int z_1, .int 0])), (t_bytes_, .inl (cy 1, 940, .inl t_bytes))]) (ty := .int) C hP hD hS 0 7 rfl rfl inX9 tyX9 tyX9_ok nmX9 (by decide) kF_RX9_34 rfl rfl rfl rfl rfl (Nat.le_of_ble_eq_true rfl) rfl dX9_open_19 (fun H locs hP hD hS => ?_)
  refine lv_aload_n hx hb dX9_open_22 rfl (lv_at hl 0 rfl) ?_
  refine lv_iconst (v := 0) hx hb dX9_open_23 (by decide) ?_
  refine q_put (v := .int 0) (w' := [(t, .inr (9, [.ref t_bytes_, .int t_length, .int t_kind, .int t_place, .int t_size, .int t_value, .int t_word, .int 0, .int 0, .int z_1, .int 0])), (t_bytes_, .inl (cy 1, 940, .inl t_bytes))]) (ty := .int) C hP hD hS 0 8 rfl rfl inX9 tyX9 tyX9_ok nmX9 (by decide) kF_RX9_37 rfl rfl rfl rfl rfl (Nat.le_of_ble_eq_true rfl) rfl dX9_open_24 (fun H locs hP hD hS => ?_)
  refine lv_aload_n hx hb dX9_open_27 rfl (lv_at hl 0 rfl) ?_
  refine q_av (wr := []) (r_V (rm := (Rm 6 128 0 0)) (q0 := 0) (As := []) (rest := []) (wc := [(t, .inr (9, [.ref t_bytes_, .int t_length, .int t_kind, .int t_place, .int t_size, .int t_value, .int t_word, .int 0, .int 0, .int z_1, .int 0])), (t_bytes_, .inl (cy 1, 940, .inl t_bytes))]) C hS (q_subP hP [0, 1] rfl) (hD.sub [0, 1] (by decide) rfl) (o_advanceX l D cy t t_bytes_ t_length t_kind t_place t_size t_value t_word 0 0 z_1 0 t_bytes _ (by omega) (by omega) (by omega) (by omega) (by decide) (by have e0 : (0 : Int32).toInt = 0 := (by decide); omega) hR0) kwV_X9_advance kM_RX9_52 rfl rfl ⟨Nat.le_of_ble_eq_true rfl, Nat.le_of_ble_eq_true rfl⟩ rfl hl.1 rfl (Nat.le_of_ble_eq_true rfl) dX9_open_28 ⟨hroom.1, hroom.2⟩) C.2.2.2.2.2.2.1 hP hD hS [0, 1] [] rfl rfl (by decide) (by decide) (fun u_2 H locs hw_4 hP hD hS => ?_)
  obtain ⟨x_5, x_6, x_7, x_8, x_9, x_10⟩ := u_2
  have hP : va_P D vwCl [(t, .inr (9, [.ref t_bytes_, .int t_length, .int x_5, .int x_6, .int x_7, .int x_8, .int x_9, .int 0, .int 0, .int z_1, .int x_10])), (t_bytes_, .inl (cy 1, 940, .inl t_bytes))] H := hP
  have hD : va_D A [(t, .inr (9, [.ref t_bytes_, .int t_length, .int x_5, .int x_6, .int x_7, .int x_8, .int x_9, .int 0, .int 0, .int z_1, .int x_10])), (t_bytes_, .inl (cy 1, 940, .inl t_bytes))] := hD
  have hp_10 : 0 ≤ x_6.toInt ∧ x_6.toInt ≤ 900 := hw_4.1
  have hp_11 : (-900) ≤ x_7.toInt ∧ x_7.toInt ≤ 940 := hw_4.2.1
  have hp_12 : 0 ≤ x_10.toInt ∧ x_10.toInt ≤ 940 := hw_4.2.2.1
  have hp_13 : Tc (Pk t_bytes t_length.toInt) t_length.toInt z_1.toInt (wh blk (Pk t_bytes t_length.toInt) t_length.toInt (0 : Int32).toInt) x_5.toInt x_6.toInt x_7.toInt x_8.toInt x_9.toInt x_10.toInt := hw_4.2.2.2
  refine o_wq hQ ?_
  exact q_vret (rm := (Rm 7 148 0 0)) C hS (x_5, x_6, x_7, x_8, x_9, 0, 0, z_1, x_10) ⟨(show 0 ≤ x_6.toInt ∧ x_6.toInt ≤ 900 by omega), (show (-900) ≤ x_7.toInt ∧ x_7.toInt ≤ 940 by omega), (show 0 ≤ z_1.toInt ∧ z_1.toInt ≤ 900 by omega), (show 0 ≤ x_10.toInt ∧ x_10.toInt ≤ 940 by omega), (show 0 ≤ (0 : Int32).toInt ∧ 0 ≤ (-1) * (0 : Int32).toInt ∧ 0 ≤ (0 : Int32).toInt ∧ 0 ≤ (-1) * (0 : Int32).toInt by have e0 : (0 : Int32).toInt = 0 := (by decide); omega), (show Tc (Pk t_bytes t_length.toInt) t_length.toInt z_1.toInt (wh blk (Pk t_bytes t_length.toInt) t_length.toInt 0) x_5.toInt x_6.toInt x_7.toInt x_8.toInt x_9.toInt x_10.toInt from (by have h9 := hp_13; rw [show (0 : Int32).toInt = 0 by decide] at h9; exact h9)), (show z_1.toInt = lm t_length.toInt v.toInt from (by have h9 := lm_is t_length.toInt v.toInt; omega))⟩ (q_subP hP [0, 1] rfl) (hD.sub [0, 1] (by decide) rfl) hroom.1 hroom.2 dX9_open_31
theorem o_open (l : Launch) (D : va_G) (cy : Nat → ClassId) (t : Nat) (v : Int32) (t_bytes_ : Nat) (t_length : Int32) (t_kind : Int32) (t_place : Int32) (t_size : Int32) (t_value : Int32) (t_word : Int32) (t_faultKind : Int32) (t_faultPlace : Int32) (t_limit : Int32) (t_next : Int32) (t_bytes : Nat → Int32) (sz : Nat) (hb0 : 0 ≤ t_length.toInt ∧ t_length.toInt ≤ 940) (hb1 : 0 ≤ t_place.toInt ∧ t_place.toInt ≤ 900) (hb2 : (-900) ≤ t_size.toInt ∧ t_size.toInt ≤ 940) (hb3 : 0 ≤ t_limit.toInt ∧ t_limit.toInt ≤ 900) (hb4 : 0 ≤ t_next.toInt ∧ t_next.toInt ≤ 940) (hb5 : 0 ≤ v.toInt ∧ v.toInt ≤ 900) (hR0 : Rg t_bytes 0 940 0 255) : MV l yX9_open cX9_open 2 (Rm 7 148 0 0) D cy [.ref t, .int v] sz [(t, .inr (9, [.ref t_bytes_, .int t_length, .int t_kind, .int t_place, .int t_size, .int t_value, .int t_word, .int t_faultKind, .int t_faultPlace, .int t_limit, .int t_next])), (t_bytes_, .inl (cy 1, 940, .inl t_bytes))] (fun u : Int32 × Int32 × Int32 × Int32 × Int32 × Int32 × Int32 × Int32 × Int32 => (0 ≤ u.2.1.toInt ∧ u.2.1.toInt ≤ 900) ∧ ((-900) ≤ u.2.2.1.toInt ∧ u.2.2.1.toInt ≤ 940) ∧ (0 ≤ u.2.2.2.2.2.2.2.1.toInt ∧ u.2.2.2.2.2.2.2.1.toInt ≤ 900) ∧ (0 ≤ u.2.2.2.2.2.2.2.2.toInt ∧ u.2.2.2.2.2.2.2.2.toInt ≤ 940) ∧ (0 ≤ u.2.2.2.2.2.1.toInt ∧ 0 ≤ (-1) * u.2.2.2.2.2.1.toInt ∧ 0 ≤ u.2.2.2.2.2.2.1.toInt ∧ 0 ≤ (-1) * u.2.2.2.2.2.2.1.toInt) ∧ (Tc (Pk t_bytes t_length.toInt) t_length.toInt u.2.2.2.2.2.2.2.1.toInt (wh blk (Pk t_bytes t_length.toInt) t_length.toInt 0) u.1.toInt u.2.1.toInt u.2.2.1.toInt u.2.2.2.1.toInt u.2.2.2.2.1.toInt u.2.2.2.2.2.2.2.2.toInt) ∧ (u.2.2.2.2.2.2.2.1.toInt = lm t_length.toInt v.toInt)) (fun u : Int32 × Int32 × Int32 × Int32 × Int32 × Int32 × Int32 × Int32 × Int32 => [(t, .inr (9, [.ref t_bytes_, .int t_length, .int u.1, .int u.2.1, .int u.2.2.1, .int u.2.2.2.1, .int u.2.2.2.2.1, .int u.2.2.2.2.2.1, .int u.2.2.2.2.2.2.1, .int u.2.2.2.2.2.2.2.1, .int u.2.2.2.2.2.2.2.2])), (t_bytes_, .inl (cy 1, 940, .inl t_bytes))]) := by
  refine MV.enter (by decide) (Nat.le_of_ble_eq_true rfl) ?_
  intro p e s m below meth c ls A hsz hAe C hP hD hS hl
  exact b_o_open l D cy t v t_bytes_ t_length t_kind t_place t_size t_value t_word t_faultKind t_faultPlace t_limit t_next t_bytes hb0 hb1 hb2 hb3 hb4 hb5 hR0 ⟨Nat.le_of_ble_eq_true rfl, Nat.le_of_ble_eq_true rfl⟩ C rfl _ _ ls hP hD hS hl
set_option maxHeartbeats 4000000 in
set_option maxRecDepth 100000 in
theorem b_o_hasNumber (l : Launch) (D : va_G) (cy : Nat → ClassId) (t : Nat) (v : Int32) (w : Int32) (t_bytes_ : Nat) (t_length : Int32) (t_kind : Int32) (t_place : Int32) (t_size : Int32) (t_value : Int32) (t_word : Int32) (t_faultKind : Int32) (t_faultPlace : Int32) (t_limit : Int32) (t_next : Int32) (t_bytes : Nat → Int32) (hb0 : 0 ≤ t_length.toInt ∧ t_length.toInt ≤ 940) (hb1 : 0 ≤ t_place.toInt ∧ t_place.toInt ≤ 900) (hb2 : (-900) ≤ t_size.toInt ∧ t_size.toInt ≤ 940) (hb3 : 0 ≤ t_limit.toInt ∧ t_limit.toInt ≤ 900) (hb4 : 0 ≤ t_next.toInt ∧ t_next.toInt ≤ 940) (hR0 : Rg t_bytes 0 940 0 255) {p : Program} {e : Env} {s : State} {m : MethodId} {args : Array Value} {below : List Frame} {meth : Method} {c : Code} {A : Nat → Prop} {Q : State → Prop} {cells slots : Nat} (hroom : cells ≤ ((Rm 1 21 0 0)).cells ∧ slots ≤ ((Rm 1 21 0 0)).slots) (C : Cx p s m args meth c cX9_hasNumber 3 (some .boolean) RX9 "hasNumber" D cy A) (hQ : Q = MQ below (va_Qi (fun (r : Int32) (u : Int32 × Int32) => (0 ≤ r.toInt ∧ r.toInt ≤ 1) ∧ (0 ≤ t_value.toInt + (-1) * v.toInt + (-17179869184) * r.toInt + 17179869184 ∧ 0 ≤ w.toInt + (-1) * t_value.toInt + (-17179869184) * r.toInt + 17179869184) ∧ ((r.toInt = 1 ∧ t_kind.toInt = 2 ∧ v.toInt ≤ t_value.toInt ∧ t_value.toInt ≤ w.toInt ∧ u.1.toInt = t_faultKind.toInt) ∨ (r.toInt = 0 ∧ t_kind.toInt ≠ 2 ∧ u.1.toInt = 1 ∧ u.2.toInt = t_place.toInt) ∨ (r.toInt = 0 ∧ t_kind.toInt = 2 ∧ (t_value.toInt < v.toInt ∨ w.toInt < t_value.toInt) ∧ u.1.toInt = 2 ∧ u.2.toInt = t_place.toInt))) (Bx D A (fun u : Int32 × Int32 => [(t, .inr (9, [.ref t_bytes_, .int t_length, .int t_kind, .int t_place, .int t_size, .int t_value, .int t_word, .int u.1, .int u.2, .int t_limit, .int t_next])), (t_bytes_, .inl (cy 1, 940, .inl t_bytes))])) A) args s ((Rm 1 21 0 0)).cells ((Rm 1 21 0 0)).slots A) (H : Heap) (locs : List Loc) (ls : Array Slot) (hP : va_P D vwCl [(t, .inr (9, [.ref t_bytes_, .int t_length, .int t_kind, .int t_place, .int t_size, .int t_value, .int t_word, .int t_faultKind, .int t_faultPlace, .int t_limit, .int t_next])), (t_bytes_, .inl (cy 1, 940, .inl t_bytes))] H) (hD : va_D A [(t, .inr (9, [.ref t_bytes_, .int t_length, .int t_kind, .int t_place, .int t_size, .int t_value, .int t_word, .int t_faultKind, .int t_faultPlace, .int t_limit, .int t_next])), (t_bytes_, .inl (cy 1, 940, .inl t_bytes))]) (hS : va_S A s.heap H locs) (hl : lv_has ls 3 [(0, .ref t), (1, .int v), (2, .int w)]) : W p l e (Rm 1 21 0 0) s m args below meth c H locs cells slots Q (F0 m 0 ls []) := by
  have hx := C.1
  have hb := C.2.1
  have hqv := o_rng v
  have hqw := o_rng w
  have hqt_kind := o_rng t_kind
  have hqt_value := o_rng t_value
  have hqt_word := o_rng t_word
  have hqt_faultKind := o_rng t_faultKind
  have hqt_faultPlace := o_rng t_faultPlace
  refine lv_aload_n hx hb dX9_hasNumber_0 rfl (lv_at hl 0 rfl) ?_
  refine q_get (v := .int t_kind) C hP 0 2 rfl rfl inX9 (by decide) kF_RX9_19 rfl rfl dX9_hasNumber_1 ?_
  refine lv_iconst (v := 2) hx hb dX9_hasNumber_4 (by decide) ?_
  refine lv_icmp_eq (tgt := 14) hx hb dX9_hasNumber_5 (by decide) (fun c_1 => ?_) (fun c_1 => ?_)
  · have hc_1 := o_eq (rfl : t_kind.toInt = t_kind.toInt) (by decide : (2 : Int32).toInt = 2) c_1
    refine lv_aload_n hx hb dX9_hasNumber_14 rfl (lv_at hl 0 rfl) ?_
    refine q_get (v := .int t_value) C hP 0 5 rfl rfl inX9 (by decide) kF_RX9_28 rfl rfl dX9_hasNumber_15 ?_
    refine lv_iload_n hx hb dX9_hasNumber_18 rfl (lv_at hl 1 rfl) ?_
    refine lv_icmp_lt (tgt := 30) hx hb dX9_hasNumber_19 (by decide) (fun c_2 => ?_) (fun c_2 => ?_)
    · have hc_2 := o_lt (rfl : t_value.toInt = t_value.toInt) (rfl : v.toInt = v.toInt) c_2
      refine lv_aload_n hx hb dX9_hasNumber_30 rfl (lv_at hl 0 rfl) ?_
      refine lv_iconst (v := 2) hx hb dX9_hasNumber_31 (by decide) ?_
      refine q_ai (wr := []) (r_V (rm := (Rm 0 0 0 0)) (q0 := 0) (As := [.int 2]) (rest := []) (wc := [(t, .inr (9, [.ref t_bytes_, .int t_length, .int t_kind, .int t_place, .int t_size, .int t_value, .int t_word, .int t_faultKind, .int t_faultPlace, .int t_limit, .int t_next])), (t_bytes_, .inl (cy 1, 940, .inl t_bytes))]) C hS (q_subP hP [0, 1] rfl) (hD.sub [0, 1] (by decide) rfl) (o_fail l D cy t 2 t_bytes_ t_length t_kind t_place t_size t_value t_word t_faultKind t_faultPlace t_limit t_next t_bytes _ (by omega) (by omega) (by omega) (by omega) (by omega) hR0) kwV_X9_fail kM_RX9_85 rfl rfl ⟨Nat.le_of_ble_eq_true rfl, Nat.le_of_ble_eq_true rfl⟩ rfl hl.1 rfl (Nat.le_of_ble_eq_true rfl) dX9_hasNumber_32 ⟨hroom.1, hroom.2⟩) C.2.2.2.2.2.2.1 hP hD hS [0, 1] [] rfl rfl (by decide) (by decide) (fun r_4 u_3 H locs hw_5 hP hD hS => ?_)
      obtain ⟨x_6, x_7⟩ := u_3
      have hP : va_P D vwCl [(t, .inr (9, [.ref t_bytes_, .int t_length, .int t_kind, .int t_place, .int t_size, .int t_value, .int t_word, .int x_6, .int x_7, .int t_limit, .int t_next])), (t_bytes_, .inl (cy 1, 940, .inl t_bytes))] H := hP
      have hD : va_D A [(t, .inr (9, [.ref t_bytes_, .int t_length, .int t_kind, .int t_place, .int t_size, .int t_value, .int t_word, .int x_6, .int x_7, .int t_limit, .int t_next])), (t_bytes_, .inl (cy 1, 940, .inl t_bytes))] := hD
      have hp_7 : 0 ≤ r_4.toInt ∧ r_4.toInt ≤ 0 := hw_5.1
      have hp_8 : 0 ≤ x_6.toInt + (-2) ∧ 0 ≤ (-1) * x_6.toInt + 2 ∧ 0 ≤ x_7.toInt + (-1) * t_place.toInt ∧ 0 ≤ (-1) * x_7.toInt + t_place.toInt := by have e0 : (2 : Int32).toInt = 2 := (by decide); have h0 : 0 ≤ x_6.toInt + (-1) * (2 : Int32).toInt ∧ 0 ≤ (-1) * x_6.toInt + (2 : Int32).toInt ∧ 0 ≤ x_7.toInt + (-1) * t_place.toInt ∧ 0 ≤ (-1) * x_7.toInt + t_place.toInt := hw_5.2; omega
      obtain rfl : r_4 = 0 := o_meq (b := 0) rfl (by decide) (by omega)
      refine lv_if_eq (tgt := 42) hx hb dX9_hasNumber_35 (by decide) (fun _ => ?_) (fun c_0 => absurd (by decide) c_0)
      refine lv_iconst (v := 0) hx hb dX9_hasNumber_42 (by decide) ?_
      refine o_wq hQ ?_
      exact q_iret (rm := (Rm 1 21 0 0)) C hS (x_6, x_7) rfl ⟨(show 0 ≤ (0 : Int32).toInt ∧ (0 : Int32).toInt ≤ 1 by decide), (show 0 ≤ t_value.toInt + (-1) * v.toInt + (-17179869184) * (0 : Int32).toInt + 17179869184 ∧ 0 ≤ w.toInt + (-1) * t_value.toInt + (-17179869184) * (0 : Int32).toInt + 17179869184 by have e0 : (0 : Int32).toInt = 0 := (by decide); omega), (show ((0 : Int32).toInt = 1 ∧ t_kind.toInt = 2 ∧ v.toInt ≤ t_value.toInt ∧ t_value.toInt ≤ w.toInt ∧ x_6.toInt = t_faultKind.toInt) ∨ ((0 : Int32).toInt = 0 ∧ t_kind.toInt ≠ 2 ∧ x_6.toInt = 1 ∧ x_7.toInt = t_place.toInt) ∨ ((0 : Int32).toInt = 0 ∧ t_kind.toInt = 2 ∧ (t_value.toInt < v.toInt ∨ w.toInt < t_value.toInt) ∧ x_6.toInt = 2 ∧ x_7.toInt = t_place.toInt) from (by have e0 : (0 : Int32).toInt = 0 := (by decide); have e1 : (1 : Int32).toInt = 1 := (by decide); omega))⟩ (q_subP hP [0, 1] rfl) (hD.sub [0, 1] (by decide) rfl) hroom.1 hroom.2 dX9_hasNumber_43
    · have hc_2 := o_nlt (rfl : t_value.toInt = t_value.toInt) (rfl : v.toInt = v.toInt) c_2
      refine lv_aload_n hx hb dX9_hasNumber_22 rfl (lv_at hl 0 rfl) ?_
      refine q_get (v := .int t_value) C hP 0 5 rfl rfl inX9 (by decide) kF_RX9_28 rfl rfl dX9_hasNumber_23 ?_
      refine lv_iload_n hx hb dX9_hasNumber_26 rfl (lv_at hl 2 rfl) ?_
      refine lv_icmp_le (tgt := 38) hx hb dX9_hasNumber_27 (by decide) (fun c_10 => ?_) (fun c_10 => ?_)
      · have hc_10 := o_le (rfl : t_value.toInt = t_value.toInt) (rfl : w.toInt = w.toInt) c_10
        refine lv_iconst (v := 1) hx hb dX9_hasNumber_38 (by decide) ?_
        refine lv_goto (tgt := 43) hx hb dX9_hasNumber_39 (by decide) ?_
        refine o_wq hQ ?_
        exact q_iret (rm := (Rm 1 21 0 0)) C hS (t_faultKind, t_faultPlace) rfl ⟨(show 0 ≤ (1 : Int32).toInt ∧ (1 : Int32).toInt ≤ 1 by decide), (show 0 ≤ t_value.toInt + (-1) * v.toInt + (-17179869184) * (1 : Int32).toInt + 17179869184 ∧ 0 ≤ w.toInt + (-1) * t_value.toInt + (-17179869184) * (1 : Int32).toInt + 17179869184 by have e0 : (1 : Int32).toInt = 1 := (by decide); omega), (show ((1 : Int32).toInt = 1 ∧ t_kind.toInt = 2 ∧ v.toInt ≤ t_value.toInt ∧ t_value.toInt ≤ w.toInt ∧ t_faultKind.toInt = t_faultKind.toInt) ∨ ((1 : Int32).toInt = 0 ∧ t_kind.toInt ≠ 2 ∧ t_faultKind.toInt = 1 ∧ t_faultPlace.toInt = t_place.toInt) ∨ ((1 : Int32).toInt = 0 ∧ t_kind.toInt = 2 ∧ (t_value.toInt < v.toInt ∨ w.toInt < t_value.toInt) ∧ t_faultKind.toInt = 2 ∧ t_faultPlace.toInt = t_place.toInt) from (by have e0 : (0 : Int32).toInt = 0 := (by decide); have e1 : (1 : Int32).toInt = 1 := (by decide); omega))⟩ (q_subP hP [0, 1] rfl) (hD.sub [0, 1] (by decide) rfl) hroom.1 hroom.2 dX9_hasNumber_43
      · have hc_10 := o_nle (rfl : t_value.toInt = t_value.toInt) (rfl : w.toInt = w.toInt) c_10
        refine lv_aload_n hx hb dX9_hasNumber_30 rfl (lv_at hl 0 rfl) ?_
        refine lv_iconst (v := 2) hx hb dX9_hasNumber_31 (by decide) ?_
        refine q_ai (wr := []) (r_V (rm := (Rm 0 0 0 0)) (q0 := 0) (As := [.int 2]) (rest := []) (wc := [(t, .inr (9, [.ref t_bytes_, .int t_length, .int t_kind, .int t_place, .int t_size, .int t_value, .int t_word, .int t_faultKind, .int t_faultPlace, .int t_limit, .int t_next])), (t_bytes_, .inl (cy 1, 940, .inl t_bytes))]) C hS (q_subP hP [0, 1] rfl) (hD.sub [0, 1] (by decide) rfl) (o_fail l D cy t 2 t_bytes_ t_length t_kind t_place t_size t_value t_word t_faultKind t_faultPlace t_limit t_next t_bytes _ (by omega) (by omega) (by omega) (by omega) (by omega) hR0) kwV_X9_fail kM_RX9_85 rfl rfl ⟨Nat.le_of_ble_eq_true rfl, Nat.le_of_ble_eq_true rfl⟩ rfl hl.1 rfl (Nat.le_of_ble_eq_true rfl) dX9_hasNumber_32 ⟨hroom.1, hroom.2⟩) C.2.2.2.2.2.2.1 hP hD hS [0, 1] [] rfl rfl (by decide) (by decide) (fun r_12 u_11 H locs hw_13 hP hD hS => ?_)
        obtain ⟨x_14, x_15⟩ := u_11
        have hP : va_P D vwCl [(t, .inr (9, [.ref t_bytes_, .int t_length, .int t_kind, .int t_place, .int t_size, .int t_value, .int t_word, .int x_14, .int x_15, .int t_limit, .int t_next])), (t_bytes_, .inl (cy 1, 940, .inl t_bytes))] H := hP
        have hD : va_D A [(t, .inr (9, [.ref t_bytes_, .int t_length, .int t_kind, .int t_place, .int t_size, .int t_value, .int t_word, .int x_14, .int x_15, .int t_limit, .int t_next])), (t_bytes_, .inl (cy 1, 940, .inl t_bytes))] := hD
        have hp_15 : 0 ≤ r_12.toInt ∧ r_12.toInt ≤ 0 := hw_13.1
        have hp_16 : 0 ≤ x_14.toInt + (-2) ∧ 0 ≤ (-1) * x_14.toInt + 2 ∧ 0 ≤ x_15.toInt + (-1) * t_place.toInt ∧ 0 ≤ (-1) * x_15.toInt + t_place.toInt := by have e0 : (2 : Int32).toInt = 2 := (by decide); have h0 : 0 ≤ x_14.toInt + (-1) * (2 : Int32).toInt ∧ 0 ≤ (-1) * x_14.toInt + (2 : Int32).toInt ∧ 0 ≤ x_15.toInt + (-1) * t_place.toInt ∧ 0 ≤ (-1) * x_15.toInt + t_place.toInt := hw_13.2; omega
        obtain rfl : r_12 = 0 := o_meq (b := 0) rfl (by decide) (by omega)
        refine lv_if_eq (tgt := 42) hx hb dX9_hasNumber_35 (by decide) (fun _ => ?_) (fun c_0 => absurd (by decide) c_0)
        refine lv_iconst (v := 0) hx hb dX9_hasNumber_42 (by decide) ?_
        refine o_wq hQ ?_
        exact q_iret (rm := (Rm 1 21 0 0)) C hS (x_14, x_15) rfl ⟨(show 0 ≤ (0 : Int32).toInt ∧ (0 : Int32).toInt ≤ 1 by decide), (show 0 ≤ t_value.toInt + (-1) * v.toInt + (-17179869184) * (0 : Int32).toInt + 17179869184 ∧ 0 ≤ w.toInt + (-1) * t_value.toInt + (-17179869184) * (0 : Int32).toInt + 17179869184 by have e0 : (0 : Int32).toInt = 0 := (by decide); omega), (show ((0 : Int32).toInt = 1 ∧ t_kind.toInt = 2 ∧ v.toInt ≤ t_value.toInt ∧ t_value.toInt ≤ w.toInt ∧ x_14.toInt = t_faultKind.toInt) ∨ ((0 : Int32).toInt = 0 ∧ t_kind.toInt ≠ 2 ∧ x_14.toInt = 1 ∧ x_15.toInt = t_place.toInt) ∨ ((0 : Int32).toInt = 0 ∧ t_kind.toInt = 2 ∧ (t_value.toInt < v.toInt ∨ w.toInt < t_value.toInt) ∧ x_14.toInt = 2 ∧ x_15.toInt = t_place.toInt) from (by have e0 : (0 : Int32).toInt = 0 := (by decide); have e1 : (1 : Int32).toInt = 1 := (by decide); omega))⟩ (q_subP hP [0, 1] rfl) (hD.sub [0, 1] (by decide) rfl) hroom.1 hroom.2 dX9_hasNumber_43
  · have hc_1 := o_ne (rfl : t_kind.toInt = t_kind.toInt) (by decide : (2 : Int32).toInt = 2) c_1
    refine lv_aload_n hx hb dX9_hasNumber_8 rfl (lv_at hl 0 rfl) ?_
    refine lv_iconst (v := 1) hx hb dX9_hasNumber_9 (by decide) ?_
    refine q_ai (wr := []) (r_V (rm := (Rm 0 0 0 0)) (q0 := 0) (As := [.int 1]) (rest := []) (wc := [(t, .inr (9, [.ref t_bytes_, .int t_length, .int t_kind, .int t_place, .int t_size, .int t_value, .int t_word, .int t_faultKind, .int t_faultPlace, .int t_limit, .int t_next])), (t_bytes_, .inl (cy 1, 940, .inl t_bytes))]) C hS (q_subP hP [0, 1] rfl) (hD.sub [0, 1] (by decide) rfl) (o_fail l D cy t 1 t_bytes_ t_length t_kind t_place t_size t_value t_word t_faultKind t_faultPlace t_limit t_next t_bytes _ (by omega) (by omega) (by omega) (by omega) (by omega) hR0) kwV_X9_fail kM_RX9_85 rfl rfl ⟨Nat.le_of_ble_eq_true rfl, Nat.le_of_ble_eq_true rfl⟩ rfl hl.1 rfl (Nat.le_of_ble_eq_true rfl) dX9_hasNumber_10 ⟨hroom.1, hroom.2⟩) C.2.2.2.2.2.2.1 hP hD hS [0, 1] [] rfl rfl (by decide) (by decide) (fun r_19 u_18 H locs hw_20 hP hD hS => ?_)
    obtain ⟨x_21, x_22⟩ := u_18
    have hP : va_P D vwCl [(t, .inr (9, [.ref t_bytes_, .int t_length, .int t_kind, .int t_place, .int t_size, .int t_value, .int t_word, .int x_21, .int x_22, .int t_limit, .int t_next])), (t_bytes_, .inl (cy 1, 940, .inl t_bytes))] H := hP
    have hD : va_D A [(t, .inr (9, [.ref t_bytes_, .int t_length, .int t_kind, .int t_place, .int t_size, .int t_value, .int t_word, .int x_21, .int x_22, .int t_limit, .int t_next])), (t_bytes_, .inl (cy 1, 940, .inl t_bytes))] := hD
    have hp_22 : 0 ≤ r_19.toInt ∧ r_19.toInt ≤ 0 := hw_20.1
    have hp_23 : 0 ≤ x_21.toInt + (-1) ∧ 0 ≤ (-1) * x_21.toInt + 1 ∧ 0 ≤ x_22.toInt + (-1) * t_place.toInt ∧ 0 ≤ (-1) * x_22.toInt + t_place.toInt := by have e0 : (1 : Int32).toInt = 1 := (by decide); have h0 : 0 ≤ x_21.toInt + (-1) * (1 : Int32).toInt ∧ 0 ≤ (-1) * x_21.toInt + (1 : Int32).toInt ∧ 0 ≤ x_22.toInt + (-1) * t_place.toInt ∧ 0 ≤ (-1) * x_22.toInt + t_place.toInt := hw_20.2; omega
    obtain rfl : r_19 = 0 := o_meq (b := 0) rfl (by decide) (by omega)
    refine o_wq hQ ?_
    exact q_iret (rm := (Rm 1 21 0 0)) C hS (x_21, x_22) rfl ⟨(show 0 ≤ (0 : Int32).toInt ∧ (0 : Int32).toInt ≤ 1 by decide), (show 0 ≤ t_value.toInt + (-1) * v.toInt + (-17179869184) * (0 : Int32).toInt + 17179869184 ∧ 0 ≤ w.toInt + (-1) * t_value.toInt + (-17179869184) * (0 : Int32).toInt + 17179869184 by have e0 : (0 : Int32).toInt = 0 := (by decide); omega), (show ((0 : Int32).toInt = 1 ∧ t_kind.toInt = 2 ∧ v.toInt ≤ t_value.toInt ∧ t_value.toInt ≤ w.toInt ∧ x_21.toInt = t_faultKind.toInt) ∨ ((0 : Int32).toInt = 0 ∧ t_kind.toInt ≠ 2 ∧ x_21.toInt = 1 ∧ x_22.toInt = t_place.toInt) ∨ ((0 : Int32).toInt = 0 ∧ t_kind.toInt = 2 ∧ (t_value.toInt < v.toInt ∨ w.toInt < t_value.toInt) ∧ x_21.toInt = 2 ∧ x_22.toInt = t_place.toInt) from (by have e0 : (0 : Int32).toInt = 0 := (by decide); have e1 : (1 : Int32).toInt = 1 := (by decide); omega))⟩ (q_subP hP [0, 1] rfl) (hD.sub [0, 1] (by decide) rfl) hroom.1 hroom.2 dX9_hasNumber_13
theorem o_hasNumber (l : Launch) (D : va_G) (cy : Nat → ClassId) (t : Nat) (v : Int32) (w : Int32) (t_bytes_ : Nat) (t_length : Int32) (t_kind : Int32) (t_place : Int32) (t_size : Int32) (t_value : Int32) (t_word : Int32) (t_faultKind : Int32) (t_faultPlace : Int32) (t_limit : Int32) (t_next : Int32) (t_bytes : Nat → Int32) (sz : Nat) (hb0 : 0 ≤ t_length.toInt ∧ t_length.toInt ≤ 940) (hb1 : 0 ≤ t_place.toInt ∧ t_place.toInt ≤ 900) (hb2 : (-900) ≤ t_size.toInt ∧ t_size.toInt ≤ 940) (hb3 : 0 ≤ t_limit.toInt ∧ t_limit.toInt ≤ 900) (hb4 : 0 ≤ t_next.toInt ∧ t_next.toInt ≤ 940) (hR0 : Rg t_bytes 0 940 0 255) : MI l yX9_hasNumber cX9_hasNumber 3 (some .boolean) (Rm 1 21 0 0) D cy [.ref t, .int v, .int w] sz [(t, .inr (9, [.ref t_bytes_, .int t_length, .int t_kind, .int t_place, .int t_size, .int t_value, .int t_word, .int t_faultKind, .int t_faultPlace, .int t_limit, .int t_next])), (t_bytes_, .inl (cy 1, 940, .inl t_bytes))] (fun (r : Int32) (u : Int32 × Int32) => (0 ≤ r.toInt ∧ r.toInt ≤ 1) ∧ (0 ≤ t_value.toInt + (-1) * v.toInt + (-17179869184) * r.toInt + 17179869184 ∧ 0 ≤ w.toInt + (-1) * t_value.toInt + (-17179869184) * r.toInt + 17179869184) ∧ ((r.toInt = 1 ∧ t_kind.toInt = 2 ∧ v.toInt ≤ t_value.toInt ∧ t_value.toInt ≤ w.toInt ∧ u.1.toInt = t_faultKind.toInt) ∨ (r.toInt = 0 ∧ t_kind.toInt ≠ 2 ∧ u.1.toInt = 1 ∧ u.2.toInt = t_place.toInt) ∨ (r.toInt = 0 ∧ t_kind.toInt = 2 ∧ (t_value.toInt < v.toInt ∨ w.toInt < t_value.toInt) ∧ u.1.toInt = 2 ∧ u.2.toInt = t_place.toInt))) (fun u : Int32 × Int32 => [(t, .inr (9, [.ref t_bytes_, .int t_length, .int t_kind, .int t_place, .int t_size, .int t_value, .int t_word, .int u.1, .int u.2, .int t_limit, .int t_next])), (t_bytes_, .inl (cy 1, 940, .inl t_bytes))]) := by
  refine MI.enter (by decide) (Nat.le_of_ble_eq_true rfl) ?_
  intro p e s m below meth c ls A hsz hAe C hP hD hS hl
  exact b_o_hasNumber l D cy t v w t_bytes_ t_length t_kind t_place t_size t_value t_word t_faultKind t_faultPlace t_limit t_next t_bytes hb0 hb1 hb2 hb3 hb4 hR0 ⟨Nat.le_of_ble_eq_true rfl, Nat.le_of_ble_eq_true rfl⟩ C rfl _ _ ls hP hD hS hl
set_option maxHeartbeats 4000000 in
set_option maxRecDepth 100000 in
theorem b_o_passSignX (l : Launch) (D : va_G) (cy : Nat → ClassId) (t : Nat) (v : Int32) (t_bytes_ : Nat) (t_length : Int32) (t_kind : Int32) (t_place : Int32) (t_size : Int32) (t_value : Int32) (t_word : Int32) (t_faultKind : Int32) (t_faultPlace : Int32) (t_limit : Int32) (t_next : Int32) (t_bytes : Nat → Int32) (gq : Int) (hb0 : 0 ≤ t_length.toInt ∧ t_length.toInt ≤ 940) (hb1 : 0 ≤ t_place.toInt ∧ t_place.toInt ≤ 900) (hb2 : (-900) ≤ t_size.toInt ∧ t_size.toInt ≤ 940) (hb3 : 0 ≤ t_limit.toInt ∧ t_limit.toInt ≤ 900) (hb4 : 0 ≤ t_next.toInt ∧ t_next.toInt ≤ 940) (hb5 : 40 ≤ v.toInt ∧ v.toInt ≤ 62) (hR0 : Rg t_bytes 0 940 0 255) (hX0 : Tc (Pk t_bytes t_length.toInt) t_length.toInt t_limit.toInt gq t_kind.toInt t_place.toInt t_size.toInt t_value.toInt t_word.toInt t_next.toInt) {p : Program} {e : Env} {s : State} {m : MethodId} {args : Array Value} {below : List Frame} {meth : Method} {c : Code} {A : Nat → Prop} {Q : State → Prop} {cells slots : Nat} (hroom : cells ≤ ((Rm 7 148 0 0)).cells ∧ slots ≤ ((Rm 7 148 0 0)).slots) (C : Cx p s m args meth c cX9_passSign 2 (some .boolean) RX9 "passSign" D cy A) (hQ : Q = MQ below (va_Qi (fun (r : Int32) (u : Int32 × Int32 × Int32 × Int32 × Int32 × Int32 × Int32 × Int32) => (0 ≤ r.toInt ∧ r.toInt ≤ 1) ∧ (0 ≤ u.2.1.toInt ∧ u.2.1.toInt ≤ 900) ∧ ((-900) ≤ u.2.2.1.toInt ∧ u.2.2.1.toInt ≤ 940) ∧ (0 ≤ u.2.2.2.2.2.2.2.toInt ∧ u.2.2.2.2.2.2.2.toInt ≤ 940) ∧ ((r.toInt = 1 ∧ sSgn (Pk t_bytes t_length.toInt) t_length.toInt t_limit.toInt v.toInt gq = .inr (av (Pk t_bytes t_length.toInt) t_length.toInt t_limit.toInt gq) ∧ Tc (Pk t_bytes t_length.toInt) t_length.toInt t_limit.toInt (av (Pk t_bytes t_length.toInt) t_length.toInt t_limit.toInt gq) u.1.toInt u.2.1.toInt u.2.2.1.toInt u.2.2.2.1.toInt u.2.2.2.2.1.toInt u.2.2.2.2.2.2.2.toInt ∧ u.2.2.2.2.2.1.toInt = t_faultKind.toInt) ∨ (r.toInt = 0 ∧ sSgn (Pk t_bytes t_length.toInt) t_length.toInt t_limit.toInt v.toInt gq = .inl (u.2.2.2.2.2.1.toInt, u.2.2.2.2.2.2.1.toInt) ∧ 1 ≤ u.2.2.2.2.2.1.toInt))) (Bx D A (fun u : Int32 × Int32 × Int32 × Int32 × Int32 × Int32 × Int32 × Int32 => [(t, .inr (9, [.ref t_bytes_, .int t_length, .int u.1, .int u.2.1, .int u.2.2.1, .int u.2.2.2.1, .int u.2.2.2.2.1, .int u.2.2.2.2.2.1, .int u.2.2.2.2.2.2.1, .int t_limit, .int u.2.2.2.2.2.2.2])), (t_bytes_, .inl (cy 1, 940, .inl t_bytes))])) A) args s ((Rm 7 148 0 0)).cells ((Rm 7 148 0 0)).slots A) (H : Heap) (locs : List Loc) (ls : Array Slot) (hP : va_P D vwCl [(t, .inr (9, [.ref t_bytes_, .int t_length, .int t_kind, .int t_place, .int t_size, .int t_value, .int t_word, .int t_faultKind, .int t_faultPlace, .int t_limit, .int t_next])), (t_bytes_, .inl (cy 1, 940, .inl t_bytes))] H) (hD : va_D A [(t, .inr (9, [.ref t_bytes_, .int t_length, .int t_kind, .int t_place, .int t_size, .int t_value, .int t_word, .int t_faultKind, .int t_faultPlace, .int t_limit, .int t_next])), (t_bytes_, .inl (cy 1, 940, .inl t_bytes))]) (hS : va_S A s.heap H locs) (hl : lv_has ls 2 [(0, .ref t), (1, .int v)]) : W p l e (Rm 7 148 0 0) s m args below meth c H locs cells slots Q (F0 m 0 ls []) := by
  have hx := C.1
  have hb := C.2.1
  have hq_0 := Tc.lin hX0
  refine lv_aload_n hx hb dX9_passSign_0 rfl (lv_at hl 0 rfl) ?_
  refine q_get (v := .int t_kind) C hP 0 2 rfl rfl inX9 (by decide) kF_RX9_19 rfl rfl dX9_passSign_1 ?_
  refine lv_iload_n hx hb dX9_passSign_4 rfl (lv_at hl 1 rfl) ?_
  refine lv_icmp_eq (tgt := 14) hx hb dX9_passSign_5 (by decide) (fun c_2 => ?_) (fun c_2 => ?_)
  · have hc_2 := o_eq (rfl : t_kind.toInt = t_kind.toInt) (rfl : v.toInt = v.toInt) c_2
    refine lv_aload_n hx hb dX9_passSign_14 rfl (lv_at hl 0 rfl) ?_
    refine q_av (wr := []) (r_V (rm := (Rm 6 128 0 0)) (q0 := 0) (As := []) (rest := []) (wc := [(t, .inr (9, [.ref t_bytes_, .int t_length, .int t_kind, .int t_place, .int t_size, .int t_value, .int t_word, .int t_faultKind, .int t_faultPlace, .int t_limit, .int t_next])), (t_bytes_, .inl (cy 1, 940, .inl t_bytes))]) C hS (q_subP hP [0, 1] rfl) (hD.sub [0, 1] (by decide) rfl) (o_advanceX l D cy t t_bytes_ t_length t_kind t_place t_size t_value t_word t_faultKind t_faultPlace t_limit t_next t_bytes _ (by omega) (by omega) (by omega) (by omega) (by omega) (by omega) hR0) kwV_X9_advance kM_RX9_52 rfl rfl ⟨Nat.le_of_ble_eq_true rfl, Nat.le_of_ble_eq_true rfl⟩ rfl hl.1 rfl (Nat.le_of_ble_eq_true rfl) dX9_passSign_15 ⟨hroom.1, hroom.2⟩) C.2.2.2.2.2.2.1 hP hD hS [0, 1] [] rfl rfl (by decide) (by decide) (fun u_3 H locs hw_5 hP hD hS => ?_)
    obtain ⟨x_6, x_7, x_8, x_9, x_10, x_11⟩ := u_3
    have hP : va_P D vwCl [(t, .inr (9, [.ref t_bytes_, .int t_length, .int x_6, .int x_7, .int x_8, .int x_9, .int x_10, .int t_faultKind, .int t_faultPlace, .int t_limit, .int x_11])), (t_bytes_, .inl (cy 1, 940, .inl t_bytes))] H := hP
    have hD : va_D A [(t, .inr (9, [.ref t_bytes_, .int t_length, .int x_6, .int x_7, .int x_8, .int x_9, .int x_10, .int t_faultKind, .int t_faultPlace, .int t_limit, .int x_11])), (t_bytes_, .inl (cy 1, 940, .inl t_bytes))] := hD
    have hp_11 : 0 ≤ x_7.toInt ∧ x_7.toInt ≤ 900 := hw_5.1
    have hp_12 : (-900) ≤ x_8.toInt ∧ x_8.toInt ≤ 940 := hw_5.2.1
    have hp_13 : 0 ≤ x_11.toInt ∧ x_11.toInt ≤ 940 := hw_5.2.2.1
    have hp_14 : Tc (Pk t_bytes t_length.toInt) t_length.toInt t_limit.toInt (wh blk (Pk t_bytes t_length.toInt) t_length.toInt t_next.toInt) x_6.toInt x_7.toInt x_8.toInt x_9.toInt x_10.toInt x_11.toInt := hw_5.2.2.2
    have hq_15 : Tc (Pk t_bytes t_length.toInt) t_length.toInt t_limit.toInt (av (Pk t_bytes t_length.toInt) t_length.toInt t_limit.toInt gq) x_6.toInt x_7.toInt x_8.toInt x_9.toInt x_10.toInt x_11.toInt := Tc.adv hX0 hp_14
    have hq_16 := Tc.lin hq_15
    have hq_17 : gq ≤ av (Pk t_bytes t_length.toInt) t_length.toInt t_limit.toInt gq := av_ge
    refine lv_iconst (v := 1) hx hb dX9_passSign_18 (by decide) ?_
    refine o_wq hQ ?_
    exact q_iret (rm := (Rm 7 148 0 0)) C hS (x_6, x_7, x_8, x_9, x_10, t_faultKind, t_faultPlace, x_11) rfl ⟨(show 0 ≤ (1 : Int32).toInt ∧ (1 : Int32).toInt ≤ 1 by decide), (show 0 ≤ x_7.toInt ∧ x_7.toInt ≤ 900 by omega), (show (-900) ≤ x_8.toInt ∧ x_8.toInt ≤ 940 by omega), (show 0 ≤ x_11.toInt ∧ x_11.toInt ≤ 940 by omega), (show ((1 : Int32).toInt = 1 ∧ sSgn (Pk t_bytes t_length.toInt) t_length.toInt t_limit.toInt v.toInt gq = .inr (av (Pk t_bytes t_length.toInt) t_length.toInt t_limit.toInt gq) ∧ Tc (Pk t_bytes t_length.toInt) t_length.toInt t_limit.toInt (av (Pk t_bytes t_length.toInt) t_length.toInt t_limit.toInt gq) x_6.toInt x_7.toInt x_8.toInt x_9.toInt x_10.toInt x_11.toInt ∧ t_faultKind.toInt = t_faultKind.toInt) ∨ ((1 : Int32).toInt = 0 ∧ sSgn (Pk t_bytes t_length.toInt) t_length.toInt t_limit.toInt v.toInt gq = .inl (t_faultKind.toInt, t_faultPlace.toInt) ∧ 1 ≤ t_faultKind.toInt) from (Or.inl ⟨by decide, sSgn_cok hX0 (by omega) (by omega), hq_15, rfl⟩))⟩ (q_subP hP [0, 1] rfl) (hD.sub [0, 1] (by decide) rfl) hroom.1 hroom.2 dX9_passSign_19
  · have hc_2 := o_ne (rfl : t_kind.toInt = t_kind.toInt) (rfl : v.toInt = v.toInt) c_2
    refine lv_aload_n hx hb dX9_passSign_8 rfl (lv_at hl 0 rfl) ?_
    refine lv_iconst (v := 1) hx hb dX9_passSign_9 (by decide) ?_
    refine q_ai (wr := []) (r_V (rm := (Rm 0 0 0 0)) (q0 := 0) (As := [.int 1]) (rest := []) (wc := [(t, .inr (9, [.ref t_bytes_, .int t_length, .int t_kind, .int t_place, .int t_size, .int t_value, .int t_word, .int t_faultKind, .int t_faultPlace, .int t_limit, .int t_next])), (t_bytes_, .inl (cy 1, 940, .inl t_bytes))]) C hS (q_subP hP [0, 1] rfl) (hD.sub [0, 1] (by decide) rfl) (o_fail l D cy t 1 t_bytes_ t_length t_kind t_place t_size t_value t_word t_faultKind t_faultPlace t_limit t_next t_bytes _ (by omega) (by omega) (by omega) (by omega) (by omega) hR0) kwV_X9_fail kM_RX9_85 rfl rfl ⟨Nat.le_of_ble_eq_true rfl, Nat.le_of_ble_eq_true rfl⟩ rfl hl.1 rfl (Nat.le_of_ble_eq_true rfl) dX9_passSign_10 ⟨hroom.1, hroom.2⟩) C.2.2.2.2.2.2.1 hP hD hS [0, 1] [] rfl rfl (by decide) (by decide) (fun r_20 u_19 H locs hw_21 hP hD hS => ?_)
    obtain ⟨x_22, x_23⟩ := u_19
    have hP : va_P D vwCl [(t, .inr (9, [.ref t_bytes_, .int t_length, .int t_kind, .int t_place, .int t_size, .int t_value, .int t_word, .int x_22, .int x_23, .int t_limit, .int t_next])), (t_bytes_, .inl (cy 1, 940, .inl t_bytes))] H := hP
    have hD : va_D A [(t, .inr (9, [.ref t_bytes_, .int t_length, .int t_kind, .int t_place, .int t_size, .int t_value, .int t_word, .int x_22, .int x_23, .int t_limit, .int t_next])), (t_bytes_, .inl (cy 1, 940, .inl t_bytes))] := hD
    have hp_23 : 0 ≤ r_20.toInt ∧ r_20.toInt ≤ 0 := hw_21.1
    have hp_24 : 0 ≤ x_22.toInt + (-1) ∧ 0 ≤ (-1) * x_22.toInt + 1 ∧ 0 ≤ x_23.toInt + (-1) * t_place.toInt ∧ 0 ≤ (-1) * x_23.toInt + t_place.toInt := by have e0 : (1 : Int32).toInt = 1 := (by decide); have h0 : 0 ≤ x_22.toInt + (-1) * (1 : Int32).toInt ∧ 0 ≤ (-1) * x_22.toInt + (1 : Int32).toInt ∧ 0 ≤ x_23.toInt + (-1) * t_place.toInt ∧ 0 ≤ (-1) * x_23.toInt + t_place.toInt := hw_21.2; omega
    obtain rfl : r_20 = 0 := o_meq (b := 0) rfl (by decide) (by omega)
    refine o_wq hQ ?_
    exact q_iret (rm := (Rm 7 148 0 0)) C hS (t_kind, t_place, t_size, t_value, t_word, x_22, x_23, t_next) rfl ⟨(show 0 ≤ (0 : Int32).toInt ∧ (0 : Int32).toInt ≤ 1 by decide), (show 0 ≤ t_place.toInt ∧ t_place.toInt ≤ 900 by omega), (show (-900) ≤ t_size.toInt ∧ t_size.toInt ≤ 940 by omega), (show 0 ≤ t_next.toInt ∧ t_next.toInt ≤ 940 by omega), (show ((0 : Int32).toInt = 1 ∧ sSgn (Pk t_bytes t_length.toInt) t_length.toInt t_limit.toInt v.toInt gq = .inr (av (Pk t_bytes t_length.toInt) t_length.toInt t_limit.toInt gq) ∧ Tc (Pk t_bytes t_length.toInt) t_length.toInt t_limit.toInt (av (Pk t_bytes t_length.toInt) t_length.toInt t_limit.toInt gq) t_kind.toInt t_place.toInt t_size.toInt t_value.toInt t_word.toInt t_next.toInt ∧ x_22.toInt = t_faultKind.toInt) ∨ ((0 : Int32).toInt = 0 ∧ sSgn (Pk t_bytes t_length.toInt) t_length.toInt t_limit.toInt v.toInt gq = .inl (x_22.toInt, x_23.toInt) ∧ 1 ≤ x_22.toInt) from (Or.inr ⟨by decide, sSgn_cno hX0 (by omega) (by omega) (by omega), by omega⟩))⟩ (q_subP hP [0, 1] rfl) (hD.sub [0, 1] (by decide) rfl) hroom.1 hroom.2 dX9_passSign_13
theorem o_passSignX (l : Launch) (D : va_G) (cy : Nat → ClassId) (t : Nat) (v : Int32) (t_bytes_ : Nat) (t_length : Int32) (t_kind : Int32) (t_place : Int32) (t_size : Int32) (t_value : Int32) (t_word : Int32) (t_faultKind : Int32) (t_faultPlace : Int32) (t_limit : Int32) (t_next : Int32) (t_bytes : Nat → Int32) (gq : Int) (sz : Nat) (hb0 : 0 ≤ t_length.toInt ∧ t_length.toInt ≤ 940) (hb1 : 0 ≤ t_place.toInt ∧ t_place.toInt ≤ 900) (hb2 : (-900) ≤ t_size.toInt ∧ t_size.toInt ≤ 940) (hb3 : 0 ≤ t_limit.toInt ∧ t_limit.toInt ≤ 900) (hb4 : 0 ≤ t_next.toInt ∧ t_next.toInt ≤ 940) (hb5 : 40 ≤ v.toInt ∧ v.toInt ≤ 62) (hR0 : Rg t_bytes 0 940 0 255) (hX0 : Tc (Pk t_bytes t_length.toInt) t_length.toInt t_limit.toInt gq t_kind.toInt t_place.toInt t_size.toInt t_value.toInt t_word.toInt t_next.toInt) : MI l yX9_passSign cX9_passSign 2 (some .boolean) (Rm 7 148 0 0) D cy [.ref t, .int v] sz [(t, .inr (9, [.ref t_bytes_, .int t_length, .int t_kind, .int t_place, .int t_size, .int t_value, .int t_word, .int t_faultKind, .int t_faultPlace, .int t_limit, .int t_next])), (t_bytes_, .inl (cy 1, 940, .inl t_bytes))] (fun (r : Int32) (u : Int32 × Int32 × Int32 × Int32 × Int32 × Int32 × Int32 × Int32) => (0 ≤ r.toInt ∧ r.toInt ≤ 1) ∧ (0 ≤ u.2.1.toInt ∧ u.2.1.toInt ≤ 900) ∧ ((-900) ≤ u.2.2.1.toInt ∧ u.2.2.1.toInt ≤ 940) ∧ (0 ≤ u.2.2.2.2.2.2.2.toInt ∧ u.2.2.2.2.2.2.2.toInt ≤ 940) ∧ ((r.toInt = 1 ∧ sSgn (Pk t_bytes t_length.toInt) t_length.toInt t_limit.toInt v.toInt gq = .inr (av (Pk t_bytes t_length.toInt) t_length.toInt t_limit.toInt gq) ∧ Tc (Pk t_bytes t_length.toInt) t_length.toInt t_limit.toInt (av (Pk t_bytes t_length.toInt) t_length.toInt t_limit.toInt gq) u.1.toInt u.2.1.toInt u.2.2.1.toInt u.2.2.2.1.toInt u.2.2.2.2.1.toInt u.2.2.2.2.2.2.2.toInt ∧ u.2.2.2.2.2.1.toInt = t_faultKind.toInt) ∨ (r.toInt = 0 ∧ sSgn (Pk t_bytes t_length.toInt) t_length.toInt t_limit.toInt v.toInt gq = .inl (u.2.2.2.2.2.1.toInt, u.2.2.2.2.2.2.1.toInt) ∧ 1 ≤ u.2.2.2.2.2.1.toInt))) (fun u : Int32 × Int32 × Int32 × Int32 × Int32 × Int32 × Int32 × Int32 => [(t, .inr (9, [.ref t_bytes_, .int t_length, .int u.1, .int u.2.1, .int u.2.2.1, .int u.2.2.2.1, .int u.2.2.2.2.1, .int u.2.2.2.2.2.1, .int u.2.2.2.2.2.2.1, .int t_limit, .int u.2.2.2.2.2.2.2])), (t_bytes_, .inl (cy 1, 940, .inl t_bytes))]) := by
  refine MI.enter (by decide) (Nat.le_of_ble_eq_true rfl) ?_
  intro p e s m below meth c ls A hsz hAe C hP hD hS hl
  exact b_o_passSignX l D cy t v t_bytes_ t_length t_kind t_place t_size t_value t_word t_faultKind t_faultPlace t_limit t_next t_bytes gq hb0 hb1 hb2 hb3 hb4 hb5 hR0 hX0 ⟨Nat.le_of_ble_eq_true rfl, Nat.le_of_ble_eq_true rfl⟩ C rfl _ _ ls hP hD hS hl
set_option maxHeartbeats 4000000 in
set_option maxRecDepth 100000 in
theorem b_o_closes (l : Launch) (D : va_G) (cy : Nat → ClassId) (t : Nat) (t_bytes_ : Nat) (t_length : Int32) (t_kind : Int32) (t_place : Int32) (t_size : Int32) (t_value : Int32) (t_word : Int32) (t_faultKind : Int32) (t_faultPlace : Int32) (t_limit : Int32) (t_next : Int32) (t_bytes : Nat → Int32) (hb0 : 0 ≤ t_length.toInt ∧ t_length.toInt ≤ 940) (hb1 : 0 ≤ t_place.toInt ∧ t_place.toInt ≤ 900) (hb2 : (-900) ≤ t_size.toInt ∧ t_size.toInt ≤ 940) (hb3 : 0 ≤ t_limit.toInt ∧ t_limit.toInt ≤ 900) (hb4 : 0 ≤ t_next.toInt ∧ t_next.toInt ≤ 940) (hR0 : Rg t_bytes 0 940 0 255) {p : Program} {e : Env} {s : State} {m : MethodId} {args : Array Value} {below : List Frame} {meth : Method} {c : Code} {A : Nat → Prop} {Q : State → Prop} {cells slots : Nat} (hroom : cells ≤ ((Rm 1 21 0 0)).cells ∧ slots ≤ ((Rm 1 21 0 0)).slots) (C : Cx p s m args meth c cX9_closes 1 (some .boolean) RX9 "closes" D cy A) (hQ : Q = MQ below (va_Qi (fun (r : Int32) (u : Int32 × Int32) => (0 ≤ r.toInt ∧ r.toInt ≤ 1) ∧ ((r.toInt = 1 ∧ t_kind.toInt = 0 ∧ t_length.toInt ≤ t_limit.toInt ∧ u.1.toInt = t_faultKind.toInt) ∨ (r.toInt = 0 ∧ ¬ (t_kind.toInt = 0 ∧ t_length.toInt ≤ t_limit.toInt) ∧ u.1.toInt = 1 ∧ u.2.toInt = t_place.toInt))) (Bx D A (fun u : Int32 × Int32 => [(t, .inr (9, [.ref t_bytes_, .int t_length, .int t_kind, .int t_place, .int t_size, .int t_value, .int t_word, .int u.1, .int u.2, .int t_limit, .int t_next])), (t_bytes_, .inl (cy 1, 940, .inl t_bytes))])) A) args s ((Rm 1 21 0 0)).cells ((Rm 1 21 0 0)).slots A) (H : Heap) (locs : List Loc) (ls : Array Slot) (hP : va_P D vwCl [(t, .inr (9, [.ref t_bytes_, .int t_length, .int t_kind, .int t_place, .int t_size, .int t_value, .int t_word, .int t_faultKind, .int t_faultPlace, .int t_limit, .int t_next])), (t_bytes_, .inl (cy 1, 940, .inl t_bytes))] H) (hD : va_D A [(t, .inr (9, [.ref t_bytes_, .int t_length, .int t_kind, .int t_place, .int t_size, .int t_value, .int t_word, .int t_faultKind, .int t_faultPlace, .int t_limit, .int t_next])), (t_bytes_, .inl (cy 1, 940, .inl t_bytes))]) (hS : va_S A s.heap H locs) (hl : lv_has ls 1 [(0, .ref t)]) : W p l e (Rm 1 21 0 0) s m args below meth c H locs cells slots Q (F0 m 0 ls []) := by
  have hx := C.1
  have hb := C.2.1
  refine lv_aload_n hx hb dX9_closes_0 rfl (lv_at hl 0 rfl) ?_
  refine q_get (v := .int t_kind) C hP 0 2 rfl rfl inX9 (by decide) kF_RX9_19 rfl rfl dX9_closes_1 ?_
  refine lv_if_ne (tgt := 18) hx hb dX9_closes_4 (by decide) (fun c_1 => ?_) (fun c_1 => ?_)
  · have hc_1 := o_ne (rfl : t_kind.toInt = t_kind.toInt) (by decide : (0 : Int32).toInt = 0) c_1
    refine lv_aload_n hx hb dX9_closes_18 rfl (lv_at hl 0 rfl) ?_
    refine lv_iconst (v := 1) hx hb dX9_closes_19 (by decide) ?_
    refine q_ai (wr := []) (r_V (rm := (Rm 0 0 0 0)) (q0 := 0) (As := [.int 1]) (rest := []) (wc := [(t, .inr (9, [.ref t_bytes_, .int t_length, .int t_kind, .int t_place, .int t_size, .int t_value, .int t_word, .int t_faultKind, .int t_faultPlace, .int t_limit, .int t_next])), (t_bytes_, .inl (cy 1, 940, .inl t_bytes))]) C hS (q_subP hP [0, 1] rfl) (hD.sub [0, 1] (by decide) rfl) (o_fail l D cy t 1 t_bytes_ t_length t_kind t_place t_size t_value t_word t_faultKind t_faultPlace t_limit t_next t_bytes _ (by omega) (by omega) (by omega) (by omega) (by omega) hR0) kwV_X9_fail kM_RX9_85 rfl rfl ⟨Nat.le_of_ble_eq_true rfl, Nat.le_of_ble_eq_true rfl⟩ rfl hl.1 rfl (Nat.le_of_ble_eq_true rfl) dX9_closes_20 ⟨hroom.1, hroom.2⟩) C.2.2.2.2.2.2.1 hP hD hS [0, 1] [] rfl rfl (by decide) (by decide) (fun r_3 u_2 H locs hw_4 hP hD hS => ?_)
    obtain ⟨x_5, x_6⟩ := u_2
    have hP : va_P D vwCl [(t, .inr (9, [.ref t_bytes_, .int t_length, .int t_kind, .int t_place, .int t_size, .int t_value, .int t_word, .int x_5, .int x_6, .int t_limit, .int t_next])), (t_bytes_, .inl (cy 1, 940, .inl t_bytes))] H := hP
    have hD : va_D A [(t, .inr (9, [.ref t_bytes_, .int t_length, .int t_kind, .int t_place, .int t_size, .int t_value, .int t_word, .int x_5, .int x_6, .int t_limit, .int t_next])), (t_bytes_, .inl (cy 1, 940, .inl t_bytes))] := hD
    have hp_6 : 0 ≤ r_3.toInt ∧ r_3.toInt ≤ 0 := hw_4.1
    have hp_7 : 0 ≤ x_5.toInt + (-1) ∧ 0 ≤ (-1) * x_5.toInt + 1 ∧ 0 ≤ x_6.toInt + (-1) * t_place.toInt ∧ 0 ≤ (-1) * x_6.toInt + t_place.toInt := by have e0 : (1 : Int32).toInt = 1 := (by decide); have h0 : 0 ≤ x_5.toInt + (-1) * (1 : Int32).toInt ∧ 0 ≤ (-1) * x_5.toInt + (1 : Int32).toInt ∧ 0 ≤ x_6.toInt + (-1) * t_place.toInt ∧ 0 ≤ (-1) * x_6.toInt + t_place.toInt := hw_4.2; omega
    obtain rfl : r_3 = 0 := o_meq (b := 0) rfl (by decide) (by omega)
    refine lv_if_eq (tgt := 30) hx hb dX9_closes_23 (by decide) (fun _ => ?_) (fun c_0 => absurd (by decide) c_0)
    refine lv_iconst (v := 0) hx hb dX9_closes_30 (by decide) ?_
    refine o_wq hQ ?_
    exact q_iret (rm := (Rm 1 21 0 0)) C hS (x_5, x_6) rfl ⟨(show 0 ≤ (0 : Int32).toInt ∧ (0 : Int32).toInt ≤ 1 by decide), (show ((0 : Int32).toInt = 1 ∧ t_kind.toInt = 0 ∧ t_length.toInt ≤ t_limit.toInt ∧ x_5.toInt = t_faultKind.toInt) ∨ ((0 : Int32).toInt = 0 ∧ ¬ (t_kind.toInt = 0 ∧ t_length.toInt ≤ t_limit.toInt) ∧ x_5.toInt = 1 ∧ x_6.toInt = t_place.toInt) from (by have e0 : (0 : Int32).toInt = 0 := (by decide); have e1 : (1 : Int32).toInt = 1 := (by decide); omega))⟩ (q_subP hP [0, 1] rfl) (hD.sub [0, 1] (by decide) rfl) hroom.1 hroom.2 dX9_closes_31
  · have hc_1 := o_eq (rfl : t_kind.toInt = t_kind.toInt) (by decide : (0 : Int32).toInt = 0) c_1
    refine lv_aload_n hx hb dX9_closes_7 rfl (lv_at hl 0 rfl) ?_
    refine q_get (v := .int t_length) C hP 0 1 rfl rfl inX9 (by decide) kF_RX9_15 rfl rfl dX9_closes_8 ?_
    refine lv_aload_n hx hb dX9_closes_11 rfl (lv_at hl 0 rfl) ?_
    refine q_get (v := .int t_limit) C hP 0 9 rfl rfl inX9 (by decide) kF_RX9_40 rfl rfl dX9_closes_12 ?_
    refine lv_icmp_le (tgt := 26) hx hb dX9_closes_15 (by decide) (fun c_9 => ?_) (fun c_9 => ?_)
    · have hc_9 := o_le (rfl : t_length.toInt = t_length.toInt) (rfl : t_limit.toInt = t_limit.toInt) c_9
      refine lv_iconst (v := 1) hx hb dX9_closes_26 (by decide) ?_
      refine lv_goto (tgt := 31) hx hb dX9_closes_27 (by decide) ?_
      refine o_wq hQ ?_
      exact q_iret (rm := (Rm 1 21 0 0)) C hS (t_faultKind, t_faultPlace) rfl ⟨(show 0 ≤ (1 : Int32).toInt ∧ (1 : Int32).toInt ≤ 1 by decide), (show ((1 : Int32).toInt = 1 ∧ t_kind.toInt = 0 ∧ t_length.toInt ≤ t_limit.toInt ∧ t_faultKind.toInt = t_faultKind.toInt) ∨ ((1 : Int32).toInt = 0 ∧ ¬ (t_kind.toInt = 0 ∧ t_length.toInt ≤ t_limit.toInt) ∧ t_faultKind.toInt = 1 ∧ t_faultPlace.toInt = t_place.toInt) from (by have e0 : (0 : Int32).toInt = 0 := (by decide); have e1 : (1 : Int32).toInt = 1 := (by decide); omega))⟩ (q_subP hP [0, 1] rfl) (hD.sub [0, 1] (by decide) rfl) hroom.1 hroom.2 dX9_closes_31
    · have hc_9 := o_nle (rfl : t_length.toInt = t_length.toInt) (rfl : t_limit.toInt = t_limit.toInt) c_9
      refine lv_aload_n hx hb dX9_closes_18 rfl (lv_at hl 0 rfl) ?_
      refine lv_iconst (v := 1) hx hb dX9_closes_19 (by decide) ?_
      refine q_ai (wr := []) (r_V (rm := (Rm 0 0 0 0)) (q0 := 0) (As := [.int 1]) (rest := []) (wc := [(t, .inr (9, [.ref t_bytes_, .int t_length, .int t_kind, .int t_place, .int t_size, .int t_value, .int t_word, .int t_faultKind, .int t_faultPlace, .int t_limit, .int t_next])), (t_bytes_, .inl (cy 1, 940, .inl t_bytes))]) C hS (q_subP hP [0, 1] rfl) (hD.sub [0, 1] (by decide) rfl) (o_fail l D cy t 1 t_bytes_ t_length t_kind t_place t_size t_value t_word t_faultKind t_faultPlace t_limit t_next t_bytes _ (by omega) (by omega) (by omega) (by omega) (by omega) hR0) kwV_X9_fail kM_RX9_85 rfl rfl ⟨Nat.le_of_ble_eq_true rfl, Nat.le_of_ble_eq_true rfl⟩ rfl hl.1 rfl (Nat.le_of_ble_eq_true rfl) dX9_closes_20 ⟨hroom.1, hroom.2⟩) C.2.2.2.2.2.2.1 hP hD hS [0, 1] [] rfl rfl (by decide) (by decide) (fun r_11 u_10 H locs hw_12 hP hD hS => ?_)
      obtain ⟨x_13, x_14⟩ := u_10
      have hP : va_P D vwCl [(t, .inr (9, [.ref t_bytes_, .int t_length, .int t_kind, .int t_place, .int t_size, .int t_value, .int t_word, .int x_13, .int x_14, .int t_limit, .int t_next])), (t_bytes_, .inl (cy 1, 940, .inl t_bytes))] H := hP
      have hD : va_D A [(t, .inr (9, [.ref t_bytes_, .int t_length, .int t_kind, .int t_place, .int t_size, .int t_value, .int t_word, .int x_13, .int x_14, .int t_limit, .int t_next])), (t_bytes_, .inl (cy 1, 940, .inl t_bytes))] := hD
      have hp_14 : 0 ≤ r_11.toInt ∧ r_11.toInt ≤ 0 := hw_12.1
      have hp_15 : 0 ≤ x_13.toInt + (-1) ∧ 0 ≤ (-1) * x_13.toInt + 1 ∧ 0 ≤ x_14.toInt + (-1) * t_place.toInt ∧ 0 ≤ (-1) * x_14.toInt + t_place.toInt := by have e0 : (1 : Int32).toInt = 1 := (by decide); have h0 : 0 ≤ x_13.toInt + (-1) * (1 : Int32).toInt ∧ 0 ≤ (-1) * x_13.toInt + (1 : Int32).toInt ∧ 0 ≤ x_14.toInt + (-1) * t_place.toInt ∧ 0 ≤ (-1) * x_14.toInt + t_place.toInt := hw_12.2; omega
      obtain rfl : r_11 = 0 := o_meq (b := 0) rfl (by decide) (by omega)
      refine lv_if_eq (tgt := 30) hx hb dX9_closes_23 (by decide) (fun _ => ?_) (fun c_0 => absurd (by decide) c_0)
      refine lv_iconst (v := 0) hx hb dX9_closes_30 (by decide) ?_
      refine o_wq hQ ?_
      exact q_iret (rm := (Rm 1 21 0 0)) C hS (x_13, x_14) rfl ⟨(show 0 ≤ (0 : Int32).toInt ∧ (0 : Int32).toInt ≤ 1 by decide), (show ((0 : Int32).toInt = 1 ∧ t_kind.toInt = 0 ∧ t_length.toInt ≤ t_limit.toInt ∧ x_13.toInt = t_faultKind.toInt) ∨ ((0 : Int32).toInt = 0 ∧ ¬ (t_kind.toInt = 0 ∧ t_length.toInt ≤ t_limit.toInt) ∧ x_13.toInt = 1 ∧ x_14.toInt = t_place.toInt) from (by have e0 : (0 : Int32).toInt = 0 := (by decide); have e1 : (1 : Int32).toInt = 1 := (by decide); omega))⟩ (q_subP hP [0, 1] rfl) (hD.sub [0, 1] (by decide) rfl) hroom.1 hroom.2 dX9_closes_31
theorem o_closes (l : Launch) (D : va_G) (cy : Nat → ClassId) (t : Nat) (t_bytes_ : Nat) (t_length : Int32) (t_kind : Int32) (t_place : Int32) (t_size : Int32) (t_value : Int32) (t_word : Int32) (t_faultKind : Int32) (t_faultPlace : Int32) (t_limit : Int32) (t_next : Int32) (t_bytes : Nat → Int32) (sz : Nat) (hb0 : 0 ≤ t_length.toInt ∧ t_length.toInt ≤ 940) (hb1 : 0 ≤ t_place.toInt ∧ t_place.toInt ≤ 900) (hb2 : (-900) ≤ t_size.toInt ∧ t_size.toInt ≤ 940) (hb3 : 0 ≤ t_limit.toInt ∧ t_limit.toInt ≤ 900) (hb4 : 0 ≤ t_next.toInt ∧ t_next.toInt ≤ 940) (hR0 : Rg t_bytes 0 940 0 255) : MI l yX9_closes cX9_closes 1 (some .boolean) (Rm 1 21 0 0) D cy [.ref t] sz [(t, .inr (9, [.ref t_bytes_, .int t_length, .int t_kind, .int t_place, .int t_size, .int t_value, .int t_word, .int t_faultKind, .int t_faultPlace, .int t_limit, .int t_next])), (t_bytes_, .inl (cy 1, 940, .inl t_bytes))] (fun (r : Int32) (u : Int32 × Int32) => (0 ≤ r.toInt ∧ r.toInt ≤ 1) ∧ ((r.toInt = 1 ∧ t_kind.toInt = 0 ∧ t_length.toInt ≤ t_limit.toInt ∧ u.1.toInt = t_faultKind.toInt) ∨ (r.toInt = 0 ∧ ¬ (t_kind.toInt = 0 ∧ t_length.toInt ≤ t_limit.toInt) ∧ u.1.toInt = 1 ∧ u.2.toInt = t_place.toInt))) (fun u : Int32 × Int32 => [(t, .inr (9, [.ref t_bytes_, .int t_length, .int t_kind, .int t_place, .int t_size, .int t_value, .int t_word, .int u.1, .int u.2, .int t_limit, .int t_next])), (t_bytes_, .inl (cy 1, 940, .inl t_bytes))]) := by
  refine MI.enter (by decide) (Nat.le_of_ble_eq_true rfl) ?_
  intro p e s m below meth c ls A hsz hAe C hP hD hS hl
  exact b_o_closes l D cy t t_bytes_ t_length t_kind t_place t_size t_value t_word t_faultKind t_faultPlace t_limit t_next t_bytes hb0 hb1 hb2 hb3 hb4 hR0 ⟨Nat.le_of_ble_eq_true rfl, Nat.le_of_ble_eq_true rfl⟩ C rfl _ _ ls hP hD hS hl
