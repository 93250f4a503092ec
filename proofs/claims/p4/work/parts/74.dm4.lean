theorem dX11_day_0 : decode cX11_day 0 = .ok (.iconst 0, 1) := by decide +kernel
theorem dX11_day_1 : decode cX11_day 1 = .ok (.istore_n 1, 1) := by decide +kernel
theorem dX11_day_2 : decode cX11_day 2 = .ok (.iload_n 1, 1) := by decide +kernel
theorem dX11_day_3 : decode cX11_day 3 = .ok (.aload_n 0, 1) := by decide +kernel
theorem dX11_day_4 : decode cX11_day 4 = .ok (.getfield 33, 3) := by decide +kernel
theorem dX11_day_7 : decode cX11_day 7 = .ok (.iconst 0, 1) := by decide +kernel
theorem dX11_day_8 : decode cX11_day 8 = .ok (.iaload, 1) := by decide +kernel
theorem dX11_day_9 : decode cX11_day 9 = .ok (.if_icmp .ge 113, 3) := by decide +kernel
theorem dX11_day_122 : decode cX11_day 122 = .ok (.aload_n 0, 1) := by decide +kernel
theorem dX11_day_123 : decode cX11_day 123 = .ok (.bipush 12, 2) := by decide +kernel
theorem dX11_day_125 : decode cX11_day 125 = .ok (.invokevirtual 341, 3) := by decide +kernel
theorem kwV_X11_draw : MwV RX11 yX11_draw cX11_draw 2 (some .int) 1 := ⟨List.mem_filter.mpr ⟨List.mem_of_getElem? (i := 1910) (by decide +kernel), by decide +kernel⟩, List.mem_filter.mpr ⟨List.mem_of_getElem? (i := 1909) (by decide +kernel), by decide +kernel⟩, List.mem_filter.mpr ⟨List.mem_of_getElem? (i := 96) (by decide +kernel), by decide +kernel⟩, List.mem_filter.mpr ⟨List.mem_of_getElem? (i := 139) (by decide +kernel), by decide +kernel⟩, by decide +kernel⟩
theorem kM_RX11_341 : Cond.methodLink RX11 341 yX11_draw ∈ gT := List.mem_filter.mpr ⟨List.mem_of_getElem? (i := 1907) (by decide +kernel), by decide +kernel⟩
theorem dX11_day_128 : decode cX11_day 128 = .ok (.aload_n 0, 1) := by decide +kernel
theorem dX11_day_129 : decode cX11_day 129 = .ok (.getfield 33, 3) := by decide +kernel
theorem dX11_day_132 : decode cX11_day 132 = .ok (.bipush 6, 2) := by decide +kernel
theorem dX11_day_134 : decode cX11_day 134 = .ok (.iaload, 1) := by decide +kernel
theorem dX11_day_176 : decode cX11_day 176 = .ok (.aload_n 0, 1) := by decide +kernel
theorem dX11_day_177 : decode cX11_day 177 = .ok (.getfield 33, 3) := by decide +kernel
theorem dX11_day_180 : decode cX11_day 180 = .ok (.bipush 105, 2) := by decide +kernel
theorem dX11_day_182 : decode cX11_day 182 = .ok (.iconst 0, 1) := by decide +kernel
theorem dX11_day_183 : decode cX11_day 183 = .ok (.iastore, 1) := by decide +kernel
theorem dX11_day_184 : decode cX11_day 184 = .ok (.aload_n 0, 1) := by decide +kernel
theorem dX11_day_185 : decode cX11_day 185 = .ok (.getfield 33, 3) := by decide +kernel
theorem dX11_day_188 : decode cX11_day 188 = .ok (.bipush 104, 2) := by decide +kernel
theorem dX11_day_190 : decode cX11_day 190 = .ok (.dup2, 1) := by decide +kernel
theorem dX11_day_191 : decode cX11_day 191 = .ok (.iaload, 1) := by decide +kernel
theorem dX11_day_192 : decode cX11_day 192 = .ok (.iconst 1, 1) := by decide +kernel
theorem dX11_day_193 : decode cX11_day 193 = .ok (.iadd, 1) := by decide +kernel
theorem dX11_day_194 : decode cX11_day 194 = .ok (.iastore, 1) := by decide +kernel
theorem dX11_day_195 : decode cX11_day 195 = .ok (.return_, 1) := by decide +kernel
theorem dX11_day_135 : decode cX11_day 135 = .ok (.if_icmp .ge 41, 3) := by decide +kernel
theorem dX11_day_138 : decode cX11_day 138 = .ok (.aload_n 0, 1) := by decide +kernel
theorem dX11_day_139 : decode cX11_day 139 = .ok (.getfield 33, 3) := by decide +kernel
theorem dX11_day_142 : decode cX11_day 142 = .ok (.iconst 0, 1) := by decide +kernel
theorem dX11_day_143 : decode cX11_day 143 = .ok (.iaload, 1) := by decide +kernel
theorem dX11_day_144 : decode cX11_day 144 = .ok (.ifCond .le 32, 3) := by decide +kernel
theorem dX11_day_147 : decode cX11_day 147 = .ok (.aload_n 0, 1) := by decide +kernel
theorem dX11_day_148 : decode cX11_day 148 = .ok (.aload_n 0, 1) := by decide +kernel
theorem dX11_day_149 : decode cX11_day 149 = .ok (.getfield 33, 3) := by decide +kernel
theorem dX11_day_152 : decode cX11_day 152 = .ok (.iconst 0, 1) := by decide +kernel
theorem dX11_day_153 : decode cX11_day 153 = .ok (.iaload, 1) := by decide +kernel
theorem dX11_day_154 : decode cX11_day 154 = .ok (.invokevirtual 341, 3) := by decide +kernel
theorem dX11_day_157 : decode cX11_day 157 = .ok (.istore_n 1, 1) := by decide +kernel
theorem dX11_day_158 : decode cX11_day 158 = .ok (.aload_n 0, 1) := by decide +kernel
theorem dX11_day_159 : decode cX11_day 159 = .ok (.getfield 33, 3) := by decide +kernel
theorem dX11_day_162 : decode cX11_day 162 = .ok (.bipush 122, 2) := by decide +kernel
theorem dX11_day_164 : decode cX11_day 164 = .ok (.iload_n 1, 1) := by decide +kernel
theorem dX11_day_165 : decode cX11_day 165 = .ok (.iadd, 1) := by decide +kernel
theorem dX11_day_166 : decode cX11_day 166 = .ok (.dup2, 1) := by decide +kernel
theorem dX11_day_167 : decode cX11_day 167 = .ok (.iaload, 1) := by decide +kernel
theorem dX11_day_168 : decode cX11_day 168 = .ok (.iconst 2, 1) := by decide +kernel
theorem dX11_day_169 : decode cX11_day 169 = .ok (.idiv, 1) := by decide +kernel
theorem dX11_day_170 : decode cX11_day 170 = .ok (.iastore, 1) := by decide +kernel
theorem dX11_day_171 : decode cX11_day 171 = .ok (.aload_n 0, 1) := by decide +kernel
theorem dX11_day_172 : decode cX11_day 172 = .ok (.iload_n 1, 1) := by decide +kernel
theorem dX11_day_173 : decode cX11_day 173 = .ok (.invokevirtual 331, 3) := by decide +kernel
theorem dX11_day_12 : decode cX11_day 12 = .ok (.aload_n 0, 1) := by decide +kernel
theorem dX11_day_13 : decode cX11_day 13 = .ok (.iload_n 1, 1) := by decide +kernel
theorem dX11_day_14 : decode cX11_day 14 = .ok (.invokevirtual 338, 3) := by decide +kernel
theorem kwV_X11_isAsked : MwV RX11 yX11_isAsked cX11_isAsked 2 (some .boolean) 1 := ⟨List.mem_filter.mpr ⟨List.mem_of_getElem? (i := 1862) (by decide +kernel), by decide +kernel⟩, List.mem_filter.mpr ⟨List.mem_of_getElem? (i := 1861) (by decide +kernel), by decide +kernel⟩, List.mem_filter.mpr ⟨List.mem_of_getElem? (i := 87) (by decide +kernel), by decide +kernel⟩, List.mem_filter.mpr ⟨List.mem_of_getElem? (i := 139) (by decide +kernel), by decide +kernel⟩, by decide +kernel⟩
theorem kM_RX11_338 : Cond.methodLink RX11 338 yX11_isAsked ∈ gT := List.mem_filter.mpr ⟨List.mem_of_getElem? (i := 1859) (by decide +kernel), by decide +kernel⟩
theorem dX11_day_17 : decode cX11_day 17 = .ok (.ifCond .eq 6, 3) := by decide +kernel
theorem dX11_day_23 : decode cX11_day 23 = .ok (.aload_n 0, 1) := by decide +kernel
theorem dX11_day_24 : decode cX11_day 24 = .ok (.getfield 33, 3) := by decide +kernel
theorem dX11_day_27 : decode cX11_day 27 = .ok (.bipush 122, 2) := by decide +kernel
theorem dX11_day_29 : decode cX11_day 29 = .ok (.iload_n 1, 1) := by decide +kernel
theorem dX11_day_30 : decode cX11_day 30 = .ok (.iadd, 1) := by decide +kernel
theorem dX11_day_31 : decode cX11_day 31 = .ok (.bipush 99, 2) := by decide +kernel
theorem dX11_day_33 : decode cX11_day 33 = .ok (.aload_n 0, 1) := by decide +kernel
theorem dX11_day_34 : decode cX11_day 34 = .ok (.getfield 33, 3) := by decide +kernel
theorem dX11_day_37 : decode cX11_day 37 = .ok (.bipush 122, 2) := by decide +kernel
theorem dX11_day_39 : decode cX11_day 39 = .ok (.iload_n 1, 1) := by decide +kernel
theorem dX11_day_40 : decode cX11_day 40 = .ok (.iadd, 1) := by decide +kernel
theorem dX11_day_41 : decode cX11_day 41 = .ok (.iaload, 1) := by decide +kernel
theorem dX11_day_42 : decode cX11_day 42 = .ok (.aload_n 0, 1) := by decide +kernel
theorem dX11_day_43 : decode cX11_day 43 = .ok (.getfield 33, 3) := by decide +kernel
theorem dX11_day_46 : decode cX11_day 46 = .ok (.iconst 4, 1) := by decide +kernel
theorem dX11_day_47 : decode cX11_day 47 = .ok (.iaload, 1) := by decide +kernel
theorem dX11_day_48 : decode cX11_day 48 = .ok (.iadd, 1) := by decide +kernel
theorem dX11_day_49 : decode cX11_day 49 = .ok (.invokestatic 294, 3) := by decide +kernel
theorem dX11_day_52 : decode cX11_day 52 = .ok (.iastore, 1) := by decide +kernel
theorem dX11_day_53 : decode cX11_day 53 = .ok (.iconst 0, 1) := by decide +kernel
theorem dX11_day_54 : decode cX11_day 54 = .ok (.istore_n 2, 1) := by decide +kernel
theorem dX11_day_55 : decode cX11_day 55 = .ok (.iload_n 2, 1) := by decide +kernel
theorem dX11_day_56 : decode cX11_day 56 = .ok (.aload_n 0, 1) := by decide +kernel
theorem dX11_day_57 : decode cX11_day 57 = .ok (.getfield 33, 3) := by decide +kernel
theorem dX11_day_60 : decode cX11_day 60 = .ok (.iconst 0, 1) := by decide +kernel
theorem dX11_day_61 : decode cX11_day 61 = .ok (.iaload, 1) := by decide +kernel
theorem dX11_day_62 : decode cX11_day 62 = .ok (.if_icmp .ge 54, 3) := by decide +kernel
theorem dX11_day_116 : decode cX11_day 116 = .ok (.iinc 1 1, 3) := by decide +kernel
theorem dX11_day_119 : decode cX11_day 119 = .ok (.goto (-117), 3) := by decide +kernel
theorem dX11_day_65 : decode cX11_day 65 = .ok (.aload_n 0, 1) := by decide +kernel
theorem dX11_day_66 : decode cX11_day 66 = .ok (.iload_n 2, 1) := by decide +kernel
theorem dX11_day_67 : decode cX11_day 67 = .ok (.invokevirtual 338, 3) := by decide +kernel
theorem dX11_day_70 : decode cX11_day 70 = .ok (.ifCond .ne 40, 3) := by decide +kernel
theorem dX11_day_110 : decode cX11_day 110 = .ok (.iinc 2 1, 3) := by decide +kernel
theorem dX11_day_113 : decode cX11_day 113 = .ok (.goto (-58), 3) := by decide +kernel
theorem dX11_day_73 : decode cX11_day 73 = .ok (.aload_n 0, 1) := by decide +kernel
theorem dX11_day_74 : decode cX11_day 74 = .ok (.iload_n 1, 1) := by decide +kernel
theorem dX11_day_75 : decode cX11_day 75 = .ok (.iload_n 2, 1) := by decide +kernel
theorem dX11_day_76 : decode cX11_day 76 = .ok (.invokevirtual 303, 3) := by decide +kernel
theorem dX11_day_79 : decode cX11_day 79 = .ok (.ifCond .eq 31, 3) := by decide +kernel
theorem dX11_day_82 : decode cX11_day 82 = .ok (.aload_n 0, 1) := by decide +kernel
theorem dX11_day_83 : decode cX11_day 83 = .ok (.getfield 33, 3) := by decide +kernel
theorem dX11_day_86 : decode cX11_day 86 = .ok (.sipush 138, 3) := by decide +kernel
theorem dX11_day_89 : decode cX11_day 89 = .ok (.bipush 8, 2) := by decide +kernel
theorem dX11_day_91 : decode cX11_day 91 = .ok (.iload_n 1, 1) := by decide +kernel
theorem dX11_day_92 : decode cX11_day 92 = .ok (.imul, 1) := by decide +kernel
theorem dX11_day_93 : decode cX11_day 93 = .ok (.iadd, 1) := by decide +kernel
theorem dX11_day_94 : decode cX11_day 94 = .ok (.iload_n 2, 1) := by decide +kernel
theorem dX11_day_95 : decode cX11_day 95 = .ok (.iadd, 1) := by decide +kernel
theorem dX11_day_96 : decode cX11_day 96 = .ok (.bipush 99, 2) := by decide +kernel
theorem dX11_day_98 : decode cX11_day 98 = .ok (.aload_n 0, 1) := by decide +kernel
theorem dX11_day_99 : decode cX11_day 99 = .ok (.iload_n 1, 1) := by decide +kernel
theorem dX11_day_100 : decode cX11_day 100 = .ok (.iload_n 2, 1) := by decide +kernel
theorem dX11_day_101 : decode cX11_day 101 = .ok (.invokevirtual 291, 3) := by decide +kernel
theorem dX11_day_104 : decode cX11_day 104 = .ok (.iconst 1, 1) := by decide +kernel
theorem dX11_day_105 : decode cX11_day 105 = .ok (.iadd, 1) := by decide +kernel
theorem dX11_day_106 : decode cX11_day 106 = .ok (.invokestatic 294, 3) := by decide +kernel
theorem dX11_day_109 : decode cX11_day 109 = .ok (.iastore, 1) := by decide +kernel
theorem dX11_day_20 : decode cX11_day 20 = .ok (.goto 96, 3) := by decide +kernel
theorem dX11_goesOn_0 : decode cX11_goesOn 0 = .ok (.aload_n 0, 1) := by decide +kernel
theorem dX11_goesOn_1 : decode cX11_goesOn 1 = .ok (.iload_n 2, 1) := by decide +kernel
theorem dX11_goesOn_2 : decode cX11_goesOn 2 = .ok (.putfield 334, 3) := by decide +kernel
theorem dX11_goesOn_5 : decode cX11_goesOn 5 = .ok (.iconst 0, 1) := by decide +kernel
theorem dX11_goesOn_6 : decode cX11_goesOn 6 = .ok (.istore_n 3, 1) := by decide +kernel
theorem dX11_goesOn_7 : decode cX11_goesOn 7 = .ok (.iload_n 3, 1) := by decide +kernel
theorem dX11_goesOn_8 : decode cX11_goesOn 8 = .ok (.iload_n 1, 1) := by decide +kernel
theorem dX11_goesOn_9 : decode cX11_goesOn 9 = .ok (.if_icmp .ge 26, 3) := by decide +kernel
theorem dX11_goesOn_35 : decode cX11_goesOn 35 = .ok (.iload_n 3, 1) := by decide +kernel
theorem dX11_goesOn_36 : decode cX11_goesOn 36 = .ok (.ireturn, 1) := by decide +kernel
theorem dX11_goesOn_12 : decode cX11_goesOn 12 = .ok (.aload_n 0, 1) := by decide +kernel
theorem dX11_goesOn_13 : decode cX11_goesOn 13 = .ok (.getfield 33, 3) := by decide +kernel
theorem dX11_goesOn_16 : decode cX11_goesOn 16 = .ok (.bipush 104, 2) := by decide +kernel
theorem dX11_goesOn_18 : decode cX11_goesOn 18 = .ok (.iaload, 1) := by decide +kernel
theorem dX11_goesOn_19 : decode cX11_goesOn 19 = .ok (.sipush 400, 3) := by decide +kernel
theorem dX11_goesOn_22 : decode cX11_goesOn 22 = .ok (.if_icmp .ge 13, 3) := by decide +kernel
theorem dX11_goesOn_25 : decode cX11_goesOn 25 = .ok (.aload_n 0, 1) := by decide +kernel
theorem dX11_goesOn_26 : decode cX11_goesOn 26 = .ok (.invokevirtual 344, 3) := by decide +kernel
theorem kwV_X11_day : MwV RX11 yX11_day cX11_day 3 none 0 := ⟨List.mem_filter.mpr ⟨List.mem_of_getElem? (i := 1906) (by decide +kernel), by decide +kernel⟩, List.mem_filter.mpr ⟨List.mem_of_getElem? (i := 1905) (by decide +kernel), by decide +kernel⟩, List.mem_filter.mpr ⟨List.mem_of_getElem? (i := 95) (by decide +kernel), by decide +kernel⟩, List.mem_filter.mpr ⟨List.mem_of_getElem? (i := 139) (by decide +kernel), by decide +kernel⟩, by decide +kernel⟩
theorem kM_RX11_344 : Cond.methodLink RX11 344 yX11_day ∈ gT := List.mem_filter.mpr ⟨List.mem_of_getElem? (i := 1903) (by decide +kernel), by decide +kernel⟩
theorem dX11_goesOn_29 : decode cX11_goesOn 29 = .ok (.iinc 3 1, 3) := by decide +kernel
theorem dX11_goesOn_32 : decode cX11_goesOn 32 = .ok (.goto (-25), 3) := by decide +kernel
theorem dX11_keeps_0 : decode cX11_keeps 0 = .ok (.aload_n 0, 1) := by decide +kernel
theorem dX11_keeps_1 : decode cX11_keeps 1 = .ok (.getfield 288, 3) := by decide +kernel
theorem dX11_keeps_4 : decode cX11_keeps 4 = .ok (.bipush 8, 2) := by decide +kernel
theorem dX11_keeps_6 : decode cX11_keeps 6 = .ok (.if_icmp .ne 39, 3) := by decide +kernel
theorem dX11_keeps_45 : decode cX11_keeps 45 = .ok (.iconst 0, 1) := by decide +kernel
theorem dX11_keeps_46 : decode cX11_keeps 46 = .ok (.istore_n 1, 1) := by decide +kernel
theorem dX11_keeps_47 : decode cX11_keeps 47 = .ok (.iload_n 1, 1) := by decide +kernel
theorem dX11_keeps_48 : decode cX11_keeps 48 = .ok (.bipush 98, 2) := by decide +kernel
theorem dX11_keeps_50 : decode cX11_keeps 50 = .ok (.if_icmp .ge 32, 3) := by decide +kernel
theorem dX11_keeps_82 : decode cX11_keeps 82 = .ok (.aload_n 0, 1) := by decide +kernel
theorem dX11_keeps_83 : decode cX11_keeps 83 = .ok (.dup, 1) := by decide +kernel
theorem dX11_keeps_84 : decode cX11_keeps 84 = .ok (.getfield 288, 3) := by decide +kernel
theorem dX11_keeps_87 : decode cX11_keeps 87 = .ok (.iconst 1, 1) := by decide +kernel
theorem dX11_keeps_88 : decode cX11_keeps 88 = .ok (.iadd, 1) := by decide +kernel
theorem dX11_keeps_89 : decode cX11_keeps 89 = .ok (.putfield 288, 3) := by decide +kernel
theorem dX11_keeps_92 : decode cX11_keeps 92 = .ok (.return_, 1) := by decide +kernel
theorem dX11_keeps_53 : decode cX11_keeps 53 = .ok (.aload_n 0, 1) := by decide +kernel
theorem dX11_keeps_54 : decode cX11_keeps 54 = .ok (.getfield 50, 3) := by decide +kernel
theorem kF_RX11_50 : Cond.fieldLink RX11 50 "CobwebLibraryModel" "undone" "[I" ∈ gT := List.mem_filter.mpr ⟨List.mem_of_getElem? (i := 1530) (by decide +kernel), by decide +kernel⟩
theorem dX11_keeps_57 : decode cX11_keeps 57 = .ok (.bipush 98, 2) := by decide +kernel
theorem dX11_keeps_59 : decode cX11_keeps 59 = .ok (.aload_n 0, 1) := by decide +kernel
theorem dX11_keeps_60 : decode cX11_keeps 60 = .ok (.getfield 288, 3) := by decide +kernel
theorem dX11_keeps_63 : decode cX11_keeps 63 = .ok (.imul, 1) := by decide +kernel
theorem dX11_keeps_64 : decode cX11_keeps 64 = .ok (.iload_n 1, 1) := by decide +kernel
theorem dX11_keeps_65 : decode cX11_keeps 65 = .ok (.iadd, 1) := by decide +kernel
theorem dX11_keeps_66 : decode cX11_keeps 66 = .ok (.aload_n 0, 1) := by decide +kernel
theorem dX11_keeps_67 : decode cX11_keeps 67 = .ok (.getfield 33, 3) := by decide +kernel
theorem dX11_keeps_70 : decode cX11_keeps 70 = .ok (.bipush 104, 2) := by decide +kernel
theorem dX11_keeps_72 : decode cX11_keeps 72 = .ok (.iload_n 1, 1) := by decide +kernel
theorem dX11_keeps_73 : decode cX11_keeps 73 = .ok (.iadd, 1) := by decide +kernel
theorem dX11_keeps_74 : decode cX11_keeps 74 = .ok (.iaload, 1) := by decide +kernel
theorem dX11_keeps_75 : decode cX11_keeps 75 = .ok (.iastore, 1) := by decide +kernel
theorem dX11_keeps_76 : decode cX11_keeps 76 = .ok (.iinc 1 1, 3) := by decide +kernel
theorem dX11_keeps_79 : decode cX11_keeps 79 = .ok (.goto (-32), 3) := by decide +kernel
theorem dX11_keeps_9 : decode cX11_keeps 9 = .ok (.iconst 0, 1) := by decide +kernel
theorem dX11_keeps_10 : decode cX11_keeps 10 = .ok (.istore_n 1, 1) := by decide +kernel
theorem dX11_keeps_11 : decode cX11_keeps 11 = .ok (.iload_n 1, 1) := by decide +kernel
theorem dX11_keeps_12 : decode cX11_keeps 12 = .ok (.sipush 686, 3) := by decide +kernel
theorem dX11_keeps_15 : decode cX11_keeps 15 = .ok (.if_icmp .ge 24, 3) := by decide +kernel
theorem dX11_keeps_39 : decode cX11_keeps 39 = .ok (.aload_n 0, 1) := by decide +kernel
theorem dX11_keeps_40 : decode cX11_keeps 40 = .ok (.bipush 7, 2) := by decide +kernel
theorem dX11_keeps_42 : decode cX11_keeps 42 = .ok (.putfield 288, 3) := by decide +kernel
theorem dX11_keeps_18 : decode cX11_keeps 18 = .ok (.aload_n 0, 1) := by decide +kernel
theorem dX11_keeps_19 : decode cX11_keeps 19 = .ok (.getfield 50, 3) := by decide +kernel
theorem dX11_keeps_22 : decode cX11_keeps 22 = .ok (.iload_n 1, 1) := by decide +kernel
theorem dX11_keeps_23 : decode cX11_keeps 23 = .ok (.aload_n 0, 1) := by decide +kernel
theorem dX11_keeps_24 : decode cX11_keeps 24 = .ok (.getfield 50, 3) := by decide +kernel
theorem dX11_keeps_27 : decode cX11_keeps 27 = .ok (.iload_n 1, 1) := by decide +kernel
theorem dX11_keeps_28 : decode cX11_keeps 28 = .ok (.bipush 98, 2) := by decide +kernel
theorem dX11_keeps_30 : decode cX11_keeps 30 = .ok (.iadd, 1) := by decide +kernel
theorem dX11_keeps_31 : decode cX11_keeps 31 = .ok (.iaload, 1) := by decide +kernel
theorem dX11_keeps_32 : decode cX11_keeps 32 = .ok (.iastore, 1) := by decide +kernel
theorem dX11_keeps_33 : decode cX11_keeps 33 = .ok (.iinc 1 1, 3) := by decide +kernel
theorem dX11_keeps_36 : decode cX11_keeps 36 = .ok (.goto (-25), 3) := by decide +kernel
theorem dX11_undo_0 : decode cX11_undo 0 = .ok (.aload_n 0, 1) := by decide +kernel
theorem dX11_undo_1 : decode cX11_undo 1 = .ok (.iconst 0, 1) := by decide +kernel
theorem dX11_undo_2 : decode cX11_undo 2 = .ok (.putfield 1, 3) := by decide +kernel
theorem dX11_undo_5 : decode cX11_undo 5 = .ok (.aload_n 0, 1) := by decide +kernel
theorem dX11_undo_6 : decode cX11_undo 6 = .ok (.getfield 288, 3) := by decide +kernel
theorem dX11_undo_9 : decode cX11_undo 9 = .ok (.ifCond .ne 5, 3) := by decide +kernel
theorem dX11_undo_14 : decode cX11_undo 14 = .ok (.aload_n 0, 1) := by decide +kernel
theorem dX11_undo_15 : decode cX11_undo 15 = .ok (.dup, 1) := by decide +kernel
theorem dX11_undo_16 : decode cX11_undo 16 = .ok (.getfield 288, 3) := by decide +kernel
theorem dX11_undo_19 : decode cX11_undo 19 = .ok (.iconst 1, 1) := by decide +kernel
theorem dX11_undo_20 : decode cX11_undo 20 = .ok (.isub, 1) := by decide +kernel
theorem dX11_undo_21 : decode cX11_undo 21 = .ok (.putfield 288, 3) := by decide +kernel
theorem dX11_undo_24 : decode cX11_undo 24 = .ok (.iconst 0, 1) := by decide +kernel
theorem dX11_undo_25 : decode cX11_undo 25 = .ok (.istore_n 1, 1) := by decide +kernel
theorem dX11_undo_26 : decode cX11_undo 26 = .ok (.iload_n 1, 1) := by decide +kernel
theorem dX11_undo_27 : decode cX11_undo 27 = .ok (.bipush 98, 2) := by decide +kernel
theorem dX11_undo_29 : decode cX11_undo 29 = .ok (.if_icmp .ge 32, 3) := by decide +kernel
theorem dX11_undo_61 : decode cX11_undo 61 = .ok (.aload_n 0, 1) := by decide +kernel
theorem dX11_undo_62 : decode cX11_undo 62 = .ok (.getfield 288, 3) := by decide +kernel
theorem dX11_undo_65 : decode cX11_undo 65 = .ok (.ireturn, 1) := by decide +kernel
theorem dX11_undo_32 : decode cX11_undo 32 = .ok (.aload_n 0, 1) := by decide +kernel
theorem dX11_undo_33 : decode cX11_undo 33 = .ok (.getfield 33, 3) := by decide +kernel
theorem dX11_undo_36 : decode cX11_undo 36 = .ok (.bipush 104, 2) := by decide +kernel
theorem dX11_undo_38 : decode cX11_undo 38 = .ok (.iload_n 1, 1) := by decide +kernel
theorem dX11_undo_39 : decode cX11_undo 39 = .ok (.iadd, 1) := by decide +kernel
theorem dX11_undo_40 : decode cX11_undo 40 = .ok (.aload_n 0, 1) := by decide +kernel
theorem dX11_undo_41 : decode cX11_undo 41 = .ok (.getfield 50, 3) := by decide +kernel
theorem dX11_undo_44 : decode cX11_undo 44 = .ok (.bipush 98, 2) := by decide +kernel
theorem dX11_undo_46 : decode cX11_undo 46 = .ok (.aload_n 0, 1) := by decide +kernel
theorem dX11_undo_47 : decode cX11_undo 47 = .ok (.getfield 288, 3) := by decide +kernel
theorem dX11_undo_50 : decode cX11_undo 50 = .ok (.imul, 1) := by decide +kernel
theorem dX11_undo_51 : decode cX11_undo 51 = .ok (.iload_n 1, 1) := by decide +kernel
theorem dX11_undo_52 : decode cX11_undo 52 = .ok (.iadd, 1) := by decide +kernel
theorem dX11_undo_53 : decode cX11_undo 53 = .ok (.iaload, 1) := by decide +kernel
theorem dX11_undo_54 : decode cX11_undo 54 = .ok (.iastore, 1) := by decide +kernel
theorem dX11_undo_55 : decode cX11_undo 55 = .ok (.iinc 1 1, 3) := by decide +kernel
theorem dX11_undo_58 : decode cX11_undo 58 = .ok (.goto (-32), 3) := by decide +kernel
theorem dX11_undo_12 : decode cX11_undo 12 = .ok (.iconst (-1), 1) := by decide +kernel
theorem dX11_undo_13 : decode cX11_undo 13 = .ok (.ireturn, 1) := by decide +kernel
set_option maxHeartbeats 4000000 in
set_option maxRecDepth 100000 in
theorem b_y_drawB (l : Launch) (D : va_G) (cy : Nat → ClassId) (q : Nat) (a : Int32) (q_thrown : Int32) (q_tape_ : Nat) (q_length : Int32) (q_size : Int32) (q_p : Int32) (q_limit : Int32) (q_s_ : Nat) (q_h_ : Nat) (q_read_ : Nat) (q_names_ : Nat) (q_reserved_ : Nat) (q_token : Int32) (q_at : Int32) (q_span : Int32) (q_number : Int32) (q_fault : Int32) (q_faultAt : Int32) (q_word : Int64) (q_got : Int32) (q_lines : Int32) (q_onces : Int32) (q_webs : Int32) (q_one : Int32) (q_two : Int32) (q_seed : Int32) (q_undone_ : Nat) (q_before_ : Nat) (q_undoMany : Int32) (q_far_ : Nat) (q_wayRow_ : Nat) (q_wayMany : Int32) (q_keptRow_ : Nat) (q_askedRow_ : Nat) (q_rares_ : Nat) (q_trial_ : Nat) (q_keptMany : Int32) (q_askedMany : Int32) (q_hangs_ : Nat) (q_paths_ : Nat) (q_tornSteps : Int32) (q_hasTorn : Int32) (q_turnOne : Int32) (q_hasTurn : Int32) (q_text_ : Nat) (q_textMany : Int32) (q_toldMany : Int32) (q_toldAt_ : Nat) (q_hasTold : Int32) (q_stack_ : Nat) (q_codes : Int32) (q_ones : Int32) (q_top : Int32) (q_deep : Int32) (q_isWhole : Int32) (q_truths_ : Nat) (q_imaged_ : Nat) (q_namesKept_ : Nat) (q_areKept_ : Nat) (hb0 : 0 ≤ q_length.toInt ∧ q_length.toInt ≤ 940) (hb1 : 0 ≤ q_size.toInt ∧ q_size.toInt ≤ 940) (hb2 : 0 ≤ q_p.toInt ∧ q_p.toInt ≤ 940) (hb3 : 0 ≤ q_limit.toInt ∧ q_limit.toInt ≤ 940) (hb4 : 0 ≤ q_span.toInt ∧ q_span.toInt ≤ 940) (hb5 : 0 ≤ q_number.toInt ∧ q_number.toInt ≤ 8214) (hb6 : (-1) ≤ q_got.toInt ∧ q_got.toInt ≤ 8214) (hb7 : 0 ≤ q_one.toInt ∧ q_one.toInt ≤ 7) (hb8 : 0 ≤ q_two.toInt ∧ q_two.toInt ≤ 7) (hb9 : 0 ≤ q_undoMany.toInt ∧ q_undoMany.toInt ≤ 8) (hb10 : (-1) ≤ q_wayMany.toInt ∧ q_wayMany.toInt ≤ 8) (hb11 : (-1) ≤ q_keptMany.toInt ∧ q_keptMany.toInt ≤ 8) (hb12 : (-1) ≤ q_askedMany.toInt ∧ q_askedMany.toInt ≤ 3) (hb13 : 0 ≤ q_hasTorn.toInt ∧ q_hasTorn.toInt ≤ 1) (hb14 : 0 ≤ q_hasTurn.toInt ∧ q_hasTurn.toInt ≤ 1) (hb15 : 0 ≤ q_textMany.toInt ∧ q_textMany.toInt ≤ 48) (hb16 : 0 ≤ q_toldMany.toInt ∧ q_toldMany.toInt ≤ 40) (hb17 : 0 ≤ q_hasTold.toInt ∧ q_hasTold.toInt ≤ 1) (hb18 : 0 ≤ q_codes.toInt ∧ q_codes.toInt ≤ 40) (hb19 : 0 ≤ q_ones.toInt ∧ q_ones.toInt ≤ 20) (hb20 : 0 ≤ q_top.toInt ∧ q_top.toInt ≤ 40) (hb21 : 0 ≤ q_isWhole.toInt ∧ q_isWhole.toInt ≤ 1) (hb22 : 1 ≤ a.toInt ∧ a.toInt ≤ 8) {p : Program} {e : Env} {s : State} {m : MethodId} {args : Array Value} {below : List Frame} {meth : Method} {c : Code} {A : Nat → Prop} {Q : State → Prop} {cells slots : Nat} (hroom : cells ≤ ((Rm 0 0 0 0)).cells ∧ slots ≤ ((Rm 0 0 0 0)).slots) (C : Cx p s m args meth c cX11_draw 2 (some .int) RX11 "draw" D cy A) (hQ : Q = MQ below (va_Qi (fun (r : Int32) (u : Int32) => (0 ≤ r.toInt ∧ r.toInt ≤ 7)) (Bx D A (fun u : Int32 => [(q, oC11 q_thrown q_tape_ q_length q_size q_p q_limit q_s_ q_h_ q_read_ q_names_ q_reserved_ q_token q_at q_span q_number q_fault q_faultAt q_word q_got q_lines q_onces q_webs q_one q_two u q_undone_ q_before_ q_undoMany q_far_ q_wayRow_ q_wayMany q_keptRow_ q_askedRow_ q_rares_ q_trial_ q_keptMany q_askedMany q_hangs_ q_paths_ q_tornSteps q_hasTorn q_turnOne q_hasTurn q_text_ q_textMany q_toldMany q_toldAt_ q_hasTold q_stack_ q_codes q_ones q_top q_deep q_isWhole q_truths_ q_imaged_ q_namesKept_ q_areKept_)])) A) args s ((Rm 0 0 0 0)).cells ((Rm 0 0 0 0)).slots A) (H : Heap) (locs : List Loc) (ls : Array Slot) (hP : va_P D vwCl [(q, oC11 q_thrown q_tape_ q_length q_size q_p q_limit q_s_ q_h_ q_read_ q_names_ q_reserved_ q_token q_at q_span q_number q_fault q_faultAt q_word q_got q_lines q_onces q_webs q_one q_two q_seed q_undone_ q_before_ q_undoMany q_far_ q_wayRow_ q_wayMany q_keptRow_ q_askedRow_ q_rares_ q_trial_ q_keptMany q_askedMany q_hangs_ q_paths_ q_tornSteps q_hasTorn q_turnOne q_hasTurn q_text_ q_textMany q_toldMany q_toldAt_ q_hasTold q_stack_ q_codes q_ones q_top q_deep q_isWhole q_truths_ q_imaged_ q_namesKept_ q_areKept_)] H) (hD : va_D A [(q, oC11 q_thrown q_tape_ q_length q_size q_p q_limit q_s_ q_h_ q_read_ q_names_ q_reserved_ q_token q_at q_span q_number q_fault q_faultAt q_word q_got q_lines q_onces q_webs q_one q_two q_seed q_undone_ q_before_ q_undoMany q_far_ q_wayRow_ q_wayMany q_keptRow_ q_askedRow_ q_rares_ q_trial_ q_keptMany q_askedMany q_hangs_ q_paths_ q_tornSteps q_hasTorn q_turnOne q_hasTurn q_text_ q_textMany q_toldMany q_toldAt_ q_hasTold q_stack_ q_codes q_ones q_top q_deep q_isWhole q_truths_ q_imaged_ q_namesKept_ q_areKept_)]) (hS : va_S A s.heap H locs) (hl : lv_has ls 2 [(0, .ref q), (1, .int a)]) : W p l e (Rm 0 0 0 0) s m args below meth c H locs cells slots Q (F0 m 0 ls []) := by
  have hx := C.1
  have hb := C.2.1
  refine lv_aload_n hx hb dX11_draw_0 rfl (lv_at hl 0 rfl) ?_
  refine lv_aload_n hx hb dX11_draw_1 rfl (lv_at hl 0 rfl) ?_
  refine q_get11 (v := .int q_seed) C hP 0 24 rfl fT_24 (by decide) kF_RX11_334 rfl dX11_draw_2 ?_
  refine q_ldc_w (v := 1103515245) C kC_RX11_337 dX11_draw_5 ?_
  refine lv_imul hx hb dX11_draw_8 ?_
  refine lv_topi (fun z_1 hz_1 => ?_)
  clear hz_1
  refine lv_sipush (v := 12345) hx hb dX11_draw_9 (by decide) ?_
  refine lv_iadd hx hb dX11_draw_12 ?_
  refine lv_topi (fun z_2 hz_2 => ?_)
  clear hz_2
  refine q_put11 (v := .int z_2) (w' := [(q, oC11 q_thrown q_tape_ q_length q_size q_p q_limit q_s_ q_h_ q_read_ q_names_ q_reserved_ q_token q_at q_span q_number q_fault q_faultAt q_word q_got q_lines q_onces q_webs q_one q_two z_2 q_undone_ q_before_ q_undoMany q_far_ q_wayRow_ q_wayMany q_keptRow_ q_askedRow_ q_rares_ q_trial_ q_keptMany q_askedMany q_hangs_ q_paths_ q_tornSteps q_hasTorn q_turnOne q_hasTurn q_text_ q_textMany q_toldMany q_toldAt_ q_hasTold q_stack_ q_codes q_ones q_top q_deep q_isWhole q_truths_ q_imaged_ q_namesKept_ q_areKept_)]) C hP hD hS 0 24 rfl fT_24 fy_24 (by decide) kF_RX11_334 rfl rfl (Nat.le_of_ble_eq_true rfl) rfl dX11_draw_13 (fun H locs hP hD hS => ?_)
  refine lv_aload_n hx hb dX11_draw_16 rfl (lv_at hl 0 rfl) ?_
  refine q_get11 (v := .int z_2) C hP 0 24 rfl fT_24 (by decide) kF_RX11_334 rfl dX11_draw_17 ?_
  refine lv_bipush (v := 8) hx hb dX11_draw_20 (by decide) ?_
  obtain ⟨z_3, hz_3⟩ : ∃ z : Int32, z = ((z_2 : Int32).toUInt32 >>> ((8 : Int32).toUInt32 &&& Int32.toUInt32 31)).toInt32 := ⟨_, rfl⟩
  refine lv_iushr (v := z_3) hx hb dX11_draw_22 hz_3.symm ?_
  have hz_3 := o_ushr 8 16777215 hz_3 (by decide) (by decide)
  refine lv_iload_n hx hb dX11_draw_23 rfl (lv_at hl 1 rfl) ?_
  refine lv_irem hx hb dX11_draw_24 (o_mne (b := 0) (rfl : a.toInt = a.toInt) (by decide) (by omega)) ?_
  refine lv_topi (fun z_4 hz_4 => ?_)
  have hz_4 := o_rem hz_4 (rfl : z_3.toInt = z_3.toInt) (rfl : a.toInt = a.toInt) (by omega) (by omega)
  refine o_wq hQ ?_
  exact q_iret (rm := (Rm 0 0 0 0)) C hS z_2 rfl (show 0 ≤ z_4.toInt ∧ z_4.toInt ≤ 7 by omega) (q_subP hP [0] rfl) (hD.sub [0] (by decide) rfl) hroom.1 hroom.2 dX11_draw_25
theorem y_drawB (l : Launch) (D : va_G) (cy : Nat → ClassId) (q : Nat) (a : Int32) (q_thrown : Int32) (q_tape_ : Nat) (q_length : Int32) (q_size : Int32) (q_p : Int32) (q_limit : Int32) (q_s_ : Nat) (q_h_ : Nat) (q_read_ : Nat) (q_names_ : Nat) (q_reserved_ : Nat) (q_token : Int32) (q_at : Int32) (q_span : Int32) (q_number : Int32) (q_fault : Int32) (q_faultAt : Int32) (q_word : Int64) (q_got : Int32) (q_lines : Int32) (q_onces : Int32) (q_webs : Int32) (q_one : Int32) (q_two : Int32) (q_seed : Int32) (q_undone_ : Nat) (q_before_ : Nat) (q_undoMany : Int32) (q_far_ : Nat) (q_wayRow_ : Nat) (q_wayMany : Int32) (q_keptRow_ : Nat) (q_askedRow_ : Nat) (q_rares_ : Nat) (q_trial_ : Nat) (q_keptMany : Int32) (q_askedMany : Int32) (q_hangs_ : Nat) (q_paths_ : Nat) (q_tornSteps : Int32) (q_hasTorn : Int32) (q_turnOne : Int32) (q_hasTurn : Int32) (q_text_ : Nat) (q_textMany : Int32) (q_toldMany : Int32) (q_toldAt_ : Nat) (q_hasTold : Int32) (q_stack_ : Nat) (q_codes : Int32) (q_ones : Int32) (q_top : Int32) (q_deep : Int32) (q_isWhole : Int32) (q_truths_ : Nat) (q_imaged_ : Nat) (q_namesKept_ : Nat) (q_areKept_ : Nat) (sz : Nat) (hb0 : 0 ≤ q_length.toInt ∧ q_length.toInt ≤ 940) (hb1 : 0 ≤ q_size.toInt ∧ q_size.toInt ≤ 940) (hb2 : 0 ≤ q_p.toInt ∧ q_p.toInt ≤ 940) (hb3 : 0 ≤ q_limit.toInt ∧ q_limit.toInt ≤ 940) (hb4 : 0 ≤ q_span.toInt ∧ q_span.toInt ≤ 940) (hb5 : 0 ≤ q_number.toInt ∧ q_number.toInt ≤ 8214) (hb6 : (-1) ≤ q_got.toInt ∧ q_got.toInt ≤ 8214) (hb7 : 0 ≤ q_one.toInt ∧ q_one.toInt ≤ 7) (hb8 : 0 ≤ q_two.toInt ∧ q_two.toInt ≤ 7) (hb9 : 0 ≤ q_undoMany.toInt ∧ q_undoMany.toInt ≤ 8) (hb10 : (-1) ≤ q_wayMany.toInt ∧ q_wayMany.toInt ≤ 8) (hb11 : (-1) ≤ q_keptMany.toInt ∧ q_keptMany.toInt ≤ 8) (hb12 : (-1) ≤ q_askedMany.toInt ∧ q_askedMany.toInt ≤ 3) (hb13 : 0 ≤ q_hasTorn.toInt ∧ q_hasTorn.toInt ≤ 1) (hb14 : 0 ≤ q_hasTurn.toInt ∧ q_hasTurn.toInt ≤ 1) (hb15 : 0 ≤ q_textMany.toInt ∧ q_textMany.toInt ≤ 48) (hb16 : 0 ≤ q_toldMany.toInt ∧ q_toldMany.toInt ≤ 40) (hb17 : 0 ≤ q_hasTold.toInt ∧ q_hasTold.toInt ≤ 1) (hb18 : 0 ≤ q_codes.toInt ∧ q_codes.toInt ≤ 40) (hb19 : 0 ≤ q_ones.toInt ∧ q_ones.toInt ≤ 20) (hb20 : 0 ≤ q_top.toInt ∧ q_top.toInt ≤ 40) (hb21 : 0 ≤ q_isWhole.toInt ∧ q_isWhole.toInt ≤ 1) (hb22 : 1 ≤ a.toInt ∧ a.toInt ≤ 8) : MI l yX11_draw cX11_draw 2 (some .int) (Rm 0 0 0 0) D cy [.ref q, .int a] sz [(q, oC11 q_thrown q_tape_ q_length q_size q_p q_limit q_s_ q_h_ q_read_ q_names_ q_reserved_ q_token q_at q_span q_number q_fault q_faultAt q_word q_got q_lines q_onces q_webs q_one q_two q_seed q_undone_ q_before_ q_undoMany q_far_ q_wayRow_ q_wayMany q_keptRow_ q_askedRow_ q_rares_ q_trial_ q_keptMany q_askedMany q_hangs_ q_paths_ q_tornSteps q_hasTorn q_turnOne q_hasTurn q_text_ q_textMany q_toldMany q_toldAt_ q_hasTold q_stack_ q_codes q_ones q_top q_deep q_isWhole q_truths_ q_imaged_ q_namesKept_ q_areKept_)] (fun (r : Int32) (u : Int32) => (0 ≤ r.toInt ∧ r.toInt ≤ 7)) (fun u : Int32 => [(q, oC11 q_thrown q_tape_ q_length q_size q_p q_limit q_s_ q_h_ q_read_ q_names_ q_reserved_ q_token q_at q_span q_number q_fault q_faultAt q_word q_got q_lines q_onces q_webs q_one q_two u q_undone_ q_before_ q_undoMany q_far_ q_wayRow_ q_wayMany q_keptRow_ q_askedRow_ q_rares_ q_trial_ q_keptMany q_askedMany q_hangs_ q_paths_ q_tornSteps q_hasTorn q_turnOne q_hasTurn q_text_ q_textMany q_toldMany q_toldAt_ q_hasTold q_stack_ q_codes q_ones q_top q_deep q_isWhole q_truths_ q_imaged_ q_namesKept_ q_areKept_)]) := by
  refine MI.enter (by decide) (Nat.le_of_ble_eq_true rfl) ?_
  intro p e s m below meth c ls A hsz hAe C hP hD hS hl
  exact b_y_drawB l D cy q a q_thrown q_tape_ q_length q_size q_p q_limit q_s_ q_h_ q_read_ q_names_ q_reserved_ q_token q_at q_span q_number q_fault q_faultAt q_word q_got q_lines q_onces q_webs q_one q_two q_seed q_undone_ q_before_ q_undoMany q_far_ q_wayRow_ q_wayMany q_keptRow_ q_askedRow_ q_rares_ q_trial_ q_keptMany q_askedMany q_hangs_ q_paths_ q_tornSteps q_hasTorn q_turnOne q_hasTurn q_text_ q_textMany q_toldMany q_toldAt_ q_hasTold q_stack_ q_codes q_ones q_top q_deep q_isWhole q_truths_ q_imaged_ q_namesKept_ q_areKept_ hb0 hb1 hb2 hb3 hb4 hb5 hb6 hb7 hb8 hb9 hb10 hb11 hb12 hb13 hb14 hb15 hb16 hb17 hb18 hb19 hb20 hb21 hb22 ⟨Nat.le_of_ble_eq_true rfl, Nat.le_of_ble_eq_true rfl⟩ C rfl _ _ ls hP hD hS hl
set_option maxHeartbeats 4000000 in
set_option maxRecDepth 100000 in
theorem b_y_day (l : Launch) (D : va_G) (cy : Nat → ClassId) (q : Nat) (q_thrown : Int32) (q_tape_ : Nat) (q_length : Int32) (q_size : Int32) (q_p : Int32) (q_limit : Int32) (q_s_ : Nat) (q_h_ : Nat) (q_read_ : Nat) (q_names_ : Nat) (q_reserved_ : Nat) (q_token : Int32) (q_at : Int32) (q_span : Int32) (q_number : Int32) (q_fault : Int32) (q_faultAt : Int32) (q_word : Int64) (q_got : Int32) (q_lines : Int32) (q_onces : Int32) (q_webs : Int32) (q_one : Int32) (q_two : Int32) (q_seed : Int32) (q_undone_ : Nat) (q_before_ : Nat) (q_undoMany : Int32) (q_far_ : Nat) (q_wayRow_ : Nat) (q_wayMany : Int32) (q_keptRow_ : Nat) (q_askedRow_ : Nat) (q_rares_ : Nat) (q_trial_ : Nat) (q_keptMany : Int32) (q_askedMany : Int32) (q_hangs_ : Nat) (q_paths_ : Nat) (q_tornSteps : Int32) (q_hasTorn : Int32) (q_turnOne : Int32) (q_hasTurn : Int32) (q_text_ : Nat) (q_textMany : Int32) (q_toldMany : Int32) (q_toldAt_ : Nat) (q_hasTold : Int32) (q_stack_ : Nat) (q_codes : Int32) (q_ones : Int32) (q_top : Int32) (q_deep : Int32) (q_isWhole : Int32) (q_truths_ : Nat) (q_imaged_ : Nat) (q_namesKept_ : Nat) (q_areKept_ : Nat) (q_s : Nat → Int32) (gs : Nat → Int32) (hb0 : 0 ≤ q_length.toInt ∧ q_length.toInt ≤ 940) (hb1 : 0 ≤ q_size.toInt ∧ q_size.toInt ≤ 940) (hb2 : 0 ≤ q_p.toInt ∧ q_p.toInt ≤ 940) (hb3 : 0 ≤ q_limit.toInt ∧ q_limit.toInt ≤ 940) (hb4 : 0 ≤ q_span.toInt ∧ q_span.toInt ≤ 940) (hb5 : 0 ≤ q_number.toInt ∧ q_number.toInt ≤ 8214) (hb6 : (-1) ≤ q_got.toInt ∧ q_got.toInt ≤ 8214) (hb7 : 0 ≤ q_one.toInt ∧ q_one.toInt ≤ 7) (hb8 : 0 ≤ q_two.toInt ∧ q_two.toInt ≤ 7) (hb9 : 0 ≤ q_undoMany.toInt ∧ q_undoMany.toInt ≤ 8) (hb10 : (-1) ≤ q_wayMany.toInt ∧ q_wayMany.toInt ≤ 8) (hb11 : (-1) ≤ q_keptMany.toInt ∧ q_keptMany.toInt ≤ 8) (hb12 : (-1) ≤ q_askedMany.toInt ∧ q_askedMany.toInt ≤ 3) (hb13 : 0 ≤ q_hasTorn.toInt ∧ q_hasTorn.toInt ≤ 1) (hb14 : 0 ≤ q_hasTurn.toInt ∧ q_hasTurn.toInt ≤ 1) (hb15 : 0 ≤ q_textMany.toInt ∧ q_textMany.toInt ≤ 48) (hb16 : 0 ≤ q_toldMany.toInt ∧ q_toldMany.toInt ≤ 40) (hb17 : 0 ≤ q_hasTold.toInt ∧ q_hasTold.toInt ≤ 1) (hb18 : 0 ≤ q_codes.toInt ∧ q_codes.toInt ≤ 40) (hb19 : 0 ≤ q_ones.toInt ∧ q_ones.toInt ≤ 20) (hb20 : 0 ≤ q_top.toInt ∧ q_top.toInt ≤ 40) (hb21 : 0 ≤ q_isWhole.toInt ∧ q_isWhole.toInt ≤ 1) (hR0 : Rg q_s 0 1 0 8) (hR1 : Rg q_s 1 3 0 6) (hR2 : Rg q_s 3 4 1 50) (hR3 : Rg q_s 4 5 1 5) (hR4 : Rg q_s 103 104 0 255) (hR5 : Rg q_s 7 23 0 5) (hR6 : Rg q_s 106 122 0 5) (hR7 : Rg q_s 23 31 0 99) (hR8 : Rg q_s 122 130 0 99) (hR9 : Sv q_s) (hR10 : F7 q_s gs) {p : Program} {e : Env} {s : State} {m : MethodId} {args : Array Value} {below : List Frame} {meth : Method} {c : Code} {A : Nat → Prop} {Q : State → Prop} {cells slots : Nat} (hroom : cells ≤ ((Rm 3 70 0 0)).cells ∧ slots ≤ ((Rm 3 70 0 0)).slots) (C : Cx p s m args meth c cX11_day 3 none RX11 "day" D cy A) (hQ : Q = MQ below (va_Qv (fun u : Int32 × (Nat → Int32) => (Rg u.2 0 1 0 8) ∧ (Rg u.2 1 3 0 6) ∧ (Rg u.2 3 4 1 50) ∧ (Rg u.2 4 5 1 5) ∧ (Rg u.2 103 104 0 255) ∧ (Rg u.2 7 23 0 5) ∧ (Rg u.2 106 122 0 5) ∧ (Rg u.2 23 31 0 99) ∧ (Rg u.2 122 130 0 99) ∧ (Sv u.2) ∧ (F7 u.2 gs)) (Bx D A (fun u : Int32 × (Nat → Int32) => [(q, oC11 q_thrown q_tape_ q_length q_size q_p q_limit q_s_ q_h_ q_read_ q_names_ q_reserved_ q_token q_at q_span q_number q_fault q_faultAt q_word q_got q_lines q_onces q_webs q_one q_two u.1 q_undone_ q_before_ q_undoMany q_far_ q_wayRow_ q_wayMany q_keptRow_ q_askedRow_ q_rares_ q_trial_ q_keptMany q_askedMany q_hangs_ q_paths_ q_tornSteps q_hasTorn q_turnOne q_hasTurn q_text_ q_textMany q_toldMany q_toldAt_ q_hasTold q_stack_ q_codes q_ones q_top q_deep q_isWhole q_truths_ q_imaged_ q_namesKept_ q_areKept_), (q_s_, aC1 cy 383 u.2)])) A) args s ((Rm 3 70 0 0)).cells ((Rm 3 70 0 0)).slots A) (H : Heap) (locs : List Loc) (ls : Array Slot) (hP : va_P D vwCl [(q, oC11 q_thrown q_tape_ q_length q_size q_p q_limit q_s_ q_h_ q_read_ q_names_ q_reserved_ q_token q_at q_span q_number q_fault q_faultAt q_word q_got q_lines q_onces q_webs q_one q_two q_seed q_undone_ q_before_ q_undoMany q_far_ q_wayRow_ q_wayMany q_keptRow_ q_askedRow_ q_rares_ q_trial_ q_keptMany q_askedMany q_hangs_ q_paths_ q_tornSteps q_hasTorn q_turnOne q_hasTurn q_text_ q_textMany q_toldMany q_toldAt_ q_hasTold q_stack_ q_codes q_ones q_top q_deep q_isWhole q_truths_ q_imaged_ q_namesKept_ q_areKept_), (q_s_, aC1 cy 383 q_s)] H) (hD : va_D A [(q, oC11 q_thrown q_tape_ q_length q_size q_p q_limit q_s_ q_h_ q_read_ q_names_ q_reserved_ q_token q_at q_span q_number q_fault q_faultAt q_word q_got q_lines q_onces q_webs q_one q_two q_seed q_undone_ q_before_ q_undoMany q_far_ q_wayRow_ q_wayMany q_keptRow_ q_askedRow_ q_rares_ q_trial_ q_keptMany q_askedMany q_hangs_ q_paths_ q_tornSteps q_hasTorn q_turnOne q_hasTurn q_text_ q_textMany q_toldMany q_toldAt_ q_hasTold q_stack_ q_codes q_ones q_top q_deep q_isWhole q_truths_ q_imaged_ q_namesKept_ q_areKept_), (q_s_, aC1 cy 383 q_s)]) (hS : va_S A s.heap H locs) (hl : lv_has ls 3 [(0, .ref q)]) : W p l e (Rm 3 70 0 0) s m args below meth c H locs cells slots Q (F0 m 0 ls []) := by
  have hx := C.1
  have hb := C.2.1
  refine lv_iconst (v := 0) hx hb dX11_day_0 (by decide) ?_
  refine lv_istore_n (lv' := [(1, .int 0), (0, .ref q)]) hx hb dX11_day_1 rfl hl (by decide) rfl (fun ls hl => ?_)
  have lp_2_2 : ∀ (n_3 : Nat) (x_1 : Int32) (g_2 : Nat → Int32) (H : Heap) (locs : List Loc) (ls : Array Slot), (-1) * x_1.toInt + 8 < (n_3 : Int) → (0 ≤ x_1.toInt ∧ x_1.toInt ≤ 8) → Rg g_2 0 1 0 8 → Rg g_2 1 3 0 6 → Rg g_2 3 4 1 50 → Rg g_2 4 5 1 5 → Rg g_2 103 104 0 255 → Rg g_2 7 23 0 5 → Rg g_2 106 122 0 5 → Rg g_2 23 31 0 99 → Rg g_2 122 130 0 99 → Sv g_2 → F7 g_2 gs → va_P D vwCl [(q, oC11 q_thrown q_tape_ q_length q_size q_p q_limit q_s_ q_h_ q_read_ q_names_ q_reserved_ q_token q_at q_span q_number q_fault q_faultAt q_word q_got q_lines q_onces q_webs q_one q_two q_seed q_undone_ q_before_ q_undoMany q_far_ q_wayRow_ q_wayMany q_keptRow_ q_askedRow_ q_rares_ q_trial_ q_keptMany q_askedMany q_hangs_ q_paths_ q_tornSteps q_hasTorn q_turnOne q_hasTurn q_text_ q_textMany q_toldMany q_toldAt_ q_hasTold q_stack_ q_codes q_ones q_top q_deep q_isWhole q_truths_ q_imaged_ q_namesKept_ q_areKept_), (q_s_, aC1 cy 383 g_2)] H → va_D A [(q, oC11 q_thrown q_tape_ q_length q_size q_p q_limit q_s_ q_h_ q_read_ q_names_ q_reserved_ q_token q_at q_span q_number q_fault q_faultAt q_word q_got q_lines q_onces q_webs q_one q_two q_seed q_undone_ q_before_ q_undoMany q_far_ q_wayRow_ q_wayMany q_keptRow_ q_askedRow_ q_rares_ q_trial_ q_keptMany q_askedMany q_hangs_ q_paths_ q_tornSteps q_hasTorn q_turnOne q_hasTurn q_text_ q_textMany q_toldMany q_toldAt_ q_hasTold q_stack_ q_codes q_ones q_top q_deep q_isWhole q_truths_ q_imaged_ q_namesKept_ q_areKept_), (q_s_, aC1 cy 383 g_2)] → va_S A s.heap H locs → lv_has ls 3 [(0, .ref q), (1, .int x_1)] → W p l e (Rm 3 70 0 0) s m args below meth c H locs cells slots Q (F0 m 2 ls []) := by
    intro n_3
    induction n_3 with
    | zero =>
      intro x_1 g_2 H locs ls hm_16 hf_4 hg_5 hg_6 hg_7 hg_8 hg_9 hg_10 hg_11 hg_12 hg_13 hg_14 hg_15 hP hD hS hl
      exact absurd hm_16 (by omega)
    | succ n_3 ih_17 =>
      intro x_1 g_2 H locs ls hm_16 hf_4 hg_5 hg_6 hg_7 hg_8 hg_9 hg_10 hg_11 hg_12 hg_13 hg_14 hg_15 hP hD hS hl
      refine lv_iload_n hx hb dX11_day_2 rfl (lv_at hl 1 rfl) ?_
      refine lv_aload_n hx hb dX11_day_3 rfl (lv_at hl 0 rfl) ?_
      refine q_get11 (v := .ref q_s_) C hP 0 6 rfl fT_6 (by decide) kF_RX11_33 rfl dX11_day_4 ?_
      refine lv_iconst (v := 0) hx hb dX11_day_7 (by decide) ?_
      refine q_iald (v := g_2 0) C hP 1 rfl (vin (by decide +kernel)) rfl dX11_day_8 ?_
      refine lv_topi (fun z_19 ez_19 => ?_)
      have hz_19 : 0 ≤ z_19.toInt ∧ z_19.toInt ≤ 8 := (by rw [ez_19]; exact hg_5 0 (by decide) (by decide))
      refine lv_icmp_ge (tgt := 122) hx hb dX11_day_9 (by decide) (fun c_20 => ?_) (fun c_20 => ?_)
      · have hc_20 := o_le (rfl : z_19.toInt = z_19.toInt) (rfl : x_1.toInt = x_1.toInt) c_20
        refine lv_aload_n hx hb dX11_day_122 rfl (lv_at hl 0 rfl) ?_
        refine lv_bipush (v := 12) hx hb dX11_day_123 (by decide) ?_
        refine q_ai (wr := [(q_s_, aC1 cy 383 g_2)]) (r_V (rm := (Rm 0 0 0 0)) (q0 := 0) (As := [.int 12]) (rest := []) (wc := [(q, oC11 q_thrown q_tape_ q_length q_size q_p q_limit q_s_ q_h_ q_read_ q_names_ q_reserved_ q_token q_at q_span q_number q_fault q_faultAt q_word q_got q_lines q_onces q_webs q_one q_two q_seed q_undone_ q_before_ q_undoMany q_far_ q_wayRow_ q_wayMany q_keptRow_ q_askedRow_ q_rares_ q_trial_ q_keptMany q_askedMany q_hangs_ q_paths_ q_tornSteps q_hasTorn q_turnOne q_hasTurn q_text_ q_textMany q_toldMany q_toldAt_ q_hasTold q_stack_ q_codes q_ones q_top q_deep q_isWhole q_truths_ q_imaged_ q_namesKept_ q_areKept_)]) C hS (q_subP hP [0] rfl) (hD.sub [0] (by decide) rfl) (y_draw12 l D cy q q_thrown q_tape_ q_length q_size q_p q_limit q_s_ q_h_ q_read_ q_names_ q_reserved_ q_token q_at q_span q_number q_fault q_faultAt q_word q_got q_lines q_onces q_webs q_one q_two q_seed q_undone_ q_before_ q_undoMany q_far_ q_wayRow_ q_wayMany q_keptRow_ q_askedRow_ q_rares_ q_trial_ q_keptMany q_askedMany q_hangs_ q_paths_ q_tornSteps q_hasTorn q_turnOne q_hasTurn q_text_ q_textMany q_toldMany q_toldAt_ q_hasTold q_stack_ q_codes q_ones q_top q_deep q_isWhole q_truths_ q_imaged_ q_namesKept_ q_areKept_ _ (by omega) (by omega) (by omega) (by omega) (by omega) (by omega) (by omega) (by omega) (by omega) (by omega) (by omega) (by omega) (by omega) (by omega) (by omega) (by omega) (by omega) (by omega) (by omega) (by omega) (by omega) (by omega)) kwV_X11_draw kM_RX11_341 rfl rfl ⟨Nat.le_of_ble_eq_true rfl, Nat.le_of_ble_eq_true rfl⟩ rfl hl.1 rfl (Nat.le_of_ble_eq_true rfl) dX11_day_125 ⟨hroom.1, hroom.2⟩) C.2.2.2.2.2.2.1 hP hD hS [0] [1] rfl rfl (by decide) (by decide) (fun r_22 u_21 H locs hw_23 hP hD hS => ?_)
        obtain ⟨x_24, rfl⟩ : ∃ z, z = u_21 := ⟨_, rfl⟩
        have hP : va_P D vwCl [(q_s_, aC1 cy 383 g_2), (q, oC11 q_thrown q_tape_ q_length q_size q_p q_limit q_s_ q_h_ q_read_ q_names_ q_reserved_ q_token q_at q_span q_number q_fault q_faultAt q_word q_got q_lines q_onces q_webs q_one q_two x_24 q_undone_ q_before_ q_undoMany q_far_ q_wayRow_ q_wayMany q_keptRow_ q_askedRow_ q_rares_ q_trial_ q_keptMany q_askedMany q_hangs_ q_paths_ q_tornSteps q_hasTorn q_turnOne q_hasTurn q_text_ q_textMany q_toldMany q_toldAt_ q_hasTold q_stack_ q_codes q_ones q_top q_deep q_isWhole q_truths_ q_imaged_ q_namesKept_ q_areKept_)] H := hP
        have hD : va_D A [(q_s_, aC1 cy 383 g_2), (q, oC11 q_thrown q_tape_ q_length q_size q_p q_limit q_s_ q_h_ q_read_ q_names_ q_reserved_ q_token q_at q_span q_number q_fault q_faultAt q_word q_got q_lines q_onces q_webs q_one q_two x_24 q_undone_ q_before_ q_undoMany q_far_ q_wayRow_ q_wayMany q_keptRow_ q_askedRow_ q_rares_ q_trial_ q_keptMany q_askedMany q_hangs_ q_paths_ q_tornSteps q_hasTorn q_turnOne q_hasTurn q_text_ q_textMany q_toldMany q_toldAt_ q_hasTold q_stack_ q_codes q_ones q_top q_deep q_isWhole q_truths_ q_imaged_ q_namesKept_ q_areKept_)] := hD
        have hp_24 : 0 ≤ r_22.toInt ∧ r_22.toInt ≤ 11 := hw_23
        clear hw_23
        refine lv_aload_n hx hb dX11_day_128 rfl (lv_at hl 0 rfl) ?_
        refine q_get11 (v := .ref q_s_) C hP 1 6 rfl fT_6 (by decide) kF_RX11_33 rfl dX11_day_129 ?_
        refine lv_bipush (v := 6) hx hb dX11_day_132 (by decide) ?_
        refine q_iald (v := g_2 6) C hP 0 rfl (vin (by decide +kernel)) rfl dX11_day_134 ?_
        refine lv_topi (fun z_26 ez_26 => ?_)
        have cut_176_28 : ∀ (g_27 : Nat → Int32) (x_28 : Int32) (H : Heap) (locs : List Loc) (ls : Array Slot), Rg g_27 0 1 0 8 → Rg g_27 1 3 0 6 → Rg g_27 3 4 1 50 → Rg g_27 4 5 1 5 → Rg g_27 103 104 0 255 → Rg g_27 7 23 0 5 → Rg g_27 106 122 0 5 → Rg g_27 23 31 0 99 → Rg g_27 122 130 0 99 → Sv g_27 → F7 g_27 gs → va_P D vwCl [(q_s_, aC1 cy 383 g_27), (q, oC11 q_thrown q_tape_ q_length q_size q_p q_limit q_s_ q_h_ q_read_ q_names_ q_reserved_ q_token q_at q_span q_number q_fault q_faultAt q_word q_got q_lines q_onces q_webs q_one q_two x_28 q_undone_ q_before_ q_undoMany q_far_ q_wayRow_ q_wayMany q_keptRow_ q_askedRow_ q_rares_ q_trial_ q_keptMany q_askedMany q_hangs_ q_paths_ q_tornSteps q_hasTorn q_turnOne q_hasTurn q_text_ q_textMany q_toldMany q_toldAt_ q_hasTold q_stack_ q_codes q_ones q_top q_deep q_isWhole q_truths_ q_imaged_ q_namesKept_ q_areKept_)] H → va_D A [(q_s_, aC1 cy 383 g_27), (q, oC11 q_thrown q_tape_ q_length q_size q_p q_limit q_s_ q_h_ q_read_ q_names_ q_reserved_ q_token q_at q_span q_number q_fault q_faultAt q_word q_got q_lines q_onces q_webs q_one q_two x_28 q_undone_ q_before_ q_undoMany q_far_ q_wayRow_ q_wayMany q_keptRow_ q_askedRow_ q_rares_ q_trial_ q_keptMany q_askedMany q_hangs_ q_paths_ q_tornSteps q_hasTorn q_turnOne q_hasTurn q_text_ q_textMany q_toldMany q_toldAt_ q_hasTold q_stack_ q_codes q_ones q_top q_deep q_isWhole q_truths_ q_imaged_ q_namesKept_ q_areKept_)] → va_S A s.heap H locs → lv_has ls 3 [(0, .ref q)] → W p l e (Rm 3 70 0 0) s m args below meth c H locs cells slots Q (F0 m 176 ls []) := by
          intro g_27 x_28 H locs ls hg_29 hg_30 hg_31 hg_32 hg_33 hg_34 hg_35 hg_36 hg_37 hg_38 hg_39 hP hD hS hl
          refine lv_aload_n hx hb dX11_day_176 rfl (lv_at hl 0 rfl) ?_
          refine q_get11 (v := .ref q_s_) C hP 1 6 rfl fT_6 (by decide) kF_RX11_33 rfl dX11_day_177 ?_
          refine lv_bipush (v := 105) hx hb dX11_day_180 (by decide) ?_
          refine lv_iconst (v := 0) hx hb dX11_day_182 (by decide) ?_
          refine q_iast (g := upd g_27 105 0) (w' := [(q_s_, aC1 cy 383 (upd g_27 105 0)), (q, oC11 q_thrown q_tape_ q_length q_size q_p q_limit q_s_ q_h_ q_read_ q_names_ q_reserved_ q_token q_at q_span q_number q_fault q_faultAt q_word q_got q_lines q_onces q_webs q_one q_two x_28 q_undone_ q_before_ q_undoMany q_far_ q_wayRow_ q_wayMany q_keptRow_ q_askedRow_ q_rares_ q_trial_ q_keptMany q_askedMany q_hangs_ q_paths_ q_tornSteps q_hasTorn q_turnOne q_hasTurn q_text_ q_textMany q_toldMany q_toldAt_ q_hasTold q_stack_ q_codes q_ones q_top q_deep q_isWhole q_truths_ q_imaged_ q_namesKept_ q_areKept_)]) C hP hD hS 0 rfl (vin (by decide +kernel)) rfl rfl dX11_day_183 (fun H locs hP hD hS => ?_)
          have Rg_41_0 := Rg.upd_in (k := 105) (v := 0) hg_29 (by decide) (by decide)
          have Rg_41_1 := Rg.upd_in (k := 105) (v := 0) hg_30 (by decide) (by decide)
          have Rg_41_2 := Rg.upd_out (k := 105) (v := 0) hg_31 (by omega)
          have Rg_41_3 := Rg.upd_out (k := 105) (v := 0) hg_32 (by omega)
          have Rg_41_4 := Rg.upd_in (k := 105) (v := 0) hg_33 (by decide) (by decide)
          have Rg_41_5 := Rg.upd_in (k := 105) (v := 0) hg_34 (by decide) (by decide)
          have Rg_41_6 := Rg.upd_in (k := 105) (v := 0) hg_35 (by decide) (by decide)
          have Rg_41_7 := Rg.upd_in (k := 105) (v := 0) hg_36 (by decide) (by decide)
          have Rg_41_8 := Rg.upd_in (k := 105) (v := 0) hg_37 (by decide) (by decide)
          have Rg_41_9 : Sv (upd g_27 105 0) := (Sv.put hg_38 (by decide))
          have Rg_41_10 : F7 (upd g_27 105 0) gs := (F7.put hg_39 (by decide))
          generalize upd g_27 105 0 = g_41 at hP hD Rg_41_0 Rg_41_1 Rg_41_2 Rg_41_3 Rg_41_4 Rg_41_5 Rg_41_6 Rg_41_7 Rg_41_8 Rg_41_9 Rg_41_10
          have hP : va_P D vwCl [(q_s_, aC1 cy 383 g_41), (q, oC11 q_thrown q_tape_ q_length q_size q_p q_limit q_s_ q_h_ q_read_ q_names_ q_reserved_ q_token q_at q_span q_number q_fault q_faultAt q_word q_got q_lines q_onces q_webs q_one q_two x_28 q_undone_ q_before_ q_undoMany q_far_ q_wayRow_ q_wayMany q_keptRow_ q_askedRow_ q_rares_ q_trial_ q_keptMany q_askedMany q_hangs_ q_paths_ q_tornSteps q_hasTorn q_turnOne q_hasTurn q_text_ q_textMany q_toldMany q_toldAt_ q_hasTold q_stack_ q_codes q_ones q_top q_deep q_isWhole q_truths_ q_imaged_ q_namesKept_ q_areKept_)] H := hP
          have hD : va_D A [(q_s_, aC1 cy 383 g_41), (q, oC11 q_thrown q_tape_ q_length q_size q_p q_limit q_s_ q_h_ q_read_ q_names_ q_reserved_ q_token q_at q_span q_number q_fault q_faultAt q_word q_got q_lines q_onces q_webs q_one q_two x_28 q_undone_ q_before_ q_undoMany q_far_ q_wayRow_ q_wayMany q_keptRow_ q_askedRow_ q_rares_ q_trial_ q_keptMany q_askedMany q_hangs_ q_paths_ q_tornSteps q_hasTorn q_turnOne q_hasTurn q_text_ q_textMany q_toldMany q_toldAt_ q_hasTold q_stack_ q_codes q_ones q_top q_deep q_isWhole q_truths_ q_imaged_ q_namesKept_ q_areKept_)] := hD
          refine lv_aload_n hx hb dX11_day_184 rfl (lv_at hl 0 rfl) ?_
          refine q_get11 (v := .ref q_s_) C hP 1 6 rfl fT_6 (by decide) kF_RX11_33 rfl dX11_day_185 ?_
          refine lv_bipush (v := 104) hx hb dX11_day_188 (by decide) ?_
          refine lv_dup2_11 hx hb dX11_day_190 rfl rfl ?_
          refine q_iald (v := g_41 104) C hP 0 rfl (vin (by decide +kernel)) rfl dX11_day_191 ?_
          refine lv_topi (fun z_42 ez_42 => ?_)
          refine lv_iconst (v := 1) hx hb dX11_day_192 (by decide) ?_
          refine lv_iadd hx hb dX11_day_193 ?_
          refine lv_topi (fun z_43 hz_43 => ?_)
          clear hz_43
          refine q_iast (g := upd g_41 104 z_43) (w' := [(q_s_, aC1 cy 383 (upd g_41 104 z_43)), (q, oC11 q_thrown q_tape_ q_length q_size q_p q_limit q_s_ q_h_ q_read_ q_names_ q_reserved_ q_token q_at q_span q_number q_fault q_faultAt q_word q_got q_lines q_onces q_webs q_one q_two x_28 q_undone_ q_before_ q_undoMany q_far_ q_wayRow_ q_wayMany q_keptRow_ q_askedRow_ q_rares_ q_trial_ q_keptMany q_askedMany q_hangs_ q_paths_ q_tornSteps q_hasTorn q_turnOne q_hasTurn q_text_ q_textMany q_toldMany q_toldAt_ q_hasTold q_stack_ q_codes q_ones q_top q_deep q_isWhole q_truths_ q_imaged_ q_namesKept_ q_areKept_)]) C hP hD hS 0 rfl (vin (by decide +kernel)) rfl rfl dX11_day_194 (fun H locs hP hD hS => ?_)
          have Rg_44_0 := Rg.upd_out (k := 104) (v := z_43) Rg_41_0 (by omega)
          have Rg_44_1 := Rg.upd_out (k := 104) (v := z_43) Rg_41_1 (by omega)
          have Rg_44_2 := Rg.upd_out (k := 104) (v := z_43) Rg_41_2 (by omega)
          have Rg_44_3 := Rg.upd_out (k := 104) (v := z_43) Rg_41_3 (by omega)
          have Rg_44_4 := Rg.upd_out (k := 104) (v := z_43) Rg_41_4 (by omega)
          have Rg_44_5 := Rg.upd_out (k := 104) (v := z_43) Rg_41_5 (by omega)
          have Rg_44_6 := Rg.upd_out (k := 104) (v := z_43) Rg_41_6 (by omega)
          have Rg_44_7 := Rg.upd_out (k := 104) (v := z_43) Rg_41_7 (by omega)
          have Rg_44_8 := Rg.upd_out (k := 104) (v := z_43) Rg_41_8 (by omega)
          have Rg_44_9 : Sv (upd g_41 104 z_43) := (Sv.put Rg_41_9 (by decide))
          have Rg_44_10 : F7 (upd g_41 104 z_43) gs := (F7.put Rg_41_10 (by decide))
          generalize upd g_41 104 z_43 = g_44 at hP hD Rg_44_0 Rg_44_1 Rg_44_2 Rg_44_3 Rg_44_4 Rg_44_5 Rg_44_6 Rg_44_7 Rg_44_8 Rg_44_9 Rg_44_10
          have hP : va_P D vwCl [(q_s_, aC1 cy 383 g_44), (q, oC11 q_thrown q_tape_ q_length q_size q_p q_limit q_s_ q_h_ q_read_ q_names_ q_reserved_ q_token q_at q_span q_number q_fault q_faultAt q_word q_got q_lines q_onces q_webs q_one q_two x_28 q_undone_ q_before_ q_undoMany q_far_ q_wayRow_ q_wayMany q_keptRow_ q_askedRow_ q_rares_ q_trial_ q_keptMany q_askedMany q_hangs_ q_paths_ q_tornSteps q_hasTorn q_turnOne q_hasTurn q_text_ q_textMany q_toldMany q_toldAt_ q_hasTold q_stack_ q_codes q_ones q_top q_deep q_isWhole q_truths_ q_imaged_ q_namesKept_ q_areKept_)] H := hP
          have hD : va_D A [(q_s_, aC1 cy 383 g_44), (q, oC11 q_thrown q_tape_ q_length q_size q_p q_limit q_s_ q_h_ q_read_ q_names_ q_reserved_ q_token q_at q_span q_number q_fault q_faultAt q_word q_got q_lines q_onces q_webs q_one q_two x_28 q_undone_ q_before_ q_undoMany q_far_ q_wayRow_ q_wayMany q_keptRow_ q_askedRow_ q_rares_ q_trial_ q_keptMany q_askedMany q_hangs_ q_paths_ q_tornSteps q_hasTorn q_turnOne q_hasTurn q_text_ q_textMany q_toldMany q_toldAt_ q_hasTold q_stack_ q_codes q_ones q_top q_deep q_isWhole q_truths_ q_imaged_ q_namesKept_ q_areKept_)] := hD
          refine o_wq hQ ?_
          exact q_vret (rm := (Rm 3 70 0 0)) C hS (x_28, g_44) ⟨Rg_44_0, Rg_44_1, Rg_44_2, Rg_44_3, Rg_44_4, Rg_44_5, Rg_44_6, Rg_44_7, Rg_44_8, Rg_44_9, Rg_44_10⟩ (q_subP hP [1, 0] rfl) (hD.sub [1, 0] (by decide) rfl) hroom.1 hroom.2 dX11_day_195
        refine lv_icmp_ge (tgt := 176) hx hb dX11_day_135 (by decide) (fun c_45 => ?_) (fun c_45 => ?_)
        · have hc_45 := o_le (rfl : z_26.toInt = z_26.toInt) (rfl : r_22.toInt = r_22.toInt) c_45
          exact cut_176_28 g_2 x_24 H locs ls  hg_5 hg_6 hg_7 hg_8 hg_9 hg_10 hg_11 hg_12 hg_13 hg_14 hg_15 hP hD hS (lv_sub hl [0] rfl)
        · have hc_45 := o_nle (rfl : z_26.toInt = z_26.toInt) (rfl : r_22.toInt = r_22.toInt) c_45
          refine lv_aload_n hx hb dX11_day_138 rfl (lv_at hl 0 rfl) ?_
          refine q_get11 (v := .ref q_s_) C hP 1 6 rfl fT_6 (by decide) kF_RX11_33 rfl dX11_day_139 ?_
          refine lv_iconst (v := 0) hx hb dX11_day_142 (by decide) ?_
          refine q_iald (v := z_19) C hP 0 rfl (vin (by decide +kernel)) ez_19.symm dX11_day_143 ?_
          refine lv_if_le (tgt := 176) hx hb dX11_day_144 (by decide) (fun c_46 => ?_) (fun c_46 => ?_)
          · have hc_46 := o_le (rfl : z_19.toInt = z_19.toInt) (by decide : (0 : Int32).toInt = 0) c_46
            exact cut_176_28 g_2 x_24 H locs ls  hg_5 hg_6 hg_7 hg_8 hg_9 hg_10 hg_11 hg_12 hg_13 hg_14 hg_15 hP hD hS (lv_sub hl [0] rfl)
          · have hc_46 := o_nle (rfl : z_19.toInt = z_19.toInt) (by decide : (0 : Int32).toInt = 0) c_46
            refine lv_aload_n hx hb dX11_day_147 rfl (lv_at hl 0 rfl) ?_
            refine lv_aload_n hx hb dX11_day_148 rfl (lv_at hl 0 rfl) ?_
            refine q_get11 (v := .ref q_s_) C hP 1 6 rfl fT_6 (by decide) kF_RX11_33 rfl dX11_day_149 ?_
            refine lv_iconst (v := 0) hx hb dX11_day_152 (by decide) ?_
            refine q_iald (v := z_19) C hP 0 rfl (vin (by decide +kernel)) ez_19.symm dX11_day_153 ?_
            refine q_ai (wr := [(q_s_, aC1 cy 383 g_2)]) (r_V (rm := (Rm 0 0 0 0)) (q0 := 0) (As := [.int z_19]) (rest := []) (wc := [(q, oC11 q_thrown q_tape_ q_length q_size q_p q_limit q_s_ q_h_ q_read_ q_names_ q_reserved_ q_token q_at q_span q_number q_fault q_faultAt q_word q_got q_lines q_onces q_webs q_one q_two x_24 q_undone_ q_before_ q_undoMany q_far_ q_wayRow_ q_wayMany q_keptRow_ q_askedRow_ q_rares_ q_trial_ q_keptMany q_askedMany q_hangs_ q_paths_ q_tornSteps q_hasTorn q_turnOne q_hasTurn q_text_ q_textMany q_toldMany q_toldAt_ q_hasTold q_stack_ q_codes q_ones q_top q_deep q_isWhole q_truths_ q_imaged_ q_namesKept_ q_areKept_)]) C hS (q_subP hP [1] rfl) (hD.sub [1] (by decide) rfl) (y_drawB l D cy q z_19 q_thrown q_tape_ q_length q_size q_p q_limit q_s_ q_h_ q_read_ q_names_ q_reserved_ q_token q_at q_span q_number q_fault q_faultAt q_word q_got q_lines q_onces q_webs q_one q_two x_24 q_undone_ q_before_ q_undoMany q_far_ q_wayRow_ q_wayMany q_keptRow_ q_askedRow_ q_rares_ q_trial_ q_keptMany q_askedMany q_hangs_ q_paths_ q_tornSteps q_hasTorn q_turnOne q_hasTurn q_text_ q_textMany q_toldMany q_toldAt_ q_hasTold q_stack_ q_codes q_ones q_top q_deep q_isWhole q_truths_ q_imaged_ q_namesKept_ q_areKept_ _ (by omega) (by omega) (by omega) (by omega) (by omega) (by omega) (by omega) (by omega) (by omega) (by omega) (by omega) (by omega) (by omega) (by omega) (by omega) (by omega) (by omega) (by omega) (by omega) (by omega) (by omega) (by omega) (by omega)) kwV_X11_draw kM_RX11_341 rfl rfl ⟨Nat.le_of_ble_eq_true rfl, Nat.le_of_ble_eq_true rfl⟩ rfl hl.1 rfl (Nat.le_of_ble_eq_true rfl) dX11_day_154 ⟨hroom.1, hroom.2⟩) C.2.2.2.2.2.2.1 hP hD hS [1] [0] rfl rfl (by decide) (by decide) (fun r_48 u_47 H locs hw_49 hP hD hS => ?_)
            obtain ⟨x_50, rfl⟩ : ∃ z, z = u_47 := ⟨_, rfl⟩
            have hP : va_P D vwCl [(q_s_, aC1 cy 383 g_2), (q, oC11 q_thrown q_tape_ q_length q_size q_p q_limit q_s_ q_h_ q_read_ q_names_ q_reserved_ q_token q_at q_span q_number q_fault q_faultAt q_word q_got q_lines q_onces q_webs q_one q_two x_50 q_undone_ q_before_ q_undoMany q_far_ q_wayRow_ q_wayMany q_keptRow_ q_askedRow_ q_rares_ q_trial_ q_keptMany q_askedMany q_hangs_ q_paths_ q_tornSteps q_hasTorn q_turnOne q_hasTurn q_text_ q_textMany q_toldMany q_toldAt_ q_hasTold q_stack_ q_codes q_ones q_top q_deep q_isWhole q_truths_ q_imaged_ q_namesKept_ q_areKept_)] H := hP
            have hD : va_D A [(q_s_, aC1 cy 383 g_2), (q, oC11 q_thrown q_tape_ q_length q_size q_p q_limit q_s_ q_h_ q_read_ q_names_ q_reserved_ q_token q_at q_span q_number q_fault q_faultAt q_word q_got q_lines q_onces q_webs q_one q_two x_50 q_undone_ q_before_ q_undoMany q_far_ q_wayRow_ q_wayMany q_keptRow_ q_askedRow_ q_rares_ q_trial_ q_keptMany q_askedMany q_hangs_ q_paths_ q_tornSteps q_hasTorn q_turnOne q_hasTurn q_text_ q_textMany q_toldMany q_toldAt_ q_hasTold q_stack_ q_codes q_ones q_top q_deep q_isWhole q_truths_ q_imaged_ q_namesKept_ q_areKept_)] := hD
            have hp_50 : 0 ≤ r_48.toInt ∧ r_48.toInt ≤ 7 := hw_49
            clear hw_49
            refine lv_istore_n (lv' := [(1, .int r_48), (0, .ref q)]) hx hb dX11_day_157 rfl hl (by decide) rfl (fun ls hl => ?_)
            refine lv_aload_n hx hb dX11_day_158 rfl (lv_at hl 1 rfl) ?_
            refine q_get11 (v := .ref q_s_) C hP 1 6 rfl fT_6 (by decide) kF_RX11_33 rfl dX11_day_159 ?_
            refine lv_bipush (v := 122) hx hb dX11_day_162 (by decide) ?_
            refine lv_iload_n hx hb dX11_day_164 rfl (lv_at hl 0 rfl) ?_
            refine lv_iadd hx hb dX11_day_165 ?_
            refine lv_topi (fun z_52 hz_52 => ?_)
            have hz_52 := o_add hz_52 (by decide : (122 : Int32).toInt = 122) (rfl : r_48.toInt = r_48.toInt) (by omega) (by omega)
            refine lv_dup2_11 hx hb dX11_day_166 rfl rfl ?_
            refine q_iald (v := g_2 z_52.toNatClampNeg) C hP 0 rfl (o_in (rfl : z_52.toInt = z_52.toInt) (by omega) (by omega)) rfl dX11_day_167 ?_
            refine lv_topi (fun z_53 ez_53 => ?_)
            have hz_53 := Rg.at hg_13 ez_53 (by have := o_cl (rfl : z_52.toInt = z_52.toInt) (by omega); omega) (by have := o_cl (rfl : z_52.toInt = z_52.toInt) (by omega); omega)
            refine lv_iconst (v := 2) hx hb dX11_day_168 (by decide) ?_
            refine lv_idiv hx hb dX11_day_169 (by decide) ?_
            refine lv_topi (fun z_54 hz_54 => ?_)
            have hz_54 := o_div hz_54 (rfl : z_53.toInt = z_53.toInt) (by decide : (2 : Int32).toInt = 2) (by omega) (by decide)
            refine q_iast (g := upd g_2 z_52.toNatClampNeg z_54) (w' := [(q_s_, aC1 cy 383 (upd g_2 z_52.toNatClampNeg z_54)), (q, oC11 q_thrown q_tape_ q_length q_size q_p q_limit q_s_ q_h_ q_read_ q_names_ q_reserved_ q_token q_at q_span q_number q_fault q_faultAt q_word q_got q_lines q_onces q_webs q_one q_two x_50 q_undone_ q_before_ q_undoMany q_far_ q_wayRow_ q_wayMany q_keptRow_ q_askedRow_ q_rares_ q_trial_ q_keptMany q_askedMany q_hangs_ q_paths_ q_tornSteps q_hasTorn q_turnOne q_hasTurn q_text_ q_textMany q_toldMany q_toldAt_ q_hasTold q_stack_ q_codes q_ones q_top q_deep q_isWhole q_truths_ q_imaged_ q_namesKept_ q_areKept_)]) C hP hD hS 0 rfl (o_in (rfl : z_52.toInt = z_52.toInt) (by omega) (by omega)) rfl rfl dX11_day_170 (fun H locs hP hD hS => ?_)
            have Rg_55_0 := Rg.upd_out (k := z_52.toNatClampNeg) (v := z_54) hg_5 (by have := o_cl (rfl : z_52.toInt = z_52.toInt) (by omega); omega)
            have Rg_55_1 := Rg.upd_out (k := z_52.toNatClampNeg) (v := z_54) hg_6 (by have := o_cl (rfl : z_52.toInt = z_52.toInt) (by omega); omega)
            have Rg_55_2 := Rg.upd_out (k := z_52.toNatClampNeg) (v := z_54) hg_7 (by have := o_cl (rfl : z_52.toInt = z_52.toInt) (by omega); omega)
            have Rg_55_3 := Rg.upd_out (k := z_52.toNatClampNeg) (v := z_54) hg_8 (by have := o_cl (rfl : z_52.toInt = z_52.toInt) (by omega); omega)
            have Rg_55_4 := Rg.upd_in (k := z_52.toNatClampNeg) (v := z_54) hg_9 (by omega) (by omega)
            have Rg_55_5 := Rg.upd_out (k := z_52.toNatClampNeg) (v := z_54) hg_10 (by have := o_cl (rfl : z_52.toInt = z_52.toInt) (by omega); omega)
            have Rg_55_6 := Rg.upd_out (k := z_52.toNatClampNeg) (v := z_54) hg_11 (by have := o_cl (rfl : z_52.toInt = z_52.toInt) (by omega); omega)
            have Rg_55_7 := Rg.upd_in (k := z_52.toNatClampNeg) (v := z_54) hg_12 (by omega) (by omega)
            have Rg_55_8 := Rg.upd_in (k := z_52.toNatClampNeg) (v := z_54) hg_13 (by omega) (by omega)
            have Rg_55_9 : Sv (upd g_2 z_52.toNatClampNeg z_54) := (Sv.put hg_14 (by have := o_cl (rfl : z_52.toInt = z_52.toInt) (by omega); omega))
            have Rg_55_10 : F7 (upd g_2 z_52.toNatClampNeg z_54) gs := (F7.put hg_15 (by have := o_cl (rfl : z_52.toInt = z_52.toInt) (by omega); omega))
            generalize upd g_2 z_52.toNatClampNeg z_54 = g_55 at hP hD Rg_55_0 Rg_55_1 Rg_55_2 Rg_55_3 Rg_55_4 Rg_55_5 Rg_55_6 Rg_55_7 Rg_55_8 Rg_55_9 Rg_55_10
            have hP : va_P D vwCl [(q_s_, aC1 cy 383 g_55), (q, oC11 q_thrown q_tape_ q_length q_size q_p q_limit q_s_ q_h_ q_read_ q_names_ q_reserved_ q_token q_at q_span q_number q_fault q_faultAt q_word q_got q_lines q_onces q_webs q_one q_two x_50 q_undone_ q_before_ q_undoMany q_far_ q_wayRow_ q_wayMany q_keptRow_ q_askedRow_ q_rares_ q_trial_ q_keptMany q_askedMany q_hangs_ q_paths_ q_tornSteps q_hasTorn q_turnOne q_hasTurn q_text_ q_textMany q_toldMany q_toldAt_ q_hasTold q_stack_ q_codes q_ones q_top q_deep q_isWhole q_truths_ q_imaged_ q_namesKept_ q_areKept_)] H := hP
            have hD : va_D A [(q_s_, aC1 cy 383 g_55), (q, oC11 q_thrown q_tape_ q_length q_size q_p q_limit q_s_ q_h_ q_read_ q_names_ q_reserved_ q_token q_at q_span q_number q_fault q_faultAt q_word q_got q_lines q_onces q_webs q_one q_two x_50 q_undone_ q_before_ q_undoMany q_far_ q_wayRow_ q_wayMany q_keptRow_ q_askedRow_ q_rares_ q_trial_ q_keptMany q_askedMany q_hangs_ q_paths_ q_tornSteps q_hasTorn q_turnOne q_hasTurn q_text_ q_textMany q_toldMany q_toldAt_ q_hasTold q_stack_ q_codes q_ones q_top q_deep q_isWhole q_truths_ q_imaged_ q_namesKept_ q_areKept_)] := hD
            refine lv_aload_n hx hb dX11_day_171 rfl (lv_at hl 1 rfl) ?_
            refine lv_iload_n hx hb dX11_day_172 rfl (lv_at hl 0 rfl) ?_
            refine q_av (wr := []) (r_V (rm := (Rm 0 0 0 0)) (q0 := 0) (As := [.int r_48]) (rest := []) (wc := [(q, oC11 q_thrown q_tape_ q_length q_size q_p q_limit q_s_ q_h_ q_read_ q_names_ q_reserved_ q_token q_at q_span q_number q_fault q_faultAt q_word q_got q_lines q_onces q_webs q_one q_two x_50 q_undone_ q_before_ q_undoMany q_far_ q_wayRow_ q_wayMany q_keptRow_ q_askedRow_ q_rares_ q_trial_ q_keptMany q_askedMany q_hangs_ q_paths_ q_tornSteps q_hasTorn q_turnOne q_hasTurn q_text_ q_textMany q_toldMany q_toldAt_ q_hasTold q_stack_ q_codes q_ones q_top q_deep q_isWhole q_truths_ q_imaged_ q_namesKept_ q_areKept_), (q_s_, aC1 cy 383 g_55)]) C hS (q_subP hP [1, 0] rfl) (hD.sub [1, 0] (by decide) rfl) (y_clearsThreads l D cy q r_48 q_thrown q_tape_ q_length q_size q_p q_limit q_s_ q_h_ q_read_ q_names_ q_reserved_ q_token q_at q_span q_number q_fault q_faultAt q_word q_got q_lines q_onces q_webs q_one q_two x_50 q_undone_ q_before_ q_undoMany q_far_ q_wayRow_ q_wayMany q_keptRow_ q_askedRow_ q_rares_ q_trial_ q_keptMany q_askedMany q_hangs_ q_paths_ q_tornSteps q_hasTorn q_turnOne q_hasTurn q_text_ q_textMany q_toldMany q_toldAt_ q_hasTold q_stack_ q_codes q_ones q_top q_deep q_isWhole q_truths_ q_imaged_ q_namesKept_ q_areKept_ g_55 gs _ (by omega) (by omega) (by omega) (by omega) (by omega) (by omega) (by omega) (by omega) (by omega) (by omega) (by omega) (by omega) (by omega) (by omega) (by omega) (by omega) (by omega) (by omega) (by omega) (by omega) (by omega) (by omega) (by omega) Rg_55_0 Rg_55_1 Rg_55_2 Rg_55_3 Rg_55_4 Rg_55_5 Rg_55_6 Rg_55_7 Rg_55_8 Rg_55_9 Rg_55_10) kwV_X11_clearsThreads kM_RX11_331 rfl rfl ⟨Nat.le_of_ble_eq_true rfl, Nat.le_of_ble_eq_true rfl⟩ rfl hl.1 rfl (Nat.le_of_ble_eq_true rfl) dX11_day_173 ⟨hroom.1, hroom.2⟩) C.2.2.2.2.2.2.1 hP hD hS [1, 0] [] rfl rfl (by decide) (by decide) (fun u_56 H locs hw_58 hP hD hS => ?_)
            obtain ⟨g_59, rfl⟩ : ∃ z, z = u_56 := ⟨_, rfl⟩
            have hP : va_P D vwCl [(q, oC11 q_thrown q_tape_ q_length q_size q_p q_limit q_s_ q_h_ q_read_ q_names_ q_reserved_ q_token q_at q_span q_number q_fault q_faultAt q_word q_got q_lines q_onces q_webs q_one q_two x_50 q_undone_ q_before_ q_undoMany q_far_ q_wayRow_ q_wayMany q_keptRow_ q_askedRow_ q_rares_ q_trial_ q_keptMany q_askedMany q_hangs_ q_paths_ q_tornSteps q_hasTorn q_turnOne q_hasTurn q_text_ q_textMany q_toldMany q_toldAt_ q_hasTold q_stack_ q_codes q_ones q_top q_deep q_isWhole q_truths_ q_imaged_ q_namesKept_ q_areKept_), (q_s_, aC1 cy 383 g_59)] H := hP
            have hD : va_D A [(q, oC11 q_thrown q_tape_ q_length q_size q_p q_limit q_s_ q_h_ q_read_ q_names_ q_reserved_ q_token q_at q_span q_number q_fault q_faultAt q_word q_got q_lines q_onces q_webs q_one q_two x_50 q_undone_ q_before_ q_undoMany q_far_ q_wayRow_ q_wayMany q_keptRow_ q_askedRow_ q_rares_ q_trial_ q_keptMany q_askedMany q_hangs_ q_paths_ q_tornSteps q_hasTorn q_turnOne q_hasTurn q_text_ q_textMany q_toldMany q_toldAt_ q_hasTold q_stack_ q_codes q_ones q_top q_deep q_isWhole q_truths_ q_imaged_ q_namesKept_ q_areKept_), (q_s_, aC1 cy 383 g_59)] := hD
            have hp_59 : Rg g_59 0 1 0 8 := hw_58.1
            have hp_60 : Rg g_59 1 3 0 6 := hw_58.2.1
            have hp_61 : Rg g_59 3 4 1 50 := hw_58.2.2.1
            have hp_62 : Rg g_59 4 5 1 5 := hw_58.2.2.2.1
            have hp_63 : Rg g_59 103 104 0 255 := hw_58.2.2.2.2.1
            have hp_64 : Rg g_59 7 23 0 5 := hw_58.2.2.2.2.2.1
            have hp_65 : Rg g_59 106 122 0 5 := hw_58.2.2.2.2.2.2.1
            have hp_66 : Rg g_59 23 31 0 99 := hw_58.2.2.2.2.2.2.2.1
            have hp_67 : Rg g_59 122 130 0 99 := hw_58.2.2.2.2.2.2.2.2.1
            have hp_68 : Sv g_59 := hw_58.2.2.2.2.2.2.2.2.2.1
            have hp_69 : F7 g_59 gs := hw_58.2.2.2.2.2.2.2.2.2.2
            clear hw_58
            exact cut_176_28 g_59 x_50 H locs ls  hp_59 hp_60 hp_61 hp_62 hp_63 hp_64 hp_65 hp_66 hp_67 hp_68 hp_69 (q_subP hP [1, 0] rfl) (hD.sub [1, 0] (by decide) rfl) hS (lv_sub hl [1] rfl)
      · have hc_20 := o_nle (rfl : z_19.toInt = z_19.toInt) (rfl : x_1.toInt = x_1.toInt) c_20
        refine lv_aload_n hx hb dX11_day_12 rfl (lv_at hl 0 rfl) ?_
        refine lv_iload_n hx hb dX11_day_13 rfl (lv_at hl 1 rfl) ?_
        refine q_ai (wr := []) (r_V (rm := (Rm 1 21 0 0)) (q0 := 0) (As := [.int x_1]) (rest := []) (wc := [(q, oC11 q_thrown q_tape_ q_length q_size q_p q_limit q_s_ q_h_ q_read_ q_names_ q_reserved_ q_token q_at q_span q_number q_fault q_faultAt q_word q_got q_lines q_onces q_webs q_one q_two q_seed q_undone_ q_before_ q_undoMany q_far_ q_wayRow_ q_wayMany q_keptRow_ q_askedRow_ q_rares_ q_trial_ q_keptMany q_askedMany q_hangs_ q_paths_ q_tornSteps q_hasTorn q_turnOne q_hasTurn q_text_ q_textMany q_toldMany q_toldAt_ q_hasTold q_stack_ q_codes q_ones q_top q_deep q_isWhole q_truths_ q_imaged_ q_namesKept_ q_areKept_), (q_s_, aC1 cy 383 g_2)]) C hS (q_subP hP [0, 1] rfl) (hD.sub [0, 1] (by decide) rfl) (y_isAsked l D cy q x_1 q_thrown q_tape_ q_length q_size q_p q_limit q_s_ q_h_ q_read_ q_names_ q_reserved_ q_token q_at q_span q_number q_fault q_faultAt q_word q_got q_lines q_onces q_webs q_one q_two q_seed q_undone_ q_before_ q_undoMany q_far_ q_wayRow_ q_wayMany q_keptRow_ q_askedRow_ q_rares_ q_trial_ q_keptMany q_askedMany q_hangs_ q_paths_ q_tornSteps q_hasTorn q_turnOne q_hasTurn q_text_ q_textMany q_toldMany q_toldAt_ q_hasTold q_stack_ q_codes q_ones q_top q_deep q_isWhole q_truths_ q_imaged_ q_namesKept_ q_areKept_ g_2 _ (by omega) (by omega) (by omega) (by omega) (by omega) (by omega) (by omega) (by omega) (by omega) (by omega) (by omega) (by omega) (by omega) (by omega) (by omega) (by omega) (by omega) (by omega) (by omega) (by omega) (by omega) (by omega) hg_5 hg_6 hg_7 hg_8 hg_9 hg_10 hg_11 hg_12 hg_13) kwV_X11_isAsked kM_RX11_338 rfl rfl ⟨Nat.le_of_ble_eq_true rfl, Nat.le_of_ble_eq_true rfl⟩ rfl hl.1 rfl (Nat.le_of_ble_eq_true rfl) dX11_day_14 ⟨hroom.1, hroom.2⟩) C.2.2.2.2.2.2.1 hP hD hS [0, 1] [] rfl rfl (by decide) (by decide) (fun r_72 u_71 H locs hw_73 hP hD hS => ?_)
        have hp_73 : 0 ≤ r_72.toInt ∧ r_72.toInt ≤ 1 := hw_73
        clear hw_73
        refine lv_if_eq (tgt := 23) hx hb dX11_day_17 (by decide) (fun c_75 => ?_) (fun c_75 => ?_)
        · have hc_75 := o_eq (rfl : r_72.toInt = r_72.toInt) (by decide : (0 : Int32).toInt = 0) c_75
          refine lv_aload_n hx hb dX11_day_23 rfl (lv_at hl 0 rfl) ?_
          refine q_get11 (v := .ref q_s_) C hP 0 6 rfl fT_6 (by decide) kF_RX11_33 rfl dX11_day_24 ?_
          refine lv_bipush (v := 122) hx hb dX11_day_27 (by decide) ?_
          refine lv_iload_n hx hb dX11_day_29 rfl (lv_at hl 1 rfl) ?_
          refine lv_iadd hx hb dX11_day_30 ?_
          refine lv_topi (fun z_76 hz_76 => ?_)
          have hz_76 := o_add hz_76 (by decide : (122 : Int32).toInt = 122) (rfl : x_1.toInt = x_1.toInt) (by omega) (by omega)
          refine lv_bipush (v := 99) hx hb dX11_day_31 (by decide) ?_
          refine lv_aload_n hx hb dX11_day_33 rfl (lv_at hl 0 rfl) ?_
          refine q_get11 (v := .ref q_s_) C hP 0 6 rfl fT_6 (by decide) kF_RX11_33 rfl dX11_day_34 ?_
          refine lv_bipush (v := 122) hx hb dX11_day_37 (by decide) ?_
          refine lv_iload_n hx hb dX11_day_39 rfl (lv_at hl 1 rfl) ?_
          refine lv_iadd hx hb dX11_day_40 ?_
          refine lv_topi (fun z_77 hz_77 => ?_)
          have hz_77 := o_add hz_77 (by decide : (122 : Int32).toInt = 122) (rfl : x_1.toInt = x_1.toInt) (by omega) (by omega)
          refine q_iald (v := g_2 z_77.toNatClampNeg) C hP 1 rfl (o_in (rfl : z_77.toInt = z_77.toInt) (by omega) (by omega)) rfl dX11_day_41 ?_
          refine lv_topi (fun z_78 ez_78 => ?_)
          have hz_78 := Rg.at hg_13 ez_78 (by have := o_cl (rfl : z_77.toInt = z_77.toInt) (by omega); omega) (by have := o_cl (rfl : z_77.toInt = z_77.toInt) (by omega); omega)
          refine lv_aload_n hx hb dX11_day_42 rfl (lv_at hl 0 rfl) ?_
          refine q_get11 (v := .ref q_s_) C hP 0 6 rfl fT_6 (by decide) kF_RX11_33 rfl dX11_day_43 ?_
          refine lv_iconst (v := 4) hx hb dX11_day_46 (by decide) ?_
          refine q_iald (v := g_2 4) C hP 1 rfl (vin (by decide +kernel)) rfl dX11_day_47 ?_
          refine lv_topi (fun z_79 ez_79 => ?_)
          have hz_79 : 1 ≤ z_79.toInt ∧ z_79.toInt ≤ 5 := (by rw [ez_79]; exact hg_8 4 (by decide) (by decide))
          refine lv_iadd hx hb dX11_day_48 ?_
          refine lv_topi (fun z_80 hz_80 => ?_)
          have hz_80 := o_add hz_80 (rfl : z_78.toInt = z_78.toInt) (rfl : z_79.toInt = z_79.toInt) (by omega) (by omega)
          refine q_ai (wr := [(q, oC11 q_thrown q_tape_ q_length q_size q_p q_limit q_s_ q_h_ q_read_ q_names_ q_reserved_ q_token q_at q_span q_number q_fault q_faultAt q_word q_got q_lines q_onces q_webs q_one q_two q_seed q_undone_ q_before_ q_undoMany q_far_ q_wayRow_ q_wayMany q_keptRow_ q_askedRow_ q_rares_ q_trial_ q_keptMany q_askedMany q_hangs_ q_paths_ q_tornSteps q_hasTorn q_turnOne q_hasTurn q_text_ q_textMany q_toldMany q_toldAt_ q_hasTold q_stack_ q_codes q_ones q_top q_deep q_isWhole q_truths_ q_imaged_ q_namesKept_ q_areKept_), (q_s_, aC1 cy 383 g_2)]) (r_S (rm := (Rm 0 0 0 0)) (As := [.int 99, .int z_80]) (rest := [.int z_76, .ref q_s_]) (wc := []) C hS (q_subP hP [] rfl) (hD.sub [] (by decide) rfl) (y_lesser l D cy 99 z_80 _ ) kwS_X11_lesser kM_RX11_294 ⟨Nat.le_of_ble_eq_true rfl, Nat.le_of_ble_eq_true rfl⟩ rfl hl.1 rfl (Nat.le_of_ble_eq_true rfl) dX11_day_49 ⟨hroom.1, hroom.2⟩) C.2.2.2.2.2.2.1 hP hD hS [] [0, 1] rfl rfl (by decide) (by decide) (fun r_82 u_81 H locs hw_83 hP hD hS => ?_)
          have hp_83 : 0 ≤ (-1) * r_82.toInt + 99 ∧ 0 ≤ z_80.toInt + (-1) * r_82.toInt := by have e0 : (99 : Int32).toInt = 99 := (by decide); have h0 : 0 ≤ (99 : Int32).toInt + (-1) * r_82.toInt ∧ 0 ≤ z_80.toInt + (-1) * r_82.toInt := hw_83.1; omega
          have hp_84 : Hd ((r_82.toInt = (99 : Int32).toInt ∧ (99 : Int32).toInt ≤ z_80.toInt) ∨ (r_82.toInt = z_80.toInt ∧ z_80.toInt ≤ (99 : Int32).toInt)) := hw_83.2.1
          have hp_85 : (0 ≤ 99 ∧ 0 ≤ z_80.toInt) → (0 ≤ r_82.toInt) := by have e0 : (99 : Int32).toInt = 99 := (by decide); have h0 : (0 ≤ (99 : Int32).toInt ∧ 0 ≤ z_80.toInt) → (0 ≤ r_82.toInt) := hw_83.2.2; omega
          have hp_85 := hp_85 (by omega)
          clear hw_83
          refine q_iast (g := upd g_2 z_76.toNatClampNeg r_82) (w' := [(q, oC11 q_thrown q_tape_ q_length q_size q_p q_limit q_s_ q_h_ q_read_ q_names_ q_reserved_ q_token q_at q_span q_number q_fault q_faultAt q_word q_got q_lines q_onces q_webs q_one q_two q_seed q_undone_ q_before_ q_undoMany q_far_ q_wayRow_ q_wayMany q_keptRow_ q_askedRow_ q_rares_ q_trial_ q_keptMany q_askedMany q_hangs_ q_paths_ q_tornSteps q_hasTorn q_turnOne q_hasTurn q_text_ q_textMany q_toldMany q_toldAt_ q_hasTold q_stack_ q_codes q_ones q_top q_deep q_isWhole q_truths_ q_imaged_ q_namesKept_ q_areKept_), (q_s_, aC1 cy 383 (upd g_2 z_76.toNatClampNeg r_82))]) C hP hD hS 1 rfl (o_in (rfl : z_76.toInt = z_76.toInt) (by omega) (by omega)) rfl rfl dX11_day_52 (fun H locs hP hD hS => ?_)
          have Rg_87_0 := Rg.upd_out (k := z_76.toNatClampNeg) (v := r_82) hg_5 (by have := o_cl (rfl : z_76.toInt = z_76.toInt) (by omega); omega)
          have Rg_87_1 := Rg.upd_out (k := z_76.toNatClampNeg) (v := r_82) hg_6 (by have := o_cl (rfl : z_76.toInt = z_76.toInt) (by omega); omega)
          have Rg_87_2 := Rg.upd_out (k := z_76.toNatClampNeg) (v := r_82) hg_7 (by have := o_cl (rfl : z_76.toInt = z_76.toInt) (by omega); omega)
          have Rg_87_3 := Rg.upd_out (k := z_76.toNatClampNeg) (v := r_82) hg_8 (by have := o_cl (rfl : z_76.toInt = z_76.toInt) (by omega); omega)
          have Rg_87_4 := Rg.upd_in (k := z_76.toNatClampNeg) (v := r_82) hg_9 (by omega) (by omega)
          have Rg_87_5 := Rg.upd_out (k := z_76.toNatClampNeg) (v := r_82) hg_10 (by have := o_cl (rfl : z_76.toInt = z_76.toInt) (by omega); omega)
          have Rg_87_6 := Rg.upd_out (k := z_76.toNatClampNeg) (v := r_82) hg_11 (by have := o_cl (rfl : z_76.toInt = z_76.toInt) (by omega); omega)
          have Rg_87_7 := Rg.upd_in (k := z_76.toNatClampNeg) (v := r_82) hg_12 (by omega) (by omega)
          have Rg_87_8 := Rg.upd_in (k := z_76.toNatClampNeg) (v := r_82) hg_13 (by omega) (by omega)
          have Rg_87_9 : Sv (upd g_2 z_76.toNatClampNeg r_82) := (Sv.put hg_14 (by have := o_cl (rfl : z_76.toInt = z_76.toInt) (by omega); omega))
          have Rg_87_10 : F7 (upd g_2 z_76.toNatClampNeg r_82) gs := (F7.put hg_15 (by have := o_cl (rfl : z_76.toInt = z_76.toInt) (by omega); omega))
          generalize upd g_2 z_76.toNatClampNeg r_82 = g_87 at hP hD Rg_87_0 Rg_87_1 Rg_87_2 Rg_87_3 Rg_87_4 Rg_87_5 Rg_87_6 Rg_87_7 Rg_87_8 Rg_87_9 Rg_87_10
          have hP : va_P D vwCl [(q, oC11 q_thrown q_tape_ q_length q_size q_p q_limit q_s_ q_h_ q_read_ q_names_ q_reserved_ q_token q_at q_span q_number q_fault q_faultAt q_word q_got q_lines q_onces q_webs q_one q_two q_seed q_undone_ q_before_ q_undoMany q_far_ q_wayRow_ q_wayMany q_keptRow_ q_askedRow_ q_rares_ q_trial_ q_keptMany q_askedMany q_hangs_ q_paths_ q_tornSteps q_hasTorn q_turnOne q_hasTurn q_text_ q_textMany q_toldMany q_toldAt_ q_hasTold q_stack_ q_codes q_ones q_top q_deep q_isWhole q_truths_ q_imaged_ q_namesKept_ q_areKept_), (q_s_, aC1 cy 383 g_87)] H := hP
          have hD : va_D A [(q, oC11 q_thrown q_tape_ q_length q_size q_p q_limit q_s_ q_h_ q_read_ q_names_ q_reserved_ q_token q_at q_span q_number q_fault q_faultAt q_word q_got q_lines q_onces q_webs q_one q_two q_seed q_undone_ q_before_ q_undoMany q_far_ q_wayRow_ q_wayMany q_keptRow_ q_askedRow_ q_rares_ q_trial_ q_keptMany q_askedMany q_hangs_ q_paths_ q_tornSteps q_hasTorn q_turnOne q_hasTurn q_text_ q_textMany q_toldMany q_toldAt_ q_hasTold q_stack_ q_codes q_ones q_top q_deep q_isWhole q_truths_ q_imaged_ q_namesKept_ q_areKept_), (q_s_, aC1 cy 383 g_87)] := hD
          refine lv_iconst (v := 0) hx hb dX11_day_53 (by decide) ?_
          refine lv_istore_n (lv' := [(2, .int 0), (0, .ref q), (1, .int x_1)]) hx hb dX11_day_54 rfl hl (by decide) rfl (fun ls hl => ?_)
          have lp_55_89 : ∀ (n_90 : Nat) (x_88 : Int32) (g_89 : Nat → Int32) (H : Heap) (locs : List Loc) (ls : Array Slot), (-1) * x_88.toInt + 8 < (n_90 : Int) → (0 ≤ x_88.toInt ∧ x_88.toInt ≤ 8) → Rg g_89 0 1 0 8 → Rg g_89 1 3 0 6 → Rg g_89 3 4 1 50 → Rg g_89 4 5 1 5 → Rg g_89 103 104 0 255 → Rg g_89 7 23 0 5 → Rg g_89 106 122 0 5 → Rg g_89 23 31 0 99 → Rg g_89 122 130 0 99 → Sv g_89 → F7 g_89 gs → va_P D vwCl [(q, oC11 q_thrown q_tape_ q_length q_size q_p q_limit q_s_ q_h_ q_read_ q_names_ q_reserved_ q_token q_at q_span q_number q_fault q_faultAt q_word q_got q_lines q_onces q_webs q_one q_two q_seed q_undone_ q_before_ q_undoMany q_far_ q_wayRow_ q_wayMany q_keptRow_ q_askedRow_ q_rares_ q_trial_ q_keptMany q_askedMany q_hangs_ q_paths_ q_tornSteps q_hasTorn q_turnOne q_hasTurn q_text_ q_textMany q_toldMany q_toldAt_ q_hasTold q_stack_ q_codes q_ones q_top q_deep q_isWhole q_truths_ q_imaged_ q_namesKept_ q_areKept_), (q_s_, aC1 cy 383 g_89)] H → va_D A [(q, oC11 q_thrown q_tape_ q_length q_size q_p q_limit q_s_ q_h_ q_read_ q_names_ q_reserved_ q_token q_at q_span q_number q_fault q_faultAt q_word q_got q_lines q_onces q_webs q_one q_two q_seed q_undone_ q_before_ q_undoMany q_far_ q_wayRow_ q_wayMany q_keptRow_ q_askedRow_ q_rares_ q_trial_ q_keptMany q_askedMany q_hangs_ q_paths_ q_tornSteps q_hasTorn q_turnOne q_hasTurn q_text_ q_textMany q_toldMany q_toldAt_ q_hasTold q_stack_ q_codes q_ones q_top q_deep q_isWhole q_truths_ q_imaged_ q_namesKept_ q_areKept_), (q_s_, aC1 cy 383 g_89)] → va_S A s.heap H locs → lv_has ls 3 [(0, .ref q), (1, .int x_1), (2, .int x_88)] → W p l e (Rm 3 70 0 0) s m args below meth c H locs cells slots Q (F0 m 55 ls []) := by
            intro n_90
            induction n_90 with
            | zero =>
              intro x_88 g_89 H locs ls hm_103 hf_91 hg_92 hg_93 hg_94 hg_95 hg_96 hg_97 hg_98 hg_99 hg_100 hg_101 hg_102 hP hD hS hl
              exact absurd hm_103 (by omega)
            | succ n_90 ih_104 =>
              intro x_88 g_89 H locs ls hm_103 hf_91 hg_92 hg_93 hg_94 hg_95 hg_96 hg_97 hg_98 hg_99 hg_100 hg_101 hg_102 hP hD hS hl
              refine lv_iload_n hx hb dX11_day_55 rfl (lv_at hl 2 rfl) ?_
              refine lv_aload_n hx hb dX11_day_56 rfl (lv_at hl 0 rfl) ?_
              refine q_get11 (v := .ref q_s_) C hP 0 6 rfl fT_6 (by decide) kF_RX11_33 rfl dX11_day_57 ?_
              refine lv_iconst (v := 0) hx hb dX11_day_60 (by decide) ?_
              refine q_iald (v := g_89 0) C hP 1 rfl (vin (by decide +kernel)) rfl dX11_day_61 ?_
              refine lv_topi (fun z_106 ez_106 => ?_)
              have hz_106 : 0 ≤ z_106.toInt ∧ z_106.toInt ≤ 8 := (by rw [ez_106]; exact hg_92 0 (by decide) (by decide))
              refine lv_icmp_ge (tgt := 116) hx hb dX11_day_62 (by decide) (fun c_107 => ?_) (fun c_107 => ?_)
              · have hc_107 := o_le (rfl : z_106.toInt = z_106.toInt) (rfl : x_88.toInt = x_88.toInt) c_107
                obtain ⟨z_108, hz_108⟩ : ∃ z : Int32, z = x_1 + 1 := ⟨_, rfl⟩
                refine lv_iinc (v := z_108) (lv' := [(1, .int z_108), (0, .ref q), (2, .int x_88)]) hx hb dX11_day_116 hl (k := 1) rfl hz_108.symm (by decide) rfl (fun ls hl => ?_)
                have hz_108 := o_add hz_108 (rfl : x_1.toInt = x_1.toInt) (by decide : (1 : Int32).toInt = 1) (by omega) (by omega)
                refine lv_goto (tgt := 2) hx hb dX11_day_119 (by decide) ?_
                exact ih_17 z_108 g_89 H locs ls (by omega) (by omega) hg_92 hg_93 hg_94 hg_95 hg_96 hg_97 hg_98 hg_99 hg_100 hg_101 hg_102 hP hD hS (lv_sub hl [1, 0] rfl)
              · have hc_107 := o_nle (rfl : z_106.toInt = z_106.toInt) (rfl : x_88.toInt = x_88.toInt) c_107
                refine lv_aload_n hx hb dX11_day_65 rfl (lv_at hl 0 rfl) ?_
                refine lv_iload_n hx hb dX11_day_66 rfl (lv_at hl 2 rfl) ?_
                refine q_ai (wr := []) (r_V (rm := (Rm 1 21 0 0)) (q0 := 0) (As := [.int x_88]) (rest := []) (wc := [(q, oC11 q_thrown q_tape_ q_length q_size q_p q_limit q_s_ q_h_ q_read_ q_names_ q_reserved_ q_token q_at q_span q_number q_fault q_faultAt q_word q_got q_lines q_onces q_webs q_one q_two q_seed q_undone_ q_before_ q_undoMany q_far_ q_wayRow_ q_wayMany q_keptRow_ q_askedRow_ q_rares_ q_trial_ q_keptMany q_askedMany q_hangs_ q_paths_ q_tornSteps q_hasTorn q_turnOne q_hasTurn q_text_ q_textMany q_toldMany q_toldAt_ q_hasTold q_stack_ q_codes q_ones q_top q_deep q_isWhole q_truths_ q_imaged_ q_namesKept_ q_areKept_), (q_s_, aC1 cy 383 g_89)]) C hS (q_subP hP [0, 1] rfl) (hD.sub [0, 1] (by decide) rfl) (y_isAsked l D cy q x_88 q_thrown q_tape_ q_length q_size q_p q_limit q_s_ q_h_ q_read_ q_names_ q_reserved_ q_token q_at q_span q_number q_fault q_faultAt q_word q_got q_lines q_onces q_webs q_one q_two q_seed q_undone_ q_before_ q_undoMany q_far_ q_wayRow_ q_wayMany q_keptRow_ q_askedRow_ q_rares_ q_trial_ q_keptMany q_askedMany q_hangs_ q_paths_ q_tornSteps q_hasTorn q_turnOne q_hasTurn q_text_ q_textMany q_toldMany q_toldAt_ q_hasTold q_stack_ q_codes q_ones q_top q_deep q_isWhole q_truths_ q_imaged_ q_namesKept_ q_areKept_ g_89 _ (by omega) (by omega) (by omega) (by omega) (by omega) (by omega) (by omega) (by omega) (by omega) (by omega) (by omega) (by omega) (by omega) (by omega) (by omega) (by omega) (by omega) (by omega) (by omega) (by omega) (by omega) (by omega) hg_92 hg_93 hg_94 hg_95 hg_96 hg_97 hg_98 hg_99 hg_100) kwV_X11_isAsked kM_RX11_338 rfl rfl ⟨Nat.le_of_ble_eq_true rfl, Nat.le_of_ble_eq_true rfl⟩ rfl hl.1 rfl (Nat.le_of_ble_eq_true rfl) dX11_day_67 ⟨hroom.1, hroom.2⟩) C.2.2.2.2.2.2.1 hP hD hS [0, 1] [] rfl rfl (by decide) (by decide) (fun r_110 u_109 H locs hw_111 hP hD hS => ?_)
                have hp_111 : 0 ≤ r_110.toInt ∧ r_110.toInt ≤ 1 := hw_111
                clear hw_111
                refine lv_if_ne (tgt := 110) hx hb dX11_day_70 (by decide) (fun c_113 => ?_) (fun c_113 => ?_)
                · have hc_113 := o_ne (rfl : r_110.toInt = r_110.toInt) (by decide : (0 : Int32).toInt = 0) c_113
                  have hnc_113 : 0 ≤ r_110.toInt + (-1) := by rcases Int.lt_or_gt_of_ne hc_113 with h9 | h9 <;> omega
                  obtain ⟨z_114, hz_114⟩ : ∃ z : Int32, z = x_88 + 1 := ⟨_, rfl⟩
                  refine lv_iinc (v := z_114) (lv' := [(2, .int z_114), (0, .ref q), (1, .int x_1)]) hx hb dX11_day_110 hl (k := 2) rfl hz_114.symm (by decide) rfl (fun ls hl => ?_)
                  have hz_114 := o_add hz_114 (rfl : x_88.toInt = x_88.toInt) (by decide : (1 : Int32).toInt = 1) (by omega) (by omega)
                  refine lv_goto (tgt := 55) hx hb dX11_day_113 (by decide) ?_
                  exact ih_104 z_114 g_89 H locs ls (by omega) (by omega) hg_92 hg_93 hg_94 hg_95 hg_96 hg_97 hg_98 hg_99 hg_100 hg_101 hg_102 hP hD hS (lv_sub hl [1, 2, 0] rfl)
                · have hc_113 := o_eq (rfl : r_110.toInt = r_110.toInt) (by decide : (0 : Int32).toInt = 0) c_113
                  refine lv_aload_n hx hb dX11_day_73 rfl (lv_at hl 0 rfl) ?_
                  refine lv_iload_n hx hb dX11_day_74 rfl (lv_at hl 1 rfl) ?_
                  refine lv_iload_n hx hb dX11_day_75 rfl (lv_at hl 2 rfl) ?_
                  refine q_ai (wr := []) (r_V (rm := (Rm 2 46 0 0)) (q0 := 0) (As := [.int x_1, .int x_88]) (rest := []) (wc := [(q, oC11 q_thrown q_tape_ q_length q_size q_p q_limit q_s_ q_h_ q_read_ q_names_ q_reserved_ q_token q_at q_span q_number q_fault q_faultAt q_word q_got q_lines q_onces q_webs q_one q_two q_seed q_undone_ q_before_ q_undoMany q_far_ q_wayRow_ q_wayMany q_keptRow_ q_askedRow_ q_rares_ q_trial_ q_keptMany q_askedMany q_hangs_ q_paths_ q_tornSteps q_hasTorn q_turnOne q_hasTurn q_text_ q_textMany q_toldMany q_toldAt_ q_hasTold q_stack_ q_codes q_ones q_top q_deep q_isWhole q_truths_ q_imaged_ q_namesKept_ q_areKept_), (q_s_, aC1 cy 383 g_89)]) C hS (q_subP hP [0, 1] rfl) (hD.sub [0, 1] (by decide) rfl) (y_areInSight l D cy q x_1 x_88 q_thrown q_tape_ q_length q_size q_p q_limit q_s_ q_h_ q_read_ q_names_ q_reserved_ q_token q_at q_span q_number q_fault q_faultAt q_word q_got q_lines q_onces q_webs q_one q_two q_seed q_undone_ q_before_ q_undoMany q_far_ q_wayRow_ q_wayMany q_keptRow_ q_askedRow_ q_rares_ q_trial_ q_keptMany q_askedMany q_hangs_ q_paths_ q_tornSteps q_hasTorn q_turnOne q_hasTurn q_text_ q_textMany q_toldMany q_toldAt_ q_hasTold q_stack_ q_codes q_ones q_top q_deep q_isWhole q_truths_ q_imaged_ q_namesKept_ q_areKept_ g_89 _ (by omega) (by omega) (by omega) (by omega) (by omega) (by omega) (by omega) (by omega) (by omega) (by omega) (by omega) (by omega) (by omega) (by omega) (by omega) (by omega) (by omega) (by omega) (by omega) (by omega) (by omega) (by omega) (by omega) (by omega) hg_92 hg_93 hg_94 hg_95 hg_96 hg_97 hg_98 hg_99 hg_100) kwV_X11_areInSight kM_RX11_303 rfl rfl ⟨Nat.le_of_ble_eq_true rfl, Nat.le_of_ble_eq_true rfl⟩ rfl hl.1 rfl (Nat.le_of_ble_eq_true rfl) dX11_day_76 ⟨hroom.1, hroom.2⟩) C.2.2.2.2.2.2.1 hP hD hS [0, 1] [] rfl rfl (by decide) (by decide) (fun r_116 u_115 H locs hw_117 hP hD hS => ?_)
                  have hp_117 : 0 ≤ r_116.toInt ∧ r_116.toInt ≤ 1 := hw_117
                  clear hw_117
                  refine lv_if_eq (tgt := 110) hx hb dX11_day_79 (by decide) (fun c_119 => ?_) (fun c_119 => ?_)
                  · have hc_119 := o_eq (rfl : r_116.toInt = r_116.toInt) (by decide : (0 : Int32).toInt = 0) c_119
                    obtain ⟨z_120, hz_120⟩ : ∃ z : Int32, z = x_88 + 1 := ⟨_, rfl⟩
                    refine lv_iinc (v := z_120) (lv' := [(2, .int z_120), (0, .ref q), (1, .int x_1)]) hx hb dX11_day_110 hl (k := 2) rfl hz_120.symm (by decide) rfl (fun ls hl => ?_)
                    have hz_120 := o_add hz_120 (rfl : x_88.toInt = x_88.toInt) (by decide : (1 : Int32).toInt = 1) (by omega) (by omega)
                    refine lv_goto (tgt := 55) hx hb dX11_day_113 (by decide) ?_
                    exact ih_104 z_120 g_89 H locs ls (by omega) (by omega) hg_92 hg_93 hg_94 hg_95 hg_96 hg_97 hg_98 hg_99 hg_100 hg_101 hg_102 hP hD hS (lv_sub hl [1, 2, 0] rfl)
                  · have hc_119 := o_ne (rfl : r_116.toInt = r_116.toInt) (by decide : (0 : Int32).toInt = 0) c_119
                    have hnc_119 : 0 ≤ r_116.toInt + (-1) := by rcases Int.lt_or_gt_of_ne hc_119 with h9 | h9 <;> omega
                    refine lv_aload_n hx hb dX11_day_82 rfl (lv_at hl 0 rfl) ?_
                    refine q_get11 (v := .ref q_s_) C hP 0 6 rfl fT_6 (by decide) kF_RX11_33 rfl dX11_day_83 ?_
                    refine lv_sipush (v := 138) hx hb dX11_day_86 (by decide) ?_
                    refine lv_bipush (v := 8) hx hb dX11_day_89 (by decide) ?_
                    refine lv_iload_n hx hb dX11_day_91 rfl (lv_at hl 1 rfl) ?_
                    refine lv_imul hx hb dX11_day_92 ?_
                    refine lv_topi (fun z_121 hz_121 => ?_)
                    have hz_121 := o_mul hz_121 (by decide : (8 : Int32).toInt = 8) (rfl : x_1.toInt = x_1.toInt) (by omega) (by omega)
                    refine lv_iadd hx hb dX11_day_93 ?_
                    refine lv_topi (fun z_122 hz_122 => ?_)
                    have hz_122 := o_add hz_122 (by decide : (138 : Int32).toInt = 138) (rfl : z_121.toInt = z_121.toInt) (by omega) (by omega)
                    refine lv_iload_n hx hb dX11_day_94 rfl (lv_at hl 2 rfl) ?_
                    refine lv_iadd hx hb dX11_day_95 ?_
                    refine lv_topi (fun z_123 hz_123 => ?_)
                    have hz_123 := o_add hz_123 (rfl : z_122.toInt = z_122.toInt) (rfl : x_88.toInt = x_88.toInt) (by omega) (by omega)
                    refine lv_bipush (v := 99) hx hb dX11_day_96 (by decide) ?_
                    refine lv_aload_n hx hb dX11_day_98 rfl (lv_at hl 0 rfl) ?_
                    refine lv_iload_n hx hb dX11_day_99 rfl (lv_at hl 1 rfl) ?_
                    refine lv_iload_n hx hb dX11_day_100 rfl (lv_at hl 2 rfl) ?_
                    refine q_ai (wr := []) (r_V (rm := (Rm 0 0 0 0)) (q0 := 0) (As := [.int x_1, .int x_88]) (rest := [.int 99, .int z_123, .ref q_s_]) (wc := [(q, oC11 q_thrown q_tape_ q_length q_size q_p q_limit q_s_ q_h_ q_read_ q_names_ q_reserved_ q_token q_at q_span q_number q_fault q_faultAt q_word q_got q_lines q_onces q_webs q_one q_two q_seed q_undone_ q_before_ q_undoMany q_far_ q_wayRow_ q_wayMany q_keptRow_ q_askedRow_ q_rares_ q_trial_ q_keptMany q_askedMany q_hangs_ q_paths_ q_tornSteps q_hasTorn q_turnOne q_hasTurn q_text_ q_textMany q_toldMany q_toldAt_ q_hasTold q_stack_ q_codes q_ones q_top q_deep q_isWhole q_truths_ q_imaged_ q_namesKept_ q_areKept_), (q_s_, aC1 cy 383 g_89)]) C hS (q_subP hP [0, 1] rfl) (hD.sub [0, 1] (by decide) rfl) (y_threadOf l D cy q x_1 x_88 q_thrown q_tape_ q_length q_size q_p q_limit q_s_ q_h_ q_read_ q_names_ q_reserved_ q_token q_at q_span q_number q_fault q_faultAt q_word q_got q_lines q_onces q_webs q_one q_two q_seed q_undone_ q_before_ q_undoMany q_far_ q_wayRow_ q_wayMany q_keptRow_ q_askedRow_ q_rares_ q_trial_ q_keptMany q_askedMany q_hangs_ q_paths_ q_tornSteps q_hasTorn q_turnOne q_hasTurn q_text_ q_textMany q_toldMany q_toldAt_ q_hasTold q_stack_ q_codes q_ones q_top q_deep q_isWhole q_truths_ q_imaged_ q_namesKept_ q_areKept_ g_89 _ (by omega) (by omega) (by omega) (by omega) (by omega) (by omega) (by omega) (by omega) (by omega) (by omega) (by omega) (by omega) (by omega) (by omega) (by omega) (by omega) (by omega) (by omega) (by omega) (by omega) (by omega) (by omega) (by omega) (by omega) hg_92 hg_93 hg_94 hg_95 hg_96 hg_97 hg_98 hg_99 hg_100) kwV_X11_threadOf kM_RX11_291 rfl rfl ⟨Nat.le_of_ble_eq_true rfl, Nat.le_of_ble_eq_true rfl⟩ rfl hl.1 rfl (Nat.le_of_ble_eq_true rfl) dX11_day_101 ⟨hroom.1, hroom.2⟩) C.2.2.2.2.2.2.1 hP hD hS [0, 1] [] rfl rfl (by decide) (by decide) (fun r_125 u_124 H locs hw_126 hP hD hS => ?_)
                    have hp_126 : r_125 = thr g_89 x_1 x_88 := hw_126
                    clear hw_126
                    refine lv_iconst (v := 1) hx hb dX11_day_104 (by decide) ?_
                    refine lv_iadd hx hb dX11_day_105 ?_
                    refine lv_topi (fun z_128 hz_128 => ?_)
                    clear hz_128
                    refine q_ai (wr := [(q, oC11 q_thrown q_tape_ q_length q_size q_p q_limit q_s_ q_h_ q_read_ q_names_ q_reserved_ q_token q_at q_span q_number q_fault q_faultAt q_word q_got q_lines q_onces q_webs q_one q_two q_seed q_undone_ q_before_ q_undoMany q_far_ q_wayRow_ q_wayMany q_keptRow_ q_askedRow_ q_rares_ q_trial_ q_keptMany q_askedMany q_hangs_ q_paths_ q_tornSteps q_hasTorn q_turnOne q_hasTurn q_text_ q_textMany q_toldMany q_toldAt_ q_hasTold q_stack_ q_codes q_ones q_top q_deep q_isWhole q_truths_ q_imaged_ q_namesKept_ q_areKept_), (q_s_, aC1 cy 383 g_89)]) (r_S (rm := (Rm 0 0 0 0)) (As := [.int 99, .int z_128]) (rest := [.int z_123, .ref q_s_]) (wc := []) C hS (q_subP hP [] rfl) (hD.sub [] (by decide) rfl) (y_lesser l D cy 99 z_128 _ ) kwS_X11_lesser kM_RX11_294 ⟨Nat.le_of_ble_eq_true rfl, Nat.le_of_ble_eq_true rfl⟩ rfl hl.1 rfl (Nat.le_of_ble_eq_true rfl) dX11_day_106 ⟨hroom.1, hroom.2⟩) C.2.2.2.2.2.2.1 hP hD hS [] [0, 1] rfl rfl (by decide) (by decide) (fun r_130 u_129 H locs hw_131 hP hD hS => ?_)
                    have hp_131 : 0 ≤ (-1) * r_130.toInt + 99 ∧ 0 ≤ z_128.toInt + (-1) * r_130.toInt := by have e0 : (99 : Int32).toInt = 99 := (by decide); have h0 : 0 ≤ (99 : Int32).toInt + (-1) * r_130.toInt ∧ 0 ≤ z_128.toInt + (-1) * r_130.toInt := hw_131.1; omega
                    have hp_132 : Hd ((r_130.toInt = (99 : Int32).toInt ∧ (99 : Int32).toInt ≤ z_128.toInt) ∨ (r_130.toInt = z_128.toInt ∧ z_128.toInt ≤ (99 : Int32).toInt)) := hw_131.2.1
                    have hp_133 : (0 ≤ 99 ∧ 0 ≤ z_128.toInt) → (0 ≤ r_130.toInt) := by have e0 : (99 : Int32).toInt = 99 := (by decide); have h0 : (0 ≤ (99 : Int32).toInt ∧ 0 ≤ z_128.toInt) → (0 ≤ r_130.toInt) := hw_131.2.2; omega
                    clear hw_131
                    refine q_iast (g := upd g_89 z_123.toNatClampNeg r_130) (w' := [(q, oC11 q_thrown q_tape_ q_length q_size q_p q_limit q_s_ q_h_ q_read_ q_names_ q_reserved_ q_token q_at q_span q_number q_fault q_faultAt q_word q_got q_lines q_onces q_webs q_one q_two q_seed q_undone_ q_before_ q_undoMany q_far_ q_wayRow_ q_wayMany q_keptRow_ q_askedRow_ q_rares_ q_trial_ q_keptMany q_askedMany q_hangs_ q_paths_ q_tornSteps q_hasTorn q_turnOne q_hasTurn q_text_ q_textMany q_toldMany q_toldAt_ q_hasTold q_stack_ q_codes q_ones q_top q_deep q_isWhole q_truths_ q_imaged_ q_namesKept_ q_areKept_), (q_s_, aC1 cy 383 (upd g_89 z_123.toNatClampNeg r_130))]) C hP hD hS 1 rfl (o_in (rfl : z_123.toInt = z_123.toInt) (by omega) (by omega)) rfl rfl dX11_day_109 (fun H locs hP hD hS => ?_)
                    have Rg_135_0 := Rg.upd_out (k := z_123.toNatClampNeg) (v := r_130) hg_92 (by have := o_cl (rfl : z_123.toInt = z_123.toInt) (by omega); omega)
                    have Rg_135_1 := Rg.upd_out (k := z_123.toNatClampNeg) (v := r_130) hg_93 (by have := o_cl (rfl : z_123.toInt = z_123.toInt) (by omega); omega)
                    have Rg_135_2 := Rg.upd_out (k := z_123.toNatClampNeg) (v := r_130) hg_94 (by have := o_cl (rfl : z_123.toInt = z_123.toInt) (by omega); omega)
                    have Rg_135_3 := Rg.upd_out (k := z_123.toNatClampNeg) (v := r_130) hg_95 (by have := o_cl (rfl : z_123.toInt = z_123.toInt) (by omega); omega)
                    have Rg_135_4 := Rg.upd_out (k := z_123.toNatClampNeg) (v := r_130) hg_96 (by have := o_cl (rfl : z_123.toInt = z_123.toInt) (by omega); omega)
                    have Rg_135_5 := Rg.upd_out (k := z_123.toNatClampNeg) (v := r_130) hg_97 (by have := o_cl (rfl : z_123.toInt = z_123.toInt) (by omega); omega)
                    have Rg_135_6 := Rg.upd_out (k := z_123.toNatClampNeg) (v := r_130) hg_98 (by have := o_cl (rfl : z_123.toInt = z_123.toInt) (by omega); omega)
                    have Rg_135_7 := Rg.upd_out (k := z_123.toNatClampNeg) (v := r_130) hg_99 (by have := o_cl (rfl : z_123.toInt = z_123.toInt) (by omega); omega)
                    have Rg_135_8 := Rg.upd_out (k := z_123.toNatClampNeg) (v := r_130) hg_100 (by have := o_cl (rfl : z_123.toInt = z_123.toInt) (by omega); omega)
                    have Rg_135_9 : Sv (upd g_89 z_123.toNatClampNeg r_130) := (Sv.put hg_101 (by have := o_cl (rfl : z_123.toInt = z_123.toInt) (by omega); omega))
                    have Rg_135_10 : F7 (upd g_89 z_123.toNatClampNeg r_130) gs := (F7.put hg_102 (by have := o_cl (rfl : z_123.toInt = z_123.toInt) (by omega); omega))
                    generalize upd g_89 z_123.toNatClampNeg r_130 = g_135 at hP hD Rg_135_0 Rg_135_1 Rg_135_2 Rg_135_3 Rg_135_4 Rg_135_5 Rg_135_6 Rg_135_7 Rg_135_8 Rg_135_9 Rg_135_10
                    have hP : va_P D vwCl [(q, oC11 q_thrown q_tape_ q_length q_size q_p q_limit q_s_ q_h_ q_read_ q_names_ q_reserved_ q_token q_at q_span q_number q_fault q_faultAt q_word q_got q_lines q_onces q_webs q_one q_two q_seed q_undone_ q_before_ q_undoMany q_far_ q_wayRow_ q_wayMany q_keptRow_ q_askedRow_ q_rares_ q_trial_ q_keptMany q_askedMany q_hangs_ q_paths_ q_tornSteps q_hasTorn q_turnOne q_hasTurn q_text_ q_textMany q_toldMany q_toldAt_ q_hasTold q_stack_ q_codes q_ones q_top q_deep q_isWhole q_truths_ q_imaged_ q_namesKept_ q_areKept_), (q_s_, aC1 cy 383 g_135)] H := hP
                    have hD : va_D A [(q, oC11 q_thrown q_tape_ q_length q_size q_p q_limit q_s_ q_h_ q_read_ q_names_ q_reserved_ q_token q_at q_span q_number q_fault q_faultAt q_word q_got q_lines q_onces q_webs q_one q_two q_seed q_undone_ q_before_ q_undoMany q_far_ q_wayRow_ q_wayMany q_keptRow_ q_askedRow_ q_rares_ q_trial_ q_keptMany q_askedMany q_hangs_ q_paths_ q_tornSteps q_hasTorn q_turnOne q_hasTurn q_text_ q_textMany q_toldMany q_toldAt_ q_hasTold q_stack_ q_codes q_ones q_top q_deep q_isWhole q_truths_ q_imaged_ q_namesKept_ q_areKept_), (q_s_, aC1 cy 383 g_135)] := hD
                    obtain ⟨z_136, hz_136⟩ : ∃ z : Int32, z = x_88 + 1 := ⟨_, rfl⟩
                    refine lv_iinc (v := z_136) (lv' := [(2, .int z_136), (0, .ref q), (1, .int x_1)]) hx hb dX11_day_110 hl (k := 2) rfl hz_136.symm (by decide) rfl (fun ls hl => ?_)
                    have hz_136 := o_add hz_136 (rfl : x_88.toInt = x_88.toInt) (by decide : (1 : Int32).toInt = 1) (by omega) (by omega)
                    refine lv_goto (tgt := 55) hx hb dX11_day_113 (by decide) ?_
                    exact ih_104 z_136 g_135 H locs ls (by omega) (by omega) Rg_135_0 Rg_135_1 Rg_135_2 Rg_135_3 Rg_135_4 Rg_135_5 Rg_135_6 Rg_135_7 Rg_135_8 Rg_135_9 Rg_135_10 hP hD hS (lv_sub hl [1, 2, 0] rfl)
          exact lp_55_89 9 (0 : Int32) g_87 H locs ls (by have e0 : (0 : Int32).toInt = 0 := (by decide); omega) (by have e0 : (0 : Int32).toInt = 0 := (by decide); omega) Rg_87_0 Rg_87_1 Rg_87_2 Rg_87_3 Rg_87_4 Rg_87_5 Rg_87_6 Rg_87_7 Rg_87_8 Rg_87_9 Rg_87_10 hP hD hS (lv_sub hl [1, 2, 0] rfl)
        · have hc_75 := o_ne (rfl : r_72.toInt = r_72.toInt) (by decide : (0 : Int32).toInt = 0) c_75
          have hnc_75 : 0 ≤ r_72.toInt + (-1) := by rcases Int.lt_or_gt_of_ne hc_75 with h9 | h9 <;> omega
          refine lv_goto (tgt := 116) hx hb dX11_day_20 (by decide) ?_
          obtain ⟨z_137, hz_137⟩ : ∃ z : Int32, z = x_1 + 1 := ⟨_, rfl⟩
          refine lv_iinc (v := z_137) (lv' := [(1, .int z_137), (0, .ref q)]) hx hb dX11_day_116 hl (k := 1) rfl hz_137.symm (by decide) rfl (fun ls hl => ?_)
          have hz_137 := o_add hz_137 (rfl : x_1.toInt = x_1.toInt) (by decide : (1 : Int32).toInt = 1) (by omega) (by omega)
          refine lv_goto (tgt := 2) hx hb dX11_day_119 (by decide) ?_
          exact ih_17 z_137 g_2 H locs ls (by omega) (by omega) hg_5 hg_6 hg_7 hg_8 hg_9 hg_10 hg_11 hg_12 hg_13 hg_14 hg_15 hP hD hS (lv_sub hl [1, 0] rfl)
  exact lp_2_2 9 (0 : Int32) q_s H locs ls (by have e0 : (0 : Int32).toInt = 0 := (by decide); omega) (by have e0 : (0 : Int32).toInt = 0 := (by decide); omega) hR0 hR1 hR2 hR3 hR4 hR5 hR6 hR7 hR8 hR9 hR10 hP hD hS (lv_sub hl [1, 0] rfl)
theorem y_day (l : Launch) (D : va_G) (cy : Nat → ClassId) (q : Nat) (q_thrown : Int32) (q_tape_ : Nat) (q_length : Int32) (q_size : Int32) (q_p : Int32) (q_limit : Int32) (q_s_ : Nat) (q_h_ : Nat) (q_read_ : Nat) (q_names_ : Nat) (q_reserved_ : Nat) (q_token : Int32) (q_at : Int32) (q_span : Int32) (q_number : Int32) (q_fault : Int32) (q_faultAt : Int32) (q_word : Int64) (q_got : Int32) (q_lines : Int32) (q_onces : Int32) (q_webs : Int32) (q_one : Int32) (q_two : Int32) (q_seed : Int32) (q_undone_ : Nat) (q_before_ : Nat) (q_undoMany : Int32) (q_far_ : Nat) (q_wayRow_ : Nat) (q_wayMany : Int32) (q_keptRow_ : Nat) (q_askedRow_ : Nat) (q_rares_ : Nat) (q_trial_ : Nat) (q_keptMany : Int32) (q_askedMany : Int32) (q_hangs_ : Nat) (q_paths_ : Nat) (q_tornSteps : Int32) (q_hasTorn : Int32) (q_turnOne : Int32) (q_hasTurn : Int32) (q_text_ : Nat) (q_textMany : Int32) (q_toldMany : Int32) (q_toldAt_ : Nat) (q_hasTold : Int32) (q_stack_ : Nat) (q_codes : Int32) (q_ones : Int32) (q_top : Int32) (q_deep : Int32) (q_isWhole : Int32) (q_truths_ : Nat) (q_imaged_ : Nat) (q_namesKept_ : Nat) (q_areKept_ : Nat) (q_s : Nat → Int32) (gs : Nat → Int32) (sz : Nat) (hb0 : 0 ≤ q_length.toInt ∧ q_length.toInt ≤ 940) (hb1 : 0 ≤ q_size.toInt ∧ q_size.toInt ≤ 940) (hb2 : 0 ≤ q_p.toInt ∧ q_p.toInt ≤ 940) (hb3 : 0 ≤ q_limit.toInt ∧ q_limit.toInt ≤ 940) (hb4 : 0 ≤ q_span.toInt ∧ q_span.toInt ≤ 940) (hb5 : 0 ≤ q_number.toInt ∧ q_number.toInt ≤ 8214) (hb6 : (-1) ≤ q_got.toInt ∧ q_got.toInt ≤ 8214) (hb7 : 0 ≤ q_one.toInt ∧ q_one.toInt ≤ 7) (hb8 : 0 ≤ q_two.toInt ∧ q_two.toInt ≤ 7) (hb9 : 0 ≤ q_undoMany.toInt ∧ q_undoMany.toInt ≤ 8) (hb10 : (-1) ≤ q_wayMany.toInt ∧ q_wayMany.toInt ≤ 8) (hb11 : (-1) ≤ q_keptMany.toInt ∧ q_keptMany.toInt ≤ 8) (hb12 : (-1) ≤ q_askedMany.toInt ∧ q_askedMany.toInt ≤ 3) (hb13 : 0 ≤ q_hasTorn.toInt ∧ q_hasTorn.toInt ≤ 1) (hb14 : 0 ≤ q_hasTurn.toInt ∧ q_hasTurn.toInt ≤ 1) (hb15 : 0 ≤ q_textMany.toInt ∧ q_textMany.toInt ≤ 48) (hb16 : 0 ≤ q_toldMany.toInt ∧ q_toldMany.toInt ≤ 40) (hb17 : 0 ≤ q_hasTold.toInt ∧ q_hasTold.toInt ≤ 1) (hb18 : 0 ≤ q_codes.toInt ∧ q_codes.toInt ≤ 40) (hb19 : 0 ≤ q_ones.toInt ∧ q_ones.toInt ≤ 20) (hb20 : 0 ≤ q_top.toInt ∧ q_top.toInt ≤ 40) (hb21 : 0 ≤ q_isWhole.toInt ∧ q_isWhole.toInt ≤ 1) (hR0 : Rg q_s 0 1 0 8) (hR1 : Rg q_s 1 3 0 6) (hR2 : Rg q_s 3 4 1 50) (hR3 : Rg q_s 4 5 1 5) (hR4 : Rg q_s 103 104 0 255) (hR5 : Rg q_s 7 23 0 5) (hR6 : Rg q_s 106 122 0 5) (hR7 : Rg q_s 23 31 0 99) (hR8 : Rg q_s 122 130 0 99) (hR9 : Sv q_s) (hR10 : F7 q_s gs) : MV l yX11_day cX11_day 3 (Rm 3 70 0 0) D cy [.ref q] sz [(q, oC11 q_thrown q_tape_ q_length q_size q_p q_limit q_s_ q_h_ q_read_ q_names_ q_reserved_ q_token q_at q_span q_number q_fault q_faultAt q_word q_got q_lines q_onces q_webs q_one q_two q_seed q_undone_ q_before_ q_undoMany q_far_ q_wayRow_ q_wayMany q_keptRow_ q_askedRow_ q_rares_ q_trial_ q_keptMany q_askedMany q_hangs_ q_paths_ q_tornSteps q_hasTorn q_turnOne q_hasTurn q_text_ q_textMany q_toldMany q_toldAt_ q_hasTold q_stack_ q_codes q_ones q_top q_deep q_isWhole q_truths_ q_imaged_ q_namesKept_ q_areKept_), (q_s_, aC1 cy 383 q_s)] (fun u : Int32 × (Nat → Int32) => (Rg u.2 0 1 0 8) ∧ (Rg u.2 1 3 0 6) ∧ (Rg u.2 3 4 1 50) ∧ (Rg u.2 4 5 1 5) ∧ (Rg u.2 103 104 0 255) ∧ (Rg u.2 7 23 0 5) ∧ (Rg u.2 106 122 0 5) ∧ (Rg u.2 23 31 0 99) ∧ (Rg u.2 122 130 0 99) ∧ (Sv u.2) ∧ (F7 u.2 gs)) (fun u : Int32 × (Nat → Int32) => [(q, oC11 q_thrown q_tape_ q_length q_size q_p q_limit q_s_ q_h_ q_read_ q_names_ q_reserved_ q_token q_at q_span q_number q_fault q_faultAt q_word q_got q_lines q_onces q_webs q_one q_two u.1 q_undone_ q_before_ q_undoMany q_far_ q_wayRow_ q_wayMany q_keptRow_ q_askedRow_ q_rares_ q_trial_ q_keptMany q_askedMany q_hangs_ q_paths_ q_tornSteps q_hasTorn q_turnOne q_hasTurn q_text_ q_textMany q_toldMany q_toldAt_ q_hasTold q_stack_ q_codes q_ones q_top q_deep q_isWhole q_truths_ q_imaged_ q_namesKept_ q_areKept_), (q_s_, aC1 cy 383 u.2)]) := by
  refine MV.enter (by decide) (Nat.le_of_ble_eq_true rfl) ?_
  intro p e s m below meth c ls A hsz hAe C hP hD hS hl
  exact b_y_day l D cy q q_thrown q_tape_ q_length q_size q_p q_limit q_s_ q_h_ q_read_ q_names_ q_reserved_ q_token q_at q_span q_number q_fault q_faultAt q_word q_got q_lines q_onces q_webs q_one q_two q_seed q_undone_ q_before_ q_undoMany q_far_ q_wayRow_ q_wayMany q_keptRow_ q_askedRow_ q_rares_ q_trial_ q_keptMany q_askedMany q_hangs_ q_paths_ q_tornSteps q_hasTorn q_turnOne q_hasTurn q_text_ q_textMany q_toldMany q_toldAt_ q_hasTold q_stack_ q_codes q_ones q_top q_deep q_isWhole q_truths_ q_imaged_ q_namesKept_ q_areKept_ q_s gs hb0 hb1 hb2 hb3 hb4 hb5 hb6 hb7 hb8 hb9 hb10 hb11 hb12 hb13 hb14 hb15 hb16 hb17 hb18 hb19 hb20 hb21 hR0 hR1 hR2 hR3 hR4 hR5 hR6 hR7 hR8 hR9 hR10 ⟨Nat.le_of_ble_eq_true rfl, Nat.le_of_ble_eq_true rfl⟩ C rfl _ _ ls hP hD hS hl
set_option maxHeartbeats 4000000 in
set_option maxRecDepth 100000 in
theorem b_y_goesOn (l : Launch) (D : va_G) (cy : Nat → ClassId) (q : Nat) (a : Int32) (b : Int32) (q_thrown : Int32) (q_tape_ : Nat) (q_length : Int32) (q_size : Int32) (q_p : Int32) (q_limit : Int32) (q_s_ : Nat) (q_h_ : Nat) (q_read_ : Nat) (q_names_ : Nat) (q_reserved_ : Nat) (q_token : Int32) (q_at : Int32) (q_span : Int32) (q_number : Int32) (q_fault : Int32) (q_faultAt : Int32) (q_word : Int64) (q_got : Int32) (q_lines : Int32) (q_onces : Int32) (q_webs : Int32) (q_one : Int32) (q_two : Int32) (q_seed : Int32) (q_undone_ : Nat) (q_before_ : Nat) (q_undoMany : Int32) (q_far_ : Nat) (q_wayRow_ : Nat) (q_wayMany : Int32) (q_keptRow_ : Nat) (q_askedRow_ : Nat) (q_rares_ : Nat) (q_trial_ : Nat) (q_keptMany : Int32) (q_askedMany : Int32) (q_hangs_ : Nat) (q_paths_ : Nat) (q_tornSteps : Int32) (q_hasTorn : Int32) (q_turnOne : Int32) (q_hasTurn : Int32) (q_text_ : Nat) (q_textMany : Int32) (q_toldMany : Int32) (q_toldAt_ : Nat) (q_hasTold : Int32) (q_stack_ : Nat) (q_codes : Int32) (q_ones : Int32) (q_top : Int32) (q_deep : Int32) (q_isWhole : Int32) (q_truths_ : Nat) (q_imaged_ : Nat) (q_namesKept_ : Nat) (q_areKept_ : Nat) (q_s : Nat → Int32) (gs : Nat → Int32) (hb0 : 0 ≤ q_length.toInt ∧ q_length.toInt ≤ 940) (hb1 : 0 ≤ q_size.toInt ∧ q_size.toInt ≤ 940) (hb2 : 0 ≤ q_p.toInt ∧ q_p.toInt ≤ 940) (hb3 : 0 ≤ q_limit.toInt ∧ q_limit.toInt ≤ 940) (hb4 : 0 ≤ q_span.toInt ∧ q_span.toInt ≤ 940) (hb5 : 0 ≤ q_number.toInt ∧ q_number.toInt ≤ 8214) (hb6 : (-1) ≤ q_got.toInt ∧ q_got.toInt ≤ 8214) (hb7 : 0 ≤ q_one.toInt ∧ q_one.toInt ≤ 7) (hb8 : 0 ≤ q_two.toInt ∧ q_two.toInt ≤ 7) (hb9 : 0 ≤ q_undoMany.toInt ∧ q_undoMany.toInt ≤ 8) (hb10 : (-1) ≤ q_wayMany.toInt ∧ q_wayMany.toInt ≤ 8) (hb11 : (-1) ≤ q_keptMany.toInt ∧ q_keptMany.toInt ≤ 8) (hb12 : (-1) ≤ q_askedMany.toInt ∧ q_askedMany.toInt ≤ 3) (hb13 : 0 ≤ q_hasTorn.toInt ∧ q_hasTorn.toInt ≤ 1) (hb14 : 0 ≤ q_hasTurn.toInt ∧ q_hasTurn.toInt ≤ 1) (hb15 : 0 ≤ q_textMany.toInt ∧ q_textMany.toInt ≤ 48) (hb16 : 0 ≤ q_toldMany.toInt ∧ q_toldMany.toInt ≤ 40) (hb17 : 0 ≤ q_hasTold.toInt ∧ q_hasTold.toInt ≤ 1) (hb18 : 0 ≤ q_codes.toInt ∧ q_codes.toInt ≤ 40) (hb19 : 0 ≤ q_ones.toInt ∧ q_ones.toInt ≤ 20) (hb20 : 0 ≤ q_top.toInt ∧ q_top.toInt ≤ 40) (hb21 : 0 ≤ q_isWhole.toInt ∧ q_isWhole.toInt ≤ 1) (hR0 : Rg q_s 0 1 0 8) (hR1 : Rg q_s 1 3 0 6) (hR2 : Rg q_s 3 4 1 50) (hR3 : Rg q_s 4 5 1 5) (hR4 : Rg q_s 103 104 0 255) (hR5 : Rg q_s 7 23 0 5) (hR6 : Rg q_s 106 122 0 5) (hR7 : Rg q_s 23 31 0 99) (hR8 : Rg q_s 122 130 0 99) (hR9 : Sv q_s) (hR10 : F7 q_s gs) {p : Program} {e : Env} {s : State} {m : MethodId} {args : Array Value} {below : List Frame} {meth : Method} {c : Code} {A : Nat → Prop} {Q : State → Prop} {cells slots : Nat} (hroom : cells ≤ ((Rm 4 92 0 0)).cells ∧ slots ≤ ((Rm 4 92 0 0)).slots) (C : Cx p s m args meth c cX11_goesOn 4 (some .int) RX11 "goesOn" D cy A) (hQ : Q = MQ below (va_Qi (fun (r : Int32) (u : Int32 × (Nat → Int32)) => (0 ≤ r.toInt) ∧ (Rg u.2 0 1 0 8) ∧ (Rg u.2 1 3 0 6) ∧ (Rg u.2 3 4 1 50) ∧ (Rg u.2 4 5 1 5) ∧ (Rg u.2 103 104 0 255) ∧ (Rg u.2 7 23 0 5) ∧ (Rg u.2 106 122 0 5) ∧ (Rg u.2 23 31 0 99) ∧ (Rg u.2 122 130 0 99) ∧ (Sv u.2) ∧ (F7 u.2 gs)) (Bx D A (fun u : Int32 × (Nat → Int32) => [(q, oC11 q_thrown q_tape_ q_length q_size q_p q_limit q_s_ q_h_ q_read_ q_names_ q_reserved_ q_token q_at q_span q_number q_fault q_faultAt q_word q_got q_lines q_onces q_webs q_one q_two u.1 q_undone_ q_before_ q_undoMany q_far_ q_wayRow_ q_wayMany q_keptRow_ q_askedRow_ q_rares_ q_trial_ q_keptMany q_askedMany q_hangs_ q_paths_ q_tornSteps q_hasTorn q_turnOne q_hasTurn q_text_ q_textMany q_toldMany q_toldAt_ q_hasTold q_stack_ q_codes q_ones q_top q_deep q_isWhole q_truths_ q_imaged_ q_namesKept_ q_areKept_), (q_s_, aC1 cy 383 u.2)])) A) args s ((Rm 4 92 0 0)).cells ((Rm 4 92 0 0)).slots A) (H : Heap) (locs : List Loc) (ls : Array Slot) (hP : va_P D vwCl [(q, oC11 q_thrown q_tape_ q_length q_size q_p q_limit q_s_ q_h_ q_read_ q_names_ q_reserved_ q_token q_at q_span q_number q_fault q_faultAt q_word q_got q_lines q_onces q_webs q_one q_two q_seed q_undone_ q_before_ q_undoMany q_far_ q_wayRow_ q_wayMany q_keptRow_ q_askedRow_ q_rares_ q_trial_ q_keptMany q_askedMany q_hangs_ q_paths_ q_tornSteps q_hasTorn q_turnOne q_hasTurn q_text_ q_textMany q_toldMany q_toldAt_ q_hasTold q_stack_ q_codes q_ones q_top q_deep q_isWhole q_truths_ q_imaged_ q_namesKept_ q_areKept_), (q_s_, aC1 cy 383 q_s)] H) (hD : va_D A [(q, oC11 q_thrown q_tape_ q_length q_size q_p q_limit q_s_ q_h_ q_read_ q_names_ q_reserved_ q_token q_at q_span q_number q_fault q_faultAt q_word q_got q_lines q_onces q_webs q_one q_two q_seed q_undone_ q_before_ q_undoMany q_far_ q_wayRow_ q_wayMany q_keptRow_ q_askedRow_ q_rares_ q_trial_ q_keptMany q_askedMany q_hangs_ q_paths_ q_tornSteps q_hasTorn q_turnOne q_hasTurn q_text_ q_textMany q_toldMany q_toldAt_ q_hasTold q_stack_ q_codes q_ones q_top q_deep q_isWhole q_truths_ q_imaged_ q_namesKept_ q_areKept_), (q_s_, aC1 cy 383 q_s)]) (hS : va_S A s.heap H locs) (hl : lv_has ls 4 [(0, .ref q), (1, .int a), (2, .int b)]) : W p l e (Rm 4 92 0 0) s m args below meth c H locs cells slots Q (F0 m 0 ls []) := by
  have hx := C.1
  have hb := C.2.1
  have hqa := o_rng a
  have hqb := o_rng b
  refine lv_aload_n hx hb dX11_goesOn_0 rfl (lv_at hl 0 rfl) ?_
  refine lv_iload_n hx hb dX11_goesOn_1 rfl (lv_at hl 2 rfl) ?_
  refine q_put11 (v := .int b) (w' := [(q, oC11 q_thrown q_tape_ q_length q_size q_p q_limit q_s_ q_h_ q_read_ q_names_ q_reserved_ q_token q_at q_span q_number q_fault q_faultAt q_word q_got q_lines q_onces q_webs q_one q_two b q_undone_ q_before_ q_undoMany q_far_ q_wayRow_ q_wayMany q_keptRow_ q_askedRow_ q_rares_ q_trial_ q_keptMany q_askedMany q_hangs_ q_paths_ q_tornSteps q_hasTorn q_turnOne q_hasTurn q_text_ q_textMany q_toldMany q_toldAt_ q_hasTold q_stack_ q_codes q_ones q_top q_deep q_isWhole q_truths_ q_imaged_ q_namesKept_ q_areKept_), (q_s_, aC1 cy 383 q_s)]) C hP hD hS 0 24 rfl fT_24 fy_24 (by decide) kF_RX11_334 rfl rfl (Nat.le_of_ble_eq_true rfl) rfl dX11_goesOn_2 (fun H locs hP hD hS => ?_)
  refine lv_iconst (v := 0) hx hb dX11_goesOn_5 (by decide) ?_
  refine lv_istore_n (lv' := [(3, .int 0), (0, .ref q), (1, .int a), (2, .int b)]) hx hb dX11_goesOn_6 rfl hl (by decide) rfl (fun ls hl => ?_)
  have lp_7_3 : ∀ (n_4 : Nat) (x_1 : Int32) (g_2 : Nat → Int32) (x_3 : Int32) (H : Heap) (locs : List Loc) (ls : Array Slot), (-1) * x_1.toInt + 2147483647 < (n_4 : Int) → (0 ≤ x_1.toInt) → (x_1.toInt ≤ 2147483647) → Rg g_2 0 1 0 8 → Rg g_2 1 3 0 6 → Rg g_2 3 4 1 50 → Rg g_2 4 5 1 5 → Rg g_2 103 104 0 255 → Rg g_2 7 23 0 5 → Rg g_2 106 122 0 5 → Rg g_2 23 31 0 99 → Rg g_2 122 130 0 99 → Sv g_2 → F7 g_2 gs → va_P D vwCl [(q, oC11 q_thrown q_tape_ q_length q_size q_p q_limit q_s_ q_h_ q_read_ q_names_ q_reserved_ q_token q_at q_span q_number q_fault q_faultAt q_word q_got q_lines q_onces q_webs q_one q_two x_3 q_undone_ q_before_ q_undoMany q_far_ q_wayRow_ q_wayMany q_keptRow_ q_askedRow_ q_rares_ q_trial_ q_keptMany q_askedMany q_hangs_ q_paths_ q_tornSteps q_hasTorn q_turnOne q_hasTurn q_text_ q_textMany q_toldMany q_toldAt_ q_hasTold q_stack_ q_codes q_ones q_top q_deep q_isWhole q_truths_ q_imaged_ q_namesKept_ q_areKept_), (q_s_, aC1 cy 383 g_2)] H → va_D A [(q, oC11 q_thrown q_tape_ q_length q_size q_p q_limit q_s_ q_h_ q_read_ q_names_ q_reserved_ q_token q_at q_span q_number q_fault q_faultAt q_word q_got q_lines q_onces q_webs q_one q_two x_3 q_undone_ q_before_ q_undoMany q_far_ q_wayRow_ q_wayMany q_keptRow_ q_askedRow_ q_rares_ q_trial_ q_keptMany q_askedMany q_hangs_ q_paths_ q_tornSteps q_hasTorn q_turnOne q_hasTurn q_text_ q_textMany q_toldMany q_toldAt_ q_hasTold q_stack_ q_codes q_ones q_top q_deep q_isWhole q_truths_ q_imaged_ q_namesKept_ q_areKept_), (q_s_, aC1 cy 383 g_2)] → va_S A s.heap H locs → lv_has ls 4 [(0, .ref q), (1, .int a), (3, .int x_1)] → W p l e (Rm 4 92 0 0) s m args below meth c H locs cells slots Q (F0 m 7 ls []) := by
    intro n_4
    induction n_4 with
    | zero =>
      intro x_1 g_2 x_3 H locs ls hm_18 hf_5 hf_6 hg_7 hg_8 hg_9 hg_10 hg_11 hg_12 hg_13 hg_14 hg_15 hg_16 hg_17 hP hD hS hl
      exact absurd hm_18 (by omega)
    | succ n_4 ih_19 =>
      intro x_1 g_2 x_3 H locs ls hm_18 hf_5 hf_6 hg_7 hg_8 hg_9 hg_10 hg_11 hg_12 hg_13 hg_14 hg_15 hg_16 hg_17 hP hD hS hl
      refine lv_iload_n hx hb dX11_goesOn_7 rfl (lv_at hl 2 rfl) ?_
      refine lv_iload_n hx hb dX11_goesOn_8 rfl (lv_at hl 1 rfl) ?_
      refine lv_icmp_ge (tgt := 35) hx hb dX11_goesOn_9 (by decide) (fun c_21 => ?_) (fun c_21 => ?_)
      · have hc_21 := o_le (rfl : a.toInt = a.toInt) (rfl : x_1.toInt = x_1.toInt) c_21
        refine lv_iload_n hx hb dX11_goesOn_35 rfl (lv_at hl 2 rfl) ?_
        refine o_wq hQ ?_
        exact q_iret (rm := (Rm 4 92 0 0)) C hS (x_3, g_2) rfl ⟨(show 0 ≤ x_1.toInt by omega), hg_7, hg_8, hg_9, hg_10, hg_11, hg_12, hg_13, hg_14, hg_15, hg_16, hg_17⟩ (q_subP hP [0, 1] rfl) (hD.sub [0, 1] (by decide) rfl) hroom.1 hroom.2 dX11_goesOn_36
      · have hc_21 := o_nle (rfl : a.toInt = a.toInt) (rfl : x_1.toInt = x_1.toInt) c_21
        refine lv_aload_n hx hb dX11_goesOn_12 rfl (lv_at hl 0 rfl) ?_
        refine q_get11 (v := .ref q_s_) C hP 0 6 rfl fT_6 (by decide) kF_RX11_33 rfl dX11_goesOn_13 ?_
        refine lv_bipush (v := 104) hx hb dX11_goesOn_16 (by decide) ?_
        refine q_iald (v := g_2 104) C hP 1 rfl (vin (by decide +kernel)) rfl dX11_goesOn_18 ?_
        refine lv_topi (fun z_22 ez_22 => ?_)
        refine lv_sipush (v := 400) hx hb dX11_goesOn_19 (by decide) ?_
        refine lv_icmp_ge (tgt := 35) hx hb dX11_goesOn_22 (by decide) (fun c_23 => ?_) (fun c_23 => ?_)
        · have hc_23 := o_le (by decide : (400 : Int32).toInt = 400) (rfl : z_22.toInt = z_22.toInt) c_23
          refine lv_iload_n hx hb dX11_goesOn_35 rfl (lv_at hl 2 rfl) ?_
          refine o_wq hQ ?_
          exact q_iret (rm := (Rm 4 92 0 0)) C hS (x_3, g_2) rfl ⟨(show 0 ≤ x_1.toInt by omega), hg_7, hg_8, hg_9, hg_10, hg_11, hg_12, hg_13, hg_14, hg_15, hg_16, hg_17⟩ (q_subP hP [0, 1] rfl) (hD.sub [0, 1] (by decide) rfl) hroom.1 hroom.2 dX11_goesOn_36
        · have hc_23 := o_nle (by decide : (400 : Int32).toInt = 400) (rfl : z_22.toInt = z_22.toInt) c_23
          refine lv_aload_n hx hb dX11_goesOn_25 rfl (lv_at hl 0 rfl) ?_
          refine q_av (wr := []) (r_V (rm := (Rm 3 70 0 0)) (q0 := 0) (As := []) (rest := []) (wc := [(q, oC11 q_thrown q_tape_ q_length q_size q_p q_limit q_s_ q_h_ q_read_ q_names_ q_reserved_ q_token q_at q_span q_number q_fault q_faultAt q_word q_got q_lines q_onces q_webs q_one q_two x_3 q_undone_ q_before_ q_undoMany q_far_ q_wayRow_ q_wayMany q_keptRow_ q_askedRow_ q_rares_ q_trial_ q_keptMany q_askedMany q_hangs_ q_paths_ q_tornSteps q_hasTorn q_turnOne q_hasTurn q_text_ q_textMany q_toldMany q_toldAt_ q_hasTold q_stack_ q_codes q_ones q_top q_deep q_isWhole q_truths_ q_imaged_ q_namesKept_ q_areKept_), (q_s_, aC1 cy 383 g_2)]) C hS (q_subP hP [0, 1] rfl) (hD.sub [0, 1] (by decide) rfl) (y_day l D cy q q_thrown q_tape_ q_length q_size q_p q_limit q_s_ q_h_ q_read_ q_names_ q_reserved_ q_token q_at q_span q_number q_fault q_faultAt q_word q_got q_lines q_onces q_webs q_one q_two x_3 q_undone_ q_before_ q_undoMany q_far_ q_wayRow_ q_wayMany q_keptRow_ q_askedRow_ q_rares_ q_trial_ q_keptMany q_askedMany q_hangs_ q_paths_ q_tornSteps q_hasTorn q_turnOne q_hasTurn q_text_ q_textMany q_toldMany q_toldAt_ q_hasTold q_stack_ q_codes q_ones q_top q_deep q_isWhole q_truths_ q_imaged_ q_namesKept_ q_areKept_ g_2 gs _ (by omega) (by omega) (by omega) (by omega) (by omega) (by omega) (by omega) (by omega) (by omega) (by omega) (by omega) (by omega) (by omega) (by omega) (by omega) (by omega) (by omega) (by omega) (by omega) (by omega) (by omega) (by omega) hg_7 hg_8 hg_9 hg_10 hg_11 hg_12 hg_13 hg_14 hg_15 hg_16 hg_17) kwV_X11_day kM_RX11_344 rfl rfl ⟨Nat.le_of_ble_eq_true rfl, Nat.le_of_ble_eq_true rfl⟩ rfl hl.1 rfl (Nat.le_of_ble_eq_true rfl) dX11_goesOn_26 ⟨hroom.1, hroom.2⟩) C.2.2.2.2.2.2.1 hP hD hS [0, 1] [] rfl rfl (by decide) (by decide) (fun u_24 H locs hw_26 hP hD hS => ?_)
          obtain ⟨x_27, g_28⟩ := u_24
          have hP : va_P D vwCl [(q, oC11 q_thrown q_tape_ q_length q_size q_p q_limit q_s_ q_h_ q_read_ q_names_ q_reserved_ q_token q_at q_span q_number q_fault q_faultAt q_word q_got q_lines q_onces q_webs q_one q_two x_27 q_undone_ q_before_ q_undoMany q_far_ q_wayRow_ q_wayMany q_keptRow_ q_askedRow_ q_rares_ q_trial_ q_keptMany q_askedMany q_hangs_ q_paths_ q_tornSteps q_hasTorn q_turnOne q_hasTurn q_text_ q_textMany q_toldMany q_toldAt_ q_hasTold q_stack_ q_codes q_ones q_top q_deep q_isWhole q_truths_ q_imaged_ q_namesKept_ q_areKept_), (q_s_, aC1 cy 383 g_28)] H := hP
          have hD : va_D A [(q, oC11 q_thrown q_tape_ q_length q_size q_p q_limit q_s_ q_h_ q_read_ q_names_ q_reserved_ q_token q_at q_span q_number q_fault q_faultAt q_word q_got q_lines q_onces q_webs q_one q_two x_27 q_undone_ q_before_ q_undoMany q_far_ q_wayRow_ q_wayMany q_keptRow_ q_askedRow_ q_rares_ q_trial_ q_keptMany q_askedMany q_hangs_ q_paths_ q_tornSteps q_hasTorn q_turnOne q_hasTurn q_text_ q_textMany q_toldMany q_toldAt_ q_hasTold q_stack_ q_codes q_ones q_top q_deep q_isWhole q_truths_ q_imaged_ q_namesKept_ q_areKept_), (q_s_, aC1 cy 383 g_28)] := hD
          have hp_28 : Rg g_28 0 1 0 8 := hw_26.1
          have hp_29 : Rg g_28 1 3 0 6 := hw_26.2.1
          have hp_30 : Rg g_28 3 4 1 50 := hw_26.2.2.1
          have hp_31 : Rg g_28 4 5 1 5 := hw_26.2.2.2.1
          have hp_32 : Rg g_28 103 104 0 255 := hw_26.2.2.2.2.1
          have hp_33 : Rg g_28 7 23 0 5 := hw_26.2.2.2.2.2.1
          have hp_34 : Rg g_28 106 122 0 5 := hw_26.2.2.2.2.2.2.1
          have hp_35 : Rg g_28 23 31 0 99 := hw_26.2.2.2.2.2.2.2.1
          have hp_36 : Rg g_28 122 130 0 99 := hw_26.2.2.2.2.2.2.2.2.1
          have hp_37 : Sv g_28 := hw_26.2.2.2.2.2.2.2.2.2.1
          have hp_38 : F7 g_28 gs := hw_26.2.2.2.2.2.2.2.2.2.2
          clear hw_26
          obtain ⟨z_40, hz_40⟩ : ∃ z : Int32, z = x_1 + 1 := ⟨_, rfl⟩
          refine lv_iinc (v := z_40) (lv' := [(3, .int z_40), (0, .ref q), (1, .int a)]) hx hb dX11_goesOn_29 hl (k := 2) rfl hz_40.symm (by decide) rfl (fun ls hl => ?_)
          have hz_40 := o_add hz_40 (rfl : x_1.toInt = x_1.toInt) (by decide : (1 : Int32).toInt = 1) (by omega) (by omega)
          refine lv_goto (tgt := 7) hx hb dX11_goesOn_32 (by decide) ?_
          exact ih_19 z_40 g_28 x_27 H locs ls (by omega) (by omega) (by omega) hp_28 hp_29 hp_30 hp_31 hp_32 hp_33 hp_34 hp_35 hp_36 hp_37 hp_38 hP hD hS (lv_sub hl [1, 2, 0] rfl)
  exact lp_7_3 2147483648 (0 : Int32) q_s b H locs ls (by have e0 : (0 : Int32).toInt = 0 := (by decide); omega) (by have e0 : (0 : Int32).toInt = 0 := (by decide); omega) (by have e0 : (0 : Int32).toInt = 0 := (by decide); omega) hR0 hR1 hR2 hR3 hR4 hR5 hR6 hR7 hR8 hR9 hR10 hP hD hS (lv_sub hl [1, 2, 0] rfl)
theorem y_goesOn (l : Launch) (D : va_G) (cy : Nat → ClassId) (q : Nat) (a : Int32) (b : Int32) (q_thrown : Int32) (q_tape_ : Nat) (q_length : Int32) (q_size : Int32) (q_p : Int32) (q_limit : Int32) (q_s_ : Nat) (q_h_ : Nat) (q_read_ : Nat) (q_names_ : Nat) (q_reserved_ : Nat) (q_token : Int32) (q_at : Int32) (q_span : Int32) (q_number : Int32) (q_fault : Int32) (q_faultAt : Int32) (q_word : Int64) (q_got : Int32) (q_lines : Int32) (q_onces : Int32) (q_webs : Int32) (q_one : Int32) (q_two : Int32) (q_seed : Int32) (q_undone_ : Nat) (q_before_ : Nat) (q_undoMany : Int32) (q_far_ : Nat) (q_wayRow_ : Nat) (q_wayMany : Int32) (q_keptRow_ : Nat) (q_askedRow_ : Nat) (q_rares_ : Nat) (q_trial_ : Nat) (q_keptMany : Int32) (q_askedMany : Int32) (q_hangs_ : Nat) (q_paths_ : Nat) (q_tornSteps : Int32) (q_hasTorn : Int32) (q_turnOne : Int32) (q_hasTurn : Int32) (q_text_ : Nat) (q_textMany : Int32) (q_toldMany : Int32) (q_toldAt_ : Nat) (q_hasTold : Int32) (q_stack_ : Nat) (q_codes : Int32) (q_ones : Int32) (q_top : Int32) (q_deep : Int32) (q_isWhole : Int32) (q_truths_ : Nat) (q_imaged_ : Nat) (q_namesKept_ : Nat) (q_areKept_ : Nat) (q_s : Nat → Int32) (gs : Nat → Int32) (sz : Nat) (hb0 : 0 ≤ q_length.toInt ∧ q_length.toInt ≤ 940) (hb1 : 0 ≤ q_size.toInt ∧ q_size.toInt ≤ 940) (hb2 : 0 ≤ q_p.toInt ∧ q_p.toInt ≤ 940) (hb3 : 0 ≤ q_limit.toInt ∧ q_limit.toInt ≤ 940) (hb4 : 0 ≤ q_span.toInt ∧ q_span.toInt ≤ 940) (hb5 : 0 ≤ q_number.toInt ∧ q_number.toInt ≤ 8214) (hb6 : (-1) ≤ q_got.toInt ∧ q_got.toInt ≤ 8214) (hb7 : 0 ≤ q_one.toInt ∧ q_one.toInt ≤ 7) (hb8 : 0 ≤ q_two.toInt ∧ q_two.toInt ≤ 7) (hb9 : 0 ≤ q_undoMany.toInt ∧ q_undoMany.toInt ≤ 8) (hb10 : (-1) ≤ q_wayMany.toInt ∧ q_wayMany.toInt ≤ 8) (hb11 : (-1) ≤ q_keptMany.toInt ∧ q_keptMany.toInt ≤ 8) (hb12 : (-1) ≤ q_askedMany.toInt ∧ q_askedMany.toInt ≤ 3) (hb13 : 0 ≤ q_hasTorn.toInt ∧ q_hasTorn.toInt ≤ 1) (hb14 : 0 ≤ q_hasTurn.toInt ∧ q_hasTurn.toInt ≤ 1) (hb15 : 0 ≤ q_textMany.toInt ∧ q_textMany.toInt ≤ 48) (hb16 : 0 ≤ q_toldMany.toInt ∧ q_toldMany.toInt ≤ 40) (hb17 : 0 ≤ q_hasTold.toInt ∧ q_hasTold.toInt ≤ 1) (hb18 : 0 ≤ q_codes.toInt ∧ q_codes.toInt ≤ 40) (hb19 : 0 ≤ q_ones.toInt ∧ q_ones.toInt ≤ 20) (hb20 : 0 ≤ q_top.toInt ∧ q_top.toInt ≤ 40) (hb21 : 0 ≤ q_isWhole.toInt ∧ q_isWhole.toInt ≤ 1) (hR0 : Rg q_s 0 1 0 8) (hR1 : Rg q_s 1 3 0 6) (hR2 : Rg q_s 3 4 1 50) (hR3 : Rg q_s 4 5 1 5) (hR4 : Rg q_s 103 104 0 255) (hR5 : Rg q_s 7 23 0 5) (hR6 : Rg q_s 106 122 0 5) (hR7 : Rg q_s 23 31 0 99) (hR8 : Rg q_s 122 130 0 99) (hR9 : Sv q_s) (hR10 : F7 q_s gs) : MI l yX11_goesOn cX11_goesOn 4 (some .int) (Rm 4 92 0 0) D cy [.ref q, .int a, .int b] sz [(q, oC11 q_thrown q_tape_ q_length q_size q_p q_limit q_s_ q_h_ q_read_ q_names_ q_reserved_ q_token q_at q_span q_number q_fault q_faultAt q_word q_got q_lines q_onces q_webs q_one q_two q_seed q_undone_ q_before_ q_undoMany q_far_ q_wayRow_ q_wayMany q_keptRow_ q_askedRow_ q_rares_ q_trial_ q_keptMany q_askedMany q_hangs_ q_paths_ q_tornSteps q_hasTorn q_turnOne q_hasTurn q_text_ q_textMany q_toldMany q_toldAt_ q_hasTold q_stack_ q_codes q_ones q_top q_deep q_isWhole q_truths_ q_imaged_ q_namesKept_ q_areKept_), (q_s_, aC1 cy 383 q_s)] (fun (r : Int32) (u : Int32 × (Nat → Int32)) => (0 ≤ r.toInt) ∧ (Rg u.2 0 1 0 8) ∧ (Rg u.2 1 3 0 6) ∧ (Rg u.2 3 4 1 50) ∧ (Rg u.2 4 5 1 5) ∧ (Rg u.2 103 104 0 255) ∧ (Rg u.2 7 23 0 5) ∧ (Rg u.2 106 122 0 5) ∧ (Rg u.2 23 31 0 99) ∧ (Rg u.2 122 130 0 99) ∧ (Sv u.2) ∧ (F7 u.2 gs)) (fun u : Int32 × (Nat → Int32) => [(q, oC11 q_thrown q_tape_ q_length q_size q_p q_limit q_s_ q_h_ q_read_ q_names_ q_reserved_ q_token q_at q_span q_number q_fault q_faultAt q_word q_got q_lines q_onces q_webs q_one q_two u.1 q_undone_ q_before_ q_undoMany q_far_ q_wayRow_ q_wayMany q_keptRow_ q_askedRow_ q_rares_ q_trial_ q_keptMany q_askedMany q_hangs_ q_paths_ q_tornSteps q_hasTorn q_turnOne q_hasTurn q_text_ q_textMany q_toldMany q_toldAt_ q_hasTold q_stack_ q_codes q_ones q_top q_deep q_isWhole q_truths_ q_imaged_ q_namesKept_ q_areKept_), (q_s_, aC1 cy 383 u.2)]) := by
  refine MI.enter (by decide) (Nat.le_of_ble_eq_true rfl) ?_
  intro p e s m below meth c ls A hsz hAe C hP hD hS hl
  exact b_y_goesOn l D cy q a b q_thrown q_tape_ q_length q_size q_p q_limit q_s_ q_h_ q_read_ q_names_ q_reserved_ q_token q_at q_span q_number q_fault q_faultAt q_word q_got q_lines q_onces q_webs q_one q_two q_seed q_undone_ q_before_ q_undoMany q_far_ q_wayRow_ q_wayMany q_keptRow_ q_askedRow_ q_rares_ q_trial_ q_keptMany q_askedMany q_hangs_ q_paths_ q_tornSteps q_hasTorn q_turnOne q_hasTurn q_text_ q_textMany q_toldMany q_toldAt_ q_hasTold q_stack_ q_codes q_ones q_top q_deep q_isWhole q_truths_ q_imaged_ q_namesKept_ q_areKept_ q_s gs hb0 hb1 hb2 hb3 hb4 hb5 hb6 hb7 hb8 hb9 hb10 hb11 hb12 hb13 hb14 hb15 hb16 hb17 hb18 hb19 hb20 hb21 hR0 hR1 hR2 hR3 hR4 hR5 hR6 hR7 hR8 hR9 hR10 ⟨Nat.le_of_ble_eq_true rfl, Nat.le_of_ble_eq_true rfl⟩ C rfl _ _ ls hP hD hS hl
set_option maxHeartbeats 4000000 in
set_option maxRecDepth 100000 in
theorem b_y_keeps (l : Launch) (D : va_G) (cy : Nat → ClassId) (q : Nat) (q_thrown : Int32) (q_tape_ : Nat) (q_length : Int32) (q_size : Int32) (q_p : Int32) (q_limit : Int32) (q_s_ : Nat) (q_h_ : Nat) (q_read_ : Nat) (q_names_ : Nat) (q_reserved_ : Nat) (q_token : Int32) (q_at : Int32) (q_span : Int32) (q_number : Int32) (q_fault : Int32) (q_faultAt : Int32) (q_word : Int64) (q_got : Int32) (q_lines : Int32) (q_onces : Int32) (q_webs : Int32) (q_one : Int32) (q_two : Int32) (q_seed : Int32) (q_undone_ : Nat) (q_before_ : Nat) (q_undoMany : Int32) (q_far_ : Nat) (q_wayRow_ : Nat) (q_wayMany : Int32) (q_keptRow_ : Nat) (q_askedRow_ : Nat) (q_rares_ : Nat) (q_trial_ : Nat) (q_keptMany : Int32) (q_askedMany : Int32) (q_hangs_ : Nat) (q_paths_ : Nat) (q_tornSteps : Int32) (q_hasTorn : Int32) (q_turnOne : Int32) (q_hasTurn : Int32) (q_text_ : Nat) (q_textMany : Int32) (q_toldMany : Int32) (q_toldAt_ : Nat) (q_hasTold : Int32) (q_stack_ : Nat) (q_codes : Int32) (q_ones : Int32) (q_top : Int32) (q_deep : Int32) (q_isWhole : Int32) (q_truths_ : Nat) (q_imaged_ : Nat) (q_namesKept_ : Nat) (q_areKept_ : Nat) (q_s : Nat → Int32) (q_undone : Nat → Int32) (hb0 : 0 ≤ q_length.toInt ∧ q_length.toInt ≤ 940) (hb1 : 0 ≤ q_size.toInt ∧ q_size.toInt ≤ 940) (hb2 : 0 ≤ q_p.toInt ∧ q_p.toInt ≤ 940) (hb3 : 0 ≤ q_limit.toInt ∧ q_limit.toInt ≤ 940) (hb4 : 0 ≤ q_span.toInt ∧ q_span.toInt ≤ 940) (hb5 : 0 ≤ q_number.toInt ∧ q_number.toInt ≤ 8214) (hb6 : (-1) ≤ q_got.toInt ∧ q_got.toInt ≤ 8214) (hb7 : 0 ≤ q_one.toInt ∧ q_one.toInt ≤ 7) (hb8 : 0 ≤ q_two.toInt ∧ q_two.toInt ≤ 7) (hb9 : 0 ≤ q_undoMany.toInt ∧ q_undoMany.toInt ≤ 8) (hb10 : (-1) ≤ q_wayMany.toInt ∧ q_wayMany.toInt ≤ 8) (hb11 : (-1) ≤ q_keptMany.toInt ∧ q_keptMany.toInt ≤ 8) (hb12 : (-1) ≤ q_askedMany.toInt ∧ q_askedMany.toInt ≤ 3) (hb13 : 0 ≤ q_hasTorn.toInt ∧ q_hasTorn.toInt ≤ 1) (hb14 : 0 ≤ q_hasTurn.toInt ∧ q_hasTurn.toInt ≤ 1) (hb15 : 0 ≤ q_textMany.toInt ∧ q_textMany.toInt ≤ 48) (hb16 : 0 ≤ q_toldMany.toInt ∧ q_toldMany.toInt ≤ 40) (hb17 : 0 ≤ q_hasTold.toInt ∧ q_hasTold.toInt ≤ 1) (hb18 : 0 ≤ q_codes.toInt ∧ q_codes.toInt ≤ 40) (hb19 : 0 ≤ q_ones.toInt ∧ q_ones.toInt ≤ 20) (hb20 : 0 ≤ q_top.toInt ∧ q_top.toInt ≤ 40) (hb21 : 0 ≤ q_isWhole.toInt ∧ q_isWhole.toInt ≤ 1) (hR0 : Rg q_s 0 1 0 8) (hR1 : Rg q_s 1 3 0 6) (hR2 : Rg q_s 3 4 1 50) (hR3 : Rg q_s 4 5 1 5) (hR4 : Rg q_s 103 104 0 255) (hR5 : Rg q_s 7 23 0 5) (hR6 : Rg q_s 106 122 0 5) (hR7 : Rg q_s 23 31 0 99) (hR8 : Rg q_s 122 130 0 99) (hR9 : Rp q_undone) (hR10 : Rw q_undone) {p : Program} {e : Env} {s : State} {m : MethodId} {args : Array Value} {below : List Frame} {meth : Method} {c : Code} {A : Nat → Prop} {Q : State → Prop} {cells slots : Nat} (hroom : cells ≤ ((Rm 0 0 0 0)).cells ∧ slots ≤ ((Rm 0 0 0 0)).slots) (C : Cx p s m args meth c cX11_keeps 2 none RX11 "keeps" D cy A) (hQ : Q = MQ below (va_Qv (fun u : Int32 × (Nat → Int32) => (1 ≤ u.1.toInt ∧ u.1.toInt ≤ 8) ∧ (Rp u.2) ∧ (Rw u.2)) (Bx D A (fun u : Int32 × (Nat → Int32) => [(q, oC11 q_thrown q_tape_ q_length q_size q_p q_limit q_s_ q_h_ q_read_ q_names_ q_reserved_ q_token q_at q_span q_number q_fault q_faultAt q_word q_got q_lines q_onces q_webs q_one q_two q_seed q_undone_ q_before_ u.1 q_far_ q_wayRow_ q_wayMany q_keptRow_ q_askedRow_ q_rares_ q_trial_ q_keptMany q_askedMany q_hangs_ q_paths_ q_tornSteps q_hasTorn q_turnOne q_hasTurn q_text_ q_textMany q_toldMany q_toldAt_ q_hasTold q_stack_ q_codes q_ones q_top q_deep q_isWhole q_truths_ q_imaged_ q_namesKept_ q_areKept_), (q_s_, aC1 cy 383 q_s), (q_undone_, aC1 cy 784 u.2)])) A) args s ((Rm 0 0 0 0)).cells ((Rm 0 0 0 0)).slots A) (H : Heap) (locs : List Loc) (ls : Array Slot) (hP : va_P D vwCl [(q, oC11 q_thrown q_tape_ q_length q_size q_p q_limit q_s_ q_h_ q_read_ q_names_ q_reserved_ q_token q_at q_span q_number q_fault q_faultAt q_word q_got q_lines q_onces q_webs q_one q_two q_seed q_undone_ q_before_ q_undoMany q_far_ q_wayRow_ q_wayMany q_keptRow_ q_askedRow_ q_rares_ q_trial_ q_keptMany q_askedMany q_hangs_ q_paths_ q_tornSteps q_hasTorn q_turnOne q_hasTurn q_text_ q_textMany q_toldMany q_toldAt_ q_hasTold q_stack_ q_codes q_ones q_top q_deep q_isWhole q_truths_ q_imaged_ q_namesKept_ q_areKept_), (q_s_, aC1 cy 383 q_s), (q_undone_, aC1 cy 784 q_undone)] H) (hD : va_D A [(q, oC11 q_thrown q_tape_ q_length q_size q_p q_limit q_s_ q_h_ q_read_ q_names_ q_reserved_ q_token q_at q_span q_number q_fault q_faultAt q_word q_got q_lines q_onces q_webs q_one q_two q_seed q_undone_ q_before_ q_undoMany q_far_ q_wayRow_ q_wayMany q_keptRow_ q_askedRow_ q_rares_ q_trial_ q_keptMany q_askedMany q_hangs_ q_paths_ q_tornSteps q_hasTorn q_turnOne q_hasTurn q_text_ q_textMany q_toldMany q_toldAt_ q_hasTold q_stack_ q_codes q_ones q_top q_deep q_isWhole q_truths_ q_imaged_ q_namesKept_ q_areKept_), (q_s_, aC1 cy 383 q_s), (q_undone_, aC1 cy 784 q_undone)]) (hS : va_S A s.heap H locs) (hl : lv_has ls 2 [(0, .ref q)]) : W p l e (Rm 0 0 0 0) s m args below meth c H locs cells slots Q (F0 m 0 ls []) := by
  have hx := C.1
  have hb := C.2.1
  refine lv_aload_n hx hb dX11_keeps_0 rfl (lv_at hl 0 rfl) ?_
  refine q_get11 (v := .int q_undoMany) C hP 0 27 rfl fT_27 (by decide) kF_RX11_288 rfl dX11_keeps_1 ?_
  refine lv_bipush (v := 8) hx hb dX11_keeps_4 (by decide) ?_
  refine lv_icmp_ne (tgt := 45) hx hb dX11_keeps_6 (by decide) (fun c_1 => ?_) (fun c_1 => ?_)
  · have hc_1 := o_ne (rfl : q_undoMany.toInt = q_undoMany.toInt) (by decide : (8 : Int32).toInt = 8) c_1
    have hnc_1 : 0 ≤ (-1) * q_undoMany.toInt + 7 := by rcases Int.lt_or_gt_of_ne hc_1 with h9 | h9 <;> omega
    refine lv_iconst (v := 0) hx hb dX11_keeps_45 (by decide) ?_
    refine lv_istore_n (lv' := [(1, .int 0), (0, .ref q)]) hx hb dX11_keeps_46 rfl hl (by decide) rfl (fun ls hl => ?_)
    have lp_47_3 : ∀ (n_4 : Nat) (x_2 : Int32) (g_3 : Nat → Int32) (H : Heap) (locs : List Loc) (ls : Array Slot), (-1) * x_2.toInt + 98 < (n_4 : Int) → (0 ≤ x_2.toInt ∧ x_2.toInt ≤ 98) → Rp g_3 → Rw g_3 → va_P D vwCl [(q, oC11 q_thrown q_tape_ q_length q_size q_p q_limit q_s_ q_h_ q_read_ q_names_ q_reserved_ q_token q_at q_span q_number q_fault q_faultAt q_word q_got q_lines q_onces q_webs q_one q_two q_seed q_undone_ q_before_ q_undoMany q_far_ q_wayRow_ q_wayMany q_keptRow_ q_askedRow_ q_rares_ q_trial_ q_keptMany q_askedMany q_hangs_ q_paths_ q_tornSteps q_hasTorn q_turnOne q_hasTurn q_text_ q_textMany q_toldMany q_toldAt_ q_hasTold q_stack_ q_codes q_ones q_top q_deep q_isWhole q_truths_ q_imaged_ q_namesKept_ q_areKept_), (q_s_, aC1 cy 383 q_s), (q_undone_, aC1 cy 784 g_3)] H → va_D A [(q, oC11 q_thrown q_tape_ q_length q_size q_p q_limit q_s_ q_h_ q_read_ q_names_ q_reserved_ q_token q_at q_span q_number q_fault q_faultAt q_word q_got q_lines q_onces q_webs q_one q_two q_seed q_undone_ q_before_ q_undoMany q_far_ q_wayRow_ q_wayMany q_keptRow_ q_askedRow_ q_rares_ q_trial_ q_keptMany q_askedMany q_hangs_ q_paths_ q_tornSteps q_hasTorn q_turnOne q_hasTurn q_text_ q_textMany q_toldMany q_toldAt_ q_hasTold q_stack_ q_codes q_ones q_top q_deep q_isWhole q_truths_ q_imaged_ q_namesKept_ q_areKept_), (q_s_, aC1 cy 383 q_s), (q_undone_, aC1 cy 784 g_3)] → va_S A s.heap H locs → lv_has ls 2 [(0, .ref q), (1, .int x_2)] → W p l e (Rm 0 0 0 0) s m args below meth c H locs cells slots Q (F0 m 47 ls []) := by
      intro n_4
      induction n_4 with
      | zero =>
        intro x_2 g_3 H locs ls hm_8 hf_5 hg_6 hg_7 hP hD hS hl
        exact absurd hm_8 (by omega)
      | succ n_4 ih_9 =>
        intro x_2 g_3 H locs ls hm_8 hf_5 hg_6 hg_7 hP hD hS hl
        refine lv_iload_n hx hb dX11_keeps_47 rfl (lv_at hl 1 rfl) ?_
        refine lv_bipush (v := 98) hx hb dX11_keeps_48 (by decide) ?_
        refine lv_icmp_ge (tgt := 82) hx hb dX11_keeps_50 (by decide) (fun c_11 => ?_) (fun c_11 => ?_)
        · have hc_11 := o_le (by decide : (98 : Int32).toInt = 98) (rfl : x_2.toInt = x_2.toInt) c_11
          refine lv_aload_n hx hb dX11_keeps_82 rfl (lv_at hl 0 rfl) ?_
          refine lv_dup hx hb dX11_keeps_83 rfl ?_
          refine q_get11 (v := .int q_undoMany) C hP 0 27 rfl fT_27 (by decide) kF_RX11_288 rfl dX11_keeps_84 ?_
          refine lv_iconst (v := 1) hx hb dX11_keeps_87 (by decide) ?_
          refine lv_iadd hx hb dX11_keeps_88 ?_
          refine lv_topi (fun z_12 hz_12 => ?_)
          have hz_12 := o_add hz_12 (rfl : q_undoMany.toInt = q_undoMany.toInt) (by decide : (1 : Int32).toInt = 1) (by omega) (by omega)
          refine q_put11 (v := .int z_12) (w' := [(q, oC11 q_thrown q_tape_ q_length q_size q_p q_limit q_s_ q_h_ q_read_ q_names_ q_reserved_ q_token q_at q_span q_number q_fault q_faultAt q_word q_got q_lines q_onces q_webs q_one q_two q_seed q_undone_ q_before_ z_12 q_far_ q_wayRow_ q_wayMany q_keptRow_ q_askedRow_ q_rares_ q_trial_ q_keptMany q_askedMany q_hangs_ q_paths_ q_tornSteps q_hasTorn q_turnOne q_hasTurn q_text_ q_textMany q_toldMany q_toldAt_ q_hasTold q_stack_ q_codes q_ones q_top q_deep q_isWhole q_truths_ q_imaged_ q_namesKept_ q_areKept_), (q_s_, aC1 cy 383 q_s), (q_undone_, aC1 cy 784 g_3)]) C hP hD hS 0 27 rfl fT_27 fy_27 (by decide) kF_RX11_288 rfl rfl (Nat.le_of_ble_eq_true rfl) rfl dX11_keeps_89 (fun H locs hP hD hS => ?_)
          refine o_wq hQ ?_
          exact q_vret (rm := (Rm 0 0 0 0)) C hS (z_12, g_3) ⟨(show 1 ≤ z_12.toInt ∧ z_12.toInt ≤ 8 by omega), hg_6, hg_7⟩ (q_subP hP [0, 1, 2] rfl) (hD.sub [0, 1, 2] (by decide) rfl) hroom.1 hroom.2 dX11_keeps_92
        · have hc_11 := o_nle (by decide : (98 : Int32).toInt = 98) (rfl : x_2.toInt = x_2.toInt) c_11
          refine lv_aload_n hx hb dX11_keeps_53 rfl (lv_at hl 0 rfl) ?_
          refine q_get11 (v := .ref q_undone_) C hP 0 25 rfl fT_25 (by decide) kF_RX11_50 rfl dX11_keeps_54 ?_
          refine lv_bipush (v := 98) hx hb dX11_keeps_57 (by decide) ?_
          refine lv_aload_n hx hb dX11_keeps_59 rfl (lv_at hl 0 rfl) ?_
          refine q_get11 (v := .int q_undoMany) C hP 0 27 rfl fT_27 (by decide) kF_RX11_288 rfl dX11_keeps_60 ?_
          refine lv_imul hx hb dX11_keeps_63 ?_
          refine lv_topi (fun z_13 hz_13 => ?_)
          have hz_13 := o_mul hz_13 (by decide : (98 : Int32).toInt = 98) (rfl : q_undoMany.toInt = q_undoMany.toInt) (by omega) (by omega)
          refine lv_iload_n hx hb dX11_keeps_64 rfl (lv_at hl 1 rfl) ?_
          refine lv_iadd hx hb dX11_keeps_65 ?_
          refine lv_topi (fun z_14 hz_14 => ?_)
          have hz_14 := o_add hz_14 (rfl : z_13.toInt = z_13.toInt) (rfl : x_2.toInt = x_2.toInt) (by omega) (by omega)
          refine lv_aload_n hx hb dX11_keeps_66 rfl (lv_at hl 0 rfl) ?_
          refine q_get11 (v := .ref q_s_) C hP 0 6 rfl fT_6 (by decide) kF_RX11_33 rfl dX11_keeps_67 ?_
          refine lv_bipush (v := 104) hx hb dX11_keeps_70 (by decide) ?_
          refine lv_iload_n hx hb dX11_keeps_72 rfl (lv_at hl 1 rfl) ?_
          refine lv_iadd hx hb dX11_keeps_73 ?_
          refine lv_topi (fun z_15 hz_15 => ?_)
          have hz_15 := o_add hz_15 (by decide : (104 : Int32).toInt = 104) (rfl : x_2.toInt = x_2.toInt) (by omega) (by omega)
          refine q_iald (v := q_s z_15.toNatClampNeg) C hP 1 rfl (o_in (rfl : z_15.toInt = z_15.toInt) (by omega) (by omega)) rfl dX11_keeps_74 ?_
          refine lv_topi (fun z_16 ez_16 => ?_)
          refine q_iast (g := upd g_3 z_14.toNatClampNeg z_16) (w' := [(q, oC11 q_thrown q_tape_ q_length q_size q_p q_limit q_s_ q_h_ q_read_ q_names_ q_reserved_ q_token q_at q_span q_number q_fault q_faultAt q_word q_got q_lines q_onces q_webs q_one q_two q_seed q_undone_ q_before_ q_undoMany q_far_ q_wayRow_ q_wayMany q_keptRow_ q_askedRow_ q_rares_ q_trial_ q_keptMany q_askedMany q_hangs_ q_paths_ q_tornSteps q_hasTorn q_turnOne q_hasTurn q_text_ q_textMany q_toldMany q_toldAt_ q_hasTold q_stack_ q_codes q_ones q_top q_deep q_isWhole q_truths_ q_imaged_ q_namesKept_ q_areKept_), (q_s_, aC1 cy 383 q_s), (q_undone_, aC1 cy 784 (upd g_3 z_14.toNatClampNeg z_16))]) C hP hD hS 2 rfl (o_in (rfl : z_14.toInt = z_14.toInt) (by omega) (by omega)) rfl rfl dX11_keeps_75 (fun H locs hP hD hS => ?_)
          have Rg_17_0 : Rp (upd g_3 z_14.toNatClampNeg z_16) := (Rp.put hg_6 (fun h1 h2 h3 => by have c1 := o_cl (rfl : z_14.toInt = z_14.toInt) (by omega); have c2 := o_cl (rfl : z_15.toInt = z_15.toInt) (by omega); have h9 := hR6 z_15.toNatClampNeg (by omega) (by omega); rw [← ez_16] at h9; omega))
          have Rg_17_1 : Rw (upd g_3 z_14.toNatClampNeg z_16) := (Rw.put hg_7 (fun h1 h2 h3 => by have c1 := o_cl (rfl : z_14.toInt = z_14.toInt) (by omega); have c2 := o_cl (rfl : z_15.toInt = z_15.toInt) (by omega); have h9 := hR8 z_15.toNatClampNeg (by omega) (by omega); rw [← ez_16] at h9; omega))
          generalize upd g_3 z_14.toNatClampNeg z_16 = g_17 at hP hD Rg_17_0 Rg_17_1
          have hP : va_P D vwCl [(q, oC11 q_thrown q_tape_ q_length q_size q_p q_limit q_s_ q_h_ q_read_ q_names_ q_reserved_ q_token q_at q_span q_number q_fault q_faultAt q_word q_got q_lines q_onces q_webs q_one q_two q_seed q_undone_ q_before_ q_undoMany q_far_ q_wayRow_ q_wayMany q_keptRow_ q_askedRow_ q_rares_ q_trial_ q_keptMany q_askedMany q_hangs_ q_paths_ q_tornSteps q_hasTorn q_turnOne q_hasTurn q_text_ q_textMany q_toldMany q_toldAt_ q_hasTold q_stack_ q_codes q_ones q_top q_deep q_isWhole q_truths_ q_imaged_ q_namesKept_ q_areKept_), (q_s_, aC1 cy 383 q_s), (q_undone_, aC1 cy 784 g_17)] H := hP
          have hD : va_D A [(q, oC11 q_thrown q_tape_ q_length q_size q_p q_limit q_s_ q_h_ q_read_ q_names_ q_reserved_ q_token q_at q_span q_number q_fault q_faultAt q_word q_got q_lines q_onces q_webs q_one q_two q_seed q_undone_ q_before_ q_undoMany q_far_ q_wayRow_ q_wayMany q_keptRow_ q_askedRow_ q_rares_ q_trial_ q_keptMany q_askedMany q_hangs_ q_paths_ q_tornSteps q_hasTorn q_turnOne q_hasTurn q_text_ q_textMany q_toldMany q_toldAt_ q_hasTold q_stack_ q_codes q_ones q_top q_deep q_isWhole q_truths_ q_imaged_ q_namesKept_ q_areKept_), (q_s_, aC1 cy 383 q_s), (q_undone_, aC1 cy 784 g_17)] := hD
          obtain ⟨z_18, hz_18⟩ : ∃ z : Int32, z = x_2 + 1 := ⟨_, rfl⟩
          refine lv_iinc (v := z_18) (lv' := [(1, .int z_18), (0, .ref q)]) hx hb dX11_keeps_76 hl (k := 1) rfl hz_18.symm (by decide) rfl (fun ls hl => ?_)
          have hz_18 := o_add hz_18 (rfl : x_2.toInt = x_2.toInt) (by decide : (1 : Int32).toInt = 1) (by omega) (by omega)
          refine lv_goto (tgt := 47) hx hb dX11_keeps_79 (by decide) ?_
          exact ih_9 z_18 g_17 H locs ls (by omega) (by omega) Rg_17_0 Rg_17_1 hP hD hS (lv_sub hl [1, 0] rfl)
    exact lp_47_3 99 (0 : Int32) q_undone H locs ls (by have e0 : (0 : Int32).toInt = 0 := (by decide); omega) (by have e0 : (0 : Int32).toInt = 0 := (by decide); omega) hR9 hR10 hP hD hS (lv_sub hl [1, 0] rfl)
  · have hc_1 := o_eq (rfl : q_undoMany.toInt = q_undoMany.toInt) (by decide : (8 : Int32).toInt = 8) c_1
    refine lv_iconst (v := 0) hx hb dX11_keeps_9 (by decide) ?_
    refine lv_istore_n (lv' := [(1, .int 0), (0, .ref q)]) hx hb dX11_keeps_10 rfl hl (by decide) rfl (fun ls hl => ?_)
    have lp_11_20 : ∀ (n_21 : Nat) (x_19 : Int32) (g_20 : Nat → Int32) (H : Heap) (locs : List Loc) (ls : Array Slot), (-1) * x_19.toInt + 686 < (n_21 : Int) → (0 ≤ x_19.toInt ∧ x_19.toInt ≤ 686) → Rp g_20 → Rw g_20 → va_P D vwCl [(q, oC11 q_thrown q_tape_ q_length q_size q_p q_limit q_s_ q_h_ q_read_ q_names_ q_reserved_ q_token q_at q_span q_number q_fault q_faultAt q_word q_got q_lines q_onces q_webs q_one q_two q_seed q_undone_ q_before_ q_undoMany q_far_ q_wayRow_ q_wayMany q_keptRow_ q_askedRow_ q_rares_ q_trial_ q_keptMany q_askedMany q_hangs_ q_paths_ q_tornSteps q_hasTorn q_turnOne q_hasTurn q_text_ q_textMany q_toldMany q_toldAt_ q_hasTold q_stack_ q_codes q_ones q_top q_deep q_isWhole q_truths_ q_imaged_ q_namesKept_ q_areKept_), (q_s_, aC1 cy 383 q_s), (q_undone_, aC1 cy 784 g_20)] H → va_D A [(q, oC11 q_thrown q_tape_ q_length q_size q_p q_limit q_s_ q_h_ q_read_ q_names_ q_reserved_ q_token q_at q_span q_number q_fault q_faultAt q_word q_got q_lines q_onces q_webs q_one q_two q_seed q_undone_ q_before_ q_undoMany q_far_ q_wayRow_ q_wayMany q_keptRow_ q_askedRow_ q_rares_ q_trial_ q_keptMany q_askedMany q_hangs_ q_paths_ q_tornSteps q_hasTorn q_turnOne q_hasTurn q_text_ q_textMany q_toldMany q_toldAt_ q_hasTold q_stack_ q_codes q_ones q_top q_deep q_isWhole q_truths_ q_imaged_ q_namesKept_ q_areKept_), (q_s_, aC1 cy 383 q_s), (q_undone_, aC1 cy 784 g_20)] → va_S A s.heap H locs → lv_has ls 2 [(0, .ref q), (1, .int x_19)] → W p l e (Rm 0 0 0 0) s m args below meth c H locs cells slots Q (F0 m 11 ls []) := by
      intro n_21
      induction n_21 with
      | zero =>
        intro x_19 g_20 H locs ls hm_25 hf_22 hg_23 hg_24 hP hD hS hl
        exact absurd hm_25 (by omega)
      | succ n_21 ih_26 =>
        intro x_19 g_20 H locs ls hm_25 hf_22 hg_23 hg_24 hP hD hS hl
        refine lv_iload_n hx hb dX11_keeps_11 rfl (lv_at hl 1 rfl) ?_
        refine lv_sipush (v := 686) hx hb dX11_keeps_12 (by decide) ?_
        refine lv_icmp_ge (tgt := 39) hx hb dX11_keeps_15 (by decide) (fun c_28 => ?_) (fun c_28 => ?_)
        · have hc_28 := o_le (by decide : (686 : Int32).toInt = 686) (rfl : x_19.toInt = x_19.toInt) c_28
          refine lv_aload_n hx hb dX11_keeps_39 rfl (lv_at hl 0 rfl) ?_
          refine lv_bipush (v := 7) hx hb dX11_keeps_40 (by decide) ?_
          refine q_put11 (v := .int 7) (w' := [(q, oC11 q_thrown q_tape_ q_length q_size q_p q_limit q_s_ q_h_ q_read_ q_names_ q_reserved_ q_token q_at q_span q_number q_fault q_faultAt q_word q_got q_lines q_onces q_webs q_one q_two q_seed q_undone_ q_before_ 7 q_far_ q_wayRow_ q_wayMany q_keptRow_ q_askedRow_ q_rares_ q_trial_ q_keptMany q_askedMany q_hangs_ q_paths_ q_tornSteps q_hasTorn q_turnOne q_hasTurn q_text_ q_textMany q_toldMany q_toldAt_ q_hasTold q_stack_ q_codes q_ones q_top q_deep q_isWhole q_truths_ q_imaged_ q_namesKept_ q_areKept_), (q_s_, aC1 cy 383 q_s), (q_undone_, aC1 cy 784 g_20)]) C hP hD hS 0 27 rfl fT_27 fy_27 (by decide) kF_RX11_288 rfl rfl (Nat.le_of_ble_eq_true rfl) rfl dX11_keeps_42 (fun H locs hP hD hS => ?_)
          refine lv_iconst (v := 0) hx hb dX11_keeps_45 (by decide) ?_
          refine lv_istore_n (lv' := [(1, .int 0), (0, .ref q)]) hx hb dX11_keeps_46 rfl hl (by decide) rfl (fun ls hl => ?_)
          have lp_47_30 : ∀ (n_31 : Nat) (x_29 : Int32) (g_30 : Nat → Int32) (H : Heap) (locs : List Loc) (ls : Array Slot), (-1) * x_29.toInt + 98 < (n_31 : Int) → (0 ≤ x_29.toInt ∧ x_29.toInt ≤ 98) → Rp g_30 → Rw g_30 → va_P D vwCl [(q, oC11 q_thrown q_tape_ q_length q_size q_p q_limit q_s_ q_h_ q_read_ q_names_ q_reserved_ q_token q_at q_span q_number q_fault q_faultAt q_word q_got q_lines q_onces q_webs q_one q_two q_seed q_undone_ q_before_ 7 q_far_ q_wayRow_ q_wayMany q_keptRow_ q_askedRow_ q_rares_ q_trial_ q_keptMany q_askedMany q_hangs_ q_paths_ q_tornSteps q_hasTorn q_turnOne q_hasTurn q_text_ q_textMany q_toldMany q_toldAt_ q_hasTold q_stack_ q_codes q_ones q_top q_deep q_isWhole q_truths_ q_imaged_ q_namesKept_ q_areKept_), (q_s_, aC1 cy 383 q_s), (q_undone_, aC1 cy 784 g_30)] H → va_D A [(q, oC11 q_thrown q_tape_ q_length q_size q_p q_limit q_s_ q_h_ q_read_ q_names_ q_reserved_ q_token q_at q_span q_number q_fault q_faultAt q_word q_got q_lines q_onces q_webs q_one q_two q_seed q_undone_ q_before_ 7 q_far_ q_wayRow_ q_wayMany q_keptRow_ q_askedRow_ q_rares_ q_trial_ q_keptMany q_askedMany q_hangs_ q_paths_ q_tornSteps q_hasTorn q_turnOne q_hasTurn q_text_ q_textMany q_toldMany q_toldAt_ q_hasTold q_stack_ q_codes q_ones q_top q_deep q_isWhole q_truths_ q_imaged_ q_namesKept_ q_areKept_), (q_s_, aC1 cy 383 q_s), (q_undone_, aC1 cy 784 g_30)] → va_S A s.heap H locs → lv_has ls 2 [(0, .ref q), (1, .int x_29)] → W p l e (Rm 0 0 0 0) s m args below meth c H locs cells slots Q (F0 m 47 ls []) := by
            intro n_31
            induction n_31 with
            | zero =>
              intro x_29 g_30 H locs ls hm_35 hf_32 hg_33 hg_34 hP hD hS hl
              exact absurd hm_35 (by omega)
            | succ n_31 ih_36 =>
              intro x_29 g_30 H locs ls hm_35 hf_32 hg_33 hg_34 hP hD hS hl
              refine lv_iload_n hx hb dX11_keeps_47 rfl (lv_at hl 1 rfl) ?_
              refine lv_bipush (v := 98) hx hb dX11_keeps_48 (by decide) ?_
              refine lv_icmp_ge (tgt := 82) hx hb dX11_keeps_50 (by decide) (fun c_38 => ?_) (fun c_38 => ?_)
              · have hc_38 := o_le (by decide : (98 : Int32).toInt = 98) (rfl : x_29.toInt = x_29.toInt) c_38
                refine lv_aload_n hx hb dX11_keeps_82 rfl (lv_at hl 0 rfl) ?_
                refine lv_dup hx hb dX11_keeps_83 rfl ?_
                refine q_get11 (v := .int 7) C hP 0 27 rfl fT_27 (by decide) kF_RX11_288 rfl dX11_keeps_84 ?_
                refine lv_iconst (v := 1) hx hb dX11_keeps_87 (by decide) ?_
                refine lv_iadd hx hb dX11_keeps_88 ?_
                refine q_val (v := 8) (by decide) ?_
                refine q_put11 (v := .int 8) (w' := [(q, oC11 q_thrown q_tape_ q_length q_size q_p q_limit q_s_ q_h_ q_read_ q_names_ q_reserved_ q_token q_at q_span q_number q_fault q_faultAt q_word q_got q_lines q_onces q_webs q_one q_two q_seed q_undone_ q_before_ 8 q_far_ q_wayRow_ q_wayMany q_keptRow_ q_askedRow_ q_rares_ q_trial_ q_keptMany q_askedMany q_hangs_ q_paths_ q_tornSteps q_hasTorn q_turnOne q_hasTurn q_text_ q_textMany q_toldMany q_toldAt_ q_hasTold q_stack_ q_codes q_ones q_top q_deep q_isWhole q_truths_ q_imaged_ q_namesKept_ q_areKept_), (q_s_, aC1 cy 383 q_s), (q_undone_, aC1 cy 784 g_30)]) C hP hD hS 0 27 rfl fT_27 fy_27 (by decide) kF_RX11_288 rfl rfl (Nat.le_of_ble_eq_true rfl) rfl dX11_keeps_89 (fun H locs hP hD hS => ?_)
                refine o_wq hQ ?_
                exact q_vret (rm := (Rm 0 0 0 0)) C hS (8, g_30) ⟨(show 1 ≤ (8 : Int32).toInt ∧ (8 : Int32).toInt ≤ 8 by decide), hg_33, hg_34⟩ (q_subP hP [0, 1, 2] rfl) (hD.sub [0, 1, 2] (by decide) rfl) hroom.1 hroom.2 dX11_keeps_92
              · have hc_38 := o_nle (by decide : (98 : Int32).toInt = 98) (rfl : x_29.toInt = x_29.toInt) c_38
                refine lv_aload_n hx hb dX11_keeps_53 rfl (lv_at hl 0 rfl) ?_
                refine q_get11 (v := .ref q_undone_) C hP 0 25 rfl fT_25 (by decide) kF_RX11_50 rfl dX11_keeps_54 ?_
                refine lv_bipush (v := 98) hx hb dX11_keeps_57 (by decide) ?_
                refine lv_aload_n hx hb dX11_keeps_59 rfl (lv_at hl 0 rfl) ?_
                refine q_get11 (v := .int 7) C hP 0 27 rfl fT_27 (by decide) kF_RX11_288 rfl dX11_keeps_60 ?_
                refine lv_imul hx hb dX11_keeps_63 ?_
                refine q_val (v := 686) (by decide) ?_
                refine lv_iload_n hx hb dX11_keeps_64 rfl (lv_at hl 1 rfl) ?_
                refine lv_iadd hx hb dX11_keeps_65 ?_
                refine lv_topi (fun z_39 hz_39 => ?_)
                have hz_39 := o_add hz_39 (by decide : (686 : Int32).toInt = 686) (rfl : x_29.toInt = x_29.toInt) (by omega) (by omega)
                refine lv_aload_n hx hb dX11_keeps_66 rfl (lv_at hl 0 rfl) ?_
                refine q_get11 (v := .ref q_s_) C hP 0 6 rfl fT_6 (by decide) kF_RX11_33 rfl dX11_keeps_67 ?_
                refine lv_bipush (v := 104) hx hb dX11_keeps_70 (by decide) ?_
                refine lv_iload_n hx hb dX11_keeps_72 rfl (lv_at hl 1 rfl) ?_
                refine lv_iadd hx hb dX11_keeps_73 ?_
                refine lv_topi (fun z_40 hz_40 => ?_)
                have hz_40 := o_add hz_40 (by decide : (104 : Int32).toInt = 104) (rfl : x_29.toInt = x_29.toInt) (by omega) (by omega)
                refine q_iald (v := q_s z_40.toNatClampNeg) C hP 1 rfl (o_in (rfl : z_40.toInt = z_40.toInt) (by omega) (by omega)) rfl dX11_keeps_74 ?_
                refine lv_topi (fun z_41 ez_41 => ?_)
                refine q_iast (g := upd g_30 z_39.toNatClampNeg z_41) (w' := [(q, oC11 q_thrown q_tape_ q_length q_size q_p q_limit q_s_ q_h_ q_read_ q_names_ q_reserved_ q_token q_at q_span q_number q_fault q_faultAt q_word q_got q_lines q_onces q_webs q_one q_two q_seed q_undone_ q_before_ 7 q_far_ q_wayRow_ q_wayMany q_keptRow_ q_askedRow_ q_rares_ q_trial_ q_keptMany q_askedMany q_hangs_ q_paths_ q_tornSteps q_hasTorn q_turnOne q_hasTurn q_text_ q_textMany q_toldMany q_toldAt_ q_hasTold q_stack_ q_codes q_ones q_top q_deep q_isWhole q_truths_ q_imaged_ q_namesKept_ q_areKept_), (q_s_, aC1 cy 383 q_s), (q_undone_, aC1 cy 784 (upd g_30 z_39.toNatClampNeg z_41))]) C hP hD hS 2 rfl (o_in (rfl : z_39.toInt = z_39.toInt) (by omega) (by omega)) rfl rfl dX11_keeps_75 (fun H locs hP hD hS => ?_)
                have Rg_42_0 : Rp (upd g_30 z_39.toNatClampNeg z_41) := (Rp.put hg_33 (fun h1 h2 h3 => by have c1 := o_cl (rfl : z_39.toInt = z_39.toInt) (by omega); have c2 := o_cl (rfl : z_40.toInt = z_40.toInt) (by omega); have h9 := hR6 z_40.toNatClampNeg (by omega) (by omega); rw [← ez_41] at h9; omega))
                have Rg_42_1 : Rw (upd g_30 z_39.toNatClampNeg z_41) := (Rw.put hg_34 (fun h1 h2 h3 => by have c1 := o_cl (rfl : z_39.toInt = z_39.toInt) (by omega); have c2 := o_cl (rfl : z_40.toInt = z_40.toInt) (by omega); have h9 := hR8 z_40.toNatClampNeg (by omega) (by omega); rw [← ez_41] at h9; omega))
                generalize upd g_30 z_39.toNatClampNeg z_41 = g_42 at hP hD Rg_42_0 Rg_42_1
                have hP : va_P D vwCl [(q, oC11 q_thrown q_tape_ q_length q_size q_p q_limit q_s_ q_h_ q_read_ q_names_ q_reserved_ q_token q_at q_span q_number q_fault q_faultAt q_word q_got q_lines q_onces q_webs q_one q_two q_seed q_undone_ q_before_ 7 q_far_ q_wayRow_ q_wayMany q_keptRow_ q_askedRow_ q_rares_ q_trial_ q_keptMany q_askedMany q_hangs_ q_paths_ q_tornSteps q_hasTorn q_turnOne q_hasTurn q_text_ q_textMany q_toldMany q_toldAt_ q_hasTold q_stack_ q_codes q_ones q_top q_deep q_isWhole q_truths_ q_imaged_ q_namesKept_ q_areKept_), (q_s_, aC1 cy 383 q_s), (q_undone_, aC1 cy 784 g_42)] H := hP
                have hD : va_D A [(q, oC11 q_thrown q_tape_ q_length q_size q_p q_limit q_s_ q_h_ q_read_ q_names_ q_reserved_ q_token q_at q_span q_number q_fault q_faultAt q_word q_got q_lines q_onces q_webs q_one q_two q_seed q_undone_ q_before_ 7 q_far_ q_wayRow_ q_wayMany q_keptRow_ q_askedRow_ q_rares_ q_trial_ q_keptMany q_askedMany q_hangs_ q_paths_ q_tornSteps q_hasTorn q_turnOne q_hasTurn q_text_ q_textMany q_toldMany q_toldAt_ q_hasTold q_stack_ q_codes q_ones q_top q_deep q_isWhole q_truths_ q_imaged_ q_namesKept_ q_areKept_), (q_s_, aC1 cy 383 q_s), (q_undone_, aC1 cy 784 g_42)] := hD
                obtain ⟨z_43, hz_43⟩ : ∃ z : Int32, z = x_29 + 1 := ⟨_, rfl⟩
                refine lv_iinc (v := z_43) (lv' := [(1, .int z_43), (0, .ref q)]) hx hb dX11_keeps_76 hl (k := 1) rfl hz_43.symm (by decide) rfl (fun ls hl => ?_)
                have hz_43 := o_add hz_43 (rfl : x_29.toInt = x_29.toInt) (by decide : (1 : Int32).toInt = 1) (by omega) (by omega)
                refine lv_goto (tgt := 47) hx hb dX11_keeps_79 (by decide) ?_
                exact ih_36 z_43 g_42 H locs ls (by omega) (by omega) Rg_42_0 Rg_42_1 hP hD hS (lv_sub hl [1, 0] rfl)
          exact lp_47_30 99 (0 : Int32) g_20 H locs ls (by have e0 : (0 : Int32).toInt = 0 := (by decide); omega) (by have e0 : (0 : Int32).toInt = 0 := (by decide); omega) hg_23 hg_24 hP hD hS (lv_sub hl [1, 0] rfl)
        · have hc_28 := o_nle (by decide : (686 : Int32).toInt = 686) (rfl : x_19.toInt = x_19.toInt) c_28
          refine lv_aload_n hx hb dX11_keeps_18 rfl (lv_at hl 0 rfl) ?_
          refine q_get11 (v := .ref q_undone_) C hP 0 25 rfl fT_25 (by decide) kF_RX11_50 rfl dX11_keeps_19 ?_
          refine lv_iload_n hx hb dX11_keeps_22 rfl (lv_at hl 1 rfl) ?_
          refine lv_aload_n hx hb dX11_keeps_23 rfl (lv_at hl 0 rfl) ?_
          refine q_get11 (v := .ref q_undone_) C hP 0 25 rfl fT_25 (by decide) kF_RX11_50 rfl dX11_keeps_24 ?_
          refine lv_iload_n hx hb dX11_keeps_27 rfl (lv_at hl 1 rfl) ?_
          refine lv_bipush (v := 98) hx hb dX11_keeps_28 (by decide) ?_
          refine lv_iadd hx hb dX11_keeps_30 ?_
          refine lv_topi (fun z_44 hz_44 => ?_)
          have hz_44 := o_add hz_44 (rfl : x_19.toInt = x_19.toInt) (by decide : (98 : Int32).toInt = 98) (by omega) (by omega)
          refine q_iald (v := g_20 z_44.toNatClampNeg) C hP 2 rfl (o_in (rfl : z_44.toInt = z_44.toInt) (by omega) (by omega)) rfl dX11_keeps_31 ?_
          refine lv_topi (fun z_45 ez_45 => ?_)
          refine q_iast (g := upd g_20 x_19.toNatClampNeg z_45) (w' := [(q, oC11 q_thrown q_tape_ q_length q_size q_p q_limit q_s_ q_h_ q_read_ q_names_ q_reserved_ q_token q_at q_span q_number q_fault q_faultAt q_word q_got q_lines q_onces q_webs q_one q_two q_seed q_undone_ q_before_ q_undoMany q_far_ q_wayRow_ q_wayMany q_keptRow_ q_askedRow_ q_rares_ q_trial_ q_keptMany q_askedMany q_hangs_ q_paths_ q_tornSteps q_hasTorn q_turnOne q_hasTurn q_text_ q_textMany q_toldMany q_toldAt_ q_hasTold q_stack_ q_codes q_ones q_top q_deep q_isWhole q_truths_ q_imaged_ q_namesKept_ q_areKept_), (q_s_, aC1 cy 383 q_s), (q_undone_, aC1 cy 784 (upd g_20 x_19.toNatClampNeg z_45))]) C hP hD hS 2 rfl (o_in (rfl : x_19.toInt = x_19.toInt) (by omega) (by omega)) rfl rfl dX11_keeps_32 (fun H locs hP hD hS => ?_)
          have Rg_46_0 : Rp (upd g_20 x_19.toNatClampNeg z_45) := (Rp.put hg_23 (fun h1 h2 h3 => by have c1 := o_cl (rfl : x_19.toInt = x_19.toInt) (by omega); have c2 := o_cl (rfl : z_44.toInt = z_44.toInt) (by omega); have h9 := hg_23 z_44.toNatClampNeg (by omega) (by omega) (by omega); rw [← ez_45] at h9; omega))
          have Rg_46_1 : Rw (upd g_20 x_19.toNatClampNeg z_45) := (Rw.put hg_24 (fun h1 h2 h3 => by have c1 := o_cl (rfl : x_19.toInt = x_19.toInt) (by omega); have c2 := o_cl (rfl : z_44.toInt = z_44.toInt) (by omega); have h9 := hg_24 z_44.toNatClampNeg (by omega) (by omega) (by omega); rw [← ez_45] at h9; omega))
          generalize upd g_20 x_19.toNatClampNeg z_45 = g_46 at hP hD Rg_46_0 Rg_46_1
          have hP : va_P D vwCl [(q, oC11 q_thrown q_tape_ q_length q_size q_p q_limit q_s_ q_h_ q_read_ q_names_ q_reserved_ q_token q_at q_span q_number q_fault q_faultAt q_word q_got q_lines q_onces q_webs q_one q_two q_seed q_undone_ q_before_ q_undoMany q_far_ q_wayRow_ q_wayMany q_keptRow_ q_askedRow_ q_rares_ q_trial_ q_keptMany q_askedMany q_hangs_ q_paths_ q_tornSteps q_hasTorn q_turnOne q_hasTurn q_text_ q_textMany q_toldMany q_toldAt_ q_hasTold q_stack_ q_codes q_ones q_top q_deep q_isWhole q_truths_ q_imaged_ q_namesKept_ q_areKept_), (q_s_, aC1 cy 383 q_s), (q_undone_, aC1 cy 784 g_46)] H := hP
          have hD : va_D A [(q, oC11 q_thrown q_tape_ q_length q_size q_p q_limit q_s_ q_h_ q_read_ q_names_ q_reserved_ q_token q_at q_span q_number q_fault q_faultAt q_word q_got q_lines q_onces q_webs q_one q_two q_seed q_undone_ q_before_ q_undoMany q_far_ q_wayRow_ q_wayMany q_keptRow_ q_askedRow_ q_rares_ q_trial_ q_keptMany q_askedMany q_hangs_ q_paths_ q_tornSteps q_hasTorn q_turnOne q_hasTurn q_text_ q_textMany q_toldMany q_toldAt_ q_hasTold q_stack_ q_codes q_ones q_top q_deep q_isWhole q_truths_ q_imaged_ q_namesKept_ q_areKept_), (q_s_, aC1 cy 383 q_s), (q_undone_, aC1 cy 784 g_46)] := hD
          obtain ⟨z_47, hz_47⟩ : ∃ z : Int32, z = x_19 + 1 := ⟨_, rfl⟩
          refine lv_iinc (v := z_47) (lv' := [(1, .int z_47), (0, .ref q)]) hx hb dX11_keeps_33 hl (k := 1) rfl hz_47.symm (by decide) rfl (fun ls hl => ?_)
          have hz_47 := o_add hz_47 (rfl : x_19.toInt = x_19.toInt) (by decide : (1 : Int32).toInt = 1) (by omega) (by omega)
          refine lv_goto (tgt := 11) hx hb dX11_keeps_36 (by decide) ?_
          exact ih_26 z_47 g_46 H locs ls (by omega) (by omega) Rg_46_0 Rg_46_1 hP hD hS (lv_sub hl [1, 0] rfl)
    exact lp_11_20 687 (0 : Int32) q_undone H locs ls (by have e0 : (0 : Int32).toInt = 0 := (by decide); omega) (by have e0 : (0 : Int32).toInt = 0 := (by decide); omega) hR9 hR10 hP hD hS (lv_sub hl [1, 0] rfl)
theorem y_keeps (l : Launch) (D : va_G) (cy : Nat → ClassId) (q : Nat) (q_thrown : Int32) (q_tape_ : Nat) (q_length : Int32) (q_size : Int32) (q_p : Int32) (q_limit : Int32) (q_s_ : Nat) (q_h_ : Nat) (q_read_ : Nat) (q_names_ : Nat) (q_reserved_ : Nat) (q_token : Int32) (q_at : Int32) (q_span : Int32) (q_number : Int32) (q_fault : Int32) (q_faultAt : Int32) (q_word : Int64) (q_got : Int32) (q_lines : Int32) (q_onces : Int32) (q_webs : Int32) (q_one : Int32) (q_two : Int32) (q_seed : Int32) (q_undone_ : Nat) (q_before_ : Nat) (q_undoMany : Int32) (q_far_ : Nat) (q_wayRow_ : Nat) (q_wayMany : Int32) (q_keptRow_ : Nat) (q_askedRow_ : Nat) (q_rares_ : Nat) (q_trial_ : Nat) (q_keptMany : Int32) (q_askedMany : Int32) (q_hangs_ : Nat) (q_paths_ : Nat) (q_tornSteps : Int32) (q_hasTorn : Int32) (q_turnOne : Int32) (q_hasTurn : Int32) (q_text_ : Nat) (q_textMany : Int32) (q_toldMany : Int32) (q_toldAt_ : Nat) (q_hasTold : Int32) (q_stack_ : Nat) (q_codes : Int32) (q_ones : Int32) (q_top : Int32) (q_deep : Int32) (q_isWhole : Int32) (q_truths_ : Nat) (q_imaged_ : Nat) (q_namesKept_ : Nat) (q_areKept_ : Nat) (q_s : Nat → Int32) (q_undone : Nat → Int32) (sz : Nat) (hb0 : 0 ≤ q_length.toInt ∧ q_length.toInt ≤ 940) (hb1 : 0 ≤ q_size.toInt ∧ q_size.toInt ≤ 940) (hb2 : 0 ≤ q_p.toInt ∧ q_p.toInt ≤ 940) (hb3 : 0 ≤ q_limit.toInt ∧ q_limit.toInt ≤ 940) (hb4 : 0 ≤ q_span.toInt ∧ q_span.toInt ≤ 940) (hb5 : 0 ≤ q_number.toInt ∧ q_number.toInt ≤ 8214) (hb6 : (-1) ≤ q_got.toInt ∧ q_got.toInt ≤ 8214) (hb7 : 0 ≤ q_one.toInt ∧ q_one.toInt ≤ 7) (hb8 : 0 ≤ q_two.toInt ∧ q_two.toInt ≤ 7) (hb9 : 0 ≤ q_undoMany.toInt ∧ q_undoMany.toInt ≤ 8) (hb10 : (-1) ≤ q_wayMany.toInt ∧ q_wayMany.toInt ≤ 8) (hb11 : (-1) ≤ q_keptMany.toInt ∧ q_keptMany.toInt ≤ 8) (hb12 : (-1) ≤ q_askedMany.toInt ∧ q_askedMany.toInt ≤ 3) (hb13 : 0 ≤ q_hasTorn.toInt ∧ q_hasTorn.toInt ≤ 1) (hb14 : 0 ≤ q_hasTurn.toInt ∧ q_hasTurn.toInt ≤ 1) (hb15 : 0 ≤ q_textMany.toInt ∧ q_textMany.toInt ≤ 48) (hb16 : 0 ≤ q_toldMany.toInt ∧ q_toldMany.toInt ≤ 40) (hb17 : 0 ≤ q_hasTold.toInt ∧ q_hasTold.toInt ≤ 1) (hb18 : 0 ≤ q_codes.toInt ∧ q_codes.toInt ≤ 40) (hb19 : 0 ≤ q_ones.toInt ∧ q_ones.toInt ≤ 20) (hb20 : 0 ≤ q_top.toInt ∧ q_top.toInt ≤ 40) (hb21 : 0 ≤ q_isWhole.toInt ∧ q_isWhole.toInt ≤ 1) (hR0 : Rg q_s 0 1 0 8) (hR1 : Rg q_s 1 3 0 6) (hR2 : Rg q_s 3 4 1 50) (hR3 : Rg q_s 4 5 1 5) (hR4 : Rg q_s 103 104 0 255) (hR5 : Rg q_s 7 23 0 5) (hR6 : Rg q_s 106 122 0 5) (hR7 : Rg q_s 23 31 0 99) (hR8 : Rg q_s 122 130 0 99) (hR9 : Rp q_undone) (hR10 : Rw q_undone) : MV l yX11_keeps cX11_keeps 2 (Rm 0 0 0 0) D cy [.ref q] sz [(q, oC11 q_thrown q_tape_ q_length q_size q_p q_limit q_s_ q_h_ q_read_ q_names_ q_reserved_ q_token q_at q_span q_number q_fault q_faultAt q_word q_got q_lines q_onces q_webs q_one q_two q_seed q_undone_ q_before_ q_undoMany q_far_ q_wayRow_ q_wayMany q_keptRow_ q_askedRow_ q_rares_ q_trial_ q_keptMany q_askedMany q_hangs_ q_paths_ q_tornSteps q_hasTorn q_turnOne q_hasTurn q_text_ q_textMany q_toldMany q_toldAt_ q_hasTold q_stack_ q_codes q_ones q_top q_deep q_isWhole q_truths_ q_imaged_ q_namesKept_ q_areKept_), (q_s_, aC1 cy 383 q_s), (q_undone_, aC1 cy 784 q_undone)] (fun u : Int32 × (Nat → Int32) => (1 ≤ u.1.toInt ∧ u.1.toInt ≤ 8) ∧ (Rp u.2) ∧ (Rw u.2)) (fun u : Int32 × (Nat → Int32) => [(q, oC11 q_thrown q_tape_ q_length q_size q_p q_limit q_s_ q_h_ q_read_ q_names_ q_reserved_ q_token q_at q_span q_number q_fault q_faultAt q_word q_got q_lines q_onces q_webs q_one q_two q_seed q_undone_ q_before_ u.1 q_far_ q_wayRow_ q_wayMany q_keptRow_ q_askedRow_ q_rares_ q_trial_ q_keptMany q_askedMany q_hangs_ q_paths_ q_tornSteps q_hasTorn q_turnOne q_hasTurn q_text_ q_textMany q_toldMany q_toldAt_ q_hasTold q_stack_ q_codes q_ones q_top q_deep q_isWhole q_truths_ q_imaged_ q_namesKept_ q_areKept_), (q_s_, aC1 cy 383 q_s), (q_undone_, aC1 cy 784 u.2)]) := by
  refine MV.enter (by decide) (Nat.le_of_ble_eq_true rfl) ?_
  intro p e s m below meth c ls A hsz hAe C hP hD hS hl
  exact b_y_keeps l D cy q q_thrown q_tape_ q_length q_size q_p q_limit q_s_ q_h_ q_read_ q_names_ q_reserved_ q_token q_at q_span q_number q_fault q_faultAt q_word q_got q_lines q_onces q_webs q_one q_two q_seed q_undone_ q_before_ q_undoMany q_far_ q_wayRow_ q_wayMany q_keptRow_ q_askedRow_ q_rares_ q_trial_ q_keptMany q_askedMany q_hangs_ q_paths_ q_tornSteps q_hasTorn q_turnOne q_hasTurn q_text_ q_textMany q_toldMany q_toldAt_ q_hasTold q_stack_ q_codes q_ones q_top q_deep q_isWhole q_truths_ q_imaged_ q_namesKept_ q_areKept_ q_s q_undone hb0 hb1 hb2 hb3 hb4 hb5 hb6 hb7 hb8 hb9 hb10 hb11 hb12 hb13 hb14 hb15 hb16 hb17 hb18 hb19 hb20 hb21 hR0 hR1 hR2 hR3 hR4 hR5 hR6 hR7 hR8 hR9 hR10 ⟨Nat.le_of_ble_eq_true rfl, Nat.le_of_ble_eq_true rfl⟩ C rfl _ _ ls hP hD hS hl
set_option maxHeartbeats 4000000 in
set_option maxRecDepth 100000 in
theorem b_y_undo (l : Launch) (D : va_G) (cy : Nat → ClassId) (q : Nat) (q_thrown : Int32) (q_tape_ : Nat) (q_length : Int32) (q_size : Int32) (q_p : Int32) (q_limit : Int32) (q_s_ : Nat) (q_h_ : Nat) (q_read_ : Nat) (q_names_ : Nat) (q_reserved_ : Nat) (q_token : Int32) (q_at : Int32) (q_span : Int32) (q_number : Int32) (q_fault : Int32) (q_faultAt : Int32) (q_word : Int64) (q_got : Int32) (q_lines : Int32) (q_onces : Int32) (q_webs : Int32) (q_one : Int32) (q_two : Int32) (q_seed : Int32) (q_undone_ : Nat) (q_before_ : Nat) (q_undoMany : Int32) (q_far_ : Nat) (q_wayRow_ : Nat) (q_wayMany : Int32) (q_keptRow_ : Nat) (q_askedRow_ : Nat) (q_rares_ : Nat) (q_trial_ : Nat) (q_keptMany : Int32) (q_askedMany : Int32) (q_hangs_ : Nat) (q_paths_ : Nat) (q_tornSteps : Int32) (q_hasTorn : Int32) (q_turnOne : Int32) (q_hasTurn : Int32) (q_text_ : Nat) (q_textMany : Int32) (q_toldMany : Int32) (q_toldAt_ : Nat) (q_hasTold : Int32) (q_stack_ : Nat) (q_codes : Int32) (q_ones : Int32) (q_top : Int32) (q_deep : Int32) (q_isWhole : Int32) (q_truths_ : Nat) (q_imaged_ : Nat) (q_namesKept_ : Nat) (q_areKept_ : Nat) (q_s : Nat → Int32) (q_undone : Nat → Int32) (gs : Nat → Int32) (hb0 : 0 ≤ q_length.toInt ∧ q_length.toInt ≤ 940) (hb1 : 0 ≤ q_size.toInt ∧ q_size.toInt ≤ 940) (hb2 : 0 ≤ q_p.toInt ∧ q_p.toInt ≤ 940) (hb3 : 0 ≤ q_limit.toInt ∧ q_limit.toInt ≤ 940) (hb4 : 0 ≤ q_span.toInt ∧ q_span.toInt ≤ 940) (hb5 : 0 ≤ q_number.toInt ∧ q_number.toInt ≤ 8214) (hb6 : (-1) ≤ q_got.toInt ∧ q_got.toInt ≤ 8214) (hb7 : 0 ≤ q_one.toInt ∧ q_one.toInt ≤ 7) (hb8 : 0 ≤ q_two.toInt ∧ q_two.toInt ≤ 7) (hb9 : 0 ≤ q_undoMany.toInt ∧ q_undoMany.toInt ≤ 8) (hb10 : (-1) ≤ q_wayMany.toInt ∧ q_wayMany.toInt ≤ 8) (hb11 : (-1) ≤ q_keptMany.toInt ∧ q_keptMany.toInt ≤ 8) (hb12 : (-1) ≤ q_askedMany.toInt ∧ q_askedMany.toInt ≤ 3) (hb13 : 0 ≤ q_hasTorn.toInt ∧ q_hasTorn.toInt ≤ 1) (hb14 : 0 ≤ q_hasTurn.toInt ∧ q_hasTurn.toInt ≤ 1) (hb15 : 0 ≤ q_textMany.toInt ∧ q_textMany.toInt ≤ 48) (hb16 : 0 ≤ q_toldMany.toInt ∧ q_toldMany.toInt ≤ 40) (hb17 : 0 ≤ q_hasTold.toInt ∧ q_hasTold.toInt ≤ 1) (hb18 : 0 ≤ q_codes.toInt ∧ q_codes.toInt ≤ 40) (hb19 : 0 ≤ q_ones.toInt ∧ q_ones.toInt ≤ 20) (hb20 : 0 ≤ q_top.toInt ∧ q_top.toInt ≤ 40) (hb21 : 0 ≤ q_isWhole.toInt ∧ q_isWhole.toInt ≤ 1) (hR0 : Rg q_s 0 1 0 8) (hR1 : Rg q_s 1 3 0 6) (hR2 : Rg q_s 3 4 1 50) (hR3 : Rg q_s 4 5 1 5) (hR4 : Rg q_s 103 104 0 255) (hR5 : Rg q_s 7 23 0 5) (hR6 : Rg q_s 106 122 0 5) (hR7 : Rg q_s 23 31 0 99) (hR8 : Rg q_s 122 130 0 99) (hR9 : Sv q_s) (hR10 : F7 q_s gs) (hR11 : Rp q_undone) (hR12 : Rw q_undone) {p : Program} {e : Env} {s : State} {m : MethodId} {args : Array Value} {below : List Frame} {meth : Method} {c : Code} {A : Nat → Prop} {Q : State → Prop} {cells slots : Nat} (hroom : cells ≤ ((Rm 0 0 0 0)).cells ∧ slots ≤ ((Rm 0 0 0 0)).slots) (C : Cx p s m args meth c cX11_undo 2 (some .int) RX11 "undo" D cy A) (hQ : Q = MQ below (va_Qi (fun (r : Int32) (u : Int32 × Int32 × (Nat → Int32)) => ((-1) ≤ r.toInt ∧ r.toInt ≤ 7) ∧ (0 ≤ u.2.1.toInt ∧ u.2.1.toInt ≤ 8) ∧ (Rg u.2.2 0 1 0 8) ∧ (Rg u.2.2 1 3 0 6) ∧ (Rg u.2.2 3 4 1 50) ∧ (Rg u.2.2 4 5 1 5) ∧ (Rg u.2.2 103 104 0 255) ∧ (Rg u.2.2 7 23 0 5) ∧ (Rg u.2.2 106 122 0 5) ∧ (Rg u.2.2 23 31 0 99) ∧ (Rg u.2.2 122 130 0 99) ∧ (Sv u.2.2) ∧ (F7 u.2.2 gs)) (Bx D A (fun u : Int32 × Int32 × (Nat → Int32) => [(q, oC11 u.1 q_tape_ q_length q_size q_p q_limit q_s_ q_h_ q_read_ q_names_ q_reserved_ q_token q_at q_span q_number q_fault q_faultAt q_word q_got q_lines q_onces q_webs q_one q_two q_seed q_undone_ q_before_ u.2.1 q_far_ q_wayRow_ q_wayMany q_keptRow_ q_askedRow_ q_rares_ q_trial_ q_keptMany q_askedMany q_hangs_ q_paths_ q_tornSteps q_hasTorn q_turnOne q_hasTurn q_text_ q_textMany q_toldMany q_toldAt_ q_hasTold q_stack_ q_codes q_ones q_top q_deep q_isWhole q_truths_ q_imaged_ q_namesKept_ q_areKept_), (q_s_, aC1 cy 383 u.2.2), (q_undone_, aC1 cy 784 q_undone)])) A) args s ((Rm 0 0 0 0)).cells ((Rm 0 0 0 0)).slots A) (H : Heap) (locs : List Loc) (ls : Array Slot) (hP : va_P D vwCl [(q, oC11 q_thrown q_tape_ q_length q_size q_p q_limit q_s_ q_h_ q_read_ q_names_ q_reserved_ q_token q_at q_span q_number q_fault q_faultAt q_word q_got q_lines q_onces q_webs q_one q_two q_seed q_undone_ q_before_ q_undoMany q_far_ q_wayRow_ q_wayMany q_keptRow_ q_askedRow_ q_rares_ q_trial_ q_keptMany q_askedMany q_hangs_ q_paths_ q_tornSteps q_hasTorn q_turnOne q_hasTurn q_text_ q_textMany q_toldMany q_toldAt_ q_hasTold q_stack_ q_codes q_ones q_top q_deep q_isWhole q_truths_ q_imaged_ q_namesKept_ q_areKept_), (q_s_, aC1 cy 383 q_s), (q_undone_, aC1 cy 784 q_undone)] H) (hD : va_D A [(q, oC11 q_thrown q_tape_ q_length q_size q_p q_limit q_s_ q_h_ q_read_ q_names_ q_reserved_ q_token q_at q_span q_number q_fault q_faultAt q_word q_got q_lines q_onces q_webs q_one q_two q_seed q_undone_ q_before_ q_undoMany q_far_ q_wayRow_ q_wayMany q_keptRow_ q_askedRow_ q_rares_ q_trial_ q_keptMany q_askedMany q_hangs_ q_paths_ q_tornSteps q_hasTorn q_turnOne q_hasTurn q_text_ q_textMany q_toldMany q_toldAt_ q_hasTold q_stack_ q_codes q_ones q_top q_deep q_isWhole q_truths_ q_imaged_ q_namesKept_ q_areKept_), (q_s_, aC1 cy 383 q_s), (q_undone_, aC1 cy 784 q_undone)]) (hS : va_S A s.heap H locs) (hl : lv_has ls 2 [(0, .ref q)]) : W p l e (Rm 0 0 0 0) s m args below meth c H locs cells slots Q (F0 m 0 ls []) := by
  have hx := C.1
  have hb := C.2.1
  refine lv_aload_n hx hb dX11_undo_0 rfl (lv_at hl 0 rfl) ?_
  refine lv_iconst (v := 0) hx hb dX11_undo_1 (by decide) ?_
  refine q_put11 (v := .int 0) (w' := [(q, oC11 0 q_tape_ q_length q_size q_p q_limit q_s_ q_h_ q_read_ q_names_ q_reserved_ q_token q_at q_span q_number q_fault q_faultAt q_word q_got q_lines q_onces q_webs q_one q_two q_seed q_undone_ q_before_ q_undoMany q_far_ q_wayRow_ q_wayMany q_keptRow_ q_askedRow_ q_rares_ q_trial_ q_keptMany q_askedMany q_hangs_ q_paths_ q_tornSteps q_hasTorn q_turnOne q_hasTurn q_text_ q_textMany q_toldMany q_toldAt_ q_hasTold q_stack_ q_codes q_ones q_top q_deep q_isWhole q_truths_ q_imaged_ q_namesKept_ q_areKept_), (q_s_, aC1 cy 383 q_s), (q_undone_, aC1 cy 784 q_undone)]) C hP hD hS 0 0 rfl fT_0 fy_0 (by decide) kF_RX11_1 rfl rfl (Nat.le_of_ble_eq_true rfl) rfl dX11_undo_2 (fun H locs hP hD hS => ?_)
  refine lv_aload_n hx hb dX11_undo_5 rfl (lv_at hl 0 rfl) ?_
  refine q_get11 (v := .int q_undoMany) C hP 0 27 rfl fT_27 (by decide) kF_RX11_288 rfl dX11_undo_6 ?_
  refine lv_if_ne (tgt := 14) hx hb dX11_undo_9 (by decide) (fun c_1 => ?_) (fun c_1 => ?_)
  · have hc_1 := o_ne (rfl : q_undoMany.toInt = q_undoMany.toInt) (by decide : (0 : Int32).toInt = 0) c_1
    have hnc_1 : 0 ≤ q_undoMany.toInt + (-1) := by rcases Int.lt_or_gt_of_ne hc_1 with h9 | h9 <;> omega
    refine lv_aload_n hx hb dX11_undo_14 rfl (lv_at hl 0 rfl) ?_
    refine lv_dup hx hb dX11_undo_15 rfl ?_
    refine q_get11 (v := .int q_undoMany) C hP 0 27 rfl fT_27 (by decide) kF_RX11_288 rfl dX11_undo_16 ?_
    refine lv_iconst (v := 1) hx hb dX11_undo_19 (by decide) ?_
    refine lv_isub hx hb dX11_undo_20 ?_
    refine lv_topi (fun z_2 hz_2 => ?_)
    have hz_2 := o_sub hz_2 (rfl : q_undoMany.toInt = q_undoMany.toInt) (by decide : (1 : Int32).toInt = 1) (by omega) (by omega)
    refine q_put11 (v := .int z_2) (w' := [(q, oC11 0 q_tape_ q_length q_size q_p q_limit q_s_ q_h_ q_read_ q_names_ q_reserved_ q_token q_at q_span q_number q_fault q_faultAt q_word q_got q_lines q_onces q_webs q_one q_two q_seed q_undone_ q_before_ z_2 q_far_ q_wayRow_ q_wayMany q_keptRow_ q_askedRow_ q_rares_ q_trial_ q_keptMany q_askedMany q_hangs_ q_paths_ q_tornSteps q_hasTorn q_turnOne q_hasTurn q_text_ q_textMany q_toldMany q_toldAt_ q_hasTold q_stack_ q_codes q_ones q_top q_deep q_isWhole q_truths_ q_imaged_ q_namesKept_ q_areKept_), (q_s_, aC1 cy 383 q_s), (q_undone_, aC1 cy 784 q_undone)]) C hP hD hS 0 27 rfl fT_27 fy_27 (by decide) kF_RX11_288 rfl rfl (Nat.le_of_ble_eq_true rfl) rfl dX11_undo_21 (fun H locs hP hD hS => ?_)
    refine lv_iconst (v := 0) hx hb dX11_undo_24 (by decide) ?_
    refine lv_istore_n (lv' := [(1, .int 0), (0, .ref q)]) hx hb dX11_undo_25 rfl hl (by decide) rfl (fun ls hl => ?_)
    have lp_26_4 : ∀ (n_5 : Nat) (x_3 : Int32) (g_4 : Nat → Int32) (H : Heap) (locs : List Loc) (ls : Array Slot), (-1) * x_3.toInt + 98 < (n_5 : Int) → (0 ≤ x_3.toInt ∧ x_3.toInt ≤ 98) → Rg g_4 0 1 0 8 → Rg g_4 1 3 0 6 → Rg g_4 3 4 1 50 → Rg g_4 4 5 1 5 → Rg g_4 103 104 0 255 → Rg g_4 7 23 0 5 → Rg g_4 106 122 0 5 → Rg g_4 23 31 0 99 → Rg g_4 122 130 0 99 → Sv g_4 → F7 g_4 gs → va_P D vwCl [(q, oC11 0 q_tape_ q_length q_size q_p q_limit q_s_ q_h_ q_read_ q_names_ q_reserved_ q_token q_at q_span q_number q_fault q_faultAt q_word q_got q_lines q_onces q_webs q_one q_two q_seed q_undone_ q_before_ z_2 q_far_ q_wayRow_ q_wayMany q_keptRow_ q_askedRow_ q_rares_ q_trial_ q_keptMany q_askedMany q_hangs_ q_paths_ q_tornSteps q_hasTorn q_turnOne q_hasTurn q_text_ q_textMany q_toldMany q_toldAt_ q_hasTold q_stack_ q_codes q_ones q_top q_deep q_isWhole q_truths_ q_imaged_ q_namesKept_ q_areKept_), (q_s_, aC1 cy 383 g_4), (q_undone_, aC1 cy 784 q_undone)] H → va_D A [(q, oC11 0 q_tape_ q_length q_size q_p q_limit q_s_ q_h_ q_read_ q_names_ q_reserved_ q_token q_at q_span q_number q_fault q_faultAt q_word q_got q_lines q_onces q_webs q_one q_two q_seed q_undone_ q_before_ z_2 q_far_ q_wayRow_ q_wayMany q_keptRow_ q_askedRow_ q_rares_ q_trial_ q_keptMany q_askedMany q_hangs_ q_paths_ q_tornSteps q_hasTorn q_turnOne q_hasTurn q_text_ q_textMany q_toldMany q_toldAt_ q_hasTold q_stack_ q_codes q_ones q_top q_deep q_isWhole q_truths_ q_imaged_ q_namesKept_ q_areKept_), (q_s_, aC1 cy 383 g_4), (q_undone_, aC1 cy 784 q_undone)] → va_S A s.heap H locs → lv_has ls 2 [(0, .ref q), (1, .int x_3)] → W p l e (Rm 0 0 0 0) s m args below meth c H locs cells slots Q (F0 m 26 ls []) := by
      intro n_5
      induction n_5 with
      | zero =>
        intro x_3 g_4 H locs ls hm_18 hf_6 hg_7 hg_8 hg_9 hg_10 hg_11 hg_12 hg_13 hg_14 hg_15 hg_16 hg_17 hP hD hS hl
        exact absurd hm_18 (by omega)
      | succ n_5 ih_19 =>
        intro x_3 g_4 H locs ls hm_18 hf_6 hg_7 hg_8 hg_9 hg_10 hg_11 hg_12 hg_13 hg_14 hg_15 hg_16 hg_17 hP hD hS hl
        refine lv_iload_n hx hb dX11_undo_26 rfl (lv_at hl 1 rfl) ?_
        refine lv_bipush (v := 98) hx hb dX11_undo_27 (by decide) ?_
        refine lv_icmp_ge (tgt := 61) hx hb dX11_undo_29 (by decide) (fun c_21 => ?_) (fun c_21 => ?_)
        · have hc_21 := o_le (by decide : (98 : Int32).toInt = 98) (rfl : x_3.toInt = x_3.toInt) c_21
          refine lv_aload_n hx hb dX11_undo_61 rfl (lv_at hl 0 rfl) ?_
          refine q_get11 (v := .int z_2) C hP 0 27 rfl fT_27 (by decide) kF_RX11_288 rfl dX11_undo_62 ?_
          refine o_wq hQ ?_
          exact q_iret (rm := (Rm 0 0 0 0)) C hS (0, z_2, g_4) rfl ⟨(show (-1) ≤ z_2.toInt ∧ z_2.toInt ≤ 7 by omega), (show 0 ≤ z_2.toInt ∧ z_2.toInt ≤ 8 by omega), hg_7, hg_8, hg_9, hg_10, hg_11, hg_12, hg_13, hg_14, hg_15, hg_16, hg_17⟩ (q_subP hP [0, 1, 2] rfl) (hD.sub [0, 1, 2] (by decide) rfl) hroom.1 hroom.2 dX11_undo_65
        · have hc_21 := o_nle (by decide : (98 : Int32).toInt = 98) (rfl : x_3.toInt = x_3.toInt) c_21
          refine lv_aload_n hx hb dX11_undo_32 rfl (lv_at hl 0 rfl) ?_
          refine q_get11 (v := .ref q_s_) C hP 0 6 rfl fT_6 (by decide) kF_RX11_33 rfl dX11_undo_33 ?_
          refine lv_bipush (v := 104) hx hb dX11_undo_36 (by decide) ?_
          refine lv_iload_n hx hb dX11_undo_38 rfl (lv_at hl 1 rfl) ?_
          refine lv_iadd hx hb dX11_undo_39 ?_
          refine lv_topi (fun z_22 hz_22 => ?_)
          have hz_22 := o_add hz_22 (by decide : (104 : Int32).toInt = 104) (rfl : x_3.toInt = x_3.toInt) (by omega) (by omega)
          refine lv_aload_n hx hb dX11_undo_40 rfl (lv_at hl 0 rfl) ?_
          refine q_get11 (v := .ref q_undone_) C hP 0 25 rfl fT_25 (by decide) kF_RX11_50 rfl dX11_undo_41 ?_
          refine lv_bipush (v := 98) hx hb dX11_undo_44 (by decide) ?_
          refine lv_aload_n hx hb dX11_undo_46 rfl (lv_at hl 0 rfl) ?_
          refine q_get11 (v := .int z_2) C hP 0 27 rfl fT_27 (by decide) kF_RX11_288 rfl dX11_undo_47 ?_
          refine lv_imul hx hb dX11_undo_50 ?_
          refine lv_topi (fun z_23 hz_23 => ?_)
          have hz_23 := o_mul hz_23 (by decide : (98 : Int32).toInt = 98) (rfl : z_2.toInt = z_2.toInt) (by omega) (by omega)
          refine lv_iload_n hx hb dX11_undo_51 rfl (lv_at hl 1 rfl) ?_
          refine lv_iadd hx hb dX11_undo_52 ?_
          refine lv_topi (fun z_24 hz_24 => ?_)
          have hz_24 := o_add hz_24 (rfl : z_23.toInt = z_23.toInt) (rfl : x_3.toInt = x_3.toInt) (by omega) (by omega)
          refine q_iald (v := q_undone z_24.toNatClampNeg) C hP 2 rfl (o_in (rfl : z_24.toInt = z_24.toInt) (by omega) (by omega)) rfl dX11_undo_53 ?_
          refine lv_topi (fun z_25 ez_25 => ?_)
          refine q_iast (g := upd g_4 z_22.toNatClampNeg z_25) (w' := [(q, oC11 0 q_tape_ q_length q_size q_p q_limit q_s_ q_h_ q_read_ q_names_ q_reserved_ q_token q_at q_span q_number q_fault q_faultAt q_word q_got q_lines q_onces q_webs q_one q_two q_seed q_undone_ q_before_ z_2 q_far_ q_wayRow_ q_wayMany q_keptRow_ q_askedRow_ q_rares_ q_trial_ q_keptMany q_askedMany q_hangs_ q_paths_ q_tornSteps q_hasTorn q_turnOne q_hasTurn q_text_ q_textMany q_toldMany q_toldAt_ q_hasTold q_stack_ q_codes q_ones q_top q_deep q_isWhole q_truths_ q_imaged_ q_namesKept_ q_areKept_), (q_s_, aC1 cy 383 (upd g_4 z_22.toNatClampNeg z_25)), (q_undone_, aC1 cy 784 q_undone)]) C hP hD hS 1 rfl (o_in (rfl : z_22.toInt = z_22.toInt) (by omega) (by omega)) rfl rfl dX11_undo_54 (fun H locs hP hD hS => ?_)
          have Rg_26_0 := Rg.upd_out (k := z_22.toNatClampNeg) (v := z_25) hg_7 (by have := o_cl (rfl : z_22.toInt = z_22.toInt) (by omega); omega)
          have Rg_26_1 := Rg.upd_out (k := z_22.toNatClampNeg) (v := z_25) hg_8 (by have := o_cl (rfl : z_22.toInt = z_22.toInt) (by omega); omega)
          have Rg_26_2 := Rg.upd_out (k := z_22.toNatClampNeg) (v := z_25) hg_9 (by have := o_cl (rfl : z_22.toInt = z_22.toInt) (by omega); omega)
          have Rg_26_3 := Rg.upd_out (k := z_22.toNatClampNeg) (v := z_25) hg_10 (by have := o_cl (rfl : z_22.toInt = z_22.toInt) (by omega); omega)
          have Rg_26_4 := Rg.upd_out (k := z_22.toNatClampNeg) (v := z_25) hg_11 (by have := o_cl (rfl : z_22.toInt = z_22.toInt) (by omega); omega)
          have Rg_26_5 := Rg.upd_out (k := z_22.toNatClampNeg) (v := z_25) hg_12 (by have := o_cl (rfl : z_22.toInt = z_22.toInt) (by omega); omega)
          have Rg_26_6 := Rg.upd_if (k := z_22.toNatClampNeg) (v := z_25) hg_13 (fun hk => by have c1 := o_cl (rfl : z_22.toInt = z_22.toInt) (by omega); have c2 := o_cl (rfl : z_24.toInt = z_24.toInt) (by omega); have h9 := hR11 z_24.toNatClampNeg (by omega) (by omega) (by omega); rw [← ez_25] at h9; omega)
          have Rg_26_7 := Rg.upd_out (k := z_22.toNatClampNeg) (v := z_25) hg_14 (by have := o_cl (rfl : z_22.toInt = z_22.toInt) (by omega); omega)
          have Rg_26_8 := Rg.upd_if (k := z_22.toNatClampNeg) (v := z_25) hg_15 (fun hk => by have c1 := o_cl (rfl : z_22.toInt = z_22.toInt) (by omega); have c2 := o_cl (rfl : z_24.toInt = z_24.toInt) (by omega); have h9 := hR12 z_24.toNatClampNeg (by omega) (by omega) (by omega); rw [← ez_25] at h9; omega)
          have Rg_26_9 : Sv (upd g_4 z_22.toNatClampNeg z_25) := (Sv.put hg_16 (by have := o_cl (rfl : z_22.toInt = z_22.toInt) (by omega); omega))
          have Rg_26_10 : F7 (upd g_4 z_22.toNatClampNeg z_25) gs := (F7.put hg_17 (by have := o_cl (rfl : z_22.toInt = z_22.toInt) (by omega); omega))
          generalize upd g_4 z_22.toNatClampNeg z_25 = g_26 at hP hD Rg_26_0 Rg_26_1 Rg_26_2 Rg_26_3 Rg_26_4 Rg_26_5 Rg_26_6 Rg_26_7 Rg_26_8 Rg_26_9 Rg_26_10
          have hP : va_P D vwCl [(q, oC11 0 q_tape_ q_length q_size q_p q_limit q_s_ q_h_ q_read_ q_names_ q_reserved_ q_token q_at q_span q_number q_fault q_faultAt q_word q_got q_lines q_onces q_webs q_one q_two q_seed q_undone_ q_before_ z_2 q_far_ q_wayRow_ q_wayMany q_keptRow_ q_askedRow_ q_rares_ q_trial_ q_keptMany q_askedMany q_hangs_ q_paths_ q_tornSteps q_hasTorn q_turnOne q_hasTurn q_text_ q_textMany q_toldMany q_toldAt_ q_hasTold q_stack_ q_codes q_ones q_top q_deep q_isWhole q_truths_ q_imaged_ q_namesKept_ q_areKept_), (q_s_, aC1 cy 383 g_26), (q_undone_, aC1 cy 784 q_undone)] H := hP
          have hD : va_D A [(q, oC11 0 q_tape_ q_length q_size q_p q_limit q_s_ q_h_ q_read_ q_names_ q_reserved_ q_token q_at q_span q_number q_fault q_faultAt q_word q_got q_lines q_onces q_webs q_one q_two q_seed q_undone_ q_before_ z_2 q_far_ q_wayRow_ q_wayMany q_keptRow_ q_askedRow_ q_rares_ q_trial_ q_keptMany q_askedMany q_hangs_ q_paths_ q_tornSteps q_hasTorn q_turnOne q_hasTurn q_text_ q_textMany q_toldMany q_toldAt_ q_hasTold q_stack_ q_codes q_ones q_top q_deep q_isWhole q_truths_ q_imaged_ q_namesKept_ q_areKept_), (q_s_, aC1 cy 383 g_26), (q_undone_, aC1 cy 784 q_undone)] := hD
          obtain ⟨z_27, hz_27⟩ : ∃ z : Int32, z = x_3 + 1 := ⟨_, rfl⟩
          refine lv_iinc (v := z_27) (lv' := [(1, .int z_27), (0, .ref q)]) hx hb dX11_undo_55 hl (k := 1) rfl hz_27.symm (by decide) rfl (fun ls hl => ?_)
          have hz_27 := o_add hz_27 (rfl : x_3.toInt = x_3.toInt) (by decide : (1 : Int32).toInt = 1) (by omega) (by omega)
          refine lv_goto (tgt := 26) hx hb dX11_undo_58 (by decide) ?_
          exact ih_19 z_27 g_26 H locs ls (by omega) (by omega) Rg_26_0 Rg_26_1 Rg_26_2 Rg_26_3 Rg_26_4 Rg_26_5 Rg_26_6 Rg_26_7 Rg_26_8 Rg_26_9 Rg_26_10 hP hD hS (lv_sub hl [1, 0] rfl)
    exact lp_26_4 99 (0 : Int32) q_s H locs ls (by have e0 : (0 : Int32).toInt = 0 := (by decide); omega) (by have e0 : (0 : Int32).toInt = 0 := (by decide); omega) hR0 hR1 hR2 hR3 hR4 hR5 hR6 hR7 hR8 hR9 hR10 hP hD hS (lv_sub hl [1, 0] rfl)
  · have hc_1 := o_eq (rfl : q_undoMany.toInt = q_undoMany.toInt) (by decide : (0 : Int32).toInt = 0) c_1
    refine lv_iconst (v := (-1)) hx hb dX11_undo_12 (by decide) ?_
    refine o_wq hQ ?_
    exact q_iret (rm := (Rm 0 0 0 0)) C hS (0, q_undoMany, q_s) rfl ⟨(show (-1) ≤ ((-1) : Int32).toInt ∧ ((-1) : Int32).toInt ≤ 7 by decide), (show 0 ≤ q_undoMany.toInt ∧ q_undoMany.toInt ≤ 8 by omega), hR0, hR1, hR2, hR3, hR4, hR5, hR6, hR7, hR8, hR9, hR10⟩ (q_subP hP [0, 1, 2] rfl) (hD.sub [0, 1, 2] (by decide) rfl) hroom.1 hroom.2 dX11_undo_13
theorem y_undo (l : Launch) (D : va_G) (cy : Nat → ClassId) (q : Nat) (q_thrown : Int32) (q_tape_ : Nat) (q_length : Int32) (q_size : Int32) (q_p : Int32) (q_limit : Int32) (q_s_ : Nat) (q_h_ : Nat) (q_read_ : Nat) (q_names_ : Nat) (q_reserved_ : Nat) (q_token : Int32) (q_at : Int32) (q_span : Int32) (q_number : Int32) (q_fault : Int32) (q_faultAt : Int32) (q_word : Int64) (q_got : Int32) (q_lines : Int32) (q_onces : Int32) (q_webs : Int32) (q_one : Int32) (q_two : Int32) (q_seed : Int32) (q_undone_ : Nat) (q_before_ : Nat) (q_undoMany : Int32) (q_far_ : Nat) (q_wayRow_ : Nat) (q_wayMany : Int32) (q_keptRow_ : Nat) (q_askedRow_ : Nat) (q_rares_ : Nat) (q_trial_ : Nat) (q_keptMany : Int32) (q_askedMany : Int32) (q_hangs_ : Nat) (q_paths_ : Nat) (q_tornSteps : Int32) (q_hasTorn : Int32) (q_turnOne : Int32) (q_hasTurn : Int32) (q_text_ : Nat) (q_textMany : Int32) (q_toldMany : Int32) (q_toldAt_ : Nat) (q_hasTold : Int32) (q_stack_ : Nat) (q_codes : Int32) (q_ones : Int32) (q_top : Int32) (q_deep : Int32) (q_isWhole : Int32) (q_truths_ : Nat) (q_imaged_ : Nat) (q_namesKept_ : Nat) (q_areKept_ : Nat) (q_s : Nat → Int32) (q_undone : Nat → Int32) (gs : Nat → Int32) (sz : Nat) (hb0 : 0 ≤ q_length.toInt ∧ q_length.toInt ≤ 940) (hb1 : 0 ≤ q_size.toInt ∧ q_size.toInt ≤ 940) (hb2 : 0 ≤ q_p.toInt ∧ q_p.toInt ≤ 940) (hb3 : 0 ≤ q_limit.toInt ∧ q_limit.toInt ≤ 940) (hb4 : 0 ≤ q_span.toInt ∧ q_span.toInt ≤ 940) (hb5 : 0 ≤ q_number.toInt ∧ q_number.toInt ≤ 8214) (hb6 : (-1) ≤ q_got.toInt ∧ q_got.toInt ≤ 8214) (hb7 : 0 ≤ q_one.toInt ∧ q_one.toInt ≤ 7) (hb8 : 0 ≤ q_two.toInt ∧ q_two.toInt ≤ 7) (hb9 : 0 ≤ q_undoMany.toInt ∧ q_undoMany.toInt ≤ 8) (hb10 : (-1) ≤ q_wayMany.toInt ∧ q_wayMany.toInt ≤ 8) (hb11 : (-1) ≤ q_keptMany.toInt ∧ q_keptMany.toInt ≤ 8) (hb12 : (-1) ≤ q_askedMany.toInt ∧ q_askedMany.toInt ≤ 3) (hb13 : 0 ≤ q_hasTorn.toInt ∧ q_hasTorn.toInt ≤ 1) (hb14 : 0 ≤ q_hasTurn.toInt ∧ q_hasTurn.toInt ≤ 1) (hb15 : 0 ≤ q_textMany.toInt ∧ q_textMany.toInt ≤ 48) (hb16 : 0 ≤ q_toldMany.toInt ∧ q_toldMany.toInt ≤ 40) (hb17 : 0 ≤ q_hasTold.toInt ∧ q_hasTold.toInt ≤ 1) (hb18 : 0 ≤ q_codes.toInt ∧ q_codes.toInt ≤ 40) (hb19 : 0 ≤ q_ones.toInt ∧ q_ones.toInt ≤ 20) (hb20 : 0 ≤ q_top.toInt ∧ q_top.toInt ≤ 40) (hb21 : 0 ≤ q_isWhole.toInt ∧ q_isWhole.toInt ≤ 1) (hR0 : Rg q_s 0 1 0 8) (hR1 : Rg q_s 1 3 0 6) (hR2 : Rg q_s 3 4 1 50) (hR3 : Rg q_s 4 5 1 5) (hR4 : Rg q_s 103 104 0 255) (hR5 : Rg q_s 7 23 0 5) (hR6 : Rg q_s 106 122 0 5) (hR7 : Rg q_s 23 31 0 99) (hR8 : Rg q_s 122 130 0 99) (hR9 : Sv q_s) (hR10 : F7 q_s gs) (hR11 : Rp q_undone) (hR12 : Rw q_undone) : MI l yX11_undo cX11_undo 2 (some .int) (Rm 0 0 0 0) D cy [.ref q] sz [(q, oC11 q_thrown q_tape_ q_length q_size q_p q_limit q_s_ q_h_ q_read_ q_names_ q_reserved_ q_token q_at q_span q_number q_fault q_faultAt q_word q_got q_lines q_onces q_webs q_one q_two q_seed q_undone_ q_before_ q_undoMany q_far_ q_wayRow_ q_wayMany q_keptRow_ q_askedRow_ q_rares_ q_trial_ q_keptMany q_askedMany q_hangs_ q_paths_ q_tornSteps q_hasTorn q_turnOne q_hasTurn q_text_ q_textMany q_toldMany q_toldAt_ q_hasTold q_stack_ q_codes q_ones q_top q_deep q_isWhole q_truths_ q_imaged_ q_namesKept_ q_areKept_), (q_s_, aC1 cy 383 q_s), (q_undone_, aC1 cy 784 q_undone)] (fun (r : Int32) (u : Int32 × Int32 × (Nat → Int32)) => ((-1) ≤ r.toInt ∧ r.toInt ≤ 7) ∧ (0 ≤ u.2.1.toInt ∧ u.2.1.toInt ≤ 8) ∧ (Rg u.2.2 0 1 0 8) ∧ (Rg u.2.2 1 3 0 6) ∧ (Rg u.2.2 3 4 1 50) ∧ (Rg u.2.2 4 5 1 5) ∧ (Rg u.2.2 103 104 0 255) ∧ (Rg u.2.2 7 23 0 5) ∧ (Rg u.2.2 106 122 0 5) ∧ (Rg u.2.2 23 31 0 99) ∧ (Rg u.2.2 122 130 0 99) ∧ (Sv u.2.2) ∧ (F7 u.2.2 gs)) (fun u : Int32 × Int32 × (Nat → Int32) => [(q, oC11 u.1 q_tape_ q_length q_size q_p q_limit q_s_ q_h_ q_read_ q_names_ q_reserved_ q_token q_at q_span q_number q_fault q_faultAt q_word q_got q_lines q_onces q_webs q_one q_two q_seed q_undone_ q_before_ u.2.1 q_far_ q_wayRow_ q_wayMany q_keptRow_ q_askedRow_ q_rares_ q_trial_ q_keptMany q_askedMany q_hangs_ q_paths_ q_tornSteps q_hasTorn q_turnOne q_hasTurn q_text_ q_textMany q_toldMany q_toldAt_ q_hasTold q_stack_ q_codes q_ones q_top q_deep q_isWhole q_truths_ q_imaged_ q_namesKept_ q_areKept_), (q_s_, aC1 cy 383 u.2.2), (q_undone_, aC1 cy 784 q_undone)]) := by
  refine MI.enter (by decide) (Nat.le_of_ble_eq_true rfl) ?_
  intro p e s m below meth c ls A hsz hAe C hP hD hS hl
  exact b_y_undo l D cy q q_thrown q_tape_ q_length q_size q_p q_limit q_s_ q_h_ q_read_ q_names_ q_reserved_ q_token q_at q_span q_number q_fault q_faultAt q_word q_got q_lines q_onces q_webs q_one q_two q_seed q_undone_ q_before_ q_undoMany q_far_ q_wayRow_ q_wayMany q_keptRow_ q_askedRow_ q_rares_ q_trial_ q_keptMany q_askedMany q_hangs_ q_paths_ q_tornSteps q_hasTorn q_turnOne q_hasTurn q_text_ q_textMany q_toldMany q_toldAt_ q_hasTold q_stack_ q_codes q_ones q_top q_deep q_isWhole q_truths_ q_imaged_ q_namesKept_ q_areKept_ q_s q_undone gs hb0 hb1 hb2 hb3 hb4 hb5 hb6 hb7 hb8 hb9 hb10 hb11 hb12 hb13 hb14 hb15 hb16 hb17 hb18 hb19 hb20 hb21 hR0 hR1 hR2 hR3 hR4 hR5 hR6 hR7 hR8 hR9 hR10 hR11 hR12 ⟨Nat.le_of_ble_eq_true rfl, Nat.le_of_ble_eq_true rfl⟩ C rfl _ _ ls hP hD hS hl
