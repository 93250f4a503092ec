theorem dX11_keptBy_0 : decode cX11_keptBy 0 = .ok (.aload_n 0, 1) := by decide +kernel
theorem dX11_keptBy_1 : decode cX11_keptBy 1 = .ok (.invokevirtual 376, 3) := by decide +kernel
theorem dX11_keptBy_4 : decode cX11_keptBy 4 = .ok (.iconst 0, 1) := by decide +kernel
theorem dX11_keptBy_5 : decode cX11_keptBy 5 = .ok (.istore 4, 2) := by decide +kernel
theorem dX11_keptBy_7 : decode cX11_keptBy 7 = .ok (.iconst 0, 1) := by decide +kernel
theorem dX11_keptBy_8 : decode cX11_keptBy 8 = .ok (.istore 5, 2) := by decide +kernel
theorem dX11_keptBy_10 : decode cX11_keptBy 10 = .ok (.iload 5, 2) := by decide +kernel
theorem dX11_keptBy_12 : decode cX11_keptBy 12 = .ok (.iload_n 3, 1) := by decide +kernel
theorem dX11_keptBy_13 : decode cX11_keptBy 13 = .ok (.if_icmp .ge 124, 3) := by decide +kernel
theorem dX11_keptBy_137 : decode cX11_keptBy 137 = .ok (.iload 4, 2) := by decide +kernel
theorem dX11_keptBy_139 : decode cX11_keptBy 139 = .ok (.ireturn, 1) := by decide +kernel
theorem dX11_keptBy_16 : decode cX11_keptBy 16 = .ok (.iload_n 1, 1) := by decide +kernel
theorem dX11_keptBy_17 : decode cX11_keptBy 17 = .ok (.iload_n 2, 1) := by decide +kernel
theorem dX11_keptBy_18 : decode cX11_keptBy 18 = .ok (.iload_n 3, 1) := by decide +kernel
theorem dX11_keptBy_19 : decode cX11_keptBy 19 = .ok (.iload 5, 2) := by decide +kernel
theorem dX11_keptBy_21 : decode cX11_keptBy 21 = .ok (.invokestatic 379, 3) := by decide +kernel
theorem dX11_keptBy_24 : decode cX11_keptBy 24 = .ok (.istore 6, 2) := by decide +kernel
theorem dX11_keptBy_26 : decode cX11_keptBy 26 = .ok (.iload 6, 2) := by decide +kernel
theorem dX11_keptBy_28 : decode cX11_keptBy 28 = .ok (.iload_n 2, 1) := by decide +kernel
theorem dX11_keptBy_29 : decode cX11_keptBy 29 = .ok (.iconst 1, 1) := by decide +kernel
theorem dX11_keptBy_30 : decode cX11_keptBy 30 = .ok (.isub, 1) := by decide +kernel
theorem dX11_keptBy_45 : decode cX11_keptBy 45 = .ok (.istore 7, 2) := by decide +kernel
theorem dX11_keptBy_47 : decode cX11_keptBy 47 = .ok (.iload 7, 2) := by decide +kernel
theorem dX11_keptBy_49 : decode cX11_keptBy 49 = .ok (.ifCond .lt 19, 3) := by decide +kernel
theorem dX11_keptBy_68 : decode cX11_keptBy 68 = .ok (.iload 4, 2) := by decide +kernel
theorem dX11_keptBy_70 : decode cX11_keptBy 70 = .ok (.iload 7, 2) := by decide +kernel
theorem dX11_keptBy_80 : decode cX11_keptBy 80 = .ok (.iadd, 1) := by decide +kernel
theorem dX11_keptBy_81 : decode cX11_keptBy 81 = .ok (.istore 4, 2) := by decide +kernel
theorem dX11_keptBy_83 : decode cX11_keptBy 83 = .ok (.aload_n 0, 1) := by decide +kernel
theorem dX11_keptBy_84 : decode cX11_keptBy 84 = .ok (.iload 5, 2) := by decide +kernel
theorem dX11_keptBy_86 : decode cX11_keptBy 86 = .ok (.iload 7, 2) := by decide +kernel
theorem dX11_keptBy_88 : decode cX11_keptBy 88 = .ok (.invokevirtual 383, 3) := by decide +kernel
theorem dX11_keptBy_91 : decode cX11_keptBy 91 = .ok (.iconst 0, 1) := by decide +kernel
theorem dX11_keptBy_92 : decode cX11_keptBy 92 = .ok (.istore 8, 2) := by decide +kernel
theorem dX11_keptBy_94 : decode cX11_keptBy 94 = .ok (.iload 8, 2) := by decide +kernel
theorem dX11_keptBy_96 : decode cX11_keptBy 96 = .ok (.iload_n 2, 1) := by decide +kernel
theorem dX11_keptBy_97 : decode cX11_keptBy 97 = .ok (.iconst 1, 1) := by decide +kernel
theorem dX11_keptBy_98 : decode cX11_keptBy 98 = .ok (.isub, 1) := by decide +kernel
theorem dX11_keptBy_99 : decode cX11_keptBy 99 = .ok (.if_icmp .ge 32, 3) := by decide +kernel
theorem dX11_keptBy_131 : decode cX11_keptBy 131 = .ok (.iinc 5 1, 3) := by decide +kernel
theorem dX11_keptBy_134 : decode cX11_keptBy 134 = .ok (.goto (-124), 3) := by decide +kernel
theorem dX11_keptBy_102 : decode cX11_keptBy 102 = .ok (.aload_n 0, 1) := by decide +kernel
theorem dX11_keptBy_103 : decode cX11_keptBy 103 = .ok (.getfield 74, 3) := by decide +kernel
theorem dX11_keptBy_106 : decode cX11_keptBy 106 = .ok (.aload_n 0, 1) := by decide +kernel
theorem dX11_keptBy_107 : decode cX11_keptBy 107 = .ok (.getfield 71, 3) := by decide +kernel
theorem kF_RX11_71 : Cond.fieldLink RX11 71 "CobwebLibraryModel" "rares" "[I" ∈ gT := List.mem_filter.mpr ⟨List.mem_of_getElem? (i := 1538) (by decide +kernel), by decide +kernel⟩
theorem dX11_keptBy_110 : decode cX11_keptBy 110 = .ok (.iload 8, 2) := by decide +kernel
theorem dX11_keptBy_112 : decode cX11_keptBy 112 = .ok (.iaload, 1) := by decide +kernel
theorem dX11_keptBy_113 : decode cX11_keptBy 113 = .ok (.iaload, 1) := by decide +kernel
theorem dX11_keptBy_114 : decode cX11_keptBy 114 = .ok (.aload_n 0, 1) := by decide +kernel
theorem dX11_keptBy_115 : decode cX11_keptBy 115 = .ok (.getfield 33, 3) := by decide +kernel
theorem dX11_keptBy_118 : decode cX11_keptBy 118 = .ok (.iconst 3, 1) := by decide +kernel
theorem dX11_keptBy_119 : decode cX11_keptBy 119 = .ok (.iaload, 1) := by decide +kernel
theorem dX11_keptBy_120 : decode cX11_keptBy 120 = .ok (.if_icmp .lt 5, 3) := by decide +kernel
theorem dX11_keptBy_125 : decode cX11_keptBy 125 = .ok (.iinc 8 1, 3) := by decide +kernel
theorem dX11_keptBy_128 : decode cX11_keptBy 128 = .ok (.goto (-34), 3) := by decide +kernel
theorem dX11_keptBy_123 : decode cX11_keptBy 123 = .ok (.iconst (-1), 1) := by decide +kernel
theorem dX11_keptBy_124 : decode cX11_keptBy 124 = .ok (.ireturn, 1) := by decide +kernel
theorem dX11_keptBy_72 : decode cX11_keptBy 72 = .ok (.ifCond .lt 7, 3) := by decide +kernel
theorem dX11_keptBy_79 : decode cX11_keptBy 79 = .ok (.iconst 0, 1) := by decide +kernel
theorem dX11_keptBy_52 : decode cX11_keptBy 52 = .ok (.iload 5, 2) := by decide +kernel
theorem dX11_keptBy_54 : decode cX11_keptBy 54 = .ok (.ifCond .ne 14, 3) := by decide +kernel
theorem dX11_keptBy_75 : decode cX11_keptBy 75 = .ok (.iconst 1, 1) := by decide +kernel
theorem dX11_keptBy_76 : decode cX11_keptBy 76 = .ok (.goto 4, 3) := by decide +kernel
theorem dX11_keptBy_57 : decode cX11_keptBy 57 = .ok (.aload_n 0, 1) := by decide +kernel
theorem dX11_keptBy_58 : decode cX11_keptBy 58 = .ok (.iload 7, 2) := by decide +kernel
theorem dX11_keptBy_60 : decode cX11_keptBy 60 = .ok (.invokevirtual 338, 3) := by decide +kernel
theorem dX11_keptBy_63 : decode cX11_keptBy 63 = .ok (.ifCond .eq 5, 3) := by decide +kernel
theorem dX11_keptBy_66 : decode cX11_keptBy 66 = .ok (.iconst (-1), 1) := by decide +kernel
theorem dX11_keptBy_67 : decode cX11_keptBy 67 = .ok (.ireturn, 1) := by decide +kernel
theorem dX11_keptBy_31 : decode cX11_keptBy 31 = .ok (.if_icmp .ge 13, 3) := by decide +kernel
theorem dX11_keptBy_44 : decode cX11_keptBy 44 = .ok (.iconst (-1), 1) := by decide +kernel
theorem dX11_keptBy_34 : decode cX11_keptBy 34 = .ok (.aload_n 0, 1) := by decide +kernel
theorem dX11_keptBy_35 : decode cX11_keptBy 35 = .ok (.getfield 71, 3) := by decide +kernel
theorem dX11_keptBy_38 : decode cX11_keptBy 38 = .ok (.iload 6, 2) := by decide +kernel
theorem dX11_keptBy_40 : decode cX11_keptBy 40 = .ok (.iaload, 1) := by decide +kernel
theorem dX11_keptBy_41 : decode cX11_keptBy 41 = .ok (.goto 4, 3) := by decide +kernel
theorem dX11_keep_0 : decode cX11_keep 0 = .ok (.aload_n 0, 1) := by decide +kernel
theorem dX11_keep_1 : decode cX11_keep 1 = .ok (.iconst 0, 1) := by decide +kernel
theorem dX11_keep_2 : decode cX11_keep 2 = .ok (.putfield 1, 3) := by decide +kernel
theorem dX11_keep_5 : decode cX11_keep 5 = .ok (.iload_n 1, 1) := by decide +kernel
theorem dX11_keep_6 : decode cX11_keep 6 = .ok (.iconst 1, 1) := by decide +kernel
theorem dX11_keep_7 : decode cX11_keep 7 = .ok (.bipush 8, 2) := by decide +kernel
theorem dX11_keep_9 : decode cX11_keep 9 = .ok (.invokestatic 206, 3) := by decide +kernel
theorem dX11_keep_12 : decode cX11_keep 12 = .ok (.ifCond .eq 18, 3) := by decide +kernel
theorem dX11_keep_30 : decode cX11_keep 30 = .ok (.iconst (-1), 1) := by decide +kernel
theorem dX11_keep_31 : decode cX11_keep 31 = .ok (.ireturn, 1) := by decide +kernel
theorem dX11_keep_15 : decode cX11_keep 15 = .ok (.aload_n 0, 1) := by decide +kernel
theorem dX11_keep_16 : decode cX11_keep 16 = .ok (.getfield 33, 3) := by decide +kernel
theorem dX11_keep_19 : decode cX11_keep 19 = .ok (.bipush 104, 2) := by decide +kernel
theorem dX11_keep_21 : decode cX11_keep 21 = .ok (.iaload, 1) := by decide +kernel
theorem dX11_keep_22 : decode cX11_keep 22 = .ok (.iload_n 1, 1) := by decide +kernel
theorem dX11_keep_23 : decode cX11_keep 23 = .ok (.iadd, 1) := by decide +kernel
theorem dX11_keep_24 : decode cX11_keep 24 = .ok (.sipush 400, 3) := by decide +kernel
theorem dX11_keep_27 : decode cX11_keep 27 = .ok (.if_icmp .le 5, 3) := by decide +kernel
theorem dX11_keep_32 : decode cX11_keep 32 = .ok (.iconst 1, 1) := by decide +kernel
theorem dX11_keep_33 : decode cX11_keep 33 = .ok (.istore_n 2, 1) := by decide +kernel
theorem dX11_keep_34 : decode cX11_keep 34 = .ok (.iconst 0, 1) := by decide +kernel
theorem dX11_keep_35 : decode cX11_keep 35 = .ok (.istore_n 3, 1) := by decide +kernel
theorem dX11_keep_36 : decode cX11_keep 36 = .ok (.iload_n 3, 1) := by decide +kernel
theorem dX11_keep_37 : decode cX11_keep 37 = .ok (.aload_n 0, 1) := by decide +kernel
theorem dX11_keep_38 : decode cX11_keep 38 = .ok (.getfield 33, 3) := by decide +kernel
theorem dX11_keep_41 : decode cX11_keep 41 = .ok (.iconst 0, 1) := by decide +kernel
theorem dX11_keep_42 : decode cX11_keep 42 = .ok (.iaload, 1) := by decide +kernel
theorem dX11_keep_43 : decode cX11_keep 43 = .ok (.if_icmp .ge 38, 3) := by decide +kernel
theorem dX11_keep_81 : decode cX11_keep 81 = .ok (.iconst (-1), 1) := by decide +kernel
theorem dX11_keep_82 : decode cX11_keep 82 = .ok (.istore_n 3, 1) := by decide +kernel
theorem dX11_keep_83 : decode cX11_keep 83 = .ok (.ldc_w 366, 3) := by decide +kernel
theorem dX11_keep_86 : decode cX11_keep 86 = .ok (.istore 4, 2) := by decide +kernel
theorem dX11_keep_88 : decode cX11_keep 88 = .ok (.iconst 0, 1) := by decide +kernel
theorem dX11_keep_89 : decode cX11_keep 89 = .ok (.istore 5, 2) := by decide +kernel
theorem dX11_keep_91 : decode cX11_keep 91 = .ok (.iload 5, 2) := by decide +kernel
theorem dX11_keep_93 : decode cX11_keep 93 = .ok (.iload_n 2, 1) := by decide +kernel
theorem dX11_keep_94 : decode cX11_keep 94 = .ok (.iload_n 1, 1) := by decide +kernel
theorem dX11_keep_95 : decode cX11_keep 95 = .ok (.invokestatic 387, 3) := by decide +kernel
theorem kwS_X11_power : MwS yX11_power cX11_power 4 (some .int) 2 := ⟨List.mem_filter.mpr ⟨List.mem_of_getElem? (i := 1959) (by decide +kernel), by decide +kernel⟩, List.mem_filter.mpr ⟨List.mem_of_getElem? (i := 1958) (by decide +kernel), by decide +kernel⟩, List.mem_filter.mpr ⟨List.mem_of_getElem? (i := 139) (by decide +kernel), by decide +kernel⟩, by decide +kernel⟩
theorem kM_RX11_387 : Cond.methodLink RX11 387 yX11_power ∈ gT := List.mem_filter.mpr ⟨List.mem_of_getElem? (i := 1957) (by decide +kernel), by decide +kernel⟩
theorem dX11_keep_98 : decode cX11_keep 98 = .ok (.if_icmp .ge 41, 3) := by decide +kernel
theorem dX11_keep_139 : decode cX11_keep 139 = .ok (.iload_n 3, 1) := by decide +kernel
theorem dX11_keep_140 : decode cX11_keep 140 = .ok (.ifCond .ge 5, 3) := by decide +kernel
theorem dX11_keep_145 : decode cX11_keep 145 = .ok (.aload_n 0, 1) := by decide +kernel
theorem dX11_keep_146 : decode cX11_keep 146 = .ok (.iload_n 1, 1) := by decide +kernel
theorem dX11_keep_147 : decode cX11_keep 147 = .ok (.putfield 77, 3) := by decide +kernel
theorem dX11_keep_150 : decode cX11_keep 150 = .ok (.iconst 0, 1) := by decide +kernel
theorem dX11_keep_151 : decode cX11_keep 151 = .ok (.istore 5, 2) := by decide +kernel
theorem dX11_keep_153 : decode cX11_keep 153 = .ok (.iload 5, 2) := by decide +kernel
theorem dX11_keep_155 : decode cX11_keep 155 = .ok (.iload_n 1, 1) := by decide +kernel
theorem dX11_keep_156 : decode cX11_keep 156 = .ok (.if_icmp .ge 45, 3) := by decide +kernel
theorem dX11_keep_201 : decode cX11_keep 201 = .ok (.iload 4, 2) := by decide +kernel
theorem dX11_keep_203 : decode cX11_keep 203 = .ok (.ireturn, 1) := by decide +kernel
theorem dX11_keep_159 : decode cX11_keep 159 = .ok (.iload_n 3, 1) := by decide +kernel
theorem dX11_keep_160 : decode cX11_keep 160 = .ok (.iload_n 2, 1) := by decide +kernel
theorem dX11_keep_161 : decode cX11_keep 161 = .ok (.iload_n 1, 1) := by decide +kernel
theorem dX11_keep_162 : decode cX11_keep 162 = .ok (.iload 5, 2) := by decide +kernel
theorem dX11_keep_164 : decode cX11_keep 164 = .ok (.invokestatic 379, 3) := by decide +kernel
theorem dX11_keep_167 : decode cX11_keep 167 = .ok (.istore 6, 2) := by decide +kernel
theorem dX11_keep_169 : decode cX11_keep 169 = .ok (.aload_n 0, 1) := by decide +kernel
theorem dX11_keep_170 : decode cX11_keep 170 = .ok (.getfield 65, 3) := by decide +kernel
theorem dX11_keep_173 : decode cX11_keep 173 = .ok (.iload 5, 2) := by decide +kernel
theorem dX11_keep_175 : decode cX11_keep 175 = .ok (.iload 6, 2) := by decide +kernel
theorem dX11_keep_177 : decode cX11_keep 177 = .ok (.iload_n 2, 1) := by decide +kernel
theorem dX11_keep_178 : decode cX11_keep 178 = .ok (.iconst 1, 1) := by decide +kernel
theorem dX11_keep_179 : decode cX11_keep 179 = .ok (.isub, 1) := by decide +kernel
theorem dX11_keep_180 : decode cX11_keep 180 = .ok (.if_icmp .ge 13, 3) := by decide +kernel
theorem dX11_keep_193 : decode cX11_keep 193 = .ok (.iconst (-1), 1) := by decide +kernel
theorem dX11_keep_194 : decode cX11_keep 194 = .ok (.iastore, 1) := by decide +kernel
theorem dX11_keep_195 : decode cX11_keep 195 = .ok (.iinc 5 1, 3) := by decide +kernel
theorem dX11_keep_198 : decode cX11_keep 198 = .ok (.goto (-45), 3) := by decide +kernel
theorem dX11_keep_183 : decode cX11_keep 183 = .ok (.aload_n 0, 1) := by decide +kernel
theorem dX11_keep_184 : decode cX11_keep 184 = .ok (.getfield 71, 3) := by decide +kernel
theorem dX11_keep_187 : decode cX11_keep 187 = .ok (.iload 6, 2) := by decide +kernel
theorem dX11_keep_189 : decode cX11_keep 189 = .ok (.iaload, 1) := by decide +kernel
theorem dX11_keep_190 : decode cX11_keep 190 = .ok (.goto 4, 3) := by decide +kernel
theorem dX11_keep_143 : decode cX11_keep 143 = .ok (.iconst (-1), 1) := by decide +kernel
theorem dX11_keep_144 : decode cX11_keep 144 = .ok (.ireturn, 1) := by decide +kernel
theorem dX11_keep_101 : decode cX11_keep 101 = .ok (.aload_n 0, 1) := by decide +kernel
theorem dX11_keep_102 : decode cX11_keep 102 = .ok (.iload 5, 2) := by decide +kernel
theorem dX11_keep_104 : decode cX11_keep 104 = .ok (.iload_n 2, 1) := by decide +kernel
theorem dX11_keep_105 : decode cX11_keep 105 = .ok (.iload_n 1, 1) := by decide +kernel
theorem dX11_keep_106 : decode cX11_keep 106 = .ok (.invokevirtual 390, 3) := by decide +kernel
theorem kwV_X11_keptBy : MwV RX11 yX11_keptBy cX11_keptBy 9 (some .int) 3 := ⟨List.mem_filter.mpr ⟨List.mem_of_getElem? (i := 1963) (by decide +kernel), by decide +kernel⟩, List.mem_filter.mpr ⟨List.mem_of_getElem? (i := 1962) (by decide +kernel), by decide +kernel⟩, List.mem_filter.mpr ⟨List.mem_of_getElem? (i := 100) (by decide +kernel), by decide +kernel⟩, List.mem_filter.mpr ⟨List.mem_of_getElem? (i := 139) (by decide +kernel), by decide +kernel⟩, by decide +kernel⟩
theorem kM_RX11_390 : Cond.methodLink RX11 390 yX11_keptBy ∈ gT := List.mem_filter.mpr ⟨List.mem_of_getElem? (i := 1960) (by decide +kernel), by decide +kernel⟩
theorem dX11_keep_109 : decode cX11_keep 109 = .ok (.istore 6, 2) := by decide +kernel
theorem dX11_keep_111 : decode cX11_keep 111 = .ok (.iload 6, 2) := by decide +kernel
theorem dX11_keep_113 : decode cX11_keep 113 = .ok (.ifCond .lt 20, 3) := by decide +kernel
theorem dX11_keep_133 : decode cX11_keep 133 = .ok (.iinc 5 1, 3) := by decide +kernel
theorem dX11_keep_136 : decode cX11_keep 136 = .ok (.goto (-45), 3) := by decide +kernel
theorem dX11_keep_116 : decode cX11_keep 116 = .ok (.iload 6, 2) := by decide +kernel
theorem dX11_keep_118 : decode cX11_keep 118 = .ok (.iload 4, 2) := by decide +kernel
theorem dX11_keep_120 : decode cX11_keep 120 = .ok (.if_icmp .lt 6, 3) := by decide +kernel
theorem dX11_keep_126 : decode cX11_keep 126 = .ok (.iload 6, 2) := by decide +kernel
theorem dX11_keep_128 : decode cX11_keep 128 = .ok (.istore 4, 2) := by decide +kernel
theorem dX11_keep_130 : decode cX11_keep 130 = .ok (.iload 5, 2) := by decide +kernel
theorem dX11_keep_132 : decode cX11_keep 132 = .ok (.istore_n 3, 1) := by decide +kernel
theorem dX11_keep_123 : decode cX11_keep 123 = .ok (.goto 10, 3) := by decide +kernel
theorem dX11_keep_46 : decode cX11_keep 46 = .ok (.aload_n 0, 1) := by decide +kernel
theorem dX11_keep_47 : decode cX11_keep 47 = .ok (.getfield 33, 3) := by decide +kernel
theorem dX11_keep_50 : decode cX11_keep 50 = .ok (.bipush 103, 2) := by decide +kernel
theorem dX11_keep_52 : decode cX11_keep 52 = .ok (.iaload, 1) := by decide +kernel
theorem dX11_keep_53 : decode cX11_keep 53 = .ok (.iload_n 3, 1) := by decide +kernel
theorem dX11_keep_54 : decode cX11_keep 54 = .ok (.invokestatic 231, 3) := by decide +kernel
theorem dX11_keep_57 : decode cX11_keep 57 = .ok (.ifCond .ne 6, 3) := by decide +kernel
theorem dX11_keep_63 : decode cX11_keep 63 = .ok (.aload_n 0, 1) := by decide +kernel
theorem dX11_keep_64 : decode cX11_keep 64 = .ok (.getfield 71, 3) := by decide +kernel
theorem dX11_keep_67 : decode cX11_keep 67 = .ok (.iload_n 2, 1) := by decide +kernel
theorem dX11_keep_68 : decode cX11_keep 68 = .ok (.iconst 1, 1) := by decide +kernel
theorem dX11_keep_69 : decode cX11_keep 69 = .ok (.isub, 1) := by decide +kernel
theorem dX11_keep_70 : decode cX11_keep 70 = .ok (.iload_n 3, 1) := by decide +kernel
theorem dX11_keep_71 : decode cX11_keep 71 = .ok (.iastore, 1) := by decide +kernel
theorem dX11_keep_72 : decode cX11_keep 72 = .ok (.iinc 2 1, 3) := by decide +kernel
theorem dX11_keep_75 : decode cX11_keep 75 = .ok (.iinc 3 1, 3) := by decide +kernel
theorem dX11_keep_78 : decode cX11_keep 78 = .ok (.goto (-42), 3) := by decide +kernel
theorem dX11_keep_60 : decode cX11_keep 60 = .ok (.goto 15, 3) := by decide +kernel
theorem dX11_isAskedSo_0 : decode cX11_isAskedSo 0 = .ok (.aload_n 0, 1) := by decide +kernel
theorem dX11_isAskedSo_1 : decode cX11_isAskedSo 1 = .ok (.iload_n 1, 1) := by decide +kernel
theorem dX11_isAskedSo_2 : decode cX11_isAskedSo 2 = .ok (.iload_n 2, 1) := by decide +kernel
theorem dX11_isAskedSo_3 : decode cX11_isAskedSo 3 = .ok (.iconst 0, 1) := by decide +kernel
theorem dX11_isAskedSo_4 : decode cX11_isAskedSo 4 = .ok (.invokevirtual 394, 3) := by decide +kernel
theorem dX11_isAskedSo_7 : decode cX11_isAskedSo 7 = .ok (.bipush (-2), 2) := by decide +kernel
theorem dX11_isAskedSo_9 : decode cX11_isAskedSo 9 = .ok (.if_icmp .ne 5, 3) := by decide +kernel
theorem dX11_isAskedSo_14 : decode cX11_isAskedSo 14 = .ok (.aload_n 0, 1) := by decide +kernel
theorem dX11_isAskedSo_15 : decode cX11_isAskedSo 15 = .ok (.invokevirtual 376, 3) := by decide +kernel
theorem dX11_isAskedSo_18 : decode cX11_isAskedSo 18 = .ok (.iconst 0, 1) := by decide +kernel
theorem dX11_isAskedSo_19 : decode cX11_isAskedSo 19 = .ok (.istore_n 3, 1) := by decide +kernel
theorem dX11_isAskedSo_20 : decode cX11_isAskedSo 20 = .ok (.iload_n 3, 1) := by decide +kernel
theorem dX11_isAskedSo_21 : decode cX11_isAskedSo 21 = .ok (.iload_n 2, 1) := by decide +kernel
theorem dX11_isAskedSo_22 : decode cX11_isAskedSo 22 = .ok (.if_icmp .ge 21, 3) := by decide +kernel
theorem dX11_isAskedSo_43 : decode cX11_isAskedSo 43 = .ok (.iconst 1, 1) := by decide +kernel
theorem dX11_isAskedSo_44 : decode cX11_isAskedSo 44 = .ok (.istore_n 3, 1) := by decide +kernel
theorem dX11_isAskedSo_45 : decode cX11_isAskedSo 45 = .ok (.iconst 0, 1) := by decide +kernel
theorem dX11_isAskedSo_46 : decode cX11_isAskedSo 46 = .ok (.istore 4, 2) := by decide +kernel
theorem dX11_isAskedSo_48 : decode cX11_isAskedSo 48 = .ok (.iload 4, 2) := by decide +kernel
theorem dX11_isAskedSo_50 : decode cX11_isAskedSo 50 = .ok (.aload_n 0, 1) := by decide +kernel
theorem dX11_isAskedSo_51 : decode cX11_isAskedSo 51 = .ok (.getfield 18, 3) := by decide +kernel
theorem dX11_isAskedSo_54 : decode cX11_isAskedSo 54 = .ok (.if_icmp .ge 41, 3) := by decide +kernel
theorem dX11_isAskedSo_95 : decode cX11_isAskedSo 95 = .ok (.iload_n 3, 1) := by decide +kernel
theorem dX11_isAskedSo_96 : decode cX11_isAskedSo 96 = .ok (.ireturn, 1) := by decide +kernel
theorem dX11_isAskedSo_57 : decode cX11_isAskedSo 57 = .ok (.iload_n 3, 1) := by decide +kernel
theorem dX11_isAskedSo_58 : decode cX11_isAskedSo 58 = .ok (.ifCond .eq 29, 3) := by decide +kernel
theorem dX11_isAskedSo_87 : decode cX11_isAskedSo 87 = .ok (.iconst 0, 1) := by decide +kernel
theorem dX11_isAskedSo_88 : decode cX11_isAskedSo 88 = .ok (.istore_n 3, 1) := by decide +kernel
theorem dX11_isAskedSo_89 : decode cX11_isAskedSo 89 = .ok (.iinc 4 2, 3) := by decide +kernel
theorem dX11_isAskedSo_92 : decode cX11_isAskedSo 92 = .ok (.goto (-44), 3) := by decide +kernel
theorem dX11_isAskedSo_61 : decode cX11_isAskedSo 61 = .ok (.aload_n 0, 1) := by decide +kernel
theorem dX11_isAskedSo_62 : decode cX11_isAskedSo 62 = .ok (.getfield 74, 3) := by decide +kernel
theorem dX11_isAskedSo_65 : decode cX11_isAskedSo 65 = .ok (.aload_n 0, 1) := by decide +kernel
theorem dX11_isAskedSo_66 : decode cX11_isAskedSo 66 = .ok (.iload 4, 2) := by decide +kernel
theorem dX11_isAskedSo_68 : decode cX11_isAskedSo 68 = .ok (.invokevirtual 397, 3) := by decide +kernel
theorem dX11_isAskedSo_71 : decode cX11_isAskedSo 71 = .ok (.iaload, 1) := by decide +kernel
theorem dX11_isAskedSo_72 : decode cX11_isAskedSo 72 = .ok (.aload_n 0, 1) := by decide +kernel
theorem dX11_isAskedSo_73 : decode cX11_isAskedSo 73 = .ok (.iload 4, 2) := by decide +kernel
theorem dX11_isAskedSo_75 : decode cX11_isAskedSo 75 = .ok (.iconst 1, 1) := by decide +kernel
theorem dX11_isAskedSo_76 : decode cX11_isAskedSo 76 = .ok (.iadd, 1) := by decide +kernel
theorem dX11_isAskedSo_77 : decode cX11_isAskedSo 77 = .ok (.invokevirtual 397, 3) := by decide +kernel
theorem dX11_isAskedSo_80 : decode cX11_isAskedSo 80 = .ok (.if_icmp .ne 7, 3) := by decide +kernel
theorem dX11_isAskedSo_83 : decode cX11_isAskedSo 83 = .ok (.iconst 1, 1) := by decide +kernel
theorem dX11_isAskedSo_84 : decode cX11_isAskedSo 84 = .ok (.goto 4, 3) := by decide +kernel
theorem dX11_isAskedSo_25 : decode cX11_isAskedSo 25 = .ok (.aload_n 0, 1) := by decide +kernel
theorem dX11_isAskedSo_26 : decode cX11_isAskedSo 26 = .ok (.iload_n 3, 1) := by decide +kernel
theorem dX11_isAskedSo_27 : decode cX11_isAskedSo 27 = .ok (.aload_n 0, 1) := by decide +kernel
theorem dX11_isAskedSo_28 : decode cX11_isAskedSo 28 = .ok (.iload_n 1, 1) := by decide +kernel
theorem dX11_isAskedSo_29 : decode cX11_isAskedSo 29 = .ok (.iload_n 2, 1) := by decide +kernel
theorem dX11_isAskedSo_30 : decode cX11_isAskedSo 30 = .ok (.iload_n 3, 1) := by decide +kernel
theorem dX11_isAskedSo_31 : decode cX11_isAskedSo 31 = .ok (.invokevirtual 394, 3) := by decide +kernel
theorem dX11_isAskedSo_34 : decode cX11_isAskedSo 34 = .ok (.invokevirtual 383, 3) := by decide +kernel
theorem dX11_isAskedSo_37 : decode cX11_isAskedSo 37 = .ok (.iinc 3 1, 3) := by decide +kernel
theorem dX11_isAskedSo_40 : decode cX11_isAskedSo 40 = .ok (.goto (-20), 3) := by decide +kernel
theorem dX11_isAskedSo_12 : decode cX11_isAskedSo 12 = .ok (.iconst 0, 1) := by decide +kernel
theorem dX11_isAskedSo_13 : decode cX11_isAskedSo 13 = .ok (.ireturn, 1) := by decide +kernel
set_option maxHeartbeats 4000000 in
set_option maxRecDepth 100000 in
theorem b_y_keptBy (l : Launch) (D : va_G) (cy : Nat → ClassId) (q : Nat) (a : Int32) (b : Int32) (n : Int32) (q_thrown : Int32) (q_tape_ : Nat) (q_length : Int32) (q_size : Int32) (q_p : Int32) (q_limit : Int32) (q_s_ : Nat) (q_h_ : Nat) (q_read_ : Nat) (q_names_ : Nat) (q_reserved_ : Nat) (q_token : Int32) (q_at : Int32) (q_span : Int32) (q_number : Int32) (q_fault : Int32) (q_faultAt : Int32) (q_word : Int64) (q_got : Int32) (q_lines : Int32) (q_onces : Int32) (q_webs : Int32) (q_one : Int32) (q_two : Int32) (q_seed : Int32) (q_undone_ : Nat) (q_before_ : Nat) (q_undoMany : Int32) (q_far_ : Nat) (q_wayRow_ : Nat) (q_wayMany : Int32) (q_keptRow_ : Nat) (q_askedRow_ : Nat) (q_rares_ : Nat) (q_trial_ : Nat) (q_keptMany : Int32) (q_askedMany : Int32) (q_hangs_ : Nat) (q_paths_ : Nat) (q_tornSteps : Int32) (q_hasTorn : Int32) (q_turnOne : Int32) (q_hasTurn : Int32) (q_text_ : Nat) (q_textMany : Int32) (q_toldMany : Int32) (q_toldAt_ : Nat) (q_hasTold : Int32) (q_stack_ : Nat) (q_codes : Int32) (q_ones : Int32) (q_top : Int32) (q_deep : Int32) (q_isWhole : Int32) (q_truths_ : Nat) (q_imaged_ : Nat) (q_namesKept_ : Nat) (q_areKept_ : Nat) (q_s : Nat → Int32) (q_rares : Nat → Int32) (q_trial : Nat → Int32) (hb0 : 0 ≤ q_length.toInt ∧ q_length.toInt ≤ 940) (hb1 : 0 ≤ q_size.toInt ∧ q_size.toInt ≤ 940) (hb2 : 0 ≤ q_p.toInt ∧ q_p.toInt ≤ 940) (hb3 : 0 ≤ q_limit.toInt ∧ q_limit.toInt ≤ 940) (hb4 : 0 ≤ q_span.toInt ∧ q_span.toInt ≤ 940) (hb5 : 0 ≤ q_number.toInt ∧ q_number.toInt ≤ 8214) (hb6 : (-1) ≤ q_got.toInt ∧ q_got.toInt ≤ 8214) (hb7 : 0 ≤ q_one.toInt ∧ q_one.toInt ≤ 7) (hb8 : 0 ≤ q_two.toInt ∧ q_two.toInt ≤ 7) (hb9 : 0 ≤ q_undoMany.toInt ∧ q_undoMany.toInt ≤ 8) (hb10 : (-1) ≤ q_wayMany.toInt ∧ q_wayMany.toInt ≤ 8) (hb11 : (-1) ≤ q_keptMany.toInt ∧ q_keptMany.toInt ≤ 8) (hb12 : (-1) ≤ q_askedMany.toInt ∧ q_askedMany.toInt ≤ 3) (hb13 : 0 ≤ q_hasTorn.toInt ∧ q_hasTorn.toInt ≤ 1) (hb14 : 0 ≤ q_hasTurn.toInt ∧ q_hasTurn.toInt ≤ 1) (hb15 : 0 ≤ q_textMany.toInt ∧ q_textMany.toInt ≤ 48) (hb16 : 0 ≤ q_toldMany.toInt ∧ q_toldMany.toInt ≤ 40) (hb17 : 0 ≤ q_hasTold.toInt ∧ q_hasTold.toInt ≤ 1) (hb18 : 0 ≤ q_codes.toInt ∧ q_codes.toInt ≤ 40) (hb19 : 0 ≤ q_ones.toInt ∧ q_ones.toInt ≤ 20) (hb20 : 0 ≤ q_top.toInt ∧ q_top.toInt ≤ 40) (hb21 : 0 ≤ q_isWhole.toInt ∧ q_isWhole.toInt ≤ 1) (hb22 : 0 ≤ a.toInt) (hb23 : 1 ≤ b.toInt ∧ b.toInt ≤ 4) (hb24 : 1 ≤ n.toInt ∧ n.toInt ≤ 8) (hR0 : Rg q_s 0 1 0 8) (hR1 : Rg q_s 1 3 0 6) (hR2 : Rg q_s 3 4 1 50) (hR3 : Rg q_s 4 5 1 5) (hR4 : Rg q_s 103 104 0 255) (hR5 : Rg q_s 7 23 0 5) (hR6 : Rg q_s 106 122 0 5) (hR7 : Rg q_s 23 31 0 99) (hR8 : Rg q_s 122 130 0 99) (hR9 : Rg q_rares 0 3 0 7) {p : Program} {e : Env} {s : State} {m : MethodId} {args : Array Value} {below : List Frame} {meth : Method} {c : Code} {A : Nat → Prop} {Q : State → Prop} {cells slots : Nat} (hroom : cells ≤ ((Rm 3 65 0 0)).cells ∧ slots ≤ ((Rm 3 65 0 0)).slots) (C : Cx p s m args meth c cX11_keptBy 9 (some .int) RX11 "keptBy" D cy A) (hQ : Q = MQ below (va_Qi (fun (r : Int32) (u : (Nat → Int32)) => True) (Bx D A (fun u : (Nat → Int32) => [(q, oC11 q_thrown q_tape_ q_length q_size q_p q_limit q_s_ q_h_ q_read_ q_names_ q_reserved_ q_token q_at q_span q_number q_fault q_faultAt q_word q_got q_lines q_onces q_webs q_one q_two q_seed q_undone_ q_before_ q_undoMany q_far_ q_wayRow_ q_wayMany q_keptRow_ q_askedRow_ q_rares_ q_trial_ q_keptMany q_askedMany q_hangs_ q_paths_ q_tornSteps q_hasTorn q_turnOne q_hasTurn q_text_ q_textMany q_toldMany q_toldAt_ q_hasTold q_stack_ q_codes q_ones q_top q_deep q_isWhole q_truths_ q_imaged_ q_namesKept_ q_areKept_), (q_s_, aC1 cy 383 q_s), (q_rares_, aC1 cy 3 q_rares), (q_trial_, aC1 cy 8 u)])) A) args s ((Rm 3 65 0 0)).cells ((Rm 3 65 0 0)).slots A) (H : Heap) (locs : List Loc) (ls : Array Slot) (hP : va_P D vwCl [(q, oC11 q_thrown q_tape_ q_length q_size q_p q_limit q_s_ q_h_ q_read_ q_names_ q_reserved_ q_token q_at q_span q_number q_fault q_faultAt q_word q_got q_lines q_onces q_webs q_one q_two q_seed q_undone_ q_before_ q_undoMany q_far_ q_wayRow_ q_wayMany q_keptRow_ q_askedRow_ q_rares_ q_trial_ q_keptMany q_askedMany q_hangs_ q_paths_ q_tornSteps q_hasTorn q_turnOne q_hasTurn q_text_ q_textMany q_toldMany q_toldAt_ q_hasTold q_stack_ q_codes q_ones q_top q_deep q_isWhole q_truths_ q_imaged_ q_namesKept_ q_areKept_), (q_s_, aC1 cy 383 q_s), (q_rares_, aC1 cy 3 q_rares), (q_trial_, aC1 cy 8 q_trial)] H) (hD : va_D A [(q, oC11 q_thrown q_tape_ q_length q_size q_p q_limit q_s_ q_h_ q_read_ q_names_ q_reserved_ q_token q_at q_span q_number q_fault q_faultAt q_word q_got q_lines q_onces q_webs q_one q_two q_seed q_undone_ q_before_ q_undoMany q_far_ q_wayRow_ q_wayMany q_keptRow_ q_askedRow_ q_rares_ q_trial_ q_keptMany q_askedMany q_hangs_ q_paths_ q_tornSteps q_hasTorn q_turnOne q_hasTurn q_text_ q_textMany q_toldMany q_toldAt_ q_hasTold q_stack_ q_codes q_ones q_top q_deep q_isWhole q_truths_ q_imaged_ q_namesKept_ q_areKept_), (q_s_, aC1 cy 383 q_s), (q_rares_, aC1 cy 3 q_rares), (q_trial_, aC1 cy 8 q_trial)]) (hS : va_S A s.heap H locs) (hl : lv_has ls 9 [(0, .ref q), (1, .int a), (2, .int b), (3, .int n)]) : W p l e (Rm 3 65 0 0) s m args below meth c H locs cells slots Q (F0 m 0 ls []) := by
  have hx := C.1
  have hb := C.2.1
  refine lv_aload_n hx hb dX11_keptBy_0 rfl (lv_at hl 0 rfl) ?_
  refine q_av (wr := [(q_rares_, aC1 cy 3 q_rares)]) (r_V (rm := (Rm 0 0 0 0)) (q0 := 0) (As := []) (rest := []) (wc := [(q, oC11 q_thrown q_tape_ q_length q_size q_p q_limit q_s_ q_h_ q_read_ q_names_ q_reserved_ q_token q_at q_span q_number q_fault q_faultAt q_word q_got q_lines q_onces q_webs q_one q_two q_seed q_undone_ q_before_ q_undoMany q_far_ q_wayRow_ q_wayMany q_keptRow_ q_askedRow_ q_rares_ q_trial_ q_keptMany q_askedMany q_hangs_ q_paths_ q_tornSteps q_hasTorn q_turnOne q_hasTurn q_text_ q_textMany q_toldMany q_toldAt_ q_hasTold q_stack_ q_codes q_ones q_top q_deep q_isWhole q_truths_ q_imaged_ q_namesKept_ q_areKept_), (q_s_, aC1 cy 383 q_s), (q_trial_, aC1 cy 8 q_trial)]) C hS (q_subP hP [0, 1, 3] rfl) (hD.sub [0, 1, 3] (by decide) rfl) (y_beginsTrial l D cy q q_thrown q_tape_ q_length q_size q_p q_limit q_s_ q_h_ q_read_ q_names_ q_reserved_ q_token q_at q_span q_number q_fault q_faultAt q_word q_got q_lines q_onces q_webs q_one q_two q_seed q_undone_ q_before_ q_undoMany q_far_ q_wayRow_ q_wayMany q_keptRow_ q_askedRow_ q_rares_ q_trial_ q_keptMany q_askedMany q_hangs_ q_paths_ q_tornSteps q_hasTorn q_turnOne q_hasTurn q_text_ q_textMany q_toldMany q_toldAt_ q_hasTold q_stack_ q_codes q_ones q_top q_deep q_isWhole q_truths_ q_imaged_ q_namesKept_ q_areKept_ q_s q_trial _ (by omega) (by omega) (by omega) (by omega) (by omega) (by omega) (by omega) (by omega) (by omega) (by omega) (by omega) (by omega) (by omega) (by omega) (by omega) (by omega) (by omega) (by omega) (by omega) (by omega) (by omega) (by omega) hR0 hR1 hR2 hR3 hR4 hR5 hR6 hR7 hR8) kwV_X11_beginsTrial kM_RX11_376 rfl rfl ⟨Nat.le_of_ble_eq_true rfl, Nat.le_of_ble_eq_true rfl⟩ rfl hl.1 rfl (Nat.le_of_ble_eq_true rfl) dX11_keptBy_1 ⟨hroom.1, hroom.2⟩) C.2.2.2.2.2.2.1 hP hD hS [0, 1, 3] [2] rfl rfl (by decide) (by decide) (fun u_1 H locs hw_3 hP hD hS => ?_)
  obtain ⟨g_4, rfl⟩ : ∃ z, z = u_1 := ⟨_, rfl⟩
  have hP : va_P D vwCl [(q_rares_, aC1 cy 3 q_rares), (q, oC11 q_thrown q_tape_ q_length q_size q_p q_limit q_s_ q_h_ q_read_ q_names_ q_reserved_ q_token q_at q_span q_number q_fault q_faultAt q_word q_got q_lines q_onces q_webs q_one q_two q_seed q_undone_ q_before_ q_undoMany q_far_ q_wayRow_ q_wayMany q_keptRow_ q_askedRow_ q_rares_ q_trial_ q_keptMany q_askedMany q_hangs_ q_paths_ q_tornSteps q_hasTorn q_turnOne q_hasTurn q_text_ q_textMany q_toldMany q_toldAt_ q_hasTold q_stack_ q_codes q_ones q_top q_deep q_isWhole q_truths_ q_imaged_ q_namesKept_ q_areKept_), (q_s_, aC1 cy 383 q_s), (q_trial_, aC1 cy 8 g_4)] H := hP
  have hD : va_D A [(q_rares_, aC1 cy 3 q_rares), (q, oC11 q_thrown q_tape_ q_length q_size q_p q_limit q_s_ q_h_ q_read_ q_names_ q_reserved_ q_token q_at q_span q_number q_fault q_faultAt q_word q_got q_lines q_onces q_webs q_one q_two q_seed q_undone_ q_before_ q_undoMany q_far_ q_wayRow_ q_wayMany q_keptRow_ q_askedRow_ q_rares_ q_trial_ q_keptMany q_askedMany q_hangs_ q_paths_ q_tornSteps q_hasTorn q_turnOne q_hasTurn q_text_ q_textMany q_toldMany q_toldAt_ q_hasTold q_stack_ q_codes q_ones q_top q_deep q_isWhole q_truths_ q_imaged_ q_namesKept_ q_areKept_), (q_s_, aC1 cy 383 q_s), (q_trial_, aC1 cy 8 g_4)] := hD
  refine lv_iconst (v := 0) hx hb dX11_keptBy_4 (by decide) ?_
  refine lv_istore (lv' := [(4, .int 0), (0, .ref q), (1, .int a), (2, .int b), (3, .int n)]) hx hb dX11_keptBy_5 hl (by decide) rfl (fun ls hl => ?_)
  refine lv_iconst (v := 0) hx hb dX11_keptBy_7 (by decide) ?_
  refine lv_istore (lv' := [(5, .int 0), (4, .int 0), (0, .ref q), (1, .int a), (2, .int b), (3, .int n)]) hx hb dX11_keptBy_8 hl (by decide) rfl (fun ls hl => ?_)
  have lp_10_7 : ∀ (n_8 : Nat) (x_5 : Int32) (x_6 : Int32) (g_7 : Nat → Int32) (H : Heap) (locs : List Loc) (ls : Array Slot), (-1) * x_6.toInt + 8 < (n_8 : Int) → (0 ≤ x_6.toInt ∧ x_6.toInt ≤ 8) → va_P D vwCl [(q_rares_, aC1 cy 3 q_rares), (q, oC11 q_thrown q_tape_ q_length q_size q_p q_limit q_s_ q_h_ q_read_ q_names_ q_reserved_ q_token q_at q_span q_number q_fault q_faultAt q_word q_got q_lines q_onces q_webs q_one q_two q_seed q_undone_ q_before_ q_undoMany q_far_ q_wayRow_ q_wayMany q_keptRow_ q_askedRow_ q_rares_ q_trial_ q_keptMany q_askedMany q_hangs_ q_paths_ q_tornSteps q_hasTorn q_turnOne q_hasTurn q_text_ q_textMany q_toldMany q_toldAt_ q_hasTold q_stack_ q_codes q_ones q_top q_deep q_isWhole q_truths_ q_imaged_ q_namesKept_ q_areKept_), (q_s_, aC1 cy 383 q_s), (q_trial_, aC1 cy 8 g_7)] H → va_D A [(q_rares_, aC1 cy 3 q_rares), (q, oC11 q_thrown q_tape_ q_length q_size q_p q_limit q_s_ q_h_ q_read_ q_names_ q_reserved_ q_token q_at q_span q_number q_fault q_faultAt q_word q_got q_lines q_onces q_webs q_one q_two q_seed q_undone_ q_before_ q_undoMany q_far_ q_wayRow_ q_wayMany q_keptRow_ q_askedRow_ q_rares_ q_trial_ q_keptMany q_askedMany q_hangs_ q_paths_ q_tornSteps q_hasTorn q_turnOne q_hasTurn q_text_ q_textMany q_toldMany q_toldAt_ q_hasTold q_stack_ q_codes q_ones q_top q_deep q_isWhole q_truths_ q_imaged_ q_namesKept_ q_areKept_), (q_s_, aC1 cy 383 q_s), (q_trial_, aC1 cy 8 g_7)] → va_S A s.heap H locs → lv_has ls 9 [(0, .ref q), (1, .int a), (2, .int b), (3, .int n), (4, .int x_5), (5, .int x_6)] → W p l e (Rm 3 65 0 0) s m args below meth c H locs cells slots Q (F0 m 10 ls []) := by
    intro n_8
    induction n_8 with
    | zero =>
      intro x_5 x_6 g_7 H locs ls hm_10 hf_9 hP hD hS hl
      exact absurd hm_10 (by omega)
    | succ n_8 ih_11 =>
      intro x_5 x_6 g_7 H locs ls hm_10 hf_9 hP hD hS hl
      refine lv_iload hx hb dX11_keptBy_10 (lv_at hl 5 rfl) ?_
      refine lv_iload_n hx hb dX11_keptBy_12 rfl (lv_at hl 3 rfl) ?_
      refine lv_icmp_ge (tgt := 137) hx hb dX11_keptBy_13 (by decide) (fun c_13 => ?_) (fun c_13 => ?_)
      · have hc_13 := o_le (rfl : n.toInt = n.toInt) (rfl : x_6.toInt = x_6.toInt) c_13
        refine lv_iload hx hb dX11_keptBy_137 (lv_at hl 4 rfl) ?_
        refine o_wq hQ ?_
        exact q_iret (rm := (Rm 3 65 0 0)) C hS g_7 rfl trivial (q_subP hP [1, 2, 0, 3] rfl) (hD.sub [1, 2, 0, 3] (by decide) rfl) hroom.1 hroom.2 dX11_keptBy_139
      · have hc_13 := o_nle (rfl : n.toInt = n.toInt) (rfl : x_6.toInt = x_6.toInt) c_13
        refine lv_iload_n hx hb dX11_keptBy_16 rfl (lv_at hl 1 rfl) ?_
        refine lv_iload_n hx hb dX11_keptBy_17 rfl (lv_at hl 2 rfl) ?_
        refine lv_iload_n hx hb dX11_keptBy_18 rfl (lv_at hl 3 rfl) ?_
        refine lv_iload hx hb dX11_keptBy_19 (lv_at hl 5 rfl) ?_
        refine q_ai (wr := [(q_rares_, aC1 cy 3 q_rares), (q, oC11 q_thrown q_tape_ q_length q_size q_p q_limit q_s_ q_h_ q_read_ q_names_ q_reserved_ q_token q_at q_span q_number q_fault q_faultAt q_word q_got q_lines q_onces q_webs q_one q_two q_seed q_undone_ q_before_ q_undoMany q_far_ q_wayRow_ q_wayMany q_keptRow_ q_askedRow_ q_rares_ q_trial_ q_keptMany q_askedMany q_hangs_ q_paths_ q_tornSteps q_hasTorn q_turnOne q_hasTurn q_text_ q_textMany q_toldMany q_toldAt_ q_hasTold q_stack_ q_codes q_ones q_top q_deep q_isWhole q_truths_ q_imaged_ q_namesKept_ q_areKept_), (q_s_, aC1 cy 383 q_s), (q_trial_, aC1 cy 8 g_7)]) (r_S (rm := (Rm 0 0 0 0)) (As := [.int a, .int b, .int n, .int x_6]) (rest := []) (wc := []) C hS (q_subP hP [] rfl) (hD.sub [] (by decide) rfl) (y_digit l D cy a b n x_6 _ (by omega) (by omega) (by omega) (by omega)) kwS_X11_digit kM_RX11_379 ⟨Nat.le_of_ble_eq_true rfl, Nat.le_of_ble_eq_true rfl⟩ rfl hl.1 rfl (Nat.le_of_ble_eq_true rfl) dX11_keptBy_21 ⟨hroom.1, hroom.2⟩) C.2.2.2.2.2.2.1 hP hD hS [] [0, 1, 2, 3] rfl rfl (by decide) (by decide) (fun r_15 u_14 H locs hw_16 hP hD hS => ?_)
        have hp_16 : 0 ≤ r_15.toInt ∧ r_15.toInt ≤ 8 := hw_16.1
        have hp_17 : 0 ≤ r_15.toInt ∧ 0 ≤ b.toInt + (-1) * r_15.toInt + (-1) := hw_16.2
        clear hw_16
        refine lv_istore (lv' := [(6, .int r_15), (0, .ref q), (1, .int a), (2, .int b), (3, .int n), (4, .int x_5), (5, .int x_6)]) hx hb dX11_keptBy_24 hl (by decide) rfl (fun ls hl => ?_)
        refine lv_iload hx hb dX11_keptBy_26 (lv_at hl 0 rfl) ?_
        refine lv_iload_n hx hb dX11_keptBy_28 rfl (lv_at hl 3 rfl) ?_
        refine lv_iconst (v := 1) hx hb dX11_keptBy_29 (by decide) ?_
        refine lv_isub hx hb dX11_keptBy_30 ?_
        refine lv_topi (fun z_19 hz_19 => ?_)
        have hz_19 := o_sub hz_19 (rfl : b.toInt = b.toInt) (by decide : (1 : Int32).toInt = 1) (by omega) (by omega)
        have cut_45_20 : ∀ (x_20 : Int32) (H : Heap) (locs : List Loc) (ls : Array Slot), ((-1) ≤ x_20.toInt ∧ x_20.toInt ≤ 7) → va_P D vwCl [(q_rares_, aC1 cy 3 q_rares), (q, oC11 q_thrown q_tape_ q_length q_size q_p q_limit q_s_ q_h_ q_read_ q_names_ q_reserved_ q_token q_at q_span q_number q_fault q_faultAt q_word q_got q_lines q_onces q_webs q_one q_two q_seed q_undone_ q_before_ q_undoMany q_far_ q_wayRow_ q_wayMany q_keptRow_ q_askedRow_ q_rares_ q_trial_ q_keptMany q_askedMany q_hangs_ q_paths_ q_tornSteps q_hasTorn q_turnOne q_hasTurn q_text_ q_textMany q_toldMany q_toldAt_ q_hasTold q_stack_ q_codes q_ones q_top q_deep q_isWhole q_truths_ q_imaged_ q_namesKept_ q_areKept_), (q_s_, aC1 cy 383 q_s), (q_trial_, aC1 cy 8 g_7)] H → va_D A [(q_rares_, aC1 cy 3 q_rares), (q, oC11 q_thrown q_tape_ q_length q_size q_p q_limit q_s_ q_h_ q_read_ q_names_ q_reserved_ q_token q_at q_span q_number q_fault q_faultAt q_word q_got q_lines q_onces q_webs q_one q_two q_seed q_undone_ q_before_ q_undoMany q_far_ q_wayRow_ q_wayMany q_keptRow_ q_askedRow_ q_rares_ q_trial_ q_keptMany q_askedMany q_hangs_ q_paths_ q_tornSteps q_hasTorn q_turnOne q_hasTurn q_text_ q_textMany q_toldMany q_toldAt_ q_hasTold q_stack_ q_codes q_ones q_top q_deep q_isWhole q_truths_ q_imaged_ q_namesKept_ q_areKept_), (q_s_, aC1 cy 383 q_s), (q_trial_, aC1 cy 8 g_7)] → va_S A s.heap H locs → lv_has ls 9 [(0, .ref q), (1, .int a), (2, .int b), (3, .int n), (4, .int x_5), (5, .int x_6)] → W p l e (Rm 3 65 0 0) s m args below meth c H locs cells slots Q (F0 m 45 ls [.int x_20]) := by
          intro x_20 H locs ls hf_21 hP hD hS hl
          refine lv_istore (lv' := [(7, .int x_20), (0, .ref q), (1, .int a), (2, .int b), (3, .int n), (4, .int x_5), (5, .int x_6)]) hx hb dX11_keptBy_45 hl (by decide) rfl (fun ls hl => ?_)
          refine lv_iload hx hb dX11_keptBy_47 (lv_at hl 0 rfl) ?_
          refine lv_if_lt (tgt := 68) hx hb dX11_keptBy_49 (by decide) (fun c_23 => ?_) (fun c_23 => ?_)
          · have hc_23 := o_lt (rfl : x_20.toInt = x_20.toInt) (by decide : (0 : Int32).toInt = 0) c_23
            refine lv_iload hx hb dX11_keptBy_68 (lv_at hl 5 rfl) ?_
            refine lv_iload hx hb dX11_keptBy_70 (lv_at hl 0 rfl) ?_
            have cut_80_24 : ∀ (x_24 : Int32) (H : Heap) (locs : List Loc) (ls : Array Slot), (0 ≤ x_24.toInt ∧ x_24.toInt ≤ 1) → va_P D vwCl [(q_rares_, aC1 cy 3 q_rares), (q, oC11 q_thrown q_tape_ q_length q_size q_p q_limit q_s_ q_h_ q_read_ q_names_ q_reserved_ q_token q_at q_span q_number q_fault q_faultAt q_word q_got q_lines q_onces q_webs q_one q_two q_seed q_undone_ q_before_ q_undoMany q_far_ q_wayRow_ q_wayMany q_keptRow_ q_askedRow_ q_rares_ q_trial_ q_keptMany q_askedMany q_hangs_ q_paths_ q_tornSteps q_hasTorn q_turnOne q_hasTurn q_text_ q_textMany q_toldMany q_toldAt_ q_hasTold q_stack_ q_codes q_ones q_top q_deep q_isWhole q_truths_ q_imaged_ q_namesKept_ q_areKept_), (q_s_, aC1 cy 383 q_s), (q_trial_, aC1 cy 8 g_7)] H → va_D A [(q_rares_, aC1 cy 3 q_rares), (q, oC11 q_thrown q_tape_ q_length q_size q_p q_limit q_s_ q_h_ q_read_ q_names_ q_reserved_ q_token q_at q_span q_number q_fault q_faultAt q_word q_got q_lines q_onces q_webs q_one q_two q_seed q_undone_ q_before_ q_undoMany q_far_ q_wayRow_ q_wayMany q_keptRow_ q_askedRow_ q_rares_ q_trial_ q_keptMany q_askedMany q_hangs_ q_paths_ q_tornSteps q_hasTorn q_turnOne q_hasTurn q_text_ q_textMany q_toldMany q_toldAt_ q_hasTold q_stack_ q_codes q_ones q_top q_deep q_isWhole q_truths_ q_imaged_ q_namesKept_ q_areKept_), (q_s_, aC1 cy 383 q_s), (q_trial_, aC1 cy 8 g_7)] → va_S A s.heap H locs → lv_has ls 9 [(0, .ref q), (1, .int a), (2, .int b), (3, .int n), (5, .int x_6), (7, .int x_20)] → W p l e (Rm 3 65 0 0) s m args below meth c H locs cells slots Q (F0 m 80 ls [.int x_24, .int x_5]) := by
              intro x_24 H locs ls hf_25 hP hD hS hl
              refine lv_iadd hx hb dX11_keptBy_80 ?_
              refine lv_topi (fun z_27 hz_27 => ?_)
              clear hz_27
              refine lv_istore (lv' := [(4, .int z_27), (0, .ref q), (1, .int a), (2, .int b), (3, .int n), (5, .int x_6), (7, .int x_20)]) hx hb dX11_keptBy_81 hl (by decide) rfl (fun ls hl => ?_)
              refine lv_aload_n hx hb dX11_keptBy_83 rfl (lv_at hl 1 rfl) ?_
              refine lv_iload hx hb dX11_keptBy_84 (lv_at hl 5 rfl) ?_
              refine lv_iload hx hb dX11_keptBy_86 (lv_at hl 6 rfl) ?_
              refine q_av (wr := [(q_rares_, aC1 cy 3 q_rares)]) (r_V (rm := (Rm 2 42 0 0)) (q0 := 0) (As := [.int x_6, .int x_20]) (rest := []) (wc := [(q, oC11 q_thrown q_tape_ q_length q_size q_p q_limit q_s_ q_h_ q_read_ q_names_ q_reserved_ q_token q_at q_span q_number q_fault q_faultAt q_word q_got q_lines q_onces q_webs q_one q_two q_seed q_undone_ q_before_ q_undoMany q_far_ q_wayRow_ q_wayMany q_keptRow_ q_askedRow_ q_rares_ q_trial_ q_keptMany q_askedMany q_hangs_ q_paths_ q_tornSteps q_hasTorn q_turnOne q_hasTurn q_text_ q_textMany q_toldMany q_toldAt_ q_hasTold q_stack_ q_codes q_ones q_top q_deep q_isWhole q_truths_ q_imaged_ q_namesKept_ q_areKept_), (q_s_, aC1 cy 383 q_s), (q_trial_, aC1 cy 8 g_7)]) C hS (q_subP hP [1, 2, 3] rfl) (hD.sub [1, 2, 3] (by decide) rfl) (y_spins l D cy q x_6 x_20 q_thrown q_tape_ q_length q_size q_p q_limit q_s_ q_h_ q_read_ q_names_ q_reserved_ q_token q_at q_span q_number q_fault q_faultAt q_word q_got q_lines q_onces q_webs q_one q_two q_seed q_undone_ q_before_ q_undoMany q_far_ q_wayRow_ q_wayMany q_keptRow_ q_askedRow_ q_rares_ q_trial_ q_keptMany q_askedMany q_hangs_ q_paths_ q_tornSteps q_hasTorn q_turnOne q_hasTurn q_text_ q_textMany q_toldMany q_toldAt_ q_hasTold q_stack_ q_codes q_ones q_top q_deep q_isWhole q_truths_ q_imaged_ q_namesKept_ q_areKept_ q_s g_7 _ (by omega) (by omega) (by omega) (by omega) (by omega) (by omega) (by omega) (by omega) (by omega) (by omega) (by omega) (by omega) (by omega) (by omega) (by omega) (by omega) (by omega) (by omega) (by omega) (by omega) (by omega) (by omega) (by omega) hR0 hR1 hR2 hR3 hR4 hR5 hR6 hR7 hR8) kwV_X11_spins kM_RX11_383 rfl rfl ⟨Nat.le_of_ble_eq_true rfl, Nat.le_of_ble_eq_true rfl⟩ rfl hl.1 rfl (Nat.le_of_ble_eq_true rfl) dX11_keptBy_88 ⟨hroom.1, hroom.2⟩) C.2.2.2.2.2.2.1 hP hD hS [1, 2, 3] [0] rfl rfl (by decide) (by decide) (fun u_28 H locs hw_30 hP hD hS => ?_)
              obtain ⟨g_31, rfl⟩ : ∃ z, z = u_28 := ⟨_, rfl⟩
              have hP : va_P D vwCl [(q_rares_, aC1 cy 3 q_rares), (q, oC11 q_thrown q_tape_ q_length q_size q_p q_limit q_s_ q_h_ q_read_ q_names_ q_reserved_ q_token q_at q_span q_number q_fault q_faultAt q_word q_got q_lines q_onces q_webs q_one q_two q_seed q_undone_ q_before_ q_undoMany q_far_ q_wayRow_ q_wayMany q_keptRow_ q_askedRow_ q_rares_ q_trial_ q_keptMany q_askedMany q_hangs_ q_paths_ q_tornSteps q_hasTorn q_turnOne q_hasTurn q_text_ q_textMany q_toldMany q_toldAt_ q_hasTold q_stack_ q_codes q_ones q_top q_deep q_isWhole q_truths_ q_imaged_ q_namesKept_ q_areKept_), (q_s_, aC1 cy 383 q_s), (q_trial_, aC1 cy 8 g_31)] H := hP
              have hD : va_D A [(q_rares_, aC1 cy 3 q_rares), (q, oC11 q_thrown q_tape_ q_length q_size q_p q_limit q_s_ q_h_ q_read_ q_names_ q_reserved_ q_token q_at q_span q_number q_fault q_faultAt q_word q_got q_lines q_onces q_webs q_one q_two q_seed q_undone_ q_before_ q_undoMany q_far_ q_wayRow_ q_wayMany q_keptRow_ q_askedRow_ q_rares_ q_trial_ q_keptMany q_askedMany q_hangs_ q_paths_ q_tornSteps q_hasTorn q_turnOne q_hasTurn q_text_ q_textMany q_toldMany q_toldAt_ q_hasTold q_stack_ q_codes q_ones q_top q_deep q_isWhole q_truths_ q_imaged_ q_namesKept_ q_areKept_), (q_s_, aC1 cy 383 q_s), (q_trial_, aC1 cy 8 g_31)] := hD
              refine lv_iconst (v := 0) hx hb dX11_keptBy_91 (by decide) ?_
              refine lv_istore (lv' := [(8, .int 0), (4, .int z_27), (0, .ref q), (1, .int a), (2, .int b), (3, .int n), (5, .int x_6), (7, .int x_20)]) hx hb dX11_keptBy_92 hl (by decide) rfl (fun ls hl => ?_)
              have lp_94_32 : ∀ (n_33 : Nat) (x_32 : Int32) (H : Heap) (locs : List Loc) (ls : Array Slot), (-1) * x_32.toInt + 3 < (n_33 : Int) → (0 ≤ x_32.toInt ∧ x_32.toInt ≤ 3) → va_P D vwCl [(q_rares_, aC1 cy 3 q_rares), (q, oC11 q_thrown q_tape_ q_length q_size q_p q_limit q_s_ q_h_ q_read_ q_names_ q_reserved_ q_token q_at q_span q_number q_fault q_faultAt q_word q_got q_lines q_onces q_webs q_one q_two q_seed q_undone_ q_before_ q_undoMany q_far_ q_wayRow_ q_wayMany q_keptRow_ q_askedRow_ q_rares_ q_trial_ q_keptMany q_askedMany q_hangs_ q_paths_ q_tornSteps q_hasTorn q_turnOne q_hasTurn q_text_ q_textMany q_toldMany q_toldAt_ q_hasTold q_stack_ q_codes q_ones q_top q_deep q_isWhole q_truths_ q_imaged_ q_namesKept_ q_areKept_), (q_s_, aC1 cy 383 q_s), (q_trial_, aC1 cy 8 g_31)] H → va_D A [(q_rares_, aC1 cy 3 q_rares), (q, oC11 q_thrown q_tape_ q_length q_size q_p q_limit q_s_ q_h_ q_read_ q_names_ q_reserved_ q_token q_at q_span q_number q_fault q_faultAt q_word q_got q_lines q_onces q_webs q_one q_two q_seed q_undone_ q_before_ q_undoMany q_far_ q_wayRow_ q_wayMany q_keptRow_ q_askedRow_ q_rares_ q_trial_ q_keptMany q_askedMany q_hangs_ q_paths_ q_tornSteps q_hasTorn q_turnOne q_hasTurn q_text_ q_textMany q_toldMany q_toldAt_ q_hasTold q_stack_ q_codes q_ones q_top q_deep q_isWhole q_truths_ q_imaged_ q_namesKept_ q_areKept_), (q_s_, aC1 cy 383 q_s), (q_trial_, aC1 cy 8 g_31)] → va_S A s.heap H locs → lv_has ls 9 [(0, .ref q), (1, .int a), (2, .int b), (3, .int n), (4, .int z_27), (5, .int x_6), (8, .int x_32)] → W p l e (Rm 3 65 0 0) s m args below meth c H locs cells slots Q (F0 m 94 ls []) := by
                intro n_33
                induction n_33 with
                | zero =>
                  intro x_32 H locs ls hm_35 hf_34 hP hD hS hl
                  exact absurd hm_35 (by omega)
                | succ n_33 ih_36 =>
                  intro x_32 H locs ls hm_35 hf_34 hP hD hS hl
                  refine lv_iload hx hb dX11_keptBy_94 (lv_at hl 6 rfl) ?_
                  refine lv_iload_n hx hb dX11_keptBy_96 rfl (lv_at hl 2 rfl) ?_
                  refine lv_iconst (v := 1) hx hb dX11_keptBy_97 (by decide) ?_
                  refine lv_isub hx hb dX11_keptBy_98 ?_
                  refine lv_topi (fun z_38 hz_38 => ?_)
                  have hz_38 := o_sub hz_38 (rfl : b.toInt = b.toInt) (by decide : (1 : Int32).toInt = 1) (by omega) (by omega)
                  refine lv_icmp_ge (tgt := 131) hx hb dX11_keptBy_99 (by decide) (fun c_39 => ?_) (fun c_39 => ?_)
                  · have hc_39 := o_le (rfl : z_38.toInt = z_38.toInt) (rfl : x_32.toInt = x_32.toInt) c_39
                    obtain ⟨z_40, hz_40⟩ : ∃ z : Int32, z = x_6 + 1 := ⟨_, rfl⟩
                    refine lv_iinc (v := z_40) (lv' := [(5, .int z_40), (0, .ref q), (1, .int a), (2, .int b), (3, .int n), (4, .int z_27), (8, .int x_32)]) hx hb dX11_keptBy_131 hl (k := 5) rfl hz_40.symm (by decide) rfl (fun ls hl => ?_)
                    have hz_40 := o_add hz_40 (rfl : x_6.toInt = x_6.toInt) (by decide : (1 : Int32).toInt = 1) (by omega) (by omega)
                    refine lv_goto (tgt := 10) hx hb dX11_keptBy_134 (by decide) ?_
                    exact ih_11 z_27 z_40 g_31 H locs ls (by omega) (by omega) hP hD hS (lv_sub hl [1, 2, 3, 4, 5, 0] rfl)
                  · have hc_39 := o_nle (rfl : z_38.toInt = z_38.toInt) (rfl : x_32.toInt = x_32.toInt) c_39
                    refine lv_aload_n hx hb dX11_keptBy_102 rfl (lv_at hl 0 rfl) ?_
                    refine q_get11 (v := .ref q_trial_) C hP 1 34 rfl fT_34 (by decide) kF_RX11_74 rfl dX11_keptBy_103 ?_
                    refine lv_aload_n hx hb dX11_keptBy_106 rfl (lv_at hl 0 rfl) ?_
                    refine q_get11 (v := .ref q_rares_) C hP 1 33 rfl fT_33 (by decide) kF_RX11_71 rfl dX11_keptBy_107 ?_
                    refine lv_iload hx hb dX11_keptBy_110 (lv_at hl 6 rfl) ?_
                    refine q_iald (v := q_rares x_32.toNatClampNeg) C hP 0 rfl (o_in (rfl : x_32.toInt = x_32.toInt) (by omega) (by omega)) rfl dX11_keptBy_112 ?_
                    refine lv_topi (fun z_41 ez_41 => ?_)
                    have hz_41 := Rg.at hR9 ez_41 (by have := o_cl (rfl : x_32.toInt = x_32.toInt) (by omega); omega) (by have := o_cl (rfl : x_32.toInt = x_32.toInt) (by omega); omega)
                    refine q_iald (v := g_31 z_41.toNatClampNeg) C hP 3 rfl (o_in (rfl : z_41.toInt = z_41.toInt) (by omega) (by omega)) rfl dX11_keptBy_113 ?_
                    refine lv_topi (fun z_42 ez_42 => ?_)
                    refine lv_aload_n hx hb dX11_keptBy_114 rfl (lv_at hl 0 rfl) ?_
                    refine q_get11 (v := .ref q_s_) C hP 1 6 rfl fT_6 (by decide) kF_RX11_33 rfl dX11_keptBy_115 ?_
                    refine lv_iconst (v := 3) hx hb dX11_keptBy_118 (by decide) ?_
                    refine q_iald (v := q_s 3) C hP 2 rfl (vin (by decide +kernel)) rfl dX11_keptBy_119 ?_
                    refine lv_topi (fun z_43 ez_43 => ?_)
                    have hz_43 : 1 ≤ z_43.toInt ∧ z_43.toInt ≤ 50 := (by rw [ez_43]; exact hR2 3 (by decide) (by decide))
                    refine lv_icmp_lt (tgt := 125) hx hb dX11_keptBy_120 (by decide) (fun c_44 => ?_) (fun c_44 => ?_)
                    · have hc_44 := o_lt (rfl : z_42.toInt = z_42.toInt) (rfl : z_43.toInt = z_43.toInt) c_44
                      obtain ⟨z_45, hz_45⟩ : ∃ z : Int32, z = x_32 + 1 := ⟨_, rfl⟩
                      refine lv_iinc (v := z_45) (lv' := [(8, .int z_45), (0, .ref q), (1, .int a), (2, .int b), (3, .int n), (4, .int z_27), (5, .int x_6)]) hx hb dX11_keptBy_125 hl (k := 6) rfl hz_45.symm (by decide) rfl (fun ls hl => ?_)
                      have hz_45 := o_add hz_45 (rfl : x_32.toInt = x_32.toInt) (by decide : (1 : Int32).toInt = 1) (by omega) (by omega)
                      refine lv_goto (tgt := 94) hx hb dX11_keptBy_128 (by decide) ?_
                      exact ih_36 z_45 H locs ls (by omega) (by omega) hP hD hS (lv_sub hl [1, 2, 3, 4, 5, 6, 0] rfl)
                    · have hc_44 := o_nlt (rfl : z_42.toInt = z_42.toInt) (rfl : z_43.toInt = z_43.toInt) c_44
                      refine lv_iconst (v := (-1)) hx hb dX11_keptBy_123 (by decide) ?_
                      refine o_wq hQ ?_
                      exact q_iret (rm := (Rm 3 65 0 0)) C hS g_31 rfl trivial (q_subP hP [1, 2, 0, 3] rfl) (hD.sub [1, 2, 0, 3] (by decide) rfl) hroom.1 hroom.2 dX11_keptBy_124
              exact lp_94_32 4 (0 : Int32) H locs ls (by have e0 : (0 : Int32).toInt = 0 := (by decide); omega) (by have e0 : (0 : Int32).toInt = 0 := (by decide); omega) hP hD hS (lv_sub hl [2, 3, 4, 5, 1, 6, 0] rfl)
            refine lv_if_lt (tgt := 79) hx hb dX11_keptBy_72 (by decide) (fun _ => ?_) (fun c_0 => absurd (o_mlt (rfl : x_20.toInt = x_20.toInt) (by decide : (0 : Int32).toInt = 0) (by omega)) c_0)
            refine lv_iconst (v := 0) hx hb dX11_keptBy_79 (by decide) ?_
            exact cut_80_24 (0 : Int32) H locs ls  (by have e0 : (0 : Int32).toInt = 0 := (by decide); omega) hP hD hS (lv_sub hl [1, 2, 3, 4, 6, 0] rfl)
          · have hc_23 := o_nlt (rfl : x_20.toInt = x_20.toInt) (by decide : (0 : Int32).toInt = 0) c_23
            refine lv_iload hx hb dX11_keptBy_52 (lv_at hl 6 rfl) ?_
            refine lv_if_ne (tgt := 68) hx hb dX11_keptBy_54 (by decide) (fun c_46 => ?_) (fun c_46 => ?_)
            · have hc_46 := o_ne (rfl : x_6.toInt = x_6.toInt) (by decide : (0 : Int32).toInt = 0) c_46
              have hnc_46 : 0 ≤ x_6.toInt + (-1) := by rcases Int.lt_or_gt_of_ne hc_46 with h9 | h9 <;> omega
              refine lv_iload hx hb dX11_keptBy_68 (lv_at hl 5 rfl) ?_
              refine lv_iload hx hb dX11_keptBy_70 (lv_at hl 0 rfl) ?_
              have cut_80_47 : ∀ (x_47 : Int32) (H : Heap) (locs : List Loc) (ls : Array Slot), (0 ≤ x_47.toInt ∧ x_47.toInt ≤ 1) → va_P D vwCl [(q_rares_, aC1 cy 3 q_rares), (q, oC11 q_thrown q_tape_ q_length q_size q_p q_limit q_s_ q_h_ q_read_ q_names_ q_reserved_ q_token q_at q_span q_number q_fault q_faultAt q_word q_got q_lines q_onces q_webs q_one q_two q_seed q_undone_ q_before_ q_undoMany q_far_ q_wayRow_ q_wayMany q_keptRow_ q_askedRow_ q_rares_ q_trial_ q_keptMany q_askedMany q_hangs_ q_paths_ q_tornSteps q_hasTorn q_turnOne q_hasTurn q_text_ q_textMany q_toldMany q_toldAt_ q_hasTold q_stack_ q_codes q_ones q_top q_deep q_isWhole q_truths_ q_imaged_ q_namesKept_ q_areKept_), (q_s_, aC1 cy 383 q_s), (q_trial_, aC1 cy 8 g_7)] H → va_D A [(q_rares_, aC1 cy 3 q_rares), (q, oC11 q_thrown q_tape_ q_length q_size q_p q_limit q_s_ q_h_ q_read_ q_names_ q_reserved_ q_token q_at q_span q_number q_fault q_faultAt q_word q_got q_lines q_onces q_webs q_one q_two q_seed q_undone_ q_before_ q_undoMany q_far_ q_wayRow_ q_wayMany q_keptRow_ q_askedRow_ q_rares_ q_trial_ q_keptMany q_askedMany q_hangs_ q_paths_ q_tornSteps q_hasTorn q_turnOne q_hasTurn q_text_ q_textMany q_toldMany q_toldAt_ q_hasTold q_stack_ q_codes q_ones q_top q_deep q_isWhole q_truths_ q_imaged_ q_namesKept_ q_areKept_), (q_s_, aC1 cy 383 q_s), (q_trial_, aC1 cy 8 g_7)] → va_S A s.heap H locs → lv_has ls 9 [(0, .ref q), (1, .int a), (2, .int b), (3, .int n), (5, .int x_6), (7, .int x_20)] → W p l e (Rm 3 65 0 0) s m args below meth c H locs cells slots Q (F0 m 80 ls [.int x_47, .int x_5]) := by
                intro x_47 H locs ls hf_48 hP hD hS hl
                refine lv_iadd hx hb dX11_keptBy_80 ?_
                refine lv_topi (fun z_50 hz_50 => ?_)
                clear hz_50
                refine lv_istore (lv' := [(4, .int z_50), (0, .ref q), (1, .int a), (2, .int b), (3, .int n), (5, .int x_6), (7, .int x_20)]) hx hb dX11_keptBy_81 hl (by decide) rfl (fun ls hl => ?_)
                refine lv_aload_n hx hb dX11_keptBy_83 rfl (lv_at hl 1 rfl) ?_
                refine lv_iload hx hb dX11_keptBy_84 (lv_at hl 5 rfl) ?_
                refine lv_iload hx hb dX11_keptBy_86 (lv_at hl 6 rfl) ?_
                refine q_av (wr := [(q_rares_, aC1 cy 3 q_rares)]) (r_V (rm := (Rm 2 42 0 0)) (q0 := 0) (As := [.int x_6, .int x_20]) (rest := []) (wc := [(q, oC11 q_thrown q_tape_ q_length q_size q_p q_limit q_s_ q_h_ q_read_ q_names_ q_reserved_ q_token q_at q_span q_number q_fault q_faultAt q_word q_got q_lines q_onces q_webs q_one q_two q_seed q_undone_ q_before_ q_undoMany q_far_ q_wayRow_ q_wayMany q_keptRow_ q_askedRow_ q_rares_ q_trial_ q_keptMany q_askedMany q_hangs_ q_paths_ q_tornSteps q_hasTorn q_turnOne q_hasTurn q_text_ q_textMany q_toldMany q_toldAt_ q_hasTold q_stack_ q_codes q_ones q_top q_deep q_isWhole q_truths_ q_imaged_ q_namesKept_ q_areKept_), (q_s_, aC1 cy 383 q_s), (q_trial_, aC1 cy 8 g_7)]) C hS (q_subP hP [1, 2, 3] rfl) (hD.sub [1, 2, 3] (by decide) rfl) (y_spins l D cy q x_6 x_20 q_thrown q_tape_ q_length q_size q_p q_limit q_s_ q_h_ q_read_ q_names_ q_reserved_ q_token q_at q_span q_number q_fault q_faultAt q_word q_got q_lines q_onces q_webs q_one q_two q_seed q_undone_ q_before_ q_undoMany q_far_ q_wayRow_ q_wayMany q_keptRow_ q_askedRow_ q_rares_ q_trial_ q_keptMany q_askedMany q_hangs_ q_paths_ q_tornSteps q_hasTorn q_turnOne q_hasTurn q_text_ q_textMany q_toldMany q_toldAt_ q_hasTold q_stack_ q_codes q_ones q_top q_deep q_isWhole q_truths_ q_imaged_ q_namesKept_ q_areKept_ q_s g_7 _ (by omega) (by omega) (by omega) (by omega) (by omega) (by omega) (by omega) (by omega) (by omega) (by omega) (by omega) (by omega) (by omega) (by omega) (by omega) (by omega) (by omega) (by omega) (by omega) (by omega) (by omega) (by omega) (by omega) hR0 hR1 hR2 hR3 hR4 hR5 hR6 hR7 hR8) kwV_X11_spins kM_RX11_383 rfl rfl ⟨Nat.le_of_ble_eq_true rfl, Nat.le_of_ble_eq_true rfl⟩ rfl hl.1 rfl (Nat.le_of_ble_eq_true rfl) dX11_keptBy_88 ⟨hroom.1, hroom.2⟩) C.2.2.2.2.2.2.1 hP hD hS [1, 2, 3] [0] rfl rfl (by decide) (by decide) (fun u_51 H locs hw_53 hP hD hS => ?_)
                obtain ⟨g_54, rfl⟩ : ∃ z, z = u_51 := ⟨_, rfl⟩
                have hP : va_P D vwCl [(q_rares_, aC1 cy 3 q_rares), (q, oC11 q_thrown q_tape_ q_length q_size q_p q_limit q_s_ q_h_ q_read_ q_names_ q_reserved_ q_token q_at q_span q_number q_fault q_faultAt q_word q_got q_lines q_onces q_webs q_one q_two q_seed q_undone_ q_before_ q_undoMany q_far_ q_wayRow_ q_wayMany q_keptRow_ q_askedRow_ q_rares_ q_trial_ q_keptMany q_askedMany q_hangs_ q_paths_ q_tornSteps q_hasTorn q_turnOne q_hasTurn q_text_ q_textMany q_toldMany q_toldAt_ q_hasTold q_stack_ q_codes q_ones q_top q_deep q_isWhole q_truths_ q_imaged_ q_namesKept_ q_areKept_), (q_s_, aC1 cy 383 q_s), (q_trial_, aC1 cy 8 g_54)] H := hP
                have hD : va_D A [(q_rares_, aC1 cy 3 q_rares), (q, oC11 q_thrown q_tape_ q_length q_size q_p q_limit q_s_ q_h_ q_read_ q_names_ q_reserved_ q_token q_at q_span q_number q_fault q_faultAt q_word q_got q_lines q_onces q_webs q_one q_two q_seed q_undone_ q_before_ q_undoMany q_far_ q_wayRow_ q_wayMany q_keptRow_ q_askedRow_ q_rares_ q_trial_ q_keptMany q_askedMany q_hangs_ q_paths_ q_tornSteps q_hasTorn q_turnOne q_hasTurn q_text_ q_textMany q_toldMany q_toldAt_ q_hasTold q_stack_ q_codes q_ones q_top q_deep q_isWhole q_truths_ q_imaged_ q_namesKept_ q_areKept_), (q_s_, aC1 cy 383 q_s), (q_trial_, aC1 cy 8 g_54)] := hD
                refine lv_iconst (v := 0) hx hb dX11_keptBy_91 (by decide) ?_
                refine lv_istore (lv' := [(8, .int 0), (4, .int z_50), (0, .ref q), (1, .int a), (2, .int b), (3, .int n), (5, .int x_6), (7, .int x_20)]) hx hb dX11_keptBy_92 hl (by decide) rfl (fun ls hl => ?_)
                have lp_94_55 : ∀ (n_56 : Nat) (x_55 : Int32) (H : Heap) (locs : List Loc) (ls : Array Slot), (-1) * x_55.toInt + 3 < (n_56 : Int) → (0 ≤ x_55.toInt ∧ x_55.toInt ≤ 3) → va_P D vwCl [(q_rares_, aC1 cy 3 q_rares), (q, oC11 q_thrown q_tape_ q_length q_size q_p q_limit q_s_ q_h_ q_read_ q_names_ q_reserved_ q_token q_at q_span q_number q_fault q_faultAt q_word q_got q_lines q_onces q_webs q_one q_two q_seed q_undone_ q_before_ q_undoMany q_far_ q_wayRow_ q_wayMany q_keptRow_ q_askedRow_ q_rares_ q_trial_ q_keptMany q_askedMany q_hangs_ q_paths_ q_tornSteps q_hasTorn q_turnOne q_hasTurn q_text_ q_textMany q_toldMany q_toldAt_ q_hasTold q_stack_ q_codes q_ones q_top q_deep q_isWhole q_truths_ q_imaged_ q_namesKept_ q_areKept_), (q_s_, aC1 cy 383 q_s), (q_trial_, aC1 cy 8 g_54)] H → va_D A [(q_rares_, aC1 cy 3 q_rares), (q, oC11 q_thrown q_tape_ q_length q_size q_p q_limit q_s_ q_h_ q_read_ q_names_ q_reserved_ q_token q_at q_span q_number q_fault q_faultAt q_word q_got q_lines q_onces q_webs q_one q_two q_seed q_undone_ q_before_ q_undoMany q_far_ q_wayRow_ q_wayMany q_keptRow_ q_askedRow_ q_rares_ q_trial_ q_keptMany q_askedMany q_hangs_ q_paths_ q_tornSteps q_hasTorn q_turnOne q_hasTurn q_text_ q_textMany q_toldMany q_toldAt_ q_hasTold q_stack_ q_codes q_ones q_top q_deep q_isWhole q_truths_ q_imaged_ q_namesKept_ q_areKept_), (q_s_, aC1 cy 383 q_s), (q_trial_, aC1 cy 8 g_54)] → va_S A s.heap H locs → lv_has ls 9 [(0, .ref q), (1, .int a), (2, .int b), (3, .int n), (4, .int z_50), (5, .int x_6), (8, .int x_55)] → W p l e (Rm 3 65 0 0) s m args below meth c H locs cells slots Q (F0 m 94 ls []) := by
                  intro n_56
                  induction n_56 with
                  | zero =>
                    intro x_55 H locs ls hm_58 hf_57 hP hD hS hl
                    exact absurd hm_58 (by omega)
                  | succ n_56 ih_59 =>
                    intro x_55 H locs ls hm_58 hf_57 hP hD hS hl
                    refine lv_iload hx hb dX11_keptBy_94 (lv_at hl 6 rfl) ?_
                    refine lv_iload_n hx hb dX11_keptBy_96 rfl (lv_at hl 2 rfl) ?_
                    refine lv_iconst (v := 1) hx hb dX11_keptBy_97 (by decide) ?_
                    refine lv_isub hx hb dX11_keptBy_98 ?_
                    refine lv_topi (fun z_61 hz_61 => ?_)
                    have hz_61 := o_sub hz_61 (rfl : b.toInt = b.toInt) (by decide : (1 : Int32).toInt = 1) (by omega) (by omega)
                    refine lv_icmp_ge (tgt := 131) hx hb dX11_keptBy_99 (by decide) (fun c_62 => ?_) (fun c_62 => ?_)
                    · have hc_62 := o_le (rfl : z_61.toInt = z_61.toInt) (rfl : x_55.toInt = x_55.toInt) c_62
                      obtain ⟨z_63, hz_63⟩ : ∃ z : Int32, z = x_6 + 1 := ⟨_, rfl⟩
                      refine lv_iinc (v := z_63) (lv' := [(5, .int z_63), (0, .ref q), (1, .int a), (2, .int b), (3, .int n), (4, .int z_50), (8, .int x_55)]) hx hb dX11_keptBy_131 hl (k := 5) rfl hz_63.symm (by decide) rfl (fun ls hl => ?_)
                      have hz_63 := o_add hz_63 (rfl : x_6.toInt = x_6.toInt) (by decide : (1 : Int32).toInt = 1) (by omega) (by omega)
                      refine lv_goto (tgt := 10) hx hb dX11_keptBy_134 (by decide) ?_
                      exact ih_11 z_50 z_63 g_54 H locs ls (by omega) (by omega) hP hD hS (lv_sub hl [1, 2, 3, 4, 5, 0] rfl)
                    · have hc_62 := o_nle (rfl : z_61.toInt = z_61.toInt) (rfl : x_55.toInt = x_55.toInt) c_62
                      refine lv_aload_n hx hb dX11_keptBy_102 rfl (lv_at hl 0 rfl) ?_
                      refine q_get11 (v := .ref q_trial_) C hP 1 34 rfl fT_34 (by decide) kF_RX11_74 rfl dX11_keptBy_103 ?_
                      refine lv_aload_n hx hb dX11_keptBy_106 rfl (lv_at hl 0 rfl) ?_
                      refine q_get11 (v := .ref q_rares_) C hP 1 33 rfl fT_33 (by decide) kF_RX11_71 rfl dX11_keptBy_107 ?_
                      refine lv_iload hx hb dX11_keptBy_110 (lv_at hl 6 rfl) ?_
                      refine q_iald (v := q_rares x_55.toNatClampNeg) C hP 0 rfl (o_in (rfl : x_55.toInt = x_55.toInt) (by omega) (by omega)) rfl dX11_keptBy_112 ?_
                      refine lv_topi (fun z_64 ez_64 => ?_)
                      have hz_64 := Rg.at hR9 ez_64 (by have := o_cl (rfl : x_55.toInt = x_55.toInt) (by omega); omega) (by have := o_cl (rfl : x_55.toInt = x_55.toInt) (by omega); omega)
                      refine q_iald (v := g_54 z_64.toNatClampNeg) C hP 3 rfl (o_in (rfl : z_64.toInt = z_64.toInt) (by omega) (by omega)) rfl dX11_keptBy_113 ?_
                      refine lv_topi (fun z_65 ez_65 => ?_)
                      refine lv_aload_n hx hb dX11_keptBy_114 rfl (lv_at hl 0 rfl) ?_
                      refine q_get11 (v := .ref q_s_) C hP 1 6 rfl fT_6 (by decide) kF_RX11_33 rfl dX11_keptBy_115 ?_
                      refine lv_iconst (v := 3) hx hb dX11_keptBy_118 (by decide) ?_
                      refine q_iald (v := q_s 3) C hP 2 rfl (vin (by decide +kernel)) rfl dX11_keptBy_119 ?_
                      refine lv_topi (fun z_66 ez_66 => ?_)
                      have hz_66 : 1 ≤ z_66.toInt ∧ z_66.toInt ≤ 50 := (by rw [ez_66]; exact hR2 3 (by decide) (by decide))
                      refine lv_icmp_lt (tgt := 125) hx hb dX11_keptBy_120 (by decide) (fun c_67 => ?_) (fun c_67 => ?_)
                      · have hc_67 := o_lt (rfl : z_65.toInt = z_65.toInt) (rfl : z_66.toInt = z_66.toInt) c_67
                        obtain ⟨z_68, hz_68⟩ : ∃ z : Int32, z = x_55 + 1 := ⟨_, rfl⟩
                        refine lv_iinc (v := z_68) (lv' := [(8, .int z_68), (0, .ref q), (1, .int a), (2, .int b), (3, .int n), (4, .int z_50), (5, .int x_6)]) hx hb dX11_keptBy_125 hl (k := 6) rfl hz_68.symm (by decide) rfl (fun ls hl => ?_)
                        have hz_68 := o_add hz_68 (rfl : x_55.toInt = x_55.toInt) (by decide : (1 : Int32).toInt = 1) (by omega) (by omega)
                        refine lv_goto (tgt := 94) hx hb dX11_keptBy_128 (by decide) ?_
                        exact ih_59 z_68 H locs ls (by omega) (by omega) hP hD hS (lv_sub hl [1, 2, 3, 4, 5, 6, 0] rfl)
                      · have hc_67 := o_nlt (rfl : z_65.toInt = z_65.toInt) (rfl : z_66.toInt = z_66.toInt) c_67
                        refine lv_iconst (v := (-1)) hx hb dX11_keptBy_123 (by decide) ?_
                        refine o_wq hQ ?_
                        exact q_iret (rm := (Rm 3 65 0 0)) C hS g_54 rfl trivial (q_subP hP [1, 2, 0, 3] rfl) (hD.sub [1, 2, 0, 3] (by decide) rfl) hroom.1 hroom.2 dX11_keptBy_124
                exact lp_94_55 4 (0 : Int32) H locs ls (by have e0 : (0 : Int32).toInt = 0 := (by decide); omega) (by have e0 : (0 : Int32).toInt = 0 := (by decide); omega) hP hD hS (lv_sub hl [2, 3, 4, 5, 1, 6, 0] rfl)
              refine lv_if_lt (tgt := 79) hx hb dX11_keptBy_72 (by decide) (fun c_0 => absurd c_0 (o_mnlt (rfl : x_20.toInt = x_20.toInt) (by decide : (0 : Int32).toInt = 0) (by omega))) (fun _ => ?_)
              refine lv_iconst (v := 1) hx hb dX11_keptBy_75 (by decide) ?_
              refine lv_goto (tgt := 80) hx hb dX11_keptBy_76 (by decide) ?_
              exact cut_80_47 (1 : Int32) H locs ls  (by have e0 : (1 : Int32).toInt = 1 := (by decide); omega) hP hD hS (lv_sub hl [1, 2, 3, 4, 6, 0] rfl)
            · have hc_46 := o_eq (rfl : x_6.toInt = x_6.toInt) (by decide : (0 : Int32).toInt = 0) c_46
              refine lv_aload_n hx hb dX11_keptBy_57 rfl (lv_at hl 1 rfl) ?_
              refine lv_iload hx hb dX11_keptBy_58 (lv_at hl 0 rfl) ?_
              refine q_ai (wr := [(q_rares_, aC1 cy 3 q_rares), (q_trial_, aC1 cy 8 g_7)]) (r_V (rm := (Rm 1 21 0 0)) (q0 := 0) (As := [.int x_20]) (rest := []) (wc := [(q, oC11 q_thrown q_tape_ q_length q_size q_p q_limit q_s_ q_h_ q_read_ q_names_ q_reserved_ q_token q_at q_span q_number q_fault q_faultAt q_word q_got q_lines q_onces q_webs q_one q_two q_seed q_undone_ q_before_ q_undoMany q_far_ q_wayRow_ q_wayMany q_keptRow_ q_askedRow_ q_rares_ q_trial_ q_keptMany q_askedMany q_hangs_ q_paths_ q_tornSteps q_hasTorn q_turnOne q_hasTurn q_text_ q_textMany q_toldMany q_toldAt_ q_hasTold q_stack_ q_codes q_ones q_top q_deep q_isWhole q_truths_ q_imaged_ q_namesKept_ q_areKept_), (q_s_, aC1 cy 383 q_s)]) C hS (q_subP hP [1, 2] rfl) (hD.sub [1, 2] (by decide) rfl) (y_isAsked l D cy q x_20 q_thrown q_tape_ q_length q_size q_p q_limit q_s_ q_h_ q_read_ q_names_ q_reserved_ q_token q_at q_span q_number q_fault q_faultAt q_word q_got q_lines q_onces q_webs q_one q_two q_seed q_undone_ q_before_ q_undoMany q_far_ q_wayRow_ q_wayMany q_keptRow_ q_askedRow_ q_rares_ q_trial_ q_keptMany q_askedMany q_hangs_ q_paths_ q_tornSteps q_hasTorn q_turnOne q_hasTurn q_text_ q_textMany q_toldMany q_toldAt_ q_hasTold q_stack_ q_codes q_ones q_top q_deep q_isWhole q_truths_ q_imaged_ q_namesKept_ q_areKept_ q_s _ (by omega) (by omega) (by omega) (by omega) (by omega) (by omega) (by omega) (by omega) (by omega) (by omega) (by omega) (by omega) (by omega) (by omega) (by omega) (by omega) (by omega) (by omega) (by omega) (by omega) (by omega) (by omega) hR0 hR1 hR2 hR3 hR4 hR5 hR6 hR7 hR8) kwV_X11_isAsked kM_RX11_338 rfl rfl ⟨Nat.le_of_ble_eq_true rfl, Nat.le_of_ble_eq_true rfl⟩ rfl hl.1 rfl (Nat.le_of_ble_eq_true rfl) dX11_keptBy_60 ⟨hroom.1, hroom.2⟩) C.2.2.2.2.2.2.1 hP hD hS [1, 2] [0, 3] rfl rfl (by decide) (by decide) (fun r_70 u_69 H locs hw_71 hP hD hS => ?_)
              have hp_71 : 0 ≤ r_70.toInt ∧ r_70.toInt ≤ 1 := hw_71
              clear hw_71
              refine lv_if_eq (tgt := 68) hx hb dX11_keptBy_63 (by decide) (fun c_73 => ?_) (fun c_73 => ?_)
              · have hc_73 := o_eq (rfl : r_70.toInt = r_70.toInt) (by decide : (0 : Int32).toInt = 0) c_73
                refine lv_iload hx hb dX11_keptBy_68 (lv_at hl 5 rfl) ?_
                refine lv_iload hx hb dX11_keptBy_70 (lv_at hl 0 rfl) ?_
                have cut_80_74 : ∀ (x_74 : Int32) (H : Heap) (locs : List Loc) (ls : Array Slot), (0 ≤ x_74.toInt ∧ x_74.toInt ≤ 1) → va_P D vwCl [(q_rares_, aC1 cy 3 q_rares), (q_trial_, aC1 cy 8 g_7), (q, oC11 q_thrown q_tape_ q_length q_size q_p q_limit q_s_ q_h_ q_read_ q_names_ q_reserved_ q_token q_at q_span q_number q_fault q_faultAt q_word q_got q_lines q_onces q_webs q_one q_two q_seed q_undone_ q_before_ q_undoMany q_far_ q_wayRow_ q_wayMany q_keptRow_ q_askedRow_ q_rares_ q_trial_ q_keptMany q_askedMany q_hangs_ q_paths_ q_tornSteps q_hasTorn q_turnOne q_hasTurn q_text_ q_textMany q_toldMany q_toldAt_ q_hasTold q_stack_ q_codes q_ones q_top q_deep q_isWhole q_truths_ q_imaged_ q_namesKept_ q_areKept_), (q_s_, aC1 cy 383 q_s)] H → va_D A [(q_rares_, aC1 cy 3 q_rares), (q_trial_, aC1 cy 8 g_7), (q, oC11 q_thrown q_tape_ q_length q_size q_p q_limit q_s_ q_h_ q_read_ q_names_ q_reserved_ q_token q_at q_span q_number q_fault q_faultAt q_word q_got q_lines q_onces q_webs q_one q_two q_seed q_undone_ q_before_ q_undoMany q_far_ q_wayRow_ q_wayMany q_keptRow_ q_askedRow_ q_rares_ q_trial_ q_keptMany q_askedMany q_hangs_ q_paths_ q_tornSteps q_hasTorn q_turnOne q_hasTurn q_text_ q_textMany q_toldMany q_toldAt_ q_hasTold q_stack_ q_codes q_ones q_top q_deep q_isWhole q_truths_ q_imaged_ q_namesKept_ q_areKept_), (q_s_, aC1 cy 383 q_s)] → va_S A s.heap H locs → lv_has ls 9 [(0, .ref q), (1, .int a), (2, .int b), (3, .int n), (5, .int x_6), (7, .int x_20)] → W p l e (Rm 3 65 0 0) s m args below meth c H locs cells slots Q (F0 m 80 ls [.int x_74, .int x_5]) := by
                  intro x_74 H locs ls hf_75 hP hD hS hl
                  refine lv_iadd hx hb dX11_keptBy_80 ?_
                  refine lv_topi (fun z_77 hz_77 => ?_)
                  clear hz_77
                  refine lv_istore (lv' := [(4, .int z_77), (0, .ref q), (1, .int a), (2, .int b), (3, .int n), (5, .int x_6), (7, .int x_20)]) hx hb dX11_keptBy_81 hl (by decide) rfl (fun ls hl => ?_)
                  refine lv_aload_n hx hb dX11_keptBy_83 rfl (lv_at hl 1 rfl) ?_
                  refine lv_iload hx hb dX11_keptBy_84 (lv_at hl 5 rfl) ?_
                  refine lv_iload hx hb dX11_keptBy_86 (lv_at hl 6 rfl) ?_
                  refine q_av (wr := [(q_rares_, aC1 cy 3 q_rares)]) (r_V (rm := (Rm 2 42 0 0)) (q0 := 0) (As := [.int x_6, .int x_20]) (rest := []) (wc := [(q, oC11 q_thrown q_tape_ q_length q_size q_p q_limit q_s_ q_h_ q_read_ q_names_ q_reserved_ q_token q_at q_span q_number q_fault q_faultAt q_word q_got q_lines q_onces q_webs q_one q_two q_seed q_undone_ q_before_ q_undoMany q_far_ q_wayRow_ q_wayMany q_keptRow_ q_askedRow_ q_rares_ q_trial_ q_keptMany q_askedMany q_hangs_ q_paths_ q_tornSteps q_hasTorn q_turnOne q_hasTurn q_text_ q_textMany q_toldMany q_toldAt_ q_hasTold q_stack_ q_codes q_ones q_top q_deep q_isWhole q_truths_ q_imaged_ q_namesKept_ q_areKept_), (q_s_, aC1 cy 383 q_s), (q_trial_, aC1 cy 8 g_7)]) C hS (q_subP hP [2, 3, 1] rfl) (hD.sub [2, 3, 1] (by decide) rfl) (y_spins l D cy q x_6 x_20 q_thrown q_tape_ q_length q_size q_p q_limit q_s_ q_h_ q_read_ q_names_ q_reserved_ q_token q_at q_span q_number q_fault q_faultAt q_word q_got q_lines q_onces q_webs q_one q_two q_seed q_undone_ q_before_ q_undoMany q_far_ q_wayRow_ q_wayMany q_keptRow_ q_askedRow_ q_rares_ q_trial_ q_keptMany q_askedMany q_hangs_ q_paths_ q_tornSteps q_hasTorn q_turnOne q_hasTurn q_text_ q_textMany q_toldMany q_toldAt_ q_hasTold q_stack_ q_codes q_ones q_top q_deep q_isWhole q_truths_ q_imaged_ q_namesKept_ q_areKept_ q_s g_7 _ (by omega) (by omega) (by omega) (by omega) (by omega) (by omega) (by omega) (by omega) (by omega) (by omega) (by omega) (by omega) (by omega) (by omega) (by omega) (by omega) (by omega) (by omega) (by omega) (by omega) (by omega) (by omega) (by omega) hR0 hR1 hR2 hR3 hR4 hR5 hR6 hR7 hR8) kwV_X11_spins kM_RX11_383 rfl rfl ⟨Nat.le_of_ble_eq_true rfl, Nat.le_of_ble_eq_true rfl⟩ rfl hl.1 rfl (Nat.le_of_ble_eq_true rfl) dX11_keptBy_88 ⟨hroom.1, hroom.2⟩) C.2.2.2.2.2.2.1 hP hD hS [2, 3, 1] [0] rfl rfl (by decide) (by decide) (fun u_78 H locs hw_80 hP hD hS => ?_)
                  obtain ⟨g_81, rfl⟩ : ∃ z, z = u_78 := ⟨_, rfl⟩
                  have hP : va_P D vwCl [(q_rares_, aC1 cy 3 q_rares), (q, oC11 q_thrown q_tape_ q_length q_size q_p q_limit q_s_ q_h_ q_read_ q_names_ q_reserved_ q_token q_at q_span q_number q_fault q_faultAt q_word q_got q_lines q_onces q_webs q_one q_two q_seed q_undone_ q_before_ q_undoMany q_far_ q_wayRow_ q_wayMany q_keptRow_ q_askedRow_ q_rares_ q_trial_ q_keptMany q_askedMany q_hangs_ q_paths_ q_tornSteps q_hasTorn q_turnOne q_hasTurn q_text_ q_textMany q_toldMany q_toldAt_ q_hasTold q_stack_ q_codes q_ones q_top q_deep q_isWhole q_truths_ q_imaged_ q_namesKept_ q_areKept_), (q_s_, aC1 cy 383 q_s), (q_trial_, aC1 cy 8 g_81)] H := hP
                  have hD : va_D A [(q_rares_, aC1 cy 3 q_rares), (q, oC11 q_thrown q_tape_ q_length q_size q_p q_limit q_s_ q_h_ q_read_ q_names_ q_reserved_ q_token q_at q_span q_number q_fault q_faultAt q_word q_got q_lines q_onces q_webs q_one q_two q_seed q_undone_ q_before_ q_undoMany q_far_ q_wayRow_ q_wayMany q_keptRow_ q_askedRow_ q_rares_ q_trial_ q_keptMany q_askedMany q_hangs_ q_paths_ q_tornSteps q_hasTorn q_turnOne q_hasTurn q_text_ q_textMany q_toldMany q_toldAt_ q_hasTold q_stack_ q_codes q_ones q_top q_deep q_isWhole q_truths_ q_imaged_ q_namesKept_ q_areKept_), (q_s_, aC1 cy 383 q_s), (q_trial_, aC1 cy 8 g_81)] := hD
                  refine lv_iconst (v := 0) hx hb dX11_keptBy_91 (by decide) ?_
                  refine lv_istore (lv' := [(8, .int 0), (4, .int z_77), (0, .ref q), (1, .int a), (2, .int b), (3, .int n), (5, .int x_6), (7, .int x_20)]) hx hb dX11_keptBy_92 hl (by decide) rfl (fun ls hl => ?_)
                  have lp_94_82 : ∀ (n_83 : Nat) (x_82 : Int32) (H : Heap) (locs : List Loc) (ls : Array Slot), (-1) * x_82.toInt + 3 < (n_83 : Int) → (0 ≤ x_82.toInt ∧ x_82.toInt ≤ 3) → va_P D vwCl [(q_rares_, aC1 cy 3 q_rares), (q, oC11 q_thrown q_tape_ q_length q_size q_p q_limit q_s_ q_h_ q_read_ q_names_ q_reserved_ q_token q_at q_span q_number q_fault q_faultAt q_word q_got q_lines q_onces q_webs q_one q_two q_seed q_undone_ q_before_ q_undoMany q_far_ q_wayRow_ q_wayMany q_keptRow_ q_askedRow_ q_rares_ q_trial_ q_keptMany q_askedMany q_hangs_ q_paths_ q_tornSteps q_hasTorn q_turnOne q_hasTurn q_text_ q_textMany q_toldMany q_toldAt_ q_hasTold q_stack_ q_codes q_ones q_top q_deep q_isWhole q_truths_ q_imaged_ q_namesKept_ q_areKept_), (q_s_, aC1 cy 383 q_s), (q_trial_, aC1 cy 8 g_81)] H → va_D A [(q_rares_, aC1 cy 3 q_rares), (q, oC11 q_thrown q_tape_ q_length q_size q_p q_limit q_s_ q_h_ q_read_ q_names_ q_reserved_ q_token q_at q_span q_number q_fault q_faultAt q_word q_got q_lines q_onces q_webs q_one q_two q_seed q_undone_ q_before_ q_undoMany q_far_ q_wayRow_ q_wayMany q_keptRow_ q_askedRow_ q_rares_ q_trial_ q_keptMany q_askedMany q_hangs_ q_paths_ q_tornSteps q_hasTorn q_turnOne q_hasTurn q_text_ q_textMany q_toldMany q_toldAt_ q_hasTold q_stack_ q_codes q_ones q_top q_deep q_isWhole q_truths_ q_imaged_ q_namesKept_ q_areKept_), (q_s_, aC1 cy 383 q_s), (q_trial_, aC1 cy 8 g_81)] → va_S A s.heap H locs → lv_has ls 9 [(0, .ref q), (1, .int a), (2, .int b), (3, .int n), (4, .int z_77), (5, .int x_6), (8, .int x_82)] → W p l e (Rm 3 65 0 0) s m args below meth c H locs cells slots Q (F0 m 94 ls []) := by
                    intro n_83
                    induction n_83 with
                    | zero =>
                      intro x_82 H locs ls hm_85 hf_84 hP hD hS hl
                      exact absurd hm_85 (by omega)
                    | succ n_83 ih_86 =>
                      intro x_82 H locs ls hm_85 hf_84 hP hD hS hl
                      refine lv_iload hx hb dX11_keptBy_94 (lv_at hl 6 rfl) ?_
                      refine lv_iload_n hx hb dX11_keptBy_96 rfl (lv_at hl 2 rfl) ?_
                      refine lv_iconst (v := 1) hx hb dX11_keptBy_97 (by decide) ?_
                      refine lv_isub hx hb dX11_keptBy_98 ?_
                      refine lv_topi (fun z_88 hz_88 => ?_)
                      have hz_88 := o_sub hz_88 (rfl : b.toInt = b.toInt) (by decide : (1 : Int32).toInt = 1) (by omega) (by omega)
                      refine lv_icmp_ge (tgt := 131) hx hb dX11_keptBy_99 (by decide) (fun c_89 => ?_) (fun c_89 => ?_)
                      · have hc_89 := o_le (rfl : z_88.toInt = z_88.toInt) (rfl : x_82.toInt = x_82.toInt) c_89
                        obtain ⟨z_90, hz_90⟩ : ∃ z : Int32, z = x_6 + 1 := ⟨_, rfl⟩
                        refine lv_iinc (v := z_90) (lv' := [(5, .int z_90), (0, .ref q), (1, .int a), (2, .int b), (3, .int n), (4, .int z_77), (8, .int x_82)]) hx hb dX11_keptBy_131 hl (k := 5) rfl hz_90.symm (by decide) rfl (fun ls hl => ?_)
                        have hz_90 := o_add hz_90 (rfl : x_6.toInt = x_6.toInt) (by decide : (1 : Int32).toInt = 1) (by omega) (by omega)
                        refine lv_goto (tgt := 10) hx hb dX11_keptBy_134 (by decide) ?_
                        exact ih_11 z_77 z_90 g_81 H locs ls (by omega) (by omega) hP hD hS (lv_sub hl [1, 2, 3, 4, 5, 0] rfl)
                      · have hc_89 := o_nle (rfl : z_88.toInt = z_88.toInt) (rfl : x_82.toInt = x_82.toInt) c_89
                        refine lv_aload_n hx hb dX11_keptBy_102 rfl (lv_at hl 0 rfl) ?_
                        refine q_get11 (v := .ref q_trial_) C hP 1 34 rfl fT_34 (by decide) kF_RX11_74 rfl dX11_keptBy_103 ?_
                        refine lv_aload_n hx hb dX11_keptBy_106 rfl (lv_at hl 0 rfl) ?_
                        refine q_get11 (v := .ref q_rares_) C hP 1 33 rfl fT_33 (by decide) kF_RX11_71 rfl dX11_keptBy_107 ?_
                        refine lv_iload hx hb dX11_keptBy_110 (lv_at hl 6 rfl) ?_
                        refine q_iald (v := q_rares x_82.toNatClampNeg) C hP 0 rfl (o_in (rfl : x_82.toInt = x_82.toInt) (by omega) (by omega)) rfl dX11_keptBy_112 ?_
                        refine lv_topi (fun z_91 ez_91 => ?_)
                        have hz_91 := Rg.at hR9 ez_91 (by have := o_cl (rfl : x_82.toInt = x_82.toInt) (by omega); omega) (by have := o_cl (rfl : x_82.toInt = x_82.toInt) (by omega); omega)
                        refine q_iald (v := g_81 z_91.toNatClampNeg) C hP 3 rfl (o_in (rfl : z_91.toInt = z_91.toInt) (by omega) (by omega)) rfl dX11_keptBy_113 ?_
                        refine lv_topi (fun z_92 ez_92 => ?_)
                        refine lv_aload_n hx hb dX11_keptBy_114 rfl (lv_at hl 0 rfl) ?_
                        refine q_get11 (v := .ref q_s_) C hP 1 6 rfl fT_6 (by decide) kF_RX11_33 rfl dX11_keptBy_115 ?_
                        refine lv_iconst (v := 3) hx hb dX11_keptBy_118 (by decide) ?_
                        refine q_iald (v := q_s 3) C hP 2 rfl (vin (by decide +kernel)) rfl dX11_keptBy_119 ?_
                        refine lv_topi (fun z_93 ez_93 => ?_)
                        have hz_93 : 1 ≤ z_93.toInt ∧ z_93.toInt ≤ 50 := (by rw [ez_93]; exact hR2 3 (by decide) (by decide))
                        refine lv_icmp_lt (tgt := 125) hx hb dX11_keptBy_120 (by decide) (fun c_94 => ?_) (fun c_94 => ?_)
                        · have hc_94 := o_lt (rfl : z_92.toInt = z_92.toInt) (rfl : z_93.toInt = z_93.toInt) c_94
                          obtain ⟨z_95, hz_95⟩ : ∃ z : Int32, z = x_82 + 1 := ⟨_, rfl⟩
                          refine lv_iinc (v := z_95) (lv' := [(8, .int z_95), (0, .ref q), (1, .int a), (2, .int b), (3, .int n), (4, .int z_77), (5, .int x_6)]) hx hb dX11_keptBy_125 hl (k := 6) rfl hz_95.symm (by decide) rfl (fun ls hl => ?_)
                          have hz_95 := o_add hz_95 (rfl : x_82.toInt = x_82.toInt) (by decide : (1 : Int32).toInt = 1) (by omega) (by omega)
                          refine lv_goto (tgt := 94) hx hb dX11_keptBy_128 (by decide) ?_
                          exact ih_86 z_95 H locs ls (by omega) (by omega) hP hD hS (lv_sub hl [1, 2, 3, 4, 5, 6, 0] rfl)
                        · have hc_94 := o_nlt (rfl : z_92.toInt = z_92.toInt) (rfl : z_93.toInt = z_93.toInt) c_94
                          refine lv_iconst (v := (-1)) hx hb dX11_keptBy_123 (by decide) ?_
                          refine o_wq hQ ?_
                          exact q_iret (rm := (Rm 3 65 0 0)) C hS g_81 rfl trivial (q_subP hP [1, 2, 0, 3] rfl) (hD.sub [1, 2, 0, 3] (by decide) rfl) hroom.1 hroom.2 dX11_keptBy_124
                  exact lp_94_82 4 (0 : Int32) H locs ls (by have e0 : (0 : Int32).toInt = 0 := (by decide); omega) (by have e0 : (0 : Int32).toInt = 0 := (by decide); omega) hP hD hS (lv_sub hl [2, 3, 4, 5, 1, 6, 0] rfl)
                refine lv_if_lt (tgt := 79) hx hb dX11_keptBy_72 (by decide) (fun c_0 => absurd c_0 (o_mnlt (rfl : x_20.toInt = x_20.toInt) (by decide : (0 : Int32).toInt = 0) (by omega))) (fun _ => ?_)
                refine lv_iconst (v := 1) hx hb dX11_keptBy_75 (by decide) ?_
                refine lv_goto (tgt := 80) hx hb dX11_keptBy_76 (by decide) ?_
                exact cut_80_74 (1 : Int32) H locs ls  (by have e0 : (1 : Int32).toInt = 1 := (by decide); omega) hP hD hS (lv_sub hl [1, 2, 3, 4, 6, 0] rfl)
              · have hc_73 := o_ne (rfl : r_70.toInt = r_70.toInt) (by decide : (0 : Int32).toInt = 0) c_73
                have hnc_73 : 0 ≤ r_70.toInt + (-1) := by rcases Int.lt_or_gt_of_ne hc_73 with h9 | h9 <;> omega
                refine lv_iconst (v := (-1)) hx hb dX11_keptBy_66 (by decide) ?_
                refine o_wq hQ ?_
                exact q_iret (rm := (Rm 3 65 0 0)) C hS g_7 rfl trivial (q_subP hP [2, 3, 0, 1] rfl) (hD.sub [2, 3, 0, 1] (by decide) rfl) hroom.1 hroom.2 dX11_keptBy_67
        refine lv_icmp_ge (tgt := 44) hx hb dX11_keptBy_31 (by decide) (fun c_96 => ?_) (fun c_96 => ?_)
        · have hc_96 := o_le (rfl : z_19.toInt = z_19.toInt) (rfl : r_15.toInt = r_15.toInt) c_96
          refine lv_iconst (v := (-1)) hx hb dX11_keptBy_44 (by decide) ?_
          exact cut_45_20 ((-1) : Int32) H locs ls  (by have e0 : ((-1) : Int32).toInt = -1 := (by decide); omega) hP hD hS (lv_sub hl [1, 2, 3, 4, 5, 6] rfl)
        · have hc_96 := o_nle (rfl : z_19.toInt = z_19.toInt) (rfl : r_15.toInt = r_15.toInt) c_96
          refine lv_aload_n hx hb dX11_keptBy_34 rfl (lv_at hl 1 rfl) ?_
          refine q_get11 (v := .ref q_rares_) C hP 1 33 rfl fT_33 (by decide) kF_RX11_71 rfl dX11_keptBy_35 ?_
          refine lv_iload hx hb dX11_keptBy_38 (lv_at hl 0 rfl) ?_
          refine q_iald (v := q_rares r_15.toNatClampNeg) C hP 0 rfl (o_in (rfl : r_15.toInt = r_15.toInt) (by omega) (by omega)) rfl dX11_keptBy_40 ?_
          refine lv_topi (fun z_97 ez_97 => ?_)
          have hz_97 := Rg.at hR9 ez_97 (by have := o_cl (rfl : r_15.toInt = r_15.toInt) (by omega); omega) (by have := o_cl (rfl : r_15.toInt = r_15.toInt) (by omega); omega)
          refine lv_goto (tgt := 45) hx hb dX11_keptBy_41 (by decide) ?_
          exact cut_45_20 z_97 H locs ls  (by omega) hP hD hS (lv_sub hl [1, 2, 3, 4, 5, 6] rfl)
  exact lp_10_7 9 (0 : Int32) (0 : Int32) g_4 H locs ls (by have e0 : (0 : Int32).toInt = 0 := (by decide); omega) (by have e0 : (0 : Int32).toInt = 0 := (by decide); omega) hP hD hS (lv_sub hl [2, 3, 4, 5, 1, 0] rfl)
theorem y_keptBy (l : Launch) (D : va_G) (cy : Nat → ClassId) (q : Nat) (a : Int32) (b : Int32) (n : Int32) (q_thrown : Int32) (q_tape_ : Nat) (q_length : Int32) (q_size : Int32) (q_p : Int32) (q_limit : Int32) (q_s_ : Nat) (q_h_ : Nat) (q_read_ : Nat) (q_names_ : Nat) (q_reserved_ : Nat) (q_token : Int32) (q_at : Int32) (q_span : Int32) (q_number : Int32) (q_fault : Int32) (q_faultAt : Int32) (q_word : Int64) (q_got : Int32) (q_lines : Int32) (q_onces : Int32) (q_webs : Int32) (q_one : Int32) (q_two : Int32) (q_seed : Int32) (q_undone_ : Nat) (q_before_ : Nat) (q_undoMany : Int32) (q_far_ : Nat) (q_wayRow_ : Nat) (q_wayMany : Int32) (q_keptRow_ : Nat) (q_askedRow_ : Nat) (q_rares_ : Nat) (q_trial_ : Nat) (q_keptMany : Int32) (q_askedMany : Int32) (q_hangs_ : Nat) (q_paths_ : Nat) (q_tornSteps : Int32) (q_hasTorn : Int32) (q_turnOne : Int32) (q_hasTurn : Int32) (q_text_ : Nat) (q_textMany : Int32) (q_toldMany : Int32) (q_toldAt_ : Nat) (q_hasTold : Int32) (q_stack_ : Nat) (q_codes : Int32) (q_ones : Int32) (q_top : Int32) (q_deep : Int32) (q_isWhole : Int32) (q_truths_ : Nat) (q_imaged_ : Nat) (q_namesKept_ : Nat) (q_areKept_ : Nat) (q_s : Nat → Int32) (q_rares : Nat → Int32) (q_trial : Nat → Int32) (sz : Nat) (hb0 : 0 ≤ q_length.toInt ∧ q_length.toInt ≤ 940) (hb1 : 0 ≤ q_size.toInt ∧ q_size.toInt ≤ 940) (hb2 : 0 ≤ q_p.toInt ∧ q_p.toInt ≤ 940) (hb3 : 0 ≤ q_limit.toInt ∧ q_limit.toInt ≤ 940) (hb4 : 0 ≤ q_span.toInt ∧ q_span.toInt ≤ 940) (hb5 : 0 ≤ q_number.toInt ∧ q_number.toInt ≤ 8214) (hb6 : (-1) ≤ q_got.toInt ∧ q_got.toInt ≤ 8214) (hb7 : 0 ≤ q_one.toInt ∧ q_one.toInt ≤ 7) (hb8 : 0 ≤ q_two.toInt ∧ q_two.toInt ≤ 7) (hb9 : 0 ≤ q_undoMany.toInt ∧ q_undoMany.toInt ≤ 8) (hb10 : (-1) ≤ q_wayMany.toInt ∧ q_wayMany.toInt ≤ 8) (hb11 : (-1) ≤ q_keptMany.toInt ∧ q_keptMany.toInt ≤ 8) (hb12 : (-1) ≤ q_askedMany.toInt ∧ q_askedMany.toInt ≤ 3) (hb13 : 0 ≤ q_hasTorn.toInt ∧ q_hasTorn.toInt ≤ 1) (hb14 : 0 ≤ q_hasTurn.toInt ∧ q_hasTurn.toInt ≤ 1) (hb15 : 0 ≤ q_textMany.toInt ∧ q_textMany.toInt ≤ 48) (hb16 : 0 ≤ q_toldMany.toInt ∧ q_toldMany.toInt ≤ 40) (hb17 : 0 ≤ q_hasTold.toInt ∧ q_hasTold.toInt ≤ 1) (hb18 : 0 ≤ q_codes.toInt ∧ q_codes.toInt ≤ 40) (hb19 : 0 ≤ q_ones.toInt ∧ q_ones.toInt ≤ 20) (hb20 : 0 ≤ q_top.toInt ∧ q_top.toInt ≤ 40) (hb21 : 0 ≤ q_isWhole.toInt ∧ q_isWhole.toInt ≤ 1) (hb22 : 0 ≤ a.toInt) (hb23 : 1 ≤ b.toInt ∧ b.toInt ≤ 4) (hb24 : 1 ≤ n.toInt ∧ n.toInt ≤ 8) (hR0 : Rg q_s 0 1 0 8) (hR1 : Rg q_s 1 3 0 6) (hR2 : Rg q_s 3 4 1 50) (hR3 : Rg q_s 4 5 1 5) (hR4 : Rg q_s 103 104 0 255) (hR5 : Rg q_s 7 23 0 5) (hR6 : Rg q_s 106 122 0 5) (hR7 : Rg q_s 23 31 0 99) (hR8 : Rg q_s 122 130 0 99) (hR9 : Rg q_rares 0 3 0 7) : MI l yX11_keptBy cX11_keptBy 9 (some .int) (Rm 3 65 0 0) D cy [.ref q, .int a, .int b, .int n] sz [(q, oC11 q_thrown q_tape_ q_length q_size q_p q_limit q_s_ q_h_ q_read_ q_names_ q_reserved_ q_token q_at q_span q_number q_fault q_faultAt q_word q_got q_lines q_onces q_webs q_one q_two q_seed q_undone_ q_before_ q_undoMany q_far_ q_wayRow_ q_wayMany q_keptRow_ q_askedRow_ q_rares_ q_trial_ q_keptMany q_askedMany q_hangs_ q_paths_ q_tornSteps q_hasTorn q_turnOne q_hasTurn q_text_ q_textMany q_toldMany q_toldAt_ q_hasTold q_stack_ q_codes q_ones q_top q_deep q_isWhole q_truths_ q_imaged_ q_namesKept_ q_areKept_), (q_s_, aC1 cy 383 q_s), (q_rares_, aC1 cy 3 q_rares), (q_trial_, aC1 cy 8 q_trial)] (fun (r : Int32) (u : (Nat → Int32)) => True) (fun u : (Nat → Int32) => [(q, oC11 q_thrown q_tape_ q_length q_size q_p q_limit q_s_ q_h_ q_read_ q_names_ q_reserved_ q_token q_at q_span q_number q_fault q_faultAt q_word q_got q_lines q_onces q_webs q_one q_two q_seed q_undone_ q_before_ q_undoMany q_far_ q_wayRow_ q_wayMany q_keptRow_ q_askedRow_ q_rares_ q_trial_ q_keptMany q_askedMany q_hangs_ q_paths_ q_tornSteps q_hasTorn q_turnOne q_hasTurn q_text_ q_textMany q_toldMany q_toldAt_ q_hasTold q_stack_ q_codes q_ones q_top q_deep q_isWhole q_truths_ q_imaged_ q_namesKept_ q_areKept_), (q_s_, aC1 cy 383 q_s), (q_rares_, aC1 cy 3 q_rares), (q_trial_, aC1 cy 8 u)]) := by
  refine MI.enter (by decide) (Nat.le_of_ble_eq_true rfl) ?_
  intro p e s m below meth c ls A hsz hAe C hP hD hS hl
  exact b_y_keptBy l D cy q a b n q_thrown q_tape_ q_length q_size q_p q_limit q_s_ q_h_ q_read_ q_names_ q_reserved_ q_token q_at q_span q_number q_fault q_faultAt q_word q_got q_lines q_onces q_webs q_one q_two q_seed q_undone_ q_before_ q_undoMany q_far_ q_wayRow_ q_wayMany q_keptRow_ q_askedRow_ q_rares_ q_trial_ q_keptMany q_askedMany q_hangs_ q_paths_ q_tornSteps q_hasTorn q_turnOne q_hasTurn q_text_ q_textMany q_toldMany q_toldAt_ q_hasTold q_stack_ q_codes q_ones q_top q_deep q_isWhole q_truths_ q_imaged_ q_namesKept_ q_areKept_ q_s q_rares q_trial hb0 hb1 hb2 hb3 hb4 hb5 hb6 hb7 hb8 hb9 hb10 hb11 hb12 hb13 hb14 hb15 hb16 hb17 hb18 hb19 hb20 hb21 hb22 hb23 hb24 hR0 hR1 hR2 hR3 hR4 hR5 hR6 hR7 hR8 hR9 ⟨Nat.le_of_ble_eq_true rfl, Nat.le_of_ble_eq_true rfl⟩ C rfl _ _ ls hP hD hS hl
set_option maxHeartbeats 4000000 in
set_option maxRecDepth 100000 in
theorem b_y_keep (l : Launch) (D : va_G) (cy : Nat → ClassId) (q : Nat) (a : Int32) (q_thrown : Int32) (q_tape_ : Nat) (q_length : Int32) (q_size : Int32) (q_p : Int32) (q_limit : Int32) (q_s_ : Nat) (q_h_ : Nat) (q_read_ : Nat) (q_names_ : Nat) (q_reserved_ : Nat) (q_token : Int32) (q_at : Int32) (q_span : Int32) (q_number : Int32) (q_fault : Int32) (q_faultAt : Int32) (q_word : Int64) (q_got : Int32) (q_lines : Int32) (q_onces : Int32) (q_webs : Int32) (q_one : Int32) (q_two : Int32) (q_seed : Int32) (q_undone_ : Nat) (q_before_ : Nat) (q_undoMany : Int32) (q_far_ : Nat) (q_wayRow_ : Nat) (q_wayMany : Int32) (q_keptRow_ : Nat) (q_askedRow_ : Nat) (q_rares_ : Nat) (q_trial_ : Nat) (q_keptMany : Int32) (q_askedMany : Int32) (q_hangs_ : Nat) (q_paths_ : Nat) (q_tornSteps : Int32) (q_hasTorn : Int32) (q_turnOne : Int32) (q_hasTurn : Int32) (q_text_ : Nat) (q_textMany : Int32) (q_toldMany : Int32) (q_toldAt_ : Nat) (q_hasTold : Int32) (q_stack_ : Nat) (q_codes : Int32) (q_ones : Int32) (q_top : Int32) (q_deep : Int32) (q_isWhole : Int32) (q_truths_ : Nat) (q_imaged_ : Nat) (q_namesKept_ : Nat) (q_areKept_ : Nat) (q_s : Nat → Int32) (q_keptRow : Nat → Int32) (q_rares : Nat → Int32) (q_trial : Nat → Int32) (hb0 : 0 ≤ q_length.toInt ∧ q_length.toInt ≤ 940) (hb1 : 0 ≤ q_size.toInt ∧ q_size.toInt ≤ 940) (hb2 : 0 ≤ q_p.toInt ∧ q_p.toInt ≤ 940) (hb3 : 0 ≤ q_limit.toInt ∧ q_limit.toInt ≤ 940) (hb4 : 0 ≤ q_span.toInt ∧ q_span.toInt ≤ 940) (hb5 : 0 ≤ q_number.toInt ∧ q_number.toInt ≤ 8214) (hb6 : (-1) ≤ q_got.toInt ∧ q_got.toInt ≤ 8214) (hb7 : 0 ≤ q_one.toInt ∧ q_one.toInt ≤ 7) (hb8 : 0 ≤ q_two.toInt ∧ q_two.toInt ≤ 7) (hb9 : 0 ≤ q_undoMany.toInt ∧ q_undoMany.toInt ≤ 8) (hb10 : (-1) ≤ q_wayMany.toInt ∧ q_wayMany.toInt ≤ 8) (hb11 : (-1) ≤ q_keptMany.toInt ∧ q_keptMany.toInt ≤ 8) (hb12 : (-1) ≤ q_askedMany.toInt ∧ q_askedMany.toInt ≤ 3) (hb13 : 0 ≤ q_hasTorn.toInt ∧ q_hasTorn.toInt ≤ 1) (hb14 : 0 ≤ q_hasTurn.toInt ∧ q_hasTurn.toInt ≤ 1) (hb15 : 0 ≤ q_textMany.toInt ∧ q_textMany.toInt ≤ 48) (hb16 : 0 ≤ q_toldMany.toInt ∧ q_toldMany.toInt ≤ 40) (hb17 : 0 ≤ q_hasTold.toInt ∧ q_hasTold.toInt ≤ 1) (hb18 : 0 ≤ q_codes.toInt ∧ q_codes.toInt ≤ 40) (hb19 : 0 ≤ q_ones.toInt ∧ q_ones.toInt ≤ 20) (hb20 : 0 ≤ q_top.toInt ∧ q_top.toInt ≤ 40) (hb21 : 0 ≤ q_isWhole.toInt ∧ q_isWhole.toInt ≤ 1) (hR0 : Rg q_s 0 1 0 8) (hR1 : Rg q_s 1 3 0 6) (hR2 : Rg q_s 3 4 1 50) (hR3 : Rg q_s 4 5 1 5) (hR4 : Rg q_s 103 104 0 255) (hR5 : Rg q_s 7 23 0 5) (hR6 : Rg q_s 106 122 0 5) (hR7 : Rg q_s 23 31 0 99) (hR8 : Rg q_s 122 130 0 99) (hR9 : Sv q_s) (hR10 : Rg q_rares 0 3 0 7) {p : Program} {e : Env} {s : State} {m : MethodId} {args : Array Value} {below : List Frame} {meth : Method} {c : Code} {A : Nat → Prop} {Q : State → Prop} {cells slots : Nat} (hroom : cells ≤ ((Rm 4 93 0 0)).cells ∧ slots ≤ ((Rm 4 93 0 0)).slots) (C : Cx p s m args meth c cX11_keep 7 (some .int) RX11 "keep" D cy A) (hQ : Q = MQ below (va_Qi (fun (r : Int32) (u : Int32 × Int32 × (Nat → Int32) × (Nat → Int32) × (Nat → Int32)) => ((-1) ≤ r.toInt ∧ r.toInt ≤ 1000000000) ∧ ((-1) ≤ u.2.1.toInt ∧ u.2.1.toInt ≤ 8) ∧ (Rg u.2.2.2.1 0 3 0 7)) (Bx D A (fun u : Int32 × Int32 × (Nat → Int32) × (Nat → Int32) × (Nat → Int32) => [(q, oC11 u.1 q_tape_ q_length q_size q_p q_limit q_s_ q_h_ q_read_ q_names_ q_reserved_ q_token q_at q_span q_number q_fault q_faultAt q_word q_got q_lines q_onces q_webs q_one q_two q_seed q_undone_ q_before_ q_undoMany q_far_ q_wayRow_ q_wayMany q_keptRow_ q_askedRow_ q_rares_ q_trial_ u.2.1 q_askedMany q_hangs_ q_paths_ q_tornSteps q_hasTorn q_turnOne q_hasTurn q_text_ q_textMany q_toldMany q_toldAt_ q_hasTold q_stack_ q_codes q_ones q_top q_deep q_isWhole q_truths_ q_imaged_ q_namesKept_ q_areKept_), (q_s_, aC1 cy 383 q_s), (q_keptRow_, aC1 cy 8 u.2.2.1), (q_rares_, aC1 cy 3 u.2.2.2.1), (q_trial_, aC1 cy 8 u.2.2.2.2)])) A) args s ((Rm 4 93 0 0)).cells ((Rm 4 93 0 0)).slots A) (H : Heap) (locs : List Loc) (ls : Array Slot) (hP : va_P D vwCl [(q, oC11 q_thrown q_tape_ q_length q_size q_p q_limit q_s_ q_h_ q_read_ q_names_ q_reserved_ q_token q_at q_span q_number q_fault q_faultAt q_word q_got q_lines q_onces q_webs q_one q_two q_seed q_undone_ q_before_ q_undoMany q_far_ q_wayRow_ q_wayMany q_keptRow_ q_askedRow_ q_rares_ q_trial_ q_keptMany q_askedMany q_hangs_ q_paths_ q_tornSteps q_hasTorn q_turnOne q_hasTurn q_text_ q_textMany q_toldMany q_toldAt_ q_hasTold q_stack_ q_codes q_ones q_top q_deep q_isWhole q_truths_ q_imaged_ q_namesKept_ q_areKept_), (q_s_, aC1 cy 383 q_s), (q_keptRow_, aC1 cy 8 q_keptRow), (q_rares_, aC1 cy 3 q_rares), (q_trial_, aC1 cy 8 q_trial)] H) (hD : va_D A [(q, oC11 q_thrown q_tape_ q_length q_size q_p q_limit q_s_ q_h_ q_read_ q_names_ q_reserved_ q_token q_at q_span q_number q_fault q_faultAt q_word q_got q_lines q_onces q_webs q_one q_two q_seed q_undone_ q_before_ q_undoMany q_far_ q_wayRow_ q_wayMany q_keptRow_ q_askedRow_ q_rares_ q_trial_ q_keptMany q_askedMany q_hangs_ q_paths_ q_tornSteps q_hasTorn q_turnOne q_hasTurn q_text_ q_textMany q_toldMany q_toldAt_ q_hasTold q_stack_ q_codes q_ones q_top q_deep q_isWhole q_truths_ q_imaged_ q_namesKept_ q_areKept_), (q_s_, aC1 cy 383 q_s), (q_keptRow_, aC1 cy 8 q_keptRow), (q_rares_, aC1 cy 3 q_rares), (q_trial_, aC1 cy 8 q_trial)]) (hS : va_S A s.heap H locs) (hl : lv_has ls 7 [(0, .ref q), (1, .int a)]) : W p l e (Rm 4 93 0 0) s m args below meth c H locs cells slots Q (F0 m 0 ls []) := by
  have hx := C.1
  have hb := C.2.1
  have hqa := o_rng a
  refine lv_aload_n hx hb dX11_keep_0 rfl (lv_at hl 0 rfl) ?_
  refine lv_iconst (v := 0) hx hb dX11_keep_1 (by decide) ?_
  refine q_put11 (v := .int 0) (w' := [(q, oC11 0 q_tape_ q_length q_size q_p q_limit q_s_ q_h_ q_read_ q_names_ q_reserved_ q_token q_at q_span q_number q_fault q_faultAt q_word q_got q_lines q_onces q_webs q_one q_two q_seed q_undone_ q_before_ q_undoMany q_far_ q_wayRow_ q_wayMany q_keptRow_ q_askedRow_ q_rares_ q_trial_ q_keptMany q_askedMany q_hangs_ q_paths_ q_tornSteps q_hasTorn q_turnOne q_hasTurn q_text_ q_textMany q_toldMany q_toldAt_ q_hasTold q_stack_ q_codes q_ones q_top q_deep q_isWhole q_truths_ q_imaged_ q_namesKept_ q_areKept_), (q_s_, aC1 cy 383 q_s), (q_keptRow_, aC1 cy 8 q_keptRow), (q_rares_, aC1 cy 3 q_rares), (q_trial_, aC1 cy 8 q_trial)]) C hP hD hS 0 0 rfl fT_0 fy_0 (by decide) kF_RX11_1 rfl rfl (Nat.le_of_ble_eq_true rfl) rfl dX11_keep_2 (fun H locs hP hD hS => ?_)
  refine lv_iload_n hx hb dX11_keep_5 rfl (lv_at hl 1 rfl) ?_
  refine lv_iconst (v := 1) hx hb dX11_keep_6 (by decide) ?_
  refine lv_bipush (v := 8) hx hb dX11_keep_7 (by decide) ?_
  refine q_ai (wr := [(q, oC11 0 q_tape_ q_length q_size q_p q_limit q_s_ q_h_ q_read_ q_names_ q_reserved_ q_token q_at q_span q_number q_fault q_faultAt q_word q_got q_lines q_onces q_webs q_one q_two q_seed q_undone_ q_before_ q_undoMany q_far_ q_wayRow_ q_wayMany q_keptRow_ q_askedRow_ q_rares_ q_trial_ q_keptMany q_askedMany q_hangs_ q_paths_ q_tornSteps q_hasTorn q_turnOne q_hasTurn q_text_ q_textMany q_toldMany q_toldAt_ q_hasTold q_stack_ q_codes q_ones q_top q_deep q_isWhole q_truths_ q_imaged_ q_namesKept_ q_areKept_), (q_s_, aC1 cy 383 q_s), (q_keptRow_, aC1 cy 8 q_keptRow), (q_rares_, aC1 cy 3 q_rares), (q_trial_, aC1 cy 8 q_trial)]) (r_S (rm := (Rm 0 0 0 0)) (As := [.int a, .int 1, .int 8]) (rest := []) (wc := []) C hS (q_subP hP [] rfl) (hD.sub [] (by decide) rfl) (y_isIn l D cy a 1 8 _ ) kwS_X11_isIn kM_RX11_206 ⟨Nat.le_of_ble_eq_true rfl, Nat.le_of_ble_eq_true rfl⟩ rfl hl.1 rfl (Nat.le_of_ble_eq_true rfl) dX11_keep_9 ⟨hroom.1, hroom.2⟩) C.2.2.2.2.2.2.1 hP hD hS [] [0, 1, 2, 3, 4] rfl rfl (by decide) (by decide) (fun r_2 u_1 H locs hw_3 hP hD hS => ?_)
  have hp_3 : 0 ≤ r_2.toInt ∧ r_2.toInt ≤ 1 := hw_3.1
  have hp_4 : (0 ≤ r_2.toInt + (-1)) → (0 ≤ a.toInt + (-1) ∧ 0 ≤ (-1) * a.toInt + 8) := by have e0 : (1 : Int32).toInt = 1 := (by decide); have e1 : (8 : Int32).toInt = 8 := (by decide); have h0 : (0 ≤ r_2.toInt + (-1)) → (0 ≤ a.toInt + (-1) * (1 : Int32).toInt ∧ 0 ≤ (8 : Int32).toInt + (-1) * a.toInt) := hw_3.2.1; omega
  have hp_5 : (0 ≤ a.toInt + (-1) ∧ 0 ≤ (-1) * a.toInt + 8) → (0 ≤ r_2.toInt + (-1)) := by have e0 : (1 : Int32).toInt = 1 := (by decide); have e1 : (8 : Int32).toInt = 8 := (by decide); have h0 : (0 ≤ a.toInt + (-1) * (1 : Int32).toInt ∧ 0 ≤ (8 : Int32).toInt + (-1) * a.toInt) → (0 ≤ r_2.toInt + (-1)) := hw_3.2.2; omega
  clear hw_3
  refine lv_if_eq (tgt := 30) hx hb dX11_keep_12 (by decide) (fun c_7 => ?_) (fun c_7 => ?_)
  · have hc_7 := o_eq (rfl : r_2.toInt = r_2.toInt) (by decide : (0 : Int32).toInt = 0) c_7
    clear hp_4
    refine lv_iconst (v := (-1)) hx hb dX11_keep_30 (by decide) ?_
    refine o_wq hQ ?_
    exact q_iret (rm := (Rm 4 93 0 0)) C hS (0, q_keptMany, q_keptRow, q_rares, q_trial) rfl ⟨(show (-1) ≤ ((-1) : Int32).toInt ∧ ((-1) : Int32).toInt ≤ 1000000000 by decide), (show (-1) ≤ q_keptMany.toInt ∧ q_keptMany.toInt ≤ 8 by omega), hR10⟩ (q_subP hP [0, 1, 2, 3, 4] rfl) (hD.sub [0, 1, 2, 3, 4] (by decide) rfl) hroom.1 hroom.2 dX11_keep_31
  · have hc_7 := o_ne (rfl : r_2.toInt = r_2.toInt) (by decide : (0 : Int32).toInt = 0) c_7
    have hnc_7 : 0 ≤ r_2.toInt + (-1) := by rcases Int.lt_or_gt_of_ne hc_7 with h9 | h9 <;> omega
    have hp_4 := hp_4 (by omega)
    have hp_5 := hp_5 (by omega)
    refine lv_aload_n hx hb dX11_keep_15 rfl (lv_at hl 0 rfl) ?_
    refine q_get11 (v := .ref q_s_) C hP 0 6 rfl fT_6 (by decide) kF_RX11_33 rfl dX11_keep_16 ?_
    refine lv_bipush (v := 104) hx hb dX11_keep_19 (by decide) ?_
    refine q_iald (v := q_s 104) C hP 1 rfl (vin (by decide +kernel)) rfl dX11_keep_21 ?_
    refine lv_topi (fun z_8 ez_8 => ?_)
    refine lv_iload_n hx hb dX11_keep_22 rfl (lv_at hl 1 rfl) ?_
    refine lv_iadd hx hb dX11_keep_23 ?_
    refine lv_topi (fun z_9 hz_9 => ?_)
    clear hz_9
    refine lv_sipush (v := 400) hx hb dX11_keep_24 (by decide) ?_
    refine lv_icmp_le (tgt := 32) hx hb dX11_keep_27 (by decide) (fun c_10 => ?_) (fun c_10 => ?_)
    · have hc_10 := o_le (rfl : z_9.toInt = z_9.toInt) (by decide : (400 : Int32).toInt = 400) c_10
      obtain ⟨n_11, en_11⟩ : ∃ z : Int32, z = q_s 103 := ⟨_, rfl⟩
      have hn_11 : 0 ≤ n_11.toInt ∧ n_11.toInt ≤ 255 := (by rw [en_11]; exact hR4 103 (by decide) (by decide))
      have hq_11 : bc n_11.toInt ≤ 3 := Sv.rare hR9 en_11
      refine lv_iconst (v := 1) hx hb dX11_keep_32 (by decide) ?_
      refine lv_istore_n (lv' := [(2, .int 1), (0, .ref q), (1, .int a)]) hx hb dX11_keep_33 rfl hl (by decide) rfl (fun ls hl => ?_)
      refine lv_iconst (v := 0) hx hb dX11_keep_34 (by decide) ?_
      refine lv_istore_n (lv' := [(3, .int 0), (2, .int 1), (0, .ref q), (1, .int a)]) hx hb dX11_keep_35 rfl hl (by decide) rfl (fun ls hl => ?_)
      have lp_36_15 : ∀ (n_16 : Nat) (x_13 : Int32) (x_14 : Int32) (g_15 : Nat → Int32) (H : Heap) (locs : List Loc) (ls : Array Slot), (-1) * x_14.toInt + 8 < (n_16 : Int) → (1 ≤ x_13.toInt ∧ x_13.toInt ≤ 5) → (0 ≤ x_14.toInt ∧ x_14.toInt ≤ 8) → (x_13.toInt = 1 + bcl n_11.toInt x_14.toInt) → Rg g_15 0 3 0 7 → va_P D vwCl [(q, oC11 0 q_tape_ q_length q_size q_p q_limit q_s_ q_h_ q_read_ q_names_ q_reserved_ q_token q_at q_span q_number q_fault q_faultAt q_word q_got q_lines q_onces q_webs q_one q_two q_seed q_undone_ q_before_ q_undoMany q_far_ q_wayRow_ q_wayMany q_keptRow_ q_askedRow_ q_rares_ q_trial_ q_keptMany q_askedMany q_hangs_ q_paths_ q_tornSteps q_hasTorn q_turnOne q_hasTurn q_text_ q_textMany q_toldMany q_toldAt_ q_hasTold q_stack_ q_codes q_ones q_top q_deep q_isWhole q_truths_ q_imaged_ q_namesKept_ q_areKept_), (q_s_, aC1 cy 383 q_s), (q_keptRow_, aC1 cy 8 q_keptRow), (q_rares_, aC1 cy 3 g_15), (q_trial_, aC1 cy 8 q_trial)] H → va_D A [(q, oC11 0 q_tape_ q_length q_size q_p q_limit q_s_ q_h_ q_read_ q_names_ q_reserved_ q_token q_at q_span q_number q_fault q_faultAt q_word q_got q_lines q_onces q_webs q_one q_two q_seed q_undone_ q_before_ q_undoMany q_far_ q_wayRow_ q_wayMany q_keptRow_ q_askedRow_ q_rares_ q_trial_ q_keptMany q_askedMany q_hangs_ q_paths_ q_tornSteps q_hasTorn q_turnOne q_hasTurn q_text_ q_textMany q_toldMany q_toldAt_ q_hasTold q_stack_ q_codes q_ones q_top q_deep q_isWhole q_truths_ q_imaged_ q_namesKept_ q_areKept_), (q_s_, aC1 cy 383 q_s), (q_keptRow_, aC1 cy 8 q_keptRow), (q_rares_, aC1 cy 3 g_15), (q_trial_, aC1 cy 8 q_trial)] → va_S A s.heap H locs → lv_has ls 7 [(0, .ref q), (1, .int a), (2, .int x_13), (3, .int x_14)] → W p l e (Rm 4 93 0 0) s m args below meth c H locs cells slots Q (F0 m 36 ls []) := by
        intro n_16
        induction n_16 with
        | zero =>
          intro x_13 x_14 g_15 H locs ls hm_21 hf_17 hf_18 hf_19 hg_20 hP hD hS hl
          exact absurd hm_21 (by omega)
        | succ n_16 ih_22 =>
          intro x_13 x_14 g_15 H locs ls hm_21 hf_17 hf_18 hf_19 hg_20 hP hD hS hl
          have hq_23 := bcl_hi (x := n_11) (b := x_14) (by omega) (by omega) (by omega) (by omega)
          refine lv_iload_n hx hb dX11_keep_36 rfl (lv_at hl 3 rfl) ?_
          refine lv_aload_n hx hb dX11_keep_37 rfl (lv_at hl 0 rfl) ?_
          refine q_get11 (v := .ref q_s_) C hP 0 6 rfl fT_6 (by decide) kF_RX11_33 rfl dX11_keep_38 ?_
          refine lv_iconst (v := 0) hx hb dX11_keep_41 (by decide) ?_
          refine q_iald (v := q_s 0) C hP 1 rfl (vin (by decide +kernel)) rfl dX11_keep_42 ?_
          refine lv_topi (fun z_25 ez_25 => ?_)
          have hz_25 : 0 ≤ z_25.toInt ∧ z_25.toInt ≤ 8 := (by rw [ez_25]; exact hR0 0 (by decide) (by decide))
          refine lv_icmp_ge (tgt := 81) hx hb dX11_keep_43 (by decide) (fun c_26 => ?_) (fun c_26 => ?_)
          · have hc_26 := o_le (rfl : z_25.toInt = z_25.toInt) (rfl : x_14.toInt = x_14.toInt) c_26
            refine lv_iconst (v := (-1)) hx hb dX11_keep_81 (by decide) ?_
            refine lv_istore_n (lv' := [(3, .int (-1)), (0, .ref q), (1, .int a), (2, .int x_13)]) hx hb dX11_keep_82 rfl hl (by decide) rfl (fun ls hl => ?_)
            refine q_ldc_w (v := 1000000000) C kC_RX11_366 dX11_keep_83 ?_
            refine lv_istore (lv' := [(4, .int 1000000000), (3, .int (-1)), (0, .ref q), (1, .int a), (2, .int x_13)]) hx hb dX11_keep_86 hl (by decide) rfl (fun ls hl => ?_)
            refine lv_iconst (v := 0) hx hb dX11_keep_88 (by decide) ?_
            refine lv_istore (lv' := [(5, .int 0), (4, .int 1000000000), (3, .int (-1)), (0, .ref q), (1, .int a), (2, .int x_13)]) hx hb dX11_keep_89 hl (by decide) rfl (fun ls hl => ?_)
            have lp_91_30 : ∀ (n_31 : Nat) (x_27 : Int32) (x_28 : Int32) (x_29 : Int32) (g_30 : Nat → Int32) (H : Heap) (locs : List Loc) (ls : Array Slot), (-1) * x_29.toInt + 2147483647 < (n_31 : Int) → ((-1) ≤ x_27.toInt) → (0 ≤ x_28.toInt ∧ x_28.toInt ≤ 1000000000) → (0 ≤ x_29.toInt) → (x_29.toInt ≤ 2147483647) → va_P D vwCl [(q, oC11 0 q_tape_ q_length q_size q_p q_limit q_s_ q_h_ q_read_ q_names_ q_reserved_ q_token q_at q_span q_number q_fault q_faultAt q_word q_got q_lines q_onces q_webs q_one q_two q_seed q_undone_ q_before_ q_undoMany q_far_ q_wayRow_ q_wayMany q_keptRow_ q_askedRow_ q_rares_ q_trial_ q_keptMany q_askedMany q_hangs_ q_paths_ q_tornSteps q_hasTorn q_turnOne q_hasTurn q_text_ q_textMany q_toldMany q_toldAt_ q_hasTold q_stack_ q_codes q_ones q_top q_deep q_isWhole q_truths_ q_imaged_ q_namesKept_ q_areKept_), (q_s_, aC1 cy 383 q_s), (q_keptRow_, aC1 cy 8 q_keptRow), (q_rares_, aC1 cy 3 g_15), (q_trial_, aC1 cy 8 g_30)] H → va_D A [(q, oC11 0 q_tape_ q_length q_size q_p q_limit q_s_ q_h_ q_read_ q_names_ q_reserved_ q_token q_at q_span q_number q_fault q_faultAt q_word q_got q_lines q_onces q_webs q_one q_two q_seed q_undone_ q_before_ q_undoMany q_far_ q_wayRow_ q_wayMany q_keptRow_ q_askedRow_ q_rares_ q_trial_ q_keptMany q_askedMany q_hangs_ q_paths_ q_tornSteps q_hasTorn q_turnOne q_hasTurn q_text_ q_textMany q_toldMany q_toldAt_ q_hasTold q_stack_ q_codes q_ones q_top q_deep q_isWhole q_truths_ q_imaged_ q_namesKept_ q_areKept_), (q_s_, aC1 cy 383 q_s), (q_keptRow_, aC1 cy 8 q_keptRow), (q_rares_, aC1 cy 3 g_15), (q_trial_, aC1 cy 8 g_30)] → va_S A s.heap H locs → lv_has ls 7 [(0, .ref q), (1, .int a), (2, .int x_13), (3, .int x_27), (4, .int x_28), (5, .int x_29)] → W p l e (Rm 4 93 0 0) s m args below meth c H locs cells slots Q (F0 m 91 ls []) := by
              intro n_31
              induction n_31 with
              | zero =>
                intro x_27 x_28 x_29 g_30 H locs ls hm_36 hf_32 hf_33 hf_34 hf_35 hP hD hS hl
                exact absurd hm_36 (by omega)
              | succ n_31 ih_37 =>
                intro x_27 x_28 x_29 g_30 H locs ls hm_36 hf_32 hf_33 hf_34 hf_35 hP hD hS hl
                refine lv_iload hx hb dX11_keep_91 (lv_at hl 5 rfl) ?_
                refine lv_iload_n hx hb dX11_keep_93 rfl (lv_at hl 2 rfl) ?_
                refine lv_iload_n hx hb dX11_keep_94 rfl (lv_at hl 1 rfl) ?_
                refine q_ai (wr := [(q, oC11 0 q_tape_ q_length q_size q_p q_limit q_s_ q_h_ q_read_ q_names_ q_reserved_ q_token q_at q_span q_number q_fault q_faultAt q_word q_got q_lines q_onces q_webs q_one q_two q_seed q_undone_ q_before_ q_undoMany q_far_ q_wayRow_ q_wayMany q_keptRow_ q_askedRow_ q_rares_ q_trial_ q_keptMany q_askedMany q_hangs_ q_paths_ q_tornSteps q_hasTorn q_turnOne q_hasTurn q_text_ q_textMany q_toldMany q_toldAt_ q_hasTold q_stack_ q_codes q_ones q_top q_deep q_isWhole q_truths_ q_imaged_ q_namesKept_ q_areKept_), (q_s_, aC1 cy 383 q_s), (q_keptRow_, aC1 cy 8 q_keptRow), (q_rares_, aC1 cy 3 g_15), (q_trial_, aC1 cy 8 g_30)]) (r_S (rm := (Rm 0 0 0 0)) (As := [.int x_13, .int a]) (rest := [.int x_29]) (wc := []) C hS (q_subP hP [] rfl) (hD.sub [] (by decide) rfl) (y_power l D cy x_13 a _ ) kwS_X11_power kM_RX11_387 ⟨Nat.le_of_ble_eq_true rfl, Nat.le_of_ble_eq_true rfl⟩ rfl hl.1 rfl (Nat.le_of_ble_eq_true rfl) dX11_keep_95 ⟨hroom.1, hroom.2⟩) C.2.2.2.2.2.2.1 hP hD hS [] [0, 1, 2, 3, 4] rfl rfl (by decide) (by decide) (fun r_40 u_39 H locs hw_41 hP hD hS => ?_)
                have hqr_40 := o_rng r_40
                refine lv_icmp_ge (tgt := 139) hx hb dX11_keep_98 (by decide) (fun c_42 => ?_) (fun c_42 => ?_)
                · have hc_42 := o_le (rfl : r_40.toInt = r_40.toInt) (rfl : x_29.toInt = x_29.toInt) c_42
                  refine lv_iload_n hx hb dX11_keep_139 rfl (lv_at hl 3 rfl) ?_
                  refine lv_if_ge (tgt := 145) hx hb dX11_keep_140 (by decide) (fun c_43 => ?_) (fun c_43 => ?_)
                  · have hc_43 := o_le (by decide : (0 : Int32).toInt = 0) (rfl : x_27.toInt = x_27.toInt) c_43
                    refine lv_aload_n hx hb dX11_keep_145 rfl (lv_at hl 0 rfl) ?_
                    refine lv_iload_n hx hb dX11_keep_146 rfl (lv_at hl 1 rfl) ?_
                    refine q_put11 (v := .int a) (w' := [(q, oC11 0 q_tape_ q_length q_size q_p q_limit q_s_ q_h_ q_read_ q_names_ q_reserved_ q_token q_at q_span q_number q_fault q_faultAt q_word q_got q_lines q_onces q_webs q_one q_two q_seed q_undone_ q_before_ q_undoMany q_far_ q_wayRow_ q_wayMany q_keptRow_ q_askedRow_ q_rares_ q_trial_ a q_askedMany q_hangs_ q_paths_ q_tornSteps q_hasTorn q_turnOne q_hasTurn q_text_ q_textMany q_toldMany q_toldAt_ q_hasTold q_stack_ q_codes q_ones q_top q_deep q_isWhole q_truths_ q_imaged_ q_namesKept_ q_areKept_), (q_s_, aC1 cy 383 q_s), (q_keptRow_, aC1 cy 8 q_keptRow), (q_rares_, aC1 cy 3 g_15), (q_trial_, aC1 cy 8 g_30)]) C hP hD hS 0 35 rfl fT_35 fy_35 (by decide) kF_RX11_77 rfl rfl (Nat.le_of_ble_eq_true rfl) rfl dX11_keep_147 (fun H locs hP hD hS => ?_)
                    refine lv_iconst (v := 0) hx hb dX11_keep_150 (by decide) ?_
                    refine lv_istore (lv' := [(5, .int 0), (0, .ref q), (1, .int a), (2, .int x_13), (3, .int x_27), (4, .int x_28)]) hx hb dX11_keep_151 hl (by decide) rfl (fun ls hl => ?_)
                    have lp_153_45 : ∀ (n_46 : Nat) (x_44 : Int32) (g_45 : Nat → Int32) (H : Heap) (locs : List Loc) (ls : Array Slot), (-1) * x_44.toInt + 8 < (n_46 : Int) → (0 ≤ x_44.toInt ∧ x_44.toInt ≤ 8) → va_P D vwCl [(q, oC11 0 q_tape_ q_length q_size q_p q_limit q_s_ q_h_ q_read_ q_names_ q_reserved_ q_token q_at q_span q_number q_fault q_faultAt q_word q_got q_lines q_onces q_webs q_one q_two q_seed q_undone_ q_before_ q_undoMany q_far_ q_wayRow_ q_wayMany q_keptRow_ q_askedRow_ q_rares_ q_trial_ a q_askedMany q_hangs_ q_paths_ q_tornSteps q_hasTorn q_turnOne q_hasTurn q_text_ q_textMany q_toldMany q_toldAt_ q_hasTold q_stack_ q_codes q_ones q_top q_deep q_isWhole q_truths_ q_imaged_ q_namesKept_ q_areKept_), (q_s_, aC1 cy 383 q_s), (q_keptRow_, aC1 cy 8 g_45), (q_rares_, aC1 cy 3 g_15), (q_trial_, aC1 cy 8 g_30)] H → va_D A [(q, oC11 0 q_tape_ q_length q_size q_p q_limit q_s_ q_h_ q_read_ q_names_ q_reserved_ q_token q_at q_span q_number q_fault q_faultAt q_word q_got q_lines q_onces q_webs q_one q_two q_seed q_undone_ q_before_ q_undoMany q_far_ q_wayRow_ q_wayMany q_keptRow_ q_askedRow_ q_rares_ q_trial_ a q_askedMany q_hangs_ q_paths_ q_tornSteps q_hasTorn q_turnOne q_hasTurn q_text_ q_textMany q_toldMany q_toldAt_ q_hasTold q_stack_ q_codes q_ones q_top q_deep q_isWhole q_truths_ q_imaged_ q_namesKept_ q_areKept_), (q_s_, aC1 cy 383 q_s), (q_keptRow_, aC1 cy 8 g_45), (q_rares_, aC1 cy 3 g_15), (q_trial_, aC1 cy 8 g_30)] → va_S A s.heap H locs → lv_has ls 7 [(0, .ref q), (1, .int a), (2, .int x_13), (3, .int x_27), (4, .int x_28), (5, .int x_44)] → W p l e (Rm 4 93 0 0) s m args below meth c H locs cells slots Q (F0 m 153 ls []) := by
                      intro n_46
                      induction n_46 with
                      | zero =>
                        intro x_44 g_45 H locs ls hm_48 hf_47 hP hD hS hl
                        exact absurd hm_48 (by omega)
                      | succ n_46 ih_49 =>
                        intro x_44 g_45 H locs ls hm_48 hf_47 hP hD hS hl
                        refine lv_iload hx hb dX11_keep_153 (lv_at hl 5 rfl) ?_
                        refine lv_iload_n hx hb dX11_keep_155 rfl (lv_at hl 1 rfl) ?_
                        refine lv_icmp_ge (tgt := 201) hx hb dX11_keep_156 (by decide) (fun c_51 => ?_) (fun c_51 => ?_)
                        · have hc_51 := o_le (rfl : a.toInt = a.toInt) (rfl : x_44.toInt = x_44.toInt) c_51
                          refine lv_iload hx hb dX11_keep_201 (lv_at hl 4 rfl) ?_
                          refine o_wq hQ ?_
                          exact q_iret (rm := (Rm 4 93 0 0)) C hS (0, a, g_45, g_15, g_30) rfl ⟨(show (-1) ≤ x_28.toInt ∧ x_28.toInt ≤ 1000000000 by omega), (show (-1) ≤ a.toInt ∧ a.toInt ≤ 8 by omega), hg_20⟩ (q_subP hP [0, 1, 2, 3, 4] rfl) (hD.sub [0, 1, 2, 3, 4] (by decide) rfl) hroom.1 hroom.2 dX11_keep_203
                        · have hc_51 := o_nle (rfl : a.toInt = a.toInt) (rfl : x_44.toInt = x_44.toInt) c_51
                          refine lv_iload_n hx hb dX11_keep_159 rfl (lv_at hl 3 rfl) ?_
                          refine lv_iload_n hx hb dX11_keep_160 rfl (lv_at hl 2 rfl) ?_
                          refine lv_iload_n hx hb dX11_keep_161 rfl (lv_at hl 1 rfl) ?_
                          refine lv_iload hx hb dX11_keep_162 (lv_at hl 5 rfl) ?_
                          refine q_ai (wr := [(q, oC11 0 q_tape_ q_length q_size q_p q_limit q_s_ q_h_ q_read_ q_names_ q_reserved_ q_token q_at q_span q_number q_fault q_faultAt q_word q_got q_lines q_onces q_webs q_one q_two q_seed q_undone_ q_before_ q_undoMany q_far_ q_wayRow_ q_wayMany q_keptRow_ q_askedRow_ q_rares_ q_trial_ a q_askedMany q_hangs_ q_paths_ q_tornSteps q_hasTorn q_turnOne q_hasTurn q_text_ q_textMany q_toldMany q_toldAt_ q_hasTold q_stack_ q_codes q_ones q_top q_deep q_isWhole q_truths_ q_imaged_ q_namesKept_ q_areKept_), (q_s_, aC1 cy 383 q_s), (q_keptRow_, aC1 cy 8 g_45), (q_rares_, aC1 cy 3 g_15), (q_trial_, aC1 cy 8 g_30)]) (r_S (rm := (Rm 0 0 0 0)) (As := [.int x_27, .int x_13, .int a, .int x_44]) (rest := []) (wc := []) C hS (q_subP hP [] rfl) (hD.sub [] (by decide) rfl) (y_digit l D cy x_27 x_13 a x_44 _ (by omega) (by omega) (by omega) (by omega)) kwS_X11_digit kM_RX11_379 ⟨Nat.le_of_ble_eq_true rfl, Nat.le_of_ble_eq_true rfl⟩ rfl hl.1 rfl (Nat.le_of_ble_eq_true rfl) dX11_keep_164 ⟨hroom.1, hroom.2⟩) C.2.2.2.2.2.2.1 hP hD hS [] [0, 1, 2, 3, 4] rfl rfl (by decide) (by decide) (fun r_53 u_52 H locs hw_54 hP hD hS => ?_)
                          have hp_54 : 0 ≤ r_53.toInt ∧ r_53.toInt ≤ 8 := hw_54.1
                          have hp_55 : 0 ≤ r_53.toInt ∧ 0 ≤ x_13.toInt + (-1) * r_53.toInt + (-1) := hw_54.2
                          clear hw_54
                          refine lv_istore (lv' := [(6, .int r_53), (0, .ref q), (1, .int a), (2, .int x_13), (3, .int x_27), (4, .int x_28), (5, .int x_44)]) hx hb dX11_keep_167 hl (by decide) rfl (fun ls hl => ?_)
                          refine lv_aload_n hx hb dX11_keep_169 rfl (lv_at hl 1 rfl) ?_
                          refine q_get11 (v := .ref q_keptRow_) C hP 0 31 rfl fT_31 (by decide) kF_RX11_65 rfl dX11_keep_170 ?_
                          refine lv_iload hx hb dX11_keep_173 (lv_at hl 6 rfl) ?_
                          refine lv_iload hx hb dX11_keep_175 (lv_at hl 0 rfl) ?_
                          refine lv_iload_n hx hb dX11_keep_177 rfl (lv_at hl 3 rfl) ?_
                          refine lv_iconst (v := 1) hx hb dX11_keep_178 (by decide) ?_
                          refine lv_isub hx hb dX11_keep_179 ?_
                          refine lv_topi (fun z_57 hz_57 => ?_)
                          have hz_57 := o_sub hz_57 (rfl : x_13.toInt = x_13.toInt) (by decide : (1 : Int32).toInt = 1) (by omega) (by omega)
                          refine lv_icmp_ge (tgt := 193) hx hb dX11_keep_180 (by decide) (fun c_58 => ?_) (fun c_58 => ?_)
                          · have hc_58 := o_le (rfl : z_57.toInt = z_57.toInt) (rfl : r_53.toInt = r_53.toInt) c_58
                            refine lv_iconst (v := (-1)) hx hb dX11_keep_193 (by decide) ?_
                            refine q_iast (g := upd g_45 x_44.toNatClampNeg (-1)) (w' := [(q, oC11 0 q_tape_ q_length q_size q_p q_limit q_s_ q_h_ q_read_ q_names_ q_reserved_ q_token q_at q_span q_number q_fault q_faultAt q_word q_got q_lines q_onces q_webs q_one q_two q_seed q_undone_ q_before_ q_undoMany q_far_ q_wayRow_ q_wayMany q_keptRow_ q_askedRow_ q_rares_ q_trial_ a q_askedMany q_hangs_ q_paths_ q_tornSteps q_hasTorn q_turnOne q_hasTurn q_text_ q_textMany q_toldMany q_toldAt_ q_hasTold q_stack_ q_codes q_ones q_top q_deep q_isWhole q_truths_ q_imaged_ q_namesKept_ q_areKept_), (q_s_, aC1 cy 383 q_s), (q_keptRow_, aC1 cy 8 (upd g_45 x_44.toNatClampNeg (-1))), (q_rares_, aC1 cy 3 g_15), (q_trial_, aC1 cy 8 g_30)]) C hP hD hS 2 rfl (o_in (rfl : x_44.toInt = x_44.toInt) (by omega) (by omega)) rfl rfl dX11_keep_194 (fun H locs hP hD hS => ?_)
                            generalize upd g_45 x_44.toNatClampNeg (-1) = g_59 at hP hD 
                            have hP : va_P D vwCl [(q, oC11 0 q_tape_ q_length q_size q_p q_limit q_s_ q_h_ q_read_ q_names_ q_reserved_ q_token q_at q_span q_number q_fault q_faultAt q_word q_got q_lines q_onces q_webs q_one q_two q_seed q_undone_ q_before_ q_undoMany q_far_ q_wayRow_ q_wayMany q_keptRow_ q_askedRow_ q_rares_ q_trial_ a q_askedMany q_hangs_ q_paths_ q_tornSteps q_hasTorn q_turnOne q_hasTurn q_text_ q_textMany q_toldMany q_toldAt_ q_hasTold q_stack_ q_codes q_ones q_top q_deep q_isWhole q_truths_ q_imaged_ q_namesKept_ q_areKept_), (q_s_, aC1 cy 383 q_s), (q_keptRow_, aC1 cy 8 g_59), (q_rares_, aC1 cy 3 g_15), (q_trial_, aC1 cy 8 g_30)] H := hP
                            have hD : va_D A [(q, oC11 0 q_tape_ q_length q_size q_p q_limit q_s_ q_h_ q_read_ q_names_ q_reserved_ q_token q_at q_span q_number q_fault q_faultAt q_word q_got q_lines q_onces q_webs q_one q_two q_seed q_undone_ q_before_ q_undoMany q_far_ q_wayRow_ q_wayMany q_keptRow_ q_askedRow_ q_rares_ q_trial_ a q_askedMany q_hangs_ q_paths_ q_tornSteps q_hasTorn q_turnOne q_hasTurn q_text_ q_textMany q_toldMany q_toldAt_ q_hasTold q_stack_ q_codes q_ones q_top q_deep q_isWhole q_truths_ q_imaged_ q_namesKept_ q_areKept_), (q_s_, aC1 cy 383 q_s), (q_keptRow_, aC1 cy 8 g_59), (q_rares_, aC1 cy 3 g_15), (q_trial_, aC1 cy 8 g_30)] := hD
                            obtain ⟨z_60, hz_60⟩ : ∃ z : Int32, z = x_44 + 1 := ⟨_, rfl⟩
                            refine lv_iinc (v := z_60) (lv' := [(5, .int z_60), (6, .int r_53), (0, .ref q), (1, .int a), (2, .int x_13), (3, .int x_27), (4, .int x_28)]) hx hb dX11_keep_195 hl (k := 6) rfl hz_60.symm (by decide) rfl (fun ls hl => ?_)
                            have hz_60 := o_add hz_60 (rfl : x_44.toInt = x_44.toInt) (by decide : (1 : Int32).toInt = 1) (by omega) (by omega)
                            refine lv_goto (tgt := 153) hx hb dX11_keep_198 (by decide) ?_
                            exact ih_49 z_60 g_59 H locs ls (by omega) (by omega) hP hD hS (lv_sub hl [2, 3, 4, 5, 6, 0] rfl)
                          · have hc_58 := o_nle (rfl : z_57.toInt = z_57.toInt) (rfl : r_53.toInt = r_53.toInt) c_58
                            refine lv_aload_n hx hb dX11_keep_183 rfl (lv_at hl 1 rfl) ?_
                            refine q_get11 (v := .ref q_rares_) C hP 0 33 rfl fT_33 (by decide) kF_RX11_71 rfl dX11_keep_184 ?_
                            refine lv_iload hx hb dX11_keep_187 (lv_at hl 0 rfl) ?_
                            refine q_iald (v := g_15 r_53.toNatClampNeg) C hP 3 rfl (o_in (rfl : r_53.toInt = r_53.toInt) (by omega) (by omega)) rfl dX11_keep_189 ?_
                            refine lv_topi (fun z_61 ez_61 => ?_)
                            have hz_61 := Rg.at hg_20 ez_61 (by have := o_cl (rfl : r_53.toInt = r_53.toInt) (by omega); omega) (by have := o_cl (rfl : r_53.toInt = r_53.toInt) (by omega); omega)
                            refine lv_goto (tgt := 194) hx hb dX11_keep_190 (by decide) ?_
                            refine q_iast (g := upd g_45 x_44.toNatClampNeg z_61) (w' := [(q, oC11 0 q_tape_ q_length q_size q_p q_limit q_s_ q_h_ q_read_ q_names_ q_reserved_ q_token q_at q_span q_number q_fault q_faultAt q_word q_got q_lines q_onces q_webs q_one q_two q_seed q_undone_ q_before_ q_undoMany q_far_ q_wayRow_ q_wayMany q_keptRow_ q_askedRow_ q_rares_ q_trial_ a q_askedMany q_hangs_ q_paths_ q_tornSteps q_hasTorn q_turnOne q_hasTurn q_text_ q_textMany q_toldMany q_toldAt_ q_hasTold q_stack_ q_codes q_ones q_top q_deep q_isWhole q_truths_ q_imaged_ q_namesKept_ q_areKept_), (q_s_, aC1 cy 383 q_s), (q_keptRow_, aC1 cy 8 (upd g_45 x_44.toNatClampNeg z_61)), (q_rares_, aC1 cy 3 g_15), (q_trial_, aC1 cy 8 g_30)]) C hP hD hS 2 rfl (o_in (rfl : x_44.toInt = x_44.toInt) (by omega) (by omega)) rfl rfl dX11_keep_194 (fun H locs hP hD hS => ?_)
                            generalize upd g_45 x_44.toNatClampNeg z_61 = g_62 at hP hD 
                            have hP : va_P D vwCl [(q, oC11 0 q_tape_ q_length q_size q_p q_limit q_s_ q_h_ q_read_ q_names_ q_reserved_ q_token q_at q_span q_number q_fault q_faultAt q_word q_got q_lines q_onces q_webs q_one q_two q_seed q_undone_ q_before_ q_undoMany q_far_ q_wayRow_ q_wayMany q_keptRow_ q_askedRow_ q_rares_ q_trial_ a q_askedMany q_hangs_ q_paths_ q_tornSteps q_hasTorn q_turnOne q_hasTurn q_text_ q_textMany q_toldMany q_toldAt_ q_hasTold q_stack_ q_codes q_ones q_top q_deep q_isWhole q_truths_ q_imaged_ q_namesKept_ q_areKept_), (q_s_, aC1 cy 383 q_s), (q_keptRow_, aC1 cy 8 g_62), (q_rares_, aC1 cy 3 g_15), (q_trial_, aC1 cy 8 g_30)] H := hP
                            have hD : va_D A [(q, oC11 0 q_tape_ q_length q_size q_p q_limit q_s_ q_h_ q_read_ q_names_ q_reserved_ q_token q_at q_span q_number q_fault q_faultAt q_word q_got q_lines q_onces q_webs q_one q_two q_seed q_undone_ q_before_ q_undoMany q_far_ q_wayRow_ q_wayMany q_keptRow_ q_askedRow_ q_rares_ q_trial_ a q_askedMany q_hangs_ q_paths_ q_tornSteps q_hasTorn q_turnOne q_hasTurn q_text_ q_textMany q_toldMany q_toldAt_ q_hasTold q_stack_ q_codes q_ones q_top q_deep q_isWhole q_truths_ q_imaged_ q_namesKept_ q_areKept_), (q_s_, aC1 cy 383 q_s), (q_keptRow_, aC1 cy 8 g_62), (q_rares_, aC1 cy 3 g_15), (q_trial_, aC1 cy 8 g_30)] := hD
                            obtain ⟨z_63, hz_63⟩ : ∃ z : Int32, z = x_44 + 1 := ⟨_, rfl⟩
                            refine lv_iinc (v := z_63) (lv' := [(5, .int z_63), (6, .int r_53), (0, .ref q), (1, .int a), (2, .int x_13), (3, .int x_27), (4, .int x_28)]) hx hb dX11_keep_195 hl (k := 6) rfl hz_63.symm (by decide) rfl (fun ls hl => ?_)
                            have hz_63 := o_add hz_63 (rfl : x_44.toInt = x_44.toInt) (by decide : (1 : Int32).toInt = 1) (by omega) (by omega)
                            refine lv_goto (tgt := 153) hx hb dX11_keep_198 (by decide) ?_
                            exact ih_49 z_63 g_62 H locs ls (by omega) (by omega) hP hD hS (lv_sub hl [2, 3, 4, 5, 6, 0] rfl)
                    exact lp_153_45 9 (0 : Int32) q_keptRow H locs ls (by have e0 : (0 : Int32).toInt = 0 := (by decide); omega) (by have e0 : (0 : Int32).toInt = 0 := (by decide); omega) hP hD hS (lv_sub hl [1, 2, 3, 4, 5, 0] rfl)
                  · have hc_43 := o_nle (by decide : (0 : Int32).toInt = 0) (rfl : x_27.toInt = x_27.toInt) c_43
                    refine lv_iconst (v := (-1)) hx hb dX11_keep_143 (by decide) ?_
                    refine o_wq hQ ?_
                    exact q_iret (rm := (Rm 4 93 0 0)) C hS (0, q_keptMany, q_keptRow, g_15, g_30) rfl ⟨(show (-1) ≤ ((-1) : Int32).toInt ∧ ((-1) : Int32).toInt ≤ 1000000000 by decide), (show (-1) ≤ q_keptMany.toInt ∧ q_keptMany.toInt ≤ 8 by omega), hg_20⟩ (q_subP hP [0, 1, 2, 3, 4] rfl) (hD.sub [0, 1, 2, 3, 4] (by decide) rfl) hroom.1 hroom.2 dX11_keep_144
                · have hc_42 := o_nle (rfl : r_40.toInt = r_40.toInt) (rfl : x_29.toInt = x_29.toInt) c_42
                  refine lv_aload_n hx hb dX11_keep_101 rfl (lv_at hl 0 rfl) ?_
                  refine lv_iload hx hb dX11_keep_102 (lv_at hl 5 rfl) ?_
                  refine lv_iload_n hx hb dX11_keep_104 rfl (lv_at hl 2 rfl) ?_
                  refine lv_iload_n hx hb dX11_keep_105 rfl (lv_at hl 1 rfl) ?_
                  refine q_ai (wr := [(q_keptRow_, aC1 cy 8 q_keptRow)]) (r_V (rm := (Rm 3 65 0 0)) (q0 := 0) (As := [.int x_29, .int x_13, .int a]) (rest := []) (wc := [(q, oC11 0 q_tape_ q_length q_size q_p q_limit q_s_ q_h_ q_read_ q_names_ q_reserved_ q_token q_at q_span q_number q_fault q_faultAt q_word q_got q_lines q_onces q_webs q_one q_two q_seed q_undone_ q_before_ q_undoMany q_far_ q_wayRow_ q_wayMany q_keptRow_ q_askedRow_ q_rares_ q_trial_ q_keptMany q_askedMany q_hangs_ q_paths_ q_tornSteps q_hasTorn q_turnOne q_hasTurn q_text_ q_textMany q_toldMany q_toldAt_ q_hasTold q_stack_ q_codes q_ones q_top q_deep q_isWhole q_truths_ q_imaged_ q_namesKept_ q_areKept_), (q_s_, aC1 cy 383 q_s), (q_rares_, aC1 cy 3 g_15), (q_trial_, aC1 cy 8 g_30)]) C hS (q_subP hP [0, 1, 3, 4] rfl) (hD.sub [0, 1, 3, 4] (by decide) rfl) (y_keptBy l D cy q x_29 x_13 a 0 q_tape_ q_length q_size q_p q_limit q_s_ q_h_ q_read_ q_names_ q_reserved_ q_token q_at q_span q_number q_fault q_faultAt q_word q_got q_lines q_onces q_webs q_one q_two q_seed q_undone_ q_before_ q_undoMany q_far_ q_wayRow_ q_wayMany q_keptRow_ q_askedRow_ q_rares_ q_trial_ q_keptMany q_askedMany q_hangs_ q_paths_ q_tornSteps q_hasTorn q_turnOne q_hasTurn q_text_ q_textMany q_toldMany q_toldAt_ q_hasTold q_stack_ q_codes q_ones q_top q_deep q_isWhole q_truths_ q_imaged_ q_namesKept_ q_areKept_ q_s g_15 g_30 _ (by omega) (by omega) (by omega) (by omega) (by omega) (by omega) (by omega) (by omega) (by omega) (by omega) (by omega) (by omega) (by omega) (by omega) (by omega) (by omega) (by omega) (by omega) (by omega) (by omega) (by omega) (by omega) (by omega) (by omega) (by omega) hR0 hR1 hR2 hR3 hR4 hR5 hR6 hR7 hR8 hg_20) kwV_X11_keptBy kM_RX11_390 rfl rfl ⟨Nat.le_of_ble_eq_true rfl, Nat.le_of_ble_eq_true rfl⟩ rfl hl.1 rfl (Nat.le_of_ble_eq_true rfl) dX11_keep_106 ⟨hroom.1, hroom.2⟩) C.2.2.2.2.2.2.1 hP hD hS [0, 1, 3, 4] [2] rfl rfl (by decide) (by decide) (fun r_65 u_64 H locs hw_66 hP hD hS => ?_)
                  obtain ⟨g_67, rfl⟩ : ∃ z, z = u_64 := ⟨_, rfl⟩
                  have hP : va_P D vwCl [(q_keptRow_, aC1 cy 8 q_keptRow), (q, oC11 0 q_tape_ q_length q_size q_p q_limit q_s_ q_h_ q_read_ q_names_ q_reserved_ q_token q_at q_span q_number q_fault q_faultAt q_word q_got q_lines q_onces q_webs q_one q_two q_seed q_undone_ q_before_ q_undoMany q_far_ q_wayRow_ q_wayMany q_keptRow_ q_askedRow_ q_rares_ q_trial_ q_keptMany q_askedMany q_hangs_ q_paths_ q_tornSteps q_hasTorn q_turnOne q_hasTurn q_text_ q_textMany q_toldMany q_toldAt_ q_hasTold q_stack_ q_codes q_ones q_top q_deep q_isWhole q_truths_ q_imaged_ q_namesKept_ q_areKept_), (q_s_, aC1 cy 383 q_s), (q_rares_, aC1 cy 3 g_15), (q_trial_, aC1 cy 8 g_67)] H := hP
                  have hD : va_D A [(q_keptRow_, aC1 cy 8 q_keptRow), (q, oC11 0 q_tape_ q_length q_size q_p q_limit q_s_ q_h_ q_read_ q_names_ q_reserved_ q_token q_at q_span q_number q_fault q_faultAt q_word q_got q_lines q_onces q_webs q_one q_two q_seed q_undone_ q_before_ q_undoMany q_far_ q_wayRow_ q_wayMany q_keptRow_ q_askedRow_ q_rares_ q_trial_ q_keptMany q_askedMany q_hangs_ q_paths_ q_tornSteps q_hasTorn q_turnOne q_hasTurn q_text_ q_textMany q_toldMany q_toldAt_ q_hasTold q_stack_ q_codes q_ones q_top q_deep q_isWhole q_truths_ q_imaged_ q_namesKept_ q_areKept_), (q_s_, aC1 cy 383 q_s), (q_rares_, aC1 cy 3 g_15), (q_trial_, aC1 cy 8 g_67)] := hD
                  refine lv_istore (lv' := [(6, .int r_65), (0, .ref q), (1, .int a), (2, .int x_13), (3, .int x_27), (4, .int x_28), (5, .int x_29)]) hx hb dX11_keep_109 hl (by decide) rfl (fun ls hl => ?_)
                  refine lv_iload hx hb dX11_keep_111 (lv_at hl 0 rfl) ?_
                  refine lv_if_lt (tgt := 133) hx hb dX11_keep_113 (by decide) (fun c_68 => ?_) (fun c_68 => ?_)
                  · have hc_68 := o_lt (rfl : r_65.toInt = r_65.toInt) (by decide : (0 : Int32).toInt = 0) c_68
                    obtain ⟨z_69, hz_69⟩ : ∃ z : Int32, z = x_29 + 1 := ⟨_, rfl⟩
                    refine lv_iinc (v := z_69) (lv' := [(5, .int z_69), (6, .int r_65), (0, .ref q), (1, .int a), (2, .int x_13), (3, .int x_27), (4, .int x_28)]) hx hb dX11_keep_133 hl (k := 6) rfl hz_69.symm (by decide) rfl (fun ls hl => ?_)
                    have hz_69 := o_add hz_69 (rfl : x_29.toInt = x_29.toInt) (by decide : (1 : Int32).toInt = 1) (by omega) (by omega)
                    refine lv_goto (tgt := 91) hx hb dX11_keep_136 (by decide) ?_
                    exact ih_37 x_27 x_28 z_69 g_67 H locs ls (by omega) (by omega) (by omega) (by omega) (by omega) (q_subP hP [1, 2, 0, 3, 4] rfl) (hD.sub [1, 2, 0, 3, 4] (by decide) rfl) hS (lv_sub hl [2, 3, 4, 5, 6, 0] rfl)
                  · have hc_68 := o_nlt (rfl : r_65.toInt = r_65.toInt) (by decide : (0 : Int32).toInt = 0) c_68
                    refine lv_iload hx hb dX11_keep_116 (lv_at hl 0 rfl) ?_
                    refine lv_iload hx hb dX11_keep_118 (lv_at hl 5 rfl) ?_
                    refine lv_icmp_lt (tgt := 126) hx hb dX11_keep_120 (by decide) (fun c_70 => ?_) (fun c_70 => ?_)
                    · have hc_70 := o_lt (rfl : r_65.toInt = r_65.toInt) (rfl : x_28.toInt = x_28.toInt) c_70
                      refine lv_iload hx hb dX11_keep_126 (lv_at hl 0 rfl) ?_
                      refine lv_istore (lv' := [(4, .int r_65), (6, .int r_65), (0, .ref q), (1, .int a), (2, .int x_13), (3, .int x_27), (5, .int x_29)]) hx hb dX11_keep_128 hl (by decide) rfl (fun ls hl => ?_)
                      refine lv_iload hx hb dX11_keep_130 (lv_at hl 6 rfl) ?_
                      refine lv_istore_n (lv' := [(3, .int x_29), (4, .int r_65), (6, .int r_65), (0, .ref q), (1, .int a), (2, .int x_13), (5, .int x_29)]) hx hb dX11_keep_132 rfl hl (by decide) rfl (fun ls hl => ?_)
                      obtain ⟨z_71, hz_71⟩ : ∃ z : Int32, z = x_29 + 1 := ⟨_, rfl⟩
                      refine lv_iinc (v := z_71) (lv' := [(5, .int z_71), (3, .int x_29), (4, .int r_65), (6, .int r_65), (0, .ref q), (1, .int a), (2, .int x_13)]) hx hb dX11_keep_133 hl (k := 6) rfl hz_71.symm (by decide) rfl (fun ls hl => ?_)
                      have hz_71 := o_add hz_71 (rfl : x_29.toInt = x_29.toInt) (by decide : (1 : Int32).toInt = 1) (by omega) (by omega)
                      refine lv_goto (tgt := 91) hx hb dX11_keep_136 (by decide) ?_
                      exact ih_37 x_29 r_65 z_71 g_67 H locs ls (by omega) (by omega) (by omega) (by omega) (by omega) (q_subP hP [1, 2, 0, 3, 4] rfl) (hD.sub [1, 2, 0, 3, 4] (by decide) rfl) hS (lv_sub hl [4, 5, 6, 1, 2, 0] rfl)
                    · have hc_70 := o_nlt (rfl : r_65.toInt = r_65.toInt) (rfl : x_28.toInt = x_28.toInt) c_70
                      refine lv_goto (tgt := 133) hx hb dX11_keep_123 (by decide) ?_
                      obtain ⟨z_72, hz_72⟩ : ∃ z : Int32, z = x_29 + 1 := ⟨_, rfl⟩
                      refine lv_iinc (v := z_72) (lv' := [(5, .int z_72), (6, .int r_65), (0, .ref q), (1, .int a), (2, .int x_13), (3, .int x_27), (4, .int x_28)]) hx hb dX11_keep_133 hl (k := 6) rfl hz_72.symm (by decide) rfl (fun ls hl => ?_)
                      have hz_72 := o_add hz_72 (rfl : x_29.toInt = x_29.toInt) (by decide : (1 : Int32).toInt = 1) (by omega) (by omega)
                      refine lv_goto (tgt := 91) hx hb dX11_keep_136 (by decide) ?_
                      exact ih_37 x_27 x_28 z_72 g_67 H locs ls (by omega) (by omega) (by omega) (by omega) (by omega) (q_subP hP [1, 2, 0, 3, 4] rfl) (hD.sub [1, 2, 0, 3, 4] (by decide) rfl) hS (lv_sub hl [2, 3, 4, 5, 6, 0] rfl)
            exact lp_91_30 2147483648 ((-1) : Int32) (1000000000 : Int32) (0 : Int32) q_trial H locs ls (by have e0 : ((-1) : Int32).toInt = -1 := (by decide); have e1 : (0 : Int32).toInt = 0 := (by decide); have e2 : (1000000000 : Int32).toInt = 1000000000 := (by decide); omega) (by have e0 : ((-1) : Int32).toInt = -1 := (by decide); have e1 : (0 : Int32).toInt = 0 := (by decide); have e2 : (1000000000 : Int32).toInt = 1000000000 := (by decide); omega) (by have e0 : ((-1) : Int32).toInt = -1 := (by decide); have e1 : (0 : Int32).toInt = 0 := (by decide); have e2 : (1000000000 : Int32).toInt = 1000000000 := (by decide); omega) (by have e0 : ((-1) : Int32).toInt = -1 := (by decide); have e1 : (0 : Int32).toInt = 0 := (by decide); have e2 : (1000000000 : Int32).toInt = 1000000000 := (by decide); omega) (by have e0 : ((-1) : Int32).toInt = -1 := (by decide); have e1 : (0 : Int32).toInt = 0 := (by decide); have e2 : (1000000000 : Int32).toInt = 1000000000 := (by decide); omega) hP hD hS (lv_sub hl [3, 4, 5, 2, 1, 0] rfl)
          · have hc_26 := o_nle (rfl : z_25.toInt = z_25.toInt) (rfl : x_14.toInt = x_14.toInt) c_26
            refine lv_aload_n hx hb dX11_keep_46 rfl (lv_at hl 0 rfl) ?_
            refine q_get11 (v := .ref q_s_) C hP 0 6 rfl fT_6 (by decide) kF_RX11_33 rfl dX11_keep_47 ?_
            refine lv_bipush (v := 103) hx hb dX11_keep_50 (by decide) ?_
            refine q_iald (v := n_11) C hP 1 rfl (vin (by decide +kernel)) en_11.symm dX11_keep_52 ?_
            refine lv_iload_n hx hb dX11_keep_53 rfl (lv_at hl 3 rfl) ?_
            refine q_ai (wr := [(q, oC11 0 q_tape_ q_length q_size q_p q_limit q_s_ q_h_ q_read_ q_names_ q_reserved_ q_token q_at q_span q_number q_fault q_faultAt q_word q_got q_lines q_onces q_webs q_one q_two q_seed q_undone_ q_before_ q_undoMany q_far_ q_wayRow_ q_wayMany q_keptRow_ q_askedRow_ q_rares_ q_trial_ q_keptMany q_askedMany q_hangs_ q_paths_ q_tornSteps q_hasTorn q_turnOne q_hasTurn q_text_ q_textMany q_toldMany q_toldAt_ q_hasTold q_stack_ q_codes q_ones q_top q_deep q_isWhole q_truths_ q_imaged_ q_namesKept_ q_areKept_), (q_s_, aC1 cy 383 q_s), (q_keptRow_, aC1 cy 8 q_keptRow), (q_rares_, aC1 cy 3 g_15), (q_trial_, aC1 cy 8 q_trial)]) (r_S (rm := (Rm 0 0 0 0)) (As := [.int n_11, .int x_14]) (rest := []) (wc := []) C hS (q_subP hP [] rfl) (hD.sub [] (by decide) rfl) (y_bitOf l D cy n_11 x_14 _ ) kwS_X11_bitOf kM_RX11_231 ⟨Nat.le_of_ble_eq_true rfl, Nat.le_of_ble_eq_true rfl⟩ rfl hl.1 rfl (Nat.le_of_ble_eq_true rfl) dX11_keep_54 ⟨hroom.1, hroom.2⟩) C.2.2.2.2.2.2.1 hP hD hS [] [0, 1, 2, 3, 4] rfl rfl (by decide) (by decide) (fun r_74 u_73 H locs hw_75 hP hD hS => ?_)
            have hp_75 : 0 ≤ r_74.toInt ∧ r_74.toInt ≤ 1 := hw_75.1
            have hp_76 : r_74 = bt n_11 x_14 := hw_75.2
            clear hw_75
            refine lv_if_ne (tgt := 63) hx hb dX11_keep_57 (by decide) (fun c_78 => ?_) (fun c_78 => ?_)
            · have hc_78 := o_ne (rfl : r_74.toInt = r_74.toInt) (by decide : (0 : Int32).toInt = 0) c_78
              have hnc_78 : 0 ≤ r_74.toInt + (-1) := by rcases Int.lt_or_gt_of_ne hc_78 with h9 | h9 <;> omega
              have hq_78 := bcl_step (x := n_11) (b := x_14) (by omega) (by omega) (by omega) (by omega) hp_76
              refine lv_aload_n hx hb dX11_keep_63 rfl (lv_at hl 0 rfl) ?_
              refine q_get11 (v := .ref q_rares_) C hP 0 33 rfl fT_33 (by decide) kF_RX11_71 rfl dX11_keep_64 ?_
              refine lv_iload_n hx hb dX11_keep_67 rfl (lv_at hl 2 rfl) ?_
              refine lv_iconst (v := 1) hx hb dX11_keep_68 (by decide) ?_
              refine lv_isub hx hb dX11_keep_69 ?_
              refine lv_topi (fun z_80 hz_80 => ?_)
              have hz_80 := o_sub hz_80 (rfl : x_13.toInt = x_13.toInt) (by decide : (1 : Int32).toInt = 1) (by omega) (by omega)
              refine lv_iload_n hx hb dX11_keep_70 rfl (lv_at hl 3 rfl) ?_
              refine q_iast (g := upd g_15 z_80.toNatClampNeg x_14) (w' := [(q, oC11 0 q_tape_ q_length q_size q_p q_limit q_s_ q_h_ q_read_ q_names_ q_reserved_ q_token q_at q_span q_number q_fault q_faultAt q_word q_got q_lines q_onces q_webs q_one q_two q_seed q_undone_ q_before_ q_undoMany q_far_ q_wayRow_ q_wayMany q_keptRow_ q_askedRow_ q_rares_ q_trial_ q_keptMany q_askedMany q_hangs_ q_paths_ q_tornSteps q_hasTorn q_turnOne q_hasTurn q_text_ q_textMany q_toldMany q_toldAt_ q_hasTold q_stack_ q_codes q_ones q_top q_deep q_isWhole q_truths_ q_imaged_ q_namesKept_ q_areKept_), (q_s_, aC1 cy 383 q_s), (q_keptRow_, aC1 cy 8 q_keptRow), (q_rares_, aC1 cy 3 (upd g_15 z_80.toNatClampNeg x_14)), (q_trial_, aC1 cy 8 q_trial)]) C hP hD hS 3 rfl (o_in (rfl : z_80.toInt = z_80.toInt) (by omega) (by omega)) rfl rfl dX11_keep_71 (fun H locs hP hD hS => ?_)
              have Rg_81_0 := Rg.upd_in (k := z_80.toNatClampNeg) (v := x_14) hg_20 (by omega) (by omega)
              generalize upd g_15 z_80.toNatClampNeg x_14 = g_81 at hP hD Rg_81_0
              have hP : va_P D vwCl [(q, oC11 0 q_tape_ q_length q_size q_p q_limit q_s_ q_h_ q_read_ q_names_ q_reserved_ q_token q_at q_span q_number q_fault q_faultAt q_word q_got q_lines q_onces q_webs q_one q_two q_seed q_undone_ q_before_ q_undoMany q_far_ q_wayRow_ q_wayMany q_keptRow_ q_askedRow_ q_rares_ q_trial_ q_keptMany q_askedMany q_hangs_ q_paths_ q_tornSteps q_hasTorn q_turnOne q_hasTurn q_text_ q_textMany q_toldMany q_toldAt_ q_hasTold q_stack_ q_codes q_ones q_top q_deep q_isWhole q_truths_ q_imaged_ q_namesKept_ q_areKept_), (q_s_, aC1 cy 383 q_s), (q_keptRow_, aC1 cy 8 q_keptRow), (q_rares_, aC1 cy 3 g_81), (q_trial_, aC1 cy 8 q_trial)] H := hP
              have hD : va_D A [(q, oC11 0 q_tape_ q_length q_size q_p q_limit q_s_ q_h_ q_read_ q_names_ q_reserved_ q_token q_at q_span q_number q_fault q_faultAt q_word q_got q_lines q_onces q_webs q_one q_two q_seed q_undone_ q_before_ q_undoMany q_far_ q_wayRow_ q_wayMany q_keptRow_ q_askedRow_ q_rares_ q_trial_ q_keptMany q_askedMany q_hangs_ q_paths_ q_tornSteps q_hasTorn q_turnOne q_hasTurn q_text_ q_textMany q_toldMany q_toldAt_ q_hasTold q_stack_ q_codes q_ones q_top q_deep q_isWhole q_truths_ q_imaged_ q_namesKept_ q_areKept_), (q_s_, aC1 cy 383 q_s), (q_keptRow_, aC1 cy 8 q_keptRow), (q_rares_, aC1 cy 3 g_81), (q_trial_, aC1 cy 8 q_trial)] := hD
              obtain ⟨z_82, hz_82⟩ : ∃ z : Int32, z = x_13 + 1 := ⟨_, rfl⟩
              refine lv_iinc (v := z_82) (lv' := [(2, .int z_82), (0, .ref q), (1, .int a), (3, .int x_14)]) hx hb dX11_keep_72 hl (k := 2) rfl hz_82.symm (by decide) rfl (fun ls hl => ?_)
              have hz_82 := o_add hz_82 (rfl : x_13.toInt = x_13.toInt) (by decide : (1 : Int32).toInt = 1) (by omega) (by omega)
              obtain ⟨z_83, hz_83⟩ : ∃ z : Int32, z = x_14 + 1 := ⟨_, rfl⟩
              refine lv_iinc (v := z_83) (lv' := [(3, .int z_83), (2, .int z_82), (0, .ref q), (1, .int a)]) hx hb dX11_keep_75 hl (k := 3) rfl hz_83.symm (by decide) rfl (fun ls hl => ?_)
              have hz_83 := o_add hz_83 (rfl : x_14.toInt = x_14.toInt) (by decide : (1 : Int32).toInt = 1) (by omega) (by omega)
              have hq_84 : z_82.toInt = 1 + bcl n_11.toInt z_83.toInt := keep1 (r := r_74) hf_19 (bcl_step (x := n_11) (b := x_14) (by omega) (by omega) (by omega) (by omega) hp_76).1 (by omega) (by omega)
              refine lv_goto (tgt := 36) hx hb dX11_keep_78 (by decide) ?_
              exact ih_22 z_82 z_83 g_81 H locs ls (by omega) (by omega) (by omega) hq_84 Rg_81_0 hP hD hS (lv_sub hl [2, 3, 1, 0] rfl)
            · have hc_78 := o_eq (rfl : r_74.toInt = r_74.toInt) (by decide : (0 : Int32).toInt = 0) c_78
              refine lv_goto (tgt := 75) hx hb dX11_keep_60 (by decide) ?_
              obtain ⟨z_86, hz_86⟩ : ∃ z : Int32, z = x_14 + 1 := ⟨_, rfl⟩
              refine lv_iinc (v := z_86) (lv' := [(3, .int z_86), (0, .ref q), (1, .int a), (2, .int x_13)]) hx hb dX11_keep_75 hl (k := 3) rfl hz_86.symm (by decide) rfl (fun ls hl => ?_)
              have hz_86 := o_add hz_86 (rfl : x_14.toInt = x_14.toInt) (by decide : (1 : Int32).toInt = 1) (by omega) (by omega)
              have hq_87 : x_13.toInt = 1 + bcl n_11.toInt z_86.toInt := keep1 (r := r_74) hf_19 (bcl_step (x := n_11) (b := x_14) (by omega) (by omega) (by omega) (by omega) hp_76).1 (by omega) (by omega)
              refine lv_goto (tgt := 36) hx hb dX11_keep_78 (by decide) ?_
              exact ih_22 x_13 z_86 g_15 H locs ls (by omega) (by omega) (by omega) hq_87 hg_20 hP hD hS (lv_sub hl [1, 2, 3, 0] rfl)
      exact lp_36_15 9 (1 : Int32) (0 : Int32) q_rares H locs ls (by have e0 : (0 : Int32).toInt = 0 := (by decide); have e1 : (1 : Int32).toInt = 1 := (by decide); omega) (by have e0 : (0 : Int32).toInt = 0 := (by decide); have e1 : (1 : Int32).toInt = 1 := (by decide); omega) (by have e0 : (0 : Int32).toInt = 0 := (by decide); have e1 : (1 : Int32).toInt = 1 := (by decide); omega) (keep0 _) hR10 hP hD hS (lv_sub hl [2, 3, 1, 0] rfl)
    · have hc_10 := o_nle (rfl : z_9.toInt = z_9.toInt) (by decide : (400 : Int32).toInt = 400) c_10
      refine lv_iconst (v := (-1)) hx hb dX11_keep_30 (by decide) ?_
      refine o_wq hQ ?_
      exact q_iret (rm := (Rm 4 93 0 0)) C hS (0, q_keptMany, q_keptRow, q_rares, q_trial) rfl ⟨(show (-1) ≤ ((-1) : Int32).toInt ∧ ((-1) : Int32).toInt ≤ 1000000000 by decide), (show (-1) ≤ q_keptMany.toInt ∧ q_keptMany.toInt ≤ 8 by omega), hR10⟩ (q_subP hP [0, 1, 2, 3, 4] rfl) (hD.sub [0, 1, 2, 3, 4] (by decide) rfl) hroom.1 hroom.2 dX11_keep_31
theorem y_keep (l : Launch) (D : va_G) (cy : Nat → ClassId) (q : Nat) (a : Int32) (q_thrown : Int32) (q_tape_ : Nat) (q_length : Int32) (q_size : Int32) (q_p : Int32) (q_limit : Int32) (q_s_ : Nat) (q_h_ : Nat) (q_read_ : Nat) (q_names_ : Nat) (q_reserved_ : Nat) (q_token : Int32) (q_at : Int32) (q_span : Int32) (q_number : Int32) (q_fault : Int32) (q_faultAt : Int32) (q_word : Int64) (q_got : Int32) (q_lines : Int32) (q_onces : Int32) (q_webs : Int32) (q_one : Int32) (q_two : Int32) (q_seed : Int32) (q_undone_ : Nat) (q_before_ : Nat) (q_undoMany : Int32) (q_far_ : Nat) (q_wayRow_ : Nat) (q_wayMany : Int32) (q_keptRow_ : Nat) (q_askedRow_ : Nat) (q_rares_ : Nat) (q_trial_ : Nat) (q_keptMany : Int32) (q_askedMany : Int32) (q_hangs_ : Nat) (q_paths_ : Nat) (q_tornSteps : Int32) (q_hasTorn : Int32) (q_turnOne : Int32) (q_hasTurn : Int32) (q_text_ : Nat) (q_textMany : Int32) (q_toldMany : Int32) (q_toldAt_ : Nat) (q_hasTold : Int32) (q_stack_ : Nat) (q_codes : Int32) (q_ones : Int32) (q_top : Int32) (q_deep : Int32) (q_isWhole : Int32) (q_truths_ : Nat) (q_imaged_ : Nat) (q_namesKept_ : Nat) (q_areKept_ : Nat) (q_s : Nat → Int32) (q_keptRow : Nat → Int32) (q_rares : Nat → Int32) (q_trial : Nat → Int32) (sz : Nat) (hb0 : 0 ≤ q_length.toInt ∧ q_length.toInt ≤ 940) (hb1 : 0 ≤ q_size.toInt ∧ q_size.toInt ≤ 940) (hb2 : 0 ≤ q_p.toInt ∧ q_p.toInt ≤ 940) (hb3 : 0 ≤ q_limit.toInt ∧ q_limit.toInt ≤ 940) (hb4 : 0 ≤ q_span.toInt ∧ q_span.toInt ≤ 940) (hb5 : 0 ≤ q_number.toInt ∧ q_number.toInt ≤ 8214) (hb6 : (-1) ≤ q_got.toInt ∧ q_got.toInt ≤ 8214) (hb7 : 0 ≤ q_one.toInt ∧ q_one.toInt ≤ 7) (hb8 : 0 ≤ q_two.toInt ∧ q_two.toInt ≤ 7) (hb9 : 0 ≤ q_undoMany.toInt ∧ q_undoMany.toInt ≤ 8) (hb10 : (-1) ≤ q_wayMany.toInt ∧ q_wayMany.toInt ≤ 8) (hb11 : (-1) ≤ q_keptMany.toInt ∧ q_keptMany.toInt ≤ 8) (hb12 : (-1) ≤ q_askedMany.toInt ∧ q_askedMany.toInt ≤ 3) (hb13 : 0 ≤ q_hasTorn.toInt ∧ q_hasTorn.toInt ≤ 1) (hb14 : 0 ≤ q_hasTurn.toInt ∧ q_hasTurn.toInt ≤ 1) (hb15 : 0 ≤ q_textMany.toInt ∧ q_textMany.toInt ≤ 48) (hb16 : 0 ≤ q_toldMany.toInt ∧ q_toldMany.toInt ≤ 40) (hb17 : 0 ≤ q_hasTold.toInt ∧ q_hasTold.toInt ≤ 1) (hb18 : 0 ≤ q_codes.toInt ∧ q_codes.toInt ≤ 40) (hb19 : 0 ≤ q_ones.toInt ∧ q_ones.toInt ≤ 20) (hb20 : 0 ≤ q_top.toInt ∧ q_top.toInt ≤ 40) (hb21 : 0 ≤ q_isWhole.toInt ∧ q_isWhole.toInt ≤ 1) (hR0 : Rg q_s 0 1 0 8) (hR1 : Rg q_s 1 3 0 6) (hR2 : Rg q_s 3 4 1 50) (hR3 : Rg q_s 4 5 1 5) (hR4 : Rg q_s 103 104 0 255) (hR5 : Rg q_s 7 23 0 5) (hR6 : Rg q_s 106 122 0 5) (hR7 : Rg q_s 23 31 0 99) (hR8 : Rg q_s 122 130 0 99) (hR9 : Sv q_s) (hR10 : Rg q_rares 0 3 0 7) : MI l yX11_keep cX11_keep 7 (some .int) (Rm 4 93 0 0) D cy [.ref q, .int a] sz [(q, oC11 q_thrown q_tape_ q_length q_size q_p q_limit q_s_ q_h_ q_read_ q_names_ q_reserved_ q_token q_at q_span q_number q_fault q_faultAt q_word q_got q_lines q_onces q_webs q_one q_two q_seed q_undone_ q_before_ q_undoMany q_far_ q_wayRow_ q_wayMany q_keptRow_ q_askedRow_ q_rares_ q_trial_ q_keptMany q_askedMany q_hangs_ q_paths_ q_tornSteps q_hasTorn q_turnOne q_hasTurn q_text_ q_textMany q_toldMany q_toldAt_ q_hasTold q_stack_ q_codes q_ones q_top q_deep q_isWhole q_truths_ q_imaged_ q_namesKept_ q_areKept_), (q_s_, aC1 cy 383 q_s), (q_keptRow_, aC1 cy 8 q_keptRow), (q_rares_, aC1 cy 3 q_rares), (q_trial_, aC1 cy 8 q_trial)] (fun (r : Int32) (u : Int32 × Int32 × (Nat → Int32) × (Nat → Int32) × (Nat → Int32)) => ((-1) ≤ r.toInt ∧ r.toInt ≤ 1000000000) ∧ ((-1) ≤ u.2.1.toInt ∧ u.2.1.toInt ≤ 8) ∧ (Rg u.2.2.2.1 0 3 0 7)) (fun u : Int32 × Int32 × (Nat → Int32) × (Nat → Int32) × (Nat → Int32) => [(q, oC11 u.1 q_tape_ q_length q_size q_p q_limit q_s_ q_h_ q_read_ q_names_ q_reserved_ q_token q_at q_span q_number q_fault q_faultAt q_word q_got q_lines q_onces q_webs q_one q_two q_seed q_undone_ q_before_ q_undoMany q_far_ q_wayRow_ q_wayMany q_keptRow_ q_askedRow_ q_rares_ q_trial_ u.2.1 q_askedMany q_hangs_ q_paths_ q_tornSteps q_hasTorn q_turnOne q_hasTurn q_text_ q_textMany q_toldMany q_toldAt_ q_hasTold q_stack_ q_codes q_ones q_top q_deep q_isWhole q_truths_ q_imaged_ q_namesKept_ q_areKept_), (q_s_, aC1 cy 383 q_s), (q_keptRow_, aC1 cy 8 u.2.2.1), (q_rares_, aC1 cy 3 u.2.2.2.1), (q_trial_, aC1 cy 8 u.2.2.2.2)]) := by
  refine MI.enter (by decide) (Nat.le_of_ble_eq_true rfl) ?_
  intro p e s m below meth c ls A hsz hAe C hP hD hS hl
  exact b_y_keep l D cy q a q_thrown q_tape_ q_length q_size q_p q_limit q_s_ q_h_ q_read_ q_names_ q_reserved_ q_token q_at q_span q_number q_fault q_faultAt q_word q_got q_lines q_onces q_webs q_one q_two q_seed q_undone_ q_before_ q_undoMany q_far_ q_wayRow_ q_wayMany q_keptRow_ q_askedRow_ q_rares_ q_trial_ q_keptMany q_askedMany q_hangs_ q_paths_ q_tornSteps q_hasTorn q_turnOne q_hasTurn q_text_ q_textMany q_toldMany q_toldAt_ q_hasTold q_stack_ q_codes q_ones q_top q_deep q_isWhole q_truths_ q_imaged_ q_namesKept_ q_areKept_ q_s q_keptRow q_rares q_trial hb0 hb1 hb2 hb3 hb4 hb5 hb6 hb7 hb8 hb9 hb10 hb11 hb12 hb13 hb14 hb15 hb16 hb17 hb18 hb19 hb20 hb21 hR0 hR1 hR2 hR3 hR4 hR5 hR6 hR7 hR8 hR9 hR10 ⟨Nat.le_of_ble_eq_true rfl, Nat.le_of_ble_eq_true rfl⟩ C rfl _ _ ls hP hD hS hl
set_option maxHeartbeats 4000000 in
set_option maxRecDepth 100000 in
theorem b_y_isAskedSo (l : Launch) (D : va_G) (cy : Nat → ClassId) (q : Nat) (a : Int32) (n : Int32) (q_thrown : Int32) (q_tape_ : Nat) (q_length : Int32) (q_size : Int32) (q_p : Int32) (q_limit : Int32) (q_s_ : Nat) (q_h_ : Nat) (q_read_ : Nat) (q_names_ : Nat) (q_reserved_ : Nat) (q_token : Int32) (q_at : Int32) (q_span : Int32) (q_number : Int32) (q_fault : Int32) (q_faultAt : Int32) (q_word : Int64) (q_got : Int32) (q_lines : Int32) (q_onces : Int32) (q_webs : Int32) (q_one : Int32) (q_two : Int32) (q_seed : Int32) (q_undone_ : Nat) (q_before_ : Nat) (q_undoMany : Int32) (q_far_ : Nat) (q_wayRow_ : Nat) (q_wayMany : Int32) (q_keptRow_ : Nat) (q_askedRow_ : Nat) (q_rares_ : Nat) (q_trial_ : Nat) (q_keptMany : Int32) (q_askedMany : Int32) (q_hangs_ : Nat) (q_paths_ : Nat) (q_tornSteps : Int32) (q_hasTorn : Int32) (q_turnOne : Int32) (q_hasTurn : Int32) (q_text_ : Nat) (q_textMany : Int32) (q_toldMany : Int32) (q_toldAt_ : Nat) (q_hasTold : Int32) (q_stack_ : Nat) (q_codes : Int32) (q_ones : Int32) (q_top : Int32) (q_deep : Int32) (q_isWhole : Int32) (q_truths_ : Nat) (q_imaged_ : Nat) (q_namesKept_ : Nat) (q_areKept_ : Nat) (q_tape : Nat → Int32) (q_s : Nat → Int32) (q_trial : Nat → Int32) (hb0 : 0 ≤ q_length.toInt ∧ q_length.toInt ≤ 940) (hb1 : 2 ≤ q_size.toInt ∧ q_size.toInt ≤ 16) (hb2 : 0 ≤ q_p.toInt ∧ q_p.toInt ≤ 940) (hb3 : 0 ≤ q_limit.toInt ∧ q_limit.toInt ≤ 940) (hb4 : 0 ≤ q_span.toInt ∧ q_span.toInt ≤ 940) (hb5 : 0 ≤ q_number.toInt ∧ q_number.toInt ≤ 8214) (hb6 : (-1) ≤ q_got.toInt ∧ q_got.toInt ≤ 8214) (hb7 : 0 ≤ q_one.toInt ∧ q_one.toInt ≤ 7) (hb8 : 0 ≤ q_two.toInt ∧ q_two.toInt ≤ 7) (hb9 : 0 ≤ q_undoMany.toInt ∧ q_undoMany.toInt ≤ 8) (hb10 : (-1) ≤ q_wayMany.toInt ∧ q_wayMany.toInt ≤ 8) (hb11 : (-1) ≤ q_keptMany.toInt ∧ q_keptMany.toInt ≤ 8) (hb12 : (-1) ≤ q_askedMany.toInt ∧ q_askedMany.toInt ≤ 3) (hb13 : 0 ≤ q_hasTorn.toInt ∧ q_hasTorn.toInt ≤ 1) (hb14 : 0 ≤ q_hasTurn.toInt ∧ q_hasTurn.toInt ≤ 1) (hb15 : 0 ≤ q_textMany.toInt ∧ q_textMany.toInt ≤ 48) (hb16 : 0 ≤ q_toldMany.toInt ∧ q_toldMany.toInt ≤ 40) (hb17 : 0 ≤ q_hasTold.toInt ∧ q_hasTold.toInt ≤ 1) (hb18 : 0 ≤ q_codes.toInt ∧ q_codes.toInt ≤ 40) (hb19 : 0 ≤ q_ones.toInt ∧ q_ones.toInt ≤ 20) (hb20 : 0 ≤ q_top.toInt ∧ q_top.toInt ≤ 40) (hb21 : 0 ≤ q_isWhole.toInt ∧ q_isWhole.toInt ≤ 1) (hb22 : 0 ≤ a.toInt) (hb23 : 1 ≤ n.toInt ∧ n.toInt ≤ 3) (hR0 : Rg q_s 0 1 0 8) (hR1 : Rg q_s 1 3 0 6) (hR2 : Rg q_s 3 4 1 50) (hR3 : Rg q_s 4 5 1 5) (hR4 : Rg q_s 103 104 0 255) (hR5 : Rg q_s 7 23 0 5) (hR6 : Rg q_s 106 122 0 5) (hR7 : Rg q_s 23 31 0 99) (hR8 : Rg q_s 122 130 0 99) (hX0 : Ro q_tape q_size.toInt) {p : Program} {e : Env} {s : State} {m : MethodId} {args : Array Value} {below : List Frame} {meth : Method} {c : Code} {A : Nat → Prop} {Q : State → Prop} {cells slots : Nat} (hroom : cells ≤ ((Rm 3 66 0 0)).cells ∧ slots ≤ ((Rm 3 66 0 0)).slots) (C : Cx p s m args meth c cX11_isAskedSo 5 (some .boolean) RX11 "isAskedSo" D cy A) (hQ : Q = MQ below (va_Qi (fun (r : Int32) (u : (Nat → Int32)) => (0 ≤ r.toInt ∧ r.toInt ≤ 1)) (Bx D A (fun u : (Nat → Int32) => [(q, oC11 q_thrown q_tape_ q_length q_size q_p q_limit q_s_ q_h_ q_read_ q_names_ q_reserved_ q_token q_at q_span q_number q_fault q_faultAt q_word q_got q_lines q_onces q_webs q_one q_two q_seed q_undone_ q_before_ q_undoMany q_far_ q_wayRow_ q_wayMany q_keptRow_ q_askedRow_ q_rares_ q_trial_ q_keptMany q_askedMany q_hangs_ q_paths_ q_tornSteps q_hasTorn q_turnOne q_hasTurn q_text_ q_textMany q_toldMany q_toldAt_ q_hasTold q_stack_ q_codes q_ones q_top q_deep q_isWhole q_truths_ q_imaged_ q_namesKept_ q_areKept_), (q_tape_, aC0 cy 940 q_tape), (q_s_, aC1 cy 383 q_s), (q_trial_, aC1 cy 8 u)])) A) args s ((Rm 3 66 0 0)).cells ((Rm 3 66 0 0)).slots A) (H : Heap) (locs : List Loc) (ls : Array Slot) (hP : va_P D vwCl [(q, oC11 q_thrown q_tape_ q_length q_size q_p q_limit q_s_ q_h_ q_read_ q_names_ q_reserved_ q_token q_at q_span q_number q_fault q_faultAt q_word q_got q_lines q_onces q_webs q_one q_two q_seed q_undone_ q_before_ q_undoMany q_far_ q_wayRow_ q_wayMany q_keptRow_ q_askedRow_ q_rares_ q_trial_ q_keptMany q_askedMany q_hangs_ q_paths_ q_tornSteps q_hasTorn q_turnOne q_hasTurn q_text_ q_textMany q_toldMany q_toldAt_ q_hasTold q_stack_ q_codes q_ones q_top q_deep q_isWhole q_truths_ q_imaged_ q_namesKept_ q_areKept_), (q_tape_, aC0 cy 940 q_tape), (q_s_, aC1 cy 383 q_s), (q_trial_, aC1 cy 8 q_trial)] H) (hD : va_D A [(q, oC11 q_thrown q_tape_ q_length q_size q_p q_limit q_s_ q_h_ q_read_ q_names_ q_reserved_ q_token q_at q_span q_number q_fault q_faultAt q_word q_got q_lines q_onces q_webs q_one q_two q_seed q_undone_ q_before_ q_undoMany q_far_ q_wayRow_ q_wayMany q_keptRow_ q_askedRow_ q_rares_ q_trial_ q_keptMany q_askedMany q_hangs_ q_paths_ q_tornSteps q_hasTorn q_turnOne q_hasTurn q_text_ q_textMany q_toldMany q_toldAt_ q_hasTold q_stack_ q_codes q_ones q_top q_deep q_isWhole q_truths_ q_imaged_ q_namesKept_ q_areKept_), (q_tape_, aC0 cy 940 q_tape), (q_s_, aC1 cy 383 q_s), (q_trial_, aC1 cy 8 q_trial)]) (hS : va_S A s.heap H locs) (hl : lv_has ls 5 [(0, .ref q), (1, .int a), (2, .int n)]) : W p l e (Rm 3 66 0 0) s m args below meth c H locs cells slots Q (F0 m 0 ls []) := by
  have hx := C.1
  have hb := C.2.1
  refine lv_aload_n hx hb dX11_isAskedSo_0 rfl (lv_at hl 0 rfl) ?_
  refine lv_iload_n hx hb dX11_isAskedSo_1 rfl (lv_at hl 1 rfl) ?_
  refine lv_iload_n hx hb dX11_isAskedSo_2 rfl (lv_at hl 2 rfl) ?_
  refine lv_iconst (v := 0) hx hb dX11_isAskedSo_3 (by decide) ?_
  refine q_ai (wr := [(q_tape_, aC0 cy 940 q_tape), (q_trial_, aC1 cy 8 q_trial)]) (r_V (rm := (Rm 2 42 0 0)) (q0 := 0) (As := [.int a, .int n, .int 0]) (rest := []) (wc := [(q, oC11 q_thrown q_tape_ q_length q_size q_p q_limit q_s_ q_h_ q_read_ q_names_ q_reserved_ q_token q_at q_span q_number q_fault q_faultAt q_word q_got q_lines q_onces q_webs q_one q_two q_seed q_undone_ q_before_ q_undoMany q_far_ q_wayRow_ q_wayMany q_keptRow_ q_askedRow_ q_rares_ q_trial_ q_keptMany q_askedMany q_hangs_ q_paths_ q_tornSteps q_hasTorn q_turnOne q_hasTurn q_text_ q_textMany q_toldMany q_toldAt_ q_hasTold q_stack_ q_codes q_ones q_top q_deep q_isWhole q_truths_ q_imaged_ q_namesKept_ q_areKept_), (q_s_, aC1 cy 383 q_s)]) C hS (q_subP hP [0, 2] rfl) (hD.sub [0, 2] (by decide) rfl) (y_askedBy l D cy q a n 0 q_thrown q_tape_ q_length q_size q_p q_limit q_s_ q_h_ q_read_ q_names_ q_reserved_ q_token q_at q_span q_number q_fault q_faultAt q_word q_got q_lines q_onces q_webs q_one q_two q_seed q_undone_ q_before_ q_undoMany q_far_ q_wayRow_ q_wayMany q_keptRow_ q_askedRow_ q_rares_ q_trial_ q_keptMany q_askedMany q_hangs_ q_paths_ q_tornSteps q_hasTorn q_turnOne q_hasTurn q_text_ q_textMany q_toldMany q_toldAt_ q_hasTold q_stack_ q_codes q_ones q_top q_deep q_isWhole q_truths_ q_imaged_ q_namesKept_ q_areKept_ q_s _ (by omega) (by omega) (by omega) (by omega) (by omega) (by omega) (by omega) (by omega) (by omega) (by omega) (by omega) (by omega) (by omega) (by omega) (by omega) (by omega) (by omega) (by omega) (by omega) (by omega) (by omega) (by omega) (by omega) (by omega) (by decide) hR0 hR1 hR2 hR3 hR4 hR5 hR6 hR7 hR8) kwV_X11_askedBy kM_RX11_394 rfl rfl ⟨Nat.le_of_ble_eq_true rfl, Nat.le_of_ble_eq_true rfl⟩ rfl hl.1 rfl (Nat.le_of_ble_eq_true rfl) dX11_isAskedSo_4 ⟨hroom.1, hroom.2⟩) C.2.2.2.2.2.2.1 hP hD hS [0, 2] [1, 3] rfl rfl (by decide) (by decide) (fun r_2 u_1 H locs hw_3 hP hD hS => ?_)
  have hp_3 : (-2) ≤ r_2.toInt ∧ r_2.toInt ≤ 7 := hw_3
  clear hw_3
  refine lv_bipush (v := (-2)) hx hb dX11_isAskedSo_7 (by decide) ?_
  refine lv_icmp_ne (tgt := 14) hx hb dX11_isAskedSo_9 (by decide) (fun c_5 => ?_) (fun c_5 => ?_)
  · have hc_5 := o_ne (rfl : r_2.toInt = r_2.toInt) (by decide : ((-2) : Int32).toInt = -2) c_5
    have hnc_5 : 0 ≤ r_2.toInt + 1 := by rcases Int.lt_or_gt_of_ne hc_5 with h9 | h9 <;> omega
    refine lv_aload_n hx hb dX11_isAskedSo_14 rfl (lv_at hl 0 rfl) ?_
    refine q_av (wr := [(q_tape_, aC0 cy 940 q_tape)]) (r_V (rm := (Rm 0 0 0 0)) (q0 := 0) (As := []) (rest := []) (wc := [(q, oC11 q_thrown q_tape_ q_length q_size q_p q_limit q_s_ q_h_ q_read_ q_names_ q_reserved_ q_token q_at q_span q_number q_fault q_faultAt q_word q_got q_lines q_onces q_webs q_one q_two q_seed q_undone_ q_before_ q_undoMany q_far_ q_wayRow_ q_wayMany q_keptRow_ q_askedRow_ q_rares_ q_trial_ q_keptMany q_askedMany q_hangs_ q_paths_ q_tornSteps q_hasTorn q_turnOne q_hasTurn q_text_ q_textMany q_toldMany q_toldAt_ q_hasTold q_stack_ q_codes q_ones q_top q_deep q_isWhole q_truths_ q_imaged_ q_namesKept_ q_areKept_), (q_s_, aC1 cy 383 q_s), (q_trial_, aC1 cy 8 q_trial)]) C hS (q_subP hP [2, 3, 1] rfl) (hD.sub [2, 3, 1] (by decide) rfl) (y_beginsTrial l D cy q q_thrown q_tape_ q_length q_size q_p q_limit q_s_ q_h_ q_read_ q_names_ q_reserved_ q_token q_at q_span q_number q_fault q_faultAt q_word q_got q_lines q_onces q_webs q_one q_two q_seed q_undone_ q_before_ q_undoMany q_far_ q_wayRow_ q_wayMany q_keptRow_ q_askedRow_ q_rares_ q_trial_ q_keptMany q_askedMany q_hangs_ q_paths_ q_tornSteps q_hasTorn q_turnOne q_hasTurn q_text_ q_textMany q_toldMany q_toldAt_ q_hasTold q_stack_ q_codes q_ones q_top q_deep q_isWhole q_truths_ q_imaged_ q_namesKept_ q_areKept_ q_s q_trial _ (by omega) (by omega) (by omega) (by omega) (by omega) (by omega) (by omega) (by omega) (by omega) (by omega) (by omega) (by omega) (by omega) (by omega) (by omega) (by omega) (by omega) (by omega) (by omega) (by omega) (by omega) (by omega) hR0 hR1 hR2 hR3 hR4 hR5 hR6 hR7 hR8) kwV_X11_beginsTrial kM_RX11_376 rfl rfl ⟨Nat.le_of_ble_eq_true rfl, Nat.le_of_ble_eq_true rfl⟩ rfl hl.1 rfl (Nat.le_of_ble_eq_true rfl) dX11_isAskedSo_15 ⟨hroom.1, hroom.2⟩) C.2.2.2.2.2.2.1 hP hD hS [2, 3, 1] [0] rfl rfl (by decide) (by decide) (fun u_6 H locs hw_8 hP hD hS => ?_)
    obtain ⟨g_9, rfl⟩ : ∃ z, z = u_6 := ⟨_, rfl⟩
    have hP : va_P D vwCl [(q_tape_, aC0 cy 940 q_tape), (q, oC11 q_thrown q_tape_ q_length q_size q_p q_limit q_s_ q_h_ q_read_ q_names_ q_reserved_ q_token q_at q_span q_number q_fault q_faultAt q_word q_got q_lines q_onces q_webs q_one q_two q_seed q_undone_ q_before_ q_undoMany q_far_ q_wayRow_ q_wayMany q_keptRow_ q_askedRow_ q_rares_ q_trial_ q_keptMany q_askedMany q_hangs_ q_paths_ q_tornSteps q_hasTorn q_turnOne q_hasTurn q_text_ q_textMany q_toldMany q_toldAt_ q_hasTold q_stack_ q_codes q_ones q_top q_deep q_isWhole q_truths_ q_imaged_ q_namesKept_ q_areKept_), (q_s_, aC1 cy 383 q_s), (q_trial_, aC1 cy 8 g_9)] H := hP
    have hD : va_D A [(q_tape_, aC0 cy 940 q_tape), (q, oC11 q_thrown q_tape_ q_length q_size q_p q_limit q_s_ q_h_ q_read_ q_names_ q_reserved_ q_token q_at q_span q_number q_fault q_faultAt q_word q_got q_lines q_onces q_webs q_one q_two q_seed q_undone_ q_before_ q_undoMany q_far_ q_wayRow_ q_wayMany q_keptRow_ q_askedRow_ q_rares_ q_trial_ q_keptMany q_askedMany q_hangs_ q_paths_ q_tornSteps q_hasTorn q_turnOne q_hasTurn q_text_ q_textMany q_toldMany q_toldAt_ q_hasTold q_stack_ q_codes q_ones q_top q_deep q_isWhole q_truths_ q_imaged_ q_namesKept_ q_areKept_), (q_s_, aC1 cy 383 q_s), (q_trial_, aC1 cy 8 g_9)] := hD
    refine lv_iconst (v := 0) hx hb dX11_isAskedSo_18 (by decide) ?_
    refine lv_istore_n (lv' := [(3, .int 0), (0, .ref q), (1, .int a), (2, .int n)]) hx hb dX11_isAskedSo_19 rfl hl (by decide) rfl (fun ls hl => ?_)
    have lp_20_11 : ∀ (n_12 : Nat) (x_10 : Int32) (g_11 : Nat → Int32) (H : Heap) (locs : List Loc) (ls : Array Slot), (-1) * x_10.toInt + 3 < (n_12 : Int) → (0 ≤ x_10.toInt ∧ x_10.toInt ≤ 3) → va_P D vwCl [(q_tape_, aC0 cy 940 q_tape), (q, oC11 q_thrown q_tape_ q_length q_size q_p q_limit q_s_ q_h_ q_read_ q_names_ q_reserved_ q_token q_at q_span q_number q_fault q_faultAt q_word q_got q_lines q_onces q_webs q_one q_two q_seed q_undone_ q_before_ q_undoMany q_far_ q_wayRow_ q_wayMany q_keptRow_ q_askedRow_ q_rares_ q_trial_ q_keptMany q_askedMany q_hangs_ q_paths_ q_tornSteps q_hasTorn q_turnOne q_hasTurn q_text_ q_textMany q_toldMany q_toldAt_ q_hasTold q_stack_ q_codes q_ones q_top q_deep q_isWhole q_truths_ q_imaged_ q_namesKept_ q_areKept_), (q_s_, aC1 cy 383 q_s), (q_trial_, aC1 cy 8 g_11)] H → va_D A [(q_tape_, aC0 cy 940 q_tape), (q, oC11 q_thrown q_tape_ q_length q_size q_p q_limit q_s_ q_h_ q_read_ q_names_ q_reserved_ q_token q_at q_span q_number q_fault q_faultAt q_word q_got q_lines q_onces q_webs q_one q_two q_seed q_undone_ q_before_ q_undoMany q_far_ q_wayRow_ q_wayMany q_keptRow_ q_askedRow_ q_rares_ q_trial_ q_keptMany q_askedMany q_hangs_ q_paths_ q_tornSteps q_hasTorn q_turnOne q_hasTurn q_text_ q_textMany q_toldMany q_toldAt_ q_hasTold q_stack_ q_codes q_ones q_top q_deep q_isWhole q_truths_ q_imaged_ q_namesKept_ q_areKept_), (q_s_, aC1 cy 383 q_s), (q_trial_, aC1 cy 8 g_11)] → va_S A s.heap H locs → lv_has ls 5 [(0, .ref q), (1, .int a), (2, .int n), (3, .int x_10)] → W p l e (Rm 3 66 0 0) s m args below meth c H locs cells slots Q (F0 m 20 ls []) := by
      intro n_12
      induction n_12 with
      | zero =>
        intro x_10 g_11 H locs ls hm_14 hf_13 hP hD hS hl
        exact absurd hm_14 (by omega)
      | succ n_12 ih_15 =>
        intro x_10 g_11 H locs ls hm_14 hf_13 hP hD hS hl
        refine lv_iload_n hx hb dX11_isAskedSo_20 rfl (lv_at hl 3 rfl) ?_
        refine lv_iload_n hx hb dX11_isAskedSo_21 rfl (lv_at hl 2 rfl) ?_
        refine lv_icmp_ge (tgt := 43) hx hb dX11_isAskedSo_22 (by decide) (fun c_17 => ?_) (fun c_17 => ?_)
        · have hc_17 := o_le (rfl : n.toInt = n.toInt) (rfl : x_10.toInt = x_10.toInt) c_17
          refine lv_iconst (v := 1) hx hb dX11_isAskedSo_43 (by decide) ?_
          refine lv_istore_n (lv' := [(3, .int 1), (0, .ref q), (1, .int a), (2, .int n)]) hx hb dX11_isAskedSo_44 rfl hl (by decide) rfl (fun ls hl => ?_)
          refine lv_iconst (v := 0) hx hb dX11_isAskedSo_45 (by decide) ?_
          refine lv_istore (lv' := [(4, .int 0), (3, .int 1), (0, .ref q), (1, .int a), (2, .int n)]) hx hb dX11_isAskedSo_46 hl (by decide) rfl (fun ls hl => ?_)
          have lp_48_19 : ∀ (n_20 : Nat) (x_18 : Int32) (x_19 : Int32) (H : Heap) (locs : List Loc) (ls : Array Slot), (-1) * x_19.toInt + 17 < (n_20 : Int) → (0 ≤ x_18.toInt ∧ x_18.toInt ≤ 1) → (0 ≤ x_19.toInt ∧ x_19.toInt ≤ 17) → (x_19.toInt % 2 = 0) → va_P D vwCl [(q_tape_, aC0 cy 940 q_tape), (q, oC11 q_thrown q_tape_ q_length q_size q_p q_limit q_s_ q_h_ q_read_ q_names_ q_reserved_ q_token q_at q_span q_number q_fault q_faultAt q_word q_got q_lines q_onces q_webs q_one q_two q_seed q_undone_ q_before_ q_undoMany q_far_ q_wayRow_ q_wayMany q_keptRow_ q_askedRow_ q_rares_ q_trial_ q_keptMany q_askedMany q_hangs_ q_paths_ q_tornSteps q_hasTorn q_turnOne q_hasTurn q_text_ q_textMany q_toldMany q_toldAt_ q_hasTold q_stack_ q_codes q_ones q_top q_deep q_isWhole q_truths_ q_imaged_ q_namesKept_ q_areKept_), (q_s_, aC1 cy 383 q_s), (q_trial_, aC1 cy 8 g_11)] H → va_D A [(q_tape_, aC0 cy 940 q_tape), (q, oC11 q_thrown q_tape_ q_length q_size q_p q_limit q_s_ q_h_ q_read_ q_names_ q_reserved_ q_token q_at q_span q_number q_fault q_faultAt q_word q_got q_lines q_onces q_webs q_one q_two q_seed q_undone_ q_before_ q_undoMany q_far_ q_wayRow_ q_wayMany q_keptRow_ q_askedRow_ q_rares_ q_trial_ q_keptMany q_askedMany q_hangs_ q_paths_ q_tornSteps q_hasTorn q_turnOne q_hasTurn q_text_ q_textMany q_toldMany q_toldAt_ q_hasTold q_stack_ q_codes q_ones q_top q_deep q_isWhole q_truths_ q_imaged_ q_namesKept_ q_areKept_), (q_s_, aC1 cy 383 q_s), (q_trial_, aC1 cy 8 g_11)] → va_S A s.heap H locs → lv_has ls 5 [(0, .ref q), (3, .int x_18), (4, .int x_19)] → W p l e (Rm 3 66 0 0) s m args below meth c H locs cells slots Q (F0 m 48 ls []) := by
            intro n_20
            induction n_20 with
            | zero =>
              intro x_18 x_19 H locs ls hm_24 hf_21 hf_22 hf_23 hP hD hS hl
              exact absurd hm_24 (by omega)
            | succ n_20 ih_25 =>
              intro x_18 x_19 H locs ls hm_24 hf_21 hf_22 hf_23 hP hD hS hl
              refine lv_iload hx hb dX11_isAskedSo_48 (lv_at hl 2 rfl) ?_
              refine lv_aload_n hx hb dX11_isAskedSo_50 rfl (lv_at hl 0 rfl) ?_
              refine q_get11 (v := .int q_size) C hP 1 3 rfl fT_3 (by decide) kF_RX11_18 rfl dX11_isAskedSo_51 ?_
              refine lv_icmp_ge (tgt := 95) hx hb dX11_isAskedSo_54 (by decide) (fun c_27 => ?_) (fun c_27 => ?_)
              · have hc_27 := o_le (rfl : q_size.toInt = q_size.toInt) (rfl : x_19.toInt = x_19.toInt) c_27
                refine lv_iload_n hx hb dX11_isAskedSo_95 rfl (lv_at hl 1 rfl) ?_
                refine o_wq hQ ?_
                exact q_iret (rm := (Rm 3 66 0 0)) C hS g_11 (o_bool (rfl : x_18.toInt = x_18.toInt) (by omega) (by omega)).1 (show 0 ≤ x_18.toInt ∧ x_18.toInt ≤ 1 by omega) (q_subP hP [1, 0, 2, 3] rfl) (hD.sub [1, 0, 2, 3] (by decide) rfl) hroom.1 hroom.2 dX11_isAskedSo_96
              · have hc_27 := o_nle (rfl : q_size.toInt = q_size.toInt) (rfl : x_19.toInt = x_19.toInt) c_27
                refine lv_iload_n hx hb dX11_isAskedSo_57 rfl (lv_at hl 1 rfl) ?_
                refine lv_if_eq (tgt := 87) hx hb dX11_isAskedSo_58 (by decide) (fun c_28 => ?_) (fun c_28 => ?_)
                · have hc_28 := o_eq (rfl : x_18.toInt = x_18.toInt) (by decide : (0 : Int32).toInt = 0) c_28
                  refine lv_iconst (v := 0) hx hb dX11_isAskedSo_87 (by decide) ?_
                  refine lv_istore_n (lv' := [(3, .int 0), (0, .ref q), (4, .int x_19)]) hx hb dX11_isAskedSo_88 rfl hl (by decide) rfl (fun ls hl => ?_)
                  obtain ⟨z_29, hz_29⟩ : ∃ z : Int32, z = x_19 + 2 := ⟨_, rfl⟩
                  refine lv_iinc (v := z_29) (lv' := [(4, .int z_29), (3, .int 0), (0, .ref q)]) hx hb dX11_isAskedSo_89 hl (k := 2) rfl hz_29.symm (by decide) rfl (fun ls hl => ?_)
                  have hz_29 := o_add hz_29 (rfl : x_19.toInt = x_19.toInt) (by decide : (2 : Int32).toInt = 2) (by omega) (by omega)
                  refine lv_goto (tgt := 48) hx hb dX11_isAskedSo_92 (by decide) ?_
                  exact ih_25 (0 : Int32) z_29 H locs ls (by have e0 : (0 : Int32).toInt = 0 := (by decide); omega) (by have e0 : (0 : Int32).toInt = 0 := (by decide); omega) (by have e0 : (0 : Int32).toInt = 0 := (by decide); omega) (by omega) hP hD hS (lv_sub hl [2, 1, 0] rfl)
                · have hc_28 := o_ne (rfl : x_18.toInt = x_18.toInt) (by decide : (0 : Int32).toInt = 0) c_28
                  have hnc_28 : 0 ≤ x_18.toInt + (-1) := by rcases Int.lt_or_gt_of_ne hc_28 with h9 | h9 <;> omega
                  refine lv_aload_n hx hb dX11_isAskedSo_61 rfl (lv_at hl 0 rfl) ?_
                  refine q_get11 (v := .ref q_trial_) C hP 1 34 rfl fT_34 (by decide) kF_RX11_74 rfl dX11_isAskedSo_62 ?_
                  refine lv_aload_n hx hb dX11_isAskedSo_65 rfl (lv_at hl 0 rfl) ?_
                  refine lv_iload hx hb dX11_isAskedSo_66 (lv_at hl 2 rfl) ?_
                  refine q_ai (wr := [(q_s_, aC1 cy 383 q_s), (q_trial_, aC1 cy 8 g_11)]) (r_V (rm := (Rm 0 0 0 0)) (q0 := 0) (As := [.int x_19]) (rest := [.ref q_trial_]) (wc := [(q, oC11 q_thrown q_tape_ q_length q_size q_p q_limit q_s_ q_h_ q_read_ q_names_ q_reserved_ q_token q_at q_span q_number q_fault q_faultAt q_word q_got q_lines q_onces q_webs q_one q_two q_seed q_undone_ q_before_ q_undoMany q_far_ q_wayRow_ q_wayMany q_keptRow_ q_askedRow_ q_rares_ q_trial_ q_keptMany q_askedMany q_hangs_ q_paths_ q_tornSteps q_hasTorn q_turnOne q_hasTurn q_text_ q_textMany q_toldMany q_toldAt_ q_hasTold q_stack_ q_codes q_ones q_top q_deep q_isWhole q_truths_ q_imaged_ q_namesKept_ q_areKept_), (q_tape_, aC0 cy 940 q_tape)]) C hS (q_subP hP [1, 0] rfl) (hD.sub [1, 0] (by decide) rfl) (y_octet l D cy q x_19 q_thrown q_tape_ q_length q_size q_p q_limit q_s_ q_h_ q_read_ q_names_ q_reserved_ q_token q_at q_span q_number q_fault q_faultAt q_word q_got q_lines q_onces q_webs q_one q_two q_seed q_undone_ q_before_ q_undoMany q_far_ q_wayRow_ q_wayMany q_keptRow_ q_askedRow_ q_rares_ q_trial_ q_keptMany q_askedMany q_hangs_ q_paths_ q_tornSteps q_hasTorn q_turnOne q_hasTurn q_text_ q_textMany q_toldMany q_toldAt_ q_hasTold q_stack_ q_codes q_ones q_top q_deep q_isWhole q_truths_ q_imaged_ q_namesKept_ q_areKept_ q_tape _ (by omega) (by omega) (by omega) (by omega) (by omega) (by omega) (by omega) (by omega) (by omega) (by omega) (by omega) (by omega) (by omega) (by omega) (by omega) (by omega) (by omega) (by omega) (by omega) (by omega) (by omega) (by omega) (by omega)) kwV_X11_octet kM_RX11_397 rfl rfl ⟨Nat.le_of_ble_eq_true rfl, Nat.le_of_ble_eq_true rfl⟩ rfl hl.1 rfl (Nat.le_of_ble_eq_true rfl) dX11_isAskedSo_68 ⟨hroom.1, hroom.2⟩) C.2.2.2.2.2.2.1 hP hD hS [1, 0] [2, 3] rfl rfl (by decide) (by decide) (fun r_31 u_30 H locs hw_32 hP hD hS => ?_)
                  have hp_32 : 0 ≤ r_31.toInt ∧ r_31.toInt ≤ 255 := hw_32.1
                  have hp_33 : r_31 = oc q_tape x_19 := hw_32.2
                  clear hw_32
                  have hq_34 := Ro.at (x := x_19) hX0 (by omega) (by omega) hf_23 hp_33
                  refine q_iald (v := g_11 r_31.toNatClampNeg) C hP 1 rfl (o_in (rfl : r_31.toInt = r_31.toInt) (by omega) (by omega)) rfl dX11_isAskedSo_71 ?_
                  refine lv_topi (fun z_36 ez_36 => ?_)
                  refine lv_aload_n hx hb dX11_isAskedSo_72 rfl (lv_at hl 0 rfl) ?_
                  refine lv_iload hx hb dX11_isAskedSo_73 (lv_at hl 2 rfl) ?_
                  refine lv_iconst (v := 1) hx hb dX11_isAskedSo_75 (by decide) ?_
                  refine lv_iadd hx hb dX11_isAskedSo_76 ?_
                  refine lv_topi (fun z_37 hz_37 => ?_)
                  have hz_37 := o_add hz_37 (rfl : x_19.toInt = x_19.toInt) (by decide : (1 : Int32).toInt = 1) (by omega) (by omega)
                  refine q_ai (wr := [(q_s_, aC1 cy 383 q_s), (q_trial_, aC1 cy 8 g_11)]) (r_V (rm := (Rm 0 0 0 0)) (q0 := 0) (As := [.int z_37]) (rest := [.int z_36]) (wc := [(q, oC11 q_thrown q_tape_ q_length q_size q_p q_limit q_s_ q_h_ q_read_ q_names_ q_reserved_ q_token q_at q_span q_number q_fault q_faultAt q_word q_got q_lines q_onces q_webs q_one q_two q_seed q_undone_ q_before_ q_undoMany q_far_ q_wayRow_ q_wayMany q_keptRow_ q_askedRow_ q_rares_ q_trial_ q_keptMany q_askedMany q_hangs_ q_paths_ q_tornSteps q_hasTorn q_turnOne q_hasTurn q_text_ q_textMany q_toldMany q_toldAt_ q_hasTold q_stack_ q_codes q_ones q_top q_deep q_isWhole q_truths_ q_imaged_ q_namesKept_ q_areKept_), (q_tape_, aC0 cy 940 q_tape)]) C hS (q_subP hP [2, 3] rfl) (hD.sub [2, 3] (by decide) rfl) (y_octet l D cy q z_37 q_thrown q_tape_ q_length q_size q_p q_limit q_s_ q_h_ q_read_ q_names_ q_reserved_ q_token q_at q_span q_number q_fault q_faultAt q_word q_got q_lines q_onces q_webs q_one q_two q_seed q_undone_ q_before_ q_undoMany q_far_ q_wayRow_ q_wayMany q_keptRow_ q_askedRow_ q_rares_ q_trial_ q_keptMany q_askedMany q_hangs_ q_paths_ q_tornSteps q_hasTorn q_turnOne q_hasTurn q_text_ q_textMany q_toldMany q_toldAt_ q_hasTold q_stack_ q_codes q_ones q_top q_deep q_isWhole q_truths_ q_imaged_ q_namesKept_ q_areKept_ q_tape _ (by omega) (by omega) (by omega) (by omega) (by omega) (by omega) (by omega) (by omega) (by omega) (by omega) (by omega) (by omega) (by omega) (by omega) (by omega) (by omega) (by omega) (by omega) (by omega) (by omega) (by omega) (by omega) (by omega)) kwV_X11_octet kM_RX11_397 rfl rfl ⟨Nat.le_of_ble_eq_true rfl, Nat.le_of_ble_eq_true rfl⟩ rfl hl.1 rfl (Nat.le_of_ble_eq_true rfl) dX11_isAskedSo_77 ⟨hroom.1, hroom.2⟩) C.2.2.2.2.2.2.1 hP hD hS [2, 3] [0, 1] rfl rfl (by decide) (by decide) (fun r_39 u_38 H locs hw_40 hP hD hS => ?_)
                  have hp_40 : 0 ≤ r_39.toInt ∧ r_39.toInt ≤ 255 := hw_40.1
                  have hp_41 : r_39 = oc q_tape z_37 := hw_40.2
                  clear hw_40
                  refine lv_icmp_ne (tgt := 87) hx hb dX11_isAskedSo_80 (by decide) (fun c_43 => ?_) (fun c_43 => ?_)
                  · have hc_43 := o_ne (rfl : z_36.toInt = z_36.toInt) (rfl : r_39.toInt = r_39.toInt) c_43
                    refine lv_iconst (v := 0) hx hb dX11_isAskedSo_87 (by decide) ?_
                    refine lv_istore_n (lv' := [(3, .int 0), (0, .ref q), (4, .int x_19)]) hx hb dX11_isAskedSo_88 rfl hl (by decide) rfl (fun ls hl => ?_)
                    obtain ⟨z_44, hz_44⟩ : ∃ z : Int32, z = x_19 + 2 := ⟨_, rfl⟩
                    refine lv_iinc (v := z_44) (lv' := [(4, .int z_44), (3, .int 0), (0, .ref q)]) hx hb dX11_isAskedSo_89 hl (k := 2) rfl hz_44.symm (by decide) rfl (fun ls hl => ?_)
                    have hz_44 := o_add hz_44 (rfl : x_19.toInt = x_19.toInt) (by decide : (2 : Int32).toInt = 2) (by omega) (by omega)
                    refine lv_goto (tgt := 48) hx hb dX11_isAskedSo_92 (by decide) ?_
                    exact ih_25 (0 : Int32) z_44 H locs ls (by have e0 : (0 : Int32).toInt = 0 := (by decide); omega) (by have e0 : (0 : Int32).toInt = 0 := (by decide); omega) (by have e0 : (0 : Int32).toInt = 0 := (by decide); omega) (by omega) (q_subP hP [3, 2, 0, 1] rfl) (hD.sub [3, 2, 0, 1] (by decide) rfl) hS (lv_sub hl [2, 1, 0] rfl)
                  · have hc_43 := o_eq (rfl : z_36.toInt = z_36.toInt) (rfl : r_39.toInt = r_39.toInt) c_43
                    refine lv_iconst (v := 1) hx hb dX11_isAskedSo_83 (by decide) ?_
                    refine lv_goto (tgt := 88) hx hb dX11_isAskedSo_84 (by decide) ?_
                    refine lv_istore_n (lv' := [(3, .int 1), (0, .ref q), (4, .int x_19)]) hx hb dX11_isAskedSo_88 rfl hl (by decide) rfl (fun ls hl => ?_)
                    obtain ⟨z_45, hz_45⟩ : ∃ z : Int32, z = x_19 + 2 := ⟨_, rfl⟩
                    refine lv_iinc (v := z_45) (lv' := [(4, .int z_45), (3, .int 1), (0, .ref q)]) hx hb dX11_isAskedSo_89 hl (k := 2) rfl hz_45.symm (by decide) rfl (fun ls hl => ?_)
                    have hz_45 := o_add hz_45 (rfl : x_19.toInt = x_19.toInt) (by decide : (2 : Int32).toInt = 2) (by omega) (by omega)
                    refine lv_goto (tgt := 48) hx hb dX11_isAskedSo_92 (by decide) ?_
                    exact ih_25 (1 : Int32) z_45 H locs ls (by have e0 : (1 : Int32).toInt = 1 := (by decide); omega) (by have e0 : (1 : Int32).toInt = 1 := (by decide); omega) (by have e0 : (1 : Int32).toInt = 1 := (by decide); omega) (by omega) (q_subP hP [3, 2, 0, 1] rfl) (hD.sub [3, 2, 0, 1] (by decide) rfl) hS (lv_sub hl [2, 1, 0] rfl)
          exact lp_48_19 18 (1 : Int32) (0 : Int32) H locs ls (by have e0 : (0 : Int32).toInt = 0 := (by decide); have e1 : (1 : Int32).toInt = 1 := (by decide); omega) (by have e0 : (0 : Int32).toInt = 0 := (by decide); have e1 : (1 : Int32).toInt = 1 := (by decide); omega) (by have e0 : (0 : Int32).toInt = 0 := (by decide); have e1 : (1 : Int32).toInt = 1 := (by decide); omega) (by have e0 : (0 : Int32).toInt = 0 := (by decide); omega) hP hD hS (lv_sub hl [2, 1, 0] rfl)
        · have hc_17 := o_nle (rfl : n.toInt = n.toInt) (rfl : x_10.toInt = x_10.toInt) c_17
          refine lv_aload_n hx hb dX11_isAskedSo_25 rfl (lv_at hl 0 rfl) ?_
          refine lv_iload_n hx hb dX11_isAskedSo_26 rfl (lv_at hl 3 rfl) ?_
          refine lv_aload_n hx hb dX11_isAskedSo_27 rfl (lv_at hl 0 rfl) ?_
          refine lv_iload_n hx hb dX11_isAskedSo_28 rfl (lv_at hl 1 rfl) ?_
          refine lv_iload_n hx hb dX11_isAskedSo_29 rfl (lv_at hl 2 rfl) ?_
          refine lv_iload_n hx hb dX11_isAskedSo_30 rfl (lv_at hl 3 rfl) ?_
          refine q_ai (wr := [(q_tape_, aC0 cy 940 q_tape), (q_trial_, aC1 cy 8 g_11)]) (r_V (rm := (Rm 2 42 0 0)) (q0 := 0) (As := [.int a, .int n, .int x_10]) (rest := [.int x_10, .ref q]) (wc := [(q, oC11 q_thrown q_tape_ q_length q_size q_p q_limit q_s_ q_h_ q_read_ q_names_ q_reserved_ q_token q_at q_span q_number q_fault q_faultAt q_word q_got q_lines q_onces q_webs q_one q_two q_seed q_undone_ q_before_ q_undoMany q_far_ q_wayRow_ q_wayMany q_keptRow_ q_askedRow_ q_rares_ q_trial_ q_keptMany q_askedMany q_hangs_ q_paths_ q_tornSteps q_hasTorn q_turnOne q_hasTurn q_text_ q_textMany q_toldMany q_toldAt_ q_hasTold q_stack_ q_codes q_ones q_top q_deep q_isWhole q_truths_ q_imaged_ q_namesKept_ q_areKept_), (q_s_, aC1 cy 383 q_s)]) C hS (q_subP hP [1, 2] rfl) (hD.sub [1, 2] (by decide) rfl) (y_askedBy l D cy q a n x_10 q_thrown q_tape_ q_length q_size q_p q_limit q_s_ q_h_ q_read_ q_names_ q_reserved_ q_token q_at q_span q_number q_fault q_faultAt q_word q_got q_lines q_onces q_webs q_one q_two q_seed q_undone_ q_before_ q_undoMany q_far_ q_wayRow_ q_wayMany q_keptRow_ q_askedRow_ q_rares_ q_trial_ q_keptMany q_askedMany q_hangs_ q_paths_ q_tornSteps q_hasTorn q_turnOne q_hasTurn q_text_ q_textMany q_toldMany q_toldAt_ q_hasTold q_stack_ q_codes q_ones q_top q_deep q_isWhole q_truths_ q_imaged_ q_namesKept_ q_areKept_ q_s _ (by omega) (by omega) (by omega) (by omega) (by omega) (by omega) (by omega) (by omega) (by omega) (by omega) (by omega) (by omega) (by omega) (by omega) (by omega) (by omega) (by omega) (by omega) (by omega) (by omega) (by omega) (by omega) (by omega) (by omega) (by omega) hR0 hR1 hR2 hR3 hR4 hR5 hR6 hR7 hR8) kwV_X11_askedBy kM_RX11_394 rfl rfl ⟨Nat.le_of_ble_eq_true rfl, Nat.le_of_ble_eq_true rfl⟩ rfl hl.1 rfl (Nat.le_of_ble_eq_true rfl) dX11_isAskedSo_31 ⟨hroom.1, hroom.2⟩) C.2.2.2.2.2.2.1 hP hD hS [1, 2] [0, 3] rfl rfl (by decide) (by decide) (fun r_47 u_46 H locs hw_48 hP hD hS => ?_)
          have hp_48 : (-2) ≤ r_47.toInt ∧ r_47.toInt ≤ 7 := hw_48
          clear hw_48
          refine q_av (wr := [(q_tape_, aC0 cy 940 q_tape)]) (r_V (rm := (Rm 2 42 0 0)) (q0 := 0) (As := [.int x_10, .int r_47]) (rest := []) (wc := [(q, oC11 q_thrown q_tape_ q_length q_size q_p q_limit q_s_ q_h_ q_read_ q_names_ q_reserved_ q_token q_at q_span q_number q_fault q_faultAt q_word q_got q_lines q_onces q_webs q_one q_two q_seed q_undone_ q_before_ q_undoMany q_far_ q_wayRow_ q_wayMany q_keptRow_ q_askedRow_ q_rares_ q_trial_ q_keptMany q_askedMany q_hangs_ q_paths_ q_tornSteps q_hasTorn q_turnOne q_hasTurn q_text_ q_textMany q_toldMany q_toldAt_ q_hasTold q_stack_ q_codes q_ones q_top q_deep q_isWhole q_truths_ q_imaged_ q_namesKept_ q_areKept_), (q_s_, aC1 cy 383 q_s), (q_trial_, aC1 cy 8 g_11)]) C hS (q_subP hP [2, 3, 1] rfl) (hD.sub [2, 3, 1] (by decide) rfl) (y_spins l D cy q x_10 r_47 q_thrown q_tape_ q_length q_size q_p q_limit q_s_ q_h_ q_read_ q_names_ q_reserved_ q_token q_at q_span q_number q_fault q_faultAt q_word q_got q_lines q_onces q_webs q_one q_two q_seed q_undone_ q_before_ q_undoMany q_far_ q_wayRow_ q_wayMany q_keptRow_ q_askedRow_ q_rares_ q_trial_ q_keptMany q_askedMany q_hangs_ q_paths_ q_tornSteps q_hasTorn q_turnOne q_hasTurn q_text_ q_textMany q_toldMany q_toldAt_ q_hasTold q_stack_ q_codes q_ones q_top q_deep q_isWhole q_truths_ q_imaged_ q_namesKept_ q_areKept_ q_s g_11 _ (by omega) (by omega) (by omega) (by omega) (by omega) (by omega) (by omega) (by omega) (by omega) (by omega) (by omega) (by omega) (by omega) (by omega) (by omega) (by omega) (by omega) (by omega) (by omega) (by omega) (by omega) (by omega) (by omega) hR0 hR1 hR2 hR3 hR4 hR5 hR6 hR7 hR8) kwV_X11_spins kM_RX11_383 rfl rfl ⟨Nat.le_of_ble_eq_true rfl, Nat.le_of_ble_eq_true rfl⟩ rfl hl.1 rfl (Nat.le_of_ble_eq_true rfl) dX11_isAskedSo_34 ⟨hroom.1, hroom.2⟩) C.2.2.2.2.2.2.1 hP hD hS [2, 3, 1] [0] rfl rfl (by decide) (by decide) (fun u_50 H locs hw_52 hP hD hS => ?_)
          obtain ⟨g_53, rfl⟩ : ∃ z, z = u_50 := ⟨_, rfl⟩
          have hP : va_P D vwCl [(q_tape_, aC0 cy 940 q_tape), (q, oC11 q_thrown q_tape_ q_length q_size q_p q_limit q_s_ q_h_ q_read_ q_names_ q_reserved_ q_token q_at q_span q_number q_fault q_faultAt q_word q_got q_lines q_onces q_webs q_one q_two q_seed q_undone_ q_before_ q_undoMany q_far_ q_wayRow_ q_wayMany q_keptRow_ q_askedRow_ q_rares_ q_trial_ q_keptMany q_askedMany q_hangs_ q_paths_ q_tornSteps q_hasTorn q_turnOne q_hasTurn q_text_ q_textMany q_toldMany q_toldAt_ q_hasTold q_stack_ q_codes q_ones q_top q_deep q_isWhole q_truths_ q_imaged_ q_namesKept_ q_areKept_), (q_s_, aC1 cy 383 q_s), (q_trial_, aC1 cy 8 g_53)] H := hP
          have hD : va_D A [(q_tape_, aC0 cy 940 q_tape), (q, oC11 q_thrown q_tape_ q_length q_size q_p q_limit q_s_ q_h_ q_read_ q_names_ q_reserved_ q_token q_at q_span q_number q_fault q_faultAt q_word q_got q_lines q_onces q_webs q_one q_two q_seed q_undone_ q_before_ q_undoMany q_far_ q_wayRow_ q_wayMany q_keptRow_ q_askedRow_ q_rares_ q_trial_ q_keptMany q_askedMany q_hangs_ q_paths_ q_tornSteps q_hasTorn q_turnOne q_hasTurn q_text_ q_textMany q_toldMany q_toldAt_ q_hasTold q_stack_ q_codes q_ones q_top q_deep q_isWhole q_truths_ q_imaged_ q_namesKept_ q_areKept_), (q_s_, aC1 cy 383 q_s), (q_trial_, aC1 cy 8 g_53)] := hD
          obtain ⟨z_54, hz_54⟩ : ∃ z : Int32, z = x_10 + 1 := ⟨_, rfl⟩
          refine lv_iinc (v := z_54) (lv' := [(3, .int z_54), (0, .ref q), (1, .int a), (2, .int n)]) hx hb dX11_isAskedSo_37 hl (k := 3) rfl hz_54.symm (by decide) rfl (fun ls hl => ?_)
          have hz_54 := o_add hz_54 (rfl : x_10.toInt = x_10.toInt) (by decide : (1 : Int32).toInt = 1) (by omega) (by omega)
          refine lv_goto (tgt := 20) hx hb dX11_isAskedSo_40 (by decide) ?_
          exact ih_15 z_54 g_53 H locs ls (by omega) (by omega) hP hD hS (lv_sub hl [1, 2, 3, 0] rfl)
    exact lp_20_11 4 (0 : Int32) g_9 H locs ls (by have e0 : (0 : Int32).toInt = 0 := (by decide); omega) (by have e0 : (0 : Int32).toInt = 0 := (by decide); omega) hP hD hS (lv_sub hl [1, 2, 3, 0] rfl)
  · have hc_5 := o_eq (rfl : r_2.toInt = r_2.toInt) (by decide : ((-2) : Int32).toInt = -2) c_5
    refine lv_iconst (v := 0) hx hb dX11_isAskedSo_12 (by decide) ?_
    refine o_wq hQ ?_
    exact q_iret (rm := (Rm 3 66 0 0)) C hS q_trial rfl (show 0 ≤ (0 : Int32).toInt ∧ (0 : Int32).toInt ≤ 1 by decide) (q_subP hP [2, 0, 3, 1] rfl) (hD.sub [2, 0, 3, 1] (by decide) rfl) hroom.1 hroom.2 dX11_isAskedSo_13
theorem y_isAskedSo (l : Launch) (D : va_G) (cy : Nat → ClassId) (q : Nat) (a : Int32) (n : Int32) (q_thrown : Int32) (q_tape_ : Nat) (q_length : Int32) (q_size : Int32) (q_p : Int32) (q_limit : Int32) (q_s_ : Nat) (q_h_ : Nat) (q_read_ : Nat) (q_names_ : Nat) (q_reserved_ : Nat) (q_token : Int32) (q_at : Int32) (q_span : Int32) (q_number : Int32) (q_fault : Int32) (q_faultAt : Int32) (q_word : Int64) (q_got : Int32) (q_lines : Int32) (q_onces : Int32) (q_webs : Int32) (q_one : Int32) (q_two : Int32) (q_seed : Int32) (q_undone_ : Nat) (q_before_ : Nat) (q_undoMany : Int32) (q_far_ : Nat) (q_wayRow_ : Nat) (q_wayMany : Int32) (q_keptRow_ : Nat) (q_askedRow_ : Nat) (q_rares_ : Nat) (q_trial_ : Nat) (q_keptMany : Int32) (q_askedMany : Int32) (q_hangs_ : Nat) (q_paths_ : Nat) (q_tornSteps : Int32) (q_hasTorn : Int32) (q_turnOne : Int32) (q_hasTurn : Int32) (q_text_ : Nat) (q_textMany : Int32) (q_toldMany : Int32) (q_toldAt_ : Nat) (q_hasTold : Int32) (q_stack_ : Nat) (q_codes : Int32) (q_ones : Int32) (q_top : Int32) (q_deep : Int32) (q_isWhole : Int32) (q_truths_ : Nat) (q_imaged_ : Nat) (q_namesKept_ : Nat) (q_areKept_ : Nat) (q_tape : Nat → Int32) (q_s : Nat → Int32) (q_trial : Nat → Int32) (sz : Nat) (hb0 : 0 ≤ q_length.toInt ∧ q_length.toInt ≤ 940) (hb1 : 2 ≤ q_size.toInt ∧ q_size.toInt ≤ 16) (hb2 : 0 ≤ q_p.toInt ∧ q_p.toInt ≤ 940) (hb3 : 0 ≤ q_limit.toInt ∧ q_limit.toInt ≤ 940) (hb4 : 0 ≤ q_span.toInt ∧ q_span.toInt ≤ 940) (hb5 : 0 ≤ q_number.toInt ∧ q_number.toInt ≤ 8214) (hb6 : (-1) ≤ q_got.toInt ∧ q_got.toInt ≤ 8214) (hb7 : 0 ≤ q_one.toInt ∧ q_one.toInt ≤ 7) (hb8 : 0 ≤ q_two.toInt ∧ q_two.toInt ≤ 7) (hb9 : 0 ≤ q_undoMany.toInt ∧ q_undoMany.toInt ≤ 8) (hb10 : (-1) ≤ q_wayMany.toInt ∧ q_wayMany.toInt ≤ 8) (hb11 : (-1) ≤ q_keptMany.toInt ∧ q_keptMany.toInt ≤ 8) (hb12 : (-1) ≤ q_askedMany.toInt ∧ q_askedMany.toInt ≤ 3) (hb13 : 0 ≤ q_hasTorn.toInt ∧ q_hasTorn.toInt ≤ 1) (hb14 : 0 ≤ q_hasTurn.toInt ∧ q_hasTurn.toInt ≤ 1) (hb15 : 0 ≤ q_textMany.toInt ∧ q_textMany.toInt ≤ 48) (hb16 : 0 ≤ q_toldMany.toInt ∧ q_toldMany.toInt ≤ 40) (hb17 : 0 ≤ q_hasTold.toInt ∧ q_hasTold.toInt ≤ 1) (hb18 : 0 ≤ q_codes.toInt ∧ q_codes.toInt ≤ 40) (hb19 : 0 ≤ q_ones.toInt ∧ q_ones.toInt ≤ 20) (hb20 : 0 ≤ q_top.toInt ∧ q_top.toInt ≤ 40) (hb21 : 0 ≤ q_isWhole.toInt ∧ q_isWhole.toInt ≤ 1) (hb22 : 0 ≤ a.toInt) (hb23 : 1 ≤ n.toInt ∧ n.toInt ≤ 3) (hR0 : Rg q_s 0 1 0 8) (hR1 : Rg q_s 1 3 0 6) (hR2 : Rg q_s 3 4 1 50) (hR3 : Rg q_s 4 5 1 5) (hR4 : Rg q_s 103 104 0 255) (hR5 : Rg q_s 7 23 0 5) (hR6 : Rg q_s 106 122 0 5) (hR7 : Rg q_s 23 31 0 99) (hR8 : Rg q_s 122 130 0 99) (hX0 : Ro q_tape q_size.toInt) : MI l yX11_isAskedSo cX11_isAskedSo 5 (some .boolean) (Rm 3 66 0 0) D cy [.ref q, .int a, .int n] sz [(q, oC11 q_thrown q_tape_ q_length q_size q_p q_limit q_s_ q_h_ q_read_ q_names_ q_reserved_ q_token q_at q_span q_number q_fault q_faultAt q_word q_got q_lines q_onces q_webs q_one q_two q_seed q_undone_ q_before_ q_undoMany q_far_ q_wayRow_ q_wayMany q_keptRow_ q_askedRow_ q_rares_ q_trial_ q_keptMany q_askedMany q_hangs_ q_paths_ q_tornSteps q_hasTorn q_turnOne q_hasTurn q_text_ q_textMany q_toldMany q_toldAt_ q_hasTold q_stack_ q_codes q_ones q_top q_deep q_isWhole q_truths_ q_imaged_ q_namesKept_ q_areKept_), (q_tape_, aC0 cy 940 q_tape), (q_s_, aC1 cy 383 q_s), (q_trial_, aC1 cy 8 q_trial)] (fun (r : Int32) (u : (Nat → Int32)) => (0 ≤ r.toInt ∧ r.toInt ≤ 1)) (fun u : (Nat → Int32) => [(q, oC11 q_thrown q_tape_ q_length q_size q_p q_limit q_s_ q_h_ q_read_ q_names_ q_reserved_ q_token q_at q_span q_number q_fault q_faultAt q_word q_got q_lines q_onces q_webs q_one q_two q_seed q_undone_ q_before_ q_undoMany q_far_ q_wayRow_ q_wayMany q_keptRow_ q_askedRow_ q_rares_ q_trial_ q_keptMany q_askedMany q_hangs_ q_paths_ q_tornSteps q_hasTorn q_turnOne q_hasTurn q_text_ q_textMany q_toldMany q_toldAt_ q_hasTold q_stack_ q_codes q_ones q_top q_deep q_isWhole q_truths_ q_imaged_ q_namesKept_ q_areKept_), (q_tape_, aC0 cy 940 q_tape), (q_s_, aC1 cy 383 q_s), (q_trial_, aC1 cy 8 u)]) := by
  refine MI.enter (by decide) (Nat.le_of_ble_eq_true rfl) ?_
  intro p e s m below meth c ls A hsz hAe C hP hD hS hl
  exact b_y_isAskedSo l D cy q a n q_thrown q_tape_ q_length q_size q_p q_limit q_s_ q_h_ q_read_ q_names_ q_reserved_ q_token q_at q_span q_number q_fault q_faultAt q_word q_got q_lines q_onces q_webs q_one q_two q_seed q_undone_ q_before_ q_undoMany q_far_ q_wayRow_ q_wayMany q_keptRow_ q_askedRow_ q_rares_ q_trial_ q_keptMany q_askedMany q_hangs_ q_paths_ q_tornSteps q_hasTorn q_turnOne q_hasTurn q_text_ q_textMany q_toldMany q_toldAt_ q_hasTold q_stack_ q_codes q_ones q_top q_deep q_isWhole q_truths_ q_imaged_ q_namesKept_ q_areKept_ q_tape q_s q_trial hb0 hb1 hb2 hb3 hb4 hb5 hb6 hb7 hb8 hb9 hb10 hb11 hb12 hb13 hb14 hb15 hb16 hb17 hb18 hb19 hb20 hb21 hb22 hb23 hR0 hR1 hR2 hR3 hR4 hR5 hR6 hR7 hR8 hX0 ⟨Nat.le_of_ble_eq_true rfl, Nat.le_of_ble_eq_true rfl⟩ C rfl _ _ ls hP hD hS hl
