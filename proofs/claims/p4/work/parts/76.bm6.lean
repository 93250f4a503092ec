theorem dX11_asked_0 : decode cX11_asked 0 = .ok (.aload_n 0, 1) := by decide +kernel
theorem dX11_asked_1 : decode cX11_asked 1 = .ok (.iconst 0, 1) := by decide +kernel
theorem dX11_asked_2 : decode cX11_asked 2 = .ok (.putfield 1, 3) := by decide +kernel
theorem dX11_asked_5 : decode cX11_asked 5 = .ok (.aload_n 0, 1) := by decide +kernel
theorem dX11_asked_6 : decode cX11_asked 6 = .ok (.sipush 940, 3) := by decide +kernel
theorem dX11_asked_9 : decode cX11_asked 9 = .ok (.invokevirtual 276, 3) := by decide +kernel
theorem dX11_asked_12 : decode cX11_asked 12 = .ok (.iload_n 1, 1) := by decide +kernel
theorem dX11_asked_13 : decode cX11_asked 13 = .ok (.iconst 1, 1) := by decide +kernel
theorem dX11_asked_14 : decode cX11_asked 14 = .ok (.iconst 3, 1) := by decide +kernel
theorem dX11_asked_15 : decode cX11_asked 15 = .ok (.invokestatic 206, 3) := by decide +kernel
theorem dX11_asked_18 : decode cX11_asked 18 = .ok (.ifCond .eq 41, 3) := by decide +kernel
theorem dX11_asked_59 : decode cX11_asked 59 = .ok (.iconst (-1), 1) := by decide +kernel
theorem dX11_asked_60 : decode cX11_asked 60 = .ok (.ireturn, 1) := by decide +kernel
theorem dX11_asked_21 : decode cX11_asked 21 = .ok (.aload_n 0, 1) := by decide +kernel
theorem dX11_asked_22 : decode cX11_asked 22 = .ok (.getfield 33, 3) := by decide +kernel
theorem dX11_asked_25 : decode cX11_asked 25 = .ok (.bipush 104, 2) := by decide +kernel
theorem dX11_asked_27 : decode cX11_asked 27 = .ok (.iaload, 1) := by decide +kernel
theorem dX11_asked_28 : decode cX11_asked 28 = .ok (.iload_n 1, 1) := by decide +kernel
theorem dX11_asked_29 : decode cX11_asked 29 = .ok (.iadd, 1) := by decide +kernel
theorem dX11_asked_30 : decode cX11_asked 30 = .ok (.sipush 400, 3) := by decide +kernel
theorem dX11_asked_33 : decode cX11_asked 33 = .ok (.if_icmp .gt 26, 3) := by decide +kernel
theorem dX11_asked_36 : decode cX11_asked 36 = .ok (.aload_n 0, 1) := by decide +kernel
theorem dX11_asked_37 : decode cX11_asked 37 = .ok (.getfield 18, 3) := by decide +kernel
theorem dX11_asked_40 : decode cX11_asked 40 = .ok (.iconst 2, 1) := by decide +kernel
theorem dX11_asked_41 : decode cX11_asked 41 = .ok (.bipush 16, 2) := by decide +kernel
theorem dX11_asked_43 : decode cX11_asked 43 = .ok (.invokestatic 206, 3) := by decide +kernel
theorem dX11_asked_46 : decode cX11_asked 46 = .ok (.ifCond .eq 13, 3) := by decide +kernel
theorem dX11_asked_49 : decode cX11_asked 49 = .ok (.aload_n 0, 1) := by decide +kernel
theorem dX11_asked_50 : decode cX11_asked 50 = .ok (.getfield 18, 3) := by decide +kernel
theorem dX11_asked_53 : decode cX11_asked 53 = .ok (.iconst 2, 1) := by decide +kernel
theorem dX11_asked_54 : decode cX11_asked 54 = .ok (.irem, 1) := by decide +kernel
theorem dX11_asked_55 : decode cX11_asked 55 = .ok (.iconst 1, 1) := by decide +kernel
theorem dX11_asked_56 : decode cX11_asked 56 = .ok (.if_icmp .ne 5, 3) := by decide +kernel
theorem dX11_asked_61 : decode cX11_asked 61 = .ok (.iconst 0, 1) := by decide +kernel
theorem dX11_asked_62 : decode cX11_asked 62 = .ok (.istore_n 2, 1) := by decide +kernel
theorem dX11_asked_63 : decode cX11_asked 63 = .ok (.iload_n 2, 1) := by decide +kernel
theorem dX11_asked_64 : decode cX11_asked 64 = .ok (.aload_n 0, 1) := by decide +kernel
theorem dX11_asked_65 : decode cX11_asked 65 = .ok (.getfield 18, 3) := by decide +kernel
theorem dX11_asked_68 : decode cX11_asked 68 = .ok (.if_icmp .ge 23, 3) := by decide +kernel
theorem dX11_asked_91 : decode cX11_asked 91 = .ok (.iconst 0, 1) := by decide +kernel
theorem dX11_asked_92 : decode cX11_asked 92 = .ok (.istore_n 2, 1) := by decide +kernel
theorem dX11_asked_93 : decode cX11_asked 93 = .ok (.iconst 0, 1) := by decide +kernel
theorem dX11_asked_94 : decode cX11_asked 94 = .ok (.istore_n 3, 1) := by decide +kernel
theorem dX11_asked_95 : decode cX11_asked 95 = .ok (.iconst 0, 1) := by decide +kernel
theorem dX11_asked_96 : decode cX11_asked 96 = .ok (.istore 4, 2) := by decide +kernel
theorem dX11_asked_98 : decode cX11_asked 98 = .ok (.iload 4, 2) := by decide +kernel
theorem dX11_asked_100 : decode cX11_asked 100 = .ok (.aload_n 0, 1) := by decide +kernel
theorem dX11_asked_101 : decode cX11_asked 101 = .ok (.getfield 33, 3) := by decide +kernel
theorem dX11_asked_104 : decode cX11_asked 104 = .ok (.iconst 0, 1) := by decide +kernel
theorem dX11_asked_105 : decode cX11_asked 105 = .ok (.iaload, 1) := by decide +kernel
theorem dX11_asked_106 : decode cX11_asked 106 = .ok (.iconst 1, 1) := by decide +kernel
theorem dX11_asked_107 : decode cX11_asked 107 = .ok (.iadd, 1) := by decide +kernel
theorem dX11_asked_108 : decode cX11_asked 108 = .ok (.iload_n 1, 1) := by decide +kernel
theorem dX11_asked_109 : decode cX11_asked 109 = .ok (.invokestatic 387, 3) := by decide +kernel
theorem dX11_asked_112 : decode cX11_asked 112 = .ok (.if_icmp .ge 36, 3) := by decide +kernel
theorem dX11_asked_148 : decode cX11_asked 148 = .ok (.iload_n 2, 1) := by decide +kernel
theorem dX11_asked_149 : decode cX11_asked 149 = .ok (.ifCond .ne 5, 3) := by decide +kernel
theorem dX11_asked_154 : decode cX11_asked 154 = .ok (.aload_n 0, 1) := by decide +kernel
theorem dX11_asked_155 : decode cX11_asked 155 = .ok (.iload_n 1, 1) := by decide +kernel
theorem dX11_asked_156 : decode cX11_asked 156 = .ok (.putfield 80, 3) := by decide +kernel
theorem dX11_asked_159 : decode cX11_asked 159 = .ok (.iconst 0, 1) := by decide +kernel
theorem dX11_asked_160 : decode cX11_asked 160 = .ok (.istore 4, 2) := by decide +kernel
theorem dX11_asked_162 : decode cX11_asked 162 = .ok (.iload 4, 2) := by decide +kernel
theorem dX11_asked_164 : decode cX11_asked 164 = .ok (.iload_n 1, 1) := by decide +kernel
theorem dX11_asked_165 : decode cX11_asked 165 = .ok (.if_icmp .ge 24, 3) := by decide +kernel
theorem dX11_asked_189 : decode cX11_asked 189 = .ok (.iload_n 2, 1) := by decide +kernel
theorem dX11_asked_190 : decode cX11_asked 190 = .ok (.ireturn, 1) := by decide +kernel
theorem dX11_asked_168 : decode cX11_asked 168 = .ok (.aload_n 0, 1) := by decide +kernel
theorem dX11_asked_169 : decode cX11_asked 169 = .ok (.getfield 68, 3) := by decide +kernel
theorem dX11_asked_172 : decode cX11_asked 172 = .ok (.iload 4, 2) := by decide +kernel
theorem dX11_asked_174 : decode cX11_asked 174 = .ok (.aload_n 0, 1) := by decide +kernel
theorem dX11_asked_175 : decode cX11_asked 175 = .ok (.iload_n 3, 1) := by decide +kernel
theorem dX11_asked_176 : decode cX11_asked 176 = .ok (.iload_n 1, 1) := by decide +kernel
theorem dX11_asked_177 : decode cX11_asked 177 = .ok (.iload 4, 2) := by decide +kernel
theorem dX11_asked_179 : decode cX11_asked 179 = .ok (.invokevirtual 394, 3) := by decide +kernel
theorem dX11_asked_182 : decode cX11_asked 182 = .ok (.iastore, 1) := by decide +kernel
theorem dX11_asked_183 : decode cX11_asked 183 = .ok (.iinc 4 1, 3) := by decide +kernel
theorem dX11_asked_186 : decode cX11_asked 186 = .ok (.goto (-24), 3) := by decide +kernel
theorem dX11_asked_152 : decode cX11_asked 152 = .ok (.iconst 0, 1) := by decide +kernel
theorem dX11_asked_153 : decode cX11_asked 153 = .ok (.ireturn, 1) := by decide +kernel
theorem dX11_asked_115 : decode cX11_asked 115 = .ok (.aload_n 0, 1) := by decide +kernel
theorem dX11_asked_116 : decode cX11_asked 116 = .ok (.iload 4, 2) := by decide +kernel
theorem dX11_asked_118 : decode cX11_asked 118 = .ok (.iload_n 1, 1) := by decide +kernel
theorem dX11_asked_119 : decode cX11_asked 119 = .ok (.invokevirtual 400, 3) := by decide +kernel
theorem kwV_X11_isAskedSo : MwV RX11 yX11_isAskedSo cX11_isAskedSo 5 (some .boolean) 2 := ⟨List.mem_filter.mpr ⟨List.mem_of_getElem? (i := 1990) (by decide +kernel), by decide +kernel⟩, List.mem_filter.mpr ⟨List.mem_of_getElem? (i := 1989) (by decide +kernel), by decide +kernel⟩, List.mem_filter.mpr ⟨List.mem_of_getElem? (i := 104) (by decide +kernel), by decide +kernel⟩, List.mem_filter.mpr ⟨List.mem_of_getElem? (i := 139) (by decide +kernel), by decide +kernel⟩, by decide +kernel⟩
theorem kM_RX11_400 : Cond.methodLink RX11 400 yX11_isAskedSo ∈ gT := List.mem_filter.mpr ⟨List.mem_of_getElem? (i := 1987) (by decide +kernel), by decide +kernel⟩
theorem dX11_asked_122 : decode cX11_asked 122 = .ok (.ifCond .ne 6, 3) := by decide +kernel
theorem dX11_asked_128 : decode cX11_asked 128 = .ok (.iload_n 2, 1) := by decide +kernel
theorem dX11_asked_129 : decode cX11_asked 129 = .ok (.ifCond .ne 8, 3) := by decide +kernel
theorem dX11_asked_137 : decode cX11_asked 137 = .ok (.iload_n 3, 1) := by decide +kernel
theorem dX11_asked_138 : decode cX11_asked 138 = .ok (.istore_n 3, 1) := by decide +kernel
theorem dX11_asked_139 : decode cX11_asked 139 = .ok (.iinc 2 1, 3) := by decide +kernel
theorem dX11_asked_142 : decode cX11_asked 142 = .ok (.iinc 4 1, 3) := by decide +kernel
theorem dX11_asked_145 : decode cX11_asked 145 = .ok (.goto (-47), 3) := by decide +kernel
theorem dX11_asked_132 : decode cX11_asked 132 = .ok (.iload 4, 2) := by decide +kernel
theorem dX11_asked_134 : decode cX11_asked 134 = .ok (.goto 4, 3) := by decide +kernel
theorem dX11_asked_125 : decode cX11_asked 125 = .ok (.goto 17, 3) := by decide +kernel
theorem dX11_asked_71 : decode cX11_asked 71 = .ok (.aload_n 0, 1) := by decide +kernel
theorem dX11_asked_72 : decode cX11_asked 72 = .ok (.aload_n 0, 1) := by decide +kernel
theorem dX11_asked_73 : decode cX11_asked 73 = .ok (.iload_n 2, 1) := by decide +kernel
theorem dX11_asked_74 : decode cX11_asked 74 = .ok (.invokevirtual 397, 3) := by decide +kernel
theorem dX11_asked_77 : decode cX11_asked 77 = .ok (.invokevirtual 306, 3) := by decide +kernel
theorem dX11_asked_80 : decode cX11_asked 80 = .ok (.ifCond .ne 5, 3) := by decide +kernel
theorem dX11_asked_85 : decode cX11_asked 85 = .ok (.iinc 2 2, 3) := by decide +kernel
theorem dX11_asked_88 : decode cX11_asked 88 = .ok (.goto (-25), 3) := by decide +kernel
theorem dX11_asked_83 : decode cX11_asked 83 = .ok (.iconst (-1), 1) := by decide +kernel
theorem dX11_asked_84 : decode cX11_asked 84 = .ok (.ireturn, 1) := by decide +kernel
theorem dX11_laysPaths_0 : decode cX11_laysPaths 0 = .ok (.iconst 0, 1) := by decide +kernel
theorem dX11_laysPaths_1 : decode cX11_laysPaths 1 = .ok (.istore_n 1, 1) := by decide +kernel
theorem dX11_laysPaths_2 : decode cX11_laysPaths 2 = .ok (.iload_n 1, 1) := by decide +kernel
theorem dX11_laysPaths_3 : decode cX11_laysPaths 3 = .ok (.bipush 36, 2) := by decide +kernel
theorem dX11_laysPaths_5 : decode cX11_laysPaths 5 = .ok (.if_icmp .ge 53, 3) := by decide +kernel
theorem dX11_laysPaths_58 : decode cX11_laysPaths 58 = .ok (.iconst 1, 1) := by decide +kernel
theorem dX11_laysPaths_59 : decode cX11_laysPaths 59 = .ok (.istore_n 1, 1) := by decide +kernel
theorem dX11_laysPaths_60 : decode cX11_laysPaths 60 = .ok (.iload_n 1, 1) := by decide +kernel
theorem dX11_laysPaths_61 : decode cX11_laysPaths 61 = .ok (.ifCond .eq 106, 3) := by decide +kernel
theorem dX11_laysPaths_167 : decode cX11_laysPaths 167 = .ok (.return_, 1) := by decide +kernel
theorem dX11_laysPaths_64 : decode cX11_laysPaths 64 = .ok (.iconst 0, 1) := by decide +kernel
theorem dX11_laysPaths_65 : decode cX11_laysPaths 65 = .ok (.istore_n 1, 1) := by decide +kernel
theorem dX11_laysPaths_66 : decode cX11_laysPaths 66 = .ok (.iconst 0, 1) := by decide +kernel
theorem dX11_laysPaths_67 : decode cX11_laysPaths 67 = .ok (.istore_n 2, 1) := by decide +kernel
theorem dX11_laysPaths_68 : decode cX11_laysPaths 68 = .ok (.iload_n 2, 1) := by decide +kernel
theorem dX11_laysPaths_69 : decode cX11_laysPaths 69 = .ok (.aload_n 0, 1) := by decide +kernel
theorem dX11_laysPaths_70 : decode cX11_laysPaths 70 = .ok (.getfield 33, 3) := by decide +kernel
theorem dX11_laysPaths_73 : decode cX11_laysPaths 73 = .ok (.iconst 2, 1) := by decide +kernel
theorem dX11_laysPaths_74 : decode cX11_laysPaths 74 = .ok (.iaload, 1) := by decide +kernel
theorem dX11_laysPaths_75 : decode cX11_laysPaths 75 = .ok (.if_icmp .ge 89, 3) := by decide +kernel
theorem dX11_laysPaths_164 : decode cX11_laysPaths 164 = .ok (.goto (-104), 3) := by decide +kernel
theorem dX11_laysPaths_78 : decode cX11_laysPaths 78 = .ok (.iconst 0, 1) := by decide +kernel
theorem dX11_laysPaths_79 : decode cX11_laysPaths 79 = .ok (.istore_n 3, 1) := by decide +kernel
theorem dX11_laysPaths_80 : decode cX11_laysPaths 80 = .ok (.iload_n 3, 1) := by decide +kernel
theorem dX11_laysPaths_81 : decode cX11_laysPaths 81 = .ok (.aload_n 0, 1) := by decide +kernel
theorem dX11_laysPaths_82 : decode cX11_laysPaths 82 = .ok (.getfield 33, 3) := by decide +kernel
theorem dX11_laysPaths_85 : decode cX11_laysPaths 85 = .ok (.iconst 1, 1) := by decide +kernel
theorem dX11_laysPaths_86 : decode cX11_laysPaths 86 = .ok (.iaload, 1) := by decide +kernel
theorem dX11_laysPaths_87 : decode cX11_laysPaths 87 = .ok (.if_icmp .ge 71, 3) := by decide +kernel
theorem dX11_laysPaths_158 : decode cX11_laysPaths 158 = .ok (.iinc 2 1, 3) := by decide +kernel
theorem dX11_laysPaths_161 : decode cX11_laysPaths 161 = .ok (.goto (-93), 3) := by decide +kernel
theorem dX11_laysPaths_90 : decode cX11_laysPaths 90 = .ok (.bipush 6, 2) := by decide +kernel
theorem dX11_laysPaths_92 : decode cX11_laysPaths 92 = .ok (.iload_n 2, 1) := by decide +kernel
theorem dX11_laysPaths_93 : decode cX11_laysPaths 93 = .ok (.imul, 1) := by decide +kernel
theorem dX11_laysPaths_94 : decode cX11_laysPaths 94 = .ok (.iload_n 3, 1) := by decide +kernel
theorem dX11_laysPaths_95 : decode cX11_laysPaths 95 = .ok (.iadd, 1) := by decide +kernel
theorem dX11_laysPaths_96 : decode cX11_laysPaths 96 = .ok (.istore 4, 2) := by decide +kernel
theorem dX11_laysPaths_98 : decode cX11_laysPaths 98 = .ok (.aload_n 0, 1) := by decide +kernel
theorem dX11_laysPaths_99 : decode cX11_laysPaths 99 = .ok (.iload 4, 2) := by decide +kernel
theorem dX11_laysPaths_101 : decode cX11_laysPaths 101 = .ok (.iload_n 3, 1) := by decide +kernel
theorem dX11_laysPaths_102 : decode cX11_laysPaths 102 = .ok (.iconst 1, 1) := by decide +kernel
theorem dX11_laysPaths_103 : decode cX11_laysPaths 103 = .ok (.isub, 1) := by decide +kernel
theorem dX11_laysPaths_104 : decode cX11_laysPaths 104 = .ok (.iload_n 2, 1) := by decide +kernel
theorem dX11_laysPaths_105 : decode cX11_laysPaths 105 = .ok (.invokevirtual 406, 3) := by decide +kernel
theorem kwV_X11_isShorter : MwV RX11 yX11_isShorter cX11_isShorter 5 (some .boolean) 3 := ⟨List.mem_filter.mpr ⟨List.mem_of_getElem? (i := 2018) (by decide +kernel), by decide +kernel⟩, List.mem_filter.mpr ⟨List.mem_of_getElem? (i := 2017) (by decide +kernel), by decide +kernel⟩, List.mem_filter.mpr ⟨List.mem_of_getElem? (i := 108) (by decide +kernel), by decide +kernel⟩, List.mem_filter.mpr ⟨List.mem_of_getElem? (i := 139) (by decide +kernel), by decide +kernel⟩, by decide +kernel⟩
theorem kM_RX11_406 : Cond.methodLink RX11 406 yX11_isShorter ∈ gT := List.mem_filter.mpr ⟨List.mem_of_getElem? (i := 2015) (by decide +kernel), by decide +kernel⟩
theorem dX11_laysPaths_108 : decode cX11_laysPaths 108 = .ok (.ifCond .ne 42, 3) := by decide +kernel
theorem dX11_laysPaths_150 : decode cX11_laysPaths 150 = .ok (.iconst 1, 1) := by decide +kernel
theorem dX11_laysPaths_151 : decode cX11_laysPaths 151 = .ok (.istore_n 1, 1) := by decide +kernel
theorem dX11_laysPaths_152 : decode cX11_laysPaths 152 = .ok (.iinc 3 1, 3) := by decide +kernel
theorem dX11_laysPaths_155 : decode cX11_laysPaths 155 = .ok (.goto (-75), 3) := by decide +kernel
theorem dX11_laysPaths_111 : decode cX11_laysPaths 111 = .ok (.aload_n 0, 1) := by decide +kernel
theorem dX11_laysPaths_112 : decode cX11_laysPaths 112 = .ok (.iload 4, 2) := by decide +kernel
theorem dX11_laysPaths_114 : decode cX11_laysPaths 114 = .ok (.iload_n 3, 1) := by decide +kernel
theorem dX11_laysPaths_115 : decode cX11_laysPaths 115 = .ok (.iconst 1, 1) := by decide +kernel
theorem dX11_laysPaths_116 : decode cX11_laysPaths 116 = .ok (.iadd, 1) := by decide +kernel
theorem dX11_laysPaths_117 : decode cX11_laysPaths 117 = .ok (.iload_n 2, 1) := by decide +kernel
theorem dX11_laysPaths_118 : decode cX11_laysPaths 118 = .ok (.invokevirtual 406, 3) := by decide +kernel
theorem dX11_laysPaths_121 : decode cX11_laysPaths 121 = .ok (.ifCond .ne 29, 3) := by decide +kernel
theorem dX11_laysPaths_124 : decode cX11_laysPaths 124 = .ok (.aload_n 0, 1) := by decide +kernel
theorem dX11_laysPaths_125 : decode cX11_laysPaths 125 = .ok (.iload 4, 2) := by decide +kernel
theorem dX11_laysPaths_127 : decode cX11_laysPaths 127 = .ok (.iload_n 3, 1) := by decide +kernel
theorem dX11_laysPaths_128 : decode cX11_laysPaths 128 = .ok (.iload_n 2, 1) := by decide +kernel
theorem dX11_laysPaths_129 : decode cX11_laysPaths 129 = .ok (.iconst 1, 1) := by decide +kernel
theorem dX11_laysPaths_130 : decode cX11_laysPaths 130 = .ok (.isub, 1) := by decide +kernel
theorem dX11_laysPaths_131 : decode cX11_laysPaths 131 = .ok (.invokevirtual 406, 3) := by decide +kernel
theorem dX11_laysPaths_134 : decode cX11_laysPaths 134 = .ok (.ifCond .ne 16, 3) := by decide +kernel
theorem dX11_laysPaths_137 : decode cX11_laysPaths 137 = .ok (.aload_n 0, 1) := by decide +kernel
theorem dX11_laysPaths_138 : decode cX11_laysPaths 138 = .ok (.iload 4, 2) := by decide +kernel
theorem dX11_laysPaths_140 : decode cX11_laysPaths 140 = .ok (.iload_n 3, 1) := by decide +kernel
theorem dX11_laysPaths_141 : decode cX11_laysPaths 141 = .ok (.iload_n 2, 1) := by decide +kernel
theorem dX11_laysPaths_142 : decode cX11_laysPaths 142 = .ok (.iconst 1, 1) := by decide +kernel
theorem dX11_laysPaths_143 : decode cX11_laysPaths 143 = .ok (.iadd, 1) := by decide +kernel
theorem dX11_laysPaths_144 : decode cX11_laysPaths 144 = .ok (.invokevirtual 406, 3) := by decide +kernel
theorem dX11_laysPaths_147 : decode cX11_laysPaths 147 = .ok (.ifCond .eq 5, 3) := by decide +kernel
theorem dX11_laysPaths_8 : decode cX11_laysPaths 8 = .ok (.aload_n 0, 1) := by decide +kernel
theorem dX11_laysPaths_9 : decode cX11_laysPaths 9 = .ok (.getfield 83, 3) := by decide +kernel
theorem dX11_laysPaths_12 : decode cX11_laysPaths 12 = .ok (.iload_n 1, 1) := by decide +kernel
theorem dX11_laysPaths_13 : decode cX11_laysPaths 13 = .ok (.aload_n 0, 1) := by decide +kernel
theorem dX11_laysPaths_14 : decode cX11_laysPaths 14 = .ok (.iload_n 1, 1) := by decide +kernel
theorem dX11_laysPaths_15 : decode cX11_laysPaths 15 = .ok (.bipush 6, 2) := by decide +kernel
theorem dX11_laysPaths_17 : decode cX11_laysPaths 17 = .ok (.irem, 1) := by decide +kernel
theorem dX11_laysPaths_18 : decode cX11_laysPaths 18 = .ok (.iload_n 1, 1) := by decide +kernel
theorem dX11_laysPaths_19 : decode cX11_laysPaths 19 = .ok (.bipush 6, 2) := by decide +kernel
theorem dX11_laysPaths_21 : decode cX11_laysPaths 21 = .ok (.idiv, 1) := by decide +kernel
theorem dX11_laysPaths_22 : decode cX11_laysPaths 22 = .ok (.invokevirtual 403, 3) := by decide +kernel
theorem kwV_X11_hangsOver : MwV RX11 yX11_hangsOver cX11_hangsOver 6 (some .int) 2 := ⟨List.mem_filter.mpr ⟨List.mem_of_getElem? (i := 2014) (by decide +kernel), by decide +kernel⟩, List.mem_filter.mpr ⟨List.mem_of_getElem? (i := 2013) (by decide +kernel), by decide +kernel⟩, List.mem_filter.mpr ⟨List.mem_of_getElem? (i := 107) (by decide +kernel), by decide +kernel⟩, List.mem_filter.mpr ⟨List.mem_of_getElem? (i := 139) (by decide +kernel), by decide +kernel⟩, by decide +kernel⟩
theorem kM_RX11_403 : Cond.methodLink RX11 403 yX11_hangsOver ∈ gT := List.mem_filter.mpr ⟨List.mem_of_getElem? (i := 2011) (by decide +kernel), by decide +kernel⟩
theorem dX11_laysPaths_25 : decode cX11_laysPaths 25 = .ok (.iastore, 1) := by decide +kernel
theorem dX11_laysPaths_26 : decode cX11_laysPaths 26 = .ok (.aload_n 0, 1) := by decide +kernel
theorem dX11_laysPaths_27 : decode cX11_laysPaths 27 = .ok (.getfield 86, 3) := by decide +kernel
theorem dX11_laysPaths_30 : decode cX11_laysPaths 30 = .ok (.iload_n 1, 1) := by decide +kernel
theorem dX11_laysPaths_31 : decode cX11_laysPaths 31 = .ok (.iload_n 1, 1) := by decide +kernel
theorem dX11_laysPaths_32 : decode cX11_laysPaths 32 = .ok (.ifCond .ne 16, 3) := by decide +kernel
theorem dX11_laysPaths_48 : decode cX11_laysPaths 48 = .ok (.ldc_w 366, 3) := by decide +kernel
theorem dX11_laysPaths_51 : decode cX11_laysPaths 51 = .ok (.iastore, 1) := by decide +kernel
theorem dX11_laysPaths_52 : decode cX11_laysPaths 52 = .ok (.iinc 1 1, 3) := by decide +kernel
theorem dX11_laysPaths_55 : decode cX11_laysPaths 55 = .ok (.goto (-53), 3) := by decide +kernel
theorem dX11_laysPaths_35 : decode cX11_laysPaths 35 = .ok (.sipush 1000, 3) := by decide +kernel
theorem dX11_laysPaths_38 : decode cX11_laysPaths 38 = .ok (.aload_n 0, 1) := by decide +kernel
theorem dX11_laysPaths_39 : decode cX11_laysPaths 39 = .ok (.getfield 83, 3) := by decide +kernel
theorem dX11_laysPaths_42 : decode cX11_laysPaths 42 = .ok (.iload_n 1, 1) := by decide +kernel
theorem dX11_laysPaths_43 : decode cX11_laysPaths 43 = .ok (.iaload, 1) := by decide +kernel
theorem dX11_laysPaths_44 : decode cX11_laysPaths 44 = .ok (.imul, 1) := by decide +kernel
theorem dX11_laysPaths_45 : decode cX11_laysPaths 45 = .ok (.goto 6, 3) := by decide +kernel
theorem dX11_torn_0 : decode cX11_torn 0 = .ok (.aload_n 0, 1) := by decide +kernel
theorem dX11_torn_1 : decode cX11_torn 1 = .ok (.iconst 0, 1) := by decide +kernel
theorem dX11_torn_2 : decode cX11_torn 2 = .ok (.putfield 1, 3) := by decide +kernel
theorem dX11_torn_5 : decode cX11_torn 5 = .ok (.aload_n 0, 1) := by decide +kernel
theorem dX11_torn_6 : decode cX11_torn 6 = .ok (.iload_n 1, 1) := by decide +kernel
theorem dX11_torn_7 : decode cX11_torn 7 = .ok (.invokevirtual 306, 3) := by decide +kernel
theorem dX11_torn_10 : decode cX11_torn 10 = .ok (.ifCond .ne 5, 3) := by decide +kernel
theorem dX11_torn_15 : decode cX11_torn 15 = .ok (.aload_n 0, 1) := by decide +kernel
theorem dX11_torn_16 : decode cX11_torn 16 = .ok (.invokevirtual 409, 3) := by decide +kernel
theorem kwV_X11_laysPaths : MwV RX11 yX11_laysPaths cX11_laysPaths 5 none 0 := ⟨List.mem_filter.mpr ⟨List.mem_of_getElem? (i := 2010) (by decide +kernel), by decide +kernel⟩, List.mem_filter.mpr ⟨List.mem_of_getElem? (i := 2009) (by decide +kernel), by decide +kernel⟩, List.mem_filter.mpr ⟨List.mem_of_getElem? (i := 106) (by decide +kernel), by decide +kernel⟩, List.mem_filter.mpr ⟨List.mem_of_getElem? (i := 139) (by decide +kernel), by decide +kernel⟩, by decide +kernel⟩
theorem kM_RX11_409 : Cond.methodLink RX11 409 yX11_laysPaths ∈ gT := List.mem_filter.mpr ⟨List.mem_of_getElem? (i := 2007) (by decide +kernel), by decide +kernel⟩
theorem dX11_torn_19 : decode cX11_torn 19 = .ok (.aload_n 0, 1) := by decide +kernel
theorem dX11_torn_20 : decode cX11_torn 20 = .ok (.getfield 86, 3) := by decide +kernel
theorem dX11_torn_23 : decode cX11_torn 23 = .ok (.bipush 6, 2) := by decide +kernel
theorem dX11_torn_25 : decode cX11_torn 25 = .ok (.aload_n 0, 1) := by decide +kernel
theorem dX11_torn_26 : decode cX11_torn 26 = .ok (.getfield 33, 3) := by decide +kernel
theorem dX11_torn_29 : decode cX11_torn 29 = .ok (.bipush 114, 2) := by decide +kernel
theorem dX11_torn_31 : decode cX11_torn 31 = .ok (.iload_n 1, 1) := by decide +kernel
theorem dX11_torn_32 : decode cX11_torn 32 = .ok (.iadd, 1) := by decide +kernel
theorem dX11_torn_33 : decode cX11_torn 33 = .ok (.iaload, 1) := by decide +kernel
theorem dX11_torn_34 : decode cX11_torn 34 = .ok (.imul, 1) := by decide +kernel
theorem dX11_torn_35 : decode cX11_torn 35 = .ok (.aload_n 0, 1) := by decide +kernel
theorem dX11_torn_36 : decode cX11_torn 36 = .ok (.getfield 33, 3) := by decide +kernel
theorem dX11_torn_39 : decode cX11_torn 39 = .ok (.bipush 106, 2) := by decide +kernel
theorem dX11_torn_41 : decode cX11_torn 41 = .ok (.iload_n 1, 1) := by decide +kernel
theorem dX11_torn_42 : decode cX11_torn 42 = .ok (.iadd, 1) := by decide +kernel
theorem dX11_torn_43 : decode cX11_torn 43 = .ok (.iaload, 1) := by decide +kernel
theorem dX11_torn_44 : decode cX11_torn 44 = .ok (.iadd, 1) := by decide +kernel
theorem dX11_torn_45 : decode cX11_torn 45 = .ok (.iaload, 1) := by decide +kernel
theorem dX11_torn_46 : decode cX11_torn 46 = .ok (.istore_n 2, 1) := by decide +kernel
theorem dX11_torn_47 : decode cX11_torn 47 = .ok (.aload_n 0, 1) := by decide +kernel
theorem dX11_torn_48 : decode cX11_torn 48 = .ok (.iconst 1, 1) := by decide +kernel
theorem dX11_torn_49 : decode cX11_torn 49 = .ok (.putfield 412, 3) := by decide +kernel
theorem dX11_torn_52 : decode cX11_torn 52 = .ok (.aload_n 0, 1) := by decide +kernel
theorem dX11_torn_53 : decode cX11_torn 53 = .ok (.iload_n 2, 1) := by decide +kernel
theorem dX11_torn_54 : decode cX11_torn 54 = .ok (.sipush 1000, 3) := by decide +kernel
theorem dX11_torn_57 : decode cX11_torn 57 = .ok (.irem, 1) := by decide +kernel
theorem dX11_torn_58 : decode cX11_torn 58 = .ok (.putfield 416, 3) := by decide +kernel
theorem dX11_torn_61 : decode cX11_torn 61 = .ok (.iload_n 2, 1) := by decide +kernel
theorem dX11_torn_62 : decode cX11_torn 62 = .ok (.sipush 1000, 3) := by decide +kernel
theorem dX11_torn_65 : decode cX11_torn 65 = .ok (.idiv, 1) := by decide +kernel
theorem dX11_torn_66 : decode cX11_torn 66 = .ok (.ireturn, 1) := by decide +kernel
theorem dX11_torn_13 : decode cX11_torn 13 = .ok (.iconst (-1), 1) := by decide +kernel
theorem dX11_torn_14 : decode cX11_torn 14 = .ok (.ireturn, 1) := by decide +kernel
theorem dX11_way_0 : decode cX11_way 0 = .ok (.aload_n 0, 1) := by decide +kernel
theorem dX11_way_1 : decode cX11_way 1 = .ok (.iconst 0, 1) := by decide +kernel
theorem dX11_way_2 : decode cX11_way 2 = .ok (.putfield 1, 3) := by decide +kernel
theorem dX11_way_5 : decode cX11_way 5 = .ok (.aload_n 0, 1) := by decide +kernel
theorem dX11_way_6 : decode cX11_way 6 = .ok (.iload_n 1, 1) := by decide +kernel
theorem dX11_way_7 : decode cX11_way 7 = .ok (.invokevirtual 306, 3) := by decide +kernel
theorem dX11_way_10 : decode cX11_way 10 = .ok (.ifCond .eq 11, 3) := by decide +kernel
theorem dX11_way_21 : decode cX11_way 21 = .ok (.iconst (-1), 1) := by decide +kernel
theorem dX11_way_22 : decode cX11_way 22 = .ok (.ireturn, 1) := by decide +kernel
theorem dX11_way_13 : decode cX11_way 13 = .ok (.aload_n 0, 1) := by decide +kernel
theorem dX11_way_14 : decode cX11_way 14 = .ok (.iload_n 2, 1) := by decide +kernel
theorem dX11_way_15 : decode cX11_way 15 = .ok (.invokevirtual 306, 3) := by decide +kernel
theorem dX11_way_18 : decode cX11_way 18 = .ok (.ifCond .ne 5, 3) := by decide +kernel
theorem dX11_way_23 : decode cX11_way 23 = .ok (.aload_n 0, 1) := by decide +kernel
theorem dX11_way_24 : decode cX11_way 24 = .ok (.iload_n 2, 1) := by decide +kernel
theorem dX11_way_25 : decode cX11_way 25 = .ok (.invokevirtual 367, 3) := by decide +kernel
theorem dX11_way_28 : decode cX11_way 28 = .ok (.aload_n 0, 1) := by decide +kernel
theorem dX11_way_29 : decode cX11_way 29 = .ok (.getfield 56, 3) := by decide +kernel
theorem dX11_way_32 : decode cX11_way 32 = .ok (.iload_n 1, 1) := by decide +kernel
theorem dX11_way_33 : decode cX11_way 33 = .ok (.iaload, 1) := by decide +kernel
theorem dX11_way_34 : decode cX11_way 34 = .ok (.ldc_w 366, 3) := by decide +kernel
theorem dX11_way_37 : decode cX11_way 37 = .ok (.if_icmp .ne 5, 3) := by decide +kernel
theorem dX11_way_42 : decode cX11_way 42 = .ok (.iload_n 1, 1) := by decide +kernel
theorem dX11_way_43 : decode cX11_way 43 = .ok (.istore_n 3, 1) := by decide +kernel
theorem dX11_way_44 : decode cX11_way 44 = .ok (.aload_n 0, 1) := by decide +kernel
theorem dX11_way_45 : decode cX11_way 45 = .ok (.aload_n 0, 1) := by decide +kernel
theorem dX11_way_46 : decode cX11_way 46 = .ok (.getfield 56, 3) := by decide +kernel
theorem dX11_way_49 : decode cX11_way 49 = .ok (.iload_n 1, 1) := by decide +kernel
theorem dX11_way_50 : decode cX11_way 50 = .ok (.iaload, 1) := by decide +kernel
theorem dX11_way_51 : decode cX11_way 51 = .ok (.iconst 1, 1) := by decide +kernel
theorem dX11_way_52 : decode cX11_way 52 = .ok (.iadd, 1) := by decide +kernel
theorem dX11_way_53 : decode cX11_way 53 = .ok (.putfield 62, 3) := by decide +kernel
theorem dX11_way_56 : decode cX11_way 56 = .ok (.aload_n 0, 1) := by decide +kernel
theorem dX11_way_57 : decode cX11_way 57 = .ok (.getfield 59, 3) := by decide +kernel
theorem dX11_way_60 : decode cX11_way 60 = .ok (.iconst 0, 1) := by decide +kernel
theorem dX11_way_61 : decode cX11_way 61 = .ok (.iload_n 1, 1) := by decide +kernel
theorem dX11_way_62 : decode cX11_way 62 = .ok (.iastore, 1) := by decide +kernel
theorem dX11_way_63 : decode cX11_way 63 = .ok (.iconst 1, 1) := by decide +kernel
theorem dX11_way_64 : decode cX11_way 64 = .ok (.istore 4, 2) := by decide +kernel
theorem dX11_way_66 : decode cX11_way 66 = .ok (.iload 4, 2) := by decide +kernel
theorem dX11_way_68 : decode cX11_way 68 = .ok (.aload_n 0, 1) := by decide +kernel
theorem dX11_way_69 : decode cX11_way 69 = .ok (.getfield 62, 3) := by decide +kernel
theorem dX11_way_72 : decode cX11_way 72 = .ok (.if_icmp .ge 61, 3) := by decide +kernel
theorem dX11_way_133 : decode cX11_way 133 = .ok (.aload_n 0, 1) := by decide +kernel
theorem dX11_way_134 : decode cX11_way 134 = .ok (.getfield 62, 3) := by decide +kernel
theorem dX11_way_137 : decode cX11_way 137 = .ok (.iconst 1, 1) := by decide +kernel
theorem dX11_way_138 : decode cX11_way 138 = .ok (.isub, 1) := by decide +kernel
theorem dX11_way_139 : decode cX11_way 139 = .ok (.ireturn, 1) := by decide +kernel
theorem dX11_way_75 : decode cX11_way 75 = .ok (.iconst 0, 1) := by decide +kernel
theorem dX11_way_76 : decode cX11_way 76 = .ok (.istore 5, 2) := by decide +kernel
theorem dX11_way_78 : decode cX11_way 78 = .ok (.aload_n 0, 1) := by decide +kernel
theorem dX11_way_79 : decode cX11_way 79 = .ok (.iload_n 3, 1) := by decide +kernel
theorem dX11_way_80 : decode cX11_way 80 = .ok (.invokevirtual 316, 3) := by decide +kernel
theorem dX11_way_83 : decode cX11_way 83 = .ok (.iload 5, 2) := by decide +kernel
theorem dX11_way_85 : decode cX11_way 85 = .ok (.invokestatic 231, 3) := by decide +kernel
theorem dX11_way_88 : decode cX11_way 88 = .ok (.ifCond .eq 21, 3) := by decide +kernel
theorem dX11_way_109 : decode cX11_way 109 = .ok (.iinc 5 1, 3) := by decide +kernel
theorem dX11_way_112 : decode cX11_way 112 = .ok (.goto (-34), 3) := by decide +kernel
theorem dX11_way_91 : decode cX11_way 91 = .ok (.aload_n 0, 1) := by decide +kernel
theorem dX11_way_92 : decode cX11_way 92 = .ok (.getfield 56, 3) := by decide +kernel
theorem dX11_way_95 : decode cX11_way 95 = .ok (.iload 5, 2) := by decide +kernel
theorem dX11_way_97 : decode cX11_way 97 = .ok (.iaload, 1) := by decide +kernel
theorem dX11_way_98 : decode cX11_way 98 = .ok (.aload_n 0, 1) := by decide +kernel
theorem dX11_way_99 : decode cX11_way 99 = .ok (.getfield 56, 3) := by decide +kernel
theorem dX11_way_102 : decode cX11_way 102 = .ok (.iload_n 3, 1) := by decide +kernel
theorem dX11_way_103 : decode cX11_way 103 = .ok (.iaload, 1) := by decide +kernel
theorem dX11_way_104 : decode cX11_way 104 = .ok (.iconst 1, 1) := by decide +kernel
theorem dX11_way_105 : decode cX11_way 105 = .ok (.isub, 1) := by decide +kernel
theorem dX11_way_106 : decode cX11_way 106 = .ok (.if_icmp .eq 9, 3) := by decide +kernel
theorem dX11_way_115 : decode cX11_way 115 = .ok (.aload_n 0, 1) := by decide +kernel
theorem dX11_way_116 : decode cX11_way 116 = .ok (.getfield 59, 3) := by decide +kernel
theorem dX11_way_119 : decode cX11_way 119 = .ok (.iload 4, 2) := by decide +kernel
theorem dX11_way_121 : decode cX11_way 121 = .ok (.iload 5, 2) := by decide +kernel
theorem dX11_way_123 : decode cX11_way 123 = .ok (.iastore, 1) := by decide +kernel
theorem dX11_way_124 : decode cX11_way 124 = .ok (.iload 5, 2) := by decide +kernel
theorem dX11_way_126 : decode cX11_way 126 = .ok (.istore_n 3, 1) := by decide +kernel
theorem dX11_way_127 : decode cX11_way 127 = .ok (.iinc 4 1, 3) := by decide +kernel
theorem dX11_way_130 : decode cX11_way 130 = .ok (.goto (-64), 3) := by decide +kernel
theorem dX11_way_40 : decode cX11_way 40 = .ok (.iconst (-1), 1) := by decide +kernel
theorem dX11_way_41 : decode cX11_way 41 = .ok (.ireturn, 1) := by decide +kernel
set_option maxHeartbeats 4000000 in
set_option maxRecDepth 100000 in
theorem b_y_asked (l : Launch) (D : va_G) (cy : Nat → ClassId) (q : Nat) (a : Int32) (q_thrown : Int32) (q_tape_ : Nat) (q_length : Int32) (q_size : Int32) (q_p : Int32) (q_limit : Int32) (q_s_ : Nat) (q_h_ : Nat) (q_read_ : Nat) (q_names_ : Nat) (q_reserved_ : Nat) (q_token : Int32) (q_at : Int32) (q_span : Int32) (q_number : Int32) (q_fault : Int32) (q_faultAt : Int32) (q_word : Int64) (q_got : Int32) (q_lines : Int32) (q_onces : Int32) (q_webs : Int32) (q_one : Int32) (q_two : Int32) (q_seed : Int32) (q_undone_ : Nat) (q_before_ : Nat) (q_undoMany : Int32) (q_far_ : Nat) (q_wayRow_ : Nat) (q_wayMany : Int32) (q_keptRow_ : Nat) (q_askedRow_ : Nat) (q_rares_ : Nat) (q_trial_ : Nat) (q_keptMany : Int32) (q_askedMany : Int32) (q_hangs_ : Nat) (q_paths_ : Nat) (q_tornSteps : Int32) (q_hasTorn : Int32) (q_turnOne : Int32) (q_hasTurn : Int32) (q_text_ : Nat) (q_textMany : Int32) (q_toldMany : Int32) (q_toldAt_ : Nat) (q_hasTold : Int32) (q_stack_ : Nat) (q_codes : Int32) (q_ones : Int32) (q_top : Int32) (q_deep : Int32) (q_isWhole : Int32) (q_truths_ : Nat) (q_imaged_ : Nat) (q_namesKept_ : Nat) (q_areKept_ : Nat) (q_tape : Nat → Int32) (q_s : Nat → Int32) (q_askedRow : Nat → Int32) (q_trial : Nat → Int32) (hb0 : 0 ≤ q_length.toInt ∧ q_length.toInt ≤ 940) (hb1 : 0 ≤ q_size.toInt ∧ q_size.toInt ≤ 940) (hb2 : 0 ≤ q_p.toInt ∧ q_p.toInt ≤ 940) (hb3 : 0 ≤ q_limit.toInt ∧ q_limit.toInt ≤ 940) (hb4 : 0 ≤ q_span.toInt ∧ q_span.toInt ≤ 940) (hb5 : 0 ≤ q_number.toInt ∧ q_number.toInt ≤ 8214) (hb6 : (-1) ≤ q_got.toInt ∧ q_got.toInt ≤ 8214) (hb7 : 0 ≤ q_one.toInt ∧ q_one.toInt ≤ 7) (hb8 : 0 ≤ q_two.toInt ∧ q_two.toInt ≤ 7) (hb9 : 0 ≤ q_undoMany.toInt ∧ q_undoMany.toInt ≤ 8) (hb10 : (-1) ≤ q_wayMany.toInt ∧ q_wayMany.toInt ≤ 8) (hb11 : (-1) ≤ q_keptMany.toInt ∧ q_keptMany.toInt ≤ 8) (hb12 : (-1) ≤ q_askedMany.toInt ∧ q_askedMany.toInt ≤ 3) (hb13 : 0 ≤ q_hasTorn.toInt ∧ q_hasTorn.toInt ≤ 1) (hb14 : 0 ≤ q_hasTurn.toInt ∧ q_hasTurn.toInt ≤ 1) (hb15 : 0 ≤ q_textMany.toInt ∧ q_textMany.toInt ≤ 48) (hb16 : 0 ≤ q_toldMany.toInt ∧ q_toldMany.toInt ≤ 40) (hb17 : 0 ≤ q_hasTold.toInt ∧ q_hasTold.toInt ≤ 1) (hb18 : 0 ≤ q_codes.toInt ∧ q_codes.toInt ≤ 40) (hb19 : 0 ≤ q_ones.toInt ∧ q_ones.toInt ≤ 20) (hb20 : 0 ≤ q_top.toInt ∧ q_top.toInt ≤ 40) (hb21 : 0 ≤ q_isWhole.toInt ∧ q_isWhole.toInt ≤ 1) (hR0 : Rg q_s 0 1 0 8) (hR1 : Rg q_s 1 3 0 6) (hR2 : Rg q_s 3 4 1 50) (hR3 : Rg q_s 4 5 1 5) (hR4 : Rg q_s 103 104 0 255) (hR5 : Rg q_s 7 23 0 5) (hR6 : Rg q_s 106 122 0 5) (hR7 : Rg q_s 23 31 0 99) (hR8 : Rg q_s 122 130 0 99) {p : Program} {e : Env} {s : State} {m : MethodId} {args : Array Value} {below : List Frame} {meth : Method} {c : Code} {A : Nat → Prop} {Q : State → Prop} {cells slots : Nat} (hroom : cells ≤ ((Rm 4 90 0 0)).cells ∧ slots ≤ ((Rm 4 90 0 0)).slots) (C : Cx p s m args meth c cX11_asked 5 (some .int) RX11 "asked" D cy A) (hQ : Q = MQ below (va_Qi (fun (r : Int32) (u : Int32 × Int32 × Int32 × Int32 × Int32 × Int32 × (Nat → Int32) × (Nat → Int32)) => (0 ≤ u.2.1.toInt ∧ u.2.1.toInt ≤ 0) ∧ (0 ≤ u.2.2.1.toInt ∧ u.2.2.1.toInt ≤ 940) ∧ (0 ≤ u.2.2.2.1.toInt ∧ u.2.2.2.1.toInt ≤ 940) ∧ (0 ≤ u.2.2.2.2.1.toInt ∧ u.2.2.2.2.1.toInt ≤ 940) ∧ ((-1) ≤ u.2.2.2.2.2.1.toInt ∧ u.2.2.2.2.2.1.toInt ≤ 3)) (Bx D A (fun u : Int32 × Int32 × Int32 × Int32 × Int32 × Int32 × (Nat → Int32) × (Nat → Int32) => [(q, oC11 u.1 q_tape_ u.2.1 u.2.2.1 u.2.2.2.1 u.2.2.2.2.1 q_s_ q_h_ q_read_ q_names_ q_reserved_ q_token q_at q_span q_number q_fault q_faultAt q_word q_got q_lines q_onces q_webs q_one q_two q_seed q_undone_ q_before_ q_undoMany q_far_ q_wayRow_ q_wayMany q_keptRow_ q_askedRow_ q_rares_ q_trial_ q_keptMany u.2.2.2.2.2.1 q_hangs_ q_paths_ q_tornSteps q_hasTorn q_turnOne q_hasTurn q_text_ q_textMany q_toldMany q_toldAt_ q_hasTold q_stack_ q_codes q_ones q_top q_deep q_isWhole q_truths_ q_imaged_ q_namesKept_ q_areKept_), (q_tape_, aC0 cy 940 q_tape), (q_s_, aC1 cy 383 q_s), (q_askedRow_, aC1 cy 3 u.2.2.2.2.2.2.1), (q_trial_, aC1 cy 8 u.2.2.2.2.2.2.2)])) A) args s ((Rm 4 90 0 0)).cells ((Rm 4 90 0 0)).slots A) (H : Heap) (locs : List Loc) (ls : Array Slot) (hP : va_P D vwCl [(q, oC11 q_thrown q_tape_ q_length q_size q_p q_limit q_s_ q_h_ q_read_ q_names_ q_reserved_ q_token q_at q_span q_number q_fault q_faultAt q_word q_got q_lines q_onces q_webs q_one q_two q_seed q_undone_ q_before_ q_undoMany q_far_ q_wayRow_ q_wayMany q_keptRow_ q_askedRow_ q_rares_ q_trial_ q_keptMany q_askedMany q_hangs_ q_paths_ q_tornSteps q_hasTorn q_turnOne q_hasTurn q_text_ q_textMany q_toldMany q_toldAt_ q_hasTold q_stack_ q_codes q_ones q_top q_deep q_isWhole q_truths_ q_imaged_ q_namesKept_ q_areKept_), (q_tape_, aC0 cy 940 q_tape), (q_s_, aC1 cy 383 q_s), (q_askedRow_, aC1 cy 3 q_askedRow), (q_trial_, aC1 cy 8 q_trial)] H) (hD : va_D A [(q, oC11 q_thrown q_tape_ q_length q_size q_p q_limit q_s_ q_h_ q_read_ q_names_ q_reserved_ q_token q_at q_span q_number q_fault q_faultAt q_word q_got q_lines q_onces q_webs q_one q_two q_seed q_undone_ q_before_ q_undoMany q_far_ q_wayRow_ q_wayMany q_keptRow_ q_askedRow_ q_rares_ q_trial_ q_keptMany q_askedMany q_hangs_ q_paths_ q_tornSteps q_hasTorn q_turnOne q_hasTurn q_text_ q_textMany q_toldMany q_toldAt_ q_hasTold q_stack_ q_codes q_ones q_top q_deep q_isWhole q_truths_ q_imaged_ q_namesKept_ q_areKept_), (q_tape_, aC0 cy 940 q_tape), (q_s_, aC1 cy 383 q_s), (q_askedRow_, aC1 cy 3 q_askedRow), (q_trial_, aC1 cy 8 q_trial)]) (hS : va_S A s.heap H locs) (hl : lv_has ls 5 [(0, .ref q), (1, .int a)]) : W p l e (Rm 4 90 0 0) s m args below meth c H locs cells slots Q (F0 m 0 ls []) := by
  have hx := C.1
  have hb := C.2.1
  have hqa := o_rng a
  refine lv_aload_n hx hb dX11_asked_0 rfl (lv_at hl 0 rfl) ?_
  refine lv_iconst (v := 0) hx hb dX11_asked_1 (by decide) ?_
  refine q_put11 (v := .int 0) (w' := [(q, oC11 0 q_tape_ q_length q_size q_p q_limit q_s_ q_h_ q_read_ q_names_ q_reserved_ q_token q_at q_span q_number q_fault q_faultAt q_word q_got q_lines q_onces q_webs q_one q_two q_seed q_undone_ q_before_ q_undoMany q_far_ q_wayRow_ q_wayMany q_keptRow_ q_askedRow_ q_rares_ q_trial_ q_keptMany q_askedMany q_hangs_ q_paths_ q_tornSteps q_hasTorn q_turnOne q_hasTurn q_text_ q_textMany q_toldMany q_toldAt_ q_hasTold q_stack_ q_codes q_ones q_top q_deep q_isWhole q_truths_ q_imaged_ q_namesKept_ q_areKept_), (q_tape_, aC0 cy 940 q_tape), (q_s_, aC1 cy 383 q_s), (q_askedRow_, aC1 cy 3 q_askedRow), (q_trial_, aC1 cy 8 q_trial)]) C hP hD hS 0 0 rfl fT_0 fy_0 (by decide) kF_RX11_1 rfl rfl (Nat.le_of_ble_eq_true rfl) rfl dX11_asked_2 (fun H locs hP hD hS => ?_)
  refine lv_aload_n hx hb dX11_asked_5 rfl (lv_at hl 0 rfl) ?_
  refine lv_sipush (v := 940) hx hb dX11_asked_6 (by decide) ?_
  refine q_av (wr := [(q_tape_, aC0 cy 940 q_tape), (q_s_, aC1 cy 383 q_s), (q_askedRow_, aC1 cy 3 q_askedRow), (q_trial_, aC1 cy 8 q_trial)]) (r_V (rm := (Rm 0 0 0 0)) (q0 := 0) (As := [.int 940]) (rest := []) (wc := [(q, oC11 0 q_tape_ q_length q_size q_p q_limit q_s_ q_h_ q_read_ q_names_ q_reserved_ q_token q_at q_span q_number q_fault q_faultAt q_word q_got q_lines q_onces q_webs q_one q_two q_seed q_undone_ q_before_ q_undoMany q_far_ q_wayRow_ q_wayMany q_keptRow_ q_askedRow_ q_rares_ q_trial_ q_keptMany q_askedMany q_hangs_ q_paths_ q_tornSteps q_hasTorn q_turnOne q_hasTurn q_text_ q_textMany q_toldMany q_toldAt_ q_hasTold q_stack_ q_codes q_ones q_top q_deep q_isWhole q_truths_ q_imaged_ q_namesKept_ q_areKept_)]) C hS (q_subP hP [0] rfl) (hD.sub [0] (by decide) rfl) (y_taken l D cy q 940 0 q_tape_ q_length q_size q_p q_limit q_s_ q_h_ q_read_ q_names_ q_reserved_ q_token q_at q_span q_number q_fault q_faultAt q_word q_got q_lines q_onces q_webs q_one q_two q_seed q_undone_ q_before_ q_undoMany q_far_ q_wayRow_ q_wayMany q_keptRow_ q_askedRow_ q_rares_ q_trial_ q_keptMany q_askedMany q_hangs_ q_paths_ q_tornSteps q_hasTorn q_turnOne q_hasTurn q_text_ q_textMany q_toldMany q_toldAt_ q_hasTold q_stack_ q_codes q_ones q_top q_deep q_isWhole q_truths_ q_imaged_ q_namesKept_ q_areKept_ _ (by omega) (by omega) (by omega) (by omega) (by omega) (by omega) (by omega) (by omega) (by omega) (by omega) (by omega) (by omega) (by omega) (by omega) (by omega) (by omega) (by omega) (by omega) (by omega) (by omega) (by omega) (by omega) (by decide)) kwV_X11_taken kM_RX11_276 rfl rfl ⟨Nat.le_of_ble_eq_true rfl, Nat.le_of_ble_eq_true rfl⟩ rfl hl.1 rfl (Nat.le_of_ble_eq_true rfl) dX11_asked_9 ⟨hroom.1, hroom.2⟩) C.2.2.2.2.2.2.1 hP hD hS [0] [1, 2, 3, 4] rfl rfl (by decide) (by decide) (fun u_1 H locs hw_3 hP hD hS => ?_)
  obtain ⟨x_4, x_5, x_6, x_7⟩ := u_1
  have hP : va_P D vwCl [(q_tape_, aC0 cy 940 q_tape), (q_s_, aC1 cy 383 q_s), (q_askedRow_, aC1 cy 3 q_askedRow), (q_trial_, aC1 cy 8 q_trial), (q, oC11 0 q_tape_ x_4 x_5 x_6 x_7 q_s_ q_h_ q_read_ q_names_ q_reserved_ q_token q_at q_span q_number q_fault q_faultAt q_word q_got q_lines q_onces q_webs q_one q_two q_seed q_undone_ q_before_ q_undoMany q_far_ q_wayRow_ q_wayMany q_keptRow_ q_askedRow_ q_rares_ q_trial_ q_keptMany q_askedMany q_hangs_ q_paths_ q_tornSteps q_hasTorn q_turnOne q_hasTurn q_text_ q_textMany q_toldMany q_toldAt_ q_hasTold q_stack_ q_codes q_ones q_top q_deep q_isWhole q_truths_ q_imaged_ q_namesKept_ q_areKept_)] H := hP
  have hD : va_D A [(q_tape_, aC0 cy 940 q_tape), (q_s_, aC1 cy 383 q_s), (q_askedRow_, aC1 cy 3 q_askedRow), (q_trial_, aC1 cy 8 q_trial), (q, oC11 0 q_tape_ x_4 x_5 x_6 x_7 q_s_ q_h_ q_read_ q_names_ q_reserved_ q_token q_at q_span q_number q_fault q_faultAt q_word q_got q_lines q_onces q_webs q_one q_two q_seed q_undone_ q_before_ q_undoMany q_far_ q_wayRow_ q_wayMany q_keptRow_ q_askedRow_ q_rares_ q_trial_ q_keptMany q_askedMany q_hangs_ q_paths_ q_tornSteps q_hasTorn q_turnOne q_hasTurn q_text_ q_textMany q_toldMany q_toldAt_ q_hasTold q_stack_ q_codes q_ones q_top q_deep q_isWhole q_truths_ q_imaged_ q_namesKept_ q_areKept_)] := hD
  have hp_7 : 0 ≤ x_4.toInt ∧ x_4.toInt ≤ 0 := hw_3.1
  have hp_8 : 0 ≤ x_5.toInt ∧ x_5.toInt ≤ 940 := hw_3.2.1
  have hp_9 : 0 ≤ x_6.toInt ∧ x_6.toInt ≤ 940 := hw_3.2.2.1
  have hp_10 : 0 ≤ x_7.toInt ∧ x_7.toInt ≤ 940 := hw_3.2.2.2.1
  have hp_11 : 0 ≤ x_5.toInt + (-1) * q_length.toInt ∧ 0 ≤ (-1) * x_5.toInt + q_length.toInt := by have e0 : (0 : Int32).toInt = 0 := (by decide); have e1 : (940 : Int32).toInt = 940 := (by decide); have h0 : 0 ≤ x_5.toInt + (-1) * q_length.toInt ∧ 0 ≤ (-1) * x_5.toInt + q_length.toInt := hw_3.2.2.2.2.1; omega
  have hp_12 : 0 ≤ x_6.toInt ∧ 0 ≤ (-1) * x_6.toInt ∧ 0 ≤ x_7.toInt + (-940) ∧ 0 ≤ (-1) * x_7.toInt + 940 := by have e0 : (0 : Int32).toInt = 0 := (by decide); have e1 : (940 : Int32).toInt = 940 := (by decide); have h0 : 0 ≤ x_6.toInt ∧ 0 ≤ (-1) * x_6.toInt ∧ 0 ≤ x_7.toInt + (-1) * (940 : Int32).toInt ∧ 0 ≤ (-1) * x_7.toInt + (940 : Int32).toInt := hw_3.2.2.2.2.2; omega
  clear hw_3
  refine lv_iload_n hx hb dX11_asked_12 rfl (lv_at hl 1 rfl) ?_
  refine lv_iconst (v := 1) hx hb dX11_asked_13 (by decide) ?_
  refine lv_iconst (v := 3) hx hb dX11_asked_14 (by decide) ?_
  refine q_ai (wr := [(q_tape_, aC0 cy 940 q_tape), (q_s_, aC1 cy 383 q_s), (q_askedRow_, aC1 cy 3 q_askedRow), (q_trial_, aC1 cy 8 q_trial), (q, oC11 0 q_tape_ x_4 x_5 x_6 x_7 q_s_ q_h_ q_read_ q_names_ q_reserved_ q_token q_at q_span q_number q_fault q_faultAt q_word q_got q_lines q_onces q_webs q_one q_two q_seed q_undone_ q_before_ q_undoMany q_far_ q_wayRow_ q_wayMany q_keptRow_ q_askedRow_ q_rares_ q_trial_ q_keptMany q_askedMany q_hangs_ q_paths_ q_tornSteps q_hasTorn q_turnOne q_hasTurn q_text_ q_textMany q_toldMany q_toldAt_ q_hasTold q_stack_ q_codes q_ones q_top q_deep q_isWhole q_truths_ q_imaged_ q_namesKept_ q_areKept_)]) (r_S (rm := (Rm 0 0 0 0)) (As := [.int a, .int 1, .int 3]) (rest := []) (wc := []) C hS (q_subP hP [] rfl) (hD.sub [] (by decide) rfl) (y_isIn l D cy a 1 3 _ ) kwS_X11_isIn kM_RX11_206 ⟨Nat.le_of_ble_eq_true rfl, Nat.le_of_ble_eq_true rfl⟩ rfl hl.1 rfl (Nat.le_of_ble_eq_true rfl) dX11_asked_15 ⟨hroom.1, hroom.2⟩) C.2.2.2.2.2.2.1 hP hD hS [] [0, 1, 2, 3, 4] rfl rfl (by decide) (by decide) (fun r_15 u_14 H locs hw_16 hP hD hS => ?_)
  have hp_16 : 0 ≤ r_15.toInt ∧ r_15.toInt ≤ 1 := hw_16.1
  have hp_17 : (0 ≤ r_15.toInt + (-1)) → (0 ≤ a.toInt + (-1) ∧ 0 ≤ (-1) * a.toInt + 3) := by have e0 : (1 : Int32).toInt = 1 := (by decide); have e1 : (3 : Int32).toInt = 3 := (by decide); have h0 : (0 ≤ r_15.toInt + (-1)) → (0 ≤ a.toInt + (-1) * (1 : Int32).toInt ∧ 0 ≤ (3 : Int32).toInt + (-1) * a.toInt) := hw_16.2.1; omega
  have hp_18 : (0 ≤ a.toInt + (-1) ∧ 0 ≤ (-1) * a.toInt + 3) → (0 ≤ r_15.toInt + (-1)) := by have e0 : (1 : Int32).toInt = 1 := (by decide); have e1 : (3 : Int32).toInt = 3 := (by decide); have h0 : (0 ≤ a.toInt + (-1) * (1 : Int32).toInt ∧ 0 ≤ (3 : Int32).toInt + (-1) * a.toInt) → (0 ≤ r_15.toInt + (-1)) := hw_16.2.2; omega
  clear hw_16
  refine lv_if_eq (tgt := 59) hx hb dX11_asked_18 (by decide) (fun c_20 => ?_) (fun c_20 => ?_)
  · have hc_20 := o_eq (rfl : r_15.toInt = r_15.toInt) (by decide : (0 : Int32).toInt = 0) c_20
    clear hp_17
    refine lv_iconst (v := (-1)) hx hb dX11_asked_59 (by decide) ?_
    refine o_wq hQ ?_
    exact q_iret (rm := (Rm 4 90 0 0)) C hS (0, x_4, x_5, x_6, x_7, q_askedMany, q_askedRow, q_trial) rfl ⟨(show 0 ≤ x_4.toInt ∧ x_4.toInt ≤ 0 by omega), (show 0 ≤ x_5.toInt ∧ x_5.toInt ≤ 940 by omega), (show 0 ≤ x_6.toInt ∧ x_6.toInt ≤ 940 by omega), (show 0 ≤ x_7.toInt ∧ x_7.toInt ≤ 940 by omega), (show (-1) ≤ q_askedMany.toInt ∧ q_askedMany.toInt ≤ 3 by omega)⟩ (q_subP hP [4, 0, 1, 2, 3] rfl) (hD.sub [4, 0, 1, 2, 3] (by decide) rfl) hroom.1 hroom.2 dX11_asked_60
  · have hc_20 := o_ne (rfl : r_15.toInt = r_15.toInt) (by decide : (0 : Int32).toInt = 0) c_20
    have hnc_20 : 0 ≤ r_15.toInt + (-1) := by rcases Int.lt_or_gt_of_ne hc_20 with h9 | h9 <;> omega
    have hp_17 := hp_17 (by omega)
    have hp_18 := hp_18 (by omega)
    refine lv_aload_n hx hb dX11_asked_21 rfl (lv_at hl 0 rfl) ?_
    refine q_get11 (v := .ref q_s_) C hP 4 6 rfl fT_6 (by decide) kF_RX11_33 rfl dX11_asked_22 ?_
    refine lv_bipush (v := 104) hx hb dX11_asked_25 (by decide) ?_
    refine q_iald (v := q_s 104) C hP 1 rfl (vin (by decide +kernel)) rfl dX11_asked_27 ?_
    refine lv_topi (fun z_21 ez_21 => ?_)
    refine lv_iload_n hx hb dX11_asked_28 rfl (lv_at hl 1 rfl) ?_
    refine lv_iadd hx hb dX11_asked_29 ?_
    refine lv_topi (fun z_22 hz_22 => ?_)
    clear hz_22
    refine lv_sipush (v := 400) hx hb dX11_asked_30 (by decide) ?_
    refine lv_icmp_gt (tgt := 59) hx hb dX11_asked_33 (by decide) (fun c_23 => ?_) (fun c_23 => ?_)
    · have hc_23 := o_lt (by decide : (400 : Int32).toInt = 400) (rfl : z_22.toInt = z_22.toInt) c_23
      refine lv_iconst (v := (-1)) hx hb dX11_asked_59 (by decide) ?_
      refine o_wq hQ ?_
      exact q_iret (rm := (Rm 4 90 0 0)) C hS (0, x_4, x_5, x_6, x_7, q_askedMany, q_askedRow, q_trial) rfl ⟨(show 0 ≤ x_4.toInt ∧ x_4.toInt ≤ 0 by omega), (show 0 ≤ x_5.toInt ∧ x_5.toInt ≤ 940 by omega), (show 0 ≤ x_6.toInt ∧ x_6.toInt ≤ 940 by omega), (show 0 ≤ x_7.toInt ∧ x_7.toInt ≤ 940 by omega), (show (-1) ≤ q_askedMany.toInt ∧ q_askedMany.toInt ≤ 3 by omega)⟩ (q_subP hP [4, 0, 1, 2, 3] rfl) (hD.sub [4, 0, 1, 2, 3] (by decide) rfl) hroom.1 hroom.2 dX11_asked_60
    · have hc_23 := o_nlt (by decide : (400 : Int32).toInt = 400) (rfl : z_22.toInt = z_22.toInt) c_23
      refine lv_aload_n hx hb dX11_asked_36 rfl (lv_at hl 0 rfl) ?_
      refine q_get11 (v := .int x_5) C hP 4 3 rfl fT_3 (by decide) kF_RX11_18 rfl dX11_asked_37 ?_
      refine lv_iconst (v := 2) hx hb dX11_asked_40 (by decide) ?_
      refine lv_bipush (v := 16) hx hb dX11_asked_41 (by decide) ?_
      refine q_ai (wr := [(q_tape_, aC0 cy 940 q_tape), (q_s_, aC1 cy 383 q_s), (q_askedRow_, aC1 cy 3 q_askedRow), (q_trial_, aC1 cy 8 q_trial), (q, oC11 0 q_tape_ x_4 x_5 x_6 x_7 q_s_ q_h_ q_read_ q_names_ q_reserved_ q_token q_at q_span q_number q_fault q_faultAt q_word q_got q_lines q_onces q_webs q_one q_two q_seed q_undone_ q_before_ q_undoMany q_far_ q_wayRow_ q_wayMany q_keptRow_ q_askedRow_ q_rares_ q_trial_ q_keptMany q_askedMany q_hangs_ q_paths_ q_tornSteps q_hasTorn q_turnOne q_hasTurn q_text_ q_textMany q_toldMany q_toldAt_ q_hasTold q_stack_ q_codes q_ones q_top q_deep q_isWhole q_truths_ q_imaged_ q_namesKept_ q_areKept_)]) (r_S (rm := (Rm 0 0 0 0)) (As := [.int x_5, .int 2, .int 16]) (rest := []) (wc := []) C hS (q_subP hP [] rfl) (hD.sub [] (by decide) rfl) (y_isIn l D cy x_5 2 16 _ ) kwS_X11_isIn kM_RX11_206 ⟨Nat.le_of_ble_eq_true rfl, Nat.le_of_ble_eq_true rfl⟩ rfl hl.1 rfl (Nat.le_of_ble_eq_true rfl) dX11_asked_43 ⟨hroom.1, hroom.2⟩) C.2.2.2.2.2.2.1 hP hD hS [] [0, 1, 2, 3, 4] rfl rfl (by decide) (by decide) (fun r_25 u_24 H locs hw_26 hP hD hS => ?_)
      have hp_26 : 0 ≤ r_25.toInt ∧ r_25.toInt ≤ 1 := hw_26.1
      have hp_27 : (0 ≤ r_25.toInt + (-1)) → (0 ≤ x_5.toInt + (-2) ∧ 0 ≤ (-1) * x_5.toInt + 16) := by have e0 : (2 : Int32).toInt = 2 := (by decide); have e1 : (16 : Int32).toInt = 16 := (by decide); have h0 : (0 ≤ r_25.toInt + (-1)) → (0 ≤ x_5.toInt + (-1) * (2 : Int32).toInt ∧ 0 ≤ (16 : Int32).toInt + (-1) * x_5.toInt) := hw_26.2.1; omega
      have hp_28 : (0 ≤ x_5.toInt + (-2) ∧ 0 ≤ (-1) * x_5.toInt + 16) → (0 ≤ r_25.toInt + (-1)) := by have e0 : (2 : Int32).toInt = 2 := (by decide); have e1 : (16 : Int32).toInt = 16 := (by decide); have h0 : (0 ≤ x_5.toInt + (-1) * (2 : Int32).toInt ∧ 0 ≤ (16 : Int32).toInt + (-1) * x_5.toInt) → (0 ≤ r_25.toInt + (-1)) := hw_26.2.2; omega
      clear hw_26
      refine lv_if_eq (tgt := 59) hx hb dX11_asked_46 (by decide) (fun c_30 => ?_) (fun c_30 => ?_)
      · have hc_30 := o_eq (rfl : r_25.toInt = r_25.toInt) (by decide : (0 : Int32).toInt = 0) c_30
        clear hp_27
        refine lv_iconst (v := (-1)) hx hb dX11_asked_59 (by decide) ?_
        refine o_wq hQ ?_
        exact q_iret (rm := (Rm 4 90 0 0)) C hS (0, x_4, x_5, x_6, x_7, q_askedMany, q_askedRow, q_trial) rfl ⟨(show 0 ≤ x_4.toInt ∧ x_4.toInt ≤ 0 by omega), (show 0 ≤ x_5.toInt ∧ x_5.toInt ≤ 940 by omega), (show 0 ≤ x_6.toInt ∧ x_6.toInt ≤ 940 by omega), (show 0 ≤ x_7.toInt ∧ x_7.toInt ≤ 940 by omega), (show (-1) ≤ q_askedMany.toInt ∧ q_askedMany.toInt ≤ 3 by omega)⟩ (q_subP hP [4, 0, 1, 2, 3] rfl) (hD.sub [4, 0, 1, 2, 3] (by decide) rfl) hroom.1 hroom.2 dX11_asked_60
      · have hc_30 := o_ne (rfl : r_25.toInt = r_25.toInt) (by decide : (0 : Int32).toInt = 0) c_30
        have hnc_30 : 0 ≤ r_25.toInt + (-1) := by rcases Int.lt_or_gt_of_ne hc_30 with h9 | h9 <;> omega
        have hp_27 := hp_27 (by omega)
        have hp_28 := hp_28 (by omega)
        refine lv_aload_n hx hb dX11_asked_49 rfl (lv_at hl 0 rfl) ?_
        refine q_get11 (v := .int x_5) C hP 4 3 rfl fT_3 (by decide) kF_RX11_18 rfl dX11_asked_50 ?_
        refine lv_iconst (v := 2) hx hb dX11_asked_53 (by decide) ?_
        refine lv_irem hx hb dX11_asked_54 (by decide) ?_
        refine lv_topi (fun z_31 hz_31 => ?_)
        have hz_31 := o_rem hz_31 (rfl : x_5.toInt = x_5.toInt) (by decide : (2 : Int32).toInt = 2) (by omega) (by omega)
        refine lv_iconst (v := 1) hx hb dX11_asked_55 (by decide) ?_
        refine lv_icmp_ne (tgt := 61) hx hb dX11_asked_56 (by decide) (fun c_32 => ?_) (fun c_32 => ?_)
        · have hc_32 := o_ne (rfl : z_31.toInt = z_31.toInt) (by decide : (1 : Int32).toInt = 1) c_32
          have hnc_32 : 0 ≤ (-1) * z_31.toInt := by rcases Int.lt_or_gt_of_ne hc_32 with h9 | h9 <;> omega
          have hq_32 : Ro q_tape (0 : Int32).toInt := Ro.zero (by decide)
          refine lv_iconst (v := 0) hx hb dX11_asked_61 (by decide) ?_
          refine lv_istore_n (lv' := [(2, .int 0), (0, .ref q), (1, .int a)]) hx hb dX11_asked_62 rfl hl (by decide) rfl (fun ls hl => ?_)
          have lp_63_34 : ∀ (n_35 : Nat) (x_34 : Int32) (H : Heap) (locs : List Loc) (ls : Array Slot), (-1) * x_34.toInt + 17 < (n_35 : Int) → (0 ≤ x_34.toInt ∧ x_34.toInt ≤ 17) → (x_34.toInt % 2 = 0) → (Ro q_tape x_34.toInt) → va_P D vwCl [(q_tape_, aC0 cy 940 q_tape), (q_s_, aC1 cy 383 q_s), (q_askedRow_, aC1 cy 3 q_askedRow), (q_trial_, aC1 cy 8 q_trial), (q, oC11 0 q_tape_ x_4 x_5 x_6 x_7 q_s_ q_h_ q_read_ q_names_ q_reserved_ q_token q_at q_span q_number q_fault q_faultAt q_word q_got q_lines q_onces q_webs q_one q_two q_seed q_undone_ q_before_ q_undoMany q_far_ q_wayRow_ q_wayMany q_keptRow_ q_askedRow_ q_rares_ q_trial_ q_keptMany q_askedMany q_hangs_ q_paths_ q_tornSteps q_hasTorn q_turnOne q_hasTurn q_text_ q_textMany q_toldMany q_toldAt_ q_hasTold q_stack_ q_codes q_ones q_top q_deep q_isWhole q_truths_ q_imaged_ q_namesKept_ q_areKept_)] H → va_D A [(q_tape_, aC0 cy 940 q_tape), (q_s_, aC1 cy 383 q_s), (q_askedRow_, aC1 cy 3 q_askedRow), (q_trial_, aC1 cy 8 q_trial), (q, oC11 0 q_tape_ x_4 x_5 x_6 x_7 q_s_ q_h_ q_read_ q_names_ q_reserved_ q_token q_at q_span q_number q_fault q_faultAt q_word q_got q_lines q_onces q_webs q_one q_two q_seed q_undone_ q_before_ q_undoMany q_far_ q_wayRow_ q_wayMany q_keptRow_ q_askedRow_ q_rares_ q_trial_ q_keptMany q_askedMany q_hangs_ q_paths_ q_tornSteps q_hasTorn q_turnOne q_hasTurn q_text_ q_textMany q_toldMany q_toldAt_ q_hasTold q_stack_ q_codes q_ones q_top q_deep q_isWhole q_truths_ q_imaged_ q_namesKept_ q_areKept_)] → va_S A s.heap H locs → lv_has ls 5 [(0, .ref q), (1, .int a), (2, .int x_34)] → W p l e (Rm 4 90 0 0) s m args below meth c H locs cells slots Q (F0 m 63 ls []) := by
            intro n_35
            induction n_35 with
            | zero =>
              intro x_34 H locs ls hm_39 hf_36 hf_37 hf_38 hP hD hS hl
              exact absurd hm_39 (by omega)
            | succ n_35 ih_40 =>
              intro x_34 H locs ls hm_39 hf_36 hf_37 hf_38 hP hD hS hl
              refine lv_iload_n hx hb dX11_asked_63 rfl (lv_at hl 2 rfl) ?_
              refine lv_aload_n hx hb dX11_asked_64 rfl (lv_at hl 0 rfl) ?_
              refine q_get11 (v := .int x_5) C hP 4 3 rfl fT_3 (by decide) kF_RX11_18 rfl dX11_asked_65 ?_
              refine lv_icmp_ge (tgt := 91) hx hb dX11_asked_68 (by decide) (fun c_42 => ?_) (fun c_42 => ?_)
              · have hc_42 := o_le (rfl : x_5.toInt = x_5.toInt) (rfl : x_34.toInt = x_34.toInt) c_42
                have hq_42 : Ro q_tape x_5.toInt := Ro.weak hf_38 (by omega)
                refine lv_iconst (v := 0) hx hb dX11_asked_91 (by decide) ?_
                refine lv_istore_n (lv' := [(2, .int 0), (0, .ref q), (1, .int a)]) hx hb dX11_asked_92 rfl hl (by decide) rfl (fun ls hl => ?_)
                refine lv_iconst (v := 0) hx hb dX11_asked_93 (by decide) ?_
                refine lv_istore_n (lv' := [(3, .int 0), (2, .int 0), (0, .ref q), (1, .int a)]) hx hb dX11_asked_94 rfl hl (by decide) rfl (fun ls hl => ?_)
                refine lv_iconst (v := 0) hx hb dX11_asked_95 (by decide) ?_
                refine lv_istore (lv' := [(4, .int 0), (3, .int 0), (2, .int 0), (0, .ref q), (1, .int a)]) hx hb dX11_asked_96 hl (by decide) rfl (fun ls hl => ?_)
                have lp_98_47 : ∀ (n_48 : Nat) (x_44 : Int32) (x_45 : Int32) (x_46 : Int32) (g_47 : Nat → Int32) (H : Heap) (locs : List Loc) (ls : Array Slot), (-1) * x_46.toInt + 2147483647 < (n_48 : Int) → (0 ≤ x_45.toInt) → (0 ≤ x_46.toInt) → (x_46.toInt ≤ 2147483647) → va_P D vwCl [(q_tape_, aC0 cy 940 q_tape), (q_s_, aC1 cy 383 q_s), (q_askedRow_, aC1 cy 3 q_askedRow), (q_trial_, aC1 cy 8 g_47), (q, oC11 0 q_tape_ x_4 x_5 x_6 x_7 q_s_ q_h_ q_read_ q_names_ q_reserved_ q_token q_at q_span q_number q_fault q_faultAt q_word q_got q_lines q_onces q_webs q_one q_two q_seed q_undone_ q_before_ q_undoMany q_far_ q_wayRow_ q_wayMany q_keptRow_ q_askedRow_ q_rares_ q_trial_ q_keptMany q_askedMany q_hangs_ q_paths_ q_tornSteps q_hasTorn q_turnOne q_hasTurn q_text_ q_textMany q_toldMany q_toldAt_ q_hasTold q_stack_ q_codes q_ones q_top q_deep q_isWhole q_truths_ q_imaged_ q_namesKept_ q_areKept_)] H → va_D A [(q_tape_, aC0 cy 940 q_tape), (q_s_, aC1 cy 383 q_s), (q_askedRow_, aC1 cy 3 q_askedRow), (q_trial_, aC1 cy 8 g_47), (q, oC11 0 q_tape_ x_4 x_5 x_6 x_7 q_s_ q_h_ q_read_ q_names_ q_reserved_ q_token q_at q_span q_number q_fault q_faultAt q_word q_got q_lines q_onces q_webs q_one q_two q_seed q_undone_ q_before_ q_undoMany q_far_ q_wayRow_ q_wayMany q_keptRow_ q_askedRow_ q_rares_ q_trial_ q_keptMany q_askedMany q_hangs_ q_paths_ q_tornSteps q_hasTorn q_turnOne q_hasTurn q_text_ q_textMany q_toldMany q_toldAt_ q_hasTold q_stack_ q_codes q_ones q_top q_deep q_isWhole q_truths_ q_imaged_ q_namesKept_ q_areKept_)] → va_S A s.heap H locs → lv_has ls 5 [(0, .ref q), (1, .int a), (2, .int x_44), (3, .int x_45), (4, .int x_46)] → W p l e (Rm 4 90 0 0) s m args below meth c H locs cells slots Q (F0 m 98 ls []) := by
                  intro n_48
                  induction n_48 with
                  | zero =>
                    intro x_44 x_45 x_46 g_47 H locs ls hm_52 hf_49 hf_50 hf_51 hP hD hS hl
                    exact absurd hm_52 (by omega)
                  | succ n_48 ih_53 =>
                    intro x_44 x_45 x_46 g_47 H locs ls hm_52 hf_49 hf_50 hf_51 hP hD hS hl
                    refine lv_iload hx hb dX11_asked_98 (lv_at hl 4 rfl) ?_
                    refine lv_aload_n hx hb dX11_asked_100 rfl (lv_at hl 0 rfl) ?_
                    refine q_get11 (v := .ref q_s_) C hP 4 6 rfl fT_6 (by decide) kF_RX11_33 rfl dX11_asked_101 ?_
                    refine lv_iconst (v := 0) hx hb dX11_asked_104 (by decide) ?_
                    refine q_iald (v := q_s 0) C hP 1 rfl (vin (by decide +kernel)) rfl dX11_asked_105 ?_
                    refine lv_topi (fun z_55 ez_55 => ?_)
                    have hz_55 : 0 ≤ z_55.toInt ∧ z_55.toInt ≤ 8 := (by rw [ez_55]; exact hR0 0 (by decide) (by decide))
                    refine lv_iconst (v := 1) hx hb dX11_asked_106 (by decide) ?_
                    refine lv_iadd hx hb dX11_asked_107 ?_
                    refine lv_topi (fun z_56 hz_56 => ?_)
                    have hz_56 := o_add hz_56 (rfl : z_55.toInt = z_55.toInt) (by decide : (1 : Int32).toInt = 1) (by omega) (by omega)
                    refine lv_iload_n hx hb dX11_asked_108 rfl (lv_at hl 1 rfl) ?_
                    refine q_ai (wr := [(q_tape_, aC0 cy 940 q_tape), (q_s_, aC1 cy 383 q_s), (q_askedRow_, aC1 cy 3 q_askedRow), (q_trial_, aC1 cy 8 g_47), (q, oC11 0 q_tape_ x_4 x_5 x_6 x_7 q_s_ q_h_ q_read_ q_names_ q_reserved_ q_token q_at q_span q_number q_fault q_faultAt q_word q_got q_lines q_onces q_webs q_one q_two q_seed q_undone_ q_before_ q_undoMany q_far_ q_wayRow_ q_wayMany q_keptRow_ q_askedRow_ q_rares_ q_trial_ q_keptMany q_askedMany q_hangs_ q_paths_ q_tornSteps q_hasTorn q_turnOne q_hasTurn q_text_ q_textMany q_toldMany q_toldAt_ q_hasTold q_stack_ q_codes q_ones q_top q_deep q_isWhole q_truths_ q_imaged_ q_namesKept_ q_areKept_)]) (r_S (rm := (Rm 0 0 0 0)) (As := [.int z_56, .int a]) (rest := [.int x_46]) (wc := []) C hS (q_subP hP [] rfl) (hD.sub [] (by decide) rfl) (y_power l D cy z_56 a _ ) kwS_X11_power kM_RX11_387 ⟨Nat.le_of_ble_eq_true rfl, Nat.le_of_ble_eq_true rfl⟩ rfl hl.1 rfl (Nat.le_of_ble_eq_true rfl) dX11_asked_109 ⟨hroom.1, hroom.2⟩) C.2.2.2.2.2.2.1 hP hD hS [] [0, 1, 2, 3, 4] rfl rfl (by decide) (by decide) (fun r_58 u_57 H locs hw_59 hP hD hS => ?_)
                    have hqr_58 := o_rng r_58
                    refine lv_icmp_ge (tgt := 148) hx hb dX11_asked_112 (by decide) (fun c_60 => ?_) (fun c_60 => ?_)
                    · have hc_60 := o_le (rfl : r_58.toInt = r_58.toInt) (rfl : x_46.toInt = x_46.toInt) c_60
                      refine lv_iload_n hx hb dX11_asked_148 rfl (lv_at hl 2 rfl) ?_
                      refine lv_if_ne (tgt := 154) hx hb dX11_asked_149 (by decide) (fun c_61 => ?_) (fun c_61 => ?_)
                      · have hc_61 := o_ne (rfl : x_44.toInt = x_44.toInt) (by decide : (0 : Int32).toInt = 0) c_61
                        refine lv_aload_n hx hb dX11_asked_154 rfl (lv_at hl 0 rfl) ?_
                        refine lv_iload_n hx hb dX11_asked_155 rfl (lv_at hl 1 rfl) ?_
                        refine q_put11 (v := .int a) (w' := [(q_tape_, aC0 cy 940 q_tape), (q_s_, aC1 cy 383 q_s), (q_askedRow_, aC1 cy 3 q_askedRow), (q_trial_, aC1 cy 8 g_47), (q, oC11 0 q_tape_ x_4 x_5 x_6 x_7 q_s_ q_h_ q_read_ q_names_ q_reserved_ q_token q_at q_span q_number q_fault q_faultAt q_word q_got q_lines q_onces q_webs q_one q_two q_seed q_undone_ q_before_ q_undoMany q_far_ q_wayRow_ q_wayMany q_keptRow_ q_askedRow_ q_rares_ q_trial_ q_keptMany a q_hangs_ q_paths_ q_tornSteps q_hasTorn q_turnOne q_hasTurn q_text_ q_textMany q_toldMany q_toldAt_ q_hasTold q_stack_ q_codes q_ones q_top q_deep q_isWhole q_truths_ q_imaged_ q_namesKept_ q_areKept_)]) C hP hD hS 4 36 rfl fT_36 fy_36 (by decide) kF_RX11_80 rfl rfl (Nat.le_of_ble_eq_true rfl) rfl dX11_asked_156 (fun H locs hP hD hS => ?_)
                        refine lv_iconst (v := 0) hx hb dX11_asked_159 (by decide) ?_
                        refine lv_istore (lv' := [(4, .int 0), (0, .ref q), (1, .int a), (2, .int x_44), (3, .int x_45)]) hx hb dX11_asked_160 hl (by decide) rfl (fun ls hl => ?_)
                        have lp_162_63 : ∀ (n_64 : Nat) (x_62 : Int32) (g_63 : Nat → Int32) (H : Heap) (locs : List Loc) (ls : Array Slot), (-1) * x_62.toInt + 3 < (n_64 : Int) → (0 ≤ x_62.toInt ∧ x_62.toInt ≤ 3) → va_P D vwCl [(q_tape_, aC0 cy 940 q_tape), (q_s_, aC1 cy 383 q_s), (q_askedRow_, aC1 cy 3 g_63), (q_trial_, aC1 cy 8 g_47), (q, oC11 0 q_tape_ x_4 x_5 x_6 x_7 q_s_ q_h_ q_read_ q_names_ q_reserved_ q_token q_at q_span q_number q_fault q_faultAt q_word q_got q_lines q_onces q_webs q_one q_two q_seed q_undone_ q_before_ q_undoMany q_far_ q_wayRow_ q_wayMany q_keptRow_ q_askedRow_ q_rares_ q_trial_ q_keptMany a q_hangs_ q_paths_ q_tornSteps q_hasTorn q_turnOne q_hasTurn q_text_ q_textMany q_toldMany q_toldAt_ q_hasTold q_stack_ q_codes q_ones q_top q_deep q_isWhole q_truths_ q_imaged_ q_namesKept_ q_areKept_)] H → va_D A [(q_tape_, aC0 cy 940 q_tape), (q_s_, aC1 cy 383 q_s), (q_askedRow_, aC1 cy 3 g_63), (q_trial_, aC1 cy 8 g_47), (q, oC11 0 q_tape_ x_4 x_5 x_6 x_7 q_s_ q_h_ q_read_ q_names_ q_reserved_ q_token q_at q_span q_number q_fault q_faultAt q_word q_got q_lines q_onces q_webs q_one q_two q_seed q_undone_ q_before_ q_undoMany q_far_ q_wayRow_ q_wayMany q_keptRow_ q_askedRow_ q_rares_ q_trial_ q_keptMany a q_hangs_ q_paths_ q_tornSteps q_hasTorn q_turnOne q_hasTurn q_text_ q_textMany q_toldMany q_toldAt_ q_hasTold q_stack_ q_codes q_ones q_top q_deep q_isWhole q_truths_ q_imaged_ q_namesKept_ q_areKept_)] → va_S A s.heap H locs → lv_has ls 5 [(0, .ref q), (1, .int a), (2, .int x_44), (3, .int x_45), (4, .int x_62)] → W p l e (Rm 4 90 0 0) s m args below meth c H locs cells slots Q (F0 m 162 ls []) := by
                          intro n_64
                          induction n_64 with
                          | zero =>
                            intro x_62 g_63 H locs ls hm_66 hf_65 hP hD hS hl
                            exact absurd hm_66 (by omega)
                          | succ n_64 ih_67 =>
                            intro x_62 g_63 H locs ls hm_66 hf_65 hP hD hS hl
                            refine lv_iload hx hb dX11_asked_162 (lv_at hl 4 rfl) ?_
                            refine lv_iload_n hx hb dX11_asked_164 rfl (lv_at hl 1 rfl) ?_
                            refine lv_icmp_ge (tgt := 189) hx hb dX11_asked_165 (by decide) (fun c_69 => ?_) (fun c_69 => ?_)
                            · have hc_69 := o_le (rfl : a.toInt = a.toInt) (rfl : x_62.toInt = x_62.toInt) c_69
                              refine lv_iload_n hx hb dX11_asked_189 rfl (lv_at hl 2 rfl) ?_
                              refine o_wq hQ ?_
                              exact q_iret (rm := (Rm 4 90 0 0)) C hS (0, x_4, x_5, x_6, x_7, a, g_63, g_47) rfl ⟨(show 0 ≤ x_4.toInt ∧ x_4.toInt ≤ 0 by omega), (show 0 ≤ x_5.toInt ∧ x_5.toInt ≤ 940 by omega), (show 0 ≤ x_6.toInt ∧ x_6.toInt ≤ 940 by omega), (show 0 ≤ x_7.toInt ∧ x_7.toInt ≤ 940 by omega), (show (-1) ≤ a.toInt ∧ a.toInt ≤ 3 by omega)⟩ (q_subP hP [4, 0, 1, 2, 3] rfl) (hD.sub [4, 0, 1, 2, 3] (by decide) rfl) hroom.1 hroom.2 dX11_asked_190
                            · have hc_69 := o_nle (rfl : a.toInt = a.toInt) (rfl : x_62.toInt = x_62.toInt) c_69
                              refine lv_aload_n hx hb dX11_asked_168 rfl (lv_at hl 0 rfl) ?_
                              refine q_get11 (v := .ref q_askedRow_) C hP 4 32 rfl fT_32 (by decide) kF_RX11_68 rfl dX11_asked_169 ?_
                              refine lv_iload hx hb dX11_asked_172 (lv_at hl 4 rfl) ?_
                              refine lv_aload_n hx hb dX11_asked_174 rfl (lv_at hl 0 rfl) ?_
                              refine lv_iload_n hx hb dX11_asked_175 rfl (lv_at hl 3 rfl) ?_
                              refine lv_iload_n hx hb dX11_asked_176 rfl (lv_at hl 1 rfl) ?_
                              refine lv_iload hx hb dX11_asked_177 (lv_at hl 4 rfl) ?_
                              refine q_ai (wr := [(q_tape_, aC0 cy 940 q_tape), (q_askedRow_, aC1 cy 3 g_63), (q_trial_, aC1 cy 8 g_47)]) (r_V (rm := (Rm 2 42 0 0)) (q0 := 0) (As := [.int x_45, .int a, .int x_62]) (rest := [.int x_62, .ref q_askedRow_]) (wc := [(q, oC11 0 q_tape_ x_4 x_5 x_6 x_7 q_s_ q_h_ q_read_ q_names_ q_reserved_ q_token q_at q_span q_number q_fault q_faultAt q_word q_got q_lines q_onces q_webs q_one q_two q_seed q_undone_ q_before_ q_undoMany q_far_ q_wayRow_ q_wayMany q_keptRow_ q_askedRow_ q_rares_ q_trial_ q_keptMany a q_hangs_ q_paths_ q_tornSteps q_hasTorn q_turnOne q_hasTurn q_text_ q_textMany q_toldMany q_toldAt_ q_hasTold q_stack_ q_codes q_ones q_top q_deep q_isWhole q_truths_ q_imaged_ q_namesKept_ q_areKept_), (q_s_, aC1 cy 383 q_s)]) C hS (q_subP hP [4, 1] rfl) (hD.sub [4, 1] (by decide) rfl) (y_askedBy l D cy q x_45 a x_62 0 q_tape_ x_4 x_5 x_6 x_7 q_s_ q_h_ q_read_ q_names_ q_reserved_ q_token q_at q_span q_number q_fault q_faultAt q_word q_got q_lines q_onces q_webs q_one q_two q_seed q_undone_ q_before_ q_undoMany q_far_ q_wayRow_ q_wayMany q_keptRow_ q_askedRow_ q_rares_ q_trial_ q_keptMany a q_hangs_ q_paths_ q_tornSteps q_hasTorn q_turnOne q_hasTurn q_text_ q_textMany q_toldMany q_toldAt_ q_hasTold q_stack_ q_codes q_ones q_top q_deep q_isWhole q_truths_ q_imaged_ q_namesKept_ q_areKept_ q_s _ (by omega) (by omega) (by omega) (by omega) (by omega) (by omega) (by omega) (by omega) (by omega) (by omega) (by omega) (by omega) (by omega) (by omega) (by omega) (by omega) (by omega) (by omega) (by omega) (by omega) (by omega) (by omega) (by omega) (by omega) (by omega) hR0 hR1 hR2 hR3 hR4 hR5 hR6 hR7 hR8) kwV_X11_askedBy kM_RX11_394 rfl rfl ⟨Nat.le_of_ble_eq_true rfl, Nat.le_of_ble_eq_true rfl⟩ rfl hl.1 rfl (Nat.le_of_ble_eq_true rfl) dX11_asked_179 ⟨hroom.1, hroom.2⟩) C.2.2.2.2.2.2.1 hP hD hS [4, 1] [0, 2, 3] rfl rfl (by decide) (by decide) (fun r_71 u_70 H locs hw_72 hP hD hS => ?_)
                              have hp_72 : (-2) ≤ r_71.toInt ∧ r_71.toInt ≤ 7 := hw_72
                              clear hw_72
                              refine q_iast (g := upd g_63 x_62.toNatClampNeg r_71) (w' := [(q_tape_, aC0 cy 940 q_tape), (q_askedRow_, aC1 cy 3 (upd g_63 x_62.toNatClampNeg r_71)), (q_trial_, aC1 cy 8 g_47), (q, oC11 0 q_tape_ x_4 x_5 x_6 x_7 q_s_ q_h_ q_read_ q_names_ q_reserved_ q_token q_at q_span q_number q_fault q_faultAt q_word q_got q_lines q_onces q_webs q_one q_two q_seed q_undone_ q_before_ q_undoMany q_far_ q_wayRow_ q_wayMany q_keptRow_ q_askedRow_ q_rares_ q_trial_ q_keptMany a q_hangs_ q_paths_ q_tornSteps q_hasTorn q_turnOne q_hasTurn q_text_ q_textMany q_toldMany q_toldAt_ q_hasTold q_stack_ q_codes q_ones q_top q_deep q_isWhole q_truths_ q_imaged_ q_namesKept_ q_areKept_), (q_s_, aC1 cy 383 q_s)]) C hP hD hS 1 rfl (o_in (rfl : x_62.toInt = x_62.toInt) (by omega) (by omega)) rfl rfl dX11_asked_182 (fun H locs hP hD hS => ?_)
                              generalize upd g_63 x_62.toNatClampNeg r_71 = g_74 at hP hD 
                              have hP : va_P D vwCl [(q_tape_, aC0 cy 940 q_tape), (q_askedRow_, aC1 cy 3 g_74), (q_trial_, aC1 cy 8 g_47), (q, oC11 0 q_tape_ x_4 x_5 x_6 x_7 q_s_ q_h_ q_read_ q_names_ q_reserved_ q_token q_at q_span q_number q_fault q_faultAt q_word q_got q_lines q_onces q_webs q_one q_two q_seed q_undone_ q_before_ q_undoMany q_far_ q_wayRow_ q_wayMany q_keptRow_ q_askedRow_ q_rares_ q_trial_ q_keptMany a q_hangs_ q_paths_ q_tornSteps q_hasTorn q_turnOne q_hasTurn q_text_ q_textMany q_toldMany q_toldAt_ q_hasTold q_stack_ q_codes q_ones q_top q_deep q_isWhole q_truths_ q_imaged_ q_namesKept_ q_areKept_), (q_s_, aC1 cy 383 q_s)] H := hP
                              have hD : va_D A [(q_tape_, aC0 cy 940 q_tape), (q_askedRow_, aC1 cy 3 g_74), (q_trial_, aC1 cy 8 g_47), (q, oC11 0 q_tape_ x_4 x_5 x_6 x_7 q_s_ q_h_ q_read_ q_names_ q_reserved_ q_token q_at q_span q_number q_fault q_faultAt q_word q_got q_lines q_onces q_webs q_one q_two q_seed q_undone_ q_before_ q_undoMany q_far_ q_wayRow_ q_wayMany q_keptRow_ q_askedRow_ q_rares_ q_trial_ q_keptMany a q_hangs_ q_paths_ q_tornSteps q_hasTorn q_turnOne q_hasTurn q_text_ q_textMany q_toldMany q_toldAt_ q_hasTold q_stack_ q_codes q_ones q_top q_deep q_isWhole q_truths_ q_imaged_ q_namesKept_ q_areKept_), (q_s_, aC1 cy 383 q_s)] := hD
                              obtain ⟨z_75, hz_75⟩ : ∃ z : Int32, z = x_62 + 1 := ⟨_, rfl⟩
                              refine lv_iinc (v := z_75) (lv' := [(4, .int z_75), (0, .ref q), (1, .int a), (2, .int x_44), (3, .int x_45)]) hx hb dX11_asked_183 hl (k := 4) rfl hz_75.symm (by decide) rfl (fun ls hl => ?_)
                              have hz_75 := o_add hz_75 (rfl : x_62.toInt = x_62.toInt) (by decide : (1 : Int32).toInt = 1) (by omega) (by omega)
                              refine lv_goto (tgt := 162) hx hb dX11_asked_186 (by decide) ?_
                              exact ih_67 z_75 g_74 H locs ls (by omega) (by omega) (q_subP hP [0, 4, 1, 2, 3] rfl) (hD.sub [0, 4, 1, 2, 3] (by decide) rfl) hS (lv_sub hl [1, 2, 3, 4, 0] rfl)
                        exact lp_162_63 4 (0 : Int32) q_askedRow H locs ls (by have e0 : (0 : Int32).toInt = 0 := (by decide); omega) (by have e0 : (0 : Int32).toInt = 0 := (by decide); omega) hP hD hS (lv_sub hl [1, 2, 3, 4, 0] rfl)
                      · have hc_61 := o_eq (rfl : x_44.toInt = x_44.toInt) (by decide : (0 : Int32).toInt = 0) c_61
                        refine lv_iconst (v := 0) hx hb dX11_asked_152 (by decide) ?_
                        refine o_wq hQ ?_
                        exact q_iret (rm := (Rm 4 90 0 0)) C hS (0, x_4, x_5, x_6, x_7, q_askedMany, q_askedRow, g_47) rfl ⟨(show 0 ≤ x_4.toInt ∧ x_4.toInt ≤ 0 by omega), (show 0 ≤ x_5.toInt ∧ x_5.toInt ≤ 940 by omega), (show 0 ≤ x_6.toInt ∧ x_6.toInt ≤ 940 by omega), (show 0 ≤ x_7.toInt ∧ x_7.toInt ≤ 940 by omega), (show (-1) ≤ q_askedMany.toInt ∧ q_askedMany.toInt ≤ 3 by omega)⟩ (q_subP hP [4, 0, 1, 2, 3] rfl) (hD.sub [4, 0, 1, 2, 3] (by decide) rfl) hroom.1 hroom.2 dX11_asked_153
                    · have hc_60 := o_nle (rfl : r_58.toInt = r_58.toInt) (rfl : x_46.toInt = x_46.toInt) c_60
                      refine lv_aload_n hx hb dX11_asked_115 rfl (lv_at hl 0 rfl) ?_
                      refine lv_iload hx hb dX11_asked_116 (lv_at hl 4 rfl) ?_
                      refine lv_iload_n hx hb dX11_asked_118 rfl (lv_at hl 1 rfl) ?_
                      refine q_ai (wr := [(q_askedRow_, aC1 cy 3 q_askedRow)]) (r_V (rm := (Rm 3 66 0 0)) (q0 := 0) (As := [.int x_46, .int a]) (rest := []) (wc := [(q, oC11 0 q_tape_ x_4 x_5 x_6 x_7 q_s_ q_h_ q_read_ q_names_ q_reserved_ q_token q_at q_span q_number q_fault q_faultAt q_word q_got q_lines q_onces q_webs q_one q_two q_seed q_undone_ q_before_ q_undoMany q_far_ q_wayRow_ q_wayMany q_keptRow_ q_askedRow_ q_rares_ q_trial_ q_keptMany q_askedMany q_hangs_ q_paths_ q_tornSteps q_hasTorn q_turnOne q_hasTurn q_text_ q_textMany q_toldMany q_toldAt_ q_hasTold q_stack_ q_codes q_ones q_top q_deep q_isWhole q_truths_ q_imaged_ q_namesKept_ q_areKept_), (q_tape_, aC0 cy 940 q_tape), (q_s_, aC1 cy 383 q_s), (q_trial_, aC1 cy 8 g_47)]) C hS (q_subP hP [4, 0, 1, 3] rfl) (hD.sub [4, 0, 1, 3] (by decide) rfl) (y_isAskedSo l D cy q x_46 a 0 q_tape_ x_4 x_5 x_6 x_7 q_s_ q_h_ q_read_ q_names_ q_reserved_ q_token q_at q_span q_number q_fault q_faultAt q_word q_got q_lines q_onces q_webs q_one q_two q_seed q_undone_ q_before_ q_undoMany q_far_ q_wayRow_ q_wayMany q_keptRow_ q_askedRow_ q_rares_ q_trial_ q_keptMany q_askedMany q_hangs_ q_paths_ q_tornSteps q_hasTorn q_turnOne q_hasTurn q_text_ q_textMany q_toldMany q_toldAt_ q_hasTold q_stack_ q_codes q_ones q_top q_deep q_isWhole q_truths_ q_imaged_ q_namesKept_ q_areKept_ q_tape q_s g_47 _ (by omega) (by omega) (by omega) (by omega) (by omega) (by omega) (by omega) (by omega) (by omega) (by omega) (by omega) (by omega) (by omega) (by omega) (by omega) (by omega) (by omega) (by omega) (by omega) (by omega) (by omega) (by omega) (by omega) (by omega) hR0 hR1 hR2 hR3 hR4 hR5 hR6 hR7 hR8 hq_42) kwV_X11_isAskedSo kM_RX11_400 rfl rfl ⟨Nat.le_of_ble_eq_true rfl, Nat.le_of_ble_eq_true rfl⟩ rfl hl.1 rfl (Nat.le_of_ble_eq_true rfl) dX11_asked_119 ⟨hroom.1, hroom.2⟩) C.2.2.2.2.2.2.1 hP hD hS [4, 0, 1, 3] [2] rfl rfl (by decide) (by decide) (fun r_77 u_76 H locs hw_78 hP hD hS => ?_)
                      obtain ⟨g_79, rfl⟩ : ∃ z, z = u_76 := ⟨_, rfl⟩
                      have hP : va_P D vwCl [(q_askedRow_, aC1 cy 3 q_askedRow), (q, oC11 0 q_tape_ x_4 x_5 x_6 x_7 q_s_ q_h_ q_read_ q_names_ q_reserved_ q_token q_at q_span q_number q_fault q_faultAt q_word q_got q_lines q_onces q_webs q_one q_two q_seed q_undone_ q_before_ q_undoMany q_far_ q_wayRow_ q_wayMany q_keptRow_ q_askedRow_ q_rares_ q_trial_ q_keptMany q_askedMany q_hangs_ q_paths_ q_tornSteps q_hasTorn q_turnOne q_hasTurn q_text_ q_textMany q_toldMany q_toldAt_ q_hasTold q_stack_ q_codes q_ones q_top q_deep q_isWhole q_truths_ q_imaged_ q_namesKept_ q_areKept_), (q_tape_, aC0 cy 940 q_tape), (q_s_, aC1 cy 383 q_s), (q_trial_, aC1 cy 8 g_79)] H := hP
                      have hD : va_D A [(q_askedRow_, aC1 cy 3 q_askedRow), (q, oC11 0 q_tape_ x_4 x_5 x_6 x_7 q_s_ q_h_ q_read_ q_names_ q_reserved_ q_token q_at q_span q_number q_fault q_faultAt q_word q_got q_lines q_onces q_webs q_one q_two q_seed q_undone_ q_before_ q_undoMany q_far_ q_wayRow_ q_wayMany q_keptRow_ q_askedRow_ q_rares_ q_trial_ q_keptMany q_askedMany q_hangs_ q_paths_ q_tornSteps q_hasTorn q_turnOne q_hasTurn q_text_ q_textMany q_toldMany q_toldAt_ q_hasTold q_stack_ q_codes q_ones q_top q_deep q_isWhole q_truths_ q_imaged_ q_namesKept_ q_areKept_), (q_tape_, aC0 cy 940 q_tape), (q_s_, aC1 cy 383 q_s), (q_trial_, aC1 cy 8 g_79)] := hD
                      have hp_79 : 0 ≤ r_77.toInt ∧ r_77.toInt ≤ 1 := hw_78
                      clear hw_78
                      refine lv_if_ne (tgt := 128) hx hb dX11_asked_122 (by decide) (fun c_81 => ?_) (fun c_81 => ?_)
                      · have hc_81 := o_ne (rfl : r_77.toInt = r_77.toInt) (by decide : (0 : Int32).toInt = 0) c_81
                        have hnc_81 : 0 ≤ r_77.toInt + (-1) := by rcases Int.lt_or_gt_of_ne hc_81 with h9 | h9 <;> omega
                        refine lv_iload_n hx hb dX11_asked_128 rfl (lv_at hl 2 rfl) ?_
                        refine lv_if_ne (tgt := 137) hx hb dX11_asked_129 (by decide) (fun c_82 => ?_) (fun c_82 => ?_)
                        · have hc_82 := o_ne (rfl : x_44.toInt = x_44.toInt) (by decide : (0 : Int32).toInt = 0) c_82
                          refine lv_iload_n hx hb dX11_asked_137 rfl (lv_at hl 3 rfl) ?_
                          refine lv_istore_n (lv' := [(3, .int x_45), (0, .ref q), (1, .int a), (2, .int x_44), (4, .int x_46)]) hx hb dX11_asked_138 rfl hl (by decide) rfl (fun ls hl => ?_)
                          obtain ⟨z_83, hz_83⟩ : ∃ z : Int32, z = x_44 + 1 := ⟨_, rfl⟩
                          refine lv_iinc (v := z_83) (lv' := [(2, .int z_83), (3, .int x_45), (0, .ref q), (1, .int a), (4, .int x_46)]) hx hb dX11_asked_139 hl (k := 3) rfl hz_83.symm (by decide) rfl (fun ls hl => ?_)
                          obtain ⟨z_84, hz_84⟩ : ∃ z : Int32, z = x_46 + 1 := ⟨_, rfl⟩
                          refine lv_iinc (v := z_84) (lv' := [(4, .int z_84), (2, .int z_83), (3, .int x_45), (0, .ref q), (1, .int a)]) hx hb dX11_asked_142 hl (k := 4) rfl hz_84.symm (by decide) rfl (fun ls hl => ?_)
                          have hz_84 := o_add hz_84 (rfl : x_46.toInt = x_46.toInt) (by decide : (1 : Int32).toInt = 1) (by omega) (by omega)
                          refine lv_goto (tgt := 98) hx hb dX11_asked_145 (by decide) ?_
                          exact ih_53 z_83 x_45 z_84 g_79 H locs ls (by omega) (by omega) (by omega) (by omega) (q_subP hP [2, 3, 0, 4, 1] rfl) (hD.sub [2, 3, 0, 4, 1] (by decide) rfl) hS (lv_sub hl [3, 4, 1, 2, 0] rfl)
                        · have hc_82 := o_eq (rfl : x_44.toInt = x_44.toInt) (by decide : (0 : Int32).toInt = 0) c_82
                          refine lv_iload hx hb dX11_asked_132 (lv_at hl 4 rfl) ?_
                          refine lv_goto (tgt := 138) hx hb dX11_asked_134 (by decide) ?_
                          refine lv_istore_n (lv' := [(3, .int x_46), (0, .ref q), (1, .int a), (2, .int x_44), (4, .int x_46)]) hx hb dX11_asked_138 rfl hl (by decide) rfl (fun ls hl => ?_)
                          obtain ⟨z_85, hz_85⟩ : ∃ z : Int32, z = x_44 + 1 := ⟨_, rfl⟩
                          refine lv_iinc (v := z_85) (lv' := [(2, .int z_85), (3, .int x_46), (0, .ref q), (1, .int a), (4, .int x_46)]) hx hb dX11_asked_139 hl (k := 3) rfl hz_85.symm (by decide) rfl (fun ls hl => ?_)
                          have hz_85 := o_add hz_85 (rfl : x_44.toInt = x_44.toInt) (by decide : (1 : Int32).toInt = 1) (by omega) (by omega)
                          obtain ⟨z_86, hz_86⟩ : ∃ z : Int32, z = x_46 + 1 := ⟨_, rfl⟩
                          refine lv_iinc (v := z_86) (lv' := [(4, .int z_86), (2, .int z_85), (3, .int x_46), (0, .ref q), (1, .int a)]) hx hb dX11_asked_142 hl (k := 4) rfl hz_86.symm (by decide) rfl (fun ls hl => ?_)
                          have hz_86 := o_add hz_86 (rfl : x_46.toInt = x_46.toInt) (by decide : (1 : Int32).toInt = 1) (by omega) (by omega)
                          refine lv_goto (tgt := 98) hx hb dX11_asked_145 (by decide) ?_
                          exact ih_53 z_85 x_46 z_86 g_79 H locs ls (by omega) (by omega) (by omega) (by omega) (q_subP hP [2, 3, 0, 4, 1] rfl) (hD.sub [2, 3, 0, 4, 1] (by decide) rfl) hS (lv_sub hl [3, 4, 1, 2, 0] rfl)
                      · have hc_81 := o_eq (rfl : r_77.toInt = r_77.toInt) (by decide : (0 : Int32).toInt = 0) c_81
                        refine lv_goto (tgt := 142) hx hb dX11_asked_125 (by decide) ?_
                        obtain ⟨z_87, hz_87⟩ : ∃ z : Int32, z = x_46 + 1 := ⟨_, rfl⟩
                        refine lv_iinc (v := z_87) (lv' := [(4, .int z_87), (0, .ref q), (1, .int a), (2, .int x_44), (3, .int x_45)]) hx hb dX11_asked_142 hl (k := 4) rfl hz_87.symm (by decide) rfl (fun ls hl => ?_)
                        have hz_87 := o_add hz_87 (rfl : x_46.toInt = x_46.toInt) (by decide : (1 : Int32).toInt = 1) (by omega) (by omega)
                        refine lv_goto (tgt := 98) hx hb dX11_asked_145 (by decide) ?_
                        exact ih_53 x_44 x_45 z_87 g_79 H locs ls (by omega) (by omega) (by omega) (by omega) (q_subP hP [2, 3, 0, 4, 1] rfl) (hD.sub [2, 3, 0, 4, 1] (by decide) rfl) hS (lv_sub hl [1, 2, 3, 4, 0] rfl)
                exact lp_98_47 2147483648 (0 : Int32) (0 : Int32) (0 : Int32) q_trial H locs ls (by have e0 : (0 : Int32).toInt = 0 := (by decide); omega) (by have e0 : (0 : Int32).toInt = 0 := (by decide); omega) (by have e0 : (0 : Int32).toInt = 0 := (by decide); omega) (by have e0 : (0 : Int32).toInt = 0 := (by decide); omega) hP hD hS (lv_sub hl [3, 4, 2, 1, 0] rfl)
              · have hc_42 := o_nle (rfl : x_5.toInt = x_5.toInt) (rfl : x_34.toInt = x_34.toInt) c_42
                refine lv_aload_n hx hb dX11_asked_71 rfl (lv_at hl 0 rfl) ?_
                refine lv_aload_n hx hb dX11_asked_72 rfl (lv_at hl 0 rfl) ?_
                refine lv_iload_n hx hb dX11_asked_73 rfl (lv_at hl 2 rfl) ?_
                refine q_ai (wr := [(q_s_, aC1 cy 383 q_s), (q_askedRow_, aC1 cy 3 q_askedRow), (q_trial_, aC1 cy 8 q_trial)]) (r_V (rm := (Rm 0 0 0 0)) (q0 := 0) (As := [.int x_34]) (rest := [.ref q]) (wc := [(q, oC11 0 q_tape_ x_4 x_5 x_6 x_7 q_s_ q_h_ q_read_ q_names_ q_reserved_ q_token q_at q_span q_number q_fault q_faultAt q_word q_got q_lines q_onces q_webs q_one q_two q_seed q_undone_ q_before_ q_undoMany q_far_ q_wayRow_ q_wayMany q_keptRow_ q_askedRow_ q_rares_ q_trial_ q_keptMany q_askedMany q_hangs_ q_paths_ q_tornSteps q_hasTorn q_turnOne q_hasTurn q_text_ q_textMany q_toldMany q_toldAt_ q_hasTold q_stack_ q_codes q_ones q_top q_deep q_isWhole q_truths_ q_imaged_ q_namesKept_ q_areKept_), (q_tape_, aC0 cy 940 q_tape)]) C hS (q_subP hP [4, 0] rfl) (hD.sub [4, 0] (by decide) rfl) (y_octet l D cy q x_34 0 q_tape_ x_4 x_5 x_6 x_7 q_s_ q_h_ q_read_ q_names_ q_reserved_ q_token q_at q_span q_number q_fault q_faultAt q_word q_got q_lines q_onces q_webs q_one q_two q_seed q_undone_ q_before_ q_undoMany q_far_ q_wayRow_ q_wayMany q_keptRow_ q_askedRow_ q_rares_ q_trial_ q_keptMany q_askedMany q_hangs_ q_paths_ q_tornSteps q_hasTorn q_turnOne q_hasTurn q_text_ q_textMany q_toldMany q_toldAt_ q_hasTold q_stack_ q_codes q_ones q_top q_deep q_isWhole q_truths_ q_imaged_ q_namesKept_ q_areKept_ q_tape _ (by omega) (by omega) (by omega) (by omega) (by omega) (by omega) (by omega) (by omega) (by omega) (by omega) (by omega) (by omega) (by omega) (by omega) (by omega) (by omega) (by omega) (by omega) (by omega) (by omega) (by omega) (by omega) (by omega)) kwV_X11_octet kM_RX11_397 rfl rfl ⟨Nat.le_of_ble_eq_true rfl, Nat.le_of_ble_eq_true rfl⟩ rfl hl.1 rfl (Nat.le_of_ble_eq_true rfl) dX11_asked_74 ⟨hroom.1, hroom.2⟩) C.2.2.2.2.2.2.1 hP hD hS [4, 0] [1, 2, 3] rfl rfl (by decide) (by decide) (fun r_89 u_88 H locs hw_90 hP hD hS => ?_)
                have hp_90 : 0 ≤ r_89.toInt ∧ r_89.toInt ≤ 255 := hw_90.1
                have hp_91 : r_89 = oc q_tape x_34 := hw_90.2
                clear hw_90
                refine q_ai (wr := [(q_askedRow_, aC1 cy 3 q_askedRow), (q_trial_, aC1 cy 8 q_trial), (q_tape_, aC0 cy 940 q_tape)]) (r_V (rm := (Rm 1 22 0 0)) (q0 := 0) (As := [.int r_89]) (rest := []) (wc := [(q, oC11 0 q_tape_ x_4 x_5 x_6 x_7 q_s_ q_h_ q_read_ q_names_ q_reserved_ q_token q_at q_span q_number q_fault q_faultAt q_word q_got q_lines q_onces q_webs q_one q_two q_seed q_undone_ q_before_ q_undoMany q_far_ q_wayRow_ q_wayMany q_keptRow_ q_askedRow_ q_rares_ q_trial_ q_keptMany q_askedMany q_hangs_ q_paths_ q_tornSteps q_hasTorn q_turnOne q_hasTurn q_text_ q_textMany q_toldMany q_toldAt_ q_hasTold q_stack_ q_codes q_ones q_top q_deep q_isWhole q_truths_ q_imaged_ q_namesKept_ q_areKept_), (q_s_, aC1 cy 383 q_s)]) C hS (q_subP hP [3, 0] rfl) (hD.sub [3, 0] (by decide) rfl) (y_isBook l D cy q r_89 0 q_tape_ x_4 x_5 x_6 x_7 q_s_ q_h_ q_read_ q_names_ q_reserved_ q_token q_at q_span q_number q_fault q_faultAt q_word q_got q_lines q_onces q_webs q_one q_two q_seed q_undone_ q_before_ q_undoMany q_far_ q_wayRow_ q_wayMany q_keptRow_ q_askedRow_ q_rares_ q_trial_ q_keptMany q_askedMany q_hangs_ q_paths_ q_tornSteps q_hasTorn q_turnOne q_hasTurn q_text_ q_textMany q_toldMany q_toldAt_ q_hasTold q_stack_ q_codes q_ones q_top q_deep q_isWhole q_truths_ q_imaged_ q_namesKept_ q_areKept_ q_s _ (by omega) (by omega) (by omega) (by omega) (by omega) (by omega) (by omega) (by omega) (by omega) (by omega) (by omega) (by omega) (by omega) (by omega) (by omega) (by omega) (by omega) (by omega) (by omega) (by omega) (by omega) (by omega) hR0 hR1 hR2 hR3 hR4 hR5 hR6 hR7 hR8) kwV_X11_isBook kM_RX11_306 rfl rfl ⟨Nat.le_of_ble_eq_true rfl, Nat.le_of_ble_eq_true rfl⟩ rfl hl.1 rfl (Nat.le_of_ble_eq_true rfl) dX11_asked_77 ⟨hroom.1, hroom.2⟩) C.2.2.2.2.2.2.1 hP hD hS [3, 0] [1, 2, 4] rfl rfl (by decide) (by decide) (fun r_94 u_93 H locs hw_95 hP hD hS => ?_)
                have hp_95 : 0 ≤ r_94.toInt ∧ r_94.toInt ≤ 1 := hw_95.1
                have hp_96 : r_94.toInt = 1 → r_89.toInt < (q_s 0).toInt := hw_95.2.1
                have hp_97 : (0 ≤ r_94.toInt + (-1)) → (0 ≤ r_89.toInt ∧ 0 ≤ (-1) * r_89.toInt + 7) := by have e0 : (0 : Int32).toInt = 0 := (by decide); have h0 : (0 ≤ r_94.toInt + (-1)) → (0 ≤ r_89.toInt ∧ 0 ≤ (-1) * r_89.toInt + 7) := hw_95.2.2; omega
                clear hw_95
                refine lv_if_ne (tgt := 85) hx hb dX11_asked_80 (by decide) (fun c_99 => ?_) (fun c_99 => ?_)
                · have hc_99 := o_ne (rfl : r_94.toInt = r_94.toInt) (by decide : (0 : Int32).toInt = 0) c_99
                  have hnc_99 : 0 ≤ r_94.toInt + (-1) := by rcases Int.lt_or_gt_of_ne hc_99 with h9 | h9 <;> omega
                  have hp_97 := hp_97 (by omega)
                  obtain ⟨z_100, hz_100⟩ : ∃ z : Int32, z = x_34 + 2 := ⟨_, rfl⟩
                  refine lv_iinc (v := z_100) (lv' := [(2, .int z_100), (0, .ref q), (1, .int a)]) hx hb dX11_asked_85 hl (k := 2) rfl hz_100.symm (by decide) rfl (fun ls hl => ?_)
                  have hz_100 := o_add hz_100 (rfl : x_34.toInt = x_34.toInt) (by decide : (2 : Int32).toInt = 2) (by omega) (by omega)
                  have hq_100 : Ro q_tape z_100.toInt := Ro.step (x := x_34) hf_38 (by omega) hp_91 (by omega) (by omega) hf_37
                  refine lv_goto (tgt := 63) hx hb dX11_asked_88 (by decide) ?_
                  exact ih_40 z_100 H locs ls (by omega) (by omega) (by omega) hq_100 (q_subP hP [2, 4, 0, 1, 3] rfl) (hD.sub [2, 4, 0, 1, 3] (by decide) rfl) hS (lv_sub hl [1, 2, 0] rfl)
                · have hc_99 := o_eq (rfl : r_94.toInt = r_94.toInt) (by decide : (0 : Int32).toInt = 0) c_99
                  clear hp_97
                  refine lv_iconst (v := (-1)) hx hb dX11_asked_83 (by decide) ?_
                  refine o_wq hQ ?_
                  exact q_iret (rm := (Rm 4 90 0 0)) C hS (0, x_4, x_5, x_6, x_7, q_askedMany, q_askedRow, q_trial) rfl ⟨(show 0 ≤ x_4.toInt ∧ x_4.toInt ≤ 0 by omega), (show 0 ≤ x_5.toInt ∧ x_5.toInt ≤ 940 by omega), (show 0 ≤ x_6.toInt ∧ x_6.toInt ≤ 940 by omega), (show 0 ≤ x_7.toInt ∧ x_7.toInt ≤ 940 by omega), (show (-1) ≤ q_askedMany.toInt ∧ q_askedMany.toInt ≤ 3 by omega)⟩ (q_subP hP [3, 2, 4, 0, 1] rfl) (hD.sub [3, 2, 4, 0, 1] (by decide) rfl) hroom.1 hroom.2 dX11_asked_84
          exact lp_63_34 18 (0 : Int32) H locs ls (by have e0 : (0 : Int32).toInt = 0 := (by decide); omega) (by have e0 : (0 : Int32).toInt = 0 := (by decide); omega) (by have e0 : (0 : Int32).toInt = 0 := (by decide); omega) hq_32 hP hD hS (lv_sub hl [1, 2, 0] rfl)
        · have hc_32 := o_eq (rfl : z_31.toInt = z_31.toInt) (by decide : (1 : Int32).toInt = 1) c_32
          refine lv_iconst (v := (-1)) hx hb dX11_asked_59 (by decide) ?_
          refine o_wq hQ ?_
          exact q_iret (rm := (Rm 4 90 0 0)) C hS (0, x_4, x_5, x_6, x_7, q_askedMany, q_askedRow, q_trial) rfl ⟨(show 0 ≤ x_4.toInt ∧ x_4.toInt ≤ 0 by omega), (show 0 ≤ x_5.toInt ∧ x_5.toInt ≤ 940 by omega), (show 0 ≤ x_6.toInt ∧ x_6.toInt ≤ 940 by omega), (show 0 ≤ x_7.toInt ∧ x_7.toInt ≤ 940 by omega), (show (-1) ≤ q_askedMany.toInt ∧ q_askedMany.toInt ≤ 3 by omega)⟩ (q_subP hP [4, 0, 1, 2, 3] rfl) (hD.sub [4, 0, 1, 2, 3] (by decide) rfl) hroom.1 hroom.2 dX11_asked_60
theorem y_asked (l : Launch) (D : va_G) (cy : Nat → ClassId) (q : Nat) (a : Int32) (q_thrown : Int32) (q_tape_ : Nat) (q_length : Int32) (q_size : Int32) (q_p : Int32) (q_limit : Int32) (q_s_ : Nat) (q_h_ : Nat) (q_read_ : Nat) (q_names_ : Nat) (q_reserved_ : Nat) (q_token : Int32) (q_at : Int32) (q_span : Int32) (q_number : Int32) (q_fault : Int32) (q_faultAt : Int32) (q_word : Int64) (q_got : Int32) (q_lines : Int32) (q_onces : Int32) (q_webs : Int32) (q_one : Int32) (q_two : Int32) (q_seed : Int32) (q_undone_ : Nat) (q_before_ : Nat) (q_undoMany : Int32) (q_far_ : Nat) (q_wayRow_ : Nat) (q_wayMany : Int32) (q_keptRow_ : Nat) (q_askedRow_ : Nat) (q_rares_ : Nat) (q_trial_ : Nat) (q_keptMany : Int32) (q_askedMany : Int32) (q_hangs_ : Nat) (q_paths_ : Nat) (q_tornSteps : Int32) (q_hasTorn : Int32) (q_turnOne : Int32) (q_hasTurn : Int32) (q_text_ : Nat) (q_textMany : Int32) (q_toldMany : Int32) (q_toldAt_ : Nat) (q_hasTold : Int32) (q_stack_ : Nat) (q_codes : Int32) (q_ones : Int32) (q_top : Int32) (q_deep : Int32) (q_isWhole : Int32) (q_truths_ : Nat) (q_imaged_ : Nat) (q_namesKept_ : Nat) (q_areKept_ : Nat) (q_tape : Nat → Int32) (q_s : Nat → Int32) (q_askedRow : Nat → Int32) (q_trial : Nat → Int32) (sz : Nat) (hb0 : 0 ≤ q_length.toInt ∧ q_length.toInt ≤ 940) (hb1 : 0 ≤ q_size.toInt ∧ q_size.toInt ≤ 940) (hb2 : 0 ≤ q_p.toInt ∧ q_p.toInt ≤ 940) (hb3 : 0 ≤ q_limit.toInt ∧ q_limit.toInt ≤ 940) (hb4 : 0 ≤ q_span.toInt ∧ q_span.toInt ≤ 940) (hb5 : 0 ≤ q_number.toInt ∧ q_number.toInt ≤ 8214) (hb6 : (-1) ≤ q_got.toInt ∧ q_got.toInt ≤ 8214) (hb7 : 0 ≤ q_one.toInt ∧ q_one.toInt ≤ 7) (hb8 : 0 ≤ q_two.toInt ∧ q_two.toInt ≤ 7) (hb9 : 0 ≤ q_undoMany.toInt ∧ q_undoMany.toInt ≤ 8) (hb10 : (-1) ≤ q_wayMany.toInt ∧ q_wayMany.toInt ≤ 8) (hb11 : (-1) ≤ q_keptMany.toInt ∧ q_keptMany.toInt ≤ 8) (hb12 : (-1) ≤ q_askedMany.toInt ∧ q_askedMany.toInt ≤ 3) (hb13 : 0 ≤ q_hasTorn.toInt ∧ q_hasTorn.toInt ≤ 1) (hb14 : 0 ≤ q_hasTurn.toInt ∧ q_hasTurn.toInt ≤ 1) (hb15 : 0 ≤ q_textMany.toInt ∧ q_textMany.toInt ≤ 48) (hb16 : 0 ≤ q_toldMany.toInt ∧ q_toldMany.toInt ≤ 40) (hb17 : 0 ≤ q_hasTold.toInt ∧ q_hasTold.toInt ≤ 1) (hb18 : 0 ≤ q_codes.toInt ∧ q_codes.toInt ≤ 40) (hb19 : 0 ≤ q_ones.toInt ∧ q_ones.toInt ≤ 20) (hb20 : 0 ≤ q_top.toInt ∧ q_top.toInt ≤ 40) (hb21 : 0 ≤ q_isWhole.toInt ∧ q_isWhole.toInt ≤ 1) (hR0 : Rg q_s 0 1 0 8) (hR1 : Rg q_s 1 3 0 6) (hR2 : Rg q_s 3 4 1 50) (hR3 : Rg q_s 4 5 1 5) (hR4 : Rg q_s 103 104 0 255) (hR5 : Rg q_s 7 23 0 5) (hR6 : Rg q_s 106 122 0 5) (hR7 : Rg q_s 23 31 0 99) (hR8 : Rg q_s 122 130 0 99) : MI l yX11_asked cX11_asked 5 (some .int) (Rm 4 90 0 0) D cy [.ref q, .int a] sz [(q, oC11 q_thrown q_tape_ q_length q_size q_p q_limit q_s_ q_h_ q_read_ q_names_ q_reserved_ q_token q_at q_span q_number q_fault q_faultAt q_word q_got q_lines q_onces q_webs q_one q_two q_seed q_undone_ q_before_ q_undoMany q_far_ q_wayRow_ q_wayMany q_keptRow_ q_askedRow_ q_rares_ q_trial_ q_keptMany q_askedMany q_hangs_ q_paths_ q_tornSteps q_hasTorn q_turnOne q_hasTurn q_text_ q_textMany q_toldMany q_toldAt_ q_hasTold q_stack_ q_codes q_ones q_top q_deep q_isWhole q_truths_ q_imaged_ q_namesKept_ q_areKept_), (q_tape_, aC0 cy 940 q_tape), (q_s_, aC1 cy 383 q_s), (q_askedRow_, aC1 cy 3 q_askedRow), (q_trial_, aC1 cy 8 q_trial)] (fun (r : Int32) (u : Int32 × Int32 × Int32 × Int32 × Int32 × Int32 × (Nat → Int32) × (Nat → Int32)) => (0 ≤ u.2.1.toInt ∧ u.2.1.toInt ≤ 0) ∧ (0 ≤ u.2.2.1.toInt ∧ u.2.2.1.toInt ≤ 940) ∧ (0 ≤ u.2.2.2.1.toInt ∧ u.2.2.2.1.toInt ≤ 940) ∧ (0 ≤ u.2.2.2.2.1.toInt ∧ u.2.2.2.2.1.toInt ≤ 940) ∧ ((-1) ≤ u.2.2.2.2.2.1.toInt ∧ u.2.2.2.2.2.1.toInt ≤ 3)) (fun u : Int32 × Int32 × Int32 × Int32 × Int32 × Int32 × (Nat → Int32) × (Nat → Int32) => [(q, oC11 u.1 q_tape_ u.2.1 u.2.2.1 u.2.2.2.1 u.2.2.2.2.1 q_s_ q_h_ q_read_ q_names_ q_reserved_ q_token q_at q_span q_number q_fault q_faultAt q_word q_got q_lines q_onces q_webs q_one q_two q_seed q_undone_ q_before_ q_undoMany q_far_ q_wayRow_ q_wayMany q_keptRow_ q_askedRow_ q_rares_ q_trial_ q_keptMany u.2.2.2.2.2.1 q_hangs_ q_paths_ q_tornSteps q_hasTorn q_turnOne q_hasTurn q_text_ q_textMany q_toldMany q_toldAt_ q_hasTold q_stack_ q_codes q_ones q_top q_deep q_isWhole q_truths_ q_imaged_ q_namesKept_ q_areKept_), (q_tape_, aC0 cy 940 q_tape), (q_s_, aC1 cy 383 q_s), (q_askedRow_, aC1 cy 3 u.2.2.2.2.2.2.1), (q_trial_, aC1 cy 8 u.2.2.2.2.2.2.2)]) := by
  refine MI.enter (by decide) (Nat.le_of_ble_eq_true rfl) ?_
  intro p e s m below meth c ls A hsz hAe C hP hD hS hl
  exact b_y_asked l D cy q a q_thrown q_tape_ q_length q_size q_p q_limit q_s_ q_h_ q_read_ q_names_ q_reserved_ q_token q_at q_span q_number q_fault q_faultAt q_word q_got q_lines q_onces q_webs q_one q_two q_seed q_undone_ q_before_ q_undoMany q_far_ q_wayRow_ q_wayMany q_keptRow_ q_askedRow_ q_rares_ q_trial_ q_keptMany q_askedMany q_hangs_ q_paths_ q_tornSteps q_hasTorn q_turnOne q_hasTurn q_text_ q_textMany q_toldMany q_toldAt_ q_hasTold q_stack_ q_codes q_ones q_top q_deep q_isWhole q_truths_ q_imaged_ q_namesKept_ q_areKept_ q_tape q_s q_askedRow q_trial hb0 hb1 hb2 hb3 hb4 hb5 hb6 hb7 hb8 hb9 hb10 hb11 hb12 hb13 hb14 hb15 hb16 hb17 hb18 hb19 hb20 hb21 hR0 hR1 hR2 hR3 hR4 hR5 hR6 hR7 hR8 ⟨Nat.le_of_ble_eq_true rfl, Nat.le_of_ble_eq_true rfl⟩ C rfl _ _ ls hP hD hS hl
set_option maxHeartbeats 4000000 in
set_option maxRecDepth 100000 in
theorem b_y_laysPaths (l : Launch) (D : va_G) (cy : Nat → ClassId) (q : Nat) (q_thrown : Int32) (q_tape_ : Nat) (q_length : Int32) (q_size : Int32) (q_p : Int32) (q_limit : Int32) (q_s_ : Nat) (q_h_ : Nat) (q_read_ : Nat) (q_names_ : Nat) (q_reserved_ : Nat) (q_token : Int32) (q_at : Int32) (q_span : Int32) (q_number : Int32) (q_fault : Int32) (q_faultAt : Int32) (q_word : Int64) (q_got : Int32) (q_lines : Int32) (q_onces : Int32) (q_webs : Int32) (q_one : Int32) (q_two : Int32) (q_seed : Int32) (q_undone_ : Nat) (q_before_ : Nat) (q_undoMany : Int32) (q_far_ : Nat) (q_wayRow_ : Nat) (q_wayMany : Int32) (q_keptRow_ : Nat) (q_askedRow_ : Nat) (q_rares_ : Nat) (q_trial_ : Nat) (q_keptMany : Int32) (q_askedMany : Int32) (q_hangs_ : Nat) (q_paths_ : Nat) (q_tornSteps : Int32) (q_hasTorn : Int32) (q_turnOne : Int32) (q_hasTurn : Int32) (q_text_ : Nat) (q_textMany : Int32) (q_toldMany : Int32) (q_toldAt_ : Nat) (q_hasTold : Int32) (q_stack_ : Nat) (q_codes : Int32) (q_ones : Int32) (q_top : Int32) (q_deep : Int32) (q_isWhole : Int32) (q_truths_ : Nat) (q_imaged_ : Nat) (q_namesKept_ : Nat) (q_areKept_ : Nat) (q_s : Nat → Int32) (q_hangs : Nat → Int32) (q_paths : Nat → Int32) (hb0 : 0 ≤ q_length.toInt ∧ q_length.toInt ≤ 940) (hb1 : 0 ≤ q_size.toInt ∧ q_size.toInt ≤ 940) (hb2 : 0 ≤ q_p.toInt ∧ q_p.toInt ≤ 940) (hb3 : 0 ≤ q_limit.toInt ∧ q_limit.toInt ≤ 940) (hb4 : 0 ≤ q_span.toInt ∧ q_span.toInt ≤ 940) (hb5 : 0 ≤ q_number.toInt ∧ q_number.toInt ≤ 8214) (hb6 : (-1) ≤ q_got.toInt ∧ q_got.toInt ≤ 8214) (hb7 : 0 ≤ q_one.toInt ∧ q_one.toInt ≤ 7) (hb8 : 0 ≤ q_two.toInt ∧ q_two.toInt ≤ 7) (hb9 : 0 ≤ q_undoMany.toInt ∧ q_undoMany.toInt ≤ 8) (hb10 : (-1) ≤ q_wayMany.toInt ∧ q_wayMany.toInt ≤ 8) (hb11 : (-1) ≤ q_keptMany.toInt ∧ q_keptMany.toInt ≤ 8) (hb12 : (-1) ≤ q_askedMany.toInt ∧ q_askedMany.toInt ≤ 3) (hb13 : 0 ≤ q_hasTorn.toInt ∧ q_hasTorn.toInt ≤ 1) (hb14 : 0 ≤ q_hasTurn.toInt ∧ q_hasTurn.toInt ≤ 1) (hb15 : 0 ≤ q_textMany.toInt ∧ q_textMany.toInt ≤ 48) (hb16 : 0 ≤ q_toldMany.toInt ∧ q_toldMany.toInt ≤ 40) (hb17 : 0 ≤ q_hasTold.toInt ∧ q_hasTold.toInt ≤ 1) (hb18 : 0 ≤ q_codes.toInt ∧ q_codes.toInt ≤ 40) (hb19 : 0 ≤ q_ones.toInt ∧ q_ones.toInt ≤ 20) (hb20 : 0 ≤ q_top.toInt ∧ q_top.toInt ≤ 40) (hb21 : 0 ≤ q_isWhole.toInt ∧ q_isWhole.toInt ≤ 1) (hR0 : Rg q_s 0 1 0 8) (hR1 : Rg q_s 1 3 0 6) (hR2 : Rg q_s 3 4 1 50) (hR3 : Rg q_s 4 5 1 5) (hR4 : Rg q_s 103 104 0 255) (hR5 : Rg q_s 7 23 0 5) (hR6 : Rg q_s 106 122 0 5) (hR7 : Rg q_s 23 31 0 99) (hR8 : Rg q_s 122 130 0 99) {p : Program} {e : Env} {s : State} {m : MethodId} {args : Array Value} {below : List Frame} {meth : Method} {c : Code} {A : Nat → Prop} {Q : State → Prop} {cells slots : Nat} (hroom : cells ≤ ((Rm 3 71 0 0)).cells ∧ slots ≤ ((Rm 3 71 0 0)).slots) (C : Cx p s m args meth c cX11_laysPaths 5 none RX11 "laysPaths" D cy A) (hQ : Q = MQ below (va_Qv (fun u : (Nat → Int32) × (Nat → Int32) => True) (Bx D A (fun u : (Nat → Int32) × (Nat → Int32) => [(q, oC11 q_thrown q_tape_ q_length q_size q_p q_limit q_s_ q_h_ q_read_ q_names_ q_reserved_ q_token q_at q_span q_number q_fault q_faultAt q_word q_got q_lines q_onces q_webs q_one q_two q_seed q_undone_ q_before_ q_undoMany q_far_ q_wayRow_ q_wayMany q_keptRow_ q_askedRow_ q_rares_ q_trial_ q_keptMany q_askedMany q_hangs_ q_paths_ q_tornSteps q_hasTorn q_turnOne q_hasTurn q_text_ q_textMany q_toldMany q_toldAt_ q_hasTold q_stack_ q_codes q_ones q_top q_deep q_isWhole q_truths_ q_imaged_ q_namesKept_ q_areKept_), (q_s_, aC1 cy 383 q_s), (q_hangs_, aC1 cy 36 u.1), (q_paths_, aC1 cy 36 u.2)])) A) args s ((Rm 3 71 0 0)).cells ((Rm 3 71 0 0)).slots A) (H : Heap) (locs : List Loc) (ls : Array Slot) (hP : va_P D vwCl [(q, oC11 q_thrown q_tape_ q_length q_size q_p q_limit q_s_ q_h_ q_read_ q_names_ q_reserved_ q_token q_at q_span q_number q_fault q_faultAt q_word q_got q_lines q_onces q_webs q_one q_two q_seed q_undone_ q_before_ q_undoMany q_far_ q_wayRow_ q_wayMany q_keptRow_ q_askedRow_ q_rares_ q_trial_ q_keptMany q_askedMany q_hangs_ q_paths_ q_tornSteps q_hasTorn q_turnOne q_hasTurn q_text_ q_textMany q_toldMany q_toldAt_ q_hasTold q_stack_ q_codes q_ones q_top q_deep q_isWhole q_truths_ q_imaged_ q_namesKept_ q_areKept_), (q_s_, aC1 cy 383 q_s), (q_hangs_, aC1 cy 36 q_hangs), (q_paths_, aC1 cy 36 q_paths)] H) (hD : va_D A [(q, oC11 q_thrown q_tape_ q_length q_size q_p q_limit q_s_ q_h_ q_read_ q_names_ q_reserved_ q_token q_at q_span q_number q_fault q_faultAt q_word q_got q_lines q_onces q_webs q_one q_two q_seed q_undone_ q_before_ q_undoMany q_far_ q_wayRow_ q_wayMany q_keptRow_ q_askedRow_ q_rares_ q_trial_ q_keptMany q_askedMany q_hangs_ q_paths_ q_tornSteps q_hasTorn q_turnOne q_hasTurn q_text_ q_textMany q_toldMany q_toldAt_ q_hasTold q_stack_ q_codes q_ones q_top q_deep q_isWhole q_truths_ q_imaged_ q_namesKept_ q_areKept_), (q_s_, aC1 cy 383 q_s), (q_hangs_, aC1 cy 36 q_hangs), (q_paths_, aC1 cy 36 q_paths)]) (hS : va_S A s.heap H locs) (hl : lv_has ls 5 [(0, .ref q)]) : W p l e (Rm 3 71 0 0) s m args below meth c H locs cells slots Q (F0 m 0 ls []) := by
  have hx := C.1
  have hb := C.2.1
  refine lv_iconst (v := 0) hx hb dX11_laysPaths_0 (by decide) ?_
  refine lv_istore_n (lv' := [(1, .int 0), (0, .ref q)]) hx hb dX11_laysPaths_1 rfl hl (by decide) rfl (fun ls hl => ?_)
  have lp_2_3 : ∀ (n_4 : Nat) (x_1 : Int32) (g_2 : Nat → Int32) (g_3 : Nat → Int32) (H : Heap) (locs : List Loc) (ls : Array Slot), (-1) * x_1.toInt + 36 < (n_4 : Int) → (0 ≤ x_1.toInt ∧ x_1.toInt ≤ 36) → va_P D vwCl [(q, oC11 q_thrown q_tape_ q_length q_size q_p q_limit q_s_ q_h_ q_read_ q_names_ q_reserved_ q_token q_at q_span q_number q_fault q_faultAt q_word q_got q_lines q_onces q_webs q_one q_two q_seed q_undone_ q_before_ q_undoMany q_far_ q_wayRow_ q_wayMany q_keptRow_ q_askedRow_ q_rares_ q_trial_ q_keptMany q_askedMany q_hangs_ q_paths_ q_tornSteps q_hasTorn q_turnOne q_hasTurn q_text_ q_textMany q_toldMany q_toldAt_ q_hasTold q_stack_ q_codes q_ones q_top q_deep q_isWhole q_truths_ q_imaged_ q_namesKept_ q_areKept_), (q_s_, aC1 cy 383 q_s), (q_hangs_, aC1 cy 36 g_2), (q_paths_, aC1 cy 36 g_3)] H → va_D A [(q, oC11 q_thrown q_tape_ q_length q_size q_p q_limit q_s_ q_h_ q_read_ q_names_ q_reserved_ q_token q_at q_span q_number q_fault q_faultAt q_word q_got q_lines q_onces q_webs q_one q_two q_seed q_undone_ q_before_ q_undoMany q_far_ q_wayRow_ q_wayMany q_keptRow_ q_askedRow_ q_rares_ q_trial_ q_keptMany q_askedMany q_hangs_ q_paths_ q_tornSteps q_hasTorn q_turnOne q_hasTurn q_text_ q_textMany q_toldMany q_toldAt_ q_hasTold q_stack_ q_codes q_ones q_top q_deep q_isWhole q_truths_ q_imaged_ q_namesKept_ q_areKept_), (q_s_, aC1 cy 383 q_s), (q_hangs_, aC1 cy 36 g_2), (q_paths_, aC1 cy 36 g_3)] → va_S A s.heap H locs → lv_has ls 5 [(0, .ref q), (1, .int x_1)] → W p l e (Rm 3 71 0 0) s m args below meth c H locs cells slots Q (F0 m 2 ls []) := by
    intro n_4
    induction n_4 with
    | zero =>
      intro x_1 g_2 g_3 H locs ls hm_6 hf_5 hP hD hS hl
      exact absurd hm_6 (by omega)
    | succ n_4 ih_7 =>
      intro x_1 g_2 g_3 H locs ls hm_6 hf_5 hP hD hS hl
      refine lv_iload_n hx hb dX11_laysPaths_2 rfl (lv_at hl 1 rfl) ?_
      refine lv_bipush (v := 36) hx hb dX11_laysPaths_3 (by decide) ?_
      refine lv_icmp_ge (tgt := 58) hx hb dX11_laysPaths_5 (by decide) (fun c_9 => ?_) (fun c_9 => ?_)
      · have hc_9 := o_le (by decide : (36 : Int32).toInt = 36) (rfl : x_1.toInt = x_1.toInt) c_9
        have hq_9 := psum_lo g_3
        refine lv_iconst (v := 1) hx hb dX11_laysPaths_58 (by decide) ?_
        refine lv_istore_n (lv' := [(1, .int 1), (0, .ref q)]) hx hb dX11_laysPaths_59 rfl hl (by decide) rfl (fun ls hl => ?_)
        have lp_60_12 : ∀ (n_13 : Nat) (x_11 : Int32) (g_12 : Nat → Int32) (H : Heap) (locs : List Loc) (ls : Array Slot), (2) * (psum g_12 : Int) + x_11.toInt + 154618822656 < (n_13 : Int) → (0 ≤ x_11.toInt ∧ x_11.toInt ≤ 1) → (0 ≤ (psum g_12 : Int) + 77309411328) → va_P D vwCl [(q, oC11 q_thrown q_tape_ q_length q_size q_p q_limit q_s_ q_h_ q_read_ q_names_ q_reserved_ q_token q_at q_span q_number q_fault q_faultAt q_word q_got q_lines q_onces q_webs q_one q_two q_seed q_undone_ q_before_ q_undoMany q_far_ q_wayRow_ q_wayMany q_keptRow_ q_askedRow_ q_rares_ q_trial_ q_keptMany q_askedMany q_hangs_ q_paths_ q_tornSteps q_hasTorn q_turnOne q_hasTurn q_text_ q_textMany q_toldMany q_toldAt_ q_hasTold q_stack_ q_codes q_ones q_top q_deep q_isWhole q_truths_ q_imaged_ q_namesKept_ q_areKept_), (q_s_, aC1 cy 383 q_s), (q_hangs_, aC1 cy 36 g_2), (q_paths_, aC1 cy 36 g_12)] H → va_D A [(q, oC11 q_thrown q_tape_ q_length q_size q_p q_limit q_s_ q_h_ q_read_ q_names_ q_reserved_ q_token q_at q_span q_number q_fault q_faultAt q_word q_got q_lines q_onces q_webs q_one q_two q_seed q_undone_ q_before_ q_undoMany q_far_ q_wayRow_ q_wayMany q_keptRow_ q_askedRow_ q_rares_ q_trial_ q_keptMany q_askedMany q_hangs_ q_paths_ q_tornSteps q_hasTorn q_turnOne q_hasTurn q_text_ q_textMany q_toldMany q_toldAt_ q_hasTold q_stack_ q_codes q_ones q_top q_deep q_isWhole q_truths_ q_imaged_ q_namesKept_ q_areKept_), (q_s_, aC1 cy 383 q_s), (q_hangs_, aC1 cy 36 g_2), (q_paths_, aC1 cy 36 g_12)] → va_S A s.heap H locs → lv_has ls 5 [(0, .ref q), (1, .int x_11)] → W p l e (Rm 3 71 0 0) s m args below meth c H locs cells slots Q (F0 m 60 ls []) := by
          intro n_13
          induction n_13 with
          | zero =>
            intro x_11 g_12 H locs ls hm_16 hf_14 hf_15 hP hD hS hl
            exact absurd hm_16 (by omega)
          | succ n_13 ih_17 =>
            intro x_11 g_12 H locs ls hm_16 hf_14 hf_15 hP hD hS hl
            refine lv_iload_n hx hb dX11_laysPaths_60 rfl (lv_at hl 1 rfl) ?_
            refine lv_if_eq (tgt := 167) hx hb dX11_laysPaths_61 (by decide) (fun c_19 => ?_) (fun c_19 => ?_)
            · have hc_19 := o_eq (rfl : x_11.toInt = x_11.toInt) (by decide : (0 : Int32).toInt = 0) c_19
              refine o_wq hQ ?_
              exact q_vret (rm := (Rm 3 71 0 0)) C hS (g_2, g_12) trivial (q_subP hP [0, 1, 2, 3] rfl) (hD.sub [0, 1, 2, 3] (by decide) rfl) hroom.1 hroom.2 dX11_laysPaths_167
            · have hc_19 := o_ne (rfl : x_11.toInt = x_11.toInt) (by decide : (0 : Int32).toInt = 0) c_19
              have hnc_19 : 0 ≤ x_11.toInt + (-1) := by rcases Int.lt_or_gt_of_ne hc_19 with h9 | h9 <;> omega
              refine lv_iconst (v := 0) hx hb dX11_laysPaths_64 (by decide) ?_
              refine lv_istore_n (lv' := [(1, .int 0), (0, .ref q)]) hx hb dX11_laysPaths_65 rfl hl (by decide) rfl (fun ls hl => ?_)
              refine lv_iconst (v := 0) hx hb dX11_laysPaths_66 (by decide) ?_
              refine lv_istore_n (lv' := [(2, .int 0), (1, .int 0), (0, .ref q)]) hx hb dX11_laysPaths_67 rfl hl (by decide) rfl (fun ls hl => ?_)
              have lp_68_22 : ∀ (n_23 : Nat) (x_20 : Int32) (x_21 : Int32) (g_22 : Nat → Int32) (H : Heap) (locs : List Loc) (ls : Array Slot), (-1) * x_21.toInt + 6 < (n_23 : Int) → (0 ≤ x_20.toInt ∧ x_20.toInt ≤ 1) → (0 ≤ x_21.toInt ∧ x_21.toInt ≤ 6) → (0 ≤ (psum g_22 : Int) + 77309411328) → (0 ≤ (n_13 : Int) + (-2) * (psum g_22 : Int) + (-1) * x_20.toInt + (-154618822657)) → (0 ≤ (n_13 : Int) + (-2) * (psum g_22 : Int) + (-1) * x_20.toInt + (-154618822656)) → va_P D vwCl [(q, oC11 q_thrown q_tape_ q_length q_size q_p q_limit q_s_ q_h_ q_read_ q_names_ q_reserved_ q_token q_at q_span q_number q_fault q_faultAt q_word q_got q_lines q_onces q_webs q_one q_two q_seed q_undone_ q_before_ q_undoMany q_far_ q_wayRow_ q_wayMany q_keptRow_ q_askedRow_ q_rares_ q_trial_ q_keptMany q_askedMany q_hangs_ q_paths_ q_tornSteps q_hasTorn q_turnOne q_hasTurn q_text_ q_textMany q_toldMany q_toldAt_ q_hasTold q_stack_ q_codes q_ones q_top q_deep q_isWhole q_truths_ q_imaged_ q_namesKept_ q_areKept_), (q_s_, aC1 cy 383 q_s), (q_hangs_, aC1 cy 36 g_2), (q_paths_, aC1 cy 36 g_22)] H → va_D A [(q, oC11 q_thrown q_tape_ q_length q_size q_p q_limit q_s_ q_h_ q_read_ q_names_ q_reserved_ q_token q_at q_span q_number q_fault q_faultAt q_word q_got q_lines q_onces q_webs q_one q_two q_seed q_undone_ q_before_ q_undoMany q_far_ q_wayRow_ q_wayMany q_keptRow_ q_askedRow_ q_rares_ q_trial_ q_keptMany q_askedMany q_hangs_ q_paths_ q_tornSteps q_hasTorn q_turnOne q_hasTurn q_text_ q_textMany q_toldMany q_toldAt_ q_hasTold q_stack_ q_codes q_ones q_top q_deep q_isWhole q_truths_ q_imaged_ q_namesKept_ q_areKept_), (q_s_, aC1 cy 383 q_s), (q_hangs_, aC1 cy 36 g_2), (q_paths_, aC1 cy 36 g_22)] → va_S A s.heap H locs → lv_has ls 5 [(0, .ref q), (1, .int x_20), (2, .int x_21)] → W p l e (Rm 3 71 0 0) s m args below meth c H locs cells slots Q (F0 m 68 ls []) := by
                intro n_23
                induction n_23 with
                | zero =>
                  intro x_20 x_21 g_22 H locs ls hm_29 hf_24 hf_25 hf_26 hf_27 hf_28 hP hD hS hl
                  exact absurd hm_29 (by omega)
                | succ n_23 ih_30 =>
                  intro x_20 x_21 g_22 H locs ls hm_29 hf_24 hf_25 hf_26 hf_27 hf_28 hP hD hS hl
                  refine lv_iload_n hx hb dX11_laysPaths_68 rfl (lv_at hl 2 rfl) ?_
                  refine lv_aload_n hx hb dX11_laysPaths_69 rfl (lv_at hl 0 rfl) ?_
                  refine q_get11 (v := .ref q_s_) C hP 0 6 rfl fT_6 (by decide) kF_RX11_33 rfl dX11_laysPaths_70 ?_
                  refine lv_iconst (v := 2) hx hb dX11_laysPaths_73 (by decide) ?_
                  refine q_iald (v := q_s 2) C hP 1 rfl (vin (by decide +kernel)) rfl dX11_laysPaths_74 ?_
                  refine lv_topi (fun z_32 ez_32 => ?_)
                  have hz_32 : 0 ≤ z_32.toInt ∧ z_32.toInt ≤ 6 := (by rw [ez_32]; exact hR1 2 (by decide) (by decide))
                  refine lv_icmp_ge (tgt := 164) hx hb dX11_laysPaths_75 (by decide) (fun c_33 => ?_) (fun c_33 => ?_)
                  · have hc_33 := o_le (rfl : z_32.toInt = z_32.toInt) (rfl : x_21.toInt = x_21.toInt) c_33
                    refine lv_goto (tgt := 60) hx hb dX11_laysPaths_164 (by decide) ?_
                    exact ih_17 x_20 g_22 H locs ls (by omega) (by omega) (by omega) hP hD hS (lv_sub hl [0, 1] rfl)
                  · have hc_33 := o_nle (rfl : z_32.toInt = z_32.toInt) (rfl : x_21.toInt = x_21.toInt) c_33
                    refine lv_iconst (v := 0) hx hb dX11_laysPaths_78 (by decide) ?_
                    refine lv_istore_n (lv' := [(3, .int 0), (0, .ref q), (1, .int x_20), (2, .int x_21)]) hx hb dX11_laysPaths_79 rfl hl (by decide) rfl (fun ls hl => ?_)
                    have lp_80_36 : ∀ (n_37 : Nat) (x_34 : Int32) (x_35 : Int32) (g_36 : Nat → Int32) (H : Heap) (locs : List Loc) (ls : Array Slot), (-1) * x_35.toInt + 6 < (n_37 : Int) → (0 ≤ x_34.toInt ∧ x_34.toInt ≤ 1) → (0 ≤ x_35.toInt ∧ x_35.toInt ≤ 6) → (0 ≤ (psum g_36 : Int) + 77309411328) → (0 ≤ (n_13 : Int) + (-2) * (psum g_36 : Int) + (-1) * x_34.toInt + (-154618822657)) → (0 ≤ (n_13 : Int) + (-2) * (psum g_36 : Int) + (-1) * x_34.toInt + (-154618822656)) → va_P D vwCl [(q, oC11 q_thrown q_tape_ q_length q_size q_p q_limit q_s_ q_h_ q_read_ q_names_ q_reserved_ q_token q_at q_span q_number q_fault q_faultAt q_word q_got q_lines q_onces q_webs q_one q_two q_seed q_undone_ q_before_ q_undoMany q_far_ q_wayRow_ q_wayMany q_keptRow_ q_askedRow_ q_rares_ q_trial_ q_keptMany q_askedMany q_hangs_ q_paths_ q_tornSteps q_hasTorn q_turnOne q_hasTurn q_text_ q_textMany q_toldMany q_toldAt_ q_hasTold q_stack_ q_codes q_ones q_top q_deep q_isWhole q_truths_ q_imaged_ q_namesKept_ q_areKept_), (q_s_, aC1 cy 383 q_s), (q_hangs_, aC1 cy 36 g_2), (q_paths_, aC1 cy 36 g_36)] H → va_D A [(q, oC11 q_thrown q_tape_ q_length q_size q_p q_limit q_s_ q_h_ q_read_ q_names_ q_reserved_ q_token q_at q_span q_number q_fault q_faultAt q_word q_got q_lines q_onces q_webs q_one q_two q_seed q_undone_ q_before_ q_undoMany q_far_ q_wayRow_ q_wayMany q_keptRow_ q_askedRow_ q_rares_ q_trial_ q_keptMany q_askedMany q_hangs_ q_paths_ q_tornSteps q_hasTorn q_turnOne q_hasTurn q_text_ q_textMany q_toldMany q_toldAt_ q_hasTold q_stack_ q_codes q_ones q_top q_deep q_isWhole q_truths_ q_imaged_ q_namesKept_ q_areKept_), (q_s_, aC1 cy 383 q_s), (q_hangs_, aC1 cy 36 g_2), (q_paths_, aC1 cy 36 g_36)] → va_S A s.heap H locs → lv_has ls 5 [(0, .ref q), (1, .int x_34), (2, .int x_21), (3, .int x_35)] → W p l e (Rm 3 71 0 0) s m args below meth c H locs cells slots Q (F0 m 80 ls []) := by
                      intro n_37
                      induction n_37 with
                      | zero =>
                        intro x_34 x_35 g_36 H locs ls hm_43 hf_38 hf_39 hf_40 hf_41 hf_42 hP hD hS hl
                        exact absurd hm_43 (by omega)
                      | succ n_37 ih_44 =>
                        intro x_34 x_35 g_36 H locs ls hm_43 hf_38 hf_39 hf_40 hf_41 hf_42 hP hD hS hl
                        refine lv_iload_n hx hb dX11_laysPaths_80 rfl (lv_at hl 3 rfl) ?_
                        refine lv_aload_n hx hb dX11_laysPaths_81 rfl (lv_at hl 0 rfl) ?_
                        refine q_get11 (v := .ref q_s_) C hP 0 6 rfl fT_6 (by decide) kF_RX11_33 rfl dX11_laysPaths_82 ?_
                        refine lv_iconst (v := 1) hx hb dX11_laysPaths_85 (by decide) ?_
                        refine q_iald (v := q_s 1) C hP 1 rfl (vin (by decide +kernel)) rfl dX11_laysPaths_86 ?_
                        refine lv_topi (fun z_46 ez_46 => ?_)
                        have hz_46 : 0 ≤ z_46.toInt ∧ z_46.toInt ≤ 6 := (by rw [ez_46]; exact hR1 1 (by decide) (by decide))
                        refine lv_icmp_ge (tgt := 158) hx hb dX11_laysPaths_87 (by decide) (fun c_47 => ?_) (fun c_47 => ?_)
                        · have hc_47 := o_le (rfl : z_46.toInt = z_46.toInt) (rfl : x_35.toInt = x_35.toInt) c_47
                          obtain ⟨z_48, hz_48⟩ : ∃ z : Int32, z = x_21 + 1 := ⟨_, rfl⟩
                          refine lv_iinc (v := z_48) (lv' := [(2, .int z_48), (0, .ref q), (1, .int x_34), (3, .int x_35)]) hx hb dX11_laysPaths_158 hl (k := 2) rfl hz_48.symm (by decide) rfl (fun ls hl => ?_)
                          have hz_48 := o_add hz_48 (rfl : x_21.toInt = x_21.toInt) (by decide : (1 : Int32).toInt = 1) (by omega) (by omega)
                          refine lv_goto (tgt := 68) hx hb dX11_laysPaths_161 (by decide) ?_
                          exact ih_30 x_34 z_48 g_36 H locs ls (by omega) (by omega) (by omega) (by omega) (by omega) (by omega) hP hD hS (lv_sub hl [1, 2, 0] rfl)
                        · have hc_47 := o_nle (rfl : z_46.toInt = z_46.toInt) (rfl : x_35.toInt = x_35.toInt) c_47
                          refine lv_bipush (v := 6) hx hb dX11_laysPaths_90 (by decide) ?_
                          refine lv_iload_n hx hb dX11_laysPaths_92 rfl (lv_at hl 2 rfl) ?_
                          refine lv_imul hx hb dX11_laysPaths_93 ?_
                          refine lv_topi (fun z_49 hz_49 => ?_)
                          have hz_49 := o_mul hz_49 (by decide : (6 : Int32).toInt = 6) (rfl : x_21.toInt = x_21.toInt) (by omega) (by omega)
                          refine lv_iload_n hx hb dX11_laysPaths_94 rfl (lv_at hl 3 rfl) ?_
                          refine lv_iadd hx hb dX11_laysPaths_95 ?_
                          refine lv_topi (fun z_50 hz_50 => ?_)
                          have hz_50 := o_add hz_50 (rfl : z_49.toInt = z_49.toInt) (rfl : x_35.toInt = x_35.toInt) (by omega) (by omega)
                          refine lv_istore (lv' := [(4, .int z_50), (0, .ref q), (1, .int x_34), (2, .int x_21), (3, .int x_35)]) hx hb dX11_laysPaths_96 hl (by decide) rfl (fun ls hl => ?_)
                          refine lv_aload_n hx hb dX11_laysPaths_98 rfl (lv_at hl 1 rfl) ?_
                          refine lv_iload hx hb dX11_laysPaths_99 (lv_at hl 0 rfl) ?_
                          refine lv_iload_n hx hb dX11_laysPaths_101 rfl (lv_at hl 4 rfl) ?_
                          refine lv_iconst (v := 1) hx hb dX11_laysPaths_102 (by decide) ?_
                          refine lv_isub hx hb dX11_laysPaths_103 ?_
                          refine lv_topi (fun z_51 hz_51 => ?_)
                          have hz_51 := o_sub hz_51 (rfl : x_35.toInt = x_35.toInt) (by decide : (1 : Int32).toInt = 1) (by omega) (by omega)
                          refine lv_iload_n hx hb dX11_laysPaths_104 rfl (lv_at hl 3 rfl) ?_
                          refine q_ai (wr := []) (r_V (rm := (Rm 2 44 0 0)) (q0 := 0) (As := [.int z_50, .int z_51, .int x_21]) (rest := []) (wc := [(q, oC11 q_thrown q_tape_ q_length q_size q_p q_limit q_s_ q_h_ q_read_ q_names_ q_reserved_ q_token q_at q_span q_number q_fault q_faultAt q_word q_got q_lines q_onces q_webs q_one q_two q_seed q_undone_ q_before_ q_undoMany q_far_ q_wayRow_ q_wayMany q_keptRow_ q_askedRow_ q_rares_ q_trial_ q_keptMany q_askedMany q_hangs_ q_paths_ q_tornSteps q_hasTorn q_turnOne q_hasTurn q_text_ q_textMany q_toldMany q_toldAt_ q_hasTold q_stack_ q_codes q_ones q_top q_deep q_isWhole q_truths_ q_imaged_ q_namesKept_ q_areKept_), (q_s_, aC1 cy 383 q_s), (q_hangs_, aC1 cy 36 g_2), (q_paths_, aC1 cy 36 g_36)]) C hS (q_subP hP [0, 1, 2, 3] rfl) (hD.sub [0, 1, 2, 3] (by decide) rfl) (y_isShorter l D cy q z_50 z_51 x_21 q_thrown q_tape_ q_length q_size q_p q_limit q_s_ q_h_ q_read_ q_names_ q_reserved_ q_token q_at q_span q_number q_fault q_faultAt q_word q_got q_lines q_onces q_webs q_one q_two q_seed q_undone_ q_before_ q_undoMany q_far_ q_wayRow_ q_wayMany q_keptRow_ q_askedRow_ q_rares_ q_trial_ q_keptMany q_askedMany q_hangs_ q_paths_ q_tornSteps q_hasTorn q_turnOne q_hasTurn q_text_ q_textMany q_toldMany q_toldAt_ q_hasTold q_stack_ q_codes q_ones q_top q_deep q_isWhole q_truths_ q_imaged_ q_namesKept_ q_areKept_ q_s g_2 g_36 _ (by omega) (by omega) (by omega) (by omega) (by omega) (by omega) (by omega) (by omega) (by omega) (by omega) (by omega) (by omega) (by omega) (by omega) (by omega) (by omega) (by omega) (by omega) (by omega) (by omega) (by omega) (by omega) (by omega) hR0 hR1 hR2 hR3 hR4 hR5 hR6 hR7 hR8) kwV_X11_isShorter kM_RX11_406 rfl rfl ⟨Nat.le_of_ble_eq_true rfl, Nat.le_of_ble_eq_true rfl⟩ rfl hl.1 rfl (Nat.le_of_ble_eq_true rfl) dX11_laysPaths_105 ⟨hroom.1, hroom.2⟩) C.2.2.2.2.2.2.1 hP hD hS [0, 1, 2, 3] [] rfl rfl (by decide) (by decide) (fun r_53 u_52 H locs hw_54 hP hD hS => ?_)
                          obtain ⟨g_55, rfl⟩ : ∃ z, z = u_52 := ⟨_, rfl⟩
                          have hP : va_P D vwCl [(q, oC11 q_thrown q_tape_ q_length q_size q_p q_limit q_s_ q_h_ q_read_ q_names_ q_reserved_ q_token q_at q_span q_number q_fault q_faultAt q_word q_got q_lines q_onces q_webs q_one q_two q_seed q_undone_ q_before_ q_undoMany q_far_ q_wayRow_ q_wayMany q_keptRow_ q_askedRow_ q_rares_ q_trial_ q_keptMany q_askedMany q_hangs_ q_paths_ q_tornSteps q_hasTorn q_turnOne q_hasTurn q_text_ q_textMany q_toldMany q_toldAt_ q_hasTold q_stack_ q_codes q_ones q_top q_deep q_isWhole q_truths_ q_imaged_ q_namesKept_ q_areKept_), (q_s_, aC1 cy 383 q_s), (q_hangs_, aC1 cy 36 g_2), (q_paths_, aC1 cy 36 g_55)] H := hP
                          have hD : va_D A [(q, oC11 q_thrown q_tape_ q_length q_size q_p q_limit q_s_ q_h_ q_read_ q_names_ q_reserved_ q_token q_at q_span q_number q_fault q_faultAt q_word q_got q_lines q_onces q_webs q_one q_two q_seed q_undone_ q_before_ q_undoMany q_far_ q_wayRow_ q_wayMany q_keptRow_ q_askedRow_ q_rares_ q_trial_ q_keptMany q_askedMany q_hangs_ q_paths_ q_tornSteps q_hasTorn q_turnOne q_hasTurn q_text_ q_textMany q_toldMany q_toldAt_ q_hasTold q_stack_ q_codes q_ones q_top q_deep q_isWhole q_truths_ q_imaged_ q_namesKept_ q_areKept_), (q_s_, aC1 cy 383 q_s), (q_hangs_, aC1 cy 36 g_2), (q_paths_, aC1 cy 36 g_55)] := hD
                          have hp_55 : 0 ≤ r_53.toInt ∧ r_53.toInt ≤ 1 := hw_54.1
                          have hp_56 : 0 ≤ (psum g_36 : Int) + (-1) * (psum g_55 : Int) + (-1) * r_53.toInt ∧ 0 ≤ (psum g_55 : Int) + 77309411328 := hw_54.2
                          clear hw_54
                          refine lv_if_ne (tgt := 150) hx hb dX11_laysPaths_108 (by decide) (fun c_58 => ?_) (fun c_58 => ?_)
                          · have hc_58 := o_ne (rfl : r_53.toInt = r_53.toInt) (by decide : (0 : Int32).toInt = 0) c_58
                            have hnc_58 : 0 ≤ r_53.toInt + (-1) := by rcases Int.lt_or_gt_of_ne hc_58 with h9 | h9 <;> omega
                            refine lv_iconst (v := 1) hx hb dX11_laysPaths_150 (by decide) ?_
                            refine lv_istore_n (lv' := [(1, .int 1), (4, .int z_50), (0, .ref q), (2, .int x_21), (3, .int x_35)]) hx hb dX11_laysPaths_151 rfl hl (by decide) rfl (fun ls hl => ?_)
                            obtain ⟨z_59, hz_59⟩ : ∃ z : Int32, z = x_35 + 1 := ⟨_, rfl⟩
                            refine lv_iinc (v := z_59) (lv' := [(3, .int z_59), (1, .int 1), (4, .int z_50), (0, .ref q), (2, .int x_21)]) hx hb dX11_laysPaths_152 hl (k := 4) rfl hz_59.symm (by decide) rfl (fun ls hl => ?_)
                            have hz_59 := o_add hz_59 (rfl : x_35.toInt = x_35.toInt) (by decide : (1 : Int32).toInt = 1) (by omega) (by omega)
                            refine lv_goto (tgt := 80) hx hb dX11_laysPaths_155 (by decide) ?_
                            exact ih_44 (1 : Int32) z_59 g_55 H locs ls (by have e0 : (1 : Int32).toInt = 1 := (by decide); omega) (by have e0 : (1 : Int32).toInt = 1 := (by decide); omega) (by have e0 : (1 : Int32).toInt = 1 := (by decide); omega) (by have e0 : (1 : Int32).toInt = 1 := (by decide); omega) (by have e0 : (1 : Int32).toInt = 1 := (by decide); omega) (by have e0 : (1 : Int32).toInt = 1 := (by decide); omega) hP hD hS (lv_sub hl [3, 1, 4, 0] rfl)
                          · have hc_58 := o_eq (rfl : r_53.toInt = r_53.toInt) (by decide : (0 : Int32).toInt = 0) c_58
                            refine lv_aload_n hx hb dX11_laysPaths_111 rfl (lv_at hl 1 rfl) ?_
                            refine lv_iload hx hb dX11_laysPaths_112 (lv_at hl 0 rfl) ?_
                            refine lv_iload_n hx hb dX11_laysPaths_114 rfl (lv_at hl 4 rfl) ?_
                            refine lv_iconst (v := 1) hx hb dX11_laysPaths_115 (by decide) ?_
                            refine lv_iadd hx hb dX11_laysPaths_116 ?_
                            refine lv_topi (fun z_60 hz_60 => ?_)
                            have hz_60 := o_add hz_60 (rfl : x_35.toInt = x_35.toInt) (by decide : (1 : Int32).toInt = 1) (by omega) (by omega)
                            refine lv_iload_n hx hb dX11_laysPaths_117 rfl (lv_at hl 3 rfl) ?_
                            refine q_ai (wr := []) (r_V (rm := (Rm 2 44 0 0)) (q0 := 0) (As := [.int z_50, .int z_60, .int x_21]) (rest := []) (wc := [(q, oC11 q_thrown q_tape_ q_length q_size q_p q_limit q_s_ q_h_ q_read_ q_names_ q_reserved_ q_token q_at q_span q_number q_fault q_faultAt q_word q_got q_lines q_onces q_webs q_one q_two q_seed q_undone_ q_before_ q_undoMany q_far_ q_wayRow_ q_wayMany q_keptRow_ q_askedRow_ q_rares_ q_trial_ q_keptMany q_askedMany q_hangs_ q_paths_ q_tornSteps q_hasTorn q_turnOne q_hasTurn q_text_ q_textMany q_toldMany q_toldAt_ q_hasTold q_stack_ q_codes q_ones q_top q_deep q_isWhole q_truths_ q_imaged_ q_namesKept_ q_areKept_), (q_s_, aC1 cy 383 q_s), (q_hangs_, aC1 cy 36 g_2), (q_paths_, aC1 cy 36 g_55)]) C hS (q_subP hP [0, 1, 2, 3] rfl) (hD.sub [0, 1, 2, 3] (by decide) rfl) (y_isShorter l D cy q z_50 z_60 x_21 q_thrown q_tape_ q_length q_size q_p q_limit q_s_ q_h_ q_read_ q_names_ q_reserved_ q_token q_at q_span q_number q_fault q_faultAt q_word q_got q_lines q_onces q_webs q_one q_two q_seed q_undone_ q_before_ q_undoMany q_far_ q_wayRow_ q_wayMany q_keptRow_ q_askedRow_ q_rares_ q_trial_ q_keptMany q_askedMany q_hangs_ q_paths_ q_tornSteps q_hasTorn q_turnOne q_hasTurn q_text_ q_textMany q_toldMany q_toldAt_ q_hasTold q_stack_ q_codes q_ones q_top q_deep q_isWhole q_truths_ q_imaged_ q_namesKept_ q_areKept_ q_s g_2 g_55 _ (by omega) (by omega) (by omega) (by omega) (by omega) (by omega) (by omega) (by omega) (by omega) (by omega) (by omega) (by omega) (by omega) (by omega) (by omega) (by omega) (by omega) (by omega) (by omega) (by omega) (by omega) (by omega) (by omega) hR0 hR1 hR2 hR3 hR4 hR5 hR6 hR7 hR8) kwV_X11_isShorter kM_RX11_406 rfl rfl ⟨Nat.le_of_ble_eq_true rfl, Nat.le_of_ble_eq_true rfl⟩ rfl hl.1 rfl (Nat.le_of_ble_eq_true rfl) dX11_laysPaths_118 ⟨hroom.1, hroom.2⟩) C.2.2.2.2.2.2.1 hP hD hS [0, 1, 2, 3] [] rfl rfl (by decide) (by decide) (fun r_62 u_61 H locs hw_63 hP hD hS => ?_)
                            obtain ⟨g_64, rfl⟩ : ∃ z, z = u_61 := ⟨_, rfl⟩
                            have hP : va_P D vwCl [(q, oC11 q_thrown q_tape_ q_length q_size q_p q_limit q_s_ q_h_ q_read_ q_names_ q_reserved_ q_token q_at q_span q_number q_fault q_faultAt q_word q_got q_lines q_onces q_webs q_one q_two q_seed q_undone_ q_before_ q_undoMany q_far_ q_wayRow_ q_wayMany q_keptRow_ q_askedRow_ q_rares_ q_trial_ q_keptMany q_askedMany q_hangs_ q_paths_ q_tornSteps q_hasTorn q_turnOne q_hasTurn q_text_ q_textMany q_toldMany q_toldAt_ q_hasTold q_stack_ q_codes q_ones q_top q_deep q_isWhole q_truths_ q_imaged_ q_namesKept_ q_areKept_), (q_s_, aC1 cy 383 q_s), (q_hangs_, aC1 cy 36 g_2), (q_paths_, aC1 cy 36 g_64)] H := hP
                            have hD : va_D A [(q, oC11 q_thrown q_tape_ q_length q_size q_p q_limit q_s_ q_h_ q_read_ q_names_ q_reserved_ q_token q_at q_span q_number q_fault q_faultAt q_word q_got q_lines q_onces q_webs q_one q_two q_seed q_undone_ q_before_ q_undoMany q_far_ q_wayRow_ q_wayMany q_keptRow_ q_askedRow_ q_rares_ q_trial_ q_keptMany q_askedMany q_hangs_ q_paths_ q_tornSteps q_hasTorn q_turnOne q_hasTurn q_text_ q_textMany q_toldMany q_toldAt_ q_hasTold q_stack_ q_codes q_ones q_top q_deep q_isWhole q_truths_ q_imaged_ q_namesKept_ q_areKept_), (q_s_, aC1 cy 383 q_s), (q_hangs_, aC1 cy 36 g_2), (q_paths_, aC1 cy 36 g_64)] := hD
                            have hp_64 : 0 ≤ r_62.toInt ∧ r_62.toInt ≤ 1 := hw_63.1
                            have hp_65 : 0 ≤ (psum g_55 : Int) + (-1) * (psum g_64 : Int) + (-1) * r_62.toInt ∧ 0 ≤ (psum g_64 : Int) + 77309411328 := hw_63.2
                            clear hw_63
                            refine lv_if_ne (tgt := 150) hx hb dX11_laysPaths_121 (by decide) (fun c_67 => ?_) (fun c_67 => ?_)
                            · have hc_67 := o_ne (rfl : r_62.toInt = r_62.toInt) (by decide : (0 : Int32).toInt = 0) c_67
                              have hnc_67 : 0 ≤ r_62.toInt + (-1) := by rcases Int.lt_or_gt_of_ne hc_67 with h9 | h9 <;> omega
                              refine lv_iconst (v := 1) hx hb dX11_laysPaths_150 (by decide) ?_
                              refine lv_istore_n (lv' := [(1, .int 1), (4, .int z_50), (0, .ref q), (2, .int x_21), (3, .int x_35)]) hx hb dX11_laysPaths_151 rfl hl (by decide) rfl (fun ls hl => ?_)
                              obtain ⟨z_68, hz_68⟩ : ∃ z : Int32, z = x_35 + 1 := ⟨_, rfl⟩
                              refine lv_iinc (v := z_68) (lv' := [(3, .int z_68), (1, .int 1), (4, .int z_50), (0, .ref q), (2, .int x_21)]) hx hb dX11_laysPaths_152 hl (k := 4) rfl hz_68.symm (by decide) rfl (fun ls hl => ?_)
                              have hz_68 := o_add hz_68 (rfl : x_35.toInt = x_35.toInt) (by decide : (1 : Int32).toInt = 1) (by omega) (by omega)
                              refine lv_goto (tgt := 80) hx hb dX11_laysPaths_155 (by decide) ?_
                              exact ih_44 (1 : Int32) z_68 g_64 H locs ls (by have e0 : (1 : Int32).toInt = 1 := (by decide); omega) (by have e0 : (1 : Int32).toInt = 1 := (by decide); omega) (by have e0 : (1 : Int32).toInt = 1 := (by decide); omega) (by have e0 : (1 : Int32).toInt = 1 := (by decide); omega) (by have e0 : (1 : Int32).toInt = 1 := (by decide); omega) (by have e0 : (1 : Int32).toInt = 1 := (by decide); omega) hP hD hS (lv_sub hl [3, 1, 4, 0] rfl)
                            · have hc_67 := o_eq (rfl : r_62.toInt = r_62.toInt) (by decide : (0 : Int32).toInt = 0) c_67
                              refine lv_aload_n hx hb dX11_laysPaths_124 rfl (lv_at hl 1 rfl) ?_
                              refine lv_iload hx hb dX11_laysPaths_125 (lv_at hl 0 rfl) ?_
                              refine lv_iload_n hx hb dX11_laysPaths_127 rfl (lv_at hl 4 rfl) ?_
                              refine lv_iload_n hx hb dX11_laysPaths_128 rfl (lv_at hl 3 rfl) ?_
                              refine lv_iconst (v := 1) hx hb dX11_laysPaths_129 (by decide) ?_
                              refine lv_isub hx hb dX11_laysPaths_130 ?_
                              refine lv_topi (fun z_69 hz_69 => ?_)
                              have hz_69 := o_sub hz_69 (rfl : x_21.toInt = x_21.toInt) (by decide : (1 : Int32).toInt = 1) (by omega) (by omega)
                              refine q_ai (wr := []) (r_V (rm := (Rm 2 44 0 0)) (q0 := 0) (As := [.int z_50, .int x_35, .int z_69]) (rest := []) (wc := [(q, oC11 q_thrown q_tape_ q_length q_size q_p q_limit q_s_ q_h_ q_read_ q_names_ q_reserved_ q_token q_at q_span q_number q_fault q_faultAt q_word q_got q_lines q_onces q_webs q_one q_two q_seed q_undone_ q_before_ q_undoMany q_far_ q_wayRow_ q_wayMany q_keptRow_ q_askedRow_ q_rares_ q_trial_ q_keptMany q_askedMany q_hangs_ q_paths_ q_tornSteps q_hasTorn q_turnOne q_hasTurn q_text_ q_textMany q_toldMany q_toldAt_ q_hasTold q_stack_ q_codes q_ones q_top q_deep q_isWhole q_truths_ q_imaged_ q_namesKept_ q_areKept_), (q_s_, aC1 cy 383 q_s), (q_hangs_, aC1 cy 36 g_2), (q_paths_, aC1 cy 36 g_64)]) C hS (q_subP hP [0, 1, 2, 3] rfl) (hD.sub [0, 1, 2, 3] (by decide) rfl) (y_isShorter l D cy q z_50 x_35 z_69 q_thrown q_tape_ q_length q_size q_p q_limit q_s_ q_h_ q_read_ q_names_ q_reserved_ q_token q_at q_span q_number q_fault q_faultAt q_word q_got q_lines q_onces q_webs q_one q_two q_seed q_undone_ q_before_ q_undoMany q_far_ q_wayRow_ q_wayMany q_keptRow_ q_askedRow_ q_rares_ q_trial_ q_keptMany q_askedMany q_hangs_ q_paths_ q_tornSteps q_hasTorn q_turnOne q_hasTurn q_text_ q_textMany q_toldMany q_toldAt_ q_hasTold q_stack_ q_codes q_ones q_top q_deep q_isWhole q_truths_ q_imaged_ q_namesKept_ q_areKept_ q_s g_2 g_64 _ (by omega) (by omega) (by omega) (by omega) (by omega) (by omega) (by omega) (by omega) (by omega) (by omega) (by omega) (by omega) (by omega) (by omega) (by omega) (by omega) (by omega) (by omega) (by omega) (by omega) (by omega) (by omega) (by omega) hR0 hR1 hR2 hR3 hR4 hR5 hR6 hR7 hR8) kwV_X11_isShorter kM_RX11_406 rfl rfl ⟨Nat.le_of_ble_eq_true rfl, Nat.le_of_ble_eq_true rfl⟩ rfl hl.1 rfl (Nat.le_of_ble_eq_true rfl) dX11_laysPaths_131 ⟨hroom.1, hroom.2⟩) C.2.2.2.2.2.2.1 hP hD hS [0, 1, 2, 3] [] rfl rfl (by decide) (by decide) (fun r_71 u_70 H locs hw_72 hP hD hS => ?_)
                              obtain ⟨g_73, rfl⟩ : ∃ z, z = u_70 := ⟨_, rfl⟩
                              have hP : va_P D vwCl [(q, oC11 q_thrown q_tape_ q_length q_size q_p q_limit q_s_ q_h_ q_read_ q_names_ q_reserved_ q_token q_at q_span q_number q_fault q_faultAt q_word q_got q_lines q_onces q_webs q_one q_two q_seed q_undone_ q_before_ q_undoMany q_far_ q_wayRow_ q_wayMany q_keptRow_ q_askedRow_ q_rares_ q_trial_ q_keptMany q_askedMany q_hangs_ q_paths_ q_tornSteps q_hasTorn q_turnOne q_hasTurn q_text_ q_textMany q_toldMany q_toldAt_ q_hasTold q_stack_ q_codes q_ones q_top q_deep q_isWhole q_truths_ q_imaged_ q_namesKept_ q_areKept_), (q_s_, aC1 cy 383 q_s), (q_hangs_, aC1 cy 36 g_2), (q_paths_, aC1 cy 36 g_73)] H := hP
                              have hD : va_D A [(q, oC11 q_thrown q_tape_ q_length q_size q_p q_limit q_s_ q_h_ q_read_ q_names_ q_reserved_ q_token q_at q_span q_number q_fault q_faultAt q_word q_got q_lines q_onces q_webs q_one q_two q_seed q_undone_ q_before_ q_undoMany q_far_ q_wayRow_ q_wayMany q_keptRow_ q_askedRow_ q_rares_ q_trial_ q_keptMany q_askedMany q_hangs_ q_paths_ q_tornSteps q_hasTorn q_turnOne q_hasTurn q_text_ q_textMany q_toldMany q_toldAt_ q_hasTold q_stack_ q_codes q_ones q_top q_deep q_isWhole q_truths_ q_imaged_ q_namesKept_ q_areKept_), (q_s_, aC1 cy 383 q_s), (q_hangs_, aC1 cy 36 g_2), (q_paths_, aC1 cy 36 g_73)] := hD
                              have hp_73 : 0 ≤ r_71.toInt ∧ r_71.toInt ≤ 1 := hw_72.1
                              have hp_74 : 0 ≤ (psum g_64 : Int) + (-1) * (psum g_73 : Int) + (-1) * r_71.toInt ∧ 0 ≤ (psum g_73 : Int) + 77309411328 := hw_72.2
                              clear hw_72
                              refine lv_if_ne (tgt := 150) hx hb dX11_laysPaths_134 (by decide) (fun c_76 => ?_) (fun c_76 => ?_)
                              · have hc_76 := o_ne (rfl : r_71.toInt = r_71.toInt) (by decide : (0 : Int32).toInt = 0) c_76
                                have hnc_76 : 0 ≤ r_71.toInt + (-1) := by rcases Int.lt_or_gt_of_ne hc_76 with h9 | h9 <;> omega
                                refine lv_iconst (v := 1) hx hb dX11_laysPaths_150 (by decide) ?_
                                refine lv_istore_n (lv' := [(1, .int 1), (4, .int z_50), (0, .ref q), (2, .int x_21), (3, .int x_35)]) hx hb dX11_laysPaths_151 rfl hl (by decide) rfl (fun ls hl => ?_)
                                obtain ⟨z_77, hz_77⟩ : ∃ z : Int32, z = x_35 + 1 := ⟨_, rfl⟩
                                refine lv_iinc (v := z_77) (lv' := [(3, .int z_77), (1, .int 1), (4, .int z_50), (0, .ref q), (2, .int x_21)]) hx hb dX11_laysPaths_152 hl (k := 4) rfl hz_77.symm (by decide) rfl (fun ls hl => ?_)
                                have hz_77 := o_add hz_77 (rfl : x_35.toInt = x_35.toInt) (by decide : (1 : Int32).toInt = 1) (by omega) (by omega)
                                refine lv_goto (tgt := 80) hx hb dX11_laysPaths_155 (by decide) ?_
                                exact ih_44 (1 : Int32) z_77 g_73 H locs ls (by have e0 : (1 : Int32).toInt = 1 := (by decide); omega) (by have e0 : (1 : Int32).toInt = 1 := (by decide); omega) (by have e0 : (1 : Int32).toInt = 1 := (by decide); omega) (by have e0 : (1 : Int32).toInt = 1 := (by decide); omega) (by have e0 : (1 : Int32).toInt = 1 := (by decide); omega) (by have e0 : (1 : Int32).toInt = 1 := (by decide); omega) hP hD hS (lv_sub hl [3, 1, 4, 0] rfl)
                              · have hc_76 := o_eq (rfl : r_71.toInt = r_71.toInt) (by decide : (0 : Int32).toInt = 0) c_76
                                refine lv_aload_n hx hb dX11_laysPaths_137 rfl (lv_at hl 1 rfl) ?_
                                refine lv_iload hx hb dX11_laysPaths_138 (lv_at hl 0 rfl) ?_
                                refine lv_iload_n hx hb dX11_laysPaths_140 rfl (lv_at hl 4 rfl) ?_
                                refine lv_iload_n hx hb dX11_laysPaths_141 rfl (lv_at hl 3 rfl) ?_
                                refine lv_iconst (v := 1) hx hb dX11_laysPaths_142 (by decide) ?_
                                refine lv_iadd hx hb dX11_laysPaths_143 ?_
                                refine lv_topi (fun z_78 hz_78 => ?_)
                                have hz_78 := o_add hz_78 (rfl : x_21.toInt = x_21.toInt) (by decide : (1 : Int32).toInt = 1) (by omega) (by omega)
                                refine q_ai (wr := []) (r_V (rm := (Rm 2 44 0 0)) (q0 := 0) (As := [.int z_50, .int x_35, .int z_78]) (rest := []) (wc := [(q, oC11 q_thrown q_tape_ q_length q_size q_p q_limit q_s_ q_h_ q_read_ q_names_ q_reserved_ q_token q_at q_span q_number q_fault q_faultAt q_word q_got q_lines q_onces q_webs q_one q_two q_seed q_undone_ q_before_ q_undoMany q_far_ q_wayRow_ q_wayMany q_keptRow_ q_askedRow_ q_rares_ q_trial_ q_keptMany q_askedMany q_hangs_ q_paths_ q_tornSteps q_hasTorn q_turnOne q_hasTurn q_text_ q_textMany q_toldMany q_toldAt_ q_hasTold q_stack_ q_codes q_ones q_top q_deep q_isWhole q_truths_ q_imaged_ q_namesKept_ q_areKept_), (q_s_, aC1 cy 383 q_s), (q_hangs_, aC1 cy 36 g_2), (q_paths_, aC1 cy 36 g_73)]) C hS (q_subP hP [0, 1, 2, 3] rfl) (hD.sub [0, 1, 2, 3] (by decide) rfl) (y_isShorter l D cy q z_50 x_35 z_78 q_thrown q_tape_ q_length q_size q_p q_limit q_s_ q_h_ q_read_ q_names_ q_reserved_ q_token q_at q_span q_number q_fault q_faultAt q_word q_got q_lines q_onces q_webs q_one q_two q_seed q_undone_ q_before_ q_undoMany q_far_ q_wayRow_ q_wayMany q_keptRow_ q_askedRow_ q_rares_ q_trial_ q_keptMany q_askedMany q_hangs_ q_paths_ q_tornSteps q_hasTorn q_turnOne q_hasTurn q_text_ q_textMany q_toldMany q_toldAt_ q_hasTold q_stack_ q_codes q_ones q_top q_deep q_isWhole q_truths_ q_imaged_ q_namesKept_ q_areKept_ q_s g_2 g_73 _ (by omega) (by omega) (by omega) (by omega) (by omega) (by omega) (by omega) (by omega) (by omega) (by omega) (by omega) (by omega) (by omega) (by omega) (by omega) (by omega) (by omega) (by omega) (by omega) (by omega) (by omega) (by omega) (by omega) hR0 hR1 hR2 hR3 hR4 hR5 hR6 hR7 hR8) kwV_X11_isShorter kM_RX11_406 rfl rfl ⟨Nat.le_of_ble_eq_true rfl, Nat.le_of_ble_eq_true rfl⟩ rfl hl.1 rfl (Nat.le_of_ble_eq_true rfl) dX11_laysPaths_144 ⟨hroom.1, hroom.2⟩) C.2.2.2.2.2.2.1 hP hD hS [0, 1, 2, 3] [] rfl rfl (by decide) (by decide) (fun r_80 u_79 H locs hw_81 hP hD hS => ?_)
                                obtain ⟨g_82, rfl⟩ : ∃ z, z = u_79 := ⟨_, rfl⟩
                                have hP : va_P D vwCl [(q, oC11 q_thrown q_tape_ q_length q_size q_p q_limit q_s_ q_h_ q_read_ q_names_ q_reserved_ q_token q_at q_span q_number q_fault q_faultAt q_word q_got q_lines q_onces q_webs q_one q_two q_seed q_undone_ q_before_ q_undoMany q_far_ q_wayRow_ q_wayMany q_keptRow_ q_askedRow_ q_rares_ q_trial_ q_keptMany q_askedMany q_hangs_ q_paths_ q_tornSteps q_hasTorn q_turnOne q_hasTurn q_text_ q_textMany q_toldMany q_toldAt_ q_hasTold q_stack_ q_codes q_ones q_top q_deep q_isWhole q_truths_ q_imaged_ q_namesKept_ q_areKept_), (q_s_, aC1 cy 383 q_s), (q_hangs_, aC1 cy 36 g_2), (q_paths_, aC1 cy 36 g_82)] H := hP
                                have hD : va_D A [(q, oC11 q_thrown q_tape_ q_length q_size q_p q_limit q_s_ q_h_ q_read_ q_names_ q_reserved_ q_token q_at q_span q_number q_fault q_faultAt q_word q_got q_lines q_onces q_webs q_one q_two q_seed q_undone_ q_before_ q_undoMany q_far_ q_wayRow_ q_wayMany q_keptRow_ q_askedRow_ q_rares_ q_trial_ q_keptMany q_askedMany q_hangs_ q_paths_ q_tornSteps q_hasTorn q_turnOne q_hasTurn q_text_ q_textMany q_toldMany q_toldAt_ q_hasTold q_stack_ q_codes q_ones q_top q_deep q_isWhole q_truths_ q_imaged_ q_namesKept_ q_areKept_), (q_s_, aC1 cy 383 q_s), (q_hangs_, aC1 cy 36 g_2), (q_paths_, aC1 cy 36 g_82)] := hD
                                have hp_82 : 0 ≤ r_80.toInt ∧ r_80.toInt ≤ 1 := hw_81.1
                                have hp_83 : 0 ≤ (psum g_73 : Int) + (-1) * (psum g_82 : Int) + (-1) * r_80.toInt ∧ 0 ≤ (psum g_82 : Int) + 77309411328 := hw_81.2
                                clear hw_81
                                refine lv_if_eq (tgt := 152) hx hb dX11_laysPaths_147 (by decide) (fun c_85 => ?_) (fun c_85 => ?_)
                                · have hc_85 := o_eq (rfl : r_80.toInt = r_80.toInt) (by decide : (0 : Int32).toInt = 0) c_85
                                  obtain ⟨z_86, hz_86⟩ : ∃ z : Int32, z = x_35 + 1 := ⟨_, rfl⟩
                                  refine lv_iinc (v := z_86) (lv' := [(3, .int z_86), (4, .int z_50), (0, .ref q), (1, .int x_34), (2, .int x_21)]) hx hb dX11_laysPaths_152 hl (k := 4) rfl hz_86.symm (by decide) rfl (fun ls hl => ?_)
                                  have hz_86 := o_add hz_86 (rfl : x_35.toInt = x_35.toInt) (by decide : (1 : Int32).toInt = 1) (by omega) (by omega)
                                  refine lv_goto (tgt := 80) hx hb dX11_laysPaths_155 (by decide) ?_
                                  exact ih_44 x_34 z_86 g_82 H locs ls (by omega) (by omega) (by omega) (by omega) (by omega) (by omega) hP hD hS (lv_sub hl [2, 3, 4, 0] rfl)
                                · have hc_85 := o_ne (rfl : r_80.toInt = r_80.toInt) (by decide : (0 : Int32).toInt = 0) c_85
                                  have hnc_85 : 0 ≤ r_80.toInt + (-1) := by rcases Int.lt_or_gt_of_ne hc_85 with h9 | h9 <;> omega
                                  refine lv_iconst (v := 1) hx hb dX11_laysPaths_150 (by decide) ?_
                                  refine lv_istore_n (lv' := [(1, .int 1), (4, .int z_50), (0, .ref q), (2, .int x_21), (3, .int x_35)]) hx hb dX11_laysPaths_151 rfl hl (by decide) rfl (fun ls hl => ?_)
                                  obtain ⟨z_87, hz_87⟩ : ∃ z : Int32, z = x_35 + 1 := ⟨_, rfl⟩
                                  refine lv_iinc (v := z_87) (lv' := [(3, .int z_87), (1, .int 1), (4, .int z_50), (0, .ref q), (2, .int x_21)]) hx hb dX11_laysPaths_152 hl (k := 4) rfl hz_87.symm (by decide) rfl (fun ls hl => ?_)
                                  have hz_87 := o_add hz_87 (rfl : x_35.toInt = x_35.toInt) (by decide : (1 : Int32).toInt = 1) (by omega) (by omega)
                                  refine lv_goto (tgt := 80) hx hb dX11_laysPaths_155 (by decide) ?_
                                  exact ih_44 (1 : Int32) z_87 g_82 H locs ls (by have e0 : (1 : Int32).toInt = 1 := (by decide); omega) (by have e0 : (1 : Int32).toInt = 1 := (by decide); omega) (by have e0 : (1 : Int32).toInt = 1 := (by decide); omega) (by have e0 : (1 : Int32).toInt = 1 := (by decide); omega) (by have e0 : (1 : Int32).toInt = 1 := (by decide); omega) (by have e0 : (1 : Int32).toInt = 1 := (by decide); omega) hP hD hS (lv_sub hl [3, 1, 4, 0] rfl)
                    exact lp_80_36 7 x_20 (0 : Int32) g_22 H locs ls (by have e0 : (0 : Int32).toInt = 0 := (by decide); omega) (by have e0 : (0 : Int32).toInt = 0 := (by decide); omega) (by have e0 : (0 : Int32).toInt = 0 := (by decide); omega) (by have e0 : (0 : Int32).toInt = 0 := (by decide); omega) (by have e0 : (0 : Int32).toInt = 0 := (by decide); omega) (by have e0 : (0 : Int32).toInt = 0 := (by decide); omega) hP hD hS (lv_sub hl [1, 2, 3, 0] rfl)
              exact lp_68_22 7 (0 : Int32) (0 : Int32) g_12 H locs ls (by have e0 : (0 : Int32).toInt = 0 := (by decide); omega) (by have e0 : (0 : Int32).toInt = 0 := (by decide); omega) (by have e0 : (0 : Int32).toInt = 0 := (by decide); omega) (by have e0 : (0 : Int32).toInt = 0 := (by decide); omega) (by have e0 : (0 : Int32).toInt = 0 := (by decide); omega) (by have e0 : (0 : Int32).toInt = 0 := (by decide); omega) hP hD hS (lv_sub hl [2, 1, 0] rfl)
        exact lp_60_12 (((2) * (psum g_3 : Int) + 154618822657 : Int).toNat + 1) (1 : Int32) g_3 H locs ls (by have e0 : (1 : Int32).toInt = 1 := (by decide); omega) (by have e0 : (1 : Int32).toInt = 1 := (by decide); omega) (by have e0 : (1 : Int32).toInt = 1 := (by decide); omega) hP hD hS (lv_sub hl [1, 0] rfl)
      · have hc_9 := o_nle (by decide : (36 : Int32).toInt = 36) (rfl : x_1.toInt = x_1.toInt) c_9
        refine lv_aload_n hx hb dX11_laysPaths_8 rfl (lv_at hl 0 rfl) ?_
        refine q_get11 (v := .ref q_hangs_) C hP 0 37 rfl fT_37 (by decide) kF_RX11_83 rfl dX11_laysPaths_9 ?_
        refine lv_iload_n hx hb dX11_laysPaths_12 rfl (lv_at hl 1 rfl) ?_
        refine lv_aload_n hx hb dX11_laysPaths_13 rfl (lv_at hl 0 rfl) ?_
        refine lv_iload_n hx hb dX11_laysPaths_14 rfl (lv_at hl 1 rfl) ?_
        refine lv_bipush (v := 6) hx hb dX11_laysPaths_15 (by decide) ?_
        refine lv_irem hx hb dX11_laysPaths_17 (by decide) ?_
        refine lv_topi (fun z_88 hz_88 => ?_)
        have hz_88 := o_rem hz_88 (rfl : x_1.toInt = x_1.toInt) (by decide : (6 : Int32).toInt = 6) (by omega) (by omega)
        refine lv_iload_n hx hb dX11_laysPaths_18 rfl (lv_at hl 1 rfl) ?_
        refine lv_bipush (v := 6) hx hb dX11_laysPaths_19 (by decide) ?_
        refine lv_idiv hx hb dX11_laysPaths_21 (by decide) ?_
        refine lv_topi (fun z_89 hz_89 => ?_)
        have hz_89 := o_div hz_89 (rfl : x_1.toInt = x_1.toInt) (by decide : (6 : Int32).toInt = 6) (by omega) (by decide)
        refine q_ai (wr := [(q_hangs_, aC1 cy 36 g_2), (q_paths_, aC1 cy 36 g_3)]) (r_V (rm := (Rm 2 46 0 0)) (q0 := 0) (As := [.int z_88, .int z_89]) (rest := [.int x_1, .ref q_hangs_]) (wc := [(q, oC11 q_thrown q_tape_ q_length q_size q_p q_limit q_s_ q_h_ q_read_ q_names_ q_reserved_ q_token q_at q_span q_number q_fault q_faultAt q_word q_got q_lines q_onces q_webs q_one q_two q_seed q_undone_ q_before_ q_undoMany q_far_ q_wayRow_ q_wayMany q_keptRow_ q_askedRow_ q_rares_ q_trial_ q_keptMany q_askedMany q_hangs_ q_paths_ q_tornSteps q_hasTorn q_turnOne q_hasTurn q_text_ q_textMany q_toldMany q_toldAt_ q_hasTold q_stack_ q_codes q_ones q_top q_deep q_isWhole q_truths_ q_imaged_ q_namesKept_ q_areKept_), (q_s_, aC1 cy 383 q_s)]) C hS (q_subP hP [0, 1] rfl) (hD.sub [0, 1] (by decide) rfl) (y_hangsOver l D cy q z_88 z_89 q_thrown q_tape_ q_length q_size q_p q_limit q_s_ q_h_ q_read_ q_names_ q_reserved_ q_token q_at q_span q_number q_fault q_faultAt q_word q_got q_lines q_onces q_webs q_one q_two q_seed q_undone_ q_before_ q_undoMany q_far_ q_wayRow_ q_wayMany q_keptRow_ q_askedRow_ q_rares_ q_trial_ q_keptMany q_askedMany q_hangs_ q_paths_ q_tornSteps q_hasTorn q_turnOne q_hasTurn q_text_ q_textMany q_toldMany q_toldAt_ q_hasTold q_stack_ q_codes q_ones q_top q_deep q_isWhole q_truths_ q_imaged_ q_namesKept_ q_areKept_ q_s _ (by omega) (by omega) (by omega) (by omega) (by omega) (by omega) (by omega) (by omega) (by omega) (by omega) (by omega) (by omega) (by omega) (by omega) (by omega) (by omega) (by omega) (by omega) (by omega) (by omega) (by omega) (by omega) hR0 hR1 hR2 hR3 hR4 hR5 hR6 hR7 hR8) kwV_X11_hangsOver kM_RX11_403 rfl rfl ⟨Nat.le_of_ble_eq_true rfl, Nat.le_of_ble_eq_true rfl⟩ rfl hl.1 rfl (Nat.le_of_ble_eq_true rfl) dX11_laysPaths_22 ⟨hroom.1, hroom.2⟩) C.2.2.2.2.2.2.1 hP hD hS [0, 1] [2, 3] rfl rfl (by decide) (by decide) (fun r_91 u_90 H locs hw_92 hP hD hS => ?_)
        refine q_iast (g := upd g_2 x_1.toNatClampNeg r_91) (w' := [(q_hangs_, aC1 cy 36 (upd g_2 x_1.toNatClampNeg r_91)), (q_paths_, aC1 cy 36 g_3), (q, oC11 q_thrown q_tape_ q_length q_size q_p q_limit q_s_ q_h_ q_read_ q_names_ q_reserved_ q_token q_at q_span q_number q_fault q_faultAt q_word q_got q_lines q_onces q_webs q_one q_two q_seed q_undone_ q_before_ q_undoMany q_far_ q_wayRow_ q_wayMany q_keptRow_ q_askedRow_ q_rares_ q_trial_ q_keptMany q_askedMany q_hangs_ q_paths_ q_tornSteps q_hasTorn q_turnOne q_hasTurn q_text_ q_textMany q_toldMany q_toldAt_ q_hasTold q_stack_ q_codes q_ones q_top q_deep q_isWhole q_truths_ q_imaged_ q_namesKept_ q_areKept_), (q_s_, aC1 cy 383 q_s)]) C hP hD hS 0 rfl (o_in (rfl : x_1.toInt = x_1.toInt) (by omega) (by omega)) rfl rfl dX11_laysPaths_25 (fun H locs hP hD hS => ?_)
        generalize upd g_2 x_1.toNatClampNeg r_91 = g_93 at hP hD 
        have hP : va_P D vwCl [(q_hangs_, aC1 cy 36 g_93), (q_paths_, aC1 cy 36 g_3), (q, oC11 q_thrown q_tape_ q_length q_size q_p q_limit q_s_ q_h_ q_read_ q_names_ q_reserved_ q_token q_at q_span q_number q_fault q_faultAt q_word q_got q_lines q_onces q_webs q_one q_two q_seed q_undone_ q_before_ q_undoMany q_far_ q_wayRow_ q_wayMany q_keptRow_ q_askedRow_ q_rares_ q_trial_ q_keptMany q_askedMany q_hangs_ q_paths_ q_tornSteps q_hasTorn q_turnOne q_hasTurn q_text_ q_textMany q_toldMany q_toldAt_ q_hasTold q_stack_ q_codes q_ones q_top q_deep q_isWhole q_truths_ q_imaged_ q_namesKept_ q_areKept_), (q_s_, aC1 cy 383 q_s)] H := hP
        have hD : va_D A [(q_hangs_, aC1 cy 36 g_93), (q_paths_, aC1 cy 36 g_3), (q, oC11 q_thrown q_tape_ q_length q_size q_p q_limit q_s_ q_h_ q_read_ q_names_ q_reserved_ q_token q_at q_span q_number q_fault q_faultAt q_word q_got q_lines q_onces q_webs q_one q_two q_seed q_undone_ q_before_ q_undoMany q_far_ q_wayRow_ q_wayMany q_keptRow_ q_askedRow_ q_rares_ q_trial_ q_keptMany q_askedMany q_hangs_ q_paths_ q_tornSteps q_hasTorn q_turnOne q_hasTurn q_text_ q_textMany q_toldMany q_toldAt_ q_hasTold q_stack_ q_codes q_ones q_top q_deep q_isWhole q_truths_ q_imaged_ q_namesKept_ q_areKept_), (q_s_, aC1 cy 383 q_s)] := hD
        refine lv_aload_n hx hb dX11_laysPaths_26 rfl (lv_at hl 0 rfl) ?_
        refine q_get11 (v := .ref q_paths_) C hP 2 38 rfl fT_38 (by decide) kF_RX11_86 rfl dX11_laysPaths_27 ?_
        refine lv_iload_n hx hb dX11_laysPaths_30 rfl (lv_at hl 1 rfl) ?_
        refine lv_iload_n hx hb dX11_laysPaths_31 rfl (lv_at hl 1 rfl) ?_
        refine lv_if_ne (tgt := 48) hx hb dX11_laysPaths_32 (by decide) (fun c_94 => ?_) (fun c_94 => ?_)
        · have hc_94 := o_ne (rfl : x_1.toInt = x_1.toInt) (by decide : (0 : Int32).toInt = 0) c_94
          have hnc_94 : 0 ≤ x_1.toInt + (-1) := by rcases Int.lt_or_gt_of_ne hc_94 with h9 | h9 <;> omega
          refine q_ldc_w (v := 1000000000) C kC_RX11_366 dX11_laysPaths_48 ?_
          refine q_iast (g := upd g_3 x_1.toNatClampNeg 1000000000) (w' := [(q_hangs_, aC1 cy 36 g_93), (q_paths_, aC1 cy 36 (upd g_3 x_1.toNatClampNeg 1000000000)), (q, oC11 q_thrown q_tape_ q_length q_size q_p q_limit q_s_ q_h_ q_read_ q_names_ q_reserved_ q_token q_at q_span q_number q_fault q_faultAt q_word q_got q_lines q_onces q_webs q_one q_two q_seed q_undone_ q_before_ q_undoMany q_far_ q_wayRow_ q_wayMany q_keptRow_ q_askedRow_ q_rares_ q_trial_ q_keptMany q_askedMany q_hangs_ q_paths_ q_tornSteps q_hasTorn q_turnOne q_hasTurn q_text_ q_textMany q_toldMany q_toldAt_ q_hasTold q_stack_ q_codes q_ones q_top q_deep q_isWhole q_truths_ q_imaged_ q_namesKept_ q_areKept_), (q_s_, aC1 cy 383 q_s)]) C hP hD hS 1 rfl (o_in (rfl : x_1.toInt = x_1.toInt) (by omega) (by omega)) rfl rfl dX11_laysPaths_51 (fun H locs hP hD hS => ?_)
          generalize upd g_3 x_1.toNatClampNeg 1000000000 = g_95 at hP hD 
          have hP : va_P D vwCl [(q_hangs_, aC1 cy 36 g_93), (q_paths_, aC1 cy 36 g_95), (q, oC11 q_thrown q_tape_ q_length q_size q_p q_limit q_s_ q_h_ q_read_ q_names_ q_reserved_ q_token q_at q_span q_number q_fault q_faultAt q_word q_got q_lines q_onces q_webs q_one q_two q_seed q_undone_ q_before_ q_undoMany q_far_ q_wayRow_ q_wayMany q_keptRow_ q_askedRow_ q_rares_ q_trial_ q_keptMany q_askedMany q_hangs_ q_paths_ q_tornSteps q_hasTorn q_turnOne q_hasTurn q_text_ q_textMany q_toldMany q_toldAt_ q_hasTold q_stack_ q_codes q_ones q_top q_deep q_isWhole q_truths_ q_imaged_ q_namesKept_ q_areKept_), (q_s_, aC1 cy 383 q_s)] H := hP
          have hD : va_D A [(q_hangs_, aC1 cy 36 g_93), (q_paths_, aC1 cy 36 g_95), (q, oC11 q_thrown q_tape_ q_length q_size q_p q_limit q_s_ q_h_ q_read_ q_names_ q_reserved_ q_token q_at q_span q_number q_fault q_faultAt q_word q_got q_lines q_onces q_webs q_one q_two q_seed q_undone_ q_before_ q_undoMany q_far_ q_wayRow_ q_wayMany q_keptRow_ q_askedRow_ q_rares_ q_trial_ q_keptMany q_askedMany q_hangs_ q_paths_ q_tornSteps q_hasTorn q_turnOne q_hasTurn q_text_ q_textMany q_toldMany q_toldAt_ q_hasTold q_stack_ q_codes q_ones q_top q_deep q_isWhole q_truths_ q_imaged_ q_namesKept_ q_areKept_), (q_s_, aC1 cy 383 q_s)] := hD
          obtain ⟨z_96, hz_96⟩ : ∃ z : Int32, z = x_1 + 1 := ⟨_, rfl⟩
          refine lv_iinc (v := z_96) (lv' := [(1, .int z_96), (0, .ref q)]) hx hb dX11_laysPaths_52 hl (k := 1) rfl hz_96.symm (by decide) rfl (fun ls hl => ?_)
          have hz_96 := o_add hz_96 (rfl : x_1.toInt = x_1.toInt) (by decide : (1 : Int32).toInt = 1) (by omega) (by omega)
          refine lv_goto (tgt := 2) hx hb dX11_laysPaths_55 (by decide) ?_
          exact ih_7 z_96 g_93 g_95 H locs ls (by omega) (by omega) (q_subP hP [2, 3, 0, 1] rfl) (hD.sub [2, 3, 0, 1] (by decide) rfl) hS (lv_sub hl [1, 0] rfl)
        · have hc_94 := o_eq (rfl : x_1.toInt = x_1.toInt) (by decide : (0 : Int32).toInt = 0) c_94
          refine lv_sipush (v := 1000) hx hb dX11_laysPaths_35 (by decide) ?_
          refine lv_aload_n hx hb dX11_laysPaths_38 rfl (lv_at hl 0 rfl) ?_
          refine q_get11 (v := .ref q_hangs_) C hP 2 37 rfl fT_37 (by decide) kF_RX11_83 rfl dX11_laysPaths_39 ?_
          refine lv_iload_n hx hb dX11_laysPaths_42 rfl (lv_at hl 1 rfl) ?_
          refine q_iald (v := g_93 x_1.toNatClampNeg) C hP 0 rfl (o_in (rfl : x_1.toInt = x_1.toInt) (by omega) (by omega)) rfl dX11_laysPaths_43 ?_
          refine lv_topi (fun z_97 ez_97 => ?_)
          refine lv_imul hx hb dX11_laysPaths_44 ?_
          refine lv_topi (fun z_98 hz_98 => ?_)
          clear hz_98
          refine lv_goto (tgt := 51) hx hb dX11_laysPaths_45 (by decide) ?_
          refine q_iast (g := upd g_3 x_1.toNatClampNeg z_98) (w' := [(q_hangs_, aC1 cy 36 g_93), (q_paths_, aC1 cy 36 (upd g_3 x_1.toNatClampNeg z_98)), (q, oC11 q_thrown q_tape_ q_length q_size q_p q_limit q_s_ q_h_ q_read_ q_names_ q_reserved_ q_token q_at q_span q_number q_fault q_faultAt q_word q_got q_lines q_onces q_webs q_one q_two q_seed q_undone_ q_before_ q_undoMany q_far_ q_wayRow_ q_wayMany q_keptRow_ q_askedRow_ q_rares_ q_trial_ q_keptMany q_askedMany q_hangs_ q_paths_ q_tornSteps q_hasTorn q_turnOne q_hasTurn q_text_ q_textMany q_toldMany q_toldAt_ q_hasTold q_stack_ q_codes q_ones q_top q_deep q_isWhole q_truths_ q_imaged_ q_namesKept_ q_areKept_), (q_s_, aC1 cy 383 q_s)]) C hP hD hS 1 rfl (o_in (rfl : x_1.toInt = x_1.toInt) (by omega) (by omega)) rfl rfl dX11_laysPaths_51 (fun H locs hP hD hS => ?_)
          generalize upd g_3 x_1.toNatClampNeg z_98 = g_99 at hP hD 
          have hP : va_P D vwCl [(q_hangs_, aC1 cy 36 g_93), (q_paths_, aC1 cy 36 g_99), (q, oC11 q_thrown q_tape_ q_length q_size q_p q_limit q_s_ q_h_ q_read_ q_names_ q_reserved_ q_token q_at q_span q_number q_fault q_faultAt q_word q_got q_lines q_onces q_webs q_one q_two q_seed q_undone_ q_before_ q_undoMany q_far_ q_wayRow_ q_wayMany q_keptRow_ q_askedRow_ q_rares_ q_trial_ q_keptMany q_askedMany q_hangs_ q_paths_ q_tornSteps q_hasTorn q_turnOne q_hasTurn q_text_ q_textMany q_toldMany q_toldAt_ q_hasTold q_stack_ q_codes q_ones q_top q_deep q_isWhole q_truths_ q_imaged_ q_namesKept_ q_areKept_), (q_s_, aC1 cy 383 q_s)] H := hP
          have hD : va_D A [(q_hangs_, aC1 cy 36 g_93), (q_paths_, aC1 cy 36 g_99), (q, oC11 q_thrown q_tape_ q_length q_size q_p q_limit q_s_ q_h_ q_read_ q_names_ q_reserved_ q_token q_at q_span q_number q_fault q_faultAt q_word q_got q_lines q_onces q_webs q_one q_two q_seed q_undone_ q_before_ q_undoMany q_far_ q_wayRow_ q_wayMany q_keptRow_ q_askedRow_ q_rares_ q_trial_ q_keptMany q_askedMany q_hangs_ q_paths_ q_tornSteps q_hasTorn q_turnOne q_hasTurn q_text_ q_textMany q_toldMany q_toldAt_ q_hasTold q_stack_ q_codes q_ones q_top q_deep q_isWhole q_truths_ q_imaged_ q_namesKept_ q_areKept_), (q_s_, aC1 cy 383 q_s)] := hD
          obtain ⟨z_100, hz_100⟩ : ∃ z : Int32, z = x_1 + 1 := ⟨_, rfl⟩
          refine lv_iinc (v := z_100) (lv' := [(1, .int z_100), (0, .ref q)]) hx hb dX11_laysPaths_52 hl (k := 1) rfl hz_100.symm (by decide) rfl (fun ls hl => ?_)
          have hz_100 := o_add hz_100 (rfl : x_1.toInt = x_1.toInt) (by decide : (1 : Int32).toInt = 1) (by omega) (by omega)
          refine lv_goto (tgt := 2) hx hb dX11_laysPaths_55 (by decide) ?_
          exact ih_7 z_100 g_93 g_99 H locs ls (by omega) (by omega) (q_subP hP [2, 3, 0, 1] rfl) (hD.sub [2, 3, 0, 1] (by decide) rfl) hS (lv_sub hl [1, 0] rfl)
  exact lp_2_3 37 (0 : Int32) q_hangs q_paths H locs ls (by have e0 : (0 : Int32).toInt = 0 := (by decide); omega) (by have e0 : (0 : Int32).toInt = 0 := (by decide); omega) hP hD hS (lv_sub hl [1, 0] rfl)
theorem y_laysPaths (l : Launch) (D : va_G) (cy : Nat → ClassId) (q : Nat) (q_thrown : Int32) (q_tape_ : Nat) (q_length : Int32) (q_size : Int32) (q_p : Int32) (q_limit : Int32) (q_s_ : Nat) (q_h_ : Nat) (q_read_ : Nat) (q_names_ : Nat) (q_reserved_ : Nat) (q_token : Int32) (q_at : Int32) (q_span : Int32) (q_number : Int32) (q_fault : Int32) (q_faultAt : Int32) (q_word : Int64) (q_got : Int32) (q_lines : Int32) (q_onces : Int32) (q_webs : Int32) (q_one : Int32) (q_two : Int32) (q_seed : Int32) (q_undone_ : Nat) (q_before_ : Nat) (q_undoMany : Int32) (q_far_ : Nat) (q_wayRow_ : Nat) (q_wayMany : Int32) (q_keptRow_ : Nat) (q_askedRow_ : Nat) (q_rares_ : Nat) (q_trial_ : Nat) (q_keptMany : Int32) (q_askedMany : Int32) (q_hangs_ : Nat) (q_paths_ : Nat) (q_tornSteps : Int32) (q_hasTorn : Int32) (q_turnOne : Int32) (q_hasTurn : Int32) (q_text_ : Nat) (q_textMany : Int32) (q_toldMany : Int32) (q_toldAt_ : Nat) (q_hasTold : Int32) (q_stack_ : Nat) (q_codes : Int32) (q_ones : Int32) (q_top : Int32) (q_deep : Int32) (q_isWhole : Int32) (q_truths_ : Nat) (q_imaged_ : Nat) (q_namesKept_ : Nat) (q_areKept_ : Nat) (q_s : Nat → Int32) (q_hangs : Nat → Int32) (q_paths : Nat → Int32) (sz : Nat) (hb0 : 0 ≤ q_length.toInt ∧ q_length.toInt ≤ 940) (hb1 : 0 ≤ q_size.toInt ∧ q_size.toInt ≤ 940) (hb2 : 0 ≤ q_p.toInt ∧ q_p.toInt ≤ 940) (hb3 : 0 ≤ q_limit.toInt ∧ q_limit.toInt ≤ 940) (hb4 : 0 ≤ q_span.toInt ∧ q_span.toInt ≤ 940) (hb5 : 0 ≤ q_number.toInt ∧ q_number.toInt ≤ 8214) (hb6 : (-1) ≤ q_got.toInt ∧ q_got.toInt ≤ 8214) (hb7 : 0 ≤ q_one.toInt ∧ q_one.toInt ≤ 7) (hb8 : 0 ≤ q_two.toInt ∧ q_two.toInt ≤ 7) (hb9 : 0 ≤ q_undoMany.toInt ∧ q_undoMany.toInt ≤ 8) (hb10 : (-1) ≤ q_wayMany.toInt ∧ q_wayMany.toInt ≤ 8) (hb11 : (-1) ≤ q_keptMany.toInt ∧ q_keptMany.toInt ≤ 8) (hb12 : (-1) ≤ q_askedMany.toInt ∧ q_askedMany.toInt ≤ 3) (hb13 : 0 ≤ q_hasTorn.toInt ∧ q_hasTorn.toInt ≤ 1) (hb14 : 0 ≤ q_hasTurn.toInt ∧ q_hasTurn.toInt ≤ 1) (hb15 : 0 ≤ q_textMany.toInt ∧ q_textMany.toInt ≤ 48) (hb16 : 0 ≤ q_toldMany.toInt ∧ q_toldMany.toInt ≤ 40) (hb17 : 0 ≤ q_hasTold.toInt ∧ q_hasTold.toInt ≤ 1) (hb18 : 0 ≤ q_codes.toInt ∧ q_codes.toInt ≤ 40) (hb19 : 0 ≤ q_ones.toInt ∧ q_ones.toInt ≤ 20) (hb20 : 0 ≤ q_top.toInt ∧ q_top.toInt ≤ 40) (hb21 : 0 ≤ q_isWhole.toInt ∧ q_isWhole.toInt ≤ 1) (hR0 : Rg q_s 0 1 0 8) (hR1 : Rg q_s 1 3 0 6) (hR2 : Rg q_s 3 4 1 50) (hR3 : Rg q_s 4 5 1 5) (hR4 : Rg q_s 103 104 0 255) (hR5 : Rg q_s 7 23 0 5) (hR6 : Rg q_s 106 122 0 5) (hR7 : Rg q_s 23 31 0 99) (hR8 : Rg q_s 122 130 0 99) : MV l yX11_laysPaths cX11_laysPaths 5 (Rm 3 71 0 0) D cy [.ref q] sz [(q, oC11 q_thrown q_tape_ q_length q_size q_p q_limit q_s_ q_h_ q_read_ q_names_ q_reserved_ q_token q_at q_span q_number q_fault q_faultAt q_word q_got q_lines q_onces q_webs q_one q_two q_seed q_undone_ q_before_ q_undoMany q_far_ q_wayRow_ q_wayMany q_keptRow_ q_askedRow_ q_rares_ q_trial_ q_keptMany q_askedMany q_hangs_ q_paths_ q_tornSteps q_hasTorn q_turnOne q_hasTurn q_text_ q_textMany q_toldMany q_toldAt_ q_hasTold q_stack_ q_codes q_ones q_top q_deep q_isWhole q_truths_ q_imaged_ q_namesKept_ q_areKept_), (q_s_, aC1 cy 383 q_s), (q_hangs_, aC1 cy 36 q_hangs), (q_paths_, aC1 cy 36 q_paths)] (fun u : (Nat → Int32) × (Nat → Int32) => True) (fun u : (Nat → Int32) × (Nat → Int32) => [(q, oC11 q_thrown q_tape_ q_length q_size q_p q_limit q_s_ q_h_ q_read_ q_names_ q_reserved_ q_token q_at q_span q_number q_fault q_faultAt q_word q_got q_lines q_onces q_webs q_one q_two q_seed q_undone_ q_before_ q_undoMany q_far_ q_wayRow_ q_wayMany q_keptRow_ q_askedRow_ q_rares_ q_trial_ q_keptMany q_askedMany q_hangs_ q_paths_ q_tornSteps q_hasTorn q_turnOne q_hasTurn q_text_ q_textMany q_toldMany q_toldAt_ q_hasTold q_stack_ q_codes q_ones q_top q_deep q_isWhole q_truths_ q_imaged_ q_namesKept_ q_areKept_), (q_s_, aC1 cy 383 q_s), (q_hangs_, aC1 cy 36 u.1), (q_paths_, aC1 cy 36 u.2)]) := by
  refine MV.enter (by decide) (Nat.le_of_ble_eq_true rfl) ?_
  intro p e s m below meth c ls A hsz hAe C hP hD hS hl
  exact b_y_laysPaths l D cy q q_thrown q_tape_ q_length q_size q_p q_limit q_s_ q_h_ q_read_ q_names_ q_reserved_ q_token q_at q_span q_number q_fault q_faultAt q_word q_got q_lines q_onces q_webs q_one q_two q_seed q_undone_ q_before_ q_undoMany q_far_ q_wayRow_ q_wayMany q_keptRow_ q_askedRow_ q_rares_ q_trial_ q_keptMany q_askedMany q_hangs_ q_paths_ q_tornSteps q_hasTorn q_turnOne q_hasTurn q_text_ q_textMany q_toldMany q_toldAt_ q_hasTold q_stack_ q_codes q_ones q_top q_deep q_isWhole q_truths_ q_imaged_ q_namesKept_ q_areKept_ q_s q_hangs q_paths hb0 hb1 hb2 hb3 hb4 hb5 hb6 hb7 hb8 hb9 hb10 hb11 hb12 hb13 hb14 hb15 hb16 hb17 hb18 hb19 hb20 hb21 hR0 hR1 hR2 hR3 hR4 hR5 hR6 hR7 hR8 ⟨Nat.le_of_ble_eq_true rfl, Nat.le_of_ble_eq_true rfl⟩ C rfl _ _ ls hP hD hS hl
set_option maxHeartbeats 4000000 in
set_option maxRecDepth 100000 in
theorem b_y_torn (l : Launch) (D : va_G) (cy : Nat → ClassId) (q : Nat) (a : Int32) (q_thrown : Int32) (q_tape_ : Nat) (q_length : Int32) (q_size : Int32) (q_p : Int32) (q_limit : Int32) (q_s_ : Nat) (q_h_ : Nat) (q_read_ : Nat) (q_names_ : Nat) (q_reserved_ : Nat) (q_token : Int32) (q_at : Int32) (q_span : Int32) (q_number : Int32) (q_fault : Int32) (q_faultAt : Int32) (q_word : Int64) (q_got : Int32) (q_lines : Int32) (q_onces : Int32) (q_webs : Int32) (q_one : Int32) (q_two : Int32) (q_seed : Int32) (q_undone_ : Nat) (q_before_ : Nat) (q_undoMany : Int32) (q_far_ : Nat) (q_wayRow_ : Nat) (q_wayMany : Int32) (q_keptRow_ : Nat) (q_askedRow_ : Nat) (q_rares_ : Nat) (q_trial_ : Nat) (q_keptMany : Int32) (q_askedMany : Int32) (q_hangs_ : Nat) (q_paths_ : Nat) (q_tornSteps : Int32) (q_hasTorn : Int32) (q_turnOne : Int32) (q_hasTurn : Int32) (q_text_ : Nat) (q_textMany : Int32) (q_toldMany : Int32) (q_toldAt_ : Nat) (q_hasTold : Int32) (q_stack_ : Nat) (q_codes : Int32) (q_ones : Int32) (q_top : Int32) (q_deep : Int32) (q_isWhole : Int32) (q_truths_ : Nat) (q_imaged_ : Nat) (q_namesKept_ : Nat) (q_areKept_ : Nat) (q_s : Nat → Int32) (q_hangs : Nat → Int32) (q_paths : Nat → Int32) (hb0 : 0 ≤ q_length.toInt ∧ q_length.toInt ≤ 940) (hb1 : 0 ≤ q_size.toInt ∧ q_size.toInt ≤ 940) (hb2 : 0 ≤ q_p.toInt ∧ q_p.toInt ≤ 940) (hb3 : 0 ≤ q_limit.toInt ∧ q_limit.toInt ≤ 940) (hb4 : 0 ≤ q_span.toInt ∧ q_span.toInt ≤ 940) (hb5 : 0 ≤ q_number.toInt ∧ q_number.toInt ≤ 8214) (hb6 : (-1) ≤ q_got.toInt ∧ q_got.toInt ≤ 8214) (hb7 : 0 ≤ q_one.toInt ∧ q_one.toInt ≤ 7) (hb8 : 0 ≤ q_two.toInt ∧ q_two.toInt ≤ 7) (hb9 : 0 ≤ q_undoMany.toInt ∧ q_undoMany.toInt ≤ 8) (hb10 : (-1) ≤ q_wayMany.toInt ∧ q_wayMany.toInt ≤ 8) (hb11 : (-1) ≤ q_keptMany.toInt ∧ q_keptMany.toInt ≤ 8) (hb12 : (-1) ≤ q_askedMany.toInt ∧ q_askedMany.toInt ≤ 3) (hb13 : 0 ≤ q_hasTorn.toInt ∧ q_hasTorn.toInt ≤ 1) (hb14 : 0 ≤ q_hasTurn.toInt ∧ q_hasTurn.toInt ≤ 1) (hb15 : 0 ≤ q_textMany.toInt ∧ q_textMany.toInt ≤ 48) (hb16 : 0 ≤ q_toldMany.toInt ∧ q_toldMany.toInt ≤ 40) (hb17 : 0 ≤ q_hasTold.toInt ∧ q_hasTold.toInt ≤ 1) (hb18 : 0 ≤ q_codes.toInt ∧ q_codes.toInt ≤ 40) (hb19 : 0 ≤ q_ones.toInt ∧ q_ones.toInt ≤ 20) (hb20 : 0 ≤ q_top.toInt ∧ q_top.toInt ≤ 40) (hb21 : 0 ≤ q_isWhole.toInt ∧ q_isWhole.toInt ≤ 1) (hR0 : Rg q_s 0 1 0 8) (hR1 : Rg q_s 1 3 0 6) (hR2 : Rg q_s 3 4 1 50) (hR3 : Rg q_s 4 5 1 5) (hR4 : Rg q_s 103 104 0 255) (hR5 : Rg q_s 7 23 0 5) (hR6 : Rg q_s 106 122 0 5) (hR7 : Rg q_s 23 31 0 99) (hR8 : Rg q_s 122 130 0 99) {p : Program} {e : Env} {s : State} {m : MethodId} {args : Array Value} {below : List Frame} {meth : Method} {c : Code} {A : Nat → Prop} {Q : State → Prop} {cells slots : Nat} (hroom : cells ≤ ((Rm 4 95 0 0)).cells ∧ slots ≤ ((Rm 4 95 0 0)).slots) (C : Cx p s m args meth c cX11_torn 3 (some .int) RX11 "torn" D cy A) (hQ : Q = MQ below (va_Qi (fun (r : Int32) (u : Int32 × Int32 × Int32 × (Nat → Int32) × (Nat → Int32)) => (0 ≤ u.2.2.1.toInt ∧ u.2.2.1.toInt ≤ 1)) (Bx D A (fun u : Int32 × Int32 × Int32 × (Nat → Int32) × (Nat → Int32) => [(q, oC11 u.1 q_tape_ q_length q_size q_p q_limit q_s_ q_h_ q_read_ q_names_ q_reserved_ q_token q_at q_span q_number q_fault q_faultAt q_word q_got q_lines q_onces q_webs q_one q_two q_seed q_undone_ q_before_ q_undoMany q_far_ q_wayRow_ q_wayMany q_keptRow_ q_askedRow_ q_rares_ q_trial_ q_keptMany q_askedMany q_hangs_ q_paths_ u.2.1 u.2.2.1 q_turnOne q_hasTurn q_text_ q_textMany q_toldMany q_toldAt_ q_hasTold q_stack_ q_codes q_ones q_top q_deep q_isWhole q_truths_ q_imaged_ q_namesKept_ q_areKept_), (q_s_, aC1 cy 383 q_s), (q_hangs_, aC1 cy 36 u.2.2.2.1), (q_paths_, aC1 cy 36 u.2.2.2.2)])) A) args s ((Rm 4 95 0 0)).cells ((Rm 4 95 0 0)).slots A) (H : Heap) (locs : List Loc) (ls : Array Slot) (hP : va_P D vwCl [(q, oC11 q_thrown q_tape_ q_length q_size q_p q_limit q_s_ q_h_ q_read_ q_names_ q_reserved_ q_token q_at q_span q_number q_fault q_faultAt q_word q_got q_lines q_onces q_webs q_one q_two q_seed q_undone_ q_before_ q_undoMany q_far_ q_wayRow_ q_wayMany q_keptRow_ q_askedRow_ q_rares_ q_trial_ q_keptMany q_askedMany q_hangs_ q_paths_ q_tornSteps q_hasTorn q_turnOne q_hasTurn q_text_ q_textMany q_toldMany q_toldAt_ q_hasTold q_stack_ q_codes q_ones q_top q_deep q_isWhole q_truths_ q_imaged_ q_namesKept_ q_areKept_), (q_s_, aC1 cy 383 q_s), (q_hangs_, aC1 cy 36 q_hangs), (q_paths_, aC1 cy 36 q_paths)] H) (hD : va_D A [(q, oC11 q_thrown q_tape_ q_length q_size q_p q_limit q_s_ q_h_ q_read_ q_names_ q_reserved_ q_token q_at q_span q_number q_fault q_faultAt q_word q_got q_lines q_onces q_webs q_one q_two q_seed q_undone_ q_before_ q_undoMany q_far_ q_wayRow_ q_wayMany q_keptRow_ q_askedRow_ q_rares_ q_trial_ q_keptMany q_askedMany q_hangs_ q_paths_ q_tornSteps q_hasTorn q_turnOne q_hasTurn q_text_ q_textMany q_toldMany q_toldAt_ q_hasTold q_stack_ q_codes q_ones q_top q_deep q_isWhole q_truths_ q_imaged_ q_namesKept_ q_areKept_), (q_s_, aC1 cy 383 q_s), (q_hangs_, aC1 cy 36 q_hangs), (q_paths_, aC1 cy 36 q_paths)]) (hS : va_S A s.heap H locs) (hl : lv_has ls 3 [(0, .ref q), (1, .int a)]) : W p l e (Rm 4 95 0 0) s m args below meth c H locs cells slots Q (F0 m 0 ls []) := by
  have hx := C.1
  have hb := C.2.1
  have hqa := o_rng a
  refine lv_aload_n hx hb dX11_torn_0 rfl (lv_at hl 0 rfl) ?_
  refine lv_iconst (v := 0) hx hb dX11_torn_1 (by decide) ?_
  refine q_put11 (v := .int 0) (w' := [(q, oC11 0 q_tape_ q_length q_size q_p q_limit q_s_ q_h_ q_read_ q_names_ q_reserved_ q_token q_at q_span q_number q_fault q_faultAt q_word q_got q_lines q_onces q_webs q_one q_two q_seed q_undone_ q_before_ q_undoMany q_far_ q_wayRow_ q_wayMany q_keptRow_ q_askedRow_ q_rares_ q_trial_ q_keptMany q_askedMany q_hangs_ q_paths_ q_tornSteps q_hasTorn q_turnOne q_hasTurn q_text_ q_textMany q_toldMany q_toldAt_ q_hasTold q_stack_ q_codes q_ones q_top q_deep q_isWhole q_truths_ q_imaged_ q_namesKept_ q_areKept_), (q_s_, aC1 cy 383 q_s), (q_hangs_, aC1 cy 36 q_hangs), (q_paths_, aC1 cy 36 q_paths)]) C hP hD hS 0 0 rfl fT_0 fy_0 (by decide) kF_RX11_1 rfl rfl (Nat.le_of_ble_eq_true rfl) rfl dX11_torn_2 (fun H locs hP hD hS => ?_)
  refine lv_aload_n hx hb dX11_torn_5 rfl (lv_at hl 0 rfl) ?_
  refine lv_iload_n hx hb dX11_torn_6 rfl (lv_at hl 1 rfl) ?_
  refine q_ai (wr := [(q_hangs_, aC1 cy 36 q_hangs), (q_paths_, aC1 cy 36 q_paths)]) (r_V (rm := (Rm 1 22 0 0)) (q0 := 0) (As := [.int a]) (rest := []) (wc := [(q, oC11 0 q_tape_ q_length q_size q_p q_limit q_s_ q_h_ q_read_ q_names_ q_reserved_ q_token q_at q_span q_number q_fault q_faultAt q_word q_got q_lines q_onces q_webs q_one q_two q_seed q_undone_ q_before_ q_undoMany q_far_ q_wayRow_ q_wayMany q_keptRow_ q_askedRow_ q_rares_ q_trial_ q_keptMany q_askedMany q_hangs_ q_paths_ q_tornSteps q_hasTorn q_turnOne q_hasTurn q_text_ q_textMany q_toldMany q_toldAt_ q_hasTold q_stack_ q_codes q_ones q_top q_deep q_isWhole q_truths_ q_imaged_ q_namesKept_ q_areKept_), (q_s_, aC1 cy 383 q_s)]) C hS (q_subP hP [0, 1] rfl) (hD.sub [0, 1] (by decide) rfl) (y_isBook l D cy q a 0 q_tape_ q_length q_size q_p q_limit q_s_ q_h_ q_read_ q_names_ q_reserved_ q_token q_at q_span q_number q_fault q_faultAt q_word q_got q_lines q_onces q_webs q_one q_two q_seed q_undone_ q_before_ q_undoMany q_far_ q_wayRow_ q_wayMany q_keptRow_ q_askedRow_ q_rares_ q_trial_ q_keptMany q_askedMany q_hangs_ q_paths_ q_tornSteps q_hasTorn q_turnOne q_hasTurn q_text_ q_textMany q_toldMany q_toldAt_ q_hasTold q_stack_ q_codes q_ones q_top q_deep q_isWhole q_truths_ q_imaged_ q_namesKept_ q_areKept_ q_s _ (by omega) (by omega) (by omega) (by omega) (by omega) (by omega) (by omega) (by omega) (by omega) (by omega) (by omega) (by omega) (by omega) (by omega) (by omega) (by omega) (by omega) (by omega) (by omega) (by omega) (by omega) (by omega) hR0 hR1 hR2 hR3 hR4 hR5 hR6 hR7 hR8) kwV_X11_isBook kM_RX11_306 rfl rfl ⟨Nat.le_of_ble_eq_true rfl, Nat.le_of_ble_eq_true rfl⟩ rfl hl.1 rfl (Nat.le_of_ble_eq_true rfl) dX11_torn_7 ⟨hroom.1, hroom.2⟩) C.2.2.2.2.2.2.1 hP hD hS [0, 1] [2, 3] rfl rfl (by decide) (by decide) (fun r_2 u_1 H locs hw_3 hP hD hS => ?_)
  have hp_3 : 0 ≤ r_2.toInt ∧ r_2.toInt ≤ 1 := hw_3.1
  have hp_4 : r_2.toInt = 1 → a.toInt < (q_s 0).toInt := hw_3.2.1
  have hp_5 : (0 ≤ r_2.toInt + (-1)) → (0 ≤ a.toInt ∧ 0 ≤ (-1) * a.toInt + 7) := by have e0 : (0 : Int32).toInt = 0 := (by decide); have h0 : (0 ≤ r_2.toInt + (-1)) → (0 ≤ a.toInt ∧ 0 ≤ (-1) * a.toInt + 7) := hw_3.2.2; omega
  clear hw_3
  refine lv_if_ne (tgt := 15) hx hb dX11_torn_10 (by decide) (fun c_7 => ?_) (fun c_7 => ?_)
  · have hc_7 := o_ne (rfl : r_2.toInt = r_2.toInt) (by decide : (0 : Int32).toInt = 0) c_7
    have hnc_7 : 0 ≤ r_2.toInt + (-1) := by rcases Int.lt_or_gt_of_ne hc_7 with h9 | h9 <;> omega
    have hp_5 := hp_5 (by omega)
    refine lv_aload_n hx hb dX11_torn_15 rfl (lv_at hl 0 rfl) ?_
    refine q_av (wr := []) (r_V (rm := (Rm 3 71 0 0)) (q0 := 0) (As := []) (rest := []) (wc := [(q, oC11 0 q_tape_ q_length q_size q_p q_limit q_s_ q_h_ q_read_ q_names_ q_reserved_ q_token q_at q_span q_number q_fault q_faultAt q_word q_got q_lines q_onces q_webs q_one q_two q_seed q_undone_ q_before_ q_undoMany q_far_ q_wayRow_ q_wayMany q_keptRow_ q_askedRow_ q_rares_ q_trial_ q_keptMany q_askedMany q_hangs_ q_paths_ q_tornSteps q_hasTorn q_turnOne q_hasTurn q_text_ q_textMany q_toldMany q_toldAt_ q_hasTold q_stack_ q_codes q_ones q_top q_deep q_isWhole q_truths_ q_imaged_ q_namesKept_ q_areKept_), (q_s_, aC1 cy 383 q_s), (q_hangs_, aC1 cy 36 q_hangs), (q_paths_, aC1 cy 36 q_paths)]) C hS (q_subP hP [2, 3, 0, 1] rfl) (hD.sub [2, 3, 0, 1] (by decide) rfl) (y_laysPaths l D cy q 0 q_tape_ q_length q_size q_p q_limit q_s_ q_h_ q_read_ q_names_ q_reserved_ q_token q_at q_span q_number q_fault q_faultAt q_word q_got q_lines q_onces q_webs q_one q_two q_seed q_undone_ q_before_ q_undoMany q_far_ q_wayRow_ q_wayMany q_keptRow_ q_askedRow_ q_rares_ q_trial_ q_keptMany q_askedMany q_hangs_ q_paths_ q_tornSteps q_hasTorn q_turnOne q_hasTurn q_text_ q_textMany q_toldMany q_toldAt_ q_hasTold q_stack_ q_codes q_ones q_top q_deep q_isWhole q_truths_ q_imaged_ q_namesKept_ q_areKept_ q_s q_hangs q_paths _ (by omega) (by omega) (by omega) (by omega) (by omega) (by omega) (by omega) (by omega) (by omega) (by omega) (by omega) (by omega) (by omega) (by omega) (by omega) (by omega) (by omega) (by omega) (by omega) (by omega) (by omega) (by omega) hR0 hR1 hR2 hR3 hR4 hR5 hR6 hR7 hR8) kwV_X11_laysPaths kM_RX11_409 rfl rfl ⟨Nat.le_of_ble_eq_true rfl, Nat.le_of_ble_eq_true rfl⟩ rfl hl.1 rfl (Nat.le_of_ble_eq_true rfl) dX11_torn_16 ⟨hroom.1, hroom.2⟩) C.2.2.2.2.2.2.1 hP hD hS [2, 3, 0, 1] [] rfl rfl (by decide) (by decide) (fun u_8 H locs hw_10 hP hD hS => ?_)
    obtain ⟨g_11, g_12⟩ := u_8
    have hP : va_P D vwCl [(q, oC11 0 q_tape_ q_length q_size q_p q_limit q_s_ q_h_ q_read_ q_names_ q_reserved_ q_token q_at q_span q_number q_fault q_faultAt q_word q_got q_lines q_onces q_webs q_one q_two q_seed q_undone_ q_before_ q_undoMany q_far_ q_wayRow_ q_wayMany q_keptRow_ q_askedRow_ q_rares_ q_trial_ q_keptMany q_askedMany q_hangs_ q_paths_ q_tornSteps q_hasTorn q_turnOne q_hasTurn q_text_ q_textMany q_toldMany q_toldAt_ q_hasTold q_stack_ q_codes q_ones q_top q_deep q_isWhole q_truths_ q_imaged_ q_namesKept_ q_areKept_), (q_s_, aC1 cy 383 q_s), (q_hangs_, aC1 cy 36 g_11), (q_paths_, aC1 cy 36 g_12)] H := hP
    have hD : va_D A [(q, oC11 0 q_tape_ q_length q_size q_p q_limit q_s_ q_h_ q_read_ q_names_ q_reserved_ q_token q_at q_span q_number q_fault q_faultAt q_word q_got q_lines q_onces q_webs q_one q_two q_seed q_undone_ q_before_ q_undoMany q_far_ q_wayRow_ q_wayMany q_keptRow_ q_askedRow_ q_rares_ q_trial_ q_keptMany q_askedMany q_hangs_ q_paths_ q_tornSteps q_hasTorn q_turnOne q_hasTurn q_text_ q_textMany q_toldMany q_toldAt_ q_hasTold q_stack_ q_codes q_ones q_top q_deep q_isWhole q_truths_ q_imaged_ q_namesKept_ q_areKept_), (q_s_, aC1 cy 383 q_s), (q_hangs_, aC1 cy 36 g_11), (q_paths_, aC1 cy 36 g_12)] := hD
    refine lv_aload_n hx hb dX11_torn_19 rfl (lv_at hl 0 rfl) ?_
    refine q_get11 (v := .ref q_paths_) C hP 0 38 rfl fT_38 (by decide) kF_RX11_86 rfl dX11_torn_20 ?_
    refine lv_bipush (v := 6) hx hb dX11_torn_23 (by decide) ?_
    refine lv_aload_n hx hb dX11_torn_25 rfl (lv_at hl 0 rfl) ?_
    refine q_get11 (v := .ref q_s_) C hP 0 6 rfl fT_6 (by decide) kF_RX11_33 rfl dX11_torn_26 ?_
    refine lv_bipush (v := 114) hx hb dX11_torn_29 (by decide) ?_
    refine lv_iload_n hx hb dX11_torn_31 rfl (lv_at hl 1 rfl) ?_
    refine lv_iadd hx hb dX11_torn_32 ?_
    refine lv_topi (fun z_13 hz_13 => ?_)
    have hz_13 := o_add hz_13 (by decide : (114 : Int32).toInt = 114) (rfl : a.toInt = a.toInt) (by omega) (by omega)
    refine q_iald (v := q_s z_13.toNatClampNeg) C hP 1 rfl (o_in (rfl : z_13.toInt = z_13.toInt) (by omega) (by omega)) rfl dX11_torn_33 ?_
    refine lv_topi (fun z_14 ez_14 => ?_)
    have hz_14 := Rg.at hR6 ez_14 (by have := o_cl (rfl : z_13.toInt = z_13.toInt) (by omega); omega) (by have := o_cl (rfl : z_13.toInt = z_13.toInt) (by omega); omega)
    refine lv_imul hx hb dX11_torn_34 ?_
    refine lv_topi (fun z_15 hz_15 => ?_)
    have hz_15 := o_mul hz_15 (by decide : (6 : Int32).toInt = 6) (rfl : z_14.toInt = z_14.toInt) (by omega) (by omega)
    refine lv_aload_n hx hb dX11_torn_35 rfl (lv_at hl 0 rfl) ?_
    refine q_get11 (v := .ref q_s_) C hP 0 6 rfl fT_6 (by decide) kF_RX11_33 rfl dX11_torn_36 ?_
    refine lv_bipush (v := 106) hx hb dX11_torn_39 (by decide) ?_
    refine lv_iload_n hx hb dX11_torn_41 rfl (lv_at hl 1 rfl) ?_
    refine lv_iadd hx hb dX11_torn_42 ?_
    refine lv_topi (fun z_16 hz_16 => ?_)
    have hz_16 := o_add hz_16 (by decide : (106 : Int32).toInt = 106) (rfl : a.toInt = a.toInt) (by omega) (by omega)
    refine q_iald (v := q_s z_16.toNatClampNeg) C hP 1 rfl (o_in (rfl : z_16.toInt = z_16.toInt) (by omega) (by omega)) rfl dX11_torn_43 ?_
    refine lv_topi (fun z_17 ez_17 => ?_)
    have hz_17 := Rg.at hR6 ez_17 (by have := o_cl (rfl : z_16.toInt = z_16.toInt) (by omega); omega) (by have := o_cl (rfl : z_16.toInt = z_16.toInt) (by omega); omega)
    refine lv_iadd hx hb dX11_torn_44 ?_
    refine lv_topi (fun z_18 hz_18 => ?_)
    have hz_18 := o_add hz_18 (rfl : z_15.toInt = z_15.toInt) (rfl : z_17.toInt = z_17.toInt) (by omega) (by omega)
    refine q_iald (v := g_12 z_18.toNatClampNeg) C hP 3 rfl (o_in (rfl : z_18.toInt = z_18.toInt) (by omega) (by omega)) rfl dX11_torn_45 ?_
    refine lv_topi (fun z_19 ez_19 => ?_)
    refine lv_istore_n (lv' := [(2, .int z_19), (0, .ref q), (1, .int a)]) hx hb dX11_torn_46 rfl hl (by decide) rfl (fun ls hl => ?_)
    refine lv_aload_n hx hb dX11_torn_47 rfl (lv_at hl 1 rfl) ?_
    refine lv_iconst (v := 1) hx hb dX11_torn_48 (by decide) ?_
    refine q_put11 (v := .int 1) (w' := [(q, oC11 0 q_tape_ q_length q_size q_p q_limit q_s_ q_h_ q_read_ q_names_ q_reserved_ q_token q_at q_span q_number q_fault q_faultAt q_word q_got q_lines q_onces q_webs q_one q_two q_seed q_undone_ q_before_ q_undoMany q_far_ q_wayRow_ q_wayMany q_keptRow_ q_askedRow_ q_rares_ q_trial_ q_keptMany q_askedMany q_hangs_ q_paths_ q_tornSteps 1 q_turnOne q_hasTurn q_text_ q_textMany q_toldMany q_toldAt_ q_hasTold q_stack_ q_codes q_ones q_top q_deep q_isWhole q_truths_ q_imaged_ q_namesKept_ q_areKept_), (q_s_, aC1 cy 383 q_s), (q_hangs_, aC1 cy 36 g_11), (q_paths_, aC1 cy 36 g_12)]) C hP hD hS 0 40 rfl fT_40 fy_40 (by decide) kF_RX11_412 rfl rfl (Nat.le_of_ble_eq_true rfl) rfl dX11_torn_49 (fun H locs hP hD hS => ?_)
    refine lv_aload_n hx hb dX11_torn_52 rfl (lv_at hl 1 rfl) ?_
    refine lv_iload_n hx hb dX11_torn_53 rfl (lv_at hl 0 rfl) ?_
    refine lv_sipush (v := 1000) hx hb dX11_torn_54 (by decide) ?_
    refine lv_irem hx hb dX11_torn_57 (by decide) ?_
    refine lv_topi (fun z_20 hz_20 => ?_)
    clear hz_20
    refine q_put11 (v := .int z_20) (w' := [(q, oC11 0 q_tape_ q_length q_size q_p q_limit q_s_ q_h_ q_read_ q_names_ q_reserved_ q_token q_at q_span q_number q_fault q_faultAt q_word q_got q_lines q_onces q_webs q_one q_two q_seed q_undone_ q_before_ q_undoMany q_far_ q_wayRow_ q_wayMany q_keptRow_ q_askedRow_ q_rares_ q_trial_ q_keptMany q_askedMany q_hangs_ q_paths_ z_20 1 q_turnOne q_hasTurn q_text_ q_textMany q_toldMany q_toldAt_ q_hasTold q_stack_ q_codes q_ones q_top q_deep q_isWhole q_truths_ q_imaged_ q_namesKept_ q_areKept_), (q_s_, aC1 cy 383 q_s), (q_hangs_, aC1 cy 36 g_11), (q_paths_, aC1 cy 36 g_12)]) C hP hD hS 0 39 rfl fT_39 fy_39 (by decide) kF_RX11_416 rfl rfl (Nat.le_of_ble_eq_true rfl) rfl dX11_torn_58 (fun H locs hP hD hS => ?_)
    refine lv_iload_n hx hb dX11_torn_61 rfl (lv_at hl 0 rfl) ?_
    refine lv_sipush (v := 1000) hx hb dX11_torn_62 (by decide) ?_
    refine lv_idiv hx hb dX11_torn_65 (by decide) ?_
    refine lv_topi (fun z_21 hz_21 => ?_)
    clear hz_21
    refine o_wq hQ ?_
    exact q_iret (rm := (Rm 4 95 0 0)) C hS (0, z_20, 1, g_11, g_12) rfl (show 0 ≤ (1 : Int32).toInt ∧ (1 : Int32).toInt ≤ 1 by decide) (q_subP hP [0, 1, 2, 3] rfl) (hD.sub [0, 1, 2, 3] (by decide) rfl) hroom.1 hroom.2 dX11_torn_66
  · have hc_7 := o_eq (rfl : r_2.toInt = r_2.toInt) (by decide : (0 : Int32).toInt = 0) c_7
    clear hp_5
    refine lv_iconst (v := (-1)) hx hb dX11_torn_13 (by decide) ?_
    refine o_wq hQ ?_
    exact q_iret (rm := (Rm 4 95 0 0)) C hS (0, q_tornSteps, q_hasTorn, q_hangs, q_paths) rfl (show 0 ≤ q_hasTorn.toInt ∧ q_hasTorn.toInt ≤ 1 by omega) (q_subP hP [2, 3, 0, 1] rfl) (hD.sub [2, 3, 0, 1] (by decide) rfl) hroom.1 hroom.2 dX11_torn_14
theorem y_torn (l : Launch) (D : va_G) (cy : Nat → ClassId) (q : Nat) (a : Int32) (q_thrown : Int32) (q_tape_ : Nat) (q_length : Int32) (q_size : Int32) (q_p : Int32) (q_limit : Int32) (q_s_ : Nat) (q_h_ : Nat) (q_read_ : Nat) (q_names_ : Nat) (q_reserved_ : Nat) (q_token : Int32) (q_at : Int32) (q_span : Int32) (q_number : Int32) (q_fault : Int32) (q_faultAt : Int32) (q_word : Int64) (q_got : Int32) (q_lines : Int32) (q_onces : Int32) (q_webs : Int32) (q_one : Int32) (q_two : Int32) (q_seed : Int32) (q_undone_ : Nat) (q_before_ : Nat) (q_undoMany : Int32) (q_far_ : Nat) (q_wayRow_ : Nat) (q_wayMany : Int32) (q_keptRow_ : Nat) (q_askedRow_ : Nat) (q_rares_ : Nat) (q_trial_ : Nat) (q_keptMany : Int32) (q_askedMany : Int32) (q_hangs_ : Nat) (q_paths_ : Nat) (q_tornSteps : Int32) (q_hasTorn : Int32) (q_turnOne : Int32) (q_hasTurn : Int32) (q_text_ : Nat) (q_textMany : Int32) (q_toldMany : Int32) (q_toldAt_ : Nat) (q_hasTold : Int32) (q_stack_ : Nat) (q_codes : Int32) (q_ones : Int32) (q_top : Int32) (q_deep : Int32) (q_isWhole : Int32) (q_truths_ : Nat) (q_imaged_ : Nat) (q_namesKept_ : Nat) (q_areKept_ : Nat) (q_s : Nat → Int32) (q_hangs : Nat → Int32) (q_paths : Nat → Int32) (sz : Nat) (hb0 : 0 ≤ q_length.toInt ∧ q_length.toInt ≤ 940) (hb1 : 0 ≤ q_size.toInt ∧ q_size.toInt ≤ 940) (hb2 : 0 ≤ q_p.toInt ∧ q_p.toInt ≤ 940) (hb3 : 0 ≤ q_limit.toInt ∧ q_limit.toInt ≤ 940) (hb4 : 0 ≤ q_span.toInt ∧ q_span.toInt ≤ 940) (hb5 : 0 ≤ q_number.toInt ∧ q_number.toInt ≤ 8214) (hb6 : (-1) ≤ q_got.toInt ∧ q_got.toInt ≤ 8214) (hb7 : 0 ≤ q_one.toInt ∧ q_one.toInt ≤ 7) (hb8 : 0 ≤ q_two.toInt ∧ q_two.toInt ≤ 7) (hb9 : 0 ≤ q_undoMany.toInt ∧ q_undoMany.toInt ≤ 8) (hb10 : (-1) ≤ q_wayMany.toInt ∧ q_wayMany.toInt ≤ 8) (hb11 : (-1) ≤ q_keptMany.toInt ∧ q_keptMany.toInt ≤ 8) (hb12 : (-1) ≤ q_askedMany.toInt ∧ q_askedMany.toInt ≤ 3) (hb13 : 0 ≤ q_hasTorn.toInt ∧ q_hasTorn.toInt ≤ 1) (hb14 : 0 ≤ q_hasTurn.toInt ∧ q_hasTurn.toInt ≤ 1) (hb15 : 0 ≤ q_textMany.toInt ∧ q_textMany.toInt ≤ 48) (hb16 : 0 ≤ q_toldMany.toInt ∧ q_toldMany.toInt ≤ 40) (hb17 : 0 ≤ q_hasTold.toInt ∧ q_hasTold.toInt ≤ 1) (hb18 : 0 ≤ q_codes.toInt ∧ q_codes.toInt ≤ 40) (hb19 : 0 ≤ q_ones.toInt ∧ q_ones.toInt ≤ 20) (hb20 : 0 ≤ q_top.toInt ∧ q_top.toInt ≤ 40) (hb21 : 0 ≤ q_isWhole.toInt ∧ q_isWhole.toInt ≤ 1) (hR0 : Rg q_s 0 1 0 8) (hR1 : Rg q_s 1 3 0 6) (hR2 : Rg q_s 3 4 1 50) (hR3 : Rg q_s 4 5 1 5) (hR4 : Rg q_s 103 104 0 255) (hR5 : Rg q_s 7 23 0 5) (hR6 : Rg q_s 106 122 0 5) (hR7 : Rg q_s 23 31 0 99) (hR8 : Rg q_s 122 130 0 99) : MI l yX11_torn cX11_torn 3 (some .int) (Rm 4 95 0 0) D cy [.ref q, .int a] sz [(q, oC11 q_thrown q_tape_ q_length q_size q_p q_limit q_s_ q_h_ q_read_ q_names_ q_reserved_ q_token q_at q_span q_number q_fault q_faultAt q_word q_got q_lines q_onces q_webs q_one q_two q_seed q_undone_ q_before_ q_undoMany q_far_ q_wayRow_ q_wayMany q_keptRow_ q_askedRow_ q_rares_ q_trial_ q_keptMany q_askedMany q_hangs_ q_paths_ q_tornSteps q_hasTorn q_turnOne q_hasTurn q_text_ q_textMany q_toldMany q_toldAt_ q_hasTold q_stack_ q_codes q_ones q_top q_deep q_isWhole q_truths_ q_imaged_ q_namesKept_ q_areKept_), (q_s_, aC1 cy 383 q_s), (q_hangs_, aC1 cy 36 q_hangs), (q_paths_, aC1 cy 36 q_paths)] (fun (r : Int32) (u : Int32 × Int32 × Int32 × (Nat → Int32) × (Nat → Int32)) => (0 ≤ u.2.2.1.toInt ∧ u.2.2.1.toInt ≤ 1)) (fun u : Int32 × Int32 × Int32 × (Nat → Int32) × (Nat → Int32) => [(q, oC11 u.1 q_tape_ q_length q_size q_p q_limit q_s_ q_h_ q_read_ q_names_ q_reserved_ q_token q_at q_span q_number q_fault q_faultAt q_word q_got q_lines q_onces q_webs q_one q_two q_seed q_undone_ q_before_ q_undoMany q_far_ q_wayRow_ q_wayMany q_keptRow_ q_askedRow_ q_rares_ q_trial_ q_keptMany q_askedMany q_hangs_ q_paths_ u.2.1 u.2.2.1 q_turnOne q_hasTurn q_text_ q_textMany q_toldMany q_toldAt_ q_hasTold q_stack_ q_codes q_ones q_top q_deep q_isWhole q_truths_ q_imaged_ q_namesKept_ q_areKept_), (q_s_, aC1 cy 383 q_s), (q_hangs_, aC1 cy 36 u.2.2.2.1), (q_paths_, aC1 cy 36 u.2.2.2.2)]) := by
  refine MI.enter (by decide) (Nat.le_of_ble_eq_true rfl) ?_
  intro p e s m below meth c ls A hsz hAe C hP hD hS hl
  exact b_y_torn l D cy q a q_thrown q_tape_ q_length q_size q_p q_limit q_s_ q_h_ q_read_ q_names_ q_reserved_ q_token q_at q_span q_number q_fault q_faultAt q_word q_got q_lines q_onces q_webs q_one q_two q_seed q_undone_ q_before_ q_undoMany q_far_ q_wayRow_ q_wayMany q_keptRow_ q_askedRow_ q_rares_ q_trial_ q_keptMany q_askedMany q_hangs_ q_paths_ q_tornSteps q_hasTorn q_turnOne q_hasTurn q_text_ q_textMany q_toldMany q_toldAt_ q_hasTold q_stack_ q_codes q_ones q_top q_deep q_isWhole q_truths_ q_imaged_ q_namesKept_ q_areKept_ q_s q_hangs q_paths hb0 hb1 hb2 hb3 hb4 hb5 hb6 hb7 hb8 hb9 hb10 hb11 hb12 hb13 hb14 hb15 hb16 hb17 hb18 hb19 hb20 hb21 hR0 hR1 hR2 hR3 hR4 hR5 hR6 hR7 hR8 ⟨Nat.le_of_ble_eq_true rfl, Nat.le_of_ble_eq_true rfl⟩ C rfl _ _ ls hP hD hS hl
set_option maxHeartbeats 4000000 in
set_option maxRecDepth 100000 in
theorem b_y_way (l : Launch) (D : va_G) (cy : Nat → ClassId) (q : Nat) (a : Int32) (b : Int32) (q_thrown : Int32) (q_tape_ : Nat) (q_length : Int32) (q_size : Int32) (q_p : Int32) (q_limit : Int32) (q_s_ : Nat) (q_h_ : Nat) (q_read_ : Nat) (q_names_ : Nat) (q_reserved_ : Nat) (q_token : Int32) (q_at : Int32) (q_span : Int32) (q_number : Int32) (q_fault : Int32) (q_faultAt : Int32) (q_word : Int64) (q_got : Int32) (q_lines : Int32) (q_onces : Int32) (q_webs : Int32) (q_one : Int32) (q_two : Int32) (q_seed : Int32) (q_undone_ : Nat) (q_before_ : Nat) (q_undoMany : Int32) (q_far_ : Nat) (q_wayRow_ : Nat) (q_wayMany : Int32) (q_keptRow_ : Nat) (q_askedRow_ : Nat) (q_rares_ : Nat) (q_trial_ : Nat) (q_keptMany : Int32) (q_askedMany : Int32) (q_hangs_ : Nat) (q_paths_ : Nat) (q_tornSteps : Int32) (q_hasTorn : Int32) (q_turnOne : Int32) (q_hasTurn : Int32) (q_text_ : Nat) (q_textMany : Int32) (q_toldMany : Int32) (q_toldAt_ : Nat) (q_hasTold : Int32) (q_stack_ : Nat) (q_codes : Int32) (q_ones : Int32) (q_top : Int32) (q_deep : Int32) (q_isWhole : Int32) (q_truths_ : Nat) (q_imaged_ : Nat) (q_namesKept_ : Nat) (q_areKept_ : Nat) (q_s : Nat → Int32) (q_far : Nat → Int32) (q_wayRow : Nat → Int32) (hb0 : 0 ≤ q_length.toInt ∧ q_length.toInt ≤ 940) (hb1 : 0 ≤ q_size.toInt ∧ q_size.toInt ≤ 940) (hb2 : 0 ≤ q_p.toInt ∧ q_p.toInt ≤ 940) (hb3 : 0 ≤ q_limit.toInt ∧ q_limit.toInt ≤ 940) (hb4 : 0 ≤ q_span.toInt ∧ q_span.toInt ≤ 940) (hb5 : 0 ≤ q_number.toInt ∧ q_number.toInt ≤ 8214) (hb6 : (-1) ≤ q_got.toInt ∧ q_got.toInt ≤ 8214) (hb7 : 0 ≤ q_one.toInt ∧ q_one.toInt ≤ 7) (hb8 : 0 ≤ q_two.toInt ∧ q_two.toInt ≤ 7) (hb9 : 0 ≤ q_undoMany.toInt ∧ q_undoMany.toInt ≤ 8) (hb10 : (-1) ≤ q_wayMany.toInt ∧ q_wayMany.toInt ≤ 8) (hb11 : (-1) ≤ q_keptMany.toInt ∧ q_keptMany.toInt ≤ 8) (hb12 : (-1) ≤ q_askedMany.toInt ∧ q_askedMany.toInt ≤ 3) (hb13 : 0 ≤ q_hasTorn.toInt ∧ q_hasTorn.toInt ≤ 1) (hb14 : 0 ≤ q_hasTurn.toInt ∧ q_hasTurn.toInt ≤ 1) (hb15 : 0 ≤ q_textMany.toInt ∧ q_textMany.toInt ≤ 48) (hb16 : 0 ≤ q_toldMany.toInt ∧ q_toldMany.toInt ≤ 40) (hb17 : 0 ≤ q_hasTold.toInt ∧ q_hasTold.toInt ≤ 1) (hb18 : 0 ≤ q_codes.toInt ∧ q_codes.toInt ≤ 40) (hb19 : 0 ≤ q_ones.toInt ∧ q_ones.toInt ≤ 20) (hb20 : 0 ≤ q_top.toInt ∧ q_top.toInt ≤ 40) (hb21 : 0 ≤ q_isWhole.toInt ∧ q_isWhole.toInt ≤ 1) (hR0 : Rg q_s 0 1 0 8) (hR1 : Rg q_s 1 3 0 6) (hR2 : Rg q_s 3 4 1 50) (hR3 : Rg q_s 4 5 1 5) (hR4 : Rg q_s 103 104 0 255) (hR5 : Rg q_s 7 23 0 5) (hR6 : Rg q_s 106 122 0 5) (hR7 : Rg q_s 23 31 0 99) (hR8 : Rg q_s 122 130 0 99) (hR9 : Rg q_far 0 8 0 1000000000) {p : Program} {e : Env} {s : State} {m : MethodId} {args : Array Value} {below : List Frame} {meth : Method} {c : Code} {A : Nat → Prop} {Q : State → Prop} {cells slots : Nat} (hroom : cells ≤ ((Rm 3 69 0 0)).cells ∧ slots ≤ ((Rm 3 69 0 0)).slots) (C : Cx p s m args meth c cX11_way 6 (some .int) RX11 "way" D cy A) (hQ : Q = MQ below (va_Qi (fun (r : Int32) (u : Int32 × Int32 × (Nat → Int32) × (Nat → Int32)) => ((-1) ≤ r.toInt ∧ r.toInt ≤ 7) ∧ ((-1) ≤ u.2.1.toInt ∧ u.2.1.toInt ≤ 8) ∧ (Rg u.2.2.1 0 8 0 1000000000)) (Bx D A (fun u : Int32 × Int32 × (Nat → Int32) × (Nat → Int32) => [(q, oC11 u.1 q_tape_ q_length q_size q_p q_limit q_s_ q_h_ q_read_ q_names_ q_reserved_ q_token q_at q_span q_number q_fault q_faultAt q_word q_got q_lines q_onces q_webs q_one q_two q_seed q_undone_ q_before_ q_undoMany q_far_ q_wayRow_ u.2.1 q_keptRow_ q_askedRow_ q_rares_ q_trial_ q_keptMany q_askedMany q_hangs_ q_paths_ q_tornSteps q_hasTorn q_turnOne q_hasTurn q_text_ q_textMany q_toldMany q_toldAt_ q_hasTold q_stack_ q_codes q_ones q_top q_deep q_isWhole q_truths_ q_imaged_ q_namesKept_ q_areKept_), (q_s_, aC1 cy 383 q_s), (q_far_, aC1 cy 8 u.2.2.1), (q_wayRow_, aC1 cy 8 u.2.2.2)])) A) args s ((Rm 3 69 0 0)).cells ((Rm 3 69 0 0)).slots A) (H : Heap) (locs : List Loc) (ls : Array Slot) (hP : va_P D vwCl [(q, oC11 q_thrown q_tape_ q_length q_size q_p q_limit q_s_ q_h_ q_read_ q_names_ q_reserved_ q_token q_at q_span q_number q_fault q_faultAt q_word q_got q_lines q_onces q_webs q_one q_two q_seed q_undone_ q_before_ q_undoMany q_far_ q_wayRow_ q_wayMany q_keptRow_ q_askedRow_ q_rares_ q_trial_ q_keptMany q_askedMany q_hangs_ q_paths_ q_tornSteps q_hasTorn q_turnOne q_hasTurn q_text_ q_textMany q_toldMany q_toldAt_ q_hasTold q_stack_ q_codes q_ones q_top q_deep q_isWhole q_truths_ q_imaged_ q_namesKept_ q_areKept_), (q_s_, aC1 cy 383 q_s), (q_far_, aC1 cy 8 q_far), (q_wayRow_, aC1 cy 8 q_wayRow)] H) (hD : va_D A [(q, oC11 q_thrown q_tape_ q_length q_size q_p q_limit q_s_ q_h_ q_read_ q_names_ q_reserved_ q_token q_at q_span q_number q_fault q_faultAt q_word q_got q_lines q_onces q_webs q_one q_two q_seed q_undone_ q_before_ q_undoMany q_far_ q_wayRow_ q_wayMany q_keptRow_ q_askedRow_ q_rares_ q_trial_ q_keptMany q_askedMany q_hangs_ q_paths_ q_tornSteps q_hasTorn q_turnOne q_hasTurn q_text_ q_textMany q_toldMany q_toldAt_ q_hasTold q_stack_ q_codes q_ones q_top q_deep q_isWhole q_truths_ q_imaged_ q_namesKept_ q_areKept_), (q_s_, aC1 cy 383 q_s), (q_far_, aC1 cy 8 q_far), (q_wayRow_, aC1 cy 8 q_wayRow)]) (hS : va_S A s.heap H locs) (hl : lv_has ls 6 [(0, .ref q), (1, .int a), (2, .int b)]) : W p l e (Rm 3 69 0 0) s m args below meth c H locs cells slots Q (F0 m 0 ls []) := by
  have hx := C.1
  have hb := C.2.1
  have hqa := o_rng a
  have hqb := o_rng b
  obtain ⟨n_1, en_1⟩ : ∃ z : Int32, z = q_s 0 := ⟨_, rfl⟩
  have hn_1 : 0 ≤ n_1.toInt ∧ n_1.toInt ≤ 8 := (by rw [en_1]; exact hR0 0 (by decide) (by decide))
  refine lv_aload_n hx hb dX11_way_0 rfl (lv_at hl 0 rfl) ?_
  refine lv_iconst (v := 0) hx hb dX11_way_1 (by decide) ?_
  refine q_put11 (v := .int 0) (w' := [(q, oC11 0 q_tape_ q_length q_size q_p q_limit q_s_ q_h_ q_read_ q_names_ q_reserved_ q_token q_at q_span q_number q_fault q_faultAt q_word q_got q_lines q_onces q_webs q_one q_two q_seed q_undone_ q_before_ q_undoMany q_far_ q_wayRow_ q_wayMany q_keptRow_ q_askedRow_ q_rares_ q_trial_ q_keptMany q_askedMany q_hangs_ q_paths_ q_tornSteps q_hasTorn q_turnOne q_hasTurn q_text_ q_textMany q_toldMany q_toldAt_ q_hasTold q_stack_ q_codes q_ones q_top q_deep q_isWhole q_truths_ q_imaged_ q_namesKept_ q_areKept_), (q_s_, aC1 cy 383 q_s), (q_far_, aC1 cy 8 q_far), (q_wayRow_, aC1 cy 8 q_wayRow)]) C hP hD hS 0 0 rfl fT_0 fy_0 (by decide) kF_RX11_1 rfl rfl (Nat.le_of_ble_eq_true rfl) rfl dX11_way_2 (fun H locs hP hD hS => ?_)
  refine lv_aload_n hx hb dX11_way_5 rfl (lv_at hl 0 rfl) ?_
  refine lv_iload_n hx hb dX11_way_6 rfl (lv_at hl 1 rfl) ?_
  refine q_ai (wr := [(q_far_, aC1 cy 8 q_far), (q_wayRow_, aC1 cy 8 q_wayRow)]) (r_V (rm := (Rm 1 22 0 0)) (q0 := 0) (As := [.int a]) (rest := []) (wc := [(q, oC11 0 q_tape_ q_length q_size q_p q_limit q_s_ q_h_ q_read_ q_names_ q_reserved_ q_token q_at q_span q_number q_fault q_faultAt q_word q_got q_lines q_onces q_webs q_one q_two q_seed q_undone_ q_before_ q_undoMany q_far_ q_wayRow_ q_wayMany q_keptRow_ q_askedRow_ q_rares_ q_trial_ q_keptMany q_askedMany q_hangs_ q_paths_ q_tornSteps q_hasTorn q_turnOne q_hasTurn q_text_ q_textMany q_toldMany q_toldAt_ q_hasTold q_stack_ q_codes q_ones q_top q_deep q_isWhole q_truths_ q_imaged_ q_namesKept_ q_areKept_), (q_s_, aC1 cy 383 q_s)]) C hS (q_subP hP [0, 1] rfl) (hD.sub [0, 1] (by decide) rfl) (y_isBook l D cy q a 0 q_tape_ q_length q_size q_p q_limit q_s_ q_h_ q_read_ q_names_ q_reserved_ q_token q_at q_span q_number q_fault q_faultAt q_word q_got q_lines q_onces q_webs q_one q_two q_seed q_undone_ q_before_ q_undoMany q_far_ q_wayRow_ q_wayMany q_keptRow_ q_askedRow_ q_rares_ q_trial_ q_keptMany q_askedMany q_hangs_ q_paths_ q_tornSteps q_hasTorn q_turnOne q_hasTurn q_text_ q_textMany q_toldMany q_toldAt_ q_hasTold q_stack_ q_codes q_ones q_top q_deep q_isWhole q_truths_ q_imaged_ q_namesKept_ q_areKept_ q_s _ (by omega) (by omega) (by omega) (by omega) (by omega) (by omega) (by omega) (by omega) (by omega) (by omega) (by omega) (by omega) (by omega) (by omega) (by omega) (by omega) (by omega) (by omega) (by omega) (by omega) (by omega) (by omega) hR0 hR1 hR2 hR3 hR4 hR5 hR6 hR7 hR8) kwV_X11_isBook kM_RX11_306 rfl rfl ⟨Nat.le_of_ble_eq_true rfl, Nat.le_of_ble_eq_true rfl⟩ rfl hl.1 rfl (Nat.le_of_ble_eq_true rfl) dX11_way_7 ⟨hroom.1, hroom.2⟩) C.2.2.2.2.2.2.1 hP hD hS [0, 1] [2, 3] rfl rfl (by decide) (by decide) (fun r_3 u_2 H locs hw_4 hP hD hS => ?_)
  have hp_4 : 0 ≤ r_3.toInt ∧ r_3.toInt ≤ 1 := hw_4.1
  have hp_5 : r_3.toInt = 1 → a.toInt < (q_s 0).toInt := hw_4.2.1
  have hp_6 : (0 ≤ r_3.toInt + (-1)) → (0 ≤ a.toInt ∧ 0 ≤ (-1) * a.toInt + 7) := by have e0 : (0 : Int32).toInt = 0 := (by decide); have h0 : (0 ≤ r_3.toInt + (-1)) → (0 ≤ a.toInt ∧ 0 ≤ (-1) * a.toInt + 7) := hw_4.2.2; omega
  clear hw_4
  refine lv_if_eq (tgt := 21) hx hb dX11_way_10 (by decide) (fun c_8 => ?_) (fun c_8 => ?_)
  · have hc_8 := o_eq (rfl : r_3.toInt = r_3.toInt) (by decide : (0 : Int32).toInt = 0) c_8
    clear hp_6
    refine lv_iconst (v := (-1)) hx hb dX11_way_21 (by decide) ?_
    refine o_wq hQ ?_
    exact q_iret (rm := (Rm 3 69 0 0)) C hS (0, q_wayMany, q_far, q_wayRow) rfl ⟨(show (-1) ≤ ((-1) : Int32).toInt ∧ ((-1) : Int32).toInt ≤ 7 by decide), (show (-1) ≤ q_wayMany.toInt ∧ q_wayMany.toInt ≤ 8 by omega), hR9⟩ (q_subP hP [2, 3, 0, 1] rfl) (hD.sub [2, 3, 0, 1] (by decide) rfl) hroom.1 hroom.2 dX11_way_22
  · have hc_8 := o_ne (rfl : r_3.toInt = r_3.toInt) (by decide : (0 : Int32).toInt = 0) c_8
    have hnc_8 : 0 ≤ r_3.toInt + (-1) := by rcases Int.lt_or_gt_of_ne hc_8 with h9 | h9 <;> omega
    have hp_6 := hp_6 (by omega)
    refine lv_aload_n hx hb dX11_way_13 rfl (lv_at hl 0 rfl) ?_
    refine lv_iload_n hx hb dX11_way_14 rfl (lv_at hl 2 rfl) ?_
    refine q_ai (wr := [(q_far_, aC1 cy 8 q_far), (q_wayRow_, aC1 cy 8 q_wayRow)]) (r_V (rm := (Rm 1 22 0 0)) (q0 := 0) (As := [.int b]) (rest := []) (wc := [(q, oC11 0 q_tape_ q_length q_size q_p q_limit q_s_ q_h_ q_read_ q_names_ q_reserved_ q_token q_at q_span q_number q_fault q_faultAt q_word q_got q_lines q_onces q_webs q_one q_two q_seed q_undone_ q_before_ q_undoMany q_far_ q_wayRow_ q_wayMany q_keptRow_ q_askedRow_ q_rares_ q_trial_ q_keptMany q_askedMany q_hangs_ q_paths_ q_tornSteps q_hasTorn q_turnOne q_hasTurn q_text_ q_textMany q_toldMany q_toldAt_ q_hasTold q_stack_ q_codes q_ones q_top q_deep q_isWhole q_truths_ q_imaged_ q_namesKept_ q_areKept_), (q_s_, aC1 cy 383 q_s)]) C hS (q_subP hP [2, 3] rfl) (hD.sub [2, 3] (by decide) rfl) (y_isBook l D cy q b 0 q_tape_ q_length q_size q_p q_limit q_s_ q_h_ q_read_ q_names_ q_reserved_ q_token q_at q_span q_number q_fault q_faultAt q_word q_got q_lines q_onces q_webs q_one q_two q_seed q_undone_ q_before_ q_undoMany q_far_ q_wayRow_ q_wayMany q_keptRow_ q_askedRow_ q_rares_ q_trial_ q_keptMany q_askedMany q_hangs_ q_paths_ q_tornSteps q_hasTorn q_turnOne q_hasTurn q_text_ q_textMany q_toldMany q_toldAt_ q_hasTold q_stack_ q_codes q_ones q_top q_deep q_isWhole q_truths_ q_imaged_ q_namesKept_ q_areKept_ q_s _ (by omega) (by omega) (by omega) (by omega) (by omega) (by omega) (by omega) (by omega) (by omega) (by omega) (by omega) (by omega) (by omega) (by omega) (by omega) (by omega) (by omega) (by omega) (by omega) (by omega) (by omega) (by omega) hR0 hR1 hR2 hR3 hR4 hR5 hR6 hR7 hR8) kwV_X11_isBook kM_RX11_306 rfl rfl ⟨Nat.le_of_ble_eq_true rfl, Nat.le_of_ble_eq_true rfl⟩ rfl hl.1 rfl (Nat.le_of_ble_eq_true rfl) dX11_way_15 ⟨hroom.1, hroom.2⟩) C.2.2.2.2.2.2.1 hP hD hS [2, 3] [0, 1] rfl rfl (by decide) (by decide) (fun r_10 u_9 H locs hw_11 hP hD hS => ?_)
    have hp_11 : 0 ≤ r_10.toInt ∧ r_10.toInt ≤ 1 := hw_11.1
    have hp_12 : r_10.toInt = 1 → b.toInt < (q_s 0).toInt := hw_11.2.1
    have hp_13 : (0 ≤ r_10.toInt + (-1)) → (0 ≤ b.toInt ∧ 0 ≤ (-1) * b.toInt + 7) := by have e0 : (0 : Int32).toInt = 0 := (by decide); have h0 : (0 ≤ r_10.toInt + (-1)) → (0 ≤ b.toInt ∧ 0 ≤ (-1) * b.toInt + 7) := hw_11.2.2; omega
    clear hw_11
    refine lv_if_ne (tgt := 23) hx hb dX11_way_18 (by decide) (fun c_15 => ?_) (fun c_15 => ?_)
    · have hc_15 := o_ne (rfl : r_10.toInt = r_10.toInt) (by decide : (0 : Int32).toInt = 0) c_15
      have hnc_15 : 0 ≤ r_10.toInt + (-1) := by rcases Int.lt_or_gt_of_ne hc_15 with h9 | h9 <;> omega
      have hp_13 := hp_13 (by omega)
      refine lv_aload_n hx hb dX11_way_23 rfl (lv_at hl 0 rfl) ?_
      refine lv_iload_n hx hb dX11_way_24 rfl (lv_at hl 2 rfl) ?_
      refine q_av (wr := [(q_wayRow_, aC1 cy 8 q_wayRow)]) (r_V (rm := (Rm 2 45 0 0)) (q0 := 0) (As := [.int b]) (rest := []) (wc := [(q, oC11 0 q_tape_ q_length q_size q_p q_limit q_s_ q_h_ q_read_ q_names_ q_reserved_ q_token q_at q_span q_number q_fault q_faultAt q_word q_got q_lines q_onces q_webs q_one q_two q_seed q_undone_ q_before_ q_undoMany q_far_ q_wayRow_ q_wayMany q_keptRow_ q_askedRow_ q_rares_ q_trial_ q_keptMany q_askedMany q_hangs_ q_paths_ q_tornSteps q_hasTorn q_turnOne q_hasTurn q_text_ q_textMany q_toldMany q_toldAt_ q_hasTold q_stack_ q_codes q_ones q_top q_deep q_isWhole q_truths_ q_imaged_ q_namesKept_ q_areKept_), (q_s_, aC1 cy 383 q_s), (q_far_, aC1 cy 8 q_far)]) C hS (q_subP hP [2, 3, 0] rfl) (hD.sub [2, 3, 0] (by decide) rfl) (y_farFrom l D cy q b 0 q_tape_ q_length q_size q_p q_limit q_s_ q_h_ q_read_ q_names_ q_reserved_ q_token q_at q_span q_number q_fault q_faultAt q_word q_got q_lines q_onces q_webs q_one q_two q_seed q_undone_ q_before_ q_undoMany q_far_ q_wayRow_ q_wayMany q_keptRow_ q_askedRow_ q_rares_ q_trial_ q_keptMany q_askedMany q_hangs_ q_paths_ q_tornSteps q_hasTorn q_turnOne q_hasTurn q_text_ q_textMany q_toldMany q_toldAt_ q_hasTold q_stack_ q_codes q_ones q_top q_deep q_isWhole q_truths_ q_imaged_ q_namesKept_ q_areKept_ q_s q_far _ (by omega) (by omega) (by omega) (by omega) (by omega) (by omega) (by omega) (by omega) (by omega) (by omega) (by omega) (by omega) (by omega) (by omega) (by omega) (by omega) (by omega) (by omega) (by omega) (by omega) (by omega) (by omega) hR0 hR1 hR2 hR3 hR4 hR5 hR6 hR7 hR8 hR9) kwV_X11_farFrom kM_RX11_367 rfl rfl ⟨Nat.le_of_ble_eq_true rfl, Nat.le_of_ble_eq_true rfl⟩ rfl hl.1 rfl (Nat.le_of_ble_eq_true rfl) dX11_way_25 ⟨hroom.1, hroom.2⟩) C.2.2.2.2.2.2.1 hP hD hS [2, 3, 0] [1] rfl rfl (by decide) (by decide) (fun u_16 H locs hw_18 hP hD hS => ?_)
      obtain ⟨g_19, rfl⟩ : ∃ z, z = u_16 := ⟨_, rfl⟩
      have hP : va_P D vwCl [(q_wayRow_, aC1 cy 8 q_wayRow), (q, oC11 0 q_tape_ q_length q_size q_p q_limit q_s_ q_h_ q_read_ q_names_ q_reserved_ q_token q_at q_span q_number q_fault q_faultAt q_word q_got q_lines q_onces q_webs q_one q_two q_seed q_undone_ q_before_ q_undoMany q_far_ q_wayRow_ q_wayMany q_keptRow_ q_askedRow_ q_rares_ q_trial_ q_keptMany q_askedMany q_hangs_ q_paths_ q_tornSteps q_hasTorn q_turnOne q_hasTurn q_text_ q_textMany q_toldMany q_toldAt_ q_hasTold q_stack_ q_codes q_ones q_top q_deep q_isWhole q_truths_ q_imaged_ q_namesKept_ q_areKept_), (q_s_, aC1 cy 383 q_s), (q_far_, aC1 cy 8 g_19)] H := hP
      have hD : va_D A [(q_wayRow_, aC1 cy 8 q_wayRow), (q, oC11 0 q_tape_ q_length q_size q_p q_limit q_s_ q_h_ q_read_ q_names_ q_reserved_ q_token q_at q_span q_number q_fault q_faultAt q_word q_got q_lines q_onces q_webs q_one q_two q_seed q_undone_ q_before_ q_undoMany q_far_ q_wayRow_ q_wayMany q_keptRow_ q_askedRow_ q_rares_ q_trial_ q_keptMany q_askedMany q_hangs_ q_paths_ q_tornSteps q_hasTorn q_turnOne q_hasTurn q_text_ q_textMany q_toldMany q_toldAt_ q_hasTold q_stack_ q_codes q_ones q_top q_deep q_isWhole q_truths_ q_imaged_ q_namesKept_ q_areKept_), (q_s_, aC1 cy 383 q_s), (q_far_, aC1 cy 8 g_19)] := hD
      have hp_19 : Rg g_19 0 8 0 1000000000 := hw_18.1
      have hp_20 : Fi q_s g_19 8 := hw_18.2
      clear hw_18
      refine lv_aload_n hx hb dX11_way_28 rfl (lv_at hl 0 rfl) ?_
      refine q_get11 (v := .ref q_far_) C hP 1 28 rfl fT_28 (by decide) kF_RX11_56 rfl dX11_way_29 ?_
      refine lv_iload_n hx hb dX11_way_32 rfl (lv_at hl 1 rfl) ?_
      refine q_iald (v := g_19 a.toNatClampNeg) C hP 3 rfl (o_in (rfl : a.toInt = a.toInt) (by omega) (by omega)) rfl dX11_way_33 ?_
      refine lv_topi (fun z_22 ez_22 => ?_)
      have hz_22 := Rg.at hp_19 ez_22 (by have := o_cl (rfl : a.toInt = a.toInt) (by omega); omega) (by have := o_cl (rfl : a.toInt = a.toInt) (by omega); omega)
      refine q_ldc_w (v := 1000000000) C kC_RX11_366 dX11_way_34 ?_
      refine lv_icmp_ne (tgt := 42) hx hb dX11_way_37 (by decide) (fun c_23 => ?_) (fun c_23 => ?_)
      · have hc_23 := o_ne (rfl : z_22.toInt = z_22.toInt) (by decide : (1000000000 : Int32).toInt = 1000000000) c_23
        have hnc_23 : 0 ≤ (-1) * z_22.toInt + 999999999 := by rcases Int.lt_or_gt_of_ne hc_23 with h9 | h9 <;> omega
        have hq_24 := hp_5 (by omega)
        rw [← en_1] at hq_24
        have hq_23 := Fi.top (a := a) hp_20 hp_19 (by omega) (by omega) (by rw [← en_1]; omega) ez_22 (by omega)
        refine lv_iload_n hx hb dX11_way_42 rfl (lv_at hl 1 rfl) ?_
        refine lv_istore_n (lv' := [(3, .int a), (0, .ref q), (1, .int a), (2, .int b)]) hx hb dX11_way_43 rfl hl (by decide) rfl (fun ls hl => ?_)
        refine lv_aload_n hx hb dX11_way_44 rfl (lv_at hl 1 rfl) ?_
        refine lv_aload_n hx hb dX11_way_45 rfl (lv_at hl 1 rfl) ?_
        refine q_get11 (v := .ref q_far_) C hP 1 28 rfl fT_28 (by decide) kF_RX11_56 rfl dX11_way_46 ?_
        refine lv_iload_n hx hb dX11_way_49 rfl (lv_at hl 2 rfl) ?_
        refine q_iald (v := z_22) C hP 3 rfl (o_in (rfl : a.toInt = a.toInt) (by omega) (by omega)) ez_22.symm dX11_way_50 ?_
        refine lv_iconst (v := 1) hx hb dX11_way_51 (by decide) ?_
        refine lv_iadd hx hb dX11_way_52 ?_
        refine lv_topi (fun z_26 hz_26 => ?_)
        have hz_26 := o_add hz_26 (rfl : z_22.toInt = z_22.toInt) (by decide : (1 : Int32).toInt = 1) (by omega) (by omega)
        refine q_put11 (v := .int z_26) (w' := [(q_wayRow_, aC1 cy 8 q_wayRow), (q, oC11 0 q_tape_ q_length q_size q_p q_limit q_s_ q_h_ q_read_ q_names_ q_reserved_ q_token q_at q_span q_number q_fault q_faultAt q_word q_got q_lines q_onces q_webs q_one q_two q_seed q_undone_ q_before_ q_undoMany q_far_ q_wayRow_ z_26 q_keptRow_ q_askedRow_ q_rares_ q_trial_ q_keptMany q_askedMany q_hangs_ q_paths_ q_tornSteps q_hasTorn q_turnOne q_hasTurn q_text_ q_textMany q_toldMany q_toldAt_ q_hasTold q_stack_ q_codes q_ones q_top q_deep q_isWhole q_truths_ q_imaged_ q_namesKept_ q_areKept_), (q_s_, aC1 cy 383 q_s), (q_far_, aC1 cy 8 g_19)]) C hP hD hS 1 30 rfl fT_30 fy_30 (by decide) kF_RX11_62 rfl rfl (Nat.le_of_ble_eq_true rfl) rfl dX11_way_53 (fun H locs hP hD hS => ?_)
        refine lv_aload_n hx hb dX11_way_56 rfl (lv_at hl 1 rfl) ?_
        refine q_get11 (v := .ref q_wayRow_) C hP 1 29 rfl fT_29 (by decide) kF_RX11_59 rfl dX11_way_57 ?_
        refine lv_iconst (v := 0) hx hb dX11_way_60 (by decide) ?_
        refine lv_iload_n hx hb dX11_way_61 rfl (lv_at hl 2 rfl) ?_
        refine q_iast (g := upd q_wayRow 0 a) (w' := [(q_wayRow_, aC1 cy 8 (upd q_wayRow 0 a)), (q, oC11 0 q_tape_ q_length q_size q_p q_limit q_s_ q_h_ q_read_ q_names_ q_reserved_ q_token q_at q_span q_number q_fault q_faultAt q_word q_got q_lines q_onces q_webs q_one q_two q_seed q_undone_ q_before_ q_undoMany q_far_ q_wayRow_ z_26 q_keptRow_ q_askedRow_ q_rares_ q_trial_ q_keptMany q_askedMany q_hangs_ q_paths_ q_tornSteps q_hasTorn q_turnOne q_hasTurn q_text_ q_textMany q_toldMany q_toldAt_ q_hasTold q_stack_ q_codes q_ones q_top q_deep q_isWhole q_truths_ q_imaged_ q_namesKept_ q_areKept_), (q_s_, aC1 cy 383 q_s), (q_far_, aC1 cy 8 g_19)]) C hP hD hS 0 rfl (vin (by decide +kernel)) rfl rfl dX11_way_62 (fun H locs hP hD hS => ?_)
        generalize upd q_wayRow 0 a = g_27 at hP hD 
        have hP : va_P D vwCl [(q_wayRow_, aC1 cy 8 g_27), (q, oC11 0 q_tape_ q_length q_size q_p q_limit q_s_ q_h_ q_read_ q_names_ q_reserved_ q_token q_at q_span q_number q_fault q_faultAt q_word q_got q_lines q_onces q_webs q_one q_two q_seed q_undone_ q_before_ q_undoMany q_far_ q_wayRow_ z_26 q_keptRow_ q_askedRow_ q_rares_ q_trial_ q_keptMany q_askedMany q_hangs_ q_paths_ q_tornSteps q_hasTorn q_turnOne q_hasTurn q_text_ q_textMany q_toldMany q_toldAt_ q_hasTold q_stack_ q_codes q_ones q_top q_deep q_isWhole q_truths_ q_imaged_ q_namesKept_ q_areKept_), (q_s_, aC1 cy 383 q_s), (q_far_, aC1 cy 8 g_19)] H := hP
        have hD : va_D A [(q_wayRow_, aC1 cy 8 g_27), (q, oC11 0 q_tape_ q_length q_size q_p q_limit q_s_ q_h_ q_read_ q_names_ q_reserved_ q_token q_at q_span q_number q_fault q_faultAt q_word q_got q_lines q_onces q_webs q_one q_two q_seed q_undone_ q_before_ q_undoMany q_far_ q_wayRow_ z_26 q_keptRow_ q_askedRow_ q_rares_ q_trial_ q_keptMany q_askedMany q_hangs_ q_paths_ q_tornSteps q_hasTorn q_turnOne q_hasTurn q_text_ q_textMany q_toldMany q_toldAt_ q_hasTold q_stack_ q_codes q_ones q_top q_deep q_isWhole q_truths_ q_imaged_ q_namesKept_ q_areKept_), (q_s_, aC1 cy 383 q_s), (q_far_, aC1 cy 8 g_19)] := hD
        have hq_27 : (g_19 a.toNatClampNeg).toInt = z_26.toInt - (1 : Int32).toInt := way_of ez_22 (by have e1 : (1 : Int32).toInt = 1 := (by decide); omega)
        refine lv_iconst (v := 1) hx hb dX11_way_63 (by decide) ?_
        refine lv_istore (lv' := [(4, .int 1), (3, .int a), (0, .ref q), (1, .int a), (2, .int b)]) hx hb dX11_way_64 hl (by decide) rfl (fun ls hl => ?_)
        have lp_66_31 : ∀ (n_32 : Nat) (x_29 : Int32) (x_30 : Int32) (g_31 : Nat → Int32) (H : Heap) (locs : List Loc) (ls : Array Slot), (-1) * x_30.toInt + 8 < (n_32 : Int) → (1 ≤ x_30.toInt ∧ x_30.toInt ≤ 8) → (0 ≤ n_1.toInt + (-1) * x_29.toInt + (-1)) → (0 ≤ x_29.toInt) → ((g_19 x_29.toNatClampNeg).toInt = z_26.toInt - x_30.toInt) → va_P D vwCl [(q_wayRow_, aC1 cy 8 g_31), (q, oC11 0 q_tape_ q_length q_size q_p q_limit q_s_ q_h_ q_read_ q_names_ q_reserved_ q_token q_at q_span q_number q_fault q_faultAt q_word q_got q_lines q_onces q_webs q_one q_two q_seed q_undone_ q_before_ q_undoMany q_far_ q_wayRow_ z_26 q_keptRow_ q_askedRow_ q_rares_ q_trial_ q_keptMany q_askedMany q_hangs_ q_paths_ q_tornSteps q_hasTorn q_turnOne q_hasTurn q_text_ q_textMany q_toldMany q_toldAt_ q_hasTold q_stack_ q_codes q_ones q_top q_deep q_isWhole q_truths_ q_imaged_ q_namesKept_ q_areKept_), (q_s_, aC1 cy 383 q_s), (q_far_, aC1 cy 8 g_19)] H → va_D A [(q_wayRow_, aC1 cy 8 g_31), (q, oC11 0 q_tape_ q_length q_size q_p q_limit q_s_ q_h_ q_read_ q_names_ q_reserved_ q_token q_at q_span q_number q_fault q_faultAt q_word q_got q_lines q_onces q_webs q_one q_two q_seed q_undone_ q_before_ q_undoMany q_far_ q_wayRow_ z_26 q_keptRow_ q_askedRow_ q_rares_ q_trial_ q_keptMany q_askedMany q_hangs_ q_paths_ q_tornSteps q_hasTorn q_turnOne q_hasTurn q_text_ q_textMany q_toldMany q_toldAt_ q_hasTold q_stack_ q_codes q_ones q_top q_deep q_isWhole q_truths_ q_imaged_ q_namesKept_ q_areKept_), (q_s_, aC1 cy 383 q_s), (q_far_, aC1 cy 8 g_19)] → va_S A s.heap H locs → lv_has ls 6 [(0, .ref q), (3, .int x_29), (4, .int x_30)] → W p l e (Rm 3 69 0 0) s m args below meth c H locs cells slots Q (F0 m 66 ls []) := by
          intro n_32
          induction n_32 with
          | zero =>
            intro x_29 x_30 g_31 H locs ls hm_37 hf_33 hf_34 hf_35 hf_36 hP hD hS hl
            exact absurd hm_37 (by omega)
          | succ n_32 ih_38 =>
            intro x_29 x_30 g_31 H locs ls hm_37 hf_33 hf_34 hf_35 hf_36 hP hD hS hl
            refine lv_iload hx hb dX11_way_66 (lv_at hl 2 rfl) ?_
            refine lv_aload_n hx hb dX11_way_68 rfl (lv_at hl 0 rfl) ?_
            refine q_get11 (v := .int z_26) C hP 1 30 rfl fT_30 (by decide) kF_RX11_62 rfl dX11_way_69 ?_
            refine lv_icmp_ge (tgt := 133) hx hb dX11_way_72 (by decide) (fun c_40 => ?_) (fun c_40 => ?_)
            · have hc_40 := o_le (rfl : z_26.toInt = z_26.toInt) (rfl : x_30.toInt = x_30.toInt) c_40
              refine lv_aload_n hx hb dX11_way_133 rfl (lv_at hl 0 rfl) ?_
              refine q_get11 (v := .int z_26) C hP 1 30 rfl fT_30 (by decide) kF_RX11_62 rfl dX11_way_134 ?_
              refine lv_iconst (v := 1) hx hb dX11_way_137 (by decide) ?_
              refine lv_isub hx hb dX11_way_138 ?_
              refine lv_topi (fun z_41 hz_41 => ?_)
              have hz_41 := o_sub hz_41 (rfl : z_26.toInt = z_26.toInt) (by decide : (1 : Int32).toInt = 1) (by omega) (by omega)
              refine o_wq hQ ?_
              exact q_iret (rm := (Rm 3 69 0 0)) C hS (0, z_26, g_19, g_31) rfl ⟨(show (-1) ≤ z_41.toInt ∧ z_41.toInt ≤ 7 by omega), (show (-1) ≤ z_26.toInt ∧ z_26.toInt ≤ 8 by omega), hp_19⟩ (q_subP hP [1, 2, 3, 0] rfl) (hD.sub [1, 2, 3, 0] (by decide) rfl) hroom.1 hroom.2 dX11_way_139
            · have hc_40 := o_nle (rfl : z_26.toInt = z_26.toInt) (rfl : x_30.toInt = x_30.toInt) c_40
              obtain ⟨z_42, ez_42⟩ : ∃ z : Int32, z = g_19 x_29.toNatClampNeg := ⟨_, rfl⟩
              have hz_42 := way_at hf_36 ez_42
              obtain ⟨w_44, hq_44⟩ := Fi.next (a := x_29) hp_20 hp_19 (by omega) (by omega) (by rw [← en_1]; omega) ez_42 (by omega) (by omega)
              have hq_45 := hq_44.1
              have hq_46 := hq_44.2.1
              have hq_47 : w_44.toInt < n_1.toInt := by rw [en_1]; exact hq_44.2.2.1
              refine lv_iconst (v := 0) hx hb dX11_way_75 (by decide) ?_
              refine lv_istore (lv' := [(5, .int 0), (0, .ref q), (3, .int x_29), (4, .int x_30)]) hx hb dX11_way_76 hl (by decide) rfl (fun ls hl => ?_)
              have lp_78_49 : ∀ (n_50 : Nat) (x_49 : Int32) (H : Heap) (locs : List Loc) (ls : Array Slot), (-1) * x_49.toInt + 2147483647 < (n_50 : Int) → (0 ≤ w_44.toInt + (-1) * x_49.toInt) → (0 ≤ x_49.toInt) → (x_49.toInt ≤ 2147483647) → va_P D vwCl [(q_wayRow_, aC1 cy 8 g_31), (q, oC11 0 q_tape_ q_length q_size q_p q_limit q_s_ q_h_ q_read_ q_names_ q_reserved_ q_token q_at q_span q_number q_fault q_faultAt q_word q_got q_lines q_onces q_webs q_one q_two q_seed q_undone_ q_before_ q_undoMany q_far_ q_wayRow_ z_26 q_keptRow_ q_askedRow_ q_rares_ q_trial_ q_keptMany q_askedMany q_hangs_ q_paths_ q_tornSteps q_hasTorn q_turnOne q_hasTurn q_text_ q_textMany q_toldMany q_toldAt_ q_hasTold q_stack_ q_codes q_ones q_top q_deep q_isWhole q_truths_ q_imaged_ q_namesKept_ q_areKept_), (q_s_, aC1 cy 383 q_s), (q_far_, aC1 cy 8 g_19)] H → va_D A [(q_wayRow_, aC1 cy 8 g_31), (q, oC11 0 q_tape_ q_length q_size q_p q_limit q_s_ q_h_ q_read_ q_names_ q_reserved_ q_token q_at q_span q_number q_fault q_faultAt q_word q_got q_lines q_onces q_webs q_one q_two q_seed q_undone_ q_before_ q_undoMany q_far_ q_wayRow_ z_26 q_keptRow_ q_askedRow_ q_rares_ q_trial_ q_keptMany q_askedMany q_hangs_ q_paths_ q_tornSteps q_hasTorn q_turnOne q_hasTurn q_text_ q_textMany q_toldMany q_toldAt_ q_hasTold q_stack_ q_codes q_ones q_top q_deep q_isWhole q_truths_ q_imaged_ q_namesKept_ q_areKept_), (q_s_, aC1 cy 383 q_s), (q_far_, aC1 cy 8 g_19)] → va_S A s.heap H locs → lv_has ls 6 [(0, .ref q), (3, .int x_29), (4, .int x_30), (5, .int x_49)] → W p l e (Rm 3 69 0 0) s m args below meth c H locs cells slots Q (F0 m 78 ls []) := by
                intro n_50
                induction n_50 with
                | zero =>
                  intro x_49 H locs ls hm_54 hf_51 hf_52 hf_53 hP hD hS hl
                  exact absurd hm_54 (by omega)
                | succ n_50 ih_55 =>
                  intro x_49 H locs ls hm_54 hf_51 hf_52 hf_53 hP hD hS hl
                  refine lv_aload_n hx hb dX11_way_78 rfl (lv_at hl 0 rfl) ?_
                  refine lv_iload_n hx hb dX11_way_79 rfl (lv_at hl 1 rfl) ?_
                  refine q_ai (wr := [(q_wayRow_, aC1 cy 8 g_31), (q_far_, aC1 cy 8 g_19)]) (r_V (rm := (Rm 1 22 0 0)) (q0 := 0) (As := [.int x_29]) (rest := []) (wc := [(q, oC11 0 q_tape_ q_length q_size q_p q_limit q_s_ q_h_ q_read_ q_names_ q_reserved_ q_token q_at q_span q_number q_fault q_faultAt q_word q_got q_lines q_onces q_webs q_one q_two q_seed q_undone_ q_before_ q_undoMany q_far_ q_wayRow_ z_26 q_keptRow_ q_askedRow_ q_rares_ q_trial_ q_keptMany q_askedMany q_hangs_ q_paths_ q_tornSteps q_hasTorn q_turnOne q_hasTurn q_text_ q_textMany q_toldMany q_toldAt_ q_hasTold q_stack_ q_codes q_ones q_top q_deep q_isWhole q_truths_ q_imaged_ q_namesKept_ q_areKept_), (q_s_, aC1 cy 383 q_s)]) C hS (q_subP hP [1, 2] rfl) (hD.sub [1, 2] (by decide) rfl) (y_linesOf l D cy q x_29 0 q_tape_ q_length q_size q_p q_limit q_s_ q_h_ q_read_ q_names_ q_reserved_ q_token q_at q_span q_number q_fault q_faultAt q_word q_got q_lines q_onces q_webs q_one q_two q_seed q_undone_ q_before_ q_undoMany q_far_ q_wayRow_ z_26 q_keptRow_ q_askedRow_ q_rares_ q_trial_ q_keptMany q_askedMany q_hangs_ q_paths_ q_tornSteps q_hasTorn q_turnOne q_hasTurn q_text_ q_textMany q_toldMany q_toldAt_ q_hasTold q_stack_ q_codes q_ones q_top q_deep q_isWhole q_truths_ q_imaged_ q_namesKept_ q_areKept_ q_s _ (by omega) (by omega) (by omega) (by omega) (by omega) (by omega) (by omega) (by omega) (by omega) (by omega) (by omega) (by omega) (by omega) (by omega) (by omega) (by omega) (by omega) (by omega) (by omega) (by omega) (by omega) (by omega) (by omega) hR0 hR1 hR2 hR3 hR4 hR5 hR6 hR7 hR8) kwV_X11_linesOf kM_RX11_316 rfl rfl ⟨Nat.le_of_ble_eq_true rfl, Nat.le_of_ble_eq_true rfl⟩ rfl hl.1 rfl (Nat.le_of_ble_eq_true rfl) dX11_way_80 ⟨hroom.1, hroom.2⟩) C.2.2.2.2.2.2.1 hP hD hS [1, 2] [0, 3] rfl rfl (by decide) (by decide) (fun r_58 u_57 H locs hw_59 hP hD hS => ?_)
                  have hp_59 : 0 ≤ r_58.toInt ∧ r_58.toInt ≤ 255 := hw_59.1
                  have hp_60 : r_58 = lnF q_s x_29 (q_s 0).toNatClampNeg := hw_59.2
                  clear hw_59
                  refine lv_iload hx hb dX11_way_83 (lv_at hl 3 rfl) ?_
                  refine q_ai (wr := [(q_wayRow_, aC1 cy 8 g_31), (q_far_, aC1 cy 8 g_19), (q, oC11 0 q_tape_ q_length q_size q_p q_limit q_s_ q_h_ q_read_ q_names_ q_reserved_ q_token q_at q_span q_number q_fault q_faultAt q_word q_got q_lines q_onces q_webs q_one q_two q_seed q_undone_ q_before_ q_undoMany q_far_ q_wayRow_ z_26 q_keptRow_ q_askedRow_ q_rares_ q_trial_ q_keptMany q_askedMany q_hangs_ q_paths_ q_tornSteps q_hasTorn q_turnOne q_hasTurn q_text_ q_textMany q_toldMany q_toldAt_ q_hasTold q_stack_ q_codes q_ones q_top q_deep q_isWhole q_truths_ q_imaged_ q_namesKept_ q_areKept_), (q_s_, aC1 cy 383 q_s)]) (r_S (rm := (Rm 0 0 0 0)) (As := [.int r_58, .int x_49]) (rest := []) (wc := []) C hS (q_subP hP [] rfl) (hD.sub [] (by decide) rfl) (y_bitOf l D cy r_58 x_49 _ ) kwS_X11_bitOf kM_RX11_231 ⟨Nat.le_of_ble_eq_true rfl, Nat.le_of_ble_eq_true rfl⟩ rfl hl.1 rfl (Nat.le_of_ble_eq_true rfl) dX11_way_85 ⟨hroom.1, hroom.2⟩) C.2.2.2.2.2.2.1 hP hD hS [] [0, 1, 2, 3] rfl rfl (by decide) (by decide) (fun r_63 u_62 H locs hw_64 hP hD hS => ?_)
                  have hp_64 : 0 ≤ r_63.toInt ∧ r_63.toInt ≤ 1 := hw_64.1
                  have hp_65 : r_63 = bt r_58 x_49 := hw_64.2
                  clear hw_64
                  refine lv_if_eq (tgt := 109) hx hb dX11_way_88 (by decide) (fun c_67 => ?_) (fun c_67 => ?_)
                  · have hc_67 := o_eq (rfl : r_63.toInt = r_63.toInt) (by decide : (0 : Int32).toInt = 0) c_67
                    have hq_67 := Nx.neE (i := x_49) hq_44 hp_60 hp_65 (by omega) (by omega)
                    obtain ⟨z_69, hz_69⟩ : ∃ z : Int32, z = x_49 + 1 := ⟨_, rfl⟩
                    refine lv_iinc (v := z_69) (lv' := [(5, .int z_69), (0, .ref q), (3, .int x_29), (4, .int x_30)]) hx hb dX11_way_109 hl (k := 3) rfl hz_69.symm (by decide) rfl (fun ls hl => ?_)
                    have hz_69 := o_add hz_69 (rfl : x_49.toInt = x_49.toInt) (by decide : (1 : Int32).toInt = 1) (by omega) (by omega)
                    refine lv_goto (tgt := 78) hx hb dX11_way_112 (by decide) ?_
                    exact ih_55 z_69 H locs ls (by omega) (by omega) (by omega) (by omega) (q_subP hP [0, 2, 3, 1] rfl) (hD.sub [0, 2, 3, 1] (by decide) rfl) hS (lv_sub hl [1, 2, 3, 0] rfl)
                  · have hc_67 := o_ne (rfl : r_63.toInt = r_63.toInt) (by decide : (0 : Int32).toInt = 0) c_67
                    have hnc_67 : 0 ≤ r_63.toInt + (-1) := by rcases Int.lt_or_gt_of_ne hc_67 with h9 | h9 <;> omega
                    refine lv_aload_n hx hb dX11_way_91 rfl (lv_at hl 0 rfl) ?_
                    refine q_get11 (v := .ref q_far_) C hP 2 28 rfl fT_28 (by decide) kF_RX11_56 rfl dX11_way_92 ?_
                    refine lv_iload hx hb dX11_way_95 (lv_at hl 3 rfl) ?_
                    refine q_iald (v := g_19 x_49.toNatClampNeg) C hP 1 rfl (o_in (rfl : x_49.toInt = x_49.toInt) (by omega) (by omega)) rfl dX11_way_97 ?_
                    refine lv_topi (fun z_70 ez_70 => ?_)
                    have hz_70 := Rg.at hp_19 ez_70 (by have := o_cl (rfl : x_49.toInt = x_49.toInt) (by omega); omega) (by have := o_cl (rfl : x_49.toInt = x_49.toInt) (by omega); omega)
                    refine lv_aload_n hx hb dX11_way_98 rfl (lv_at hl 0 rfl) ?_
                    refine q_get11 (v := .ref q_far_) C hP 2 28 rfl fT_28 (by decide) kF_RX11_56 rfl dX11_way_99 ?_
                    refine lv_iload_n hx hb dX11_way_102 rfl (lv_at hl 1 rfl) ?_
                    refine q_iald (v := z_42) C hP 1 rfl (o_in (rfl : x_29.toInt = x_29.toInt) (by omega) (by omega)) ez_42.symm dX11_way_103 ?_
                    refine lv_iconst (v := 1) hx hb dX11_way_104 (by decide) ?_
                    refine lv_isub hx hb dX11_way_105 ?_
                    refine lv_topi (fun z_71 hz_71 => ?_)
                    have hz_71 := o_sub hz_71 (rfl : z_42.toInt = z_42.toInt) (by decide : (1 : Int32).toInt = 1) (by omega) (by omega)
                    refine lv_icmp_eq (tgt := 115) hx hb dX11_way_106 (by decide) (fun c_72 => ?_) (fun c_72 => ?_)
                    · have hc_72 := o_eq (rfl : z_70.toInt = z_70.toInt) (rfl : z_71.toInt = z_71.toInt) c_72
                      refine lv_aload_n hx hb dX11_way_115 rfl (lv_at hl 0 rfl) ?_
                      refine q_get11 (v := .ref q_wayRow_) C hP 2 29 rfl fT_29 (by decide) kF_RX11_59 rfl dX11_way_116 ?_
                      refine lv_iload hx hb dX11_way_119 (lv_at hl 2 rfl) ?_
                      refine lv_iload hx hb dX11_way_121 (lv_at hl 3 rfl) ?_
                      refine q_iast (g := upd g_31 x_30.toNatClampNeg x_49) (w' := [(q_wayRow_, aC1 cy 8 (upd g_31 x_30.toNatClampNeg x_49)), (q_far_, aC1 cy 8 g_19), (q, oC11 0 q_tape_ q_length q_size q_p q_limit q_s_ q_h_ q_read_ q_names_ q_reserved_ q_token q_at q_span q_number q_fault q_faultAt q_word q_got q_lines q_onces q_webs q_one q_two q_seed q_undone_ q_before_ q_undoMany q_far_ q_wayRow_ z_26 q_keptRow_ q_askedRow_ q_rares_ q_trial_ q_keptMany q_askedMany q_hangs_ q_paths_ q_tornSteps q_hasTorn q_turnOne q_hasTurn q_text_ q_textMany q_toldMany q_toldAt_ q_hasTold q_stack_ q_codes q_ones q_top q_deep q_isWhole q_truths_ q_imaged_ q_namesKept_ q_areKept_), (q_s_, aC1 cy 383 q_s)]) C hP hD hS 0 rfl (o_in (rfl : x_30.toInt = x_30.toInt) (by omega) (by omega)) rfl rfl dX11_way_123 (fun H locs hP hD hS => ?_)
                      generalize upd g_31 x_30.toNatClampNeg x_49 = g_73 at hP hD 
                      have hP : va_P D vwCl [(q_wayRow_, aC1 cy 8 g_73), (q_far_, aC1 cy 8 g_19), (q, oC11 0 q_tape_ q_length q_size q_p q_limit q_s_ q_h_ q_read_ q_names_ q_reserved_ q_token q_at q_span q_number q_fault q_faultAt q_word q_got q_lines q_onces q_webs q_one q_two q_seed q_undone_ q_before_ q_undoMany q_far_ q_wayRow_ z_26 q_keptRow_ q_askedRow_ q_rares_ q_trial_ q_keptMany q_askedMany q_hangs_ q_paths_ q_tornSteps q_hasTorn q_turnOne q_hasTurn q_text_ q_textMany q_toldMany q_toldAt_ q_hasTold q_stack_ q_codes q_ones q_top q_deep q_isWhole q_truths_ q_imaged_ q_namesKept_ q_areKept_), (q_s_, aC1 cy 383 q_s)] H := hP
                      have hD : va_D A [(q_wayRow_, aC1 cy 8 g_73), (q_far_, aC1 cy 8 g_19), (q, oC11 0 q_tape_ q_length q_size q_p q_limit q_s_ q_h_ q_read_ q_names_ q_reserved_ q_token q_at q_span q_number q_fault q_faultAt q_word q_got q_lines q_onces q_webs q_one q_two q_seed q_undone_ q_before_ q_undoMany q_far_ q_wayRow_ z_26 q_keptRow_ q_askedRow_ q_rares_ q_trial_ q_keptMany q_askedMany q_hangs_ q_paths_ q_tornSteps q_hasTorn q_turnOne q_hasTurn q_text_ q_textMany q_toldMany q_toldAt_ q_hasTold q_stack_ q_codes q_ones q_top q_deep q_isWhole q_truths_ q_imaged_ q_namesKept_ q_areKept_), (q_s_, aC1 cy 383 q_s)] := hD
                      refine lv_iload hx hb dX11_way_124 (lv_at hl 3 rfl) ?_
                      refine lv_istore_n (lv' := [(3, .int x_49), (0, .ref q), (4, .int x_30), (5, .int x_49)]) hx hb dX11_way_126 rfl hl (by decide) rfl (fun ls hl => ?_)
                      obtain ⟨z_74, hz_74⟩ : ∃ z : Int32, z = x_30 + 1 := ⟨_, rfl⟩
                      refine lv_iinc (v := z_74) (lv' := [(4, .int z_74), (3, .int x_49), (0, .ref q), (5, .int x_49)]) hx hb dX11_way_127 hl (k := 2) rfl hz_74.symm (by decide) rfl (fun ls hl => ?_)
                      have hz_74 := o_add hz_74 (rfl : x_30.toInt = x_30.toInt) (by decide : (1 : Int32).toInt = 1) (by omega) (by omega)
                      have hq_74 : (g_19 x_49.toNatClampNeg).toInt = z_26.toInt - z_74.toInt := way_of ez_70 (by omega)
                      refine lv_goto (tgt := 66) hx hb dX11_way_130 (by decide) ?_
                      exact ih_38 x_49 z_74 g_73 H locs ls (by omega) (by omega) (by omega) (by omega) hq_74 (q_subP hP [0, 2, 3, 1] rfl) (hD.sub [0, 2, 3, 1] (by decide) rfl) hS (lv_sub hl [2, 1, 0] rfl)
                    · have hc_72 := o_ne (rfl : z_70.toInt = z_70.toInt) (rfl : z_71.toInt = z_71.toInt) c_72
                      have hq_75 := Nx.neC (i := x_49) hq_44 ez_70 ez_42 (by omega) (by omega)
                      obtain ⟨z_77, hz_77⟩ : ∃ z : Int32, z = x_49 + 1 := ⟨_, rfl⟩
                      refine lv_iinc (v := z_77) (lv' := [(5, .int z_77), (0, .ref q), (3, .int x_29), (4, .int x_30)]) hx hb dX11_way_109 hl (k := 3) rfl hz_77.symm (by decide) rfl (fun ls hl => ?_)
                      have hz_77 := o_add hz_77 (rfl : x_49.toInt = x_49.toInt) (by decide : (1 : Int32).toInt = 1) (by omega) (by omega)
                      refine lv_goto (tgt := 78) hx hb dX11_way_112 (by decide) ?_
                      exact ih_55 z_77 H locs ls (by omega) (by omega) (by omega) (by omega) (q_subP hP [0, 2, 3, 1] rfl) (hD.sub [0, 2, 3, 1] (by decide) rfl) hS (lv_sub hl [1, 2, 3, 0] rfl)
              exact lp_78_49 2147483648 (0 : Int32) H locs ls (by have e0 : (0 : Int32).toInt = 0 := (by decide); omega) (by have e0 : (0 : Int32).toInt = 0 := (by decide); omega) (by have e0 : (0 : Int32).toInt = 0 := (by decide); omega) (by have e0 : (0 : Int32).toInt = 0 := (by decide); omega) hP hD hS (lv_sub hl [1, 2, 3, 0] rfl)
        exact lp_66_31 8 a (1 : Int32) g_27 H locs ls (by have e0 : (1 : Int32).toInt = 1 := (by decide); omega) (by have e0 : (1 : Int32).toInt = 1 := (by decide); omega) (by have e0 : (1 : Int32).toInt = 1 := (by decide); omega) (by have e0 : (1 : Int32).toInt = 1 := (by decide); omega) hq_27 hP hD hS (lv_sub hl [2, 1, 0] rfl)
      · have hc_23 := o_eq (rfl : z_22.toInt = z_22.toInt) (by decide : (1000000000 : Int32).toInt = 1000000000) c_23
        refine lv_iconst (v := (-1)) hx hb dX11_way_40 (by decide) ?_
        refine o_wq hQ ?_
        exact q_iret (rm := (Rm 3 69 0 0)) C hS (0, q_wayMany, g_19, q_wayRow) rfl ⟨(show (-1) ≤ ((-1) : Int32).toInt ∧ ((-1) : Int32).toInt ≤ 7 by decide), (show (-1) ≤ q_wayMany.toInt ∧ q_wayMany.toInt ≤ 8 by omega), hp_19⟩ (q_subP hP [1, 2, 3, 0] rfl) (hD.sub [1, 2, 3, 0] (by decide) rfl) hroom.1 hroom.2 dX11_way_41
    · have hc_15 := o_eq (rfl : r_10.toInt = r_10.toInt) (by decide : (0 : Int32).toInt = 0) c_15
      clear hp_13
      refine lv_iconst (v := (-1)) hx hb dX11_way_21 (by decide) ?_
      refine o_wq hQ ?_
      exact q_iret (rm := (Rm 3 69 0 0)) C hS (0, q_wayMany, q_far, q_wayRow) rfl ⟨(show (-1) ≤ ((-1) : Int32).toInt ∧ ((-1) : Int32).toInt ≤ 7 by decide), (show (-1) ≤ q_wayMany.toInt ∧ q_wayMany.toInt ≤ 8 by omega), hR9⟩ (q_subP hP [2, 3, 0, 1] rfl) (hD.sub [2, 3, 0, 1] (by decide) rfl) hroom.1 hroom.2 dX11_way_22
theorem y_way (l : Launch) (D : va_G) (cy : Nat → ClassId) (q : Nat) (a : Int32) (b : Int32) (q_thrown : Int32) (q_tape_ : Nat) (q_length : Int32) (q_size : Int32) (q_p : Int32) (q_limit : Int32) (q_s_ : Nat) (q_h_ : Nat) (q_read_ : Nat) (q_names_ : Nat) (q_reserved_ : Nat) (q_token : Int32) (q_at : Int32) (q_span : Int32) (q_number : Int32) (q_fault : Int32) (q_faultAt : Int32) (q_word : Int64) (q_got : Int32) (q_lines : Int32) (q_onces : Int32) (q_webs : Int32) (q_one : Int32) (q_two : Int32) (q_seed : Int32) (q_undone_ : Nat) (q_before_ : Nat) (q_undoMany : Int32) (q_far_ : Nat) (q_wayRow_ : Nat) (q_wayMany : Int32) (q_keptRow_ : Nat) (q_askedRow_ : Nat) (q_rares_ : Nat) (q_trial_ : Nat) (q_keptMany : Int32) (q_askedMany : Int32) (q_hangs_ : Nat) (q_paths_ : Nat) (q_tornSteps : Int32) (q_hasTorn : Int32) (q_turnOne : Int32) (q_hasTurn : Int32) (q_text_ : Nat) (q_textMany : Int32) (q_toldMany : Int32) (q_toldAt_ : Nat) (q_hasTold : Int32) (q_stack_ : Nat) (q_codes : Int32) (q_ones : Int32) (q_top : Int32) (q_deep : Int32) (q_isWhole : Int32) (q_truths_ : Nat) (q_imaged_ : Nat) (q_namesKept_ : Nat) (q_areKept_ : Nat) (q_s : Nat → Int32) (q_far : Nat → Int32) (q_wayRow : Nat → Int32) (sz : Nat) (hb0 : 0 ≤ q_length.toInt ∧ q_length.toInt ≤ 940) (hb1 : 0 ≤ q_size.toInt ∧ q_size.toInt ≤ 940) (hb2 : 0 ≤ q_p.toInt ∧ q_p.toInt ≤ 940) (hb3 : 0 ≤ q_limit.toInt ∧ q_limit.toInt ≤ 940) (hb4 : 0 ≤ q_span.toInt ∧ q_span.toInt ≤ 940) (hb5 : 0 ≤ q_number.toInt ∧ q_number.toInt ≤ 8214) (hb6 : (-1) ≤ q_got.toInt ∧ q_got.toInt ≤ 8214) (hb7 : 0 ≤ q_one.toInt ∧ q_one.toInt ≤ 7) (hb8 : 0 ≤ q_two.toInt ∧ q_two.toInt ≤ 7) (hb9 : 0 ≤ q_undoMany.toInt ∧ q_undoMany.toInt ≤ 8) (hb10 : (-1) ≤ q_wayMany.toInt ∧ q_wayMany.toInt ≤ 8) (hb11 : (-1) ≤ q_keptMany.toInt ∧ q_keptMany.toInt ≤ 8) (hb12 : (-1) ≤ q_askedMany.toInt ∧ q_askedMany.toInt ≤ 3) (hb13 : 0 ≤ q_hasTorn.toInt ∧ q_hasTorn.toInt ≤ 1) (hb14 : 0 ≤ q_hasTurn.toInt ∧ q_hasTurn.toInt ≤ 1) (hb15 : 0 ≤ q_textMany.toInt ∧ q_textMany.toInt ≤ 48) (hb16 : 0 ≤ q_toldMany.toInt ∧ q_toldMany.toInt ≤ 40) (hb17 : 0 ≤ q_hasTold.toInt ∧ q_hasTold.toInt ≤ 1) (hb18 : 0 ≤ q_codes.toInt ∧ q_codes.toInt ≤ 40) (hb19 : 0 ≤ q_ones.toInt ∧ q_ones.toInt ≤ 20) (hb20 : 0 ≤ q_top.toInt ∧ q_top.toInt ≤ 40) (hb21 : 0 ≤ q_isWhole.toInt ∧ q_isWhole.toInt ≤ 1) (hR0 : Rg q_s 0 1 0 8) (hR1 : Rg q_s 1 3 0 6) (hR2 : Rg q_s 3 4 1 50) (hR3 : Rg q_s 4 5 1 5) (hR4 : Rg q_s 103 104 0 255) (hR5 : Rg q_s 7 23 0 5) (hR6 : Rg q_s 106 122 0 5) (hR7 : Rg q_s 23 31 0 99) (hR8 : Rg q_s 122 130 0 99) (hR9 : Rg q_far 0 8 0 1000000000) : MI l yX11_way cX11_way 6 (some .int) (Rm 3 69 0 0) D cy [.ref q, .int a, .int b] sz [(q, oC11 q_thrown q_tape_ q_length q_size q_p q_limit q_s_ q_h_ q_read_ q_names_ q_reserved_ q_token q_at q_span q_number q_fault q_faultAt q_word q_got q_lines q_onces q_webs q_one q_two q_seed q_undone_ q_before_ q_undoMany q_far_ q_wayRow_ q_wayMany q_keptRow_ q_askedRow_ q_rares_ q_trial_ q_keptMany q_askedMany q_hangs_ q_paths_ q_tornSteps q_hasTorn q_turnOne q_hasTurn q_text_ q_textMany q_toldMany q_toldAt_ q_hasTold q_stack_ q_codes q_ones q_top q_deep q_isWhole q_truths_ q_imaged_ q_namesKept_ q_areKept_), (q_s_, aC1 cy 383 q_s), (q_far_, aC1 cy 8 q_far), (q_wayRow_, aC1 cy 8 q_wayRow)] (fun (r : Int32) (u : Int32 × Int32 × (Nat → Int32) × (Nat → Int32)) => ((-1) ≤ r.toInt ∧ r.toInt ≤ 7) ∧ ((-1) ≤ u.2.1.toInt ∧ u.2.1.toInt ≤ 8) ∧ (Rg u.2.2.1 0 8 0 1000000000)) (fun u : Int32 × Int32 × (Nat → Int32) × (Nat → Int32) => [(q, oC11 u.1 q_tape_ q_length q_size q_p q_limit q_s_ q_h_ q_read_ q_names_ q_reserved_ q_token q_at q_span q_number q_fault q_faultAt q_word q_got q_lines q_onces q_webs q_one q_two q_seed q_undone_ q_before_ q_undoMany q_far_ q_wayRow_ u.2.1 q_keptRow_ q_askedRow_ q_rares_ q_trial_ q_keptMany q_askedMany q_hangs_ q_paths_ q_tornSteps q_hasTorn q_turnOne q_hasTurn q_text_ q_textMany q_toldMany q_toldAt_ q_hasTold q_stack_ q_codes q_ones q_top q_deep q_isWhole q_truths_ q_imaged_ q_namesKept_ q_areKept_), (q_s_, aC1 cy 383 q_s), (q_far_, aC1 cy 8 u.2.2.1), (q_wayRow_, aC1 cy 8 u.2.2.2)]) := by
  refine MI.enter (by decide) (Nat.le_of_ble_eq_true rfl) ?_
  intro p e s m below meth c ls A hsz hAe C hP hD hS hl
  exact b_y_way l D cy q a b q_thrown q_tape_ q_length q_size q_p q_limit q_s_ q_h_ q_read_ q_names_ q_reserved_ q_token q_at q_span q_number q_fault q_faultAt q_word q_got q_lines q_onces q_webs q_one q_two q_seed q_undone_ q_before_ q_undoMany q_far_ q_wayRow_ q_wayMany q_keptRow_ q_askedRow_ q_rares_ q_trial_ q_keptMany q_askedMany q_hangs_ q_paths_ q_tornSteps q_hasTorn q_turnOne q_hasTurn q_text_ q_textMany q_toldMany q_toldAt_ q_hasTold q_stack_ q_codes q_ones q_top q_deep q_isWhole q_truths_ q_imaged_ q_namesKept_ q_areKept_ q_s q_far q_wayRow hb0 hb1 hb2 hb3 hb4 hb5 hb6 hb7 hb8 hb9 hb10 hb11 hb12 hb13 hb14 hb15 hb16 hb17 hb18 hb19 hb20 hb21 hR0 hR1 hR2 hR3 hR4 hR5 hR6 hR7 hR8 hR9 ⟨Nat.le_of_ble_eq_true rfl, Nat.le_of_ble_eq_true rfl⟩ C rfl _ _ ls hP hD hS hl
