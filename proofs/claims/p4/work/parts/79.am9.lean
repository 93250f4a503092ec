theorem dX11_isLeaf_0 : decode cX11_isLeaf 0 = .ok (.iload_n 2, 1) := by decide +kernel
theorem dX11_isLeaf_1 : decode cX11_isLeaf 1 = .ok (.tableswitch 91 0 5 #[39, 39, 39, 62, 74, 80], 39) := by decide +kernel
theorem dX11_isLeaf_40 : decode cX11_isLeaf 40 = .ok (.aload_n 0, 1) := by decide +kernel
theorem dX11_isLeaf_41 : decode cX11_isLeaf 41 = .ok (.aload_n 0, 1) := by decide +kernel
theorem dX11_isLeaf_42 : decode cX11_isLeaf 42 = .ok (.getfield 33, 3) := by decide +kernel
theorem dX11_isLeaf_45 : decode cX11_isLeaf 45 = .ok (.bipush 122, 2) := by decide +kernel
theorem dX11_isLeaf_47 : decode cX11_isLeaf 47 = .ok (.iload_n 1, 1) := by decide +kernel
theorem dX11_isLeaf_48 : decode cX11_isLeaf 48 = .ok (.iadd, 1) := by decide +kernel
theorem dX11_isLeaf_49 : decode cX11_isLeaf 49 = .ok (.iaload, 1) := by decide +kernel
theorem dX11_isLeaf_50 : decode cX11_isLeaf 50 = .ok (.invokevirtual 313, 3) := by decide +kernel
theorem dX11_isLeaf_53 : decode cX11_isLeaf 53 = .ok (.iload_n 2, 1) := by decide +kernel
theorem dX11_isLeaf_54 : decode cX11_isLeaf 54 = .ok (.if_icmp .ne 7, 3) := by decide +kernel
theorem dX11_isLeaf_61 : decode cX11_isLeaf 61 = .ok (.iconst 0, 1) := by decide +kernel
theorem dX11_isLeaf_62 : decode cX11_isLeaf 62 = .ok (.ireturn, 1) := by decide +kernel
theorem dX11_isLeaf_57 : decode cX11_isLeaf 57 = .ok (.iconst 1, 1) := by decide +kernel
theorem dX11_isLeaf_58 : decode cX11_isLeaf 58 = .ok (.goto 4, 3) := by decide +kernel
theorem dX11_isLeaf_63 : decode cX11_isLeaf 63 = .ok (.aload_n 0, 1) := by decide +kernel
theorem dX11_isLeaf_64 : decode cX11_isLeaf 64 = .ok (.getfield 33, 3) := by decide +kernel
theorem dX11_isLeaf_67 : decode cX11_isLeaf 67 = .ok (.bipush 103, 2) := by decide +kernel
theorem dX11_isLeaf_69 : decode cX11_isLeaf 69 = .ok (.iaload, 1) := by decide +kernel
theorem dX11_isLeaf_70 : decode cX11_isLeaf 70 = .ok (.iload_n 1, 1) := by decide +kernel
theorem dX11_isLeaf_71 : decode cX11_isLeaf 71 = .ok (.invokestatic 231, 3) := by decide +kernel
theorem dX11_isLeaf_74 : decode cX11_isLeaf 74 = .ok (.ireturn, 1) := by decide +kernel
theorem dX11_isLeaf_75 : decode cX11_isLeaf 75 = .ok (.aload_n 0, 1) := by decide +kernel
theorem dX11_isLeaf_76 : decode cX11_isLeaf 76 = .ok (.iload_n 1, 1) := by decide +kernel
theorem dX11_isLeaf_77 : decode cX11_isLeaf 77 = .ok (.invokevirtual 338, 3) := by decide +kernel
theorem dX11_isLeaf_80 : decode cX11_isLeaf 80 = .ok (.ireturn, 1) := by decide +kernel
theorem dX11_isLeaf_81 : decode cX11_isLeaf 81 = .ok (.aload_n 0, 1) := by decide +kernel
theorem dX11_isLeaf_82 : decode cX11_isLeaf 82 = .ok (.iload 4, 2) := by decide +kernel
theorem dX11_isLeaf_84 : decode cX11_isLeaf 84 = .ok (.invokevirtual 370, 3) := by decide +kernel
theorem dX11_isLeaf_87 : decode cX11_isLeaf 87 = .ok (.iload_n 1, 1) := by decide +kernel
theorem dX11_isLeaf_88 : decode cX11_isLeaf 88 = .ok (.invokestatic 231, 3) := by decide +kernel
theorem dX11_isLeaf_91 : decode cX11_isLeaf 91 = .ok (.ireturn, 1) := by decide +kernel
theorem dX11_isLeaf_92 : decode cX11_isLeaf 92 = .ok (.iload_n 2, 1) := by decide +kernel
theorem dX11_isLeaf_93 : decode cX11_isLeaf 93 = .ok (.bipush 6, 2) := by decide +kernel
theorem dX11_isLeaf_95 : decode cX11_isLeaf 95 = .ok (.if_icmp .ne 15, 3) := by decide +kernel
theorem dX11_isLeaf_110 : decode cX11_isLeaf 110 = .ok (.iload_n 2, 1) := by decide +kernel
theorem dX11_isLeaf_111 : decode cX11_isLeaf 111 = .ok (.bipush 7, 2) := by decide +kernel
theorem dX11_isLeaf_113 : decode cX11_isLeaf 113 = .ok (.if_icmp .ne 14, 3) := by decide +kernel
theorem dX11_isLeaf_127 : decode cX11_isLeaf 127 = .ok (.iload_n 1, 1) := by decide +kernel
theorem dX11_isLeaf_128 : decode cX11_isLeaf 128 = .ok (.istore 5, 2) := by decide +kernel
theorem dX11_isLeaf_130 : decode cX11_isLeaf 130 = .ok (.iload_n 3, 1) := by decide +kernel
theorem dX11_isLeaf_131 : decode cX11_isLeaf 131 = .ok (.bipush 60, 2) := by decide +kernel
theorem dX11_isLeaf_133 : decode cX11_isLeaf 133 = .ok (.if_icmp .ne 18, 3) := by decide +kernel
theorem dX11_isLeaf_151 : decode cX11_isLeaf 151 = .ok (.iload_n 3, 1) := by decide +kernel
theorem dX11_isLeaf_152 : decode cX11_isLeaf 152 = .ok (.bipush 61, 2) := by decide +kernel
theorem dX11_isLeaf_154 : decode cX11_isLeaf 154 = .ok (.if_icmp .ne 18, 3) := by decide +kernel
theorem dX11_isLeaf_172 : decode cX11_isLeaf 172 = .ok (.iload 5, 2) := by decide +kernel
theorem dX11_isLeaf_174 : decode cX11_isLeaf 174 = .ok (.iload 4, 2) := by decide +kernel
theorem dX11_isLeaf_176 : decode cX11_isLeaf 176 = .ok (.if_icmp .le 7, 3) := by decide +kernel
theorem dX11_isLeaf_183 : decode cX11_isLeaf 183 = .ok (.iconst 0, 1) := by decide +kernel
theorem dX11_isLeaf_184 : decode cX11_isLeaf 184 = .ok (.ireturn, 1) := by decide +kernel
theorem dX11_isLeaf_179 : decode cX11_isLeaf 179 = .ok (.iconst 1, 1) := by decide +kernel
theorem dX11_isLeaf_180 : decode cX11_isLeaf 180 = .ok (.goto 4, 3) := by decide +kernel
theorem dX11_isLeaf_157 : decode cX11_isLeaf 157 = .ok (.iload 5, 2) := by decide +kernel
theorem dX11_isLeaf_159 : decode cX11_isLeaf 159 = .ok (.iload 4, 2) := by decide +kernel
theorem dX11_isLeaf_161 : decode cX11_isLeaf 161 = .ok (.if_icmp .ne 7, 3) := by decide +kernel
theorem dX11_isLeaf_168 : decode cX11_isLeaf 168 = .ok (.iconst 0, 1) := by decide +kernel
theorem dX11_isLeaf_169 : decode cX11_isLeaf 169 = .ok (.goto 15, 3) := by decide +kernel
theorem dX11_isLeaf_164 : decode cX11_isLeaf 164 = .ok (.iconst 1, 1) := by decide +kernel
theorem dX11_isLeaf_165 : decode cX11_isLeaf 165 = .ok (.goto 19, 3) := by decide +kernel
theorem dX11_isLeaf_136 : decode cX11_isLeaf 136 = .ok (.iload 5, 2) := by decide +kernel
theorem dX11_isLeaf_138 : decode cX11_isLeaf 138 = .ok (.iload 4, 2) := by decide +kernel
theorem dX11_isLeaf_140 : decode cX11_isLeaf 140 = .ok (.if_icmp .ge 7, 3) := by decide +kernel
theorem dX11_isLeaf_147 : decode cX11_isLeaf 147 = .ok (.iconst 0, 1) := by decide +kernel
theorem dX11_isLeaf_148 : decode cX11_isLeaf 148 = .ok (.goto 36, 3) := by decide +kernel
theorem dX11_isLeaf_143 : decode cX11_isLeaf 143 = .ok (.iconst 1, 1) := by decide +kernel
theorem dX11_isLeaf_144 : decode cX11_isLeaf 144 = .ok (.goto 40, 3) := by decide +kernel
theorem dX11_isLeaf_116 : decode cX11_isLeaf 116 = .ok (.aload_n 0, 1) := by decide +kernel
theorem dX11_isLeaf_117 : decode cX11_isLeaf 117 = .ok (.iload_n 1, 1) := by decide +kernel
theorem dX11_isLeaf_118 : decode cX11_isLeaf 118 = .ok (.invokevirtual 316, 3) := by decide +kernel
theorem dX11_isLeaf_121 : decode cX11_isLeaf 121 = .ok (.invokestatic 257, 3) := by decide +kernel
theorem dX11_isLeaf_124 : decode cX11_isLeaf 124 = .ok (.goto 4, 3) := by decide +kernel
theorem dX11_isLeaf_98 : decode cX11_isLeaf 98 = .ok (.aload_n 0, 1) := by decide +kernel
theorem dX11_isLeaf_99 : decode cX11_isLeaf 99 = .ok (.getfield 33, 3) := by decide +kernel
theorem dX11_isLeaf_102 : decode cX11_isLeaf 102 = .ok (.bipush 122, 2) := by decide +kernel
theorem dX11_isLeaf_104 : decode cX11_isLeaf 104 = .ok (.iload_n 1, 1) := by decide +kernel
theorem dX11_isLeaf_105 : decode cX11_isLeaf 105 = .ok (.iadd, 1) := by decide +kernel
theorem dX11_isLeaf_106 : decode cX11_isLeaf 106 = .ok (.iaload, 1) := by decide +kernel
theorem dX11_isLeaf_107 : decode cX11_isLeaf 107 = .ok (.goto 21, 3) := by decide +kernel
theorem dX11_isSaid_0 : decode cX11_isSaid 0 = .ok (.iconst 0, 1) := by decide +kernel
theorem dX11_isSaid_1 : decode cX11_isSaid 1 = .ok (.istore_n 2, 1) := by decide +kernel
theorem dX11_isSaid_2 : decode cX11_isSaid 2 = .ok (.iconst 0, 1) := by decide +kernel
theorem dX11_isSaid_3 : decode cX11_isSaid 3 = .ok (.istore_n 3, 1) := by decide +kernel
theorem dX11_isSaid_4 : decode cX11_isSaid 4 = .ok (.iload_n 3, 1) := by decide +kernel
theorem dX11_isSaid_5 : decode cX11_isSaid 5 = .ok (.aload_n 0, 1) := by decide +kernel
theorem dX11_isSaid_6 : decode cX11_isSaid 6 = .ok (.getfield 33, 3) := by decide +kernel
theorem dX11_isSaid_9 : decode cX11_isSaid 9 = .ok (.sipush 202, 3) := by decide +kernel
theorem dX11_isSaid_12 : decode cX11_isSaid 12 = .ok (.iaload, 1) := by decide +kernel
theorem dX11_isSaid_13 : decode cX11_isSaid 13 = .ok (.if_icmp .ge 199, 3) := by decide +kernel
theorem dX11_isSaid_212 : decode cX11_isSaid 212 = .ok (.aload_n 0, 1) := by decide +kernel
theorem dX11_isSaid_213 : decode cX11_isSaid 213 = .ok (.getfield 98, 3) := by decide +kernel
theorem kF_RX11_98 : Cond.fieldLink RX11 98 "CobwebLibraryModel" "truths" "[Z" ∈ gT := List.mem_filter.mpr ⟨List.mem_of_getElem? (i := 1559) (by decide +kernel), by decide +kernel⟩
theorem dX11_isSaid_216 : decode cX11_isSaid 216 = .ok (.iconst 0, 1) := by decide +kernel
theorem dX11_isSaid_217 : decode cX11_isSaid 217 = .ok (.baload, 1) := by decide +kernel
theorem dX11_isSaid_218 : decode cX11_isSaid 218 = .ok (.ireturn, 1) := by decide +kernel
theorem dX11_isSaid_16 : decode cX11_isSaid 16 = .ok (.sipush 203, 3) := by decide +kernel
theorem dX11_isSaid_19 : decode cX11_isSaid 19 = .ok (.iconst 3, 1) := by decide +kernel
theorem dX11_isSaid_20 : decode cX11_isSaid 20 = .ok (.iload_n 3, 1) := by decide +kernel
theorem dX11_isSaid_21 : decode cX11_isSaid 21 = .ok (.imul, 1) := by decide +kernel
theorem dX11_isSaid_22 : decode cX11_isSaid 22 = .ok (.iadd, 1) := by decide +kernel
theorem dX11_isSaid_23 : decode cX11_isSaid 23 = .ok (.istore 4, 2) := by decide +kernel
theorem dX11_isSaid_25 : decode cX11_isSaid 25 = .ok (.aload_n 0, 1) := by decide +kernel
theorem dX11_isSaid_26 : decode cX11_isSaid 26 = .ok (.getfield 33, 3) := by decide +kernel
theorem dX11_isSaid_29 : decode cX11_isSaid 29 = .ok (.iload 4, 2) := by decide +kernel
theorem dX11_isSaid_31 : decode cX11_isSaid 31 = .ok (.iaload, 1) := by decide +kernel
theorem dX11_isSaid_32 : decode cX11_isSaid 32 = .ok (.bipush 20, 2) := by decide +kernel
theorem dX11_isSaid_34 : decode cX11_isSaid 34 = .ok (.if_icmp .ne 30, 3) := by decide +kernel
theorem dX11_isSaid_64 : decode cX11_isSaid 64 = .ok (.aload_n 0, 1) := by decide +kernel
theorem dX11_isSaid_65 : decode cX11_isSaid 65 = .ok (.getfield 33, 3) := by decide +kernel
theorem dX11_isSaid_68 : decode cX11_isSaid 68 = .ok (.iload 4, 2) := by decide +kernel
theorem dX11_isSaid_70 : decode cX11_isSaid 70 = .ok (.iaload, 1) := by decide +kernel
theorem dX11_isSaid_71 : decode cX11_isSaid 71 = .ok (.bipush 21, 2) := by decide +kernel
theorem dX11_isSaid_73 : decode cX11_isSaid 73 = .ok (.if_icmp .eq 15, 3) := by decide +kernel
theorem dX11_isSaid_88 : decode cX11_isSaid 88 = .ok (.iinc 2 (-1), 3) := by decide +kernel
theorem dX11_isSaid_91 : decode cX11_isSaid 91 = .ok (.aload_n 0, 1) := by decide +kernel
theorem dX11_isSaid_92 : decode cX11_isSaid 92 = .ok (.getfield 98, 3) := by decide +kernel
theorem dX11_isSaid_95 : decode cX11_isSaid 95 = .ok (.iload_n 2, 1) := by decide +kernel
theorem dX11_isSaid_96 : decode cX11_isSaid 96 = .ok (.iconst 1, 1) := by decide +kernel
theorem dX11_isSaid_97 : decode cX11_isSaid 97 = .ok (.isub, 1) := by decide +kernel
theorem dX11_isSaid_98 : decode cX11_isSaid 98 = .ok (.aload_n 0, 1) := by decide +kernel
theorem dX11_isSaid_99 : decode cX11_isSaid 99 = .ok (.getfield 33, 3) := by decide +kernel
theorem dX11_isSaid_102 : decode cX11_isSaid 102 = .ok (.iload 4, 2) := by decide +kernel
theorem dX11_isSaid_104 : decode cX11_isSaid 104 = .ok (.iaload, 1) := by decide +kernel
theorem dX11_isSaid_105 : decode cX11_isSaid 105 = .ok (.bipush 21, 2) := by decide +kernel
theorem dX11_isSaid_107 : decode cX11_isSaid 107 = .ok (.if_icmp .ne 31, 3) := by decide +kernel
theorem dX11_isSaid_110 : decode cX11_isSaid 110 = .ok (.aload_n 0, 1) := by decide +kernel
theorem dX11_isSaid_111 : decode cX11_isSaid 111 = .ok (.getfield 98, 3) := by decide +kernel
theorem dX11_isSaid_114 : decode cX11_isSaid 114 = .ok (.iload_n 2, 1) := by decide +kernel
theorem dX11_isSaid_115 : decode cX11_isSaid 115 = .ok (.iconst 1, 1) := by decide +kernel
theorem dX11_isSaid_116 : decode cX11_isSaid 116 = .ok (.isub, 1) := by decide +kernel
theorem dX11_isSaid_117 : decode cX11_isSaid 117 = .ok (.baload, 1) := by decide +kernel
theorem dX11_isSaid_118 : decode cX11_isSaid 118 = .ok (.ifCond .eq 16, 3) := by decide +kernel
theorem dX11_isSaid_134 : decode cX11_isSaid 134 = .ok (.iconst 0, 1) := by decide +kernel
theorem dX11_isSaid_135 : decode cX11_isSaid 135 = .ok (.goto 28, 3) := by decide +kernel
theorem dX11_isSaid_163 : decode cX11_isSaid 163 = .ok (.bastore, 1) := by decide +kernel
theorem dX11_isSaid_164 : decode cX11_isSaid 164 = .ok (.goto 42, 3) := by decide +kernel
theorem dX11_isSaid_206 : decode cX11_isSaid 206 = .ok (.iinc 3 1, 3) := by decide +kernel
theorem dX11_isSaid_209 : decode cX11_isSaid 209 = .ok (.goto (-205), 3) := by decide +kernel
theorem dX11_isSaid_121 : decode cX11_isSaid 121 = .ok (.aload_n 0, 1) := by decide +kernel
theorem dX11_isSaid_122 : decode cX11_isSaid 122 = .ok (.getfield 98, 3) := by decide +kernel
theorem dX11_isSaid_125 : decode cX11_isSaid 125 = .ok (.iload_n 2, 1) := by decide +kernel
theorem dX11_isSaid_126 : decode cX11_isSaid 126 = .ok (.baload, 1) := by decide +kernel
theorem dX11_isSaid_127 : decode cX11_isSaid 127 = .ok (.ifCond .eq 7, 3) := by decide +kernel
theorem dX11_isSaid_130 : decode cX11_isSaid 130 = .ok (.iconst 1, 1) := by decide +kernel
theorem dX11_isSaid_131 : decode cX11_isSaid 131 = .ok (.goto 32, 3) := by decide +kernel
theorem dX11_isSaid_76 : decode cX11_isSaid 76 = .ok (.aload_n 0, 1) := by decide +kernel
theorem dX11_isSaid_77 : decode cX11_isSaid 77 = .ok (.getfield 33, 3) := by decide +kernel
theorem dX11_isSaid_80 : decode cX11_isSaid 80 = .ok (.iload 4, 2) := by decide +kernel
theorem dX11_isSaid_82 : decode cX11_isSaid 82 = .ok (.iaload, 1) := by decide +kernel
theorem dX11_isSaid_83 : decode cX11_isSaid 83 = .ok (.bipush 22, 2) := by decide +kernel
theorem dX11_isSaid_85 : decode cX11_isSaid 85 = .ok (.if_icmp .ne 82, 3) := by decide +kernel
theorem dX11_isSaid_167 : decode cX11_isSaid 167 = .ok (.aload_n 0, 1) := by decide +kernel
theorem dX11_isSaid_168 : decode cX11_isSaid 168 = .ok (.getfield 98, 3) := by decide +kernel
theorem dX11_isSaid_171 : decode cX11_isSaid 171 = .ok (.iload_n 2, 1) := by decide +kernel
theorem dX11_isSaid_172 : decode cX11_isSaid 172 = .ok (.aload_n 0, 1) := by decide +kernel
theorem dX11_isSaid_173 : decode cX11_isSaid 173 = .ok (.iload_n 1, 1) := by decide +kernel
theorem dX11_isSaid_174 : decode cX11_isSaid 174 = .ok (.aload_n 0, 1) := by decide +kernel
theorem dX11_isSaid_175 : decode cX11_isSaid 175 = .ok (.getfield 33, 3) := by decide +kernel
theorem dX11_isSaid_178 : decode cX11_isSaid 178 = .ok (.iload 4, 2) := by decide +kernel
theorem dX11_isSaid_180 : decode cX11_isSaid 180 = .ok (.iaload, 1) := by decide +kernel
theorem dX11_isSaid_181 : decode cX11_isSaid 181 = .ok (.aload_n 0, 1) := by decide +kernel
theorem dX11_isSaid_182 : decode cX11_isSaid 182 = .ok (.getfield 33, 3) := by decide +kernel
theorem dX11_isSaid_185 : decode cX11_isSaid 185 = .ok (.iload 4, 2) := by decide +kernel
theorem dX11_isSaid_187 : decode cX11_isSaid 187 = .ok (.iconst 1, 1) := by decide +kernel
theorem dX11_isSaid_188 : decode cX11_isSaid 188 = .ok (.iadd, 1) := by decide +kernel
theorem dX11_isSaid_189 : decode cX11_isSaid 189 = .ok (.iaload, 1) := by decide +kernel
theorem dX11_isSaid_190 : decode cX11_isSaid 190 = .ok (.aload_n 0, 1) := by decide +kernel
theorem dX11_isSaid_191 : decode cX11_isSaid 191 = .ok (.getfield 33, 3) := by decide +kernel
theorem dX11_isSaid_194 : decode cX11_isSaid 194 = .ok (.iload 4, 2) := by decide +kernel
theorem dX11_isSaid_196 : decode cX11_isSaid 196 = .ok (.iconst 2, 1) := by decide +kernel
theorem dX11_isSaid_197 : decode cX11_isSaid 197 = .ok (.iadd, 1) := by decide +kernel
theorem dX11_isSaid_198 : decode cX11_isSaid 198 = .ok (.iaload, 1) := by decide +kernel
theorem dX11_isSaid_199 : decode cX11_isSaid 199 = .ok (.invokevirtual 506, 3) := by decide +kernel
theorem kwV_X11_isLeaf : MwV RX11 yX11_isLeaf cX11_isLeaf 6 (some .boolean) 4 := ⟨List.mem_filter.mpr ⟨List.mem_of_getElem? (i := 2134) (by decide +kernel), by decide +kernel⟩, List.mem_filter.mpr ⟨List.mem_of_getElem? (i := 2133) (by decide +kernel), by decide +kernel⟩, List.mem_filter.mpr ⟨List.mem_of_getElem? (i := 126) (by decide +kernel), by decide +kernel⟩, List.mem_filter.mpr ⟨List.mem_of_getElem? (i := 139) (by decide +kernel), by decide +kernel⟩, by decide +kernel⟩
theorem kM_RX11_506 : Cond.methodLink RX11 506 yX11_isLeaf ∈ gT := List.mem_filter.mpr ⟨List.mem_of_getElem? (i := 2131) (by decide +kernel), by decide +kernel⟩
theorem dX11_isSaid_202 : decode cX11_isSaid 202 = .ok (.bastore, 1) := by decide +kernel
theorem dX11_isSaid_203 : decode cX11_isSaid 203 = .ok (.iinc 2 1, 3) := by decide +kernel
theorem dX11_isSaid_138 : decode cX11_isSaid 138 = .ok (.aload_n 0, 1) := by decide +kernel
theorem dX11_isSaid_139 : decode cX11_isSaid 139 = .ok (.getfield 98, 3) := by decide +kernel
theorem dX11_isSaid_142 : decode cX11_isSaid 142 = .ok (.iload_n 2, 1) := by decide +kernel
theorem dX11_isSaid_143 : decode cX11_isSaid 143 = .ok (.iconst 1, 1) := by decide +kernel
theorem dX11_isSaid_144 : decode cX11_isSaid 144 = .ok (.isub, 1) := by decide +kernel
theorem dX11_isSaid_145 : decode cX11_isSaid 145 = .ok (.baload, 1) := by decide +kernel
theorem dX11_isSaid_146 : decode cX11_isSaid 146 = .ok (.ifCond .ne 12, 3) := by decide +kernel
theorem dX11_isSaid_158 : decode cX11_isSaid 158 = .ok (.iconst 1, 1) := by decide +kernel
theorem dX11_isSaid_159 : decode cX11_isSaid 159 = .ok (.goto 4, 3) := by decide +kernel
theorem dX11_isSaid_149 : decode cX11_isSaid 149 = .ok (.aload_n 0, 1) := by decide +kernel
theorem dX11_isSaid_150 : decode cX11_isSaid 150 = .ok (.getfield 98, 3) := by decide +kernel
theorem dX11_isSaid_153 : decode cX11_isSaid 153 = .ok (.iload_n 2, 1) := by decide +kernel
theorem dX11_isSaid_154 : decode cX11_isSaid 154 = .ok (.baload, 1) := by decide +kernel
theorem dX11_isSaid_155 : decode cX11_isSaid 155 = .ok (.ifCond .eq 7, 3) := by decide +kernel
theorem dX11_isSaid_162 : decode cX11_isSaid 162 = .ok (.iconst 0, 1) := by decide +kernel
theorem dX11_isSaid_37 : decode cX11_isSaid 37 = .ok (.aload_n 0, 1) := by decide +kernel
theorem dX11_isSaid_38 : decode cX11_isSaid 38 = .ok (.getfield 98, 3) := by decide +kernel
theorem dX11_isSaid_41 : decode cX11_isSaid 41 = .ok (.iload_n 2, 1) := by decide +kernel
theorem dX11_isSaid_42 : decode cX11_isSaid 42 = .ok (.iconst 1, 1) := by decide +kernel
theorem dX11_isSaid_43 : decode cX11_isSaid 43 = .ok (.isub, 1) := by decide +kernel
theorem dX11_isSaid_44 : decode cX11_isSaid 44 = .ok (.aload_n 0, 1) := by decide +kernel
theorem dX11_isSaid_45 : decode cX11_isSaid 45 = .ok (.getfield 98, 3) := by decide +kernel
theorem dX11_isSaid_48 : decode cX11_isSaid 48 = .ok (.iload_n 2, 1) := by decide +kernel
theorem dX11_isSaid_49 : decode cX11_isSaid 49 = .ok (.iconst 1, 1) := by decide +kernel
theorem dX11_isSaid_50 : decode cX11_isSaid 50 = .ok (.isub, 1) := by decide +kernel
theorem dX11_isSaid_51 : decode cX11_isSaid 51 = .ok (.baload, 1) := by decide +kernel
theorem dX11_isSaid_52 : decode cX11_isSaid 52 = .ok (.ifCond .ne 7, 3) := by decide +kernel
theorem dX11_isSaid_59 : decode cX11_isSaid 59 = .ok (.iconst 0, 1) := by decide +kernel
theorem dX11_isSaid_60 : decode cX11_isSaid 60 = .ok (.bastore, 1) := by decide +kernel
theorem dX11_isSaid_61 : decode cX11_isSaid 61 = .ok (.goto 145, 3) := by decide +kernel
theorem dX11_isSaid_55 : decode cX11_isSaid 55 = .ok (.iconst 1, 1) := by decide +kernel
theorem dX11_isSaid_56 : decode cX11_isSaid 56 = .ok (.goto 4, 3) := by decide +kernel
theorem dX11_said_0 : decode cX11_said 0 = .ok (.aload_n 0, 1) := by decide +kernel
theorem dX11_said_1 : decode cX11_said 1 = .ok (.iconst 0, 1) := by decide +kernel
theorem dX11_said_2 : decode cX11_said 2 = .ok (.putfield 1, 3) := by decide +kernel
theorem dX11_said_5 : decode cX11_said 5 = .ok (.aload_n 0, 1) := by decide +kernel
theorem dX11_said_6 : decode cX11_said 6 = .ok (.getfield 33, 3) := by decide +kernel
theorem dX11_said_9 : decode cX11_said 9 = .ok (.sipush 202, 3) := by decide +kernel
theorem dX11_said_12 : decode cX11_said 12 = .ok (.iaload, 1) := by decide +kernel
theorem dX11_said_13 : decode cX11_said 13 = .ok (.ifCond .eq 8, 3) := by decide +kernel
theorem dX11_said_21 : decode cX11_said 21 = .ok (.iconst (-1), 1) := by decide +kernel
theorem dX11_said_22 : decode cX11_said 22 = .ok (.ireturn, 1) := by decide +kernel
theorem dX11_said_16 : decode cX11_said 16 = .ok (.iload_n 1, 1) := by decide +kernel
theorem dX11_said_17 : decode cX11_said 17 = .ok (.iconst (-1), 1) := by decide +kernel
theorem dX11_said_18 : decode cX11_said 18 = .ok (.if_icmp .ge 5, 3) := by decide +kernel
theorem dX11_said_23 : decode cX11_said 23 = .ok (.iconst 0, 1) := by decide +kernel
theorem dX11_said_24 : decode cX11_said 24 = .ok (.istore_n 2, 1) := by decide +kernel
theorem dX11_said_25 : decode cX11_said 25 = .ok (.iconst 0, 1) := by decide +kernel
theorem dX11_said_26 : decode cX11_said 26 = .ok (.istore_n 3, 1) := by decide +kernel
theorem dX11_said_27 : decode cX11_said 27 = .ok (.iload_n 3, 1) := by decide +kernel
theorem dX11_said_28 : decode cX11_said 28 = .ok (.aload_n 0, 1) := by decide +kernel
theorem dX11_said_29 : decode cX11_said 29 = .ok (.getfield 33, 3) := by decide +kernel
theorem dX11_said_32 : decode cX11_said 32 = .ok (.iconst 0, 1) := by decide +kernel
theorem dX11_said_33 : decode cX11_said 33 = .ok (.iaload, 1) := by decide +kernel
theorem dX11_said_34 : decode cX11_said 34 = .ok (.if_icmp .ge 30, 3) := by decide +kernel
theorem dX11_said_64 : decode cX11_said 64 = .ok (.iload_n 1, 1) := by decide +kernel
theorem dX11_said_65 : decode cX11_said 65 = .ok (.iconst (-1), 1) := by decide +kernel
theorem dX11_said_66 : decode cX11_said 66 = .ok (.if_icmp .ne 7, 3) := by decide +kernel
theorem dX11_said_73 : decode cX11_said 73 = .ok (.iconst (-1), 1) := by decide +kernel
theorem dX11_said_74 : decode cX11_said 74 = .ok (.ireturn, 1) := by decide +kernel
theorem dX11_said_69 : decode cX11_said 69 = .ok (.iload_n 2, 1) := by decide +kernel
theorem dX11_said_70 : decode cX11_said 70 = .ok (.goto 4, 3) := by decide +kernel
theorem dX11_said_37 : decode cX11_said 37 = .ok (.aload_n 0, 1) := by decide +kernel
theorem dX11_said_38 : decode cX11_said 38 = .ok (.iload_n 3, 1) := by decide +kernel
theorem dX11_said_39 : decode cX11_said 39 = .ok (.invokevirtual 509, 3) := by decide +kernel
theorem kwV_X11_isSaid : MwV RX11 yX11_isSaid cX11_isSaid 5 (some .boolean) 1 := ⟨List.mem_filter.mpr ⟨List.mem_of_getElem? (i := 2130) (by decide +kernel), by decide +kernel⟩, List.mem_filter.mpr ⟨List.mem_of_getElem? (i := 2129) (by decide +kernel), by decide +kernel⟩, List.mem_filter.mpr ⟨List.mem_of_getElem? (i := 125) (by decide +kernel), by decide +kernel⟩, List.mem_filter.mpr ⟨List.mem_of_getElem? (i := 139) (by decide +kernel), by decide +kernel⟩, by decide +kernel⟩
theorem kM_RX11_509 : Cond.methodLink RX11 509 yX11_isSaid ∈ gT := List.mem_filter.mpr ⟨List.mem_of_getElem? (i := 2127) (by decide +kernel), by decide +kernel⟩
theorem dX11_said_42 : decode cX11_said 42 = .ok (.ifCond .ne 6, 3) := by decide +kernel
theorem dX11_said_48 : decode cX11_said 48 = .ok (.iload_n 2, 1) := by decide +kernel
theorem dX11_said_49 : decode cX11_said 49 = .ok (.iload_n 1, 1) := by decide +kernel
theorem dX11_said_50 : decode cX11_said 50 = .ok (.if_icmp .ne 5, 3) := by decide +kernel
theorem dX11_said_55 : decode cX11_said 55 = .ok (.iinc 2 1, 3) := by decide +kernel
theorem dX11_said_58 : decode cX11_said 58 = .ok (.iinc 3 1, 3) := by decide +kernel
theorem dX11_said_61 : decode cX11_said 61 = .ok (.goto (-34), 3) := by decide +kernel
theorem dX11_said_53 : decode cX11_said 53 = .ok (.iload_n 3, 1) := by decide +kernel
theorem dX11_said_54 : decode cX11_said 54 = .ok (.ireturn, 1) := by decide +kernel
theorem dX11_said_45 : decode cX11_said 45 = .ok (.goto 13, 3) := by decide +kernel
theorem dX11_image_0 : decode cX11_image 0 = .ok (.aload_n 0, 1) := by decide +kernel
theorem dX11_image_1 : decode cX11_image 1 = .ok (.iconst 0, 1) := by decide +kernel
theorem dX11_image_2 : decode cX11_image 2 = .ok (.putfield 1, 3) := by decide +kernel
theorem dX11_image_5 : decode cX11_image 5 = .ok (.iload_n 1, 1) := by decide +kernel
theorem dX11_image_6 : decode cX11_image 6 = .ok (.iconst 0, 1) := by decide +kernel
theorem dX11_image_7 : decode cX11_image 7 = .ok (.iconst 1, 1) := by decide +kernel
theorem dX11_image_8 : decode cX11_image 8 = .ok (.invokestatic 206, 3) := by decide +kernel
theorem dX11_image_11 : decode cX11_image 11 = .ok (.ifCond .ne 5, 3) := by decide +kernel
theorem dX11_image_16 : decode cX11_image 16 = .ok (.iconst 0, 1) := by decide +kernel
theorem dX11_image_17 : decode cX11_image 17 = .ok (.istore_n 2, 1) := by decide +kernel
theorem dX11_image_18 : decode cX11_image 18 = .ok (.iload_n 2, 1) := by decide +kernel
theorem dX11_image_19 : decode cX11_image 19 = .ok (.sipush 383, 3) := by decide +kernel
theorem dX11_image_22 : decode cX11_image 22 = .ok (.if_icmp .ge 27, 3) := by decide +kernel
theorem dX11_image_49 : decode cX11_image 49 = .ok (.iconst 0, 1) := by decide +kernel
theorem dX11_image_50 : decode cX11_image 50 = .ok (.istore_n 2, 1) := by decide +kernel
theorem dX11_image_51 : decode cX11_image 51 = .ok (.iload_n 2, 1) := by decide +kernel
theorem dX11_image_52 : decode cX11_image 52 = .ok (.bipush 8, 2) := by decide +kernel
theorem dX11_image_54 : decode cX11_image 54 = .ok (.if_icmp .ge 26, 3) := by decide +kernel
theorem dX11_image_80 : decode cX11_image 80 = .ok (.aload_n 0, 1) := by decide +kernel
theorem dX11_image_81 : decode cX11_image 81 = .ok (.getfield 108, 3) := by decide +kernel
theorem kF_RX11_108 : Cond.fieldLink RX11 108 "CobwebLibraryModel" "areKept" "[Z" ∈ gT := List.mem_filter.mpr ⟨List.mem_of_getElem? (i := 1562) (by decide +kernel), by decide +kernel⟩
theorem dX11_image_84 : decode cX11_image 84 = .ok (.iload_n 1, 1) := by decide +kernel
theorem dX11_image_85 : decode cX11_image 85 = .ok (.iconst 1, 1) := by decide +kernel
theorem dX11_image_86 : decode cX11_image 86 = .ok (.bastore, 1) := by decide +kernel
theorem dX11_image_87 : decode cX11_image 87 = .ok (.iconst 1, 1) := by decide +kernel
theorem dX11_image_88 : decode cX11_image 88 = .ok (.ireturn, 1) := by decide +kernel
theorem dX11_image_57 : decode cX11_image 57 = .ok (.aload_n 0, 1) := by decide +kernel
theorem dX11_image_58 : decode cX11_image 58 = .ok (.getfield 105, 3) := by decide +kernel
theorem kF_RX11_105 : Cond.fieldLink RX11 105 "CobwebLibraryModel" "namesKept" "[J" ∈ gT := List.mem_filter.mpr ⟨List.mem_of_getElem? (i := 1561) (by decide +kernel), by decide +kernel⟩
theorem dX11_image_61 : decode cX11_image 61 = .ok (.bipush 8, 2) := by decide +kernel
theorem dX11_image_63 : decode cX11_image 63 = .ok (.iload_n 1, 1) := by decide +kernel
theorem dX11_image_64 : decode cX11_image 64 = .ok (.imul, 1) := by decide +kernel
theorem dX11_image_65 : decode cX11_image 65 = .ok (.iload_n 2, 1) := by decide +kernel
theorem dX11_image_66 : decode cX11_image 66 = .ok (.iadd, 1) := by decide +kernel
theorem dX11_image_67 : decode cX11_image 67 = .ok (.aload_n 0, 1) := by decide +kernel
theorem dX11_image_68 : decode cX11_image 68 = .ok (.getfield 43, 3) := by decide +kernel
theorem dX11_image_71 : decode cX11_image 71 = .ok (.iload_n 2, 1) := by decide +kernel
theorem dX11_image_72 : decode cX11_image 72 = .ok (.laload, 1) := by decide +kernel
theorem dX11_image_73 : decode cX11_image 73 = .ok (.lastore, 1) := by decide +kernel
theorem dX11_image_74 : decode cX11_image 74 = .ok (.iinc 2 1, 3) := by decide +kernel
theorem dX11_image_77 : decode cX11_image 77 = .ok (.goto (-26), 3) := by decide +kernel
theorem dX11_image_25 : decode cX11_image 25 = .ok (.aload_n 0, 1) := by decide +kernel
theorem dX11_image_26 : decode cX11_image 26 = .ok (.getfield 102, 3) := by decide +kernel
theorem kF_RX11_102 : Cond.fieldLink RX11 102 "CobwebLibraryModel" "imaged" "[I" ∈ gT := List.mem_filter.mpr ⟨List.mem_of_getElem? (i := 1560) (by decide +kernel), by decide +kernel⟩
theorem dX11_image_29 : decode cX11_image 29 = .ok (.sipush 383, 3) := by decide +kernel
theorem dX11_image_32 : decode cX11_image 32 = .ok (.iload_n 1, 1) := by decide +kernel
theorem dX11_image_33 : decode cX11_image 33 = .ok (.imul, 1) := by decide +kernel
theorem dX11_image_34 : decode cX11_image 34 = .ok (.iload_n 2, 1) := by decide +kernel
theorem dX11_image_35 : decode cX11_image 35 = .ok (.iadd, 1) := by decide +kernel
theorem dX11_image_36 : decode cX11_image 36 = .ok (.aload_n 0, 1) := by decide +kernel
theorem dX11_image_37 : decode cX11_image 37 = .ok (.getfield 33, 3) := by decide +kernel
theorem dX11_image_40 : decode cX11_image 40 = .ok (.iload_n 2, 1) := by decide +kernel
theorem dX11_image_41 : decode cX11_image 41 = .ok (.iaload, 1) := by decide +kernel
theorem dX11_image_42 : decode cX11_image 42 = .ok (.iastore, 1) := by decide +kernel
theorem dX11_image_43 : decode cX11_image 43 = .ok (.iinc 2 1, 3) := by decide +kernel
theorem dX11_image_46 : decode cX11_image 46 = .ok (.goto (-28), 3) := by decide +kernel
set_option maxHeartbeats 4000000 in
set_option maxRecDepth 100000 in
theorem b_y_isLeaf (l : Launch) (D : va_G) (cy : Nat → ClassId) (q : Nat) (b : Int32) (w : Int32) (a : Int32) (n : Int32) (q_thrown : Int32) (q_tape_ : Nat) (q_length : Int32) (q_size : Int32) (q_p : Int32) (q_limit : Int32) (q_s_ : Nat) (q_h_ : Nat) (q_read_ : Nat) (q_names_ : Nat) (q_reserved_ : Nat) (q_token : Int32) (q_at : Int32) (q_span : Int32) (q_number : Int32) (q_fault : Int32) (q_faultAt : Int32) (q_word : Int64) (q_got : Int32) (q_lines : Int32) (q_onces : Int32) (q_webs : Int32) (q_one : Int32) (q_two : Int32) (q_seed : Int32) (q_undone_ : Nat) (q_before_ : Nat) (q_undoMany : Int32) (q_far_ : Nat) (q_wayRow_ : Nat) (q_wayMany : Int32) (q_keptRow_ : Nat) (q_askedRow_ : Nat) (q_rares_ : Nat) (q_trial_ : Nat) (q_keptMany : Int32) (q_askedMany : Int32) (q_hangs_ : Nat) (q_paths_ : Nat) (q_tornSteps : Int32) (q_hasTorn : Int32) (q_turnOne : Int32) (q_hasTurn : Int32) (q_text_ : Nat) (q_textMany : Int32) (q_toldMany : Int32) (q_toldAt_ : Nat) (q_hasTold : Int32) (q_stack_ : Nat) (q_codes : Int32) (q_ones : Int32) (q_top : Int32) (q_deep : Int32) (q_isWhole : Int32) (q_truths_ : Nat) (q_imaged_ : Nat) (q_namesKept_ : Nat) (q_areKept_ : Nat) (q_s : Nat → Int32) (q_far : Nat → Int32) (hb0 : 0 ≤ q_length.toInt ∧ q_length.toInt ≤ 940) (hb1 : 0 ≤ q_size.toInt ∧ q_size.toInt ≤ 940) (hb2 : 0 ≤ q_p.toInt ∧ q_p.toInt ≤ 940) (hb3 : 0 ≤ q_limit.toInt ∧ q_limit.toInt ≤ 940) (hb4 : 0 ≤ q_span.toInt ∧ q_span.toInt ≤ 940) (hb5 : 0 ≤ q_number.toInt ∧ q_number.toInt ≤ 8214) (hb6 : (-1) ≤ q_got.toInt ∧ q_got.toInt ≤ 8214) (hb7 : 0 ≤ q_one.toInt ∧ q_one.toInt ≤ 7) (hb8 : 0 ≤ q_two.toInt ∧ q_two.toInt ≤ 7) (hb9 : 0 ≤ q_undoMany.toInt ∧ q_undoMany.toInt ≤ 8) (hb10 : (-1) ≤ q_wayMany.toInt ∧ q_wayMany.toInt ≤ 8) (hb11 : (-1) ≤ q_keptMany.toInt ∧ q_keptMany.toInt ≤ 8) (hb12 : (-1) ≤ q_askedMany.toInt ∧ q_askedMany.toInt ≤ 3) (hb13 : 0 ≤ q_hasTorn.toInt ∧ q_hasTorn.toInt ≤ 1) (hb14 : 0 ≤ q_hasTurn.toInt ∧ q_hasTurn.toInt ≤ 1) (hb15 : 0 ≤ q_textMany.toInt ∧ q_textMany.toInt ≤ 48) (hb16 : 0 ≤ q_toldMany.toInt ∧ q_toldMany.toInt ≤ 40) (hb17 : 0 ≤ q_hasTold.toInt ∧ q_hasTold.toInt ≤ 1) (hb18 : 0 ≤ q_codes.toInt ∧ q_codes.toInt ≤ 40) (hb19 : 0 ≤ q_ones.toInt ∧ q_ones.toInt ≤ 20) (hb20 : 0 ≤ q_top.toInt ∧ q_top.toInt ≤ 40) (hb21 : 0 ≤ q_isWhole.toInt ∧ q_isWhole.toInt ≤ 1) (hb22 : 0 ≤ b.toInt ∧ b.toInt ≤ 7) (hR0 : Rg q_s 0 1 0 8) (hR1 : Rg q_s 1 3 0 6) (hR2 : Rg q_s 3 4 1 50) (hR3 : Rg q_s 4 5 1 5) (hR4 : Rg q_s 103 104 0 255) (hR5 : Rg q_s 7 23 0 5) (hR6 : Rg q_s 106 122 0 5) (hR7 : Rg q_s 23 31 0 99) (hR8 : Rg q_s 122 130 0 99) (hR9 : Rg q_far 0 8 0 1000000000) {p : Program} {e : Env} {s : State} {m : MethodId} {args : Array Value} {below : List Frame} {meth : Method} {c : Code} {A : Nat → Prop} {Q : State → Prop} {cells slots : Nat} (hroom : cells ≤ ((Rm 4 92 0 0)).cells ∧ slots ≤ ((Rm 4 92 0 0)).slots) (C : Cx p s m args meth c cX11_isLeaf 6 (some .boolean) RX11 "isLeaf" D cy A) (hQ : Q = MQ below (va_Qi (fun (r : Int32) (u : (Nat → Int32)) => (0 ≤ r.toInt ∧ r.toInt ≤ 1) ∧ (Rg u 0 8 0 1000000000)) (Bx D A (fun u : (Nat → Int32) => [(q, oC11 q_thrown q_tape_ q_length q_size q_p q_limit q_s_ q_h_ q_read_ q_names_ q_reserved_ q_token q_at q_span q_number q_fault q_faultAt q_word q_got q_lines q_onces q_webs q_one q_two q_seed q_undone_ q_before_ q_undoMany q_far_ q_wayRow_ q_wayMany q_keptRow_ q_askedRow_ q_rares_ q_trial_ q_keptMany q_askedMany q_hangs_ q_paths_ q_tornSteps q_hasTorn q_turnOne q_hasTurn q_text_ q_textMany q_toldMany q_toldAt_ q_hasTold q_stack_ q_codes q_ones q_top q_deep q_isWhole q_truths_ q_imaged_ q_namesKept_ q_areKept_), (q_s_, aC1 cy 383 q_s), (q_far_, aC1 cy 8 u)])) A) args s ((Rm 4 92 0 0)).cells ((Rm 4 92 0 0)).slots A) (H : Heap) (locs : List Loc) (ls : Array Slot) (hP : va_P D vwCl [(q, oC11 q_thrown q_tape_ q_length q_size q_p q_limit q_s_ q_h_ q_read_ q_names_ q_reserved_ q_token q_at q_span q_number q_fault q_faultAt q_word q_got q_lines q_onces q_webs q_one q_two q_seed q_undone_ q_before_ q_undoMany q_far_ q_wayRow_ q_wayMany q_keptRow_ q_askedRow_ q_rares_ q_trial_ q_keptMany q_askedMany q_hangs_ q_paths_ q_tornSteps q_hasTorn q_turnOne q_hasTurn q_text_ q_textMany q_toldMany q_toldAt_ q_hasTold q_stack_ q_codes q_ones q_top q_deep q_isWhole q_truths_ q_imaged_ q_namesKept_ q_areKept_), (q_s_, aC1 cy 383 q_s), (q_far_, aC1 cy 8 q_far)] H) (hD : va_D A [(q, oC11 q_thrown q_tape_ q_length q_size q_p q_limit q_s_ q_h_ q_read_ q_names_ q_reserved_ q_token q_at q_span q_number q_fault q_faultAt q_word q_got q_lines q_onces q_webs q_one q_two q_seed q_undone_ q_before_ q_undoMany q_far_ q_wayRow_ q_wayMany q_keptRow_ q_askedRow_ q_rares_ q_trial_ q_keptMany q_askedMany q_hangs_ q_paths_ q_tornSteps q_hasTorn q_turnOne q_hasTurn q_text_ q_textMany q_toldMany q_toldAt_ q_hasTold q_stack_ q_codes q_ones q_top q_deep q_isWhole q_truths_ q_imaged_ q_namesKept_ q_areKept_), (q_s_, aC1 cy 383 q_s), (q_far_, aC1 cy 8 q_far)]) (hS : va_S A s.heap H locs) (hl : lv_has ls 6 [(0, .ref q), (1, .int b), (2, .int w), (3, .int a), (4, .int n)]) : W p l e (Rm 4 92 0 0) s m args below meth c H locs cells slots Q (F0 m 0 ls []) := by
  have hx := C.1
  have hb := C.2.1
  have hqw := o_rng w
  have hqa := o_rng a
  have hqn := o_rng n
  refine lv_iload_n hx hb dX11_isLeaf_0 rfl (lv_at hl 2 rfl) ?_
  rcases (show w.toInt = 0 ∨ w.toInt = 1 ∨ w.toInt = 2 ∨ w.toInt = 3 ∨ w.toInt = 4 ∨ w.toInt = 5 ∨ (w.toInt < 0 ∨ 5 < w.toInt) by omega) with hc_1 | hc_1 | hc_1 | hc_1 | hc_1 | hc_1 | hc_1
  · refine lv_tableIn (off := 39) (tgt := 40) hx hb dX11_isLeaf_1 (by omega) (by omega) (by rw [hc_1]; decide) (by decide) ?_
    refine lv_aload_n hx hb dX11_isLeaf_40 rfl (lv_at hl 0 rfl) ?_
    refine lv_aload_n hx hb dX11_isLeaf_41 rfl (lv_at hl 0 rfl) ?_
    refine q_get11 (v := .ref q_s_) C hP 0 6 rfl fT_6 (by decide) kF_RX11_33 rfl dX11_isLeaf_42 ?_
    refine lv_bipush (v := 122) hx hb dX11_isLeaf_45 (by decide) ?_
    refine lv_iload_n hx hb dX11_isLeaf_47 rfl (lv_at hl 1 rfl) ?_
    refine lv_iadd hx hb dX11_isLeaf_48 ?_
    refine lv_topi (fun z_2 hz_2 => ?_)
    have hz_2 := o_add hz_2 (by decide : (122 : Int32).toInt = 122) (rfl : b.toInt = b.toInt) (by omega) (by omega)
    refine q_iald (v := q_s z_2.toNatClampNeg) C hP 1 rfl (o_in (rfl : z_2.toInt = z_2.toInt) (by omega) (by omega)) rfl dX11_isLeaf_49 ?_
    refine lv_topi (fun z_3 ez_3 => ?_)
    have hz_3 := Rg.at hR8 ez_3 (by have := o_cl (rfl : z_2.toInt = z_2.toInt) (by omega); omega) (by have := o_cl (rfl : z_2.toInt = z_2.toInt) (by omega); omega)
    refine q_ai (wr := [(q_far_, aC1 cy 8 q_far)]) (r_V (rm := (Rm 0 0 0 0)) (q0 := 0) (As := [.int z_3]) (rest := []) (wc := [(q, oC11 q_thrown q_tape_ q_length q_size q_p q_limit q_s_ q_h_ q_read_ q_names_ q_reserved_ q_token q_at q_span q_number q_fault q_faultAt q_word q_got q_lines q_onces q_webs q_one q_two q_seed q_undone_ q_before_ q_undoMany q_far_ q_wayRow_ q_wayMany q_keptRow_ q_askedRow_ q_rares_ q_trial_ q_keptMany q_askedMany q_hangs_ q_paths_ q_tornSteps q_hasTorn q_turnOne q_hasTurn q_text_ q_textMany q_toldMany q_toldAt_ q_hasTold q_stack_ q_codes q_ones q_top q_deep q_isWhole q_truths_ q_imaged_ q_namesKept_ q_areKept_), (q_s_, aC1 cy 383 q_s)]) C hS (q_subP hP [0, 1] rfl) (hD.sub [0, 1] (by decide) rfl) (y_reads l D cy q z_3 q_thrown q_tape_ q_length q_size q_p q_limit q_s_ q_h_ q_read_ q_names_ q_reserved_ q_token q_at q_span q_number q_fault q_faultAt q_word q_got q_lines q_onces q_webs q_one q_two q_seed q_undone_ q_before_ q_undoMany q_far_ q_wayRow_ q_wayMany q_keptRow_ q_askedRow_ q_rares_ q_trial_ q_keptMany q_askedMany q_hangs_ q_paths_ q_tornSteps q_hasTorn q_turnOne q_hasTurn q_text_ q_textMany q_toldMany q_toldAt_ q_hasTold q_stack_ q_codes q_ones q_top q_deep q_isWhole q_truths_ q_imaged_ q_namesKept_ q_areKept_ q_s _ (by omega) (by omega) (by omega) (by omega) (by omega) (by omega) (by omega) (by omega) (by omega) (by omega) (by omega) (by omega) (by omega) (by omega) (by omega) (by omega) (by omega) (by omega) (by omega) (by omega) (by omega) (by omega) hR0 hR1 hR2 hR3 hR4 hR5 hR6 hR7 hR8) kwV_X11_reads kM_RX11_313 rfl rfl ⟨Nat.le_of_ble_eq_true rfl, Nat.le_of_ble_eq_true rfl⟩ rfl hl.1 rfl (Nat.le_of_ble_eq_true rfl) dX11_isLeaf_50 ⟨hroom.1, hroom.2⟩) C.2.2.2.2.2.2.1 hP hD hS [0, 1] [2] rfl rfl (by decide) (by decide) (fun r_5 u_4 H locs hw_6 hP hD hS => ?_)
    have hp_6 : 0 ≤ r_5.toInt ∧ r_5.toInt ≤ 2 := hw_6
    clear hw_6
    refine lv_iload_n hx hb dX11_isLeaf_53 rfl (lv_at hl 2 rfl) ?_
    refine lv_icmp_ne (tgt := 61) hx hb dX11_isLeaf_54 (by decide) (fun c_8 => ?_) (fun c_8 => ?_)
    · have hc_8 := o_ne (rfl : r_5.toInt = r_5.toInt) (rfl : w.toInt = w.toInt) c_8
      have hnc_8 : 0 ≤ r_5.toInt + (-1) * w.toInt + (-1) := by rcases Int.lt_or_gt_of_ne hc_8 with h9 | h9 <;> omega
      refine lv_iconst (v := 0) hx hb dX11_isLeaf_61 (by decide) ?_
      refine o_wq hQ ?_
      exact q_iret (rm := (Rm 4 92 0 0)) C hS q_far rfl ⟨(show 0 ≤ (0 : Int32).toInt ∧ (0 : Int32).toInt ≤ 1 by decide), hR9⟩ (q_subP hP [1, 2, 0] rfl) (hD.sub [1, 2, 0] (by decide) rfl) hroom.1 hroom.2 dX11_isLeaf_62
    · have hc_8 := o_eq (rfl : r_5.toInt = r_5.toInt) (rfl : w.toInt = w.toInt) c_8
      refine lv_iconst (v := 1) hx hb dX11_isLeaf_57 (by decide) ?_
      refine lv_goto (tgt := 62) hx hb dX11_isLeaf_58 (by decide) ?_
      refine o_wq hQ ?_
      exact q_iret (rm := (Rm 4 92 0 0)) C hS q_far rfl ⟨(show 0 ≤ (1 : Int32).toInt ∧ (1 : Int32).toInt ≤ 1 by decide), hR9⟩ (q_subP hP [1, 2, 0] rfl) (hD.sub [1, 2, 0] (by decide) rfl) hroom.1 hroom.2 dX11_isLeaf_62
  · refine lv_tableIn (off := 39) (tgt := 40) hx hb dX11_isLeaf_1 (by omega) (by omega) (by rw [hc_1]; decide) (by decide) ?_
    refine lv_aload_n hx hb dX11_isLeaf_40 rfl (lv_at hl 0 rfl) ?_
    refine lv_aload_n hx hb dX11_isLeaf_41 rfl (lv_at hl 0 rfl) ?_
    refine q_get11 (v := .ref q_s_) C hP 0 6 rfl fT_6 (by decide) kF_RX11_33 rfl dX11_isLeaf_42 ?_
    refine lv_bipush (v := 122) hx hb dX11_isLeaf_45 (by decide) ?_
    refine lv_iload_n hx hb dX11_isLeaf_47 rfl (lv_at hl 1 rfl) ?_
    refine lv_iadd hx hb dX11_isLeaf_48 ?_
    refine lv_topi (fun z_9 hz_9 => ?_)
    have hz_9 := o_add hz_9 (by decide : (122 : Int32).toInt = 122) (rfl : b.toInt = b.toInt) (by omega) (by omega)
    refine q_iald (v := q_s z_9.toNatClampNeg) C hP 1 rfl (o_in (rfl : z_9.toInt = z_9.toInt) (by omega) (by omega)) rfl dX11_isLeaf_49 ?_
    refine lv_topi (fun z_10 ez_10 => ?_)
    have hz_10 := Rg.at hR8 ez_10 (by have := o_cl (rfl : z_9.toInt = z_9.toInt) (by omega); omega) (by have := o_cl (rfl : z_9.toInt = z_9.toInt) (by omega); omega)
    refine q_ai (wr := [(q_far_, aC1 cy 8 q_far)]) (r_V (rm := (Rm 0 0 0 0)) (q0 := 0) (As := [.int z_10]) (rest := []) (wc := [(q, oC11 q_thrown q_tape_ q_length q_size q_p q_limit q_s_ q_h_ q_read_ q_names_ q_reserved_ q_token q_at q_span q_number q_fault q_faultAt q_word q_got q_lines q_onces q_webs q_one q_two q_seed q_undone_ q_before_ q_undoMany q_far_ q_wayRow_ q_wayMany q_keptRow_ q_askedRow_ q_rares_ q_trial_ q_keptMany q_askedMany q_hangs_ q_paths_ q_tornSteps q_hasTorn q_turnOne q_hasTurn q_text_ q_textMany q_toldMany q_toldAt_ q_hasTold q_stack_ q_codes q_ones q_top q_deep q_isWhole q_truths_ q_imaged_ q_namesKept_ q_areKept_), (q_s_, aC1 cy 383 q_s)]) C hS (q_subP hP [0, 1] rfl) (hD.sub [0, 1] (by decide) rfl) (y_reads l D cy q z_10 q_thrown q_tape_ q_length q_size q_p q_limit q_s_ q_h_ q_read_ q_names_ q_reserved_ q_token q_at q_span q_number q_fault q_faultAt q_word q_got q_lines q_onces q_webs q_one q_two q_seed q_undone_ q_before_ q_undoMany q_far_ q_wayRow_ q_wayMany q_keptRow_ q_askedRow_ q_rares_ q_trial_ q_keptMany q_askedMany q_hangs_ q_paths_ q_tornSteps q_hasTorn q_turnOne q_hasTurn q_text_ q_textMany q_toldMany q_toldAt_ q_hasTold q_stack_ q_codes q_ones q_top q_deep q_isWhole q_truths_ q_imaged_ q_namesKept_ q_areKept_ q_s _ (by omega) (by omega) (by omega) (by omega) (by omega) (by omega) (by omega) (by omega) (by omega) (by omega) (by omega) (by omega) (by omega) (by omega) (by omega) (by omega) (by omega) (by omega) (by omega) (by omega) (by omega) (by omega) hR0 hR1 hR2 hR3 hR4 hR5 hR6 hR7 hR8) kwV_X11_reads kM_RX11_313 rfl rfl ⟨Nat.le_of_ble_eq_true rfl, Nat.le_of_ble_eq_true rfl⟩ rfl hl.1 rfl (Nat.le_of_ble_eq_true rfl) dX11_isLeaf_50 ⟨hroom.1, hroom.2⟩) C.2.2.2.2.2.2.1 hP hD hS [0, 1] [2] rfl rfl (by decide) (by decide) (fun r_12 u_11 H locs hw_13 hP hD hS => ?_)
    have hp_13 : 0 ≤ r_12.toInt ∧ r_12.toInt ≤ 2 := hw_13
    clear hw_13
    refine lv_iload_n hx hb dX11_isLeaf_53 rfl (lv_at hl 2 rfl) ?_
    refine lv_icmp_ne (tgt := 61) hx hb dX11_isLeaf_54 (by decide) (fun c_15 => ?_) (fun c_15 => ?_)
    · have hc_15 := o_ne (rfl : r_12.toInt = r_12.toInt) (rfl : w.toInt = w.toInt) c_15
      refine lv_iconst (v := 0) hx hb dX11_isLeaf_61 (by decide) ?_
      refine o_wq hQ ?_
      exact q_iret (rm := (Rm 4 92 0 0)) C hS q_far rfl ⟨(show 0 ≤ (0 : Int32).toInt ∧ (0 : Int32).toInt ≤ 1 by decide), hR9⟩ (q_subP hP [1, 2, 0] rfl) (hD.sub [1, 2, 0] (by decide) rfl) hroom.1 hroom.2 dX11_isLeaf_62
    · have hc_15 := o_eq (rfl : r_12.toInt = r_12.toInt) (rfl : w.toInt = w.toInt) c_15
      refine lv_iconst (v := 1) hx hb dX11_isLeaf_57 (by decide) ?_
      refine lv_goto (tgt := 62) hx hb dX11_isLeaf_58 (by decide) ?_
      refine o_wq hQ ?_
      exact q_iret (rm := (Rm 4 92 0 0)) C hS q_far rfl ⟨(show 0 ≤ (1 : Int32).toInt ∧ (1 : Int32).toInt ≤ 1 by decide), hR9⟩ (q_subP hP [1, 2, 0] rfl) (hD.sub [1, 2, 0] (by decide) rfl) hroom.1 hroom.2 dX11_isLeaf_62
  · refine lv_tableIn (off := 39) (tgt := 40) hx hb dX11_isLeaf_1 (by omega) (by omega) (by rw [hc_1]; decide) (by decide) ?_
    refine lv_aload_n hx hb dX11_isLeaf_40 rfl (lv_at hl 0 rfl) ?_
    refine lv_aload_n hx hb dX11_isLeaf_41 rfl (lv_at hl 0 rfl) ?_
    refine q_get11 (v := .ref q_s_) C hP 0 6 rfl fT_6 (by decide) kF_RX11_33 rfl dX11_isLeaf_42 ?_
    refine lv_bipush (v := 122) hx hb dX11_isLeaf_45 (by decide) ?_
    refine lv_iload_n hx hb dX11_isLeaf_47 rfl (lv_at hl 1 rfl) ?_
    refine lv_iadd hx hb dX11_isLeaf_48 ?_
    refine lv_topi (fun z_16 hz_16 => ?_)
    have hz_16 := o_add hz_16 (by decide : (122 : Int32).toInt = 122) (rfl : b.toInt = b.toInt) (by omega) (by omega)
    refine q_iald (v := q_s z_16.toNatClampNeg) C hP 1 rfl (o_in (rfl : z_16.toInt = z_16.toInt) (by omega) (by omega)) rfl dX11_isLeaf_49 ?_
    refine lv_topi (fun z_17 ez_17 => ?_)
    have hz_17 := Rg.at hR8 ez_17 (by have := o_cl (rfl : z_16.toInt = z_16.toInt) (by omega); omega) (by have := o_cl (rfl : z_16.toInt = z_16.toInt) (by omega); omega)
    refine q_ai (wr := [(q_far_, aC1 cy 8 q_far)]) (r_V (rm := (Rm 0 0 0 0)) (q0 := 0) (As := [.int z_17]) (rest := []) (wc := [(q, oC11 q_thrown q_tape_ q_length q_size q_p q_limit q_s_ q_h_ q_read_ q_names_ q_reserved_ q_token q_at q_span q_number q_fault q_faultAt q_word q_got q_lines q_onces q_webs q_one q_two q_seed q_undone_ q_before_ q_undoMany q_far_ q_wayRow_ q_wayMany q_keptRow_ q_askedRow_ q_rares_ q_trial_ q_keptMany q_askedMany q_hangs_ q_paths_ q_tornSteps q_hasTorn q_turnOne q_hasTurn q_text_ q_textMany q_toldMany q_toldAt_ q_hasTold q_stack_ q_codes q_ones q_top q_deep q_isWhole q_truths_ q_imaged_ q_namesKept_ q_areKept_), (q_s_, aC1 cy 383 q_s)]) C hS (q_subP hP [0, 1] rfl) (hD.sub [0, 1] (by decide) rfl) (y_reads l D cy q z_17 q_thrown q_tape_ q_length q_size q_p q_limit q_s_ q_h_ q_read_ q_names_ q_reserved_ q_token q_at q_span q_number q_fault q_faultAt q_word q_got q_lines q_onces q_webs q_one q_two q_seed q_undone_ q_before_ q_undoMany q_far_ q_wayRow_ q_wayMany q_keptRow_ q_askedRow_ q_rares_ q_trial_ q_keptMany q_askedMany q_hangs_ q_paths_ q_tornSteps q_hasTorn q_turnOne q_hasTurn q_text_ q_textMany q_toldMany q_toldAt_ q_hasTold q_stack_ q_codes q_ones q_top q_deep q_isWhole q_truths_ q_imaged_ q_namesKept_ q_areKept_ q_s _ (by omega) (by omega) (by omega) (by omega) (by omega) (by omega) (by omega) (by omega) (by omega) (by omega) (by omega) (by omega) (by omega) (by omega) (by omega) (by omega) (by omega) (by omega) (by omega) (by omega) (by omega) (by omega) hR0 hR1 hR2 hR3 hR4 hR5 hR6 hR7 hR8) kwV_X11_reads kM_RX11_313 rfl rfl ⟨Nat.le_of_ble_eq_true rfl, Nat.le_of_ble_eq_true rfl⟩ rfl hl.1 rfl (Nat.le_of_ble_eq_true rfl) dX11_isLeaf_50 ⟨hroom.1, hroom.2⟩) C.2.2.2.2.2.2.1 hP hD hS [0, 1] [2] rfl rfl (by decide) (by decide) (fun r_19 u_18 H locs hw_20 hP hD hS => ?_)
    have hp_20 : 0 ≤ r_19.toInt ∧ r_19.toInt ≤ 2 := hw_20
    clear hw_20
    refine lv_iload_n hx hb dX11_isLeaf_53 rfl (lv_at hl 2 rfl) ?_
    refine lv_icmp_ne (tgt := 61) hx hb dX11_isLeaf_54 (by decide) (fun c_22 => ?_) (fun c_22 => ?_)
    · have hc_22 := o_ne (rfl : r_19.toInt = r_19.toInt) (rfl : w.toInt = w.toInt) c_22
      have hnc_22 : 0 ≤ w.toInt + (-1) * r_19.toInt + (-1) := by rcases Int.lt_or_gt_of_ne hc_22 with h9 | h9 <;> omega
      refine lv_iconst (v := 0) hx hb dX11_isLeaf_61 (by decide) ?_
      refine o_wq hQ ?_
      exact q_iret (rm := (Rm 4 92 0 0)) C hS q_far rfl ⟨(show 0 ≤ (0 : Int32).toInt ∧ (0 : Int32).toInt ≤ 1 by decide), hR9⟩ (q_subP hP [1, 2, 0] rfl) (hD.sub [1, 2, 0] (by decide) rfl) hroom.1 hroom.2 dX11_isLeaf_62
    · have hc_22 := o_eq (rfl : r_19.toInt = r_19.toInt) (rfl : w.toInt = w.toInt) c_22
      refine lv_iconst (v := 1) hx hb dX11_isLeaf_57 (by decide) ?_
      refine lv_goto (tgt := 62) hx hb dX11_isLeaf_58 (by decide) ?_
      refine o_wq hQ ?_
      exact q_iret (rm := (Rm 4 92 0 0)) C hS q_far rfl ⟨(show 0 ≤ (1 : Int32).toInt ∧ (1 : Int32).toInt ≤ 1 by decide), hR9⟩ (q_subP hP [1, 2, 0] rfl) (hD.sub [1, 2, 0] (by decide) rfl) hroom.1 hroom.2 dX11_isLeaf_62
  · refine lv_tableIn (off := 62) (tgt := 63) hx hb dX11_isLeaf_1 (by omega) (by omega) (by rw [hc_1]; decide) (by decide) ?_
    refine lv_aload_n hx hb dX11_isLeaf_63 rfl (lv_at hl 0 rfl) ?_
    refine q_get11 (v := .ref q_s_) C hP 0 6 rfl fT_6 (by decide) kF_RX11_33 rfl dX11_isLeaf_64 ?_
    refine lv_bipush (v := 103) hx hb dX11_isLeaf_67 (by decide) ?_
    refine q_iald (v := q_s 103) C hP 1 rfl (vin (by decide +kernel)) rfl dX11_isLeaf_69 ?_
    refine lv_topi (fun z_23 ez_23 => ?_)
    have hz_23 : 0 ≤ z_23.toInt ∧ z_23.toInt ≤ 255 := (by rw [ez_23]; exact hR4 103 (by decide) (by decide))
    refine lv_iload_n hx hb dX11_isLeaf_70 rfl (lv_at hl 1 rfl) ?_
    refine q_ai (wr := [(q, oC11 q_thrown q_tape_ q_length q_size q_p q_limit q_s_ q_h_ q_read_ q_names_ q_reserved_ q_token q_at q_span q_number q_fault q_faultAt q_word q_got q_lines q_onces q_webs q_one q_two q_seed q_undone_ q_before_ q_undoMany q_far_ q_wayRow_ q_wayMany q_keptRow_ q_askedRow_ q_rares_ q_trial_ q_keptMany q_askedMany q_hangs_ q_paths_ q_tornSteps q_hasTorn q_turnOne q_hasTurn q_text_ q_textMany q_toldMany q_toldAt_ q_hasTold q_stack_ q_codes q_ones q_top q_deep q_isWhole q_truths_ q_imaged_ q_namesKept_ q_areKept_), (q_s_, aC1 cy 383 q_s), (q_far_, aC1 cy 8 q_far)]) (r_S (rm := (Rm 0 0 0 0)) (As := [.int z_23, .int b]) (rest := []) (wc := []) C hS (q_subP hP [] rfl) (hD.sub [] (by decide) rfl) (y_bitOf l D cy z_23 b _ ) kwS_X11_bitOf kM_RX11_231 ⟨Nat.le_of_ble_eq_true rfl, Nat.le_of_ble_eq_true rfl⟩ rfl hl.1 rfl (Nat.le_of_ble_eq_true rfl) dX11_isLeaf_71 ⟨hroom.1, hroom.2⟩) C.2.2.2.2.2.2.1 hP hD hS [] [0, 1, 2] rfl rfl (by decide) (by decide) (fun r_25 u_24 H locs hw_26 hP hD hS => ?_)
    have hp_26 : 0 ≤ r_25.toInt ∧ r_25.toInt ≤ 1 := hw_26.1
    have hp_27 : r_25 = bt z_23 b := hw_26.2
    clear hw_26
    refine o_wq hQ ?_
    exact q_iret (rm := (Rm 4 92 0 0)) C hS q_far (o_bool (rfl : r_25.toInt = r_25.toInt) (by omega) (by omega)).1 ⟨(show 0 ≤ r_25.toInt ∧ r_25.toInt ≤ 1 by omega), hR9⟩ (q_subP hP [0, 1, 2] rfl) (hD.sub [0, 1, 2] (by decide) rfl) hroom.1 hroom.2 dX11_isLeaf_74
  · refine lv_tableIn (off := 74) (tgt := 75) hx hb dX11_isLeaf_1 (by omega) (by omega) (by rw [hc_1]; decide) (by decide) ?_
    refine lv_aload_n hx hb dX11_isLeaf_75 rfl (lv_at hl 0 rfl) ?_
    refine lv_iload_n hx hb dX11_isLeaf_76 rfl (lv_at hl 1 rfl) ?_
    refine q_ai (wr := [(q_far_, aC1 cy 8 q_far)]) (r_V (rm := (Rm 1 21 0 0)) (q0 := 0) (As := [.int b]) (rest := []) (wc := [(q, oC11 q_thrown q_tape_ q_length q_size q_p q_limit q_s_ q_h_ q_read_ q_names_ q_reserved_ q_token q_at q_span q_number q_fault q_faultAt q_word q_got q_lines q_onces q_webs q_one q_two q_seed q_undone_ q_before_ q_undoMany q_far_ q_wayRow_ q_wayMany q_keptRow_ q_askedRow_ q_rares_ q_trial_ q_keptMany q_askedMany q_hangs_ q_paths_ q_tornSteps q_hasTorn q_turnOne q_hasTurn q_text_ q_textMany q_toldMany q_toldAt_ q_hasTold q_stack_ q_codes q_ones q_top q_deep q_isWhole q_truths_ q_imaged_ q_namesKept_ q_areKept_), (q_s_, aC1 cy 383 q_s)]) C hS (q_subP hP [0, 1] rfl) (hD.sub [0, 1] (by decide) rfl) (y_isAsked l D cy q b q_thrown q_tape_ q_length q_size q_p q_limit q_s_ q_h_ q_read_ q_names_ q_reserved_ q_token q_at q_span q_number q_fault q_faultAt q_word q_got q_lines q_onces q_webs q_one q_two q_seed q_undone_ q_before_ q_undoMany q_far_ q_wayRow_ q_wayMany q_keptRow_ q_askedRow_ q_rares_ q_trial_ q_keptMany q_askedMany q_hangs_ q_paths_ q_tornSteps q_hasTorn q_turnOne q_hasTurn q_text_ q_textMany q_toldMany q_toldAt_ q_hasTold q_stack_ q_codes q_ones q_top q_deep q_isWhole q_truths_ q_imaged_ q_namesKept_ q_areKept_ q_s _ (by omega) (by omega) (by omega) (by omega) (by omega) (by omega) (by omega) (by omega) (by omega) (by omega) (by omega) (by omega) (by omega) (by omega) (by omega) (by omega) (by omega) (by omega) (by omega) (by omega) (by omega) (by omega) hR0 hR1 hR2 hR3 hR4 hR5 hR6 hR7 hR8) kwV_X11_isAsked kM_RX11_338 rfl rfl ⟨Nat.le_of_ble_eq_true rfl, Nat.le_of_ble_eq_true rfl⟩ rfl hl.1 rfl (Nat.le_of_ble_eq_true rfl) dX11_isLeaf_77 ⟨hroom.1, hroom.2⟩) C.2.2.2.2.2.2.1 hP hD hS [0, 1] [2] rfl rfl (by decide) (by decide) (fun r_30 u_29 H locs hw_31 hP hD hS => ?_)
    have hp_31 : 0 ≤ r_30.toInt ∧ r_30.toInt ≤ 1 := hw_31
    clear hw_31
    refine o_wq hQ ?_
    exact q_iret (rm := (Rm 4 92 0 0)) C hS q_far (o_bool (rfl : r_30.toInt = r_30.toInt) (by omega) (by omega)).1 ⟨(show 0 ≤ r_30.toInt ∧ r_30.toInt ≤ 1 by omega), hR9⟩ (q_subP hP [1, 2, 0] rfl) (hD.sub [1, 2, 0] (by decide) rfl) hroom.1 hroom.2 dX11_isLeaf_80
  · refine lv_tableIn (off := 80) (tgt := 81) hx hb dX11_isLeaf_1 (by omega) (by omega) (by rw [hc_1]; decide) (by decide) ?_
    refine lv_aload_n hx hb dX11_isLeaf_81 rfl (lv_at hl 0 rfl) ?_
    refine lv_iload hx hb dX11_isLeaf_82 (lv_at hl 4 rfl) ?_
    refine q_ai (wr := []) (r_V (rm := (Rm 3 69 0 0)) (q0 := 0) (As := [.int n]) (rest := []) (wc := [(q, oC11 q_thrown q_tape_ q_length q_size q_p q_limit q_s_ q_h_ q_read_ q_names_ q_reserved_ q_token q_at q_span q_number q_fault q_faultAt q_word q_got q_lines q_onces q_webs q_one q_two q_seed q_undone_ q_before_ q_undoMany q_far_ q_wayRow_ q_wayMany q_keptRow_ q_askedRow_ q_rares_ q_trial_ q_keptMany q_askedMany q_hangs_ q_paths_ q_tornSteps q_hasTorn q_turnOne q_hasTurn q_text_ q_textMany q_toldMany q_toldAt_ q_hasTold q_stack_ q_codes q_ones q_top q_deep q_isWhole q_truths_ q_imaged_ q_namesKept_ q_areKept_), (q_s_, aC1 cy 383 q_s), (q_far_, aC1 cy 8 q_far)]) C hS (q_subP hP [0, 1, 2] rfl) (hD.sub [0, 1, 2] (by decide) rfl) (y_followSet l D cy q n q_thrown q_tape_ q_length q_size q_p q_limit q_s_ q_h_ q_read_ q_names_ q_reserved_ q_token q_at q_span q_number q_fault q_faultAt q_word q_got q_lines q_onces q_webs q_one q_two q_seed q_undone_ q_before_ q_undoMany q_far_ q_wayRow_ q_wayMany q_keptRow_ q_askedRow_ q_rares_ q_trial_ q_keptMany q_askedMany q_hangs_ q_paths_ q_tornSteps q_hasTorn q_turnOne q_hasTurn q_text_ q_textMany q_toldMany q_toldAt_ q_hasTold q_stack_ q_codes q_ones q_top q_deep q_isWhole q_truths_ q_imaged_ q_namesKept_ q_areKept_ q_s q_far _ (by omega) (by omega) (by omega) (by omega) (by omega) (by omega) (by omega) (by omega) (by omega) (by omega) (by omega) (by omega) (by omega) (by omega) (by omega) (by omega) (by omega) (by omega) (by omega) (by omega) (by omega) (by omega) hR0 hR1 hR2 hR3 hR4 hR5 hR6 hR7 hR8 hR9) kwV_X11_followSet kM_RX11_370 rfl rfl ⟨Nat.le_of_ble_eq_true rfl, Nat.le_of_ble_eq_true rfl⟩ rfl hl.1 rfl (Nat.le_of_ble_eq_true rfl) dX11_isLeaf_84 ⟨hroom.1, hroom.2⟩) C.2.2.2.2.2.2.1 hP hD hS [0, 1, 2] [] rfl rfl (by decide) (by decide) (fun r_34 u_33 H locs hw_35 hP hD hS => ?_)
    obtain ⟨g_36, rfl⟩ : ∃ z, z = u_33 := ⟨_, rfl⟩
    have hP : va_P D vwCl [(q, oC11 q_thrown q_tape_ q_length q_size q_p q_limit q_s_ q_h_ q_read_ q_names_ q_reserved_ q_token q_at q_span q_number q_fault q_faultAt q_word q_got q_lines q_onces q_webs q_one q_two q_seed q_undone_ q_before_ q_undoMany q_far_ q_wayRow_ q_wayMany q_keptRow_ q_askedRow_ q_rares_ q_trial_ q_keptMany q_askedMany q_hangs_ q_paths_ q_tornSteps q_hasTorn q_turnOne q_hasTurn q_text_ q_textMany q_toldMany q_toldAt_ q_hasTold q_stack_ q_codes q_ones q_top q_deep q_isWhole q_truths_ q_imaged_ q_namesKept_ q_areKept_), (q_s_, aC1 cy 383 q_s), (q_far_, aC1 cy 8 g_36)] H := hP
    have hD : va_D A [(q, oC11 q_thrown q_tape_ q_length q_size q_p q_limit q_s_ q_h_ q_read_ q_names_ q_reserved_ q_token q_at q_span q_number q_fault q_faultAt q_word q_got q_lines q_onces q_webs q_one q_two q_seed q_undone_ q_before_ q_undoMany q_far_ q_wayRow_ q_wayMany q_keptRow_ q_askedRow_ q_rares_ q_trial_ q_keptMany q_askedMany q_hangs_ q_paths_ q_tornSteps q_hasTorn q_turnOne q_hasTurn q_text_ q_textMany q_toldMany q_toldAt_ q_hasTold q_stack_ q_codes q_ones q_top q_deep q_isWhole q_truths_ q_imaged_ q_namesKept_ q_areKept_), (q_s_, aC1 cy 383 q_s), (q_far_, aC1 cy 8 g_36)] := hD
    have hp_36 : 0 ≤ r_34.toInt ∧ r_34.toInt ≤ 255 := hw_35.1
    have hp_37 : Rg g_36 0 8 0 1000000000 := hw_35.2
    clear hw_35
    refine lv_iload_n hx hb dX11_isLeaf_87 rfl (lv_at hl 1 rfl) ?_
    refine q_ai (wr := [(q, oC11 q_thrown q_tape_ q_length q_size q_p q_limit q_s_ q_h_ q_read_ q_names_ q_reserved_ q_token q_at q_span q_number q_fault q_faultAt q_word q_got q_lines q_onces q_webs q_one q_two q_seed q_undone_ q_before_ q_undoMany q_far_ q_wayRow_ q_wayMany q_keptRow_ q_askedRow_ q_rares_ q_trial_ q_keptMany q_askedMany q_hangs_ q_paths_ q_tornSteps q_hasTorn q_turnOne q_hasTurn q_text_ q_textMany q_toldMany q_toldAt_ q_hasTold q_stack_ q_codes q_ones q_top q_deep q_isWhole q_truths_ q_imaged_ q_namesKept_ q_areKept_), (q_s_, aC1 cy 383 q_s), (q_far_, aC1 cy 8 g_36)]) (r_S (rm := (Rm 0 0 0 0)) (As := [.int r_34, .int b]) (rest := []) (wc := []) C hS (q_subP hP [] rfl) (hD.sub [] (by decide) rfl) (y_bitOf l D cy r_34 b _ ) kwS_X11_bitOf kM_RX11_231 ⟨Nat.le_of_ble_eq_true rfl, Nat.le_of_ble_eq_true rfl⟩ rfl hl.1 rfl (Nat.le_of_ble_eq_true rfl) dX11_isLeaf_88 ⟨hroom.1, hroom.2⟩) C.2.2.2.2.2.2.1 hP hD hS [] [0, 1, 2] rfl rfl (by decide) (by decide) (fun r_40 u_39 H locs hw_41 hP hD hS => ?_)
    have hp_41 : 0 ≤ r_40.toInt ∧ r_40.toInt ≤ 1 := hw_41.1
    have hp_42 : r_40 = bt r_34 b := hw_41.2
    clear hw_41
    refine o_wq hQ ?_
    exact q_iret (rm := (Rm 4 92 0 0)) C hS g_36 (o_bool (rfl : r_40.toInt = r_40.toInt) (by omega) (by omega)).1 ⟨(show 0 ≤ r_40.toInt ∧ r_40.toInt ≤ 1 by omega), hp_37⟩ (q_subP hP [0, 1, 2] rfl) (hD.sub [0, 1, 2] (by decide) rfl) hroom.1 hroom.2 dX11_isLeaf_91
  · refine lv_tableOut (tgt := 92) hx hb dX11_isLeaf_1 hc_1 (by decide) ?_
    refine lv_iload_n hx hb dX11_isLeaf_92 rfl (lv_at hl 2 rfl) ?_
    refine lv_bipush (v := 6) hx hb dX11_isLeaf_93 (by decide) ?_
    refine lv_icmp_ne (tgt := 110) hx hb dX11_isLeaf_95 (by decide) (fun c_44 => ?_) (fun c_44 => ?_)
    · have hc_44 := o_ne (rfl : w.toInt = w.toInt) (by decide : (6 : Int32).toInt = 6) c_44
      refine lv_iload_n hx hb dX11_isLeaf_110 rfl (lv_at hl 2 rfl) ?_
      refine lv_bipush (v := 7) hx hb dX11_isLeaf_111 (by decide) ?_
      refine lv_icmp_ne (tgt := 127) hx hb dX11_isLeaf_113 (by decide) (fun c_45 => ?_) (fun c_45 => ?_)
      · have hc_45 := o_ne (rfl : w.toInt = w.toInt) (by decide : (7 : Int32).toInt = 7) c_45
        refine lv_iload_n hx hb dX11_isLeaf_127 rfl (lv_at hl 1 rfl) ?_
        refine lv_istore (lv' := [(5, .int b), (0, .ref q), (1, .int b), (2, .int w), (3, .int a), (4, .int n)]) hx hb dX11_isLeaf_128 hl (by decide) rfl (fun ls hl => ?_)
        refine lv_iload_n hx hb dX11_isLeaf_130 rfl (lv_at hl 4 rfl) ?_
        refine lv_bipush (v := 60) hx hb dX11_isLeaf_131 (by decide) ?_
        refine lv_icmp_ne (tgt := 151) hx hb dX11_isLeaf_133 (by decide) (fun c_46 => ?_) (fun c_46 => ?_)
        · have hc_46 := o_ne (rfl : a.toInt = a.toInt) (by decide : (60 : Int32).toInt = 60) c_46
          refine lv_iload_n hx hb dX11_isLeaf_151 rfl (lv_at hl 4 rfl) ?_
          refine lv_bipush (v := 61) hx hb dX11_isLeaf_152 (by decide) ?_
          refine lv_icmp_ne (tgt := 172) hx hb dX11_isLeaf_154 (by decide) (fun c_47 => ?_) (fun c_47 => ?_)
          · have hc_47 := o_ne (rfl : a.toInt = a.toInt) (by decide : (61 : Int32).toInt = 61) c_47
            refine lv_iload hx hb dX11_isLeaf_172 (lv_at hl 0 rfl) ?_
            refine lv_iload hx hb dX11_isLeaf_174 (lv_at hl 5 rfl) ?_
            refine lv_icmp_le (tgt := 183) hx hb dX11_isLeaf_176 (by decide) (fun c_48 => ?_) (fun c_48 => ?_)
            · have hc_48 := o_le (rfl : b.toInt = b.toInt) (rfl : n.toInt = n.toInt) c_48
              refine lv_iconst (v := 0) hx hb dX11_isLeaf_183 (by decide) ?_
              refine o_wq hQ ?_
              exact q_iret (rm := (Rm 4 92 0 0)) C hS q_far rfl ⟨(show 0 ≤ (0 : Int32).toInt ∧ (0 : Int32).toInt ≤ 1 by decide), hR9⟩ (q_subP hP [0, 1, 2] rfl) (hD.sub [0, 1, 2] (by decide) rfl) hroom.1 hroom.2 dX11_isLeaf_184
            · have hc_48 := o_nle (rfl : b.toInt = b.toInt) (rfl : n.toInt = n.toInt) c_48
              refine lv_iconst (v := 1) hx hb dX11_isLeaf_179 (by decide) ?_
              refine lv_goto (tgt := 184) hx hb dX11_isLeaf_180 (by decide) ?_
              refine o_wq hQ ?_
              exact q_iret (rm := (Rm 4 92 0 0)) C hS q_far rfl ⟨(show 0 ≤ (1 : Int32).toInt ∧ (1 : Int32).toInt ≤ 1 by decide), hR9⟩ (q_subP hP [0, 1, 2] rfl) (hD.sub [0, 1, 2] (by decide) rfl) hroom.1 hroom.2 dX11_isLeaf_184
          · have hc_47 := o_eq (rfl : a.toInt = a.toInt) (by decide : (61 : Int32).toInt = 61) c_47
            refine lv_iload hx hb dX11_isLeaf_157 (lv_at hl 0 rfl) ?_
            refine lv_iload hx hb dX11_isLeaf_159 (lv_at hl 5 rfl) ?_
            refine lv_icmp_ne (tgt := 168) hx hb dX11_isLeaf_161 (by decide) (fun c_49 => ?_) (fun c_49 => ?_)
            · have hc_49 := o_ne (rfl : b.toInt = b.toInt) (rfl : n.toInt = n.toInt) c_49
              refine lv_iconst (v := 0) hx hb dX11_isLeaf_168 (by decide) ?_
              refine lv_goto (tgt := 184) hx hb dX11_isLeaf_169 (by decide) ?_
              refine o_wq hQ ?_
              exact q_iret (rm := (Rm 4 92 0 0)) C hS q_far rfl ⟨(show 0 ≤ (0 : Int32).toInt ∧ (0 : Int32).toInt ≤ 1 by decide), hR9⟩ (q_subP hP [0, 1, 2] rfl) (hD.sub [0, 1, 2] (by decide) rfl) hroom.1 hroom.2 dX11_isLeaf_184
            · have hc_49 := o_eq (rfl : b.toInt = b.toInt) (rfl : n.toInt = n.toInt) c_49
              refine lv_iconst (v := 1) hx hb dX11_isLeaf_164 (by decide) ?_
              refine lv_goto (tgt := 184) hx hb dX11_isLeaf_165 (by decide) ?_
              refine o_wq hQ ?_
              exact q_iret (rm := (Rm 4 92 0 0)) C hS q_far rfl ⟨(show 0 ≤ (1 : Int32).toInt ∧ (1 : Int32).toInt ≤ 1 by decide), hR9⟩ (q_subP hP [0, 1, 2] rfl) (hD.sub [0, 1, 2] (by decide) rfl) hroom.1 hroom.2 dX11_isLeaf_184
        · have hc_46 := o_eq (rfl : a.toInt = a.toInt) (by decide : (60 : Int32).toInt = 60) c_46
          refine lv_iload hx hb dX11_isLeaf_136 (lv_at hl 0 rfl) ?_
          refine lv_iload hx hb dX11_isLeaf_138 (lv_at hl 5 rfl) ?_
          refine lv_icmp_ge (tgt := 147) hx hb dX11_isLeaf_140 (by decide) (fun c_50 => ?_) (fun c_50 => ?_)
          · have hc_50 := o_le (rfl : n.toInt = n.toInt) (rfl : b.toInt = b.toInt) c_50
            refine lv_iconst (v := 0) hx hb dX11_isLeaf_147 (by decide) ?_
            refine lv_goto (tgt := 184) hx hb dX11_isLeaf_148 (by decide) ?_
            refine o_wq hQ ?_
            exact q_iret (rm := (Rm 4 92 0 0)) C hS q_far rfl ⟨(show 0 ≤ (0 : Int32).toInt ∧ (0 : Int32).toInt ≤ 1 by decide), hR9⟩ (q_subP hP [0, 1, 2] rfl) (hD.sub [0, 1, 2] (by decide) rfl) hroom.1 hroom.2 dX11_isLeaf_184
          · have hc_50 := o_nle (rfl : n.toInt = n.toInt) (rfl : b.toInt = b.toInt) c_50
            refine lv_iconst (v := 1) hx hb dX11_isLeaf_143 (by decide) ?_
            refine lv_goto (tgt := 184) hx hb dX11_isLeaf_144 (by decide) ?_
            refine o_wq hQ ?_
            exact q_iret (rm := (Rm 4 92 0 0)) C hS q_far rfl ⟨(show 0 ≤ (1 : Int32).toInt ∧ (1 : Int32).toInt ≤ 1 by decide), hR9⟩ (q_subP hP [0, 1, 2] rfl) (hD.sub [0, 1, 2] (by decide) rfl) hroom.1 hroom.2 dX11_isLeaf_184
      · have hc_45 := o_eq (rfl : w.toInt = w.toInt) (by decide : (7 : Int32).toInt = 7) c_45
        refine lv_aload_n hx hb dX11_isLeaf_116 rfl (lv_at hl 0 rfl) ?_
        refine lv_iload_n hx hb dX11_isLeaf_117 rfl (lv_at hl 1 rfl) ?_
        refine q_ai (wr := [(q_far_, aC1 cy 8 q_far)]) (r_V (rm := (Rm 1 22 0 0)) (q0 := 0) (As := [.int b]) (rest := []) (wc := [(q, oC11 q_thrown q_tape_ q_length q_size q_p q_limit q_s_ q_h_ q_read_ q_names_ q_reserved_ q_token q_at q_span q_number q_fault q_faultAt q_word q_got q_lines q_onces q_webs q_one q_two q_seed q_undone_ q_before_ q_undoMany q_far_ q_wayRow_ q_wayMany q_keptRow_ q_askedRow_ q_rares_ q_trial_ q_keptMany q_askedMany q_hangs_ q_paths_ q_tornSteps q_hasTorn q_turnOne q_hasTurn q_text_ q_textMany q_toldMany q_toldAt_ q_hasTold q_stack_ q_codes q_ones q_top q_deep q_isWhole q_truths_ q_imaged_ q_namesKept_ q_areKept_), (q_s_, aC1 cy 383 q_s)]) C hS (q_subP hP [0, 1] rfl) (hD.sub [0, 1] (by decide) rfl) (y_linesOf l D cy q b q_thrown q_tape_ q_length q_size q_p q_limit q_s_ q_h_ q_read_ q_names_ q_reserved_ q_token q_at q_span q_number q_fault q_faultAt q_word q_got q_lines q_onces q_webs q_one q_two q_seed q_undone_ q_before_ q_undoMany q_far_ q_wayRow_ q_wayMany q_keptRow_ q_askedRow_ q_rares_ q_trial_ q_keptMany q_askedMany q_hangs_ q_paths_ q_tornSteps q_hasTorn q_turnOne q_hasTurn q_text_ q_textMany q_toldMany q_toldAt_ q_hasTold q_stack_ q_codes q_ones q_top q_deep q_isWhole q_truths_ q_imaged_ q_namesKept_ q_areKept_ q_s _ (by omega) (by omega) (by omega) (by omega) (by omega) (by omega) (by omega) (by omega) (by omega) (by omega) (by omega) (by omega) (by omega) (by omega) (by omega) (by omega) (by omega) (by omega) (by omega) (by omega) (by omega) (by omega) (by omega) hR0 hR1 hR2 hR3 hR4 hR5 hR6 hR7 hR8) kwV_X11_linesOf kM_RX11_316 rfl rfl ⟨Nat.le_of_ble_eq_true rfl, Nat.le_of_ble_eq_true rfl⟩ rfl hl.1 rfl (Nat.le_of_ble_eq_true rfl) dX11_isLeaf_118 ⟨hroom.1, hroom.2⟩) C.2.2.2.2.2.2.1 hP hD hS [0, 1] [2] rfl rfl (by decide) (by decide) (fun r_52 u_51 H locs hw_53 hP hD hS => ?_)
        have hp_53 : 0 ≤ r_52.toInt ∧ r_52.toInt ≤ 255 := hw_53.1
        have hp_54 : r_52 = lnF q_s b (q_s 0).toNatClampNeg := hw_53.2
        clear hw_53
        refine q_ai (wr := [(q_far_, aC1 cy 8 q_far), (q, oC11 q_thrown q_tape_ q_length q_size q_p q_limit q_s_ q_h_ q_read_ q_names_ q_reserved_ q_token q_at q_span q_number q_fault q_faultAt q_word q_got q_lines q_onces q_webs q_one q_two q_seed q_undone_ q_before_ q_undoMany q_far_ q_wayRow_ q_wayMany q_keptRow_ q_askedRow_ q_rares_ q_trial_ q_keptMany q_askedMany q_hangs_ q_paths_ q_tornSteps q_hasTorn q_turnOne q_hasTurn q_text_ q_textMany q_toldMany q_toldAt_ q_hasTold q_stack_ q_codes q_ones q_top q_deep q_isWhole q_truths_ q_imaged_ q_namesKept_ q_areKept_), (q_s_, aC1 cy 383 q_s)]) (r_S (rm := (Rm 0 0 0 0)) (As := [.int r_52]) (rest := []) (wc := []) C hS (q_subP hP [] rfl) (hD.sub [] (by decide) rfl) (y_bits l D cy r_52 _ (by omega)) kwS_X11_bits kM_RX11_257 ⟨Nat.le_of_ble_eq_true rfl, Nat.le_of_ble_eq_true rfl⟩ rfl hl.1 rfl (Nat.le_of_ble_eq_true rfl) dX11_isLeaf_121 ⟨hroom.1, hroom.2⟩) C.2.2.2.2.2.2.1 hP hD hS [] [0, 1, 2] rfl rfl (by decide) (by decide) (fun r_57 u_56 H locs hw_58 hP hD hS => ?_)
        have hp_58 : 0 ≤ r_57.toInt ∧ r_57.toInt ≤ 8 := hw_58.1
        have hp_59 : r_57.toInt = bc r_52.toInt := hw_58.2
        clear hw_58
        refine lv_goto (tgt := 128) hx hb dX11_isLeaf_124 (by decide) ?_
        refine lv_istore (lv' := [(5, .int r_57), (0, .ref q), (1, .int b), (2, .int w), (3, .int a), (4, .int n)]) hx hb dX11_isLeaf_128 hl (by decide) rfl (fun ls hl => ?_)
        refine lv_iload_n hx hb dX11_isLeaf_130 rfl (lv_at hl 4 rfl) ?_
        refine lv_bipush (v := 60) hx hb dX11_isLeaf_131 (by decide) ?_
        refine lv_icmp_ne (tgt := 151) hx hb dX11_isLeaf_133 (by decide) (fun c_61 => ?_) (fun c_61 => ?_)
        · have hc_61 := o_ne (rfl : a.toInt = a.toInt) (by decide : (60 : Int32).toInt = 60) c_61
          refine lv_iload_n hx hb dX11_isLeaf_151 rfl (lv_at hl 4 rfl) ?_
          refine lv_bipush (v := 61) hx hb dX11_isLeaf_152 (by decide) ?_
          refine lv_icmp_ne (tgt := 172) hx hb dX11_isLeaf_154 (by decide) (fun c_62 => ?_) (fun c_62 => ?_)
          · have hc_62 := o_ne (rfl : a.toInt = a.toInt) (by decide : (61 : Int32).toInt = 61) c_62
            refine lv_iload hx hb dX11_isLeaf_172 (lv_at hl 0 rfl) ?_
            refine lv_iload hx hb dX11_isLeaf_174 (lv_at hl 5 rfl) ?_
            refine lv_icmp_le (tgt := 183) hx hb dX11_isLeaf_176 (by decide) (fun c_63 => ?_) (fun c_63 => ?_)
            · have hc_63 := o_le (rfl : r_57.toInt = r_57.toInt) (rfl : n.toInt = n.toInt) c_63
              refine lv_iconst (v := 0) hx hb dX11_isLeaf_183 (by decide) ?_
              refine o_wq hQ ?_
              exact q_iret (rm := (Rm 4 92 0 0)) C hS q_far rfl ⟨(show 0 ≤ (0 : Int32).toInt ∧ (0 : Int32).toInt ≤ 1 by decide), hR9⟩ (q_subP hP [1, 2, 0] rfl) (hD.sub [1, 2, 0] (by decide) rfl) hroom.1 hroom.2 dX11_isLeaf_184
            · have hc_63 := o_nle (rfl : r_57.toInt = r_57.toInt) (rfl : n.toInt = n.toInt) c_63
              refine lv_iconst (v := 1) hx hb dX11_isLeaf_179 (by decide) ?_
              refine lv_goto (tgt := 184) hx hb dX11_isLeaf_180 (by decide) ?_
              refine o_wq hQ ?_
              exact q_iret (rm := (Rm 4 92 0 0)) C hS q_far rfl ⟨(show 0 ≤ (1 : Int32).toInt ∧ (1 : Int32).toInt ≤ 1 by decide), hR9⟩ (q_subP hP [1, 2, 0] rfl) (hD.sub [1, 2, 0] (by decide) rfl) hroom.1 hroom.2 dX11_isLeaf_184
          · have hc_62 := o_eq (rfl : a.toInt = a.toInt) (by decide : (61 : Int32).toInt = 61) c_62
            refine lv_iload hx hb dX11_isLeaf_157 (lv_at hl 0 rfl) ?_
            refine lv_iload hx hb dX11_isLeaf_159 (lv_at hl 5 rfl) ?_
            refine lv_icmp_ne (tgt := 168) hx hb dX11_isLeaf_161 (by decide) (fun c_64 => ?_) (fun c_64 => ?_)
            · have hc_64 := o_ne (rfl : r_57.toInt = r_57.toInt) (rfl : n.toInt = n.toInt) c_64
              refine lv_iconst (v := 0) hx hb dX11_isLeaf_168 (by decide) ?_
              refine lv_goto (tgt := 184) hx hb dX11_isLeaf_169 (by decide) ?_
              refine o_wq hQ ?_
              exact q_iret (rm := (Rm 4 92 0 0)) C hS q_far rfl ⟨(show 0 ≤ (0 : Int32).toInt ∧ (0 : Int32).toInt ≤ 1 by decide), hR9⟩ (q_subP hP [1, 2, 0] rfl) (hD.sub [1, 2, 0] (by decide) rfl) hroom.1 hroom.2 dX11_isLeaf_184
            · have hc_64 := o_eq (rfl : r_57.toInt = r_57.toInt) (rfl : n.toInt = n.toInt) c_64
              refine lv_iconst (v := 1) hx hb dX11_isLeaf_164 (by decide) ?_
              refine lv_goto (tgt := 184) hx hb dX11_isLeaf_165 (by decide) ?_
              refine o_wq hQ ?_
              exact q_iret (rm := (Rm 4 92 0 0)) C hS q_far rfl ⟨(show 0 ≤ (1 : Int32).toInt ∧ (1 : Int32).toInt ≤ 1 by decide), hR9⟩ (q_subP hP [1, 2, 0] rfl) (hD.sub [1, 2, 0] (by decide) rfl) hroom.1 hroom.2 dX11_isLeaf_184
        · have hc_61 := o_eq (rfl : a.toInt = a.toInt) (by decide : (60 : Int32).toInt = 60) c_61
          refine lv_iload hx hb dX11_isLeaf_136 (lv_at hl 0 rfl) ?_
          refine lv_iload hx hb dX11_isLeaf_138 (lv_at hl 5 rfl) ?_
          refine lv_icmp_ge (tgt := 147) hx hb dX11_isLeaf_140 (by decide) (fun c_65 => ?_) (fun c_65 => ?_)
          · have hc_65 := o_le (rfl : n.toInt = n.toInt) (rfl : r_57.toInt = r_57.toInt) c_65
            refine lv_iconst (v := 0) hx hb dX11_isLeaf_147 (by decide) ?_
            refine lv_goto (tgt := 184) hx hb dX11_isLeaf_148 (by decide) ?_
            refine o_wq hQ ?_
            exact q_iret (rm := (Rm 4 92 0 0)) C hS q_far rfl ⟨(show 0 ≤ (0 : Int32).toInt ∧ (0 : Int32).toInt ≤ 1 by decide), hR9⟩ (q_subP hP [1, 2, 0] rfl) (hD.sub [1, 2, 0] (by decide) rfl) hroom.1 hroom.2 dX11_isLeaf_184
          · have hc_65 := o_nle (rfl : n.toInt = n.toInt) (rfl : r_57.toInt = r_57.toInt) c_65
            refine lv_iconst (v := 1) hx hb dX11_isLeaf_143 (by decide) ?_
            refine lv_goto (tgt := 184) hx hb dX11_isLeaf_144 (by decide) ?_
            refine o_wq hQ ?_
            exact q_iret (rm := (Rm 4 92 0 0)) C hS q_far rfl ⟨(show 0 ≤ (1 : Int32).toInt ∧ (1 : Int32).toInt ≤ 1 by decide), hR9⟩ (q_subP hP [1, 2, 0] rfl) (hD.sub [1, 2, 0] (by decide) rfl) hroom.1 hroom.2 dX11_isLeaf_184
    · have hc_44 := o_eq (rfl : w.toInt = w.toInt) (by decide : (6 : Int32).toInt = 6) c_44
      refine lv_aload_n hx hb dX11_isLeaf_98 rfl (lv_at hl 0 rfl) ?_
      refine q_get11 (v := .ref q_s_) C hP 0 6 rfl fT_6 (by decide) kF_RX11_33 rfl dX11_isLeaf_99 ?_
      refine lv_bipush (v := 122) hx hb dX11_isLeaf_102 (by decide) ?_
      refine lv_iload_n hx hb dX11_isLeaf_104 rfl (lv_at hl 1 rfl) ?_
      refine lv_iadd hx hb dX11_isLeaf_105 ?_
      refine lv_topi (fun z_66 hz_66 => ?_)
      have hz_66 := o_add hz_66 (by decide : (122 : Int32).toInt = 122) (rfl : b.toInt = b.toInt) (by omega) (by omega)
      refine q_iald (v := q_s z_66.toNatClampNeg) C hP 1 rfl (o_in (rfl : z_66.toInt = z_66.toInt) (by omega) (by omega)) rfl dX11_isLeaf_106 ?_
      refine lv_topi (fun z_67 ez_67 => ?_)
      have hz_67 := Rg.at hR8 ez_67 (by have := o_cl (rfl : z_66.toInt = z_66.toInt) (by omega); omega) (by have := o_cl (rfl : z_66.toInt = z_66.toInt) (by omega); omega)
      refine lv_goto (tgt := 128) hx hb dX11_isLeaf_107 (by decide) ?_
      refine lv_istore (lv' := [(5, .int z_67), (0, .ref q), (1, .int b), (2, .int w), (3, .int a), (4, .int n)]) hx hb dX11_isLeaf_128 hl (by decide) rfl (fun ls hl => ?_)
      refine lv_iload_n hx hb dX11_isLeaf_130 rfl (lv_at hl 4 rfl) ?_
      refine lv_bipush (v := 60) hx hb dX11_isLeaf_131 (by decide) ?_
      refine lv_icmp_ne (tgt := 151) hx hb dX11_isLeaf_133 (by decide) (fun c_68 => ?_) (fun c_68 => ?_)
      · have hc_68 := o_ne (rfl : a.toInt = a.toInt) (by decide : (60 : Int32).toInt = 60) c_68
        refine lv_iload_n hx hb dX11_isLeaf_151 rfl (lv_at hl 4 rfl) ?_
        refine lv_bipush (v := 61) hx hb dX11_isLeaf_152 (by decide) ?_
        refine lv_icmp_ne (tgt := 172) hx hb dX11_isLeaf_154 (by decide) (fun c_69 => ?_) (fun c_69 => ?_)
        · have hc_69 := o_ne (rfl : a.toInt = a.toInt) (by decide : (61 : Int32).toInt = 61) c_69
          refine lv_iload hx hb dX11_isLeaf_172 (lv_at hl 0 rfl) ?_
          refine lv_iload hx hb dX11_isLeaf_174 (lv_at hl 5 rfl) ?_
          refine lv_icmp_le (tgt := 183) hx hb dX11_isLeaf_176 (by decide) (fun c_70 => ?_) (fun c_70 => ?_)
          · have hc_70 := o_le (rfl : z_67.toInt = z_67.toInt) (rfl : n.toInt = n.toInt) c_70
            refine lv_iconst (v := 0) hx hb dX11_isLeaf_183 (by decide) ?_
            refine o_wq hQ ?_
            exact q_iret (rm := (Rm 4 92 0 0)) C hS q_far rfl ⟨(show 0 ≤ (0 : Int32).toInt ∧ (0 : Int32).toInt ≤ 1 by decide), hR9⟩ (q_subP hP [0, 1, 2] rfl) (hD.sub [0, 1, 2] (by decide) rfl) hroom.1 hroom.2 dX11_isLeaf_184
          · have hc_70 := o_nle (rfl : z_67.toInt = z_67.toInt) (rfl : n.toInt = n.toInt) c_70
            refine lv_iconst (v := 1) hx hb dX11_isLeaf_179 (by decide) ?_
            refine lv_goto (tgt := 184) hx hb dX11_isLeaf_180 (by decide) ?_
            refine o_wq hQ ?_
            exact q_iret (rm := (Rm 4 92 0 0)) C hS q_far rfl ⟨(show 0 ≤ (1 : Int32).toInt ∧ (1 : Int32).toInt ≤ 1 by decide), hR9⟩ (q_subP hP [0, 1, 2] rfl) (hD.sub [0, 1, 2] (by decide) rfl) hroom.1 hroom.2 dX11_isLeaf_184
        · have hc_69 := o_eq (rfl : a.toInt = a.toInt) (by decide : (61 : Int32).toInt = 61) c_69
          refine lv_iload hx hb dX11_isLeaf_157 (lv_at hl 0 rfl) ?_
          refine lv_iload hx hb dX11_isLeaf_159 (lv_at hl 5 rfl) ?_
          refine lv_icmp_ne (tgt := 168) hx hb dX11_isLeaf_161 (by decide) (fun c_71 => ?_) (fun c_71 => ?_)
          · have hc_71 := o_ne (rfl : z_67.toInt = z_67.toInt) (rfl : n.toInt = n.toInt) c_71
            refine lv_iconst (v := 0) hx hb dX11_isLeaf_168 (by decide) ?_
            refine lv_goto (tgt := 184) hx hb dX11_isLeaf_169 (by decide) ?_
            refine o_wq hQ ?_
            exact q_iret (rm := (Rm 4 92 0 0)) C hS q_far rfl ⟨(show 0 ≤ (0 : Int32).toInt ∧ (0 : Int32).toInt ≤ 1 by decide), hR9⟩ (q_subP hP [0, 1, 2] rfl) (hD.sub [0, 1, 2] (by decide) rfl) hroom.1 hroom.2 dX11_isLeaf_184
          · have hc_71 := o_eq (rfl : z_67.toInt = z_67.toInt) (rfl : n.toInt = n.toInt) c_71
            refine lv_iconst (v := 1) hx hb dX11_isLeaf_164 (by decide) ?_
            refine lv_goto (tgt := 184) hx hb dX11_isLeaf_165 (by decide) ?_
            refine o_wq hQ ?_
            exact q_iret (rm := (Rm 4 92 0 0)) C hS q_far rfl ⟨(show 0 ≤ (1 : Int32).toInt ∧ (1 : Int32).toInt ≤ 1 by decide), hR9⟩ (q_subP hP [0, 1, 2] rfl) (hD.sub [0, 1, 2] (by decide) rfl) hroom.1 hroom.2 dX11_isLeaf_184
      · have hc_68 := o_eq (rfl : a.toInt = a.toInt) (by decide : (60 : Int32).toInt = 60) c_68
        refine lv_iload hx hb dX11_isLeaf_136 (lv_at hl 0 rfl) ?_
        refine lv_iload hx hb dX11_isLeaf_138 (lv_at hl 5 rfl) ?_
        refine lv_icmp_ge (tgt := 147) hx hb dX11_isLeaf_140 (by decide) (fun c_72 => ?_) (fun c_72 => ?_)
        · have hc_72 := o_le (rfl : n.toInt = n.toInt) (rfl : z_67.toInt = z_67.toInt) c_72
          refine lv_iconst (v := 0) hx hb dX11_isLeaf_147 (by decide) ?_
          refine lv_goto (tgt := 184) hx hb dX11_isLeaf_148 (by decide) ?_
          refine o_wq hQ ?_
          exact q_iret (rm := (Rm 4 92 0 0)) C hS q_far rfl ⟨(show 0 ≤ (0 : Int32).toInt ∧ (0 : Int32).toInt ≤ 1 by decide), hR9⟩ (q_subP hP [0, 1, 2] rfl) (hD.sub [0, 1, 2] (by decide) rfl) hroom.1 hroom.2 dX11_isLeaf_184
        · have hc_72 := o_nle (rfl : n.toInt = n.toInt) (rfl : z_67.toInt = z_67.toInt) c_72
          refine lv_iconst (v := 1) hx hb dX11_isLeaf_143 (by decide) ?_
          refine lv_goto (tgt := 184) hx hb dX11_isLeaf_144 (by decide) ?_
          refine o_wq hQ ?_
          exact q_iret (rm := (Rm 4 92 0 0)) C hS q_far rfl ⟨(show 0 ≤ (1 : Int32).toInt ∧ (1 : Int32).toInt ≤ 1 by decide), hR9⟩ (q_subP hP [0, 1, 2] rfl) (hD.sub [0, 1, 2] (by decide) rfl) hroom.1 hroom.2 dX11_isLeaf_184
theorem y_isLeaf (l : Launch) (D : va_G) (cy : Nat → ClassId) (q : Nat) (b : Int32) (w : Int32) (a : Int32) (n : Int32) (q_thrown : Int32) (q_tape_ : Nat) (q_length : Int32) (q_size : Int32) (q_p : Int32) (q_limit : Int32) (q_s_ : Nat) (q_h_ : Nat) (q_read_ : Nat) (q_names_ : Nat) (q_reserved_ : Nat) (q_token : Int32) (q_at : Int32) (q_span : Int32) (q_number : Int32) (q_fault : Int32) (q_faultAt : Int32) (q_word : Int64) (q_got : Int32) (q_lines : Int32) (q_onces : Int32) (q_webs : Int32) (q_one : Int32) (q_two : Int32) (q_seed : Int32) (q_undone_ : Nat) (q_before_ : Nat) (q_undoMany : Int32) (q_far_ : Nat) (q_wayRow_ : Nat) (q_wayMany : Int32) (q_keptRow_ : Nat) (q_askedRow_ : Nat) (q_rares_ : Nat) (q_trial_ : Nat) (q_keptMany : Int32) (q_askedMany : Int32) (q_hangs_ : Nat) (q_paths_ : Nat) (q_tornSteps : Int32) (q_hasTorn : Int32) (q_turnOne : Int32) (q_hasTurn : Int32) (q_text_ : Nat) (q_textMany : Int32) (q_toldMany : Int32) (q_toldAt_ : Nat) (q_hasTold : Int32) (q_stack_ : Nat) (q_codes : Int32) (q_ones : Int32) (q_top : Int32) (q_deep : Int32) (q_isWhole : Int32) (q_truths_ : Nat) (q_imaged_ : Nat) (q_namesKept_ : Nat) (q_areKept_ : Nat) (q_s : Nat → Int32) (q_far : Nat → Int32) (sz : Nat) (hb0 : 0 ≤ q_length.toInt ∧ q_length.toInt ≤ 940) (hb1 : 0 ≤ q_size.toInt ∧ q_size.toInt ≤ 940) (hb2 : 0 ≤ q_p.toInt ∧ q_p.toInt ≤ 940) (hb3 : 0 ≤ q_limit.toInt ∧ q_limit.toInt ≤ 940) (hb4 : 0 ≤ q_span.toInt ∧ q_span.toInt ≤ 940) (hb5 : 0 ≤ q_number.toInt ∧ q_number.toInt ≤ 8214) (hb6 : (-1) ≤ q_got.toInt ∧ q_got.toInt ≤ 8214) (hb7 : 0 ≤ q_one.toInt ∧ q_one.toInt ≤ 7) (hb8 : 0 ≤ q_two.toInt ∧ q_two.toInt ≤ 7) (hb9 : 0 ≤ q_undoMany.toInt ∧ q_undoMany.toInt ≤ 8) (hb10 : (-1) ≤ q_wayMany.toInt ∧ q_wayMany.toInt ≤ 8) (hb11 : (-1) ≤ q_keptMany.toInt ∧ q_keptMany.toInt ≤ 8) (hb12 : (-1) ≤ q_askedMany.toInt ∧ q_askedMany.toInt ≤ 3) (hb13 : 0 ≤ q_hasTorn.toInt ∧ q_hasTorn.toInt ≤ 1) (hb14 : 0 ≤ q_hasTurn.toInt ∧ q_hasTurn.toInt ≤ 1) (hb15 : 0 ≤ q_textMany.toInt ∧ q_textMany.toInt ≤ 48) (hb16 : 0 ≤ q_toldMany.toInt ∧ q_toldMany.toInt ≤ 40) (hb17 : 0 ≤ q_hasTold.toInt ∧ q_hasTold.toInt ≤ 1) (hb18 : 0 ≤ q_codes.toInt ∧ q_codes.toInt ≤ 40) (hb19 : 0 ≤ q_ones.toInt ∧ q_ones.toInt ≤ 20) (hb20 : 0 ≤ q_top.toInt ∧ q_top.toInt ≤ 40) (hb21 : 0 ≤ q_isWhole.toInt ∧ q_isWhole.toInt ≤ 1) (hb22 : 0 ≤ b.toInt ∧ b.toInt ≤ 7) (hR0 : Rg q_s 0 1 0 8) (hR1 : Rg q_s 1 3 0 6) (hR2 : Rg q_s 3 4 1 50) (hR3 : Rg q_s 4 5 1 5) (hR4 : Rg q_s 103 104 0 255) (hR5 : Rg q_s 7 23 0 5) (hR6 : Rg q_s 106 122 0 5) (hR7 : Rg q_s 23 31 0 99) (hR8 : Rg q_s 122 130 0 99) (hR9 : Rg q_far 0 8 0 1000000000) : MI l yX11_isLeaf cX11_isLeaf 6 (some .boolean) (Rm 4 92 0 0) D cy [.ref q, .int b, .int w, .int a, .int n] sz [(q, oC11 q_thrown q_tape_ q_length q_size q_p q_limit q_s_ q_h_ q_read_ q_names_ q_reserved_ q_token q_at q_span q_number q_fault q_faultAt q_word q_got q_lines q_onces q_webs q_one q_two q_seed q_undone_ q_before_ q_undoMany q_far_ q_wayRow_ q_wayMany q_keptRow_ q_askedRow_ q_rares_ q_trial_ q_keptMany q_askedMany q_hangs_ q_paths_ q_tornSteps q_hasTorn q_turnOne q_hasTurn q_text_ q_textMany q_toldMany q_toldAt_ q_hasTold q_stack_ q_codes q_ones q_top q_deep q_isWhole q_truths_ q_imaged_ q_namesKept_ q_areKept_), (q_s_, aC1 cy 383 q_s), (q_far_, aC1 cy 8 q_far)] (fun (r : Int32) (u : (Nat → Int32)) => (0 ≤ r.toInt ∧ r.toInt ≤ 1) ∧ (Rg u 0 8 0 1000000000)) (fun u : (Nat → Int32) => [(q, oC11 q_thrown q_tape_ q_length q_size q_p q_limit q_s_ q_h_ q_read_ q_names_ q_reserved_ q_token q_at q_span q_number q_fault q_faultAt q_word q_got q_lines q_onces q_webs q_one q_two q_seed q_undone_ q_before_ q_undoMany q_far_ q_wayRow_ q_wayMany q_keptRow_ q_askedRow_ q_rares_ q_trial_ q_keptMany q_askedMany q_hangs_ q_paths_ q_tornSteps q_hasTorn q_turnOne q_hasTurn q_text_ q_textMany q_toldMany q_toldAt_ q_hasTold q_stack_ q_codes q_ones q_top q_deep q_isWhole q_truths_ q_imaged_ q_namesKept_ q_areKept_), (q_s_, aC1 cy 383 q_s), (q_far_, aC1 cy 8 u)]) := by
  refine MI.enter (by decide) (Nat.le_of_ble_eq_true rfl) ?_
  intro p e s m below meth c ls A hsz hAe C hP hD hS hl
  exact b_y_isLeaf l D cy q b w a n q_thrown q_tape_ q_length q_size q_p q_limit q_s_ q_h_ q_read_ q_names_ q_reserved_ q_token q_at q_span q_number q_fault q_faultAt q_word q_got q_lines q_onces q_webs q_one q_two q_seed q_undone_ q_before_ q_undoMany q_far_ q_wayRow_ q_wayMany q_keptRow_ q_askedRow_ q_rares_ q_trial_ q_keptMany q_askedMany q_hangs_ q_paths_ q_tornSteps q_hasTorn q_turnOne q_hasTurn q_text_ q_textMany q_toldMany q_toldAt_ q_hasTold q_stack_ q_codes q_ones q_top q_deep q_isWhole q_truths_ q_imaged_ q_namesKept_ q_areKept_ q_s q_far hb0 hb1 hb2 hb3 hb4 hb5 hb6 hb7 hb8 hb9 hb10 hb11 hb12 hb13 hb14 hb15 hb16 hb17 hb18 hb19 hb20 hb21 hb22 hR0 hR1 hR2 hR3 hR4 hR5 hR6 hR7 hR8 hR9 ⟨Nat.le_of_ble_eq_true rfl, Nat.le_of_ble_eq_true rfl⟩ C rfl _ _ ls hP hD hS hl
set_option maxHeartbeats 4000000 in
set_option maxRecDepth 100000 in
theorem b_y_isSaid (l : Launch) (D : va_G) (cy : Nat → ClassId) (q : Nat) (b : Int32) (q_thrown : Int32) (q_tape_ : Nat) (q_length : Int32) (q_size : Int32) (q_p : Int32) (q_limit : Int32) (q_s_ : Nat) (q_h_ : Nat) (q_read_ : Nat) (q_names_ : Nat) (q_reserved_ : Nat) (q_token : Int32) (q_at : Int32) (q_span : Int32) (q_number : Int32) (q_fault : Int32) (q_faultAt : Int32) (q_word : Int64) (q_got : Int32) (q_lines : Int32) (q_onces : Int32) (q_webs : Int32) (q_one : Int32) (q_two : Int32) (q_seed : Int32) (q_undone_ : Nat) (q_before_ : Nat) (q_undoMany : Int32) (q_far_ : Nat) (q_wayRow_ : Nat) (q_wayMany : Int32) (q_keptRow_ : Nat) (q_askedRow_ : Nat) (q_rares_ : Nat) (q_trial_ : Nat) (q_keptMany : Int32) (q_askedMany : Int32) (q_hangs_ : Nat) (q_paths_ : Nat) (q_tornSteps : Int32) (q_hasTorn : Int32) (q_turnOne : Int32) (q_hasTurn : Int32) (q_text_ : Nat) (q_textMany : Int32) (q_toldMany : Int32) (q_toldAt_ : Nat) (q_hasTold : Int32) (q_stack_ : Nat) (q_codes : Int32) (q_ones : Int32) (q_top : Int32) (q_deep : Int32) (q_isWhole : Int32) (q_truths_ : Nat) (q_imaged_ : Nat) (q_namesKept_ : Nat) (q_areKept_ : Nat) (q_s : Nat → Int32) (q_far : Nat → Int32) (q_truths : Nat → Int32) (hb0 : 0 ≤ q_length.toInt ∧ q_length.toInt ≤ 940) (hb1 : 0 ≤ q_size.toInt ∧ q_size.toInt ≤ 940) (hb2 : 0 ≤ q_p.toInt ∧ q_p.toInt ≤ 940) (hb3 : 0 ≤ q_limit.toInt ∧ q_limit.toInt ≤ 940) (hb4 : 0 ≤ q_span.toInt ∧ q_span.toInt ≤ 940) (hb5 : 0 ≤ q_number.toInt ∧ q_number.toInt ≤ 8214) (hb6 : (-1) ≤ q_got.toInt ∧ q_got.toInt ≤ 8214) (hb7 : 0 ≤ q_one.toInt ∧ q_one.toInt ≤ 7) (hb8 : 0 ≤ q_two.toInt ∧ q_two.toInt ≤ 7) (hb9 : 0 ≤ q_undoMany.toInt ∧ q_undoMany.toInt ≤ 8) (hb10 : (-1) ≤ q_wayMany.toInt ∧ q_wayMany.toInt ≤ 8) (hb11 : (-1) ≤ q_keptMany.toInt ∧ q_keptMany.toInt ≤ 8) (hb12 : (-1) ≤ q_askedMany.toInt ∧ q_askedMany.toInt ≤ 3) (hb13 : 0 ≤ q_hasTorn.toInt ∧ q_hasTorn.toInt ≤ 1) (hb14 : 0 ≤ q_hasTurn.toInt ∧ q_hasTurn.toInt ≤ 1) (hb15 : 0 ≤ q_textMany.toInt ∧ q_textMany.toInt ≤ 48) (hb16 : 0 ≤ q_toldMany.toInt ∧ q_toldMany.toInt ≤ 40) (hb17 : 0 ≤ q_hasTold.toInt ∧ q_hasTold.toInt ≤ 1) (hb18 : 0 ≤ q_codes.toInt ∧ q_codes.toInt ≤ 40) (hb19 : 0 ≤ q_ones.toInt ∧ q_ones.toInt ≤ 20) (hb20 : 0 ≤ q_top.toInt ∧ q_top.toInt ≤ 40) (hb21 : 0 ≤ q_isWhole.toInt ∧ q_isWhole.toInt ≤ 1) (hb22 : 0 ≤ b.toInt ∧ b.toInt ≤ 7) (hR0 : Rg q_s 0 1 0 8) (hR1 : Rg q_s 1 3 0 6) (hR2 : Rg q_s 3 4 1 50) (hR3 : Rg q_s 4 5 1 5) (hR4 : Rg q_s 103 104 0 255) (hR5 : Rg q_s 7 23 0 5) (hR6 : Rg q_s 106 122 0 5) (hR7 : Rg q_s 23 31 0 99) (hR8 : Rg q_s 122 130 0 99) (hR9 : Sv q_s) (hR10 : Rg q_far 0 8 0 1000000000) (hR11 : Rg q_truths 0 45 0 1) {p : Program} {e : Env} {s : State} {m : MethodId} {args : Array Value} {below : List Frame} {meth : Method} {c : Code} {A : Nat → Prop} {Q : State → Prop} {cells slots : Nat} (hroom : cells ≤ ((Rm 5 117 0 0)).cells ∧ slots ≤ ((Rm 5 117 0 0)).slots) (C : Cx p s m args meth c cX11_isSaid 5 (some .boolean) RX11 "isSaid" D cy A) (hQ : Q = MQ below (va_Qi (fun (r : Int32) (u : (Nat → Int32) × (Nat → Int32)) => (0 ≤ r.toInt ∧ r.toInt ≤ 1) ∧ (Rg u.1 0 8 0 1000000000) ∧ (Rg u.2 0 45 0 1)) (Bx D A (fun u : (Nat → Int32) × (Nat → Int32) => [(q, oC11 q_thrown q_tape_ q_length q_size q_p q_limit q_s_ q_h_ q_read_ q_names_ q_reserved_ q_token q_at q_span q_number q_fault q_faultAt q_word q_got q_lines q_onces q_webs q_one q_two q_seed q_undone_ q_before_ q_undoMany q_far_ q_wayRow_ q_wayMany q_keptRow_ q_askedRow_ q_rares_ q_trial_ q_keptMany q_askedMany q_hangs_ q_paths_ q_tornSteps q_hasTorn q_turnOne q_hasTurn q_text_ q_textMany q_toldMany q_toldAt_ q_hasTold q_stack_ q_codes q_ones q_top q_deep q_isWhole q_truths_ q_imaged_ q_namesKept_ q_areKept_), (q_s_, aC1 cy 383 q_s), (q_far_, aC1 cy 8 u.1), (q_truths_, aC3 cy 45 u.2)])) A) args s ((Rm 5 117 0 0)).cells ((Rm 5 117 0 0)).slots A) (H : Heap) (locs : List Loc) (ls : Array Slot) (hP : va_P D vwCl [(q, oC11 q_thrown q_tape_ q_length q_size q_p q_limit q_s_ q_h_ q_read_ q_names_ q_reserved_ q_token q_at q_span q_number q_fault q_faultAt q_word q_got q_lines q_onces q_webs q_one q_two q_seed q_undone_ q_before_ q_undoMany q_far_ q_wayRow_ q_wayMany q_keptRow_ q_askedRow_ q_rares_ q_trial_ q_keptMany q_askedMany q_hangs_ q_paths_ q_tornSteps q_hasTorn q_turnOne q_hasTurn q_text_ q_textMany q_toldMany q_toldAt_ q_hasTold q_stack_ q_codes q_ones q_top q_deep q_isWhole q_truths_ q_imaged_ q_namesKept_ q_areKept_), (q_s_, aC1 cy 383 q_s), (q_far_, aC1 cy 8 q_far), (q_truths_, aC3 cy 45 q_truths)] H) (hD : va_D A [(q, oC11 q_thrown q_tape_ q_length q_size q_p q_limit q_s_ q_h_ q_read_ q_names_ q_reserved_ q_token q_at q_span q_number q_fault q_faultAt q_word q_got q_lines q_onces q_webs q_one q_two q_seed q_undone_ q_before_ q_undoMany q_far_ q_wayRow_ q_wayMany q_keptRow_ q_askedRow_ q_rares_ q_trial_ q_keptMany q_askedMany q_hangs_ q_paths_ q_tornSteps q_hasTorn q_turnOne q_hasTurn q_text_ q_textMany q_toldMany q_toldAt_ q_hasTold q_stack_ q_codes q_ones q_top q_deep q_isWhole q_truths_ q_imaged_ q_namesKept_ q_areKept_), (q_s_, aC1 cy 383 q_s), (q_far_, aC1 cy 8 q_far), (q_truths_, aC3 cy 45 q_truths)]) (hS : va_S A s.heap H locs) (hl : lv_has ls 5 [(0, .ref q), (1, .int b)]) : W p l e (Rm 5 117 0 0) s m args below meth c H locs cells slots Q (F0 m 0 ls []) := by
  have hx := C.1
  have hb := C.2.1
  obtain ⟨n_1, en_1⟩ : ∃ z : Int32, z = q_s 202 := ⟨_, rfl⟩
  have hq_1 : 0 ≤ n_1.toInt ∧ n_1.toInt ≤ 40 := by rw [en_1]; exact ⟨hR9.2.1, hR9.2.2.1⟩
  refine lv_iconst (v := 0) hx hb dX11_isSaid_0 (by decide) ?_
  refine lv_istore_n (lv' := [(2, .int 0), (0, .ref q), (1, .int b)]) hx hb dX11_isSaid_1 rfl hl (by decide) rfl (fun ls hl => ?_)
  refine lv_iconst (v := 0) hx hb dX11_isSaid_2 (by decide) ?_
  refine lv_istore_n (lv' := [(3, .int 0), (2, .int 0), (0, .ref q), (1, .int b)]) hx hb dX11_isSaid_3 rfl hl (by decide) rfl (fun ls hl => ?_)
  have lp_4_6 : ∀ (n_7 : Nat) (x_3 : Int32) (x_4 : Int32) (g_5 : Nat → Int32) (g_6 : Nat → Int32) (H : Heap) (locs : List Loc) (ls : Array Slot), (-1) * x_4.toInt + 2147483647 < (n_7 : Int) → (0 ≤ x_4.toInt) → (x_3.toInt = dp q_s 203 x_4.toNatClampNeg) → (x_4.toInt ≤ 2147483647) → Rg g_5 0 8 0 1000000000 → Rg g_6 0 45 0 1 → va_P D vwCl [(q, oC11 q_thrown q_tape_ q_length q_size q_p q_limit q_s_ q_h_ q_read_ q_names_ q_reserved_ q_token q_at q_span q_number q_fault q_faultAt q_word q_got q_lines q_onces q_webs q_one q_two q_seed q_undone_ q_before_ q_undoMany q_far_ q_wayRow_ q_wayMany q_keptRow_ q_askedRow_ q_rares_ q_trial_ q_keptMany q_askedMany q_hangs_ q_paths_ q_tornSteps q_hasTorn q_turnOne q_hasTurn q_text_ q_textMany q_toldMany q_toldAt_ q_hasTold q_stack_ q_codes q_ones q_top q_deep q_isWhole q_truths_ q_imaged_ q_namesKept_ q_areKept_), (q_s_, aC1 cy 383 q_s), (q_far_, aC1 cy 8 g_5), (q_truths_, aC3 cy 45 g_6)] H → va_D A [(q, oC11 q_thrown q_tape_ q_length q_size q_p q_limit q_s_ q_h_ q_read_ q_names_ q_reserved_ q_token q_at q_span q_number q_fault q_faultAt q_word q_got q_lines q_onces q_webs q_one q_two q_seed q_undone_ q_before_ q_undoMany q_far_ q_wayRow_ q_wayMany q_keptRow_ q_askedRow_ q_rares_ q_trial_ q_keptMany q_askedMany q_hangs_ q_paths_ q_tornSteps q_hasTorn q_turnOne q_hasTurn q_text_ q_textMany q_toldMany q_toldAt_ q_hasTold q_stack_ q_codes q_ones q_top q_deep q_isWhole q_truths_ q_imaged_ q_namesKept_ q_areKept_), (q_s_, aC1 cy 383 q_s), (q_far_, aC1 cy 8 g_5), (q_truths_, aC3 cy 45 g_6)] → va_S A s.heap H locs → lv_has ls 5 [(0, .ref q), (1, .int b), (2, .int x_3), (3, .int x_4)] → W p l e (Rm 5 117 0 0) s m args below meth c H locs cells slots Q (F0 m 4 ls []) := by
    intro n_7
    induction n_7 with
    | zero =>
      intro x_3 x_4 g_5 g_6 H locs ls hm_13 hf_8 hf_9 hf_10 hg_11 hg_12 hP hD hS hl
      exact absurd hm_13 (by omega)
    | succ n_7 ih_14 =>
      intro x_3 x_4 g_5 g_6 H locs ls hm_13 hf_8 hf_9 hf_10 hg_11 hg_12 hP hD hS hl
      refine lv_iload_n hx hb dX11_isSaid_4 rfl (lv_at hl 3 rfl) ?_
      refine lv_aload_n hx hb dX11_isSaid_5 rfl (lv_at hl 0 rfl) ?_
      refine q_get11 (v := .ref q_s_) C hP 0 6 rfl fT_6 (by decide) kF_RX11_33 rfl dX11_isSaid_6 ?_
      refine lv_sipush (v := 202) hx hb dX11_isSaid_9 (by decide) ?_
      refine q_iald (v := n_1) C hP 1 rfl (vin (by decide +kernel)) en_1.symm dX11_isSaid_12 ?_
      refine lv_icmp_ge (tgt := 212) hx hb dX11_isSaid_13 (by decide) (fun c_16 => ?_) (fun c_16 => ?_)
      · have hc_16 := o_le (rfl : n_1.toInt = n_1.toInt) (rfl : x_4.toInt = x_4.toInt) c_16
        refine lv_aload_n hx hb dX11_isSaid_212 rfl (lv_at hl 0 rfl) ?_
        refine q_get11 (v := .ref q_truths_) C hP 0 54 rfl fT_54 (by decide) kF_RX11_98 rfl dX11_isSaid_213 ?_
        refine lv_iconst (v := 0) hx hb dX11_isSaid_216 (by decide) ?_
        refine q_baldZ (v := g_6 0) C hP 3 rfl (vin (by decide +kernel)) rfl dX11_isSaid_217 ?_
        refine lv_topi (fun z_17 ez_17 => ?_)
        have hz_17 : 0 ≤ z_17.toInt ∧ z_17.toInt ≤ 1 := (by rw [ez_17]; exact hg_12 0 (by decide) (by decide))
        refine o_wq hQ ?_
        exact q_iret (rm := (Rm 5 117 0 0)) C hS (g_5, g_6) (o_bool (rfl : z_17.toInt = z_17.toInt) (by omega) (by omega)).1 ⟨(show 0 ≤ z_17.toInt ∧ z_17.toInt ≤ 1 by omega), hg_11, hg_12⟩ (q_subP hP [0, 1, 2, 3] rfl) (hD.sub [0, 1, 2, 3] (by decide) rfl) hroom.1 hroom.2 dX11_isSaid_218
      · have hc_16 := o_nle (rfl : n_1.toInt = n_1.toInt) (rfl : x_4.toInt = x_4.toInt) c_16
        refine lv_sipush (v := 203) hx hb dX11_isSaid_16 (by decide) ?_
        refine lv_iconst (v := 3) hx hb dX11_isSaid_19 (by decide) ?_
        refine lv_iload_n hx hb dX11_isSaid_20 rfl (lv_at hl 3 rfl) ?_
        refine lv_imul hx hb dX11_isSaid_21 ?_
        refine lv_topi (fun z_18 hz_18 => ?_)
        have dz_18 := hz_18
        have hz_18 := o_mul hz_18 (by decide : (3 : Int32).toInt = 3) (rfl : x_4.toInt = x_4.toInt) (by omega) (by omega)
        refine lv_iadd hx hb dX11_isSaid_22 ?_
        refine lv_topi (fun z_19 hz_19 => ?_)
        have dz_19 := hz_19
        have hz_19 := o_add hz_19 (by decide : (203 : Int32).toInt = 203) (rfl : z_18.toInt = z_18.toInt) (by omega) (by omega)
        refine lv_istore (lv' := [(4, .int z_19), (0, .ref q), (1, .int b), (2, .int x_3), (3, .int x_4)]) hx hb dX11_isSaid_23 hl (by decide) rfl (fun ls hl => ?_)
        refine lv_aload_n hx hb dX11_isSaid_25 rfl (lv_at hl 1 rfl) ?_
        refine q_get11 (v := .ref q_s_) C hP 0 6 rfl fT_6 (by decide) kF_RX11_33 rfl dX11_isSaid_26 ?_
        refine lv_iload hx hb dX11_isSaid_29 (lv_at hl 0 rfl) ?_
        refine q_iald (v := q_s z_19.toNatClampNeg) C hP 1 rfl (o_in (rfl : z_19.toInt = z_19.toInt) (by omega) (by omega)) rfl dX11_isSaid_31 ?_
        refine lv_topi (fun z_20 ez_20 => ?_)
        refine lv_bipush (v := 20) hx hb dX11_isSaid_32 (by decide) ?_
        have hq_20 := said_at (i := x_4) (to := z_19) hR9 hf_9 en_1 (by omega) (by omega) (by omega) ez_20
        refine lv_icmp_ne (tgt := 64) hx hb dX11_isSaid_34 (by decide) (fun c_22 => ?_) (fun c_22 => ?_)
        · have hc_22 := o_ne (rfl : z_20.toInt = z_20.toInt) (by decide : (20 : Int32).toInt = 20) c_22
          refine lv_aload_n hx hb dX11_isSaid_64 rfl (lv_at hl 1 rfl) ?_
          refine q_get11 (v := .ref q_s_) C hP 0 6 rfl fT_6 (by decide) kF_RX11_33 rfl dX11_isSaid_65 ?_
          refine lv_iload hx hb dX11_isSaid_68 (lv_at hl 0 rfl) ?_
          refine q_iald (v := z_20) C hP 1 rfl (o_in (rfl : z_19.toInt = z_19.toInt) (by omega) (by omega)) ez_20.symm dX11_isSaid_70 ?_
          refine lv_bipush (v := 21) hx hb dX11_isSaid_71 (by decide) ?_
          refine lv_icmp_eq (tgt := 88) hx hb dX11_isSaid_73 (by decide) (fun c_23 => ?_) (fun c_23 => ?_)
          · have hc_23 := o_eq (rfl : z_20.toInt = z_20.toInt) (by decide : (21 : Int32).toInt = 21) c_23
            obtain ⟨z_24, hz_24⟩ : ∃ z : Int32, z = x_3 + (-1) := ⟨_, rfl⟩
            refine lv_iinc (v := z_24) (lv' := [(2, .int z_24), (4, .int z_19), (0, .ref q), (1, .int b), (3, .int x_4)]) hx hb dX11_isSaid_88 hl (k := 3) rfl hz_24.symm (by decide) rfl (fun ls hl => ?_)
            have hz_24 := o_add hz_24 (rfl : x_3.toInt = x_3.toInt) (by decide : ((-1) : Int32).toInt = -1) (by omega) (by omega)
            refine lv_aload_n hx hb dX11_isSaid_91 rfl (lv_at hl 2 rfl) ?_
            refine q_get11 (v := .ref q_truths_) C hP 0 54 rfl fT_54 (by decide) kF_RX11_98 rfl dX11_isSaid_92 ?_
            refine lv_iload_n hx hb dX11_isSaid_95 rfl (lv_at hl 0 rfl) ?_
            refine lv_iconst (v := 1) hx hb dX11_isSaid_96 (by decide) ?_
            refine lv_isub hx hb dX11_isSaid_97 ?_
            refine lv_topi (fun z_25 hz_25 => ?_)
            have dz_25 := hz_25
            have hz_25 := o_sub hz_25 (rfl : z_24.toInt = z_24.toInt) (by decide : (1 : Int32).toInt = 1) (by omega) (by omega)
            refine lv_aload_n hx hb dX11_isSaid_98 rfl (lv_at hl 2 rfl) ?_
            refine q_get11 (v := .ref q_s_) C hP 0 6 rfl fT_6 (by decide) kF_RX11_33 rfl dX11_isSaid_99 ?_
            refine lv_iload hx hb dX11_isSaid_102 (lv_at hl 1 rfl) ?_
            refine q_iald (v := z_20) C hP 1 rfl (o_in (rfl : z_19.toInt = z_19.toInt) (by omega) (by omega)) ez_20.symm dX11_isSaid_104 ?_
            refine lv_bipush (v := 21) hx hb dX11_isSaid_105 (by decide) ?_
            refine lv_icmp_ne (tgt := 138) hx hb dX11_isSaid_107 (by decide) (fun c_0 => absurd (o_meq (rfl : z_20.toInt = z_20.toInt) (by decide : (21 : Int32).toInt = 21) (by omega)) c_0) (fun _ => ?_)
            refine lv_aload_n hx hb dX11_isSaid_110 rfl (lv_at hl 2 rfl) ?_
            refine q_get11 (v := .ref q_truths_) C hP 0 54 rfl fT_54 (by decide) kF_RX11_98 rfl dX11_isSaid_111 ?_
            refine lv_iload_n hx hb dX11_isSaid_114 rfl (lv_at hl 0 rfl) ?_
            refine lv_iconst (v := 1) hx hb dX11_isSaid_115 (by decide) ?_
            refine lv_isub hx hb dX11_isSaid_116 ?_
            refine q_val (v := z_25) dz_25.symm ?_
            refine q_baldZ (v := g_6 z_25.toNatClampNeg) C hP 3 rfl (o_in (rfl : z_25.toInt = z_25.toInt) (by omega) (by omega)) rfl dX11_isSaid_117 ?_
            refine lv_topi (fun z_27 ez_27 => ?_)
            have hz_27 := Rg.at hg_12 ez_27 (by have := o_cl (rfl : z_25.toInt = z_25.toInt) (by omega); omega) (by have := o_cl (rfl : z_25.toInt = z_25.toInt) (by omega); omega)
            refine lv_if_eq (tgt := 134) hx hb dX11_isSaid_118 (by decide) (fun c_28 => ?_) (fun c_28 => ?_)
            · have hc_28 := o_eq (rfl : z_27.toInt = z_27.toInt) (by decide : (0 : Int32).toInt = 0) c_28
              refine lv_iconst (v := 0) hx hb dX11_isSaid_134 (by decide) ?_
              refine lv_goto (tgt := 163) hx hb dX11_isSaid_135 (by decide) ?_
              refine q_bastZ (g := upd g_6 z_25.toNatClampNeg (vp_nar .boolean 0)) (w' := [(q, oC11 q_thrown q_tape_ q_length q_size q_p q_limit q_s_ q_h_ q_read_ q_names_ q_reserved_ q_token q_at q_span q_number q_fault q_faultAt q_word q_got q_lines q_onces q_webs q_one q_two q_seed q_undone_ q_before_ q_undoMany q_far_ q_wayRow_ q_wayMany q_keptRow_ q_askedRow_ q_rares_ q_trial_ q_keptMany q_askedMany q_hangs_ q_paths_ q_tornSteps q_hasTorn q_turnOne q_hasTurn q_text_ q_textMany q_toldMany q_toldAt_ q_hasTold q_stack_ q_codes q_ones q_top q_deep q_isWhole q_truths_ q_imaged_ q_namesKept_ q_areKept_), (q_s_, aC1 cy 383 q_s), (q_far_, aC1 cy 8 g_5), (q_truths_, aC3 cy 45 (upd g_6 z_25.toNatClampNeg (vp_nar .boolean 0)))]) C hP hD hS 3 rfl (o_in (rfl : z_25.toInt = z_25.toInt) (by omega) (by omega)) rfl rfl dX11_isSaid_163 (fun H locs hP hD hS => ?_)
              have Rg_29_0 := Rg.upd_in (k := z_25.toNatClampNeg) (v := vp_nar .boolean 0) hg_12 (o_nz _).1 (o_nz _).2
              generalize upd g_6 z_25.toNatClampNeg (vp_nar .boolean 0) = g_29 at hP hD Rg_29_0
              have hP : va_P D vwCl [(q, oC11 q_thrown q_tape_ q_length q_size q_p q_limit q_s_ q_h_ q_read_ q_names_ q_reserved_ q_token q_at q_span q_number q_fault q_faultAt q_word q_got q_lines q_onces q_webs q_one q_two q_seed q_undone_ q_before_ q_undoMany q_far_ q_wayRow_ q_wayMany q_keptRow_ q_askedRow_ q_rares_ q_trial_ q_keptMany q_askedMany q_hangs_ q_paths_ q_tornSteps q_hasTorn q_turnOne q_hasTurn q_text_ q_textMany q_toldMany q_toldAt_ q_hasTold q_stack_ q_codes q_ones q_top q_deep q_isWhole q_truths_ q_imaged_ q_namesKept_ q_areKept_), (q_s_, aC1 cy 383 q_s), (q_far_, aC1 cy 8 g_5), (q_truths_, aC3 cy 45 g_29)] H := hP
              have hD : va_D A [(q, oC11 q_thrown q_tape_ q_length q_size q_p q_limit q_s_ q_h_ q_read_ q_names_ q_reserved_ q_token q_at q_span q_number q_fault q_faultAt q_word q_got q_lines q_onces q_webs q_one q_two q_seed q_undone_ q_before_ q_undoMany q_far_ q_wayRow_ q_wayMany q_keptRow_ q_askedRow_ q_rares_ q_trial_ q_keptMany q_askedMany q_hangs_ q_paths_ q_tornSteps q_hasTorn q_turnOne q_hasTurn q_text_ q_textMany q_toldMany q_toldAt_ q_hasTold q_stack_ q_codes q_ones q_top q_deep q_isWhole q_truths_ q_imaged_ q_namesKept_ q_areKept_), (q_s_, aC1 cy 383 q_s), (q_far_, aC1 cy 8 g_5), (q_truths_, aC3 cy 45 g_29)] := hD
              refine lv_goto (tgt := 206) hx hb dX11_isSaid_164 (by decide) ?_
              obtain ⟨z_30, hz_30⟩ : ∃ z : Int32, z = x_4 + 1 := ⟨_, rfl⟩
              refine lv_iinc (v := z_30) (lv' := [(3, .int z_30), (2, .int z_24), (4, .int z_19), (0, .ref q), (1, .int b)]) hx hb dX11_isSaid_206 hl (k := 4) rfl hz_30.symm (by decide) rfl (fun ls hl => ?_)
              have hz_30 := o_add hz_30 (rfl : x_4.toInt = x_4.toInt) (by decide : (1 : Int32).toInt = 1) (by omega) (by omega)
              have hq_30 : z_24.toInt = dp q_s 203 z_30.toNatClampNeg := said_step (i := x_4) (to := z_19) hf_9 (by omega) (by omega) ez_20 (dl_b (by omega)) (by omega) (by omega)
              refine lv_goto (tgt := 4) hx hb dX11_isSaid_209 (by decide) ?_
              exact ih_14 z_24 z_30 g_5 g_29 H locs ls (by omega) (by omega) hq_30 (by omega) hg_11 Rg_29_0 hP hD hS (lv_sub hl [3, 4, 1, 0] rfl)
            · have hc_28 := o_ne (rfl : z_27.toInt = z_27.toInt) (by decide : (0 : Int32).toInt = 0) c_28
              have hnc_28 : 0 ≤ z_27.toInt + (-1) := by rcases Int.lt_or_gt_of_ne hc_28 with h9 | h9 <;> omega
              refine lv_aload_n hx hb dX11_isSaid_121 rfl (lv_at hl 2 rfl) ?_
              refine q_get11 (v := .ref q_truths_) C hP 0 54 rfl fT_54 (by decide) kF_RX11_98 rfl dX11_isSaid_122 ?_
              refine lv_iload_n hx hb dX11_isSaid_125 rfl (lv_at hl 0 rfl) ?_
              refine q_baldZ (v := g_6 z_24.toNatClampNeg) C hP 3 rfl (o_in (rfl : z_24.toInt = z_24.toInt) (by omega) (by omega)) rfl dX11_isSaid_126 ?_
              refine lv_topi (fun z_32 ez_32 => ?_)
              have hz_32 := Rg.at hg_12 ez_32 (by have := o_cl (rfl : z_24.toInt = z_24.toInt) (by omega); omega) (by have := o_cl (rfl : z_24.toInt = z_24.toInt) (by omega); omega)
              refine lv_if_eq (tgt := 134) hx hb dX11_isSaid_127 (by decide) (fun c_33 => ?_) (fun c_33 => ?_)
              · have hc_33 := o_eq (rfl : z_32.toInt = z_32.toInt) (by decide : (0 : Int32).toInt = 0) c_33
                refine lv_iconst (v := 0) hx hb dX11_isSaid_134 (by decide) ?_
                refine lv_goto (tgt := 163) hx hb dX11_isSaid_135 (by decide) ?_
                refine q_bastZ (g := upd g_6 z_25.toNatClampNeg (vp_nar .boolean 0)) (w' := [(q, oC11 q_thrown q_tape_ q_length q_size q_p q_limit q_s_ q_h_ q_read_ q_names_ q_reserved_ q_token q_at q_span q_number q_fault q_faultAt q_word q_got q_lines q_onces q_webs q_one q_two q_seed q_undone_ q_before_ q_undoMany q_far_ q_wayRow_ q_wayMany q_keptRow_ q_askedRow_ q_rares_ q_trial_ q_keptMany q_askedMany q_hangs_ q_paths_ q_tornSteps q_hasTorn q_turnOne q_hasTurn q_text_ q_textMany q_toldMany q_toldAt_ q_hasTold q_stack_ q_codes q_ones q_top q_deep q_isWhole q_truths_ q_imaged_ q_namesKept_ q_areKept_), (q_s_, aC1 cy 383 q_s), (q_far_, aC1 cy 8 g_5), (q_truths_, aC3 cy 45 (upd g_6 z_25.toNatClampNeg (vp_nar .boolean 0)))]) C hP hD hS 3 rfl (o_in (rfl : z_25.toInt = z_25.toInt) (by omega) (by omega)) rfl rfl dX11_isSaid_163 (fun H locs hP hD hS => ?_)
                have Rg_34_0 := Rg.upd_in (k := z_25.toNatClampNeg) (v := vp_nar .boolean 0) hg_12 (o_nz _).1 (o_nz _).2
                generalize upd g_6 z_25.toNatClampNeg (vp_nar .boolean 0) = g_34 at hP hD Rg_34_0
                have hP : va_P D vwCl [(q, oC11 q_thrown q_tape_ q_length q_size q_p q_limit q_s_ q_h_ q_read_ q_names_ q_reserved_ q_token q_at q_span q_number q_fault q_faultAt q_word q_got q_lines q_onces q_webs q_one q_two q_seed q_undone_ q_before_ q_undoMany q_far_ q_wayRow_ q_wayMany q_keptRow_ q_askedRow_ q_rares_ q_trial_ q_keptMany q_askedMany q_hangs_ q_paths_ q_tornSteps q_hasTorn q_turnOne q_hasTurn q_text_ q_textMany q_toldMany q_toldAt_ q_hasTold q_stack_ q_codes q_ones q_top q_deep q_isWhole q_truths_ q_imaged_ q_namesKept_ q_areKept_), (q_s_, aC1 cy 383 q_s), (q_far_, aC1 cy 8 g_5), (q_truths_, aC3 cy 45 g_34)] H := hP
                have hD : va_D A [(q, oC11 q_thrown q_tape_ q_length q_size q_p q_limit q_s_ q_h_ q_read_ q_names_ q_reserved_ q_token q_at q_span q_number q_fault q_faultAt q_word q_got q_lines q_onces q_webs q_one q_two q_seed q_undone_ q_before_ q_undoMany q_far_ q_wayRow_ q_wayMany q_keptRow_ q_askedRow_ q_rares_ q_trial_ q_keptMany q_askedMany q_hangs_ q_paths_ q_tornSteps q_hasTorn q_turnOne q_hasTurn q_text_ q_textMany q_toldMany q_toldAt_ q_hasTold q_stack_ q_codes q_ones q_top q_deep q_isWhole q_truths_ q_imaged_ q_namesKept_ q_areKept_), (q_s_, aC1 cy 383 q_s), (q_far_, aC1 cy 8 g_5), (q_truths_, aC3 cy 45 g_34)] := hD
                refine lv_goto (tgt := 206) hx hb dX11_isSaid_164 (by decide) ?_
                obtain ⟨z_35, hz_35⟩ : ∃ z : Int32, z = x_4 + 1 := ⟨_, rfl⟩
                refine lv_iinc (v := z_35) (lv' := [(3, .int z_35), (2, .int z_24), (4, .int z_19), (0, .ref q), (1, .int b)]) hx hb dX11_isSaid_206 hl (k := 4) rfl hz_35.symm (by decide) rfl (fun ls hl => ?_)
                have hz_35 := o_add hz_35 (rfl : x_4.toInt = x_4.toInt) (by decide : (1 : Int32).toInt = 1) (by omega) (by omega)
                have hq_35 : z_24.toInt = dp q_s 203 z_35.toNatClampNeg := said_step (i := x_4) (to := z_19) hf_9 (by omega) (by omega) ez_20 (dl_b (by omega)) (by omega) (by omega)
                refine lv_goto (tgt := 4) hx hb dX11_isSaid_209 (by decide) ?_
                exact ih_14 z_24 z_35 g_5 g_34 H locs ls (by omega) (by omega) hq_35 (by omega) hg_11 Rg_34_0 hP hD hS (lv_sub hl [3, 4, 1, 0] rfl)
              · have hc_33 := o_ne (rfl : z_32.toInt = z_32.toInt) (by decide : (0 : Int32).toInt = 0) c_33
                have hnc_33 : 0 ≤ z_32.toInt + (-1) := by rcases Int.lt_or_gt_of_ne hc_33 with h9 | h9 <;> omega
                refine lv_iconst (v := 1) hx hb dX11_isSaid_130 (by decide) ?_
                refine lv_goto (tgt := 163) hx hb dX11_isSaid_131 (by decide) ?_
                refine q_bastZ (g := upd g_6 z_25.toNatClampNeg (vp_nar .boolean 1)) (w' := [(q, oC11 q_thrown q_tape_ q_length q_size q_p q_limit q_s_ q_h_ q_read_ q_names_ q_reserved_ q_token q_at q_span q_number q_fault q_faultAt q_word q_got q_lines q_onces q_webs q_one q_two q_seed q_undone_ q_before_ q_undoMany q_far_ q_wayRow_ q_wayMany q_keptRow_ q_askedRow_ q_rares_ q_trial_ q_keptMany q_askedMany q_hangs_ q_paths_ q_tornSteps q_hasTorn q_turnOne q_hasTurn q_text_ q_textMany q_toldMany q_toldAt_ q_hasTold q_stack_ q_codes q_ones q_top q_deep q_isWhole q_truths_ q_imaged_ q_namesKept_ q_areKept_), (q_s_, aC1 cy 383 q_s), (q_far_, aC1 cy 8 g_5), (q_truths_, aC3 cy 45 (upd g_6 z_25.toNatClampNeg (vp_nar .boolean 1)))]) C hP hD hS 3 rfl (o_in (rfl : z_25.toInt = z_25.toInt) (by omega) (by omega)) rfl rfl dX11_isSaid_163 (fun H locs hP hD hS => ?_)
                have Rg_37_0 := Rg.upd_in (k := z_25.toNatClampNeg) (v := vp_nar .boolean 1) hg_12 (o_nz _).1 (o_nz _).2
                generalize upd g_6 z_25.toNatClampNeg (vp_nar .boolean 1) = g_37 at hP hD Rg_37_0
                have hP : va_P D vwCl [(q, oC11 q_thrown q_tape_ q_length q_size q_p q_limit q_s_ q_h_ q_read_ q_names_ q_reserved_ q_token q_at q_span q_number q_fault q_faultAt q_word q_got q_lines q_onces q_webs q_one q_two q_seed q_undone_ q_before_ q_undoMany q_far_ q_wayRow_ q_wayMany q_keptRow_ q_askedRow_ q_rares_ q_trial_ q_keptMany q_askedMany q_hangs_ q_paths_ q_tornSteps q_hasTorn q_turnOne q_hasTurn q_text_ q_textMany q_toldMany q_toldAt_ q_hasTold q_stack_ q_codes q_ones q_top q_deep q_isWhole q_truths_ q_imaged_ q_namesKept_ q_areKept_), (q_s_, aC1 cy 383 q_s), (q_far_, aC1 cy 8 g_5), (q_truths_, aC3 cy 45 g_37)] H := hP
                have hD : va_D A [(q, oC11 q_thrown q_tape_ q_length q_size q_p q_limit q_s_ q_h_ q_read_ q_names_ q_reserved_ q_token q_at q_span q_number q_fault q_faultAt q_word q_got q_lines q_onces q_webs q_one q_two q_seed q_undone_ q_before_ q_undoMany q_far_ q_wayRow_ q_wayMany q_keptRow_ q_askedRow_ q_rares_ q_trial_ q_keptMany q_askedMany q_hangs_ q_paths_ q_tornSteps q_hasTorn q_turnOne q_hasTurn q_text_ q_textMany q_toldMany q_toldAt_ q_hasTold q_stack_ q_codes q_ones q_top q_deep q_isWhole q_truths_ q_imaged_ q_namesKept_ q_areKept_), (q_s_, aC1 cy 383 q_s), (q_far_, aC1 cy 8 g_5), (q_truths_, aC3 cy 45 g_37)] := hD
                refine lv_goto (tgt := 206) hx hb dX11_isSaid_164 (by decide) ?_
                obtain ⟨z_38, hz_38⟩ : ∃ z : Int32, z = x_4 + 1 := ⟨_, rfl⟩
                refine lv_iinc (v := z_38) (lv' := [(3, .int z_38), (2, .int z_24), (4, .int z_19), (0, .ref q), (1, .int b)]) hx hb dX11_isSaid_206 hl (k := 4) rfl hz_38.symm (by decide) rfl (fun ls hl => ?_)
                have hz_38 := o_add hz_38 (rfl : x_4.toInt = x_4.toInt) (by decide : (1 : Int32).toInt = 1) (by omega) (by omega)
                have hq_38 : z_24.toInt = dp q_s 203 z_38.toNatClampNeg := said_step (i := x_4) (to := z_19) hf_9 (by omega) (by omega) ez_20 (dl_b (by omega)) (by omega) (by omega)
                refine lv_goto (tgt := 4) hx hb dX11_isSaid_209 (by decide) ?_
                exact ih_14 z_24 z_38 g_5 g_37 H locs ls (by omega) (by omega) hq_38 (by omega) hg_11 Rg_37_0 hP hD hS (lv_sub hl [3, 4, 1, 0] rfl)
          · have hc_23 := o_ne (rfl : z_20.toInt = z_20.toInt) (by decide : (21 : Int32).toInt = 21) c_23
            refine lv_aload_n hx hb dX11_isSaid_76 rfl (lv_at hl 1 rfl) ?_
            refine q_get11 (v := .ref q_s_) C hP 0 6 rfl fT_6 (by decide) kF_RX11_33 rfl dX11_isSaid_77 ?_
            refine lv_iload hx hb dX11_isSaid_80 (lv_at hl 0 rfl) ?_
            refine q_iald (v := z_20) C hP 1 rfl (o_in (rfl : z_19.toInt = z_19.toInt) (by omega) (by omega)) ez_20.symm dX11_isSaid_82 ?_
            refine lv_bipush (v := 22) hx hb dX11_isSaid_83 (by decide) ?_
            refine lv_icmp_ne (tgt := 167) hx hb dX11_isSaid_85 (by decide) (fun c_40 => ?_) (fun c_40 => ?_)
            · have hc_40 := o_ne (rfl : z_20.toInt = z_20.toInt) (by decide : (22 : Int32).toInt = 22) c_40
              refine lv_aload_n hx hb dX11_isSaid_167 rfl (lv_at hl 1 rfl) ?_
              refine q_get11 (v := .ref q_truths_) C hP 0 54 rfl fT_54 (by decide) kF_RX11_98 rfl dX11_isSaid_168 ?_
              refine lv_iload_n hx hb dX11_isSaid_171 rfl (lv_at hl 3 rfl) ?_
              refine lv_aload_n hx hb dX11_isSaid_172 rfl (lv_at hl 1 rfl) ?_
              refine lv_iload_n hx hb dX11_isSaid_173 rfl (lv_at hl 2 rfl) ?_
              refine lv_aload_n hx hb dX11_isSaid_174 rfl (lv_at hl 1 rfl) ?_
              refine q_get11 (v := .ref q_s_) C hP 0 6 rfl fT_6 (by decide) kF_RX11_33 rfl dX11_isSaid_175 ?_
              refine lv_iload hx hb dX11_isSaid_178 (lv_at hl 0 rfl) ?_
              refine q_iald (v := z_20) C hP 1 rfl (o_in (rfl : z_19.toInt = z_19.toInt) (by omega) (by omega)) ez_20.symm dX11_isSaid_180 ?_
              refine lv_aload_n hx hb dX11_isSaid_181 rfl (lv_at hl 1 rfl) ?_
              refine q_get11 (v := .ref q_s_) C hP 0 6 rfl fT_6 (by decide) kF_RX11_33 rfl dX11_isSaid_182 ?_
              refine lv_iload hx hb dX11_isSaid_185 (lv_at hl 0 rfl) ?_
              refine lv_iconst (v := 1) hx hb dX11_isSaid_187 (by decide) ?_
              refine lv_iadd hx hb dX11_isSaid_188 ?_
              refine lv_topi (fun z_41 hz_41 => ?_)
              have dz_41 := hz_41
              have hz_41 := o_add hz_41 (rfl : z_19.toInt = z_19.toInt) (by decide : (1 : Int32).toInt = 1) (by omega) (by omega)
              refine q_iald (v := q_s z_41.toNatClampNeg) C hP 1 rfl (o_in (rfl : z_41.toInt = z_41.toInt) (by omega) (by omega)) rfl dX11_isSaid_189 ?_
              refine lv_topi (fun z_42 ez_42 => ?_)
              refine lv_aload_n hx hb dX11_isSaid_190 rfl (lv_at hl 1 rfl) ?_
              refine q_get11 (v := .ref q_s_) C hP 0 6 rfl fT_6 (by decide) kF_RX11_33 rfl dX11_isSaid_191 ?_
              refine lv_iload hx hb dX11_isSaid_194 (lv_at hl 0 rfl) ?_
              refine lv_iconst (v := 2) hx hb dX11_isSaid_196 (by decide) ?_
              refine lv_iadd hx hb dX11_isSaid_197 ?_
              refine lv_topi (fun z_43 hz_43 => ?_)
              have dz_43 := hz_43
              have hz_43 := o_add hz_43 (rfl : z_19.toInt = z_19.toInt) (by decide : (2 : Int32).toInt = 2) (by omega) (by omega)
              refine q_iald (v := q_s z_43.toNatClampNeg) C hP 1 rfl (o_in (rfl : z_43.toInt = z_43.toInt) (by omega) (by omega)) rfl dX11_isSaid_198 ?_
              refine lv_topi (fun z_44 ez_44 => ?_)
              refine q_ai (wr := [(q_truths_, aC3 cy 45 g_6)]) (r_V (rm := (Rm 4 92 0 0)) (q0 := 0) (As := [.int b, .int z_20, .int z_42, .int z_44]) (rest := [.int x_3, .ref q_truths_]) (wc := [(q, oC11 q_thrown q_tape_ q_length q_size q_p q_limit q_s_ q_h_ q_read_ q_names_ q_reserved_ q_token q_at q_span q_number q_fault q_faultAt q_word q_got q_lines q_onces q_webs q_one q_two q_seed q_undone_ q_before_ q_undoMany q_far_ q_wayRow_ q_wayMany q_keptRow_ q_askedRow_ q_rares_ q_trial_ q_keptMany q_askedMany q_hangs_ q_paths_ q_tornSteps q_hasTorn q_turnOne q_hasTurn q_text_ q_textMany q_toldMany q_toldAt_ q_hasTold q_stack_ q_codes q_ones q_top q_deep q_isWhole q_truths_ q_imaged_ q_namesKept_ q_areKept_), (q_s_, aC1 cy 383 q_s), (q_far_, aC1 cy 8 g_5)]) C hS (q_subP hP [0, 1, 2] rfl) (hD.sub [0, 1, 2] (by decide) rfl) (y_isLeaf l D cy q b z_20 z_42 z_44 q_thrown q_tape_ q_length q_size q_p q_limit q_s_ q_h_ q_read_ q_names_ q_reserved_ q_token q_at q_span q_number q_fault q_faultAt q_word q_got q_lines q_onces q_webs q_one q_two q_seed q_undone_ q_before_ q_undoMany q_far_ q_wayRow_ q_wayMany q_keptRow_ q_askedRow_ q_rares_ q_trial_ q_keptMany q_askedMany q_hangs_ q_paths_ q_tornSteps q_hasTorn q_turnOne q_hasTurn q_text_ q_textMany q_toldMany q_toldAt_ q_hasTold q_stack_ q_codes q_ones q_top q_deep q_isWhole q_truths_ q_imaged_ q_namesKept_ q_areKept_ q_s g_5 _ (by omega) (by omega) (by omega) (by omega) (by omega) (by omega) (by omega) (by omega) (by omega) (by omega) (by omega) (by omega) (by omega) (by omega) (by omega) (by omega) (by omega) (by omega) (by omega) (by omega) (by omega) (by omega) (by omega) hR0 hR1 hR2 hR3 hR4 hR5 hR6 hR7 hR8 hg_11) kwV_X11_isLeaf kM_RX11_506 rfl rfl ⟨Nat.le_of_ble_eq_true rfl, Nat.le_of_ble_eq_true rfl⟩ rfl hl.1 rfl (Nat.le_of_ble_eq_true rfl) dX11_isSaid_199 ⟨hroom.1, hroom.2⟩) C.2.2.2.2.2.2.1 hP hD hS [0, 1, 2] [3] rfl rfl (by decide) (by decide) (fun r_46 u_45 H locs hw_47 hP hD hS => ?_)
              obtain ⟨g_48, rfl⟩ : ∃ z, z = u_45 := ⟨_, rfl⟩
              have hP : va_P D vwCl [(q_truths_, aC3 cy 45 g_6), (q, oC11 q_thrown q_tape_ q_length q_size q_p q_limit q_s_ q_h_ q_read_ q_names_ q_reserved_ q_token q_at q_span q_number q_fault q_faultAt q_word q_got q_lines q_onces q_webs q_one q_two q_seed q_undone_ q_before_ q_undoMany q_far_ q_wayRow_ q_wayMany q_keptRow_ q_askedRow_ q_rares_ q_trial_ q_keptMany q_askedMany q_hangs_ q_paths_ q_tornSteps q_hasTorn q_turnOne q_hasTurn q_text_ q_textMany q_toldMany q_toldAt_ q_hasTold q_stack_ q_codes q_ones q_top q_deep q_isWhole q_truths_ q_imaged_ q_namesKept_ q_areKept_), (q_s_, aC1 cy 383 q_s), (q_far_, aC1 cy 8 g_48)] H := hP
              have hD : va_D A [(q_truths_, aC3 cy 45 g_6), (q, oC11 q_thrown q_tape_ q_length q_size q_p q_limit q_s_ q_h_ q_read_ q_names_ q_reserved_ q_token q_at q_span q_number q_fault q_faultAt q_word q_got q_lines q_onces q_webs q_one q_two q_seed q_undone_ q_before_ q_undoMany q_far_ q_wayRow_ q_wayMany q_keptRow_ q_askedRow_ q_rares_ q_trial_ q_keptMany q_askedMany q_hangs_ q_paths_ q_tornSteps q_hasTorn q_turnOne q_hasTurn q_text_ q_textMany q_toldMany q_toldAt_ q_hasTold q_stack_ q_codes q_ones q_top q_deep q_isWhole q_truths_ q_imaged_ q_namesKept_ q_areKept_), (q_s_, aC1 cy 383 q_s), (q_far_, aC1 cy 8 g_48)] := hD
              have hp_48 : 0 ≤ r_46.toInt ∧ r_46.toInt ≤ 1 := hw_47.1
              have hp_49 : Rg g_48 0 8 0 1000000000 := hw_47.2
              clear hw_47
              refine q_bastZ (g := upd g_6 x_3.toNatClampNeg (vp_nar .boolean r_46)) (w' := [(q_truths_, aC3 cy 45 (upd g_6 x_3.toNatClampNeg (vp_nar .boolean r_46))), (q, oC11 q_thrown q_tape_ q_length q_size q_p q_limit q_s_ q_h_ q_read_ q_names_ q_reserved_ q_token q_at q_span q_number q_fault q_faultAt q_word q_got q_lines q_onces q_webs q_one q_two q_seed q_undone_ q_before_ q_undoMany q_far_ q_wayRow_ q_wayMany q_keptRow_ q_askedRow_ q_rares_ q_trial_ q_keptMany q_askedMany q_hangs_ q_paths_ q_tornSteps q_hasTorn q_turnOne q_hasTurn q_text_ q_textMany q_toldMany q_toldAt_ q_hasTold q_stack_ q_codes q_ones q_top q_deep q_isWhole q_truths_ q_imaged_ q_namesKept_ q_areKept_), (q_s_, aC1 cy 383 q_s), (q_far_, aC1 cy 8 g_48)]) C hP hD hS 0 rfl (o_in (rfl : x_3.toInt = x_3.toInt) (by omega) (by omega)) rfl rfl dX11_isSaid_202 (fun H locs hP hD hS => ?_)
              have Rg_51_0 := Rg.upd_in (k := x_3.toNatClampNeg) (v := vp_nar .boolean r_46) hg_12 (o_nz _).1 (o_nz _).2
              generalize upd g_6 x_3.toNatClampNeg (vp_nar .boolean r_46) = g_51 at hP hD Rg_51_0
              have hP : va_P D vwCl [(q_truths_, aC3 cy 45 g_51), (q, oC11 q_thrown q_tape_ q_length q_size q_p q_limit q_s_ q_h_ q_read_ q_names_ q_reserved_ q_token q_at q_span q_number q_fault q_faultAt q_word q_got q_lines q_onces q_webs q_one q_two q_seed q_undone_ q_before_ q_undoMany q_far_ q_wayRow_ q_wayMany q_keptRow_ q_askedRow_ q_rares_ q_trial_ q_keptMany q_askedMany q_hangs_ q_paths_ q_tornSteps q_hasTorn q_turnOne q_hasTurn q_text_ q_textMany q_toldMany q_toldAt_ q_hasTold q_stack_ q_codes q_ones q_top q_deep q_isWhole q_truths_ q_imaged_ q_namesKept_ q_areKept_), (q_s_, aC1 cy 383 q_s), (q_far_, aC1 cy 8 g_48)] H := hP
              have hD : va_D A [(q_truths_, aC3 cy 45 g_51), (q, oC11 q_thrown q_tape_ q_length q_size q_p q_limit q_s_ q_h_ q_read_ q_names_ q_reserved_ q_token q_at q_span q_number q_fault q_faultAt q_word q_got q_lines q_onces q_webs q_one q_two q_seed q_undone_ q_before_ q_undoMany q_far_ q_wayRow_ q_wayMany q_keptRow_ q_askedRow_ q_rares_ q_trial_ q_keptMany q_askedMany q_hangs_ q_paths_ q_tornSteps q_hasTorn q_turnOne q_hasTurn q_text_ q_textMany q_toldMany q_toldAt_ q_hasTold q_stack_ q_codes q_ones q_top q_deep q_isWhole q_truths_ q_imaged_ q_namesKept_ q_areKept_), (q_s_, aC1 cy 383 q_s), (q_far_, aC1 cy 8 g_48)] := hD
              obtain ⟨z_52, hz_52⟩ : ∃ z : Int32, z = x_3 + 1 := ⟨_, rfl⟩
              refine lv_iinc (v := z_52) (lv' := [(2, .int z_52), (4, .int z_19), (0, .ref q), (1, .int b), (3, .int x_4)]) hx hb dX11_isSaid_203 hl (k := 3) rfl hz_52.symm (by decide) rfl (fun ls hl => ?_)
              have hz_52 := o_add hz_52 (rfl : x_3.toInt = x_3.toInt) (by decide : (1 : Int32).toInt = 1) (by omega) (by omega)
              obtain ⟨z_53, hz_53⟩ : ∃ z : Int32, z = x_4 + 1 := ⟨_, rfl⟩
              refine lv_iinc (v := z_53) (lv' := [(3, .int z_53), (2, .int z_52), (4, .int z_19), (0, .ref q), (1, .int b)]) hx hb dX11_isSaid_206 hl (k := 4) rfl hz_53.symm (by decide) rfl (fun ls hl => ?_)
              have hz_53 := o_add hz_53 (rfl : x_4.toInt = x_4.toInt) (by decide : (1 : Int32).toInt = 1) (by omega) (by omega)
              have hq_53 : z_52.toInt = dp q_s 203 z_53.toNatClampNeg := said_step (i := x_4) (to := z_19) hf_9 (by omega) (by omega) ez_20 (dl_l (by omega) (by omega) (by omega)) (by omega) (by omega)
              refine lv_goto (tgt := 4) hx hb dX11_isSaid_209 (by decide) ?_
              exact ih_14 z_52 z_53 g_48 g_51 H locs ls (by omega) (by omega) hq_53 (by omega) hp_49 Rg_51_0 (q_subP hP [1, 2, 3, 0] rfl) (hD.sub [1, 2, 3, 0] (by decide) rfl) hS (lv_sub hl [3, 4, 1, 0] rfl)
            · have hc_40 := o_eq (rfl : z_20.toInt = z_20.toInt) (by decide : (22 : Int32).toInt = 22) c_40
              obtain ⟨z_55, hz_55⟩ : ∃ z : Int32, z = x_3 + (-1) := ⟨_, rfl⟩
              refine lv_iinc (v := z_55) (lv' := [(2, .int z_55), (4, .int z_19), (0, .ref q), (1, .int b), (3, .int x_4)]) hx hb dX11_isSaid_88 hl (k := 3) rfl hz_55.symm (by decide) rfl (fun ls hl => ?_)
              have hz_55 := o_add hz_55 (rfl : x_3.toInt = x_3.toInt) (by decide : ((-1) : Int32).toInt = -1) (by omega) (by omega)
              refine lv_aload_n hx hb dX11_isSaid_91 rfl (lv_at hl 2 rfl) ?_
              refine q_get11 (v := .ref q_truths_) C hP 0 54 rfl fT_54 (by decide) kF_RX11_98 rfl dX11_isSaid_92 ?_
              refine lv_iload_n hx hb dX11_isSaid_95 rfl (lv_at hl 0 rfl) ?_
              refine lv_iconst (v := 1) hx hb dX11_isSaid_96 (by decide) ?_
              refine lv_isub hx hb dX11_isSaid_97 ?_
              refine lv_topi (fun z_56 hz_56 => ?_)
              have dz_56 := hz_56
              have hz_56 := o_sub hz_56 (rfl : z_55.toInt = z_55.toInt) (by decide : (1 : Int32).toInt = 1) (by omega) (by omega)
              refine lv_aload_n hx hb dX11_isSaid_98 rfl (lv_at hl 2 rfl) ?_
              refine q_get11 (v := .ref q_s_) C hP 0 6 rfl fT_6 (by decide) kF_RX11_33 rfl dX11_isSaid_99 ?_
              refine lv_iload hx hb dX11_isSaid_102 (lv_at hl 1 rfl) ?_
              refine q_iald (v := z_20) C hP 1 rfl (o_in (rfl : z_19.toInt = z_19.toInt) (by omega) (by omega)) ez_20.symm dX11_isSaid_104 ?_
              refine lv_bipush (v := 21) hx hb dX11_isSaid_105 (by decide) ?_
              refine lv_icmp_ne (tgt := 138) hx hb dX11_isSaid_107 (by decide) (fun _ => ?_) (fun c_0 => absurd c_0 (o_mne (rfl : z_20.toInt = z_20.toInt) (by decide : (21 : Int32).toInt = 21) (by omega)))
              refine lv_aload_n hx hb dX11_isSaid_138 rfl (lv_at hl 2 rfl) ?_
              refine q_get11 (v := .ref q_truths_) C hP 0 54 rfl fT_54 (by decide) kF_RX11_98 rfl dX11_isSaid_139 ?_
              refine lv_iload_n hx hb dX11_isSaid_142 rfl (lv_at hl 0 rfl) ?_
              refine lv_iconst (v := 1) hx hb dX11_isSaid_143 (by decide) ?_
              refine lv_isub hx hb dX11_isSaid_144 ?_
              refine q_val (v := z_56) dz_56.symm ?_
              refine q_baldZ (v := g_6 z_56.toNatClampNeg) C hP 3 rfl (o_in (rfl : z_56.toInt = z_56.toInt) (by omega) (by omega)) rfl dX11_isSaid_145 ?_
              refine lv_topi (fun z_58 ez_58 => ?_)
              have hz_58 := Rg.at hg_12 ez_58 (by have := o_cl (rfl : z_56.toInt = z_56.toInt) (by omega); omega) (by have := o_cl (rfl : z_56.toInt = z_56.toInt) (by omega); omega)
              refine lv_if_ne (tgt := 158) hx hb dX11_isSaid_146 (by decide) (fun c_59 => ?_) (fun c_59 => ?_)
              · have hc_59 := o_ne (rfl : z_58.toInt = z_58.toInt) (by decide : (0 : Int32).toInt = 0) c_59
                have hnc_59 : 0 ≤ z_58.toInt + (-1) := by rcases Int.lt_or_gt_of_ne hc_59 with h9 | h9 <;> omega
                refine lv_iconst (v := 1) hx hb dX11_isSaid_158 (by decide) ?_
                refine lv_goto (tgt := 163) hx hb dX11_isSaid_159 (by decide) ?_
                refine q_bastZ (g := upd g_6 z_56.toNatClampNeg (vp_nar .boolean 1)) (w' := [(q, oC11 q_thrown q_tape_ q_length q_size q_p q_limit q_s_ q_h_ q_read_ q_names_ q_reserved_ q_token q_at q_span q_number q_fault q_faultAt q_word q_got q_lines q_onces q_webs q_one q_two q_seed q_undone_ q_before_ q_undoMany q_far_ q_wayRow_ q_wayMany q_keptRow_ q_askedRow_ q_rares_ q_trial_ q_keptMany q_askedMany q_hangs_ q_paths_ q_tornSteps q_hasTorn q_turnOne q_hasTurn q_text_ q_textMany q_toldMany q_toldAt_ q_hasTold q_stack_ q_codes q_ones q_top q_deep q_isWhole q_truths_ q_imaged_ q_namesKept_ q_areKept_), (q_s_, aC1 cy 383 q_s), (q_far_, aC1 cy 8 g_5), (q_truths_, aC3 cy 45 (upd g_6 z_56.toNatClampNeg (vp_nar .boolean 1)))]) C hP hD hS 3 rfl (o_in (rfl : z_56.toInt = z_56.toInt) (by omega) (by omega)) rfl rfl dX11_isSaid_163 (fun H locs hP hD hS => ?_)
                have Rg_60_0 := Rg.upd_in (k := z_56.toNatClampNeg) (v := vp_nar .boolean 1) hg_12 (o_nz _).1 (o_nz _).2
                generalize upd g_6 z_56.toNatClampNeg (vp_nar .boolean 1) = g_60 at hP hD Rg_60_0
                have hP : va_P D vwCl [(q, oC11 q_thrown q_tape_ q_length q_size q_p q_limit q_s_ q_h_ q_read_ q_names_ q_reserved_ q_token q_at q_span q_number q_fault q_faultAt q_word q_got q_lines q_onces q_webs q_one q_two q_seed q_undone_ q_before_ q_undoMany q_far_ q_wayRow_ q_wayMany q_keptRow_ q_askedRow_ q_rares_ q_trial_ q_keptMany q_askedMany q_hangs_ q_paths_ q_tornSteps q_hasTorn q_turnOne q_hasTurn q_text_ q_textMany q_toldMany q_toldAt_ q_hasTold q_stack_ q_codes q_ones q_top q_deep q_isWhole q_truths_ q_imaged_ q_namesKept_ q_areKept_), (q_s_, aC1 cy 383 q_s), (q_far_, aC1 cy 8 g_5), (q_truths_, aC3 cy 45 g_60)] H := hP
                have hD : va_D A [(q, oC11 q_thrown q_tape_ q_length q_size q_p q_limit q_s_ q_h_ q_read_ q_names_ q_reserved_ q_token q_at q_span q_number q_fault q_faultAt q_word q_got q_lines q_onces q_webs q_one q_two q_seed q_undone_ q_before_ q_undoMany q_far_ q_wayRow_ q_wayMany q_keptRow_ q_askedRow_ q_rares_ q_trial_ q_keptMany q_askedMany q_hangs_ q_paths_ q_tornSteps q_hasTorn q_turnOne q_hasTurn q_text_ q_textMany q_toldMany q_toldAt_ q_hasTold q_stack_ q_codes q_ones q_top q_deep q_isWhole q_truths_ q_imaged_ q_namesKept_ q_areKept_), (q_s_, aC1 cy 383 q_s), (q_far_, aC1 cy 8 g_5), (q_truths_, aC3 cy 45 g_60)] := hD
                refine lv_goto (tgt := 206) hx hb dX11_isSaid_164 (by decide) ?_
                obtain ⟨z_61, hz_61⟩ : ∃ z : Int32, z = x_4 + 1 := ⟨_, rfl⟩
                refine lv_iinc (v := z_61) (lv' := [(3, .int z_61), (2, .int z_55), (4, .int z_19), (0, .ref q), (1, .int b)]) hx hb dX11_isSaid_206 hl (k := 4) rfl hz_61.symm (by decide) rfl (fun ls hl => ?_)
                have hz_61 := o_add hz_61 (rfl : x_4.toInt = x_4.toInt) (by decide : (1 : Int32).toInt = 1) (by omega) (by omega)
                have hq_61 : z_55.toInt = dp q_s 203 z_61.toNatClampNeg := said_step (i := x_4) (to := z_19) hf_9 (by omega) (by omega) ez_20 (dl_b (by omega)) (by omega) (by omega)
                refine lv_goto (tgt := 4) hx hb dX11_isSaid_209 (by decide) ?_
                exact ih_14 z_55 z_61 g_5 g_60 H locs ls (by omega) (by omega) hq_61 (by omega) hg_11 Rg_60_0 hP hD hS (lv_sub hl [3, 4, 1, 0] rfl)
              · have hc_59 := o_eq (rfl : z_58.toInt = z_58.toInt) (by decide : (0 : Int32).toInt = 0) c_59
                refine lv_aload_n hx hb dX11_isSaid_149 rfl (lv_at hl 2 rfl) ?_
                refine q_get11 (v := .ref q_truths_) C hP 0 54 rfl fT_54 (by decide) kF_RX11_98 rfl dX11_isSaid_150 ?_
                refine lv_iload_n hx hb dX11_isSaid_153 rfl (lv_at hl 0 rfl) ?_
                refine q_baldZ (v := g_6 z_55.toNatClampNeg) C hP 3 rfl (o_in (rfl : z_55.toInt = z_55.toInt) (by omega) (by omega)) rfl dX11_isSaid_154 ?_
                refine lv_topi (fun z_63 ez_63 => ?_)
                have hz_63 := Rg.at hg_12 ez_63 (by have := o_cl (rfl : z_55.toInt = z_55.toInt) (by omega); omega) (by have := o_cl (rfl : z_55.toInt = z_55.toInt) (by omega); omega)
                refine lv_if_eq (tgt := 162) hx hb dX11_isSaid_155 (by decide) (fun c_64 => ?_) (fun c_64 => ?_)
                · have hc_64 := o_eq (rfl : z_63.toInt = z_63.toInt) (by decide : (0 : Int32).toInt = 0) c_64
                  refine lv_iconst (v := 0) hx hb dX11_isSaid_162 (by decide) ?_
                  refine q_bastZ (g := upd g_6 z_56.toNatClampNeg (vp_nar .boolean 0)) (w' := [(q, oC11 q_thrown q_tape_ q_length q_size q_p q_limit q_s_ q_h_ q_read_ q_names_ q_reserved_ q_token q_at q_span q_number q_fault q_faultAt q_word q_got q_lines q_onces q_webs q_one q_two q_seed q_undone_ q_before_ q_undoMany q_far_ q_wayRow_ q_wayMany q_keptRow_ q_askedRow_ q_rares_ q_trial_ q_keptMany q_askedMany q_hangs_ q_paths_ q_tornSteps q_hasTorn q_turnOne q_hasTurn q_text_ q_textMany q_toldMany q_toldAt_ q_hasTold q_stack_ q_codes q_ones q_top q_deep q_isWhole q_truths_ q_imaged_ q_namesKept_ q_areKept_), (q_s_, aC1 cy 383 q_s), (q_far_, aC1 cy 8 g_5), (q_truths_, aC3 cy 45 (upd g_6 z_56.toNatClampNeg (vp_nar .boolean 0)))]) C hP hD hS 3 rfl (o_in (rfl : z_56.toInt = z_56.toInt) (by omega) (by omega)) rfl rfl dX11_isSaid_163 (fun H locs hP hD hS => ?_)
                  have Rg_65_0 := Rg.upd_in (k := z_56.toNatClampNeg) (v := vp_nar .boolean 0) hg_12 (o_nz _).1 (o_nz _).2
                  generalize upd g_6 z_56.toNatClampNeg (vp_nar .boolean 0) = g_65 at hP hD Rg_65_0
                  have hP : va_P D vwCl [(q, oC11 q_thrown q_tape_ q_length q_size q_p q_limit q_s_ q_h_ q_read_ q_names_ q_reserved_ q_token q_at q_span q_number q_fault q_faultAt q_word q_got q_lines q_onces q_webs q_one q_two q_seed q_undone_ q_before_ q_undoMany q_far_ q_wayRow_ q_wayMany q_keptRow_ q_askedRow_ q_rares_ q_trial_ q_keptMany q_askedMany q_hangs_ q_paths_ q_tornSteps q_hasTorn q_turnOne q_hasTurn q_text_ q_textMany q_toldMany q_toldAt_ q_hasTold q_stack_ q_codes q_ones q_top q_deep q_isWhole q_truths_ q_imaged_ q_namesKept_ q_areKept_), (q_s_, aC1 cy 383 q_s), (q_far_, aC1 cy 8 g_5), (q_truths_, aC3 cy 45 g_65)] H := hP
                  have hD : va_D A [(q, oC11 q_thrown q_tape_ q_length q_size q_p q_limit q_s_ q_h_ q_read_ q_names_ q_reserved_ q_token q_at q_span q_number q_fault q_faultAt q_word q_got q_lines q_onces q_webs q_one q_two q_seed q_undone_ q_before_ q_undoMany q_far_ q_wayRow_ q_wayMany q_keptRow_ q_askedRow_ q_rares_ q_trial_ q_keptMany q_askedMany q_hangs_ q_paths_ q_tornSteps q_hasTorn q_turnOne q_hasTurn q_text_ q_textMany q_toldMany q_toldAt_ q_hasTold q_stack_ q_codes q_ones q_top q_deep q_isWhole q_truths_ q_imaged_ q_namesKept_ q_areKept_), (q_s_, aC1 cy 383 q_s), (q_far_, aC1 cy 8 g_5), (q_truths_, aC3 cy 45 g_65)] := hD
                  refine lv_goto (tgt := 206) hx hb dX11_isSaid_164 (by decide) ?_
                  obtain ⟨z_66, hz_66⟩ : ∃ z : Int32, z = x_4 + 1 := ⟨_, rfl⟩
                  refine lv_iinc (v := z_66) (lv' := [(3, .int z_66), (2, .int z_55), (4, .int z_19), (0, .ref q), (1, .int b)]) hx hb dX11_isSaid_206 hl (k := 4) rfl hz_66.symm (by decide) rfl (fun ls hl => ?_)
                  have hz_66 := o_add hz_66 (rfl : x_4.toInt = x_4.toInt) (by decide : (1 : Int32).toInt = 1) (by omega) (by omega)
                  have hq_66 : z_55.toInt = dp q_s 203 z_66.toNatClampNeg := said_step (i := x_4) (to := z_19) hf_9 (by omega) (by omega) ez_20 (dl_b (by omega)) (by omega) (by omega)
                  refine lv_goto (tgt := 4) hx hb dX11_isSaid_209 (by decide) ?_
                  exact ih_14 z_55 z_66 g_5 g_65 H locs ls (by omega) (by omega) hq_66 (by omega) hg_11 Rg_65_0 hP hD hS (lv_sub hl [3, 4, 1, 0] rfl)
                · have hc_64 := o_ne (rfl : z_63.toInt = z_63.toInt) (by decide : (0 : Int32).toInt = 0) c_64
                  have hnc_64 : 0 ≤ z_63.toInt + (-1) := by rcases Int.lt_or_gt_of_ne hc_64 with h9 | h9 <;> omega
                  refine lv_iconst (v := 1) hx hb dX11_isSaid_158 (by decide) ?_
                  refine lv_goto (tgt := 163) hx hb dX11_isSaid_159 (by decide) ?_
                  refine q_bastZ (g := upd g_6 z_56.toNatClampNeg (vp_nar .boolean 1)) (w' := [(q, oC11 q_thrown q_tape_ q_length q_size q_p q_limit q_s_ q_h_ q_read_ q_names_ q_reserved_ q_token q_at q_span q_number q_fault q_faultAt q_word q_got q_lines q_onces q_webs q_one q_two q_seed q_undone_ q_before_ q_undoMany q_far_ q_wayRow_ q_wayMany q_keptRow_ q_askedRow_ q_rares_ q_trial_ q_keptMany q_askedMany q_hangs_ q_paths_ q_tornSteps q_hasTorn q_turnOne q_hasTurn q_text_ q_textMany q_toldMany q_toldAt_ q_hasTold q_stack_ q_codes q_ones q_top q_deep q_isWhole q_truths_ q_imaged_ q_namesKept_ q_areKept_), (q_s_, aC1 cy 383 q_s), (q_far_, aC1 cy 8 g_5), (q_truths_, aC3 cy 45 (upd g_6 z_56.toNatClampNeg (vp_nar .boolean 1)))]) C hP hD hS 3 rfl (o_in (rfl : z_56.toInt = z_56.toInt) (by omega) (by omega)) rfl rfl dX11_isSaid_163 (fun H locs hP hD hS => ?_)
                  have Rg_68_0 := Rg.upd_in (k := z_56.toNatClampNeg) (v := vp_nar .boolean 1) hg_12 (o_nz _).1 (o_nz _).2
                  generalize upd g_6 z_56.toNatClampNeg (vp_nar .boolean 1) = g_68 at hP hD Rg_68_0
                  have hP : va_P D vwCl [(q, oC11 q_thrown q_tape_ q_length q_size q_p q_limit q_s_ q_h_ q_read_ q_names_ q_reserved_ q_token q_at q_span q_number q_fault q_faultAt q_word q_got q_lines q_onces q_webs q_one q_two q_seed q_undone_ q_before_ q_undoMany q_far_ q_wayRow_ q_wayMany q_keptRow_ q_askedRow_ q_rares_ q_trial_ q_keptMany q_askedMany q_hangs_ q_paths_ q_tornSteps q_hasTorn q_turnOne q_hasTurn q_text_ q_textMany q_toldMany q_toldAt_ q_hasTold q_stack_ q_codes q_ones q_top q_deep q_isWhole q_truths_ q_imaged_ q_namesKept_ q_areKept_), (q_s_, aC1 cy 383 q_s), (q_far_, aC1 cy 8 g_5), (q_truths_, aC3 cy 45 g_68)] H := hP
                  have hD : va_D A [(q, oC11 q_thrown q_tape_ q_length q_size q_p q_limit q_s_ q_h_ q_read_ q_names_ q_reserved_ q_token q_at q_span q_number q_fault q_faultAt q_word q_got q_lines q_onces q_webs q_one q_two q_seed q_undone_ q_before_ q_undoMany q_far_ q_wayRow_ q_wayMany q_keptRow_ q_askedRow_ q_rares_ q_trial_ q_keptMany q_askedMany q_hangs_ q_paths_ q_tornSteps q_hasTorn q_turnOne q_hasTurn q_text_ q_textMany q_toldMany q_toldAt_ q_hasTold q_stack_ q_codes q_ones q_top q_deep q_isWhole q_truths_ q_imaged_ q_namesKept_ q_areKept_), (q_s_, aC1 cy 383 q_s), (q_far_, aC1 cy 8 g_5), (q_truths_, aC3 cy 45 g_68)] := hD
                  refine lv_goto (tgt := 206) hx hb dX11_isSaid_164 (by decide) ?_
                  obtain ⟨z_69, hz_69⟩ : ∃ z : Int32, z = x_4 + 1 := ⟨_, rfl⟩
                  refine lv_iinc (v := z_69) (lv' := [(3, .int z_69), (2, .int z_55), (4, .int z_19), (0, .ref q), (1, .int b)]) hx hb dX11_isSaid_206 hl (k := 4) rfl hz_69.symm (by decide) rfl (fun ls hl => ?_)
                  have hz_69 := o_add hz_69 (rfl : x_4.toInt = x_4.toInt) (by decide : (1 : Int32).toInt = 1) (by omega) (by omega)
                  have hq_69 : z_55.toInt = dp q_s 203 z_69.toNatClampNeg := said_step (i := x_4) (to := z_19) hf_9 (by omega) (by omega) ez_20 (dl_b (by omega)) (by omega) (by omega)
                  refine lv_goto (tgt := 4) hx hb dX11_isSaid_209 (by decide) ?_
                  exact ih_14 z_55 z_69 g_5 g_68 H locs ls (by omega) (by omega) hq_69 (by omega) hg_11 Rg_68_0 hP hD hS (lv_sub hl [3, 4, 1, 0] rfl)
        · have hc_22 := o_eq (rfl : z_20.toInt = z_20.toInt) (by decide : (20 : Int32).toInt = 20) c_22
          refine lv_aload_n hx hb dX11_isSaid_37 rfl (lv_at hl 1 rfl) ?_
          refine q_get11 (v := .ref q_truths_) C hP 0 54 rfl fT_54 (by decide) kF_RX11_98 rfl dX11_isSaid_38 ?_
          refine lv_iload_n hx hb dX11_isSaid_41 rfl (lv_at hl 3 rfl) ?_
          refine lv_iconst (v := 1) hx hb dX11_isSaid_42 (by decide) ?_
          refine lv_isub hx hb dX11_isSaid_43 ?_
          refine lv_topi (fun z_71 hz_71 => ?_)
          have dz_71 := hz_71
          have hz_71 := o_sub hz_71 (rfl : x_3.toInt = x_3.toInt) (by decide : (1 : Int32).toInt = 1) (by omega) (by omega)
          refine lv_aload_n hx hb dX11_isSaid_44 rfl (lv_at hl 1 rfl) ?_
          refine q_get11 (v := .ref q_truths_) C hP 0 54 rfl fT_54 (by decide) kF_RX11_98 rfl dX11_isSaid_45 ?_
          refine lv_iload_n hx hb dX11_isSaid_48 rfl (lv_at hl 3 rfl) ?_
          refine lv_iconst (v := 1) hx hb dX11_isSaid_49 (by decide) ?_
          refine lv_isub hx hb dX11_isSaid_50 ?_
          refine q_val (v := z_71) dz_71.symm ?_
          refine q_baldZ (v := g_6 z_71.toNatClampNeg) C hP 3 rfl (o_in (rfl : z_71.toInt = z_71.toInt) (by omega) (by omega)) rfl dX11_isSaid_51 ?_
          refine lv_topi (fun z_73 ez_73 => ?_)
          have hz_73 := Rg.at hg_12 ez_73 (by have := o_cl (rfl : z_71.toInt = z_71.toInt) (by omega); omega) (by have := o_cl (rfl : z_71.toInt = z_71.toInt) (by omega); omega)
          refine lv_if_ne (tgt := 59) hx hb dX11_isSaid_52 (by decide) (fun c_74 => ?_) (fun c_74 => ?_)
          · have hc_74 := o_ne (rfl : z_73.toInt = z_73.toInt) (by decide : (0 : Int32).toInt = 0) c_74
            have hnc_74 : 0 ≤ z_73.toInt + (-1) := by rcases Int.lt_or_gt_of_ne hc_74 with h9 | h9 <;> omega
            refine lv_iconst (v := 0) hx hb dX11_isSaid_59 (by decide) ?_
            refine q_bastZ (g := upd g_6 z_71.toNatClampNeg (vp_nar .boolean 0)) (w' := [(q, oC11 q_thrown q_tape_ q_length q_size q_p q_limit q_s_ q_h_ q_read_ q_names_ q_reserved_ q_token q_at q_span q_number q_fault q_faultAt q_word q_got q_lines q_onces q_webs q_one q_two q_seed q_undone_ q_before_ q_undoMany q_far_ q_wayRow_ q_wayMany q_keptRow_ q_askedRow_ q_rares_ q_trial_ q_keptMany q_askedMany q_hangs_ q_paths_ q_tornSteps q_hasTorn q_turnOne q_hasTurn q_text_ q_textMany q_toldMany q_toldAt_ q_hasTold q_stack_ q_codes q_ones q_top q_deep q_isWhole q_truths_ q_imaged_ q_namesKept_ q_areKept_), (q_s_, aC1 cy 383 q_s), (q_far_, aC1 cy 8 g_5), (q_truths_, aC3 cy 45 (upd g_6 z_71.toNatClampNeg (vp_nar .boolean 0)))]) C hP hD hS 3 rfl (o_in (rfl : z_71.toInt = z_71.toInt) (by omega) (by omega)) rfl rfl dX11_isSaid_60 (fun H locs hP hD hS => ?_)
            have Rg_75_0 := Rg.upd_in (k := z_71.toNatClampNeg) (v := vp_nar .boolean 0) hg_12 (o_nz _).1 (o_nz _).2
            generalize upd g_6 z_71.toNatClampNeg (vp_nar .boolean 0) = g_75 at hP hD Rg_75_0
            have hP : va_P D vwCl [(q, oC11 q_thrown q_tape_ q_length q_size q_p q_limit q_s_ q_h_ q_read_ q_names_ q_reserved_ q_token q_at q_span q_number q_fault q_faultAt q_word q_got q_lines q_onces q_webs q_one q_two q_seed q_undone_ q_before_ q_undoMany q_far_ q_wayRow_ q_wayMany q_keptRow_ q_askedRow_ q_rares_ q_trial_ q_keptMany q_askedMany q_hangs_ q_paths_ q_tornSteps q_hasTorn q_turnOne q_hasTurn q_text_ q_textMany q_toldMany q_toldAt_ q_hasTold q_stack_ q_codes q_ones q_top q_deep q_isWhole q_truths_ q_imaged_ q_namesKept_ q_areKept_), (q_s_, aC1 cy 383 q_s), (q_far_, aC1 cy 8 g_5), (q_truths_, aC3 cy 45 g_75)] H := hP
            have hD : va_D A [(q, oC11 q_thrown q_tape_ q_length q_size q_p q_limit q_s_ q_h_ q_read_ q_names_ q_reserved_ q_token q_at q_span q_number q_fault q_faultAt q_word q_got q_lines q_onces q_webs q_one q_two q_seed q_undone_ q_before_ q_undoMany q_far_ q_wayRow_ q_wayMany q_keptRow_ q_askedRow_ q_rares_ q_trial_ q_keptMany q_askedMany q_hangs_ q_paths_ q_tornSteps q_hasTorn q_turnOne q_hasTurn q_text_ q_textMany q_toldMany q_toldAt_ q_hasTold q_stack_ q_codes q_ones q_top q_deep q_isWhole q_truths_ q_imaged_ q_namesKept_ q_areKept_), (q_s_, aC1 cy 383 q_s), (q_far_, aC1 cy 8 g_5), (q_truths_, aC3 cy 45 g_75)] := hD
            refine lv_goto (tgt := 206) hx hb dX11_isSaid_61 (by decide) ?_
            obtain ⟨z_76, hz_76⟩ : ∃ z : Int32, z = x_4 + 1 := ⟨_, rfl⟩
            refine lv_iinc (v := z_76) (lv' := [(3, .int z_76), (4, .int z_19), (0, .ref q), (1, .int b), (2, .int x_3)]) hx hb dX11_isSaid_206 hl (k := 4) rfl hz_76.symm (by decide) rfl (fun ls hl => ?_)
            have hz_76 := o_add hz_76 (rfl : x_4.toInt = x_4.toInt) (by decide : (1 : Int32).toInt = 1) (by omega) (by omega)
            have hq_76 : x_3.toInt = dp q_s 203 z_76.toNatClampNeg := said_step (i := x_4) (to := z_19) hf_9 (by omega) (by omega) ez_20 (dl_n (by omega)) (by omega) (by omega)
            refine lv_goto (tgt := 4) hx hb dX11_isSaid_209 (by decide) ?_
            exact ih_14 x_3 z_76 g_5 g_75 H locs ls (by omega) (by omega) hq_76 (by omega) hg_11 Rg_75_0 hP hD hS (lv_sub hl [2, 3, 4, 0] rfl)
          · have hc_74 := o_eq (rfl : z_73.toInt = z_73.toInt) (by decide : (0 : Int32).toInt = 0) c_74
            refine lv_iconst (v := 1) hx hb dX11_isSaid_55 (by decide) ?_
            refine lv_goto (tgt := 60) hx hb dX11_isSaid_56 (by decide) ?_
            refine q_bastZ (g := upd g_6 z_71.toNatClampNeg (vp_nar .boolean 1)) (w' := [(q, oC11 q_thrown q_tape_ q_length q_size q_p q_limit q_s_ q_h_ q_read_ q_names_ q_reserved_ q_token q_at q_span q_number q_fault q_faultAt q_word q_got q_lines q_onces q_webs q_one q_two q_seed q_undone_ q_before_ q_undoMany q_far_ q_wayRow_ q_wayMany q_keptRow_ q_askedRow_ q_rares_ q_trial_ q_keptMany q_askedMany q_hangs_ q_paths_ q_tornSteps q_hasTorn q_turnOne q_hasTurn q_text_ q_textMany q_toldMany q_toldAt_ q_hasTold q_stack_ q_codes q_ones q_top q_deep q_isWhole q_truths_ q_imaged_ q_namesKept_ q_areKept_), (q_s_, aC1 cy 383 q_s), (q_far_, aC1 cy 8 g_5), (q_truths_, aC3 cy 45 (upd g_6 z_71.toNatClampNeg (vp_nar .boolean 1)))]) C hP hD hS 3 rfl (o_in (rfl : z_71.toInt = z_71.toInt) (by omega) (by omega)) rfl rfl dX11_isSaid_60 (fun H locs hP hD hS => ?_)
            have Rg_78_0 := Rg.upd_in (k := z_71.toNatClampNeg) (v := vp_nar .boolean 1) hg_12 (o_nz _).1 (o_nz _).2
            generalize upd g_6 z_71.toNatClampNeg (vp_nar .boolean 1) = g_78 at hP hD Rg_78_0
            have hP : va_P D vwCl [(q, oC11 q_thrown q_tape_ q_length q_size q_p q_limit q_s_ q_h_ q_read_ q_names_ q_reserved_ q_token q_at q_span q_number q_fault q_faultAt q_word q_got q_lines q_onces q_webs q_one q_two q_seed q_undone_ q_before_ q_undoMany q_far_ q_wayRow_ q_wayMany q_keptRow_ q_askedRow_ q_rares_ q_trial_ q_keptMany q_askedMany q_hangs_ q_paths_ q_tornSteps q_hasTorn q_turnOne q_hasTurn q_text_ q_textMany q_toldMany q_toldAt_ q_hasTold q_stack_ q_codes q_ones q_top q_deep q_isWhole q_truths_ q_imaged_ q_namesKept_ q_areKept_), (q_s_, aC1 cy 383 q_s), (q_far_, aC1 cy 8 g_5), (q_truths_, aC3 cy 45 g_78)] H := hP
            have hD : va_D A [(q, oC11 q_thrown q_tape_ q_length q_size q_p q_limit q_s_ q_h_ q_read_ q_names_ q_reserved_ q_token q_at q_span q_number q_fault q_faultAt q_word q_got q_lines q_onces q_webs q_one q_two q_seed q_undone_ q_before_ q_undoMany q_far_ q_wayRow_ q_wayMany q_keptRow_ q_askedRow_ q_rares_ q_trial_ q_keptMany q_askedMany q_hangs_ q_paths_ q_tornSteps q_hasTorn q_turnOne q_hasTurn q_text_ q_textMany q_toldMany q_toldAt_ q_hasTold q_stack_ q_codes q_ones q_top q_deep q_isWhole q_truths_ q_imaged_ q_namesKept_ q_areKept_), (q_s_, aC1 cy 383 q_s), (q_far_, aC1 cy 8 g_5), (q_truths_, aC3 cy 45 g_78)] := hD
            refine lv_goto (tgt := 206) hx hb dX11_isSaid_61 (by decide) ?_
            obtain ⟨z_79, hz_79⟩ : ∃ z : Int32, z = x_4 + 1 := ⟨_, rfl⟩
            refine lv_iinc (v := z_79) (lv' := [(3, .int z_79), (4, .int z_19), (0, .ref q), (1, .int b), (2, .int x_3)]) hx hb dX11_isSaid_206 hl (k := 4) rfl hz_79.symm (by decide) rfl (fun ls hl => ?_)
            have hz_79 := o_add hz_79 (rfl : x_4.toInt = x_4.toInt) (by decide : (1 : Int32).toInt = 1) (by omega) (by omega)
            have hq_79 : x_3.toInt = dp q_s 203 z_79.toNatClampNeg := said_step (i := x_4) (to := z_19) hf_9 (by omega) (by omega) ez_20 (dl_n (by omega)) (by omega) (by omega)
            refine lv_goto (tgt := 4) hx hb dX11_isSaid_209 (by decide) ?_
            exact ih_14 x_3 z_79 g_5 g_78 H locs ls (by omega) (by omega) hq_79 (by omega) hg_11 Rg_78_0 hP hD hS (lv_sub hl [2, 3, 4, 0] rfl)
  exact lp_4_6 2147483648 (0 : Int32) (0 : Int32) q_far q_truths H locs ls (by have e0 : (0 : Int32).toInt = 0 := (by decide); omega) (by have e0 : (0 : Int32).toInt = 0 := (by decide); omega) dp_zero (by have e0 : (0 : Int32).toInt = 0 := (by decide); omega) hR10 hR11 hP hD hS (lv_sub hl [2, 3, 1, 0] rfl)
theorem y_isSaid (l : Launch) (D : va_G) (cy : Nat → ClassId) (q : Nat) (b : Int32) (q_thrown : Int32) (q_tape_ : Nat) (q_length : Int32) (q_size : Int32) (q_p : Int32) (q_limit : Int32) (q_s_ : Nat) (q_h_ : Nat) (q_read_ : Nat) (q_names_ : Nat) (q_reserved_ : Nat) (q_token : Int32) (q_at : Int32) (q_span : Int32) (q_number : Int32) (q_fault : Int32) (q_faultAt : Int32) (q_word : Int64) (q_got : Int32) (q_lines : Int32) (q_onces : Int32) (q_webs : Int32) (q_one : Int32) (q_two : Int32) (q_seed : Int32) (q_undone_ : Nat) (q_before_ : Nat) (q_undoMany : Int32) (q_far_ : Nat) (q_wayRow_ : Nat) (q_wayMany : Int32) (q_keptRow_ : Nat) (q_askedRow_ : Nat) (q_rares_ : Nat) (q_trial_ : Nat) (q_keptMany : Int32) (q_askedMany : Int32) (q_hangs_ : Nat) (q_paths_ : Nat) (q_tornSteps : Int32) (q_hasTorn : Int32) (q_turnOne : Int32) (q_hasTurn : Int32) (q_text_ : Nat) (q_textMany : Int32) (q_toldMany : Int32) (q_toldAt_ : Nat) (q_hasTold : Int32) (q_stack_ : Nat) (q_codes : Int32) (q_ones : Int32) (q_top : Int32) (q_deep : Int32) (q_isWhole : Int32) (q_truths_ : Nat) (q_imaged_ : Nat) (q_namesKept_ : Nat) (q_areKept_ : Nat) (q_s : Nat → Int32) (q_far : Nat → Int32) (q_truths : Nat → Int32) (sz : Nat) (hb0 : 0 ≤ q_length.toInt ∧ q_length.toInt ≤ 940) (hb1 : 0 ≤ q_size.toInt ∧ q_size.toInt ≤ 940) (hb2 : 0 ≤ q_p.toInt ∧ q_p.toInt ≤ 940) (hb3 : 0 ≤ q_limit.toInt ∧ q_limit.toInt ≤ 940) (hb4 : 0 ≤ q_span.toInt ∧ q_span.toInt ≤ 940) (hb5 : 0 ≤ q_number.toInt ∧ q_number.toInt ≤ 8214) (hb6 : (-1) ≤ q_got.toInt ∧ q_got.toInt ≤ 8214) (hb7 : 0 ≤ q_one.toInt ∧ q_one.toInt ≤ 7) (hb8 : 0 ≤ q_two.toInt ∧ q_two.toInt ≤ 7) (hb9 : 0 ≤ q_undoMany.toInt ∧ q_undoMany.toInt ≤ 8) (hb10 : (-1) ≤ q_wayMany.toInt ∧ q_wayMany.toInt ≤ 8) (hb11 : (-1) ≤ q_keptMany.toInt ∧ q_keptMany.toInt ≤ 8) (hb12 : (-1) ≤ q_askedMany.toInt ∧ q_askedMany.toInt ≤ 3) (hb13 : 0 ≤ q_hasTorn.toInt ∧ q_hasTorn.toInt ≤ 1) (hb14 : 0 ≤ q_hasTurn.toInt ∧ q_hasTurn.toInt ≤ 1) (hb15 : 0 ≤ q_textMany.toInt ∧ q_textMany.toInt ≤ 48) (hb16 : 0 ≤ q_toldMany.toInt ∧ q_toldMany.toInt ≤ 40) (hb17 : 0 ≤ q_hasTold.toInt ∧ q_hasTold.toInt ≤ 1) (hb18 : 0 ≤ q_codes.toInt ∧ q_codes.toInt ≤ 40) (hb19 : 0 ≤ q_ones.toInt ∧ q_ones.toInt ≤ 20) (hb20 : 0 ≤ q_top.toInt ∧ q_top.toInt ≤ 40) (hb21 : 0 ≤ q_isWhole.toInt ∧ q_isWhole.toInt ≤ 1) (hb22 : 0 ≤ b.toInt ∧ b.toInt ≤ 7) (hR0 : Rg q_s 0 1 0 8) (hR1 : Rg q_s 1 3 0 6) (hR2 : Rg q_s 3 4 1 50) (hR3 : Rg q_s 4 5 1 5) (hR4 : Rg q_s 103 104 0 255) (hR5 : Rg q_s 7 23 0 5) (hR6 : Rg q_s 106 122 0 5) (hR7 : Rg q_s 23 31 0 99) (hR8 : Rg q_s 122 130 0 99) (hR9 : Sv q_s) (hR10 : Rg q_far 0 8 0 1000000000) (hR11 : Rg q_truths 0 45 0 1) : MI l yX11_isSaid cX11_isSaid 5 (some .boolean) (Rm 5 117 0 0) D cy [.ref q, .int b] sz [(q, oC11 q_thrown q_tape_ q_length q_size q_p q_limit q_s_ q_h_ q_read_ q_names_ q_reserved_ q_token q_at q_span q_number q_fault q_faultAt q_word q_got q_lines q_onces q_webs q_one q_two q_seed q_undone_ q_before_ q_undoMany q_far_ q_wayRow_ q_wayMany q_keptRow_ q_askedRow_ q_rares_ q_trial_ q_keptMany q_askedMany q_hangs_ q_paths_ q_tornSteps q_hasTorn q_turnOne q_hasTurn q_text_ q_textMany q_toldMany q_toldAt_ q_hasTold q_stack_ q_codes q_ones q_top q_deep q_isWhole q_truths_ q_imaged_ q_namesKept_ q_areKept_), (q_s_, aC1 cy 383 q_s), (q_far_, aC1 cy 8 q_far), (q_truths_, aC3 cy 45 q_truths)] (fun (r : Int32) (u : (Nat → Int32) × (Nat → Int32)) => (0 ≤ r.toInt ∧ r.toInt ≤ 1) ∧ (Rg u.1 0 8 0 1000000000) ∧ (Rg u.2 0 45 0 1)) (fun u : (Nat → Int32) × (Nat → Int32) => [(q, oC11 q_thrown q_tape_ q_length q_size q_p q_limit q_s_ q_h_ q_read_ q_names_ q_reserved_ q_token q_at q_span q_number q_fault q_faultAt q_word q_got q_lines q_onces q_webs q_one q_two q_seed q_undone_ q_before_ q_undoMany q_far_ q_wayRow_ q_wayMany q_keptRow_ q_askedRow_ q_rares_ q_trial_ q_keptMany q_askedMany q_hangs_ q_paths_ q_tornSteps q_hasTorn q_turnOne q_hasTurn q_text_ q_textMany q_toldMany q_toldAt_ q_hasTold q_stack_ q_codes q_ones q_top q_deep q_isWhole q_truths_ q_imaged_ q_namesKept_ q_areKept_), (q_s_, aC1 cy 383 q_s), (q_far_, aC1 cy 8 u.1), (q_truths_, aC3 cy 45 u.2)]) := by
  refine MI.enter (by decide) (Nat.le_of_ble_eq_true rfl) ?_
  intro p e s m below meth c ls A hsz hAe C hP hD hS hl
  exact b_y_isSaid l D cy q b q_thrown q_tape_ q_length q_size q_p q_limit q_s_ q_h_ q_read_ q_names_ q_reserved_ q_token q_at q_span q_number q_fault q_faultAt q_word q_got q_lines q_onces q_webs q_one q_two q_seed q_undone_ q_before_ q_undoMany q_far_ q_wayRow_ q_wayMany q_keptRow_ q_askedRow_ q_rares_ q_trial_ q_keptMany q_askedMany q_hangs_ q_paths_ q_tornSteps q_hasTorn q_turnOne q_hasTurn q_text_ q_textMany q_toldMany q_toldAt_ q_hasTold q_stack_ q_codes q_ones q_top q_deep q_isWhole q_truths_ q_imaged_ q_namesKept_ q_areKept_ q_s q_far q_truths hb0 hb1 hb2 hb3 hb4 hb5 hb6 hb7 hb8 hb9 hb10 hb11 hb12 hb13 hb14 hb15 hb16 hb17 hb18 hb19 hb20 hb21 hb22 hR0 hR1 hR2 hR3 hR4 hR5 hR6 hR7 hR8 hR9 hR10 hR11 ⟨Nat.le_of_ble_eq_true rfl, Nat.le_of_ble_eq_true rfl⟩ C rfl _ _ ls hP hD hS hl
set_option maxHeartbeats 4000000 in
set_option maxRecDepth 100000 in
theorem b_y_said (l : Launch) (D : va_G) (cy : Nat → ClassId) (q : Nat) (a : Int32) (q_thrown : Int32) (q_tape_ : Nat) (q_length : Int32) (q_size : Int32) (q_p : Int32) (q_limit : Int32) (q_s_ : Nat) (q_h_ : Nat) (q_read_ : Nat) (q_names_ : Nat) (q_reserved_ : Nat) (q_token : Int32) (q_at : Int32) (q_span : Int32) (q_number : Int32) (q_fault : Int32) (q_faultAt : Int32) (q_word : Int64) (q_got : Int32) (q_lines : Int32) (q_onces : Int32) (q_webs : Int32) (q_one : Int32) (q_two : Int32) (q_seed : Int32) (q_undone_ : Nat) (q_before_ : Nat) (q_undoMany : Int32) (q_far_ : Nat) (q_wayRow_ : Nat) (q_wayMany : Int32) (q_keptRow_ : Nat) (q_askedRow_ : Nat) (q_rares_ : Nat) (q_trial_ : Nat) (q_keptMany : Int32) (q_askedMany : Int32) (q_hangs_ : Nat) (q_paths_ : Nat) (q_tornSteps : Int32) (q_hasTorn : Int32) (q_turnOne : Int32) (q_hasTurn : Int32) (q_text_ : Nat) (q_textMany : Int32) (q_toldMany : Int32) (q_toldAt_ : Nat) (q_hasTold : Int32) (q_stack_ : Nat) (q_codes : Int32) (q_ones : Int32) (q_top : Int32) (q_deep : Int32) (q_isWhole : Int32) (q_truths_ : Nat) (q_imaged_ : Nat) (q_namesKept_ : Nat) (q_areKept_ : Nat) (q_s : Nat → Int32) (q_far : Nat → Int32) (q_truths : Nat → Int32) (hb0 : 0 ≤ q_length.toInt ∧ q_length.toInt ≤ 940) (hb1 : 0 ≤ q_size.toInt ∧ q_size.toInt ≤ 940) (hb2 : 0 ≤ q_p.toInt ∧ q_p.toInt ≤ 940) (hb3 : 0 ≤ q_limit.toInt ∧ q_limit.toInt ≤ 940) (hb4 : 0 ≤ q_span.toInt ∧ q_span.toInt ≤ 940) (hb5 : 0 ≤ q_number.toInt ∧ q_number.toInt ≤ 8214) (hb6 : (-1) ≤ q_got.toInt ∧ q_got.toInt ≤ 8214) (hb7 : 0 ≤ q_one.toInt ∧ q_one.toInt ≤ 7) (hb8 : 0 ≤ q_two.toInt ∧ q_two.toInt ≤ 7) (hb9 : 0 ≤ q_undoMany.toInt ∧ q_undoMany.toInt ≤ 8) (hb10 : (-1) ≤ q_wayMany.toInt ∧ q_wayMany.toInt ≤ 8) (hb11 : (-1) ≤ q_keptMany.toInt ∧ q_keptMany.toInt ≤ 8) (hb12 : (-1) ≤ q_askedMany.toInt ∧ q_askedMany.toInt ≤ 3) (hb13 : 0 ≤ q_hasTorn.toInt ∧ q_hasTorn.toInt ≤ 1) (hb14 : 0 ≤ q_hasTurn.toInt ∧ q_hasTurn.toInt ≤ 1) (hb15 : 0 ≤ q_textMany.toInt ∧ q_textMany.toInt ≤ 48) (hb16 : 0 ≤ q_toldMany.toInt ∧ q_toldMany.toInt ≤ 40) (hb17 : 0 ≤ q_hasTold.toInt ∧ q_hasTold.toInt ≤ 1) (hb18 : 0 ≤ q_codes.toInt ∧ q_codes.toInt ≤ 40) (hb19 : 0 ≤ q_ones.toInt ∧ q_ones.toInt ≤ 20) (hb20 : 0 ≤ q_top.toInt ∧ q_top.toInt ≤ 40) (hb21 : 0 ≤ q_isWhole.toInt ∧ q_isWhole.toInt ≤ 1) (hR0 : Rg q_s 0 1 0 8) (hR1 : Rg q_s 1 3 0 6) (hR2 : Rg q_s 3 4 1 50) (hR3 : Rg q_s 4 5 1 5) (hR4 : Rg q_s 103 104 0 255) (hR5 : Rg q_s 7 23 0 5) (hR6 : Rg q_s 106 122 0 5) (hR7 : Rg q_s 23 31 0 99) (hR8 : Rg q_s 122 130 0 99) (hR9 : Sv q_s) (hR10 : Rg q_far 0 8 0 1000000000) (hR11 : Rg q_truths 0 45 0 1) {p : Program} {e : Env} {s : State} {m : MethodId} {args : Array Value} {below : List Frame} {meth : Method} {c : Code} {A : Nat → Prop} {Q : State → Prop} {cells slots : Nat} (hroom : cells ≤ ((Rm 6 141 0 0)).cells ∧ slots ≤ ((Rm 6 141 0 0)).slots) (C : Cx p s m args meth c cX11_said 4 (some .int) RX11 "said" D cy A) (hQ : Q = MQ below (va_Qi (fun (r : Int32) (u : Int32 × (Nat → Int32) × (Nat → Int32)) => (Rg u.2.1 0 8 0 1000000000) ∧ (Rg u.2.2 0 45 0 1)) (Bx D A (fun u : Int32 × (Nat → Int32) × (Nat → Int32) => [(q, oC11 u.1 q_tape_ q_length q_size q_p q_limit q_s_ q_h_ q_read_ q_names_ q_reserved_ q_token q_at q_span q_number q_fault q_faultAt q_word q_got q_lines q_onces q_webs q_one q_two q_seed q_undone_ q_before_ q_undoMany q_far_ q_wayRow_ q_wayMany q_keptRow_ q_askedRow_ q_rares_ q_trial_ q_keptMany q_askedMany q_hangs_ q_paths_ q_tornSteps q_hasTorn q_turnOne q_hasTurn q_text_ q_textMany q_toldMany q_toldAt_ q_hasTold q_stack_ q_codes q_ones q_top q_deep q_isWhole q_truths_ q_imaged_ q_namesKept_ q_areKept_), (q_s_, aC1 cy 383 q_s), (q_far_, aC1 cy 8 u.2.1), (q_truths_, aC3 cy 45 u.2.2)])) A) args s ((Rm 6 141 0 0)).cells ((Rm 6 141 0 0)).slots A) (H : Heap) (locs : List Loc) (ls : Array Slot) (hP : va_P D vwCl [(q, oC11 q_thrown q_tape_ q_length q_size q_p q_limit q_s_ q_h_ q_read_ q_names_ q_reserved_ q_token q_at q_span q_number q_fault q_faultAt q_word q_got q_lines q_onces q_webs q_one q_two q_seed q_undone_ q_before_ q_undoMany q_far_ q_wayRow_ q_wayMany q_keptRow_ q_askedRow_ q_rares_ q_trial_ q_keptMany q_askedMany q_hangs_ q_paths_ q_tornSteps q_hasTorn q_turnOne q_hasTurn q_text_ q_textMany q_toldMany q_toldAt_ q_hasTold q_stack_ q_codes q_ones q_top q_deep q_isWhole q_truths_ q_imaged_ q_namesKept_ q_areKept_), (q_s_, aC1 cy 383 q_s), (q_far_, aC1 cy 8 q_far), (q_truths_, aC3 cy 45 q_truths)] H) (hD : va_D A [(q, oC11 q_thrown q_tape_ q_length q_size q_p q_limit q_s_ q_h_ q_read_ q_names_ q_reserved_ q_token q_at q_span q_number q_fault q_faultAt q_word q_got q_lines q_onces q_webs q_one q_two q_seed q_undone_ q_before_ q_undoMany q_far_ q_wayRow_ q_wayMany q_keptRow_ q_askedRow_ q_rares_ q_trial_ q_keptMany q_askedMany q_hangs_ q_paths_ q_tornSteps q_hasTorn q_turnOne q_hasTurn q_text_ q_textMany q_toldMany q_toldAt_ q_hasTold q_stack_ q_codes q_ones q_top q_deep q_isWhole q_truths_ q_imaged_ q_namesKept_ q_areKept_), (q_s_, aC1 cy 383 q_s), (q_far_, aC1 cy 8 q_far), (q_truths_, aC3 cy 45 q_truths)]) (hS : va_S A s.heap H locs) (hl : lv_has ls 4 [(0, .ref q), (1, .int a)]) : W p l e (Rm 6 141 0 0) s m args below meth c H locs cells slots Q (F0 m 0 ls []) := by
  have hx := C.1
  have hb := C.2.1
  have hqa := o_rng a
  refine lv_aload_n hx hb dX11_said_0 rfl (lv_at hl 0 rfl) ?_
  refine lv_iconst (v := 0) hx hb dX11_said_1 (by decide) ?_
  refine q_put11 (v := .int 0) (w' := [(q, oC11 0 q_tape_ q_length q_size q_p q_limit q_s_ q_h_ q_read_ q_names_ q_reserved_ q_token q_at q_span q_number q_fault q_faultAt q_word q_got q_lines q_onces q_webs q_one q_two q_seed q_undone_ q_before_ q_undoMany q_far_ q_wayRow_ q_wayMany q_keptRow_ q_askedRow_ q_rares_ q_trial_ q_keptMany q_askedMany q_hangs_ q_paths_ q_tornSteps q_hasTorn q_turnOne q_hasTurn q_text_ q_textMany q_toldMany q_toldAt_ q_hasTold q_stack_ q_codes q_ones q_top q_deep q_isWhole q_truths_ q_imaged_ q_namesKept_ q_areKept_), (q_s_, aC1 cy 383 q_s), (q_far_, aC1 cy 8 q_far), (q_truths_, aC3 cy 45 q_truths)]) C hP hD hS 0 0 rfl fT_0 fy_0 (by decide) kF_RX11_1 rfl rfl (Nat.le_of_ble_eq_true rfl) rfl dX11_said_2 (fun H locs hP hD hS => ?_)
  refine lv_aload_n hx hb dX11_said_5 rfl (lv_at hl 0 rfl) ?_
  refine q_get11 (v := .ref q_s_) C hP 0 6 rfl fT_6 (by decide) kF_RX11_33 rfl dX11_said_6 ?_
  refine lv_sipush (v := 202) hx hb dX11_said_9 (by decide) ?_
  refine q_iald (v := q_s 202) C hP 1 rfl (vin (by decide +kernel)) rfl dX11_said_12 ?_
  refine lv_topi (fun z_1 ez_1 => ?_)
  refine lv_if_eq (tgt := 21) hx hb dX11_said_13 (by decide) (fun c_2 => ?_) (fun c_2 => ?_)
  · have hc_2 := o_eq (rfl : z_1.toInt = z_1.toInt) (by decide : (0 : Int32).toInt = 0) c_2
    refine lv_iconst (v := (-1)) hx hb dX11_said_21 (by decide) ?_
    refine o_wq hQ ?_
    exact q_iret (rm := (Rm 6 141 0 0)) C hS (0, q_far, q_truths) rfl ⟨hR10, hR11⟩ (q_subP hP [0, 1, 2, 3] rfl) (hD.sub [0, 1, 2, 3] (by decide) rfl) hroom.1 hroom.2 dX11_said_22
  · have hc_2 := o_ne (rfl : z_1.toInt = z_1.toInt) (by decide : (0 : Int32).toInt = 0) c_2
    refine lv_iload_n hx hb dX11_said_16 rfl (lv_at hl 1 rfl) ?_
    refine lv_iconst (v := (-1)) hx hb dX11_said_17 (by decide) ?_
    refine lv_icmp_ge (tgt := 23) hx hb dX11_said_18 (by decide) (fun c_3 => ?_) (fun c_3 => ?_)
    · have hc_3 := o_le (by decide : ((-1) : Int32).toInt = -1) (rfl : a.toInt = a.toInt) c_3
      refine lv_iconst (v := 0) hx hb dX11_said_23 (by decide) ?_
      refine lv_istore_n (lv' := [(2, .int 0), (0, .ref q), (1, .int a)]) hx hb dX11_said_24 rfl hl (by decide) rfl (fun ls hl => ?_)
      refine lv_iconst (v := 0) hx hb dX11_said_25 (by decide) ?_
      refine lv_istore_n (lv' := [(3, .int 0), (2, .int 0), (0, .ref q), (1, .int a)]) hx hb dX11_said_26 rfl hl (by decide) rfl (fun ls hl => ?_)
      have lp_27_7 : ∀ (n_8 : Nat) (x_4 : Int32) (x_5 : Int32) (g_6 : Nat → Int32) (g_7 : Nat → Int32) (H : Heap) (locs : List Loc) (ls : Array Slot), (-1) * x_5.toInt + 8 < (n_8 : Int) → (0 ≤ x_5.toInt ∧ x_5.toInt ≤ 8) → Rg g_6 0 8 0 1000000000 → Rg g_7 0 45 0 1 → va_P D vwCl [(q, oC11 0 q_tape_ q_length q_size q_p q_limit q_s_ q_h_ q_read_ q_names_ q_reserved_ q_token q_at q_span q_number q_fault q_faultAt q_word q_got q_lines q_onces q_webs q_one q_two q_seed q_undone_ q_before_ q_undoMany q_far_ q_wayRow_ q_wayMany q_keptRow_ q_askedRow_ q_rares_ q_trial_ q_keptMany q_askedMany q_hangs_ q_paths_ q_tornSteps q_hasTorn q_turnOne q_hasTurn q_text_ q_textMany q_toldMany q_toldAt_ q_hasTold q_stack_ q_codes q_ones q_top q_deep q_isWhole q_truths_ q_imaged_ q_namesKept_ q_areKept_), (q_s_, aC1 cy 383 q_s), (q_far_, aC1 cy 8 g_6), (q_truths_, aC3 cy 45 g_7)] H → va_D A [(q, oC11 0 q_tape_ q_length q_size q_p q_limit q_s_ q_h_ q_read_ q_names_ q_reserved_ q_token q_at q_span q_number q_fault q_faultAt q_word q_got q_lines q_onces q_webs q_one q_two q_seed q_undone_ q_before_ q_undoMany q_far_ q_wayRow_ q_wayMany q_keptRow_ q_askedRow_ q_rares_ q_trial_ q_keptMany q_askedMany q_hangs_ q_paths_ q_tornSteps q_hasTorn q_turnOne q_hasTurn q_text_ q_textMany q_toldMany q_toldAt_ q_hasTold q_stack_ q_codes q_ones q_top q_deep q_isWhole q_truths_ q_imaged_ q_namesKept_ q_areKept_), (q_s_, aC1 cy 383 q_s), (q_far_, aC1 cy 8 g_6), (q_truths_, aC3 cy 45 g_7)] → va_S A s.heap H locs → lv_has ls 4 [(0, .ref q), (1, .int a), (2, .int x_4), (3, .int x_5)] → W p l e (Rm 6 141 0 0) s m args below meth c H locs cells slots Q (F0 m 27 ls []) := by
        intro n_8
        induction n_8 with
        | zero =>
          intro x_4 x_5 g_6 g_7 H locs ls hm_12 hf_9 hg_10 hg_11 hP hD hS hl
          exact absurd hm_12 (by omega)
        | succ n_8 ih_13 =>
          intro x_4 x_5 g_6 g_7 H locs ls hm_12 hf_9 hg_10 hg_11 hP hD hS hl
          refine lv_iload_n hx hb dX11_said_27 rfl (lv_at hl 3 rfl) ?_
          refine lv_aload_n hx hb dX11_said_28 rfl (lv_at hl 0 rfl) ?_
          refine q_get11 (v := .ref q_s_) C hP 0 6 rfl fT_6 (by decide) kF_RX11_33 rfl dX11_said_29 ?_
          refine lv_iconst (v := 0) hx hb dX11_said_32 (by decide) ?_
          refine q_iald (v := q_s 0) C hP 1 rfl (vin (by decide +kernel)) rfl dX11_said_33 ?_
          refine lv_topi (fun z_15 ez_15 => ?_)
          have hz_15 : 0 ≤ z_15.toInt ∧ z_15.toInt ≤ 8 := (by rw [ez_15]; exact hR0 0 (by decide) (by decide))
          refine lv_icmp_ge (tgt := 64) hx hb dX11_said_34 (by decide) (fun c_16 => ?_) (fun c_16 => ?_)
          · have hc_16 := o_le (rfl : z_15.toInt = z_15.toInt) (rfl : x_5.toInt = x_5.toInt) c_16
            refine lv_iload_n hx hb dX11_said_64 rfl (lv_at hl 1 rfl) ?_
            refine lv_iconst (v := (-1)) hx hb dX11_said_65 (by decide) ?_
            refine lv_icmp_ne (tgt := 73) hx hb dX11_said_66 (by decide) (fun c_17 => ?_) (fun c_17 => ?_)
            · have hc_17 := o_ne (rfl : a.toInt = a.toInt) (by decide : ((-1) : Int32).toInt = -1) c_17
              have hnc_17 : 0 ≤ a.toInt := by rcases Int.lt_or_gt_of_ne hc_17 with h9 | h9 <;> omega
              refine lv_iconst (v := (-1)) hx hb dX11_said_73 (by decide) ?_
              refine o_wq hQ ?_
              exact q_iret (rm := (Rm 6 141 0 0)) C hS (0, g_6, g_7) rfl ⟨hg_10, hg_11⟩ (q_subP hP [0, 1, 2, 3] rfl) (hD.sub [0, 1, 2, 3] (by decide) rfl) hroom.1 hroom.2 dX11_said_74
            · have hc_17 := o_eq (rfl : a.toInt = a.toInt) (by decide : ((-1) : Int32).toInt = -1) c_17
              refine lv_iload_n hx hb dX11_said_69 rfl (lv_at hl 2 rfl) ?_
              refine lv_goto (tgt := 74) hx hb dX11_said_70 (by decide) ?_
              refine o_wq hQ ?_
              exact q_iret (rm := (Rm 6 141 0 0)) C hS (0, g_6, g_7) rfl ⟨hg_10, hg_11⟩ (q_subP hP [0, 1, 2, 3] rfl) (hD.sub [0, 1, 2, 3] (by decide) rfl) hroom.1 hroom.2 dX11_said_74
          · have hc_16 := o_nle (rfl : z_15.toInt = z_15.toInt) (rfl : x_5.toInt = x_5.toInt) c_16
            refine lv_aload_n hx hb dX11_said_37 rfl (lv_at hl 0 rfl) ?_
            refine lv_iload_n hx hb dX11_said_38 rfl (lv_at hl 3 rfl) ?_
            refine q_ai (wr := []) (r_V (rm := (Rm 5 117 0 0)) (q0 := 0) (As := [.int x_5]) (rest := []) (wc := [(q, oC11 0 q_tape_ q_length q_size q_p q_limit q_s_ q_h_ q_read_ q_names_ q_reserved_ q_token q_at q_span q_number q_fault q_faultAt q_word q_got q_lines q_onces q_webs q_one q_two q_seed q_undone_ q_before_ q_undoMany q_far_ q_wayRow_ q_wayMany q_keptRow_ q_askedRow_ q_rares_ q_trial_ q_keptMany q_askedMany q_hangs_ q_paths_ q_tornSteps q_hasTorn q_turnOne q_hasTurn q_text_ q_textMany q_toldMany q_toldAt_ q_hasTold q_stack_ q_codes q_ones q_top q_deep q_isWhole q_truths_ q_imaged_ q_namesKept_ q_areKept_), (q_s_, aC1 cy 383 q_s), (q_far_, aC1 cy 8 g_6), (q_truths_, aC3 cy 45 g_7)]) C hS (q_subP hP [0, 1, 2, 3] rfl) (hD.sub [0, 1, 2, 3] (by decide) rfl) (y_isSaid l D cy q x_5 0 q_tape_ q_length q_size q_p q_limit q_s_ q_h_ q_read_ q_names_ q_reserved_ q_token q_at q_span q_number q_fault q_faultAt q_word q_got q_lines q_onces q_webs q_one q_two q_seed q_undone_ q_before_ q_undoMany q_far_ q_wayRow_ q_wayMany q_keptRow_ q_askedRow_ q_rares_ q_trial_ q_keptMany q_askedMany q_hangs_ q_paths_ q_tornSteps q_hasTorn q_turnOne q_hasTurn q_text_ q_textMany q_toldMany q_toldAt_ q_hasTold q_stack_ q_codes q_ones q_top q_deep q_isWhole q_truths_ q_imaged_ q_namesKept_ q_areKept_ q_s g_6 g_7 _ (by omega) (by omega) (by omega) (by omega) (by omega) (by omega) (by omega) (by omega) (by omega) (by omega) (by omega) (by omega) (by omega) (by omega) (by omega) (by omega) (by omega) (by omega) (by omega) (by omega) (by omega) (by omega) (by omega) hR0 hR1 hR2 hR3 hR4 hR5 hR6 hR7 hR8 hR9 hg_10 hg_11) kwV_X11_isSaid kM_RX11_509 rfl rfl ⟨Nat.le_of_ble_eq_true rfl, Nat.le_of_ble_eq_true rfl⟩ rfl hl.1 rfl (Nat.le_of_ble_eq_true rfl) dX11_said_39 ⟨hroom.1, hroom.2⟩) C.2.2.2.2.2.2.1 hP hD hS [0, 1, 2, 3] [] rfl rfl (by decide) (by decide) (fun r_19 u_18 H locs hw_20 hP hD hS => ?_)
            obtain ⟨g_21, g_22⟩ := u_18
            have hP : va_P D vwCl [(q, oC11 0 q_tape_ q_length q_size q_p q_limit q_s_ q_h_ q_read_ q_names_ q_reserved_ q_token q_at q_span q_number q_fault q_faultAt q_word q_got q_lines q_onces q_webs q_one q_two q_seed q_undone_ q_before_ q_undoMany q_far_ q_wayRow_ q_wayMany q_keptRow_ q_askedRow_ q_rares_ q_trial_ q_keptMany q_askedMany q_hangs_ q_paths_ q_tornSteps q_hasTorn q_turnOne q_hasTurn q_text_ q_textMany q_toldMany q_toldAt_ q_hasTold q_stack_ q_codes q_ones q_top q_deep q_isWhole q_truths_ q_imaged_ q_namesKept_ q_areKept_), (q_s_, aC1 cy 383 q_s), (q_far_, aC1 cy 8 g_21), (q_truths_, aC3 cy 45 g_22)] H := hP
            have hD : va_D A [(q, oC11 0 q_tape_ q_length q_size q_p q_limit q_s_ q_h_ q_read_ q_names_ q_reserved_ q_token q_at q_span q_number q_fault q_faultAt q_word q_got q_lines q_onces q_webs q_one q_two q_seed q_undone_ q_before_ q_undoMany q_far_ q_wayRow_ q_wayMany q_keptRow_ q_askedRow_ q_rares_ q_trial_ q_keptMany q_askedMany q_hangs_ q_paths_ q_tornSteps q_hasTorn q_turnOne q_hasTurn q_text_ q_textMany q_toldMany q_toldAt_ q_hasTold q_stack_ q_codes q_ones q_top q_deep q_isWhole q_truths_ q_imaged_ q_namesKept_ q_areKept_), (q_s_, aC1 cy 383 q_s), (q_far_, aC1 cy 8 g_21), (q_truths_, aC3 cy 45 g_22)] := hD
            have hp_22 : 0 ≤ r_19.toInt ∧ r_19.toInt ≤ 1 := hw_20.1
            have hp_23 : Rg g_21 0 8 0 1000000000 := hw_20.2.1
            have hp_24 : Rg g_22 0 45 0 1 := hw_20.2.2
            clear hw_20
            refine lv_if_ne (tgt := 48) hx hb dX11_said_42 (by decide) (fun c_26 => ?_) (fun c_26 => ?_)
            · have hc_26 := o_ne (rfl : r_19.toInt = r_19.toInt) (by decide : (0 : Int32).toInt = 0) c_26
              have hnc_26 : 0 ≤ r_19.toInt + (-1) := by rcases Int.lt_or_gt_of_ne hc_26 with h9 | h9 <;> omega
              refine lv_iload_n hx hb dX11_said_48 rfl (lv_at hl 2 rfl) ?_
              refine lv_iload_n hx hb dX11_said_49 rfl (lv_at hl 1 rfl) ?_
              refine lv_icmp_ne (tgt := 55) hx hb dX11_said_50 (by decide) (fun c_27 => ?_) (fun c_27 => ?_)
              · have hc_27 := o_ne (rfl : x_4.toInt = x_4.toInt) (rfl : a.toInt = a.toInt) c_27
                obtain ⟨z_28, hz_28⟩ : ∃ z : Int32, z = x_4 + 1 := ⟨_, rfl⟩
                refine lv_iinc (v := z_28) (lv' := [(2, .int z_28), (0, .ref q), (1, .int a), (3, .int x_5)]) hx hb dX11_said_55 hl (k := 2) rfl hz_28.symm (by decide) rfl (fun ls hl => ?_)
                obtain ⟨z_29, hz_29⟩ : ∃ z : Int32, z = x_5 + 1 := ⟨_, rfl⟩
                refine lv_iinc (v := z_29) (lv' := [(3, .int z_29), (2, .int z_28), (0, .ref q), (1, .int a)]) hx hb dX11_said_58 hl (k := 3) rfl hz_29.symm (by decide) rfl (fun ls hl => ?_)
                have hz_29 := o_add hz_29 (rfl : x_5.toInt = x_5.toInt) (by decide : (1 : Int32).toInt = 1) (by omega) (by omega)
                refine lv_goto (tgt := 27) hx hb dX11_said_61 (by decide) ?_
                exact ih_13 z_28 z_29 g_21 g_22 H locs ls (by omega) (by omega) hp_23 hp_24 hP hD hS (lv_sub hl [2, 3, 1, 0] rfl)
              · have hc_27 := o_eq (rfl : x_4.toInt = x_4.toInt) (rfl : a.toInt = a.toInt) c_27
                refine lv_iload_n hx hb dX11_said_53 rfl (lv_at hl 3 rfl) ?_
                refine o_wq hQ ?_
                exact q_iret (rm := (Rm 6 141 0 0)) C hS (0, g_21, g_22) rfl ⟨hp_23, hp_24⟩ (q_subP hP [0, 1, 2, 3] rfl) (hD.sub [0, 1, 2, 3] (by decide) rfl) hroom.1 hroom.2 dX11_said_54
            · have hc_26 := o_eq (rfl : r_19.toInt = r_19.toInt) (by decide : (0 : Int32).toInt = 0) c_26
              refine lv_goto (tgt := 58) hx hb dX11_said_45 (by decide) ?_
              obtain ⟨z_30, hz_30⟩ : ∃ z : Int32, z = x_5 + 1 := ⟨_, rfl⟩
              refine lv_iinc (v := z_30) (lv' := [(3, .int z_30), (0, .ref q), (1, .int a), (2, .int x_4)]) hx hb dX11_said_58 hl (k := 3) rfl hz_30.symm (by decide) rfl (fun ls hl => ?_)
              have hz_30 := o_add hz_30 (rfl : x_5.toInt = x_5.toInt) (by decide : (1 : Int32).toInt = 1) (by omega) (by omega)
              refine lv_goto (tgt := 27) hx hb dX11_said_61 (by decide) ?_
              exact ih_13 x_4 z_30 g_21 g_22 H locs ls (by omega) (by omega) hp_23 hp_24 hP hD hS (lv_sub hl [1, 2, 3, 0] rfl)
      exact lp_27_7 9 (0 : Int32) (0 : Int32) q_far q_truths H locs ls (by have e0 : (0 : Int32).toInt = 0 := (by decide); omega) (by have e0 : (0 : Int32).toInt = 0 := (by decide); omega) hR10 hR11 hP hD hS (lv_sub hl [2, 3, 1, 0] rfl)
    · have hc_3 := o_nle (by decide : ((-1) : Int32).toInt = -1) (rfl : a.toInt = a.toInt) c_3
      refine lv_iconst (v := (-1)) hx hb dX11_said_21 (by decide) ?_
      refine o_wq hQ ?_
      exact q_iret (rm := (Rm 6 141 0 0)) C hS (0, q_far, q_truths) rfl ⟨hR10, hR11⟩ (q_subP hP [0, 1, 2, 3] rfl) (hD.sub [0, 1, 2, 3] (by decide) rfl) hroom.1 hroom.2 dX11_said_22
theorem y_said (l : Launch) (D : va_G) (cy : Nat → ClassId) (q : Nat) (a : Int32) (q_thrown : Int32) (q_tape_ : Nat) (q_length : Int32) (q_size : Int32) (q_p : Int32) (q_limit : Int32) (q_s_ : Nat) (q_h_ : Nat) (q_read_ : Nat) (q_names_ : Nat) (q_reserved_ : Nat) (q_token : Int32) (q_at : Int32) (q_span : Int32) (q_number : Int32) (q_fault : Int32) (q_faultAt : Int32) (q_word : Int64) (q_got : Int32) (q_lines : Int32) (q_onces : Int32) (q_webs : Int32) (q_one : Int32) (q_two : Int32) (q_seed : Int32) (q_undone_ : Nat) (q_before_ : Nat) (q_undoMany : Int32) (q_far_ : Nat) (q_wayRow_ : Nat) (q_wayMany : Int32) (q_keptRow_ : Nat) (q_askedRow_ : Nat) (q_rares_ : Nat) (q_trial_ : Nat) (q_keptMany : Int32) (q_askedMany : Int32) (q_hangs_ : Nat) (q_paths_ : Nat) (q_tornSteps : Int32) (q_hasTorn : Int32) (q_turnOne : Int32) (q_hasTurn : Int32) (q_text_ : Nat) (q_textMany : Int32) (q_toldMany : Int32) (q_toldAt_ : Nat) (q_hasTold : Int32) (q_stack_ : Nat) (q_codes : Int32) (q_ones : Int32) (q_top : Int32) (q_deep : Int32) (q_isWhole : Int32) (q_truths_ : Nat) (q_imaged_ : Nat) (q_namesKept_ : Nat) (q_areKept_ : Nat) (q_s : Nat → Int32) (q_far : Nat → Int32) (q_truths : Nat → Int32) (sz : Nat) (hb0 : 0 ≤ q_length.toInt ∧ q_length.toInt ≤ 940) (hb1 : 0 ≤ q_size.toInt ∧ q_size.toInt ≤ 940) (hb2 : 0 ≤ q_p.toInt ∧ q_p.toInt ≤ 940) (hb3 : 0 ≤ q_limit.toInt ∧ q_limit.toInt ≤ 940) (hb4 : 0 ≤ q_span.toInt ∧ q_span.toInt ≤ 940) (hb5 : 0 ≤ q_number.toInt ∧ q_number.toInt ≤ 8214) (hb6 : (-1) ≤ q_got.toInt ∧ q_got.toInt ≤ 8214) (hb7 : 0 ≤ q_one.toInt ∧ q_one.toInt ≤ 7) (hb8 : 0 ≤ q_two.toInt ∧ q_two.toInt ≤ 7) (hb9 : 0 ≤ q_undoMany.toInt ∧ q_undoMany.toInt ≤ 8) (hb10 : (-1) ≤ q_wayMany.toInt ∧ q_wayMany.toInt ≤ 8) (hb11 : (-1) ≤ q_keptMany.toInt ∧ q_keptMany.toInt ≤ 8) (hb12 : (-1) ≤ q_askedMany.toInt ∧ q_askedMany.toInt ≤ 3) (hb13 : 0 ≤ q_hasTorn.toInt ∧ q_hasTorn.toInt ≤ 1) (hb14 : 0 ≤ q_hasTurn.toInt ∧ q_hasTurn.toInt ≤ 1) (hb15 : 0 ≤ q_textMany.toInt ∧ q_textMany.toInt ≤ 48) (hb16 : 0 ≤ q_toldMany.toInt ∧ q_toldMany.toInt ≤ 40) (hb17 : 0 ≤ q_hasTold.toInt ∧ q_hasTold.toInt ≤ 1) (hb18 : 0 ≤ q_codes.toInt ∧ q_codes.toInt ≤ 40) (hb19 : 0 ≤ q_ones.toInt ∧ q_ones.toInt ≤ 20) (hb20 : 0 ≤ q_top.toInt ∧ q_top.toInt ≤ 40) (hb21 : 0 ≤ q_isWhole.toInt ∧ q_isWhole.toInt ≤ 1) (hR0 : Rg q_s 0 1 0 8) (hR1 : Rg q_s 1 3 0 6) (hR2 : Rg q_s 3 4 1 50) (hR3 : Rg q_s 4 5 1 5) (hR4 : Rg q_s 103 104 0 255) (hR5 : Rg q_s 7 23 0 5) (hR6 : Rg q_s 106 122 0 5) (hR7 : Rg q_s 23 31 0 99) (hR8 : Rg q_s 122 130 0 99) (hR9 : Sv q_s) (hR10 : Rg q_far 0 8 0 1000000000) (hR11 : Rg q_truths 0 45 0 1) : MI l yX11_said cX11_said 4 (some .int) (Rm 6 141 0 0) D cy [.ref q, .int a] sz [(q, oC11 q_thrown q_tape_ q_length q_size q_p q_limit q_s_ q_h_ q_read_ q_names_ q_reserved_ q_token q_at q_span q_number q_fault q_faultAt q_word q_got q_lines q_onces q_webs q_one q_two q_seed q_undone_ q_before_ q_undoMany q_far_ q_wayRow_ q_wayMany q_keptRow_ q_askedRow_ q_rares_ q_trial_ q_keptMany q_askedMany q_hangs_ q_paths_ q_tornSteps q_hasTorn q_turnOne q_hasTurn q_text_ q_textMany q_toldMany q_toldAt_ q_hasTold q_stack_ q_codes q_ones q_top q_deep q_isWhole q_truths_ q_imaged_ q_namesKept_ q_areKept_), (q_s_, aC1 cy 383 q_s), (q_far_, aC1 cy 8 q_far), (q_truths_, aC3 cy 45 q_truths)] (fun (r : Int32) (u : Int32 × (Nat → Int32) × (Nat → Int32)) => (Rg u.2.1 0 8 0 1000000000) ∧ (Rg u.2.2 0 45 0 1)) (fun u : Int32 × (Nat → Int32) × (Nat → Int32) => [(q, oC11 u.1 q_tape_ q_length q_size q_p q_limit q_s_ q_h_ q_read_ q_names_ q_reserved_ q_token q_at q_span q_number q_fault q_faultAt q_word q_got q_lines q_onces q_webs q_one q_two q_seed q_undone_ q_before_ q_undoMany q_far_ q_wayRow_ q_wayMany q_keptRow_ q_askedRow_ q_rares_ q_trial_ q_keptMany q_askedMany q_hangs_ q_paths_ q_tornSteps q_hasTorn q_turnOne q_hasTurn q_text_ q_textMany q_toldMany q_toldAt_ q_hasTold q_stack_ q_codes q_ones q_top q_deep q_isWhole q_truths_ q_imaged_ q_namesKept_ q_areKept_), (q_s_, aC1 cy 383 q_s), (q_far_, aC1 cy 8 u.2.1), (q_truths_, aC3 cy 45 u.2.2)]) := by
  refine MI.enter (by decide) (Nat.le_of_ble_eq_true rfl) ?_
  intro p e s m below meth c ls A hsz hAe C hP hD hS hl
  exact b_y_said l D cy q a q_thrown q_tape_ q_length q_size q_p q_limit q_s_ q_h_ q_read_ q_names_ q_reserved_ q_token q_at q_span q_number q_fault q_faultAt q_word q_got q_lines q_onces q_webs q_one q_two q_seed q_undone_ q_before_ q_undoMany q_far_ q_wayRow_ q_wayMany q_keptRow_ q_askedRow_ q_rares_ q_trial_ q_keptMany q_askedMany q_hangs_ q_paths_ q_tornSteps q_hasTorn q_turnOne q_hasTurn q_text_ q_textMany q_toldMany q_toldAt_ q_hasTold q_stack_ q_codes q_ones q_top q_deep q_isWhole q_truths_ q_imaged_ q_namesKept_ q_areKept_ q_s q_far q_truths hb0 hb1 hb2 hb3 hb4 hb5 hb6 hb7 hb8 hb9 hb10 hb11 hb12 hb13 hb14 hb15 hb16 hb17 hb18 hb19 hb20 hb21 hR0 hR1 hR2 hR3 hR4 hR5 hR6 hR7 hR8 hR9 hR10 hR11 ⟨Nat.le_of_ble_eq_true rfl, Nat.le_of_ble_eq_true rfl⟩ C rfl _ _ ls hP hD hS hl
set_option maxHeartbeats 4000000 in
set_option maxRecDepth 100000 in
theorem b_y_image0 (l : Launch) (D : va_G) (cy : Nat → ClassId) (q : Nat) (q_thrown : Int32) (q_tape_ : Nat) (q_length : Int32) (q_size : Int32) (q_p : Int32) (q_limit : Int32) (q_s_ : Nat) (q_h_ : Nat) (q_read_ : Nat) (q_names_ : Nat) (q_reserved_ : Nat) (q_token : Int32) (q_at : Int32) (q_span : Int32) (q_number : Int32) (q_fault : Int32) (q_faultAt : Int32) (q_word : Int64) (q_got : Int32) (q_lines : Int32) (q_onces : Int32) (q_webs : Int32) (q_one : Int32) (q_two : Int32) (q_seed : Int32) (q_undone_ : Nat) (q_before_ : Nat) (q_undoMany : Int32) (q_far_ : Nat) (q_wayRow_ : Nat) (q_wayMany : Int32) (q_keptRow_ : Nat) (q_askedRow_ : Nat) (q_rares_ : Nat) (q_trial_ : Nat) (q_keptMany : Int32) (q_askedMany : Int32) (q_hangs_ : Nat) (q_paths_ : Nat) (q_tornSteps : Int32) (q_hasTorn : Int32) (q_turnOne : Int32) (q_hasTurn : Int32) (q_text_ : Nat) (q_textMany : Int32) (q_toldMany : Int32) (q_toldAt_ : Nat) (q_hasTold : Int32) (q_stack_ : Nat) (q_codes : Int32) (q_ones : Int32) (q_top : Int32) (q_deep : Int32) (q_isWhole : Int32) (q_truths_ : Nat) (q_imaged_ : Nat) (q_namesKept_ : Nat) (q_areKept_ : Nat) (q_s : Nat → Int32) (q_names : Nat → Int64) (q_imaged : Nat → Int32) (q_namesKept : Nat → Int64) (q_areKept : Nat → Int32) (hb0 : 0 ≤ q_length.toInt ∧ q_length.toInt ≤ 940) (hb1 : 0 ≤ q_size.toInt ∧ q_size.toInt ≤ 940) (hb2 : 0 ≤ q_p.toInt ∧ q_p.toInt ≤ 940) (hb3 : 0 ≤ q_limit.toInt ∧ q_limit.toInt ≤ 940) (hb4 : 0 ≤ q_span.toInt ∧ q_span.toInt ≤ 940) (hb5 : 0 ≤ q_number.toInt ∧ q_number.toInt ≤ 8214) (hb6 : (-1) ≤ q_got.toInt ∧ q_got.toInt ≤ 8214) (hb7 : 0 ≤ q_one.toInt ∧ q_one.toInt ≤ 7) (hb8 : 0 ≤ q_two.toInt ∧ q_two.toInt ≤ 7) (hb9 : 0 ≤ q_undoMany.toInt ∧ q_undoMany.toInt ≤ 8) (hb10 : (-1) ≤ q_wayMany.toInt ∧ q_wayMany.toInt ≤ 8) (hb11 : (-1) ≤ q_keptMany.toInt ∧ q_keptMany.toInt ≤ 8) (hb12 : (-1) ≤ q_askedMany.toInt ∧ q_askedMany.toInt ≤ 3) (hb13 : 0 ≤ q_hasTorn.toInt ∧ q_hasTorn.toInt ≤ 1) (hb14 : 0 ≤ q_hasTurn.toInt ∧ q_hasTurn.toInt ≤ 1) (hb15 : 0 ≤ q_textMany.toInt ∧ q_textMany.toInt ≤ 48) (hb16 : 0 ≤ q_toldMany.toInt ∧ q_toldMany.toInt ≤ 40) (hb17 : 0 ≤ q_hasTold.toInt ∧ q_hasTold.toInt ≤ 1) (hb18 : 0 ≤ q_codes.toInt ∧ q_codes.toInt ≤ 40) (hb19 : 0 ≤ q_ones.toInt ∧ q_ones.toInt ≤ 20) (hb20 : 0 ≤ q_top.toInt ∧ q_top.toInt ≤ 40) (hb21 : 0 ≤ q_isWhole.toInt ∧ q_isWhole.toInt ≤ 1) (hR0 : Rg q_s 0 1 0 8) (hR1 : Rg q_s 1 3 0 6) (hR2 : Rg q_s 3 4 1 50) (hR3 : Rg q_s 4 5 1 5) (hR4 : Rg q_s 103 104 0 255) (hR5 : Rg q_s 7 23 0 5) (hR6 : Rg q_s 106 122 0 5) (hR7 : Rg q_s 23 31 0 99) (hR8 : Rg q_s 122 130 0 99) (hR9 : Sv q_s) (hR10 : Rg q_areKept 0 2 0 1) (hX0 : Im q_imaged q_areKept) {p : Program} {e : Env} {s : State} {m : MethodId} {args : Array Value} {below : List Frame} {meth : Method} {c : Code} {A : Nat → Prop} {Q : State → Prop} {cells slots : Nat} (hroom : cells ≤ ((Rm 1 22 0 0)).cells ∧ slots ≤ ((Rm 1 22 0 0)).slots) (C : Cx p s m args meth c cX11_image 3 (some .boolean) RX11 "image" D cy A) (hQ : Q = MQ below (va_Qi (fun (r : Int32) (u : Int32 × (Nat → Int32) × (Nat → Int64) × (Nat → Int32)) => (1 ≤ r.toInt ∧ r.toInt ≤ 1) ∧ (Rg u.2.2.2 0 2 0 1) ∧ (Im u.2.1 u.2.2.2) ∧ ((u.2.2.2 0).toInt = 1) ∧ (u.2.2.2 1 = q_areKept 1) ∧ (Cp q_s u.2.1 q_imaged 0 383) ∧ (Cq q_names u.2.2.1 q_namesKept 0 8)) (Bx D A (fun u : Int32 × (Nat → Int32) × (Nat → Int64) × (Nat → Int32) => [(q, oC11 u.1 q_tape_ q_length q_size q_p q_limit q_s_ q_h_ q_read_ q_names_ q_reserved_ q_token q_at q_span q_number q_fault q_faultAt q_word q_got q_lines q_onces q_webs q_one q_two q_seed q_undone_ q_before_ q_undoMany q_far_ q_wayRow_ q_wayMany q_keptRow_ q_askedRow_ q_rares_ q_trial_ q_keptMany q_askedMany q_hangs_ q_paths_ q_tornSteps q_hasTorn q_turnOne q_hasTurn q_text_ q_textMany q_toldMany q_toldAt_ q_hasTold q_stack_ q_codes q_ones q_top q_deep q_isWhole q_truths_ q_imaged_ q_namesKept_ q_areKept_), (q_s_, aC1 cy 383 q_s), (q_names_, aC2 cy 16 q_names), (q_imaged_, aC1 cy 766 u.2.1), (q_namesKept_, aC2 cy 16 u.2.2.1), (q_areKept_, aC3 cy 2 u.2.2.2)])) A) args s ((Rm 1 22 0 0)).cells ((Rm 1 22 0 0)).slots A) (H : Heap) (locs : List Loc) (ls : Array Slot) (hP : va_P D vwCl [(q, oC11 q_thrown q_tape_ q_length q_size q_p q_limit q_s_ q_h_ q_read_ q_names_ q_reserved_ q_token q_at q_span q_number q_fault q_faultAt q_word q_got q_lines q_onces q_webs q_one q_two q_seed q_undone_ q_before_ q_undoMany q_far_ q_wayRow_ q_wayMany q_keptRow_ q_askedRow_ q_rares_ q_trial_ q_keptMany q_askedMany q_hangs_ q_paths_ q_tornSteps q_hasTorn q_turnOne q_hasTurn q_text_ q_textMany q_toldMany q_toldAt_ q_hasTold q_stack_ q_codes q_ones q_top q_deep q_isWhole q_truths_ q_imaged_ q_namesKept_ q_areKept_), (q_s_, aC1 cy 383 q_s), (q_names_, aC2 cy 16 q_names), (q_imaged_, aC1 cy 766 q_imaged), (q_namesKept_, aC2 cy 16 q_namesKept), (q_areKept_, aC3 cy 2 q_areKept)] H) (hD : va_D A [(q, oC11 q_thrown q_tape_ q_length q_size q_p q_limit q_s_ q_h_ q_read_ q_names_ q_reserved_ q_token q_at q_span q_number q_fault q_faultAt q_word q_got q_lines q_onces q_webs q_one q_two q_seed q_undone_ q_before_ q_undoMany q_far_ q_wayRow_ q_wayMany q_keptRow_ q_askedRow_ q_rares_ q_trial_ q_keptMany q_askedMany q_hangs_ q_paths_ q_tornSteps q_hasTorn q_turnOne q_hasTurn q_text_ q_textMany q_toldMany q_toldAt_ q_hasTold q_stack_ q_codes q_ones q_top q_deep q_isWhole q_truths_ q_imaged_ q_namesKept_ q_areKept_), (q_s_, aC1 cy 383 q_s), (q_names_, aC2 cy 16 q_names), (q_imaged_, aC1 cy 766 q_imaged), (q_namesKept_, aC2 cy 16 q_namesKept), (q_areKept_, aC3 cy 2 q_areKept)]) (hS : va_S A s.heap H locs) (hl : lv_has ls 3 [(0, .ref q), (1, .int 0)]) : W p l e (Rm 1 22 0 0) s m args below meth c H locs cells slots Q (F0 m 0 ls []) := by
  have hx := C.1
  have hb := C.2.1
  refine lv_aload_n hx hb dX11_image_0 rfl (lv_at hl 0 rfl) ?_
  refine lv_iconst (v := 0) hx hb dX11_image_1 (by decide) ?_
  refine q_put11 (v := .int 0) (w' := [(q, oC11 0 q_tape_ q_length q_size q_p q_limit q_s_ q_h_ q_read_ q_names_ q_reserved_ q_token q_at q_span q_number q_fault q_faultAt q_word q_got q_lines q_onces q_webs q_one q_two q_seed q_undone_ q_before_ q_undoMany q_far_ q_wayRow_ q_wayMany q_keptRow_ q_askedRow_ q_rares_ q_trial_ q_keptMany q_askedMany q_hangs_ q_paths_ q_tornSteps q_hasTorn q_turnOne q_hasTurn q_text_ q_textMany q_toldMany q_toldAt_ q_hasTold q_stack_ q_codes q_ones q_top q_deep q_isWhole q_truths_ q_imaged_ q_namesKept_ q_areKept_), (q_s_, aC1 cy 383 q_s), (q_names_, aC2 cy 16 q_names), (q_imaged_, aC1 cy 766 q_imaged), (q_namesKept_, aC2 cy 16 q_namesKept), (q_areKept_, aC3 cy 2 q_areKept)]) C hP hD hS 0 0 rfl fT_0 fy_0 (by decide) kF_RX11_1 rfl rfl (Nat.le_of_ble_eq_true rfl) rfl dX11_image_2 (fun H locs hP hD hS => ?_)
  refine lv_iload_n hx hb dX11_image_5 rfl (lv_at hl 1 rfl) ?_
  refine lv_iconst (v := 0) hx hb dX11_image_6 (by decide) ?_
  refine lv_iconst (v := 1) hx hb dX11_image_7 (by decide) ?_
  refine q_ai (wr := [(q, oC11 0 q_tape_ q_length q_size q_p q_limit q_s_ q_h_ q_read_ q_names_ q_reserved_ q_token q_at q_span q_number q_fault q_faultAt q_word q_got q_lines q_onces q_webs q_one q_two q_seed q_undone_ q_before_ q_undoMany q_far_ q_wayRow_ q_wayMany q_keptRow_ q_askedRow_ q_rares_ q_trial_ q_keptMany q_askedMany q_hangs_ q_paths_ q_tornSteps q_hasTorn q_turnOne q_hasTurn q_text_ q_textMany q_toldMany q_toldAt_ q_hasTold q_stack_ q_codes q_ones q_top q_deep q_isWhole q_truths_ q_imaged_ q_namesKept_ q_areKept_), (q_s_, aC1 cy 383 q_s), (q_names_, aC2 cy 16 q_names), (q_imaged_, aC1 cy 766 q_imaged), (q_namesKept_, aC2 cy 16 q_namesKept), (q_areKept_, aC3 cy 2 q_areKept)]) (r_S (rm := (Rm 0 0 0 0)) (As := [.int 0, .int 0, .int 1]) (rest := []) (wc := []) C hS (q_subP hP [] rfl) (hD.sub [] (by decide) rfl) (y_isIn l D cy 0 0 1 _ ) kwS_X11_isIn kM_RX11_206 ⟨Nat.le_of_ble_eq_true rfl, Nat.le_of_ble_eq_true rfl⟩ rfl hl.1 rfl (Nat.le_of_ble_eq_true rfl) dX11_image_8 ⟨hroom.1, hroom.2⟩) C.2.2.2.2.2.2.1 hP hD hS [] [0, 1, 2, 3, 4, 5] rfl rfl (by decide) (by decide) (fun r_2 u_1 H locs hw_3 hP hD hS => ?_)
  have hp_3 : 0 ≤ r_2.toInt ∧ r_2.toInt ≤ 1 := hw_3.1
  have hp_4 : (0 ≤ r_2.toInt + (-1)) → (0 ≤ 0 ∧ 0 ≤ 1) := by have e0 : (0 : Int32).toInt = 0 := (by decide); have e1 : (1 : Int32).toInt = 1 := (by decide); have h0 : (0 ≤ r_2.toInt + (-1)) → (0 ≤ (0 : Int32).toInt + (-1) * (0 : Int32).toInt ∧ 0 ≤ (1 : Int32).toInt + (-1) * (0 : Int32).toInt) := hw_3.2.1; omega
  have hp_5 : (0 ≤ 0 ∧ 0 ≤ 1) → (0 ≤ r_2.toInt + (-1)) := by have e0 : (0 : Int32).toInt = 0 := (by decide); have e1 : (1 : Int32).toInt = 1 := (by decide); have h0 : (0 ≤ (0 : Int32).toInt + (-1) * (0 : Int32).toInt ∧ 0 ≤ (1 : Int32).toInt + (-1) * (0 : Int32).toInt) → (0 ≤ r_2.toInt + (-1)) := hw_3.2.2; omega
  have hp_5 := hp_5 (by omega)
  have hp_4 := hp_4 (by omega)
  clear hw_3
  refine lv_if_ne (tgt := 16) hx hb dX11_image_11 (by decide) (fun _ => ?_) (fun c_0 => absurd c_0 (o_mne (rfl : r_2.toInt = r_2.toInt) (by decide : (0 : Int32).toInt = 0) (by omega)))
  have hq_6 : Cp q_s q_imaged q_imaged 0 (0 : Int32).toInt := Cp.zero (by decide)
  refine lv_iconst (v := 0) hx hb dX11_image_16 (by decide) ?_
  refine lv_istore_n (lv' := [(2, .int 0), (0, .ref q), (1, .int 0)]) hx hb dX11_image_17 rfl hl (by decide) rfl (fun ls hl => ?_)
  have lp_18_9 : ∀ (n_10 : Nat) (x_8 : Int32) (g_9 : Nat → Int32) (H : Heap) (locs : List Loc) (ls : Array Slot), (-1) * x_8.toInt + 383 < (n_10 : Int) → (0 ≤ x_8.toInt ∧ x_8.toInt ≤ 383) → (Cp q_s g_9 q_imaged 0 x_8.toInt) → va_P D vwCl [(q, oC11 0 q_tape_ q_length q_size q_p q_limit q_s_ q_h_ q_read_ q_names_ q_reserved_ q_token q_at q_span q_number q_fault q_faultAt q_word q_got q_lines q_onces q_webs q_one q_two q_seed q_undone_ q_before_ q_undoMany q_far_ q_wayRow_ q_wayMany q_keptRow_ q_askedRow_ q_rares_ q_trial_ q_keptMany q_askedMany q_hangs_ q_paths_ q_tornSteps q_hasTorn q_turnOne q_hasTurn q_text_ q_textMany q_toldMany q_toldAt_ q_hasTold q_stack_ q_codes q_ones q_top q_deep q_isWhole q_truths_ q_imaged_ q_namesKept_ q_areKept_), (q_s_, aC1 cy 383 q_s), (q_names_, aC2 cy 16 q_names), (q_imaged_, aC1 cy 766 g_9), (q_namesKept_, aC2 cy 16 q_namesKept), (q_areKept_, aC3 cy 2 q_areKept)] H → va_D A [(q, oC11 0 q_tape_ q_length q_size q_p q_limit q_s_ q_h_ q_read_ q_names_ q_reserved_ q_token q_at q_span q_number q_fault q_faultAt q_word q_got q_lines q_onces q_webs q_one q_two q_seed q_undone_ q_before_ q_undoMany q_far_ q_wayRow_ q_wayMany q_keptRow_ q_askedRow_ q_rares_ q_trial_ q_keptMany q_askedMany q_hangs_ q_paths_ q_tornSteps q_hasTorn q_turnOne q_hasTurn q_text_ q_textMany q_toldMany q_toldAt_ q_hasTold q_stack_ q_codes q_ones q_top q_deep q_isWhole q_truths_ q_imaged_ q_namesKept_ q_areKept_), (q_s_, aC1 cy 383 q_s), (q_names_, aC2 cy 16 q_names), (q_imaged_, aC1 cy 766 g_9), (q_namesKept_, aC2 cy 16 q_namesKept), (q_areKept_, aC3 cy 2 q_areKept)] → va_S A s.heap H locs → lv_has ls 3 [(0, .ref q), (1, .int 0), (2, .int x_8)] → W p l e (Rm 1 22 0 0) s m args below meth c H locs cells slots Q (F0 m 18 ls []) := by
    intro n_10
    induction n_10 with
    | zero =>
      intro x_8 g_9 H locs ls hm_13 hf_11 hf_12 hP hD hS hl
      exact absurd hm_13 (by omega)
    | succ n_10 ih_14 =>
      intro x_8 g_9 H locs ls hm_13 hf_11 hf_12 hP hD hS hl
      refine lv_iload_n hx hb dX11_image_18 rfl (lv_at hl 2 rfl) ?_
      refine lv_sipush (v := 383) hx hb dX11_image_19 (by decide) ?_
      refine lv_icmp_ge (tgt := 49) hx hb dX11_image_22 (by decide) (fun c_16 => ?_) (fun c_16 => ?_)
      · have hc_16 := o_le (by decide : (383 : Int32).toInt = 383) (rfl : x_8.toInt = x_8.toInt) c_16
        refine lv_iconst (v := 0) hx hb dX11_image_49 (by decide) ?_
        refine lv_istore_n (lv' := [(2, .int 0), (0, .ref q), (1, .int 0)]) hx hb dX11_image_50 rfl hl (by decide) rfl (fun ls hl => ?_)
        have lp_51_18 : ∀ (n_19 : Nat) (x_17 : Int32) (g_18 : Nat → Int64) (H : Heap) (locs : List Loc) (ls : Array Slot), (-1) * x_17.toInt + 8 < (n_19 : Int) → (0 ≤ x_17.toInt ∧ x_17.toInt ≤ 8) → (Cq q_names g_18 q_namesKept 0 x_17.toInt) → va_P D vwCl [(q, oC11 0 q_tape_ q_length q_size q_p q_limit q_s_ q_h_ q_read_ q_names_ q_reserved_ q_token q_at q_span q_number q_fault q_faultAt q_word q_got q_lines q_onces q_webs q_one q_two q_seed q_undone_ q_before_ q_undoMany q_far_ q_wayRow_ q_wayMany q_keptRow_ q_askedRow_ q_rares_ q_trial_ q_keptMany q_askedMany q_hangs_ q_paths_ q_tornSteps q_hasTorn q_turnOne q_hasTurn q_text_ q_textMany q_toldMany q_toldAt_ q_hasTold q_stack_ q_codes q_ones q_top q_deep q_isWhole q_truths_ q_imaged_ q_namesKept_ q_areKept_), (q_s_, aC1 cy 383 q_s), (q_names_, aC2 cy 16 q_names), (q_imaged_, aC1 cy 766 g_9), (q_namesKept_, aC2 cy 16 g_18), (q_areKept_, aC3 cy 2 q_areKept)] H → va_D A [(q, oC11 0 q_tape_ q_length q_size q_p q_limit q_s_ q_h_ q_read_ q_names_ q_reserved_ q_token q_at q_span q_number q_fault q_faultAt q_word q_got q_lines q_onces q_webs q_one q_two q_seed q_undone_ q_before_ q_undoMany q_far_ q_wayRow_ q_wayMany q_keptRow_ q_askedRow_ q_rares_ q_trial_ q_keptMany q_askedMany q_hangs_ q_paths_ q_tornSteps q_hasTorn q_turnOne q_hasTurn q_text_ q_textMany q_toldMany q_toldAt_ q_hasTold q_stack_ q_codes q_ones q_top q_deep q_isWhole q_truths_ q_imaged_ q_namesKept_ q_areKept_), (q_s_, aC1 cy 383 q_s), (q_names_, aC2 cy 16 q_names), (q_imaged_, aC1 cy 766 g_9), (q_namesKept_, aC2 cy 16 g_18), (q_areKept_, aC3 cy 2 q_areKept)] → va_S A s.heap H locs → lv_has ls 3 [(0, .ref q), (1, .int 0), (2, .int x_17)] → W p l e (Rm 1 22 0 0) s m args below meth c H locs cells slots Q (F0 m 51 ls []) := by
          intro n_19
          induction n_19 with
          | zero =>
            intro x_17 g_18 H locs ls hm_22 hf_20 hf_21 hP hD hS hl
            exact absurd hm_22 (by omega)
          | succ n_19 ih_23 =>
            intro x_17 g_18 H locs ls hm_22 hf_20 hf_21 hP hD hS hl
            refine lv_iload_n hx hb dX11_image_51 rfl (lv_at hl 2 rfl) ?_
            refine lv_bipush (v := 8) hx hb dX11_image_52 (by decide) ?_
            refine lv_icmp_ge (tgt := 80) hx hb dX11_image_54 (by decide) (fun c_25 => ?_) (fun c_25 => ?_)
            · have hc_25 := o_le (by decide : (8 : Int32).toInt = 8) (rfl : x_17.toInt = x_17.toInt) c_25
              refine lv_aload_n hx hb dX11_image_80 rfl (lv_at hl 0 rfl) ?_
              refine q_get11 (v := .ref q_areKept_) C hP 0 57 rfl fT_57 (by decide) kF_RX11_108 rfl dX11_image_81 ?_
              refine lv_iload_n hx hb dX11_image_84 rfl (lv_at hl 1 rfl) ?_
              refine lv_iconst (v := 1) hx hb dX11_image_85 (by decide) ?_
              refine q_bastZ (g := upd q_areKept 0 (vp_nar .boolean 1)) (w' := [(q, oC11 0 q_tape_ q_length q_size q_p q_limit q_s_ q_h_ q_read_ q_names_ q_reserved_ q_token q_at q_span q_number q_fault q_faultAt q_word q_got q_lines q_onces q_webs q_one q_two q_seed q_undone_ q_before_ q_undoMany q_far_ q_wayRow_ q_wayMany q_keptRow_ q_askedRow_ q_rares_ q_trial_ q_keptMany q_askedMany q_hangs_ q_paths_ q_tornSteps q_hasTorn q_turnOne q_hasTurn q_text_ q_textMany q_toldMany q_toldAt_ q_hasTold q_stack_ q_codes q_ones q_top q_deep q_isWhole q_truths_ q_imaged_ q_namesKept_ q_areKept_), (q_s_, aC1 cy 383 q_s), (q_names_, aC2 cy 16 q_names), (q_imaged_, aC1 cy 766 g_9), (q_namesKept_, aC2 cy 16 g_18), (q_areKept_, aC3 cy 2 (upd q_areKept 0 (vp_nar .boolean 1)))]) C hP hD hS 5 rfl (vin (by decide +kernel)) rfl rfl dX11_image_86 (fun H locs hP hD hS => ?_)
              have Rg_26_0 := Rg.upd_in (k := 0) (v := vp_nar .boolean 1) hR10 (o_nz _).1 (o_nz _).2
              have hq_28 : (upd q_areKept 0 (vp_nar .boolean 1)) 1 = q_areKept 1 := by simp [upd]
              have hq_27 : ((upd q_areKept 0 (vp_nar .boolean 1)) 0).toInt = 1 := by simp only [upd, if_pos]; exact nar1
              have hq_26 : Im g_9 (upd q_areKept 0 (vp_nar .boolean 1)) := Im.put0 hX0 (show SR q_s from ⟨hR0, hR1, hR2, hR3, hR4, hR5, hR6, hR7, hR8, hR9⟩) hf_12 (by omega) hq_28
              generalize upd q_areKept 0 (vp_nar .boolean 1) = g_26 at hP hD Rg_26_0 hq_26 hq_27 hq_28
              have hP : va_P D vwCl [(q, oC11 0 q_tape_ q_length q_size q_p q_limit q_s_ q_h_ q_read_ q_names_ q_reserved_ q_token q_at q_span q_number q_fault q_faultAt q_word q_got q_lines q_onces q_webs q_one q_two q_seed q_undone_ q_before_ q_undoMany q_far_ q_wayRow_ q_wayMany q_keptRow_ q_askedRow_ q_rares_ q_trial_ q_keptMany q_askedMany q_hangs_ q_paths_ q_tornSteps q_hasTorn q_turnOne q_hasTurn q_text_ q_textMany q_toldMany q_toldAt_ q_hasTold q_stack_ q_codes q_ones q_top q_deep q_isWhole q_truths_ q_imaged_ q_namesKept_ q_areKept_), (q_s_, aC1 cy 383 q_s), (q_names_, aC2 cy 16 q_names), (q_imaged_, aC1 cy 766 g_9), (q_namesKept_, aC2 cy 16 g_18), (q_areKept_, aC3 cy 2 g_26)] H := hP
              have hD : va_D A [(q, oC11 0 q_tape_ q_length q_size q_p q_limit q_s_ q_h_ q_read_ q_names_ q_reserved_ q_token q_at q_span q_number q_fault q_faultAt q_word q_got q_lines q_onces q_webs q_one q_two q_seed q_undone_ q_before_ q_undoMany q_far_ q_wayRow_ q_wayMany q_keptRow_ q_askedRow_ q_rares_ q_trial_ q_keptMany q_askedMany q_hangs_ q_paths_ q_tornSteps q_hasTorn q_turnOne q_hasTurn q_text_ q_textMany q_toldMany q_toldAt_ q_hasTold q_stack_ q_codes q_ones q_top q_deep q_isWhole q_truths_ q_imaged_ q_namesKept_ q_areKept_), (q_s_, aC1 cy 383 q_s), (q_names_, aC2 cy 16 q_names), (q_imaged_, aC1 cy 766 g_9), (q_namesKept_, aC2 cy 16 g_18), (q_areKept_, aC3 cy 2 g_26)] := hD
              refine lv_iconst (v := 1) hx hb dX11_image_87 (by decide) ?_
              refine o_wq hQ ?_
              exact q_iret (rm := (Rm 1 22 0 0)) C hS (0, g_9, g_18, g_26) rfl ⟨(show 1 ≤ (1 : Int32).toInt ∧ (1 : Int32).toInt ≤ 1 by decide), Rg_26_0, hq_26, hq_27, hq_28, (show Cp q_s g_9 q_imaged 0 383 from (Cp.cast hf_12 (by omega))), (show Cq q_names g_18 q_namesKept 0 8 from (Cq.cast hf_21 (by omega)))⟩ (q_subP hP [0, 1, 2, 3, 4, 5] rfl) (hD.sub [0, 1, 2, 3, 4, 5] (by decide) rfl) hroom.1 hroom.2 dX11_image_88
            · have hc_25 := o_nle (by decide : (8 : Int32).toInt = 8) (rfl : x_17.toInt = x_17.toInt) c_25
              refine lv_aload_n hx hb dX11_image_57 rfl (lv_at hl 0 rfl) ?_
              refine q_get11 (v := .ref q_namesKept_) C hP 0 56 rfl fT_56 (by decide) kF_RX11_105 rfl dX11_image_58 ?_
              refine lv_bipush (v := 8) hx hb dX11_image_61 (by decide) ?_
              refine lv_iload_n hx hb dX11_image_63 rfl (lv_at hl 1 rfl) ?_
              refine lv_imul hx hb dX11_image_64 ?_
              refine q_val (v := 0) (by decide) ?_
              refine lv_iload_n hx hb dX11_image_65 rfl (lv_at hl 2 rfl) ?_
              refine lv_iadd hx hb dX11_image_66 ?_
              refine lv_topi (fun z_30 hz_30 => ?_)
              have hz_30 := o_add hz_30 (by decide : (0 : Int32).toInt = 0) (rfl : x_17.toInt = x_17.toInt) (by omega) (by omega)
              refine lv_aload_n hx hb dX11_image_67 rfl (lv_at hl 0 rfl) ?_
              refine q_get11 (v := .ref q_names_) C hP 0 9 rfl fT_9 (by decide) kF_RX11_43 rfl dX11_image_68 ?_
              refine lv_iload_n hx hb dX11_image_71 rfl (lv_at hl 2 rfl) ?_
              refine q_lald (v := q_names x_17.toNatClampNeg) C hP 2 rfl (o_in (rfl : x_17.toInt = x_17.toInt) (by omega) (by omega)) rfl dX11_image_72 ?_
              refine lv_topl (fun y_31 hy_31 => ?_)
              refine q_last (g := vp_updL g_18 z_30.toNatClampNeg y_31) (w' := [(q, oC11 0 q_tape_ q_length q_size q_p q_limit q_s_ q_h_ q_read_ q_names_ q_reserved_ q_token q_at q_span q_number q_fault q_faultAt q_word q_got q_lines q_onces q_webs q_one q_two q_seed q_undone_ q_before_ q_undoMany q_far_ q_wayRow_ q_wayMany q_keptRow_ q_askedRow_ q_rares_ q_trial_ q_keptMany q_askedMany q_hangs_ q_paths_ q_tornSteps q_hasTorn q_turnOne q_hasTurn q_text_ q_textMany q_toldMany q_toldAt_ q_hasTold q_stack_ q_codes q_ones q_top q_deep q_isWhole q_truths_ q_imaged_ q_namesKept_ q_areKept_), (q_s_, aC1 cy 383 q_s), (q_names_, aC2 cy 16 q_names), (q_imaged_, aC1 cy 766 g_9), (q_namesKept_, aC2 cy 16 (vp_updL g_18 z_30.toNatClampNeg y_31)), (q_areKept_, aC3 cy 2 q_areKept)]) C hP hD hS 4 rfl (o_in (rfl : z_30.toInt = z_30.toInt) (by omega) (by omega)) rfl rfl dX11_image_73 (fun H locs hP hD hS => ?_)
              generalize hlg_32 : vp_updL g_18 z_30.toNatClampNeg y_31 = g_32 at hP hD
              have hP : va_P D vwCl [(q, oC11 0 q_tape_ q_length q_size q_p q_limit q_s_ q_h_ q_read_ q_names_ q_reserved_ q_token q_at q_span q_number q_fault q_faultAt q_word q_got q_lines q_onces q_webs q_one q_two q_seed q_undone_ q_before_ q_undoMany q_far_ q_wayRow_ q_wayMany q_keptRow_ q_askedRow_ q_rares_ q_trial_ q_keptMany q_askedMany q_hangs_ q_paths_ q_tornSteps q_hasTorn q_turnOne q_hasTurn q_text_ q_textMany q_toldMany q_toldAt_ q_hasTold q_stack_ q_codes q_ones q_top q_deep q_isWhole q_truths_ q_imaged_ q_namesKept_ q_areKept_), (q_s_, aC1 cy 383 q_s), (q_names_, aC2 cy 16 q_names), (q_imaged_, aC1 cy 766 g_9), (q_namesKept_, aC2 cy 16 g_32), (q_areKept_, aC3 cy 2 q_areKept)] H := hP
              have hD : va_D A [(q, oC11 0 q_tape_ q_length q_size q_p q_limit q_s_ q_h_ q_read_ q_names_ q_reserved_ q_token q_at q_span q_number q_fault q_faultAt q_word q_got q_lines q_onces q_webs q_one q_two q_seed q_undone_ q_before_ q_undoMany q_far_ q_wayRow_ q_wayMany q_keptRow_ q_askedRow_ q_rares_ q_trial_ q_keptMany q_askedMany q_hangs_ q_paths_ q_tornSteps q_hasTorn q_turnOne q_hasTurn q_text_ q_textMany q_toldMany q_toldAt_ q_hasTold q_stack_ q_codes q_ones q_top q_deep q_isWhole q_truths_ q_imaged_ q_namesKept_ q_areKept_), (q_s_, aC1 cy 383 q_s), (q_names_, aC2 cy 16 q_names), (q_imaged_, aC1 cy 766 g_9), (q_namesKept_, aC2 cy 16 g_32), (q_areKept_, aC3 cy 2 q_areKept)] := hD
              have hq_32 : Cq q_names g_32 q_namesKept 0 (x_17.toInt + 1) := Cq.step (i := x_17) (x := z_30) hf_21 (by omega) (by omega) hy_31 (by omega) hlg_32 rfl
              obtain ⟨z_34, hz_34⟩ : ∃ z : Int32, z = x_17 + 1 := ⟨_, rfl⟩
              refine lv_iinc (v := z_34) (lv' := [(2, .int z_34), (0, .ref q), (1, .int 0)]) hx hb dX11_image_74 hl (k := 2) rfl hz_34.symm (by decide) rfl (fun ls hl => ?_)
              have hz_34 := o_add hz_34 (rfl : x_17.toInt = x_17.toInt) (by decide : (1 : Int32).toInt = 1) (by omega) (by omega)
              have hq_34 : Cq q_names g_32 q_namesKept 0 z_34.toInt := Cq.cast hq_32 (by omega)
              refine lv_goto (tgt := 51) hx hb dX11_image_77 (by decide) ?_
              exact ih_23 z_34 g_32 H locs ls (by omega) (by omega) hq_34 hP hD hS (lv_sub hl [1, 2, 0] rfl)
        exact lp_51_18 9 (0 : Int32) q_namesKept H locs ls (by have e0 : (0 : Int32).toInt = 0 := (by decide); omega) (by have e0 : (0 : Int32).toInt = 0 := (by decide); omega) (Cq.zero (by decide)) hP hD hS (lv_sub hl [1, 2, 0] rfl)
      · have hc_16 := o_nle (by decide : (383 : Int32).toInt = 383) (rfl : x_8.toInt = x_8.toInt) c_16
        refine lv_aload_n hx hb dX11_image_25 rfl (lv_at hl 0 rfl) ?_
        refine q_get11 (v := .ref q_imaged_) C hP 0 55 rfl fT_55 (by decide) kF_RX11_102 rfl dX11_image_26 ?_
        refine lv_sipush (v := 383) hx hb dX11_image_29 (by decide) ?_
        refine lv_iload_n hx hb dX11_image_32 rfl (lv_at hl 1 rfl) ?_
        refine lv_imul hx hb dX11_image_33 ?_
        refine q_val (v := 0) (by decide) ?_
        refine lv_iload_n hx hb dX11_image_34 rfl (lv_at hl 2 rfl) ?_
        refine lv_iadd hx hb dX11_image_35 ?_
        refine lv_topi (fun z_36 hz_36 => ?_)
        have hz_36 := o_add hz_36 (by decide : (0 : Int32).toInt = 0) (rfl : x_8.toInt = x_8.toInt) (by omega) (by omega)
        refine lv_aload_n hx hb dX11_image_36 rfl (lv_at hl 0 rfl) ?_
        refine q_get11 (v := .ref q_s_) C hP 0 6 rfl fT_6 (by decide) kF_RX11_33 rfl dX11_image_37 ?_
        refine lv_iload_n hx hb dX11_image_40 rfl (lv_at hl 2 rfl) ?_
        refine q_iald (v := q_s x_8.toNatClampNeg) C hP 1 rfl (o_in (rfl : x_8.toInt = x_8.toInt) (by omega) (by omega)) rfl dX11_image_41 ?_
        refine lv_topi (fun z_37 ez_37 => ?_)
        refine q_iast (g := upd g_9 z_36.toNatClampNeg z_37) (w' := [(q, oC11 0 q_tape_ q_length q_size q_p q_limit q_s_ q_h_ q_read_ q_names_ q_reserved_ q_token q_at q_span q_number q_fault q_faultAt q_word q_got q_lines q_onces q_webs q_one q_two q_seed q_undone_ q_before_ q_undoMany q_far_ q_wayRow_ q_wayMany q_keptRow_ q_askedRow_ q_rares_ q_trial_ q_keptMany q_askedMany q_hangs_ q_paths_ q_tornSteps q_hasTorn q_turnOne q_hasTurn q_text_ q_textMany q_toldMany q_toldAt_ q_hasTold q_stack_ q_codes q_ones q_top q_deep q_isWhole q_truths_ q_imaged_ q_namesKept_ q_areKept_), (q_s_, aC1 cy 383 q_s), (q_names_, aC2 cy 16 q_names), (q_imaged_, aC1 cy 766 (upd g_9 z_36.toNatClampNeg z_37)), (q_namesKept_, aC2 cy 16 q_namesKept), (q_areKept_, aC3 cy 2 q_areKept)]) C hP hD hS 3 rfl (o_in (rfl : z_36.toInt = z_36.toInt) (by omega) (by omega)) rfl rfl dX11_image_42 (fun H locs hP hD hS => ?_)
        have hq_38 : Cp q_s (upd g_9 z_36.toNatClampNeg z_37) q_imaged 0 (x_8.toInt + 1) := Cp.step (i := x_8) hf_12 (by omega) (by omega) ez_37 (by omega) rfl
        generalize upd g_9 z_36.toNatClampNeg z_37 = g_38 at hP hD hq_38
        have hP : va_P D vwCl [(q, oC11 0 q_tape_ q_length q_size q_p q_limit q_s_ q_h_ q_read_ q_names_ q_reserved_ q_token q_at q_span q_number q_fault q_faultAt q_word q_got q_lines q_onces q_webs q_one q_two q_seed q_undone_ q_before_ q_undoMany q_far_ q_wayRow_ q_wayMany q_keptRow_ q_askedRow_ q_rares_ q_trial_ q_keptMany q_askedMany q_hangs_ q_paths_ q_tornSteps q_hasTorn q_turnOne q_hasTurn q_text_ q_textMany q_toldMany q_toldAt_ q_hasTold q_stack_ q_codes q_ones q_top q_deep q_isWhole q_truths_ q_imaged_ q_namesKept_ q_areKept_), (q_s_, aC1 cy 383 q_s), (q_names_, aC2 cy 16 q_names), (q_imaged_, aC1 cy 766 g_38), (q_namesKept_, aC2 cy 16 q_namesKept), (q_areKept_, aC3 cy 2 q_areKept)] H := hP
        have hD : va_D A [(q, oC11 0 q_tape_ q_length q_size q_p q_limit q_s_ q_h_ q_read_ q_names_ q_reserved_ q_token q_at q_span q_number q_fault q_faultAt q_word q_got q_lines q_onces q_webs q_one q_two q_seed q_undone_ q_before_ q_undoMany q_far_ q_wayRow_ q_wayMany q_keptRow_ q_askedRow_ q_rares_ q_trial_ q_keptMany q_askedMany q_hangs_ q_paths_ q_tornSteps q_hasTorn q_turnOne q_hasTurn q_text_ q_textMany q_toldMany q_toldAt_ q_hasTold q_stack_ q_codes q_ones q_top q_deep q_isWhole q_truths_ q_imaged_ q_namesKept_ q_areKept_), (q_s_, aC1 cy 383 q_s), (q_names_, aC2 cy 16 q_names), (q_imaged_, aC1 cy 766 g_38), (q_namesKept_, aC2 cy 16 q_namesKept), (q_areKept_, aC3 cy 2 q_areKept)] := hD
        obtain ⟨z_40, hz_40⟩ : ∃ z : Int32, z = x_8 + 1 := ⟨_, rfl⟩
        refine lv_iinc (v := z_40) (lv' := [(2, .int z_40), (0, .ref q), (1, .int 0)]) hx hb dX11_image_43 hl (k := 2) rfl hz_40.symm (by decide) rfl (fun ls hl => ?_)
        have hz_40 := o_add hz_40 (rfl : x_8.toInt = x_8.toInt) (by decide : (1 : Int32).toInt = 1) (by omega) (by omega)
        have hq_40 : Cp q_s g_38 q_imaged 0 z_40.toInt := Cp.cast hq_38 (by omega)
        refine lv_goto (tgt := 18) hx hb dX11_image_46 (by decide) ?_
        exact ih_14 z_40 g_38 H locs ls (by omega) (by omega) hq_40 hP hD hS (lv_sub hl [1, 2, 0] rfl)
  exact lp_18_9 384 (0 : Int32) q_imaged H locs ls (by have e0 : (0 : Int32).toInt = 0 := (by decide); omega) (by have e0 : (0 : Int32).toInt = 0 := (by decide); omega) hq_6 hP hD hS (lv_sub hl [1, 2, 0] rfl)
theorem y_image0 (l : Launch) (D : va_G) (cy : Nat → ClassId) (q : Nat) (q_thrown : Int32) (q_tape_ : Nat) (q_length : Int32) (q_size : Int32) (q_p : Int32) (q_limit : Int32) (q_s_ : Nat) (q_h_ : Nat) (q_read_ : Nat) (q_names_ : Nat) (q_reserved_ : Nat) (q_token : Int32) (q_at : Int32) (q_span : Int32) (q_number : Int32) (q_fault : Int32) (q_faultAt : Int32) (q_word : Int64) (q_got : Int32) (q_lines : Int32) (q_onces : Int32) (q_webs : Int32) (q_one : Int32) (q_two : Int32) (q_seed : Int32) (q_undone_ : Nat) (q_before_ : Nat) (q_undoMany : Int32) (q_far_ : Nat) (q_wayRow_ : Nat) (q_wayMany : Int32) (q_keptRow_ : Nat) (q_askedRow_ : Nat) (q_rares_ : Nat) (q_trial_ : Nat) (q_keptMany : Int32) (q_askedMany : Int32) (q_hangs_ : Nat) (q_paths_ : Nat) (q_tornSteps : Int32) (q_hasTorn : Int32) (q_turnOne : Int32) (q_hasTurn : Int32) (q_text_ : Nat) (q_textMany : Int32) (q_toldMany : Int32) (q_toldAt_ : Nat) (q_hasTold : Int32) (q_stack_ : Nat) (q_codes : Int32) (q_ones : Int32) (q_top : Int32) (q_deep : Int32) (q_isWhole : Int32) (q_truths_ : Nat) (q_imaged_ : Nat) (q_namesKept_ : Nat) (q_areKept_ : Nat) (q_s : Nat → Int32) (q_names : Nat → Int64) (q_imaged : Nat → Int32) (q_namesKept : Nat → Int64) (q_areKept : Nat → Int32) (sz : Nat) (hb0 : 0 ≤ q_length.toInt ∧ q_length.toInt ≤ 940) (hb1 : 0 ≤ q_size.toInt ∧ q_size.toInt ≤ 940) (hb2 : 0 ≤ q_p.toInt ∧ q_p.toInt ≤ 940) (hb3 : 0 ≤ q_limit.toInt ∧ q_limit.toInt ≤ 940) (hb4 : 0 ≤ q_span.toInt ∧ q_span.toInt ≤ 940) (hb5 : 0 ≤ q_number.toInt ∧ q_number.toInt ≤ 8214) (hb6 : (-1) ≤ q_got.toInt ∧ q_got.toInt ≤ 8214) (hb7 : 0 ≤ q_one.toInt ∧ q_one.toInt ≤ 7) (hb8 : 0 ≤ q_two.toInt ∧ q_two.toInt ≤ 7) (hb9 : 0 ≤ q_undoMany.toInt ∧ q_undoMany.toInt ≤ 8) (hb10 : (-1) ≤ q_wayMany.toInt ∧ q_wayMany.toInt ≤ 8) (hb11 : (-1) ≤ q_keptMany.toInt ∧ q_keptMany.toInt ≤ 8) (hb12 : (-1) ≤ q_askedMany.toInt ∧ q_askedMany.toInt ≤ 3) (hb13 : 0 ≤ q_hasTorn.toInt ∧ q_hasTorn.toInt ≤ 1) (hb14 : 0 ≤ q_hasTurn.toInt ∧ q_hasTurn.toInt ≤ 1) (hb15 : 0 ≤ q_textMany.toInt ∧ q_textMany.toInt ≤ 48) (hb16 : 0 ≤ q_toldMany.toInt ∧ q_toldMany.toInt ≤ 40) (hb17 : 0 ≤ q_hasTold.toInt ∧ q_hasTold.toInt ≤ 1) (hb18 : 0 ≤ q_codes.toInt ∧ q_codes.toInt ≤ 40) (hb19 : 0 ≤ q_ones.toInt ∧ q_ones.toInt ≤ 20) (hb20 : 0 ≤ q_top.toInt ∧ q_top.toInt ≤ 40) (hb21 : 0 ≤ q_isWhole.toInt ∧ q_isWhole.toInt ≤ 1) (hR0 : Rg q_s 0 1 0 8) (hR1 : Rg q_s 1 3 0 6) (hR2 : Rg q_s 3 4 1 50) (hR3 : Rg q_s 4 5 1 5) (hR4 : Rg q_s 103 104 0 255) (hR5 : Rg q_s 7 23 0 5) (hR6 : Rg q_s 106 122 0 5) (hR7 : Rg q_s 23 31 0 99) (hR8 : Rg q_s 122 130 0 99) (hR9 : Sv q_s) (hR10 : Rg q_areKept 0 2 0 1) (hX0 : Im q_imaged q_areKept) : MI l yX11_image cX11_image 3 (some .boolean) (Rm 1 22 0 0) D cy [.ref q, .int 0] sz [(q, oC11 q_thrown q_tape_ q_length q_size q_p q_limit q_s_ q_h_ q_read_ q_names_ q_reserved_ q_token q_at q_span q_number q_fault q_faultAt q_word q_got q_lines q_onces q_webs q_one q_two q_seed q_undone_ q_before_ q_undoMany q_far_ q_wayRow_ q_wayMany q_keptRow_ q_askedRow_ q_rares_ q_trial_ q_keptMany q_askedMany q_hangs_ q_paths_ q_tornSteps q_hasTorn q_turnOne q_hasTurn q_text_ q_textMany q_toldMany q_toldAt_ q_hasTold q_stack_ q_codes q_ones q_top q_deep q_isWhole q_truths_ q_imaged_ q_namesKept_ q_areKept_), (q_s_, aC1 cy 383 q_s), (q_names_, aC2 cy 16 q_names), (q_imaged_, aC1 cy 766 q_imaged), (q_namesKept_, aC2 cy 16 q_namesKept), (q_areKept_, aC3 cy 2 q_areKept)] (fun (r : Int32) (u : Int32 × (Nat → Int32) × (Nat → Int64) × (Nat → Int32)) => (1 ≤ r.toInt ∧ r.toInt ≤ 1) ∧ (Rg u.2.2.2 0 2 0 1) ∧ (Im u.2.1 u.2.2.2) ∧ ((u.2.2.2 0).toInt = 1) ∧ (u.2.2.2 1 = q_areKept 1) ∧ (Cp q_s u.2.1 q_imaged 0 383) ∧ (Cq q_names u.2.2.1 q_namesKept 0 8)) (fun u : Int32 × (Nat → Int32) × (Nat → Int64) × (Nat → Int32) => [(q, oC11 u.1 q_tape_ q_length q_size q_p q_limit q_s_ q_h_ q_read_ q_names_ q_reserved_ q_token q_at q_span q_number q_fault q_faultAt q_word q_got q_lines q_onces q_webs q_one q_two q_seed q_undone_ q_before_ q_undoMany q_far_ q_wayRow_ q_wayMany q_keptRow_ q_askedRow_ q_rares_ q_trial_ q_keptMany q_askedMany q_hangs_ q_paths_ q_tornSteps q_hasTorn q_turnOne q_hasTurn q_text_ q_textMany q_toldMany q_toldAt_ q_hasTold q_stack_ q_codes q_ones q_top q_deep q_isWhole q_truths_ q_imaged_ q_namesKept_ q_areKept_), (q_s_, aC1 cy 383 q_s), (q_names_, aC2 cy 16 q_names), (q_imaged_, aC1 cy 766 u.2.1), (q_namesKept_, aC2 cy 16 u.2.2.1), (q_areKept_, aC3 cy 2 u.2.2.2)]) := by
  refine MI.enter (by decide) (Nat.le_of_ble_eq_true rfl) ?_
  intro p e s m below meth c ls A hsz hAe C hP hD hS hl
  exact b_y_image0 l D cy q q_thrown q_tape_ q_length q_size q_p q_limit q_s_ q_h_ q_read_ q_names_ q_reserved_ q_token q_at q_span q_number q_fault q_faultAt q_word q_got q_lines q_onces q_webs q_one q_two q_seed q_undone_ q_before_ q_undoMany q_far_ q_wayRow_ q_wayMany q_keptRow_ q_askedRow_ q_rares_ q_trial_ q_keptMany q_askedMany q_hangs_ q_paths_ q_tornSteps q_hasTorn q_turnOne q_hasTurn q_text_ q_textMany q_toldMany q_toldAt_ q_hasTold q_stack_ q_codes q_ones q_top q_deep q_isWhole q_truths_ q_imaged_ q_namesKept_ q_areKept_ q_s q_names q_imaged q_namesKept q_areKept hb0 hb1 hb2 hb3 hb4 hb5 hb6 hb7 hb8 hb9 hb10 hb11 hb12 hb13 hb14 hb15 hb16 hb17 hb18 hb19 hb20 hb21 hR0 hR1 hR2 hR3 hR4 hR5 hR6 hR7 hR8 hR9 hR10 hX0 ⟨Nat.le_of_ble_eq_true rfl, Nat.le_of_ble_eq_true rfl⟩ C rfl _ _ ls hP hD hS hl
