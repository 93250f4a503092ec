theorem dX11_feed_0 : decode cX11_feed 0 = .ok (.aload_n 0, 1) := by decide +kernel
theorem dX11_feed_1 : decode cX11_feed 1 = .ok (.iconst 0, 1) := by decide +kernel
theorem dX11_feed_2 : decode cX11_feed 2 = .ok (.putfield 1, 3) := by decide +kernel
theorem kF_RX11_1 : Cond.fieldLink RX11 1 "CobwebLibraryModel" "thrown" "I" ∈ gT := List.mem_filter.mpr ⟨List.mem_of_getElem? (i := 1509) (by decide +kernel), by decide +kernel⟩
theorem dX11_feed_5 : decode cX11_feed 5 = .ok (.aload_n 0, 1) := by decide +kernel
theorem dX11_feed_6 : decode cX11_feed 6 = .ok (.getfield 7, 3) := by decide +kernel
theorem dX11_feed_9 : decode cX11_feed 9 = .ok (.bipush 20, 2) := by decide +kernel
theorem dX11_feed_11 : decode cX11_feed 11 = .ok (.iadd, 1) := by decide +kernel
theorem dX11_feed_12 : decode cX11_feed 12 = .ok (.sipush 940, 3) := by decide +kernel
theorem dX11_feed_15 : decode cX11_feed 15 = .ok (.if_icmp .le 5, 3) := by decide +kernel
theorem dX11_feed_20 : decode cX11_feed 20 = .ok (.aload_n 0, 1) := by decide +kernel
theorem dX11_feed_21 : decode cX11_feed 21 = .ok (.iload_n 1, 1) := by decide +kernel
theorem dX11_feed_22 : decode cX11_feed 22 = .ok (.invokevirtual 10, 3) := by decide +kernel
theorem kwV_X11_four : MwV RX11 yX11_four cX11_four 3 none 1 := ⟨List.mem_filter.mpr ⟨List.mem_of_getElem? (i := 1470) (by decide +kernel), by decide +kernel⟩, List.mem_filter.mpr ⟨List.mem_of_getElem? (i := 1468) (by decide +kernel), by decide +kernel⟩, List.mem_filter.mpr ⟨List.mem_of_getElem? (i := 54) (by decide +kernel), by decide +kernel⟩, List.mem_filter.mpr ⟨List.mem_of_getElem? (i := 139) (by decide +kernel), by decide +kernel⟩, by decide +kernel⟩
theorem kM_RX11_10 : Cond.methodLink RX11 10 yX11_four ∈ gT := List.mem_filter.mpr ⟨List.mem_of_getElem? (i := 1466) (by decide +kernel), by decide +kernel⟩
theorem dX11_feed_25 : decode cX11_feed 25 = .ok (.aload_n 0, 1) := by decide +kernel
theorem dX11_feed_26 : decode cX11_feed 26 = .ok (.iload_n 2, 1) := by decide +kernel
theorem dX11_feed_27 : decode cX11_feed 27 = .ok (.invokevirtual 10, 3) := by decide +kernel
theorem dX11_feed_30 : decode cX11_feed 30 = .ok (.aload_n 0, 1) := by decide +kernel
theorem dX11_feed_31 : decode cX11_feed 31 = .ok (.iload_n 3, 1) := by decide +kernel
theorem dX11_feed_32 : decode cX11_feed 32 = .ok (.invokevirtual 10, 3) := by decide +kernel
theorem dX11_feed_35 : decode cX11_feed 35 = .ok (.aload_n 0, 1) := by decide +kernel
theorem dX11_feed_36 : decode cX11_feed 36 = .ok (.iload 4, 2) := by decide +kernel
theorem dX11_feed_38 : decode cX11_feed 38 = .ok (.invokevirtual 10, 3) := by decide +kernel
theorem dX11_feed_41 : decode cX11_feed 41 = .ok (.aload_n 0, 1) := by decide +kernel
theorem dX11_feed_42 : decode cX11_feed 42 = .ok (.iload 5, 2) := by decide +kernel
theorem dX11_feed_44 : decode cX11_feed 44 = .ok (.invokevirtual 10, 3) := by decide +kernel
theorem dX11_feed_47 : decode cX11_feed 47 = .ok (.aload_n 0, 1) := by decide +kernel
theorem dX11_feed_48 : decode cX11_feed 48 = .ok (.getfield 7, 3) := by decide +kernel
theorem dX11_feed_51 : decode cX11_feed 51 = .ok (.ireturn, 1) := by decide +kernel
theorem dX11_end_0 : decode cX11_end 0 = .ok (.aload_n 0, 1) := by decide +kernel
theorem dX11_end_1 : decode cX11_end 1 = .ok (.iconst 0, 1) := by decide +kernel
theorem dX11_end_2 : decode cX11_end 2 = .ok (.putfield 1, 3) := by decide +kernel
theorem dX11_end_5 : decode cX11_end 5 = .ok (.iload_n 1, 1) := by decide +kernel
theorem dX11_end_6 : decode cX11_end 6 = .ok (.ifCond .lt 11, 3) := by decide +kernel
theorem dX11_end_17 : decode cX11_end 17 = .ok (.iconst 0, 1) := by decide +kernel
theorem dX11_end_18 : decode cX11_end 18 = .ok (.ireturn, 1) := by decide +kernel
theorem dX11_end_9 : decode cX11_end 9 = .ok (.iload_n 1, 1) := by decide +kernel
theorem dX11_end_10 : decode cX11_end 10 = .ok (.aload_n 0, 1) := by decide +kernel
theorem dX11_end_11 : decode cX11_end 11 = .ok (.getfield 7, 3) := by decide +kernel
theorem dX11_end_14 : decode cX11_end 14 = .ok (.if_icmp .le 5, 3) := by decide +kernel
theorem dX11_end_19 : decode cX11_end 19 = .ok (.aload_n 0, 1) := by decide +kernel
theorem dX11_end_20 : decode cX11_end 20 = .ok (.iload_n 1, 1) := by decide +kernel
theorem dX11_end_21 : decode cX11_end 21 = .ok (.putfield 7, 3) := by decide +kernel
theorem dX11_end_24 : decode cX11_end 24 = .ok (.iconst 1, 1) := by decide +kernel
theorem dX11_end_25 : decode cX11_end 25 = .ok (.ireturn, 1) := by decide +kernel
theorem dX11_library_0 : decode cX11_library 0 = .ok (.aload_n 0, 1) := by decide +kernel
theorem dX11_library_1 : decode cX11_library 1 = .ok (.iconst 0, 1) := by decide +kernel
theorem dX11_library_2 : decode cX11_library 2 = .ok (.putfield 1, 3) := by decide +kernel
theorem dX11_library_5 : decode cX11_library 5 = .ok (.aload_n 0, 1) := by decide +kernel
theorem dX11_library_6 : decode cX11_library 6 = .ok (.sipush 900, 3) := by decide +kernel
theorem dX11_library_9 : decode cX11_library 9 = .ok (.invokevirtual 276, 3) := by decide +kernel
theorem kwV_X11_taken : MwV RX11 yX11_taken cX11_taken 2 none 1 := ⟨List.mem_filter.mpr ⟨List.mem_of_getElem? (i := 1693) (by decide +kernel), by decide +kernel⟩, List.mem_filter.mpr ⟨List.mem_of_getElem? (i := 1692) (by decide +kernel), by decide +kernel⟩, List.mem_filter.mpr ⟨List.mem_of_getElem? (i := 56) (by decide +kernel), by decide +kernel⟩, List.mem_filter.mpr ⟨List.mem_of_getElem? (i := 139) (by decide +kernel), by decide +kernel⟩, by decide +kernel⟩
theorem kM_RX11_276 : Cond.methodLink RX11 276 yX11_taken ∈ gT := List.mem_filter.mpr ⟨List.mem_of_getElem? (i := 1690) (by decide +kernel), by decide +kernel⟩
theorem dX11_library_12 : decode cX11_library 12 = .ok (.aload_n 0, 1) := by decide +kernel
theorem dX11_library_13 : decode cX11_library 13 = .ok (.iconst 0, 1) := by decide +kernel
theorem dX11_library_14 : decode cX11_library 14 = .ok (.putfield 191, 3) := by decide +kernel
theorem kF_RX11_191 : Cond.fieldLink RX11 191 "CobwebLibraryModel" "fault" "I" ∈ gT := List.mem_filter.mpr ⟨List.mem_of_getElem? (i := 1524) (by decide +kernel), by decide +kernel⟩
theorem dX11_library_17 : decode cX11_library 17 = .ok (.aload_n 0, 1) := by decide +kernel
theorem dX11_library_18 : decode cX11_library 18 = .ok (.iconst 0, 1) := by decide +kernel
theorem dX11_library_19 : decode cX11_library 19 = .ok (.putfield 279, 3) := by decide +kernel
theorem kF_RX11_279 : Cond.fieldLink RX11 279 "CobwebLibraryModel" "lines" "I" ∈ gT := List.mem_filter.mpr ⟨List.mem_of_getElem? (i := 1528) (by decide +kernel), by decide +kernel⟩
theorem dX11_library_22 : decode cX11_library 22 = .ok (.aload_n 0, 1) := by decide +kernel
theorem dX11_library_23 : decode cX11_library 23 = .ok (.iconst 0, 1) := by decide +kernel
theorem dX11_library_24 : decode cX11_library 24 = .ok (.putfield 228, 3) := by decide +kernel
theorem kF_RX11_228 : Cond.fieldLink RX11 228 "CobwebLibraryModel" "onces" "I" ∈ gT := List.mem_filter.mpr ⟨List.mem_of_getElem? (i := 1529) (by decide +kernel), by decide +kernel⟩
theorem dX11_library_27 : decode cX11_library 27 = .ok (.aload_n 0, 1) := by decide +kernel
theorem dX11_library_28 : decode cX11_library 28 = .ok (.iconst 0, 1) := by decide +kernel
theorem dX11_library_29 : decode cX11_library 29 = .ok (.putfield 261, 3) := by decide +kernel
theorem kF_RX11_261 : Cond.fieldLink RX11 261 "CobwebLibraryModel" "webs" "I" ∈ gT := List.mem_filter.mpr ⟨List.mem_of_getElem? (i := 1530) (by decide +kernel), by decide +kernel⟩
theorem dX11_library_32 : decode cX11_library 32 = .ok (.aload_n 0, 1) := by decide +kernel
theorem dX11_library_33 : decode cX11_library 33 = .ok (.invokevirtual 161, 3) := by decide +kernel
theorem dX11_library_36 : decode cX11_library 36 = .ok (.aload_n 0, 1) := by decide +kernel
theorem dX11_library_37 : decode cX11_library 37 = .ok (.invokevirtual 203, 3) := by decide +kernel
theorem kwV_X11_next : MwV RX11 yX11_next cX11_next 4 none 0 := ⟨List.mem_filter.mpr ⟨List.mem_of_getElem? (i := 1697) (by decide +kernel), by decide +kernel⟩, List.mem_filter.mpr ⟨List.mem_of_getElem? (i := 1696) (by decide +kernel), by decide +kernel⟩, List.mem_filter.mpr ⟨List.mem_of_getElem? (i := 57) (by decide +kernel), by decide +kernel⟩, List.mem_filter.mpr ⟨List.mem_of_getElem? (i := 139) (by decide +kernel), by decide +kernel⟩, by decide +kernel⟩
theorem kM_RX11_203 : Cond.methodLink RX11 203 yX11_next ∈ gT := List.mem_filter.mpr ⟨List.mem_of_getElem? (i := 1694) (by decide +kernel), by decide +kernel⟩
theorem dX11_library_40 : decode cX11_library 40 = .ok (.aload_n 0, 1) := by decide +kernel
theorem dX11_library_41 : decode cX11_library 41 = .ok (.getfield 174, 3) := by decide +kernel
theorem dX11_library_44 : decode cX11_library 44 = .ok (.ifCond .eq 39, 3) := by decide +kernel
theorem dX11_library_83 : decode cX11_library 83 = .ok (.iconst 0, 1) := by decide +kernel
theorem dX11_library_84 : decode cX11_library 84 = .ok (.istore_n 1, 1) := by decide +kernel
theorem dX11_library_85 : decode cX11_library 85 = .ok (.iload_n 1, 1) := by decide +kernel
theorem dX11_library_86 : decode cX11_library 86 = .ok (.sipush 383, 3) := by decide +kernel
theorem dX11_library_89 : decode cX11_library 89 = .ok (.if_icmp .ge 31, 3) := by decide +kernel
theorem dX11_library_92 : decode cX11_library 92 = .ok (.aload_n 0, 1) := by decide +kernel
theorem dX11_library_93 : decode cX11_library 93 = .ok (.getfield 33, 3) := by decide +kernel
theorem dX11_library_96 : decode cX11_library 96 = .ok (.iload_n 1, 1) := by decide +kernel
theorem dX11_library_97 : decode cX11_library 97 = .ok (.iload_n 1, 1) := by decide +kernel
theorem dX11_library_98 : decode cX11_library 98 = .ok (.bipush 104, 2) := by decide +kernel
theorem dX11_library_100 : decode cX11_library 100 = .ok (.if_icmp .ge 12, 3) := by decide +kernel
theorem dX11_library_112 : decode cX11_library 112 = .ok (.iconst 0, 1) := by decide +kernel
theorem dX11_library_113 : decode cX11_library 113 = .ok (.iastore, 1) := by decide +kernel
theorem dX11_library_114 : decode cX11_library 114 = .ok (.iinc 1 1, 3) := by decide +kernel
theorem dX11_library_117 : decode cX11_library 117 = .ok (.goto (-32), 3) := by decide +kernel
theorem dX11_library_103 : decode cX11_library 103 = .ok (.aload_n 0, 1) := by decide +kernel
theorem dX11_library_104 : decode cX11_library 104 = .ok (.getfield 37, 3) := by decide +kernel
theorem dX11_library_107 : decode cX11_library 107 = .ok (.iload_n 1, 1) := by decide +kernel
theorem dX11_library_108 : decode cX11_library 108 = .ok (.iaload, 1) := by decide +kernel
theorem dX11_library_109 : decode cX11_library 109 = .ok (.goto 4, 3) := by decide +kernel
theorem dX11_library_120 : decode cX11_library 120 = .ok (.iconst 0, 1) := by decide +kernel
theorem dX11_library_121 : decode cX11_library 121 = .ok (.istore_n 1, 1) := by decide +kernel
theorem dX11_library_122 : decode cX11_library 122 = .ok (.iload_n 1, 1) := by decide +kernel
theorem dX11_library_123 : decode cX11_library 123 = .ok (.bipush 8, 2) := by decide +kernel
theorem dX11_library_125 : decode cX11_library 125 = .ok (.if_icmp .ge 78, 3) := by decide +kernel
theorem dX11_library_128 : decode cX11_library 128 = .ok (.aload_n 0, 1) := by decide +kernel
theorem dX11_library_129 : decode cX11_library 129 = .ok (.getfield 43, 3) := by decide +kernel
theorem dX11_library_132 : decode cX11_library 132 = .ok (.iload_n 1, 1) := by decide +kernel
theorem dX11_library_133 : decode cX11_library 133 = .ok (.aload_n 0, 1) := by decide +kernel
theorem dX11_library_134 : decode cX11_library 134 = .ok (.getfield 43, 3) := by decide +kernel
theorem dX11_library_137 : decode cX11_library 137 = .ok (.bipush 8, 2) := by decide +kernel
theorem dX11_library_139 : decode cX11_library 139 = .ok (.iload_n 1, 1) := by decide +kernel
theorem dX11_library_140 : decode cX11_library 140 = .ok (.iadd, 1) := by decide +kernel
theorem dX11_library_141 : decode cX11_library 141 = .ok (.laload, 1) := by decide +kernel
theorem dX11_library_142 : decode cX11_library 142 = .ok (.lastore, 1) := by decide +kernel
theorem dX11_library_143 : decode cX11_library 143 = .ok (.aload_n 0, 1) := by decide +kernel
theorem dX11_library_144 : decode cX11_library 144 = .ok (.getfield 33, 3) := by decide +kernel
theorem dX11_library_147 : decode cX11_library 147 = .ok (.bipush 106, 2) := by decide +kernel
theorem dX11_library_149 : decode cX11_library 149 = .ok (.iload_n 1, 1) := by decide +kernel
theorem dX11_library_150 : decode cX11_library 150 = .ok (.iadd, 1) := by decide +kernel
theorem dX11_library_151 : decode cX11_library 151 = .ok (.aload_n 0, 1) := by decide +kernel
theorem dX11_library_152 : decode cX11_library 152 = .ok (.getfield 33, 3) := by decide +kernel
theorem dX11_library_155 : decode cX11_library 155 = .ok (.bipush 7, 2) := by decide +kernel
theorem dX11_library_157 : decode cX11_library 157 = .ok (.iload_n 1, 1) := by decide +kernel
theorem dX11_library_158 : decode cX11_library 158 = .ok (.iadd, 1) := by decide +kernel
theorem dX11_library_159 : decode cX11_library 159 = .ok (.iaload, 1) := by decide +kernel
theorem dX11_library_160 : decode cX11_library 160 = .ok (.iastore, 1) := by decide +kernel
theorem dX11_library_161 : decode cX11_library 161 = .ok (.aload_n 0, 1) := by decide +kernel
theorem dX11_library_162 : decode cX11_library 162 = .ok (.getfield 33, 3) := by decide +kernel
theorem dX11_library_165 : decode cX11_library 165 = .ok (.bipush 114, 2) := by decide +kernel
theorem dX11_library_167 : decode cX11_library 167 = .ok (.iload_n 1, 1) := by decide +kernel
theorem dX11_library_168 : decode cX11_library 168 = .ok (.iadd, 1) := by decide +kernel
theorem dX11_library_169 : decode cX11_library 169 = .ok (.aload_n 0, 1) := by decide +kernel
theorem dX11_library_170 : decode cX11_library 170 = .ok (.getfield 33, 3) := by decide +kernel
theorem dX11_library_173 : decode cX11_library 173 = .ok (.bipush 15, 2) := by decide +kernel
theorem dX11_library_175 : decode cX11_library 175 = .ok (.iload_n 1, 1) := by decide +kernel
theorem dX11_library_176 : decode cX11_library 176 = .ok (.iadd, 1) := by decide +kernel
theorem dX11_library_177 : decode cX11_library 177 = .ok (.iaload, 1) := by decide +kernel
theorem dX11_library_178 : decode cX11_library 178 = .ok (.iastore, 1) := by decide +kernel
theorem dX11_library_179 : decode cX11_library 179 = .ok (.aload_n 0, 1) := by decide +kernel
theorem dX11_library_180 : decode cX11_library 180 = .ok (.getfield 33, 3) := by decide +kernel
theorem dX11_library_183 : decode cX11_library 183 = .ok (.bipush 122, 2) := by decide +kernel
theorem dX11_library_185 : decode cX11_library 185 = .ok (.iload_n 1, 1) := by decide +kernel
theorem dX11_library_186 : decode cX11_library 186 = .ok (.iadd, 1) := by decide +kernel
theorem dX11_library_187 : decode cX11_library 187 = .ok (.aload_n 0, 1) := by decide +kernel
theorem dX11_library_188 : decode cX11_library 188 = .ok (.getfield 33, 3) := by decide +kernel
theorem dX11_library_191 : decode cX11_library 191 = .ok (.bipush 23, 2) := by decide +kernel
theorem dX11_library_193 : decode cX11_library 193 = .ok (.iload_n 1, 1) := by decide +kernel
theorem dX11_library_194 : decode cX11_library 194 = .ok (.iadd, 1) := by decide +kernel
theorem dX11_library_195 : decode cX11_library 195 = .ok (.iaload, 1) := by decide +kernel
theorem dX11_library_196 : decode cX11_library 196 = .ok (.iastore, 1) := by decide +kernel
theorem dX11_library_197 : decode cX11_library 197 = .ok (.iinc 1 1, 3) := by decide +kernel
theorem dX11_library_200 : decode cX11_library 200 = .ok (.goto (-78), 3) := by decide +kernel
theorem dX11_library_203 : decode cX11_library 203 = .ok (.iconst 0, 1) := by decide +kernel
theorem dX11_library_204 : decode cX11_library 204 = .ok (.istore_n 1, 1) := by decide +kernel
theorem dX11_library_205 : decode cX11_library 205 = .ok (.iload_n 1, 1) := by decide +kernel
theorem dX11_library_206 : decode cX11_library 206 = .ok (.bipush 64, 2) := by decide +kernel
theorem dX11_library_208 : decode cX11_library 208 = .ok (.if_icmp .ge 28, 3) := by decide +kernel
theorem dX11_library_211 : decode cX11_library 211 = .ok (.aload_n 0, 1) := by decide +kernel
theorem dX11_library_212 : decode cX11_library 212 = .ok (.getfield 33, 3) := by decide +kernel
theorem dX11_library_215 : decode cX11_library 215 = .ok (.sipush 138, 3) := by decide +kernel
theorem dX11_library_218 : decode cX11_library 218 = .ok (.iload_n 1, 1) := by decide +kernel
theorem dX11_library_219 : decode cX11_library 219 = .ok (.iadd, 1) := by decide +kernel
theorem dX11_library_220 : decode cX11_library 220 = .ok (.aload_n 0, 1) := by decide +kernel
theorem dX11_library_221 : decode cX11_library 221 = .ok (.getfield 33, 3) := by decide +kernel
theorem dX11_library_224 : decode cX11_library 224 = .ok (.bipush 31, 2) := by decide +kernel
theorem dX11_library_226 : decode cX11_library 226 = .ok (.iload_n 1, 1) := by decide +kernel
theorem dX11_library_227 : decode cX11_library 227 = .ok (.iadd, 1) := by decide +kernel
theorem dX11_library_228 : decode cX11_library 228 = .ok (.iaload, 1) := by decide +kernel
theorem dX11_library_229 : decode cX11_library 229 = .ok (.iastore, 1) := by decide +kernel
theorem dX11_library_230 : decode cX11_library 230 = .ok (.iinc 1 1, 3) := by decide +kernel
theorem dX11_library_233 : decode cX11_library 233 = .ok (.goto (-28), 3) := by decide +kernel
theorem dX11_library_236 : decode cX11_library 236 = .ok (.aload_n 0, 1) := by decide +kernel
theorem dX11_library_237 : decode cX11_library 237 = .ok (.iconst 0, 1) := by decide +kernel
theorem dX11_library_238 : decode cX11_library 238 = .ok (.putfield 288, 3) := by decide +kernel
theorem dX11_library_241 : decode cX11_library 241 = .ok (.aload_n 0, 1) := by decide +kernel
theorem dX11_library_242 : decode cX11_library 242 = .ok (.getfield 279, 3) := by decide +kernel
theorem dX11_library_245 : decode cX11_library 245 = .ok (.ireturn, 1) := by decide +kernel
theorem dX11_fault_0 : decode cX11_fault 0 = .ok (.aload_n 0, 1) := by decide +kernel
theorem dX11_fault_1 : decode cX11_fault 1 = .ok (.iconst 0, 1) := by decide +kernel
theorem dX11_fault_2 : decode cX11_fault 2 = .ok (.putfield 1, 3) := by decide +kernel
theorem dX11_fault_5 : decode cX11_fault 5 = .ok (.aload_n 0, 1) := by decide +kernel
theorem dX11_fault_6 : decode cX11_fault 6 = .ok (.getfield 191, 3) := by decide +kernel
theorem dX11_fault_9 : decode cX11_fault 9 = .ok (.ireturn, 1) := by decide +kernel
theorem dX11_throwsIf_0 : decode cX11_throwsIf 0 = .ok (.aload_n 0, 1) := by decide +kernel
theorem dX11_throwsIf_1 : decode cX11_throwsIf 1 = .ok (.iload_n 1, 1) := by decide +kernel
theorem dX11_throwsIf_2 : decode cX11_throwsIf 2 = .ok (.ifCond .eq 7, 3) := by decide +kernel
theorem dX11_throwsIf_5 : decode cX11_throwsIf 5 = .ok (.iconst 1, 1) := by decide +kernel
theorem dX11_throwsIf_6 : decode cX11_throwsIf 6 = .ok (.goto 4, 3) := by decide +kernel
theorem dX11_throwsIf_10 : decode cX11_throwsIf 10 = .ok (.putfield 1, 3) := by decide +kernel
theorem dX11_throwsIf_13 : decode cX11_throwsIf 13 = .ok (.iload_n 1, 1) := by decide +kernel
theorem dX11_throwsIf_14 : decode cX11_throwsIf 14 = .ok (.ireturn, 1) := by decide +kernel
theorem dX11_book_0 : decode cX11_book 0 = .ok (.aload_n 0, 1) := by decide +kernel
theorem dX11_book_1 : decode cX11_book 1 = .ok (.aload_n 0, 1) := by decide +kernel
theorem dX11_book_2 : decode cX11_book 2 = .ok (.iload_n 1, 1) := by decide +kernel
theorem dX11_book_3 : decode cX11_book 3 = .ok (.invokevirtual 306, 3) := by decide +kernel
theorem kwV_X11_isBook : MwV RX11 yX11_isBook cX11_isBook 2 (some .boolean) 1 := ⟨List.mem_filter.mpr ⟨List.mem_of_getElem? (i := 1796) (by decide +kernel), by decide +kernel⟩, List.mem_filter.mpr ⟨List.mem_of_getElem? (i := 1795) (by decide +kernel), by decide +kernel⟩, List.mem_filter.mpr ⟨List.mem_of_getElem? (i := 76) (by decide +kernel), by decide +kernel⟩, List.mem_filter.mpr ⟨List.mem_of_getElem? (i := 139) (by decide +kernel), by decide +kernel⟩, by decide +kernel⟩
theorem kM_RX11_306 : Cond.methodLink RX11 306 yX11_isBook ∈ gT := List.mem_filter.mpr ⟨List.mem_of_getElem? (i := 1793) (by decide +kernel), by decide +kernel⟩
theorem dX11_book_6 : decode cX11_book 6 = .ok (.ifCond .eq 13, 3) := by decide +kernel
theorem dX11_book_19 : decode cX11_book 19 = .ok (.iconst 1, 1) := by decide +kernel
theorem dX11_book_20 : decode cX11_book 20 = .ok (.goto 4, 3) := by decide +kernel
theorem dX11_book_24 : decode cX11_book 24 = .ok (.invokevirtual 309, 3) := by decide +kernel
theorem kwV_X11_throwsIf : MwV RX11 yX11_throwsIf cX11_throwsIf 2 (some .boolean) 1 := ⟨List.mem_filter.mpr ⟨List.mem_of_getElem? (i := 1800) (by decide +kernel), by decide +kernel⟩, List.mem_filter.mpr ⟨List.mem_of_getElem? (i := 1799) (by decide +kernel), by decide +kernel⟩, List.mem_filter.mpr ⟨List.mem_of_getElem? (i := 77) (by decide +kernel), by decide +kernel⟩, List.mem_filter.mpr ⟨List.mem_of_getElem? (i := 139) (by decide +kernel), by decide +kernel⟩, by decide +kernel⟩
theorem kM_RX11_309 : Cond.methodLink RX11 309 yX11_throwsIf ∈ gT := List.mem_filter.mpr ⟨List.mem_of_getElem? (i := 1797) (by decide +kernel), by decide +kernel⟩
theorem dX11_book_27 : decode cX11_book 27 = .ok (.ifCond .eq 5, 3) := by decide +kernel
theorem dX11_book_30 : decode cX11_book 30 = .ok (.iconst 0, 1) := by decide +kernel
theorem dX11_book_31 : decode cX11_book 31 = .ok (.ireturn, 1) := by decide +kernel
theorem dX11_thrown_0 : decode cX11_thrown 0 = .ok (.aload_n 0, 1) := by decide +kernel
theorem dX11_thrown_1 : decode cX11_thrown 1 = .ok (.getfield 1, 3) := by decide +kernel
theorem dX11_thrown_4 : decode cX11_thrown 4 = .ok (.ireturn, 1) := by decide +kernel
theorem dX11_thread_0 : decode cX11_thread 0 = .ok (.aload_n 0, 1) := by decide +kernel
theorem dX11_thread_1 : decode cX11_thread 1 = .ok (.iconst 0, 1) := by decide +kernel
theorem dX11_thread_2 : decode cX11_thread 2 = .ok (.putfield 1, 3) := by decide +kernel
theorem dX11_thread_5 : decode cX11_thread 5 = .ok (.aload_n 0, 1) := by decide +kernel
theorem dX11_thread_6 : decode cX11_thread 6 = .ok (.iload_n 1, 1) := by decide +kernel
theorem dX11_thread_7 : decode cX11_thread 7 = .ok (.invokevirtual 306, 3) := by decide +kernel
theorem dX11_thread_10 : decode cX11_thread 10 = .ok (.ifCond .eq 25, 3) := by decide +kernel
theorem dX11_thread_35 : decode cX11_thread 35 = .ok (.iconst (-1), 1) := by decide +kernel
theorem dX11_thread_36 : decode cX11_thread 36 = .ok (.ireturn, 1) := by decide +kernel
theorem dX11_sight_0 : decode cX11_sight 0 = .ok (.aload_n 0, 1) := by decide +kernel
theorem dX11_sight_1 : decode cX11_sight 1 = .ok (.iconst 0, 1) := by decide +kernel
theorem dX11_sight_2 : decode cX11_sight 2 = .ok (.putfield 1, 3) := by decide +kernel
theorem dX11_sight_5 : decode cX11_sight 5 = .ok (.aload_n 0, 1) := by decide +kernel
theorem dX11_sight_6 : decode cX11_sight 6 = .ok (.iload_n 1, 1) := by decide +kernel
theorem dX11_sight_7 : decode cX11_sight 7 = .ok (.invokevirtual 306, 3) := by decide +kernel
theorem dX11_sight_10 : decode cX11_sight 10 = .ok (.ifCond .eq 11, 3) := by decide +kernel
theorem dX11_sight_21 : decode cX11_sight 21 = .ok (.iconst (-1), 1) := by decide +kernel
theorem dX11_sight_22 : decode cX11_sight 22 = .ok (.ireturn, 1) := by decide +kernel
theorem dX11_at_0 : decode cX11_at 0 = .ok (.aload_n 0, 1) := by decide +kernel
theorem dX11_at_1 : decode cX11_at 1 = .ok (.iconst 0, 1) := by decide +kernel
theorem dX11_at_2 : decode cX11_at 2 = .ok (.putfield 1, 3) := by decide +kernel
theorem dX11_at_5 : decode cX11_at 5 = .ok (.aload_n 0, 1) := by decide +kernel
theorem dX11_at_6 : decode cX11_at 6 = .ok (.iload_n 1, 1) := by decide +kernel
theorem dX11_at_7 : decode cX11_at 7 = .ok (.iload_n 2, 1) := by decide +kernel
theorem dX11_at_8 : decode cX11_at 8 = .ok (.invokevirtual 322, 3) := by decide +kernel
theorem kwV_X11_isCell : MwV RX11 yX11_isCell cX11_isCell 3 (some .boolean) 2 := ⟨List.mem_filter.mpr ⟨List.mem_of_getElem? (i := 1846) (by decide +kernel), by decide +kernel⟩, List.mem_filter.mpr ⟨List.mem_of_getElem? (i := 1845) (by decide +kernel), by decide +kernel⟩, List.mem_filter.mpr ⟨List.mem_of_getElem? (i := 84) (by decide +kernel), by decide +kernel⟩, List.mem_filter.mpr ⟨List.mem_of_getElem? (i := 139) (by decide +kernel), by decide +kernel⟩, by decide +kernel⟩
theorem kM_RX11_322 : Cond.methodLink RX11 322 yX11_isCell ∈ gT := List.mem_filter.mpr ⟨List.mem_of_getElem? (i := 1843) (by decide +kernel), by decide +kernel⟩
theorem dX11_at_11 : decode cX11_at 11 = .ok (.ifCond .eq 12, 3) := by decide +kernel
theorem dX11_at_23 : decode cX11_at 23 = .ok (.iconst (-1), 1) := by decide +kernel
theorem dX11_at_24 : decode cX11_at 24 = .ok (.ireturn, 1) := by decide +kernel
theorem dX11_at_14 : decode cX11_at 14 = .ok (.aload_n 0, 1) := by decide +kernel
theorem dX11_at_15 : decode cX11_at 15 = .ok (.iload_n 1, 1) := by decide +kernel
theorem dX11_at_16 : decode cX11_at 16 = .ok (.iload_n 2, 1) := by decide +kernel
theorem dX11_at_17 : decode cX11_at 17 = .ok (.invokevirtual 325, 3) := by decide +kernel
theorem kwV_X11_bookAt : MwV RX11 yX11_bookAt cX11_bookAt 4 (some .int) 2 := ⟨List.mem_filter.mpr ⟨List.mem_of_getElem? (i := 1850) (by decide +kernel), by decide +kernel⟩, List.mem_filter.mpr ⟨List.mem_of_getElem? (i := 1849) (by decide +kernel), by decide +kernel⟩, List.mem_filter.mpr ⟨List.mem_of_getElem? (i := 85) (by decide +kernel), by decide +kernel⟩, List.mem_filter.mpr ⟨List.mem_of_getElem? (i := 139) (by decide +kernel), by decide +kernel⟩, by decide +kernel⟩
theorem kM_RX11_325 : Cond.methodLink RX11 325 yX11_bookAt ∈ gT := List.mem_filter.mpr ⟨List.mem_of_getElem? (i := 1847) (by decide +kernel), by decide +kernel⟩
theorem dX11_at_20 : decode cX11_at 20 = .ok (.goto 4, 3) := by decide +kernel
theorem dX11_now_0 : decode cX11_now 0 = .ok (.aload_n 0, 1) := by decide +kernel
theorem dX11_now_1 : decode cX11_now 1 = .ok (.iconst 0, 1) := by decide +kernel
theorem dX11_now_2 : decode cX11_now 2 = .ok (.putfield 1, 3) := by decide +kernel
theorem dX11_now_5 : decode cX11_now 5 = .ok (.iconst 0, 1) := by decide +kernel
theorem dX11_now_6 : decode cX11_now 6 = .ok (.istore_n 2, 1) := by decide +kernel
theorem dX11_now_7 : decode cX11_now 7 = .ok (.iconst 0, 1) := by decide +kernel
theorem dX11_now_8 : decode cX11_now 8 = .ok (.istore_n 3, 1) := by decide +kernel
theorem dX11_now_9 : decode cX11_now 9 = .ok (.iconst 0, 1) := by decide +kernel
theorem dX11_now_10 : decode cX11_now 10 = .ok (.istore 4, 2) := by decide +kernel
theorem dX11_now_12 : decode cX11_now 12 = .ok (.iconst 0, 1) := by decide +kernel
theorem dX11_now_13 : decode cX11_now 13 = .ok (.istore 5, 2) := by decide +kernel
theorem dX11_now_15 : decode cX11_now 15 = .ok (.iload 5, 2) := by decide +kernel
theorem dX11_now_17 : decode cX11_now 17 = .ok (.aload_n 0, 1) := by decide +kernel
theorem dX11_now_18 : decode cX11_now 18 = .ok (.getfield 33, 3) := by decide +kernel
theorem dX11_now_21 : decode cX11_now 21 = .ok (.iconst 0, 1) := by decide +kernel
theorem dX11_now_22 : decode cX11_now 22 = .ok (.iaload, 1) := by decide +kernel
theorem dX11_now_23 : decode cX11_now 23 = .ok (.if_icmp .ge 65, 3) := by decide +kernel
theorem dX11_now_88 : decode cX11_now 88 = .ok (.iload_n 1, 1) := by decide +kernel
theorem dX11_now_89 : decode cX11_now 89 = .ok (.tableswitch 72 0 6 #[43, 51, 51, 57, 65, 67, 69], 43) := by decide +kernel
theorem dX11_now_132 : decode cX11_now 132 = .ok (.aload_n 0, 1) := by decide +kernel
theorem dX11_now_133 : decode cX11_now 133 = .ok (.getfield 33, 3) := by decide +kernel
theorem dX11_now_136 : decode cX11_now 136 = .ok (.bipush 104, 2) := by decide +kernel
theorem dX11_now_138 : decode cX11_now 138 = .ok (.iaload, 1) := by decide +kernel
theorem dX11_now_139 : decode cX11_now 139 = .ok (.ireturn, 1) := by decide +kernel
theorem dX11_now_140 : decode cX11_now 140 = .ok (.aload_n 0, 1) := by decide +kernel
theorem dX11_now_141 : decode cX11_now 141 = .ok (.iload_n 1, 1) := by decide +kernel
theorem dX11_now_142 : decode cX11_now 142 = .ok (.invokevirtual 328, 3) := by decide +kernel
theorem kwV_X11_readSet : MwV RX11 yX11_readSet cX11_readSet 4 (some .int) 1 := ⟨List.mem_filter.mpr ⟨List.mem_of_getElem? (i := 1858) (by decide +kernel), by decide +kernel⟩, List.mem_filter.mpr ⟨List.mem_of_getElem? (i := 1857) (by decide +kernel), by decide +kernel⟩, List.mem_filter.mpr ⟨List.mem_of_getElem? (i := 86) (by decide +kernel), by decide +kernel⟩, List.mem_filter.mpr ⟨List.mem_of_getElem? (i := 139) (by decide +kernel), by decide +kernel⟩, by decide +kernel⟩
theorem kM_RX11_328 : Cond.methodLink RX11 328 yX11_readSet ∈ gT := List.mem_filter.mpr ⟨List.mem_of_getElem? (i := 1855) (by decide +kernel), by decide +kernel⟩
theorem dX11_now_145 : decode cX11_now 145 = .ok (.ireturn, 1) := by decide +kernel
theorem dX11_now_146 : decode cX11_now 146 = .ok (.aload_n 0, 1) := by decide +kernel
theorem dX11_now_147 : decode cX11_now 147 = .ok (.getfield 33, 3) := by decide +kernel
theorem dX11_now_150 : decode cX11_now 150 = .ok (.bipush 105, 2) := by decide +kernel
theorem dX11_now_152 : decode cX11_now 152 = .ok (.iaload, 1) := by decide +kernel
theorem dX11_now_153 : decode cX11_now 153 = .ok (.ireturn, 1) := by decide +kernel
theorem dX11_now_154 : decode cX11_now 154 = .ok (.iload_n 2, 1) := by decide +kernel
theorem dX11_now_155 : decode cX11_now 155 = .ok (.ireturn, 1) := by decide +kernel
theorem dX11_now_156 : decode cX11_now 156 = .ok (.iload_n 3, 1) := by decide +kernel
theorem dX11_now_157 : decode cX11_now 157 = .ok (.ireturn, 1) := by decide +kernel
theorem dX11_now_158 : decode cX11_now 158 = .ok (.iload 4, 2) := by decide +kernel
theorem dX11_now_160 : decode cX11_now 160 = .ok (.ireturn, 1) := by decide +kernel
theorem dX11_now_161 : decode cX11_now 161 = .ok (.iconst (-1), 1) := by decide +kernel
theorem dX11_now_162 : decode cX11_now 162 = .ok (.ireturn, 1) := by decide +kernel
theorem dX11_count_0 : decode cX11_count 0 = .ok (.aload_n 0, 1) := by decide +kernel
theorem dX11_count_1 : decode cX11_count 1 = .ok (.iconst 0, 1) := by decide +kernel
theorem dX11_count_2 : decode cX11_count 2 = .ok (.putfield 1, 3) := by decide +kernel
theorem dX11_count_5 : decode cX11_count 5 = .ok (.iload_n 1, 1) := by decide +kernel
theorem dX11_count_6 : decode cX11_count 6 = .ok (.bipush 7, 2) := by decide +kernel
theorem dX11_count_8 : decode cX11_count 8 = .ok (.if_icmp .ne 10, 3) := by decide +kernel
theorem dX11_count_18 : decode cX11_count 18 = .ok (.iload_n 1, 1) := by decide +kernel
theorem dX11_count_19 : decode cX11_count 19 = .ok (.iconst 0, 1) := by decide +kernel
theorem dX11_count_20 : decode cX11_count 20 = .ok (.bipush 6, 2) := by decide +kernel
theorem dX11_count_22 : decode cX11_count 22 = .ok (.invokestatic 206, 3) := by decide +kernel
theorem dX11_count_25 : decode cX11_count 25 = .ok (.ifCond .eq 12, 3) := by decide +kernel
theorem dX11_count_28 : decode cX11_count 28 = .ok (.aload_n 0, 1) := by decide +kernel
theorem dX11_count_29 : decode cX11_count 29 = .ok (.getfield 33, 3) := by decide +kernel
theorem dX11_count_32 : decode cX11_count 32 = .ok (.iload_n 1, 1) := by decide +kernel
theorem dX11_count_33 : decode cX11_count 33 = .ok (.iaload, 1) := by decide +kernel
theorem dX11_count_34 : decode cX11_count 34 = .ok (.goto 4, 3) := by decide +kernel
theorem dX11_count_38 : decode cX11_count 38 = .ok (.ireturn, 1) := by decide +kernel
theorem dX11_count_37 : decode cX11_count 37 = .ok (.iconst (-1), 1) := by decide +kernel
theorem dX11_count_11 : decode cX11_count 11 = .ok (.aload_n 0, 1) := by decide +kernel
theorem dX11_count_12 : decode cX11_count 12 = .ok (.getfield 7, 3) := by decide +kernel
theorem dX11_count_15 : decode cX11_count 15 = .ok (.goto 23, 3) := by decide +kernel
theorem dX11_quarrels_0 : decode cX11_quarrels 0 = .ok (.aload_n 0, 1) := by decide +kernel
theorem dX11_quarrels_1 : decode cX11_quarrels 1 = .ok (.iconst 0, 1) := by decide +kernel
theorem dX11_quarrels_2 : decode cX11_quarrels 2 = .ok (.putfield 1, 3) := by decide +kernel
theorem dX11_quarrels_5 : decode cX11_quarrels 5 = .ok (.iconst 0, 1) := by decide +kernel
theorem dX11_quarrels_6 : decode cX11_quarrels 6 = .ok (.istore_n 1, 1) := by decide +kernel
theorem dX11_quarrels_7 : decode cX11_quarrels 7 = .ok (.iconst 0, 1) := by decide +kernel
theorem dX11_quarrels_8 : decode cX11_quarrels 8 = .ok (.istore_n 2, 1) := by decide +kernel
theorem dX11_quarrels_9 : decode cX11_quarrels 9 = .ok (.iload_n 2, 1) := by decide +kernel
theorem dX11_quarrels_10 : decode cX11_quarrels 10 = .ok (.aload_n 0, 1) := by decide +kernel
theorem dX11_quarrels_11 : decode cX11_quarrels 11 = .ok (.getfield 33, 3) := by decide +kernel
theorem dX11_quarrels_14 : decode cX11_quarrels 14 = .ok (.iconst 0, 1) := by decide +kernel
theorem dX11_quarrels_15 : decode cX11_quarrels 15 = .ok (.iaload, 1) := by decide +kernel
theorem dX11_quarrels_16 : decode cX11_quarrels 16 = .ok (.if_icmp .ge 46, 3) := by decide +kernel
theorem dX11_quarrels_62 : decode cX11_quarrels 62 = .ok (.iload_n 1, 1) := by decide +kernel
theorem dX11_quarrels_63 : decode cX11_quarrels 63 = .ok (.ireturn, 1) := by decide +kernel
theorem dX11_quarrel_0 : decode cX11_quarrel 0 = .ok (.aload_n 0, 1) := by decide +kernel
theorem dX11_quarrel_1 : decode cX11_quarrel 1 = .ok (.iconst 0, 1) := by decide +kernel
theorem dX11_quarrel_2 : decode cX11_quarrel 2 = .ok (.putfield 1, 3) := by decide +kernel
theorem dX11_quarrel_5 : decode cX11_quarrel 5 = .ok (.iconst 0, 1) := by decide +kernel
theorem dX11_quarrel_6 : decode cX11_quarrel 6 = .ok (.istore_n 2, 1) := by decide +kernel
theorem dX11_quarrel_7 : decode cX11_quarrel 7 = .ok (.iload_n 2, 1) := by decide +kernel
theorem dX11_quarrel_8 : decode cX11_quarrel 8 = .ok (.aload_n 0, 1) := by decide +kernel
theorem dX11_quarrel_9 : decode cX11_quarrel 9 = .ok (.getfield 33, 3) := by decide +kernel
theorem dX11_quarrel_12 : decode cX11_quarrel 12 = .ok (.iconst 0, 1) := by decide +kernel
theorem dX11_quarrel_13 : decode cX11_quarrel 13 = .ok (.iaload, 1) := by decide +kernel
theorem dX11_quarrel_14 : decode cX11_quarrel 14 = .ok (.if_icmp .ge 57, 3) := by decide +kernel
theorem dX11_quarrel_71 : decode cX11_quarrel 71 = .ok (.aload_n 0, 1) := by decide +kernel
theorem dX11_quarrel_72 : decode cX11_quarrel 72 = .ok (.iconst 1, 1) := by decide +kernel
theorem dX11_quarrel_73 : decode cX11_quarrel 73 = .ok (.putfield 1, 3) := by decide +kernel
theorem dX11_quarrel_76 : decode cX11_quarrel 76 = .ok (.iconst 0, 1) := by decide +kernel
theorem dX11_quarrel_77 : decode cX11_quarrel 77 = .ok (.ireturn, 1) := by decide +kernel
theorem dX11_catalogue_0 : decode cX11_catalogue 0 = .ok (.aload_n 0, 1) := by decide +kernel
theorem dX11_catalogue_1 : decode cX11_catalogue 1 = .ok (.iconst 0, 1) := by decide +kernel
theorem dX11_catalogue_2 : decode cX11_catalogue 2 = .ok (.putfield 1, 3) := by decide +kernel
theorem dX11_catalogue_5 : decode cX11_catalogue 5 = .ok (.aload_n 0, 1) := by decide +kernel
theorem dX11_catalogue_6 : decode cX11_catalogue 6 = .ok (.iload_n 1, 1) := by decide +kernel
theorem dX11_catalogue_7 : decode cX11_catalogue 7 = .ok (.invokevirtual 306, 3) := by decide +kernel
theorem dX11_catalogue_10 : decode cX11_catalogue 10 = .ok (.ifCond .ne 5, 3) := by decide +kernel
theorem dX11_catalogue_13 : decode cX11_catalogue 13 = .ok (.iconst (-1), 1) := by decide +kernel
theorem dX11_catalogue_14 : decode cX11_catalogue 14 = .ok (.ireturn, 1) := by decide +kernel
theorem dX11_ask_0 : decode cX11_ask 0 = .ok (.aload_n 0, 1) := by decide +kernel
theorem dX11_ask_1 : decode cX11_ask 1 = .ok (.iconst 0, 1) := by decide +kernel
theorem dX11_ask_2 : decode cX11_ask 2 = .ok (.putfield 1, 3) := by decide +kernel
theorem dX11_ask_5 : decode cX11_ask 5 = .ok (.aload_n 0, 1) := by decide +kernel
theorem dX11_ask_6 : decode cX11_ask 6 = .ok (.iload_n 1, 1) := by decide +kernel
theorem dX11_ask_7 : decode cX11_ask 7 = .ok (.invokevirtual 306, 3) := by decide +kernel
theorem dX11_ask_10 : decode cX11_ask 10 = .ok (.ifCond .ne 5, 3) := by decide +kernel
theorem dX11_ask_13 : decode cX11_ask 13 = .ok (.iconst (-1), 1) := by decide +kernel
theorem dX11_ask_14 : decode cX11_ask 14 = .ok (.ireturn, 1) := by decide +kernel
theorem dX11_when_0 : decode cX11_when 0 = .ok (.aload_n 0, 1) := by decide +kernel
theorem dX11_when_1 : decode cX11_when 1 = .ok (.iconst 0, 1) := by decide +kernel
theorem dX11_when_2 : decode cX11_when 2 = .ok (.putfield 1, 3) := by decide +kernel
theorem dX11_when_5 : decode cX11_when 5 = .ok (.aload_n 0, 1) := by decide +kernel
theorem dX11_when_6 : decode cX11_when 6 = .ok (.iload_n 1, 1) := by decide +kernel
theorem dX11_when_7 : decode cX11_when 7 = .ok (.invokevirtual 306, 3) := by decide +kernel
theorem dX11_when_10 : decode cX11_when 10 = .ok (.ifCond .ne 5, 3) := by decide +kernel
theorem dX11_when_13 : decode cX11_when 13 = .ok (.iconst (-1), 1) := by decide +kernel
theorem dX11_when_14 : decode cX11_when 14 = .ok (.ireturn, 1) := by decide +kernel
theorem dX11_follow_0 : decode cX11_follow 0 = .ok (.aload_n 0, 1) := by decide +kernel
theorem dX11_follow_1 : decode cX11_follow 1 = .ok (.iconst 0, 1) := by decide +kernel
theorem dX11_follow_2 : decode cX11_follow 2 = .ok (.putfield 1, 3) := by decide +kernel
theorem dX11_follow_5 : decode cX11_follow 5 = .ok (.aload_n 0, 1) := by decide +kernel
theorem dX11_follow_6 : decode cX11_follow 6 = .ok (.iload_n 1, 1) := by decide +kernel
theorem dX11_follow_7 : decode cX11_follow 7 = .ok (.invokevirtual 306, 3) := by decide +kernel
theorem dX11_follow_10 : decode cX11_follow 10 = .ok (.ifCond .eq 11, 3) := by decide +kernel
theorem dX11_follow_21 : decode cX11_follow 21 = .ok (.iconst (-1), 1) := by decide +kernel
theorem dX11_follow_22 : decode cX11_follow 22 = .ok (.ireturn, 1) := by decide +kernel
theorem dX11_torn_0 : decode cX11_torn 0 = .ok (.aload_n 0, 1) := by decide +kernel
theorem dX11_torn_1 : decode cX11_torn 1 = .ok (.iconst 0, 1) := by decide +kernel
theorem dX11_torn_2 : decode cX11_torn 2 = .ok (.putfield 1, 3) := by decide +kernel
theorem dX11_torn_5 : decode cX11_torn 5 = .ok (.aload_n 0, 1) := by decide +kernel
theorem dX11_torn_6 : decode cX11_torn 6 = .ok (.iload_n 1, 1) := by decide +kernel
theorem dX11_torn_7 : decode cX11_torn 7 = .ok (.invokevirtual 306, 3) := by decide +kernel
theorem dX11_torn_10 : decode cX11_torn 10 = .ok (.ifCond .ne 5, 3) := by decide +kernel
theorem dX11_torn_13 : decode cX11_torn 13 = .ok (.iconst (-1), 1) := by decide +kernel
theorem dX11_torn_14 : decode cX11_torn 14 = .ok (.ireturn, 1) := by decide +kernel
theorem dX11_byteAt_0 : decode cX11_byteAt 0 = .ok (.aload_n 0, 1) := by decide +kernel
theorem dX11_byteAt_1 : decode cX11_byteAt 1 = .ok (.iconst 0, 1) := by decide +kernel
theorem dX11_byteAt_2 : decode cX11_byteAt 2 = .ok (.putfield 1, 3) := by decide +kernel
theorem dX11_byteAt_5 : decode cX11_byteAt 5 = .ok (.iload_n 1, 1) := by decide +kernel
theorem dX11_byteAt_6 : decode cX11_byteAt 6 = .ok (.iconst 0, 1) := by decide +kernel
theorem dX11_byteAt_7 : decode cX11_byteAt 7 = .ok (.aload_n 0, 1) := by decide +kernel
theorem dX11_byteAt_8 : decode cX11_byteAt 8 = .ok (.getfield 434, 3) := by decide +kernel
theorem kF_RX11_434 : Cond.fieldLink RX11 434 "CobwebLibraryModel" "textMany" "I" ∈ gT := List.mem_filter.mpr ⟨List.mem_of_getElem? (i := 1553) (by decide +kernel), by decide +kernel⟩
theorem dX11_byteAt_11 : decode cX11_byteAt 11 = .ok (.iconst 1, 1) := by decide +kernel
theorem dX11_byteAt_12 : decode cX11_byteAt 12 = .ok (.isub, 1) := by decide +kernel
theorem dX11_byteAt_13 : decode cX11_byteAt 13 = .ok (.invokestatic 206, 3) := by decide +kernel
theorem dX11_byteAt_16 : decode cX11_byteAt 16 = .ok (.ifCond .eq 12, 3) := by decide +kernel
theorem dX11_byteAt_28 : decode cX11_byteAt 28 = .ok (.iconst (-1), 1) := by decide +kernel
theorem dX11_byteAt_29 : decode cX11_byteAt 29 = .ok (.ireturn, 1) := by decide +kernel
theorem dX11_wayAt_0 : decode cX11_wayAt 0 = .ok (.aload_n 0, 1) := by decide +kernel
theorem dX11_wayAt_1 : decode cX11_wayAt 1 = .ok (.iconst 0, 1) := by decide +kernel
theorem dX11_wayAt_2 : decode cX11_wayAt 2 = .ok (.putfield 1, 3) := by decide +kernel
theorem dX11_wayAt_5 : decode cX11_wayAt 5 = .ok (.iload_n 1, 1) := by decide +kernel
theorem dX11_wayAt_6 : decode cX11_wayAt 6 = .ok (.iconst 0, 1) := by decide +kernel
theorem dX11_wayAt_7 : decode cX11_wayAt 7 = .ok (.aload_n 0, 1) := by decide +kernel
theorem dX11_wayAt_8 : decode cX11_wayAt 8 = .ok (.getfield 62, 3) := by decide +kernel
theorem dX11_wayAt_11 : decode cX11_wayAt 11 = .ok (.iconst 1, 1) := by decide +kernel
theorem dX11_wayAt_12 : decode cX11_wayAt 12 = .ok (.isub, 1) := by decide +kernel
theorem dX11_wayAt_13 : decode cX11_wayAt 13 = .ok (.invokestatic 206, 3) := by decide +kernel
theorem dX11_wayAt_16 : decode cX11_wayAt 16 = .ok (.ifCond .eq 12, 3) := by decide +kernel
theorem dX11_wayAt_28 : decode cX11_wayAt 28 = .ok (.iconst (-1), 1) := by decide +kernel
theorem dX11_wayAt_29 : decode cX11_wayAt 29 = .ok (.ireturn, 1) := by decide +kernel
theorem dX11_keepAt_0 : decode cX11_keepAt 0 = .ok (.aload_n 0, 1) := by decide +kernel
theorem dX11_keepAt_1 : decode cX11_keepAt 1 = .ok (.iconst 0, 1) := by decide +kernel
theorem dX11_keepAt_2 : decode cX11_keepAt 2 = .ok (.putfield 1, 3) := by decide +kernel
theorem dX11_keepAt_5 : decode cX11_keepAt 5 = .ok (.iload_n 1, 1) := by decide +kernel
theorem dX11_keepAt_6 : decode cX11_keepAt 6 = .ok (.iconst 0, 1) := by decide +kernel
theorem dX11_keepAt_7 : decode cX11_keepAt 7 = .ok (.aload_n 0, 1) := by decide +kernel
theorem dX11_keepAt_8 : decode cX11_keepAt 8 = .ok (.getfield 77, 3) := by decide +kernel
theorem dX11_keepAt_11 : decode cX11_keepAt 11 = .ok (.iconst 1, 1) := by decide +kernel
theorem dX11_keepAt_12 : decode cX11_keepAt 12 = .ok (.isub, 1) := by decide +kernel
theorem dX11_keepAt_13 : decode cX11_keepAt 13 = .ok (.invokestatic 206, 3) := by decide +kernel
theorem dX11_keepAt_16 : decode cX11_keepAt 16 = .ok (.ifCond .eq 12, 3) := by decide +kernel
theorem dX11_keepAt_28 : decode cX11_keepAt 28 = .ok (.iconst (-1), 1) := by decide +kernel
theorem dX11_keepAt_29 : decode cX11_keepAt 29 = .ok (.ireturn, 1) := by decide +kernel
theorem dX11_askedAt_0 : decode cX11_askedAt 0 = .ok (.aload_n 0, 1) := by decide +kernel
theorem dX11_askedAt_1 : decode cX11_askedAt 1 = .ok (.iconst 0, 1) := by decide +kernel
theorem dX11_askedAt_2 : decode cX11_askedAt 2 = .ok (.putfield 1, 3) := by decide +kernel
theorem dX11_askedAt_5 : decode cX11_askedAt 5 = .ok (.iload_n 1, 1) := by decide +kernel
theorem dX11_askedAt_6 : decode cX11_askedAt 6 = .ok (.iconst 0, 1) := by decide +kernel
theorem dX11_askedAt_7 : decode cX11_askedAt 7 = .ok (.aload_n 0, 1) := by decide +kernel
theorem dX11_askedAt_8 : decode cX11_askedAt 8 = .ok (.getfield 80, 3) := by decide +kernel
theorem dX11_askedAt_11 : decode cX11_askedAt 11 = .ok (.iconst 1, 1) := by decide +kernel
theorem dX11_askedAt_12 : decode cX11_askedAt 12 = .ok (.isub, 1) := by decide +kernel
theorem dX11_askedAt_13 : decode cX11_askedAt 13 = .ok (.invokestatic 206, 3) := by decide +kernel
theorem dX11_askedAt_16 : decode cX11_askedAt 16 = .ok (.ifCond .eq 12, 3) := by decide +kernel
theorem dX11_askedAt_28 : decode cX11_askedAt 28 = .ok (.iconst (-1), 1) := by decide +kernel
theorem dX11_askedAt_29 : decode cX11_askedAt 29 = .ok (.ireturn, 1) := by decide +kernel
theorem dX11_broom_0 : decode cX11_broom 0 = .ok (.aload_n 0, 1) := by decide +kernel
theorem dX11_broom_1 : decode cX11_broom 1 = .ok (.iconst 0, 1) := by decide +kernel
theorem dX11_broom_2 : decode cX11_broom 2 = .ok (.putfield 1, 3) := by decide +kernel
theorem dX11_broom_5 : decode cX11_broom 5 = .ok (.iload_n 1, 1) := by decide +kernel
theorem dX11_broom_6 : decode cX11_broom 6 = .ok (.iconst 0, 1) := by decide +kernel
theorem dX11_broom_7 : decode cX11_broom 7 = .ok (.aload_n 0, 1) := by decide +kernel
theorem dX11_broom_8 : decode cX11_broom 8 = .ok (.getfield 33, 3) := by decide +kernel
theorem dX11_broom_11 : decode cX11_broom 11 = .ok (.iconst 2, 1) := by decide +kernel
theorem dX11_broom_12 : decode cX11_broom 12 = .ok (.iaload, 1) := by decide +kernel
theorem dX11_broom_13 : decode cX11_broom 13 = .ok (.iconst 1, 1) := by decide +kernel
theorem dX11_broom_14 : decode cX11_broom 14 = .ok (.isub, 1) := by decide +kernel
theorem dX11_broom_15 : decode cX11_broom 15 = .ok (.invokestatic 206, 3) := by decide +kernel
theorem dX11_broom_18 : decode cX11_broom 18 = .ok (.ifCond .ne 5, 3) := by decide +kernel
theorem dX11_broom_23 : decode cX11_broom 23 = .ok (.aload_n 0, 1) := by decide +kernel
theorem dX11_broom_24 : decode cX11_broom 24 = .ok (.iload_n 1, 1) := by decide +kernel
theorem dX11_broom_25 : decode cX11_broom 25 = .ok (.invokevirtual 353, 3) := by decide +kernel
theorem kwV_X11_isDusty : MwV RX11 yX11_isDusty cX11_isDusty 5 (some .boolean) 1 := ⟨List.mem_filter.mpr ⟨List.mem_of_getElem? (i := 1886) (by decide +kernel), by decide +kernel⟩, List.mem_filter.mpr ⟨List.mem_of_getElem? (i := 1885) (by decide +kernel), by decide +kernel⟩, List.mem_filter.mpr ⟨List.mem_of_getElem? (i := 91) (by decide +kernel), by decide +kernel⟩, List.mem_filter.mpr ⟨List.mem_of_getElem? (i := 139) (by decide +kernel), by decide +kernel⟩, by decide +kernel⟩
theorem kM_RX11_353 : Cond.methodLink RX11 353 yX11_isDusty ∈ gT := List.mem_filter.mpr ⟨List.mem_of_getElem? (i := 1883) (by decide +kernel), by decide +kernel⟩
theorem dX11_broom_28 : decode cX11_broom 28 = .ok (.ifCond .ne 5, 3) := by decide +kernel
theorem dX11_broom_31 : decode cX11_broom 31 = .ok (.iconst 1, 1) := by decide +kernel
theorem dX11_broom_32 : decode cX11_broom 32 = .ok (.ireturn, 1) := by decide +kernel
theorem dX11_broom_21 : decode cX11_broom 21 = .ok (.iconst (-1), 1) := by decide +kernel
theorem dX11_broom_22 : decode cX11_broom 22 = .ok (.ireturn, 1) := by decide +kernel
theorem dX11_move_0 : decode cX11_move 0 = .ok (.aload_n 0, 1) := by decide +kernel
theorem dX11_move_1 : decode cX11_move 1 = .ok (.iconst 0, 1) := by decide +kernel
theorem dX11_move_2 : decode cX11_move 2 = .ok (.putfield 1, 3) := by decide +kernel
theorem dX11_move_5 : decode cX11_move 5 = .ok (.aload_n 0, 1) := by decide +kernel
theorem dX11_move_6 : decode cX11_move 6 = .ok (.iload_n 1, 1) := by decide +kernel
theorem dX11_move_7 : decode cX11_move 7 = .ok (.invokevirtual 306, 3) := by decide +kernel
theorem dX11_move_10 : decode cX11_move 10 = .ok (.ifCond .eq 12, 3) := by decide +kernel
theorem dX11_move_22 : decode cX11_move 22 = .ok (.iconst (-1), 1) := by decide +kernel
theorem dX11_move_23 : decode cX11_move 23 = .ok (.ireturn, 1) := by decide +kernel
theorem dX11_days_0 : decode cX11_days 0 = .ok (.aload_n 0, 1) := by decide +kernel
theorem dX11_days_1 : decode cX11_days 1 = .ok (.iconst 0, 1) := by decide +kernel
theorem dX11_days_2 : decode cX11_days 2 = .ok (.putfield 1, 3) := by decide +kernel
theorem dX11_days_5 : decode cX11_days 5 = .ok (.iload_n 1, 1) := by decide +kernel
theorem dX11_days_6 : decode cX11_days 6 = .ok (.iconst 1, 1) := by decide +kernel
theorem dX11_days_7 : decode cX11_days 7 = .ok (.bipush 30, 2) := by decide +kernel
theorem dX11_days_9 : decode cX11_days 9 = .ok (.invokestatic 206, 3) := by decide +kernel
theorem dX11_days_12 : decode cX11_days 12 = .ok (.ifCond .ne 5, 3) := by decide +kernel
theorem dX11_days_17 : decode cX11_days 17 = .ok (.aload_n 0, 1) := by decide +kernel
theorem dX11_days_18 : decode cX11_days 18 = .ok (.getfield 33, 3) := by decide +kernel
theorem dX11_days_21 : decode cX11_days 21 = .ok (.bipush 104, 2) := by decide +kernel
theorem dX11_days_23 : decode cX11_days 23 = .ok (.iaload, 1) := by decide +kernel
theorem dX11_days_24 : decode cX11_days 24 = .ok (.sipush 400, 3) := by decide +kernel
theorem dX11_days_27 : decode cX11_days 27 = .ok (.if_icmp .ne 5, 3) := by decide +kernel
theorem dX11_days_32 : decode cX11_days 32 = .ok (.aload_n 0, 1) := by decide +kernel
theorem dX11_days_33 : decode cX11_days 33 = .ok (.invokevirtual 347, 3) := by decide +kernel
theorem kwV_X11_keeps : MwV RX11 yX11_keeps cX11_keeps 2 none 0 := ⟨List.mem_filter.mpr ⟨List.mem_of_getElem? (i := 1870) (by decide +kernel), by decide +kernel⟩, List.mem_filter.mpr ⟨List.mem_of_getElem? (i := 1869) (by decide +kernel), by decide +kernel⟩, List.mem_filter.mpr ⟨List.mem_of_getElem? (i := 88) (by decide +kernel), by decide +kernel⟩, List.mem_filter.mpr ⟨List.mem_of_getElem? (i := 139) (by decide +kernel), by decide +kernel⟩, by decide +kernel⟩
theorem kM_RX11_347 : Cond.methodLink RX11 347 yX11_keeps ∈ gT := List.mem_filter.mpr ⟨List.mem_of_getElem? (i := 1867) (by decide +kernel), by decide +kernel⟩
theorem dX11_days_36 : decode cX11_days 36 = .ok (.aload_n 0, 1) := by decide +kernel
theorem dX11_days_37 : decode cX11_days 37 = .ok (.iload_n 1, 1) := by decide +kernel
theorem dX11_days_38 : decode cX11_days 38 = .ok (.iload_n 2, 1) := by decide +kernel
theorem dX11_days_39 : decode cX11_days 39 = .ok (.invokevirtual 363, 3) := by decide +kernel
theorem kwV_X11_goesOn : MwV RX11 yX11_goesOn cX11_goesOn 4 (some .int) 2 := ⟨List.mem_filter.mpr ⟨List.mem_of_getElem? (i := 1906) (by decide +kernel), by decide +kernel⟩, List.mem_filter.mpr ⟨List.mem_of_getElem? (i := 1905) (by decide +kernel), by decide +kernel⟩, List.mem_filter.mpr ⟨List.mem_of_getElem? (i := 94) (by decide +kernel), by decide +kernel⟩, List.mem_filter.mpr ⟨List.mem_of_getElem? (i := 139) (by decide +kernel), by decide +kernel⟩, by decide +kernel⟩
theorem kM_RX11_363 : Cond.methodLink RX11 363 yX11_goesOn ∈ gT := List.mem_filter.mpr ⟨List.mem_of_getElem? (i := 1903) (by decide +kernel), by decide +kernel⟩
theorem dX11_days_42 : decode cX11_days 42 = .ok (.ireturn, 1) := by decide +kernel
theorem dX11_days_15 : decode cX11_days 15 = .ok (.iconst (-1), 1) := by decide +kernel
theorem dX11_days_16 : decode cX11_days 16 = .ok (.ireturn, 1) := by decide +kernel
theorem dX11_undo_0 : decode cX11_undo 0 = .ok (.aload_n 0, 1) := by decide +kernel
theorem dX11_undo_1 : decode cX11_undo 1 = .ok (.iconst 0, 1) := by decide +kernel
theorem dX11_undo_2 : decode cX11_undo 2 = .ok (.putfield 1, 3) := by decide +kernel
theorem dX11_undo_5 : decode cX11_undo 5 = .ok (.aload_n 0, 1) := by decide +kernel
theorem dX11_undo_6 : decode cX11_undo 6 = .ok (.getfield 288, 3) := by decide +kernel
theorem dX11_undo_9 : decode cX11_undo 9 = .ok (.ifCond .ne 5, 3) := by decide +kernel
theorem dX11_undo_12 : decode cX11_undo 12 = .ok (.iconst (-1), 1) := by decide +kernel
theorem dX11_undo_13 : decode cX11_undo 13 = .ok (.ireturn, 1) := by decide +kernel
theorem dX11_way_0 : decode cX11_way 0 = .ok (.aload_n 0, 1) := by decide +kernel
theorem dX11_way_1 : decode cX11_way 1 = .ok (.iconst 0, 1) := by decide +kernel
theorem dX11_way_2 : decode cX11_way 2 = .ok (.putfield 1, 3) := by decide +kernel
theorem dX11_way_5 : decode cX11_way 5 = .ok (.aload_n 0, 1) := by decide +kernel
theorem dX11_way_6 : decode cX11_way 6 = .ok (.iload_n 1, 1) := by decide +kernel
theorem dX11_way_7 : decode cX11_way 7 = .ok (.invokevirtual 306, 3) := by decide +kernel
theorem dX11_way_10 : decode cX11_way 10 = .ok (.ifCond .eq 11, 3) := by decide +kernel
theorem dX11_way_21 : decode cX11_way 21 = .ok (.iconst (-1), 1) := by decide +kernel
theorem dX11_way_22 : decode cX11_way 22 = .ok (.ireturn, 1) := by decide +kernel
theorem dX11_asked_0 : decode cX11_asked 0 = .ok (.aload_n 0, 1) := by decide +kernel
theorem dX11_asked_1 : decode cX11_asked 1 = .ok (.iconst 0, 1) := by decide +kernel
theorem dX11_asked_2 : decode cX11_asked 2 = .ok (.putfield 1, 3) := by decide +kernel
theorem dX11_asked_5 : decode cX11_asked 5 = .ok (.aload_n 0, 1) := by decide +kernel
theorem dX11_asked_6 : decode cX11_asked 6 = .ok (.sipush 940, 3) := by decide +kernel
theorem dX11_asked_9 : decode cX11_asked 9 = .ok (.invokevirtual 276, 3) := by decide +kernel
theorem dX11_asked_12 : decode cX11_asked 12 = .ok (.iload_n 1, 1) := by decide +kernel
theorem dX11_asked_13 : decode cX11_asked 13 = .ok (.iconst 1, 1) := by decide +kernel
theorem dX11_asked_14 : decode cX11_asked 14 = .ok (.iconst 3, 1) := by decide +kernel
theorem dX11_asked_15 : decode cX11_asked 15 = .ok (.invokestatic 206, 3) := by decide +kernel
theorem dX11_asked_18 : decode cX11_asked 18 = .ok (.ifCond .eq 41, 3) := by decide +kernel
theorem dX11_asked_21 : decode cX11_asked 21 = .ok (.aload_n 0, 1) := by decide +kernel
theorem dX11_asked_22 : decode cX11_asked 22 = .ok (.getfield 33, 3) := by decide +kernel
theorem dX11_asked_25 : decode cX11_asked 25 = .ok (.bipush 104, 2) := by decide +kernel
theorem dX11_asked_27 : decode cX11_asked 27 = .ok (.iaload, 1) := by decide +kernel
theorem dX11_asked_28 : decode cX11_asked 28 = .ok (.iload_n 1, 1) := by decide +kernel
theorem dX11_asked_29 : decode cX11_asked 29 = .ok (.iadd, 1) := by decide +kernel
theorem dX11_asked_30 : decode cX11_asked 30 = .ok (.sipush 400, 3) := by decide +kernel
theorem dX11_asked_33 : decode cX11_asked 33 = .ok (.if_icmp .gt 26, 3) := by decide +kernel
theorem dX11_asked_59 : decode cX11_asked 59 = .ok (.iconst (-1), 1) := by decide +kernel
theorem dX11_asked_60 : decode cX11_asked 60 = .ok (.ireturn, 1) := by decide +kernel
theorem dX11_asked_36 : decode cX11_asked 36 = .ok (.aload_n 0, 1) := by decide +kernel
theorem dX11_asked_37 : decode cX11_asked 37 = .ok (.getfield 18, 3) := by decide +kernel
theorem dX11_asked_40 : decode cX11_asked 40 = .ok (.iconst 2, 1) := by decide +kernel
theorem dX11_asked_41 : decode cX11_asked 41 = .ok (.bipush 16, 2) := by decide +kernel
theorem dX11_asked_43 : decode cX11_asked 43 = .ok (.invokestatic 206, 3) := by decide +kernel
theorem dX11_asked_46 : decode cX11_asked 46 = .ok (.ifCond .eq 13, 3) := by decide +kernel
theorem dX11_spun_0 : decode cX11_spun 0 = .ok (.aload_n 0, 1) := by decide +kernel
theorem dX11_spun_1 : decode cX11_spun 1 = .ok (.iconst 0, 1) := by decide +kernel
theorem dX11_spun_2 : decode cX11_spun 2 = .ok (.putfield 1, 3) := by decide +kernel
theorem dX11_spun_5 : decode cX11_spun 5 = .ok (.aload_n 0, 1) := by decide +kernel
theorem dX11_spun_6 : decode cX11_spun 6 = .ok (.sipush 940, 3) := by decide +kernel
theorem dX11_spun_9 : decode cX11_spun 9 = .ok (.invokevirtual 276, 3) := by decide +kernel
theorem dX11_spun_12 : decode cX11_spun 12 = .ok (.aload_n 0, 1) := by decide +kernel
theorem dX11_spun_13 : decode cX11_spun 13 = .ok (.getfield 18, 3) := by decide +kernel
theorem dX11_spun_16 : decode cX11_spun 16 = .ok (.iconst 3, 1) := by decide +kernel
theorem dX11_spun_17 : decode cX11_spun 17 = .ok (.bipush 18, 2) := by decide +kernel
theorem dX11_spun_19 : decode cX11_spun 19 = .ok (.invokestatic 206, 3) := by decide +kernel
theorem dX11_spun_22 : decode cX11_spun 22 = .ok (.ifCond .eq 12, 3) := by decide +kernel
theorem dX11_spun_34 : decode cX11_spun 34 = .ok (.iconst (-1), 1) := by decide +kernel
theorem dX11_spun_35 : decode cX11_spun 35 = .ok (.ireturn, 1) := by decide +kernel
theorem dX11_steps_0 : decode cX11_steps 0 = .ok (.aload_n 0, 1) := by decide +kernel
theorem dX11_steps_1 : decode cX11_steps 1 = .ok (.iconst 0, 1) := by decide +kernel
theorem dX11_steps_2 : decode cX11_steps 2 = .ok (.putfield 1, 3) := by decide +kernel
theorem dX11_steps_5 : decode cX11_steps 5 = .ok (.aload_n 0, 1) := by decide +kernel
theorem dX11_steps_6 : decode cX11_steps 6 = .ok (.getfield 412, 3) := by decide +kernel
theorem kF_RX11_412 : Cond.fieldLink RX11 412 "CobwebLibraryModel" "hasTorn" "Z" ∈ gT := List.mem_filter.mpr ⟨List.mem_of_getElem? (i := 1549) (by decide +kernel), by decide +kernel⟩
theorem dX11_steps_9 : decode cX11_steps 9 = .ok (.ifCond .eq 10, 3) := by decide +kernel
theorem dX11_steps_19 : decode cX11_steps 19 = .ok (.iconst (-1), 1) := by decide +kernel
theorem dX11_steps_20 : decode cX11_steps 20 = .ok (.ireturn, 1) := by decide +kernel
theorem dX11_turn_0 : decode cX11_turn 0 = .ok (.aload_n 0, 1) := by decide +kernel
theorem dX11_turn_1 : decode cX11_turn 1 = .ok (.iconst 0, 1) := by decide +kernel
theorem dX11_turn_2 : decode cX11_turn 2 = .ok (.putfield 1, 3) := by decide +kernel
theorem dX11_turn_5 : decode cX11_turn 5 = .ok (.aload_n 0, 1) := by decide +kernel
theorem dX11_turn_6 : decode cX11_turn 6 = .ok (.getfield 431, 3) := by decide +kernel
theorem kF_RX11_431 : Cond.fieldLink RX11 431 "CobwebLibraryModel" "hasTurn" "Z" ∈ gT := List.mem_filter.mpr ⟨List.mem_of_getElem? (i := 1551) (by decide +kernel), by decide +kernel⟩
theorem dX11_turn_9 : decode cX11_turn 9 = .ok (.ifCond .eq 10, 3) := by decide +kernel
theorem dX11_turn_19 : decode cX11_turn 19 = .ok (.iconst (-1), 1) := by decide +kernel
theorem dX11_turn_20 : decode cX11_turn 20 = .ok (.ireturn, 1) := by decide +kernel
theorem dX11_told_0 : decode cX11_told 0 = .ok (.aload_n 0, 1) := by decide +kernel
theorem dX11_told_1 : decode cX11_told 1 = .ok (.iconst 0, 1) := by decide +kernel
theorem dX11_told_2 : decode cX11_told 2 = .ok (.putfield 1, 3) := by decide +kernel
theorem dX11_told_5 : decode cX11_told 5 = .ok (.aload_n 0, 1) := by decide +kernel
theorem dX11_told_6 : decode cX11_told 6 = .ok (.getfield 470, 3) := by decide +kernel
theorem kF_RX11_470 : Cond.fieldLink RX11 470 "CobwebLibraryModel" "hasTold" "Z" ∈ gT := List.mem_filter.mpr ⟨List.mem_of_getElem? (i := 1556) (by decide +kernel), by decide +kernel⟩
theorem dX11_told_9 : decode cX11_told 9 = .ok (.ifCond .eq 21, 3) := by decide +kernel
theorem dX11_told_30 : decode cX11_told 30 = .ok (.iconst (-1), 1) := by decide +kernel
theorem dX11_told_31 : decode cX11_told 31 = .ok (.ireturn, 1) := by decide +kernel
theorem dX11_odds_0 : decode cX11_odds 0 = .ok (.aload_n 0, 1) := by decide +kernel
theorem dX11_odds_1 : decode cX11_odds 1 = .ok (.iconst 0, 1) := by decide +kernel
theorem dX11_odds_2 : decode cX11_odds 2 = .ok (.putfield 1, 3) := by decide +kernel
theorem dX11_odds_5 : decode cX11_odds 5 = .ok (.aload_n 0, 1) := by decide +kernel
theorem dX11_odds_6 : decode cX11_odds 6 = .ok (.iload_n 1, 1) := by decide +kernel
theorem dX11_odds_7 : decode cX11_odds 7 = .ok (.invokevirtual 306, 3) := by decide +kernel
theorem dX11_odds_10 : decode cX11_odds 10 = .ok (.ifCond .eq 13, 3) := by decide +kernel
theorem dX11_odds_23 : decode cX11_odds 23 = .ok (.iconst (-1), 1) := by decide +kernel
theorem dX11_odds_24 : decode cX11_odds 24 = .ok (.ireturn, 1) := by decide +kernel
theorem dX11_said_0 : decode cX11_said 0 = .ok (.aload_n 0, 1) := by decide +kernel
theorem dX11_said_1 : decode cX11_said 1 = .ok (.iconst 0, 1) := by decide +kernel
theorem dX11_said_2 : decode cX11_said 2 = .ok (.putfield 1, 3) := by decide +kernel
theorem dX11_said_5 : decode cX11_said 5 = .ok (.aload_n 0, 1) := by decide +kernel
theorem dX11_said_6 : decode cX11_said 6 = .ok (.getfield 33, 3) := by decide +kernel
theorem dX11_said_9 : decode cX11_said 9 = .ok (.sipush 202, 3) := by decide +kernel
theorem dX11_said_12 : decode cX11_said 12 = .ok (.iaload, 1) := by decide +kernel
theorem dX11_said_13 : decode cX11_said 13 = .ok (.ifCond .eq 8, 3) := by decide +kernel
theorem dX11_said_21 : decode cX11_said 21 = .ok (.iconst (-1), 1) := by decide +kernel
theorem dX11_said_22 : decode cX11_said 22 = .ok (.ireturn, 1) := by decide +kernel
set_option maxHeartbeats 4000000 in
set_option maxRecDepth 100000 in
theorem y_feed (l : Launch) (D : va_G) (cy : Nat → ClassId) (m0 : Nat) (v1 : Int32) (v2 : Int32) (v3 : Int32) (v4 : Int32) (v5 : Int32) (m_tape : Nat) (m_s : Nat) (m_h : Nat) (m_read : Nat) (m_names : Nat) (m_reserved : Nat) (m_undone : Nat) (m_before : Nat) (m_far : Nat) (m_wayRow : Nat) (m_keptRow : Nat) (m_askedRow : Nat) (m_rares : Nat) (m_trial : Nat) (m_hangs : Nat) (m_paths : Nat) (m_text : Nat) (m_toldAt : Nat) (m_stack : Nat) (m_truths : Nat) (m_imaged : Nat) (m_namesKept : Nat) (m_areKept : Nat) (sz : Nat)  : MI l yX11_feed cX11_feed 6 (some .int) (Rm 1 22 0 0) D cy [.ref m0, .int v1, .int v2, .int v3, .int v4, .int v5] sz [(m0, .inr (11, [.int 0, .ref m_tape, .int 0, .int 0, .int 0, .int 0, .ref m_s, .ref m_h, .ref m_read, .ref m_names, .ref m_reserved, .int 0, .int 0, .int 0, .int 0, .int 0, .int 0, .long 0, .int 0, .int 0, .int 0, .int 0, .int 0, .int 0, .int 0, .ref m_undone, .ref m_before, .int 0, .ref m_far, .ref m_wayRow, .int (-1), .ref m_keptRow, .ref m_askedRow, .ref m_rares, .ref m_trial, .int (-1), .int (-1), .ref m_hangs, .ref m_paths, .int 0, .int 0, .int 0, .int 0, .ref m_text, .int 0, .int 0, .ref m_toldAt, .int 0, .ref m_stack, .int 0, .int 0, .int 0, .int 0, .int 0, .ref m_truths, .ref m_imaged, .ref m_namesKept, .ref m_areKept])), (m_tape, .inl (cy 0, 940, .inl (fun _ => 0)))] (fun (r : Int32) (u : Unit) => r = 20) (fun u : Unit => []) := by
  refine MI.enter (by decide) (Nat.le_of_ble_eq_true rfl) ?_
  intro p e s m below meth c ls A hsz hAe C hP hD hS hl
  have C : Cx p s m _ meth c cX11_feed 6 (some .int) RX11 "feed" D cy A := C
  have hx := C.1
  have hb := C.2.1
  have hl : lv_has ls 6 [(0, .ref m0), (1, .int v1), (2, .int v2), (3, .int v3), (4, .int v4), (5, .int v5)] := hl
  refine lv_aload_n hx hb dX11_feed_0 rfl (lv_at hl 0 rfl) ?_
  refine lv_iconst (v := 0) hx hb dX11_feed_1 (by decide) ?_
  refine q_put (v := .int 0) (w' := [(m0, .inr (11, [.int 0, .ref m_tape, .int 0, .int 0, .int 0, .int 0, .ref m_s, .ref m_h, .ref m_read, .ref m_names, .ref m_reserved, .int 0, .int 0, .int 0, .int 0, .int 0, .int 0, .long 0, .int 0, .int 0, .int 0, .int 0, .int 0, .int 0, .int 0, .ref m_undone, .ref m_before, .int 0, .ref m_far, .ref m_wayRow, .int (-1), .ref m_keptRow, .ref m_askedRow, .ref m_rares, .ref m_trial, .int (-1), .int (-1), .ref m_hangs, .ref m_paths, .int 0, .int 0, .int 0, .int 0, .ref m_text, .int 0, .int 0, .ref m_toldAt, .int 0, .ref m_stack, .int 0, .int 0, .int 0, .int 0, .int 0, .ref m_truths, .ref m_imaged, .ref m_namesKept, .ref m_areKept])), (m_tape, .inl (cy 0, 940, .inl (fun _ => 0)))]) (ty := .int) C hP hD hS 0 0 rfl rfl inX11 tyX11 tyX11_ok nmX11 (by decide) kF_RX11_1 rfl rfl rfl rfl rfl (Nat.le_of_ble_eq_true rfl) rfl dX11_feed_2 (fun H locs hP hD hS => ?_)
  refine lv_aload_n hx hb dX11_feed_5 rfl (lv_at hl 0 rfl) ?_
  refine q_get (v := .int 0) C hP 0 2 rfl rfl inX11 (by decide) kF_RX11_7 rfl rfl dX11_feed_6 ?_
  refine lv_bipush (v := 20) hx hb dX11_feed_9 (by decide) ?_
  refine lv_iadd hx hb dX11_feed_11 ?_
  refine q_val (v := 20) (by decide) ?_
  refine lv_sipush (v := 940) hx hb dX11_feed_12 (by decide) ?_
  refine lv_icmp_le (tgt := 20) hx hb dX11_feed_15 (by decide) (fun _ => ?_) (fun c_0 => absurd (by decide) c_0)
  refine lv_aload_n hx hb dX11_feed_20 rfl (lv_at hl 0 rfl) ?_
  refine lv_iload_n hx hb dX11_feed_21 rfl (lv_at hl 1 rfl) ?_
  refine q_av (wr := []) (r_V (q0 := 0) (As := [.int v1]) (rest := []) (wc := [(m0, .inr (11, [.int 0, .ref m_tape, .int 0, .int 0, .int 0, .int 0, .ref m_s, .ref m_h, .ref m_read, .ref m_names, .ref m_reserved, .int 0, .int 0, .int 0, .int 0, .int 0, .int 0, .long 0, .int 0, .int 0, .int 0, .int 0, .int 0, .int 0, .int 0, .ref m_undone, .ref m_before, .int 0, .ref m_far, .ref m_wayRow, .int (-1), .ref m_keptRow, .ref m_askedRow, .ref m_rares, .ref m_trial, .int (-1), .int (-1), .ref m_hangs, .ref m_paths, .int 0, .int 0, .int 0, .int 0, .ref m_text, .int 0, .int 0, .ref m_toldAt, .int 0, .ref m_stack, .int 0, .int 0, .int 0, .int 0, .int 0, .ref m_truths, .ref m_imaged, .ref m_namesKept, .ref m_areKept])), (m_tape, .inl (cy 0, 940, .inl (fun _ => 0)))]) C (q_subP hP [0, 1] rfl) (hD.sub [0, 1] (by decide) rfl) (m_four l D cy m0 v1 m_tape 0 m_s m_h m_read m_names m_reserved m_undone m_before m_far m_wayRow m_keptRow m_askedRow m_rares m_trial m_hangs m_paths m_text m_toldAt m_stack m_truths m_imaged m_namesKept m_areKept (fun _ => 0) _ (by omega)) kwV_X11_four kM_RX11_10 rfl rfl ⟨Nat.le_of_ble_eq_true rfl, Nat.le_of_ble_eq_true rfl⟩ rfl hl.1 rfl (Nat.le_of_ble_eq_true rfl) dX11_feed_22 ⟨Nat.le_of_ble_eq_true rfl, Nat.le_of_ble_eq_true rfl⟩) C.2.2.2.2.2.2.1 hP hD hS [0, 1] [] rfl rfl (by decide) (by decide) (fun u_1 H locs hw_3 hP hD hS => ?_)
  have hP : va_P D vwCl [(m0, .inr (11, [.int 0, .ref m_tape, .int 4, .int 0, .int 0, .int 0, .ref m_s, .ref m_h, .ref m_read, .ref m_names, .ref m_reserved, .int 0, .int 0, .int 0, .int 0, .int 0, .int 0, .long 0, .int 0, .int 0, .int 0, .int 0, .int 0, .int 0, .int 0, .ref m_undone, .ref m_before, .int 0, .ref m_far, .ref m_wayRow, .int (-1), .ref m_keptRow, .ref m_askedRow, .ref m_rares, .ref m_trial, .int (-1), .int (-1), .ref m_hangs, .ref m_paths, .int 0, .int 0, .int 0, .int 0, .ref m_text, .int 0, .int 0, .ref m_toldAt, .int 0, .ref m_stack, .int 0, .int 0, .int 0, .int 0, .int 0, .ref m_truths, .ref m_imaged, .ref m_namesKept, .ref m_areKept])), (m_tape, .inl (cy 0, 940, .inl u_1))] H := hP
  have hD : va_D A [(m0, .inr (11, [.int 0, .ref m_tape, .int 4, .int 0, .int 0, .int 0, .ref m_s, .ref m_h, .ref m_read, .ref m_names, .ref m_reserved, .int 0, .int 0, .int 0, .int 0, .int 0, .int 0, .long 0, .int 0, .int 0, .int 0, .int 0, .int 0, .int 0, .int 0, .ref m_undone, .ref m_before, .int 0, .ref m_far, .ref m_wayRow, .int (-1), .ref m_keptRow, .ref m_askedRow, .ref m_rares, .ref m_trial, .int (-1), .int (-1), .ref m_hangs, .ref m_paths, .int 0, .int 0, .int 0, .int 0, .ref m_text, .int 0, .int 0, .ref m_toldAt, .int 0, .ref m_stack, .int 0, .int 0, .int 0, .int 0, .int 0, .ref m_truths, .ref m_imaged, .ref m_namesKept, .ref m_areKept])), (m_tape, .inl (cy 0, 940, .inl u_1))] := hD
  refine lv_aload_n hx hb dX11_feed_25 rfl (lv_at hl 0 rfl) ?_
  refine lv_iload_n hx hb dX11_feed_26 rfl (lv_at hl 2 rfl) ?_
  refine q_av (wr := []) (r_V (q0 := 0) (As := [.int v2]) (rest := []) (wc := [(m0, .inr (11, [.int 0, .ref m_tape, .int 4, .int 0, .int 0, .int 0, .ref m_s, .ref m_h, .ref m_read, .ref m_names, .ref m_reserved, .int 0, .int 0, .int 0, .int 0, .int 0, .int 0, .long 0, .int 0, .int 0, .int 0, .int 0, .int 0, .int 0, .int 0, .ref m_undone, .ref m_before, .int 0, .ref m_far, .ref m_wayRow, .int (-1), .ref m_keptRow, .ref m_askedRow, .ref m_rares, .ref m_trial, .int (-1), .int (-1), .ref m_hangs, .ref m_paths, .int 0, .int 0, .int 0, .int 0, .ref m_text, .int 0, .int 0, .ref m_toldAt, .int 0, .ref m_stack, .int 0, .int 0, .int 0, .int 0, .int 0, .ref m_truths, .ref m_imaged, .ref m_namesKept, .ref m_areKept])), (m_tape, .inl (cy 0, 940, .inl u_1))]) C (q_subP hP [0, 1] rfl) (hD.sub [0, 1] (by decide) rfl) (m_four l D cy m0 v2 m_tape 4 m_s m_h m_read m_names m_reserved m_undone m_before m_far m_wayRow m_keptRow m_askedRow m_rares m_trial m_hangs m_paths m_text m_toldAt m_stack m_truths m_imaged m_namesKept m_areKept u_1 _ (by omega)) kwV_X11_four kM_RX11_10 rfl rfl ⟨Nat.le_of_ble_eq_true rfl, Nat.le_of_ble_eq_true rfl⟩ rfl hl.1 rfl (Nat.le_of_ble_eq_true rfl) dX11_feed_27 ⟨Nat.le_of_ble_eq_true rfl, Nat.le_of_ble_eq_true rfl⟩) C.2.2.2.2.2.2.1 hP hD hS [0, 1] [] rfl rfl (by decide) (by decide) (fun u_4 H locs hw_6 hP hD hS => ?_)
  have hP : va_P D vwCl [(m0, .inr (11, [.int 0, .ref m_tape, .int 8, .int 0, .int 0, .int 0, .ref m_s, .ref m_h, .ref m_read, .ref m_names, .ref m_reserved, .int 0, .int 0, .int 0, .int 0, .int 0, .int 0, .long 0, .int 0, .int 0, .int 0, .int 0, .int 0, .int 0, .int 0, .ref m_undone, .ref m_before, .int 0, .ref m_far, .ref m_wayRow, .int (-1), .ref m_keptRow, .ref m_askedRow, .ref m_rares, .ref m_trial, .int (-1), .int (-1), .ref m_hangs, .ref m_paths, .int 0, .int 0, .int 0, .int 0, .ref m_text, .int 0, .int 0, .ref m_toldAt, .int 0, .ref m_stack, .int 0, .int 0, .int 0, .int 0, .int 0, .ref m_truths, .ref m_imaged, .ref m_namesKept, .ref m_areKept])), (m_tape, .inl (cy 0, 940, .inl u_4))] H := hP
  have hD : va_D A [(m0, .inr (11, [.int 0, .ref m_tape, .int 8, .int 0, .int 0, .int 0, .ref m_s, .ref m_h, .ref m_read, .ref m_names, .ref m_reserved, .int 0, .int 0, .int 0, .int 0, .int 0, .int 0, .long 0, .int 0, .int 0, .int 0, .int 0, .int 0, .int 0, .int 0, .ref m_undone, .ref m_before, .int 0, .ref m_far, .ref m_wayRow, .int (-1), .ref m_keptRow, .ref m_askedRow, .ref m_rares, .ref m_trial, .int (-1), .int (-1), .ref m_hangs, .ref m_paths, .int 0, .int 0, .int 0, .int 0, .ref m_text, .int 0, .int 0, .ref m_toldAt, .int 0, .ref m_stack, .int 0, .int 0, .int 0, .int 0, .int 0, .ref m_truths, .ref m_imaged, .ref m_namesKept, .ref m_areKept])), (m_tape, .inl (cy 0, 940, .inl u_4))] := hD
  refine lv_aload_n hx hb dX11_feed_30 rfl (lv_at hl 0 rfl) ?_
  refine lv_iload_n hx hb dX11_feed_31 rfl (lv_at hl 3 rfl) ?_
  refine q_av (wr := []) (r_V (q0 := 0) (As := [.int v3]) (rest := []) (wc := [(m0, .inr (11, [.int 0, .ref m_tape, .int 8, .int 0, .int 0, .int 0, .ref m_s, .ref m_h, .ref m_read, .ref m_names, .ref m_reserved, .int 0, .int 0, .int 0, .int 0, .int 0, .int 0, .long 0, .int 0, .int 0, .int 0, .int 0, .int 0, .int 0, .int 0, .ref m_undone, .ref m_before, .int 0, .ref m_far, .ref m_wayRow, .int (-1), .ref m_keptRow, .ref m_askedRow, .ref m_rares, .ref m_trial, .int (-1), .int (-1), .ref m_hangs, .ref m_paths, .int 0, .int 0, .int 0, .int 0, .ref m_text, .int 0, .int 0, .ref m_toldAt, .int 0, .ref m_stack, .int 0, .int 0, .int 0, .int 0, .int 0, .ref m_truths, .ref m_imaged, .ref m_namesKept, .ref m_areKept])), (m_tape, .inl (cy 0, 940, .inl u_4))]) C (q_subP hP [0, 1] rfl) (hD.sub [0, 1] (by decide) rfl) (m_four l D cy m0 v3 m_tape 8 m_s m_h m_read m_names m_reserved m_undone m_before m_far m_wayRow m_keptRow m_askedRow m_rares m_trial m_hangs m_paths m_text m_toldAt m_stack m_truths m_imaged m_namesKept m_areKept u_4 _ (by omega)) kwV_X11_four kM_RX11_10 rfl rfl ⟨Nat.le_of_ble_eq_true rfl, Nat.le_of_ble_eq_true rfl⟩ rfl hl.1 rfl (Nat.le_of_ble_eq_true rfl) dX11_feed_32 ⟨Nat.le_of_ble_eq_true rfl, Nat.le_of_ble_eq_true rfl⟩) C.2.2.2.2.2.2.1 hP hD hS [0, 1] [] rfl rfl (by decide) (by decide) (fun u_7 H locs hw_9 hP hD hS => ?_)
  have hP : va_P D vwCl [(m0, .inr (11, [.int 0, .ref m_tape, .int 12, .int 0, .int 0, .int 0, .ref m_s, .ref m_h, .ref m_read, .ref m_names, .ref m_reserved, .int 0, .int 0, .int 0, .int 0, .int 0, .int 0, .long 0, .int 0, .int 0, .int 0, .int 0, .int 0, .int 0, .int 0, .ref m_undone, .ref m_before, .int 0, .ref m_far, .ref m_wayRow, .int (-1), .ref m_keptRow, .ref m_askedRow, .ref m_rares, .ref m_trial, .int (-1), .int (-1), .ref m_hangs, .ref m_paths, .int 0, .int 0, .int 0, .int 0, .ref m_text, .int 0, .int 0, .ref m_toldAt, .int 0, .ref m_stack, .int 0, .int 0, .int 0, .int 0, .int 0, .ref m_truths, .ref m_imaged, .ref m_namesKept, .ref m_areKept])), (m_tape, .inl (cy 0, 940, .inl u_7))] H := hP
  have hD : va_D A [(m0, .inr (11, [.int 0, .ref m_tape, .int 12, .int 0, .int 0, .int 0, .ref m_s, .ref m_h, .ref m_read, .ref m_names, .ref m_reserved, .int 0, .int 0, .int 0, .int 0, .int 0, .int 0, .long 0, .int 0, .int 0, .int 0, .int 0, .int 0, .int 0, .int 0, .ref m_undone, .ref m_before, .int 0, .ref m_far, .ref m_wayRow, .int (-1), .ref m_keptRow, .ref m_askedRow, .ref m_rares, .ref m_trial, .int (-1), .int (-1), .ref m_hangs, .ref m_paths, .int 0, .int 0, .int 0, .int 0, .ref m_text, .int 0, .int 0, .ref m_toldAt, .int 0, .ref m_stack, .int 0, .int 0, .int 0, .int 0, .int 0, .ref m_truths, .ref m_imaged, .ref m_namesKept, .ref m_areKept])), (m_tape, .inl (cy 0, 940, .inl u_7))] := hD
  refine lv_aload_n hx hb dX11_feed_35 rfl (lv_at hl 0 rfl) ?_
  refine lv_iload hx hb dX11_feed_36 (lv_at hl 4 rfl) ?_
  refine q_av (wr := []) (r_V (q0 := 0) (As := [.int v4]) (rest := []) (wc := [(m0, .inr (11, [.int 0, .ref m_tape, .int 12, .int 0, .int 0, .int 0, .ref m_s, .ref m_h, .ref m_read, .ref m_names, .ref m_reserved, .int 0, .int 0, .int 0, .int 0, .int 0, .int 0, .long 0, .int 0, .int 0, .int 0, .int 0, .int 0, .int 0, .int 0, .ref m_undone, .ref m_before, .int 0, .ref m_far, .ref m_wayRow, .int (-1), .ref m_keptRow, .ref m_askedRow, .ref m_rares, .ref m_trial, .int (-1), .int (-1), .ref m_hangs, .ref m_paths, .int 0, .int 0, .int 0, .int 0, .ref m_text, .int 0, .int 0, .ref m_toldAt, .int 0, .ref m_stack, .int 0, .int 0, .int 0, .int 0, .int 0, .ref m_truths, .ref m_imaged, .ref m_namesKept, .ref m_areKept])), (m_tape, .inl (cy 0, 940, .inl u_7))]) C (q_subP hP [0, 1] rfl) (hD.sub [0, 1] (by decide) rfl) (m_four l D cy m0 v4 m_tape 12 m_s m_h m_read m_names m_reserved m_undone m_before m_far m_wayRow m_keptRow m_askedRow m_rares m_trial m_hangs m_paths m_text m_toldAt m_stack m_truths m_imaged m_namesKept m_areKept u_7 _ (by omega)) kwV_X11_four kM_RX11_10 rfl rfl ⟨Nat.le_of_ble_eq_true rfl, Nat.le_of_ble_eq_true rfl⟩ rfl hl.1 rfl (Nat.le_of_ble_eq_true rfl) dX11_feed_38 ⟨Nat.le_of_ble_eq_true rfl, Nat.le_of_ble_eq_true rfl⟩) C.2.2.2.2.2.2.1 hP hD hS [0, 1] [] rfl rfl (by decide) (by decide) (fun u_10 H locs hw_12 hP hD hS => ?_)
  have hP : va_P D vwCl [(m0, .inr (11, [.int 0, .ref m_tape, .int 16, .int 0, .int 0, .int 0, .ref m_s, .ref m_h, .ref m_read, .ref m_names, .ref m_reserved, .int 0, .int 0, .int 0, .int 0, .int 0, .int 0, .long 0, .int 0, .int 0, .int 0, .int 0, .int 0, .int 0, .int 0, .ref m_undone, .ref m_before, .int 0, .ref m_far, .ref m_wayRow, .int (-1), .ref m_keptRow, .ref m_askedRow, .ref m_rares, .ref m_trial, .int (-1), .int (-1), .ref m_hangs, .ref m_paths, .int 0, .int 0, .int 0, .int 0, .ref m_text, .int 0, .int 0, .ref m_toldAt, .int 0, .ref m_stack, .int 0, .int 0, .int 0, .int 0, .int 0, .ref m_truths, .ref m_imaged, .ref m_namesKept, .ref m_areKept])), (m_tape, .inl (cy 0, 940, .inl u_10))] H := hP
  have hD : va_D A [(m0, .inr (11, [.int 0, .ref m_tape, .int 16, .int 0, .int 0, .int 0, .ref m_s, .ref m_h, .ref m_read, .ref m_names, .ref m_reserved, .int 0, .int 0, .int 0, .int 0, .int 0, .int 0, .long 0, .int 0, .int 0, .int 0, .int 0, .int 0, .int 0, .int 0, .ref m_undone, .ref m_before, .int 0, .ref m_far, .ref m_wayRow, .int (-1), .ref m_keptRow, .ref m_askedRow, .ref m_rares, .ref m_trial, .int (-1), .int (-1), .ref m_hangs, .ref m_paths, .int 0, .int 0, .int 0, .int 0, .ref m_text, .int 0, .int 0, .ref m_toldAt, .int 0, .ref m_stack, .int 0, .int 0, .int 0, .int 0, .int 0, .ref m_truths, .ref m_imaged, .ref m_namesKept, .ref m_areKept])), (m_tape, .inl (cy 0, 940, .inl u_10))] := hD
  refine lv_aload_n hx hb dX11_feed_41 rfl (lv_at hl 0 rfl) ?_
  refine lv_iload hx hb dX11_feed_42 (lv_at hl 5 rfl) ?_
  refine q_av (wr := []) (r_V (q0 := 0) (As := [.int v5]) (rest := []) (wc := [(m0, .inr (11, [.int 0, .ref m_tape, .int 16, .int 0, .int 0, .int 0, .ref m_s, .ref m_h, .ref m_read, .ref m_names, .ref m_reserved, .int 0, .int 0, .int 0, .int 0, .int 0, .int 0, .long 0, .int 0, .int 0, .int 0, .int 0, .int 0, .int 0, .int 0, .ref m_undone, .ref m_before, .int 0, .ref m_far, .ref m_wayRow, .int (-1), .ref m_keptRow, .ref m_askedRow, .ref m_rares, .ref m_trial, .int (-1), .int (-1), .ref m_hangs, .ref m_paths, .int 0, .int 0, .int 0, .int 0, .ref m_text, .int 0, .int 0, .ref m_toldAt, .int 0, .ref m_stack, .int 0, .int 0, .int 0, .int 0, .int 0, .ref m_truths, .ref m_imaged, .ref m_namesKept, .ref m_areKept])), (m_tape, .inl (cy 0, 940, .inl u_10))]) C (q_subP hP [0, 1] rfl) (hD.sub [0, 1] (by decide) rfl) (m_four l D cy m0 v5 m_tape 16 m_s m_h m_read m_names m_reserved m_undone m_before m_far m_wayRow m_keptRow m_askedRow m_rares m_trial m_hangs m_paths m_text m_toldAt m_stack m_truths m_imaged m_namesKept m_areKept u_10 _ (by omega)) kwV_X11_four kM_RX11_10 rfl rfl ⟨Nat.le_of_ble_eq_true rfl, Nat.le_of_ble_eq_true rfl⟩ rfl hl.1 rfl (Nat.le_of_ble_eq_true rfl) dX11_feed_44 ⟨Nat.le_of_ble_eq_true rfl, Nat.le_of_ble_eq_true rfl⟩) C.2.2.2.2.2.2.1 hP hD hS [0, 1] [] rfl rfl (by decide) (by decide) (fun u_13 H locs hw_15 hP hD hS => ?_)
  have hP : va_P D vwCl [(m0, .inr (11, [.int 0, .ref m_tape, .int 20, .int 0, .int 0, .int 0, .ref m_s, .ref m_h, .ref m_read, .ref m_names, .ref m_reserved, .int 0, .int 0, .int 0, .int 0, .int 0, .int 0, .long 0, .int 0, .int 0, .int 0, .int 0, .int 0, .int 0, .int 0, .ref m_undone, .ref m_before, .int 0, .ref m_far, .ref m_wayRow, .int (-1), .ref m_keptRow, .ref m_askedRow, .ref m_rares, .ref m_trial, .int (-1), .int (-1), .ref m_hangs, .ref m_paths, .int 0, .int 0, .int 0, .int 0, .ref m_text, .int 0, .int 0, .ref m_toldAt, .int 0, .ref m_stack, .int 0, .int 0, .int 0, .int 0, .int 0, .ref m_truths, .ref m_imaged, .ref m_namesKept, .ref m_areKept])), (m_tape, .inl (cy 0, 940, .inl u_13))] H := hP
  have hD : va_D A [(m0, .inr (11, [.int 0, .ref m_tape, .int 20, .int 0, .int 0, .int 0, .ref m_s, .ref m_h, .ref m_read, .ref m_names, .ref m_reserved, .int 0, .int 0, .int 0, .int 0, .int 0, .int 0, .long 0, .int 0, .int 0, .int 0, .int 0, .int 0, .int 0, .int 0, .ref m_undone, .ref m_before, .int 0, .ref m_far, .ref m_wayRow, .int (-1), .ref m_keptRow, .ref m_askedRow, .ref m_rares, .ref m_trial, .int (-1), .int (-1), .ref m_hangs, .ref m_paths, .int 0, .int 0, .int 0, .int 0, .ref m_text, .int 0, .int 0, .ref m_toldAt, .int 0, .ref m_stack, .int 0, .int 0, .int 0, .int 0, .int 0, .ref m_truths, .ref m_imaged, .ref m_namesKept, .ref m_areKept])), (m_tape, .inl (cy 0, 940, .inl u_13))] := hD
  refine lv_aload_n hx hb dX11_feed_47 rfl (lv_at hl 0 rfl) ?_
  refine q_get (v := .int 20) C hP 0 2 rfl rfl inX11 (by decide) kF_RX11_7 rfl rfl dX11_feed_48 ?_
  exact q_iret (rm := (Rm 1 22 0 0)) C hS () rfl rfl (q_subP hP [] rfl) (hD.sub [] (by decide) rfl) (Nat.le_of_ble_eq_true rfl) (Nat.le_of_ble_eq_true rfl) dX11_feed_51
set_option maxHeartbeats 4000000 in
set_option maxRecDepth 100000 in
theorem y_end (l : Launch) (D : va_G) (cy : Nat → ClassId) (m0 : Nat) (n : Int32) (m_tape : Nat) (m_s : Nat) (m_h : Nat) (m_read : Nat) (m_names : Nat) (m_reserved : Nat) (m_undone : Nat) (m_before : Nat) (m_far : Nat) (m_wayRow : Nat) (m_keptRow : Nat) (m_askedRow : Nat) (m_rares : Nat) (m_trial : Nat) (m_hangs : Nat) (m_paths : Nat) (m_text : Nat) (m_toldAt : Nat) (m_stack : Nat) (m_truths : Nat) (m_imaged : Nat) (m_namesKept : Nat) (m_areKept : Nat) (sz : Nat)  : MI l yX11_end cX11_end 2 (some .boolean) (Rm 0 0 0 0) D cy [.ref m0, .int n] sz [(m0, .inr (11, [.int 0, .ref m_tape, .int 0, .int 0, .int 0, .int 0, .ref m_s, .ref m_h, .ref m_read, .ref m_names, .ref m_reserved, .int 0, .int 0, .int 0, .int 0, .int 0, .int 0, .long 0, .int 0, .int 0, .int 0, .int 0, .int 0, .int 0, .int 0, .ref m_undone, .ref m_before, .int 0, .ref m_far, .ref m_wayRow, .int (-1), .ref m_keptRow, .ref m_askedRow, .ref m_rares, .ref m_trial, .int (-1), .int (-1), .ref m_hangs, .ref m_paths, .int 0, .int 0, .int 0, .int 0, .ref m_text, .int 0, .int 0, .ref m_toldAt, .int 0, .ref m_stack, .int 0, .int 0, .int 0, .int 0, .int 0, .ref m_truths, .ref m_imaged, .ref m_namesKept, .ref m_areKept]))] (fun (r : Int32) (u : Unit) => r = (rEnd n)) (fun u : Unit => []) := by
  refine MI.enter (by decide) (Nat.le_of_ble_eq_true rfl) ?_
  intro p e s m below meth c ls A hsz hAe C hP hD hS hl
  have C : Cx p s m _ meth c cX11_end 2 (some .boolean) RX11 "end" D cy A := C
  have hx := C.1
  have hb := C.2.1
  have hl : lv_has ls 2 [(0, .ref m0), (1, .int n)] := hl
  refine lv_aload_n hx hb dX11_end_0 rfl (lv_at hl 0 rfl) ?_
  refine lv_iconst (v := 0) hx hb dX11_end_1 (by decide) ?_
  refine q_put (v := .int 0) (w' := [(m0, .inr (11, [.int 0, .ref m_tape, .int 0, .int 0, .int 0, .int 0, .ref m_s, .ref m_h, .ref m_read, .ref m_names, .ref m_reserved, .int 0, .int 0, .int 0, .int 0, .int 0, .int 0, .long 0, .int 0, .int 0, .int 0, .int 0, .int 0, .int 0, .int 0, .ref m_undone, .ref m_before, .int 0, .ref m_far, .ref m_wayRow, .int (-1), .ref m_keptRow, .ref m_askedRow, .ref m_rares, .ref m_trial, .int (-1), .int (-1), .ref m_hangs, .ref m_paths, .int 0, .int 0, .int 0, .int 0, .ref m_text, .int 0, .int 0, .ref m_toldAt, .int 0, .ref m_stack, .int 0, .int 0, .int 0, .int 0, .int 0, .ref m_truths, .ref m_imaged, .ref m_namesKept, .ref m_areKept]))]) (ty := .int) C hP hD hS 0 0 rfl rfl inX11 tyX11 tyX11_ok nmX11 (by decide) kF_RX11_1 rfl rfl rfl rfl rfl (Nat.le_of_ble_eq_true rfl) rfl dX11_end_2 (fun H locs hP hD hS => ?_)
  refine lv_iload_n hx hb dX11_end_5 rfl (lv_at hl 1 rfl) ?_
  refine lv_if_lt (tgt := 17) hx hb dX11_end_6 (by decide) (fun c_1 => ?_) (fun c_1 => ?_)
  · refine lv_iconst (v := 0) hx hb dX11_end_17 (by decide) ?_
    exact q_iret (rm := (Rm 0 0 0 0)) C hS () rfl (by have z0 := (Int32.lt_iff_toInt_lt).mp c_1; have e0 : (0 : Int32).toInt = 0 := (by decide); show _ = if n.toInt = 0 then 1 else 0; repeat (first | rfl | rw [if_pos (by omega)] | rw [if_neg (by omega)])) (q_subP hP [] rfl) (hD.sub [] (by decide) rfl) (Nat.le_of_ble_eq_true rfl) (Nat.le_of_ble_eq_true rfl) dX11_end_18
  · refine lv_iload_n hx hb dX11_end_9 rfl (lv_at hl 1 rfl) ?_
    refine lv_aload_n hx hb dX11_end_10 rfl (lv_at hl 0 rfl) ?_
    refine q_get (v := .int 0) C hP 0 2 rfl rfl inX11 (by decide) kF_RX11_7 rfl rfl dX11_end_11 ?_
    refine lv_icmp_le (tgt := 19) hx hb dX11_end_14 (by decide) (fun c_2 => ?_) (fun c_2 => ?_)
    · refine lv_aload_n hx hb dX11_end_19 rfl (lv_at hl 0 rfl) ?_
      refine lv_iload_n hx hb dX11_end_20 rfl (lv_at hl 1 rfl) ?_
      refine q_put (v := .int n) (w' := [(m0, .inr (11, [.int 0, .ref m_tape, .int n, .int 0, .int 0, .int 0, .ref m_s, .ref m_h, .ref m_read, .ref m_names, .ref m_reserved, .int 0, .int 0, .int 0, .int 0, .int 0, .int 0, .long 0, .int 0, .int 0, .int 0, .int 0, .int 0, .int 0, .int 0, .ref m_undone, .ref m_before, .int 0, .ref m_far, .ref m_wayRow, .int (-1), .ref m_keptRow, .ref m_askedRow, .ref m_rares, .ref m_trial, .int (-1), .int (-1), .ref m_hangs, .ref m_paths, .int 0, .int 0, .int 0, .int 0, .ref m_text, .int 0, .int 0, .ref m_toldAt, .int 0, .ref m_stack, .int 0, .int 0, .int 0, .int 0, .int 0, .ref m_truths, .ref m_imaged, .ref m_namesKept, .ref m_areKept]))]) (ty := .int) C hP hD hS 0 2 rfl rfl inX11 tyX11 tyX11_ok nmX11 (by decide) kF_RX11_7 rfl rfl rfl rfl rfl (Nat.le_of_ble_eq_true rfl) rfl dX11_end_21 (fun H locs hP hD hS => ?_)
      refine lv_iconst (v := 1) hx hb dX11_end_24 (by decide) ?_
      exact q_iret (rm := (Rm 0 0 0 0)) C hS () rfl (by have z0 := (not_congr Int32.lt_iff_toInt_lt).mp c_1; have z1 := (Int32.le_iff_toInt_le).mp c_2; have e0 : (0 : Int32).toInt = 0 := (by decide); show _ = if n.toInt = 0 then 1 else 0; repeat (first | rfl | rw [if_pos (by omega)] | rw [if_neg (by omega)])) (q_subP hP [] rfl) (hD.sub [] (by decide) rfl) (Nat.le_of_ble_eq_true rfl) (Nat.le_of_ble_eq_true rfl) dX11_end_25
    · refine lv_iconst (v := 0) hx hb dX11_end_17 (by decide) ?_
      exact q_iret (rm := (Rm 0 0 0 0)) C hS () rfl (by have z0 := (not_congr Int32.lt_iff_toInt_lt).mp c_1; have z1 := (not_congr Int32.le_iff_toInt_le).mp c_2; have e0 : (0 : Int32).toInt = 0 := (by decide); show _ = if n.toInt = 0 then 1 else 0; repeat (first | rfl | rw [if_pos (by omega)] | rw [if_neg (by omega)])) (q_subP hP [] rfl) (hD.sub [] (by decide) rfl) (Nat.le_of_ble_eq_true rfl) (Nat.le_of_ble_eq_true rfl) dX11_end_18
set_option maxHeartbeats 4000000 in
set_option maxRecDepth 100000 in
theorem lp_y_library_85 (l : Launch) (D : va_G) (cy : Nat → ClassId) (m0 : Nat) (m_areKept : Nat) (m_askedRow : Nat) (m_before : Nat) (m_far : Nat) (m_h : Nat) (m_hangs : Nat) (m_imaged : Nat) (m_keptRow : Nat) (m_names : Nat) (m_namesKept : Nat) (m_paths : Nat) (m_rares : Nat) (m_read : Nat) (m_reserved : Nat) (m_s : Nat) (m_stack : Nat) (m_tape : Nat) (m_text : Nat) (m_toldAt : Nat) (m_trial : Nat) (m_truths : Nat) (m_undone : Nat) (m_wayRow : Nat) (u_4 : Nat → Int32)   {p : Program} {e : Env} {s : State} {m : MethodId} {args : Array Value} {below : List Frame} {meth : Method} {c : Code} {A : Nat → Prop} {Q : State → Prop} {cells slots : Nat} (hroom : cells ≤ ((Rm 2 43 0 0)).cells ∧ slots ≤ ((Rm 2 43 0 0)).slots) (C : Cx p s m args meth c cX11_library 2 (some .int) RX11 "library" D cy A)
    (cont : ∀ (gs1 : Nat → Int32) (H : Heap) (locs : List Loc) (ls : Array Slot), va_P D vwCl [(m_s, .inl (cy 1, 383, .inl gs1)), (m_names, .inl (cy 2, 16, .inr (.inl (fun _ => 0)))), (m_h, .inl (cy 1, 104, .inl u_4)), (m0, .inr (11, [.int 0, .ref m_tape, .int 0, .int 0, .int 0, .int 900, .ref m_s, .ref m_h, .ref m_read, .ref m_names, .ref m_reserved, .int 0, .int 0, .int 0, .int 0, .int 0, .int 0, .long 0, .int 0, .int 0, .int 0, .int 0, .int 0, .int 0, .int 0, .ref m_undone, .ref m_before, .int 0, .ref m_far, .ref m_wayRow, .int (-1), .ref m_keptRow, .ref m_askedRow, .ref m_rares, .ref m_trial, .int (-1), .int (-1), .ref m_hangs, .ref m_paths, .int 0, .int 0, .int 0, .int 0, .ref m_text, .int 0, .int 0, .ref m_toldAt, .int 0, .ref m_stack, .int 0, .int 0, .int 0, .int 0, .int 0, .ref m_truths, .ref m_imaged, .ref m_namesKept, .ref m_areKept]))] H → va_D A [(m_s, .inl (cy 1, 383, .inl gs1)), (m_names, .inl (cy 2, 16, .inr (.inl (fun _ => 0)))), (m_h, .inl (cy 1, 104, .inl u_4)), (m0, .inr (11, [.int 0, .ref m_tape, .int 0, .int 0, .int 0, .int 900, .ref m_s, .ref m_h, .ref m_read, .ref m_names, .ref m_reserved, .int 0, .int 0, .int 0, .int 0, .int 0, .int 0, .long 0, .int 0, .int 0, .int 0, .int 0, .int 0, .int 0, .int 0, .ref m_undone, .ref m_before, .int 0, .ref m_far, .ref m_wayRow, .int (-1), .ref m_keptRow, .ref m_askedRow, .ref m_rares, .ref m_trial, .int (-1), .int (-1), .ref m_hangs, .ref m_paths, .int 0, .int 0, .int 0, .int 0, .ref m_text, .int 0, .int 0, .ref m_toldAt, .int 0, .ref m_stack, .int 0, .int 0, .int 0, .int 0, .int 0, .ref m_truths, .ref m_imaged, .ref m_namesKept, .ref m_areKept]))] → va_S A s.heap H locs → lv_has ls 2 [(1, .int 383), (0, .ref m0)] → W p l e (Rm 2 43 0 0) s m args below meth c H locs cells slots Q (F0 m 120 ls [])) :
    ∀ (k i_10 : Nat) (gs1 : Nat → Int32) (H : Heap) (locs : List Loc) (ls : Array Slot), i_10 + k = 383 → va_P D vwCl [(m_s, .inl (cy 1, 383, .inl gs1)), (m_names, .inl (cy 2, 16, .inr (.inl (fun _ => 0)))), (m_h, .inl (cy 1, 104, .inl u_4)), (m0, .inr (11, [.int 0, .ref m_tape, .int 0, .int 0, .int 0, .int 900, .ref m_s, .ref m_h, .ref m_read, .ref m_names, .ref m_reserved, .int 0, .int 0, .int 0, .int 0, .int 0, .int 0, .long 0, .int 0, .int 0, .int 0, .int 0, .int 0, .int 0, .int 0, .ref m_undone, .ref m_before, .int 0, .ref m_far, .ref m_wayRow, .int (-1), .ref m_keptRow, .ref m_askedRow, .ref m_rares, .ref m_trial, .int (-1), .int (-1), .ref m_hangs, .ref m_paths, .int 0, .int 0, .int 0, .int 0, .ref m_text, .int 0, .int 0, .ref m_toldAt, .int 0, .ref m_stack, .int 0, .int 0, .int 0, .int 0, .int 0, .ref m_truths, .ref m_imaged, .ref m_namesKept, .ref m_areKept]))] H → va_D A [(m_s, .inl (cy 1, 383, .inl gs1)), (m_names, .inl (cy 2, 16, .inr (.inl (fun _ => 0)))), (m_h, .inl (cy 1, 104, .inl u_4)), (m0, .inr (11, [.int 0, .ref m_tape, .int 0, .int 0, .int 0, .int 900, .ref m_s, .ref m_h, .ref m_read, .ref m_names, .ref m_reserved, .int 0, .int 0, .int 0, .int 0, .int 0, .int 0, .long 0, .int 0, .int 0, .int 0, .int 0, .int 0, .int 0, .int 0, .ref m_undone, .ref m_before, .int 0, .ref m_far, .ref m_wayRow, .int (-1), .ref m_keptRow, .ref m_askedRow, .ref m_rares, .ref m_trial, .int (-1), .int (-1), .ref m_hangs, .ref m_paths, .int 0, .int 0, .int 0, .int 0, .ref m_text, .int 0, .int 0, .ref m_toldAt, .int 0, .ref m_stack, .int 0, .int 0, .int 0, .int 0, .int 0, .ref m_truths, .ref m_imaged, .ref m_namesKept, .ref m_areKept]))] → va_S A s.heap H locs → lv_has ls 2 [(1, .int (nI i_10)), (0, .ref m0)] → W p l e (Rm 2 43 0 0) s m args below meth c H locs cells slots Q (F0 m 85 ls []) := by
  have hx := C.1
  have hb := C.2.1
  intro k
  induction k with
  | zero =>
    intro i_10 gs1 H locs ls hik hP hD hS hl
    obtain rfl : i_10 = 383 := by omega
    have hl : lv_has ls 2 [(1, .int 383), (0, .ref m0)] := hl
    have hP : va_P D vwCl [(m_s, .inl (cy 1, 383, .inl gs1)), (m_names, .inl (cy 2, 16, .inr (.inl (fun _ => 0)))), (m_h, .inl (cy 1, 104, .inl u_4)), (m0, .inr (11, [.int 0, .ref m_tape, .int 0, .int 0, .int 0, .int 900, .ref m_s, .ref m_h, .ref m_read, .ref m_names, .ref m_reserved, .int 0, .int 0, .int 0, .int 0, .int 0, .int 0, .long 0, .int 0, .int 0, .int 0, .int 0, .int 0, .int 0, .int 0, .ref m_undone, .ref m_before, .int 0, .ref m_far, .ref m_wayRow, .int (-1), .ref m_keptRow, .ref m_askedRow, .ref m_rares, .ref m_trial, .int (-1), .int (-1), .ref m_hangs, .ref m_paths, .int 0, .int 0, .int 0, .int 0, .ref m_text, .int 0, .int 0, .ref m_toldAt, .int 0, .ref m_stack, .int 0, .int 0, .int 0, .int 0, .int 0, .ref m_truths, .ref m_imaged, .ref m_namesKept, .ref m_areKept]))] H := hP
    have hD : va_D A [(m_s, .inl (cy 1, 383, .inl gs1)), (m_names, .inl (cy 2, 16, .inr (.inl (fun _ => 0)))), (m_h, .inl (cy 1, 104, .inl u_4)), (m0, .inr (11, [.int 0, .ref m_tape, .int 0, .int 0, .int 0, .int 900, .ref m_s, .ref m_h, .ref m_read, .ref m_names, .ref m_reserved, .int 0, .int 0, .int 0, .int 0, .int 0, .int 0, .long 0, .int 0, .int 0, .int 0, .int 0, .int 0, .int 0, .int 0, .ref m_undone, .ref m_before, .int 0, .ref m_far, .ref m_wayRow, .int (-1), .ref m_keptRow, .ref m_askedRow, .ref m_rares, .ref m_trial, .int (-1), .int (-1), .ref m_hangs, .ref m_paths, .int 0, .int 0, .int 0, .int 0, .ref m_text, .int 0, .int 0, .ref m_toldAt, .int 0, .ref m_stack, .int 0, .int 0, .int 0, .int 0, .int 0, .ref m_truths, .ref m_imaged, .ref m_namesKept, .ref m_areKept]))] := hD
    refine lv_iload_n hx hb dX11_library_85 rfl (lv_at hl 0 rfl) ?_
    refine lv_sipush (v := 383) hx hb dX11_library_86 (by decide) ?_
    refine lv_icmp_ge (tgt := 120) hx hb dX11_library_89 (by decide) (fun _ => ?_) (fun c_0 => absurd (by decide) c_0)
    exact cont gs1 H locs ls hP hD hS hl
  | succ k ih =>
    intro i_10 gs1 H locs ls hik hP hD hS hl
    refine lv_iload_n hx hb dX11_library_85 rfl (lv_at hl 0 rfl) ?_
    refine lv_sipush (v := 383) hx hb dX11_library_86 (by decide) ?_
    refine lv_icmp_ge (tgt := 120) hx hb dX11_library_89 (by decide) (fun c_0 => absurd c_0 (nI_ge (b := 383) (by omega) (by decide))) (fun _ => ?_)
    refine lv_aload_n hx hb dX11_library_92 rfl (lv_at hl 1 rfl) ?_
    refine q_get (v := .ref m_s) C hP 3 6 rfl rfl inX11 (by decide) kF_RX11_33 rfl rfl dX11_library_93 ?_
    refine lv_iload_n hx hb dX11_library_96 rfl (lv_at hl 0 rfl) ?_
    refine lv_iload_n hx hb dX11_library_97 rfl (lv_at hl 0 rfl) ?_
    refine lv_bipush (v := 104) hx hb dX11_library_98 (by decide) ?_
    refine lv_icmp_ge (tgt := 112) hx hb dX11_library_100 (by decide) (fun c_111 => ?_) (fun c_111 => ?_)
    · have hb_112 : 104 ≤ i_10 := (nI_leI (a := 104) (b := i_10) (by omega) (by omega)).mp c_111
      refine lv_iconst (v := 0) hx hb dX11_library_112 (by decide) ?_
      refine q_iast (g := upd gs1 i_10 0) (w' := [(m_s, .inl (cy 1, 383, .inl (upd gs1 i_10 0))), (m_names, .inl (cy 2, 16, .inr (.inl (fun _ => 0)))), (m_h, .inl (cy 1, 104, .inl u_4)), (m0, .inr (11, [.int 0, .ref m_tape, .int 0, .int 0, .int 0, .int 900, .ref m_s, .ref m_h, .ref m_read, .ref m_names, .ref m_reserved, .int 0, .int 0, .int 0, .int 0, .int 0, .int 0, .long 0, .int 0, .int 0, .int 0, .int 0, .int 0, .int 0, .int 0, .ref m_undone, .ref m_before, .int 0, .ref m_far, .ref m_wayRow, .int (-1), .ref m_keptRow, .ref m_askedRow, .ref m_rares, .ref m_trial, .int (-1), .int (-1), .ref m_hangs, .ref m_paths, .int 0, .int 0, .int 0, .int 0, .ref m_text, .int 0, .int 0, .ref m_toldAt, .int 0, .ref m_stack, .int 0, .int 0, .int 0, .int 0, .int 0, .ref m_truths, .ref m_imaged, .ref m_namesKept, .ref m_areKept]))]) C hP hD hS 0 rfl (vp_in_nI (by omega) (by decide)) (by rw [nI_clamp (by omega)]) rfl dX11_library_113 (fun H locs hP hD hS => ?_)
      refine lv_iinc (v := (nI (i_10 + 1))) (lv' := [(1, .int (nI (i_10 + 1))), (0, .ref m0)]) hx hb dX11_library_114 hl (k := 0) rfl (nI_1 _) (by decide) rfl (fun ls hl => ?_)
      refine lv_goto (tgt := 85) hx hb dX11_library_117 (by decide) ?_
      exact ih (i_10 + 1) (upd gs1 i_10 0) H locs ls (by omega) hP hD hS (lv_sub hl [0, 1] rfl)
    · have hb_113 : ¬ (104 ≤ i_10) := fun q => c_111 ((nI_leI (a := 104) (b := i_10) (by omega) (by omega)).mpr q)
      refine lv_aload_n hx hb dX11_library_103 rfl (lv_at hl 1 rfl) ?_
      refine q_get (v := .ref m_h) C hP 3 7 rfl rfl inX11 (by decide) kF_RX11_37 rfl rfl dX11_library_104 ?_
      refine lv_iload_n hx hb dX11_library_107 rfl (lv_at hl 0 rfl) ?_
      refine q_iald (v := (u_4 i_10)) C hP 2 rfl (vp_in_nI (by omega) (by decide)) (by rw [nI_clamp (by omega)]) dX11_library_108 ?_
      refine lv_goto (tgt := 113) hx hb dX11_library_109 (by decide) ?_
      refine q_iast (g := upd gs1 i_10 (u_4 i_10)) (w' := [(m_s, .inl (cy 1, 383, .inl (upd gs1 i_10 (u_4 i_10)))), (m_names, .inl (cy 2, 16, .inr (.inl (fun _ => 0)))), (m_h, .inl (cy 1, 104, .inl u_4)), (m0, .inr (11, [.int 0, .ref m_tape, .int 0, .int 0, .int 0, .int 900, .ref m_s, .ref m_h, .ref m_read, .ref m_names, .ref m_reserved, .int 0, .int 0, .int 0, .int 0, .int 0, .int 0, .long 0, .int 0, .int 0, .int 0, .int 0, .int 0, .int 0, .int 0, .ref m_undone, .ref m_before, .int 0, .ref m_far, .ref m_wayRow, .int (-1), .ref m_keptRow, .ref m_askedRow, .ref m_rares, .ref m_trial, .int (-1), .int (-1), .ref m_hangs, .ref m_paths, .int 0, .int 0, .int 0, .int 0, .ref m_text, .int 0, .int 0, .ref m_toldAt, .int 0, .ref m_stack, .int 0, .int 0, .int 0, .int 0, .int 0, .ref m_truths, .ref m_imaged, .ref m_namesKept, .ref m_areKept]))]) C hP hD hS 0 rfl (vp_in_nI (by omega) (by decide)) (by rw [nI_clamp (by omega)]) rfl dX11_library_113 (fun H locs hP hD hS => ?_)
      refine lv_iinc (v := (nI (i_10 + 1))) (lv' := [(1, .int (nI (i_10 + 1))), (0, .ref m0)]) hx hb dX11_library_114 hl (k := 0) rfl (nI_1 _) (by decide) rfl (fun ls hl => ?_)
      refine lv_goto (tgt := 85) hx hb dX11_library_117 (by decide) ?_
      exact ih (i_10 + 1) (upd gs1 i_10 (u_4 i_10)) H locs ls (by omega) hP hD hS (lv_sub hl [0, 1] rfl)
set_option maxHeartbeats 4000000 in
set_option maxRecDepth 100000 in
theorem lp_y_library_122 (l : Launch) (D : va_G) (cy : Nat → ClassId) (m0 : Nat) (m_areKept : Nat) (m_askedRow : Nat) (m_before : Nat) (m_far : Nat) (m_h : Nat) (m_hangs : Nat) (m_imaged : Nat) (m_keptRow : Nat) (m_names : Nat) (m_namesKept : Nat) (m_paths : Nat) (m_rares : Nat) (m_read : Nat) (m_reserved : Nat) (m_s : Nat) (m_stack : Nat) (m_tape : Nat) (m_text : Nat) (m_toldAt : Nat) (m_trial : Nat) (m_truths : Nat) (m_undone : Nat) (m_wayRow : Nat) (u_4 : Nat → Int32)   {p : Program} {e : Env} {s : State} {m : MethodId} {args : Array Value} {below : List Frame} {meth : Method} {c : Code} {A : Nat → Prop} {Q : State → Prop} {cells slots : Nat} (hroom : cells ≤ ((Rm 2 43 0 0)).cells ∧ slots ≤ ((Rm 2 43 0 0)).slots) (C : Cx p s m args meth c cX11_library 2 (some .int) RX11 "library" D cy A)
    (cont : ∀ (gs2 : Nat → Int32) (gn : Nat → Int64) (H : Heap) (locs : List Loc) (ls : Array Slot), va_P D vwCl [(m_s, .inl (cy 1, 383, .inl gs2)), (m_names, .inl (cy 2, 16, .inr (.inl gn))), (m_h, .inl (cy 1, 104, .inl u_4)), (m0, .inr (11, [.int 0, .ref m_tape, .int 0, .int 0, .int 0, .int 900, .ref m_s, .ref m_h, .ref m_read, .ref m_names, .ref m_reserved, .int 0, .int 0, .int 0, .int 0, .int 0, .int 0, .long 0, .int 0, .int 0, .int 0, .int 0, .int 0, .int 0, .int 0, .ref m_undone, .ref m_before, .int 0, .ref m_far, .ref m_wayRow, .int (-1), .ref m_keptRow, .ref m_askedRow, .ref m_rares, .ref m_trial, .int (-1), .int (-1), .ref m_hangs, .ref m_paths, .int 0, .int 0, .int 0, .int 0, .ref m_text, .int 0, .int 0, .ref m_toldAt, .int 0, .ref m_stack, .int 0, .int 0, .int 0, .int 0, .int 0, .ref m_truths, .ref m_imaged, .ref m_namesKept, .ref m_areKept]))] H → va_D A [(m_s, .inl (cy 1, 383, .inl gs2)), (m_names, .inl (cy 2, 16, .inr (.inl gn))), (m_h, .inl (cy 1, 104, .inl u_4)), (m0, .inr (11, [.int 0, .ref m_tape, .int 0, .int 0, .int 0, .int 900, .ref m_s, .ref m_h, .ref m_read, .ref m_names, .ref m_reserved, .int 0, .int 0, .int 0, .int 0, .int 0, .int 0, .long 0, .int 0, .int 0, .int 0, .int 0, .int 0, .int 0, .int 0, .ref m_undone, .ref m_before, .int 0, .ref m_far, .ref m_wayRow, .int (-1), .ref m_keptRow, .ref m_askedRow, .ref m_rares, .ref m_trial, .int (-1), .int (-1), .ref m_hangs, .ref m_paths, .int 0, .int 0, .int 0, .int 0, .ref m_text, .int 0, .int 0, .ref m_toldAt, .int 0, .ref m_stack, .int 0, .int 0, .int 0, .int 0, .int 0, .ref m_truths, .ref m_imaged, .ref m_namesKept, .ref m_areKept]))] → va_S A s.heap H locs → lv_has ls 2 [(1, .int 8), (0, .ref m0)] → W p l e (Rm 2 43 0 0) s m args below meth c H locs cells slots Q (F0 m 203 ls [])) :
    ∀ (k i_114 : Nat) (gs2 : Nat → Int32) (gn : Nat → Int64) (H : Heap) (locs : List Loc) (ls : Array Slot), i_114 + k = 8 → va_P D vwCl [(m_s, .inl (cy 1, 383, .inl gs2)), (m_names, .inl (cy 2, 16, .inr (.inl gn))), (m_h, .inl (cy 1, 104, .inl u_4)), (m0, .inr (11, [.int 0, .ref m_tape, .int 0, .int 0, .int 0, .int 900, .ref m_s, .ref m_h, .ref m_read, .ref m_names, .ref m_reserved, .int 0, .int 0, .int 0, .int 0, .int 0, .int 0, .long 0, .int 0, .int 0, .int 0, .int 0, .int 0, .int 0, .int 0, .ref m_undone, .ref m_before, .int 0, .ref m_far, .ref m_wayRow, .int (-1), .ref m_keptRow, .ref m_askedRow, .ref m_rares, .ref m_trial, .int (-1), .int (-1), .ref m_hangs, .ref m_paths, .int 0, .int 0, .int 0, .int 0, .ref m_text, .int 0, .int 0, .ref m_toldAt, .int 0, .ref m_stack, .int 0, .int 0, .int 0, .int 0, .int 0, .ref m_truths, .ref m_imaged, .ref m_namesKept, .ref m_areKept]))] H → va_D A [(m_s, .inl (cy 1, 383, .inl gs2)), (m_names, .inl (cy 2, 16, .inr (.inl gn))), (m_h, .inl (cy 1, 104, .inl u_4)), (m0, .inr (11, [.int 0, .ref m_tape, .int 0, .int 0, .int 0, .int 900, .ref m_s, .ref m_h, .ref m_read, .ref m_names, .ref m_reserved, .int 0, .int 0, .int 0, .int 0, .int 0, .int 0, .long 0, .int 0, .int 0, .int 0, .int 0, .int 0, .int 0, .int 0, .ref m_undone, .ref m_before, .int 0, .ref m_far, .ref m_wayRow, .int (-1), .ref m_keptRow, .ref m_askedRow, .ref m_rares, .ref m_trial, .int (-1), .int (-1), .ref m_hangs, .ref m_paths, .int 0, .int 0, .int 0, .int 0, .ref m_text, .int 0, .int 0, .ref m_toldAt, .int 0, .ref m_stack, .int 0, .int 0, .int 0, .int 0, .int 0, .ref m_truths, .ref m_imaged, .ref m_namesKept, .ref m_areKept]))] → va_S A s.heap H locs → lv_has ls 2 [(1, .int (nI i_114)), (0, .ref m0)] → W p l e (Rm 2 43 0 0) s m args below meth c H locs cells slots Q (F0 m 122 ls []) := by
  have hx := C.1
  have hb := C.2.1
  intro k
  induction k with
  | zero =>
    intro i_114 gs2 gn H locs ls hik hP hD hS hl
    obtain rfl : i_114 = 8 := by omega
    have hl : lv_has ls 2 [(1, .int 8), (0, .ref m0)] := hl
    have hP : va_P D vwCl [(m_s, .inl (cy 1, 383, .inl gs2)), (m_names, .inl (cy 2, 16, .inr (.inl gn))), (m_h, .inl (cy 1, 104, .inl u_4)), (m0, .inr (11, [.int 0, .ref m_tape, .int 0, .int 0, .int 0, .int 900, .ref m_s, .ref m_h, .ref m_read, .ref m_names, .ref m_reserved, .int 0, .int 0, .int 0, .int 0, .int 0, .int 0, .long 0, .int 0, .int 0, .int 0, .int 0, .int 0, .int 0, .int 0, .ref m_undone, .ref m_before, .int 0, .ref m_far, .ref m_wayRow, .int (-1), .ref m_keptRow, .ref m_askedRow, .ref m_rares, .ref m_trial, .int (-1), .int (-1), .ref m_hangs, .ref m_paths, .int 0, .int 0, .int 0, .int 0, .ref m_text, .int 0, .int 0, .ref m_toldAt, .int 0, .ref m_stack, .int 0, .int 0, .int 0, .int 0, .int 0, .ref m_truths, .ref m_imaged, .ref m_namesKept, .ref m_areKept]))] H := hP
    have hD : va_D A [(m_s, .inl (cy 1, 383, .inl gs2)), (m_names, .inl (cy 2, 16, .inr (.inl gn))), (m_h, .inl (cy 1, 104, .inl u_4)), (m0, .inr (11, [.int 0, .ref m_tape, .int 0, .int 0, .int 0, .int 900, .ref m_s, .ref m_h, .ref m_read, .ref m_names, .ref m_reserved, .int 0, .int 0, .int 0, .int 0, .int 0, .int 0, .long 0, .int 0, .int 0, .int 0, .int 0, .int 0, .int 0, .int 0, .ref m_undone, .ref m_before, .int 0, .ref m_far, .ref m_wayRow, .int (-1), .ref m_keptRow, .ref m_askedRow, .ref m_rares, .ref m_trial, .int (-1), .int (-1), .ref m_hangs, .ref m_paths, .int 0, .int 0, .int 0, .int 0, .ref m_text, .int 0, .int 0, .ref m_toldAt, .int 0, .ref m_stack, .int 0, .int 0, .int 0, .int 0, .int 0, .ref m_truths, .ref m_imaged, .ref m_namesKept, .ref m_areKept]))] := hD
    refine lv_iload_n hx hb dX11_library_122 rfl (lv_at hl 0 rfl) ?_
    refine lv_bipush (v := 8) hx hb dX11_library_123 (by decide) ?_
    refine lv_icmp_ge (tgt := 203) hx hb dX11_library_125 (by decide) (fun _ => ?_) (fun c_0 => absurd (by decide) c_0)
    exact cont gs2 gn H locs ls hP hD hS hl
  | succ k ih =>
    intro i_114 gs2 gn H locs ls hik hP hD hS hl
    refine lv_iload_n hx hb dX11_library_122 rfl (lv_at hl 0 rfl) ?_
    refine lv_bipush (v := 8) hx hb dX11_library_123 (by decide) ?_
    refine lv_icmp_ge (tgt := 203) hx hb dX11_library_125 (by decide) (fun c_0 => absurd c_0 (nI_ge (b := 8) (by omega) (by decide))) (fun _ => ?_)
    refine lv_aload_n hx hb dX11_library_128 rfl (lv_at hl 1 rfl) ?_
    refine q_get (v := .ref m_names) C hP 3 9 rfl rfl inX11 (by decide) kF_RX11_43 rfl rfl dX11_library_129 ?_
    refine lv_iload_n hx hb dX11_library_132 rfl (lv_at hl 0 rfl) ?_
    refine lv_aload_n hx hb dX11_library_133 rfl (lv_at hl 1 rfl) ?_
    refine q_get (v := .ref m_names) C hP 3 9 rfl rfl inX11 (by decide) kF_RX11_43 rfl rfl dX11_library_134 ?_
    refine lv_bipush (v := 8) hx hb dX11_library_137 (by decide) ?_
    refine lv_iload_n hx hb dX11_library_139 rfl (lv_at hl 0 rfl) ?_
    refine lv_iadd hx hb dX11_library_140 ?_
    refine q_val (v := (nI (8 + i_114))) (nI_add 8 i_114) ?_
    refine q_lald (v := (gn (8 + i_114))) C hP 1 rfl (vp_in_nI (by omega) (by decide)) (by rw [nI_clamp (by omega)]) dX11_library_141 ?_
    refine q_last (g := vp_updL gn i_114 (gn (8 + i_114))) (w' := [(m_s, .inl (cy 1, 383, .inl gs2)), (m_names, .inl (cy 2, 16, .inr (.inl (vp_updL gn i_114 (gn (8 + i_114)))))), (m_h, .inl (cy 1, 104, .inl u_4)), (m0, .inr (11, [.int 0, .ref m_tape, .int 0, .int 0, .int 0, .int 900, .ref m_s, .ref m_h, .ref m_read, .ref m_names, .ref m_reserved, .int 0, .int 0, .int 0, .int 0, .int 0, .int 0, .long 0, .int 0, .int 0, .int 0, .int 0, .int 0, .int 0, .int 0, .ref m_undone, .ref m_before, .int 0, .ref m_far, .ref m_wayRow, .int (-1), .ref m_keptRow, .ref m_askedRow, .ref m_rares, .ref m_trial, .int (-1), .int (-1), .ref m_hangs, .ref m_paths, .int 0, .int 0, .int 0, .int 0, .ref m_text, .int 0, .int 0, .ref m_toldAt, .int 0, .ref m_stack, .int 0, .int 0, .int 0, .int 0, .int 0, .ref m_truths, .ref m_imaged, .ref m_namesKept, .ref m_areKept]))]) C hP hD hS 1 rfl (vp_in_nI (by omega) (by decide)) (by rw [nI_clamp (by omega)]) rfl dX11_library_142 (fun H locs hP hD hS => ?_)
    refine lv_aload_n hx hb dX11_library_143 rfl (lv_at hl 1 rfl) ?_
    refine q_get (v := .ref m_s) C hP 3 6 rfl rfl inX11 (by decide) kF_RX11_33 rfl rfl dX11_library_144 ?_
    refine lv_bipush (v := 106) hx hb dX11_library_147 (by decide) ?_
    refine lv_iload_n hx hb dX11_library_149 rfl (lv_at hl 0 rfl) ?_
    refine lv_iadd hx hb dX11_library_150 ?_
    refine q_val (v := (nI (106 + i_114))) (nI_add 106 i_114) ?_
    refine lv_aload_n hx hb dX11_library_151 rfl (lv_at hl 1 rfl) ?_
    refine q_get (v := .ref m_s) C hP 3 6 rfl rfl inX11 (by decide) kF_RX11_33 rfl rfl dX11_library_152 ?_
    refine lv_bipush (v := 7) hx hb dX11_library_155 (by decide) ?_
    refine lv_iload_n hx hb dX11_library_157 rfl (lv_at hl 0 rfl) ?_
    refine lv_iadd hx hb dX11_library_158 ?_
    refine q_val (v := (nI (7 + i_114))) (nI_add 7 i_114) ?_
    refine q_iald (v := (gs2 (7 + i_114))) C hP 0 rfl (vp_in_nI (by omega) (by decide)) (by rw [nI_clamp (by omega)]) dX11_library_159 ?_
    refine q_iast (g := upd gs2 (106 + i_114) (gs2 (7 + i_114))) (w' := [(m_s, .inl (cy 1, 383, .inl (upd gs2 (106 + i_114) (gs2 (7 + i_114))))), (m_names, .inl (cy 2, 16, .inr (.inl (vp_updL gn i_114 (gn (8 + i_114)))))), (m_h, .inl (cy 1, 104, .inl u_4)), (m0, .inr (11, [.int 0, .ref m_tape, .int 0, .int 0, .int 0, .int 900, .ref m_s, .ref m_h, .ref m_read, .ref m_names, .ref m_reserved, .int 0, .int 0, .int 0, .int 0, .int 0, .int 0, .long 0, .int 0, .int 0, .int 0, .int 0, .int 0, .int 0, .int 0, .ref m_undone, .ref m_before, .int 0, .ref m_far, .ref m_wayRow, .int (-1), .ref m_keptRow, .ref m_askedRow, .ref m_rares, .ref m_trial, .int (-1), .int (-1), .ref m_hangs, .ref m_paths, .int 0, .int 0, .int 0, .int 0, .ref m_text, .int 0, .int 0, .ref m_toldAt, .int 0, .ref m_stack, .int 0, .int 0, .int 0, .int 0, .int 0, .ref m_truths, .ref m_imaged, .ref m_namesKept, .ref m_areKept]))]) C hP hD hS 0 rfl (vp_in_nI (by omega) (by decide)) (by rw [nI_clamp (by omega)]) rfl dX11_library_160 (fun H locs hP hD hS => ?_)
    refine lv_aload_n hx hb dX11_library_161 rfl (lv_at hl 1 rfl) ?_
    refine q_get (v := .ref m_s) C hP 3 6 rfl rfl inX11 (by decide) kF_RX11_33 rfl rfl dX11_library_162 ?_
    refine lv_bipush (v := 114) hx hb dX11_library_165 (by decide) ?_
    refine lv_iload_n hx hb dX11_library_167 rfl (lv_at hl 0 rfl) ?_
    refine lv_iadd hx hb dX11_library_168 ?_
    refine q_val (v := (nI (114 + i_114))) (nI_add 114 i_114) ?_
    refine lv_aload_n hx hb dX11_library_169 rfl (lv_at hl 1 rfl) ?_
    refine q_get (v := .ref m_s) C hP 3 6 rfl rfl inX11 (by decide) kF_RX11_33 rfl rfl dX11_library_170 ?_
    refine lv_bipush (v := 15) hx hb dX11_library_173 (by decide) ?_
    refine lv_iload_n hx hb dX11_library_175 rfl (lv_at hl 0 rfl) ?_
    refine lv_iadd hx hb dX11_library_176 ?_
    refine q_val (v := (nI (15 + i_114))) (nI_add 15 i_114) ?_
    refine q_iald (v := ((upd gs2 (106 + i_114) (gs2 (7 + i_114))) (15 + i_114))) C hP 0 rfl (vp_in_nI (by omega) (by decide)) (by rw [nI_clamp (by omega)]) dX11_library_177 ?_
    refine q_iast (g := upd (upd gs2 (106 + i_114) (gs2 (7 + i_114))) (114 + i_114) ((upd gs2 (106 + i_114) (gs2 (7 + i_114))) (15 + i_114))) (w' := [(m_s, .inl (cy 1, 383, .inl (upd (upd gs2 (106 + i_114) (gs2 (7 + i_114))) (114 + i_114) ((upd gs2 (106 + i_114) (gs2 (7 + i_114))) (15 + i_114))))), (m_names, .inl (cy 2, 16, .inr (.inl (vp_updL gn i_114 (gn (8 + i_114)))))), (m_h, .inl (cy 1, 104, .inl u_4)), (m0, .inr (11, [.int 0, .ref m_tape, .int 0, .int 0, .int 0, .int 900, .ref m_s, .ref m_h, .ref m_read, .ref m_names, .ref m_reserved, .int 0, .int 0, .int 0, .int 0, .int 0, .int 0, .long 0, .int 0, .int 0, .int 0, .int 0, .int 0, .int 0, .int 0, .ref m_undone, .ref m_before, .int 0, .ref m_far, .ref m_wayRow, .int (-1), .ref m_keptRow, .ref m_askedRow, .ref m_rares, .ref m_trial, .int (-1), .int (-1), .ref m_hangs, .ref m_paths, .int 0, .int 0, .int 0, .int 0, .ref m_text, .int 0, .int 0, .ref m_toldAt, .int 0, .ref m_stack, .int 0, .int 0, .int 0, .int 0, .int 0, .ref m_truths, .ref m_imaged, .ref m_namesKept, .ref m_areKept]))]) C hP hD hS 0 rfl (vp_in_nI (by omega) (by decide)) (by rw [nI_clamp (by omega)]) rfl dX11_library_178 (fun H locs hP hD hS => ?_)
    refine lv_aload_n hx hb dX11_library_179 rfl (lv_at hl 1 rfl) ?_
    refine q_get (v := .ref m_s) C hP 3 6 rfl rfl inX11 (by decide) kF_RX11_33 rfl rfl dX11_library_180 ?_
    refine lv_bipush (v := 122) hx hb dX11_library_183 (by decide) ?_
    refine lv_iload_n hx hb dX11_library_185 rfl (lv_at hl 0 rfl) ?_
    refine lv_iadd hx hb dX11_library_186 ?_
    refine q_val (v := (nI (122 + i_114))) (nI_add 122 i_114) ?_
    refine lv_aload_n hx hb dX11_library_187 rfl (lv_at hl 1 rfl) ?_
    refine q_get (v := .ref m_s) C hP 3 6 rfl rfl inX11 (by decide) kF_RX11_33 rfl rfl dX11_library_188 ?_
    refine lv_bipush (v := 23) hx hb dX11_library_191 (by decide) ?_
    refine lv_iload_n hx hb dX11_library_193 rfl (lv_at hl 0 rfl) ?_
    refine lv_iadd hx hb dX11_library_194 ?_
    refine q_val (v := (nI (23 + i_114))) (nI_add 23 i_114) ?_
    refine q_iald (v := ((upd (upd gs2 (106 + i_114) (gs2 (7 + i_114))) (114 + i_114) ((upd gs2 (106 + i_114) (gs2 (7 + i_114))) (15 + i_114))) (23 + i_114))) C hP 0 rfl (vp_in_nI (by omega) (by decide)) (by rw [nI_clamp (by omega)]) dX11_library_195 ?_
    refine q_iast (g := upd (upd (upd gs2 (106 + i_114) (gs2 (7 + i_114))) (114 + i_114) ((upd gs2 (106 + i_114) (gs2 (7 + i_114))) (15 + i_114))) (122 + i_114) ((upd (upd gs2 (106 + i_114) (gs2 (7 + i_114))) (114 + i_114) ((upd gs2 (106 + i_114) (gs2 (7 + i_114))) (15 + i_114))) (23 + i_114))) (w' := [(m_s, .inl (cy 1, 383, .inl (upd (upd (upd gs2 (106 + i_114) (gs2 (7 + i_114))) (114 + i_114) ((upd gs2 (106 + i_114) (gs2 (7 + i_114))) (15 + i_114))) (122 + i_114) ((upd (upd gs2 (106 + i_114) (gs2 (7 + i_114))) (114 + i_114) ((upd gs2 (106 + i_114) (gs2 (7 + i_114))) (15 + i_114))) (23 + i_114))))), (m_names, .inl (cy 2, 16, .inr (.inl (vp_updL gn i_114 (gn (8 + i_114)))))), (m_h, .inl (cy 1, 104, .inl u_4)), (m0, .inr (11, [.int 0, .ref m_tape, .int 0, .int 0, .int 0, .int 900, .ref m_s, .ref m_h, .ref m_read, .ref m_names, .ref m_reserved, .int 0, .int 0, .int 0, .int 0, .int 0, .int 0, .long 0, .int 0, .int 0, .int 0, .int 0, .int 0, .int 0, .int 0, .ref m_undone, .ref m_before, .int 0, .ref m_far, .ref m_wayRow, .int (-1), .ref m_keptRow, .ref m_askedRow, .ref m_rares, .ref m_trial, .int (-1), .int (-1), .ref m_hangs, .ref m_paths, .int 0, .int 0, .int 0, .int 0, .ref m_text, .int 0, .int 0, .ref m_toldAt, .int 0, .ref m_stack, .int 0, .int 0, .int 0, .int 0, .int 0, .ref m_truths, .ref m_imaged, .ref m_namesKept, .ref m_areKept]))]) C hP hD hS 0 rfl (vp_in_nI (by omega) (by decide)) (by rw [nI_clamp (by omega)]) rfl dX11_library_196 (fun H locs hP hD hS => ?_)
    refine lv_iinc (v := (nI (i_114 + 1))) (lv' := [(1, .int (nI (i_114 + 1))), (0, .ref m0)]) hx hb dX11_library_197 hl (k := 0) rfl (nI_1 _) (by decide) rfl (fun ls hl => ?_)
    refine lv_goto (tgt := 122) hx hb dX11_library_200 (by decide) ?_
    exact ih (i_114 + 1) (upd (upd (upd gs2 (106 + i_114) (gs2 (7 + i_114))) (114 + i_114) ((upd gs2 (106 + i_114) (gs2 (7 + i_114))) (15 + i_114))) (122 + i_114) ((upd (upd gs2 (106 + i_114) (gs2 (7 + i_114))) (114 + i_114) ((upd gs2 (106 + i_114) (gs2 (7 + i_114))) (15 + i_114))) (23 + i_114))) (vp_updL gn i_114 (gn (8 + i_114))) H locs ls (by omega) hP hD hS (lv_sub hl [0, 1] rfl)
set_option maxHeartbeats 4000000 in
set_option maxRecDepth 100000 in
theorem lp_y_library_205 (l : Launch) (D : va_G) (cy : Nat → ClassId) (gn : Nat → Int64) (m0 : Nat) (m_areKept : Nat) (m_askedRow : Nat) (m_before : Nat) (m_far : Nat) (m_h : Nat) (m_hangs : Nat) (m_imaged : Nat) (m_keptRow : Nat) (m_names : Nat) (m_namesKept : Nat) (m_paths : Nat) (m_rares : Nat) (m_read : Nat) (m_reserved : Nat) (m_s : Nat) (m_stack : Nat) (m_tape : Nat) (m_text : Nat) (m_toldAt : Nat) (m_trial : Nat) (m_truths : Nat) (m_undone : Nat) (m_wayRow : Nat) (u_4 : Nat → Int32)   {p : Program} {e : Env} {s : State} {m : MethodId} {args : Array Value} {below : List Frame} {meth : Method} {c : Code} {A : Nat → Prop} {Q : State → Prop} {cells slots : Nat} (hroom : cells ≤ ((Rm 2 43 0 0)).cells ∧ slots ≤ ((Rm 2 43 0 0)).slots) (C : Cx p s m args meth c cX11_library 2 (some .int) RX11 "library" D cy A)
    (cont : ∀ (gs3 : Nat → Int32) (H : Heap) (locs : List Loc) (ls : Array Slot), va_P D vwCl [(m_s, .inl (cy 1, 383, .inl gs3)), (m_names, .inl (cy 2, 16, .inr (.inl gn))), (m_h, .inl (cy 1, 104, .inl u_4)), (m0, .inr (11, [.int 0, .ref m_tape, .int 0, .int 0, .int 0, .int 900, .ref m_s, .ref m_h, .ref m_read, .ref m_names, .ref m_reserved, .int 0, .int 0, .int 0, .int 0, .int 0, .int 0, .long 0, .int 0, .int 0, .int 0, .int 0, .int 0, .int 0, .int 0, .ref m_undone, .ref m_before, .int 0, .ref m_far, .ref m_wayRow, .int (-1), .ref m_keptRow, .ref m_askedRow, .ref m_rares, .ref m_trial, .int (-1), .int (-1), .ref m_hangs, .ref m_paths, .int 0, .int 0, .int 0, .int 0, .ref m_text, .int 0, .int 0, .ref m_toldAt, .int 0, .ref m_stack, .int 0, .int 0, .int 0, .int 0, .int 0, .ref m_truths, .ref m_imaged, .ref m_namesKept, .ref m_areKept]))] H → va_D A [(m_s, .inl (cy 1, 383, .inl gs3)), (m_names, .inl (cy 2, 16, .inr (.inl gn))), (m_h, .inl (cy 1, 104, .inl u_4)), (m0, .inr (11, [.int 0, .ref m_tape, .int 0, .int 0, .int 0, .int 900, .ref m_s, .ref m_h, .ref m_read, .ref m_names, .ref m_reserved, .int 0, .int 0, .int 0, .int 0, .int 0, .int 0, .long 0, .int 0, .int 0, .int 0, .int 0, .int 0, .int 0, .int 0, .ref m_undone, .ref m_before, .int 0, .ref m_far, .ref m_wayRow, .int (-1), .ref m_keptRow, .ref m_askedRow, .ref m_rares, .ref m_trial, .int (-1), .int (-1), .ref m_hangs, .ref m_paths, .int 0, .int 0, .int 0, .int 0, .ref m_text, .int 0, .int 0, .ref m_toldAt, .int 0, .ref m_stack, .int 0, .int 0, .int 0, .int 0, .int 0, .ref m_truths, .ref m_imaged, .ref m_namesKept, .ref m_areKept]))] → va_S A s.heap H locs → lv_has ls 2 [(1, .int 64), (0, .ref m0)] → W p l e (Rm 2 43 0 0) s m args below meth c H locs cells slots Q (F0 m 236 ls [])) :
    ∀ (k i_215 : Nat) (gs3 : Nat → Int32) (H : Heap) (locs : List Loc) (ls : Array Slot), i_215 + k = 64 → va_P D vwCl [(m_s, .inl (cy 1, 383, .inl gs3)), (m_names, .inl (cy 2, 16, .inr (.inl gn))), (m_h, .inl (cy 1, 104, .inl u_4)), (m0, .inr (11, [.int 0, .ref m_tape, .int 0, .int 0, .int 0, .int 900, .ref m_s, .ref m_h, .ref m_read, .ref m_names, .ref m_reserved, .int 0, .int 0, .int 0, .int 0, .int 0, .int 0, .long 0, .int 0, .int 0, .int 0, .int 0, .int 0, .int 0, .int 0, .ref m_undone, .ref m_before, .int 0, .ref m_far, .ref m_wayRow, .int (-1), .ref m_keptRow, .ref m_askedRow, .ref m_rares, .ref m_trial, .int (-1), .int (-1), .ref m_hangs, .ref m_paths, .int 0, .int 0, .int 0, .int 0, .ref m_text, .int 0, .int 0, .ref m_toldAt, .int 0, .ref m_stack, .int 0, .int 0, .int 0, .int 0, .int 0, .ref m_truths, .ref m_imaged, .ref m_namesKept, .ref m_areKept]))] H → va_D A [(m_s, .inl (cy 1, 383, .inl gs3)), (m_names, .inl (cy 2, 16, .inr (.inl gn))), (m_h, .inl (cy 1, 104, .inl u_4)), (m0, .inr (11, [.int 0, .ref m_tape, .int 0, .int 0, .int 0, .int 900, .ref m_s, .ref m_h, .ref m_read, .ref m_names, .ref m_reserved, .int 0, .int 0, .int 0, .int 0, .int 0, .int 0, .long 0, .int 0, .int 0, .int 0, .int 0, .int 0, .int 0, .int 0, .ref m_undone, .ref m_before, .int 0, .ref m_far, .ref m_wayRow, .int (-1), .ref m_keptRow, .ref m_askedRow, .ref m_rares, .ref m_trial, .int (-1), .int (-1), .ref m_hangs, .ref m_paths, .int 0, .int 0, .int 0, .int 0, .ref m_text, .int 0, .int 0, .ref m_toldAt, .int 0, .ref m_stack, .int 0, .int 0, .int 0, .int 0, .int 0, .ref m_truths, .ref m_imaged, .ref m_namesKept, .ref m_areKept]))] → va_S A s.heap H locs → lv_has ls 2 [(1, .int (nI i_215)), (0, .ref m0)] → W p l e (Rm 2 43 0 0) s m args below meth c H locs cells slots Q (F0 m 205 ls []) := by
  have hx := C.1
  have hb := C.2.1
  intro k
  induction k with
  | zero =>
    intro i_215 gs3 H locs ls hik hP hD hS hl
    obtain rfl : i_215 = 64 := by omega
    have hl : lv_has ls 2 [(1, .int 64), (0, .ref m0)] := hl
    have hP : va_P D vwCl [(m_s, .inl (cy 1, 383, .inl gs3)), (m_names, .inl (cy 2, 16, .inr (.inl gn))), (m_h, .inl (cy 1, 104, .inl u_4)), (m0, .inr (11, [.int 0, .ref m_tape, .int 0, .int 0, .int 0, .int 900, .ref m_s, .ref m_h, .ref m_read, .ref m_names, .ref m_reserved, .int 0, .int 0, .int 0, .int 0, .int 0, .int 0, .long 0, .int 0, .int 0, .int 0, .int 0, .int 0, .int 0, .int 0, .ref m_undone, .ref m_before, .int 0, .ref m_far, .ref m_wayRow, .int (-1), .ref m_keptRow, .ref m_askedRow, .ref m_rares, .ref m_trial, .int (-1), .int (-1), .ref m_hangs, .ref m_paths, .int 0, .int 0, .int 0, .int 0, .ref m_text, .int 0, .int 0, .ref m_toldAt, .int 0, .ref m_stack, .int 0, .int 0, .int 0, .int 0, .int 0, .ref m_truths, .ref m_imaged, .ref m_namesKept, .ref m_areKept]))] H := hP
    have hD : va_D A [(m_s, .inl (cy 1, 383, .inl gs3)), (m_names, .inl (cy 2, 16, .inr (.inl gn))), (m_h, .inl (cy 1, 104, .inl u_4)), (m0, .inr (11, [.int 0, .ref m_tape, .int 0, .int 0, .int 0, .int 900, .ref m_s, .ref m_h, .ref m_read, .ref m_names, .ref m_reserved, .int 0, .int 0, .int 0, .int 0, .int 0, .int 0, .long 0, .int 0, .int 0, .int 0, .int 0, .int 0, .int 0, .int 0, .ref m_undone, .ref m_before, .int 0, .ref m_far, .ref m_wayRow, .int (-1), .ref m_keptRow, .ref m_askedRow, .ref m_rares, .ref m_trial, .int (-1), .int (-1), .ref m_hangs, .ref m_paths, .int 0, .int 0, .int 0, .int 0, .ref m_text, .int 0, .int 0, .ref m_toldAt, .int 0, .ref m_stack, .int 0, .int 0, .int 0, .int 0, .int 0, .ref m_truths, .ref m_imaged, .ref m_namesKept, .ref m_areKept]))] := hD
    refine lv_iload_n hx hb dX11_library_205 rfl (lv_at hl 0 rfl) ?_
    refine lv_bipush (v := 64) hx hb dX11_library_206 (by decide) ?_
    refine lv_icmp_ge (tgt := 236) hx hb dX11_library_208 (by decide) (fun _ => ?_) (fun c_0 => absurd (by decide) c_0)
    exact cont gs3 H locs ls hP hD hS hl
  | succ k ih =>
    intro i_215 gs3 H locs ls hik hP hD hS hl
    refine lv_iload_n hx hb dX11_library_205 rfl (lv_at hl 0 rfl) ?_
    refine lv_bipush (v := 64) hx hb dX11_library_206 (by decide) ?_
    refine lv_icmp_ge (tgt := 236) hx hb dX11_library_208 (by decide) (fun c_0 => absurd c_0 (nI_ge (b := 64) (by omega) (by decide))) (fun _ => ?_)
    refine lv_aload_n hx hb dX11_library_211 rfl (lv_at hl 1 rfl) ?_
    refine q_get (v := .ref m_s) C hP 3 6 rfl rfl inX11 (by decide) kF_RX11_33 rfl rfl dX11_library_212 ?_
    refine lv_sipush (v := 138) hx hb dX11_library_215 (by decide) ?_
    refine lv_iload_n hx hb dX11_library_218 rfl (lv_at hl 0 rfl) ?_
    refine lv_iadd hx hb dX11_library_219 ?_
    refine q_val (v := (nI (138 + i_215))) (nI_add 138 i_215) ?_
    refine lv_aload_n hx hb dX11_library_220 rfl (lv_at hl 1 rfl) ?_
    refine q_get (v := .ref m_s) C hP 3 6 rfl rfl inX11 (by decide) kF_RX11_33 rfl rfl dX11_library_221 ?_
    refine lv_bipush (v := 31) hx hb dX11_library_224 (by decide) ?_
    refine lv_iload_n hx hb dX11_library_226 rfl (lv_at hl 0 rfl) ?_
    refine lv_iadd hx hb dX11_library_227 ?_
    refine q_val (v := (nI (31 + i_215))) (nI_add 31 i_215) ?_
    refine q_iald (v := (gs3 (31 + i_215))) C hP 0 rfl (vp_in_nI (by omega) (by decide)) (by rw [nI_clamp (by omega)]) dX11_library_228 ?_
    refine q_iast (g := upd gs3 (138 + i_215) (gs3 (31 + i_215))) (w' := [(m_s, .inl (cy 1, 383, .inl (upd gs3 (138 + i_215) (gs3 (31 + i_215))))), (m_names, .inl (cy 2, 16, .inr (.inl gn))), (m_h, .inl (cy 1, 104, .inl u_4)), (m0, .inr (11, [.int 0, .ref m_tape, .int 0, .int 0, .int 0, .int 900, .ref m_s, .ref m_h, .ref m_read, .ref m_names, .ref m_reserved, .int 0, .int 0, .int 0, .int 0, .int 0, .int 0, .long 0, .int 0, .int 0, .int 0, .int 0, .int 0, .int 0, .int 0, .ref m_undone, .ref m_before, .int 0, .ref m_far, .ref m_wayRow, .int (-1), .ref m_keptRow, .ref m_askedRow, .ref m_rares, .ref m_trial, .int (-1), .int (-1), .ref m_hangs, .ref m_paths, .int 0, .int 0, .int 0, .int 0, .ref m_text, .int 0, .int 0, .ref m_toldAt, .int 0, .ref m_stack, .int 0, .int 0, .int 0, .int 0, .int 0, .ref m_truths, .ref m_imaged, .ref m_namesKept, .ref m_areKept]))]) C hP hD hS 0 rfl (vp_in_nI (by omega) (by decide)) (by rw [nI_clamp (by omega)]) rfl dX11_library_229 (fun H locs hP hD hS => ?_)
    refine lv_iinc (v := (nI (i_215 + 1))) (lv' := [(1, .int (nI (i_215 + 1))), (0, .ref m0)]) hx hb dX11_library_230 hl (k := 0) rfl (nI_1 _) (by decide) rfl (fun ls hl => ?_)
    refine lv_goto (tgt := 205) hx hb dX11_library_233 (by decide) ?_
    exact ih (i_215 + 1) (upd gs3 (138 + i_215) (gs3 (31 + i_215))) H locs ls (by omega) hP hD hS (lv_sub hl [0, 1] rfl)
set_option maxHeartbeats 4000000 in
set_option maxRecDepth 100000 in
theorem y_library (l : Launch) (D : va_G) (cy : Nat → ClassId) (m0 : Nat) (m_tape : Nat) (m_s : Nat) (m_h : Nat) (m_read : Nat) (m_names : Nat) (m_reserved : Nat) (m_undone : Nat) (m_before : Nat) (m_far : Nat) (m_wayRow : Nat) (m_keptRow : Nat) (m_askedRow : Nat) (m_rares : Nat) (m_trial : Nat) (m_hangs : Nat) (m_paths : Nat) (m_text : Nat) (m_toldAt : Nat) (m_stack : Nat) (m_truths : Nat) (m_imaged : Nat) (m_namesKept : Nat) (m_areKept : Nat) (hF : Nat → Int32) (sz : Nat)  : MI l yX11_library cX11_library 2 (some .int) (Rm 2 43 0 0) D cy [.ref m0] sz [(m0, .inr (11, [.int 0, .ref m_tape, .int 0, .int 0, .int 0, .int 0, .ref m_s, .ref m_h, .ref m_read, .ref m_names, .ref m_reserved, .int 0, .int 0, .int 0, .int 0, .int 0, .int 0, .long 0, .int 0, .int 0, .int 0, .int 0, .int 0, .int 0, .int 0, .ref m_undone, .ref m_before, .int 0, .ref m_far, .ref m_wayRow, .int (-1), .ref m_keptRow, .ref m_askedRow, .ref m_rares, .ref m_trial, .int (-1), .int (-1), .ref m_hangs, .ref m_paths, .int 0, .int 0, .int 0, .int 0, .ref m_text, .int 0, .int 0, .ref m_toldAt, .int 0, .ref m_stack, .int 0, .int 0, .int 0, .int 0, .int 0, .ref m_truths, .ref m_imaged, .ref m_namesKept, .ref m_areKept])), (m_s, .inl (cy 1, 383, .inl (sD 0))), (m_h, .inl (cy 1, 104, .inl hF)), (m_names, .inl (cy 2, 16, .inr (.inl (fun _ => 0))))] (fun (r : Int32) (u : Unit) => r = 0) (fun u : Unit => []) := by
  refine MI.enter (by decide) (Nat.le_of_ble_eq_true rfl) ?_
  intro p e s m below meth c ls A hsz hAe C hP hD hS hl
  have C : Cx p s m _ meth c cX11_library 2 (some .int) RX11 "library" D cy A := C
  have hx := C.1
  have hb := C.2.1
  have hl : lv_has ls 2 [(0, .ref m0)] := hl
  refine lv_aload_n hx hb dX11_library_0 rfl (lv_at hl 0 rfl) ?_
  refine lv_iconst (v := 0) hx hb dX11_library_1 (by decide) ?_
  refine q_put (v := .int 0) (w' := [(m0, .inr (11, [.int 0, .ref m_tape, .int 0, .int 0, .int 0, .int 0, .ref m_s, .ref m_h, .ref m_read, .ref m_names, .ref m_reserved, .int 0, .int 0, .int 0, .int 0, .int 0, .int 0, .long 0, .int 0, .int 0, .int 0, .int 0, .int 0, .int 0, .int 0, .ref m_undone, .ref m_before, .int 0, .ref m_far, .ref m_wayRow, .int (-1), .ref m_keptRow, .ref m_askedRow, .ref m_rares, .ref m_trial, .int (-1), .int (-1), .ref m_hangs, .ref m_paths, .int 0, .int 0, .int 0, .int 0, .ref m_text, .int 0, .int 0, .ref m_toldAt, .int 0, .ref m_stack, .int 0, .int 0, .int 0, .int 0, .int 0, .ref m_truths, .ref m_imaged, .ref m_namesKept, .ref m_areKept])), (m_s, .inl (cy 1, 383, .inl (sD 0))), (m_h, .inl (cy 1, 104, .inl hF)), (m_names, .inl (cy 2, 16, .inr (.inl (fun _ => 0))))]) (ty := .int) C hP hD hS 0 0 rfl rfl inX11 tyX11 tyX11_ok nmX11 (by decide) kF_RX11_1 rfl rfl rfl rfl rfl (Nat.le_of_ble_eq_true rfl) rfl dX11_library_2 (fun H locs hP hD hS => ?_)
  refine lv_aload_n hx hb dX11_library_5 rfl (lv_at hl 0 rfl) ?_
  refine lv_sipush (v := 900) hx hb dX11_library_6 (by decide) ?_
  refine q_av (wr := [(m_s, .inl (cy 1, 383, .inl (sD 0))), (m_h, .inl (cy 1, 104, .inl hF)), (m_names, .inl (cy 2, 16, .inr (.inl (fun _ => 0))))]) (r_V (q0 := 0) (As := [.int 900]) (rest := []) (wc := [(m0, .inr (11, [.int 0, .ref m_tape, .int 0, .int 0, .int 0, .int 0, .ref m_s, .ref m_h, .ref m_read, .ref m_names, .ref m_reserved, .int 0, .int 0, .int 0, .int 0, .int 0, .int 0, .long 0, .int 0, .int 0, .int 0, .int 0, .int 0, .int 0, .int 0, .ref m_undone, .ref m_before, .int 0, .ref m_far, .ref m_wayRow, .int (-1), .ref m_keptRow, .ref m_askedRow, .ref m_rares, .ref m_trial, .int (-1), .int (-1), .ref m_hangs, .ref m_paths, .int 0, .int 0, .int 0, .int 0, .ref m_text, .int 0, .int 0, .ref m_toldAt, .int 0, .ref m_stack, .int 0, .int 0, .int 0, .int 0, .int 0, .ref m_truths, .ref m_imaged, .ref m_namesKept, .ref m_areKept]))]) C (q_subP hP [0] rfl) (hD.sub [0] (by decide) rfl) (m_taken_900 l D cy m0 m_tape m_s m_h m_read m_names m_reserved m_undone m_before m_far m_wayRow m_keptRow m_askedRow m_rares m_trial m_hangs m_paths m_text m_toldAt m_stack m_truths m_imaged m_namesKept m_areKept _ ) kwV_X11_taken kM_RX11_276 rfl rfl ⟨Nat.le_of_ble_eq_true rfl, Nat.le_of_ble_eq_true rfl⟩ rfl hl.1 rfl (Nat.le_of_ble_eq_true rfl) dX11_library_9 ⟨Nat.le_of_ble_eq_true rfl, Nat.le_of_ble_eq_true rfl⟩) C.2.2.2.2.2.2.1 hP hD hS [0] [1, 2, 3] rfl rfl (by decide) (by decide) (fun u_1 H locs hw_3 hP hD hS => ?_)
  have hP : va_P D vwCl [(m_s, .inl (cy 1, 383, .inl (sD 0))), (m_h, .inl (cy 1, 104, .inl hF)), (m_names, .inl (cy 2, 16, .inr (.inl (fun _ => 0)))), (m0, .inr (11, [.int 0, .ref m_tape, .int 0, .int 0, .int 0, .int 900, .ref m_s, .ref m_h, .ref m_read, .ref m_names, .ref m_reserved, .int 0, .int 0, .int 0, .int 0, .int 0, .int 0, .long 0, .int 0, .int 0, .int 0, .int 0, .int 0, .int 0, .int 0, .ref m_undone, .ref m_before, .int 0, .ref m_far, .ref m_wayRow, .int (-1), .ref m_keptRow, .ref m_askedRow, .ref m_rares, .ref m_trial, .int (-1), .int (-1), .ref m_hangs, .ref m_paths, .int 0, .int 0, .int 0, .int 0, .ref m_text, .int 0, .int 0, .ref m_toldAt, .int 0, .ref m_stack, .int 0, .int 0, .int 0, .int 0, .int 0, .ref m_truths, .ref m_imaged, .ref m_namesKept, .ref m_areKept]))] H := hP
  have hD : va_D A [(m_s, .inl (cy 1, 383, .inl (sD 0))), (m_h, .inl (cy 1, 104, .inl hF)), (m_names, .inl (cy 2, 16, .inr (.inl (fun _ => 0)))), (m0, .inr (11, [.int 0, .ref m_tape, .int 0, .int 0, .int 0, .int 900, .ref m_s, .ref m_h, .ref m_read, .ref m_names, .ref m_reserved, .int 0, .int 0, .int 0, .int 0, .int 0, .int 0, .long 0, .int 0, .int 0, .int 0, .int 0, .int 0, .int 0, .int 0, .ref m_undone, .ref m_before, .int 0, .ref m_far, .ref m_wayRow, .int (-1), .ref m_keptRow, .ref m_askedRow, .ref m_rares, .ref m_trial, .int (-1), .int (-1), .ref m_hangs, .ref m_paths, .int 0, .int 0, .int 0, .int 0, .ref m_text, .int 0, .int 0, .ref m_toldAt, .int 0, .ref m_stack, .int 0, .int 0, .int 0, .int 0, .int 0, .ref m_truths, .ref m_imaged, .ref m_namesKept, .ref m_areKept]))] := hD
  refine lv_aload_n hx hb dX11_library_12 rfl (lv_at hl 0 rfl) ?_
  refine lv_iconst (v := 0) hx hb dX11_library_13 (by decide) ?_
  refine q_put (v := .int 0) (w' := [(m_s, .inl (cy 1, 383, .inl (sD 0))), (m_h, .inl (cy 1, 104, .inl hF)), (m_names, .inl (cy 2, 16, .inr (.inl (fun _ => 0)))), (m0, .inr (11, [.int 0, .ref m_tape, .int 0, .int 0, .int 0, .int 900, .ref m_s, .ref m_h, .ref m_read, .ref m_names, .ref m_reserved, .int 0, .int 0, .int 0, .int 0, .int 0, .int 0, .long 0, .int 0, .int 0, .int 0, .int 0, .int 0, .int 0, .int 0, .ref m_undone, .ref m_before, .int 0, .ref m_far, .ref m_wayRow, .int (-1), .ref m_keptRow, .ref m_askedRow, .ref m_rares, .ref m_trial, .int (-1), .int (-1), .ref m_hangs, .ref m_paths, .int 0, .int 0, .int 0, .int 0, .ref m_text, .int 0, .int 0, .ref m_toldAt, .int 0, .ref m_stack, .int 0, .int 0, .int 0, .int 0, .int 0, .ref m_truths, .ref m_imaged, .ref m_namesKept, .ref m_areKept]))]) (ty := .int) C hP hD hS 3 15 rfl rfl inX11 tyX11 tyX11_ok nmX11 (by decide) kF_RX11_191 rfl rfl rfl rfl rfl (Nat.le_of_ble_eq_true rfl) rfl dX11_library_14 (fun H locs hP hD hS => ?_)
  refine lv_aload_n hx hb dX11_library_17 rfl (lv_at hl 0 rfl) ?_
  refine lv_iconst (v := 0) hx hb dX11_library_18 (by decide) ?_
  refine q_put (v := .int 0) (w' := [(m_s, .inl (cy 1, 383, .inl (sD 0))), (m_h, .inl (cy 1, 104, .inl hF)), (m_names, .inl (cy 2, 16, .inr (.inl (fun _ => 0)))), (m0, .inr (11, [.int 0, .ref m_tape, .int 0, .int 0, .int 0, .int 900, .ref m_s, .ref m_h, .ref m_read, .ref m_names, .ref m_reserved, .int 0, .int 0, .int 0, .int 0, .int 0, .int 0, .long 0, .int 0, .int 0, .int 0, .int 0, .int 0, .int 0, .int 0, .ref m_undone, .ref m_before, .int 0, .ref m_far, .ref m_wayRow, .int (-1), .ref m_keptRow, .ref m_askedRow, .ref m_rares, .ref m_trial, .int (-1), .int (-1), .ref m_hangs, .ref m_paths, .int 0, .int 0, .int 0, .int 0, .ref m_text, .int 0, .int 0, .ref m_toldAt, .int 0, .ref m_stack, .int 0, .int 0, .int 0, .int 0, .int 0, .ref m_truths, .ref m_imaged, .ref m_namesKept, .ref m_areKept]))]) (ty := .int) C hP hD hS 3 19 rfl rfl inX11 tyX11 tyX11_ok nmX11 (by decide) kF_RX11_279 rfl rfl rfl rfl rfl (Nat.le_of_ble_eq_true rfl) rfl dX11_library_19 (fun H locs hP hD hS => ?_)
  refine lv_aload_n hx hb dX11_library_22 rfl (lv_at hl 0 rfl) ?_
  refine lv_iconst (v := 0) hx hb dX11_library_23 (by decide) ?_
  refine q_put (v := .int 0) (w' := [(m_s, .inl (cy 1, 383, .inl (sD 0))), (m_h, .inl (cy 1, 104, .inl hF)), (m_names, .inl (cy 2, 16, .inr (.inl (fun _ => 0)))), (m0, .inr (11, [.int 0, .ref m_tape, .int 0, .int 0, .int 0, .int 900, .ref m_s, .ref m_h, .ref m_read, .ref m_names, .ref m_reserved, .int 0, .int 0, .int 0, .int 0, .int 0, .int 0, .long 0, .int 0, .int 0, .int 0, .int 0, .int 0, .int 0, .int 0, .ref m_undone, .ref m_before, .int 0, .ref m_far, .ref m_wayRow, .int (-1), .ref m_keptRow, .ref m_askedRow, .ref m_rares, .ref m_trial, .int (-1), .int (-1), .ref m_hangs, .ref m_paths, .int 0, .int 0, .int 0, .int 0, .ref m_text, .int 0, .int 0, .ref m_toldAt, .int 0, .ref m_stack, .int 0, .int 0, .int 0, .int 0, .int 0, .ref m_truths, .ref m_imaged, .ref m_namesKept, .ref m_areKept]))]) (ty := .int) C hP hD hS 3 20 rfl rfl inX11 tyX11 tyX11_ok nmX11 (by decide) kF_RX11_228 rfl rfl rfl rfl rfl (Nat.le_of_ble_eq_true rfl) rfl dX11_library_24 (fun H locs hP hD hS => ?_)
  refine lv_aload_n hx hb dX11_library_27 rfl (lv_at hl 0 rfl) ?_
  refine lv_iconst (v := 0) hx hb dX11_library_28 (by decide) ?_
  refine q_put (v := .int 0) (w' := [(m_s, .inl (cy 1, 383, .inl (sD 0))), (m_h, .inl (cy 1, 104, .inl hF)), (m_names, .inl (cy 2, 16, .inr (.inl (fun _ => 0)))), (m0, .inr (11, [.int 0, .ref m_tape, .int 0, .int 0, .int 0, .int 900, .ref m_s, .ref m_h, .ref m_read, .ref m_names, .ref m_reserved, .int 0, .int 0, .int 0, .int 0, .int 0, .int 0, .long 0, .int 0, .int 0, .int 0, .int 0, .int 0, .int 0, .int 0, .ref m_undone, .ref m_before, .int 0, .ref m_far, .ref m_wayRow, .int (-1), .ref m_keptRow, .ref m_askedRow, .ref m_rares, .ref m_trial, .int (-1), .int (-1), .ref m_hangs, .ref m_paths, .int 0, .int 0, .int 0, .int 0, .ref m_text, .int 0, .int 0, .ref m_toldAt, .int 0, .ref m_stack, .int 0, .int 0, .int 0, .int 0, .int 0, .ref m_truths, .ref m_imaged, .ref m_namesKept, .ref m_areKept]))]) (ty := .int) C hP hD hS 3 21 rfl rfl inX11 tyX11 tyX11_ok nmX11 (by decide) kF_RX11_261 rfl rfl rfl rfl rfl (Nat.le_of_ble_eq_true rfl) rfl dX11_library_29 (fun H locs hP hD hS => ?_)
  refine lv_aload_n hx hb dX11_library_32 rfl (lv_at hl 0 rfl) ?_
  refine q_av (wr := [(m_s, .inl (cy 1, 383, .inl (sD 0))), (m_names, .inl (cy 2, 16, .inr (.inl (fun _ => 0))))]) (r_V (q0 := 0) (As := []) (rest := []) (wc := [(m0, .inr (11, [.int 0, .ref m_tape, .int 0, .int 0, .int 0, .int 900, .ref m_s, .ref m_h, .ref m_read, .ref m_names, .ref m_reserved, .int 0, .int 0, .int 0, .int 0, .int 0, .int 0, .long 0, .int 0, .int 0, .int 0, .int 0, .int 0, .int 0, .int 0, .ref m_undone, .ref m_before, .int 0, .ref m_far, .ref m_wayRow, .int (-1), .ref m_keptRow, .ref m_askedRow, .ref m_rares, .ref m_trial, .int (-1), .int (-1), .ref m_hangs, .ref m_paths, .int 0, .int 0, .int 0, .int 0, .ref m_text, .int 0, .int 0, .ref m_toldAt, .int 0, .ref m_stack, .int 0, .int 0, .int 0, .int 0, .int 0, .ref m_truths, .ref m_imaged, .ref m_namesKept, .ref m_areKept])), (m_h, .inl (cy 1, 104, .inl hF))]) C (q_subP hP [3, 1] rfl) (hD.sub [3, 1] (by decide) rfl) (c_clears2 l D cy m0 m_tape 900 m_s m_h m_read m_names m_reserved m_undone m_before m_far m_wayRow m_keptRow m_askedRow m_rares m_trial m_hangs m_paths m_text m_toldAt m_stack m_truths m_imaged m_namesKept m_areKept hF _ ) kwV_X11_clears kM_RX11_161 rfl rfl ⟨Nat.le_of_ble_eq_true rfl, Nat.le_of_ble_eq_true rfl⟩ rfl hl.1 rfl (Nat.le_of_ble_eq_true rfl) dX11_library_33 ⟨Nat.le_of_ble_eq_true rfl, Nat.le_of_ble_eq_true rfl⟩) C.2.2.2.2.2.2.1 hP hD hS [3, 1] [0, 2] rfl rfl (by decide) (by decide) (fun u_4 H locs hw_6 hP hD hS => ?_)
  have hP : va_P D vwCl [(m_s, .inl (cy 1, 383, .inl (sD 0))), (m_names, .inl (cy 2, 16, .inr (.inl (fun _ => 0)))), (m0, .inr (11, [.int 0, .ref m_tape, .int 0, .int 0, .int 0, .int 900, .ref m_s, .ref m_h, .ref m_read, .ref m_names, .ref m_reserved, .int 0, .int 0, .int 0, .int 0, .int 0, .int 0, .long 0, .int 0, .int 0, .int 0, .int 0, .int 0, .int 0, .int 0, .ref m_undone, .ref m_before, .int 0, .ref m_far, .ref m_wayRow, .int (-1), .ref m_keptRow, .ref m_askedRow, .ref m_rares, .ref m_trial, .int (-1), .int (-1), .ref m_hangs, .ref m_paths, .int 0, .int 0, .int 0, .int 0, .ref m_text, .int 0, .int 0, .ref m_toldAt, .int 0, .ref m_stack, .int 0, .int 0, .int 0, .int 0, .int 0, .ref m_truths, .ref m_imaged, .ref m_namesKept, .ref m_areKept])), (m_h, .inl (cy 1, 104, .inl u_4))] H := hP
  have hD : va_D A [(m_s, .inl (cy 1, 383, .inl (sD 0))), (m_names, .inl (cy 2, 16, .inr (.inl (fun _ => 0)))), (m0, .inr (11, [.int 0, .ref m_tape, .int 0, .int 0, .int 0, .int 900, .ref m_s, .ref m_h, .ref m_read, .ref m_names, .ref m_reserved, .int 0, .int 0, .int 0, .int 0, .int 0, .int 0, .long 0, .int 0, .int 0, .int 0, .int 0, .int 0, .int 0, .int 0, .ref m_undone, .ref m_before, .int 0, .ref m_far, .ref m_wayRow, .int (-1), .ref m_keptRow, .ref m_askedRow, .ref m_rares, .ref m_trial, .int (-1), .int (-1), .ref m_hangs, .ref m_paths, .int 0, .int 0, .int 0, .int 0, .ref m_text, .int 0, .int 0, .ref m_toldAt, .int 0, .ref m_stack, .int 0, .int 0, .int 0, .int 0, .int 0, .ref m_truths, .ref m_imaged, .ref m_namesKept, .ref m_areKept])), (m_h, .inl (cy 1, 104, .inl u_4))] := hD
  refine lv_aload_n hx hb dX11_library_36 rfl (lv_at hl 0 rfl) ?_
  refine q_av (wr := [(m_s, .inl (cy 1, 383, .inl (sD 0))), (m_names, .inl (cy 2, 16, .inr (.inl (fun _ => 0)))), (m_h, .inl (cy 1, 104, .inl u_4))]) (r_V (q0 := 0) (As := []) (rest := []) (wc := [(m0, .inr (11, [.int 0, .ref m_tape, .int 0, .int 0, .int 0, .int 900, .ref m_s, .ref m_h, .ref m_read, .ref m_names, .ref m_reserved, .int 0, .int 0, .int 0, .int 0, .int 0, .int 0, .long 0, .int 0, .int 0, .int 0, .int 0, .int 0, .int 0, .int 0, .ref m_undone, .ref m_before, .int 0, .ref m_far, .ref m_wayRow, .int (-1), .ref m_keptRow, .ref m_askedRow, .ref m_rares, .ref m_trial, .int (-1), .int (-1), .ref m_hangs, .ref m_paths, .int 0, .int 0, .int 0, .int 0, .ref m_text, .int 0, .int 0, .ref m_toldAt, .int 0, .ref m_stack, .int 0, .int 0, .int 0, .int 0, .int 0, .ref m_truths, .ref m_imaged, .ref m_namesKept, .ref m_areKept]))]) C (q_subP hP [2] rfl) (hD.sub [2] (by decide) rfl) (m_next900 l D cy m0 m_tape m_s m_h m_read m_names m_reserved m_undone m_before m_far m_wayRow m_keptRow m_askedRow m_rares m_trial m_hangs m_paths m_text m_toldAt m_stack m_truths m_imaged m_namesKept m_areKept _ ) kwV_X11_next kM_RX11_203 rfl rfl ⟨Nat.le_of_ble_eq_true rfl, Nat.le_of_ble_eq_true rfl⟩ rfl hl.1 rfl (Nat.le_of_ble_eq_true rfl) dX11_library_37 ⟨Nat.le_of_ble_eq_true rfl, Nat.le_of_ble_eq_true rfl⟩) C.2.2.2.2.2.2.1 hP hD hS [2] [0, 1, 3] rfl rfl (by decide) (by decide) (fun u_7 H locs hw_9 hP hD hS => ?_)
  have hP : va_P D vwCl [(m_s, .inl (cy 1, 383, .inl (sD 0))), (m_names, .inl (cy 2, 16, .inr (.inl (fun _ => 0)))), (m_h, .inl (cy 1, 104, .inl u_4)), (m0, .inr (11, [.int 0, .ref m_tape, .int 0, .int 0, .int 0, .int 900, .ref m_s, .ref m_h, .ref m_read, .ref m_names, .ref m_reserved, .int 0, .int 0, .int 0, .int 0, .int 0, .int 0, .long 0, .int 0, .int 0, .int 0, .int 0, .int 0, .int 0, .int 0, .ref m_undone, .ref m_before, .int 0, .ref m_far, .ref m_wayRow, .int (-1), .ref m_keptRow, .ref m_askedRow, .ref m_rares, .ref m_trial, .int (-1), .int (-1), .ref m_hangs, .ref m_paths, .int 0, .int 0, .int 0, .int 0, .ref m_text, .int 0, .int 0, .ref m_toldAt, .int 0, .ref m_stack, .int 0, .int 0, .int 0, .int 0, .int 0, .ref m_truths, .ref m_imaged, .ref m_namesKept, .ref m_areKept]))] H := hP
  have hD : va_D A [(m_s, .inl (cy 1, 383, .inl (sD 0))), (m_names, .inl (cy 2, 16, .inr (.inl (fun _ => 0)))), (m_h, .inl (cy 1, 104, .inl u_4)), (m0, .inr (11, [.int 0, .ref m_tape, .int 0, .int 0, .int 0, .int 900, .ref m_s, .ref m_h, .ref m_read, .ref m_names, .ref m_reserved, .int 0, .int 0, .int 0, .int 0, .int 0, .int 0, .long 0, .int 0, .int 0, .int 0, .int 0, .int 0, .int 0, .int 0, .ref m_undone, .ref m_before, .int 0, .ref m_far, .ref m_wayRow, .int (-1), .ref m_keptRow, .ref m_askedRow, .ref m_rares, .ref m_trial, .int (-1), .int (-1), .ref m_hangs, .ref m_paths, .int 0, .int 0, .int 0, .int 0, .ref m_text, .int 0, .int 0, .ref m_toldAt, .int 0, .ref m_stack, .int 0, .int 0, .int 0, .int 0, .int 0, .ref m_truths, .ref m_imaged, .ref m_namesKept, .ref m_areKept]))] := hD
  refine lv_aload_n hx hb dX11_library_40 rfl (lv_at hl 0 rfl) ?_
  refine q_get (v := .int 0) C hP 3 11 rfl rfl inX11 (by decide) kF_RX11_174 rfl rfl dX11_library_41 ?_
  refine lv_if_eq (tgt := 83) hx hb dX11_library_44 (by decide) (fun _ => ?_) (fun c_0 => absurd (by decide) c_0)
  refine lv_iconst (v := 0) hx hb dX11_library_83 (by decide) ?_
  refine lv_istore_n (lv' := [(1, .int 0), (0, .ref m0)]) hx hb dX11_library_84 rfl hl (by decide) rfl (fun ls hl => ?_)
  refine lp_y_library_85 l D cy m0 m_areKept m_askedRow m_before m_far m_h m_hangs m_imaged m_keptRow m_names m_namesKept m_paths m_rares m_read m_reserved m_s m_stack m_tape m_text m_toldAt m_trial m_truths m_undone m_wayRow u_4   ⟨Nat.le_of_ble_eq_true rfl, Nat.le_of_ble_eq_true rfl⟩ C (fun gs1 H locs ls hP hD hS hl => ?_) 383 0 (sD 0) _ _ ls (by omega) hP hD hS (lv_sub hl [0, 1] rfl)
  refine lv_iconst (v := 0) hx hb dX11_library_120 (by decide) ?_
  refine lv_istore_n (lv' := [(1, .int 0), (0, .ref m0)]) hx hb dX11_library_121 rfl hl (by decide) rfl (fun ls hl => ?_)
  refine lp_y_library_122 l D cy m0 m_areKept m_askedRow m_before m_far m_h m_hangs m_imaged m_keptRow m_names m_namesKept m_paths m_rares m_read m_reserved m_s m_stack m_tape m_text m_toldAt m_trial m_truths m_undone m_wayRow u_4   ⟨Nat.le_of_ble_eq_true rfl, Nat.le_of_ble_eq_true rfl⟩ C (fun gs2 gn H locs ls hP hD hS hl => ?_) 8 0 gs1 (fun _ => 0) _ _ ls (by omega) hP hD hS (lv_sub hl [0, 1] rfl)
  refine lv_iconst (v := 0) hx hb dX11_library_203 (by decide) ?_
  refine lv_istore_n (lv' := [(1, .int 0), (0, .ref m0)]) hx hb dX11_library_204 rfl hl (by decide) rfl (fun ls hl => ?_)
  refine lp_y_library_205 l D cy gn m0 m_areKept m_askedRow m_before m_far m_h m_hangs m_imaged m_keptRow m_names m_namesKept m_paths m_rares m_read m_reserved m_s m_stack m_tape m_text m_toldAt m_trial m_truths m_undone m_wayRow u_4   ⟨Nat.le_of_ble_eq_true rfl, Nat.le_of_ble_eq_true rfl⟩ C (fun gs3 H locs ls hP hD hS hl => ?_) 64 0 gs2 _ _ ls (by omega) hP hD hS (lv_sub hl [0, 1] rfl)
  refine lv_aload_n hx hb dX11_library_236 rfl (lv_at hl 1 rfl) ?_
  refine lv_iconst (v := 0) hx hb dX11_library_237 (by decide) ?_
  refine q_put (v := .int 0) (w' := [(m_s, .inl (cy 1, 383, .inl gs3)), (m_names, .inl (cy 2, 16, .inr (.inl gn))), (m_h, .inl (cy 1, 104, .inl u_4)), (m0, .inr (11, [.int 0, .ref m_tape, .int 0, .int 0, .int 0, .int 900, .ref m_s, .ref m_h, .ref m_read, .ref m_names, .ref m_reserved, .int 0, .int 0, .int 0, .int 0, .int 0, .int 0, .long 0, .int 0, .int 0, .int 0, .int 0, .int 0, .int 0, .int 0, .ref m_undone, .ref m_before, .int 0, .ref m_far, .ref m_wayRow, .int (-1), .ref m_keptRow, .ref m_askedRow, .ref m_rares, .ref m_trial, .int (-1), .int (-1), .ref m_hangs, .ref m_paths, .int 0, .int 0, .int 0, .int 0, .ref m_text, .int 0, .int 0, .ref m_toldAt, .int 0, .ref m_stack, .int 0, .int 0, .int 0, .int 0, .int 0, .ref m_truths, .ref m_imaged, .ref m_namesKept, .ref m_areKept]))]) (ty := .int) C hP hD hS 3 27 rfl rfl inX11 tyX11 tyX11_ok nmX11 (by decide) kF_RX11_288 rfl rfl rfl rfl rfl (Nat.le_of_ble_eq_true rfl) rfl dX11_library_238 (fun H locs hP hD hS => ?_)
  refine lv_aload_n hx hb dX11_library_241 rfl (lv_at hl 1 rfl) ?_
  refine q_get (v := .int 0) C hP 3 19 rfl rfl inX11 (by decide) kF_RX11_279 rfl rfl dX11_library_242 ?_
  exact q_iret (rm := (Rm 2 43 0 0)) C hS () rfl rfl (q_subP hP [] rfl) (hD.sub [] (by decide) rfl) (Nat.le_of_ble_eq_true rfl) (Nat.le_of_ble_eq_true rfl) dX11_library_245
set_option maxHeartbeats 4000000 in
set_option maxRecDepth 100000 in
theorem y_fault (l : Launch) (D : va_G) (cy : Nat → ClassId) (m0 : Nat) (m_tape : Nat) (m_s : Nat) (m_h : Nat) (m_read : Nat) (m_names : Nat) (m_reserved : Nat) (m_undone : Nat) (m_before : Nat) (m_far : Nat) (m_wayRow : Nat) (m_keptRow : Nat) (m_askedRow : Nat) (m_rares : Nat) (m_trial : Nat) (m_hangs : Nat) (m_paths : Nat) (m_text : Nat) (m_toldAt : Nat) (m_stack : Nat) (m_truths : Nat) (m_imaged : Nat) (m_namesKept : Nat) (m_areKept : Nat) (sz : Nat)  : MI l yX11_fault cX11_fault 1 (some .int) (Rm 0 0 0 0) D cy [.ref m0] sz [(m0, .inr (11, [.int 0, .ref m_tape, .int 0, .int 0, .int 0, .int 0, .ref m_s, .ref m_h, .ref m_read, .ref m_names, .ref m_reserved, .int 0, .int 0, .int 0, .int 0, .int 0, .int 0, .long 0, .int 0, .int 0, .int 0, .int 0, .int 0, .int 0, .int 0, .ref m_undone, .ref m_before, .int 0, .ref m_far, .ref m_wayRow, .int (-1), .ref m_keptRow, .ref m_askedRow, .ref m_rares, .ref m_trial, .int (-1), .int (-1), .ref m_hangs, .ref m_paths, .int 0, .int 0, .int 0, .int 0, .ref m_text, .int 0, .int 0, .ref m_toldAt, .int 0, .ref m_stack, .int 0, .int 0, .int 0, .int 0, .int 0, .ref m_truths, .ref m_imaged, .ref m_namesKept, .ref m_areKept]))] (fun (r : Int32) (u : Unit) => r = 0) (fun u : Unit => []) := by
  refine MI.enter (by decide) (Nat.le_of_ble_eq_true rfl) ?_
  intro p e s m below meth c ls A hsz hAe C hP hD hS hl
  have C : Cx p s m _ meth c cX11_fault 1 (some .int) RX11 "fault" D cy A := C
  have hx := C.1
  have hb := C.2.1
  have hl : lv_has ls 1 [(0, .ref m0)] := hl
  refine lv_aload_n hx hb dX11_fault_0 rfl (lv_at hl 0 rfl) ?_
  refine lv_iconst (v := 0) hx hb dX11_fault_1 (by decide) ?_
  refine q_put (v := .int 0) (w' := [(m0, .inr (11, [.int 0, .ref m_tape, .int 0, .int 0, .int 0, .int 0, .ref m_s, .ref m_h, .ref m_read, .ref m_names, .ref m_reserved, .int 0, .int 0, .int 0, .int 0, .int 0, .int 0, .long 0, .int 0, .int 0, .int 0, .int 0, .int 0, .int 0, .int 0, .ref m_undone, .ref m_before, .int 0, .ref m_far, .ref m_wayRow, .int (-1), .ref m_keptRow, .ref m_askedRow, .ref m_rares, .ref m_trial, .int (-1), .int (-1), .ref m_hangs, .ref m_paths, .int 0, .int 0, .int 0, .int 0, .ref m_text, .int 0, .int 0, .ref m_toldAt, .int 0, .ref m_stack, .int 0, .int 0, .int 0, .int 0, .int 0, .ref m_truths, .ref m_imaged, .ref m_namesKept, .ref m_areKept]))]) (ty := .int) C hP hD hS 0 0 rfl rfl inX11 tyX11 tyX11_ok nmX11 (by decide) kF_RX11_1 rfl rfl rfl rfl rfl (Nat.le_of_ble_eq_true rfl) rfl dX11_fault_2 (fun H locs hP hD hS => ?_)
  refine lv_aload_n hx hb dX11_fault_5 rfl (lv_at hl 0 rfl) ?_
  refine q_get (v := .int 0) C hP 0 15 rfl rfl inX11 (by decide) kF_RX11_191 rfl rfl dX11_fault_6 ?_
  exact q_iret (rm := (Rm 0 0 0 0)) C hS () rfl rfl (q_subP hP [] rfl) (hD.sub [] (by decide) rfl) (Nat.le_of_ble_eq_true rfl) (Nat.le_of_ble_eq_true rfl) dX11_fault_9
set_option maxHeartbeats 4000000 in
set_option maxRecDepth 100000 in
theorem m_throwsIf (l : Launch) (D : va_G) (cy : Nat → ClassId) (m0 : Nat) (m_tape : Nat) (m_s : Nat) (m_h : Nat) (m_read : Nat) (m_names : Nat) (m_reserved : Nat) (m_undone : Nat) (m_before : Nat) (m_far : Nat) (m_wayRow : Nat) (m_keptRow : Nat) (m_askedRow : Nat) (m_rares : Nat) (m_trial : Nat) (m_hangs : Nat) (m_paths : Nat) (m_text : Nat) (m_toldAt : Nat) (m_stack : Nat) (m_truths : Nat) (m_imaged : Nat) (m_namesKept : Nat) (m_areKept : Nat) (sz : Nat)  : MI l yX11_throwsIf cX11_throwsIf 2 (some .boolean) (Rm 0 0 0 0) D cy [.ref m0, .int 1] sz [(m0, .inr (11, [.int 0, .ref m_tape, .int 0, .int 0, .int 0, .int 0, .ref m_s, .ref m_h, .ref m_read, .ref m_names, .ref m_reserved, .int 0, .int 0, .int 0, .int 0, .int 0, .int 0, .long 0, .int 0, .int 0, .int 0, .int 0, .int 0, .int 0, .int 0, .ref m_undone, .ref m_before, .int 0, .ref m_far, .ref m_wayRow, .int (-1), .ref m_keptRow, .ref m_askedRow, .ref m_rares, .ref m_trial, .int (-1), .int (-1), .ref m_hangs, .ref m_paths, .int 0, .int 0, .int 0, .int 0, .ref m_text, .int 0, .int 0, .ref m_toldAt, .int 0, .ref m_stack, .int 0, .int 0, .int 0, .int 0, .int 0, .ref m_truths, .ref m_imaged, .ref m_namesKept, .ref m_areKept]))] (fun (r : Int32) (u : Unit) => r = 1) (fun u : Unit => [(m0, .inr (11, [.int 1, .ref m_tape, .int 0, .int 0, .int 0, .int 0, .ref m_s, .ref m_h, .ref m_read, .ref m_names, .ref m_reserved, .int 0, .int 0, .int 0, .int 0, .int 0, .int 0, .long 0, .int 0, .int 0, .int 0, .int 0, .int 0, .int 0, .int 0, .ref m_undone, .ref m_before, .int 0, .ref m_far, .ref m_wayRow, .int (-1), .ref m_keptRow, .ref m_askedRow, .ref m_rares, .ref m_trial, .int (-1), .int (-1), .ref m_hangs, .ref m_paths, .int 0, .int 0, .int 0, .int 0, .ref m_text, .int 0, .int 0, .ref m_toldAt, .int 0, .ref m_stack, .int 0, .int 0, .int 0, .int 0, .int 0, .ref m_truths, .ref m_imaged, .ref m_namesKept, .ref m_areKept]))]) := by
  refine MI.enter (by decide) (Nat.le_of_ble_eq_true rfl) ?_
  intro p e s m below meth c ls A hsz hAe C hP hD hS hl
  have C : Cx p s m _ meth c cX11_throwsIf 2 (some .boolean) RX11 "throwsIf" D cy A := C
  have hx := C.1
  have hb := C.2.1
  have hl : lv_has ls 2 [(0, .ref m0), (1, .int 1)] := hl
  refine lv_aload_n hx hb dX11_throwsIf_0 rfl (lv_at hl 0 rfl) ?_
  refine lv_iload_n hx hb dX11_throwsIf_1 rfl (lv_at hl 1 rfl) ?_
  refine lv_if_eq (tgt := 9) hx hb dX11_throwsIf_2 (by decide) (fun c_0 => absurd c_0 (by decide)) (fun _ => ?_)
  refine lv_iconst (v := 1) hx hb dX11_throwsIf_5 (by decide) ?_
  refine lv_goto (tgt := 10) hx hb dX11_throwsIf_6 (by decide) ?_
  refine q_put (v := .int 1) (w' := [(m0, .inr (11, [.int 1, .ref m_tape, .int 0, .int 0, .int 0, .int 0, .ref m_s, .ref m_h, .ref m_read, .ref m_names, .ref m_reserved, .int 0, .int 0, .int 0, .int 0, .int 0, .int 0, .long 0, .int 0, .int 0, .int 0, .int 0, .int 0, .int 0, .int 0, .ref m_undone, .ref m_before, .int 0, .ref m_far, .ref m_wayRow, .int (-1), .ref m_keptRow, .ref m_askedRow, .ref m_rares, .ref m_trial, .int (-1), .int (-1), .ref m_hangs, .ref m_paths, .int 0, .int 0, .int 0, .int 0, .ref m_text, .int 0, .int 0, .ref m_toldAt, .int 0, .ref m_stack, .int 0, .int 0, .int 0, .int 0, .int 0, .ref m_truths, .ref m_imaged, .ref m_namesKept, .ref m_areKept]))]) (ty := .int) C hP hD hS 0 0 rfl rfl inX11 tyX11 tyX11_ok nmX11 (by decide) kF_RX11_1 rfl rfl rfl rfl rfl (Nat.le_of_ble_eq_true rfl) rfl dX11_throwsIf_10 (fun H locs hP hD hS => ?_)
  refine lv_iload_n hx hb dX11_throwsIf_13 rfl (lv_at hl 1 rfl) ?_
  exact q_iret (rm := (Rm 0 0 0 0)) C hS () rfl rfl (q_subP hP [0] rfl) (hD.sub [0] (by decide) rfl) (Nat.le_of_ble_eq_true rfl) (Nat.le_of_ble_eq_true rfl) dX11_throwsIf_14
set_option maxHeartbeats 4000000 in
set_option maxRecDepth 100000 in
theorem y_book (l : Launch) (D : va_G) (cy : Nat → ClassId) (m0 : Nat) (n : Int32) (v : Int32) (m_tape : Nat) (m_s : Nat) (m_h : Nat) (m_read : Nat) (m_names : Nat) (m_reserved : Nat) (m_undone : Nat) (m_before : Nat) (m_far : Nat) (m_wayRow : Nat) (m_keptRow : Nat) (m_askedRow : Nat) (m_rares : Nat) (m_trial : Nat) (m_hangs : Nat) (m_paths : Nat) (m_text : Nat) (m_toldAt : Nat) (m_stack : Nat) (m_truths : Nat) (m_imaged : Nat) (m_namesKept : Nat) (m_areKept : Nat) (sz : Nat)  : MI l yX11_book cX11_book 3 (some .int) (Rm 2 43 0 0) D cy [.ref m0, .int n, .int v] sz [(m0, .inr (11, [.int 0, .ref m_tape, .int 0, .int 0, .int 0, .int 0, .ref m_s, .ref m_h, .ref m_read, .ref m_names, .ref m_reserved, .int 0, .int 0, .int 0, .int 0, .int 0, .int 0, .long 0, .int 0, .int 0, .int 0, .int 0, .int 0, .int 0, .int 0, .ref m_undone, .ref m_before, .int 0, .ref m_far, .ref m_wayRow, .int (-1), .ref m_keptRow, .ref m_askedRow, .ref m_rares, .ref m_trial, .int (-1), .int (-1), .ref m_hangs, .ref m_paths, .int 0, .int 0, .int 0, .int 0, .ref m_text, .int 0, .int 0, .ref m_toldAt, .int 0, .ref m_stack, .int 0, .int 0, .int 0, .int 0, .int 0, .ref m_truths, .ref m_imaged, .ref m_namesKept, .ref m_areKept])), (m_s, .inl (cy 1, 383, .inl (sD 0)))] (fun (r : Int32) (u : Unit) => r = 0) (fun u : Unit => [(m0, .inr (11, [.int 1, .ref m_tape, .int 0, .int 0, .int 0, .int 0, .ref m_s, .ref m_h, .ref m_read, .ref m_names, .ref m_reserved, .int 0, .int 0, .int 0, .int 0, .int 0, .int 0, .long 0, .int 0, .int 0, .int 0, .int 0, .int 0, .int 0, .int 0, .ref m_undone, .ref m_before, .int 0, .ref m_far, .ref m_wayRow, .int (-1), .ref m_keptRow, .ref m_askedRow, .ref m_rares, .ref m_trial, .int (-1), .int (-1), .ref m_hangs, .ref m_paths, .int 0, .int 0, .int 0, .int 0, .ref m_text, .int 0, .int 0, .ref m_toldAt, .int 0, .ref m_stack, .int 0, .int 0, .int 0, .int 0, .int 0, .ref m_truths, .ref m_imaged, .ref m_namesKept, .ref m_areKept]))]) := by
  refine MI.enter (by decide) (Nat.le_of_ble_eq_true rfl) ?_
  intro p e s m below meth c ls A hsz hAe C hP hD hS hl
  have C : Cx p s m _ meth c cX11_book 3 (some .int) RX11 "book" D cy A := C
  have hx := C.1
  have hb := C.2.1
  have hl : lv_has ls 3 [(0, .ref m0), (1, .int n), (2, .int v)] := hl
  refine lv_aload_n hx hb dX11_book_0 rfl (lv_at hl 0 rfl) ?_
  refine lv_aload_n hx hb dX11_book_1 rfl (lv_at hl 0 rfl) ?_
  refine lv_iload_n hx hb dX11_book_2 rfl (lv_at hl 1 rfl) ?_
  refine q_ai (wr := []) (r_V (q0 := 0) (As := [.int n]) (rest := [.ref m0]) (wc := [(m0, .inr (11, [.int 0, .ref m_tape, .int 0, .int 0, .int 0, .int 0, .ref m_s, .ref m_h, .ref m_read, .ref m_names, .ref m_reserved, .int 0, .int 0, .int 0, .int 0, .int 0, .int 0, .long 0, .int 0, .int 0, .int 0, .int 0, .int 0, .int 0, .int 0, .ref m_undone, .ref m_before, .int 0, .ref m_far, .ref m_wayRow, .int (-1), .ref m_keptRow, .ref m_askedRow, .ref m_rares, .ref m_trial, .int (-1), .int (-1), .ref m_hangs, .ref m_paths, .int 0, .int 0, .int 0, .int 0, .ref m_text, .int 0, .int 0, .ref m_toldAt, .int 0, .ref m_stack, .int 0, .int 0, .int 0, .int 0, .int 0, .ref m_truths, .ref m_imaged, .ref m_namesKept, .ref m_areKept])), (m_s, .inl (cy 1, 383, .inl (sD 0)))]) C (q_subP hP [0, 1] rfl) (hD.sub [0, 1] (by decide) rfl) (m_isBook l D cy m0 n 0 m_tape m_s m_h m_read m_names m_reserved m_undone m_before m_far m_wayRow m_keptRow m_askedRow m_rares m_trial m_hangs m_paths m_text m_toldAt m_stack m_truths m_imaged m_namesKept m_areKept _ ) kwV_X11_isBook kM_RX11_306 rfl rfl ⟨Nat.le_of_ble_eq_true rfl, Nat.le_of_ble_eq_true rfl⟩ rfl hl.1 rfl (Nat.le_of_ble_eq_true rfl) dX11_book_3 ⟨Nat.le_of_ble_eq_true rfl, Nat.le_of_ble_eq_true rfl⟩) C.2.2.2.2.2.2.1 hP hD hS [0, 1] [] rfl rfl (by decide) (by decide) (fun r_2 u_1 H locs hw_3 hP hD hS => ?_)
  have hP : va_P D vwCl [(m0, .inr (11, [.int 0, .ref m_tape, .int 0, .int 0, .int 0, .int 0, .ref m_s, .ref m_h, .ref m_read, .ref m_names, .ref m_reserved, .int 0, .int 0, .int 0, .int 0, .int 0, .int 0, .long 0, .int 0, .int 0, .int 0, .int 0, .int 0, .int 0, .int 0, .ref m_undone, .ref m_before, .int 0, .ref m_far, .ref m_wayRow, .int (-1), .ref m_keptRow, .ref m_askedRow, .ref m_rares, .ref m_trial, .int (-1), .int (-1), .ref m_hangs, .ref m_paths, .int 0, .int 0, .int 0, .int 0, .ref m_text, .int 0, .int 0, .ref m_toldAt, .int 0, .ref m_stack, .int 0, .int 0, .int 0, .int 0, .int 0, .ref m_truths, .ref m_imaged, .ref m_namesKept, .ref m_areKept])), (m_s, .inl (cy 1, 383, .inl (sD 0)))] H := hP
  have hD : va_D A [(m0, .inr (11, [.int 0, .ref m_tape, .int 0, .int 0, .int 0, .int 0, .ref m_s, .ref m_h, .ref m_read, .ref m_names, .ref m_reserved, .int 0, .int 0, .int 0, .int 0, .int 0, .int 0, .long 0, .int 0, .int 0, .int 0, .int 0, .int 0, .int 0, .int 0, .ref m_undone, .ref m_before, .int 0, .ref m_far, .ref m_wayRow, .int (-1), .ref m_keptRow, .ref m_askedRow, .ref m_rares, .ref m_trial, .int (-1), .int (-1), .ref m_hangs, .ref m_paths, .int 0, .int 0, .int 0, .int 0, .ref m_text, .int 0, .int 0, .ref m_toldAt, .int 0, .ref m_stack, .int 0, .int 0, .int 0, .int 0, .int 0, .ref m_truths, .ref m_imaged, .ref m_namesKept, .ref m_areKept])), (m_s, .inl (cy 1, 383, .inl (sD 0)))] := hD
  obtain rfl : r_2 = 0 := hw_3
  refine lv_if_eq (tgt := 19) hx hb dX11_book_6 (by decide) (fun _ => ?_) (fun c_0 => absurd (by decide) c_0)
  refine lv_iconst (v := 1) hx hb dX11_book_19 (by decide) ?_
  refine lv_goto (tgt := 24) hx hb dX11_book_20 (by decide) ?_
  refine q_ai (wr := [(m_s, .inl (cy 1, 383, .inl (sD 0)))]) (r_V (q0 := 0) (As := [.int 1]) (rest := []) (wc := [(m0, .inr (11, [.int 0, .ref m_tape, .int 0, .int 0, .int 0, .int 0, .ref m_s, .ref m_h, .ref m_read, .ref m_names, .ref m_reserved, .int 0, .int 0, .int 0, .int 0, .int 0, .int 0, .long 0, .int 0, .int 0, .int 0, .int 0, .int 0, .int 0, .int 0, .ref m_undone, .ref m_before, .int 0, .ref m_far, .ref m_wayRow, .int (-1), .ref m_keptRow, .ref m_askedRow, .ref m_rares, .ref m_trial, .int (-1), .int (-1), .ref m_hangs, .ref m_paths, .int 0, .int 0, .int 0, .int 0, .ref m_text, .int 0, .int 0, .ref m_toldAt, .int 0, .ref m_stack, .int 0, .int 0, .int 0, .int 0, .int 0, .ref m_truths, .ref m_imaged, .ref m_namesKept, .ref m_areKept]))]) C (q_subP hP [0] rfl) (hD.sub [0] (by decide) rfl) (m_throwsIf l D cy m0 m_tape m_s m_h m_read m_names m_reserved m_undone m_before m_far m_wayRow m_keptRow m_askedRow m_rares m_trial m_hangs m_paths m_text m_toldAt m_stack m_truths m_imaged m_namesKept m_areKept _ ) kwV_X11_throwsIf kM_RX11_309 rfl rfl ⟨Nat.le_of_ble_eq_true rfl, Nat.le_of_ble_eq_true rfl⟩ rfl hl.1 rfl (Nat.le_of_ble_eq_true rfl) dX11_book_24 ⟨Nat.le_of_ble_eq_true rfl, Nat.le_of_ble_eq_true rfl⟩) C.2.2.2.2.2.2.1 hP hD hS [0] [1] rfl rfl (by decide) (by decide) (fun r_5 u_4 H locs hw_6 hP hD hS => ?_)
  have hP : va_P D vwCl [(m_s, .inl (cy 1, 383, .inl (sD 0))), (m0, .inr (11, [.int 1, .ref m_tape, .int 0, .int 0, .int 0, .int 0, .ref m_s, .ref m_h, .ref m_read, .ref m_names, .ref m_reserved, .int 0, .int 0, .int 0, .int 0, .int 0, .int 0, .long 0, .int 0, .int 0, .int 0, .int 0, .int 0, .int 0, .int 0, .ref m_undone, .ref m_before, .int 0, .ref m_far, .ref m_wayRow, .int (-1), .ref m_keptRow, .ref m_askedRow, .ref m_rares, .ref m_trial, .int (-1), .int (-1), .ref m_hangs, .ref m_paths, .int 0, .int 0, .int 0, .int 0, .ref m_text, .int 0, .int 0, .ref m_toldAt, .int 0, .ref m_stack, .int 0, .int 0, .int 0, .int 0, .int 0, .ref m_truths, .ref m_imaged, .ref m_namesKept, .ref m_areKept]))] H := hP
  have hD : va_D A [(m_s, .inl (cy 1, 383, .inl (sD 0))), (m0, .inr (11, [.int 1, .ref m_tape, .int 0, .int 0, .int 0, .int 0, .ref m_s, .ref m_h, .ref m_read, .ref m_names, .ref m_reserved, .int 0, .int 0, .int 0, .int 0, .int 0, .int 0, .long 0, .int 0, .int 0, .int 0, .int 0, .int 0, .int 0, .int 0, .ref m_undone, .ref m_before, .int 0, .ref m_far, .ref m_wayRow, .int (-1), .ref m_keptRow, .ref m_askedRow, .ref m_rares, .ref m_trial, .int (-1), .int (-1), .ref m_hangs, .ref m_paths, .int 0, .int 0, .int 0, .int 0, .ref m_text, .int 0, .int 0, .ref m_toldAt, .int 0, .ref m_stack, .int 0, .int 0, .int 0, .int 0, .int 0, .ref m_truths, .ref m_imaged, .ref m_namesKept, .ref m_areKept]))] := hD
  obtain rfl : r_5 = 1 := hw_6
  refine lv_if_eq (tgt := 32) hx hb dX11_book_27 (by decide) (fun c_0 => absurd c_0 (by decide)) (fun _ => ?_)
  refine lv_iconst (v := 0) hx hb dX11_book_30 (by decide) ?_
  exact q_iret (rm := (Rm 2 43 0 0)) C hS () rfl rfl (q_subP hP [1] rfl) (hD.sub [1] (by decide) rfl) (Nat.le_of_ble_eq_true rfl) (Nat.le_of_ble_eq_true rfl) dX11_book_31
set_option maxHeartbeats 4000000 in
set_option maxRecDepth 100000 in
theorem y_thrown (l : Launch) (D : va_G) (cy : Nat → ClassId) (m0 : Nat) (m_tape : Nat) (m_s : Nat) (m_h : Nat) (m_read : Nat) (m_names : Nat) (m_reserved : Nat) (m_undone : Nat) (m_before : Nat) (m_far : Nat) (m_wayRow : Nat) (m_keptRow : Nat) (m_askedRow : Nat) (m_rares : Nat) (m_trial : Nat) (m_hangs : Nat) (m_paths : Nat) (m_text : Nat) (m_toldAt : Nat) (m_stack : Nat) (m_truths : Nat) (m_imaged : Nat) (m_namesKept : Nat) (m_areKept : Nat) (sz : Nat)  : MI l yX11_thrown cX11_thrown 1 (some .int) (Rm 0 0 0 0) D cy [.ref m0] sz [(m0, .inr (11, [.int 1, .ref m_tape, .int 0, .int 0, .int 0, .int 0, .ref m_s, .ref m_h, .ref m_read, .ref m_names, .ref m_reserved, .int 0, .int 0, .int 0, .int 0, .int 0, .int 0, .long 0, .int 0, .int 0, .int 0, .int 0, .int 0, .int 0, .int 0, .ref m_undone, .ref m_before, .int 0, .ref m_far, .ref m_wayRow, .int (-1), .ref m_keptRow, .ref m_askedRow, .ref m_rares, .ref m_trial, .int (-1), .int (-1), .ref m_hangs, .ref m_paths, .int 0, .int 0, .int 0, .int 0, .ref m_text, .int 0, .int 0, .ref m_toldAt, .int 0, .ref m_stack, .int 0, .int 0, .int 0, .int 0, .int 0, .ref m_truths, .ref m_imaged, .ref m_namesKept, .ref m_areKept]))] (fun (r : Int32) (u : Unit) => r = 1) (fun u : Unit => []) := by
  refine MI.enter (by decide) (Nat.le_of_ble_eq_true rfl) ?_
  intro p e s m below meth c ls A hsz hAe C hP hD hS hl
  have C : Cx p s m _ meth c cX11_thrown 1 (some .int) RX11 "thrown" D cy A := C
  have hx := C.1
  have hb := C.2.1
  have hl : lv_has ls 1 [(0, .ref m0)] := hl
  refine lv_aload_n hx hb dX11_thrown_0 rfl (lv_at hl 0 rfl) ?_
  refine q_get (v := .int 1) C hP 0 0 rfl rfl inX11 (by decide) kF_RX11_1 rfl rfl dX11_thrown_1 ?_
  exact q_iret (rm := (Rm 0 0 0 0)) C hS () rfl rfl (q_subP hP [] rfl) (hD.sub [] (by decide) rfl) (Nat.le_of_ble_eq_true rfl) (Nat.le_of_ble_eq_true rfl) dX11_thrown_4
set_option maxHeartbeats 4000000 in
set_option maxRecDepth 100000 in
theorem y_thread (l : Launch) (D : va_G) (cy : Nat → ClassId) (m0 : Nat) (a1 : Int32) (n : Int32) (m_tape : Nat) (m_s : Nat) (m_h : Nat) (m_read : Nat) (m_names : Nat) (m_reserved : Nat) (m_undone : Nat) (m_before : Nat) (m_far : Nat) (m_wayRow : Nat) (m_keptRow : Nat) (m_askedRow : Nat) (m_rares : Nat) (m_trial : Nat) (m_hangs : Nat) (m_paths : Nat) (m_text : Nat) (m_toldAt : Nat) (m_stack : Nat) (m_truths : Nat) (m_imaged : Nat) (m_namesKept : Nat) (m_areKept : Nat) (sz : Nat)  : MI l yX11_thread cX11_thread 3 (some .int) (Rm 2 43 0 0) D cy [.ref m0, .int a1, .int n] sz [(m0, .inr (11, [.int 0, .ref m_tape, .int 0, .int 0, .int 0, .int 0, .ref m_s, .ref m_h, .ref m_read, .ref m_names, .ref m_reserved, .int 0, .int 0, .int 0, .int 0, .int 0, .int 0, .long 0, .int 0, .int 0, .int 0, .int 0, .int 0, .int 0, .int 0, .ref m_undone, .ref m_before, .int 0, .ref m_far, .ref m_wayRow, .int (-1), .ref m_keptRow, .ref m_askedRow, .ref m_rares, .ref m_trial, .int (-1), .int (-1), .ref m_hangs, .ref m_paths, .int 0, .int 0, .int 0, .int 0, .ref m_text, .int 0, .int 0, .ref m_toldAt, .int 0, .ref m_stack, .int 0, .int 0, .int 0, .int 0, .int 0, .ref m_truths, .ref m_imaged, .ref m_namesKept, .ref m_areKept])), (m_s, .inl (cy 1, 383, .inl (sD 0)))] (fun (r : Int32) (u : Unit) => r = (-1)) (fun u : Unit => []) := by
  refine MI.enter (by decide) (Nat.le_of_ble_eq_true rfl) ?_
  intro p e s m below meth c ls A hsz hAe C hP hD hS hl
  have C : Cx p s m _ meth c cX11_thread 3 (some .int) RX11 "thread" D cy A := C
  have hx := C.1
  have hb := C.2.1
  have hl : lv_has ls 3 [(0, .ref m0), (1, .int a1), (2, .int n)] := hl
  refine lv_aload_n hx hb dX11_thread_0 rfl (lv_at hl 0 rfl) ?_
  refine lv_iconst (v := 0) hx hb dX11_thread_1 (by decide) ?_
  refine q_put (v := .int 0) (w' := [(m0, .inr (11, [.int 0, .ref m_tape, .int 0, .int 0, .int 0, .int 0, .ref m_s, .ref m_h, .ref m_read, .ref m_names, .ref m_reserved, .int 0, .int 0, .int 0, .int 0, .int 0, .int 0, .long 0, .int 0, .int 0, .int 0, .int 0, .int 0, .int 0, .int 0, .ref m_undone, .ref m_before, .int 0, .ref m_far, .ref m_wayRow, .int (-1), .ref m_keptRow, .ref m_askedRow, .ref m_rares, .ref m_trial, .int (-1), .int (-1), .ref m_hangs, .ref m_paths, .int 0, .int 0, .int 0, .int 0, .ref m_text, .int 0, .int 0, .ref m_toldAt, .int 0, .ref m_stack, .int 0, .int 0, .int 0, .int 0, .int 0, .ref m_truths, .ref m_imaged, .ref m_namesKept, .ref m_areKept])), (m_s, .inl (cy 1, 383, .inl (sD 0)))]) (ty := .int) C hP hD hS 0 0 rfl rfl inX11 tyX11 tyX11_ok nmX11 (by decide) kF_RX11_1 rfl rfl rfl rfl rfl (Nat.le_of_ble_eq_true rfl) rfl dX11_thread_2 (fun H locs hP hD hS => ?_)
  refine lv_aload_n hx hb dX11_thread_5 rfl (lv_at hl 0 rfl) ?_
  refine lv_iload_n hx hb dX11_thread_6 rfl (lv_at hl 1 rfl) ?_
  refine q_ai (wr := []) (r_V (q0 := 0) (As := [.int a1]) (rest := []) (wc := [(m0, .inr (11, [.int 0, .ref m_tape, .int 0, .int 0, .int 0, .int 0, .ref m_s, .ref m_h, .ref m_read, .ref m_names, .ref m_reserved, .int 0, .int 0, .int 0, .int 0, .int 0, .int 0, .long 0, .int 0, .int 0, .int 0, .int 0, .int 0, .int 0, .int 0, .ref m_undone, .ref m_before, .int 0, .ref m_far, .ref m_wayRow, .int (-1), .ref m_keptRow, .ref m_askedRow, .ref m_rares, .ref m_trial, .int (-1), .int (-1), .ref m_hangs, .ref m_paths, .int 0, .int 0, .int 0, .int 0, .ref m_text, .int 0, .int 0, .ref m_toldAt, .int 0, .ref m_stack, .int 0, .int 0, .int 0, .int 0, .int 0, .ref m_truths, .ref m_imaged, .ref m_namesKept, .ref m_areKept])), (m_s, .inl (cy 1, 383, .inl (sD 0)))]) C (q_subP hP [0, 1] rfl) (hD.sub [0, 1] (by decide) rfl) (m_isBook l D cy m0 a1 0 m_tape m_s m_h m_read m_names m_reserved m_undone m_before m_far m_wayRow m_keptRow m_askedRow m_rares m_trial m_hangs m_paths m_text m_toldAt m_stack m_truths m_imaged m_namesKept m_areKept _ ) kwV_X11_isBook kM_RX11_306 rfl rfl ⟨Nat.le_of_ble_eq_true rfl, Nat.le_of_ble_eq_true rfl⟩ rfl hl.1 rfl (Nat.le_of_ble_eq_true rfl) dX11_thread_7 ⟨Nat.le_of_ble_eq_true rfl, Nat.le_of_ble_eq_true rfl⟩) C.2.2.2.2.2.2.1 hP hD hS [0, 1] [] rfl rfl (by decide) (by decide) (fun r_2 u_1 H locs hw_3 hP hD hS => ?_)
  have hP : va_P D vwCl [(m0, .inr (11, [.int 0, .ref m_tape, .int 0, .int 0, .int 0, .int 0, .ref m_s, .ref m_h, .ref m_read, .ref m_names, .ref m_reserved, .int 0, .int 0, .int 0, .int 0, .int 0, .int 0, .long 0, .int 0, .int 0, .int 0, .int 0, .int 0, .int 0, .int 0, .ref m_undone, .ref m_before, .int 0, .ref m_far, .ref m_wayRow, .int (-1), .ref m_keptRow, .ref m_askedRow, .ref m_rares, .ref m_trial, .int (-1), .int (-1), .ref m_hangs, .ref m_paths, .int 0, .int 0, .int 0, .int 0, .ref m_text, .int 0, .int 0, .ref m_toldAt, .int 0, .ref m_stack, .int 0, .int 0, .int 0, .int 0, .int 0, .ref m_truths, .ref m_imaged, .ref m_namesKept, .ref m_areKept])), (m_s, .inl (cy 1, 383, .inl (sD 0)))] H := hP
  have hD : va_D A [(m0, .inr (11, [.int 0, .ref m_tape, .int 0, .int 0, .int 0, .int 0, .ref m_s, .ref m_h, .ref m_read, .ref m_names, .ref m_reserved, .int 0, .int 0, .int 0, .int 0, .int 0, .int 0, .long 0, .int 0, .int 0, .int 0, .int 0, .int 0, .int 0, .int 0, .ref m_undone, .ref m_before, .int 0, .ref m_far, .ref m_wayRow, .int (-1), .ref m_keptRow, .ref m_askedRow, .ref m_rares, .ref m_trial, .int (-1), .int (-1), .ref m_hangs, .ref m_paths, .int 0, .int 0, .int 0, .int 0, .ref m_text, .int 0, .int 0, .ref m_toldAt, .int 0, .ref m_stack, .int 0, .int 0, .int 0, .int 0, .int 0, .ref m_truths, .ref m_imaged, .ref m_namesKept, .ref m_areKept])), (m_s, .inl (cy 1, 383, .inl (sD 0)))] := hD
  obtain rfl : r_2 = 0 := hw_3
  refine lv_if_eq (tgt := 35) hx hb dX11_thread_10 (by decide) (fun _ => ?_) (fun c_0 => absurd (by decide) c_0)
  refine lv_iconst (v := (-1)) hx hb dX11_thread_35 (by decide) ?_
  exact q_iret (rm := (Rm 2 43 0 0)) C hS () rfl rfl (q_subP hP [] rfl) (hD.sub [] (by decide) rfl) (Nat.le_of_ble_eq_true rfl) (Nat.le_of_ble_eq_true rfl) dX11_thread_36
set_option maxHeartbeats 4000000 in
set_option maxRecDepth 100000 in
theorem y_sight (l : Launch) (D : va_G) (cy : Nat → ClassId) (m0 : Nat) (n : Int32) (m_tape : Nat) (m_s : Nat) (m_h : Nat) (m_read : Nat) (m_names : Nat) (m_reserved : Nat) (m_undone : Nat) (m_before : Nat) (m_far : Nat) (m_wayRow : Nat) (m_keptRow : Nat) (m_askedRow : Nat) (m_rares : Nat) (m_trial : Nat) (m_hangs : Nat) (m_paths : Nat) (m_text : Nat) (m_toldAt : Nat) (m_stack : Nat) (m_truths : Nat) (m_imaged : Nat) (m_namesKept : Nat) (m_areKept : Nat) (sz : Nat)  : MI l yX11_sight cX11_sight 2 (some .int) (Rm 2 43 0 0) D cy [.ref m0, .int n] sz [(m0, .inr (11, [.int 0, .ref m_tape, .int 0, .int 0, .int 0, .int 0, .ref m_s, .ref m_h, .ref m_read, .ref m_names, .ref m_reserved, .int 0, .int 0, .int 0, .int 0, .int 0, .int 0, .long 0, .int 0, .int 0, .int 0, .int 0, .int 0, .int 0, .int 0, .ref m_undone, .ref m_before, .int 0, .ref m_far, .ref m_wayRow, .int (-1), .ref m_keptRow, .ref m_askedRow, .ref m_rares, .ref m_trial, .int (-1), .int (-1), .ref m_hangs, .ref m_paths, .int 0, .int 0, .int 0, .int 0, .ref m_text, .int 0, .int 0, .ref m_toldAt, .int 0, .ref m_stack, .int 0, .int 0, .int 0, .int 0, .int 0, .ref m_truths, .ref m_imaged, .ref m_namesKept, .ref m_areKept])), (m_s, .inl (cy 1, 383, .inl (sD 0)))] (fun (r : Int32) (u : Unit) => r = (-1)) (fun u : Unit => []) := by
  refine MI.enter (by decide) (Nat.le_of_ble_eq_true rfl) ?_
  intro p e s m below meth c ls A hsz hAe C hP hD hS hl
  have C : Cx p s m _ meth c cX11_sight 2 (some .int) RX11 "sight" D cy A := C
  have hx := C.1
  have hb := C.2.1
  have hl : lv_has ls 2 [(0, .ref m0), (1, .int n)] := hl
  refine lv_aload_n hx hb dX11_sight_0 rfl (lv_at hl 0 rfl) ?_
  refine lv_iconst (v := 0) hx hb dX11_sight_1 (by decide) ?_
  refine q_put (v := .int 0) (w' := [(m0, .inr (11, [.int 0, .ref m_tape, .int 0, .int 0, .int 0, .int 0, .ref m_s, .ref m_h, .ref m_read, .ref m_names, .ref m_reserved, .int 0, .int 0, .int 0, .int 0, .int 0, .int 0, .long 0, .int 0, .int 0, .int 0, .int 0, .int 0, .int 0, .int 0, .ref m_undone, .ref m_before, .int 0, .ref m_far, .ref m_wayRow, .int (-1), .ref m_keptRow, .ref m_askedRow, .ref m_rares, .ref m_trial, .int (-1), .int (-1), .ref m_hangs, .ref m_paths, .int 0, .int 0, .int 0, .int 0, .ref m_text, .int 0, .int 0, .ref m_toldAt, .int 0, .ref m_stack, .int 0, .int 0, .int 0, .int 0, .int 0, .ref m_truths, .ref m_imaged, .ref m_namesKept, .ref m_areKept])), (m_s, .inl (cy 1, 383, .inl (sD 0)))]) (ty := .int) C hP hD hS 0 0 rfl rfl inX11 tyX11 tyX11_ok nmX11 (by decide) kF_RX11_1 rfl rfl rfl rfl rfl (Nat.le_of_ble_eq_true rfl) rfl dX11_sight_2 (fun H locs hP hD hS => ?_)
  refine lv_aload_n hx hb dX11_sight_5 rfl (lv_at hl 0 rfl) ?_
  refine lv_iload_n hx hb dX11_sight_6 rfl (lv_at hl 1 rfl) ?_
  refine q_ai (wr := []) (r_V (q0 := 0) (As := [.int n]) (rest := []) (wc := [(m0, .inr (11, [.int 0, .ref m_tape, .int 0, .int 0, .int 0, .int 0, .ref m_s, .ref m_h, .ref m_read, .ref m_names, .ref m_reserved, .int 0, .int 0, .int 0, .int 0, .int 0, .int 0, .long 0, .int 0, .int 0, .int 0, .int 0, .int 0, .int 0, .int 0, .ref m_undone, .ref m_before, .int 0, .ref m_far, .ref m_wayRow, .int (-1), .ref m_keptRow, .ref m_askedRow, .ref m_rares, .ref m_trial, .int (-1), .int (-1), .ref m_hangs, .ref m_paths, .int 0, .int 0, .int 0, .int 0, .ref m_text, .int 0, .int 0, .ref m_toldAt, .int 0, .ref m_stack, .int 0, .int 0, .int 0, .int 0, .int 0, .ref m_truths, .ref m_imaged, .ref m_namesKept, .ref m_areKept])), (m_s, .inl (cy 1, 383, .inl (sD 0)))]) C (q_subP hP [0, 1] rfl) (hD.sub [0, 1] (by decide) rfl) (m_isBook l D cy m0 n 0 m_tape m_s m_h m_read m_names m_reserved m_undone m_before m_far m_wayRow m_keptRow m_askedRow m_rares m_trial m_hangs m_paths m_text m_toldAt m_stack m_truths m_imaged m_namesKept m_areKept _ ) kwV_X11_isBook kM_RX11_306 rfl rfl ⟨Nat.le_of_ble_eq_true rfl, Nat.le_of_ble_eq_true rfl⟩ rfl hl.1 rfl (Nat.le_of_ble_eq_true rfl) dX11_sight_7 ⟨Nat.le_of_ble_eq_true rfl, Nat.le_of_ble_eq_true rfl⟩) C.2.2.2.2.2.2.1 hP hD hS [0, 1] [] rfl rfl (by decide) (by decide) (fun r_2 u_1 H locs hw_3 hP hD hS => ?_)
  have hP : va_P D vwCl [(m0, .inr (11, [.int 0, .ref m_tape, .int 0, .int 0, .int 0, .int 0, .ref m_s, .ref m_h, .ref m_read, .ref m_names, .ref m_reserved, .int 0, .int 0, .int 0, .int 0, .int 0, .int 0, .long 0, .int 0, .int 0, .int 0, .int 0, .int 0, .int 0, .int 0, .ref m_undone, .ref m_before, .int 0, .ref m_far, .ref m_wayRow, .int (-1), .ref m_keptRow, .ref m_askedRow, .ref m_rares, .ref m_trial, .int (-1), .int (-1), .ref m_hangs, .ref m_paths, .int 0, .int 0, .int 0, .int 0, .ref m_text, .int 0, .int 0, .ref m_toldAt, .int 0, .ref m_stack, .int 0, .int 0, .int 0, .int 0, .int 0, .ref m_truths, .ref m_imaged, .ref m_namesKept, .ref m_areKept])), (m_s, .inl (cy 1, 383, .inl (sD 0)))] H := hP
  have hD : va_D A [(m0, .inr (11, [.int 0, .ref m_tape, .int 0, .int 0, .int 0, .int 0, .ref m_s, .ref m_h, .ref m_read, .ref m_names, .ref m_reserved, .int 0, .int 0, .int 0, .int 0, .int 0, .int 0, .long 0, .int 0, .int 0, .int 0, .int 0, .int 0, .int 0, .int 0, .ref m_undone, .ref m_before, .int 0, .ref m_far, .ref m_wayRow, .int (-1), .ref m_keptRow, .ref m_askedRow, .ref m_rares, .ref m_trial, .int (-1), .int (-1), .ref m_hangs, .ref m_paths, .int 0, .int 0, .int 0, .int 0, .ref m_text, .int 0, .int 0, .ref m_toldAt, .int 0, .ref m_stack, .int 0, .int 0, .int 0, .int 0, .int 0, .ref m_truths, .ref m_imaged, .ref m_namesKept, .ref m_areKept])), (m_s, .inl (cy 1, 383, .inl (sD 0)))] := hD
  obtain rfl : r_2 = 0 := hw_3
  refine lv_if_eq (tgt := 21) hx hb dX11_sight_10 (by decide) (fun _ => ?_) (fun c_0 => absurd (by decide) c_0)
  refine lv_iconst (v := (-1)) hx hb dX11_sight_21 (by decide) ?_
  exact q_iret (rm := (Rm 2 43 0 0)) C hS () rfl rfl (q_subP hP [] rfl) (hD.sub [] (by decide) rfl) (Nat.le_of_ble_eq_true rfl) (Nat.le_of_ble_eq_true rfl) dX11_sight_22
set_option maxHeartbeats 4000000 in
set_option maxRecDepth 100000 in
theorem y_at (l : Launch) (D : va_G) (cy : Nat → ClassId) (m0 : Nat) (v1 : Int32) (v2 : Int32) (m_tape : Nat) (m_s : Nat) (m_h : Nat) (m_read : Nat) (m_names : Nat) (m_reserved : Nat) (m_undone : Nat) (m_before : Nat) (m_far : Nat) (m_wayRow : Nat) (m_keptRow : Nat) (m_askedRow : Nat) (m_rares : Nat) (m_trial : Nat) (m_hangs : Nat) (m_paths : Nat) (m_text : Nat) (m_toldAt : Nat) (m_stack : Nat) (m_truths : Nat) (m_imaged : Nat) (m_namesKept : Nat) (m_areKept : Nat) (sz : Nat)  : MI l yX11_at cX11_at 3 (some .int) (Rm 2 44 0 0) D cy [.ref m0, .int v1, .int v2] sz [(m0, .inr (11, [.int 0, .ref m_tape, .int 0, .int 0, .int 0, .int 0, .ref m_s, .ref m_h, .ref m_read, .ref m_names, .ref m_reserved, .int 0, .int 0, .int 0, .int 0, .int 0, .int 0, .long 0, .int 0, .int 0, .int 0, .int 0, .int 0, .int 0, .int 0, .ref m_undone, .ref m_before, .int 0, .ref m_far, .ref m_wayRow, .int (-1), .ref m_keptRow, .ref m_askedRow, .ref m_rares, .ref m_trial, .int (-1), .int (-1), .ref m_hangs, .ref m_paths, .int 0, .int 0, .int 0, .int 0, .ref m_text, .int 0, .int 0, .ref m_toldAt, .int 0, .ref m_stack, .int 0, .int 0, .int 0, .int 0, .int 0, .ref m_truths, .ref m_imaged, .ref m_namesKept, .ref m_areKept])), (m_s, .inl (cy 1, 383, .inl (sD 0)))] (fun (r : Int32) (u : Unit) => r = (-1)) (fun u : Unit => []) := by
  refine MI.enter (by decide) (Nat.le_of_ble_eq_true rfl) ?_
  intro p e s m below meth c ls A hsz hAe C hP hD hS hl
  have C : Cx p s m _ meth c cX11_at 3 (some .int) RX11 "at" D cy A := C
  have hx := C.1
  have hb := C.2.1
  have hl : lv_has ls 3 [(0, .ref m0), (1, .int v1), (2, .int v2)] := hl
  refine lv_aload_n hx hb dX11_at_0 rfl (lv_at hl 0 rfl) ?_
  refine lv_iconst (v := 0) hx hb dX11_at_1 (by decide) ?_
  refine q_put (v := .int 0) (w' := [(m0, .inr (11, [.int 0, .ref m_tape, .int 0, .int 0, .int 0, .int 0, .ref m_s, .ref m_h, .ref m_read, .ref m_names, .ref m_reserved, .int 0, .int 0, .int 0, .int 0, .int 0, .int 0, .long 0, .int 0, .int 0, .int 0, .int 0, .int 0, .int 0, .int 0, .ref m_undone, .ref m_before, .int 0, .ref m_far, .ref m_wayRow, .int (-1), .ref m_keptRow, .ref m_askedRow, .ref m_rares, .ref m_trial, .int (-1), .int (-1), .ref m_hangs, .ref m_paths, .int 0, .int 0, .int 0, .int 0, .ref m_text, .int 0, .int 0, .ref m_toldAt, .int 0, .ref m_stack, .int 0, .int 0, .int 0, .int 0, .int 0, .ref m_truths, .ref m_imaged, .ref m_namesKept, .ref m_areKept])), (m_s, .inl (cy 1, 383, .inl (sD 0)))]) (ty := .int) C hP hD hS 0 0 rfl rfl inX11 tyX11 tyX11_ok nmX11 (by decide) kF_RX11_1 rfl rfl rfl rfl rfl (Nat.le_of_ble_eq_true rfl) rfl dX11_at_2 (fun H locs hP hD hS => ?_)
  refine lv_aload_n hx hb dX11_at_5 rfl (lv_at hl 0 rfl) ?_
  refine lv_iload_n hx hb dX11_at_6 rfl (lv_at hl 1 rfl) ?_
  refine lv_iload_n hx hb dX11_at_7 rfl (lv_at hl 2 rfl) ?_
  refine q_ai (wr := []) (r_V (q0 := 0) (As := [.int v1, .int v2]) (rest := []) (wc := [(m0, .inr (11, [.int 0, .ref m_tape, .int 0, .int 0, .int 0, .int 0, .ref m_s, .ref m_h, .ref m_read, .ref m_names, .ref m_reserved, .int 0, .int 0, .int 0, .int 0, .int 0, .int 0, .long 0, .int 0, .int 0, .int 0, .int 0, .int 0, .int 0, .int 0, .ref m_undone, .ref m_before, .int 0, .ref m_far, .ref m_wayRow, .int (-1), .ref m_keptRow, .ref m_askedRow, .ref m_rares, .ref m_trial, .int (-1), .int (-1), .ref m_hangs, .ref m_paths, .int 0, .int 0, .int 0, .int 0, .ref m_text, .int 0, .int 0, .ref m_toldAt, .int 0, .ref m_stack, .int 0, .int 0, .int 0, .int 0, .int 0, .ref m_truths, .ref m_imaged, .ref m_namesKept, .ref m_areKept])), (m_s, .inl (cy 1, 383, .inl (sD 0)))]) C (q_subP hP [0, 1] rfl) (hD.sub [0, 1] (by decide) rfl) (m_isCell l D cy m0 v1 v2 m_tape m_s m_h m_read m_names m_reserved m_undone m_before m_far m_wayRow m_keptRow m_askedRow m_rares m_trial m_hangs m_paths m_text m_toldAt m_stack m_truths m_imaged m_namesKept m_areKept _ ) kwV_X11_isCell kM_RX11_322 rfl rfl ⟨Nat.le_of_ble_eq_true rfl, Nat.le_of_ble_eq_true rfl⟩ rfl hl.1 rfl (Nat.le_of_ble_eq_true rfl) dX11_at_8 ⟨Nat.le_of_ble_eq_true rfl, Nat.le_of_ble_eq_true rfl⟩) C.2.2.2.2.2.2.1 hP hD hS [0, 1] [] rfl rfl (by decide) (by decide) (fun r_2 u_1 H locs hw_3 hP hD hS => ?_)
  have hP : va_P D vwCl [(m0, .inr (11, [.int 0, .ref m_tape, .int 0, .int 0, .int 0, .int 0, .ref m_s, .ref m_h, .ref m_read, .ref m_names, .ref m_reserved, .int 0, .int 0, .int 0, .int 0, .int 0, .int 0, .long 0, .int 0, .int 0, .int 0, .int 0, .int 0, .int 0, .int 0, .ref m_undone, .ref m_before, .int 0, .ref m_far, .ref m_wayRow, .int (-1), .ref m_keptRow, .ref m_askedRow, .ref m_rares, .ref m_trial, .int (-1), .int (-1), .ref m_hangs, .ref m_paths, .int 0, .int 0, .int 0, .int 0, .ref m_text, .int 0, .int 0, .ref m_toldAt, .int 0, .ref m_stack, .int 0, .int 0, .int 0, .int 0, .int 0, .ref m_truths, .ref m_imaged, .ref m_namesKept, .ref m_areKept])), (m_s, .inl (cy 1, 383, .inl (sD 0)))] H := hP
  have hD : va_D A [(m0, .inr (11, [.int 0, .ref m_tape, .int 0, .int 0, .int 0, .int 0, .ref m_s, .ref m_h, .ref m_read, .ref m_names, .ref m_reserved, .int 0, .int 0, .int 0, .int 0, .int 0, .int 0, .long 0, .int 0, .int 0, .int 0, .int 0, .int 0, .int 0, .int 0, .ref m_undone, .ref m_before, .int 0, .ref m_far, .ref m_wayRow, .int (-1), .ref m_keptRow, .ref m_askedRow, .ref m_rares, .ref m_trial, .int (-1), .int (-1), .ref m_hangs, .ref m_paths, .int 0, .int 0, .int 0, .int 0, .ref m_text, .int 0, .int 0, .ref m_toldAt, .int 0, .ref m_stack, .int 0, .int 0, .int 0, .int 0, .int 0, .ref m_truths, .ref m_imaged, .ref m_namesKept, .ref m_areKept])), (m_s, .inl (cy 1, 383, .inl (sD 0)))] := hD
  refine lv_if_eq (tgt := 23) hx hb dX11_at_11 (by decide) (fun c_4 => ?_) (fun c_4 => ?_)
  · refine lv_iconst (v := (-1)) hx hb dX11_at_23 (by decide) ?_
    exact q_iret (rm := (Rm 2 44 0 0)) C hS () rfl rfl (q_subP hP [] rfl) (hD.sub [] (by decide) rfl) (Nat.le_of_ble_eq_true rfl) (Nat.le_of_ble_eq_true rfl) dX11_at_24
  · refine lv_aload_n hx hb dX11_at_14 rfl (lv_at hl 0 rfl) ?_
    refine lv_iload_n hx hb dX11_at_15 rfl (lv_at hl 1 rfl) ?_
    refine lv_iload_n hx hb dX11_at_16 rfl (lv_at hl 2 rfl) ?_
    refine q_ai (wr := []) (r_V (q0 := 0) (As := [.int v1, .int v2]) (rest := []) (wc := [(m0, .inr (11, [.int 0, .ref m_tape, .int 0, .int 0, .int 0, .int 0, .ref m_s, .ref m_h, .ref m_read, .ref m_names, .ref m_reserved, .int 0, .int 0, .int 0, .int 0, .int 0, .int 0, .long 0, .int 0, .int 0, .int 0, .int 0, .int 0, .int 0, .int 0, .ref m_undone, .ref m_before, .int 0, .ref m_far, .ref m_wayRow, .int (-1), .ref m_keptRow, .ref m_askedRow, .ref m_rares, .ref m_trial, .int (-1), .int (-1), .ref m_hangs, .ref m_paths, .int 0, .int 0, .int 0, .int 0, .ref m_text, .int 0, .int 0, .ref m_toldAt, .int 0, .ref m_stack, .int 0, .int 0, .int 0, .int 0, .int 0, .ref m_truths, .ref m_imaged, .ref m_namesKept, .ref m_areKept])), (m_s, .inl (cy 1, 383, .inl (sD 0)))]) C (q_subP hP [0, 1] rfl) (hD.sub [0, 1] (by decide) rfl) (m_bookAt l D cy m0 v1 v2 m_tape m_s m_h m_read m_names m_reserved m_undone m_before m_far m_wayRow m_keptRow m_askedRow m_rares m_trial m_hangs m_paths m_text m_toldAt m_stack m_truths m_imaged m_namesKept m_areKept _ ) kwV_X11_bookAt kM_RX11_325 rfl rfl ⟨Nat.le_of_ble_eq_true rfl, Nat.le_of_ble_eq_true rfl⟩ rfl hl.1 rfl (Nat.le_of_ble_eq_true rfl) dX11_at_17 ⟨Nat.le_of_ble_eq_true rfl, Nat.le_of_ble_eq_true rfl⟩) C.2.2.2.2.2.2.1 hP hD hS [0, 1] [] rfl rfl (by decide) (by decide) (fun r_6 u_5 H locs hw_7 hP hD hS => ?_)
    have hP : va_P D vwCl [(m0, .inr (11, [.int 0, .ref m_tape, .int 0, .int 0, .int 0, .int 0, .ref m_s, .ref m_h, .ref m_read, .ref m_names, .ref m_reserved, .int 0, .int 0, .int 0, .int 0, .int 0, .int 0, .long 0, .int 0, .int 0, .int 0, .int 0, .int 0, .int 0, .int 0, .ref m_undone, .ref m_before, .int 0, .ref m_far, .ref m_wayRow, .int (-1), .ref m_keptRow, .ref m_askedRow, .ref m_rares, .ref m_trial, .int (-1), .int (-1), .ref m_hangs, .ref m_paths, .int 0, .int 0, .int 0, .int 0, .ref m_text, .int 0, .int 0, .ref m_toldAt, .int 0, .ref m_stack, .int 0, .int 0, .int 0, .int 0, .int 0, .ref m_truths, .ref m_imaged, .ref m_namesKept, .ref m_areKept])), (m_s, .inl (cy 1, 383, .inl (sD 0)))] H := hP
    have hD : va_D A [(m0, .inr (11, [.int 0, .ref m_tape, .int 0, .int 0, .int 0, .int 0, .ref m_s, .ref m_h, .ref m_read, .ref m_names, .ref m_reserved, .int 0, .int 0, .int 0, .int 0, .int 0, .int 0, .long 0, .int 0, .int 0, .int 0, .int 0, .int 0, .int 0, .int 0, .ref m_undone, .ref m_before, .int 0, .ref m_far, .ref m_wayRow, .int (-1), .ref m_keptRow, .ref m_askedRow, .ref m_rares, .ref m_trial, .int (-1), .int (-1), .ref m_hangs, .ref m_paths, .int 0, .int 0, .int 0, .int 0, .ref m_text, .int 0, .int 0, .ref m_toldAt, .int 0, .ref m_stack, .int 0, .int 0, .int 0, .int 0, .int 0, .ref m_truths, .ref m_imaged, .ref m_namesKept, .ref m_areKept])), (m_s, .inl (cy 1, 383, .inl (sD 0)))] := hD
    obtain rfl : r_6 = (-1) := hw_7
    refine lv_goto (tgt := 24) hx hb dX11_at_20 (by decide) ?_
    exact q_iret (rm := (Rm 2 44 0 0)) C hS () rfl rfl (q_subP hP [] rfl) (hD.sub [] (by decide) rfl) (Nat.le_of_ble_eq_true rfl) (Nat.le_of_ble_eq_true rfl) dX11_at_24
set_option maxHeartbeats 4000000 in
set_option maxRecDepth 100000 in
theorem y_now (l : Launch) (D : va_G) (cy : Nat → ClassId) (m0 : Nat) (n : Int32) (m_tape : Nat) (m_s : Nat) (m_h : Nat) (m_read : Nat) (m_names : Nat) (m_reserved : Nat) (m_undone : Nat) (m_before : Nat) (m_far : Nat) (m_wayRow : Nat) (m_keptRow : Nat) (m_askedRow : Nat) (m_rares : Nat) (m_trial : Nat) (m_hangs : Nat) (m_paths : Nat) (m_text : Nat) (m_toldAt : Nat) (m_stack : Nat) (m_truths : Nat) (m_imaged : Nat) (m_namesKept : Nat) (m_areKept : Nat) (sz : Nat)  : MI l yX11_now cX11_now 7 (some .int) (Rm 1 23 0 0) D cy [.ref m0, .int n] sz [(m0, .inr (11, [.int 0, .ref m_tape, .int 0, .int 0, .int 0, .int 0, .ref m_s, .ref m_h, .ref m_read, .ref m_names, .ref m_reserved, .int 0, .int 0, .int 0, .int 0, .int 0, .int 0, .long 0, .int 0, .int 0, .int 0, .int 0, .int 0, .int 0, .int 0, .ref m_undone, .ref m_before, .int 0, .ref m_far, .ref m_wayRow, .int (-1), .ref m_keptRow, .ref m_askedRow, .ref m_rares, .ref m_trial, .int (-1), .int (-1), .ref m_hangs, .ref m_paths, .int 0, .int 0, .int 0, .int 0, .ref m_text, .int 0, .int 0, .ref m_toldAt, .int 0, .ref m_stack, .int 0, .int 0, .int 0, .int 0, .int 0, .ref m_truths, .ref m_imaged, .ref m_namesKept, .ref m_areKept])), (m_s, .inl (cy 1, 383, .inl (sD 0)))] (fun (r : Int32) (u : Unit) => r = (rNow n)) (fun u : Unit => []) := by
  refine MI.enter (by decide) (Nat.le_of_ble_eq_true rfl) ?_
  intro p e s m below meth c ls A hsz hAe C hP hD hS hl
  have C : Cx p s m _ meth c cX11_now 7 (some .int) RX11 "now" D cy A := C
  have hx := C.1
  have hb := C.2.1
  have hl : lv_has ls 7 [(0, .ref m0), (1, .int n)] := hl
  refine lv_aload_n hx hb dX11_now_0 rfl (lv_at hl 0 rfl) ?_
  refine lv_iconst (v := 0) hx hb dX11_now_1 (by decide) ?_
  refine q_put (v := .int 0) (w' := [(m0, .inr (11, [.int 0, .ref m_tape, .int 0, .int 0, .int 0, .int 0, .ref m_s, .ref m_h, .ref m_read, .ref m_names, .ref m_reserved, .int 0, .int 0, .int 0, .int 0, .int 0, .int 0, .long 0, .int 0, .int 0, .int 0, .int 0, .int 0, .int 0, .int 0, .ref m_undone, .ref m_before, .int 0, .ref m_far, .ref m_wayRow, .int (-1), .ref m_keptRow, .ref m_askedRow, .ref m_rares, .ref m_trial, .int (-1), .int (-1), .ref m_hangs, .ref m_paths, .int 0, .int 0, .int 0, .int 0, .ref m_text, .int 0, .int 0, .ref m_toldAt, .int 0, .ref m_stack, .int 0, .int 0, .int 0, .int 0, .int 0, .ref m_truths, .ref m_imaged, .ref m_namesKept, .ref m_areKept])), (m_s, .inl (cy 1, 383, .inl (sD 0)))]) (ty := .int) C hP hD hS 0 0 rfl rfl inX11 tyX11 tyX11_ok nmX11 (by decide) kF_RX11_1 rfl rfl rfl rfl rfl (Nat.le_of_ble_eq_true rfl) rfl dX11_now_2 (fun H locs hP hD hS => ?_)
  refine lv_iconst (v := 0) hx hb dX11_now_5 (by decide) ?_
  refine lv_istore_n (lv' := [(2, .int 0), (0, .ref m0), (1, .int n)]) hx hb dX11_now_6 rfl hl (by decide) rfl (fun ls hl => ?_)
  refine lv_iconst (v := 0) hx hb dX11_now_7 (by decide) ?_
  refine lv_istore_n (lv' := [(3, .int 0), (2, .int 0), (0, .ref m0), (1, .int n)]) hx hb dX11_now_8 rfl hl (by decide) rfl (fun ls hl => ?_)
  refine lv_iconst (v := 0) hx hb dX11_now_9 (by decide) ?_
  refine lv_istore (lv' := [(4, .int 0), (3, .int 0), (2, .int 0), (0, .ref m0), (1, .int n)]) hx hb dX11_now_10 hl (by decide) rfl (fun ls hl => ?_)
  refine lv_iconst (v := 0) hx hb dX11_now_12 (by decide) ?_
  refine lv_istore (lv' := [(5, .int 0), (4, .int 0), (3, .int 0), (2, .int 0), (0, .ref m0), (1, .int n)]) hx hb dX11_now_13 hl (by decide) rfl (fun ls hl => ?_)
  refine lv_iload hx hb dX11_now_15 (lv_at hl 0 rfl) ?_
  refine lv_aload_n hx hb dX11_now_17 rfl (lv_at hl 4 rfl) ?_
  refine q_get (v := .ref m_s) C hP 0 6 rfl rfl inX11 (by decide) kF_RX11_33 rfl rfl dX11_now_18 ?_
  refine lv_iconst (v := 0) hx hb dX11_now_21 (by decide) ?_
  refine q_iald (v := 0) C hP 1 rfl (vin (by decide +kernel)) (by decide +kernel) dX11_now_22 ?_
  refine lv_icmp_ge (tgt := 88) hx hb dX11_now_23 (by decide) (fun _ => ?_) (fun c_0 => absurd (by decide) c_0)
  refine lv_iload_n hx hb dX11_now_88 rfl (lv_at hl 5 rfl) ?_
  rcases sw_0_6 n with rfl | rfl | rfl | rfl | rfl | rfl | rfl | h9
  · refine lv_tableIn (off := 43) (tgt := 132) hx hb dX11_now_89 (by decide) (by decide) (by decide) (by decide) ?_
    refine lv_aload_n hx hb dX11_now_132 rfl (lv_at hl 4 rfl) ?_
    refine q_get (v := .ref m_s) C hP 0 6 rfl rfl inX11 (by decide) kF_RX11_33 rfl rfl dX11_now_133 ?_
    refine lv_bipush (v := 104) hx hb dX11_now_136 (by decide) ?_
    refine q_iald (v := 0) C hP 1 rfl (vin (by decide +kernel)) (by decide +kernel) dX11_now_138 ?_
    exact q_iret (rm := (Rm 1 23 0 0)) C hS () rfl (by show (0 : Int32) = (rNow (0 : Int32)); decide +kernel) (q_subP hP [] rfl) (hD.sub [] (by decide) rfl) (Nat.le_of_ble_eq_true rfl) (Nat.le_of_ble_eq_true rfl) dX11_now_139
  · refine lv_tableIn (off := 51) (tgt := 140) hx hb dX11_now_89 (by decide) (by decide) (by decide) (by decide) ?_
    refine lv_aload_n hx hb dX11_now_140 rfl (lv_at hl 4 rfl) ?_
    refine lv_iload_n hx hb dX11_now_141 rfl (lv_at hl 5 rfl) ?_
    refine q_ai (wr := []) (r_V (q0 := 0) (As := [.int 1]) (rest := []) (wc := [(m0, .inr (11, [.int 0, .ref m_tape, .int 0, .int 0, .int 0, .int 0, .ref m_s, .ref m_h, .ref m_read, .ref m_names, .ref m_reserved, .int 0, .int 0, .int 0, .int 0, .int 0, .int 0, .long 0, .int 0, .int 0, .int 0, .int 0, .int 0, .int 0, .int 0, .ref m_undone, .ref m_before, .int 0, .ref m_far, .ref m_wayRow, .int (-1), .ref m_keptRow, .ref m_askedRow, .ref m_rares, .ref m_trial, .int (-1), .int (-1), .ref m_hangs, .ref m_paths, .int 0, .int 0, .int 0, .int 0, .ref m_text, .int 0, .int 0, .ref m_toldAt, .int 0, .ref m_stack, .int 0, .int 0, .int 0, .int 0, .int 0, .ref m_truths, .ref m_imaged, .ref m_namesKept, .ref m_areKept])), (m_s, .inl (cy 1, 383, .inl (sD 0)))]) C (q_subP hP [0, 1] rfl) (hD.sub [0, 1] (by decide) rfl) (m_readSet l D cy m0 1 m_tape 0 m_s m_h m_read m_names m_reserved m_undone m_before m_far m_wayRow m_keptRow m_askedRow m_rares m_trial m_hangs m_paths m_text m_toldAt m_stack m_truths m_imaged m_namesKept m_areKept _ ) kwV_X11_readSet kM_RX11_328 rfl rfl ⟨Nat.le_of_ble_eq_true rfl, Nat.le_of_ble_eq_true rfl⟩ rfl hl.1 rfl (Nat.le_of_ble_eq_true rfl) dX11_now_142 ⟨Nat.le_of_ble_eq_true rfl, Nat.le_of_ble_eq_true rfl⟩) C.2.2.2.2.2.2.1 hP hD hS [0, 1] [] rfl rfl (by decide) (by decide) (fun r_2 u_1 H locs hw_3 hP hD hS => ?_)
    have hP : va_P D vwCl [(m0, .inr (11, [.int 0, .ref m_tape, .int 0, .int 0, .int 0, .int 0, .ref m_s, .ref m_h, .ref m_read, .ref m_names, .ref m_reserved, .int 0, .int 0, .int 0, .int 0, .int 0, .int 0, .long 0, .int 0, .int 0, .int 0, .int 0, .int 0, .int 0, .int 0, .ref m_undone, .ref m_before, .int 0, .ref m_far, .ref m_wayRow, .int (-1), .ref m_keptRow, .ref m_askedRow, .ref m_rares, .ref m_trial, .int (-1), .int (-1), .ref m_hangs, .ref m_paths, .int 0, .int 0, .int 0, .int 0, .ref m_text, .int 0, .int 0, .ref m_toldAt, .int 0, .ref m_stack, .int 0, .int 0, .int 0, .int 0, .int 0, .ref m_truths, .ref m_imaged, .ref m_namesKept, .ref m_areKept])), (m_s, .inl (cy 1, 383, .inl (sD 0)))] H := hP
    have hD : va_D A [(m0, .inr (11, [.int 0, .ref m_tape, .int 0, .int 0, .int 0, .int 0, .ref m_s, .ref m_h, .ref m_read, .ref m_names, .ref m_reserved, .int 0, .int 0, .int 0, .int 0, .int 0, .int 0, .long 0, .int 0, .int 0, .int 0, .int 0, .int 0, .int 0, .int 0, .ref m_undone, .ref m_before, .int 0, .ref m_far, .ref m_wayRow, .int (-1), .ref m_keptRow, .ref m_askedRow, .ref m_rares, .ref m_trial, .int (-1), .int (-1), .ref m_hangs, .ref m_paths, .int 0, .int 0, .int 0, .int 0, .ref m_text, .int 0, .int 0, .ref m_toldAt, .int 0, .ref m_stack, .int 0, .int 0, .int 0, .int 0, .int 0, .ref m_truths, .ref m_imaged, .ref m_namesKept, .ref m_areKept])), (m_s, .inl (cy 1, 383, .inl (sD 0)))] := hD
    obtain rfl : r_2 = 0 := hw_3
    exact q_iret (rm := (Rm 1 23 0 0)) C hS () rfl (by show (0 : Int32) = (rNow (1 : Int32)); decide +kernel) (q_subP hP [] rfl) (hD.sub [] (by decide) rfl) (Nat.le_of_ble_eq_true rfl) (Nat.le_of_ble_eq_true rfl) dX11_now_145
  · refine lv_tableIn (off := 51) (tgt := 140) hx hb dX11_now_89 (by decide) (by decide) (by decide) (by decide) ?_
    refine lv_aload_n hx hb dX11_now_140 rfl (lv_at hl 4 rfl) ?_
    refine lv_iload_n hx hb dX11_now_141 rfl (lv_at hl 5 rfl) ?_
    refine q_ai (wr := []) (r_V (q0 := 0) (As := [.int 2]) (rest := []) (wc := [(m0, .inr (11, [.int 0, .ref m_tape, .int 0, .int 0, .int 0, .int 0, .ref m_s, .ref m_h, .ref m_read, .ref m_names, .ref m_reserved, .int 0, .int 0, .int 0, .int 0, .int 0, .int 0, .long 0, .int 0, .int 0, .int 0, .int 0, .int 0, .int 0, .int 0, .ref m_undone, .ref m_before, .int 0, .ref m_far, .ref m_wayRow, .int (-1), .ref m_keptRow, .ref m_askedRow, .ref m_rares, .ref m_trial, .int (-1), .int (-1), .ref m_hangs, .ref m_paths, .int 0, .int 0, .int 0, .int 0, .ref m_text, .int 0, .int 0, .ref m_toldAt, .int 0, .ref m_stack, .int 0, .int 0, .int 0, .int 0, .int 0, .ref m_truths, .ref m_imaged, .ref m_namesKept, .ref m_areKept])), (m_s, .inl (cy 1, 383, .inl (sD 0)))]) C (q_subP hP [0, 1] rfl) (hD.sub [0, 1] (by decide) rfl) (m_readSet l D cy m0 2 m_tape 0 m_s m_h m_read m_names m_reserved m_undone m_before m_far m_wayRow m_keptRow m_askedRow m_rares m_trial m_hangs m_paths m_text m_toldAt m_stack m_truths m_imaged m_namesKept m_areKept _ ) kwV_X11_readSet kM_RX11_328 rfl rfl ⟨Nat.le_of_ble_eq_true rfl, Nat.le_of_ble_eq_true rfl⟩ rfl hl.1 rfl (Nat.le_of_ble_eq_true rfl) dX11_now_142 ⟨Nat.le_of_ble_eq_true rfl, Nat.le_of_ble_eq_true rfl⟩) C.2.2.2.2.2.2.1 hP hD hS [0, 1] [] rfl rfl (by decide) (by decide) (fun r_5 u_4 H locs hw_6 hP hD hS => ?_)
    have hP : va_P D vwCl [(m0, .inr (11, [.int 0, .ref m_tape, .int 0, .int 0, .int 0, .int 0, .ref m_s, .ref m_h, .ref m_read, .ref m_names, .ref m_reserved, .int 0, .int 0, .int 0, .int 0, .int 0, .int 0, .long 0, .int 0, .int 0, .int 0, .int 0, .int 0, .int 0, .int 0, .ref m_undone, .ref m_before, .int 0, .ref m_far, .ref m_wayRow, .int (-1), .ref m_keptRow, .ref m_askedRow, .ref m_rares, .ref m_trial, .int (-1), .int (-1), .ref m_hangs, .ref m_paths, .int 0, .int 0, .int 0, .int 0, .ref m_text, .int 0, .int 0, .ref m_toldAt, .int 0, .ref m_stack, .int 0, .int 0, .int 0, .int 0, .int 0, .ref m_truths, .ref m_imaged, .ref m_namesKept, .ref m_areKept])), (m_s, .inl (cy 1, 383, .inl (sD 0)))] H := hP
    have hD : va_D A [(m0, .inr (11, [.int 0, .ref m_tape, .int 0, .int 0, .int 0, .int 0, .ref m_s, .ref m_h, .ref m_read, .ref m_names, .ref m_reserved, .int 0, .int 0, .int 0, .int 0, .int 0, .int 0, .long 0, .int 0, .int 0, .int 0, .int 0, .int 0, .int 0, .int 0, .ref m_undone, .ref m_before, .int 0, .ref m_far, .ref m_wayRow, .int (-1), .ref m_keptRow, .ref m_askedRow, .ref m_rares, .ref m_trial, .int (-1), .int (-1), .ref m_hangs, .ref m_paths, .int 0, .int 0, .int 0, .int 0, .ref m_text, .int 0, .int 0, .ref m_toldAt, .int 0, .ref m_stack, .int 0, .int 0, .int 0, .int 0, .int 0, .ref m_truths, .ref m_imaged, .ref m_namesKept, .ref m_areKept])), (m_s, .inl (cy 1, 383, .inl (sD 0)))] := hD
    obtain rfl : r_5 = 0 := hw_6
    exact q_iret (rm := (Rm 1 23 0 0)) C hS () rfl (by show (0 : Int32) = (rNow (2 : Int32)); decide +kernel) (q_subP hP [] rfl) (hD.sub [] (by decide) rfl) (Nat.le_of_ble_eq_true rfl) (Nat.le_of_ble_eq_true rfl) dX11_now_145
  · refine lv_tableIn (off := 57) (tgt := 146) hx hb dX11_now_89 (by decide) (by decide) (by decide) (by decide) ?_
    refine lv_aload_n hx hb dX11_now_146 rfl (lv_at hl 4 rfl) ?_
    refine q_get (v := .ref m_s) C hP 0 6 rfl rfl inX11 (by decide) kF_RX11_33 rfl rfl dX11_now_147 ?_
    refine lv_bipush (v := 105) hx hb dX11_now_150 (by decide) ?_
    refine q_iald (v := 0) C hP 1 rfl (vin (by decide +kernel)) (by decide +kernel) dX11_now_152 ?_
    exact q_iret (rm := (Rm 1 23 0 0)) C hS () rfl (by show (0 : Int32) = (rNow (3 : Int32)); decide +kernel) (q_subP hP [] rfl) (hD.sub [] (by decide) rfl) (Nat.le_of_ble_eq_true rfl) (Nat.le_of_ble_eq_true rfl) dX11_now_153
  · refine lv_tableIn (off := 65) (tgt := 154) hx hb dX11_now_89 (by decide) (by decide) (by decide) (by decide) ?_
    refine lv_iload_n hx hb dX11_now_154 rfl (lv_at hl 3 rfl) ?_
    exact q_iret (rm := (Rm 1 23 0 0)) C hS () rfl (by show (0 : Int32) = (rNow (4 : Int32)); decide +kernel) (q_subP hP [] rfl) (hD.sub [] (by decide) rfl) (Nat.le_of_ble_eq_true rfl) (Nat.le_of_ble_eq_true rfl) dX11_now_155
  · refine lv_tableIn (off := 67) (tgt := 156) hx hb dX11_now_89 (by decide) (by decide) (by decide) (by decide) ?_
    refine lv_iload_n hx hb dX11_now_156 rfl (lv_at hl 2 rfl) ?_
    exact q_iret (rm := (Rm 1 23 0 0)) C hS () rfl (by show (0 : Int32) = (rNow (5 : Int32)); decide +kernel) (q_subP hP [] rfl) (hD.sub [] (by decide) rfl) (Nat.le_of_ble_eq_true rfl) (Nat.le_of_ble_eq_true rfl) dX11_now_157
  · refine lv_tableIn (off := 69) (tgt := 158) hx hb dX11_now_89 (by decide) (by decide) (by decide) (by decide) ?_
    refine lv_iload hx hb dX11_now_158 (lv_at hl 1 rfl) ?_
    exact q_iret (rm := (Rm 1 23 0 0)) C hS () rfl (by show (0 : Int32) = (rNow (6 : Int32)); decide +kernel) (q_subP hP [] rfl) (hD.sub [] (by decide) rfl) (Nat.le_of_ble_eq_true rfl) (Nat.le_of_ble_eq_true rfl) dX11_now_160
  · refine lv_tableOut (tgt := 161) hx hb dX11_now_89 h9 (by decide) ?_
    refine lv_iconst (v := (-1)) hx hb dX11_now_161 (by decide) ?_
    exact q_iret (rm := (Rm 1 23 0 0)) C hS () rfl (by show _ = if 0 ≤ n.toInt ∧ n.toInt ≤ 6 then 0 else -1; repeat (first | rfl | rw [if_pos (by omega)] | rw [if_neg (by omega)])) (q_subP hP [] rfl) (hD.sub [] (by decide) rfl) (Nat.le_of_ble_eq_true rfl) (Nat.le_of_ble_eq_true rfl) dX11_now_162
set_option maxHeartbeats 4000000 in
set_option maxRecDepth 100000 in
theorem y_count (l : Launch) (D : va_G) (cy : Nat → ClassId) (m0 : Nat) (n : Int32) (m_tape : Nat) (m_s : Nat) (m_h : Nat) (m_read : Nat) (m_names : Nat) (m_reserved : Nat) (m_undone : Nat) (m_before : Nat) (m_far : Nat) (m_wayRow : Nat) (m_keptRow : Nat) (m_askedRow : Nat) (m_rares : Nat) (m_trial : Nat) (m_hangs : Nat) (m_paths : Nat) (m_text : Nat) (m_toldAt : Nat) (m_stack : Nat) (m_truths : Nat) (m_imaged : Nat) (m_namesKept : Nat) (m_areKept : Nat) (sz : Nat)  : MI l yX11_count cX11_count 2 (some .int) (Rm 1 22 0 0) D cy [.ref m0, .int n] sz [(m0, .inr (11, [.int 0, .ref m_tape, .int 0, .int 0, .int 0, .int 0, .ref m_s, .ref m_h, .ref m_read, .ref m_names, .ref m_reserved, .int 0, .int 0, .int 0, .int 0, .int 0, .int 0, .long 0, .int 0, .int 0, .int 0, .int 0, .int 0, .int 0, .int 0, .ref m_undone, .ref m_before, .int 0, .ref m_far, .ref m_wayRow, .int (-1), .ref m_keptRow, .ref m_askedRow, .ref m_rares, .ref m_trial, .int (-1), .int (-1), .ref m_hangs, .ref m_paths, .int 0, .int 0, .int 0, .int 0, .ref m_text, .int 0, .int 0, .ref m_toldAt, .int 0, .ref m_stack, .int 0, .int 0, .int 0, .int 0, .int 0, .ref m_truths, .ref m_imaged, .ref m_namesKept, .ref m_areKept])), (m_s, .inl (cy 1, 383, .inl (sD 0)))] (fun (r : Int32) (u : Unit) => r = (rCount n)) (fun u : Unit => []) := by
  refine MI.enter (by decide) (Nat.le_of_ble_eq_true rfl) ?_
  intro p e s m below meth c ls A hsz hAe C hP hD hS hl
  have C : Cx p s m _ meth c cX11_count 2 (some .int) RX11 "count" D cy A := C
  have hx := C.1
  have hb := C.2.1
  have hl : lv_has ls 2 [(0, .ref m0), (1, .int n)] := hl
  refine lv_aload_n hx hb dX11_count_0 rfl (lv_at hl 0 rfl) ?_
  refine lv_iconst (v := 0) hx hb dX11_count_1 (by decide) ?_
  refine q_put (v := .int 0) (w' := [(m0, .inr (11, [.int 0, .ref m_tape, .int 0, .int 0, .int 0, .int 0, .ref m_s, .ref m_h, .ref m_read, .ref m_names, .ref m_reserved, .int 0, .int 0, .int 0, .int 0, .int 0, .int 0, .long 0, .int 0, .int 0, .int 0, .int 0, .int 0, .int 0, .int 0, .ref m_undone, .ref m_before, .int 0, .ref m_far, .ref m_wayRow, .int (-1), .ref m_keptRow, .ref m_askedRow, .ref m_rares, .ref m_trial, .int (-1), .int (-1), .ref m_hangs, .ref m_paths, .int 0, .int 0, .int 0, .int 0, .ref m_text, .int 0, .int 0, .ref m_toldAt, .int 0, .ref m_stack, .int 0, .int 0, .int 0, .int 0, .int 0, .ref m_truths, .ref m_imaged, .ref m_namesKept, .ref m_areKept])), (m_s, .inl (cy 1, 383, .inl (sD 0)))]) (ty := .int) C hP hD hS 0 0 rfl rfl inX11 tyX11 tyX11_ok nmX11 (by decide) kF_RX11_1 rfl rfl rfl rfl rfl (Nat.le_of_ble_eq_true rfl) rfl dX11_count_2 (fun H locs hP hD hS => ?_)
  refine lv_iload_n hx hb dX11_count_5 rfl (lv_at hl 1 rfl) ?_
  refine lv_bipush (v := 7) hx hb dX11_count_6 (by decide) ?_
  refine lv_icmp_ne (tgt := 18) hx hb dX11_count_8 (by decide) (fun c_1 => ?_) (fun c_1 => ?_)
  · refine lv_iload_n hx hb dX11_count_18 rfl (lv_at hl 1 rfl) ?_
    refine lv_iconst (v := 0) hx hb dX11_count_19 (by decide) ?_
    refine lv_bipush (v := 6) hx hb dX11_count_20 (by decide) ?_
    refine q_ai (wr := [(m0, .inr (11, [.int 0, .ref m_tape, .int 0, .int 0, .int 0, .int 0, .ref m_s, .ref m_h, .ref m_read, .ref m_names, .ref m_reserved, .int 0, .int 0, .int 0, .int 0, .int 0, .int 0, .long 0, .int 0, .int 0, .int 0, .int 0, .int 0, .int 0, .int 0, .ref m_undone, .ref m_before, .int 0, .ref m_far, .ref m_wayRow, .int (-1), .ref m_keptRow, .ref m_askedRow, .ref m_rares, .ref m_trial, .int (-1), .int (-1), .ref m_hangs, .ref m_paths, .int 0, .int 0, .int 0, .int 0, .ref m_text, .int 0, .int 0, .ref m_toldAt, .int 0, .ref m_stack, .int 0, .int 0, .int 0, .int 0, .int 0, .ref m_truths, .ref m_imaged, .ref m_namesKept, .ref m_areKept])), (m_s, .inl (cy 1, 383, .inl (sD 0)))]) (r_S (As := [.int n, .int 0, .int 6]) (rest := []) (wc := []) C (q_subP hP [] rfl) (hD.sub [] (by decide) rfl) (c_isIn l D cy n 0 6 _ ) kwS_X11_isIn kM_RX11_206 ⟨Nat.le_of_ble_eq_true rfl, Nat.le_of_ble_eq_true rfl⟩ rfl hl.1 rfl (Nat.le_of_ble_eq_true rfl) dX11_count_22 ⟨Nat.le_of_ble_eq_true rfl, Nat.le_of_ble_eq_true rfl⟩) C.2.2.2.2.2.2.1 hP hD hS [] [0, 1] rfl rfl (by decide) (by decide) (fun r_3 u_2 H locs hw_4 hP hD hS => ?_)
    have hP : va_P D vwCl [(m0, .inr (11, [.int 0, .ref m_tape, .int 0, .int 0, .int 0, .int 0, .ref m_s, .ref m_h, .ref m_read, .ref m_names, .ref m_reserved, .int 0, .int 0, .int 0, .int 0, .int 0, .int 0, .long 0, .int 0, .int 0, .int 0, .int 0, .int 0, .int 0, .int 0, .ref m_undone, .ref m_before, .int 0, .ref m_far, .ref m_wayRow, .int (-1), .ref m_keptRow, .ref m_askedRow, .ref m_rares, .ref m_trial, .int (-1), .int (-1), .ref m_hangs, .ref m_paths, .int 0, .int 0, .int 0, .int 0, .ref m_text, .int 0, .int 0, .ref m_toldAt, .int 0, .ref m_stack, .int 0, .int 0, .int 0, .int 0, .int 0, .ref m_truths, .ref m_imaged, .ref m_namesKept, .ref m_areKept])), (m_s, .inl (cy 1, 383, .inl (sD 0)))] H := hP
    have hD : va_D A [(m0, .inr (11, [.int 0, .ref m_tape, .int 0, .int 0, .int 0, .int 0, .ref m_s, .ref m_h, .ref m_read, .ref m_names, .ref m_reserved, .int 0, .int 0, .int 0, .int 0, .int 0, .int 0, .long 0, .int 0, .int 0, .int 0, .int 0, .int 0, .int 0, .int 0, .ref m_undone, .ref m_before, .int 0, .ref m_far, .ref m_wayRow, .int (-1), .ref m_keptRow, .ref m_askedRow, .ref m_rares, .ref m_trial, .int (-1), .int (-1), .ref m_hangs, .ref m_paths, .int 0, .int 0, .int 0, .int 0, .ref m_text, .int 0, .int 0, .ref m_toldAt, .int 0, .ref m_stack, .int 0, .int 0, .int 0, .int 0, .int 0, .ref m_truths, .ref m_imaged, .ref m_namesKept, .ref m_areKept])), (m_s, .inl (cy 1, 383, .inl (sD 0)))] := hD
    rcases rJn_c (lo := 0) (hi := 6) (rJn_lit (a := 0) (b := 6) hw_4 (by decide) (by decide)) with ⟨rfl, i_5a, i_5b⟩ | ⟨rfl, i_5n⟩
    · refine lv_if_eq (tgt := 37) hx hb dX11_count_25 (by decide) (fun c_0 => absurd c_0 (by decide)) (fun _ => ?_)
      rcases sw_0_6 n with rfl | rfl | rfl | rfl | rfl | rfl | rfl | h9
      · refine lv_aload_n hx hb dX11_count_28 rfl (lv_at hl 0 rfl) ?_
        refine q_get (v := .ref m_s) C hP 0 6 rfl rfl inX11 (by decide) kF_RX11_33 rfl rfl dX11_count_29 ?_
        refine lv_iload_n hx hb dX11_count_32 rfl (lv_at hl 1 rfl) ?_
        refine q_iald (v := 0) C hP 1 rfl (vin (by decide +kernel)) (by decide +kernel) dX11_count_33 ?_
        refine lv_goto (tgt := 38) hx hb dX11_count_34 (by decide) ?_
        exact q_iret (rm := (Rm 1 22 0 0)) C hS () rfl (by show (0 : Int32) = (rCount (0 : Int32)); decide +kernel) (q_subP hP [] rfl) (hD.sub [] (by decide) rfl) (Nat.le_of_ble_eq_true rfl) (Nat.le_of_ble_eq_true rfl) dX11_count_38
      · refine lv_aload_n hx hb dX11_count_28 rfl (lv_at hl 0 rfl) ?_
        refine q_get (v := .ref m_s) C hP 0 6 rfl rfl inX11 (by decide) kF_RX11_33 rfl rfl dX11_count_29 ?_
        refine lv_iload_n hx hb dX11_count_32 rfl (lv_at hl 1 rfl) ?_
        refine q_iald (v := 4) C hP 1 rfl (vin (by decide +kernel)) (by decide +kernel) dX11_count_33 ?_
        refine lv_goto (tgt := 38) hx hb dX11_count_34 (by decide) ?_
        exact q_iret (rm := (Rm 1 22 0 0)) C hS () rfl (by show (4 : Int32) = (rCount (1 : Int32)); decide +kernel) (q_subP hP [] rfl) (hD.sub [] (by decide) rfl) (Nat.le_of_ble_eq_true rfl) (Nat.le_of_ble_eq_true rfl) dX11_count_38
      · refine lv_aload_n hx hb dX11_count_28 rfl (lv_at hl 0 rfl) ?_
        refine q_get (v := .ref m_s) C hP 0 6 rfl rfl inX11 (by decide) kF_RX11_33 rfl rfl dX11_count_29 ?_
        refine lv_iload_n hx hb dX11_count_32 rfl (lv_at hl 1 rfl) ?_
        refine q_iald (v := 4) C hP 1 rfl (vin (by decide +kernel)) (by decide +kernel) dX11_count_33 ?_
        refine lv_goto (tgt := 38) hx hb dX11_count_34 (by decide) ?_
        exact q_iret (rm := (Rm 1 22 0 0)) C hS () rfl (by show (4 : Int32) = (rCount (2 : Int32)); decide +kernel) (q_subP hP [] rfl) (hD.sub [] (by decide) rfl) (Nat.le_of_ble_eq_true rfl) (Nat.le_of_ble_eq_true rfl) dX11_count_38
      · refine lv_aload_n hx hb dX11_count_28 rfl (lv_at hl 0 rfl) ?_
        refine q_get (v := .ref m_s) C hP 0 6 rfl rfl inX11 (by decide) kF_RX11_33 rfl rfl dX11_count_29 ?_
        refine lv_iload_n hx hb dX11_count_32 rfl (lv_at hl 1 rfl) ?_
        refine q_iald (v := 10) C hP 1 rfl (vin (by decide +kernel)) (by decide +kernel) dX11_count_33 ?_
        refine lv_goto (tgt := 38) hx hb dX11_count_34 (by decide) ?_
        exact q_iret (rm := (Rm 1 22 0 0)) C hS () rfl (by show (10 : Int32) = (rCount (3 : Int32)); decide +kernel) (q_subP hP [] rfl) (hD.sub [] (by decide) rfl) (Nat.le_of_ble_eq_true rfl) (Nat.le_of_ble_eq_true rfl) dX11_count_38
      · refine lv_aload_n hx hb dX11_count_28 rfl (lv_at hl 0 rfl) ?_
        refine q_get (v := .ref m_s) C hP 0 6 rfl rfl inX11 (by decide) kF_RX11_33 rfl rfl dX11_count_29 ?_
        refine lv_iload_n hx hb dX11_count_32 rfl (lv_at hl 1 rfl) ?_
        refine q_iald (v := 1) C hP 1 rfl (vin (by decide +kernel)) (by decide +kernel) dX11_count_33 ?_
        refine lv_goto (tgt := 38) hx hb dX11_count_34 (by decide) ?_
        exact q_iret (rm := (Rm 1 22 0 0)) C hS () rfl (by show (1 : Int32) = (rCount (4 : Int32)); decide +kernel) (q_subP hP [] rfl) (hD.sub [] (by decide) rfl) (Nat.le_of_ble_eq_true rfl) (Nat.le_of_ble_eq_true rfl) dX11_count_38
      · refine lv_aload_n hx hb dX11_count_28 rfl (lv_at hl 0 rfl) ?_
        refine q_get (v := .ref m_s) C hP 0 6 rfl rfl inX11 (by decide) kF_RX11_33 rfl rfl dX11_count_29 ?_
        refine lv_iload_n hx hb dX11_count_32 rfl (lv_at hl 1 rfl) ?_
        refine q_iald (v := 3) C hP 1 rfl (vin (by decide +kernel)) (by decide +kernel) dX11_count_33 ?_
        refine lv_goto (tgt := 38) hx hb dX11_count_34 (by decide) ?_
        exact q_iret (rm := (Rm 1 22 0 0)) C hS () rfl (by show (3 : Int32) = (rCount (5 : Int32)); decide +kernel) (q_subP hP [] rfl) (hD.sub [] (by decide) rfl) (Nat.le_of_ble_eq_true rfl) (Nat.le_of_ble_eq_true rfl) dX11_count_38
      · refine lv_aload_n hx hb dX11_count_28 rfl (lv_at hl 0 rfl) ?_
        refine q_get (v := .ref m_s) C hP 0 6 rfl rfl inX11 (by decide) kF_RX11_33 rfl rfl dX11_count_29 ?_
        refine lv_iload_n hx hb dX11_count_32 rfl (lv_at hl 1 rfl) ?_
        refine q_iald (v := 0) C hP 1 rfl (vin (by decide +kernel)) (by decide +kernel) dX11_count_33 ?_
        refine lv_goto (tgt := 38) hx hb dX11_count_34 (by decide) ?_
        exact q_iret (rm := (Rm 1 22 0 0)) C hS () rfl (by show (0 : Int32) = (rCount (6 : Int32)); decide +kernel) (q_subP hP [] rfl) (hD.sub [] (by decide) rfl) (Nat.le_of_ble_eq_true rfl) (Nat.le_of_ble_eq_true rfl) dX11_count_38
      · exact absurd h9 (by have z0 := (not_congr Int32.toInt_inj.symm).mp c_1; have e0 : (7 : Int32).toInt = 7 := (by decide); omega)
    · refine lv_if_eq (tgt := 37) hx hb dX11_count_25 (by decide) (fun _ => ?_) (fun c_0 => absurd (by decide) c_0)
      refine lv_iconst (v := (-1)) hx hb dX11_count_37 (by decide) ?_
      exact q_iret (rm := (Rm 1 22 0 0)) C hS () rfl (by have z0 := (not_congr Int32.toInt_inj.symm).mp c_1; have e0 : (7 : Int32).toInt = 7 := (by decide); show _ = if n.toInt = 1 then 4 else if n.toInt = 2 then 4 else if n.toInt = 3 then 10 else if n.toInt = 4 then 1 else if n.toInt = 5 then 3 else if 0 ≤ n.toInt ∧ n.toInt ≤ 7 then 0 else -1; repeat (first | rfl | rw [if_pos (by omega)] | rw [if_neg (by omega)])) (q_subP hP [] rfl) (hD.sub [] (by decide) rfl) (Nat.le_of_ble_eq_true rfl) (Nat.le_of_ble_eq_true rfl) dX11_count_38
  · refine lv_aload_n hx hb dX11_count_11 rfl (lv_at hl 0 rfl) ?_
    refine q_get (v := .int 0) C hP 0 2 rfl rfl inX11 (by decide) kF_RX11_7 rfl rfl dX11_count_12 ?_
    refine lv_goto (tgt := 38) hx hb dX11_count_15 (by decide) ?_
    exact q_iret (rm := (Rm 1 22 0 0)) C hS () rfl (by have z0 := (Int32.toInt_inj.symm).mp c_1; have e0 : (7 : Int32).toInt = 7 := (by decide); show _ = if n.toInt = 1 then 4 else if n.toInt = 2 then 4 else if n.toInt = 3 then 10 else if n.toInt = 4 then 1 else if n.toInt = 5 then 3 else if 0 ≤ n.toInt ∧ n.toInt ≤ 7 then 0 else -1; repeat (first | rfl | rw [if_pos (by omega)] | rw [if_neg (by omega)])) (q_subP hP [] rfl) (hD.sub [] (by decide) rfl) (Nat.le_of_ble_eq_true rfl) (Nat.le_of_ble_eq_true rfl) dX11_count_38
set_option maxHeartbeats 4000000 in
set_option maxRecDepth 100000 in
theorem y_quarrels (l : Launch) (D : va_G) (cy : Nat → ClassId) (m0 : Nat) (m_tape : Nat) (m_s : Nat) (m_h : Nat) (m_read : Nat) (m_names : Nat) (m_reserved : Nat) (m_undone : Nat) (m_before : Nat) (m_far : Nat) (m_wayRow : Nat) (m_keptRow : Nat) (m_askedRow : Nat) (m_rares : Nat) (m_trial : Nat) (m_hangs : Nat) (m_paths : Nat) (m_text : Nat) (m_toldAt : Nat) (m_stack : Nat) (m_truths : Nat) (m_imaged : Nat) (m_namesKept : Nat) (m_areKept : Nat) (sz : Nat)  : MI l yX11_quarrels cX11_quarrels 4 (some .int) (Rm 0 0 0 0) D cy [.ref m0] sz [(m0, .inr (11, [.int 0, .ref m_tape, .int 0, .int 0, .int 0, .int 0, .ref m_s, .ref m_h, .ref m_read, .ref m_names, .ref m_reserved, .int 0, .int 0, .int 0, .int 0, .int 0, .int 0, .long 0, .int 0, .int 0, .int 0, .int 0, .int 0, .int 0, .int 0, .ref m_undone, .ref m_before, .int 0, .ref m_far, .ref m_wayRow, .int (-1), .ref m_keptRow, .ref m_askedRow, .ref m_rares, .ref m_trial, .int (-1), .int (-1), .ref m_hangs, .ref m_paths, .int 0, .int 0, .int 0, .int 0, .ref m_text, .int 0, .int 0, .ref m_toldAt, .int 0, .ref m_stack, .int 0, .int 0, .int 0, .int 0, .int 0, .ref m_truths, .ref m_imaged, .ref m_namesKept, .ref m_areKept])), (m_s, .inl (cy 1, 383, .inl (sD 0)))] (fun (r : Int32) (u : Unit) => r = 0) (fun u : Unit => []) := by
  refine MI.enter (by decide) (Nat.le_of_ble_eq_true rfl) ?_
  intro p e s m below meth c ls A hsz hAe C hP hD hS hl
  have C : Cx p s m _ meth c cX11_quarrels 4 (some .int) RX11 "quarrels" D cy A := C
  have hx := C.1
  have hb := C.2.1
  have hl : lv_has ls 4 [(0, .ref m0)] := hl
  refine lv_aload_n hx hb dX11_quarrels_0 rfl (lv_at hl 0 rfl) ?_
  refine lv_iconst (v := 0) hx hb dX11_quarrels_1 (by decide) ?_
  refine q_put (v := .int 0) (w' := [(m0, .inr (11, [.int 0, .ref m_tape, .int 0, .int 0, .int 0, .int 0, .ref m_s, .ref m_h, .ref m_read, .ref m_names, .ref m_reserved, .int 0, .int 0, .int 0, .int 0, .int 0, .int 0, .long 0, .int 0, .int 0, .int 0, .int 0, .int 0, .int 0, .int 0, .ref m_undone, .ref m_before, .int 0, .ref m_far, .ref m_wayRow, .int (-1), .ref m_keptRow, .ref m_askedRow, .ref m_rares, .ref m_trial, .int (-1), .int (-1), .ref m_hangs, .ref m_paths, .int 0, .int 0, .int 0, .int 0, .ref m_text, .int 0, .int 0, .ref m_toldAt, .int 0, .ref m_stack, .int 0, .int 0, .int 0, .int 0, .int 0, .ref m_truths, .ref m_imaged, .ref m_namesKept, .ref m_areKept])), (m_s, .inl (cy 1, 383, .inl (sD 0)))]) (ty := .int) C hP hD hS 0 0 rfl rfl inX11 tyX11 tyX11_ok nmX11 (by decide) kF_RX11_1 rfl rfl rfl rfl rfl (Nat.le_of_ble_eq_true rfl) rfl dX11_quarrels_2 (fun H locs hP hD hS => ?_)
  refine lv_iconst (v := 0) hx hb dX11_quarrels_5 (by decide) ?_
  refine lv_istore_n (lv' := [(1, .int 0), (0, .ref m0)]) hx hb dX11_quarrels_6 rfl hl (by decide) rfl (fun ls hl => ?_)
  refine lv_iconst (v := 0) hx hb dX11_quarrels_7 (by decide) ?_
  refine lv_istore_n (lv' := [(2, .int 0), (1, .int 0), (0, .ref m0)]) hx hb dX11_quarrels_8 rfl hl (by decide) rfl (fun ls hl => ?_)
  refine lv_iload_n hx hb dX11_quarrels_9 rfl (lv_at hl 0 rfl) ?_
  refine lv_aload_n hx hb dX11_quarrels_10 rfl (lv_at hl 2 rfl) ?_
  refine q_get (v := .ref m_s) C hP 0 6 rfl rfl inX11 (by decide) kF_RX11_33 rfl rfl dX11_quarrels_11 ?_
  refine lv_iconst (v := 0) hx hb dX11_quarrels_14 (by decide) ?_
  refine q_iald (v := 0) C hP 1 rfl (vin (by decide +kernel)) (by decide +kernel) dX11_quarrels_15 ?_
  refine lv_icmp_ge (tgt := 62) hx hb dX11_quarrels_16 (by decide) (fun _ => ?_) (fun c_0 => absurd (by decide) c_0)
  refine lv_iload_n hx hb dX11_quarrels_62 rfl (lv_at hl 1 rfl) ?_
  exact q_iret (rm := (Rm 0 0 0 0)) C hS () rfl rfl (q_subP hP [] rfl) (hD.sub [] (by decide) rfl) (Nat.le_of_ble_eq_true rfl) (Nat.le_of_ble_eq_true rfl) dX11_quarrels_63
set_option maxHeartbeats 4000000 in
set_option maxRecDepth 100000 in
theorem y_quarrel (l : Launch) (D : va_G) (cy : Nat → ClassId) (m0 : Nat) (n : Int32) (m_tape : Nat) (m_s : Nat) (m_h : Nat) (m_read : Nat) (m_names : Nat) (m_reserved : Nat) (m_undone : Nat) (m_before : Nat) (m_far : Nat) (m_wayRow : Nat) (m_keptRow : Nat) (m_askedRow : Nat) (m_rares : Nat) (m_trial : Nat) (m_hangs : Nat) (m_paths : Nat) (m_text : Nat) (m_toldAt : Nat) (m_stack : Nat) (m_truths : Nat) (m_imaged : Nat) (m_namesKept : Nat) (m_areKept : Nat) (sz : Nat)  : MI l yX11_quarrel cX11_quarrel 4 (some .int) (Rm 0 0 0 0) D cy [.ref m0, .int n] sz [(m0, .inr (11, [.int 0, .ref m_tape, .int 0, .int 0, .int 0, .int 0, .ref m_s, .ref m_h, .ref m_read, .ref m_names, .ref m_reserved, .int 0, .int 0, .int 0, .int 0, .int 0, .int 0, .long 0, .int 0, .int 0, .int 0, .int 0, .int 0, .int 0, .int 0, .ref m_undone, .ref m_before, .int 0, .ref m_far, .ref m_wayRow, .int (-1), .ref m_keptRow, .ref m_askedRow, .ref m_rares, .ref m_trial, .int (-1), .int (-1), .ref m_hangs, .ref m_paths, .int 0, .int 0, .int 0, .int 0, .ref m_text, .int 0, .int 0, .ref m_toldAt, .int 0, .ref m_stack, .int 0, .int 0, .int 0, .int 0, .int 0, .ref m_truths, .ref m_imaged, .ref m_namesKept, .ref m_areKept])), (m_s, .inl (cy 1, 383, .inl (sD 0)))] (fun (r : Int32) (u : Unit) => r = 0) (fun u : Unit => [(m0, .inr (11, [.int 1, .ref m_tape, .int 0, .int 0, .int 0, .int 0, .ref m_s, .ref m_h, .ref m_read, .ref m_names, .ref m_reserved, .int 0, .int 0, .int 0, .int 0, .int 0, .int 0, .long 0, .int 0, .int 0, .int 0, .int 0, .int 0, .int 0, .int 0, .ref m_undone, .ref m_before, .int 0, .ref m_far, .ref m_wayRow, .int (-1), .ref m_keptRow, .ref m_askedRow, .ref m_rares, .ref m_trial, .int (-1), .int (-1), .ref m_hangs, .ref m_paths, .int 0, .int 0, .int 0, .int 0, .ref m_text, .int 0, .int 0, .ref m_toldAt, .int 0, .ref m_stack, .int 0, .int 0, .int 0, .int 0, .int 0, .ref m_truths, .ref m_imaged, .ref m_namesKept, .ref m_areKept]))]) := by
  refine MI.enter (by decide) (Nat.le_of_ble_eq_true rfl) ?_
  intro p e s m below meth c ls A hsz hAe C hP hD hS hl
  have C : Cx p s m _ meth c cX11_quarrel 4 (some .int) RX11 "quarrel" D cy A := C
  have hx := C.1
  have hb := C.2.1
  have hl : lv_has ls 4 [(0, .ref m0), (1, .int n)] := hl
  refine lv_aload_n hx hb dX11_quarrel_0 rfl (lv_at hl 0 rfl) ?_
  refine lv_iconst (v := 0) hx hb dX11_quarrel_1 (by decide) ?_
  refine q_put (v := .int 0) (w' := [(m0, .inr (11, [.int 0, .ref m_tape, .int 0, .int 0, .int 0, .int 0, .ref m_s, .ref m_h, .ref m_read, .ref m_names, .ref m_reserved, .int 0, .int 0, .int 0, .int 0, .int 0, .int 0, .long 0, .int 0, .int 0, .int 0, .int 0, .int 0, .int 0, .int 0, .ref m_undone, .ref m_before, .int 0, .ref m_far, .ref m_wayRow, .int (-1), .ref m_keptRow, .ref m_askedRow, .ref m_rares, .ref m_trial, .int (-1), .int (-1), .ref m_hangs, .ref m_paths, .int 0, .int 0, .int 0, .int 0, .ref m_text, .int 0, .int 0, .ref m_toldAt, .int 0, .ref m_stack, .int 0, .int 0, .int 0, .int 0, .int 0, .ref m_truths, .ref m_imaged, .ref m_namesKept, .ref m_areKept])), (m_s, .inl (cy 1, 383, .inl (sD 0)))]) (ty := .int) C hP hD hS 0 0 rfl rfl inX11 tyX11 tyX11_ok nmX11 (by decide) kF_RX11_1 rfl rfl rfl rfl rfl (Nat.le_of_ble_eq_true rfl) rfl dX11_quarrel_2 (fun H locs hP hD hS => ?_)
  refine lv_iconst (v := 0) hx hb dX11_quarrel_5 (by decide) ?_
  refine lv_istore_n (lv' := [(2, .int 0), (0, .ref m0), (1, .int n)]) hx hb dX11_quarrel_6 rfl hl (by decide) rfl (fun ls hl => ?_)
  refine lv_iload_n hx hb dX11_quarrel_7 rfl (lv_at hl 0 rfl) ?_
  refine lv_aload_n hx hb dX11_quarrel_8 rfl (lv_at hl 1 rfl) ?_
  refine q_get (v := .ref m_s) C hP 0 6 rfl rfl inX11 (by decide) kF_RX11_33 rfl rfl dX11_quarrel_9 ?_
  refine lv_iconst (v := 0) hx hb dX11_quarrel_12 (by decide) ?_
  refine q_iald (v := 0) C hP 1 rfl (vin (by decide +kernel)) (by decide +kernel) dX11_quarrel_13 ?_
  refine lv_icmp_ge (tgt := 71) hx hb dX11_quarrel_14 (by decide) (fun _ => ?_) (fun c_0 => absurd (by decide) c_0)
  refine lv_aload_n hx hb dX11_quarrel_71 rfl (lv_at hl 1 rfl) ?_
  refine lv_iconst (v := 1) hx hb dX11_quarrel_72 (by decide) ?_
  refine q_put (v := .int 1) (w' := [(m0, .inr (11, [.int 1, .ref m_tape, .int 0, .int 0, .int 0, .int 0, .ref m_s, .ref m_h, .ref m_read, .ref m_names, .ref m_reserved, .int 0, .int 0, .int 0, .int 0, .int 0, .int 0, .long 0, .int 0, .int 0, .int 0, .int 0, .int 0, .int 0, .int 0, .ref m_undone, .ref m_before, .int 0, .ref m_far, .ref m_wayRow, .int (-1), .ref m_keptRow, .ref m_askedRow, .ref m_rares, .ref m_trial, .int (-1), .int (-1), .ref m_hangs, .ref m_paths, .int 0, .int 0, .int 0, .int 0, .ref m_text, .int 0, .int 0, .ref m_toldAt, .int 0, .ref m_stack, .int 0, .int 0, .int 0, .int 0, .int 0, .ref m_truths, .ref m_imaged, .ref m_namesKept, .ref m_areKept])), (m_s, .inl (cy 1, 383, .inl (sD 0)))]) (ty := .int) C hP hD hS 0 0 rfl rfl inX11 tyX11 tyX11_ok nmX11 (by decide) kF_RX11_1 rfl rfl rfl rfl rfl (Nat.le_of_ble_eq_true rfl) rfl dX11_quarrel_73 (fun H locs hP hD hS => ?_)
  refine lv_iconst (v := 0) hx hb dX11_quarrel_76 (by decide) ?_
  exact q_iret (rm := (Rm 0 0 0 0)) C hS () rfl rfl (q_subP hP [0] rfl) (hD.sub [0] (by decide) rfl) (Nat.le_of_ble_eq_true rfl) (Nat.le_of_ble_eq_true rfl) dX11_quarrel_77
set_option maxHeartbeats 4000000 in
set_option maxRecDepth 100000 in
theorem y_catalogue (l : Launch) (D : va_G) (cy : Nat → ClassId) (m0 : Nat) (n : Int32) (m_tape : Nat) (m_s : Nat) (m_h : Nat) (m_read : Nat) (m_names : Nat) (m_reserved : Nat) (m_undone : Nat) (m_before : Nat) (m_far : Nat) (m_wayRow : Nat) (m_keptRow : Nat) (m_askedRow : Nat) (m_rares : Nat) (m_trial : Nat) (m_hangs : Nat) (m_paths : Nat) (m_text : Nat) (m_toldAt : Nat) (m_stack : Nat) (m_truths : Nat) (m_imaged : Nat) (m_namesKept : Nat) (m_areKept : Nat) (sz : Nat)  : MI l yX11_catalogue cX11_catalogue 4 (some .int) (Rm 2 43 0 0) D cy [.ref m0, .int n] sz [(m0, .inr (11, [.int 0, .ref m_tape, .int 0, .int 0, .int 0, .int 0, .ref m_s, .ref m_h, .ref m_read, .ref m_names, .ref m_reserved, .int 0, .int 0, .int 0, .int 0, .int 0, .int 0, .long 0, .int 0, .int 0, .int 0, .int 0, .int 0, .int 0, .int 0, .ref m_undone, .ref m_before, .int 0, .ref m_far, .ref m_wayRow, .int (-1), .ref m_keptRow, .ref m_askedRow, .ref m_rares, .ref m_trial, .int (-1), .int (-1), .ref m_hangs, .ref m_paths, .int 0, .int 0, .int 0, .int 0, .ref m_text, .int 0, .int 0, .ref m_toldAt, .int 0, .ref m_stack, .int 0, .int 0, .int 0, .int 0, .int 0, .ref m_truths, .ref m_imaged, .ref m_namesKept, .ref m_areKept])), (m_s, .inl (cy 1, 383, .inl (sD 0)))] (fun (r : Int32) (u : Unit) => r = (-1)) (fun u : Unit => []) := by
  refine MI.enter (by decide) (Nat.le_of_ble_eq_true rfl) ?_
  intro p e s m below meth c ls A hsz hAe C hP hD hS hl
  have C : Cx p s m _ meth c cX11_catalogue 4 (some .int) RX11 "catalogue" D cy A := C
  have hx := C.1
  have hb := C.2.1
  have hl : lv_has ls 4 [(0, .ref m0), (1, .int n)] := hl
  refine lv_aload_n hx hb dX11_catalogue_0 rfl (lv_at hl 0 rfl) ?_
  refine lv_iconst (v := 0) hx hb dX11_catalogue_1 (by decide) ?_
  refine q_put (v := .int 0) (w' := [(m0, .inr (11, [.int 0, .ref m_tape, .int 0, .int 0, .int 0, .int 0, .ref m_s, .ref m_h, .ref m_read, .ref m_names, .ref m_reserved, .int 0, .int 0, .int 0, .int 0, .int 0, .int 0, .long 0, .int 0, .int 0, .int 0, .int 0, .int 0, .int 0, .int 0, .ref m_undone, .ref m_before, .int 0, .ref m_far, .ref m_wayRow, .int (-1), .ref m_keptRow, .ref m_askedRow, .ref m_rares, .ref m_trial, .int (-1), .int (-1), .ref m_hangs, .ref m_paths, .int 0, .int 0, .int 0, .int 0, .ref m_text, .int 0, .int 0, .ref m_toldAt, .int 0, .ref m_stack, .int 0, .int 0, .int 0, .int 0, .int 0, .ref m_truths, .ref m_imaged, .ref m_namesKept, .ref m_areKept])), (m_s, .inl (cy 1, 383, .inl (sD 0)))]) (ty := .int) C hP hD hS 0 0 rfl rfl inX11 tyX11 tyX11_ok nmX11 (by decide) kF_RX11_1 rfl rfl rfl rfl rfl (Nat.le_of_ble_eq_true rfl) rfl dX11_catalogue_2 (fun H locs hP hD hS => ?_)
  refine lv_aload_n hx hb dX11_catalogue_5 rfl (lv_at hl 0 rfl) ?_
  refine lv_iload_n hx hb dX11_catalogue_6 rfl (lv_at hl 1 rfl) ?_
  refine q_ai (wr := []) (r_V (q0 := 0) (As := [.int n]) (rest := []) (wc := [(m0, .inr (11, [.int 0, .ref m_tape, .int 0, .int 0, .int 0, .int 0, .ref m_s, .ref m_h, .ref m_read, .ref m_names, .ref m_reserved, .int 0, .int 0, .int 0, .int 0, .int 0, .int 0, .long 0, .int 0, .int 0, .int 0, .int 0, .int 0, .int 0, .int 0, .ref m_undone, .ref m_before, .int 0, .ref m_far, .ref m_wayRow, .int (-1), .ref m_keptRow, .ref m_askedRow, .ref m_rares, .ref m_trial, .int (-1), .int (-1), .ref m_hangs, .ref m_paths, .int 0, .int 0, .int 0, .int 0, .ref m_text, .int 0, .int 0, .ref m_toldAt, .int 0, .ref m_stack, .int 0, .int 0, .int 0, .int 0, .int 0, .ref m_truths, .ref m_imaged, .ref m_namesKept, .ref m_areKept])), (m_s, .inl (cy 1, 383, .inl (sD 0)))]) C (q_subP hP [0, 1] rfl) (hD.sub [0, 1] (by decide) rfl) (m_isBook l D cy m0 n 0 m_tape m_s m_h m_read m_names m_reserved m_undone m_before m_far m_wayRow m_keptRow m_askedRow m_rares m_trial m_hangs m_paths m_text m_toldAt m_stack m_truths m_imaged m_namesKept m_areKept _ ) kwV_X11_isBook kM_RX11_306 rfl rfl ⟨Nat.le_of_ble_eq_true rfl, Nat.le_of_ble_eq_true rfl⟩ rfl hl.1 rfl (Nat.le_of_ble_eq_true rfl) dX11_catalogue_7 ⟨Nat.le_of_ble_eq_true rfl, Nat.le_of_ble_eq_true rfl⟩) C.2.2.2.2.2.2.1 hP hD hS [0, 1] [] rfl rfl (by decide) (by decide) (fun r_2 u_1 H locs hw_3 hP hD hS => ?_)
  have hP : va_P D vwCl [(m0, .inr (11, [.int 0, .ref m_tape, .int 0, .int 0, .int 0, .int 0, .ref m_s, .ref m_h, .ref m_read, .ref m_names, .ref m_reserved, .int 0, .int 0, .int 0, .int 0, .int 0, .int 0, .long 0, .int 0, .int 0, .int 0, .int 0, .int 0, .int 0, .int 0, .ref m_undone, .ref m_before, .int 0, .ref m_far, .ref m_wayRow, .int (-1), .ref m_keptRow, .ref m_askedRow, .ref m_rares, .ref m_trial, .int (-1), .int (-1), .ref m_hangs, .ref m_paths, .int 0, .int 0, .int 0, .int 0, .ref m_text, .int 0, .int 0, .ref m_toldAt, .int 0, .ref m_stack, .int 0, .int 0, .int 0, .int 0, .int 0, .ref m_truths, .ref m_imaged, .ref m_namesKept, .ref m_areKept])), (m_s, .inl (cy 1, 383, .inl (sD 0)))] H := hP
  have hD : va_D A [(m0, .inr (11, [.int 0, .ref m_tape, .int 0, .int 0, .int 0, .int 0, .ref m_s, .ref m_h, .ref m_read, .ref m_names, .ref m_reserved, .int 0, .int 0, .int 0, .int 0, .int 0, .int 0, .long 0, .int 0, .int 0, .int 0, .int 0, .int 0, .int 0, .int 0, .ref m_undone, .ref m_before, .int 0, .ref m_far, .ref m_wayRow, .int (-1), .ref m_keptRow, .ref m_askedRow, .ref m_rares, .ref m_trial, .int (-1), .int (-1), .ref m_hangs, .ref m_paths, .int 0, .int 0, .int 0, .int 0, .ref m_text, .int 0, .int 0, .ref m_toldAt, .int 0, .ref m_stack, .int 0, .int 0, .int 0, .int 0, .int 0, .ref m_truths, .ref m_imaged, .ref m_namesKept, .ref m_areKept])), (m_s, .inl (cy 1, 383, .inl (sD 0)))] := hD
  obtain rfl : r_2 = 0 := hw_3
  refine lv_if_ne (tgt := 15) hx hb dX11_catalogue_10 (by decide) (fun c_0 => absurd (by decide) c_0) (fun _ => ?_)
  refine lv_iconst (v := (-1)) hx hb dX11_catalogue_13 (by decide) ?_
  exact q_iret (rm := (Rm 2 43 0 0)) C hS () rfl rfl (q_subP hP [] rfl) (hD.sub [] (by decide) rfl) (Nat.le_of_ble_eq_true rfl) (Nat.le_of_ble_eq_true rfl) dX11_catalogue_14
set_option maxHeartbeats 4000000 in
set_option maxRecDepth 100000 in
theorem y_ask (l : Launch) (D : va_G) (cy : Nat → ClassId) (m0 : Nat) (n : Int32) (m_tape : Nat) (m_s : Nat) (m_h : Nat) (m_read : Nat) (m_names : Nat) (m_reserved : Nat) (m_undone : Nat) (m_before : Nat) (m_far : Nat) (m_wayRow : Nat) (m_keptRow : Nat) (m_askedRow : Nat) (m_rares : Nat) (m_trial : Nat) (m_hangs : Nat) (m_paths : Nat) (m_text : Nat) (m_toldAt : Nat) (m_stack : Nat) (m_truths : Nat) (m_imaged : Nat) (m_namesKept : Nat) (m_areKept : Nat) (sz : Nat)  : MI l yX11_ask cX11_ask 2 (some .int) (Rm 2 43 0 0) D cy [.ref m0, .int n] sz [(m0, .inr (11, [.int 0, .ref m_tape, .int 0, .int 0, .int 0, .int 0, .ref m_s, .ref m_h, .ref m_read, .ref m_names, .ref m_reserved, .int 0, .int 0, .int 0, .int 0, .int 0, .int 0, .long 0, .int 0, .int 0, .int 0, .int 0, .int 0, .int 0, .int 0, .ref m_undone, .ref m_before, .int 0, .ref m_far, .ref m_wayRow, .int (-1), .ref m_keptRow, .ref m_askedRow, .ref m_rares, .ref m_trial, .int (-1), .int (-1), .ref m_hangs, .ref m_paths, .int 0, .int 0, .int 0, .int 0, .ref m_text, .int 0, .int 0, .ref m_toldAt, .int 0, .ref m_stack, .int 0, .int 0, .int 0, .int 0, .int 0, .ref m_truths, .ref m_imaged, .ref m_namesKept, .ref m_areKept])), (m_s, .inl (cy 1, 383, .inl (sD 0)))] (fun (r : Int32) (u : Unit) => r = (-1)) (fun u : Unit => []) := by
  refine MI.enter (by decide) (Nat.le_of_ble_eq_true rfl) ?_
  intro p e s m below meth c ls A hsz hAe C hP hD hS hl
  have C : Cx p s m _ meth c cX11_ask 2 (some .int) RX11 "ask" D cy A := C
  have hx := C.1
  have hb := C.2.1
  have hl : lv_has ls 2 [(0, .ref m0), (1, .int n)] := hl
  refine lv_aload_n hx hb dX11_ask_0 rfl (lv_at hl 0 rfl) ?_
  refine lv_iconst (v := 0) hx hb dX11_ask_1 (by decide) ?_
  refine q_put (v := .int 0) (w' := [(m0, .inr (11, [.int 0, .ref m_tape, .int 0, .int 0, .int 0, .int 0, .ref m_s, .ref m_h, .ref m_read, .ref m_names, .ref m_reserved, .int 0, .int 0, .int 0, .int 0, .int 0, .int 0, .long 0, .int 0, .int 0, .int 0, .int 0, .int 0, .int 0, .int 0, .ref m_undone, .ref m_before, .int 0, .ref m_far, .ref m_wayRow, .int (-1), .ref m_keptRow, .ref m_askedRow, .ref m_rares, .ref m_trial, .int (-1), .int (-1), .ref m_hangs, .ref m_paths, .int 0, .int 0, .int 0, .int 0, .ref m_text, .int 0, .int 0, .ref m_toldAt, .int 0, .ref m_stack, .int 0, .int 0, .int 0, .int 0, .int 0, .ref m_truths, .ref m_imaged, .ref m_namesKept, .ref m_areKept])), (m_s, .inl (cy 1, 383, .inl (sD 0)))]) (ty := .int) C hP hD hS 0 0 rfl rfl inX11 tyX11 tyX11_ok nmX11 (by decide) kF_RX11_1 rfl rfl rfl rfl rfl (Nat.le_of_ble_eq_true rfl) rfl dX11_ask_2 (fun H locs hP hD hS => ?_)
  refine lv_aload_n hx hb dX11_ask_5 rfl (lv_at hl 0 rfl) ?_
  refine lv_iload_n hx hb dX11_ask_6 rfl (lv_at hl 1 rfl) ?_
  refine q_ai (wr := []) (r_V (q0 := 0) (As := [.int n]) (rest := []) (wc := [(m0, .inr (11, [.int 0, .ref m_tape, .int 0, .int 0, .int 0, .int 0, .ref m_s, .ref m_h, .ref m_read, .ref m_names, .ref m_reserved, .int 0, .int 0, .int 0, .int 0, .int 0, .int 0, .long 0, .int 0, .int 0, .int 0, .int 0, .int 0, .int 0, .int 0, .ref m_undone, .ref m_before, .int 0, .ref m_far, .ref m_wayRow, .int (-1), .ref m_keptRow, .ref m_askedRow, .ref m_rares, .ref m_trial, .int (-1), .int (-1), .ref m_hangs, .ref m_paths, .int 0, .int 0, .int 0, .int 0, .ref m_text, .int 0, .int 0, .ref m_toldAt, .int 0, .ref m_stack, .int 0, .int 0, .int 0, .int 0, .int 0, .ref m_truths, .ref m_imaged, .ref m_namesKept, .ref m_areKept])), (m_s, .inl (cy 1, 383, .inl (sD 0)))]) C (q_subP hP [0, 1] rfl) (hD.sub [0, 1] (by decide) rfl) (m_isBook l D cy m0 n 0 m_tape m_s m_h m_read m_names m_reserved m_undone m_before m_far m_wayRow m_keptRow m_askedRow m_rares m_trial m_hangs m_paths m_text m_toldAt m_stack m_truths m_imaged m_namesKept m_areKept _ ) kwV_X11_isBook kM_RX11_306 rfl rfl ⟨Nat.le_of_ble_eq_true rfl, Nat.le_of_ble_eq_true rfl⟩ rfl hl.1 rfl (Nat.le_of_ble_eq_true rfl) dX11_ask_7 ⟨Nat.le_of_ble_eq_true rfl, Nat.le_of_ble_eq_true rfl⟩) C.2.2.2.2.2.2.1 hP hD hS [0, 1] [] rfl rfl (by decide) (by decide) (fun r_2 u_1 H locs hw_3 hP hD hS => ?_)
  have hP : va_P D vwCl [(m0, .inr (11, [.int 0, .ref m_tape, .int 0, .int 0, .int 0, .int 0, .ref m_s, .ref m_h, .ref m_read, .ref m_names, .ref m_reserved, .int 0, .int 0, .int 0, .int 0, .int 0, .int 0, .long 0, .int 0, .int 0, .int 0, .int 0, .int 0, .int 0, .int 0, .ref m_undone, .ref m_before, .int 0, .ref m_far, .ref m_wayRow, .int (-1), .ref m_keptRow, .ref m_askedRow, .ref m_rares, .ref m_trial, .int (-1), .int (-1), .ref m_hangs, .ref m_paths, .int 0, .int 0, .int 0, .int 0, .ref m_text, .int 0, .int 0, .ref m_toldAt, .int 0, .ref m_stack, .int 0, .int 0, .int 0, .int 0, .int 0, .ref m_truths, .ref m_imaged, .ref m_namesKept, .ref m_areKept])), (m_s, .inl (cy 1, 383, .inl (sD 0)))] H := hP
  have hD : va_D A [(m0, .inr (11, [.int 0, .ref m_tape, .int 0, .int 0, .int 0, .int 0, .ref m_s, .ref m_h, .ref m_read, .ref m_names, .ref m_reserved, .int 0, .int 0, .int 0, .int 0, .int 0, .int 0, .long 0, .int 0, .int 0, .int 0, .int 0, .int 0, .int 0, .int 0, .ref m_undone, .ref m_before, .int 0, .ref m_far, .ref m_wayRow, .int (-1), .ref m_keptRow, .ref m_askedRow, .ref m_rares, .ref m_trial, .int (-1), .int (-1), .ref m_hangs, .ref m_paths, .int 0, .int 0, .int 0, .int 0, .ref m_text, .int 0, .int 0, .ref m_toldAt, .int 0, .ref m_stack, .int 0, .int 0, .int 0, .int 0, .int 0, .ref m_truths, .ref m_imaged, .ref m_namesKept, .ref m_areKept])), (m_s, .inl (cy 1, 383, .inl (sD 0)))] := hD
  obtain rfl : r_2 = 0 := hw_3
  refine lv_if_ne (tgt := 15) hx hb dX11_ask_10 (by decide) (fun c_0 => absurd (by decide) c_0) (fun _ => ?_)
  refine lv_iconst (v := (-1)) hx hb dX11_ask_13 (by decide) ?_
  exact q_iret (rm := (Rm 2 43 0 0)) C hS () rfl rfl (q_subP hP [] rfl) (hD.sub [] (by decide) rfl) (Nat.le_of_ble_eq_true rfl) (Nat.le_of_ble_eq_true rfl) dX11_ask_14
set_option maxHeartbeats 4000000 in
set_option maxRecDepth 100000 in
theorem y_when (l : Launch) (D : va_G) (cy : Nat → ClassId) (m0 : Nat) (n : Int32) (m_tape : Nat) (m_s : Nat) (m_h : Nat) (m_read : Nat) (m_names : Nat) (m_reserved : Nat) (m_undone : Nat) (m_before : Nat) (m_far : Nat) (m_wayRow : Nat) (m_keptRow : Nat) (m_askedRow : Nat) (m_rares : Nat) (m_trial : Nat) (m_hangs : Nat) (m_paths : Nat) (m_text : Nat) (m_toldAt : Nat) (m_stack : Nat) (m_truths : Nat) (m_imaged : Nat) (m_namesKept : Nat) (m_areKept : Nat) (sz : Nat)  : MI l yX11_when cX11_when 4 (some .int) (Rm 2 43 0 0) D cy [.ref m0, .int n] sz [(m0, .inr (11, [.int 0, .ref m_tape, .int 0, .int 0, .int 0, .int 0, .ref m_s, .ref m_h, .ref m_read, .ref m_names, .ref m_reserved, .int 0, .int 0, .int 0, .int 0, .int 0, .int 0, .long 0, .int 0, .int 0, .int 0, .int 0, .int 0, .int 0, .int 0, .ref m_undone, .ref m_before, .int 0, .ref m_far, .ref m_wayRow, .int (-1), .ref m_keptRow, .ref m_askedRow, .ref m_rares, .ref m_trial, .int (-1), .int (-1), .ref m_hangs, .ref m_paths, .int 0, .int 0, .int 0, .int 0, .ref m_text, .int 0, .int 0, .ref m_toldAt, .int 0, .ref m_stack, .int 0, .int 0, .int 0, .int 0, .int 0, .ref m_truths, .ref m_imaged, .ref m_namesKept, .ref m_areKept])), (m_s, .inl (cy 1, 383, .inl (sD 0)))] (fun (r : Int32) (u : Unit) => r = (-1)) (fun u : Unit => []) := by
  refine MI.enter (by decide) (Nat.le_of_ble_eq_true rfl) ?_
  intro p e s m below meth c ls A hsz hAe C hP hD hS hl
  have C : Cx p s m _ meth c cX11_when 4 (some .int) RX11 "when" D cy A := C
  have hx := C.1
  have hb := C.2.1
  have hl : lv_has ls 4 [(0, .ref m0), (1, .int n)] := hl
  refine lv_aload_n hx hb dX11_when_0 rfl (lv_at hl 0 rfl) ?_
  refine lv_iconst (v := 0) hx hb dX11_when_1 (by decide) ?_
  refine q_put (v := .int 0) (w' := [(m0, .inr (11, [.int 0, .ref m_tape, .int 0, .int 0, .int 0, .int 0, .ref m_s, .ref m_h, .ref m_read, .ref m_names, .ref m_reserved, .int 0, .int 0, .int 0, .int 0, .int 0, .int 0, .long 0, .int 0, .int 0, .int 0, .int 0, .int 0, .int 0, .int 0, .ref m_undone, .ref m_before, .int 0, .ref m_far, .ref m_wayRow, .int (-1), .ref m_keptRow, .ref m_askedRow, .ref m_rares, .ref m_trial, .int (-1), .int (-1), .ref m_hangs, .ref m_paths, .int 0, .int 0, .int 0, .int 0, .ref m_text, .int 0, .int 0, .ref m_toldAt, .int 0, .ref m_stack, .int 0, .int 0, .int 0, .int 0, .int 0, .ref m_truths, .ref m_imaged, .ref m_namesKept, .ref m_areKept])), (m_s, .inl (cy 1, 383, .inl (sD 0)))]) (ty := .int) C hP hD hS 0 0 rfl rfl inX11 tyX11 tyX11_ok nmX11 (by decide) kF_RX11_1 rfl rfl rfl rfl rfl (Nat.le_of_ble_eq_true rfl) rfl dX11_when_2 (fun H locs hP hD hS => ?_)
  refine lv_aload_n hx hb dX11_when_5 rfl (lv_at hl 0 rfl) ?_
  refine lv_iload_n hx hb dX11_when_6 rfl (lv_at hl 1 rfl) ?_
  refine q_ai (wr := []) (r_V (q0 := 0) (As := [.int n]) (rest := []) (wc := [(m0, .inr (11, [.int 0, .ref m_tape, .int 0, .int 0, .int 0, .int 0, .ref m_s, .ref m_h, .ref m_read, .ref m_names, .ref m_reserved, .int 0, .int 0, .int 0, .int 0, .int 0, .int 0, .long 0, .int 0, .int 0, .int 0, .int 0, .int 0, .int 0, .int 0, .ref m_undone, .ref m_before, .int 0, .ref m_far, .ref m_wayRow, .int (-1), .ref m_keptRow, .ref m_askedRow, .ref m_rares, .ref m_trial, .int (-1), .int (-1), .ref m_hangs, .ref m_paths, .int 0, .int 0, .int 0, .int 0, .ref m_text, .int 0, .int 0, .ref m_toldAt, .int 0, .ref m_stack, .int 0, .int 0, .int 0, .int 0, .int 0, .ref m_truths, .ref m_imaged, .ref m_namesKept, .ref m_areKept])), (m_s, .inl (cy 1, 383, .inl (sD 0)))]) C (q_subP hP [0, 1] rfl) (hD.sub [0, 1] (by decide) rfl) (m_isBook l D cy m0 n 0 m_tape m_s m_h m_read m_names m_reserved m_undone m_before m_far m_wayRow m_keptRow m_askedRow m_rares m_trial m_hangs m_paths m_text m_toldAt m_stack m_truths m_imaged m_namesKept m_areKept _ ) kwV_X11_isBook kM_RX11_306 rfl rfl ⟨Nat.le_of_ble_eq_true rfl, Nat.le_of_ble_eq_true rfl⟩ rfl hl.1 rfl (Nat.le_of_ble_eq_true rfl) dX11_when_7 ⟨Nat.le_of_ble_eq_true rfl, Nat.le_of_ble_eq_true rfl⟩) C.2.2.2.2.2.2.1 hP hD hS [0, 1] [] rfl rfl (by decide) (by decide) (fun r_2 u_1 H locs hw_3 hP hD hS => ?_)
  have hP : va_P D vwCl [(m0, .inr (11, [.int 0, .ref m_tape, .int 0, .int 0, .int 0, .int 0, .ref m_s, .ref m_h, .ref m_read, .ref m_names, .ref m_reserved, .int 0, .int 0, .int 0, .int 0, .int 0, .int 0, .long 0, .int 0, .int 0, .int 0, .int 0, .int 0, .int 0, .int 0, .ref m_undone, .ref m_before, .int 0, .ref m_far, .ref m_wayRow, .int (-1), .ref m_keptRow, .ref m_askedRow, .ref m_rares, .ref m_trial, .int (-1), .int (-1), .ref m_hangs, .ref m_paths, .int 0, .int 0, .int 0, .int 0, .ref m_text, .int 0, .int 0, .ref m_toldAt, .int 0, .ref m_stack, .int 0, .int 0, .int 0, .int 0, .int 0, .ref m_truths, .ref m_imaged, .ref m_namesKept, .ref m_areKept])), (m_s, .inl (cy 1, 383, .inl (sD 0)))] H := hP
  have hD : va_D A [(m0, .inr (11, [.int 0, .ref m_tape, .int 0, .int 0, .int 0, .int 0, .ref m_s, .ref m_h, .ref m_read, .ref m_names, .ref m_reserved, .int 0, .int 0, .int 0, .int 0, .int 0, .int 0, .long 0, .int 0, .int 0, .int 0, .int 0, .int 0, .int 0, .int 0, .ref m_undone, .ref m_before, .int 0, .ref m_far, .ref m_wayRow, .int (-1), .ref m_keptRow, .ref m_askedRow, .ref m_rares, .ref m_trial, .int (-1), .int (-1), .ref m_hangs, .ref m_paths, .int 0, .int 0, .int 0, .int 0, .ref m_text, .int 0, .int 0, .ref m_toldAt, .int 0, .ref m_stack, .int 0, .int 0, .int 0, .int 0, .int 0, .ref m_truths, .ref m_imaged, .ref m_namesKept, .ref m_areKept])), (m_s, .inl (cy 1, 383, .inl (sD 0)))] := hD
  obtain rfl : r_2 = 0 := hw_3
  refine lv_if_ne (tgt := 15) hx hb dX11_when_10 (by decide) (fun c_0 => absurd (by decide) c_0) (fun _ => ?_)
  refine lv_iconst (v := (-1)) hx hb dX11_when_13 (by decide) ?_
  exact q_iret (rm := (Rm 2 43 0 0)) C hS () rfl rfl (q_subP hP [] rfl) (hD.sub [] (by decide) rfl) (Nat.le_of_ble_eq_true rfl) (Nat.le_of_ble_eq_true rfl) dX11_when_14
set_option maxHeartbeats 4000000 in
set_option maxRecDepth 100000 in
theorem y_follow (l : Launch) (D : va_G) (cy : Nat → ClassId) (m0 : Nat) (n : Int32) (m_tape : Nat) (m_s : Nat) (m_h : Nat) (m_read : Nat) (m_names : Nat) (m_reserved : Nat) (m_undone : Nat) (m_before : Nat) (m_far : Nat) (m_wayRow : Nat) (m_keptRow : Nat) (m_askedRow : Nat) (m_rares : Nat) (m_trial : Nat) (m_hangs : Nat) (m_paths : Nat) (m_text : Nat) (m_toldAt : Nat) (m_stack : Nat) (m_truths : Nat) (m_imaged : Nat) (m_namesKept : Nat) (m_areKept : Nat) (sz : Nat)  : MI l yX11_follow cX11_follow 2 (some .int) (Rm 2 43 0 0) D cy [.ref m0, .int n] sz [(m0, .inr (11, [.int 0, .ref m_tape, .int 0, .int 0, .int 0, .int 0, .ref m_s, .ref m_h, .ref m_read, .ref m_names, .ref m_reserved, .int 0, .int 0, .int 0, .int 0, .int 0, .int 0, .long 0, .int 0, .int 0, .int 0, .int 0, .int 0, .int 0, .int 0, .ref m_undone, .ref m_before, .int 0, .ref m_far, .ref m_wayRow, .int (-1), .ref m_keptRow, .ref m_askedRow, .ref m_rares, .ref m_trial, .int (-1), .int (-1), .ref m_hangs, .ref m_paths, .int 0, .int 0, .int 0, .int 0, .ref m_text, .int 0, .int 0, .ref m_toldAt, .int 0, .ref m_stack, .int 0, .int 0, .int 0, .int 0, .int 0, .ref m_truths, .ref m_imaged, .ref m_namesKept, .ref m_areKept])), (m_s, .inl (cy 1, 383, .inl (sD 0)))] (fun (r : Int32) (u : Unit) => r = (-1)) (fun u : Unit => []) := by
  refine MI.enter (by decide) (Nat.le_of_ble_eq_true rfl) ?_
  intro p e s m below meth c ls A hsz hAe C hP hD hS hl
  have C : Cx p s m _ meth c cX11_follow 2 (some .int) RX11 "follow" D cy A := C
  have hx := C.1
  have hb := C.2.1
  have hl : lv_has ls 2 [(0, .ref m0), (1, .int n)] := hl
  refine lv_aload_n hx hb dX11_follow_0 rfl (lv_at hl 0 rfl) ?_
  refine lv_iconst (v := 0) hx hb dX11_follow_1 (by decide) ?_
  refine q_put (v := .int 0) (w' := [(m0, .inr (11, [.int 0, .ref m_tape, .int 0, .int 0, .int 0, .int 0, .ref m_s, .ref m_h, .ref m_read, .ref m_names, .ref m_reserved, .int 0, .int 0, .int 0, .int 0, .int 0, .int 0, .long 0, .int 0, .int 0, .int 0, .int 0, .int 0, .int 0, .int 0, .ref m_undone, .ref m_before, .int 0, .ref m_far, .ref m_wayRow, .int (-1), .ref m_keptRow, .ref m_askedRow, .ref m_rares, .ref m_trial, .int (-1), .int (-1), .ref m_hangs, .ref m_paths, .int 0, .int 0, .int 0, .int 0, .ref m_text, .int 0, .int 0, .ref m_toldAt, .int 0, .ref m_stack, .int 0, .int 0, .int 0, .int 0, .int 0, .ref m_truths, .ref m_imaged, .ref m_namesKept, .ref m_areKept])), (m_s, .inl (cy 1, 383, .inl (sD 0)))]) (ty := .int) C hP hD hS 0 0 rfl rfl inX11 tyX11 tyX11_ok nmX11 (by decide) kF_RX11_1 rfl rfl rfl rfl rfl (Nat.le_of_ble_eq_true rfl) rfl dX11_follow_2 (fun H locs hP hD hS => ?_)
  refine lv_aload_n hx hb dX11_follow_5 rfl (lv_at hl 0 rfl) ?_
  refine lv_iload_n hx hb dX11_follow_6 rfl (lv_at hl 1 rfl) ?_
  refine q_ai (wr := []) (r_V (q0 := 0) (As := [.int n]) (rest := []) (wc := [(m0, .inr (11, [.int 0, .ref m_tape, .int 0, .int 0, .int 0, .int 0, .ref m_s, .ref m_h, .ref m_read, .ref m_names, .ref m_reserved, .int 0, .int 0, .int 0, .int 0, .int 0, .int 0, .long 0, .int 0, .int 0, .int 0, .int 0, .int 0, .int 0, .int 0, .ref m_undone, .ref m_before, .int 0, .ref m_far, .ref m_wayRow, .int (-1), .ref m_keptRow, .ref m_askedRow, .ref m_rares, .ref m_trial, .int (-1), .int (-1), .ref m_hangs, .ref m_paths, .int 0, .int 0, .int 0, .int 0, .ref m_text, .int 0, .int 0, .ref m_toldAt, .int 0, .ref m_stack, .int 0, .int 0, .int 0, .int 0, .int 0, .ref m_truths, .ref m_imaged, .ref m_namesKept, .ref m_areKept])), (m_s, .inl (cy 1, 383, .inl (sD 0)))]) C (q_subP hP [0, 1] rfl) (hD.sub [0, 1] (by decide) rfl) (m_isBook l D cy m0 n 0 m_tape m_s m_h m_read m_names m_reserved m_undone m_before m_far m_wayRow m_keptRow m_askedRow m_rares m_trial m_hangs m_paths m_text m_toldAt m_stack m_truths m_imaged m_namesKept m_areKept _ ) kwV_X11_isBook kM_RX11_306 rfl rfl ⟨Nat.le_of_ble_eq_true rfl, Nat.le_of_ble_eq_true rfl⟩ rfl hl.1 rfl (Nat.le_of_ble_eq_true rfl) dX11_follow_7 ⟨Nat.le_of_ble_eq_true rfl, Nat.le_of_ble_eq_true rfl⟩) C.2.2.2.2.2.2.1 hP hD hS [0, 1] [] rfl rfl (by decide) (by decide) (fun r_2 u_1 H locs hw_3 hP hD hS => ?_)
  have hP : va_P D vwCl [(m0, .inr (11, [.int 0, .ref m_tape, .int 0, .int 0, .int 0, .int 0, .ref m_s, .ref m_h, .ref m_read, .ref m_names, .ref m_reserved, .int 0, .int 0, .int 0, .int 0, .int 0, .int 0, .long 0, .int 0, .int 0, .int 0, .int 0, .int 0, .int 0, .int 0, .ref m_undone, .ref m_before, .int 0, .ref m_far, .ref m_wayRow, .int (-1), .ref m_keptRow, .ref m_askedRow, .ref m_rares, .ref m_trial, .int (-1), .int (-1), .ref m_hangs, .ref m_paths, .int 0, .int 0, .int 0, .int 0, .ref m_text, .int 0, .int 0, .ref m_toldAt, .int 0, .ref m_stack, .int 0, .int 0, .int 0, .int 0, .int 0, .ref m_truths, .ref m_imaged, .ref m_namesKept, .ref m_areKept])), (m_s, .inl (cy 1, 383, .inl (sD 0)))] H := hP
  have hD : va_D A [(m0, .inr (11, [.int 0, .ref m_tape, .int 0, .int 0, .int 0, .int 0, .ref m_s, .ref m_h, .ref m_read, .ref m_names, .ref m_reserved, .int 0, .int 0, .int 0, .int 0, .int 0, .int 0, .long 0, .int 0, .int 0, .int 0, .int 0, .int 0, .int 0, .int 0, .ref m_undone, .ref m_before, .int 0, .ref m_far, .ref m_wayRow, .int (-1), .ref m_keptRow, .ref m_askedRow, .ref m_rares, .ref m_trial, .int (-1), .int (-1), .ref m_hangs, .ref m_paths, .int 0, .int 0, .int 0, .int 0, .ref m_text, .int 0, .int 0, .ref m_toldAt, .int 0, .ref m_stack, .int 0, .int 0, .int 0, .int 0, .int 0, .ref m_truths, .ref m_imaged, .ref m_namesKept, .ref m_areKept])), (m_s, .inl (cy 1, 383, .inl (sD 0)))] := hD
  obtain rfl : r_2 = 0 := hw_3
  refine lv_if_eq (tgt := 21) hx hb dX11_follow_10 (by decide) (fun _ => ?_) (fun c_0 => absurd (by decide) c_0)
  refine lv_iconst (v := (-1)) hx hb dX11_follow_21 (by decide) ?_
  exact q_iret (rm := (Rm 2 43 0 0)) C hS () rfl rfl (q_subP hP [] rfl) (hD.sub [] (by decide) rfl) (Nat.le_of_ble_eq_true rfl) (Nat.le_of_ble_eq_true rfl) dX11_follow_22
set_option maxHeartbeats 4000000 in
set_option maxRecDepth 100000 in
theorem y_torn (l : Launch) (D : va_G) (cy : Nat → ClassId) (m0 : Nat) (n : Int32) (m_tape : Nat) (m_s : Nat) (m_h : Nat) (m_read : Nat) (m_names : Nat) (m_reserved : Nat) (m_undone : Nat) (m_before : Nat) (m_far : Nat) (m_wayRow : Nat) (m_keptRow : Nat) (m_askedRow : Nat) (m_rares : Nat) (m_trial : Nat) (m_hangs : Nat) (m_paths : Nat) (m_text : Nat) (m_toldAt : Nat) (m_stack : Nat) (m_truths : Nat) (m_imaged : Nat) (m_namesKept : Nat) (m_areKept : Nat) (sz : Nat)  : MI l yX11_torn cX11_torn 3 (some .int) (Rm 2 43 0 0) D cy [.ref m0, .int n] sz [(m0, .inr (11, [.int 0, .ref m_tape, .int 0, .int 0, .int 0, .int 0, .ref m_s, .ref m_h, .ref m_read, .ref m_names, .ref m_reserved, .int 0, .int 0, .int 0, .int 0, .int 0, .int 0, .long 0, .int 0, .int 0, .int 0, .int 0, .int 0, .int 0, .int 0, .ref m_undone, .ref m_before, .int 0, .ref m_far, .ref m_wayRow, .int (-1), .ref m_keptRow, .ref m_askedRow, .ref m_rares, .ref m_trial, .int (-1), .int (-1), .ref m_hangs, .ref m_paths, .int 0, .int 0, .int 0, .int 0, .ref m_text, .int 0, .int 0, .ref m_toldAt, .int 0, .ref m_stack, .int 0, .int 0, .int 0, .int 0, .int 0, .ref m_truths, .ref m_imaged, .ref m_namesKept, .ref m_areKept])), (m_s, .inl (cy 1, 383, .inl (sD 0)))] (fun (r : Int32) (u : Unit) => r = (-1)) (fun u : Unit => []) := by
  refine MI.enter (by decide) (Nat.le_of_ble_eq_true rfl) ?_
  intro p e s m below meth c ls A hsz hAe C hP hD hS hl
  have C : Cx p s m _ meth c cX11_torn 3 (some .int) RX11 "torn" D cy A := C
  have hx := C.1
  have hb := C.2.1
  have hl : lv_has ls 3 [(0, .ref m0), (1, .int n)] := hl
  refine lv_aload_n hx hb dX11_torn_0 rfl (lv_at hl 0 rfl) ?_
  refine lv_iconst (v := 0) hx hb dX11_torn_1 (by decide) ?_
  refine q_put (v := .int 0) (w' := [(m0, .inr (11, [.int 0, .ref m_tape, .int 0, .int 0, .int 0, .int 0, .ref m_s, .ref m_h, .ref m_read, .ref m_names, .ref m_reserved, .int 0, .int 0, .int 0, .int 0, .int 0, .int 0, .long 0, .int 0, .int 0, .int 0, .int 0, .int 0, .int 0, .int 0, .ref m_undone, .ref m_before, .int 0, .ref m_far, .ref m_wayRow, .int (-1), .ref m_keptRow, .ref m_askedRow, .ref m_rares, .ref m_trial, .int (-1), .int (-1), .ref m_hangs, .ref m_paths, .int 0, .int 0, .int 0, .int 0, .ref m_text, .int 0, .int 0, .ref m_toldAt, .int 0, .ref m_stack, .int 0, .int 0, .int 0, .int 0, .int 0, .ref m_truths, .ref m_imaged, .ref m_namesKept, .ref m_areKept])), (m_s, .inl (cy 1, 383, .inl (sD 0)))]) (ty := .int) C hP hD hS 0 0 rfl rfl inX11 tyX11 tyX11_ok nmX11 (by decide) kF_RX11_1 rfl rfl rfl rfl rfl (Nat.le_of_ble_eq_true rfl) rfl dX11_torn_2 (fun H locs hP hD hS => ?_)
  refine lv_aload_n hx hb dX11_torn_5 rfl (lv_at hl 0 rfl) ?_
  refine lv_iload_n hx hb dX11_torn_6 rfl (lv_at hl 1 rfl) ?_
  refine q_ai (wr := []) (r_V (q0 := 0) (As := [.int n]) (rest := []) (wc := [(m0, .inr (11, [.int 0, .ref m_tape, .int 0, .int 0, .int 0, .int 0, .ref m_s, .ref m_h, .ref m_read, .ref m_names, .ref m_reserved, .int 0, .int 0, .int 0, .int 0, .int 0, .int 0, .long 0, .int 0, .int 0, .int 0, .int 0, .int 0, .int 0, .int 0, .ref m_undone, .ref m_before, .int 0, .ref m_far, .ref m_wayRow, .int (-1), .ref m_keptRow, .ref m_askedRow, .ref m_rares, .ref m_trial, .int (-1), .int (-1), .ref m_hangs, .ref m_paths, .int 0, .int 0, .int 0, .int 0, .ref m_text, .int 0, .int 0, .ref m_toldAt, .int 0, .ref m_stack, .int 0, .int 0, .int 0, .int 0, .int 0, .ref m_truths, .ref m_imaged, .ref m_namesKept, .ref m_areKept])), (m_s, .inl (cy 1, 383, .inl (sD 0)))]) C (q_subP hP [0, 1] rfl) (hD.sub [0, 1] (by decide) rfl) (m_isBook l D cy m0 n 0 m_tape m_s m_h m_read m_names m_reserved m_undone m_before m_far m_wayRow m_keptRow m_askedRow m_rares m_trial m_hangs m_paths m_text m_toldAt m_stack m_truths m_imaged m_namesKept m_areKept _ ) kwV_X11_isBook kM_RX11_306 rfl rfl ⟨Nat.le_of_ble_eq_true rfl, Nat.le_of_ble_eq_true rfl⟩ rfl hl.1 rfl (Nat.le_of_ble_eq_true rfl) dX11_torn_7 ⟨Nat.le_of_ble_eq_true rfl, Nat.le_of_ble_eq_true rfl⟩) C.2.2.2.2.2.2.1 hP hD hS [0, 1] [] rfl rfl (by decide) (by decide) (fun r_2 u_1 H locs hw_3 hP hD hS => ?_)
  have hP : va_P D vwCl [(m0, .inr (11, [.int 0, .ref m_tape, .int 0, .int 0, .int 0, .int 0, .ref m_s, .ref m_h, .ref m_read, .ref m_names, .ref m_reserved, .int 0, .int 0, .int 0, .int 0, .int 0, .int 0, .long 0, .int 0, .int 0, .int 0, .int 0, .int 0, .int 0, .int 0, .ref m_undone, .ref m_before, .int 0, .ref m_far, .ref m_wayRow, .int (-1), .ref m_keptRow, .ref m_askedRow, .ref m_rares, .ref m_trial, .int (-1), .int (-1), .ref m_hangs, .ref m_paths, .int 0, .int 0, .int 0, .int 0, .ref m_text, .int 0, .int 0, .ref m_toldAt, .int 0, .ref m_stack, .int 0, .int 0, .int 0, .int 0, .int 0, .ref m_truths, .ref m_imaged, .ref m_namesKept, .ref m_areKept])), (m_s, .inl (cy 1, 383, .inl (sD 0)))] H := hP
  have hD : va_D A [(m0, .inr (11, [.int 0, .ref m_tape, .int 0, .int 0, .int 0, .int 0, .ref m_s, .ref m_h, .ref m_read, .ref m_names, .ref m_reserved, .int 0, .int 0, .int 0, .int 0, .int 0, .int 0, .long 0, .int 0, .int 0, .int 0, .int 0, .int 0, .int 0, .int 0, .ref m_undone, .ref m_before, .int 0, .ref m_far, .ref m_wayRow, .int (-1), .ref m_keptRow, .ref m_askedRow, .ref m_rares, .ref m_trial, .int (-1), .int (-1), .ref m_hangs, .ref m_paths, .int 0, .int 0, .int 0, .int 0, .ref m_text, .int 0, .int 0, .ref m_toldAt, .int 0, .ref m_stack, .int 0, .int 0, .int 0, .int 0, .int 0, .ref m_truths, .ref m_imaged, .ref m_namesKept, .ref m_areKept])), (m_s, .inl (cy 1, 383, .inl (sD 0)))] := hD
  obtain rfl : r_2 = 0 := hw_3
  refine lv_if_ne (tgt := 15) hx hb dX11_torn_10 (by decide) (fun c_0 => absurd (by decide) c_0) (fun _ => ?_)
  refine lv_iconst (v := (-1)) hx hb dX11_torn_13 (by decide) ?_
  exact q_iret (rm := (Rm 2 43 0 0)) C hS () rfl rfl (q_subP hP [] rfl) (hD.sub [] (by decide) rfl) (Nat.le_of_ble_eq_true rfl) (Nat.le_of_ble_eq_true rfl) dX11_torn_14
set_option maxHeartbeats 4000000 in
set_option maxRecDepth 100000 in
theorem y_byteAt (l : Launch) (D : va_G) (cy : Nat → ClassId) (m0 : Nat) (n : Int32) (m_tape : Nat) (m_s : Nat) (m_h : Nat) (m_read : Nat) (m_names : Nat) (m_reserved : Nat) (m_undone : Nat) (m_before : Nat) (m_far : Nat) (m_wayRow : Nat) (m_keptRow : Nat) (m_askedRow : Nat) (m_rares : Nat) (m_trial : Nat) (m_hangs : Nat) (m_paths : Nat) (m_text : Nat) (m_toldAt : Nat) (m_stack : Nat) (m_truths : Nat) (m_imaged : Nat) (m_namesKept : Nat) (m_areKept : Nat) (sz : Nat)  : MI l yX11_byteAt cX11_byteAt 2 (some .int) (Rm 1 22 0 0) D cy [.ref m0, .int n] sz [(m0, .inr (11, [.int 0, .ref m_tape, .int 0, .int 0, .int 0, .int 0, .ref m_s, .ref m_h, .ref m_read, .ref m_names, .ref m_reserved, .int 0, .int 0, .int 0, .int 0, .int 0, .int 0, .long 0, .int 0, .int 0, .int 0, .int 0, .int 0, .int 0, .int 0, .ref m_undone, .ref m_before, .int 0, .ref m_far, .ref m_wayRow, .int (-1), .ref m_keptRow, .ref m_askedRow, .ref m_rares, .ref m_trial, .int (-1), .int (-1), .ref m_hangs, .ref m_paths, .int 0, .int 0, .int 0, .int 0, .ref m_text, .int 0, .int 0, .ref m_toldAt, .int 0, .ref m_stack, .int 0, .int 0, .int 0, .int 0, .int 0, .ref m_truths, .ref m_imaged, .ref m_namesKept, .ref m_areKept]))] (fun (r : Int32) (u : Unit) => r = (-1)) (fun u : Unit => []) := by
  refine MI.enter (by decide) (Nat.le_of_ble_eq_true rfl) ?_
  intro p e s m below meth c ls A hsz hAe C hP hD hS hl
  have C : Cx p s m _ meth c cX11_byteAt 2 (some .int) RX11 "byteAt" D cy A := C
  have hx := C.1
  have hb := C.2.1
  have hl : lv_has ls 2 [(0, .ref m0), (1, .int n)] := hl
  refine lv_aload_n hx hb dX11_byteAt_0 rfl (lv_at hl 0 rfl) ?_
  refine lv_iconst (v := 0) hx hb dX11_byteAt_1 (by decide) ?_
  refine q_put (v := .int 0) (w' := [(m0, .inr (11, [.int 0, .ref m_tape, .int 0, .int 0, .int 0, .int 0, .ref m_s, .ref m_h, .ref m_read, .ref m_names, .ref m_reserved, .int 0, .int 0, .int 0, .int 0, .int 0, .int 0, .long 0, .int 0, .int 0, .int 0, .int 0, .int 0, .int 0, .int 0, .ref m_undone, .ref m_before, .int 0, .ref m_far, .ref m_wayRow, .int (-1), .ref m_keptRow, .ref m_askedRow, .ref m_rares, .ref m_trial, .int (-1), .int (-1), .ref m_hangs, .ref m_paths, .int 0, .int 0, .int 0, .int 0, .ref m_text, .int 0, .int 0, .ref m_toldAt, .int 0, .ref m_stack, .int 0, .int 0, .int 0, .int 0, .int 0, .ref m_truths, .ref m_imaged, .ref m_namesKept, .ref m_areKept]))]) (ty := .int) C hP hD hS 0 0 rfl rfl inX11 tyX11 tyX11_ok nmX11 (by decide) kF_RX11_1 rfl rfl rfl rfl rfl (Nat.le_of_ble_eq_true rfl) rfl dX11_byteAt_2 (fun H locs hP hD hS => ?_)
  refine lv_iload_n hx hb dX11_byteAt_5 rfl (lv_at hl 1 rfl) ?_
  refine lv_iconst (v := 0) hx hb dX11_byteAt_6 (by decide) ?_
  refine lv_aload_n hx hb dX11_byteAt_7 rfl (lv_at hl 0 rfl) ?_
  refine q_get (v := .int 0) C hP 0 44 rfl rfl inX11 (by decide) kF_RX11_434 rfl rfl dX11_byteAt_8 ?_
  refine lv_iconst (v := 1) hx hb dX11_byteAt_11 (by decide) ?_
  refine lv_isub hx hb dX11_byteAt_12 ?_
  refine q_val (v := (-1)) (by decide) ?_
  refine q_ai (wr := [(m0, .inr (11, [.int 0, .ref m_tape, .int 0, .int 0, .int 0, .int 0, .ref m_s, .ref m_h, .ref m_read, .ref m_names, .ref m_reserved, .int 0, .int 0, .int 0, .int 0, .int 0, .int 0, .long 0, .int 0, .int 0, .int 0, .int 0, .int 0, .int 0, .int 0, .ref m_undone, .ref m_before, .int 0, .ref m_far, .ref m_wayRow, .int (-1), .ref m_keptRow, .ref m_askedRow, .ref m_rares, .ref m_trial, .int (-1), .int (-1), .ref m_hangs, .ref m_paths, .int 0, .int 0, .int 0, .int 0, .ref m_text, .int 0, .int 0, .ref m_toldAt, .int 0, .ref m_stack, .int 0, .int 0, .int 0, .int 0, .int 0, .ref m_truths, .ref m_imaged, .ref m_namesKept, .ref m_areKept]))]) (r_S (As := [.int n, .int 0, .int (-1)]) (rest := []) (wc := []) C (q_subP hP [] rfl) (hD.sub [] (by decide) rfl) (c_isIn l D cy n 0 (-1) _ ) kwS_X11_isIn kM_RX11_206 ⟨Nat.le_of_ble_eq_true rfl, Nat.le_of_ble_eq_true rfl⟩ rfl hl.1 rfl (Nat.le_of_ble_eq_true rfl) dX11_byteAt_13 ⟨Nat.le_of_ble_eq_true rfl, Nat.le_of_ble_eq_true rfl⟩) C.2.2.2.2.2.2.1 hP hD hS [] [0] rfl rfl (by decide) (by decide) (fun r_2 u_1 H locs hw_3 hP hD hS => ?_)
  have hP : va_P D vwCl [(m0, .inr (11, [.int 0, .ref m_tape, .int 0, .int 0, .int 0, .int 0, .ref m_s, .ref m_h, .ref m_read, .ref m_names, .ref m_reserved, .int 0, .int 0, .int 0, .int 0, .int 0, .int 0, .long 0, .int 0, .int 0, .int 0, .int 0, .int 0, .int 0, .int 0, .ref m_undone, .ref m_before, .int 0, .ref m_far, .ref m_wayRow, .int (-1), .ref m_keptRow, .ref m_askedRow, .ref m_rares, .ref m_trial, .int (-1), .int (-1), .ref m_hangs, .ref m_paths, .int 0, .int 0, .int 0, .int 0, .ref m_text, .int 0, .int 0, .ref m_toldAt, .int 0, .ref m_stack, .int 0, .int 0, .int 0, .int 0, .int 0, .ref m_truths, .ref m_imaged, .ref m_namesKept, .ref m_areKept]))] H := hP
  have hD : va_D A [(m0, .inr (11, [.int 0, .ref m_tape, .int 0, .int 0, .int 0, .int 0, .ref m_s, .ref m_h, .ref m_read, .ref m_names, .ref m_reserved, .int 0, .int 0, .int 0, .int 0, .int 0, .int 0, .long 0, .int 0, .int 0, .int 0, .int 0, .int 0, .int 0, .int 0, .ref m_undone, .ref m_before, .int 0, .ref m_far, .ref m_wayRow, .int (-1), .ref m_keptRow, .ref m_askedRow, .ref m_rares, .ref m_trial, .int (-1), .int (-1), .ref m_hangs, .ref m_paths, .int 0, .int 0, .int 0, .int 0, .ref m_text, .int 0, .int 0, .ref m_toldAt, .int 0, .ref m_stack, .int 0, .int 0, .int 0, .int 0, .int 0, .ref m_truths, .ref m_imaged, .ref m_namesKept, .ref m_areKept]))] := hD
  obtain rfl : r_2 = 0 := rJn_no (lo := 0) (hi := -1) (rJn_lit (a := 0) (b := -1) hw_3 (by decide) (by decide)) (by decide)
  refine lv_if_eq (tgt := 28) hx hb dX11_byteAt_16 (by decide) (fun _ => ?_) (fun c_0 => absurd (by decide) c_0)
  refine lv_iconst (v := (-1)) hx hb dX11_byteAt_28 (by decide) ?_
  exact q_iret (rm := (Rm 1 22 0 0)) C hS () rfl rfl (q_subP hP [] rfl) (hD.sub [] (by decide) rfl) (Nat.le_of_ble_eq_true rfl) (Nat.le_of_ble_eq_true rfl) dX11_byteAt_29
set_option maxHeartbeats 4000000 in
set_option maxRecDepth 100000 in
theorem y_wayAt (l : Launch) (D : va_G) (cy : Nat → ClassId) (m0 : Nat) (n : Int32) (m_tape : Nat) (m_s : Nat) (m_h : Nat) (m_read : Nat) (m_names : Nat) (m_reserved : Nat) (m_undone : Nat) (m_before : Nat) (m_far : Nat) (m_wayRow : Nat) (m_keptRow : Nat) (m_askedRow : Nat) (m_rares : Nat) (m_trial : Nat) (m_hangs : Nat) (m_paths : Nat) (m_text : Nat) (m_toldAt : Nat) (m_stack : Nat) (m_truths : Nat) (m_imaged : Nat) (m_namesKept : Nat) (m_areKept : Nat) (sz : Nat)  : MI l yX11_wayAt cX11_wayAt 2 (some .int) (Rm 1 22 0 0) D cy [.ref m0, .int n] sz [(m0, .inr (11, [.int 0, .ref m_tape, .int 0, .int 0, .int 0, .int 0, .ref m_s, .ref m_h, .ref m_read, .ref m_names, .ref m_reserved, .int 0, .int 0, .int 0, .int 0, .int 0, .int 0, .long 0, .int 0, .int 0, .int 0, .int 0, .int 0, .int 0, .int 0, .ref m_undone, .ref m_before, .int 0, .ref m_far, .ref m_wayRow, .int (-1), .ref m_keptRow, .ref m_askedRow, .ref m_rares, .ref m_trial, .int (-1), .int (-1), .ref m_hangs, .ref m_paths, .int 0, .int 0, .int 0, .int 0, .ref m_text, .int 0, .int 0, .ref m_toldAt, .int 0, .ref m_stack, .int 0, .int 0, .int 0, .int 0, .int 0, .ref m_truths, .ref m_imaged, .ref m_namesKept, .ref m_areKept]))] (fun (r : Int32) (u : Unit) => r = (-1)) (fun u : Unit => []) := by
  refine MI.enter (by decide) (Nat.le_of_ble_eq_true rfl) ?_
  intro p e s m below meth c ls A hsz hAe C hP hD hS hl
  have C : Cx p s m _ meth c cX11_wayAt 2 (some .int) RX11 "wayAt" D cy A := C
  have hx := C.1
  have hb := C.2.1
  have hl : lv_has ls 2 [(0, .ref m0), (1, .int n)] := hl
  refine lv_aload_n hx hb dX11_wayAt_0 rfl (lv_at hl 0 rfl) ?_
  refine lv_iconst (v := 0) hx hb dX11_wayAt_1 (by decide) ?_
  refine q_put (v := .int 0) (w' := [(m0, .inr (11, [.int 0, .ref m_tape, .int 0, .int 0, .int 0, .int 0, .ref m_s, .ref m_h, .ref m_read, .ref m_names, .ref m_reserved, .int 0, .int 0, .int 0, .int 0, .int 0, .int 0, .long 0, .int 0, .int 0, .int 0, .int 0, .int 0, .int 0, .int 0, .ref m_undone, .ref m_before, .int 0, .ref m_far, .ref m_wayRow, .int (-1), .ref m_keptRow, .ref m_askedRow, .ref m_rares, .ref m_trial, .int (-1), .int (-1), .ref m_hangs, .ref m_paths, .int 0, .int 0, .int 0, .int 0, .ref m_text, .int 0, .int 0, .ref m_toldAt, .int 0, .ref m_stack, .int 0, .int 0, .int 0, .int 0, .int 0, .ref m_truths, .ref m_imaged, .ref m_namesKept, .ref m_areKept]))]) (ty := .int) C hP hD hS 0 0 rfl rfl inX11 tyX11 tyX11_ok nmX11 (by decide) kF_RX11_1 rfl rfl rfl rfl rfl (Nat.le_of_ble_eq_true rfl) rfl dX11_wayAt_2 (fun H locs hP hD hS => ?_)
  refine lv_iload_n hx hb dX11_wayAt_5 rfl (lv_at hl 1 rfl) ?_
  refine lv_iconst (v := 0) hx hb dX11_wayAt_6 (by decide) ?_
  refine lv_aload_n hx hb dX11_wayAt_7 rfl (lv_at hl 0 rfl) ?_
  refine q_get (v := .int (-1)) C hP 0 30 rfl rfl inX11 (by decide) kF_RX11_62 rfl rfl dX11_wayAt_8 ?_
  refine lv_iconst (v := 1) hx hb dX11_wayAt_11 (by decide) ?_
  refine lv_isub hx hb dX11_wayAt_12 ?_
  refine q_val (v := (-2)) (by decide) ?_
  refine q_ai (wr := [(m0, .inr (11, [.int 0, .ref m_tape, .int 0, .int 0, .int 0, .int 0, .ref m_s, .ref m_h, .ref m_read, .ref m_names, .ref m_reserved, .int 0, .int 0, .int 0, .int 0, .int 0, .int 0, .long 0, .int 0, .int 0, .int 0, .int 0, .int 0, .int 0, .int 0, .ref m_undone, .ref m_before, .int 0, .ref m_far, .ref m_wayRow, .int (-1), .ref m_keptRow, .ref m_askedRow, .ref m_rares, .ref m_trial, .int (-1), .int (-1), .ref m_hangs, .ref m_paths, .int 0, .int 0, .int 0, .int 0, .ref m_text, .int 0, .int 0, .ref m_toldAt, .int 0, .ref m_stack, .int 0, .int 0, .int 0, .int 0, .int 0, .ref m_truths, .ref m_imaged, .ref m_namesKept, .ref m_areKept]))]) (r_S (As := [.int n, .int 0, .int (-2)]) (rest := []) (wc := []) C (q_subP hP [] rfl) (hD.sub [] (by decide) rfl) (c_isIn l D cy n 0 (-2) _ ) kwS_X11_isIn kM_RX11_206 ⟨Nat.le_of_ble_eq_true rfl, Nat.le_of_ble_eq_true rfl⟩ rfl hl.1 rfl (Nat.le_of_ble_eq_true rfl) dX11_wayAt_13 ⟨Nat.le_of_ble_eq_true rfl, Nat.le_of_ble_eq_true rfl⟩) C.2.2.2.2.2.2.1 hP hD hS [] [0] rfl rfl (by decide) (by decide) (fun r_2 u_1 H locs hw_3 hP hD hS => ?_)
  have hP : va_P D vwCl [(m0, .inr (11, [.int 0, .ref m_tape, .int 0, .int 0, .int 0, .int 0, .ref m_s, .ref m_h, .ref m_read, .ref m_names, .ref m_reserved, .int 0, .int 0, .int 0, .int 0, .int 0, .int 0, .long 0, .int 0, .int 0, .int 0, .int 0, .int 0, .int 0, .int 0, .ref m_undone, .ref m_before, .int 0, .ref m_far, .ref m_wayRow, .int (-1), .ref m_keptRow, .ref m_askedRow, .ref m_rares, .ref m_trial, .int (-1), .int (-1), .ref m_hangs, .ref m_paths, .int 0, .int 0, .int 0, .int 0, .ref m_text, .int 0, .int 0, .ref m_toldAt, .int 0, .ref m_stack, .int 0, .int 0, .int 0, .int 0, .int 0, .ref m_truths, .ref m_imaged, .ref m_namesKept, .ref m_areKept]))] H := hP
  have hD : va_D A [(m0, .inr (11, [.int 0, .ref m_tape, .int 0, .int 0, .int 0, .int 0, .ref m_s, .ref m_h, .ref m_read, .ref m_names, .ref m_reserved, .int 0, .int 0, .int 0, .int 0, .int 0, .int 0, .long 0, .int 0, .int 0, .int 0, .int 0, .int 0, .int 0, .int 0, .ref m_undone, .ref m_before, .int 0, .ref m_far, .ref m_wayRow, .int (-1), .ref m_keptRow, .ref m_askedRow, .ref m_rares, .ref m_trial, .int (-1), .int (-1), .ref m_hangs, .ref m_paths, .int 0, .int 0, .int 0, .int 0, .ref m_text, .int 0, .int 0, .ref m_toldAt, .int 0, .ref m_stack, .int 0, .int 0, .int 0, .int 0, .int 0, .ref m_truths, .ref m_imaged, .ref m_namesKept, .ref m_areKept]))] := hD
  obtain rfl : r_2 = 0 := rJn_no (lo := 0) (hi := -2) (rJn_lit (a := 0) (b := -2) hw_3 (by decide) (by decide)) (by decide)
  refine lv_if_eq (tgt := 28) hx hb dX11_wayAt_16 (by decide) (fun _ => ?_) (fun c_0 => absurd (by decide) c_0)
  refine lv_iconst (v := (-1)) hx hb dX11_wayAt_28 (by decide) ?_
  exact q_iret (rm := (Rm 1 22 0 0)) C hS () rfl rfl (q_subP hP [] rfl) (hD.sub [] (by decide) rfl) (Nat.le_of_ble_eq_true rfl) (Nat.le_of_ble_eq_true rfl) dX11_wayAt_29
set_option maxHeartbeats 4000000 in
set_option maxRecDepth 100000 in
theorem y_keepAt (l : Launch) (D : va_G) (cy : Nat → ClassId) (m0 : Nat) (n : Int32) (m_tape : Nat) (m_s : Nat) (m_h : Nat) (m_read : Nat) (m_names : Nat) (m_reserved : Nat) (m_undone : Nat) (m_before : Nat) (m_far : Nat) (m_wayRow : Nat) (m_keptRow : Nat) (m_askedRow : Nat) (m_rares : Nat) (m_trial : Nat) (m_hangs : Nat) (m_paths : Nat) (m_text : Nat) (m_toldAt : Nat) (m_stack : Nat) (m_truths : Nat) (m_imaged : Nat) (m_namesKept : Nat) (m_areKept : Nat) (sz : Nat)  : MI l yX11_keepAt cX11_keepAt 2 (some .int) (Rm 1 22 0 0) D cy [.ref m0, .int n] sz [(m0, .inr (11, [.int 0, .ref m_tape, .int 0, .int 0, .int 0, .int 0, .ref m_s, .ref m_h, .ref m_read, .ref m_names, .ref m_reserved, .int 0, .int 0, .int 0, .int 0, .int 0, .int 0, .long 0, .int 0, .int 0, .int 0, .int 0, .int 0, .int 0, .int 0, .ref m_undone, .ref m_before, .int 0, .ref m_far, .ref m_wayRow, .int (-1), .ref m_keptRow, .ref m_askedRow, .ref m_rares, .ref m_trial, .int (-1), .int (-1), .ref m_hangs, .ref m_paths, .int 0, .int 0, .int 0, .int 0, .ref m_text, .int 0, .int 0, .ref m_toldAt, .int 0, .ref m_stack, .int 0, .int 0, .int 0, .int 0, .int 0, .ref m_truths, .ref m_imaged, .ref m_namesKept, .ref m_areKept]))] (fun (r : Int32) (u : Unit) => r = (-1)) (fun u : Unit => []) := by
  refine MI.enter (by decide) (Nat.le_of_ble_eq_true rfl) ?_
  intro p e s m below meth c ls A hsz hAe C hP hD hS hl
  have C : Cx p s m _ meth c cX11_keepAt 2 (some .int) RX11 "keepAt" D cy A := C
  have hx := C.1
  have hb := C.2.1
  have hl : lv_has ls 2 [(0, .ref m0), (1, .int n)] := hl
  refine lv_aload_n hx hb dX11_keepAt_0 rfl (lv_at hl 0 rfl) ?_
  refine lv_iconst (v := 0) hx hb dX11_keepAt_1 (by decide) ?_
  refine q_put (v := .int 0) (w' := [(m0, .inr (11, [.int 0, .ref m_tape, .int 0, .int 0, .int 0, .int 0, .ref m_s, .ref m_h, .ref m_read, .ref m_names, .ref m_reserved, .int 0, .int 0, .int 0, .int 0, .int 0, .int 0, .long 0, .int 0, .int 0, .int 0, .int 0, .int 0, .int 0, .int 0, .ref m_undone, .ref m_before, .int 0, .ref m_far, .ref m_wayRow, .int (-1), .ref m_keptRow, .ref m_askedRow, .ref m_rares, .ref m_trial, .int (-1), .int (-1), .ref m_hangs, .ref m_paths, .int 0, .int 0, .int 0, .int 0, .ref m_text, .int 0, .int 0, .ref m_toldAt, .int 0, .ref m_stack, .int 0, .int 0, .int 0, .int 0, .int 0, .ref m_truths, .ref m_imaged, .ref m_namesKept, .ref m_areKept]))]) (ty := .int) C hP hD hS 0 0 rfl rfl inX11 tyX11 tyX11_ok nmX11 (by decide) kF_RX11_1 rfl rfl rfl rfl rfl (Nat.le_of_ble_eq_true rfl) rfl dX11_keepAt_2 (fun H locs hP hD hS => ?_)
  refine lv_iload_n hx hb dX11_keepAt_5 rfl (lv_at hl 1 rfl) ?_
  refine lv_iconst (v := 0) hx hb dX11_keepAt_6 (by decide) ?_
  refine lv_aload_n hx hb dX11_keepAt_7 rfl (lv_at hl 0 rfl) ?_
  refine q_get (v := .int (-1)) C hP 0 35 rfl rfl inX11 (by decide) kF_RX11_77 rfl rfl dX11_keepAt_8 ?_
  refine lv_iconst (v := 1) hx hb dX11_keepAt_11 (by decide) ?_
  refine lv_isub hx hb dX11_keepAt_12 ?_
  refine q_val (v := (-2)) (by decide) ?_
  refine q_ai (wr := [(m0, .inr (11, [.int 0, .ref m_tape, .int 0, .int 0, .int 0, .int 0, .ref m_s, .ref m_h, .ref m_read, .ref m_names, .ref m_reserved, .int 0, .int 0, .int 0, .int 0, .int 0, .int 0, .long 0, .int 0, .int 0, .int 0, .int 0, .int 0, .int 0, .int 0, .ref m_undone, .ref m_before, .int 0, .ref m_far, .ref m_wayRow, .int (-1), .ref m_keptRow, .ref m_askedRow, .ref m_rares, .ref m_trial, .int (-1), .int (-1), .ref m_hangs, .ref m_paths, .int 0, .int 0, .int 0, .int 0, .ref m_text, .int 0, .int 0, .ref m_toldAt, .int 0, .ref m_stack, .int 0, .int 0, .int 0, .int 0, .int 0, .ref m_truths, .ref m_imaged, .ref m_namesKept, .ref m_areKept]))]) (r_S (As := [.int n, .int 0, .int (-2)]) (rest := []) (wc := []) C (q_subP hP [] rfl) (hD.sub [] (by decide) rfl) (c_isIn l D cy n 0 (-2) _ ) kwS_X11_isIn kM_RX11_206 ⟨Nat.le_of_ble_eq_true rfl, Nat.le_of_ble_eq_true rfl⟩ rfl hl.1 rfl (Nat.le_of_ble_eq_true rfl) dX11_keepAt_13 ⟨Nat.le_of_ble_eq_true rfl, Nat.le_of_ble_eq_true rfl⟩) C.2.2.2.2.2.2.1 hP hD hS [] [0] rfl rfl (by decide) (by decide) (fun r_2 u_1 H locs hw_3 hP hD hS => ?_)
  have hP : va_P D vwCl [(m0, .inr (11, [.int 0, .ref m_tape, .int 0, .int 0, .int 0, .int 0, .ref m_s, .ref m_h, .ref m_read, .ref m_names, .ref m_reserved, .int 0, .int 0, .int 0, .int 0, .int 0, .int 0, .long 0, .int 0, .int 0, .int 0, .int 0, .int 0, .int 0, .int 0, .ref m_undone, .ref m_before, .int 0, .ref m_far, .ref m_wayRow, .int (-1), .ref m_keptRow, .ref m_askedRow, .ref m_rares, .ref m_trial, .int (-1), .int (-1), .ref m_hangs, .ref m_paths, .int 0, .int 0, .int 0, .int 0, .ref m_text, .int 0, .int 0, .ref m_toldAt, .int 0, .ref m_stack, .int 0, .int 0, .int 0, .int 0, .int 0, .ref m_truths, .ref m_imaged, .ref m_namesKept, .ref m_areKept]))] H := hP
  have hD : va_D A [(m0, .inr (11, [.int 0, .ref m_tape, .int 0, .int 0, .int 0, .int 0, .ref m_s, .ref m_h, .ref m_read, .ref m_names, .ref m_reserved, .int 0, .int 0, .int 0, .int 0, .int 0, .int 0, .long 0, .int 0, .int 0, .int 0, .int 0, .int 0, .int 0, .int 0, .ref m_undone, .ref m_before, .int 0, .ref m_far, .ref m_wayRow, .int (-1), .ref m_keptRow, .ref m_askedRow, .ref m_rares, .ref m_trial, .int (-1), .int (-1), .ref m_hangs, .ref m_paths, .int 0, .int 0, .int 0, .int 0, .ref m_text, .int 0, .int 0, .ref m_toldAt, .int 0, .ref m_stack, .int 0, .int 0, .int 0, .int 0, .int 0, .ref m_truths, .ref m_imaged, .ref m_namesKept, .ref m_areKept]))] := hD
  obtain rfl : r_2 = 0 := rJn_no (lo := 0) (hi := -2) (rJn_lit (a := 0) (b := -2) hw_3 (by decide) (by decide)) (by decide)
  refine lv_if_eq (tgt := 28) hx hb dX11_keepAt_16 (by decide) (fun _ => ?_) (fun c_0 => absurd (by decide) c_0)
  refine lv_iconst (v := (-1)) hx hb dX11_keepAt_28 (by decide) ?_
  exact q_iret (rm := (Rm 1 22 0 0)) C hS () rfl rfl (q_subP hP [] rfl) (hD.sub [] (by decide) rfl) (Nat.le_of_ble_eq_true rfl) (Nat.le_of_ble_eq_true rfl) dX11_keepAt_29
set_option maxHeartbeats 4000000 in
set_option maxRecDepth 100000 in
theorem y_askedAt (l : Launch) (D : va_G) (cy : Nat → ClassId) (m0 : Nat) (n : Int32) (m_tape : Nat) (m_s : Nat) (m_h : Nat) (m_read : Nat) (m_names : Nat) (m_reserved : Nat) (m_undone : Nat) (m_before : Nat) (m_far : Nat) (m_wayRow : Nat) (m_keptRow : Nat) (m_askedRow : Nat) (m_rares : Nat) (m_trial : Nat) (m_hangs : Nat) (m_paths : Nat) (m_text : Nat) (m_toldAt : Nat) (m_stack : Nat) (m_truths : Nat) (m_imaged : Nat) (m_namesKept : Nat) (m_areKept : Nat) (sz : Nat)  : MI l yX11_askedAt cX11_askedAt 2 (some .int) (Rm 1 22 0 0) D cy [.ref m0, .int n] sz [(m0, .inr (11, [.int 0, .ref m_tape, .int 0, .int 0, .int 0, .int 0, .ref m_s, .ref m_h, .ref m_read, .ref m_names, .ref m_reserved, .int 0, .int 0, .int 0, .int 0, .int 0, .int 0, .long 0, .int 0, .int 0, .int 0, .int 0, .int 0, .int 0, .int 0, .ref m_undone, .ref m_before, .int 0, .ref m_far, .ref m_wayRow, .int (-1), .ref m_keptRow, .ref m_askedRow, .ref m_rares, .ref m_trial, .int (-1), .int (-1), .ref m_hangs, .ref m_paths, .int 0, .int 0, .int 0, .int 0, .ref m_text, .int 0, .int 0, .ref m_toldAt, .int 0, .ref m_stack, .int 0, .int 0, .int 0, .int 0, .int 0, .ref m_truths, .ref m_imaged, .ref m_namesKept, .ref m_areKept]))] (fun (r : Int32) (u : Unit) => r = (-1)) (fun u : Unit => []) := by
  refine MI.enter (by decide) (Nat.le_of_ble_eq_true rfl) ?_
  intro p e s m below meth c ls A hsz hAe C hP hD hS hl
  have C : Cx p s m _ meth c cX11_askedAt 2 (some .int) RX11 "askedAt" D cy A := C
  have hx := C.1
  have hb := C.2.1
  have hl : lv_has ls 2 [(0, .ref m0), (1, .int n)] := hl
  refine lv_aload_n hx hb dX11_askedAt_0 rfl (lv_at hl 0 rfl) ?_
  refine lv_iconst (v := 0) hx hb dX11_askedAt_1 (by decide) ?_
  refine q_put (v := .int 0) (w' := [(m0, .inr (11, [.int 0, .ref m_tape, .int 0, .int 0, .int 0, .int 0, .ref m_s, .ref m_h, .ref m_read, .ref m_names, .ref m_reserved, .int 0, .int 0, .int 0, .int 0, .int 0, .int 0, .long 0, .int 0, .int 0, .int 0, .int 0, .int 0, .int 0, .int 0, .ref m_undone, .ref m_before, .int 0, .ref m_far, .ref m_wayRow, .int (-1), .ref m_keptRow, .ref m_askedRow, .ref m_rares, .ref m_trial, .int (-1), .int (-1), .ref m_hangs, .ref m_paths, .int 0, .int 0, .int 0, .int 0, .ref m_text, .int 0, .int 0, .ref m_toldAt, .int 0, .ref m_stack, .int 0, .int 0, .int 0, .int 0, .int 0, .ref m_truths, .ref m_imaged, .ref m_namesKept, .ref m_areKept]))]) (ty := .int) C hP hD hS 0 0 rfl rfl inX11 tyX11 tyX11_ok nmX11 (by decide) kF_RX11_1 rfl rfl rfl rfl rfl (Nat.le_of_ble_eq_true rfl) rfl dX11_askedAt_2 (fun H locs hP hD hS => ?_)
  refine lv_iload_n hx hb dX11_askedAt_5 rfl (lv_at hl 1 rfl) ?_
  refine lv_iconst (v := 0) hx hb dX11_askedAt_6 (by decide) ?_
  refine lv_aload_n hx hb dX11_askedAt_7 rfl (lv_at hl 0 rfl) ?_
  refine q_get (v := .int (-1)) C hP 0 36 rfl rfl inX11 (by decide) kF_RX11_80 rfl rfl dX11_askedAt_8 ?_
  refine lv_iconst (v := 1) hx hb dX11_askedAt_11 (by decide) ?_
  refine lv_isub hx hb dX11_askedAt_12 ?_
  refine q_val (v := (-2)) (by decide) ?_
  refine q_ai (wr := [(m0, .inr (11, [.int 0, .ref m_tape, .int 0, .int 0, .int 0, .int 0, .ref m_s, .ref m_h, .ref m_read, .ref m_names, .ref m_reserved, .int 0, .int 0, .int 0, .int 0, .int 0, .int 0, .long 0, .int 0, .int 0, .int 0, .int 0, .int 0, .int 0, .int 0, .ref m_undone, .ref m_before, .int 0, .ref m_far, .ref m_wayRow, .int (-1), .ref m_keptRow, .ref m_askedRow, .ref m_rares, .ref m_trial, .int (-1), .int (-1), .ref m_hangs, .ref m_paths, .int 0, .int 0, .int 0, .int 0, .ref m_text, .int 0, .int 0, .ref m_toldAt, .int 0, .ref m_stack, .int 0, .int 0, .int 0, .int 0, .int 0, .ref m_truths, .ref m_imaged, .ref m_namesKept, .ref m_areKept]))]) (r_S (As := [.int n, .int 0, .int (-2)]) (rest := []) (wc := []) C (q_subP hP [] rfl) (hD.sub [] (by decide) rfl) (c_isIn l D cy n 0 (-2) _ ) kwS_X11_isIn kM_RX11_206 ⟨Nat.le_of_ble_eq_true rfl, Nat.le_of_ble_eq_true rfl⟩ rfl hl.1 rfl (Nat.le_of_ble_eq_true rfl) dX11_askedAt_13 ⟨Nat.le_of_ble_eq_true rfl, Nat.le_of_ble_eq_true rfl⟩) C.2.2.2.2.2.2.1 hP hD hS [] [0] rfl rfl (by decide) (by decide) (fun r_2 u_1 H locs hw_3 hP hD hS => ?_)
  have hP : va_P D vwCl [(m0, .inr (11, [.int 0, .ref m_tape, .int 0, .int 0, .int 0, .int 0, .ref m_s, .ref m_h, .ref m_read, .ref m_names, .ref m_reserved, .int 0, .int 0, .int 0, .int 0, .int 0, .int 0, .long 0, .int 0, .int 0, .int 0, .int 0, .int 0, .int 0, .int 0, .ref m_undone, .ref m_before, .int 0, .ref m_far, .ref m_wayRow, .int (-1), .ref m_keptRow, .ref m_askedRow, .ref m_rares, .ref m_trial, .int (-1), .int (-1), .ref m_hangs, .ref m_paths, .int 0, .int 0, .int 0, .int 0, .ref m_text, .int 0, .int 0, .ref m_toldAt, .int 0, .ref m_stack, .int 0, .int 0, .int 0, .int 0, .int 0, .ref m_truths, .ref m_imaged, .ref m_namesKept, .ref m_areKept]))] H := hP
  have hD : va_D A [(m0, .inr (11, [.int 0, .ref m_tape, .int 0, .int 0, .int 0, .int 0, .ref m_s, .ref m_h, .ref m_read, .ref m_names, .ref m_reserved, .int 0, .int 0, .int 0, .int 0, .int 0, .int 0, .long 0, .int 0, .int 0, .int 0, .int 0, .int 0, .int 0, .int 0, .ref m_undone, .ref m_before, .int 0, .ref m_far, .ref m_wayRow, .int (-1), .ref m_keptRow, .ref m_askedRow, .ref m_rares, .ref m_trial, .int (-1), .int (-1), .ref m_hangs, .ref m_paths, .int 0, .int 0, .int 0, .int 0, .ref m_text, .int 0, .int 0, .ref m_toldAt, .int 0, .ref m_stack, .int 0, .int 0, .int 0, .int 0, .int 0, .ref m_truths, .ref m_imaged, .ref m_namesKept, .ref m_areKept]))] := hD
  obtain rfl : r_2 = 0 := rJn_no (lo := 0) (hi := -2) (rJn_lit (a := 0) (b := -2) hw_3 (by decide) (by decide)) (by decide)
  refine lv_if_eq (tgt := 28) hx hb dX11_askedAt_16 (by decide) (fun _ => ?_) (fun c_0 => absurd (by decide) c_0)
  refine lv_iconst (v := (-1)) hx hb dX11_askedAt_28 (by decide) ?_
  exact q_iret (rm := (Rm 1 22 0 0)) C hS () rfl rfl (q_subP hP [] rfl) (hD.sub [] (by decide) rfl) (Nat.le_of_ble_eq_true rfl) (Nat.le_of_ble_eq_true rfl) dX11_askedAt_29
set_option maxHeartbeats 4000000 in
set_option maxRecDepth 100000 in
theorem y_broom (l : Launch) (D : va_G) (cy : Nat → ClassId) (m0 : Nat) (n : Int32) (m_tape : Nat) (m_s : Nat) (m_h : Nat) (m_read : Nat) (m_names : Nat) (m_reserved : Nat) (m_undone : Nat) (m_before : Nat) (m_far : Nat) (m_wayRow : Nat) (m_keptRow : Nat) (m_askedRow : Nat) (m_rares : Nat) (m_trial : Nat) (m_hangs : Nat) (m_paths : Nat) (m_text : Nat) (m_toldAt : Nat) (m_stack : Nat) (m_truths : Nat) (m_imaged : Nat) (m_namesKept : Nat) (m_areKept : Nat) (sz : Nat)  : MI l yX11_broom cX11_broom 2 (some .int) (Rm 1 24 0 0) D cy [.ref m0, .int n] sz [(m0, .inr (11, [.int 0, .ref m_tape, .int 0, .int 0, .int 0, .int 0, .ref m_s, .ref m_h, .ref m_read, .ref m_names, .ref m_reserved, .int 0, .int 0, .int 0, .int 0, .int 0, .int 0, .long 0, .int 0, .int 0, .int 0, .int 0, .int 0, .int 0, .int 0, .ref m_undone, .ref m_before, .int 0, .ref m_far, .ref m_wayRow, .int (-1), .ref m_keptRow, .ref m_askedRow, .ref m_rares, .ref m_trial, .int (-1), .int (-1), .ref m_hangs, .ref m_paths, .int 0, .int 0, .int 0, .int 0, .ref m_text, .int 0, .int 0, .ref m_toldAt, .int 0, .ref m_stack, .int 0, .int 0, .int 0, .int 0, .int 0, .ref m_truths, .ref m_imaged, .ref m_namesKept, .ref m_areKept])), (m_s, .inl (cy 1, 383, .inl (sD 0)))] (fun (r : Int32) (u : Unit) => r = (rBroom n)) (fun u : Unit => []) := by
  refine MI.enter (by decide) (Nat.le_of_ble_eq_true rfl) ?_
  intro p e s m below meth c ls A hsz hAe C hP hD hS hl
  have C : Cx p s m _ meth c cX11_broom 2 (some .int) RX11 "broom" D cy A := C
  have hx := C.1
  have hb := C.2.1
  have hl : lv_has ls 2 [(0, .ref m0), (1, .int n)] := hl
  refine lv_aload_n hx hb dX11_broom_0 rfl (lv_at hl 0 rfl) ?_
  refine lv_iconst (v := 0) hx hb dX11_broom_1 (by decide) ?_
  refine q_put (v := .int 0) (w' := [(m0, .inr (11, [.int 0, .ref m_tape, .int 0, .int 0, .int 0, .int 0, .ref m_s, .ref m_h, .ref m_read, .ref m_names, .ref m_reserved, .int 0, .int 0, .int 0, .int 0, .int 0, .int 0, .long 0, .int 0, .int 0, .int 0, .int 0, .int 0, .int 0, .int 0, .ref m_undone, .ref m_before, .int 0, .ref m_far, .ref m_wayRow, .int (-1), .ref m_keptRow, .ref m_askedRow, .ref m_rares, .ref m_trial, .int (-1), .int (-1), .ref m_hangs, .ref m_paths, .int 0, .int 0, .int 0, .int 0, .ref m_text, .int 0, .int 0, .ref m_toldAt, .int 0, .ref m_stack, .int 0, .int 0, .int 0, .int 0, .int 0, .ref m_truths, .ref m_imaged, .ref m_namesKept, .ref m_areKept])), (m_s, .inl (cy 1, 383, .inl (sD 0)))]) (ty := .int) C hP hD hS 0 0 rfl rfl inX11 tyX11 tyX11_ok nmX11 (by decide) kF_RX11_1 rfl rfl rfl rfl rfl (Nat.le_of_ble_eq_true rfl) rfl dX11_broom_2 (fun H locs hP hD hS => ?_)
  refine lv_iload_n hx hb dX11_broom_5 rfl (lv_at hl 1 rfl) ?_
  refine lv_iconst (v := 0) hx hb dX11_broom_6 (by decide) ?_
  refine lv_aload_n hx hb dX11_broom_7 rfl (lv_at hl 0 rfl) ?_
  refine q_get (v := .ref m_s) C hP 0 6 rfl rfl inX11 (by decide) kF_RX11_33 rfl rfl dX11_broom_8 ?_
  refine lv_iconst (v := 2) hx hb dX11_broom_11 (by decide) ?_
  refine q_iald (v := 4) C hP 1 rfl (vin (by decide +kernel)) (by decide +kernel) dX11_broom_12 ?_
  refine lv_iconst (v := 1) hx hb dX11_broom_13 (by decide) ?_
  refine lv_isub hx hb dX11_broom_14 ?_
  refine q_val (v := 3) (by decide) ?_
  refine q_ai (wr := [(m0, .inr (11, [.int 0, .ref m_tape, .int 0, .int 0, .int 0, .int 0, .ref m_s, .ref m_h, .ref m_read, .ref m_names, .ref m_reserved, .int 0, .int 0, .int 0, .int 0, .int 0, .int 0, .long 0, .int 0, .int 0, .int 0, .int 0, .int 0, .int 0, .int 0, .ref m_undone, .ref m_before, .int 0, .ref m_far, .ref m_wayRow, .int (-1), .ref m_keptRow, .ref m_askedRow, .ref m_rares, .ref m_trial, .int (-1), .int (-1), .ref m_hangs, .ref m_paths, .int 0, .int 0, .int 0, .int 0, .ref m_text, .int 0, .int 0, .ref m_toldAt, .int 0, .ref m_stack, .int 0, .int 0, .int 0, .int 0, .int 0, .ref m_truths, .ref m_imaged, .ref m_namesKept, .ref m_areKept])), (m_s, .inl (cy 1, 383, .inl (sD 0)))]) (r_S (As := [.int n, .int 0, .int 3]) (rest := []) (wc := []) C (q_subP hP [] rfl) (hD.sub [] (by decide) rfl) (c_isIn l D cy n 0 3 _ ) kwS_X11_isIn kM_RX11_206 ⟨Nat.le_of_ble_eq_true rfl, Nat.le_of_ble_eq_true rfl⟩ rfl hl.1 rfl (Nat.le_of_ble_eq_true rfl) dX11_broom_15 ⟨Nat.le_of_ble_eq_true rfl, Nat.le_of_ble_eq_true rfl⟩) C.2.2.2.2.2.2.1 hP hD hS [] [0, 1] rfl rfl (by decide) (by decide) (fun r_2 u_1 H locs hw_3 hP hD hS => ?_)
  have hP : va_P D vwCl [(m0, .inr (11, [.int 0, .ref m_tape, .int 0, .int 0, .int 0, .int 0, .ref m_s, .ref m_h, .ref m_read, .ref m_names, .ref m_reserved, .int 0, .int 0, .int 0, .int 0, .int 0, .int 0, .long 0, .int 0, .int 0, .int 0, .int 0, .int 0, .int 0, .int 0, .ref m_undone, .ref m_before, .int 0, .ref m_far, .ref m_wayRow, .int (-1), .ref m_keptRow, .ref m_askedRow, .ref m_rares, .ref m_trial, .int (-1), .int (-1), .ref m_hangs, .ref m_paths, .int 0, .int 0, .int 0, .int 0, .ref m_text, .int 0, .int 0, .ref m_toldAt, .int 0, .ref m_stack, .int 0, .int 0, .int 0, .int 0, .int 0, .ref m_truths, .ref m_imaged, .ref m_namesKept, .ref m_areKept])), (m_s, .inl (cy 1, 383, .inl (sD 0)))] H := hP
  have hD : va_D A [(m0, .inr (11, [.int 0, .ref m_tape, .int 0, .int 0, .int 0, .int 0, .ref m_s, .ref m_h, .ref m_read, .ref m_names, .ref m_reserved, .int 0, .int 0, .int 0, .int 0, .int 0, .int 0, .long 0, .int 0, .int 0, .int 0, .int 0, .int 0, .int 0, .int 0, .ref m_undone, .ref m_before, .int 0, .ref m_far, .ref m_wayRow, .int (-1), .ref m_keptRow, .ref m_askedRow, .ref m_rares, .ref m_trial, .int (-1), .int (-1), .ref m_hangs, .ref m_paths, .int 0, .int 0, .int 0, .int 0, .ref m_text, .int 0, .int 0, .ref m_toldAt, .int 0, .ref m_stack, .int 0, .int 0, .int 0, .int 0, .int 0, .ref m_truths, .ref m_imaged, .ref m_namesKept, .ref m_areKept])), (m_s, .inl (cy 1, 383, .inl (sD 0)))] := hD
  rcases rJn_c (lo := 0) (hi := 3) (rJn_lit (a := 0) (b := 3) hw_3 (by decide) (by decide)) with ⟨rfl, i_4a, i_4b⟩ | ⟨rfl, i_4n⟩
  · refine lv_if_ne (tgt := 23) hx hb dX11_broom_18 (by decide) (fun _ => ?_) (fun c_0 => absurd c_0 (by decide))
    refine lv_aload_n hx hb dX11_broom_23 rfl (lv_at hl 0 rfl) ?_
    refine lv_iload_n hx hb dX11_broom_24 rfl (lv_at hl 1 rfl) ?_
    refine q_ai (wr := []) (r_V (q0 := 0) (As := [.int n]) (rest := []) (wc := [(m0, .inr (11, [.int 0, .ref m_tape, .int 0, .int 0, .int 0, .int 0, .ref m_s, .ref m_h, .ref m_read, .ref m_names, .ref m_reserved, .int 0, .int 0, .int 0, .int 0, .int 0, .int 0, .long 0, .int 0, .int 0, .int 0, .int 0, .int 0, .int 0, .int 0, .ref m_undone, .ref m_before, .int 0, .ref m_far, .ref m_wayRow, .int (-1), .ref m_keptRow, .ref m_askedRow, .ref m_rares, .ref m_trial, .int (-1), .int (-1), .ref m_hangs, .ref m_paths, .int 0, .int 0, .int 0, .int 0, .ref m_text, .int 0, .int 0, .ref m_toldAt, .int 0, .ref m_stack, .int 0, .int 0, .int 0, .int 0, .int 0, .ref m_truths, .ref m_imaged, .ref m_namesKept, .ref m_areKept])), (m_s, .inl (cy 1, 383, .inl (sD 0)))]) C (q_subP hP [0, 1] rfl) (hD.sub [0, 1] (by decide) rfl) (m_isDusty l D cy m0 n m_tape m_s m_h m_read m_names m_reserved m_undone m_before m_far m_wayRow m_keptRow m_askedRow m_rares m_trial m_hangs m_paths m_text m_toldAt m_stack m_truths m_imaged m_namesKept m_areKept _ ) kwV_X11_isDusty kM_RX11_353 rfl rfl ⟨Nat.le_of_ble_eq_true rfl, Nat.le_of_ble_eq_true rfl⟩ rfl hl.1 rfl (Nat.le_of_ble_eq_true rfl) dX11_broom_25 ⟨Nat.le_of_ble_eq_true rfl, Nat.le_of_ble_eq_true rfl⟩) C.2.2.2.2.2.2.1 hP hD hS [0, 1] [] rfl rfl (by decide) (by decide) (fun r_6 u_5 H locs hw_7 hP hD hS => ?_)
    have hP : va_P D vwCl [(m0, .inr (11, [.int 0, .ref m_tape, .int 0, .int 0, .int 0, .int 0, .ref m_s, .ref m_h, .ref m_read, .ref m_names, .ref m_reserved, .int 0, .int 0, .int 0, .int 0, .int 0, .int 0, .long 0, .int 0, .int 0, .int 0, .int 0, .int 0, .int 0, .int 0, .ref m_undone, .ref m_before, .int 0, .ref m_far, .ref m_wayRow, .int (-1), .ref m_keptRow, .ref m_askedRow, .ref m_rares, .ref m_trial, .int (-1), .int (-1), .ref m_hangs, .ref m_paths, .int 0, .int 0, .int 0, .int 0, .ref m_text, .int 0, .int 0, .ref m_toldAt, .int 0, .ref m_stack, .int 0, .int 0, .int 0, .int 0, .int 0, .ref m_truths, .ref m_imaged, .ref m_namesKept, .ref m_areKept])), (m_s, .inl (cy 1, 383, .inl (sD 0)))] H := hP
    have hD : va_D A [(m0, .inr (11, [.int 0, .ref m_tape, .int 0, .int 0, .int 0, .int 0, .ref m_s, .ref m_h, .ref m_read, .ref m_names, .ref m_reserved, .int 0, .int 0, .int 0, .int 0, .int 0, .int 0, .long 0, .int 0, .int 0, .int 0, .int 0, .int 0, .int 0, .int 0, .ref m_undone, .ref m_before, .int 0, .ref m_far, .ref m_wayRow, .int (-1), .ref m_keptRow, .ref m_askedRow, .ref m_rares, .ref m_trial, .int (-1), .int (-1), .ref m_hangs, .ref m_paths, .int 0, .int 0, .int 0, .int 0, .ref m_text, .int 0, .int 0, .ref m_toldAt, .int 0, .ref m_stack, .int 0, .int 0, .int 0, .int 0, .int 0, .ref m_truths, .ref m_imaged, .ref m_namesKept, .ref m_areKept])), (m_s, .inl (cy 1, 383, .inl (sD 0)))] := hD
    obtain rfl : r_6 = 0 := hw_7
    refine lv_if_ne (tgt := 33) hx hb dX11_broom_28 (by decide) (fun c_0 => absurd (by decide) c_0) (fun _ => ?_)
    refine lv_iconst (v := 1) hx hb dX11_broom_31 (by decide) ?_
    exact q_iret (rm := (Rm 1 24 0 0)) C hS () rfl (by show _ = if 0 ≤ n.toInt ∧ n.toInt ≤ 3 then 1 else -1; repeat (first | rfl | rw [if_pos (by omega)] | rw [if_neg (by omega)])) (q_subP hP [] rfl) (hD.sub [] (by decide) rfl) (Nat.le_of_ble_eq_true rfl) (Nat.le_of_ble_eq_true rfl) dX11_broom_32
  · refine lv_if_ne (tgt := 23) hx hb dX11_broom_18 (by decide) (fun c_0 => absurd (by decide) c_0) (fun _ => ?_)
    refine lv_iconst (v := (-1)) hx hb dX11_broom_21 (by decide) ?_
    exact q_iret (rm := (Rm 1 24 0 0)) C hS () rfl (by show _ = if 0 ≤ n.toInt ∧ n.toInt ≤ 3 then 1 else -1; repeat (first | rfl | rw [if_pos (by omega)] | rw [if_neg (by omega)])) (q_subP hP [] rfl) (hD.sub [] (by decide) rfl) (Nat.le_of_ble_eq_true rfl) (Nat.le_of_ble_eq_true rfl) dX11_broom_22
set_option maxHeartbeats 4000000 in
set_option maxRecDepth 100000 in
theorem y_move (l : Launch) (D : va_G) (cy : Nat → ClassId) (m0 : Nat) (n : Int32) (v1 : Int32) (v2 : Int32) (m_tape : Nat) (m_s : Nat) (m_h : Nat) (m_read : Nat) (m_names : Nat) (m_reserved : Nat) (m_undone : Nat) (m_before : Nat) (m_far : Nat) (m_wayRow : Nat) (m_keptRow : Nat) (m_askedRow : Nat) (m_rares : Nat) (m_trial : Nat) (m_hangs : Nat) (m_paths : Nat) (m_text : Nat) (m_toldAt : Nat) (m_stack : Nat) (m_truths : Nat) (m_imaged : Nat) (m_namesKept : Nat) (m_areKept : Nat) (sz : Nat)  : MI l yX11_move cX11_move 4 (some .int) (Rm 2 43 0 0) D cy [.ref m0, .int n, .int v1, .int v2] sz [(m0, .inr (11, [.int 0, .ref m_tape, .int 0, .int 0, .int 0, .int 0, .ref m_s, .ref m_h, .ref m_read, .ref m_names, .ref m_reserved, .int 0, .int 0, .int 0, .int 0, .int 0, .int 0, .long 0, .int 0, .int 0, .int 0, .int 0, .int 0, .int 0, .int 0, .ref m_undone, .ref m_before, .int 0, .ref m_far, .ref m_wayRow, .int (-1), .ref m_keptRow, .ref m_askedRow, .ref m_rares, .ref m_trial, .int (-1), .int (-1), .ref m_hangs, .ref m_paths, .int 0, .int 0, .int 0, .int 0, .ref m_text, .int 0, .int 0, .ref m_toldAt, .int 0, .ref m_stack, .int 0, .int 0, .int 0, .int 0, .int 0, .ref m_truths, .ref m_imaged, .ref m_namesKept, .ref m_areKept])), (m_s, .inl (cy 1, 383, .inl (sD 0)))] (fun (r : Int32) (u : Unit) => r = (-1)) (fun u : Unit => []) := by
  refine MI.enter (by decide) (Nat.le_of_ble_eq_true rfl) ?_
  intro p e s m below meth c ls A hsz hAe C hP hD hS hl
  have C : Cx p s m _ meth c cX11_move 4 (some .int) RX11 "move" D cy A := C
  have hx := C.1
  have hb := C.2.1
  have hl : lv_has ls 4 [(0, .ref m0), (1, .int n), (2, .int v1), (3, .int v2)] := hl
  refine lv_aload_n hx hb dX11_move_0 rfl (lv_at hl 0 rfl) ?_
  refine lv_iconst (v := 0) hx hb dX11_move_1 (by decide) ?_
  refine q_put (v := .int 0) (w' := [(m0, .inr (11, [.int 0, .ref m_tape, .int 0, .int 0, .int 0, .int 0, .ref m_s, .ref m_h, .ref m_read, .ref m_names, .ref m_reserved, .int 0, .int 0, .int 0, .int 0, .int 0, .int 0, .long 0, .int 0, .int 0, .int 0, .int 0, .int 0, .int 0, .int 0, .ref m_undone, .ref m_before, .int 0, .ref m_far, .ref m_wayRow, .int (-1), .ref m_keptRow, .ref m_askedRow, .ref m_rares, .ref m_trial, .int (-1), .int (-1), .ref m_hangs, .ref m_paths, .int 0, .int 0, .int 0, .int 0, .ref m_text, .int 0, .int 0, .ref m_toldAt, .int 0, .ref m_stack, .int 0, .int 0, .int 0, .int 0, .int 0, .ref m_truths, .ref m_imaged, .ref m_namesKept, .ref m_areKept])), (m_s, .inl (cy 1, 383, .inl (sD 0)))]) (ty := .int) C hP hD hS 0 0 rfl rfl inX11 tyX11 tyX11_ok nmX11 (by decide) kF_RX11_1 rfl rfl rfl rfl rfl (Nat.le_of_ble_eq_true rfl) rfl dX11_move_2 (fun H locs hP hD hS => ?_)
  refine lv_aload_n hx hb dX11_move_5 rfl (lv_at hl 0 rfl) ?_
  refine lv_iload_n hx hb dX11_move_6 rfl (lv_at hl 1 rfl) ?_
  refine q_ai (wr := []) (r_V (q0 := 0) (As := [.int n]) (rest := []) (wc := [(m0, .inr (11, [.int 0, .ref m_tape, .int 0, .int 0, .int 0, .int 0, .ref m_s, .ref m_h, .ref m_read, .ref m_names, .ref m_reserved, .int 0, .int 0, .int 0, .int 0, .int 0, .int 0, .long 0, .int 0, .int 0, .int 0, .int 0, .int 0, .int 0, .int 0, .ref m_undone, .ref m_before, .int 0, .ref m_far, .ref m_wayRow, .int (-1), .ref m_keptRow, .ref m_askedRow, .ref m_rares, .ref m_trial, .int (-1), .int (-1), .ref m_hangs, .ref m_paths, .int 0, .int 0, .int 0, .int 0, .ref m_text, .int 0, .int 0, .ref m_toldAt, .int 0, .ref m_stack, .int 0, .int 0, .int 0, .int 0, .int 0, .ref m_truths, .ref m_imaged, .ref m_namesKept, .ref m_areKept])), (m_s, .inl (cy 1, 383, .inl (sD 0)))]) C (q_subP hP [0, 1] rfl) (hD.sub [0, 1] (by decide) rfl) (m_isBook l D cy m0 n 0 m_tape m_s m_h m_read m_names m_reserved m_undone m_before m_far m_wayRow m_keptRow m_askedRow m_rares m_trial m_hangs m_paths m_text m_toldAt m_stack m_truths m_imaged m_namesKept m_areKept _ ) kwV_X11_isBook kM_RX11_306 rfl rfl ⟨Nat.le_of_ble_eq_true rfl, Nat.le_of_ble_eq_true rfl⟩ rfl hl.1 rfl (Nat.le_of_ble_eq_true rfl) dX11_move_7 ⟨Nat.le_of_ble_eq_true rfl, Nat.le_of_ble_eq_true rfl⟩) C.2.2.2.2.2.2.1 hP hD hS [0, 1] [] rfl rfl (by decide) (by decide) (fun r_2 u_1 H locs hw_3 hP hD hS => ?_)
  have hP : va_P D vwCl [(m0, .inr (11, [.int 0, .ref m_tape, .int 0, .int 0, .int 0, .int 0, .ref m_s, .ref m_h, .ref m_read, .ref m_names, .ref m_reserved, .int 0, .int 0, .int 0, .int 0, .int 0, .int 0, .long 0, .int 0, .int 0, .int 0, .int 0, .int 0, .int 0, .int 0, .ref m_undone, .ref m_before, .int 0, .ref m_far, .ref m_wayRow, .int (-1), .ref m_keptRow, .ref m_askedRow, .ref m_rares, .ref m_trial, .int (-1), .int (-1), .ref m_hangs, .ref m_paths, .int 0, .int 0, .int 0, .int 0, .ref m_text, .int 0, .int 0, .ref m_toldAt, .int 0, .ref m_stack, .int 0, .int 0, .int 0, .int 0, .int 0, .ref m_truths, .ref m_imaged, .ref m_namesKept, .ref m_areKept])), (m_s, .inl (cy 1, 383, .inl (sD 0)))] H := hP
  have hD : va_D A [(m0, .inr (11, [.int 0, .ref m_tape, .int 0, .int 0, .int 0, .int 0, .ref m_s, .ref m_h, .ref m_read, .ref m_names, .ref m_reserved, .int 0, .int 0, .int 0, .int 0, .int 0, .int 0, .long 0, .int 0, .int 0, .int 0, .int 0, .int 0, .int 0, .int 0, .ref m_undone, .ref m_before, .int 0, .ref m_far, .ref m_wayRow, .int (-1), .ref m_keptRow, .ref m_askedRow, .ref m_rares, .ref m_trial, .int (-1), .int (-1), .ref m_hangs, .ref m_paths, .int 0, .int 0, .int 0, .int 0, .ref m_text, .int 0, .int 0, .ref m_toldAt, .int 0, .ref m_stack, .int 0, .int 0, .int 0, .int 0, .int 0, .ref m_truths, .ref m_imaged, .ref m_namesKept, .ref m_areKept])), (m_s, .inl (cy 1, 383, .inl (sD 0)))] := hD
  obtain rfl : r_2 = 0 := hw_3
  refine lv_if_eq (tgt := 22) hx hb dX11_move_10 (by decide) (fun _ => ?_) (fun c_0 => absurd (by decide) c_0)
  refine lv_iconst (v := (-1)) hx hb dX11_move_22 (by decide) ?_
  exact q_iret (rm := (Rm 2 43 0 0)) C hS () rfl rfl (q_subP hP [] rfl) (hD.sub [] (by decide) rfl) (Nat.le_of_ble_eq_true rfl) (Nat.le_of_ble_eq_true rfl) dX11_move_23
set_option maxHeartbeats 4000000 in
set_option maxRecDepth 100000 in
theorem y_days (l : Launch) (D : va_G) (cy : Nat → ClassId) (m0 : Nat) (n : Int32) (v : Int32) (m_tape : Nat) (m_s : Nat) (m_h : Nat) (m_read : Nat) (m_names : Nat) (m_reserved : Nat) (m_undone : Nat) (m_before : Nat) (m_far : Nat) (m_wayRow : Nat) (m_keptRow : Nat) (m_askedRow : Nat) (m_rares : Nat) (m_trial : Nat) (m_hangs : Nat) (m_paths : Nat) (m_text : Nat) (m_toldAt : Nat) (m_stack : Nat) (m_truths : Nat) (m_imaged : Nat) (m_namesKept : Nat) (m_areKept : Nat) (sz : Nat)  : MI l yX11_days cX11_days 3 (some .int) (Rm 3 66 0 0) D cy [.ref m0, .int n, .int v] sz [(m0, .inr (11, [.int 0, .ref m_tape, .int 0, .int 0, .int 0, .int 0, .ref m_s, .ref m_h, .ref m_read, .ref m_names, .ref m_reserved, .int 0, .int 0, .int 0, .int 0, .int 0, .int 0, .long 0, .int 0, .int 0, .int 0, .int 0, .int 0, .int 0, .int 0, .ref m_undone, .ref m_before, .int 0, .ref m_far, .ref m_wayRow, .int (-1), .ref m_keptRow, .ref m_askedRow, .ref m_rares, .ref m_trial, .int (-1), .int (-1), .ref m_hangs, .ref m_paths, .int 0, .int 0, .int 0, .int 0, .ref m_text, .int 0, .int 0, .ref m_toldAt, .int 0, .ref m_stack, .int 0, .int 0, .int 0, .int 0, .int 0, .ref m_truths, .ref m_imaged, .ref m_namesKept, .ref m_areKept])), (m_s, .inl (cy 1, 383, .inl (sD 0))), (m_undone, .inl (cy 1, 784, .inl (fun _ => 0)))] (fun (r : Int32) (u : Unit) => r = (rDays n)) (fun u : Unit => []) := by
  refine MI.enter (by decide) (Nat.le_of_ble_eq_true rfl) ?_
  intro p e s m below meth c ls A hsz hAe C hP hD hS hl
  have C : Cx p s m _ meth c cX11_days 3 (some .int) RX11 "days" D cy A := C
  have hx := C.1
  have hb := C.2.1
  have hl : lv_has ls 3 [(0, .ref m0), (1, .int n), (2, .int v)] := hl
  refine lv_aload_n hx hb dX11_days_0 rfl (lv_at hl 0 rfl) ?_
  refine lv_iconst (v := 0) hx hb dX11_days_1 (by decide) ?_
  refine q_put (v := .int 0) (w' := [(m0, .inr (11, [.int 0, .ref m_tape, .int 0, .int 0, .int 0, .int 0, .ref m_s, .ref m_h, .ref m_read, .ref m_names, .ref m_reserved, .int 0, .int 0, .int 0, .int 0, .int 0, .int 0, .long 0, .int 0, .int 0, .int 0, .int 0, .int 0, .int 0, .int 0, .ref m_undone, .ref m_before, .int 0, .ref m_far, .ref m_wayRow, .int (-1), .ref m_keptRow, .ref m_askedRow, .ref m_rares, .ref m_trial, .int (-1), .int (-1), .ref m_hangs, .ref m_paths, .int 0, .int 0, .int 0, .int 0, .ref m_text, .int 0, .int 0, .ref m_toldAt, .int 0, .ref m_stack, .int 0, .int 0, .int 0, .int 0, .int 0, .ref m_truths, .ref m_imaged, .ref m_namesKept, .ref m_areKept])), (m_s, .inl (cy 1, 383, .inl (sD 0))), (m_undone, .inl (cy 1, 784, .inl (fun _ => 0)))]) (ty := .int) C hP hD hS 0 0 rfl rfl inX11 tyX11 tyX11_ok nmX11 (by decide) kF_RX11_1 rfl rfl rfl rfl rfl (Nat.le_of_ble_eq_true rfl) rfl dX11_days_2 (fun H locs hP hD hS => ?_)
  refine lv_iload_n hx hb dX11_days_5 rfl (lv_at hl 1 rfl) ?_
  refine lv_iconst (v := 1) hx hb dX11_days_6 (by decide) ?_
  refine lv_bipush (v := 30) hx hb dX11_days_7 (by decide) ?_
  refine q_ai (wr := [(m0, .inr (11, [.int 0, .ref m_tape, .int 0, .int 0, .int 0, .int 0, .ref m_s, .ref m_h, .ref m_read, .ref m_names, .ref m_reserved, .int 0, .int 0, .int 0, .int 0, .int 0, .int 0, .long 0, .int 0, .int 0, .int 0, .int 0, .int 0, .int 0, .int 0, .ref m_undone, .ref m_before, .int 0, .ref m_far, .ref m_wayRow, .int (-1), .ref m_keptRow, .ref m_askedRow, .ref m_rares, .ref m_trial, .int (-1), .int (-1), .ref m_hangs, .ref m_paths, .int 0, .int 0, .int 0, .int 0, .ref m_text, .int 0, .int 0, .ref m_toldAt, .int 0, .ref m_stack, .int 0, .int 0, .int 0, .int 0, .int 0, .ref m_truths, .ref m_imaged, .ref m_namesKept, .ref m_areKept])), (m_s, .inl (cy 1, 383, .inl (sD 0))), (m_undone, .inl (cy 1, 784, .inl (fun _ => 0)))]) (r_S (As := [.int n, .int 1, .int 30]) (rest := []) (wc := []) C (q_subP hP [] rfl) (hD.sub [] (by decide) rfl) (c_isIn l D cy n 1 30 _ ) kwS_X11_isIn kM_RX11_206 ⟨Nat.le_of_ble_eq_true rfl, Nat.le_of_ble_eq_true rfl⟩ rfl hl.1 rfl (Nat.le_of_ble_eq_true rfl) dX11_days_9 ⟨Nat.le_of_ble_eq_true rfl, Nat.le_of_ble_eq_true rfl⟩) C.2.2.2.2.2.2.1 hP hD hS [] [0, 1, 2] rfl rfl (by decide) (by decide) (fun r_2 u_1 H locs hw_3 hP hD hS => ?_)
  have hP : va_P D vwCl [(m0, .inr (11, [.int 0, .ref m_tape, .int 0, .int 0, .int 0, .int 0, .ref m_s, .ref m_h, .ref m_read, .ref m_names, .ref m_reserved, .int 0, .int 0, .int 0, .int 0, .int 0, .int 0, .long 0, .int 0, .int 0, .int 0, .int 0, .int 0, .int 0, .int 0, .ref m_undone, .ref m_before, .int 0, .ref m_far, .ref m_wayRow, .int (-1), .ref m_keptRow, .ref m_askedRow, .ref m_rares, .ref m_trial, .int (-1), .int (-1), .ref m_hangs, .ref m_paths, .int 0, .int 0, .int 0, .int 0, .ref m_text, .int 0, .int 0, .ref m_toldAt, .int 0, .ref m_stack, .int 0, .int 0, .int 0, .int 0, .int 0, .ref m_truths, .ref m_imaged, .ref m_namesKept, .ref m_areKept])), (m_s, .inl (cy 1, 383, .inl (sD 0))), (m_undone, .inl (cy 1, 784, .inl (fun _ => 0)))] H := hP
  have hD : va_D A [(m0, .inr (11, [.int 0, .ref m_tape, .int 0, .int 0, .int 0, .int 0, .ref m_s, .ref m_h, .ref m_read, .ref m_names, .ref m_reserved, .int 0, .int 0, .int 0, .int 0, .int 0, .int 0, .long 0, .int 0, .int 0, .int 0, .int 0, .int 0, .int 0, .int 0, .ref m_undone, .ref m_before, .int 0, .ref m_far, .ref m_wayRow, .int (-1), .ref m_keptRow, .ref m_askedRow, .ref m_rares, .ref m_trial, .int (-1), .int (-1), .ref m_hangs, .ref m_paths, .int 0, .int 0, .int 0, .int 0, .ref m_text, .int 0, .int 0, .ref m_toldAt, .int 0, .ref m_stack, .int 0, .int 0, .int 0, .int 0, .int 0, .ref m_truths, .ref m_imaged, .ref m_namesKept, .ref m_areKept])), (m_s, .inl (cy 1, 383, .inl (sD 0))), (m_undone, .inl (cy 1, 784, .inl (fun _ => 0)))] := hD
  rcases rJn_c (lo := 1) (hi := 30) (rJn_lit (a := 1) (b := 30) hw_3 (by decide) (by decide)) with ⟨rfl, i_4a, i_4b⟩ | ⟨rfl, i_4n⟩
  · refine lv_if_ne (tgt := 17) hx hb dX11_days_12 (by decide) (fun _ => ?_) (fun c_0 => absurd c_0 (by decide))
    obtain ⟨jn, hj1, hj2, rfl⟩ := nat_of (x := n) (a := 1) (b := 30) (by omega) (by omega) (by decide) (by decide)
    refine lv_aload_n hx hb dX11_days_17 rfl (lv_at hl 0 rfl) ?_
    refine q_get (v := .ref m_s) C hP 0 6 rfl rfl inX11 (by decide) kF_RX11_33 rfl rfl dX11_days_18 ?_
    refine lv_bipush (v := 104) hx hb dX11_days_21 (by decide) ?_
    refine q_iald (v := 0) C hP 1 rfl (vin (by decide +kernel)) (by decide +kernel) dX11_days_23 ?_
    refine lv_sipush (v := 400) hx hb dX11_days_24 (by decide) ?_
    refine lv_icmp_ne (tgt := 32) hx hb dX11_days_27 (by decide) (fun _ => ?_) (fun c_0 => absurd c_0 (by decide))
    refine lv_aload_n hx hb dX11_days_32 rfl (lv_at hl 0 rfl) ?_
    refine q_av (wr := []) (r_V (q0 := 0) (As := []) (rest := []) (wc := [(m0, .inr (11, [.int 0, .ref m_tape, .int 0, .int 0, .int 0, .int 0, .ref m_s, .ref m_h, .ref m_read, .ref m_names, .ref m_reserved, .int 0, .int 0, .int 0, .int 0, .int 0, .int 0, .long 0, .int 0, .int 0, .int 0, .int 0, .int 0, .int 0, .int 0, .ref m_undone, .ref m_before, .int 0, .ref m_far, .ref m_wayRow, .int (-1), .ref m_keptRow, .ref m_askedRow, .ref m_rares, .ref m_trial, .int (-1), .int (-1), .ref m_hangs, .ref m_paths, .int 0, .int 0, .int 0, .int 0, .ref m_text, .int 0, .int 0, .ref m_toldAt, .int 0, .ref m_stack, .int 0, .int 0, .int 0, .int 0, .int 0, .ref m_truths, .ref m_imaged, .ref m_namesKept, .ref m_areKept])), (m_s, .inl (cy 1, 383, .inl (sD 0))), (m_undone, .inl (cy 1, 784, .inl (fun _ => 0)))]) C (q_subP hP [0, 1, 2] rfl) (hD.sub [0, 1, 2] (by decide) rfl) (m_keeps l D cy m0 m_tape m_s m_h m_read m_names m_reserved m_undone m_before m_far m_wayRow m_keptRow m_askedRow m_rares m_trial m_hangs m_paths m_text m_toldAt m_stack m_truths m_imaged m_namesKept m_areKept (fun _ => 0) _ ) kwV_X11_keeps kM_RX11_347 rfl rfl ⟨Nat.le_of_ble_eq_true rfl, Nat.le_of_ble_eq_true rfl⟩ rfl hl.1 rfl (Nat.le_of_ble_eq_true rfl) dX11_days_33 ⟨Nat.le_of_ble_eq_true rfl, Nat.le_of_ble_eq_true rfl⟩) C.2.2.2.2.2.2.1 hP hD hS [0, 1, 2] [] rfl rfl (by decide) (by decide) (fun u_5 H locs hw_7 hP hD hS => ?_)
    have hP : va_P D vwCl [(m0, .inr (11, [.int 0, .ref m_tape, .int 0, .int 0, .int 0, .int 0, .ref m_s, .ref m_h, .ref m_read, .ref m_names, .ref m_reserved, .int 0, .int 0, .int 0, .int 0, .int 0, .int 0, .long 0, .int 0, .int 0, .int 0, .int 0, .int 0, .int 0, .int 0, .ref m_undone, .ref m_before, .int 1, .ref m_far, .ref m_wayRow, .int (-1), .ref m_keptRow, .ref m_askedRow, .ref m_rares, .ref m_trial, .int (-1), .int (-1), .ref m_hangs, .ref m_paths, .int 0, .int 0, .int 0, .int 0, .ref m_text, .int 0, .int 0, .ref m_toldAt, .int 0, .ref m_stack, .int 0, .int 0, .int 0, .int 0, .int 0, .ref m_truths, .ref m_imaged, .ref m_namesKept, .ref m_areKept])), (m_s, .inl (cy 1, 383, .inl (sD 0))), (m_undone, .inl (cy 1, 784, .inl u_5))] H := hP
    have hD : va_D A [(m0, .inr (11, [.int 0, .ref m_tape, .int 0, .int 0, .int 0, .int 0, .ref m_s, .ref m_h, .ref m_read, .ref m_names, .ref m_reserved, .int 0, .int 0, .int 0, .int 0, .int 0, .int 0, .long 0, .int 0, .int 0, .int 0, .int 0, .int 0, .int 0, .int 0, .ref m_undone, .ref m_before, .int 1, .ref m_far, .ref m_wayRow, .int (-1), .ref m_keptRow, .ref m_askedRow, .ref m_rares, .ref m_trial, .int (-1), .int (-1), .ref m_hangs, .ref m_paths, .int 0, .int 0, .int 0, .int 0, .ref m_text, .int 0, .int 0, .ref m_toldAt, .int 0, .ref m_stack, .int 0, .int 0, .int 0, .int 0, .int 0, .ref m_truths, .ref m_imaged, .ref m_namesKept, .ref m_areKept])), (m_s, .inl (cy 1, 383, .inl (sD 0))), (m_undone, .inl (cy 1, 784, .inl u_5))] := hD
    refine lv_aload_n hx hb dX11_days_36 rfl (lv_at hl 0 rfl) ?_
    refine lv_iload_n hx hb dX11_days_37 rfl (lv_at hl 1 rfl) ?_
    refine lv_iload_n hx hb dX11_days_38 rfl (lv_at hl 2 rfl) ?_
    refine q_ai (wr := [(m_undone, .inl (cy 1, 784, .inl u_5))]) (r_V (q0 := 0) (As := [.int (nI jn), .int v]) (rest := []) (wc := [(m0, .inr (11, [.int 0, .ref m_tape, .int 0, .int 0, .int 0, .int 0, .ref m_s, .ref m_h, .ref m_read, .ref m_names, .ref m_reserved, .int 0, .int 0, .int 0, .int 0, .int 0, .int 0, .long 0, .int 0, .int 0, .int 0, .int 0, .int 0, .int 0, .int 0, .ref m_undone, .ref m_before, .int 1, .ref m_far, .ref m_wayRow, .int (-1), .ref m_keptRow, .ref m_askedRow, .ref m_rares, .ref m_trial, .int (-1), .int (-1), .ref m_hangs, .ref m_paths, .int 0, .int 0, .int 0, .int 0, .ref m_text, .int 0, .int 0, .ref m_toldAt, .int 0, .ref m_stack, .int 0, .int 0, .int 0, .int 0, .int 0, .ref m_truths, .ref m_imaged, .ref m_namesKept, .ref m_areKept])), (m_s, .inl (cy 1, 383, .inl (sD 0)))]) C (q_subP hP [0, 1] rfl) (hD.sub [0, 1] (by decide) rfl) (m_goesOn l D cy m0 (jn) v m_tape m_s m_h m_read m_names m_reserved m_undone m_before m_far m_wayRow m_keptRow m_askedRow m_rares m_trial m_hangs m_paths m_text m_toldAt m_stack m_truths m_imaged m_namesKept m_areKept _ (by omega) (by omega)) kwV_X11_goesOn kM_RX11_363 rfl rfl ⟨Nat.le_of_ble_eq_true rfl, Nat.le_of_ble_eq_true rfl⟩ rfl hl.1 rfl (Nat.le_of_ble_eq_true rfl) dX11_days_39 ⟨Nat.le_of_ble_eq_true rfl, Nat.le_of_ble_eq_true rfl⟩) C.2.2.2.2.2.2.1 hP hD hS [0, 1] [2] rfl rfl (by decide) (by decide) (fun r_9 u_8 H locs hw_10 hP hD hS => ?_)
    have hP : va_P D vwCl [(m_undone, .inl (cy 1, 784, .inl u_5))] H := hP
    have hD : va_D A [(m_undone, .inl (cy 1, 784, .inl u_5))] := hD
    obtain rfl : r_9 = (nI jn) := hw_10
    exact q_iret (rm := (Rm 3 66 0 0)) C hS () rfl (by have zt : (nI jn).toInt = jn := nI_toInt (by omega); show _ = if 1 ≤ (nI jn).toInt ∧ (nI jn).toInt ≤ 30 then (nI jn) else -1; repeat (first | rfl | rw [if_pos (by omega)] | rw [if_neg (by omega)])) (q_subP hP [] rfl) (hD.sub [] (by decide) rfl) (Nat.le_of_ble_eq_true rfl) (Nat.le_of_ble_eq_true rfl) dX11_days_42
  · refine lv_if_ne (tgt := 17) hx hb dX11_days_12 (by decide) (fun c_0 => absurd (by decide) c_0) (fun _ => ?_)
    refine lv_iconst (v := (-1)) hx hb dX11_days_15 (by decide) ?_
    exact q_iret (rm := (Rm 3 66 0 0)) C hS () rfl (by show _ = if 1 ≤ n.toInt ∧ n.toInt ≤ 30 then n else -1; repeat (first | rfl | rw [if_pos (by omega)] | rw [if_neg (by omega)])) (q_subP hP [] rfl) (hD.sub [] (by decide) rfl) (Nat.le_of_ble_eq_true rfl) (Nat.le_of_ble_eq_true rfl) dX11_days_16
set_option maxHeartbeats 4000000 in
set_option maxRecDepth 100000 in
theorem y_undo (l : Launch) (D : va_G) (cy : Nat → ClassId) (m0 : Nat) (m_tape : Nat) (m_s : Nat) (m_h : Nat) (m_read : Nat) (m_names : Nat) (m_reserved : Nat) (m_undone : Nat) (m_before : Nat) (m_far : Nat) (m_wayRow : Nat) (m_keptRow : Nat) (m_askedRow : Nat) (m_rares : Nat) (m_trial : Nat) (m_hangs : Nat) (m_paths : Nat) (m_text : Nat) (m_toldAt : Nat) (m_stack : Nat) (m_truths : Nat) (m_imaged : Nat) (m_namesKept : Nat) (m_areKept : Nat) (sz : Nat)  : MI l yX11_undo cX11_undo 2 (some .int) (Rm 0 0 0 0) D cy [.ref m0] sz [(m0, .inr (11, [.int 0, .ref m_tape, .int 0, .int 0, .int 0, .int 0, .ref m_s, .ref m_h, .ref m_read, .ref m_names, .ref m_reserved, .int 0, .int 0, .int 0, .int 0, .int 0, .int 0, .long 0, .int 0, .int 0, .int 0, .int 0, .int 0, .int 0, .int 0, .ref m_undone, .ref m_before, .int 0, .ref m_far, .ref m_wayRow, .int (-1), .ref m_keptRow, .ref m_askedRow, .ref m_rares, .ref m_trial, .int (-1), .int (-1), .ref m_hangs, .ref m_paths, .int 0, .int 0, .int 0, .int 0, .ref m_text, .int 0, .int 0, .ref m_toldAt, .int 0, .ref m_stack, .int 0, .int 0, .int 0, .int 0, .int 0, .ref m_truths, .ref m_imaged, .ref m_namesKept, .ref m_areKept]))] (fun (r : Int32) (u : Unit) => r = (-1)) (fun u : Unit => []) := by
  refine MI.enter (by decide) (Nat.le_of_ble_eq_true rfl) ?_
  intro p e s m below meth c ls A hsz hAe C hP hD hS hl
  have C : Cx p s m _ meth c cX11_undo 2 (some .int) RX11 "undo" D cy A := C
  have hx := C.1
  have hb := C.2.1
  have hl : lv_has ls 2 [(0, .ref m0)] := hl
  refine lv_aload_n hx hb dX11_undo_0 rfl (lv_at hl 0 rfl) ?_
  refine lv_iconst (v := 0) hx hb dX11_undo_1 (by decide) ?_
  refine q_put (v := .int 0) (w' := [(m0, .inr (11, [.int 0, .ref m_tape, .int 0, .int 0, .int 0, .int 0, .ref m_s, .ref m_h, .ref m_read, .ref m_names, .ref m_reserved, .int 0, .int 0, .int 0, .int 0, .int 0, .int 0, .long 0, .int 0, .int 0, .int 0, .int 0, .int 0, .int 0, .int 0, .ref m_undone, .ref m_before, .int 0, .ref m_far, .ref m_wayRow, .int (-1), .ref m_keptRow, .ref m_askedRow, .ref m_rares, .ref m_trial, .int (-1), .int (-1), .ref m_hangs, .ref m_paths, .int 0, .int 0, .int 0, .int 0, .ref m_text, .int 0, .int 0, .ref m_toldAt, .int 0, .ref m_stack, .int 0, .int 0, .int 0, .int 0, .int 0, .ref m_truths, .ref m_imaged, .ref m_namesKept, .ref m_areKept]))]) (ty := .int) C hP hD hS 0 0 rfl rfl inX11 tyX11 tyX11_ok nmX11 (by decide) kF_RX11_1 rfl rfl rfl rfl rfl (Nat.le_of_ble_eq_true rfl) rfl dX11_undo_2 (fun H locs hP hD hS => ?_)
  refine lv_aload_n hx hb dX11_undo_5 rfl (lv_at hl 0 rfl) ?_
  refine q_get (v := .int 0) C hP 0 27 rfl rfl inX11 (by decide) kF_RX11_288 rfl rfl dX11_undo_6 ?_
  refine lv_if_ne (tgt := 14) hx hb dX11_undo_9 (by decide) (fun c_0 => absurd (by decide) c_0) (fun _ => ?_)
  refine lv_iconst (v := (-1)) hx hb dX11_undo_12 (by decide) ?_
  exact q_iret (rm := (Rm 0 0 0 0)) C hS () rfl rfl (q_subP hP [] rfl) (hD.sub [] (by decide) rfl) (Nat.le_of_ble_eq_true rfl) (Nat.le_of_ble_eq_true rfl) dX11_undo_13
set_option maxHeartbeats 4000000 in
set_option maxRecDepth 100000 in
theorem y_way (l : Launch) (D : va_G) (cy : Nat → ClassId) (m0 : Nat) (n : Int32) (v : Int32) (m_tape : Nat) (m_s : Nat) (m_h : Nat) (m_read : Nat) (m_names : Nat) (m_reserved : Nat) (m_undone : Nat) (m_before : Nat) (m_far : Nat) (m_wayRow : Nat) (m_keptRow : Nat) (m_askedRow : Nat) (m_rares : Nat) (m_trial : Nat) (m_hangs : Nat) (m_paths : Nat) (m_text : Nat) (m_toldAt : Nat) (m_stack : Nat) (m_truths : Nat) (m_imaged : Nat) (m_namesKept : Nat) (m_areKept : Nat) (sz : Nat)  : MI l yX11_way cX11_way 6 (some .int) (Rm 2 43 0 0) D cy [.ref m0, .int n, .int v] sz [(m0, .inr (11, [.int 0, .ref m_tape, .int 0, .int 0, .int 0, .int 0, .ref m_s, .ref m_h, .ref m_read, .ref m_names, .ref m_reserved, .int 0, .int 0, .int 0, .int 0, .int 0, .int 0, .long 0, .int 0, .int 0, .int 0, .int 0, .int 0, .int 0, .int 0, .ref m_undone, .ref m_before, .int 0, .ref m_far, .ref m_wayRow, .int (-1), .ref m_keptRow, .ref m_askedRow, .ref m_rares, .ref m_trial, .int (-1), .int (-1), .ref m_hangs, .ref m_paths, .int 0, .int 0, .int 0, .int 0, .ref m_text, .int 0, .int 0, .ref m_toldAt, .int 0, .ref m_stack, .int 0, .int 0, .int 0, .int 0, .int 0, .ref m_truths, .ref m_imaged, .ref m_namesKept, .ref m_areKept])), (m_s, .inl (cy 1, 383, .inl (sD 0)))] (fun (r : Int32) (u : Unit) => r = (-1)) (fun u : Unit => []) := by
  refine MI.enter (by decide) (Nat.le_of_ble_eq_true rfl) ?_
  intro p e s m below meth c ls A hsz hAe C hP hD hS hl
  have C : Cx p s m _ meth c cX11_way 6 (some .int) RX11 "way" D cy A := C
  have hx := C.1
  have hb := C.2.1
  have hl : lv_has ls 6 [(0, .ref m0), (1, .int n), (2, .int v)] := hl
  refine lv_aload_n hx hb dX11_way_0 rfl (lv_at hl 0 rfl) ?_
  refine lv_iconst (v := 0) hx hb dX11_way_1 (by decide) ?_
  refine q_put (v := .int 0) (w' := [(m0, .inr (11, [.int 0, .ref m_tape, .int 0, .int 0, .int 0, .int 0, .ref m_s, .ref m_h, .ref m_read, .ref m_names, .ref m_reserved, .int 0, .int 0, .int 0, .int 0, .int 0, .int 0, .long 0, .int 0, .int 0, .int 0, .int 0, .int 0, .int 0, .int 0, .ref m_undone, .ref m_before, .int 0, .ref m_far, .ref m_wayRow, .int (-1), .ref m_keptRow, .ref m_askedRow, .ref m_rares, .ref m_trial, .int (-1), .int (-1), .ref m_hangs, .ref m_paths, .int 0, .int 0, .int 0, .int 0, .ref m_text, .int 0, .int 0, .ref m_toldAt, .int 0, .ref m_stack, .int 0, .int 0, .int 0, .int 0, .int 0, .ref m_truths, .ref m_imaged, .ref m_namesKept, .ref m_areKept])), (m_s, .inl (cy 1, 383, .inl (sD 0)))]) (ty := .int) C hP hD hS 0 0 rfl rfl inX11 tyX11 tyX11_ok nmX11 (by decide) kF_RX11_1 rfl rfl rfl rfl rfl (Nat.le_of_ble_eq_true rfl) rfl dX11_way_2 (fun H locs hP hD hS => ?_)
  refine lv_aload_n hx hb dX11_way_5 rfl (lv_at hl 0 rfl) ?_
  refine lv_iload_n hx hb dX11_way_6 rfl (lv_at hl 1 rfl) ?_
  refine q_ai (wr := []) (r_V (q0 := 0) (As := [.int n]) (rest := []) (wc := [(m0, .inr (11, [.int 0, .ref m_tape, .int 0, .int 0, .int 0, .int 0, .ref m_s, .ref m_h, .ref m_read, .ref m_names, .ref m_reserved, .int 0, .int 0, .int 0, .int 0, .int 0, .int 0, .long 0, .int 0, .int 0, .int 0, .int 0, .int 0, .int 0, .int 0, .ref m_undone, .ref m_before, .int 0, .ref m_far, .ref m_wayRow, .int (-1), .ref m_keptRow, .ref m_askedRow, .ref m_rares, .ref m_trial, .int (-1), .int (-1), .ref m_hangs, .ref m_paths, .int 0, .int 0, .int 0, .int 0, .ref m_text, .int 0, .int 0, .ref m_toldAt, .int 0, .ref m_stack, .int 0, .int 0, .int 0, .int 0, .int 0, .ref m_truths, .ref m_imaged, .ref m_namesKept, .ref m_areKept])), (m_s, .inl (cy 1, 383, .inl (sD 0)))]) C (q_subP hP [0, 1] rfl) (hD.sub [0, 1] (by decide) rfl) (m_isBook l D cy m0 n 0 m_tape m_s m_h m_read m_names m_reserved m_undone m_before m_far m_wayRow m_keptRow m_askedRow m_rares m_trial m_hangs m_paths m_text m_toldAt m_stack m_truths m_imaged m_namesKept m_areKept _ ) kwV_X11_isBook kM_RX11_306 rfl rfl ⟨Nat.le_of_ble_eq_true rfl, Nat.le_of_ble_eq_true rfl⟩ rfl hl.1 rfl (Nat.le_of_ble_eq_true rfl) dX11_way_7 ⟨Nat.le_of_ble_eq_true rfl, Nat.le_of_ble_eq_true rfl⟩) C.2.2.2.2.2.2.1 hP hD hS [0, 1] [] rfl rfl (by decide) (by decide) (fun r_2 u_1 H locs hw_3 hP hD hS => ?_)
  have hP : va_P D vwCl [(m0, .inr (11, [.int 0, .ref m_tape, .int 0, .int 0, .int 0, .int 0, .ref m_s, .ref m_h, .ref m_read, .ref m_names, .ref m_reserved, .int 0, .int 0, .int 0, .int 0, .int 0, .int 0, .long 0, .int 0, .int 0, .int 0, .int 0, .int 0, .int 0, .int 0, .ref m_undone, .ref m_before, .int 0, .ref m_far, .ref m_wayRow, .int (-1), .ref m_keptRow, .ref m_askedRow, .ref m_rares, .ref m_trial, .int (-1), .int (-1), .ref m_hangs, .ref m_paths, .int 0, .int 0, .int 0, .int 0, .ref m_text, .int 0, .int 0, .ref m_toldAt, .int 0, .ref m_stack, .int 0, .int 0, .int 0, .int 0, .int 0, .ref m_truths, .ref m_imaged, .ref m_namesKept, .ref m_areKept])), (m_s, .inl (cy 1, 383, .inl (sD 0)))] H := hP
  have hD : va_D A [(m0, .inr (11, [.int 0, .ref m_tape, .int 0, .int 0, .int 0, .int 0, .ref m_s, .ref m_h, .ref m_read, .ref m_names, .ref m_reserved, .int 0, .int 0, .int 0, .int 0, .int 0, .int 0, .long 0, .int 0, .int 0, .int 0, .int 0, .int 0, .int 0, .int 0, .ref m_undone, .ref m_before, .int 0, .ref m_far, .ref m_wayRow, .int (-1), .ref m_keptRow, .ref m_askedRow, .ref m_rares, .ref m_trial, .int (-1), .int (-1), .ref m_hangs, .ref m_paths, .int 0, .int 0, .int 0, .int 0, .ref m_text, .int 0, .int 0, .ref m_toldAt, .int 0, .ref m_stack, .int 0, .int 0, .int 0, .int 0, .int 0, .ref m_truths, .ref m_imaged, .ref m_namesKept, .ref m_areKept])), (m_s, .inl (cy 1, 383, .inl (sD 0)))] := hD
  obtain rfl : r_2 = 0 := hw_3
  refine lv_if_eq (tgt := 21) hx hb dX11_way_10 (by decide) (fun _ => ?_) (fun c_0 => absurd (by decide) c_0)
  refine lv_iconst (v := (-1)) hx hb dX11_way_21 (by decide) ?_
  exact q_iret (rm := (Rm 2 43 0 0)) C hS () rfl rfl (q_subP hP [] rfl) (hD.sub [] (by decide) rfl) (Nat.le_of_ble_eq_true rfl) (Nat.le_of_ble_eq_true rfl) dX11_way_22
set_option maxHeartbeats 4000000 in
set_option maxRecDepth 100000 in
theorem y_asked (l : Launch) (D : va_G) (cy : Nat → ClassId) (m0 : Nat) (n : Int32) (m_tape : Nat) (m_s : Nat) (m_h : Nat) (m_read : Nat) (m_names : Nat) (m_reserved : Nat) (m_undone : Nat) (m_before : Nat) (m_far : Nat) (m_wayRow : Nat) (m_keptRow : Nat) (m_askedRow : Nat) (m_rares : Nat) (m_trial : Nat) (m_hangs : Nat) (m_paths : Nat) (m_text : Nat) (m_toldAt : Nat) (m_stack : Nat) (m_truths : Nat) (m_imaged : Nat) (m_namesKept : Nat) (m_areKept : Nat) (sz : Nat)  : MI l yX11_asked cX11_asked 5 (some .int) (Rm 1 22 0 0) D cy [.ref m0, .int n] sz [(m0, .inr (11, [.int 0, .ref m_tape, .int 0, .int 0, .int 0, .int 0, .ref m_s, .ref m_h, .ref m_read, .ref m_names, .ref m_reserved, .int 0, .int 0, .int 0, .int 0, .int 0, .int 0, .long 0, .int 0, .int 0, .int 0, .int 0, .int 0, .int 0, .int 0, .ref m_undone, .ref m_before, .int 0, .ref m_far, .ref m_wayRow, .int (-1), .ref m_keptRow, .ref m_askedRow, .ref m_rares, .ref m_trial, .int (-1), .int (-1), .ref m_hangs, .ref m_paths, .int 0, .int 0, .int 0, .int 0, .ref m_text, .int 0, .int 0, .ref m_toldAt, .int 0, .ref m_stack, .int 0, .int 0, .int 0, .int 0, .int 0, .ref m_truths, .ref m_imaged, .ref m_namesKept, .ref m_areKept])), (m_s, .inl (cy 1, 383, .inl (sD 0)))] (fun (r : Int32) (u : Unit) => r = (-1)) (fun u : Unit => []) := by
  refine MI.enter (by decide) (Nat.le_of_ble_eq_true rfl) ?_
  intro p e s m below meth c ls A hsz hAe C hP hD hS hl
  have C : Cx p s m _ meth c cX11_asked 5 (some .int) RX11 "asked" D cy A := C
  have hx := C.1
  have hb := C.2.1
  have hl : lv_has ls 5 [(0, .ref m0), (1, .int n)] := hl
  refine lv_aload_n hx hb dX11_asked_0 rfl (lv_at hl 0 rfl) ?_
  refine lv_iconst (v := 0) hx hb dX11_asked_1 (by decide) ?_
  refine q_put (v := .int 0) (w' := [(m0, .inr (11, [.int 0, .ref m_tape, .int 0, .int 0, .int 0, .int 0, .ref m_s, .ref m_h, .ref m_read, .ref m_names, .ref m_reserved, .int 0, .int 0, .int 0, .int 0, .int 0, .int 0, .long 0, .int 0, .int 0, .int 0, .int 0, .int 0, .int 0, .int 0, .ref m_undone, .ref m_before, .int 0, .ref m_far, .ref m_wayRow, .int (-1), .ref m_keptRow, .ref m_askedRow, .ref m_rares, .ref m_trial, .int (-1), .int (-1), .ref m_hangs, .ref m_paths, .int 0, .int 0, .int 0, .int 0, .ref m_text, .int 0, .int 0, .ref m_toldAt, .int 0, .ref m_stack, .int 0, .int 0, .int 0, .int 0, .int 0, .ref m_truths, .ref m_imaged, .ref m_namesKept, .ref m_areKept])), (m_s, .inl (cy 1, 383, .inl (sD 0)))]) (ty := .int) C hP hD hS 0 0 rfl rfl inX11 tyX11 tyX11_ok nmX11 (by decide) kF_RX11_1 rfl rfl rfl rfl rfl (Nat.le_of_ble_eq_true rfl) rfl dX11_asked_2 (fun H locs hP hD hS => ?_)
  refine lv_aload_n hx hb dX11_asked_5 rfl (lv_at hl 0 rfl) ?_
  refine lv_sipush (v := 940) hx hb dX11_asked_6 (by decide) ?_
  refine q_av (wr := [(m_s, .inl (cy 1, 383, .inl (sD 0)))]) (r_V (q0 := 0) (As := [.int 940]) (rest := []) (wc := [(m0, .inr (11, [.int 0, .ref m_tape, .int 0, .int 0, .int 0, .int 0, .ref m_s, .ref m_h, .ref m_read, .ref m_names, .ref m_reserved, .int 0, .int 0, .int 0, .int 0, .int 0, .int 0, .long 0, .int 0, .int 0, .int 0, .int 0, .int 0, .int 0, .int 0, .ref m_undone, .ref m_before, .int 0, .ref m_far, .ref m_wayRow, .int (-1), .ref m_keptRow, .ref m_askedRow, .ref m_rares, .ref m_trial, .int (-1), .int (-1), .ref m_hangs, .ref m_paths, .int 0, .int 0, .int 0, .int 0, .ref m_text, .int 0, .int 0, .ref m_toldAt, .int 0, .ref m_stack, .int 0, .int 0, .int 0, .int 0, .int 0, .ref m_truths, .ref m_imaged, .ref m_namesKept, .ref m_areKept]))]) C (q_subP hP [0] rfl) (hD.sub [0] (by decide) rfl) (m_taken_940 l D cy m0 m_tape m_s m_h m_read m_names m_reserved m_undone m_before m_far m_wayRow m_keptRow m_askedRow m_rares m_trial m_hangs m_paths m_text m_toldAt m_stack m_truths m_imaged m_namesKept m_areKept _ ) kwV_X11_taken kM_RX11_276 rfl rfl ⟨Nat.le_of_ble_eq_true rfl, Nat.le_of_ble_eq_true rfl⟩ rfl hl.1 rfl (Nat.le_of_ble_eq_true rfl) dX11_asked_9 ⟨Nat.le_of_ble_eq_true rfl, Nat.le_of_ble_eq_true rfl⟩) C.2.2.2.2.2.2.1 hP hD hS [0] [1] rfl rfl (by decide) (by decide) (fun u_1 H locs hw_3 hP hD hS => ?_)
  have hP : va_P D vwCl [(m_s, .inl (cy 1, 383, .inl (sD 0))), (m0, .inr (11, [.int 0, .ref m_tape, .int 0, .int 0, .int 0, .int 940, .ref m_s, .ref m_h, .ref m_read, .ref m_names, .ref m_reserved, .int 0, .int 0, .int 0, .int 0, .int 0, .int 0, .long 0, .int 0, .int 0, .int 0, .int 0, .int 0, .int 0, .int 0, .ref m_undone, .ref m_before, .int 0, .ref m_far, .ref m_wayRow, .int (-1), .ref m_keptRow, .ref m_askedRow, .ref m_rares, .ref m_trial, .int (-1), .int (-1), .ref m_hangs, .ref m_paths, .int 0, .int 0, .int 0, .int 0, .ref m_text, .int 0, .int 0, .ref m_toldAt, .int 0, .ref m_stack, .int 0, .int 0, .int 0, .int 0, .int 0, .ref m_truths, .ref m_imaged, .ref m_namesKept, .ref m_areKept]))] H := hP
  have hD : va_D A [(m_s, .inl (cy 1, 383, .inl (sD 0))), (m0, .inr (11, [.int 0, .ref m_tape, .int 0, .int 0, .int 0, .int 940, .ref m_s, .ref m_h, .ref m_read, .ref m_names, .ref m_reserved, .int 0, .int 0, .int 0, .int 0, .int 0, .int 0, .long 0, .int 0, .int 0, .int 0, .int 0, .int 0, .int 0, .int 0, .ref m_undone, .ref m_before, .int 0, .ref m_far, .ref m_wayRow, .int (-1), .ref m_keptRow, .ref m_askedRow, .ref m_rares, .ref m_trial, .int (-1), .int (-1), .ref m_hangs, .ref m_paths, .int 0, .int 0, .int 0, .int 0, .ref m_text, .int 0, .int 0, .ref m_toldAt, .int 0, .ref m_stack, .int 0, .int 0, .int 0, .int 0, .int 0, .ref m_truths, .ref m_imaged, .ref m_namesKept, .ref m_areKept]))] := hD
  refine lv_iload_n hx hb dX11_asked_12 rfl (lv_at hl 1 rfl) ?_
  refine lv_iconst (v := 1) hx hb dX11_asked_13 (by decide) ?_
  refine lv_iconst (v := 3) hx hb dX11_asked_14 (by decide) ?_
  refine q_ai (wr := [(m_s, .inl (cy 1, 383, .inl (sD 0))), (m0, .inr (11, [.int 0, .ref m_tape, .int 0, .int 0, .int 0, .int 940, .ref m_s, .ref m_h, .ref m_read, .ref m_names, .ref m_reserved, .int 0, .int 0, .int 0, .int 0, .int 0, .int 0, .long 0, .int 0, .int 0, .int 0, .int 0, .int 0, .int 0, .int 0, .ref m_undone, .ref m_before, .int 0, .ref m_far, .ref m_wayRow, .int (-1), .ref m_keptRow, .ref m_askedRow, .ref m_rares, .ref m_trial, .int (-1), .int (-1), .ref m_hangs, .ref m_paths, .int 0, .int 0, .int 0, .int 0, .ref m_text, .int 0, .int 0, .ref m_toldAt, .int 0, .ref m_stack, .int 0, .int 0, .int 0, .int 0, .int 0, .ref m_truths, .ref m_imaged, .ref m_namesKept, .ref m_areKept]))]) (r_S (As := [.int n, .int 1, .int 3]) (rest := []) (wc := []) C (q_subP hP [] rfl) (hD.sub [] (by decide) rfl) (c_isIn l D cy n 1 3 _ ) kwS_X11_isIn kM_RX11_206 ⟨Nat.le_of_ble_eq_true rfl, Nat.le_of_ble_eq_true rfl⟩ rfl hl.1 rfl (Nat.le_of_ble_eq_true rfl) dX11_asked_15 ⟨Nat.le_of_ble_eq_true rfl, Nat.le_of_ble_eq_true rfl⟩) C.2.2.2.2.2.2.1 hP hD hS [] [0, 1] rfl rfl (by decide) (by decide) (fun r_5 u_4 H locs hw_6 hP hD hS => ?_)
  have hP : va_P D vwCl [(m_s, .inl (cy 1, 383, .inl (sD 0))), (m0, .inr (11, [.int 0, .ref m_tape, .int 0, .int 0, .int 0, .int 940, .ref m_s, .ref m_h, .ref m_read, .ref m_names, .ref m_reserved, .int 0, .int 0, .int 0, .int 0, .int 0, .int 0, .long 0, .int 0, .int 0, .int 0, .int 0, .int 0, .int 0, .int 0, .ref m_undone, .ref m_before, .int 0, .ref m_far, .ref m_wayRow, .int (-1), .ref m_keptRow, .ref m_askedRow, .ref m_rares, .ref m_trial, .int (-1), .int (-1), .ref m_hangs, .ref m_paths, .int 0, .int 0, .int 0, .int 0, .ref m_text, .int 0, .int 0, .ref m_toldAt, .int 0, .ref m_stack, .int 0, .int 0, .int 0, .int 0, .int 0, .ref m_truths, .ref m_imaged, .ref m_namesKept, .ref m_areKept]))] H := hP
  have hD : va_D A [(m_s, .inl (cy 1, 383, .inl (sD 0))), (m0, .inr (11, [.int 0, .ref m_tape, .int 0, .int 0, .int 0, .int 940, .ref m_s, .ref m_h, .ref m_read, .ref m_names, .ref m_reserved, .int 0, .int 0, .int 0, .int 0, .int 0, .int 0, .long 0, .int 0, .int 0, .int 0, .int 0, .int 0, .int 0, .int 0, .ref m_undone, .ref m_before, .int 0, .ref m_far, .ref m_wayRow, .int (-1), .ref m_keptRow, .ref m_askedRow, .ref m_rares, .ref m_trial, .int (-1), .int (-1), .ref m_hangs, .ref m_paths, .int 0, .int 0, .int 0, .int 0, .ref m_text, .int 0, .int 0, .ref m_toldAt, .int 0, .ref m_stack, .int 0, .int 0, .int 0, .int 0, .int 0, .ref m_truths, .ref m_imaged, .ref m_namesKept, .ref m_areKept]))] := hD
  rcases rJn_c (lo := 1) (hi := 3) (rJn_lit (a := 1) (b := 3) hw_6 (by decide) (by decide)) with ⟨rfl, i_7a, i_7b⟩ | ⟨rfl, i_7n⟩
  · refine lv_if_eq (tgt := 59) hx hb dX11_asked_18 (by decide) (fun c_0 => absurd c_0 (by decide)) (fun _ => ?_)
    refine lv_aload_n hx hb dX11_asked_21 rfl (lv_at hl 0 rfl) ?_
    refine q_get (v := .ref m_s) C hP 1 6 rfl rfl inX11 (by decide) kF_RX11_33 rfl rfl dX11_asked_22 ?_
    refine lv_bipush (v := 104) hx hb dX11_asked_25 (by decide) ?_
    refine q_iald (v := 0) C hP 0 rfl (vin (by decide +kernel)) (by decide +kernel) dX11_asked_27 ?_
    refine lv_iload_n hx hb dX11_asked_28 rfl (lv_at hl 1 rfl) ?_
    refine lv_iadd hx hb dX11_asked_29 ?_
    refine lv_sipush (v := 400) hx hb dX11_asked_30 (by decide) ?_
    refine lv_icmp_gt (tgt := 59) hx hb dX11_asked_33 (by decide) (fun c_8 => ?_) (fun c_8 => ?_)
    · refine lv_iconst (v := (-1)) hx hb dX11_asked_59 (by decide) ?_
      exact q_iret (rm := (Rm 1 22 0 0)) C hS () rfl rfl (q_subP hP [] rfl) (hD.sub [] (by decide) rfl) (Nat.le_of_ble_eq_true rfl) (Nat.le_of_ble_eq_true rfl) dX11_asked_60
    · refine lv_aload_n hx hb dX11_asked_36 rfl (lv_at hl 0 rfl) ?_
      refine q_get (v := .int 0) C hP 1 3 rfl rfl inX11 (by decide) kF_RX11_18 rfl rfl dX11_asked_37 ?_
      refine lv_iconst (v := 2) hx hb dX11_asked_40 (by decide) ?_
      refine lv_bipush (v := 16) hx hb dX11_asked_41 (by decide) ?_
      refine q_ai (wr := [(m_s, .inl (cy 1, 383, .inl (sD 0))), (m0, .inr (11, [.int 0, .ref m_tape, .int 0, .int 0, .int 0, .int 940, .ref m_s, .ref m_h, .ref m_read, .ref m_names, .ref m_reserved, .int 0, .int 0, .int 0, .int 0, .int 0, .int 0, .long 0, .int 0, .int 0, .int 0, .int 0, .int 0, .int 0, .int 0, .ref m_undone, .ref m_before, .int 0, .ref m_far, .ref m_wayRow, .int (-1), .ref m_keptRow, .ref m_askedRow, .ref m_rares, .ref m_trial, .int (-1), .int (-1), .ref m_hangs, .ref m_paths, .int 0, .int 0, .int 0, .int 0, .ref m_text, .int 0, .int 0, .ref m_toldAt, .int 0, .ref m_stack, .int 0, .int 0, .int 0, .int 0, .int 0, .ref m_truths, .ref m_imaged, .ref m_namesKept, .ref m_areKept]))]) (r_S (As := [.int 0, .int 2, .int 16]) (rest := []) (wc := []) C (q_subP hP [] rfl) (hD.sub [] (by decide) rfl) (c_isIn l D cy 0 2 16 _ ) kwS_X11_isIn kM_RX11_206 ⟨Nat.le_of_ble_eq_true rfl, Nat.le_of_ble_eq_true rfl⟩ rfl hl.1 rfl (Nat.le_of_ble_eq_true rfl) dX11_asked_43 ⟨Nat.le_of_ble_eq_true rfl, Nat.le_of_ble_eq_true rfl⟩) C.2.2.2.2.2.2.1 hP hD hS [] [0, 1] rfl rfl (by decide) (by decide) (fun r_10 u_9 H locs hw_11 hP hD hS => ?_)
      have hP : va_P D vwCl [(m_s, .inl (cy 1, 383, .inl (sD 0))), (m0, .inr (11, [.int 0, .ref m_tape, .int 0, .int 0, .int 0, .int 940, .ref m_s, .ref m_h, .ref m_read, .ref m_names, .ref m_reserved, .int 0, .int 0, .int 0, .int 0, .int 0, .int 0, .long 0, .int 0, .int 0, .int 0, .int 0, .int 0, .int 0, .int 0, .ref m_undone, .ref m_before, .int 0, .ref m_far, .ref m_wayRow, .int (-1), .ref m_keptRow, .ref m_askedRow, .ref m_rares, .ref m_trial, .int (-1), .int (-1), .ref m_hangs, .ref m_paths, .int 0, .int 0, .int 0, .int 0, .ref m_text, .int 0, .int 0, .ref m_toldAt, .int 0, .ref m_stack, .int 0, .int 0, .int 0, .int 0, .int 0, .ref m_truths, .ref m_imaged, .ref m_namesKept, .ref m_areKept]))] H := hP
      have hD : va_D A [(m_s, .inl (cy 1, 383, .inl (sD 0))), (m0, .inr (11, [.int 0, .ref m_tape, .int 0, .int 0, .int 0, .int 940, .ref m_s, .ref m_h, .ref m_read, .ref m_names, .ref m_reserved, .int 0, .int 0, .int 0, .int 0, .int 0, .int 0, .long 0, .int 0, .int 0, .int 0, .int 0, .int 0, .int 0, .int 0, .ref m_undone, .ref m_before, .int 0, .ref m_far, .ref m_wayRow, .int (-1), .ref m_keptRow, .ref m_askedRow, .ref m_rares, .ref m_trial, .int (-1), .int (-1), .ref m_hangs, .ref m_paths, .int 0, .int 0, .int 0, .int 0, .ref m_text, .int 0, .int 0, .ref m_toldAt, .int 0, .ref m_stack, .int 0, .int 0, .int 0, .int 0, .int 0, .ref m_truths, .ref m_imaged, .ref m_namesKept, .ref m_areKept]))] := hD
      obtain rfl : r_10 = 0 := Eq.trans (rJn_lit (a := 2) (b := 16) hw_11 (by decide) (by decide)) (by decide +kernel)
      refine lv_if_eq (tgt := 59) hx hb dX11_asked_46 (by decide) (fun _ => ?_) (fun c_0 => absurd (by decide) c_0)
      refine lv_iconst (v := (-1)) hx hb dX11_asked_59 (by decide) ?_
      exact q_iret (rm := (Rm 1 22 0 0)) C hS () rfl rfl (q_subP hP [] rfl) (hD.sub [] (by decide) rfl) (Nat.le_of_ble_eq_true rfl) (Nat.le_of_ble_eq_true rfl) dX11_asked_60
  · refine lv_if_eq (tgt := 59) hx hb dX11_asked_18 (by decide) (fun _ => ?_) (fun c_0 => absurd (by decide) c_0)
    refine lv_iconst (v := (-1)) hx hb dX11_asked_59 (by decide) ?_
    exact q_iret (rm := (Rm 1 22 0 0)) C hS () rfl rfl (q_subP hP [] rfl) (hD.sub [] (by decide) rfl) (Nat.le_of_ble_eq_true rfl) (Nat.le_of_ble_eq_true rfl) dX11_asked_60
set_option maxHeartbeats 4000000 in
set_option maxRecDepth 100000 in
theorem y_spun (l : Launch) (D : va_G) (cy : Nat → ClassId) (m0 : Nat) (m_tape : Nat) (m_s : Nat) (m_h : Nat) (m_read : Nat) (m_names : Nat) (m_reserved : Nat) (m_undone : Nat) (m_before : Nat) (m_far : Nat) (m_wayRow : Nat) (m_keptRow : Nat) (m_askedRow : Nat) (m_rares : Nat) (m_trial : Nat) (m_hangs : Nat) (m_paths : Nat) (m_text : Nat) (m_toldAt : Nat) (m_stack : Nat) (m_truths : Nat) (m_imaged : Nat) (m_namesKept : Nat) (m_areKept : Nat) (sz : Nat)  : MI l yX11_spun cX11_spun 5 (some .int) (Rm 1 22 0 0) D cy [.ref m0] sz [(m0, .inr (11, [.int 0, .ref m_tape, .int 0, .int 0, .int 0, .int 0, .ref m_s, .ref m_h, .ref m_read, .ref m_names, .ref m_reserved, .int 0, .int 0, .int 0, .int 0, .int 0, .int 0, .long 0, .int 0, .int 0, .int 0, .int 0, .int 0, .int 0, .int 0, .ref m_undone, .ref m_before, .int 0, .ref m_far, .ref m_wayRow, .int (-1), .ref m_keptRow, .ref m_askedRow, .ref m_rares, .ref m_trial, .int (-1), .int (-1), .ref m_hangs, .ref m_paths, .int 0, .int 0, .int 0, .int 0, .ref m_text, .int 0, .int 0, .ref m_toldAt, .int 0, .ref m_stack, .int 0, .int 0, .int 0, .int 0, .int 0, .ref m_truths, .ref m_imaged, .ref m_namesKept, .ref m_areKept]))] (fun (r : Int32) (u : Unit) => r = (-1)) (fun u : Unit => []) := by
  refine MI.enter (by decide) (Nat.le_of_ble_eq_true rfl) ?_
  intro p e s m below meth c ls A hsz hAe C hP hD hS hl
  have C : Cx p s m _ meth c cX11_spun 5 (some .int) RX11 "spun" D cy A := C
  have hx := C.1
  have hb := C.2.1
  have hl : lv_has ls 5 [(0, .ref m0)] := hl
  refine lv_aload_n hx hb dX11_spun_0 rfl (lv_at hl 0 rfl) ?_
  refine lv_iconst (v := 0) hx hb dX11_spun_1 (by decide) ?_
  refine q_put (v := .int 0) (w' := [(m0, .inr (11, [.int 0, .ref m_tape, .int 0, .int 0, .int 0, .int 0, .ref m_s, .ref m_h, .ref m_read, .ref m_names, .ref m_reserved, .int 0, .int 0, .int 0, .int 0, .int 0, .int 0, .long 0, .int 0, .int 0, .int 0, .int 0, .int 0, .int 0, .int 0, .ref m_undone, .ref m_before, .int 0, .ref m_far, .ref m_wayRow, .int (-1), .ref m_keptRow, .ref m_askedRow, .ref m_rares, .ref m_trial, .int (-1), .int (-1), .ref m_hangs, .ref m_paths, .int 0, .int 0, .int 0, .int 0, .ref m_text, .int 0, .int 0, .ref m_toldAt, .int 0, .ref m_stack, .int 0, .int 0, .int 0, .int 0, .int 0, .ref m_truths, .ref m_imaged, .ref m_namesKept, .ref m_areKept]))]) (ty := .int) C hP hD hS 0 0 rfl rfl inX11 tyX11 tyX11_ok nmX11 (by decide) kF_RX11_1 rfl rfl rfl rfl rfl (Nat.le_of_ble_eq_true rfl) rfl dX11_spun_2 (fun H locs hP hD hS => ?_)
  refine lv_aload_n hx hb dX11_spun_5 rfl (lv_at hl 0 rfl) ?_
  refine lv_sipush (v := 940) hx hb dX11_spun_6 (by decide) ?_
  refine q_av (wr := []) (r_V (q0 := 0) (As := [.int 940]) (rest := []) (wc := [(m0, .inr (11, [.int 0, .ref m_tape, .int 0, .int 0, .int 0, .int 0, .ref m_s, .ref m_h, .ref m_read, .ref m_names, .ref m_reserved, .int 0, .int 0, .int 0, .int 0, .int 0, .int 0, .long 0, .int 0, .int 0, .int 0, .int 0, .int 0, .int 0, .int 0, .ref m_undone, .ref m_before, .int 0, .ref m_far, .ref m_wayRow, .int (-1), .ref m_keptRow, .ref m_askedRow, .ref m_rares, .ref m_trial, .int (-1), .int (-1), .ref m_hangs, .ref m_paths, .int 0, .int 0, .int 0, .int 0, .ref m_text, .int 0, .int 0, .ref m_toldAt, .int 0, .ref m_stack, .int 0, .int 0, .int 0, .int 0, .int 0, .ref m_truths, .ref m_imaged, .ref m_namesKept, .ref m_areKept]))]) C (q_subP hP [0] rfl) (hD.sub [0] (by decide) rfl) (m_taken_940 l D cy m0 m_tape m_s m_h m_read m_names m_reserved m_undone m_before m_far m_wayRow m_keptRow m_askedRow m_rares m_trial m_hangs m_paths m_text m_toldAt m_stack m_truths m_imaged m_namesKept m_areKept _ ) kwV_X11_taken kM_RX11_276 rfl rfl ⟨Nat.le_of_ble_eq_true rfl, Nat.le_of_ble_eq_true rfl⟩ rfl hl.1 rfl (Nat.le_of_ble_eq_true rfl) dX11_spun_9 ⟨Nat.le_of_ble_eq_true rfl, Nat.le_of_ble_eq_true rfl⟩) C.2.2.2.2.2.2.1 hP hD hS [0] [] rfl rfl (by decide) (by decide) (fun u_1 H locs hw_3 hP hD hS => ?_)
  have hP : va_P D vwCl [(m0, .inr (11, [.int 0, .ref m_tape, .int 0, .int 0, .int 0, .int 940, .ref m_s, .ref m_h, .ref m_read, .ref m_names, .ref m_reserved, .int 0, .int 0, .int 0, .int 0, .int 0, .int 0, .long 0, .int 0, .int 0, .int 0, .int 0, .int 0, .int 0, .int 0, .ref m_undone, .ref m_before, .int 0, .ref m_far, .ref m_wayRow, .int (-1), .ref m_keptRow, .ref m_askedRow, .ref m_rares, .ref m_trial, .int (-1), .int (-1), .ref m_hangs, .ref m_paths, .int 0, .int 0, .int 0, .int 0, .ref m_text, .int 0, .int 0, .ref m_toldAt, .int 0, .ref m_stack, .int 0, .int 0, .int 0, .int 0, .int 0, .ref m_truths, .ref m_imaged, .ref m_namesKept, .ref m_areKept]))] H := hP
  have hD : va_D A [(m0, .inr (11, [.int 0, .ref m_tape, .int 0, .int 0, .int 0, .int 940, .ref m_s, .ref m_h, .ref m_read, .ref m_names, .ref m_reserved, .int 0, .int 0, .int 0, .int 0, .int 0, .int 0, .long 0, .int 0, .int 0, .int 0, .int 0, .int 0, .int 0, .int 0, .ref m_undone, .ref m_before, .int 0, .ref m_far, .ref m_wayRow, .int (-1), .ref m_keptRow, .ref m_askedRow, .ref m_rares, .ref m_trial, .int (-1), .int (-1), .ref m_hangs, .ref m_paths, .int 0, .int 0, .int 0, .int 0, .ref m_text, .int 0, .int 0, .ref m_toldAt, .int 0, .ref m_stack, .int 0, .int 0, .int 0, .int 0, .int 0, .ref m_truths, .ref m_imaged, .ref m_namesKept, .ref m_areKept]))] := hD
  refine lv_aload_n hx hb dX11_spun_12 rfl (lv_at hl 0 rfl) ?_
  refine q_get (v := .int 0) C hP 0 3 rfl rfl inX11 (by decide) kF_RX11_18 rfl rfl dX11_spun_13 ?_
  refine lv_iconst (v := 3) hx hb dX11_spun_16 (by decide) ?_
  refine lv_bipush (v := 18) hx hb dX11_spun_17 (by decide) ?_
  refine q_ai (wr := [(m0, .inr (11, [.int 0, .ref m_tape, .int 0, .int 0, .int 0, .int 940, .ref m_s, .ref m_h, .ref m_read, .ref m_names, .ref m_reserved, .int 0, .int 0, .int 0, .int 0, .int 0, .int 0, .long 0, .int 0, .int 0, .int 0, .int 0, .int 0, .int 0, .int 0, .ref m_undone, .ref m_before, .int 0, .ref m_far, .ref m_wayRow, .int (-1), .ref m_keptRow, .ref m_askedRow, .ref m_rares, .ref m_trial, .int (-1), .int (-1), .ref m_hangs, .ref m_paths, .int 0, .int 0, .int 0, .int 0, .ref m_text, .int 0, .int 0, .ref m_toldAt, .int 0, .ref m_stack, .int 0, .int 0, .int 0, .int 0, .int 0, .ref m_truths, .ref m_imaged, .ref m_namesKept, .ref m_areKept]))]) (r_S (As := [.int 0, .int 3, .int 18]) (rest := []) (wc := []) C (q_subP hP [] rfl) (hD.sub [] (by decide) rfl) (c_isIn l D cy 0 3 18 _ ) kwS_X11_isIn kM_RX11_206 ⟨Nat.le_of_ble_eq_true rfl, Nat.le_of_ble_eq_true rfl⟩ rfl hl.1 rfl (Nat.le_of_ble_eq_true rfl) dX11_spun_19 ⟨Nat.le_of_ble_eq_true rfl, Nat.le_of_ble_eq_true rfl⟩) C.2.2.2.2.2.2.1 hP hD hS [] [0] rfl rfl (by decide) (by decide) (fun r_5 u_4 H locs hw_6 hP hD hS => ?_)
  have hP : va_P D vwCl [(m0, .inr (11, [.int 0, .ref m_tape, .int 0, .int 0, .int 0, .int 940, .ref m_s, .ref m_h, .ref m_read, .ref m_names, .ref m_reserved, .int 0, .int 0, .int 0, .int 0, .int 0, .int 0, .long 0, .int 0, .int 0, .int 0, .int 0, .int 0, .int 0, .int 0, .ref m_undone, .ref m_before, .int 0, .ref m_far, .ref m_wayRow, .int (-1), .ref m_keptRow, .ref m_askedRow, .ref m_rares, .ref m_trial, .int (-1), .int (-1), .ref m_hangs, .ref m_paths, .int 0, .int 0, .int 0, .int 0, .ref m_text, .int 0, .int 0, .ref m_toldAt, .int 0, .ref m_stack, .int 0, .int 0, .int 0, .int 0, .int 0, .ref m_truths, .ref m_imaged, .ref m_namesKept, .ref m_areKept]))] H := hP
  have hD : va_D A [(m0, .inr (11, [.int 0, .ref m_tape, .int 0, .int 0, .int 0, .int 940, .ref m_s, .ref m_h, .ref m_read, .ref m_names, .ref m_reserved, .int 0, .int 0, .int 0, .int 0, .int 0, .int 0, .long 0, .int 0, .int 0, .int 0, .int 0, .int 0, .int 0, .int 0, .ref m_undone, .ref m_before, .int 0, .ref m_far, .ref m_wayRow, .int (-1), .ref m_keptRow, .ref m_askedRow, .ref m_rares, .ref m_trial, .int (-1), .int (-1), .ref m_hangs, .ref m_paths, .int 0, .int 0, .int 0, .int 0, .ref m_text, .int 0, .int 0, .ref m_toldAt, .int 0, .ref m_stack, .int 0, .int 0, .int 0, .int 0, .int 0, .ref m_truths, .ref m_imaged, .ref m_namesKept, .ref m_areKept]))] := hD
  obtain rfl : r_5 = 0 := Eq.trans (rJn_lit (a := 3) (b := 18) hw_6 (by decide) (by decide)) (by decide +kernel)
  refine lv_if_eq (tgt := 34) hx hb dX11_spun_22 (by decide) (fun _ => ?_) (fun c_0 => absurd (by decide) c_0)
  refine lv_iconst (v := (-1)) hx hb dX11_spun_34 (by decide) ?_
  exact q_iret (rm := (Rm 1 22 0 0)) C hS () rfl rfl (q_subP hP [] rfl) (hD.sub [] (by decide) rfl) (Nat.le_of_ble_eq_true rfl) (Nat.le_of_ble_eq_true rfl) dX11_spun_35
set_option maxHeartbeats 4000000 in
set_option maxRecDepth 100000 in
theorem y_steps (l : Launch) (D : va_G) (cy : Nat → ClassId) (m0 : Nat) (m_tape : Nat) (m_s : Nat) (m_h : Nat) (m_read : Nat) (m_names : Nat) (m_reserved : Nat) (m_undone : Nat) (m_before : Nat) (m_far : Nat) (m_wayRow : Nat) (m_keptRow : Nat) (m_askedRow : Nat) (m_rares : Nat) (m_trial : Nat) (m_hangs : Nat) (m_paths : Nat) (m_text : Nat) (m_toldAt : Nat) (m_stack : Nat) (m_truths : Nat) (m_imaged : Nat) (m_namesKept : Nat) (m_areKept : Nat) (sz : Nat)  : MI l yX11_steps cX11_steps 1 (some .int) (Rm 0 0 0 0) D cy [.ref m0] sz [(m0, .inr (11, [.int 0, .ref m_tape, .int 0, .int 0, .int 0, .int 0, .ref m_s, .ref m_h, .ref m_read, .ref m_names, .ref m_reserved, .int 0, .int 0, .int 0, .int 0, .int 0, .int 0, .long 0, .int 0, .int 0, .int 0, .int 0, .int 0, .int 0, .int 0, .ref m_undone, .ref m_before, .int 0, .ref m_far, .ref m_wayRow, .int (-1), .ref m_keptRow, .ref m_askedRow, .ref m_rares, .ref m_trial, .int (-1), .int (-1), .ref m_hangs, .ref m_paths, .int 0, .int 0, .int 0, .int 0, .ref m_text, .int 0, .int 0, .ref m_toldAt, .int 0, .ref m_stack, .int 0, .int 0, .int 0, .int 0, .int 0, .ref m_truths, .ref m_imaged, .ref m_namesKept, .ref m_areKept]))] (fun (r : Int32) (u : Unit) => r = (-1)) (fun u : Unit => []) := by
  refine MI.enter (by decide) (Nat.le_of_ble_eq_true rfl) ?_
  intro p e s m below meth c ls A hsz hAe C hP hD hS hl
  have C : Cx p s m _ meth c cX11_steps 1 (some .int) RX11 "steps" D cy A := C
  have hx := C.1
  have hb := C.2.1
  have hl : lv_has ls 1 [(0, .ref m0)] := hl
  refine lv_aload_n hx hb dX11_steps_0 rfl (lv_at hl 0 rfl) ?_
  refine lv_iconst (v := 0) hx hb dX11_steps_1 (by decide) ?_
  refine q_put (v := .int 0) (w' := [(m0, .inr (11, [.int 0, .ref m_tape, .int 0, .int 0, .int 0, .int 0, .ref m_s, .ref m_h, .ref m_read, .ref m_names, .ref m_reserved, .int 0, .int 0, .int 0, .int 0, .int 0, .int 0, .long 0, .int 0, .int 0, .int 0, .int 0, .int 0, .int 0, .int 0, .ref m_undone, .ref m_before, .int 0, .ref m_far, .ref m_wayRow, .int (-1), .ref m_keptRow, .ref m_askedRow, .ref m_rares, .ref m_trial, .int (-1), .int (-1), .ref m_hangs, .ref m_paths, .int 0, .int 0, .int 0, .int 0, .ref m_text, .int 0, .int 0, .ref m_toldAt, .int 0, .ref m_stack, .int 0, .int 0, .int 0, .int 0, .int 0, .ref m_truths, .ref m_imaged, .ref m_namesKept, .ref m_areKept]))]) (ty := .int) C hP hD hS 0 0 rfl rfl inX11 tyX11 tyX11_ok nmX11 (by decide) kF_RX11_1 rfl rfl rfl rfl rfl (Nat.le_of_ble_eq_true rfl) rfl dX11_steps_2 (fun H locs hP hD hS => ?_)
  refine lv_aload_n hx hb dX11_steps_5 rfl (lv_at hl 0 rfl) ?_
  refine q_get (v := .int 0) C hP 0 40 rfl rfl inX11 (by decide) kF_RX11_412 rfl rfl dX11_steps_6 ?_
  refine lv_if_eq (tgt := 19) hx hb dX11_steps_9 (by decide) (fun _ => ?_) (fun c_0 => absurd (by decide) c_0)
  refine lv_iconst (v := (-1)) hx hb dX11_steps_19 (by decide) ?_
  exact q_iret (rm := (Rm 0 0 0 0)) C hS () rfl rfl (q_subP hP [] rfl) (hD.sub [] (by decide) rfl) (Nat.le_of_ble_eq_true rfl) (Nat.le_of_ble_eq_true rfl) dX11_steps_20
set_option maxHeartbeats 4000000 in
set_option maxRecDepth 100000 in
theorem y_turn (l : Launch) (D : va_G) (cy : Nat → ClassId) (m0 : Nat) (m_tape : Nat) (m_s : Nat) (m_h : Nat) (m_read : Nat) (m_names : Nat) (m_reserved : Nat) (m_undone : Nat) (m_before : Nat) (m_far : Nat) (m_wayRow : Nat) (m_keptRow : Nat) (m_askedRow : Nat) (m_rares : Nat) (m_trial : Nat) (m_hangs : Nat) (m_paths : Nat) (m_text : Nat) (m_toldAt : Nat) (m_stack : Nat) (m_truths : Nat) (m_imaged : Nat) (m_namesKept : Nat) (m_areKept : Nat) (sz : Nat)  : MI l yX11_turn cX11_turn 1 (some .int) (Rm 0 0 0 0) D cy [.ref m0] sz [(m0, .inr (11, [.int 0, .ref m_tape, .int 0, .int 0, .int 0, .int 0, .ref m_s, .ref m_h, .ref m_read, .ref m_names, .ref m_reserved, .int 0, .int 0, .int 0, .int 0, .int 0, .int 0, .long 0, .int 0, .int 0, .int 0, .int 0, .int 0, .int 0, .int 0, .ref m_undone, .ref m_before, .int 0, .ref m_far, .ref m_wayRow, .int (-1), .ref m_keptRow, .ref m_askedRow, .ref m_rares, .ref m_trial, .int (-1), .int (-1), .ref m_hangs, .ref m_paths, .int 0, .int 0, .int 0, .int 0, .ref m_text, .int 0, .int 0, .ref m_toldAt, .int 0, .ref m_stack, .int 0, .int 0, .int 0, .int 0, .int 0, .ref m_truths, .ref m_imaged, .ref m_namesKept, .ref m_areKept]))] (fun (r : Int32) (u : Unit) => r = (-1)) (fun u : Unit => []) := by
  refine MI.enter (by decide) (Nat.le_of_ble_eq_true rfl) ?_
  intro p e s m below meth c ls A hsz hAe C hP hD hS hl
  have C : Cx p s m _ meth c cX11_turn 1 (some .int) RX11 "turn" D cy A := C
  have hx := C.1
  have hb := C.2.1
  have hl : lv_has ls 1 [(0, .ref m0)] := hl
  refine lv_aload_n hx hb dX11_turn_0 rfl (lv_at hl 0 rfl) ?_
  refine lv_iconst (v := 0) hx hb dX11_turn_1 (by decide) ?_
  refine q_put (v := .int 0) (w' := [(m0, .inr (11, [.int 0, .ref m_tape, .int 0, .int 0, .int 0, .int 0, .ref m_s, .ref m_h, .ref m_read, .ref m_names, .ref m_reserved, .int 0, .int 0, .int 0, .int 0, .int 0, .int 0, .long 0, .int 0, .int 0, .int 0, .int 0, .int 0, .int 0, .int 0, .ref m_undone, .ref m_before, .int 0, .ref m_far, .ref m_wayRow, .int (-1), .ref m_keptRow, .ref m_askedRow, .ref m_rares, .ref m_trial, .int (-1), .int (-1), .ref m_hangs, .ref m_paths, .int 0, .int 0, .int 0, .int 0, .ref m_text, .int 0, .int 0, .ref m_toldAt, .int 0, .ref m_stack, .int 0, .int 0, .int 0, .int 0, .int 0, .ref m_truths, .ref m_imaged, .ref m_namesKept, .ref m_areKept]))]) (ty := .int) C hP hD hS 0 0 rfl rfl inX11 tyX11 tyX11_ok nmX11 (by decide) kF_RX11_1 rfl rfl rfl rfl rfl (Nat.le_of_ble_eq_true rfl) rfl dX11_turn_2 (fun H locs hP hD hS => ?_)
  refine lv_aload_n hx hb dX11_turn_5 rfl (lv_at hl 0 rfl) ?_
  refine q_get (v := .int 0) C hP 0 42 rfl rfl inX11 (by decide) kF_RX11_431 rfl rfl dX11_turn_6 ?_
  refine lv_if_eq (tgt := 19) hx hb dX11_turn_9 (by decide) (fun _ => ?_) (fun c_0 => absurd (by decide) c_0)
  refine lv_iconst (v := (-1)) hx hb dX11_turn_19 (by decide) ?_
  exact q_iret (rm := (Rm 0 0 0 0)) C hS () rfl rfl (q_subP hP [] rfl) (hD.sub [] (by decide) rfl) (Nat.le_of_ble_eq_true rfl) (Nat.le_of_ble_eq_true rfl) dX11_turn_20
set_option maxHeartbeats 4000000 in
set_option maxRecDepth 100000 in
theorem y_told (l : Launch) (D : va_G) (cy : Nat → ClassId) (m0 : Nat) (n : Int32) (m_tape : Nat) (m_s : Nat) (m_h : Nat) (m_read : Nat) (m_names : Nat) (m_reserved : Nat) (m_undone : Nat) (m_before : Nat) (m_far : Nat) (m_wayRow : Nat) (m_keptRow : Nat) (m_askedRow : Nat) (m_rares : Nat) (m_trial : Nat) (m_hangs : Nat) (m_paths : Nat) (m_text : Nat) (m_toldAt : Nat) (m_stack : Nat) (m_truths : Nat) (m_imaged : Nat) (m_namesKept : Nat) (m_areKept : Nat) (sz : Nat)  : MI l yX11_told cX11_told 2 (some .int) (Rm 0 0 0 0) D cy [.ref m0, .int n] sz [(m0, .inr (11, [.int 0, .ref m_tape, .int 0, .int 0, .int 0, .int 0, .ref m_s, .ref m_h, .ref m_read, .ref m_names, .ref m_reserved, .int 0, .int 0, .int 0, .int 0, .int 0, .int 0, .long 0, .int 0, .int 0, .int 0, .int 0, .int 0, .int 0, .int 0, .ref m_undone, .ref m_before, .int 0, .ref m_far, .ref m_wayRow, .int (-1), .ref m_keptRow, .ref m_askedRow, .ref m_rares, .ref m_trial, .int (-1), .int (-1), .ref m_hangs, .ref m_paths, .int 0, .int 0, .int 0, .int 0, .ref m_text, .int 0, .int 0, .ref m_toldAt, .int 0, .ref m_stack, .int 0, .int 0, .int 0, .int 0, .int 0, .ref m_truths, .ref m_imaged, .ref m_namesKept, .ref m_areKept]))] (fun (r : Int32) (u : Unit) => r = (-1)) (fun u : Unit => []) := by
  refine MI.enter (by decide) (Nat.le_of_ble_eq_true rfl) ?_
  intro p e s m below meth c ls A hsz hAe C hP hD hS hl
  have C : Cx p s m _ meth c cX11_told 2 (some .int) RX11 "told" D cy A := C
  have hx := C.1
  have hb := C.2.1
  have hl : lv_has ls 2 [(0, .ref m0), (1, .int n)] := hl
  refine lv_aload_n hx hb dX11_told_0 rfl (lv_at hl 0 rfl) ?_
  refine lv_iconst (v := 0) hx hb dX11_told_1 (by decide) ?_
  refine q_put (v := .int 0) (w' := [(m0, .inr (11, [.int 0, .ref m_tape, .int 0, .int 0, .int 0, .int 0, .ref m_s, .ref m_h, .ref m_read, .ref m_names, .ref m_reserved, .int 0, .int 0, .int 0, .int 0, .int 0, .int 0, .long 0, .int 0, .int 0, .int 0, .int 0, .int 0, .int 0, .int 0, .ref m_undone, .ref m_before, .int 0, .ref m_far, .ref m_wayRow, .int (-1), .ref m_keptRow, .ref m_askedRow, .ref m_rares, .ref m_trial, .int (-1), .int (-1), .ref m_hangs, .ref m_paths, .int 0, .int 0, .int 0, .int 0, .ref m_text, .int 0, .int 0, .ref m_toldAt, .int 0, .ref m_stack, .int 0, .int 0, .int 0, .int 0, .int 0, .ref m_truths, .ref m_imaged, .ref m_namesKept, .ref m_areKept]))]) (ty := .int) C hP hD hS 0 0 rfl rfl inX11 tyX11 tyX11_ok nmX11 (by decide) kF_RX11_1 rfl rfl rfl rfl rfl (Nat.le_of_ble_eq_true rfl) rfl dX11_told_2 (fun H locs hP hD hS => ?_)
  refine lv_aload_n hx hb dX11_told_5 rfl (lv_at hl 0 rfl) ?_
  refine q_get (v := .int 0) C hP 0 47 rfl rfl inX11 (by decide) kF_RX11_470 rfl rfl dX11_told_6 ?_
  refine lv_if_eq (tgt := 30) hx hb dX11_told_9 (by decide) (fun _ => ?_) (fun c_0 => absurd (by decide) c_0)
  refine lv_iconst (v := (-1)) hx hb dX11_told_30 (by decide) ?_
  exact q_iret (rm := (Rm 0 0 0 0)) C hS () rfl rfl (q_subP hP [] rfl) (hD.sub [] (by decide) rfl) (Nat.le_of_ble_eq_true rfl) (Nat.le_of_ble_eq_true rfl) dX11_told_31
set_option maxHeartbeats 4000000 in
set_option maxRecDepth 100000 in
theorem y_odds (l : Launch) (D : va_G) (cy : Nat → ClassId) (m0 : Nat) (n : Int32) (v1 : Int32) (v2 : Int32) (m_tape : Nat) (m_s : Nat) (m_h : Nat) (m_read : Nat) (m_names : Nat) (m_reserved : Nat) (m_undone : Nat) (m_before : Nat) (m_far : Nat) (m_wayRow : Nat) (m_keptRow : Nat) (m_askedRow : Nat) (m_rares : Nat) (m_trial : Nat) (m_hangs : Nat) (m_paths : Nat) (m_text : Nat) (m_toldAt : Nat) (m_stack : Nat) (m_truths : Nat) (m_imaged : Nat) (m_namesKept : Nat) (m_areKept : Nat) (sz : Nat)  : MI l yX11_odds cX11_odds 6 (some .int) (Rm 2 43 0 0) D cy [.ref m0, .int n, .int v1, .int v2] sz [(m0, .inr (11, [.int 0, .ref m_tape, .int 0, .int 0, .int 0, .int 0, .ref m_s, .ref m_h, .ref m_read, .ref m_names, .ref m_reserved, .int 0, .int 0, .int 0, .int 0, .int 0, .int 0, .long 0, .int 0, .int 0, .int 0, .int 0, .int 0, .int 0, .int 0, .ref m_undone, .ref m_before, .int 0, .ref m_far, .ref m_wayRow, .int (-1), .ref m_keptRow, .ref m_askedRow, .ref m_rares, .ref m_trial, .int (-1), .int (-1), .ref m_hangs, .ref m_paths, .int 0, .int 0, .int 0, .int 0, .ref m_text, .int 0, .int 0, .ref m_toldAt, .int 0, .ref m_stack, .int 0, .int 0, .int 0, .int 0, .int 0, .ref m_truths, .ref m_imaged, .ref m_namesKept, .ref m_areKept])), (m_s, .inl (cy 1, 383, .inl (sD 0)))] (fun (r : Int32) (u : Unit) => r = (-1)) (fun u : Unit => []) := by
  refine MI.enter (by decide) (Nat.le_of_ble_eq_true rfl) ?_
  intro p e s m below meth c ls A hsz hAe C hP hD hS hl
  have C : Cx p s m _ meth c cX11_odds 6 (some .int) RX11 "odds" D cy A := C
  have hx := C.1
  have hb := C.2.1
  have hl : lv_has ls 6 [(0, .ref m0), (1, .int n), (2, .int v1), (3, .int v2)] := hl
  refine lv_aload_n hx hb dX11_odds_0 rfl (lv_at hl 0 rfl) ?_
  refine lv_iconst (v := 0) hx hb dX11_odds_1 (by decide) ?_
  refine q_put (v := .int 0) (w' := [(m0, .inr (11, [.int 0, .ref m_tape, .int 0, .int 0, .int 0, .int 0, .ref m_s, .ref m_h, .ref m_read, .ref m_names, .ref m_reserved, .int 0, .int 0, .int 0, .int 0, .int 0, .int 0, .long 0, .int 0, .int 0, .int 0, .int 0, .int 0, .int 0, .int 0, .ref m_undone, .ref m_before, .int 0, .ref m_far, .ref m_wayRow, .int (-1), .ref m_keptRow, .ref m_askedRow, .ref m_rares, .ref m_trial, .int (-1), .int (-1), .ref m_hangs, .ref m_paths, .int 0, .int 0, .int 0, .int 0, .ref m_text, .int 0, .int 0, .ref m_toldAt, .int 0, .ref m_stack, .int 0, .int 0, .int 0, .int 0, .int 0, .ref m_truths, .ref m_imaged, .ref m_namesKept, .ref m_areKept])), (m_s, .inl (cy 1, 383, .inl (sD 0)))]) (ty := .int) C hP hD hS 0 0 rfl rfl inX11 tyX11 tyX11_ok nmX11 (by decide) kF_RX11_1 rfl rfl rfl rfl rfl (Nat.le_of_ble_eq_true rfl) rfl dX11_odds_2 (fun H locs hP hD hS => ?_)
  refine lv_aload_n hx hb dX11_odds_5 rfl (lv_at hl 0 rfl) ?_
  refine lv_iload_n hx hb dX11_odds_6 rfl (lv_at hl 1 rfl) ?_
  refine q_ai (wr := []) (r_V (q0 := 0) (As := [.int n]) (rest := []) (wc := [(m0, .inr (11, [.int 0, .ref m_tape, .int 0, .int 0, .int 0, .int 0, .ref m_s, .ref m_h, .ref m_read, .ref m_names, .ref m_reserved, .int 0, .int 0, .int 0, .int 0, .int 0, .int 0, .long 0, .int 0, .int 0, .int 0, .int 0, .int 0, .int 0, .int 0, .ref m_undone, .ref m_before, .int 0, .ref m_far, .ref m_wayRow, .int (-1), .ref m_keptRow, .ref m_askedRow, .ref m_rares, .ref m_trial, .int (-1), .int (-1), .ref m_hangs, .ref m_paths, .int 0, .int 0, .int 0, .int 0, .ref m_text, .int 0, .int 0, .ref m_toldAt, .int 0, .ref m_stack, .int 0, .int 0, .int 0, .int 0, .int 0, .ref m_truths, .ref m_imaged, .ref m_namesKept, .ref m_areKept])), (m_s, .inl (cy 1, 383, .inl (sD 0)))]) C (q_subP hP [0, 1] rfl) (hD.sub [0, 1] (by decide) rfl) (m_isBook l D cy m0 n 0 m_tape m_s m_h m_read m_names m_reserved m_undone m_before m_far m_wayRow m_keptRow m_askedRow m_rares m_trial m_hangs m_paths m_text m_toldAt m_stack m_truths m_imaged m_namesKept m_areKept _ ) kwV_X11_isBook kM_RX11_306 rfl rfl ⟨Nat.le_of_ble_eq_true rfl, Nat.le_of_ble_eq_true rfl⟩ rfl hl.1 rfl (Nat.le_of_ble_eq_true rfl) dX11_odds_7 ⟨Nat.le_of_ble_eq_true rfl, Nat.le_of_ble_eq_true rfl⟩) C.2.2.2.2.2.2.1 hP hD hS [0, 1] [] rfl rfl (by decide) (by decide) (fun r_2 u_1 H locs hw_3 hP hD hS => ?_)
  have hP : va_P D vwCl [(m0, .inr (11, [.int 0, .ref m_tape, .int 0, .int 0, .int 0, .int 0, .ref m_s, .ref m_h, .ref m_read, .ref m_names, .ref m_reserved, .int 0, .int 0, .int 0, .int 0, .int 0, .int 0, .long 0, .int 0, .int 0, .int 0, .int 0, .int 0, .int 0, .int 0, .ref m_undone, .ref m_before, .int 0, .ref m_far, .ref m_wayRow, .int (-1), .ref m_keptRow, .ref m_askedRow, .ref m_rares, .ref m_trial, .int (-1), .int (-1), .ref m_hangs, .ref m_paths, .int 0, .int 0, .int 0, .int 0, .ref m_text, .int 0, .int 0, .ref m_toldAt, .int 0, .ref m_stack, .int 0, .int 0, .int 0, .int 0, .int 0, .ref m_truths, .ref m_imaged, .ref m_namesKept, .ref m_areKept])), (m_s, .inl (cy 1, 383, .inl (sD 0)))] H := hP
  have hD : va_D A [(m0, .inr (11, [.int 0, .ref m_tape, .int 0, .int 0, .int 0, .int 0, .ref m_s, .ref m_h, .ref m_read, .ref m_names, .ref m_reserved, .int 0, .int 0, .int 0, .int 0, .int 0, .int 0, .long 0, .int 0, .int 0, .int 0, .int 0, .int 0, .int 0, .int 0, .ref m_undone, .ref m_before, .int 0, .ref m_far, .ref m_wayRow, .int (-1), .ref m_keptRow, .ref m_askedRow, .ref m_rares, .ref m_trial, .int (-1), .int (-1), .ref m_hangs, .ref m_paths, .int 0, .int 0, .int 0, .int 0, .ref m_text, .int 0, .int 0, .ref m_toldAt, .int 0, .ref m_stack, .int 0, .int 0, .int 0, .int 0, .int 0, .ref m_truths, .ref m_imaged, .ref m_namesKept, .ref m_areKept])), (m_s, .inl (cy 1, 383, .inl (sD 0)))] := hD
  obtain rfl : r_2 = 0 := hw_3
  refine lv_if_eq (tgt := 23) hx hb dX11_odds_10 (by decide) (fun _ => ?_) (fun c_0 => absurd (by decide) c_0)
  refine lv_iconst (v := (-1)) hx hb dX11_odds_23 (by decide) ?_
  exact q_iret (rm := (Rm 2 43 0 0)) C hS () rfl rfl (q_subP hP [] rfl) (hD.sub [] (by decide) rfl) (Nat.le_of_ble_eq_true rfl) (Nat.le_of_ble_eq_true rfl) dX11_odds_24
set_option maxHeartbeats 4000000 in
set_option maxRecDepth 100000 in
theorem y_said (l : Launch) (D : va_G) (cy : Nat → ClassId) (m0 : Nat) (n : Int32) (m_tape : Nat) (m_s : Nat) (m_h : Nat) (m_read : Nat) (m_names : Nat) (m_reserved : Nat) (m_undone : Nat) (m_before : Nat) (m_far : Nat) (m_wayRow : Nat) (m_keptRow : Nat) (m_askedRow : Nat) (m_rares : Nat) (m_trial : Nat) (m_hangs : Nat) (m_paths : Nat) (m_text : Nat) (m_toldAt : Nat) (m_stack : Nat) (m_truths : Nat) (m_imaged : Nat) (m_namesKept : Nat) (m_areKept : Nat) (sz : Nat)  : MI l yX11_said cX11_said 4 (some .int) (Rm 0 0 0 0) D cy [.ref m0, .int n] sz [(m0, .inr (11, [.int 0, .ref m_tape, .int 0, .int 0, .int 0, .int 0, .ref m_s, .ref m_h, .ref m_read, .ref m_names, .ref m_reserved, .int 0, .int 0, .int 0, .int 0, .int 0, .int 0, .long 0, .int 0, .int 0, .int 0, .int 0, .int 0, .int 0, .int 0, .ref m_undone, .ref m_before, .int 0, .ref m_far, .ref m_wayRow, .int (-1), .ref m_keptRow, .ref m_askedRow, .ref m_rares, .ref m_trial, .int (-1), .int (-1), .ref m_hangs, .ref m_paths, .int 0, .int 0, .int 0, .int 0, .ref m_text, .int 0, .int 0, .ref m_toldAt, .int 0, .ref m_stack, .int 0, .int 0, .int 0, .int 0, .int 0, .ref m_truths, .ref m_imaged, .ref m_namesKept, .ref m_areKept])), (m_s, .inl (cy 1, 383, .inl (sD 0)))] (fun (r : Int32) (u : Unit) => r = (-1)) (fun u : Unit => []) := by
  refine MI.enter (by decide) (Nat.le_of_ble_eq_true rfl) ?_
  intro p e s m below meth c ls A hsz hAe C hP hD hS hl
  have C : Cx p s m _ meth c cX11_said 4 (some .int) RX11 "said" D cy A := C
  have hx := C.1
  have hb := C.2.1
  have hl : lv_has ls 4 [(0, .ref m0), (1, .int n)] := hl
  refine lv_aload_n hx hb dX11_said_0 rfl (lv_at hl 0 rfl) ?_
  refine lv_iconst (v := 0) hx hb dX11_said_1 (by decide) ?_
  refine q_put (v := .int 0) (w' := [(m0, .inr (11, [.int 0, .ref m_tape, .int 0, .int 0, .int 0, .int 0, .ref m_s, .ref m_h, .ref m_read, .ref m_names, .ref m_reserved, .int 0, .int 0, .int 0, .int 0, .int 0, .int 0, .long 0, .int 0, .int 0, .int 0, .int 0, .int 0, .int 0, .int 0, .ref m_undone, .ref m_before, .int 0, .ref m_far, .ref m_wayRow, .int (-1), .ref m_keptRow, .ref m_askedRow, .ref m_rares, .ref m_trial, .int (-1), .int (-1), .ref m_hangs, .ref m_paths, .int 0, .int 0, .int 0, .int 0, .ref m_text, .int 0, .int 0, .ref m_toldAt, .int 0, .ref m_stack, .int 0, .int 0, .int 0, .int 0, .int 0, .ref m_truths, .ref m_imaged, .ref m_namesKept, .ref m_areKept])), (m_s, .inl (cy 1, 383, .inl (sD 0)))]) (ty := .int) C hP hD hS 0 0 rfl rfl inX11 tyX11 tyX11_ok nmX11 (by decide) kF_RX11_1 rfl rfl rfl rfl rfl (Nat.le_of_ble_eq_true rfl) rfl dX11_said_2 (fun H locs hP hD hS => ?_)
  refine lv_aload_n hx hb dX11_said_5 rfl (lv_at hl 0 rfl) ?_
  refine q_get (v := .ref m_s) C hP 0 6 rfl rfl inX11 (by decide) kF_RX11_33 rfl rfl dX11_said_6 ?_
  refine lv_sipush (v := 202) hx hb dX11_said_9 (by decide) ?_
  refine q_iald (v := 0) C hP 1 rfl (vin (by decide +kernel)) (by decide +kernel) dX11_said_12 ?_
  refine lv_if_eq (tgt := 21) hx hb dX11_said_13 (by decide) (fun _ => ?_) (fun c_0 => absurd (by decide) c_0)
  refine lv_iconst (v := (-1)) hx hb dX11_said_21 (by decide) ?_
  exact q_iret (rm := (Rm 0 0 0 0)) C hS () rfl rfl (q_subP hP [] rfl) (hD.sub [] (by decide) rfl) (Nat.le_of_ble_eq_true rfl) (Nat.le_of_ble_eq_true rfl) dX11_said_22
