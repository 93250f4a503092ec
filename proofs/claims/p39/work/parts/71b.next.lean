theorem dX11_next_0 : decode cX11_next 0 = .ok (.aload_n 0, 1) := by decide +kernel
theorem dX11_next_1 : decode cX11_next 1 = .ok (.invokevirtual 164, 3) := by decide +kernel
theorem kwV_X11_peek : MwV RX11 yX11_peek cX11_peek 1 (some .int) 0 := ⟨List.mem_filter.mpr ⟨List.mem_of_getElem? (i := 1697) (by decide +kernel), by decide +kernel⟩, List.mem_filter.mpr ⟨List.mem_of_getElem? (i := 1696) (by decide +kernel), by decide +kernel⟩, List.mem_filter.mpr ⟨List.mem_of_getElem? (i := 58) (by decide +kernel), by decide +kernel⟩, List.mem_filter.mpr ⟨List.mem_of_getElem? (i := 139) (by decide +kernel), by decide +kernel⟩, by decide +kernel⟩
theorem kM_RX11_164 : Cond.methodLink RX11 164 yX11_peek ∈ gT := List.mem_filter.mpr ⟨List.mem_of_getElem? (i := 1694) (by decide +kernel), by decide +kernel⟩
theorem dX11_next_4 : decode cX11_next 4 = .ok (.bipush 32, 2) := by decide +kernel
theorem dX11_next_6 : decode cX11_next 6 = .ok (.if_icmp .eq 12, 3) := by decide +kernel
theorem dX11_next_18 : decode cX11_next 18 = .ok (.aload_n 0, 1) := by decide +kernel
theorem dX11_next_19 : decode cX11_next 19 = .ok (.dup, 1) := by decide +kernel
theorem dX11_next_20 : decode cX11_next 20 = .ok (.getfield 21, 3) := by decide +kernel
theorem dX11_next_23 : decode cX11_next 23 = .ok (.iconst 1, 1) := by decide +kernel
theorem dX11_next_24 : decode cX11_next 24 = .ok (.iadd, 1) := by decide +kernel
theorem dX11_next_25 : decode cX11_next 25 = .ok (.putfield 21, 3) := by decide +kernel
theorem dX11_next_28 : decode cX11_next 28 = .ok (.goto (-28), 3) := by decide +kernel
theorem dX11_next_9 : decode cX11_next 9 = .ok (.aload_n 0, 1) := by decide +kernel
theorem dX11_next_10 : decode cX11_next 10 = .ok (.invokevirtual 164, 3) := by decide +kernel
theorem dX11_next_13 : decode cX11_next 13 = .ok (.bipush 10, 2) := by decide +kernel
theorem dX11_next_15 : decode cX11_next 15 = .ok (.if_icmp .ne 16, 3) := by decide +kernel
theorem dX11_next_31 : decode cX11_next 31 = .ok (.aload_n 0, 1) := by decide +kernel
theorem dX11_next_32 : decode cX11_next 32 = .ok (.aload_n 0, 1) := by decide +kernel
theorem dX11_next_33 : decode cX11_next 33 = .ok (.getfield 21, 3) := by decide +kernel
theorem dX11_next_36 : decode cX11_next 36 = .ok (.putfield 168, 3) := by decide +kernel
theorem dX11_next_39 : decode cX11_next 39 = .ok (.aload_n 0, 1) := by decide +kernel
theorem dX11_next_40 : decode cX11_next 40 = .ok (.iconst 0, 1) := by decide +kernel
theorem dX11_next_41 : decode cX11_next 41 = .ok (.putfield 171, 3) := by decide +kernel
theorem kF_RX11_171 : Cond.fieldLink RX11 171 "CobwebLibraryModel" "span" "I" ∈ gT := List.mem_filter.mpr ⟨List.mem_of_getElem? (i := 1518) (by decide +kernel), by decide +kernel⟩
theorem dX11_next_44 : decode cX11_next 44 = .ok (.aload_n 0, 1) := by decide +kernel
theorem dX11_next_45 : decode cX11_next 45 = .ok (.getfield 18, 3) := by decide +kernel
theorem dX11_next_48 : decode cX11_next 48 = .ok (.aload_n 0, 1) := by decide +kernel
theorem dX11_next_49 : decode cX11_next 49 = .ok (.getfield 24, 3) := by decide +kernel
theorem dX11_next_80 : decode cX11_next 80 = .ok (.aload_n 0, 1) := by decide +kernel
theorem dX11_next_81 : decode cX11_next 81 = .ok (.invokevirtual 164, 3) := by decide +kernel
theorem dX11_next_84 : decode cX11_next 84 = .ok (.istore_n 1, 1) := by decide +kernel
theorem dX11_next_85 : decode cX11_next 85 = .ok (.iload_n 1, 1) := by decide +kernel
theorem dX11_next_86 : decode cX11_next 86 = .ok (.ifCond .ge 9, 3) := by decide +kernel
theorem dX11_next_95 : decode cX11_next 95 = .ok (.iload_n 1, 1) := by decide +kernel
theorem dX11_next_96 : decode cX11_next 96 = .ok (.invokestatic 177, 3) := by decide +kernel
theorem kwS_X11_isSmall : MwS yX11_isSmall cX11_isSmall 1 (some .boolean) 1 := ⟨List.mem_filter.mpr ⟨List.mem_of_getElem? (i := 1700) (by decide +kernel), by decide +kernel⟩, List.mem_filter.mpr ⟨List.mem_of_getElem? (i := 1699) (by decide +kernel), by decide +kernel⟩, List.mem_filter.mpr ⟨List.mem_of_getElem? (i := 139) (by decide +kernel), by decide +kernel⟩, by decide +kernel⟩
theorem kM_RX11_177 : Cond.methodLink RX11 177 yX11_isSmall ∈ gT := List.mem_filter.mpr ⟨List.mem_of_getElem? (i := 1698) (by decide +kernel), by decide +kernel⟩
theorem dX11_next_164 : decode cX11_next 164 = .ok (.iload_n 1, 1) := by decide +kernel
theorem dX11_next_165 : decode cX11_next 165 = .ok (.invokestatic 177, 3) := by decide +kernel
theorem dX11_next_168 : decode cX11_next 168 = .ok (.istore_n 2, 1) := by decide +kernel
theorem dX11_next_169 : decode cX11_next 169 = .ok (.iconst 1, 1) := by decide +kernel
theorem dX11_next_170 : decode cX11_next 170 = .ok (.istore_n 3, 1) := by decide +kernel
theorem dX11_next_171 : decode cX11_next 171 = .ok (.aload_n 0, 1) := by decide +kernel
theorem dX11_next_172 : decode cX11_next 172 = .ok (.lconst 0, 1) := by decide +kernel
theorem dX11_next_173 : decode cX11_next 173 = .ok (.putfield 187, 3) := by decide +kernel
theorem dX11_next_176 : decode cX11_next 176 = .ok (.aload_n 0, 1) := by decide +kernel
theorem dX11_next_177 : decode cX11_next 177 = .ok (.iconst 0, 1) := by decide +kernel
theorem dX11_next_178 : decode cX11_next 178 = .ok (.putfield 184, 3) := by decide +kernel
theorem dX11_next_181 : decode cX11_next 181 = .ok (.aload_n 0, 1) := by decide +kernel
theorem dX11_next_182 : decode cX11_next 182 = .ok (.invokevirtual 164, 3) := by decide +kernel
theorem dX11_next_185 : decode cX11_next 185 = .ok (.invokestatic 177, 3) := by decide +kernel
theorem dX11_next_201 : decode cX11_next 201 = .ok (.iload_n 3, 1) := by decide +kernel
theorem dX11_next_221 : decode cX11_next 221 = .ok (.istore_n 3, 1) := by decide +kernel
theorem dX11_next_222 : decode cX11_next 222 = .ok (.aload_n 0, 1) := by decide +kernel
theorem dX11_next_223 : decode cX11_next 223 = .ok (.getfield 171, 3) := by decide +kernel
theorem dX11_next_226 : decode cX11_next 226 = .ok (.bipush 7, 2) := by decide +kernel
theorem dX11_next_248 : decode cX11_next 248 = .ok (.aload_n 0, 1) := by decide +kernel
theorem dX11_next_249 : decode cX11_next 249 = .ok (.getfield 171, 3) := by decide +kernel
theorem dX11_next_252 : decode cX11_next 252 = .ok (.iconst 3, 1) := by decide +kernel
theorem dX11_next_253 : decode cX11_next 253 = .ok (.if_icmp .ge 22, 3) := by decide +kernel
theorem dX11_next_275 : decode cX11_next 275 = .ok (.aload_n 0, 1) := by decide +kernel
theorem dX11_next_276 : decode cX11_next 276 = .ok (.dup, 1) := by decide +kernel
theorem dX11_next_277 : decode cX11_next 277 = .ok (.getfield 171, 3) := by decide +kernel
theorem dX11_next_280 : decode cX11_next 280 = .ok (.iconst 1, 1) := by decide +kernel
theorem dX11_next_281 : decode cX11_next 281 = .ok (.iadd, 1) := by decide +kernel
theorem dX11_next_282 : decode cX11_next 282 = .ok (.putfield 171, 3) := by decide +kernel
theorem dX11_next_285 : decode cX11_next 285 = .ok (.aload_n 0, 1) := by decide +kernel
theorem dX11_next_286 : decode cX11_next 286 = .ok (.dup, 1) := by decide +kernel
theorem dX11_next_287 : decode cX11_next 287 = .ok (.getfield 21, 3) := by decide +kernel
theorem dX11_next_290 : decode cX11_next 290 = .ok (.iconst 1, 1) := by decide +kernel
theorem dX11_next_291 : decode cX11_next 291 = .ok (.iadd, 1) := by decide +kernel
theorem dX11_next_292 : decode cX11_next 292 = .ok (.putfield 21, 3) := by decide +kernel
theorem dX11_next_295 : decode cX11_next 295 = .ok (.goto (-114), 3) := by decide +kernel
theorem dX11_next_256 : decode cX11_next 256 = .ok (.aload_n 0, 1) := by decide +kernel
theorem dX11_next_257 : decode cX11_next 257 = .ok (.bipush 10, 2) := by decide +kernel
theorem dX11_next_259 : decode cX11_next 259 = .ok (.aload_n 0, 1) := by decide +kernel
theorem dX11_next_260 : decode cX11_next 260 = .ok (.getfield 184, 3) := by decide +kernel
theorem dX11_next_263 : decode cX11_next 263 = .ok (.imul, 1) := by decide +kernel
theorem dX11_next_264 : decode cX11_next 264 = .ok (.aload_n 0, 1) := by decide +kernel
theorem dX11_next_265 : decode cX11_next 265 = .ok (.invokevirtual 164, 3) := by decide +kernel
theorem dX11_next_268 : decode cX11_next 268 = .ok (.iadd, 1) := by decide +kernel
theorem dX11_next_269 : decode cX11_next 269 = .ok (.bipush 48, 2) := by decide +kernel
theorem dX11_next_271 : decode cX11_next 271 = .ok (.isub, 1) := by decide +kernel
theorem dX11_next_272 : decode cX11_next 272 = .ok (.putfield 184, 3) := by decide +kernel
theorem dX11_next_228 : decode cX11_next 228 = .ok (.if_icmp .ge 20, 3) := by decide +kernel
theorem dX11_next_231 : decode cX11_next 231 = .ok (.aload_n 0, 1) := by decide +kernel
theorem dX11_next_232 : decode cX11_next 232 = .ok (.aload_n 0, 1) := by decide +kernel
theorem dX11_next_233 : decode cX11_next 233 = .ok (.getfield 187, 3) := by decide +kernel
theorem dX11_next_236 : decode cX11_next 236 = .ok (.bipush 8, 2) := by decide +kernel
theorem dX11_next_238 : decode cX11_next 238 = .ok (.lshl, 1) := by decide +kernel
theorem dX11_next_239 : decode cX11_next 239 = .ok (.aload_n 0, 1) := by decide +kernel
theorem dX11_next_240 : decode cX11_next 240 = .ok (.invokevirtual 164, 3) := by decide +kernel
theorem dX11_next_243 : decode cX11_next 243 = .ok (.i2l, 1) := by decide +kernel
theorem dX11_next_244 : decode cX11_next 244 = .ok (.lor, 1) := by decide +kernel
theorem dX11_next_245 : decode cX11_next 245 = .ok (.putfield 187, 3) := by decide +kernel
theorem dX11_next_202 : decode cX11_next 202 = .ok (.ifCond .eq 18, 3) := by decide +kernel
theorem dX11_next_220 : decode cX11_next 220 = .ok (.iconst 0, 1) := by decide +kernel
theorem dX11_next_205 : decode cX11_next 205 = .ok (.aload_n 0, 1) := by decide +kernel
theorem dX11_next_206 : decode cX11_next 206 = .ok (.invokevirtual 164, 3) := by decide +kernel
theorem dX11_next_209 : decode cX11_next 209 = .ok (.invokestatic 177, 3) := by decide +kernel
theorem dX11_next_212 : decode cX11_next 212 = .ok (.iload_n 2, 1) := by decide +kernel
theorem dX11_next_213 : decode cX11_next 213 = .ok (.if_icmp .ne 7, 3) := by decide +kernel
theorem dX11_next_216 : decode cX11_next 216 = .ok (.iconst 1, 1) := by decide +kernel
theorem dX11_next_217 : decode cX11_next 217 = .ok (.goto 4, 3) := by decide +kernel
theorem dX11_next_188 : decode cX11_next 188 = .ok (.ifCond .ne 13, 3) := by decide +kernel
theorem dX11_next_191 : decode cX11_next 191 = .ok (.aload_n 0, 1) := by decide +kernel
theorem dX11_next_192 : decode cX11_next 192 = .ok (.invokevirtual 164, 3) := by decide +kernel
theorem dX11_next_195 : decode cX11_next 195 = .ok (.invokestatic 181, 3) := by decide +kernel
theorem kwS_X11_isDigit : MwS yX11_isDigit cX11_isDigit 1 (some .boolean) 1 := ⟨List.mem_filter.mpr ⟨List.mem_of_getElem? (i := 1703) (by decide +kernel), by decide +kernel⟩, List.mem_filter.mpr ⟨List.mem_of_getElem? (i := 1702) (by decide +kernel), by decide +kernel⟩, List.mem_filter.mpr ⟨List.mem_of_getElem? (i := 139) (by decide +kernel), by decide +kernel⟩, by decide +kernel⟩
theorem kM_RX11_181 : Cond.methodLink RX11 181 yX11_isDigit ∈ gT := List.mem_filter.mpr ⟨List.mem_of_getElem? (i := 1701) (by decide +kernel), by decide +kernel⟩
theorem dX11_next_198 : decode cX11_next 198 = .ok (.ifCond .eq 100, 3) := by decide +kernel
theorem dX11_next_298 : decode cX11_next 298 = .ok (.aload_n 0, 1) := by decide +kernel
theorem dX11_next_299 : decode cX11_next 299 = .ok (.iload_n 3, 1) := by decide +kernel
theorem dX11_next_300 : decode cX11_next 300 = .ok (.ifCond .eq 20, 3) := by decide +kernel
theorem dX11_next_320 : decode cX11_next 320 = .ok (.iconst 4, 1) := by decide +kernel
theorem dX11_next_321 : decode cX11_next 321 = .ok (.goto 12, 3) := by decide +kernel
theorem dX11_next_333 : decode cX11_next 333 = .ok (.putfield 174, 3) := by decide +kernel
theorem dX11_next_336 : decode cX11_next 336 = .ok (.return_, 1) := by decide +kernel
theorem dX11_next_303 : decode cX11_next 303 = .ok (.aload_n 0, 1) := by decide +kernel
theorem dX11_next_304 : decode cX11_next 304 = .ok (.getfield 171, 3) := by decide +kernel
theorem dX11_next_307 : decode cX11_next 307 = .ok (.iload_n 2, 1) := by decide +kernel
theorem dX11_next_317 : decode cX11_next 317 = .ok (.if_icmp .le 7, 3) := by decide +kernel
theorem dX11_next_324 : decode cX11_next 324 = .ok (.iload_n 2, 1) := by decide +kernel
theorem dX11_next_325 : decode cX11_next 325 = .ok (.ifCond .eq 7, 3) := by decide +kernel
theorem dX11_next_332 : decode cX11_next 332 = .ok (.iconst 2, 1) := by decide +kernel
theorem dX11_next_328 : decode cX11_next 328 = .ok (.iconst 1, 1) := by decide +kernel
theorem dX11_next_329 : decode cX11_next 329 = .ok (.goto 4, 3) := by decide +kernel
theorem dX11_next_308 : decode cX11_next 308 = .ok (.ifCond .eq 8, 3) := by decide +kernel
theorem dX11_next_316 : decode cX11_next 316 = .ok (.iconst 3, 1) := by decide +kernel
theorem dX11_next_311 : decode cX11_next 311 = .ok (.bipush 7, 2) := by decide +kernel
theorem dX11_next_313 : decode cX11_next 313 = .ok (.goto 4, 3) := by decide +kernel
theorem dX11_next_99 : decode cX11_next 99 = .ok (.ifCond .ne 65, 3) := by decide +kernel
theorem dX11_next_102 : decode cX11_next 102 = .ok (.iload_n 1, 1) := by decide +kernel
theorem dX11_next_103 : decode cX11_next 103 = .ok (.invokestatic 181, 3) := by decide +kernel
theorem dX11_next_106 : decode cX11_next 106 = .ok (.ifCond .ne 58, 3) := by decide +kernel
theorem dX11_next_109 : decode cX11_next 109 = .ok (.aload_n 0, 1) := by decide +kernel
theorem dX11_next_110 : decode cX11_next 110 = .ok (.iload_n 1, 1) := by decide +kernel
theorem dX11_next_111 : decode cX11_next 111 = .ok (.bipush 59, 2) := by decide +kernel
theorem dX11_next_145 : decode cX11_next 145 = .ok (.putfield 174, 3) := by decide +kernel
theorem dX11_next_148 : decode cX11_next 148 = .ok (.aload_n 0, 1) := by decide +kernel
theorem dX11_next_149 : decode cX11_next 149 = .ok (.iload_n 1, 1) := by decide +kernel
theorem dX11_next_150 : decode cX11_next 150 = .ok (.putfield 184, 3) := by decide +kernel
theorem dX11_next_153 : decode cX11_next 153 = .ok (.aload_n 0, 1) := by decide +kernel
theorem dX11_next_154 : decode cX11_next 154 = .ok (.dup, 1) := by decide +kernel
theorem dX11_next_155 : decode cX11_next 155 = .ok (.getfield 21, 3) := by decide +kernel
theorem dX11_next_158 : decode cX11_next 158 = .ok (.iconst 1, 1) := by decide +kernel
theorem dX11_next_159 : decode cX11_next 159 = .ok (.iadd, 1) := by decide +kernel
theorem dX11_next_160 : decode cX11_next 160 = .ok (.putfield 21, 3) := by decide +kernel
theorem dX11_next_163 : decode cX11_next 163 = .ok (.return_, 1) := by decide +kernel
theorem dX11_next_113 : decode cX11_next 113 = .ok (.if_icmp .eq 27, 3) := by decide +kernel
theorem dX11_next_140 : decode cX11_next 140 = .ok (.iconst 3, 1) := by decide +kernel
theorem dX11_next_141 : decode cX11_next 141 = .ok (.goto 4, 3) := by decide +kernel
theorem dX11_next_116 : decode cX11_next 116 = .ok (.iload_n 1, 1) := by decide +kernel
theorem dX11_next_117 : decode cX11_next 117 = .ok (.bipush 40, 2) := by decide +kernel
theorem dX11_next_119 : decode cX11_next 119 = .ok (.if_icmp .eq 21, 3) := by decide +kernel
theorem dX11_next_122 : decode cX11_next 122 = .ok (.iload_n 1, 1) := by decide +kernel
theorem dX11_next_123 : decode cX11_next 123 = .ok (.bipush 41, 2) := by decide +kernel
theorem dX11_next_125 : decode cX11_next 125 = .ok (.if_icmp .eq 15, 3) := by decide +kernel
theorem dX11_next_128 : decode cX11_next 128 = .ok (.iload_n 1, 1) := by decide +kernel
theorem dX11_next_129 : decode cX11_next 129 = .ok (.bipush 60, 2) := by decide +kernel
theorem dX11_next_131 : decode cX11_next 131 = .ok (.if_icmp .lt 13, 3) := by decide +kernel
theorem dX11_next_144 : decode cX11_next 144 = .ok (.iconst 4, 1) := by decide +kernel
theorem dX11_next_134 : decode cX11_next 134 = .ok (.iload_n 1, 1) := by decide +kernel
theorem dX11_next_135 : decode cX11_next 135 = .ok (.bipush 62, 2) := by decide +kernel
theorem dX11_next_137 : decode cX11_next 137 = .ok (.if_icmp .gt 7, 3) := by decide +kernel
theorem dX11_next_89 : decode cX11_next 89 = .ok (.aload_n 0, 1) := by decide +kernel
theorem dX11_next_90 : decode cX11_next 90 = .ok (.iconst 0, 1) := by decide +kernel
theorem dX11_next_91 : decode cX11_next 91 = .ok (.putfield 174, 3) := by decide +kernel
theorem dX11_next_94 : decode cX11_next 94 = .ok (.return_, 1) := by decide +kernel
theorem dX11_next_52 : decode cX11_next 52 = .ok (.if_icmp .le 28, 3) := by decide +kernel
theorem dX11_next_55 : decode cX11_next 55 = .ok (.aload_n 0, 1) := by decide +kernel
theorem dX11_next_56 : decode cX11_next 56 = .ok (.getfield 21, 3) := by decide +kernel
theorem dX11_next_59 : decode cX11_next 59 = .ok (.aload_n 0, 1) := by decide +kernel
theorem dX11_next_60 : decode cX11_next 60 = .ok (.getfield 24, 3) := by decide +kernel
theorem dX11_next_63 : decode cX11_next 63 = .ok (.if_icmp .lt 17, 3) := by decide +kernel
theorem dX11_next_66 : decode cX11_next 66 = .ok (.aload_n 0, 1) := by decide +kernel
theorem dX11_next_67 : decode cX11_next 67 = .ok (.aload_n 0, 1) := by decide +kernel
theorem dX11_next_68 : decode cX11_next 68 = .ok (.getfield 24, 3) := by decide +kernel
theorem dX11_next_71 : decode cX11_next 71 = .ok (.putfield 168, 3) := by decide +kernel
theorem dX11_next_74 : decode cX11_next 74 = .ok (.aload_n 0, 1) := by decide +kernel
theorem dX11_next_75 : decode cX11_next 75 = .ok (.iconst 4, 1) := by decide +kernel
theorem dX11_next_76 : decode cX11_next 76 = .ok (.putfield 174, 3) := by decide +kernel
theorem dX11_next_79 : decode cX11_next 79 = .ok (.return_, 1) := by decide +kernel
set_option maxHeartbeats 4000000 in
set_option maxRecDepth 100000 in
theorem b_y_next (l : Launch) (D : va_G) (cy : Nat → ClassId) (q : Nat) (q_thrown : Int32) (q_tape_ : Nat) (q_length : Int32) (q_size : Int32) (q_p : Int32) (q_limit : Int32) (q_s_ : Nat) (q_h_ : Nat) (q_read_ : Nat) (q_names_ : Nat) (q_reserved_ : Nat) (q_token : Int32) (q_at : Int32) (q_span : Int32) (q_number : Int32) (q_fault : Int32) (q_faultAt : Int32) (q_word : Int64) (q_got : Int32) (q_lines : Int32) (q_onces : Int32) (q_webs : Int32) (q_one : Int32) (q_two : Int32) (q_seed : Int32) (q_undone_ : Nat) (q_before_ : Nat) (q_undoMany : Int32) (q_far_ : Nat) (q_wayRow_ : Nat) (q_wayMany : Int32) (q_keptRow_ : Nat) (q_askedRow_ : Nat) (q_rares_ : Nat) (q_trial_ : Nat) (q_keptMany : Int32) (q_askedMany : Int32) (q_hangs_ : Nat) (q_paths_ : Nat) (q_tornSteps : Int32) (q_hasTorn : Int32) (q_turnOne : Int32) (q_hasTurn : Int32) (q_text_ : Nat) (q_textMany : Int32) (q_toldMany : Int32) (q_toldAt_ : Nat) (q_hasTold : Int32) (q_stack_ : Nat) (q_codes : Int32) (q_ones : Int32) (q_top : Int32) (q_deep : Int32) (q_isWhole : Int32) (q_truths_ : Nat) (q_imaged_ : Nat) (q_namesKept_ : Nat) (q_areKept_ : Nat) (q_tape : Nat → Int32) (hb0 : 0 ≤ q_length.toInt ∧ q_length.toInt ≤ 940) (hb1 : 0 ≤ q_size.toInt ∧ q_size.toInt ≤ 940) (hb2 : 0 ≤ q_p.toInt ∧ q_p.toInt ≤ 940) (hb3 : 0 ≤ q_limit.toInt ∧ q_limit.toInt ≤ 940) (hb4 : 0 ≤ q_span.toInt ∧ q_span.toInt ≤ 940) (hb5 : 0 ≤ q_number.toInt ∧ q_number.toInt ≤ 8214) (hb6 : (-1) ≤ q_got.toInt ∧ q_got.toInt ≤ 8214) (hb7 : 0 ≤ q_one.toInt ∧ q_one.toInt ≤ 7) (hb8 : 0 ≤ q_two.toInt ∧ q_two.toInt ≤ 7) (hb9 : 0 ≤ q_undoMany.toInt ∧ q_undoMany.toInt ≤ 8) (hb10 : (-1) ≤ q_wayMany.toInt ∧ q_wayMany.toInt ≤ 8) (hb11 : (-1) ≤ q_keptMany.toInt ∧ q_keptMany.toInt ≤ 8) (hb12 : (-1) ≤ q_askedMany.toInt ∧ q_askedMany.toInt ≤ 3) (hb13 : 0 ≤ q_hasTorn.toInt ∧ q_hasTorn.toInt ≤ 1) (hb14 : 0 ≤ q_hasTurn.toInt ∧ q_hasTurn.toInt ≤ 1) (hb15 : 0 ≤ q_textMany.toInt ∧ q_textMany.toInt ≤ 48) (hb16 : 0 ≤ q_toldMany.toInt ∧ q_toldMany.toInt ≤ 40) (hb17 : 0 ≤ q_hasTold.toInt ∧ q_hasTold.toInt ≤ 1) (hb18 : 0 ≤ q_codes.toInt ∧ q_codes.toInt ≤ 40) (hb19 : 0 ≤ q_ones.toInt ∧ q_ones.toInt ≤ 20) (hb20 : 0 ≤ q_top.toInt ∧ q_top.toInt ≤ 40) (hb21 : 0 ≤ q_isWhole.toInt ∧ q_isWhole.toInt ≤ 1) {p : Program} {e : Env} {s : State} {m : MethodId} {args : Array Value} {below : List Frame} {meth : Method} {c : Code} {A : Nat → Prop} {Q : State → Prop} {cells slots : Nat} (hroom : cells ≤ ((Rm 1 20 0 0)).cells ∧ slots ≤ ((Rm 1 20 0 0)).slots) (C : Cx p s m args meth c cX11_next 4 none RX11 "next" D cy A) (hQ : Q = MQ below (va_Qv (fun u : Int32 × Int32 × Int32 × Int32 × Int32 × Int64 => (0 ≤ u.1.toInt ∧ u.1.toInt ≤ 940) ∧ (0 ≤ u.2.2.2.1.toInt ∧ u.2.2.2.1.toInt ≤ 940) ∧ (0 ≤ u.2.2.2.2.1.toInt ∧ u.2.2.2.2.1.toInt ≤ 8214) ∧ (0 ≤ u.1.toInt + (-1) * q_p.toInt) ∧ ((0 ≤ u.2.1.toInt + (-3) ∧ 0 ≤ (-1) * u.2.1.toInt + 3) → (0 ≤ u.1.toInt + (-1) * q_p.toInt + (-1)))) (Bx D A (fun u : Int32 × Int32 × Int32 × Int32 × Int32 × Int64 => [(q, oC11 q_thrown q_tape_ q_length q_size u.1 q_limit q_s_ q_h_ q_read_ q_names_ q_reserved_ u.2.1 u.2.2.1 u.2.2.2.1 u.2.2.2.2.1 q_fault q_faultAt u.2.2.2.2.2 q_got q_lines q_onces q_webs q_one q_two q_seed q_undone_ q_before_ q_undoMany q_far_ q_wayRow_ q_wayMany q_keptRow_ q_askedRow_ q_rares_ q_trial_ q_keptMany q_askedMany q_hangs_ q_paths_ q_tornSteps q_hasTorn q_turnOne q_hasTurn q_text_ q_textMany q_toldMany q_toldAt_ q_hasTold q_stack_ q_codes q_ones q_top q_deep q_isWhole q_truths_ q_imaged_ q_namesKept_ q_areKept_), (q_tape_, aC0 cy 940 q_tape)])) A) args s ((Rm 1 20 0 0)).cells ((Rm 1 20 0 0)).slots A) (H : Heap) (locs : List Loc) (ls : Array Slot) (hP : va_P D vwCl [(q, oC11 q_thrown q_tape_ q_length q_size q_p q_limit q_s_ q_h_ q_read_ q_names_ q_reserved_ q_token q_at q_span q_number q_fault q_faultAt q_word q_got q_lines q_onces q_webs q_one q_two q_seed q_undone_ q_before_ q_undoMany q_far_ q_wayRow_ q_wayMany q_keptRow_ q_askedRow_ q_rares_ q_trial_ q_keptMany q_askedMany q_hangs_ q_paths_ q_tornSteps q_hasTorn q_turnOne q_hasTurn q_text_ q_textMany q_toldMany q_toldAt_ q_hasTold q_stack_ q_codes q_ones q_top q_deep q_isWhole q_truths_ q_imaged_ q_namesKept_ q_areKept_), (q_tape_, aC0 cy 940 q_tape)] H) (hD : va_D A [(q, oC11 q_thrown q_tape_ q_length q_size q_p q_limit q_s_ q_h_ q_read_ q_names_ q_reserved_ q_token q_at q_span q_number q_fault q_faultAt q_word q_got q_lines q_onces q_webs q_one q_two q_seed q_undone_ q_before_ q_undoMany q_far_ q_wayRow_ q_wayMany q_keptRow_ q_askedRow_ q_rares_ q_trial_ q_keptMany q_askedMany q_hangs_ q_paths_ q_tornSteps q_hasTorn q_turnOne q_hasTurn q_text_ q_textMany q_toldMany q_toldAt_ q_hasTold q_stack_ q_codes q_ones q_top q_deep q_isWhole q_truths_ q_imaged_ q_namesKept_ q_areKept_), (q_tape_, aC0 cy 940 q_tape)]) (hS : va_S A s.heap H locs) (hl : lv_has ls 4 [(0, .ref q)]) : W p l e (Rm 1 20 0 0) s m args below meth c H locs cells slots Q (F0 m 0 ls []) := by
  have hx := C.1
  have hb := C.2.1
  have hqq_thrown := o_rng q_thrown
  have hqq_token := o_rng q_token
  have hqq_at := o_rng q_at
  have hqq_fault := o_rng q_fault
  have hqq_faultAt := o_rng q_faultAt
  have hqq_lines := o_rng q_lines
  have hqq_onces := o_rng q_onces
  have hqq_webs := o_rng q_webs
  have hqq_seed := o_rng q_seed
  have hqq_tornSteps := o_rng q_tornSteps
  have hqq_turnOne := o_rng q_turnOne
  have hqq_deep := o_rng q_deep
  have lp_0_1 : ∀ (n_2 : Nat) (x_1 : Int32) (H : Heap) (locs : List Loc) (ls : Array Slot), (-1) * x_1.toInt + 940 < (n_2 : Int) → (0 ≤ x_1.toInt ∧ x_1.toInt ≤ 940) → (0 ≤ x_1.toInt + (-1) * q_p.toInt) → va_P D vwCl [(q, oC11 q_thrown q_tape_ q_length q_size x_1 q_limit q_s_ q_h_ q_read_ q_names_ q_reserved_ q_token q_at q_span q_number q_fault q_faultAt q_word q_got q_lines q_onces q_webs q_one q_two q_seed q_undone_ q_before_ q_undoMany q_far_ q_wayRow_ q_wayMany q_keptRow_ q_askedRow_ q_rares_ q_trial_ q_keptMany q_askedMany q_hangs_ q_paths_ q_tornSteps q_hasTorn q_turnOne q_hasTurn q_text_ q_textMany q_toldMany q_toldAt_ q_hasTold q_stack_ q_codes q_ones q_top q_deep q_isWhole q_truths_ q_imaged_ q_namesKept_ q_areKept_), (q_tape_, aC0 cy 940 q_tape)] H → va_D A [(q, oC11 q_thrown q_tape_ q_length q_size x_1 q_limit q_s_ q_h_ q_read_ q_names_ q_reserved_ q_token q_at q_span q_number q_fault q_faultAt q_word q_got q_lines q_onces q_webs q_one q_two q_seed q_undone_ q_before_ q_undoMany q_far_ q_wayRow_ q_wayMany q_keptRow_ q_askedRow_ q_rares_ q_trial_ q_keptMany q_askedMany q_hangs_ q_paths_ q_tornSteps q_hasTorn q_turnOne q_hasTurn q_text_ q_textMany q_toldMany q_toldAt_ q_hasTold q_stack_ q_codes q_ones q_top q_deep q_isWhole q_truths_ q_imaged_ q_namesKept_ q_areKept_), (q_tape_, aC0 cy 940 q_tape)] → va_S A s.heap H locs → lv_has ls 4 [(0, .ref q)] → W p l e (Rm 1 20 0 0) s m args below meth c H locs cells slots Q (F0 m 0 ls []) := by
    intro n_2
    induction n_2 with
    | zero =>
      intro x_1 H locs ls hm_5 hf_3 hf_4 hP hD hS hl
      exact absurd hm_5 (by omega)
    | succ n_2 ih_6 =>
      intro x_1 H locs ls hm_5 hf_3 hf_4 hP hD hS hl
      refine lv_aload_n hx hb dX11_next_0 rfl (lv_at hl 0 rfl) ?_
      refine q_ai (wr := []) (r_V (rm := (Rm 0 0 0 0)) (q0 := 0) (As := []) (rest := []) (wc := [(q, oC11 q_thrown q_tape_ q_length q_size x_1 q_limit q_s_ q_h_ q_read_ q_names_ q_reserved_ q_token q_at q_span q_number q_fault q_faultAt q_word q_got q_lines q_onces q_webs q_one q_two q_seed q_undone_ q_before_ q_undoMany q_far_ q_wayRow_ q_wayMany q_keptRow_ q_askedRow_ q_rares_ q_trial_ q_keptMany q_askedMany q_hangs_ q_paths_ q_tornSteps q_hasTorn q_turnOne q_hasTurn q_text_ q_textMany q_toldMany q_toldAt_ q_hasTold q_stack_ q_codes q_ones q_top q_deep q_isWhole q_truths_ q_imaged_ q_namesKept_ q_areKept_), (q_tape_, aC0 cy 940 q_tape)]) C hS (q_subP hP [0, 1] rfl) (hD.sub [0, 1] (by decide) rfl) (y_peek l D cy q q_thrown q_tape_ q_length q_size x_1 q_limit q_s_ q_h_ q_read_ q_names_ q_reserved_ q_token q_at q_span q_number q_fault q_faultAt q_word q_got q_lines q_onces q_webs q_one q_two q_seed q_undone_ q_before_ q_undoMany q_far_ q_wayRow_ q_wayMany q_keptRow_ q_askedRow_ q_rares_ q_trial_ q_keptMany q_askedMany q_hangs_ q_paths_ q_tornSteps q_hasTorn q_turnOne q_hasTurn q_text_ q_textMany q_toldMany q_toldAt_ q_hasTold q_stack_ q_codes q_ones q_top q_deep q_isWhole q_truths_ q_imaged_ q_namesKept_ q_areKept_ q_tape _ (by omega) (by omega) (by omega) (by omega) (by omega) (by omega) (by omega) (by omega) (by omega) (by omega) (by omega) (by omega) (by omega) (by omega) (by omega) (by omega) (by omega) (by omega) (by omega) (by omega) (by omega) (by omega)) kwV_X11_peek kM_RX11_164 rfl rfl ⟨Nat.le_of_ble_eq_true rfl, Nat.le_of_ble_eq_true rfl⟩ rfl hl.1 rfl (Nat.le_of_ble_eq_true rfl) dX11_next_1 ⟨hroom.1, hroom.2⟩) C.2.2.2.2.2.2.1 hP hD hS [0, 1] [] rfl rfl (by decide) (by decide) (fun r_9 u_8 H locs hw_10 hP hD hS => ?_)
      have hp_10 : (-1) ≤ r_9.toInt ∧ r_9.toInt ≤ 255 := hw_10.1
      have hp_11 : r_9 = pk q_tape x_1 q_size := hw_10.2.1
      have hp_12 : (0 ≤ r_9.toInt) → (0 ≤ q_size.toInt + (-1) * x_1.toInt + (-1)) := hw_10.2.2
      refine lv_bipush (v := 32) hx hb dX11_next_4 (by decide) ?_
      refine lv_icmp_eq (tgt := 18) hx hb dX11_next_6 (by decide) (fun c_14 => ?_) (fun c_14 => ?_)
      · have hc_14 := o_eq (rfl : r_9.toInt = r_9.toInt) (by decide : (32 : Int32).toInt = 32) c_14
        have hp_12 := hp_12 (by omega)
        refine lv_aload_n hx hb dX11_next_18 rfl (lv_at hl 0 rfl) ?_
        refine lv_dup hx hb dX11_next_19 rfl ?_
        refine q_get11 (v := .int x_1) C hP 0 4 rfl fT_4 (by decide) kF_RX11_21 rfl dX11_next_20 ?_
        refine lv_iconst (v := 1) hx hb dX11_next_23 (by decide) ?_
        refine lv_iadd hx hb dX11_next_24 ?_
        refine lv_topi (fun z_15 hz_15 => ?_)
        have hz_15 := o_add hz_15 (rfl : x_1.toInt = x_1.toInt) (by decide : (1 : Int32).toInt = 1) (by omega) (by omega)
        refine q_put11 (v := .int z_15) (w' := [(q, oC11 q_thrown q_tape_ q_length q_size z_15 q_limit q_s_ q_h_ q_read_ q_names_ q_reserved_ q_token q_at q_span q_number q_fault q_faultAt q_word q_got q_lines q_onces q_webs q_one q_two q_seed q_undone_ q_before_ q_undoMany q_far_ q_wayRow_ q_wayMany q_keptRow_ q_askedRow_ q_rares_ q_trial_ q_keptMany q_askedMany q_hangs_ q_paths_ q_tornSteps q_hasTorn q_turnOne q_hasTurn q_text_ q_textMany q_toldMany q_toldAt_ q_hasTold q_stack_ q_codes q_ones q_top q_deep q_isWhole q_truths_ q_imaged_ q_namesKept_ q_areKept_), (q_tape_, aC0 cy 940 q_tape)]) C hP hD hS 0 4 rfl fT_4 fy_4 (by decide) kF_RX11_21 rfl rfl (Nat.le_of_ble_eq_true rfl) rfl dX11_next_25 (fun H locs hP hD hS => ?_)
        refine lv_goto (tgt := 0) hx hb dX11_next_28 (by decide) ?_
        exact ih_6 z_15 H locs ls (by omega) (by omega) (by omega) hP hD hS (lv_sub hl [0] rfl)
      · have hc_14 := o_ne (rfl : r_9.toInt = r_9.toInt) (by decide : (32 : Int32).toInt = 32) c_14
        refine lv_aload_n hx hb dX11_next_9 rfl (lv_at hl 0 rfl) ?_
        refine q_ai (wr := []) (r_V (rm := (Rm 0 0 0 0)) (q0 := 0) (As := []) (rest := []) (wc := [(q, oC11 q_thrown q_tape_ q_length q_size x_1 q_limit q_s_ q_h_ q_read_ q_names_ q_reserved_ q_token q_at q_span q_number q_fault q_faultAt q_word q_got q_lines q_onces q_webs q_one q_two q_seed q_undone_ q_before_ q_undoMany q_far_ q_wayRow_ q_wayMany q_keptRow_ q_askedRow_ q_rares_ q_trial_ q_keptMany q_askedMany q_hangs_ q_paths_ q_tornSteps q_hasTorn q_turnOne q_hasTurn q_text_ q_textMany q_toldMany q_toldAt_ q_hasTold q_stack_ q_codes q_ones q_top q_deep q_isWhole q_truths_ q_imaged_ q_namesKept_ q_areKept_), (q_tape_, aC0 cy 940 q_tape)]) C hS (q_subP hP [0, 1] rfl) (hD.sub [0, 1] (by decide) rfl) (y_peek l D cy q q_thrown q_tape_ q_length q_size x_1 q_limit q_s_ q_h_ q_read_ q_names_ q_reserved_ q_token q_at q_span q_number q_fault q_faultAt q_word q_got q_lines q_onces q_webs q_one q_two q_seed q_undone_ q_before_ q_undoMany q_far_ q_wayRow_ q_wayMany q_keptRow_ q_askedRow_ q_rares_ q_trial_ q_keptMany q_askedMany q_hangs_ q_paths_ q_tornSteps q_hasTorn q_turnOne q_hasTurn q_text_ q_textMany q_toldMany q_toldAt_ q_hasTold q_stack_ q_codes q_ones q_top q_deep q_isWhole q_truths_ q_imaged_ q_namesKept_ q_areKept_ q_tape _ (by omega) (by omega) (by omega) (by omega) (by omega) (by omega) (by omega) (by omega) (by omega) (by omega) (by omega) (by omega) (by omega) (by omega) (by omega) (by omega) (by omega) (by omega) (by omega) (by omega) (by omega) (by omega)) kwV_X11_peek kM_RX11_164 rfl rfl ⟨Nat.le_of_ble_eq_true rfl, Nat.le_of_ble_eq_true rfl⟩ rfl hl.1 rfl (Nat.le_of_ble_eq_true rfl) dX11_next_10 ⟨hroom.1, hroom.2⟩) C.2.2.2.2.2.2.1 hP hD hS [0, 1] [] rfl rfl (by decide) (by decide) (fun r_17 u_16 H locs hw_18 hP hD hS => ?_)
        have hp_18 : (-1) ≤ r_17.toInt ∧ r_17.toInt ≤ 255 := hw_18.1
        have hp_19 : r_17 = pk q_tape x_1 q_size := hw_18.2.1
        have hp_20 : (0 ≤ r_17.toInt) → (0 ≤ q_size.toInt + (-1) * x_1.toInt + (-1)) := hw_18.2.2
        refine q_val (v := r_9) (hp_19.trans hp_11.symm) ?_
        refine lv_bipush (v := 10) hx hb dX11_next_13 (by decide) ?_
        refine lv_icmp_ne (tgt := 31) hx hb dX11_next_15 (by decide) (fun c_22 => ?_) (fun c_22 => ?_)
        · have hc_22 := o_ne (rfl : r_9.toInt = r_9.toInt) (by decide : (10 : Int32).toInt = 10) c_22
          refine lv_aload_n hx hb dX11_next_31 rfl (lv_at hl 0 rfl) ?_
          refine lv_aload_n hx hb dX11_next_32 rfl (lv_at hl 0 rfl) ?_
          refine q_get11 (v := .int x_1) C hP 0 4 rfl fT_4 (by decide) kF_RX11_21 rfl dX11_next_33 ?_
          refine q_put11 (v := .int x_1) (w' := [(q, oC11 q_thrown q_tape_ q_length q_size x_1 q_limit q_s_ q_h_ q_read_ q_names_ q_reserved_ q_token x_1 q_span q_number q_fault q_faultAt q_word q_got q_lines q_onces q_webs q_one q_two q_seed q_undone_ q_before_ q_undoMany q_far_ q_wayRow_ q_wayMany q_keptRow_ q_askedRow_ q_rares_ q_trial_ q_keptMany q_askedMany q_hangs_ q_paths_ q_tornSteps q_hasTorn q_turnOne q_hasTurn q_text_ q_textMany q_toldMany q_toldAt_ q_hasTold q_stack_ q_codes q_ones q_top q_deep q_isWhole q_truths_ q_imaged_ q_namesKept_ q_areKept_), (q_tape_, aC0 cy 940 q_tape)]) C hP hD hS 0 12 rfl fT_12 fy_12 (by decide) kF_RX11_168 rfl rfl (Nat.le_of_ble_eq_true rfl) rfl dX11_next_36 (fun H locs hP hD hS => ?_)
          refine lv_aload_n hx hb dX11_next_39 rfl (lv_at hl 0 rfl) ?_
          refine lv_iconst (v := 0) hx hb dX11_next_40 (by decide) ?_
          refine q_put11 (v := .int 0) (w' := [(q, oC11 q_thrown q_tape_ q_length q_size x_1 q_limit q_s_ q_h_ q_read_ q_names_ q_reserved_ q_token x_1 0 q_number q_fault q_faultAt q_word q_got q_lines q_onces q_webs q_one q_two q_seed q_undone_ q_before_ q_undoMany q_far_ q_wayRow_ q_wayMany q_keptRow_ q_askedRow_ q_rares_ q_trial_ q_keptMany q_askedMany q_hangs_ q_paths_ q_tornSteps q_hasTorn q_turnOne q_hasTurn q_text_ q_textMany q_toldMany q_toldAt_ q_hasTold q_stack_ q_codes q_ones q_top q_deep q_isWhole q_truths_ q_imaged_ q_namesKept_ q_areKept_), (q_tape_, aC0 cy 940 q_tape)]) C hP hD hS 0 13 rfl fT_13 fy_13 (by decide) kF_RX11_171 rfl rfl (Nat.le_of_ble_eq_true rfl) rfl dX11_next_41 (fun H locs hP hD hS => ?_)
          refine lv_aload_n hx hb dX11_next_44 rfl (lv_at hl 0 rfl) ?_
          refine q_get11 (v := .int q_size) C hP 0 3 rfl fT_3 (by decide) kF_RX11_18 rfl dX11_next_45 ?_
          refine lv_aload_n hx hb dX11_next_48 rfl (lv_at hl 0 rfl) ?_
          refine q_get11 (v := .int q_limit) C hP 0 5 rfl fT_5 (by decide) kF_RX11_24 rfl dX11_next_49 ?_
          have cut_80_22 : ∀  (H : Heap) (locs : List Loc) (ls : Array Slot), va_P D vwCl [(q, oC11 q_thrown q_tape_ q_length q_size x_1 q_limit q_s_ q_h_ q_read_ q_names_ q_reserved_ q_token x_1 0 q_number q_fault q_faultAt q_word q_got q_lines q_onces q_webs q_one q_two q_seed q_undone_ q_before_ q_undoMany q_far_ q_wayRow_ q_wayMany q_keptRow_ q_askedRow_ q_rares_ q_trial_ q_keptMany q_askedMany q_hangs_ q_paths_ q_tornSteps q_hasTorn q_turnOne q_hasTurn q_text_ q_textMany q_toldMany q_toldAt_ q_hasTold q_stack_ q_codes q_ones q_top q_deep q_isWhole q_truths_ q_imaged_ q_namesKept_ q_areKept_), (q_tape_, aC0 cy 940 q_tape)] H → va_D A [(q, oC11 q_thrown q_tape_ q_length q_size x_1 q_limit q_s_ q_h_ q_read_ q_names_ q_reserved_ q_token x_1 0 q_number q_fault q_faultAt q_word q_got q_lines q_onces q_webs q_one q_two q_seed q_undone_ q_before_ q_undoMany q_far_ q_wayRow_ q_wayMany q_keptRow_ q_askedRow_ q_rares_ q_trial_ q_keptMany q_askedMany q_hangs_ q_paths_ q_tornSteps q_hasTorn q_turnOne q_hasTurn q_text_ q_textMany q_toldMany q_toldAt_ q_hasTold q_stack_ q_codes q_ones q_top q_deep q_isWhole q_truths_ q_imaged_ q_namesKept_ q_areKept_), (q_tape_, aC0 cy 940 q_tape)] → va_S A s.heap H locs → lv_has ls 4 [(0, .ref q)] → W p l e (Rm 1 20 0 0) s m args below meth c H locs cells slots Q (F0 m 80 ls []) := by
            intro  H locs ls  hP hD hS hl
            refine lv_aload_n hx hb dX11_next_80 rfl (lv_at hl 0 rfl) ?_
            refine q_ai (wr := []) (r_V (rm := (Rm 0 0 0 0)) (q0 := 0) (As := []) (rest := []) (wc := [(q, oC11 q_thrown q_tape_ q_length q_size x_1 q_limit q_s_ q_h_ q_read_ q_names_ q_reserved_ q_token x_1 0 q_number q_fault q_faultAt q_word q_got q_lines q_onces q_webs q_one q_two q_seed q_undone_ q_before_ q_undoMany q_far_ q_wayRow_ q_wayMany q_keptRow_ q_askedRow_ q_rares_ q_trial_ q_keptMany q_askedMany q_hangs_ q_paths_ q_tornSteps q_hasTorn q_turnOne q_hasTurn q_text_ q_textMany q_toldMany q_toldAt_ q_hasTold q_stack_ q_codes q_ones q_top q_deep q_isWhole q_truths_ q_imaged_ q_namesKept_ q_areKept_), (q_tape_, aC0 cy 940 q_tape)]) C hS (q_subP hP [0, 1] rfl) (hD.sub [0, 1] (by decide) rfl) (y_peek l D cy q q_thrown q_tape_ q_length q_size x_1 q_limit q_s_ q_h_ q_read_ q_names_ q_reserved_ q_token x_1 0 q_number q_fault q_faultAt q_word q_got q_lines q_onces q_webs q_one q_two q_seed q_undone_ q_before_ q_undoMany q_far_ q_wayRow_ q_wayMany q_keptRow_ q_askedRow_ q_rares_ q_trial_ q_keptMany q_askedMany q_hangs_ q_paths_ q_tornSteps q_hasTorn q_turnOne q_hasTurn q_text_ q_textMany q_toldMany q_toldAt_ q_hasTold q_stack_ q_codes q_ones q_top q_deep q_isWhole q_truths_ q_imaged_ q_namesKept_ q_areKept_ q_tape _ (by omega) (by omega) (by omega) (by omega) (by decide) (by omega) (by omega) (by omega) (by omega) (by omega) (by omega) (by omega) (by omega) (by omega) (by omega) (by omega) (by omega) (by omega) (by omega) (by omega) (by omega) (by omega)) kwV_X11_peek kM_RX11_164 rfl rfl ⟨Nat.le_of_ble_eq_true rfl, Nat.le_of_ble_eq_true rfl⟩ rfl hl.1 rfl (Nat.le_of_ble_eq_true rfl) dX11_next_81 ⟨hroom.1, hroom.2⟩) C.2.2.2.2.2.2.1 hP hD hS [0, 1] [] rfl rfl (by decide) (by decide) (fun r_25 u_24 H locs hw_26 hP hD hS => ?_)
            have hp_26 : (-1) ≤ r_25.toInt ∧ r_25.toInt ≤ 255 := hw_26.1
            have hp_27 : r_25 = pk q_tape x_1 q_size := hw_26.2.1
            have hp_28 : (0 ≤ r_25.toInt) → (0 ≤ q_size.toInt + (-1) * x_1.toInt + (-1)) := by have e0 : (0 : Int32).toInt = 0 := (by decide); have h0 := hw_26.2.2; omega
            refine q_val (v := r_9) (hp_27.trans hp_11.symm) ?_
            refine lv_istore_n (lv' := [(1, .int r_9), (0, .ref q)]) hx hb dX11_next_84 rfl hl (by decide) rfl (fun ls hl => ?_)
            refine lv_iload_n hx hb dX11_next_85 rfl (lv_at hl 0 rfl) ?_
            refine lv_if_ge (tgt := 95) hx hb dX11_next_86 (by decide) (fun c_30 => ?_) (fun c_30 => ?_)
            · have hc_30 := o_le (by decide : (0 : Int32).toInt = 0) (rfl : r_9.toInt = r_9.toInt) c_30
              have hp_12 := hp_12 (by omega)
              refine lv_iload_n hx hb dX11_next_95 rfl (lv_at hl 0 rfl) ?_
              refine q_ai (wr := [(q, oC11 q_thrown q_tape_ q_length q_size x_1 q_limit q_s_ q_h_ q_read_ q_names_ q_reserved_ q_token x_1 0 q_number q_fault q_faultAt q_word q_got q_lines q_onces q_webs q_one q_two q_seed q_undone_ q_before_ q_undoMany q_far_ q_wayRow_ q_wayMany q_keptRow_ q_askedRow_ q_rares_ q_trial_ q_keptMany q_askedMany q_hangs_ q_paths_ q_tornSteps q_hasTorn q_turnOne q_hasTurn q_text_ q_textMany q_toldMany q_toldAt_ q_hasTold q_stack_ q_codes q_ones q_top q_deep q_isWhole q_truths_ q_imaged_ q_namesKept_ q_areKept_), (q_tape_, aC0 cy 940 q_tape)]) (r_S (rm := (Rm 0 0 0 0)) (As := [.int r_9]) (rest := []) (wc := []) C hS (q_subP hP [] rfl) (hD.sub [] (by decide) rfl) (y_isSmall l D cy r_9 _ ) kwS_X11_isSmall kM_RX11_177 ⟨Nat.le_of_ble_eq_true rfl, Nat.le_of_ble_eq_true rfl⟩ rfl hl.1 rfl (Nat.le_of_ble_eq_true rfl) dX11_next_96 ⟨hroom.1, hroom.2⟩) C.2.2.2.2.2.2.1 hP hD hS [] [0, 1] rfl rfl (by decide) (by decide) (fun r_32 u_31 H locs hw_33 hP hD hS => ?_)
              have hp_33 : 0 ≤ r_32.toInt ∧ r_32.toInt ≤ 1 := hw_33.1
              have hp_34 : (0 ≤ r_32.toInt + (-1)) → (0 ≤ r_9.toInt + (-97) ∧ 0 ≤ (-1) * r_9.toInt + 122) := hw_33.2
              have cut_164_35 : ∀  (H : Heap) (locs : List Loc) (ls : Array Slot), (0 ≤ r_9.toInt + (-48)) → (0 ≤ (-1) * r_9.toInt + 122) → va_P D vwCl [(q, oC11 q_thrown q_tape_ q_length q_size x_1 q_limit q_s_ q_h_ q_read_ q_names_ q_reserved_ q_token x_1 0 q_number q_fault q_faultAt q_word q_got q_lines q_onces q_webs q_one q_two q_seed q_undone_ q_before_ q_undoMany q_far_ q_wayRow_ q_wayMany q_keptRow_ q_askedRow_ q_rares_ q_trial_ q_keptMany q_askedMany q_hangs_ q_paths_ q_tornSteps q_hasTorn q_turnOne q_hasTurn q_text_ q_textMany q_toldMany q_toldAt_ q_hasTold q_stack_ q_codes q_ones q_top q_deep q_isWhole q_truths_ q_imaged_ q_namesKept_ q_areKept_), (q_tape_, aC0 cy 940 q_tape)] H → va_D A [(q, oC11 q_thrown q_tape_ q_length q_size x_1 q_limit q_s_ q_h_ q_read_ q_names_ q_reserved_ q_token x_1 0 q_number q_fault q_faultAt q_word q_got q_lines q_onces q_webs q_one q_two q_seed q_undone_ q_before_ q_undoMany q_far_ q_wayRow_ q_wayMany q_keptRow_ q_askedRow_ q_rares_ q_trial_ q_keptMany q_askedMany q_hangs_ q_paths_ q_tornSteps q_hasTorn q_turnOne q_hasTurn q_text_ q_textMany q_toldMany q_toldAt_ q_hasTold q_stack_ q_codes q_ones q_top q_deep q_isWhole q_truths_ q_imaged_ q_namesKept_ q_areKept_), (q_tape_, aC0 cy 940 q_tape)] → va_S A s.heap H locs → lv_has ls 4 [(0, .ref q), (1, .int r_9)] → W p l e (Rm 1 20 0 0) s m args below meth c H locs cells slots Q (F0 m 164 ls []) := by
                intro  H locs ls hf_36 hf_37 hP hD hS hl
                refine lv_iload_n hx hb dX11_next_164 rfl (lv_at hl 1 rfl) ?_
                refine q_ai (wr := [(q, oC11 q_thrown q_tape_ q_length q_size x_1 q_limit q_s_ q_h_ q_read_ q_names_ q_reserved_ q_token x_1 0 q_number q_fault q_faultAt q_word q_got q_lines q_onces q_webs q_one q_two q_seed q_undone_ q_before_ q_undoMany q_far_ q_wayRow_ q_wayMany q_keptRow_ q_askedRow_ q_rares_ q_trial_ q_keptMany q_askedMany q_hangs_ q_paths_ q_tornSteps q_hasTorn q_turnOne q_hasTurn q_text_ q_textMany q_toldMany q_toldAt_ q_hasTold q_stack_ q_codes q_ones q_top q_deep q_isWhole q_truths_ q_imaged_ q_namesKept_ q_areKept_), (q_tape_, aC0 cy 940 q_tape)]) (r_S (rm := (Rm 0 0 0 0)) (As := [.int r_9]) (rest := []) (wc := []) C hS (q_subP hP [] rfl) (hD.sub [] (by decide) rfl) (y_isSmall l D cy r_9 _ ) kwS_X11_isSmall kM_RX11_177 ⟨Nat.le_of_ble_eq_true rfl, Nat.le_of_ble_eq_true rfl⟩ rfl hl.1 rfl (Nat.le_of_ble_eq_true rfl) dX11_next_165 ⟨hroom.1, hroom.2⟩) C.2.2.2.2.2.2.1 hP hD hS [] [0, 1] rfl rfl (by decide) (by decide) (fun r_40 u_39 H locs hw_41 hP hD hS => ?_)
                have hp_41 : 0 ≤ r_40.toInt ∧ r_40.toInt ≤ 1 := hw_41.1
                have hp_42 : (0 ≤ r_40.toInt + (-1)) → (0 ≤ r_9.toInt + (-97) ∧ 0 ≤ (-1) * r_9.toInt + 122) := hw_41.2
                refine lv_istore_n (lv' := [(2, .int r_40), (0, .ref q), (1, .int r_9)]) hx hb dX11_next_168 rfl hl (by decide) rfl (fun ls hl => ?_)
                refine lv_iconst (v := 1) hx hb dX11_next_169 (by decide) ?_
                refine lv_istore_n (lv' := [(3, .int 1), (2, .int r_40), (0, .ref q), (1, .int r_9)]) hx hb dX11_next_170 rfl hl (by decide) rfl (fun ls hl => ?_)
                refine lv_aload_n hx hb dX11_next_171 rfl (lv_at hl 2 rfl) ?_
                refine lv_lconst (v := 0) hx hb dX11_next_172 (by decide) ?_
                refine q_put11 (v := .long 0) (w' := [(q, oC11 q_thrown q_tape_ q_length q_size x_1 q_limit q_s_ q_h_ q_read_ q_names_ q_reserved_ q_token x_1 0 q_number q_fault q_faultAt 0 q_got q_lines q_onces q_webs q_one q_two q_seed q_undone_ q_before_ q_undoMany q_far_ q_wayRow_ q_wayMany q_keptRow_ q_askedRow_ q_rares_ q_trial_ q_keptMany q_askedMany q_hangs_ q_paths_ q_tornSteps q_hasTorn q_turnOne q_hasTurn q_text_ q_textMany q_toldMany q_toldAt_ q_hasTold q_stack_ q_codes q_ones q_top q_deep q_isWhole q_truths_ q_imaged_ q_namesKept_ q_areKept_), (q_tape_, aC0 cy 940 q_tape)]) C hP hD hS 0 17 rfl fT_17 fy_17 (by decide) kF_RX11_187 rfl rfl (Nat.le_of_ble_eq_true rfl) rfl dX11_next_173 (fun H locs hP hD hS => ?_)
                refine lv_aload_n hx hb dX11_next_176 rfl (lv_at hl 2 rfl) ?_
                refine lv_iconst (v := 0) hx hb dX11_next_177 (by decide) ?_
                refine q_put11 (v := .int 0) (w' := [(q, oC11 q_thrown q_tape_ q_length q_size x_1 q_limit q_s_ q_h_ q_read_ q_names_ q_reserved_ q_token x_1 0 0 q_fault q_faultAt 0 q_got q_lines q_onces q_webs q_one q_two q_seed q_undone_ q_before_ q_undoMany q_far_ q_wayRow_ q_wayMany q_keptRow_ q_askedRow_ q_rares_ q_trial_ q_keptMany q_askedMany q_hangs_ q_paths_ q_tornSteps q_hasTorn q_turnOne q_hasTurn q_text_ q_textMany q_toldMany q_toldAt_ q_hasTold q_stack_ q_codes q_ones q_top q_deep q_isWhole q_truths_ q_imaged_ q_namesKept_ q_areKept_), (q_tape_, aC0 cy 940 q_tape)]) C hP hD hS 0 14 rfl fT_14 fy_14 (by decide) kF_RX11_184 rfl rfl (Nat.le_of_ble_eq_true rfl) rfl dX11_next_178 (fun H locs hP hD hS => ?_)
                have lp_181_48 : ∀ (n_49 : Nat) (x_44 : Int32) (x_45 : Int32) (x_46 : Int32) (x_47 : Int32) (y_48 : Int64) (H : Heap) (locs : List Loc) (ls : Array Slot), (-1) * x_45.toInt + 940 < (n_49 : Int) → (0 ≤ x_44.toInt ∧ x_44.toInt ≤ 1) → (0 ≤ x_45.toInt ∧ x_45.toInt ≤ 940) → (0 ≤ x_46.toInt ∧ x_46.toInt ≤ 940) → (0 ≤ x_47.toInt ∧ x_47.toInt ≤ 8214) → (0 ≤ x_45.toInt + (-1) * x_46.toInt + (-1) * x_1.toInt) → (0 ≤ (-1) * x_45.toInt + x_46.toInt + x_1.toInt) → ((x_46.toInt = 0 ∧ x_47.toInt = 0) ∨ (x_46.toInt = 1 ∧ x_47.toInt ≤ 74) ∨ (x_46.toInt = 2 ∧ x_47.toInt ≤ 814) ∨ 3 ≤ x_46.toInt) → va_P D vwCl [(q, oC11 q_thrown q_tape_ q_length q_size x_45 q_limit q_s_ q_h_ q_read_ q_names_ q_reserved_ q_token x_1 x_46 x_47 q_fault q_faultAt y_48 q_got q_lines q_onces q_webs q_one q_two q_seed q_undone_ q_before_ q_undoMany q_far_ q_wayRow_ q_wayMany q_keptRow_ q_askedRow_ q_rares_ q_trial_ q_keptMany q_askedMany q_hangs_ q_paths_ q_tornSteps q_hasTorn q_turnOne q_hasTurn q_text_ q_textMany q_toldMany q_toldAt_ q_hasTold q_stack_ q_codes q_ones q_top q_deep q_isWhole q_truths_ q_imaged_ q_namesKept_ q_areKept_), (q_tape_, aC0 cy 940 q_tape)] H → va_D A [(q, oC11 q_thrown q_tape_ q_length q_size x_45 q_limit q_s_ q_h_ q_read_ q_names_ q_reserved_ q_token x_1 x_46 x_47 q_fault q_faultAt y_48 q_got q_lines q_onces q_webs q_one q_two q_seed q_undone_ q_before_ q_undoMany q_far_ q_wayRow_ q_wayMany q_keptRow_ q_askedRow_ q_rares_ q_trial_ q_keptMany q_askedMany q_hangs_ q_paths_ q_tornSteps q_hasTorn q_turnOne q_hasTurn q_text_ q_textMany q_toldMany q_toldAt_ q_hasTold q_stack_ q_codes q_ones q_top q_deep q_isWhole q_truths_ q_imaged_ q_namesKept_ q_areKept_), (q_tape_, aC0 cy 940 q_tape)] → va_S A s.heap H locs → lv_has ls 4 [(0, .ref q), (2, .int r_40), (3, .int x_44)] → W p l e (Rm 1 20 0 0) s m args below meth c H locs cells slots Q (F0 m 181 ls []) := by
                  intro n_49
                  induction n_49 with
                  | zero =>
                    intro x_44 x_45 x_46 x_47 y_48 H locs ls hm_57 hf_50 hf_51 hf_52 hf_53 hf_54 hf_55 hf_56 hP hD hS hl
                    exact absurd hm_57 (by omega)
                  | succ n_49 ih_58 =>
                    intro x_44 x_45 x_46 x_47 y_48 H locs ls hm_57 hf_50 hf_51 hf_52 hf_53 hf_54 hf_55 hf_56 hP hD hS hl
                    refine lv_aload_n hx hb dX11_next_181 rfl (lv_at hl 0 rfl) ?_
                    refine q_ai (wr := []) (r_V (rm := (Rm 0 0 0 0)) (q0 := 0) (As := []) (rest := []) (wc := [(q, oC11 q_thrown q_tape_ q_length q_size x_45 q_limit q_s_ q_h_ q_read_ q_names_ q_reserved_ q_token x_1 x_46 x_47 q_fault q_faultAt y_48 q_got q_lines q_onces q_webs q_one q_two q_seed q_undone_ q_before_ q_undoMany q_far_ q_wayRow_ q_wayMany q_keptRow_ q_askedRow_ q_rares_ q_trial_ q_keptMany q_askedMany q_hangs_ q_paths_ q_tornSteps q_hasTorn q_turnOne q_hasTurn q_text_ q_textMany q_toldMany q_toldAt_ q_hasTold q_stack_ q_codes q_ones q_top q_deep q_isWhole q_truths_ q_imaged_ q_namesKept_ q_areKept_), (q_tape_, aC0 cy 940 q_tape)]) C hS (q_subP hP [0, 1] rfl) (hD.sub [0, 1] (by decide) rfl) (y_peek l D cy q q_thrown q_tape_ q_length q_size x_45 q_limit q_s_ q_h_ q_read_ q_names_ q_reserved_ q_token x_1 x_46 x_47 q_fault q_faultAt y_48 q_got q_lines q_onces q_webs q_one q_two q_seed q_undone_ q_before_ q_undoMany q_far_ q_wayRow_ q_wayMany q_keptRow_ q_askedRow_ q_rares_ q_trial_ q_keptMany q_askedMany q_hangs_ q_paths_ q_tornSteps q_hasTorn q_turnOne q_hasTurn q_text_ q_textMany q_toldMany q_toldAt_ q_hasTold q_stack_ q_codes q_ones q_top q_deep q_isWhole q_truths_ q_imaged_ q_namesKept_ q_areKept_ q_tape _ (by omega) (by omega) (by omega) (by omega) (by omega) (by omega) (by omega) (by omega) (by omega) (by omega) (by omega) (by omega) (by omega) (by omega) (by omega) (by omega) (by omega) (by omega) (by omega) (by omega) (by omega) (by omega)) kwV_X11_peek kM_RX11_164 rfl rfl ⟨Nat.le_of_ble_eq_true rfl, Nat.le_of_ble_eq_true rfl⟩ rfl hl.1 rfl (Nat.le_of_ble_eq_true rfl) dX11_next_182 ⟨hroom.1, hroom.2⟩) C.2.2.2.2.2.2.1 hP hD hS [0, 1] [] rfl rfl (by decide) (by decide) (fun r_61 u_60 H locs hw_62 hP hD hS => ?_)
                    have hp_62 : (-1) ≤ r_61.toInt ∧ r_61.toInt ≤ 255 := hw_62.1
                    have hp_63 : r_61 = pk q_tape x_45 q_size := hw_62.2.1
                    have hp_64 : (0 ≤ r_61.toInt) → (0 ≤ q_size.toInt + (-1) * x_45.toInt + (-1)) := hw_62.2.2
                    refine q_ai (wr := [(q, oC11 q_thrown q_tape_ q_length q_size x_45 q_limit q_s_ q_h_ q_read_ q_names_ q_reserved_ q_token x_1 x_46 x_47 q_fault q_faultAt y_48 q_got q_lines q_onces q_webs q_one q_two q_seed q_undone_ q_before_ q_undoMany q_far_ q_wayRow_ q_wayMany q_keptRow_ q_askedRow_ q_rares_ q_trial_ q_keptMany q_askedMany q_hangs_ q_paths_ q_tornSteps q_hasTorn q_turnOne q_hasTurn q_text_ q_textMany q_toldMany q_toldAt_ q_hasTold q_stack_ q_codes q_ones q_top q_deep q_isWhole q_truths_ q_imaged_ q_namesKept_ q_areKept_), (q_tape_, aC0 cy 940 q_tape)]) (r_S (rm := (Rm 0 0 0 0)) (As := [.int r_61]) (rest := []) (wc := []) C hS (q_subP hP [] rfl) (hD.sub [] (by decide) rfl) (y_isSmall l D cy r_61 _ ) kwS_X11_isSmall kM_RX11_177 ⟨Nat.le_of_ble_eq_true rfl, Nat.le_of_ble_eq_true rfl⟩ rfl hl.1 rfl (Nat.le_of_ble_eq_true rfl) dX11_next_185 ⟨hroom.1, hroom.2⟩) C.2.2.2.2.2.2.1 hP hD hS [] [0, 1] rfl rfl (by decide) (by decide) (fun r_67 u_66 H locs hw_68 hP hD hS => ?_)
                    have hp_68 : 0 ≤ r_67.toInt ∧ r_67.toInt ≤ 1 := hw_68.1
                    have hp_69 : (0 ≤ r_67.toInt + (-1)) → (0 ≤ r_61.toInt + (-97) ∧ 0 ≤ (-1) * r_61.toInt + 122) := hw_68.2
                    have cut_201_70 : ∀  (H : Heap) (locs : List Loc) (ls : Array Slot), (0 ≤ (-1) * x_45.toInt + 939) → (0 ≤ r_61.toInt + (-48)) → (0 ≤ (-1) * r_61.toInt + 122) → va_P D vwCl [(q, oC11 q_thrown q_tape_ q_length q_size x_45 q_limit q_s_ q_h_ q_read_ q_names_ q_reserved_ q_token x_1 x_46 x_47 q_fault q_faultAt y_48 q_got q_lines q_onces q_webs q_one q_two q_seed q_undone_ q_before_ q_undoMany q_far_ q_wayRow_ q_wayMany q_keptRow_ q_askedRow_ q_rares_ q_trial_ q_keptMany q_askedMany q_hangs_ q_paths_ q_tornSteps q_hasTorn q_turnOne q_hasTurn q_text_ q_textMany q_toldMany q_toldAt_ q_hasTold q_stack_ q_codes q_ones q_top q_deep q_isWhole q_truths_ q_imaged_ q_namesKept_ q_areKept_), (q_tape_, aC0 cy 940 q_tape)] H → va_D A [(q, oC11 q_thrown q_tape_ q_length q_size x_45 q_limit q_s_ q_h_ q_read_ q_names_ q_reserved_ q_token x_1 x_46 x_47 q_fault q_faultAt y_48 q_got q_lines q_onces q_webs q_one q_two q_seed q_undone_ q_before_ q_undoMany q_far_ q_wayRow_ q_wayMany q_keptRow_ q_askedRow_ q_rares_ q_trial_ q_keptMany q_askedMany q_hangs_ q_paths_ q_tornSteps q_hasTorn q_turnOne q_hasTurn q_text_ q_textMany q_toldMany q_toldAt_ q_hasTold q_stack_ q_codes q_ones q_top q_deep q_isWhole q_truths_ q_imaged_ q_namesKept_ q_areKept_), (q_tape_, aC0 cy 940 q_tape)] → va_S A s.heap H locs → lv_has ls 4 [(0, .ref q), (2, .int r_40), (3, .int x_44)] → W p l e (Rm 1 20 0 0) s m args below meth c H locs cells slots Q (F0 m 201 ls []) := by
                      intro  H locs ls hf_71 hf_72 hf_73 hP hD hS hl
                      refine lv_iload_n hx hb dX11_next_201 rfl (lv_at hl 2 rfl) ?_
                      have cut_221_75 : ∀ (x_75 : Int32) (H : Heap) (locs : List Loc) (ls : Array Slot), (0 ≤ x_75.toInt ∧ x_75.toInt ≤ 1) → va_P D vwCl [(q, oC11 q_thrown q_tape_ q_length q_size x_45 q_limit q_s_ q_h_ q_read_ q_names_ q_reserved_ q_token x_1 x_46 x_47 q_fault q_faultAt y_48 q_got q_lines q_onces q_webs q_one q_two q_seed q_undone_ q_before_ q_undoMany q_far_ q_wayRow_ q_wayMany q_keptRow_ q_askedRow_ q_rares_ q_trial_ q_keptMany q_askedMany q_hangs_ q_paths_ q_tornSteps q_hasTorn q_turnOne q_hasTurn q_text_ q_textMany q_toldMany q_toldAt_ q_hasTold q_stack_ q_codes q_ones q_top q_deep q_isWhole q_truths_ q_imaged_ q_namesKept_ q_areKept_), (q_tape_, aC0 cy 940 q_tape)] H → va_D A [(q, oC11 q_thrown q_tape_ q_length q_size x_45 q_limit q_s_ q_h_ q_read_ q_names_ q_reserved_ q_token x_1 x_46 x_47 q_fault q_faultAt y_48 q_got q_lines q_onces q_webs q_one q_two q_seed q_undone_ q_before_ q_undoMany q_far_ q_wayRow_ q_wayMany q_keptRow_ q_askedRow_ q_rares_ q_trial_ q_keptMany q_askedMany q_hangs_ q_paths_ q_tornSteps q_hasTorn q_turnOne q_hasTurn q_text_ q_textMany q_toldMany q_toldAt_ q_hasTold q_stack_ q_codes q_ones q_top q_deep q_isWhole q_truths_ q_imaged_ q_namesKept_ q_areKept_), (q_tape_, aC0 cy 940 q_tape)] → va_S A s.heap H locs → lv_has ls 4 [(0, .ref q), (2, .int r_40)] → W p l e (Rm 1 20 0 0) s m args below meth c H locs cells slots Q (F0 m 221 ls [.int x_75]) := by
                        intro x_75 H locs ls hf_76 hP hD hS hl
                        refine lv_istore_n (lv' := [(3, .int x_75), (0, .ref q), (2, .int r_40)]) hx hb dX11_next_221 rfl hl (by decide) rfl (fun ls hl => ?_)
                        refine lv_aload_n hx hb dX11_next_222 rfl (lv_at hl 1 rfl) ?_
                        refine q_get11 (v := .int x_46) C hP 0 13 rfl fT_13 (by decide) kF_RX11_171 rfl dX11_next_223 ?_
                        refine lv_bipush (v := 7) hx hb dX11_next_226 (by decide) ?_
                        have cut_248_78 : ∀ (y_78 : Int64) (H : Heap) (locs : List Loc) (ls : Array Slot), va_P D vwCl [(q, oC11 q_thrown q_tape_ q_length q_size x_45 q_limit q_s_ q_h_ q_read_ q_names_ q_reserved_ q_token x_1 x_46 x_47 q_fault q_faultAt y_78 q_got q_lines q_onces q_webs q_one q_two q_seed q_undone_ q_before_ q_undoMany q_far_ q_wayRow_ q_wayMany q_keptRow_ q_askedRow_ q_rares_ q_trial_ q_keptMany q_askedMany q_hangs_ q_paths_ q_tornSteps q_hasTorn q_turnOne q_hasTurn q_text_ q_textMany q_toldMany q_toldAt_ q_hasTold q_stack_ q_codes q_ones q_top q_deep q_isWhole q_truths_ q_imaged_ q_namesKept_ q_areKept_), (q_tape_, aC0 cy 940 q_tape)] H → va_D A [(q, oC11 q_thrown q_tape_ q_length q_size x_45 q_limit q_s_ q_h_ q_read_ q_names_ q_reserved_ q_token x_1 x_46 x_47 q_fault q_faultAt y_78 q_got q_lines q_onces q_webs q_one q_two q_seed q_undone_ q_before_ q_undoMany q_far_ q_wayRow_ q_wayMany q_keptRow_ q_askedRow_ q_rares_ q_trial_ q_keptMany q_askedMany q_hangs_ q_paths_ q_tornSteps q_hasTorn q_turnOne q_hasTurn q_text_ q_textMany q_toldMany q_toldAt_ q_hasTold q_stack_ q_codes q_ones q_top q_deep q_isWhole q_truths_ q_imaged_ q_namesKept_ q_areKept_), (q_tape_, aC0 cy 940 q_tape)] → va_S A s.heap H locs → lv_has ls 4 [(0, .ref q), (2, .int r_40), (3, .int x_75)] → W p l e (Rm 1 20 0 0) s m args below meth c H locs cells slots Q (F0 m 248 ls []) := by
                          intro y_78 H locs ls  hP hD hS hl
                          refine lv_aload_n hx hb dX11_next_248 rfl (lv_at hl 0 rfl) ?_
                          refine q_get11 (v := .int x_46) C hP 0 13 rfl fT_13 (by decide) kF_RX11_171 rfl dX11_next_249 ?_
                          refine lv_iconst (v := 3) hx hb dX11_next_252 (by decide) ?_
                          refine lv_icmp_ge (tgt := 275) hx hb dX11_next_253 (by decide) (fun c_80 => ?_) (fun c_80 => ?_)
                          · have hc_80 := o_le (by decide : (3 : Int32).toInt = 3) (rfl : x_46.toInt = x_46.toInt) c_80
                            have hp_64 := hp_64 (by omega)
                            refine lv_aload_n hx hb dX11_next_275 rfl (lv_at hl 0 rfl) ?_
                            refine lv_dup hx hb dX11_next_276 rfl ?_
                            refine q_get11 (v := .int x_46) C hP 0 13 rfl fT_13 (by decide) kF_RX11_171 rfl dX11_next_277 ?_
                            refine lv_iconst (v := 1) hx hb dX11_next_280 (by decide) ?_
                            refine lv_iadd hx hb dX11_next_281 ?_
                            refine lv_topi (fun z_81 hz_81 => ?_)
                            have hz_81 := o_add hz_81 (rfl : x_46.toInt = x_46.toInt) (by decide : (1 : Int32).toInt = 1) (by omega) (by omega)
                            refine q_put11 (v := .int z_81) (w' := [(q, oC11 q_thrown q_tape_ q_length q_size x_45 q_limit q_s_ q_h_ q_read_ q_names_ q_reserved_ q_token x_1 z_81 x_47 q_fault q_faultAt y_78 q_got q_lines q_onces q_webs q_one q_two q_seed q_undone_ q_before_ q_undoMany q_far_ q_wayRow_ q_wayMany q_keptRow_ q_askedRow_ q_rares_ q_trial_ q_keptMany q_askedMany q_hangs_ q_paths_ q_tornSteps q_hasTorn q_turnOne q_hasTurn q_text_ q_textMany q_toldMany q_toldAt_ q_hasTold q_stack_ q_codes q_ones q_top q_deep q_isWhole q_truths_ q_imaged_ q_namesKept_ q_areKept_), (q_tape_, aC0 cy 940 q_tape)]) C hP hD hS 0 13 rfl fT_13 fy_13 (by decide) kF_RX11_171 rfl rfl (Nat.le_of_ble_eq_true rfl) rfl dX11_next_282 (fun H locs hP hD hS => ?_)
                            refine lv_aload_n hx hb dX11_next_285 rfl (lv_at hl 0 rfl) ?_
                            refine lv_dup hx hb dX11_next_286 rfl ?_
                            refine q_get11 (v := .int x_45) C hP 0 4 rfl fT_4 (by decide) kF_RX11_21 rfl dX11_next_287 ?_
                            refine lv_iconst (v := 1) hx hb dX11_next_290 (by decide) ?_
                            refine lv_iadd hx hb dX11_next_291 ?_
                            refine lv_topi (fun z_82 hz_82 => ?_)
                            have hz_82 := o_add hz_82 (rfl : x_45.toInt = x_45.toInt) (by decide : (1 : Int32).toInt = 1) (by omega) (by omega)
                            refine q_put11 (v := .int z_82) (w' := [(q, oC11 q_thrown q_tape_ q_length q_size z_82 q_limit q_s_ q_h_ q_read_ q_names_ q_reserved_ q_token x_1 z_81 x_47 q_fault q_faultAt y_78 q_got q_lines q_onces q_webs q_one q_two q_seed q_undone_ q_before_ q_undoMany q_far_ q_wayRow_ q_wayMany q_keptRow_ q_askedRow_ q_rares_ q_trial_ q_keptMany q_askedMany q_hangs_ q_paths_ q_tornSteps q_hasTorn q_turnOne q_hasTurn q_text_ q_textMany q_toldMany q_toldAt_ q_hasTold q_stack_ q_codes q_ones q_top q_deep q_isWhole q_truths_ q_imaged_ q_namesKept_ q_areKept_), (q_tape_, aC0 cy 940 q_tape)]) C hP hD hS 0 4 rfl fT_4 fy_4 (by decide) kF_RX11_21 rfl rfl (Nat.le_of_ble_eq_true rfl) rfl dX11_next_292 (fun H locs hP hD hS => ?_)
                            refine lv_goto (tgt := 181) hx hb dX11_next_295 (by decide) ?_
                            exact ih_58 x_75 z_82 z_81 x_47 y_78 H locs ls (by omega) (by omega) (by omega) (by omega) (by omega) (by omega) (by omega) (by omega) hP hD hS (lv_sub hl [0, 1, 2] rfl)
                          · have hc_80 := o_nle (by decide : (3 : Int32).toInt = 3) (rfl : x_46.toInt = x_46.toInt) c_80
                            have hp_64 := hp_64 (by omega)
                            refine lv_aload_n hx hb dX11_next_256 rfl (lv_at hl 0 rfl) ?_
                            refine lv_bipush (v := 10) hx hb dX11_next_257 (by decide) ?_
                            refine lv_aload_n hx hb dX11_next_259 rfl (lv_at hl 0 rfl) ?_
                            refine q_get11 (v := .int x_47) C hP 0 14 rfl fT_14 (by decide) kF_RX11_184 rfl dX11_next_260 ?_
                            refine lv_imul hx hb dX11_next_263 ?_
                            refine lv_topi (fun z_83 hz_83 => ?_)
                            have hz_83 := o_mul hz_83 (by decide : (10 : Int32).toInt = 10) (rfl : x_47.toInt = x_47.toInt) (by omega) (by omega)
                            refine lv_aload_n hx hb dX11_next_264 rfl (lv_at hl 0 rfl) ?_
                            refine q_ai (wr := []) (r_V (rm := (Rm 0 0 0 0)) (q0 := 0) (As := []) (rest := [.int z_83, .ref q]) (wc := [(q, oC11 q_thrown q_tape_ q_length q_size x_45 q_limit q_s_ q_h_ q_read_ q_names_ q_reserved_ q_token x_1 x_46 x_47 q_fault q_faultAt y_78 q_got q_lines q_onces q_webs q_one q_two q_seed q_undone_ q_before_ q_undoMany q_far_ q_wayRow_ q_wayMany q_keptRow_ q_askedRow_ q_rares_ q_trial_ q_keptMany q_askedMany q_hangs_ q_paths_ q_tornSteps q_hasTorn q_turnOne q_hasTurn q_text_ q_textMany q_toldMany q_toldAt_ q_hasTold q_stack_ q_codes q_ones q_top q_deep q_isWhole q_truths_ q_imaged_ q_namesKept_ q_areKept_), (q_tape_, aC0 cy 940 q_tape)]) C hS (q_subP hP [0, 1] rfl) (hD.sub [0, 1] (by decide) rfl) (y_peek l D cy q q_thrown q_tape_ q_length q_size x_45 q_limit q_s_ q_h_ q_read_ q_names_ q_reserved_ q_token x_1 x_46 x_47 q_fault q_faultAt y_78 q_got q_lines q_onces q_webs q_one q_two q_seed q_undone_ q_before_ q_undoMany q_far_ q_wayRow_ q_wayMany q_keptRow_ q_askedRow_ q_rares_ q_trial_ q_keptMany q_askedMany q_hangs_ q_paths_ q_tornSteps q_hasTorn q_turnOne q_hasTurn q_text_ q_textMany q_toldMany q_toldAt_ q_hasTold q_stack_ q_codes q_ones q_top q_deep q_isWhole q_truths_ q_imaged_ q_namesKept_ q_areKept_ q_tape _ (by omega) (by omega) (by omega) (by omega) (by omega) (by omega) (by omega) (by omega) (by omega) (by omega) (by omega) (by omega) (by omega) (by omega) (by omega) (by omega) (by omega) (by omega) (by omega) (by omega) (by omega) (by omega)) kwV_X11_peek kM_RX11_164 rfl rfl ⟨Nat.le_of_ble_eq_true rfl, Nat.le_of_ble_eq_true rfl⟩ rfl hl.1 rfl (Nat.le_of_ble_eq_true rfl) dX11_next_265 ⟨hroom.1, hroom.2⟩) C.2.2.2.2.2.2.1 hP hD hS [0, 1] [] rfl rfl (by decide) (by decide) (fun r_85 u_84 H locs hw_86 hP hD hS => ?_)
                            have hp_86 : (-1) ≤ r_85.toInt ∧ r_85.toInt ≤ 255 := hw_86.1
                            have hp_87 : r_85 = pk q_tape x_45 q_size := hw_86.2.1
                            have hp_88 : (0 ≤ r_85.toInt) → (0 ≤ q_size.toInt + (-1) * x_45.toInt + (-1)) := hw_86.2.2
                            refine q_val (v := r_61) (hp_87.trans hp_63.symm) ?_
                            refine lv_iadd hx hb dX11_next_268 ?_
                            refine lv_topi (fun z_90 hz_90 => ?_)
                            have hz_90 := o_add hz_90 (rfl : z_83.toInt = z_83.toInt) (rfl : r_61.toInt = r_61.toInt) (by omega) (by omega)
                            refine lv_bipush (v := 48) hx hb dX11_next_269 (by decide) ?_
                            refine lv_isub hx hb dX11_next_271 ?_
                            refine lv_topi (fun z_91 hz_91 => ?_)
                            have hz_91 := o_sub hz_91 (rfl : z_90.toInt = z_90.toInt) (by decide : (48 : Int32).toInt = 48) (by omega) (by omega)
                            refine q_put11 (v := .int z_91) (w' := [(q, oC11 q_thrown q_tape_ q_length q_size x_45 q_limit q_s_ q_h_ q_read_ q_names_ q_reserved_ q_token x_1 x_46 z_91 q_fault q_faultAt y_78 q_got q_lines q_onces q_webs q_one q_two q_seed q_undone_ q_before_ q_undoMany q_far_ q_wayRow_ q_wayMany q_keptRow_ q_askedRow_ q_rares_ q_trial_ q_keptMany q_askedMany q_hangs_ q_paths_ q_tornSteps q_hasTorn q_turnOne q_hasTurn q_text_ q_textMany q_toldMany q_toldAt_ q_hasTold q_stack_ q_codes q_ones q_top q_deep q_isWhole q_truths_ q_imaged_ q_namesKept_ q_areKept_), (q_tape_, aC0 cy 940 q_tape)]) C hP hD hS 0 14 rfl fT_14 fy_14 (by decide) kF_RX11_184 rfl rfl (Nat.le_of_ble_eq_true rfl) rfl dX11_next_272 (fun H locs hP hD hS => ?_)
                            refine lv_aload_n hx hb dX11_next_275 rfl (lv_at hl 0 rfl) ?_
                            refine lv_dup hx hb dX11_next_276 rfl ?_
                            refine q_get11 (v := .int x_46) C hP 0 13 rfl fT_13 (by decide) kF_RX11_171 rfl dX11_next_277 ?_
                            refine lv_iconst (v := 1) hx hb dX11_next_280 (by decide) ?_
                            refine lv_iadd hx hb dX11_next_281 ?_
                            refine lv_topi (fun z_92 hz_92 => ?_)
                            have hz_92 := o_add hz_92 (rfl : x_46.toInt = x_46.toInt) (by decide : (1 : Int32).toInt = 1) (by omega) (by omega)
                            refine q_put11 (v := .int z_92) (w' := [(q, oC11 q_thrown q_tape_ q_length q_size x_45 q_limit q_s_ q_h_ q_read_ q_names_ q_reserved_ q_token x_1 z_92 z_91 q_fault q_faultAt y_78 q_got q_lines q_onces q_webs q_one q_two q_seed q_undone_ q_before_ q_undoMany q_far_ q_wayRow_ q_wayMany q_keptRow_ q_askedRow_ q_rares_ q_trial_ q_keptMany q_askedMany q_hangs_ q_paths_ q_tornSteps q_hasTorn q_turnOne q_hasTurn q_text_ q_textMany q_toldMany q_toldAt_ q_hasTold q_stack_ q_codes q_ones q_top q_deep q_isWhole q_truths_ q_imaged_ q_namesKept_ q_areKept_), (q_tape_, aC0 cy 940 q_tape)]) C hP hD hS 0 13 rfl fT_13 fy_13 (by decide) kF_RX11_171 rfl rfl (Nat.le_of_ble_eq_true rfl) rfl dX11_next_282 (fun H locs hP hD hS => ?_)
                            refine lv_aload_n hx hb dX11_next_285 rfl (lv_at hl 0 rfl) ?_
                            refine lv_dup hx hb dX11_next_286 rfl ?_
                            refine q_get11 (v := .int x_45) C hP 0 4 rfl fT_4 (by decide) kF_RX11_21 rfl dX11_next_287 ?_
                            refine lv_iconst (v := 1) hx hb dX11_next_290 (by decide) ?_
                            refine lv_iadd hx hb dX11_next_291 ?_
                            refine lv_topi (fun z_93 hz_93 => ?_)
                            have hz_93 := o_add hz_93 (rfl : x_45.toInt = x_45.toInt) (by decide : (1 : Int32).toInt = 1) (by omega) (by omega)
                            refine q_put11 (v := .int z_93) (w' := [(q, oC11 q_thrown q_tape_ q_length q_size z_93 q_limit q_s_ q_h_ q_read_ q_names_ q_reserved_ q_token x_1 z_92 z_91 q_fault q_faultAt y_78 q_got q_lines q_onces q_webs q_one q_two q_seed q_undone_ q_before_ q_undoMany q_far_ q_wayRow_ q_wayMany q_keptRow_ q_askedRow_ q_rares_ q_trial_ q_keptMany q_askedMany q_hangs_ q_paths_ q_tornSteps q_hasTorn q_turnOne q_hasTurn q_text_ q_textMany q_toldMany q_toldAt_ q_hasTold q_stack_ q_codes q_ones q_top q_deep q_isWhole q_truths_ q_imaged_ q_namesKept_ q_areKept_), (q_tape_, aC0 cy 940 q_tape)]) C hP hD hS 0 4 rfl fT_4 fy_4 (by decide) kF_RX11_21 rfl rfl (Nat.le_of_ble_eq_true rfl) rfl dX11_next_292 (fun H locs hP hD hS => ?_)
                            refine lv_goto (tgt := 181) hx hb dX11_next_295 (by decide) ?_
                            exact ih_58 x_75 z_93 z_92 z_91 y_78 H locs ls (by omega) (by omega) (by omega) (by omega) (by omega) (by omega) (by omega) (by omega) hP hD hS (lv_sub hl [0, 1, 2] rfl)
                        refine lv_icmp_ge (tgt := 248) hx hb dX11_next_228 (by decide) (fun c_94 => ?_) (fun c_94 => ?_)
                        · have hc_94 := o_le (by decide : (7 : Int32).toInt = 7) (rfl : x_46.toInt = x_46.toInt) c_94
                          have hp_64 := hp_64 (by omega)
                          exact cut_248_78 y_48 H locs ls   hP hD hS (lv_sub hl [1, 2, 0] rfl)
                        · have hc_94 := o_nle (by decide : (7 : Int32).toInt = 7) (rfl : x_46.toInt = x_46.toInt) c_94
                          have hp_64 := hp_64 (by omega)
                          refine lv_aload_n hx hb dX11_next_231 rfl (lv_at hl 1 rfl) ?_
                          refine lv_aload_n hx hb dX11_next_232 rfl (lv_at hl 1 rfl) ?_
                          refine q_get11 (v := .long y_48) C hP 0 17 rfl fT_17 (by decide) kF_RX11_187 rfl dX11_next_233 ?_
                          refine lv_bipush (v := 8) hx hb dX11_next_236 (by decide) ?_
                          refine lv_lshl hx hb dX11_next_238 rfl ?_
                          refine lv_topl (fun y_95 _ => ?_)
                          refine lv_aload_n hx hb dX11_next_239 rfl (lv_at hl 1 rfl) ?_
                          refine q_ai (wr := []) (r_V (rm := (Rm 0 0 0 0)) (q0 := 0) (As := []) (rest := [.long y_95, .ref q]) (wc := [(q, oC11 q_thrown q_tape_ q_length q_size x_45 q_limit q_s_ q_h_ q_read_ q_names_ q_reserved_ q_token x_1 x_46 x_47 q_fault q_faultAt y_48 q_got q_lines q_onces q_webs q_one q_two q_seed q_undone_ q_before_ q_undoMany q_far_ q_wayRow_ q_wayMany q_keptRow_ q_askedRow_ q_rares_ q_trial_ q_keptMany q_askedMany q_hangs_ q_paths_ q_tornSteps q_hasTorn q_turnOne q_hasTurn q_text_ q_textMany q_toldMany q_toldAt_ q_hasTold q_stack_ q_codes q_ones q_top q_deep q_isWhole q_truths_ q_imaged_ q_namesKept_ q_areKept_), (q_tape_, aC0 cy 940 q_tape)]) C hS (q_subP hP [0, 1] rfl) (hD.sub [0, 1] (by decide) rfl) (y_peek l D cy q q_thrown q_tape_ q_length q_size x_45 q_limit q_s_ q_h_ q_read_ q_names_ q_reserved_ q_token x_1 x_46 x_47 q_fault q_faultAt y_48 q_got q_lines q_onces q_webs q_one q_two q_seed q_undone_ q_before_ q_undoMany q_far_ q_wayRow_ q_wayMany q_keptRow_ q_askedRow_ q_rares_ q_trial_ q_keptMany q_askedMany q_hangs_ q_paths_ q_tornSteps q_hasTorn q_turnOne q_hasTurn q_text_ q_textMany q_toldMany q_toldAt_ q_hasTold q_stack_ q_codes q_ones q_top q_deep q_isWhole q_truths_ q_imaged_ q_namesKept_ q_areKept_ q_tape _ (by omega) (by omega) (by omega) (by omega) (by omega) (by omega) (by omega) (by omega) (by omega) (by omega) (by omega) (by omega) (by omega) (by omega) (by omega) (by omega) (by omega) (by omega) (by omega) (by omega) (by omega) (by omega)) kwV_X11_peek kM_RX11_164 rfl rfl ⟨Nat.le_of_ble_eq_true rfl, Nat.le_of_ble_eq_true rfl⟩ rfl hl.1 rfl (Nat.le_of_ble_eq_true rfl) dX11_next_240 ⟨hroom.1, hroom.2⟩) C.2.2.2.2.2.2.1 hP hD hS [0, 1] [] rfl rfl (by decide) (by decide) (fun r_97 u_96 H locs hw_98 hP hD hS => ?_)
                          have hp_98 : (-1) ≤ r_97.toInt ∧ r_97.toInt ≤ 255 := hw_98.1
                          have hp_99 : r_97 = pk q_tape x_45 q_size := hw_98.2.1
                          have hp_100 : (0 ≤ r_97.toInt) → (0 ≤ q_size.toInt + (-1) * x_45.toInt + (-1)) := hw_98.2.2
                          refine q_val (v := r_61) (hp_99.trans hp_63.symm) ?_
                          refine lv_i2l hx hb dX11_next_243 rfl ?_
                          refine lv_topl (fun y_102 _ => ?_)
                          refine lv_lor hx hb dX11_next_244 ?_
                          refine lv_topl (fun y_103 _ => ?_)
                          refine q_put11 (v := .long y_103) (w' := [(q, oC11 q_thrown q_tape_ q_length q_size x_45 q_limit q_s_ q_h_ q_read_ q_names_ q_reserved_ q_token x_1 x_46 x_47 q_fault q_faultAt y_103 q_got q_lines q_onces q_webs q_one q_two q_seed q_undone_ q_before_ q_undoMany q_far_ q_wayRow_ q_wayMany q_keptRow_ q_askedRow_ q_rares_ q_trial_ q_keptMany q_askedMany q_hangs_ q_paths_ q_tornSteps q_hasTorn q_turnOne q_hasTurn q_text_ q_textMany q_toldMany q_toldAt_ q_hasTold q_stack_ q_codes q_ones q_top q_deep q_isWhole q_truths_ q_imaged_ q_namesKept_ q_areKept_), (q_tape_, aC0 cy 940 q_tape)]) C hP hD hS 0 17 rfl fT_17 fy_17 (by decide) kF_RX11_187 rfl rfl (Nat.le_of_ble_eq_true rfl) rfl dX11_next_245 (fun H locs hP hD hS => ?_)
                          exact cut_248_78 y_103 H locs ls   hP hD hS (lv_sub hl [1, 2, 0] rfl)
                      refine lv_if_eq (tgt := 220) hx hb dX11_next_202 (by decide) (fun c_104 => ?_) (fun c_104 => ?_)
                      · have hc_104 := o_eq (rfl : x_44.toInt = x_44.toInt) (by decide : (0 : Int32).toInt = 0) c_104
                        have hp_64 := hp_64 (by omega)
                        refine lv_iconst (v := 0) hx hb dX11_next_220 (by decide) ?_
                        exact cut_221_75 (0 : Int32) H locs ls  (by have e0 : (0 : Int32).toInt = 0 := (by decide); omega) hP hD hS (lv_sub hl [0, 1] rfl)
                      · have hc_104 := o_ne (rfl : x_44.toInt = x_44.toInt) (by decide : (0 : Int32).toInt = 0) c_104
                        have hp_64 := hp_64 (by omega)
                        refine lv_aload_n hx hb dX11_next_205 rfl (lv_at hl 0 rfl) ?_
                        refine q_ai (wr := []) (r_V (rm := (Rm 0 0 0 0)) (q0 := 0) (As := []) (rest := []) (wc := [(q, oC11 q_thrown q_tape_ q_length q_size x_45 q_limit q_s_ q_h_ q_read_ q_names_ q_reserved_ q_token x_1 x_46 x_47 q_fault q_faultAt y_48 q_got q_lines q_onces q_webs q_one q_two q_seed q_undone_ q_before_ q_undoMany q_far_ q_wayRow_ q_wayMany q_keptRow_ q_askedRow_ q_rares_ q_trial_ q_keptMany q_askedMany q_hangs_ q_paths_ q_tornSteps q_hasTorn q_turnOne q_hasTurn q_text_ q_textMany q_toldMany q_toldAt_ q_hasTold q_stack_ q_codes q_ones q_top q_deep q_isWhole q_truths_ q_imaged_ q_namesKept_ q_areKept_), (q_tape_, aC0 cy 940 q_tape)]) C hS (q_subP hP [0, 1] rfl) (hD.sub [0, 1] (by decide) rfl) (y_peek l D cy q q_thrown q_tape_ q_length q_size x_45 q_limit q_s_ q_h_ q_read_ q_names_ q_reserved_ q_token x_1 x_46 x_47 q_fault q_faultAt y_48 q_got q_lines q_onces q_webs q_one q_two q_seed q_undone_ q_before_ q_undoMany q_far_ q_wayRow_ q_wayMany q_keptRow_ q_askedRow_ q_rares_ q_trial_ q_keptMany q_askedMany q_hangs_ q_paths_ q_tornSteps q_hasTorn q_turnOne q_hasTurn q_text_ q_textMany q_toldMany q_toldAt_ q_hasTold q_stack_ q_codes q_ones q_top q_deep q_isWhole q_truths_ q_imaged_ q_namesKept_ q_areKept_ q_tape _ (by omega) (by omega) (by omega) (by omega) (by omega) (by omega) (by omega) (by omega) (by omega) (by omega) (by omega) (by omega) (by omega) (by omega) (by omega) (by omega) (by omega) (by omega) (by omega) (by omega) (by omega) (by omega)) kwV_X11_peek kM_RX11_164 rfl rfl ⟨Nat.le_of_ble_eq_true rfl, Nat.le_of_ble_eq_true rfl⟩ rfl hl.1 rfl (Nat.le_of_ble_eq_true rfl) dX11_next_206 ⟨hroom.1, hroom.2⟩) C.2.2.2.2.2.2.1 hP hD hS [0, 1] [] rfl rfl (by decide) (by decide) (fun r_106 u_105 H locs hw_107 hP hD hS => ?_)
                        have hp_107 : (-1) ≤ r_106.toInt ∧ r_106.toInt ≤ 255 := hw_107.1
                        have hp_108 : r_106 = pk q_tape x_45 q_size := hw_107.2.1
                        have hp_109 : (0 ≤ r_106.toInt) → (0 ≤ q_size.toInt + (-1) * x_45.toInt + (-1)) := hw_107.2.2
                        refine q_val (v := r_61) (hp_108.trans hp_63.symm) ?_
                        refine q_ai (wr := [(q, oC11 q_thrown q_tape_ q_length q_size x_45 q_limit q_s_ q_h_ q_read_ q_names_ q_reserved_ q_token x_1 x_46 x_47 q_fault q_faultAt y_48 q_got q_lines q_onces q_webs q_one q_two q_seed q_undone_ q_before_ q_undoMany q_far_ q_wayRow_ q_wayMany q_keptRow_ q_askedRow_ q_rares_ q_trial_ q_keptMany q_askedMany q_hangs_ q_paths_ q_tornSteps q_hasTorn q_turnOne q_hasTurn q_text_ q_textMany q_toldMany q_toldAt_ q_hasTold q_stack_ q_codes q_ones q_top q_deep q_isWhole q_truths_ q_imaged_ q_namesKept_ q_areKept_), (q_tape_, aC0 cy 940 q_tape)]) (r_S (rm := (Rm 0 0 0 0)) (As := [.int r_61]) (rest := []) (wc := []) C hS (q_subP hP [] rfl) (hD.sub [] (by decide) rfl) (y_isSmall l D cy r_61 _ ) kwS_X11_isSmall kM_RX11_177 ⟨Nat.le_of_ble_eq_true rfl, Nat.le_of_ble_eq_true rfl⟩ rfl hl.1 rfl (Nat.le_of_ble_eq_true rfl) dX11_next_209 ⟨hroom.1, hroom.2⟩) C.2.2.2.2.2.2.1 hP hD hS [] [0, 1] rfl rfl (by decide) (by decide) (fun r_112 u_111 H locs hw_113 hP hD hS => ?_)
                        have hp_113 : 0 ≤ r_112.toInt ∧ r_112.toInt ≤ 1 := hw_113.1
                        have hp_114 : (0 ≤ r_112.toInt + (-1)) → (0 ≤ r_61.toInt + (-97) ∧ 0 ≤ (-1) * r_61.toInt + 122) := hw_113.2
                        refine lv_iload_n hx hb dX11_next_212 rfl (lv_at hl 1 rfl) ?_
                        refine lv_icmp_ne (tgt := 220) hx hb dX11_next_213 (by decide) (fun c_116 => ?_) (fun c_116 => ?_)
                        · have hc_116 := o_ne (rfl : r_112.toInt = r_112.toInt) (rfl : r_40.toInt = r_40.toInt) c_116
                          refine lv_iconst (v := 0) hx hb dX11_next_220 (by decide) ?_
                          exact cut_221_75 (0 : Int32) H locs ls  (by have e0 : (0 : Int32).toInt = 0 := (by decide); omega) hP hD hS (lv_sub hl [0, 1] rfl)
                        · have hc_116 := o_eq (rfl : r_112.toInt = r_112.toInt) (rfl : r_40.toInt = r_40.toInt) c_116
                          refine lv_iconst (v := 1) hx hb dX11_next_216 (by decide) ?_
                          refine lv_goto (tgt := 221) hx hb dX11_next_217 (by decide) ?_
                          exact cut_221_75 (1 : Int32) H locs ls  (by have e0 : (1 : Int32).toInt = 1 := (by decide); omega) hP hD hS (lv_sub hl [0, 1] rfl)
                    refine lv_if_ne (tgt := 201) hx hb dX11_next_188 (by decide) (fun c_117 => ?_) (fun c_117 => ?_)
                    · have hc_117 := o_ne (rfl : r_67.toInt = r_67.toInt) (by decide : (0 : Int32).toInt = 0) c_117
                      have hp_69 := hp_69 (by omega)
                      have hp_64 := hp_64 (by omega)
                      exact cut_201_70  H locs ls  (by omega) (by omega) (by omega) hP hD hS (lv_sub hl [0, 1, 2] rfl)
                    · have hc_117 := o_eq (rfl : r_67.toInt = r_67.toInt) (by decide : (0 : Int32).toInt = 0) c_117
                      clear hp_69
                      refine lv_aload_n hx hb dX11_next_191 rfl (lv_at hl 0 rfl) ?_
                      refine q_ai (wr := []) (r_V (rm := (Rm 0 0 0 0)) (q0 := 0) (As := []) (rest := []) (wc := [(q, oC11 q_thrown q_tape_ q_length q_size x_45 q_limit q_s_ q_h_ q_read_ q_names_ q_reserved_ q_token x_1 x_46 x_47 q_fault q_faultAt y_48 q_got q_lines q_onces q_webs q_one q_two q_seed q_undone_ q_before_ q_undoMany q_far_ q_wayRow_ q_wayMany q_keptRow_ q_askedRow_ q_rares_ q_trial_ q_keptMany q_askedMany q_hangs_ q_paths_ q_tornSteps q_hasTorn q_turnOne q_hasTurn q_text_ q_textMany q_toldMany q_toldAt_ q_hasTold q_stack_ q_codes q_ones q_top q_deep q_isWhole q_truths_ q_imaged_ q_namesKept_ q_areKept_), (q_tape_, aC0 cy 940 q_tape)]) C hS (q_subP hP [0, 1] rfl) (hD.sub [0, 1] (by decide) rfl) (y_peek l D cy q q_thrown q_tape_ q_length q_size x_45 q_limit q_s_ q_h_ q_read_ q_names_ q_reserved_ q_token x_1 x_46 x_47 q_fault q_faultAt y_48 q_got q_lines q_onces q_webs q_one q_two q_seed q_undone_ q_before_ q_undoMany q_far_ q_wayRow_ q_wayMany q_keptRow_ q_askedRow_ q_rares_ q_trial_ q_keptMany q_askedMany q_hangs_ q_paths_ q_tornSteps q_hasTorn q_turnOne q_hasTurn q_text_ q_textMany q_toldMany q_toldAt_ q_hasTold q_stack_ q_codes q_ones q_top q_deep q_isWhole q_truths_ q_imaged_ q_namesKept_ q_areKept_ q_tape _ (by omega) (by omega) (by omega) (by omega) (by omega) (by omega) (by omega) (by omega) (by omega) (by omega) (by omega) (by omega) (by omega) (by omega) (by omega) (by omega) (by omega) (by omega) (by omega) (by omega) (by omega) (by omega)) kwV_X11_peek kM_RX11_164 rfl rfl ⟨Nat.le_of_ble_eq_true rfl, Nat.le_of_ble_eq_true rfl⟩ rfl hl.1 rfl (Nat.le_of_ble_eq_true rfl) dX11_next_192 ⟨hroom.1, hroom.2⟩) C.2.2.2.2.2.2.1 hP hD hS [0, 1] [] rfl rfl (by decide) (by decide) (fun r_119 u_118 H locs hw_120 hP hD hS => ?_)
                      have hp_120 : (-1) ≤ r_119.toInt ∧ r_119.toInt ≤ 255 := hw_120.1
                      have hp_121 : r_119 = pk q_tape x_45 q_size := hw_120.2.1
                      have hp_122 : (0 ≤ r_119.toInt) → (0 ≤ q_size.toInt + (-1) * x_45.toInt + (-1)) := hw_120.2.2
                      refine q_val (v := r_61) (hp_121.trans hp_63.symm) ?_
                      refine q_ai (wr := [(q, oC11 q_thrown q_tape_ q_length q_size x_45 q_limit q_s_ q_h_ q_read_ q_names_ q_reserved_ q_token x_1 x_46 x_47 q_fault q_faultAt y_48 q_got q_lines q_onces q_webs q_one q_two q_seed q_undone_ q_before_ q_undoMany q_far_ q_wayRow_ q_wayMany q_keptRow_ q_askedRow_ q_rares_ q_trial_ q_keptMany q_askedMany q_hangs_ q_paths_ q_tornSteps q_hasTorn q_turnOne q_hasTurn q_text_ q_textMany q_toldMany q_toldAt_ q_hasTold q_stack_ q_codes q_ones q_top q_deep q_isWhole q_truths_ q_imaged_ q_namesKept_ q_areKept_), (q_tape_, aC0 cy 940 q_tape)]) (r_S (rm := (Rm 0 0 0 0)) (As := [.int r_61]) (rest := []) (wc := []) C hS (q_subP hP [] rfl) (hD.sub [] (by decide) rfl) (y_isDigit l D cy r_61 _ ) kwS_X11_isDigit kM_RX11_181 ⟨Nat.le_of_ble_eq_true rfl, Nat.le_of_ble_eq_true rfl⟩ rfl hl.1 rfl (Nat.le_of_ble_eq_true rfl) dX11_next_195 ⟨hroom.1, hroom.2⟩) C.2.2.2.2.2.2.1 hP hD hS [] [0, 1] rfl rfl (by decide) (by decide) (fun r_125 u_124 H locs hw_126 hP hD hS => ?_)
                      have hp_126 : 0 ≤ r_125.toInt ∧ r_125.toInt ≤ 1 := hw_126.1
                      have hp_127 : (0 ≤ r_125.toInt + (-1)) → (0 ≤ r_61.toInt + (-48) ∧ 0 ≤ (-1) * r_61.toInt + 57) := hw_126.2
                      refine lv_if_eq (tgt := 298) hx hb dX11_next_198 (by decide) (fun c_129 => ?_) (fun c_129 => ?_)
                      · have hc_129 := o_eq (rfl : r_125.toInt = r_125.toInt) (by decide : (0 : Int32).toInt = 0) c_129
                        clear hp_127
                        refine lv_aload_n hx hb dX11_next_298 rfl (lv_at hl 0 rfl) ?_
                        refine lv_iload_n hx hb dX11_next_299 rfl (lv_at hl 2 rfl) ?_
                        refine lv_if_eq (tgt := 320) hx hb dX11_next_300 (by decide) (fun c_130 => ?_) (fun c_130 => ?_)
                        · have hc_130 := o_eq (rfl : x_44.toInt = x_44.toInt) (by decide : (0 : Int32).toInt = 0) c_130
                          refine lv_iconst (v := 4) hx hb dX11_next_320 (by decide) ?_
                          refine lv_goto (tgt := 333) hx hb dX11_next_321 (by decide) ?_
                          refine q_put11 (v := .int 4) (w' := [(q, oC11 q_thrown q_tape_ q_length q_size x_45 q_limit q_s_ q_h_ q_read_ q_names_ q_reserved_ 4 x_1 x_46 x_47 q_fault q_faultAt y_48 q_got q_lines q_onces q_webs q_one q_two q_seed q_undone_ q_before_ q_undoMany q_far_ q_wayRow_ q_wayMany q_keptRow_ q_askedRow_ q_rares_ q_trial_ q_keptMany q_askedMany q_hangs_ q_paths_ q_tornSteps q_hasTorn q_turnOne q_hasTurn q_text_ q_textMany q_toldMany q_toldAt_ q_hasTold q_stack_ q_codes q_ones q_top q_deep q_isWhole q_truths_ q_imaged_ q_namesKept_ q_areKept_), (q_tape_, aC0 cy 940 q_tape)]) C hP hD hS 0 11 rfl fT_11 fy_11 (by decide) kF_RX11_174 rfl rfl (Nat.le_of_ble_eq_true rfl) rfl dX11_next_333 (fun H locs hP hD hS => ?_)
                          refine o_wq hQ ?_
                          exact q_vret (rm := (Rm 1 20 0 0)) C hS (x_45, 4, x_1, x_46, x_47, y_48) ⟨(show 0 ≤ x_45.toInt ∧ x_45.toInt ≤ 940 by omega), (show 0 ≤ x_46.toInt ∧ x_46.toInt ≤ 940 by omega), (show 0 ≤ x_47.toInt ∧ x_47.toInt ≤ 8214 by omega), (show 0 ≤ x_45.toInt + (-1) * q_p.toInt by have e0 : (4 : Int32).toInt = 4 := (by decide); omega), (show (0 ≤ (4 : Int32).toInt + (-3) ∧ 0 ≤ (-1) * (4 : Int32).toInt + 3) → (0 ≤ x_45.toInt + (-1) * q_p.toInt + (-1)) by have e0 : (4 : Int32).toInt = 4 := (by decide); omega)⟩ (q_subP hP [0, 1] rfl) (hD.sub [0, 1] (by decide) rfl) hroom.1 hroom.2 dX11_next_336
                        · have hc_130 := o_ne (rfl : x_44.toInt = x_44.toInt) (by decide : (0 : Int32).toInt = 0) c_130
                          refine lv_aload_n hx hb dX11_next_303 rfl (lv_at hl 0 rfl) ?_
                          refine q_get11 (v := .int x_46) C hP 0 13 rfl fT_13 (by decide) kF_RX11_171 rfl dX11_next_304 ?_
                          refine lv_iload_n hx hb dX11_next_307 rfl (lv_at hl 1 rfl) ?_
                          have cut_317_131 : ∀ (x_131 : Int32) (H : Heap) (locs : List Loc) (ls : Array Slot), (3 ≤ x_131.toInt ∧ x_131.toInt ≤ 7) → va_P D vwCl [(q, oC11 q_thrown q_tape_ q_length q_size x_45 q_limit q_s_ q_h_ q_read_ q_names_ q_reserved_ q_token x_1 x_46 x_47 q_fault q_faultAt y_48 q_got q_lines q_onces q_webs q_one q_two q_seed q_undone_ q_before_ q_undoMany q_far_ q_wayRow_ q_wayMany q_keptRow_ q_askedRow_ q_rares_ q_trial_ q_keptMany q_askedMany q_hangs_ q_paths_ q_tornSteps q_hasTorn q_turnOne q_hasTurn q_text_ q_textMany q_toldMany q_toldAt_ q_hasTold q_stack_ q_codes q_ones q_top q_deep q_isWhole q_truths_ q_imaged_ q_namesKept_ q_areKept_), (q_tape_, aC0 cy 940 q_tape)] H → va_D A [(q, oC11 q_thrown q_tape_ q_length q_size x_45 q_limit q_s_ q_h_ q_read_ q_names_ q_reserved_ q_token x_1 x_46 x_47 q_fault q_faultAt y_48 q_got q_lines q_onces q_webs q_one q_two q_seed q_undone_ q_before_ q_undoMany q_far_ q_wayRow_ q_wayMany q_keptRow_ q_askedRow_ q_rares_ q_trial_ q_keptMany q_askedMany q_hangs_ q_paths_ q_tornSteps q_hasTorn q_turnOne q_hasTurn q_text_ q_textMany q_toldMany q_toldAt_ q_hasTold q_stack_ q_codes q_ones q_top q_deep q_isWhole q_truths_ q_imaged_ q_namesKept_ q_areKept_), (q_tape_, aC0 cy 940 q_tape)] → va_S A s.heap H locs → lv_has ls 4 [(2, .int r_40)] → W p l e (Rm 1 20 0 0) s m args below meth c H locs cells slots Q (F0 m 317 ls [.int x_131, .int x_46, .ref q]) := by
                            intro x_131 H locs ls hf_132 hP hD hS hl
                            refine lv_icmp_le (tgt := 324) hx hb dX11_next_317 (by decide) (fun c_134 => ?_) (fun c_134 => ?_)
                            · have hc_134 := o_le (rfl : x_46.toInt = x_46.toInt) (rfl : x_131.toInt = x_131.toInt) c_134
                              refine lv_iload_n hx hb dX11_next_324 rfl (lv_at hl 0 rfl) ?_
                              refine lv_if_eq (tgt := 332) hx hb dX11_next_325 (by decide) (fun c_135 => ?_) (fun c_135 => ?_)
                              · have hc_135 := o_eq (rfl : r_40.toInt = r_40.toInt) (by decide : (0 : Int32).toInt = 0) c_135
                                clear hp_42
                                refine lv_iconst (v := 2) hx hb dX11_next_332 (by decide) ?_
                                refine q_put11 (v := .int 2) (w' := [(q, oC11 q_thrown q_tape_ q_length q_size x_45 q_limit q_s_ q_h_ q_read_ q_names_ q_reserved_ 2 x_1 x_46 x_47 q_fault q_faultAt y_48 q_got q_lines q_onces q_webs q_one q_two q_seed q_undone_ q_before_ q_undoMany q_far_ q_wayRow_ q_wayMany q_keptRow_ q_askedRow_ q_rares_ q_trial_ q_keptMany q_askedMany q_hangs_ q_paths_ q_tornSteps q_hasTorn q_turnOne q_hasTurn q_text_ q_textMany q_toldMany q_toldAt_ q_hasTold q_stack_ q_codes q_ones q_top q_deep q_isWhole q_truths_ q_imaged_ q_namesKept_ q_areKept_), (q_tape_, aC0 cy 940 q_tape)]) C hP hD hS 0 11 rfl fT_11 fy_11 (by decide) kF_RX11_174 rfl rfl (Nat.le_of_ble_eq_true rfl) rfl dX11_next_333 (fun H locs hP hD hS => ?_)
                                refine o_wq hQ ?_
                                exact q_vret (rm := (Rm 1 20 0 0)) C hS (x_45, 2, x_1, x_46, x_47, y_48) ⟨(show 0 ≤ x_45.toInt ∧ x_45.toInt ≤ 940 by omega), (show 0 ≤ x_46.toInt ∧ x_46.toInt ≤ 940 by omega), (show 0 ≤ x_47.toInt ∧ x_47.toInt ≤ 8214 by omega), (show 0 ≤ x_45.toInt + (-1) * q_p.toInt by have e0 : (2 : Int32).toInt = 2 := (by decide); omega), (show (0 ≤ (2 : Int32).toInt + (-3) ∧ 0 ≤ (-1) * (2 : Int32).toInt + 3) → (0 ≤ x_45.toInt + (-1) * q_p.toInt + (-1)) by have e0 : (2 : Int32).toInt = 2 := (by decide); omega)⟩ (q_subP hP [0, 1] rfl) (hD.sub [0, 1] (by decide) rfl) hroom.1 hroom.2 dX11_next_336
                              · have hc_135 := o_ne (rfl : r_40.toInt = r_40.toInt) (by decide : (0 : Int32).toInt = 0) c_135
                                have hp_42 := hp_42 (by omega)
                                refine lv_iconst (v := 1) hx hb dX11_next_328 (by decide) ?_
                                refine lv_goto (tgt := 333) hx hb dX11_next_329 (by decide) ?_
                                refine q_put11 (v := .int 1) (w' := [(q, oC11 q_thrown q_tape_ q_length q_size x_45 q_limit q_s_ q_h_ q_read_ q_names_ q_reserved_ 1 x_1 x_46 x_47 q_fault q_faultAt y_48 q_got q_lines q_onces q_webs q_one q_two q_seed q_undone_ q_before_ q_undoMany q_far_ q_wayRow_ q_wayMany q_keptRow_ q_askedRow_ q_rares_ q_trial_ q_keptMany q_askedMany q_hangs_ q_paths_ q_tornSteps q_hasTorn q_turnOne q_hasTurn q_text_ q_textMany q_toldMany q_toldAt_ q_hasTold q_stack_ q_codes q_ones q_top q_deep q_isWhole q_truths_ q_imaged_ q_namesKept_ q_areKept_), (q_tape_, aC0 cy 940 q_tape)]) C hP hD hS 0 11 rfl fT_11 fy_11 (by decide) kF_RX11_174 rfl rfl (Nat.le_of_ble_eq_true rfl) rfl dX11_next_333 (fun H locs hP hD hS => ?_)
                                refine o_wq hQ ?_
                                exact q_vret (rm := (Rm 1 20 0 0)) C hS (x_45, 1, x_1, x_46, x_47, y_48) ⟨(show 0 ≤ x_45.toInt ∧ x_45.toInt ≤ 940 by omega), (show 0 ≤ x_46.toInt ∧ x_46.toInt ≤ 940 by omega), (show 0 ≤ x_47.toInt ∧ x_47.toInt ≤ 8214 by omega), (show 0 ≤ x_45.toInt + (-1) * q_p.toInt by have e0 : (1 : Int32).toInt = 1 := (by decide); omega), (show (0 ≤ (1 : Int32).toInt + (-3) ∧ 0 ≤ (-1) * (1 : Int32).toInt + 3) → (0 ≤ x_45.toInt + (-1) * q_p.toInt + (-1)) by have e0 : (1 : Int32).toInt = 1 := (by decide); omega)⟩ (q_subP hP [0, 1] rfl) (hD.sub [0, 1] (by decide) rfl) hroom.1 hroom.2 dX11_next_336
                            · have hc_134 := o_nle (rfl : x_46.toInt = x_46.toInt) (rfl : x_131.toInt = x_131.toInt) c_134
                              refine lv_iconst (v := 4) hx hb dX11_next_320 (by decide) ?_
                              refine lv_goto (tgt := 333) hx hb dX11_next_321 (by decide) ?_
                              refine q_put11 (v := .int 4) (w' := [(q, oC11 q_thrown q_tape_ q_length q_size x_45 q_limit q_s_ q_h_ q_read_ q_names_ q_reserved_ 4 x_1 x_46 x_47 q_fault q_faultAt y_48 q_got q_lines q_onces q_webs q_one q_two q_seed q_undone_ q_before_ q_undoMany q_far_ q_wayRow_ q_wayMany q_keptRow_ q_askedRow_ q_rares_ q_trial_ q_keptMany q_askedMany q_hangs_ q_paths_ q_tornSteps q_hasTorn q_turnOne q_hasTurn q_text_ q_textMany q_toldMany q_toldAt_ q_hasTold q_stack_ q_codes q_ones q_top q_deep q_isWhole q_truths_ q_imaged_ q_namesKept_ q_areKept_), (q_tape_, aC0 cy 940 q_tape)]) C hP hD hS 0 11 rfl fT_11 fy_11 (by decide) kF_RX11_174 rfl rfl (Nat.le_of_ble_eq_true rfl) rfl dX11_next_333 (fun H locs hP hD hS => ?_)
                              refine o_wq hQ ?_
                              exact q_vret (rm := (Rm 1 20 0 0)) C hS (x_45, 4, x_1, x_46, x_47, y_48) ⟨(show 0 ≤ x_45.toInt ∧ x_45.toInt ≤ 940 by omega), (show 0 ≤ x_46.toInt ∧ x_46.toInt ≤ 940 by omega), (show 0 ≤ x_47.toInt ∧ x_47.toInt ≤ 8214 by omega), (show 0 ≤ x_45.toInt + (-1) * q_p.toInt by have e0 : (4 : Int32).toInt = 4 := (by decide); omega), (show (0 ≤ (4 : Int32).toInt + (-3) ∧ 0 ≤ (-1) * (4 : Int32).toInt + 3) → (0 ≤ x_45.toInt + (-1) * q_p.toInt + (-1)) by have e0 : (4 : Int32).toInt = 4 := (by decide); omega)⟩ (q_subP hP [0, 1] rfl) (hD.sub [0, 1] (by decide) rfl) hroom.1 hroom.2 dX11_next_336
                          refine lv_if_eq (tgt := 316) hx hb dX11_next_308 (by decide) (fun c_136 => ?_) (fun c_136 => ?_)
                          · have hc_136 := o_eq (rfl : r_40.toInt = r_40.toInt) (by decide : (0 : Int32).toInt = 0) c_136
                            clear hp_42
                            refine lv_iconst (v := 3) hx hb dX11_next_316 (by decide) ?_
                            exact cut_317_131 (3 : Int32) H locs ls  (by have e0 : (3 : Int32).toInt = 3 := (by decide); omega) hP hD hS (lv_sub hl [1] rfl)
                          · have hc_136 := o_ne (rfl : r_40.toInt = r_40.toInt) (by decide : (0 : Int32).toInt = 0) c_136
                            have hp_42 := hp_42 (by omega)
                            refine lv_bipush (v := 7) hx hb dX11_next_311 (by decide) ?_
                            refine lv_goto (tgt := 317) hx hb dX11_next_313 (by decide) ?_
                            exact cut_317_131 (7 : Int32) H locs ls  (by have e0 : (7 : Int32).toInt = 7 := (by decide); omega) hP hD hS (lv_sub hl [1] rfl)
                      · have hc_129 := o_ne (rfl : r_125.toInt = r_125.toInt) (by decide : (0 : Int32).toInt = 0) c_129
                        have hp_127 := hp_127 (by omega)
                        have hp_64 := hp_64 (by omega)
                        exact cut_201_70  H locs ls  (by omega) (by omega) (by omega) hP hD hS (lv_sub hl [0, 1, 2] rfl)
                exact lp_181_48 (((-1) * x_1.toInt + 940 : Int).toNat + 1) (1 : Int32) x_1 (0 : Int32) (0 : Int32) (0 : Int64) H locs ls (by have e0 : (0 : Int32).toInt = 0 := (by decide); have e1 : (1 : Int32).toInt = 1 := (by decide); omega) (by have e0 : (0 : Int32).toInt = 0 := (by decide); have e1 : (1 : Int32).toInt = 1 := (by decide); omega) (by have e0 : (0 : Int32).toInt = 0 := (by decide); have e1 : (1 : Int32).toInt = 1 := (by decide); omega) (by have e0 : (0 : Int32).toInt = 0 := (by decide); have e1 : (1 : Int32).toInt = 1 := (by decide); omega) (by have e0 : (0 : Int32).toInt = 0 := (by decide); have e1 : (1 : Int32).toInt = 1 := (by decide); omega) (by have e0 : (0 : Int32).toInt = 0 := (by decide); have e1 : (1 : Int32).toInt = 1 := (by decide); omega) (by have e0 : (0 : Int32).toInt = 0 := (by decide); have e1 : (1 : Int32).toInt = 1 := (by decide); omega) (by have e0 : (0 : Int32).toInt = 0 := (by decide); omega) hP hD hS (lv_sub hl [2, 1, 0] rfl)
              refine lv_if_ne (tgt := 164) hx hb dX11_next_99 (by decide) (fun c_137 => ?_) (fun c_137 => ?_)
              · have hc_137 := o_ne (rfl : r_32.toInt = r_32.toInt) (by decide : (0 : Int32).toInt = 0) c_137
                have hp_34 := hp_34 (by omega)
                exact cut_164_35  H locs ls  (by omega) (by omega) hP hD hS (lv_sub hl [1, 0] rfl)
              · have hc_137 := o_eq (rfl : r_32.toInt = r_32.toInt) (by decide : (0 : Int32).toInt = 0) c_137
                clear hp_34
                refine lv_iload_n hx hb dX11_next_102 rfl (lv_at hl 0 rfl) ?_
                refine q_ai (wr := [(q, oC11 q_thrown q_tape_ q_length q_size x_1 q_limit q_s_ q_h_ q_read_ q_names_ q_reserved_ q_token x_1 0 q_number q_fault q_faultAt q_word q_got q_lines q_onces q_webs q_one q_two q_seed q_undone_ q_before_ q_undoMany q_far_ q_wayRow_ q_wayMany q_keptRow_ q_askedRow_ q_rares_ q_trial_ q_keptMany q_askedMany q_hangs_ q_paths_ q_tornSteps q_hasTorn q_turnOne q_hasTurn q_text_ q_textMany q_toldMany q_toldAt_ q_hasTold q_stack_ q_codes q_ones q_top q_deep q_isWhole q_truths_ q_imaged_ q_namesKept_ q_areKept_), (q_tape_, aC0 cy 940 q_tape)]) (r_S (rm := (Rm 0 0 0 0)) (As := [.int r_9]) (rest := []) (wc := []) C hS (q_subP hP [] rfl) (hD.sub [] (by decide) rfl) (y_isDigit l D cy r_9 _ ) kwS_X11_isDigit kM_RX11_181 ⟨Nat.le_of_ble_eq_true rfl, Nat.le_of_ble_eq_true rfl⟩ rfl hl.1 rfl (Nat.le_of_ble_eq_true rfl) dX11_next_103 ⟨hroom.1, hroom.2⟩) C.2.2.2.2.2.2.1 hP hD hS [] [0, 1] rfl rfl (by decide) (by decide) (fun r_139 u_138 H locs hw_140 hP hD hS => ?_)
                have hp_140 : 0 ≤ r_139.toInt ∧ r_139.toInt ≤ 1 := hw_140.1
                have hp_141 : (0 ≤ r_139.toInt + (-1)) → (0 ≤ r_9.toInt + (-48) ∧ 0 ≤ (-1) * r_9.toInt + 57) := hw_140.2
                refine lv_if_ne (tgt := 164) hx hb dX11_next_106 (by decide) (fun c_143 => ?_) (fun c_143 => ?_)
                · have hc_143 := o_ne (rfl : r_139.toInt = r_139.toInt) (by decide : (0 : Int32).toInt = 0) c_143
                  have hp_141 := hp_141 (by omega)
                  exact cut_164_35  H locs ls  (by omega) (by omega) hP hD hS (lv_sub hl [1, 0] rfl)
                · have hc_143 := o_eq (rfl : r_139.toInt = r_139.toInt) (by decide : (0 : Int32).toInt = 0) c_143
                  clear hp_141
                  refine lv_aload_n hx hb dX11_next_109 rfl (lv_at hl 1 rfl) ?_
                  refine lv_iload_n hx hb dX11_next_110 rfl (lv_at hl 0 rfl) ?_
                  refine lv_bipush (v := 59) hx hb dX11_next_111 (by decide) ?_
                  have cut_145_144 : ∀ (x_144 : Int32) (H : Heap) (locs : List Loc) (ls : Array Slot), (3 ≤ x_144.toInt ∧ x_144.toInt ≤ 4) → va_P D vwCl [(q, oC11 q_thrown q_tape_ q_length q_size x_1 q_limit q_s_ q_h_ q_read_ q_names_ q_reserved_ q_token x_1 0 q_number q_fault q_faultAt q_word q_got q_lines q_onces q_webs q_one q_two q_seed q_undone_ q_before_ q_undoMany q_far_ q_wayRow_ q_wayMany q_keptRow_ q_askedRow_ q_rares_ q_trial_ q_keptMany q_askedMany q_hangs_ q_paths_ q_tornSteps q_hasTorn q_turnOne q_hasTurn q_text_ q_textMany q_toldMany q_toldAt_ q_hasTold q_stack_ q_codes q_ones q_top q_deep q_isWhole q_truths_ q_imaged_ q_namesKept_ q_areKept_), (q_tape_, aC0 cy 940 q_tape)] H → va_D A [(q, oC11 q_thrown q_tape_ q_length q_size x_1 q_limit q_s_ q_h_ q_read_ q_names_ q_reserved_ q_token x_1 0 q_number q_fault q_faultAt q_word q_got q_lines q_onces q_webs q_one q_two q_seed q_undone_ q_before_ q_undoMany q_far_ q_wayRow_ q_wayMany q_keptRow_ q_askedRow_ q_rares_ q_trial_ q_keptMany q_askedMany q_hangs_ q_paths_ q_tornSteps q_hasTorn q_turnOne q_hasTurn q_text_ q_textMany q_toldMany q_toldAt_ q_hasTold q_stack_ q_codes q_ones q_top q_deep q_isWhole q_truths_ q_imaged_ q_namesKept_ q_areKept_), (q_tape_, aC0 cy 940 q_tape)] → va_S A s.heap H locs → lv_has ls 4 [(0, .ref q), (1, .int r_9)] → W p l e (Rm 1 20 0 0) s m args below meth c H locs cells slots Q (F0 m 145 ls [.int x_144, .ref q]) := by
                    intro x_144 H locs ls hf_145 hP hD hS hl
                    refine q_put11 (v := .int x_144) (w' := [(q, oC11 q_thrown q_tape_ q_length q_size x_1 q_limit q_s_ q_h_ q_read_ q_names_ q_reserved_ x_144 x_1 0 q_number q_fault q_faultAt q_word q_got q_lines q_onces q_webs q_one q_two q_seed q_undone_ q_before_ q_undoMany q_far_ q_wayRow_ q_wayMany q_keptRow_ q_askedRow_ q_rares_ q_trial_ q_keptMany q_askedMany q_hangs_ q_paths_ q_tornSteps q_hasTorn q_turnOne q_hasTurn q_text_ q_textMany q_toldMany q_toldAt_ q_hasTold q_stack_ q_codes q_ones q_top q_deep q_isWhole q_truths_ q_imaged_ q_namesKept_ q_areKept_), (q_tape_, aC0 cy 940 q_tape)]) C hP hD hS 0 11 rfl fT_11 fy_11 (by decide) kF_RX11_174 rfl rfl (Nat.le_of_ble_eq_true rfl) rfl dX11_next_145 (fun H locs hP hD hS => ?_)
                    refine lv_aload_n hx hb dX11_next_148 rfl (lv_at hl 0 rfl) ?_
                    refine lv_iload_n hx hb dX11_next_149 rfl (lv_at hl 1 rfl) ?_
                    refine q_put11 (v := .int r_9) (w' := [(q, oC11 q_thrown q_tape_ q_length q_size x_1 q_limit q_s_ q_h_ q_read_ q_names_ q_reserved_ x_144 x_1 0 r_9 q_fault q_faultAt q_word q_got q_lines q_onces q_webs q_one q_two q_seed q_undone_ q_before_ q_undoMany q_far_ q_wayRow_ q_wayMany q_keptRow_ q_askedRow_ q_rares_ q_trial_ q_keptMany q_askedMany q_hangs_ q_paths_ q_tornSteps q_hasTorn q_turnOne q_hasTurn q_text_ q_textMany q_toldMany q_toldAt_ q_hasTold q_stack_ q_codes q_ones q_top q_deep q_isWhole q_truths_ q_imaged_ q_namesKept_ q_areKept_), (q_tape_, aC0 cy 940 q_tape)]) C hP hD hS 0 14 rfl fT_14 fy_14 (by decide) kF_RX11_184 rfl rfl (Nat.le_of_ble_eq_true rfl) rfl dX11_next_150 (fun H locs hP hD hS => ?_)
                    refine lv_aload_n hx hb dX11_next_153 rfl (lv_at hl 0 rfl) ?_
                    refine lv_dup hx hb dX11_next_154 rfl ?_
                    refine q_get11 (v := .int x_1) C hP 0 4 rfl fT_4 (by decide) kF_RX11_21 rfl dX11_next_155 ?_
                    refine lv_iconst (v := 1) hx hb dX11_next_158 (by decide) ?_
                    refine lv_iadd hx hb dX11_next_159 ?_
                    refine lv_topi (fun z_147 hz_147 => ?_)
                    have hz_147 := o_add hz_147 (rfl : x_1.toInt = x_1.toInt) (by decide : (1 : Int32).toInt = 1) (by omega) (by omega)
                    refine q_put11 (v := .int z_147) (w' := [(q, oC11 q_thrown q_tape_ q_length q_size z_147 q_limit q_s_ q_h_ q_read_ q_names_ q_reserved_ x_144 x_1 0 r_9 q_fault q_faultAt q_word q_got q_lines q_onces q_webs q_one q_two q_seed q_undone_ q_before_ q_undoMany q_far_ q_wayRow_ q_wayMany q_keptRow_ q_askedRow_ q_rares_ q_trial_ q_keptMany q_askedMany q_hangs_ q_paths_ q_tornSteps q_hasTorn q_turnOne q_hasTurn q_text_ q_textMany q_toldMany q_toldAt_ q_hasTold q_stack_ q_codes q_ones q_top q_deep q_isWhole q_truths_ q_imaged_ q_namesKept_ q_areKept_), (q_tape_, aC0 cy 940 q_tape)]) C hP hD hS 0 4 rfl fT_4 fy_4 (by decide) kF_RX11_21 rfl rfl (Nat.le_of_ble_eq_true rfl) rfl dX11_next_160 (fun H locs hP hD hS => ?_)
                    refine o_wq hQ ?_
                    exact q_vret (rm := (Rm 1 20 0 0)) C hS (z_147, x_144, x_1, 0, r_9, q_word) ⟨(show 0 ≤ z_147.toInt ∧ z_147.toInt ≤ 940 by omega), (show 0 ≤ (0 : Int32).toInt ∧ (0 : Int32).toInt ≤ 940 by decide), (show 0 ≤ r_9.toInt ∧ r_9.toInt ≤ 8214 by omega), (show 0 ≤ z_147.toInt + (-1) * q_p.toInt by have e0 : (0 : Int32).toInt = 0 := (by decide); omega), (show (0 ≤ x_144.toInt + (-3) ∧ 0 ≤ (-1) * x_144.toInt + 3) → (0 ≤ z_147.toInt + (-1) * q_p.toInt + (-1)) by have e0 : (0 : Int32).toInt = 0 := (by decide); omega)⟩ (q_subP hP [0, 1] rfl) (hD.sub [0, 1] (by decide) rfl) hroom.1 hroom.2 dX11_next_163
                  refine lv_icmp_eq (tgt := 140) hx hb dX11_next_113 (by decide) (fun c_148 => ?_) (fun c_148 => ?_)
                  · have hc_148 := o_eq (rfl : r_9.toInt = r_9.toInt) (by decide : (59 : Int32).toInt = 59) c_148
                    refine lv_iconst (v := 3) hx hb dX11_next_140 (by decide) ?_
                    refine lv_goto (tgt := 145) hx hb dX11_next_141 (by decide) ?_
                    exact cut_145_144 (3 : Int32) H locs ls  (by have e0 : (3 : Int32).toInt = 3 := (by decide); omega) hP hD hS (lv_sub hl [1, 0] rfl)
                  · have hc_148 := o_ne (rfl : r_9.toInt = r_9.toInt) (by decide : (59 : Int32).toInt = 59) c_148
                    refine lv_iload_n hx hb dX11_next_116 rfl (lv_at hl 0 rfl) ?_
                    refine lv_bipush (v := 40) hx hb dX11_next_117 (by decide) ?_
                    refine lv_icmp_eq (tgt := 140) hx hb dX11_next_119 (by decide) (fun c_149 => ?_) (fun c_149 => ?_)
                    · have hc_149 := o_eq (rfl : r_9.toInt = r_9.toInt) (by decide : (40 : Int32).toInt = 40) c_149
                      refine lv_iconst (v := 3) hx hb dX11_next_140 (by decide) ?_
                      refine lv_goto (tgt := 145) hx hb dX11_next_141 (by decide) ?_
                      exact cut_145_144 (3 : Int32) H locs ls  (by have e0 : (3 : Int32).toInt = 3 := (by decide); omega) hP hD hS (lv_sub hl [1, 0] rfl)
                    · have hc_149 := o_ne (rfl : r_9.toInt = r_9.toInt) (by decide : (40 : Int32).toInt = 40) c_149
                      refine lv_iload_n hx hb dX11_next_122 rfl (lv_at hl 0 rfl) ?_
                      refine lv_bipush (v := 41) hx hb dX11_next_123 (by decide) ?_
                      refine lv_icmp_eq (tgt := 140) hx hb dX11_next_125 (by decide) (fun c_150 => ?_) (fun c_150 => ?_)
                      · have hc_150 := o_eq (rfl : r_9.toInt = r_9.toInt) (by decide : (41 : Int32).toInt = 41) c_150
                        refine lv_iconst (v := 3) hx hb dX11_next_140 (by decide) ?_
                        refine lv_goto (tgt := 145) hx hb dX11_next_141 (by decide) ?_
                        exact cut_145_144 (3 : Int32) H locs ls  (by have e0 : (3 : Int32).toInt = 3 := (by decide); omega) hP hD hS (lv_sub hl [1, 0] rfl)
                      · have hc_150 := o_ne (rfl : r_9.toInt = r_9.toInt) (by decide : (41 : Int32).toInt = 41) c_150
                        refine lv_iload_n hx hb dX11_next_128 rfl (lv_at hl 0 rfl) ?_
                        refine lv_bipush (v := 60) hx hb dX11_next_129 (by decide) ?_
                        refine lv_icmp_lt (tgt := 144) hx hb dX11_next_131 (by decide) (fun c_151 => ?_) (fun c_151 => ?_)
                        · have hc_151 := o_lt (rfl : r_9.toInt = r_9.toInt) (by decide : (60 : Int32).toInt = 60) c_151
                          refine lv_iconst (v := 4) hx hb dX11_next_144 (by decide) ?_
                          exact cut_145_144 (4 : Int32) H locs ls  (by have e0 : (4 : Int32).toInt = 4 := (by decide); omega) hP hD hS (lv_sub hl [1, 0] rfl)
                        · have hc_151 := o_nlt (rfl : r_9.toInt = r_9.toInt) (by decide : (60 : Int32).toInt = 60) c_151
                          refine lv_iload_n hx hb dX11_next_134 rfl (lv_at hl 0 rfl) ?_
                          refine lv_bipush (v := 62) hx hb dX11_next_135 (by decide) ?_
                          refine lv_icmp_gt (tgt := 144) hx hb dX11_next_137 (by decide) (fun c_152 => ?_) (fun c_152 => ?_)
                          · have hc_152 := o_lt (by decide : (62 : Int32).toInt = 62) (rfl : r_9.toInt = r_9.toInt) c_152
                            refine lv_iconst (v := 4) hx hb dX11_next_144 (by decide) ?_
                            exact cut_145_144 (4 : Int32) H locs ls  (by have e0 : (4 : Int32).toInt = 4 := (by decide); omega) hP hD hS (lv_sub hl [1, 0] rfl)
                          · have hc_152 := o_nlt (by decide : (62 : Int32).toInt = 62) (rfl : r_9.toInt = r_9.toInt) c_152
                            refine lv_iconst (v := 3) hx hb dX11_next_140 (by decide) ?_
                            refine lv_goto (tgt := 145) hx hb dX11_next_141 (by decide) ?_
                            exact cut_145_144 (3 : Int32) H locs ls  (by have e0 : (3 : Int32).toInt = 3 := (by decide); omega) hP hD hS (lv_sub hl [1, 0] rfl)
            · have hc_30 := o_nle (by decide : (0 : Int32).toInt = 0) (rfl : r_9.toInt = r_9.toInt) c_30
              clear hp_12
              refine lv_aload_n hx hb dX11_next_89 rfl (lv_at hl 1 rfl) ?_
              refine lv_iconst (v := 0) hx hb dX11_next_90 (by decide) ?_
              refine q_put11 (v := .int 0) (w' := [(q, oC11 q_thrown q_tape_ q_length q_size x_1 q_limit q_s_ q_h_ q_read_ q_names_ q_reserved_ 0 x_1 0 q_number q_fault q_faultAt q_word q_got q_lines q_onces q_webs q_one q_two q_seed q_undone_ q_before_ q_undoMany q_far_ q_wayRow_ q_wayMany q_keptRow_ q_askedRow_ q_rares_ q_trial_ q_keptMany q_askedMany q_hangs_ q_paths_ q_tornSteps q_hasTorn q_turnOne q_hasTurn q_text_ q_textMany q_toldMany q_toldAt_ q_hasTold q_stack_ q_codes q_ones q_top q_deep q_isWhole q_truths_ q_imaged_ q_namesKept_ q_areKept_), (q_tape_, aC0 cy 940 q_tape)]) C hP hD hS 0 11 rfl fT_11 fy_11 (by decide) kF_RX11_174 rfl rfl (Nat.le_of_ble_eq_true rfl) rfl dX11_next_91 (fun H locs hP hD hS => ?_)
              refine o_wq hQ ?_
              exact q_vret (rm := (Rm 1 20 0 0)) C hS (x_1, 0, x_1, 0, q_number, q_word) ⟨(show 0 ≤ x_1.toInt ∧ x_1.toInt ≤ 940 by omega), (show 0 ≤ (0 : Int32).toInt ∧ (0 : Int32).toInt ≤ 940 by decide), (show 0 ≤ q_number.toInt ∧ q_number.toInt ≤ 8214 by omega), (show 0 ≤ x_1.toInt + (-1) * q_p.toInt by have e0 : (0 : Int32).toInt = 0 := (by decide); omega), (show (0 ≤ (0 : Int32).toInt + (-3) ∧ 0 ≤ (-1) * (0 : Int32).toInt + 3) → (0 ≤ x_1.toInt + (-1) * q_p.toInt + (-1)) by have e0 : (0 : Int32).toInt = 0 := (by decide); omega)⟩ (q_subP hP [0, 1] rfl) (hD.sub [0, 1] (by decide) rfl) hroom.1 hroom.2 dX11_next_94
          refine lv_icmp_le (tgt := 80) hx hb dX11_next_52 (by decide) (fun c_153 => ?_) (fun c_153 => ?_)
          · have hc_153 := o_le (rfl : q_size.toInt = q_size.toInt) (rfl : q_limit.toInt = q_limit.toInt) c_153
            exact cut_80_22  H locs ls   hP hD hS (lv_sub hl [0] rfl)
          · have hc_153 := o_nle (rfl : q_size.toInt = q_size.toInt) (rfl : q_limit.toInt = q_limit.toInt) c_153
            refine lv_aload_n hx hb dX11_next_55 rfl (lv_at hl 0 rfl) ?_
            refine q_get11 (v := .int x_1) C hP 0 4 rfl fT_4 (by decide) kF_RX11_21 rfl dX11_next_56 ?_
            refine lv_aload_n hx hb dX11_next_59 rfl (lv_at hl 0 rfl) ?_
            refine q_get11 (v := .int q_limit) C hP 0 5 rfl fT_5 (by decide) kF_RX11_24 rfl dX11_next_60 ?_
            refine lv_icmp_lt (tgt := 80) hx hb dX11_next_63 (by decide) (fun c_154 => ?_) (fun c_154 => ?_)
            · have hc_154 := o_lt (rfl : x_1.toInt = x_1.toInt) (rfl : q_limit.toInt = q_limit.toInt) c_154
              exact cut_80_22  H locs ls   hP hD hS (lv_sub hl [0] rfl)
            · have hc_154 := o_nlt (rfl : x_1.toInt = x_1.toInt) (rfl : q_limit.toInt = q_limit.toInt) c_154
              refine lv_aload_n hx hb dX11_next_66 rfl (lv_at hl 0 rfl) ?_
              refine lv_aload_n hx hb dX11_next_67 rfl (lv_at hl 0 rfl) ?_
              refine q_get11 (v := .int q_limit) C hP 0 5 rfl fT_5 (by decide) kF_RX11_24 rfl dX11_next_68 ?_
              refine q_put11 (v := .int q_limit) (w' := [(q, oC11 q_thrown q_tape_ q_length q_size x_1 q_limit q_s_ q_h_ q_read_ q_names_ q_reserved_ q_token q_limit 0 q_number q_fault q_faultAt q_word q_got q_lines q_onces q_webs q_one q_two q_seed q_undone_ q_before_ q_undoMany q_far_ q_wayRow_ q_wayMany q_keptRow_ q_askedRow_ q_rares_ q_trial_ q_keptMany q_askedMany q_hangs_ q_paths_ q_tornSteps q_hasTorn q_turnOne q_hasTurn q_text_ q_textMany q_toldMany q_toldAt_ q_hasTold q_stack_ q_codes q_ones q_top q_deep q_isWhole q_truths_ q_imaged_ q_namesKept_ q_areKept_), (q_tape_, aC0 cy 940 q_tape)]) C hP hD hS 0 12 rfl fT_12 fy_12 (by decide) kF_RX11_168 rfl rfl (Nat.le_of_ble_eq_true rfl) rfl dX11_next_71 (fun H locs hP hD hS => ?_)
              refine lv_aload_n hx hb dX11_next_74 rfl (lv_at hl 0 rfl) ?_
              refine lv_iconst (v := 4) hx hb dX11_next_75 (by decide) ?_
              refine q_put11 (v := .int 4) (w' := [(q, oC11 q_thrown q_tape_ q_length q_size x_1 q_limit q_s_ q_h_ q_read_ q_names_ q_reserved_ 4 q_limit 0 q_number q_fault q_faultAt q_word q_got q_lines q_onces q_webs q_one q_two q_seed q_undone_ q_before_ q_undoMany q_far_ q_wayRow_ q_wayMany q_keptRow_ q_askedRow_ q_rares_ q_trial_ q_keptMany q_askedMany q_hangs_ q_paths_ q_tornSteps q_hasTorn q_turnOne q_hasTurn q_text_ q_textMany q_toldMany q_toldAt_ q_hasTold q_stack_ q_codes q_ones q_top q_deep q_isWhole q_truths_ q_imaged_ q_namesKept_ q_areKept_), (q_tape_, aC0 cy 940 q_tape)]) C hP hD hS 0 11 rfl fT_11 fy_11 (by decide) kF_RX11_174 rfl rfl (Nat.le_of_ble_eq_true rfl) rfl dX11_next_76 (fun H locs hP hD hS => ?_)
              refine o_wq hQ ?_
              exact q_vret (rm := (Rm 1 20 0 0)) C hS (x_1, 4, q_limit, 0, q_number, q_word) ⟨(show 0 ≤ x_1.toInt ∧ x_1.toInt ≤ 940 by omega), (show 0 ≤ (0 : Int32).toInt ∧ (0 : Int32).toInt ≤ 940 by decide), (show 0 ≤ q_number.toInt ∧ q_number.toInt ≤ 8214 by omega), (show 0 ≤ x_1.toInt + (-1) * q_p.toInt by have e0 : (0 : Int32).toInt = 0 := (by decide); have e1 : (4 : Int32).toInt = 4 := (by decide); omega), (show (0 ≤ (4 : Int32).toInt + (-3) ∧ 0 ≤ (-1) * (4 : Int32).toInt + 3) → (0 ≤ x_1.toInt + (-1) * q_p.toInt + (-1)) by have e0 : (0 : Int32).toInt = 0 := (by decide); have e1 : (4 : Int32).toInt = 4 := (by decide); omega)⟩ (q_subP hP [0, 1] rfl) (hD.sub [0, 1] (by decide) rfl) hroom.1 hroom.2 dX11_next_79
        · have hc_22 := o_eq (rfl : r_9.toInt = r_9.toInt) (by decide : (10 : Int32).toInt = 10) c_22
          have hp_12 := hp_12 (by omega)
          refine lv_aload_n hx hb dX11_next_18 rfl (lv_at hl 0 rfl) ?_
          refine lv_dup hx hb dX11_next_19 rfl ?_
          refine q_get11 (v := .int x_1) C hP 0 4 rfl fT_4 (by decide) kF_RX11_21 rfl dX11_next_20 ?_
          refine lv_iconst (v := 1) hx hb dX11_next_23 (by decide) ?_
          refine lv_iadd hx hb dX11_next_24 ?_
          refine lv_topi (fun z_155 hz_155 => ?_)
          have hz_155 := o_add hz_155 (rfl : x_1.toInt = x_1.toInt) (by decide : (1 : Int32).toInt = 1) (by omega) (by omega)
          refine q_put11 (v := .int z_155) (w' := [(q, oC11 q_thrown q_tape_ q_length q_size z_155 q_limit q_s_ q_h_ q_read_ q_names_ q_reserved_ q_token q_at q_span q_number q_fault q_faultAt q_word q_got q_lines q_onces q_webs q_one q_two q_seed q_undone_ q_before_ q_undoMany q_far_ q_wayRow_ q_wayMany q_keptRow_ q_askedRow_ q_rares_ q_trial_ q_keptMany q_askedMany q_hangs_ q_paths_ q_tornSteps q_hasTorn q_turnOne q_hasTurn q_text_ q_textMany q_toldMany q_toldAt_ q_hasTold q_stack_ q_codes q_ones q_top q_deep q_isWhole q_truths_ q_imaged_ q_namesKept_ q_areKept_), (q_tape_, aC0 cy 940 q_tape)]) C hP hD hS 0 4 rfl fT_4 fy_4 (by decide) kF_RX11_21 rfl rfl (Nat.le_of_ble_eq_true rfl) rfl dX11_next_25 (fun H locs hP hD hS => ?_)
          refine lv_goto (tgt := 0) hx hb dX11_next_28 (by decide) ?_
          exact ih_6 z_155 H locs ls (by omega) (by omega) (by omega) hP hD hS (lv_sub hl [0] rfl)
  exact lp_0_1 (((-1) * q_p.toInt + 940 : Int).toNat + 1) q_p H locs ls (by omega) (by omega) (by omega) hP hD hS (lv_sub hl [0] rfl)
theorem y_next (l : Launch) (D : va_G) (cy : Nat → ClassId) (q : Nat) (q_thrown : Int32) (q_tape_ : Nat) (q_length : Int32) (q_size : Int32) (q_p : Int32) (q_limit : Int32) (q_s_ : Nat) (q_h_ : Nat) (q_read_ : Nat) (q_names_ : Nat) (q_reserved_ : Nat) (q_token : Int32) (q_at : Int32) (q_span : Int32) (q_number : Int32) (q_fault : Int32) (q_faultAt : Int32) (q_word : Int64) (q_got : Int32) (q_lines : Int32) (q_onces : Int32) (q_webs : Int32) (q_one : Int32) (q_two : Int32) (q_seed : Int32) (q_undone_ : Nat) (q_before_ : Nat) (q_undoMany : Int32) (q_far_ : Nat) (q_wayRow_ : Nat) (q_wayMany : Int32) (q_keptRow_ : Nat) (q_askedRow_ : Nat) (q_rares_ : Nat) (q_trial_ : Nat) (q_keptMany : Int32) (q_askedMany : Int32) (q_hangs_ : Nat) (q_paths_ : Nat) (q_tornSteps : Int32) (q_hasTorn : Int32) (q_turnOne : Int32) (q_hasTurn : Int32) (q_text_ : Nat) (q_textMany : Int32) (q_toldMany : Int32) (q_toldAt_ : Nat) (q_hasTold : Int32) (q_stack_ : Nat) (q_codes : Int32) (q_ones : Int32) (q_top : Int32) (q_deep : Int32) (q_isWhole : Int32) (q_truths_ : Nat) (q_imaged_ : Nat) (q_namesKept_ : Nat) (q_areKept_ : Nat) (q_tape : Nat → Int32) (sz : Nat) (hb0 : 0 ≤ q_length.toInt ∧ q_length.toInt ≤ 940) (hb1 : 0 ≤ q_size.toInt ∧ q_size.toInt ≤ 940) (hb2 : 0 ≤ q_p.toInt ∧ q_p.toInt ≤ 940) (hb3 : 0 ≤ q_limit.toInt ∧ q_limit.toInt ≤ 940) (hb4 : 0 ≤ q_span.toInt ∧ q_span.toInt ≤ 940) (hb5 : 0 ≤ q_number.toInt ∧ q_number.toInt ≤ 8214) (hb6 : (-1) ≤ q_got.toInt ∧ q_got.toInt ≤ 8214) (hb7 : 0 ≤ q_one.toInt ∧ q_one.toInt ≤ 7) (hb8 : 0 ≤ q_two.toInt ∧ q_two.toInt ≤ 7) (hb9 : 0 ≤ q_undoMany.toInt ∧ q_undoMany.toInt ≤ 8) (hb10 : (-1) ≤ q_wayMany.toInt ∧ q_wayMany.toInt ≤ 8) (hb11 : (-1) ≤ q_keptMany.toInt ∧ q_keptMany.toInt ≤ 8) (hb12 : (-1) ≤ q_askedMany.toInt ∧ q_askedMany.toInt ≤ 3) (hb13 : 0 ≤ q_hasTorn.toInt ∧ q_hasTorn.toInt ≤ 1) (hb14 : 0 ≤ q_hasTurn.toInt ∧ q_hasTurn.toInt ≤ 1) (hb15 : 0 ≤ q_textMany.toInt ∧ q_textMany.toInt ≤ 48) (hb16 : 0 ≤ q_toldMany.toInt ∧ q_toldMany.toInt ≤ 40) (hb17 : 0 ≤ q_hasTold.toInt ∧ q_hasTold.toInt ≤ 1) (hb18 : 0 ≤ q_codes.toInt ∧ q_codes.toInt ≤ 40) (hb19 : 0 ≤ q_ones.toInt ∧ q_ones.toInt ≤ 20) (hb20 : 0 ≤ q_top.toInt ∧ q_top.toInt ≤ 40) (hb21 : 0 ≤ q_isWhole.toInt ∧ q_isWhole.toInt ≤ 1) : MV l yX11_next cX11_next 4 (Rm 1 20 0 0) D cy [.ref q] sz [(q, oC11 q_thrown q_tape_ q_length q_size q_p q_limit q_s_ q_h_ q_read_ q_names_ q_reserved_ q_token q_at q_span q_number q_fault q_faultAt q_word q_got q_lines q_onces q_webs q_one q_two q_seed q_undone_ q_before_ q_undoMany q_far_ q_wayRow_ q_wayMany q_keptRow_ q_askedRow_ q_rares_ q_trial_ q_keptMany q_askedMany q_hangs_ q_paths_ q_tornSteps q_hasTorn q_turnOne q_hasTurn q_text_ q_textMany q_toldMany q_toldAt_ q_hasTold q_stack_ q_codes q_ones q_top q_deep q_isWhole q_truths_ q_imaged_ q_namesKept_ q_areKept_), (q_tape_, aC0 cy 940 q_tape)] (fun u : Int32 × Int32 × Int32 × Int32 × Int32 × Int64 => (0 ≤ u.1.toInt ∧ u.1.toInt ≤ 940) ∧ (0 ≤ u.2.2.2.1.toInt ∧ u.2.2.2.1.toInt ≤ 940) ∧ (0 ≤ u.2.2.2.2.1.toInt ∧ u.2.2.2.2.1.toInt ≤ 8214) ∧ (0 ≤ u.1.toInt + (-1) * q_p.toInt) ∧ ((0 ≤ u.2.1.toInt + (-3) ∧ 0 ≤ (-1) * u.2.1.toInt + 3) → (0 ≤ u.1.toInt + (-1) * q_p.toInt + (-1)))) (fun u : Int32 × Int32 × Int32 × Int32 × Int32 × Int64 => [(q, oC11 q_thrown q_tape_ q_length q_size u.1 q_limit q_s_ q_h_ q_read_ q_names_ q_reserved_ u.2.1 u.2.2.1 u.2.2.2.1 u.2.2.2.2.1 q_fault q_faultAt u.2.2.2.2.2 q_got q_lines q_onces q_webs q_one q_two q_seed q_undone_ q_before_ q_undoMany q_far_ q_wayRow_ q_wayMany q_keptRow_ q_askedRow_ q_rares_ q_trial_ q_keptMany q_askedMany q_hangs_ q_paths_ q_tornSteps q_hasTorn q_turnOne q_hasTurn q_text_ q_textMany q_toldMany q_toldAt_ q_hasTold q_stack_ q_codes q_ones q_top q_deep q_isWhole q_truths_ q_imaged_ q_namesKept_ q_areKept_), (q_tape_, aC0 cy 940 q_tape)]) := by
  refine MV.enter (by decide) (Nat.le_of_ble_eq_true rfl) ?_
  intro p e s m below meth c ls A hsz hAe C hP hD hS hl
  exact b_y_next l D cy q q_thrown q_tape_ q_length q_size q_p q_limit q_s_ q_h_ q_read_ q_names_ q_reserved_ q_token q_at q_span q_number q_fault q_faultAt q_word q_got q_lines q_onces q_webs q_one q_two q_seed q_undone_ q_before_ q_undoMany q_far_ q_wayRow_ q_wayMany q_keptRow_ q_askedRow_ q_rares_ q_trial_ q_keptMany q_askedMany q_hangs_ q_paths_ q_tornSteps q_hasTorn q_turnOne q_hasTurn q_text_ q_textMany q_toldMany q_toldAt_ q_hasTold q_stack_ q_codes q_ones q_top q_deep q_isWhole q_truths_ q_imaged_ q_namesKept_ q_areKept_ q_tape hb0 hb1 hb2 hb3 hb4 hb5 hb6 hb7 hb8 hb9 hb10 hb11 hb12 hb13 hb14 hb15 hb16 hb17 hb18 hb19 hb20 hb21 ⟨Nat.le_of_ble_eq_true rfl, Nat.le_of_ble_eq_true rfl⟩ C rfl _ _ ls hP hD hS hl
