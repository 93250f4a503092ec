theorem dX11_next_0 : decode cX11_next 0 = .ok (.aload_n 0, 1) := by decide +kernel
theorem dX11_next_1 : decode cX11_next 1 = .ok (.invokevirtual 164, 3) := by decide +kernel
theorem kwV_X11_peek : MwV RX11 yX11_peek cX11_peek 1 (some .int) 0 := ⟨List.mem_filter.mpr ⟨List.mem_of_getElem? (i := 1697) (by decide +kernel), by decide +kernel⟩, List.mem_filter.mpr ⟨List.mem_of_getElem? (i := 1696) (by decide +kernel), by decide +kernel⟩, List.mem_filter.mpr ⟨List.mem_of_getElem? (i := 58) (by decide +kernel), by decide +kernel⟩, List.mem_filter.mpr ⟨List.mem_of_getElem? (i := 139) (by decide +kernel), by decide +kernel⟩, by decide +kernel⟩
theorem kM_RX11_164 : Cond.methodLink RX11 164 yX11_peek ∈ gT := List.mem_filter.mpr ⟨List.mem_of_getElem? (i := 1694) (by decide +kernel), by decide +kernel⟩
theorem dX11_next_4 : decode cX11_next 4 = .ok (.bipush 32, 2) := by decide +kernel
theorem dX11_next_6 : decode cX11_next 6 = .ok (.if_icmp .eq 12, 3) := by decide +kernel
theorem dX11_next_18 : decode cX11_next 18 = .ok (.aload_n 0, 1) := by decide +kernel
theorem dX11_next_19 : decode cX11_next 19 = .ok (.dup, 1) := by decide +kernel
theorem dX11_next_20 : decode cX11_next 20 = .ok (.getfield 21, 3) := by decide +kernel
theorem dX11_next_23 : decode cX11_next 23 = .ok (.iconst 1, 1) := by decide +kernel
theorem dX11_next_24 : decode cX11_next 24 = .ok (.iadd, 1) := by decide +kernel
theorem dX11_next_25 : decode cX11_next 25 = .ok (.putfield 21, 3) := by decide +kernel
theorem dX11_next_28 : decode cX11_next 28 = .ok (.goto (-28), 3) := by decide +kernel
theorem dX11_next_9 : decode cX11_next 9 = .ok (.aload_n 0, 1) := by decide +kernel
theorem dX11_next_10 : decode cX11_next 10 = .ok (.invokevirtual 164, 3) := by decide +kernel
theorem dX11_next_13 : decode cX11_next 13 = .ok (.bipush 10, 2) := by decide +kernel
theorem dX11_next_15 : decode cX11_next 15 = .ok (.if_icmp .ne 16, 3) := by decide +kernel
theorem dX11_next_31 : decode cX11_next 31 = .ok (.aload_n 0, 1) := by decide +kernel
theorem dX11_next_32 : decode cX11_next 32 = .ok (.aload_n 0, 1) := by decide +kernel
theorem dX11_next_33 : decode cX11_next 33 = .ok (.getfield 21, 3) := by decide +kernel
theorem dX11_next_36 : decode cX11_next 36 = .ok (.putfield 168, 3) := by decide +kernel
theorem dX11_next_39 : decode cX11_next 39 = .ok (.aload_n 0, 1) := by decide +kernel
theorem dX11_next_40 : decode cX11_next 40 = .ok (.iconst 0, 1) := by decide +kernel
theorem dX11_next_41 : decode cX11_next 41 = .ok (.putfield 171, 3) := by decide +kernel
theorem kF_RX11_171 : Cond.fieldLink RX11 171 "CobwebLibraryModel" "span" "I" ∈ gT := List.mem_filter.mpr ⟨List.mem_of_getElem? (i := 1518) (by decide +kernel), by decide +kernel⟩
theorem dX11_next_44 : decode cX11_next 44 = .ok (.aload_n 0, 1) := by decide +kernel
theorem dX11_next_45 : decode cX11_next 45 = .ok (.getfield 18, 3) := by decide +kernel
theorem dX11_next_48 : decode cX11_next 48 = .ok (.aload_n 0, 1) := by decide +kernel
theorem dX11_next_49 : decode cX11_next 49 = .ok (.getfield 24, 3) := by decide +kernel
theorem dX11_next_80 : decode cX11_next 80 = .ok (.aload_n 0, 1) := by decide +kernel
theorem dX11_next_81 : decode cX11_next 81 = .ok (.invokevirtual 164, 3) := by decide +kernel
theorem dX11_next_84 : decode cX11_next 84 = .ok (.istore_n 1, 1) := by decide +kernel
theorem dX11_next_85 : decode cX11_next 85 = .ok (.iload_n 1, 1) := by decide +kernel
theorem dX11_next_86 : decode cX11_next 86 = .ok (.ifCond .ge 9, 3) := by decide +kernel
theorem dX11_next_95 : decode cX11_next 95 = .ok (.iload_n 1, 1) := by decide +kernel
theorem dX11_next_96 : decode cX11_next 96 = .ok (.invokestatic 177, 3) := by decide +kernel
theorem kwS_X11_isSmall : MwS yX11_isSmall cX11_isSmall 1 (some .boolean) 1 := ⟨List.mem_filter.mpr ⟨List.mem_of_getElem? (i := 1700) (by decide +kernel), by decide +kernel⟩, List.mem_filter.mpr ⟨List.mem_of_getElem? (i := 1699) (by decide +kernel), by decide +kernel⟩, List.mem_filter.mpr ⟨List.mem_of_getElem? (i := 139) (by decide +kernel), by decide +kernel⟩, by decide +kernel⟩
theorem kM_RX11_177 : Cond.methodLink RX11 177 yX11_isSmall ∈ gT := List.mem_filter.mpr ⟨List.mem_of_getElem? (i := 1698) (by decide +kernel), by decide +kernel⟩
theorem dX11_next_164 : decode cX11_next 164 = .ok (.iload_n 1, 1) := by decide +kernel
theorem dX11_next_165 : decode cX11_next 165 = .ok (.invokestatic 177, 3) := by decide +kernel
theorem dX11_next_168 : decode cX11_next 168 = .ok (.istore_n 2, 1) := by decide +kernel
theorem dX11_next_169 : decode cX11_next 169 = .ok (.iconst 1, 1) := by decide +kernel
theorem dX11_next_170 : decode cX11_next 170 = .ok (.istore_n 3, 1) := by decide +kernel
theorem dX11_next_171 : decode cX11_next 171 = .ok (.aload_n 0, 1) := by decide +kernel
theorem dX11_next_172 : decode cX11_next 172 = .ok (.lconst 0, 1) := by decide +kernel
theorem dX11_next_173 : decode cX11_next 173 = .ok (.putfield 187, 3) := by decide +kernel
theorem dX11_next_176 : decode cX11_next 176 = .ok (.aload_n 0, 1) := by decide +kernel
theorem dX11_next_177 : decode cX11_next 177 = .ok (.iconst 0, 1) := by decide +kernel
theorem dX11_next_178 : decode cX11_next 178 = .ok (.putfield 184, 3) := by decide +kernel
theorem dX11_next_181 : decode cX11_next 181 = .ok (.aload_n 0, 1) := by decide +kernel
theorem dX11_next_182 : decode cX11_next 182 = .ok (.invokevirtual 164, 3) := by decide +kernel
theorem dX11_next_185 : decode cX11_next 185 = .ok (.invokestatic 177, 3) := by decide +kernel
theorem dX11_next_201 : decode cX11_next 201 = .ok (.iload_n 3, 1) := by decide +kernel
theorem dX11_next_221 : decode cX11_next 221 = .ok (.istore_n 3, 1) := by decide +kernel
theorem dX11_next_222 : decode cX11_next 222 = .ok (.aload_n 0, 1) := by decide +kernel
theorem dX11_next_223 : decode cX11_next 223 = .ok (.getfield 171, 3) := by decide +kernel
theorem dX11_next_226 : decode cX11_next 226 = .ok (.bipush 7, 2) := by decide +kernel
theorem dX11_next_248 : decode cX11_next 248 = .ok (.aload_n 0, 1) := by decide +kernel
theorem dX11_next_249 : decode cX11_next 249 = .ok (.getfield 171, 3) := by decide +kernel
theorem dX11_next_252 : decode cX11_next 252 = .ok (.iconst 3, 1) := by decide +kernel
theorem dX11_next_253 : decode cX11_next 253 = .ok (.if_icmp .ge 22, 3) := by decide +kernel
theorem dX11_next_275 : decode cX11_next 275 = .ok (.aload_n 0, 1) := by decide +kernel
theorem dX11_next_276 : decode cX11_next 276 = .ok (.dup, 1) := by decide +kernel
theorem dX11_next_277 : decode cX11_next 277 = .ok (.getfield 171, 3) := by decide +kernel
theorem dX11_next_280 : decode cX11_next 280 = .ok (.iconst 1, 1) := by decide +kernel
theorem dX11_next_281 : decode cX11_next 281 = .ok (.iadd, 1) := by decide +kernel
theorem dX11_next_282 : decode cX11_next 282 = .ok (.putfield 171, 3) := by decide +kernel
theorem dX11_next_285 : decode cX11_next 285 = .ok (.aload_n 0, 1) := by decide +kernel
theorem dX11_next_286 : decode cX11_next 286 = .ok (.dup, 1) := by decide +kernel
theorem dX11_next_287 : decode cX11_next 287 = .ok (.getfield 21, 3) := by decide +kernel
theorem dX11_next_290 : decode cX11_next 290 = .ok (.iconst 1, 1) := by decide +kernel
theorem dX11_next_291 : decode cX11_next 291 = .ok (.iadd, 1) := by decide +kernel
theorem dX11_next_292 : decode cX11_next 292 = .ok (.putfield 21, 3) := by decide +kernel
theorem dX11_next_295 : decode cX11_next 295 = .ok (.goto (-114), 3) := by decide +kernel
theorem dX11_next_256 : decode cX11_next 256 = .ok (.aload_n 0, 1) := by decide +kernel
theorem dX11_next_257 : decode cX11_next 257 = .ok (.bipush 10, 2) := by decide +kernel
theorem dX11_next_259 : decode cX11_next 259 = .ok (.aload_n 0, 1) := by decide +kernel
theorem dX11_next_260 : decode cX11_next 260 = .ok (.getfield 184, 3) := by decide +kernel
theorem dX11_next_263 : decode cX11_next 263 = .ok (.imul, 1) := by decide +kernel
theorem dX11_next_264 : decode cX11_next 264 = .ok (.aload_n 0, 1) := by decide +kernel
theorem dX11_next_265 : decode cX11_next 265 = .ok (.invokevirtual 164, 3) := by decide +kernel
theorem dX11_next_268 : decode cX11_next 268 = .ok (.iadd, 1) := by decide +kernel
theorem dX11_next_269 : decode cX11_next 269 = .ok (.bipush 48, 2) := by decide +kernel
theorem dX11_next_271 : decode cX11_next 271 = .ok (.isub, 1) := by decide +kernel
theorem dX11_next_272 : decode cX11_next 272 = .ok (.putfield 184, 3) := by decide +kernel
theorem dX11_next_228 : decode cX11_next 228 = .ok (.if_icmp .ge 20, 3) := by decide +kernel
theorem dX11_next_231 : decode cX11_next 231 = .ok (.aload_n 0, 1) := by decide +kernel
theorem dX11_next_232 : decode cX11_next 232 = .ok (.aload_n 0, 1) := by decide +kernel
theorem dX11_next_233 : decode cX11_next 233 = .ok (.getfield 187, 3) := by decide +kernel
theorem dX11_next_236 : decode cX11_next 236 = .ok (.bipush 8, 2) := by decide +kernel
theorem dX11_next_238 : decode cX11_next 238 = .ok (.lshl, 1) := by decide +kernel
theorem dX11_next_239 : decode cX11_next 239 = .ok (.aload_n 0, 1) := by decide +kernel
theorem dX11_next_240 : decode cX11_next 240 = .ok (.invokevirtual 164, 3) := by decide +kernel
theorem dX11_next_243 : decode cX11_next 243 = .ok (.i2l, 1) := by decide +kernel
theorem dX11_next_244 : decode cX11_next 244 = .ok (.lor, 1) := by decide +kernel
theorem dX11_next_245 : decode cX11_next 245 = .ok (.putfield 187, 3) := by decide +kernel
theorem dX11_next_202 : decode cX11_next 202 = .ok (.ifCond .eq 18, 3) := by decide +kernel
theorem dX11_next_220 : decode cX11_next 220 = .ok (.iconst 0, 1) := by decide +kernel
theorem dX11_next_205 : decode cX11_next 205 = .ok (.aload_n 0, 1) := by decide +kernel
theorem dX11_next_206 : decode cX11_next 206 = .ok (.invokevirtual 164, 3) := by decide +kernel
theorem dX11_next_209 : decode cX11_next 209 = .ok (.invokestatic 177, 3) := by decide +kernel
theorem dX11_next_212 : decode cX11_next 212 = .ok (.iload_n 2, 1) := by decide +kernel
theorem dX11_next_213 : decode cX11_next 213 = .ok (.if_icmp .ne 7, 3) := by decide +kernel
theorem dX11_next_216 : decode cX11_next 216 = .ok (.iconst 1, 1) := by decide +kernel
theorem dX11_next_217 : decode cX11_next 217 = .ok (.goto 4, 3) := by decide +kernel
theorem dX11_next_188 : decode cX11_next 188 = .ok (.ifCond .ne 13, 3) := by decide +kernel
theorem dX11_next_191 : decode cX11_next 191 = .ok (.aload_n 0, 1) := by decide +kernel
theorem dX11_next_192 : decode cX11_next 192 = .ok (.invokevirtual 164, 3) := by decide +kernel
theorem dX11_next_195 : decode cX11_next 195 = .ok (.invokestatic 181, 3) := by decide +kernel
theorem kwS_X11_isDigit : MwS yX11_isDigit cX11_isDigit 1 (some .boolean) 1 := ⟨List.mem_filter.mpr ⟨List.mem_of_getElem? (i := 1703) (by decide +kernel), by decide +kernel⟩, List.mem_filter.mpr ⟨List.mem_of_getElem? (i := 1702) (by decide +kernel), by decide +kernel⟩, List.mem_filter.mpr ⟨List.mem_of_getElem? (i := 139) (by decide +kernel), by decide +kernel⟩, by decide +kernel⟩
theorem kM_RX11_181 : Cond.methodLink RX11 181 yX11_isDigit ∈ gT := List.mem_filter.mpr ⟨List.mem_of_getElem? (i := 1701) (by decide +kernel), by decide +kernel⟩
theorem dX11_next_198 : decode cX11_next 198 = .ok (.ifCond .eq 100, 3) := by decide +kernel
theorem dX11_next_298 : decode cX11_next 298 = .ok (.aload_n 0, 1) := by decide +kernel
theorem dX11_next_299 : decode cX11_next 299 = .ok (.iload_n 3, 1) := by decide +kernel
theorem dX11_next_300 : decode cX11_next 300 = .ok (.ifCond .eq 20, 3) := by decide +kernel
theorem dX11_next_320 : decode cX11_next 320 = .ok (.iconst 4, 1) := by decide +kernel
theorem dX11_next_321 : decode cX11_next 321 = .ok (.goto 12, 3) := by decide +kernel
theorem dX11_next_333 : decode cX11_next 333 = .ok (.putfield 174, 3) := by decide +kernel
theorem dX11_next_336 : decode cX11_next 336 = .ok (.return_, 1) := by decide +kernel
theorem dX11_next_303 : decode cX11_next 303 = .ok (.aload_n 0, 1) := by decide +kernel
theorem dX11_next_304 : decode cX11_next 304 = .ok (.getfield 171, 3) := by decide +kernel
theorem dX11_next_307 : decode cX11_next 307 = .ok (.iload_n 2, 1) := by decide +kernel
theorem dX11_next_308 : decode cX11_next 308 = .ok (.ifCond .eq 8, 3) := by decide +kernel
theorem dX11_next_316 : decode cX11_next 316 = .ok (.iconst 3, 1) := by decide +kernel
theorem dX11_next_317 : decode cX11_next 317 = .ok (.if_icmp .le 7, 3) := by decide +kernel
theorem dX11_next_324 : decode cX11_next 324 = .ok (.iload_n 2, 1) := by decide +kernel
theorem dX11_next_325 : decode cX11_next 325 = .ok (.ifCond .eq 7, 3) := by decide +kernel
theorem dX11_next_332 : decode cX11_next 332 = .ok (.iconst 2, 1) := by decide +kernel
theorem dX11_next_311 : decode cX11_next 311 = .ok (.bipush 7, 2) := by decide +kernel
theorem dX11_next_313 : decode cX11_next 313 = .ok (.goto 4, 3) := by decide +kernel
theorem dX11_next_328 : decode cX11_next 328 = .ok (.iconst 1, 1) := by decide +kernel
theorem dX11_next_329 : decode cX11_next 329 = .ok (.goto 4, 3) := by decide +kernel
theorem dX11_next_99 : decode cX11_next 99 = .ok (.ifCond .ne 65, 3) := by decide +kernel
theorem dX11_next_102 : decode cX11_next 102 = .ok (.iload_n 1, 1) := by decide +kernel
theorem dX11_next_103 : decode cX11_next 103 = .ok (.invokestatic 181, 3) := by decide +kernel
theorem dX11_next_106 : decode cX11_next 106 = .ok (.ifCond .ne 58, 3) := by decide +kernel
theorem dX11_next_109 : decode cX11_next 109 = .ok (.aload_n 0, 1) := by decide +kernel
theorem dX11_next_110 : decode cX11_next 110 = .ok (.iload_n 1, 1) := by decide +kernel
theorem dX11_next_111 : decode cX11_next 111 = .ok (.bipush 59, 2) := by decide +kernel
theorem dX11_next_113 : decode cX11_next 113 = .ok (.if_icmp .eq 27, 3) := by decide +kernel
theorem dX11_next_140 : decode cX11_next 140 = .ok (.iconst 3, 1) := by decide +kernel
theorem dX11_next_141 : decode cX11_next 141 = .ok (.goto 4, 3) := by decide +kernel
theorem dX11_next_145 : decode cX11_next 145 = .ok (.putfield 174, 3) := by decide +kernel
theorem dX11_next_148 : decode cX11_next 148 = .ok (.aload_n 0, 1) := by decide +kernel
theorem dX11_next_149 : decode cX11_next 149 = .ok (.iload_n 1, 1) := by decide +kernel
theorem dX11_next_150 : decode cX11_next 150 = .ok (.putfield 184, 3) := by decide +kernel
theorem dX11_next_153 : decode cX11_next 153 = .ok (.aload_n 0, 1) := by decide +kernel
theorem dX11_next_154 : decode cX11_next 154 = .ok (.dup, 1) := by decide +kernel
theorem dX11_next_155 : decode cX11_next 155 = .ok (.getfield 21, 3) := by decide +kernel
theorem dX11_next_158 : decode cX11_next 158 = .ok (.iconst 1, 1) := by decide +kernel
theorem dX11_next_159 : decode cX11_next 159 = .ok (.iadd, 1) := by decide +kernel
theorem dX11_next_160 : decode cX11_next 160 = .ok (.putfield 21, 3) := by decide +kernel
theorem dX11_next_163 : decode cX11_next 163 = .ok (.return_, 1) := by decide +kernel
theorem dX11_next_116 : decode cX11_next 116 = .ok (.iload_n 1, 1) := by decide +kernel
theorem dX11_next_117 : decode cX11_next 117 = .ok (.bipush 40, 2) := by decide +kernel
theorem dX11_next_119 : decode cX11_next 119 = .ok (.if_icmp .eq 21, 3) := by decide +kernel
theorem dX11_next_122 : decode cX11_next 122 = .ok (.iload_n 1, 1) := by decide +kernel
theorem dX11_next_123 : decode cX11_next 123 = .ok (.bipush 41, 2) := by decide +kernel
theorem dX11_next_125 : decode cX11_next 125 = .ok (.if_icmp .eq 15, 3) := by decide +kernel
theorem dX11_next_128 : decode cX11_next 128 = .ok (.iload_n 1, 1) := by decide +kernel
theorem dX11_next_129 : decode cX11_next 129 = .ok (.bipush 60, 2) := by decide +kernel
theorem dX11_next_131 : decode cX11_next 131 = .ok (.if_icmp .lt 13, 3) := by decide +kernel
theorem dX11_next_144 : decode cX11_next 144 = .ok (.iconst 4, 1) := by decide +kernel
theorem dX11_next_134 : decode cX11_next 134 = .ok (.iload_n 1, 1) := by decide +kernel
theorem dX11_next_135 : decode cX11_next 135 = .ok (.bipush 62, 2) := by decide +kernel
theorem dX11_next_137 : decode cX11_next 137 = .ok (.if_icmp .gt 7, 3) := by decide +kernel
theorem dX11_next_89 : decode cX11_next 89 = .ok (.aload_n 0, 1) := by decide +kernel
theorem dX11_next_90 : decode cX11_next 90 = .ok (.iconst 0, 1) := by decide +kernel
theorem dX11_next_91 : decode cX11_next 91 = .ok (.putfield 174, 3) := by decide +kernel
theorem dX11_next_94 : decode cX11_next 94 = .ok (.return_, 1) := by decide +kernel
theorem dX11_next_52 : decode cX11_next 52 = .ok (.if_icmp .le 28, 3) := by decide +kernel
theorem dX11_next_55 : decode cX11_next 55 = .ok (.aload_n 0, 1) := by decide +kernel
theorem dX11_next_56 : decode cX11_next 56 = .ok (.getfield 21, 3) := by decide +kernel
theorem dX11_next_59 : decode cX11_next 59 = .ok (.aload_n 0, 1) := by decide +kernel
theorem dX11_next_60 : decode cX11_next 60 = .ok (.getfield 24, 3) := by decide +kernel
theorem dX11_next_63 : decode cX11_next 63 = .ok (.if_icmp .lt 17, 3) := by decide +kernel
theorem dX11_next_66 : decode cX11_next 66 = .ok (.aload_n 0, 1) := by decide +kernel
theorem dX11_next_67 : decode cX11_next 67 = .ok (.aload_n 0, 1) := by decide +kernel
theorem dX11_next_68 : decode cX11_next 68 = .ok (.getfield 24, 3) := by decide +kernel
theorem dX11_next_71 : decode cX11_next 71 = .ok (.putfield 168, 3) := by decide +kernel
theorem dX11_next_74 : decode cX11_next 74 = .ok (.aload_n 0, 1) := by decide +kernel
theorem dX11_next_75 : decode cX11_next 75 = .ok (.iconst 4, 1) := by decide +kernel
theorem dX11_next_76 : decode cX11_next 76 = .ok (.putfield 174, 3) := by decide +kernel
theorem dX11_next_79 : decode cX11_next 79 = .ok (.return_, 1) := by decide +kernel
set_option maxHeartbeats 4000000 in
set_option maxRecDepth 100000 in
theorem b_y_next (l : Launch) (D : va_G) (cy : Nat → ClassId) (q : Nat) (q_thrown : Int32) (q_tape_ : Nat) (q_length : Int32) (q_size : Int32) (q_p : Int32) (q_limit : Int32) (q_s_ : Nat) (q_h_ : Nat) (q_read_ : Nat) (q_names_ : Nat) (q_reserved_ : Nat) (q_token : Int32) (q_at : Int32) (q_span : Int32) (q_number : Int32) (q_fault : Int32) (q_faultAt : Int32) (q_word : Int64) (q_got : Int32) (q_lines : Int32) (q_onces : Int32) (q_webs : Int32) (q_one : Int32) (q_two : Int32) (q_seed : Int32) (q_undone_ : Nat) (q_before_ : Nat) (q_undoMany : Int32) (q_far_ : Nat) (q_wayRow_ : Nat) (q_wayMany : Int32) (q_keptRow_ : Nat) (q_askedRow_ : Nat) (q_rares_ : Nat) (q_trial_ : Nat) (q_keptMany : Int32) (q_askedMany : Int32) (q_hangs_ : Nat) (q_paths_ : Nat) (q_tornSteps : Int32) (q_hasTorn : Int32) (q_turnOne : Int32) (q_hasTurn : Int32) (q_text_ : Nat) (q_textMany : Int32) (q_toldMany : Int32) (q_toldAt_ : Nat) (q_hasTold : Int32) (q_stack_ : Nat) (q_codes : Int32) (q_ones : Int32) (q_top : Int32) (q_deep : Int32) (q_isWhole : Int32) (q_truths_ : Nat) (q_imaged_ : Nat) (q_namesKept_ : Nat) (q_areKept_ : Nat) (q_tape : Nat → Int32) (hb0 : 0 ≤ q_length.toInt ∧ q_length.toInt ≤ 940) (hb1 : 0 ≤ q_size.toInt ∧ q_size.toInt ≤ 940) (hb2 : 0 ≤ q_p.toInt ∧ q_p.toInt ≤ 940) (hb3 : 0 ≤ q_limit.toInt ∧ q_limit.toInt ≤ 940) (hb4 : 0 ≤ q_span.toInt ∧ q_span.toInt ≤ 940) (hb5 : 0 ≤ q_number.toInt ∧ q_number.toInt ≤ 8214) (hb6 : (-1) ≤ q_got.toInt ∧ q_got.toInt ≤ 8214) (hb7 : 0 ≤ q_one.toInt ∧ q_one.toInt ≤ 7) (hb8 : 0 ≤ q_two.toInt ∧ q_two.toInt ≤ 7) (hb9 : 0 ≤ q_undoMany.toInt ∧ q_undoMany.toInt ≤ 8) (hb10 : (-1) ≤ q_wayMany.toInt ∧ q_wayMany.toInt ≤ 8) (hb11 : (-1) ≤ q_keptMany.toInt ∧ q_keptMany.toInt ≤ 8) (hb12 : (-1) ≤ q_askedMany.toInt ∧ q_askedMany.toInt ≤ 3) (hb13 : 0 ≤ q_hasTorn.toInt ∧ q_hasTorn.toInt ≤ 1) (hb14 : 0 ≤ q_hasTurn.toInt ∧ q_hasTurn.toInt ≤ 1) (hb15 : 0 ≤ q_textMany.toInt ∧ q_textMany.toInt ≤ 48) (hb16 : 0 ≤ q_toldMany.toInt ∧ q_toldMany.toInt ≤ 40) (hb17 : 0 ≤ q_hasTold.toInt ∧ q_hasTold.toInt ≤ 1) (hb18 : 0 ≤ q_codes.toInt ∧ q_codes.toInt ≤ 40) (hb19 : 0 ≤ q_ones.toInt ∧ q_ones.toInt ≤ 20) (hb20 : 0 ≤ q_top.toInt ∧ q_top.toInt ≤ 40) (hb21 : 0 ≤ q_isWhole.toInt ∧ q_isWhole.toInt ≤ 1) {p : Program} {e : Env} {s : State} {m : MethodId} {args : Array Value} {below : List Frame} {meth : Method} {c : Code} {A : Nat → Prop} {Q : State → Prop} {cells slots : Nat} (hroom : cells ≤ ((Rm 1 20 0 0)).cells ∧ slots ≤ ((Rm 1 20 0 0)).slots) (C : Cx p s m args meth c cX11_next 4 none RX11 "next" D cy A) (hQ : Q = MQ below (va_Qv (fun u : Int32 × Int32 × Int32 × Int32 × Int32 × Int64 => (0 ≤ u.1.toInt ∧ u.1.toInt ≤ 940) ∧ (0 ≤ u.2.2.2.1.toInt ∧ u.2.2.2.1.toInt ≤ 940) ∧ (0 ≤ u.2.2.2.2.1.toInt ∧ u.2.2.2.2.1.toInt ≤ 8214) ∧ (0 ≤ u.1.toInt + (-1) * q_p.toInt) ∧ (Tm (Pk q_tape q_size.toInt) q_size.toInt (lm q_size.toInt q_limit.toInt) (wh blk (Pk q_tape q_size.toInt) q_size.toInt q_p.toInt) u.2.1.toInt u.2.2.1.toInt u.2.2.2.2.1.toInt u.2.2.2.2.2 u.1.toInt) ∧ ((0 ≤ u.2.1.toInt + (-3) ∧ 0 ≤ (-1) * u.2.1.toInt + 3) → (0 ≤ u.1.toInt + (-1) * q_p.toInt + (-1)))) (Bx D A (fun u : Int32 × Int32 × Int32 × Int32 × Int32 × Int64 => [(q, oC11 q_thrown q_tape_ q_length q_size u.1 q_limit q_s_ q_h_ q_read_ q_names_ q_reserved_ u.2.1 u.2.2.1 u.2.2.2.1 u.2.2.2.2.1 q_fault q_faultAt u.2.2.2.2.2 q_got q_lines q_onces q_webs q_one q_two q_seed q_undone_ q_before_ q_undoMany q_far_ q_wayRow_ q_wayMany q_keptRow_ q_askedRow_ q_rares_ q_trial_ q_keptMany q_askedMany q_hangs_ q_paths_ q_tornSteps q_hasTorn q_turnOne q_hasTurn q_text_ q_textMany q_toldMany q_toldAt_ q_hasTold q_stack_ q_codes q_ones q_top q_deep q_isWhole q_truths_ q_imaged_ q_namesKept_ q_areKept_), (q_tape_, aC0 cy 940 q_tape)])) A) args s ((Rm 1 20 0 0)).cells ((Rm 1 20 0 0)).slots A) (H : Heap) (locs : List Loc) (ls : Array Slot) (hP : va_P D vwCl [(q, oC11 q_thrown q_tape_ q_length q_size q_p q_limit q_s_ q_h_ q_read_ q_names_ q_reserved_ q_token q_at q_span q_number q_fault q_faultAt q_word q_got q_lines q_onces q_webs q_one q_two q_seed q_undone_ q_before_ q_undoMany q_far_ q_wayRow_ q_wayMany q_keptRow_ q_askedRow_ q_rares_ q_trial_ q_keptMany q_askedMany q_hangs_ q_paths_ q_tornSteps q_hasTorn q_turnOne q_hasTurn q_text_ q_textMany q_toldMany q_toldAt_ q_hasTold q_stack_ q_codes q_ones q_top q_deep q_isWhole q_truths_ q_imaged_ q_namesKept_ q_areKept_), (q_tape_, aC0 cy 940 q_tape)] H) (hD : va_D A [(q, oC11 q_thrown q_tape_ q_length q_size q_p q_limit q_s_ q_h_ q_read_ q_names_ q_reserved_ q_token q_at q_span q_number q_fault q_faultAt q_word q_got q_lines q_onces q_webs q_one q_two q_seed q_undone_ q_before_ q_undoMany q_far_ q_wayRow_ q_wayMany q_keptRow_ q_askedRow_ q_rares_ q_trial_ q_keptMany q_askedMany q_hangs_ q_paths_ q_tornSteps q_hasTorn q_turnOne q_hasTurn q_text_ q_textMany q_toldMany q_toldAt_ q_hasTold q_stack_ q_codes q_ones q_top q_deep q_isWhole q_truths_ q_imaged_ q_namesKept_ q_areKept_), (q_tape_, aC0 cy 940 q_tape)]) (hS : va_S A s.heap H locs) (hl : lv_has ls 4 [(0, .ref q)]) : W p l e (Rm 1 20 0 0) s m args below meth c H locs cells slots Q (F0 m 0 ls []) := by
  have hx := C.1
  have hb := C.2.1
  have hqq_thrown := o_rng q_thrown
  have hqq_token := o_rng q_token
  have hqq_at := o_rng q_at
  have hqq_fault := o_rng q_fault
  have hqq_faultAt := o_rng q_faultAt
  have hqq_lines := o_rng q_lines
  have hqq_onces := o_rng q_onces
  have hqq_webs := o_rng q_webs
  have hqq_seed := o_rng q_seed
  have hqq_tornSteps := o_rng q_tornSteps
  have hqq_turnOne := o_rng q_turnOne
  have hqq_deep := o_rng q_deep
  have lp_0_1 : ∀ (n_2 : Nat) (x_1 : Int32) (H : Heap) (locs : List Loc) (ls : Array Slot), (-1) * x_1.toInt + 940 < (n_2 : Int) → (0 ≤ x_1.toInt ∧ x_1.toInt ≤ 940) → (0 ≤ x_1.toInt + (-1) * q_p.toInt) → (wh blk (Pk q_tape q_size.toInt) q_size.toInt q_p.toInt = wh blk (Pk q_tape q_size.toInt) q_size.toInt x_1.toInt) → va_P D vwCl [(q, oC11 q_thrown q_tape_ q_length q_size x_1 q_limit q_s_ q_h_ q_read_ q_names_ q_reserved_ q_token q_at q_span q_number q_fault q_faultAt q_word q_got q_lines q_onces q_webs q_one q_two q_seed q_undone_ q_before_ q_undoMany q_far_ q_wayRow_ q_wayMany q_keptRow_ q_askedRow_ q_rares_ q_trial_ q_keptMany q_askedMany q_hangs_ q_paths_ q_tornSteps q_hasTorn q_turnOne q_hasTurn q_text_ q_textMany q_toldMany q_toldAt_ q_hasTold q_stack_ q_codes q_ones q_top q_deep q_isWhole q_truths_ q_imaged_ q_namesKept_ q_areKept_), (q_tape_, aC0 cy 940 q_tape)] H → va_D A [(q, oC11 q_thrown q_tape_ q_length q_size x_1 q_limit q_s_ q_h_ q_read_ q_names_ q_reserved_ q_token q_at q_span q_number q_fault q_faultAt q_word q_got q_lines q_onces q_webs q_one q_two q_seed q_undone_ q_before_ q_undoMany q_far_ q_wayRow_ q_wayMany q_keptRow_ q_askedRow_ q_rares_ q_trial_ q_keptMany q_askedMany q_hangs_ q_paths_ q_tornSteps q_hasTorn q_turnOne q_hasTurn q_text_ q_textMany q_toldMany q_toldAt_ q_hasTold q_stack_ q_codes q_ones q_top q_deep q_isWhole q_truths_ q_imaged_ q_namesKept_ q_areKept_), (q_tape_, aC0 cy 940 q_tape)] → va_S A s.heap H locs → lv_has ls 4 [(0, .ref q)] → W p l e (Rm 1 20 0 0) s m args below meth c H locs cells slots Q (F0 m 0 ls []) := by
    intro n_2
    induction n_2 with
    | zero =>
      intro x_1 H locs ls hm_6 hf_3 hf_4 hf_5 hP hD hS hl
      exact absurd hm_6 (by omega)
    | succ n_2 ih_7 =>
      intro x_1 H locs ls hm_6 hf_3 hf_4 hf_5 hP hD hS hl
      refine lv_aload_n hx hb dX11_next_0 rfl (lv_at hl 0 rfl) ?_
      refine q_ai (wr := []) (r_V (rm := (Rm 0 0 0 0)) (q0 := 0) (As := []) (rest := []) (wc := [(q, oC11 q_thrown q_tape_ q_length q_size x_1 q_limit q_s_ q_h_ q_read_ q_names_ q_reserved_ q_token q_at q_span q_number q_fault q_faultAt q_word q_got q_lines q_onces q_webs q_one q_two q_seed q_undone_ q_before_ q_undoMany q_far_ q_wayRow_ q_wayMany q_keptRow_ q_askedRow_ q_rares_ q_trial_ q_keptMany q_askedMany q_hangs_ q_paths_ q_tornSteps q_hasTorn q_turnOne q_hasTurn q_text_ q_textMany q_toldMany q_toldAt_ q_hasTold q_stack_ q_codes q_ones q_top q_deep q_isWhole q_truths_ q_imaged_ q_namesKept_ q_areKept_), (q_tape_, aC0 cy 940 q_tape)]) C hS (q_subP hP [0, 1] rfl) (hD.sub [0, 1] (by decide) rfl) (y_peek l D cy q q_thrown q_tape_ q_length q_size x_1 q_limit q_s_ q_h_ q_read_ q_names_ q_reserved_ q_token q_at q_span q_number q_fault q_faultAt q_word q_got q_lines q_onces q_webs q_one q_two q_seed q_undone_ q_before_ q_undoMany q_far_ q_wayRow_ q_wayMany q_keptRow_ q_askedRow_ q_rares_ q_trial_ q_keptMany q_askedMany q_hangs_ q_paths_ q_tornSteps q_hasTorn q_turnOne q_hasTurn q_text_ q_textMany q_toldMany q_toldAt_ q_hasTold q_stack_ q_codes q_ones q_top q_deep q_isWhole q_truths_ q_imaged_ q_namesKept_ q_areKept_ q_tape _ (by omega) (by omega) (by omega) (by omega) (by omega) (by omega) (by omega) (by omega) (by omega) (by omega) (by omega) (by omega) (by omega) (by omega) (by omega) (by omega) (by omega) (by omega) (by omega) (by omega) (by omega) (by omega)) kwV_X11_peek kM_RX11_164 rfl rfl ⟨Nat.le_of_ble_eq_true rfl, Nat.le_of_ble_eq_true rfl⟩ rfl hl.1 rfl (Nat.le_of_ble_eq_true rfl) dX11_next_1 ⟨hroom.1, hroom.2⟩) C.2.2.2.2.2.2.1 hP hD hS [0, 1] [] rfl rfl (by decide) (by decide) (fun r_10 u_9 H locs hw_11 hP hD hS => ?_)
      have hp_11 : (-1) ≤ r_10.toInt ∧ r_10.toInt ≤ 255 := hw_11.1
      have hp_12 : r_10 = pk q_tape x_1 q_size := hw_11.2.1
      have hp_13 : (0 ≤ r_10.toInt) → (0 ≤ q_size.toInt + (-1) * x_1.toInt + (-1)) := hw_11.2.2
      replace hp_13 : Hd ((0 ≤ r_10.toInt) → (0 ≤ q_size.toInt + (-1) * x_1.toInt + (-1))) := hp_13
      have hq_14 : Pk q_tape q_size.toInt x_1.toInt = r_10.toInt := pk_Pk hp_12 (by omega)
      refine lv_bipush (v := 32) hx hb dX11_next_4 (by decide) ?_
      refine lv_icmp_eq (tgt := 18) hx hb dX11_next_6 (by decide) (fun c_16 => ?_) (fun c_16 => ?_)
      · have hc_16 := o_eq (rfl : r_10.toInt = r_10.toInt) (by decide : (32 : Int32).toInt = 32) c_16
        replace hp_13 := Hd.un hp_13 (by omega)
        refine lv_aload_n hx hb dX11_next_18 rfl (lv_at hl 0 rfl) ?_
        refine lv_dup hx hb dX11_next_19 rfl ?_
        refine q_get11 (v := .int x_1) C hP 0 4 rfl fT_4 (by decide) kF_RX11_21 rfl dX11_next_20 ?_
        refine lv_iconst (v := 1) hx hb dX11_next_23 (by decide) ?_
        refine lv_iadd hx hb dX11_next_24 ?_
        refine lv_topi (fun z_17 hz_17 => ?_)
        have hz_17 := o_add hz_17 (rfl : x_1.toInt = x_1.toInt) (by decide : (1 : Int32).toInt = 1) (by omega) (by omega)
        refine q_put11 (v := .int z_17) (w' := [(q, oC11 q_thrown q_tape_ q_length q_size z_17 q_limit q_s_ q_h_ q_read_ q_names_ q_reserved_ q_token q_at q_span q_number q_fault q_faultAt q_word q_got q_lines q_onces q_webs q_one q_two q_seed q_undone_ q_before_ q_undoMany q_far_ q_wayRow_ q_wayMany q_keptRow_ q_askedRow_ q_rares_ q_trial_ q_keptMany q_askedMany q_hangs_ q_paths_ q_tornSteps q_hasTorn q_turnOne q_hasTurn q_text_ q_textMany q_toldMany q_toldAt_ q_hasTold q_stack_ q_codes q_ones q_top q_deep q_isWhole q_truths_ q_imaged_ q_namesKept_ q_areKept_), (q_tape_, aC0 cy 940 q_tape)]) C hP hD hS 0 4 rfl fT_4 fy_4 (by decide) kF_RX11_21 rfl rfl (Nat.le_of_ble_eq_true rfl) rfl dX11_next_25 (fun H locs hP hD hS => ?_)
        have hq_17 : wh blk (Pk q_tape q_size.toInt) q_size.toInt q_p.toInt = wh blk (Pk q_tape q_size.toInt) q_size.toInt z_17.toInt := wh_next hf_5 (by omega) (by unfold blk; rw [hq_14]; exact decide_eq_true (by omega)) (by omega)
        refine lv_goto (tgt := 0) hx hb dX11_next_28 (by decide) ?_
        exact ih_7 z_17 H locs ls (by omega) (by omega) (by omega) hq_17 hP hD hS (lv_sub hl [0] rfl)
      · have hc_16 := o_ne (rfl : r_10.toInt = r_10.toInt) (by decide : (32 : Int32).toInt = 32) c_16
        refine lv_aload_n hx hb dX11_next_9 rfl (lv_at hl 0 rfl) ?_
        refine q_ai (wr := []) (r_V (rm := (Rm 0 0 0 0)) (q0 := 0) (As := []) (rest := []) (wc := [(q, oC11 q_thrown q_tape_ q_length q_size x_1 q_limit q_s_ q_h_ q_read_ q_names_ q_reserved_ q_token q_at q_span q_number q_fault q_faultAt q_word q_got q_lines q_onces q_webs q_one q_two q_seed q_undone_ q_before_ q_undoMany q_far_ q_wayRow_ q_wayMany q_keptRow_ q_askedRow_ q_rares_ q_trial_ q_keptMany q_askedMany q_hangs_ q_paths_ q_tornSteps q_hasTorn q_turnOne q_hasTurn q_text_ q_textMany q_toldMany q_toldAt_ q_hasTold q_stack_ q_codes q_ones q_top q_deep q_isWhole q_truths_ q_imaged_ q_namesKept_ q_areKept_), (q_tape_, aC0 cy 940 q_tape)]) C hS (q_subP hP [0, 1] rfl) (hD.sub [0, 1] (by decide) rfl) (y_peek l D cy q q_thrown q_tape_ q_length q_size x_1 q_limit q_s_ q_h_ q_read_ q_names_ q_reserved_ q_token q_at q_span q_number q_fault q_faultAt q_word q_got q_lines q_onces q_webs q_one q_two q_seed q_undone_ q_before_ q_undoMany q_far_ q_wayRow_ q_wayMany q_keptRow_ q_askedRow_ q_rares_ q_trial_ q_keptMany q_askedMany q_hangs_ q_paths_ q_tornSteps q_hasTorn q_turnOne q_hasTurn q_text_ q_textMany q_toldMany q_toldAt_ q_hasTold q_stack_ q_codes q_ones q_top q_deep q_isWhole q_truths_ q_imaged_ q_namesKept_ q_areKept_ q_tape _ (by omega) (by omega) (by omega) (by omega) (by omega) (by omega) (by omega) (by omega) (by omega) (by omega) (by omega) (by omega) (by omega) (by omega) (by omega) (by omega) (by omega) (by omega) (by omega) (by omega) (by omega) (by omega)) kwV_X11_peek kM_RX11_164 rfl rfl ⟨Nat.le_of_ble_eq_true rfl, Nat.le_of_ble_eq_true rfl⟩ rfl hl.1 rfl (Nat.le_of_ble_eq_true rfl) dX11_next_10 ⟨hroom.1, hroom.2⟩) C.2.2.2.2.2.2.1 hP hD hS [0, 1] [] rfl rfl (by decide) (by decide) (fun r_20 u_19 H locs hw_21 hP hD hS => ?_)
        have hp_21 : (-1) ≤ r_20.toInt ∧ r_20.toInt ≤ 255 := hw_21.1
        have hp_22 : r_20 = pk q_tape x_1 q_size := hw_21.2.1
        have hp_23 : (0 ≤ r_20.toInt) → (0 ≤ q_size.toInt + (-1) * x_1.toInt + (-1)) := hw_21.2.2
        replace hp_23 : Hd ((0 ≤ r_20.toInt) → (0 ≤ q_size.toInt + (-1) * x_1.toInt + (-1))) := hp_23
        refine q_val (v := r_10) (hp_22.trans hp_12.symm) ?_
        refine lv_bipush (v := 10) hx hb dX11_next_13 (by decide) ?_
        refine lv_icmp_ne (tgt := 31) hx hb dX11_next_15 (by decide) (fun c_25 => ?_) (fun c_25 => ?_)
        · have hc_25 := o_ne (rfl : r_10.toInt = r_10.toInt) (by decide : (10 : Int32).toInt = 10) c_25
          have hq_25 := lm_is q_size.toInt q_limit.toInt
          have hq_26 : wh blk (Pk q_tape q_size.toInt) q_size.toInt q_p.toInt = x_1.toInt := hf_5.trans (wh_stop (by unfold blk; rw [hq_14]; exact decide_eq_false (by omega)))
          refine lv_aload_n hx hb dX11_next_31 rfl (lv_at hl 0 rfl) ?_
          refine lv_aload_n hx hb dX11_next_32 rfl (lv_at hl 0 rfl) ?_
          refine q_get11 (v := .int x_1) C hP 0 4 rfl fT_4 (by decide) kF_RX11_21 rfl dX11_next_33 ?_
          refine q_put11 (v := .int x_1) (w' := [(q, oC11 q_thrown q_tape_ q_length q_size x_1 q_limit q_s_ q_h_ q_read_ q_names_ q_reserved_ q_token x_1 q_span q_number q_fault q_faultAt q_word q_got q_lines q_onces q_webs q_one q_two q_seed q_undone_ q_before_ q_undoMany q_far_ q_wayRow_ q_wayMany q_keptRow_ q_askedRow_ q_rares_ q_trial_ q_keptMany q_askedMany q_hangs_ q_paths_ q_tornSteps q_hasTorn q_turnOne q_hasTurn q_text_ q_textMany q_toldMany q_toldAt_ q_hasTold q_stack_ q_codes q_ones q_top q_deep q_isWhole q_truths_ q_imaged_ q_namesKept_ q_areKept_), (q_tape_, aC0 cy 940 q_tape)]) C hP hD hS 0 12 rfl fT_12 fy_12 (by decide) kF_RX11_168 rfl rfl (Nat.le_of_ble_eq_true rfl) rfl dX11_next_36 (fun H locs hP hD hS => ?_)
          refine lv_aload_n hx hb dX11_next_39 rfl (lv_at hl 0 rfl) ?_
          refine lv_iconst (v := 0) hx hb dX11_next_40 (by decide) ?_
          refine q_put11 (v := .int 0) (w' := [(q, oC11 q_thrown q_tape_ q_length q_size x_1 q_limit q_s_ q_h_ q_read_ q_names_ q_reserved_ q_token x_1 0 q_number q_fault q_faultAt q_word q_got q_lines q_onces q_webs q_one q_two q_seed q_undone_ q_before_ q_undoMany q_far_ q_wayRow_ q_wayMany q_keptRow_ q_askedRow_ q_rares_ q_trial_ q_keptMany q_askedMany q_hangs_ q_paths_ q_tornSteps q_hasTorn q_turnOne q_hasTurn q_text_ q_textMany q_toldMany q_toldAt_ q_hasTold q_stack_ q_codes q_ones q_top q_deep q_isWhole q_truths_ q_imaged_ q_namesKept_ q_areKept_), (q_tape_, aC0 cy 940 q_tape)]) C hP hD hS 0 13 rfl fT_13 fy_13 (by decide) kF_RX11_171 rfl rfl (Nat.le_of_ble_eq_true rfl) rfl dX11_next_41 (fun H locs hP hD hS => ?_)
          refine lv_aload_n hx hb dX11_next_44 rfl (lv_at hl 0 rfl) ?_
          refine q_get11 (v := .int q_size) C hP 0 3 rfl fT_3 (by decide) kF_RX11_18 rfl dX11_next_45 ?_
          refine lv_aload_n hx hb dX11_next_48 rfl (lv_at hl 0 rfl) ?_
          refine q_get11 (v := .int q_limit) C hP 0 5 rfl fT_5 (by decide) kF_RX11_24 rfl dX11_next_49 ?_
          have cut_80_27 : ∀  (H : Heap) (locs : List Loc) (ls : Array Slot), (q_size.toInt ≤ q_limit.toInt ∨ x_1.toInt < q_limit.toInt) → va_P D vwCl [(q, oC11 q_thrown q_tape_ q_length q_size x_1 q_limit q_s_ q_h_ q_read_ q_names_ q_reserved_ q_token x_1 0 q_number q_fault q_faultAt q_word q_got q_lines q_onces q_webs q_one q_two q_seed q_undone_ q_before_ q_undoMany q_far_ q_wayRow_ q_wayMany q_keptRow_ q_askedRow_ q_rares_ q_trial_ q_keptMany q_askedMany q_hangs_ q_paths_ q_tornSteps q_hasTorn q_turnOne q_hasTurn q_text_ q_textMany q_toldMany q_toldAt_ q_hasTold q_stack_ q_codes q_ones q_top q_deep q_isWhole q_truths_ q_imaged_ q_namesKept_ q_areKept_), (q_tape_, aC0 cy 940 q_tape)] H → va_D A [(q, oC11 q_thrown q_tape_ q_length q_size x_1 q_limit q_s_ q_h_ q_read_ q_names_ q_reserved_ q_token x_1 0 q_number q_fault q_faultAt q_word q_got q_lines q_onces q_webs q_one q_two q_seed q_undone_ q_before_ q_undoMany q_far_ q_wayRow_ q_wayMany q_keptRow_ q_askedRow_ q_rares_ q_trial_ q_keptMany q_askedMany q_hangs_ q_paths_ q_tornSteps q_hasTorn q_turnOne q_hasTurn q_text_ q_textMany q_toldMany q_toldAt_ q_hasTold q_stack_ q_codes q_ones q_top q_deep q_isWhole q_truths_ q_imaged_ q_namesKept_ q_areKept_), (q_tape_, aC0 cy 940 q_tape)] → va_S A s.heap H locs → lv_has ls 4 [(0, .ref q)] → W p l e (Rm 1 20 0 0) s m args below meth c H locs cells slots Q (F0 m 80 ls []) := by
            intro  H locs ls hf_28 hP hD hS hl
            refine lv_aload_n hx hb dX11_next_80 rfl (lv_at hl 0 rfl) ?_
            refine q_ai (wr := []) (r_V (rm := (Rm 0 0 0 0)) (q0 := 0) (As := []) (rest := []) (wc := [(q, oC11 q_thrown q_tape_ q_length q_size x_1 q_limit q_s_ q_h_ q_read_ q_names_ q_reserved_ q_token x_1 0 q_number q_fault q_faultAt q_word q_got q_lines q_onces q_webs q_one q_two q_seed q_undone_ q_before_ q_undoMany q_far_ q_wayRow_ q_wayMany q_keptRow_ q_askedRow_ q_rares_ q_trial_ q_keptMany q_askedMany q_hangs_ q_paths_ q_tornSteps q_hasTorn q_turnOne q_hasTurn q_text_ q_textMany q_toldMany q_toldAt_ q_hasTold q_stack_ q_codes q_ones q_top q_deep q_isWhole q_truths_ q_imaged_ q_namesKept_ q_areKept_), (q_tape_, aC0 cy 940 q_tape)]) C hS (q_subP hP [0, 1] rfl) (hD.sub [0, 1] (by decide) rfl) (y_peek l D cy q q_thrown q_tape_ q_length q_size x_1 q_limit q_s_ q_h_ q_read_ q_names_ q_reserved_ q_token x_1 0 q_number q_fault q_faultAt q_word q_got q_lines q_onces q_webs q_one q_two q_seed q_undone_ q_before_ q_undoMany q_far_ q_wayRow_ q_wayMany q_keptRow_ q_askedRow_ q_rares_ q_trial_ q_keptMany q_askedMany q_hangs_ q_paths_ q_tornSteps q_hasTorn q_turnOne q_hasTurn q_text_ q_textMany q_toldMany q_toldAt_ q_hasTold q_stack_ q_codes q_ones q_top q_deep q_isWhole q_truths_ q_imaged_ q_namesKept_ q_areKept_ q_tape _ (by omega) (by omega) (by omega) (by omega) (by decide) (by omega) (by omega) (by omega) (by omega) (by omega) (by omega) (by omega) (by omega) (by omega) (by omega) (by omega) (by omega) (by omega) (by omega) (by omega) (by omega) (by omega)) kwV_X11_peek kM_RX11_164 rfl rfl ⟨Nat.le_of_ble_eq_true rfl, Nat.le_of_ble_eq_true rfl⟩ rfl hl.1 rfl (Nat.le_of_ble_eq_true rfl) dX11_next_81 ⟨hroom.1, hroom.2⟩) C.2.2.2.2.2.2.1 hP hD hS [0, 1] [] rfl rfl (by decide) (by decide) (fun r_31 u_30 H locs hw_32 hP hD hS => ?_)
            have hp_32 : (-1) ≤ r_31.toInt ∧ r_31.toInt ≤ 255 := hw_32.1
            have hp_33 : r_31 = pk q_tape x_1 q_size := hw_32.2.1
            have hp_34 : (0 ≤ r_31.toInt) → (0 ≤ q_size.toInt + (-1) * x_1.toInt + (-1)) := by have e0 : (0 : Int32).toInt = 0 := (by decide); have h0 : (0 ≤ r_31.toInt) → (0 ≤ q_size.toInt + (-1) * x_1.toInt + (-1)) := hw_32.2.2; omega
            replace hp_34 : Hd ((0 ≤ r_31.toInt) → (0 ≤ q_size.toInt + (-1) * x_1.toInt + (-1))) := hp_34
            refine q_val (v := r_10) (hp_33.trans hp_12.symm) ?_
            refine lv_istore_n (lv' := [(1, .int r_10), (0, .ref q)]) hx hb dX11_next_84 rfl hl (by decide) rfl (fun ls hl => ?_)
            refine lv_iload_n hx hb dX11_next_85 rfl (lv_at hl 0 rfl) ?_
            refine lv_if_ge (tgt := 95) hx hb dX11_next_86 (by decide) (fun c_36 => ?_) (fun c_36 => ?_)
            · have hc_36 := o_le (by decide : (0 : Int32).toInt = 0) (rfl : r_10.toInt = r_10.toInt) c_36
              replace hp_13 := Hd.un hp_13 (by omega)
              refine lv_iload_n hx hb dX11_next_95 rfl (lv_at hl 0 rfl) ?_
              refine q_ai (wr := [(q, oC11 q_thrown q_tape_ q_length q_size x_1 q_limit q_s_ q_h_ q_read_ q_names_ q_reserved_ q_token x_1 0 q_number q_fault q_faultAt q_word q_got q_lines q_onces q_webs q_one q_two q_seed q_undone_ q_before_ q_undoMany q_far_ q_wayRow_ q_wayMany q_keptRow_ q_askedRow_ q_rares_ q_trial_ q_keptMany q_askedMany q_hangs_ q_paths_ q_tornSteps q_hasTorn q_turnOne q_hasTurn q_text_ q_textMany q_toldMany q_toldAt_ q_hasTold q_stack_ q_codes q_ones q_top q_deep q_isWhole q_truths_ q_imaged_ q_namesKept_ q_areKept_), (q_tape_, aC0 cy 940 q_tape)]) (r_S (rm := (Rm 0 0 0 0)) (As := [.int r_10]) (rest := []) (wc := []) C hS (q_subP hP [] rfl) (hD.sub [] (by decide) rfl) (y_isSmall l D cy r_10 _ ) kwS_X11_isSmall kM_RX11_177 ⟨Nat.le_of_ble_eq_true rfl, Nat.le_of_ble_eq_true rfl⟩ rfl hl.1 rfl (Nat.le_of_ble_eq_true rfl) dX11_next_96 ⟨hroom.1, hroom.2⟩) C.2.2.2.2.2.2.1 hP hD hS [] [0, 1] rfl rfl (by decide) (by decide) (fun r_38 u_37 H locs hw_39 hP hD hS => ?_)
              have hp_39 : 0 ≤ r_38.toInt ∧ r_38.toInt ≤ 1 := hw_39.1
              have hp_40 : (0 ≤ r_38.toInt + (-1)) → (0 ≤ r_10.toInt + (-97) ∧ 0 ≤ (-1) * r_10.toInt + 122) := hw_39.2.1
              replace hp_40 : Hd ((0 ≤ r_38.toInt + (-1)) → (0 ≤ r_10.toInt + (-97) ∧ 0 ≤ (-1) * r_10.toInt + 122)) := hp_40
              have hp_41 : (0 ≤ r_10.toInt + (-97) ∧ 0 ≤ (-1) * r_10.toInt + 122) → (0 ≤ r_38.toInt + (-1)) := hw_39.2.2
              replace hp_41 : Hd ((0 ≤ r_10.toInt + (-97) ∧ 0 ≤ (-1) * r_10.toInt + 122) → (0 ≤ r_38.toInt + (-1))) := hp_41
              have cut_164_42 : ∀  (H : Heap) (locs : List Loc) (ls : Array Slot), (0 ≤ r_10.toInt + (-48)) → (0 ≤ (-1) * r_10.toInt + 122) → ((97 ≤ r_10.toInt ∧ r_10.toInt ≤ 122) ∨ (48 ≤ r_10.toInt ∧ r_10.toInt ≤ 57)) → va_P D vwCl [(q, oC11 q_thrown q_tape_ q_length q_size x_1 q_limit q_s_ q_h_ q_read_ q_names_ q_reserved_ q_token x_1 0 q_number q_fault q_faultAt q_word q_got q_lines q_onces q_webs q_one q_two q_seed q_undone_ q_before_ q_undoMany q_far_ q_wayRow_ q_wayMany q_keptRow_ q_askedRow_ q_rares_ q_trial_ q_keptMany q_askedMany q_hangs_ q_paths_ q_tornSteps q_hasTorn q_turnOne q_hasTurn q_text_ q_textMany q_toldMany q_toldAt_ q_hasTold q_stack_ q_codes q_ones q_top q_deep q_isWhole q_truths_ q_imaged_ q_namesKept_ q_areKept_), (q_tape_, aC0 cy 940 q_tape)] H → va_D A [(q, oC11 q_thrown q_tape_ q_length q_size x_1 q_limit q_s_ q_h_ q_read_ q_names_ q_reserved_ q_token x_1 0 q_number q_fault q_faultAt q_word q_got q_lines q_onces q_webs q_one q_two q_seed q_undone_ q_before_ q_undoMany q_far_ q_wayRow_ q_wayMany q_keptRow_ q_askedRow_ q_rares_ q_trial_ q_keptMany q_askedMany q_hangs_ q_paths_ q_tornSteps q_hasTorn q_turnOne q_hasTurn q_text_ q_textMany q_toldMany q_toldAt_ q_hasTold q_stack_ q_codes q_ones q_top q_deep q_isWhole q_truths_ q_imaged_ q_namesKept_ q_areKept_), (q_tape_, aC0 cy 940 q_tape)] → va_S A s.heap H locs → lv_has ls 4 [(0, .ref q), (1, .int r_10)] → W p l e (Rm 1 20 0 0) s m args below meth c H locs cells slots Q (F0 m 164 ls []) := by
                intro  H locs ls hf_43 hf_44 hf_45 hP hD hS hl
                refine lv_iload_n hx hb dX11_next_164 rfl (lv_at hl 1 rfl) ?_
                refine q_ai (wr := [(q, oC11 q_thrown q_tape_ q_length q_size x_1 q_limit q_s_ q_h_ q_read_ q_names_ q_reserved_ q_token x_1 0 q_number q_fault q_faultAt q_word q_got q_lines q_onces q_webs q_one q_two q_seed q_undone_ q_before_ q_undoMany q_far_ q_wayRow_ q_wayMany q_keptRow_ q_askedRow_ q_rares_ q_trial_ q_keptMany q_askedMany q_hangs_ q_paths_ q_tornSteps q_hasTorn q_turnOne q_hasTurn q_text_ q_textMany q_toldMany q_toldAt_ q_hasTold q_stack_ q_codes q_ones q_top q_deep q_isWhole q_truths_ q_imaged_ q_namesKept_ q_areKept_), (q_tape_, aC0 cy 940 q_tape)]) (r_S (rm := (Rm 0 0 0 0)) (As := [.int r_10]) (rest := []) (wc := []) C hS (q_subP hP [] rfl) (hD.sub [] (by decide) rfl) (y_isSmall l D cy r_10 _ ) kwS_X11_isSmall kM_RX11_177 ⟨Nat.le_of_ble_eq_true rfl, Nat.le_of_ble_eq_true rfl⟩ rfl hl.1 rfl (Nat.le_of_ble_eq_true rfl) dX11_next_165 ⟨hroom.1, hroom.2⟩) C.2.2.2.2.2.2.1 hP hD hS [] [0, 1] rfl rfl (by decide) (by decide) (fun r_48 u_47 H locs hw_49 hP hD hS => ?_)
                have hp_49 : 0 ≤ r_48.toInt ∧ r_48.toInt ≤ 1 := hw_49.1
                have hp_50 : (0 ≤ r_48.toInt + (-1)) → (0 ≤ r_10.toInt + (-97) ∧ 0 ≤ (-1) * r_10.toInt + 122) := hw_49.2.1
                replace hp_50 : Hd ((0 ≤ r_48.toInt + (-1)) → (0 ≤ r_10.toInt + (-97) ∧ 0 ≤ (-1) * r_10.toInt + 122)) := hp_50
                have hp_51 : (0 ≤ r_10.toInt + (-97) ∧ 0 ≤ (-1) * r_10.toInt + 122) → (0 ≤ r_48.toInt + (-1)) := hw_49.2.2
                replace hp_51 : Hd ((0 ≤ r_10.toInt + (-97) ∧ 0 ≤ (-1) * r_10.toInt + 122) → (0 ≤ r_48.toInt + (-1))) := hp_51
                refine lv_istore_n (lv' := [(2, .int r_48), (0, .ref q), (1, .int r_10)]) hx hb dX11_next_168 rfl hl (by decide) rfl (fun ls hl => ?_)
                have hq_52a : aln (Pk q_tape q_size.toInt x_1.toInt) = true := by unfold aln; rw [hq_14]; exact decide_eq_true (by omega)
                have hq_52p : 0 ≤ Pk q_tape q_size.toInt x_1.toInt := by rw [hq_14]; omega
                have hq_52s : Hd ((sml (Pk q_tape q_size.toInt x_1.toInt) = true ∧ r_48.toInt = 1) ∨ (sml (Pk q_tape q_size.toInt x_1.toInt) = false ∧ r_48.toInt = 0)) := sml_is (sm := r_48.toInt) hq_14 (by have q0 := Hd.un hp_50; have q1 := Hd.un hp_51; omega)
                refine lv_iconst (v := 1) hx hb dX11_next_169 (by decide) ?_
                refine lv_istore_n (lv' := [(3, .int 1), (2, .int r_48), (0, .ref q), (1, .int r_10)]) hx hb dX11_next_170 rfl hl (by decide) rfl (fun ls hl => ?_)
                refine lv_aload_n hx hb dX11_next_171 rfl (lv_at hl 2 rfl) ?_
                refine lv_lconst (v := 0) hx hb dX11_next_172 (by decide) ?_
                refine q_put11 (v := .long 0) (w' := [(q, oC11 q_thrown q_tape_ q_length q_size x_1 q_limit q_s_ q_h_ q_read_ q_names_ q_reserved_ q_token x_1 0 q_number q_fault q_faultAt 0 q_got q_lines q_onces q_webs q_one q_two q_seed q_undone_ q_before_ q_undoMany q_far_ q_wayRow_ q_wayMany q_keptRow_ q_askedRow_ q_rares_ q_trial_ q_keptMany q_askedMany q_hangs_ q_paths_ q_tornSteps q_hasTorn q_turnOne q_hasTurn q_text_ q_textMany q_toldMany q_toldAt_ q_hasTold q_stack_ q_codes q_ones q_top q_deep q_isWhole q_truths_ q_imaged_ q_namesKept_ q_areKept_), (q_tape_, aC0 cy 940 q_tape)]) C hP hD hS 0 17 rfl fT_17 fy_17 (by decide) kF_RX11_187 rfl rfl (Nat.le_of_ble_eq_true rfl) rfl dX11_next_173 (fun H locs hP hD hS => ?_)
                refine lv_aload_n hx hb dX11_next_176 rfl (lv_at hl 2 rfl) ?_
                refine lv_iconst (v := 0) hx hb dX11_next_177 (by decide) ?_
                refine q_put11 (v := .int 0) (w' := [(q, oC11 q_thrown q_tape_ q_length q_size x_1 q_limit q_s_ q_h_ q_read_ q_names_ q_reserved_ q_token x_1 0 0 q_fault q_faultAt 0 q_got q_lines q_onces q_webs q_one q_two q_seed q_undone_ q_before_ q_undoMany q_far_ q_wayRow_ q_wayMany q_keptRow_ q_askedRow_ q_rares_ q_trial_ q_keptMany q_askedMany q_hangs_ q_paths_ q_tornSteps q_hasTorn q_turnOne q_hasTurn q_text_ q_textMany q_toldMany q_toldAt_ q_hasTold q_stack_ q_codes q_ones q_top q_deep q_isWhole q_truths_ q_imaged_ q_namesKept_ q_areKept_), (q_tape_, aC0 cy 940 q_tape)]) C hP hD hS 0 14 rfl fT_14 fy_14 (by decide) kF_RX11_184 rfl rfl (Nat.le_of_ble_eq_true rfl) rfl dX11_next_178 (fun H locs hP hD hS => ?_)
                have lp_181_58 : ∀ (n_59 : Nat) (x_54 : Int32) (x_55 : Int32) (x_56 : Int32) (x_57 : Int32) (y_58 : Int64) (H : Heap) (locs : List Loc) (ls : Array Slot), (-1) * x_55.toInt + 940 < (n_59 : Int) → (0 ≤ x_54.toInt ∧ x_54.toInt ≤ 1) → (0 ≤ x_55.toInt ∧ x_55.toInt ≤ 940) → (0 ≤ x_56.toInt ∧ x_56.toInt ≤ 940) → (0 ≤ x_57.toInt ∧ x_57.toInt ≤ 8214) → (0 ≤ x_55.toInt + (-1) * x_56.toInt + (-1) * x_1.toInt) → (0 ≤ (-1) * x_55.toInt + x_56.toInt + x_1.toInt) → (wh aln (Pk q_tape q_size.toInt) q_size.toInt x_1.toInt = wh aln (Pk q_tape q_size.toInt) q_size.toInt x_55.toInt) → (Ru (Pk q_tape q_size.toInt) x_1.toInt x_56.toInt x_57.toInt y_58) → (Al (Pk q_tape q_size.toInt) x_1.toInt x_56.toInt r_48.toInt x_54.toInt) → ((x_56.toInt = 0 ∧ x_57.toInt = 0) ∨ (x_56.toInt = 1 ∧ x_57.toInt ≤ 74) ∨ (x_56.toInt = 2 ∧ x_57.toInt ≤ 814) ∨ 3 ≤ x_56.toInt) → va_P D vwCl [(q, oC11 q_thrown q_tape_ q_length q_size x_55 q_limit q_s_ q_h_ q_read_ q_names_ q_reserved_ q_token x_1 x_56 x_57 q_fault q_faultAt y_58 q_got q_lines q_onces q_webs q_one q_two q_seed q_undone_ q_before_ q_undoMany q_far_ q_wayRow_ q_wayMany q_keptRow_ q_askedRow_ q_rares_ q_trial_ q_keptMany q_askedMany q_hangs_ q_paths_ q_tornSteps q_hasTorn q_turnOne q_hasTurn q_text_ q_textMany q_toldMany q_toldAt_ q_hasTold q_stack_ q_codes q_ones q_top q_deep q_isWhole q_truths_ q_imaged_ q_namesKept_ q_areKept_), (q_tape_, aC0 cy 940 q_tape)] H → va_D A [(q, oC11 q_thrown q_tape_ q_length q_size x_55 q_limit q_s_ q_h_ q_read_ q_names_ q_reserved_ q_token x_1 x_56 x_57 q_fault q_faultAt y_58 q_got q_lines q_onces q_webs q_one q_two q_seed q_undone_ q_before_ q_undoMany q_far_ q_wayRow_ q_wayMany q_keptRow_ q_askedRow_ q_rares_ q_trial_ q_keptMany q_askedMany q_hangs_ q_paths_ q_tornSteps q_hasTorn q_turnOne q_hasTurn q_text_ q_textMany q_toldMany q_toldAt_ q_hasTold q_stack_ q_codes q_ones q_top q_deep q_isWhole q_truths_ q_imaged_ q_namesKept_ q_areKept_), (q_tape_, aC0 cy 940 q_tape)] → va_S A s.heap H locs → lv_has ls 4 [(0, .ref q), (2, .int r_48), (3, .int x_54)] → W p l e (Rm 1 20 0 0) s m args below meth c H locs cells slots Q (F0 m 181 ls []) := by
                  intro n_59
                  induction n_59 with
                  | zero =>
                    intro x_54 x_55 x_56 x_57 y_58 H locs ls hm_70 hf_60 hf_61 hf_62 hf_63 hf_64 hf_65 hf_66 hf_67 hf_68 hf_69 hP hD hS hl
                    exact absurd hm_70 (by omega)
                  | succ n_59 ih_71 =>
                    intro x_54 x_55 x_56 x_57 y_58 H locs ls hm_70 hf_60 hf_61 hf_62 hf_63 hf_64 hf_65 hf_66 hf_67 hf_68 hf_69 hP hD hS hl
                    refine lv_aload_n hx hb dX11_next_181 rfl (lv_at hl 0 rfl) ?_
                    refine q_ai (wr := []) (r_V (rm := (Rm 0 0 0 0)) (q0 := 0) (As := []) (rest := []) (wc := [(q, oC11 q_thrown q_tape_ q_length q_size x_55 q_limit q_s_ q_h_ q_read_ q_names_ q_reserved_ q_token x_1 x_56 x_57 q_fault q_faultAt y_58 q_got q_lines q_onces q_webs q_one q_two q_seed q_undone_ q_before_ q_undoMany q_far_ q_wayRow_ q_wayMany q_keptRow_ q_askedRow_ q_rares_ q_trial_ q_keptMany q_askedMany q_hangs_ q_paths_ q_tornSteps q_hasTorn q_turnOne q_hasTurn q_text_ q_textMany q_toldMany q_toldAt_ q_hasTold q_stack_ q_codes q_ones q_top q_deep q_isWhole q_truths_ q_imaged_ q_namesKept_ q_areKept_), (q_tape_, aC0 cy 940 q_tape)]) C hS (q_subP hP [0, 1] rfl) (hD.sub [0, 1] (by decide) rfl) (y_peek l D cy q q_thrown q_tape_ q_length q_size x_55 q_limit q_s_ q_h_ q_read_ q_names_ q_reserved_ q_token x_1 x_56 x_57 q_fault q_faultAt y_58 q_got q_lines q_onces q_webs q_one q_two q_seed q_undone_ q_before_ q_undoMany q_far_ q_wayRow_ q_wayMany q_keptRow_ q_askedRow_ q_rares_ q_trial_ q_keptMany q_askedMany q_hangs_ q_paths_ q_tornSteps q_hasTorn q_turnOne q_hasTurn q_text_ q_textMany q_toldMany q_toldAt_ q_hasTold q_stack_ q_codes q_ones q_top q_deep q_isWhole q_truths_ q_imaged_ q_namesKept_ q_areKept_ q_tape _ (by omega) (by omega) (by omega) (by omega) (by omega) (by omega) (by omega) (by omega) (by omega) (by omega) (by omega) (by omega) (by omega) (by omega) (by omega) (by omega) (by omega) (by omega) (by omega) (by omega) (by omega) (by omega)) kwV_X11_peek kM_RX11_164 rfl rfl ⟨Nat.le_of_ble_eq_true rfl, Nat.le_of_ble_eq_true rfl⟩ rfl hl.1 rfl (Nat.le_of_ble_eq_true rfl) dX11_next_182 ⟨hroom.1, hroom.2⟩) C.2.2.2.2.2.2.1 hP hD hS [0, 1] [] rfl rfl (by decide) (by decide) (fun r_74 u_73 H locs hw_75 hP hD hS => ?_)
                    have hp_75 : (-1) ≤ r_74.toInt ∧ r_74.toInt ≤ 255 := hw_75.1
                    have hp_76 : r_74 = pk q_tape x_55 q_size := hw_75.2.1
                    have hp_77 : (0 ≤ r_74.toInt) → (0 ≤ q_size.toInt + (-1) * x_55.toInt + (-1)) := hw_75.2.2
                    replace hp_77 : Hd ((0 ≤ r_74.toInt) → (0 ≤ q_size.toInt + (-1) * x_55.toInt + (-1))) := hp_77
                    have hq_78 : Pk q_tape q_size.toInt x_55.toInt = r_74.toInt := pk_Pk hp_76 (by omega)
                    refine q_ai (wr := [(q, oC11 q_thrown q_tape_ q_length q_size x_55 q_limit q_s_ q_h_ q_read_ q_names_ q_reserved_ q_token x_1 x_56 x_57 q_fault q_faultAt y_58 q_got q_lines q_onces q_webs q_one q_two q_seed q_undone_ q_before_ q_undoMany q_far_ q_wayRow_ q_wayMany q_keptRow_ q_askedRow_ q_rares_ q_trial_ q_keptMany q_askedMany q_hangs_ q_paths_ q_tornSteps q_hasTorn q_turnOne q_hasTurn q_text_ q_textMany q_toldMany q_toldAt_ q_hasTold q_stack_ q_codes q_ones q_top q_deep q_isWhole q_truths_ q_imaged_ q_namesKept_ q_areKept_), (q_tape_, aC0 cy 940 q_tape)]) (r_S (rm := (Rm 0 0 0 0)) (As := [.int r_74]) (rest := []) (wc := []) C hS (q_subP hP [] rfl) (hD.sub [] (by decide) rfl) (y_isSmall l D cy r_74 _ ) kwS_X11_isSmall kM_RX11_177 ⟨Nat.le_of_ble_eq_true rfl, Nat.le_of_ble_eq_true rfl⟩ rfl hl.1 rfl (Nat.le_of_ble_eq_true rfl) dX11_next_185 ⟨hroom.1, hroom.2⟩) C.2.2.2.2.2.2.1 hP hD hS [] [0, 1] rfl rfl (by decide) (by decide) (fun r_81 u_80 H locs hw_82 hP hD hS => ?_)
                    have hp_82 : 0 ≤ r_81.toInt ∧ r_81.toInt ≤ 1 := hw_82.1
                    have hp_83 : (0 ≤ r_81.toInt + (-1)) → (0 ≤ r_74.toInt + (-97) ∧ 0 ≤ (-1) * r_74.toInt + 122) := hw_82.2.1
                    replace hp_83 : Hd ((0 ≤ r_81.toInt + (-1)) → (0 ≤ r_74.toInt + (-97) ∧ 0 ≤ (-1) * r_74.toInt + 122)) := hp_83
                    have hp_84 : (0 ≤ r_74.toInt + (-97) ∧ 0 ≤ (-1) * r_74.toInt + 122) → (0 ≤ r_81.toInt + (-1)) := hw_82.2.2
                    replace hp_84 : Hd ((0 ≤ r_74.toInt + (-97) ∧ 0 ≤ (-1) * r_74.toInt + 122) → (0 ≤ r_81.toInt + (-1))) := hp_84
                    have cut_201_85 : ∀  (H : Heap) (locs : List Loc) (ls : Array Slot), (0 ≤ (-1) * x_55.toInt + 939) → (0 ≤ r_74.toInt + (-48)) → (0 ≤ (-1) * r_74.toInt + 122) → ((97 ≤ r_74.toInt ∧ r_74.toInt ≤ 122) ∨ (48 ≤ r_74.toInt ∧ r_74.toInt ≤ 57)) → va_P D vwCl [(q, oC11 q_thrown q_tape_ q_length q_size x_55 q_limit q_s_ q_h_ q_read_ q_names_ q_reserved_ q_token x_1 x_56 x_57 q_fault q_faultAt y_58 q_got q_lines q_onces q_webs q_one q_two q_seed q_undone_ q_before_ q_undoMany q_far_ q_wayRow_ q_wayMany q_keptRow_ q_askedRow_ q_rares_ q_trial_ q_keptMany q_askedMany q_hangs_ q_paths_ q_tornSteps q_hasTorn q_turnOne q_hasTurn q_text_ q_textMany q_toldMany q_toldAt_ q_hasTold q_stack_ q_codes q_ones q_top q_deep q_isWhole q_truths_ q_imaged_ q_namesKept_ q_areKept_), (q_tape_, aC0 cy 940 q_tape)] H → va_D A [(q, oC11 q_thrown q_tape_ q_length q_size x_55 q_limit q_s_ q_h_ q_read_ q_names_ q_reserved_ q_token x_1 x_56 x_57 q_fault q_faultAt y_58 q_got q_lines q_onces q_webs q_one q_two q_seed q_undone_ q_before_ q_undoMany q_far_ q_wayRow_ q_wayMany q_keptRow_ q_askedRow_ q_rares_ q_trial_ q_keptMany q_askedMany q_hangs_ q_paths_ q_tornSteps q_hasTorn q_turnOne q_hasTurn q_text_ q_textMany q_toldMany q_toldAt_ q_hasTold q_stack_ q_codes q_ones q_top q_deep q_isWhole q_truths_ q_imaged_ q_namesKept_ q_areKept_), (q_tape_, aC0 cy 940 q_tape)] → va_S A s.heap H locs → lv_has ls 4 [(0, .ref q), (2, .int r_48), (3, .int x_54)] → W p l e (Rm 1 20 0 0) s m args below meth c H locs cells slots Q (F0 m 201 ls []) := by
                      intro  H locs ls hf_86 hf_87 hf_88 hf_89 hP hD hS hl
                      refine lv_iload_n hx hb dX11_next_201 rfl (lv_at hl 2 rfl) ?_
                      have cut_221_91 : ∀ (x_91 : Int32) (H : Heap) (locs : List Loc) (ls : Array Slot), (0 ≤ x_91.toInt ∧ x_91.toInt ≤ 1) → (Al (Pk q_tape q_size.toInt) x_1.toInt (x_56.toInt + 1) r_48.toInt x_91.toInt) → va_P D vwCl [(q, oC11 q_thrown q_tape_ q_length q_size x_55 q_limit q_s_ q_h_ q_read_ q_names_ q_reserved_ q_token x_1 x_56 x_57 q_fault q_faultAt y_58 q_got q_lines q_onces q_webs q_one q_two q_seed q_undone_ q_before_ q_undoMany q_far_ q_wayRow_ q_wayMany q_keptRow_ q_askedRow_ q_rares_ q_trial_ q_keptMany q_askedMany q_hangs_ q_paths_ q_tornSteps q_hasTorn q_turnOne q_hasTurn q_text_ q_textMany q_toldMany q_toldAt_ q_hasTold q_stack_ q_codes q_ones q_top q_deep q_isWhole q_truths_ q_imaged_ q_namesKept_ q_areKept_), (q_tape_, aC0 cy 940 q_tape)] H → va_D A [(q, oC11 q_thrown q_tape_ q_length q_size x_55 q_limit q_s_ q_h_ q_read_ q_names_ q_reserved_ q_token x_1 x_56 x_57 q_fault q_faultAt y_58 q_got q_lines q_onces q_webs q_one q_two q_seed q_undone_ q_before_ q_undoMany q_far_ q_wayRow_ q_wayMany q_keptRow_ q_askedRow_ q_rares_ q_trial_ q_keptMany q_askedMany q_hangs_ q_paths_ q_tornSteps q_hasTorn q_turnOne q_hasTurn q_text_ q_textMany q_toldMany q_toldAt_ q_hasTold q_stack_ q_codes q_ones q_top q_deep q_isWhole q_truths_ q_imaged_ q_namesKept_ q_areKept_), (q_tape_, aC0 cy 940 q_tape)] → va_S A s.heap H locs → lv_has ls 4 [(0, .ref q), (2, .int r_48)] → W p l e (Rm 1 20 0 0) s m args below meth c H locs cells slots Q (F0 m 221 ls [.int x_91]) := by
                        intro x_91 H locs ls hf_92 hf_93 hP hD hS hl
                        refine lv_istore_n (lv' := [(3, .int x_91), (0, .ref q), (2, .int r_48)]) hx hb dX11_next_221 rfl hl (by decide) rfl (fun ls hl => ?_)
                        refine lv_aload_n hx hb dX11_next_222 rfl (lv_at hl 1 rfl) ?_
                        refine q_get11 (v := .int x_56) C hP 0 13 rfl fT_13 (by decide) kF_RX11_171 rfl dX11_next_223 ?_
                        refine lv_bipush (v := 7) hx hb dX11_next_226 (by decide) ?_
                        have cut_248_95 : ∀ (y_95 : Int64) (H : Heap) (locs : List Loc) (ls : Array Slot), (y_95 = lN (cod (Pk q_tape q_size.toInt) x_1.toInt (k7 (x_56.toInt + 1))).toNat ∧ 0 ≤ cod (Pk q_tape q_size.toInt) x_1.toInt (k7 (x_56.toInt + 1)) ∧ cod (Pk q_tape q_size.toInt) x_1.toInt (k7 (x_56.toInt + 1)) < 256 ^ (k7 (x_56.toInt + 1))) → va_P D vwCl [(q, oC11 q_thrown q_tape_ q_length q_size x_55 q_limit q_s_ q_h_ q_read_ q_names_ q_reserved_ q_token x_1 x_56 x_57 q_fault q_faultAt y_95 q_got q_lines q_onces q_webs q_one q_two q_seed q_undone_ q_before_ q_undoMany q_far_ q_wayRow_ q_wayMany q_keptRow_ q_askedRow_ q_rares_ q_trial_ q_keptMany q_askedMany q_hangs_ q_paths_ q_tornSteps q_hasTorn q_turnOne q_hasTurn q_text_ q_textMany q_toldMany q_toldAt_ q_hasTold q_stack_ q_codes q_ones q_top q_deep q_isWhole q_truths_ q_imaged_ q_namesKept_ q_areKept_), (q_tape_, aC0 cy 940 q_tape)] H → va_D A [(q, oC11 q_thrown q_tape_ q_length q_size x_55 q_limit q_s_ q_h_ q_read_ q_names_ q_reserved_ q_token x_1 x_56 x_57 q_fault q_faultAt y_95 q_got q_lines q_onces q_webs q_one q_two q_seed q_undone_ q_before_ q_undoMany q_far_ q_wayRow_ q_wayMany q_keptRow_ q_askedRow_ q_rares_ q_trial_ q_keptMany q_askedMany q_hangs_ q_paths_ q_tornSteps q_hasTorn q_turnOne q_hasTurn q_text_ q_textMany q_toldMany q_toldAt_ q_hasTold q_stack_ q_codes q_ones q_top q_deep q_isWhole q_truths_ q_imaged_ q_namesKept_ q_areKept_), (q_tape_, aC0 cy 940 q_tape)] → va_S A s.heap H locs → lv_has ls 4 [(0, .ref q), (2, .int r_48), (3, .int x_91)] → W p l e (Rm 1 20 0 0) s m args below meth c H locs cells slots Q (F0 m 248 ls []) := by
                          intro y_95 H locs ls hf_96 hP hD hS hl
                          refine lv_aload_n hx hb dX11_next_248 rfl (lv_at hl 0 rfl) ?_
                          refine q_get11 (v := .int x_56) C hP 0 13 rfl fT_13 (by decide) kF_RX11_171 rfl dX11_next_249 ?_
                          refine lv_iconst (v := 3) hx hb dX11_next_252 (by decide) ?_
                          refine lv_icmp_ge (tgt := 275) hx hb dX11_next_253 (by decide) (fun c_98 => ?_) (fun c_98 => ?_)
                          · have hc_98 := o_le (by decide : (3 : Int32).toInt = 3) (rfl : x_56.toInt = x_56.toInt) c_98
                            replace hp_77 := Hd.un hp_77 (by omega)
                            refine lv_aload_n hx hb dX11_next_275 rfl (lv_at hl 0 rfl) ?_
                            refine lv_dup hx hb dX11_next_276 rfl ?_
                            refine q_get11 (v := .int x_56) C hP 0 13 rfl fT_13 (by decide) kF_RX11_171 rfl dX11_next_277 ?_
                            refine lv_iconst (v := 1) hx hb dX11_next_280 (by decide) ?_
                            refine lv_iadd hx hb dX11_next_281 ?_
                            refine lv_topi (fun z_99 hz_99 => ?_)
                            have hz_99 := o_add hz_99 (rfl : x_56.toInt = x_56.toInt) (by decide : (1 : Int32).toInt = 1) (by omega) (by omega)
                            refine q_put11 (v := .int z_99) (w' := [(q, oC11 q_thrown q_tape_ q_length q_size x_55 q_limit q_s_ q_h_ q_read_ q_names_ q_reserved_ q_token x_1 z_99 x_57 q_fault q_faultAt y_95 q_got q_lines q_onces q_webs q_one q_two q_seed q_undone_ q_before_ q_undoMany q_far_ q_wayRow_ q_wayMany q_keptRow_ q_askedRow_ q_rares_ q_trial_ q_keptMany q_askedMany q_hangs_ q_paths_ q_tornSteps q_hasTorn q_turnOne q_hasTurn q_text_ q_textMany q_toldMany q_toldAt_ q_hasTold q_stack_ q_codes q_ones q_top q_deep q_isWhole q_truths_ q_imaged_ q_namesKept_ q_areKept_), (q_tape_, aC0 cy 940 q_tape)]) C hP hD hS 0 13 rfl fT_13 fy_13 (by decide) kF_RX11_171 rfl rfl (Nat.le_of_ble_eq_true rfl) rfl dX11_next_282 (fun H locs hP hD hS => ?_)
                            refine lv_aload_n hx hb dX11_next_285 rfl (lv_at hl 0 rfl) ?_
                            refine lv_dup hx hb dX11_next_286 rfl ?_
                            refine q_get11 (v := .int x_55) C hP 0 4 rfl fT_4 (by decide) kF_RX11_21 rfl dX11_next_287 ?_
                            refine lv_iconst (v := 1) hx hb dX11_next_290 (by decide) ?_
                            refine lv_iadd hx hb dX11_next_291 ?_
                            refine lv_topi (fun z_100 hz_100 => ?_)
                            have hz_100 := o_add hz_100 (rfl : x_55.toInt = x_55.toInt) (by decide : (1 : Int32).toInt = 1) (by omega) (by omega)
                            refine q_put11 (v := .int z_100) (w' := [(q, oC11 q_thrown q_tape_ q_length q_size z_100 q_limit q_s_ q_h_ q_read_ q_names_ q_reserved_ q_token x_1 z_99 x_57 q_fault q_faultAt y_95 q_got q_lines q_onces q_webs q_one q_two q_seed q_undone_ q_before_ q_undoMany q_far_ q_wayRow_ q_wayMany q_keptRow_ q_askedRow_ q_rares_ q_trial_ q_keptMany q_askedMany q_hangs_ q_paths_ q_tornSteps q_hasTorn q_turnOne q_hasTurn q_text_ q_textMany q_toldMany q_toldAt_ q_hasTold q_stack_ q_codes q_ones q_top q_deep q_isWhole q_truths_ q_imaged_ q_namesKept_ q_areKept_), (q_tape_, aC0 cy 940 q_tape)]) C hP hD hS 0 4 rfl fT_4 fy_4 (by decide) kF_RX11_21 rfl rfl (Nat.le_of_ble_eq_true rfl) rfl dX11_next_292 (fun H locs hP hD hS => ?_)
                            have hq_100 : wh aln (Pk q_tape q_size.toInt) q_size.toInt x_1.toInt = wh aln (Pk q_tape q_size.toInt) q_size.toInt z_100.toInt := wh_next hf_66 (by omega) (by unfold aln; rw [hq_78]; exact decide_eq_true (by omega)) (by omega)
                            have hq_101 : Ru (Pk q_tape q_size.toInt) x_1.toInt z_99.toInt x_57.toInt y_95 := Ru.step (Ru.num hf_67 (by omega) (by omega) hq_78 (by omega)) hf_96 (by omega)
                            have hq_102 : Al (Pk q_tape q_size.toInt) x_1.toInt z_99.toInt r_48.toInt x_91.toInt := Al.cast hf_93 (by omega)
                            refine lv_goto (tgt := 181) hx hb dX11_next_295 (by decide) ?_
                            exact ih_71 x_91 z_100 z_99 x_57 y_95 H locs ls (by omega) (by omega) (by omega) (by omega) (by omega) (by omega) (by omega) hq_100 hq_101 hq_102 (by omega) hP hD hS (lv_sub hl [0, 1, 2] rfl)
                          · have hc_98 := o_nle (by decide : (3 : Int32).toInt = 3) (rfl : x_56.toInt = x_56.toInt) c_98
                            replace hp_77 := Hd.un hp_77 (by omega)
                            refine lv_aload_n hx hb dX11_next_256 rfl (lv_at hl 0 rfl) ?_
                            refine lv_bipush (v := 10) hx hb dX11_next_257 (by decide) ?_
                            refine lv_aload_n hx hb dX11_next_259 rfl (lv_at hl 0 rfl) ?_
                            refine q_get11 (v := .int x_57) C hP 0 14 rfl fT_14 (by decide) kF_RX11_184 rfl dX11_next_260 ?_
                            refine lv_imul hx hb dX11_next_263 ?_
                            refine lv_topi (fun z_104 hz_104 => ?_)
                            have hz_104 := o_mul hz_104 (by decide : (10 : Int32).toInt = 10) (rfl : x_57.toInt = x_57.toInt) (by omega) (by omega)
                            refine lv_aload_n hx hb dX11_next_264 rfl (lv_at hl 0 rfl) ?_
                            refine q_ai (wr := []) (r_V (rm := (Rm 0 0 0 0)) (q0 := 0) (As := []) (rest := [.int z_104, .ref q]) (wc := [(q, oC11 q_thrown q_tape_ q_length q_size x_55 q_limit q_s_ q_h_ q_read_ q_names_ q_reserved_ q_token x_1 x_56 x_57 q_fault q_faultAt y_95 q_got q_lines q_onces q_webs q_one q_two q_seed q_undone_ q_before_ q_undoMany q_far_ q_wayRow_ q_wayMany q_keptRow_ q_askedRow_ q_rares_ q_trial_ q_keptMany q_askedMany q_hangs_ q_paths_ q_tornSteps q_hasTorn q_turnOne q_hasTurn q_text_ q_textMany q_toldMany q_toldAt_ q_hasTold q_stack_ q_codes q_ones q_top q_deep q_isWhole q_truths_ q_imaged_ q_namesKept_ q_areKept_), (q_tape_, aC0 cy 940 q_tape)]) C hS (q_subP hP [0, 1] rfl) (hD.sub [0, 1] (by decide) rfl) (y_peek l D cy q q_thrown q_tape_ q_length q_size x_55 q_limit q_s_ q_h_ q_read_ q_names_ q_reserved_ q_token x_1 x_56 x_57 q_fault q_faultAt y_95 q_got q_lines q_onces q_webs q_one q_two q_seed q_undone_ q_before_ q_undoMany q_far_ q_wayRow_ q_wayMany q_keptRow_ q_askedRow_ q_rares_ q_trial_ q_keptMany q_askedMany q_hangs_ q_paths_ q_tornSteps q_hasTorn q_turnOne q_hasTurn q_text_ q_textMany q_toldMany q_toldAt_ q_hasTold q_stack_ q_codes q_ones q_top q_deep q_isWhole q_truths_ q_imaged_ q_namesKept_ q_areKept_ q_tape _ (by omega) (by omega) (by omega) (by omega) (by omega) (by omega) (by omega) (by omega) (by omega) (by omega) (by omega) (by omega) (by omega) (by omega) (by omega) (by omega) (by omega) (by omega) (by omega) (by omega) (by omega) (by omega)) kwV_X11_peek kM_RX11_164 rfl rfl ⟨Nat.le_of_ble_eq_true rfl, Nat.le_of_ble_eq_true rfl⟩ rfl hl.1 rfl (Nat.le_of_ble_eq_true rfl) dX11_next_265 ⟨hroom.1, hroom.2⟩) C.2.2.2.2.2.2.1 hP hD hS [0, 1] [] rfl rfl (by decide) (by decide) (fun r_106 u_105 H locs hw_107 hP hD hS => ?_)
                            have hp_107 : (-1) ≤ r_106.toInt ∧ r_106.toInt ≤ 255 := hw_107.1
                            have hp_108 : r_106 = pk q_tape x_55 q_size := hw_107.2.1
                            have hp_109 : (0 ≤ r_106.toInt) → (0 ≤ q_size.toInt + (-1) * x_55.toInt + (-1)) := hw_107.2.2
                            replace hp_109 : Hd ((0 ≤ r_106.toInt) → (0 ≤ q_size.toInt + (-1) * x_55.toInt + (-1))) := hp_109
                            refine q_val (v := r_74) (hp_108.trans hp_76.symm) ?_
                            refine lv_iadd hx hb dX11_next_268 ?_
                            refine lv_topi (fun z_111 hz_111 => ?_)
                            have hz_111 := o_add hz_111 (rfl : z_104.toInt = z_104.toInt) (rfl : r_74.toInt = r_74.toInt) (by omega) (by omega)
                            refine lv_bipush (v := 48) hx hb dX11_next_269 (by decide) ?_
                            refine lv_isub hx hb dX11_next_271 ?_
                            refine lv_topi (fun z_112 hz_112 => ?_)
                            have hz_112 := o_sub hz_112 (rfl : z_111.toInt = z_111.toInt) (by decide : (48 : Int32).toInt = 48) (by omega) (by omega)
                            refine q_put11 (v := .int z_112) (w' := [(q, oC11 q_thrown q_tape_ q_length q_size x_55 q_limit q_s_ q_h_ q_read_ q_names_ q_reserved_ q_token x_1 x_56 z_112 q_fault q_faultAt y_95 q_got q_lines q_onces q_webs q_one q_two q_seed q_undone_ q_before_ q_undoMany q_far_ q_wayRow_ q_wayMany q_keptRow_ q_askedRow_ q_rares_ q_trial_ q_keptMany q_askedMany q_hangs_ q_paths_ q_tornSteps q_hasTorn q_turnOne q_hasTurn q_text_ q_textMany q_toldMany q_toldAt_ q_hasTold q_stack_ q_codes q_ones q_top q_deep q_isWhole q_truths_ q_imaged_ q_namesKept_ q_areKept_), (q_tape_, aC0 cy 940 q_tape)]) C hP hD hS 0 14 rfl fT_14 fy_14 (by decide) kF_RX11_184 rfl rfl (Nat.le_of_ble_eq_true rfl) rfl dX11_next_272 (fun H locs hP hD hS => ?_)
                            refine lv_aload_n hx hb dX11_next_275 rfl (lv_at hl 0 rfl) ?_
                            refine lv_dup hx hb dX11_next_276 rfl ?_
                            refine q_get11 (v := .int x_56) C hP 0 13 rfl fT_13 (by decide) kF_RX11_171 rfl dX11_next_277 ?_
                            refine lv_iconst (v := 1) hx hb dX11_next_280 (by decide) ?_
                            refine lv_iadd hx hb dX11_next_281 ?_
                            refine lv_topi (fun z_113 hz_113 => ?_)
                            have hz_113 := o_add hz_113 (rfl : x_56.toInt = x_56.toInt) (by decide : (1 : Int32).toInt = 1) (by omega) (by omega)
                            refine q_put11 (v := .int z_113) (w' := [(q, oC11 q_thrown q_tape_ q_length q_size x_55 q_limit q_s_ q_h_ q_read_ q_names_ q_reserved_ q_token x_1 z_113 z_112 q_fault q_faultAt y_95 q_got q_lines q_onces q_webs q_one q_two q_seed q_undone_ q_before_ q_undoMany q_far_ q_wayRow_ q_wayMany q_keptRow_ q_askedRow_ q_rares_ q_trial_ q_keptMany q_askedMany q_hangs_ q_paths_ q_tornSteps q_hasTorn q_turnOne q_hasTurn q_text_ q_textMany q_toldMany q_toldAt_ q_hasTold q_stack_ q_codes q_ones q_top q_deep q_isWhole q_truths_ q_imaged_ q_namesKept_ q_areKept_), (q_tape_, aC0 cy 940 q_tape)]) C hP hD hS 0 13 rfl fT_13 fy_13 (by decide) kF_RX11_171 rfl rfl (Nat.le_of_ble_eq_true rfl) rfl dX11_next_282 (fun H locs hP hD hS => ?_)
                            refine lv_aload_n hx hb dX11_next_285 rfl (lv_at hl 0 rfl) ?_
                            refine lv_dup hx hb dX11_next_286 rfl ?_
                            refine q_get11 (v := .int x_55) C hP 0 4 rfl fT_4 (by decide) kF_RX11_21 rfl dX11_next_287 ?_
                            refine lv_iconst (v := 1) hx hb dX11_next_290 (by decide) ?_
                            refine lv_iadd hx hb dX11_next_291 ?_
                            refine lv_topi (fun z_114 hz_114 => ?_)
                            have hz_114 := o_add hz_114 (rfl : x_55.toInt = x_55.toInt) (by decide : (1 : Int32).toInt = 1) (by omega) (by omega)
                            refine q_put11 (v := .int z_114) (w' := [(q, oC11 q_thrown q_tape_ q_length q_size z_114 q_limit q_s_ q_h_ q_read_ q_names_ q_reserved_ q_token x_1 z_113 z_112 q_fault q_faultAt y_95 q_got q_lines q_onces q_webs q_one q_two q_seed q_undone_ q_before_ q_undoMany q_far_ q_wayRow_ q_wayMany q_keptRow_ q_askedRow_ q_rares_ q_trial_ q_keptMany q_askedMany q_hangs_ q_paths_ q_tornSteps q_hasTorn q_turnOne q_hasTurn q_text_ q_textMany q_toldMany q_toldAt_ q_hasTold q_stack_ q_codes q_ones q_top q_deep q_isWhole q_truths_ q_imaged_ q_namesKept_ q_areKept_), (q_tape_, aC0 cy 940 q_tape)]) C hP hD hS 0 4 rfl fT_4 fy_4 (by decide) kF_RX11_21 rfl rfl (Nat.le_of_ble_eq_true rfl) rfl dX11_next_292 (fun H locs hP hD hS => ?_)
                            have hq_114 : wh aln (Pk q_tape q_size.toInt) q_size.toInt x_1.toInt = wh aln (Pk q_tape q_size.toInt) q_size.toInt z_114.toInt := wh_next hf_66 (by omega) (by unfold aln; rw [hq_78]; exact decide_eq_true (by omega)) (by omega)
                            have hq_115 : Ru (Pk q_tape q_size.toInt) x_1.toInt z_113.toInt z_112.toInt y_95 := Ru.step (Ru.num hf_67 (by omega) (by omega) hq_78 (by omega)) hf_96 (by omega)
                            have hq_116 : Al (Pk q_tape q_size.toInt) x_1.toInt z_113.toInt r_48.toInt x_91.toInt := Al.cast hf_93 (by omega)
                            refine lv_goto (tgt := 181) hx hb dX11_next_295 (by decide) ?_
                            exact ih_71 x_91 z_114 z_113 z_112 y_95 H locs ls (by omega) (by omega) (by omega) (by omega) (by omega) (by omega) (by omega) hq_114 hq_115 hq_116 (by omega) hP hD hS (lv_sub hl [0, 1, 2] rfl)
                        refine lv_icmp_ge (tgt := 248) hx hb dX11_next_228 (by decide) (fun c_118 => ?_) (fun c_118 => ?_)
                        · have hc_118 := o_le (by decide : (7 : Int32).toInt = 7) (rfl : x_56.toInt = x_56.toInt) c_118
                          replace hp_77 := Hd.un hp_77 (by omega)
                          exact cut_248_95 y_58 H locs ls  (Ru.keep hf_67 (by omega)) hP hD hS (lv_sub hl [1, 2, 0] rfl)
                        · have hc_118 := o_nle (by decide : (7 : Int32).toInt = 7) (rfl : x_56.toInt = x_56.toInt) c_118
                          replace hp_77 := Hd.un hp_77 (by omega)
                          refine lv_aload_n hx hb dX11_next_231 rfl (lv_at hl 1 rfl) ?_
                          refine lv_aload_n hx hb dX11_next_232 rfl (lv_at hl 1 rfl) ?_
                          refine q_get11 (v := .long y_58) C hP 0 17 rfl fT_17 (by decide) kF_RX11_187 rfl dX11_next_233 ?_
                          refine lv_bipush (v := 8) hx hb dX11_next_236 (by decide) ?_
                          refine lv_lshl hx hb dX11_next_238 rfl ?_
                          refine lv_topl (fun y_119 hy_119 => ?_)
                          refine lv_aload_n hx hb dX11_next_239 rfl (lv_at hl 1 rfl) ?_
                          refine q_ai (wr := []) (r_V (rm := (Rm 0 0 0 0)) (q0 := 0) (As := []) (rest := [.long y_119, .ref q]) (wc := [(q, oC11 q_thrown q_tape_ q_length q_size x_55 q_limit q_s_ q_h_ q_read_ q_names_ q_reserved_ q_token x_1 x_56 x_57 q_fault q_faultAt y_58 q_got q_lines q_onces q_webs q_one q_two q_seed q_undone_ q_before_ q_undoMany q_far_ q_wayRow_ q_wayMany q_keptRow_ q_askedRow_ q_rares_ q_trial_ q_keptMany q_askedMany q_hangs_ q_paths_ q_tornSteps q_hasTorn q_turnOne q_hasTurn q_text_ q_textMany q_toldMany q_toldAt_ q_hasTold q_stack_ q_codes q_ones q_top q_deep q_isWhole q_truths_ q_imaged_ q_namesKept_ q_areKept_), (q_tape_, aC0 cy 940 q_tape)]) C hS (q_subP hP [0, 1] rfl) (hD.sub [0, 1] (by decide) rfl) (y_peek l D cy q q_thrown q_tape_ q_length q_size x_55 q_limit q_s_ q_h_ q_read_ q_names_ q_reserved_ q_token x_1 x_56 x_57 q_fault q_faultAt y_58 q_got q_lines q_onces q_webs q_one q_two q_seed q_undone_ q_before_ q_undoMany q_far_ q_wayRow_ q_wayMany q_keptRow_ q_askedRow_ q_rares_ q_trial_ q_keptMany q_askedMany q_hangs_ q_paths_ q_tornSteps q_hasTorn q_turnOne q_hasTurn q_text_ q_textMany q_toldMany q_toldAt_ q_hasTold q_stack_ q_codes q_ones q_top q_deep q_isWhole q_truths_ q_imaged_ q_namesKept_ q_areKept_ q_tape _ (by omega) (by omega) (by omega) (by omega) (by omega) (by omega) (by omega) (by omega) (by omega) (by omega) (by omega) (by omega) (by omega) (by omega) (by omega) (by omega) (by omega) (by omega) (by omega) (by omega) (by omega) (by omega)) kwV_X11_peek kM_RX11_164 rfl rfl ⟨Nat.le_of_ble_eq_true rfl, Nat.le_of_ble_eq_true rfl⟩ rfl hl.1 rfl (Nat.le_of_ble_eq_true rfl) dX11_next_240 ⟨hroom.1, hroom.2⟩) C.2.2.2.2.2.2.1 hP hD hS [0, 1] [] rfl rfl (by decide) (by decide) (fun r_121 u_120 H locs hw_122 hP hD hS => ?_)
                          have hp_122 : (-1) ≤ r_121.toInt ∧ r_121.toInt ≤ 255 := hw_122.1
                          have hp_123 : r_121 = pk q_tape x_55 q_size := hw_122.2.1
                          have hp_124 : (0 ≤ r_121.toInt) → (0 ≤ q_size.toInt + (-1) * x_55.toInt + (-1)) := hw_122.2.2
                          replace hp_124 : Hd ((0 ≤ r_121.toInt) → (0 ≤ q_size.toInt + (-1) * x_55.toInt + (-1))) := hp_124
                          refine q_val (v := r_74) (hp_123.trans hp_76.symm) ?_
                          refine lv_i2l hx hb dX11_next_243 rfl ?_
                          refine lv_topl (fun y_126 hy_126 => ?_)
                          refine lv_lor hx hb dX11_next_244 ?_
                          refine lv_topl (fun y_127 hy_127 => ?_)
                          refine q_put11 (v := .long y_127) (w' := [(q, oC11 q_thrown q_tape_ q_length q_size x_55 q_limit q_s_ q_h_ q_read_ q_names_ q_reserved_ q_token x_1 x_56 x_57 q_fault q_faultAt y_127 q_got q_lines q_onces q_webs q_one q_two q_seed q_undone_ q_before_ q_undoMany q_far_ q_wayRow_ q_wayMany q_keptRow_ q_askedRow_ q_rares_ q_trial_ q_keptMany q_askedMany q_hangs_ q_paths_ q_tornSteps q_hasTorn q_turnOne q_hasTurn q_text_ q_textMany q_toldMany q_toldAt_ q_hasTold q_stack_ q_codes q_ones q_top q_deep q_isWhole q_truths_ q_imaged_ q_namesKept_ q_areKept_), (q_tape_, aC0 cy 940 q_tape)]) C hP hD hS 0 17 rfl fT_17 fy_17 (by decide) kF_RX11_187 rfl rfl (Nat.le_of_ble_eq_true rfl) rfl dX11_next_245 (fun H locs hP hD hS => ?_)
                          exact cut_248_95 y_127 H locs ls  (Ru.word hf_67 (by omega) (by omega) hq_78 (by omega) (by omega) (by omega) hy_119 hy_126 hy_127) hP hD hS (lv_sub hl [1, 2, 0] rfl)
                      refine lv_if_eq (tgt := 220) hx hb dX11_next_202 (by decide) (fun c_128 => ?_) (fun c_128 => ?_)
                      · have hc_128 := o_eq (rfl : x_54.toInt = x_54.toInt) (by decide : (0 : Int32).toInt = 0) c_128
                        replace hp_77 := Hd.un hp_77 (by omega)
                        refine lv_iconst (v := 0) hx hb dX11_next_220 (by decide) ?_
                        exact cut_221_91 (0 : Int32) H locs ls  (by have e0 : (0 : Int32).toInt = 0 := (by decide); omega) (Al.step hf_68 (by omega) (by omega) hq_78 (by omega) (by have e0 : (0 : Int32).toInt = 0 := (by decide); have e1 : (1 : Int32).toInt = 1 := (by decide); omega)) hP hD hS (lv_sub hl [0, 1] rfl)
                      · have hc_128 := o_ne (rfl : x_54.toInt = x_54.toInt) (by decide : (0 : Int32).toInt = 0) c_128
                        have hnc_128 : 0 ≤ x_54.toInt + (-1) := by rcases Int.lt_or_gt_of_ne hc_128 with h9 | h9 <;> omega
                        replace hp_77 := Hd.un hp_77 (by omega)
                        refine lv_aload_n hx hb dX11_next_205 rfl (lv_at hl 0 rfl) ?_
                        refine q_ai (wr := []) (r_V (rm := (Rm 0 0 0 0)) (q0 := 0) (As := []) (rest := []) (wc := [(q, oC11 q_thrown q_tape_ q_length q_size x_55 q_limit q_s_ q_h_ q_read_ q_names_ q_reserved_ q_token x_1 x_56 x_57 q_fault q_faultAt y_58 q_got q_lines q_onces q_webs q_one q_two q_seed q_undone_ q_before_ q_undoMany q_far_ q_wayRow_ q_wayMany q_keptRow_ q_askedRow_ q_rares_ q_trial_ q_keptMany q_askedMany q_hangs_ q_paths_ q_tornSteps q_hasTorn q_turnOne q_hasTurn q_text_ q_textMany q_toldMany q_toldAt_ q_hasTold q_stack_ q_codes q_ones q_top q_deep q_isWhole q_truths_ q_imaged_ q_namesKept_ q_areKept_), (q_tape_, aC0 cy 940 q_tape)]) C hS (q_subP hP [0, 1] rfl) (hD.sub [0, 1] (by decide) rfl) (y_peek l D cy q q_thrown q_tape_ q_length q_size x_55 q_limit q_s_ q_h_ q_read_ q_names_ q_reserved_ q_token x_1 x_56 x_57 q_fault q_faultAt y_58 q_got q_lines q_onces q_webs q_one q_two q_seed q_undone_ q_before_ q_undoMany q_far_ q_wayRow_ q_wayMany q_keptRow_ q_askedRow_ q_rares_ q_trial_ q_keptMany q_askedMany q_hangs_ q_paths_ q_tornSteps q_hasTorn q_turnOne q_hasTurn q_text_ q_textMany q_toldMany q_toldAt_ q_hasTold q_stack_ q_codes q_ones q_top q_deep q_isWhole q_truths_ q_imaged_ q_namesKept_ q_areKept_ q_tape _ (by omega) (by omega) (by omega) (by omega) (by omega) (by omega) (by omega) (by omega) (by omega) (by omega) (by omega) (by omega) (by omega) (by omega) (by omega) (by omega) (by omega) (by omega) (by omega) (by omega) (by omega) (by omega)) kwV_X11_peek kM_RX11_164 rfl rfl ⟨Nat.le_of_ble_eq_true rfl, Nat.le_of_ble_eq_true rfl⟩ rfl hl.1 rfl (Nat.le_of_ble_eq_true rfl) dX11_next_206 ⟨hroom.1, hroom.2⟩) C.2.2.2.2.2.2.1 hP hD hS [0, 1] [] rfl rfl (by decide) (by decide) (fun r_130 u_129 H locs hw_131 hP hD hS => ?_)
                        have hp_131 : (-1) ≤ r_130.toInt ∧ r_130.toInt ≤ 255 := hw_131.1
                        have hp_132 : r_130 = pk q_tape x_55 q_size := hw_131.2.1
                        have hp_133 : (0 ≤ r_130.toInt) → (0 ≤ q_size.toInt + (-1) * x_55.toInt + (-1)) := hw_131.2.2
                        replace hp_133 : Hd ((0 ≤ r_130.toInt) → (0 ≤ q_size.toInt + (-1) * x_55.toInt + (-1))) := hp_133
                        refine q_val (v := r_74) (hp_132.trans hp_76.symm) ?_
                        refine q_ai (wr := [(q, oC11 q_thrown q_tape_ q_length q_size x_55 q_limit q_s_ q_h_ q_read_ q_names_ q_reserved_ q_token x_1 x_56 x_57 q_fault q_faultAt y_58 q_got q_lines q_onces q_webs q_one q_two q_seed q_undone_ q_before_ q_undoMany q_far_ q_wayRow_ q_wayMany q_keptRow_ q_askedRow_ q_rares_ q_trial_ q_keptMany q_askedMany q_hangs_ q_paths_ q_tornSteps q_hasTorn q_turnOne q_hasTurn q_text_ q_textMany q_toldMany q_toldAt_ q_hasTold q_stack_ q_codes q_ones q_top q_deep q_isWhole q_truths_ q_imaged_ q_namesKept_ q_areKept_), (q_tape_, aC0 cy 940 q_tape)]) (r_S (rm := (Rm 0 0 0 0)) (As := [.int r_74]) (rest := []) (wc := []) C hS (q_subP hP [] rfl) (hD.sub [] (by decide) rfl) (y_isSmall l D cy r_74 _ ) kwS_X11_isSmall kM_RX11_177 ⟨Nat.le_of_ble_eq_true rfl, Nat.le_of_ble_eq_true rfl⟩ rfl hl.1 rfl (Nat.le_of_ble_eq_true rfl) dX11_next_209 ⟨hroom.1, hroom.2⟩) C.2.2.2.2.2.2.1 hP hD hS [] [0, 1] rfl rfl (by decide) (by decide) (fun r_136 u_135 H locs hw_137 hP hD hS => ?_)
                        have hp_137 : 0 ≤ r_136.toInt ∧ r_136.toInt ≤ 1 := hw_137.1
                        have hp_138 : (0 ≤ r_136.toInt + (-1)) → (0 ≤ r_74.toInt + (-97) ∧ 0 ≤ (-1) * r_74.toInt + 122) := hw_137.2.1
                        replace hp_138 : Hd ((0 ≤ r_136.toInt + (-1)) → (0 ≤ r_74.toInt + (-97) ∧ 0 ≤ (-1) * r_74.toInt + 122)) := hp_138
                        have hp_139 : (0 ≤ r_74.toInt + (-97) ∧ 0 ≤ (-1) * r_74.toInt + 122) → (0 ≤ r_136.toInt + (-1)) := hw_137.2.2
                        replace hp_139 : Hd ((0 ≤ r_74.toInt + (-97) ∧ 0 ≤ (-1) * r_74.toInt + 122) → (0 ≤ r_136.toInt + (-1))) := hp_139
                        refine lv_iload_n hx hb dX11_next_212 rfl (lv_at hl 1 rfl) ?_
                        refine lv_icmp_ne (tgt := 220) hx hb dX11_next_213 (by decide) (fun c_141 => ?_) (fun c_141 => ?_)
                        · have hc_141 := o_ne (rfl : r_136.toInt = r_136.toInt) (rfl : r_48.toInt = r_48.toInt) c_141
                          refine lv_iconst (v := 0) hx hb dX11_next_220 (by decide) ?_
                          exact cut_221_91 (0 : Int32) H locs ls  (by have e0 : (0 : Int32).toInt = 0 := (by decide); omega) (Al.step hf_68 (by omega) (by omega) hq_78 (by omega) (by have e0 : (0 : Int32).toInt = 0 := (by decide); have e1 : (1 : Int32).toInt = 1 := (by decide); omega)) hP hD hS (lv_sub hl [0, 1] rfl)
                        · have hc_141 := o_eq (rfl : r_136.toInt = r_136.toInt) (rfl : r_48.toInt = r_48.toInt) c_141
                          refine lv_iconst (v := 1) hx hb dX11_next_216 (by decide) ?_
                          refine lv_goto (tgt := 221) hx hb dX11_next_217 (by decide) ?_
                          exact cut_221_91 (1 : Int32) H locs ls  (by have e0 : (1 : Int32).toInt = 1 := (by decide); omega) (Al.step hf_68 (by omega) (by omega) hq_78 (by omega) (by have e0 : (0 : Int32).toInt = 0 := (by decide); have e1 : (1 : Int32).toInt = 1 := (by decide); omega)) hP hD hS (lv_sub hl [0, 1] rfl)
                    refine lv_if_ne (tgt := 201) hx hb dX11_next_188 (by decide) (fun c_142 => ?_) (fun c_142 => ?_)
                    · have hc_142 := o_ne (rfl : r_81.toInt = r_81.toInt) (by decide : (0 : Int32).toInt = 0) c_142
                      have hnc_142 : 0 ≤ r_81.toInt + (-1) := by rcases Int.lt_or_gt_of_ne hc_142 with h9 | h9 <;> omega
                      replace hp_83 := Hd.un hp_83 (by omega)
                      replace hp_84 := Hd.un hp_84 (by omega)
                      replace hp_77 := Hd.un hp_77 (by omega)
                      exact cut_201_85  H locs ls  (by omega) (by omega) (by omega) (by omega) hP hD hS (lv_sub hl [0, 1, 2] rfl)
                    · have hc_142 := o_eq (rfl : r_81.toInt = r_81.toInt) (by decide : (0 : Int32).toInt = 0) c_142
                      clear hp_83
                      replace hp_84 : ¬ (0 ≤ r_74.toInt + (-97) ∧ 0 ≤ (-1) * r_74.toInt + 122) := fun z9 => absurd (Hd.un hp_84 z9) (by omega)
                      refine lv_aload_n hx hb dX11_next_191 rfl (lv_at hl 0 rfl) ?_
                      refine q_ai (wr := []) (r_V (rm := (Rm 0 0 0 0)) (q0 := 0) (As := []) (rest := []) (wc := [(q, oC11 q_thrown q_tape_ q_length q_size x_55 q_limit q_s_ q_h_ q_read_ q_names_ q_reserved_ q_token x_1 x_56 x_57 q_fault q_faultAt y_58 q_got q_lines q_onces q_webs q_one q_two q_seed q_undone_ q_before_ q_undoMany q_far_ q_wayRow_ q_wayMany q_keptRow_ q_askedRow_ q_rares_ q_trial_ q_keptMany q_askedMany q_hangs_ q_paths_ q_tornSteps q_hasTorn q_turnOne q_hasTurn q_text_ q_textMany q_toldMany q_toldAt_ q_hasTold q_stack_ q_codes q_ones q_top q_deep q_isWhole q_truths_ q_imaged_ q_namesKept_ q_areKept_), (q_tape_, aC0 cy 940 q_tape)]) C hS (q_subP hP [0, 1] rfl) (hD.sub [0, 1] (by decide) rfl) (y_peek l D cy q q_thrown q_tape_ q_length q_size x_55 q_limit q_s_ q_h_ q_read_ q_names_ q_reserved_ q_token x_1 x_56 x_57 q_fault q_faultAt y_58 q_got q_lines q_onces q_webs q_one q_two q_seed q_undone_ q_before_ q_undoMany q_far_ q_wayRow_ q_wayMany q_keptRow_ q_askedRow_ q_rares_ q_trial_ q_keptMany q_askedMany q_hangs_ q_paths_ q_tornSteps q_hasTorn q_turnOne q_hasTurn q_text_ q_textMany q_toldMany q_toldAt_ q_hasTold q_stack_ q_codes q_ones q_top q_deep q_isWhole q_truths_ q_imaged_ q_namesKept_ q_areKept_ q_tape _ (by omega) (by omega) (by omega) (by omega) (by omega) (by omega) (by omega) (by omega) (by omega) (by omega) (by omega) (by omega) (by omega) (by omega) (by omega) (by omega) (by omega) (by omega) (by omega) (by omega) (by omega) (by omega)) kwV_X11_peek kM_RX11_164 rfl rfl ⟨Nat.le_of_ble_eq_true rfl, Nat.le_of_ble_eq_true rfl⟩ rfl hl.1 rfl (Nat.le_of_ble_eq_true rfl) dX11_next_192 ⟨hroom.1, hroom.2⟩) C.2.2.2.2.2.2.1 hP hD hS [0, 1] [] rfl rfl (by decide) (by decide) (fun r_144 u_143 H locs hw_145 hP hD hS => ?_)
                      have hp_145 : (-1) ≤ r_144.toInt ∧ r_144.toInt ≤ 255 := hw_145.1
                      have hp_146 : r_144 = pk q_tape x_55 q_size := hw_145.2.1
                      have hp_147 : (0 ≤ r_144.toInt) → (0 ≤ q_size.toInt + (-1) * x_55.toInt + (-1)) := hw_145.2.2
                      replace hp_147 : Hd ((0 ≤ r_144.toInt) → (0 ≤ q_size.toInt + (-1) * x_55.toInt + (-1))) := hp_147
                      refine q_val (v := r_74) (hp_146.trans hp_76.symm) ?_
                      refine q_ai (wr := [(q, oC11 q_thrown q_tape_ q_length q_size x_55 q_limit q_s_ q_h_ q_read_ q_names_ q_reserved_ q_token x_1 x_56 x_57 q_fault q_faultAt y_58 q_got q_lines q_onces q_webs q_one q_two q_seed q_undone_ q_before_ q_undoMany q_far_ q_wayRow_ q_wayMany q_keptRow_ q_askedRow_ q_rares_ q_trial_ q_keptMany q_askedMany q_hangs_ q_paths_ q_tornSteps q_hasTorn q_turnOne q_hasTurn q_text_ q_textMany q_toldMany q_toldAt_ q_hasTold q_stack_ q_codes q_ones q_top q_deep q_isWhole q_truths_ q_imaged_ q_namesKept_ q_areKept_), (q_tape_, aC0 cy 940 q_tape)]) (r_S (rm := (Rm 0 0 0 0)) (As := [.int r_74]) (rest := []) (wc := []) C hS (q_subP hP [] rfl) (hD.sub [] (by decide) rfl) (y_isDigit l D cy r_74 _ ) kwS_X11_isDigit kM_RX11_181 ⟨Nat.le_of_ble_eq_true rfl, Nat.le_of_ble_eq_true rfl⟩ rfl hl.1 rfl (Nat.le_of_ble_eq_true rfl) dX11_next_195 ⟨hroom.1, hroom.2⟩) C.2.2.2.2.2.2.1 hP hD hS [] [0, 1] rfl rfl (by decide) (by decide) (fun r_150 u_149 H locs hw_151 hP hD hS => ?_)
                      have hp_151 : 0 ≤ r_150.toInt ∧ r_150.toInt ≤ 1 := hw_151.1
                      have hp_152 : (0 ≤ r_150.toInt + (-1)) → (0 ≤ r_74.toInt + (-48) ∧ 0 ≤ (-1) * r_74.toInt + 57) := hw_151.2.1
                      replace hp_152 : Hd ((0 ≤ r_150.toInt + (-1)) → (0 ≤ r_74.toInt + (-48) ∧ 0 ≤ (-1) * r_74.toInt + 57)) := hp_152
                      have hp_153 : (0 ≤ r_74.toInt + (-48) ∧ 0 ≤ (-1) * r_74.toInt + 57) → (0 ≤ r_150.toInt + (-1)) := hw_151.2.2
                      replace hp_153 : Hd ((0 ≤ r_74.toInt + (-48) ∧ 0 ≤ (-1) * r_74.toInt + 57) → (0 ≤ r_150.toInt + (-1))) := hp_153
                      refine lv_if_eq (tgt := 298) hx hb dX11_next_198 (by decide) (fun c_155 => ?_) (fun c_155 => ?_)
                      · have hc_155 := o_eq (rfl : r_150.toInt = r_150.toInt) (by decide : (0 : Int32).toInt = 0) c_155
                        clear hp_152
                        replace hp_153 : ¬ (0 ≤ r_74.toInt + (-48) ∧ 0 ≤ (-1) * r_74.toInt + 57) := fun z9 => absurd (Hd.un hp_153 z9) (by omega)
                        have hq_155 : aln (Pk q_tape q_size.toInt x_55.toInt) = false := by unfold aln; rw [hq_78]; exact decide_eq_false (by omega)
                        have hq_156 : wh aln (Pk q_tape q_size.toInt) q_size.toInt x_1.toInt = x_55.toInt := hf_66.trans (wh_stop hq_155)
                        have hq_157 : 1 ≤ x_56.toInt := sp_pos hq_14 hq_78 (by omega) (by omega) (show r_10.toInt ≠ r_74.toInt from fun e9 => absurd hq_52a (by rw [hq_14, e9, ← hq_78, hq_155]; decide))
                        refine lv_aload_n hx hb dX11_next_298 rfl (lv_at hl 0 rfl) ?_
                        refine lv_iload_n hx hb dX11_next_299 rfl (lv_at hl 2 rfl) ?_
                        refine lv_if_eq (tgt := 320) hx hb dX11_next_300 (by decide) (fun c_159 => ?_) (fun c_159 => ?_)
                        · have hc_159 := o_eq (rfl : x_54.toInt = x_54.toInt) (by decide : (0 : Int32).toInt = 0) c_159
                          refine lv_iconst (v := 4) hx hb dX11_next_320 (by decide) ?_
                          refine lv_goto (tgt := 333) hx hb dX11_next_321 (by decide) ?_
                          refine q_put11 (v := .int 4) (w' := [(q, oC11 q_thrown q_tape_ q_length q_size x_55 q_limit q_s_ q_h_ q_read_ q_names_ q_reserved_ 4 x_1 x_56 x_57 q_fault q_faultAt y_58 q_got q_lines q_onces q_webs q_one q_two q_seed q_undone_ q_before_ q_undoMany q_far_ q_wayRow_ q_wayMany q_keptRow_ q_askedRow_ q_rares_ q_trial_ q_keptMany q_askedMany q_hangs_ q_paths_ q_tornSteps q_hasTorn q_turnOne q_hasTurn q_text_ q_textMany q_toldMany q_toldAt_ q_hasTold q_stack_ q_codes q_ones q_top q_deep q_isWhole q_truths_ q_imaged_ q_namesKept_ q_areKept_), (q_tape_, aC0 cy 940 q_tape)]) C hP hD hS 0 11 rfl fT_11 fy_11 (by decide) kF_RX11_174 rfl rfl (Nat.le_of_ble_eq_true rfl) rfl dX11_next_333 (fun H locs hP hD hS => ?_)
                          refine o_wq hQ ?_
                          exact q_vret (rm := (Rm 1 20 0 0)) C hS (x_55, 4, x_1, x_56, x_57, y_58) ⟨(show 0 ≤ x_55.toInt ∧ x_55.toInt ≤ 940 by omega), (show 0 ≤ x_56.toInt ∧ x_56.toInt ≤ 940 by omega), (show 0 ≤ x_57.toInt ∧ x_57.toInt ≤ 8214 by omega), (show 0 ≤ x_55.toInt + (-1) * q_p.toInt by have e0 : (4 : Int32).toInt = 4 := (by decide); omega), (show Tm (Pk q_tape q_size.toInt) q_size.toInt (lm q_size.toInt q_limit.toInt) (wh blk (Pk q_tape q_size.toInt) q_size.toInt q_p.toInt) (4 : Int32).toInt x_1.toInt x_57.toInt y_58 x_55.toInt from (Tm.cast (Tm.run (by omega) hq_52a hq_52p (Hd.un hq_52s) hq_156 (by omega) hq_157 hf_67 hf_68 rfl (Or.inl ⟨by omega, by decide⟩)) hq_26)), (show (0 ≤ (4 : Int32).toInt + (-3) ∧ 0 ≤ (-1) * (4 : Int32).toInt + 3) → (0 ≤ x_55.toInt + (-1) * q_p.toInt + (-1)) by have e0 : (4 : Int32).toInt = 4 := (by decide); omega)⟩ (q_subP hP [0, 1] rfl) (hD.sub [0, 1] (by decide) rfl) hroom.1 hroom.2 dX11_next_336
                        · have hc_159 := o_ne (rfl : x_54.toInt = x_54.toInt) (by decide : (0 : Int32).toInt = 0) c_159
                          have hnc_159 : 0 ≤ x_54.toInt + (-1) := by rcases Int.lt_or_gt_of_ne hc_159 with h9 | h9 <;> omega
                          refine lv_aload_n hx hb dX11_next_303 rfl (lv_at hl 0 rfl) ?_
                          refine q_get11 (v := .int x_56) C hP 0 13 rfl fT_13 (by decide) kF_RX11_171 rfl dX11_next_304 ?_
                          refine lv_iload_n hx hb dX11_next_307 rfl (lv_at hl 1 rfl) ?_
                          refine lv_if_eq (tgt := 316) hx hb dX11_next_308 (by decide) (fun c_160 => ?_) (fun c_160 => ?_)
                          · have hc_160 := o_eq (rfl : r_48.toInt = r_48.toInt) (by decide : (0 : Int32).toInt = 0) c_160
                            clear hp_50
                            replace hp_51 : 0 ≤ (-1) * r_10.toInt + 96 := by have h8 := Hd.un hp_51; omega
                            replace hp_40 : 0 ≤ (-1) * r_38.toInt := by have h8 := Hd.un hp_40; omega
                            clear hp_41
                            refine lv_iconst (v := 3) hx hb dX11_next_316 (by decide) ?_
                            refine lv_icmp_le (tgt := 324) hx hb dX11_next_317 (by decide) (fun c_161 => ?_) (fun c_161 => ?_)
                            · have hc_161 := o_le (rfl : x_56.toInt = x_56.toInt) (by decide : (3 : Int32).toInt = 3) c_161
                              refine lv_iload_n hx hb dX11_next_324 rfl (lv_at hl 1 rfl) ?_
                              refine lv_if_eq (tgt := 332) hx hb dX11_next_325 (by decide) (fun _ => ?_) (fun c_0 => absurd (o_meq (rfl : r_48.toInt = r_48.toInt) (by decide : (0 : Int32).toInt = 0) (by omega)) c_0)
                              refine lv_iconst (v := 2) hx hb dX11_next_332 (by decide) ?_
                              refine q_put11 (v := .int 2) (w' := [(q, oC11 q_thrown q_tape_ q_length q_size x_55 q_limit q_s_ q_h_ q_read_ q_names_ q_reserved_ 2 x_1 x_56 x_57 q_fault q_faultAt y_58 q_got q_lines q_onces q_webs q_one q_two q_seed q_undone_ q_before_ q_undoMany q_far_ q_wayRow_ q_wayMany q_keptRow_ q_askedRow_ q_rares_ q_trial_ q_keptMany q_askedMany q_hangs_ q_paths_ q_tornSteps q_hasTorn q_turnOne q_hasTurn q_text_ q_textMany q_toldMany q_toldAt_ q_hasTold q_stack_ q_codes q_ones q_top q_deep q_isWhole q_truths_ q_imaged_ q_namesKept_ q_areKept_), (q_tape_, aC0 cy 940 q_tape)]) C hP hD hS 0 11 rfl fT_11 fy_11 (by decide) kF_RX11_174 rfl rfl (Nat.le_of_ble_eq_true rfl) rfl dX11_next_333 (fun H locs hP hD hS => ?_)
                              refine o_wq hQ ?_
                              exact q_vret (rm := (Rm 1 20 0 0)) C hS (x_55, 2, x_1, x_56, x_57, y_58) ⟨(show 0 ≤ x_55.toInt ∧ x_55.toInt ≤ 940 by omega), (show 0 ≤ x_56.toInt ∧ x_56.toInt ≤ 940 by omega), (show 0 ≤ x_57.toInt ∧ x_57.toInt ≤ 8214 by omega), (show 0 ≤ x_55.toInt + (-1) * q_p.toInt by have e0 : (2 : Int32).toInt = 2 := (by decide); omega), (show Tm (Pk q_tape q_size.toInt) q_size.toInt (lm q_size.toInt q_limit.toInt) (wh blk (Pk q_tape q_size.toInt) q_size.toInt q_p.toInt) (2 : Int32).toInt x_1.toInt x_57.toInt y_58 x_55.toInt from (Tm.cast (Tm.run (by omega) hq_52a hq_52p (Hd.un hq_52s) hq_156 (by omega) hq_157 hf_67 hf_68 rfl (Or.inr (Or.inr (Or.inr (Or.inr ⟨by omega, by omega, by omega, by decide⟩))))) hq_26)), (show (0 ≤ (2 : Int32).toInt + (-3) ∧ 0 ≤ (-1) * (2 : Int32).toInt + 3) → (0 ≤ x_55.toInt + (-1) * q_p.toInt + (-1)) by have e0 : (2 : Int32).toInt = 2 := (by decide); omega)⟩ (q_subP hP [0, 1] rfl) (hD.sub [0, 1] (by decide) rfl) hroom.1 hroom.2 dX11_next_336
                            · have hc_161 := o_nle (rfl : x_56.toInt = x_56.toInt) (by decide : (3 : Int32).toInt = 3) c_161
                              refine lv_iconst (v := 4) hx hb dX11_next_320 (by decide) ?_
                              refine lv_goto (tgt := 333) hx hb dX11_next_321 (by decide) ?_
                              refine q_put11 (v := .int 4) (w' := [(q, oC11 q_thrown q_tape_ q_length q_size x_55 q_limit q_s_ q_h_ q_read_ q_names_ q_reserved_ 4 x_1 x_56 x_57 q_fault q_faultAt y_58 q_got q_lines q_onces q_webs q_one q_two q_seed q_undone_ q_before_ q_undoMany q_far_ q_wayRow_ q_wayMany q_keptRow_ q_askedRow_ q_rares_ q_trial_ q_keptMany q_askedMany q_hangs_ q_paths_ q_tornSteps q_hasTorn q_turnOne q_hasTurn q_text_ q_textMany q_toldMany q_toldAt_ q_hasTold q_stack_ q_codes q_ones q_top q_deep q_isWhole q_truths_ q_imaged_ q_namesKept_ q_areKept_), (q_tape_, aC0 cy 940 q_tape)]) C hP hD hS 0 11 rfl fT_11 fy_11 (by decide) kF_RX11_174 rfl rfl (Nat.le_of_ble_eq_true rfl) rfl dX11_next_333 (fun H locs hP hD hS => ?_)
                              refine o_wq hQ ?_
                              exact q_vret (rm := (Rm 1 20 0 0)) C hS (x_55, 4, x_1, x_56, x_57, y_58) ⟨(show 0 ≤ x_55.toInt ∧ x_55.toInt ≤ 940 by omega), (show 0 ≤ x_56.toInt ∧ x_56.toInt ≤ 940 by omega), (show 0 ≤ x_57.toInt ∧ x_57.toInt ≤ 8214 by omega), (show 0 ≤ x_55.toInt + (-1) * q_p.toInt by have e0 : (4 : Int32).toInt = 4 := (by decide); omega), (show Tm (Pk q_tape q_size.toInt) q_size.toInt (lm q_size.toInt q_limit.toInt) (wh blk (Pk q_tape q_size.toInt) q_size.toInt q_p.toInt) (4 : Int32).toInt x_1.toInt x_57.toInt y_58 x_55.toInt from (Tm.cast (Tm.run (by omega) hq_52a hq_52p (Hd.un hq_52s) hq_156 (by omega) hq_157 hf_67 hf_68 rfl (Or.inr (Or.inr (Or.inl ⟨by omega, by omega, by omega, by decide⟩)))) hq_26)), (show (0 ≤ (4 : Int32).toInt + (-3) ∧ 0 ≤ (-1) * (4 : Int32).toInt + 3) → (0 ≤ x_55.toInt + (-1) * q_p.toInt + (-1)) by have e0 : (4 : Int32).toInt = 4 := (by decide); omega)⟩ (q_subP hP [0, 1] rfl) (hD.sub [0, 1] (by decide) rfl) hroom.1 hroom.2 dX11_next_336
                          · have hc_160 := o_ne (rfl : r_48.toInt = r_48.toInt) (by decide : (0 : Int32).toInt = 0) c_160
                            have hnc_160 : 0 ≤ r_48.toInt + (-1) := by rcases Int.lt_or_gt_of_ne hc_160 with h9 | h9 <;> omega
                            replace hp_50 := Hd.un hp_50 (by omega)
                            replace hp_51 := Hd.un hp_51 (by omega)
                            replace hp_41 := Hd.un hp_41 (by omega)
                            replace hp_40 := Hd.un hp_40 (by omega)
                            refine lv_bipush (v := 7) hx hb dX11_next_311 (by decide) ?_
                            refine lv_goto (tgt := 317) hx hb dX11_next_313 (by decide) ?_
                            refine lv_icmp_le (tgt := 324) hx hb dX11_next_317 (by decide) (fun c_162 => ?_) (fun c_162 => ?_)
                            · have hc_162 := o_le (rfl : x_56.toInt = x_56.toInt) (by decide : (7 : Int32).toInt = 7) c_162
                              refine lv_iload_n hx hb dX11_next_324 rfl (lv_at hl 1 rfl) ?_
                              refine lv_if_eq (tgt := 332) hx hb dX11_next_325 (by decide) (fun c_0 => absurd c_0 (o_mne (rfl : r_48.toInt = r_48.toInt) (by decide : (0 : Int32).toInt = 0) (by omega))) (fun _ => ?_)
                              refine lv_iconst (v := 1) hx hb dX11_next_328 (by decide) ?_
                              refine lv_goto (tgt := 333) hx hb dX11_next_329 (by decide) ?_
                              refine q_put11 (v := .int 1) (w' := [(q, oC11 q_thrown q_tape_ q_length q_size x_55 q_limit q_s_ q_h_ q_read_ q_names_ q_reserved_ 1 x_1 x_56 x_57 q_fault q_faultAt y_58 q_got q_lines q_onces q_webs q_one q_two q_seed q_undone_ q_before_ q_undoMany q_far_ q_wayRow_ q_wayMany q_keptRow_ q_askedRow_ q_rares_ q_trial_ q_keptMany q_askedMany q_hangs_ q_paths_ q_tornSteps q_hasTorn q_turnOne q_hasTurn q_text_ q_textMany q_toldMany q_toldAt_ q_hasTold q_stack_ q_codes q_ones q_top q_deep q_isWhole q_truths_ q_imaged_ q_namesKept_ q_areKept_), (q_tape_, aC0 cy 940 q_tape)]) C hP hD hS 0 11 rfl fT_11 fy_11 (by decide) kF_RX11_174 rfl rfl (Nat.le_of_ble_eq_true rfl) rfl dX11_next_333 (fun H locs hP hD hS => ?_)
                              refine o_wq hQ ?_
                              exact q_vret (rm := (Rm 1 20 0 0)) C hS (x_55, 1, x_1, x_56, x_57, y_58) ⟨(show 0 ≤ x_55.toInt ∧ x_55.toInt ≤ 940 by omega), (show 0 ≤ x_56.toInt ∧ x_56.toInt ≤ 940 by omega), (show 0 ≤ x_57.toInt ∧ x_57.toInt ≤ 8214 by omega), (show 0 ≤ x_55.toInt + (-1) * q_p.toInt by have e0 : (1 : Int32).toInt = 1 := (by decide); omega), (show Tm (Pk q_tape q_size.toInt) q_size.toInt (lm q_size.toInt q_limit.toInt) (wh blk (Pk q_tape q_size.toInt) q_size.toInt q_p.toInt) (1 : Int32).toInt x_1.toInt x_57.toInt y_58 x_55.toInt from (Tm.cast (Tm.run (by omega) hq_52a hq_52p (Hd.un hq_52s) hq_156 (by omega) hq_157 hf_67 hf_68 rfl (Or.inr (Or.inr (Or.inr (Or.inl ⟨by omega, by omega, by omega, by decide⟩))))) hq_26)), (show (0 ≤ (1 : Int32).toInt + (-3) ∧ 0 ≤ (-1) * (1 : Int32).toInt + 3) → (0 ≤ x_55.toInt + (-1) * q_p.toInt + (-1)) by have e0 : (1 : Int32).toInt = 1 := (by decide); omega)⟩ (q_subP hP [0, 1] rfl) (hD.sub [0, 1] (by decide) rfl) hroom.1 hroom.2 dX11_next_336
                            · have hc_162 := o_nle (rfl : x_56.toInt = x_56.toInt) (by decide : (7 : Int32).toInt = 7) c_162
                              refine lv_iconst (v := 4) hx hb dX11_next_320 (by decide) ?_
                              refine lv_goto (tgt := 333) hx hb dX11_next_321 (by decide) ?_
                              refine q_put11 (v := .int 4) (w' := [(q, oC11 q_thrown q_tape_ q_length q_size x_55 q_limit q_s_ q_h_ q_read_ q_names_ q_reserved_ 4 x_1 x_56 x_57 q_fault q_faultAt y_58 q_got q_lines q_onces q_webs q_one q_two q_seed q_undone_ q_before_ q_undoMany q_far_ q_wayRow_ q_wayMany q_keptRow_ q_askedRow_ q_rares_ q_trial_ q_keptMany q_askedMany q_hangs_ q_paths_ q_tornSteps q_hasTorn q_turnOne q_hasTurn q_text_ q_textMany q_toldMany q_toldAt_ q_hasTold q_stack_ q_codes q_ones q_top q_deep q_isWhole q_truths_ q_imaged_ q_namesKept_ q_areKept_), (q_tape_, aC0 cy 940 q_tape)]) C hP hD hS 0 11 rfl fT_11 fy_11 (by decide) kF_RX11_174 rfl rfl (Nat.le_of_ble_eq_true rfl) rfl dX11_next_333 (fun H locs hP hD hS => ?_)
                              refine o_wq hQ ?_
                              exact q_vret (rm := (Rm 1 20 0 0)) C hS (x_55, 4, x_1, x_56, x_57, y_58) ⟨(show 0 ≤ x_55.toInt ∧ x_55.toInt ≤ 940 by omega), (show 0 ≤ x_56.toInt ∧ x_56.toInt ≤ 940 by omega), (show 0 ≤ x_57.toInt ∧ x_57.toInt ≤ 8214 by omega), (show 0 ≤ x_55.toInt + (-1) * q_p.toInt by have e0 : (4 : Int32).toInt = 4 := (by decide); omega), (show Tm (Pk q_tape q_size.toInt) q_size.toInt (lm q_size.toInt q_limit.toInt) (wh blk (Pk q_tape q_size.toInt) q_size.toInt q_p.toInt) (4 : Int32).toInt x_1.toInt x_57.toInt y_58 x_55.toInt from (Tm.cast (Tm.run (by omega) hq_52a hq_52p (Hd.un hq_52s) hq_156 (by omega) hq_157 hf_67 hf_68 rfl (Or.inr (Or.inl ⟨by omega, by omega, by omega, by decide⟩))) hq_26)), (show (0 ≤ (4 : Int32).toInt + (-3) ∧ 0 ≤ (-1) * (4 : Int32).toInt + 3) → (0 ≤ x_55.toInt + (-1) * q_p.toInt + (-1)) by have e0 : (4 : Int32).toInt = 4 := (by decide); omega)⟩ (q_subP hP [0, 1] rfl) (hD.sub [0, 1] (by decide) rfl) hroom.1 hroom.2 dX11_next_336
                      · have hc_155 := o_ne (rfl : r_150.toInt = r_150.toInt) (by decide : (0 : Int32).toInt = 0) c_155
                        have hnc_155 : 0 ≤ r_150.toInt + (-1) := by rcases Int.lt_or_gt_of_ne hc_155 with h9 | h9 <;> omega
                        replace hp_152 := Hd.un hp_152 (by omega)
                        replace hp_153 := Hd.un hp_153 (by omega)
                        replace hp_77 := Hd.un hp_77 (by omega)
                        exact cut_201_85  H locs ls  (by omega) (by omega) (by omega) (by omega) hP hD hS (lv_sub hl [0, 1, 2] rfl)
                exact lp_181_58 (((-1) * x_1.toInt + 940 : Int).toNat + 1) (1 : Int32) x_1 (0 : Int32) (0 : Int32) (0 : Int64) H locs ls (by have e0 : (0 : Int32).toInt = 0 := (by decide); have e1 : (1 : Int32).toInt = 1 := (by decide); omega) (by have e0 : (0 : Int32).toInt = 0 := (by decide); have e1 : (1 : Int32).toInt = 1 := (by decide); omega) (by have e0 : (0 : Int32).toInt = 0 := (by decide); have e1 : (1 : Int32).toInt = 1 := (by decide); omega) (by have e0 : (0 : Int32).toInt = 0 := (by decide); have e1 : (1 : Int32).toInt = 1 := (by decide); omega) (by have e0 : (0 : Int32).toInt = 0 := (by decide); have e1 : (1 : Int32).toInt = 1 := (by decide); omega) (by have e0 : (0 : Int32).toInt = 0 := (by decide); have e1 : (1 : Int32).toInt = 1 := (by decide); omega) (by have e0 : (0 : Int32).toInt = 0 := (by decide); have e1 : (1 : Int32).toInt = 1 := (by decide); omega) rfl (Ru.zero (by decide) (by decide) rfl) (Al.zero (by decide) (by omega) (by decide)) (by have e0 : (0 : Int32).toInt = 0 := (by decide); omega) hP hD hS (lv_sub hl [2, 1, 0] rfl)
              refine lv_if_ne (tgt := 164) hx hb dX11_next_99 (by decide) (fun c_163 => ?_) (fun c_163 => ?_)
              · have hc_163 := o_ne (rfl : r_38.toInt = r_38.toInt) (by decide : (0 : Int32).toInt = 0) c_163
                have hnc_163 : 0 ≤ r_38.toInt + (-1) := by rcases Int.lt_or_gt_of_ne hc_163 with h9 | h9 <;> omega
                replace hp_40 := Hd.un hp_40 (by omega)
                replace hp_41 := Hd.un hp_41 (by omega)
                exact cut_164_42  H locs ls  (by omega) (by omega) (by omega) hP hD hS (lv_sub hl [1, 0] rfl)
              · have hc_163 := o_eq (rfl : r_38.toInt = r_38.toInt) (by decide : (0 : Int32).toInt = 0) c_163
                clear hp_40
                replace hp_41 : ¬ (0 ≤ r_10.toInt + (-97) ∧ 0 ≤ (-1) * r_10.toInt + 122) := fun z9 => absurd (Hd.un hp_41 z9) (by omega)
                refine lv_iload_n hx hb dX11_next_102 rfl (lv_at hl 0 rfl) ?_
                refine q_ai (wr := [(q, oC11 q_thrown q_tape_ q_length q_size x_1 q_limit q_s_ q_h_ q_read_ q_names_ q_reserved_ q_token x_1 0 q_number q_fault q_faultAt q_word q_got q_lines q_onces q_webs q_one q_two q_seed q_undone_ q_before_ q_undoMany q_far_ q_wayRow_ q_wayMany q_keptRow_ q_askedRow_ q_rares_ q_trial_ q_keptMany q_askedMany q_hangs_ q_paths_ q_tornSteps q_hasTorn q_turnOne q_hasTurn q_text_ q_textMany q_toldMany q_toldAt_ q_hasTold q_stack_ q_codes q_ones q_top q_deep q_isWhole q_truths_ q_imaged_ q_namesKept_ q_areKept_), (q_tape_, aC0 cy 940 q_tape)]) (r_S (rm := (Rm 0 0 0 0)) (As := [.int r_10]) (rest := []) (wc := []) C hS (q_subP hP [] rfl) (hD.sub [] (by decide) rfl) (y_isDigit l D cy r_10 _ ) kwS_X11_isDigit kM_RX11_181 ⟨Nat.le_of_ble_eq_true rfl, Nat.le_of_ble_eq_true rfl⟩ rfl hl.1 rfl (Nat.le_of_ble_eq_true rfl) dX11_next_103 ⟨hroom.1, hroom.2⟩) C.2.2.2.2.2.2.1 hP hD hS [] [0, 1] rfl rfl (by decide) (by decide) (fun r_165 u_164 H locs hw_166 hP hD hS => ?_)
                have hp_166 : 0 ≤ r_165.toInt ∧ r_165.toInt ≤ 1 := hw_166.1
                have hp_167 : (0 ≤ r_165.toInt + (-1)) → (0 ≤ r_10.toInt + (-48) ∧ 0 ≤ (-1) * r_10.toInt + 57) := hw_166.2.1
                replace hp_167 : Hd ((0 ≤ r_165.toInt + (-1)) → (0 ≤ r_10.toInt + (-48) ∧ 0 ≤ (-1) * r_10.toInt + 57)) := hp_167
                have hp_168 : (0 ≤ r_10.toInt + (-48) ∧ 0 ≤ (-1) * r_10.toInt + 57) → (0 ≤ r_165.toInt + (-1)) := hw_166.2.2
                replace hp_168 : Hd ((0 ≤ r_10.toInt + (-48) ∧ 0 ≤ (-1) * r_10.toInt + 57) → (0 ≤ r_165.toInt + (-1))) := hp_168
                refine lv_if_ne (tgt := 164) hx hb dX11_next_106 (by decide) (fun c_170 => ?_) (fun c_170 => ?_)
                · have hc_170 := o_ne (rfl : r_165.toInt = r_165.toInt) (by decide : (0 : Int32).toInt = 0) c_170
                  have hnc_170 : 0 ≤ r_165.toInt + (-1) := by rcases Int.lt_or_gt_of_ne hc_170 with h9 | h9 <;> omega
                  replace hp_167 := Hd.un hp_167 (by omega)
                  replace hp_168 := Hd.un hp_168 (by omega)
                  exact cut_164_42  H locs ls  (by omega) (by omega) (by omega) hP hD hS (lv_sub hl [1, 0] rfl)
                · have hc_170 := o_eq (rfl : r_165.toInt = r_165.toInt) (by decide : (0 : Int32).toInt = 0) c_170
                  clear hp_167
                  replace hp_168 : ¬ (0 ≤ r_10.toInt + (-48) ∧ 0 ≤ (-1) * r_10.toInt + 57) := fun z9 => absurd (Hd.un hp_168 z9) (by omega)
                  refine lv_aload_n hx hb dX11_next_109 rfl (lv_at hl 1 rfl) ?_
                  refine lv_iload_n hx hb dX11_next_110 rfl (lv_at hl 0 rfl) ?_
                  refine lv_bipush (v := 59) hx hb dX11_next_111 (by decide) ?_
                  refine lv_icmp_eq (tgt := 140) hx hb dX11_next_113 (by decide) (fun c_171 => ?_) (fun c_171 => ?_)
                  · have hc_171 := o_eq (rfl : r_10.toInt = r_10.toInt) (by decide : (59 : Int32).toInt = 59) c_171
                    refine lv_iconst (v := 3) hx hb dX11_next_140 (by decide) ?_
                    refine lv_goto (tgt := 145) hx hb dX11_next_141 (by decide) ?_
                    refine q_put11 (v := .int 3) (w' := [(q, oC11 q_thrown q_tape_ q_length q_size x_1 q_limit q_s_ q_h_ q_read_ q_names_ q_reserved_ 3 x_1 0 q_number q_fault q_faultAt q_word q_got q_lines q_onces q_webs q_one q_two q_seed q_undone_ q_before_ q_undoMany q_far_ q_wayRow_ q_wayMany q_keptRow_ q_askedRow_ q_rares_ q_trial_ q_keptMany q_askedMany q_hangs_ q_paths_ q_tornSteps q_hasTorn q_turnOne q_hasTurn q_text_ q_textMany q_toldMany q_toldAt_ q_hasTold q_stack_ q_codes q_ones q_top q_deep q_isWhole q_truths_ q_imaged_ q_namesKept_ q_areKept_), (q_tape_, aC0 cy 940 q_tape)]) C hP hD hS 0 11 rfl fT_11 fy_11 (by decide) kF_RX11_174 rfl rfl (Nat.le_of_ble_eq_true rfl) rfl dX11_next_145 (fun H locs hP hD hS => ?_)
                    refine lv_aload_n hx hb dX11_next_148 rfl (lv_at hl 1 rfl) ?_
                    refine lv_iload_n hx hb dX11_next_149 rfl (lv_at hl 0 rfl) ?_
                    refine q_put11 (v := .int r_10) (w' := [(q, oC11 q_thrown q_tape_ q_length q_size x_1 q_limit q_s_ q_h_ q_read_ q_names_ q_reserved_ 3 x_1 0 r_10 q_fault q_faultAt q_word q_got q_lines q_onces q_webs q_one q_two q_seed q_undone_ q_before_ q_undoMany q_far_ q_wayRow_ q_wayMany q_keptRow_ q_askedRow_ q_rares_ q_trial_ q_keptMany q_askedMany q_hangs_ q_paths_ q_tornSteps q_hasTorn q_turnOne q_hasTurn q_text_ q_textMany q_toldMany q_toldAt_ q_hasTold q_stack_ q_codes q_ones q_top q_deep q_isWhole q_truths_ q_imaged_ q_namesKept_ q_areKept_), (q_tape_, aC0 cy 940 q_tape)]) C hP hD hS 0 14 rfl fT_14 fy_14 (by decide) kF_RX11_184 rfl rfl (Nat.le_of_ble_eq_true rfl) rfl dX11_next_150 (fun H locs hP hD hS => ?_)
                    refine lv_aload_n hx hb dX11_next_153 rfl (lv_at hl 1 rfl) ?_
                    refine lv_dup hx hb dX11_next_154 rfl ?_
                    refine q_get11 (v := .int x_1) C hP 0 4 rfl fT_4 (by decide) kF_RX11_21 rfl dX11_next_155 ?_
                    refine lv_iconst (v := 1) hx hb dX11_next_158 (by decide) ?_
                    refine lv_iadd hx hb dX11_next_159 ?_
                    refine lv_topi (fun z_172 hz_172 => ?_)
                    have hz_172 := o_add hz_172 (rfl : x_1.toInt = x_1.toInt) (by decide : (1 : Int32).toInt = 1) (by omega) (by omega)
                    refine q_put11 (v := .int z_172) (w' := [(q, oC11 q_thrown q_tape_ q_length q_size z_172 q_limit q_s_ q_h_ q_read_ q_names_ q_reserved_ 3 x_1 0 r_10 q_fault q_faultAt q_word q_got q_lines q_onces q_webs q_one q_two q_seed q_undone_ q_before_ q_undoMany q_far_ q_wayRow_ q_wayMany q_keptRow_ q_askedRow_ q_rares_ q_trial_ q_keptMany q_askedMany q_hangs_ q_paths_ q_tornSteps q_hasTorn q_turnOne q_hasTurn q_text_ q_textMany q_toldMany q_toldAt_ q_hasTold q_stack_ q_codes q_ones q_top q_deep q_isWhole q_truths_ q_imaged_ q_namesKept_ q_areKept_), (q_tape_, aC0 cy 940 q_tape)]) C hP hD hS 0 4 rfl fT_4 fy_4 (by decide) kF_RX11_21 rfl rfl (Nat.le_of_ble_eq_true rfl) rfl dX11_next_160 (fun H locs hP hD hS => ?_)
                    refine o_wq hQ ?_
                    exact q_vret (rm := (Rm 1 20 0 0)) C hS (z_172, 3, x_1, 0, r_10, q_word) ⟨(show 0 ≤ z_172.toInt ∧ z_172.toInt ≤ 940 by omega), (show 0 ≤ (0 : Int32).toInt ∧ (0 : Int32).toInt ≤ 940 by decide), (show 0 ≤ r_10.toInt ∧ r_10.toInt ≤ 8214 by omega), (show 0 ≤ z_172.toInt + (-1) * q_p.toInt by have e0 : (0 : Int32).toInt = 0 := (by decide); have e1 : (3 : Int32).toInt = 3 := (by decide); omega), (show Tm (Pk q_tape q_size.toInt) q_size.toInt (lm q_size.toInt q_limit.toInt) (wh blk (Pk q_tape q_size.toInt) q_size.toInt q_p.toInt) (3 : Int32).toInt x_1.toInt r_10.toInt q_word z_172.toInt from (Tm.cast (Tm.sign (by omega) hq_14 (by omega) (by omega) (Or.inl ⟨by omega, by decide⟩) rfl (by omega) rfl) hq_26)), (show (0 ≤ (3 : Int32).toInt + (-3) ∧ 0 ≤ (-1) * (3 : Int32).toInt + 3) → (0 ≤ z_172.toInt + (-1) * q_p.toInt + (-1)) by have e0 : (0 : Int32).toInt = 0 := (by decide); have e1 : (3 : Int32).toInt = 3 := (by decide); omega)⟩ (q_subP hP [0, 1] rfl) (hD.sub [0, 1] (by decide) rfl) hroom.1 hroom.2 dX11_next_163
                  · have hc_171 := o_ne (rfl : r_10.toInt = r_10.toInt) (by decide : (59 : Int32).toInt = 59) c_171
                    refine lv_iload_n hx hb dX11_next_116 rfl (lv_at hl 0 rfl) ?_
                    refine lv_bipush (v := 40) hx hb dX11_next_117 (by decide) ?_
                    refine lv_icmp_eq (tgt := 140) hx hb dX11_next_119 (by decide) (fun c_173 => ?_) (fun c_173 => ?_)
                    · have hc_173 := o_eq (rfl : r_10.toInt = r_10.toInt) (by decide : (40 : Int32).toInt = 40) c_173
                      refine lv_iconst (v := 3) hx hb dX11_next_140 (by decide) ?_
                      refine lv_goto (tgt := 145) hx hb dX11_next_141 (by decide) ?_
                      refine q_put11 (v := .int 3) (w' := [(q, oC11 q_thrown q_tape_ q_length q_size x_1 q_limit q_s_ q_h_ q_read_ q_names_ q_reserved_ 3 x_1 0 q_number q_fault q_faultAt q_word q_got q_lines q_onces q_webs q_one q_two q_seed q_undone_ q_before_ q_undoMany q_far_ q_wayRow_ q_wayMany q_keptRow_ q_askedRow_ q_rares_ q_trial_ q_keptMany q_askedMany q_hangs_ q_paths_ q_tornSteps q_hasTorn q_turnOne q_hasTurn q_text_ q_textMany q_toldMany q_toldAt_ q_hasTold q_stack_ q_codes q_ones q_top q_deep q_isWhole q_truths_ q_imaged_ q_namesKept_ q_areKept_), (q_tape_, aC0 cy 940 q_tape)]) C hP hD hS 0 11 rfl fT_11 fy_11 (by decide) kF_RX11_174 rfl rfl (Nat.le_of_ble_eq_true rfl) rfl dX11_next_145 (fun H locs hP hD hS => ?_)
                      refine lv_aload_n hx hb dX11_next_148 rfl (lv_at hl 1 rfl) ?_
                      refine lv_iload_n hx hb dX11_next_149 rfl (lv_at hl 0 rfl) ?_
                      refine q_put11 (v := .int r_10) (w' := [(q, oC11 q_thrown q_tape_ q_length q_size x_1 q_limit q_s_ q_h_ q_read_ q_names_ q_reserved_ 3 x_1 0 r_10 q_fault q_faultAt q_word q_got q_lines q_onces q_webs q_one q_two q_seed q_undone_ q_before_ q_undoMany q_far_ q_wayRow_ q_wayMany q_keptRow_ q_askedRow_ q_rares_ q_trial_ q_keptMany q_askedMany q_hangs_ q_paths_ q_tornSteps q_hasTorn q_turnOne q_hasTurn q_text_ q_textMany q_toldMany q_toldAt_ q_hasTold q_stack_ q_codes q_ones q_top q_deep q_isWhole q_truths_ q_imaged_ q_namesKept_ q_areKept_), (q_tape_, aC0 cy 940 q_tape)]) C hP hD hS 0 14 rfl fT_14 fy_14 (by decide) kF_RX11_184 rfl rfl (Nat.le_of_ble_eq_true rfl) rfl dX11_next_150 (fun H locs hP hD hS => ?_)
                      refine lv_aload_n hx hb dX11_next_153 rfl (lv_at hl 1 rfl) ?_
                      refine lv_dup hx hb dX11_next_154 rfl ?_
                      refine q_get11 (v := .int x_1) C hP 0 4 rfl fT_4 (by decide) kF_RX11_21 rfl dX11_next_155 ?_
                      refine lv_iconst (v := 1) hx hb dX11_next_158 (by decide) ?_
                      refine lv_iadd hx hb dX11_next_159 ?_
                      refine lv_topi (fun z_174 hz_174 => ?_)
                      have hz_174 := o_add hz_174 (rfl : x_1.toInt = x_1.toInt) (by decide : (1 : Int32).toInt = 1) (by omega) (by omega)
                      refine q_put11 (v := .int z_174) (w' := [(q, oC11 q_thrown q_tape_ q_length q_size z_174 q_limit q_s_ q_h_ q_read_ q_names_ q_reserved_ 3 x_1 0 r_10 q_fault q_faultAt q_word q_got q_lines q_onces q_webs q_one q_two q_seed q_undone_ q_before_ q_undoMany q_far_ q_wayRow_ q_wayMany q_keptRow_ q_askedRow_ q_rares_ q_trial_ q_keptMany q_askedMany q_hangs_ q_paths_ q_tornSteps q_hasTorn q_turnOne q_hasTurn q_text_ q_textMany q_toldMany q_toldAt_ q_hasTold q_stack_ q_codes q_ones q_top q_deep q_isWhole q_truths_ q_imaged_ q_namesKept_ q_areKept_), (q_tape_, aC0 cy 940 q_tape)]) C hP hD hS 0 4 rfl fT_4 fy_4 (by decide) kF_RX11_21 rfl rfl (Nat.le_of_ble_eq_true rfl) rfl dX11_next_160 (fun H locs hP hD hS => ?_)
                      refine o_wq hQ ?_
                      exact q_vret (rm := (Rm 1 20 0 0)) C hS (z_174, 3, x_1, 0, r_10, q_word) ⟨(show 0 ≤ z_174.toInt ∧ z_174.toInt ≤ 940 by omega), (show 0 ≤ (0 : Int32).toInt ∧ (0 : Int32).toInt ≤ 940 by decide), (show 0 ≤ r_10.toInt ∧ r_10.toInt ≤ 8214 by omega), (show 0 ≤ z_174.toInt + (-1) * q_p.toInt by have e0 : (0 : Int32).toInt = 0 := (by decide); have e1 : (3 : Int32).toInt = 3 := (by decide); omega), (show Tm (Pk q_tape q_size.toInt) q_size.toInt (lm q_size.toInt q_limit.toInt) (wh blk (Pk q_tape q_size.toInt) q_size.toInt q_p.toInt) (3 : Int32).toInt x_1.toInt r_10.toInt q_word z_174.toInt from (Tm.cast (Tm.sign (by omega) hq_14 (by omega) (by omega) (Or.inl ⟨by omega, by decide⟩) rfl (by omega) rfl) hq_26)), (show (0 ≤ (3 : Int32).toInt + (-3) ∧ 0 ≤ (-1) * (3 : Int32).toInt + 3) → (0 ≤ z_174.toInt + (-1) * q_p.toInt + (-1)) by have e0 : (0 : Int32).toInt = 0 := (by decide); have e1 : (3 : Int32).toInt = 3 := (by decide); omega)⟩ (q_subP hP [0, 1] rfl) (hD.sub [0, 1] (by decide) rfl) hroom.1 hroom.2 dX11_next_163
                    · have hc_173 := o_ne (rfl : r_10.toInt = r_10.toInt) (by decide : (40 : Int32).toInt = 40) c_173
                      refine lv_iload_n hx hb dX11_next_122 rfl (lv_at hl 0 rfl) ?_
                      refine lv_bipush (v := 41) hx hb dX11_next_123 (by decide) ?_
                      refine lv_icmp_eq (tgt := 140) hx hb dX11_next_125 (by decide) (fun c_175 => ?_) (fun c_175 => ?_)
                      · have hc_175 := o_eq (rfl : r_10.toInt = r_10.toInt) (by decide : (41 : Int32).toInt = 41) c_175
                        refine lv_iconst (v := 3) hx hb dX11_next_140 (by decide) ?_
                        refine lv_goto (tgt := 145) hx hb dX11_next_141 (by decide) ?_
                        refine q_put11 (v := .int 3) (w' := [(q, oC11 q_thrown q_tape_ q_length q_size x_1 q_limit q_s_ q_h_ q_read_ q_names_ q_reserved_ 3 x_1 0 q_number q_fault q_faultAt q_word q_got q_lines q_onces q_webs q_one q_two q_seed q_undone_ q_before_ q_undoMany q_far_ q_wayRow_ q_wayMany q_keptRow_ q_askedRow_ q_rares_ q_trial_ q_keptMany q_askedMany q_hangs_ q_paths_ q_tornSteps q_hasTorn q_turnOne q_hasTurn q_text_ q_textMany q_toldMany q_toldAt_ q_hasTold q_stack_ q_codes q_ones q_top q_deep q_isWhole q_truths_ q_imaged_ q_namesKept_ q_areKept_), (q_tape_, aC0 cy 940 q_tape)]) C hP hD hS 0 11 rfl fT_11 fy_11 (by decide) kF_RX11_174 rfl rfl (Nat.le_of_ble_eq_true rfl) rfl dX11_next_145 (fun H locs hP hD hS => ?_)
                        refine lv_aload_n hx hb dX11_next_148 rfl (lv_at hl 1 rfl) ?_
                        refine lv_iload_n hx hb dX11_next_149 rfl (lv_at hl 0 rfl) ?_
                        refine q_put11 (v := .int r_10) (w' := [(q, oC11 q_thrown q_tape_ q_length q_size x_1 q_limit q_s_ q_h_ q_read_ q_names_ q_reserved_ 3 x_1 0 r_10 q_fault q_faultAt q_word q_got q_lines q_onces q_webs q_one q_two q_seed q_undone_ q_before_ q_undoMany q_far_ q_wayRow_ q_wayMany q_keptRow_ q_askedRow_ q_rares_ q_trial_ q_keptMany q_askedMany q_hangs_ q_paths_ q_tornSteps q_hasTorn q_turnOne q_hasTurn q_text_ q_textMany q_toldMany q_toldAt_ q_hasTold q_stack_ q_codes q_ones q_top q_deep q_isWhole q_truths_ q_imaged_ q_namesKept_ q_areKept_), (q_tape_, aC0 cy 940 q_tape)]) C hP hD hS 0 14 rfl fT_14 fy_14 (by decide) kF_RX11_184 rfl rfl (Nat.le_of_ble_eq_true rfl) rfl dX11_next_150 (fun H locs hP hD hS => ?_)
                        refine lv_aload_n hx hb dX11_next_153 rfl (lv_at hl 1 rfl) ?_
                        refine lv_dup hx hb dX11_next_154 rfl ?_
                        refine q_get11 (v := .int x_1) C hP 0 4 rfl fT_4 (by decide) kF_RX11_21 rfl dX11_next_155 ?_
                        refine lv_iconst (v := 1) hx hb dX11_next_158 (by decide) ?_
                        refine lv_iadd hx hb dX11_next_159 ?_
                        refine lv_topi (fun z_176 hz_176 => ?_)
                        have hz_176 := o_add hz_176 (rfl : x_1.toInt = x_1.toInt) (by decide : (1 : Int32).toInt = 1) (by omega) (by omega)
                        refine q_put11 (v := .int z_176) (w' := [(q, oC11 q_thrown q_tape_ q_length q_size z_176 q_limit q_s_ q_h_ q_read_ q_names_ q_reserved_ 3 x_1 0 r_10 q_fault q_faultAt q_word q_got q_lines q_onces q_webs q_one q_two q_seed q_undone_ q_before_ q_undoMany q_far_ q_wayRow_ q_wayMany q_keptRow_ q_askedRow_ q_rares_ q_trial_ q_keptMany q_askedMany q_hangs_ q_paths_ q_tornSteps q_hasTorn q_turnOne q_hasTurn q_text_ q_textMany q_toldMany q_toldAt_ q_hasTold q_stack_ q_codes q_ones q_top q_deep q_isWhole q_truths_ q_imaged_ q_namesKept_ q_areKept_), (q_tape_, aC0 cy 940 q_tape)]) C hP hD hS 0 4 rfl fT_4 fy_4 (by decide) kF_RX11_21 rfl rfl (Nat.le_of_ble_eq_true rfl) rfl dX11_next_160 (fun H locs hP hD hS => ?_)
                        refine o_wq hQ ?_
                        exact q_vret (rm := (Rm 1 20 0 0)) C hS (z_176, 3, x_1, 0, r_10, q_word) ⟨(show 0 ≤ z_176.toInt ∧ z_176.toInt ≤ 940 by omega), (show 0 ≤ (0 : Int32).toInt ∧ (0 : Int32).toInt ≤ 940 by decide), (show 0 ≤ r_10.toInt ∧ r_10.toInt ≤ 8214 by omega), (show 0 ≤ z_176.toInt + (-1) * q_p.toInt by have e0 : (0 : Int32).toInt = 0 := (by decide); have e1 : (3 : Int32).toInt = 3 := (by decide); omega), (show Tm (Pk q_tape q_size.toInt) q_size.toInt (lm q_size.toInt q_limit.toInt) (wh blk (Pk q_tape q_size.toInt) q_size.toInt q_p.toInt) (3 : Int32).toInt x_1.toInt r_10.toInt q_word z_176.toInt from (Tm.cast (Tm.sign (by omega) hq_14 (by omega) (by omega) (Or.inl ⟨by omega, by decide⟩) rfl (by omega) rfl) hq_26)), (show (0 ≤ (3 : Int32).toInt + (-3) ∧ 0 ≤ (-1) * (3 : Int32).toInt + 3) → (0 ≤ z_176.toInt + (-1) * q_p.toInt + (-1)) by have e0 : (0 : Int32).toInt = 0 := (by decide); have e1 : (3 : Int32).toInt = 3 := (by decide); omega)⟩ (q_subP hP [0, 1] rfl) (hD.sub [0, 1] (by decide) rfl) hroom.1 hroom.2 dX11_next_163
                      · have hc_175 := o_ne (rfl : r_10.toInt = r_10.toInt) (by decide : (41 : Int32).toInt = 41) c_175
                        refine lv_iload_n hx hb dX11_next_128 rfl (lv_at hl 0 rfl) ?_
                        refine lv_bipush (v := 60) hx hb dX11_next_129 (by decide) ?_
                        refine lv_icmp_lt (tgt := 144) hx hb dX11_next_131 (by decide) (fun c_177 => ?_) (fun c_177 => ?_)
                        · have hc_177 := o_lt (rfl : r_10.toInt = r_10.toInt) (by decide : (60 : Int32).toInt = 60) c_177
                          refine lv_iconst (v := 4) hx hb dX11_next_144 (by decide) ?_
                          refine q_put11 (v := .int 4) (w' := [(q, oC11 q_thrown q_tape_ q_length q_size x_1 q_limit q_s_ q_h_ q_read_ q_names_ q_reserved_ 4 x_1 0 q_number q_fault q_faultAt q_word q_got q_lines q_onces q_webs q_one q_two q_seed q_undone_ q_before_ q_undoMany q_far_ q_wayRow_ q_wayMany q_keptRow_ q_askedRow_ q_rares_ q_trial_ q_keptMany q_askedMany q_hangs_ q_paths_ q_tornSteps q_hasTorn q_turnOne q_hasTurn q_text_ q_textMany q_toldMany q_toldAt_ q_hasTold q_stack_ q_codes q_ones q_top q_deep q_isWhole q_truths_ q_imaged_ q_namesKept_ q_areKept_), (q_tape_, aC0 cy 940 q_tape)]) C hP hD hS 0 11 rfl fT_11 fy_11 (by decide) kF_RX11_174 rfl rfl (Nat.le_of_ble_eq_true rfl) rfl dX11_next_145 (fun H locs hP hD hS => ?_)
                          refine lv_aload_n hx hb dX11_next_148 rfl (lv_at hl 1 rfl) ?_
                          refine lv_iload_n hx hb dX11_next_149 rfl (lv_at hl 0 rfl) ?_
                          refine q_put11 (v := .int r_10) (w' := [(q, oC11 q_thrown q_tape_ q_length q_size x_1 q_limit q_s_ q_h_ q_read_ q_names_ q_reserved_ 4 x_1 0 r_10 q_fault q_faultAt q_word q_got q_lines q_onces q_webs q_one q_two q_seed q_undone_ q_before_ q_undoMany q_far_ q_wayRow_ q_wayMany q_keptRow_ q_askedRow_ q_rares_ q_trial_ q_keptMany q_askedMany q_hangs_ q_paths_ q_tornSteps q_hasTorn q_turnOne q_hasTurn q_text_ q_textMany q_toldMany q_toldAt_ q_hasTold q_stack_ q_codes q_ones q_top q_deep q_isWhole q_truths_ q_imaged_ q_namesKept_ q_areKept_), (q_tape_, aC0 cy 940 q_tape)]) C hP hD hS 0 14 rfl fT_14 fy_14 (by decide) kF_RX11_184 rfl rfl (Nat.le_of_ble_eq_true rfl) rfl dX11_next_150 (fun H locs hP hD hS => ?_)
                          refine lv_aload_n hx hb dX11_next_153 rfl (lv_at hl 1 rfl) ?_
                          refine lv_dup hx hb dX11_next_154 rfl ?_
                          refine q_get11 (v := .int x_1) C hP 0 4 rfl fT_4 (by decide) kF_RX11_21 rfl dX11_next_155 ?_
                          refine lv_iconst (v := 1) hx hb dX11_next_158 (by decide) ?_
                          refine lv_iadd hx hb dX11_next_159 ?_
                          refine lv_topi (fun z_178 hz_178 => ?_)
                          have hz_178 := o_add hz_178 (rfl : x_1.toInt = x_1.toInt) (by decide : (1 : Int32).toInt = 1) (by omega) (by omega)
                          refine q_put11 (v := .int z_178) (w' := [(q, oC11 q_thrown q_tape_ q_length q_size z_178 q_limit q_s_ q_h_ q_read_ q_names_ q_reserved_ 4 x_1 0 r_10 q_fault q_faultAt q_word q_got q_lines q_onces q_webs q_one q_two q_seed q_undone_ q_before_ q_undoMany q_far_ q_wayRow_ q_wayMany q_keptRow_ q_askedRow_ q_rares_ q_trial_ q_keptMany q_askedMany q_hangs_ q_paths_ q_tornSteps q_hasTorn q_turnOne q_hasTurn q_text_ q_textMany q_toldMany q_toldAt_ q_hasTold q_stack_ q_codes q_ones q_top q_deep q_isWhole q_truths_ q_imaged_ q_namesKept_ q_areKept_), (q_tape_, aC0 cy 940 q_tape)]) C hP hD hS 0 4 rfl fT_4 fy_4 (by decide) kF_RX11_21 rfl rfl (Nat.le_of_ble_eq_true rfl) rfl dX11_next_160 (fun H locs hP hD hS => ?_)
                          refine o_wq hQ ?_
                          exact q_vret (rm := (Rm 1 20 0 0)) C hS (z_178, 4, x_1, 0, r_10, q_word) ⟨(show 0 ≤ z_178.toInt ∧ z_178.toInt ≤ 940 by omega), (show 0 ≤ (0 : Int32).toInt ∧ (0 : Int32).toInt ≤ 940 by decide), (show 0 ≤ r_10.toInt ∧ r_10.toInt ≤ 8214 by omega), (show 0 ≤ z_178.toInt + (-1) * q_p.toInt by have e0 : (0 : Int32).toInt = 0 := (by decide); have e1 : (4 : Int32).toInt = 4 := (by decide); omega), (show Tm (Pk q_tape q_size.toInt) q_size.toInt (lm q_size.toInt q_limit.toInt) (wh blk (Pk q_tape q_size.toInt) q_size.toInt q_p.toInt) (4 : Int32).toInt x_1.toInt r_10.toInt q_word z_178.toInt from (Tm.cast (Tm.sign (by omega) hq_14 (by omega) (by omega) (Or.inr ⟨by omega, by decide⟩) rfl (by omega) rfl) hq_26)), (show (0 ≤ (4 : Int32).toInt + (-3) ∧ 0 ≤ (-1) * (4 : Int32).toInt + 3) → (0 ≤ z_178.toInt + (-1) * q_p.toInt + (-1)) by have e0 : (0 : Int32).toInt = 0 := (by decide); have e1 : (4 : Int32).toInt = 4 := (by decide); omega)⟩ (q_subP hP [0, 1] rfl) (hD.sub [0, 1] (by decide) rfl) hroom.1 hroom.2 dX11_next_163
                        · have hc_177 := o_nlt (rfl : r_10.toInt = r_10.toInt) (by decide : (60 : Int32).toInt = 60) c_177
                          refine lv_iload_n hx hb dX11_next_134 rfl (lv_at hl 0 rfl) ?_
                          refine lv_bipush (v := 62) hx hb dX11_next_135 (by decide) ?_
                          refine lv_icmp_gt (tgt := 144) hx hb dX11_next_137 (by decide) (fun c_179 => ?_) (fun c_179 => ?_)
                          · have hc_179 := o_lt (by decide : (62 : Int32).toInt = 62) (rfl : r_10.toInt = r_10.toInt) c_179
                            refine lv_iconst (v := 4) hx hb dX11_next_144 (by decide) ?_
                            refine q_put11 (v := .int 4) (w' := [(q, oC11 q_thrown q_tape_ q_length q_size x_1 q_limit q_s_ q_h_ q_read_ q_names_ q_reserved_ 4 x_1 0 q_number q_fault q_faultAt q_word q_got q_lines q_onces q_webs q_one q_two q_seed q_undone_ q_before_ q_undoMany q_far_ q_wayRow_ q_wayMany q_keptRow_ q_askedRow_ q_rares_ q_trial_ q_keptMany q_askedMany q_hangs_ q_paths_ q_tornSteps q_hasTorn q_turnOne q_hasTurn q_text_ q_textMany q_toldMany q_toldAt_ q_hasTold q_stack_ q_codes q_ones q_top q_deep q_isWhole q_truths_ q_imaged_ q_namesKept_ q_areKept_), (q_tape_, aC0 cy 940 q_tape)]) C hP hD hS 0 11 rfl fT_11 fy_11 (by decide) kF_RX11_174 rfl rfl (Nat.le_of_ble_eq_true rfl) rfl dX11_next_145 (fun H locs hP hD hS => ?_)
                            refine lv_aload_n hx hb dX11_next_148 rfl (lv_at hl 1 rfl) ?_
                            refine lv_iload_n hx hb dX11_next_149 rfl (lv_at hl 0 rfl) ?_
                            refine q_put11 (v := .int r_10) (w' := [(q, oC11 q_thrown q_tape_ q_length q_size x_1 q_limit q_s_ q_h_ q_read_ q_names_ q_reserved_ 4 x_1 0 r_10 q_fault q_faultAt q_word q_got q_lines q_onces q_webs q_one q_two q_seed q_undone_ q_before_ q_undoMany q_far_ q_wayRow_ q_wayMany q_keptRow_ q_askedRow_ q_rares_ q_trial_ q_keptMany q_askedMany q_hangs_ q_paths_ q_tornSteps q_hasTorn q_turnOne q_hasTurn q_text_ q_textMany q_toldMany q_toldAt_ q_hasTold q_stack_ q_codes q_ones q_top q_deep q_isWhole q_truths_ q_imaged_ q_namesKept_ q_areKept_), (q_tape_, aC0 cy 940 q_tape)]) C hP hD hS 0 14 rfl fT_14 fy_14 (by decide) kF_RX11_184 rfl rfl (Nat.le_of_ble_eq_true rfl) rfl dX11_next_150 (fun H locs hP hD hS => ?_)
                            refine lv_aload_n hx hb dX11_next_153 rfl (lv_at hl 1 rfl) ?_
                            refine lv_dup hx hb dX11_next_154 rfl ?_
                            refine q_get11 (v := .int x_1) C hP 0 4 rfl fT_4 (by decide) kF_RX11_21 rfl dX11_next_155 ?_
                            refine lv_iconst (v := 1) hx hb dX11_next_158 (by decide) ?_
                            refine lv_iadd hx hb dX11_next_159 ?_
                            refine lv_topi (fun z_180 hz_180 => ?_)
                            have hz_180 := o_add hz_180 (rfl : x_1.toInt = x_1.toInt) (by decide : (1 : Int32).toInt = 1) (by omega) (by omega)
                            refine q_put11 (v := .int z_180) (w' := [(q, oC11 q_thrown q_tape_ q_length q_size z_180 q_limit q_s_ q_h_ q_read_ q_names_ q_reserved_ 4 x_1 0 r_10 q_fault q_faultAt q_word q_got q_lines q_onces q_webs q_one q_two q_seed q_undone_ q_before_ q_undoMany q_far_ q_wayRow_ q_wayMany q_keptRow_ q_askedRow_ q_rares_ q_trial_ q_keptMany q_askedMany q_hangs_ q_paths_ q_tornSteps q_hasTorn q_turnOne q_hasTurn q_text_ q_textMany q_toldMany q_toldAt_ q_hasTold q_stack_ q_codes q_ones q_top q_deep q_isWhole q_truths_ q_imaged_ q_namesKept_ q_areKept_), (q_tape_, aC0 cy 940 q_tape)]) C hP hD hS 0 4 rfl fT_4 fy_4 (by decide) kF_RX11_21 rfl rfl (Nat.le_of_ble_eq_true rfl) rfl dX11_next_160 (fun H locs hP hD hS => ?_)
                            refine o_wq hQ ?_
                            exact q_vret (rm := (Rm 1 20 0 0)) C hS (z_180, 4, x_1, 0, r_10, q_word) ⟨(show 0 ≤ z_180.toInt ∧ z_180.toInt ≤ 940 by omega), (show 0 ≤ (0 : Int32).toInt ∧ (0 : Int32).toInt ≤ 940 by decide), (show 0 ≤ r_10.toInt ∧ r_10.toInt ≤ 8214 by omega), (show 0 ≤ z_180.toInt + (-1) * q_p.toInt by have e0 : (0 : Int32).toInt = 0 := (by decide); have e1 : (4 : Int32).toInt = 4 := (by decide); omega), (show Tm (Pk q_tape q_size.toInt) q_size.toInt (lm q_size.toInt q_limit.toInt) (wh blk (Pk q_tape q_size.toInt) q_size.toInt q_p.toInt) (4 : Int32).toInt x_1.toInt r_10.toInt q_word z_180.toInt from (Tm.cast (Tm.sign (by omega) hq_14 (by omega) (by omega) (Or.inr ⟨by omega, by decide⟩) rfl (by omega) rfl) hq_26)), (show (0 ≤ (4 : Int32).toInt + (-3) ∧ 0 ≤ (-1) * (4 : Int32).toInt + 3) → (0 ≤ z_180.toInt + (-1) * q_p.toInt + (-1)) by have e0 : (0 : Int32).toInt = 0 := (by decide); have e1 : (4 : Int32).toInt = 4 := (by decide); omega)⟩ (q_subP hP [0, 1] rfl) (hD.sub [0, 1] (by decide) rfl) hroom.1 hroom.2 dX11_next_163
                          · have hc_179 := o_nlt (by decide : (62 : Int32).toInt = 62) (rfl : r_10.toInt = r_10.toInt) c_179
                            refine lv_iconst (v := 3) hx hb dX11_next_140 (by decide) ?_
                            refine lv_goto (tgt := 145) hx hb dX11_next_141 (by decide) ?_
                            refine q_put11 (v := .int 3) (w' := [(q, oC11 q_thrown q_tape_ q_length q_size x_1 q_limit q_s_ q_h_ q_read_ q_names_ q_reserved_ 3 x_1 0 q_number q_fault q_faultAt q_word q_got q_lines q_onces q_webs q_one q_two q_seed q_undone_ q_before_ q_undoMany q_far_ q_wayRow_ q_wayMany q_keptRow_ q_askedRow_ q_rares_ q_trial_ q_keptMany q_askedMany q_hangs_ q_paths_ q_tornSteps q_hasTorn q_turnOne q_hasTurn q_text_ q_textMany q_toldMany q_toldAt_ q_hasTold q_stack_ q_codes q_ones q_top q_deep q_isWhole q_truths_ q_imaged_ q_namesKept_ q_areKept_), (q_tape_, aC0 cy 940 q_tape)]) C hP hD hS 0 11 rfl fT_11 fy_11 (by decide) kF_RX11_174 rfl rfl (Nat.le_of_ble_eq_true rfl) rfl dX11_next_145 (fun H locs hP hD hS => ?_)
                            refine lv_aload_n hx hb dX11_next_148 rfl (lv_at hl 1 rfl) ?_
                            refine lv_iload_n hx hb dX11_next_149 rfl (lv_at hl 0 rfl) ?_
                            refine q_put11 (v := .int r_10) (w' := [(q, oC11 q_thrown q_tape_ q_length q_size x_1 q_limit q_s_ q_h_ q_read_ q_names_ q_reserved_ 3 x_1 0 r_10 q_fault q_faultAt q_word q_got q_lines q_onces q_webs q_one q_two q_seed q_undone_ q_before_ q_undoMany q_far_ q_wayRow_ q_wayMany q_keptRow_ q_askedRow_ q_rares_ q_trial_ q_keptMany q_askedMany q_hangs_ q_paths_ q_tornSteps q_hasTorn q_turnOne q_hasTurn q_text_ q_textMany q_toldMany q_toldAt_ q_hasTold q_stack_ q_codes q_ones q_top q_deep q_isWhole q_truths_ q_imaged_ q_namesKept_ q_areKept_), (q_tape_, aC0 cy 940 q_tape)]) C hP hD hS 0 14 rfl fT_14 fy_14 (by decide) kF_RX11_184 rfl rfl (Nat.le_of_ble_eq_true rfl) rfl dX11_next_150 (fun H locs hP hD hS => ?_)
                            refine lv_aload_n hx hb dX11_next_153 rfl (lv_at hl 1 rfl) ?_
                            refine lv_dup hx hb dX11_next_154 rfl ?_
                            refine q_get11 (v := .int x_1) C hP 0 4 rfl fT_4 (by decide) kF_RX11_21 rfl dX11_next_155 ?_
                            refine lv_iconst (v := 1) hx hb dX11_next_158 (by decide) ?_
                            refine lv_iadd hx hb dX11_next_159 ?_
                            refine lv_topi (fun z_181 hz_181 => ?_)
                            have hz_181 := o_add hz_181 (rfl : x_1.toInt = x_1.toInt) (by decide : (1 : Int32).toInt = 1) (by omega) (by omega)
                            refine q_put11 (v := .int z_181) (w' := [(q, oC11 q_thrown q_tape_ q_length q_size z_181 q_limit q_s_ q_h_ q_read_ q_names_ q_reserved_ 3 x_1 0 r_10 q_fault q_faultAt q_word q_got q_lines q_onces q_webs q_one q_two q_seed q_undone_ q_before_ q_undoMany q_far_ q_wayRow_ q_wayMany q_keptRow_ q_askedRow_ q_rares_ q_trial_ q_keptMany q_askedMany q_hangs_ q_paths_ q_tornSteps q_hasTorn q_turnOne q_hasTurn q_text_ q_textMany q_toldMany q_toldAt_ q_hasTold q_stack_ q_codes q_ones q_top q_deep q_isWhole q_truths_ q_imaged_ q_namesKept_ q_areKept_), (q_tape_, aC0 cy 940 q_tape)]) C hP hD hS 0 4 rfl fT_4 fy_4 (by decide) kF_RX11_21 rfl rfl (Nat.le_of_ble_eq_true rfl) rfl dX11_next_160 (fun H locs hP hD hS => ?_)
                            refine o_wq hQ ?_
                            exact q_vret (rm := (Rm 1 20 0 0)) C hS (z_181, 3, x_1, 0, r_10, q_word) ⟨(show 0 ≤ z_181.toInt ∧ z_181.toInt ≤ 940 by omega), (show 0 ≤ (0 : Int32).toInt ∧ (0 : Int32).toInt ≤ 940 by decide), (show 0 ≤ r_10.toInt ∧ r_10.toInt ≤ 8214 by omega), (show 0 ≤ z_181.toInt + (-1) * q_p.toInt by have e0 : (0 : Int32).toInt = 0 := (by decide); have e1 : (3 : Int32).toInt = 3 := (by decide); omega), (show Tm (Pk q_tape q_size.toInt) q_size.toInt (lm q_size.toInt q_limit.toInt) (wh blk (Pk q_tape q_size.toInt) q_size.toInt q_p.toInt) (3 : Int32).toInt x_1.toInt r_10.toInt q_word z_181.toInt from (Tm.cast (Tm.sign (by omega) hq_14 (by omega) (by omega) (Or.inl ⟨by omega, by decide⟩) rfl (by omega) rfl) hq_26)), (show (0 ≤ (3 : Int32).toInt + (-3) ∧ 0 ≤ (-1) * (3 : Int32).toInt + 3) → (0 ≤ z_181.toInt + (-1) * q_p.toInt + (-1)) by have e0 : (0 : Int32).toInt = 0 := (by decide); have e1 : (3 : Int32).toInt = 3 := (by decide); omega)⟩ (q_subP hP [0, 1] rfl) (hD.sub [0, 1] (by decide) rfl) hroom.1 hroom.2 dX11_next_163
            · have hc_36 := o_nle (by decide : (0 : Int32).toInt = 0) (rfl : r_10.toInt = r_10.toInt) c_36
              clear hp_13
              refine lv_aload_n hx hb dX11_next_89 rfl (lv_at hl 1 rfl) ?_
              refine lv_iconst (v := 0) hx hb dX11_next_90 (by decide) ?_
              refine q_put11 (v := .int 0) (w' := [(q, oC11 q_thrown q_tape_ q_length q_size x_1 q_limit q_s_ q_h_ q_read_ q_names_ q_reserved_ 0 x_1 0 q_number q_fault q_faultAt q_word q_got q_lines q_onces q_webs q_one q_two q_seed q_undone_ q_before_ q_undoMany q_far_ q_wayRow_ q_wayMany q_keptRow_ q_askedRow_ q_rares_ q_trial_ q_keptMany q_askedMany q_hangs_ q_paths_ q_tornSteps q_hasTorn q_turnOne q_hasTurn q_text_ q_textMany q_toldMany q_toldAt_ q_hasTold q_stack_ q_codes q_ones q_top q_deep q_isWhole q_truths_ q_imaged_ q_namesKept_ q_areKept_), (q_tape_, aC0 cy 940 q_tape)]) C hP hD hS 0 11 rfl fT_11 fy_11 (by decide) kF_RX11_174 rfl rfl (Nat.le_of_ble_eq_true rfl) rfl dX11_next_91 (fun H locs hP hD hS => ?_)
              refine o_wq hQ ?_
              exact q_vret (rm := (Rm 1 20 0 0)) C hS (x_1, 0, x_1, 0, q_number, q_word) ⟨(show 0 ≤ x_1.toInt ∧ x_1.toInt ≤ 940 by omega), (show 0 ≤ (0 : Int32).toInt ∧ (0 : Int32).toInt ≤ 940 by decide), (show 0 ≤ q_number.toInt ∧ q_number.toInt ≤ 8214 by omega), (show 0 ≤ x_1.toInt + (-1) * q_p.toInt by have e0 : (0 : Int32).toInt = 0 := (by decide); omega), (show Tm (Pk q_tape q_size.toInt) q_size.toInt (lm q_size.toInt q_limit.toInt) (wh blk (Pk q_tape q_size.toInt) q_size.toInt q_p.toInt) (0 : Int32).toInt x_1.toInt q_number.toInt q_word x_1.toInt from (Tm.cast (Tm.stop (by omega) (by rw [hq_14]; omega) (by decide) rfl rfl) hq_26)), (show (0 ≤ (0 : Int32).toInt + (-3) ∧ 0 ≤ (-1) * (0 : Int32).toInt + 3) → (0 ≤ x_1.toInt + (-1) * q_p.toInt + (-1)) by have e0 : (0 : Int32).toInt = 0 := (by decide); omega)⟩ (q_subP hP [0, 1] rfl) (hD.sub [0, 1] (by decide) rfl) hroom.1 hroom.2 dX11_next_94
          refine lv_icmp_le (tgt := 80) hx hb dX11_next_52 (by decide) (fun c_182 => ?_) (fun c_182 => ?_)
          · have hc_182 := o_le (rfl : q_size.toInt = q_size.toInt) (rfl : q_limit.toInt = q_limit.toInt) c_182
            exact cut_80_27  H locs ls  (by omega) hP hD hS (lv_sub hl [0] rfl)
          · have hc_182 := o_nle (rfl : q_size.toInt = q_size.toInt) (rfl : q_limit.toInt = q_limit.toInt) c_182
            refine lv_aload_n hx hb dX11_next_55 rfl (lv_at hl 0 rfl) ?_
            refine q_get11 (v := .int x_1) C hP 0 4 rfl fT_4 (by decide) kF_RX11_21 rfl dX11_next_56 ?_
            refine lv_aload_n hx hb dX11_next_59 rfl (lv_at hl 0 rfl) ?_
            refine q_get11 (v := .int q_limit) C hP 0 5 rfl fT_5 (by decide) kF_RX11_24 rfl dX11_next_60 ?_
            refine lv_icmp_lt (tgt := 80) hx hb dX11_next_63 (by decide) (fun c_183 => ?_) (fun c_183 => ?_)
            · have hc_183 := o_lt (rfl : x_1.toInt = x_1.toInt) (rfl : q_limit.toInt = q_limit.toInt) c_183
              exact cut_80_27  H locs ls  (by omega) hP hD hS (lv_sub hl [0] rfl)
            · have hc_183 := o_nlt (rfl : x_1.toInt = x_1.toInt) (rfl : q_limit.toInt = q_limit.toInt) c_183
              refine lv_aload_n hx hb dX11_next_66 rfl (lv_at hl 0 rfl) ?_
              refine lv_aload_n hx hb dX11_next_67 rfl (lv_at hl 0 rfl) ?_
              refine q_get11 (v := .int q_limit) C hP 0 5 rfl fT_5 (by decide) kF_RX11_24 rfl dX11_next_68 ?_
              refine q_put11 (v := .int q_limit) (w' := [(q, oC11 q_thrown q_tape_ q_length q_size x_1 q_limit q_s_ q_h_ q_read_ q_names_ q_reserved_ q_token q_limit 0 q_number q_fault q_faultAt q_word q_got q_lines q_onces q_webs q_one q_two q_seed q_undone_ q_before_ q_undoMany q_far_ q_wayRow_ q_wayMany q_keptRow_ q_askedRow_ q_rares_ q_trial_ q_keptMany q_askedMany q_hangs_ q_paths_ q_tornSteps q_hasTorn q_turnOne q_hasTurn q_text_ q_textMany q_toldMany q_toldAt_ q_hasTold q_stack_ q_codes q_ones q_top q_deep q_isWhole q_truths_ q_imaged_ q_namesKept_ q_areKept_), (q_tape_, aC0 cy 940 q_tape)]) C hP hD hS 0 12 rfl fT_12 fy_12 (by decide) kF_RX11_168 rfl rfl (Nat.le_of_ble_eq_true rfl) rfl dX11_next_71 (fun H locs hP hD hS => ?_)
              refine lv_aload_n hx hb dX11_next_74 rfl (lv_at hl 0 rfl) ?_
              refine lv_iconst (v := 4) hx hb dX11_next_75 (by decide) ?_
              refine q_put11 (v := .int 4) (w' := [(q, oC11 q_thrown q_tape_ q_length q_size x_1 q_limit q_s_ q_h_ q_read_ q_names_ q_reserved_ 4 q_limit 0 q_number q_fault q_faultAt q_word q_got q_lines q_onces q_webs q_one q_two q_seed q_undone_ q_before_ q_undoMany q_far_ q_wayRow_ q_wayMany q_keptRow_ q_askedRow_ q_rares_ q_trial_ q_keptMany q_askedMany q_hangs_ q_paths_ q_tornSteps q_hasTorn q_turnOne q_hasTurn q_text_ q_textMany q_toldMany q_toldAt_ q_hasTold q_stack_ q_codes q_ones q_top q_deep q_isWhole q_truths_ q_imaged_ q_namesKept_ q_areKept_), (q_tape_, aC0 cy 940 q_tape)]) C hP hD hS 0 11 rfl fT_11 fy_11 (by decide) kF_RX11_174 rfl rfl (Nat.le_of_ble_eq_true rfl) rfl dX11_next_76 (fun H locs hP hD hS => ?_)
              refine o_wq hQ ?_
              exact q_vret (rm := (Rm 1 20 0 0)) C hS (x_1, 4, q_limit, 0, q_number, q_word) ⟨(show 0 ≤ x_1.toInt ∧ x_1.toInt ≤ 940 by omega), (show 0 ≤ (0 : Int32).toInt ∧ (0 : Int32).toInt ≤ 940 by decide), (show 0 ≤ q_number.toInt ∧ q_number.toInt ≤ 8214 by omega), (show 0 ≤ x_1.toInt + (-1) * q_p.toInt by have e0 : (0 : Int32).toInt = 0 := (by decide); have e1 : (4 : Int32).toInt = 4 := (by decide); omega), (show Tm (Pk q_tape q_size.toInt) q_size.toInt (lm q_size.toInt q_limit.toInt) (wh blk (Pk q_tape q_size.toInt) q_size.toInt q_p.toInt) (4 : Int32).toInt q_limit.toInt q_number.toInt q_word x_1.toInt from (Tm.cast (Tm.over (by omega) (by omega) (by decide) (by omega) rfl) hq_26)), (show (0 ≤ (4 : Int32).toInt + (-3) ∧ 0 ≤ (-1) * (4 : Int32).toInt + 3) → (0 ≤ x_1.toInt + (-1) * q_p.toInt + (-1)) by have e0 : (0 : Int32).toInt = 0 := (by decide); have e1 : (4 : Int32).toInt = 4 := (by decide); omega)⟩ (q_subP hP [0, 1] rfl) (hD.sub [0, 1] (by decide) rfl) hroom.1 hroom.2 dX11_next_79
        · have hc_25 := o_eq (rfl : r_10.toInt = r_10.toInt) (by decide : (10 : Int32).toInt = 10) c_25
          replace hp_13 := Hd.un hp_13 (by omega)
          refine lv_aload_n hx hb dX11_next_18 rfl (lv_at hl 0 rfl) ?_
          refine lv_dup hx hb dX11_next_19 rfl ?_
          refine q_get11 (v := .int x_1) C hP 0 4 rfl fT_4 (by decide) kF_RX11_21 rfl dX11_next_20 ?_
          refine lv_iconst (v := 1) hx hb dX11_next_23 (by decide) ?_
          refine lv_iadd hx hb dX11_next_24 ?_
          refine lv_topi (fun z_184 hz_184 => ?_)
          have hz_184 := o_add hz_184 (rfl : x_1.toInt = x_1.toInt) (by decide : (1 : Int32).toInt = 1) (by omega) (by omega)
          refine q_put11 (v := .int z_184) (w' := [(q, oC11 q_thrown q_tape_ q_length q_size z_184 q_limit q_s_ q_h_ q_read_ q_names_ q_reserved_ q_token q_at q_span q_number q_fault q_faultAt q_word q_got q_lines q_onces q_webs q_one q_two q_seed q_undone_ q_before_ q_undoMany q_far_ q_wayRow_ q_wayMany q_keptRow_ q_askedRow_ q_rares_ q_trial_ q_keptMany q_askedMany q_hangs_ q_paths_ q_tornSteps q_hasTorn q_turnOne q_hasTurn q_text_ q_textMany q_toldMany q_toldAt_ q_hasTold q_stack_ q_codes q_ones q_top q_deep q_isWhole q_truths_ q_imaged_ q_namesKept_ q_areKept_), (q_tape_, aC0 cy 940 q_tape)]) C hP hD hS 0 4 rfl fT_4 fy_4 (by decide) kF_RX11_21 rfl rfl (Nat.le_of_ble_eq_true rfl) rfl dX11_next_25 (fun H locs hP hD hS => ?_)
          have hq_184 : wh blk (Pk q_tape q_size.toInt) q_size.toInt q_p.toInt = wh blk (Pk q_tape q_size.toInt) q_size.toInt z_184.toInt := wh_next hf_5 (by omega) (by unfold blk; rw [hq_14]; exact decide_eq_true (by omega)) (by omega)
          refine lv_goto (tgt := 0) hx hb dX11_next_28 (by decide) ?_
          exact ih_7 z_184 H locs ls (by omega) (by omega) (by omega) hq_184 hP hD hS (lv_sub hl [0] rfl)
  exact lp_0_1 (((-1) * q_p.toInt + 940 : Int).toNat + 1) q_p H locs ls (by omega) (by omega) (by omega) rfl hP hD hS (lv_sub hl [0] rfl)
theorem y_next (l : Launch) (D : va_G) (cy : Nat → ClassId) (q : Nat) (q_thrown : Int32) (q_tape_ : Nat) (q_length : Int32) (q_size : Int32) (q_p : Int32) (q_limit : Int32) (q_s_ : Nat) (q_h_ : Nat) (q_read_ : Nat) (q_names_ : Nat) (q_reserved_ : Nat) (q_token : Int32) (q_at : Int32) (q_span : Int32) (q_number : Int32) (q_fault : Int32) (q_faultAt : Int32) (q_word : Int64) (q_got : Int32) (q_lines : Int32) (q_onces : Int32) (q_webs : Int32) (q_one : Int32) (q_two : Int32) (q_seed : Int32) (q_undone_ : Nat) (q_before_ : Nat) (q_undoMany : Int32) (q_far_ : Nat) (q_wayRow_ : Nat) (q_wayMany : Int32) (q_keptRow_ : Nat) (q_askedRow_ : Nat) (q_rares_ : Nat) (q_trial_ : Nat) (q_keptMany : Int32) (q_askedMany : Int32) (q_hangs_ : Nat) (q_paths_ : Nat) (q_tornSteps : Int32) (q_hasTorn : Int32) (q_turnOne : Int32) (q_hasTurn : Int32) (q_text_ : Nat) (q_textMany : Int32) (q_toldMany : Int32) (q_toldAt_ : Nat) (q_hasTold : Int32) (q_stack_ : Nat) (q_codes : Int32) (q_ones : Int32) (q_top : Int32) (q_deep : Int32) (q_isWhole : Int32) (q_truths_ : Nat) (q_imaged_ : Nat) (q_namesKept_ : Nat) (q_areKept_ : Nat) (q_tape : Nat → Int32) (sz : Nat) (hb0 : 0 ≤ q_length.toInt ∧ q_length.toInt ≤ 940) (hb1 : 0 ≤ q_size.toInt ∧ q_size.toInt ≤ 940) (hb2 : 0 ≤ q_p.toInt ∧ q_p.toInt ≤ 940) (hb3 : 0 ≤ q_limit.toInt ∧ q_limit.toInt ≤ 940) (hb4 : 0 ≤ q_span.toInt ∧ q_span.toInt ≤ 940) (hb5 : 0 ≤ q_number.toInt ∧ q_number.toInt ≤ 8214) (hb6 : (-1) ≤ q_got.toInt ∧ q_got.toInt ≤ 8214) (hb7 : 0 ≤ q_one.toInt ∧ q_one.toInt ≤ 7) (hb8 : 0 ≤ q_two.toInt ∧ q_two.toInt ≤ 7) (hb9 : 0 ≤ q_undoMany.toInt ∧ q_undoMany.toInt ≤ 8) (hb10 : (-1) ≤ q_wayMany.toInt ∧ q_wayMany.toInt ≤ 8) (hb11 : (-1) ≤ q_keptMany.toInt ∧ q_keptMany.toInt ≤ 8) (hb12 : (-1) ≤ q_askedMany.toInt ∧ q_askedMany.toInt ≤ 3) (hb13 : 0 ≤ q_hasTorn.toInt ∧ q_hasTorn.toInt ≤ 1) (hb14 : 0 ≤ q_hasTurn.toInt ∧ q_hasTurn.toInt ≤ 1) (hb15 : 0 ≤ q_textMany.toInt ∧ q_textMany.toInt ≤ 48) (hb16 : 0 ≤ q_toldMany.toInt ∧ q_toldMany.toInt ≤ 40) (hb17 : 0 ≤ q_hasTold.toInt ∧ q_hasTold.toInt ≤ 1) (hb18 : 0 ≤ q_codes.toInt ∧ q_codes.toInt ≤ 40) (hb19 : 0 ≤ q_ones.toInt ∧ q_ones.toInt ≤ 20) (hb20 : 0 ≤ q_top.toInt ∧ q_top.toInt ≤ 40) (hb21 : 0 ≤ q_isWhole.toInt ∧ q_isWhole.toInt ≤ 1) : MV l yX11_next cX11_next 4 (Rm 1 20 0 0) D cy [.ref q] sz [(q, oC11 q_thrown q_tape_ q_length q_size q_p q_limit q_s_ q_h_ q_read_ q_names_ q_reserved_ q_token q_at q_span q_number q_fault q_faultAt q_word q_got q_lines q_onces q_webs q_one q_two q_seed q_undone_ q_before_ q_undoMany q_far_ q_wayRow_ q_wayMany q_keptRow_ q_askedRow_ q_rares_ q_trial_ q_keptMany q_askedMany q_hangs_ q_paths_ q_tornSteps q_hasTorn q_turnOne q_hasTurn q_text_ q_textMany q_toldMany q_toldAt_ q_hasTold q_stack_ q_codes q_ones q_top q_deep q_isWhole q_truths_ q_imaged_ q_namesKept_ q_areKept_), (q_tape_, aC0 cy 940 q_tape)] (fun u : Int32 × Int32 × Int32 × Int32 × Int32 × Int64 => (0 ≤ u.1.toInt ∧ u.1.toInt ≤ 940) ∧ (0 ≤ u.2.2.2.1.toInt ∧ u.2.2.2.1.toInt ≤ 940) ∧ (0 ≤ u.2.2.2.2.1.toInt ∧ u.2.2.2.2.1.toInt ≤ 8214) ∧ (0 ≤ u.1.toInt + (-1) * q_p.toInt) ∧ (Tm (Pk q_tape q_size.toInt) q_size.toInt (lm q_size.toInt q_limit.toInt) (wh blk (Pk q_tape q_size.toInt) q_size.toInt q_p.toInt) u.2.1.toInt u.2.2.1.toInt u.2.2.2.2.1.toInt u.2.2.2.2.2 u.1.toInt) ∧ ((0 ≤ u.2.1.toInt + (-3) ∧ 0 ≤ (-1) * u.2.1.toInt + 3) → (0 ≤ u.1.toInt + (-1) * q_p.toInt + (-1)))) (fun u : Int32 × Int32 × Int32 × Int32 × Int32 × Int64 => [(q, oC11 q_thrown q_tape_ q_length q_size u.1 q_limit q_s_ q_h_ q_read_ q_names_ q_reserved_ u.2.1 u.2.2.1 u.2.2.2.1 u.2.2.2.2.1 q_fault q_faultAt u.2.2.2.2.2 q_got q_lines q_onces q_webs q_one q_two q_seed q_undone_ q_before_ q_undoMany q_far_ q_wayRow_ q_wayMany q_keptRow_ q_askedRow_ q_rares_ q_trial_ q_keptMany q_askedMany q_hangs_ q_paths_ q_tornSteps q_hasTorn q_turnOne q_hasTurn q_text_ q_textMany q_toldMany q_toldAt_ q_hasTold q_stack_ q_codes q_ones q_top q_deep q_isWhole q_truths_ q_imaged_ q_namesKept_ q_areKept_), (q_tape_, aC0 cy 940 q_tape)]) := by
  refine MV.enter (by decide) (Nat.le_of_ble_eq_true rfl) ?_
  intro p e s m below meth c ls A hsz hAe C hP hD hS hl
  exact b_y_next l D cy q q_thrown q_tape_ q_length q_size q_p q_limit q_s_ q_h_ q_read_ q_names_ q_reserved_ q_token q_at q_span q_number q_fault q_faultAt q_word q_got q_lines q_onces q_webs q_one q_two q_seed q_undone_ q_before_ q_undoMany q_far_ q_wayRow_ q_wayMany q_keptRow_ q_askedRow_ q_rares_ q_trial_ q_keptMany q_askedMany q_hangs_ q_paths_ q_tornSteps q_hasTorn q_turnOne q_hasTurn q_text_ q_textMany q_toldMany q_toldAt_ q_hasTold q_stack_ q_codes q_ones q_top q_deep q_isWhole q_truths_ q_imaged_ q_namesKept_ q_areKept_ q_tape hb0 hb1 hb2 hb3 hb4 hb5 hb6 hb7 hb8 hb9 hb10 hb11 hb12 hb13 hb14 hb15 hb16 hb17 hb18 hb19 hb20 hb21 ⟨Nat.le_of_ble_eq_true rfl, Nat.le_of_ble_eq_true rfl⟩ C rfl _ _ ls hP hD hS hl
