theorem dX7_booksSaid_0 : decode cX7_booksSaid 0 = .ok (.iconst 1, 1) := by decide +kernel
theorem dX7_booksSaid_1 : decode cX7_booksSaid 1 = .ok (.aload_n 1, 1) := by decide +kernel
theorem dX7_booksSaid_2 : decode cX7_booksSaid 2 = .ok (.getfield 103, 3) := by decide +kernel
theorem dX7_booksSaid_5 : decode cX7_booksSaid 5 = .ok (.ishl, 1) := by decide +kernel
theorem dX7_booksSaid_6 : decode cX7_booksSaid 6 = .ok (.iconst 1, 1) := by decide +kernel
theorem dX7_booksSaid_7 : decode cX7_booksSaid 7 = .ok (.isub, 1) := by decide +kernel
theorem dX7_booksSaid_8 : decode cX7_booksSaid 8 = .ok (.istore_n 3, 1) := by decide +kernel
theorem dX7_booksSaid_9 : decode cX7_booksSaid 9 = .ok (.iconst 0, 1) := by decide +kernel
theorem dX7_booksSaid_10 : decode cX7_booksSaid 10 = .ok (.istore 4, 2) := by decide +kernel
theorem dX7_booksSaid_12 : decode cX7_booksSaid 12 = .ok (.iconst 0, 1) := by decide +kernel
theorem dX7_booksSaid_13 : decode cX7_booksSaid 13 = .ok (.istore 5, 2) := by decide +kernel
theorem dX7_booksSaid_15 : decode cX7_booksSaid 15 = .ok (.iload 5, 2) := by decide +kernel
theorem dX7_booksSaid_17 : decode cX7_booksSaid 17 = .ok (.aload_n 0, 1) := by decide +kernel
theorem dX7_booksSaid_18 : decode cX7_booksSaid 18 = .ok (.getfield 19, 3) := by decide +kernel
theorem dX7_booksSaid_21 : decode cX7_booksSaid 21 = .ok (.if_icmp .ge 164, 3) := by decide +kernel
theorem dX7_booksSaid_185 : decode cX7_booksSaid 185 = .ok (.aload_n 0, 1) := by decide +kernel
theorem dX7_booksSaid_186 : decode cX7_booksSaid 186 = .ok (.getfield 32, 3) := by decide +kernel
theorem kF_RX7_32 : Cond.fieldLink RX7 32 "CobwebLibrary$Sentence" "stack" "[I" ∈ gT := List.mem_filter.mpr ⟨List.mem_of_getElem? (i := 426) (by decide +kernel), by decide +kernel⟩
theorem dX7_booksSaid_189 : decode cX7_booksSaid 189 = .ok (.iconst 0, 1) := by decide +kernel
theorem dX7_booksSaid_190 : decode cX7_booksSaid 190 = .ok (.iaload, 1) := by decide +kernel
theorem dX7_booksSaid_191 : decode cX7_booksSaid 191 = .ok (.iload_n 3, 1) := by decide +kernel
theorem dX7_booksSaid_192 : decode cX7_booksSaid 192 = .ok (.iand, 1) := by decide +kernel
theorem dX7_booksSaid_193 : decode cX7_booksSaid 193 = .ok (.ireturn, 1) := by decide +kernel
theorem dX7_booksSaid_24 : decode cX7_booksSaid 24 = .ok (.aload_n 0, 1) := by decide +kernel
theorem dX7_booksSaid_25 : decode cX7_booksSaid 25 = .ok (.getfield 22, 3) := by decide +kernel
theorem dX7_booksSaid_28 : decode cX7_booksSaid 28 = .ok (.iload 5, 2) := by decide +kernel
theorem dX7_booksSaid_30 : decode cX7_booksSaid 30 = .ok (.iaload, 1) := by decide +kernel
theorem dX7_booksSaid_31 : decode cX7_booksSaid 31 = .ok (.istore 6, 2) := by decide +kernel
theorem dX7_booksSaid_33 : decode cX7_booksSaid 33 = .ok (.iload 6, 2) := by decide +kernel
theorem dX7_booksSaid_35 : decode cX7_booksSaid 35 = .ok (.bipush 17, 2) := by decide +kernel
theorem dX7_booksSaid_37 : decode cX7_booksSaid 37 = .ok (.if_icmp .ne 34, 3) := by decide +kernel
theorem dX7_booksSaid_71 : decode cX7_booksSaid 71 = .ok (.iload 6, 2) := by decide +kernel
theorem dX7_booksSaid_73 : decode cX7_booksSaid 73 = .ok (.bipush 16, 2) := by decide +kernel
theorem dX7_booksSaid_154 : decode cX7_booksSaid 154 = .ok (.iload 4, 2) := by decide +kernel
theorem dX7_booksSaid_156 : decode cX7_booksSaid 156 = .ok (.bipush 40, 2) := by decide +kernel
theorem dX7_booksSaid_158 : decode cX7_booksSaid 158 = .ok (.if_icmp .ge 21, 3) := by decide +kernel
theorem dX7_booksSaid_179 : decode cX7_booksSaid 179 = .ok (.iinc 5 1, 3) := by decide +kernel
theorem dX7_booksSaid_182 : decode cX7_booksSaid 182 = .ok (.goto (-167), 3) := by decide +kernel
theorem dX7_booksSaid_161 : decode cX7_booksSaid 161 = .ok (.aload_n 0, 1) := by decide +kernel
theorem dX7_booksSaid_162 : decode cX7_booksSaid 162 = .ok (.getfield 32, 3) := by decide +kernel
theorem dX7_booksSaid_165 : decode cX7_booksSaid 165 = .ok (.iload 4, 2) := by decide +kernel
theorem dX7_booksSaid_167 : decode cX7_booksSaid 167 = .ok (.aload_n 0, 1) := by decide +kernel
theorem dX7_booksSaid_168 : decode cX7_booksSaid 168 = .ok (.aload_n 1, 1) := by decide +kernel
theorem dX7_booksSaid_169 : decode cX7_booksSaid 169 = .ok (.aload_n 2, 1) := by decide +kernel
theorem dX7_booksSaid_170 : decode cX7_booksSaid 170 = .ok (.iload 5, 2) := by decide +kernel
theorem dX7_booksSaid_172 : decode cX7_booksSaid 172 = .ok (.invokevirtual 106, 3) := by decide +kernel
theorem kwV_X7_booksOfTest : MwV RX7 yX7_booksOfTest cX7_booksOfTest 4 (some .int) 3 := ⟨List.mem_filter.mpr ⟨List.mem_of_getElem? (i := 916) (by decide +kernel), by decide +kernel⟩, List.mem_filter.mpr ⟨List.mem_of_getElem? (i := 915) (by decide +kernel), by decide +kernel⟩, List.mem_filter.mpr ⟨List.mem_of_getElem? (i := 17) (by decide +kernel), by decide +kernel⟩, List.mem_filter.mpr ⟨List.mem_of_getElem? (i := 134) (by decide +kernel), by decide +kernel⟩, by decide +kernel⟩
theorem kM_RX7_106 : Cond.methodLink RX7 106 yX7_booksOfTest ∈ gT := List.mem_filter.mpr ⟨List.mem_of_getElem? (i := 913) (by decide +kernel), by decide +kernel⟩
theorem dX7_booksSaid_175 : decode cX7_booksSaid 175 = .ok (.iastore, 1) := by decide +kernel
theorem dX7_booksSaid_176 : decode cX7_booksSaid 176 = .ok (.iinc 4 1, 3) := by decide +kernel
theorem dX7_booksSaid_85 : decode cX7_booksSaid 85 = .ok (.iload 4, 2) := by decide +kernel
theorem dX7_booksSaid_87 : decode cX7_booksSaid 87 = .ok (.iconst 2, 1) := by decide +kernel
theorem dX7_booksSaid_88 : decode cX7_booksSaid 88 = .ok (.if_icmp .lt 66, 3) := by decide +kernel
theorem dX7_booksSaid_91 : decode cX7_booksSaid 91 = .ok (.iinc 4 (-1), 3) := by decide +kernel
theorem dX7_booksSaid_94 : decode cX7_booksSaid 94 = .ok (.aload_n 0, 1) := by decide +kernel
theorem dX7_booksSaid_95 : decode cX7_booksSaid 95 = .ok (.getfield 32, 3) := by decide +kernel
theorem dX7_booksSaid_98 : decode cX7_booksSaid 98 = .ok (.iload 4, 2) := by decide +kernel
theorem dX7_booksSaid_100 : decode cX7_booksSaid 100 = .ok (.iconst 1, 1) := by decide +kernel
theorem dX7_booksSaid_101 : decode cX7_booksSaid 101 = .ok (.isub, 1) := by decide +kernel
theorem dX7_booksSaid_102 : decode cX7_booksSaid 102 = .ok (.iaload, 1) := by decide +kernel
theorem dX7_booksSaid_103 : decode cX7_booksSaid 103 = .ok (.aload_n 0, 1) := by decide +kernel
theorem dX7_booksSaid_104 : decode cX7_booksSaid 104 = .ok (.getfield 32, 3) := by decide +kernel
theorem dX7_booksSaid_107 : decode cX7_booksSaid 107 = .ok (.iload 4, 2) := by decide +kernel
theorem dX7_booksSaid_109 : decode cX7_booksSaid 109 = .ok (.iaload, 1) := by decide +kernel
theorem dX7_booksSaid_110 : decode cX7_booksSaid 110 = .ok (.iand, 1) := by decide +kernel
theorem dX7_booksSaid_111 : decode cX7_booksSaid 111 = .ok (.istore 7, 2) := by decide +kernel
theorem dX7_booksSaid_113 : decode cX7_booksSaid 113 = .ok (.aload_n 0, 1) := by decide +kernel
theorem dX7_booksSaid_114 : decode cX7_booksSaid 114 = .ok (.getfield 32, 3) := by decide +kernel
theorem dX7_booksSaid_117 : decode cX7_booksSaid 117 = .ok (.iload 4, 2) := by decide +kernel
theorem dX7_booksSaid_119 : decode cX7_booksSaid 119 = .ok (.iconst 1, 1) := by decide +kernel
theorem dX7_booksSaid_120 : decode cX7_booksSaid 120 = .ok (.isub, 1) := by decide +kernel
theorem dX7_booksSaid_121 : decode cX7_booksSaid 121 = .ok (.iload 6, 2) := by decide +kernel
theorem dX7_booksSaid_123 : decode cX7_booksSaid 123 = .ok (.bipush 16, 2) := by decide +kernel
theorem dX7_booksSaid_125 : decode cX7_booksSaid 125 = .ok (.if_icmp .ne 8, 3) := by decide +kernel
theorem dX7_booksSaid_133 : decode cX7_booksSaid 133 = .ok (.aload_n 0, 1) := by decide +kernel
theorem dX7_booksSaid_134 : decode cX7_booksSaid 134 = .ok (.getfield 32, 3) := by decide +kernel
theorem dX7_booksSaid_137 : decode cX7_booksSaid 137 = .ok (.iload 4, 2) := by decide +kernel
theorem dX7_booksSaid_139 : decode cX7_booksSaid 139 = .ok (.iconst 1, 1) := by decide +kernel
theorem dX7_booksSaid_140 : decode cX7_booksSaid 140 = .ok (.isub, 1) := by decide +kernel
theorem dX7_booksSaid_141 : decode cX7_booksSaid 141 = .ok (.iaload, 1) := by decide +kernel
theorem dX7_booksSaid_142 : decode cX7_booksSaid 142 = .ok (.aload_n 0, 1) := by decide +kernel
theorem dX7_booksSaid_143 : decode cX7_booksSaid 143 = .ok (.getfield 32, 3) := by decide +kernel
theorem dX7_booksSaid_146 : decode cX7_booksSaid 146 = .ok (.iload 4, 2) := by decide +kernel
theorem dX7_booksSaid_148 : decode cX7_booksSaid 148 = .ok (.iaload, 1) := by decide +kernel
theorem dX7_booksSaid_149 : decode cX7_booksSaid 149 = .ok (.ior, 1) := by decide +kernel
theorem dX7_booksSaid_150 : decode cX7_booksSaid 150 = .ok (.iastore, 1) := by decide +kernel
theorem dX7_booksSaid_151 : decode cX7_booksSaid 151 = .ok (.goto 28, 3) := by decide +kernel
theorem dX7_booksSaid_128 : decode cX7_booksSaid 128 = .ok (.iload 7, 2) := by decide +kernel
theorem dX7_booksSaid_130 : decode cX7_booksSaid 130 = .ok (.goto 20, 3) := by decide +kernel
theorem dX7_booksSaid_75 : decode cX7_booksSaid 75 = .ok (.if_icmp .eq 10, 3) := by decide +kernel
theorem dX7_booksSaid_78 : decode cX7_booksSaid 78 = .ok (.iload 6, 2) := by decide +kernel
theorem dX7_booksSaid_80 : decode cX7_booksSaid 80 = .ok (.bipush 15, 2) := by decide +kernel
theorem dX7_booksSaid_82 : decode cX7_booksSaid 82 = .ok (.if_icmp .ne 72, 3) := by decide +kernel
theorem dX7_booksSaid_40 : decode cX7_booksSaid 40 = .ok (.iload 4, 2) := by decide +kernel
theorem dX7_booksSaid_42 : decode cX7_booksSaid 42 = .ok (.iconst 1, 1) := by decide +kernel
theorem dX7_booksSaid_43 : decode cX7_booksSaid 43 = .ok (.if_icmp .lt 28, 3) := by decide +kernel
theorem dX7_booksSaid_46 : decode cX7_booksSaid 46 = .ok (.aload_n 0, 1) := by decide +kernel
theorem dX7_booksSaid_47 : decode cX7_booksSaid 47 = .ok (.getfield 32, 3) := by decide +kernel
theorem dX7_booksSaid_50 : decode cX7_booksSaid 50 = .ok (.iload 4, 2) := by decide +kernel
theorem dX7_booksSaid_52 : decode cX7_booksSaid 52 = .ok (.iconst 1, 1) := by decide +kernel
theorem dX7_booksSaid_53 : decode cX7_booksSaid 53 = .ok (.isub, 1) := by decide +kernel
theorem dX7_booksSaid_54 : decode cX7_booksSaid 54 = .ok (.iload_n 3, 1) := by decide +kernel
theorem dX7_booksSaid_55 : decode cX7_booksSaid 55 = .ok (.aload_n 0, 1) := by decide +kernel
theorem dX7_booksSaid_56 : decode cX7_booksSaid 56 = .ok (.getfield 32, 3) := by decide +kernel
theorem dX7_booksSaid_59 : decode cX7_booksSaid 59 = .ok (.iload 4, 2) := by decide +kernel
theorem dX7_booksSaid_61 : decode cX7_booksSaid 61 = .ok (.iconst 1, 1) := by decide +kernel
theorem dX7_booksSaid_62 : decode cX7_booksSaid 62 = .ok (.isub, 1) := by decide +kernel
theorem dX7_booksSaid_63 : decode cX7_booksSaid 63 = .ok (.iaload, 1) := by decide +kernel
theorem dX7_booksSaid_64 : decode cX7_booksSaid 64 = .ok (.iconst (-1), 1) := by decide +kernel
theorem dX7_booksSaid_65 : decode cX7_booksSaid 65 = .ok (.ixor, 1) := by decide +kernel
theorem dX7_booksSaid_66 : decode cX7_booksSaid 66 = .ok (.iand, 1) := by decide +kernel
theorem dX7_booksSaid_67 : decode cX7_booksSaid 67 = .ok (.iastore, 1) := by decide +kernel
theorem dX7_booksSaid_68 : decode cX7_booksSaid 68 = .ok (.goto 111, 3) := by decide +kernel
set_option maxHeartbeats 4000000 in
set_option maxRecDepth 100000 in
theorem b_o_booksSaid (l : Launch) (D : va_G) (cy : Nat → ClassId) (j : Nat) (h : Nat) (k : Nat) (j_isTold : Int32) (j_ones : Int32) (j_size : Int32) (j_words_ : Nat) (j_signs_ : Nat) (j_values_ : Nat) (j_stack_ : Nat) (j_words : Nat → Int32) (j_signs : Nat → Int32) (j_values : Nat → Int32) (j_stack : Nat → Int32) (h_wide : Int32) (h_high : Int32) (h_law : Int32) (h_spin : Int32) (h_line : Int32) (h_draught : Int32) (h_books : Int32) (h_rare : Int32) (h_quarrels_ : Nat) (h_nameSizes_ : Nat) (h_names_ : Nat) (h_quarrels : Nat → Int32) (h_nameSizes : Nat → Int32) (h_names : Nat → Int32) (k_x_ : Nat) (k_y_ : Nat) (k_web_ : Nat) (k_asks_ : Nat) (k_threads_ : Nat) (k_today : Int32) (k_day : Int32) (k_seen_ : Nat) (k_x : Nat → Int32) (k_y : Nat → Int32) (k_web : Nat → Int32) (k_asks : Nat → Int32) (k_threads : Nat → Int32) (k_seen : Nat → Int32) (hb0 : 0 ≤ j_isTold.toInt ∧ j_isTold.toInt ≤ 1) (hb1 : 0 ≤ j_size.toInt ∧ j_size.toInt ≤ 40) (hb2 : 0 ≤ h_wide.toInt ∧ h_wide.toInt ≤ 6) (hb3 : 0 ≤ h_high.toInt ∧ h_high.toInt ≤ 6) (hb4 : 0 ≤ h_books.toInt ∧ h_books.toInt ≤ 8) (hR0 : Rg h_nameSizes 0 8 (-900) 7) (hR1 : Rg k_x 0 8 0 5) (hR2 : Rg k_y 0 8 0 5) {p : Program} {e : Env} {s : State} {m : MethodId} {args : Array Value} {below : List Frame} {meth : Method} {c : Code} {A : Nat → Prop} {Q : State → Prop} {cells slots : Nat} (hroom : cells ≤ ((Rm 4 94 0 0)).cells ∧ slots ≤ ((Rm 4 94 0 0)).slots) (C : Cx p s m args meth c cX7_booksSaid 8 (some .int) RX7 "booksSaid" D cy A) (hQ : Q = MQ below (va_Qi (fun (r : Int32) (u : (Nat → Int32)) => True) (Bx D A (fun u : (Nat → Int32) => [(j, .inr (7, [.int j_isTold, .int j_ones, .int j_size, .ref j_words_, .ref j_signs_, .ref j_values_, .ref j_stack_])), (j_words_, .inl (cy 1, 40, .inl j_words)), (j_signs_, .inl (cy 1, 40, .inl j_signs)), (j_values_, .inl (cy 1, 40, .inl j_values)), (j_stack_, .inl (cy 1, 40, .inl u)), (h, .inr (6, [.int h_wide, .int h_high, .int h_law, .int h_spin, .int h_line, .int h_draught, .int h_books, .int h_rare, .ref h_quarrels_, .ref h_nameSizes_, .ref h_names_])), (h_quarrels_, .inl (cy 1, 8, .inl h_quarrels)), (h_nameSizes_, .inl (cy 1, 8, .inl h_nameSizes)), (h_names_, .inl (cy 1, 56, .inl h_names)), (k, .inr (8, [.ref k_x_, .ref k_y_, .ref k_web_, .ref k_asks_, .ref k_threads_, .int k_today, .int k_day, .ref k_seen_])), (k_x_, .inl (cy 1, 8, .inl k_x)), (k_y_, .inl (cy 1, 8, .inl k_y)), (k_web_, .inl (cy 1, 8, .inl k_web)), (k_asks_, .inl (cy 1, 8, .inl k_asks)), (k_threads_, .inl (cy 1, 64, .inl k_threads)), (k_seen_, .inl (cy 1, 8, .inl k_seen))])) A) args s ((Rm 4 94 0 0)).cells ((Rm 4 94 0 0)).slots A) (H : Heap) (locs : List Loc) (ls : Array Slot) (hP : va_P D vwCl [(j, .inr (7, [.int j_isTold, .int j_ones, .int j_size, .ref j_words_, .ref j_signs_, .ref j_values_, .ref j_stack_])), (j_words_, .inl (cy 1, 40, .inl j_words)), (j_signs_, .inl (cy 1, 40, .inl j_signs)), (j_values_, .inl (cy 1, 40, .inl j_values)), (j_stack_, .inl (cy 1, 40, .inl j_stack)), (h, .inr (6, [.int h_wide, .int h_high, .int h_law, .int h_spin, .int h_line, .int h_draught, .int h_books, .int h_rare, .ref h_quarrels_, .ref h_nameSizes_, .ref h_names_])), (h_quarrels_, .inl (cy 1, 8, .inl h_quarrels)), (h_nameSizes_, .inl (cy 1, 8, .inl h_nameSizes)), (h_names_, .inl (cy 1, 56, .inl h_names)), (k, .inr (8, [.ref k_x_, .ref k_y_, .ref k_web_, .ref k_asks_, .ref k_threads_, .int k_today, .int k_day, .ref k_seen_])), (k_x_, .inl (cy 1, 8, .inl k_x)), (k_y_, .inl (cy 1, 8, .inl k_y)), (k_web_, .inl (cy 1, 8, .inl k_web)), (k_asks_, .inl (cy 1, 8, .inl k_asks)), (k_threads_, .inl (cy 1, 64, .inl k_threads)), (k_seen_, .inl (cy 1, 8, .inl k_seen))] H) (hD : va_D A [(j, .inr (7, [.int j_isTold, .int j_ones, .int j_size, .ref j_words_, .ref j_signs_, .ref j_values_, .ref j_stack_])), (j_words_, .inl (cy 1, 40, .inl j_words)), (j_signs_, .inl (cy 1, 40, .inl j_signs)), (j_values_, .inl (cy 1, 40, .inl j_values)), (j_stack_, .inl (cy 1, 40, .inl j_stack)), (h, .inr (6, [.int h_wide, .int h_high, .int h_law, .int h_spin, .int h_line, .int h_draught, .int h_books, .int h_rare, .ref h_quarrels_, .ref h_nameSizes_, .ref h_names_])), (h_quarrels_, .inl (cy 1, 8, .inl h_quarrels)), (h_nameSizes_, .inl (cy 1, 8, .inl h_nameSizes)), (h_names_, .inl (cy 1, 56, .inl h_names)), (k, .inr (8, [.ref k_x_, .ref k_y_, .ref k_web_, .ref k_asks_, .ref k_threads_, .int k_today, .int k_day, .ref k_seen_])), (k_x_, .inl (cy 1, 8, .inl k_x)), (k_y_, .inl (cy 1, 8, .inl k_y)), (k_web_, .inl (cy 1, 8, .inl k_web)), (k_asks_, .inl (cy 1, 8, .inl k_asks)), (k_threads_, .inl (cy 1, 64, .inl k_threads)), (k_seen_, .inl (cy 1, 8, .inl k_seen))]) (hS : va_S A s.heap H locs) (hl : lv_has ls 8 [(0, .ref j), (1, .ref h), (2, .ref k)]) : W p l e (Rm 4 94 0 0) s m args below meth c H locs cells slots Q (F0 m 0 ls []) := by
  have hx := C.1
  have hb := C.2.1
  refine lv_iconst (v := 1) hx hb dX7_booksSaid_0 (by decide) ?_
  refine lv_aload_n hx hb dX7_booksSaid_1 rfl (lv_at hl 1 rfl) ?_
  refine q_get (v := .int h_books) C hP 5 6 rfl rfl inX6 (by decide) kF_RX7_103 rfl rfl dX7_booksSaid_2 ?_
  refine lv_ishl hx hb dX7_booksSaid_5 ?_
  refine lv_topi (fun z_1 hz_1 => ?_)
  clear hz_1
  refine lv_iconst (v := 1) hx hb dX7_booksSaid_6 (by decide) ?_
  refine lv_isub hx hb dX7_booksSaid_7 ?_
  refine lv_topi (fun z_2 hz_2 => ?_)
  clear hz_2
  refine lv_istore_n (lv' := [(3, .int z_2), (0, .ref j), (1, .ref h), (2, .ref k)]) hx hb dX7_booksSaid_8 rfl hl (by decide) rfl (fun ls hl => ?_)
  refine lv_iconst (v := 0) hx hb dX7_booksSaid_9 (by decide) ?_
  refine lv_istore (lv' := [(4, .int 0), (3, .int z_2), (0, .ref j), (1, .ref h), (2, .ref k)]) hx hb dX7_booksSaid_10 hl (by decide) rfl (fun ls hl => ?_)
  refine lv_iconst (v := 0) hx hb dX7_booksSaid_12 (by decide) ?_
  refine lv_istore (lv' := [(5, .int 0), (4, .int 0), (3, .int z_2), (0, .ref j), (1, .ref h), (2, .ref k)]) hx hb dX7_booksSaid_13 hl (by decide) rfl (fun ls hl => ?_)
  have lp_15_5 : ∀ (n_6 : Nat) (x_3 : Int32) (x_4 : Int32) (g_5 : Nat → Int32) (H : Heap) (locs : List Loc) (ls : Array Slot), (-1) * x_4.toInt + 40 < (n_6 : Int) → (0 ≤ x_3.toInt ∧ x_3.toInt ≤ 40) → (0 ≤ x_4.toInt ∧ x_4.toInt ≤ 40) → va_P D vwCl [(j, .inr (7, [.int j_isTold, .int j_ones, .int j_size, .ref j_words_, .ref j_signs_, .ref j_values_, .ref j_stack_])), (j_words_, .inl (cy 1, 40, .inl j_words)), (j_signs_, .inl (cy 1, 40, .inl j_signs)), (j_values_, .inl (cy 1, 40, .inl j_values)), (j_stack_, .inl (cy 1, 40, .inl g_5)), (h, .inr (6, [.int h_wide, .int h_high, .int h_law, .int h_spin, .int h_line, .int h_draught, .int h_books, .int h_rare, .ref h_quarrels_, .ref h_nameSizes_, .ref h_names_])), (h_quarrels_, .inl (cy 1, 8, .inl h_quarrels)), (h_nameSizes_, .inl (cy 1, 8, .inl h_nameSizes)), (h_names_, .inl (cy 1, 56, .inl h_names)), (k, .inr (8, [.ref k_x_, .ref k_y_, .ref k_web_, .ref k_asks_, .ref k_threads_, .int k_today, .int k_day, .ref k_seen_])), (k_x_, .inl (cy 1, 8, .inl k_x)), (k_y_, .inl (cy 1, 8, .inl k_y)), (k_web_, .inl (cy 1, 8, .inl k_web)), (k_asks_, .inl (cy 1, 8, .inl k_asks)), (k_threads_, .inl (cy 1, 64, .inl k_threads)), (k_seen_, .inl (cy 1, 8, .inl k_seen))] H → va_D A [(j, .inr (7, [.int j_isTold, .int j_ones, .int j_size, .ref j_words_, .ref j_signs_, .ref j_values_, .ref j_stack_])), (j_words_, .inl (cy 1, 40, .inl j_words)), (j_signs_, .inl (cy 1, 40, .inl j_signs)), (j_values_, .inl (cy 1, 40, .inl j_values)), (j_stack_, .inl (cy 1, 40, .inl g_5)), (h, .inr (6, [.int h_wide, .int h_high, .int h_law, .int h_spin, .int h_line, .int h_draught, .int h_books, .int h_rare, .ref h_quarrels_, .ref h_nameSizes_, .ref h_names_])), (h_quarrels_, .inl (cy 1, 8, .inl h_quarrels)), (h_nameSizes_, .inl (cy 1, 8, .inl h_nameSizes)), (h_names_, .inl (cy 1, 56, .inl h_names)), (k, .inr (8, [.ref k_x_, .ref k_y_, .ref k_web_, .ref k_asks_, .ref k_threads_, .int k_today, .int k_day, .ref k_seen_])), (k_x_, .inl (cy 1, 8, .inl k_x)), (k_y_, .inl (cy 1, 8, .inl k_y)), (k_web_, .inl (cy 1, 8, .inl k_web)), (k_asks_, .inl (cy 1, 8, .inl k_asks)), (k_threads_, .inl (cy 1, 64, .inl k_threads)), (k_seen_, .inl (cy 1, 8, .inl k_seen))] → va_S A s.heap H locs → lv_has ls 8 [(0, .ref j), (1, .ref h), (2, .ref k), (3, .int z_2), (4, .int x_3), (5, .int x_4)] → W p l e (Rm 4 94 0 0) s m args below meth c H locs cells slots Q (F0 m 15 ls []) := by
    intro n_6
    induction n_6 with
    | zero =>
      intro x_3 x_4 g_5 H locs ls hm_9 hf_7 hf_8 hP hD hS hl
      exact absurd hm_9 (by omega)
    | succ n_6 ih_10 =>
      intro x_3 x_4 g_5 H locs ls hm_9 hf_7 hf_8 hP hD hS hl
      refine lv_iload hx hb dX7_booksSaid_15 (lv_at hl 5 rfl) ?_
      refine lv_aload_n hx hb dX7_booksSaid_17 rfl (lv_at hl 0 rfl) ?_
      refine q_get (v := .int j_size) C hP 0 2 rfl rfl inX7 (by decide) kF_RX7_19 rfl rfl dX7_booksSaid_18 ?_
      refine lv_icmp_ge (tgt := 185) hx hb dX7_booksSaid_21 (by decide) (fun c_12 => ?_) (fun c_12 => ?_)
      · have hc_12 := o_le (rfl : j_size.toInt = j_size.toInt) (rfl : x_4.toInt = x_4.toInt) c_12
        refine lv_aload_n hx hb dX7_booksSaid_185 rfl (lv_at hl 0 rfl) ?_
        refine q_get (v := .ref j_stack_) C hP 0 6 rfl rfl inX7 (by decide) kF_RX7_32 rfl rfl dX7_booksSaid_186 ?_
        refine lv_iconst (v := 0) hx hb dX7_booksSaid_189 (by decide) ?_
        refine q_iald (v := g_5 0) C hP 4 rfl (vin (by decide +kernel)) rfl dX7_booksSaid_190 ?_
        refine lv_topi (fun z_13 ez_13 => ?_)
        refine lv_iload_n hx hb dX7_booksSaid_191 rfl (lv_at hl 3 rfl) ?_
        refine lv_iand hx hb dX7_booksSaid_192 ?_
        refine lv_topi (fun z_14 hz_14 => ?_)
        clear hz_14
        refine o_wq hQ ?_
        exact q_iret (rm := (Rm 4 94 0 0)) C hS g_5 rfl trivial (q_subP hP [0, 1, 2, 3, 4, 5, 6, 7, 8, 9, 10, 11, 12, 13, 14, 15] rfl) (hD.sub [0, 1, 2, 3, 4, 5, 6, 7, 8, 9, 10, 11, 12, 13, 14, 15] (by decide) rfl) hroom.1 hroom.2 dX7_booksSaid_193
      · have hc_12 := o_nle (rfl : j_size.toInt = j_size.toInt) (rfl : x_4.toInt = x_4.toInt) c_12
        refine lv_aload_n hx hb dX7_booksSaid_24 rfl (lv_at hl 0 rfl) ?_
        refine q_get (v := .ref j_words_) C hP 0 3 rfl rfl inX7 (by decide) kF_RX7_22 rfl rfl dX7_booksSaid_25 ?_
        refine lv_iload hx hb dX7_booksSaid_28 (lv_at hl 5 rfl) ?_
        refine q_iald (v := j_words x_4.toNatClampNeg) C hP 1 rfl (o_in (rfl : x_4.toInt = x_4.toInt) (by omega) (by omega)) rfl dX7_booksSaid_30 ?_
        refine lv_topi (fun z_15 ez_15 => ?_)
        refine lv_istore (lv' := [(6, .int z_15), (0, .ref j), (1, .ref h), (2, .ref k), (3, .int z_2), (4, .int x_3), (5, .int x_4)]) hx hb dX7_booksSaid_31 hl (by decide) rfl (fun ls hl => ?_)
        refine lv_iload hx hb dX7_booksSaid_33 (lv_at hl 0 rfl) ?_
        refine lv_bipush (v := 17) hx hb dX7_booksSaid_35 (by decide) ?_
        refine lv_icmp_ne (tgt := 71) hx hb dX7_booksSaid_37 (by decide) (fun c_16 => ?_) (fun c_16 => ?_)
        · have hc_16 := o_ne (rfl : z_15.toInt = z_15.toInt) (by decide : (17 : Int32).toInt = 17) c_16
          refine lv_iload hx hb dX7_booksSaid_71 (lv_at hl 0 rfl) ?_
          refine lv_bipush (v := 16) hx hb dX7_booksSaid_73 (by decide) ?_
          have cut_154_16 : ∀  (H : Heap) (locs : List Loc) (ls : Array Slot), va_P D vwCl [(j, .inr (7, [.int j_isTold, .int j_ones, .int j_size, .ref j_words_, .ref j_signs_, .ref j_values_, .ref j_stack_])), (j_words_, .inl (cy 1, 40, .inl j_words)), (j_signs_, .inl (cy 1, 40, .inl j_signs)), (j_values_, .inl (cy 1, 40, .inl j_values)), (j_stack_, .inl (cy 1, 40, .inl g_5)), (h, .inr (6, [.int h_wide, .int h_high, .int h_law, .int h_spin, .int h_line, .int h_draught, .int h_books, .int h_rare, .ref h_quarrels_, .ref h_nameSizes_, .ref h_names_])), (h_quarrels_, .inl (cy 1, 8, .inl h_quarrels)), (h_nameSizes_, .inl (cy 1, 8, .inl h_nameSizes)), (h_names_, .inl (cy 1, 56, .inl h_names)), (k, .inr (8, [.ref k_x_, .ref k_y_, .ref k_web_, .ref k_asks_, .ref k_threads_, .int k_today, .int k_day, .ref k_seen_])), (k_x_, .inl (cy 1, 8, .inl k_x)), (k_y_, .inl (cy 1, 8, .inl k_y)), (k_web_, .inl (cy 1, 8, .inl k_web)), (k_asks_, .inl (cy 1, 8, .inl k_asks)), (k_threads_, .inl (cy 1, 64, .inl k_threads)), (k_seen_, .inl (cy 1, 8, .inl k_seen))] H → va_D A [(j, .inr (7, [.int j_isTold, .int j_ones, .int j_size, .ref j_words_, .ref j_signs_, .ref j_values_, .ref j_stack_])), (j_words_, .inl (cy 1, 40, .inl j_words)), (j_signs_, .inl (cy 1, 40, .inl j_signs)), (j_values_, .inl (cy 1, 40, .inl j_values)), (j_stack_, .inl (cy 1, 40, .inl g_5)), (h, .inr (6, [.int h_wide, .int h_high, .int h_law, .int h_spin, .int h_line, .int h_draught, .int h_books, .int h_rare, .ref h_quarrels_, .ref h_nameSizes_, .ref h_names_])), (h_quarrels_, .inl (cy 1, 8, .inl h_quarrels)), (h_nameSizes_, .inl (cy 1, 8, .inl h_nameSizes)), (h_names_, .inl (cy 1, 56, .inl h_names)), (k, .inr (8, [.ref k_x_, .ref k_y_, .ref k_web_, .ref k_asks_, .ref k_threads_, .int k_today, .int k_day, .ref k_seen_])), (k_x_, .inl (cy 1, 8, .inl k_x)), (k_y_, .inl (cy 1, 8, .inl k_y)), (k_web_, .inl (cy 1, 8, .inl k_web)), (k_asks_, .inl (cy 1, 8, .inl k_asks)), (k_threads_, .inl (cy 1, 64, .inl k_threads)), (k_seen_, .inl (cy 1, 8, .inl k_seen))] → va_S A s.heap H locs → lv_has ls 8 [(0, .ref j), (1, .ref h), (2, .ref k), (3, .int z_2), (4, .int x_3), (5, .int x_4)] → W p l e (Rm 4 94 0 0) s m args below meth c H locs cells slots Q (F0 m 154 ls []) := by
            intro  H locs ls  hP hD hS hl
            refine lv_iload hx hb dX7_booksSaid_154 (lv_at hl 4 rfl) ?_
            refine lv_bipush (v := 40) hx hb dX7_booksSaid_156 (by decide) ?_
            refine lv_icmp_ge (tgt := 179) hx hb dX7_booksSaid_158 (by decide) (fun c_18 => ?_) (fun c_18 => ?_)
            · have hc_18 := o_le (by decide : (40 : Int32).toInt = 40) (rfl : x_3.toInt = x_3.toInt) c_18
              obtain ⟨z_19, hz_19⟩ : ∃ z : Int32, z = x_4 + 1 := ⟨_, rfl⟩
              refine lv_iinc (v := z_19) (lv' := [(5, .int z_19), (0, .ref j), (1, .ref h), (2, .ref k), (3, .int z_2), (4, .int x_3)]) hx hb dX7_booksSaid_179 hl (k := 5) rfl hz_19.symm (by decide) rfl (fun ls hl => ?_)
              have hz_19 := o_add hz_19 (rfl : x_4.toInt = x_4.toInt) (by decide : (1 : Int32).toInt = 1) (by omega) (by omega)
              refine lv_goto (tgt := 15) hx hb dX7_booksSaid_182 (by decide) ?_
              exact ih_10 x_3 z_19 g_5 H locs ls (by omega) (by omega) (by omega) hP hD hS (lv_sub hl [1, 2, 3, 4, 5, 0] rfl)
            · have hc_18 := o_nle (by decide : (40 : Int32).toInt = 40) (rfl : x_3.toInt = x_3.toInt) c_18
              refine lv_aload_n hx hb dX7_booksSaid_161 rfl (lv_at hl 0 rfl) ?_
              refine q_get (v := .ref j_stack_) C hP 0 6 rfl rfl inX7 (by decide) kF_RX7_32 rfl rfl dX7_booksSaid_162 ?_
              refine lv_iload hx hb dX7_booksSaid_165 (lv_at hl 4 rfl) ?_
              refine lv_aload_n hx hb dX7_booksSaid_167 rfl (lv_at hl 0 rfl) ?_
              refine lv_aload_n hx hb dX7_booksSaid_168 rfl (lv_at hl 1 rfl) ?_
              refine lv_aload_n hx hb dX7_booksSaid_169 rfl (lv_at hl 2 rfl) ?_
              refine lv_iload hx hb dX7_booksSaid_170 (lv_at hl 5 rfl) ?_
              refine q_ai (wr := []) (r_V (rm := (Rm 3 71 0 0)) (q0 := 0) (As := [.ref h, .ref k, .int x_4]) (rest := [.int x_3, .ref j_stack_]) (wc := [(j, .inr (7, [.int j_isTold, .int j_ones, .int j_size, .ref j_words_, .ref j_signs_, .ref j_values_, .ref j_stack_])), (j_words_, .inl (cy 1, 40, .inl j_words)), (j_signs_, .inl (cy 1, 40, .inl j_signs)), (j_values_, .inl (cy 1, 40, .inl j_values)), (j_stack_, .inl (cy 1, 40, .inl g_5)), (h, .inr (6, [.int h_wide, .int h_high, .int h_law, .int h_spin, .int h_line, .int h_draught, .int h_books, .int h_rare, .ref h_quarrels_, .ref h_nameSizes_, .ref h_names_])), (h_quarrels_, .inl (cy 1, 8, .inl h_quarrels)), (h_nameSizes_, .inl (cy 1, 8, .inl h_nameSizes)), (h_names_, .inl (cy 1, 56, .inl h_names)), (k, .inr (8, [.ref k_x_, .ref k_y_, .ref k_web_, .ref k_asks_, .ref k_threads_, .int k_today, .int k_day, .ref k_seen_])), (k_x_, .inl (cy 1, 8, .inl k_x)), (k_y_, .inl (cy 1, 8, .inl k_y)), (k_web_, .inl (cy 1, 8, .inl k_web)), (k_asks_, .inl (cy 1, 8, .inl k_asks)), (k_threads_, .inl (cy 1, 64, .inl k_threads)), (k_seen_, .inl (cy 1, 8, .inl k_seen))]) C hS (q_subP hP [0, 1, 2, 3, 4, 5, 6, 7, 8, 9, 10, 11, 12, 13, 14, 15] rfl) (hD.sub [0, 1, 2, 3, 4, 5, 6, 7, 8, 9, 10, 11, 12, 13, 14, 15] (by decide) rfl) (o_booksOfTest l D cy j h k x_4 j_isTold j_ones j_size j_words_ j_signs_ j_values_ j_stack_ j_words j_signs j_values g_5 h_wide h_high h_law h_spin h_line h_draught h_books h_rare h_quarrels_ h_nameSizes_ h_names_ h_quarrels h_nameSizes h_names k_x_ k_y_ k_web_ k_asks_ k_threads_ k_today k_day k_seen_ k_x k_y k_web k_asks k_threads k_seen _ (by omega) (by omega) (by omega) (by omega) (by omega) (by omega) hR0 hR1 hR2) kwV_X7_booksOfTest kM_RX7_106 rfl rfl ⟨Nat.le_of_ble_eq_true rfl, Nat.le_of_ble_eq_true rfl⟩ rfl hl.1 rfl (Nat.le_of_ble_eq_true rfl) dX7_booksSaid_172 ⟨hroom.1, hroom.2⟩) C.2.2.2.2.2.2.1 hP hD hS [0, 1, 2, 3, 4, 5, 6, 7, 8, 9, 10, 11, 12, 13, 14, 15] [] rfl rfl (by decide) (by decide) (fun r_21 u_20 H locs hw_22 hP hD hS => ?_)
              refine q_iast (g := upd g_5 x_3.toNatClampNeg r_21) (w' := [(j, .inr (7, [.int j_isTold, .int j_ones, .int j_size, .ref j_words_, .ref j_signs_, .ref j_values_, .ref j_stack_])), (j_words_, .inl (cy 1, 40, .inl j_words)), (j_signs_, .inl (cy 1, 40, .inl j_signs)), (j_values_, .inl (cy 1, 40, .inl j_values)), (j_stack_, .inl (cy 1, 40, .inl (upd g_5 x_3.toNatClampNeg r_21))), (h, .inr (6, [.int h_wide, .int h_high, .int h_law, .int h_spin, .int h_line, .int h_draught, .int h_books, .int h_rare, .ref h_quarrels_, .ref h_nameSizes_, .ref h_names_])), (h_quarrels_, .inl (cy 1, 8, .inl h_quarrels)), (h_nameSizes_, .inl (cy 1, 8, .inl h_nameSizes)), (h_names_, .inl (cy 1, 56, .inl h_names)), (k, .inr (8, [.ref k_x_, .ref k_y_, .ref k_web_, .ref k_asks_, .ref k_threads_, .int k_today, .int k_day, .ref k_seen_])), (k_x_, .inl (cy 1, 8, .inl k_x)), (k_y_, .inl (cy 1, 8, .inl k_y)), (k_web_, .inl (cy 1, 8, .inl k_web)), (k_asks_, .inl (cy 1, 8, .inl k_asks)), (k_threads_, .inl (cy 1, 64, .inl k_threads)), (k_seen_, .inl (cy 1, 8, .inl k_seen))]) C hP hD hS 4 rfl (o_in (rfl : x_3.toInt = x_3.toInt) (by omega) (by omega)) rfl rfl dX7_booksSaid_175 (fun H locs hP hD hS => ?_)
              generalize upd g_5 x_3.toNatClampNeg r_21 = g_23 at hP hD 
              have hP : va_P D vwCl [(j, .inr (7, [.int j_isTold, .int j_ones, .int j_size, .ref j_words_, .ref j_signs_, .ref j_values_, .ref j_stack_])), (j_words_, .inl (cy 1, 40, .inl j_words)), (j_signs_, .inl (cy 1, 40, .inl j_signs)), (j_values_, .inl (cy 1, 40, .inl j_values)), (j_stack_, .inl (cy 1, 40, .inl g_23)), (h, .inr (6, [.int h_wide, .int h_high, .int h_law, .int h_spin, .int h_line, .int h_draught, .int h_books, .int h_rare, .ref h_quarrels_, .ref h_nameSizes_, .ref h_names_])), (h_quarrels_, .inl (cy 1, 8, .inl h_quarrels)), (h_nameSizes_, .inl (cy 1, 8, .inl h_nameSizes)), (h_names_, .inl (cy 1, 56, .inl h_names)), (k, .inr (8, [.ref k_x_, .ref k_y_, .ref k_web_, .ref k_asks_, .ref k_threads_, .int k_today, .int k_day, .ref k_seen_])), (k_x_, .inl (cy 1, 8, .inl k_x)), (k_y_, .inl (cy 1, 8, .inl k_y)), (k_web_, .inl (cy 1, 8, .inl k_web)), (k_asks_, .inl (cy 1, 8, .inl k_asks)), (k_threads_, .inl (cy 1, 64, .inl k_threads)), (k_seen_, .inl (cy 1, 8, .inl k_seen))] H := hP
              have hD : va_D A [(j, .inr (7, [.int j_isTold, .int j_ones, .int j_size, .ref j_words_, .ref j_signs_, .ref j_values_, .ref j_stack_])), (j_words_, .inl (cy 1, 40, .inl j_words)), (j_signs_, .inl (cy 1, 40, .inl j_signs)), (j_values_, .inl (cy 1, 40, .inl j_values)), (j_stack_, .inl (cy 1, 40, .inl g_23)), (h, .inr (6, [.int h_wide, .int h_high, .int h_law, .int h_spin, .int h_line, .int h_draught, .int h_books, .int h_rare, .ref h_quarrels_, .ref h_nameSizes_, .ref h_names_])), (h_quarrels_, .inl (cy 1, 8, .inl h_quarrels)), (h_nameSizes_, .inl (cy 1, 8, .inl h_nameSizes)), (h_names_, .inl (cy 1, 56, .inl h_names)), (k, .inr (8, [.ref k_x_, .ref k_y_, .ref k_web_, .ref k_asks_, .ref k_threads_, .int k_today, .int k_day, .ref k_seen_])), (k_x_, .inl (cy 1, 8, .inl k_x)), (k_y_, .inl (cy 1, 8, .inl k_y)), (k_web_, .inl (cy 1, 8, .inl k_web)), (k_asks_, .inl (cy 1, 8, .inl k_asks)), (k_threads_, .inl (cy 1, 64, .inl k_threads)), (k_seen_, .inl (cy 1, 8, .inl k_seen))] := hD
              obtain ⟨z_24, hz_24⟩ : ∃ z : Int32, z = x_3 + 1 := ⟨_, rfl⟩
              refine lv_iinc (v := z_24) (lv' := [(4, .int z_24), (0, .ref j), (1, .ref h), (2, .ref k), (3, .int z_2), (5, .int x_4)]) hx hb dX7_booksSaid_176 hl (k := 4) rfl hz_24.symm (by decide) rfl (fun ls hl => ?_)
              have hz_24 := o_add hz_24 (rfl : x_3.toInt = x_3.toInt) (by decide : (1 : Int32).toInt = 1) (by omega) (by omega)
              obtain ⟨z_25, hz_25⟩ : ∃ z : Int32, z = x_4 + 1 := ⟨_, rfl⟩
              refine lv_iinc (v := z_25) (lv' := [(5, .int z_25), (4, .int z_24), (0, .ref j), (1, .ref h), (2, .ref k), (3, .int z_2)]) hx hb dX7_booksSaid_179 hl (k := 5) rfl hz_25.symm (by decide) rfl (fun ls hl => ?_)
              have hz_25 := o_add hz_25 (rfl : x_4.toInt = x_4.toInt) (by decide : (1 : Int32).toInt = 1) (by omega) (by omega)
              refine lv_goto (tgt := 15) hx hb dX7_booksSaid_182 (by decide) ?_
              exact ih_10 z_24 z_25 g_23 H locs ls (by omega) (by omega) (by omega) hP hD hS (lv_sub hl [2, 3, 4, 5, 1, 0] rfl)
          have cut_85_25 : ∀  (H : Heap) (locs : List Loc) (ls : Array Slot), (0 ≤ z_15.toInt + (-15)) → (0 ≤ (-1) * z_15.toInt + 16) → va_P D vwCl [(j, .inr (7, [.int j_isTold, .int j_ones, .int j_size, .ref j_words_, .ref j_signs_, .ref j_values_, .ref j_stack_])), (j_words_, .inl (cy 1, 40, .inl j_words)), (j_signs_, .inl (cy 1, 40, .inl j_signs)), (j_values_, .inl (cy 1, 40, .inl j_values)), (j_stack_, .inl (cy 1, 40, .inl g_5)), (h, .inr (6, [.int h_wide, .int h_high, .int h_law, .int h_spin, .int h_line, .int h_draught, .int h_books, .int h_rare, .ref h_quarrels_, .ref h_nameSizes_, .ref h_names_])), (h_quarrels_, .inl (cy 1, 8, .inl h_quarrels)), (h_nameSizes_, .inl (cy 1, 8, .inl h_nameSizes)), (h_names_, .inl (cy 1, 56, .inl h_names)), (k, .inr (8, [.ref k_x_, .ref k_y_, .ref k_web_, .ref k_asks_, .ref k_threads_, .int k_today, .int k_day, .ref k_seen_])), (k_x_, .inl (cy 1, 8, .inl k_x)), (k_y_, .inl (cy 1, 8, .inl k_y)), (k_web_, .inl (cy 1, 8, .inl k_web)), (k_asks_, .inl (cy 1, 8, .inl k_asks)), (k_threads_, .inl (cy 1, 64, .inl k_threads)), (k_seen_, .inl (cy 1, 8, .inl k_seen))] H → va_D A [(j, .inr (7, [.int j_isTold, .int j_ones, .int j_size, .ref j_words_, .ref j_signs_, .ref j_values_, .ref j_stack_])), (j_words_, .inl (cy 1, 40, .inl j_words)), (j_signs_, .inl (cy 1, 40, .inl j_signs)), (j_values_, .inl (cy 1, 40, .inl j_values)), (j_stack_, .inl (cy 1, 40, .inl g_5)), (h, .inr (6, [.int h_wide, .int h_high, .int h_law, .int h_spin, .int h_line, .int h_draught, .int h_books, .int h_rare, .ref h_quarrels_, .ref h_nameSizes_, .ref h_names_])), (h_quarrels_, .inl (cy 1, 8, .inl h_quarrels)), (h_nameSizes_, .inl (cy 1, 8, .inl h_nameSizes)), (h_names_, .inl (cy 1, 56, .inl h_names)), (k, .inr (8, [.ref k_x_, .ref k_y_, .ref k_web_, .ref k_asks_, .ref k_threads_, .int k_today, .int k_day, .ref k_seen_])), (k_x_, .inl (cy 1, 8, .inl k_x)), (k_y_, .inl (cy 1, 8, .inl k_y)), (k_web_, .inl (cy 1, 8, .inl k_web)), (k_asks_, .inl (cy 1, 8, .inl k_asks)), (k_threads_, .inl (cy 1, 64, .inl k_threads)), (k_seen_, .inl (cy 1, 8, .inl k_seen))] → va_S A s.heap H locs → lv_has ls 8 [(0, .ref j), (1, .ref h), (2, .ref k), (3, .int z_2), (4, .int x_3), (5, .int x_4), (6, .int z_15)] → W p l e (Rm 4 94 0 0) s m args below meth c H locs cells slots Q (F0 m 85 ls []) := by
            intro  H locs ls hf_26 hf_27 hP hD hS hl
            refine lv_iload hx hb dX7_booksSaid_85 (lv_at hl 4 rfl) ?_
            refine lv_iconst (v := 2) hx hb dX7_booksSaid_87 (by decide) ?_
            refine lv_icmp_lt (tgt := 154) hx hb dX7_booksSaid_88 (by decide) (fun c_29 => ?_) (fun c_29 => ?_)
            · have hc_29 := o_lt (rfl : x_3.toInt = x_3.toInt) (by decide : (2 : Int32).toInt = 2) c_29
              exact cut_154_16  H locs ls   hP hD hS (lv_sub hl [0, 1, 2, 3, 4, 5] rfl)
            · have hc_29 := o_nlt (rfl : x_3.toInt = x_3.toInt) (by decide : (2 : Int32).toInt = 2) c_29
              obtain ⟨z_30, hz_30⟩ : ∃ z : Int32, z = x_3 + (-1) := ⟨_, rfl⟩
              refine lv_iinc (v := z_30) (lv' := [(4, .int z_30), (0, .ref j), (1, .ref h), (2, .ref k), (3, .int z_2), (5, .int x_4), (6, .int z_15)]) hx hb dX7_booksSaid_91 hl (k := 4) rfl hz_30.symm (by decide) rfl (fun ls hl => ?_)
              have hz_30 := o_add hz_30 (rfl : x_3.toInt = x_3.toInt) (by decide : ((-1) : Int32).toInt = -1) (by omega) (by omega)
              refine lv_aload_n hx hb dX7_booksSaid_94 rfl (lv_at hl 1 rfl) ?_
              refine q_get (v := .ref j_stack_) C hP 0 6 rfl rfl inX7 (by decide) kF_RX7_32 rfl rfl dX7_booksSaid_95 ?_
              refine lv_iload hx hb dX7_booksSaid_98 (lv_at hl 0 rfl) ?_
              refine lv_iconst (v := 1) hx hb dX7_booksSaid_100 (by decide) ?_
              refine lv_isub hx hb dX7_booksSaid_101 ?_
              refine lv_topi (fun z_31 hz_31 => ?_)
              have hz_31 := o_sub hz_31 (rfl : z_30.toInt = z_30.toInt) (by decide : (1 : Int32).toInt = 1) (by omega) (by omega)
              refine q_iald (v := g_5 z_31.toNatClampNeg) C hP 4 rfl (o_in (rfl : z_31.toInt = z_31.toInt) (by omega) (by omega)) rfl dX7_booksSaid_102 ?_
              refine lv_topi (fun z_32 ez_32 => ?_)
              refine lv_aload_n hx hb dX7_booksSaid_103 rfl (lv_at hl 1 rfl) ?_
              refine q_get (v := .ref j_stack_) C hP 0 6 rfl rfl inX7 (by decide) kF_RX7_32 rfl rfl dX7_booksSaid_104 ?_
              refine lv_iload hx hb dX7_booksSaid_107 (lv_at hl 0 rfl) ?_
              refine q_iald (v := g_5 z_30.toNatClampNeg) C hP 4 rfl (o_in (rfl : z_30.toInt = z_30.toInt) (by omega) (by omega)) rfl dX7_booksSaid_109 ?_
              refine lv_topi (fun z_33 ez_33 => ?_)
              refine lv_iand hx hb dX7_booksSaid_110 ?_
              refine lv_topi (fun z_34 hz_34 => ?_)
              clear hz_34
              refine lv_istore (lv' := [(7, .int z_34), (4, .int z_30), (0, .ref j), (1, .ref h), (2, .ref k), (3, .int z_2), (5, .int x_4), (6, .int z_15)]) hx hb dX7_booksSaid_111 hl (by decide) rfl (fun ls hl => ?_)
              refine lv_aload_n hx hb dX7_booksSaid_113 rfl (lv_at hl 2 rfl) ?_
              refine q_get (v := .ref j_stack_) C hP 0 6 rfl rfl inX7 (by decide) kF_RX7_32 rfl rfl dX7_booksSaid_114 ?_
              refine lv_iload hx hb dX7_booksSaid_117 (lv_at hl 1 rfl) ?_
              refine lv_iconst (v := 1) hx hb dX7_booksSaid_119 (by decide) ?_
              refine lv_isub hx hb dX7_booksSaid_120 ?_
              refine lv_topi (fun z_35 hz_35 => ?_)
              have hz_35 := o_sub hz_35 (rfl : z_30.toInt = z_30.toInt) (by decide : (1 : Int32).toInt = 1) (by omega) (by omega)
              refine lv_iload hx hb dX7_booksSaid_121 (lv_at hl 7 rfl) ?_
              refine lv_bipush (v := 16) hx hb dX7_booksSaid_123 (by decide) ?_
              refine lv_icmp_ne (tgt := 133) hx hb dX7_booksSaid_125 (by decide) (fun c_36 => ?_) (fun c_36 => ?_)
              · have hc_36 := o_ne (rfl : z_15.toInt = z_15.toInt) (by decide : (16 : Int32).toInt = 16) c_36
                have hnc_36 : 0 ≤ (-1) * z_15.toInt + 15 := by rcases Int.lt_or_gt_of_ne hc_36 with h9 | h9 <;> omega
                refine lv_aload_n hx hb dX7_booksSaid_133 rfl (lv_at hl 2 rfl) ?_
                refine q_get (v := .ref j_stack_) C hP 0 6 rfl rfl inX7 (by decide) kF_RX7_32 rfl rfl dX7_booksSaid_134 ?_
                refine lv_iload hx hb dX7_booksSaid_137 (lv_at hl 1 rfl) ?_
                refine lv_iconst (v := 1) hx hb dX7_booksSaid_139 (by decide) ?_
                refine lv_isub hx hb dX7_booksSaid_140 ?_
                refine lv_topi (fun z_37 hz_37 => ?_)
                have hz_37 := o_sub hz_37 (rfl : z_30.toInt = z_30.toInt) (by decide : (1 : Int32).toInt = 1) (by omega) (by omega)
                refine q_iald (v := g_5 z_37.toNatClampNeg) C hP 4 rfl (o_in (rfl : z_37.toInt = z_37.toInt) (by omega) (by omega)) rfl dX7_booksSaid_141 ?_
                refine lv_topi (fun z_38 ez_38 => ?_)
                refine lv_aload_n hx hb dX7_booksSaid_142 rfl (lv_at hl 2 rfl) ?_
                refine q_get (v := .ref j_stack_) C hP 0 6 rfl rfl inX7 (by decide) kF_RX7_32 rfl rfl dX7_booksSaid_143 ?_
                refine lv_iload hx hb dX7_booksSaid_146 (lv_at hl 1 rfl) ?_
                refine q_iald (v := z_33) C hP 4 rfl (o_in (rfl : z_30.toInt = z_30.toInt) (by omega) (by omega)) ez_33.symm dX7_booksSaid_148 ?_
                refine lv_ior hx hb dX7_booksSaid_149 ?_
                refine lv_topi (fun z_39 hz_39 => ?_)
                clear hz_39
                refine q_iast (g := upd g_5 z_35.toNatClampNeg z_39) (w' := [(j, .inr (7, [.int j_isTold, .int j_ones, .int j_size, .ref j_words_, .ref j_signs_, .ref j_values_, .ref j_stack_])), (j_words_, .inl (cy 1, 40, .inl j_words)), (j_signs_, .inl (cy 1, 40, .inl j_signs)), (j_values_, .inl (cy 1, 40, .inl j_values)), (j_stack_, .inl (cy 1, 40, .inl (upd g_5 z_35.toNatClampNeg z_39))), (h, .inr (6, [.int h_wide, .int h_high, .int h_law, .int h_spin, .int h_line, .int h_draught, .int h_books, .int h_rare, .ref h_quarrels_, .ref h_nameSizes_, .ref h_names_])), (h_quarrels_, .inl (cy 1, 8, .inl h_quarrels)), (h_nameSizes_, .inl (cy 1, 8, .inl h_nameSizes)), (h_names_, .inl (cy 1, 56, .inl h_names)), (k, .inr (8, [.ref k_x_, .ref k_y_, .ref k_web_, .ref k_asks_, .ref k_threads_, .int k_today, .int k_day, .ref k_seen_])), (k_x_, .inl (cy 1, 8, .inl k_x)), (k_y_, .inl (cy 1, 8, .inl k_y)), (k_web_, .inl (cy 1, 8, .inl k_web)), (k_asks_, .inl (cy 1, 8, .inl k_asks)), (k_threads_, .inl (cy 1, 64, .inl k_threads)), (k_seen_, .inl (cy 1, 8, .inl k_seen))]) C hP hD hS 4 rfl (o_in (rfl : z_35.toInt = z_35.toInt) (by omega) (by omega)) rfl rfl dX7_booksSaid_150 (fun H locs hP hD hS => ?_)
                generalize upd g_5 z_35.toNatClampNeg z_39 = g_40 at hP hD 
                have hP : va_P D vwCl [(j, .inr (7, [.int j_isTold, .int j_ones, .int j_size, .ref j_words_, .ref j_signs_, .ref j_values_, .ref j_stack_])), (j_words_, .inl (cy 1, 40, .inl j_words)), (j_signs_, .inl (cy 1, 40, .inl j_signs)), (j_values_, .inl (cy 1, 40, .inl j_values)), (j_stack_, .inl (cy 1, 40, .inl g_40)), (h, .inr (6, [.int h_wide, .int h_high, .int h_law, .int h_spin, .int h_line, .int h_draught, .int h_books, .int h_rare, .ref h_quarrels_, .ref h_nameSizes_, .ref h_names_])), (h_quarrels_, .inl (cy 1, 8, .inl h_quarrels)), (h_nameSizes_, .inl (cy 1, 8, .inl h_nameSizes)), (h_names_, .inl (cy 1, 56, .inl h_names)), (k, .inr (8, [.ref k_x_, .ref k_y_, .ref k_web_, .ref k_asks_, .ref k_threads_, .int k_today, .int k_day, .ref k_seen_])), (k_x_, .inl (cy 1, 8, .inl k_x)), (k_y_, .inl (cy 1, 8, .inl k_y)), (k_web_, .inl (cy 1, 8, .inl k_web)), (k_asks_, .inl (cy 1, 8, .inl k_asks)), (k_threads_, .inl (cy 1, 64, .inl k_threads)), (k_seen_, .inl (cy 1, 8, .inl k_seen))] H := hP
                have hD : va_D A [(j, .inr (7, [.int j_isTold, .int j_ones, .int j_size, .ref j_words_, .ref j_signs_, .ref j_values_, .ref j_stack_])), (j_words_, .inl (cy 1, 40, .inl j_words)), (j_signs_, .inl (cy 1, 40, .inl j_signs)), (j_values_, .inl (cy 1, 40, .inl j_values)), (j_stack_, .inl (cy 1, 40, .inl g_40)), (h, .inr (6, [.int h_wide, .int h_high, .int h_law, .int h_spin, .int h_line, .int h_draught, .int h_books, .int h_rare, .ref h_quarrels_, .ref h_nameSizes_, .ref h_names_])), (h_quarrels_, .inl (cy 1, 8, .inl h_quarrels)), (h_nameSizes_, .inl (cy 1, 8, .inl h_nameSizes)), (h_names_, .inl (cy 1, 56, .inl h_names)), (k, .inr (8, [.ref k_x_, .ref k_y_, .ref k_web_, .ref k_asks_, .ref k_threads_, .int k_today, .int k_day, .ref k_seen_])), (k_x_, .inl (cy 1, 8, .inl k_x)), (k_y_, .inl (cy 1, 8, .inl k_y)), (k_web_, .inl (cy 1, 8, .inl k_web)), (k_asks_, .inl (cy 1, 8, .inl k_asks)), (k_threads_, .inl (cy 1, 64, .inl k_threads)), (k_seen_, .inl (cy 1, 8, .inl k_seen))] := hD
                refine lv_goto (tgt := 179) hx hb dX7_booksSaid_151 (by decide) ?_
                obtain ⟨z_41, hz_41⟩ : ∃ z : Int32, z = x_4 + 1 := ⟨_, rfl⟩
                refine lv_iinc (v := z_41) (lv' := [(5, .int z_41), (7, .int z_34), (4, .int z_30), (0, .ref j), (1, .ref h), (2, .ref k), (3, .int z_2), (6, .int z_15)]) hx hb dX7_booksSaid_179 hl (k := 6) rfl hz_41.symm (by decide) rfl (fun ls hl => ?_)
                have hz_41 := o_add hz_41 (rfl : x_4.toInt = x_4.toInt) (by decide : (1 : Int32).toInt = 1) (by omega) (by omega)
                refine lv_goto (tgt := 15) hx hb dX7_booksSaid_182 (by decide) ?_
                exact ih_10 z_30 z_41 g_40 H locs ls (by omega) (by omega) (by omega) hP hD hS (lv_sub hl [3, 4, 5, 6, 2, 0] rfl)
              · have hc_36 := o_eq (rfl : z_15.toInt = z_15.toInt) (by decide : (16 : Int32).toInt = 16) c_36
                refine lv_iload hx hb dX7_booksSaid_128 (lv_at hl 0 rfl) ?_
                refine lv_goto (tgt := 150) hx hb dX7_booksSaid_130 (by decide) ?_
                refine q_iast (g := upd g_5 z_35.toNatClampNeg z_34) (w' := [(j, .inr (7, [.int j_isTold, .int j_ones, .int j_size, .ref j_words_, .ref j_signs_, .ref j_values_, .ref j_stack_])), (j_words_, .inl (cy 1, 40, .inl j_words)), (j_signs_, .inl (cy 1, 40, .inl j_signs)), (j_values_, .inl (cy 1, 40, .inl j_values)), (j_stack_, .inl (cy 1, 40, .inl (upd g_5 z_35.toNatClampNeg z_34))), (h, .inr (6, [.int h_wide, .int h_high, .int h_law, .int h_spin, .int h_line, .int h_draught, .int h_books, .int h_rare, .ref h_quarrels_, .ref h_nameSizes_, .ref h_names_])), (h_quarrels_, .inl (cy 1, 8, .inl h_quarrels)), (h_nameSizes_, .inl (cy 1, 8, .inl h_nameSizes)), (h_names_, .inl (cy 1, 56, .inl h_names)), (k, .inr (8, [.ref k_x_, .ref k_y_, .ref k_web_, .ref k_asks_, .ref k_threads_, .int k_today, .int k_day, .ref k_seen_])), (k_x_, .inl (cy 1, 8, .inl k_x)), (k_y_, .inl (cy 1, 8, .inl k_y)), (k_web_, .inl (cy 1, 8, .inl k_web)), (k_asks_, .inl (cy 1, 8, .inl k_asks)), (k_threads_, .inl (cy 1, 64, .inl k_threads)), (k_seen_, .inl (cy 1, 8, .inl k_seen))]) C hP hD hS 4 rfl (o_in (rfl : z_35.toInt = z_35.toInt) (by omega) (by omega)) rfl rfl dX7_booksSaid_150 (fun H locs hP hD hS => ?_)
                generalize upd g_5 z_35.toNatClampNeg z_34 = g_42 at hP hD 
                have hP : va_P D vwCl [(j, .inr (7, [.int j_isTold, .int j_ones, .int j_size, .ref j_words_, .ref j_signs_, .ref j_values_, .ref j_stack_])), (j_words_, .inl (cy 1, 40, .inl j_words)), (j_signs_, .inl (cy 1, 40, .inl j_signs)), (j_values_, .inl (cy 1, 40, .inl j_values)), (j_stack_, .inl (cy 1, 40, .inl g_42)), (h, .inr (6, [.int h_wide, .int h_high, .int h_law, .int h_spin, .int h_line, .int h_draught, .int h_books, .int h_rare, .ref h_quarrels_, .ref h_nameSizes_, .ref h_names_])), (h_quarrels_, .inl (cy 1, 8, .inl h_quarrels)), (h_nameSizes_, .inl (cy 1, 8, .inl h_nameSizes)), (h_names_, .inl (cy 1, 56, .inl h_names)), (k, .inr (8, [.ref k_x_, .ref k_y_, .ref k_web_, .ref k_asks_, .ref k_threads_, .int k_today, .int k_day, .ref k_seen_])), (k_x_, .inl (cy 1, 8, .inl k_x)), (k_y_, .inl (cy 1, 8, .inl k_y)), (k_web_, .inl (cy 1, 8, .inl k_web)), (k_asks_, .inl (cy 1, 8, .inl k_asks)), (k_threads_, .inl (cy 1, 64, .inl k_threads)), (k_seen_, .inl (cy 1, 8, .inl k_seen))] H := hP
                have hD : va_D A [(j, .inr (7, [.int j_isTold, .int j_ones, .int j_size, .ref j_words_, .ref j_signs_, .ref j_values_, .ref j_stack_])), (j_words_, .inl (cy 1, 40, .inl j_words)), (j_signs_, .inl (cy 1, 40, .inl j_signs)), (j_values_, .inl (cy 1, 40, .inl j_values)), (j_stack_, .inl (cy 1, 40, .inl g_42)), (h, .inr (6, [.int h_wide, .int h_high, .int h_law, .int h_spin, .int h_line, .int h_draught, .int h_books, .int h_rare, .ref h_quarrels_, .ref h_nameSizes_, .ref h_names_])), (h_quarrels_, .inl (cy 1, 8, .inl h_quarrels)), (h_nameSizes_, .inl (cy 1, 8, .inl h_nameSizes)), (h_names_, .inl (cy 1, 56, .inl h_names)), (k, .inr (8, [.ref k_x_, .ref k_y_, .ref k_web_, .ref k_asks_, .ref k_threads_, .int k_today, .int k_day, .ref k_seen_])), (k_x_, .inl (cy 1, 8, .inl k_x)), (k_y_, .inl (cy 1, 8, .inl k_y)), (k_web_, .inl (cy 1, 8, .inl k_web)), (k_asks_, .inl (cy 1, 8, .inl k_asks)), (k_threads_, .inl (cy 1, 64, .inl k_threads)), (k_seen_, .inl (cy 1, 8, .inl k_seen))] := hD
                refine lv_goto (tgt := 179) hx hb dX7_booksSaid_151 (by decide) ?_
                obtain ⟨z_43, hz_43⟩ : ∃ z : Int32, z = x_4 + 1 := ⟨_, rfl⟩
                refine lv_iinc (v := z_43) (lv' := [(5, .int z_43), (7, .int z_34), (4, .int z_30), (0, .ref j), (1, .ref h), (2, .ref k), (3, .int z_2), (6, .int z_15)]) hx hb dX7_booksSaid_179 hl (k := 6) rfl hz_43.symm (by decide) rfl (fun ls hl => ?_)
                have hz_43 := o_add hz_43 (rfl : x_4.toInt = x_4.toInt) (by decide : (1 : Int32).toInt = 1) (by omega) (by omega)
                refine lv_goto (tgt := 15) hx hb dX7_booksSaid_182 (by decide) ?_
                exact ih_10 z_30 z_43 g_42 H locs ls (by omega) (by omega) (by omega) hP hD hS (lv_sub hl [3, 4, 5, 6, 2, 0] rfl)
          refine lv_icmp_eq (tgt := 85) hx hb dX7_booksSaid_75 (by decide) (fun c_44 => ?_) (fun c_44 => ?_)
          · have hc_44 := o_eq (rfl : z_15.toInt = z_15.toInt) (by decide : (16 : Int32).toInt = 16) c_44
            exact cut_85_25  H locs ls  (by omega) (by omega) hP hD hS (lv_sub hl [1, 2, 3, 4, 5, 6, 0] rfl)
          · have hc_44 := o_ne (rfl : z_15.toInt = z_15.toInt) (by decide : (16 : Int32).toInt = 16) c_44
            refine lv_iload hx hb dX7_booksSaid_78 (lv_at hl 0 rfl) ?_
            refine lv_bipush (v := 15) hx hb dX7_booksSaid_80 (by decide) ?_
            refine lv_icmp_ne (tgt := 154) hx hb dX7_booksSaid_82 (by decide) (fun c_45 => ?_) (fun c_45 => ?_)
            · have hc_45 := o_ne (rfl : z_15.toInt = z_15.toInt) (by decide : (15 : Int32).toInt = 15) c_45
              exact cut_154_16  H locs ls   hP hD hS (lv_sub hl [1, 2, 3, 4, 5, 6] rfl)
            · have hc_45 := o_eq (rfl : z_15.toInt = z_15.toInt) (by decide : (15 : Int32).toInt = 15) c_45
              exact cut_85_25  H locs ls  (by omega) (by omega) hP hD hS (lv_sub hl [1, 2, 3, 4, 5, 6, 0] rfl)
        · have hc_16 := o_eq (rfl : z_15.toInt = z_15.toInt) (by decide : (17 : Int32).toInt = 17) c_16
          refine lv_iload hx hb dX7_booksSaid_40 (lv_at hl 5 rfl) ?_
          refine lv_iconst (v := 1) hx hb dX7_booksSaid_42 (by decide) ?_
          refine lv_icmp_lt (tgt := 71) hx hb dX7_booksSaid_43 (by decide) (fun c_46 => ?_) (fun c_46 => ?_)
          · have hc_46 := o_lt (rfl : x_3.toInt = x_3.toInt) (by decide : (1 : Int32).toInt = 1) c_46
            refine lv_iload hx hb dX7_booksSaid_71 (lv_at hl 0 rfl) ?_
            refine lv_bipush (v := 16) hx hb dX7_booksSaid_73 (by decide) ?_
            have cut_154_46 : ∀  (H : Heap) (locs : List Loc) (ls : Array Slot), va_P D vwCl [(j, .inr (7, [.int j_isTold, .int j_ones, .int j_size, .ref j_words_, .ref j_signs_, .ref j_values_, .ref j_stack_])), (j_words_, .inl (cy 1, 40, .inl j_words)), (j_signs_, .inl (cy 1, 40, .inl j_signs)), (j_values_, .inl (cy 1, 40, .inl j_values)), (j_stack_, .inl (cy 1, 40, .inl g_5)), (h, .inr (6, [.int h_wide, .int h_high, .int h_law, .int h_spin, .int h_line, .int h_draught, .int h_books, .int h_rare, .ref h_quarrels_, .ref h_nameSizes_, .ref h_names_])), (h_quarrels_, .inl (cy 1, 8, .inl h_quarrels)), (h_nameSizes_, .inl (cy 1, 8, .inl h_nameSizes)), (h_names_, .inl (cy 1, 56, .inl h_names)), (k, .inr (8, [.ref k_x_, .ref k_y_, .ref k_web_, .ref k_asks_, .ref k_threads_, .int k_today, .int k_day, .ref k_seen_])), (k_x_, .inl (cy 1, 8, .inl k_x)), (k_y_, .inl (cy 1, 8, .inl k_y)), (k_web_, .inl (cy 1, 8, .inl k_web)), (k_asks_, .inl (cy 1, 8, .inl k_asks)), (k_threads_, .inl (cy 1, 64, .inl k_threads)), (k_seen_, .inl (cy 1, 8, .inl k_seen))] H → va_D A [(j, .inr (7, [.int j_isTold, .int j_ones, .int j_size, .ref j_words_, .ref j_signs_, .ref j_values_, .ref j_stack_])), (j_words_, .inl (cy 1, 40, .inl j_words)), (j_signs_, .inl (cy 1, 40, .inl j_signs)), (j_values_, .inl (cy 1, 40, .inl j_values)), (j_stack_, .inl (cy 1, 40, .inl g_5)), (h, .inr (6, [.int h_wide, .int h_high, .int h_law, .int h_spin, .int h_line, .int h_draught, .int h_books, .int h_rare, .ref h_quarrels_, .ref h_nameSizes_, .ref h_names_])), (h_quarrels_, .inl (cy 1, 8, .inl h_quarrels)), (h_nameSizes_, .inl (cy 1, 8, .inl h_nameSizes)), (h_names_, .inl (cy 1, 56, .inl h_names)), (k, .inr (8, [.ref k_x_, .ref k_y_, .ref k_web_, .ref k_asks_, .ref k_threads_, .int k_today, .int k_day, .ref k_seen_])), (k_x_, .inl (cy 1, 8, .inl k_x)), (k_y_, .inl (cy 1, 8, .inl k_y)), (k_web_, .inl (cy 1, 8, .inl k_web)), (k_asks_, .inl (cy 1, 8, .inl k_asks)), (k_threads_, .inl (cy 1, 64, .inl k_threads)), (k_seen_, .inl (cy 1, 8, .inl k_seen))] → va_S A s.heap H locs → lv_has ls 8 [(0, .ref j), (1, .ref h), (2, .ref k), (3, .int z_2), (4, .int x_3), (5, .int x_4)] → W p l e (Rm 4 94 0 0) s m args below meth c H locs cells slots Q (F0 m 154 ls []) := by
              intro  H locs ls  hP hD hS hl
              refine lv_iload hx hb dX7_booksSaid_154 (lv_at hl 4 rfl) ?_
              refine lv_bipush (v := 40) hx hb dX7_booksSaid_156 (by decide) ?_
              refine lv_icmp_ge (tgt := 179) hx hb dX7_booksSaid_158 (by decide) (fun c_0 => absurd c_0 (o_mnle (by decide : (40 : Int32).toInt = 40) (rfl : x_3.toInt = x_3.toInt) (by omega))) (fun _ => ?_)
              refine lv_aload_n hx hb dX7_booksSaid_161 rfl (lv_at hl 0 rfl) ?_
              refine q_get (v := .ref j_stack_) C hP 0 6 rfl rfl inX7 (by decide) kF_RX7_32 rfl rfl dX7_booksSaid_162 ?_
              refine lv_iload hx hb dX7_booksSaid_165 (lv_at hl 4 rfl) ?_
              refine lv_aload_n hx hb dX7_booksSaid_167 rfl (lv_at hl 0 rfl) ?_
              refine lv_aload_n hx hb dX7_booksSaid_168 rfl (lv_at hl 1 rfl) ?_
              refine lv_aload_n hx hb dX7_booksSaid_169 rfl (lv_at hl 2 rfl) ?_
              refine lv_iload hx hb dX7_booksSaid_170 (lv_at hl 5 rfl) ?_
              refine q_ai (wr := []) (r_V (rm := (Rm 3 71 0 0)) (q0 := 0) (As := [.ref h, .ref k, .int x_4]) (rest := [.int x_3, .ref j_stack_]) (wc := [(j, .inr (7, [.int j_isTold, .int j_ones, .int j_size, .ref j_words_, .ref j_signs_, .ref j_values_, .ref j_stack_])), (j_words_, .inl (cy 1, 40, .inl j_words)), (j_signs_, .inl (cy 1, 40, .inl j_signs)), (j_values_, .inl (cy 1, 40, .inl j_values)), (j_stack_, .inl (cy 1, 40, .inl g_5)), (h, .inr (6, [.int h_wide, .int h_high, .int h_law, .int h_spin, .int h_line, .int h_draught, .int h_books, .int h_rare, .ref h_quarrels_, .ref h_nameSizes_, .ref h_names_])), (h_quarrels_, .inl (cy 1, 8, .inl h_quarrels)), (h_nameSizes_, .inl (cy 1, 8, .inl h_nameSizes)), (h_names_, .inl (cy 1, 56, .inl h_names)), (k, .inr (8, [.ref k_x_, .ref k_y_, .ref k_web_, .ref k_asks_, .ref k_threads_, .int k_today, .int k_day, .ref k_seen_])), (k_x_, .inl (cy 1, 8, .inl k_x)), (k_y_, .inl (cy 1, 8, .inl k_y)), (k_web_, .inl (cy 1, 8, .inl k_web)), (k_asks_, .inl (cy 1, 8, .inl k_asks)), (k_threads_, .inl (cy 1, 64, .inl k_threads)), (k_seen_, .inl (cy 1, 8, .inl k_seen))]) C hS (q_subP hP [0, 1, 2, 3, 4, 5, 6, 7, 8, 9, 10, 11, 12, 13, 14, 15] rfl) (hD.sub [0, 1, 2, 3, 4, 5, 6, 7, 8, 9, 10, 11, 12, 13, 14, 15] (by decide) rfl) (o_booksOfTest l D cy j h k x_4 j_isTold j_ones j_size j_words_ j_signs_ j_values_ j_stack_ j_words j_signs j_values g_5 h_wide h_high h_law h_spin h_line h_draught h_books h_rare h_quarrels_ h_nameSizes_ h_names_ h_quarrels h_nameSizes h_names k_x_ k_y_ k_web_ k_asks_ k_threads_ k_today k_day k_seen_ k_x k_y k_web k_asks k_threads k_seen _ (by omega) (by omega) (by omega) (by omega) (by omega) (by omega) hR0 hR1 hR2) kwV_X7_booksOfTest kM_RX7_106 rfl rfl ⟨Nat.le_of_ble_eq_true rfl, Nat.le_of_ble_eq_true rfl⟩ rfl hl.1 rfl (Nat.le_of_ble_eq_true rfl) dX7_booksSaid_172 ⟨hroom.1, hroom.2⟩) C.2.2.2.2.2.2.1 hP hD hS [0, 1, 2, 3, 4, 5, 6, 7, 8, 9, 10, 11, 12, 13, 14, 15] [] rfl rfl (by decide) (by decide) (fun r_49 u_48 H locs hw_50 hP hD hS => ?_)
              refine q_iast (g := upd g_5 x_3.toNatClampNeg r_49) (w' := [(j, .inr (7, [.int j_isTold, .int j_ones, .int j_size, .ref j_words_, .ref j_signs_, .ref j_values_, .ref j_stack_])), (j_words_, .inl (cy 1, 40, .inl j_words)), (j_signs_, .inl (cy 1, 40, .inl j_signs)), (j_values_, .inl (cy 1, 40, .inl j_values)), (j_stack_, .inl (cy 1, 40, .inl (upd g_5 x_3.toNatClampNeg r_49))), (h, .inr (6, [.int h_wide, .int h_high, .int h_law, .int h_spin, .int h_line, .int h_draught, .int h_books, .int h_rare, .ref h_quarrels_, .ref h_nameSizes_, .ref h_names_])), (h_quarrels_, .inl (cy 1, 8, .inl h_quarrels)), (h_nameSizes_, .inl (cy 1, 8, .inl h_nameSizes)), (h_names_, .inl (cy 1, 56, .inl h_names)), (k, .inr (8, [.ref k_x_, .ref k_y_, .ref k_web_, .ref k_asks_, .ref k_threads_, .int k_today, .int k_day, .ref k_seen_])), (k_x_, .inl (cy 1, 8, .inl k_x)), (k_y_, .inl (cy 1, 8, .inl k_y)), (k_web_, .inl (cy 1, 8, .inl k_web)), (k_asks_, .inl (cy 1, 8, .inl k_asks)), (k_threads_, .inl (cy 1, 64, .inl k_threads)), (k_seen_, .inl (cy 1, 8, .inl k_seen))]) C hP hD hS 4 rfl (o_in (rfl : x_3.toInt = x_3.toInt) (by omega) (by omega)) rfl rfl dX7_booksSaid_175 (fun H locs hP hD hS => ?_)
              generalize upd g_5 x_3.toNatClampNeg r_49 = g_51 at hP hD 
              have hP : va_P D vwCl [(j, .inr (7, [.int j_isTold, .int j_ones, .int j_size, .ref j_words_, .ref j_signs_, .ref j_values_, .ref j_stack_])), (j_words_, .inl (cy 1, 40, .inl j_words)), (j_signs_, .inl (cy 1, 40, .inl j_signs)), (j_values_, .inl (cy 1, 40, .inl j_values)), (j_stack_, .inl (cy 1, 40, .inl g_51)), (h, .inr (6, [.int h_wide, .int h_high, .int h_law, .int h_spin, .int h_line, .int h_draught, .int h_books, .int h_rare, .ref h_quarrels_, .ref h_nameSizes_, .ref h_names_])), (h_quarrels_, .inl (cy 1, 8, .inl h_quarrels)), (h_nameSizes_, .inl (cy 1, 8, .inl h_nameSizes)), (h_names_, .inl (cy 1, 56, .inl h_names)), (k, .inr (8, [.ref k_x_, .ref k_y_, .ref k_web_, .ref k_asks_, .ref k_threads_, .int k_today, .int k_day, .ref k_seen_])), (k_x_, .inl (cy 1, 8, .inl k_x)), (k_y_, .inl (cy 1, 8, .inl k_y)), (k_web_, .inl (cy 1, 8, .inl k_web)), (k_asks_, .inl (cy 1, 8, .inl k_asks)), (k_threads_, .inl (cy 1, 64, .inl k_threads)), (k_seen_, .inl (cy 1, 8, .inl k_seen))] H := hP
              have hD : va_D A [(j, .inr (7, [.int j_isTold, .int j_ones, .int j_size, .ref j_words_, .ref j_signs_, .ref j_values_, .ref j_stack_])), (j_words_, .inl (cy 1, 40, .inl j_words)), (j_signs_, .inl (cy 1, 40, .inl j_signs)), (j_values_, .inl (cy 1, 40, .inl j_values)), (j_stack_, .inl (cy 1, 40, .inl g_51)), (h, .inr (6, [.int h_wide, .int h_high, .int h_law, .int h_spin, .int h_line, .int h_draught, .int h_books, .int h_rare, .ref h_quarrels_, .ref h_nameSizes_, .ref h_names_])), (h_quarrels_, .inl (cy 1, 8, .inl h_quarrels)), (h_nameSizes_, .inl (cy 1, 8, .inl h_nameSizes)), (h_names_, .inl (cy 1, 56, .inl h_names)), (k, .inr (8, [.ref k_x_, .ref k_y_, .ref k_web_, .ref k_asks_, .ref k_threads_, .int k_today, .int k_day, .ref k_seen_])), (k_x_, .inl (cy 1, 8, .inl k_x)), (k_y_, .inl (cy 1, 8, .inl k_y)), (k_web_, .inl (cy 1, 8, .inl k_web)), (k_asks_, .inl (cy 1, 8, .inl k_asks)), (k_threads_, .inl (cy 1, 64, .inl k_threads)), (k_seen_, .inl (cy 1, 8, .inl k_seen))] := hD
              obtain ⟨z_52, hz_52⟩ : ∃ z : Int32, z = x_3 + 1 := ⟨_, rfl⟩
              refine lv_iinc (v := z_52) (lv' := [(4, .int z_52), (0, .ref j), (1, .ref h), (2, .ref k), (3, .int z_2), (5, .int x_4)]) hx hb dX7_booksSaid_176 hl (k := 4) rfl hz_52.symm (by decide) rfl (fun ls hl => ?_)
              have hz_52 := o_add hz_52 (rfl : x_3.toInt = x_3.toInt) (by decide : (1 : Int32).toInt = 1) (by omega) (by omega)
              obtain ⟨z_53, hz_53⟩ : ∃ z : Int32, z = x_4 + 1 := ⟨_, rfl⟩
              refine lv_iinc (v := z_53) (lv' := [(5, .int z_53), (4, .int z_52), (0, .ref j), (1, .ref h), (2, .ref k), (3, .int z_2)]) hx hb dX7_booksSaid_179 hl (k := 5) rfl hz_53.symm (by decide) rfl (fun ls hl => ?_)
              have hz_53 := o_add hz_53 (rfl : x_4.toInt = x_4.toInt) (by decide : (1 : Int32).toInt = 1) (by omega) (by omega)
              refine lv_goto (tgt := 15) hx hb dX7_booksSaid_182 (by decide) ?_
              exact ih_10 z_52 z_53 g_51 H locs ls (by omega) (by omega) (by omega) hP hD hS (lv_sub hl [2, 3, 4, 5, 1, 0] rfl)
            refine lv_icmp_eq (tgt := 85) hx hb dX7_booksSaid_75 (by decide) (fun c_0 => absurd c_0 (o_mne (rfl : z_15.toInt = z_15.toInt) (by decide : (16 : Int32).toInt = 16) (by omega))) (fun _ => ?_)
            refine lv_iload hx hb dX7_booksSaid_78 (lv_at hl 0 rfl) ?_
            refine lv_bipush (v := 15) hx hb dX7_booksSaid_80 (by decide) ?_
            refine lv_icmp_ne (tgt := 154) hx hb dX7_booksSaid_82 (by decide) (fun _ => ?_) (fun c_0 => absurd c_0 (o_mne (rfl : z_15.toInt = z_15.toInt) (by decide : (15 : Int32).toInt = 15) (by omega)))
            exact cut_154_46  H locs ls   hP hD hS (lv_sub hl [1, 2, 3, 4, 5, 6] rfl)
          · have hc_46 := o_nlt (rfl : x_3.toInt = x_3.toInt) (by decide : (1 : Int32).toInt = 1) c_46
            refine lv_aload_n hx hb dX7_booksSaid_46 rfl (lv_at hl 1 rfl) ?_
            refine q_get (v := .ref j_stack_) C hP 0 6 rfl rfl inX7 (by decide) kF_RX7_32 rfl rfl dX7_booksSaid_47 ?_
            refine lv_iload hx hb dX7_booksSaid_50 (lv_at hl 5 rfl) ?_
            refine lv_iconst (v := 1) hx hb dX7_booksSaid_52 (by decide) ?_
            refine lv_isub hx hb dX7_booksSaid_53 ?_
            refine lv_topi (fun z_54 hz_54 => ?_)
            have hz_54 := o_sub hz_54 (rfl : x_3.toInt = x_3.toInt) (by decide : (1 : Int32).toInt = 1) (by omega) (by omega)
            refine lv_iload_n hx hb dX7_booksSaid_54 rfl (lv_at hl 4 rfl) ?_
            refine lv_aload_n hx hb dX7_booksSaid_55 rfl (lv_at hl 1 rfl) ?_
            refine q_get (v := .ref j_stack_) C hP 0 6 rfl rfl inX7 (by decide) kF_RX7_32 rfl rfl dX7_booksSaid_56 ?_
            refine lv_iload hx hb dX7_booksSaid_59 (lv_at hl 5 rfl) ?_
            refine lv_iconst (v := 1) hx hb dX7_booksSaid_61 (by decide) ?_
            refine lv_isub hx hb dX7_booksSaid_62 ?_
            refine lv_topi (fun z_55 hz_55 => ?_)
            have hz_55 := o_sub hz_55 (rfl : x_3.toInt = x_3.toInt) (by decide : (1 : Int32).toInt = 1) (by omega) (by omega)
            refine q_iald (v := g_5 z_55.toNatClampNeg) C hP 4 rfl (o_in (rfl : z_55.toInt = z_55.toInt) (by omega) (by omega)) rfl dX7_booksSaid_63 ?_
            refine lv_topi (fun z_56 ez_56 => ?_)
            refine lv_iconst (v := (-1)) hx hb dX7_booksSaid_64 (by decide) ?_
            refine lv_ixor hx hb dX7_booksSaid_65 ?_
            refine lv_topi (fun z_57 hz_57 => ?_)
            clear hz_57
            refine lv_iand hx hb dX7_booksSaid_66 ?_
            refine lv_topi (fun z_58 hz_58 => ?_)
            clear hz_58
            refine q_iast (g := upd g_5 z_54.toNatClampNeg z_58) (w' := [(j, .inr (7, [.int j_isTold, .int j_ones, .int j_size, .ref j_words_, .ref j_signs_, .ref j_values_, .ref j_stack_])), (j_words_, .inl (cy 1, 40, .inl j_words)), (j_signs_, .inl (cy 1, 40, .inl j_signs)), (j_values_, .inl (cy 1, 40, .inl j_values)), (j_stack_, .inl (cy 1, 40, .inl (upd g_5 z_54.toNatClampNeg z_58))), (h, .inr (6, [.int h_wide, .int h_high, .int h_law, .int h_spin, .int h_line, .int h_draught, .int h_books, .int h_rare, .ref h_quarrels_, .ref h_nameSizes_, .ref h_names_])), (h_quarrels_, .inl (cy 1, 8, .inl h_quarrels)), (h_nameSizes_, .inl (cy 1, 8, .inl h_nameSizes)), (h_names_, .inl (cy 1, 56, .inl h_names)), (k, .inr (8, [.ref k_x_, .ref k_y_, .ref k_web_, .ref k_asks_, .ref k_threads_, .int k_today, .int k_day, .ref k_seen_])), (k_x_, .inl (cy 1, 8, .inl k_x)), (k_y_, .inl (cy 1, 8, .inl k_y)), (k_web_, .inl (cy 1, 8, .inl k_web)), (k_asks_, .inl (cy 1, 8, .inl k_asks)), (k_threads_, .inl (cy 1, 64, .inl k_threads)), (k_seen_, .inl (cy 1, 8, .inl k_seen))]) C hP hD hS 4 rfl (o_in (rfl : z_54.toInt = z_54.toInt) (by omega) (by omega)) rfl rfl dX7_booksSaid_67 (fun H locs hP hD hS => ?_)
            generalize upd g_5 z_54.toNatClampNeg z_58 = g_59 at hP hD 
            have hP : va_P D vwCl [(j, .inr (7, [.int j_isTold, .int j_ones, .int j_size, .ref j_words_, .ref j_signs_, .ref j_values_, .ref j_stack_])), (j_words_, .inl (cy 1, 40, .inl j_words)), (j_signs_, .inl (cy 1, 40, .inl j_signs)), (j_values_, .inl (cy 1, 40, .inl j_values)), (j_stack_, .inl (cy 1, 40, .inl g_59)), (h, .inr (6, [.int h_wide, .int h_high, .int h_law, .int h_spin, .int h_line, .int h_draught, .int h_books, .int h_rare, .ref h_quarrels_, .ref h_nameSizes_, .ref h_names_])), (h_quarrels_, .inl (cy 1, 8, .inl h_quarrels)), (h_nameSizes_, .inl (cy 1, 8, .inl h_nameSizes)), (h_names_, .inl (cy 1, 56, .inl h_names)), (k, .inr (8, [.ref k_x_, .ref k_y_, .ref k_web_, .ref k_asks_, .ref k_threads_, .int k_today, .int k_day, .ref k_seen_])), (k_x_, .inl (cy 1, 8, .inl k_x)), (k_y_, .inl (cy 1, 8, .inl k_y)), (k_web_, .inl (cy 1, 8, .inl k_web)), (k_asks_, .inl (cy 1, 8, .inl k_asks)), (k_threads_, .inl (cy 1, 64, .inl k_threads)), (k_seen_, .inl (cy 1, 8, .inl k_seen))] H := hP
            have hD : va_D A [(j, .inr (7, [.int j_isTold, .int j_ones, .int j_size, .ref j_words_, .ref j_signs_, .ref j_values_, .ref j_stack_])), (j_words_, .inl (cy 1, 40, .inl j_words)), (j_signs_, .inl (cy 1, 40, .inl j_signs)), (j_values_, .inl (cy 1, 40, .inl j_values)), (j_stack_, .inl (cy 1, 40, .inl g_59)), (h, .inr (6, [.int h_wide, .int h_high, .int h_law, .int h_spin, .int h_line, .int h_draught, .int h_books, .int h_rare, .ref h_quarrels_, .ref h_nameSizes_, .ref h_names_])), (h_quarrels_, .inl (cy 1, 8, .inl h_quarrels)), (h_nameSizes_, .inl (cy 1, 8, .inl h_nameSizes)), (h_names_, .inl (cy 1, 56, .inl h_names)), (k, .inr (8, [.ref k_x_, .ref k_y_, .ref k_web_, .ref k_asks_, .ref k_threads_, .int k_today, .int k_day, .ref k_seen_])), (k_x_, .inl (cy 1, 8, .inl k_x)), (k_y_, .inl (cy 1, 8, .inl k_y)), (k_web_, .inl (cy 1, 8, .inl k_web)), (k_asks_, .inl (cy 1, 8, .inl k_asks)), (k_threads_, .inl (cy 1, 64, .inl k_threads)), (k_seen_, .inl (cy 1, 8, .inl k_seen))] := hD
            refine lv_goto (tgt := 179) hx hb dX7_booksSaid_68 (by decide) ?_
            obtain ⟨z_60, hz_60⟩ : ∃ z : Int32, z = x_4 + 1 := ⟨_, rfl⟩
            refine lv_iinc (v := z_60) (lv' := [(5, .int z_60), (6, .int z_15), (0, .ref j), (1, .ref h), (2, .ref k), (3, .int z_2), (4, .int x_3)]) hx hb dX7_booksSaid_179 hl (k := 6) rfl hz_60.symm (by decide) rfl (fun ls hl => ?_)
            have hz_60 := o_add hz_60 (rfl : x_4.toInt = x_4.toInt) (by decide : (1 : Int32).toInt = 1) (by omega) (by omega)
            refine lv_goto (tgt := 15) hx hb dX7_booksSaid_182 (by decide) ?_
            exact ih_10 x_3 z_60 g_59 H locs ls (by omega) (by omega) (by omega) hP hD hS (lv_sub hl [2, 3, 4, 5, 6, 0] rfl)
  exact lp_15_5 41 (0 : Int32) (0 : Int32) j_stack H locs ls (by have e0 : (0 : Int32).toInt = 0 := (by decide); omega) (by have e0 : (0 : Int32).toInt = 0 := (by decide); omega) (by have e0 : (0 : Int32).toInt = 0 := (by decide); omega) hP hD hS (lv_sub hl [3, 4, 5, 2, 1, 0] rfl)
theorem o_booksSaid (l : Launch) (D : va_G) (cy : Nat → ClassId) (j : Nat) (h : Nat) (k : Nat) (j_isTold : Int32) (j_ones : Int32) (j_size : Int32) (j_words_ : Nat) (j_signs_ : Nat) (j_values_ : Nat) (j_stack_ : Nat) (j_words : Nat → Int32) (j_signs : Nat → Int32) (j_values : Nat → Int32) (j_stack : Nat → Int32) (h_wide : Int32) (h_high : Int32) (h_law : Int32) (h_spin : Int32) (h_line : Int32) (h_draught : Int32) (h_books : Int32) (h_rare : Int32) (h_quarrels_ : Nat) (h_nameSizes_ : Nat) (h_names_ : Nat) (h_quarrels : Nat → Int32) (h_nameSizes : Nat → Int32) (h_names : Nat → Int32) (k_x_ : Nat) (k_y_ : Nat) (k_web_ : Nat) (k_asks_ : Nat) (k_threads_ : Nat) (k_today : Int32) (k_day : Int32) (k_seen_ : Nat) (k_x : Nat → Int32) (k_y : Nat → Int32) (k_web : Nat → Int32) (k_asks : Nat → Int32) (k_threads : Nat → Int32) (k_seen : Nat → Int32) (sz : Nat) (hb0 : 0 ≤ j_isTold.toInt ∧ j_isTold.toInt ≤ 1) (hb1 : 0 ≤ j_size.toInt ∧ j_size.toInt ≤ 40) (hb2 : 0 ≤ h_wide.toInt ∧ h_wide.toInt ≤ 6) (hb3 : 0 ≤ h_high.toInt ∧ h_high.toInt ≤ 6) (hb4 : 0 ≤ h_books.toInt ∧ h_books.toInt ≤ 8) (hR0 : Rg h_nameSizes 0 8 (-900) 7) (hR1 : Rg k_x 0 8 0 5) (hR2 : Rg k_y 0 8 0 5) : MI l yX7_booksSaid cX7_booksSaid 8 (some .int) (Rm 4 94 0 0) D cy [.ref j, .ref h, .ref k] sz [(j, .inr (7, [.int j_isTold, .int j_ones, .int j_size, .ref j_words_, .ref j_signs_, .ref j_values_, .ref j_stack_])), (j_words_, .inl (cy 1, 40, .inl j_words)), (j_signs_, .inl (cy 1, 40, .inl j_signs)), (j_values_, .inl (cy 1, 40, .inl j_values)), (j_stack_, .inl (cy 1, 40, .inl j_stack)), (h, .inr (6, [.int h_wide, .int h_high, .int h_law, .int h_spin, .int h_line, .int h_draught, .int h_books, .int h_rare, .ref h_quarrels_, .ref h_nameSizes_, .ref h_names_])), (h_quarrels_, .inl (cy 1, 8, .inl h_quarrels)), (h_nameSizes_, .inl (cy 1, 8, .inl h_nameSizes)), (h_names_, .inl (cy 1, 56, .inl h_names)), (k, .inr (8, [.ref k_x_, .ref k_y_, .ref k_web_, .ref k_asks_, .ref k_threads_, .int k_today, .int k_day, .ref k_seen_])), (k_x_, .inl (cy 1, 8, .inl k_x)), (k_y_, .inl (cy 1, 8, .inl k_y)), (k_web_, .inl (cy 1, 8, .inl k_web)), (k_asks_, .inl (cy 1, 8, .inl k_asks)), (k_threads_, .inl (cy 1, 64, .inl k_threads)), (k_seen_, .inl (cy 1, 8, .inl k_seen))] (fun (r : Int32) (u : (Nat → Int32)) => True) (fun u : (Nat → Int32) => [(j, .inr (7, [.int j_isTold, .int j_ones, .int j_size, .ref j_words_, .ref j_signs_, .ref j_values_, .ref j_stack_])), (j_words_, .inl (cy 1, 40, .inl j_words)), (j_signs_, .inl (cy 1, 40, .inl j_signs)), (j_values_, .inl (cy 1, 40, .inl j_values)), (j_stack_, .inl (cy 1, 40, .inl u)), (h, .inr (6, [.int h_wide, .int h_high, .int h_law, .int h_spin, .int h_line, .int h_draught, .int h_books, .int h_rare, .ref h_quarrels_, .ref h_nameSizes_, .ref h_names_])), (h_quarrels_, .inl (cy 1, 8, .inl h_quarrels)), (h_nameSizes_, .inl (cy 1, 8, .inl h_nameSizes)), (h_names_, .inl (cy 1, 56, .inl h_names)), (k, .inr (8, [.ref k_x_, .ref k_y_, .ref k_web_, .ref k_asks_, .ref k_threads_, .int k_today, .int k_day, .ref k_seen_])), (k_x_, .inl (cy 1, 8, .inl k_x)), (k_y_, .inl (cy 1, 8, .inl k_y)), (k_web_, .inl (cy 1, 8, .inl k_web)), (k_asks_, .inl (cy 1, 8, .inl k_asks)), (k_threads_, .inl (cy 1, 64, .inl k_threads)), (k_seen_, .inl (cy 1, 8, .inl k_seen))]) := by
  refine MI.enter (by decide) (Nat.le_of_ble_eq_true rfl) ?_
  intro p e s m below meth c ls A hsz hAe C hP hD hS hl
  exact b_o_booksSaid l D cy j h k j_isTold j_ones j_size j_words_ j_signs_ j_values_ j_stack_ j_words j_signs j_values j_stack h_wide h_high h_law h_spin h_line h_draught h_books h_rare h_quarrels_ h_nameSizes_ h_names_ h_quarrels h_nameSizes h_names k_x_ k_y_ k_web_ k_asks_ k_threads_ k_today k_day k_seen_ k_x k_y k_web k_asks k_threads k_seen hb0 hb1 hb2 hb3 hb4 hR0 hR1 hR2 ⟨Nat.le_of_ble_eq_true rfl, Nat.le_of_ble_eq_true rfl⟩ C rfl _ _ ls hP hD hS hl
