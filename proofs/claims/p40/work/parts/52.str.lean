theorem dJ0_coder_7d493_0 : decode cJ0_coder_7d493 0 = .ok (.getstatic 38, 3) := by decide +kernel
theorem kF_RJ0_38 : Cond.fieldLink RJ0 38 "java/lang/String" "COMPACT_STRINGS" "Z" ∈ gT := List.mem_filter.mpr ⟨List.mem_of_getElem? (i := 688) (by decide +kernel), by decide +kernel⟩
theorem dJ0_coder_7d493_3 : decode cJ0_coder_7d493 3 = .ok (.ifCond .eq 10, 3) := by decide +kernel
theorem dJ0_coder_7d493_6 : decode cJ0_coder_7d493 6 = .ok (.aload_n 0, 1) := by decide +kernel
theorem dJ0_coder_7d493_7 : decode cJ0_coder_7d493 7 = .ok (.getfield 15, 3) := by decide +kernel
theorem kF_RJ0_15 : Cond.fieldLink RJ0 15 "java/lang/String" "coder" "B" ∈ gT := List.mem_filter.mpr ⟨List.mem_of_getElem? (i := 2164) (by decide +kernel), by decide +kernel⟩
theorem dJ0_coder_7d493_10 : decode cJ0_coder_7d493 10 = .ok (.goto 4, 3) := by decide +kernel
theorem dJ0_coder_7d493_14 : decode cJ0_coder_7d493 14 = .ok (.ireturn, 1) := by decide +kernel
theorem dJ0_length_8abf5_0 : decode cJ0_length_8abf5 0 = .ok (.aload_n 0, 1) := by decide +kernel
theorem dJ0_length_8abf5_1 : decode cJ0_length_8abf5 1 = .ok (.getfield 9, 3) := by decide +kernel
theorem kF_RJ0_9 : Cond.fieldLink RJ0 9 "java/lang/String" "value" "[B" ∈ gT := List.mem_filter.mpr ⟨List.mem_of_getElem? (i := 2163) (by decide +kernel), by decide +kernel⟩
theorem dJ0_length_8abf5_4 : decode cJ0_length_8abf5 4 = .ok (.arraylength, 1) := by decide +kernel
theorem dJ0_length_8abf5_5 : decode cJ0_length_8abf5 5 = .ok (.aload_n 0, 1) := by decide +kernel
theorem dJ0_length_8abf5_6 : decode cJ0_length_8abf5 6 = .ok (.invokevirtual 335, 3) := by decide +kernel
theorem kwV_J0_coder_7d493 : MwV RJ0 yJ0_coder_7d493 cJ0_coder_7d493 1 (some .byte) 0 := ⟨List.mem_filter.mpr ⟨List.mem_of_getElem? (i := 687) (by decide +kernel), by decide +kernel⟩, List.mem_filter.mpr ⟨List.mem_of_getElem? (i := 685) (by decide +kernel), by decide +kernel⟩, List.mem_filter.mpr ⟨List.mem_of_getElem? (i := 686) (by decide +kernel), by decide +kernel⟩, List.mem_filter.mpr ⟨List.mem_of_getElem? (i := 141) (by decide +kernel), by decide +kernel⟩, by decide +kernel⟩
theorem kM_RJ0_335 : Cond.methodLink RJ0 335 yJ0_coder_7d493 ∈ gT := List.mem_filter.mpr ⟨List.mem_of_getElem? (i := 684) (by decide +kernel), by decide +kernel⟩
theorem dJ0_length_8abf5_9 : decode cJ0_length_8abf5 9 = .ok (.ishr, 1) := by decide +kernel
theorem dJ0_length_8abf5_10 : decode cJ0_length_8abf5 10 = .ok (.ireturn, 1) := by decide +kernel
theorem dJ0_isLatin1_aae02_0 : decode cJ0_isLatin1_aae02 0 = .ok (.getstatic 38, 3) := by decide +kernel
theorem dJ0_isLatin1_aae02_3 : decode cJ0_isLatin1_aae02 3 = .ok (.ifCond .eq 14, 3) := by decide +kernel
theorem dJ0_isLatin1_aae02_6 : decode cJ0_isLatin1_aae02 6 = .ok (.aload_n 0, 1) := by decide +kernel
theorem dJ0_isLatin1_aae02_7 : decode cJ0_isLatin1_aae02 7 = .ok (.getfield 15, 3) := by decide +kernel
theorem dJ0_isLatin1_aae02_10 : decode cJ0_isLatin1_aae02 10 = .ok (.ifCond .ne 7, 3) := by decide +kernel
theorem dJ0_isLatin1_aae02_13 : decode cJ0_isLatin1_aae02 13 = .ok (.iconst 1, 1) := by decide +kernel
theorem dJ0_isLatin1_aae02_14 : decode cJ0_isLatin1_aae02 14 = .ok (.goto 4, 3) := by decide +kernel
theorem dJ0_isLatin1_aae02_18 : decode cJ0_isLatin1_aae02 18 = .ok (.ireturn, 1) := by decide +kernel
theorem dJ3_checkIndex_8e157_0 : decode cJ3_checkIndex_8e157 0 = .ok (.iload_n 0, 1) := by decide +kernel
theorem dJ3_checkIndex_8e157_1 : decode cJ3_checkIndex_8e157 1 = .ok (.ifCond .lt 8, 3) := by decide +kernel
theorem dJ3_checkIndex_8e157_4 : decode cJ3_checkIndex_8e157 4 = .ok (.iload_n 0, 1) := by decide +kernel
theorem dJ3_checkIndex_8e157_5 : decode cJ3_checkIndex_8e157 5 = .ok (.iload_n 1, 1) := by decide +kernel
theorem dJ3_checkIndex_8e157_6 : decode cJ3_checkIndex_8e157 6 = .ok (.if_icmp .lt 10, 3) := by decide +kernel
theorem dJ3_checkIndex_8e157_16 : decode cJ3_checkIndex_8e157 16 = .ok (.iload_n 0, 1) := by decide +kernel
theorem dJ3_checkIndex_8e157_17 : decode cJ3_checkIndex_8e157 17 = .ok (.ireturn, 1) := by decide +kernel
theorem dJ0_checkIndex_df160_0 : decode cJ0_checkIndex_df160 0 = .ok (.iload_n 0, 1) := by decide +kernel
theorem dJ0_checkIndex_df160_1 : decode cJ0_checkIndex_df160 1 = .ok (.iload_n 1, 1) := by decide +kernel
theorem dJ0_checkIndex_df160_2 : decode cJ0_checkIndex_df160 2 = .ok (.getstatic 1053, 3) := by decide +kernel
theorem kF_RJ0_1053 : Cond.fieldLink RJ0 1053 "jdk/internal/util/Preconditions" "SIOOBE_FORMATTER" "Ljava/util/function/BiFunction;" ∈ gT := List.mem_filter.mpr ⟨List.mem_of_getElem? (i := 704) (by decide +kernel), by decide +kernel⟩
theorem dJ0_checkIndex_df160_5 : decode cJ0_checkIndex_df160 5 = .ok (.invokestatic 1059, 3) := by decide +kernel
theorem kwS_J3_checkIndex_8e157 : MwS yJ3_checkIndex_8e157 cJ3_checkIndex_8e157 3 (some .int) 3 := ⟨List.mem_filter.mpr ⟨List.mem_of_getElem? (i := 708) (by decide +kernel), by decide +kernel⟩, List.mem_filter.mpr ⟨List.mem_of_getElem? (i := 707) (by decide +kernel), by decide +kernel⟩, List.mem_filter.mpr ⟨List.mem_of_getElem? (i := 143) (by decide +kernel), by decide +kernel⟩, by decide +kernel⟩
theorem kM_RJ0_1059 : Cond.methodLink RJ0 1059 yJ3_checkIndex_8e157 ∈ gT := List.mem_filter.mpr ⟨List.mem_of_getElem? (i := 706) (by decide +kernel), by decide +kernel⟩
theorem dJ0_checkIndex_df160_8 : decode cJ0_checkIndex_df160 8 = .ok (.pop, 1) := by decide +kernel
theorem dJ0_checkIndex_df160_9 : decode cJ0_checkIndex_df160 9 = .ok (.return_, 1) := by decide +kernel
theorem dJ1_charAt_3b067_0 : decode cJ1_charAt_3b067 0 = .ok (.iload_n 1, 1) := by decide +kernel
theorem dJ1_charAt_3b067_1 : decode cJ1_charAt_3b067 1 = .ok (.aload_n 0, 1) := by decide +kernel
theorem dJ1_charAt_3b067_2 : decode cJ1_charAt_3b067 2 = .ok (.arraylength, 1) := by decide +kernel
theorem dJ1_charAt_3b067_3 : decode cJ1_charAt_3b067 3 = .ok (.invokestatic 9, 3) := by decide +kernel
theorem kwS_J0_checkIndex_df160 : MwS yJ0_checkIndex_df160 cJ0_checkIndex_df160 2 none 2 := ⟨List.mem_filter.mpr ⟨List.mem_of_getElem? (i := 703) (by decide +kernel), by decide +kernel⟩, List.mem_filter.mpr ⟨List.mem_of_getElem? (i := 702) (by decide +kernel), by decide +kernel⟩, List.mem_filter.mpr ⟨List.mem_of_getElem? (i := 141) (by decide +kernel), by decide +kernel⟩, by decide +kernel⟩
theorem kM_RJ1_9 : Cond.methodLink RJ1 9 yJ0_checkIndex_df160 ∈ gT := List.mem_filter.mpr ⟨List.mem_of_getElem? (i := 701) (by decide +kernel), by decide +kernel⟩
theorem dJ1_charAt_3b067_6 : decode cJ1_charAt_3b067 6 = .ok (.aload_n 0, 1) := by decide +kernel
theorem dJ1_charAt_3b067_7 : decode cJ1_charAt_3b067 7 = .ok (.iload_n 1, 1) := by decide +kernel
theorem dJ1_charAt_3b067_8 : decode cJ1_charAt_3b067 8 = .ok (.baload, 1) := by decide +kernel
theorem dJ1_charAt_3b067_9 : decode cJ1_charAt_3b067 9 = .ok (.sipush 255, 3) := by decide +kernel
theorem dJ1_charAt_3b067_12 : decode cJ1_charAt_3b067 12 = .ok (.iand, 1) := by decide +kernel
theorem dJ1_charAt_3b067_13 : decode cJ1_charAt_3b067 13 = .ok (.i2c, 1) := by decide +kernel
theorem dJ1_charAt_3b067_14 : decode cJ1_charAt_3b067 14 = .ok (.ireturn, 1) := by decide +kernel
theorem dJ0_charAt_5068e_0 : decode cJ0_charAt_5068e 0 = .ok (.aload_n 0, 1) := by decide +kernel
theorem dJ0_charAt_5068e_1 : decode cJ0_charAt_5068e 1 = .ok (.invokevirtual 492, 3) := by decide +kernel
theorem kwV_J0_isLatin1_aae02 : MwV RJ0 yJ0_isLatin1_aae02 cJ0_isLatin1_aae02 1 (some .boolean) 0 := ⟨List.mem_filter.mpr ⟨List.mem_of_getElem? (i := 697) (by decide +kernel), by decide +kernel⟩, List.mem_filter.mpr ⟨List.mem_of_getElem? (i := 695) (by decide +kernel), by decide +kernel⟩, List.mem_filter.mpr ⟨List.mem_of_getElem? (i := 696) (by decide +kernel), by decide +kernel⟩, List.mem_filter.mpr ⟨List.mem_of_getElem? (i := 141) (by decide +kernel), by decide +kernel⟩, by decide +kernel⟩
theorem kM_RJ0_492 : Cond.methodLink RJ0 492 yJ0_isLatin1_aae02 ∈ gT := List.mem_filter.mpr ⟨List.mem_of_getElem? (i := 694) (by decide +kernel), by decide +kernel⟩
theorem dJ0_charAt_5068e_4 : decode cJ0_charAt_5068e 4 = .ok (.ifCond .eq 12, 3) := by decide +kernel
theorem dJ0_charAt_5068e_7 : decode cJ0_charAt_5068e 7 = .ok (.aload_n 0, 1) := by decide +kernel
theorem dJ0_charAt_5068e_8 : decode cJ0_charAt_5068e 8 = .ok (.getfield 9, 3) := by decide +kernel
theorem dJ0_charAt_5068e_11 : decode cJ0_charAt_5068e 11 = .ok (.iload_n 1, 1) := by decide +kernel
theorem dJ0_charAt_5068e_12 : decode cJ0_charAt_5068e 12 = .ok (.invokestatic 495, 3) := by decide +kernel
theorem kwS_J1_charAt_3b067 : MwS yJ1_charAt_3b067 cJ1_charAt_3b067 2 (some .char) 2 := ⟨List.mem_filter.mpr ⟨List.mem_of_getElem? (i := 700) (by decide +kernel), by decide +kernel⟩, List.mem_filter.mpr ⟨List.mem_of_getElem? (i := 699) (by decide +kernel), by decide +kernel⟩, List.mem_filter.mpr ⟨List.mem_of_getElem? (i := 142) (by decide +kernel), by decide +kernel⟩, by decide +kernel⟩
theorem kM_RJ0_495 : Cond.methodLink RJ0 495 yJ1_charAt_3b067 ∈ gT := List.mem_filter.mpr ⟨List.mem_of_getElem? (i := 698) (by decide +kernel), by decide +kernel⟩
theorem dJ0_charAt_5068e_15 : decode cJ0_charAt_5068e 15 = .ok (.ireturn, 1) := by decide +kernel
theorem dJ6_bitCount_0f7a4_0 : decode cJ6_bitCount_0f7a4 0 = .ok (.iload_n 0, 1) := by decide +kernel
theorem dJ6_bitCount_0f7a4_1 : decode cJ6_bitCount_0f7a4 1 = .ok (.iload_n 0, 1) := by decide +kernel
theorem dJ6_bitCount_0f7a4_2 : decode cJ6_bitCount_0f7a4 2 = .ok (.iconst 1, 1) := by decide +kernel
theorem dJ6_bitCount_0f7a4_3 : decode cJ6_bitCount_0f7a4 3 = .ok (.iushr, 1) := by decide +kernel
theorem dJ6_bitCount_0f7a4_4 : decode cJ6_bitCount_0f7a4 4 = .ok (.ldc_w 265, 3) := by decide +kernel
theorem kC_RJ6_265 : Cond.constant RJ6 265 (1431655765 : Int32) ∈ gT := List.mem_filter.mpr ⟨List.mem_of_getElem? (i := 791) (by decide +kernel), by decide +kernel⟩
theorem dJ6_bitCount_0f7a4_7 : decode cJ6_bitCount_0f7a4 7 = .ok (.iand, 1) := by decide +kernel
theorem dJ6_bitCount_0f7a4_8 : decode cJ6_bitCount_0f7a4 8 = .ok (.isub, 1) := by decide +kernel
theorem dJ6_bitCount_0f7a4_9 : decode cJ6_bitCount_0f7a4 9 = .ok (.istore_n 0, 1) := by decide +kernel
theorem dJ6_bitCount_0f7a4_10 : decode cJ6_bitCount_0f7a4 10 = .ok (.iload_n 0, 1) := by decide +kernel
theorem dJ6_bitCount_0f7a4_11 : decode cJ6_bitCount_0f7a4 11 = .ok (.ldc_w 266, 3) := by decide +kernel
theorem kC_RJ6_266 : Cond.constant RJ6 266 (858993459 : Int32) ∈ gT := List.mem_filter.mpr ⟨List.mem_of_getElem? (i := 792) (by decide +kernel), by decide +kernel⟩
theorem dJ6_bitCount_0f7a4_14 : decode cJ6_bitCount_0f7a4 14 = .ok (.iand, 1) := by decide +kernel
theorem dJ6_bitCount_0f7a4_15 : decode cJ6_bitCount_0f7a4 15 = .ok (.iload_n 0, 1) := by decide +kernel
theorem dJ6_bitCount_0f7a4_16 : decode cJ6_bitCount_0f7a4 16 = .ok (.iconst 2, 1) := by decide +kernel
theorem dJ6_bitCount_0f7a4_17 : decode cJ6_bitCount_0f7a4 17 = .ok (.iushr, 1) := by decide +kernel
theorem dJ6_bitCount_0f7a4_18 : decode cJ6_bitCount_0f7a4 18 = .ok (.ldc_w 266, 3) := by decide +kernel
theorem dJ6_bitCount_0f7a4_21 : decode cJ6_bitCount_0f7a4 21 = .ok (.iand, 1) := by decide +kernel
theorem dJ6_bitCount_0f7a4_22 : decode cJ6_bitCount_0f7a4 22 = .ok (.iadd, 1) := by decide +kernel
theorem dJ6_bitCount_0f7a4_23 : decode cJ6_bitCount_0f7a4 23 = .ok (.istore_n 0, 1) := by decide +kernel
theorem dJ6_bitCount_0f7a4_24 : decode cJ6_bitCount_0f7a4 24 = .ok (.iload_n 0, 1) := by decide +kernel
theorem dJ6_bitCount_0f7a4_25 : decode cJ6_bitCount_0f7a4 25 = .ok (.iload_n 0, 1) := by decide +kernel
theorem dJ6_bitCount_0f7a4_26 : decode cJ6_bitCount_0f7a4 26 = .ok (.iconst 4, 1) := by decide +kernel
theorem dJ6_bitCount_0f7a4_27 : decode cJ6_bitCount_0f7a4 27 = .ok (.iushr, 1) := by decide +kernel
theorem dJ6_bitCount_0f7a4_28 : decode cJ6_bitCount_0f7a4 28 = .ok (.iadd, 1) := by decide +kernel
theorem dJ6_bitCount_0f7a4_29 : decode cJ6_bitCount_0f7a4 29 = .ok (.ldc_w 267, 3) := by decide +kernel
theorem kC_RJ6_267 : Cond.constant RJ6 267 (252645135 : Int32) ∈ gT := List.mem_filter.mpr ⟨List.mem_of_getElem? (i := 793) (by decide +kernel), by decide +kernel⟩
theorem dJ6_bitCount_0f7a4_32 : decode cJ6_bitCount_0f7a4 32 = .ok (.iand, 1) := by decide +kernel
theorem dJ6_bitCount_0f7a4_33 : decode cJ6_bitCount_0f7a4 33 = .ok (.istore_n 0, 1) := by decide +kernel
theorem dJ6_bitCount_0f7a4_34 : decode cJ6_bitCount_0f7a4 34 = .ok (.iload_n 0, 1) := by decide +kernel
theorem dJ6_bitCount_0f7a4_35 : decode cJ6_bitCount_0f7a4 35 = .ok (.iload_n 0, 1) := by decide +kernel
theorem dJ6_bitCount_0f7a4_36 : decode cJ6_bitCount_0f7a4 36 = .ok (.bipush 8, 2) := by decide +kernel
theorem dJ6_bitCount_0f7a4_38 : decode cJ6_bitCount_0f7a4 38 = .ok (.iushr, 1) := by decide +kernel
theorem dJ6_bitCount_0f7a4_39 : decode cJ6_bitCount_0f7a4 39 = .ok (.iadd, 1) := by decide +kernel
theorem dJ6_bitCount_0f7a4_40 : decode cJ6_bitCount_0f7a4 40 = .ok (.istore_n 0, 1) := by decide +kernel
theorem dJ6_bitCount_0f7a4_41 : decode cJ6_bitCount_0f7a4 41 = .ok (.iload_n 0, 1) := by decide +kernel
theorem dJ6_bitCount_0f7a4_42 : decode cJ6_bitCount_0f7a4 42 = .ok (.iload_n 0, 1) := by decide +kernel
theorem dJ6_bitCount_0f7a4_43 : decode cJ6_bitCount_0f7a4 43 = .ok (.bipush 16, 2) := by decide +kernel
theorem dJ6_bitCount_0f7a4_45 : decode cJ6_bitCount_0f7a4 45 = .ok (.iushr, 1) := by decide +kernel
theorem dJ6_bitCount_0f7a4_46 : decode cJ6_bitCount_0f7a4 46 = .ok (.iadd, 1) := by decide +kernel
theorem dJ6_bitCount_0f7a4_47 : decode cJ6_bitCount_0f7a4 47 = .ok (.istore_n 0, 1) := by decide +kernel
theorem dJ6_bitCount_0f7a4_48 : decode cJ6_bitCount_0f7a4 48 = .ok (.iload_n 0, 1) := by decide +kernel
theorem dJ6_bitCount_0f7a4_49 : decode cJ6_bitCount_0f7a4 49 = .ok (.bipush 63, 2) := by decide +kernel
theorem dJ6_bitCount_0f7a4_51 : decode cJ6_bitCount_0f7a4 51 = .ok (.iand, 1) := by decide +kernel
theorem dJ6_bitCount_0f7a4_52 : decode cJ6_bitCount_0f7a4 52 = .ok (.ireturn, 1) := by decide +kernel
theorem dX10_sizeOf_0 : decode cX10_sizeOf 0 = .ok (.iload_n 0, 1) := by decide +kernel
theorem dX10_sizeOf_1 : decode cX10_sizeOf 1 = .ok (.invokestatic 400, 3) := by decide +kernel
theorem kwS_J6_bitCount_0f7a4 : MwS yJ6_bitCount_0f7a4 cJ6_bitCount_0f7a4 1 (some .int) 1 := ⟨List.mem_filter.mpr ⟨List.mem_of_getElem? (i := 790) (by decide +kernel), by decide +kernel⟩, List.mem_filter.mpr ⟨List.mem_of_getElem? (i := 789) (by decide +kernel), by decide +kernel⟩, List.mem_filter.mpr ⟨List.mem_of_getElem? (i := 145) (by decide +kernel), by decide +kernel⟩, by decide +kernel⟩
theorem kM_RX10_400 : Cond.methodLink RX10 400 yJ6_bitCount_0f7a4 ∈ gT := List.mem_filter.mpr ⟨List.mem_of_getElem? (i := 788) (by decide +kernel), by decide +kernel⟩
theorem dX10_sizeOf_4 : decode cX10_sizeOf 4 = .ok (.ireturn, 1) := by decide +kernel
set_option maxHeartbeats 4000000 in
set_option maxRecDepth 100000 in
theorem b_o_coder0 (l : Launch) (D : va_G) (cy : Nat → ClassId)   {p : Program} {e : Env} {s : State} {m : MethodId} {args : Array Value} {below : List Frame} {meth : Method} {c : Code} {A : Nat → Prop} {Q : State → Prop} {cells slots : Nat} (hroom : cells ≤ ((Rm 0 0 0 0)).cells ∧ slots ≤ ((Rm 0 0 0 0)).slots) (C : Cx p s m args meth c cJ0_coder_7d493 1 (some .byte) RJ0 "coder" D cy A) (hQ : Q = MQ below (va_Qi (fun (r : Int32) (u : Unit) => (0 ≤ r.toInt ∧ r.toInt ≤ 0)) (Bx D A (fun u : Unit => [])) A) args s ((Rm 0 0 0 0)).cells ((Rm 0 0 0 0)).slots A) (H : Heap) (locs : List Loc) (ls : Array Slot) (hP : va_P D vwCl [] H) (hD : va_D A []) (hS : va_S A s.heap H locs) (hl : lv_has ls 1 [(0, .ref (cy 100))]) : W p l e (Rm 0 0 0 0) s m args below meth c H locs cells slots Q (F0 m 0 ls []) := by
  have hx := C.1
  have hb := C.2.1
  refine va_gets hx hb C.sx.2.1 hS C.2.2.2.1 (C.2.2.2.2.1 _ kF_RJ0_38) (fun _ h => h) dJ0_coder_7d493_0 ?_
  refine lv_if_eq (tgt := 13) hx hb dJ0_coder_7d493_3 (by decide) (fun c_0 => absurd c_0 (by decide)) (fun _ => ?_)
  refine lv_aload_n hx hb dJ0_coder_7d493_6 rfl (lv_at hl 0 rfl) ?_
  refine vk_getf hx hb (C.sx.1.1 0 (by decide)).2.1 hS C.2.2.2.1 (C.2.2.2.2.1 _ kF_RJ0_15) (fun _ h => h) dJ0_coder_7d493_7 ?_
  refine lv_goto (tgt := 14) hx hb dJ0_coder_7d493_10 (by decide) ?_
  refine o_wq hQ ?_
  exact q_iret (rm := (Rm 0 0 0 0)) C hS () rfl (show 0 ≤ (0 : Int32).toInt ∧ (0 : Int32).toInt ≤ 0 by decide) (q_subP hP [] rfl) (hD.sub [] (by decide) rfl) hroom.1 hroom.2 dJ0_coder_7d493_14
theorem o_coder0 (l : Launch) (D : va_G) (cy : Nat → ClassId)  (sz : Nat)  : MI l yJ0_coder_7d493 cJ0_coder_7d493 1 (some .byte) (Rm 0 0 0 0) D cy [.ref (cy 100)] sz [] (fun (r : Int32) (u : Unit) => (0 ≤ r.toInt ∧ r.toInt ≤ 0)) (fun u : Unit => []) := by
  refine MI.enter (by decide) (Nat.le_of_ble_eq_true rfl) ?_
  intro p e s m below meth c ls A hsz hAe C hP hD hS hl
  exact b_o_coder0 l D cy   ⟨Nat.le_of_ble_eq_true rfl, Nat.le_of_ble_eq_true rfl⟩ C rfl _ _ ls hP hD hS hl
set_option maxHeartbeats 4000000 in
set_option maxRecDepth 100000 in
theorem b_o_length0 (l : Launch) (D : va_G) (cy : Nat → ClassId)   {p : Program} {e : Env} {s : State} {m : MethodId} {args : Array Value} {below : List Frame} {meth : Method} {c : Code} {A : Nat → Prop} {Q : State → Prop} {cells slots : Nat} (hroom : cells ≤ ((Rm 1 20 0 0)).cells ∧ slots ≤ ((Rm 1 20 0 0)).slots) (C : Cx p s m args meth c cJ0_length_8abf5 1 (some .int) RJ0 "length" D cy A) (hQ : Q = MQ below (va_Qi (fun (r : Int32) (u : Unit) => (200 ≤ r.toInt ∧ r.toInt ≤ 200)) (Bx D A (fun u : Unit => [])) A) args s ((Rm 1 20 0 0)).cells ((Rm 1 20 0 0)).slots A) (H : Heap) (locs : List Loc) (ls : Array Slot) (hP : va_P D vwCl [] H) (hD : va_D A []) (hS : va_S A s.heap H locs) (hl : lv_has ls 1 [(0, .ref (cy 100))]) : W p l e (Rm 1 20 0 0) s m args below meth c H locs cells slots Q (F0 m 0 ls []) := by
  have hx := C.1
  have hb := C.2.1
  refine lv_aload_n hx hb dJ0_length_8abf5_0 rfl (lv_at hl 0 rfl) ?_
  refine vk_getf hx hb (C.sx.1.1 0 (by decide)).2.2.1 hS C.2.2.2.1 (C.2.2.2.2.1 _ kF_RJ0_9) (fun _ h => h) dJ0_length_8abf5_1 ?_
  refine va_tlen (v := 200) hx hb (C.sx.1.1 0 (by decide)).2.2.2 hS (by decide) dJ0_length_8abf5_4 ?_
  refine lv_aload_n hx hb dJ0_length_8abf5_5 rfl (lv_at hl 0 rfl) ?_
  refine q_ai (wr := []) (r_VS (rm := (Rm 0 0 0 0)) (j := 0) (hj := by decide) (As := []) (rest := [.int 200]) (wc := []) C hS (q_subP hP [] rfl) (hD.sub [] (by decide) rfl) (o_coder0 l D cy  _ ) kwV_J0_coder_7d493 kM_RJ0_335 ⟨Nat.le_of_ble_eq_true rfl, Nat.le_of_ble_eq_true rfl⟩ rfl hl.1 rfl (Nat.le_of_ble_eq_true rfl) dJ0_length_8abf5_6 ⟨hroom.1, hroom.2⟩) C.2.2.2.2.2.2.1 hP hD hS [] [] rfl rfl (by decide) (by decide) (fun r_2 u_1 H locs hw_3 hP hD hS => ?_)
  have hp_3 : 0 ≤ r_2.toInt ∧ r_2.toInt ≤ 0 := hw_3
  obtain rfl : r_2 = 0 := o_meq (b := 0) rfl (by decide) (by omega)
  refine lv_ishr hx hb dJ0_length_8abf5_9 ?_
  refine q_val (v := 200) (by decide) ?_
  refine o_wq hQ ?_
  exact q_iret (rm := (Rm 1 20 0 0)) C hS () rfl (show 200 ≤ (200 : Int32).toInt ∧ (200 : Int32).toInt ≤ 200 by decide) (q_subP hP [] rfl) (hD.sub [] (by decide) rfl) hroom.1 hroom.2 dJ0_length_8abf5_10
theorem o_length0 (l : Launch) (D : va_G) (cy : Nat → ClassId)  (sz : Nat)  : MI l yJ0_length_8abf5 cJ0_length_8abf5 1 (some .int) (Rm 1 20 0 0) D cy [.ref (cy 100)] sz [] (fun (r : Int32) (u : Unit) => (200 ≤ r.toInt ∧ r.toInt ≤ 200)) (fun u : Unit => []) := by
  refine MI.enter (by decide) (Nat.le_of_ble_eq_true rfl) ?_
  intro p e s m below meth c ls A hsz hAe C hP hD hS hl
  exact b_o_length0 l D cy   ⟨Nat.le_of_ble_eq_true rfl, Nat.le_of_ble_eq_true rfl⟩ C rfl _ _ ls hP hD hS hl
set_option maxHeartbeats 4000000 in
set_option maxRecDepth 100000 in
theorem b_o_isLatin0 (l : Launch) (D : va_G) (cy : Nat → ClassId)   {p : Program} {e : Env} {s : State} {m : MethodId} {args : Array Value} {below : List Frame} {meth : Method} {c : Code} {A : Nat → Prop} {Q : State → Prop} {cells slots : Nat} (hroom : cells ≤ ((Rm 0 0 0 0)).cells ∧ slots ≤ ((Rm 0 0 0 0)).slots) (C : Cx p s m args meth c cJ0_isLatin1_aae02 1 (some .boolean) RJ0 "isLatin1" D cy A) (hQ : Q = MQ below (va_Qi (fun (r : Int32) (u : Unit) => (1 ≤ r.toInt ∧ r.toInt ≤ 1)) (Bx D A (fun u : Unit => [])) A) args s ((Rm 0 0 0 0)).cells ((Rm 0 0 0 0)).slots A) (H : Heap) (locs : List Loc) (ls : Array Slot) (hP : va_P D vwCl [] H) (hD : va_D A []) (hS : va_S A s.heap H locs) (hl : lv_has ls 1 [(0, .ref (cy 100))]) : W p l e (Rm 0 0 0 0) s m args below meth c H locs cells slots Q (F0 m 0 ls []) := by
  have hx := C.1
  have hb := C.2.1
  refine va_gets hx hb C.sx.2.1 hS C.2.2.2.1 (C.2.2.2.2.1 _ kF_RJ0_38) (fun _ h => h) dJ0_isLatin1_aae02_0 ?_
  refine lv_if_eq (tgt := 17) hx hb dJ0_isLatin1_aae02_3 (by decide) (fun c_0 => absurd c_0 (by decide)) (fun _ => ?_)
  refine lv_aload_n hx hb dJ0_isLatin1_aae02_6 rfl (lv_at hl 0 rfl) ?_
  refine vk_getf hx hb (C.sx.1.1 0 (by decide)).2.1 hS C.2.2.2.1 (C.2.2.2.2.1 _ kF_RJ0_15) (fun _ h => h) dJ0_isLatin1_aae02_7 ?_
  refine lv_if_ne (tgt := 17) hx hb dJ0_isLatin1_aae02_10 (by decide) (fun c_0 => absurd (by decide) c_0) (fun _ => ?_)
  refine lv_iconst (v := 1) hx hb dJ0_isLatin1_aae02_13 (by decide) ?_
  refine lv_goto (tgt := 18) hx hb dJ0_isLatin1_aae02_14 (by decide) ?_
  refine o_wq hQ ?_
  exact q_iret (rm := (Rm 0 0 0 0)) C hS () rfl (show 1 ≤ (1 : Int32).toInt ∧ (1 : Int32).toInt ≤ 1 by decide) (q_subP hP [] rfl) (hD.sub [] (by decide) rfl) hroom.1 hroom.2 dJ0_isLatin1_aae02_18
theorem o_isLatin0 (l : Launch) (D : va_G) (cy : Nat → ClassId)  (sz : Nat)  : MI l yJ0_isLatin1_aae02 cJ0_isLatin1_aae02 1 (some .boolean) (Rm 0 0 0 0) D cy [.ref (cy 100)] sz [] (fun (r : Int32) (u : Unit) => (1 ≤ r.toInt ∧ r.toInt ≤ 1)) (fun u : Unit => []) := by
  refine MI.enter (by decide) (Nat.le_of_ble_eq_true rfl) ?_
  intro p e s m below meth c ls A hsz hAe C hP hD hS hl
  exact b_o_isLatin0 l D cy   ⟨Nat.le_of_ble_eq_true rfl, Nat.le_of_ble_eq_true rfl⟩ C rfl _ _ ls hP hD hS hl
set_option maxHeartbeats 4000000 in
set_option maxRecDepth 100000 in
theorem b_o_chkN0 (l : Launch) (D : va_G) (cy : Nat → ClassId) (v : Int32) (hb0 : 0 ≤ v.toInt ∧ v.toInt ≤ 199) {p : Program} {e : Env} {s : State} {m : MethodId} {args : Array Value} {below : List Frame} {meth : Method} {c : Code} {A : Nat → Prop} {Q : State → Prop} {cells slots : Nat} (hroom : cells ≤ ((Rm 0 0 0 0)).cells ∧ slots ≤ ((Rm 0 0 0 0)).slots) (C : Cx p s m args meth c cJ3_checkIndex_8e157 3 (some .int) RJ3 "checkIndex" D cy A) (hQ : Q = MQ below (va_Qi (fun (r : Int32) (u : Unit) => (0 ≤ r.toInt ∧ r.toInt ≤ 199)) (Bx D A (fun u : Unit => [])) A) args s ((Rm 0 0 0 0)).cells ((Rm 0 0 0 0)).slots A) (H : Heap) (locs : List Loc) (ls : Array Slot) (hP : va_P D vwCl [] H) (hD : va_D A []) (hS : va_S A s.heap H locs) (hl : lv_has ls 3 [(0, .int v), (1, .int 200), (2, .null)]) : W p l e (Rm 0 0 0 0) s m args below meth c H locs cells slots Q (F0 m 0 ls []) := by
  have hx := C.1
  have hb := C.2.1
  refine lv_iload_n hx hb dJ3_checkIndex_8e157_0 rfl (lv_at hl 0 rfl) ?_
  refine lv_if_lt (tgt := 9) hx hb dJ3_checkIndex_8e157_1 (by decide) (fun c_0 => absurd c_0 (o_mnlt (rfl : v.toInt = v.toInt) (by decide : (0 : Int32).toInt = 0) (by omega))) (fun _ => ?_)
  refine lv_iload_n hx hb dJ3_checkIndex_8e157_4 rfl (lv_at hl 0 rfl) ?_
  refine lv_iload_n hx hb dJ3_checkIndex_8e157_5 rfl (lv_at hl 1 rfl) ?_
  refine lv_icmp_lt (tgt := 16) hx hb dJ3_checkIndex_8e157_6 (by decide) (fun _ => ?_) (fun c_0 => absurd (o_mlt (rfl : v.toInt = v.toInt) (by decide : (200 : Int32).toInt = 200) (by omega)) c_0)
  refine lv_iload_n hx hb dJ3_checkIndex_8e157_16 rfl (lv_at hl 0 rfl) ?_
  refine o_wq hQ ?_
  exact q_iret (rm := (Rm 0 0 0 0)) C hS () rfl (show 0 ≤ v.toInt ∧ v.toInt ≤ 199 by omega) (q_subP hP [] rfl) (hD.sub [] (by decide) rfl) hroom.1 hroom.2 dJ3_checkIndex_8e157_17
theorem o_chkN0 (l : Launch) (D : va_G) (cy : Nat → ClassId) (v : Int32) (sz : Nat) (hb0 : 0 ≤ v.toInt ∧ v.toInt ≤ 199) : MI l yJ3_checkIndex_8e157 cJ3_checkIndex_8e157 3 (some .int) (Rm 0 0 0 0) D cy [.int v, .int 200, .null] sz [] (fun (r : Int32) (u : Unit) => (0 ≤ r.toInt ∧ r.toInt ≤ 199)) (fun u : Unit => []) := by
  refine MI.enter (by decide) (Nat.le_of_ble_eq_true rfl) ?_
  intro p e s m below meth c ls A hsz hAe C hP hD hS hl
  exact b_o_chkN0 l D cy v hb0 ⟨Nat.le_of_ble_eq_true rfl, Nat.le_of_ble_eq_true rfl⟩ C rfl _ _ ls hP hD hS hl
set_option maxHeartbeats 4000000 in
set_option maxRecDepth 100000 in
theorem b_o_chkR0 (l : Launch) (D : va_G) (cy : Nat → ClassId) (v : Int32) (t : Nat) (hb0 : 0 ≤ v.toInt ∧ v.toInt ≤ 199) {p : Program} {e : Env} {s : State} {m : MethodId} {args : Array Value} {below : List Frame} {meth : Method} {c : Code} {A : Nat → Prop} {Q : State → Prop} {cells slots : Nat} (hroom : cells ≤ ((Rm 0 0 0 0)).cells ∧ slots ≤ ((Rm 0 0 0 0)).slots) (C : Cx p s m args meth c cJ3_checkIndex_8e157 3 (some .int) RJ3 "checkIndex" D cy A) (hQ : Q = MQ below (va_Qi (fun (r : Int32) (u : Unit) => (0 ≤ r.toInt ∧ r.toInt ≤ 199)) (Bx D A (fun u : Unit => [])) A) args s ((Rm 0 0 0 0)).cells ((Rm 0 0 0 0)).slots A) (H : Heap) (locs : List Loc) (ls : Array Slot) (hP : va_P D vwCl [] H) (hD : va_D A []) (hS : va_S A s.heap H locs) (hl : lv_has ls 3 [(0, .int v), (1, .int 200), (2, .ref t)]) : W p l e (Rm 0 0 0 0) s m args below meth c H locs cells slots Q (F0 m 0 ls []) := by
  have hx := C.1
  have hb := C.2.1
  refine lv_iload_n hx hb dJ3_checkIndex_8e157_0 rfl (lv_at hl 0 rfl) ?_
  refine lv_if_lt (tgt := 9) hx hb dJ3_checkIndex_8e157_1 (by decide) (fun c_0 => absurd c_0 (o_mnlt (rfl : v.toInt = v.toInt) (by decide : (0 : Int32).toInt = 0) (by omega))) (fun _ => ?_)
  refine lv_iload_n hx hb dJ3_checkIndex_8e157_4 rfl (lv_at hl 0 rfl) ?_
  refine lv_iload_n hx hb dJ3_checkIndex_8e157_5 rfl (lv_at hl 1 rfl) ?_
  refine lv_icmp_lt (tgt := 16) hx hb dJ3_checkIndex_8e157_6 (by decide) (fun _ => ?_) (fun c_0 => absurd (o_mlt (rfl : v.toInt = v.toInt) (by decide : (200 : Int32).toInt = 200) (by omega)) c_0)
  refine lv_iload_n hx hb dJ3_checkIndex_8e157_16 rfl (lv_at hl 0 rfl) ?_
  refine o_wq hQ ?_
  exact q_iret (rm := (Rm 0 0 0 0)) C hS () rfl (show 0 ≤ v.toInt ∧ v.toInt ≤ 199 by omega) (q_subP hP [] rfl) (hD.sub [] (by decide) rfl) hroom.1 hroom.2 dJ3_checkIndex_8e157_17
theorem o_chkR0 (l : Launch) (D : va_G) (cy : Nat → ClassId) (v : Int32) (t : Nat) (sz : Nat) (hb0 : 0 ≤ v.toInt ∧ v.toInt ≤ 199) : MI l yJ3_checkIndex_8e157 cJ3_checkIndex_8e157 3 (some .int) (Rm 0 0 0 0) D cy [.int v, .int 200, .ref t] sz [] (fun (r : Int32) (u : Unit) => (0 ≤ r.toInt ∧ r.toInt ≤ 199)) (fun u : Unit => []) := by
  refine MI.enter (by decide) (Nat.le_of_ble_eq_true rfl) ?_
  intro p e s m below meth c ls A hsz hAe C hP hD hS hl
  exact b_o_chkR0 l D cy v t hb0 ⟨Nat.le_of_ble_eq_true rfl, Nat.le_of_ble_eq_true rfl⟩ C rfl _ _ ls hP hD hS hl
set_option maxHeartbeats 4000000 in
set_option maxRecDepth 100000 in
theorem b_o_chk0 (l : Launch) (D : va_G) (cy : Nat → ClassId) (v : Int32) (hb0 : 0 ≤ v.toInt ∧ v.toInt ≤ 199) {p : Program} {e : Env} {s : State} {m : MethodId} {args : Array Value} {below : List Frame} {meth : Method} {c : Code} {A : Nat → Prop} {Q : State → Prop} {cells slots : Nat} (hroom : cells ≤ ((Rm 1 22 0 0)).cells ∧ slots ≤ ((Rm 1 22 0 0)).slots) (C : Cx p s m args meth c cJ0_checkIndex_df160 2 none RJ0 "checkIndex" D cy A) (hQ : Q = MQ below (va_Qv (fun u : Unit => True) (Bx D A (fun u : Unit => [])) A) args s ((Rm 1 22 0 0)).cells ((Rm 1 22 0 0)).slots A) (H : Heap) (locs : List Loc) (ls : Array Slot) (hP : va_P D vwCl [] H) (hD : va_D A []) (hS : va_S A s.heap H locs) (hl : lv_has ls 2 [(0, .int v), (1, .int 200)]) : W p l e (Rm 1 22 0 0) s m args below meth c H locs cells slots Q (F0 m 0 ls []) := by
  have hx := C.1
  have hb := C.2.1
  refine lv_iload_n hx hb dJ0_checkIndex_df160_0 rfl (lv_at hl 0 rfl) ?_
  refine lv_iload_n hx hb dJ0_checkIndex_df160_1 rfl (lv_at hl 1 rfl) ?_
  rcases C.sx.2.2 with hZ | ⟨t_Z, hZ⟩
  · refine va_gets hx hb hZ hS C.2.2.2.1 (C.2.2.2.2.1 _ kF_RJ0_1053) (fun _ h => h) dJ0_checkIndex_df160_2 ?_
    refine q_ai (wr := []) (r_S (rm := (Rm 0 0 0 0)) (As := [.int v, .int 200, .null]) (rest := []) (wc := []) C hS (q_subP hP [] rfl) (hD.sub [] (by decide) rfl) (o_chkN0 l D cy v _ (by omega)) kwS_J3_checkIndex_8e157 kM_RJ0_1059 ⟨Nat.le_of_ble_eq_true rfl, Nat.le_of_ble_eq_true rfl⟩ rfl hl.1 rfl (Nat.le_of_ble_eq_true rfl) dJ0_checkIndex_df160_5 ⟨hroom.1, hroom.2⟩) C.2.2.2.2.2.2.1 hP hD hS [] [] rfl rfl (by decide) (by decide) (fun r_2 u_1 H locs hw_3 hP hD hS => ?_)
    have hp_3 : 0 ≤ r_2.toInt ∧ r_2.toInt ≤ 199 := hw_3
    refine lv_pop hx hb dJ0_checkIndex_df160_8 rfl ?_
    refine o_wq hQ ?_
    exact q_vret (rm := (Rm 1 22 0 0)) C hS () trivial (q_subP hP [] rfl) (hD.sub [] (by decide) rfl) hroom.1 hroom.2 dJ0_checkIndex_df160_9
  · refine va_gets hx hb hZ hS C.2.2.2.1 (C.2.2.2.2.1 _ kF_RJ0_1053) (fun _ h => h) dJ0_checkIndex_df160_2 ?_
    refine q_ai (wr := []) (r_S (rm := (Rm 0 0 0 0)) (As := [.int v, .int 200, .ref t_Z]) (rest := []) (wc := []) C hS (q_subP hP [] rfl) (hD.sub [] (by decide) rfl) (o_chkR0 l D cy v t_Z _ (by omega)) kwS_J3_checkIndex_8e157 kM_RJ0_1059 ⟨Nat.le_of_ble_eq_true rfl, Nat.le_of_ble_eq_true rfl⟩ rfl hl.1 rfl (Nat.le_of_ble_eq_true rfl) dJ0_checkIndex_df160_5 ⟨hroom.1, hroom.2⟩) C.2.2.2.2.2.2.1 hP hD hS [] [] rfl rfl (by decide) (by decide) (fun r_6 u_5 H locs hw_7 hP hD hS => ?_)
    have hp_7 : 0 ≤ r_6.toInt ∧ r_6.toInt ≤ 199 := hw_7
    refine lv_pop hx hb dJ0_checkIndex_df160_8 rfl ?_
    refine o_wq hQ ?_
    exact q_vret (rm := (Rm 1 22 0 0)) C hS () trivial (q_subP hP [] rfl) (hD.sub [] (by decide) rfl) hroom.1 hroom.2 dJ0_checkIndex_df160_9
theorem o_chk0 (l : Launch) (D : va_G) (cy : Nat → ClassId) (v : Int32) (sz : Nat) (hb0 : 0 ≤ v.toInt ∧ v.toInt ≤ 199) : MV l yJ0_checkIndex_df160 cJ0_checkIndex_df160 2 (Rm 1 22 0 0) D cy [.int v, .int 200] sz [] (fun u : Unit => True) (fun u : Unit => []) := by
  refine MV.enter (by decide) (Nat.le_of_ble_eq_true rfl) ?_
  intro p e s m below meth c ls A hsz hAe C hP hD hS hl
  exact b_o_chk0 l D cy v hb0 ⟨Nat.le_of_ble_eq_true rfl, Nat.le_of_ble_eq_true rfl⟩ C rfl _ _ ls hP hD hS hl
set_option maxHeartbeats 4000000 in
set_option maxRecDepth 100000 in
theorem b_o_latChar0 (l : Launch) (D : va_G) (cy : Nat → ClassId) (v : Int32) (hb0 : 0 ≤ v.toInt ∧ v.toInt ≤ 199) {p : Program} {e : Env} {s : State} {m : MethodId} {args : Array Value} {below : List Frame} {meth : Method} {c : Code} {A : Nat → Prop} {Q : State → Prop} {cells slots : Nat} (hroom : cells ≤ ((Rm 2 43 0 0)).cells ∧ slots ≤ ((Rm 2 43 0 0)).slots) (C : Cx p s m args meth c cJ1_charAt_3b067 2 (some .char) RJ1 "charAt" D cy A) (hQ : Q = MQ below (va_Qi (fun (r : Int32) (u : Unit) => (0 ≤ r.toInt ∧ r.toInt ≤ 65535) ∧ (r.toInt = Wj 0 v.toInt)) (Bx D A (fun u : Unit => [])) A) args s ((Rm 2 43 0 0)).cells ((Rm 2 43 0 0)).slots A) (H : Heap) (locs : List Loc) (ls : Array Slot) (hP : va_P D vwCl [] H) (hD : va_D A []) (hS : va_S A s.heap H locs) (hl : lv_has ls 2 [(0, .ref (cy 200)), (1, .int v)]) : W p l e (Rm 2 43 0 0) s m args below meth c H locs cells slots Q (F0 m 0 ls []) := by
  have hx := C.1
  have hb := C.2.1
  refine lv_iload_n hx hb dJ1_charAt_3b067_0 rfl (lv_at hl 1 rfl) ?_
  refine lv_aload_n hx hb dJ1_charAt_3b067_1 rfl (lv_at hl 0 rfl) ?_
  refine va_tlen (v := 200) hx hb (C.sx.1.1 0 (by decide)).2.2.2 hS (by decide) dJ1_charAt_3b067_2 ?_
  refine q_av (wr := []) (r_S (rm := (Rm 1 22 0 0)) (As := [.int v, .int 200]) (rest := []) (wc := []) C hS (q_subP hP [] rfl) (hD.sub [] (by decide) rfl) (o_chk0 l D cy v _ (by omega)) kwS_J0_checkIndex_df160 kM_RJ1_9 ⟨Nat.le_of_ble_eq_true rfl, Nat.le_of_ble_eq_true rfl⟩ rfl hl.1 rfl (Nat.le_of_ble_eq_true rfl) dJ1_charAt_3b067_3 ⟨hroom.1, hroom.2⟩) C.2.2.2.2.2.2.1 hP hD hS [] [] rfl rfl (by decide) (by decide) (fun u_1 H locs hw_3 hP hD hS => ?_)
  refine lv_aload_n hx hb dJ1_charAt_3b067_6 rfl (lv_at hl 0 rfl) ?_
  refine lv_iload_n hx hb dJ1_charAt_3b067_7 rfl (lv_at hl 1 rfl) ?_
  refine va_tb (v := .int ((bytS.getD 0 []).getD v.toNatClampNeg 0)) hx hb (C.sx.1.1 0 (by decide)).2.2.2 hS (show vp_in _ 200 from (o_in (rfl : v.toInt = v.toInt) (by omega) (by omega))) rfl dJ1_charAt_3b067_8 ?_
  refine lv_topi (fun z_4 ez_4 => ?_)
  refine lv_sipush (v := 255) hx hb dJ1_charAt_3b067_9 (by decide) ?_
  refine lv_iand hx hb dJ1_charAt_3b067_12 ?_
  refine lv_topi (fun z_5 hz_5 => ?_)
  have dz_5 := hz_5
  have hz_5 := o_and hz_5 (b := 255) (by decide) (by decide)
  refine lv_i2c (v := (z_5.toUInt32 % 65536).toInt32) hx hb dJ1_charAt_3b067_13 rfl ?_
  refine lv_topi (fun z_6 hz_6 => ?_)
  have dz_6 := hz_6
  have hz_6 := o_i2c hz_6
  refine o_wq hQ ?_
  exact q_iret (rm := (Rm 2 43 0 0)) C hS () (o_char (by omega) (by omega)) ⟨(show 0 ≤ z_6.toInt ∧ z_6.toInt ≤ 65535 by omega), (show z_6.toInt = Wj 0 v.toInt from (lat_char (by decide) (by omega) (by omega) ez_4 dz_5 dz_6))⟩ (q_subP hP [] rfl) (hD.sub [] (by decide) rfl) hroom.1 hroom.2 dJ1_charAt_3b067_14
theorem o_latChar0 (l : Launch) (D : va_G) (cy : Nat → ClassId) (v : Int32) (sz : Nat) (hb0 : 0 ≤ v.toInt ∧ v.toInt ≤ 199) : MI l yJ1_charAt_3b067 cJ1_charAt_3b067 2 (some .char) (Rm 2 43 0 0) D cy [.ref (cy 200), .int v] sz [] (fun (r : Int32) (u : Unit) => (0 ≤ r.toInt ∧ r.toInt ≤ 65535) ∧ (r.toInt = Wj 0 v.toInt)) (fun u : Unit => []) := by
  refine MI.enter (by decide) (Nat.le_of_ble_eq_true rfl) ?_
  intro p e s m below meth c ls A hsz hAe C hP hD hS hl
  exact b_o_latChar0 l D cy v hb0 ⟨Nat.le_of_ble_eq_true rfl, Nat.le_of_ble_eq_true rfl⟩ C rfl _ _ ls hP hD hS hl
set_option maxHeartbeats 4000000 in
set_option maxRecDepth 100000 in
theorem b_o_charAt0 (l : Launch) (D : va_G) (cy : Nat → ClassId) (v : Int32) (hb0 : 0 ≤ v.toInt ∧ v.toInt ≤ 199) {p : Program} {e : Env} {s : State} {m : MethodId} {args : Array Value} {below : List Frame} {meth : Method} {c : Code} {A : Nat → Prop} {Q : State → Prop} {cells slots : Nat} (hroom : cells ≤ ((Rm 3 64 0 0)).cells ∧ slots ≤ ((Rm 3 64 0 0)).slots) (C : Cx p s m args meth c cJ0_charAt_5068e 2 (some .char) RJ0 "charAt" D cy A) (hQ : Q = MQ below (va_Qi (fun (r : Int32) (u : Unit) => (0 ≤ r.toInt ∧ r.toInt ≤ 65535) ∧ (r.toInt = Wj 0 v.toInt)) (Bx D A (fun u : Unit => [])) A) args s ((Rm 3 64 0 0)).cells ((Rm 3 64 0 0)).slots A) (H : Heap) (locs : List Loc) (ls : Array Slot) (hP : va_P D vwCl [] H) (hD : va_D A []) (hS : va_S A s.heap H locs) (hl : lv_has ls 2 [(0, .ref (cy 100)), (1, .int v)]) : W p l e (Rm 3 64 0 0) s m args below meth c H locs cells slots Q (F0 m 0 ls []) := by
  have hx := C.1
  have hb := C.2.1
  refine lv_aload_n hx hb dJ0_charAt_5068e_0 rfl (lv_at hl 0 rfl) ?_
  refine q_ai (wr := []) (r_VS (rm := (Rm 0 0 0 0)) (j := 0) (hj := by decide) (As := []) (rest := []) (wc := []) C hS (q_subP hP [] rfl) (hD.sub [] (by decide) rfl) (o_isLatin0 l D cy  _ ) kwV_J0_isLatin1_aae02 kM_RJ0_492 ⟨Nat.le_of_ble_eq_true rfl, Nat.le_of_ble_eq_true rfl⟩ rfl hl.1 rfl (Nat.le_of_ble_eq_true rfl) dJ0_charAt_5068e_1 ⟨hroom.1, hroom.2⟩) C.2.2.2.2.2.2.1 hP hD hS [] [] rfl rfl (by decide) (by decide) (fun r_2 u_1 H locs hw_3 hP hD hS => ?_)
  have hp_3 : 1 ≤ r_2.toInt ∧ r_2.toInt ≤ 1 := hw_3
  obtain rfl : r_2 = 1 := o_meq (b := 1) rfl (by decide) (by omega)
  refine lv_if_eq (tgt := 16) hx hb dJ0_charAt_5068e_4 (by decide) (fun c_0 => absurd c_0 (by decide)) (fun _ => ?_)
  refine lv_aload_n hx hb dJ0_charAt_5068e_7 rfl (lv_at hl 0 rfl) ?_
  refine vk_getf hx hb (C.sx.1.1 0 (by decide)).2.2.1 hS C.2.2.2.1 (C.2.2.2.2.1 _ kF_RJ0_9) (fun _ h => h) dJ0_charAt_5068e_8 ?_
  refine lv_iload_n hx hb dJ0_charAt_5068e_11 rfl (lv_at hl 1 rfl) ?_
  refine q_ai (wr := []) (r_S (rm := (Rm 2 43 0 0)) (As := [.ref (cy 200), .int v]) (rest := []) (wc := []) C hS (q_subP hP [] rfl) (hD.sub [] (by decide) rfl) (o_latChar0 l D cy v _ (by omega)) kwS_J1_charAt_3b067 kM_RJ0_495 ⟨Nat.le_of_ble_eq_true rfl, Nat.le_of_ble_eq_true rfl⟩ rfl hl.1 rfl (Nat.le_of_ble_eq_true rfl) dJ0_charAt_5068e_12 ⟨hroom.1, hroom.2⟩) C.2.2.2.2.2.2.1 hP hD hS [] [] rfl rfl (by decide) (by decide) (fun r_6 u_5 H locs hw_7 hP hD hS => ?_)
  have hp_7 : 0 ≤ r_6.toInt ∧ r_6.toInt ≤ 65535 := hw_7.1
  have hp_8 : r_6.toInt = Wj 0 v.toInt := hw_7.2
  refine o_wq hQ ?_
  exact q_iret (rm := (Rm 3 64 0 0)) C hS () (o_char (by omega) (by omega)) ⟨(show 0 ≤ r_6.toInt ∧ r_6.toInt ≤ 65535 by omega), hp_8⟩ (q_subP hP [] rfl) (hD.sub [] (by decide) rfl) hroom.1 hroom.2 dJ0_charAt_5068e_15
theorem o_charAt0 (l : Launch) (D : va_G) (cy : Nat → ClassId) (v : Int32) (sz : Nat) (hb0 : 0 ≤ v.toInt ∧ v.toInt ≤ 199) : MI l yJ0_charAt_5068e cJ0_charAt_5068e 2 (some .char) (Rm 3 64 0 0) D cy [.ref (cy 100), .int v] sz [] (fun (r : Int32) (u : Unit) => (0 ≤ r.toInt ∧ r.toInt ≤ 65535) ∧ (r.toInt = Wj 0 v.toInt)) (fun u : Unit => []) := by
  refine MI.enter (by decide) (Nat.le_of_ble_eq_true rfl) ?_
  intro p e s m below meth c ls A hsz hAe C hP hD hS hl
  exact b_o_charAt0 l D cy v hb0 ⟨Nat.le_of_ble_eq_true rfl, Nat.le_of_ble_eq_true rfl⟩ C rfl _ _ ls hP hD hS hl
set_option maxHeartbeats 4000000 in
set_option maxRecDepth 100000 in
theorem b_o_coder1 (l : Launch) (D : va_G) (cy : Nat → ClassId)   {p : Program} {e : Env} {s : State} {m : MethodId} {args : Array Value} {below : List Frame} {meth : Method} {c : Code} {A : Nat → Prop} {Q : State → Prop} {cells slots : Nat} (hroom : cells ≤ ((Rm 0 0 0 0)).cells ∧ slots ≤ ((Rm 0 0 0 0)).slots) (C : Cx p s m args meth c cJ0_coder_7d493 1 (some .byte) RJ0 "coder" D cy A) (hQ : Q = MQ below (va_Qi (fun (r : Int32) (u : Unit) => (0 ≤ r.toInt ∧ r.toInt ≤ 0)) (Bx D A (fun u : Unit => [])) A) args s ((Rm 0 0 0 0)).cells ((Rm 0 0 0 0)).slots A) (H : Heap) (locs : List Loc) (ls : Array Slot) (hP : va_P D vwCl [] H) (hD : va_D A []) (hS : va_S A s.heap H locs) (hl : lv_has ls 1 [(0, .ref (cy 101))]) : W p l e (Rm 0 0 0 0) s m args below meth c H locs cells slots Q (F0 m 0 ls []) := by
  have hx := C.1
  have hb := C.2.1
  refine va_gets hx hb C.sx.2.1 hS C.2.2.2.1 (C.2.2.2.2.1 _ kF_RJ0_38) (fun _ h => h) dJ0_coder_7d493_0 ?_
  refine lv_if_eq (tgt := 13) hx hb dJ0_coder_7d493_3 (by decide) (fun c_0 => absurd c_0 (by decide)) (fun _ => ?_)
  refine lv_aload_n hx hb dJ0_coder_7d493_6 rfl (lv_at hl 0 rfl) ?_
  refine vk_getf hx hb (C.sx.1.1 1 (by decide)).2.1 hS C.2.2.2.1 (C.2.2.2.2.1 _ kF_RJ0_15) (fun _ h => h) dJ0_coder_7d493_7 ?_
  refine lv_goto (tgt := 14) hx hb dJ0_coder_7d493_10 (by decide) ?_
  refine o_wq hQ ?_
  exact q_iret (rm := (Rm 0 0 0 0)) C hS () rfl (show 0 ≤ (0 : Int32).toInt ∧ (0 : Int32).toInt ≤ 0 by decide) (q_subP hP [] rfl) (hD.sub [] (by decide) rfl) hroom.1 hroom.2 dJ0_coder_7d493_14
theorem o_coder1 (l : Launch) (D : va_G) (cy : Nat → ClassId)  (sz : Nat)  : MI l yJ0_coder_7d493 cJ0_coder_7d493 1 (some .byte) (Rm 0 0 0 0) D cy [.ref (cy 101)] sz [] (fun (r : Int32) (u : Unit) => (0 ≤ r.toInt ∧ r.toInt ≤ 0)) (fun u : Unit => []) := by
  refine MI.enter (by decide) (Nat.le_of_ble_eq_true rfl) ?_
  intro p e s m below meth c ls A hsz hAe C hP hD hS hl
  exact b_o_coder1 l D cy   ⟨Nat.le_of_ble_eq_true rfl, Nat.le_of_ble_eq_true rfl⟩ C rfl _ _ ls hP hD hS hl
set_option maxHeartbeats 4000000 in
set_option maxRecDepth 100000 in
theorem b_o_length1 (l : Launch) (D : va_G) (cy : Nat → ClassId)   {p : Program} {e : Env} {s : State} {m : MethodId} {args : Array Value} {below : List Frame} {meth : Method} {c : Code} {A : Nat → Prop} {Q : State → Prop} {cells slots : Nat} (hroom : cells ≤ ((Rm 1 20 0 0)).cells ∧ slots ≤ ((Rm 1 20 0 0)).slots) (C : Cx p s m args meth c cJ0_length_8abf5 1 (some .int) RJ0 "length" D cy A) (hQ : Q = MQ below (va_Qi (fun (r : Int32) (u : Unit) => (12 ≤ r.toInt ∧ r.toInt ≤ 12)) (Bx D A (fun u : Unit => [])) A) args s ((Rm 1 20 0 0)).cells ((Rm 1 20 0 0)).slots A) (H : Heap) (locs : List Loc) (ls : Array Slot) (hP : va_P D vwCl [] H) (hD : va_D A []) (hS : va_S A s.heap H locs) (hl : lv_has ls 1 [(0, .ref (cy 101))]) : W p l e (Rm 1 20 0 0) s m args below meth c H locs cells slots Q (F0 m 0 ls []) := by
  have hx := C.1
  have hb := C.2.1
  refine lv_aload_n hx hb dJ0_length_8abf5_0 rfl (lv_at hl 0 rfl) ?_
  refine vk_getf hx hb (C.sx.1.1 1 (by decide)).2.2.1 hS C.2.2.2.1 (C.2.2.2.2.1 _ kF_RJ0_9) (fun _ h => h) dJ0_length_8abf5_1 ?_
  refine va_tlen (v := 12) hx hb (C.sx.1.1 1 (by decide)).2.2.2 hS (by decide) dJ0_length_8abf5_4 ?_
  refine lv_aload_n hx hb dJ0_length_8abf5_5 rfl (lv_at hl 0 rfl) ?_
  refine q_ai (wr := []) (r_VS (rm := (Rm 0 0 0 0)) (j := 1) (hj := by decide) (As := []) (rest := [.int 12]) (wc := []) C hS (q_subP hP [] rfl) (hD.sub [] (by decide) rfl) (o_coder1 l D cy  _ ) kwV_J0_coder_7d493 kM_RJ0_335 ⟨Nat.le_of_ble_eq_true rfl, Nat.le_of_ble_eq_true rfl⟩ rfl hl.1 rfl (Nat.le_of_ble_eq_true rfl) dJ0_length_8abf5_6 ⟨hroom.1, hroom.2⟩) C.2.2.2.2.2.2.1 hP hD hS [] [] rfl rfl (by decide) (by decide) (fun r_2 u_1 H locs hw_3 hP hD hS => ?_)
  have hp_3 : 0 ≤ r_2.toInt ∧ r_2.toInt ≤ 0 := hw_3
  obtain rfl : r_2 = 0 := o_meq (b := 0) rfl (by decide) (by omega)
  refine lv_ishr hx hb dJ0_length_8abf5_9 ?_
  refine q_val (v := 12) (by decide) ?_
  refine o_wq hQ ?_
  exact q_iret (rm := (Rm 1 20 0 0)) C hS () rfl (show 12 ≤ (12 : Int32).toInt ∧ (12 : Int32).toInt ≤ 12 by decide) (q_subP hP [] rfl) (hD.sub [] (by decide) rfl) hroom.1 hroom.2 dJ0_length_8abf5_10
theorem o_length1 (l : Launch) (D : va_G) (cy : Nat → ClassId)  (sz : Nat)  : MI l yJ0_length_8abf5 cJ0_length_8abf5 1 (some .int) (Rm 1 20 0 0) D cy [.ref (cy 101)] sz [] (fun (r : Int32) (u : Unit) => (12 ≤ r.toInt ∧ r.toInt ≤ 12)) (fun u : Unit => []) := by
  refine MI.enter (by decide) (Nat.le_of_ble_eq_true rfl) ?_
  intro p e s m below meth c ls A hsz hAe C hP hD hS hl
  exact b_o_length1 l D cy   ⟨Nat.le_of_ble_eq_true rfl, Nat.le_of_ble_eq_true rfl⟩ C rfl _ _ ls hP hD hS hl
set_option maxHeartbeats 4000000 in
set_option maxRecDepth 100000 in
theorem b_o_isLatin1 (l : Launch) (D : va_G) (cy : Nat → ClassId)   {p : Program} {e : Env} {s : State} {m : MethodId} {args : Array Value} {below : List Frame} {meth : Method} {c : Code} {A : Nat → Prop} {Q : State → Prop} {cells slots : Nat} (hroom : cells ≤ ((Rm 0 0 0 0)).cells ∧ slots ≤ ((Rm 0 0 0 0)).slots) (C : Cx p s m args meth c cJ0_isLatin1_aae02 1 (some .boolean) RJ0 "isLatin1" D cy A) (hQ : Q = MQ below (va_Qi (fun (r : Int32) (u : Unit) => (1 ≤ r.toInt ∧ r.toInt ≤ 1)) (Bx D A (fun u : Unit => [])) A) args s ((Rm 0 0 0 0)).cells ((Rm 0 0 0 0)).slots A) (H : Heap) (locs : List Loc) (ls : Array Slot) (hP : va_P D vwCl [] H) (hD : va_D A []) (hS : va_S A s.heap H locs) (hl : lv_has ls 1 [(0, .ref (cy 101))]) : W p l e (Rm 0 0 0 0) s m args below meth c H locs cells slots Q (F0 m 0 ls []) := by
  have hx := C.1
  have hb := C.2.1
  refine va_gets hx hb C.sx.2.1 hS C.2.2.2.1 (C.2.2.2.2.1 _ kF_RJ0_38) (fun _ h => h) dJ0_isLatin1_aae02_0 ?_
  refine lv_if_eq (tgt := 17) hx hb dJ0_isLatin1_aae02_3 (by decide) (fun c_0 => absurd c_0 (by decide)) (fun _ => ?_)
  refine lv_aload_n hx hb dJ0_isLatin1_aae02_6 rfl (lv_at hl 0 rfl) ?_
  refine vk_getf hx hb (C.sx.1.1 1 (by decide)).2.1 hS C.2.2.2.1 (C.2.2.2.2.1 _ kF_RJ0_15) (fun _ h => h) dJ0_isLatin1_aae02_7 ?_
  refine lv_if_ne (tgt := 17) hx hb dJ0_isLatin1_aae02_10 (by decide) (fun c_0 => absurd (by decide) c_0) (fun _ => ?_)
  refine lv_iconst (v := 1) hx hb dJ0_isLatin1_aae02_13 (by decide) ?_
  refine lv_goto (tgt := 18) hx hb dJ0_isLatin1_aae02_14 (by decide) ?_
  refine o_wq hQ ?_
  exact q_iret (rm := (Rm 0 0 0 0)) C hS () rfl (show 1 ≤ (1 : Int32).toInt ∧ (1 : Int32).toInt ≤ 1 by decide) (q_subP hP [] rfl) (hD.sub [] (by decide) rfl) hroom.1 hroom.2 dJ0_isLatin1_aae02_18
theorem o_isLatin1 (l : Launch) (D : va_G) (cy : Nat → ClassId)  (sz : Nat)  : MI l yJ0_isLatin1_aae02 cJ0_isLatin1_aae02 1 (some .boolean) (Rm 0 0 0 0) D cy [.ref (cy 101)] sz [] (fun (r : Int32) (u : Unit) => (1 ≤ r.toInt ∧ r.toInt ≤ 1)) (fun u : Unit => []) := by
  refine MI.enter (by decide) (Nat.le_of_ble_eq_true rfl) ?_
  intro p e s m below meth c ls A hsz hAe C hP hD hS hl
  exact b_o_isLatin1 l D cy   ⟨Nat.le_of_ble_eq_true rfl, Nat.le_of_ble_eq_true rfl⟩ C rfl _ _ ls hP hD hS hl
set_option maxHeartbeats 4000000 in
set_option maxRecDepth 100000 in
theorem b_o_chkN1 (l : Launch) (D : va_G) (cy : Nat → ClassId) (v : Int32) (hb0 : 0 ≤ v.toInt ∧ v.toInt ≤ 11) {p : Program} {e : Env} {s : State} {m : MethodId} {args : Array Value} {below : List Frame} {meth : Method} {c : Code} {A : Nat → Prop} {Q : State → Prop} {cells slots : Nat} (hroom : cells ≤ ((Rm 0 0 0 0)).cells ∧ slots ≤ ((Rm 0 0 0 0)).slots) (C : Cx p s m args meth c cJ3_checkIndex_8e157 3 (some .int) RJ3 "checkIndex" D cy A) (hQ : Q = MQ below (va_Qi (fun (r : Int32) (u : Unit) => (0 ≤ r.toInt ∧ r.toInt ≤ 11)) (Bx D A (fun u : Unit => [])) A) args s ((Rm 0 0 0 0)).cells ((Rm 0 0 0 0)).slots A) (H : Heap) (locs : List Loc) (ls : Array Slot) (hP : va_P D vwCl [] H) (hD : va_D A []) (hS : va_S A s.heap H locs) (hl : lv_has ls 3 [(0, .int v), (1, .int 12), (2, .null)]) : W p l e (Rm 0 0 0 0) s m args below meth c H locs cells slots Q (F0 m 0 ls []) := by
  have hx := C.1
  have hb := C.2.1
  refine lv_iload_n hx hb dJ3_checkIndex_8e157_0 rfl (lv_at hl 0 rfl) ?_
  refine lv_if_lt (tgt := 9) hx hb dJ3_checkIndex_8e157_1 (by decide) (fun c_0 => absurd c_0 (o_mnlt (rfl : v.toInt = v.toInt) (by decide : (0 : Int32).toInt = 0) (by omega))) (fun _ => ?_)
  refine lv_iload_n hx hb dJ3_checkIndex_8e157_4 rfl (lv_at hl 0 rfl) ?_
  refine lv_iload_n hx hb dJ3_checkIndex_8e157_5 rfl (lv_at hl 1 rfl) ?_
  refine lv_icmp_lt (tgt := 16) hx hb dJ3_checkIndex_8e157_6 (by decide) (fun _ => ?_) (fun c_0 => absurd (o_mlt (rfl : v.toInt = v.toInt) (by decide : (12 : Int32).toInt = 12) (by omega)) c_0)
  refine lv_iload_n hx hb dJ3_checkIndex_8e157_16 rfl (lv_at hl 0 rfl) ?_
  refine o_wq hQ ?_
  exact q_iret (rm := (Rm 0 0 0 0)) C hS () rfl (show 0 ≤ v.toInt ∧ v.toInt ≤ 11 by omega) (q_subP hP [] rfl) (hD.sub [] (by decide) rfl) hroom.1 hroom.2 dJ3_checkIndex_8e157_17
theorem o_chkN1 (l : Launch) (D : va_G) (cy : Nat → ClassId) (v : Int32) (sz : Nat) (hb0 : 0 ≤ v.toInt ∧ v.toInt ≤ 11) : MI l yJ3_checkIndex_8e157 cJ3_checkIndex_8e157 3 (some .int) (Rm 0 0 0 0) D cy [.int v, .int 12, .null] sz [] (fun (r : Int32) (u : Unit) => (0 ≤ r.toInt ∧ r.toInt ≤ 11)) (fun u : Unit => []) := by
  refine MI.enter (by decide) (Nat.le_of_ble_eq_true rfl) ?_
  intro p e s m below meth c ls A hsz hAe C hP hD hS hl
  exact b_o_chkN1 l D cy v hb0 ⟨Nat.le_of_ble_eq_true rfl, Nat.le_of_ble_eq_true rfl⟩ C rfl _ _ ls hP hD hS hl
set_option maxHeartbeats 4000000 in
set_option maxRecDepth 100000 in
theorem b_o_chkR1 (l : Launch) (D : va_G) (cy : Nat → ClassId) (v : Int32) (t : Nat) (hb0 : 0 ≤ v.toInt ∧ v.toInt ≤ 11) {p : Program} {e : Env} {s : State} {m : MethodId} {args : Array Value} {below : List Frame} {meth : Method} {c : Code} {A : Nat → Prop} {Q : State → Prop} {cells slots : Nat} (hroom : cells ≤ ((Rm 0 0 0 0)).cells ∧ slots ≤ ((Rm 0 0 0 0)).slots) (C : Cx p s m args meth c cJ3_checkIndex_8e157 3 (some .int) RJ3 "checkIndex" D cy A) (hQ : Q = MQ below (va_Qi (fun (r : Int32) (u : Unit) => (0 ≤ r.toInt ∧ r.toInt ≤ 11)) (Bx D A (fun u : Unit => [])) A) args s ((Rm 0 0 0 0)).cells ((Rm 0 0 0 0)).slots A) (H : Heap) (locs : List Loc) (ls : Array Slot) (hP : va_P D vwCl [] H) (hD : va_D A []) (hS : va_S A s.heap H locs) (hl : lv_has ls 3 [(0, .int v), (1, .int 12), (2, .ref t)]) : W p l e (Rm 0 0 0 0) s m args below meth c H locs cells slots Q (F0 m 0 ls []) := by
  have hx := C.1
  have hb := C.2.1
  refine lv_iload_n hx hb dJ3_checkIndex_8e157_0 rfl (lv_at hl 0 rfl) ?_
  refine lv_if_lt (tgt := 9) hx hb dJ3_checkIndex_8e157_1 (by decide) (fun c_0 => absurd c_0 (o_mnlt (rfl : v.toInt = v.toInt) (by decide : (0 : Int32).toInt = 0) (by omega))) (fun _ => ?_)
  refine lv_iload_n hx hb dJ3_checkIndex_8e157_4 rfl (lv_at hl 0 rfl) ?_
  refine lv_iload_n hx hb dJ3_checkIndex_8e157_5 rfl (lv_at hl 1 rfl) ?_
  refine lv_icmp_lt (tgt := 16) hx hb dJ3_checkIndex_8e157_6 (by decide) (fun _ => ?_) (fun c_0 => absurd (o_mlt (rfl : v.toInt = v.toInt) (by decide : (12 : Int32).toInt = 12) (by omega)) c_0)
  refine lv_iload_n hx hb dJ3_checkIndex_8e157_16 rfl (lv_at hl 0 rfl) ?_
  refine o_wq hQ ?_
  exact q_iret (rm := (Rm 0 0 0 0)) C hS () rfl (show 0 ≤ v.toInt ∧ v.toInt ≤ 11 by omega) (q_subP hP [] rfl) (hD.sub [] (by decide) rfl) hroom.1 hroom.2 dJ3_checkIndex_8e157_17
theorem o_chkR1 (l : Launch) (D : va_G) (cy : Nat → ClassId) (v : Int32) (t : Nat) (sz : Nat) (hb0 : 0 ≤ v.toInt ∧ v.toInt ≤ 11) : MI l yJ3_checkIndex_8e157 cJ3_checkIndex_8e157 3 (some .int) (Rm 0 0 0 0) D cy [.int v, .int 12, .ref t] sz [] (fun (r : Int32) (u : Unit) => (0 ≤ r.toInt ∧ r.toInt ≤ 11)) (fun u : Unit => []) := by
  refine MI.enter (by decide) (Nat.le_of_ble_eq_true rfl) ?_
  intro p e s m below meth c ls A hsz hAe C hP hD hS hl
  exact b_o_chkR1 l D cy v t hb0 ⟨Nat.le_of_ble_eq_true rfl, Nat.le_of_ble_eq_true rfl⟩ C rfl _ _ ls hP hD hS hl
set_option maxHeartbeats 4000000 in
set_option maxRecDepth 100000 in
theorem b_o_chk1 (l : Launch) (D : va_G) (cy : Nat → ClassId) (v : Int32) (hb0 : 0 ≤ v.toInt ∧ v.toInt ≤ 11) {p : Program} {e : Env} {s : State} {m : MethodId} {args : Array Value} {below : List Frame} {meth : Method} {c : Code} {A : Nat → Prop} {Q : State → Prop} {cells slots : Nat} (hroom : cells ≤ ((Rm 1 22 0 0)).cells ∧ slots ≤ ((Rm 1 22 0 0)).slots) (C : Cx p s m args meth c cJ0_checkIndex_df160 2 none RJ0 "checkIndex" D cy A) (hQ : Q = MQ below (va_Qv (fun u : Unit => True) (Bx D A (fun u : Unit => [])) A) args s ((Rm 1 22 0 0)).cells ((Rm 1 22 0 0)).slots A) (H : Heap) (locs : List Loc) (ls : Array Slot) (hP : va_P D vwCl [] H) (hD : va_D A []) (hS : va_S A s.heap H locs) (hl : lv_has ls 2 [(0, .int v), (1, .int 12)]) : W p l e (Rm 1 22 0 0) s m args below meth c H locs cells slots Q (F0 m 0 ls []) := by
  have hx := C.1
  have hb := C.2.1
  refine lv_iload_n hx hb dJ0_checkIndex_df160_0 rfl (lv_at hl 0 rfl) ?_
  refine lv_iload_n hx hb dJ0_checkIndex_df160_1 rfl (lv_at hl 1 rfl) ?_
  rcases C.sx.2.2 with hZ | ⟨t_Z, hZ⟩
  · refine va_gets hx hb hZ hS C.2.2.2.1 (C.2.2.2.2.1 _ kF_RJ0_1053) (fun _ h => h) dJ0_checkIndex_df160_2 ?_
    refine q_ai (wr := []) (r_S (rm := (Rm 0 0 0 0)) (As := [.int v, .int 12, .null]) (rest := []) (wc := []) C hS (q_subP hP [] rfl) (hD.sub [] (by decide) rfl) (o_chkN1 l D cy v _ (by omega)) kwS_J3_checkIndex_8e157 kM_RJ0_1059 ⟨Nat.le_of_ble_eq_true rfl, Nat.le_of_ble_eq_true rfl⟩ rfl hl.1 rfl (Nat.le_of_ble_eq_true rfl) dJ0_checkIndex_df160_5 ⟨hroom.1, hroom.2⟩) C.2.2.2.2.2.2.1 hP hD hS [] [] rfl rfl (by decide) (by decide) (fun r_2 u_1 H locs hw_3 hP hD hS => ?_)
    have hp_3 : 0 ≤ r_2.toInt ∧ r_2.toInt ≤ 11 := hw_3
    refine lv_pop hx hb dJ0_checkIndex_df160_8 rfl ?_
    refine o_wq hQ ?_
    exact q_vret (rm := (Rm 1 22 0 0)) C hS () trivial (q_subP hP [] rfl) (hD.sub [] (by decide) rfl) hroom.1 hroom.2 dJ0_checkIndex_df160_9
  · refine va_gets hx hb hZ hS C.2.2.2.1 (C.2.2.2.2.1 _ kF_RJ0_1053) (fun _ h => h) dJ0_checkIndex_df160_2 ?_
    refine q_ai (wr := []) (r_S (rm := (Rm 0 0 0 0)) (As := [.int v, .int 12, .ref t_Z]) (rest := []) (wc := []) C hS (q_subP hP [] rfl) (hD.sub [] (by decide) rfl) (o_chkR1 l D cy v t_Z _ (by omega)) kwS_J3_checkIndex_8e157 kM_RJ0_1059 ⟨Nat.le_of_ble_eq_true rfl, Nat.le_of_ble_eq_true rfl⟩ rfl hl.1 rfl (Nat.le_of_ble_eq_true rfl) dJ0_checkIndex_df160_5 ⟨hroom.1, hroom.2⟩) C.2.2.2.2.2.2.1 hP hD hS [] [] rfl rfl (by decide) (by decide) (fun r_6 u_5 H locs hw_7 hP hD hS => ?_)
    have hp_7 : 0 ≤ r_6.toInt ∧ r_6.toInt ≤ 11 := hw_7
    refine lv_pop hx hb dJ0_checkIndex_df160_8 rfl ?_
    refine o_wq hQ ?_
    exact q_vret (rm := (Rm 1 22 0 0)) C hS () trivial (q_subP hP [] rfl) (hD.sub [] (by decide) rfl) hroom.1 hroom.2 dJ0_checkIndex_df160_9
theorem o_chk1 (l : Launch) (D : va_G) (cy : Nat → ClassId) (v : Int32) (sz : Nat) (hb0 : 0 ≤ v.toInt ∧ v.toInt ≤ 11) : MV l yJ0_checkIndex_df160 cJ0_checkIndex_df160 2 (Rm 1 22 0 0) D cy [.int v, .int 12] sz [] (fun u : Unit => True) (fun u : Unit => []) := by
  refine MV.enter (by decide) (Nat.le_of_ble_eq_true rfl) ?_
  intro p e s m below meth c ls A hsz hAe C hP hD hS hl
  exact b_o_chk1 l D cy v hb0 ⟨Nat.le_of_ble_eq_true rfl, Nat.le_of_ble_eq_true rfl⟩ C rfl _ _ ls hP hD hS hl
set_option maxHeartbeats 4000000 in
set_option maxRecDepth 100000 in
theorem b_o_latChar1 (l : Launch) (D : va_G) (cy : Nat → ClassId) (v : Int32) (hb0 : 0 ≤ v.toInt ∧ v.toInt ≤ 11) {p : Program} {e : Env} {s : State} {m : MethodId} {args : Array Value} {below : List Frame} {meth : Method} {c : Code} {A : Nat → Prop} {Q : State → Prop} {cells slots : Nat} (hroom : cells ≤ ((Rm 2 43 0 0)).cells ∧ slots ≤ ((Rm 2 43 0 0)).slots) (C : Cx p s m args meth c cJ1_charAt_3b067 2 (some .char) RJ1 "charAt" D cy A) (hQ : Q = MQ below (va_Qi (fun (r : Int32) (u : Unit) => (0 ≤ r.toInt ∧ r.toInt ≤ 65535) ∧ (r.toInt = Wj 1 v.toInt)) (Bx D A (fun u : Unit => [])) A) args s ((Rm 2 43 0 0)).cells ((Rm 2 43 0 0)).slots A) (H : Heap) (locs : List Loc) (ls : Array Slot) (hP : va_P D vwCl [] H) (hD : va_D A []) (hS : va_S A s.heap H locs) (hl : lv_has ls 2 [(0, .ref (cy 201)), (1, .int v)]) : W p l e (Rm 2 43 0 0) s m args below meth c H locs cells slots Q (F0 m 0 ls []) := by
  have hx := C.1
  have hb := C.2.1
  refine lv_iload_n hx hb dJ1_charAt_3b067_0 rfl (lv_at hl 1 rfl) ?_
  refine lv_aload_n hx hb dJ1_charAt_3b067_1 rfl (lv_at hl 0 rfl) ?_
  refine va_tlen (v := 12) hx hb (C.sx.1.1 1 (by decide)).2.2.2 hS (by decide) dJ1_charAt_3b067_2 ?_
  refine q_av (wr := []) (r_S (rm := (Rm 1 22 0 0)) (As := [.int v, .int 12]) (rest := []) (wc := []) C hS (q_subP hP [] rfl) (hD.sub [] (by decide) rfl) (o_chk1 l D cy v _ (by omega)) kwS_J0_checkIndex_df160 kM_RJ1_9 ⟨Nat.le_of_ble_eq_true rfl, Nat.le_of_ble_eq_true rfl⟩ rfl hl.1 rfl (Nat.le_of_ble_eq_true rfl) dJ1_charAt_3b067_3 ⟨hroom.1, hroom.2⟩) C.2.2.2.2.2.2.1 hP hD hS [] [] rfl rfl (by decide) (by decide) (fun u_1 H locs hw_3 hP hD hS => ?_)
  refine lv_aload_n hx hb dJ1_charAt_3b067_6 rfl (lv_at hl 0 rfl) ?_
  refine lv_iload_n hx hb dJ1_charAt_3b067_7 rfl (lv_at hl 1 rfl) ?_
  refine va_tb (v := .int ((bytS.getD 1 []).getD v.toNatClampNeg 0)) hx hb (C.sx.1.1 1 (by decide)).2.2.2 hS (show vp_in _ 12 from (o_in (rfl : v.toInt = v.toInt) (by omega) (by omega))) rfl dJ1_charAt_3b067_8 ?_
  refine lv_topi (fun z_4 ez_4 => ?_)
  refine lv_sipush (v := 255) hx hb dJ1_charAt_3b067_9 (by decide) ?_
  refine lv_iand hx hb dJ1_charAt_3b067_12 ?_
  refine lv_topi (fun z_5 hz_5 => ?_)
  have dz_5 := hz_5
  have hz_5 := o_and hz_5 (b := 255) (by decide) (by decide)
  refine lv_i2c (v := (z_5.toUInt32 % 65536).toInt32) hx hb dJ1_charAt_3b067_13 rfl ?_
  refine lv_topi (fun z_6 hz_6 => ?_)
  have dz_6 := hz_6
  have hz_6 := o_i2c hz_6
  refine o_wq hQ ?_
  exact q_iret (rm := (Rm 2 43 0 0)) C hS () (o_char (by omega) (by omega)) ⟨(show 0 ≤ z_6.toInt ∧ z_6.toInt ≤ 65535 by omega), (show z_6.toInt = Wj 1 v.toInt from (lat_char (by decide) (by omega) (by omega) ez_4 dz_5 dz_6))⟩ (q_subP hP [] rfl) (hD.sub [] (by decide) rfl) hroom.1 hroom.2 dJ1_charAt_3b067_14
theorem o_latChar1 (l : Launch) (D : va_G) (cy : Nat → ClassId) (v : Int32) (sz : Nat) (hb0 : 0 ≤ v.toInt ∧ v.toInt ≤ 11) : MI l yJ1_charAt_3b067 cJ1_charAt_3b067 2 (some .char) (Rm 2 43 0 0) D cy [.ref (cy 201), .int v] sz [] (fun (r : Int32) (u : Unit) => (0 ≤ r.toInt ∧ r.toInt ≤ 65535) ∧ (r.toInt = Wj 1 v.toInt)) (fun u : Unit => []) := by
  refine MI.enter (by decide) (Nat.le_of_ble_eq_true rfl) ?_
  intro p e s m below meth c ls A hsz hAe C hP hD hS hl
  exact b_o_latChar1 l D cy v hb0 ⟨Nat.le_of_ble_eq_true rfl, Nat.le_of_ble_eq_true rfl⟩ C rfl _ _ ls hP hD hS hl
set_option maxHeartbeats 4000000 in
set_option maxRecDepth 100000 in
theorem b_o_charAt1 (l : Launch) (D : va_G) (cy : Nat → ClassId) (v : Int32) (hb0 : 0 ≤ v.toInt ∧ v.toInt ≤ 11) {p : Program} {e : Env} {s : State} {m : MethodId} {args : Array Value} {below : List Frame} {meth : Method} {c : Code} {A : Nat → Prop} {Q : State → Prop} {cells slots : Nat} (hroom : cells ≤ ((Rm 3 64 0 0)).cells ∧ slots ≤ ((Rm 3 64 0 0)).slots) (C : Cx p s m args meth c cJ0_charAt_5068e 2 (some .char) RJ0 "charAt" D cy A) (hQ : Q = MQ below (va_Qi (fun (r : Int32) (u : Unit) => (0 ≤ r.toInt ∧ r.toInt ≤ 65535) ∧ (r.toInt = Wj 1 v.toInt)) (Bx D A (fun u : Unit => [])) A) args s ((Rm 3 64 0 0)).cells ((Rm 3 64 0 0)).slots A) (H : Heap) (locs : List Loc) (ls : Array Slot) (hP : va_P D vwCl [] H) (hD : va_D A []) (hS : va_S A s.heap H locs) (hl : lv_has ls 2 [(0, .ref (cy 101)), (1, .int v)]) : W p l e (Rm 3 64 0 0) s m args below meth c H locs cells slots Q (F0 m 0 ls []) := by
  have hx := C.1
  have hb := C.2.1
  refine lv_aload_n hx hb dJ0_charAt_5068e_0 rfl (lv_at hl 0 rfl) ?_
  refine q_ai (wr := []) (r_VS (rm := (Rm 0 0 0 0)) (j := 1) (hj := by decide) (As := []) (rest := []) (wc := []) C hS (q_subP hP [] rfl) (hD.sub [] (by decide) rfl) (o_isLatin1 l D cy  _ ) kwV_J0_isLatin1_aae02 kM_RJ0_492 ⟨Nat.le_of_ble_eq_true rfl, Nat.le_of_ble_eq_true rfl⟩ rfl hl.1 rfl (Nat.le_of_ble_eq_true rfl) dJ0_charAt_5068e_1 ⟨hroom.1, hroom.2⟩) C.2.2.2.2.2.2.1 hP hD hS [] [] rfl rfl (by decide) (by decide) (fun r_2 u_1 H locs hw_3 hP hD hS => ?_)
  have hp_3 : 1 ≤ r_2.toInt ∧ r_2.toInt ≤ 1 := hw_3
  obtain rfl : r_2 = 1 := o_meq (b := 1) rfl (by decide) (by omega)
  refine lv_if_eq (tgt := 16) hx hb dJ0_charAt_5068e_4 (by decide) (fun c_0 => absurd c_0 (by decide)) (fun _ => ?_)
  refine lv_aload_n hx hb dJ0_charAt_5068e_7 rfl (lv_at hl 0 rfl) ?_
  refine vk_getf hx hb (C.sx.1.1 1 (by decide)).2.2.1 hS C.2.2.2.1 (C.2.2.2.2.1 _ kF_RJ0_9) (fun _ h => h) dJ0_charAt_5068e_8 ?_
  refine lv_iload_n hx hb dJ0_charAt_5068e_11 rfl (lv_at hl 1 rfl) ?_
  refine q_ai (wr := []) (r_S (rm := (Rm 2 43 0 0)) (As := [.ref (cy 201), .int v]) (rest := []) (wc := []) C hS (q_subP hP [] rfl) (hD.sub [] (by decide) rfl) (o_latChar1 l D cy v _ (by omega)) kwS_J1_charAt_3b067 kM_RJ0_495 ⟨Nat.le_of_ble_eq_true rfl, Nat.le_of_ble_eq_true rfl⟩ rfl hl.1 rfl (Nat.le_of_ble_eq_true rfl) dJ0_charAt_5068e_12 ⟨hroom.1, hroom.2⟩) C.2.2.2.2.2.2.1 hP hD hS [] [] rfl rfl (by decide) (by decide) (fun r_6 u_5 H locs hw_7 hP hD hS => ?_)
  have hp_7 : 0 ≤ r_6.toInt ∧ r_6.toInt ≤ 65535 := hw_7.1
  have hp_8 : r_6.toInt = Wj 1 v.toInt := hw_7.2
  refine o_wq hQ ?_
  exact q_iret (rm := (Rm 3 64 0 0)) C hS () (o_char (by omega) (by omega)) ⟨(show 0 ≤ r_6.toInt ∧ r_6.toInt ≤ 65535 by omega), hp_8⟩ (q_subP hP [] rfl) (hD.sub [] (by decide) rfl) hroom.1 hroom.2 dJ0_charAt_5068e_15
theorem o_charAt1 (l : Launch) (D : va_G) (cy : Nat → ClassId) (v : Int32) (sz : Nat) (hb0 : 0 ≤ v.toInt ∧ v.toInt ≤ 11) : MI l yJ0_charAt_5068e cJ0_charAt_5068e 2 (some .char) (Rm 3 64 0 0) D cy [.ref (cy 101), .int v] sz [] (fun (r : Int32) (u : Unit) => (0 ≤ r.toInt ∧ r.toInt ≤ 65535) ∧ (r.toInt = Wj 1 v.toInt)) (fun u : Unit => []) := by
  refine MI.enter (by decide) (Nat.le_of_ble_eq_true rfl) ?_
  intro p e s m below meth c ls A hsz hAe C hP hD hS hl
  exact b_o_charAt1 l D cy v hb0 ⟨Nat.le_of_ble_eq_true rfl, Nat.le_of_ble_eq_true rfl⟩ C rfl _ _ ls hP hD hS hl
set_option maxHeartbeats 4000000 in
set_option maxRecDepth 100000 in
theorem b_o_coder2 (l : Launch) (D : va_G) (cy : Nat → ClassId)   {p : Program} {e : Env} {s : State} {m : MethodId} {args : Array Value} {below : List Frame} {meth : Method} {c : Code} {A : Nat → Prop} {Q : State → Prop} {cells slots : Nat} (hroom : cells ≤ ((Rm 0 0 0 0)).cells ∧ slots ≤ ((Rm 0 0 0 0)).slots) (C : Cx p s m args meth c cJ0_coder_7d493 1 (some .byte) RJ0 "coder" D cy A) (hQ : Q = MQ below (va_Qi (fun (r : Int32) (u : Unit) => (0 ≤ r.toInt ∧ r.toInt ≤ 0)) (Bx D A (fun u : Unit => [])) A) args s ((Rm 0 0 0 0)).cells ((Rm 0 0 0 0)).slots A) (H : Heap) (locs : List Loc) (ls : Array Slot) (hP : va_P D vwCl [] H) (hD : va_D A []) (hS : va_S A s.heap H locs) (hl : lv_has ls 1 [(0, .ref (cy 102))]) : W p l e (Rm 0 0 0 0) s m args below meth c H locs cells slots Q (F0 m 0 ls []) := by
  have hx := C.1
  have hb := C.2.1
  refine va_gets hx hb C.sx.2.1 hS C.2.2.2.1 (C.2.2.2.2.1 _ kF_RJ0_38) (fun _ h => h) dJ0_coder_7d493_0 ?_
  refine lv_if_eq (tgt := 13) hx hb dJ0_coder_7d493_3 (by decide) (fun c_0 => absurd c_0 (by decide)) (fun _ => ?_)
  refine lv_aload_n hx hb dJ0_coder_7d493_6 rfl (lv_at hl 0 rfl) ?_
  refine vk_getf hx hb (C.sx.1.1 2 (by decide)).2.1 hS C.2.2.2.1 (C.2.2.2.2.1 _ kF_RJ0_15) (fun _ h => h) dJ0_coder_7d493_7 ?_
  refine lv_goto (tgt := 14) hx hb dJ0_coder_7d493_10 (by decide) ?_
  refine o_wq hQ ?_
  exact q_iret (rm := (Rm 0 0 0 0)) C hS () rfl (show 0 ≤ (0 : Int32).toInt ∧ (0 : Int32).toInt ≤ 0 by decide) (q_subP hP [] rfl) (hD.sub [] (by decide) rfl) hroom.1 hroom.2 dJ0_coder_7d493_14
theorem o_coder2 (l : Launch) (D : va_G) (cy : Nat → ClassId)  (sz : Nat)  : MI l yJ0_coder_7d493 cJ0_coder_7d493 1 (some .byte) (Rm 0 0 0 0) D cy [.ref (cy 102)] sz [] (fun (r : Int32) (u : Unit) => (0 ≤ r.toInt ∧ r.toInt ≤ 0)) (fun u : Unit => []) := by
  refine MI.enter (by decide) (Nat.le_of_ble_eq_true rfl) ?_
  intro p e s m below meth c ls A hsz hAe C hP hD hS hl
  exact b_o_coder2 l D cy   ⟨Nat.le_of_ble_eq_true rfl, Nat.le_of_ble_eq_true rfl⟩ C rfl _ _ ls hP hD hS hl
set_option maxHeartbeats 4000000 in
set_option maxRecDepth 100000 in
theorem b_o_length2 (l : Launch) (D : va_G) (cy : Nat → ClassId)   {p : Program} {e : Env} {s : State} {m : MethodId} {args : Array Value} {below : List Frame} {meth : Method} {c : Code} {A : Nat → Prop} {Q : State → Prop} {cells slots : Nat} (hroom : cells ≤ ((Rm 1 20 0 0)).cells ∧ slots ≤ ((Rm 1 20 0 0)).slots) (C : Cx p s m args meth c cJ0_length_8abf5 1 (some .int) RJ0 "length" D cy A) (hQ : Q = MQ below (va_Qi (fun (r : Int32) (u : Unit) => (7 ≤ r.toInt ∧ r.toInt ≤ 7)) (Bx D A (fun u : Unit => [])) A) args s ((Rm 1 20 0 0)).cells ((Rm 1 20 0 0)).slots A) (H : Heap) (locs : List Loc) (ls : Array Slot) (hP : va_P D vwCl [] H) (hD : va_D A []) (hS : va_S A s.heap H locs) (hl : lv_has ls 1 [(0, .ref (cy 102))]) : W p l e (Rm 1 20 0 0) s m args below meth c H locs cells slots Q (F0 m 0 ls []) := by
  have hx := C.1
  have hb := C.2.1
  refine lv_aload_n hx hb dJ0_length_8abf5_0 rfl (lv_at hl 0 rfl) ?_
  refine vk_getf hx hb (C.sx.1.1 2 (by decide)).2.2.1 hS C.2.2.2.1 (C.2.2.2.2.1 _ kF_RJ0_9) (fun _ h => h) dJ0_length_8abf5_1 ?_
  refine va_tlen (v := 7) hx hb (C.sx.1.1 2 (by decide)).2.2.2 hS (by decide) dJ0_length_8abf5_4 ?_
  refine lv_aload_n hx hb dJ0_length_8abf5_5 rfl (lv_at hl 0 rfl) ?_
  refine q_ai (wr := []) (r_VS (rm := (Rm 0 0 0 0)) (j := 2) (hj := by decide) (As := []) (rest := [.int 7]) (wc := []) C hS (q_subP hP [] rfl) (hD.sub [] (by decide) rfl) (o_coder2 l D cy  _ ) kwV_J0_coder_7d493 kM_RJ0_335 ⟨Nat.le_of_ble_eq_true rfl, Nat.le_of_ble_eq_true rfl⟩ rfl hl.1 rfl (Nat.le_of_ble_eq_true rfl) dJ0_length_8abf5_6 ⟨hroom.1, hroom.2⟩) C.2.2.2.2.2.2.1 hP hD hS [] [] rfl rfl (by decide) (by decide) (fun r_2 u_1 H locs hw_3 hP hD hS => ?_)
  have hp_3 : 0 ≤ r_2.toInt ∧ r_2.toInt ≤ 0 := hw_3
  obtain rfl : r_2 = 0 := o_meq (b := 0) rfl (by decide) (by omega)
  refine lv_ishr hx hb dJ0_length_8abf5_9 ?_
  refine q_val (v := 7) (by decide) ?_
  refine o_wq hQ ?_
  exact q_iret (rm := (Rm 1 20 0 0)) C hS () rfl (show 7 ≤ (7 : Int32).toInt ∧ (7 : Int32).toInt ≤ 7 by decide) (q_subP hP [] rfl) (hD.sub [] (by decide) rfl) hroom.1 hroom.2 dJ0_length_8abf5_10
theorem o_length2 (l : Launch) (D : va_G) (cy : Nat → ClassId)  (sz : Nat)  : MI l yJ0_length_8abf5 cJ0_length_8abf5 1 (some .int) (Rm 1 20 0 0) D cy [.ref (cy 102)] sz [] (fun (r : Int32) (u : Unit) => (7 ≤ r.toInt ∧ r.toInt ≤ 7)) (fun u : Unit => []) := by
  refine MI.enter (by decide) (Nat.le_of_ble_eq_true rfl) ?_
  intro p e s m below meth c ls A hsz hAe C hP hD hS hl
  exact b_o_length2 l D cy   ⟨Nat.le_of_ble_eq_true rfl, Nat.le_of_ble_eq_true rfl⟩ C rfl _ _ ls hP hD hS hl
set_option maxHeartbeats 4000000 in
set_option maxRecDepth 100000 in
theorem b_o_isLatin2 (l : Launch) (D : va_G) (cy : Nat → ClassId)   {p : Program} {e : Env} {s : State} {m : MethodId} {args : Array Value} {below : List Frame} {meth : Method} {c : Code} {A : Nat → Prop} {Q : State → Prop} {cells slots : Nat} (hroom : cells ≤ ((Rm 0 0 0 0)).cells ∧ slots ≤ ((Rm 0 0 0 0)).slots) (C : Cx p s m args meth c cJ0_isLatin1_aae02 1 (some .boolean) RJ0 "isLatin1" D cy A) (hQ : Q = MQ below (va_Qi (fun (r : Int32) (u : Unit) => (1 ≤ r.toInt ∧ r.toInt ≤ 1)) (Bx D A (fun u : Unit => [])) A) args s ((Rm 0 0 0 0)).cells ((Rm 0 0 0 0)).slots A) (H : Heap) (locs : List Loc) (ls : Array Slot) (hP : va_P D vwCl [] H) (hD : va_D A []) (hS : va_S A s.heap H locs) (hl : lv_has ls 1 [(0, .ref (cy 102))]) : W p l e (Rm 0 0 0 0) s m args below meth c H locs cells slots Q (F0 m 0 ls []) := by
  have hx := C.1
  have hb := C.2.1
  refine va_gets hx hb C.sx.2.1 hS C.2.2.2.1 (C.2.2.2.2.1 _ kF_RJ0_38) (fun _ h => h) dJ0_isLatin1_aae02_0 ?_
  refine lv_if_eq (tgt := 17) hx hb dJ0_isLatin1_aae02_3 (by decide) (fun c_0 => absurd c_0 (by decide)) (fun _ => ?_)
  refine lv_aload_n hx hb dJ0_isLatin1_aae02_6 rfl (lv_at hl 0 rfl) ?_
  refine vk_getf hx hb (C.sx.1.1 2 (by decide)).2.1 hS C.2.2.2.1 (C.2.2.2.2.1 _ kF_RJ0_15) (fun _ h => h) dJ0_isLatin1_aae02_7 ?_
  refine lv_if_ne (tgt := 17) hx hb dJ0_isLatin1_aae02_10 (by decide) (fun c_0 => absurd (by decide) c_0) (fun _ => ?_)
  refine lv_iconst (v := 1) hx hb dJ0_isLatin1_aae02_13 (by decide) ?_
  refine lv_goto (tgt := 18) hx hb dJ0_isLatin1_aae02_14 (by decide) ?_
  refine o_wq hQ ?_
  exact q_iret (rm := (Rm 0 0 0 0)) C hS () rfl (show 1 ≤ (1 : Int32).toInt ∧ (1 : Int32).toInt ≤ 1 by decide) (q_subP hP [] rfl) (hD.sub [] (by decide) rfl) hroom.1 hroom.2 dJ0_isLatin1_aae02_18
theorem o_isLatin2 (l : Launch) (D : va_G) (cy : Nat → ClassId)  (sz : Nat)  : MI l yJ0_isLatin1_aae02 cJ0_isLatin1_aae02 1 (some .boolean) (Rm 0 0 0 0) D cy [.ref (cy 102)] sz [] (fun (r : Int32) (u : Unit) => (1 ≤ r.toInt ∧ r.toInt ≤ 1)) (fun u : Unit => []) := by
  refine MI.enter (by decide) (Nat.le_of_ble_eq_true rfl) ?_
  intro p e s m below meth c ls A hsz hAe C hP hD hS hl
  exact b_o_isLatin2 l D cy   ⟨Nat.le_of_ble_eq_true rfl, Nat.le_of_ble_eq_true rfl⟩ C rfl _ _ ls hP hD hS hl
set_option maxHeartbeats 4000000 in
set_option maxRecDepth 100000 in
theorem b_o_chkN2 (l : Launch) (D : va_G) (cy : Nat → ClassId) (v : Int32) (hb0 : 0 ≤ v.toInt ∧ v.toInt ≤ 6) {p : Program} {e : Env} {s : State} {m : MethodId} {args : Array Value} {below : List Frame} {meth : Method} {c : Code} {A : Nat → Prop} {Q : State → Prop} {cells slots : Nat} (hroom : cells ≤ ((Rm 0 0 0 0)).cells ∧ slots ≤ ((Rm 0 0 0 0)).slots) (C : Cx p s m args meth c cJ3_checkIndex_8e157 3 (some .int) RJ3 "checkIndex" D cy A) (hQ : Q = MQ below (va_Qi (fun (r : Int32) (u : Unit) => (0 ≤ r.toInt ∧ r.toInt ≤ 6)) (Bx D A (fun u : Unit => [])) A) args s ((Rm 0 0 0 0)).cells ((Rm 0 0 0 0)).slots A) (H : Heap) (locs : List Loc) (ls : Array Slot) (hP : va_P D vwCl [] H) (hD : va_D A []) (hS : va_S A s.heap H locs) (hl : lv_has ls 3 [(0, .int v), (1, .int 7), (2, .null)]) : W p l e (Rm 0 0 0 0) s m args below meth c H locs cells slots Q (F0 m 0 ls []) := by
  have hx := C.1
  have hb := C.2.1
  refine lv_iload_n hx hb dJ3_checkIndex_8e157_0 rfl (lv_at hl 0 rfl) ?_
  refine lv_if_lt (tgt := 9) hx hb dJ3_checkIndex_8e157_1 (by decide) (fun c_0 => absurd c_0 (o_mnlt (rfl : v.toInt = v.toInt) (by decide : (0 : Int32).toInt = 0) (by omega))) (fun _ => ?_)
  refine lv_iload_n hx hb dJ3_checkIndex_8e157_4 rfl (lv_at hl 0 rfl) ?_
  refine lv_iload_n hx hb dJ3_checkIndex_8e157_5 rfl (lv_at hl 1 rfl) ?_
  refine lv_icmp_lt (tgt := 16) hx hb dJ3_checkIndex_8e157_6 (by decide) (fun _ => ?_) (fun c_0 => absurd (o_mlt (rfl : v.toInt = v.toInt) (by decide : (7 : Int32).toInt = 7) (by omega)) c_0)
  refine lv_iload_n hx hb dJ3_checkIndex_8e157_16 rfl (lv_at hl 0 rfl) ?_
  refine o_wq hQ ?_
  exact q_iret (rm := (Rm 0 0 0 0)) C hS () rfl (show 0 ≤ v.toInt ∧ v.toInt ≤ 6 by omega) (q_subP hP [] rfl) (hD.sub [] (by decide) rfl) hroom.1 hroom.2 dJ3_checkIndex_8e157_17
theorem o_chkN2 (l : Launch) (D : va_G) (cy : Nat → ClassId) (v : Int32) (sz : Nat) (hb0 : 0 ≤ v.toInt ∧ v.toInt ≤ 6) : MI l yJ3_checkIndex_8e157 cJ3_checkIndex_8e157 3 (some .int) (Rm 0 0 0 0) D cy [.int v, .int 7, .null] sz [] (fun (r : Int32) (u : Unit) => (0 ≤ r.toInt ∧ r.toInt ≤ 6)) (fun u : Unit => []) := by
  refine MI.enter (by decide) (Nat.le_of_ble_eq_true rfl) ?_
  intro p e s m below meth c ls A hsz hAe C hP hD hS hl
  exact b_o_chkN2 l D cy v hb0 ⟨Nat.le_of_ble_eq_true rfl, Nat.le_of_ble_eq_true rfl⟩ C rfl _ _ ls hP hD hS hl
set_option maxHeartbeats 4000000 in
set_option maxRecDepth 100000 in
theorem b_o_chkR2 (l : Launch) (D : va_G) (cy : Nat → ClassId) (v : Int32) (t : Nat) (hb0 : 0 ≤ v.toInt ∧ v.toInt ≤ 6) {p : Program} {e : Env} {s : State} {m : MethodId} {args : Array Value} {below : List Frame} {meth : Method} {c : Code} {A : Nat → Prop} {Q : State → Prop} {cells slots : Nat} (hroom : cells ≤ ((Rm 0 0 0 0)).cells ∧ slots ≤ ((Rm 0 0 0 0)).slots) (C : Cx p s m args meth c cJ3_checkIndex_8e157 3 (some .int) RJ3 "checkIndex" D cy A) (hQ : Q = MQ below (va_Qi (fun (r : Int32) (u : Unit) => (0 ≤ r.toInt ∧ r.toInt ≤ 6)) (Bx D A (fun u : Unit => [])) A) args s ((Rm 0 0 0 0)).cells ((Rm 0 0 0 0)).slots A) (H : Heap) (locs : List Loc) (ls : Array Slot) (hP : va_P D vwCl [] H) (hD : va_D A []) (hS : va_S A s.heap H locs) (hl : lv_has ls 3 [(0, .int v), (1, .int 7), (2, .ref t)]) : W p l e (Rm 0 0 0 0) s m args below meth c H locs cells slots Q (F0 m 0 ls []) := by
  have hx := C.1
  have hb := C.2.1
  refine lv_iload_n hx hb dJ3_checkIndex_8e157_0 rfl (lv_at hl 0 rfl) ?_
  refine lv_if_lt (tgt := 9) hx hb dJ3_checkIndex_8e157_1 (by decide) (fun c_0 => absurd c_0 (o_mnlt (rfl : v.toInt = v.toInt) (by decide : (0 : Int32).toInt = 0) (by omega))) (fun _ => ?_)
  refine lv_iload_n hx hb dJ3_checkIndex_8e157_4 rfl (lv_at hl 0 rfl) ?_
  refine lv_iload_n hx hb dJ3_checkIndex_8e157_5 rfl (lv_at hl 1 rfl) ?_
  refine lv_icmp_lt (tgt := 16) hx hb dJ3_checkIndex_8e157_6 (by decide) (fun _ => ?_) (fun c_0 => absurd (o_mlt (rfl : v.toInt = v.toInt) (by decide : (7 : Int32).toInt = 7) (by omega)) c_0)
  refine lv_iload_n hx hb dJ3_checkIndex_8e157_16 rfl (lv_at hl 0 rfl) ?_
  refine o_wq hQ ?_
  exact q_iret (rm := (Rm 0 0 0 0)) C hS () rfl (show 0 ≤ v.toInt ∧ v.toInt ≤ 6 by omega) (q_subP hP [] rfl) (hD.sub [] (by decide) rfl) hroom.1 hroom.2 dJ3_checkIndex_8e157_17
theorem o_chkR2 (l : Launch) (D : va_G) (cy : Nat → ClassId) (v : Int32) (t : Nat) (sz : Nat) (hb0 : 0 ≤ v.toInt ∧ v.toInt ≤ 6) : MI l yJ3_checkIndex_8e157 cJ3_checkIndex_8e157 3 (some .int) (Rm 0 0 0 0) D cy [.int v, .int 7, .ref t] sz [] (fun (r : Int32) (u : Unit) => (0 ≤ r.toInt ∧ r.toInt ≤ 6)) (fun u : Unit => []) := by
  refine MI.enter (by decide) (Nat.le_of_ble_eq_true rfl) ?_
  intro p e s m below meth c ls A hsz hAe C hP hD hS hl
  exact b_o_chkR2 l D cy v t hb0 ⟨Nat.le_of_ble_eq_true rfl, Nat.le_of_ble_eq_true rfl⟩ C rfl _ _ ls hP hD hS hl
set_option maxHeartbeats 4000000 in
set_option maxRecDepth 100000 in
theorem b_o_chk2 (l : Launch) (D : va_G) (cy : Nat → ClassId) (v : Int32) (hb0 : 0 ≤ v.toInt ∧ v.toInt ≤ 6) {p : Program} {e : Env} {s : State} {m : MethodId} {args : Array Value} {below : List Frame} {meth : Method} {c : Code} {A : Nat → Prop} {Q : State → Prop} {cells slots : Nat} (hroom : cells ≤ ((Rm 1 22 0 0)).cells ∧ slots ≤ ((Rm 1 22 0 0)).slots) (C : Cx p s m args meth c cJ0_checkIndex_df160 2 none RJ0 "checkIndex" D cy A) (hQ : Q = MQ below (va_Qv (fun u : Unit => True) (Bx D A (fun u : Unit => [])) A) args s ((Rm 1 22 0 0)).cells ((Rm 1 22 0 0)).slots A) (H : Heap) (locs : List Loc) (ls : Array Slot) (hP : va_P D vwCl [] H) (hD : va_D A []) (hS : va_S A s.heap H locs) (hl : lv_has ls 2 [(0, .int v), (1, .int 7)]) : W p l e (Rm 1 22 0 0) s m args below meth c H locs cells slots Q (F0 m 0 ls []) := by
  have hx := C.1
  have hb := C.2.1
  refine lv_iload_n hx hb dJ0_checkIndex_df160_0 rfl (lv_at hl 0 rfl) ?_
  refine lv_iload_n hx hb dJ0_checkIndex_df160_1 rfl (lv_at hl 1 rfl) ?_
  rcases C.sx.2.2 with hZ | ⟨t_Z, hZ⟩
  · refine va_gets hx hb hZ hS C.2.2.2.1 (C.2.2.2.2.1 _ kF_RJ0_1053) (fun _ h => h) dJ0_checkIndex_df160_2 ?_
    refine q_ai (wr := []) (r_S (rm := (Rm 0 0 0 0)) (As := [.int v, .int 7, .null]) (rest := []) (wc := []) C hS (q_subP hP [] rfl) (hD.sub [] (by decide) rfl) (o_chkN2 l D cy v _ (by omega)) kwS_J3_checkIndex_8e157 kM_RJ0_1059 ⟨Nat.le_of_ble_eq_true rfl, Nat.le_of_ble_eq_true rfl⟩ rfl hl.1 rfl (Nat.le_of_ble_eq_true rfl) dJ0_checkIndex_df160_5 ⟨hroom.1, hroom.2⟩) C.2.2.2.2.2.2.1 hP hD hS [] [] rfl rfl (by decide) (by decide) (fun r_2 u_1 H locs hw_3 hP hD hS => ?_)
    have hp_3 : 0 ≤ r_2.toInt ∧ r_2.toInt ≤ 6 := hw_3
    refine lv_pop hx hb dJ0_checkIndex_df160_8 rfl ?_
    refine o_wq hQ ?_
    exact q_vret (rm := (Rm 1 22 0 0)) C hS () trivial (q_subP hP [] rfl) (hD.sub [] (by decide) rfl) hroom.1 hroom.2 dJ0_checkIndex_df160_9
  · refine va_gets hx hb hZ hS C.2.2.2.1 (C.2.2.2.2.1 _ kF_RJ0_1053) (fun _ h => h) dJ0_checkIndex_df160_2 ?_
    refine q_ai (wr := []) (r_S (rm := (Rm 0 0 0 0)) (As := [.int v, .int 7, .ref t_Z]) (rest := []) (wc := []) C hS (q_subP hP [] rfl) (hD.sub [] (by decide) rfl) (o_chkR2 l D cy v t_Z _ (by omega)) kwS_J3_checkIndex_8e157 kM_RJ0_1059 ⟨Nat.le_of_ble_eq_true rfl, Nat.le_of_ble_eq_true rfl⟩ rfl hl.1 rfl (Nat.le_of_ble_eq_true rfl) dJ0_checkIndex_df160_5 ⟨hroom.1, hroom.2⟩) C.2.2.2.2.2.2.1 hP hD hS [] [] rfl rfl (by decide) (by decide) (fun r_6 u_5 H locs hw_7 hP hD hS => ?_)
    have hp_7 : 0 ≤ r_6.toInt ∧ r_6.toInt ≤ 6 := hw_7
    refine lv_pop hx hb dJ0_checkIndex_df160_8 rfl ?_
    refine o_wq hQ ?_
    exact q_vret (rm := (Rm 1 22 0 0)) C hS () trivial (q_subP hP [] rfl) (hD.sub [] (by decide) rfl) hroom.1 hroom.2 dJ0_checkIndex_df160_9
theorem o_chk2 (l : Launch) (D : va_G) (cy : Nat → ClassId) (v : Int32) (sz : Nat) (hb0 : 0 ≤ v.toInt ∧ v.toInt ≤ 6) : MV l yJ0_checkIndex_df160 cJ0_checkIndex_df160 2 (Rm 1 22 0 0) D cy [.int v, .int 7] sz [] (fun u : Unit => True) (fun u : Unit => []) := by
  refine MV.enter (by decide) (Nat.le_of_ble_eq_true rfl) ?_
  intro p e s m below meth c ls A hsz hAe C hP hD hS hl
  exact b_o_chk2 l D cy v hb0 ⟨Nat.le_of_ble_eq_true rfl, Nat.le_of_ble_eq_true rfl⟩ C rfl _ _ ls hP hD hS hl
set_option maxHeartbeats 4000000 in
set_option maxRecDepth 100000 in
theorem b_o_latChar2 (l : Launch) (D : va_G) (cy : Nat → ClassId) (v : Int32) (hb0 : 0 ≤ v.toInt ∧ v.toInt ≤ 6) {p : Program} {e : Env} {s : State} {m : MethodId} {args : Array Value} {below : List Frame} {meth : Method} {c : Code} {A : Nat → Prop} {Q : State → Prop} {cells slots : Nat} (hroom : cells ≤ ((Rm 2 43 0 0)).cells ∧ slots ≤ ((Rm 2 43 0 0)).slots) (C : Cx p s m args meth c cJ1_charAt_3b067 2 (some .char) RJ1 "charAt" D cy A) (hQ : Q = MQ below (va_Qi (fun (r : Int32) (u : Unit) => (0 ≤ r.toInt ∧ r.toInt ≤ 65535) ∧ (r.toInt = Wj 2 v.toInt)) (Bx D A (fun u : Unit => [])) A) args s ((Rm 2 43 0 0)).cells ((Rm 2 43 0 0)).slots A) (H : Heap) (locs : List Loc) (ls : Array Slot) (hP : va_P D vwCl [] H) (hD : va_D A []) (hS : va_S A s.heap H locs) (hl : lv_has ls 2 [(0, .ref (cy 202)), (1, .int v)]) : W p l e (Rm 2 43 0 0) s m args below meth c H locs cells slots Q (F0 m 0 ls []) := by
  have hx := C.1
  have hb := C.2.1
  refine lv_iload_n hx hb dJ1_charAt_3b067_0 rfl (lv_at hl 1 rfl) ?_
  refine lv_aload_n hx hb dJ1_charAt_3b067_1 rfl (lv_at hl 0 rfl) ?_
  refine va_tlen (v := 7) hx hb (C.sx.1.1 2 (by decide)).2.2.2 hS (by decide) dJ1_charAt_3b067_2 ?_
  refine q_av (wr := []) (r_S (rm := (Rm 1 22 0 0)) (As := [.int v, .int 7]) (rest := []) (wc := []) C hS (q_subP hP [] rfl) (hD.sub [] (by decide) rfl) (o_chk2 l D cy v _ (by omega)) kwS_J0_checkIndex_df160 kM_RJ1_9 ⟨Nat.le_of_ble_eq_true rfl, Nat.le_of_ble_eq_true rfl⟩ rfl hl.1 rfl (Nat.le_of_ble_eq_true rfl) dJ1_charAt_3b067_3 ⟨hroom.1, hroom.2⟩) C.2.2.2.2.2.2.1 hP hD hS [] [] rfl rfl (by decide) (by decide) (fun u_1 H locs hw_3 hP hD hS => ?_)
  refine lv_aload_n hx hb dJ1_charAt_3b067_6 rfl (lv_at hl 0 rfl) ?_
  refine lv_iload_n hx hb dJ1_charAt_3b067_7 rfl (lv_at hl 1 rfl) ?_
  refine va_tb (v := .int ((bytS.getD 2 []).getD v.toNatClampNeg 0)) hx hb (C.sx.1.1 2 (by decide)).2.2.2 hS (show vp_in _ 7 from (o_in (rfl : v.toInt = v.toInt) (by omega) (by omega))) rfl dJ1_charAt_3b067_8 ?_
  refine lv_topi (fun z_4 ez_4 => ?_)
  refine lv_sipush (v := 255) hx hb dJ1_charAt_3b067_9 (by decide) ?_
  refine lv_iand hx hb dJ1_charAt_3b067_12 ?_
  refine lv_topi (fun z_5 hz_5 => ?_)
  have dz_5 := hz_5
  have hz_5 := o_and hz_5 (b := 255) (by decide) (by decide)
  refine lv_i2c (v := (z_5.toUInt32 % 65536).toInt32) hx hb dJ1_charAt_3b067_13 rfl ?_
  refine lv_topi (fun z_6 hz_6 => ?_)
  have dz_6 := hz_6
  have hz_6 := o_i2c hz_6
  refine o_wq hQ ?_
  exact q_iret (rm := (Rm 2 43 0 0)) C hS () (o_char (by omega) (by omega)) ⟨(show 0 ≤ z_6.toInt ∧ z_6.toInt ≤ 65535 by omega), (show z_6.toInt = Wj 2 v.toInt from (lat_char (by decide) (by omega) (by omega) ez_4 dz_5 dz_6))⟩ (q_subP hP [] rfl) (hD.sub [] (by decide) rfl) hroom.1 hroom.2 dJ1_charAt_3b067_14
theorem o_latChar2 (l : Launch) (D : va_G) (cy : Nat → ClassId) (v : Int32) (sz : Nat) (hb0 : 0 ≤ v.toInt ∧ v.toInt ≤ 6) : MI l yJ1_charAt_3b067 cJ1_charAt_3b067 2 (some .char) (Rm 2 43 0 0) D cy [.ref (cy 202), .int v] sz [] (fun (r : Int32) (u : Unit) => (0 ≤ r.toInt ∧ r.toInt ≤ 65535) ∧ (r.toInt = Wj 2 v.toInt)) (fun u : Unit => []) := by
  refine MI.enter (by decide) (Nat.le_of_ble_eq_true rfl) ?_
  intro p e s m below meth c ls A hsz hAe C hP hD hS hl
  exact b_o_latChar2 l D cy v hb0 ⟨Nat.le_of_ble_eq_true rfl, Nat.le_of_ble_eq_true rfl⟩ C rfl _ _ ls hP hD hS hl
set_option maxHeartbeats 4000000 in
set_option maxRecDepth 100000 in
theorem b_o_charAt2 (l : Launch) (D : va_G) (cy : Nat → ClassId) (v : Int32) (hb0 : 0 ≤ v.toInt ∧ v.toInt ≤ 6) {p : Program} {e : Env} {s : State} {m : MethodId} {args : Array Value} {below : List Frame} {meth : Method} {c : Code} {A : Nat → Prop} {Q : State → Prop} {cells slots : Nat} (hroom : cells ≤ ((Rm 3 64 0 0)).cells ∧ slots ≤ ((Rm 3 64 0 0)).slots) (C : Cx p s m args meth c cJ0_charAt_5068e 2 (some .char) RJ0 "charAt" D cy A) (hQ : Q = MQ below (va_Qi (fun (r : Int32) (u : Unit) => (0 ≤ r.toInt ∧ r.toInt ≤ 65535) ∧ (r.toInt = Wj 2 v.toInt)) (Bx D A (fun u : Unit => [])) A) args s ((Rm 3 64 0 0)).cells ((Rm 3 64 0 0)).slots A) (H : Heap) (locs : List Loc) (ls : Array Slot) (hP : va_P D vwCl [] H) (hD : va_D A []) (hS : va_S A s.heap H locs) (hl : lv_has ls 2 [(0, .ref (cy 102)), (1, .int v)]) : W p l e (Rm 3 64 0 0) s m args below meth c H locs cells slots Q (F0 m 0 ls []) := by
  have hx := C.1
  have hb := C.2.1
  refine lv_aload_n hx hb dJ0_charAt_5068e_0 rfl (lv_at hl 0 rfl) ?_
  refine q_ai (wr := []) (r_VS (rm := (Rm 0 0 0 0)) (j := 2) (hj := by decide) (As := []) (rest := []) (wc := []) C hS (q_subP hP [] rfl) (hD.sub [] (by decide) rfl) (o_isLatin2 l D cy  _ ) kwV_J0_isLatin1_aae02 kM_RJ0_492 ⟨Nat.le_of_ble_eq_true rfl, Nat.le_of_ble_eq_true rfl⟩ rfl hl.1 rfl (Nat.le_of_ble_eq_true rfl) dJ0_charAt_5068e_1 ⟨hroom.1, hroom.2⟩) C.2.2.2.2.2.2.1 hP hD hS [] [] rfl rfl (by decide) (by decide) (fun r_2 u_1 H locs hw_3 hP hD hS => ?_)
  have hp_3 : 1 ≤ r_2.toInt ∧ r_2.toInt ≤ 1 := hw_3
  obtain rfl : r_2 = 1 := o_meq (b := 1) rfl (by decide) (by omega)
  refine lv_if_eq (tgt := 16) hx hb dJ0_charAt_5068e_4 (by decide) (fun c_0 => absurd c_0 (by decide)) (fun _ => ?_)
  refine lv_aload_n hx hb dJ0_charAt_5068e_7 rfl (lv_at hl 0 rfl) ?_
  refine vk_getf hx hb (C.sx.1.1 2 (by decide)).2.2.1 hS C.2.2.2.1 (C.2.2.2.2.1 _ kF_RJ0_9) (fun _ h => h) dJ0_charAt_5068e_8 ?_
  refine lv_iload_n hx hb dJ0_charAt_5068e_11 rfl (lv_at hl 1 rfl) ?_
  refine q_ai (wr := []) (r_S (rm := (Rm 2 43 0 0)) (As := [.ref (cy 202), .int v]) (rest := []) (wc := []) C hS (q_subP hP [] rfl) (hD.sub [] (by decide) rfl) (o_latChar2 l D cy v _ (by omega)) kwS_J1_charAt_3b067 kM_RJ0_495 ⟨Nat.le_of_ble_eq_true rfl, Nat.le_of_ble_eq_true rfl⟩ rfl hl.1 rfl (Nat.le_of_ble_eq_true rfl) dJ0_charAt_5068e_12 ⟨hroom.1, hroom.2⟩) C.2.2.2.2.2.2.1 hP hD hS [] [] rfl rfl (by decide) (by decide) (fun r_6 u_5 H locs hw_7 hP hD hS => ?_)
  have hp_7 : 0 ≤ r_6.toInt ∧ r_6.toInt ≤ 65535 := hw_7.1
  have hp_8 : r_6.toInt = Wj 2 v.toInt := hw_7.2
  refine o_wq hQ ?_
  exact q_iret (rm := (Rm 3 64 0 0)) C hS () (o_char (by omega) (by omega)) ⟨(show 0 ≤ r_6.toInt ∧ r_6.toInt ≤ 65535 by omega), hp_8⟩ (q_subP hP [] rfl) (hD.sub [] (by decide) rfl) hroom.1 hroom.2 dJ0_charAt_5068e_15
theorem o_charAt2 (l : Launch) (D : va_G) (cy : Nat → ClassId) (v : Int32) (sz : Nat) (hb0 : 0 ≤ v.toInt ∧ v.toInt ≤ 6) : MI l yJ0_charAt_5068e cJ0_charAt_5068e 2 (some .char) (Rm 3 64 0 0) D cy [.ref (cy 102), .int v] sz [] (fun (r : Int32) (u : Unit) => (0 ≤ r.toInt ∧ r.toInt ≤ 65535) ∧ (r.toInt = Wj 2 v.toInt)) (fun u : Unit => []) := by
  refine MI.enter (by decide) (Nat.le_of_ble_eq_true rfl) ?_
  intro p e s m below meth c ls A hsz hAe C hP hD hS hl
  exact b_o_charAt2 l D cy v hb0 ⟨Nat.le_of_ble_eq_true rfl, Nat.le_of_ble_eq_true rfl⟩ C rfl _ _ ls hP hD hS hl
set_option maxHeartbeats 4000000 in
set_option maxRecDepth 100000 in
theorem b_o_coder3 (l : Launch) (D : va_G) (cy : Nat → ClassId)   {p : Program} {e : Env} {s : State} {m : MethodId} {args : Array Value} {below : List Frame} {meth : Method} {c : Code} {A : Nat → Prop} {Q : State → Prop} {cells slots : Nat} (hroom : cells ≤ ((Rm 0 0 0 0)).cells ∧ slots ≤ ((Rm 0 0 0 0)).slots) (C : Cx p s m args meth c cJ0_coder_7d493 1 (some .byte) RJ0 "coder" D cy A) (hQ : Q = MQ below (va_Qi (fun (r : Int32) (u : Unit) => (0 ≤ r.toInt ∧ r.toInt ≤ 0)) (Bx D A (fun u : Unit => [])) A) args s ((Rm 0 0 0 0)).cells ((Rm 0 0 0 0)).slots A) (H : Heap) (locs : List Loc) (ls : Array Slot) (hP : va_P D vwCl [] H) (hD : va_D A []) (hS : va_S A s.heap H locs) (hl : lv_has ls 1 [(0, .ref (cy 103))]) : W p l e (Rm 0 0 0 0) s m args below meth c H locs cells slots Q (F0 m 0 ls []) := by
  have hx := C.1
  have hb := C.2.1
  refine va_gets hx hb C.sx.2.1 hS C.2.2.2.1 (C.2.2.2.2.1 _ kF_RJ0_38) (fun _ h => h) dJ0_coder_7d493_0 ?_
  refine lv_if_eq (tgt := 13) hx hb dJ0_coder_7d493_3 (by decide) (fun c_0 => absurd c_0 (by decide)) (fun _ => ?_)
  refine lv_aload_n hx hb dJ0_coder_7d493_6 rfl (lv_at hl 0 rfl) ?_
  refine vk_getf hx hb (C.sx.1.1 3 (by decide)).2.1 hS C.2.2.2.1 (C.2.2.2.2.1 _ kF_RJ0_15) (fun _ h => h) dJ0_coder_7d493_7 ?_
  refine lv_goto (tgt := 14) hx hb dJ0_coder_7d493_10 (by decide) ?_
  refine o_wq hQ ?_
  exact q_iret (rm := (Rm 0 0 0 0)) C hS () rfl (show 0 ≤ (0 : Int32).toInt ∧ (0 : Int32).toInt ≤ 0 by decide) (q_subP hP [] rfl) (hD.sub [] (by decide) rfl) hroom.1 hroom.2 dJ0_coder_7d493_14
theorem o_coder3 (l : Launch) (D : va_G) (cy : Nat → ClassId)  (sz : Nat)  : MI l yJ0_coder_7d493 cJ0_coder_7d493 1 (some .byte) (Rm 0 0 0 0) D cy [.ref (cy 103)] sz [] (fun (r : Int32) (u : Unit) => (0 ≤ r.toInt ∧ r.toInt ≤ 0)) (fun u : Unit => []) := by
  refine MI.enter (by decide) (Nat.le_of_ble_eq_true rfl) ?_
  intro p e s m below meth c ls A hsz hAe C hP hD hS hl
  exact b_o_coder3 l D cy   ⟨Nat.le_of_ble_eq_true rfl, Nat.le_of_ble_eq_true rfl⟩ C rfl _ _ ls hP hD hS hl
set_option maxHeartbeats 4000000 in
set_option maxRecDepth 100000 in
theorem b_o_length3 (l : Launch) (D : va_G) (cy : Nat → ClassId)   {p : Program} {e : Env} {s : State} {m : MethodId} {args : Array Value} {below : List Frame} {meth : Method} {c : Code} {A : Nat → Prop} {Q : State → Prop} {cells slots : Nat} (hroom : cells ≤ ((Rm 1 20 0 0)).cells ∧ slots ≤ ((Rm 1 20 0 0)).slots) (C : Cx p s m args meth c cJ0_length_8abf5 1 (some .int) RJ0 "length" D cy A) (hQ : Q = MQ below (va_Qi (fun (r : Int32) (u : Unit) => (9 ≤ r.toInt ∧ r.toInt ≤ 9)) (Bx D A (fun u : Unit => [])) A) args s ((Rm 1 20 0 0)).cells ((Rm 1 20 0 0)).slots A) (H : Heap) (locs : List Loc) (ls : Array Slot) (hP : va_P D vwCl [] H) (hD : va_D A []) (hS : va_S A s.heap H locs) (hl : lv_has ls 1 [(0, .ref (cy 103))]) : W p l e (Rm 1 20 0 0) s m args below meth c H locs cells slots Q (F0 m 0 ls []) := by
  have hx := C.1
  have hb := C.2.1
  refine lv_aload_n hx hb dJ0_length_8abf5_0 rfl (lv_at hl 0 rfl) ?_
  refine vk_getf hx hb (C.sx.1.1 3 (by decide)).2.2.1 hS C.2.2.2.1 (C.2.2.2.2.1 _ kF_RJ0_9) (fun _ h => h) dJ0_length_8abf5_1 ?_
  refine va_tlen (v := 9) hx hb (C.sx.1.1 3 (by decide)).2.2.2 hS (by decide) dJ0_length_8abf5_4 ?_
  refine lv_aload_n hx hb dJ0_length_8abf5_5 rfl (lv_at hl 0 rfl) ?_
  refine q_ai (wr := []) (r_VS (rm := (Rm 0 0 0 0)) (j := 3) (hj := by decide) (As := []) (rest := [.int 9]) (wc := []) C hS (q_subP hP [] rfl) (hD.sub [] (by decide) rfl) (o_coder3 l D cy  _ ) kwV_J0_coder_7d493 kM_RJ0_335 ⟨Nat.le_of_ble_eq_true rfl, Nat.le_of_ble_eq_true rfl⟩ rfl hl.1 rfl (Nat.le_of_ble_eq_true rfl) dJ0_length_8abf5_6 ⟨hroom.1, hroom.2⟩) C.2.2.2.2.2.2.1 hP hD hS [] [] rfl rfl (by decide) (by decide) (fun r_2 u_1 H locs hw_3 hP hD hS => ?_)
  have hp_3 : 0 ≤ r_2.toInt ∧ r_2.toInt ≤ 0 := hw_3
  obtain rfl : r_2 = 0 := o_meq (b := 0) rfl (by decide) (by omega)
  refine lv_ishr hx hb dJ0_length_8abf5_9 ?_
  refine q_val (v := 9) (by decide) ?_
  refine o_wq hQ ?_
  exact q_iret (rm := (Rm 1 20 0 0)) C hS () rfl (show 9 ≤ (9 : Int32).toInt ∧ (9 : Int32).toInt ≤ 9 by decide) (q_subP hP [] rfl) (hD.sub [] (by decide) rfl) hroom.1 hroom.2 dJ0_length_8abf5_10
theorem o_length3 (l : Launch) (D : va_G) (cy : Nat → ClassId)  (sz : Nat)  : MI l yJ0_length_8abf5 cJ0_length_8abf5 1 (some .int) (Rm 1 20 0 0) D cy [.ref (cy 103)] sz [] (fun (r : Int32) (u : Unit) => (9 ≤ r.toInt ∧ r.toInt ≤ 9)) (fun u : Unit => []) := by
  refine MI.enter (by decide) (Nat.le_of_ble_eq_true rfl) ?_
  intro p e s m below meth c ls A hsz hAe C hP hD hS hl
  exact b_o_length3 l D cy   ⟨Nat.le_of_ble_eq_true rfl, Nat.le_of_ble_eq_true rfl⟩ C rfl _ _ ls hP hD hS hl
set_option maxHeartbeats 4000000 in
set_option maxRecDepth 100000 in
theorem b_o_isLatin3 (l : Launch) (D : va_G) (cy : Nat → ClassId)   {p : Program} {e : Env} {s : State} {m : MethodId} {args : Array Value} {below : List Frame} {meth : Method} {c : Code} {A : Nat → Prop} {Q : State → Prop} {cells slots : Nat} (hroom : cells ≤ ((Rm 0 0 0 0)).cells ∧ slots ≤ ((Rm 0 0 0 0)).slots) (C : Cx p s m args meth c cJ0_isLatin1_aae02 1 (some .boolean) RJ0 "isLatin1" D cy A) (hQ : Q = MQ below (va_Qi (fun (r : Int32) (u : Unit) => (1 ≤ r.toInt ∧ r.toInt ≤ 1)) (Bx D A (fun u : Unit => [])) A) args s ((Rm 0 0 0 0)).cells ((Rm 0 0 0 0)).slots A) (H : Heap) (locs : List Loc) (ls : Array Slot) (hP : va_P D vwCl [] H) (hD : va_D A []) (hS : va_S A s.heap H locs) (hl : lv_has ls 1 [(0, .ref (cy 103))]) : W p l e (Rm 0 0 0 0) s m args below meth c H locs cells slots Q (F0 m 0 ls []) := by
  have hx := C.1
  have hb := C.2.1
  refine va_gets hx hb C.sx.2.1 hS C.2.2.2.1 (C.2.2.2.2.1 _ kF_RJ0_38) (fun _ h => h) dJ0_isLatin1_aae02_0 ?_
  refine lv_if_eq (tgt := 17) hx hb dJ0_isLatin1_aae02_3 (by decide) (fun c_0 => absurd c_0 (by decide)) (fun _ => ?_)
  refine lv_aload_n hx hb dJ0_isLatin1_aae02_6 rfl (lv_at hl 0 rfl) ?_
  refine vk_getf hx hb (C.sx.1.1 3 (by decide)).2.1 hS C.2.2.2.1 (C.2.2.2.2.1 _ kF_RJ0_15) (fun _ h => h) dJ0_isLatin1_aae02_7 ?_
  refine lv_if_ne (tgt := 17) hx hb dJ0_isLatin1_aae02_10 (by decide) (fun c_0 => absurd (by decide) c_0) (fun _ => ?_)
  refine lv_iconst (v := 1) hx hb dJ0_isLatin1_aae02_13 (by decide) ?_
  refine lv_goto (tgt := 18) hx hb dJ0_isLatin1_aae02_14 (by decide) ?_
  refine o_wq hQ ?_
  exact q_iret (rm := (Rm 0 0 0 0)) C hS () rfl (show 1 ≤ (1 : Int32).toInt ∧ (1 : Int32).toInt ≤ 1 by decide) (q_subP hP [] rfl) (hD.sub [] (by decide) rfl) hroom.1 hroom.2 dJ0_isLatin1_aae02_18
theorem o_isLatin3 (l : Launch) (D : va_G) (cy : Nat → ClassId)  (sz : Nat)  : MI l yJ0_isLatin1_aae02 cJ0_isLatin1_aae02 1 (some .boolean) (Rm 0 0 0 0) D cy [.ref (cy 103)] sz [] (fun (r : Int32) (u : Unit) => (1 ≤ r.toInt ∧ r.toInt ≤ 1)) (fun u : Unit => []) := by
  refine MI.enter (by decide) (Nat.le_of_ble_eq_true rfl) ?_
  intro p e s m below meth c ls A hsz hAe C hP hD hS hl
  exact b_o_isLatin3 l D cy   ⟨Nat.le_of_ble_eq_true rfl, Nat.le_of_ble_eq_true rfl⟩ C rfl _ _ ls hP hD hS hl
set_option maxHeartbeats 4000000 in
set_option maxRecDepth 100000 in
theorem b_o_chkN3 (l : Launch) (D : va_G) (cy : Nat → ClassId) (v : Int32) (hb0 : 0 ≤ v.toInt ∧ v.toInt ≤ 8) {p : Program} {e : Env} {s : State} {m : MethodId} {args : Array Value} {below : List Frame} {meth : Method} {c : Code} {A : Nat → Prop} {Q : State → Prop} {cells slots : Nat} (hroom : cells ≤ ((Rm 0 0 0 0)).cells ∧ slots ≤ ((Rm 0 0 0 0)).slots) (C : Cx p s m args meth c cJ3_checkIndex_8e157 3 (some .int) RJ3 "checkIndex" D cy A) (hQ : Q = MQ below (va_Qi (fun (r : Int32) (u : Unit) => (0 ≤ r.toInt ∧ r.toInt ≤ 8)) (Bx D A (fun u : Unit => [])) A) args s ((Rm 0 0 0 0)).cells ((Rm 0 0 0 0)).slots A) (H : Heap) (locs : List Loc) (ls : Array Slot) (hP : va_P D vwCl [] H) (hD : va_D A []) (hS : va_S A s.heap H locs) (hl : lv_has ls 3 [(0, .int v), (1, .int 9), (2, .null)]) : W p l e (Rm 0 0 0 0) s m args below meth c H locs cells slots Q (F0 m 0 ls []) := by
  have hx := C.1
  have hb := C.2.1
  refine lv_iload_n hx hb dJ3_checkIndex_8e157_0 rfl (lv_at hl 0 rfl) ?_
  refine lv_if_lt (tgt := 9) hx hb dJ3_checkIndex_8e157_1 (by decide) (fun c_0 => absurd c_0 (o_mnlt (rfl : v.toInt = v.toInt) (by decide : (0 : Int32).toInt = 0) (by omega))) (fun _ => ?_)
  refine lv_iload_n hx hb dJ3_checkIndex_8e157_4 rfl (lv_at hl 0 rfl) ?_
  refine lv_iload_n hx hb dJ3_checkIndex_8e157_5 rfl (lv_at hl 1 rfl) ?_
  refine lv_icmp_lt (tgt := 16) hx hb dJ3_checkIndex_8e157_6 (by decide) (fun _ => ?_) (fun c_0 => absurd (o_mlt (rfl : v.toInt = v.toInt) (by decide : (9 : Int32).toInt = 9) (by omega)) c_0)
  refine lv_iload_n hx hb dJ3_checkIndex_8e157_16 rfl (lv_at hl 0 rfl) ?_
  refine o_wq hQ ?_
  exact q_iret (rm := (Rm 0 0 0 0)) C hS () rfl (show 0 ≤ v.toInt ∧ v.toInt ≤ 8 by omega) (q_subP hP [] rfl) (hD.sub [] (by decide) rfl) hroom.1 hroom.2 dJ3_checkIndex_8e157_17
theorem o_chkN3 (l : Launch) (D : va_G) (cy : Nat → ClassId) (v : Int32) (sz : Nat) (hb0 : 0 ≤ v.toInt ∧ v.toInt ≤ 8) : MI l yJ3_checkIndex_8e157 cJ3_checkIndex_8e157 3 (some .int) (Rm 0 0 0 0) D cy [.int v, .int 9, .null] sz [] (fun (r : Int32) (u : Unit) => (0 ≤ r.toInt ∧ r.toInt ≤ 8)) (fun u : Unit => []) := by
  refine MI.enter (by decide) (Nat.le_of_ble_eq_true rfl) ?_
  intro p e s m below meth c ls A hsz hAe C hP hD hS hl
  exact b_o_chkN3 l D cy v hb0 ⟨Nat.le_of_ble_eq_true rfl, Nat.le_of_ble_eq_true rfl⟩ C rfl _ _ ls hP hD hS hl
set_option maxHeartbeats 4000000 in
set_option maxRecDepth 100000 in
theorem b_o_chkR3 (l : Launch) (D : va_G) (cy : Nat → ClassId) (v : Int32) (t : Nat) (hb0 : 0 ≤ v.toInt ∧ v.toInt ≤ 8) {p : Program} {e : Env} {s : State} {m : MethodId} {args : Array Value} {below : List Frame} {meth : Method} {c : Code} {A : Nat → Prop} {Q : State → Prop} {cells slots : Nat} (hroom : cells ≤ ((Rm 0 0 0 0)).cells ∧ slots ≤ ((Rm 0 0 0 0)).slots) (C : Cx p s m args meth c cJ3_checkIndex_8e157 3 (some .int) RJ3 "checkIndex" D cy A) (hQ : Q = MQ below (va_Qi (fun (r : Int32) (u : Unit) => (0 ≤ r.toInt ∧ r.toInt ≤ 8)) (Bx D A (fun u : Unit => [])) A) args s ((Rm 0 0 0 0)).cells ((Rm 0 0 0 0)).slots A) (H : Heap) (locs : List Loc) (ls : Array Slot) (hP : va_P D vwCl [] H) (hD : va_D A []) (hS : va_S A s.heap H locs) (hl : lv_has ls 3 [(0, .int v), (1, .int 9), (2, .ref t)]) : W p l e (Rm 0 0 0 0) s m args below meth c H locs cells slots Q (F0 m 0 ls []) := by
  have hx := C.1
  have hb := C.2.1
  refine lv_iload_n hx hb dJ3_checkIndex_8e157_0 rfl (lv_at hl 0 rfl) ?_
  refine lv_if_lt (tgt := 9) hx hb dJ3_checkIndex_8e157_1 (by decide) (fun c_0 => absurd c_0 (o_mnlt (rfl : v.toInt = v.toInt) (by decide : (0 : Int32).toInt = 0) (by omega))) (fun _ => ?_)
  refine lv_iload_n hx hb dJ3_checkIndex_8e157_4 rfl (lv_at hl 0 rfl) ?_
  refine lv_iload_n hx hb dJ3_checkIndex_8e157_5 rfl (lv_at hl 1 rfl) ?_
  refine lv_icmp_lt (tgt := 16) hx hb dJ3_checkIndex_8e157_6 (by decide) (fun _ => ?_) (fun c_0 => absurd (o_mlt (rfl : v.toInt = v.toInt) (by decide : (9 : Int32).toInt = 9) (by omega)) c_0)
  refine lv_iload_n hx hb dJ3_checkIndex_8e157_16 rfl (lv_at hl 0 rfl) ?_
  refine o_wq hQ ?_
  exact q_iret (rm := (Rm 0 0 0 0)) C hS () rfl (show 0 ≤ v.toInt ∧ v.toInt ≤ 8 by omega) (q_subP hP [] rfl) (hD.sub [] (by decide) rfl) hroom.1 hroom.2 dJ3_checkIndex_8e157_17
theorem o_chkR3 (l : Launch) (D : va_G) (cy : Nat → ClassId) (v : Int32) (t : Nat) (sz : Nat) (hb0 : 0 ≤ v.toInt ∧ v.toInt ≤ 8) : MI l yJ3_checkIndex_8e157 cJ3_checkIndex_8e157 3 (some .int) (Rm 0 0 0 0) D cy [.int v, .int 9, .ref t] sz [] (fun (r : Int32) (u : Unit) => (0 ≤ r.toInt ∧ r.toInt ≤ 8)) (fun u : Unit => []) := by
  refine MI.enter (by decide) (Nat.le_of_ble_eq_true rfl) ?_
  intro p e s m below meth c ls A hsz hAe C hP hD hS hl
  exact b_o_chkR3 l D cy v t hb0 ⟨Nat.le_of_ble_eq_true rfl, Nat.le_of_ble_eq_true rfl⟩ C rfl _ _ ls hP hD hS hl
set_option maxHeartbeats 4000000 in
set_option maxRecDepth 100000 in
theorem b_o_chk3 (l : Launch) (D : va_G) (cy : Nat → ClassId) (v : Int32) (hb0 : 0 ≤ v.toInt ∧ v.toInt ≤ 8) {p : Program} {e : Env} {s : State} {m : MethodId} {args : Array Value} {below : List Frame} {meth : Method} {c : Code} {A : Nat → Prop} {Q : State → Prop} {cells slots : Nat} (hroom : cells ≤ ((Rm 1 22 0 0)).cells ∧ slots ≤ ((Rm 1 22 0 0)).slots) (C : Cx p s m args meth c cJ0_checkIndex_df160 2 none RJ0 "checkIndex" D cy A) (hQ : Q = MQ below (va_Qv (fun u : Unit => True) (Bx D A (fun u : Unit => [])) A) args s ((Rm 1 22 0 0)).cells ((Rm 1 22 0 0)).slots A) (H : Heap) (locs : List Loc) (ls : Array Slot) (hP : va_P D vwCl [] H) (hD : va_D A []) (hS : va_S A s.heap H locs) (hl : lv_has ls 2 [(0, .int v), (1, .int 9)]) : W p l e (Rm 1 22 0 0) s m args below meth c H locs cells slots Q (F0 m 0 ls []) := by
  have hx := C.1
  have hb := C.2.1
  refine lv_iload_n hx hb dJ0_checkIndex_df160_0 rfl (lv_at hl 0 rfl) ?_
  refine lv_iload_n hx hb dJ0_checkIndex_df160_1 rfl (lv_at hl 1 rfl) ?_
  rcases C.sx.2.2 with hZ | ⟨t_Z, hZ⟩
  · refine va_gets hx hb hZ hS C.2.2.2.1 (C.2.2.2.2.1 _ kF_RJ0_1053) (fun _ h => h) dJ0_checkIndex_df160_2 ?_
    refine q_ai (wr := []) (r_S (rm := (Rm 0 0 0 0)) (As := [.int v, .int 9, .null]) (rest := []) (wc := []) C hS (q_subP hP [] rfl) (hD.sub [] (by decide) rfl) (o_chkN3 l D cy v _ (by omega)) kwS_J3_checkIndex_8e157 kM_RJ0_1059 ⟨Nat.le_of_ble_eq_true rfl, Nat.le_of_ble_eq_true rfl⟩ rfl hl.1 rfl (Nat.le_of_ble_eq_true rfl) dJ0_checkIndex_df160_5 ⟨hroom.1, hroom.2⟩) C.2.2.2.2.2.2.1 hP hD hS [] [] rfl rfl (by decide) (by decide) (fun r_2 u_1 H locs hw_3 hP hD hS => ?_)
    have hp_3 : 0 ≤ r_2.toInt ∧ r_2.toInt ≤ 8 := hw_3
    refine lv_pop hx hb dJ0_checkIndex_df160_8 rfl ?_
    refine o_wq hQ ?_
    exact q_vret (rm := (Rm 1 22 0 0)) C hS () trivial (q_subP hP [] rfl) (hD.sub [] (by decide) rfl) hroom.1 hroom.2 dJ0_checkIndex_df160_9
  · refine va_gets hx hb hZ hS C.2.2.2.1 (C.2.2.2.2.1 _ kF_RJ0_1053) (fun _ h => h) dJ0_checkIndex_df160_2 ?_
    refine q_ai (wr := []) (r_S (rm := (Rm 0 0 0 0)) (As := [.int v, .int 9, .ref t_Z]) (rest := []) (wc := []) C hS (q_subP hP [] rfl) (hD.sub [] (by decide) rfl) (o_chkR3 l D cy v t_Z _ (by omega)) kwS_J3_checkIndex_8e157 kM_RJ0_1059 ⟨Nat.le_of_ble_eq_true rfl, Nat.le_of_ble_eq_true rfl⟩ rfl hl.1 rfl (Nat.le_of_ble_eq_true rfl) dJ0_checkIndex_df160_5 ⟨hroom.1, hroom.2⟩) C.2.2.2.2.2.2.1 hP hD hS [] [] rfl rfl (by decide) (by decide) (fun r_6 u_5 H locs hw_7 hP hD hS => ?_)
    have hp_7 : 0 ≤ r_6.toInt ∧ r_6.toInt ≤ 8 := hw_7
    refine lv_pop hx hb dJ0_checkIndex_df160_8 rfl ?_
    refine o_wq hQ ?_
    exact q_vret (rm := (Rm 1 22 0 0)) C hS () trivial (q_subP hP [] rfl) (hD.sub [] (by decide) rfl) hroom.1 hroom.2 dJ0_checkIndex_df160_9
theorem o_chk3 (l : Launch) (D : va_G) (cy : Nat → ClassId) (v : Int32) (sz : Nat) (hb0 : 0 ≤ v.toInt ∧ v.toInt ≤ 8) : MV l yJ0_checkIndex_df160 cJ0_checkIndex_df160 2 (Rm 1 22 0 0) D cy [.int v, .int 9] sz [] (fun u : Unit => True) (fun u : Unit => []) := by
  refine MV.enter (by decide) (Nat.le_of_ble_eq_true rfl) ?_
  intro p e s m below meth c ls A hsz hAe C hP hD hS hl
  exact b_o_chk3 l D cy v hb0 ⟨Nat.le_of_ble_eq_true rfl, Nat.le_of_ble_eq_true rfl⟩ C rfl _ _ ls hP hD hS hl
set_option maxHeartbeats 4000000 in
set_option maxRecDepth 100000 in
theorem b_o_latChar3 (l : Launch) (D : va_G) (cy : Nat → ClassId) (v : Int32) (hb0 : 0 ≤ v.toInt ∧ v.toInt ≤ 8) {p : Program} {e : Env} {s : State} {m : MethodId} {args : Array Value} {below : List Frame} {meth : Method} {c : Code} {A : Nat → Prop} {Q : State → Prop} {cells slots : Nat} (hroom : cells ≤ ((Rm 2 43 0 0)).cells ∧ slots ≤ ((Rm 2 43 0 0)).slots) (C : Cx p s m args meth c cJ1_charAt_3b067 2 (some .char) RJ1 "charAt" D cy A) (hQ : Q = MQ below (va_Qi (fun (r : Int32) (u : Unit) => (0 ≤ r.toInt ∧ r.toInt ≤ 65535) ∧ (r.toInt = Wj 3 v.toInt)) (Bx D A (fun u : Unit => [])) A) args s ((Rm 2 43 0 0)).cells ((Rm 2 43 0 0)).slots A) (H : Heap) (locs : List Loc) (ls : Array Slot) (hP : va_P D vwCl [] H) (hD : va_D A []) (hS : va_S A s.heap H locs) (hl : lv_has ls 2 [(0, .ref (cy 203)), (1, .int v)]) : W p l e (Rm 2 43 0 0) s m args below meth c H locs cells slots Q (F0 m 0 ls []) := by
  have hx := C.1
  have hb := C.2.1
  refine lv_iload_n hx hb dJ1_charAt_3b067_0 rfl (lv_at hl 1 rfl) ?_
  refine lv_aload_n hx hb dJ1_charAt_3b067_1 rfl (lv_at hl 0 rfl) ?_
  refine va_tlen (v := 9) hx hb (C.sx.1.1 3 (by decide)).2.2.2 hS (by decide) dJ1_charAt_3b067_2 ?_
  refine q_av (wr := []) (r_S (rm := (Rm 1 22 0 0)) (As := [.int v, .int 9]) (rest := []) (wc := []) C hS (q_subP hP [] rfl) (hD.sub [] (by decide) rfl) (o_chk3 l D cy v _ (by omega)) kwS_J0_checkIndex_df160 kM_RJ1_9 ⟨Nat.le_of_ble_eq_true rfl, Nat.le_of_ble_eq_true rfl⟩ rfl hl.1 rfl (Nat.le_of_ble_eq_true rfl) dJ1_charAt_3b067_3 ⟨hroom.1, hroom.2⟩) C.2.2.2.2.2.2.1 hP hD hS [] [] rfl rfl (by decide) (by decide) (fun u_1 H locs hw_3 hP hD hS => ?_)
  refine lv_aload_n hx hb dJ1_charAt_3b067_6 rfl (lv_at hl 0 rfl) ?_
  refine lv_iload_n hx hb dJ1_charAt_3b067_7 rfl (lv_at hl 1 rfl) ?_
  refine va_tb (v := .int ((bytS.getD 3 []).getD v.toNatClampNeg 0)) hx hb (C.sx.1.1 3 (by decide)).2.2.2 hS (show vp_in _ 9 from (o_in (rfl : v.toInt = v.toInt) (by omega) (by omega))) rfl dJ1_charAt_3b067_8 ?_
  refine lv_topi (fun z_4 ez_4 => ?_)
  refine lv_sipush (v := 255) hx hb dJ1_charAt_3b067_9 (by decide) ?_
  refine lv_iand hx hb dJ1_charAt_3b067_12 ?_
  refine lv_topi (fun z_5 hz_5 => ?_)
  have dz_5 := hz_5
  have hz_5 := o_and hz_5 (b := 255) (by decide) (by decide)
  refine lv_i2c (v := (z_5.toUInt32 % 65536).toInt32) hx hb dJ1_charAt_3b067_13 rfl ?_
  refine lv_topi (fun z_6 hz_6 => ?_)
  have dz_6 := hz_6
  have hz_6 := o_i2c hz_6
  refine o_wq hQ ?_
  exact q_iret (rm := (Rm 2 43 0 0)) C hS () (o_char (by omega) (by omega)) ⟨(show 0 ≤ z_6.toInt ∧ z_6.toInt ≤ 65535 by omega), (show z_6.toInt = Wj 3 v.toInt from (lat_char (by decide) (by omega) (by omega) ez_4 dz_5 dz_6))⟩ (q_subP hP [] rfl) (hD.sub [] (by decide) rfl) hroom.1 hroom.2 dJ1_charAt_3b067_14
theorem o_latChar3 (l : Launch) (D : va_G) (cy : Nat → ClassId) (v : Int32) (sz : Nat) (hb0 : 0 ≤ v.toInt ∧ v.toInt ≤ 8) : MI l yJ1_charAt_3b067 cJ1_charAt_3b067 2 (some .char) (Rm 2 43 0 0) D cy [.ref (cy 203), .int v] sz [] (fun (r : Int32) (u : Unit) => (0 ≤ r.toInt ∧ r.toInt ≤ 65535) ∧ (r.toInt = Wj 3 v.toInt)) (fun u : Unit => []) := by
  refine MI.enter (by decide) (Nat.le_of_ble_eq_true rfl) ?_
  intro p e s m below meth c ls A hsz hAe C hP hD hS hl
  exact b_o_latChar3 l D cy v hb0 ⟨Nat.le_of_ble_eq_true rfl, Nat.le_of_ble_eq_true rfl⟩ C rfl _ _ ls hP hD hS hl
set_option maxHeartbeats 4000000 in
set_option maxRecDepth 100000 in
theorem b_o_charAt3 (l : Launch) (D : va_G) (cy : Nat → ClassId) (v : Int32) (hb0 : 0 ≤ v.toInt ∧ v.toInt ≤ 8) {p : Program} {e : Env} {s : State} {m : MethodId} {args : Array Value} {below : List Frame} {meth : Method} {c : Code} {A : Nat → Prop} {Q : State → Prop} {cells slots : Nat} (hroom : cells ≤ ((Rm 3 64 0 0)).cells ∧ slots ≤ ((Rm 3 64 0 0)).slots) (C : Cx p s m args meth c cJ0_charAt_5068e 2 (some .char) RJ0 "charAt" D cy A) (hQ : Q = MQ below (va_Qi (fun (r : Int32) (u : Unit) => (0 ≤ r.toInt ∧ r.toInt ≤ 65535) ∧ (r.toInt = Wj 3 v.toInt)) (Bx D A (fun u : Unit => [])) A) args s ((Rm 3 64 0 0)).cells ((Rm 3 64 0 0)).slots A) (H : Heap) (locs : List Loc) (ls : Array Slot) (hP : va_P D vwCl [] H) (hD : va_D A []) (hS : va_S A s.heap H locs) (hl : lv_has ls 2 [(0, .ref (cy 103)), (1, .int v)]) : W p l e (Rm 3 64 0 0) s m args below meth c H locs cells slots Q (F0 m 0 ls []) := by
  have hx := C.1
  have hb := C.2.1
  refine lv_aload_n hx hb dJ0_charAt_5068e_0 rfl (lv_at hl 0 rfl) ?_
  refine q_ai (wr := []) (r_VS (rm := (Rm 0 0 0 0)) (j := 3) (hj := by decide) (As := []) (rest := []) (wc := []) C hS (q_subP hP [] rfl) (hD.sub [] (by decide) rfl) (o_isLatin3 l D cy  _ ) kwV_J0_isLatin1_aae02 kM_RJ0_492 ⟨Nat.le_of_ble_eq_true rfl, Nat.le_of_ble_eq_true rfl⟩ rfl hl.1 rfl (Nat.le_of_ble_eq_true rfl) dJ0_charAt_5068e_1 ⟨hroom.1, hroom.2⟩) C.2.2.2.2.2.2.1 hP hD hS [] [] rfl rfl (by decide) (by decide) (fun r_2 u_1 H locs hw_3 hP hD hS => ?_)
  have hp_3 : 1 ≤ r_2.toInt ∧ r_2.toInt ≤ 1 := hw_3
  obtain rfl : r_2 = 1 := o_meq (b := 1) rfl (by decide) (by omega)
  refine lv_if_eq (tgt := 16) hx hb dJ0_charAt_5068e_4 (by decide) (fun c_0 => absurd c_0 (by decide)) (fun _ => ?_)
  refine lv_aload_n hx hb dJ0_charAt_5068e_7 rfl (lv_at hl 0 rfl) ?_
  refine vk_getf hx hb (C.sx.1.1 3 (by decide)).2.2.1 hS C.2.2.2.1 (C.2.2.2.2.1 _ kF_RJ0_9) (fun _ h => h) dJ0_charAt_5068e_8 ?_
  refine lv_iload_n hx hb dJ0_charAt_5068e_11 rfl (lv_at hl 1 rfl) ?_
  refine q_ai (wr := []) (r_S (rm := (Rm 2 43 0 0)) (As := [.ref (cy 203), .int v]) (rest := []) (wc := []) C hS (q_subP hP [] rfl) (hD.sub [] (by decide) rfl) (o_latChar3 l D cy v _ (by omega)) kwS_J1_charAt_3b067 kM_RJ0_495 ⟨Nat.le_of_ble_eq_true rfl, Nat.le_of_ble_eq_true rfl⟩ rfl hl.1 rfl (Nat.le_of_ble_eq_true rfl) dJ0_charAt_5068e_12 ⟨hroom.1, hroom.2⟩) C.2.2.2.2.2.2.1 hP hD hS [] [] rfl rfl (by decide) (by decide) (fun r_6 u_5 H locs hw_7 hP hD hS => ?_)
  have hp_7 : 0 ≤ r_6.toInt ∧ r_6.toInt ≤ 65535 := hw_7.1
  have hp_8 : r_6.toInt = Wj 3 v.toInt := hw_7.2
  refine o_wq hQ ?_
  exact q_iret (rm := (Rm 3 64 0 0)) C hS () (o_char (by omega) (by omega)) ⟨(show 0 ≤ r_6.toInt ∧ r_6.toInt ≤ 65535 by omega), hp_8⟩ (q_subP hP [] rfl) (hD.sub [] (by decide) rfl) hroom.1 hroom.2 dJ0_charAt_5068e_15
theorem o_charAt3 (l : Launch) (D : va_G) (cy : Nat → ClassId) (v : Int32) (sz : Nat) (hb0 : 0 ≤ v.toInt ∧ v.toInt ≤ 8) : MI l yJ0_charAt_5068e cJ0_charAt_5068e 2 (some .char) (Rm 3 64 0 0) D cy [.ref (cy 103), .int v] sz [] (fun (r : Int32) (u : Unit) => (0 ≤ r.toInt ∧ r.toInt ≤ 65535) ∧ (r.toInt = Wj 3 v.toInt)) (fun u : Unit => []) := by
  refine MI.enter (by decide) (Nat.le_of_ble_eq_true rfl) ?_
  intro p e s m below meth c ls A hsz hAe C hP hD hS hl
  exact b_o_charAt3 l D cy v hb0 ⟨Nat.le_of_ble_eq_true rfl, Nat.le_of_ble_eq_true rfl⟩ C rfl _ _ ls hP hD hS hl
set_option maxHeartbeats 4000000 in
set_option maxRecDepth 100000 in
theorem b_o_coder4 (l : Launch) (D : va_G) (cy : Nat → ClassId)   {p : Program} {e : Env} {s : State} {m : MethodId} {args : Array Value} {below : List Frame} {meth : Method} {c : Code} {A : Nat → Prop} {Q : State → Prop} {cells slots : Nat} (hroom : cells ≤ ((Rm 0 0 0 0)).cells ∧ slots ≤ ((Rm 0 0 0 0)).slots) (C : Cx p s m args meth c cJ0_coder_7d493 1 (some .byte) RJ0 "coder" D cy A) (hQ : Q = MQ below (va_Qi (fun (r : Int32) (u : Unit) => (0 ≤ r.toInt ∧ r.toInt ≤ 0)) (Bx D A (fun u : Unit => [])) A) args s ((Rm 0 0 0 0)).cells ((Rm 0 0 0 0)).slots A) (H : Heap) (locs : List Loc) (ls : Array Slot) (hP : va_P D vwCl [] H) (hD : va_D A []) (hS : va_S A s.heap H locs) (hl : lv_has ls 1 [(0, .ref (cy 104))]) : W p l e (Rm 0 0 0 0) s m args below meth c H locs cells slots Q (F0 m 0 ls []) := by
  have hx := C.1
  have hb := C.2.1
  refine va_gets hx hb C.sx.2.1 hS C.2.2.2.1 (C.2.2.2.2.1 _ kF_RJ0_38) (fun _ h => h) dJ0_coder_7d493_0 ?_
  refine lv_if_eq (tgt := 13) hx hb dJ0_coder_7d493_3 (by decide) (fun c_0 => absurd c_0 (by decide)) (fun _ => ?_)
  refine lv_aload_n hx hb dJ0_coder_7d493_6 rfl (lv_at hl 0 rfl) ?_
  refine vk_getf hx hb (C.sx.1.1 4 (by decide)).2.1 hS C.2.2.2.1 (C.2.2.2.2.1 _ kF_RJ0_15) (fun _ h => h) dJ0_coder_7d493_7 ?_
  refine lv_goto (tgt := 14) hx hb dJ0_coder_7d493_10 (by decide) ?_
  refine o_wq hQ ?_
  exact q_iret (rm := (Rm 0 0 0 0)) C hS () rfl (show 0 ≤ (0 : Int32).toInt ∧ (0 : Int32).toInt ≤ 0 by decide) (q_subP hP [] rfl) (hD.sub [] (by decide) rfl) hroom.1 hroom.2 dJ0_coder_7d493_14
theorem o_coder4 (l : Launch) (D : va_G) (cy : Nat → ClassId)  (sz : Nat)  : MI l yJ0_coder_7d493 cJ0_coder_7d493 1 (some .byte) (Rm 0 0 0 0) D cy [.ref (cy 104)] sz [] (fun (r : Int32) (u : Unit) => (0 ≤ r.toInt ∧ r.toInt ≤ 0)) (fun u : Unit => []) := by
  refine MI.enter (by decide) (Nat.le_of_ble_eq_true rfl) ?_
  intro p e s m below meth c ls A hsz hAe C hP hD hS hl
  exact b_o_coder4 l D cy   ⟨Nat.le_of_ble_eq_true rfl, Nat.le_of_ble_eq_true rfl⟩ C rfl _ _ ls hP hD hS hl
set_option maxHeartbeats 4000000 in
set_option maxRecDepth 100000 in
theorem b_o_length4 (l : Launch) (D : va_G) (cy : Nat → ClassId)   {p : Program} {e : Env} {s : State} {m : MethodId} {args : Array Value} {below : List Frame} {meth : Method} {c : Code} {A : Nat → Prop} {Q : State → Prop} {cells slots : Nat} (hroom : cells ≤ ((Rm 1 20 0 0)).cells ∧ slots ≤ ((Rm 1 20 0 0)).slots) (C : Cx p s m args meth c cJ0_length_8abf5 1 (some .int) RJ0 "length" D cy A) (hQ : Q = MQ below (va_Qi (fun (r : Int32) (u : Unit) => (4 ≤ r.toInt ∧ r.toInt ≤ 4)) (Bx D A (fun u : Unit => [])) A) args s ((Rm 1 20 0 0)).cells ((Rm 1 20 0 0)).slots A) (H : Heap) (locs : List Loc) (ls : Array Slot) (hP : va_P D vwCl [] H) (hD : va_D A []) (hS : va_S A s.heap H locs) (hl : lv_has ls 1 [(0, .ref (cy 104))]) : W p l e (Rm 1 20 0 0) s m args below meth c H locs cells slots Q (F0 m 0 ls []) := by
  have hx := C.1
  have hb := C.2.1
  refine lv_aload_n hx hb dJ0_length_8abf5_0 rfl (lv_at hl 0 rfl) ?_
  refine vk_getf hx hb (C.sx.1.1 4 (by decide)).2.2.1 hS C.2.2.2.1 (C.2.2.2.2.1 _ kF_RJ0_9) (fun _ h => h) dJ0_length_8abf5_1 ?_
  refine va_tlen (v := 4) hx hb (C.sx.1.1 4 (by decide)).2.2.2 hS (by decide) dJ0_length_8abf5_4 ?_
  refine lv_aload_n hx hb dJ0_length_8abf5_5 rfl (lv_at hl 0 rfl) ?_
  refine q_ai (wr := []) (r_VS (rm := (Rm 0 0 0 0)) (j := 4) (hj := by decide) (As := []) (rest := [.int 4]) (wc := []) C hS (q_subP hP [] rfl) (hD.sub [] (by decide) rfl) (o_coder4 l D cy  _ ) kwV_J0_coder_7d493 kM_RJ0_335 ⟨Nat.le_of_ble_eq_true rfl, Nat.le_of_ble_eq_true rfl⟩ rfl hl.1 rfl (Nat.le_of_ble_eq_true rfl) dJ0_length_8abf5_6 ⟨hroom.1, hroom.2⟩) C.2.2.2.2.2.2.1 hP hD hS [] [] rfl rfl (by decide) (by decide) (fun r_2 u_1 H locs hw_3 hP hD hS => ?_)
  have hp_3 : 0 ≤ r_2.toInt ∧ r_2.toInt ≤ 0 := hw_3
  obtain rfl : r_2 = 0 := o_meq (b := 0) rfl (by decide) (by omega)
  refine lv_ishr hx hb dJ0_length_8abf5_9 ?_
  refine q_val (v := 4) (by decide) ?_
  refine o_wq hQ ?_
  exact q_iret (rm := (Rm 1 20 0 0)) C hS () rfl (show 4 ≤ (4 : Int32).toInt ∧ (4 : Int32).toInt ≤ 4 by decide) (q_subP hP [] rfl) (hD.sub [] (by decide) rfl) hroom.1 hroom.2 dJ0_length_8abf5_10
theorem o_length4 (l : Launch) (D : va_G) (cy : Nat → ClassId)  (sz : Nat)  : MI l yJ0_length_8abf5 cJ0_length_8abf5 1 (some .int) (Rm 1 20 0 0) D cy [.ref (cy 104)] sz [] (fun (r : Int32) (u : Unit) => (4 ≤ r.toInt ∧ r.toInt ≤ 4)) (fun u : Unit => []) := by
  refine MI.enter (by decide) (Nat.le_of_ble_eq_true rfl) ?_
  intro p e s m below meth c ls A hsz hAe C hP hD hS hl
  exact b_o_length4 l D cy   ⟨Nat.le_of_ble_eq_true rfl, Nat.le_of_ble_eq_true rfl⟩ C rfl _ _ ls hP hD hS hl
set_option maxHeartbeats 4000000 in
set_option maxRecDepth 100000 in
theorem b_o_isLatin4 (l : Launch) (D : va_G) (cy : Nat → ClassId)   {p : Program} {e : Env} {s : State} {m : MethodId} {args : Array Value} {below : List Frame} {meth : Method} {c : Code} {A : Nat → Prop} {Q : State → Prop} {cells slots : Nat} (hroom : cells ≤ ((Rm 0 0 0 0)).cells ∧ slots ≤ ((Rm 0 0 0 0)).slots) (C : Cx p s m args meth c cJ0_isLatin1_aae02 1 (some .boolean) RJ0 "isLatin1" D cy A) (hQ : Q = MQ below (va_Qi (fun (r : Int32) (u : Unit) => (1 ≤ r.toInt ∧ r.toInt ≤ 1)) (Bx D A (fun u : Unit => [])) A) args s ((Rm 0 0 0 0)).cells ((Rm 0 0 0 0)).slots A) (H : Heap) (locs : List Loc) (ls : Array Slot) (hP : va_P D vwCl [] H) (hD : va_D A []) (hS : va_S A s.heap H locs) (hl : lv_has ls 1 [(0, .ref (cy 104))]) : W p l e (Rm 0 0 0 0) s m args below meth c H locs cells slots Q (F0 m 0 ls []) := by
  have hx := C.1
  have hb := C.2.1
  refine va_gets hx hb C.sx.2.1 hS C.2.2.2.1 (C.2.2.2.2.1 _ kF_RJ0_38) (fun _ h => h) dJ0_isLatin1_aae02_0 ?_
  refine lv_if_eq (tgt := 17) hx hb dJ0_isLatin1_aae02_3 (by decide) (fun c_0 => absurd c_0 (by decide)) (fun _ => ?_)
  refine lv_aload_n hx hb dJ0_isLatin1_aae02_6 rfl (lv_at hl 0 rfl) ?_
  refine vk_getf hx hb (C.sx.1.1 4 (by decide)).2.1 hS C.2.2.2.1 (C.2.2.2.2.1 _ kF_RJ0_15) (fun _ h => h) dJ0_isLatin1_aae02_7 ?_
  refine lv_if_ne (tgt := 17) hx hb dJ0_isLatin1_aae02_10 (by decide) (fun c_0 => absurd (by decide) c_0) (fun _ => ?_)
  refine lv_iconst (v := 1) hx hb dJ0_isLatin1_aae02_13 (by decide) ?_
  refine lv_goto (tgt := 18) hx hb dJ0_isLatin1_aae02_14 (by decide) ?_
  refine o_wq hQ ?_
  exact q_iret (rm := (Rm 0 0 0 0)) C hS () rfl (show 1 ≤ (1 : Int32).toInt ∧ (1 : Int32).toInt ≤ 1 by decide) (q_subP hP [] rfl) (hD.sub [] (by decide) rfl) hroom.1 hroom.2 dJ0_isLatin1_aae02_18
theorem o_isLatin4 (l : Launch) (D : va_G) (cy : Nat → ClassId)  (sz : Nat)  : MI l yJ0_isLatin1_aae02 cJ0_isLatin1_aae02 1 (some .boolean) (Rm 0 0 0 0) D cy [.ref (cy 104)] sz [] (fun (r : Int32) (u : Unit) => (1 ≤ r.toInt ∧ r.toInt ≤ 1)) (fun u : Unit => []) := by
  refine MI.enter (by decide) (Nat.le_of_ble_eq_true rfl) ?_
  intro p e s m below meth c ls A hsz hAe C hP hD hS hl
  exact b_o_isLatin4 l D cy   ⟨Nat.le_of_ble_eq_true rfl, Nat.le_of_ble_eq_true rfl⟩ C rfl _ _ ls hP hD hS hl
set_option maxHeartbeats 4000000 in
set_option maxRecDepth 100000 in
theorem b_o_chkN4 (l : Launch) (D : va_G) (cy : Nat → ClassId) (v : Int32) (hb0 : 0 ≤ v.toInt ∧ v.toInt ≤ 3) {p : Program} {e : Env} {s : State} {m : MethodId} {args : Array Value} {below : List Frame} {meth : Method} {c : Code} {A : Nat → Prop} {Q : State → Prop} {cells slots : Nat} (hroom : cells ≤ ((Rm 0 0 0 0)).cells ∧ slots ≤ ((Rm 0 0 0 0)).slots) (C : Cx p s m args meth c cJ3_checkIndex_8e157 3 (some .int) RJ3 "checkIndex" D cy A) (hQ : Q = MQ below (va_Qi (fun (r : Int32) (u : Unit) => (0 ≤ r.toInt ∧ r.toInt ≤ 3)) (Bx D A (fun u : Unit => [])) A) args s ((Rm 0 0 0 0)).cells ((Rm 0 0 0 0)).slots A) (H : Heap) (locs : List Loc) (ls : Array Slot) (hP : va_P D vwCl [] H) (hD : va_D A []) (hS : va_S A s.heap H locs) (hl : lv_has ls 3 [(0, .int v), (1, .int 4), (2, .null)]) : W p l e (Rm 0 0 0 0) s m args below meth c H locs cells slots Q (F0 m 0 ls []) := by
  have hx := C.1
  have hb := C.2.1
  refine lv_iload_n hx hb dJ3_checkIndex_8e157_0 rfl (lv_at hl 0 rfl) ?_
  refine lv_if_lt (tgt := 9) hx hb dJ3_checkIndex_8e157_1 (by decide) (fun c_0 => absurd c_0 (o_mnlt (rfl : v.toInt = v.toInt) (by decide : (0 : Int32).toInt = 0) (by omega))) (fun _ => ?_)
  refine lv_iload_n hx hb dJ3_checkIndex_8e157_4 rfl (lv_at hl 0 rfl) ?_
  refine lv_iload_n hx hb dJ3_checkIndex_8e157_5 rfl (lv_at hl 1 rfl) ?_
  refine lv_icmp_lt (tgt := 16) hx hb dJ3_checkIndex_8e157_6 (by decide) (fun _ => ?_) (fun c_0 => absurd (o_mlt (rfl : v.toInt = v.toInt) (by decide : (4 : Int32).toInt = 4) (by omega)) c_0)
  refine lv_iload_n hx hb dJ3_checkIndex_8e157_16 rfl (lv_at hl 0 rfl) ?_
  refine o_wq hQ ?_
  exact q_iret (rm := (Rm 0 0 0 0)) C hS () rfl (show 0 ≤ v.toInt ∧ v.toInt ≤ 3 by omega) (q_subP hP [] rfl) (hD.sub [] (by decide) rfl) hroom.1 hroom.2 dJ3_checkIndex_8e157_17
theorem o_chkN4 (l : Launch) (D : va_G) (cy : Nat → ClassId) (v : Int32) (sz : Nat) (hb0 : 0 ≤ v.toInt ∧ v.toInt ≤ 3) : MI l yJ3_checkIndex_8e157 cJ3_checkIndex_8e157 3 (some .int) (Rm 0 0 0 0) D cy [.int v, .int 4, .null] sz [] (fun (r : Int32) (u : Unit) => (0 ≤ r.toInt ∧ r.toInt ≤ 3)) (fun u : Unit => []) := by
  refine MI.enter (by decide) (Nat.le_of_ble_eq_true rfl) ?_
  intro p e s m below meth c ls A hsz hAe C hP hD hS hl
  exact b_o_chkN4 l D cy v hb0 ⟨Nat.le_of_ble_eq_true rfl, Nat.le_of_ble_eq_true rfl⟩ C rfl _ _ ls hP hD hS hl
set_option maxHeartbeats 4000000 in
set_option maxRecDepth 100000 in
theorem b_o_chkR4 (l : Launch) (D : va_G) (cy : Nat → ClassId) (v : Int32) (t : Nat) (hb0 : 0 ≤ v.toInt ∧ v.toInt ≤ 3) {p : Program} {e : Env} {s : State} {m : MethodId} {args : Array Value} {below : List Frame} {meth : Method} {c : Code} {A : Nat → Prop} {Q : State → Prop} {cells slots : Nat} (hroom : cells ≤ ((Rm 0 0 0 0)).cells ∧ slots ≤ ((Rm 0 0 0 0)).slots) (C : Cx p s m args meth c cJ3_checkIndex_8e157 3 (some .int) RJ3 "checkIndex" D cy A) (hQ : Q = MQ below (va_Qi (fun (r : Int32) (u : Unit) => (0 ≤ r.toInt ∧ r.toInt ≤ 3)) (Bx D A (fun u : Unit => [])) A) args s ((Rm 0 0 0 0)).cells ((Rm 0 0 0 0)).slots A) (H : Heap) (locs : List Loc) (ls : Array Slot) (hP : va_P D vwCl [] H) (hD : va_D A []) (hS : va_S A s.heap H locs) (hl : lv_has ls 3 [(0, .int v), (1, .int 4), (2, .ref t)]) : W p l e (Rm 0 0 0 0) s m args below meth c H locs cells slots Q (F0 m 0 ls []) := by
  have hx := C.1
  have hb := C.2.1
  refine lv_iload_n hx hb dJ3_checkIndex_8e157_0 rfl (lv_at hl 0 rfl) ?_
  refine lv_if_lt (tgt := 9) hx hb dJ3_checkIndex_8e157_1 (by decide) (fun c_0 => absurd c_0 (o_mnlt (rfl : v.toInt = v.toInt) (by decide : (0 : Int32).toInt = 0) (by omega))) (fun _ => ?_)
  refine lv_iload_n hx hb dJ3_checkIndex_8e157_4 rfl (lv_at hl 0 rfl) ?_
  refine lv_iload_n hx hb dJ3_checkIndex_8e157_5 rfl (lv_at hl 1 rfl) ?_
  refine lv_icmp_lt (tgt := 16) hx hb dJ3_checkIndex_8e157_6 (by decide) (fun _ => ?_) (fun c_0 => absurd (o_mlt (rfl : v.toInt = v.toInt) (by decide : (4 : Int32).toInt = 4) (by omega)) c_0)
  refine lv_iload_n hx hb dJ3_checkIndex_8e157_16 rfl (lv_at hl 0 rfl) ?_
  refine o_wq hQ ?_
  exact q_iret (rm := (Rm 0 0 0 0)) C hS () rfl (show 0 ≤ v.toInt ∧ v.toInt ≤ 3 by omega) (q_subP hP [] rfl) (hD.sub [] (by decide) rfl) hroom.1 hroom.2 dJ3_checkIndex_8e157_17
theorem o_chkR4 (l : Launch) (D : va_G) (cy : Nat → ClassId) (v : Int32) (t : Nat) (sz : Nat) (hb0 : 0 ≤ v.toInt ∧ v.toInt ≤ 3) : MI l yJ3_checkIndex_8e157 cJ3_checkIndex_8e157 3 (some .int) (Rm 0 0 0 0) D cy [.int v, .int 4, .ref t] sz [] (fun (r : Int32) (u : Unit) => (0 ≤ r.toInt ∧ r.toInt ≤ 3)) (fun u : Unit => []) := by
  refine MI.enter (by decide) (Nat.le_of_ble_eq_true rfl) ?_
  intro p e s m below meth c ls A hsz hAe C hP hD hS hl
  exact b_o_chkR4 l D cy v t hb0 ⟨Nat.le_of_ble_eq_true rfl, Nat.le_of_ble_eq_true rfl⟩ C rfl _ _ ls hP hD hS hl
set_option maxHeartbeats 4000000 in
set_option maxRecDepth 100000 in
theorem b_o_chk4 (l : Launch) (D : va_G) (cy : Nat → ClassId) (v : Int32) (hb0 : 0 ≤ v.toInt ∧ v.toInt ≤ 3) {p : Program} {e : Env} {s : State} {m : MethodId} {args : Array Value} {below : List Frame} {meth : Method} {c : Code} {A : Nat → Prop} {Q : State → Prop} {cells slots : Nat} (hroom : cells ≤ ((Rm 1 22 0 0)).cells ∧ slots ≤ ((Rm 1 22 0 0)).slots) (C : Cx p s m args meth c cJ0_checkIndex_df160 2 none RJ0 "checkIndex" D cy A) (hQ : Q = MQ below (va_Qv (fun u : Unit => True) (Bx D A (fun u : Unit => [])) A) args s ((Rm 1 22 0 0)).cells ((Rm 1 22 0 0)).slots A) (H : Heap) (locs : List Loc) (ls : Array Slot) (hP : va_P D vwCl [] H) (hD : va_D A []) (hS : va_S A s.heap H locs) (hl : lv_has ls 2 [(0, .int v), (1, .int 4)]) : W p l e (Rm 1 22 0 0) s m args below meth c H locs cells slots Q (F0 m 0 ls []) := by
  have hx := C.1
  have hb := C.2.1
  refine lv_iload_n hx hb dJ0_checkIndex_df160_0 rfl (lv_at hl 0 rfl) ?_
  refine lv_iload_n hx hb dJ0_checkIndex_df160_1 rfl (lv_at hl 1 rfl) ?_
  rcases C.sx.2.2 with hZ | ⟨t_Z, hZ⟩
  · refine va_gets hx hb hZ hS C.2.2.2.1 (C.2.2.2.2.1 _ kF_RJ0_1053) (fun _ h => h) dJ0_checkIndex_df160_2 ?_
    refine q_ai (wr := []) (r_S (rm := (Rm 0 0 0 0)) (As := [.int v, .int 4, .null]) (rest := []) (wc := []) C hS (q_subP hP [] rfl) (hD.sub [] (by decide) rfl) (o_chkN4 l D cy v _ (by omega)) kwS_J3_checkIndex_8e157 kM_RJ0_1059 ⟨Nat.le_of_ble_eq_true rfl, Nat.le_of_ble_eq_true rfl⟩ rfl hl.1 rfl (Nat.le_of_ble_eq_true rfl) dJ0_checkIndex_df160_5 ⟨hroom.1, hroom.2⟩) C.2.2.2.2.2.2.1 hP hD hS [] [] rfl rfl (by decide) (by decide) (fun r_2 u_1 H locs hw_3 hP hD hS => ?_)
    have hp_3 : 0 ≤ r_2.toInt ∧ r_2.toInt ≤ 3 := hw_3
    refine lv_pop hx hb dJ0_checkIndex_df160_8 rfl ?_
    refine o_wq hQ ?_
    exact q_vret (rm := (Rm 1 22 0 0)) C hS () trivial (q_subP hP [] rfl) (hD.sub [] (by decide) rfl) hroom.1 hroom.2 dJ0_checkIndex_df160_9
  · refine va_gets hx hb hZ hS C.2.2.2.1 (C.2.2.2.2.1 _ kF_RJ0_1053) (fun _ h => h) dJ0_checkIndex_df160_2 ?_
    refine q_ai (wr := []) (r_S (rm := (Rm 0 0 0 0)) (As := [.int v, .int 4, .ref t_Z]) (rest := []) (wc := []) C hS (q_subP hP [] rfl) (hD.sub [] (by decide) rfl) (o_chkR4 l D cy v t_Z _ (by omega)) kwS_J3_checkIndex_8e157 kM_RJ0_1059 ⟨Nat.le_of_ble_eq_true rfl, Nat.le_of_ble_eq_true rfl⟩ rfl hl.1 rfl (Nat.le_of_ble_eq_true rfl) dJ0_checkIndex_df160_5 ⟨hroom.1, hroom.2⟩) C.2.2.2.2.2.2.1 hP hD hS [] [] rfl rfl (by decide) (by decide) (fun r_6 u_5 H locs hw_7 hP hD hS => ?_)
    have hp_7 : 0 ≤ r_6.toInt ∧ r_6.toInt ≤ 3 := hw_7
    refine lv_pop hx hb dJ0_checkIndex_df160_8 rfl ?_
    refine o_wq hQ ?_
    exact q_vret (rm := (Rm 1 22 0 0)) C hS () trivial (q_subP hP [] rfl) (hD.sub [] (by decide) rfl) hroom.1 hroom.2 dJ0_checkIndex_df160_9
theorem o_chk4 (l : Launch) (D : va_G) (cy : Nat → ClassId) (v : Int32) (sz : Nat) (hb0 : 0 ≤ v.toInt ∧ v.toInt ≤ 3) : MV l yJ0_checkIndex_df160 cJ0_checkIndex_df160 2 (Rm 1 22 0 0) D cy [.int v, .int 4] sz [] (fun u : Unit => True) (fun u : Unit => []) := by
  refine MV.enter (by decide) (Nat.le_of_ble_eq_true rfl) ?_
  intro p e s m below meth c ls A hsz hAe C hP hD hS hl
  exact b_o_chk4 l D cy v hb0 ⟨Nat.le_of_ble_eq_true rfl, Nat.le_of_ble_eq_true rfl⟩ C rfl _ _ ls hP hD hS hl
set_option maxHeartbeats 4000000 in
set_option maxRecDepth 100000 in
theorem b_o_latChar4 (l : Launch) (D : va_G) (cy : Nat → ClassId) (v : Int32) (hb0 : 0 ≤ v.toInt ∧ v.toInt ≤ 3) {p : Program} {e : Env} {s : State} {m : MethodId} {args : Array Value} {below : List Frame} {meth : Method} {c : Code} {A : Nat → Prop} {Q : State → Prop} {cells slots : Nat} (hroom : cells ≤ ((Rm 2 43 0 0)).cells ∧ slots ≤ ((Rm 2 43 0 0)).slots) (C : Cx p s m args meth c cJ1_charAt_3b067 2 (some .char) RJ1 "charAt" D cy A) (hQ : Q = MQ below (va_Qi (fun (r : Int32) (u : Unit) => (0 ≤ r.toInt ∧ r.toInt ≤ 65535) ∧ (r.toInt = Wj 4 v.toInt)) (Bx D A (fun u : Unit => [])) A) args s ((Rm 2 43 0 0)).cells ((Rm 2 43 0 0)).slots A) (H : Heap) (locs : List Loc) (ls : Array Slot) (hP : va_P D vwCl [] H) (hD : va_D A []) (hS : va_S A s.heap H locs) (hl : lv_has ls 2 [(0, .ref (cy 204)), (1, .int v)]) : W p l e (Rm 2 43 0 0) s m args below meth c H locs cells slots Q (F0 m 0 ls []) := by
  have hx := C.1
  have hb := C.2.1
  refine lv_iload_n hx hb dJ1_charAt_3b067_0 rfl (lv_at hl 1 rfl) ?_
  refine lv_aload_n hx hb dJ1_charAt_3b067_1 rfl (lv_at hl 0 rfl) ?_
  refine va_tlen (v := 4) hx hb (C.sx.1.1 4 (by decide)).2.2.2 hS (by decide) dJ1_charAt_3b067_2 ?_
  refine q_av (wr := []) (r_S (rm := (Rm 1 22 0 0)) (As := [.int v, .int 4]) (rest := []) (wc := []) C hS (q_subP hP [] rfl) (hD.sub [] (by decide) rfl) (o_chk4 l D cy v _ (by omega)) kwS_J0_checkIndex_df160 kM_RJ1_9 ⟨Nat.le_of_ble_eq_true rfl, Nat.le_of_ble_eq_true rfl⟩ rfl hl.1 rfl (Nat.le_of_ble_eq_true rfl) dJ1_charAt_3b067_3 ⟨hroom.1, hroom.2⟩) C.2.2.2.2.2.2.1 hP hD hS [] [] rfl rfl (by decide) (by decide) (fun u_1 H locs hw_3 hP hD hS => ?_)
  refine lv_aload_n hx hb dJ1_charAt_3b067_6 rfl (lv_at hl 0 rfl) ?_
  refine lv_iload_n hx hb dJ1_charAt_3b067_7 rfl (lv_at hl 1 rfl) ?_
  refine va_tb (v := .int ((bytS.getD 4 []).getD v.toNatClampNeg 0)) hx hb (C.sx.1.1 4 (by decide)).2.2.2 hS (show vp_in _ 4 from (o_in (rfl : v.toInt = v.toInt) (by omega) (by omega))) rfl dJ1_charAt_3b067_8 ?_
  refine lv_topi (fun z_4 ez_4 => ?_)
  refine lv_sipush (v := 255) hx hb dJ1_charAt_3b067_9 (by decide) ?_
  refine lv_iand hx hb dJ1_charAt_3b067_12 ?_
  refine lv_topi (fun z_5 hz_5 => ?_)
  have dz_5 := hz_5
  have hz_5 := o_and hz_5 (b := 255) (by decide) (by decide)
  refine lv_i2c (v := (z_5.toUInt32 % 65536).toInt32) hx hb dJ1_charAt_3b067_13 rfl ?_
  refine lv_topi (fun z_6 hz_6 => ?_)
  have dz_6 := hz_6
  have hz_6 := o_i2c hz_6
  refine o_wq hQ ?_
  exact q_iret (rm := (Rm 2 43 0 0)) C hS () (o_char (by omega) (by omega)) ⟨(show 0 ≤ z_6.toInt ∧ z_6.toInt ≤ 65535 by omega), (show z_6.toInt = Wj 4 v.toInt from (lat_char (by decide) (by omega) (by omega) ez_4 dz_5 dz_6))⟩ (q_subP hP [] rfl) (hD.sub [] (by decide) rfl) hroom.1 hroom.2 dJ1_charAt_3b067_14
theorem o_latChar4 (l : Launch) (D : va_G) (cy : Nat → ClassId) (v : Int32) (sz : Nat) (hb0 : 0 ≤ v.toInt ∧ v.toInt ≤ 3) : MI l yJ1_charAt_3b067 cJ1_charAt_3b067 2 (some .char) (Rm 2 43 0 0) D cy [.ref (cy 204), .int v] sz [] (fun (r : Int32) (u : Unit) => (0 ≤ r.toInt ∧ r.toInt ≤ 65535) ∧ (r.toInt = Wj 4 v.toInt)) (fun u : Unit => []) := by
  refine MI.enter (by decide) (Nat.le_of_ble_eq_true rfl) ?_
  intro p e s m below meth c ls A hsz hAe C hP hD hS hl
  exact b_o_latChar4 l D cy v hb0 ⟨Nat.le_of_ble_eq_true rfl, Nat.le_of_ble_eq_true rfl⟩ C rfl _ _ ls hP hD hS hl
set_option maxHeartbeats 4000000 in
set_option maxRecDepth 100000 in
theorem b_o_charAt4 (l : Launch) (D : va_G) (cy : Nat → ClassId) (v : Int32) (hb0 : 0 ≤ v.toInt ∧ v.toInt ≤ 3) {p : Program} {e : Env} {s : State} {m : MethodId} {args : Array Value} {below : List Frame} {meth : Method} {c : Code} {A : Nat → Prop} {Q : State → Prop} {cells slots : Nat} (hroom : cells ≤ ((Rm 3 64 0 0)).cells ∧ slots ≤ ((Rm 3 64 0 0)).slots) (C : Cx p s m args meth c cJ0_charAt_5068e 2 (some .char) RJ0 "charAt" D cy A) (hQ : Q = MQ below (va_Qi (fun (r : Int32) (u : Unit) => (0 ≤ r.toInt ∧ r.toInt ≤ 65535) ∧ (r.toInt = Wj 4 v.toInt)) (Bx D A (fun u : Unit => [])) A) args s ((Rm 3 64 0 0)).cells ((Rm 3 64 0 0)).slots A) (H : Heap) (locs : List Loc) (ls : Array Slot) (hP : va_P D vwCl [] H) (hD : va_D A []) (hS : va_S A s.heap H locs) (hl : lv_has ls 2 [(0, .ref (cy 104)), (1, .int v)]) : W p l e (Rm 3 64 0 0) s m args below meth c H locs cells slots Q (F0 m 0 ls []) := by
  have hx := C.1
  have hb := C.2.1
  refine lv_aload_n hx hb dJ0_charAt_5068e_0 rfl (lv_at hl 0 rfl) ?_
  refine q_ai (wr := []) (r_VS (rm := (Rm 0 0 0 0)) (j := 4) (hj := by decide) (As := []) (rest := []) (wc := []) C hS (q_subP hP [] rfl) (hD.sub [] (by decide) rfl) (o_isLatin4 l D cy  _ ) kwV_J0_isLatin1_aae02 kM_RJ0_492 ⟨Nat.le_of_ble_eq_true rfl, Nat.le_of_ble_eq_true rfl⟩ rfl hl.1 rfl (Nat.le_of_ble_eq_true rfl) dJ0_charAt_5068e_1 ⟨hroom.1, hroom.2⟩) C.2.2.2.2.2.2.1 hP hD hS [] [] rfl rfl (by decide) (by decide) (fun r_2 u_1 H locs hw_3 hP hD hS => ?_)
  have hp_3 : 1 ≤ r_2.toInt ∧ r_2.toInt ≤ 1 := hw_3
  obtain rfl : r_2 = 1 := o_meq (b := 1) rfl (by decide) (by omega)
  refine lv_if_eq (tgt := 16) hx hb dJ0_charAt_5068e_4 (by decide) (fun c_0 => absurd c_0 (by decide)) (fun _ => ?_)
  refine lv_aload_n hx hb dJ0_charAt_5068e_7 rfl (lv_at hl 0 rfl) ?_
  refine vk_getf hx hb (C.sx.1.1 4 (by decide)).2.2.1 hS C.2.2.2.1 (C.2.2.2.2.1 _ kF_RJ0_9) (fun _ h => h) dJ0_charAt_5068e_8 ?_
  refine lv_iload_n hx hb dJ0_charAt_5068e_11 rfl (lv_at hl 1 rfl) ?_
  refine q_ai (wr := []) (r_S (rm := (Rm 2 43 0 0)) (As := [.ref (cy 204), .int v]) (rest := []) (wc := []) C hS (q_subP hP [] rfl) (hD.sub [] (by decide) rfl) (o_latChar4 l D cy v _ (by omega)) kwS_J1_charAt_3b067 kM_RJ0_495 ⟨Nat.le_of_ble_eq_true rfl, Nat.le_of_ble_eq_true rfl⟩ rfl hl.1 rfl (Nat.le_of_ble_eq_true rfl) dJ0_charAt_5068e_12 ⟨hroom.1, hroom.2⟩) C.2.2.2.2.2.2.1 hP hD hS [] [] rfl rfl (by decide) (by decide) (fun r_6 u_5 H locs hw_7 hP hD hS => ?_)
  have hp_7 : 0 ≤ r_6.toInt ∧ r_6.toInt ≤ 65535 := hw_7.1
  have hp_8 : r_6.toInt = Wj 4 v.toInt := hw_7.2
  refine o_wq hQ ?_
  exact q_iret (rm := (Rm 3 64 0 0)) C hS () (o_char (by omega) (by omega)) ⟨(show 0 ≤ r_6.toInt ∧ r_6.toInt ≤ 65535 by omega), hp_8⟩ (q_subP hP [] rfl) (hD.sub [] (by decide) rfl) hroom.1 hroom.2 dJ0_charAt_5068e_15
theorem o_charAt4 (l : Launch) (D : va_G) (cy : Nat → ClassId) (v : Int32) (sz : Nat) (hb0 : 0 ≤ v.toInt ∧ v.toInt ≤ 3) : MI l yJ0_charAt_5068e cJ0_charAt_5068e 2 (some .char) (Rm 3 64 0 0) D cy [.ref (cy 104), .int v] sz [] (fun (r : Int32) (u : Unit) => (0 ≤ r.toInt ∧ r.toInt ≤ 65535) ∧ (r.toInt = Wj 4 v.toInt)) (fun u : Unit => []) := by
  refine MI.enter (by decide) (Nat.le_of_ble_eq_true rfl) ?_
  intro p e s m below meth c ls A hsz hAe C hP hD hS hl
  exact b_o_charAt4 l D cy v hb0 ⟨Nat.le_of_ble_eq_true rfl, Nat.le_of_ble_eq_true rfl⟩ C rfl _ _ ls hP hD hS hl
set_option maxHeartbeats 4000000 in
set_option maxRecDepth 100000 in
theorem b_o_bitCount (l : Launch) (D : va_G) (cy : Nat → ClassId) (v : Int32)  {p : Program} {e : Env} {s : State} {m : MethodId} {args : Array Value} {below : List Frame} {meth : Method} {c : Code} {A : Nat → Prop} {Q : State → Prop} {cells slots : Nat} (hroom : cells ≤ ((Rm 0 0 0 0)).cells ∧ slots ≤ ((Rm 0 0 0 0)).slots) (C : Cx p s m args meth c cJ6_bitCount_0f7a4 1 (some .int) RJ6 "bitCount" D cy A) (hQ : Q = MQ below (va_Qi (fun (r : Int32) (u : Unit) => (0 ≤ r.toInt ∧ r.toInt ≤ 63)) (Bx D A (fun u : Unit => [])) A) args s ((Rm 0 0 0 0)).cells ((Rm 0 0 0 0)).slots A) (H : Heap) (locs : List Loc) (ls : Array Slot) (hP : va_P D vwCl [] H) (hD : va_D A []) (hS : va_S A s.heap H locs) (hl : lv_has ls 1 [(0, .int v)]) : W p l e (Rm 0 0 0 0) s m args below meth c H locs cells slots Q (F0 m 0 ls []) := by
  have hx := C.1
  have hb := C.2.1
  have hqv := o_rng v
  refine lv_iload_n hx hb dJ6_bitCount_0f7a4_0 rfl (lv_at hl 0 rfl) ?_
  refine lv_iload_n hx hb dJ6_bitCount_0f7a4_1 rfl (lv_at hl 0 rfl) ?_
  refine lv_iconst (v := 1) hx hb dJ6_bitCount_0f7a4_2 (by decide) ?_
  obtain ⟨z_1, hz_1⟩ : ∃ z : Int32, z = ((v : Int32).toUInt32 >>> ((1 : Int32).toUInt32 &&& Int32.toUInt32 31)).toInt32 := ⟨_, rfl⟩
  refine lv_iushr (v := z_1) hx hb dJ6_bitCount_0f7a4_3 hz_1.symm ?_
  have hz_1 := o_ushr 1 2147483647 hz_1 (by decide) (by decide)
  refine q_ldc_w (v := 1431655765) C kC_RJ6_265 dJ6_bitCount_0f7a4_4 ?_
  refine lv_iand hx hb dJ6_bitCount_0f7a4_7 ?_
  refine lv_topi (fun z_2 hz_2 => ?_)
  have hz_2 := o_and hz_2 (b := 1431655765) (by decide) (by decide)
  refine lv_isub hx hb dJ6_bitCount_0f7a4_8 ?_
  refine lv_topi (fun z_3 hz_3 => ?_)
  clear hz_3
  refine lv_istore_n (lv' := [(0, .int z_3)]) hx hb dJ6_bitCount_0f7a4_9 rfl hl (by decide) rfl (fun ls hl => ?_)
  refine lv_iload_n hx hb dJ6_bitCount_0f7a4_10 rfl (lv_at hl 0 rfl) ?_
  refine q_ldc_w (v := 858993459) C kC_RJ6_266 dJ6_bitCount_0f7a4_11 ?_
  refine lv_iand hx hb dJ6_bitCount_0f7a4_14 ?_
  refine lv_topi (fun z_4 hz_4 => ?_)
  have hz_4 := o_and hz_4 (b := 858993459) (by decide) (by decide)
  refine lv_iload_n hx hb dJ6_bitCount_0f7a4_15 rfl (lv_at hl 0 rfl) ?_
  refine lv_iconst (v := 2) hx hb dJ6_bitCount_0f7a4_16 (by decide) ?_
  obtain ⟨z_5, hz_5⟩ : ∃ z : Int32, z = ((z_3 : Int32).toUInt32 >>> ((2 : Int32).toUInt32 &&& Int32.toUInt32 31)).toInt32 := ⟨_, rfl⟩
  refine lv_iushr (v := z_5) hx hb dJ6_bitCount_0f7a4_17 hz_5.symm ?_
  have hz_5 := o_ushr 2 1073741823 hz_5 (by decide) (by decide)
  refine q_ldc_w (v := 858993459) C kC_RJ6_266 dJ6_bitCount_0f7a4_18 ?_
  refine lv_iand hx hb dJ6_bitCount_0f7a4_21 ?_
  refine lv_topi (fun z_6 hz_6 => ?_)
  have hz_6 := o_and hz_6 (b := 858993459) (by decide) (by decide)
  refine lv_iadd hx hb dJ6_bitCount_0f7a4_22 ?_
  refine lv_topi (fun z_7 hz_7 => ?_)
  have hz_7 := o_add hz_7 (rfl : z_4.toInt = z_4.toInt) (rfl : z_6.toInt = z_6.toInt) (by omega) (by omega)
  refine lv_istore_n (lv' := [(0, .int z_7)]) hx hb dJ6_bitCount_0f7a4_23 rfl hl (by decide) rfl (fun ls hl => ?_)
  refine lv_iload_n hx hb dJ6_bitCount_0f7a4_24 rfl (lv_at hl 0 rfl) ?_
  refine lv_iload_n hx hb dJ6_bitCount_0f7a4_25 rfl (lv_at hl 0 rfl) ?_
  refine lv_iconst (v := 4) hx hb dJ6_bitCount_0f7a4_26 (by decide) ?_
  obtain ⟨z_8, hz_8⟩ : ∃ z : Int32, z = ((z_7 : Int32).toUInt32 >>> ((4 : Int32).toUInt32 &&& Int32.toUInt32 31)).toInt32 := ⟨_, rfl⟩
  refine lv_iushr (v := z_8) hx hb dJ6_bitCount_0f7a4_27 hz_8.symm ?_
  have hz_8 := o_ushr 4 268435455 hz_8 (by decide) (by decide)
  refine lv_iadd hx hb dJ6_bitCount_0f7a4_28 ?_
  refine lv_topi (fun z_9 hz_9 => ?_)
  have hz_9 := o_add hz_9 (rfl : z_7.toInt = z_7.toInt) (rfl : z_8.toInt = z_8.toInt) (by omega) (by omega)
  refine q_ldc_w (v := 252645135) C kC_RJ6_267 dJ6_bitCount_0f7a4_29 ?_
  refine lv_iand hx hb dJ6_bitCount_0f7a4_32 ?_
  refine lv_topi (fun z_10 hz_10 => ?_)
  have hz_10 := o_and hz_10 (b := 252645135) (by decide) (by decide)
  refine lv_istore_n (lv' := [(0, .int z_10)]) hx hb dJ6_bitCount_0f7a4_33 rfl hl (by decide) rfl (fun ls hl => ?_)
  refine lv_iload_n hx hb dJ6_bitCount_0f7a4_34 rfl (lv_at hl 0 rfl) ?_
  refine lv_iload_n hx hb dJ6_bitCount_0f7a4_35 rfl (lv_at hl 0 rfl) ?_
  refine lv_bipush (v := 8) hx hb dJ6_bitCount_0f7a4_36 (by decide) ?_
  obtain ⟨z_11, hz_11⟩ : ∃ z : Int32, z = ((z_10 : Int32).toUInt32 >>> ((8 : Int32).toUInt32 &&& Int32.toUInt32 31)).toInt32 := ⟨_, rfl⟩
  refine lv_iushr (v := z_11) hx hb dJ6_bitCount_0f7a4_38 hz_11.symm ?_
  have hz_11 := o_ushr 8 16777215 hz_11 (by decide) (by decide)
  refine lv_iadd hx hb dJ6_bitCount_0f7a4_39 ?_
  refine lv_topi (fun z_12 hz_12 => ?_)
  have hz_12 := o_add hz_12 (rfl : z_10.toInt = z_10.toInt) (rfl : z_11.toInt = z_11.toInt) (by omega) (by omega)
  refine lv_istore_n (lv' := [(0, .int z_12)]) hx hb dJ6_bitCount_0f7a4_40 rfl hl (by decide) rfl (fun ls hl => ?_)
  refine lv_iload_n hx hb dJ6_bitCount_0f7a4_41 rfl (lv_at hl 0 rfl) ?_
  refine lv_iload_n hx hb dJ6_bitCount_0f7a4_42 rfl (lv_at hl 0 rfl) ?_
  refine lv_bipush (v := 16) hx hb dJ6_bitCount_0f7a4_43 (by decide) ?_
  obtain ⟨z_13, hz_13⟩ : ∃ z : Int32, z = ((z_12 : Int32).toUInt32 >>> ((16 : Int32).toUInt32 &&& Int32.toUInt32 31)).toInt32 := ⟨_, rfl⟩
  refine lv_iushr (v := z_13) hx hb dJ6_bitCount_0f7a4_45 hz_13.symm ?_
  have hz_13 := o_ushr 16 65535 hz_13 (by decide) (by decide)
  refine lv_iadd hx hb dJ6_bitCount_0f7a4_46 ?_
  refine lv_topi (fun z_14 hz_14 => ?_)
  have hz_14 := o_add hz_14 (rfl : z_12.toInt = z_12.toInt) (rfl : z_13.toInt = z_13.toInt) (by omega) (by omega)
  refine lv_istore_n (lv' := [(0, .int z_14)]) hx hb dJ6_bitCount_0f7a4_47 rfl hl (by decide) rfl (fun ls hl => ?_)
  refine lv_iload_n hx hb dJ6_bitCount_0f7a4_48 rfl (lv_at hl 0 rfl) ?_
  refine lv_bipush (v := 63) hx hb dJ6_bitCount_0f7a4_49 (by decide) ?_
  refine lv_iand hx hb dJ6_bitCount_0f7a4_51 ?_
  refine lv_topi (fun z_15 hz_15 => ?_)
  have hz_15 := o_and hz_15 (b := 63) (by decide) (by decide)
  refine o_wq hQ ?_
  exact q_iret (rm := (Rm 0 0 0 0)) C hS () rfl (show 0 ≤ z_15.toInt ∧ z_15.toInt ≤ 63 by omega) (q_subP hP [] rfl) (hD.sub [] (by decide) rfl) hroom.1 hroom.2 dJ6_bitCount_0f7a4_52
theorem o_bitCount (l : Launch) (D : va_G) (cy : Nat → ClassId) (v : Int32) (sz : Nat)  : MI l yJ6_bitCount_0f7a4 cJ6_bitCount_0f7a4 1 (some .int) (Rm 0 0 0 0) D cy [.int v] sz [] (fun (r : Int32) (u : Unit) => (0 ≤ r.toInt ∧ r.toInt ≤ 63)) (fun u : Unit => []) := by
  refine MI.enter (by decide) (Nat.le_of_ble_eq_true rfl) ?_
  intro p e s m below meth c ls A hsz hAe C hP hD hS hl
  exact b_o_bitCount l D cy v  ⟨Nat.le_of_ble_eq_true rfl, Nat.le_of_ble_eq_true rfl⟩ C rfl _ _ ls hP hD hS hl
set_option maxHeartbeats 4000000 in
set_option maxRecDepth 100000 in
theorem b_o_bitCountX (l : Launch) (D : va_G) (cy : Nat → ClassId) (v : Int32) (hb0 : 0 ≤ v.toInt ∧ v.toInt ≤ 255) {p : Program} {e : Env} {s : State} {m : MethodId} {args : Array Value} {below : List Frame} {meth : Method} {c : Code} {A : Nat → Prop} {Q : State → Prop} {cells slots : Nat} (hroom : cells ≤ ((Rm 0 0 0 0)).cells ∧ slots ≤ ((Rm 0 0 0 0)).slots) (C : Cx p s m args meth c cJ6_bitCount_0f7a4 1 (some .int) RJ6 "bitCount" D cy A) (hQ : Q = MQ below (va_Qi (fun (r : Int32) (u : Unit) => (0 ≤ r.toInt ∧ r.toInt ≤ 63) ∧ (r.toInt = bc v.toInt)) (Bx D A (fun u : Unit => [])) A) args s ((Rm 0 0 0 0)).cells ((Rm 0 0 0 0)).slots A) (H : Heap) (locs : List Loc) (ls : Array Slot) (hP : va_P D vwCl [] H) (hD : va_D A []) (hS : va_S A s.heap H locs) (hl : lv_has ls 1 [(0, .int v)]) : W p l e (Rm 0 0 0 0) s m args below meth c H locs cells slots Q (F0 m 0 ls []) := by
  have hx := C.1
  have hb := C.2.1
  refine lv_iload_n hx hb dJ6_bitCount_0f7a4_0 rfl (lv_at hl 0 rfl) ?_
  refine lv_iload_n hx hb dJ6_bitCount_0f7a4_1 rfl (lv_at hl 0 rfl) ?_
  refine lv_iconst (v := 1) hx hb dJ6_bitCount_0f7a4_2 (by decide) ?_
  obtain ⟨z_1, hz_1⟩ : ∃ z : Int32, z = ((v : Int32).toUInt32 >>> ((1 : Int32).toUInt32 &&& Int32.toUInt32 31)).toInt32 := ⟨_, rfl⟩
  refine lv_iushr (v := z_1) hx hb dJ6_bitCount_0f7a4_3 hz_1.symm ?_
  have dz_1 := hz_1
  have hz_1 := o_ushr 1 2147483647 hz_1 (by decide) (by decide)
  refine q_ldc_w (v := 1431655765) C kC_RJ6_265 dJ6_bitCount_0f7a4_4 ?_
  refine lv_iand hx hb dJ6_bitCount_0f7a4_7 ?_
  refine lv_topi (fun z_2 hz_2 => ?_)
  have dz_2 := hz_2
  have hz_2 := o_and hz_2 (b := 1431655765) (by decide) (by decide)
  refine lv_isub hx hb dJ6_bitCount_0f7a4_8 ?_
  refine lv_topi (fun z_3 hz_3 => ?_)
  have dz_3 := hz_3
  have hz_3 := o_sub hz_3 (rfl : v.toInt = v.toInt) (rfl : z_2.toInt = z_2.toInt) (by omega) (by omega)
  refine lv_istore_n (lv' := [(0, .int z_3)]) hx hb dJ6_bitCount_0f7a4_9 rfl hl (by decide) rfl (fun ls hl => ?_)
  refine lv_iload_n hx hb dJ6_bitCount_0f7a4_10 rfl (lv_at hl 0 rfl) ?_
  refine q_ldc_w (v := 858993459) C kC_RJ6_266 dJ6_bitCount_0f7a4_11 ?_
  refine lv_iand hx hb dJ6_bitCount_0f7a4_14 ?_
  refine lv_topi (fun z_4 hz_4 => ?_)
  have dz_4 := hz_4
  have hz_4 := o_and hz_4 (b := 858993459) (by decide) (by decide)
  refine lv_iload_n hx hb dJ6_bitCount_0f7a4_15 rfl (lv_at hl 0 rfl) ?_
  refine lv_iconst (v := 2) hx hb dJ6_bitCount_0f7a4_16 (by decide) ?_
  obtain ⟨z_5, hz_5⟩ : ∃ z : Int32, z = ((z_3 : Int32).toUInt32 >>> ((2 : Int32).toUInt32 &&& Int32.toUInt32 31)).toInt32 := ⟨_, rfl⟩
  refine lv_iushr (v := z_5) hx hb dJ6_bitCount_0f7a4_17 hz_5.symm ?_
  have dz_5 := hz_5
  have hz_5 := o_ushr 2 1073741823 hz_5 (by decide) (by decide)
  refine q_ldc_w (v := 858993459) C kC_RJ6_266 dJ6_bitCount_0f7a4_18 ?_
  refine lv_iand hx hb dJ6_bitCount_0f7a4_21 ?_
  refine lv_topi (fun z_6 hz_6 => ?_)
  have dz_6 := hz_6
  have hz_6 := o_and hz_6 (b := 858993459) (by decide) (by decide)
  refine lv_iadd hx hb dJ6_bitCount_0f7a4_22 ?_
  refine lv_topi (fun z_7 hz_7 => ?_)
  have dz_7 := hz_7
  have hz_7 := o_add hz_7 (rfl : z_4.toInt = z_4.toInt) (rfl : z_6.toInt = z_6.toInt) (by omega) (by omega)
  refine lv_istore_n (lv' := [(0, .int z_7)]) hx hb dJ6_bitCount_0f7a4_23 rfl hl (by decide) rfl (fun ls hl => ?_)
  refine lv_iload_n hx hb dJ6_bitCount_0f7a4_24 rfl (lv_at hl 0 rfl) ?_
  refine lv_iload_n hx hb dJ6_bitCount_0f7a4_25 rfl (lv_at hl 0 rfl) ?_
  refine lv_iconst (v := 4) hx hb dJ6_bitCount_0f7a4_26 (by decide) ?_
  obtain ⟨z_8, hz_8⟩ : ∃ z : Int32, z = ((z_7 : Int32).toUInt32 >>> ((4 : Int32).toUInt32 &&& Int32.toUInt32 31)).toInt32 := ⟨_, rfl⟩
  refine lv_iushr (v := z_8) hx hb dJ6_bitCount_0f7a4_27 hz_8.symm ?_
  have dz_8 := hz_8
  have hz_8 := o_ushr 4 268435455 hz_8 (by decide) (by decide)
  refine lv_iadd hx hb dJ6_bitCount_0f7a4_28 ?_
  refine lv_topi (fun z_9 hz_9 => ?_)
  have dz_9 := hz_9
  have hz_9 := o_add hz_9 (rfl : z_7.toInt = z_7.toInt) (rfl : z_8.toInt = z_8.toInt) (by omega) (by omega)
  refine q_ldc_w (v := 252645135) C kC_RJ6_267 dJ6_bitCount_0f7a4_29 ?_
  refine lv_iand hx hb dJ6_bitCount_0f7a4_32 ?_
  refine lv_topi (fun z_10 hz_10 => ?_)
  have dz_10 := hz_10
  have hz_10 := o_and hz_10 (b := 252645135) (by decide) (by decide)
  refine lv_istore_n (lv' := [(0, .int z_10)]) hx hb dJ6_bitCount_0f7a4_33 rfl hl (by decide) rfl (fun ls hl => ?_)
  refine lv_iload_n hx hb dJ6_bitCount_0f7a4_34 rfl (lv_at hl 0 rfl) ?_
  refine lv_iload_n hx hb dJ6_bitCount_0f7a4_35 rfl (lv_at hl 0 rfl) ?_
  refine lv_bipush (v := 8) hx hb dJ6_bitCount_0f7a4_36 (by decide) ?_
  obtain ⟨z_11, hz_11⟩ : ∃ z : Int32, z = ((z_10 : Int32).toUInt32 >>> ((8 : Int32).toUInt32 &&& Int32.toUInt32 31)).toInt32 := ⟨_, rfl⟩
  refine lv_iushr (v := z_11) hx hb dJ6_bitCount_0f7a4_38 hz_11.symm ?_
  have dz_11 := hz_11
  have hz_11 := o_ushr 8 16777215 hz_11 (by decide) (by decide)
  refine lv_iadd hx hb dJ6_bitCount_0f7a4_39 ?_
  refine lv_topi (fun z_12 hz_12 => ?_)
  have dz_12 := hz_12
  have hz_12 := o_add hz_12 (rfl : z_10.toInt = z_10.toInt) (rfl : z_11.toInt = z_11.toInt) (by omega) (by omega)
  refine lv_istore_n (lv' := [(0, .int z_12)]) hx hb dJ6_bitCount_0f7a4_40 rfl hl (by decide) rfl (fun ls hl => ?_)
  refine lv_iload_n hx hb dJ6_bitCount_0f7a4_41 rfl (lv_at hl 0 rfl) ?_
  refine lv_iload_n hx hb dJ6_bitCount_0f7a4_42 rfl (lv_at hl 0 rfl) ?_
  refine lv_bipush (v := 16) hx hb dJ6_bitCount_0f7a4_43 (by decide) ?_
  obtain ⟨z_13, hz_13⟩ : ∃ z : Int32, z = ((z_12 : Int32).toUInt32 >>> ((16 : Int32).toUInt32 &&& Int32.toUInt32 31)).toInt32 := ⟨_, rfl⟩
  refine lv_iushr (v := z_13) hx hb dJ6_bitCount_0f7a4_45 hz_13.symm ?_
  have dz_13 := hz_13
  have hz_13 := o_ushr 16 65535 hz_13 (by decide) (by decide)
  refine lv_iadd hx hb dJ6_bitCount_0f7a4_46 ?_
  refine lv_topi (fun z_14 hz_14 => ?_)
  have dz_14 := hz_14
  have hz_14 := o_add hz_14 (rfl : z_12.toInt = z_12.toInt) (rfl : z_13.toInt = z_13.toInt) (by omega) (by omega)
  refine lv_istore_n (lv' := [(0, .int z_14)]) hx hb dJ6_bitCount_0f7a4_47 rfl hl (by decide) rfl (fun ls hl => ?_)
  refine lv_iload_n hx hb dJ6_bitCount_0f7a4_48 rfl (lv_at hl 0 rfl) ?_
  refine lv_bipush (v := 63) hx hb dJ6_bitCount_0f7a4_49 (by decide) ?_
  refine lv_iand hx hb dJ6_bitCount_0f7a4_51 ?_
  refine lv_topi (fun z_15 hz_15 => ?_)
  have dz_15 := hz_15
  have hz_15 := o_and hz_15 (b := 63) (by decide) (by decide)
  refine o_wq hQ ?_
  exact q_iret (rm := (Rm 0 0 0 0)) C hS () rfl ⟨(show 0 ≤ z_15.toInt ∧ z_15.toInt ≤ 63 by omega), (show z_15.toInt = bc v.toInt from (bcx (by omega) (by omega) dz_1 dz_2 dz_3 dz_4 dz_5 dz_6 dz_7 dz_8 dz_9 dz_10 dz_11 dz_12 dz_13 dz_14 dz_15))⟩ (q_subP hP [] rfl) (hD.sub [] (by decide) rfl) hroom.1 hroom.2 dJ6_bitCount_0f7a4_52
theorem o_bitCountX (l : Launch) (D : va_G) (cy : Nat → ClassId) (v : Int32) (sz : Nat) (hb0 : 0 ≤ v.toInt ∧ v.toInt ≤ 255) : MI l yJ6_bitCount_0f7a4 cJ6_bitCount_0f7a4 1 (some .int) (Rm 0 0 0 0) D cy [.int v] sz [] (fun (r : Int32) (u : Unit) => (0 ≤ r.toInt ∧ r.toInt ≤ 63) ∧ (r.toInt = bc v.toInt)) (fun u : Unit => []) := by
  refine MI.enter (by decide) (Nat.le_of_ble_eq_true rfl) ?_
  intro p e s m below meth c ls A hsz hAe C hP hD hS hl
  exact b_o_bitCountX l D cy v hb0 ⟨Nat.le_of_ble_eq_true rfl, Nat.le_of_ble_eq_true rfl⟩ C rfl _ _ ls hP hD hS hl
set_option maxHeartbeats 4000000 in
set_option maxRecDepth 100000 in
theorem b_o_sizeOf (l : Launch) (D : va_G) (cy : Nat → ClassId) (v : Int32)  {p : Program} {e : Env} {s : State} {m : MethodId} {args : Array Value} {below : List Frame} {meth : Method} {c : Code} {A : Nat → Prop} {Q : State → Prop} {cells slots : Nat} (hroom : cells ≤ ((Rm 1 20 0 0)).cells ∧ slots ≤ ((Rm 1 20 0 0)).slots) (C : Cx p s m args meth c cX10_sizeOf 1 (some .int) RX10 "sizeOf" D cy A) (hQ : Q = MQ below (va_Qi (fun (r : Int32) (u : Unit) => (0 ≤ r.toInt ∧ r.toInt ≤ 63)) (Bx D A (fun u : Unit => [])) A) args s ((Rm 1 20 0 0)).cells ((Rm 1 20 0 0)).slots A) (H : Heap) (locs : List Loc) (ls : Array Slot) (hP : va_P D vwCl [] H) (hD : va_D A []) (hS : va_S A s.heap H locs) (hl : lv_has ls 1 [(0, .int v)]) : W p l e (Rm 1 20 0 0) s m args below meth c H locs cells slots Q (F0 m 0 ls []) := by
  have hx := C.1
  have hb := C.2.1
  have hqv := o_rng v
  refine lv_iload_n hx hb dX10_sizeOf_0 rfl (lv_at hl 0 rfl) ?_
  refine q_ai (wr := []) (r_S (rm := (Rm 0 0 0 0)) (As := [.int v]) (rest := []) (wc := []) C hS (q_subP hP [] rfl) (hD.sub [] (by decide) rfl) (o_bitCount l D cy v _ ) kwS_J6_bitCount_0f7a4 kM_RX10_400 ⟨Nat.le_of_ble_eq_true rfl, Nat.le_of_ble_eq_true rfl⟩ rfl hl.1 rfl (Nat.le_of_ble_eq_true rfl) dX10_sizeOf_1 ⟨hroom.1, hroom.2⟩) C.2.2.2.2.2.2.1 hP hD hS [] [] rfl rfl (by decide) (by decide) (fun r_2 u_1 H locs hw_3 hP hD hS => ?_)
  have hp_3 : 0 ≤ r_2.toInt ∧ r_2.toInt ≤ 63 := hw_3
  refine o_wq hQ ?_
  exact q_iret (rm := (Rm 1 20 0 0)) C hS () rfl (show 0 ≤ r_2.toInt ∧ r_2.toInt ≤ 63 by omega) (q_subP hP [] rfl) (hD.sub [] (by decide) rfl) hroom.1 hroom.2 dX10_sizeOf_4
theorem o_sizeOf (l : Launch) (D : va_G) (cy : Nat → ClassId) (v : Int32) (sz : Nat)  : MI l yX10_sizeOf cX10_sizeOf 1 (some .int) (Rm 1 20 0 0) D cy [.int v] sz [] (fun (r : Int32) (u : Unit) => (0 ≤ r.toInt ∧ r.toInt ≤ 63)) (fun u : Unit => []) := by
  refine MI.enter (by decide) (Nat.le_of_ble_eq_true rfl) ?_
  intro p e s m below meth c ls A hsz hAe C hP hD hS hl
  exact b_o_sizeOf l D cy v  ⟨Nat.le_of_ble_eq_true rfl, Nat.le_of_ble_eq_true rfl⟩ C rfl _ _ ls hP hD hS hl
set_option maxHeartbeats 4000000 in
set_option maxRecDepth 100000 in
theorem b_o_sizeOfX (l : Launch) (D : va_G) (cy : Nat → ClassId) (v : Int32) (hb0 : 0 ≤ v.toInt ∧ v.toInt ≤ 255) {p : Program} {e : Env} {s : State} {m : MethodId} {args : Array Value} {below : List Frame} {meth : Method} {c : Code} {A : Nat → Prop} {Q : State → Prop} {cells slots : Nat} (hroom : cells ≤ ((Rm 1 20 0 0)).cells ∧ slots ≤ ((Rm 1 20 0 0)).slots) (C : Cx p s m args meth c cX10_sizeOf 1 (some .int) RX10 "sizeOf" D cy A) (hQ : Q = MQ below (va_Qi (fun (r : Int32) (u : Unit) => (0 ≤ r.toInt ∧ r.toInt ≤ 63) ∧ (r.toInt = bc v.toInt)) (Bx D A (fun u : Unit => [])) A) args s ((Rm 1 20 0 0)).cells ((Rm 1 20 0 0)).slots A) (H : Heap) (locs : List Loc) (ls : Array Slot) (hP : va_P D vwCl [] H) (hD : va_D A []) (hS : va_S A s.heap H locs) (hl : lv_has ls 1 [(0, .int v)]) : W p l e (Rm 1 20 0 0) s m args below meth c H locs cells slots Q (F0 m 0 ls []) := by
  have hx := C.1
  have hb := C.2.1
  refine lv_iload_n hx hb dX10_sizeOf_0 rfl (lv_at hl 0 rfl) ?_
  refine q_ai (wr := []) (r_S (rm := (Rm 0 0 0 0)) (As := [.int v]) (rest := []) (wc := []) C hS (q_subP hP [] rfl) (hD.sub [] (by decide) rfl) (o_bitCountX l D cy v _ (by omega)) kwS_J6_bitCount_0f7a4 kM_RX10_400 ⟨Nat.le_of_ble_eq_true rfl, Nat.le_of_ble_eq_true rfl⟩ rfl hl.1 rfl (Nat.le_of_ble_eq_true rfl) dX10_sizeOf_1 ⟨hroom.1, hroom.2⟩) C.2.2.2.2.2.2.1 hP hD hS [] [] rfl rfl (by decide) (by decide) (fun r_2 u_1 H locs hw_3 hP hD hS => ?_)
  have hp_3 : 0 ≤ r_2.toInt ∧ r_2.toInt ≤ 63 := hw_3.1
  have hp_4 : r_2.toInt = bc v.toInt := hw_3.2
  refine o_wq hQ ?_
  exact q_iret (rm := (Rm 1 20 0 0)) C hS () rfl ⟨(show 0 ≤ r_2.toInt ∧ r_2.toInt ≤ 63 by omega), hp_4⟩ (q_subP hP [] rfl) (hD.sub [] (by decide) rfl) hroom.1 hroom.2 dX10_sizeOf_4
theorem o_sizeOfX (l : Launch) (D : va_G) (cy : Nat → ClassId) (v : Int32) (sz : Nat) (hb0 : 0 ≤ v.toInt ∧ v.toInt ≤ 255) : MI l yX10_sizeOf cX10_sizeOf 1 (some .int) (Rm 1 20 0 0) D cy [.int v] sz [] (fun (r : Int32) (u : Unit) => (0 ≤ r.toInt ∧ r.toInt ≤ 63) ∧ (r.toInt = bc v.toInt)) (fun u : Unit => []) := by
  refine MI.enter (by decide) (Nat.le_of_ble_eq_true rfl) ?_
  intro p e s m below meth c ls A hsz hAe C hP hD hS hl
  exact b_o_sizeOfX l D cy v hb0 ⟨Nat.le_of_ble_eq_true rfl, Nat.le_of_ble_eq_true rfl⟩ C rfl _ _ ls hP hD hS hl
