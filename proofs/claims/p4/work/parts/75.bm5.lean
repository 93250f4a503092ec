theorem dX11_when_0 : decode cX11_when 0 = .ok (.aload_n 0, 1) := by decide +kernel
theorem dX11_when_1 : decode cX11_when 1 = .ok (.iconst 0, 1) := by decide +kernel
theorem dX11_when_2 : decode cX11_when 2 = .ok (.putfield 1, 3) := by decide +kernel
theorem dX11_when_5 : decode cX11_when 5 = .ok (.aload_n 0, 1) := by decide +kernel
theorem dX11_when_6 : decode cX11_when 6 = .ok (.iload_n 1, 1) := by decide +kernel
theorem dX11_when_7 : decode cX11_when 7 = .ok (.invokevirtual 306, 3) := by decide +kernel
theorem dX11_when_10 : decode cX11_when 10 = .ok (.ifCond .ne 5, 3) := by decide +kernel
theorem dX11_when_15 : decode cX11_when 15 = .ok (.aload_n 0, 1) := by decide +kernel
theorem dX11_when_16 : decode cX11_when 16 = .ok (.getfield 33, 3) := by decide +kernel
theorem dX11_when_19 : decode cX11_when 19 = .ok (.bipush 122, 2) := by decide +kernel
theorem dX11_when_21 : decode cX11_when 21 = .ok (.iload_n 1, 1) := by decide +kernel
theorem dX11_when_22 : decode cX11_when 22 = .ok (.iadd, 1) := by decide +kernel
theorem dX11_when_23 : decode cX11_when 23 = .ok (.iaload, 1) := by decide +kernel
theorem dX11_when_24 : decode cX11_when 24 = .ok (.istore_n 2, 1) := by decide +kernel
theorem dX11_when_25 : decode cX11_when 25 = .ok (.iconst 0, 1) := by decide +kernel
theorem dX11_when_26 : decode cX11_when 26 = .ok (.istore_n 3, 1) := by decide +kernel
theorem dX11_when_27 : decode cX11_when 27 = .ok (.iload_n 2, 1) := by decide +kernel
theorem dX11_when_28 : decode cX11_when 28 = .ok (.aload_n 0, 1) := by decide +kernel
theorem dX11_when_29 : decode cX11_when 29 = .ok (.getfield 33, 3) := by decide +kernel
theorem dX11_when_32 : decode cX11_when 32 = .ok (.iconst 3, 1) := by decide +kernel
theorem dX11_when_33 : decode cX11_when 33 = .ok (.iaload, 1) := by decide +kernel
theorem dX11_when_34 : decode cX11_when 34 = .ok (.if_icmp .ge 34, 3) := by decide +kernel
theorem dX11_when_68 : decode cX11_when 68 = .ok (.aload_n 0, 1) := by decide +kernel
theorem dX11_when_69 : decode cX11_when 69 = .ok (.getfield 33, 3) := by decide +kernel
theorem dX11_when_72 : decode cX11_when 72 = .ok (.bipush 104, 2) := by decide +kernel
theorem dX11_when_74 : decode cX11_when 74 = .ok (.iaload, 1) := by decide +kernel
theorem dX11_when_75 : decode cX11_when 75 = .ok (.iload_n 3, 1) := by decide +kernel
theorem dX11_when_76 : decode cX11_when 76 = .ok (.iadd, 1) := by decide +kernel
theorem dX11_when_77 : decode cX11_when 77 = .ok (.sipush 400, 3) := by decide +kernel
theorem dX11_when_80 : decode cX11_when 80 = .ok (.if_icmp .le 7, 3) := by decide +kernel
theorem dX11_when_87 : decode cX11_when 87 = .ok (.iload_n 3, 1) := by decide +kernel
theorem dX11_when_88 : decode cX11_when 88 = .ok (.ireturn, 1) := by decide +kernel
theorem dX11_when_83 : decode cX11_when 83 = .ok (.iconst (-1), 1) := by decide +kernel
theorem dX11_when_84 : decode cX11_when 84 = .ok (.goto 4, 3) := by decide +kernel
theorem dX11_when_37 : decode cX11_when 37 = .ok (.iload_n 2, 1) := by decide +kernel
theorem dX11_when_38 : decode cX11_when 38 = .ok (.iload_n 3, 1) := by decide +kernel
theorem dX11_when_39 : decode cX11_when 39 = .ok (.ifCond .ne 15, 3) := by decide +kernel
theorem dX11_when_42 : decode cX11_when 42 = .ok (.aload_n 0, 1) := by decide +kernel
theorem dX11_when_43 : decode cX11_when 43 = .ok (.iload_n 1, 1) := by decide +kernel
theorem dX11_when_44 : decode cX11_when 44 = .ok (.invokevirtual 338, 3) := by decide +kernel
theorem dX11_when_47 : decode cX11_when 47 = .ok (.ifCond .eq 7, 3) := by decide +kernel
theorem dX11_when_54 : decode cX11_when 54 = .ok (.aload_n 0, 1) := by decide +kernel
theorem dX11_when_55 : decode cX11_when 55 = .ok (.getfield 33, 3) := by decide +kernel
theorem dX11_when_58 : decode cX11_when 58 = .ok (.iconst 4, 1) := by decide +kernel
theorem dX11_when_59 : decode cX11_when 59 = .ok (.iaload, 1) := by decide +kernel
theorem dX11_when_60 : decode cX11_when 60 = .ok (.iadd, 1) := by decide +kernel
theorem dX11_when_61 : decode cX11_when 61 = .ok (.istore_n 2, 1) := by decide +kernel
theorem dX11_when_62 : decode cX11_when 62 = .ok (.iinc 3 1, 3) := by decide +kernel
theorem dX11_when_65 : decode cX11_when 65 = .ok (.goto (-38), 3) := by decide +kernel
theorem dX11_when_50 : decode cX11_when 50 = .ok (.iconst 0, 1) := by decide +kernel
theorem dX11_when_51 : decode cX11_when 51 = .ok (.goto 9, 3) := by decide +kernel
theorem dX11_when_13 : decode cX11_when 13 = .ok (.iconst (-1), 1) := by decide +kernel
theorem dX11_when_14 : decode cX11_when 14 = .ok (.ireturn, 1) := by decide +kernel
set_option maxHeartbeats 4000000 in
set_option maxRecDepth 100000 in
theorem b_y_when (l : Launch) (D : va_G) (cy : Nat → ClassId) (q : Nat) (a : Int32) (q_thrown : Int32) (q_tape_ : Nat) (q_length : Int32) (q_size : Int32) (q_p : Int32) (q_limit : Int32) (q_s_ : Nat) (q_h_ : Nat) (q_read_ : Nat) (q_names_ : Nat) (q_reserved_ : Nat) (q_token : Int32) (q_at : Int32) (q_span : Int32) (q_number : Int32) (q_fault : Int32) (q_faultAt : Int32) (q_word : Int64) (q_got : Int32) (q_lines : Int32) (q_onces : Int32) (q_webs : Int32) (q_one : Int32) (q_two : Int32) (q_seed : Int32) (q_undone_ : Nat) (q_before_ : Nat) (q_undoMany : Int32) (q_far_ : Nat) (q_wayRow_ : Nat) (q_wayMany : Int32) (q_keptRow_ : Nat) (q_askedRow_ : Nat) (q_rares_ : Nat) (q_trial_ : Nat) (q_keptMany : Int32) (q_askedMany : Int32) (q_hangs_ : Nat) (q_paths_ : Nat) (q_tornSteps : Int32) (q_hasTorn : Int32) (q_turnOne : Int32) (q_hasTurn : Int32) (q_text_ : Nat) (q_textMany : Int32) (q_toldMany : Int32) (q_toldAt_ : Nat) (q_hasTold : Int32) (q_stack_ : Nat) (q_codes : Int32) (q_ones : Int32) (q_top : Int32) (q_deep : Int32) (q_isWhole : Int32) (q_truths_ : Nat) (q_imaged_ : Nat) (q_namesKept_ : Nat) (q_areKept_ : Nat) (q_s : Nat → Int32) (hb0 : 0 ≤ q_length.toInt ∧ q_length.toInt ≤ 940) (hb1 : 0 ≤ q_size.toInt ∧ q_size.toInt ≤ 940) (hb2 : 0 ≤ q_p.toInt ∧ q_p.toInt ≤ 940) (hb3 : 0 ≤ q_limit.toInt ∧ q_limit.toInt ≤ 940) (hb4 : 0 ≤ q_span.toInt ∧ q_span.toInt ≤ 940) (hb5 : 0 ≤ q_number.toInt ∧ q_number.toInt ≤ 8214) (hb6 : (-1) ≤ q_got.toInt ∧ q_got.toInt ≤ 8214) (hb7 : 0 ≤ q_one.toInt ∧ q_one.toInt ≤ 7) (hb8 : 0 ≤ q_two.toInt ∧ q_two.toInt ≤ 7) (hb9 : 0 ≤ q_undoMany.toInt ∧ q_undoMany.toInt ≤ 8) (hb10 : (-1) ≤ q_wayMany.toInt ∧ q_wayMany.toInt ≤ 8) (hb11 : (-1) ≤ q_keptMany.toInt ∧ q_keptMany.toInt ≤ 8) (hb12 : (-1) ≤ q_askedMany.toInt ∧ q_askedMany.toInt ≤ 3) (hb13 : 0 ≤ q_hasTorn.toInt ∧ q_hasTorn.toInt ≤ 1) (hb14 : 0 ≤ q_hasTurn.toInt ∧ q_hasTurn.toInt ≤ 1) (hb15 : 0 ≤ q_textMany.toInt ∧ q_textMany.toInt ≤ 48) (hb16 : 0 ≤ q_toldMany.toInt ∧ q_toldMany.toInt ≤ 40) (hb17 : 0 ≤ q_hasTold.toInt ∧ q_hasTold.toInt ≤ 1) (hb18 : 0 ≤ q_codes.toInt ∧ q_codes.toInt ≤ 40) (hb19 : 0 ≤ q_ones.toInt ∧ q_ones.toInt ≤ 20) (hb20 : 0 ≤ q_top.toInt ∧ q_top.toInt ≤ 40) (hb21 : 0 ≤ q_isWhole.toInt ∧ q_isWhole.toInt ≤ 1) (hR0 : Rg q_s 0 1 0 8) (hR1 : Rg q_s 1 3 0 6) (hR2 : Rg q_s 3 4 1 50) (hR3 : Rg q_s 4 5 1 5) (hR4 : Rg q_s 103 104 0 255) (hR5 : Rg q_s 7 23 0 5) (hR6 : Rg q_s 106 122 0 5) (hR7 : Rg q_s 23 31 0 99) (hR8 : Rg q_s 122 130 0 99) {p : Program} {e : Env} {s : State} {m : MethodId} {args : Array Value} {below : List Frame} {meth : Method} {c : Code} {A : Nat → Prop} {Q : State → Prop} {cells slots : Nat} (hroom : cells ≤ ((Rm 2 43 0 0)).cells ∧ slots ≤ ((Rm 2 43 0 0)).slots) (C : Cx p s m args meth c cX11_when 4 (some .int) RX11 "when" D cy A) (hQ : Q = MQ below (va_Qi (fun (r : Int32) (u : Int32) => True) (Bx D A (fun u : Int32 => [(q, oC11 u q_tape_ q_length q_size q_p q_limit q_s_ q_h_ q_read_ q_names_ q_reserved_ q_token q_at q_span q_number q_fault q_faultAt q_word q_got q_lines q_onces q_webs q_one q_two q_seed q_undone_ q_before_ q_undoMany q_far_ q_wayRow_ q_wayMany q_keptRow_ q_askedRow_ q_rares_ q_trial_ q_keptMany q_askedMany q_hangs_ q_paths_ q_tornSteps q_hasTorn q_turnOne q_hasTurn q_text_ q_textMany q_toldMany q_toldAt_ q_hasTold q_stack_ q_codes q_ones q_top q_deep q_isWhole q_truths_ q_imaged_ q_namesKept_ q_areKept_), (q_s_, aC1 cy 383 q_s)])) A) args s ((Rm 2 43 0 0)).cells ((Rm 2 43 0 0)).slots A) (H : Heap) (locs : List Loc) (ls : Array Slot) (hP : va_P D vwCl [(q, oC11 q_thrown q_tape_ q_length q_size q_p q_limit q_s_ q_h_ q_read_ q_names_ q_reserved_ q_token q_at q_span q_number q_fault q_faultAt q_word q_got q_lines q_onces q_webs q_one q_two q_seed q_undone_ q_before_ q_undoMany q_far_ q_wayRow_ q_wayMany q_keptRow_ q_askedRow_ q_rares_ q_trial_ q_keptMany q_askedMany q_hangs_ q_paths_ q_tornSteps q_hasTorn q_turnOne q_hasTurn q_text_ q_textMany q_toldMany q_toldAt_ q_hasTold q_stack_ q_codes q_ones q_top q_deep q_isWhole q_truths_ q_imaged_ q_namesKept_ q_areKept_), (q_s_, aC1 cy 383 q_s)] H) (hD : va_D A [(q, oC11 q_thrown q_tape_ q_length q_size q_p q_limit q_s_ q_h_ q_read_ q_names_ q_reserved_ q_token q_at q_span q_number q_fault q_faultAt q_word q_got q_lines q_onces q_webs q_one q_two q_seed q_undone_ q_before_ q_undoMany q_far_ q_wayRow_ q_wayMany q_keptRow_ q_askedRow_ q_rares_ q_trial_ q_keptMany q_askedMany q_hangs_ q_paths_ q_tornSteps q_hasTorn q_turnOne q_hasTurn q_text_ q_textMany q_toldMany q_toldAt_ q_hasTold q_stack_ q_codes q_ones q_top q_deep q_isWhole q_truths_ q_imaged_ q_namesKept_ q_areKept_), (q_s_, aC1 cy 383 q_s)]) (hS : va_S A s.heap H locs) (hl : lv_has ls 4 [(0, .ref q), (1, .int a)]) : W p l e (Rm 2 43 0 0) s m args below meth c H locs cells slots Q (F0 m 0 ls []) := by
  have hx := C.1
  have hb := C.2.1
  have hqa := o_rng a
  refine lv_aload_n hx hb dX11_when_0 rfl (lv_at hl 0 rfl) ?_
  refine lv_iconst (v := 0) hx hb dX11_when_1 (by decide) ?_
  refine q_put11 (v := .int 0) (w' := [(q, oC11 0 q_tape_ q_length q_size q_p q_limit q_s_ q_h_ q_read_ q_names_ q_reserved_ q_token q_at q_span q_number q_fault q_faultAt q_word q_got q_lines q_onces q_webs q_one q_two q_seed q_undone_ q_before_ q_undoMany q_far_ q_wayRow_ q_wayMany q_keptRow_ q_askedRow_ q_rares_ q_trial_ q_keptMany q_askedMany q_hangs_ q_paths_ q_tornSteps q_hasTorn q_turnOne q_hasTurn q_text_ q_textMany q_toldMany q_toldAt_ q_hasTold q_stack_ q_codes q_ones q_top q_deep q_isWhole q_truths_ q_imaged_ q_namesKept_ q_areKept_), (q_s_, aC1 cy 383 q_s)]) C hP hD hS 0 0 rfl fT_0 fy_0 (by decide) kF_RX11_1 rfl rfl (Nat.le_of_ble_eq_true rfl) rfl dX11_when_2 (fun H locs hP hD hS => ?_)
  refine lv_aload_n hx hb dX11_when_5 rfl (lv_at hl 0 rfl) ?_
  refine lv_iload_n hx hb dX11_when_6 rfl (lv_at hl 1 rfl) ?_
  refine q_ai (wr := []) (r_V (rm := (Rm 1 22 0 0)) (q0 := 0) (As := [.int a]) (rest := []) (wc := [(q, oC11 0 q_tape_ q_length q_size q_p q_limit q_s_ q_h_ q_read_ q_names_ q_reserved_ q_token q_at q_span q_number q_fault q_faultAt q_word q_got q_lines q_onces q_webs q_one q_two q_seed q_undone_ q_before_ q_undoMany q_far_ q_wayRow_ q_wayMany q_keptRow_ q_askedRow_ q_rares_ q_trial_ q_keptMany q_askedMany q_hangs_ q_paths_ q_tornSteps q_hasTorn q_turnOne q_hasTurn q_text_ q_textMany q_toldMany q_toldAt_ q_hasTold q_stack_ q_codes q_ones q_top q_deep q_isWhole q_truths_ q_imaged_ q_namesKept_ q_areKept_), (q_s_, aC1 cy 383 q_s)]) C hS (q_subP hP [0, 1] rfl) (hD.sub [0, 1] (by decide) rfl) (y_isBook l D cy q a 0 q_tape_ q_length q_size q_p q_limit q_s_ q_h_ q_read_ q_names_ q_reserved_ q_token q_at q_span q_number q_fault q_faultAt q_word q_got q_lines q_onces q_webs q_one q_two q_seed q_undone_ q_before_ q_undoMany q_far_ q_wayRow_ q_wayMany q_keptRow_ q_askedRow_ q_rares_ q_trial_ q_keptMany q_askedMany q_hangs_ q_paths_ q_tornSteps q_hasTorn q_turnOne q_hasTurn q_text_ q_textMany q_toldMany q_toldAt_ q_hasTold q_stack_ q_codes q_ones q_top q_deep q_isWhole q_truths_ q_imaged_ q_namesKept_ q_areKept_ q_s _ (by omega) (by omega) (by omega) (by omega) (by omega) (by omega) (by omega) (by omega) (by omega) (by omega) (by omega) (by omega) (by omega) (by omega) (by omega) (by omega) (by omega) (by omega) (by omega) (by omega) (by omega) (by omega) hR0 hR1 hR2 hR3 hR4 hR5 hR6 hR7 hR8) kwV_X11_isBook kM_RX11_306 rfl rfl ⟨Nat.le_of_ble_eq_true rfl, Nat.le_of_ble_eq_true rfl⟩ rfl hl.1 rfl (Nat.le_of_ble_eq_true rfl) dX11_when_7 ⟨hroom.1, hroom.2⟩) C.2.2.2.2.2.2.1 hP hD hS [0, 1] [] rfl rfl (by decide) (by decide) (fun r_2 u_1 H locs hw_3 hP hD hS => ?_)
  have hp_3 : 0 ≤ r_2.toInt ∧ r_2.toInt ≤ 1 := hw_3.1
  have hp_4 : r_2.toInt = 1 → a.toInt < (q_s 0).toInt := hw_3.2.1
  have hp_5 : (0 ≤ r_2.toInt + (-1)) → (0 ≤ a.toInt ∧ 0 ≤ (-1) * a.toInt + 7) := by have e0 : (0 : Int32).toInt = 0 := (by decide); have h0 : (0 ≤ r_2.toInt + (-1)) → (0 ≤ a.toInt ∧ 0 ≤ (-1) * a.toInt + 7) := hw_3.2.2; omega
  clear hw_3
  refine lv_if_ne (tgt := 15) hx hb dX11_when_10 (by decide) (fun c_7 => ?_) (fun c_7 => ?_)
  · have hc_7 := o_ne (rfl : r_2.toInt = r_2.toInt) (by decide : (0 : Int32).toInt = 0) c_7
    have hnc_7 : 0 ≤ r_2.toInt + (-1) := by rcases Int.lt_or_gt_of_ne hc_7 with h9 | h9 <;> omega
    have hp_5 := hp_5 (by omega)
    refine lv_aload_n hx hb dX11_when_15 rfl (lv_at hl 0 rfl) ?_
    refine q_get11 (v := .ref q_s_) C hP 0 6 rfl fT_6 (by decide) kF_RX11_33 rfl dX11_when_16 ?_
    refine lv_bipush (v := 122) hx hb dX11_when_19 (by decide) ?_
    refine lv_iload_n hx hb dX11_when_21 rfl (lv_at hl 1 rfl) ?_
    refine lv_iadd hx hb dX11_when_22 ?_
    refine lv_topi (fun z_8 hz_8 => ?_)
    have hz_8 := o_add hz_8 (by decide : (122 : Int32).toInt = 122) (rfl : a.toInt = a.toInt) (by omega) (by omega)
    refine q_iald (v := q_s z_8.toNatClampNeg) C hP 1 rfl (o_in (rfl : z_8.toInt = z_8.toInt) (by omega) (by omega)) rfl dX11_when_23 ?_
    refine lv_topi (fun z_9 ez_9 => ?_)
    have hz_9 := Rg.at hR8 ez_9 (by have := o_cl (rfl : z_8.toInt = z_8.toInt) (by omega); omega) (by have := o_cl (rfl : z_8.toInt = z_8.toInt) (by omega); omega)
    refine lv_istore_n (lv' := [(2, .int z_9), (0, .ref q), (1, .int a)]) hx hb dX11_when_24 rfl hl (by decide) rfl (fun ls hl => ?_)
    refine lv_iconst (v := 0) hx hb dX11_when_25 (by decide) ?_
    refine lv_istore_n (lv' := [(3, .int 0), (2, .int z_9), (0, .ref q), (1, .int a)]) hx hb dX11_when_26 rfl hl (by decide) rfl (fun ls hl => ?_)
    refine lv_iload_n hx hb dX11_when_27 rfl (lv_at hl 1 rfl) ?_
    refine lv_aload_n hx hb dX11_when_28 rfl (lv_at hl 2 rfl) ?_
    refine q_get11 (v := .ref q_s_) C hP 0 6 rfl fT_6 (by decide) kF_RX11_33 rfl dX11_when_29 ?_
    refine lv_iconst (v := 3) hx hb dX11_when_32 (by decide) ?_
    refine q_iald (v := q_s 3) C hP 1 rfl (vin (by decide +kernel)) rfl dX11_when_33 ?_
    refine lv_topi (fun z_10 ez_10 => ?_)
    have hz_10 : 1 ≤ z_10.toInt ∧ z_10.toInt ≤ 50 := (by rw [ez_10]; exact hR2 3 (by decide) (by decide))
    refine lv_icmp_ge (tgt := 68) hx hb dX11_when_34 (by decide) (fun c_11 => ?_) (fun c_11 => ?_)
    · have hc_11 := o_le (rfl : z_10.toInt = z_10.toInt) (rfl : z_9.toInt = z_9.toInt) c_11
      refine lv_aload_n hx hb dX11_when_68 rfl (lv_at hl 2 rfl) ?_
      refine q_get11 (v := .ref q_s_) C hP 0 6 rfl fT_6 (by decide) kF_RX11_33 rfl dX11_when_69 ?_
      refine lv_bipush (v := 104) hx hb dX11_when_72 (by decide) ?_
      refine q_iald (v := q_s 104) C hP 1 rfl (vin (by decide +kernel)) rfl dX11_when_74 ?_
      refine lv_topi (fun z_12 ez_12 => ?_)
      refine lv_iload_n hx hb dX11_when_75 rfl (lv_at hl 0 rfl) ?_
      refine lv_iadd hx hb dX11_when_76 ?_
      refine lv_topi (fun z_13 hz_13 => ?_)
      clear hz_13
      refine lv_sipush (v := 400) hx hb dX11_when_77 (by decide) ?_
      refine lv_icmp_le (tgt := 87) hx hb dX11_when_80 (by decide) (fun c_14 => ?_) (fun c_14 => ?_)
      · have hc_14 := o_le (rfl : z_13.toInt = z_13.toInt) (by decide : (400 : Int32).toInt = 400) c_14
        refine lv_iload_n hx hb dX11_when_87 rfl (lv_at hl 0 rfl) ?_
        refine o_wq hQ ?_
        exact q_iret (rm := (Rm 2 43 0 0)) C hS 0 rfl trivial (q_subP hP [0, 1] rfl) (hD.sub [0, 1] (by decide) rfl) hroom.1 hroom.2 dX11_when_88
      · have hc_14 := o_nle (rfl : z_13.toInt = z_13.toInt) (by decide : (400 : Int32).toInt = 400) c_14
        refine lv_iconst (v := (-1)) hx hb dX11_when_83 (by decide) ?_
        refine lv_goto (tgt := 88) hx hb dX11_when_84 (by decide) ?_
        refine o_wq hQ ?_
        exact q_iret (rm := (Rm 2 43 0 0)) C hS 0 rfl trivial (q_subP hP [0, 1] rfl) (hD.sub [0, 1] (by decide) rfl) hroom.1 hroom.2 dX11_when_88
    · have hc_11 := o_nle (rfl : z_10.toInt = z_10.toInt) (rfl : z_9.toInt = z_9.toInt) c_11
      refine lv_iload_n hx hb dX11_when_37 rfl (lv_at hl 1 rfl) ?_
      refine lv_iload_n hx hb dX11_when_38 rfl (lv_at hl 0 rfl) ?_
      refine lv_if_ne (tgt := 54) hx hb dX11_when_39 (by decide) (fun c_0 => absurd (by decide) c_0) (fun _ => ?_)
      refine lv_aload_n hx hb dX11_when_42 rfl (lv_at hl 2 rfl) ?_
      refine lv_iload_n hx hb dX11_when_43 rfl (lv_at hl 3 rfl) ?_
      refine q_ai (wr := []) (r_V (rm := (Rm 1 21 0 0)) (q0 := 0) (As := [.int a]) (rest := [.int z_9]) (wc := [(q, oC11 0 q_tape_ q_length q_size q_p q_limit q_s_ q_h_ q_read_ q_names_ q_reserved_ q_token q_at q_span q_number q_fault q_faultAt q_word q_got q_lines q_onces q_webs q_one q_two q_seed q_undone_ q_before_ q_undoMany q_far_ q_wayRow_ q_wayMany q_keptRow_ q_askedRow_ q_rares_ q_trial_ q_keptMany q_askedMany q_hangs_ q_paths_ q_tornSteps q_hasTorn q_turnOne q_hasTurn q_text_ q_textMany q_toldMany q_toldAt_ q_hasTold q_stack_ q_codes q_ones q_top q_deep q_isWhole q_truths_ q_imaged_ q_namesKept_ q_areKept_), (q_s_, aC1 cy 383 q_s)]) C hS (q_subP hP [0, 1] rfl) (hD.sub [0, 1] (by decide) rfl) (y_isAsked l D cy q a 0 q_tape_ q_length q_size q_p q_limit q_s_ q_h_ q_read_ q_names_ q_reserved_ q_token q_at q_span q_number q_fault q_faultAt q_word q_got q_lines q_onces q_webs q_one q_two q_seed q_undone_ q_before_ q_undoMany q_far_ q_wayRow_ q_wayMany q_keptRow_ q_askedRow_ q_rares_ q_trial_ q_keptMany q_askedMany q_hangs_ q_paths_ q_tornSteps q_hasTorn q_turnOne q_hasTurn q_text_ q_textMany q_toldMany q_toldAt_ q_hasTold q_stack_ q_codes q_ones q_top q_deep q_isWhole q_truths_ q_imaged_ q_namesKept_ q_areKept_ q_s _ (by omega) (by omega) (by omega) (by omega) (by omega) (by omega) (by omega) (by omega) (by omega) (by omega) (by omega) (by omega) (by omega) (by omega) (by omega) (by omega) (by omega) (by omega) (by omega) (by omega) (by omega) (by omega) hR0 hR1 hR2 hR3 hR4 hR5 hR6 hR7 hR8) kwV_X11_isAsked kM_RX11_338 rfl rfl ⟨Nat.le_of_ble_eq_true rfl, Nat.le_of_ble_eq_true rfl⟩ rfl hl.1 rfl (Nat.le_of_ble_eq_true rfl) dX11_when_44 ⟨hroom.1, hroom.2⟩) C.2.2.2.2.2.2.1 hP hD hS [0, 1] [] rfl rfl (by decide) (by decide) (fun r_16 u_15 H locs hw_17 hP hD hS => ?_)
      have hp_17 : 0 ≤ r_16.toInt ∧ r_16.toInt ≤ 1 := hw_17
      clear hw_17
      refine lv_if_eq (tgt := 54) hx hb dX11_when_47 (by decide) (fun c_19 => ?_) (fun c_19 => ?_)
      · have hc_19 := o_eq (rfl : r_16.toInt = r_16.toInt) (by decide : (0 : Int32).toInt = 0) c_19
        refine lv_aload_n hx hb dX11_when_54 rfl (lv_at hl 2 rfl) ?_
        refine q_get11 (v := .ref q_s_) C hP 0 6 rfl fT_6 (by decide) kF_RX11_33 rfl dX11_when_55 ?_
        refine lv_iconst (v := 4) hx hb dX11_when_58 (by decide) ?_
        refine q_iald (v := q_s 4) C hP 1 rfl (vin (by decide +kernel)) rfl dX11_when_59 ?_
        refine lv_topi (fun z_20 ez_20 => ?_)
        have hz_20 : 1 ≤ z_20.toInt ∧ z_20.toInt ≤ 5 := (by rw [ez_20]; exact hR3 4 (by decide) (by decide))
        refine lv_iadd hx hb dX11_when_60 ?_
        refine lv_topi (fun z_21 hz_21 => ?_)
        have hz_21 := o_add hz_21 (rfl : z_9.toInt = z_9.toInt) (rfl : z_20.toInt = z_20.toInt) (by omega) (by omega)
        refine lv_istore_n (lv' := [(2, .int z_21), (3, .int 0), (0, .ref q), (1, .int a)]) hx hb dX11_when_61 rfl hl (by decide) rfl (fun ls hl => ?_)
        refine lv_iinc (v := 1) (lv' := [(3, .int 1), (2, .int z_21), (0, .ref q), (1, .int a)]) hx hb dX11_when_62 hl (k := 1) rfl (by decide) (by decide) rfl (fun ls hl => ?_)
        refine lv_goto (tgt := 27) hx hb dX11_when_65 (by decide) ?_
        have lp_27_23 : ∀ (n_24 : Nat) (x_22 : Int32) (x_23 : Int32) (H : Heap) (locs : List Loc) (ls : Array Slot), (-1) * x_22.toInt + 99 < (n_24 : Int) → (0 ≤ x_22.toInt ∧ x_22.toInt ≤ 99) → (0 ≤ x_23.toInt + (-1)) → (0 ≤ x_22.toInt + (-1) * x_23.toInt + 1) → va_P D vwCl [(q, oC11 0 q_tape_ q_length q_size q_p q_limit q_s_ q_h_ q_read_ q_names_ q_reserved_ q_token q_at q_span q_number q_fault q_faultAt q_word q_got q_lines q_onces q_webs q_one q_two q_seed q_undone_ q_before_ q_undoMany q_far_ q_wayRow_ q_wayMany q_keptRow_ q_askedRow_ q_rares_ q_trial_ q_keptMany q_askedMany q_hangs_ q_paths_ q_tornSteps q_hasTorn q_turnOne q_hasTurn q_text_ q_textMany q_toldMany q_toldAt_ q_hasTold q_stack_ q_codes q_ones q_top q_deep q_isWhole q_truths_ q_imaged_ q_namesKept_ q_areKept_), (q_s_, aC1 cy 383 q_s)] H → va_D A [(q, oC11 0 q_tape_ q_length q_size q_p q_limit q_s_ q_h_ q_read_ q_names_ q_reserved_ q_token q_at q_span q_number q_fault q_faultAt q_word q_got q_lines q_onces q_webs q_one q_two q_seed q_undone_ q_before_ q_undoMany q_far_ q_wayRow_ q_wayMany q_keptRow_ q_askedRow_ q_rares_ q_trial_ q_keptMany q_askedMany q_hangs_ q_paths_ q_tornSteps q_hasTorn q_turnOne q_hasTurn q_text_ q_textMany q_toldMany q_toldAt_ q_hasTold q_stack_ q_codes q_ones q_top q_deep q_isWhole q_truths_ q_imaged_ q_namesKept_ q_areKept_), (q_s_, aC1 cy 383 q_s)] → va_S A s.heap H locs → lv_has ls 4 [(0, .ref q), (1, .int a), (2, .int x_22), (3, .int x_23)] → W p l e (Rm 2 43 0 0) s m args below meth c H locs cells slots Q (F0 m 27 ls []) := by
          intro n_24
          induction n_24 with
          | zero =>
            intro x_22 x_23 H locs ls hm_28 hf_25 hf_26 hf_27 hP hD hS hl
            exact absurd hm_28 (by omega)
          | succ n_24 ih_29 =>
            intro x_22 x_23 H locs ls hm_28 hf_25 hf_26 hf_27 hP hD hS hl
            refine lv_iload_n hx hb dX11_when_27 rfl (lv_at hl 2 rfl) ?_
            refine lv_aload_n hx hb dX11_when_28 rfl (lv_at hl 0 rfl) ?_
            refine q_get11 (v := .ref q_s_) C hP 0 6 rfl fT_6 (by decide) kF_RX11_33 rfl dX11_when_29 ?_
            refine lv_iconst (v := 3) hx hb dX11_when_32 (by decide) ?_
            refine q_iald (v := q_s 3) C hP 1 rfl (vin (by decide +kernel)) rfl dX11_when_33 ?_
            refine lv_topi (fun z_31 ez_31 => ?_)
            have hz_31 : 1 ≤ z_31.toInt ∧ z_31.toInt ≤ 50 := (by rw [ez_31]; exact hR2 3 (by decide) (by decide))
            refine lv_icmp_ge (tgt := 68) hx hb dX11_when_34 (by decide) (fun c_32 => ?_) (fun c_32 => ?_)
            · have hc_32 := o_le (rfl : z_31.toInt = z_31.toInt) (rfl : x_22.toInt = x_22.toInt) c_32
              refine lv_aload_n hx hb dX11_when_68 rfl (lv_at hl 0 rfl) ?_
              refine q_get11 (v := .ref q_s_) C hP 0 6 rfl fT_6 (by decide) kF_RX11_33 rfl dX11_when_69 ?_
              refine lv_bipush (v := 104) hx hb dX11_when_72 (by decide) ?_
              refine q_iald (v := q_s 104) C hP 1 rfl (vin (by decide +kernel)) rfl dX11_when_74 ?_
              refine lv_topi (fun z_33 ez_33 => ?_)
              refine lv_iload_n hx hb dX11_when_75 rfl (lv_at hl 3 rfl) ?_
              refine lv_iadd hx hb dX11_when_76 ?_
              refine lv_topi (fun z_34 hz_34 => ?_)
              clear hz_34
              refine lv_sipush (v := 400) hx hb dX11_when_77 (by decide) ?_
              refine lv_icmp_le (tgt := 87) hx hb dX11_when_80 (by decide) (fun c_35 => ?_) (fun c_35 => ?_)
              · have hc_35 := o_le (rfl : z_34.toInt = z_34.toInt) (by decide : (400 : Int32).toInt = 400) c_35
                refine lv_iload_n hx hb dX11_when_87 rfl (lv_at hl 3 rfl) ?_
                refine o_wq hQ ?_
                exact q_iret (rm := (Rm 2 43 0 0)) C hS 0 rfl trivial (q_subP hP [0, 1] rfl) (hD.sub [0, 1] (by decide) rfl) hroom.1 hroom.2 dX11_when_88
              · have hc_35 := o_nle (rfl : z_34.toInt = z_34.toInt) (by decide : (400 : Int32).toInt = 400) c_35
                refine lv_iconst (v := (-1)) hx hb dX11_when_83 (by decide) ?_
                refine lv_goto (tgt := 88) hx hb dX11_when_84 (by decide) ?_
                refine o_wq hQ ?_
                exact q_iret (rm := (Rm 2 43 0 0)) C hS 0 rfl trivial (q_subP hP [0, 1] rfl) (hD.sub [0, 1] (by decide) rfl) hroom.1 hroom.2 dX11_when_88
            · have hc_32 := o_nle (rfl : z_31.toInt = z_31.toInt) (rfl : x_22.toInt = x_22.toInt) c_32
              refine lv_iload_n hx hb dX11_when_37 rfl (lv_at hl 2 rfl) ?_
              refine lv_iload_n hx hb dX11_when_38 rfl (lv_at hl 3 rfl) ?_
              refine lv_if_ne (tgt := 54) hx hb dX11_when_39 (by decide) (fun _ => ?_) (fun c_0 => absurd c_0 (o_mne (rfl : x_23.toInt = x_23.toInt) (by decide : (0 : Int32).toInt = 0) (by omega)))
              refine lv_aload_n hx hb dX11_when_54 rfl (lv_at hl 0 rfl) ?_
              refine q_get11 (v := .ref q_s_) C hP 0 6 rfl fT_6 (by decide) kF_RX11_33 rfl dX11_when_55 ?_
              refine lv_iconst (v := 4) hx hb dX11_when_58 (by decide) ?_
              refine q_iald (v := q_s 4) C hP 1 rfl (vin (by decide +kernel)) rfl dX11_when_59 ?_
              refine lv_topi (fun z_36 ez_36 => ?_)
              have hz_36 : 1 ≤ z_36.toInt ∧ z_36.toInt ≤ 5 := (by rw [ez_36]; exact hR3 4 (by decide) (by decide))
              refine lv_iadd hx hb dX11_when_60 ?_
              refine lv_topi (fun z_37 hz_37 => ?_)
              have hz_37 := o_add hz_37 (rfl : x_22.toInt = x_22.toInt) (rfl : z_36.toInt = z_36.toInt) (by omega) (by omega)
              refine lv_istore_n (lv' := [(2, .int z_37), (0, .ref q), (1, .int a), (3, .int x_23)]) hx hb dX11_when_61 rfl hl (by decide) rfl (fun ls hl => ?_)
              obtain ⟨z_38, hz_38⟩ : ∃ z : Int32, z = x_23 + 1 := ⟨_, rfl⟩
              refine lv_iinc (v := z_38) (lv' := [(3, .int z_38), (2, .int z_37), (0, .ref q), (1, .int a)]) hx hb dX11_when_62 hl (k := 3) rfl hz_38.symm (by decide) rfl (fun ls hl => ?_)
              have hz_38 := o_add hz_38 (rfl : x_23.toInt = x_23.toInt) (by decide : (1 : Int32).toInt = 1) (by omega) (by omega)
              refine lv_goto (tgt := 27) hx hb dX11_when_65 (by decide) ?_
              exact ih_29 z_37 z_38 H locs ls (by omega) (by omega) (by omega) (by omega) hP hD hS (lv_sub hl [2, 3, 1, 0] rfl)
        exact lp_27_23 (((-1) * z_21.toInt + 99 : Int).toNat + 1) z_21 (1 : Int32) H locs ls (by have e0 : (1 : Int32).toInt = 1 := (by decide); omega) (by have e0 : (1 : Int32).toInt = 1 := (by decide); omega) (by have e0 : (1 : Int32).toInt = 1 := (by decide); omega) (by have e0 : (1 : Int32).toInt = 1 := (by decide); omega) hP hD hS (lv_sub hl [2, 3, 1, 0] rfl)
      · have hc_19 := o_ne (rfl : r_16.toInt = r_16.toInt) (by decide : (0 : Int32).toInt = 0) c_19
        have hnc_19 : 0 ≤ r_16.toInt + (-1) := by rcases Int.lt_or_gt_of_ne hc_19 with h9 | h9 <;> omega
        refine lv_iconst (v := 0) hx hb dX11_when_50 (by decide) ?_
        refine lv_goto (tgt := 60) hx hb dX11_when_51 (by decide) ?_
        refine lv_iadd hx hb dX11_when_60 ?_
        refine lv_topi (fun z_39 hz_39 => ?_)
        have hz_39 := o_add hz_39 (rfl : z_9.toInt = z_9.toInt) (by decide : (0 : Int32).toInt = 0) (by omega) (by omega)
        refine lv_istore_n (lv' := [(2, .int z_39), (3, .int 0), (0, .ref q), (1, .int a)]) hx hb dX11_when_61 rfl hl (by decide) rfl (fun ls hl => ?_)
        refine lv_iinc (v := 1) (lv' := [(3, .int 1), (2, .int z_39), (0, .ref q), (1, .int a)]) hx hb dX11_when_62 hl (k := 1) rfl (by decide) (by decide) rfl (fun ls hl => ?_)
        refine lv_goto (tgt := 27) hx hb dX11_when_65 (by decide) ?_
        have lp_27_41 : ∀ (n_42 : Nat) (x_40 : Int32) (x_41 : Int32) (H : Heap) (locs : List Loc) (ls : Array Slot), (-1) * x_40.toInt + 99 < (n_42 : Int) → (0 ≤ x_40.toInt ∧ x_40.toInt ≤ 99) → (0 ≤ x_41.toInt + (-1)) → (0 ≤ x_40.toInt + (-1) * x_41.toInt + 1) → va_P D vwCl [(q, oC11 0 q_tape_ q_length q_size q_p q_limit q_s_ q_h_ q_read_ q_names_ q_reserved_ q_token q_at q_span q_number q_fault q_faultAt q_word q_got q_lines q_onces q_webs q_one q_two q_seed q_undone_ q_before_ q_undoMany q_far_ q_wayRow_ q_wayMany q_keptRow_ q_askedRow_ q_rares_ q_trial_ q_keptMany q_askedMany q_hangs_ q_paths_ q_tornSteps q_hasTorn q_turnOne q_hasTurn q_text_ q_textMany q_toldMany q_toldAt_ q_hasTold q_stack_ q_codes q_ones q_top q_deep q_isWhole q_truths_ q_imaged_ q_namesKept_ q_areKept_), (q_s_, aC1 cy 383 q_s)] H → va_D A [(q, oC11 0 q_tape_ q_length q_size q_p q_limit q_s_ q_h_ q_read_ q_names_ q_reserved_ q_token q_at q_span q_number q_fault q_faultAt q_word q_got q_lines q_onces q_webs q_one q_two q_seed q_undone_ q_before_ q_undoMany q_far_ q_wayRow_ q_wayMany q_keptRow_ q_askedRow_ q_rares_ q_trial_ q_keptMany q_askedMany q_hangs_ q_paths_ q_tornSteps q_hasTorn q_turnOne q_hasTurn q_text_ q_textMany q_toldMany q_toldAt_ q_hasTold q_stack_ q_codes q_ones q_top q_deep q_isWhole q_truths_ q_imaged_ q_namesKept_ q_areKept_), (q_s_, aC1 cy 383 q_s)] → va_S A s.heap H locs → lv_has ls 4 [(0, .ref q), (1, .int a), (2, .int x_40), (3, .int x_41)] → W p l e (Rm 2 43 0 0) s m args below meth c H locs cells slots Q (F0 m 27 ls []) := by
          intro n_42
          induction n_42 with
          | zero =>
            intro x_40 x_41 H locs ls hm_46 hf_43 hf_44 hf_45 hP hD hS hl
            exact absurd hm_46 (by omega)
          | succ n_42 ih_47 =>
            intro x_40 x_41 H locs ls hm_46 hf_43 hf_44 hf_45 hP hD hS hl
            refine lv_iload_n hx hb dX11_when_27 rfl (lv_at hl 2 rfl) ?_
            refine lv_aload_n hx hb dX11_when_28 rfl (lv_at hl 0 rfl) ?_
            refine q_get11 (v := .ref q_s_) C hP 0 6 rfl fT_6 (by decide) kF_RX11_33 rfl dX11_when_29 ?_
            refine lv_iconst (v := 3) hx hb dX11_when_32 (by decide) ?_
            refine q_iald (v := q_s 3) C hP 1 rfl (vin (by decide +kernel)) rfl dX11_when_33 ?_
            refine lv_topi (fun z_49 ez_49 => ?_)
            have hz_49 : 1 ≤ z_49.toInt ∧ z_49.toInt ≤ 50 := (by rw [ez_49]; exact hR2 3 (by decide) (by decide))
            refine lv_icmp_ge (tgt := 68) hx hb dX11_when_34 (by decide) (fun c_50 => ?_) (fun c_50 => ?_)
            · have hc_50 := o_le (rfl : z_49.toInt = z_49.toInt) (rfl : x_40.toInt = x_40.toInt) c_50
              refine lv_aload_n hx hb dX11_when_68 rfl (lv_at hl 0 rfl) ?_
              refine q_get11 (v := .ref q_s_) C hP 0 6 rfl fT_6 (by decide) kF_RX11_33 rfl dX11_when_69 ?_
              refine lv_bipush (v := 104) hx hb dX11_when_72 (by decide) ?_
              refine q_iald (v := q_s 104) C hP 1 rfl (vin (by decide +kernel)) rfl dX11_when_74 ?_
              refine lv_topi (fun z_51 ez_51 => ?_)
              refine lv_iload_n hx hb dX11_when_75 rfl (lv_at hl 3 rfl) ?_
              refine lv_iadd hx hb dX11_when_76 ?_
              refine lv_topi (fun z_52 hz_52 => ?_)
              clear hz_52
              refine lv_sipush (v := 400) hx hb dX11_when_77 (by decide) ?_
              refine lv_icmp_le (tgt := 87) hx hb dX11_when_80 (by decide) (fun c_53 => ?_) (fun c_53 => ?_)
              · have hc_53 := o_le (rfl : z_52.toInt = z_52.toInt) (by decide : (400 : Int32).toInt = 400) c_53
                refine lv_iload_n hx hb dX11_when_87 rfl (lv_at hl 3 rfl) ?_
                refine o_wq hQ ?_
                exact q_iret (rm := (Rm 2 43 0 0)) C hS 0 rfl trivial (q_subP hP [0, 1] rfl) (hD.sub [0, 1] (by decide) rfl) hroom.1 hroom.2 dX11_when_88
              · have hc_53 := o_nle (rfl : z_52.toInt = z_52.toInt) (by decide : (400 : Int32).toInt = 400) c_53
                refine lv_iconst (v := (-1)) hx hb dX11_when_83 (by decide) ?_
                refine lv_goto (tgt := 88) hx hb dX11_when_84 (by decide) ?_
                refine o_wq hQ ?_
                exact q_iret (rm := (Rm 2 43 0 0)) C hS 0 rfl trivial (q_subP hP [0, 1] rfl) (hD.sub [0, 1] (by decide) rfl) hroom.1 hroom.2 dX11_when_88
            · have hc_50 := o_nle (rfl : z_49.toInt = z_49.toInt) (rfl : x_40.toInt = x_40.toInt) c_50
              refine lv_iload_n hx hb dX11_when_37 rfl (lv_at hl 2 rfl) ?_
              refine lv_iload_n hx hb dX11_when_38 rfl (lv_at hl 3 rfl) ?_
              refine lv_if_ne (tgt := 54) hx hb dX11_when_39 (by decide) (fun _ => ?_) (fun c_0 => absurd c_0 (o_mne (rfl : x_41.toInt = x_41.toInt) (by decide : (0 : Int32).toInt = 0) (by omega)))
              refine lv_aload_n hx hb dX11_when_54 rfl (lv_at hl 0 rfl) ?_
              refine q_get11 (v := .ref q_s_) C hP 0 6 rfl fT_6 (by decide) kF_RX11_33 rfl dX11_when_55 ?_
              refine lv_iconst (v := 4) hx hb dX11_when_58 (by decide) ?_
              refine q_iald (v := q_s 4) C hP 1 rfl (vin (by decide +kernel)) rfl dX11_when_59 ?_
              refine lv_topi (fun z_54 ez_54 => ?_)
              have hz_54 : 1 ≤ z_54.toInt ∧ z_54.toInt ≤ 5 := (by rw [ez_54]; exact hR3 4 (by decide) (by decide))
              refine lv_iadd hx hb dX11_when_60 ?_
              refine lv_topi (fun z_55 hz_55 => ?_)
              have hz_55 := o_add hz_55 (rfl : x_40.toInt = x_40.toInt) (rfl : z_54.toInt = z_54.toInt) (by omega) (by omega)
              refine lv_istore_n (lv' := [(2, .int z_55), (0, .ref q), (1, .int a), (3, .int x_41)]) hx hb dX11_when_61 rfl hl (by decide) rfl (fun ls hl => ?_)
              obtain ⟨z_56, hz_56⟩ : ∃ z : Int32, z = x_41 + 1 := ⟨_, rfl⟩
              refine lv_iinc (v := z_56) (lv' := [(3, .int z_56), (2, .int z_55), (0, .ref q), (1, .int a)]) hx hb dX11_when_62 hl (k := 3) rfl hz_56.symm (by decide) rfl (fun ls hl => ?_)
              have hz_56 := o_add hz_56 (rfl : x_41.toInt = x_41.toInt) (by decide : (1 : Int32).toInt = 1) (by omega) (by omega)
              refine lv_goto (tgt := 27) hx hb dX11_when_65 (by decide) ?_
              exact ih_47 z_55 z_56 H locs ls (by omega) (by omega) (by omega) (by omega) hP hD hS (lv_sub hl [2, 3, 1, 0] rfl)
        exact lp_27_41 (((-1) * z_39.toInt + 99 : Int).toNat + 1) z_39 (1 : Int32) H locs ls (by have e0 : (1 : Int32).toInt = 1 := (by decide); omega) (by have e0 : (1 : Int32).toInt = 1 := (by decide); omega) (by have e0 : (1 : Int32).toInt = 1 := (by decide); omega) (by have e0 : (1 : Int32).toInt = 1 := (by decide); omega) hP hD hS (lv_sub hl [2, 3, 1, 0] rfl)
  · have hc_7 := o_eq (rfl : r_2.toInt = r_2.toInt) (by decide : (0 : Int32).toInt = 0) c_7
    clear hp_5
    refine lv_iconst (v := (-1)) hx hb dX11_when_13 (by decide) ?_
    refine o_wq hQ ?_
    exact q_iret (rm := (Rm 2 43 0 0)) C hS 0 rfl trivial (q_subP hP [0, 1] rfl) (hD.sub [0, 1] (by decide) rfl) hroom.1 hroom.2 dX11_when_14
theorem y_when (l : Launch) (D : va_G) (cy : Nat → ClassId) (q : Nat) (a : Int32) (q_thrown : Int32) (q_tape_ : Nat) (q_length : Int32) (q_size : Int32) (q_p : Int32) (q_limit : Int32) (q_s_ : Nat) (q_h_ : Nat) (q_read_ : Nat) (q_names_ : Nat) (q_reserved_ : Nat) (q_token : Int32) (q_at : Int32) (q_span : Int32) (q_number : Int32) (q_fault : Int32) (q_faultAt : Int32) (q_word : Int64) (q_got : Int32) (q_lines : Int32) (q_onces : Int32) (q_webs : Int32) (q_one : Int32) (q_two : Int32) (q_seed : Int32) (q_undone_ : Nat) (q_before_ : Nat) (q_undoMany : Int32) (q_far_ : Nat) (q_wayRow_ : Nat) (q_wayMany : Int32) (q_keptRow_ : Nat) (q_askedRow_ : Nat) (q_rares_ : Nat) (q_trial_ : Nat) (q_keptMany : Int32) (q_askedMany : Int32) (q_hangs_ : Nat) (q_paths_ : Nat) (q_tornSteps : Int32) (q_hasTorn : Int32) (q_turnOne : Int32) (q_hasTurn : Int32) (q_text_ : Nat) (q_textMany : Int32) (q_toldMany : Int32) (q_toldAt_ : Nat) (q_hasTold : Int32) (q_stack_ : Nat) (q_codes : Int32) (q_ones : Int32) (q_top : Int32) (q_deep : Int32) (q_isWhole : Int32) (q_truths_ : Nat) (q_imaged_ : Nat) (q_namesKept_ : Nat) (q_areKept_ : Nat) (q_s : Nat → Int32) (sz : Nat) (hb0 : 0 ≤ q_length.toInt ∧ q_length.toInt ≤ 940) (hb1 : 0 ≤ q_size.toInt ∧ q_size.toInt ≤ 940) (hb2 : 0 ≤ q_p.toInt ∧ q_p.toInt ≤ 940) (hb3 : 0 ≤ q_limit.toInt ∧ q_limit.toInt ≤ 940) (hb4 : 0 ≤ q_span.toInt ∧ q_span.toInt ≤ 940) (hb5 : 0 ≤ q_number.toInt ∧ q_number.toInt ≤ 8214) (hb6 : (-1) ≤ q_got.toInt ∧ q_got.toInt ≤ 8214) (hb7 : 0 ≤ q_one.toInt ∧ q_one.toInt ≤ 7) (hb8 : 0 ≤ q_two.toInt ∧ q_two.toInt ≤ 7) (hb9 : 0 ≤ q_undoMany.toInt ∧ q_undoMany.toInt ≤ 8) (hb10 : (-1) ≤ q_wayMany.toInt ∧ q_wayMany.toInt ≤ 8) (hb11 : (-1) ≤ q_keptMany.toInt ∧ q_keptMany.toInt ≤ 8) (hb12 : (-1) ≤ q_askedMany.toInt ∧ q_askedMany.toInt ≤ 3) (hb13 : 0 ≤ q_hasTorn.toInt ∧ q_hasTorn.toInt ≤ 1) (hb14 : 0 ≤ q_hasTurn.toInt ∧ q_hasTurn.toInt ≤ 1) (hb15 : 0 ≤ q_textMany.toInt ∧ q_textMany.toInt ≤ 48) (hb16 : 0 ≤ q_toldMany.toInt ∧ q_toldMany.toInt ≤ 40) (hb17 : 0 ≤ q_hasTold.toInt ∧ q_hasTold.toInt ≤ 1) (hb18 : 0 ≤ q_codes.toInt ∧ q_codes.toInt ≤ 40) (hb19 : 0 ≤ q_ones.toInt ∧ q_ones.toInt ≤ 20) (hb20 : 0 ≤ q_top.toInt ∧ q_top.toInt ≤ 40) (hb21 : 0 ≤ q_isWhole.toInt ∧ q_isWhole.toInt ≤ 1) (hR0 : Rg q_s 0 1 0 8) (hR1 : Rg q_s 1 3 0 6) (hR2 : Rg q_s 3 4 1 50) (hR3 : Rg q_s 4 5 1 5) (hR4 : Rg q_s 103 104 0 255) (hR5 : Rg q_s 7 23 0 5) (hR6 : Rg q_s 106 122 0 5) (hR7 : Rg q_s 23 31 0 99) (hR8 : Rg q_s 122 130 0 99) : MI l yX11_when cX11_when 4 (some .int) (Rm 2 43 0 0) D cy [.ref q, .int a] sz [(q, oC11 q_thrown q_tape_ q_length q_size q_p q_limit q_s_ q_h_ q_read_ q_names_ q_reserved_ q_token q_at q_span q_number q_fault q_faultAt q_word q_got q_lines q_onces q_webs q_one q_two q_seed q_undone_ q_before_ q_undoMany q_far_ q_wayRow_ q_wayMany q_keptRow_ q_askedRow_ q_rares_ q_trial_ q_keptMany q_askedMany q_hangs_ q_paths_ q_tornSteps q_hasTorn q_turnOne q_hasTurn q_text_ q_textMany q_toldMany q_toldAt_ q_hasTold q_stack_ q_codes q_ones q_top q_deep q_isWhole q_truths_ q_imaged_ q_namesKept_ q_areKept_), (q_s_, aC1 cy 383 q_s)] (fun (r : Int32) (u : Int32) => True) (fun u : Int32 => [(q, oC11 u q_tape_ q_length q_size q_p q_limit q_s_ q_h_ q_read_ q_names_ q_reserved_ q_token q_at q_span q_number q_fault q_faultAt q_word q_got q_lines q_onces q_webs q_one q_two q_seed q_undone_ q_before_ q_undoMany q_far_ q_wayRow_ q_wayMany q_keptRow_ q_askedRow_ q_rares_ q_trial_ q_keptMany q_askedMany q_hangs_ q_paths_ q_tornSteps q_hasTorn q_turnOne q_hasTurn q_text_ q_textMany q_toldMany q_toldAt_ q_hasTold q_stack_ q_codes q_ones q_top q_deep q_isWhole q_truths_ q_imaged_ q_namesKept_ q_areKept_), (q_s_, aC1 cy 383 q_s)]) := by
  refine MI.enter (by decide) (Nat.le_of_ble_eq_true rfl) ?_
  intro p e s m below meth c ls A hsz hAe C hP hD hS hl
  exact b_y_when l D cy q a q_thrown q_tape_ q_length q_size q_p q_limit q_s_ q_h_ q_read_ q_names_ q_reserved_ q_token q_at q_span q_number q_fault q_faultAt q_word q_got q_lines q_onces q_webs q_one q_two q_seed q_undone_ q_before_ q_undoMany q_far_ q_wayRow_ q_wayMany q_keptRow_ q_askedRow_ q_rares_ q_trial_ q_keptMany q_askedMany q_hangs_ q_paths_ q_tornSteps q_hasTorn q_turnOne q_hasTurn q_text_ q_textMany q_toldMany q_toldAt_ q_hasTold q_stack_ q_codes q_ones q_top q_deep q_isWhole q_truths_ q_imaged_ q_namesKept_ q_areKept_ q_s hb0 hb1 hb2 hb3 hb4 hb5 hb6 hb7 hb8 hb9 hb10 hb11 hb12 hb13 hb14 hb15 hb16 hb17 hb18 hb19 hb20 hb21 hR0 hR1 hR2 hR3 hR4 hR5 hR6 hR7 hR8 ⟨Nat.le_of_ble_eq_true rfl, Nat.le_of_ble_eq_true rfl⟩ C rfl _ _ ls hP hD hS hl
