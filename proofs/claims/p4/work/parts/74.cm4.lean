theorem dX11_clearsThreads_0 : decode cX11_clearsThreads 0 = .ok (.iconst 0, 1) := by decide +kernel
theorem dX11_clearsThreads_1 : decode cX11_clearsThreads 1 = .ok (.istore_n 2, 1) := by decide +kernel
theorem dX11_clearsThreads_2 : decode cX11_clearsThreads 2 = .ok (.iload_n 2, 1) := by decide +kernel
theorem dX11_clearsThreads_3 : decode cX11_clearsThreads 3 = .ok (.bipush 8, 2) := by decide +kernel
theorem dX11_clearsThreads_5 : decode cX11_clearsThreads 5 = .ok (.if_icmp .ge 41, 3) := by decide +kernel
theorem dX11_clearsThreads_46 : decode cX11_clearsThreads 46 = .ok (.return_, 1) := by decide +kernel
theorem dX11_clearsThreads_8 : decode cX11_clearsThreads 8 = .ok (.aload_n 0, 1) := by decide +kernel
theorem dX11_clearsThreads_9 : decode cX11_clearsThreads 9 = .ok (.getfield 33, 3) := by decide +kernel
theorem dX11_clearsThreads_12 : decode cX11_clearsThreads 12 = .ok (.sipush 138, 3) := by decide +kernel
theorem dX11_clearsThreads_15 : decode cX11_clearsThreads 15 = .ok (.bipush 8, 2) := by decide +kernel
theorem dX11_clearsThreads_17 : decode cX11_clearsThreads 17 = .ok (.iload_n 1, 1) := by decide +kernel
theorem dX11_clearsThreads_18 : decode cX11_clearsThreads 18 = .ok (.imul, 1) := by decide +kernel
theorem dX11_clearsThreads_19 : decode cX11_clearsThreads 19 = .ok (.iadd, 1) := by decide +kernel
theorem dX11_clearsThreads_20 : decode cX11_clearsThreads 20 = .ok (.iload_n 2, 1) := by decide +kernel
theorem dX11_clearsThreads_21 : decode cX11_clearsThreads 21 = .ok (.iadd, 1) := by decide +kernel
theorem dX11_clearsThreads_22 : decode cX11_clearsThreads 22 = .ok (.iconst 0, 1) := by decide +kernel
theorem dX11_clearsThreads_23 : decode cX11_clearsThreads 23 = .ok (.iastore, 1) := by decide +kernel
theorem dX11_clearsThreads_24 : decode cX11_clearsThreads 24 = .ok (.aload_n 0, 1) := by decide +kernel
theorem dX11_clearsThreads_25 : decode cX11_clearsThreads 25 = .ok (.getfield 33, 3) := by decide +kernel
theorem dX11_clearsThreads_28 : decode cX11_clearsThreads 28 = .ok (.sipush 138, 3) := by decide +kernel
theorem dX11_clearsThreads_31 : decode cX11_clearsThreads 31 = .ok (.bipush 8, 2) := by decide +kernel
theorem dX11_clearsThreads_33 : decode cX11_clearsThreads 33 = .ok (.iload_n 2, 1) := by decide +kernel
theorem dX11_clearsThreads_34 : decode cX11_clearsThreads 34 = .ok (.imul, 1) := by decide +kernel
theorem dX11_clearsThreads_35 : decode cX11_clearsThreads 35 = .ok (.iadd, 1) := by decide +kernel
theorem dX11_clearsThreads_36 : decode cX11_clearsThreads 36 = .ok (.iload_n 1, 1) := by decide +kernel
theorem dX11_clearsThreads_37 : decode cX11_clearsThreads 37 = .ok (.iadd, 1) := by decide +kernel
theorem dX11_clearsThreads_38 : decode cX11_clearsThreads 38 = .ok (.iconst 0, 1) := by decide +kernel
theorem dX11_clearsThreads_39 : decode cX11_clearsThreads 39 = .ok (.iastore, 1) := by decide +kernel
theorem dX11_clearsThreads_40 : decode cX11_clearsThreads 40 = .ok (.iinc 2 1, 3) := by decide +kernel
theorem dX11_clearsThreads_43 : decode cX11_clearsThreads 43 = .ok (.goto (-41), 3) := by decide +kernel
theorem dX11_asks_0 : decode cX11_asks 0 = .ok (.aload_n 0, 1) := by decide +kernel
theorem dX11_asks_1 : decode cX11_asks 1 = .ok (.getfield 33, 3) := by decide +kernel
theorem dX11_asks_4 : decode cX11_asks 4 = .ok (.bipush 122, 2) := by decide +kernel
theorem dX11_asks_6 : decode cX11_asks 6 = .ok (.iload_n 1, 1) := by decide +kernel
theorem dX11_asks_7 : decode cX11_asks 7 = .ok (.iadd, 1) := by decide +kernel
theorem dX11_asks_8 : decode cX11_asks 8 = .ok (.iconst 0, 1) := by decide +kernel
theorem dX11_asks_9 : decode cX11_asks 9 = .ok (.iastore, 1) := by decide +kernel
theorem dX11_asks_10 : decode cX11_asks 10 = .ok (.aload_n 0, 1) := by decide +kernel
theorem dX11_asks_11 : decode cX11_asks 11 = .ok (.iload_n 1, 1) := by decide +kernel
theorem dX11_asks_12 : decode cX11_asks 12 = .ok (.invokevirtual 331, 3) := by decide +kernel
theorem kwV_X11_clearsThreads : MwV RX11 yX11_clearsThreads cX11_clearsThreads 3 none 1 := ⟨List.mem_filter.mpr ⟨List.mem_of_getElem? (i := 1874) (by decide +kernel), by decide +kernel⟩, List.mem_filter.mpr ⟨List.mem_of_getElem? (i := 1873) (by decide +kernel), by decide +kernel⟩, List.mem_filter.mpr ⟨List.mem_of_getElem? (i := 90) (by decide +kernel), by decide +kernel⟩, List.mem_filter.mpr ⟨List.mem_of_getElem? (i := 139) (by decide +kernel), by decide +kernel⟩, by decide +kernel⟩
theorem kM_RX11_331 : Cond.methodLink RX11 331 yX11_clearsThreads ∈ gT := List.mem_filter.mpr ⟨List.mem_of_getElem? (i := 1871) (by decide +kernel), by decide +kernel⟩
theorem dX11_asks_15 : decode cX11_asks 15 = .ok (.aload_n 0, 1) := by decide +kernel
theorem dX11_asks_16 : decode cX11_asks 16 = .ok (.getfield 33, 3) := by decide +kernel
theorem dX11_asks_19 : decode cX11_asks 19 = .ok (.bipush 105, 2) := by decide +kernel
theorem dX11_asks_21 : decode cX11_asks 21 = .ok (.dup2, 1) := by decide +kernel
theorem dX11_asks_22 : decode cX11_asks 22 = .ok (.iaload, 1) := by decide +kernel
theorem dX11_asks_23 : decode cX11_asks 23 = .ok (.iconst 1, 1) := by decide +kernel
theorem dX11_asks_24 : decode cX11_asks 24 = .ok (.iload_n 1, 1) := by decide +kernel
theorem dX11_asks_25 : decode cX11_asks 25 = .ok (.ishl, 1) := by decide +kernel
theorem dX11_asks_26 : decode cX11_asks 26 = .ok (.ior, 1) := by decide +kernel
theorem dX11_asks_27 : decode cX11_asks 27 = .ok (.iastore, 1) := by decide +kernel
theorem dX11_asks_28 : decode cX11_asks 28 = .ok (.aload_n 0, 1) := by decide +kernel
theorem dX11_asks_29 : decode cX11_asks 29 = .ok (.getfield 33, 3) := by decide +kernel
theorem dX11_asks_32 : decode cX11_asks 32 = .ok (.sipush 130, 3) := by decide +kernel
theorem dX11_asks_35 : decode cX11_asks 35 = .ok (.iload_n 1, 1) := by decide +kernel
theorem dX11_asks_36 : decode cX11_asks 36 = .ok (.iadd, 1) := by decide +kernel
theorem dX11_asks_37 : decode cX11_asks 37 = .ok (.dup2, 1) := by decide +kernel
theorem dX11_asks_38 : decode cX11_asks 38 = .ok (.iaload, 1) := by decide +kernel
theorem dX11_asks_39 : decode cX11_asks 39 = .ok (.iconst 1, 1) := by decide +kernel
theorem dX11_asks_40 : decode cX11_asks 40 = .ok (.iadd, 1) := by decide +kernel
theorem dX11_asks_41 : decode cX11_asks 41 = .ok (.iastore, 1) := by decide +kernel
theorem dX11_asks_42 : decode cX11_asks 42 = .ok (.return_, 1) := by decide +kernel
theorem dX11_isDusty_0 : decode cX11_isDusty 0 = .ok (.iconst 0, 1) := by decide +kernel
theorem dX11_isDusty_1 : decode cX11_isDusty 1 = .ok (.istore_n 2, 1) := by decide +kernel
theorem dX11_isDusty_2 : decode cX11_isDusty 2 = .ok (.iconst 0, 1) := by decide +kernel
theorem dX11_isDusty_3 : decode cX11_isDusty 3 = .ok (.istore_n 3, 1) := by decide +kernel
theorem dX11_isDusty_4 : decode cX11_isDusty 4 = .ok (.iload_n 3, 1) := by decide +kernel
theorem dX11_isDusty_5 : decode cX11_isDusty 5 = .ok (.aload_n 0, 1) := by decide +kernel
theorem dX11_isDusty_6 : decode cX11_isDusty 6 = .ok (.getfield 33, 3) := by decide +kernel
theorem dX11_isDusty_9 : decode cX11_isDusty 9 = .ok (.iconst 0, 1) := by decide +kernel
theorem dX11_isDusty_10 : decode cX11_isDusty 10 = .ok (.iaload, 1) := by decide +kernel
theorem dX11_isDusty_11 : decode cX11_isDusty 11 = .ok (.if_icmp .ge 87, 3) := by decide +kernel
theorem dX11_isDusty_98 : decode cX11_isDusty 98 = .ok (.iload_n 2, 1) := by decide +kernel
theorem dX11_isDusty_99 : decode cX11_isDusty 99 = .ok (.ireturn, 1) := by decide +kernel
theorem dX11_isDusty_14 : decode cX11_isDusty 14 = .ok (.aload_n 0, 1) := by decide +kernel
theorem dX11_isDusty_15 : decode cX11_isDusty 15 = .ok (.getfield 33, 3) := by decide +kernel
theorem dX11_isDusty_18 : decode cX11_isDusty 18 = .ok (.bipush 114, 2) := by decide +kernel
theorem dX11_isDusty_20 : decode cX11_isDusty 20 = .ok (.iload_n 3, 1) := by decide +kernel
theorem dX11_isDusty_21 : decode cX11_isDusty 21 = .ok (.iadd, 1) := by decide +kernel
theorem dX11_isDusty_22 : decode cX11_isDusty 22 = .ok (.iaload, 1) := by decide +kernel
theorem dX11_isDusty_23 : decode cX11_isDusty 23 = .ok (.iload_n 1, 1) := by decide +kernel
theorem dX11_isDusty_24 : decode cX11_isDusty 24 = .ok (.if_icmp .eq 6, 3) := by decide +kernel
theorem dX11_isDusty_30 : decode cX11_isDusty 30 = .ok (.iload_n 2, 1) := by decide +kernel
theorem dX11_isDusty_31 : decode cX11_isDusty 31 = .ok (.ifCond .ne 15, 3) := by decide +kernel
theorem dX11_isDusty_46 : decode cX11_isDusty 46 = .ok (.iconst 1, 1) := by decide +kernel
theorem dX11_isDusty_47 : decode cX11_isDusty 47 = .ok (.goto 4, 3) := by decide +kernel
theorem dX11_isDusty_51 : decode cX11_isDusty 51 = .ok (.istore_n 2, 1) := by decide +kernel
theorem dX11_isDusty_52 : decode cX11_isDusty 52 = .ok (.iconst 0, 1) := by decide +kernel
theorem dX11_isDusty_53 : decode cX11_isDusty 53 = .ok (.istore 4, 2) := by decide +kernel
theorem dX11_isDusty_55 : decode cX11_isDusty 55 = .ok (.iload 4, 2) := by decide +kernel
theorem dX11_isDusty_57 : decode cX11_isDusty 57 = .ok (.aload_n 0, 1) := by decide +kernel
theorem dX11_isDusty_58 : decode cX11_isDusty 58 = .ok (.getfield 33, 3) := by decide +kernel
theorem dX11_isDusty_61 : decode cX11_isDusty 61 = .ok (.iconst 0, 1) := by decide +kernel
theorem dX11_isDusty_62 : decode cX11_isDusty 62 = .ok (.iaload, 1) := by decide +kernel
theorem dX11_isDusty_63 : decode cX11_isDusty 63 = .ok (.if_icmp .ge 29, 3) := by decide +kernel
theorem dX11_isDusty_92 : decode cX11_isDusty 92 = .ok (.iinc 3 1, 3) := by decide +kernel
theorem dX11_isDusty_95 : decode cX11_isDusty 95 = .ok (.goto (-91), 3) := by decide +kernel
theorem dX11_isDusty_66 : decode cX11_isDusty 66 = .ok (.iload_n 2, 1) := by decide +kernel
theorem dX11_isDusty_67 : decode cX11_isDusty 67 = .ok (.ifCond .ne 13, 3) := by decide +kernel
theorem dX11_isDusty_80 : decode cX11_isDusty 80 = .ok (.iconst 1, 1) := by decide +kernel
theorem dX11_isDusty_81 : decode cX11_isDusty 81 = .ok (.goto 4, 3) := by decide +kernel
theorem dX11_isDusty_85 : decode cX11_isDusty 85 = .ok (.istore_n 2, 1) := by decide +kernel
theorem dX11_isDusty_86 : decode cX11_isDusty 86 = .ok (.iinc 4 1, 3) := by decide +kernel
theorem dX11_isDusty_89 : decode cX11_isDusty 89 = .ok (.goto (-34), 3) := by decide +kernel
theorem dX11_isDusty_70 : decode cX11_isDusty 70 = .ok (.aload_n 0, 1) := by decide +kernel
theorem dX11_isDusty_71 : decode cX11_isDusty 71 = .ok (.iload_n 3, 1) := by decide +kernel
theorem dX11_isDusty_72 : decode cX11_isDusty 72 = .ok (.iload 4, 2) := by decide +kernel
theorem dX11_isDusty_74 : decode cX11_isDusty 74 = .ok (.invokevirtual 291, 3) := by decide +kernel
theorem dX11_isDusty_77 : decode cX11_isDusty 77 = .ok (.ifCond .le 7, 3) := by decide +kernel
theorem dX11_isDusty_84 : decode cX11_isDusty 84 = .ok (.iconst 0, 1) := by decide +kernel
theorem dX11_isDusty_34 : decode cX11_isDusty 34 = .ok (.aload_n 0, 1) := by decide +kernel
theorem dX11_isDusty_35 : decode cX11_isDusty 35 = .ok (.getfield 33, 3) := by decide +kernel
theorem dX11_isDusty_38 : decode cX11_isDusty 38 = .ok (.bipush 122, 2) := by decide +kernel
theorem dX11_isDusty_40 : decode cX11_isDusty 40 = .ok (.iload_n 3, 1) := by decide +kernel
theorem dX11_isDusty_41 : decode cX11_isDusty 41 = .ok (.iadd, 1) := by decide +kernel
theorem dX11_isDusty_42 : decode cX11_isDusty 42 = .ok (.iaload, 1) := by decide +kernel
theorem dX11_isDusty_43 : decode cX11_isDusty 43 = .ok (.ifCond .le 7, 3) := by decide +kernel
theorem dX11_isDusty_50 : decode cX11_isDusty 50 = .ok (.iconst 0, 1) := by decide +kernel
theorem dX11_isDusty_27 : decode cX11_isDusty 27 = .ok (.goto 65, 3) := by decide +kernel
theorem dX11_sweeps_0 : decode cX11_sweeps 0 = .ok (.iconst 0, 1) := by decide +kernel
theorem dX11_sweeps_1 : decode cX11_sweeps 1 = .ok (.istore_n 2, 1) := by decide +kernel
theorem dX11_sweeps_2 : decode cX11_sweeps 2 = .ok (.iload_n 2, 1) := by decide +kernel
theorem dX11_sweeps_3 : decode cX11_sweeps 3 = .ok (.aload_n 0, 1) := by decide +kernel
theorem dX11_sweeps_4 : decode cX11_sweeps 4 = .ok (.getfield 33, 3) := by decide +kernel
theorem dX11_sweeps_7 : decode cX11_sweeps 7 = .ok (.iconst 0, 1) := by decide +kernel
theorem dX11_sweeps_8 : decode cX11_sweeps 8 = .ok (.iaload, 1) := by decide +kernel
theorem dX11_sweeps_9 : decode cX11_sweeps 9 = .ok (.if_icmp .ge 40, 3) := by decide +kernel
theorem dX11_sweeps_49 : decode cX11_sweeps 49 = .ok (.return_, 1) := by decide +kernel
theorem dX11_sweeps_12 : decode cX11_sweeps 12 = .ok (.aload_n 0, 1) := by decide +kernel
theorem dX11_sweeps_13 : decode cX11_sweeps 13 = .ok (.getfield 33, 3) := by decide +kernel
theorem dX11_sweeps_16 : decode cX11_sweeps 16 = .ok (.bipush 114, 2) := by decide +kernel
theorem dX11_sweeps_18 : decode cX11_sweeps 18 = .ok (.iload_n 2, 1) := by decide +kernel
theorem dX11_sweeps_19 : decode cX11_sweeps 19 = .ok (.iadd, 1) := by decide +kernel
theorem dX11_sweeps_20 : decode cX11_sweeps 20 = .ok (.iaload, 1) := by decide +kernel
theorem dX11_sweeps_21 : decode cX11_sweeps 21 = .ok (.iload_n 1, 1) := by decide +kernel
theorem dX11_sweeps_22 : decode cX11_sweeps 22 = .ok (.if_icmp .eq 6, 3) := by decide +kernel
theorem dX11_sweeps_28 : decode cX11_sweeps 28 = .ok (.aload_n 0, 1) := by decide +kernel
theorem dX11_sweeps_29 : decode cX11_sweeps 29 = .ok (.getfield 33, 3) := by decide +kernel
theorem dX11_sweeps_32 : decode cX11_sweeps 32 = .ok (.bipush 122, 2) := by decide +kernel
theorem dX11_sweeps_34 : decode cX11_sweeps 34 = .ok (.iload_n 2, 1) := by decide +kernel
theorem dX11_sweeps_35 : decode cX11_sweeps 35 = .ok (.iadd, 1) := by decide +kernel
theorem dX11_sweeps_36 : decode cX11_sweeps 36 = .ok (.iconst 0, 1) := by decide +kernel
theorem dX11_sweeps_37 : decode cX11_sweeps 37 = .ok (.iastore, 1) := by decide +kernel
theorem dX11_sweeps_38 : decode cX11_sweeps 38 = .ok (.aload_n 0, 1) := by decide +kernel
theorem dX11_sweeps_39 : decode cX11_sweeps 39 = .ok (.iload_n 2, 1) := by decide +kernel
theorem dX11_sweeps_40 : decode cX11_sweeps 40 = .ok (.invokevirtual 331, 3) := by decide +kernel
theorem dX11_sweeps_43 : decode cX11_sweeps 43 = .ok (.iinc 2 1, 3) := by decide +kernel
theorem dX11_sweeps_46 : decode cX11_sweeps 46 = .ok (.goto (-44), 3) := by decide +kernel
theorem dX11_sweeps_25 : decode cX11_sweeps 25 = .ok (.goto 18, 3) := by decide +kernel
theorem dX11_moves_0 : decode cX11_moves 0 = .ok (.aload_n 0, 1) := by decide +kernel
theorem dX11_moves_1 : decode cX11_moves 1 = .ok (.getfield 33, 3) := by decide +kernel
theorem dX11_moves_4 : decode cX11_moves 4 = .ok (.bipush 106, 2) := by decide +kernel
theorem dX11_moves_6 : decode cX11_moves 6 = .ok (.iload_n 1, 1) := by decide +kernel
theorem dX11_moves_7 : decode cX11_moves 7 = .ok (.iadd, 1) := by decide +kernel
theorem dX11_moves_8 : decode cX11_moves 8 = .ok (.iload_n 2, 1) := by decide +kernel
theorem dX11_moves_9 : decode cX11_moves 9 = .ok (.iastore, 1) := by decide +kernel
theorem dX11_moves_10 : decode cX11_moves 10 = .ok (.aload_n 0, 1) := by decide +kernel
theorem dX11_moves_11 : decode cX11_moves 11 = .ok (.getfield 33, 3) := by decide +kernel
theorem dX11_moves_14 : decode cX11_moves 14 = .ok (.bipush 114, 2) := by decide +kernel
theorem dX11_moves_16 : decode cX11_moves 16 = .ok (.iload_n 1, 1) := by decide +kernel
theorem dX11_moves_17 : decode cX11_moves 17 = .ok (.iadd, 1) := by decide +kernel
theorem dX11_moves_18 : decode cX11_moves 18 = .ok (.iload_n 3, 1) := by decide +kernel
theorem dX11_moves_19 : decode cX11_moves 19 = .ok (.iastore, 1) := by decide +kernel
theorem dX11_moves_20 : decode cX11_moves 20 = .ok (.aload_n 0, 1) := by decide +kernel
theorem dX11_moves_21 : decode cX11_moves 21 = .ok (.iload_n 1, 1) := by decide +kernel
theorem dX11_moves_22 : decode cX11_moves 22 = .ok (.invokevirtual 331, 3) := by decide +kernel
theorem dX11_moves_25 : decode cX11_moves 25 = .ok (.return_, 1) := by decide +kernel
theorem dX11_draw_0 : decode cX11_draw 0 = .ok (.aload_n 0, 1) := by decide +kernel
theorem dX11_draw_1 : decode cX11_draw 1 = .ok (.aload_n 0, 1) := by decide +kernel
theorem dX11_draw_2 : decode cX11_draw 2 = .ok (.getfield 334, 3) := by decide +kernel
theorem kF_RX11_334 : Cond.fieldLink RX11 334 "CobwebLibraryModel" "seed" "I" ∈ gT := List.mem_filter.mpr ⟨List.mem_of_getElem? (i := 1529) (by decide +kernel), by decide +kernel⟩
theorem dX11_draw_5 : decode cX11_draw 5 = .ok (.ldc_w 337, 3) := by decide +kernel
theorem kC_RX11_337 : Cond.constant RX11 337 (1103515245 : Int32) ∈ gT := List.mem_filter.mpr ⟨List.mem_of_getElem? (i := 1911) (by decide +kernel), by decide +kernel⟩
theorem dX11_draw_8 : decode cX11_draw 8 = .ok (.imul, 1) := by decide +kernel
theorem dX11_draw_9 : decode cX11_draw 9 = .ok (.sipush 12345, 3) := by decide +kernel
theorem dX11_draw_12 : decode cX11_draw 12 = .ok (.iadd, 1) := by decide +kernel
theorem dX11_draw_13 : decode cX11_draw 13 = .ok (.putfield 334, 3) := by decide +kernel
theorem dX11_draw_16 : decode cX11_draw 16 = .ok (.aload_n 0, 1) := by decide +kernel
theorem dX11_draw_17 : decode cX11_draw 17 = .ok (.getfield 334, 3) := by decide +kernel
theorem dX11_draw_20 : decode cX11_draw 20 = .ok (.bipush 8, 2) := by decide +kernel
theorem dX11_draw_22 : decode cX11_draw 22 = .ok (.iushr, 1) := by decide +kernel
theorem dX11_draw_23 : decode cX11_draw 23 = .ok (.iload_n 1, 1) := by decide +kernel
theorem dX11_draw_24 : decode cX11_draw 24 = .ok (.irem, 1) := by decide +kernel
theorem dX11_draw_25 : decode cX11_draw 25 = .ok (.ireturn, 1) := by decide +kernel
set_option maxHeartbeats 4000000 in
set_option maxRecDepth 100000 in
theorem b_y_clearsThreads (l : Launch) (D : va_G) (cy : Nat → ClassId) (q : Nat) (a : Int32) (q_thrown : Int32) (q_tape_ : Nat) (q_length : Int32) (q_size : Int32) (q_p : Int32) (q_limit : Int32) (q_s_ : Nat) (q_h_ : Nat) (q_read_ : Nat) (q_names_ : Nat) (q_reserved_ : Nat) (q_token : Int32) (q_at : Int32) (q_span : Int32) (q_number : Int32) (q_fault : Int32) (q_faultAt : Int32) (q_word : Int64) (q_got : Int32) (q_lines : Int32) (q_onces : Int32) (q_webs : Int32) (q_one : Int32) (q_two : Int32) (q_seed : Int32) (q_undone_ : Nat) (q_before_ : Nat) (q_undoMany : Int32) (q_far_ : Nat) (q_wayRow_ : Nat) (q_wayMany : Int32) (q_keptRow_ : Nat) (q_askedRow_ : Nat) (q_rares_ : Nat) (q_trial_ : Nat) (q_keptMany : Int32) (q_askedMany : Int32) (q_hangs_ : Nat) (q_paths_ : Nat) (q_tornSteps : Int32) (q_hasTorn : Int32) (q_turnOne : Int32) (q_hasTurn : Int32) (q_text_ : Nat) (q_textMany : Int32) (q_toldMany : Int32) (q_toldAt_ : Nat) (q_hasTold : Int32) (q_stack_ : Nat) (q_codes : Int32) (q_ones : Int32) (q_top : Int32) (q_deep : Int32) (q_isWhole : Int32) (q_truths_ : Nat) (q_imaged_ : Nat) (q_namesKept_ : Nat) (q_areKept_ : Nat) (q_s : Nat → Int32) (gs : Nat → Int32) (hb0 : 0 ≤ q_length.toInt ∧ q_length.toInt ≤ 940) (hb1 : 0 ≤ q_size.toInt ∧ q_size.toInt ≤ 940) (hb2 : 0 ≤ q_p.toInt ∧ q_p.toInt ≤ 940) (hb3 : 0 ≤ q_limit.toInt ∧ q_limit.toInt ≤ 940) (hb4 : 0 ≤ q_span.toInt ∧ q_span.toInt ≤ 940) (hb5 : 0 ≤ q_number.toInt ∧ q_number.toInt ≤ 8214) (hb6 : (-1) ≤ q_got.toInt ∧ q_got.toInt ≤ 8214) (hb7 : 0 ≤ q_one.toInt ∧ q_one.toInt ≤ 7) (hb8 : 0 ≤ q_two.toInt ∧ q_two.toInt ≤ 7) (hb9 : 0 ≤ q_undoMany.toInt ∧ q_undoMany.toInt ≤ 8) (hb10 : (-1) ≤ q_wayMany.toInt ∧ q_wayMany.toInt ≤ 8) (hb11 : (-1) ≤ q_keptMany.toInt ∧ q_keptMany.toInt ≤ 8) (hb12 : (-1) ≤ q_askedMany.toInt ∧ q_askedMany.toInt ≤ 3) (hb13 : 0 ≤ q_hasTorn.toInt ∧ q_hasTorn.toInt ≤ 1) (hb14 : 0 ≤ q_hasTurn.toInt ∧ q_hasTurn.toInt ≤ 1) (hb15 : 0 ≤ q_textMany.toInt ∧ q_textMany.toInt ≤ 48) (hb16 : 0 ≤ q_toldMany.toInt ∧ q_toldMany.toInt ≤ 40) (hb17 : 0 ≤ q_hasTold.toInt ∧ q_hasTold.toInt ≤ 1) (hb18 : 0 ≤ q_codes.toInt ∧ q_codes.toInt ≤ 40) (hb19 : 0 ≤ q_ones.toInt ∧ q_ones.toInt ≤ 20) (hb20 : 0 ≤ q_top.toInt ∧ q_top.toInt ≤ 40) (hb21 : 0 ≤ q_isWhole.toInt ∧ q_isWhole.toInt ≤ 1) (hb22 : 0 ≤ a.toInt ∧ a.toInt ≤ 7) (hR0 : Rg q_s 0 1 0 8) (hR1 : Rg q_s 1 3 0 6) (hR2 : Rg q_s 3 4 1 50) (hR3 : Rg q_s 4 5 1 5) (hR4 : Rg q_s 103 104 0 255) (hR5 : Rg q_s 7 23 0 5) (hR6 : Rg q_s 106 122 0 5) (hR7 : Rg q_s 23 31 0 99) (hR8 : Rg q_s 122 130 0 99) (hR9 : Sv q_s) (hR10 : F7 q_s gs) {p : Program} {e : Env} {s : State} {m : MethodId} {args : Array Value} {below : List Frame} {meth : Method} {c : Code} {A : Nat → Prop} {Q : State → Prop} {cells slots : Nat} (hroom : cells ≤ ((Rm 0 0 0 0)).cells ∧ slots ≤ ((Rm 0 0 0 0)).slots) (C : Cx p s m args meth c cX11_clearsThreads 3 none RX11 "clearsThreads" D cy A) (hQ : Q = MQ below (va_Qv (fun u : (Nat → Int32) => (Rg u 0 1 0 8) ∧ (Rg u 1 3 0 6) ∧ (Rg u 3 4 1 50) ∧ (Rg u 4 5 1 5) ∧ (Rg u 103 104 0 255) ∧ (Rg u 7 23 0 5) ∧ (Rg u 106 122 0 5) ∧ (Rg u 23 31 0 99) ∧ (Rg u 122 130 0 99) ∧ (Sv u) ∧ (F7 u gs)) (Bx D A (fun u : (Nat → Int32) => [(q, oC11 q_thrown q_tape_ q_length q_size q_p q_limit q_s_ q_h_ q_read_ q_names_ q_reserved_ q_token q_at q_span q_number q_fault q_faultAt q_word q_got q_lines q_onces q_webs q_one q_two q_seed q_undone_ q_before_ q_undoMany q_far_ q_wayRow_ q_wayMany q_keptRow_ q_askedRow_ q_rares_ q_trial_ q_keptMany q_askedMany q_hangs_ q_paths_ q_tornSteps q_hasTorn q_turnOne q_hasTurn q_text_ q_textMany q_toldMany q_toldAt_ q_hasTold q_stack_ q_codes q_ones q_top q_deep q_isWhole q_truths_ q_imaged_ q_namesKept_ q_areKept_), (q_s_, aC1 cy 383 u)])) A) args s ((Rm 0 0 0 0)).cells ((Rm 0 0 0 0)).slots A) (H : Heap) (locs : List Loc) (ls : Array Slot) (hP : va_P D vwCl [(q, oC11 q_thrown q_tape_ q_length q_size q_p q_limit q_s_ q_h_ q_read_ q_names_ q_reserved_ q_token q_at q_span q_number q_fault q_faultAt q_word q_got q_lines q_onces q_webs q_one q_two q_seed q_undone_ q_before_ q_undoMany q_far_ q_wayRow_ q_wayMany q_keptRow_ q_askedRow_ q_rares_ q_trial_ q_keptMany q_askedMany q_hangs_ q_paths_ q_tornSteps q_hasTorn q_turnOne q_hasTurn q_text_ q_textMany q_toldMany q_toldAt_ q_hasTold q_stack_ q_codes q_ones q_top q_deep q_isWhole q_truths_ q_imaged_ q_namesKept_ q_areKept_), (q_s_, aC1 cy 383 q_s)] H) (hD : va_D A [(q, oC11 q_thrown q_tape_ q_length q_size q_p q_limit q_s_ q_h_ q_read_ q_names_ q_reserved_ q_token q_at q_span q_number q_fault q_faultAt q_word q_got q_lines q_onces q_webs q_one q_two q_seed q_undone_ q_before_ q_undoMany q_far_ q_wayRow_ q_wayMany q_keptRow_ q_askedRow_ q_rares_ q_trial_ q_keptMany q_askedMany q_hangs_ q_paths_ q_tornSteps q_hasTorn q_turnOne q_hasTurn q_text_ q_textMany q_toldMany q_toldAt_ q_hasTold q_stack_ q_codes q_ones q_top q_deep q_isWhole q_truths_ q_imaged_ q_namesKept_ q_areKept_), (q_s_, aC1 cy 383 q_s)]) (hS : va_S A s.heap H locs) (hl : lv_has ls 3 [(0, .ref q), (1, .int a)]) : W p l e (Rm 0 0 0 0) s m args below meth c H locs cells slots Q (F0 m 0 ls []) := by
  have hx := C.1
  have hb := C.2.1
  refine lv_iconst (v := 0) hx hb dX11_clearsThreads_0 (by decide) ?_
  refine lv_istore_n (lv' := [(2, .int 0), (0, .ref q), (1, .int a)]) hx hb dX11_clearsThreads_1 rfl hl (by decide) rfl (fun ls hl => ?_)
  have lp_2_2 : ∀ (n_3 : Nat) (x_1 : Int32) (g_2 : Nat → Int32) (H : Heap) (locs : List Loc) (ls : Array Slot), (-1) * x_1.toInt + 8 < (n_3 : Int) → (0 ≤ x_1.toInt ∧ x_1.toInt ≤ 8) → Rg g_2 0 1 0 8 → Rg g_2 1 3 0 6 → Rg g_2 3 4 1 50 → Rg g_2 4 5 1 5 → Rg g_2 103 104 0 255 → Rg g_2 7 23 0 5 → Rg g_2 106 122 0 5 → Rg g_2 23 31 0 99 → Rg g_2 122 130 0 99 → Sv g_2 → F7 g_2 gs → va_P D vwCl [(q, oC11 q_thrown q_tape_ q_length q_size q_p q_limit q_s_ q_h_ q_read_ q_names_ q_reserved_ q_token q_at q_span q_number q_fault q_faultAt q_word q_got q_lines q_onces q_webs q_one q_two q_seed q_undone_ q_before_ q_undoMany q_far_ q_wayRow_ q_wayMany q_keptRow_ q_askedRow_ q_rares_ q_trial_ q_keptMany q_askedMany q_hangs_ q_paths_ q_tornSteps q_hasTorn q_turnOne q_hasTurn q_text_ q_textMany q_toldMany q_toldAt_ q_hasTold q_stack_ q_codes q_ones q_top q_deep q_isWhole q_truths_ q_imaged_ q_namesKept_ q_areKept_), (q_s_, aC1 cy 383 g_2)] H → va_D A [(q, oC11 q_thrown q_tape_ q_length q_size q_p q_limit q_s_ q_h_ q_read_ q_names_ q_reserved_ q_token q_at q_span q_number q_fault q_faultAt q_word q_got q_lines q_onces q_webs q_one q_two q_seed q_undone_ q_before_ q_undoMany q_far_ q_wayRow_ q_wayMany q_keptRow_ q_askedRow_ q_rares_ q_trial_ q_keptMany q_askedMany q_hangs_ q_paths_ q_tornSteps q_hasTorn q_turnOne q_hasTurn q_text_ q_textMany q_toldMany q_toldAt_ q_hasTold q_stack_ q_codes q_ones q_top q_deep q_isWhole q_truths_ q_imaged_ q_namesKept_ q_areKept_), (q_s_, aC1 cy 383 g_2)] → va_S A s.heap H locs → lv_has ls 3 [(0, .ref q), (1, .int a), (2, .int x_1)] → W p l e (Rm 0 0 0 0) s m args below meth c H locs cells slots Q (F0 m 2 ls []) := by
    intro n_3
    induction n_3 with
    | zero =>
      intro x_1 g_2 H locs ls hm_16 hf_4 hg_5 hg_6 hg_7 hg_8 hg_9 hg_10 hg_11 hg_12 hg_13 hg_14 hg_15 hP hD hS hl
      exact absurd hm_16 (by omega)
    | succ n_3 ih_17 =>
      intro x_1 g_2 H locs ls hm_16 hf_4 hg_5 hg_6 hg_7 hg_8 hg_9 hg_10 hg_11 hg_12 hg_13 hg_14 hg_15 hP hD hS hl
      refine lv_iload_n hx hb dX11_clearsThreads_2 rfl (lv_at hl 2 rfl) ?_
      refine lv_bipush (v := 8) hx hb dX11_clearsThreads_3 (by decide) ?_
      refine lv_icmp_ge (tgt := 46) hx hb dX11_clearsThreads_5 (by decide) (fun c_19 => ?_) (fun c_19 => ?_)
      · have hc_19 := o_le (by decide : (8 : Int32).toInt = 8) (rfl : x_1.toInt = x_1.toInt) c_19
        refine o_wq hQ ?_
        exact q_vret (rm := (Rm 0 0 0 0)) C hS g_2 ⟨hg_5, hg_6, hg_7, hg_8, hg_9, hg_10, hg_11, hg_12, hg_13, hg_14, hg_15⟩ (q_subP hP [0, 1] rfl) (hD.sub [0, 1] (by decide) rfl) hroom.1 hroom.2 dX11_clearsThreads_46
      · have hc_19 := o_nle (by decide : (8 : Int32).toInt = 8) (rfl : x_1.toInt = x_1.toInt) c_19
        refine lv_aload_n hx hb dX11_clearsThreads_8 rfl (lv_at hl 0 rfl) ?_
        refine q_get11 (v := .ref q_s_) C hP 0 6 rfl fT_6 (by decide) kF_RX11_33 rfl dX11_clearsThreads_9 ?_
        refine lv_sipush (v := 138) hx hb dX11_clearsThreads_12 (by decide) ?_
        refine lv_bipush (v := 8) hx hb dX11_clearsThreads_15 (by decide) ?_
        refine lv_iload_n hx hb dX11_clearsThreads_17 rfl (lv_at hl 1 rfl) ?_
        refine lv_imul hx hb dX11_clearsThreads_18 ?_
        refine lv_topi (fun z_20 hz_20 => ?_)
        have hz_20 := o_mul hz_20 (by decide : (8 : Int32).toInt = 8) (rfl : a.toInt = a.toInt) (by omega) (by omega)
        refine lv_iadd hx hb dX11_clearsThreads_19 ?_
        refine lv_topi (fun z_21 hz_21 => ?_)
        have hz_21 := o_add hz_21 (by decide : (138 : Int32).toInt = 138) (rfl : z_20.toInt = z_20.toInt) (by omega) (by omega)
        refine lv_iload_n hx hb dX11_clearsThreads_20 rfl (lv_at hl 2 rfl) ?_
        refine lv_iadd hx hb dX11_clearsThreads_21 ?_
        refine lv_topi (fun z_22 hz_22 => ?_)
        have hz_22 := o_add hz_22 (rfl : z_21.toInt = z_21.toInt) (rfl : x_1.toInt = x_1.toInt) (by omega) (by omega)
        refine lv_iconst (v := 0) hx hb dX11_clearsThreads_22 (by decide) ?_
        refine q_iast (g := upd g_2 z_22.toNatClampNeg 0) (w' := [(q, oC11 q_thrown q_tape_ q_length q_size q_p q_limit q_s_ q_h_ q_read_ q_names_ q_reserved_ q_token q_at q_span q_number q_fault q_faultAt q_word q_got q_lines q_onces q_webs q_one q_two q_seed q_undone_ q_before_ q_undoMany q_far_ q_wayRow_ q_wayMany q_keptRow_ q_askedRow_ q_rares_ q_trial_ q_keptMany q_askedMany q_hangs_ q_paths_ q_tornSteps q_hasTorn q_turnOne q_hasTurn q_text_ q_textMany q_toldMany q_toldAt_ q_hasTold q_stack_ q_codes q_ones q_top q_deep q_isWhole q_truths_ q_imaged_ q_namesKept_ q_areKept_), (q_s_, aC1 cy 383 (upd g_2 z_22.toNatClampNeg 0))]) C hP hD hS 1 rfl (o_in (rfl : z_22.toInt = z_22.toInt) (by omega) (by omega)) rfl rfl dX11_clearsThreads_23 (fun H locs hP hD hS => ?_)
        have Rg_23_0 := Rg.upd_in (k := z_22.toNatClampNeg) (v := 0) hg_5 (by decide) (by decide)
        have Rg_23_1 := Rg.upd_in (k := z_22.toNatClampNeg) (v := 0) hg_6 (by decide) (by decide)
        have Rg_23_2 := Rg.upd_out (k := z_22.toNatClampNeg) (v := 0) hg_7 (by have := o_cl (rfl : z_22.toInt = z_22.toInt) (by omega); omega)
        have Rg_23_3 := Rg.upd_out (k := z_22.toNatClampNeg) (v := 0) hg_8 (by have := o_cl (rfl : z_22.toInt = z_22.toInt) (by omega); omega)
        have Rg_23_4 := Rg.upd_in (k := z_22.toNatClampNeg) (v := 0) hg_9 (by decide) (by decide)
        have Rg_23_5 := Rg.upd_in (k := z_22.toNatClampNeg) (v := 0) hg_10 (by decide) (by decide)
        have Rg_23_6 := Rg.upd_in (k := z_22.toNatClampNeg) (v := 0) hg_11 (by decide) (by decide)
        have Rg_23_7 := Rg.upd_in (k := z_22.toNatClampNeg) (v := 0) hg_12 (by decide) (by decide)
        have Rg_23_8 := Rg.upd_in (k := z_22.toNatClampNeg) (v := 0) hg_13 (by decide) (by decide)
        have Rg_23_9 : Sv (upd g_2 z_22.toNatClampNeg 0) := (Sv.put hg_14 (by have := o_cl (rfl : z_22.toInt = z_22.toInt) (by omega); omega))
        have Rg_23_10 : F7 (upd g_2 z_22.toNatClampNeg 0) gs := (F7.put hg_15 (by have := o_cl (rfl : z_22.toInt = z_22.toInt) (by omega); omega))
        generalize upd g_2 z_22.toNatClampNeg 0 = g_23 at hP hD Rg_23_0 Rg_23_1 Rg_23_2 Rg_23_3 Rg_23_4 Rg_23_5 Rg_23_6 Rg_23_7 Rg_23_8 Rg_23_9 Rg_23_10
        have hP : va_P D vwCl [(q, oC11 q_thrown q_tape_ q_length q_size q_p q_limit q_s_ q_h_ q_read_ q_names_ q_reserved_ q_token q_at q_span q_number q_fault q_faultAt q_word q_got q_lines q_onces q_webs q_one q_two q_seed q_undone_ q_before_ q_undoMany q_far_ q_wayRow_ q_wayMany q_keptRow_ q_askedRow_ q_rares_ q_trial_ q_keptMany q_askedMany q_hangs_ q_paths_ q_tornSteps q_hasTorn q_turnOne q_hasTurn q_text_ q_textMany q_toldMany q_toldAt_ q_hasTold q_stack_ q_codes q_ones q_top q_deep q_isWhole q_truths_ q_imaged_ q_namesKept_ q_areKept_), (q_s_, aC1 cy 383 g_23)] H := hP
        have hD : va_D A [(q, oC11 q_thrown q_tape_ q_length q_size q_p q_limit q_s_ q_h_ q_read_ q_names_ q_reserved_ q_token q_at q_span q_number q_fault q_faultAt q_word q_got q_lines q_onces q_webs q_one q_two q_seed q_undone_ q_before_ q_undoMany q_far_ q_wayRow_ q_wayMany q_keptRow_ q_askedRow_ q_rares_ q_trial_ q_keptMany q_askedMany q_hangs_ q_paths_ q_tornSteps q_hasTorn q_turnOne q_hasTurn q_text_ q_textMany q_toldMany q_toldAt_ q_hasTold q_stack_ q_codes q_ones q_top q_deep q_isWhole q_truths_ q_imaged_ q_namesKept_ q_areKept_), (q_s_, aC1 cy 383 g_23)] := hD
        refine lv_aload_n hx hb dX11_clearsThreads_24 rfl (lv_at hl 0 rfl) ?_
        refine q_get11 (v := .ref q_s_) C hP 0 6 rfl fT_6 (by decide) kF_RX11_33 rfl dX11_clearsThreads_25 ?_
        refine lv_sipush (v := 138) hx hb dX11_clearsThreads_28 (by decide) ?_
        refine lv_bipush (v := 8) hx hb dX11_clearsThreads_31 (by decide) ?_
        refine lv_iload_n hx hb dX11_clearsThreads_33 rfl (lv_at hl 2 rfl) ?_
        refine lv_imul hx hb dX11_clearsThreads_34 ?_
        refine lv_topi (fun z_24 hz_24 => ?_)
        have hz_24 := o_mul hz_24 (by decide : (8 : Int32).toInt = 8) (rfl : x_1.toInt = x_1.toInt) (by omega) (by omega)
        refine lv_iadd hx hb dX11_clearsThreads_35 ?_
        refine lv_topi (fun z_25 hz_25 => ?_)
        have hz_25 := o_add hz_25 (by decide : (138 : Int32).toInt = 138) (rfl : z_24.toInt = z_24.toInt) (by omega) (by omega)
        refine lv_iload_n hx hb dX11_clearsThreads_36 rfl (lv_at hl 1 rfl) ?_
        refine lv_iadd hx hb dX11_clearsThreads_37 ?_
        refine lv_topi (fun z_26 hz_26 => ?_)
        have hz_26 := o_add hz_26 (rfl : z_25.toInt = z_25.toInt) (rfl : a.toInt = a.toInt) (by omega) (by omega)
        refine lv_iconst (v := 0) hx hb dX11_clearsThreads_38 (by decide) ?_
        refine q_iast (g := upd g_23 z_26.toNatClampNeg 0) (w' := [(q, oC11 q_thrown q_tape_ q_length q_size q_p q_limit q_s_ q_h_ q_read_ q_names_ q_reserved_ q_token q_at q_span q_number q_fault q_faultAt q_word q_got q_lines q_onces q_webs q_one q_two q_seed q_undone_ q_before_ q_undoMany q_far_ q_wayRow_ q_wayMany q_keptRow_ q_askedRow_ q_rares_ q_trial_ q_keptMany q_askedMany q_hangs_ q_paths_ q_tornSteps q_hasTorn q_turnOne q_hasTurn q_text_ q_textMany q_toldMany q_toldAt_ q_hasTold q_stack_ q_codes q_ones q_top q_deep q_isWhole q_truths_ q_imaged_ q_namesKept_ q_areKept_), (q_s_, aC1 cy 383 (upd g_23 z_26.toNatClampNeg 0))]) C hP hD hS 1 rfl (o_in (rfl : z_26.toInt = z_26.toInt) (by omega) (by omega)) rfl rfl dX11_clearsThreads_39 (fun H locs hP hD hS => ?_)
        have Rg_27_0 := Rg.upd_in (k := z_26.toNatClampNeg) (v := 0) Rg_23_0 (by decide) (by decide)
        have Rg_27_1 := Rg.upd_in (k := z_26.toNatClampNeg) (v := 0) Rg_23_1 (by decide) (by decide)
        have Rg_27_2 := Rg.upd_out (k := z_26.toNatClampNeg) (v := 0) Rg_23_2 (by have := o_cl (rfl : z_26.toInt = z_26.toInt) (by omega); omega)
        have Rg_27_3 := Rg.upd_out (k := z_26.toNatClampNeg) (v := 0) Rg_23_3 (by have := o_cl (rfl : z_26.toInt = z_26.toInt) (by omega); omega)
        have Rg_27_4 := Rg.upd_in (k := z_26.toNatClampNeg) (v := 0) Rg_23_4 (by decide) (by decide)
        have Rg_27_5 := Rg.upd_in (k := z_26.toNatClampNeg) (v := 0) Rg_23_5 (by decide) (by decide)
        have Rg_27_6 := Rg.upd_in (k := z_26.toNatClampNeg) (v := 0) Rg_23_6 (by decide) (by decide)
        have Rg_27_7 := Rg.upd_in (k := z_26.toNatClampNeg) (v := 0) Rg_23_7 (by decide) (by decide)
        have Rg_27_8 := Rg.upd_in (k := z_26.toNatClampNeg) (v := 0) Rg_23_8 (by decide) (by decide)
        have Rg_27_9 : Sv (upd g_23 z_26.toNatClampNeg 0) := (Sv.put Rg_23_9 (by have := o_cl (rfl : z_26.toInt = z_26.toInt) (by omega); omega))
        have Rg_27_10 : F7 (upd g_23 z_26.toNatClampNeg 0) gs := (F7.put Rg_23_10 (by have := o_cl (rfl : z_26.toInt = z_26.toInt) (by omega); omega))
        generalize upd g_23 z_26.toNatClampNeg 0 = g_27 at hP hD Rg_27_0 Rg_27_1 Rg_27_2 Rg_27_3 Rg_27_4 Rg_27_5 Rg_27_6 Rg_27_7 Rg_27_8 Rg_27_9 Rg_27_10
        have hP : va_P D vwCl [(q, oC11 q_thrown q_tape_ q_length q_size q_p q_limit q_s_ q_h_ q_read_ q_names_ q_reserved_ q_token q_at q_span q_number q_fault q_faultAt q_word q_got q_lines q_onces q_webs q_one q_two q_seed q_undone_ q_before_ q_undoMany q_far_ q_wayRow_ q_wayMany q_keptRow_ q_askedRow_ q_rares_ q_trial_ q_keptMany q_askedMany q_hangs_ q_paths_ q_tornSteps q_hasTorn q_turnOne q_hasTurn q_text_ q_textMany q_toldMany q_toldAt_ q_hasTold q_stack_ q_codes q_ones q_top q_deep q_isWhole q_truths_ q_imaged_ q_namesKept_ q_areKept_), (q_s_, aC1 cy 383 g_27)] H := hP
        have hD : va_D A [(q, oC11 q_thrown q_tape_ q_length q_size q_p q_limit q_s_ q_h_ q_read_ q_names_ q_reserved_ q_token q_at q_span q_number q_fault q_faultAt q_word q_got q_lines q_onces q_webs q_one q_two q_seed q_undone_ q_before_ q_undoMany q_far_ q_wayRow_ q_wayMany q_keptRow_ q_askedRow_ q_rares_ q_trial_ q_keptMany q_askedMany q_hangs_ q_paths_ q_tornSteps q_hasTorn q_turnOne q_hasTurn q_text_ q_textMany q_toldMany q_toldAt_ q_hasTold q_stack_ q_codes q_ones q_top q_deep q_isWhole q_truths_ q_imaged_ q_namesKept_ q_areKept_), (q_s_, aC1 cy 383 g_27)] := hD
        obtain ⟨z_28, hz_28⟩ : ∃ z : Int32, z = x_1 + 1 := ⟨_, rfl⟩
        refine lv_iinc (v := z_28) (lv' := [(2, .int z_28), (0, .ref q), (1, .int a)]) hx hb dX11_clearsThreads_40 hl (k := 2) rfl hz_28.symm (by decide) rfl (fun ls hl => ?_)
        have hz_28 := o_add hz_28 (rfl : x_1.toInt = x_1.toInt) (by decide : (1 : Int32).toInt = 1) (by omega) (by omega)
        refine lv_goto (tgt := 2) hx hb dX11_clearsThreads_43 (by decide) ?_
        exact ih_17 z_28 g_27 H locs ls (by omega) (by omega) Rg_27_0 Rg_27_1 Rg_27_2 Rg_27_3 Rg_27_4 Rg_27_5 Rg_27_6 Rg_27_7 Rg_27_8 Rg_27_9 Rg_27_10 hP hD hS (lv_sub hl [1, 2, 0] rfl)
  exact lp_2_2 9 (0 : Int32) q_s H locs ls (by have e0 : (0 : Int32).toInt = 0 := (by decide); omega) (by have e0 : (0 : Int32).toInt = 0 := (by decide); omega) hR0 hR1 hR2 hR3 hR4 hR5 hR6 hR7 hR8 hR9 hR10 hP hD hS (lv_sub hl [1, 2, 0] rfl)
theorem y_clearsThreads (l : Launch) (D : va_G) (cy : Nat → ClassId) (q : Nat) (a : Int32) (q_thrown : Int32) (q_tape_ : Nat) (q_length : Int32) (q_size : Int32) (q_p : Int32) (q_limit : Int32) (q_s_ : Nat) (q_h_ : Nat) (q_read_ : Nat) (q_names_ : Nat) (q_reserved_ : Nat) (q_token : Int32) (q_at : Int32) (q_span : Int32) (q_number : Int32) (q_fault : Int32) (q_faultAt : Int32) (q_word : Int64) (q_got : Int32) (q_lines : Int32) (q_onces : Int32) (q_webs : Int32) (q_one : Int32) (q_two : Int32) (q_seed : Int32) (q_undone_ : Nat) (q_before_ : Nat) (q_undoMany : Int32) (q_far_ : Nat) (q_wayRow_ : Nat) (q_wayMany : Int32) (q_keptRow_ : Nat) (q_askedRow_ : Nat) (q_rares_ : Nat) (q_trial_ : Nat) (q_keptMany : Int32) (q_askedMany : Int32) (q_hangs_ : Nat) (q_paths_ : Nat) (q_tornSteps : Int32) (q_hasTorn : Int32) (q_turnOne : Int32) (q_hasTurn : Int32) (q_text_ : Nat) (q_textMany : Int32) (q_toldMany : Int32) (q_toldAt_ : Nat) (q_hasTold : Int32) (q_stack_ : Nat) (q_codes : Int32) (q_ones : Int32) (q_top : Int32) (q_deep : Int32) (q_isWhole : Int32) (q_truths_ : Nat) (q_imaged_ : Nat) (q_namesKept_ : Nat) (q_areKept_ : Nat) (q_s : Nat → Int32) (gs : Nat → Int32) (sz : Nat) (hb0 : 0 ≤ q_length.toInt ∧ q_length.toInt ≤ 940) (hb1 : 0 ≤ q_size.toInt ∧ q_size.toInt ≤ 940) (hb2 : 0 ≤ q_p.toInt ∧ q_p.toInt ≤ 940) (hb3 : 0 ≤ q_limit.toInt ∧ q_limit.toInt ≤ 940) (hb4 : 0 ≤ q_span.toInt ∧ q_span.toInt ≤ 940) (hb5 : 0 ≤ q_number.toInt ∧ q_number.toInt ≤ 8214) (hb6 : (-1) ≤ q_got.toInt ∧ q_got.toInt ≤ 8214) (hb7 : 0 ≤ q_one.toInt ∧ q_one.toInt ≤ 7) (hb8 : 0 ≤ q_two.toInt ∧ q_two.toInt ≤ 7) (hb9 : 0 ≤ q_undoMany.toInt ∧ q_undoMany.toInt ≤ 8) (hb10 : (-1) ≤ q_wayMany.toInt ∧ q_wayMany.toInt ≤ 8) (hb11 : (-1) ≤ q_keptMany.toInt ∧ q_keptMany.toInt ≤ 8) (hb12 : (-1) ≤ q_askedMany.toInt ∧ q_askedMany.toInt ≤ 3) (hb13 : 0 ≤ q_hasTorn.toInt ∧ q_hasTorn.toInt ≤ 1) (hb14 : 0 ≤ q_hasTurn.toInt ∧ q_hasTurn.toInt ≤ 1) (hb15 : 0 ≤ q_textMany.toInt ∧ q_textMany.toInt ≤ 48) (hb16 : 0 ≤ q_toldMany.toInt ∧ q_toldMany.toInt ≤ 40) (hb17 : 0 ≤ q_hasTold.toInt ∧ q_hasTold.toInt ≤ 1) (hb18 : 0 ≤ q_codes.toInt ∧ q_codes.toInt ≤ 40) (hb19 : 0 ≤ q_ones.toInt ∧ q_ones.toInt ≤ 20) (hb20 : 0 ≤ q_top.toInt ∧ q_top.toInt ≤ 40) (hb21 : 0 ≤ q_isWhole.toInt ∧ q_isWhole.toInt ≤ 1) (hb22 : 0 ≤ a.toInt ∧ a.toInt ≤ 7) (hR0 : Rg q_s 0 1 0 8) (hR1 : Rg q_s 1 3 0 6) (hR2 : Rg q_s 3 4 1 50) (hR3 : Rg q_s 4 5 1 5) (hR4 : Rg q_s 103 104 0 255) (hR5 : Rg q_s 7 23 0 5) (hR6 : Rg q_s 106 122 0 5) (hR7 : Rg q_s 23 31 0 99) (hR8 : Rg q_s 122 130 0 99) (hR9 : Sv q_s) (hR10 : F7 q_s gs) : MV l yX11_clearsThreads cX11_clearsThreads 3 (Rm 0 0 0 0) D cy [.ref q, .int a] sz [(q, oC11 q_thrown q_tape_ q_length q_size q_p q_limit q_s_ q_h_ q_read_ q_names_ q_reserved_ q_token q_at q_span q_number q_fault q_faultAt q_word q_got q_lines q_onces q_webs q_one q_two q_seed q_undone_ q_before_ q_undoMany q_far_ q_wayRow_ q_wayMany q_keptRow_ q_askedRow_ q_rares_ q_trial_ q_keptMany q_askedMany q_hangs_ q_paths_ q_tornSteps q_hasTorn q_turnOne q_hasTurn q_text_ q_textMany q_toldMany q_toldAt_ q_hasTold q_stack_ q_codes q_ones q_top q_deep q_isWhole q_truths_ q_imaged_ q_namesKept_ q_areKept_), (q_s_, aC1 cy 383 q_s)] (fun u : (Nat → Int32) => (Rg u 0 1 0 8) ∧ (Rg u 1 3 0 6) ∧ (Rg u 3 4 1 50) ∧ (Rg u 4 5 1 5) ∧ (Rg u 103 104 0 255) ∧ (Rg u 7 23 0 5) ∧ (Rg u 106 122 0 5) ∧ (Rg u 23 31 0 99) ∧ (Rg u 122 130 0 99) ∧ (Sv u) ∧ (F7 u gs)) (fun u : (Nat → Int32) => [(q, oC11 q_thrown q_tape_ q_length q_size q_p q_limit q_s_ q_h_ q_read_ q_names_ q_reserved_ q_token q_at q_span q_number q_fault q_faultAt q_word q_got q_lines q_onces q_webs q_one q_two q_seed q_undone_ q_before_ q_undoMany q_far_ q_wayRow_ q_wayMany q_keptRow_ q_askedRow_ q_rares_ q_trial_ q_keptMany q_askedMany q_hangs_ q_paths_ q_tornSteps q_hasTorn q_turnOne q_hasTurn q_text_ q_textMany q_toldMany q_toldAt_ q_hasTold q_stack_ q_codes q_ones q_top q_deep q_isWhole q_truths_ q_imaged_ q_namesKept_ q_areKept_), (q_s_, aC1 cy 383 u)]) := by
  refine MV.enter (by decide) (Nat.le_of_ble_eq_true rfl) ?_
  intro p e s m below meth c ls A hsz hAe C hP hD hS hl
  exact b_y_clearsThreads l D cy q a q_thrown q_tape_ q_length q_size q_p q_limit q_s_ q_h_ q_read_ q_names_ q_reserved_ q_token q_at q_span q_number q_fault q_faultAt q_word q_got q_lines q_onces q_webs q_one q_two q_seed q_undone_ q_before_ q_undoMany q_far_ q_wayRow_ q_wayMany q_keptRow_ q_askedRow_ q_rares_ q_trial_ q_keptMany q_askedMany q_hangs_ q_paths_ q_tornSteps q_hasTorn q_turnOne q_hasTurn q_text_ q_textMany q_toldMany q_toldAt_ q_hasTold q_stack_ q_codes q_ones q_top q_deep q_isWhole q_truths_ q_imaged_ q_namesKept_ q_areKept_ q_s gs hb0 hb1 hb2 hb3 hb4 hb5 hb6 hb7 hb8 hb9 hb10 hb11 hb12 hb13 hb14 hb15 hb16 hb17 hb18 hb19 hb20 hb21 hb22 hR0 hR1 hR2 hR3 hR4 hR5 hR6 hR7 hR8 hR9 hR10 ⟨Nat.le_of_ble_eq_true rfl, Nat.le_of_ble_eq_true rfl⟩ C rfl _ _ ls hP hD hS hl
set_option maxHeartbeats 4000000 in
set_option maxRecDepth 100000 in
theorem b_y_asks (l : Launch) (D : va_G) (cy : Nat → ClassId) (q : Nat) (a : Int32) (q_thrown : Int32) (q_tape_ : Nat) (q_length : Int32) (q_size : Int32) (q_p : Int32) (q_limit : Int32) (q_s_ : Nat) (q_h_ : Nat) (q_read_ : Nat) (q_names_ : Nat) (q_reserved_ : Nat) (q_token : Int32) (q_at : Int32) (q_span : Int32) (q_number : Int32) (q_fault : Int32) (q_faultAt : Int32) (q_word : Int64) (q_got : Int32) (q_lines : Int32) (q_onces : Int32) (q_webs : Int32) (q_one : Int32) (q_two : Int32) (q_seed : Int32) (q_undone_ : Nat) (q_before_ : Nat) (q_undoMany : Int32) (q_far_ : Nat) (q_wayRow_ : Nat) (q_wayMany : Int32) (q_keptRow_ : Nat) (q_askedRow_ : Nat) (q_rares_ : Nat) (q_trial_ : Nat) (q_keptMany : Int32) (q_askedMany : Int32) (q_hangs_ : Nat) (q_paths_ : Nat) (q_tornSteps : Int32) (q_hasTorn : Int32) (q_turnOne : Int32) (q_hasTurn : Int32) (q_text_ : Nat) (q_textMany : Int32) (q_toldMany : Int32) (q_toldAt_ : Nat) (q_hasTold : Int32) (q_stack_ : Nat) (q_codes : Int32) (q_ones : Int32) (q_top : Int32) (q_deep : Int32) (q_isWhole : Int32) (q_truths_ : Nat) (q_imaged_ : Nat) (q_namesKept_ : Nat) (q_areKept_ : Nat) (q_s : Nat → Int32) (gs : Nat → Int32) (hb0 : 0 ≤ q_length.toInt ∧ q_length.toInt ≤ 940) (hb1 : 0 ≤ q_size.toInt ∧ q_size.toInt ≤ 940) (hb2 : 0 ≤ q_p.toInt ∧ q_p.toInt ≤ 940) (hb3 : 0 ≤ q_limit.toInt ∧ q_limit.toInt ≤ 940) (hb4 : 0 ≤ q_span.toInt ∧ q_span.toInt ≤ 940) (hb5 : 0 ≤ q_number.toInt ∧ q_number.toInt ≤ 8214) (hb6 : (-1) ≤ q_got.toInt ∧ q_got.toInt ≤ 8214) (hb7 : 0 ≤ q_one.toInt ∧ q_one.toInt ≤ 7) (hb8 : 0 ≤ q_two.toInt ∧ q_two.toInt ≤ 7) (hb9 : 0 ≤ q_undoMany.toInt ∧ q_undoMany.toInt ≤ 8) (hb10 : (-1) ≤ q_wayMany.toInt ∧ q_wayMany.toInt ≤ 8) (hb11 : (-1) ≤ q_keptMany.toInt ∧ q_keptMany.toInt ≤ 8) (hb12 : (-1) ≤ q_askedMany.toInt ∧ q_askedMany.toInt ≤ 3) (hb13 : 0 ≤ q_hasTorn.toInt ∧ q_hasTorn.toInt ≤ 1) (hb14 : 0 ≤ q_hasTurn.toInt ∧ q_hasTurn.toInt ≤ 1) (hb15 : 0 ≤ q_textMany.toInt ∧ q_textMany.toInt ≤ 48) (hb16 : 0 ≤ q_toldMany.toInt ∧ q_toldMany.toInt ≤ 40) (hb17 : 0 ≤ q_hasTold.toInt ∧ q_hasTold.toInt ≤ 1) (hb18 : 0 ≤ q_codes.toInt ∧ q_codes.toInt ≤ 40) (hb19 : 0 ≤ q_ones.toInt ∧ q_ones.toInt ≤ 20) (hb20 : 0 ≤ q_top.toInt ∧ q_top.toInt ≤ 40) (hb21 : 0 ≤ q_isWhole.toInt ∧ q_isWhole.toInt ≤ 1) (hb22 : 0 ≤ a.toInt ∧ a.toInt ≤ 7) (hR0 : Rg q_s 0 1 0 8) (hR1 : Rg q_s 1 3 0 6) (hR2 : Rg q_s 3 4 1 50) (hR3 : Rg q_s 4 5 1 5) (hR4 : Rg q_s 103 104 0 255) (hR5 : Rg q_s 7 23 0 5) (hR6 : Rg q_s 106 122 0 5) (hR7 : Rg q_s 23 31 0 99) (hR8 : Rg q_s 122 130 0 99) (hR9 : Sv q_s) (hR10 : F7 q_s gs) {p : Program} {e : Env} {s : State} {m : MethodId} {args : Array Value} {below : List Frame} {meth : Method} {c : Code} {A : Nat → Prop} {Q : State → Prop} {cells slots : Nat} (hroom : cells ≤ ((Rm 1 22 0 0)).cells ∧ slots ≤ ((Rm 1 22 0 0)).slots) (C : Cx p s m args meth c cX11_asks 2 none RX11 "asks" D cy A) (hQ : Q = MQ below (va_Qv (fun u : (Nat → Int32) => (Rg u 0 1 0 8) ∧ (Rg u 1 3 0 6) ∧ (Rg u 3 4 1 50) ∧ (Rg u 4 5 1 5) ∧ (Rg u 103 104 0 255) ∧ (Rg u 7 23 0 5) ∧ (Rg u 106 122 0 5) ∧ (Rg u 23 31 0 99) ∧ (Rg u 122 130 0 99) ∧ (Sv u) ∧ (F7 u gs)) (Bx D A (fun u : (Nat → Int32) => [(q, oC11 q_thrown q_tape_ q_length q_size q_p q_limit q_s_ q_h_ q_read_ q_names_ q_reserved_ q_token q_at q_span q_number q_fault q_faultAt q_word q_got q_lines q_onces q_webs q_one q_two q_seed q_undone_ q_before_ q_undoMany q_far_ q_wayRow_ q_wayMany q_keptRow_ q_askedRow_ q_rares_ q_trial_ q_keptMany q_askedMany q_hangs_ q_paths_ q_tornSteps q_hasTorn q_turnOne q_hasTurn q_text_ q_textMany q_toldMany q_toldAt_ q_hasTold q_stack_ q_codes q_ones q_top q_deep q_isWhole q_truths_ q_imaged_ q_namesKept_ q_areKept_), (q_s_, aC1 cy 383 u)])) A) args s ((Rm 1 22 0 0)).cells ((Rm 1 22 0 0)).slots A) (H : Heap) (locs : List Loc) (ls : Array Slot) (hP : va_P D vwCl [(q, oC11 q_thrown q_tape_ q_length q_size q_p q_limit q_s_ q_h_ q_read_ q_names_ q_reserved_ q_token q_at q_span q_number q_fault q_faultAt q_word q_got q_lines q_onces q_webs q_one q_two q_seed q_undone_ q_before_ q_undoMany q_far_ q_wayRow_ q_wayMany q_keptRow_ q_askedRow_ q_rares_ q_trial_ q_keptMany q_askedMany q_hangs_ q_paths_ q_tornSteps q_hasTorn q_turnOne q_hasTurn q_text_ q_textMany q_toldMany q_toldAt_ q_hasTold q_stack_ q_codes q_ones q_top q_deep q_isWhole q_truths_ q_imaged_ q_namesKept_ q_areKept_), (q_s_, aC1 cy 383 q_s)] H) (hD : va_D A [(q, oC11 q_thrown q_tape_ q_length q_size q_p q_limit q_s_ q_h_ q_read_ q_names_ q_reserved_ q_token q_at q_span q_number q_fault q_faultAt q_word q_got q_lines q_onces q_webs q_one q_two q_seed q_undone_ q_before_ q_undoMany q_far_ q_wayRow_ q_wayMany q_keptRow_ q_askedRow_ q_rares_ q_trial_ q_keptMany q_askedMany q_hangs_ q_paths_ q_tornSteps q_hasTorn q_turnOne q_hasTurn q_text_ q_textMany q_toldMany q_toldAt_ q_hasTold q_stack_ q_codes q_ones q_top q_deep q_isWhole q_truths_ q_imaged_ q_namesKept_ q_areKept_), (q_s_, aC1 cy 383 q_s)]) (hS : va_S A s.heap H locs) (hl : lv_has ls 2 [(0, .ref q), (1, .int a)]) : W p l e (Rm 1 22 0 0) s m args below meth c H locs cells slots Q (F0 m 0 ls []) := by
  have hx := C.1
  have hb := C.2.1
  refine lv_aload_n hx hb dX11_asks_0 rfl (lv_at hl 0 rfl) ?_
  refine q_get11 (v := .ref q_s_) C hP 0 6 rfl fT_6 (by decide) kF_RX11_33 rfl dX11_asks_1 ?_
  refine lv_bipush (v := 122) hx hb dX11_asks_4 (by decide) ?_
  refine lv_iload_n hx hb dX11_asks_6 rfl (lv_at hl 1 rfl) ?_
  refine lv_iadd hx hb dX11_asks_7 ?_
  refine lv_topi (fun z_1 hz_1 => ?_)
  have hz_1 := o_add hz_1 (by decide : (122 : Int32).toInt = 122) (rfl : a.toInt = a.toInt) (by omega) (by omega)
  refine lv_iconst (v := 0) hx hb dX11_asks_8 (by decide) ?_
  refine q_iast (g := upd q_s z_1.toNatClampNeg 0) (w' := [(q, oC11 q_thrown q_tape_ q_length q_size q_p q_limit q_s_ q_h_ q_read_ q_names_ q_reserved_ q_token q_at q_span q_number q_fault q_faultAt q_word q_got q_lines q_onces q_webs q_one q_two q_seed q_undone_ q_before_ q_undoMany q_far_ q_wayRow_ q_wayMany q_keptRow_ q_askedRow_ q_rares_ q_trial_ q_keptMany q_askedMany q_hangs_ q_paths_ q_tornSteps q_hasTorn q_turnOne q_hasTurn q_text_ q_textMany q_toldMany q_toldAt_ q_hasTold q_stack_ q_codes q_ones q_top q_deep q_isWhole q_truths_ q_imaged_ q_namesKept_ q_areKept_), (q_s_, aC1 cy 383 (upd q_s z_1.toNatClampNeg 0))]) C hP hD hS 1 rfl (o_in (rfl : z_1.toInt = z_1.toInt) (by omega) (by omega)) rfl rfl dX11_asks_9 (fun H locs hP hD hS => ?_)
  have Rg_2_0 := Rg.upd_in (k := z_1.toNatClampNeg) (v := 0) hR0 (by decide) (by decide)
  have Rg_2_1 := Rg.upd_in (k := z_1.toNatClampNeg) (v := 0) hR1 (by decide) (by decide)
  have Rg_2_2 := Rg.upd_out (k := z_1.toNatClampNeg) (v := 0) hR2 (by have := o_cl (rfl : z_1.toInt = z_1.toInt) (by omega); omega)
  have Rg_2_3 := Rg.upd_out (k := z_1.toNatClampNeg) (v := 0) hR3 (by have := o_cl (rfl : z_1.toInt = z_1.toInt) (by omega); omega)
  have Rg_2_4 := Rg.upd_in (k := z_1.toNatClampNeg) (v := 0) hR4 (by decide) (by decide)
  have Rg_2_5 := Rg.upd_in (k := z_1.toNatClampNeg) (v := 0) hR5 (by decide) (by decide)
  have Rg_2_6 := Rg.upd_in (k := z_1.toNatClampNeg) (v := 0) hR6 (by decide) (by decide)
  have Rg_2_7 := Rg.upd_in (k := z_1.toNatClampNeg) (v := 0) hR7 (by decide) (by decide)
  have Rg_2_8 := Rg.upd_in (k := z_1.toNatClampNeg) (v := 0) hR8 (by decide) (by decide)
  have Rg_2_9 : Sv (upd q_s z_1.toNatClampNeg 0) := (Sv.put hR9 (by have := o_cl (rfl : z_1.toInt = z_1.toInt) (by omega); omega))
  have Rg_2_10 : F7 (upd q_s z_1.toNatClampNeg 0) gs := (F7.put hR10 (by have := o_cl (rfl : z_1.toInt = z_1.toInt) (by omega); omega))
  generalize upd q_s z_1.toNatClampNeg 0 = g_2 at hP hD Rg_2_0 Rg_2_1 Rg_2_2 Rg_2_3 Rg_2_4 Rg_2_5 Rg_2_6 Rg_2_7 Rg_2_8 Rg_2_9 Rg_2_10
  have hP : va_P D vwCl [(q, oC11 q_thrown q_tape_ q_length q_size q_p q_limit q_s_ q_h_ q_read_ q_names_ q_reserved_ q_token q_at q_span q_number q_fault q_faultAt q_word q_got q_lines q_onces q_webs q_one q_two q_seed q_undone_ q_before_ q_undoMany q_far_ q_wayRow_ q_wayMany q_keptRow_ q_askedRow_ q_rares_ q_trial_ q_keptMany q_askedMany q_hangs_ q_paths_ q_tornSteps q_hasTorn q_turnOne q_hasTurn q_text_ q_textMany q_toldMany q_toldAt_ q_hasTold q_stack_ q_codes q_ones q_top q_deep q_isWhole q_truths_ q_imaged_ q_namesKept_ q_areKept_), (q_s_, aC1 cy 383 g_2)] H := hP
  have hD : va_D A [(q, oC11 q_thrown q_tape_ q_length q_size q_p q_limit q_s_ q_h_ q_read_ q_names_ q_reserved_ q_token q_at q_span q_number q_fault q_faultAt q_word q_got q_lines q_onces q_webs q_one q_two q_seed q_undone_ q_before_ q_undoMany q_far_ q_wayRow_ q_wayMany q_keptRow_ q_askedRow_ q_rares_ q_trial_ q_keptMany q_askedMany q_hangs_ q_paths_ q_tornSteps q_hasTorn q_turnOne q_hasTurn q_text_ q_textMany q_toldMany q_toldAt_ q_hasTold q_stack_ q_codes q_ones q_top q_deep q_isWhole q_truths_ q_imaged_ q_namesKept_ q_areKept_), (q_s_, aC1 cy 383 g_2)] := hD
  refine lv_aload_n hx hb dX11_asks_10 rfl (lv_at hl 0 rfl) ?_
  refine lv_iload_n hx hb dX11_asks_11 rfl (lv_at hl 1 rfl) ?_
  refine q_av (wr := []) (r_V (rm := (Rm 0 0 0 0)) (q0 := 0) (As := [.int a]) (rest := []) (wc := [(q, oC11 q_thrown q_tape_ q_length q_size q_p q_limit q_s_ q_h_ q_read_ q_names_ q_reserved_ q_token q_at q_span q_number q_fault q_faultAt q_word q_got q_lines q_onces q_webs q_one q_two q_seed q_undone_ q_before_ q_undoMany q_far_ q_wayRow_ q_wayMany q_keptRow_ q_askedRow_ q_rares_ q_trial_ q_keptMany q_askedMany q_hangs_ q_paths_ q_tornSteps q_hasTorn q_turnOne q_hasTurn q_text_ q_textMany q_toldMany q_toldAt_ q_hasTold q_stack_ q_codes q_ones q_top q_deep q_isWhole q_truths_ q_imaged_ q_namesKept_ q_areKept_), (q_s_, aC1 cy 383 g_2)]) C hS (q_subP hP [0, 1] rfl) (hD.sub [0, 1] (by decide) rfl) (y_clearsThreads l D cy q a q_thrown q_tape_ q_length q_size q_p q_limit q_s_ q_h_ q_read_ q_names_ q_reserved_ q_token q_at q_span q_number q_fault q_faultAt q_word q_got q_lines q_onces q_webs q_one q_two q_seed q_undone_ q_before_ q_undoMany q_far_ q_wayRow_ q_wayMany q_keptRow_ q_askedRow_ q_rares_ q_trial_ q_keptMany q_askedMany q_hangs_ q_paths_ q_tornSteps q_hasTorn q_turnOne q_hasTurn q_text_ q_textMany q_toldMany q_toldAt_ q_hasTold q_stack_ q_codes q_ones q_top q_deep q_isWhole q_truths_ q_imaged_ q_namesKept_ q_areKept_ g_2 gs _ (by omega) (by omega) (by omega) (by omega) (by omega) (by omega) (by omega) (by omega) (by omega) (by omega) (by omega) (by omega) (by omega) (by omega) (by omega) (by omega) (by omega) (by omega) (by omega) (by omega) (by omega) (by omega) (by omega) Rg_2_0 Rg_2_1 Rg_2_2 Rg_2_3 Rg_2_4 Rg_2_5 Rg_2_6 Rg_2_7 Rg_2_8 Rg_2_9 Rg_2_10) kwV_X11_clearsThreads kM_RX11_331 rfl rfl ⟨Nat.le_of_ble_eq_true rfl, Nat.le_of_ble_eq_true rfl⟩ rfl hl.1 rfl (Nat.le_of_ble_eq_true rfl) dX11_asks_12 ⟨hroom.1, hroom.2⟩) C.2.2.2.2.2.2.1 hP hD hS [0, 1] [] rfl rfl (by decide) (by decide) (fun u_3 H locs hw_5 hP hD hS => ?_)
  obtain ⟨g_6, rfl⟩ : ∃ z, z = u_3 := ⟨_, rfl⟩
  have hP : va_P D vwCl [(q, oC11 q_thrown q_tape_ q_length q_size q_p q_limit q_s_ q_h_ q_read_ q_names_ q_reserved_ q_token q_at q_span q_number q_fault q_faultAt q_word q_got q_lines q_onces q_webs q_one q_two q_seed q_undone_ q_before_ q_undoMany q_far_ q_wayRow_ q_wayMany q_keptRow_ q_askedRow_ q_rares_ q_trial_ q_keptMany q_askedMany q_hangs_ q_paths_ q_tornSteps q_hasTorn q_turnOne q_hasTurn q_text_ q_textMany q_toldMany q_toldAt_ q_hasTold q_stack_ q_codes q_ones q_top q_deep q_isWhole q_truths_ q_imaged_ q_namesKept_ q_areKept_), (q_s_, aC1 cy 383 g_6)] H := hP
  have hD : va_D A [(q, oC11 q_thrown q_tape_ q_length q_size q_p q_limit q_s_ q_h_ q_read_ q_names_ q_reserved_ q_token q_at q_span q_number q_fault q_faultAt q_word q_got q_lines q_onces q_webs q_one q_two q_seed q_undone_ q_before_ q_undoMany q_far_ q_wayRow_ q_wayMany q_keptRow_ q_askedRow_ q_rares_ q_trial_ q_keptMany q_askedMany q_hangs_ q_paths_ q_tornSteps q_hasTorn q_turnOne q_hasTurn q_text_ q_textMany q_toldMany q_toldAt_ q_hasTold q_stack_ q_codes q_ones q_top q_deep q_isWhole q_truths_ q_imaged_ q_namesKept_ q_areKept_), (q_s_, aC1 cy 383 g_6)] := hD
  have hp_6 : Rg g_6 0 1 0 8 := hw_5.1
  have hp_7 : Rg g_6 1 3 0 6 := hw_5.2.1
  have hp_8 : Rg g_6 3 4 1 50 := hw_5.2.2.1
  have hp_9 : Rg g_6 4 5 1 5 := hw_5.2.2.2.1
  have hp_10 : Rg g_6 103 104 0 255 := hw_5.2.2.2.2.1
  have hp_11 : Rg g_6 7 23 0 5 := hw_5.2.2.2.2.2.1
  have hp_12 : Rg g_6 106 122 0 5 := hw_5.2.2.2.2.2.2.1
  have hp_13 : Rg g_6 23 31 0 99 := hw_5.2.2.2.2.2.2.2.1
  have hp_14 : Rg g_6 122 130 0 99 := hw_5.2.2.2.2.2.2.2.2.1
  have hp_15 : Sv g_6 := hw_5.2.2.2.2.2.2.2.2.2.1
  have hp_16 : F7 g_6 gs := hw_5.2.2.2.2.2.2.2.2.2.2
  clear hw_5
  refine lv_aload_n hx hb dX11_asks_15 rfl (lv_at hl 0 rfl) ?_
  refine q_get11 (v := .ref q_s_) C hP 0 6 rfl fT_6 (by decide) kF_RX11_33 rfl dX11_asks_16 ?_
  refine lv_bipush (v := 105) hx hb dX11_asks_19 (by decide) ?_
  refine lv_dup2_11 hx hb dX11_asks_21 rfl rfl ?_
  refine q_iald (v := g_6 105) C hP 1 rfl (vin (by decide +kernel)) rfl dX11_asks_22 ?_
  refine lv_topi (fun z_18 ez_18 => ?_)
  refine lv_iconst (v := 1) hx hb dX11_asks_23 (by decide) ?_
  refine lv_iload_n hx hb dX11_asks_24 rfl (lv_at hl 1 rfl) ?_
  refine lv_ishl hx hb dX11_asks_25 ?_
  refine lv_topi (fun z_19 hz_19 => ?_)
  have ez_19 := hz_19
  have hz_19 := o_shl1 hz_19 (rfl : a.toInt = a.toInt) (by omega) (by omega)
  refine lv_ior hx hb dX11_asks_26 ?_
  refine lv_topi (fun z_20 hz_20 => ?_)
  clear hz_20
  refine q_iast (g := upd g_6 105 z_20) (w' := [(q, oC11 q_thrown q_tape_ q_length q_size q_p q_limit q_s_ q_h_ q_read_ q_names_ q_reserved_ q_token q_at q_span q_number q_fault q_faultAt q_word q_got q_lines q_onces q_webs q_one q_two q_seed q_undone_ q_before_ q_undoMany q_far_ q_wayRow_ q_wayMany q_keptRow_ q_askedRow_ q_rares_ q_trial_ q_keptMany q_askedMany q_hangs_ q_paths_ q_tornSteps q_hasTorn q_turnOne q_hasTurn q_text_ q_textMany q_toldMany q_toldAt_ q_hasTold q_stack_ q_codes q_ones q_top q_deep q_isWhole q_truths_ q_imaged_ q_namesKept_ q_areKept_), (q_s_, aC1 cy 383 (upd g_6 105 z_20))]) C hP hD hS 1 rfl (vin (by decide +kernel)) rfl rfl dX11_asks_27 (fun H locs hP hD hS => ?_)
  have Rg_21_0 := Rg.upd_out (k := 105) (v := z_20) hp_6 (by omega)
  have Rg_21_1 := Rg.upd_out (k := 105) (v := z_20) hp_7 (by omega)
  have Rg_21_2 := Rg.upd_out (k := 105) (v := z_20) hp_8 (by omega)
  have Rg_21_3 := Rg.upd_out (k := 105) (v := z_20) hp_9 (by omega)
  have Rg_21_4 := Rg.upd_out (k := 105) (v := z_20) hp_10 (by omega)
  have Rg_21_5 := Rg.upd_out (k := 105) (v := z_20) hp_11 (by omega)
  have Rg_21_6 := Rg.upd_out (k := 105) (v := z_20) hp_12 (by omega)
  have Rg_21_7 := Rg.upd_out (k := 105) (v := z_20) hp_13 (by omega)
  have Rg_21_8 := Rg.upd_out (k := 105) (v := z_20) hp_14 (by omega)
  have Rg_21_9 : Sv (upd g_6 105 z_20) := (Sv.put hp_15 (by decide))
  have Rg_21_10 : F7 (upd g_6 105 z_20) gs := (F7.put hp_16 (by decide))
  generalize upd g_6 105 z_20 = g_21 at hP hD Rg_21_0 Rg_21_1 Rg_21_2 Rg_21_3 Rg_21_4 Rg_21_5 Rg_21_6 Rg_21_7 Rg_21_8 Rg_21_9 Rg_21_10
  have hP : va_P D vwCl [(q, oC11 q_thrown q_tape_ q_length q_size q_p q_limit q_s_ q_h_ q_read_ q_names_ q_reserved_ q_token q_at q_span q_number q_fault q_faultAt q_word q_got q_lines q_onces q_webs q_one q_two q_seed q_undone_ q_before_ q_undoMany q_far_ q_wayRow_ q_wayMany q_keptRow_ q_askedRow_ q_rares_ q_trial_ q_keptMany q_askedMany q_hangs_ q_paths_ q_tornSteps q_hasTorn q_turnOne q_hasTurn q_text_ q_textMany q_toldMany q_toldAt_ q_hasTold q_stack_ q_codes q_ones q_top q_deep q_isWhole q_truths_ q_imaged_ q_namesKept_ q_areKept_), (q_s_, aC1 cy 383 g_21)] H := hP
  have hD : va_D A [(q, oC11 q_thrown q_tape_ q_length q_size q_p q_limit q_s_ q_h_ q_read_ q_names_ q_reserved_ q_token q_at q_span q_number q_fault q_faultAt q_word q_got q_lines q_onces q_webs q_one q_two q_seed q_undone_ q_before_ q_undoMany q_far_ q_wayRow_ q_wayMany q_keptRow_ q_askedRow_ q_rares_ q_trial_ q_keptMany q_askedMany q_hangs_ q_paths_ q_tornSteps q_hasTorn q_turnOne q_hasTurn q_text_ q_textMany q_toldMany q_toldAt_ q_hasTold q_stack_ q_codes q_ones q_top q_deep q_isWhole q_truths_ q_imaged_ q_namesKept_ q_areKept_), (q_s_, aC1 cy 383 g_21)] := hD
  refine lv_aload_n hx hb dX11_asks_28 rfl (lv_at hl 0 rfl) ?_
  refine q_get11 (v := .ref q_s_) C hP 0 6 rfl fT_6 (by decide) kF_RX11_33 rfl dX11_asks_29 ?_
  refine lv_sipush (v := 130) hx hb dX11_asks_32 (by decide) ?_
  refine lv_iload_n hx hb dX11_asks_35 rfl (lv_at hl 1 rfl) ?_
  refine lv_iadd hx hb dX11_asks_36 ?_
  refine lv_topi (fun z_22 hz_22 => ?_)
  have hz_22 := o_add hz_22 (by decide : (130 : Int32).toInt = 130) (rfl : a.toInt = a.toInt) (by omega) (by omega)
  refine lv_dup2_11 hx hb dX11_asks_37 rfl rfl ?_
  refine q_iald (v := g_21 z_22.toNatClampNeg) C hP 1 rfl (o_in (rfl : z_22.toInt = z_22.toInt) (by omega) (by omega)) rfl dX11_asks_38 ?_
  refine lv_topi (fun z_23 ez_23 => ?_)
  refine lv_iconst (v := 1) hx hb dX11_asks_39 (by decide) ?_
  refine lv_iadd hx hb dX11_asks_40 ?_
  refine lv_topi (fun z_24 hz_24 => ?_)
  clear hz_24
  refine q_iast (g := upd g_21 z_22.toNatClampNeg z_24) (w' := [(q, oC11 q_thrown q_tape_ q_length q_size q_p q_limit q_s_ q_h_ q_read_ q_names_ q_reserved_ q_token q_at q_span q_number q_fault q_faultAt q_word q_got q_lines q_onces q_webs q_one q_two q_seed q_undone_ q_before_ q_undoMany q_far_ q_wayRow_ q_wayMany q_keptRow_ q_askedRow_ q_rares_ q_trial_ q_keptMany q_askedMany q_hangs_ q_paths_ q_tornSteps q_hasTorn q_turnOne q_hasTurn q_text_ q_textMany q_toldMany q_toldAt_ q_hasTold q_stack_ q_codes q_ones q_top q_deep q_isWhole q_truths_ q_imaged_ q_namesKept_ q_areKept_), (q_s_, aC1 cy 383 (upd g_21 z_22.toNatClampNeg z_24))]) C hP hD hS 1 rfl (o_in (rfl : z_22.toInt = z_22.toInt) (by omega) (by omega)) rfl rfl dX11_asks_41 (fun H locs hP hD hS => ?_)
  have Rg_25_0 := Rg.upd_out (k := z_22.toNatClampNeg) (v := z_24) Rg_21_0 (by have := o_cl (rfl : z_22.toInt = z_22.toInt) (by omega); omega)
  have Rg_25_1 := Rg.upd_out (k := z_22.toNatClampNeg) (v := z_24) Rg_21_1 (by have := o_cl (rfl : z_22.toInt = z_22.toInt) (by omega); omega)
  have Rg_25_2 := Rg.upd_out (k := z_22.toNatClampNeg) (v := z_24) Rg_21_2 (by have := o_cl (rfl : z_22.toInt = z_22.toInt) (by omega); omega)
  have Rg_25_3 := Rg.upd_out (k := z_22.toNatClampNeg) (v := z_24) Rg_21_3 (by have := o_cl (rfl : z_22.toInt = z_22.toInt) (by omega); omega)
  have Rg_25_4 := Rg.upd_out (k := z_22.toNatClampNeg) (v := z_24) Rg_21_4 (by have := o_cl (rfl : z_22.toInt = z_22.toInt) (by omega); omega)
  have Rg_25_5 := Rg.upd_out (k := z_22.toNatClampNeg) (v := z_24) Rg_21_5 (by have := o_cl (rfl : z_22.toInt = z_22.toInt) (by omega); omega)
  have Rg_25_6 := Rg.upd_out (k := z_22.toNatClampNeg) (v := z_24) Rg_21_6 (by have := o_cl (rfl : z_22.toInt = z_22.toInt) (by omega); omega)
  have Rg_25_7 := Rg.upd_out (k := z_22.toNatClampNeg) (v := z_24) Rg_21_7 (by have := o_cl (rfl : z_22.toInt = z_22.toInt) (by omega); omega)
  have Rg_25_8 := Rg.upd_out (k := z_22.toNatClampNeg) (v := z_24) Rg_21_8 (by have := o_cl (rfl : z_22.toInt = z_22.toInt) (by omega); omega)
  have Rg_25_9 : Sv (upd g_21 z_22.toNatClampNeg z_24) := (Sv.put Rg_21_9 (by have := o_cl (rfl : z_22.toInt = z_22.toInt) (by omega); omega))
  have Rg_25_10 : F7 (upd g_21 z_22.toNatClampNeg z_24) gs := (F7.put Rg_21_10 (by have := o_cl (rfl : z_22.toInt = z_22.toInt) (by omega); omega))
  generalize upd g_21 z_22.toNatClampNeg z_24 = g_25 at hP hD Rg_25_0 Rg_25_1 Rg_25_2 Rg_25_3 Rg_25_4 Rg_25_5 Rg_25_6 Rg_25_7 Rg_25_8 Rg_25_9 Rg_25_10
  have hP : va_P D vwCl [(q, oC11 q_thrown q_tape_ q_length q_size q_p q_limit q_s_ q_h_ q_read_ q_names_ q_reserved_ q_token q_at q_span q_number q_fault q_faultAt q_word q_got q_lines q_onces q_webs q_one q_two q_seed q_undone_ q_before_ q_undoMany q_far_ q_wayRow_ q_wayMany q_keptRow_ q_askedRow_ q_rares_ q_trial_ q_keptMany q_askedMany q_hangs_ q_paths_ q_tornSteps q_hasTorn q_turnOne q_hasTurn q_text_ q_textMany q_toldMany q_toldAt_ q_hasTold q_stack_ q_codes q_ones q_top q_deep q_isWhole q_truths_ q_imaged_ q_namesKept_ q_areKept_), (q_s_, aC1 cy 383 g_25)] H := hP
  have hD : va_D A [(q, oC11 q_thrown q_tape_ q_length q_size q_p q_limit q_s_ q_h_ q_read_ q_names_ q_reserved_ q_token q_at q_span q_number q_fault q_faultAt q_word q_got q_lines q_onces q_webs q_one q_two q_seed q_undone_ q_before_ q_undoMany q_far_ q_wayRow_ q_wayMany q_keptRow_ q_askedRow_ q_rares_ q_trial_ q_keptMany q_askedMany q_hangs_ q_paths_ q_tornSteps q_hasTorn q_turnOne q_hasTurn q_text_ q_textMany q_toldMany q_toldAt_ q_hasTold q_stack_ q_codes q_ones q_top q_deep q_isWhole q_truths_ q_imaged_ q_namesKept_ q_areKept_), (q_s_, aC1 cy 383 g_25)] := hD
  refine o_wq hQ ?_
  exact q_vret (rm := (Rm 1 22 0 0)) C hS g_25 ⟨Rg_25_0, Rg_25_1, Rg_25_2, Rg_25_3, Rg_25_4, Rg_25_5, Rg_25_6, Rg_25_7, Rg_25_8, Rg_25_9, Rg_25_10⟩ (q_subP hP [0, 1] rfl) (hD.sub [0, 1] (by decide) rfl) hroom.1 hroom.2 dX11_asks_42
theorem y_asks (l : Launch) (D : va_G) (cy : Nat → ClassId) (q : Nat) (a : Int32) (q_thrown : Int32) (q_tape_ : Nat) (q_length : Int32) (q_size : Int32) (q_p : Int32) (q_limit : Int32) (q_s_ : Nat) (q_h_ : Nat) (q_read_ : Nat) (q_names_ : Nat) (q_reserved_ : Nat) (q_token : Int32) (q_at : Int32) (q_span : Int32) (q_number : Int32) (q_fault : Int32) (q_faultAt : Int32) (q_word : Int64) (q_got : Int32) (q_lines : Int32) (q_onces : Int32) (q_webs : Int32) (q_one : Int32) (q_two : Int32) (q_seed : Int32) (q_undone_ : Nat) (q_before_ : Nat) (q_undoMany : Int32) (q_far_ : Nat) (q_wayRow_ : Nat) (q_wayMany : Int32) (q_keptRow_ : Nat) (q_askedRow_ : Nat) (q_rares_ : Nat) (q_trial_ : Nat) (q_keptMany : Int32) (q_askedMany : Int32) (q_hangs_ : Nat) (q_paths_ : Nat) (q_tornSteps : Int32) (q_hasTorn : Int32) (q_turnOne : Int32) (q_hasTurn : Int32) (q_text_ : Nat) (q_textMany : Int32) (q_toldMany : Int32) (q_toldAt_ : Nat) (q_hasTold : Int32) (q_stack_ : Nat) (q_codes : Int32) (q_ones : Int32) (q_top : Int32) (q_deep : Int32) (q_isWhole : Int32) (q_truths_ : Nat) (q_imaged_ : Nat) (q_namesKept_ : Nat) (q_areKept_ : Nat) (q_s : Nat → Int32) (gs : Nat → Int32) (sz : Nat) (hb0 : 0 ≤ q_length.toInt ∧ q_length.toInt ≤ 940) (hb1 : 0 ≤ q_size.toInt ∧ q_size.toInt ≤ 940) (hb2 : 0 ≤ q_p.toInt ∧ q_p.toInt ≤ 940) (hb3 : 0 ≤ q_limit.toInt ∧ q_limit.toInt ≤ 940) (hb4 : 0 ≤ q_span.toInt ∧ q_span.toInt ≤ 940) (hb5 : 0 ≤ q_number.toInt ∧ q_number.toInt ≤ 8214) (hb6 : (-1) ≤ q_got.toInt ∧ q_got.toInt ≤ 8214) (hb7 : 0 ≤ q_one.toInt ∧ q_one.toInt ≤ 7) (hb8 : 0 ≤ q_two.toInt ∧ q_two.toInt ≤ 7) (hb9 : 0 ≤ q_undoMany.toInt ∧ q_undoMany.toInt ≤ 8) (hb10 : (-1) ≤ q_wayMany.toInt ∧ q_wayMany.toInt ≤ 8) (hb11 : (-1) ≤ q_keptMany.toInt ∧ q_keptMany.toInt ≤ 8) (hb12 : (-1) ≤ q_askedMany.toInt ∧ q_askedMany.toInt ≤ 3) (hb13 : 0 ≤ q_hasTorn.toInt ∧ q_hasTorn.toInt ≤ 1) (hb14 : 0 ≤ q_hasTurn.toInt ∧ q_hasTurn.toInt ≤ 1) (hb15 : 0 ≤ q_textMany.toInt ∧ q_textMany.toInt ≤ 48) (hb16 : 0 ≤ q_toldMany.toInt ∧ q_toldMany.toInt ≤ 40) (hb17 : 0 ≤ q_hasTold.toInt ∧ q_hasTold.toInt ≤ 1) (hb18 : 0 ≤ q_codes.toInt ∧ q_codes.toInt ≤ 40) (hb19 : 0 ≤ q_ones.toInt ∧ q_ones.toInt ≤ 20) (hb20 : 0 ≤ q_top.toInt ∧ q_top.toInt ≤ 40) (hb21 : 0 ≤ q_isWhole.toInt ∧ q_isWhole.toInt ≤ 1) (hb22 : 0 ≤ a.toInt ∧ a.toInt ≤ 7) (hR0 : Rg q_s 0 1 0 8) (hR1 : Rg q_s 1 3 0 6) (hR2 : Rg q_s 3 4 1 50) (hR3 : Rg q_s 4 5 1 5) (hR4 : Rg q_s 103 104 0 255) (hR5 : Rg q_s 7 23 0 5) (hR6 : Rg q_s 106 122 0 5) (hR7 : Rg q_s 23 31 0 99) (hR8 : Rg q_s 122 130 0 99) (hR9 : Sv q_s) (hR10 : F7 q_s gs) : MV l yX11_asks cX11_asks 2 (Rm 1 22 0 0) D cy [.ref q, .int a] sz [(q, oC11 q_thrown q_tape_ q_length q_size q_p q_limit q_s_ q_h_ q_read_ q_names_ q_reserved_ q_token q_at q_span q_number q_fault q_faultAt q_word q_got q_lines q_onces q_webs q_one q_two q_seed q_undone_ q_before_ q_undoMany q_far_ q_wayRow_ q_wayMany q_keptRow_ q_askedRow_ q_rares_ q_trial_ q_keptMany q_askedMany q_hangs_ q_paths_ q_tornSteps q_hasTorn q_turnOne q_hasTurn q_text_ q_textMany q_toldMany q_toldAt_ q_hasTold q_stack_ q_codes q_ones q_top q_deep q_isWhole q_truths_ q_imaged_ q_namesKept_ q_areKept_), (q_s_, aC1 cy 383 q_s)] (fun u : (Nat → Int32) => (Rg u 0 1 0 8) ∧ (Rg u 1 3 0 6) ∧ (Rg u 3 4 1 50) ∧ (Rg u 4 5 1 5) ∧ (Rg u 103 104 0 255) ∧ (Rg u 7 23 0 5) ∧ (Rg u 106 122 0 5) ∧ (Rg u 23 31 0 99) ∧ (Rg u 122 130 0 99) ∧ (Sv u) ∧ (F7 u gs)) (fun u : (Nat → Int32) => [(q, oC11 q_thrown q_tape_ q_length q_size q_p q_limit q_s_ q_h_ q_read_ q_names_ q_reserved_ q_token q_at q_span q_number q_fault q_faultAt q_word q_got q_lines q_onces q_webs q_one q_two q_seed q_undone_ q_before_ q_undoMany q_far_ q_wayRow_ q_wayMany q_keptRow_ q_askedRow_ q_rares_ q_trial_ q_keptMany q_askedMany q_hangs_ q_paths_ q_tornSteps q_hasTorn q_turnOne q_hasTurn q_text_ q_textMany q_toldMany q_toldAt_ q_hasTold q_stack_ q_codes q_ones q_top q_deep q_isWhole q_truths_ q_imaged_ q_namesKept_ q_areKept_), (q_s_, aC1 cy 383 u)]) := by
  refine MV.enter (by decide) (Nat.le_of_ble_eq_true rfl) ?_
  intro p e s m below meth c ls A hsz hAe C hP hD hS hl
  exact b_y_asks l D cy q a q_thrown q_tape_ q_length q_size q_p q_limit q_s_ q_h_ q_read_ q_names_ q_reserved_ q_token q_at q_span q_number q_fault q_faultAt q_word q_got q_lines q_onces q_webs q_one q_two q_seed q_undone_ q_before_ q_undoMany q_far_ q_wayRow_ q_wayMany q_keptRow_ q_askedRow_ q_rares_ q_trial_ q_keptMany q_askedMany q_hangs_ q_paths_ q_tornSteps q_hasTorn q_turnOne q_hasTurn q_text_ q_textMany q_toldMany q_toldAt_ q_hasTold q_stack_ q_codes q_ones q_top q_deep q_isWhole q_truths_ q_imaged_ q_namesKept_ q_areKept_ q_s gs hb0 hb1 hb2 hb3 hb4 hb5 hb6 hb7 hb8 hb9 hb10 hb11 hb12 hb13 hb14 hb15 hb16 hb17 hb18 hb19 hb20 hb21 hb22 hR0 hR1 hR2 hR3 hR4 hR5 hR6 hR7 hR8 hR9 hR10 ⟨Nat.le_of_ble_eq_true rfl, Nat.le_of_ble_eq_true rfl⟩ C rfl _ _ ls hP hD hS hl
set_option maxHeartbeats 4000000 in
set_option maxRecDepth 100000 in
theorem b_y_isDusty (l : Launch) (D : va_G) (cy : Nat → ClassId) (q : Nat) (a : Int32) (q_thrown : Int32) (q_tape_ : Nat) (q_length : Int32) (q_size : Int32) (q_p : Int32) (q_limit : Int32) (q_s_ : Nat) (q_h_ : Nat) (q_read_ : Nat) (q_names_ : Nat) (q_reserved_ : Nat) (q_token : Int32) (q_at : Int32) (q_span : Int32) (q_number : Int32) (q_fault : Int32) (q_faultAt : Int32) (q_word : Int64) (q_got : Int32) (q_lines : Int32) (q_onces : Int32) (q_webs : Int32) (q_one : Int32) (q_two : Int32) (q_seed : Int32) (q_undone_ : Nat) (q_before_ : Nat) (q_undoMany : Int32) (q_far_ : Nat) (q_wayRow_ : Nat) (q_wayMany : Int32) (q_keptRow_ : Nat) (q_askedRow_ : Nat) (q_rares_ : Nat) (q_trial_ : Nat) (q_keptMany : Int32) (q_askedMany : Int32) (q_hangs_ : Nat) (q_paths_ : Nat) (q_tornSteps : Int32) (q_hasTorn : Int32) (q_turnOne : Int32) (q_hasTurn : Int32) (q_text_ : Nat) (q_textMany : Int32) (q_toldMany : Int32) (q_toldAt_ : Nat) (q_hasTold : Int32) (q_stack_ : Nat) (q_codes : Int32) (q_ones : Int32) (q_top : Int32) (q_deep : Int32) (q_isWhole : Int32) (q_truths_ : Nat) (q_imaged_ : Nat) (q_namesKept_ : Nat) (q_areKept_ : Nat) (q_s : Nat → Int32) (hb0 : 0 ≤ q_length.toInt ∧ q_length.toInt ≤ 940) (hb1 : 0 ≤ q_size.toInt ∧ q_size.toInt ≤ 940) (hb2 : 0 ≤ q_p.toInt ∧ q_p.toInt ≤ 940) (hb3 : 0 ≤ q_limit.toInt ∧ q_limit.toInt ≤ 940) (hb4 : 0 ≤ q_span.toInt ∧ q_span.toInt ≤ 940) (hb5 : 0 ≤ q_number.toInt ∧ q_number.toInt ≤ 8214) (hb6 : (-1) ≤ q_got.toInt ∧ q_got.toInt ≤ 8214) (hb7 : 0 ≤ q_one.toInt ∧ q_one.toInt ≤ 7) (hb8 : 0 ≤ q_two.toInt ∧ q_two.toInt ≤ 7) (hb9 : 0 ≤ q_undoMany.toInt ∧ q_undoMany.toInt ≤ 8) (hb10 : (-1) ≤ q_wayMany.toInt ∧ q_wayMany.toInt ≤ 8) (hb11 : (-1) ≤ q_keptMany.toInt ∧ q_keptMany.toInt ≤ 8) (hb12 : (-1) ≤ q_askedMany.toInt ∧ q_askedMany.toInt ≤ 3) (hb13 : 0 ≤ q_hasTorn.toInt ∧ q_hasTorn.toInt ≤ 1) (hb14 : 0 ≤ q_hasTurn.toInt ∧ q_hasTurn.toInt ≤ 1) (hb15 : 0 ≤ q_textMany.toInt ∧ q_textMany.toInt ≤ 48) (hb16 : 0 ≤ q_toldMany.toInt ∧ q_toldMany.toInt ≤ 40) (hb17 : 0 ≤ q_hasTold.toInt ∧ q_hasTold.toInt ≤ 1) (hb18 : 0 ≤ q_codes.toInt ∧ q_codes.toInt ≤ 40) (hb19 : 0 ≤ q_ones.toInt ∧ q_ones.toInt ≤ 20) (hb20 : 0 ≤ q_top.toInt ∧ q_top.toInt ≤ 40) (hb21 : 0 ≤ q_isWhole.toInt ∧ q_isWhole.toInt ≤ 1) (hR0 : Rg q_s 0 1 0 8) (hR1 : Rg q_s 1 3 0 6) (hR2 : Rg q_s 3 4 1 50) (hR3 : Rg q_s 4 5 1 5) (hR4 : Rg q_s 103 104 0 255) (hR5 : Rg q_s 7 23 0 5) (hR6 : Rg q_s 106 122 0 5) (hR7 : Rg q_s 23 31 0 99) (hR8 : Rg q_s 122 130 0 99) {p : Program} {e : Env} {s : State} {m : MethodId} {args : Array Value} {below : List Frame} {meth : Method} {c : Code} {A : Nat → Prop} {Q : State → Prop} {cells slots : Nat} (hroom : cells ≤ ((Rm 1 22 0 0)).cells ∧ slots ≤ ((Rm 1 22 0 0)).slots) (C : Cx p s m args meth c cX11_isDusty 5 (some .boolean) RX11 "isDusty" D cy A) (hQ : Q = MQ below (va_Qi (fun (r : Int32) (u : Unit) => (0 ≤ r.toInt ∧ r.toInt ≤ 1)) (Bx D A (fun u : Unit => [(q, oC11 q_thrown q_tape_ q_length q_size q_p q_limit q_s_ q_h_ q_read_ q_names_ q_reserved_ q_token q_at q_span q_number q_fault q_faultAt q_word q_got q_lines q_onces q_webs q_one q_two q_seed q_undone_ q_before_ q_undoMany q_far_ q_wayRow_ q_wayMany q_keptRow_ q_askedRow_ q_rares_ q_trial_ q_keptMany q_askedMany q_hangs_ q_paths_ q_tornSteps q_hasTorn q_turnOne q_hasTurn q_text_ q_textMany q_toldMany q_toldAt_ q_hasTold q_stack_ q_codes q_ones q_top q_deep q_isWhole q_truths_ q_imaged_ q_namesKept_ q_areKept_), (q_s_, aC1 cy 383 q_s)])) A) args s ((Rm 1 22 0 0)).cells ((Rm 1 22 0 0)).slots A) (H : Heap) (locs : List Loc) (ls : Array Slot) (hP : va_P D vwCl [(q, oC11 q_thrown q_tape_ q_length q_size q_p q_limit q_s_ q_h_ q_read_ q_names_ q_reserved_ q_token q_at q_span q_number q_fault q_faultAt q_word q_got q_lines q_onces q_webs q_one q_two q_seed q_undone_ q_before_ q_undoMany q_far_ q_wayRow_ q_wayMany q_keptRow_ q_askedRow_ q_rares_ q_trial_ q_keptMany q_askedMany q_hangs_ q_paths_ q_tornSteps q_hasTorn q_turnOne q_hasTurn q_text_ q_textMany q_toldMany q_toldAt_ q_hasTold q_stack_ q_codes q_ones q_top q_deep q_isWhole q_truths_ q_imaged_ q_namesKept_ q_areKept_), (q_s_, aC1 cy 383 q_s)] H) (hD : va_D A [(q, oC11 q_thrown q_tape_ q_length q_size q_p q_limit q_s_ q_h_ q_read_ q_names_ q_reserved_ q_token q_at q_span q_number q_fault q_faultAt q_word q_got q_lines q_onces q_webs q_one q_two q_seed q_undone_ q_before_ q_undoMany q_far_ q_wayRow_ q_wayMany q_keptRow_ q_askedRow_ q_rares_ q_trial_ q_keptMany q_askedMany q_hangs_ q_paths_ q_tornSteps q_hasTorn q_turnOne q_hasTurn q_text_ q_textMany q_toldMany q_toldAt_ q_hasTold q_stack_ q_codes q_ones q_top q_deep q_isWhole q_truths_ q_imaged_ q_namesKept_ q_areKept_), (q_s_, aC1 cy 383 q_s)]) (hS : va_S A s.heap H locs) (hl : lv_has ls 5 [(0, .ref q), (1, .int a)]) : W p l e (Rm 1 22 0 0) s m args below meth c H locs cells slots Q (F0 m 0 ls []) := by
  have hx := C.1
  have hb := C.2.1
  have hqa := o_rng a
  refine lv_iconst (v := 0) hx hb dX11_isDusty_0 (by decide) ?_
  refine lv_istore_n (lv' := [(2, .int 0), (0, .ref q), (1, .int a)]) hx hb dX11_isDusty_1 rfl hl (by decide) rfl (fun ls hl => ?_)
  refine lv_iconst (v := 0) hx hb dX11_isDusty_2 (by decide) ?_
  refine lv_istore_n (lv' := [(3, .int 0), (2, .int 0), (0, .ref q), (1, .int a)]) hx hb dX11_isDusty_3 rfl hl (by decide) rfl (fun ls hl => ?_)
  have lp_4_2 : ∀ (n_3 : Nat) (x_1 : Int32) (x_2 : Int32) (H : Heap) (locs : List Loc) (ls : Array Slot), (-1) * x_2.toInt + 8 < (n_3 : Int) → (0 ≤ x_1.toInt ∧ x_1.toInt ≤ 1) → (0 ≤ x_2.toInt ∧ x_2.toInt ≤ 8) → va_P D vwCl [(q, oC11 q_thrown q_tape_ q_length q_size q_p q_limit q_s_ q_h_ q_read_ q_names_ q_reserved_ q_token q_at q_span q_number q_fault q_faultAt q_word q_got q_lines q_onces q_webs q_one q_two q_seed q_undone_ q_before_ q_undoMany q_far_ q_wayRow_ q_wayMany q_keptRow_ q_askedRow_ q_rares_ q_trial_ q_keptMany q_askedMany q_hangs_ q_paths_ q_tornSteps q_hasTorn q_turnOne q_hasTurn q_text_ q_textMany q_toldMany q_toldAt_ q_hasTold q_stack_ q_codes q_ones q_top q_deep q_isWhole q_truths_ q_imaged_ q_namesKept_ q_areKept_), (q_s_, aC1 cy 383 q_s)] H → va_D A [(q, oC11 q_thrown q_tape_ q_length q_size q_p q_limit q_s_ q_h_ q_read_ q_names_ q_reserved_ q_token q_at q_span q_number q_fault q_faultAt q_word q_got q_lines q_onces q_webs q_one q_two q_seed q_undone_ q_before_ q_undoMany q_far_ q_wayRow_ q_wayMany q_keptRow_ q_askedRow_ q_rares_ q_trial_ q_keptMany q_askedMany q_hangs_ q_paths_ q_tornSteps q_hasTorn q_turnOne q_hasTurn q_text_ q_textMany q_toldMany q_toldAt_ q_hasTold q_stack_ q_codes q_ones q_top q_deep q_isWhole q_truths_ q_imaged_ q_namesKept_ q_areKept_), (q_s_, aC1 cy 383 q_s)] → va_S A s.heap H locs → lv_has ls 5 [(0, .ref q), (1, .int a), (2, .int x_1), (3, .int x_2)] → W p l e (Rm 1 22 0 0) s m args below meth c H locs cells slots Q (F0 m 4 ls []) := by
    intro n_3
    induction n_3 with
    | zero =>
      intro x_1 x_2 H locs ls hm_6 hf_4 hf_5 hP hD hS hl
      exact absurd hm_6 (by omega)
    | succ n_3 ih_7 =>
      intro x_1 x_2 H locs ls hm_6 hf_4 hf_5 hP hD hS hl
      refine lv_iload_n hx hb dX11_isDusty_4 rfl (lv_at hl 3 rfl) ?_
      refine lv_aload_n hx hb dX11_isDusty_5 rfl (lv_at hl 0 rfl) ?_
      refine q_get11 (v := .ref q_s_) C hP 0 6 rfl fT_6 (by decide) kF_RX11_33 rfl dX11_isDusty_6 ?_
      refine lv_iconst (v := 0) hx hb dX11_isDusty_9 (by decide) ?_
      refine q_iald (v := q_s 0) C hP 1 rfl (vin (by decide +kernel)) rfl dX11_isDusty_10 ?_
      refine lv_topi (fun z_9 ez_9 => ?_)
      have hz_9 : 0 ≤ z_9.toInt ∧ z_9.toInt ≤ 8 := (by rw [ez_9]; exact hR0 0 (by decide) (by decide))
      refine lv_icmp_ge (tgt := 98) hx hb dX11_isDusty_11 (by decide) (fun c_10 => ?_) (fun c_10 => ?_)
      · have hc_10 := o_le (rfl : z_9.toInt = z_9.toInt) (rfl : x_2.toInt = x_2.toInt) c_10
        refine lv_iload_n hx hb dX11_isDusty_98 rfl (lv_at hl 2 rfl) ?_
        refine o_wq hQ ?_
        exact q_iret (rm := (Rm 1 22 0 0)) C hS () (o_bool (rfl : x_1.toInt = x_1.toInt) (by omega) (by omega)).1 (show 0 ≤ x_1.toInt ∧ x_1.toInt ≤ 1 by omega) (q_subP hP [0, 1] rfl) (hD.sub [0, 1] (by decide) rfl) hroom.1 hroom.2 dX11_isDusty_99
      · have hc_10 := o_nle (rfl : z_9.toInt = z_9.toInt) (rfl : x_2.toInt = x_2.toInt) c_10
        refine lv_aload_n hx hb dX11_isDusty_14 rfl (lv_at hl 0 rfl) ?_
        refine q_get11 (v := .ref q_s_) C hP 0 6 rfl fT_6 (by decide) kF_RX11_33 rfl dX11_isDusty_15 ?_
        refine lv_bipush (v := 114) hx hb dX11_isDusty_18 (by decide) ?_
        refine lv_iload_n hx hb dX11_isDusty_20 rfl (lv_at hl 3 rfl) ?_
        refine lv_iadd hx hb dX11_isDusty_21 ?_
        refine lv_topi (fun z_11 hz_11 => ?_)
        have hz_11 := o_add hz_11 (by decide : (114 : Int32).toInt = 114) (rfl : x_2.toInt = x_2.toInt) (by omega) (by omega)
        refine q_iald (v := q_s z_11.toNatClampNeg) C hP 1 rfl (o_in (rfl : z_11.toInt = z_11.toInt) (by omega) (by omega)) rfl dX11_isDusty_22 ?_
        refine lv_topi (fun z_12 ez_12 => ?_)
        have hz_12 := Rg.at hR6 ez_12 (by have := o_cl (rfl : z_11.toInt = z_11.toInt) (by omega); omega) (by have := o_cl (rfl : z_11.toInt = z_11.toInt) (by omega); omega)
        refine lv_iload_n hx hb dX11_isDusty_23 rfl (lv_at hl 1 rfl) ?_
        refine lv_icmp_eq (tgt := 30) hx hb dX11_isDusty_24 (by decide) (fun c_13 => ?_) (fun c_13 => ?_)
        · have hc_13 := o_eq (rfl : z_12.toInt = z_12.toInt) (rfl : a.toInt = a.toInt) c_13
          refine lv_iload_n hx hb dX11_isDusty_30 rfl (lv_at hl 2 rfl) ?_
          refine lv_if_ne (tgt := 46) hx hb dX11_isDusty_31 (by decide) (fun c_14 => ?_) (fun c_14 => ?_)
          · have hc_14 := o_ne (rfl : x_1.toInt = x_1.toInt) (by decide : (0 : Int32).toInt = 0) c_14
            have hnc_14 : 0 ≤ x_1.toInt + (-1) := by rcases Int.lt_or_gt_of_ne hc_14 with h9 | h9 <;> omega
            refine lv_iconst (v := 1) hx hb dX11_isDusty_46 (by decide) ?_
            refine lv_goto (tgt := 51) hx hb dX11_isDusty_47 (by decide) ?_
            refine lv_istore_n (lv' := [(2, .int 1), (0, .ref q), (1, .int a), (3, .int x_2)]) hx hb dX11_isDusty_51 rfl hl (by decide) rfl (fun ls hl => ?_)
            refine lv_iconst (v := 0) hx hb dX11_isDusty_52 (by decide) ?_
            refine lv_istore (lv' := [(4, .int 0), (2, .int 1), (0, .ref q), (1, .int a), (3, .int x_2)]) hx hb dX11_isDusty_53 hl (by decide) rfl (fun ls hl => ?_)
            have lp_55_16 : ∀ (n_17 : Nat) (x_15 : Int32) (x_16 : Int32) (H : Heap) (locs : List Loc) (ls : Array Slot), (-1) * x_16.toInt + 8 < (n_17 : Int) → (0 ≤ x_15.toInt ∧ x_15.toInt ≤ 1) → (0 ≤ x_16.toInt ∧ x_16.toInt ≤ 8) → va_P D vwCl [(q, oC11 q_thrown q_tape_ q_length q_size q_p q_limit q_s_ q_h_ q_read_ q_names_ q_reserved_ q_token q_at q_span q_number q_fault q_faultAt q_word q_got q_lines q_onces q_webs q_one q_two q_seed q_undone_ q_before_ q_undoMany q_far_ q_wayRow_ q_wayMany q_keptRow_ q_askedRow_ q_rares_ q_trial_ q_keptMany q_askedMany q_hangs_ q_paths_ q_tornSteps q_hasTorn q_turnOne q_hasTurn q_text_ q_textMany q_toldMany q_toldAt_ q_hasTold q_stack_ q_codes q_ones q_top q_deep q_isWhole q_truths_ q_imaged_ q_namesKept_ q_areKept_), (q_s_, aC1 cy 383 q_s)] H → va_D A [(q, oC11 q_thrown q_tape_ q_length q_size q_p q_limit q_s_ q_h_ q_read_ q_names_ q_reserved_ q_token q_at q_span q_number q_fault q_faultAt q_word q_got q_lines q_onces q_webs q_one q_two q_seed q_undone_ q_before_ q_undoMany q_far_ q_wayRow_ q_wayMany q_keptRow_ q_askedRow_ q_rares_ q_trial_ q_keptMany q_askedMany q_hangs_ q_paths_ q_tornSteps q_hasTorn q_turnOne q_hasTurn q_text_ q_textMany q_toldMany q_toldAt_ q_hasTold q_stack_ q_codes q_ones q_top q_deep q_isWhole q_truths_ q_imaged_ q_namesKept_ q_areKept_), (q_s_, aC1 cy 383 q_s)] → va_S A s.heap H locs → lv_has ls 5 [(0, .ref q), (1, .int a), (2, .int x_15), (3, .int x_2), (4, .int x_16)] → W p l e (Rm 1 22 0 0) s m args below meth c H locs cells slots Q (F0 m 55 ls []) := by
              intro n_17
              induction n_17 with
              | zero =>
                intro x_15 x_16 H locs ls hm_20 hf_18 hf_19 hP hD hS hl
                exact absurd hm_20 (by omega)
              | succ n_17 ih_21 =>
                intro x_15 x_16 H locs ls hm_20 hf_18 hf_19 hP hD hS hl
                refine lv_iload hx hb dX11_isDusty_55 (lv_at hl 4 rfl) ?_
                refine lv_aload_n hx hb dX11_isDusty_57 rfl (lv_at hl 0 rfl) ?_
                refine q_get11 (v := .ref q_s_) C hP 0 6 rfl fT_6 (by decide) kF_RX11_33 rfl dX11_isDusty_58 ?_
                refine lv_iconst (v := 0) hx hb dX11_isDusty_61 (by decide) ?_
                refine q_iald (v := q_s 0) C hP 1 rfl (vin (by decide +kernel)) rfl dX11_isDusty_62 ?_
                refine lv_topi (fun z_23 ez_23 => ?_)
                have hz_23 : 0 ≤ z_23.toInt ∧ z_23.toInt ≤ 8 := (by rw [ez_23]; exact hR0 0 (by decide) (by decide))
                refine lv_icmp_ge (tgt := 92) hx hb dX11_isDusty_63 (by decide) (fun c_24 => ?_) (fun c_24 => ?_)
                · have hc_24 := o_le (rfl : z_23.toInt = z_23.toInt) (rfl : x_16.toInt = x_16.toInt) c_24
                  obtain ⟨z_25, hz_25⟩ : ∃ z : Int32, z = x_2 + 1 := ⟨_, rfl⟩
                  refine lv_iinc (v := z_25) (lv' := [(3, .int z_25), (0, .ref q), (1, .int a), (2, .int x_15), (4, .int x_16)]) hx hb dX11_isDusty_92 hl (k := 3) rfl hz_25.symm (by decide) rfl (fun ls hl => ?_)
                  have hz_25 := o_add hz_25 (rfl : x_2.toInt = x_2.toInt) (by decide : (1 : Int32).toInt = 1) (by omega) (by omega)
                  refine lv_goto (tgt := 4) hx hb dX11_isDusty_95 (by decide) ?_
                  exact ih_7 x_15 z_25 H locs ls (by omega) (by omega) (by omega) hP hD hS (lv_sub hl [1, 2, 3, 0] rfl)
                · have hc_24 := o_nle (rfl : z_23.toInt = z_23.toInt) (rfl : x_16.toInt = x_16.toInt) c_24
                  refine lv_iload_n hx hb dX11_isDusty_66 rfl (lv_at hl 2 rfl) ?_
                  refine lv_if_ne (tgt := 80) hx hb dX11_isDusty_67 (by decide) (fun c_26 => ?_) (fun c_26 => ?_)
                  · have hc_26 := o_ne (rfl : x_15.toInt = x_15.toInt) (by decide : (0 : Int32).toInt = 0) c_26
                    have hnc_26 : 0 ≤ x_15.toInt + (-1) := by rcases Int.lt_or_gt_of_ne hc_26 with h9 | h9 <;> omega
                    refine lv_iconst (v := 1) hx hb dX11_isDusty_80 (by decide) ?_
                    refine lv_goto (tgt := 85) hx hb dX11_isDusty_81 (by decide) ?_
                    refine lv_istore_n (lv' := [(2, .int 1), (0, .ref q), (1, .int a), (3, .int x_2), (4, .int x_16)]) hx hb dX11_isDusty_85 rfl hl (by decide) rfl (fun ls hl => ?_)
                    obtain ⟨z_27, hz_27⟩ : ∃ z : Int32, z = x_16 + 1 := ⟨_, rfl⟩
                    refine lv_iinc (v := z_27) (lv' := [(4, .int z_27), (2, .int 1), (0, .ref q), (1, .int a), (3, .int x_2)]) hx hb dX11_isDusty_86 hl (k := 4) rfl hz_27.symm (by decide) rfl (fun ls hl => ?_)
                    have hz_27 := o_add hz_27 (rfl : x_16.toInt = x_16.toInt) (by decide : (1 : Int32).toInt = 1) (by omega) (by omega)
                    refine lv_goto (tgt := 55) hx hb dX11_isDusty_89 (by decide) ?_
                    exact ih_21 (1 : Int32) z_27 H locs ls (by have e0 : (1 : Int32).toInt = 1 := (by decide); omega) (by have e0 : (1 : Int32).toInt = 1 := (by decide); omega) (by have e0 : (1 : Int32).toInt = 1 := (by decide); omega) hP hD hS (lv_sub hl [2, 3, 1, 4, 0] rfl)
                  · have hc_26 := o_eq (rfl : x_15.toInt = x_15.toInt) (by decide : (0 : Int32).toInt = 0) c_26
                    refine lv_aload_n hx hb dX11_isDusty_70 rfl (lv_at hl 0 rfl) ?_
                    refine lv_iload_n hx hb dX11_isDusty_71 rfl (lv_at hl 3 rfl) ?_
                    refine lv_iload hx hb dX11_isDusty_72 (lv_at hl 4 rfl) ?_
                    refine q_ai (wr := []) (r_V (rm := (Rm 0 0 0 0)) (q0 := 0) (As := [.int x_2, .int x_16]) (rest := []) (wc := [(q, oC11 q_thrown q_tape_ q_length q_size q_p q_limit q_s_ q_h_ q_read_ q_names_ q_reserved_ q_token q_at q_span q_number q_fault q_faultAt q_word q_got q_lines q_onces q_webs q_one q_two q_seed q_undone_ q_before_ q_undoMany q_far_ q_wayRow_ q_wayMany q_keptRow_ q_askedRow_ q_rares_ q_trial_ q_keptMany q_askedMany q_hangs_ q_paths_ q_tornSteps q_hasTorn q_turnOne q_hasTurn q_text_ q_textMany q_toldMany q_toldAt_ q_hasTold q_stack_ q_codes q_ones q_top q_deep q_isWhole q_truths_ q_imaged_ q_namesKept_ q_areKept_), (q_s_, aC1 cy 383 q_s)]) C hS (q_subP hP [0, 1] rfl) (hD.sub [0, 1] (by decide) rfl) (y_threadOf l D cy q x_2 x_16 q_thrown q_tape_ q_length q_size q_p q_limit q_s_ q_h_ q_read_ q_names_ q_reserved_ q_token q_at q_span q_number q_fault q_faultAt q_word q_got q_lines q_onces q_webs q_one q_two q_seed q_undone_ q_before_ q_undoMany q_far_ q_wayRow_ q_wayMany q_keptRow_ q_askedRow_ q_rares_ q_trial_ q_keptMany q_askedMany q_hangs_ q_paths_ q_tornSteps q_hasTorn q_turnOne q_hasTurn q_text_ q_textMany q_toldMany q_toldAt_ q_hasTold q_stack_ q_codes q_ones q_top q_deep q_isWhole q_truths_ q_imaged_ q_namesKept_ q_areKept_ q_s _ (by omega) (by omega) (by omega) (by omega) (by omega) (by omega) (by omega) (by omega) (by omega) (by omega) (by omega) (by omega) (by omega) (by omega) (by omega) (by omega) (by omega) (by omega) (by omega) (by omega) (by omega) (by omega) (by omega) (by omega) hR0 hR1 hR2 hR3 hR4 hR5 hR6 hR7 hR8) kwV_X11_threadOf kM_RX11_291 rfl rfl ⟨Nat.le_of_ble_eq_true rfl, Nat.le_of_ble_eq_true rfl⟩ rfl hl.1 rfl (Nat.le_of_ble_eq_true rfl) dX11_isDusty_74 ⟨hroom.1, hroom.2⟩) C.2.2.2.2.2.2.1 hP hD hS [0, 1] [] rfl rfl (by decide) (by decide) (fun r_29 u_28 H locs hw_30 hP hD hS => ?_)
                    have hp_30 : r_29 = thr q_s x_2 x_16 := hw_30
                    clear hw_30
                    refine lv_if_le (tgt := 84) hx hb dX11_isDusty_77 (by decide) (fun c_32 => ?_) (fun c_32 => ?_)
                    · have hc_32 := o_le (rfl : r_29.toInt = r_29.toInt) (by decide : (0 : Int32).toInt = 0) c_32
                      refine lv_iconst (v := 0) hx hb dX11_isDusty_84 (by decide) ?_
                      refine lv_istore_n (lv' := [(2, .int 0), (0, .ref q), (1, .int a), (3, .int x_2), (4, .int x_16)]) hx hb dX11_isDusty_85 rfl hl (by decide) rfl (fun ls hl => ?_)
                      obtain ⟨z_33, hz_33⟩ : ∃ z : Int32, z = x_16 + 1 := ⟨_, rfl⟩
                      refine lv_iinc (v := z_33) (lv' := [(4, .int z_33), (2, .int 0), (0, .ref q), (1, .int a), (3, .int x_2)]) hx hb dX11_isDusty_86 hl (k := 4) rfl hz_33.symm (by decide) rfl (fun ls hl => ?_)
                      have hz_33 := o_add hz_33 (rfl : x_16.toInt = x_16.toInt) (by decide : (1 : Int32).toInt = 1) (by omega) (by omega)
                      refine lv_goto (tgt := 55) hx hb dX11_isDusty_89 (by decide) ?_
                      exact ih_21 (0 : Int32) z_33 H locs ls (by have e0 : (0 : Int32).toInt = 0 := (by decide); omega) (by have e0 : (0 : Int32).toInt = 0 := (by decide); omega) (by have e0 : (0 : Int32).toInt = 0 := (by decide); omega) hP hD hS (lv_sub hl [2, 3, 1, 4, 0] rfl)
                    · have hc_32 := o_nle (rfl : r_29.toInt = r_29.toInt) (by decide : (0 : Int32).toInt = 0) c_32
                      refine lv_iconst (v := 1) hx hb dX11_isDusty_80 (by decide) ?_
                      refine lv_goto (tgt := 85) hx hb dX11_isDusty_81 (by decide) ?_
                      refine lv_istore_n (lv' := [(2, .int 1), (0, .ref q), (1, .int a), (3, .int x_2), (4, .int x_16)]) hx hb dX11_isDusty_85 rfl hl (by decide) rfl (fun ls hl => ?_)
                      obtain ⟨z_34, hz_34⟩ : ∃ z : Int32, z = x_16 + 1 := ⟨_, rfl⟩
                      refine lv_iinc (v := z_34) (lv' := [(4, .int z_34), (2, .int 1), (0, .ref q), (1, .int a), (3, .int x_2)]) hx hb dX11_isDusty_86 hl (k := 4) rfl hz_34.symm (by decide) rfl (fun ls hl => ?_)
                      have hz_34 := o_add hz_34 (rfl : x_16.toInt = x_16.toInt) (by decide : (1 : Int32).toInt = 1) (by omega) (by omega)
                      refine lv_goto (tgt := 55) hx hb dX11_isDusty_89 (by decide) ?_
                      exact ih_21 (1 : Int32) z_34 H locs ls (by have e0 : (1 : Int32).toInt = 1 := (by decide); omega) (by have e0 : (1 : Int32).toInt = 1 := (by decide); omega) (by have e0 : (1 : Int32).toInt = 1 := (by decide); omega) hP hD hS (lv_sub hl [2, 3, 1, 4, 0] rfl)
            exact lp_55_16 9 (1 : Int32) (0 : Int32) H locs ls (by have e0 : (0 : Int32).toInt = 0 := (by decide); have e1 : (1 : Int32).toInt = 1 := (by decide); omega) (by have e0 : (0 : Int32).toInt = 0 := (by decide); have e1 : (1 : Int32).toInt = 1 := (by decide); omega) (by have e0 : (0 : Int32).toInt = 0 := (by decide); have e1 : (1 : Int32).toInt = 1 := (by decide); omega) hP hD hS (lv_sub hl [2, 3, 1, 4, 0] rfl)
          · have hc_14 := o_eq (rfl : x_1.toInt = x_1.toInt) (by decide : (0 : Int32).toInt = 0) c_14
            refine lv_aload_n hx hb dX11_isDusty_34 rfl (lv_at hl 0 rfl) ?_
            refine q_get11 (v := .ref q_s_) C hP 0 6 rfl fT_6 (by decide) kF_RX11_33 rfl dX11_isDusty_35 ?_
            refine lv_bipush (v := 122) hx hb dX11_isDusty_38 (by decide) ?_
            refine lv_iload_n hx hb dX11_isDusty_40 rfl (lv_at hl 3 rfl) ?_
            refine lv_iadd hx hb dX11_isDusty_41 ?_
            refine lv_topi (fun z_35 hz_35 => ?_)
            have hz_35 := o_add hz_35 (by decide : (122 : Int32).toInt = 122) (rfl : x_2.toInt = x_2.toInt) (by omega) (by omega)
            refine q_iald (v := q_s z_35.toNatClampNeg) C hP 1 rfl (o_in (rfl : z_35.toInt = z_35.toInt) (by omega) (by omega)) rfl dX11_isDusty_42 ?_
            refine lv_topi (fun z_36 ez_36 => ?_)
            have hz_36 := Rg.at hR8 ez_36 (by have := o_cl (rfl : z_35.toInt = z_35.toInt) (by omega); omega) (by have := o_cl (rfl : z_35.toInt = z_35.toInt) (by omega); omega)
            refine lv_if_le (tgt := 50) hx hb dX11_isDusty_43 (by decide) (fun c_37 => ?_) (fun c_37 => ?_)
            · have hc_37 := o_le (rfl : z_36.toInt = z_36.toInt) (by decide : (0 : Int32).toInt = 0) c_37
              refine lv_iconst (v := 0) hx hb dX11_isDusty_50 (by decide) ?_
              refine lv_istore_n (lv' := [(2, .int 0), (0, .ref q), (1, .int a), (3, .int x_2)]) hx hb dX11_isDusty_51 rfl hl (by decide) rfl (fun ls hl => ?_)
              refine lv_iconst (v := 0) hx hb dX11_isDusty_52 (by decide) ?_
              refine lv_istore (lv' := [(4, .int 0), (2, .int 0), (0, .ref q), (1, .int a), (3, .int x_2)]) hx hb dX11_isDusty_53 hl (by decide) rfl (fun ls hl => ?_)
              have lp_55_39 : ∀ (n_40 : Nat) (x_38 : Int32) (x_39 : Int32) (H : Heap) (locs : List Loc) (ls : Array Slot), (-1) * x_39.toInt + 8 < (n_40 : Int) → (0 ≤ x_38.toInt ∧ x_38.toInt ≤ 1) → (0 ≤ x_39.toInt ∧ x_39.toInt ≤ 8) → va_P D vwCl [(q, oC11 q_thrown q_tape_ q_length q_size q_p q_limit q_s_ q_h_ q_read_ q_names_ q_reserved_ q_token q_at q_span q_number q_fault q_faultAt q_word q_got q_lines q_onces q_webs q_one q_two q_seed q_undone_ q_before_ q_undoMany q_far_ q_wayRow_ q_wayMany q_keptRow_ q_askedRow_ q_rares_ q_trial_ q_keptMany q_askedMany q_hangs_ q_paths_ q_tornSteps q_hasTorn q_turnOne q_hasTurn q_text_ q_textMany q_toldMany q_toldAt_ q_hasTold q_stack_ q_codes q_ones q_top q_deep q_isWhole q_truths_ q_imaged_ q_namesKept_ q_areKept_), (q_s_, aC1 cy 383 q_s)] H → va_D A [(q, oC11 q_thrown q_tape_ q_length q_size q_p q_limit q_s_ q_h_ q_read_ q_names_ q_reserved_ q_token q_at q_span q_number q_fault q_faultAt q_word q_got q_lines q_onces q_webs q_one q_two q_seed q_undone_ q_before_ q_undoMany q_far_ q_wayRow_ q_wayMany q_keptRow_ q_askedRow_ q_rares_ q_trial_ q_keptMany q_askedMany q_hangs_ q_paths_ q_tornSteps q_hasTorn q_turnOne q_hasTurn q_text_ q_textMany q_toldMany q_toldAt_ q_hasTold q_stack_ q_codes q_ones q_top q_deep q_isWhole q_truths_ q_imaged_ q_namesKept_ q_areKept_), (q_s_, aC1 cy 383 q_s)] → va_S A s.heap H locs → lv_has ls 5 [(0, .ref q), (1, .int a), (2, .int x_38), (3, .int x_2), (4, .int x_39)] → W p l e (Rm 1 22 0 0) s m args below meth c H locs cells slots Q (F0 m 55 ls []) := by
                intro n_40
                induction n_40 with
                | zero =>
                  intro x_38 x_39 H locs ls hm_43 hf_41 hf_42 hP hD hS hl
                  exact absurd hm_43 (by omega)
                | succ n_40 ih_44 =>
                  intro x_38 x_39 H locs ls hm_43 hf_41 hf_42 hP hD hS hl
                  refine lv_iload hx hb dX11_isDusty_55 (lv_at hl 4 rfl) ?_
                  refine lv_aload_n hx hb dX11_isDusty_57 rfl (lv_at hl 0 rfl) ?_
                  refine q_get11 (v := .ref q_s_) C hP 0 6 rfl fT_6 (by decide) kF_RX11_33 rfl dX11_isDusty_58 ?_
                  refine lv_iconst (v := 0) hx hb dX11_isDusty_61 (by decide) ?_
                  refine q_iald (v := q_s 0) C hP 1 rfl (vin (by decide +kernel)) rfl dX11_isDusty_62 ?_
                  refine lv_topi (fun z_46 ez_46 => ?_)
                  have hz_46 : 0 ≤ z_46.toInt ∧ z_46.toInt ≤ 8 := (by rw [ez_46]; exact hR0 0 (by decide) (by decide))
                  refine lv_icmp_ge (tgt := 92) hx hb dX11_isDusty_63 (by decide) (fun c_47 => ?_) (fun c_47 => ?_)
                  · have hc_47 := o_le (rfl : z_46.toInt = z_46.toInt) (rfl : x_39.toInt = x_39.toInt) c_47
                    obtain ⟨z_48, hz_48⟩ : ∃ z : Int32, z = x_2 + 1 := ⟨_, rfl⟩
                    refine lv_iinc (v := z_48) (lv' := [(3, .int z_48), (0, .ref q), (1, .int a), (2, .int x_38), (4, .int x_39)]) hx hb dX11_isDusty_92 hl (k := 3) rfl hz_48.symm (by decide) rfl (fun ls hl => ?_)
                    have hz_48 := o_add hz_48 (rfl : x_2.toInt = x_2.toInt) (by decide : (1 : Int32).toInt = 1) (by omega) (by omega)
                    refine lv_goto (tgt := 4) hx hb dX11_isDusty_95 (by decide) ?_
                    exact ih_7 x_38 z_48 H locs ls (by omega) (by omega) (by omega) hP hD hS (lv_sub hl [1, 2, 3, 0] rfl)
                  · have hc_47 := o_nle (rfl : z_46.toInt = z_46.toInt) (rfl : x_39.toInt = x_39.toInt) c_47
                    refine lv_iload_n hx hb dX11_isDusty_66 rfl (lv_at hl 2 rfl) ?_
                    refine lv_if_ne (tgt := 80) hx hb dX11_isDusty_67 (by decide) (fun c_49 => ?_) (fun c_49 => ?_)
                    · have hc_49 := o_ne (rfl : x_38.toInt = x_38.toInt) (by decide : (0 : Int32).toInt = 0) c_49
                      have hnc_49 : 0 ≤ x_38.toInt + (-1) := by rcases Int.lt_or_gt_of_ne hc_49 with h9 | h9 <;> omega
                      refine lv_iconst (v := 1) hx hb dX11_isDusty_80 (by decide) ?_
                      refine lv_goto (tgt := 85) hx hb dX11_isDusty_81 (by decide) ?_
                      refine lv_istore_n (lv' := [(2, .int 1), (0, .ref q), (1, .int a), (3, .int x_2), (4, .int x_39)]) hx hb dX11_isDusty_85 rfl hl (by decide) rfl (fun ls hl => ?_)
                      obtain ⟨z_50, hz_50⟩ : ∃ z : Int32, z = x_39 + 1 := ⟨_, rfl⟩
                      refine lv_iinc (v := z_50) (lv' := [(4, .int z_50), (2, .int 1), (0, .ref q), (1, .int a), (3, .int x_2)]) hx hb dX11_isDusty_86 hl (k := 4) rfl hz_50.symm (by decide) rfl (fun ls hl => ?_)
                      have hz_50 := o_add hz_50 (rfl : x_39.toInt = x_39.toInt) (by decide : (1 : Int32).toInt = 1) (by omega) (by omega)
                      refine lv_goto (tgt := 55) hx hb dX11_isDusty_89 (by decide) ?_
                      exact ih_44 (1 : Int32) z_50 H locs ls (by have e0 : (1 : Int32).toInt = 1 := (by decide); omega) (by have e0 : (1 : Int32).toInt = 1 := (by decide); omega) (by have e0 : (1 : Int32).toInt = 1 := (by decide); omega) hP hD hS (lv_sub hl [2, 3, 1, 4, 0] rfl)
                    · have hc_49 := o_eq (rfl : x_38.toInt = x_38.toInt) (by decide : (0 : Int32).toInt = 0) c_49
                      refine lv_aload_n hx hb dX11_isDusty_70 rfl (lv_at hl 0 rfl) ?_
                      refine lv_iload_n hx hb dX11_isDusty_71 rfl (lv_at hl 3 rfl) ?_
                      refine lv_iload hx hb dX11_isDusty_72 (lv_at hl 4 rfl) ?_
                      refine q_ai (wr := []) (r_V (rm := (Rm 0 0 0 0)) (q0 := 0) (As := [.int x_2, .int x_39]) (rest := []) (wc := [(q, oC11 q_thrown q_tape_ q_length q_size q_p q_limit q_s_ q_h_ q_read_ q_names_ q_reserved_ q_token q_at q_span q_number q_fault q_faultAt q_word q_got q_lines q_onces q_webs q_one q_two q_seed q_undone_ q_before_ q_undoMany q_far_ q_wayRow_ q_wayMany q_keptRow_ q_askedRow_ q_rares_ q_trial_ q_keptMany q_askedMany q_hangs_ q_paths_ q_tornSteps q_hasTorn q_turnOne q_hasTurn q_text_ q_textMany q_toldMany q_toldAt_ q_hasTold q_stack_ q_codes q_ones q_top q_deep q_isWhole q_truths_ q_imaged_ q_namesKept_ q_areKept_), (q_s_, aC1 cy 383 q_s)]) C hS (q_subP hP [0, 1] rfl) (hD.sub [0, 1] (by decide) rfl) (y_threadOf l D cy q x_2 x_39 q_thrown q_tape_ q_length q_size q_p q_limit q_s_ q_h_ q_read_ q_names_ q_reserved_ q_token q_at q_span q_number q_fault q_faultAt q_word q_got q_lines q_onces q_webs q_one q_two q_seed q_undone_ q_before_ q_undoMany q_far_ q_wayRow_ q_wayMany q_keptRow_ q_askedRow_ q_rares_ q_trial_ q_keptMany q_askedMany q_hangs_ q_paths_ q_tornSteps q_hasTorn q_turnOne q_hasTurn q_text_ q_textMany q_toldMany q_toldAt_ q_hasTold q_stack_ q_codes q_ones q_top q_deep q_isWhole q_truths_ q_imaged_ q_namesKept_ q_areKept_ q_s _ (by omega) (by omega) (by omega) (by omega) (by omega) (by omega) (by omega) (by omega) (by omega) (by omega) (by omega) (by omega) (by omega) (by omega) (by omega) (by omega) (by omega) (by omega) (by omega) (by omega) (by omega) (by omega) (by omega) (by omega) hR0 hR1 hR2 hR3 hR4 hR5 hR6 hR7 hR8) kwV_X11_threadOf kM_RX11_291 rfl rfl ⟨Nat.le_of_ble_eq_true rfl, Nat.le_of_ble_eq_true rfl⟩ rfl hl.1 rfl (Nat.le_of_ble_eq_true rfl) dX11_isDusty_74 ⟨hroom.1, hroom.2⟩) C.2.2.2.2.2.2.1 hP hD hS [0, 1] [] rfl rfl (by decide) (by decide) (fun r_52 u_51 H locs hw_53 hP hD hS => ?_)
                      have hp_53 : r_52 = thr q_s x_2 x_39 := hw_53
                      clear hw_53
                      refine lv_if_le (tgt := 84) hx hb dX11_isDusty_77 (by decide) (fun c_55 => ?_) (fun c_55 => ?_)
                      · have hc_55 := o_le (rfl : r_52.toInt = r_52.toInt) (by decide : (0 : Int32).toInt = 0) c_55
                        refine lv_iconst (v := 0) hx hb dX11_isDusty_84 (by decide) ?_
                        refine lv_istore_n (lv' := [(2, .int 0), (0, .ref q), (1, .int a), (3, .int x_2), (4, .int x_39)]) hx hb dX11_isDusty_85 rfl hl (by decide) rfl (fun ls hl => ?_)
                        obtain ⟨z_56, hz_56⟩ : ∃ z : Int32, z = x_39 + 1 := ⟨_, rfl⟩
                        refine lv_iinc (v := z_56) (lv' := [(4, .int z_56), (2, .int 0), (0, .ref q), (1, .int a), (3, .int x_2)]) hx hb dX11_isDusty_86 hl (k := 4) rfl hz_56.symm (by decide) rfl (fun ls hl => ?_)
                        have hz_56 := o_add hz_56 (rfl : x_39.toInt = x_39.toInt) (by decide : (1 : Int32).toInt = 1) (by omega) (by omega)
                        refine lv_goto (tgt := 55) hx hb dX11_isDusty_89 (by decide) ?_
                        exact ih_44 (0 : Int32) z_56 H locs ls (by have e0 : (0 : Int32).toInt = 0 := (by decide); omega) (by have e0 : (0 : Int32).toInt = 0 := (by decide); omega) (by have e0 : (0 : Int32).toInt = 0 := (by decide); omega) hP hD hS (lv_sub hl [2, 3, 1, 4, 0] rfl)
                      · have hc_55 := o_nle (rfl : r_52.toInt = r_52.toInt) (by decide : (0 : Int32).toInt = 0) c_55
                        refine lv_iconst (v := 1) hx hb dX11_isDusty_80 (by decide) ?_
                        refine lv_goto (tgt := 85) hx hb dX11_isDusty_81 (by decide) ?_
                        refine lv_istore_n (lv' := [(2, .int 1), (0, .ref q), (1, .int a), (3, .int x_2), (4, .int x_39)]) hx hb dX11_isDusty_85 rfl hl (by decide) rfl (fun ls hl => ?_)
                        obtain ⟨z_57, hz_57⟩ : ∃ z : Int32, z = x_39 + 1 := ⟨_, rfl⟩
                        refine lv_iinc (v := z_57) (lv' := [(4, .int z_57), (2, .int 1), (0, .ref q), (1, .int a), (3, .int x_2)]) hx hb dX11_isDusty_86 hl (k := 4) rfl hz_57.symm (by decide) rfl (fun ls hl => ?_)
                        have hz_57 := o_add hz_57 (rfl : x_39.toInt = x_39.toInt) (by decide : (1 : Int32).toInt = 1) (by omega) (by omega)
                        refine lv_goto (tgt := 55) hx hb dX11_isDusty_89 (by decide) ?_
                        exact ih_44 (1 : Int32) z_57 H locs ls (by have e0 : (1 : Int32).toInt = 1 := (by decide); omega) (by have e0 : (1 : Int32).toInt = 1 := (by decide); omega) (by have e0 : (1 : Int32).toInt = 1 := (by decide); omega) hP hD hS (lv_sub hl [2, 3, 1, 4, 0] rfl)
              exact lp_55_39 9 (0 : Int32) (0 : Int32) H locs ls (by have e0 : (0 : Int32).toInt = 0 := (by decide); omega) (by have e0 : (0 : Int32).toInt = 0 := (by decide); omega) (by have e0 : (0 : Int32).toInt = 0 := (by decide); omega) hP hD hS (lv_sub hl [2, 3, 1, 4, 0] rfl)
            · have hc_37 := o_nle (rfl : z_36.toInt = z_36.toInt) (by decide : (0 : Int32).toInt = 0) c_37
              refine lv_iconst (v := 1) hx hb dX11_isDusty_46 (by decide) ?_
              refine lv_goto (tgt := 51) hx hb dX11_isDusty_47 (by decide) ?_
              refine lv_istore_n (lv' := [(2, .int 1), (0, .ref q), (1, .int a), (3, .int x_2)]) hx hb dX11_isDusty_51 rfl hl (by decide) rfl (fun ls hl => ?_)
              refine lv_iconst (v := 0) hx hb dX11_isDusty_52 (by decide) ?_
              refine lv_istore (lv' := [(4, .int 0), (2, .int 1), (0, .ref q), (1, .int a), (3, .int x_2)]) hx hb dX11_isDusty_53 hl (by decide) rfl (fun ls hl => ?_)
              have lp_55_59 : ∀ (n_60 : Nat) (x_58 : Int32) (x_59 : Int32) (H : Heap) (locs : List Loc) (ls : Array Slot), (-1) * x_59.toInt + 8 < (n_60 : Int) → (0 ≤ x_58.toInt ∧ x_58.toInt ≤ 1) → (0 ≤ x_59.toInt ∧ x_59.toInt ≤ 8) → va_P D vwCl [(q, oC11 q_thrown q_tape_ q_length q_size q_p q_limit q_s_ q_h_ q_read_ q_names_ q_reserved_ q_token q_at q_span q_number q_fault q_faultAt q_word q_got q_lines q_onces q_webs q_one q_two q_seed q_undone_ q_before_ q_undoMany q_far_ q_wayRow_ q_wayMany q_keptRow_ q_askedRow_ q_rares_ q_trial_ q_keptMany q_askedMany q_hangs_ q_paths_ q_tornSteps q_hasTorn q_turnOne q_hasTurn q_text_ q_textMany q_toldMany q_toldAt_ q_hasTold q_stack_ q_codes q_ones q_top q_deep q_isWhole q_truths_ q_imaged_ q_namesKept_ q_areKept_), (q_s_, aC1 cy 383 q_s)] H → va_D A [(q, oC11 q_thrown q_tape_ q_length q_size q_p q_limit q_s_ q_h_ q_read_ q_names_ q_reserved_ q_token q_at q_span q_number q_fault q_faultAt q_word q_got q_lines q_onces q_webs q_one q_two q_seed q_undone_ q_before_ q_undoMany q_far_ q_wayRow_ q_wayMany q_keptRow_ q_askedRow_ q_rares_ q_trial_ q_keptMany q_askedMany q_hangs_ q_paths_ q_tornSteps q_hasTorn q_turnOne q_hasTurn q_text_ q_textMany q_toldMany q_toldAt_ q_hasTold q_stack_ q_codes q_ones q_top q_deep q_isWhole q_truths_ q_imaged_ q_namesKept_ q_areKept_), (q_s_, aC1 cy 383 q_s)] → va_S A s.heap H locs → lv_has ls 5 [(0, .ref q), (1, .int a), (2, .int x_58), (3, .int x_2), (4, .int x_59)] → W p l e (Rm 1 22 0 0) s m args below meth c H locs cells slots Q (F0 m 55 ls []) := by
                intro n_60
                induction n_60 with
                | zero =>
                  intro x_58 x_59 H locs ls hm_63 hf_61 hf_62 hP hD hS hl
                  exact absurd hm_63 (by omega)
                | succ n_60 ih_64 =>
                  intro x_58 x_59 H locs ls hm_63 hf_61 hf_62 hP hD hS hl
                  refine lv_iload hx hb dX11_isDusty_55 (lv_at hl 4 rfl) ?_
                  refine lv_aload_n hx hb dX11_isDusty_57 rfl (lv_at hl 0 rfl) ?_
                  refine q_get11 (v := .ref q_s_) C hP 0 6 rfl fT_6 (by decide) kF_RX11_33 rfl dX11_isDusty_58 ?_
                  refine lv_iconst (v := 0) hx hb dX11_isDusty_61 (by decide) ?_
                  refine q_iald (v := q_s 0) C hP 1 rfl (vin (by decide +kernel)) rfl dX11_isDusty_62 ?_
                  refine lv_topi (fun z_66 ez_66 => ?_)
                  have hz_66 : 0 ≤ z_66.toInt ∧ z_66.toInt ≤ 8 := (by rw [ez_66]; exact hR0 0 (by decide) (by decide))
                  refine lv_icmp_ge (tgt := 92) hx hb dX11_isDusty_63 (by decide) (fun c_67 => ?_) (fun c_67 => ?_)
                  · have hc_67 := o_le (rfl : z_66.toInt = z_66.toInt) (rfl : x_59.toInt = x_59.toInt) c_67
                    obtain ⟨z_68, hz_68⟩ : ∃ z : Int32, z = x_2 + 1 := ⟨_, rfl⟩
                    refine lv_iinc (v := z_68) (lv' := [(3, .int z_68), (0, .ref q), (1, .int a), (2, .int x_58), (4, .int x_59)]) hx hb dX11_isDusty_92 hl (k := 3) rfl hz_68.symm (by decide) rfl (fun ls hl => ?_)
                    have hz_68 := o_add hz_68 (rfl : x_2.toInt = x_2.toInt) (by decide : (1 : Int32).toInt = 1) (by omega) (by omega)
                    refine lv_goto (tgt := 4) hx hb dX11_isDusty_95 (by decide) ?_
                    exact ih_7 x_58 z_68 H locs ls (by omega) (by omega) (by omega) hP hD hS (lv_sub hl [1, 2, 3, 0] rfl)
                  · have hc_67 := o_nle (rfl : z_66.toInt = z_66.toInt) (rfl : x_59.toInt = x_59.toInt) c_67
                    refine lv_iload_n hx hb dX11_isDusty_66 rfl (lv_at hl 2 rfl) ?_
                    refine lv_if_ne (tgt := 80) hx hb dX11_isDusty_67 (by decide) (fun c_69 => ?_) (fun c_69 => ?_)
                    · have hc_69 := o_ne (rfl : x_58.toInt = x_58.toInt) (by decide : (0 : Int32).toInt = 0) c_69
                      have hnc_69 : 0 ≤ x_58.toInt + (-1) := by rcases Int.lt_or_gt_of_ne hc_69 with h9 | h9 <;> omega
                      refine lv_iconst (v := 1) hx hb dX11_isDusty_80 (by decide) ?_
                      refine lv_goto (tgt := 85) hx hb dX11_isDusty_81 (by decide) ?_
                      refine lv_istore_n (lv' := [(2, .int 1), (0, .ref q), (1, .int a), (3, .int x_2), (4, .int x_59)]) hx hb dX11_isDusty_85 rfl hl (by decide) rfl (fun ls hl => ?_)
                      obtain ⟨z_70, hz_70⟩ : ∃ z : Int32, z = x_59 + 1 := ⟨_, rfl⟩
                      refine lv_iinc (v := z_70) (lv' := [(4, .int z_70), (2, .int 1), (0, .ref q), (1, .int a), (3, .int x_2)]) hx hb dX11_isDusty_86 hl (k := 4) rfl hz_70.symm (by decide) rfl (fun ls hl => ?_)
                      have hz_70 := o_add hz_70 (rfl : x_59.toInt = x_59.toInt) (by decide : (1 : Int32).toInt = 1) (by omega) (by omega)
                      refine lv_goto (tgt := 55) hx hb dX11_isDusty_89 (by decide) ?_
                      exact ih_64 (1 : Int32) z_70 H locs ls (by have e0 : (1 : Int32).toInt = 1 := (by decide); omega) (by have e0 : (1 : Int32).toInt = 1 := (by decide); omega) (by have e0 : (1 : Int32).toInt = 1 := (by decide); omega) hP hD hS (lv_sub hl [2, 3, 1, 4, 0] rfl)
                    · have hc_69 := o_eq (rfl : x_58.toInt = x_58.toInt) (by decide : (0 : Int32).toInt = 0) c_69
                      refine lv_aload_n hx hb dX11_isDusty_70 rfl (lv_at hl 0 rfl) ?_
                      refine lv_iload_n hx hb dX11_isDusty_71 rfl (lv_at hl 3 rfl) ?_
                      refine lv_iload hx hb dX11_isDusty_72 (lv_at hl 4 rfl) ?_
                      refine q_ai (wr := []) (r_V (rm := (Rm 0 0 0 0)) (q0 := 0) (As := [.int x_2, .int x_59]) (rest := []) (wc := [(q, oC11 q_thrown q_tape_ q_length q_size q_p q_limit q_s_ q_h_ q_read_ q_names_ q_reserved_ q_token q_at q_span q_number q_fault q_faultAt q_word q_got q_lines q_onces q_webs q_one q_two q_seed q_undone_ q_before_ q_undoMany q_far_ q_wayRow_ q_wayMany q_keptRow_ q_askedRow_ q_rares_ q_trial_ q_keptMany q_askedMany q_hangs_ q_paths_ q_tornSteps q_hasTorn q_turnOne q_hasTurn q_text_ q_textMany q_toldMany q_toldAt_ q_hasTold q_stack_ q_codes q_ones q_top q_deep q_isWhole q_truths_ q_imaged_ q_namesKept_ q_areKept_), (q_s_, aC1 cy 383 q_s)]) C hS (q_subP hP [0, 1] rfl) (hD.sub [0, 1] (by decide) rfl) (y_threadOf l D cy q x_2 x_59 q_thrown q_tape_ q_length q_size q_p q_limit q_s_ q_h_ q_read_ q_names_ q_reserved_ q_token q_at q_span q_number q_fault q_faultAt q_word q_got q_lines q_onces q_webs q_one q_two q_seed q_undone_ q_before_ q_undoMany q_far_ q_wayRow_ q_wayMany q_keptRow_ q_askedRow_ q_rares_ q_trial_ q_keptMany q_askedMany q_hangs_ q_paths_ q_tornSteps q_hasTorn q_turnOne q_hasTurn q_text_ q_textMany q_toldMany q_toldAt_ q_hasTold q_stack_ q_codes q_ones q_top q_deep q_isWhole q_truths_ q_imaged_ q_namesKept_ q_areKept_ q_s _ (by omega) (by omega) (by omega) (by omega) (by omega) (by omega) (by omega) (by omega) (by omega) (by omega) (by omega) (by omega) (by omega) (by omega) (by omega) (by omega) (by omega) (by omega) (by omega) (by omega) (by omega) (by omega) (by omega) (by omega) hR0 hR1 hR2 hR3 hR4 hR5 hR6 hR7 hR8) kwV_X11_threadOf kM_RX11_291 rfl rfl ⟨Nat.le_of_ble_eq_true rfl, Nat.le_of_ble_eq_true rfl⟩ rfl hl.1 rfl (Nat.le_of_ble_eq_true rfl) dX11_isDusty_74 ⟨hroom.1, hroom.2⟩) C.2.2.2.2.2.2.1 hP hD hS [0, 1] [] rfl rfl (by decide) (by decide) (fun r_72 u_71 H locs hw_73 hP hD hS => ?_)
                      have hp_73 : r_72 = thr q_s x_2 x_59 := hw_73
                      clear hw_73
                      refine lv_if_le (tgt := 84) hx hb dX11_isDusty_77 (by decide) (fun c_75 => ?_) (fun c_75 => ?_)
                      · have hc_75 := o_le (rfl : r_72.toInt = r_72.toInt) (by decide : (0 : Int32).toInt = 0) c_75
                        refine lv_iconst (v := 0) hx hb dX11_isDusty_84 (by decide) ?_
                        refine lv_istore_n (lv' := [(2, .int 0), (0, .ref q), (1, .int a), (3, .int x_2), (4, .int x_59)]) hx hb dX11_isDusty_85 rfl hl (by decide) rfl (fun ls hl => ?_)
                        obtain ⟨z_76, hz_76⟩ : ∃ z : Int32, z = x_59 + 1 := ⟨_, rfl⟩
                        refine lv_iinc (v := z_76) (lv' := [(4, .int z_76), (2, .int 0), (0, .ref q), (1, .int a), (3, .int x_2)]) hx hb dX11_isDusty_86 hl (k := 4) rfl hz_76.symm (by decide) rfl (fun ls hl => ?_)
                        have hz_76 := o_add hz_76 (rfl : x_59.toInt = x_59.toInt) (by decide : (1 : Int32).toInt = 1) (by omega) (by omega)
                        refine lv_goto (tgt := 55) hx hb dX11_isDusty_89 (by decide) ?_
                        exact ih_64 (0 : Int32) z_76 H locs ls (by have e0 : (0 : Int32).toInt = 0 := (by decide); omega) (by have e0 : (0 : Int32).toInt = 0 := (by decide); omega) (by have e0 : (0 : Int32).toInt = 0 := (by decide); omega) hP hD hS (lv_sub hl [2, 3, 1, 4, 0] rfl)
                      · have hc_75 := o_nle (rfl : r_72.toInt = r_72.toInt) (by decide : (0 : Int32).toInt = 0) c_75
                        refine lv_iconst (v := 1) hx hb dX11_isDusty_80 (by decide) ?_
                        refine lv_goto (tgt := 85) hx hb dX11_isDusty_81 (by decide) ?_
                        refine lv_istore_n (lv' := [(2, .int 1), (0, .ref q), (1, .int a), (3, .int x_2), (4, .int x_59)]) hx hb dX11_isDusty_85 rfl hl (by decide) rfl (fun ls hl => ?_)
                        obtain ⟨z_77, hz_77⟩ : ∃ z : Int32, z = x_59 + 1 := ⟨_, rfl⟩
                        refine lv_iinc (v := z_77) (lv' := [(4, .int z_77), (2, .int 1), (0, .ref q), (1, .int a), (3, .int x_2)]) hx hb dX11_isDusty_86 hl (k := 4) rfl hz_77.symm (by decide) rfl (fun ls hl => ?_)
                        have hz_77 := o_add hz_77 (rfl : x_59.toInt = x_59.toInt) (by decide : (1 : Int32).toInt = 1) (by omega) (by omega)
                        refine lv_goto (tgt := 55) hx hb dX11_isDusty_89 (by decide) ?_
                        exact ih_64 (1 : Int32) z_77 H locs ls (by have e0 : (1 : Int32).toInt = 1 := (by decide); omega) (by have e0 : (1 : Int32).toInt = 1 := (by decide); omega) (by have e0 : (1 : Int32).toInt = 1 := (by decide); omega) hP hD hS (lv_sub hl [2, 3, 1, 4, 0] rfl)
              exact lp_55_59 9 (1 : Int32) (0 : Int32) H locs ls (by have e0 : (0 : Int32).toInt = 0 := (by decide); have e1 : (1 : Int32).toInt = 1 := (by decide); omega) (by have e0 : (0 : Int32).toInt = 0 := (by decide); have e1 : (1 : Int32).toInt = 1 := (by decide); omega) (by have e0 : (0 : Int32).toInt = 0 := (by decide); have e1 : (1 : Int32).toInt = 1 := (by decide); omega) hP hD hS (lv_sub hl [2, 3, 1, 4, 0] rfl)
        · have hc_13 := o_ne (rfl : z_12.toInt = z_12.toInt) (rfl : a.toInt = a.toInt) c_13
          refine lv_goto (tgt := 92) hx hb dX11_isDusty_27 (by decide) ?_
          obtain ⟨z_78, hz_78⟩ : ∃ z : Int32, z = x_2 + 1 := ⟨_, rfl⟩
          refine lv_iinc (v := z_78) (lv' := [(3, .int z_78), (0, .ref q), (1, .int a), (2, .int x_1)]) hx hb dX11_isDusty_92 hl (k := 3) rfl hz_78.symm (by decide) rfl (fun ls hl => ?_)
          have hz_78 := o_add hz_78 (rfl : x_2.toInt = x_2.toInt) (by decide : (1 : Int32).toInt = 1) (by omega) (by omega)
          refine lv_goto (tgt := 4) hx hb dX11_isDusty_95 (by decide) ?_
          exact ih_7 x_1 z_78 H locs ls (by omega) (by omega) (by omega) hP hD hS (lv_sub hl [1, 2, 3, 0] rfl)
  exact lp_4_2 9 (0 : Int32) (0 : Int32) H locs ls (by have e0 : (0 : Int32).toInt = 0 := (by decide); omega) (by have e0 : (0 : Int32).toInt = 0 := (by decide); omega) (by have e0 : (0 : Int32).toInt = 0 := (by decide); omega) hP hD hS (lv_sub hl [2, 3, 1, 0] rfl)
theorem y_isDusty (l : Launch) (D : va_G) (cy : Nat → ClassId) (q : Nat) (a : Int32) (q_thrown : Int32) (q_tape_ : Nat) (q_length : Int32) (q_size : Int32) (q_p : Int32) (q_limit : Int32) (q_s_ : Nat) (q_h_ : Nat) (q_read_ : Nat) (q_names_ : Nat) (q_reserved_ : Nat) (q_token : Int32) (q_at : Int32) (q_span : Int32) (q_number : Int32) (q_fault : Int32) (q_faultAt : Int32) (q_word : Int64) (q_got : Int32) (q_lines : Int32) (q_onces : Int32) (q_webs : Int32) (q_one : Int32) (q_two : Int32) (q_seed : Int32) (q_undone_ : Nat) (q_before_ : Nat) (q_undoMany : Int32) (q_far_ : Nat) (q_wayRow_ : Nat) (q_wayMany : Int32) (q_keptRow_ : Nat) (q_askedRow_ : Nat) (q_rares_ : Nat) (q_trial_ : Nat) (q_keptMany : Int32) (q_askedMany : Int32) (q_hangs_ : Nat) (q_paths_ : Nat) (q_tornSteps : Int32) (q_hasTorn : Int32) (q_turnOne : Int32) (q_hasTurn : Int32) (q_text_ : Nat) (q_textMany : Int32) (q_toldMany : Int32) (q_toldAt_ : Nat) (q_hasTold : Int32) (q_stack_ : Nat) (q_codes : Int32) (q_ones : Int32) (q_top : Int32) (q_deep : Int32) (q_isWhole : Int32) (q_truths_ : Nat) (q_imaged_ : Nat) (q_namesKept_ : Nat) (q_areKept_ : Nat) (q_s : Nat → Int32) (sz : Nat) (hb0 : 0 ≤ q_length.toInt ∧ q_length.toInt ≤ 940) (hb1 : 0 ≤ q_size.toInt ∧ q_size.toInt ≤ 940) (hb2 : 0 ≤ q_p.toInt ∧ q_p.toInt ≤ 940) (hb3 : 0 ≤ q_limit.toInt ∧ q_limit.toInt ≤ 940) (hb4 : 0 ≤ q_span.toInt ∧ q_span.toInt ≤ 940) (hb5 : 0 ≤ q_number.toInt ∧ q_number.toInt ≤ 8214) (hb6 : (-1) ≤ q_got.toInt ∧ q_got.toInt ≤ 8214) (hb7 : 0 ≤ q_one.toInt ∧ q_one.toInt ≤ 7) (hb8 : 0 ≤ q_two.toInt ∧ q_two.toInt ≤ 7) (hb9 : 0 ≤ q_undoMany.toInt ∧ q_undoMany.toInt ≤ 8) (hb10 : (-1) ≤ q_wayMany.toInt ∧ q_wayMany.toInt ≤ 8) (hb11 : (-1) ≤ q_keptMany.toInt ∧ q_keptMany.toInt ≤ 8) (hb12 : (-1) ≤ q_askedMany.toInt ∧ q_askedMany.toInt ≤ 3) (hb13 : 0 ≤ q_hasTorn.toInt ∧ q_hasTorn.toInt ≤ 1) (hb14 : 0 ≤ q_hasTurn.toInt ∧ q_hasTurn.toInt ≤ 1) (hb15 : 0 ≤ q_textMany.toInt ∧ q_textMany.toInt ≤ 48) (hb16 : 0 ≤ q_toldMany.toInt ∧ q_toldMany.toInt ≤ 40) (hb17 : 0 ≤ q_hasTold.toInt ∧ q_hasTold.toInt ≤ 1) (hb18 : 0 ≤ q_codes.toInt ∧ q_codes.toInt ≤ 40) (hb19 : 0 ≤ q_ones.toInt ∧ q_ones.toInt ≤ 20) (hb20 : 0 ≤ q_top.toInt ∧ q_top.toInt ≤ 40) (hb21 : 0 ≤ q_isWhole.toInt ∧ q_isWhole.toInt ≤ 1) (hR0 : Rg q_s 0 1 0 8) (hR1 : Rg q_s 1 3 0 6) (hR2 : Rg q_s 3 4 1 50) (hR3 : Rg q_s 4 5 1 5) (hR4 : Rg q_s 103 104 0 255) (hR5 : Rg q_s 7 23 0 5) (hR6 : Rg q_s 106 122 0 5) (hR7 : Rg q_s 23 31 0 99) (hR8 : Rg q_s 122 130 0 99) : MI l yX11_isDusty cX11_isDusty 5 (some .boolean) (Rm 1 22 0 0) D cy [.ref q, .int a] sz [(q, oC11 q_thrown q_tape_ q_length q_size q_p q_limit q_s_ q_h_ q_read_ q_names_ q_reserved_ q_token q_at q_span q_number q_fault q_faultAt q_word q_got q_lines q_onces q_webs q_one q_two q_seed q_undone_ q_before_ q_undoMany q_far_ q_wayRow_ q_wayMany q_keptRow_ q_askedRow_ q_rares_ q_trial_ q_keptMany q_askedMany q_hangs_ q_paths_ q_tornSteps q_hasTorn q_turnOne q_hasTurn q_text_ q_textMany q_toldMany q_toldAt_ q_hasTold q_stack_ q_codes q_ones q_top q_deep q_isWhole q_truths_ q_imaged_ q_namesKept_ q_areKept_), (q_s_, aC1 cy 383 q_s)] (fun (r : Int32) (u : Unit) => (0 ≤ r.toInt ∧ r.toInt ≤ 1)) (fun u : Unit => [(q, oC11 q_thrown q_tape_ q_length q_size q_p q_limit q_s_ q_h_ q_read_ q_names_ q_reserved_ q_token q_at q_span q_number q_fault q_faultAt q_word q_got q_lines q_onces q_webs q_one q_two q_seed q_undone_ q_before_ q_undoMany q_far_ q_wayRow_ q_wayMany q_keptRow_ q_askedRow_ q_rares_ q_trial_ q_keptMany q_askedMany q_hangs_ q_paths_ q_tornSteps q_hasTorn q_turnOne q_hasTurn q_text_ q_textMany q_toldMany q_toldAt_ q_hasTold q_stack_ q_codes q_ones q_top q_deep q_isWhole q_truths_ q_imaged_ q_namesKept_ q_areKept_), (q_s_, aC1 cy 383 q_s)]) := by
  refine MI.enter (by decide) (Nat.le_of_ble_eq_true rfl) ?_
  intro p e s m below meth c ls A hsz hAe C hP hD hS hl
  exact b_y_isDusty l D cy q a q_thrown q_tape_ q_length q_size q_p q_limit q_s_ q_h_ q_read_ q_names_ q_reserved_ q_token q_at q_span q_number q_fault q_faultAt q_word q_got q_lines q_onces q_webs q_one q_two q_seed q_undone_ q_before_ q_undoMany q_far_ q_wayRow_ q_wayMany q_keptRow_ q_askedRow_ q_rares_ q_trial_ q_keptMany q_askedMany q_hangs_ q_paths_ q_tornSteps q_hasTorn q_turnOne q_hasTurn q_text_ q_textMany q_toldMany q_toldAt_ q_hasTold q_stack_ q_codes q_ones q_top q_deep q_isWhole q_truths_ q_imaged_ q_namesKept_ q_areKept_ q_s hb0 hb1 hb2 hb3 hb4 hb5 hb6 hb7 hb8 hb9 hb10 hb11 hb12 hb13 hb14 hb15 hb16 hb17 hb18 hb19 hb20 hb21 hR0 hR1 hR2 hR3 hR4 hR5 hR6 hR7 hR8 ⟨Nat.le_of_ble_eq_true rfl, Nat.le_of_ble_eq_true rfl⟩ C rfl _ _ ls hP hD hS hl
set_option maxHeartbeats 4000000 in
set_option maxRecDepth 100000 in
theorem b_y_sweeps (l : Launch) (D : va_G) (cy : Nat → ClassId) (q : Nat) (a : Int32) (q_thrown : Int32) (q_tape_ : Nat) (q_length : Int32) (q_size : Int32) (q_p : Int32) (q_limit : Int32) (q_s_ : Nat) (q_h_ : Nat) (q_read_ : Nat) (q_names_ : Nat) (q_reserved_ : Nat) (q_token : Int32) (q_at : Int32) (q_span : Int32) (q_number : Int32) (q_fault : Int32) (q_faultAt : Int32) (q_word : Int64) (q_got : Int32) (q_lines : Int32) (q_onces : Int32) (q_webs : Int32) (q_one : Int32) (q_two : Int32) (q_seed : Int32) (q_undone_ : Nat) (q_before_ : Nat) (q_undoMany : Int32) (q_far_ : Nat) (q_wayRow_ : Nat) (q_wayMany : Int32) (q_keptRow_ : Nat) (q_askedRow_ : Nat) (q_rares_ : Nat) (q_trial_ : Nat) (q_keptMany : Int32) (q_askedMany : Int32) (q_hangs_ : Nat) (q_paths_ : Nat) (q_tornSteps : Int32) (q_hasTorn : Int32) (q_turnOne : Int32) (q_hasTurn : Int32) (q_text_ : Nat) (q_textMany : Int32) (q_toldMany : Int32) (q_toldAt_ : Nat) (q_hasTold : Int32) (q_stack_ : Nat) (q_codes : Int32) (q_ones : Int32) (q_top : Int32) (q_deep : Int32) (q_isWhole : Int32) (q_truths_ : Nat) (q_imaged_ : Nat) (q_namesKept_ : Nat) (q_areKept_ : Nat) (q_s : Nat → Int32) (gs : Nat → Int32) (hb0 : 0 ≤ q_length.toInt ∧ q_length.toInt ≤ 940) (hb1 : 0 ≤ q_size.toInt ∧ q_size.toInt ≤ 940) (hb2 : 0 ≤ q_p.toInt ∧ q_p.toInt ≤ 940) (hb3 : 0 ≤ q_limit.toInt ∧ q_limit.toInt ≤ 940) (hb4 : 0 ≤ q_span.toInt ∧ q_span.toInt ≤ 940) (hb5 : 0 ≤ q_number.toInt ∧ q_number.toInt ≤ 8214) (hb6 : (-1) ≤ q_got.toInt ∧ q_got.toInt ≤ 8214) (hb7 : 0 ≤ q_one.toInt ∧ q_one.toInt ≤ 7) (hb8 : 0 ≤ q_two.toInt ∧ q_two.toInt ≤ 7) (hb9 : 0 ≤ q_undoMany.toInt ∧ q_undoMany.toInt ≤ 8) (hb10 : (-1) ≤ q_wayMany.toInt ∧ q_wayMany.toInt ≤ 8) (hb11 : (-1) ≤ q_keptMany.toInt ∧ q_keptMany.toInt ≤ 8) (hb12 : (-1) ≤ q_askedMany.toInt ∧ q_askedMany.toInt ≤ 3) (hb13 : 0 ≤ q_hasTorn.toInt ∧ q_hasTorn.toInt ≤ 1) (hb14 : 0 ≤ q_hasTurn.toInt ∧ q_hasTurn.toInt ≤ 1) (hb15 : 0 ≤ q_textMany.toInt ∧ q_textMany.toInt ≤ 48) (hb16 : 0 ≤ q_toldMany.toInt ∧ q_toldMany.toInt ≤ 40) (hb17 : 0 ≤ q_hasTold.toInt ∧ q_hasTold.toInt ≤ 1) (hb18 : 0 ≤ q_codes.toInt ∧ q_codes.toInt ≤ 40) (hb19 : 0 ≤ q_ones.toInt ∧ q_ones.toInt ≤ 20) (hb20 : 0 ≤ q_top.toInt ∧ q_top.toInt ≤ 40) (hb21 : 0 ≤ q_isWhole.toInt ∧ q_isWhole.toInt ≤ 1) (hR0 : Rg q_s 0 1 0 8) (hR1 : Rg q_s 1 3 0 6) (hR2 : Rg q_s 3 4 1 50) (hR3 : Rg q_s 4 5 1 5) (hR4 : Rg q_s 103 104 0 255) (hR5 : Rg q_s 7 23 0 5) (hR6 : Rg q_s 106 122 0 5) (hR7 : Rg q_s 23 31 0 99) (hR8 : Rg q_s 122 130 0 99) (hR9 : Sv q_s) (hR10 : F7 q_s gs) {p : Program} {e : Env} {s : State} {m : MethodId} {args : Array Value} {below : List Frame} {meth : Method} {c : Code} {A : Nat → Prop} {Q : State → Prop} {cells slots : Nat} (hroom : cells ≤ ((Rm 1 22 0 0)).cells ∧ slots ≤ ((Rm 1 22 0 0)).slots) (C : Cx p s m args meth c cX11_sweeps 3 none RX11 "sweeps" D cy A) (hQ : Q = MQ below (va_Qv (fun u : (Nat → Int32) => (Rg u 0 1 0 8) ∧ (Rg u 1 3 0 6) ∧ (Rg u 3 4 1 50) ∧ (Rg u 4 5 1 5) ∧ (Rg u 103 104 0 255) ∧ (Rg u 7 23 0 5) ∧ (Rg u 106 122 0 5) ∧ (Rg u 23 31 0 99) ∧ (Rg u 122 130 0 99) ∧ (Sv u) ∧ (F7 u gs)) (Bx D A (fun u : (Nat → Int32) => [(q, oC11 q_thrown q_tape_ q_length q_size q_p q_limit q_s_ q_h_ q_read_ q_names_ q_reserved_ q_token q_at q_span q_number q_fault q_faultAt q_word q_got q_lines q_onces q_webs q_one q_two q_seed q_undone_ q_before_ q_undoMany q_far_ q_wayRow_ q_wayMany q_keptRow_ q_askedRow_ q_rares_ q_trial_ q_keptMany q_askedMany q_hangs_ q_paths_ q_tornSteps q_hasTorn q_turnOne q_hasTurn q_text_ q_textMany q_toldMany q_toldAt_ q_hasTold q_stack_ q_codes q_ones q_top q_deep q_isWhole q_truths_ q_imaged_ q_namesKept_ q_areKept_), (q_s_, aC1 cy 383 u)])) A) args s ((Rm 1 22 0 0)).cells ((Rm 1 22 0 0)).slots A) (H : Heap) (locs : List Loc) (ls : Array Slot) (hP : va_P D vwCl [(q, oC11 q_thrown q_tape_ q_length q_size q_p q_limit q_s_ q_h_ q_read_ q_names_ q_reserved_ q_token q_at q_span q_number q_fault q_faultAt q_word q_got q_lines q_onces q_webs q_one q_two q_seed q_undone_ q_before_ q_undoMany q_far_ q_wayRow_ q_wayMany q_keptRow_ q_askedRow_ q_rares_ q_trial_ q_keptMany q_askedMany q_hangs_ q_paths_ q_tornSteps q_hasTorn q_turnOne q_hasTurn q_text_ q_textMany q_toldMany q_toldAt_ q_hasTold q_stack_ q_codes q_ones q_top q_deep q_isWhole q_truths_ q_imaged_ q_namesKept_ q_areKept_), (q_s_, aC1 cy 383 q_s)] H) (hD : va_D A [(q, oC11 q_thrown q_tape_ q_length q_size q_p q_limit q_s_ q_h_ q_read_ q_names_ q_reserved_ q_token q_at q_span q_number q_fault q_faultAt q_word q_got q_lines q_onces q_webs q_one q_two q_seed q_undone_ q_before_ q_undoMany q_far_ q_wayRow_ q_wayMany q_keptRow_ q_askedRow_ q_rares_ q_trial_ q_keptMany q_askedMany q_hangs_ q_paths_ q_tornSteps q_hasTorn q_turnOne q_hasTurn q_text_ q_textMany q_toldMany q_toldAt_ q_hasTold q_stack_ q_codes q_ones q_top q_deep q_isWhole q_truths_ q_imaged_ q_namesKept_ q_areKept_), (q_s_, aC1 cy 383 q_s)]) (hS : va_S A s.heap H locs) (hl : lv_has ls 3 [(0, .ref q), (1, .int a)]) : W p l e (Rm 1 22 0 0) s m args below meth c H locs cells slots Q (F0 m 0 ls []) := by
  have hx := C.1
  have hb := C.2.1
  have hqa := o_rng a
  refine lv_iconst (v := 0) hx hb dX11_sweeps_0 (by decide) ?_
  refine lv_istore_n (lv' := [(2, .int 0), (0, .ref q), (1, .int a)]) hx hb dX11_sweeps_1 rfl hl (by decide) rfl (fun ls hl => ?_)
  have lp_2_2 : ∀ (n_3 : Nat) (x_1 : Int32) (g_2 : Nat → Int32) (H : Heap) (locs : List Loc) (ls : Array Slot), (-1) * x_1.toInt + 8 < (n_3 : Int) → (0 ≤ x_1.toInt ∧ x_1.toInt ≤ 8) → Rg g_2 0 1 0 8 → Rg g_2 1 3 0 6 → Rg g_2 3 4 1 50 → Rg g_2 4 5 1 5 → Rg g_2 103 104 0 255 → Rg g_2 7 23 0 5 → Rg g_2 106 122 0 5 → Rg g_2 23 31 0 99 → Rg g_2 122 130 0 99 → Sv g_2 → F7 g_2 gs → va_P D vwCl [(q, oC11 q_thrown q_tape_ q_length q_size q_p q_limit q_s_ q_h_ q_read_ q_names_ q_reserved_ q_token q_at q_span q_number q_fault q_faultAt q_word q_got q_lines q_onces q_webs q_one q_two q_seed q_undone_ q_before_ q_undoMany q_far_ q_wayRow_ q_wayMany q_keptRow_ q_askedRow_ q_rares_ q_trial_ q_keptMany q_askedMany q_hangs_ q_paths_ q_tornSteps q_hasTorn q_turnOne q_hasTurn q_text_ q_textMany q_toldMany q_toldAt_ q_hasTold q_stack_ q_codes q_ones q_top q_deep q_isWhole q_truths_ q_imaged_ q_namesKept_ q_areKept_), (q_s_, aC1 cy 383 g_2)] H → va_D A [(q, oC11 q_thrown q_tape_ q_length q_size q_p q_limit q_s_ q_h_ q_read_ q_names_ q_reserved_ q_token q_at q_span q_number q_fault q_faultAt q_word q_got q_lines q_onces q_webs q_one q_two q_seed q_undone_ q_before_ q_undoMany q_far_ q_wayRow_ q_wayMany q_keptRow_ q_askedRow_ q_rares_ q_trial_ q_keptMany q_askedMany q_hangs_ q_paths_ q_tornSteps q_hasTorn q_turnOne q_hasTurn q_text_ q_textMany q_toldMany q_toldAt_ q_hasTold q_stack_ q_codes q_ones q_top q_deep q_isWhole q_truths_ q_imaged_ q_namesKept_ q_areKept_), (q_s_, aC1 cy 383 g_2)] → va_S A s.heap H locs → lv_has ls 3 [(0, .ref q), (1, .int a), (2, .int x_1)] → W p l e (Rm 1 22 0 0) s m args below meth c H locs cells slots Q (F0 m 2 ls []) := by
    intro n_3
    induction n_3 with
    | zero =>
      intro x_1 g_2 H locs ls hm_16 hf_4 hg_5 hg_6 hg_7 hg_8 hg_9 hg_10 hg_11 hg_12 hg_13 hg_14 hg_15 hP hD hS hl
      exact absurd hm_16 (by omega)
    | succ n_3 ih_17 =>
      intro x_1 g_2 H locs ls hm_16 hf_4 hg_5 hg_6 hg_7 hg_8 hg_9 hg_10 hg_11 hg_12 hg_13 hg_14 hg_15 hP hD hS hl
      refine lv_iload_n hx hb dX11_sweeps_2 rfl (lv_at hl 2 rfl) ?_
      refine lv_aload_n hx hb dX11_sweeps_3 rfl (lv_at hl 0 rfl) ?_
      refine q_get11 (v := .ref q_s_) C hP 0 6 rfl fT_6 (by decide) kF_RX11_33 rfl dX11_sweeps_4 ?_
      refine lv_iconst (v := 0) hx hb dX11_sweeps_7 (by decide) ?_
      refine q_iald (v := g_2 0) C hP 1 rfl (vin (by decide +kernel)) rfl dX11_sweeps_8 ?_
      refine lv_topi (fun z_19 ez_19 => ?_)
      have hz_19 : 0 ≤ z_19.toInt ∧ z_19.toInt ≤ 8 := (by rw [ez_19]; exact hg_5 0 (by decide) (by decide))
      refine lv_icmp_ge (tgt := 49) hx hb dX11_sweeps_9 (by decide) (fun c_20 => ?_) (fun c_20 => ?_)
      · have hc_20 := o_le (rfl : z_19.toInt = z_19.toInt) (rfl : x_1.toInt = x_1.toInt) c_20
        refine o_wq hQ ?_
        exact q_vret (rm := (Rm 1 22 0 0)) C hS g_2 ⟨hg_5, hg_6, hg_7, hg_8, hg_9, hg_10, hg_11, hg_12, hg_13, hg_14, hg_15⟩ (q_subP hP [0, 1] rfl) (hD.sub [0, 1] (by decide) rfl) hroom.1 hroom.2 dX11_sweeps_49
      · have hc_20 := o_nle (rfl : z_19.toInt = z_19.toInt) (rfl : x_1.toInt = x_1.toInt) c_20
        refine lv_aload_n hx hb dX11_sweeps_12 rfl (lv_at hl 0 rfl) ?_
        refine q_get11 (v := .ref q_s_) C hP 0 6 rfl fT_6 (by decide) kF_RX11_33 rfl dX11_sweeps_13 ?_
        refine lv_bipush (v := 114) hx hb dX11_sweeps_16 (by decide) ?_
        refine lv_iload_n hx hb dX11_sweeps_18 rfl (lv_at hl 2 rfl) ?_
        refine lv_iadd hx hb dX11_sweeps_19 ?_
        refine lv_topi (fun z_21 hz_21 => ?_)
        have hz_21 := o_add hz_21 (by decide : (114 : Int32).toInt = 114) (rfl : x_1.toInt = x_1.toInt) (by omega) (by omega)
        refine q_iald (v := g_2 z_21.toNatClampNeg) C hP 1 rfl (o_in (rfl : z_21.toInt = z_21.toInt) (by omega) (by omega)) rfl dX11_sweeps_20 ?_
        refine lv_topi (fun z_22 ez_22 => ?_)
        have hz_22 := Rg.at hg_11 ez_22 (by have := o_cl (rfl : z_21.toInt = z_21.toInt) (by omega); omega) (by have := o_cl (rfl : z_21.toInt = z_21.toInt) (by omega); omega)
        refine lv_iload_n hx hb dX11_sweeps_21 rfl (lv_at hl 1 rfl) ?_
        refine lv_icmp_eq (tgt := 28) hx hb dX11_sweeps_22 (by decide) (fun c_23 => ?_) (fun c_23 => ?_)
        · have hc_23 := o_eq (rfl : z_22.toInt = z_22.toInt) (rfl : a.toInt = a.toInt) c_23
          refine lv_aload_n hx hb dX11_sweeps_28 rfl (lv_at hl 0 rfl) ?_
          refine q_get11 (v := .ref q_s_) C hP 0 6 rfl fT_6 (by decide) kF_RX11_33 rfl dX11_sweeps_29 ?_
          refine lv_bipush (v := 122) hx hb dX11_sweeps_32 (by decide) ?_
          refine lv_iload_n hx hb dX11_sweeps_34 rfl (lv_at hl 2 rfl) ?_
          refine lv_iadd hx hb dX11_sweeps_35 ?_
          refine lv_topi (fun z_24 hz_24 => ?_)
          have hz_24 := o_add hz_24 (by decide : (122 : Int32).toInt = 122) (rfl : x_1.toInt = x_1.toInt) (by omega) (by omega)
          refine lv_iconst (v := 0) hx hb dX11_sweeps_36 (by decide) ?_
          refine q_iast (g := upd g_2 z_24.toNatClampNeg 0) (w' := [(q, oC11 q_thrown q_tape_ q_length q_size q_p q_limit q_s_ q_h_ q_read_ q_names_ q_reserved_ q_token q_at q_span q_number q_fault q_faultAt q_word q_got q_lines q_onces q_webs q_one q_two q_seed q_undone_ q_before_ q_undoMany q_far_ q_wayRow_ q_wayMany q_keptRow_ q_askedRow_ q_rares_ q_trial_ q_keptMany q_askedMany q_hangs_ q_paths_ q_tornSteps q_hasTorn q_turnOne q_hasTurn q_text_ q_textMany q_toldMany q_toldAt_ q_hasTold q_stack_ q_codes q_ones q_top q_deep q_isWhole q_truths_ q_imaged_ q_namesKept_ q_areKept_), (q_s_, aC1 cy 383 (upd g_2 z_24.toNatClampNeg 0))]) C hP hD hS 1 rfl (o_in (rfl : z_24.toInt = z_24.toInt) (by omega) (by omega)) rfl rfl dX11_sweeps_37 (fun H locs hP hD hS => ?_)
          have Rg_25_0 := Rg.upd_in (k := z_24.toNatClampNeg) (v := 0) hg_5 (by decide) (by decide)
          have Rg_25_1 := Rg.upd_in (k := z_24.toNatClampNeg) (v := 0) hg_6 (by decide) (by decide)
          have Rg_25_2 := Rg.upd_out (k := z_24.toNatClampNeg) (v := 0) hg_7 (by have := o_cl (rfl : z_24.toInt = z_24.toInt) (by omega); omega)
          have Rg_25_3 := Rg.upd_out (k := z_24.toNatClampNeg) (v := 0) hg_8 (by have := o_cl (rfl : z_24.toInt = z_24.toInt) (by omega); omega)
          have Rg_25_4 := Rg.upd_in (k := z_24.toNatClampNeg) (v := 0) hg_9 (by decide) (by decide)
          have Rg_25_5 := Rg.upd_in (k := z_24.toNatClampNeg) (v := 0) hg_10 (by decide) (by decide)
          have Rg_25_6 := Rg.upd_in (k := z_24.toNatClampNeg) (v := 0) hg_11 (by decide) (by decide)
          have Rg_25_7 := Rg.upd_in (k := z_24.toNatClampNeg) (v := 0) hg_12 (by decide) (by decide)
          have Rg_25_8 := Rg.upd_in (k := z_24.toNatClampNeg) (v := 0) hg_13 (by decide) (by decide)
          have Rg_25_9 : Sv (upd g_2 z_24.toNatClampNeg 0) := (Sv.put hg_14 (by have := o_cl (rfl : z_24.toInt = z_24.toInt) (by omega); omega))
          have Rg_25_10 : F7 (upd g_2 z_24.toNatClampNeg 0) gs := (F7.put hg_15 (by have := o_cl (rfl : z_24.toInt = z_24.toInt) (by omega); omega))
          generalize upd g_2 z_24.toNatClampNeg 0 = g_25 at hP hD Rg_25_0 Rg_25_1 Rg_25_2 Rg_25_3 Rg_25_4 Rg_25_5 Rg_25_6 Rg_25_7 Rg_25_8 Rg_25_9 Rg_25_10
          have hP : va_P D vwCl [(q, oC11 q_thrown q_tape_ q_length q_size q_p q_limit q_s_ q_h_ q_read_ q_names_ q_reserved_ q_token q_at q_span q_number q_fault q_faultAt q_word q_got q_lines q_onces q_webs q_one q_two q_seed q_undone_ q_before_ q_undoMany q_far_ q_wayRow_ q_wayMany q_keptRow_ q_askedRow_ q_rares_ q_trial_ q_keptMany q_askedMany q_hangs_ q_paths_ q_tornSteps q_hasTorn q_turnOne q_hasTurn q_text_ q_textMany q_toldMany q_toldAt_ q_hasTold q_stack_ q_codes q_ones q_top q_deep q_isWhole q_truths_ q_imaged_ q_namesKept_ q_areKept_), (q_s_, aC1 cy 383 g_25)] H := hP
          have hD : va_D A [(q, oC11 q_thrown q_tape_ q_length q_size q_p q_limit q_s_ q_h_ q_read_ q_names_ q_reserved_ q_token q_at q_span q_number q_fault q_faultAt q_word q_got q_lines q_onces q_webs q_one q_two q_seed q_undone_ q_before_ q_undoMany q_far_ q_wayRow_ q_wayMany q_keptRow_ q_askedRow_ q_rares_ q_trial_ q_keptMany q_askedMany q_hangs_ q_paths_ q_tornSteps q_hasTorn q_turnOne q_hasTurn q_text_ q_textMany q_toldMany q_toldAt_ q_hasTold q_stack_ q_codes q_ones q_top q_deep q_isWhole q_truths_ q_imaged_ q_namesKept_ q_areKept_), (q_s_, aC1 cy 383 g_25)] := hD
          refine lv_aload_n hx hb dX11_sweeps_38 rfl (lv_at hl 0 rfl) ?_
          refine lv_iload_n hx hb dX11_sweeps_39 rfl (lv_at hl 2 rfl) ?_
          refine q_av (wr := []) (r_V (rm := (Rm 0 0 0 0)) (q0 := 0) (As := [.int x_1]) (rest := []) (wc := [(q, oC11 q_thrown q_tape_ q_length q_size q_p q_limit q_s_ q_h_ q_read_ q_names_ q_reserved_ q_token q_at q_span q_number q_fault q_faultAt q_word q_got q_lines q_onces q_webs q_one q_two q_seed q_undone_ q_before_ q_undoMany q_far_ q_wayRow_ q_wayMany q_keptRow_ q_askedRow_ q_rares_ q_trial_ q_keptMany q_askedMany q_hangs_ q_paths_ q_tornSteps q_hasTorn q_turnOne q_hasTurn q_text_ q_textMany q_toldMany q_toldAt_ q_hasTold q_stack_ q_codes q_ones q_top q_deep q_isWhole q_truths_ q_imaged_ q_namesKept_ q_areKept_), (q_s_, aC1 cy 383 g_25)]) C hS (q_subP hP [0, 1] rfl) (hD.sub [0, 1] (by decide) rfl) (y_clearsThreads l D cy q x_1 q_thrown q_tape_ q_length q_size q_p q_limit q_s_ q_h_ q_read_ q_names_ q_reserved_ q_token q_at q_span q_number q_fault q_faultAt q_word q_got q_lines q_onces q_webs q_one q_two q_seed q_undone_ q_before_ q_undoMany q_far_ q_wayRow_ q_wayMany q_keptRow_ q_askedRow_ q_rares_ q_trial_ q_keptMany q_askedMany q_hangs_ q_paths_ q_tornSteps q_hasTorn q_turnOne q_hasTurn q_text_ q_textMany q_toldMany q_toldAt_ q_hasTold q_stack_ q_codes q_ones q_top q_deep q_isWhole q_truths_ q_imaged_ q_namesKept_ q_areKept_ g_25 gs _ (by omega) (by omega) (by omega) (by omega) (by omega) (by omega) (by omega) (by omega) (by omega) (by omega) (by omega) (by omega) (by omega) (by omega) (by omega) (by omega) (by omega) (by omega) (by omega) (by omega) (by omega) (by omega) (by omega) Rg_25_0 Rg_25_1 Rg_25_2 Rg_25_3 Rg_25_4 Rg_25_5 Rg_25_6 Rg_25_7 Rg_25_8 Rg_25_9 Rg_25_10) kwV_X11_clearsThreads kM_RX11_331 rfl rfl ⟨Nat.le_of_ble_eq_true rfl, Nat.le_of_ble_eq_true rfl⟩ rfl hl.1 rfl (Nat.le_of_ble_eq_true rfl) dX11_sweeps_40 ⟨hroom.1, hroom.2⟩) C.2.2.2.2.2.2.1 hP hD hS [0, 1] [] rfl rfl (by decide) (by decide) (fun u_26 H locs hw_28 hP hD hS => ?_)
          obtain ⟨g_29, rfl⟩ : ∃ z, z = u_26 := ⟨_, rfl⟩
          have hP : va_P D vwCl [(q, oC11 q_thrown q_tape_ q_length q_size q_p q_limit q_s_ q_h_ q_read_ q_names_ q_reserved_ q_token q_at q_span q_number q_fault q_faultAt q_word q_got q_lines q_onces q_webs q_one q_two q_seed q_undone_ q_before_ q_undoMany q_far_ q_wayRow_ q_wayMany q_keptRow_ q_askedRow_ q_rares_ q_trial_ q_keptMany q_askedMany q_hangs_ q_paths_ q_tornSteps q_hasTorn q_turnOne q_hasTurn q_text_ q_textMany q_toldMany q_toldAt_ q_hasTold q_stack_ q_codes q_ones q_top q_deep q_isWhole q_truths_ q_imaged_ q_namesKept_ q_areKept_), (q_s_, aC1 cy 383 g_29)] H := hP
          have hD : va_D A [(q, oC11 q_thrown q_tape_ q_length q_size q_p q_limit q_s_ q_h_ q_read_ q_names_ q_reserved_ q_token q_at q_span q_number q_fault q_faultAt q_word q_got q_lines q_onces q_webs q_one q_two q_seed q_undone_ q_before_ q_undoMany q_far_ q_wayRow_ q_wayMany q_keptRow_ q_askedRow_ q_rares_ q_trial_ q_keptMany q_askedMany q_hangs_ q_paths_ q_tornSteps q_hasTorn q_turnOne q_hasTurn q_text_ q_textMany q_toldMany q_toldAt_ q_hasTold q_stack_ q_codes q_ones q_top q_deep q_isWhole q_truths_ q_imaged_ q_namesKept_ q_areKept_), (q_s_, aC1 cy 383 g_29)] := hD
          have hp_29 : Rg g_29 0 1 0 8 := hw_28.1
          have hp_30 : Rg g_29 1 3 0 6 := hw_28.2.1
          have hp_31 : Rg g_29 3 4 1 50 := hw_28.2.2.1
          have hp_32 : Rg g_29 4 5 1 5 := hw_28.2.2.2.1
          have hp_33 : Rg g_29 103 104 0 255 := hw_28.2.2.2.2.1
          have hp_34 : Rg g_29 7 23 0 5 := hw_28.2.2.2.2.2.1
          have hp_35 : Rg g_29 106 122 0 5 := hw_28.2.2.2.2.2.2.1
          have hp_36 : Rg g_29 23 31 0 99 := hw_28.2.2.2.2.2.2.2.1
          have hp_37 : Rg g_29 122 130 0 99 := hw_28.2.2.2.2.2.2.2.2.1
          have hp_38 : Sv g_29 := hw_28.2.2.2.2.2.2.2.2.2.1
          have hp_39 : F7 g_29 gs := hw_28.2.2.2.2.2.2.2.2.2.2
          clear hw_28
          obtain ⟨z_41, hz_41⟩ : ∃ z : Int32, z = x_1 + 1 := ⟨_, rfl⟩
          refine lv_iinc (v := z_41) (lv' := [(2, .int z_41), (0, .ref q), (1, .int a)]) hx hb dX11_sweeps_43 hl (k := 2) rfl hz_41.symm (by decide) rfl (fun ls hl => ?_)
          have hz_41 := o_add hz_41 (rfl : x_1.toInt = x_1.toInt) (by decide : (1 : Int32).toInt = 1) (by omega) (by omega)
          refine lv_goto (tgt := 2) hx hb dX11_sweeps_46 (by decide) ?_
          exact ih_17 z_41 g_29 H locs ls (by omega) (by omega) hp_29 hp_30 hp_31 hp_32 hp_33 hp_34 hp_35 hp_36 hp_37 hp_38 hp_39 hP hD hS (lv_sub hl [1, 2, 0] rfl)
        · have hc_23 := o_ne (rfl : z_22.toInt = z_22.toInt) (rfl : a.toInt = a.toInt) c_23
          refine lv_goto (tgt := 43) hx hb dX11_sweeps_25 (by decide) ?_
          obtain ⟨z_42, hz_42⟩ : ∃ z : Int32, z = x_1 + 1 := ⟨_, rfl⟩
          refine lv_iinc (v := z_42) (lv' := [(2, .int z_42), (0, .ref q), (1, .int a)]) hx hb dX11_sweeps_43 hl (k := 2) rfl hz_42.symm (by decide) rfl (fun ls hl => ?_)
          have hz_42 := o_add hz_42 (rfl : x_1.toInt = x_1.toInt) (by decide : (1 : Int32).toInt = 1) (by omega) (by omega)
          refine lv_goto (tgt := 2) hx hb dX11_sweeps_46 (by decide) ?_
          exact ih_17 z_42 g_2 H locs ls (by omega) (by omega) hg_5 hg_6 hg_7 hg_8 hg_9 hg_10 hg_11 hg_12 hg_13 hg_14 hg_15 hP hD hS (lv_sub hl [1, 2, 0] rfl)
  exact lp_2_2 9 (0 : Int32) q_s H locs ls (by have e0 : (0 : Int32).toInt = 0 := (by decide); omega) (by have e0 : (0 : Int32).toInt = 0 := (by decide); omega) hR0 hR1 hR2 hR3 hR4 hR5 hR6 hR7 hR8 hR9 hR10 hP hD hS (lv_sub hl [1, 2, 0] rfl)
theorem y_sweeps (l : Launch) (D : va_G) (cy : Nat → ClassId) (q : Nat) (a : Int32) (q_thrown : Int32) (q_tape_ : Nat) (q_length : Int32) (q_size : Int32) (q_p : Int32) (q_limit : Int32) (q_s_ : Nat) (q_h_ : Nat) (q_read_ : Nat) (q_names_ : Nat) (q_reserved_ : Nat) (q_token : Int32) (q_at : Int32) (q_span : Int32) (q_number : Int32) (q_fault : Int32) (q_faultAt : Int32) (q_word : Int64) (q_got : Int32) (q_lines : Int32) (q_onces : Int32) (q_webs : Int32) (q_one : Int32) (q_two : Int32) (q_seed : Int32) (q_undone_ : Nat) (q_before_ : Nat) (q_undoMany : Int32) (q_far_ : Nat) (q_wayRow_ : Nat) (q_wayMany : Int32) (q_keptRow_ : Nat) (q_askedRow_ : Nat) (q_rares_ : Nat) (q_trial_ : Nat) (q_keptMany : Int32) (q_askedMany : Int32) (q_hangs_ : Nat) (q_paths_ : Nat) (q_tornSteps : Int32) (q_hasTorn : Int32) (q_turnOne : Int32) (q_hasTurn : Int32) (q_text_ : Nat) (q_textMany : Int32) (q_toldMany : Int32) (q_toldAt_ : Nat) (q_hasTold : Int32) (q_stack_ : Nat) (q_codes : Int32) (q_ones : Int32) (q_top : Int32) (q_deep : Int32) (q_isWhole : Int32) (q_truths_ : Nat) (q_imaged_ : Nat) (q_namesKept_ : Nat) (q_areKept_ : Nat) (q_s : Nat → Int32) (gs : Nat → Int32) (sz : Nat) (hb0 : 0 ≤ q_length.toInt ∧ q_length.toInt ≤ 940) (hb1 : 0 ≤ q_size.toInt ∧ q_size.toInt ≤ 940) (hb2 : 0 ≤ q_p.toInt ∧ q_p.toInt ≤ 940) (hb3 : 0 ≤ q_limit.toInt ∧ q_limit.toInt ≤ 940) (hb4 : 0 ≤ q_span.toInt ∧ q_span.toInt ≤ 940) (hb5 : 0 ≤ q_number.toInt ∧ q_number.toInt ≤ 8214) (hb6 : (-1) ≤ q_got.toInt ∧ q_got.toInt ≤ 8214) (hb7 : 0 ≤ q_one.toInt ∧ q_one.toInt ≤ 7) (hb8 : 0 ≤ q_two.toInt ∧ q_two.toInt ≤ 7) (hb9 : 0 ≤ q_undoMany.toInt ∧ q_undoMany.toInt ≤ 8) (hb10 : (-1) ≤ q_wayMany.toInt ∧ q_wayMany.toInt ≤ 8) (hb11 : (-1) ≤ q_keptMany.toInt ∧ q_keptMany.toInt ≤ 8) (hb12 : (-1) ≤ q_askedMany.toInt ∧ q_askedMany.toInt ≤ 3) (hb13 : 0 ≤ q_hasTorn.toInt ∧ q_hasTorn.toInt ≤ 1) (hb14 : 0 ≤ q_hasTurn.toInt ∧ q_hasTurn.toInt ≤ 1) (hb15 : 0 ≤ q_textMany.toInt ∧ q_textMany.toInt ≤ 48) (hb16 : 0 ≤ q_toldMany.toInt ∧ q_toldMany.toInt ≤ 40) (hb17 : 0 ≤ q_hasTold.toInt ∧ q_hasTold.toInt ≤ 1) (hb18 : 0 ≤ q_codes.toInt ∧ q_codes.toInt ≤ 40) (hb19 : 0 ≤ q_ones.toInt ∧ q_ones.toInt ≤ 20) (hb20 : 0 ≤ q_top.toInt ∧ q_top.toInt ≤ 40) (hb21 : 0 ≤ q_isWhole.toInt ∧ q_isWhole.toInt ≤ 1) (hR0 : Rg q_s 0 1 0 8) (hR1 : Rg q_s 1 3 0 6) (hR2 : Rg q_s 3 4 1 50) (hR3 : Rg q_s 4 5 1 5) (hR4 : Rg q_s 103 104 0 255) (hR5 : Rg q_s 7 23 0 5) (hR6 : Rg q_s 106 122 0 5) (hR7 : Rg q_s 23 31 0 99) (hR8 : Rg q_s 122 130 0 99) (hR9 : Sv q_s) (hR10 : F7 q_s gs) : MV l yX11_sweeps cX11_sweeps 3 (Rm 1 22 0 0) D cy [.ref q, .int a] sz [(q, oC11 q_thrown q_tape_ q_length q_size q_p q_limit q_s_ q_h_ q_read_ q_names_ q_reserved_ q_token q_at q_span q_number q_fault q_faultAt q_word q_got q_lines q_onces q_webs q_one q_two q_seed q_undone_ q_before_ q_undoMany q_far_ q_wayRow_ q_wayMany q_keptRow_ q_askedRow_ q_rares_ q_trial_ q_keptMany q_askedMany q_hangs_ q_paths_ q_tornSteps q_hasTorn q_turnOne q_hasTurn q_text_ q_textMany q_toldMany q_toldAt_ q_hasTold q_stack_ q_codes q_ones q_top q_deep q_isWhole q_truths_ q_imaged_ q_namesKept_ q_areKept_), (q_s_, aC1 cy 383 q_s)] (fun u : (Nat → Int32) => (Rg u 0 1 0 8) ∧ (Rg u 1 3 0 6) ∧ (Rg u 3 4 1 50) ∧ (Rg u 4 5 1 5) ∧ (Rg u 103 104 0 255) ∧ (Rg u 7 23 0 5) ∧ (Rg u 106 122 0 5) ∧ (Rg u 23 31 0 99) ∧ (Rg u 122 130 0 99) ∧ (Sv u) ∧ (F7 u gs)) (fun u : (Nat → Int32) => [(q, oC11 q_thrown q_tape_ q_length q_size q_p q_limit q_s_ q_h_ q_read_ q_names_ q_reserved_ q_token q_at q_span q_number q_fault q_faultAt q_word q_got q_lines q_onces q_webs q_one q_two q_seed q_undone_ q_before_ q_undoMany q_far_ q_wayRow_ q_wayMany q_keptRow_ q_askedRow_ q_rares_ q_trial_ q_keptMany q_askedMany q_hangs_ q_paths_ q_tornSteps q_hasTorn q_turnOne q_hasTurn q_text_ q_textMany q_toldMany q_toldAt_ q_hasTold q_stack_ q_codes q_ones q_top q_deep q_isWhole q_truths_ q_imaged_ q_namesKept_ q_areKept_), (q_s_, aC1 cy 383 u)]) := by
  refine MV.enter (by decide) (Nat.le_of_ble_eq_true rfl) ?_
  intro p e s m below meth c ls A hsz hAe C hP hD hS hl
  exact b_y_sweeps l D cy q a q_thrown q_tape_ q_length q_size q_p q_limit q_s_ q_h_ q_read_ q_names_ q_reserved_ q_token q_at q_span q_number q_fault q_faultAt q_word q_got q_lines q_onces q_webs q_one q_two q_seed q_undone_ q_before_ q_undoMany q_far_ q_wayRow_ q_wayMany q_keptRow_ q_askedRow_ q_rares_ q_trial_ q_keptMany q_askedMany q_hangs_ q_paths_ q_tornSteps q_hasTorn q_turnOne q_hasTurn q_text_ q_textMany q_toldMany q_toldAt_ q_hasTold q_stack_ q_codes q_ones q_top q_deep q_isWhole q_truths_ q_imaged_ q_namesKept_ q_areKept_ q_s gs hb0 hb1 hb2 hb3 hb4 hb5 hb6 hb7 hb8 hb9 hb10 hb11 hb12 hb13 hb14 hb15 hb16 hb17 hb18 hb19 hb20 hb21 hR0 hR1 hR2 hR3 hR4 hR5 hR6 hR7 hR8 hR9 hR10 ⟨Nat.le_of_ble_eq_true rfl, Nat.le_of_ble_eq_true rfl⟩ C rfl _ _ ls hP hD hS hl
set_option maxHeartbeats 4000000 in
set_option maxRecDepth 100000 in
theorem b_y_moves (l : Launch) (D : va_G) (cy : Nat → ClassId) (q : Nat) (a : Int32) (x : Int32) (y : Int32) (q_thrown : Int32) (q_tape_ : Nat) (q_length : Int32) (q_size : Int32) (q_p : Int32) (q_limit : Int32) (q_s_ : Nat) (q_h_ : Nat) (q_read_ : Nat) (q_names_ : Nat) (q_reserved_ : Nat) (q_token : Int32) (q_at : Int32) (q_span : Int32) (q_number : Int32) (q_fault : Int32) (q_faultAt : Int32) (q_word : Int64) (q_got : Int32) (q_lines : Int32) (q_onces : Int32) (q_webs : Int32) (q_one : Int32) (q_two : Int32) (q_seed : Int32) (q_undone_ : Nat) (q_before_ : Nat) (q_undoMany : Int32) (q_far_ : Nat) (q_wayRow_ : Nat) (q_wayMany : Int32) (q_keptRow_ : Nat) (q_askedRow_ : Nat) (q_rares_ : Nat) (q_trial_ : Nat) (q_keptMany : Int32) (q_askedMany : Int32) (q_hangs_ : Nat) (q_paths_ : Nat) (q_tornSteps : Int32) (q_hasTorn : Int32) (q_turnOne : Int32) (q_hasTurn : Int32) (q_text_ : Nat) (q_textMany : Int32) (q_toldMany : Int32) (q_toldAt_ : Nat) (q_hasTold : Int32) (q_stack_ : Nat) (q_codes : Int32) (q_ones : Int32) (q_top : Int32) (q_deep : Int32) (q_isWhole : Int32) (q_truths_ : Nat) (q_imaged_ : Nat) (q_namesKept_ : Nat) (q_areKept_ : Nat) (q_s : Nat → Int32) (gs : Nat → Int32) (hb0 : 0 ≤ q_length.toInt ∧ q_length.toInt ≤ 940) (hb1 : 0 ≤ q_size.toInt ∧ q_size.toInt ≤ 940) (hb2 : 0 ≤ q_p.toInt ∧ q_p.toInt ≤ 940) (hb3 : 0 ≤ q_limit.toInt ∧ q_limit.toInt ≤ 940) (hb4 : 0 ≤ q_span.toInt ∧ q_span.toInt ≤ 940) (hb5 : 0 ≤ q_number.toInt ∧ q_number.toInt ≤ 8214) (hb6 : (-1) ≤ q_got.toInt ∧ q_got.toInt ≤ 8214) (hb7 : 0 ≤ q_one.toInt ∧ q_one.toInt ≤ 7) (hb8 : 0 ≤ q_two.toInt ∧ q_two.toInt ≤ 7) (hb9 : 0 ≤ q_undoMany.toInt ∧ q_undoMany.toInt ≤ 8) (hb10 : (-1) ≤ q_wayMany.toInt ∧ q_wayMany.toInt ≤ 8) (hb11 : (-1) ≤ q_keptMany.toInt ∧ q_keptMany.toInt ≤ 8) (hb12 : (-1) ≤ q_askedMany.toInt ∧ q_askedMany.toInt ≤ 3) (hb13 : 0 ≤ q_hasTorn.toInt ∧ q_hasTorn.toInt ≤ 1) (hb14 : 0 ≤ q_hasTurn.toInt ∧ q_hasTurn.toInt ≤ 1) (hb15 : 0 ≤ q_textMany.toInt ∧ q_textMany.toInt ≤ 48) (hb16 : 0 ≤ q_toldMany.toInt ∧ q_toldMany.toInt ≤ 40) (hb17 : 0 ≤ q_hasTold.toInt ∧ q_hasTold.toInt ≤ 1) (hb18 : 0 ≤ q_codes.toInt ∧ q_codes.toInt ≤ 40) (hb19 : 0 ≤ q_ones.toInt ∧ q_ones.toInt ≤ 20) (hb20 : 0 ≤ q_top.toInt ∧ q_top.toInt ≤ 40) (hb21 : 0 ≤ q_isWhole.toInt ∧ q_isWhole.toInt ≤ 1) (hb22 : 0 ≤ a.toInt ∧ a.toInt ≤ 7) (hb23 : 0 ≤ x.toInt ∧ x.toInt ≤ 5) (hb24 : 0 ≤ y.toInt ∧ y.toInt ≤ 5) (hR0 : Rg q_s 0 1 0 8) (hR1 : Rg q_s 1 3 0 6) (hR2 : Rg q_s 3 4 1 50) (hR3 : Rg q_s 4 5 1 5) (hR4 : Rg q_s 103 104 0 255) (hR5 : Rg q_s 7 23 0 5) (hR6 : Rg q_s 106 122 0 5) (hR7 : Rg q_s 23 31 0 99) (hR8 : Rg q_s 122 130 0 99) (hR9 : Sv q_s) (hR10 : F7 q_s gs) {p : Program} {e : Env} {s : State} {m : MethodId} {args : Array Value} {below : List Frame} {meth : Method} {c : Code} {A : Nat → Prop} {Q : State → Prop} {cells slots : Nat} (hroom : cells ≤ ((Rm 1 22 0 0)).cells ∧ slots ≤ ((Rm 1 22 0 0)).slots) (C : Cx p s m args meth c cX11_moves 4 none RX11 "moves" D cy A) (hQ : Q = MQ below (va_Qv (fun u : (Nat → Int32) => (Rg u 0 1 0 8) ∧ (Rg u 1 3 0 6) ∧ (Rg u 3 4 1 50) ∧ (Rg u 4 5 1 5) ∧ (Rg u 103 104 0 255) ∧ (Rg u 7 23 0 5) ∧ (Rg u 106 122 0 5) ∧ (Rg u 23 31 0 99) ∧ (Rg u 122 130 0 99) ∧ (Sv u) ∧ (F7 u gs)) (Bx D A (fun u : (Nat → Int32) => [(q, oC11 q_thrown q_tape_ q_length q_size q_p q_limit q_s_ q_h_ q_read_ q_names_ q_reserved_ q_token q_at q_span q_number q_fault q_faultAt q_word q_got q_lines q_onces q_webs q_one q_two q_seed q_undone_ q_before_ q_undoMany q_far_ q_wayRow_ q_wayMany q_keptRow_ q_askedRow_ q_rares_ q_trial_ q_keptMany q_askedMany q_hangs_ q_paths_ q_tornSteps q_hasTorn q_turnOne q_hasTurn q_text_ q_textMany q_toldMany q_toldAt_ q_hasTold q_stack_ q_codes q_ones q_top q_deep q_isWhole q_truths_ q_imaged_ q_namesKept_ q_areKept_), (q_s_, aC1 cy 383 u)])) A) args s ((Rm 1 22 0 0)).cells ((Rm 1 22 0 0)).slots A) (H : Heap) (locs : List Loc) (ls : Array Slot) (hP : va_P D vwCl [(q, oC11 q_thrown q_tape_ q_length q_size q_p q_limit q_s_ q_h_ q_read_ q_names_ q_reserved_ q_token q_at q_span q_number q_fault q_faultAt q_word q_got q_lines q_onces q_webs q_one q_two q_seed q_undone_ q_before_ q_undoMany q_far_ q_wayRow_ q_wayMany q_keptRow_ q_askedRow_ q_rares_ q_trial_ q_keptMany q_askedMany q_hangs_ q_paths_ q_tornSteps q_hasTorn q_turnOne q_hasTurn q_text_ q_textMany q_toldMany q_toldAt_ q_hasTold q_stack_ q_codes q_ones q_top q_deep q_isWhole q_truths_ q_imaged_ q_namesKept_ q_areKept_), (q_s_, aC1 cy 383 q_s)] H) (hD : va_D A [(q, oC11 q_thrown q_tape_ q_length q_size q_p q_limit q_s_ q_h_ q_read_ q_names_ q_reserved_ q_token q_at q_span q_number q_fault q_faultAt q_word q_got q_lines q_onces q_webs q_one q_two q_seed q_undone_ q_before_ q_undoMany q_far_ q_wayRow_ q_wayMany q_keptRow_ q_askedRow_ q_rares_ q_trial_ q_keptMany q_askedMany q_hangs_ q_paths_ q_tornSteps q_hasTorn q_turnOne q_hasTurn q_text_ q_textMany q_toldMany q_toldAt_ q_hasTold q_stack_ q_codes q_ones q_top q_deep q_isWhole q_truths_ q_imaged_ q_namesKept_ q_areKept_), (q_s_, aC1 cy 383 q_s)]) (hS : va_S A s.heap H locs) (hl : lv_has ls 4 [(0, .ref q), (1, .int a), (2, .int x), (3, .int y)]) : W p l e (Rm 1 22 0 0) s m args below meth c H locs cells slots Q (F0 m 0 ls []) := by
  have hx := C.1
  have hb := C.2.1
  refine lv_aload_n hx hb dX11_moves_0 rfl (lv_at hl 0 rfl) ?_
  refine q_get11 (v := .ref q_s_) C hP 0 6 rfl fT_6 (by decide) kF_RX11_33 rfl dX11_moves_1 ?_
  refine lv_bipush (v := 106) hx hb dX11_moves_4 (by decide) ?_
  refine lv_iload_n hx hb dX11_moves_6 rfl (lv_at hl 1 rfl) ?_
  refine lv_iadd hx hb dX11_moves_7 ?_
  refine lv_topi (fun z_1 hz_1 => ?_)
  have hz_1 := o_add hz_1 (by decide : (106 : Int32).toInt = 106) (rfl : a.toInt = a.toInt) (by omega) (by omega)
  refine lv_iload_n hx hb dX11_moves_8 rfl (lv_at hl 2 rfl) ?_
  refine q_iast (g := upd q_s z_1.toNatClampNeg x) (w' := [(q, oC11 q_thrown q_tape_ q_length q_size q_p q_limit q_s_ q_h_ q_read_ q_names_ q_reserved_ q_token q_at q_span q_number q_fault q_faultAt q_word q_got q_lines q_onces q_webs q_one q_two q_seed q_undone_ q_before_ q_undoMany q_far_ q_wayRow_ q_wayMany q_keptRow_ q_askedRow_ q_rares_ q_trial_ q_keptMany q_askedMany q_hangs_ q_paths_ q_tornSteps q_hasTorn q_turnOne q_hasTurn q_text_ q_textMany q_toldMany q_toldAt_ q_hasTold q_stack_ q_codes q_ones q_top q_deep q_isWhole q_truths_ q_imaged_ q_namesKept_ q_areKept_), (q_s_, aC1 cy 383 (upd q_s z_1.toNatClampNeg x))]) C hP hD hS 1 rfl (o_in (rfl : z_1.toInt = z_1.toInt) (by omega) (by omega)) rfl rfl dX11_moves_9 (fun H locs hP hD hS => ?_)
  have Rg_2_0 := Rg.upd_in (k := z_1.toNatClampNeg) (v := x) hR0 (by omega) (by omega)
  have Rg_2_1 := Rg.upd_in (k := z_1.toNatClampNeg) (v := x) hR1 (by omega) (by omega)
  have Rg_2_2 := Rg.upd_out (k := z_1.toNatClampNeg) (v := x) hR2 (by have := o_cl (rfl : z_1.toInt = z_1.toInt) (by omega); omega)
  have Rg_2_3 := Rg.upd_out (k := z_1.toNatClampNeg) (v := x) hR3 (by have := o_cl (rfl : z_1.toInt = z_1.toInt) (by omega); omega)
  have Rg_2_4 := Rg.upd_in (k := z_1.toNatClampNeg) (v := x) hR4 (by omega) (by omega)
  have Rg_2_5 := Rg.upd_in (k := z_1.toNatClampNeg) (v := x) hR5 (by omega) (by omega)
  have Rg_2_6 := Rg.upd_in (k := z_1.toNatClampNeg) (v := x) hR6 (by omega) (by omega)
  have Rg_2_7 := Rg.upd_in (k := z_1.toNatClampNeg) (v := x) hR7 (by omega) (by omega)
  have Rg_2_8 := Rg.upd_in (k := z_1.toNatClampNeg) (v := x) hR8 (by omega) (by omega)
  have Rg_2_9 : Sv (upd q_s z_1.toNatClampNeg x) := (Sv.put hR9 (by have := o_cl (rfl : z_1.toInt = z_1.toInt) (by omega); omega))
  have Rg_2_10 : F7 (upd q_s z_1.toNatClampNeg x) gs := (F7.put hR10 (by have := o_cl (rfl : z_1.toInt = z_1.toInt) (by omega); omega))
  generalize upd q_s z_1.toNatClampNeg x = g_2 at hP hD Rg_2_0 Rg_2_1 Rg_2_2 Rg_2_3 Rg_2_4 Rg_2_5 Rg_2_6 Rg_2_7 Rg_2_8 Rg_2_9 Rg_2_10
  have hP : va_P D vwCl [(q, oC11 q_thrown q_tape_ q_length q_size q_p q_limit q_s_ q_h_ q_read_ q_names_ q_reserved_ q_token q_at q_span q_number q_fault q_faultAt q_word q_got q_lines q_onces q_webs q_one q_two q_seed q_undone_ q_before_ q_undoMany q_far_ q_wayRow_ q_wayMany q_keptRow_ q_askedRow_ q_rares_ q_trial_ q_keptMany q_askedMany q_hangs_ q_paths_ q_tornSteps q_hasTorn q_turnOne q_hasTurn q_text_ q_textMany q_toldMany q_toldAt_ q_hasTold q_stack_ q_codes q_ones q_top q_deep q_isWhole q_truths_ q_imaged_ q_namesKept_ q_areKept_), (q_s_, aC1 cy 383 g_2)] H := hP
  have hD : va_D A [(q, oC11 q_thrown q_tape_ q_length q_size q_p q_limit q_s_ q_h_ q_read_ q_names_ q_reserved_ q_token q_at q_span q_number q_fault q_faultAt q_word q_got q_lines q_onces q_webs q_one q_two q_seed q_undone_ q_before_ q_undoMany q_far_ q_wayRow_ q_wayMany q_keptRow_ q_askedRow_ q_rares_ q_trial_ q_keptMany q_askedMany q_hangs_ q_paths_ q_tornSteps q_hasTorn q_turnOne q_hasTurn q_text_ q_textMany q_toldMany q_toldAt_ q_hasTold q_stack_ q_codes q_ones q_top q_deep q_isWhole q_truths_ q_imaged_ q_namesKept_ q_areKept_), (q_s_, aC1 cy 383 g_2)] := hD
  refine lv_aload_n hx hb dX11_moves_10 rfl (lv_at hl 0 rfl) ?_
  refine q_get11 (v := .ref q_s_) C hP 0 6 rfl fT_6 (by decide) kF_RX11_33 rfl dX11_moves_11 ?_
  refine lv_bipush (v := 114) hx hb dX11_moves_14 (by decide) ?_
  refine lv_iload_n hx hb dX11_moves_16 rfl (lv_at hl 1 rfl) ?_
  refine lv_iadd hx hb dX11_moves_17 ?_
  refine lv_topi (fun z_3 hz_3 => ?_)
  have hz_3 := o_add hz_3 (by decide : (114 : Int32).toInt = 114) (rfl : a.toInt = a.toInt) (by omega) (by omega)
  refine lv_iload_n hx hb dX11_moves_18 rfl (lv_at hl 3 rfl) ?_
  refine q_iast (g := upd g_2 z_3.toNatClampNeg y) (w' := [(q, oC11 q_thrown q_tape_ q_length q_size q_p q_limit q_s_ q_h_ q_read_ q_names_ q_reserved_ q_token q_at q_span q_number q_fault q_faultAt q_word q_got q_lines q_onces q_webs q_one q_two q_seed q_undone_ q_before_ q_undoMany q_far_ q_wayRow_ q_wayMany q_keptRow_ q_askedRow_ q_rares_ q_trial_ q_keptMany q_askedMany q_hangs_ q_paths_ q_tornSteps q_hasTorn q_turnOne q_hasTurn q_text_ q_textMany q_toldMany q_toldAt_ q_hasTold q_stack_ q_codes q_ones q_top q_deep q_isWhole q_truths_ q_imaged_ q_namesKept_ q_areKept_), (q_s_, aC1 cy 383 (upd g_2 z_3.toNatClampNeg y))]) C hP hD hS 1 rfl (o_in (rfl : z_3.toInt = z_3.toInt) (by omega) (by omega)) rfl rfl dX11_moves_19 (fun H locs hP hD hS => ?_)
  have Rg_4_0 := Rg.upd_in (k := z_3.toNatClampNeg) (v := y) Rg_2_0 (by omega) (by omega)
  have Rg_4_1 := Rg.upd_in (k := z_3.toNatClampNeg) (v := y) Rg_2_1 (by omega) (by omega)
  have Rg_4_2 := Rg.upd_out (k := z_3.toNatClampNeg) (v := y) Rg_2_2 (by have := o_cl (rfl : z_3.toInt = z_3.toInt) (by omega); omega)
  have Rg_4_3 := Rg.upd_out (k := z_3.toNatClampNeg) (v := y) Rg_2_3 (by have := o_cl (rfl : z_3.toInt = z_3.toInt) (by omega); omega)
  have Rg_4_4 := Rg.upd_in (k := z_3.toNatClampNeg) (v := y) Rg_2_4 (by omega) (by omega)
  have Rg_4_5 := Rg.upd_in (k := z_3.toNatClampNeg) (v := y) Rg_2_5 (by omega) (by omega)
  have Rg_4_6 := Rg.upd_in (k := z_3.toNatClampNeg) (v := y) Rg_2_6 (by omega) (by omega)
  have Rg_4_7 := Rg.upd_in (k := z_3.toNatClampNeg) (v := y) Rg_2_7 (by omega) (by omega)
  have Rg_4_8 := Rg.upd_in (k := z_3.toNatClampNeg) (v := y) Rg_2_8 (by omega) (by omega)
  have Rg_4_9 : Sv (upd g_2 z_3.toNatClampNeg y) := (Sv.put Rg_2_9 (by have := o_cl (rfl : z_3.toInt = z_3.toInt) (by omega); omega))
  have Rg_4_10 : F7 (upd g_2 z_3.toNatClampNeg y) gs := (F7.put Rg_2_10 (by have := o_cl (rfl : z_3.toInt = z_3.toInt) (by omega); omega))
  generalize upd g_2 z_3.toNatClampNeg y = g_4 at hP hD Rg_4_0 Rg_4_1 Rg_4_2 Rg_4_3 Rg_4_4 Rg_4_5 Rg_4_6 Rg_4_7 Rg_4_8 Rg_4_9 Rg_4_10
  have hP : va_P D vwCl [(q, oC11 q_thrown q_tape_ q_length q_size q_p q_limit q_s_ q_h_ q_read_ q_names_ q_reserved_ q_token q_at q_span q_number q_fault q_faultAt q_word q_got q_lines q_onces q_webs q_one q_two q_seed q_undone_ q_before_ q_undoMany q_far_ q_wayRow_ q_wayMany q_keptRow_ q_askedRow_ q_rares_ q_trial_ q_keptMany q_askedMany q_hangs_ q_paths_ q_tornSteps q_hasTorn q_turnOne q_hasTurn q_text_ q_textMany q_toldMany q_toldAt_ q_hasTold q_stack_ q_codes q_ones q_top q_deep q_isWhole q_truths_ q_imaged_ q_namesKept_ q_areKept_), (q_s_, aC1 cy 383 g_4)] H := hP
  have hD : va_D A [(q, oC11 q_thrown q_tape_ q_length q_size q_p q_limit q_s_ q_h_ q_read_ q_names_ q_reserved_ q_token q_at q_span q_number q_fault q_faultAt q_word q_got q_lines q_onces q_webs q_one q_two q_seed q_undone_ q_before_ q_undoMany q_far_ q_wayRow_ q_wayMany q_keptRow_ q_askedRow_ q_rares_ q_trial_ q_keptMany q_askedMany q_hangs_ q_paths_ q_tornSteps q_hasTorn q_turnOne q_hasTurn q_text_ q_textMany q_toldMany q_toldAt_ q_hasTold q_stack_ q_codes q_ones q_top q_deep q_isWhole q_truths_ q_imaged_ q_namesKept_ q_areKept_), (q_s_, aC1 cy 383 g_4)] := hD
  refine lv_aload_n hx hb dX11_moves_20 rfl (lv_at hl 0 rfl) ?_
  refine lv_iload_n hx hb dX11_moves_21 rfl (lv_at hl 1 rfl) ?_
  refine q_av (wr := []) (r_V (rm := (Rm 0 0 0 0)) (q0 := 0) (As := [.int a]) (rest := []) (wc := [(q, oC11 q_thrown q_tape_ q_length q_size q_p q_limit q_s_ q_h_ q_read_ q_names_ q_reserved_ q_token q_at q_span q_number q_fault q_faultAt q_word q_got q_lines q_onces q_webs q_one q_two q_seed q_undone_ q_before_ q_undoMany q_far_ q_wayRow_ q_wayMany q_keptRow_ q_askedRow_ q_rares_ q_trial_ q_keptMany q_askedMany q_hangs_ q_paths_ q_tornSteps q_hasTorn q_turnOne q_hasTurn q_text_ q_textMany q_toldMany q_toldAt_ q_hasTold q_stack_ q_codes q_ones q_top q_deep q_isWhole q_truths_ q_imaged_ q_namesKept_ q_areKept_), (q_s_, aC1 cy 383 g_4)]) C hS (q_subP hP [0, 1] rfl) (hD.sub [0, 1] (by decide) rfl) (y_clearsThreads l D cy q a q_thrown q_tape_ q_length q_size q_p q_limit q_s_ q_h_ q_read_ q_names_ q_reserved_ q_token q_at q_span q_number q_fault q_faultAt q_word q_got q_lines q_onces q_webs q_one q_two q_seed q_undone_ q_before_ q_undoMany q_far_ q_wayRow_ q_wayMany q_keptRow_ q_askedRow_ q_rares_ q_trial_ q_keptMany q_askedMany q_hangs_ q_paths_ q_tornSteps q_hasTorn q_turnOne q_hasTurn q_text_ q_textMany q_toldMany q_toldAt_ q_hasTold q_stack_ q_codes q_ones q_top q_deep q_isWhole q_truths_ q_imaged_ q_namesKept_ q_areKept_ g_4 gs _ (by omega) (by omega) (by omega) (by omega) (by omega) (by omega) (by omega) (by omega) (by omega) (by omega) (by omega) (by omega) (by omega) (by omega) (by omega) (by omega) (by omega) (by omega) (by omega) (by omega) (by omega) (by omega) (by omega) Rg_4_0 Rg_4_1 Rg_4_2 Rg_4_3 Rg_4_4 Rg_4_5 Rg_4_6 Rg_4_7 Rg_4_8 Rg_4_9 Rg_4_10) kwV_X11_clearsThreads kM_RX11_331 rfl rfl ⟨Nat.le_of_ble_eq_true rfl, Nat.le_of_ble_eq_true rfl⟩ rfl hl.1 rfl (Nat.le_of_ble_eq_true rfl) dX11_moves_22 ⟨hroom.1, hroom.2⟩) C.2.2.2.2.2.2.1 hP hD hS [0, 1] [] rfl rfl (by decide) (by decide) (fun u_5 H locs hw_7 hP hD hS => ?_)
  obtain ⟨g_8, rfl⟩ : ∃ z, z = u_5 := ⟨_, rfl⟩
  have hP : va_P D vwCl [(q, oC11 q_thrown q_tape_ q_length q_size q_p q_limit q_s_ q_h_ q_read_ q_names_ q_reserved_ q_token q_at q_span q_number q_fault q_faultAt q_word q_got q_lines q_onces q_webs q_one q_two q_seed q_undone_ q_before_ q_undoMany q_far_ q_wayRow_ q_wayMany q_keptRow_ q_askedRow_ q_rares_ q_trial_ q_keptMany q_askedMany q_hangs_ q_paths_ q_tornSteps q_hasTorn q_turnOne q_hasTurn q_text_ q_textMany q_toldMany q_toldAt_ q_hasTold q_stack_ q_codes q_ones q_top q_deep q_isWhole q_truths_ q_imaged_ q_namesKept_ q_areKept_), (q_s_, aC1 cy 383 g_8)] H := hP
  have hD : va_D A [(q, oC11 q_thrown q_tape_ q_length q_size q_p q_limit q_s_ q_h_ q_read_ q_names_ q_reserved_ q_token q_at q_span q_number q_fault q_faultAt q_word q_got q_lines q_onces q_webs q_one q_two q_seed q_undone_ q_before_ q_undoMany q_far_ q_wayRow_ q_wayMany q_keptRow_ q_askedRow_ q_rares_ q_trial_ q_keptMany q_askedMany q_hangs_ q_paths_ q_tornSteps q_hasTorn q_turnOne q_hasTurn q_text_ q_textMany q_toldMany q_toldAt_ q_hasTold q_stack_ q_codes q_ones q_top q_deep q_isWhole q_truths_ q_imaged_ q_namesKept_ q_areKept_), (q_s_, aC1 cy 383 g_8)] := hD
  have hp_8 : Rg g_8 0 1 0 8 := hw_7.1
  have hp_9 : Rg g_8 1 3 0 6 := hw_7.2.1
  have hp_10 : Rg g_8 3 4 1 50 := hw_7.2.2.1
  have hp_11 : Rg g_8 4 5 1 5 := hw_7.2.2.2.1
  have hp_12 : Rg g_8 103 104 0 255 := hw_7.2.2.2.2.1
  have hp_13 : Rg g_8 7 23 0 5 := hw_7.2.2.2.2.2.1
  have hp_14 : Rg g_8 106 122 0 5 := hw_7.2.2.2.2.2.2.1
  have hp_15 : Rg g_8 23 31 0 99 := hw_7.2.2.2.2.2.2.2.1
  have hp_16 : Rg g_8 122 130 0 99 := hw_7.2.2.2.2.2.2.2.2.1
  have hp_17 : Sv g_8 := hw_7.2.2.2.2.2.2.2.2.2.1
  have hp_18 : F7 g_8 gs := hw_7.2.2.2.2.2.2.2.2.2.2
  clear hw_7
  refine o_wq hQ ?_
  exact q_vret (rm := (Rm 1 22 0 0)) C hS g_8 ⟨hp_8, hp_9, hp_10, hp_11, hp_12, hp_13, hp_14, hp_15, hp_16, hp_17, hp_18⟩ (q_subP hP [0, 1] rfl) (hD.sub [0, 1] (by decide) rfl) hroom.1 hroom.2 dX11_moves_25
theorem y_moves (l : Launch) (D : va_G) (cy : Nat → ClassId) (q : Nat) (a : Int32) (x : Int32) (y : Int32) (q_thrown : Int32) (q_tape_ : Nat) (q_length : Int32) (q_size : Int32) (q_p : Int32) (q_limit : Int32) (q_s_ : Nat) (q_h_ : Nat) (q_read_ : Nat) (q_names_ : Nat) (q_reserved_ : Nat) (q_token : Int32) (q_at : Int32) (q_span : Int32) (q_number : Int32) (q_fault : Int32) (q_faultAt : Int32) (q_word : Int64) (q_got : Int32) (q_lines : Int32) (q_onces : Int32) (q_webs : Int32) (q_one : Int32) (q_two : Int32) (q_seed : Int32) (q_undone_ : Nat) (q_before_ : Nat) (q_undoMany : Int32) (q_far_ : Nat) (q_wayRow_ : Nat) (q_wayMany : Int32) (q_keptRow_ : Nat) (q_askedRow_ : Nat) (q_rares_ : Nat) (q_trial_ : Nat) (q_keptMany : Int32) (q_askedMany : Int32) (q_hangs_ : Nat) (q_paths_ : Nat) (q_tornSteps : Int32) (q_hasTorn : Int32) (q_turnOne : Int32) (q_hasTurn : Int32) (q_text_ : Nat) (q_textMany : Int32) (q_toldMany : Int32) (q_toldAt_ : Nat) (q_hasTold : Int32) (q_stack_ : Nat) (q_codes : Int32) (q_ones : Int32) (q_top : Int32) (q_deep : Int32) (q_isWhole : Int32) (q_truths_ : Nat) (q_imaged_ : Nat) (q_namesKept_ : Nat) (q_areKept_ : Nat) (q_s : Nat → Int32) (gs : Nat → Int32) (sz : Nat) (hb0 : 0 ≤ q_length.toInt ∧ q_length.toInt ≤ 940) (hb1 : 0 ≤ q_size.toInt ∧ q_size.toInt ≤ 940) (hb2 : 0 ≤ q_p.toInt ∧ q_p.toInt ≤ 940) (hb3 : 0 ≤ q_limit.toInt ∧ q_limit.toInt ≤ 940) (hb4 : 0 ≤ q_span.toInt ∧ q_span.toInt ≤ 940) (hb5 : 0 ≤ q_number.toInt ∧ q_number.toInt ≤ 8214) (hb6 : (-1) ≤ q_got.toInt ∧ q_got.toInt ≤ 8214) (hb7 : 0 ≤ q_one.toInt ∧ q_one.toInt ≤ 7) (hb8 : 0 ≤ q_two.toInt ∧ q_two.toInt ≤ 7) (hb9 : 0 ≤ q_undoMany.toInt ∧ q_undoMany.toInt ≤ 8) (hb10 : (-1) ≤ q_wayMany.toInt ∧ q_wayMany.toInt ≤ 8) (hb11 : (-1) ≤ q_keptMany.toInt ∧ q_keptMany.toInt ≤ 8) (hb12 : (-1) ≤ q_askedMany.toInt ∧ q_askedMany.toInt ≤ 3) (hb13 : 0 ≤ q_hasTorn.toInt ∧ q_hasTorn.toInt ≤ 1) (hb14 : 0 ≤ q_hasTurn.toInt ∧ q_hasTurn.toInt ≤ 1) (hb15 : 0 ≤ q_textMany.toInt ∧ q_textMany.toInt ≤ 48) (hb16 : 0 ≤ q_toldMany.toInt ∧ q_toldMany.toInt ≤ 40) (hb17 : 0 ≤ q_hasTold.toInt ∧ q_hasTold.toInt ≤ 1) (hb18 : 0 ≤ q_codes.toInt ∧ q_codes.toInt ≤ 40) (hb19 : 0 ≤ q_ones.toInt ∧ q_ones.toInt ≤ 20) (hb20 : 0 ≤ q_top.toInt ∧ q_top.toInt ≤ 40) (hb21 : 0 ≤ q_isWhole.toInt ∧ q_isWhole.toInt ≤ 1) (hb22 : 0 ≤ a.toInt ∧ a.toInt ≤ 7) (hb23 : 0 ≤ x.toInt ∧ x.toInt ≤ 5) (hb24 : 0 ≤ y.toInt ∧ y.toInt ≤ 5) (hR0 : Rg q_s 0 1 0 8) (hR1 : Rg q_s 1 3 0 6) (hR2 : Rg q_s 3 4 1 50) (hR3 : Rg q_s 4 5 1 5) (hR4 : Rg q_s 103 104 0 255) (hR5 : Rg q_s 7 23 0 5) (hR6 : Rg q_s 106 122 0 5) (hR7 : Rg q_s 23 31 0 99) (hR8 : Rg q_s 122 130 0 99) (hR9 : Sv q_s) (hR10 : F7 q_s gs) : MV l yX11_moves cX11_moves 4 (Rm 1 22 0 0) D cy [.ref q, .int a, .int x, .int y] sz [(q, oC11 q_thrown q_tape_ q_length q_size q_p q_limit q_s_ q_h_ q_read_ q_names_ q_reserved_ q_token q_at q_span q_number q_fault q_faultAt q_word q_got q_lines q_onces q_webs q_one q_two q_seed q_undone_ q_before_ q_undoMany q_far_ q_wayRow_ q_wayMany q_keptRow_ q_askedRow_ q_rares_ q_trial_ q_keptMany q_askedMany q_hangs_ q_paths_ q_tornSteps q_hasTorn q_turnOne q_hasTurn q_text_ q_textMany q_toldMany q_toldAt_ q_hasTold q_stack_ q_codes q_ones q_top q_deep q_isWhole q_truths_ q_imaged_ q_namesKept_ q_areKept_), (q_s_, aC1 cy 383 q_s)] (fun u : (Nat → Int32) => (Rg u 0 1 0 8) ∧ (Rg u 1 3 0 6) ∧ (Rg u 3 4 1 50) ∧ (Rg u 4 5 1 5) ∧ (Rg u 103 104 0 255) ∧ (Rg u 7 23 0 5) ∧ (Rg u 106 122 0 5) ∧ (Rg u 23 31 0 99) ∧ (Rg u 122 130 0 99) ∧ (Sv u) ∧ (F7 u gs)) (fun u : (Nat → Int32) => [(q, oC11 q_thrown q_tape_ q_length q_size q_p q_limit q_s_ q_h_ q_read_ q_names_ q_reserved_ q_token q_at q_span q_number q_fault q_faultAt q_word q_got q_lines q_onces q_webs q_one q_two q_seed q_undone_ q_before_ q_undoMany q_far_ q_wayRow_ q_wayMany q_keptRow_ q_askedRow_ q_rares_ q_trial_ q_keptMany q_askedMany q_hangs_ q_paths_ q_tornSteps q_hasTorn q_turnOne q_hasTurn q_text_ q_textMany q_toldMany q_toldAt_ q_hasTold q_stack_ q_codes q_ones q_top q_deep q_isWhole q_truths_ q_imaged_ q_namesKept_ q_areKept_), (q_s_, aC1 cy 383 u)]) := by
  refine MV.enter (by decide) (Nat.le_of_ble_eq_true rfl) ?_
  intro p e s m below meth c ls A hsz hAe C hP hD hS hl
  exact b_y_moves l D cy q a x y q_thrown q_tape_ q_length q_size q_p q_limit q_s_ q_h_ q_read_ q_names_ q_reserved_ q_token q_at q_span q_number q_fault q_faultAt q_word q_got q_lines q_onces q_webs q_one q_two q_seed q_undone_ q_before_ q_undoMany q_far_ q_wayRow_ q_wayMany q_keptRow_ q_askedRow_ q_rares_ q_trial_ q_keptMany q_askedMany q_hangs_ q_paths_ q_tornSteps q_hasTorn q_turnOne q_hasTurn q_text_ q_textMany q_toldMany q_toldAt_ q_hasTold q_stack_ q_codes q_ones q_top q_deep q_isWhole q_truths_ q_imaged_ q_namesKept_ q_areKept_ q_s gs hb0 hb1 hb2 hb3 hb4 hb5 hb6 hb7 hb8 hb9 hb10 hb11 hb12 hb13 hb14 hb15 hb16 hb17 hb18 hb19 hb20 hb21 hb22 hb23 hb24 hR0 hR1 hR2 hR3 hR4 hR5 hR6 hR7 hR8 hR9 hR10 ⟨Nat.le_of_ble_eq_true rfl, Nat.le_of_ble_eq_true rfl⟩ C rfl _ _ ls hP hD hS hl
set_option maxHeartbeats 4000000 in
set_option maxRecDepth 100000 in
theorem b_y_draw12 (l : Launch) (D : va_G) (cy : Nat → ClassId) (q : Nat) (q_thrown : Int32) (q_tape_ : Nat) (q_length : Int32) (q_size : Int32) (q_p : Int32) (q_limit : Int32) (q_s_ : Nat) (q_h_ : Nat) (q_read_ : Nat) (q_names_ : Nat) (q_reserved_ : Nat) (q_token : Int32) (q_at : Int32) (q_span : Int32) (q_number : Int32) (q_fault : Int32) (q_faultAt : Int32) (q_word : Int64) (q_got : Int32) (q_lines : Int32) (q_onces : Int32) (q_webs : Int32) (q_one : Int32) (q_two : Int32) (q_seed : Int32) (q_undone_ : Nat) (q_before_ : Nat) (q_undoMany : Int32) (q_far_ : Nat) (q_wayRow_ : Nat) (q_wayMany : Int32) (q_keptRow_ : Nat) (q_askedRow_ : Nat) (q_rares_ : Nat) (q_trial_ : Nat) (q_keptMany : Int32) (q_askedMany : Int32) (q_hangs_ : Nat) (q_paths_ : Nat) (q_tornSteps : Int32) (q_hasTorn : Int32) (q_turnOne : Int32) (q_hasTurn : Int32) (q_text_ : Nat) (q_textMany : Int32) (q_toldMany : Int32) (q_toldAt_ : Nat) (q_hasTold : Int32) (q_stack_ : Nat) (q_codes : Int32) (q_ones : Int32) (q_top : Int32) (q_deep : Int32) (q_isWhole : Int32) (q_truths_ : Nat) (q_imaged_ : Nat) (q_namesKept_ : Nat) (q_areKept_ : Nat) (hb0 : 0 ≤ q_length.toInt ∧ q_length.toInt ≤ 940) (hb1 : 0 ≤ q_size.toInt ∧ q_size.toInt ≤ 940) (hb2 : 0 ≤ q_p.toInt ∧ q_p.toInt ≤ 940) (hb3 : 0 ≤ q_limit.toInt ∧ q_limit.toInt ≤ 940) (hb4 : 0 ≤ q_span.toInt ∧ q_span.toInt ≤ 940) (hb5 : 0 ≤ q_number.toInt ∧ q_number.toInt ≤ 8214) (hb6 : (-1) ≤ q_got.toInt ∧ q_got.toInt ≤ 8214) (hb7 : 0 ≤ q_one.toInt ∧ q_one.toInt ≤ 7) (hb8 : 0 ≤ q_two.toInt ∧ q_two.toInt ≤ 7) (hb9 : 0 ≤ q_undoMany.toInt ∧ q_undoMany.toInt ≤ 8) (hb10 : (-1) ≤ q_wayMany.toInt ∧ q_wayMany.toInt ≤ 8) (hb11 : (-1) ≤ q_keptMany.toInt ∧ q_keptMany.toInt ≤ 8) (hb12 : (-1) ≤ q_askedMany.toInt ∧ q_askedMany.toInt ≤ 3) (hb13 : 0 ≤ q_hasTorn.toInt ∧ q_hasTorn.toInt ≤ 1) (hb14 : 0 ≤ q_hasTurn.toInt ∧ q_hasTurn.toInt ≤ 1) (hb15 : 0 ≤ q_textMany.toInt ∧ q_textMany.toInt ≤ 48) (hb16 : 0 ≤ q_toldMany.toInt ∧ q_toldMany.toInt ≤ 40) (hb17 : 0 ≤ q_hasTold.toInt ∧ q_hasTold.toInt ≤ 1) (hb18 : 0 ≤ q_codes.toInt ∧ q_codes.toInt ≤ 40) (hb19 : 0 ≤ q_ones.toInt ∧ q_ones.toInt ≤ 20) (hb20 : 0 ≤ q_top.toInt ∧ q_top.toInt ≤ 40) (hb21 : 0 ≤ q_isWhole.toInt ∧ q_isWhole.toInt ≤ 1) {p : Program} {e : Env} {s : State} {m : MethodId} {args : Array Value} {below : List Frame} {meth : Method} {c : Code} {A : Nat → Prop} {Q : State → Prop} {cells slots : Nat} (hroom : cells ≤ ((Rm 0 0 0 0)).cells ∧ slots ≤ ((Rm 0 0 0 0)).slots) (C : Cx p s m args meth c cX11_draw 2 (some .int) RX11 "draw" D cy A) (hQ : Q = MQ below (va_Qi (fun (r : Int32) (u : Int32) => (0 ≤ r.toInt ∧ r.toInt ≤ 11)) (Bx D A (fun u : Int32 => [(q, oC11 q_thrown q_tape_ q_length q_size q_p q_limit q_s_ q_h_ q_read_ q_names_ q_reserved_ q_token q_at q_span q_number q_fault q_faultAt q_word q_got q_lines q_onces q_webs q_one q_two u q_undone_ q_before_ q_undoMany q_far_ q_wayRow_ q_wayMany q_keptRow_ q_askedRow_ q_rares_ q_trial_ q_keptMany q_askedMany q_hangs_ q_paths_ q_tornSteps q_hasTorn q_turnOne q_hasTurn q_text_ q_textMany q_toldMany q_toldAt_ q_hasTold q_stack_ q_codes q_ones q_top q_deep q_isWhole q_truths_ q_imaged_ q_namesKept_ q_areKept_)])) A) args s ((Rm 0 0 0 0)).cells ((Rm 0 0 0 0)).slots A) (H : Heap) (locs : List Loc) (ls : Array Slot) (hP : va_P D vwCl [(q, oC11 q_thrown q_tape_ q_length q_size q_p q_limit q_s_ q_h_ q_read_ q_names_ q_reserved_ q_token q_at q_span q_number q_fault q_faultAt q_word q_got q_lines q_onces q_webs q_one q_two q_seed q_undone_ q_before_ q_undoMany q_far_ q_wayRow_ q_wayMany q_keptRow_ q_askedRow_ q_rares_ q_trial_ q_keptMany q_askedMany q_hangs_ q_paths_ q_tornSteps q_hasTorn q_turnOne q_hasTurn q_text_ q_textMany q_toldMany q_toldAt_ q_hasTold q_stack_ q_codes q_ones q_top q_deep q_isWhole q_truths_ q_imaged_ q_namesKept_ q_areKept_)] H) (hD : va_D A [(q, oC11 q_thrown q_tape_ q_length q_size q_p q_limit q_s_ q_h_ q_read_ q_names_ q_reserved_ q_token q_at q_span q_number q_fault q_faultAt q_word q_got q_lines q_onces q_webs q_one q_two q_seed q_undone_ q_before_ q_undoMany q_far_ q_wayRow_ q_wayMany q_keptRow_ q_askedRow_ q_rares_ q_trial_ q_keptMany q_askedMany q_hangs_ q_paths_ q_tornSteps q_hasTorn q_turnOne q_hasTurn q_text_ q_textMany q_toldMany q_toldAt_ q_hasTold q_stack_ q_codes q_ones q_top q_deep q_isWhole q_truths_ q_imaged_ q_namesKept_ q_areKept_)]) (hS : va_S A s.heap H locs) (hl : lv_has ls 2 [(0, .ref q), (1, .int 12)]) : W p l e (Rm 0 0 0 0) s m args below meth c H locs cells slots Q (F0 m 0 ls []) := by
  have hx := C.1
  have hb := C.2.1
  refine lv_aload_n hx hb dX11_draw_0 rfl (lv_at hl 0 rfl) ?_
  refine lv_aload_n hx hb dX11_draw_1 rfl (lv_at hl 0 rfl) ?_
  refine q_get11 (v := .int q_seed) C hP 0 24 rfl fT_24 (by decide) kF_RX11_334 rfl dX11_draw_2 ?_
  refine q_ldc_w (v := 1103515245) C kC_RX11_337 dX11_draw_5 ?_
  refine lv_imul hx hb dX11_draw_8 ?_
  refine lv_topi (fun z_1 hz_1 => ?_)
  clear hz_1
  refine lv_sipush (v := 12345) hx hb dX11_draw_9 (by decide) ?_
  refine lv_iadd hx hb dX11_draw_12 ?_
  refine lv_topi (fun z_2 hz_2 => ?_)
  clear hz_2
  refine q_put11 (v := .int z_2) (w' := [(q, oC11 q_thrown q_tape_ q_length q_size q_p q_limit q_s_ q_h_ q_read_ q_names_ q_reserved_ q_token q_at q_span q_number q_fault q_faultAt q_word q_got q_lines q_onces q_webs q_one q_two z_2 q_undone_ q_before_ q_undoMany q_far_ q_wayRow_ q_wayMany q_keptRow_ q_askedRow_ q_rares_ q_trial_ q_keptMany q_askedMany q_hangs_ q_paths_ q_tornSteps q_hasTorn q_turnOne q_hasTurn q_text_ q_textMany q_toldMany q_toldAt_ q_hasTold q_stack_ q_codes q_ones q_top q_deep q_isWhole q_truths_ q_imaged_ q_namesKept_ q_areKept_)]) C hP hD hS 0 24 rfl fT_24 fy_24 (by decide) kF_RX11_334 rfl rfl (Nat.le_of_ble_eq_true rfl) rfl dX11_draw_13 (fun H locs hP hD hS => ?_)
  refine lv_aload_n hx hb dX11_draw_16 rfl (lv_at hl 0 rfl) ?_
  refine q_get11 (v := .int z_2) C hP 0 24 rfl fT_24 (by decide) kF_RX11_334 rfl dX11_draw_17 ?_
  refine lv_bipush (v := 8) hx hb dX11_draw_20 (by decide) ?_
  obtain ⟨z_3, hz_3⟩ : ∃ z : Int32, z = ((z_2 : Int32).toUInt32 >>> ((8 : Int32).toUInt32 &&& Int32.toUInt32 31)).toInt32 := ⟨_, rfl⟩
  refine lv_iushr (v := z_3) hx hb dX11_draw_22 hz_3.symm ?_
  have hz_3 := o_ushr 8 16777215 hz_3 (by decide) (by decide)
  refine lv_iload_n hx hb dX11_draw_23 rfl (lv_at hl 1 rfl) ?_
  refine lv_irem hx hb dX11_draw_24 (by decide) ?_
  refine lv_topi (fun z_4 hz_4 => ?_)
  have hz_4 := o_rem hz_4 (rfl : z_3.toInt = z_3.toInt) (by decide : (12 : Int32).toInt = 12) (by omega) (by omega)
  refine o_wq hQ ?_
  exact q_iret (rm := (Rm 0 0 0 0)) C hS z_2 rfl (show 0 ≤ z_4.toInt ∧ z_4.toInt ≤ 11 by omega) (q_subP hP [0] rfl) (hD.sub [0] (by decide) rfl) hroom.1 hroom.2 dX11_draw_25
theorem y_draw12 (l : Launch) (D : va_G) (cy : Nat → ClassId) (q : Nat) (q_thrown : Int32) (q_tape_ : Nat) (q_length : Int32) (q_size : Int32) (q_p : Int32) (q_limit : Int32) (q_s_ : Nat) (q_h_ : Nat) (q_read_ : Nat) (q_names_ : Nat) (q_reserved_ : Nat) (q_token : Int32) (q_at : Int32) (q_span : Int32) (q_number : Int32) (q_fault : Int32) (q_faultAt : Int32) (q_word : Int64) (q_got : Int32) (q_lines : Int32) (q_onces : Int32) (q_webs : Int32) (q_one : Int32) (q_two : Int32) (q_seed : Int32) (q_undone_ : Nat) (q_before_ : Nat) (q_undoMany : Int32) (q_far_ : Nat) (q_wayRow_ : Nat) (q_wayMany : Int32) (q_keptRow_ : Nat) (q_askedRow_ : Nat) (q_rares_ : Nat) (q_trial_ : Nat) (q_keptMany : Int32) (q_askedMany : Int32) (q_hangs_ : Nat) (q_paths_ : Nat) (q_tornSteps : Int32) (q_hasTorn : Int32) (q_turnOne : Int32) (q_hasTurn : Int32) (q_text_ : Nat) (q_textMany : Int32) (q_toldMany : Int32) (q_toldAt_ : Nat) (q_hasTold : Int32) (q_stack_ : Nat) (q_codes : Int32) (q_ones : Int32) (q_top : Int32) (q_deep : Int32) (q_isWhole : Int32) (q_truths_ : Nat) (q_imaged_ : Nat) (q_namesKept_ : Nat) (q_areKept_ : Nat) (sz : Nat) (hb0 : 0 ≤ q_length.toInt ∧ q_length.toInt ≤ 940) (hb1 : 0 ≤ q_size.toInt ∧ q_size.toInt ≤ 940) (hb2 : 0 ≤ q_p.toInt ∧ q_p.toInt ≤ 940) (hb3 : 0 ≤ q_limit.toInt ∧ q_limit.toInt ≤ 940) (hb4 : 0 ≤ q_span.toInt ∧ q_span.toInt ≤ 940) (hb5 : 0 ≤ q_number.toInt ∧ q_number.toInt ≤ 8214) (hb6 : (-1) ≤ q_got.toInt ∧ q_got.toInt ≤ 8214) (hb7 : 0 ≤ q_one.toInt ∧ q_one.toInt ≤ 7) (hb8 : 0 ≤ q_two.toInt ∧ q_two.toInt ≤ 7) (hb9 : 0 ≤ q_undoMany.toInt ∧ q_undoMany.toInt ≤ 8) (hb10 : (-1) ≤ q_wayMany.toInt ∧ q_wayMany.toInt ≤ 8) (hb11 : (-1) ≤ q_keptMany.toInt ∧ q_keptMany.toInt ≤ 8) (hb12 : (-1) ≤ q_askedMany.toInt ∧ q_askedMany.toInt ≤ 3) (hb13 : 0 ≤ q_hasTorn.toInt ∧ q_hasTorn.toInt ≤ 1) (hb14 : 0 ≤ q_hasTurn.toInt ∧ q_hasTurn.toInt ≤ 1) (hb15 : 0 ≤ q_textMany.toInt ∧ q_textMany.toInt ≤ 48) (hb16 : 0 ≤ q_toldMany.toInt ∧ q_toldMany.toInt ≤ 40) (hb17 : 0 ≤ q_hasTold.toInt ∧ q_hasTold.toInt ≤ 1) (hb18 : 0 ≤ q_codes.toInt ∧ q_codes.toInt ≤ 40) (hb19 : 0 ≤ q_ones.toInt ∧ q_ones.toInt ≤ 20) (hb20 : 0 ≤ q_top.toInt ∧ q_top.toInt ≤ 40) (hb21 : 0 ≤ q_isWhole.toInt ∧ q_isWhole.toInt ≤ 1) : MI l yX11_draw cX11_draw 2 (some .int) (Rm 0 0 0 0) D cy [.ref q, .int 12] sz [(q, oC11 q_thrown q_tape_ q_length q_size q_p q_limit q_s_ q_h_ q_read_ q_names_ q_reserved_ q_token q_at q_span q_number q_fault q_faultAt q_word q_got q_lines q_onces q_webs q_one q_two q_seed q_undone_ q_before_ q_undoMany q_far_ q_wayRow_ q_wayMany q_keptRow_ q_askedRow_ q_rares_ q_trial_ q_keptMany q_askedMany q_hangs_ q_paths_ q_tornSteps q_hasTorn q_turnOne q_hasTurn q_text_ q_textMany q_toldMany q_toldAt_ q_hasTold q_stack_ q_codes q_ones q_top q_deep q_isWhole q_truths_ q_imaged_ q_namesKept_ q_areKept_)] (fun (r : Int32) (u : Int32) => (0 ≤ r.toInt ∧ r.toInt ≤ 11)) (fun u : Int32 => [(q, oC11 q_thrown q_tape_ q_length q_size q_p q_limit q_s_ q_h_ q_read_ q_names_ q_reserved_ q_token q_at q_span q_number q_fault q_faultAt q_word q_got q_lines q_onces q_webs q_one q_two u q_undone_ q_before_ q_undoMany q_far_ q_wayRow_ q_wayMany q_keptRow_ q_askedRow_ q_rares_ q_trial_ q_keptMany q_askedMany q_hangs_ q_paths_ q_tornSteps q_hasTorn q_turnOne q_hasTurn q_text_ q_textMany q_toldMany q_toldAt_ q_hasTold q_stack_ q_codes q_ones q_top q_deep q_isWhole q_truths_ q_imaged_ q_namesKept_ q_areKept_)]) := by
  refine MI.enter (by decide) (Nat.le_of_ble_eq_true rfl) ?_
  intro p e s m below meth c ls A hsz hAe C hP hD hS hl
  exact b_y_draw12 l D cy q q_thrown q_tape_ q_length q_size q_p q_limit q_s_ q_h_ q_read_ q_names_ q_reserved_ q_token q_at q_span q_number q_fault q_faultAt q_word q_got q_lines q_onces q_webs q_one q_two q_seed q_undone_ q_before_ q_undoMany q_far_ q_wayRow_ q_wayMany q_keptRow_ q_askedRow_ q_rares_ q_trial_ q_keptMany q_askedMany q_hangs_ q_paths_ q_tornSteps q_hasTorn q_turnOne q_hasTurn q_text_ q_textMany q_toldMany q_toldAt_ q_hasTold q_stack_ q_codes q_ones q_top q_deep q_isWhole q_truths_ q_imaged_ q_namesKept_ q_areKept_ hb0 hb1 hb2 hb3 hb4 hb5 hb6 hb7 hb8 hb9 hb10 hb11 hb12 hb13 hb14 hb15 hb16 hb17 hb18 hb19 hb20 hb21 ⟨Nat.le_of_ble_eq_true rfl, Nat.le_of_ble_eq_true rfl⟩ C rfl _ _ ls hP hD hS hl
