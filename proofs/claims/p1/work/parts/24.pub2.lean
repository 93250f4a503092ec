theorem dX6_hasRow_0 : decode cX6_hasRow 0 = .ok (.iload_n 1, 1) := by decide +kernel
theorem dX6_hasRow_1 : decode cX6_hasRow 1 = .ok (.ifCond .lt 15, 3) := by decide +kernel
theorem dX6_hasRow_16 : decode cX6_hasRow 16 = .ok (.iconst 0, 1) := by decide +kernel
theorem dX6_hasRow_17 : decode cX6_hasRow 17 = .ok (.ireturn, 1) := by decide +kernel
theorem dX6_hasRow_4 : decode cX6_hasRow 4 = .ok (.iload_n 1, 1) := by decide +kernel
theorem dX6_hasRow_5 : decode cX6_hasRow 5 = .ok (.aload_n 0, 1) := by decide +kernel
theorem dX6_hasRow_6 : decode cX6_hasRow 6 = .ok (.getfield 15, 3) := by decide +kernel
theorem dX6_hasRow_9 : decode cX6_hasRow 9 = .ok (.if_icmp .ge 7, 3) := by decide +kernel
theorem dX6_hasRow_12 : decode cX6_hasRow 12 = .ok (.iconst 1, 1) := by decide +kernel
theorem dX6_hasRow_13 : decode cX6_hasRow 13 = .ok (.goto 4, 3) := by decide +kernel
theorem dX8_sweepRow_0 : decode cX8_sweepRow 0 = .ok (.iconst 0, 1) := by decide +kernel
theorem dX8_sweepRow_1 : decode cX8_sweepRow 1 = .ok (.istore_n 3, 1) := by decide +kernel
theorem dX8_sweepRow_2 : decode cX8_sweepRow 2 = .ok (.iconst 0, 1) := by decide +kernel
theorem dX8_sweepRow_3 : decode cX8_sweepRow 3 = .ok (.istore 4, 2) := by decide +kernel
theorem dX8_sweepRow_5 : decode cX8_sweepRow 5 = .ok (.iload 4, 2) := by decide +kernel
theorem dX8_sweepRow_7 : decode cX8_sweepRow 7 = .ok (.iload_n 1, 1) := by decide +kernel
theorem dX8_sweepRow_8 : decode cX8_sweepRow 8 = .ok (.if_icmp .ge 55, 3) := by decide +kernel
theorem dX8_sweepRow_63 : decode cX8_sweepRow 63 = .ok (.iload_n 3, 1) := by decide +kernel
theorem dX8_sweepRow_64 : decode cX8_sweepRow 64 = .ok (.ifCond .eq 7, 3) := by decide +kernel
theorem dX8_sweepRow_71 : decode cX8_sweepRow 71 = .ok (.iconst 1, 1) := by decide +kernel
theorem dX8_sweepRow_72 : decode cX8_sweepRow 72 = .ok (.ireturn, 1) := by decide +kernel
theorem dX10_broom_0 : decode cX10_broom 0 = .ok (.aload_n 0, 1) := by decide +kernel
theorem dX10_broom_1 : decode cX10_broom 1 = .ok (.getfield 19, 3) := by decide +kernel
theorem dX10_broom_4 : decode cX10_broom 4 = .ok (.iload_n 1, 1) := by decide +kernel
theorem dX10_broom_5 : decode cX10_broom 5 = .ok (.invokevirtual 279, 3) := by decide +kernel
theorem kwV_X6_hasRow : MwV RX6 yX6_hasRow cX6_hasRow 2 (some .boolean) 1 := ⟨List.mem_filter.mpr ⟨List.mem_of_getElem? (i := 998) (by decide +kernel), by decide +kernel⟩, List.mem_filter.mpr ⟨List.mem_of_getElem? (i := 996) (by decide +kernel), by decide +kernel⟩, List.mem_filter.mpr ⟨List.mem_of_getElem? (i := 997) (by decide +kernel), by decide +kernel⟩, List.mem_filter.mpr ⟨List.mem_of_getElem? (i := 130) (by decide +kernel), by decide +kernel⟩, by decide +kernel⟩
theorem kM_RX10_279 : Cond.methodLink RX10 279 yX6_hasRow ∈ gT := List.mem_filter.mpr ⟨List.mem_of_getElem? (i := 1156) (by decide +kernel), by decide +kernel⟩
theorem dX10_broom_8 : decode cX10_broom 8 = .ok (.ifCond .ne 5, 3) := by decide +kernel
theorem dX10_broom_13 : decode cX10_broom 13 = .ok (.aload_n 0, 1) := by decide +kernel
theorem dX10_broom_14 : decode cX10_broom 14 = .ok (.getfield 30, 3) := by decide +kernel
theorem dX10_broom_17 : decode cX10_broom 17 = .ok (.aload_n 0, 1) := by decide +kernel
theorem dX10_broom_18 : decode cX10_broom 18 = .ok (.getfield 26, 3) := by decide +kernel
theorem dX10_broom_21 : decode cX10_broom 21 = .ok (.invokevirtual 117, 3) := by decide +kernel
theorem dX10_broom_24 : decode cX10_broom 24 = .ok (.aload_n 0, 1) := by decide +kernel
theorem dX10_broom_25 : decode cX10_broom 25 = .ok (.aload_n 0, 1) := by decide +kernel
theorem dX10_broom_26 : decode cX10_broom 26 = .ok (.getfield 30, 3) := by decide +kernel
theorem dX10_broom_29 : decode cX10_broom 29 = .ok (.aload_n 0, 1) := by decide +kernel
theorem dX10_broom_30 : decode cX10_broom 30 = .ok (.getfield 19, 3) := by decide +kernel
theorem dX10_broom_33 : decode cX10_broom 33 = .ok (.getfield 211, 3) := by decide +kernel
theorem dX10_broom_36 : decode cX10_broom 36 = .ok (.iload_n 1, 1) := by decide +kernel
theorem dX10_broom_37 : decode cX10_broom 37 = .ok (.invokevirtual 282, 3) := by decide +kernel
theorem kwV_X8_sweepRow : MwV RX8 yX8_sweepRow cX8_sweepRow 5 (some .int) 2 := ⟨List.mem_filter.mpr ⟨List.mem_of_getElem? (i := 1002) (by decide +kernel), by decide +kernel⟩, List.mem_filter.mpr ⟨List.mem_of_getElem? (i := 1000) (by decide +kernel), by decide +kernel⟩, List.mem_filter.mpr ⟨List.mem_of_getElem? (i := 1001) (by decide +kernel), by decide +kernel⟩, List.mem_filter.mpr ⟨List.mem_of_getElem? (i := 131) (by decide +kernel), by decide +kernel⟩, by decide +kernel⟩
theorem kM_RX10_282 : Cond.methodLink RX10 282 yX8_sweepRow ∈ gT := List.mem_filter.mpr ⟨List.mem_of_getElem? (i := 1157) (by decide +kernel), by decide +kernel⟩
theorem dX10_broom_40 : decode cX10_broom 40 = .ok (.invokevirtual 276, 3) := by decide +kernel
theorem kwV_X10_takeIfDone : MwV RX10 yX10_takeIfDone cX10_takeIfDone 2 (some .int) 1 := ⟨List.mem_filter.mpr ⟨List.mem_of_getElem? (i := 1151) (by decide +kernel), by decide +kernel⟩, List.mem_filter.mpr ⟨List.mem_of_getElem? (i := 1150) (by decide +kernel), by decide +kernel⟩, List.mem_filter.mpr ⟨List.mem_of_getElem? (i := 34) (by decide +kernel), by decide +kernel⟩, List.mem_filter.mpr ⟨List.mem_of_getElem? (i := 128) (by decide +kernel), by decide +kernel⟩, by decide +kernel⟩
theorem kM_RX10_276 : Cond.methodLink RX10 276 yX10_takeIfDone ∈ gT := List.mem_filter.mpr ⟨List.mem_of_getElem? (i := 1148) (by decide +kernel), by decide +kernel⟩
theorem dX10_broom_43 : decode cX10_broom 43 = .ok (.ireturn, 1) := by decide +kernel
theorem dX10_broom_11 : decode cX10_broom 11 = .ok (.iconst (-1), 1) := by decide +kernel
theorem dX10_broom_12 : decode cX10_broom 12 = .ok (.ireturn, 1) := by decide +kernel
theorem dX10_move_0 : decode cX10_move 0 = .ok (.aload_n 0, 1) := by decide +kernel
theorem dX10_move_1 : decode cX10_move 1 = .ok (.getfield 19, 3) := by decide +kernel
theorem dX10_move_4 : decode cX10_move 4 = .ok (.iload_n 1, 1) := by decide +kernel
theorem dX10_move_5 : decode cX10_move 5 = .ok (.invokevirtual 170, 3) := by decide +kernel
theorem dX10_move_8 : decode cX10_move 8 = .ok (.ifCond .eq 15, 3) := by decide +kernel
theorem dX10_move_23 : decode cX10_move 23 = .ok (.iconst (-1), 1) := by decide +kernel
theorem dX10_move_24 : decode cX10_move 24 = .ok (.ireturn, 1) := by decide +kernel
theorem dX8_growWebs_0 : decode cX8_growWebs 0 = .ok (.iconst 0, 1) := by decide +kernel
theorem dX8_growWebs_1 : decode cX8_growWebs 1 = .ok (.istore_n 2, 1) := by decide +kernel
theorem dX8_growWebs_2 : decode cX8_growWebs 2 = .ok (.iload_n 2, 1) := by decide +kernel
theorem dX8_growWebs_3 : decode cX8_growWebs 3 = .ok (.aload_n 1, 1) := by decide +kernel
theorem dX8_growWebs_4 : decode cX8_growWebs 4 = .ok (.getfield 53, 3) := by decide +kernel
theorem dX8_growWebs_7 : decode cX8_growWebs 7 = .ok (.if_icmp .ge 42, 3) := by decide +kernel
theorem dX8_growWebs_49 : decode cX8_growWebs 49 = .ok (.return_, 1) := by decide +kernel
theorem dX8_growThreads_0 : decode cX8_growThreads 0 = .ok (.iconst 0, 1) := by decide +kernel
theorem dX8_growThreads_1 : decode cX8_growThreads 1 = .ok (.istore_n 2, 1) := by decide +kernel
theorem dX8_growThreads_2 : decode cX8_growThreads 2 = .ok (.iload_n 2, 1) := by decide +kernel
theorem dX8_growThreads_3 : decode cX8_growThreads 3 = .ok (.iload_n 1, 1) := by decide +kernel
theorem dX8_growThreads_4 : decode cX8_growThreads 4 = .ok (.if_icmp .ge 91, 3) := by decide +kernel
theorem dX8_growThreads_95 : decode cX8_growThreads 95 = .ok (.return_, 1) := by decide +kernel
theorem dX10_seedBehind_0 : decode cX10_seedBehind 0 = .ok (.iload_n 0, 1) := by decide +kernel
theorem dX10_seedBehind_1 : decode cX10_seedBehind 1 = .ok (.ldc_w 405, 3) := by decide +kernel
theorem kC_RX10_405 : Cond.constant RX10 405 (1103515245 : Int32) ∈ gT := List.mem_filter.mpr ⟨List.mem_of_getElem? (i := 1060) (by decide +kernel), by decide +kernel⟩
theorem dX10_seedBehind_4 : decode cX10_seedBehind 4 = .ok (.imul, 1) := by decide +kernel
theorem dX10_seedBehind_5 : decode cX10_seedBehind 5 = .ok (.sipush 12345, 3) := by decide +kernel
theorem dX10_seedBehind_8 : decode cX10_seedBehind 8 = .ok (.iadd, 1) := by decide +kernel
theorem dX10_seedBehind_9 : decode cX10_seedBehind 9 = .ok (.ireturn, 1) := by decide +kernel
theorem dX8_blow_0 : decode cX8_blow 0 = .ok (.iload_n 2, 1) := by decide +kernel
theorem dX8_blow_1 : decode cX8_blow 1 = .ok (.invokestatic 116, 3) := by decide +kernel
theorem kwS_X10_seedBehind : MwS yX10_seedBehind cX10_seedBehind 1 (some .int) 1 := ⟨List.mem_filter.mpr ⟨List.mem_of_getElem? (i := 1059) (by decide +kernel), by decide +kernel⟩, List.mem_filter.mpr ⟨List.mem_of_getElem? (i := 1058) (by decide +kernel), by decide +kernel⟩, List.mem_filter.mpr ⟨List.mem_of_getElem? (i := 128) (by decide +kernel), by decide +kernel⟩, by decide +kernel⟩
theorem kN_RX8_116 : (RX8, 116, yX10_seedBehind, RX10) ∈ nestQ := List.mem_of_getElem? (i := 26) (by decide +kernel)
theorem dX8_blow_4 : decode cX8_blow 4 = .ok (.istore_n 3, 1) := by decide +kernel
theorem dX8_blow_5 : decode cX8_blow 5 = .ok (.aload_n 1, 1) := by decide +kernel
theorem dX8_blow_6 : decode cX8_blow 6 = .ok (.getfield 53, 3) := by decide +kernel
theorem dX8_blow_9 : decode cX8_blow 9 = .ok (.ifCond .eq 16, 3) := by decide +kernel
theorem dX8_blow_25 : decode cX8_blow 25 = .ok (.iload_n 3, 1) := by decide +kernel
theorem dX8_blow_26 : decode cX8_blow 26 = .ok (.ireturn, 1) := by decide +kernel
theorem dX8_passDays_0 : decode cX8_passDays 0 = .ok (.iload_n 2, 1) := by decide +kernel
theorem dX8_passDays_1 : decode cX8_passDays 1 = .ok (.sipush 400, 3) := by decide +kernel
theorem dX8_passDays_4 : decode cX8_passDays 4 = .ok (.aload_n 0, 1) := by decide +kernel
theorem dX8_passDays_5 : decode cX8_passDays 5 = .ok (.getfield 31, 3) := by decide +kernel
theorem dX8_passDays_8 : decode cX8_passDays 8 = .ok (.isub, 1) := by decide +kernel
theorem dX8_passDays_9 : decode cX8_passDays 9 = .ok (.invokestatic 91, 3) := by decide +kernel
theorem kM_RX8_91 : Cond.methodLink RX8 91 Lib.Math.min.name ∈ gT := List.mem_filter.mpr ⟨List.mem_of_getElem? (i := 1028) (by decide +kernel), by decide +kernel⟩
theorem dX8_passDays_12 : decode cX8_passDays 12 = .ok (.istore 4, 2) := by decide +kernel
theorem dX8_passDays_14 : decode cX8_passDays 14 = .ok (.iconst 0, 1) := by decide +kernel
theorem dX8_passDays_15 : decode cX8_passDays 15 = .ok (.istore 5, 2) := by decide +kernel
theorem dX8_passDays_17 : decode cX8_passDays 17 = .ok (.iload 5, 2) := by decide +kernel
theorem dX8_passDays_19 : decode cX8_passDays 19 = .ok (.aload_n 1, 1) := by decide +kernel
theorem dX8_passDays_20 : decode cX8_passDays 20 = .ok (.getfield 53, 3) := by decide +kernel
theorem dX8_passDays_23 : decode cX8_passDays 23 = .ok (.if_icmp .ge 26, 3) := by decide +kernel
theorem dX8_passDays_49 : decode cX8_passDays 49 = .ok (.iload_n 3, 1) := by decide +kernel
theorem dX8_passDays_50 : decode cX8_passDays 50 = .ok (.istore 5, 2) := by decide +kernel
theorem dX8_passDays_52 : decode cX8_passDays 52 = .ok (.iconst 0, 1) := by decide +kernel
theorem dX8_passDays_53 : decode cX8_passDays 53 = .ok (.istore 6, 2) := by decide +kernel
theorem dX8_passDays_55 : decode cX8_passDays 55 = .ok (.iload 6, 2) := by decide +kernel
theorem dX8_passDays_57 : decode cX8_passDays 57 = .ok (.iload 4, 2) := by decide +kernel
theorem dX8_passDays_59 : decode cX8_passDays 59 = .ok (.if_icmp .ge 46, 3) := by decide +kernel
theorem dX8_passDays_62 : decode cX8_passDays 62 = .ok (.aload_n 0, 1) := by decide +kernel
theorem dX8_passDays_63 : decode cX8_passDays 63 = .ok (.aload_n 1, 1) := by decide +kernel
theorem dX8_passDays_64 : decode cX8_passDays 64 = .ok (.invokevirtual 99, 3) := by decide +kernel
theorem kwV_X8_growWebs : MwV RX8 yX8_growWebs cX8_growWebs 3 none 1 := ⟨List.mem_filter.mpr ⟨List.mem_of_getElem? (i := 1047) (by decide +kernel), by decide +kernel⟩, List.mem_filter.mpr ⟨List.mem_of_getElem? (i := 1046) (by decide +kernel), by decide +kernel⟩, List.mem_filter.mpr ⟨List.mem_of_getElem? (i := 27) (by decide +kernel), by decide +kernel⟩, List.mem_filter.mpr ⟨List.mem_of_getElem? (i := 131) (by decide +kernel), by decide +kernel⟩, by decide +kernel⟩
theorem kM_RX8_99 : Cond.methodLink RX8 99 yX8_growWebs ∈ gT := List.mem_filter.mpr ⟨List.mem_of_getElem? (i := 1044) (by decide +kernel), by decide +kernel⟩
theorem dX8_passDays_67 : decode cX8_passDays 67 = .ok (.aload_n 0, 1) := by decide +kernel
theorem dX8_passDays_68 : decode cX8_passDays 68 = .ok (.aload_n 1, 1) := by decide +kernel
theorem dX8_passDays_69 : decode cX8_passDays 69 = .ok (.getfield 53, 3) := by decide +kernel
theorem dX8_passDays_72 : decode cX8_passDays 72 = .ok (.invokevirtual 103, 3) := by decide +kernel
theorem kwV_X8_growThreads : MwV RX8 yX8_growThreads cX8_growThreads 5 none 1 := ⟨List.mem_filter.mpr ⟨List.mem_of_getElem? (i := 1051) (by decide +kernel), by decide +kernel⟩, List.mem_filter.mpr ⟨List.mem_of_getElem? (i := 1050) (by decide +kernel), by decide +kernel⟩, List.mem_filter.mpr ⟨List.mem_of_getElem? (i := 28) (by decide +kernel), by decide +kernel⟩, List.mem_filter.mpr ⟨List.mem_of_getElem? (i := 131) (by decide +kernel), by decide +kernel⟩, by decide +kernel⟩
theorem kM_RX8_103 : Cond.methodLink RX8 103 yX8_growThreads ∈ gT := List.mem_filter.mpr ⟨List.mem_of_getElem? (i := 1048) (by decide +kernel), by decide +kernel⟩
theorem dX8_passDays_75 : decode cX8_passDays 75 = .ok (.aload_n 0, 1) := by decide +kernel
theorem dX8_passDays_76 : decode cX8_passDays 76 = .ok (.aload_n 1, 1) := by decide +kernel
theorem dX8_passDays_77 : decode cX8_passDays 77 = .ok (.iload 5, 2) := by decide +kernel
theorem dX8_passDays_79 : decode cX8_passDays 79 = .ok (.invokevirtual 106, 3) := by decide +kernel
theorem kwV_X8_blow : MwV RX8 yX8_blow cX8_blow 5 (some .int) 2 := ⟨List.mem_filter.mpr ⟨List.mem_of_getElem? (i := 1056) (by decide +kernel), by decide +kernel⟩, List.mem_filter.mpr ⟨List.mem_of_getElem? (i := 1055) (by decide +kernel), by decide +kernel⟩, List.mem_filter.mpr ⟨List.mem_of_getElem? (i := 29) (by decide +kernel), by decide +kernel⟩, List.mem_filter.mpr ⟨List.mem_of_getElem? (i := 131) (by decide +kernel), by decide +kernel⟩, by decide +kernel⟩
theorem kM_RX8_106 : Cond.methodLink RX8 106 yX8_blow ∈ gT := List.mem_filter.mpr ⟨List.mem_of_getElem? (i := 1053) (by decide +kernel), by decide +kernel⟩
theorem dX8_passDays_82 : decode cX8_passDays 82 = .ok (.istore 5, 2) := by decide +kernel
theorem dX8_passDays_84 : decode cX8_passDays 84 = .ok (.aload_n 0, 1) := by decide +kernel
theorem dX8_passDays_85 : decode cX8_passDays 85 = .ok (.dup, 1) := by decide +kernel
theorem dX8_passDays_86 : decode cX8_passDays 86 = .ok (.getfield 31, 3) := by decide +kernel
theorem dX8_passDays_89 : decode cX8_passDays 89 = .ok (.iconst 1, 1) := by decide +kernel
theorem dX8_passDays_90 : decode cX8_passDays 90 = .ok (.iadd, 1) := by decide +kernel
theorem dX8_passDays_91 : decode cX8_passDays 91 = .ok (.putfield 31, 3) := by decide +kernel
theorem dX8_passDays_94 : decode cX8_passDays 94 = .ok (.aload_n 0, 1) := by decide +kernel
theorem dX8_passDays_95 : decode cX8_passDays 95 = .ok (.iconst 0, 1) := by decide +kernel
theorem dX8_passDays_96 : decode cX8_passDays 96 = .ok (.putfield 27, 3) := by decide +kernel
theorem dX8_passDays_99 : decode cX8_passDays 99 = .ok (.iinc 6 1, 3) := by decide +kernel
theorem dX8_passDays_102 : decode cX8_passDays 102 = .ok (.goto (-47), 3) := by decide +kernel
theorem dX8_passDays_105 : decode cX8_passDays 105 = .ok (.iload 4, 2) := by decide +kernel
theorem dX8_passDays_107 : decode cX8_passDays 107 = .ok (.ireturn, 1) := by decide +kernel
theorem dX10_days_0 : decode cX10_days 0 = .ok (.iload_n 1, 1) := by decide +kernel
theorem dX10_days_1 : decode cX10_days 1 = .ok (.iconst 1, 1) := by decide +kernel
theorem dX10_days_2 : decode cX10_days 2 = .ok (.if_icmp .lt 9, 3) := by decide +kernel
theorem dX10_days_11 : decode cX10_days 11 = .ok (.iconst (-1), 1) := by decide +kernel
theorem dX10_days_12 : decode cX10_days 12 = .ok (.ireturn, 1) := by decide +kernel
theorem dX10_days_5 : decode cX10_days 5 = .ok (.iload_n 1, 1) := by decide +kernel
theorem dX10_days_6 : decode cX10_days 6 = .ok (.bipush 30, 2) := by decide +kernel
theorem dX10_days_8 : decode cX10_days 8 = .ok (.if_icmp .le 5, 3) := by decide +kernel
theorem dX10_days_13 : decode cX10_days 13 = .ok (.aload_n 0, 1) := by decide +kernel
theorem dX10_days_14 : decode cX10_days 14 = .ok (.getfield 30, 3) := by decide +kernel
theorem dX10_days_17 : decode cX10_days 17 = .ok (.aload_n 0, 1) := by decide +kernel
theorem dX10_days_18 : decode cX10_days 18 = .ok (.getfield 26, 3) := by decide +kernel
theorem dX10_days_21 : decode cX10_days 21 = .ok (.invokevirtual 117, 3) := by decide +kernel
theorem dX10_days_24 : decode cX10_days 24 = .ok (.aload_n 0, 1) := by decide +kernel
theorem dX10_days_25 : decode cX10_days 25 = .ok (.getfield 30, 3) := by decide +kernel
theorem dX10_days_28 : decode cX10_days 28 = .ok (.aload_n 0, 1) := by decide +kernel
theorem dX10_days_29 : decode cX10_days 29 = .ok (.getfield 19, 3) := by decide +kernel
theorem dX10_days_32 : decode cX10_days 32 = .ok (.iload_n 1, 1) := by decide +kernel
theorem dX10_days_33 : decode cX10_days 33 = .ok (.iload_n 2, 1) := by decide +kernel
theorem dX10_days_34 : decode cX10_days 34 = .ok (.invokevirtual 293, 3) := by decide +kernel
theorem kwV_X8_passDays : MwV RX8 yX8_passDays cX8_passDays 7 (some .int) 3 := ⟨List.mem_filter.mpr ⟨List.mem_of_getElem? (i := 1027) (by decide +kernel), by decide +kernel⟩, List.mem_filter.mpr ⟨List.mem_of_getElem? (i := 1025) (by decide +kernel), by decide +kernel⟩, List.mem_filter.mpr ⟨List.mem_of_getElem? (i := 1026) (by decide +kernel), by decide +kernel⟩, List.mem_filter.mpr ⟨List.mem_of_getElem? (i := 131) (by decide +kernel), by decide +kernel⟩, by decide +kernel⟩
theorem kM_RX10_293 : Cond.methodLink RX10 293 yX8_passDays ∈ gT := List.mem_filter.mpr ⟨List.mem_of_getElem? (i := 1168) (by decide +kernel), by decide +kernel⟩
theorem dX10_days_37 : decode cX10_days 37 = .ok (.istore_n 3, 1) := by decide +kernel
theorem dX10_days_38 : decode cX10_days 38 = .ok (.iload_n 3, 1) := by decide +kernel
theorem dX10_days_39 : decode cX10_days 39 = .ok (.ifCond .le 7, 3) := by decide +kernel
theorem dX10_days_42 : decode cX10_days 42 = .ok (.aload_n 0, 1) := by decide +kernel
theorem dX10_days_43 : decode cX10_days 43 = .ok (.invokevirtual 154, 3) := by decide +kernel
theorem kwV_X10_takeTrial : MwV RX10 yX10_takeTrial cX10_takeTrial 1 none 0 := ⟨List.mem_filter.mpr ⟨List.mem_of_getElem? (i := 1072) (by decide +kernel), by decide +kernel⟩, List.mem_filter.mpr ⟨List.mem_of_getElem? (i := 1071) (by decide +kernel), by decide +kernel⟩, List.mem_filter.mpr ⟨List.mem_of_getElem? (i := 30) (by decide +kernel), by decide +kernel⟩, List.mem_filter.mpr ⟨List.mem_of_getElem? (i := 128) (by decide +kernel), by decide +kernel⟩, by decide +kernel⟩
theorem kM_RX10_154 : Cond.methodLink RX10 154 yX10_takeTrial ∈ gT := List.mem_filter.mpr ⟨List.mem_of_getElem? (i := 1069) (by decide +kernel), by decide +kernel⟩
theorem dX10_days_46 : decode cX10_days 46 = .ok (.iload_n 3, 1) := by decide +kernel
theorem dX10_days_47 : decode cX10_days 47 = .ok (.ireturn, 1) := by decide +kernel
theorem dX4_giveBack_0 : decode cX4_giveBack 0 = .ok (.aload_n 0, 1) := by decide +kernel
theorem dX4_giveBack_1 : decode cX4_giveBack 1 = .ok (.getfield 15, 3) := by decide +kernel
theorem dX4_giveBack_4 : decode cX4_giveBack 4 = .ok (.bipush 8, 2) := by decide +kernel
theorem dX4_giveBack_6 : decode cX4_giveBack 6 = .ok (.iadd, 1) := by decide +kernel
theorem dX4_giveBack_7 : decode cX4_giveBack 7 = .ok (.iconst 1, 1) := by decide +kernel
theorem dX4_giveBack_8 : decode cX4_giveBack 8 = .ok (.isub, 1) := by decide +kernel
theorem dX4_giveBack_9 : decode cX4_giveBack 9 = .ok (.bipush 8, 2) := by decide +kernel
theorem dX4_giveBack_11 : decode cX4_giveBack 11 = .ok (.irem, 1) := by decide +kernel
theorem dX4_giveBack_12 : decode cX4_giveBack 12 = .ok (.istore_n 2, 1) := by decide +kernel
theorem dX4_giveBack_13 : decode cX4_giveBack 13 = .ok (.aload_n 0, 1) := by decide +kernel
theorem dX4_giveBack_14 : decode cX4_giveBack 14 = .ok (.getfield 9, 3) := by decide +kernel
theorem dX4_giveBack_17 : decode cX4_giveBack 17 = .ok (.ifCond .eq 16, 3) := by decide +kernel
theorem dX4_giveBack_33 : decode cX4_giveBack 33 = .ok (.iconst 0, 1) := by decide +kernel
theorem dX4_giveBack_34 : decode cX4_giveBack 34 = .ok (.ireturn, 1) := by decide +kernel
theorem dX10_undo_0 : decode cX10_undo 0 = .ok (.aload_n 0, 1) := by decide +kernel
theorem dX10_undo_1 : decode cX10_undo 1 = .ok (.getfield 60, 3) := by decide +kernel
theorem dX10_undo_4 : decode cX10_undo 4 = .ok (.aload_n 0, 1) := by decide +kernel
theorem dX10_undo_5 : decode cX10_undo 5 = .ok (.getfield 26, 3) := by decide +kernel
theorem dX10_undo_8 : decode cX10_undo 8 = .ok (.invokevirtual 297, 3) := by decide +kernel
theorem kwV_X4_giveBack : MwV RX4 yX4_giveBack cX4_giveBack 3 (some .boolean) 1 := ⟨List.mem_filter.mpr ⟨List.mem_of_getElem? (i := 1176) (by decide +kernel), by decide +kernel⟩, List.mem_filter.mpr ⟨List.mem_of_getElem? (i := 1174) (by decide +kernel), by decide +kernel⟩, List.mem_filter.mpr ⟨List.mem_of_getElem? (i := 1175) (by decide +kernel), by decide +kernel⟩, List.mem_filter.mpr ⟨List.mem_of_getElem? (i := 135) (by decide +kernel), by decide +kernel⟩, by decide +kernel⟩
theorem kM_RX10_297 : Cond.methodLink RX10 297 yX4_giveBack ∈ gT := List.mem_filter.mpr ⟨List.mem_of_getElem? (i := 1173) (by decide +kernel), by decide +kernel⟩
theorem dX10_undo_11 : decode cX10_undo 11 = .ok (.ifCond .eq 13, 3) := by decide +kernel
theorem dX10_undo_24 : decode cX10_undo 24 = .ok (.iconst (-1), 1) := by decide +kernel
theorem dX10_undo_25 : decode cX10_undo 25 = .ok (.ireturn, 1) := by decide +kernel
theorem dX2_keepAll_0 : decode cX2_keepAll 0 = .ok (.aload_n 0, 1) := by decide +kernel
theorem dX2_keepAll_1 : decode cX2_keepAll 1 = .ok (.getfield 16, 3) := by decide +kernel
theorem dX2_keepAll_4 : decode cX2_keepAll 4 = .ok (.aload_n 1, 1) := by decide +kernel
theorem dX2_keepAll_5 : decode cX2_keepAll 5 = .ok (.invokevirtual 34, 3) := by decide +kernel
theorem kM_RX2_34 : Cond.methodLink RX2 34 yX6_copyFrom ∈ gT := List.mem_filter.mpr ⟨List.mem_of_getElem? (i := 1185) (by decide +kernel), by decide +kernel⟩
theorem dX2_keepAll_8 : decode cX2_keepAll 8 = .ok (.aload_n 0, 1) := by decide +kernel
theorem dX2_keepAll_9 : decode cX2_keepAll 9 = .ok (.getfield 23, 3) := by decide +kernel
theorem dX2_keepAll_12 : decode cX2_keepAll 12 = .ok (.aload_n 2, 1) := by decide +kernel
theorem dX2_keepAll_13 : decode cX2_keepAll 13 = .ok (.invokevirtual 38, 3) := by decide +kernel
theorem kM_RX2_38 : Cond.methodLink RX2 38 yX8_copyFrom ∈ gT := List.mem_filter.mpr ⟨List.mem_of_getElem? (i := 1186) (by decide +kernel), by decide +kernel⟩
theorem dX2_keepAll_16 : decode cX2_keepAll 16 = .ok (.aload_n 0, 1) := by decide +kernel
theorem dX2_keepAll_17 : decode cX2_keepAll 17 = .ok (.getfield 30, 3) := by decide +kernel
theorem dX2_keepAll_20 : decode cX2_keepAll 20 = .ok (.aload_n 3, 1) := by decide +kernel
theorem dX2_keepAll_21 : decode cX2_keepAll 21 = .ok (.invokevirtual 41, 3) := by decide +kernel
theorem kwV_X7_copyFrom : MwV RX7 yX7_copyFrom cX7_copyFrom 2 none 1 := ⟨List.mem_filter.mpr ⟨List.mem_of_getElem? (i := 903) (by decide +kernel), by decide +kernel⟩, List.mem_filter.mpr ⟨List.mem_of_getElem? (i := 901) (by decide +kernel), by decide +kernel⟩, List.mem_filter.mpr ⟨List.mem_of_getElem? (i := 902) (by decide +kernel), by decide +kernel⟩, List.mem_filter.mpr ⟨List.mem_of_getElem? (i := 134) (by decide +kernel), by decide +kernel⟩, by decide +kernel⟩
theorem kM_RX2_41 : Cond.methodLink RX2 41 yX7_copyFrom ∈ gT := List.mem_filter.mpr ⟨List.mem_of_getElem? (i := 1187) (by decide +kernel), by decide +kernel⟩
theorem dX2_keepAll_24 : decode cX2_keepAll 24 = .ok (.aload_n 0, 1) := by decide +kernel
theorem dX2_keepAll_25 : decode cX2_keepAll 25 = .ok (.iconst 1, 1) := by decide +kernel
theorem dX2_keepAll_26 : decode cX2_keepAll 26 = .ok (.putfield 7, 3) := by decide +kernel
theorem dX2_keepAll_29 : decode cX2_keepAll 29 = .ok (.return_, 1) := by decide +kernel
theorem dX10_image_0 : decode cX10_image 0 = .ok (.iload_n 1, 1) := by decide +kernel
theorem dX10_image_1 : decode cX10_image 1 = .ok (.ifCond .lt 21, 3) := by decide +kernel
theorem dX10_image_22 : decode cX10_image 22 = .ok (.iconst 0, 1) := by decide +kernel
theorem dX10_image_23 : decode cX10_image 23 = .ok (.ireturn, 1) := by decide +kernel
theorem dX10_image_4 : decode cX10_image 4 = .ok (.iload_n 1, 1) := by decide +kernel
theorem dX10_image_5 : decode cX10_image 5 = .ok (.aload_n 0, 1) := by decide +kernel
theorem dX10_image_6 : decode cX10_image 6 = .ok (.getfield 66, 3) := by decide +kernel
theorem dX10_image_9 : decode cX10_image 9 = .ok (.arraylength, 1) := by decide +kernel
theorem dX10_image_10 : decode cX10_image 10 = .ok (.if_icmp .ge 12, 3) := by decide +kernel
set_option maxRecDepth 10000 in
theorem sw_0_1 (x : Int32) : x = 0 ∨ x = 1 ∨ (x.toInt < 0 ∨ 1 < x.toInt) := by
  by_cases h0 : x.toInt < 0 ∨ 1 < x.toInt
  · simp only [h0, or_true]
  · obtain ⟨j, h1, h2, rfl⟩ := nat_of (x := x) (a := 0) (b := 1) (by omega) (by omega) (by decide) (by decide)
    have h3 : j < 2 := by omega
    have h4 : 0 ≤ j := by omega
    clear h0 h1 h2
    revert j; decide +kernel
theorem dX10_image_13 : decode cX10_image 13 = .ok (.aload_n 0, 1) := by decide +kernel
theorem dX10_image_14 : decode cX10_image 14 = .ok (.getfield 66, 3) := by decide +kernel
theorem dX10_image_17 : decode cX10_image 17 = .ok (.iload_n 1, 1) := by decide +kernel
theorem dX10_image_18 : decode cX10_image 18 = .ok (.aaload, 1) := by decide +kernel
theorem dX10_image_19 : decode cX10_image 19 = .ok (.ifnonnull 5, 3) := by decide +kernel
theorem dX10_image_24 : decode cX10_image 24 = .ok (.aload_n 0, 1) := by decide +kernel
theorem dX10_image_25 : decode cX10_image 25 = .ok (.getfield 66, 3) := by decide +kernel
theorem dX10_image_28 : decode cX10_image 28 = .ok (.iload_n 1, 1) := by decide +kernel
theorem dX10_image_29 : decode cX10_image 29 = .ok (.aaload, 1) := by decide +kernel
theorem dX10_image_30 : decode cX10_image 30 = .ok (.aload_n 0, 1) := by decide +kernel
theorem dX10_image_31 : decode cX10_image 31 = .ok (.getfield 19, 3) := by decide +kernel
theorem dX10_image_34 : decode cX10_image 34 = .ok (.aload_n 0, 1) := by decide +kernel
theorem dX10_image_35 : decode cX10_image 35 = .ok (.getfield 26, 3) := by decide +kernel
theorem dX10_image_38 : decode cX10_image 38 = .ok (.aload_n 0, 1) := by decide +kernel
theorem dX10_image_39 : decode cX10_image 39 = .ok (.getfield 50, 3) := by decide +kernel
theorem dX10_image_42 : decode cX10_image 42 = .ok (.invokevirtual 304, 3) := by decide +kernel
theorem kwV_X2_keepAll : MwV RX2 yX2_keepAll cX2_keepAll 4 none 3 := ⟨List.mem_filter.mpr ⟨List.mem_of_getElem? (i := 1184) (by decide +kernel), by decide +kernel⟩, List.mem_filter.mpr ⟨List.mem_of_getElem? (i := 1182) (by decide +kernel), by decide +kernel⟩, List.mem_filter.mpr ⟨List.mem_of_getElem? (i := 1183) (by decide +kernel), by decide +kernel⟩, List.mem_filter.mpr ⟨List.mem_of_getElem? (i := 138) (by decide +kernel), by decide +kernel⟩, by decide +kernel⟩
theorem kM_RX10_304 : Cond.methodLink RX10 304 yX2_keepAll ∈ gT := List.mem_filter.mpr ⟨List.mem_of_getElem? (i := 1181) (by decide +kernel), by decide +kernel⟩
theorem dX10_image_45 : decode cX10_image 45 = .ok (.iconst 1, 1) := by decide +kernel
theorem dX10_image_46 : decode cX10_image 46 = .ok (.ireturn, 1) := by decide +kernel
theorem dX10_restore_0 : decode cX10_restore 0 = .ok (.iload_n 1, 1) := by decide +kernel
theorem dX10_restore_1 : decode cX10_restore 1 = .ok (.ifCond .lt 33, 3) := by decide +kernel
theorem dX10_restore_34 : decode cX10_restore 34 = .ok (.iconst 0, 1) := by decide +kernel
theorem dX10_restore_35 : decode cX10_restore 35 = .ok (.ireturn, 1) := by decide +kernel
theorem dX10_restore_4 : decode cX10_restore 4 = .ok (.iload_n 1, 1) := by decide +kernel
theorem dX10_restore_5 : decode cX10_restore 5 = .ok (.aload_n 0, 1) := by decide +kernel
theorem dX10_restore_6 : decode cX10_restore 6 = .ok (.getfield 66, 3) := by decide +kernel
theorem dX10_restore_9 : decode cX10_restore 9 = .ok (.arraylength, 1) := by decide +kernel
theorem dX10_restore_10 : decode cX10_restore 10 = .ok (.if_icmp .ge 24, 3) := by decide +kernel
theorem dX10_restore_13 : decode cX10_restore 13 = .ok (.aload_n 0, 1) := by decide +kernel
theorem dX10_restore_14 : decode cX10_restore 14 = .ok (.getfield 66, 3) := by decide +kernel
theorem dX10_restore_17 : decode cX10_restore 17 = .ok (.iload_n 1, 1) := by decide +kernel
theorem dX10_restore_18 : decode cX10_restore 18 = .ok (.aaload, 1) := by decide +kernel
theorem dX10_restore_19 : decode cX10_restore 19 = .ok (.ifnull 15, 3) := by decide +kernel
theorem dX10_restore_22 : decode cX10_restore 22 = .ok (.aload_n 0, 1) := by decide +kernel
theorem dX10_restore_23 : decode cX10_restore 23 = .ok (.getfield 66, 3) := by decide +kernel
theorem dX10_restore_26 : decode cX10_restore 26 = .ok (.iload_n 1, 1) := by decide +kernel
theorem dX10_restore_27 : decode cX10_restore 27 = .ok (.aaload, 1) := by decide +kernel
theorem dX10_restore_28 : decode cX10_restore 28 = .ok (.getfield 308, 3) := by decide +kernel
theorem kF_RX10_308 : Cond.fieldLink RX10 308 "CobwebLibrary$Image" "isKept" "Z" ∈ gT := List.mem_filter.mpr ⟨List.mem_of_getElem? (i := 564) (by decide +kernel), by decide +kernel⟩
theorem dX10_restore_31 : decode cX10_restore 31 = .ok (.ifCond .ne 5, 3) := by decide +kernel
theorem dX10_when_0 : decode cX10_when 0 = .ok (.aload_n 0, 1) := by decide +kernel
theorem dX10_when_1 : decode cX10_when 1 = .ok (.getfield 19, 3) := by decide +kernel
theorem dX10_when_4 : decode cX10_when 4 = .ok (.iload_n 1, 1) := by decide +kernel
theorem dX10_when_5 : decode cX10_when 5 = .ok (.invokevirtual 170, 3) := by decide +kernel
theorem dX10_when_8 : decode cX10_when 8 = .ok (.ifCond .ne 5, 3) := by decide +kernel
theorem dX10_when_11 : decode cX10_when 11 = .ok (.iconst (-1), 1) := by decide +kernel
theorem dX10_when_12 : decode cX10_when 12 = .ok (.ireturn, 1) := by decide +kernel
theorem dX10_follow_0 : decode cX10_follow 0 = .ok (.aload_n 0, 1) := by decide +kernel
theorem dX10_follow_1 : decode cX10_follow 1 = .ok (.getfield 19, 3) := by decide +kernel
theorem dX10_follow_4 : decode cX10_follow 4 = .ok (.iload_n 1, 1) := by decide +kernel
theorem dX10_follow_5 : decode cX10_follow 5 = .ok (.invokevirtual 170, 3) := by decide +kernel
theorem dX10_follow_8 : decode cX10_follow 8 = .ok (.ifCond .eq 18, 3) := by decide +kernel
theorem dX10_follow_26 : decode cX10_follow 26 = .ok (.iconst (-1), 1) := by decide +kernel
theorem dX10_follow_27 : decode cX10_follow 27 = .ok (.ireturn, 1) := by decide +kernel
theorem dX10_way_0 : decode cX10_way 0 = .ok (.aload_n 0, 1) := by decide +kernel
theorem dX10_way_1 : decode cX10_way 1 = .ok (.getfield 19, 3) := by decide +kernel
theorem dX10_way_4 : decode cX10_way 4 = .ok (.iload_n 1, 1) := by decide +kernel
theorem dX10_way_5 : decode cX10_way 5 = .ok (.invokevirtual 170, 3) := by decide +kernel
theorem dX10_way_8 : decode cX10_way 8 = .ok (.ifCond .eq 14, 3) := by decide +kernel
theorem dX10_way_22 : decode cX10_way 22 = .ok (.iconst (-1), 1) := by decide +kernel
theorem dX10_way_23 : decode cX10_way 23 = .ok (.ireturn, 1) := by decide +kernel
theorem dX10_wayAt_0 : decode cX10_wayAt 0 = .ok (.iload_n 1, 1) := by decide +kernel
theorem dX10_wayAt_1 : decode cX10_wayAt 1 = .ok (.ifCond .lt 26, 3) := by decide +kernel
theorem dX10_wayAt_27 : decode cX10_wayAt 27 = .ok (.iconst (-1), 1) := by decide +kernel
theorem dX10_wayAt_28 : decode cX10_wayAt 28 = .ok (.ireturn, 1) := by decide +kernel
theorem dX10_wayAt_4 : decode cX10_wayAt 4 = .ok (.iload_n 1, 1) := by decide +kernel
theorem dX10_wayAt_5 : decode cX10_wayAt 5 = .ok (.aload_n 0, 1) := by decide +kernel
theorem dX10_wayAt_6 : decode cX10_wayAt 6 = .ok (.getfield 80, 3) := by decide +kernel
theorem dX10_wayAt_9 : decode cX10_wayAt 9 = .ok (.getfield 329, 3) := by decide +kernel
theorem kF_RX10_329 : Cond.fieldLink RX10 329 "CobwebLibrary$Paths" "waySize" "I" ∈ gT := List.mem_filter.mpr ⟨List.mem_of_getElem? (i := 533) (by decide +kernel), by decide +kernel⟩
theorem dX10_wayAt_12 : decode cX10_wayAt 12 = .ok (.if_icmp .ge 15, 3) := by decide +kernel
theorem dX10_keepAt_0 : decode cX10_keepAt 0 = .ok (.iload_n 1, 1) := by decide +kernel
theorem dX10_keepAt_1 : decode cX10_keepAt 1 = .ok (.ifCond .lt 26, 3) := by decide +kernel
theorem dX10_keepAt_27 : decode cX10_keepAt 27 = .ok (.iconst (-1), 1) := by decide +kernel
theorem dX10_keepAt_28 : decode cX10_keepAt 28 = .ok (.ireturn, 1) := by decide +kernel
theorem dX10_keepAt_4 : decode cX10_keepAt 4 = .ok (.iload_n 1, 1) := by decide +kernel
theorem dX10_keepAt_5 : decode cX10_keepAt 5 = .ok (.aload_n 0, 1) := by decide +kernel
theorem dX10_keepAt_6 : decode cX10_keepAt 6 = .ok (.getfield 73, 3) := by decide +kernel
theorem dX10_keepAt_9 : decode cX10_keepAt 9 = .ok (.getfield 343, 3) := by decide +kernel
theorem kF_RX10_343 : Cond.fieldLink RX10 343 "CobwebLibrary$Foresight" "keepSize" "I" ∈ gT := List.mem_filter.mpr ⟨List.mem_of_getElem? (i := 471) (by decide +kernel), by decide +kernel⟩
theorem dX10_keepAt_12 : decode cX10_keepAt 12 = .ok (.if_icmp .ge 15, 3) := by decide +kernel
theorem dX10_askedAt_0 : decode cX10_askedAt 0 = .ok (.iload_n 1, 1) := by decide +kernel
theorem dX10_askedAt_1 : decode cX10_askedAt 1 = .ok (.ifCond .lt 26, 3) := by decide +kernel
theorem dX10_askedAt_27 : decode cX10_askedAt 27 = .ok (.iconst (-1), 1) := by decide +kernel
theorem dX10_askedAt_28 : decode cX10_askedAt 28 = .ok (.ireturn, 1) := by decide +kernel
theorem dX10_askedAt_4 : decode cX10_askedAt 4 = .ok (.iload_n 1, 1) := by decide +kernel
theorem dX10_askedAt_5 : decode cX10_askedAt 5 = .ok (.aload_n 0, 1) := by decide +kernel
theorem dX10_askedAt_6 : decode cX10_askedAt 6 = .ok (.getfield 73, 3) := by decide +kernel
theorem dX10_askedAt_9 : decode cX10_askedAt 9 = .ok (.getfield 356, 3) := by decide +kernel
theorem kF_RX10_356 : Cond.fieldLink RX10 356 "CobwebLibrary$Foresight" "askedSize" "I" ∈ gT := List.mem_filter.mpr ⟨List.mem_of_getElem? (i := 473) (by decide +kernel), by decide +kernel⟩
theorem dX10_askedAt_12 : decode cX10_askedAt 12 = .ok (.if_icmp .ge 15, 3) := by decide +kernel
theorem dX0_takeWanted_0 : decode cX0_takeWanted 0 = .ok (.aload_n 1, 1) := by decide +kernel
theorem dX0_takeWanted_1 : decode cX0_takeWanted 1 = .ok (.getfield 116, 3) := by decide +kernel
theorem kF_RX0_116 : Cond.fieldLink RX0 116 "CobwebLibrary$Tape" "length" "I" ∈ gT := List.mem_filter.mpr ⟨List.mem_of_getElem? (i := 170) (by decide +kernel), by decide +kernel⟩
theorem dX0_takeWanted_4 : decode cX0_takeWanted 4 = .ok (.iconst 2, 1) := by decide +kernel
theorem dX0_takeWanted_5 : decode cX0_takeWanted 5 = .ok (.idiv, 1) := by decide +kernel
theorem dX0_takeWanted_6 : decode cX0_takeWanted 6 = .ok (.istore_n 3, 1) := by decide +kernel
theorem dX0_takeWanted_7 : decode cX0_takeWanted 7 = .ok (.iload_n 3, 1) := by decide +kernel
theorem dX0_takeWanted_8 : decode cX0_takeWanted 8 = .ok (.iconst 1, 1) := by decide +kernel
theorem dX0_takeWanted_9 : decode cX0_takeWanted 9 = .ok (.if_icmp .lt 19, 3) := by decide +kernel
theorem dX0_takeWanted_28 : decode cX0_takeWanted 28 = .ok (.iconst 0, 1) := by decide +kernel
theorem dX0_takeWanted_29 : decode cX0_takeWanted 29 = .ok (.ireturn, 1) := by decide +kernel
theorem dX10_asked_0 : decode cX10_asked 0 = .ok (.aload_n 0, 1) := by decide +kernel
theorem dX10_asked_1 : decode cX10_asked 1 = .ok (.getfield 73, 3) := by decide +kernel
theorem dX10_asked_4 : decode cX10_asked 4 = .ok (.aload_n 0, 1) := by decide +kernel
theorem dX10_asked_5 : decode cX10_asked 5 = .ok (.getfield 10, 3) := by decide +kernel
theorem dX10_asked_8 : decode cX10_asked 8 = .ok (.aload_n 0, 1) := by decide +kernel
theorem dX10_asked_9 : decode cX10_asked 9 = .ok (.getfield 19, 3) := by decide +kernel
theorem dX10_asked_12 : decode cX10_asked 12 = .ok (.getfield 211, 3) := by decide +kernel
theorem dX10_asked_15 : decode cX10_asked 15 = .ok (.invokevirtual 349, 3) := by decide +kernel
theorem kwV_X0_takeWanted : MwV RX0 yX0_takeWanted cX0_takeWanted 5 (some .boolean) 2 := ⟨List.mem_filter.mpr ⟨List.mem_of_getElem? (i := 1284) (by decide +kernel), by decide +kernel⟩, List.mem_filter.mpr ⟨List.mem_of_getElem? (i := 1282) (by decide +kernel), by decide +kernel⟩, List.mem_filter.mpr ⟨List.mem_of_getElem? (i := 1283) (by decide +kernel), by decide +kernel⟩, List.mem_filter.mpr ⟨List.mem_of_getElem? (i := 136) (by decide +kernel), by decide +kernel⟩, by decide +kernel⟩
theorem kM_RX10_349 : Cond.methodLink RX10 349 yX0_takeWanted ∈ gT := List.mem_filter.mpr ⟨List.mem_of_getElem? (i := 1281) (by decide +kernel), by decide +kernel⟩
theorem dX10_asked_18 : decode cX10_asked 18 = .ok (.istore_n 2, 1) := by decide +kernel
theorem dX10_asked_19 : decode cX10_asked 19 = .ok (.aload_n 0, 1) := by decide +kernel
theorem dX10_asked_20 : decode cX10_asked 20 = .ok (.getfield 10, 3) := by decide +kernel
theorem dX10_asked_23 : decode cX10_asked 23 = .ok (.iconst 0, 1) := by decide +kernel
theorem dX10_asked_24 : decode cX10_asked 24 = .ok (.putfield 96, 3) := by decide +kernel
theorem dX10_asked_27 : decode cX10_asked 27 = .ok (.iload_n 2, 1) := by decide +kernel
theorem dX10_asked_28 : decode cX10_asked 28 = .ok (.ifCond .eq 24, 3) := by decide +kernel
theorem dX10_asked_52 : decode cX10_asked 52 = .ok (.iconst (-1), 1) := by decide +kernel
theorem dX10_asked_53 : decode cX10_asked 53 = .ok (.ireturn, 1) := by decide +kernel
theorem dX10_spun_0 : decode cX10_spun 0 = .ok (.aload_n 0, 1) := by decide +kernel
theorem dX10_spun_1 : decode cX10_spun 1 = .ok (.getfield 10, 3) := by decide +kernel
theorem dX10_spun_4 : decode cX10_spun 4 = .ok (.getfield 96, 3) := by decide +kernel
theorem dX10_spun_7 : decode cX10_spun 7 = .ok (.iconst 3, 1) := by decide +kernel
theorem dX10_spun_8 : decode cX10_spun 8 = .ok (.idiv, 1) := by decide +kernel
theorem dX10_spun_9 : decode cX10_spun 9 = .ok (.istore_n 1, 1) := by decide +kernel
theorem dX10_spun_10 : decode cX10_spun 10 = .ok (.iload_n 1, 1) := by decide +kernel
theorem dX10_spun_11 : decode cX10_spun 11 = .ok (.iconst 1, 1) := by decide +kernel
theorem dX10_spun_12 : decode cX10_spun 12 = .ok (.if_icmp .lt 26, 3) := by decide +kernel
theorem dX10_spun_38 : decode cX10_spun 38 = .ok (.iconst 0, 1) := by decide +kernel
theorem dX10_spun_39 : decode cX10_spun 39 = .ok (.istore_n 2, 1) := by decide +kernel
theorem dX10_spun_40 : decode cX10_spun 40 = .ok (.iload_n 2, 1) := by decide +kernel
theorem dX10_spun_41 : decode cX10_spun 41 = .ok (.ifCond .eq 18, 3) := by decide +kernel
theorem dX10_spun_59 : decode cX10_spun 59 = .ok (.iconst (-1), 1) := by decide +kernel
theorem dX10_spun_60 : decode cX10_spun 60 = .ok (.istore_n 3, 1) := by decide +kernel
theorem dX10_spun_61 : decode cX10_spun 61 = .ok (.aload_n 0, 1) := by decide +kernel
theorem dX10_spun_62 : decode cX10_spun 62 = .ok (.getfield 10, 3) := by decide +kernel
theorem dX10_spun_65 : decode cX10_spun 65 = .ok (.iconst 0, 1) := by decide +kernel
theorem dX10_spun_66 : decode cX10_spun 66 = .ok (.putfield 96, 3) := by decide +kernel
theorem dX10_spun_69 : decode cX10_spun 69 = .ok (.iload_n 3, 1) := by decide +kernel
theorem dX10_spun_70 : decode cX10_spun 70 = .ok (.ireturn, 1) := by decide +kernel
theorem dX10_torn_0 : decode cX10_torn 0 = .ok (.aload_n 0, 1) := by decide +kernel
theorem dX10_torn_1 : decode cX10_torn 1 = .ok (.getfield 19, 3) := by decide +kernel
theorem dX10_torn_4 : decode cX10_torn 4 = .ok (.iload_n 1, 1) := by decide +kernel
theorem dX10_torn_5 : decode cX10_torn 5 = .ok (.invokevirtual 170, 3) := by decide +kernel
theorem dX10_torn_8 : decode cX10_torn 8 = .ok (.ifCond .eq 22, 3) := by decide +kernel
theorem dX10_torn_30 : decode cX10_torn 30 = .ok (.iconst (-1), 1) := by decide +kernel
theorem dX10_torn_31 : decode cX10_torn 31 = .ok (.ireturn, 1) := by decide +kernel
theorem dX10_steps_0 : decode cX10_steps 0 = .ok (.aload_n 0, 1) := by decide +kernel
theorem dX10_steps_1 : decode cX10_steps 1 = .ok (.getfield 80, 3) := by decide +kernel
theorem dX10_steps_4 : decode cX10_steps 4 = .ok (.getfield 370, 3) := by decide +kernel
theorem kF_RX10_370 : Cond.fieldLink RX10 370 "CobwebLibrary$Paths" "tornSteps" "I" ∈ gT := List.mem_filter.mpr ⟨List.mem_of_getElem? (i := 535) (by decide +kernel), by decide +kernel⟩
theorem dX10_steps_7 : decode cX10_steps 7 = .ok (.ireturn, 1) := by decide +kernel
theorem dX10_turn_0 : decode cX10_turn 0 = .ok (.aload_n 0, 1) := by decide +kernel
theorem dX10_turn_1 : decode cX10_turn 1 = .ok (.getfield 73, 3) := by decide +kernel
theorem dX10_turn_4 : decode cX10_turn 4 = .ok (.getfield 376, 3) := by decide +kernel
theorem kF_RX10_376 : Cond.fieldLink RX10 376 "CobwebLibrary$Foresight" "firstTurn" "I" ∈ gT := List.mem_filter.mpr ⟨List.mem_of_getElem? (i := 475) (by decide +kernel), by decide +kernel⟩
theorem dX10_turn_7 : decode cX10_turn 7 = .ok (.ireturn, 1) := by decide +kernel
theorem dX10_odds_0 : decode cX10_odds 0 = .ok (.aload_n 0, 1) := by decide +kernel
theorem dX10_odds_1 : decode cX10_odds 1 = .ok (.getfield 19, 3) := by decide +kernel
theorem dX10_odds_4 : decode cX10_odds 4 = .ok (.iload_n 1, 1) := by decide +kernel
theorem dX10_odds_5 : decode cX10_odds 5 = .ok (.invokevirtual 170, 3) := by decide +kernel
theorem dX10_odds_8 : decode cX10_odds 8 = .ok (.ifCond .eq 14, 3) := by decide +kernel
theorem dX10_odds_22 : decode cX10_odds 22 = .ok (.iconst (-1), 1) := by decide +kernel
theorem dX10_odds_23 : decode cX10_odds 23 = .ok (.ireturn, 1) := by decide +kernel
theorem dX10_life_0 : decode cX10_life 0 = .ok (.iload_n 1, 1) := by decide +kernel
theorem dX10_life_1 : decode cX10_life 1 = .ok (.ifCond .eq 12, 3) := by decide +kernel
theorem dX10_life_13 : decode cX10_life 13 = .ok (.aload_n 0, 1) := by decide +kernel
theorem dX10_life_14 : decode cX10_life 14 = .ok (.getfield 43, 3) := by decide +kernel
theorem dX10_life_17 : decode cX10_life 17 = .ok (.aload_n 0, 1) := by decide +kernel
theorem dX10_life_18 : decode cX10_life 18 = .ok (.getfield 10, 3) := by decide +kernel
theorem dX10_life_21 : decode cX10_life 21 = .ok (.aload_n 0, 1) := by decide +kernel
theorem dX10_life_22 : decode cX10_life 22 = .ok (.getfield 19, 3) := by decide +kernel
theorem dX10_life_25 : decode cX10_life 25 = .ok (.invokevirtual 149, 3) := by decide +kernel
theorem kwV_X3_readFrom : MwV RX3 yX3_readFrom cX3_readFrom 5 none 2 := ⟨List.mem_filter.mpr ⟨List.mem_of_getElem? (i := 959) (by decide +kernel), by decide +kernel⟩, List.mem_filter.mpr ⟨List.mem_of_getElem? (i := 957) (by decide +kernel), by decide +kernel⟩, List.mem_filter.mpr ⟨List.mem_of_getElem? (i := 958) (by decide +kernel), by decide +kernel⟩, List.mem_filter.mpr ⟨List.mem_of_getElem? (i := 133) (by decide +kernel), by decide +kernel⟩, by decide +kernel⟩
theorem kM_RX10_149 : Cond.methodLink RX10 149 yX3_readFrom ∈ gT := List.mem_filter.mpr ⟨List.mem_of_getElem? (i := 956) (by decide +kernel), by decide +kernel⟩
theorem dX10_life_28 : decode cX10_life 28 = .ok (.aload_n 0, 1) := by decide +kernel
theorem dX10_life_29 : decode cX10_life 29 = .ok (.getfield 10, 3) := by decide +kernel
theorem dX10_life_32 : decode cX10_life 32 = .ok (.iconst 0, 1) := by decide +kernel
theorem dX10_life_33 : decode cX10_life 33 = .ok (.putfield 96, 3) := by decide +kernel
theorem dX10_life_36 : decode cX10_life 36 = .ok (.aload_n 0, 1) := by decide +kernel
theorem dX10_life_37 : decode cX10_life 37 = .ok (.aload_n 0, 1) := by decide +kernel
theorem dX10_life_38 : decode cX10_life 38 = .ok (.getfield 10, 3) := by decide +kernel
theorem dX10_life_41 : decode cX10_life 41 = .ok (.getfield 107, 3) := by decide +kernel
theorem dX10_life_44 : decode cX10_life 44 = .ok (.putfield 92, 3) := by decide +kernel
theorem dX10_life_47 : decode cX10_life 47 = .ok (.aload_n 0, 1) := by decide +kernel
theorem dX10_life_48 : decode cX10_life 48 = .ok (.getfield 92, 3) := by decide +kernel
theorem dX10_life_51 : decode cX10_life 51 = .ok (.ifCond .eq 14, 3) := by decide +kernel
theorem dX10_life_65 : decode cX10_life 65 = .ok (.aload_n 0, 1) := by decide +kernel
theorem dX10_life_66 : decode cX10_life 66 = .ok (.getfield 30, 3) := by decide +kernel
theorem dX10_life_69 : decode cX10_life 69 = .ok (.aload_n 0, 1) := by decide +kernel
theorem dX10_life_70 : decode cX10_life 70 = .ok (.getfield 26, 3) := by decide +kernel
theorem dX10_life_73 : decode cX10_life 73 = .ok (.invokevirtual 117, 3) := by decide +kernel
theorem dX10_life_76 : decode cX10_life 76 = .ok (.aload_n 0, 1) := by decide +kernel
theorem dX10_life_77 : decode cX10_life 77 = .ok (.getfield 43, 3) := by decide +kernel
theorem dX10_life_80 : decode cX10_life 80 = .ok (.aload_n 0, 1) := by decide +kernel
theorem dX10_life_81 : decode cX10_life 81 = .ok (.getfield 19, 3) := by decide +kernel
theorem dX10_life_84 : decode cX10_life 84 = .ok (.aload_n 0, 1) := by decide +kernel
theorem dX10_life_85 : decode cX10_life 85 = .ok (.getfield 30, 3) := by decide +kernel
theorem dX10_life_88 : decode cX10_life 88 = .ok (.invokevirtual 150, 3) := by decide +kernel
theorem kwV_X3_goThrough : MwV RX3 yX3_goThrough cX3_goThrough 3 none 2 := ⟨List.mem_filter.mpr ⟨List.mem_of_getElem? (i := 982) (by decide +kernel), by decide +kernel⟩, List.mem_filter.mpr ⟨List.mem_of_getElem? (i := 980) (by decide +kernel), by decide +kernel⟩, List.mem_filter.mpr ⟨List.mem_of_getElem? (i := 981) (by decide +kernel), by decide +kernel⟩, List.mem_filter.mpr ⟨List.mem_of_getElem? (i := 133) (by decide +kernel), by decide +kernel⟩, by decide +kernel⟩
theorem kM_RX10_150 : Cond.methodLink RX10 150 yX3_goThrough ∈ gT := List.mem_filter.mpr ⟨List.mem_of_getElem? (i := 979) (by decide +kernel), by decide +kernel⟩
theorem dX10_life_91 : decode cX10_life 91 = .ok (.iload_n 1, 1) := by decide +kernel
theorem dX10_life_92 : decode cX10_life 92 = .ok (.iconst 1, 1) := by decide +kernel
theorem dX10_life_93 : decode cX10_life 93 = .ok (.if_icmp .ne 7, 3) := by decide +kernel
theorem dX10_life_100 : decode cX10_life 100 = .ok (.aload_n 0, 1) := by decide +kernel
theorem dX10_life_101 : decode cX10_life 101 = .ok (.getfield 43, 3) := by decide +kernel
theorem dX10_life_104 : decode cX10_life 104 = .ok (.getfield 157, 3) := by decide +kernel
theorem kF_RX10_157 : Cond.fieldLink RX10 157 "CobwebLibrary$Life" "why" "I" ∈ gT := List.mem_filter.mpr ⟨List.mem_of_getElem? (i := 379) (by decide +kernel), by decide +kernel⟩
theorem dX10_life_107 : decode cX10_life 107 = .ok (.ifCond .ne 7, 3) := by decide +kernel
theorem dX10_life_110 : decode cX10_life 110 = .ok (.iconst (-1), 1) := by decide +kernel
theorem dX10_life_111 : decode cX10_life 111 = .ok (.goto 10, 3) := by decide +kernel
theorem dX10_life_121 : decode cX10_life 121 = .ok (.ireturn, 1) := by decide +kernel
theorem dX10_life_4 : decode cX10_life 4 = .ok (.iload_n 1, 1) := by decide +kernel
theorem dX10_life_5 : decode cX10_life 5 = .ok (.iconst 1, 1) := by decide +kernel
theorem dX10_life_6 : decode cX10_life 6 = .ok (.if_icmp .eq 7, 3) := by decide +kernel
theorem dX10_life_96 : decode cX10_life 96 = .ok (.aload_n 0, 1) := by decide +kernel
theorem dX10_life_97 : decode cX10_life 97 = .ok (.invokevirtual 154, 3) := by decide +kernel
theorem dX10_life_9 : decode cX10_life 9 = .ok (.sipush (-1000), 3) := by decide +kernel
theorem dX10_life_12 : decode cX10_life 12 = .ok (.ireturn, 1) := by decide +kernel
set_option maxHeartbeats 4000000 in
set_option maxRecDepth 100000 in
theorem c_hasRow (l : Launch) (D : va_G) (cy : Nat → ClassId) (h : Nat) (b : Int32) (h0 : Nat) (h1 : Nat) (h2 : Nat) (sz : Nat)  : MI l yX6_hasRow cX6_hasRow 2 (some .boolean) (Rm 0 0 0 0) D cy [.ref h, .int b] sz [(h, .inr (6, [.int 4, .int 4, .int 10, .int 1, .int 3, .int 0, .int 0, .int 0, .ref h0, .ref h1, .ref h2]))] (fun (r : Int32) (u : Unit) => r = (rJn b 0 3)) (fun u : Unit => [(h, .inr (6, [.int 4, .int 4, .int 10, .int 1, .int 3, .int 0, .int 0, .int 0, .ref h0, .ref h1, .ref h2]))]) := by
  refine MI.enter (by decide) (Nat.le_of_ble_eq_true rfl) ?_
  intro p e s m below meth c ls A hsz hAe C hP hD hS hl
  have C : Cx p s m _ meth c cX6_hasRow 2 (some .boolean) RX6 "hasRow" D cy A := C
  have hx := C.1
  have hb := C.2.1
  have hl : lv_has ls 2 [(0, .ref h), (1, .int b)] := hl
  refine lv_iload_n hx hb dX6_hasRow_0 rfl (lv_at hl 1 rfl) ?_
  refine lv_if_lt (tgt := 16) hx hb dX6_hasRow_1 (by decide) (fun c_1 => ?_) (fun c_1 => ?_)
  · refine lv_iconst (v := 0) hx hb dX6_hasRow_16 (by decide) ?_
    exact q_iret (rm := (Rm 0 0 0 0)) C hS () rfl (by have z0 := (Int32.lt_iff_toInt_lt).mp c_1; have e0 : (0 : Int32).toInt = 0 := (by decide); show _ = if (0 : Int) ≤ b.toInt ∧ b.toInt ≤ 3 then 1 else 0; repeat (first | rfl | rw [if_pos (by omega)] | rw [if_neg (by omega)])) (q_subP hP [0] rfl) (hD.sub [0] (by decide) rfl) (Nat.le_of_ble_eq_true rfl) (Nat.le_of_ble_eq_true rfl) dX6_hasRow_17
  · refine lv_iload_n hx hb dX6_hasRow_4 rfl (lv_at hl 1 rfl) ?_
    refine lv_aload_n hx hb dX6_hasRow_5 rfl (lv_at hl 0 rfl) ?_
    refine q_get (v := .int 4) C hP 0 1 rfl rfl inX6 (by decide) kF_RX6_15 rfl rfl dX6_hasRow_6 ?_
    refine lv_icmp_ge (tgt := 16) hx hb dX6_hasRow_9 (by decide) (fun c_2 => ?_) (fun c_2 => ?_)
    · refine lv_iconst (v := 0) hx hb dX6_hasRow_16 (by decide) ?_
      exact q_iret (rm := (Rm 0 0 0 0)) C hS () rfl (by have z0 := (not_congr Int32.lt_iff_toInt_lt).mp c_1; have z1 := (Int32.le_iff_toInt_le).mp c_2; have e0 : (0 : Int32).toInt = 0 := (by decide); have e1 : (4 : Int32).toInt = 4 := (by decide); show _ = if (0 : Int) ≤ b.toInt ∧ b.toInt ≤ 3 then 1 else 0; repeat (first | rfl | rw [if_pos (by omega)] | rw [if_neg (by omega)])) (q_subP hP [0] rfl) (hD.sub [0] (by decide) rfl) (Nat.le_of_ble_eq_true rfl) (Nat.le_of_ble_eq_true rfl) dX6_hasRow_17
    · refine lv_iconst (v := 1) hx hb dX6_hasRow_12 (by decide) ?_
      refine lv_goto (tgt := 17) hx hb dX6_hasRow_13 (by decide) ?_
      exact q_iret (rm := (Rm 0 0 0 0)) C hS () rfl (by have z0 := (not_congr Int32.lt_iff_toInt_lt).mp c_1; have z1 := (not_congr Int32.le_iff_toInt_le).mp c_2; have e0 : (0 : Int32).toInt = 0 := (by decide); have e1 : (4 : Int32).toInt = 4 := (by decide); show _ = if (0 : Int) ≤ b.toInt ∧ b.toInt ≤ 3 then 1 else 0; repeat (first | rfl | rw [if_pos (by omega)] | rw [if_neg (by omega)])) (q_subP hP [0] rfl) (hD.sub [0] (by decide) rfl) (Nat.le_of_ble_eq_true rfl) (Nat.le_of_ble_eq_true rfl) dX6_hasRow_17
set_option maxHeartbeats 4000000 in
set_option maxRecDepth 100000 in
theorem c_sweepRow (l : Launch) (D : va_G) (cy : Nat → ClassId) (h : Nat) (v : Int32) (h0 : Nat) (h1 : Nat) (h2 : Nat) (h3 : Nat) (h4 : Nat) (h5 : Nat) (sz : Nat)  : MI l yX8_sweepRow cX8_sweepRow 5 (some .int) (Rm 0 0 0 0) D cy [.ref h, .int 0, .int v] sz [(h, .inr (8, [.ref h0, .ref h1, .ref h2, .ref h3, .ref h4, .int 0, .int 0, .ref h5]))] (fun (r : Int32) (u : Unit) => r = 1) (fun u : Unit => [(h, .inr (8, [.ref h0, .ref h1, .ref h2, .ref h3, .ref h4, .int 0, .int 0, .ref h5]))]) := by
  refine MI.enter (by decide) (Nat.le_of_ble_eq_true rfl) ?_
  intro p e s m below meth c ls A hsz hAe C hP hD hS hl
  have C : Cx p s m _ meth c cX8_sweepRow 5 (some .int) RX8 "sweepRow" D cy A := C
  have hx := C.1
  have hb := C.2.1
  have hl : lv_has ls 5 [(0, .ref h), (1, .int 0), (2, .int v)] := hl
  refine lv_iconst (v := 0) hx hb dX8_sweepRow_0 (by decide) ?_
  refine lv_istore_n (lv' := [(3, .int 0), (0, .ref h), (1, .int 0), (2, .int v)]) hx hb dX8_sweepRow_1 rfl hl (by decide) rfl (fun ls hl => ?_)
  refine lv_iconst (v := 0) hx hb dX8_sweepRow_2 (by decide) ?_
  refine lv_istore (lv' := [(4, .int 0), (3, .int 0), (0, .ref h), (1, .int 0), (2, .int v)]) hx hb dX8_sweepRow_3 hl (by decide) rfl (fun ls hl => ?_)
  refine lv_iload hx hb dX8_sweepRow_5 (lv_at hl 0 rfl) ?_
  refine lv_iload_n hx hb dX8_sweepRow_7 rfl (lv_at hl 3 rfl) ?_
  refine lv_icmp_ge (tgt := 63) hx hb dX8_sweepRow_8 (by decide) (fun _ => ?_) (fun c_0 => absurd (by decide) c_0)
  refine lv_iload_n hx hb dX8_sweepRow_63 rfl (lv_at hl 1 rfl) ?_
  refine lv_if_eq (tgt := 71) hx hb dX8_sweepRow_64 (by decide) (fun _ => ?_) (fun c_0 => absurd (by decide) c_0)
  refine lv_iconst (v := 1) hx hb dX8_sweepRow_71 (by decide) ?_
  exact q_iret (rm := (Rm 0 0 0 0)) C hS () rfl rfl (q_subP hP [0] rfl) (hD.sub [0] (by decide) rfl) (Nat.le_of_ble_eq_true rfl) (Nat.le_of_ble_eq_true rfl) dX8_sweepRow_72
set_option maxHeartbeats 4000000 in
set_option maxRecDepth 100000 in
theorem x_broom (l : Launch) (D : va_G) (cy : Nat → ClassId) (h : Nat) (n : Int32) (ta : Nat) (pl : Nat) (sh : Nat) (tr : Nat) (fo : Nat) (li : Nat) (sp : Nat) (dr : Nat) (pa : Nat) (im : Nat) (fs : Nat) (ph : Nat) (cd : Nat) (pl0 : Nat) (pl1 : Nat) (pl2 : Nat) (sh0 : Nat) (sh1 : Nat) (sh2 : Nat) (sh3 : Nat) (sh4 : Nat) (sh5 : Nat) (tr0 : Nat) (tr1 : Nat) (tr2 : Nat) (tr3 : Nat) (tr4 : Nat) (tr5 : Nat) (sz : Nat)  : MI l yX10_broom cX10_broom 2 (some .int) (Rm 2 81 0 0) D cy [.ref h, .int n] sz [(h, .inr (10, [.ref ta, .ref pl, .ref sh, .ref tr, .ref fo, .ref li, .ref sp, .ref dr, .ref pa, .ref im, .ref fs, .ref ph, .ref cd, .int 0, .int 0])), (pl, .inr (6, [.int 4, .int 4, .int 10, .int 1, .int 3, .int 0, .int 0, .int 0, .ref pl0, .ref pl1, .ref pl2])), (sh, .inr (8, [.ref sh0, .ref sh1, .ref sh2, .ref sh3, .ref sh4, .int 0, .int 0, .ref sh5])), (sh0, .inl (cy 1, 8, .inl (fun _ => 0))), (sh1, .inl (cy 1, 8, .inl (fun _ => 0))), (sh2, .inl (cy 1, 8, .inl (fun _ => 0))), (sh3, .inl (cy 1, 8, .inl (fun _ => 0))), (sh4, .inl (cy 1, 64, .inl (fun _ => 0))), (tr, .inr (8, [.ref tr0, .ref tr1, .ref tr2, .ref tr3, .ref tr4, .int 0, .int 0, .ref tr5])), (tr0, .inl (cy 1, 8, .inl (fun _ => 0))), (tr1, .inl (cy 1, 8, .inl (fun _ => 0))), (tr2, .inl (cy 1, 8, .inl (fun _ => 0))), (tr3, .inl (cy 1, 8, .inl (fun _ => 0))), (tr4, .inl (cy 1, 64, .inl (fun _ => 0)))] (fun (r : Int32) (u : Unit) => r = (rBroom n)) (fun u : Unit => []) := by
  refine MI.enter (by decide) (Nat.le_of_ble_eq_true rfl) ?_
  intro p e s m below meth c ls A hsz hAe C hP hD hS hl
  have C : Cx p s m _ meth c cX10_broom 2 (some .int) RX10 "broom" D cy A := C
  have hx := C.1
  have hb := C.2.1
  have hl : lv_has ls 2 [(0, .ref h), (1, .int n)] := hl
  refine lv_aload_n hx hb dX10_broom_0 rfl (lv_at hl 0 rfl) ?_
  refine q_get (v := .ref pl) C hP 0 1 rfl rfl inX10 (by decide) kF_RX10_19 rfl rfl dX10_broom_1 ?_
  refine lv_iload_n hx hb dX10_broom_4 rfl (lv_at hl 1 rfl) ?_
  refine q_ai (wr := [(h, .inr (10, [.ref ta, .ref pl, .ref sh, .ref tr, .ref fo, .ref li, .ref sp, .ref dr, .ref pa, .ref im, .ref fs, .ref ph, .ref cd, .int 0, .int 0])), (sh, .inr (8, [.ref sh0, .ref sh1, .ref sh2, .ref sh3, .ref sh4, .int 0, .int 0, .ref sh5])), (sh0, .inl (cy 1, 8, .inl (fun _ => 0))), (sh1, .inl (cy 1, 8, .inl (fun _ => 0))), (sh2, .inl (cy 1, 8, .inl (fun _ => 0))), (sh3, .inl (cy 1, 8, .inl (fun _ => 0))), (sh4, .inl (cy 1, 64, .inl (fun _ => 0))), (tr, .inr (8, [.ref tr0, .ref tr1, .ref tr2, .ref tr3, .ref tr4, .int 0, .int 0, .ref tr5])), (tr0, .inl (cy 1, 8, .inl (fun _ => 0))), (tr1, .inl (cy 1, 8, .inl (fun _ => 0))), (tr2, .inl (cy 1, 8, .inl (fun _ => 0))), (tr3, .inl (cy 1, 8, .inl (fun _ => 0))), (tr4, .inl (cy 1, 64, .inl (fun _ => 0)))]) (r_V (q0 := 0) (As := [.int n]) (rest := []) (wc := [(pl, .inr (6, [.int 4, .int 4, .int 10, .int 1, .int 3, .int 0, .int 0, .int 0, .ref pl0, .ref pl1, .ref pl2]))]) C (q_subP hP [1] rfl) (hD.sub [1] (by decide) rfl) (c_hasRow l D cy pl n pl0 pl1 pl2 _ ) kwV_X6_hasRow kM_RX10_279 rfl rfl ⟨Nat.le_of_ble_eq_true rfl, Nat.le_of_ble_eq_true rfl⟩ rfl hl.1 rfl (Nat.le_of_ble_eq_true rfl) dX10_broom_5 ⟨Nat.le_of_ble_eq_true rfl, Nat.le_of_ble_eq_true rfl⟩) C.2.2.2.2.2.2.1 hP hD hS [1] [0, 2, 3, 4, 5, 6, 7, 8, 9, 10, 11, 12, 13] rfl rfl (by decide) (by decide) (fun r_2 u_1 H locs hw_3 hP hD hS => ?_)
  have hP : va_P D vwCl [(h, .inr (10, [.ref ta, .ref pl, .ref sh, .ref tr, .ref fo, .ref li, .ref sp, .ref dr, .ref pa, .ref im, .ref fs, .ref ph, .ref cd, .int 0, .int 0])), (sh, .inr (8, [.ref sh0, .ref sh1, .ref sh2, .ref sh3, .ref sh4, .int 0, .int 0, .ref sh5])), (sh0, .inl (cy 1, 8, .inl (fun _ => 0))), (sh1, .inl (cy 1, 8, .inl (fun _ => 0))), (sh2, .inl (cy 1, 8, .inl (fun _ => 0))), (sh3, .inl (cy 1, 8, .inl (fun _ => 0))), (sh4, .inl (cy 1, 64, .inl (fun _ => 0))), (tr, .inr (8, [.ref tr0, .ref tr1, .ref tr2, .ref tr3, .ref tr4, .int 0, .int 0, .ref tr5])), (tr0, .inl (cy 1, 8, .inl (fun _ => 0))), (tr1, .inl (cy 1, 8, .inl (fun _ => 0))), (tr2, .inl (cy 1, 8, .inl (fun _ => 0))), (tr3, .inl (cy 1, 8, .inl (fun _ => 0))), (tr4, .inl (cy 1, 64, .inl (fun _ => 0))), (pl, .inr (6, [.int 4, .int 4, .int 10, .int 1, .int 3, .int 0, .int 0, .int 0, .ref pl0, .ref pl1, .ref pl2]))] H := hP
  have hD : va_D A [(h, .inr (10, [.ref ta, .ref pl, .ref sh, .ref tr, .ref fo, .ref li, .ref sp, .ref dr, .ref pa, .ref im, .ref fs, .ref ph, .ref cd, .int 0, .int 0])), (sh, .inr (8, [.ref sh0, .ref sh1, .ref sh2, .ref sh3, .ref sh4, .int 0, .int 0, .ref sh5])), (sh0, .inl (cy 1, 8, .inl (fun _ => 0))), (sh1, .inl (cy 1, 8, .inl (fun _ => 0))), (sh2, .inl (cy 1, 8, .inl (fun _ => 0))), (sh3, .inl (cy 1, 8, .inl (fun _ => 0))), (sh4, .inl (cy 1, 64, .inl (fun _ => 0))), (tr, .inr (8, [.ref tr0, .ref tr1, .ref tr2, .ref tr3, .ref tr4, .int 0, .int 0, .ref tr5])), (tr0, .inl (cy 1, 8, .inl (fun _ => 0))), (tr1, .inl (cy 1, 8, .inl (fun _ => 0))), (tr2, .inl (cy 1, 8, .inl (fun _ => 0))), (tr3, .inl (cy 1, 8, .inl (fun _ => 0))), (tr4, .inl (cy 1, 64, .inl (fun _ => 0))), (pl, .inr (6, [.int 4, .int 4, .int 10, .int 1, .int 3, .int 0, .int 0, .int 0, .ref pl0, .ref pl1, .ref pl2]))] := hD
  rcases rJn_c (lo := 0) (hi := 3) hw_3 with ⟨rfl, i_4a, i_4b⟩ | ⟨rfl, i_4n⟩
  · refine lv_if_ne (tgt := 13) hx hb dX10_broom_8 (by decide) (fun _ => ?_) (fun c_0 => absurd c_0 (by decide))
    refine lv_aload_n hx hb dX10_broom_13 rfl (lv_at hl 0 rfl) ?_
    refine q_get (v := .ref tr) C hP 0 3 rfl rfl inX10 (by decide) kF_RX10_30 rfl rfl dX10_broom_14 ?_
    refine lv_aload_n hx hb dX10_broom_17 rfl (lv_at hl 0 rfl) ?_
    refine q_get (v := .ref sh) C hP 0 2 rfl rfl inX10 (by decide) kF_RX10_26 rfl rfl dX10_broom_18 ?_
    refine q_av (wr := [(h, .inr (10, [.ref ta, .ref pl, .ref sh, .ref tr, .ref fo, .ref li, .ref sp, .ref dr, .ref pa, .ref im, .ref fs, .ref ph, .ref cd, .int 0, .int 0])), (pl, .inr (6, [.int 4, .int 4, .int 10, .int 1, .int 3, .int 0, .int 0, .int 0, .ref pl0, .ref pl1, .ref pl2]))]) (r_V (q0 := 0) (As := [.ref sh]) (rest := []) (wc := [(tr, .inr (8, [.ref tr0, .ref tr1, .ref tr2, .ref tr3, .ref tr4, .int 0, .int 0, .ref tr5])), (tr0, .inl (cy 1, 8, .inl (fun _ => 0))), (tr1, .inl (cy 1, 8, .inl (fun _ => 0))), (tr2, .inl (cy 1, 8, .inl (fun _ => 0))), (tr3, .inl (cy 1, 8, .inl (fun _ => 0))), (tr4, .inl (cy 1, 64, .inl (fun _ => 0))), (sh, .inr (8, [.ref sh0, .ref sh1, .ref sh2, .ref sh3, .ref sh4, .int 0, .int 0, .ref sh5])), (sh0, .inl (cy 1, 8, .inl (fun _ => 0))), (sh1, .inl (cy 1, 8, .inl (fun _ => 0))), (sh2, .inl (cy 1, 8, .inl (fun _ => 0))), (sh3, .inl (cy 1, 8, .inl (fun _ => 0))), (sh4, .inl (cy 1, 64, .inl (fun _ => 0)))]) C (q_subP hP [7, 8, 9, 10, 11, 12, 1, 2, 3, 4, 5, 6] rfl) (hD.sub [7, 8, 9, 10, 11, 12, 1, 2, 3, 4, 5, 6] (by decide) rfl) (c_Scopy l D cy tr sh tr0 tr1 tr2 tr3 tr4 0 0 tr5 sh0 sh1 sh2 sh3 sh4 0 0 sh5 _ ) kwV_X8_copyFrom kM_RX10_117 rfl rfl ⟨Nat.le_of_ble_eq_true rfl, Nat.le_of_ble_eq_true rfl⟩ rfl hl.1 rfl (Nat.le_of_ble_eq_true rfl) dX10_broom_21 ⟨Nat.le_of_ble_eq_true rfl, Nat.le_of_ble_eq_true rfl⟩) C.2.2.2.2.2.2.1 hP hD hS [7, 8, 9, 10, 11, 12, 1, 2, 3, 4, 5, 6] [0, 13] rfl rfl (by decide) (by decide) (fun u_5 H locs hw_7 hP hD hS => ?_)
    have hP : va_P D vwCl [(h, .inr (10, [.ref ta, .ref pl, .ref sh, .ref tr, .ref fo, .ref li, .ref sp, .ref dr, .ref pa, .ref im, .ref fs, .ref ph, .ref cd, .int 0, .int 0])), (pl, .inr (6, [.int 4, .int 4, .int 10, .int 1, .int 3, .int 0, .int 0, .int 0, .ref pl0, .ref pl1, .ref pl2])), (tr, .inr (8, [.ref tr0, .ref tr1, .ref tr2, .ref tr3, .ref tr4, .int 0, .int 0, .ref tr5])), (tr0, .inl (cy 1, 8, .inl (fun _ => 0))), (tr1, .inl (cy 1, 8, .inl (fun _ => 0))), (tr2, .inl (cy 1, 8, .inl (fun _ => 0))), (tr3, .inl (cy 1, 8, .inl (fun _ => 0))), (tr4, .inl (cy 1, 64, .inl (fun _ => 0))), (sh, .inr (8, [.ref sh0, .ref sh1, .ref sh2, .ref sh3, .ref sh4, .int 0, .int 0, .ref sh5])), (sh0, .inl (cy 1, 8, .inl (fun _ => 0))), (sh1, .inl (cy 1, 8, .inl (fun _ => 0))), (sh2, .inl (cy 1, 8, .inl (fun _ => 0))), (sh3, .inl (cy 1, 8, .inl (fun _ => 0))), (sh4, .inl (cy 1, 64, .inl (fun _ => 0)))] H := hP
    have hD : va_D A [(h, .inr (10, [.ref ta, .ref pl, .ref sh, .ref tr, .ref fo, .ref li, .ref sp, .ref dr, .ref pa, .ref im, .ref fs, .ref ph, .ref cd, .int 0, .int 0])), (pl, .inr (6, [.int 4, .int 4, .int 10, .int 1, .int 3, .int 0, .int 0, .int 0, .ref pl0, .ref pl1, .ref pl2])), (tr, .inr (8, [.ref tr0, .ref tr1, .ref tr2, .ref tr3, .ref tr4, .int 0, .int 0, .ref tr5])), (tr0, .inl (cy 1, 8, .inl (fun _ => 0))), (tr1, .inl (cy 1, 8, .inl (fun _ => 0))), (tr2, .inl (cy 1, 8, .inl (fun _ => 0))), (tr3, .inl (cy 1, 8, .inl (fun _ => 0))), (tr4, .inl (cy 1, 64, .inl (fun _ => 0))), (sh, .inr (8, [.ref sh0, .ref sh1, .ref sh2, .ref sh3, .ref sh4, .int 0, .int 0, .ref sh5])), (sh0, .inl (cy 1, 8, .inl (fun _ => 0))), (sh1, .inl (cy 1, 8, .inl (fun _ => 0))), (sh2, .inl (cy 1, 8, .inl (fun _ => 0))), (sh3, .inl (cy 1, 8, .inl (fun _ => 0))), (sh4, .inl (cy 1, 64, .inl (fun _ => 0)))] := hD
    refine lv_aload_n hx hb dX10_broom_24 rfl (lv_at hl 0 rfl) ?_
    refine lv_aload_n hx hb dX10_broom_25 rfl (lv_at hl 0 rfl) ?_
    refine q_get (v := .ref tr) C hP 0 3 rfl rfl inX10 (by decide) kF_RX10_30 rfl rfl dX10_broom_26 ?_
    refine lv_aload_n hx hb dX10_broom_29 rfl (lv_at hl 0 rfl) ?_
    refine q_get (v := .ref pl) C hP 0 1 rfl rfl inX10 (by decide) kF_RX10_19 rfl rfl dX10_broom_30 ?_
    refine q_get (v := .int 0) C hP 1 6 rfl rfl inX6 (by decide) kF_RX10_211 rfl rfl dX10_broom_33 ?_
    refine lv_iload_n hx hb dX10_broom_36 rfl (lv_at hl 1 rfl) ?_
    refine q_ai (wr := [(h, .inr (10, [.ref ta, .ref pl, .ref sh, .ref tr, .ref fo, .ref li, .ref sp, .ref dr, .ref pa, .ref im, .ref fs, .ref ph, .ref cd, .int 0, .int 0])), (pl, .inr (6, [.int 4, .int 4, .int 10, .int 1, .int 3, .int 0, .int 0, .int 0, .ref pl0, .ref pl1, .ref pl2])), (tr0, .inl (cy 1, 8, .inl (fun _ => 0))), (tr1, .inl (cy 1, 8, .inl (fun _ => 0))), (tr2, .inl (cy 1, 8, .inl (fun _ => 0))), (tr3, .inl (cy 1, 8, .inl (fun _ => 0))), (tr4, .inl (cy 1, 64, .inl (fun _ => 0))), (sh, .inr (8, [.ref sh0, .ref sh1, .ref sh2, .ref sh3, .ref sh4, .int 0, .int 0, .ref sh5])), (sh0, .inl (cy 1, 8, .inl (fun _ => 0))), (sh1, .inl (cy 1, 8, .inl (fun _ => 0))), (sh2, .inl (cy 1, 8, .inl (fun _ => 0))), (sh3, .inl (cy 1, 8, .inl (fun _ => 0))), (sh4, .inl (cy 1, 64, .inl (fun _ => 0)))]) (r_V (q0 := 0) (As := [.int 0, .int n]) (rest := [.ref h]) (wc := [(tr, .inr (8, [.ref tr0, .ref tr1, .ref tr2, .ref tr3, .ref tr4, .int 0, .int 0, .ref tr5]))]) C (q_subP hP [2] rfl) (hD.sub [2] (by decide) rfl) (c_sweepRow l D cy tr n tr0 tr1 tr2 tr3 tr4 tr5 _ ) kwV_X8_sweepRow kM_RX10_282 rfl rfl ⟨Nat.le_of_ble_eq_true rfl, Nat.le_of_ble_eq_true rfl⟩ rfl hl.1 rfl (Nat.le_of_ble_eq_true rfl) dX10_broom_37 ⟨Nat.le_of_ble_eq_true rfl, Nat.le_of_ble_eq_true rfl⟩) C.2.2.2.2.2.2.1 hP hD hS [2] [0, 1, 3, 4, 5, 6, 7, 8, 9, 10, 11, 12, 13] rfl rfl (by decide) (by decide) (fun r_9 u_8 H locs hw_10 hP hD hS => ?_)
    have hP : va_P D vwCl [(h, .inr (10, [.ref ta, .ref pl, .ref sh, .ref tr, .ref fo, .ref li, .ref sp, .ref dr, .ref pa, .ref im, .ref fs, .ref ph, .ref cd, .int 0, .int 0])), (pl, .inr (6, [.int 4, .int 4, .int 10, .int 1, .int 3, .int 0, .int 0, .int 0, .ref pl0, .ref pl1, .ref pl2])), (tr0, .inl (cy 1, 8, .inl (fun _ => 0))), (tr1, .inl (cy 1, 8, .inl (fun _ => 0))), (tr2, .inl (cy 1, 8, .inl (fun _ => 0))), (tr3, .inl (cy 1, 8, .inl (fun _ => 0))), (tr4, .inl (cy 1, 64, .inl (fun _ => 0))), (sh, .inr (8, [.ref sh0, .ref sh1, .ref sh2, .ref sh3, .ref sh4, .int 0, .int 0, .ref sh5])), (sh0, .inl (cy 1, 8, .inl (fun _ => 0))), (sh1, .inl (cy 1, 8, .inl (fun _ => 0))), (sh2, .inl (cy 1, 8, .inl (fun _ => 0))), (sh3, .inl (cy 1, 8, .inl (fun _ => 0))), (sh4, .inl (cy 1, 64, .inl (fun _ => 0))), (tr, .inr (8, [.ref tr0, .ref tr1, .ref tr2, .ref tr3, .ref tr4, .int 0, .int 0, .ref tr5]))] H := hP
    have hD : va_D A [(h, .inr (10, [.ref ta, .ref pl, .ref sh, .ref tr, .ref fo, .ref li, .ref sp, .ref dr, .ref pa, .ref im, .ref fs, .ref ph, .ref cd, .int 0, .int 0])), (pl, .inr (6, [.int 4, .int 4, .int 10, .int 1, .int 3, .int 0, .int 0, .int 0, .ref pl0, .ref pl1, .ref pl2])), (tr0, .inl (cy 1, 8, .inl (fun _ => 0))), (tr1, .inl (cy 1, 8, .inl (fun _ => 0))), (tr2, .inl (cy 1, 8, .inl (fun _ => 0))), (tr3, .inl (cy 1, 8, .inl (fun _ => 0))), (tr4, .inl (cy 1, 64, .inl (fun _ => 0))), (sh, .inr (8, [.ref sh0, .ref sh1, .ref sh2, .ref sh3, .ref sh4, .int 0, .int 0, .ref sh5])), (sh0, .inl (cy 1, 8, .inl (fun _ => 0))), (sh1, .inl (cy 1, 8, .inl (fun _ => 0))), (sh2, .inl (cy 1, 8, .inl (fun _ => 0))), (sh3, .inl (cy 1, 8, .inl (fun _ => 0))), (sh4, .inl (cy 1, 64, .inl (fun _ => 0))), (tr, .inr (8, [.ref tr0, .ref tr1, .ref tr2, .ref tr3, .ref tr4, .int 0, .int 0, .ref tr5]))] := hD
    obtain rfl : r_9 = 1 := hw_10
    refine q_ai (wr := [(pl, .inr (6, [.int 4, .int 4, .int 10, .int 1, .int 3, .int 0, .int 0, .int 0, .ref pl0, .ref pl1, .ref pl2])), (tr0, .inl (cy 1, 8, .inl (fun _ => 0))), (tr1, .inl (cy 1, 8, .inl (fun _ => 0))), (tr2, .inl (cy 1, 8, .inl (fun _ => 0))), (tr3, .inl (cy 1, 8, .inl (fun _ => 0))), (tr4, .inl (cy 1, 64, .inl (fun _ => 0))), (sh, .inr (8, [.ref sh0, .ref sh1, .ref sh2, .ref sh3, .ref sh4, .int 0, .int 0, .ref sh5])), (sh0, .inl (cy 1, 8, .inl (fun _ => 0))), (sh1, .inl (cy 1, 8, .inl (fun _ => 0))), (sh2, .inl (cy 1, 8, .inl (fun _ => 0))), (sh3, .inl (cy 1, 8, .inl (fun _ => 0))), (sh4, .inl (cy 1, 64, .inl (fun _ => 0))), (tr, .inr (8, [.ref tr0, .ref tr1, .ref tr2, .ref tr3, .ref tr4, .int 0, .int 0, .ref tr5]))]) (r_V (q0 := 0) (As := [.int 1]) (rest := []) (wc := [(h, .inr (10, [.ref ta, .ref pl, .ref sh, .ref tr, .ref fo, .ref li, .ref sp, .ref dr, .ref pa, .ref im, .ref fs, .ref ph, .ref cd, .int 0, .int 0]))]) C (q_subP hP [0] rfl) (hD.sub [0] (by decide) rfl) (c_takeIfDone l D cy h ta pl sh tr fo li sp dr pa im fs ph cd _ ) kwV_X10_takeIfDone kM_RX10_276 rfl rfl ⟨Nat.le_of_ble_eq_true rfl, Nat.le_of_ble_eq_true rfl⟩ rfl hl.1 rfl (Nat.le_of_ble_eq_true rfl) dX10_broom_40 ⟨Nat.le_of_ble_eq_true rfl, Nat.le_of_ble_eq_true rfl⟩) C.2.2.2.2.2.2.1 hP hD hS [0] [1, 2, 3, 4, 5, 6, 7, 8, 9, 10, 11, 12, 13] rfl rfl (by decide) (by decide) (fun r_12 u_11 H locs hw_13 hP hD hS => ?_)
    have hP : va_P D vwCl [(pl, .inr (6, [.int 4, .int 4, .int 10, .int 1, .int 3, .int 0, .int 0, .int 0, .ref pl0, .ref pl1, .ref pl2])), (tr0, .inl (cy 1, 8, .inl (fun _ => 0))), (tr1, .inl (cy 1, 8, .inl (fun _ => 0))), (tr2, .inl (cy 1, 8, .inl (fun _ => 0))), (tr3, .inl (cy 1, 8, .inl (fun _ => 0))), (tr4, .inl (cy 1, 64, .inl (fun _ => 0))), (sh, .inr (8, [.ref sh0, .ref sh1, .ref sh2, .ref sh3, .ref sh4, .int 0, .int 0, .ref sh5])), (sh0, .inl (cy 1, 8, .inl (fun _ => 0))), (sh1, .inl (cy 1, 8, .inl (fun _ => 0))), (sh2, .inl (cy 1, 8, .inl (fun _ => 0))), (sh3, .inl (cy 1, 8, .inl (fun _ => 0))), (sh4, .inl (cy 1, 64, .inl (fun _ => 0))), (tr, .inr (8, [.ref tr0, .ref tr1, .ref tr2, .ref tr3, .ref tr4, .int 0, .int 0, .ref tr5])), (h, .inr (10, [.ref ta, .ref pl, .ref sh, .ref tr, .ref fo, .ref li, .ref sp, .ref dr, .ref pa, .ref im, .ref fs, .ref ph, .ref cd, .int 0, .int 0]))] H := hP
    have hD : va_D A [(pl, .inr (6, [.int 4, .int 4, .int 10, .int 1, .int 3, .int 0, .int 0, .int 0, .ref pl0, .ref pl1, .ref pl2])), (tr0, .inl (cy 1, 8, .inl (fun _ => 0))), (tr1, .inl (cy 1, 8, .inl (fun _ => 0))), (tr2, .inl (cy 1, 8, .inl (fun _ => 0))), (tr3, .inl (cy 1, 8, .inl (fun _ => 0))), (tr4, .inl (cy 1, 64, .inl (fun _ => 0))), (sh, .inr (8, [.ref sh0, .ref sh1, .ref sh2, .ref sh3, .ref sh4, .int 0, .int 0, .ref sh5])), (sh0, .inl (cy 1, 8, .inl (fun _ => 0))), (sh1, .inl (cy 1, 8, .inl (fun _ => 0))), (sh2, .inl (cy 1, 8, .inl (fun _ => 0))), (sh3, .inl (cy 1, 8, .inl (fun _ => 0))), (sh4, .inl (cy 1, 64, .inl (fun _ => 0))), (tr, .inr (8, [.ref tr0, .ref tr1, .ref tr2, .ref tr3, .ref tr4, .int 0, .int 0, .ref tr5])), (h, .inr (10, [.ref ta, .ref pl, .ref sh, .ref tr, .ref fo, .ref li, .ref sp, .ref dr, .ref pa, .ref im, .ref fs, .ref ph, .ref cd, .int 0, .int 0]))] := hD
    obtain rfl : r_12 = 1 := hw_13
    exact q_iret (rm := (Rm 2 81 0 0)) C hS () rfl (by show _ = if 0 ≤ n.toInt ∧ n.toInt ≤ 3 then 1 else -1; repeat (first | rfl | rw [if_pos (by omega)] | rw [if_neg (by omega)])) (q_subP hP [] rfl) (hD.sub [] (by decide) rfl) (Nat.le_of_ble_eq_true rfl) (Nat.le_of_ble_eq_true rfl) dX10_broom_43
  · refine lv_if_ne (tgt := 13) hx hb dX10_broom_8 (by decide) (fun c_0 => absurd (by decide) c_0) (fun _ => ?_)
    refine lv_iconst (v := (-1)) hx hb dX10_broom_11 (by decide) ?_
    exact q_iret (rm := (Rm 2 81 0 0)) C hS () rfl (by show _ = if 0 ≤ n.toInt ∧ n.toInt ≤ 3 then 1 else -1; repeat (first | rfl | rw [if_pos (by omega)] | rw [if_neg (by omega)])) (q_subP hP [] rfl) (hD.sub [] (by decide) rfl) (Nat.le_of_ble_eq_true rfl) (Nat.le_of_ble_eq_true rfl) dX10_broom_12
set_option maxHeartbeats 4000000 in
set_option maxRecDepth 100000 in
theorem x_move (l : Launch) (D : va_G) (cy : Nat → ClassId) (h : Nat) (n : Int32) (v1 : Int32) (v2 : Int32) (ta : Nat) (pl : Nat) (sh : Nat) (tr : Nat) (fo : Nat) (li : Nat) (sp : Nat) (dr : Nat) (pa : Nat) (im : Nat) (fs : Nat) (ph : Nat) (cd : Nat) (pl0 : Nat) (pl1 : Nat) (pl2 : Nat) (sz : Nat)  : MI l yX10_move cX10_move 4 (some .int) (Rm 1 21 0 0) D cy [.ref h, .int n, .int v1, .int v2] sz [(h, .inr (10, [.ref ta, .ref pl, .ref sh, .ref tr, .ref fo, .ref li, .ref sp, .ref dr, .ref pa, .ref im, .ref fs, .ref ph, .ref cd, .int 0, .int 0])), (pl, .inr (6, [.int 4, .int 4, .int 10, .int 1, .int 3, .int 0, .int 0, .int 0, .ref pl0, .ref pl1, .ref pl2]))] (fun (r : Int32) (u : Unit) => r = (-1)) (fun u : Unit => []) := by
  refine MI.enter (by decide) (Nat.le_of_ble_eq_true rfl) ?_
  intro p e s m below meth c ls A hsz hAe C hP hD hS hl
  have C : Cx p s m _ meth c cX10_move 4 (some .int) RX10 "move" D cy A := C
  have hx := C.1
  have hb := C.2.1
  have hl : lv_has ls 4 [(0, .ref h), (1, .int n), (2, .int v1), (3, .int v2)] := hl
  refine lv_aload_n hx hb dX10_move_0 rfl (lv_at hl 0 rfl) ?_
  refine q_get (v := .ref pl) C hP 0 1 rfl rfl inX10 (by decide) kF_RX10_19 rfl rfl dX10_move_1 ?_
  refine lv_iload_n hx hb dX10_move_4 rfl (lv_at hl 1 rfl) ?_
  refine q_ai (wr := [(h, .inr (10, [.ref ta, .ref pl, .ref sh, .ref tr, .ref fo, .ref li, .ref sp, .ref dr, .ref pa, .ref im, .ref fs, .ref ph, .ref cd, .int 0, .int 0]))]) (r_V (q0 := 0) (As := [.int n]) (rest := []) (wc := [(pl, .inr (6, [.int 4, .int 4, .int 10, .int 1, .int 3, .int 0, .int 0, .int 0, .ref pl0, .ref pl1, .ref pl2]))]) C (q_subP hP [1] rfl) (hD.sub [1] (by decide) rfl) (c_hasBook l D cy pl n pl0 pl1 pl2 _ ) kwV_X6_hasBook kM_RX10_170 rfl rfl ⟨Nat.le_of_ble_eq_true rfl, Nat.le_of_ble_eq_true rfl⟩ rfl hl.1 rfl (Nat.le_of_ble_eq_true rfl) dX10_move_5 ⟨Nat.le_of_ble_eq_true rfl, Nat.le_of_ble_eq_true rfl⟩) C.2.2.2.2.2.2.1 hP hD hS [1] [0] rfl rfl (by decide) (by decide) (fun r_2 u_1 H locs hw_3 hP hD hS => ?_)
  have hP : va_P D vwCl [(h, .inr (10, [.ref ta, .ref pl, .ref sh, .ref tr, .ref fo, .ref li, .ref sp, .ref dr, .ref pa, .ref im, .ref fs, .ref ph, .ref cd, .int 0, .int 0])), (pl, .inr (6, [.int 4, .int 4, .int 10, .int 1, .int 3, .int 0, .int 0, .int 0, .ref pl0, .ref pl1, .ref pl2]))] H := hP
  have hD : va_D A [(h, .inr (10, [.ref ta, .ref pl, .ref sh, .ref tr, .ref fo, .ref li, .ref sp, .ref dr, .ref pa, .ref im, .ref fs, .ref ph, .ref cd, .int 0, .int 0])), (pl, .inr (6, [.int 4, .int 4, .int 10, .int 1, .int 3, .int 0, .int 0, .int 0, .ref pl0, .ref pl1, .ref pl2]))] := hD
  obtain rfl : r_2 = 0 := hw_3
  refine lv_if_eq (tgt := 23) hx hb dX10_move_8 (by decide) (fun _ => ?_) (fun c_0 => absurd (by decide) c_0)
  refine lv_iconst (v := (-1)) hx hb dX10_move_23 (by decide) ?_
  exact q_iret (rm := (Rm 1 21 0 0)) C hS () rfl rfl (q_subP hP [] rfl) (hD.sub [] (by decide) rfl) (Nat.le_of_ble_eq_true rfl) (Nat.le_of_ble_eq_true rfl) dX10_move_24
set_option maxHeartbeats 4000000 in
set_option maxRecDepth 100000 in
theorem c_growWebs (l : Launch) (D : va_G) (cy : Nat → ClassId) (h : Nat) (o : Nat) (h0 : Nat) (h1 : Nat) (h2 : Nat) (h3 : Nat) (h4 : Nat) (d1 : Int32) (h5 : Nat) (o0 : Nat) (o1 : Nat) (o2 : Nat) (sz : Nat)  : MV l yX8_growWebs cX8_growWebs 3 (Rm 0 0 0 0) D cy [.ref h, .ref o] sz [(h, .inr (8, [.ref h0, .ref h1, .ref h2, .ref h3, .ref h4, .int 0, .int d1, .ref h5])), (o, .inr (6, [.int 4, .int 4, .int 10, .int 1, .int 3, .int 0, .int 0, .int 0, .ref o0, .ref o1, .ref o2]))] (fun _ : Unit => True) (fun u : Unit => [(h, .inr (8, [.ref h0, .ref h1, .ref h2, .ref h3, .ref h4, .int 0, .int d1, .ref h5])), (o, .inr (6, [.int 4, .int 4, .int 10, .int 1, .int 3, .int 0, .int 0, .int 0, .ref o0, .ref o1, .ref o2]))]) := by
  refine MV.enter (by decide) (Nat.le_of_ble_eq_true rfl) ?_
  intro p e s m below meth c ls A hsz hAe C hP hD hS hl
  have C : Cx p s m _ meth c cX8_growWebs 3 none RX8 "growWebs" D cy A := C
  have hx := C.1
  have hb := C.2.1
  have hl : lv_has ls 3 [(0, .ref h), (1, .ref o)] := hl
  refine lv_iconst (v := 0) hx hb dX8_growWebs_0 (by decide) ?_
  refine lv_istore_n (lv' := [(2, .int 0), (0, .ref h), (1, .ref o)]) hx hb dX8_growWebs_1 rfl hl (by decide) rfl (fun ls hl => ?_)
  refine lv_iload_n hx hb dX8_growWebs_2 rfl (lv_at hl 0 rfl) ?_
  refine lv_aload_n hx hb dX8_growWebs_3 rfl (lv_at hl 2 rfl) ?_
  refine q_get (v := .int 0) C hP 1 6 rfl rfl inX6 (by decide) kF_RX8_53 rfl rfl dX8_growWebs_4 ?_
  refine lv_icmp_ge (tgt := 49) hx hb dX8_growWebs_7 (by decide) (fun _ => ?_) (fun c_0 => absurd (by decide) c_0)
  exact q_vret (rm := (Rm 0 0 0 0)) C hS () trivial (q_subP hP [0, 1] rfl) (hD.sub [0, 1] (by decide) rfl) (Nat.le_of_ble_eq_true rfl) (Nat.le_of_ble_eq_true rfl) dX8_growWebs_49
set_option maxHeartbeats 4000000 in
set_option maxRecDepth 100000 in
theorem c_growThreads (l : Launch) (D : va_G) (cy : Nat → ClassId) (h : Nat) (h0 : Nat) (h1 : Nat) (h2 : Nat) (h3 : Nat) (h4 : Nat) (d1 : Int32) (h5 : Nat) (sz : Nat)  : MV l yX8_growThreads cX8_growThreads 5 (Rm 0 0 0 0) D cy [.ref h, .int 0] sz [(h, .inr (8, [.ref h0, .ref h1, .ref h2, .ref h3, .ref h4, .int 0, .int d1, .ref h5]))] (fun _ : Unit => True) (fun u : Unit => [(h, .inr (8, [.ref h0, .ref h1, .ref h2, .ref h3, .ref h4, .int 0, .int d1, .ref h5]))]) := by
  refine MV.enter (by decide) (Nat.le_of_ble_eq_true rfl) ?_
  intro p e s m below meth c ls A hsz hAe C hP hD hS hl
  have C : Cx p s m _ meth c cX8_growThreads 5 none RX8 "growThreads" D cy A := C
  have hx := C.1
  have hb := C.2.1
  have hl : lv_has ls 5 [(0, .ref h), (1, .int 0)] := hl
  refine lv_iconst (v := 0) hx hb dX8_growThreads_0 (by decide) ?_
  refine lv_istore_n (lv' := [(2, .int 0), (0, .ref h), (1, .int 0)]) hx hb dX8_growThreads_1 rfl hl (by decide) rfl (fun ls hl => ?_)
  refine lv_iload_n hx hb dX8_growThreads_2 rfl (lv_at hl 0 rfl) ?_
  refine lv_iload_n hx hb dX8_growThreads_3 rfl (lv_at hl 2 rfl) ?_
  refine lv_icmp_ge (tgt := 95) hx hb dX8_growThreads_4 (by decide) (fun _ => ?_) (fun c_0 => absurd (by decide) c_0)
  exact q_vret (rm := (Rm 0 0 0 0)) C hS () trivial (q_subP hP [0] rfl) (hD.sub [0] (by decide) rfl) (Nat.le_of_ble_eq_true rfl) (Nat.le_of_ble_eq_true rfl) dX8_growThreads_95
set_option maxHeartbeats 4000000 in
set_option maxRecDepth 100000 in
theorem c_seedBehind (l : Launch) (D : va_G) (cy : Nat → ClassId) (v : Int32) (sz : Nat)  : MI l yX10_seedBehind cX10_seedBehind 1 (some .int) (Rm 0 0 0 0) D cy [.int v] sz [] (fun (r : Int32) (u : Unit) => r = ((v * 1103515245) + 12345)) (fun u : Unit => []) := by
  refine MI.enter (by decide) (Nat.le_of_ble_eq_true rfl) ?_
  intro p e s m below meth c ls A hsz hAe C hP hD hS hl
  have C : Cx p s m _ meth c cX10_seedBehind 1 (some .int) RX10 "seedBehind" D cy A := C
  have hx := C.1
  have hb := C.2.1
  have hl : lv_has ls 1 [(0, .int v)] := hl
  refine lv_iload_n hx hb dX10_seedBehind_0 rfl (lv_at hl 0 rfl) ?_
  refine q_ldc_w (v := 1103515245) C kC_RX10_405 dX10_seedBehind_1 ?_
  refine lv_imul hx hb dX10_seedBehind_4 ?_
  refine lv_sipush (v := 12345) hx hb dX10_seedBehind_5 (by decide) ?_
  refine lv_iadd hx hb dX10_seedBehind_8 ?_
  exact q_iret (rm := (Rm 0 0 0 0)) C hS () rfl rfl (q_subP hP [] rfl) (hD.sub [] (by decide) rfl) (Nat.le_of_ble_eq_true rfl) (Nat.le_of_ble_eq_true rfl) dX10_seedBehind_9
set_option maxHeartbeats 4000000 in
set_option maxRecDepth 100000 in
theorem c_blow (l : Launch) (D : va_G) (cy : Nat → ClassId) (h : Nat) (o : Nat) (v : Int32) (h0 : Nat) (h1 : Nat) (h2 : Nat) (h3 : Nat) (h4 : Nat) (d1 : Int32) (h5 : Nat) (o0 : Nat) (o1 : Nat) (o2 : Nat) (sz : Nat)  : MI l yX8_blow cX8_blow 5 (some .int) (Rm 1 20 0 0) D cy [.ref h, .ref o, .int v] sz [(h, .inr (8, [.ref h0, .ref h1, .ref h2, .ref h3, .ref h4, .int 0, .int d1, .ref h5])), (o, .inr (6, [.int 4, .int 4, .int 10, .int 1, .int 3, .int 0, .int 0, .int 0, .ref o0, .ref o1, .ref o2]))] (fun (r : Int32) (u : Unit) => r = ((v * 1103515245) + 12345)) (fun u : Unit => [(h, .inr (8, [.ref h0, .ref h1, .ref h2, .ref h3, .ref h4, .int 0, .int d1, .ref h5])), (o, .inr (6, [.int 4, .int 4, .int 10, .int 1, .int 3, .int 0, .int 0, .int 0, .ref o0, .ref o1, .ref o2]))]) := by
  refine MI.enter (by decide) (Nat.le_of_ble_eq_true rfl) ?_
  intro p e s m below meth c ls A hsz hAe C hP hD hS hl
  have C : Cx p s m _ meth c cX8_blow 5 (some .int) RX8 "blow" D cy A := C
  have hx := C.1
  have hb := C.2.1
  have hl : lv_has ls 5 [(0, .ref h), (1, .ref o), (2, .int v)] := hl
  refine lv_iload_n hx hb dX8_blow_0 rfl (lv_at hl 2 rfl) ?_
  refine q_ai (wr := [(h, .inr (8, [.ref h0, .ref h1, .ref h2, .ref h3, .ref h4, .int 0, .int d1, .ref h5])), (o, .inr (6, [.int 4, .int 4, .int 10, .int 1, .int 3, .int 0, .int 0, .int 0, .ref o0, .ref o1, .ref o2]))]) (r_SN (As := [.int v]) (rest := []) (wc := []) C (q_subP hP [] rfl) (hD.sub [] (by decide) rfl) (c_seedBehind l D cy v _ ) kwS_X10_seedBehind kN_RX8_116 ⟨Nat.le_of_ble_eq_true rfl, Nat.le_of_ble_eq_true rfl⟩ rfl hl.1 rfl (Nat.le_of_ble_eq_true rfl) dX8_blow_1 ⟨Nat.le_of_ble_eq_true rfl, Nat.le_of_ble_eq_true rfl⟩) C.2.2.2.2.2.2.1 hP hD hS [] [0, 1] rfl rfl (by decide) (by decide) (fun r_2 u_1 H locs hw_3 hP hD hS => ?_)
  have hP : va_P D vwCl [(h, .inr (8, [.ref h0, .ref h1, .ref h2, .ref h3, .ref h4, .int 0, .int d1, .ref h5])), (o, .inr (6, [.int 4, .int 4, .int 10, .int 1, .int 3, .int 0, .int 0, .int 0, .ref o0, .ref o1, .ref o2]))] H := hP
  have hD : va_D A [(h, .inr (8, [.ref h0, .ref h1, .ref h2, .ref h3, .ref h4, .int 0, .int d1, .ref h5])), (o, .inr (6, [.int 4, .int 4, .int 10, .int 1, .int 3, .int 0, .int 0, .int 0, .ref o0, .ref o1, .ref o2]))] := hD
  obtain rfl : r_2 = ((v * 1103515245) + 12345) := hw_3
  refine lv_istore_n (lv' := [(3, .int ((v * 1103515245) + 12345)), (0, .ref h), (1, .ref o), (2, .int v)]) hx hb dX8_blow_4 rfl hl (by decide) rfl (fun ls hl => ?_)
  refine lv_aload_n hx hb dX8_blow_5 rfl (lv_at hl 2 rfl) ?_
  refine q_get (v := .int 0) C hP 1 6 rfl rfl inX6 (by decide) kF_RX8_53 rfl rfl dX8_blow_6 ?_
  refine lv_if_eq (tgt := 25) hx hb dX8_blow_9 (by decide) (fun _ => ?_) (fun c_0 => absurd (by decide) c_0)
  refine lv_iload_n hx hb dX8_blow_25 rfl (lv_at hl 0 rfl) ?_
  exact q_iret (rm := (Rm 1 20 0 0)) C hS () rfl rfl (q_subP hP [0, 1] rfl) (hD.sub [0, 1] (by decide) rfl) (Nat.le_of_ble_eq_true rfl) (Nat.le_of_ble_eq_true rfl) dX8_blow_26
set_option maxHeartbeats 4000000 in
set_option maxRecDepth 100000 in
theorem lp_c_passDays_55 (l : Launch) (D : va_G) (cy : Nat → ClassId) (h : Nat) (h0 : Nat) (h1 : Nat) (h2 : Nat) (h3 : Nat) (h4 : Nat) (h5 : Nat) (n0 : Nat) (o : Nat) (o0 : Nat) (o1 : Nat) (o2 : Nat) (v : Int32) (hn1 : 1 ≤ n0) (hn2 : n0 ≤ 30)  {p : Program} {e : Env} {s : State} {m : MethodId} {args : Array Value} {below : List Frame} {meth : Method} {c : Code} {A : Nat → Prop} {Q : State → Prop} {cells slots : Nat} (hroom : cells ≤ ((Rm 2 44 0 0)).cells ∧ slots ≤ ((Rm 2 44 0 0)).slots) (C : Cx p s m args meth c cX8_passDays 7 (some .int) RX8 "passDays" D cy A)
    (cont : ∀ (gs : Int32) (H : Heap) (locs : List Loc) (ls : Array Slot), va_P D vwCl [(h, .inr (8, [.ref h0, .ref h1, .ref h2, .ref h3, .ref h4, .int 0, .int (nI n0), .ref h5])), (o, .inr (6, [.int 4, .int 4, .int 10, .int 1, .int 3, .int 0, .int 0, .int 0, .ref o0, .ref o1, .ref o2]))] H → va_D A [(h, .inr (8, [.ref h0, .ref h1, .ref h2, .ref h3, .ref h4, .int 0, .int (nI n0), .ref h5])), (o, .inr (6, [.int 4, .int 4, .int 10, .int 1, .int 3, .int 0, .int 0, .int 0, .ref o0, .ref o1, .ref o2]))] → va_S A s.heap H locs → lv_has ls 7 [(6, .int (nI n0)), (5, .int gs), (4, .int (nI n0)), (0, .ref h), (1, .ref o), (2, .int (nI n0)), (3, .int v)] → W p l e (Rm 2 44 0 0) s m args below meth c H locs cells slots Q (F0 m 105 ls [])) :
    ∀ (k i_1 : Nat) (gs : Int32) (H : Heap) (locs : List Loc) (ls : Array Slot), i_1 + k = n0 → va_P D vwCl [(h, .inr (8, [.ref h0, .ref h1, .ref h2, .ref h3, .ref h4, .int 0, .int (nI i_1), .ref h5])), (o, .inr (6, [.int 4, .int 4, .int 10, .int 1, .int 3, .int 0, .int 0, .int 0, .ref o0, .ref o1, .ref o2]))] H → va_D A [(h, .inr (8, [.ref h0, .ref h1, .ref h2, .ref h3, .ref h4, .int 0, .int (nI i_1), .ref h5])), (o, .inr (6, [.int 4, .int 4, .int 10, .int 1, .int 3, .int 0, .int 0, .int 0, .ref o0, .ref o1, .ref o2]))] → va_S A s.heap H locs → lv_has ls 7 [(6, .int (nI i_1)), (5, .int gs), (4, .int (nI n0)), (0, .ref h), (1, .ref o), (2, .int (nI n0)), (3, .int v)] → W p l e (Rm 2 44 0 0) s m args below meth c H locs cells slots Q (F0 m 55 ls []) := by
  have hx := C.1
  have hb := C.2.1
  intro k
  induction k with
  | zero =>
    intro i_1 gs H locs ls hik hP hD hS hl
    have hik : n0 = i_1 := (by omega)
    subst hik
    have hl : lv_has ls 7 [(6, .int (nI n0)), (5, .int gs), (4, .int (nI n0)), (0, .ref h), (1, .ref o), (2, .int (nI n0)), (3, .int v)] := hl
    have hP : va_P D vwCl [(h, .inr (8, [.ref h0, .ref h1, .ref h2, .ref h3, .ref h4, .int 0, .int (nI n0), .ref h5])), (o, .inr (6, [.int 4, .int 4, .int 10, .int 1, .int 3, .int 0, .int 0, .int 0, .ref o0, .ref o1, .ref o2]))] H := hP
    have hD : va_D A [(h, .inr (8, [.ref h0, .ref h1, .ref h2, .ref h3, .ref h4, .int 0, .int (nI n0), .ref h5])), (o, .inr (6, [.int 4, .int 4, .int 10, .int 1, .int 3, .int 0, .int 0, .int 0, .ref o0, .ref o1, .ref o2]))] := hD
    refine lv_iload hx hb dX8_passDays_55 (lv_at hl 0 rfl) ?_
    refine lv_iload hx hb dX8_passDays_57 (lv_at hl 2 rfl) ?_
    refine lv_icmp_ge (tgt := 105) hx hb dX8_passDays_59 (by decide) (fun _ => ?_) (fun c_0 => absurd (Int32.le_refl _) c_0)
    exact cont gs H locs ls hP hD hS hl
  | succ k ih =>
    intro i_1 gs H locs ls hik hP hD hS hl
    have hlt : i_1 < n0 := (by omega)
    refine lv_iload hx hb dX8_passDays_55 (lv_at hl 0 rfl) ?_
    refine lv_iload hx hb dX8_passDays_57 (lv_at hl 2 rfl) ?_
    refine lv_icmp_ge (tgt := 105) hx hb dX8_passDays_59 (by decide) (fun c_0 => absurd c_0 (nI_ge (by omega) (by omega))) (fun _ => ?_)
    refine lv_aload_n hx hb dX8_passDays_62 rfl (lv_at hl 3 rfl) ?_
    refine lv_aload_n hx hb dX8_passDays_63 rfl (lv_at hl 4 rfl) ?_
    refine q_av (wr := []) (r_V (q0 := 0) (As := [.ref o]) (rest := []) (wc := [(h, .inr (8, [.ref h0, .ref h1, .ref h2, .ref h3, .ref h4, .int 0, .int (nI i_1), .ref h5])), (o, .inr (6, [.int 4, .int 4, .int 10, .int 1, .int 3, .int 0, .int 0, .int 0, .ref o0, .ref o1, .ref o2]))]) C (q_subP hP [0, 1] rfl) (hD.sub [0, 1] (by decide) rfl) (c_growWebs l D cy h o h0 h1 h2 h3 h4 (nI i_1) h5 o0 o1 o2 _ ) kwV_X8_growWebs kM_RX8_99 rfl rfl ⟨Nat.le_of_ble_eq_true rfl, Nat.le_of_ble_eq_true rfl⟩ rfl hl.1 rfl (Nat.le_of_ble_eq_true rfl) dX8_passDays_64 ⟨hroom.1, hroom.2⟩) C.2.2.2.2.2.2.1 hP hD hS [0, 1] [] rfl rfl (by decide) (by decide) (fun u_102 H locs hw_104 hP hD hS => ?_)
    have hP : va_P D vwCl [(h, .inr (8, [.ref h0, .ref h1, .ref h2, .ref h3, .ref h4, .int 0, .int (nI i_1), .ref h5])), (o, .inr (6, [.int 4, .int 4, .int 10, .int 1, .int 3, .int 0, .int 0, .int 0, .ref o0, .ref o1, .ref o2]))] H := hP
    have hD : va_D A [(h, .inr (8, [.ref h0, .ref h1, .ref h2, .ref h3, .ref h4, .int 0, .int (nI i_1), .ref h5])), (o, .inr (6, [.int 4, .int 4, .int 10, .int 1, .int 3, .int 0, .int 0, .int 0, .ref o0, .ref o1, .ref o2]))] := hD
    refine lv_aload_n hx hb dX8_passDays_67 rfl (lv_at hl 3 rfl) ?_
    refine lv_aload_n hx hb dX8_passDays_68 rfl (lv_at hl 4 rfl) ?_
    refine q_get (v := .int 0) C hP 1 6 rfl rfl inX6 (by decide) kF_RX8_53 rfl rfl dX8_passDays_69 ?_
    refine q_av (wr := [(o, .inr (6, [.int 4, .int 4, .int 10, .int 1, .int 3, .int 0, .int 0, .int 0, .ref o0, .ref o1, .ref o2]))]) (r_V (q0 := 0) (As := [.int 0]) (rest := []) (wc := [(h, .inr (8, [.ref h0, .ref h1, .ref h2, .ref h3, .ref h4, .int 0, .int (nI i_1), .ref h5]))]) C (q_subP hP [0] rfl) (hD.sub [0] (by decide) rfl) (c_growThreads l D cy h h0 h1 h2 h3 h4 (nI i_1) h5 _ ) kwV_X8_growThreads kM_RX8_103 rfl rfl ⟨Nat.le_of_ble_eq_true rfl, Nat.le_of_ble_eq_true rfl⟩ rfl hl.1 rfl (Nat.le_of_ble_eq_true rfl) dX8_passDays_72 ⟨hroom.1, hroom.2⟩) C.2.2.2.2.2.2.1 hP hD hS [0] [1] rfl rfl (by decide) (by decide) (fun u_105 H locs hw_107 hP hD hS => ?_)
    have hP : va_P D vwCl [(o, .inr (6, [.int 4, .int 4, .int 10, .int 1, .int 3, .int 0, .int 0, .int 0, .ref o0, .ref o1, .ref o2])), (h, .inr (8, [.ref h0, .ref h1, .ref h2, .ref h3, .ref h4, .int 0, .int (nI i_1), .ref h5]))] H := hP
    have hD : va_D A [(o, .inr (6, [.int 4, .int 4, .int 10, .int 1, .int 3, .int 0, .int 0, .int 0, .ref o0, .ref o1, .ref o2])), (h, .inr (8, [.ref h0, .ref h1, .ref h2, .ref h3, .ref h4, .int 0, .int (nI i_1), .ref h5]))] := hD
    refine lv_aload_n hx hb dX8_passDays_75 rfl (lv_at hl 3 rfl) ?_
    refine lv_aload_n hx hb dX8_passDays_76 rfl (lv_at hl 4 rfl) ?_
    refine lv_iload hx hb dX8_passDays_77 (lv_at hl 1 rfl) ?_
    refine q_ai (wr := []) (r_V (q0 := 0) (As := [.ref o, .int gs]) (rest := []) (wc := [(h, .inr (8, [.ref h0, .ref h1, .ref h2, .ref h3, .ref h4, .int 0, .int (nI i_1), .ref h5])), (o, .inr (6, [.int 4, .int 4, .int 10, .int 1, .int 3, .int 0, .int 0, .int 0, .ref o0, .ref o1, .ref o2]))]) C (q_subP hP [1, 0] rfl) (hD.sub [1, 0] (by decide) rfl) (c_blow l D cy h o gs h0 h1 h2 h3 h4 (nI i_1) h5 o0 o1 o2 _ ) kwV_X8_blow kM_RX8_106 rfl rfl ⟨Nat.le_of_ble_eq_true rfl, Nat.le_of_ble_eq_true rfl⟩ rfl hl.1 rfl (Nat.le_of_ble_eq_true rfl) dX8_passDays_79 ⟨hroom.1, hroom.2⟩) C.2.2.2.2.2.2.1 hP hD hS [1, 0] [] rfl rfl (by decide) (by decide) (fun r_109 u_108 H locs hw_110 hP hD hS => ?_)
    have hP : va_P D vwCl [(h, .inr (8, [.ref h0, .ref h1, .ref h2, .ref h3, .ref h4, .int 0, .int (nI i_1), .ref h5])), (o, .inr (6, [.int 4, .int 4, .int 10, .int 1, .int 3, .int 0, .int 0, .int 0, .ref o0, .ref o1, .ref o2]))] H := hP
    have hD : va_D A [(h, .inr (8, [.ref h0, .ref h1, .ref h2, .ref h3, .ref h4, .int 0, .int (nI i_1), .ref h5])), (o, .inr (6, [.int 4, .int 4, .int 10, .int 1, .int 3, .int 0, .int 0, .int 0, .ref o0, .ref o1, .ref o2]))] := hD
    obtain rfl : r_109 = ((gs * 1103515245) + 12345) := hw_110
    refine lv_istore (lv' := [(5, .int ((gs * 1103515245) + 12345)), (6, .int (nI i_1)), (4, .int (nI n0)), (0, .ref h), (1, .ref o), (2, .int (nI n0)), (3, .int v)]) hx hb dX8_passDays_82 hl (by decide) rfl (fun ls hl => ?_)
    refine lv_aload_n hx hb dX8_passDays_84 rfl (lv_at hl 3 rfl) ?_
    refine lv_dup hx hb dX8_passDays_85 rfl ?_
    refine q_get (v := .int (nI i_1)) C hP 0 6 rfl rfl inX8 (by decide) kF_RX8_31 rfl rfl dX8_passDays_86 ?_
    refine lv_iconst (v := 1) hx hb dX8_passDays_89 (by decide) ?_
    refine lv_iadd hx hb dX8_passDays_90 ?_
    refine q_val (v := (nI (i_1 + 1))) (nI_add i_1 1) ?_
    refine q_put (v := .int (nI (i_1 + 1))) (w' := [(h, .inr (8, [.ref h0, .ref h1, .ref h2, .ref h3, .ref h4, .int 0, .int (nI (i_1 + 1)), .ref h5])), (o, .inr (6, [.int 4, .int 4, .int 10, .int 1, .int 3, .int 0, .int 0, .int 0, .ref o0, .ref o1, .ref o2]))]) (ty := .int) C hP hD hS 0 6 rfl rfl inX8 tyX8 tyX8_ok nmX8 (by decide) kF_RX8_31 rfl rfl rfl rfl rfl (Nat.le_of_ble_eq_true rfl) rfl dX8_passDays_91 (fun H locs hP hD hS => ?_)
    refine lv_aload_n hx hb dX8_passDays_94 rfl (lv_at hl 3 rfl) ?_
    refine lv_iconst (v := 0) hx hb dX8_passDays_95 (by decide) ?_
    refine q_put (v := .int 0) (w' := [(h, .inr (8, [.ref h0, .ref h1, .ref h2, .ref h3, .ref h4, .int 0, .int (nI (i_1 + 1)), .ref h5])), (o, .inr (6, [.int 4, .int 4, .int 10, .int 1, .int 3, .int 0, .int 0, .int 0, .ref o0, .ref o1, .ref o2]))]) (ty := .int) C hP hD hS 0 5 rfl rfl inX8 tyX8 tyX8_ok nmX8 (by decide) kF_RX8_27 rfl rfl rfl rfl rfl (Nat.le_of_ble_eq_true rfl) rfl dX8_passDays_96 (fun H locs hP hD hS => ?_)
    refine lv_iinc (v := (nI (i_1 + 1))) (lv' := [(6, .int (nI (i_1 + 1))), (5, .int ((gs * 1103515245) + 12345)), (4, .int (nI n0)), (0, .ref h), (1, .ref o), (2, .int (nI n0)), (3, .int v)]) hx hb dX8_passDays_99 hl (k := 1) rfl (nI_1 _) (by decide) rfl (fun ls hl => ?_)
    refine lv_goto (tgt := 55) hx hb dX8_passDays_102 (by decide) ?_
    exact ih (i_1 + 1) ((gs * 1103515245) + 12345) H locs ls (by omega) hP hD hS (lv_sub hl [0, 1, 2, 3, 4, 5, 6] rfl)
set_option maxHeartbeats 4000000 in
set_option maxRecDepth 100000 in
theorem c_passDays (l : Launch) (D : va_G) (cy : Nat → ClassId) (h : Nat) (o : Nat) (n0 : Nat) (v : Int32) (h0 : Nat) (h1 : Nat) (h2 : Nat) (h3 : Nat) (h4 : Nat) (h5 : Nat) (o0 : Nat) (o1 : Nat) (o2 : Nat) (sz : Nat) (hn1 : 1 ≤ n0) (hn2 : n0 ≤ 30) : MI l yX8_passDays cX8_passDays 7 (some .int) (Rm 2 44 0 0) D cy [.ref h, .ref o, .int (nI n0), .int v] sz [(h, .inr (8, [.ref h0, .ref h1, .ref h2, .ref h3, .ref h4, .int 0, .int 0, .ref h5])), (o, .inr (6, [.int 4, .int 4, .int 10, .int 1, .int 3, .int 0, .int 0, .int 0, .ref o0, .ref o1, .ref o2]))] (fun (r : Int32) (u : Unit) => r = (nI n0)) (fun u : Unit => [(h, .inr (8, [.ref h0, .ref h1, .ref h2, .ref h3, .ref h4, .int 0, .int (nI n0), .ref h5])), (o, .inr (6, [.int 4, .int 4, .int 10, .int 1, .int 3, .int 0, .int 0, .int 0, .ref o0, .ref o1, .ref o2]))]) := by
  refine MI.enter (by decide) (Nat.le_of_ble_eq_true rfl) ?_
  intro p e s m below meth c ls A hsz hAe C hP hD hS hl
  have C : Cx p s m _ meth c cX8_passDays 7 (some .int) RX8 "passDays" D cy A := C
  have hx := C.1
  have hb := C.2.1
  have hl : lv_has ls 7 [(0, .ref h), (1, .ref o), (2, .int (nI n0)), (3, .int v)] := hl
  refine lv_iload_n hx hb dX8_passDays_0 rfl (lv_at hl 2 rfl) ?_
  refine lv_sipush (v := 400) hx hb dX8_passDays_1 (by decide) ?_
  refine lv_aload_n hx hb dX8_passDays_4 rfl (lv_at hl 0 rfl) ?_
  refine q_get (v := .int 0) C hP 0 6 rfl rfl inX8 (by decide) kF_RX8_31 rfl rfl dX8_passDays_5 ?_
  refine lv_isub hx hb dX8_passDays_8 ?_
  refine q_val (v := 400) (by decide) ?_
  refine q_mmin C hl.1 kM_RX8_91 (Nat.le_of_ble_eq_true rfl) (Nat.le_of_ble_eq_true rfl) (Nat.le_of_ble_eq_true rfl) (Nat.le_of_ble_eq_true rfl) dX8_passDays_9 ?_
  refine q_val (v := (nI n0)) (if_neg (nI_nlt (a := 400) (by omega) (by decide))) ?_
  refine lv_istore (lv' := [(4, .int (nI n0)), (0, .ref h), (1, .ref o), (2, .int (nI n0)), (3, .int v)]) hx hb dX8_passDays_12 hl (by decide) rfl (fun ls hl => ?_)
  refine lv_iconst (v := 0) hx hb dX8_passDays_14 (by decide) ?_
  refine lv_istore (lv' := [(5, .int 0), (4, .int (nI n0)), (0, .ref h), (1, .ref o), (2, .int (nI n0)), (3, .int v)]) hx hb dX8_passDays_15 hl (by decide) rfl (fun ls hl => ?_)
  refine lv_iload hx hb dX8_passDays_17 (lv_at hl 0 rfl) ?_
  refine lv_aload_n hx hb dX8_passDays_19 rfl (lv_at hl 3 rfl) ?_
  refine q_get (v := .int 0) C hP 1 6 rfl rfl inX6 (by decide) kF_RX8_53 rfl rfl dX8_passDays_20 ?_
  refine lv_icmp_ge (tgt := 49) hx hb dX8_passDays_23 (by decide) (fun _ => ?_) (fun c_0 => absurd (by decide) c_0)
  refine lv_iload_n hx hb dX8_passDays_49 rfl (lv_at hl 5 rfl) ?_
  refine lv_istore (lv' := [(5, .int v), (4, .int (nI n0)), (0, .ref h), (1, .ref o), (2, .int (nI n0)), (3, .int v)]) hx hb dX8_passDays_50 hl (by decide) rfl (fun ls hl => ?_)
  refine lv_iconst (v := 0) hx hb dX8_passDays_52 (by decide) ?_
  refine lv_istore (lv' := [(6, .int 0), (5, .int v), (4, .int (nI n0)), (0, .ref h), (1, .ref o), (2, .int (nI n0)), (3, .int v)]) hx hb dX8_passDays_53 hl (by decide) rfl (fun ls hl => ?_)
  refine lp_c_passDays_55 l D cy h h0 h1 h2 h3 h4 h5 n0 o o0 o1 o2 v hn1 hn2  ⟨Nat.le_of_ble_eq_true rfl, Nat.le_of_ble_eq_true rfl⟩ C (fun gs H locs ls hP hD hS hl => ?_) n0 0 v _ _ ls (by omega) hP hD hS (lv_sub hl [0, 1, 2, 3, 4, 5, 6] rfl)
  refine lv_iload hx hb dX8_passDays_105 (lv_at hl 2 rfl) ?_
  exact q_iret (rm := (Rm 2 44 0 0)) C hS () rfl rfl (q_subP hP [0, 1] rfl) (hD.sub [0, 1] (by decide) rfl) (Nat.le_of_ble_eq_true rfl) (Nat.le_of_ble_eq_true rfl) dX8_passDays_107
set_option maxHeartbeats 4000000 in
set_option maxRecDepth 100000 in
theorem x_days (l : Launch) (D : va_G) (cy : Nat → ClassId) (h : Nat) (n : Int32) (v : Int32) (ta : Nat) (pl : Nat) (sh : Nat) (tr : Nat) (fo : Nat) (li : Nat) (sp : Nat) (dr : Nat) (pa : Nat) (im : Nat) (fs : Nat) (ph : Nat) (cd : Nat) (pl0 : Nat) (pl1 : Nat) (pl2 : Nat) (pa0 : Nat) (kf : Nat → Option Nat) (k0 : Nat) (k00 : Nat) (k01 : Nat) (k02 : Nat) (k03 : Nat) (k04 : Nat) (k05 : Nat) (sh0 : Nat) (sh1 : Nat) (sh2 : Nat) (sh3 : Nat) (sh4 : Nat) (sh5 : Nat) (tr0 : Nat) (tr1 : Nat) (tr2 : Nat) (tr3 : Nat) (tr4 : Nat) (tr5 : Nat) (sz : Nat) (hk : kf 0 = some k0) : MI l yX10_days cX10_days 4 (some .int) (Rm 4 122 0 0) D cy [.ref h, .int n, .int v] sz [(h, .inr (10, [.ref ta, .ref pl, .ref sh, .ref tr, .ref fo, .ref li, .ref sp, .ref dr, .ref pa, .ref im, .ref fs, .ref ph, .ref cd, .int 0, .int 0])), (pl, .inr (6, [.int 4, .int 4, .int 10, .int 1, .int 3, .int 0, .int 0, .int 0, .ref pl0, .ref pl1, .ref pl2])), (pa, .inr (4, [.int 0, .int 0, .ref pa0])), (pa0, .inl (cy 5, 8, .inr (.inr (.inr (.inr kf))))), (k0, .inr (8, [.ref k00, .ref k01, .ref k02, .ref k03, .ref k04, .int 0, .int 0, .ref k05])), (k00, .inl (cy 1, 8, .inl (fun _ => 0))), (k01, .inl (cy 1, 8, .inl (fun _ => 0))), (k02, .inl (cy 1, 8, .inl (fun _ => 0))), (k03, .inl (cy 1, 8, .inl (fun _ => 0))), (k04, .inl (cy 1, 64, .inl (fun _ => 0))), (sh, .inr (8, [.ref sh0, .ref sh1, .ref sh2, .ref sh3, .ref sh4, .int 0, .int 0, .ref sh5])), (sh0, .inl (cy 1, 8, .inl (fun _ => 0))), (sh1, .inl (cy 1, 8, .inl (fun _ => 0))), (sh2, .inl (cy 1, 8, .inl (fun _ => 0))), (sh3, .inl (cy 1, 8, .inl (fun _ => 0))), (sh4, .inl (cy 1, 64, .inl (fun _ => 0))), (tr, .inr (8, [.ref tr0, .ref tr1, .ref tr2, .ref tr3, .ref tr4, .int 0, .int 0, .ref tr5])), (tr0, .inl (cy 1, 8, .inl (fun _ => 0))), (tr1, .inl (cy 1, 8, .inl (fun _ => 0))), (tr2, .inl (cy 1, 8, .inl (fun _ => 0))), (tr3, .inl (cy 1, 8, .inl (fun _ => 0))), (tr4, .inl (cy 1, 64, .inl (fun _ => 0)))] (fun (r : Int32) (u : Unit) => r = (rDays n)) (fun u : Unit => []) := by
  refine MI.enter (by decide) (Nat.le_of_ble_eq_true rfl) ?_
  intro p e s m below meth c ls A hsz hAe C hP hD hS hl
  have C : Cx p s m _ meth c cX10_days 4 (some .int) RX10 "days" D cy A := C
  have hx := C.1
  have hb := C.2.1
  have hl : lv_has ls 4 [(0, .ref h), (1, .int n), (2, .int v)] := hl
  refine lv_iload_n hx hb dX10_days_0 rfl (lv_at hl 1 rfl) ?_
  refine lv_iconst (v := 1) hx hb dX10_days_1 (by decide) ?_
  refine lv_icmp_lt (tgt := 11) hx hb dX10_days_2 (by decide) (fun c_1 => ?_) (fun c_1 => ?_)
  · refine lv_iconst (v := (-1)) hx hb dX10_days_11 (by decide) ?_
    exact q_iret (rm := (Rm 4 122 0 0)) C hS () rfl (by have z0 := (Int32.lt_iff_toInt_lt).mp c_1; have e0 : (1 : Int32).toInt = 1 := (by decide); show _ = if 1 ≤ n.toInt ∧ n.toInt ≤ 30 then n else -1; repeat (first | rfl | rw [if_pos (by omega)] | rw [if_neg (by omega)])) (q_subP hP [] rfl) (hD.sub [] (by decide) rfl) (Nat.le_of_ble_eq_true rfl) (Nat.le_of_ble_eq_true rfl) dX10_days_12
  · refine lv_iload_n hx hb dX10_days_5 rfl (lv_at hl 1 rfl) ?_
    refine lv_bipush (v := 30) hx hb dX10_days_6 (by decide) ?_
    refine lv_icmp_le (tgt := 13) hx hb dX10_days_8 (by decide) (fun c_2 => ?_) (fun c_2 => ?_)
    · obtain ⟨jn, hj1, hj2, rfl⟩ := nat_of (x := n) (a := 1) (b := 30) (by have z0 := (not_congr Int32.lt_iff_toInt_lt).mp c_1; have z1 := (Int32.le_iff_toInt_le).mp c_2; have e0 : (1 : Int32).toInt = 1 := (by decide); have e1 : (30 : Int32).toInt = 30 := (by decide); omega) (by have z0 := (not_congr Int32.lt_iff_toInt_lt).mp c_1; have z1 := (Int32.le_iff_toInt_le).mp c_2; have e0 : (1 : Int32).toInt = 1 := (by decide); have e1 : (30 : Int32).toInt = 30 := (by decide); omega) (by decide) (by decide)
      refine lv_aload_n hx hb dX10_days_13 rfl (lv_at hl 0 rfl) ?_
      refine q_get (v := .ref tr) C hP 0 3 rfl rfl inX10 (by decide) kF_RX10_30 rfl rfl dX10_days_14 ?_
      refine lv_aload_n hx hb dX10_days_17 rfl (lv_at hl 0 rfl) ?_
      refine q_get (v := .ref sh) C hP 0 2 rfl rfl inX10 (by decide) kF_RX10_26 rfl rfl dX10_days_18 ?_
      refine q_av (wr := [(h, .inr (10, [.ref ta, .ref pl, .ref sh, .ref tr, .ref fo, .ref li, .ref sp, .ref dr, .ref pa, .ref im, .ref fs, .ref ph, .ref cd, .int 0, .int 0])), (pl, .inr (6, [.int 4, .int 4, .int 10, .int 1, .int 3, .int 0, .int 0, .int 0, .ref pl0, .ref pl1, .ref pl2])), (pa, .inr (4, [.int 0, .int 0, .ref pa0])), (pa0, .inl (cy 5, 8, .inr (.inr (.inr (.inr kf))))), (k0, .inr (8, [.ref k00, .ref k01, .ref k02, .ref k03, .ref k04, .int 0, .int 0, .ref k05])), (k00, .inl (cy 1, 8, .inl (fun _ => 0))), (k01, .inl (cy 1, 8, .inl (fun _ => 0))), (k02, .inl (cy 1, 8, .inl (fun _ => 0))), (k03, .inl (cy 1, 8, .inl (fun _ => 0))), (k04, .inl (cy 1, 64, .inl (fun _ => 0)))]) (r_V (q0 := 0) (As := [.ref sh]) (rest := []) (wc := [(tr, .inr (8, [.ref tr0, .ref tr1, .ref tr2, .ref tr3, .ref tr4, .int 0, .int 0, .ref tr5])), (tr0, .inl (cy 1, 8, .inl (fun _ => 0))), (tr1, .inl (cy 1, 8, .inl (fun _ => 0))), (tr2, .inl (cy 1, 8, .inl (fun _ => 0))), (tr3, .inl (cy 1, 8, .inl (fun _ => 0))), (tr4, .inl (cy 1, 64, .inl (fun _ => 0))), (sh, .inr (8, [.ref sh0, .ref sh1, .ref sh2, .ref sh3, .ref sh4, .int 0, .int 0, .ref sh5])), (sh0, .inl (cy 1, 8, .inl (fun _ => 0))), (sh1, .inl (cy 1, 8, .inl (fun _ => 0))), (sh2, .inl (cy 1, 8, .inl (fun _ => 0))), (sh3, .inl (cy 1, 8, .inl (fun _ => 0))), (sh4, .inl (cy 1, 64, .inl (fun _ => 0)))]) C (q_subP hP [16, 17, 18, 19, 20, 21, 10, 11, 12, 13, 14, 15] rfl) (hD.sub [16, 17, 18, 19, 20, 21, 10, 11, 12, 13, 14, 15] (by decide) rfl) (c_Scopy l D cy tr sh tr0 tr1 tr2 tr3 tr4 0 0 tr5 sh0 sh1 sh2 sh3 sh4 0 0 sh5 _ ) kwV_X8_copyFrom kM_RX10_117 rfl rfl ⟨Nat.le_of_ble_eq_true rfl, Nat.le_of_ble_eq_true rfl⟩ rfl hl.1 rfl (Nat.le_of_ble_eq_true rfl) dX10_days_21 ⟨Nat.le_of_ble_eq_true rfl, Nat.le_of_ble_eq_true rfl⟩) C.2.2.2.2.2.2.1 hP hD hS [16, 17, 18, 19, 20, 21, 10, 11, 12, 13, 14, 15] [0, 1, 2, 3, 4, 5, 6, 7, 8, 9] rfl rfl (by decide) (by decide) (fun u_3 H locs hw_5 hP hD hS => ?_)
      have hP : va_P D vwCl [(h, .inr (10, [.ref ta, .ref pl, .ref sh, .ref tr, .ref fo, .ref li, .ref sp, .ref dr, .ref pa, .ref im, .ref fs, .ref ph, .ref cd, .int 0, .int 0])), (pl, .inr (6, [.int 4, .int 4, .int 10, .int 1, .int 3, .int 0, .int 0, .int 0, .ref pl0, .ref pl1, .ref pl2])), (pa, .inr (4, [.int 0, .int 0, .ref pa0])), (pa0, .inl (cy 5, 8, .inr (.inr (.inr (.inr kf))))), (k0, .inr (8, [.ref k00, .ref k01, .ref k02, .ref k03, .ref k04, .int 0, .int 0, .ref k05])), (k00, .inl (cy 1, 8, .inl (fun _ => 0))), (k01, .inl (cy 1, 8, .inl (fun _ => 0))), (k02, .inl (cy 1, 8, .inl (fun _ => 0))), (k03, .inl (cy 1, 8, .inl (fun _ => 0))), (k04, .inl (cy 1, 64, .inl (fun _ => 0))), (tr, .inr (8, [.ref tr0, .ref tr1, .ref tr2, .ref tr3, .ref tr4, .int 0, .int 0, .ref tr5])), (tr0, .inl (cy 1, 8, .inl (fun _ => 0))), (tr1, .inl (cy 1, 8, .inl (fun _ => 0))), (tr2, .inl (cy 1, 8, .inl (fun _ => 0))), (tr3, .inl (cy 1, 8, .inl (fun _ => 0))), (tr4, .inl (cy 1, 64, .inl (fun _ => 0))), (sh, .inr (8, [.ref sh0, .ref sh1, .ref sh2, .ref sh3, .ref sh4, .int 0, .int 0, .ref sh5])), (sh0, .inl (cy 1, 8, .inl (fun _ => 0))), (sh1, .inl (cy 1, 8, .inl (fun _ => 0))), (sh2, .inl (cy 1, 8, .inl (fun _ => 0))), (sh3, .inl (cy 1, 8, .inl (fun _ => 0))), (sh4, .inl (cy 1, 64, .inl (fun _ => 0)))] H := hP
      have hD : va_D A [(h, .inr (10, [.ref ta, .ref pl, .ref sh, .ref tr, .ref fo, .ref li, .ref sp, .ref dr, .ref pa, .ref im, .ref fs, .ref ph, .ref cd, .int 0, .int 0])), (pl, .inr (6, [.int 4, .int 4, .int 10, .int 1, .int 3, .int 0, .int 0, .int 0, .ref pl0, .ref pl1, .ref pl2])), (pa, .inr (4, [.int 0, .int 0, .ref pa0])), (pa0, .inl (cy 5, 8, .inr (.inr (.inr (.inr kf))))), (k0, .inr (8, [.ref k00, .ref k01, .ref k02, .ref k03, .ref k04, .int 0, .int 0, .ref k05])), (k00, .inl (cy 1, 8, .inl (fun _ => 0))), (k01, .inl (cy 1, 8, .inl (fun _ => 0))), (k02, .inl (cy 1, 8, .inl (fun _ => 0))), (k03, .inl (cy 1, 8, .inl (fun _ => 0))), (k04, .inl (cy 1, 64, .inl (fun _ => 0))), (tr, .inr (8, [.ref tr0, .ref tr1, .ref tr2, .ref tr3, .ref tr4, .int 0, .int 0, .ref tr5])), (tr0, .inl (cy 1, 8, .inl (fun _ => 0))), (tr1, .inl (cy 1, 8, .inl (fun _ => 0))), (tr2, .inl (cy 1, 8, .inl (fun _ => 0))), (tr3, .inl (cy 1, 8, .inl (fun _ => 0))), (tr4, .inl (cy 1, 64, .inl (fun _ => 0))), (sh, .inr (8, [.ref sh0, .ref sh1, .ref sh2, .ref sh3, .ref sh4, .int 0, .int 0, .ref sh5])), (sh0, .inl (cy 1, 8, .inl (fun _ => 0))), (sh1, .inl (cy 1, 8, .inl (fun _ => 0))), (sh2, .inl (cy 1, 8, .inl (fun _ => 0))), (sh3, .inl (cy 1, 8, .inl (fun _ => 0))), (sh4, .inl (cy 1, 64, .inl (fun _ => 0)))] := hD
      refine lv_aload_n hx hb dX10_days_24 rfl (lv_at hl 0 rfl) ?_
      refine q_get (v := .ref tr) C hP 0 3 rfl rfl inX10 (by decide) kF_RX10_30 rfl rfl dX10_days_25 ?_
      refine lv_aload_n hx hb dX10_days_28 rfl (lv_at hl 0 rfl) ?_
      refine q_get (v := .ref pl) C hP 0 1 rfl rfl inX10 (by decide) kF_RX10_19 rfl rfl dX10_days_29 ?_
      refine lv_iload_n hx hb dX10_days_32 rfl (lv_at hl 1 rfl) ?_
      refine lv_iload_n hx hb dX10_days_33 rfl (lv_at hl 2 rfl) ?_
      refine q_ai (wr := [(h, .inr (10, [.ref ta, .ref pl, .ref sh, .ref tr, .ref fo, .ref li, .ref sp, .ref dr, .ref pa, .ref im, .ref fs, .ref ph, .ref cd, .int 0, .int 0])), (pa, .inr (4, [.int 0, .int 0, .ref pa0])), (pa0, .inl (cy 5, 8, .inr (.inr (.inr (.inr kf))))), (k0, .inr (8, [.ref k00, .ref k01, .ref k02, .ref k03, .ref k04, .int 0, .int 0, .ref k05])), (k00, .inl (cy 1, 8, .inl (fun _ => 0))), (k01, .inl (cy 1, 8, .inl (fun _ => 0))), (k02, .inl (cy 1, 8, .inl (fun _ => 0))), (k03, .inl (cy 1, 8, .inl (fun _ => 0))), (k04, .inl (cy 1, 64, .inl (fun _ => 0))), (tr0, .inl (cy 1, 8, .inl (fun _ => 0))), (tr1, .inl (cy 1, 8, .inl (fun _ => 0))), (tr2, .inl (cy 1, 8, .inl (fun _ => 0))), (tr3, .inl (cy 1, 8, .inl (fun _ => 0))), (tr4, .inl (cy 1, 64, .inl (fun _ => 0))), (sh, .inr (8, [.ref sh0, .ref sh1, .ref sh2, .ref sh3, .ref sh4, .int 0, .int 0, .ref sh5])), (sh0, .inl (cy 1, 8, .inl (fun _ => 0))), (sh1, .inl (cy 1, 8, .inl (fun _ => 0))), (sh2, .inl (cy 1, 8, .inl (fun _ => 0))), (sh3, .inl (cy 1, 8, .inl (fun _ => 0))), (sh4, .inl (cy 1, 64, .inl (fun _ => 0)))]) (r_V (q0 := 0) (As := [.ref pl, .int (nI jn), .int v]) (rest := []) (wc := [(tr, .inr (8, [.ref tr0, .ref tr1, .ref tr2, .ref tr3, .ref tr4, .int 0, .int 0, .ref tr5])), (pl, .inr (6, [.int 4, .int 4, .int 10, .int 1, .int 3, .int 0, .int 0, .int 0, .ref pl0, .ref pl1, .ref pl2]))]) C (q_subP hP [10, 1] rfl) (hD.sub [10, 1] (by decide) rfl) (c_passDays l D cy tr pl (jn) v tr0 tr1 tr2 tr3 tr4 tr5 pl0 pl1 pl2 _ (by omega) (by omega)) kwV_X8_passDays kM_RX10_293 rfl rfl ⟨Nat.le_of_ble_eq_true rfl, Nat.le_of_ble_eq_true rfl⟩ rfl hl.1 rfl (Nat.le_of_ble_eq_true rfl) dX10_days_34 ⟨Nat.le_of_ble_eq_true rfl, Nat.le_of_ble_eq_true rfl⟩) C.2.2.2.2.2.2.1 hP hD hS [10, 1] [0, 2, 3, 4, 5, 6, 7, 8, 9, 11, 12, 13, 14, 15, 16, 17, 18, 19, 20, 21] rfl rfl (by decide) (by decide) (fun r_7 u_6 H locs hw_8 hP hD hS => ?_)
      have hP : va_P D vwCl [(h, .inr (10, [.ref ta, .ref pl, .ref sh, .ref tr, .ref fo, .ref li, .ref sp, .ref dr, .ref pa, .ref im, .ref fs, .ref ph, .ref cd, .int 0, .int 0])), (pa, .inr (4, [.int 0, .int 0, .ref pa0])), (pa0, .inl (cy 5, 8, .inr (.inr (.inr (.inr kf))))), (k0, .inr (8, [.ref k00, .ref k01, .ref k02, .ref k03, .ref k04, .int 0, .int 0, .ref k05])), (k00, .inl (cy 1, 8, .inl (fun _ => 0))), (k01, .inl (cy 1, 8, .inl (fun _ => 0))), (k02, .inl (cy 1, 8, .inl (fun _ => 0))), (k03, .inl (cy 1, 8, .inl (fun _ => 0))), (k04, .inl (cy 1, 64, .inl (fun _ => 0))), (tr0, .inl (cy 1, 8, .inl (fun _ => 0))), (tr1, .inl (cy 1, 8, .inl (fun _ => 0))), (tr2, .inl (cy 1, 8, .inl (fun _ => 0))), (tr3, .inl (cy 1, 8, .inl (fun _ => 0))), (tr4, .inl (cy 1, 64, .inl (fun _ => 0))), (sh, .inr (8, [.ref sh0, .ref sh1, .ref sh2, .ref sh3, .ref sh4, .int 0, .int 0, .ref sh5])), (sh0, .inl (cy 1, 8, .inl (fun _ => 0))), (sh1, .inl (cy 1, 8, .inl (fun _ => 0))), (sh2, .inl (cy 1, 8, .inl (fun _ => 0))), (sh3, .inl (cy 1, 8, .inl (fun _ => 0))), (sh4, .inl (cy 1, 64, .inl (fun _ => 0))), (tr, .inr (8, [.ref tr0, .ref tr1, .ref tr2, .ref tr3, .ref tr4, .int 0, .int (nI jn), .ref tr5])), (pl, .inr (6, [.int 4, .int 4, .int 10, .int 1, .int 3, .int 0, .int 0, .int 0, .ref pl0, .ref pl1, .ref pl2]))] H := hP
      have hD : va_D A [(h, .inr (10, [.ref ta, .ref pl, .ref sh, .ref tr, .ref fo, .ref li, .ref sp, .ref dr, .ref pa, .ref im, .ref fs, .ref ph, .ref cd, .int 0, .int 0])), (pa, .inr (4, [.int 0, .int 0, .ref pa0])), (pa0, .inl (cy 5, 8, .inr (.inr (.inr (.inr kf))))), (k0, .inr (8, [.ref k00, .ref k01, .ref k02, .ref k03, .ref k04, .int 0, .int 0, .ref k05])), (k00, .inl (cy 1, 8, .inl (fun _ => 0))), (k01, .inl (cy 1, 8, .inl (fun _ => 0))), (k02, .inl (cy 1, 8, .inl (fun _ => 0))), (k03, .inl (cy 1, 8, .inl (fun _ => 0))), (k04, .inl (cy 1, 64, .inl (fun _ => 0))), (tr0, .inl (cy 1, 8, .inl (fun _ => 0))), (tr1, .inl (cy 1, 8, .inl (fun _ => 0))), (tr2, .inl (cy 1, 8, .inl (fun _ => 0))), (tr3, .inl (cy 1, 8, .inl (fun _ => 0))), (tr4, .inl (cy 1, 64, .inl (fun _ => 0))), (sh, .inr (8, [.ref sh0, .ref sh1, .ref sh2, .ref sh3, .ref sh4, .int 0, .int 0, .ref sh5])), (sh0, .inl (cy 1, 8, .inl (fun _ => 0))), (sh1, .inl (cy 1, 8, .inl (fun _ => 0))), (sh2, .inl (cy 1, 8, .inl (fun _ => 0))), (sh3, .inl (cy 1, 8, .inl (fun _ => 0))), (sh4, .inl (cy 1, 64, .inl (fun _ => 0))), (tr, .inr (8, [.ref tr0, .ref tr1, .ref tr2, .ref tr3, .ref tr4, .int 0, .int (nI jn), .ref tr5])), (pl, .inr (6, [.int 4, .int 4, .int 10, .int 1, .int 3, .int 0, .int 0, .int 0, .ref pl0, .ref pl1, .ref pl2]))] := hD
      obtain rfl : r_7 = (nI jn) := hw_8
      refine lv_istore_n (lv' := [(3, .int (nI jn)), (0, .ref h), (1, .int (nI jn)), (2, .int v)]) hx hb dX10_days_37 rfl hl (by decide) rfl (fun ls hl => ?_)
      refine lv_iload_n hx hb dX10_days_38 rfl (lv_at hl 0 rfl) ?_
      refine lv_if_le (tgt := 46) hx hb dX10_days_39 (by decide) (fun c_0 => absurd c_0 (nI_ge (a := 0) (by omega) (by omega))) (fun _ => ?_)
      refine lv_aload_n hx hb dX10_days_42 rfl (lv_at hl 1 rfl) ?_
      refine q_av (wr := [(pl, .inr (6, [.int 4, .int 4, .int 10, .int 1, .int 3, .int 0, .int 0, .int 0, .ref pl0, .ref pl1, .ref pl2]))]) (r_V (q0 := 0) (As := []) (rest := []) (wc := [(h, .inr (10, [.ref ta, .ref pl, .ref sh, .ref tr, .ref fo, .ref li, .ref sp, .ref dr, .ref pa, .ref im, .ref fs, .ref ph, .ref cd, .int 0, .int 0])), (pa, .inr (4, [.int 0, .int 0, .ref pa0])), (pa0, .inl (cy 5, 8, .inr (.inr (.inr (.inr kf))))), (k0, .inr (8, [.ref k00, .ref k01, .ref k02, .ref k03, .ref k04, .int 0, .int 0, .ref k05])), (k00, .inl (cy 1, 8, .inl (fun _ => 0))), (k01, .inl (cy 1, 8, .inl (fun _ => 0))), (k02, .inl (cy 1, 8, .inl (fun _ => 0))), (k03, .inl (cy 1, 8, .inl (fun _ => 0))), (k04, .inl (cy 1, 64, .inl (fun _ => 0))), (sh, .inr (8, [.ref sh0, .ref sh1, .ref sh2, .ref sh3, .ref sh4, .int 0, .int 0, .ref sh5])), (sh0, .inl (cy 1, 8, .inl (fun _ => 0))), (sh1, .inl (cy 1, 8, .inl (fun _ => 0))), (sh2, .inl (cy 1, 8, .inl (fun _ => 0))), (sh3, .inl (cy 1, 8, .inl (fun _ => 0))), (sh4, .inl (cy 1, 64, .inl (fun _ => 0))), (tr, .inr (8, [.ref tr0, .ref tr1, .ref tr2, .ref tr3, .ref tr4, .int 0, .int (nI jn), .ref tr5])), (tr0, .inl (cy 1, 8, .inl (fun _ => 0))), (tr1, .inl (cy 1, 8, .inl (fun _ => 0))), (tr2, .inl (cy 1, 8, .inl (fun _ => 0))), (tr3, .inl (cy 1, 8, .inl (fun _ => 0))), (tr4, .inl (cy 1, 64, .inl (fun _ => 0)))]) C (q_subP hP [0, 1, 2, 3, 4, 5, 6, 7, 8, 14, 15, 16, 17, 18, 19, 20, 9, 10, 11, 12, 13] rfl) (hD.sub [0, 1, 2, 3, 4, 5, 6, 7, 8, 14, 15, 16, 17, 18, 19, 20, 9, 10, 11, 12, 13] (by decide) rfl) (c_takeTrial l D cy h ta pl sh tr fo li sp dr pa im fs ph cd pa0 kf k0 k00 k01 k02 k03 k04 k05 sh0 sh1 sh2 sh3 sh4 sh5 tr0 tr1 tr2 tr3 tr4 (nI jn) tr5 _ hk) kwV_X10_takeTrial kM_RX10_154 rfl rfl ⟨Nat.le_of_ble_eq_true rfl, Nat.le_of_ble_eq_true rfl⟩ rfl hl.1 rfl (Nat.le_of_ble_eq_true rfl) dX10_days_43 ⟨Nat.le_of_ble_eq_true rfl, Nat.le_of_ble_eq_true rfl⟩) C.2.2.2.2.2.2.1 hP hD hS [0, 1, 2, 3, 4, 5, 6, 7, 8, 14, 15, 16, 17, 18, 19, 20, 9, 10, 11, 12, 13] [21] rfl rfl (by decide) (by decide) (fun u_9 H locs hw_11 hP hD hS => ?_)
      have hP : va_P D vwCl [(pl, .inr (6, [.int 4, .int 4, .int 10, .int 1, .int 3, .int 0, .int 0, .int 0, .ref pl0, .ref pl1, .ref pl2])), (h, .inr (10, [.ref ta, .ref pl, .ref sh, .ref tr, .ref fo, .ref li, .ref sp, .ref dr, .ref pa, .ref im, .ref fs, .ref ph, .ref cd, .int 0, .int 0]))] H := hP
      have hD : va_D A [(pl, .inr (6, [.int 4, .int 4, .int 10, .int 1, .int 3, .int 0, .int 0, .int 0, .ref pl0, .ref pl1, .ref pl2])), (h, .inr (10, [.ref ta, .ref pl, .ref sh, .ref tr, .ref fo, .ref li, .ref sp, .ref dr, .ref pa, .ref im, .ref fs, .ref ph, .ref cd, .int 0, .int 0]))] := hD
      refine lv_iload_n hx hb dX10_days_46 rfl (lv_at hl 0 rfl) ?_
      exact q_iret (rm := (Rm 4 122 0 0)) C hS () rfl (by have zt : (nI jn).toInt = jn := nI_toInt (by omega); show _ = if 1 ≤ (nI jn).toInt ∧ (nI jn).toInt ≤ 30 then (nI jn) else -1; repeat (first | rfl | rw [if_pos (by omega)] | rw [if_neg (by omega)])) (q_subP hP [] rfl) (hD.sub [] (by decide) rfl) (Nat.le_of_ble_eq_true rfl) (Nat.le_of_ble_eq_true rfl) dX10_days_47
    · refine lv_iconst (v := (-1)) hx hb dX10_days_11 (by decide) ?_
      exact q_iret (rm := (Rm 4 122 0 0)) C hS () rfl (by have z0 := (not_congr Int32.lt_iff_toInt_lt).mp c_1; have z1 := (not_congr Int32.le_iff_toInt_le).mp c_2; have e0 : (1 : Int32).toInt = 1 := (by decide); have e1 : (30 : Int32).toInt = 30 := (by decide); show _ = if 1 ≤ n.toInt ∧ n.toInt ≤ 30 then n else -1; repeat (first | rfl | rw [if_pos (by omega)] | rw [if_neg (by omega)])) (q_subP hP [] rfl) (hD.sub [] (by decide) rfl) (Nat.le_of_ble_eq_true rfl) (Nat.le_of_ble_eq_true rfl) dX10_days_12
set_option maxHeartbeats 4000000 in
set_option maxRecDepth 100000 in
theorem c_giveBack (l : Launch) (D : va_G) (cy : Nat → ClassId) (h : Nat) (o : Nat) (h0 : Nat) (sz : Nat)  : MI l yX4_giveBack cX4_giveBack 3 (some .boolean) (Rm 0 0 0 0) D cy [.ref h, .ref o] sz [(h, .inr (4, [.int 0, .int 0, .ref h0]))] (fun (r : Int32) (u : Unit) => r = 0) (fun u : Unit => [(h, .inr (4, [.int 0, .int 0, .ref h0]))]) := by
  refine MI.enter (by decide) (Nat.le_of_ble_eq_true rfl) ?_
  intro p e s m below meth c ls A hsz hAe C hP hD hS hl
  have C : Cx p s m _ meth c cX4_giveBack 3 (some .boolean) RX4 "giveBack" D cy A := C
  have hx := C.1
  have hb := C.2.1
  have hl : lv_has ls 3 [(0, .ref h), (1, .ref o)] := hl
  refine lv_aload_n hx hb dX4_giveBack_0 rfl (lv_at hl 0 rfl) ?_
  refine q_get (v := .int 0) C hP 0 1 rfl rfl inX4 (by decide) kF_RX4_15 rfl rfl dX4_giveBack_1 ?_
  refine lv_bipush (v := 8) hx hb dX4_giveBack_4 (by decide) ?_
  refine lv_iadd hx hb dX4_giveBack_6 ?_
  refine q_val (v := 8) (by decide) ?_
  refine lv_iconst (v := 1) hx hb dX4_giveBack_7 (by decide) ?_
  refine lv_isub hx hb dX4_giveBack_8 ?_
  refine q_val (v := 7) (by decide) ?_
  refine lv_bipush (v := 8) hx hb dX4_giveBack_9 (by decide) ?_
  refine lv_irem hx hb dX4_giveBack_11 (by decide) ?_
  refine q_val (v := 7) (by decide) ?_
  refine lv_istore_n (lv' := [(2, .int 7), (0, .ref h), (1, .ref o)]) hx hb dX4_giveBack_12 rfl hl (by decide) rfl (fun ls hl => ?_)
  refine lv_aload_n hx hb dX4_giveBack_13 rfl (lv_at hl 1 rfl) ?_
  refine q_get (v := .int 0) C hP 0 0 rfl rfl inX4 (by decide) kF_RX4_9 rfl rfl dX4_giveBack_14 ?_
  refine lv_if_eq (tgt := 33) hx hb dX4_giveBack_17 (by decide) (fun _ => ?_) (fun c_0 => absurd (by decide) c_0)
  refine lv_iconst (v := 0) hx hb dX4_giveBack_33 (by decide) ?_
  exact q_iret (rm := (Rm 0 0 0 0)) C hS () rfl rfl (q_subP hP [0] rfl) (hD.sub [0] (by decide) rfl) (Nat.le_of_ble_eq_true rfl) (Nat.le_of_ble_eq_true rfl) dX4_giveBack_34
set_option maxHeartbeats 4000000 in
set_option maxRecDepth 100000 in
theorem x_undo (l : Launch) (D : va_G) (cy : Nat → ClassId) (h : Nat) (ta : Nat) (pl : Nat) (sh : Nat) (tr : Nat) (fo : Nat) (li : Nat) (sp : Nat) (dr : Nat) (pa : Nat) (im : Nat) (fs : Nat) (ph : Nat) (cd : Nat) (pa0 : Nat) (sz : Nat)  : MI l yX10_undo cX10_undo 1 (some .int) (Rm 1 22 0 0) D cy [.ref h] sz [(h, .inr (10, [.ref ta, .ref pl, .ref sh, .ref tr, .ref fo, .ref li, .ref sp, .ref dr, .ref pa, .ref im, .ref fs, .ref ph, .ref cd, .int 0, .int 0])), (pa, .inr (4, [.int 0, .int 0, .ref pa0]))] (fun (r : Int32) (u : Unit) => r = (-1)) (fun u : Unit => []) := by
  refine MI.enter (by decide) (Nat.le_of_ble_eq_true rfl) ?_
  intro p e s m below meth c ls A hsz hAe C hP hD hS hl
  have C : Cx p s m _ meth c cX10_undo 1 (some .int) RX10 "undo" D cy A := C
  have hx := C.1
  have hb := C.2.1
  have hl : lv_has ls 1 [(0, .ref h)] := hl
  refine lv_aload_n hx hb dX10_undo_0 rfl (lv_at hl 0 rfl) ?_
  refine q_get (v := .ref pa) C hP 0 8 rfl rfl inX10 (by decide) kF_RX10_60 rfl rfl dX10_undo_1 ?_
  refine lv_aload_n hx hb dX10_undo_4 rfl (lv_at hl 0 rfl) ?_
  refine q_get (v := .ref sh) C hP 0 2 rfl rfl inX10 (by decide) kF_RX10_26 rfl rfl dX10_undo_5 ?_
  refine q_ai (wr := [(h, .inr (10, [.ref ta, .ref pl, .ref sh, .ref tr, .ref fo, .ref li, .ref sp, .ref dr, .ref pa, .ref im, .ref fs, .ref ph, .ref cd, .int 0, .int 0]))]) (r_V (q0 := 0) (As := [.ref sh]) (rest := []) (wc := [(pa, .inr (4, [.int 0, .int 0, .ref pa0]))]) C (q_subP hP [1] rfl) (hD.sub [1] (by decide) rfl) (c_giveBack l D cy pa sh pa0 _ ) kwV_X4_giveBack kM_RX10_297 rfl rfl ⟨Nat.le_of_ble_eq_true rfl, Nat.le_of_ble_eq_true rfl⟩ rfl hl.1 rfl (Nat.le_of_ble_eq_true rfl) dX10_undo_8 ⟨Nat.le_of_ble_eq_true rfl, Nat.le_of_ble_eq_true rfl⟩) C.2.2.2.2.2.2.1 hP hD hS [1] [0] rfl rfl (by decide) (by decide) (fun r_2 u_1 H locs hw_3 hP hD hS => ?_)
  have hP : va_P D vwCl [(h, .inr (10, [.ref ta, .ref pl, .ref sh, .ref tr, .ref fo, .ref li, .ref sp, .ref dr, .ref pa, .ref im, .ref fs, .ref ph, .ref cd, .int 0, .int 0])), (pa, .inr (4, [.int 0, .int 0, .ref pa0]))] H := hP
  have hD : va_D A [(h, .inr (10, [.ref ta, .ref pl, .ref sh, .ref tr, .ref fo, .ref li, .ref sp, .ref dr, .ref pa, .ref im, .ref fs, .ref ph, .ref cd, .int 0, .int 0])), (pa, .inr (4, [.int 0, .int 0, .ref pa0]))] := hD
  obtain rfl : r_2 = 0 := hw_3
  refine lv_if_eq (tgt := 24) hx hb dX10_undo_11 (by decide) (fun _ => ?_) (fun c_0 => absurd (by decide) c_0)
  refine lv_iconst (v := (-1)) hx hb dX10_undo_24 (by decide) ?_
  exact q_iret (rm := (Rm 1 22 0 0)) C hS () rfl rfl (q_subP hP [] rfl) (hD.sub [] (by decide) rfl) (Nat.le_of_ble_eq_true rfl) (Nat.le_of_ble_eq_true rfl) dX10_undo_25
set_option maxHeartbeats 4000000 in
set_option maxRecDepth 100000 in
theorem c_keepAll (l : Launch) (D : va_G) (cy : Nat → ClassId) (h : Nat) (o1 : Nat) (o2 : Nat) (o3 : Nat) (ip : Nat) (iq : Nat) (ir : Nat) (ip0 : Nat) (ip1 : Nat) (ip2 : Nat) (iq0 : Nat) (iq1 : Nat) (iq2 : Nat) (iq3 : Nat) (iq4 : Nat) (iq5 : Nat) (ir0 : Nat) (ir1 : Nat) (ir2 : Nat) (ir3 : Nat) (o10 : Nat) (o11 : Nat) (o12 : Nat) (o20 : Nat) (o21 : Nat) (o22 : Nat) (o23 : Nat) (o24 : Nat) (o25 : Nat) (o30 : Nat) (o31 : Nat) (o32 : Nat) (o33 : Nat) (sz : Nat)  : MV l yX2_keepAll cX2_keepAll 4 (Rm 2 81 0 0) D cy [.ref h, .ref o1, .ref o2, .ref o3] sz [(h, .inr (2, [.int 0, .ref ip, .ref iq, .ref ir])), (ip, .inr (6, [.int 4, .int 4, .int 10, .int 1, .int 3, .int 0, .int 0, .int 0, .ref ip0, .ref ip1, .ref ip2])), (ip0, .inl (cy 1, 8, .inl (fun _ => 0))), (ip1, .inl (cy 1, 8, .inl (fun _ => 0))), (ip2, .inl (cy 1, 56, .inl (fun _ => 0))), (iq, .inr (8, [.ref iq0, .ref iq1, .ref iq2, .ref iq3, .ref iq4, .int 0, .int 0, .ref iq5])), (iq0, .inl (cy 1, 8, .inl (fun _ => 0))), (iq1, .inl (cy 1, 8, .inl (fun _ => 0))), (iq2, .inl (cy 1, 8, .inl (fun _ => 0))), (iq3, .inl (cy 1, 8, .inl (fun _ => 0))), (iq4, .inl (cy 1, 64, .inl (fun _ => 0))), (ir, .inr (7, [.int 0, .int 0, .int 0, .ref ir0, .ref ir1, .ref ir2, .ref ir3])), (ir0, .inl (cy 1, 40, .inl (fun _ => 0))), (ir1, .inl (cy 1, 40, .inl (fun _ => 0))), (ir2, .inl (cy 1, 40, .inl (fun _ => 0))), (o1, .inr (6, [.int 4, .int 4, .int 10, .int 1, .int 3, .int 0, .int 0, .int 0, .ref o10, .ref o11, .ref o12])), (o10, .inl (cy 1, 8, .inl (fun _ => 0))), (o11, .inl (cy 1, 8, .inl (fun _ => 0))), (o12, .inl (cy 1, 56, .inl (fun _ => 0))), (o2, .inr (8, [.ref o20, .ref o21, .ref o22, .ref o23, .ref o24, .int 0, .int 0, .ref o25])), (o20, .inl (cy 1, 8, .inl (fun _ => 0))), (o21, .inl (cy 1, 8, .inl (fun _ => 0))), (o22, .inl (cy 1, 8, .inl (fun _ => 0))), (o23, .inl (cy 1, 8, .inl (fun _ => 0))), (o24, .inl (cy 1, 64, .inl (fun _ => 0))), (o3, .inr (7, [.int 0, .int 0, .int 0, .ref o30, .ref o31, .ref o32, .ref o33])), (o30, .inl (cy 1, 40, .inl (fun _ => 0))), (o31, .inl (cy 1, 40, .inl (fun _ => 0))), (o32, .inl (cy 1, 40, .inl (fun _ => 0)))] (fun _ : Unit => True) (fun u : Unit => []) := by
  refine MV.enter (by decide) (Nat.le_of_ble_eq_true rfl) ?_
  intro p e s m below meth c ls A hsz hAe C hP hD hS hl
  have C : Cx p s m _ meth c cX2_keepAll 4 none RX2 "keepAll" D cy A := C
  have hx := C.1
  have hb := C.2.1
  have hl : lv_has ls 4 [(0, .ref h), (1, .ref o1), (2, .ref o2), (3, .ref o3)] := hl
  refine lv_aload_n hx hb dX2_keepAll_0 rfl (lv_at hl 0 rfl) ?_
  refine q_get (v := .ref ip) C hP 0 1 rfl rfl inX2 (by decide) kF_RX2_16 rfl rfl dX2_keepAll_1 ?_
  refine lv_aload_n hx hb dX2_keepAll_4 rfl (lv_at hl 1 rfl) ?_
  refine q_av (wr := [(h, .inr (2, [.int 0, .ref ip, .ref iq, .ref ir])), (iq, .inr (8, [.ref iq0, .ref iq1, .ref iq2, .ref iq3, .ref iq4, .int 0, .int 0, .ref iq5])), (iq0, .inl (cy 1, 8, .inl (fun _ => 0))), (iq1, .inl (cy 1, 8, .inl (fun _ => 0))), (iq2, .inl (cy 1, 8, .inl (fun _ => 0))), (iq3, .inl (cy 1, 8, .inl (fun _ => 0))), (iq4, .inl (cy 1, 64, .inl (fun _ => 0))), (ir, .inr (7, [.int 0, .int 0, .int 0, .ref ir0, .ref ir1, .ref ir2, .ref ir3])), (ir0, .inl (cy 1, 40, .inl (fun _ => 0))), (ir1, .inl (cy 1, 40, .inl (fun _ => 0))), (ir2, .inl (cy 1, 40, .inl (fun _ => 0))), (o2, .inr (8, [.ref o20, .ref o21, .ref o22, .ref o23, .ref o24, .int 0, .int 0, .ref o25])), (o20, .inl (cy 1, 8, .inl (fun _ => 0))), (o21, .inl (cy 1, 8, .inl (fun _ => 0))), (o22, .inl (cy 1, 8, .inl (fun _ => 0))), (o23, .inl (cy 1, 8, .inl (fun _ => 0))), (o24, .inl (cy 1, 64, .inl (fun _ => 0))), (o3, .inr (7, [.int 0, .int 0, .int 0, .ref o30, .ref o31, .ref o32, .ref o33])), (o30, .inl (cy 1, 40, .inl (fun _ => 0))), (o31, .inl (cy 1, 40, .inl (fun _ => 0))), (o32, .inl (cy 1, 40, .inl (fun _ => 0)))]) (r_V (q0 := 0) (As := [.ref o1]) (rest := []) (wc := [(ip, .inr (6, [.int 4, .int 4, .int 10, .int 1, .int 3, .int 0, .int 0, .int 0, .ref ip0, .ref ip1, .ref ip2])), (ip0, .inl (cy 1, 8, .inl (fun _ => 0))), (ip1, .inl (cy 1, 8, .inl (fun _ => 0))), (ip2, .inl (cy 1, 56, .inl (fun _ => 0))), (o1, .inr (6, [.int 4, .int 4, .int 10, .int 1, .int 3, .int 0, .int 0, .int 0, .ref o10, .ref o11, .ref o12])), (o10, .inl (cy 1, 8, .inl (fun _ => 0))), (o11, .inl (cy 1, 8, .inl (fun _ => 0))), (o12, .inl (cy 1, 56, .inl (fun _ => 0)))]) C (q_subP hP [1, 2, 3, 4, 15, 16, 17, 18] rfl) (hD.sub [1, 2, 3, 4, 15, 16, 17, 18] (by decide) rfl) (c_Pcopy l D cy ip o1 ip0 ip1 ip2 o10 o11 o12 _ ) kwV_X6_copyFrom kM_RX2_34 rfl rfl ⟨Nat.le_of_ble_eq_true rfl, Nat.le_of_ble_eq_true rfl⟩ rfl hl.1 rfl (Nat.le_of_ble_eq_true rfl) dX2_keepAll_5 ⟨Nat.le_of_ble_eq_true rfl, Nat.le_of_ble_eq_true rfl⟩) C.2.2.2.2.2.2.1 hP hD hS [1, 2, 3, 4, 15, 16, 17, 18] [0, 5, 6, 7, 8, 9, 10, 11, 12, 13, 14, 19, 20, 21, 22, 23, 24, 25, 26, 27, 28] rfl rfl (by decide) (by decide) (fun u_1 H locs hw_3 hP hD hS => ?_)
  have hP : va_P D vwCl [(h, .inr (2, [.int 0, .ref ip, .ref iq, .ref ir])), (iq, .inr (8, [.ref iq0, .ref iq1, .ref iq2, .ref iq3, .ref iq4, .int 0, .int 0, .ref iq5])), (iq0, .inl (cy 1, 8, .inl (fun _ => 0))), (iq1, .inl (cy 1, 8, .inl (fun _ => 0))), (iq2, .inl (cy 1, 8, .inl (fun _ => 0))), (iq3, .inl (cy 1, 8, .inl (fun _ => 0))), (iq4, .inl (cy 1, 64, .inl (fun _ => 0))), (ir, .inr (7, [.int 0, .int 0, .int 0, .ref ir0, .ref ir1, .ref ir2, .ref ir3])), (ir0, .inl (cy 1, 40, .inl (fun _ => 0))), (ir1, .inl (cy 1, 40, .inl (fun _ => 0))), (ir2, .inl (cy 1, 40, .inl (fun _ => 0))), (o2, .inr (8, [.ref o20, .ref o21, .ref o22, .ref o23, .ref o24, .int 0, .int 0, .ref o25])), (o20, .inl (cy 1, 8, .inl (fun _ => 0))), (o21, .inl (cy 1, 8, .inl (fun _ => 0))), (o22, .inl (cy 1, 8, .inl (fun _ => 0))), (o23, .inl (cy 1, 8, .inl (fun _ => 0))), (o24, .inl (cy 1, 64, .inl (fun _ => 0))), (o3, .inr (7, [.int 0, .int 0, .int 0, .ref o30, .ref o31, .ref o32, .ref o33])), (o30, .inl (cy 1, 40, .inl (fun _ => 0))), (o31, .inl (cy 1, 40, .inl (fun _ => 0))), (o32, .inl (cy 1, 40, .inl (fun _ => 0))), (ip, .inr (6, [.int 4, .int 4, .int 10, .int 1, .int 3, .int 0, .int 0, .int 0, .ref ip0, .ref ip1, .ref ip2])), (ip0, .inl (cy 1, 8, .inl (fun _ => 0))), (ip1, .inl (cy 1, 8, .inl (fun _ => 0))), (ip2, .inl (cy 1, 56, .inl (fun _ => 0))), (o1, .inr (6, [.int 4, .int 4, .int 10, .int 1, .int 3, .int 0, .int 0, .int 0, .ref o10, .ref o11, .ref o12])), (o10, .inl (cy 1, 8, .inl (fun _ => 0))), (o11, .inl (cy 1, 8, .inl (fun _ => 0))), (o12, .inl (cy 1, 56, .inl (fun _ => 0)))] H := hP
  have hD : va_D A [(h, .inr (2, [.int 0, .ref ip, .ref iq, .ref ir])), (iq, .inr (8, [.ref iq0, .ref iq1, .ref iq2, .ref iq3, .ref iq4, .int 0, .int 0, .ref iq5])), (iq0, .inl (cy 1, 8, .inl (fun _ => 0))), (iq1, .inl (cy 1, 8, .inl (fun _ => 0))), (iq2, .inl (cy 1, 8, .inl (fun _ => 0))), (iq3, .inl (cy 1, 8, .inl (fun _ => 0))), (iq4, .inl (cy 1, 64, .inl (fun _ => 0))), (ir, .inr (7, [.int 0, .int 0, .int 0, .ref ir0, .ref ir1, .ref ir2, .ref ir3])), (ir0, .inl (cy 1, 40, .inl (fun _ => 0))), (ir1, .inl (cy 1, 40, .inl (fun _ => 0))), (ir2, .inl (cy 1, 40, .inl (fun _ => 0))), (o2, .inr (8, [.ref o20, .ref o21, .ref o22, .ref o23, .ref o24, .int 0, .int 0, .ref o25])), (o20, .inl (cy 1, 8, .inl (fun _ => 0))), (o21, .inl (cy 1, 8, .inl (fun _ => 0))), (o22, .inl (cy 1, 8, .inl (fun _ => 0))), (o23, .inl (cy 1, 8, .inl (fun _ => 0))), (o24, .inl (cy 1, 64, .inl (fun _ => 0))), (o3, .inr (7, [.int 0, .int 0, .int 0, .ref o30, .ref o31, .ref o32, .ref o33])), (o30, .inl (cy 1, 40, .inl (fun _ => 0))), (o31, .inl (cy 1, 40, .inl (fun _ => 0))), (o32, .inl (cy 1, 40, .inl (fun _ => 0))), (ip, .inr (6, [.int 4, .int 4, .int 10, .int 1, .int 3, .int 0, .int 0, .int 0, .ref ip0, .ref ip1, .ref ip2])), (ip0, .inl (cy 1, 8, .inl (fun _ => 0))), (ip1, .inl (cy 1, 8, .inl (fun _ => 0))), (ip2, .inl (cy 1, 56, .inl (fun _ => 0))), (o1, .inr (6, [.int 4, .int 4, .int 10, .int 1, .int 3, .int 0, .int 0, .int 0, .ref o10, .ref o11, .ref o12])), (o10, .inl (cy 1, 8, .inl (fun _ => 0))), (o11, .inl (cy 1, 8, .inl (fun _ => 0))), (o12, .inl (cy 1, 56, .inl (fun _ => 0)))] := hD
  refine lv_aload_n hx hb dX2_keepAll_8 rfl (lv_at hl 0 rfl) ?_
  refine q_get (v := .ref iq) C hP 0 2 rfl rfl inX2 (by decide) kF_RX2_23 rfl rfl dX2_keepAll_9 ?_
  refine lv_aload_n hx hb dX2_keepAll_12 rfl (lv_at hl 2 rfl) ?_
  refine q_av (wr := [(h, .inr (2, [.int 0, .ref ip, .ref iq, .ref ir])), (ir, .inr (7, [.int 0, .int 0, .int 0, .ref ir0, .ref ir1, .ref ir2, .ref ir3])), (ir0, .inl (cy 1, 40, .inl (fun _ => 0))), (ir1, .inl (cy 1, 40, .inl (fun _ => 0))), (ir2, .inl (cy 1, 40, .inl (fun _ => 0))), (o3, .inr (7, [.int 0, .int 0, .int 0, .ref o30, .ref o31, .ref o32, .ref o33])), (o30, .inl (cy 1, 40, .inl (fun _ => 0))), (o31, .inl (cy 1, 40, .inl (fun _ => 0))), (o32, .inl (cy 1, 40, .inl (fun _ => 0))), (ip, .inr (6, [.int 4, .int 4, .int 10, .int 1, .int 3, .int 0, .int 0, .int 0, .ref ip0, .ref ip1, .ref ip2])), (ip0, .inl (cy 1, 8, .inl (fun _ => 0))), (ip1, .inl (cy 1, 8, .inl (fun _ => 0))), (ip2, .inl (cy 1, 56, .inl (fun _ => 0))), (o1, .inr (6, [.int 4, .int 4, .int 10, .int 1, .int 3, .int 0, .int 0, .int 0, .ref o10, .ref o11, .ref o12])), (o10, .inl (cy 1, 8, .inl (fun _ => 0))), (o11, .inl (cy 1, 8, .inl (fun _ => 0))), (o12, .inl (cy 1, 56, .inl (fun _ => 0)))]) (r_V (q0 := 0) (As := [.ref o2]) (rest := []) (wc := [(iq, .inr (8, [.ref iq0, .ref iq1, .ref iq2, .ref iq3, .ref iq4, .int 0, .int 0, .ref iq5])), (iq0, .inl (cy 1, 8, .inl (fun _ => 0))), (iq1, .inl (cy 1, 8, .inl (fun _ => 0))), (iq2, .inl (cy 1, 8, .inl (fun _ => 0))), (iq3, .inl (cy 1, 8, .inl (fun _ => 0))), (iq4, .inl (cy 1, 64, .inl (fun _ => 0))), (o2, .inr (8, [.ref o20, .ref o21, .ref o22, .ref o23, .ref o24, .int 0, .int 0, .ref o25])), (o20, .inl (cy 1, 8, .inl (fun _ => 0))), (o21, .inl (cy 1, 8, .inl (fun _ => 0))), (o22, .inl (cy 1, 8, .inl (fun _ => 0))), (o23, .inl (cy 1, 8, .inl (fun _ => 0))), (o24, .inl (cy 1, 64, .inl (fun _ => 0)))]) C (q_subP hP [1, 2, 3, 4, 5, 6, 11, 12, 13, 14, 15, 16] rfl) (hD.sub [1, 2, 3, 4, 5, 6, 11, 12, 13, 14, 15, 16] (by decide) rfl) (c_Scopy l D cy iq o2 iq0 iq1 iq2 iq3 iq4 0 0 iq5 o20 o21 o22 o23 o24 0 0 o25 _ ) kwV_X8_copyFrom kM_RX2_38 rfl rfl ⟨Nat.le_of_ble_eq_true rfl, Nat.le_of_ble_eq_true rfl⟩ rfl hl.1 rfl (Nat.le_of_ble_eq_true rfl) dX2_keepAll_13 ⟨Nat.le_of_ble_eq_true rfl, Nat.le_of_ble_eq_true rfl⟩) C.2.2.2.2.2.2.1 hP hD hS [1, 2, 3, 4, 5, 6, 11, 12, 13, 14, 15, 16] [0, 7, 8, 9, 10, 17, 18, 19, 20, 21, 22, 23, 24, 25, 26, 27, 28] rfl rfl (by decide) (by decide) (fun u_4 H locs hw_6 hP hD hS => ?_)
  have hP : va_P D vwCl [(h, .inr (2, [.int 0, .ref ip, .ref iq, .ref ir])), (ir, .inr (7, [.int 0, .int 0, .int 0, .ref ir0, .ref ir1, .ref ir2, .ref ir3])), (ir0, .inl (cy 1, 40, .inl (fun _ => 0))), (ir1, .inl (cy 1, 40, .inl (fun _ => 0))), (ir2, .inl (cy 1, 40, .inl (fun _ => 0))), (o3, .inr (7, [.int 0, .int 0, .int 0, .ref o30, .ref o31, .ref o32, .ref o33])), (o30, .inl (cy 1, 40, .inl (fun _ => 0))), (o31, .inl (cy 1, 40, .inl (fun _ => 0))), (o32, .inl (cy 1, 40, .inl (fun _ => 0))), (ip, .inr (6, [.int 4, .int 4, .int 10, .int 1, .int 3, .int 0, .int 0, .int 0, .ref ip0, .ref ip1, .ref ip2])), (ip0, .inl (cy 1, 8, .inl (fun _ => 0))), (ip1, .inl (cy 1, 8, .inl (fun _ => 0))), (ip2, .inl (cy 1, 56, .inl (fun _ => 0))), (o1, .inr (6, [.int 4, .int 4, .int 10, .int 1, .int 3, .int 0, .int 0, .int 0, .ref o10, .ref o11, .ref o12])), (o10, .inl (cy 1, 8, .inl (fun _ => 0))), (o11, .inl (cy 1, 8, .inl (fun _ => 0))), (o12, .inl (cy 1, 56, .inl (fun _ => 0))), (iq, .inr (8, [.ref iq0, .ref iq1, .ref iq2, .ref iq3, .ref iq4, .int 0, .int 0, .ref iq5])), (iq0, .inl (cy 1, 8, .inl (fun _ => 0))), (iq1, .inl (cy 1, 8, .inl (fun _ => 0))), (iq2, .inl (cy 1, 8, .inl (fun _ => 0))), (iq3, .inl (cy 1, 8, .inl (fun _ => 0))), (iq4, .inl (cy 1, 64, .inl (fun _ => 0))), (o2, .inr (8, [.ref o20, .ref o21, .ref o22, .ref o23, .ref o24, .int 0, .int 0, .ref o25])), (o20, .inl (cy 1, 8, .inl (fun _ => 0))), (o21, .inl (cy 1, 8, .inl (fun _ => 0))), (o22, .inl (cy 1, 8, .inl (fun _ => 0))), (o23, .inl (cy 1, 8, .inl (fun _ => 0))), (o24, .inl (cy 1, 64, .inl (fun _ => 0)))] H := hP
  have hD : va_D A [(h, .inr (2, [.int 0, .ref ip, .ref iq, .ref ir])), (ir, .inr (7, [.int 0, .int 0, .int 0, .ref ir0, .ref ir1, .ref ir2, .ref ir3])), (ir0, .inl (cy 1, 40, .inl (fun _ => 0))), (ir1, .inl (cy 1, 40, .inl (fun _ => 0))), (ir2, .inl (cy 1, 40, .inl (fun _ => 0))), (o3, .inr (7, [.int 0, .int 0, .int 0, .ref o30, .ref o31, .ref o32, .ref o33])), (o30, .inl (cy 1, 40, .inl (fun _ => 0))), (o31, .inl (cy 1, 40, .inl (fun _ => 0))), (o32, .inl (cy 1, 40, .inl (fun _ => 0))), (ip, .inr (6, [.int 4, .int 4, .int 10, .int 1, .int 3, .int 0, .int 0, .int 0, .ref ip0, .ref ip1, .ref ip2])), (ip0, .inl (cy 1, 8, .inl (fun _ => 0))), (ip1, .inl (cy 1, 8, .inl (fun _ => 0))), (ip2, .inl (cy 1, 56, .inl (fun _ => 0))), (o1, .inr (6, [.int 4, .int 4, .int 10, .int 1, .int 3, .int 0, .int 0, .int 0, .ref o10, .ref o11, .ref o12])), (o10, .inl (cy 1, 8, .inl (fun _ => 0))), (o11, .inl (cy 1, 8, .inl (fun _ => 0))), (o12, .inl (cy 1, 56, .inl (fun _ => 0))), (iq, .inr (8, [.ref iq0, .ref iq1, .ref iq2, .ref iq3, .ref iq4, .int 0, .int 0, .ref iq5])), (iq0, .inl (cy 1, 8, .inl (fun _ => 0))), (iq1, .inl (cy 1, 8, .inl (fun _ => 0))), (iq2, .inl (cy 1, 8, .inl (fun _ => 0))), (iq3, .inl (cy 1, 8, .inl (fun _ => 0))), (iq4, .inl (cy 1, 64, .inl (fun _ => 0))), (o2, .inr (8, [.ref o20, .ref o21, .ref o22, .ref o23, .ref o24, .int 0, .int 0, .ref o25])), (o20, .inl (cy 1, 8, .inl (fun _ => 0))), (o21, .inl (cy 1, 8, .inl (fun _ => 0))), (o22, .inl (cy 1, 8, .inl (fun _ => 0))), (o23, .inl (cy 1, 8, .inl (fun _ => 0))), (o24, .inl (cy 1, 64, .inl (fun _ => 0)))] := hD
  refine lv_aload_n hx hb dX2_keepAll_16 rfl (lv_at hl 0 rfl) ?_
  refine q_get (v := .ref ir) C hP 0 3 rfl rfl inX2 (by decide) kF_RX2_30 rfl rfl dX2_keepAll_17 ?_
  refine lv_aload_n hx hb dX2_keepAll_20 rfl (lv_at hl 3 rfl) ?_
  refine q_av (wr := [(h, .inr (2, [.int 0, .ref ip, .ref iq, .ref ir])), (ip, .inr (6, [.int 4, .int 4, .int 10, .int 1, .int 3, .int 0, .int 0, .int 0, .ref ip0, .ref ip1, .ref ip2])), (ip0, .inl (cy 1, 8, .inl (fun _ => 0))), (ip1, .inl (cy 1, 8, .inl (fun _ => 0))), (ip2, .inl (cy 1, 56, .inl (fun _ => 0))), (o1, .inr (6, [.int 4, .int 4, .int 10, .int 1, .int 3, .int 0, .int 0, .int 0, .ref o10, .ref o11, .ref o12])), (o10, .inl (cy 1, 8, .inl (fun _ => 0))), (o11, .inl (cy 1, 8, .inl (fun _ => 0))), (o12, .inl (cy 1, 56, .inl (fun _ => 0))), (iq, .inr (8, [.ref iq0, .ref iq1, .ref iq2, .ref iq3, .ref iq4, .int 0, .int 0, .ref iq5])), (iq0, .inl (cy 1, 8, .inl (fun _ => 0))), (iq1, .inl (cy 1, 8, .inl (fun _ => 0))), (iq2, .inl (cy 1, 8, .inl (fun _ => 0))), (iq3, .inl (cy 1, 8, .inl (fun _ => 0))), (iq4, .inl (cy 1, 64, .inl (fun _ => 0))), (o2, .inr (8, [.ref o20, .ref o21, .ref o22, .ref o23, .ref o24, .int 0, .int 0, .ref o25])), (o20, .inl (cy 1, 8, .inl (fun _ => 0))), (o21, .inl (cy 1, 8, .inl (fun _ => 0))), (o22, .inl (cy 1, 8, .inl (fun _ => 0))), (o23, .inl (cy 1, 8, .inl (fun _ => 0))), (o24, .inl (cy 1, 64, .inl (fun _ => 0)))]) (r_V (q0 := 0) (As := [.ref o3]) (rest := []) (wc := [(ir, .inr (7, [.int 0, .int 0, .int 0, .ref ir0, .ref ir1, .ref ir2, .ref ir3])), (ir0, .inl (cy 1, 40, .inl (fun _ => 0))), (ir1, .inl (cy 1, 40, .inl (fun _ => 0))), (ir2, .inl (cy 1, 40, .inl (fun _ => 0))), (o3, .inr (7, [.int 0, .int 0, .int 0, .ref o30, .ref o31, .ref o32, .ref o33])), (o30, .inl (cy 1, 40, .inl (fun _ => 0))), (o31, .inl (cy 1, 40, .inl (fun _ => 0))), (o32, .inl (cy 1, 40, .inl (fun _ => 0)))]) C (q_subP hP [1, 2, 3, 4, 5, 6, 7, 8] rfl) (hD.sub [1, 2, 3, 4, 5, 6, 7, 8] (by decide) rfl) (c_Tcopy l D cy ir o3 ir0 ir1 ir2 ir3 o30 o31 o32 o33 _ ) kwV_X7_copyFrom kM_RX2_41 rfl rfl ⟨Nat.le_of_ble_eq_true rfl, Nat.le_of_ble_eq_true rfl⟩ rfl hl.1 rfl (Nat.le_of_ble_eq_true rfl) dX2_keepAll_21 ⟨Nat.le_of_ble_eq_true rfl, Nat.le_of_ble_eq_true rfl⟩) C.2.2.2.2.2.2.1 hP hD hS [1, 2, 3, 4, 5, 6, 7, 8] [0, 9, 10, 11, 12, 13, 14, 15, 16, 17, 18, 19, 20, 21, 22, 23, 24, 25, 26, 27, 28] rfl rfl (by decide) (by decide) (fun u_7 H locs hw_9 hP hD hS => ?_)
  have hP : va_P D vwCl [(h, .inr (2, [.int 0, .ref ip, .ref iq, .ref ir])), (ip, .inr (6, [.int 4, .int 4, .int 10, .int 1, .int 3, .int 0, .int 0, .int 0, .ref ip0, .ref ip1, .ref ip2])), (ip0, .inl (cy 1, 8, .inl (fun _ => 0))), (ip1, .inl (cy 1, 8, .inl (fun _ => 0))), (ip2, .inl (cy 1, 56, .inl (fun _ => 0))), (o1, .inr (6, [.int 4, .int 4, .int 10, .int 1, .int 3, .int 0, .int 0, .int 0, .ref o10, .ref o11, .ref o12])), (o10, .inl (cy 1, 8, .inl (fun _ => 0))), (o11, .inl (cy 1, 8, .inl (fun _ => 0))), (o12, .inl (cy 1, 56, .inl (fun _ => 0))), (iq, .inr (8, [.ref iq0, .ref iq1, .ref iq2, .ref iq3, .ref iq4, .int 0, .int 0, .ref iq5])), (iq0, .inl (cy 1, 8, .inl (fun _ => 0))), (iq1, .inl (cy 1, 8, .inl (fun _ => 0))), (iq2, .inl (cy 1, 8, .inl (fun _ => 0))), (iq3, .inl (cy 1, 8, .inl (fun _ => 0))), (iq4, .inl (cy 1, 64, .inl (fun _ => 0))), (o2, .inr (8, [.ref o20, .ref o21, .ref o22, .ref o23, .ref o24, .int 0, .int 0, .ref o25])), (o20, .inl (cy 1, 8, .inl (fun _ => 0))), (o21, .inl (cy 1, 8, .inl (fun _ => 0))), (o22, .inl (cy 1, 8, .inl (fun _ => 0))), (o23, .inl (cy 1, 8, .inl (fun _ => 0))), (o24, .inl (cy 1, 64, .inl (fun _ => 0))), (ir, .inr (7, [.int 0, .int 0, .int 0, .ref ir0, .ref ir1, .ref ir2, .ref ir3])), (ir0, .inl (cy 1, 40, .inl (fun _ => 0))), (ir1, .inl (cy 1, 40, .inl (fun _ => 0))), (ir2, .inl (cy 1, 40, .inl (fun _ => 0))), (o3, .inr (7, [.int 0, .int 0, .int 0, .ref o30, .ref o31, .ref o32, .ref o33])), (o30, .inl (cy 1, 40, .inl (fun _ => 0))), (o31, .inl (cy 1, 40, .inl (fun _ => 0))), (o32, .inl (cy 1, 40, .inl (fun _ => 0)))] H := hP
  have hD : va_D A [(h, .inr (2, [.int 0, .ref ip, .ref iq, .ref ir])), (ip, .inr (6, [.int 4, .int 4, .int 10, .int 1, .int 3, .int 0, .int 0, .int 0, .ref ip0, .ref ip1, .ref ip2])), (ip0, .inl (cy 1, 8, .inl (fun _ => 0))), (ip1, .inl (cy 1, 8, .inl (fun _ => 0))), (ip2, .inl (cy 1, 56, .inl (fun _ => 0))), (o1, .inr (6, [.int 4, .int 4, .int 10, .int 1, .int 3, .int 0, .int 0, .int 0, .ref o10, .ref o11, .ref o12])), (o10, .inl (cy 1, 8, .inl (fun _ => 0))), (o11, .inl (cy 1, 8, .inl (fun _ => 0))), (o12, .inl (cy 1, 56, .inl (fun _ => 0))), (iq, .inr (8, [.ref iq0, .ref iq1, .ref iq2, .ref iq3, .ref iq4, .int 0, .int 0, .ref iq5])), (iq0, .inl (cy 1, 8, .inl (fun _ => 0))), (iq1, .inl (cy 1, 8, .inl (fun _ => 0))), (iq2, .inl (cy 1, 8, .inl (fun _ => 0))), (iq3, .inl (cy 1, 8, .inl (fun _ => 0))), (iq4, .inl (cy 1, 64, .inl (fun _ => 0))), (o2, .inr (8, [.ref o20, .ref o21, .ref o22, .ref o23, .ref o24, .int 0, .int 0, .ref o25])), (o20, .inl (cy 1, 8, .inl (fun _ => 0))), (o21, .inl (cy 1, 8, .inl (fun _ => 0))), (o22, .inl (cy 1, 8, .inl (fun _ => 0))), (o23, .inl (cy 1, 8, .inl (fun _ => 0))), (o24, .inl (cy 1, 64, .inl (fun _ => 0))), (ir, .inr (7, [.int 0, .int 0, .int 0, .ref ir0, .ref ir1, .ref ir2, .ref ir3])), (ir0, .inl (cy 1, 40, .inl (fun _ => 0))), (ir1, .inl (cy 1, 40, .inl (fun _ => 0))), (ir2, .inl (cy 1, 40, .inl (fun _ => 0))), (o3, .inr (7, [.int 0, .int 0, .int 0, .ref o30, .ref o31, .ref o32, .ref o33])), (o30, .inl (cy 1, 40, .inl (fun _ => 0))), (o31, .inl (cy 1, 40, .inl (fun _ => 0))), (o32, .inl (cy 1, 40, .inl (fun _ => 0)))] := hD
  refine lv_aload_n hx hb dX2_keepAll_24 rfl (lv_at hl 0 rfl) ?_
  refine lv_iconst (v := 1) hx hb dX2_keepAll_25 (by decide) ?_
  refine q_put (v := .int 1) (w' := [(h, .inr (2, [.int 1, .ref ip, .ref iq, .ref ir])), (ip, .inr (6, [.int 4, .int 4, .int 10, .int 1, .int 3, .int 0, .int 0, .int 0, .ref ip0, .ref ip1, .ref ip2])), (ip0, .inl (cy 1, 8, .inl (fun _ => 0))), (ip1, .inl (cy 1, 8, .inl (fun _ => 0))), (ip2, .inl (cy 1, 56, .inl (fun _ => 0))), (o1, .inr (6, [.int 4, .int 4, .int 10, .int 1, .int 3, .int 0, .int 0, .int 0, .ref o10, .ref o11, .ref o12])), (o10, .inl (cy 1, 8, .inl (fun _ => 0))), (o11, .inl (cy 1, 8, .inl (fun _ => 0))), (o12, .inl (cy 1, 56, .inl (fun _ => 0))), (iq, .inr (8, [.ref iq0, .ref iq1, .ref iq2, .ref iq3, .ref iq4, .int 0, .int 0, .ref iq5])), (iq0, .inl (cy 1, 8, .inl (fun _ => 0))), (iq1, .inl (cy 1, 8, .inl (fun _ => 0))), (iq2, .inl (cy 1, 8, .inl (fun _ => 0))), (iq3, .inl (cy 1, 8, .inl (fun _ => 0))), (iq4, .inl (cy 1, 64, .inl (fun _ => 0))), (o2, .inr (8, [.ref o20, .ref o21, .ref o22, .ref o23, .ref o24, .int 0, .int 0, .ref o25])), (o20, .inl (cy 1, 8, .inl (fun _ => 0))), (o21, .inl (cy 1, 8, .inl (fun _ => 0))), (o22, .inl (cy 1, 8, .inl (fun _ => 0))), (o23, .inl (cy 1, 8, .inl (fun _ => 0))), (o24, .inl (cy 1, 64, .inl (fun _ => 0))), (ir, .inr (7, [.int 0, .int 0, .int 0, .ref ir0, .ref ir1, .ref ir2, .ref ir3])), (ir0, .inl (cy 1, 40, .inl (fun _ => 0))), (ir1, .inl (cy 1, 40, .inl (fun _ => 0))), (ir2, .inl (cy 1, 40, .inl (fun _ => 0))), (o3, .inr (7, [.int 0, .int 0, .int 0, .ref o30, .ref o31, .ref o32, .ref o33])), (o30, .inl (cy 1, 40, .inl (fun _ => 0))), (o31, .inl (cy 1, 40, .inl (fun _ => 0))), (o32, .inl (cy 1, 40, .inl (fun _ => 0)))]) (ty := .boolean) C hP hD hS 0 0 rfl rfl inX2 tyX2 tyX2_ok nmX2 (by decide) kF_RX2_7 rfl rfl rfl rfl rfl (Nat.le_of_ble_eq_true rfl) rfl dX2_keepAll_26 (fun H locs hP hD hS => ?_)
  exact q_vret (rm := (Rm 2 81 0 0)) C hS () trivial (q_subP hP [] rfl) (hD.sub [] (by decide) rfl) (Nat.le_of_ble_eq_true rfl) (Nat.le_of_ble_eq_true rfl) dX2_keepAll_29
set_option maxHeartbeats 4000000 in
set_option maxRecDepth 100000 in
theorem x_image (l : Launch) (D : va_G) (cy : Nat → ClassId) (h : Nat) (n : Int32) (ta : Nat) (pl : Nat) (sh : Nat) (tr : Nat) (fo : Nat) (li : Nat) (sp : Nat) (dr : Nat) (pa : Nat) (im : Nat) (fs : Nat) (ph : Nat) (cd : Nat) (kg : Nat → Option Nat) (ii0 : Nat) (ip0 : Nat) (iq0 : Nat) (ir0 : Nat) (ip00 : Nat) (ip01 : Nat) (ip02 : Nat) (iq00 : Nat) (iq01 : Nat) (iq02 : Nat) (iq03 : Nat) (iq04 : Nat) (iq05 : Nat) (ir00 : Nat) (ir01 : Nat) (ir02 : Nat) (ir03 : Nat) (ii1 : Nat) (ip1 : Nat) (iq1 : Nat) (ir1 : Nat) (ip10 : Nat) (ip11 : Nat) (ip12 : Nat) (iq10 : Nat) (iq11 : Nat) (iq12 : Nat) (iq13 : Nat) (iq14 : Nat) (iq15 : Nat) (ir10 : Nat) (ir11 : Nat) (ir12 : Nat) (ir13 : Nat) (pl0 : Nat) (pl1 : Nat) (pl2 : Nat) (sh0 : Nat) (sh1 : Nat) (sh2 : Nat) (sh3 : Nat) (sh4 : Nat) (sh5 : Nat) (sp0 : Nat) (sp1 : Nat) (sp2 : Nat) (sp3 : Nat) (sz : Nat) (hg0 : kg 0 = some ii0) (hg1 : kg 1 = some ii1) : MI l yX10_image cX10_image 2 (some .boolean) (Rm 3 104 0 0) D cy [.ref h, .int n] sz [(h, .inr (10, [.ref ta, .ref pl, .ref sh, .ref tr, .ref fo, .ref li, .ref sp, .ref dr, .ref pa, .ref im, .ref fs, .ref ph, .ref cd, .int 0, .int 0])), (im, .inl (cy 4, 2, .inr (.inr (.inr (.inr kg))))), (ii0, .inr (2, [.int 0, .ref ip0, .ref iq0, .ref ir0])), (ip0, .inr (6, [.int 4, .int 4, .int 10, .int 1, .int 3, .int 0, .int 0, .int 0, .ref ip00, .ref ip01, .ref ip02])), (ip00, .inl (cy 1, 8, .inl (fun _ => 0))), (ip01, .inl (cy 1, 8, .inl (fun _ => 0))), (ip02, .inl (cy 1, 56, .inl (fun _ => 0))), (iq0, .inr (8, [.ref iq00, .ref iq01, .ref iq02, .ref iq03, .ref iq04, .int 0, .int 0, .ref iq05])), (iq00, .inl (cy 1, 8, .inl (fun _ => 0))), (iq01, .inl (cy 1, 8, .inl (fun _ => 0))), (iq02, .inl (cy 1, 8, .inl (fun _ => 0))), (iq03, .inl (cy 1, 8, .inl (fun _ => 0))), (iq04, .inl (cy 1, 64, .inl (fun _ => 0))), (ir0, .inr (7, [.int 0, .int 0, .int 0, .ref ir00, .ref ir01, .ref ir02, .ref ir03])), (ir00, .inl (cy 1, 40, .inl (fun _ => 0))), (ir01, .inl (cy 1, 40, .inl (fun _ => 0))), (ir02, .inl (cy 1, 40, .inl (fun _ => 0))), (ii1, .inr (2, [.int 0, .ref ip1, .ref iq1, .ref ir1])), (ip1, .inr (6, [.int 4, .int 4, .int 10, .int 1, .int 3, .int 0, .int 0, .int 0, .ref ip10, .ref ip11, .ref ip12])), (ip10, .inl (cy 1, 8, .inl (fun _ => 0))), (ip11, .inl (cy 1, 8, .inl (fun _ => 0))), (ip12, .inl (cy 1, 56, .inl (fun _ => 0))), (iq1, .inr (8, [.ref iq10, .ref iq11, .ref iq12, .ref iq13, .ref iq14, .int 0, .int 0, .ref iq15])), (iq10, .inl (cy 1, 8, .inl (fun _ => 0))), (iq11, .inl (cy 1, 8, .inl (fun _ => 0))), (iq12, .inl (cy 1, 8, .inl (fun _ => 0))), (iq13, .inl (cy 1, 8, .inl (fun _ => 0))), (iq14, .inl (cy 1, 64, .inl (fun _ => 0))), (ir1, .inr (7, [.int 0, .int 0, .int 0, .ref ir10, .ref ir11, .ref ir12, .ref ir13])), (ir10, .inl (cy 1, 40, .inl (fun _ => 0))), (ir11, .inl (cy 1, 40, .inl (fun _ => 0))), (ir12, .inl (cy 1, 40, .inl (fun _ => 0))), (pl, .inr (6, [.int 4, .int 4, .int 10, .int 1, .int 3, .int 0, .int 0, .int 0, .ref pl0, .ref pl1, .ref pl2])), (pl0, .inl (cy 1, 8, .inl (fun _ => 0))), (pl1, .inl (cy 1, 8, .inl (fun _ => 0))), (pl2, .inl (cy 1, 56, .inl (fun _ => 0))), (sh, .inr (8, [.ref sh0, .ref sh1, .ref sh2, .ref sh3, .ref sh4, .int 0, .int 0, .ref sh5])), (sh0, .inl (cy 1, 8, .inl (fun _ => 0))), (sh1, .inl (cy 1, 8, .inl (fun _ => 0))), (sh2, .inl (cy 1, 8, .inl (fun _ => 0))), (sh3, .inl (cy 1, 8, .inl (fun _ => 0))), (sh4, .inl (cy 1, 64, .inl (fun _ => 0))), (sp, .inr (7, [.int 0, .int 0, .int 0, .ref sp0, .ref sp1, .ref sp2, .ref sp3])), (sp0, .inl (cy 1, 40, .inl (fun _ => 0))), (sp1, .inl (cy 1, 40, .inl (fun _ => 0))), (sp2, .inl (cy 1, 40, .inl (fun _ => 0)))] (fun (r : Int32) (u : Unit) => r = (rImage n)) (fun u : Unit => []) := by
  refine MI.enter (by decide) (Nat.le_of_ble_eq_true rfl) ?_
  intro p e s m below meth c ls A hsz hAe C hP hD hS hl
  have C : Cx p s m _ meth c cX10_image 2 (some .boolean) RX10 "image" D cy A := C
  have hx := C.1
  have hb := C.2.1
  have hl : lv_has ls 2 [(0, .ref h), (1, .int n)] := hl
  refine lv_iload_n hx hb dX10_image_0 rfl (lv_at hl 1 rfl) ?_
  refine lv_if_lt (tgt := 22) hx hb dX10_image_1 (by decide) (fun c_1 => ?_) (fun c_1 => ?_)
  · refine lv_iconst (v := 0) hx hb dX10_image_22 (by decide) ?_
    exact q_iret (rm := (Rm 3 104 0 0)) C hS () rfl (by have z0 := (Int32.lt_iff_toInt_lt).mp c_1; have e0 : (0 : Int32).toInt = 0 := (by decide); show _ = if 0 ≤ n.toInt ∧ n.toInt ≤ 1 then 1 else 0; repeat (first | rfl | rw [if_pos (by omega)] | rw [if_neg (by omega)])) (q_subP hP [] rfl) (hD.sub [] (by decide) rfl) (Nat.le_of_ble_eq_true rfl) (Nat.le_of_ble_eq_true rfl) dX10_image_23
  · refine lv_iload_n hx hb dX10_image_4 rfl (lv_at hl 1 rfl) ?_
    refine lv_aload_n hx hb dX10_image_5 rfl (lv_at hl 0 rfl) ?_
    refine q_get (v := .ref im) C hP 0 9 rfl rfl inX10 (by decide) kF_RX10_66 rfl rfl dX10_image_6 ?_
    refine q_alen (v := 2) C hP 1 4 rfl rfl rfl dX10_image_9 ?_
    refine lv_icmp_ge (tgt := 22) hx hb dX10_image_10 (by decide) (fun c_2 => ?_) (fun c_2 => ?_)
    · refine lv_iconst (v := 0) hx hb dX10_image_22 (by decide) ?_
      exact q_iret (rm := (Rm 3 104 0 0)) C hS () rfl (by have z0 := (not_congr Int32.lt_iff_toInt_lt).mp c_1; have z1 := (Int32.le_iff_toInt_le).mp c_2; have e0 : (0 : Int32).toInt = 0 := (by decide); have e1 : (2 : Int32).toInt = 2 := (by decide); show _ = if 0 ≤ n.toInt ∧ n.toInt ≤ 1 then 1 else 0; repeat (first | rfl | rw [if_pos (by omega)] | rw [if_neg (by omega)])) (q_subP hP [] rfl) (hD.sub [] (by decide) rfl) (Nat.le_of_ble_eq_true rfl) (Nat.le_of_ble_eq_true rfl) dX10_image_23
    · rcases sw_0_1 n with rfl | rfl | h9
      · refine lv_aload_n hx hb dX10_image_13 rfl (lv_at hl 0 rfl) ?_
        refine q_get (v := .ref im) C hP 0 9 rfl rfl inX10 (by decide) kF_RX10_66 rfl rfl dX10_image_14 ?_
        refine lv_iload_n hx hb dX10_image_17 rfl (lv_at hl 1 rfl) ?_
        refine q_aald (v := .ref ii0) C hP 1 4 rfl rfl (vin (by decide +kernel)) (by show va_rf (kg 0) = _; rw [hg0]; rfl) dX10_image_18 ?_
        refine lv_ifnonnull (tgt := 24) hx hb dX10_image_19 (by decide) ?_
        refine lv_aload_n hx hb dX10_image_24 rfl (lv_at hl 0 rfl) ?_
        refine q_get (v := .ref im) C hP 0 9 rfl rfl inX10 (by decide) kF_RX10_66 rfl rfl dX10_image_25 ?_
        refine lv_iload_n hx hb dX10_image_28 rfl (lv_at hl 1 rfl) ?_
        refine q_aald (v := .ref ii0) C hP 1 4 rfl rfl (vin (by decide +kernel)) (by show va_rf (kg 0) = _; rw [hg0]; rfl) dX10_image_29 ?_
        refine lv_aload_n hx hb dX10_image_30 rfl (lv_at hl 0 rfl) ?_
        refine q_get (v := .ref pl) C hP 0 1 rfl rfl inX10 (by decide) kF_RX10_19 rfl rfl dX10_image_31 ?_
        refine lv_aload_n hx hb dX10_image_34 rfl (lv_at hl 0 rfl) ?_
        refine q_get (v := .ref sh) C hP 0 2 rfl rfl inX10 (by decide) kF_RX10_26 rfl rfl dX10_image_35 ?_
        refine lv_aload_n hx hb dX10_image_38 rfl (lv_at hl 0 rfl) ?_
        refine q_get (v := .ref sp) C hP 0 6 rfl rfl inX10 (by decide) kF_RX10_50 rfl rfl dX10_image_39 ?_
        refine q_av (wr := [(h, .inr (10, [.ref ta, .ref pl, .ref sh, .ref tr, .ref fo, .ref li, .ref sp, .ref dr, .ref pa, .ref im, .ref fs, .ref ph, .ref cd, .int 0, .int 0])), (im, .inl (cy 4, 2, .inr (.inr (.inr (.inr kg))))), (ii1, .inr (2, [.int 0, .ref ip1, .ref iq1, .ref ir1])), (ip1, .inr (6, [.int 4, .int 4, .int 10, .int 1, .int 3, .int 0, .int 0, .int 0, .ref ip10, .ref ip11, .ref ip12])), (ip10, .inl (cy 1, 8, .inl (fun _ => 0))), (ip11, .inl (cy 1, 8, .inl (fun _ => 0))), (ip12, .inl (cy 1, 56, .inl (fun _ => 0))), (iq1, .inr (8, [.ref iq10, .ref iq11, .ref iq12, .ref iq13, .ref iq14, .int 0, .int 0, .ref iq15])), (iq10, .inl (cy 1, 8, .inl (fun _ => 0))), (iq11, .inl (cy 1, 8, .inl (fun _ => 0))), (iq12, .inl (cy 1, 8, .inl (fun _ => 0))), (iq13, .inl (cy 1, 8, .inl (fun _ => 0))), (iq14, .inl (cy 1, 64, .inl (fun _ => 0))), (ir1, .inr (7, [.int 0, .int 0, .int 0, .ref ir10, .ref ir11, .ref ir12, .ref ir13])), (ir10, .inl (cy 1, 40, .inl (fun _ => 0))), (ir11, .inl (cy 1, 40, .inl (fun _ => 0))), (ir12, .inl (cy 1, 40, .inl (fun _ => 0)))]) (r_V (q0 := 0) (As := [.ref pl, .ref sh, .ref sp]) (rest := []) (wc := [(ii0, .inr (2, [.int 0, .ref ip0, .ref iq0, .ref ir0])), (ip0, .inr (6, [.int 4, .int 4, .int 10, .int 1, .int 3, .int 0, .int 0, .int 0, .ref ip00, .ref ip01, .ref ip02])), (ip00, .inl (cy 1, 8, .inl (fun _ => 0))), (ip01, .inl (cy 1, 8, .inl (fun _ => 0))), (ip02, .inl (cy 1, 56, .inl (fun _ => 0))), (iq0, .inr (8, [.ref iq00, .ref iq01, .ref iq02, .ref iq03, .ref iq04, .int 0, .int 0, .ref iq05])), (iq00, .inl (cy 1, 8, .inl (fun _ => 0))), (iq01, .inl (cy 1, 8, .inl (fun _ => 0))), (iq02, .inl (cy 1, 8, .inl (fun _ => 0))), (iq03, .inl (cy 1, 8, .inl (fun _ => 0))), (iq04, .inl (cy 1, 64, .inl (fun _ => 0))), (ir0, .inr (7, [.int 0, .int 0, .int 0, .ref ir00, .ref ir01, .ref ir02, .ref ir03])), (ir00, .inl (cy 1, 40, .inl (fun _ => 0))), (ir01, .inl (cy 1, 40, .inl (fun _ => 0))), (ir02, .inl (cy 1, 40, .inl (fun _ => 0))), (pl, .inr (6, [.int 4, .int 4, .int 10, .int 1, .int 3, .int 0, .int 0, .int 0, .ref pl0, .ref pl1, .ref pl2])), (pl0, .inl (cy 1, 8, .inl (fun _ => 0))), (pl1, .inl (cy 1, 8, .inl (fun _ => 0))), (pl2, .inl (cy 1, 56, .inl (fun _ => 0))), (sh, .inr (8, [.ref sh0, .ref sh1, .ref sh2, .ref sh3, .ref sh4, .int 0, .int 0, .ref sh5])), (sh0, .inl (cy 1, 8, .inl (fun _ => 0))), (sh1, .inl (cy 1, 8, .inl (fun _ => 0))), (sh2, .inl (cy 1, 8, .inl (fun _ => 0))), (sh3, .inl (cy 1, 8, .inl (fun _ => 0))), (sh4, .inl (cy 1, 64, .inl (fun _ => 0))), (sp, .inr (7, [.int 0, .int 0, .int 0, .ref sp0, .ref sp1, .ref sp2, .ref sp3])), (sp0, .inl (cy 1, 40, .inl (fun _ => 0))), (sp1, .inl (cy 1, 40, .inl (fun _ => 0))), (sp2, .inl (cy 1, 40, .inl (fun _ => 0)))]) C (q_subP hP [2, 3, 4, 5, 6, 7, 8, 9, 10, 11, 12, 13, 14, 15, 16, 32, 33, 34, 35, 36, 37, 38, 39, 40, 41, 42, 43, 44, 45] rfl) (hD.sub [2, 3, 4, 5, 6, 7, 8, 9, 10, 11, 12, 13, 14, 15, 16, 32, 33, 34, 35, 36, 37, 38, 39, 40, 41, 42, 43, 44, 45] (by decide) rfl) (c_keepAll l D cy ii0 pl sh sp ip0 iq0 ir0 ip00 ip01 ip02 iq00 iq01 iq02 iq03 iq04 iq05 ir00 ir01 ir02 ir03 pl0 pl1 pl2 sh0 sh1 sh2 sh3 sh4 sh5 sp0 sp1 sp2 sp3 _ ) kwV_X2_keepAll kM_RX10_304 rfl rfl ⟨Nat.le_of_ble_eq_true rfl, Nat.le_of_ble_eq_true rfl⟩ rfl hl.1 rfl (Nat.le_of_ble_eq_true rfl) dX10_image_42 ⟨Nat.le_of_ble_eq_true rfl, Nat.le_of_ble_eq_true rfl⟩) C.2.2.2.2.2.2.1 hP hD hS [2, 3, 4, 5, 6, 7, 8, 9, 10, 11, 12, 13, 14, 15, 16, 32, 33, 34, 35, 36, 37, 38, 39, 40, 41, 42, 43, 44, 45] [0, 1, 17, 18, 19, 20, 21, 22, 23, 24, 25, 26, 27, 28, 29, 30, 31] rfl rfl (by decide) (by decide) (fun u_3 H locs hw_5 hP hD hS => ?_)
        have hP : va_P D vwCl [(h, .inr (10, [.ref ta, .ref pl, .ref sh, .ref tr, .ref fo, .ref li, .ref sp, .ref dr, .ref pa, .ref im, .ref fs, .ref ph, .ref cd, .int 0, .int 0])), (im, .inl (cy 4, 2, .inr (.inr (.inr (.inr kg))))), (ii1, .inr (2, [.int 0, .ref ip1, .ref iq1, .ref ir1])), (ip1, .inr (6, [.int 4, .int 4, .int 10, .int 1, .int 3, .int 0, .int 0, .int 0, .ref ip10, .ref ip11, .ref ip12])), (ip10, .inl (cy 1, 8, .inl (fun _ => 0))), (ip11, .inl (cy 1, 8, .inl (fun _ => 0))), (ip12, .inl (cy 1, 56, .inl (fun _ => 0))), (iq1, .inr (8, [.ref iq10, .ref iq11, .ref iq12, .ref iq13, .ref iq14, .int 0, .int 0, .ref iq15])), (iq10, .inl (cy 1, 8, .inl (fun _ => 0))), (iq11, .inl (cy 1, 8, .inl (fun _ => 0))), (iq12, .inl (cy 1, 8, .inl (fun _ => 0))), (iq13, .inl (cy 1, 8, .inl (fun _ => 0))), (iq14, .inl (cy 1, 64, .inl (fun _ => 0))), (ir1, .inr (7, [.int 0, .int 0, .int 0, .ref ir10, .ref ir11, .ref ir12, .ref ir13])), (ir10, .inl (cy 1, 40, .inl (fun _ => 0))), (ir11, .inl (cy 1, 40, .inl (fun _ => 0))), (ir12, .inl (cy 1, 40, .inl (fun _ => 0)))] H := hP
        have hD : va_D A [(h, .inr (10, [.ref ta, .ref pl, .ref sh, .ref tr, .ref fo, .ref li, .ref sp, .ref dr, .ref pa, .ref im, .ref fs, .ref ph, .ref cd, .int 0, .int 0])), (im, .inl (cy 4, 2, .inr (.inr (.inr (.inr kg))))), (ii1, .inr (2, [.int 0, .ref ip1, .ref iq1, .ref ir1])), (ip1, .inr (6, [.int 4, .int 4, .int 10, .int 1, .int 3, .int 0, .int 0, .int 0, .ref ip10, .ref ip11, .ref ip12])), (ip10, .inl (cy 1, 8, .inl (fun _ => 0))), (ip11, .inl (cy 1, 8, .inl (fun _ => 0))), (ip12, .inl (cy 1, 56, .inl (fun _ => 0))), (iq1, .inr (8, [.ref iq10, .ref iq11, .ref iq12, .ref iq13, .ref iq14, .int 0, .int 0, .ref iq15])), (iq10, .inl (cy 1, 8, .inl (fun _ => 0))), (iq11, .inl (cy 1, 8, .inl (fun _ => 0))), (iq12, .inl (cy 1, 8, .inl (fun _ => 0))), (iq13, .inl (cy 1, 8, .inl (fun _ => 0))), (iq14, .inl (cy 1, 64, .inl (fun _ => 0))), (ir1, .inr (7, [.int 0, .int 0, .int 0, .ref ir10, .ref ir11, .ref ir12, .ref ir13])), (ir10, .inl (cy 1, 40, .inl (fun _ => 0))), (ir11, .inl (cy 1, 40, .inl (fun _ => 0))), (ir12, .inl (cy 1, 40, .inl (fun _ => 0)))] := hD
        refine lv_iconst (v := 1) hx hb dX10_image_45 (by decide) ?_
        exact q_iret (rm := (Rm 3 104 0 0)) C hS () rfl (by show (1 : Int32) = (rImage (0 : Int32)); decide +kernel) (q_subP hP [] rfl) (hD.sub [] (by decide) rfl) (Nat.le_of_ble_eq_true rfl) (Nat.le_of_ble_eq_true rfl) dX10_image_46
      · refine lv_aload_n hx hb dX10_image_13 rfl (lv_at hl 0 rfl) ?_
        refine q_get (v := .ref im) C hP 0 9 rfl rfl inX10 (by decide) kF_RX10_66 rfl rfl dX10_image_14 ?_
        refine lv_iload_n hx hb dX10_image_17 rfl (lv_at hl 1 rfl) ?_
        refine q_aald (v := .ref ii1) C hP 1 4 rfl rfl (vin (by decide +kernel)) (by show va_rf (kg 1) = _; rw [hg1]; rfl) dX10_image_18 ?_
        refine lv_ifnonnull (tgt := 24) hx hb dX10_image_19 (by decide) ?_
        refine lv_aload_n hx hb dX10_image_24 rfl (lv_at hl 0 rfl) ?_
        refine q_get (v := .ref im) C hP 0 9 rfl rfl inX10 (by decide) kF_RX10_66 rfl rfl dX10_image_25 ?_
        refine lv_iload_n hx hb dX10_image_28 rfl (lv_at hl 1 rfl) ?_
        refine q_aald (v := .ref ii1) C hP 1 4 rfl rfl (vin (by decide +kernel)) (by show va_rf (kg 1) = _; rw [hg1]; rfl) dX10_image_29 ?_
        refine lv_aload_n hx hb dX10_image_30 rfl (lv_at hl 0 rfl) ?_
        refine q_get (v := .ref pl) C hP 0 1 rfl rfl inX10 (by decide) kF_RX10_19 rfl rfl dX10_image_31 ?_
        refine lv_aload_n hx hb dX10_image_34 rfl (lv_at hl 0 rfl) ?_
        refine q_get (v := .ref sh) C hP 0 2 rfl rfl inX10 (by decide) kF_RX10_26 rfl rfl dX10_image_35 ?_
        refine lv_aload_n hx hb dX10_image_38 rfl (lv_at hl 0 rfl) ?_
        refine q_get (v := .ref sp) C hP 0 6 rfl rfl inX10 (by decide) kF_RX10_50 rfl rfl dX10_image_39 ?_
        refine q_av (wr := [(h, .inr (10, [.ref ta, .ref pl, .ref sh, .ref tr, .ref fo, .ref li, .ref sp, .ref dr, .ref pa, .ref im, .ref fs, .ref ph, .ref cd, .int 0, .int 0])), (im, .inl (cy 4, 2, .inr (.inr (.inr (.inr kg))))), (ii0, .inr (2, [.int 0, .ref ip0, .ref iq0, .ref ir0])), (ip0, .inr (6, [.int 4, .int 4, .int 10, .int 1, .int 3, .int 0, .int 0, .int 0, .ref ip00, .ref ip01, .ref ip02])), (ip00, .inl (cy 1, 8, .inl (fun _ => 0))), (ip01, .inl (cy 1, 8, .inl (fun _ => 0))), (ip02, .inl (cy 1, 56, .inl (fun _ => 0))), (iq0, .inr (8, [.ref iq00, .ref iq01, .ref iq02, .ref iq03, .ref iq04, .int 0, .int 0, .ref iq05])), (iq00, .inl (cy 1, 8, .inl (fun _ => 0))), (iq01, .inl (cy 1, 8, .inl (fun _ => 0))), (iq02, .inl (cy 1, 8, .inl (fun _ => 0))), (iq03, .inl (cy 1, 8, .inl (fun _ => 0))), (iq04, .inl (cy 1, 64, .inl (fun _ => 0))), (ir0, .inr (7, [.int 0, .int 0, .int 0, .ref ir00, .ref ir01, .ref ir02, .ref ir03])), (ir00, .inl (cy 1, 40, .inl (fun _ => 0))), (ir01, .inl (cy 1, 40, .inl (fun _ => 0))), (ir02, .inl (cy 1, 40, .inl (fun _ => 0)))]) (r_V (q0 := 0) (As := [.ref pl, .ref sh, .ref sp]) (rest := []) (wc := [(ii1, .inr (2, [.int 0, .ref ip1, .ref iq1, .ref ir1])), (ip1, .inr (6, [.int 4, .int 4, .int 10, .int 1, .int 3, .int 0, .int 0, .int 0, .ref ip10, .ref ip11, .ref ip12])), (ip10, .inl (cy 1, 8, .inl (fun _ => 0))), (ip11, .inl (cy 1, 8, .inl (fun _ => 0))), (ip12, .inl (cy 1, 56, .inl (fun _ => 0))), (iq1, .inr (8, [.ref iq10, .ref iq11, .ref iq12, .ref iq13, .ref iq14, .int 0, .int 0, .ref iq15])), (iq10, .inl (cy 1, 8, .inl (fun _ => 0))), (iq11, .inl (cy 1, 8, .inl (fun _ => 0))), (iq12, .inl (cy 1, 8, .inl (fun _ => 0))), (iq13, .inl (cy 1, 8, .inl (fun _ => 0))), (iq14, .inl (cy 1, 64, .inl (fun _ => 0))), (ir1, .inr (7, [.int 0, .int 0, .int 0, .ref ir10, .ref ir11, .ref ir12, .ref ir13])), (ir10, .inl (cy 1, 40, .inl (fun _ => 0))), (ir11, .inl (cy 1, 40, .inl (fun _ => 0))), (ir12, .inl (cy 1, 40, .inl (fun _ => 0))), (pl, .inr (6, [.int 4, .int 4, .int 10, .int 1, .int 3, .int 0, .int 0, .int 0, .ref pl0, .ref pl1, .ref pl2])), (pl0, .inl (cy 1, 8, .inl (fun _ => 0))), (pl1, .inl (cy 1, 8, .inl (fun _ => 0))), (pl2, .inl (cy 1, 56, .inl (fun _ => 0))), (sh, .inr (8, [.ref sh0, .ref sh1, .ref sh2, .ref sh3, .ref sh4, .int 0, .int 0, .ref sh5])), (sh0, .inl (cy 1, 8, .inl (fun _ => 0))), (sh1, .inl (cy 1, 8, .inl (fun _ => 0))), (sh2, .inl (cy 1, 8, .inl (fun _ => 0))), (sh3, .inl (cy 1, 8, .inl (fun _ => 0))), (sh4, .inl (cy 1, 64, .inl (fun _ => 0))), (sp, .inr (7, [.int 0, .int 0, .int 0, .ref sp0, .ref sp1, .ref sp2, .ref sp3])), (sp0, .inl (cy 1, 40, .inl (fun _ => 0))), (sp1, .inl (cy 1, 40, .inl (fun _ => 0))), (sp2, .inl (cy 1, 40, .inl (fun _ => 0)))]) C (q_subP hP [17, 18, 19, 20, 21, 22, 23, 24, 25, 26, 27, 28, 29, 30, 31, 32, 33, 34, 35, 36, 37, 38, 39, 40, 41, 42, 43, 44, 45] rfl) (hD.sub [17, 18, 19, 20, 21, 22, 23, 24, 25, 26, 27, 28, 29, 30, 31, 32, 33, 34, 35, 36, 37, 38, 39, 40, 41, 42, 43, 44, 45] (by decide) rfl) (c_keepAll l D cy ii1 pl sh sp ip1 iq1 ir1 ip10 ip11 ip12 iq10 iq11 iq12 iq13 iq14 iq15 ir10 ir11 ir12 ir13 pl0 pl1 pl2 sh0 sh1 sh2 sh3 sh4 sh5 sp0 sp1 sp2 sp3 _ ) kwV_X2_keepAll kM_RX10_304 rfl rfl ⟨Nat.le_of_ble_eq_true rfl, Nat.le_of_ble_eq_true rfl⟩ rfl hl.1 rfl (Nat.le_of_ble_eq_true rfl) dX10_image_42 ⟨Nat.le_of_ble_eq_true rfl, Nat.le_of_ble_eq_true rfl⟩) C.2.2.2.2.2.2.1 hP hD hS [17, 18, 19, 20, 21, 22, 23, 24, 25, 26, 27, 28, 29, 30, 31, 32, 33, 34, 35, 36, 37, 38, 39, 40, 41, 42, 43, 44, 45] [0, 1, 2, 3, 4, 5, 6, 7, 8, 9, 10, 11, 12, 13, 14, 15, 16] rfl rfl (by decide) (by decide) (fun u_6 H locs hw_8 hP hD hS => ?_)
        have hP : va_P D vwCl [(h, .inr (10, [.ref ta, .ref pl, .ref sh, .ref tr, .ref fo, .ref li, .ref sp, .ref dr, .ref pa, .ref im, .ref fs, .ref ph, .ref cd, .int 0, .int 0])), (im, .inl (cy 4, 2, .inr (.inr (.inr (.inr kg))))), (ii0, .inr (2, [.int 0, .ref ip0, .ref iq0, .ref ir0])), (ip0, .inr (6, [.int 4, .int 4, .int 10, .int 1, .int 3, .int 0, .int 0, .int 0, .ref ip00, .ref ip01, .ref ip02])), (ip00, .inl (cy 1, 8, .inl (fun _ => 0))), (ip01, .inl (cy 1, 8, .inl (fun _ => 0))), (ip02, .inl (cy 1, 56, .inl (fun _ => 0))), (iq0, .inr (8, [.ref iq00, .ref iq01, .ref iq02, .ref iq03, .ref iq04, .int 0, .int 0, .ref iq05])), (iq00, .inl (cy 1, 8, .inl (fun _ => 0))), (iq01, .inl (cy 1, 8, .inl (fun _ => 0))), (iq02, .inl (cy 1, 8, .inl (fun _ => 0))), (iq03, .inl (cy 1, 8, .inl (fun _ => 0))), (iq04, .inl (cy 1, 64, .inl (fun _ => 0))), (ir0, .inr (7, [.int 0, .int 0, .int 0, .ref ir00, .ref ir01, .ref ir02, .ref ir03])), (ir00, .inl (cy 1, 40, .inl (fun _ => 0))), (ir01, .inl (cy 1, 40, .inl (fun _ => 0))), (ir02, .inl (cy 1, 40, .inl (fun _ => 0)))] H := hP
        have hD : va_D A [(h, .inr (10, [.ref ta, .ref pl, .ref sh, .ref tr, .ref fo, .ref li, .ref sp, .ref dr, .ref pa, .ref im, .ref fs, .ref ph, .ref cd, .int 0, .int 0])), (im, .inl (cy 4, 2, .inr (.inr (.inr (.inr kg))))), (ii0, .inr (2, [.int 0, .ref ip0, .ref iq0, .ref ir0])), (ip0, .inr (6, [.int 4, .int 4, .int 10, .int 1, .int 3, .int 0, .int 0, .int 0, .ref ip00, .ref ip01, .ref ip02])), (ip00, .inl (cy 1, 8, .inl (fun _ => 0))), (ip01, .inl (cy 1, 8, .inl (fun _ => 0))), (ip02, .inl (cy 1, 56, .inl (fun _ => 0))), (iq0, .inr (8, [.ref iq00, .ref iq01, .ref iq02, .ref iq03, .ref iq04, .int 0, .int 0, .ref iq05])), (iq00, .inl (cy 1, 8, .inl (fun _ => 0))), (iq01, .inl (cy 1, 8, .inl (fun _ => 0))), (iq02, .inl (cy 1, 8, .inl (fun _ => 0))), (iq03, .inl (cy 1, 8, .inl (fun _ => 0))), (iq04, .inl (cy 1, 64, .inl (fun _ => 0))), (ir0, .inr (7, [.int 0, .int 0, .int 0, .ref ir00, .ref ir01, .ref ir02, .ref ir03])), (ir00, .inl (cy 1, 40, .inl (fun _ => 0))), (ir01, .inl (cy 1, 40, .inl (fun _ => 0))), (ir02, .inl (cy 1, 40, .inl (fun _ => 0)))] := hD
        refine lv_iconst (v := 1) hx hb dX10_image_45 (by decide) ?_
        exact q_iret (rm := (Rm 3 104 0 0)) C hS () rfl (by show (1 : Int32) = (rImage (1 : Int32)); decide +kernel) (q_subP hP [] rfl) (hD.sub [] (by decide) rfl) (Nat.le_of_ble_eq_true rfl) (Nat.le_of_ble_eq_true rfl) dX10_image_46
      · exact absurd h9 (by have z0 := (not_congr Int32.lt_iff_toInt_lt).mp c_1; have z1 := (not_congr Int32.le_iff_toInt_le).mp c_2; have e0 : (0 : Int32).toInt = 0 := (by decide); have e1 : (2 : Int32).toInt = 2 := (by decide); omega)
set_option maxHeartbeats 4000000 in
set_option maxRecDepth 100000 in
theorem x_restore (l : Launch) (D : va_G) (cy : Nat → ClassId) (h : Nat) (n : Int32) (ta : Nat) (pl : Nat) (sh : Nat) (tr : Nat) (fo : Nat) (li : Nat) (sp : Nat) (dr : Nat) (pa : Nat) (im : Nat) (fs : Nat) (ph : Nat) (cd : Nat) (kg : Nat → Option Nat) (ii0 : Nat) (ip0 : Nat) (iq0 : Nat) (ir0 : Nat) (ii1 : Nat) (ip1 : Nat) (iq1 : Nat) (ir1 : Nat) (sz : Nat) (hg0 : kg 0 = some ii0) (hg1 : kg 1 = some ii1) : MI l yX10_restore cX10_restore 2 (some .boolean) (Rm 0 0 0 0) D cy [.ref h, .int n] sz [(h, .inr (10, [.ref ta, .ref pl, .ref sh, .ref tr, .ref fo, .ref li, .ref sp, .ref dr, .ref pa, .ref im, .ref fs, .ref ph, .ref cd, .int 0, .int 0])), (im, .inl (cy 4, 2, .inr (.inr (.inr (.inr kg))))), (ii0, .inr (2, [.int 0, .ref ip0, .ref iq0, .ref ir0])), (ii1, .inr (2, [.int 0, .ref ip1, .ref iq1, .ref ir1]))] (fun (r : Int32) (u : Unit) => r = 0) (fun u : Unit => []) := by
  refine MI.enter (by decide) (Nat.le_of_ble_eq_true rfl) ?_
  intro p e s m below meth c ls A hsz hAe C hP hD hS hl
  have C : Cx p s m _ meth c cX10_restore 2 (some .boolean) RX10 "restore" D cy A := C
  have hx := C.1
  have hb := C.2.1
  have hl : lv_has ls 2 [(0, .ref h), (1, .int n)] := hl
  refine lv_iload_n hx hb dX10_restore_0 rfl (lv_at hl 1 rfl) ?_
  refine lv_if_lt (tgt := 34) hx hb dX10_restore_1 (by decide) (fun c_1 => ?_) (fun c_1 => ?_)
  · refine lv_iconst (v := 0) hx hb dX10_restore_34 (by decide) ?_
    exact q_iret (rm := (Rm 0 0 0 0)) C hS () rfl rfl (q_subP hP [] rfl) (hD.sub [] (by decide) rfl) (Nat.le_of_ble_eq_true rfl) (Nat.le_of_ble_eq_true rfl) dX10_restore_35
  · refine lv_iload_n hx hb dX10_restore_4 rfl (lv_at hl 1 rfl) ?_
    refine lv_aload_n hx hb dX10_restore_5 rfl (lv_at hl 0 rfl) ?_
    refine q_get (v := .ref im) C hP 0 9 rfl rfl inX10 (by decide) kF_RX10_66 rfl rfl dX10_restore_6 ?_
    refine q_alen (v := 2) C hP 1 4 rfl rfl rfl dX10_restore_9 ?_
    refine lv_icmp_ge (tgt := 34) hx hb dX10_restore_10 (by decide) (fun c_2 => ?_) (fun c_2 => ?_)
    · refine lv_iconst (v := 0) hx hb dX10_restore_34 (by decide) ?_
      exact q_iret (rm := (Rm 0 0 0 0)) C hS () rfl rfl (q_subP hP [] rfl) (hD.sub [] (by decide) rfl) (Nat.le_of_ble_eq_true rfl) (Nat.le_of_ble_eq_true rfl) dX10_restore_35
    · rcases sw_0_1 n with rfl | rfl | h9
      · refine lv_aload_n hx hb dX10_restore_13 rfl (lv_at hl 0 rfl) ?_
        refine q_get (v := .ref im) C hP 0 9 rfl rfl inX10 (by decide) kF_RX10_66 rfl rfl dX10_restore_14 ?_
        refine lv_iload_n hx hb dX10_restore_17 rfl (lv_at hl 1 rfl) ?_
        refine q_aald (v := .ref ii0) C hP 1 4 rfl rfl (vin (by decide +kernel)) (by show va_rf (kg 0) = _; rw [hg0]; rfl) dX10_restore_18 ?_
        refine lv_ifnull hx hb dX10_restore_19 ?_
        refine lv_aload_n hx hb dX10_restore_22 rfl (lv_at hl 0 rfl) ?_
        refine q_get (v := .ref im) C hP 0 9 rfl rfl inX10 (by decide) kF_RX10_66 rfl rfl dX10_restore_23 ?_
        refine lv_iload_n hx hb dX10_restore_26 rfl (lv_at hl 1 rfl) ?_
        refine q_aald (v := .ref ii0) C hP 1 4 rfl rfl (vin (by decide +kernel)) (by show va_rf (kg 0) = _; rw [hg0]; rfl) dX10_restore_27 ?_
        refine q_get (v := .int 0) C hP 2 0 rfl rfl inX2 (by decide) kF_RX10_308 rfl rfl dX10_restore_28 ?_
        refine lv_if_ne (tgt := 36) hx hb dX10_restore_31 (by decide) (fun c_0 => absurd (by decide) c_0) (fun _ => ?_)
        refine lv_iconst (v := 0) hx hb dX10_restore_34 (by decide) ?_
        exact q_iret (rm := (Rm 0 0 0 0)) C hS () rfl rfl (q_subP hP [] rfl) (hD.sub [] (by decide) rfl) (Nat.le_of_ble_eq_true rfl) (Nat.le_of_ble_eq_true rfl) dX10_restore_35
      · refine lv_aload_n hx hb dX10_restore_13 rfl (lv_at hl 0 rfl) ?_
        refine q_get (v := .ref im) C hP 0 9 rfl rfl inX10 (by decide) kF_RX10_66 rfl rfl dX10_restore_14 ?_
        refine lv_iload_n hx hb dX10_restore_17 rfl (lv_at hl 1 rfl) ?_
        refine q_aald (v := .ref ii1) C hP 1 4 rfl rfl (vin (by decide +kernel)) (by show va_rf (kg 1) = _; rw [hg1]; rfl) dX10_restore_18 ?_
        refine lv_ifnull hx hb dX10_restore_19 ?_
        refine lv_aload_n hx hb dX10_restore_22 rfl (lv_at hl 0 rfl) ?_
        refine q_get (v := .ref im) C hP 0 9 rfl rfl inX10 (by decide) kF_RX10_66 rfl rfl dX10_restore_23 ?_
        refine lv_iload_n hx hb dX10_restore_26 rfl (lv_at hl 1 rfl) ?_
        refine q_aald (v := .ref ii1) C hP 1 4 rfl rfl (vin (by decide +kernel)) (by show va_rf (kg 1) = _; rw [hg1]; rfl) dX10_restore_27 ?_
        refine q_get (v := .int 0) C hP 3 0 rfl rfl inX2 (by decide) kF_RX10_308 rfl rfl dX10_restore_28 ?_
        refine lv_if_ne (tgt := 36) hx hb dX10_restore_31 (by decide) (fun c_0 => absurd (by decide) c_0) (fun _ => ?_)
        refine lv_iconst (v := 0) hx hb dX10_restore_34 (by decide) ?_
        exact q_iret (rm := (Rm 0 0 0 0)) C hS () rfl rfl (q_subP hP [] rfl) (hD.sub [] (by decide) rfl) (Nat.le_of_ble_eq_true rfl) (Nat.le_of_ble_eq_true rfl) dX10_restore_35
      · exact absurd h9 (by have z0 := (not_congr Int32.lt_iff_toInt_lt).mp c_1; have z1 := (not_congr Int32.le_iff_toInt_le).mp c_2; have e0 : (0 : Int32).toInt = 0 := (by decide); have e1 : (2 : Int32).toInt = 2 := (by decide); omega)
set_option maxHeartbeats 4000000 in
set_option maxRecDepth 100000 in
theorem x_when (l : Launch) (D : va_G) (cy : Nat → ClassId) (h : Nat) (n : Int32) (ta : Nat) (pl : Nat) (sh : Nat) (tr : Nat) (fo : Nat) (li : Nat) (sp : Nat) (dr : Nat) (pa : Nat) (im : Nat) (fs : Nat) (ph : Nat) (cd : Nat) (pl0 : Nat) (pl1 : Nat) (pl2 : Nat) (sz : Nat)  : MI l yX10_when cX10_when 5 (some .int) (Rm 1 21 0 0) D cy [.ref h, .int n] sz [(h, .inr (10, [.ref ta, .ref pl, .ref sh, .ref tr, .ref fo, .ref li, .ref sp, .ref dr, .ref pa, .ref im, .ref fs, .ref ph, .ref cd, .int 0, .int 0])), (pl, .inr (6, [.int 4, .int 4, .int 10, .int 1, .int 3, .int 0, .int 0, .int 0, .ref pl0, .ref pl1, .ref pl2]))] (fun (r : Int32) (u : Unit) => r = (-1)) (fun u : Unit => []) := by
  refine MI.enter (by decide) (Nat.le_of_ble_eq_true rfl) ?_
  intro p e s m below meth c ls A hsz hAe C hP hD hS hl
  have C : Cx p s m _ meth c cX10_when 5 (some .int) RX10 "when" D cy A := C
  have hx := C.1
  have hb := C.2.1
  have hl : lv_has ls 5 [(0, .ref h), (1, .int n)] := hl
  refine lv_aload_n hx hb dX10_when_0 rfl (lv_at hl 0 rfl) ?_
  refine q_get (v := .ref pl) C hP 0 1 rfl rfl inX10 (by decide) kF_RX10_19 rfl rfl dX10_when_1 ?_
  refine lv_iload_n hx hb dX10_when_4 rfl (lv_at hl 1 rfl) ?_
  refine q_ai (wr := [(h, .inr (10, [.ref ta, .ref pl, .ref sh, .ref tr, .ref fo, .ref li, .ref sp, .ref dr, .ref pa, .ref im, .ref fs, .ref ph, .ref cd, .int 0, .int 0]))]) (r_V (q0 := 0) (As := [.int n]) (rest := []) (wc := [(pl, .inr (6, [.int 4, .int 4, .int 10, .int 1, .int 3, .int 0, .int 0, .int 0, .ref pl0, .ref pl1, .ref pl2]))]) C (q_subP hP [1] rfl) (hD.sub [1] (by decide) rfl) (c_hasBook l D cy pl n pl0 pl1 pl2 _ ) kwV_X6_hasBook kM_RX10_170 rfl rfl ⟨Nat.le_of_ble_eq_true rfl, Nat.le_of_ble_eq_true rfl⟩ rfl hl.1 rfl (Nat.le_of_ble_eq_true rfl) dX10_when_5 ⟨Nat.le_of_ble_eq_true rfl, Nat.le_of_ble_eq_true rfl⟩) C.2.2.2.2.2.2.1 hP hD hS [1] [0] rfl rfl (by decide) (by decide) (fun r_2 u_1 H locs hw_3 hP hD hS => ?_)
  have hP : va_P D vwCl [(h, .inr (10, [.ref ta, .ref pl, .ref sh, .ref tr, .ref fo, .ref li, .ref sp, .ref dr, .ref pa, .ref im, .ref fs, .ref ph, .ref cd, .int 0, .int 0])), (pl, .inr (6, [.int 4, .int 4, .int 10, .int 1, .int 3, .int 0, .int 0, .int 0, .ref pl0, .ref pl1, .ref pl2]))] H := hP
  have hD : va_D A [(h, .inr (10, [.ref ta, .ref pl, .ref sh, .ref tr, .ref fo, .ref li, .ref sp, .ref dr, .ref pa, .ref im, .ref fs, .ref ph, .ref cd, .int 0, .int 0])), (pl, .inr (6, [.int 4, .int 4, .int 10, .int 1, .int 3, .int 0, .int 0, .int 0, .ref pl0, .ref pl1, .ref pl2]))] := hD
  obtain rfl : r_2 = 0 := hw_3
  refine lv_if_ne (tgt := 13) hx hb dX10_when_8 (by decide) (fun c_0 => absurd (by decide) c_0) (fun _ => ?_)
  refine lv_iconst (v := (-1)) hx hb dX10_when_11 (by decide) ?_
  exact q_iret (rm := (Rm 1 21 0 0)) C hS () rfl rfl (q_subP hP [] rfl) (hD.sub [] (by decide) rfl) (Nat.le_of_ble_eq_true rfl) (Nat.le_of_ble_eq_true rfl) dX10_when_12
set_option maxHeartbeats 4000000 in
set_option maxRecDepth 100000 in
theorem x_follow (l : Launch) (D : va_G) (cy : Nat → ClassId) (h : Nat) (n : Int32) (ta : Nat) (pl : Nat) (sh : Nat) (tr : Nat) (fo : Nat) (li : Nat) (sp : Nat) (dr : Nat) (pa : Nat) (im : Nat) (fs : Nat) (ph : Nat) (cd : Nat) (pl0 : Nat) (pl1 : Nat) (pl2 : Nat) (sz : Nat)  : MI l yX10_follow cX10_follow 2 (some .int) (Rm 1 21 0 0) D cy [.ref h, .int n] sz [(h, .inr (10, [.ref ta, .ref pl, .ref sh, .ref tr, .ref fo, .ref li, .ref sp, .ref dr, .ref pa, .ref im, .ref fs, .ref ph, .ref cd, .int 0, .int 0])), (pl, .inr (6, [.int 4, .int 4, .int 10, .int 1, .int 3, .int 0, .int 0, .int 0, .ref pl0, .ref pl1, .ref pl2]))] (fun (r : Int32) (u : Unit) => r = (-1)) (fun u : Unit => []) := by
  refine MI.enter (by decide) (Nat.le_of_ble_eq_true rfl) ?_
  intro p e s m below meth c ls A hsz hAe C hP hD hS hl
  have C : Cx p s m _ meth c cX10_follow 2 (some .int) RX10 "follow" D cy A := C
  have hx := C.1
  have hb := C.2.1
  have hl : lv_has ls 2 [(0, .ref h), (1, .int n)] := hl
  refine lv_aload_n hx hb dX10_follow_0 rfl (lv_at hl 0 rfl) ?_
  refine q_get (v := .ref pl) C hP 0 1 rfl rfl inX10 (by decide) kF_RX10_19 rfl rfl dX10_follow_1 ?_
  refine lv_iload_n hx hb dX10_follow_4 rfl (lv_at hl 1 rfl) ?_
  refine q_ai (wr := [(h, .inr (10, [.ref ta, .ref pl, .ref sh, .ref tr, .ref fo, .ref li, .ref sp, .ref dr, .ref pa, .ref im, .ref fs, .ref ph, .ref cd, .int 0, .int 0]))]) (r_V (q0 := 0) (As := [.int n]) (rest := []) (wc := [(pl, .inr (6, [.int 4, .int 4, .int 10, .int 1, .int 3, .int 0, .int 0, .int 0, .ref pl0, .ref pl1, .ref pl2]))]) C (q_subP hP [1] rfl) (hD.sub [1] (by decide) rfl) (c_hasBook l D cy pl n pl0 pl1 pl2 _ ) kwV_X6_hasBook kM_RX10_170 rfl rfl ⟨Nat.le_of_ble_eq_true rfl, Nat.le_of_ble_eq_true rfl⟩ rfl hl.1 rfl (Nat.le_of_ble_eq_true rfl) dX10_follow_5 ⟨Nat.le_of_ble_eq_true rfl, Nat.le_of_ble_eq_true rfl⟩) C.2.2.2.2.2.2.1 hP hD hS [1] [0] rfl rfl (by decide) (by decide) (fun r_2 u_1 H locs hw_3 hP hD hS => ?_)
  have hP : va_P D vwCl [(h, .inr (10, [.ref ta, .ref pl, .ref sh, .ref tr, .ref fo, .ref li, .ref sp, .ref dr, .ref pa, .ref im, .ref fs, .ref ph, .ref cd, .int 0, .int 0])), (pl, .inr (6, [.int 4, .int 4, .int 10, .int 1, .int 3, .int 0, .int 0, .int 0, .ref pl0, .ref pl1, .ref pl2]))] H := hP
  have hD : va_D A [(h, .inr (10, [.ref ta, .ref pl, .ref sh, .ref tr, .ref fo, .ref li, .ref sp, .ref dr, .ref pa, .ref im, .ref fs, .ref ph, .ref cd, .int 0, .int 0])), (pl, .inr (6, [.int 4, .int 4, .int 10, .int 1, .int 3, .int 0, .int 0, .int 0, .ref pl0, .ref pl1, .ref pl2]))] := hD
  obtain rfl : r_2 = 0 := hw_3
  refine lv_if_eq (tgt := 26) hx hb dX10_follow_8 (by decide) (fun _ => ?_) (fun c_0 => absurd (by decide) c_0)
  refine lv_iconst (v := (-1)) hx hb dX10_follow_26 (by decide) ?_
  exact q_iret (rm := (Rm 1 21 0 0)) C hS () rfl rfl (q_subP hP [] rfl) (hD.sub [] (by decide) rfl) (Nat.le_of_ble_eq_true rfl) (Nat.le_of_ble_eq_true rfl) dX10_follow_27
set_option maxHeartbeats 4000000 in
set_option maxRecDepth 100000 in
theorem x_way (l : Launch) (D : va_G) (cy : Nat → ClassId) (h : Nat) (n : Int32) (v : Int32) (ta : Nat) (pl : Nat) (sh : Nat) (tr : Nat) (fo : Nat) (li : Nat) (sp : Nat) (dr : Nat) (pa : Nat) (im : Nat) (fs : Nat) (ph : Nat) (cd : Nat) (pl0 : Nat) (pl1 : Nat) (pl2 : Nat) (sz : Nat)  : MI l yX10_way cX10_way 3 (some .int) (Rm 1 21 0 0) D cy [.ref h, .int n, .int v] sz [(h, .inr (10, [.ref ta, .ref pl, .ref sh, .ref tr, .ref fo, .ref li, .ref sp, .ref dr, .ref pa, .ref im, .ref fs, .ref ph, .ref cd, .int 0, .int 0])), (pl, .inr (6, [.int 4, .int 4, .int 10, .int 1, .int 3, .int 0, .int 0, .int 0, .ref pl0, .ref pl1, .ref pl2]))] (fun (r : Int32) (u : Unit) => r = (-1)) (fun u : Unit => []) := by
  refine MI.enter (by decide) (Nat.le_of_ble_eq_true rfl) ?_
  intro p e s m below meth c ls A hsz hAe C hP hD hS hl
  have C : Cx p s m _ meth c cX10_way 3 (some .int) RX10 "way" D cy A := C
  have hx := C.1
  have hb := C.2.1
  have hl : lv_has ls 3 [(0, .ref h), (1, .int n), (2, .int v)] := hl
  refine lv_aload_n hx hb dX10_way_0 rfl (lv_at hl 0 rfl) ?_
  refine q_get (v := .ref pl) C hP 0 1 rfl rfl inX10 (by decide) kF_RX10_19 rfl rfl dX10_way_1 ?_
  refine lv_iload_n hx hb dX10_way_4 rfl (lv_at hl 1 rfl) ?_
  refine q_ai (wr := [(h, .inr (10, [.ref ta, .ref pl, .ref sh, .ref tr, .ref fo, .ref li, .ref sp, .ref dr, .ref pa, .ref im, .ref fs, .ref ph, .ref cd, .int 0, .int 0]))]) (r_V (q0 := 0) (As := [.int n]) (rest := []) (wc := [(pl, .inr (6, [.int 4, .int 4, .int 10, .int 1, .int 3, .int 0, .int 0, .int 0, .ref pl0, .ref pl1, .ref pl2]))]) C (q_subP hP [1] rfl) (hD.sub [1] (by decide) rfl) (c_hasBook l D cy pl n pl0 pl1 pl2 _ ) kwV_X6_hasBook kM_RX10_170 rfl rfl ⟨Nat.le_of_ble_eq_true rfl, Nat.le_of_ble_eq_true rfl⟩ rfl hl.1 rfl (Nat.le_of_ble_eq_true rfl) dX10_way_5 ⟨Nat.le_of_ble_eq_true rfl, Nat.le_of_ble_eq_true rfl⟩) C.2.2.2.2.2.2.1 hP hD hS [1] [0] rfl rfl (by decide) (by decide) (fun r_2 u_1 H locs hw_3 hP hD hS => ?_)
  have hP : va_P D vwCl [(h, .inr (10, [.ref ta, .ref pl, .ref sh, .ref tr, .ref fo, .ref li, .ref sp, .ref dr, .ref pa, .ref im, .ref fs, .ref ph, .ref cd, .int 0, .int 0])), (pl, .inr (6, [.int 4, .int 4, .int 10, .int 1, .int 3, .int 0, .int 0, .int 0, .ref pl0, .ref pl1, .ref pl2]))] H := hP
  have hD : va_D A [(h, .inr (10, [.ref ta, .ref pl, .ref sh, .ref tr, .ref fo, .ref li, .ref sp, .ref dr, .ref pa, .ref im, .ref fs, .ref ph, .ref cd, .int 0, .int 0])), (pl, .inr (6, [.int 4, .int 4, .int 10, .int 1, .int 3, .int 0, .int 0, .int 0, .ref pl0, .ref pl1, .ref pl2]))] := hD
  obtain rfl : r_2 = 0 := hw_3
  refine lv_if_eq (tgt := 22) hx hb dX10_way_8 (by decide) (fun _ => ?_) (fun c_0 => absurd (by decide) c_0)
  refine lv_iconst (v := (-1)) hx hb dX10_way_22 (by decide) ?_
  exact q_iret (rm := (Rm 1 21 0 0)) C hS () rfl rfl (q_subP hP [] rfl) (hD.sub [] (by decide) rfl) (Nat.le_of_ble_eq_true rfl) (Nat.le_of_ble_eq_true rfl) dX10_way_23
set_option maxHeartbeats 4000000 in
set_option maxRecDepth 100000 in
theorem x_wayAt (l : Launch) (D : va_G) (cy : Nat → ClassId) (h : Nat) (n : Int32) (ta : Nat) (pl : Nat) (sh : Nat) (tr : Nat) (fo : Nat) (li : Nat) (sp : Nat) (dr : Nat) (pa : Nat) (im : Nat) (fs : Nat) (ph : Nat) (cd : Nat) (ph0 : Nat) (ph1 : Nat) (ph2 : Nat) (ph3 : Nat) (sz : Nat)  : MI l yX10_wayAt cX10_wayAt 2 (some .int) (Rm 0 0 0 0) D cy [.ref h, .int n] sz [(h, .inr (10, [.ref ta, .ref pl, .ref sh, .ref tr, .ref fo, .ref li, .ref sp, .ref dr, .ref pa, .ref im, .ref fs, .ref ph, .ref cd, .int 0, .int 0])), (ph, .inr (5, [.ref ph0, .int 0, .int (-1), .ref ph1, .ref ph2, .ref ph3]))] (fun (r : Int32) (u : Unit) => r = (-1)) (fun u : Unit => []) := by
  refine MI.enter (by decide) (Nat.le_of_ble_eq_true rfl) ?_
  intro p e s m below meth c ls A hsz hAe C hP hD hS hl
  have C : Cx p s m _ meth c cX10_wayAt 2 (some .int) RX10 "wayAt" D cy A := C
  have hx := C.1
  have hb := C.2.1
  have hl : lv_has ls 2 [(0, .ref h), (1, .int n)] := hl
  refine lv_iload_n hx hb dX10_wayAt_0 rfl (lv_at hl 1 rfl) ?_
  refine lv_if_lt (tgt := 27) hx hb dX10_wayAt_1 (by decide) (fun c_1 => ?_) (fun c_1 => ?_)
  · refine lv_iconst (v := (-1)) hx hb dX10_wayAt_27 (by decide) ?_
    exact q_iret (rm := (Rm 0 0 0 0)) C hS () rfl rfl (q_subP hP [] rfl) (hD.sub [] (by decide) rfl) (Nat.le_of_ble_eq_true rfl) (Nat.le_of_ble_eq_true rfl) dX10_wayAt_28
  · refine lv_iload_n hx hb dX10_wayAt_4 rfl (lv_at hl 1 rfl) ?_
    refine lv_aload_n hx hb dX10_wayAt_5 rfl (lv_at hl 0 rfl) ?_
    refine q_get (v := .ref ph) C hP 0 11 rfl rfl inX10 (by decide) kF_RX10_80 rfl rfl dX10_wayAt_6 ?_
    refine q_get (v := .int 0) C hP 1 1 rfl rfl inX5 (by decide) kF_RX10_329 rfl rfl dX10_wayAt_9 ?_
    refine lv_icmp_ge (tgt := 27) hx hb dX10_wayAt_12 (by decide) (fun _ => ?_) (fun c_0 => absurd ((Int32.le_iff_toInt_le).mpr (by have z0 := (not_congr Int32.lt_iff_toInt_lt).mp c_1; have e0 : (0 : Int32).toInt = 0 := (by decide); omega)) c_0)
    refine lv_iconst (v := (-1)) hx hb dX10_wayAt_27 (by decide) ?_
    exact q_iret (rm := (Rm 0 0 0 0)) C hS () rfl rfl (q_subP hP [] rfl) (hD.sub [] (by decide) rfl) (Nat.le_of_ble_eq_true rfl) (Nat.le_of_ble_eq_true rfl) dX10_wayAt_28
set_option maxHeartbeats 4000000 in
set_option maxRecDepth 100000 in
theorem x_keepAt (l : Launch) (D : va_G) (cy : Nat → ClassId) (h : Nat) (n : Int32) (ta : Nat) (pl : Nat) (sh : Nat) (tr : Nat) (fo : Nat) (li : Nat) (sp : Nat) (dr : Nat) (pa : Nat) (im : Nat) (fs : Nat) (ph : Nat) (cd : Nat) (fs0 : Nat) (fs1 : Nat) (fs2 : Nat) (fs3 : Nat) (fs4 : Nat) (fs5 : Nat) (sz : Nat)  : MI l yX10_keepAt cX10_keepAt 2 (some .int) (Rm 0 0 0 0) D cy [.ref h, .int n] sz [(h, .inr (10, [.ref ta, .ref pl, .ref sh, .ref tr, .ref fo, .ref li, .ref sp, .ref dr, .ref pa, .ref im, .ref fs, .ref ph, .ref cd, .int 0, .int 0])), (fs, .inr (0, [.int 0, .int 0, .int (-1), .ref fs0, .ref fs1, .ref fs2, .ref fs3, .ref fs4, .int 0, .ref fs5, .int 0, .int 0, .int 1, .int 1, .int 0, .int 0]))] (fun (r : Int32) (u : Unit) => r = (-1)) (fun u : Unit => []) := by
  refine MI.enter (by decide) (Nat.le_of_ble_eq_true rfl) ?_
  intro p e s m below meth c ls A hsz hAe C hP hD hS hl
  have C : Cx p s m _ meth c cX10_keepAt 2 (some .int) RX10 "keepAt" D cy A := C
  have hx := C.1
  have hb := C.2.1
  have hl : lv_has ls 2 [(0, .ref h), (1, .int n)] := hl
  refine lv_iload_n hx hb dX10_keepAt_0 rfl (lv_at hl 1 rfl) ?_
  refine lv_if_lt (tgt := 27) hx hb dX10_keepAt_1 (by decide) (fun c_1 => ?_) (fun c_1 => ?_)
  · refine lv_iconst (v := (-1)) hx hb dX10_keepAt_27 (by decide) ?_
    exact q_iret (rm := (Rm 0 0 0 0)) C hS () rfl rfl (q_subP hP [] rfl) (hD.sub [] (by decide) rfl) (Nat.le_of_ble_eq_true rfl) (Nat.le_of_ble_eq_true rfl) dX10_keepAt_28
  · refine lv_iload_n hx hb dX10_keepAt_4 rfl (lv_at hl 1 rfl) ?_
    refine lv_aload_n hx hb dX10_keepAt_5 rfl (lv_at hl 0 rfl) ?_
    refine q_get (v := .ref fs) C hP 0 10 rfl rfl inX10 (by decide) kF_RX10_73 rfl rfl dX10_keepAt_6 ?_
    refine q_get (v := .int 0) C hP 1 0 rfl rfl inX0 (by decide) kF_RX10_343 rfl rfl dX10_keepAt_9 ?_
    refine lv_icmp_ge (tgt := 27) hx hb dX10_keepAt_12 (by decide) (fun _ => ?_) (fun c_0 => absurd ((Int32.le_iff_toInt_le).mpr (by have z0 := (not_congr Int32.lt_iff_toInt_lt).mp c_1; have e0 : (0 : Int32).toInt = 0 := (by decide); omega)) c_0)
    refine lv_iconst (v := (-1)) hx hb dX10_keepAt_27 (by decide) ?_
    exact q_iret (rm := (Rm 0 0 0 0)) C hS () rfl rfl (q_subP hP [] rfl) (hD.sub [] (by decide) rfl) (Nat.le_of_ble_eq_true rfl) (Nat.le_of_ble_eq_true rfl) dX10_keepAt_28
set_option maxHeartbeats 4000000 in
set_option maxRecDepth 100000 in
theorem x_askedAt (l : Launch) (D : va_G) (cy : Nat → ClassId) (h : Nat) (n : Int32) (ta : Nat) (pl : Nat) (sh : Nat) (tr : Nat) (fo : Nat) (li : Nat) (sp : Nat) (dr : Nat) (pa : Nat) (im : Nat) (fs : Nat) (ph : Nat) (cd : Nat) (fs0 : Nat) (fs1 : Nat) (fs2 : Nat) (fs3 : Nat) (fs4 : Nat) (fs5 : Nat) (sz : Nat)  : MI l yX10_askedAt cX10_askedAt 2 (some .int) (Rm 0 0 0 0) D cy [.ref h, .int n] sz [(h, .inr (10, [.ref ta, .ref pl, .ref sh, .ref tr, .ref fo, .ref li, .ref sp, .ref dr, .ref pa, .ref im, .ref fs, .ref ph, .ref cd, .int 0, .int 0])), (fs, .inr (0, [.int 0, .int 0, .int (-1), .ref fs0, .ref fs1, .ref fs2, .ref fs3, .ref fs4, .int 0, .ref fs5, .int 0, .int 0, .int 1, .int 1, .int 0, .int 0]))] (fun (r : Int32) (u : Unit) => r = (-1)) (fun u : Unit => []) := by
  refine MI.enter (by decide) (Nat.le_of_ble_eq_true rfl) ?_
  intro p e s m below meth c ls A hsz hAe C hP hD hS hl
  have C : Cx p s m _ meth c cX10_askedAt 2 (some .int) RX10 "askedAt" D cy A := C
  have hx := C.1
  have hb := C.2.1
  have hl : lv_has ls 2 [(0, .ref h), (1, .int n)] := hl
  refine lv_iload_n hx hb dX10_askedAt_0 rfl (lv_at hl 1 rfl) ?_
  refine lv_if_lt (tgt := 27) hx hb dX10_askedAt_1 (by decide) (fun c_1 => ?_) (fun c_1 => ?_)
  · refine lv_iconst (v := (-1)) hx hb dX10_askedAt_27 (by decide) ?_
    exact q_iret (rm := (Rm 0 0 0 0)) C hS () rfl rfl (q_subP hP [] rfl) (hD.sub [] (by decide) rfl) (Nat.le_of_ble_eq_true rfl) (Nat.le_of_ble_eq_true rfl) dX10_askedAt_28
  · refine lv_iload_n hx hb dX10_askedAt_4 rfl (lv_at hl 1 rfl) ?_
    refine lv_aload_n hx hb dX10_askedAt_5 rfl (lv_at hl 0 rfl) ?_
    refine q_get (v := .ref fs) C hP 0 10 rfl rfl inX10 (by decide) kF_RX10_73 rfl rfl dX10_askedAt_6 ?_
    refine q_get (v := .int 0) C hP 1 1 rfl rfl inX0 (by decide) kF_RX10_356 rfl rfl dX10_askedAt_9 ?_
    refine lv_icmp_ge (tgt := 27) hx hb dX10_askedAt_12 (by decide) (fun _ => ?_) (fun c_0 => absurd ((Int32.le_iff_toInt_le).mpr (by have z0 := (not_congr Int32.lt_iff_toInt_lt).mp c_1; have e0 : (0 : Int32).toInt = 0 := (by decide); omega)) c_0)
    refine lv_iconst (v := (-1)) hx hb dX10_askedAt_27 (by decide) ?_
    exact q_iret (rm := (Rm 0 0 0 0)) C hS () rfl rfl (q_subP hP [] rfl) (hD.sub [] (by decide) rfl) (Nat.le_of_ble_eq_true rfl) (Nat.le_of_ble_eq_true rfl) dX10_askedAt_28
set_option maxHeartbeats 4000000 in
set_option maxRecDepth 100000 in
theorem c_takeWanted (l : Launch) (D : va_G) (cy : Nat → ClassId) (h : Nat) (o : Nat) (h0 : Nat) (h1 : Nat) (h2 : Nat) (h3 : Nat) (h4 : Nat) (h5 : Nat) (o0 : Nat) (sz : Nat)  : MI l yX0_takeWanted cX0_takeWanted 5 (some .boolean) (Rm 0 0 0 0) D cy [.ref h, .ref o, .int 0] sz [(h, .inr (0, [.int 0, .int 0, .int (-1), .ref h0, .ref h1, .ref h2, .ref h3, .ref h4, .int 0, .ref h5, .int 0, .int 0, .int 1, .int 1, .int 0, .int 0])), (o, .inr (9, [.ref o0, .int 0, .int 0, .int 0, .int 0, .int 0, .int 0, .int 0, .int 0, .int 0, .int 0]))] (fun (r : Int32) (u : Unit) => r = 0) (fun u : Unit => [(h, .inr (0, [.int 0, .int 0, .int (-1), .ref h0, .ref h1, .ref h2, .ref h3, .ref h4, .int 0, .ref h5, .int 0, .int 0, .int 1, .int 1, .int 0, .int 0])), (o, .inr (9, [.ref o0, .int 0, .int 0, .int 0, .int 0, .int 0, .int 0, .int 0, .int 0, .int 0, .int 0]))]) := by
  refine MI.enter (by decide) (Nat.le_of_ble_eq_true rfl) ?_
  intro p e s m below meth c ls A hsz hAe C hP hD hS hl
  have C : Cx p s m _ meth c cX0_takeWanted 5 (some .boolean) RX0 "takeWanted" D cy A := C
  have hx := C.1
  have hb := C.2.1
  have hl : lv_has ls 5 [(0, .ref h), (1, .ref o), (2, .int 0)] := hl
  refine lv_aload_n hx hb dX0_takeWanted_0 rfl (lv_at hl 1 rfl) ?_
  refine q_get (v := .int 0) C hP 1 1 rfl rfl inX9 (by decide) kF_RX0_116 rfl rfl dX0_takeWanted_1 ?_
  refine lv_iconst (v := 2) hx hb dX0_takeWanted_4 (by decide) ?_
  refine lv_idiv hx hb dX0_takeWanted_5 (by decide) ?_
  refine q_val (v := 0) (by decide) ?_
  refine lv_istore_n (lv' := [(3, .int 0), (0, .ref h), (1, .ref o), (2, .int 0)]) hx hb dX0_takeWanted_6 rfl hl (by decide) rfl (fun ls hl => ?_)
  refine lv_iload_n hx hb dX0_takeWanted_7 rfl (lv_at hl 0 rfl) ?_
  refine lv_iconst (v := 1) hx hb dX0_takeWanted_8 (by decide) ?_
  refine lv_icmp_lt (tgt := 28) hx hb dX0_takeWanted_9 (by decide) (fun _ => ?_) (fun c_0 => absurd (by decide) c_0)
  refine lv_iconst (v := 0) hx hb dX0_takeWanted_28 (by decide) ?_
  exact q_iret (rm := (Rm 0 0 0 0)) C hS () rfl rfl (q_subP hP [0, 1] rfl) (hD.sub [0, 1] (by decide) rfl) (Nat.le_of_ble_eq_true rfl) (Nat.le_of_ble_eq_true rfl) dX0_takeWanted_29
set_option maxHeartbeats 4000000 in
set_option maxRecDepth 100000 in
theorem x_asked (l : Launch) (D : va_G) (cy : Nat → ClassId) (h : Nat) (n : Int32) (ta : Nat) (pl : Nat) (sh : Nat) (tr : Nat) (fo : Nat) (li : Nat) (sp : Nat) (dr : Nat) (pa : Nat) (im : Nat) (fs : Nat) (ph : Nat) (cd : Nat) (pl0 : Nat) (pl1 : Nat) (pl2 : Nat) (ta0 : Nat) (fs0 : Nat) (fs1 : Nat) (fs2 : Nat) (fs3 : Nat) (fs4 : Nat) (fs5 : Nat) (sz : Nat)  : MI l yX10_asked cX10_asked 3 (some .int) (Rm 1 24 0 0) D cy [.ref h, .int n] sz [(h, .inr (10, [.ref ta, .ref pl, .ref sh, .ref tr, .ref fo, .ref li, .ref sp, .ref dr, .ref pa, .ref im, .ref fs, .ref ph, .ref cd, .int 0, .int 0])), (pl, .inr (6, [.int 4, .int 4, .int 10, .int 1, .int 3, .int 0, .int 0, .int 0, .ref pl0, .ref pl1, .ref pl2])), (ta, .inr (9, [.ref ta0, .int 0, .int 0, .int 0, .int 0, .int 0, .int 0, .int 0, .int 0, .int 0, .int 0])), (fs, .inr (0, [.int 0, .int 0, .int (-1), .ref fs0, .ref fs1, .ref fs2, .ref fs3, .ref fs4, .int 0, .ref fs5, .int 0, .int 0, .int 1, .int 1, .int 0, .int 0]))] (fun (r : Int32) (u : Unit) => r = (-1)) (fun u : Unit => []) := by
  refine MI.enter (by decide) (Nat.le_of_ble_eq_true rfl) ?_
  intro p e s m below meth c ls A hsz hAe C hP hD hS hl
  have C : Cx p s m _ meth c cX10_asked 3 (some .int) RX10 "asked" D cy A := C
  have hx := C.1
  have hb := C.2.1
  have hl : lv_has ls 3 [(0, .ref h), (1, .int n)] := hl
  refine lv_aload_n hx hb dX10_asked_0 rfl (lv_at hl 0 rfl) ?_
  refine q_get (v := .ref fs) C hP 0 10 rfl rfl inX10 (by decide) kF_RX10_73 rfl rfl dX10_asked_1 ?_
  refine lv_aload_n hx hb dX10_asked_4 rfl (lv_at hl 0 rfl) ?_
  refine q_get (v := .ref ta) C hP 0 0 rfl rfl inX10 (by decide) kF_RX10_10 rfl rfl dX10_asked_5 ?_
  refine lv_aload_n hx hb dX10_asked_8 rfl (lv_at hl 0 rfl) ?_
  refine q_get (v := .ref pl) C hP 0 1 rfl rfl inX10 (by decide) kF_RX10_19 rfl rfl dX10_asked_9 ?_
  refine q_get (v := .int 0) C hP 1 6 rfl rfl inX6 (by decide) kF_RX10_211 rfl rfl dX10_asked_12 ?_
  refine q_ai (wr := [(h, .inr (10, [.ref ta, .ref pl, .ref sh, .ref tr, .ref fo, .ref li, .ref sp, .ref dr, .ref pa, .ref im, .ref fs, .ref ph, .ref cd, .int 0, .int 0])), (pl, .inr (6, [.int 4, .int 4, .int 10, .int 1, .int 3, .int 0, .int 0, .int 0, .ref pl0, .ref pl1, .ref pl2]))]) (r_V (q0 := 0) (As := [.ref ta, .int 0]) (rest := []) (wc := [(fs, .inr (0, [.int 0, .int 0, .int (-1), .ref fs0, .ref fs1, .ref fs2, .ref fs3, .ref fs4, .int 0, .ref fs5, .int 0, .int 0, .int 1, .int 1, .int 0, .int 0])), (ta, .inr (9, [.ref ta0, .int 0, .int 0, .int 0, .int 0, .int 0, .int 0, .int 0, .int 0, .int 0, .int 0]))]) C (q_subP hP [3, 2] rfl) (hD.sub [3, 2] (by decide) rfl) (c_takeWanted l D cy fs ta fs0 fs1 fs2 fs3 fs4 fs5 ta0 _ ) kwV_X0_takeWanted kM_RX10_349 rfl rfl ⟨Nat.le_of_ble_eq_true rfl, Nat.le_of_ble_eq_true rfl⟩ rfl hl.1 rfl (Nat.le_of_ble_eq_true rfl) dX10_asked_15 ⟨Nat.le_of_ble_eq_true rfl, Nat.le_of_ble_eq_true rfl⟩) C.2.2.2.2.2.2.1 hP hD hS [3, 2] [0, 1] rfl rfl (by decide) (by decide) (fun r_2 u_1 H locs hw_3 hP hD hS => ?_)
  have hP : va_P D vwCl [(h, .inr (10, [.ref ta, .ref pl, .ref sh, .ref tr, .ref fo, .ref li, .ref sp, .ref dr, .ref pa, .ref im, .ref fs, .ref ph, .ref cd, .int 0, .int 0])), (pl, .inr (6, [.int 4, .int 4, .int 10, .int 1, .int 3, .int 0, .int 0, .int 0, .ref pl0, .ref pl1, .ref pl2])), (fs, .inr (0, [.int 0, .int 0, .int (-1), .ref fs0, .ref fs1, .ref fs2, .ref fs3, .ref fs4, .int 0, .ref fs5, .int 0, .int 0, .int 1, .int 1, .int 0, .int 0])), (ta, .inr (9, [.ref ta0, .int 0, .int 0, .int 0, .int 0, .int 0, .int 0, .int 0, .int 0, .int 0, .int 0]))] H := hP
  have hD : va_D A [(h, .inr (10, [.ref ta, .ref pl, .ref sh, .ref tr, .ref fo, .ref li, .ref sp, .ref dr, .ref pa, .ref im, .ref fs, .ref ph, .ref cd, .int 0, .int 0])), (pl, .inr (6, [.int 4, .int 4, .int 10, .int 1, .int 3, .int 0, .int 0, .int 0, .ref pl0, .ref pl1, .ref pl2])), (fs, .inr (0, [.int 0, .int 0, .int (-1), .ref fs0, .ref fs1, .ref fs2, .ref fs3, .ref fs4, .int 0, .ref fs5, .int 0, .int 0, .int 1, .int 1, .int 0, .int 0])), (ta, .inr (9, [.ref ta0, .int 0, .int 0, .int 0, .int 0, .int 0, .int 0, .int 0, .int 0, .int 0, .int 0]))] := hD
  obtain rfl : r_2 = 0 := hw_3
  refine lv_istore_n (lv' := [(2, .int 0), (0, .ref h), (1, .int n)]) hx hb dX10_asked_18 rfl hl (by decide) rfl (fun ls hl => ?_)
  refine lv_aload_n hx hb dX10_asked_19 rfl (lv_at hl 1 rfl) ?_
  refine q_get (v := .ref ta) C hP 0 0 rfl rfl inX10 (by decide) kF_RX10_10 rfl rfl dX10_asked_20 ?_
  refine lv_iconst (v := 0) hx hb dX10_asked_23 (by decide) ?_
  refine q_put (v := .int 0) (w' := [(h, .inr (10, [.ref ta, .ref pl, .ref sh, .ref tr, .ref fo, .ref li, .ref sp, .ref dr, .ref pa, .ref im, .ref fs, .ref ph, .ref cd, .int 0, .int 0])), (pl, .inr (6, [.int 4, .int 4, .int 10, .int 1, .int 3, .int 0, .int 0, .int 0, .ref pl0, .ref pl1, .ref pl2])), (fs, .inr (0, [.int 0, .int 0, .int (-1), .ref fs0, .ref fs1, .ref fs2, .ref fs3, .ref fs4, .int 0, .ref fs5, .int 0, .int 0, .int 1, .int 1, .int 0, .int 0])), (ta, .inr (9, [.ref ta0, .int 0, .int 0, .int 0, .int 0, .int 0, .int 0, .int 0, .int 0, .int 0, .int 0]))]) (ty := .int) C hP hD hS 3 1 rfl rfl inX9 tyX9 tyX9_ok nmX9 (by decide) kF_RX10_96 rfl rfl rfl rfl rfl (Nat.le_of_ble_eq_true rfl) rfl dX10_asked_24 (fun H locs hP hD hS => ?_)
  refine lv_iload_n hx hb dX10_asked_27 rfl (lv_at hl 0 rfl) ?_
  refine lv_if_eq (tgt := 52) hx hb dX10_asked_28 (by decide) (fun _ => ?_) (fun c_0 => absurd (by decide) c_0)
  refine lv_iconst (v := (-1)) hx hb dX10_asked_52 (by decide) ?_
  exact q_iret (rm := (Rm 1 24 0 0)) C hS () rfl rfl (q_subP hP [] rfl) (hD.sub [] (by decide) rfl) (Nat.le_of_ble_eq_true rfl) (Nat.le_of_ble_eq_true rfl) dX10_asked_53
set_option maxHeartbeats 4000000 in
set_option maxRecDepth 100000 in
theorem x_spun (l : Launch) (D : va_G) (cy : Nat → ClassId) (h : Nat) (ta : Nat) (pl : Nat) (sh : Nat) (tr : Nat) (fo : Nat) (li : Nat) (sp : Nat) (dr : Nat) (pa : Nat) (im : Nat) (fs : Nat) (ph : Nat) (cd : Nat) (ta0 : Nat) (sz : Nat)  : MI l yX10_spun cX10_spun 4 (some .int) (Rm 0 0 0 0) D cy [.ref h] sz [(h, .inr (10, [.ref ta, .ref pl, .ref sh, .ref tr, .ref fo, .ref li, .ref sp, .ref dr, .ref pa, .ref im, .ref fs, .ref ph, .ref cd, .int 0, .int 0])), (ta, .inr (9, [.ref ta0, .int 0, .int 0, .int 0, .int 0, .int 0, .int 0, .int 0, .int 0, .int 0, .int 0]))] (fun (r : Int32) (u : Unit) => r = (-1)) (fun u : Unit => []) := by
  refine MI.enter (by decide) (Nat.le_of_ble_eq_true rfl) ?_
  intro p e s m below meth c ls A hsz hAe C hP hD hS hl
  have C : Cx p s m _ meth c cX10_spun 4 (some .int) RX10 "spun" D cy A := C
  have hx := C.1
  have hb := C.2.1
  have hl : lv_has ls 4 [(0, .ref h)] := hl
  refine lv_aload_n hx hb dX10_spun_0 rfl (lv_at hl 0 rfl) ?_
  refine q_get (v := .ref ta) C hP 0 0 rfl rfl inX10 (by decide) kF_RX10_10 rfl rfl dX10_spun_1 ?_
  refine q_get (v := .int 0) C hP 1 1 rfl rfl inX9 (by decide) kF_RX10_96 rfl rfl dX10_spun_4 ?_
  refine lv_iconst (v := 3) hx hb dX10_spun_7 (by decide) ?_
  refine lv_idiv hx hb dX10_spun_8 (by decide) ?_
  refine q_val (v := 0) (by decide) ?_
  refine lv_istore_n (lv' := [(1, .int 0), (0, .ref h)]) hx hb dX10_spun_9 rfl hl (by decide) rfl (fun ls hl => ?_)
  refine lv_iload_n hx hb dX10_spun_10 rfl (lv_at hl 0 rfl) ?_
  refine lv_iconst (v := 1) hx hb dX10_spun_11 (by decide) ?_
  refine lv_icmp_lt (tgt := 38) hx hb dX10_spun_12 (by decide) (fun _ => ?_) (fun c_0 => absurd (by decide) c_0)
  refine lv_iconst (v := 0) hx hb dX10_spun_38 (by decide) ?_
  refine lv_istore_n (lv' := [(2, .int 0), (1, .int 0), (0, .ref h)]) hx hb dX10_spun_39 rfl hl (by decide) rfl (fun ls hl => ?_)
  refine lv_iload_n hx hb dX10_spun_40 rfl (lv_at hl 0 rfl) ?_
  refine lv_if_eq (tgt := 59) hx hb dX10_spun_41 (by decide) (fun _ => ?_) (fun c_0 => absurd (by decide) c_0)
  refine lv_iconst (v := (-1)) hx hb dX10_spun_59 (by decide) ?_
  refine lv_istore_n (lv' := [(3, .int (-1)), (2, .int 0), (1, .int 0), (0, .ref h)]) hx hb dX10_spun_60 rfl hl (by decide) rfl (fun ls hl => ?_)
  refine lv_aload_n hx hb dX10_spun_61 rfl (lv_at hl 3 rfl) ?_
  refine q_get (v := .ref ta) C hP 0 0 rfl rfl inX10 (by decide) kF_RX10_10 rfl rfl dX10_spun_62 ?_
  refine lv_iconst (v := 0) hx hb dX10_spun_65 (by decide) ?_
  refine q_put (v := .int 0) (w' := [(h, .inr (10, [.ref ta, .ref pl, .ref sh, .ref tr, .ref fo, .ref li, .ref sp, .ref dr, .ref pa, .ref im, .ref fs, .ref ph, .ref cd, .int 0, .int 0])), (ta, .inr (9, [.ref ta0, .int 0, .int 0, .int 0, .int 0, .int 0, .int 0, .int 0, .int 0, .int 0, .int 0]))]) (ty := .int) C hP hD hS 1 1 rfl rfl inX9 tyX9 tyX9_ok nmX9 (by decide) kF_RX10_96 rfl rfl rfl rfl rfl (Nat.le_of_ble_eq_true rfl) rfl dX10_spun_66 (fun H locs hP hD hS => ?_)
  refine lv_iload_n hx hb dX10_spun_69 rfl (lv_at hl 0 rfl) ?_
  exact q_iret (rm := (Rm 0 0 0 0)) C hS () rfl rfl (q_subP hP [] rfl) (hD.sub [] (by decide) rfl) (Nat.le_of_ble_eq_true rfl) (Nat.le_of_ble_eq_true rfl) dX10_spun_70
set_option maxHeartbeats 4000000 in
set_option maxRecDepth 100000 in
theorem x_torn (l : Launch) (D : va_G) (cy : Nat → ClassId) (h : Nat) (n : Int32) (ta : Nat) (pl : Nat) (sh : Nat) (tr : Nat) (fo : Nat) (li : Nat) (sp : Nat) (dr : Nat) (pa : Nat) (im : Nat) (fs : Nat) (ph : Nat) (cd : Nat) (pl0 : Nat) (pl1 : Nat) (pl2 : Nat) (sz : Nat)  : MI l yX10_torn cX10_torn 2 (some .int) (Rm 1 21 0 0) D cy [.ref h, .int n] sz [(h, .inr (10, [.ref ta, .ref pl, .ref sh, .ref tr, .ref fo, .ref li, .ref sp, .ref dr, .ref pa, .ref im, .ref fs, .ref ph, .ref cd, .int 0, .int 0])), (pl, .inr (6, [.int 4, .int 4, .int 10, .int 1, .int 3, .int 0, .int 0, .int 0, .ref pl0, .ref pl1, .ref pl2]))] (fun (r : Int32) (u : Unit) => r = (-1)) (fun u : Unit => []) := by
  refine MI.enter (by decide) (Nat.le_of_ble_eq_true rfl) ?_
  intro p e s m below meth c ls A hsz hAe C hP hD hS hl
  have C : Cx p s m _ meth c cX10_torn 2 (some .int) RX10 "torn" D cy A := C
  have hx := C.1
  have hb := C.2.1
  have hl : lv_has ls 2 [(0, .ref h), (1, .int n)] := hl
  refine lv_aload_n hx hb dX10_torn_0 rfl (lv_at hl 0 rfl) ?_
  refine q_get (v := .ref pl) C hP 0 1 rfl rfl inX10 (by decide) kF_RX10_19 rfl rfl dX10_torn_1 ?_
  refine lv_iload_n hx hb dX10_torn_4 rfl (lv_at hl 1 rfl) ?_
  refine q_ai (wr := [(h, .inr (10, [.ref ta, .ref pl, .ref sh, .ref tr, .ref fo, .ref li, .ref sp, .ref dr, .ref pa, .ref im, .ref fs, .ref ph, .ref cd, .int 0, .int 0]))]) (r_V (q0 := 0) (As := [.int n]) (rest := []) (wc := [(pl, .inr (6, [.int 4, .int 4, .int 10, .int 1, .int 3, .int 0, .int 0, .int 0, .ref pl0, .ref pl1, .ref pl2]))]) C (q_subP hP [1] rfl) (hD.sub [1] (by decide) rfl) (c_hasBook l D cy pl n pl0 pl1 pl2 _ ) kwV_X6_hasBook kM_RX10_170 rfl rfl ⟨Nat.le_of_ble_eq_true rfl, Nat.le_of_ble_eq_true rfl⟩ rfl hl.1 rfl (Nat.le_of_ble_eq_true rfl) dX10_torn_5 ⟨Nat.le_of_ble_eq_true rfl, Nat.le_of_ble_eq_true rfl⟩) C.2.2.2.2.2.2.1 hP hD hS [1] [0] rfl rfl (by decide) (by decide) (fun r_2 u_1 H locs hw_3 hP hD hS => ?_)
  have hP : va_P D vwCl [(h, .inr (10, [.ref ta, .ref pl, .ref sh, .ref tr, .ref fo, .ref li, .ref sp, .ref dr, .ref pa, .ref im, .ref fs, .ref ph, .ref cd, .int 0, .int 0])), (pl, .inr (6, [.int 4, .int 4, .int 10, .int 1, .int 3, .int 0, .int 0, .int 0, .ref pl0, .ref pl1, .ref pl2]))] H := hP
  have hD : va_D A [(h, .inr (10, [.ref ta, .ref pl, .ref sh, .ref tr, .ref fo, .ref li, .ref sp, .ref dr, .ref pa, .ref im, .ref fs, .ref ph, .ref cd, .int 0, .int 0])), (pl, .inr (6, [.int 4, .int 4, .int 10, .int 1, .int 3, .int 0, .int 0, .int 0, .ref pl0, .ref pl1, .ref pl2]))] := hD
  obtain rfl : r_2 = 0 := hw_3
  refine lv_if_eq (tgt := 30) hx hb dX10_torn_8 (by decide) (fun _ => ?_) (fun c_0 => absurd (by decide) c_0)
  refine lv_iconst (v := (-1)) hx hb dX10_torn_30 (by decide) ?_
  exact q_iret (rm := (Rm 1 21 0 0)) C hS () rfl rfl (q_subP hP [] rfl) (hD.sub [] (by decide) rfl) (Nat.le_of_ble_eq_true rfl) (Nat.le_of_ble_eq_true rfl) dX10_torn_31
set_option maxHeartbeats 4000000 in
set_option maxRecDepth 100000 in
theorem x_steps (l : Launch) (D : va_G) (cy : Nat → ClassId) (h : Nat) (ta : Nat) (pl : Nat) (sh : Nat) (tr : Nat) (fo : Nat) (li : Nat) (sp : Nat) (dr : Nat) (pa : Nat) (im : Nat) (fs : Nat) (ph : Nat) (cd : Nat) (ph0 : Nat) (ph1 : Nat) (ph2 : Nat) (ph3 : Nat) (sz : Nat)  : MI l yX10_steps cX10_steps 1 (some .int) (Rm 0 0 0 0) D cy [.ref h] sz [(h, .inr (10, [.ref ta, .ref pl, .ref sh, .ref tr, .ref fo, .ref li, .ref sp, .ref dr, .ref pa, .ref im, .ref fs, .ref ph, .ref cd, .int 0, .int 0])), (ph, .inr (5, [.ref ph0, .int 0, .int (-1), .ref ph1, .ref ph2, .ref ph3]))] (fun (r : Int32) (u : Unit) => r = (-1)) (fun u : Unit => []) := by
  refine MI.enter (by decide) (Nat.le_of_ble_eq_true rfl) ?_
  intro p e s m below meth c ls A hsz hAe C hP hD hS hl
  have C : Cx p s m _ meth c cX10_steps 1 (some .int) RX10 "steps" D cy A := C
  have hx := C.1
  have hb := C.2.1
  have hl : lv_has ls 1 [(0, .ref h)] := hl
  refine lv_aload_n hx hb dX10_steps_0 rfl (lv_at hl 0 rfl) ?_
  refine q_get (v := .ref ph) C hP 0 11 rfl rfl inX10 (by decide) kF_RX10_80 rfl rfl dX10_steps_1 ?_
  refine q_get (v := .int (-1)) C hP 1 2 rfl rfl inX5 (by decide) kF_RX10_370 rfl rfl dX10_steps_4 ?_
  exact q_iret (rm := (Rm 0 0 0 0)) C hS () rfl rfl (q_subP hP [] rfl) (hD.sub [] (by decide) rfl) (Nat.le_of_ble_eq_true rfl) (Nat.le_of_ble_eq_true rfl) dX10_steps_7
set_option maxHeartbeats 4000000 in
set_option maxRecDepth 100000 in
theorem x_turn (l : Launch) (D : va_G) (cy : Nat → ClassId) (h : Nat) (ta : Nat) (pl : Nat) (sh : Nat) (tr : Nat) (fo : Nat) (li : Nat) (sp : Nat) (dr : Nat) (pa : Nat) (im : Nat) (fs : Nat) (ph : Nat) (cd : Nat) (fs0 : Nat) (fs1 : Nat) (fs2 : Nat) (fs3 : Nat) (fs4 : Nat) (fs5 : Nat) (sz : Nat)  : MI l yX10_turn cX10_turn 1 (some .int) (Rm 0 0 0 0) D cy [.ref h] sz [(h, .inr (10, [.ref ta, .ref pl, .ref sh, .ref tr, .ref fo, .ref li, .ref sp, .ref dr, .ref pa, .ref im, .ref fs, .ref ph, .ref cd, .int 0, .int 0])), (fs, .inr (0, [.int 0, .int 0, .int (-1), .ref fs0, .ref fs1, .ref fs2, .ref fs3, .ref fs4, .int 0, .ref fs5, .int 0, .int 0, .int 1, .int 1, .int 0, .int 0]))] (fun (r : Int32) (u : Unit) => r = (-1)) (fun u : Unit => []) := by
  refine MI.enter (by decide) (Nat.le_of_ble_eq_true rfl) ?_
  intro p e s m below meth c ls A hsz hAe C hP hD hS hl
  have C : Cx p s m _ meth c cX10_turn 1 (some .int) RX10 "turn" D cy A := C
  have hx := C.1
  have hb := C.2.1
  have hl : lv_has ls 1 [(0, .ref h)] := hl
  refine lv_aload_n hx hb dX10_turn_0 rfl (lv_at hl 0 rfl) ?_
  refine q_get (v := .ref fs) C hP 0 10 rfl rfl inX10 (by decide) kF_RX10_73 rfl rfl dX10_turn_1 ?_
  refine q_get (v := .int (-1)) C hP 1 2 rfl rfl inX0 (by decide) kF_RX10_376 rfl rfl dX10_turn_4 ?_
  exact q_iret (rm := (Rm 0 0 0 0)) C hS () rfl rfl (q_subP hP [] rfl) (hD.sub [] (by decide) rfl) (Nat.le_of_ble_eq_true rfl) (Nat.le_of_ble_eq_true rfl) dX10_turn_7
set_option maxHeartbeats 4000000 in
set_option maxRecDepth 100000 in
theorem x_odds (l : Launch) (D : va_G) (cy : Nat → ClassId) (h : Nat) (n : Int32) (v1 : Int32) (v2 : Int32) (ta : Nat) (pl : Nat) (sh : Nat) (tr : Nat) (fo : Nat) (li : Nat) (sp : Nat) (dr : Nat) (pa : Nat) (im : Nat) (fs : Nat) (ph : Nat) (cd : Nat) (pl0 : Nat) (pl1 : Nat) (pl2 : Nat) (sz : Nat)  : MI l yX10_odds cX10_odds 6 (some .int) (Rm 1 21 0 0) D cy [.ref h, .int n, .int v1, .int v2] sz [(h, .inr (10, [.ref ta, .ref pl, .ref sh, .ref tr, .ref fo, .ref li, .ref sp, .ref dr, .ref pa, .ref im, .ref fs, .ref ph, .ref cd, .int 0, .int 0])), (pl, .inr (6, [.int 4, .int 4, .int 10, .int 1, .int 3, .int 0, .int 0, .int 0, .ref pl0, .ref pl1, .ref pl2]))] (fun (r : Int32) (u : Unit) => r = (-1)) (fun u : Unit => []) := by
  refine MI.enter (by decide) (Nat.le_of_ble_eq_true rfl) ?_
  intro p e s m below meth c ls A hsz hAe C hP hD hS hl
  have C : Cx p s m _ meth c cX10_odds 6 (some .int) RX10 "odds" D cy A := C
  have hx := C.1
  have hb := C.2.1
  have hl : lv_has ls 6 [(0, .ref h), (1, .int n), (2, .int v1), (3, .int v2)] := hl
  refine lv_aload_n hx hb dX10_odds_0 rfl (lv_at hl 0 rfl) ?_
  refine q_get (v := .ref pl) C hP 0 1 rfl rfl inX10 (by decide) kF_RX10_19 rfl rfl dX10_odds_1 ?_
  refine lv_iload_n hx hb dX10_odds_4 rfl (lv_at hl 1 rfl) ?_
  refine q_ai (wr := [(h, .inr (10, [.ref ta, .ref pl, .ref sh, .ref tr, .ref fo, .ref li, .ref sp, .ref dr, .ref pa, .ref im, .ref fs, .ref ph, .ref cd, .int 0, .int 0]))]) (r_V (q0 := 0) (As := [.int n]) (rest := []) (wc := [(pl, .inr (6, [.int 4, .int 4, .int 10, .int 1, .int 3, .int 0, .int 0, .int 0, .ref pl0, .ref pl1, .ref pl2]))]) C (q_subP hP [1] rfl) (hD.sub [1] (by decide) rfl) (c_hasBook l D cy pl n pl0 pl1 pl2 _ ) kwV_X6_hasBook kM_RX10_170 rfl rfl ⟨Nat.le_of_ble_eq_true rfl, Nat.le_of_ble_eq_true rfl⟩ rfl hl.1 rfl (Nat.le_of_ble_eq_true rfl) dX10_odds_5 ⟨Nat.le_of_ble_eq_true rfl, Nat.le_of_ble_eq_true rfl⟩) C.2.2.2.2.2.2.1 hP hD hS [1] [0] rfl rfl (by decide) (by decide) (fun r_2 u_1 H locs hw_3 hP hD hS => ?_)
  have hP : va_P D vwCl [(h, .inr (10, [.ref ta, .ref pl, .ref sh, .ref tr, .ref fo, .ref li, .ref sp, .ref dr, .ref pa, .ref im, .ref fs, .ref ph, .ref cd, .int 0, .int 0])), (pl, .inr (6, [.int 4, .int 4, .int 10, .int 1, .int 3, .int 0, .int 0, .int 0, .ref pl0, .ref pl1, .ref pl2]))] H := hP
  have hD : va_D A [(h, .inr (10, [.ref ta, .ref pl, .ref sh, .ref tr, .ref fo, .ref li, .ref sp, .ref dr, .ref pa, .ref im, .ref fs, .ref ph, .ref cd, .int 0, .int 0])), (pl, .inr (6, [.int 4, .int 4, .int 10, .int 1, .int 3, .int 0, .int 0, .int 0, .ref pl0, .ref pl1, .ref pl2]))] := hD
  obtain rfl : r_2 = 0 := hw_3
  refine lv_if_eq (tgt := 22) hx hb dX10_odds_8 (by decide) (fun _ => ?_) (fun c_0 => absurd (by decide) c_0)
  refine lv_iconst (v := (-1)) hx hb dX10_odds_22 (by decide) ?_
  exact q_iret (rm := (Rm 1 21 0 0)) C hS () rfl rfl (q_subP hP [] rfl) (hD.sub [] (by decide) rfl) (Nat.le_of_ble_eq_true rfl) (Nat.le_of_ble_eq_true rfl) dX10_odds_23
set_option maxHeartbeats 4000000 in
set_option maxRecDepth 100000 in
theorem x_life (l : Launch) (D : va_G) (cy : Nat → ClassId) (h : Nat) (n : Int32) (ta : Nat) (pl : Nat) (sh : Nat) (tr : Nat) (fo : Nat) (li : Nat) (sp : Nat) (dr : Nat) (pa : Nat) (im : Nat) (fs : Nat) (ph : Nat) (cd : Nat) (ta0 : Nat) (pl0 : Nat) (pl1 : Nat) (pl2 : Nat) (li0 : Nat) (li1 : Nat) (li2 : Nat) (li3 : Nat) (pa0 : Nat) (kf : Nat → Option Nat) (k0 : Nat) (k00 : Nat) (k01 : Nat) (k02 : Nat) (k03 : Nat) (k04 : Nat) (k05 : Nat) (sh0 : Nat) (sh1 : Nat) (sh2 : Nat) (sh3 : Nat) (sh4 : Nat) (sh5 : Nat) (tr0 : Nat) (tr1 : Nat) (tr2 : Nat) (tr3 : Nat) (tr4 : Nat) (tr5 : Nat) (sz : Nat) (hk : kf 0 = some k0) : MI l yX10_life cX10_life 2 (some .int) (Rm 4 122 0 0) D cy [.ref h, .int n] sz [(h, .inr (10, [.ref ta, .ref pl, .ref sh, .ref tr, .ref fo, .ref li, .ref sp, .ref dr, .ref pa, .ref im, .ref fs, .ref ph, .ref cd, .int 0, .int 0])), (ta, .inr (9, [.ref ta0, .int 0, .int 0, .int 0, .int 0, .int 0, .int 0, .int 0, .int 0, .int 0, .int 0])), (pl, .inr (6, [.int 4, .int 4, .int 10, .int 1, .int 3, .int 0, .int 0, .int 0, .ref pl0, .ref pl1, .ref pl2])), (li, .inr (3, [.int 0, .int 0, .int 0, .int 0, .int 0, .int 0, .ref li0, .ref li1, .ref li2, .ref li3])), (pa, .inr (4, [.int 0, .int 0, .ref pa0])), (pa0, .inl (cy 5, 8, .inr (.inr (.inr (.inr kf))))), (k0, .inr (8, [.ref k00, .ref k01, .ref k02, .ref k03, .ref k04, .int 0, .int 0, .ref k05])), (k00, .inl (cy 1, 8, .inl (fun _ => 0))), (k01, .inl (cy 1, 8, .inl (fun _ => 0))), (k02, .inl (cy 1, 8, .inl (fun _ => 0))), (k03, .inl (cy 1, 8, .inl (fun _ => 0))), (k04, .inl (cy 1, 64, .inl (fun _ => 0))), (sh, .inr (8, [.ref sh0, .ref sh1, .ref sh2, .ref sh3, .ref sh4, .int 0, .int 0, .ref sh5])), (sh0, .inl (cy 1, 8, .inl (fun _ => 0))), (sh1, .inl (cy 1, 8, .inl (fun _ => 0))), (sh2, .inl (cy 1, 8, .inl (fun _ => 0))), (sh3, .inl (cy 1, 8, .inl (fun _ => 0))), (sh4, .inl (cy 1, 64, .inl (fun _ => 0))), (tr, .inr (8, [.ref tr0, .ref tr1, .ref tr2, .ref tr3, .ref tr4, .int 0, .int 0, .ref tr5])), (tr0, .inl (cy 1, 8, .inl (fun _ => 0))), (tr1, .inl (cy 1, 8, .inl (fun _ => 0))), (tr2, .inl (cy 1, 8, .inl (fun _ => 0))), (tr3, .inl (cy 1, 8, .inl (fun _ => 0))), (tr4, .inl (cy 1, 64, .inl (fun _ => 0)))] (fun (r : Int32) (u : Unit) => r = (rLife n)) (fun u : Unit => []) := by
  refine MI.enter (by decide) (Nat.le_of_ble_eq_true rfl) ?_
  intro p e s m below meth c ls A hsz hAe C hP hD hS hl
  have C : Cx p s m _ meth c cX10_life 2 (some .int) RX10 "life" D cy A := C
  have hx := C.1
  have hb := C.2.1
  have hl : lv_has ls 2 [(0, .ref h), (1, .int n)] := hl
  refine lv_iload_n hx hb dX10_life_0 rfl (lv_at hl 1 rfl) ?_
  refine lv_if_eq (tgt := 13) hx hb dX10_life_1 (by decide) (fun c_1 => ?_) (fun c_1 => ?_)
  · refine lv_aload_n hx hb dX10_life_13 rfl (lv_at hl 0 rfl) ?_
    refine q_get (v := .ref li) C hP 0 5 rfl rfl inX10 (by decide) kF_RX10_43 rfl rfl dX10_life_14 ?_
    refine lv_aload_n hx hb dX10_life_17 rfl (lv_at hl 0 rfl) ?_
    refine q_get (v := .ref ta) C hP 0 0 rfl rfl inX10 (by decide) kF_RX10_10 rfl rfl dX10_life_18 ?_
    refine lv_aload_n hx hb dX10_life_21 rfl (lv_at hl 0 rfl) ?_
    refine q_get (v := .ref pl) C hP 0 1 rfl rfl inX10 (by decide) kF_RX10_19 rfl rfl dX10_life_22 ?_
    refine q_av (wr := [(h, .inr (10, [.ref ta, .ref pl, .ref sh, .ref tr, .ref fo, .ref li, .ref sp, .ref dr, .ref pa, .ref im, .ref fs, .ref ph, .ref cd, .int 0, .int 0])), (pl, .inr (6, [.int 4, .int 4, .int 10, .int 1, .int 3, .int 0, .int 0, .int 0, .ref pl0, .ref pl1, .ref pl2])), (pa, .inr (4, [.int 0, .int 0, .ref pa0])), (pa0, .inl (cy 5, 8, .inr (.inr (.inr (.inr kf))))), (k0, .inr (8, [.ref k00, .ref k01, .ref k02, .ref k03, .ref k04, .int 0, .int 0, .ref k05])), (k00, .inl (cy 1, 8, .inl (fun _ => 0))), (k01, .inl (cy 1, 8, .inl (fun _ => 0))), (k02, .inl (cy 1, 8, .inl (fun _ => 0))), (k03, .inl (cy 1, 8, .inl (fun _ => 0))), (k04, .inl (cy 1, 64, .inl (fun _ => 0))), (sh, .inr (8, [.ref sh0, .ref sh1, .ref sh2, .ref sh3, .ref sh4, .int 0, .int 0, .ref sh5])), (sh0, .inl (cy 1, 8, .inl (fun _ => 0))), (sh1, .inl (cy 1, 8, .inl (fun _ => 0))), (sh2, .inl (cy 1, 8, .inl (fun _ => 0))), (sh3, .inl (cy 1, 8, .inl (fun _ => 0))), (sh4, .inl (cy 1, 64, .inl (fun _ => 0))), (tr, .inr (8, [.ref tr0, .ref tr1, .ref tr2, .ref tr3, .ref tr4, .int 0, .int 0, .ref tr5])), (tr0, .inl (cy 1, 8, .inl (fun _ => 0))), (tr1, .inl (cy 1, 8, .inl (fun _ => 0))), (tr2, .inl (cy 1, 8, .inl (fun _ => 0))), (tr3, .inl (cy 1, 8, .inl (fun _ => 0))), (tr4, .inl (cy 1, 64, .inl (fun _ => 0)))]) (r_V (q0 := 0) (As := [.ref ta, .ref pl]) (rest := []) (wc := [(li, .inr (3, [.int 0, .int 0, .int 0, .int 0, .int 0, .int 0, .ref li0, .ref li1, .ref li2, .ref li3])), (ta, .inr (9, [.ref ta0, .int 0, .int 0, .int 0, .int 0, .int 0, .int 0, .int 0, .int 0, .int 0, .int 0]))]) C (q_subP hP [3, 1] rfl) (hD.sub [3, 1] (by decide) rfl) (c_LreadFrom l D cy li ta pl li0 li1 li2 li3 ta0 _ ) kwV_X3_readFrom kM_RX10_149 rfl rfl ⟨Nat.le_of_ble_eq_true rfl, Nat.le_of_ble_eq_true rfl⟩ rfl hl.1 rfl (Nat.le_of_ble_eq_true rfl) dX10_life_25 ⟨Nat.le_of_ble_eq_true rfl, Nat.le_of_ble_eq_true rfl⟩) C.2.2.2.2.2.2.1 hP hD hS [3, 1] [0, 2, 4, 5, 6, 7, 8, 9, 10, 11, 12, 13, 14, 15, 16, 17, 18, 19, 20, 21, 22, 23] rfl rfl (by decide) (by decide) (fun u_2 H locs hw_4 hP hD hS => ?_)
    have hP : va_P D vwCl [(h, .inr (10, [.ref ta, .ref pl, .ref sh, .ref tr, .ref fo, .ref li, .ref sp, .ref dr, .ref pa, .ref im, .ref fs, .ref ph, .ref cd, .int 0, .int 0])), (pl, .inr (6, [.int 4, .int 4, .int 10, .int 1, .int 3, .int 0, .int 0, .int 0, .ref pl0, .ref pl1, .ref pl2])), (pa, .inr (4, [.int 0, .int 0, .ref pa0])), (pa0, .inl (cy 5, 8, .inr (.inr (.inr (.inr kf))))), (k0, .inr (8, [.ref k00, .ref k01, .ref k02, .ref k03, .ref k04, .int 0, .int 0, .ref k05])), (k00, .inl (cy 1, 8, .inl (fun _ => 0))), (k01, .inl (cy 1, 8, .inl (fun _ => 0))), (k02, .inl (cy 1, 8, .inl (fun _ => 0))), (k03, .inl (cy 1, 8, .inl (fun _ => 0))), (k04, .inl (cy 1, 64, .inl (fun _ => 0))), (sh, .inr (8, [.ref sh0, .ref sh1, .ref sh2, .ref sh3, .ref sh4, .int 0, .int 0, .ref sh5])), (sh0, .inl (cy 1, 8, .inl (fun _ => 0))), (sh1, .inl (cy 1, 8, .inl (fun _ => 0))), (sh2, .inl (cy 1, 8, .inl (fun _ => 0))), (sh3, .inl (cy 1, 8, .inl (fun _ => 0))), (sh4, .inl (cy 1, 64, .inl (fun _ => 0))), (tr, .inr (8, [.ref tr0, .ref tr1, .ref tr2, .ref tr3, .ref tr4, .int 0, .int 0, .ref tr5])), (tr0, .inl (cy 1, 8, .inl (fun _ => 0))), (tr1, .inl (cy 1, 8, .inl (fun _ => 0))), (tr2, .inl (cy 1, 8, .inl (fun _ => 0))), (tr3, .inl (cy 1, 8, .inl (fun _ => 0))), (tr4, .inl (cy 1, 64, .inl (fun _ => 0))), (li, .inr (3, [.int 0, .int 0, .int 0, .int 0, .int 0, .int 0, .ref li0, .ref li1, .ref li2, .ref li3])), (ta, .inr (9, [.ref ta0, .int 0, .int 0, .int 0, .int 0, .int 0, .int 0, .int 0, .int 0, .int 0, .int 0]))] H := hP
    have hD : va_D A [(h, .inr (10, [.ref ta, .ref pl, .ref sh, .ref tr, .ref fo, .ref li, .ref sp, .ref dr, .ref pa, .ref im, .ref fs, .ref ph, .ref cd, .int 0, .int 0])), (pl, .inr (6, [.int 4, .int 4, .int 10, .int 1, .int 3, .int 0, .int 0, .int 0, .ref pl0, .ref pl1, .ref pl2])), (pa, .inr (4, [.int 0, .int 0, .ref pa0])), (pa0, .inl (cy 5, 8, .inr (.inr (.inr (.inr kf))))), (k0, .inr (8, [.ref k00, .ref k01, .ref k02, .ref k03, .ref k04, .int 0, .int 0, .ref k05])), (k00, .inl (cy 1, 8, .inl (fun _ => 0))), (k01, .inl (cy 1, 8, .inl (fun _ => 0))), (k02, .inl (cy 1, 8, .inl (fun _ => 0))), (k03, .inl (cy 1, 8, .inl (fun _ => 0))), (k04, .inl (cy 1, 64, .inl (fun _ => 0))), (sh, .inr (8, [.ref sh0, .ref sh1, .ref sh2, .ref sh3, .ref sh4, .int 0, .int 0, .ref sh5])), (sh0, .inl (cy 1, 8, .inl (fun _ => 0))), (sh1, .inl (cy 1, 8, .inl (fun _ => 0))), (sh2, .inl (cy 1, 8, .inl (fun _ => 0))), (sh3, .inl (cy 1, 8, .inl (fun _ => 0))), (sh4, .inl (cy 1, 64, .inl (fun _ => 0))), (tr, .inr (8, [.ref tr0, .ref tr1, .ref tr2, .ref tr3, .ref tr4, .int 0, .int 0, .ref tr5])), (tr0, .inl (cy 1, 8, .inl (fun _ => 0))), (tr1, .inl (cy 1, 8, .inl (fun _ => 0))), (tr2, .inl (cy 1, 8, .inl (fun _ => 0))), (tr3, .inl (cy 1, 8, .inl (fun _ => 0))), (tr4, .inl (cy 1, 64, .inl (fun _ => 0))), (li, .inr (3, [.int 0, .int 0, .int 0, .int 0, .int 0, .int 0, .ref li0, .ref li1, .ref li2, .ref li3])), (ta, .inr (9, [.ref ta0, .int 0, .int 0, .int 0, .int 0, .int 0, .int 0, .int 0, .int 0, .int 0, .int 0]))] := hD
    refine lv_aload_n hx hb dX10_life_28 rfl (lv_at hl 0 rfl) ?_
    refine q_get (v := .ref ta) C hP 0 0 rfl rfl inX10 (by decide) kF_RX10_10 rfl rfl dX10_life_29 ?_
    refine lv_iconst (v := 0) hx hb dX10_life_32 (by decide) ?_
    refine q_put (v := .int 0) (w' := [(h, .inr (10, [.ref ta, .ref pl, .ref sh, .ref tr, .ref fo, .ref li, .ref sp, .ref dr, .ref pa, .ref im, .ref fs, .ref ph, .ref cd, .int 0, .int 0])), (pl, .inr (6, [.int 4, .int 4, .int 10, .int 1, .int 3, .int 0, .int 0, .int 0, .ref pl0, .ref pl1, .ref pl2])), (pa, .inr (4, [.int 0, .int 0, .ref pa0])), (pa0, .inl (cy 5, 8, .inr (.inr (.inr (.inr kf))))), (k0, .inr (8, [.ref k00, .ref k01, .ref k02, .ref k03, .ref k04, .int 0, .int 0, .ref k05])), (k00, .inl (cy 1, 8, .inl (fun _ => 0))), (k01, .inl (cy 1, 8, .inl (fun _ => 0))), (k02, .inl (cy 1, 8, .inl (fun _ => 0))), (k03, .inl (cy 1, 8, .inl (fun _ => 0))), (k04, .inl (cy 1, 64, .inl (fun _ => 0))), (sh, .inr (8, [.ref sh0, .ref sh1, .ref sh2, .ref sh3, .ref sh4, .int 0, .int 0, .ref sh5])), (sh0, .inl (cy 1, 8, .inl (fun _ => 0))), (sh1, .inl (cy 1, 8, .inl (fun _ => 0))), (sh2, .inl (cy 1, 8, .inl (fun _ => 0))), (sh3, .inl (cy 1, 8, .inl (fun _ => 0))), (sh4, .inl (cy 1, 64, .inl (fun _ => 0))), (tr, .inr (8, [.ref tr0, .ref tr1, .ref tr2, .ref tr3, .ref tr4, .int 0, .int 0, .ref tr5])), (tr0, .inl (cy 1, 8, .inl (fun _ => 0))), (tr1, .inl (cy 1, 8, .inl (fun _ => 0))), (tr2, .inl (cy 1, 8, .inl (fun _ => 0))), (tr3, .inl (cy 1, 8, .inl (fun _ => 0))), (tr4, .inl (cy 1, 64, .inl (fun _ => 0))), (li, .inr (3, [.int 0, .int 0, .int 0, .int 0, .int 0, .int 0, .ref li0, .ref li1, .ref li2, .ref li3])), (ta, .inr (9, [.ref ta0, .int 0, .int 0, .int 0, .int 0, .int 0, .int 0, .int 0, .int 0, .int 0, .int 0]))]) (ty := .int) C hP hD hS 23 1 rfl rfl inX9 tyX9 tyX9_ok nmX9 (by decide) kF_RX10_96 rfl rfl rfl rfl rfl (Nat.le_of_ble_eq_true rfl) rfl dX10_life_33 (fun H locs hP hD hS => ?_)
    refine lv_aload_n hx hb dX10_life_36 rfl (lv_at hl 0 rfl) ?_
    refine lv_aload_n hx hb dX10_life_37 rfl (lv_at hl 0 rfl) ?_
    refine q_get (v := .ref ta) C hP 0 0 rfl rfl inX10 (by decide) kF_RX10_10 rfl rfl dX10_life_38 ?_
    refine q_get (v := .int 0) C hP 23 7 rfl rfl inX9 (by decide) kF_RX10_107 rfl rfl dX10_life_41 ?_
    refine q_put (v := .int 0) (w' := [(h, .inr (10, [.ref ta, .ref pl, .ref sh, .ref tr, .ref fo, .ref li, .ref sp, .ref dr, .ref pa, .ref im, .ref fs, .ref ph, .ref cd, .int 0, .int 0])), (pl, .inr (6, [.int 4, .int 4, .int 10, .int 1, .int 3, .int 0, .int 0, .int 0, .ref pl0, .ref pl1, .ref pl2])), (pa, .inr (4, [.int 0, .int 0, .ref pa0])), (pa0, .inl (cy 5, 8, .inr (.inr (.inr (.inr kf))))), (k0, .inr (8, [.ref k00, .ref k01, .ref k02, .ref k03, .ref k04, .int 0, .int 0, .ref k05])), (k00, .inl (cy 1, 8, .inl (fun _ => 0))), (k01, .inl (cy 1, 8, .inl (fun _ => 0))), (k02, .inl (cy 1, 8, .inl (fun _ => 0))), (k03, .inl (cy 1, 8, .inl (fun _ => 0))), (k04, .inl (cy 1, 64, .inl (fun _ => 0))), (sh, .inr (8, [.ref sh0, .ref sh1, .ref sh2, .ref sh3, .ref sh4, .int 0, .int 0, .ref sh5])), (sh0, .inl (cy 1, 8, .inl (fun _ => 0))), (sh1, .inl (cy 1, 8, .inl (fun _ => 0))), (sh2, .inl (cy 1, 8, .inl (fun _ => 0))), (sh3, .inl (cy 1, 8, .inl (fun _ => 0))), (sh4, .inl (cy 1, 64, .inl (fun _ => 0))), (tr, .inr (8, [.ref tr0, .ref tr1, .ref tr2, .ref tr3, .ref tr4, .int 0, .int 0, .ref tr5])), (tr0, .inl (cy 1, 8, .inl (fun _ => 0))), (tr1, .inl (cy 1, 8, .inl (fun _ => 0))), (tr2, .inl (cy 1, 8, .inl (fun _ => 0))), (tr3, .inl (cy 1, 8, .inl (fun _ => 0))), (tr4, .inl (cy 1, 64, .inl (fun _ => 0))), (li, .inr (3, [.int 0, .int 0, .int 0, .int 0, .int 0, .int 0, .ref li0, .ref li1, .ref li2, .ref li3])), (ta, .inr (9, [.ref ta0, .int 0, .int 0, .int 0, .int 0, .int 0, .int 0, .int 0, .int 0, .int 0, .int 0]))]) (ty := .int) C hP hD hS 0 14 rfl rfl inX10 tyX10 tyX10_ok nmX10 (by decide) kF_RX10_92 rfl rfl rfl rfl rfl (Nat.le_of_ble_eq_true rfl) rfl dX10_life_44 (fun H locs hP hD hS => ?_)
    refine lv_aload_n hx hb dX10_life_47 rfl (lv_at hl 0 rfl) ?_
    refine q_get (v := .int 0) C hP 0 14 rfl rfl inX10 (by decide) kF_RX10_92 rfl rfl dX10_life_48 ?_
    refine lv_if_eq (tgt := 65) hx hb dX10_life_51 (by decide) (fun _ => ?_) (fun c_0 => absurd (by decide) c_0)
    refine lv_aload_n hx hb dX10_life_65 rfl (lv_at hl 0 rfl) ?_
    refine q_get (v := .ref tr) C hP 0 3 rfl rfl inX10 (by decide) kF_RX10_30 rfl rfl dX10_life_66 ?_
    refine lv_aload_n hx hb dX10_life_69 rfl (lv_at hl 0 rfl) ?_
    refine q_get (v := .ref sh) C hP 0 2 rfl rfl inX10 (by decide) kF_RX10_26 rfl rfl dX10_life_70 ?_
    refine q_av (wr := [(h, .inr (10, [.ref ta, .ref pl, .ref sh, .ref tr, .ref fo, .ref li, .ref sp, .ref dr, .ref pa, .ref im, .ref fs, .ref ph, .ref cd, .int 0, .int 0])), (pl, .inr (6, [.int 4, .int 4, .int 10, .int 1, .int 3, .int 0, .int 0, .int 0, .ref pl0, .ref pl1, .ref pl2])), (pa, .inr (4, [.int 0, .int 0, .ref pa0])), (pa0, .inl (cy 5, 8, .inr (.inr (.inr (.inr kf))))), (k0, .inr (8, [.ref k00, .ref k01, .ref k02, .ref k03, .ref k04, .int 0, .int 0, .ref k05])), (k00, .inl (cy 1, 8, .inl (fun _ => 0))), (k01, .inl (cy 1, 8, .inl (fun _ => 0))), (k02, .inl (cy 1, 8, .inl (fun _ => 0))), (k03, .inl (cy 1, 8, .inl (fun _ => 0))), (k04, .inl (cy 1, 64, .inl (fun _ => 0))), (li, .inr (3, [.int 0, .int 0, .int 0, .int 0, .int 0, .int 0, .ref li0, .ref li1, .ref li2, .ref li3])), (ta, .inr (9, [.ref ta0, .int 0, .int 0, .int 0, .int 0, .int 0, .int 0, .int 0, .int 0, .int 0, .int 0]))]) (r_V (q0 := 0) (As := [.ref sh]) (rest := []) (wc := [(tr, .inr (8, [.ref tr0, .ref tr1, .ref tr2, .ref tr3, .ref tr4, .int 0, .int 0, .ref tr5])), (tr0, .inl (cy 1, 8, .inl (fun _ => 0))), (tr1, .inl (cy 1, 8, .inl (fun _ => 0))), (tr2, .inl (cy 1, 8, .inl (fun _ => 0))), (tr3, .inl (cy 1, 8, .inl (fun _ => 0))), (tr4, .inl (cy 1, 64, .inl (fun _ => 0))), (sh, .inr (8, [.ref sh0, .ref sh1, .ref sh2, .ref sh3, .ref sh4, .int 0, .int 0, .ref sh5])), (sh0, .inl (cy 1, 8, .inl (fun _ => 0))), (sh1, .inl (cy 1, 8, .inl (fun _ => 0))), (sh2, .inl (cy 1, 8, .inl (fun _ => 0))), (sh3, .inl (cy 1, 8, .inl (fun _ => 0))), (sh4, .inl (cy 1, 64, .inl (fun _ => 0)))]) C (q_subP hP [16, 17, 18, 19, 20, 21, 10, 11, 12, 13, 14, 15] rfl) (hD.sub [16, 17, 18, 19, 20, 21, 10, 11, 12, 13, 14, 15] (by decide) rfl) (c_Scopy l D cy tr sh tr0 tr1 tr2 tr3 tr4 0 0 tr5 sh0 sh1 sh2 sh3 sh4 0 0 sh5 _ ) kwV_X8_copyFrom kM_RX10_117 rfl rfl ⟨Nat.le_of_ble_eq_true rfl, Nat.le_of_ble_eq_true rfl⟩ rfl hl.1 rfl (Nat.le_of_ble_eq_true rfl) dX10_life_73 ⟨Nat.le_of_ble_eq_true rfl, Nat.le_of_ble_eq_true rfl⟩) C.2.2.2.2.2.2.1 hP hD hS [16, 17, 18, 19, 20, 21, 10, 11, 12, 13, 14, 15] [0, 1, 2, 3, 4, 5, 6, 7, 8, 9, 22, 23] rfl rfl (by decide) (by decide) (fun u_5 H locs hw_7 hP hD hS => ?_)
    have hP : va_P D vwCl [(h, .inr (10, [.ref ta, .ref pl, .ref sh, .ref tr, .ref fo, .ref li, .ref sp, .ref dr, .ref pa, .ref im, .ref fs, .ref ph, .ref cd, .int 0, .int 0])), (pl, .inr (6, [.int 4, .int 4, .int 10, .int 1, .int 3, .int 0, .int 0, .int 0, .ref pl0, .ref pl1, .ref pl2])), (pa, .inr (4, [.int 0, .int 0, .ref pa0])), (pa0, .inl (cy 5, 8, .inr (.inr (.inr (.inr kf))))), (k0, .inr (8, [.ref k00, .ref k01, .ref k02, .ref k03, .ref k04, .int 0, .int 0, .ref k05])), (k00, .inl (cy 1, 8, .inl (fun _ => 0))), (k01, .inl (cy 1, 8, .inl (fun _ => 0))), (k02, .inl (cy 1, 8, .inl (fun _ => 0))), (k03, .inl (cy 1, 8, .inl (fun _ => 0))), (k04, .inl (cy 1, 64, .inl (fun _ => 0))), (li, .inr (3, [.int 0, .int 0, .int 0, .int 0, .int 0, .int 0, .ref li0, .ref li1, .ref li2, .ref li3])), (ta, .inr (9, [.ref ta0, .int 0, .int 0, .int 0, .int 0, .int 0, .int 0, .int 0, .int 0, .int 0, .int 0])), (tr, .inr (8, [.ref tr0, .ref tr1, .ref tr2, .ref tr3, .ref tr4, .int 0, .int 0, .ref tr5])), (tr0, .inl (cy 1, 8, .inl (fun _ => 0))), (tr1, .inl (cy 1, 8, .inl (fun _ => 0))), (tr2, .inl (cy 1, 8, .inl (fun _ => 0))), (tr3, .inl (cy 1, 8, .inl (fun _ => 0))), (tr4, .inl (cy 1, 64, .inl (fun _ => 0))), (sh, .inr (8, [.ref sh0, .ref sh1, .ref sh2, .ref sh3, .ref sh4, .int 0, .int 0, .ref sh5])), (sh0, .inl (cy 1, 8, .inl (fun _ => 0))), (sh1, .inl (cy 1, 8, .inl (fun _ => 0))), (sh2, .inl (cy 1, 8, .inl (fun _ => 0))), (sh3, .inl (cy 1, 8, .inl (fun _ => 0))), (sh4, .inl (cy 1, 64, .inl (fun _ => 0)))] H := hP
    have hD : va_D A [(h, .inr (10, [.ref ta, .ref pl, .ref sh, .ref tr, .ref fo, .ref li, .ref sp, .ref dr, .ref pa, .ref im, .ref fs, .ref ph, .ref cd, .int 0, .int 0])), (pl, .inr (6, [.int 4, .int 4, .int 10, .int 1, .int 3, .int 0, .int 0, .int 0, .ref pl0, .ref pl1, .ref pl2])), (pa, .inr (4, [.int 0, .int 0, .ref pa0])), (pa0, .inl (cy 5, 8, .inr (.inr (.inr (.inr kf))))), (k0, .inr (8, [.ref k00, .ref k01, .ref k02, .ref k03, .ref k04, .int 0, .int 0, .ref k05])), (k00, .inl (cy 1, 8, .inl (fun _ => 0))), (k01, .inl (cy 1, 8, .inl (fun _ => 0))), (k02, .inl (cy 1, 8, .inl (fun _ => 0))), (k03, .inl (cy 1, 8, .inl (fun _ => 0))), (k04, .inl (cy 1, 64, .inl (fun _ => 0))), (li, .inr (3, [.int 0, .int 0, .int 0, .int 0, .int 0, .int 0, .ref li0, .ref li1, .ref li2, .ref li3])), (ta, .inr (9, [.ref ta0, .int 0, .int 0, .int 0, .int 0, .int 0, .int 0, .int 0, .int 0, .int 0, .int 0])), (tr, .inr (8, [.ref tr0, .ref tr1, .ref tr2, .ref tr3, .ref tr4, .int 0, .int 0, .ref tr5])), (tr0, .inl (cy 1, 8, .inl (fun _ => 0))), (tr1, .inl (cy 1, 8, .inl (fun _ => 0))), (tr2, .inl (cy 1, 8, .inl (fun _ => 0))), (tr3, .inl (cy 1, 8, .inl (fun _ => 0))), (tr4, .inl (cy 1, 64, .inl (fun _ => 0))), (sh, .inr (8, [.ref sh0, .ref sh1, .ref sh2, .ref sh3, .ref sh4, .int 0, .int 0, .ref sh5])), (sh0, .inl (cy 1, 8, .inl (fun _ => 0))), (sh1, .inl (cy 1, 8, .inl (fun _ => 0))), (sh2, .inl (cy 1, 8, .inl (fun _ => 0))), (sh3, .inl (cy 1, 8, .inl (fun _ => 0))), (sh4, .inl (cy 1, 64, .inl (fun _ => 0)))] := hD
    refine lv_aload_n hx hb dX10_life_76 rfl (lv_at hl 0 rfl) ?_
    refine q_get (v := .ref li) C hP 0 5 rfl rfl inX10 (by decide) kF_RX10_43 rfl rfl dX10_life_77 ?_
    refine lv_aload_n hx hb dX10_life_80 rfl (lv_at hl 0 rfl) ?_
    refine q_get (v := .ref pl) C hP 0 1 rfl rfl inX10 (by decide) kF_RX10_19 rfl rfl dX10_life_81 ?_
    refine lv_aload_n hx hb dX10_life_84 rfl (lv_at hl 0 rfl) ?_
    refine q_get (v := .ref tr) C hP 0 3 rfl rfl inX10 (by decide) kF_RX10_30 rfl rfl dX10_life_85 ?_
    refine q_av (wr := [(h, .inr (10, [.ref ta, .ref pl, .ref sh, .ref tr, .ref fo, .ref li, .ref sp, .ref dr, .ref pa, .ref im, .ref fs, .ref ph, .ref cd, .int 0, .int 0])), (pa, .inr (4, [.int 0, .int 0, .ref pa0])), (pa0, .inl (cy 5, 8, .inr (.inr (.inr (.inr kf))))), (k0, .inr (8, [.ref k00, .ref k01, .ref k02, .ref k03, .ref k04, .int 0, .int 0, .ref k05])), (k00, .inl (cy 1, 8, .inl (fun _ => 0))), (k01, .inl (cy 1, 8, .inl (fun _ => 0))), (k02, .inl (cy 1, 8, .inl (fun _ => 0))), (k03, .inl (cy 1, 8, .inl (fun _ => 0))), (k04, .inl (cy 1, 64, .inl (fun _ => 0))), (ta, .inr (9, [.ref ta0, .int 0, .int 0, .int 0, .int 0, .int 0, .int 0, .int 0, .int 0, .int 0, .int 0])), (tr0, .inl (cy 1, 8, .inl (fun _ => 0))), (tr1, .inl (cy 1, 8, .inl (fun _ => 0))), (tr2, .inl (cy 1, 8, .inl (fun _ => 0))), (tr3, .inl (cy 1, 8, .inl (fun _ => 0))), (tr4, .inl (cy 1, 64, .inl (fun _ => 0))), (sh, .inr (8, [.ref sh0, .ref sh1, .ref sh2, .ref sh3, .ref sh4, .int 0, .int 0, .ref sh5])), (sh0, .inl (cy 1, 8, .inl (fun _ => 0))), (sh1, .inl (cy 1, 8, .inl (fun _ => 0))), (sh2, .inl (cy 1, 8, .inl (fun _ => 0))), (sh3, .inl (cy 1, 8, .inl (fun _ => 0))), (sh4, .inl (cy 1, 64, .inl (fun _ => 0)))]) (r_V (q0 := 0) (As := [.ref pl, .ref tr]) (rest := []) (wc := [(li, .inr (3, [.int 0, .int 0, .int 0, .int 0, .int 0, .int 0, .ref li0, .ref li1, .ref li2, .ref li3])), (pl, .inr (6, [.int 4, .int 4, .int 10, .int 1, .int 3, .int 0, .int 0, .int 0, .ref pl0, .ref pl1, .ref pl2])), (tr, .inr (8, [.ref tr0, .ref tr1, .ref tr2, .ref tr3, .ref tr4, .int 0, .int 0, .ref tr5]))]) C (q_subP hP [10, 1, 12] rfl) (hD.sub [10, 1, 12] (by decide) rfl) (c_goThrough l D cy li pl tr li0 li1 li2 li3 pl0 pl1 pl2 tr0 tr1 tr2 tr3 tr4 tr5 _ ) kwV_X3_goThrough kM_RX10_150 rfl rfl ⟨Nat.le_of_ble_eq_true rfl, Nat.le_of_ble_eq_true rfl⟩ rfl hl.1 rfl (Nat.le_of_ble_eq_true rfl) dX10_life_88 ⟨Nat.le_of_ble_eq_true rfl, Nat.le_of_ble_eq_true rfl⟩) C.2.2.2.2.2.2.1 hP hD hS [10, 1, 12] [0, 2, 3, 4, 5, 6, 7, 8, 9, 11, 13, 14, 15, 16, 17, 18, 19, 20, 21, 22, 23] rfl rfl (by decide) (by decide) (fun u_8 H locs hw_10 hP hD hS => ?_)
    have hP : va_P D vwCl [(h, .inr (10, [.ref ta, .ref pl, .ref sh, .ref tr, .ref fo, .ref li, .ref sp, .ref dr, .ref pa, .ref im, .ref fs, .ref ph, .ref cd, .int 0, .int 0])), (pa, .inr (4, [.int 0, .int 0, .ref pa0])), (pa0, .inl (cy 5, 8, .inr (.inr (.inr (.inr kf))))), (k0, .inr (8, [.ref k00, .ref k01, .ref k02, .ref k03, .ref k04, .int 0, .int 0, .ref k05])), (k00, .inl (cy 1, 8, .inl (fun _ => 0))), (k01, .inl (cy 1, 8, .inl (fun _ => 0))), (k02, .inl (cy 1, 8, .inl (fun _ => 0))), (k03, .inl (cy 1, 8, .inl (fun _ => 0))), (k04, .inl (cy 1, 64, .inl (fun _ => 0))), (ta, .inr (9, [.ref ta0, .int 0, .int 0, .int 0, .int 0, .int 0, .int 0, .int 0, .int 0, .int 0, .int 0])), (tr0, .inl (cy 1, 8, .inl (fun _ => 0))), (tr1, .inl (cy 1, 8, .inl (fun _ => 0))), (tr2, .inl (cy 1, 8, .inl (fun _ => 0))), (tr3, .inl (cy 1, 8, .inl (fun _ => 0))), (tr4, .inl (cy 1, 64, .inl (fun _ => 0))), (sh, .inr (8, [.ref sh0, .ref sh1, .ref sh2, .ref sh3, .ref sh4, .int 0, .int 0, .ref sh5])), (sh0, .inl (cy 1, 8, .inl (fun _ => 0))), (sh1, .inl (cy 1, 8, .inl (fun _ => 0))), (sh2, .inl (cy 1, 8, .inl (fun _ => 0))), (sh3, .inl (cy 1, 8, .inl (fun _ => 0))), (sh4, .inl (cy 1, 64, .inl (fun _ => 0))), (li, .inr (3, [.int 1, .int 0, .int 0, .int 0, .int 0, .int 0, .ref li0, .ref li1, .ref li2, .ref li3])), (pl, .inr (6, [.int 4, .int 4, .int 10, .int 1, .int 3, .int 0, .int 0, .int 0, .ref pl0, .ref pl1, .ref pl2])), (tr, .inr (8, [.ref tr0, .ref tr1, .ref tr2, .ref tr3, .ref tr4, .int 0, .int 0, .ref tr5]))] H := hP
    have hD : va_D A [(h, .inr (10, [.ref ta, .ref pl, .ref sh, .ref tr, .ref fo, .ref li, .ref sp, .ref dr, .ref pa, .ref im, .ref fs, .ref ph, .ref cd, .int 0, .int 0])), (pa, .inr (4, [.int 0, .int 0, .ref pa0])), (pa0, .inl (cy 5, 8, .inr (.inr (.inr (.inr kf))))), (k0, .inr (8, [.ref k00, .ref k01, .ref k02, .ref k03, .ref k04, .int 0, .int 0, .ref k05])), (k00, .inl (cy 1, 8, .inl (fun _ => 0))), (k01, .inl (cy 1, 8, .inl (fun _ => 0))), (k02, .inl (cy 1, 8, .inl (fun _ => 0))), (k03, .inl (cy 1, 8, .inl (fun _ => 0))), (k04, .inl (cy 1, 64, .inl (fun _ => 0))), (ta, .inr (9, [.ref ta0, .int 0, .int 0, .int 0, .int 0, .int 0, .int 0, .int 0, .int 0, .int 0, .int 0])), (tr0, .inl (cy 1, 8, .inl (fun _ => 0))), (tr1, .inl (cy 1, 8, .inl (fun _ => 0))), (tr2, .inl (cy 1, 8, .inl (fun _ => 0))), (tr3, .inl (cy 1, 8, .inl (fun _ => 0))), (tr4, .inl (cy 1, 64, .inl (fun _ => 0))), (sh, .inr (8, [.ref sh0, .ref sh1, .ref sh2, .ref sh3, .ref sh4, .int 0, .int 0, .ref sh5])), (sh0, .inl (cy 1, 8, .inl (fun _ => 0))), (sh1, .inl (cy 1, 8, .inl (fun _ => 0))), (sh2, .inl (cy 1, 8, .inl (fun _ => 0))), (sh3, .inl (cy 1, 8, .inl (fun _ => 0))), (sh4, .inl (cy 1, 64, .inl (fun _ => 0))), (li, .inr (3, [.int 1, .int 0, .int 0, .int 0, .int 0, .int 0, .ref li0, .ref li1, .ref li2, .ref li3])), (pl, .inr (6, [.int 4, .int 4, .int 10, .int 1, .int 3, .int 0, .int 0, .int 0, .ref pl0, .ref pl1, .ref pl2])), (tr, .inr (8, [.ref tr0, .ref tr1, .ref tr2, .ref tr3, .ref tr4, .int 0, .int 0, .ref tr5]))] := hD
    refine lv_iload_n hx hb dX10_life_91 rfl (lv_at hl 1 rfl) ?_
    refine lv_iconst (v := 1) hx hb dX10_life_92 (by decide) ?_
    refine lv_icmp_ne (tgt := 100) hx hb dX10_life_93 (by decide) (fun _ => ?_) (fun c_0 => absurd c_0 ((not_congr Int32.toInt_inj.symm).mpr (by have z0 := (Int32.toInt_inj.symm).mp c_1; have e0 : (0 : Int32).toInt = 0 := (by decide); have e1 : (1 : Int32).toInt = 1 := (by decide); omega)))
    refine lv_aload_n hx hb dX10_life_100 rfl (lv_at hl 0 rfl) ?_
    refine q_get (v := .ref li) C hP 0 5 rfl rfl inX10 (by decide) kF_RX10_43 rfl rfl dX10_life_101 ?_
    refine q_get (v := .int 0) C hP 21 1 rfl rfl inX3 (by decide) kF_RX10_157 rfl rfl dX10_life_104 ?_
    refine lv_if_ne (tgt := 114) hx hb dX10_life_107 (by decide) (fun c_0 => absurd (by decide) c_0) (fun _ => ?_)
    refine lv_iconst (v := (-1)) hx hb dX10_life_110 (by decide) ?_
    refine lv_goto (tgt := 121) hx hb dX10_life_111 (by decide) ?_
    exact q_iret (rm := (Rm 4 122 0 0)) C hS () rfl (by have z0 := (Int32.toInt_inj.symm).mp c_1; have e0 : (0 : Int32).toInt = 0 := (by decide); show _ = if 0 ≤ n.toInt ∧ n.toInt ≤ 1 then -1 else -1000; repeat (first | rfl | rw [if_pos (by omega)] | rw [if_neg (by omega)])) (q_subP hP [] rfl) (hD.sub [] (by decide) rfl) (Nat.le_of_ble_eq_true rfl) (Nat.le_of_ble_eq_true rfl) dX10_life_121
  · refine lv_iload_n hx hb dX10_life_4 rfl (lv_at hl 1 rfl) ?_
    refine lv_iconst (v := 1) hx hb dX10_life_5 (by decide) ?_
    refine lv_icmp_eq (tgt := 13) hx hb dX10_life_6 (by decide) (fun c_11 => ?_) (fun c_11 => ?_)
    · refine lv_aload_n hx hb dX10_life_13 rfl (lv_at hl 0 rfl) ?_
      refine q_get (v := .ref li) C hP 0 5 rfl rfl inX10 (by decide) kF_RX10_43 rfl rfl dX10_life_14 ?_
      refine lv_aload_n hx hb dX10_life_17 rfl (lv_at hl 0 rfl) ?_
      refine q_get (v := .ref ta) C hP 0 0 rfl rfl inX10 (by decide) kF_RX10_10 rfl rfl dX10_life_18 ?_
      refine lv_aload_n hx hb dX10_life_21 rfl (lv_at hl 0 rfl) ?_
      refine q_get (v := .ref pl) C hP 0 1 rfl rfl inX10 (by decide) kF_RX10_19 rfl rfl dX10_life_22 ?_
      refine q_av (wr := [(h, .inr (10, [.ref ta, .ref pl, .ref sh, .ref tr, .ref fo, .ref li, .ref sp, .ref dr, .ref pa, .ref im, .ref fs, .ref ph, .ref cd, .int 0, .int 0])), (pl, .inr (6, [.int 4, .int 4, .int 10, .int 1, .int 3, .int 0, .int 0, .int 0, .ref pl0, .ref pl1, .ref pl2])), (pa, .inr (4, [.int 0, .int 0, .ref pa0])), (pa0, .inl (cy 5, 8, .inr (.inr (.inr (.inr kf))))), (k0, .inr (8, [.ref k00, .ref k01, .ref k02, .ref k03, .ref k04, .int 0, .int 0, .ref k05])), (k00, .inl (cy 1, 8, .inl (fun _ => 0))), (k01, .inl (cy 1, 8, .inl (fun _ => 0))), (k02, .inl (cy 1, 8, .inl (fun _ => 0))), (k03, .inl (cy 1, 8, .inl (fun _ => 0))), (k04, .inl (cy 1, 64, .inl (fun _ => 0))), (sh, .inr (8, [.ref sh0, .ref sh1, .ref sh2, .ref sh3, .ref sh4, .int 0, .int 0, .ref sh5])), (sh0, .inl (cy 1, 8, .inl (fun _ => 0))), (sh1, .inl (cy 1, 8, .inl (fun _ => 0))), (sh2, .inl (cy 1, 8, .inl (fun _ => 0))), (sh3, .inl (cy 1, 8, .inl (fun _ => 0))), (sh4, .inl (cy 1, 64, .inl (fun _ => 0))), (tr, .inr (8, [.ref tr0, .ref tr1, .ref tr2, .ref tr3, .ref tr4, .int 0, .int 0, .ref tr5])), (tr0, .inl (cy 1, 8, .inl (fun _ => 0))), (tr1, .inl (cy 1, 8, .inl (fun _ => 0))), (tr2, .inl (cy 1, 8, .inl (fun _ => 0))), (tr3, .inl (cy 1, 8, .inl (fun _ => 0))), (tr4, .inl (cy 1, 64, .inl (fun _ => 0)))]) (r_V (q0 := 0) (As := [.ref ta, .ref pl]) (rest := []) (wc := [(li, .inr (3, [.int 0, .int 0, .int 0, .int 0, .int 0, .int 0, .ref li0, .ref li1, .ref li2, .ref li3])), (ta, .inr (9, [.ref ta0, .int 0, .int 0, .int 0, .int 0, .int 0, .int 0, .int 0, .int 0, .int 0, .int 0]))]) C (q_subP hP [3, 1] rfl) (hD.sub [3, 1] (by decide) rfl) (c_LreadFrom l D cy li ta pl li0 li1 li2 li3 ta0 _ ) kwV_X3_readFrom kM_RX10_149 rfl rfl ⟨Nat.le_of_ble_eq_true rfl, Nat.le_of_ble_eq_true rfl⟩ rfl hl.1 rfl (Nat.le_of_ble_eq_true rfl) dX10_life_25 ⟨Nat.le_of_ble_eq_true rfl, Nat.le_of_ble_eq_true rfl⟩) C.2.2.2.2.2.2.1 hP hD hS [3, 1] [0, 2, 4, 5, 6, 7, 8, 9, 10, 11, 12, 13, 14, 15, 16, 17, 18, 19, 20, 21, 22, 23] rfl rfl (by decide) (by decide) (fun u_12 H locs hw_14 hP hD hS => ?_)
      have hP : va_P D vwCl [(h, .inr (10, [.ref ta, .ref pl, .ref sh, .ref tr, .ref fo, .ref li, .ref sp, .ref dr, .ref pa, .ref im, .ref fs, .ref ph, .ref cd, .int 0, .int 0])), (pl, .inr (6, [.int 4, .int 4, .int 10, .int 1, .int 3, .int 0, .int 0, .int 0, .ref pl0, .ref pl1, .ref pl2])), (pa, .inr (4, [.int 0, .int 0, .ref pa0])), (pa0, .inl (cy 5, 8, .inr (.inr (.inr (.inr kf))))), (k0, .inr (8, [.ref k00, .ref k01, .ref k02, .ref k03, .ref k04, .int 0, .int 0, .ref k05])), (k00, .inl (cy 1, 8, .inl (fun _ => 0))), (k01, .inl (cy 1, 8, .inl (fun _ => 0))), (k02, .inl (cy 1, 8, .inl (fun _ => 0))), (k03, .inl (cy 1, 8, .inl (fun _ => 0))), (k04, .inl (cy 1, 64, .inl (fun _ => 0))), (sh, .inr (8, [.ref sh0, .ref sh1, .ref sh2, .ref sh3, .ref sh4, .int 0, .int 0, .ref sh5])), (sh0, .inl (cy 1, 8, .inl (fun _ => 0))), (sh1, .inl (cy 1, 8, .inl (fun _ => 0))), (sh2, .inl (cy 1, 8, .inl (fun _ => 0))), (sh3, .inl (cy 1, 8, .inl (fun _ => 0))), (sh4, .inl (cy 1, 64, .inl (fun _ => 0))), (tr, .inr (8, [.ref tr0, .ref tr1, .ref tr2, .ref tr3, .ref tr4, .int 0, .int 0, .ref tr5])), (tr0, .inl (cy 1, 8, .inl (fun _ => 0))), (tr1, .inl (cy 1, 8, .inl (fun _ => 0))), (tr2, .inl (cy 1, 8, .inl (fun _ => 0))), (tr3, .inl (cy 1, 8, .inl (fun _ => 0))), (tr4, .inl (cy 1, 64, .inl (fun _ => 0))), (li, .inr (3, [.int 0, .int 0, .int 0, .int 0, .int 0, .int 0, .ref li0, .ref li1, .ref li2, .ref li3])), (ta, .inr (9, [.ref ta0, .int 0, .int 0, .int 0, .int 0, .int 0, .int 0, .int 0, .int 0, .int 0, .int 0]))] H := hP
      have hD : va_D A [(h, .inr (10, [.ref ta, .ref pl, .ref sh, .ref tr, .ref fo, .ref li, .ref sp, .ref dr, .ref pa, .ref im, .ref fs, .ref ph, .ref cd, .int 0, .int 0])), (pl, .inr (6, [.int 4, .int 4, .int 10, .int 1, .int 3, .int 0, .int 0, .int 0, .ref pl0, .ref pl1, .ref pl2])), (pa, .inr (4, [.int 0, .int 0, .ref pa0])), (pa0, .inl (cy 5, 8, .inr (.inr (.inr (.inr kf))))), (k0, .inr (8, [.ref k00, .ref k01, .ref k02, .ref k03, .ref k04, .int 0, .int 0, .ref k05])), (k00, .inl (cy 1, 8, .inl (fun _ => 0))), (k01, .inl (cy 1, 8, .inl (fun _ => 0))), (k02, .inl (cy 1, 8, .inl (fun _ => 0))), (k03, .inl (cy 1, 8, .inl (fun _ => 0))), (k04, .inl (cy 1, 64, .inl (fun _ => 0))), (sh, .inr (8, [.ref sh0, .ref sh1, .ref sh2, .ref sh3, .ref sh4, .int 0, .int 0, .ref sh5])), (sh0, .inl (cy 1, 8, .inl (fun _ => 0))), (sh1, .inl (cy 1, 8, .inl (fun _ => 0))), (sh2, .inl (cy 1, 8, .inl (fun _ => 0))), (sh3, .inl (cy 1, 8, .inl (fun _ => 0))), (sh4, .inl (cy 1, 64, .inl (fun _ => 0))), (tr, .inr (8, [.ref tr0, .ref tr1, .ref tr2, .ref tr3, .ref tr4, .int 0, .int 0, .ref tr5])), (tr0, .inl (cy 1, 8, .inl (fun _ => 0))), (tr1, .inl (cy 1, 8, .inl (fun _ => 0))), (tr2, .inl (cy 1, 8, .inl (fun _ => 0))), (tr3, .inl (cy 1, 8, .inl (fun _ => 0))), (tr4, .inl (cy 1, 64, .inl (fun _ => 0))), (li, .inr (3, [.int 0, .int 0, .int 0, .int 0, .int 0, .int 0, .ref li0, .ref li1, .ref li2, .ref li3])), (ta, .inr (9, [.ref ta0, .int 0, .int 0, .int 0, .int 0, .int 0, .int 0, .int 0, .int 0, .int 0, .int 0]))] := hD
      refine lv_aload_n hx hb dX10_life_28 rfl (lv_at hl 0 rfl) ?_
      refine q_get (v := .ref ta) C hP 0 0 rfl rfl inX10 (by decide) kF_RX10_10 rfl rfl dX10_life_29 ?_
      refine lv_iconst (v := 0) hx hb dX10_life_32 (by decide) ?_
      refine q_put (v := .int 0) (w' := [(h, .inr (10, [.ref ta, .ref pl, .ref sh, .ref tr, .ref fo, .ref li, .ref sp, .ref dr, .ref pa, .ref im, .ref fs, .ref ph, .ref cd, .int 0, .int 0])), (pl, .inr (6, [.int 4, .int 4, .int 10, .int 1, .int 3, .int 0, .int 0, .int 0, .ref pl0, .ref pl1, .ref pl2])), (pa, .inr (4, [.int 0, .int 0, .ref pa0])), (pa0, .inl (cy 5, 8, .inr (.inr (.inr (.inr kf))))), (k0, .inr (8, [.ref k00, .ref k01, .ref k02, .ref k03, .ref k04, .int 0, .int 0, .ref k05])), (k00, .inl (cy 1, 8, .inl (fun _ => 0))), (k01, .inl (cy 1, 8, .inl (fun _ => 0))), (k02, .inl (cy 1, 8, .inl (fun _ => 0))), (k03, .inl (cy 1, 8, .inl (fun _ => 0))), (k04, .inl (cy 1, 64, .inl (fun _ => 0))), (sh, .inr (8, [.ref sh0, .ref sh1, .ref sh2, .ref sh3, .ref sh4, .int 0, .int 0, .ref sh5])), (sh0, .inl (cy 1, 8, .inl (fun _ => 0))), (sh1, .inl (cy 1, 8, .inl (fun _ => 0))), (sh2, .inl (cy 1, 8, .inl (fun _ => 0))), (sh3, .inl (cy 1, 8, .inl (fun _ => 0))), (sh4, .inl (cy 1, 64, .inl (fun _ => 0))), (tr, .inr (8, [.ref tr0, .ref tr1, .ref tr2, .ref tr3, .ref tr4, .int 0, .int 0, .ref tr5])), (tr0, .inl (cy 1, 8, .inl (fun _ => 0))), (tr1, .inl (cy 1, 8, .inl (fun _ => 0))), (tr2, .inl (cy 1, 8, .inl (fun _ => 0))), (tr3, .inl (cy 1, 8, .inl (fun _ => 0))), (tr4, .inl (cy 1, 64, .inl (fun _ => 0))), (li, .inr (3, [.int 0, .int 0, .int 0, .int 0, .int 0, .int 0, .ref li0, .ref li1, .ref li2, .ref li3])), (ta, .inr (9, [.ref ta0, .int 0, .int 0, .int 0, .int 0, .int 0, .int 0, .int 0, .int 0, .int 0, .int 0]))]) (ty := .int) C hP hD hS 23 1 rfl rfl inX9 tyX9 tyX9_ok nmX9 (by decide) kF_RX10_96 rfl rfl rfl rfl rfl (Nat.le_of_ble_eq_true rfl) rfl dX10_life_33 (fun H locs hP hD hS => ?_)
      refine lv_aload_n hx hb dX10_life_36 rfl (lv_at hl 0 rfl) ?_
      refine lv_aload_n hx hb dX10_life_37 rfl (lv_at hl 0 rfl) ?_
      refine q_get (v := .ref ta) C hP 0 0 rfl rfl inX10 (by decide) kF_RX10_10 rfl rfl dX10_life_38 ?_
      refine q_get (v := .int 0) C hP 23 7 rfl rfl inX9 (by decide) kF_RX10_107 rfl rfl dX10_life_41 ?_
      refine q_put (v := .int 0) (w' := [(h, .inr (10, [.ref ta, .ref pl, .ref sh, .ref tr, .ref fo, .ref li, .ref sp, .ref dr, .ref pa, .ref im, .ref fs, .ref ph, .ref cd, .int 0, .int 0])), (pl, .inr (6, [.int 4, .int 4, .int 10, .int 1, .int 3, .int 0, .int 0, .int 0, .ref pl0, .ref pl1, .ref pl2])), (pa, .inr (4, [.int 0, .int 0, .ref pa0])), (pa0, .inl (cy 5, 8, .inr (.inr (.inr (.inr kf))))), (k0, .inr (8, [.ref k00, .ref k01, .ref k02, .ref k03, .ref k04, .int 0, .int 0, .ref k05])), (k00, .inl (cy 1, 8, .inl (fun _ => 0))), (k01, .inl (cy 1, 8, .inl (fun _ => 0))), (k02, .inl (cy 1, 8, .inl (fun _ => 0))), (k03, .inl (cy 1, 8, .inl (fun _ => 0))), (k04, .inl (cy 1, 64, .inl (fun _ => 0))), (sh, .inr (8, [.ref sh0, .ref sh1, .ref sh2, .ref sh3, .ref sh4, .int 0, .int 0, .ref sh5])), (sh0, .inl (cy 1, 8, .inl (fun _ => 0))), (sh1, .inl (cy 1, 8, .inl (fun _ => 0))), (sh2, .inl (cy 1, 8, .inl (fun _ => 0))), (sh3, .inl (cy 1, 8, .inl (fun _ => 0))), (sh4, .inl (cy 1, 64, .inl (fun _ => 0))), (tr, .inr (8, [.ref tr0, .ref tr1, .ref tr2, .ref tr3, .ref tr4, .int 0, .int 0, .ref tr5])), (tr0, .inl (cy 1, 8, .inl (fun _ => 0))), (tr1, .inl (cy 1, 8, .inl (fun _ => 0))), (tr2, .inl (cy 1, 8, .inl (fun _ => 0))), (tr3, .inl (cy 1, 8, .inl (fun _ => 0))), (tr4, .inl (cy 1, 64, .inl (fun _ => 0))), (li, .inr (3, [.int 0, .int 0, .int 0, .int 0, .int 0, .int 0, .ref li0, .ref li1, .ref li2, .ref li3])), (ta, .inr (9, [.ref ta0, .int 0, .int 0, .int 0, .int 0, .int 0, .int 0, .int 0, .int 0, .int 0, .int 0]))]) (ty := .int) C hP hD hS 0 14 rfl rfl inX10 tyX10 tyX10_ok nmX10 (by decide) kF_RX10_92 rfl rfl rfl rfl rfl (Nat.le_of_ble_eq_true rfl) rfl dX10_life_44 (fun H locs hP hD hS => ?_)
      refine lv_aload_n hx hb dX10_life_47 rfl (lv_at hl 0 rfl) ?_
      refine q_get (v := .int 0) C hP 0 14 rfl rfl inX10 (by decide) kF_RX10_92 rfl rfl dX10_life_48 ?_
      refine lv_if_eq (tgt := 65) hx hb dX10_life_51 (by decide) (fun _ => ?_) (fun c_0 => absurd (by decide) c_0)
      refine lv_aload_n hx hb dX10_life_65 rfl (lv_at hl 0 rfl) ?_
      refine q_get (v := .ref tr) C hP 0 3 rfl rfl inX10 (by decide) kF_RX10_30 rfl rfl dX10_life_66 ?_
      refine lv_aload_n hx hb dX10_life_69 rfl (lv_at hl 0 rfl) ?_
      refine q_get (v := .ref sh) C hP 0 2 rfl rfl inX10 (by decide) kF_RX10_26 rfl rfl dX10_life_70 ?_
      refine q_av (wr := [(h, .inr (10, [.ref ta, .ref pl, .ref sh, .ref tr, .ref fo, .ref li, .ref sp, .ref dr, .ref pa, .ref im, .ref fs, .ref ph, .ref cd, .int 0, .int 0])), (pl, .inr (6, [.int 4, .int 4, .int 10, .int 1, .int 3, .int 0, .int 0, .int 0, .ref pl0, .ref pl1, .ref pl2])), (pa, .inr (4, [.int 0, .int 0, .ref pa0])), (pa0, .inl (cy 5, 8, .inr (.inr (.inr (.inr kf))))), (k0, .inr (8, [.ref k00, .ref k01, .ref k02, .ref k03, .ref k04, .int 0, .int 0, .ref k05])), (k00, .inl (cy 1, 8, .inl (fun _ => 0))), (k01, .inl (cy 1, 8, .inl (fun _ => 0))), (k02, .inl (cy 1, 8, .inl (fun _ => 0))), (k03, .inl (cy 1, 8, .inl (fun _ => 0))), (k04, .inl (cy 1, 64, .inl (fun _ => 0))), (li, .inr (3, [.int 0, .int 0, .int 0, .int 0, .int 0, .int 0, .ref li0, .ref li1, .ref li2, .ref li3])), (ta, .inr (9, [.ref ta0, .int 0, .int 0, .int 0, .int 0, .int 0, .int 0, .int 0, .int 0, .int 0, .int 0]))]) (r_V (q0 := 0) (As := [.ref sh]) (rest := []) (wc := [(tr, .inr (8, [.ref tr0, .ref tr1, .ref tr2, .ref tr3, .ref tr4, .int 0, .int 0, .ref tr5])), (tr0, .inl (cy 1, 8, .inl (fun _ => 0))), (tr1, .inl (cy 1, 8, .inl (fun _ => 0))), (tr2, .inl (cy 1, 8, .inl (fun _ => 0))), (tr3, .inl (cy 1, 8, .inl (fun _ => 0))), (tr4, .inl (cy 1, 64, .inl (fun _ => 0))), (sh, .inr (8, [.ref sh0, .ref sh1, .ref sh2, .ref sh3, .ref sh4, .int 0, .int 0, .ref sh5])), (sh0, .inl (cy 1, 8, .inl (fun _ => 0))), (sh1, .inl (cy 1, 8, .inl (fun _ => 0))), (sh2, .inl (cy 1, 8, .inl (fun _ => 0))), (sh3, .inl (cy 1, 8, .inl (fun _ => 0))), (sh4, .inl (cy 1, 64, .inl (fun _ => 0)))]) C (q_subP hP [16, 17, 18, 19, 20, 21, 10, 11, 12, 13, 14, 15] rfl) (hD.sub [16, 17, 18, 19, 20, 21, 10, 11, 12, 13, 14, 15] (by decide) rfl) (c_Scopy l D cy tr sh tr0 tr1 tr2 tr3 tr4 0 0 tr5 sh0 sh1 sh2 sh3 sh4 0 0 sh5 _ ) kwV_X8_copyFrom kM_RX10_117 rfl rfl ⟨Nat.le_of_ble_eq_true rfl, Nat.le_of_ble_eq_true rfl⟩ rfl hl.1 rfl (Nat.le_of_ble_eq_true rfl) dX10_life_73 ⟨Nat.le_of_ble_eq_true rfl, Nat.le_of_ble_eq_true rfl⟩) C.2.2.2.2.2.2.1 hP hD hS [16, 17, 18, 19, 20, 21, 10, 11, 12, 13, 14, 15] [0, 1, 2, 3, 4, 5, 6, 7, 8, 9, 22, 23] rfl rfl (by decide) (by decide) (fun u_15 H locs hw_17 hP hD hS => ?_)
      have hP : va_P D vwCl [(h, .inr (10, [.ref ta, .ref pl, .ref sh, .ref tr, .ref fo, .ref li, .ref sp, .ref dr, .ref pa, .ref im, .ref fs, .ref ph, .ref cd, .int 0, .int 0])), (pl, .inr (6, [.int 4, .int 4, .int 10, .int 1, .int 3, .int 0, .int 0, .int 0, .ref pl0, .ref pl1, .ref pl2])), (pa, .inr (4, [.int 0, .int 0, .ref pa0])), (pa0, .inl (cy 5, 8, .inr (.inr (.inr (.inr kf))))), (k0, .inr (8, [.ref k00, .ref k01, .ref k02, .ref k03, .ref k04, .int 0, .int 0, .ref k05])), (k00, .inl (cy 1, 8, .inl (fun _ => 0))), (k01, .inl (cy 1, 8, .inl (fun _ => 0))), (k02, .inl (cy 1, 8, .inl (fun _ => 0))), (k03, .inl (cy 1, 8, .inl (fun _ => 0))), (k04, .inl (cy 1, 64, .inl (fun _ => 0))), (li, .inr (3, [.int 0, .int 0, .int 0, .int 0, .int 0, .int 0, .ref li0, .ref li1, .ref li2, .ref li3])), (ta, .inr (9, [.ref ta0, .int 0, .int 0, .int 0, .int 0, .int 0, .int 0, .int 0, .int 0, .int 0, .int 0])), (tr, .inr (8, [.ref tr0, .ref tr1, .ref tr2, .ref tr3, .ref tr4, .int 0, .int 0, .ref tr5])), (tr0, .inl (cy 1, 8, .inl (fun _ => 0))), (tr1, .inl (cy 1, 8, .inl (fun _ => 0))), (tr2, .inl (cy 1, 8, .inl (fun _ => 0))), (tr3, .inl (cy 1, 8, .inl (fun _ => 0))), (tr4, .inl (cy 1, 64, .inl (fun _ => 0))), (sh, .inr (8, [.ref sh0, .ref sh1, .ref sh2, .ref sh3, .ref sh4, .int 0, .int 0, .ref sh5])), (sh0, .inl (cy 1, 8, .inl (fun _ => 0))), (sh1, .inl (cy 1, 8, .inl (fun _ => 0))), (sh2, .inl (cy 1, 8, .inl (fun _ => 0))), (sh3, .inl (cy 1, 8, .inl (fun _ => 0))), (sh4, .inl (cy 1, 64, .inl (fun _ => 0)))] H := hP
      have hD : va_D A [(h, .inr (10, [.ref ta, .ref pl, .ref sh, .ref tr, .ref fo, .ref li, .ref sp, .ref dr, .ref pa, .ref im, .ref fs, .ref ph, .ref cd, .int 0, .int 0])), (pl, .inr (6, [.int 4, .int 4, .int 10, .int 1, .int 3, .int 0, .int 0, .int 0, .ref pl0, .ref pl1, .ref pl2])), (pa, .inr (4, [.int 0, .int 0, .ref pa0])), (pa0, .inl (cy 5, 8, .inr (.inr (.inr (.inr kf))))), (k0, .inr (8, [.ref k00, .ref k01, .ref k02, .ref k03, .ref k04, .int 0, .int 0, .ref k05])), (k00, .inl (cy 1, 8, .inl (fun _ => 0))), (k01, .inl (cy 1, 8, .inl (fun _ => 0))), (k02, .inl (cy 1, 8, .inl (fun _ => 0))), (k03, .inl (cy 1, 8, .inl (fun _ => 0))), (k04, .inl (cy 1, 64, .inl (fun _ => 0))), (li, .inr (3, [.int 0, .int 0, .int 0, .int 0, .int 0, .int 0, .ref li0, .ref li1, .ref li2, .ref li3])), (ta, .inr (9, [.ref ta0, .int 0, .int 0, .int 0, .int 0, .int 0, .int 0, .int 0, .int 0, .int 0, .int 0])), (tr, .inr (8, [.ref tr0, .ref tr1, .ref tr2, .ref tr3, .ref tr4, .int 0, .int 0, .ref tr5])), (tr0, .inl (cy 1, 8, .inl (fun _ => 0))), (tr1, .inl (cy 1, 8, .inl (fun _ => 0))), (tr2, .inl (cy 1, 8, .inl (fun _ => 0))), (tr3, .inl (cy 1, 8, .inl (fun _ => 0))), (tr4, .inl (cy 1, 64, .inl (fun _ => 0))), (sh, .inr (8, [.ref sh0, .ref sh1, .ref sh2, .ref sh3, .ref sh4, .int 0, .int 0, .ref sh5])), (sh0, .inl (cy 1, 8, .inl (fun _ => 0))), (sh1, .inl (cy 1, 8, .inl (fun _ => 0))), (sh2, .inl (cy 1, 8, .inl (fun _ => 0))), (sh3, .inl (cy 1, 8, .inl (fun _ => 0))), (sh4, .inl (cy 1, 64, .inl (fun _ => 0)))] := hD
      refine lv_aload_n hx hb dX10_life_76 rfl (lv_at hl 0 rfl) ?_
      refine q_get (v := .ref li) C hP 0 5 rfl rfl inX10 (by decide) kF_RX10_43 rfl rfl dX10_life_77 ?_
      refine lv_aload_n hx hb dX10_life_80 rfl (lv_at hl 0 rfl) ?_
      refine q_get (v := .ref pl) C hP 0 1 rfl rfl inX10 (by decide) kF_RX10_19 rfl rfl dX10_life_81 ?_
      refine lv_aload_n hx hb dX10_life_84 rfl (lv_at hl 0 rfl) ?_
      refine q_get (v := .ref tr) C hP 0 3 rfl rfl inX10 (by decide) kF_RX10_30 rfl rfl dX10_life_85 ?_
      refine q_av (wr := [(h, .inr (10, [.ref ta, .ref pl, .ref sh, .ref tr, .ref fo, .ref li, .ref sp, .ref dr, .ref pa, .ref im, .ref fs, .ref ph, .ref cd, .int 0, .int 0])), (pa, .inr (4, [.int 0, .int 0, .ref pa0])), (pa0, .inl (cy 5, 8, .inr (.inr (.inr (.inr kf))))), (k0, .inr (8, [.ref k00, .ref k01, .ref k02, .ref k03, .ref k04, .int 0, .int 0, .ref k05])), (k00, .inl (cy 1, 8, .inl (fun _ => 0))), (k01, .inl (cy 1, 8, .inl (fun _ => 0))), (k02, .inl (cy 1, 8, .inl (fun _ => 0))), (k03, .inl (cy 1, 8, .inl (fun _ => 0))), (k04, .inl (cy 1, 64, .inl (fun _ => 0))), (ta, .inr (9, [.ref ta0, .int 0, .int 0, .int 0, .int 0, .int 0, .int 0, .int 0, .int 0, .int 0, .int 0])), (tr0, .inl (cy 1, 8, .inl (fun _ => 0))), (tr1, .inl (cy 1, 8, .inl (fun _ => 0))), (tr2, .inl (cy 1, 8, .inl (fun _ => 0))), (tr3, .inl (cy 1, 8, .inl (fun _ => 0))), (tr4, .inl (cy 1, 64, .inl (fun _ => 0))), (sh, .inr (8, [.ref sh0, .ref sh1, .ref sh2, .ref sh3, .ref sh4, .int 0, .int 0, .ref sh5])), (sh0, .inl (cy 1, 8, .inl (fun _ => 0))), (sh1, .inl (cy 1, 8, .inl (fun _ => 0))), (sh2, .inl (cy 1, 8, .inl (fun _ => 0))), (sh3, .inl (cy 1, 8, .inl (fun _ => 0))), (sh4, .inl (cy 1, 64, .inl (fun _ => 0)))]) (r_V (q0 := 0) (As := [.ref pl, .ref tr]) (rest := []) (wc := [(li, .inr (3, [.int 0, .int 0, .int 0, .int 0, .int 0, .int 0, .ref li0, .ref li1, .ref li2, .ref li3])), (pl, .inr (6, [.int 4, .int 4, .int 10, .int 1, .int 3, .int 0, .int 0, .int 0, .ref pl0, .ref pl1, .ref pl2])), (tr, .inr (8, [.ref tr0, .ref tr1, .ref tr2, .ref tr3, .ref tr4, .int 0, .int 0, .ref tr5]))]) C (q_subP hP [10, 1, 12] rfl) (hD.sub [10, 1, 12] (by decide) rfl) (c_goThrough l D cy li pl tr li0 li1 li2 li3 pl0 pl1 pl2 tr0 tr1 tr2 tr3 tr4 tr5 _ ) kwV_X3_goThrough kM_RX10_150 rfl rfl ⟨Nat.le_of_ble_eq_true rfl, Nat.le_of_ble_eq_true rfl⟩ rfl hl.1 rfl (Nat.le_of_ble_eq_true rfl) dX10_life_88 ⟨Nat.le_of_ble_eq_true rfl, Nat.le_of_ble_eq_true rfl⟩) C.2.2.2.2.2.2.1 hP hD hS [10, 1, 12] [0, 2, 3, 4, 5, 6, 7, 8, 9, 11, 13, 14, 15, 16, 17, 18, 19, 20, 21, 22, 23] rfl rfl (by decide) (by decide) (fun u_18 H locs hw_20 hP hD hS => ?_)
      have hP : va_P D vwCl [(h, .inr (10, [.ref ta, .ref pl, .ref sh, .ref tr, .ref fo, .ref li, .ref sp, .ref dr, .ref pa, .ref im, .ref fs, .ref ph, .ref cd, .int 0, .int 0])), (pa, .inr (4, [.int 0, .int 0, .ref pa0])), (pa0, .inl (cy 5, 8, .inr (.inr (.inr (.inr kf))))), (k0, .inr (8, [.ref k00, .ref k01, .ref k02, .ref k03, .ref k04, .int 0, .int 0, .ref k05])), (k00, .inl (cy 1, 8, .inl (fun _ => 0))), (k01, .inl (cy 1, 8, .inl (fun _ => 0))), (k02, .inl (cy 1, 8, .inl (fun _ => 0))), (k03, .inl (cy 1, 8, .inl (fun _ => 0))), (k04, .inl (cy 1, 64, .inl (fun _ => 0))), (ta, .inr (9, [.ref ta0, .int 0, .int 0, .int 0, .int 0, .int 0, .int 0, .int 0, .int 0, .int 0, .int 0])), (tr0, .inl (cy 1, 8, .inl (fun _ => 0))), (tr1, .inl (cy 1, 8, .inl (fun _ => 0))), (tr2, .inl (cy 1, 8, .inl (fun _ => 0))), (tr3, .inl (cy 1, 8, .inl (fun _ => 0))), (tr4, .inl (cy 1, 64, .inl (fun _ => 0))), (sh, .inr (8, [.ref sh0, .ref sh1, .ref sh2, .ref sh3, .ref sh4, .int 0, .int 0, .ref sh5])), (sh0, .inl (cy 1, 8, .inl (fun _ => 0))), (sh1, .inl (cy 1, 8, .inl (fun _ => 0))), (sh2, .inl (cy 1, 8, .inl (fun _ => 0))), (sh3, .inl (cy 1, 8, .inl (fun _ => 0))), (sh4, .inl (cy 1, 64, .inl (fun _ => 0))), (li, .inr (3, [.int 1, .int 0, .int 0, .int 0, .int 0, .int 0, .ref li0, .ref li1, .ref li2, .ref li3])), (pl, .inr (6, [.int 4, .int 4, .int 10, .int 1, .int 3, .int 0, .int 0, .int 0, .ref pl0, .ref pl1, .ref pl2])), (tr, .inr (8, [.ref tr0, .ref tr1, .ref tr2, .ref tr3, .ref tr4, .int 0, .int 0, .ref tr5]))] H := hP
      have hD : va_D A [(h, .inr (10, [.ref ta, .ref pl, .ref sh, .ref tr, .ref fo, .ref li, .ref sp, .ref dr, .ref pa, .ref im, .ref fs, .ref ph, .ref cd, .int 0, .int 0])), (pa, .inr (4, [.int 0, .int 0, .ref pa0])), (pa0, .inl (cy 5, 8, .inr (.inr (.inr (.inr kf))))), (k0, .inr (8, [.ref k00, .ref k01, .ref k02, .ref k03, .ref k04, .int 0, .int 0, .ref k05])), (k00, .inl (cy 1, 8, .inl (fun _ => 0))), (k01, .inl (cy 1, 8, .inl (fun _ => 0))), (k02, .inl (cy 1, 8, .inl (fun _ => 0))), (k03, .inl (cy 1, 8, .inl (fun _ => 0))), (k04, .inl (cy 1, 64, .inl (fun _ => 0))), (ta, .inr (9, [.ref ta0, .int 0, .int 0, .int 0, .int 0, .int 0, .int 0, .int 0, .int 0, .int 0, .int 0])), (tr0, .inl (cy 1, 8, .inl (fun _ => 0))), (tr1, .inl (cy 1, 8, .inl (fun _ => 0))), (tr2, .inl (cy 1, 8, .inl (fun _ => 0))), (tr3, .inl (cy 1, 8, .inl (fun _ => 0))), (tr4, .inl (cy 1, 64, .inl (fun _ => 0))), (sh, .inr (8, [.ref sh0, .ref sh1, .ref sh2, .ref sh3, .ref sh4, .int 0, .int 0, .ref sh5])), (sh0, .inl (cy 1, 8, .inl (fun _ => 0))), (sh1, .inl (cy 1, 8, .inl (fun _ => 0))), (sh2, .inl (cy 1, 8, .inl (fun _ => 0))), (sh3, .inl (cy 1, 8, .inl (fun _ => 0))), (sh4, .inl (cy 1, 64, .inl (fun _ => 0))), (li, .inr (3, [.int 1, .int 0, .int 0, .int 0, .int 0, .int 0, .ref li0, .ref li1, .ref li2, .ref li3])), (pl, .inr (6, [.int 4, .int 4, .int 10, .int 1, .int 3, .int 0, .int 0, .int 0, .ref pl0, .ref pl1, .ref pl2])), (tr, .inr (8, [.ref tr0, .ref tr1, .ref tr2, .ref tr3, .ref tr4, .int 0, .int 0, .ref tr5]))] := hD
      refine lv_iload_n hx hb dX10_life_91 rfl (lv_at hl 1 rfl) ?_
      refine lv_iconst (v := 1) hx hb dX10_life_92 (by decide) ?_
      refine lv_icmp_ne (tgt := 100) hx hb dX10_life_93 (by decide) (fun c_0 => absurd ((Int32.toInt_inj.symm).mpr (by have z0 := (not_congr Int32.toInt_inj.symm).mp c_1; have z1 := (Int32.toInt_inj.symm).mp c_11; have e0 : (0 : Int32).toInt = 0 := (by decide); have e1 : (1 : Int32).toInt = 1 := (by decide); omega)) c_0) (fun _ => ?_)
      refine lv_aload_n hx hb dX10_life_96 rfl (lv_at hl 0 rfl) ?_
      refine q_av (wr := [(ta, .inr (9, [.ref ta0, .int 0, .int 0, .int 0, .int 0, .int 0, .int 0, .int 0, .int 0, .int 0, .int 0])), (li, .inr (3, [.int 1, .int 0, .int 0, .int 0, .int 0, .int 0, .ref li0, .ref li1, .ref li2, .ref li3])), (pl, .inr (6, [.int 4, .int 4, .int 10, .int 1, .int 3, .int 0, .int 0, .int 0, .ref pl0, .ref pl1, .ref pl2]))]) (r_V (q0 := 0) (As := []) (rest := []) (wc := [(h, .inr (10, [.ref ta, .ref pl, .ref sh, .ref tr, .ref fo, .ref li, .ref sp, .ref dr, .ref pa, .ref im, .ref fs, .ref ph, .ref cd, .int 0, .int 0])), (pa, .inr (4, [.int 0, .int 0, .ref pa0])), (pa0, .inl (cy 5, 8, .inr (.inr (.inr (.inr kf))))), (k0, .inr (8, [.ref k00, .ref k01, .ref k02, .ref k03, .ref k04, .int 0, .int 0, .ref k05])), (k00, .inl (cy 1, 8, .inl (fun _ => 0))), (k01, .inl (cy 1, 8, .inl (fun _ => 0))), (k02, .inl (cy 1, 8, .inl (fun _ => 0))), (k03, .inl (cy 1, 8, .inl (fun _ => 0))), (k04, .inl (cy 1, 64, .inl (fun _ => 0))), (sh, .inr (8, [.ref sh0, .ref sh1, .ref sh2, .ref sh3, .ref sh4, .int 0, .int 0, .ref sh5])), (sh0, .inl (cy 1, 8, .inl (fun _ => 0))), (sh1, .inl (cy 1, 8, .inl (fun _ => 0))), (sh2, .inl (cy 1, 8, .inl (fun _ => 0))), (sh3, .inl (cy 1, 8, .inl (fun _ => 0))), (sh4, .inl (cy 1, 64, .inl (fun _ => 0))), (tr, .inr (8, [.ref tr0, .ref tr1, .ref tr2, .ref tr3, .ref tr4, .int 0, .int 0, .ref tr5])), (tr0, .inl (cy 1, 8, .inl (fun _ => 0))), (tr1, .inl (cy 1, 8, .inl (fun _ => 0))), (tr2, .inl (cy 1, 8, .inl (fun _ => 0))), (tr3, .inl (cy 1, 8, .inl (fun _ => 0))), (tr4, .inl (cy 1, 64, .inl (fun _ => 0)))]) C (q_subP hP [0, 1, 2, 3, 4, 5, 6, 7, 8, 15, 16, 17, 18, 19, 20, 23, 10, 11, 12, 13, 14] rfl) (hD.sub [0, 1, 2, 3, 4, 5, 6, 7, 8, 15, 16, 17, 18, 19, 20, 23, 10, 11, 12, 13, 14] (by decide) rfl) (c_takeTrial l D cy h ta pl sh tr fo li sp dr pa im fs ph cd pa0 kf k0 k00 k01 k02 k03 k04 k05 sh0 sh1 sh2 sh3 sh4 sh5 tr0 tr1 tr2 tr3 tr4 0 tr5 _ hk) kwV_X10_takeTrial kM_RX10_154 rfl rfl ⟨Nat.le_of_ble_eq_true rfl, Nat.le_of_ble_eq_true rfl⟩ rfl hl.1 rfl (Nat.le_of_ble_eq_true rfl) dX10_life_97 ⟨Nat.le_of_ble_eq_true rfl, Nat.le_of_ble_eq_true rfl⟩) C.2.2.2.2.2.2.1 hP hD hS [0, 1, 2, 3, 4, 5, 6, 7, 8, 15, 16, 17, 18, 19, 20, 23, 10, 11, 12, 13, 14] [9, 21, 22] rfl rfl (by decide) (by decide) (fun u_21 H locs hw_23 hP hD hS => ?_)
      have hP : va_P D vwCl [(ta, .inr (9, [.ref ta0, .int 0, .int 0, .int 0, .int 0, .int 0, .int 0, .int 0, .int 0, .int 0, .int 0])), (li, .inr (3, [.int 1, .int 0, .int 0, .int 0, .int 0, .int 0, .ref li0, .ref li1, .ref li2, .ref li3])), (pl, .inr (6, [.int 4, .int 4, .int 10, .int 1, .int 3, .int 0, .int 0, .int 0, .ref pl0, .ref pl1, .ref pl2])), (h, .inr (10, [.ref ta, .ref pl, .ref sh, .ref tr, .ref fo, .ref li, .ref sp, .ref dr, .ref pa, .ref im, .ref fs, .ref ph, .ref cd, .int 0, .int 0]))] H := hP
      have hD : va_D A [(ta, .inr (9, [.ref ta0, .int 0, .int 0, .int 0, .int 0, .int 0, .int 0, .int 0, .int 0, .int 0, .int 0])), (li, .inr (3, [.int 1, .int 0, .int 0, .int 0, .int 0, .int 0, .ref li0, .ref li1, .ref li2, .ref li3])), (pl, .inr (6, [.int 4, .int 4, .int 10, .int 1, .int 3, .int 0, .int 0, .int 0, .ref pl0, .ref pl1, .ref pl2])), (h, .inr (10, [.ref ta, .ref pl, .ref sh, .ref tr, .ref fo, .ref li, .ref sp, .ref dr, .ref pa, .ref im, .ref fs, .ref ph, .ref cd, .int 0, .int 0]))] := hD
      refine lv_aload_n hx hb dX10_life_100 rfl (lv_at hl 0 rfl) ?_
      refine q_get (v := .ref li) C hP 3 5 rfl rfl inX10 (by decide) kF_RX10_43 rfl rfl dX10_life_101 ?_
      refine q_get (v := .int 0) C hP 1 1 rfl rfl inX3 (by decide) kF_RX10_157 rfl rfl dX10_life_104 ?_
      refine lv_if_ne (tgt := 114) hx hb dX10_life_107 (by decide) (fun c_0 => absurd (by decide) c_0) (fun _ => ?_)
      refine lv_iconst (v := (-1)) hx hb dX10_life_110 (by decide) ?_
      refine lv_goto (tgt := 121) hx hb dX10_life_111 (by decide) ?_
      exact q_iret (rm := (Rm 4 122 0 0)) C hS () rfl (by have z0 := (not_congr Int32.toInt_inj.symm).mp c_1; have z1 := (Int32.toInt_inj.symm).mp c_11; have e0 : (0 : Int32).toInt = 0 := (by decide); have e1 : (1 : Int32).toInt = 1 := (by decide); show _ = if 0 ≤ n.toInt ∧ n.toInt ≤ 1 then -1 else -1000; repeat (first | rfl | rw [if_pos (by omega)] | rw [if_neg (by omega)])) (q_subP hP [] rfl) (hD.sub [] (by decide) rfl) (Nat.le_of_ble_eq_true rfl) (Nat.le_of_ble_eq_true rfl) dX10_life_121
    · refine lv_sipush (v := (-1000)) hx hb dX10_life_9 (by decide) ?_
      exact q_iret (rm := (Rm 4 122 0 0)) C hS () rfl (by have z0 := (not_congr Int32.toInt_inj.symm).mp c_1; have z1 := (not_congr Int32.toInt_inj.symm).mp c_11; have e0 : (0 : Int32).toInt = 0 := (by decide); have e1 : (1 : Int32).toInt = 1 := (by decide); show _ = if 0 ≤ n.toInt ∧ n.toInt ≤ 1 then -1 else -1000; repeat (first | rfl | rw [if_pos (by omega)] | rw [if_neg (by omega)])) (q_subP hP [] rfl) (hD.sub [] (by decide) rfl) (Nat.le_of_ble_eq_true rfl) (Nat.le_of_ble_eq_true rfl) dX10_life_12
