theorem dX1_readFrom_0 : decode cX1_readFrom 0 = .ok (.aload_n 0, 1) := by decide +kernel
theorem dX1_readFrom_1 : decode cX1_readFrom 1 = .ok (.getfield 12, 3) := by decide +kernel
theorem dX1_readFrom_4 : decode cX1_readFrom 4 = .ok (.invokevirtual 42, 3) := by decide +kernel
theorem kwV_X6_empty : MwV RX6 yX6_empty cX6_empty 2 none 0 := ⟨List.mem_filter.mpr ⟨List.mem_of_getElem? (i := 646) (by decide +kernel), by decide +kernel⟩, List.mem_filter.mpr ⟨List.mem_of_getElem? (i := 644) (by decide +kernel), by decide +kernel⟩, List.mem_filter.mpr ⟨List.mem_of_getElem? (i := 645) (by decide +kernel), by decide +kernel⟩, List.mem_filter.mpr ⟨List.mem_of_getElem? (i := 130) (by decide +kernel), by decide +kernel⟩, by decide +kernel⟩
theorem kM_RX1_42 : Cond.methodLink RX1 42 yX6_empty ∈ gT := List.mem_filter.mpr ⟨List.mem_of_getElem? (i := 643) (by decide +kernel), by decide +kernel⟩
theorem dX1_readFrom_7 : decode cX1_readFrom 7 = .ok (.aload_n 0, 1) := by decide +kernel
theorem dX1_readFrom_8 : decode cX1_readFrom 8 = .ok (.getfield 21, 3) := by decide +kernel
theorem dX1_readFrom_11 : decode cX1_readFrom 11 = .ok (.invokevirtual 45, 3) := by decide +kernel
theorem kwV_X8_empty : MwV RX8 yX8_empty cX8_empty 2 none 0 := ⟨List.mem_filter.mpr ⟨List.mem_of_getElem? (i := 650) (by decide +kernel), by decide +kernel⟩, List.mem_filter.mpr ⟨List.mem_of_getElem? (i := 648) (by decide +kernel), by decide +kernel⟩, List.mem_filter.mpr ⟨List.mem_of_getElem? (i := 649) (by decide +kernel), by decide +kernel⟩, List.mem_filter.mpr ⟨List.mem_of_getElem? (i := 131) (by decide +kernel), by decide +kernel⟩, by decide +kernel⟩
theorem kM_RX1_45 : Cond.methodLink RX1 45 yX8_empty ∈ gT := List.mem_filter.mpr ⟨List.mem_of_getElem? (i := 647) (by decide +kernel), by decide +kernel⟩
theorem dX1_readFrom_14 : decode cX1_readFrom 14 = .ok (.aload_n 0, 1) := by decide +kernel
theorem dX1_readFrom_15 : decode cX1_readFrom 15 = .ok (.iconst 0, 1) := by decide +kernel
theorem dX1_readFrom_16 : decode cX1_readFrom 16 = .ok (.putfield 29, 3) := by decide +kernel
theorem dX1_readFrom_19 : decode cX1_readFrom 19 = .ok (.aload_n 0, 1) := by decide +kernel
theorem dX1_readFrom_20 : decode cX1_readFrom 20 = .ok (.iconst 0, 1) := by decide +kernel
theorem dX1_readFrom_21 : decode cX1_readFrom 21 = .ok (.putfield 33, 3) := by decide +kernel
theorem dX1_readFrom_24 : decode cX1_readFrom 24 = .ok (.iconst 0, 1) := by decide +kernel
theorem dX1_readFrom_25 : decode cX1_readFrom 25 = .ok (.istore_n 2, 1) := by decide +kernel
theorem dX1_readFrom_26 : decode cX1_readFrom 26 = .ok (.iload_n 2, 1) := by decide +kernel
theorem dX1_readFrom_27 : decode cX1_readFrom 27 = .ok (.bipush 8, 2) := by decide +kernel
theorem dX1_readFrom_29 : decode cX1_readFrom 29 = .ok (.if_icmp .ge 16, 3) := by decide +kernel
theorem dX1_readFrom_32 : decode cX1_readFrom 32 = .ok (.aload_n 0, 1) := by decide +kernel
theorem dX1_readFrom_33 : decode cX1_readFrom 33 = .ok (.getfield 25, 3) := by decide +kernel
theorem dX1_readFrom_36 : decode cX1_readFrom 36 = .ok (.iload_n 2, 1) := by decide +kernel
theorem dX1_readFrom_37 : decode cX1_readFrom 37 = .ok (.iconst 0, 1) := by decide +kernel
theorem dX1_readFrom_38 : decode cX1_readFrom 38 = .ok (.iastore, 1) := by decide +kernel
theorem dX1_readFrom_39 : decode cX1_readFrom 39 = .ok (.iinc 2 1, 3) := by decide +kernel
theorem dX1_readFrom_42 : decode cX1_readFrom 42 = .ok (.goto (-16), 3) := by decide +kernel
theorem dX1_readFrom_45 : decode cX1_readFrom 45 = .ok (.aload_n 1, 1) := by decide +kernel
theorem dX1_readFrom_46 : decode cX1_readFrom 46 = .ok (.sipush 900, 3) := by decide +kernel
theorem dX1_readFrom_49 : decode cX1_readFrom 49 = .ok (.invokevirtual 46, 3) := by decide +kernel
theorem kwV_X9_open : MwV RX9 yX9_open cX9_open 2 none 1 := ⟨List.mem_filter.mpr ⟨List.mem_of_getElem? (i := 654) (by decide +kernel), by decide +kernel⟩, List.mem_filter.mpr ⟨List.mem_of_getElem? (i := 652) (by decide +kernel), by decide +kernel⟩, List.mem_filter.mpr ⟨List.mem_of_getElem? (i := 653) (by decide +kernel), by decide +kernel⟩, List.mem_filter.mpr ⟨List.mem_of_getElem? (i := 129) (by decide +kernel), by decide +kernel⟩, by decide +kernel⟩
theorem kM_RX1_46 : Cond.methodLink RX1 46 yX9_open ∈ gT := List.mem_filter.mpr ⟨List.mem_of_getElem? (i := 651) (by decide +kernel), by decide +kernel⟩
theorem dX1_readFrom_52 : decode cX1_readFrom 52 = .ok (.iconst 0, 1) := by decide +kernel
theorem dX1_readFrom_53 : decode cX1_readFrom 53 = .ok (.istore_n 2, 1) := by decide +kernel
theorem dX1_readFrom_54 : decode cX1_readFrom 54 = .ok (.iload_n 2, 1) := by decide +kernel
theorem dX1_readFrom_55 : decode cX1_readFrom 55 = .ok (.sipush 900, 3) := by decide +kernel
theorem dX1_readFrom_58 : decode cX1_readFrom 58 = .ok (.if_icmp .ge 35, 3) := by decide +kernel
theorem dX1_readFrom_61 : decode cX1_readFrom 61 = .ok (.aload_n 1, 1) := by decide +kernel
theorem dX1_readFrom_62 : decode cX1_readFrom 62 = .ok (.getfield 52, 3) := by decide +kernel
theorem kF_RX1_52 : Cond.fieldLink RX1 52 "CobwebLibrary$Tape" "kind" "I" ∈ gT := List.mem_filter.mpr ⟨List.mem_of_getElem? (i := 173) (by decide +kernel), by decide +kernel⟩
theorem dX1_readFrom_65 : decode cX1_readFrom 65 = .ok (.ifCond .eq 28, 3) := by decide +kernel
theorem dX1_readFrom_93 : decode cX1_readFrom 93 = .ok (.aload_n 1, 1) := by decide +kernel
theorem dX1_readFrom_94 : decode cX1_readFrom 94 = .ok (.invokevirtual 63, 3) := by decide +kernel
theorem kwV_X9_closes : MwV RX9 yX9_closes cX9_closes 1 (some .boolean) 0 := ⟨List.mem_filter.mpr ⟨List.mem_of_getElem? (i := 835) (by decide +kernel), by decide +kernel⟩, List.mem_filter.mpr ⟨List.mem_of_getElem? (i := 833) (by decide +kernel), by decide +kernel⟩, List.mem_filter.mpr ⟨List.mem_of_getElem? (i := 834) (by decide +kernel), by decide +kernel⟩, List.mem_filter.mpr ⟨List.mem_of_getElem? (i := 129) (by decide +kernel), by decide +kernel⟩, by decide +kernel⟩
theorem kM_RX1_63 : Cond.methodLink RX1 63 yX9_closes ∈ gT := List.mem_filter.mpr ⟨List.mem_of_getElem? (i := 832) (by decide +kernel), by decide +kernel⟩
theorem dX1_readFrom_97 : decode cX1_readFrom 97 = .ok (.ifCond .eq 7, 3) := by decide +kernel
theorem dX1_readFrom_100 : decode cX1_readFrom 100 = .ok (.iload_n 2, 1) := by decide +kernel
theorem dX1_readFrom_101 : decode cX1_readFrom 101 = .ok (.goto 4, 3) := by decide +kernel
theorem dX1_readFrom_105 : decode cX1_readFrom 105 = .ok (.ireturn, 1) := by decide +kernel
theorem dX7_beginsOne_0 : decode cX7_beginsOne 0 = .ok (.iload_n 0, 1) := by decide +kernel
theorem dX7_beginsOne_1 : decode cX7_beginsOne 1 = .ok (.iconst 3, 1) := by decide +kernel
theorem dX7_beginsOne_2 : decode cX7_beginsOne 2 = .ok (.if_icmp .eq 15, 3) := by decide +kernel
theorem dX7_beginsOne_5 : decode cX7_beginsOne 5 = .ok (.iload_n 0, 1) := by decide +kernel
theorem dX7_beginsOne_6 : decode cX7_beginsOne 6 = .ok (.bipush 17, 2) := by decide +kernel
theorem dX7_beginsOne_8 : decode cX7_beginsOne 8 = .ok (.if_icmp .lt 13, 3) := by decide +kernel
theorem dX7_beginsOne_21 : decode cX7_beginsOne 21 = .ok (.iconst 0, 1) := by decide +kernel
theorem dX7_beginsOne_22 : decode cX7_beginsOne 22 = .ok (.ireturn, 1) := by decide +kernel
theorem dX7_readOne_0 : decode cX7_readOne 0 = .ok (.aload_n 1, 1) := by decide +kernel
theorem dX7_readOne_1 : decode cX7_readOne 1 = .ok (.getfield 74, 3) := by decide +kernel
theorem kF_RX7_74 : Cond.fieldLink RX7 74 "CobwebLibrary$Tape" "kind" "I" ∈ gT := List.mem_filter.mpr ⟨List.mem_of_getElem? (i := 174) (by decide +kernel), by decide +kernel⟩
theorem dX7_readOne_4 : decode cX7_readOne 4 = .ok (.bipush 40, 2) := by decide +kernel
theorem dX7_readOne_6 : decode cX7_readOne 6 = .ok (.if_icmp .ne 7, 3) := by decide +kernel
theorem dX7_readOne_13 : decode cX7_readOne 13 = .ok (.iconst 0, 1) := by decide +kernel
theorem dX7_readOne_14 : decode cX7_readOne 14 = .ok (.istore 4, 2) := by decide +kernel
theorem dX7_readOne_16 : decode cX7_readOne 16 = .ok (.iload 4, 2) := by decide +kernel
theorem dX7_readOne_18 : decode cX7_readOne 18 = .ok (.ifCond .ne 19, 3) := by decide +kernel
theorem dX7_readOne_21 : decode cX7_readOne 21 = .ok (.aload_n 1, 1) := by decide +kernel
theorem dX7_readOne_22 : decode cX7_readOne 22 = .ok (.getfield 61, 3) := by decide +kernel
theorem kF_RX7_61 : Cond.fieldLink RX7 61 "CobwebLibrary$Tape" "word" "I" ∈ gT := List.mem_filter.mpr ⟨List.mem_of_getElem? (i := 186) (by decide +kernel), by decide +kernel⟩
theorem dX7_readOne_25 : decode cX7_readOne 25 = .ok (.invokestatic 77, 3) := by decide +kernel
theorem kwS_X7_beginsOne : MwS yX7_beginsOne cX7_beginsOne 1 (some .boolean) 1 := ⟨List.mem_filter.mpr ⟨List.mem_of_getElem? (i := 885) (by decide +kernel), by decide +kernel⟩, List.mem_filter.mpr ⟨List.mem_of_getElem? (i := 884) (by decide +kernel), by decide +kernel⟩, List.mem_filter.mpr ⟨List.mem_of_getElem? (i := 134) (by decide +kernel), by decide +kernel⟩, by decide +kernel⟩
theorem kM_RX7_77 : Cond.methodLink RX7 77 yX7_beginsOne ∈ gT := List.mem_filter.mpr ⟨List.mem_of_getElem? (i := 883) (by decide +kernel), by decide +kernel⟩
theorem dX7_readOne_28 : decode cX7_readOne 28 = .ok (.ifCond .ne 9, 3) := by decide +kernel
theorem dX7_readOne_31 : decode cX7_readOne 31 = .ok (.aload_n 1, 1) := by decide +kernel
theorem dX7_readOne_32 : decode cX7_readOne 32 = .ok (.iconst 1, 1) := by decide +kernel
theorem dX7_readOne_33 : decode cX7_readOne 33 = .ok (.invokevirtual 81, 3) := by decide +kernel
theorem kwV_X9_fail : MwV RX9 yX9_fail cX9_fail 2 (some .boolean) 1 := ⟨List.mem_filter.mpr ⟨List.mem_of_getElem? (i := 742) (by decide +kernel), by decide +kernel⟩, List.mem_filter.mpr ⟨List.mem_of_getElem? (i := 740) (by decide +kernel), by decide +kernel⟩, List.mem_filter.mpr ⟨List.mem_of_getElem? (i := 741) (by decide +kernel), by decide +kernel⟩, List.mem_filter.mpr ⟨List.mem_of_getElem? (i := 129) (by decide +kernel), by decide +kernel⟩, by decide +kernel⟩
theorem kM_RX7_81 : Cond.methodLink RX7 81 yX9_fail ∈ gT := List.mem_filter.mpr ⟨List.mem_of_getElem? (i := 886) (by decide +kernel), by decide +kernel⟩
theorem dX7_readOne_36 : decode cX7_readOne 36 = .ok (.ireturn, 1) := by decide +kernel
theorem dX7_readAll_0 : decode cX7_readAll 0 = .ok (.aload_n 0, 1) := by decide +kernel
theorem dX7_readAll_1 : decode cX7_readAll 1 = .ok (.aload_n 1, 1) := by decide +kernel
theorem dX7_readAll_2 : decode cX7_readAll 2 = .ok (.aload_n 2, 1) := by decide +kernel
theorem dX7_readAll_3 : decode cX7_readAll 3 = .ok (.iload_n 3, 1) := by decide +kernel
theorem dX7_readAll_4 : decode cX7_readAll 4 = .ok (.invokevirtual 71, 3) := by decide +kernel
theorem kwV_X7_readOne : MwV RX7 yX7_readOne cX7_readOne 6 (some .boolean) 3 := ⟨List.mem_filter.mpr ⟨List.mem_of_getElem? (i := 882) (by decide +kernel), by decide +kernel⟩, List.mem_filter.mpr ⟨List.mem_of_getElem? (i := 881) (by decide +kernel), by decide +kernel⟩, List.mem_filter.mpr ⟨List.mem_of_getElem? (i := 14) (by decide +kernel), by decide +kernel⟩, List.mem_filter.mpr ⟨List.mem_of_getElem? (i := 134) (by decide +kernel), by decide +kernel⟩, by decide +kernel⟩
theorem kM_RX7_71 : Cond.methodLink RX7 71 yX7_readOne ∈ gT := List.mem_filter.mpr ⟨List.mem_of_getElem? (i := 879) (by decide +kernel), by decide +kernel⟩
theorem dX7_readAll_7 : decode cX7_readAll 7 = .ok (.ifCond .ne 5, 3) := by decide +kernel
theorem dX7_readAll_10 : decode cX7_readAll 10 = .ok (.iconst 0, 1) := by decide +kernel
theorem dX7_readAll_11 : decode cX7_readAll 11 = .ok (.ireturn, 1) := by decide +kernel
theorem dX7_readCond_0 : decode cX7_readCond 0 = .ok (.aload_n 0, 1) := by decide +kernel
theorem dX7_readCond_1 : decode cX7_readCond 1 = .ok (.aload_n 1, 1) := by decide +kernel
theorem dX7_readCond_2 : decode cX7_readCond 2 = .ok (.aload_n 2, 1) := by decide +kernel
theorem dX7_readCond_3 : decode cX7_readCond 3 = .ok (.iload_n 3, 1) := by decide +kernel
theorem dX7_readCond_4 : decode cX7_readCond 4 = .ok (.invokevirtual 58, 3) := by decide +kernel
theorem kwV_X7_readAll : MwV RX7 yX7_readAll cX7_readAll 5 (some .boolean) 3 := ⟨List.mem_filter.mpr ⟨List.mem_of_getElem? (i := 878) (by decide +kernel), by decide +kernel⟩, List.mem_filter.mpr ⟨List.mem_of_getElem? (i := 877) (by decide +kernel), by decide +kernel⟩, List.mem_filter.mpr ⟨List.mem_of_getElem? (i := 13) (by decide +kernel), by decide +kernel⟩, List.mem_filter.mpr ⟨List.mem_of_getElem? (i := 134) (by decide +kernel), by decide +kernel⟩, by decide +kernel⟩
theorem kM_RX7_58 : Cond.methodLink RX7 58 yX7_readAll ∈ gT := List.mem_filter.mpr ⟨List.mem_of_getElem? (i := 875) (by decide +kernel), by decide +kernel⟩
theorem dX7_readCond_7 : decode cX7_readCond 7 = .ok (.ifCond .ne 5, 3) := by decide +kernel
theorem dX7_readCond_10 : decode cX7_readCond 10 = .ok (.iconst 0, 1) := by decide +kernel
theorem dX7_readCond_11 : decode cX7_readCond 11 = .ok (.ireturn, 1) := by decide +kernel
theorem dX7_readFrom_0 : decode cX7_readFrom 0 = .ok (.aload_n 0, 1) := by decide +kernel
theorem dX7_readFrom_1 : decode cX7_readFrom 1 = .ok (.invokevirtual 41, 3) := by decide +kernel
theorem kwV_X7_forget : MwV RX7 yX7_forget cX7_forget 1 none 0 := ⟨List.mem_filter.mpr ⟨List.mem_of_getElem? (i := 851) (by decide +kernel), by decide +kernel⟩, List.mem_filter.mpr ⟨List.mem_of_getElem? (i := 849) (by decide +kernel), by decide +kernel⟩, List.mem_filter.mpr ⟨List.mem_of_getElem? (i := 850) (by decide +kernel), by decide +kernel⟩, List.mem_filter.mpr ⟨List.mem_of_getElem? (i := 134) (by decide +kernel), by decide +kernel⟩, by decide +kernel⟩
theorem kM_RX7_41 : Cond.methodLink RX7 41 yX7_forget ∈ gT := List.mem_filter.mpr ⟨List.mem_of_getElem? (i := 869) (by decide +kernel), by decide +kernel⟩
theorem dX7_readFrom_4 : decode cX7_readFrom 4 = .ok (.aload_n 1, 1) := by decide +kernel
theorem dX7_readFrom_5 : decode cX7_readFrom 5 = .ok (.sipush 200, 3) := by decide +kernel
theorem dX7_readFrom_8 : decode cX7_readFrom 8 = .ok (.invokevirtual 44, 3) := by decide +kernel
theorem kM_RX7_44 : Cond.methodLink RX7 44 yX9_open ∈ gT := List.mem_filter.mpr ⟨List.mem_of_getElem? (i := 870) (by decide +kernel), by decide +kernel⟩
theorem dX7_readFrom_11 : decode cX7_readFrom 11 = .ok (.aload_n 0, 1) := by decide +kernel
theorem dX7_readFrom_12 : decode cX7_readFrom 12 = .ok (.aload_n 0, 1) := by decide +kernel
theorem dX7_readFrom_13 : decode cX7_readFrom 13 = .ok (.aload_n 1, 1) := by decide +kernel
theorem dX7_readFrom_14 : decode cX7_readFrom 14 = .ok (.aload_n 2, 1) := by decide +kernel
theorem dX7_readFrom_15 : decode cX7_readFrom 15 = .ok (.iconst 1, 1) := by decide +kernel
theorem dX7_readFrom_16 : decode cX7_readFrom 16 = .ok (.invokevirtual 50, 3) := by decide +kernel
theorem kwV_X7_readCond : MwV RX7 yX7_readCond cX7_readCond 5 (some .boolean) 3 := ⟨List.mem_filter.mpr ⟨List.mem_of_getElem? (i := 874) (by decide +kernel), by decide +kernel⟩, List.mem_filter.mpr ⟨List.mem_of_getElem? (i := 873) (by decide +kernel), by decide +kernel⟩, List.mem_filter.mpr ⟨List.mem_of_getElem? (i := 12) (by decide +kernel), by decide +kernel⟩, List.mem_filter.mpr ⟨List.mem_of_getElem? (i := 134) (by decide +kernel), by decide +kernel⟩, by decide +kernel⟩
theorem kM_RX7_50 : Cond.methodLink RX7 50 yX7_readCond ∈ gT := List.mem_filter.mpr ⟨List.mem_of_getElem? (i := 871) (by decide +kernel), by decide +kernel⟩
theorem dX7_readFrom_19 : decode cX7_readFrom 19 = .ok (.ifCond .eq 14, 3) := by decide +kernel
theorem dX7_readFrom_33 : decode cX7_readFrom 33 = .ok (.iconst 0, 1) := by decide +kernel
theorem dX7_readFrom_34 : decode cX7_readFrom 34 = .ok (.putfield 9, 3) := by decide +kernel
theorem dX7_readFrom_37 : decode cX7_readFrom 37 = .ok (.return_, 1) := by decide +kernel
theorem dX3_readFrom_0 : decode cX3_readFrom 0 = .ok (.aload_n 0, 1) := by decide +kernel
theorem dX3_readFrom_1 : decode cX3_readFrom 1 = .ok (.iconst 0, 1) := by decide +kernel
theorem dX3_readFrom_2 : decode cX3_readFrom 2 = .ok (.putfield 28, 3) := by decide +kernel
theorem dX3_readFrom_5 : decode cX3_readFrom 5 = .ok (.aload_n 1, 1) := by decide +kernel
theorem dX3_readFrom_6 : decode cX3_readFrom 6 = .ok (.sipush 400, 3) := by decide +kernel
theorem dX3_readFrom_9 : decode cX3_readFrom 9 = .ok (.invokevirtual 44, 3) := by decide +kernel
theorem kM_RX3_44 : Cond.methodLink RX3 44 yX9_open ∈ gT := List.mem_filter.mpr ⟨List.mem_of_getElem? (i := 960) (by decide +kernel), by decide +kernel⟩
theorem dX3_readFrom_12 : decode cX3_readFrom 12 = .ok (.iconst 1, 1) := by decide +kernel
theorem dX3_readFrom_13 : decode cX3_readFrom 13 = .ok (.istore_n 3, 1) := by decide +kernel
theorem dX3_readFrom_14 : decode cX3_readFrom 14 = .ok (.iconst 0, 1) := by decide +kernel
theorem dX3_readFrom_15 : decode cX3_readFrom 15 = .ok (.istore 4, 2) := by decide +kernel
theorem dX3_readFrom_17 : decode cX3_readFrom 17 = .ok (.iload 4, 2) := by decide +kernel
theorem dX3_readFrom_19 : decode cX3_readFrom 19 = .ok (.bipush 40, 2) := by decide +kernel
theorem dX3_readFrom_21 : decode cX3_readFrom 21 = .ok (.if_icmp .gt 44, 3) := by decide +kernel
theorem dX3_readFrom_24 : decode cX3_readFrom 24 = .ok (.iload_n 3, 1) := by decide +kernel
theorem dX3_readFrom_25 : decode cX3_readFrom 25 = .ok (.ifCond .eq 40, 3) := by decide +kernel
theorem dX3_readFrom_28 : decode cX3_readFrom 28 = .ok (.aload_n 1, 1) := by decide +kernel
theorem dX3_readFrom_29 : decode cX3_readFrom 29 = .ok (.getfield 50, 3) := by decide +kernel
theorem kF_RX3_50 : Cond.fieldLink RX3 50 "CobwebLibrary$Tape" "kind" "I" ∈ gT := List.mem_filter.mpr ⟨List.mem_of_getElem? (i := 172) (by decide +kernel), by decide +kernel⟩
theorem dX3_readFrom_32 : decode cX3_readFrom 32 = .ok (.ifCond .eq 33, 3) := by decide +kernel
theorem dX3_readFrom_65 : decode cX3_readFrom 65 = .ok (.iload_n 3, 1) := by decide +kernel
theorem dX3_readFrom_66 : decode cX3_readFrom 66 = .ok (.ifCond .eq 8, 3) := by decide +kernel
theorem dX3_readFrom_69 : decode cX3_readFrom 69 = .ok (.aload_n 1, 1) := by decide +kernel
theorem dX3_readFrom_70 : decode cX3_readFrom 70 = .ok (.invokevirtual 61, 3) := by decide +kernel
theorem kM_RX3_61 : Cond.methodLink RX3 61 yX9_closes ∈ gT := List.mem_filter.mpr ⟨List.mem_of_getElem? (i := 978) (by decide +kernel), by decide +kernel⟩
theorem dX3_readFrom_73 : decode cX3_readFrom 73 = .ok (.pop, 1) := by decide +kernel
theorem dX3_readFrom_74 : decode cX3_readFrom 74 = .ok (.return_, 1) := by decide +kernel
theorem dX8_booksReading_0 : decode cX8_booksReading 0 = .ok (.iconst 0, 1) := by decide +kernel
theorem dX8_booksReading_1 : decode cX8_booksReading 1 = .ok (.istore_n 3, 1) := by decide +kernel
theorem dX8_booksReading_2 : decode cX8_booksReading 2 = .ok (.iconst 0, 1) := by decide +kernel
theorem dX8_booksReading_3 : decode cX8_booksReading 3 = .ok (.istore 4, 2) := by decide +kernel
theorem dX8_booksReading_5 : decode cX8_booksReading 5 = .ok (.iload 4, 2) := by decide +kernel
theorem dX8_booksReading_7 : decode cX8_booksReading 7 = .ok (.aload_n 1, 1) := by decide +kernel
theorem dX8_booksReading_8 : decode cX8_booksReading 8 = .ok (.getfield 53, 3) := by decide +kernel
theorem kF_RX8_53 : Cond.fieldLink RX8 53 "CobwebLibrary$Plan" "books" "I" ∈ gT := List.mem_filter.mpr ⟨List.mem_of_getElem? (i := 249) (by decide +kernel), by decide +kernel⟩
theorem dX8_booksReading_11 : decode cX8_booksReading 11 = .ok (.if_icmp .ge 31, 3) := by decide +kernel
theorem dX8_booksReading_42 : decode cX8_booksReading 42 = .ok (.iload_n 3, 1) := by decide +kernel
theorem dX8_booksReading_43 : decode cX8_booksReading 43 = .ok (.ireturn, 1) := by decide +kernel
theorem dX8_booksLawful_0 : decode cX8_booksLawful 0 = .ok (.aload_n 0, 1) := by decide +kernel
theorem dX8_booksLawful_1 : decode cX8_booksLawful 1 = .ok (.aload_n 1, 1) := by decide +kernel
theorem dX8_booksLawful_2 : decode cX8_booksLawful 2 = .ok (.iconst 1, 1) := by decide +kernel
theorem dX8_booksLawful_3 : decode cX8_booksLawful 3 = .ok (.invokevirtual 62, 3) := by decide +kernel
theorem kwV_X8_booksReading : MwV RX8 yX8_booksReading cX8_booksReading 5 (some .int) 2 := ⟨List.mem_filter.mpr ⟨List.mem_of_getElem? (i := 920) (by decide +kernel), by decide +kernel⟩, List.mem_filter.mpr ⟨List.mem_of_getElem? (i := 918) (by decide +kernel), by decide +kernel⟩, List.mem_filter.mpr ⟨List.mem_of_getElem? (i := 919) (by decide +kernel), by decide +kernel⟩, List.mem_filter.mpr ⟨List.mem_of_getElem? (i := 131) (by decide +kernel), by decide +kernel⟩, by decide +kernel⟩
theorem kM_RX8_62 : Cond.methodLink RX8 62 yX8_booksReading ∈ gT := List.mem_filter.mpr ⟨List.mem_of_getElem? (i := 1068) (by decide +kernel), by decide +kernel⟩
theorem dX8_booksLawful_6 : decode cX8_booksLawful 6 = .ok (.aload_n 0, 1) := by decide +kernel
theorem dX8_booksLawful_7 : decode cX8_booksLawful 7 = .ok (.aload_n 1, 1) := by decide +kernel
theorem dX8_booksLawful_8 : decode cX8_booksLawful 8 = .ok (.iconst 2, 1) := by decide +kernel
theorem dX8_booksLawful_9 : decode cX8_booksLawful 9 = .ok (.invokevirtual 62, 3) := by decide +kernel
theorem dX8_booksLawful_12 : decode cX8_booksLawful 12 = .ok (.ior, 1) := by decide +kernel
theorem dX8_booksLawful_13 : decode cX8_booksLawful 13 = .ok (.ireturn, 1) := by decide +kernel
theorem dX3_goThrough_0 : decode cX3_goThrough 0 = .ok (.aload_n 0, 1) := by decide +kernel
theorem dX3_goThrough_1 : decode cX3_goThrough 1 = .ok (.iconst 0, 1) := by decide +kernel
theorem dX3_goThrough_2 : decode cX3_goThrough 2 = .ok (.putfield 15, 3) := by decide +kernel
theorem dX3_goThrough_5 : decode cX3_goThrough 5 = .ok (.aload_n 0, 1) := by decide +kernel
theorem dX3_goThrough_6 : decode cX3_goThrough 6 = .ok (.iconst 0, 1) := by decide +kernel
theorem dX3_goThrough_7 : decode cX3_goThrough 7 = .ok (.putfield 19, 3) := by decide +kernel
theorem dX3_goThrough_10 : decode cX3_goThrough 10 = .ok (.aload_n 0, 1) := by decide +kernel
theorem dX3_goThrough_11 : decode cX3_goThrough 11 = .ok (.getfield 19, 3) := by decide +kernel
theorem dX3_goThrough_14 : decode cX3_goThrough 14 = .ok (.aload_n 0, 1) := by decide +kernel
theorem dX3_goThrough_15 : decode cX3_goThrough 15 = .ok (.getfield 28, 3) := by decide +kernel
theorem dX3_goThrough_18 : decode cX3_goThrough 18 = .ok (.if_icmp .ge 44, 3) := by decide +kernel
theorem dX3_goThrough_62 : decode cX3_goThrough 62 = .ok (.aload_n 0, 1) := by decide +kernel
theorem dX3_goThrough_63 : decode cX3_goThrough 63 = .ok (.aload_n 2, 1) := by decide +kernel
theorem dX3_goThrough_64 : decode cX3_goThrough 64 = .ok (.getfield 99, 3) := by decide +kernel
theorem kF_RX3_99 : Cond.fieldLink RX3 99 "CobwebLibrary$Shelves" "day" "I" ∈ gT := List.mem_filter.mpr ⟨List.mem_of_getElem? (i := 316) (by decide +kernel), by decide +kernel⟩
theorem dX3_goThrough_67 : decode cX3_goThrough 67 = .ok (.putfield 22, 3) := by decide +kernel
theorem dX3_goThrough_70 : decode cX3_goThrough 70 = .ok (.aload_n 0, 1) := by decide +kernel
theorem dX3_goThrough_71 : decode cX3_goThrough 71 = .ok (.aload_n 2, 1) := by decide +kernel
theorem dX3_goThrough_72 : decode cX3_goThrough 72 = .ok (.aload_n 1, 1) := by decide +kernel
theorem dX3_goThrough_73 : decode cX3_goThrough 73 = .ok (.invokevirtual 104, 3) := by decide +kernel
theorem kwV_X8_booksLawful : MwV RX8 yX8_booksLawful cX8_booksLawful 2 (some .int) 1 := ⟨List.mem_filter.mpr ⟨List.mem_of_getElem? (i := 1067) (by decide +kernel), by decide +kernel⟩, List.mem_filter.mpr ⟨List.mem_of_getElem? (i := 1065) (by decide +kernel), by decide +kernel⟩, List.mem_filter.mpr ⟨List.mem_of_getElem? (i := 1066) (by decide +kernel), by decide +kernel⟩, List.mem_filter.mpr ⟨List.mem_of_getElem? (i := 131) (by decide +kernel), by decide +kernel⟩, by decide +kernel⟩
theorem kM_RX3_104 : Cond.methodLink RX3 104 yX8_booksLawful ∈ gT := List.mem_filter.mpr ⟨List.mem_of_getElem? (i := 1064) (by decide +kernel), by decide +kernel⟩
theorem dX3_goThrough_76 : decode cX3_goThrough 76 = .ok (.putfield 25, 3) := by decide +kernel
theorem dX3_goThrough_79 : decode cX3_goThrough 79 = .ok (.aload_n 0, 1) := by decide +kernel
theorem dX3_goThrough_80 : decode cX3_goThrough 80 = .ok (.iconst 1, 1) := by decide +kernel
theorem dX3_goThrough_81 : decode cX3_goThrough 81 = .ok (.putfield 9, 3) := by decide +kernel
theorem dX3_goThrough_84 : decode cX3_goThrough 84 = .ok (.return_, 1) := by decide +kernel
theorem dX4_keepOne_0 : decode cX4_keepOne 0 = .ok (.aload_n 0, 1) := by decide +kernel
theorem dX4_keepOne_1 : decode cX4_keepOne 1 = .ok (.getfield 15, 3) := by decide +kernel
theorem dX4_keepOne_4 : decode cX4_keepOne 4 = .ok (.ifCond .lt 24, 3) := by decide +kernel
theorem dX4_keepOne_7 : decode cX4_keepOne 7 = .ok (.aload_n 0, 1) := by decide +kernel
theorem dX4_keepOne_8 : decode cX4_keepOne 8 = .ok (.getfield 15, 3) := by decide +kernel
theorem dX4_keepOne_11 : decode cX4_keepOne 11 = .ok (.bipush 8, 2) := by decide +kernel
theorem dX4_keepOne_13 : decode cX4_keepOne 13 = .ok (.if_icmp .ge 15, 3) := by decide +kernel
theorem dX4_keepOne_16 : decode cX4_keepOne 16 = .ok (.aload_n 0, 1) := by decide +kernel
theorem dX4_keepOne_17 : decode cX4_keepOne 17 = .ok (.getfield 20, 3) := by decide +kernel
theorem dX4_keepOne_20 : decode cX4_keepOne 20 = .ok (.aload_n 0, 1) := by decide +kernel
theorem dX4_keepOne_21 : decode cX4_keepOne 21 = .ok (.getfield 15, 3) := by decide +kernel
theorem dX4_keepOne_24 : decode cX4_keepOne 24 = .ok (.aaload, 1) := by decide +kernel
theorem dX4_keepOne_25 : decode cX4_keepOne 25 = .ok (.ifnonnull 4, 3) := by decide +kernel
theorem dX4_keepOne_29 : decode cX4_keepOne 29 = .ok (.aload_n 0, 1) := by decide +kernel
theorem dX4_keepOne_30 : decode cX4_keepOne 30 = .ok (.getfield 20, 3) := by decide +kernel
theorem dX4_keepOne_33 : decode cX4_keepOne 33 = .ok (.aload_n 0, 1) := by decide +kernel
theorem dX4_keepOne_34 : decode cX4_keepOne 34 = .ok (.getfield 15, 3) := by decide +kernel
theorem dX4_keepOne_37 : decode cX4_keepOne 37 = .ok (.aaload, 1) := by decide +kernel
theorem dX4_keepOne_38 : decode cX4_keepOne 38 = .ok (.aload_n 1, 1) := by decide +kernel
theorem dX4_keepOne_39 : decode cX4_keepOne 39 = .ok (.invokevirtual 25, 3) := by decide +kernel
theorem kwV_X8_copyFrom : MwV RX8 yX8_copyFrom cX8_copyFrom 2 none 1 := ⟨List.mem_filter.mpr ⟨List.mem_of_getElem? (i := 846) (by decide +kernel), by decide +kernel⟩, List.mem_filter.mpr ⟨List.mem_of_getElem? (i := 844) (by decide +kernel), by decide +kernel⟩, List.mem_filter.mpr ⟨List.mem_of_getElem? (i := 845) (by decide +kernel), by decide +kernel⟩, List.mem_filter.mpr ⟨List.mem_of_getElem? (i := 131) (by decide +kernel), by decide +kernel⟩, by decide +kernel⟩
theorem kM_RX4_25 : Cond.methodLink RX4 25 yX8_copyFrom ∈ gT := List.mem_filter.mpr ⟨List.mem_of_getElem? (i := 1077) (by decide +kernel), by decide +kernel⟩
theorem dX4_keepOne_42 : decode cX4_keepOne 42 = .ok (.aload_n 0, 1) := by decide +kernel
theorem dX4_keepOne_43 : decode cX4_keepOne 43 = .ok (.aload_n 0, 1) := by decide +kernel
theorem dX4_keepOne_44 : decode cX4_keepOne 44 = .ok (.getfield 15, 3) := by decide +kernel
theorem dX4_keepOne_47 : decode cX4_keepOne 47 = .ok (.iconst 1, 1) := by decide +kernel
theorem dX4_keepOne_48 : decode cX4_keepOne 48 = .ok (.iadd, 1) := by decide +kernel
theorem dX4_keepOne_49 : decode cX4_keepOne 49 = .ok (.bipush 8, 2) := by decide +kernel
theorem dX4_keepOne_51 : decode cX4_keepOne 51 = .ok (.irem, 1) := by decide +kernel
theorem dX4_keepOne_52 : decode cX4_keepOne 52 = .ok (.putfield 15, 3) := by decide +kernel
theorem dX4_keepOne_55 : decode cX4_keepOne 55 = .ok (.aload_n 0, 1) := by decide +kernel
theorem dX4_keepOne_56 : decode cX4_keepOne 56 = .ok (.bipush 8, 2) := by decide +kernel
theorem dX4_keepOne_58 : decode cX4_keepOne 58 = .ok (.aload_n 0, 1) := by decide +kernel
theorem dX4_keepOne_59 : decode cX4_keepOne 59 = .ok (.getfield 9, 3) := by decide +kernel
theorem dX4_keepOne_62 : decode cX4_keepOne 62 = .ok (.iconst 1, 1) := by decide +kernel
theorem dX4_keepOne_63 : decode cX4_keepOne 63 = .ok (.iadd, 1) := by decide +kernel
theorem dX4_keepOne_64 : decode cX4_keepOne 64 = .ok (.invokestatic 29, 3) := by decide +kernel
theorem kM_RX4_29 : Cond.methodLink RX4 29 Lib.Math.min.name ∈ gT := List.mem_filter.mpr ⟨List.mem_of_getElem? (i := 1078) (by decide +kernel), by decide +kernel⟩
theorem dX4_keepOne_67 : decode cX4_keepOne 67 = .ok (.putfield 9, 3) := by decide +kernel
theorem dX4_keepOne_70 : decode cX4_keepOne 70 = .ok (.return_, 1) := by decide +kernel
theorem dX10_takeTrial_0 : decode cX10_takeTrial 0 = .ok (.aload_n 0, 1) := by decide +kernel
theorem dX10_takeTrial_1 : decode cX10_takeTrial 1 = .ok (.getfield 60, 3) := by decide +kernel
theorem dX10_takeTrial_4 : decode cX10_takeTrial 4 = .ok (.aload_n 0, 1) := by decide +kernel
theorem dX10_takeTrial_5 : decode cX10_takeTrial 5 = .ok (.getfield 26, 3) := by decide +kernel
theorem dX10_takeTrial_8 : decode cX10_takeTrial 8 = .ok (.invokevirtual 382, 3) := by decide +kernel
theorem kwV_X4_keepOne : MwV RX4 yX4_keepOne cX4_keepOne 2 none 1 := ⟨List.mem_filter.mpr ⟨List.mem_of_getElem? (i := 1076) (by decide +kernel), by decide +kernel⟩, List.mem_filter.mpr ⟨List.mem_of_getElem? (i := 1074) (by decide +kernel), by decide +kernel⟩, List.mem_filter.mpr ⟨List.mem_of_getElem? (i := 1075) (by decide +kernel), by decide +kernel⟩, List.mem_filter.mpr ⟨List.mem_of_getElem? (i := 135) (by decide +kernel), by decide +kernel⟩, by decide +kernel⟩
theorem kM_RX10_382 : Cond.methodLink RX10 382 yX4_keepOne ∈ gT := List.mem_filter.mpr ⟨List.mem_of_getElem? (i := 1073) (by decide +kernel), by decide +kernel⟩
theorem dX10_takeTrial_11 : decode cX10_takeTrial 11 = .ok (.aload_n 0, 1) := by decide +kernel
theorem dX10_takeTrial_12 : decode cX10_takeTrial 12 = .ok (.getfield 26, 3) := by decide +kernel
theorem dX10_takeTrial_15 : decode cX10_takeTrial 15 = .ok (.aload_n 0, 1) := by decide +kernel
theorem dX10_takeTrial_16 : decode cX10_takeTrial 16 = .ok (.getfield 30, 3) := by decide +kernel
theorem dX10_takeTrial_19 : decode cX10_takeTrial 19 = .ok (.invokevirtual 117, 3) := by decide +kernel
theorem kM_RX10_117 : Cond.methodLink RX10 117 yX8_copyFrom ∈ gT := List.mem_filter.mpr ⟨List.mem_of_getElem? (i := 843) (by decide +kernel), by decide +kernel⟩
theorem dX10_takeTrial_22 : decode cX10_takeTrial 22 = .ok (.return_, 1) := by decide +kernel
theorem dX10_takeIfDone_0 : decode cX10_takeIfDone 0 = .ok (.iload_n 1, 1) := by decide +kernel
theorem dX10_takeIfDone_1 : decode cX10_takeIfDone 1 = .ok (.ifCond .ne 7, 3) := by decide +kernel
theorem dX10_takeIfDone_8 : decode cX10_takeIfDone 8 = .ok (.iload_n 1, 1) := by decide +kernel
theorem dX10_takeIfDone_9 : decode cX10_takeIfDone 9 = .ok (.ireturn, 1) := by decide +kernel
theorem dX6_hasBook_0 : decode cX6_hasBook 0 = .ok (.iload_n 1, 1) := by decide +kernel
theorem dX6_hasBook_1 : decode cX6_hasBook 1 = .ok (.ifCond .lt 15, 3) := by decide +kernel
theorem dX6_hasBook_16 : decode cX6_hasBook 16 = .ok (.iconst 0, 1) := by decide +kernel
theorem dX6_hasBook_17 : decode cX6_hasBook 17 = .ok (.ireturn, 1) := by decide +kernel
theorem dX6_hasBook_4 : decode cX6_hasBook 4 = .ok (.iload_n 1, 1) := by decide +kernel
theorem dX6_hasBook_5 : decode cX6_hasBook 5 = .ok (.aload_n 0, 1) := by decide +kernel
theorem dX6_hasBook_6 : decode cX6_hasBook 6 = .ok (.getfield 30, 3) := by decide +kernel
theorem dX6_hasBook_9 : decode cX6_hasBook 9 = .ok (.if_icmp .ge 7, 3) := by decide +kernel
set_option maxHeartbeats 4000000 in
set_option maxRecDepth 100000 in
theorem c_readFrom (l : Launch) (D : va_G) (cy : Nat → ClassId) (h : Nat) (o : Nat) (pp : Nat) (qq : Nat) (h0 : Nat) (pp0 : Nat) (pp1 : Nat) (pp2 : Nat) (qq0 : Nat) (qq1 : Nat) (qq2 : Nat) (qq3 : Nat) (qq4 : Nat) (qq5 : Nat) (o0 : Nat) (sz : Nat)  : MI l yX1_readFrom cX1_readFrom 3 (some .int) (Rm 2 51 0 0) D cy [.ref h, .ref o] sz [(h, .inr (1, [.ref pp, .ref qq, .ref h0, .int 0, .int 0, .int 0, .int 0])), (h0, .inl (cy 1, 8, .inl (fun _ => 0))), (pp, .inr (6, [.int 4, .int 4, .int 10, .int 1, .int 3, .int 0, .int 0, .int 0, .ref pp0, .ref pp1, .ref pp2])), (pp0, .inl (cy 1, 8, .inl (fun _ => 0))), (pp1, .inl (cy 1, 8, .inl (fun _ => 0))), (pp2, .inl (cy 1, 56, .inl (fun _ => 0))), (qq, .inr (8, [.ref qq0, .ref qq1, .ref qq2, .ref qq3, .ref qq4, .int 0, .int 0, .ref qq5])), (qq0, .inl (cy 1, 8, .inl (fun _ => 0))), (qq1, .inl (cy 1, 8, .inl (fun _ => 0))), (qq2, .inl (cy 1, 8, .inl (fun _ => 0))), (qq3, .inl (cy 1, 8, .inl (fun _ => 0))), (qq4, .inl (cy 1, 64, .inl (fun _ => 0))), (o, .inr (9, [.ref o0, .int 0, .int 0, .int 0, .int 0, .int 0, .int 0, .int 0, .int 0, .int 0, .int 0]))] (fun (r : Int32) (u : Unit) => r = 0) (fun u : Unit => [(h, .inr (1, [.ref pp, .ref qq, .ref h0, .int 0, .int 0, .int 0, .int 0])), (h0, .inl (cy 1, 8, .inl (fun _ => 0))), (pp, .inr (6, [.int 4, .int 4, .int 10, .int 1, .int 3, .int 0, .int 0, .int 0, .ref pp0, .ref pp1, .ref pp2])), (pp0, .inl (cy 1, 8, .inl (fun _ => 0))), (pp1, .inl (cy 1, 8, .inl (fun _ => 0))), (pp2, .inl (cy 1, 56, .inl (fun _ => 0))), (qq, .inr (8, [.ref qq0, .ref qq1, .ref qq2, .ref qq3, .ref qq4, .int 0, .int 0, .ref qq5])), (qq0, .inl (cy 1, 8, .inl (fun _ => 0))), (qq1, .inl (cy 1, 8, .inl (fun _ => 0))), (qq2, .inl (cy 1, 8, .inl (fun _ => 0))), (qq3, .inl (cy 1, 8, .inl (fun _ => 0))), (qq4, .inl (cy 1, 64, .inl (fun _ => 0))), (o, .inr (9, [.ref o0, .int 0, .int 0, .int 0, .int 0, .int 0, .int 0, .int 0, .int 0, .int 0, .int 0]))]) := by
  refine MI.enter (by decide) (Nat.le_of_ble_eq_true rfl) ?_
  intro p e s m below meth c ls A hsz hAe C hP hD hS hl
  have C : Cx p s m _ meth c cX1_readFrom 3 (some .int) RX1 "readFrom" D cy A := C
  have hx := C.1
  have hb := C.2.1
  have hl : lv_has ls 3 [(0, .ref h), (1, .ref o)] := hl
  refine lv_aload_n hx hb dX1_readFrom_0 rfl (lv_at hl 0 rfl) ?_
  refine q_get (v := .ref pp) C hP 0 0 rfl rfl inX1 (by decide) kF_RX1_12 rfl rfl dX1_readFrom_1 ?_
  refine q_av (wr := [(h, .inr (1, [.ref pp, .ref qq, .ref h0, .int 0, .int 0, .int 0, .int 0])), (h0, .inl (cy 1, 8, .inl (fun _ => 0))), (qq, .inr (8, [.ref qq0, .ref qq1, .ref qq2, .ref qq3, .ref qq4, .int 0, .int 0, .ref qq5])), (qq0, .inl (cy 1, 8, .inl (fun _ => 0))), (qq1, .inl (cy 1, 8, .inl (fun _ => 0))), (qq2, .inl (cy 1, 8, .inl (fun _ => 0))), (qq3, .inl (cy 1, 8, .inl (fun _ => 0))), (qq4, .inl (cy 1, 64, .inl (fun _ => 0))), (o, .inr (9, [.ref o0, .int 0, .int 0, .int 0, .int 0, .int 0, .int 0, .int 0, .int 0, .int 0, .int 0]))]) (r_V (q0 := 0) (As := []) (rest := []) (wc := [(pp, .inr (6, [.int 4, .int 4, .int 10, .int 1, .int 3, .int 0, .int 0, .int 0, .ref pp0, .ref pp1, .ref pp2])), (pp0, .inl (cy 1, 8, .inl (fun _ => 0))), (pp1, .inl (cy 1, 8, .inl (fun _ => 0))), (pp2, .inl (cy 1, 56, .inl (fun _ => 0)))]) C (q_subP hP [2, 3, 4, 5] rfl) (hD.sub [2, 3, 4, 5] (by decide) rfl) (c_Pempty l D cy pp pp0 pp1 pp2 _ ) kwV_X6_empty kM_RX1_42 rfl rfl ⟨Nat.le_of_ble_eq_true rfl, Nat.le_of_ble_eq_true rfl⟩ rfl hl.1 rfl (Nat.le_of_ble_eq_true rfl) dX1_readFrom_4 ⟨Nat.le_of_ble_eq_true rfl, Nat.le_of_ble_eq_true rfl⟩) C.2.2.2.2.2.2.1 hP hD hS [2, 3, 4, 5] [0, 1, 6, 7, 8, 9, 10, 11, 12] rfl rfl (by decide) (by decide) (fun u_1 H locs hw_3 hP hD hS => ?_)
  have hP : va_P D vwCl [(h, .inr (1, [.ref pp, .ref qq, .ref h0, .int 0, .int 0, .int 0, .int 0])), (h0, .inl (cy 1, 8, .inl (fun _ => 0))), (qq, .inr (8, [.ref qq0, .ref qq1, .ref qq2, .ref qq3, .ref qq4, .int 0, .int 0, .ref qq5])), (qq0, .inl (cy 1, 8, .inl (fun _ => 0))), (qq1, .inl (cy 1, 8, .inl (fun _ => 0))), (qq2, .inl (cy 1, 8, .inl (fun _ => 0))), (qq3, .inl (cy 1, 8, .inl (fun _ => 0))), (qq4, .inl (cy 1, 64, .inl (fun _ => 0))), (o, .inr (9, [.ref o0, .int 0, .int 0, .int 0, .int 0, .int 0, .int 0, .int 0, .int 0, .int 0, .int 0])), (pp, .inr (6, [.int 4, .int 4, .int 10, .int 1, .int 3, .int 0, .int 0, .int 0, .ref pp0, .ref pp1, .ref pp2])), (pp0, .inl (cy 1, 8, .inl (fun _ => 0))), (pp1, .inl (cy 1, 8, .inl (fun _ => 0))), (pp2, .inl (cy 1, 56, .inl (fun _ => 0)))] H := hP
  have hD : va_D A [(h, .inr (1, [.ref pp, .ref qq, .ref h0, .int 0, .int 0, .int 0, .int 0])), (h0, .inl (cy 1, 8, .inl (fun _ => 0))), (qq, .inr (8, [.ref qq0, .ref qq1, .ref qq2, .ref qq3, .ref qq4, .int 0, .int 0, .ref qq5])), (qq0, .inl (cy 1, 8, .inl (fun _ => 0))), (qq1, .inl (cy 1, 8, .inl (fun _ => 0))), (qq2, .inl (cy 1, 8, .inl (fun _ => 0))), (qq3, .inl (cy 1, 8, .inl (fun _ => 0))), (qq4, .inl (cy 1, 64, .inl (fun _ => 0))), (o, .inr (9, [.ref o0, .int 0, .int 0, .int 0, .int 0, .int 0, .int 0, .int 0, .int 0, .int 0, .int 0])), (pp, .inr (6, [.int 4, .int 4, .int 10, .int 1, .int 3, .int 0, .int 0, .int 0, .ref pp0, .ref pp1, .ref pp2])), (pp0, .inl (cy 1, 8, .inl (fun _ => 0))), (pp1, .inl (cy 1, 8, .inl (fun _ => 0))), (pp2, .inl (cy 1, 56, .inl (fun _ => 0)))] := hD
  refine lv_aload_n hx hb dX1_readFrom_7 rfl (lv_at hl 0 rfl) ?_
  refine q_get (v := .ref qq) C hP 0 1 rfl rfl inX1 (by decide) kF_RX1_21 rfl rfl dX1_readFrom_8 ?_
  refine q_av (wr := [(h, .inr (1, [.ref pp, .ref qq, .ref h0, .int 0, .int 0, .int 0, .int 0])), (h0, .inl (cy 1, 8, .inl (fun _ => 0))), (o, .inr (9, [.ref o0, .int 0, .int 0, .int 0, .int 0, .int 0, .int 0, .int 0, .int 0, .int 0, .int 0])), (pp, .inr (6, [.int 4, .int 4, .int 10, .int 1, .int 3, .int 0, .int 0, .int 0, .ref pp0, .ref pp1, .ref pp2])), (pp0, .inl (cy 1, 8, .inl (fun _ => 0))), (pp1, .inl (cy 1, 8, .inl (fun _ => 0))), (pp2, .inl (cy 1, 56, .inl (fun _ => 0)))]) (r_V (q0 := 0) (As := []) (rest := []) (wc := [(qq, .inr (8, [.ref qq0, .ref qq1, .ref qq2, .ref qq3, .ref qq4, .int 0, .int 0, .ref qq5])), (qq0, .inl (cy 1, 8, .inl (fun _ => 0))), (qq1, .inl (cy 1, 8, .inl (fun _ => 0))), (qq2, .inl (cy 1, 8, .inl (fun _ => 0))), (qq3, .inl (cy 1, 8, .inl (fun _ => 0))), (qq4, .inl (cy 1, 64, .inl (fun _ => 0)))]) C (q_subP hP [2, 3, 4, 5, 6, 7] rfl) (hD.sub [2, 3, 4, 5, 6, 7] (by decide) rfl) (c_Sempty l D cy qq qq0 qq1 qq2 qq3 qq4 qq5 _ ) kwV_X8_empty kM_RX1_45 rfl rfl ⟨Nat.le_of_ble_eq_true rfl, Nat.le_of_ble_eq_true rfl⟩ rfl hl.1 rfl (Nat.le_of_ble_eq_true rfl) dX1_readFrom_11 ⟨Nat.le_of_ble_eq_true rfl, Nat.le_of_ble_eq_true rfl⟩) C.2.2.2.2.2.2.1 hP hD hS [2, 3, 4, 5, 6, 7] [0, 1, 8, 9, 10, 11, 12] rfl rfl (by decide) (by decide) (fun u_4 H locs hw_6 hP hD hS => ?_)
  have hP : va_P D vwCl [(h, .inr (1, [.ref pp, .ref qq, .ref h0, .int 0, .int 0, .int 0, .int 0])), (h0, .inl (cy 1, 8, .inl (fun _ => 0))), (o, .inr (9, [.ref o0, .int 0, .int 0, .int 0, .int 0, .int 0, .int 0, .int 0, .int 0, .int 0, .int 0])), (pp, .inr (6, [.int 4, .int 4, .int 10, .int 1, .int 3, .int 0, .int 0, .int 0, .ref pp0, .ref pp1, .ref pp2])), (pp0, .inl (cy 1, 8, .inl (fun _ => 0))), (pp1, .inl (cy 1, 8, .inl (fun _ => 0))), (pp2, .inl (cy 1, 56, .inl (fun _ => 0))), (qq, .inr (8, [.ref qq0, .ref qq1, .ref qq2, .ref qq3, .ref qq4, .int 0, .int 0, .ref qq5])), (qq0, .inl (cy 1, 8, .inl (fun _ => 0))), (qq1, .inl (cy 1, 8, .inl (fun _ => 0))), (qq2, .inl (cy 1, 8, .inl (fun _ => 0))), (qq3, .inl (cy 1, 8, .inl (fun _ => 0))), (qq4, .inl (cy 1, 64, .inl (fun _ => 0)))] H := hP
  have hD : va_D A [(h, .inr (1, [.ref pp, .ref qq, .ref h0, .int 0, .int 0, .int 0, .int 0])), (h0, .inl (cy 1, 8, .inl (fun _ => 0))), (o, .inr (9, [.ref o0, .int 0, .int 0, .int 0, .int 0, .int 0, .int 0, .int 0, .int 0, .int 0, .int 0])), (pp, .inr (6, [.int 4, .int 4, .int 10, .int 1, .int 3, .int 0, .int 0, .int 0, .ref pp0, .ref pp1, .ref pp2])), (pp0, .inl (cy 1, 8, .inl (fun _ => 0))), (pp1, .inl (cy 1, 8, .inl (fun _ => 0))), (pp2, .inl (cy 1, 56, .inl (fun _ => 0))), (qq, .inr (8, [.ref qq0, .ref qq1, .ref qq2, .ref qq3, .ref qq4, .int 0, .int 0, .ref qq5])), (qq0, .inl (cy 1, 8, .inl (fun _ => 0))), (qq1, .inl (cy 1, 8, .inl (fun _ => 0))), (qq2, .inl (cy 1, 8, .inl (fun _ => 0))), (qq3, .inl (cy 1, 8, .inl (fun _ => 0))), (qq4, .inl (cy 1, 64, .inl (fun _ => 0)))] := hD
  refine lv_aload_n hx hb dX1_readFrom_14 rfl (lv_at hl 0 rfl) ?_
  refine lv_iconst (v := 0) hx hb dX1_readFrom_15 (by decide) ?_
  refine q_put (v := .int 0) (w' := [(h, .inr (1, [.ref pp, .ref qq, .ref h0, .int 0, .int 0, .int 0, .int 0])), (h0, .inl (cy 1, 8, .inl (fun _ => 0))), (o, .inr (9, [.ref o0, .int 0, .int 0, .int 0, .int 0, .int 0, .int 0, .int 0, .int 0, .int 0, .int 0])), (pp, .inr (6, [.int 4, .int 4, .int 10, .int 1, .int 3, .int 0, .int 0, .int 0, .ref pp0, .ref pp1, .ref pp2])), (pp0, .inl (cy 1, 8, .inl (fun _ => 0))), (pp1, .inl (cy 1, 8, .inl (fun _ => 0))), (pp2, .inl (cy 1, 56, .inl (fun _ => 0))), (qq, .inr (8, [.ref qq0, .ref qq1, .ref qq2, .ref qq3, .ref qq4, .int 0, .int 0, .ref qq5])), (qq0, .inl (cy 1, 8, .inl (fun _ => 0))), (qq1, .inl (cy 1, 8, .inl (fun _ => 0))), (qq2, .inl (cy 1, 8, .inl (fun _ => 0))), (qq3, .inl (cy 1, 8, .inl (fun _ => 0))), (qq4, .inl (cy 1, 64, .inl (fun _ => 0)))]) (ty := .int) C hP hD hS 0 3 rfl rfl inX1 tyX1 tyX1_ok nmX1 (by decide) kF_RX1_29 rfl rfl rfl rfl rfl (Nat.le_of_ble_eq_true rfl) rfl dX1_readFrom_16 (fun H locs hP hD hS => ?_)
  refine lv_aload_n hx hb dX1_readFrom_19 rfl (lv_at hl 0 rfl) ?_
  refine lv_iconst (v := 0) hx hb dX1_readFrom_20 (by decide) ?_
  refine q_put (v := .int 0) (w' := [(h, .inr (1, [.ref pp, .ref qq, .ref h0, .int 0, .int 0, .int 0, .int 0])), (h0, .inl (cy 1, 8, .inl (fun _ => 0))), (o, .inr (9, [.ref o0, .int 0, .int 0, .int 0, .int 0, .int 0, .int 0, .int 0, .int 0, .int 0, .int 0])), (pp, .inr (6, [.int 4, .int 4, .int 10, .int 1, .int 3, .int 0, .int 0, .int 0, .ref pp0, .ref pp1, .ref pp2])), (pp0, .inl (cy 1, 8, .inl (fun _ => 0))), (pp1, .inl (cy 1, 8, .inl (fun _ => 0))), (pp2, .inl (cy 1, 56, .inl (fun _ => 0))), (qq, .inr (8, [.ref qq0, .ref qq1, .ref qq2, .ref qq3, .ref qq4, .int 0, .int 0, .ref qq5])), (qq0, .inl (cy 1, 8, .inl (fun _ => 0))), (qq1, .inl (cy 1, 8, .inl (fun _ => 0))), (qq2, .inl (cy 1, 8, .inl (fun _ => 0))), (qq3, .inl (cy 1, 8, .inl (fun _ => 0))), (qq4, .inl (cy 1, 64, .inl (fun _ => 0)))]) (ty := .int) C hP hD hS 0 4 rfl rfl inX1 tyX1 tyX1_ok nmX1 (by decide) kF_RX1_33 rfl rfl rfl rfl rfl (Nat.le_of_ble_eq_true rfl) rfl dX1_readFrom_21 (fun H locs hP hD hS => ?_)
  refine lv_iconst (v := 0) hx hb dX1_readFrom_24 (by decide) ?_
  refine lv_istore_n (lv' := [(2, .int 0), (0, .ref h), (1, .ref o)]) hx hb dX1_readFrom_25 rfl hl (by decide) rfl (fun ls hl => ?_)
  refine lv_iload_n hx hb dX1_readFrom_26 rfl (lv_at hl 0 rfl) ?_
  refine lv_bipush (v := 8) hx hb dX1_readFrom_27 (by decide) ?_
  refine lv_icmp_ge (tgt := 45) hx hb dX1_readFrom_29 (by decide) (fun c_0 => absurd c_0 (by decide)) (fun _ => ?_)
  refine lv_aload_n hx hb dX1_readFrom_32 rfl (lv_at hl 1 rfl) ?_
  refine q_get (v := .ref h0) C hP 0 2 rfl rfl inX1 (by decide) kF_RX1_25 rfl rfl dX1_readFrom_33 ?_
  refine lv_iload_n hx hb dX1_readFrom_36 rfl (lv_at hl 0 rfl) ?_
  refine lv_iconst (v := 0) hx hb dX1_readFrom_37 (by decide) ?_
  refine q_iast (g := fun _ => 0) (w' := [(h, .inr (1, [.ref pp, .ref qq, .ref h0, .int 0, .int 0, .int 0, .int 0])), (h0, .inl (cy 1, 8, .inl (fun _ => 0))), (o, .inr (9, [.ref o0, .int 0, .int 0, .int 0, .int 0, .int 0, .int 0, .int 0, .int 0, .int 0, .int 0])), (pp, .inr (6, [.int 4, .int 4, .int 10, .int 1, .int 3, .int 0, .int 0, .int 0, .ref pp0, .ref pp1, .ref pp2])), (pp0, .inl (cy 1, 8, .inl (fun _ => 0))), (pp1, .inl (cy 1, 8, .inl (fun _ => 0))), (pp2, .inl (cy 1, 56, .inl (fun _ => 0))), (qq, .inr (8, [.ref qq0, .ref qq1, .ref qq2, .ref qq3, .ref qq4, .int 0, .int 0, .ref qq5])), (qq0, .inl (cy 1, 8, .inl (fun _ => 0))), (qq1, .inl (cy 1, 8, .inl (fun _ => 0))), (qq2, .inl (cy 1, 8, .inl (fun _ => 0))), (qq3, .inl (cy 1, 8, .inl (fun _ => 0))), (qq4, .inl (cy 1, 64, .inl (fun _ => 0)))]) C hP hD hS 1 rfl (vin (by decide +kernel)) (updz _) rfl dX1_readFrom_38 (fun H locs hP hD hS => ?_)
  refine lv_iinc (v := 1) (lv' := [(2, .int 1), (0, .ref h), (1, .ref o)]) hx hb dX1_readFrom_39 hl (k := 0) rfl (by decide) (by decide) rfl (fun ls hl => ?_)
  refine lv_goto (tgt := 26) hx hb dX1_readFrom_42 (by decide) ?_
  refine lv_iload_n hx hb dX1_readFrom_26 rfl (lv_at hl 0 rfl) ?_
  refine lv_bipush (v := 8) hx hb dX1_readFrom_27 (by decide) ?_
  refine lv_icmp_ge (tgt := 45) hx hb dX1_readFrom_29 (by decide) (fun c_0 => absurd c_0 (by decide)) (fun _ => ?_)
  refine lv_aload_n hx hb dX1_readFrom_32 rfl (lv_at hl 1 rfl) ?_
  refine q_get (v := .ref h0) C hP 0 2 rfl rfl inX1 (by decide) kF_RX1_25 rfl rfl dX1_readFrom_33 ?_
  refine lv_iload_n hx hb dX1_readFrom_36 rfl (lv_at hl 0 rfl) ?_
  refine lv_iconst (v := 0) hx hb dX1_readFrom_37 (by decide) ?_
  refine q_iast (g := fun _ => 0) (w' := [(h, .inr (1, [.ref pp, .ref qq, .ref h0, .int 0, .int 0, .int 0, .int 0])), (h0, .inl (cy 1, 8, .inl (fun _ => 0))), (o, .inr (9, [.ref o0, .int 0, .int 0, .int 0, .int 0, .int 0, .int 0, .int 0, .int 0, .int 0, .int 0])), (pp, .inr (6, [.int 4, .int 4, .int 10, .int 1, .int 3, .int 0, .int 0, .int 0, .ref pp0, .ref pp1, .ref pp2])), (pp0, .inl (cy 1, 8, .inl (fun _ => 0))), (pp1, .inl (cy 1, 8, .inl (fun _ => 0))), (pp2, .inl (cy 1, 56, .inl (fun _ => 0))), (qq, .inr (8, [.ref qq0, .ref qq1, .ref qq2, .ref qq3, .ref qq4, .int 0, .int 0, .ref qq5])), (qq0, .inl (cy 1, 8, .inl (fun _ => 0))), (qq1, .inl (cy 1, 8, .inl (fun _ => 0))), (qq2, .inl (cy 1, 8, .inl (fun _ => 0))), (qq3, .inl (cy 1, 8, .inl (fun _ => 0))), (qq4, .inl (cy 1, 64, .inl (fun _ => 0)))]) C hP hD hS 1 rfl (vin (by decide +kernel)) (updz _) rfl dX1_readFrom_38 (fun H locs hP hD hS => ?_)
  refine lv_iinc (v := 2) (lv' := [(2, .int 2), (0, .ref h), (1, .ref o)]) hx hb dX1_readFrom_39 hl (k := 0) rfl (by decide) (by decide) rfl (fun ls hl => ?_)
  refine lv_goto (tgt := 26) hx hb dX1_readFrom_42 (by decide) ?_
  refine lv_iload_n hx hb dX1_readFrom_26 rfl (lv_at hl 0 rfl) ?_
  refine lv_bipush (v := 8) hx hb dX1_readFrom_27 (by decide) ?_
  refine lv_icmp_ge (tgt := 45) hx hb dX1_readFrom_29 (by decide) (fun c_0 => absurd c_0 (by decide)) (fun _ => ?_)
  refine lv_aload_n hx hb dX1_readFrom_32 rfl (lv_at hl 1 rfl) ?_
  refine q_get (v := .ref h0) C hP 0 2 rfl rfl inX1 (by decide) kF_RX1_25 rfl rfl dX1_readFrom_33 ?_
  refine lv_iload_n hx hb dX1_readFrom_36 rfl (lv_at hl 0 rfl) ?_
  refine lv_iconst (v := 0) hx hb dX1_readFrom_37 (by decide) ?_
  refine q_iast (g := fun _ => 0) (w' := [(h, .inr (1, [.ref pp, .ref qq, .ref h0, .int 0, .int 0, .int 0, .int 0])), (h0, .inl (cy 1, 8, .inl (fun _ => 0))), (o, .inr (9, [.ref o0, .int 0, .int 0, .int 0, .int 0, .int 0, .int 0, .int 0, .int 0, .int 0, .int 0])), (pp, .inr (6, [.int 4, .int 4, .int 10, .int 1, .int 3, .int 0, .int 0, .int 0, .ref pp0, .ref pp1, .ref pp2])), (pp0, .inl (cy 1, 8, .inl (fun _ => 0))), (pp1, .inl (cy 1, 8, .inl (fun _ => 0))), (pp2, .inl (cy 1, 56, .inl (fun _ => 0))), (qq, .inr (8, [.ref qq0, .ref qq1, .ref qq2, .ref qq3, .ref qq4, .int 0, .int 0, .ref qq5])), (qq0, .inl (cy 1, 8, .inl (fun _ => 0))), (qq1, .inl (cy 1, 8, .inl (fun _ => 0))), (qq2, .inl (cy 1, 8, .inl (fun _ => 0))), (qq3, .inl (cy 1, 8, .inl (fun _ => 0))), (qq4, .inl (cy 1, 64, .inl (fun _ => 0)))]) C hP hD hS 1 rfl (vin (by decide +kernel)) (updz _) rfl dX1_readFrom_38 (fun H locs hP hD hS => ?_)
  refine lv_iinc (v := 3) (lv' := [(2, .int 3), (0, .ref h), (1, .ref o)]) hx hb dX1_readFrom_39 hl (k := 0) rfl (by decide) (by decide) rfl (fun ls hl => ?_)
  refine lv_goto (tgt := 26) hx hb dX1_readFrom_42 (by decide) ?_
  refine lv_iload_n hx hb dX1_readFrom_26 rfl (lv_at hl 0 rfl) ?_
  refine lv_bipush (v := 8) hx hb dX1_readFrom_27 (by decide) ?_
  refine lv_icmp_ge (tgt := 45) hx hb dX1_readFrom_29 (by decide) (fun c_0 => absurd c_0 (by decide)) (fun _ => ?_)
  refine lv_aload_n hx hb dX1_readFrom_32 rfl (lv_at hl 1 rfl) ?_
  refine q_get (v := .ref h0) C hP 0 2 rfl rfl inX1 (by decide) kF_RX1_25 rfl rfl dX1_readFrom_33 ?_
  refine lv_iload_n hx hb dX1_readFrom_36 rfl (lv_at hl 0 rfl) ?_
  refine lv_iconst (v := 0) hx hb dX1_readFrom_37 (by decide) ?_
  refine q_iast (g := fun _ => 0) (w' := [(h, .inr (1, [.ref pp, .ref qq, .ref h0, .int 0, .int 0, .int 0, .int 0])), (h0, .inl (cy 1, 8, .inl (fun _ => 0))), (o, .inr (9, [.ref o0, .int 0, .int 0, .int 0, .int 0, .int 0, .int 0, .int 0, .int 0, .int 0, .int 0])), (pp, .inr (6, [.int 4, .int 4, .int 10, .int 1, .int 3, .int 0, .int 0, .int 0, .ref pp0, .ref pp1, .ref pp2])), (pp0, .inl (cy 1, 8, .inl (fun _ => 0))), (pp1, .inl (cy 1, 8, .inl (fun _ => 0))), (pp2, .inl (cy 1, 56, .inl (fun _ => 0))), (qq, .inr (8, [.ref qq0, .ref qq1, .ref qq2, .ref qq3, .ref qq4, .int 0, .int 0, .ref qq5])), (qq0, .inl (cy 1, 8, .inl (fun _ => 0))), (qq1, .inl (cy 1, 8, .inl (fun _ => 0))), (qq2, .inl (cy 1, 8, .inl (fun _ => 0))), (qq3, .inl (cy 1, 8, .inl (fun _ => 0))), (qq4, .inl (cy 1, 64, .inl (fun _ => 0)))]) C hP hD hS 1 rfl (vin (by decide +kernel)) (updz _) rfl dX1_readFrom_38 (fun H locs hP hD hS => ?_)
  refine lv_iinc (v := 4) (lv' := [(2, .int 4), (0, .ref h), (1, .ref o)]) hx hb dX1_readFrom_39 hl (k := 0) rfl (by decide) (by decide) rfl (fun ls hl => ?_)
  refine lv_goto (tgt := 26) hx hb dX1_readFrom_42 (by decide) ?_
  refine lv_iload_n hx hb dX1_readFrom_26 rfl (lv_at hl 0 rfl) ?_
  refine lv_bipush (v := 8) hx hb dX1_readFrom_27 (by decide) ?_
  refine lv_icmp_ge (tgt := 45) hx hb dX1_readFrom_29 (by decide) (fun c_0 => absurd c_0 (by decide)) (fun _ => ?_)
  refine lv_aload_n hx hb dX1_readFrom_32 rfl (lv_at hl 1 rfl) ?_
  refine q_get (v := .ref h0) C hP 0 2 rfl rfl inX1 (by decide) kF_RX1_25 rfl rfl dX1_readFrom_33 ?_
  refine lv_iload_n hx hb dX1_readFrom_36 rfl (lv_at hl 0 rfl) ?_
  refine lv_iconst (v := 0) hx hb dX1_readFrom_37 (by decide) ?_
  refine q_iast (g := fun _ => 0) (w' := [(h, .inr (1, [.ref pp, .ref qq, .ref h0, .int 0, .int 0, .int 0, .int 0])), (h0, .inl (cy 1, 8, .inl (fun _ => 0))), (o, .inr (9, [.ref o0, .int 0, .int 0, .int 0, .int 0, .int 0, .int 0, .int 0, .int 0, .int 0, .int 0])), (pp, .inr (6, [.int 4, .int 4, .int 10, .int 1, .int 3, .int 0, .int 0, .int 0, .ref pp0, .ref pp1, .ref pp2])), (pp0, .inl (cy 1, 8, .inl (fun _ => 0))), (pp1, .inl (cy 1, 8, .inl (fun _ => 0))), (pp2, .inl (cy 1, 56, .inl (fun _ => 0))), (qq, .inr (8, [.ref qq0, .ref qq1, .ref qq2, .ref qq3, .ref qq4, .int 0, .int 0, .ref qq5])), (qq0, .inl (cy 1, 8, .inl (fun _ => 0))), (qq1, .inl (cy 1, 8, .inl (fun _ => 0))), (qq2, .inl (cy 1, 8, .inl (fun _ => 0))), (qq3, .inl (cy 1, 8, .inl (fun _ => 0))), (qq4, .inl (cy 1, 64, .inl (fun _ => 0)))]) C hP hD hS 1 rfl (vin (by decide +kernel)) (updz _) rfl dX1_readFrom_38 (fun H locs hP hD hS => ?_)
  refine lv_iinc (v := 5) (lv' := [(2, .int 5), (0, .ref h), (1, .ref o)]) hx hb dX1_readFrom_39 hl (k := 0) rfl (by decide) (by decide) rfl (fun ls hl => ?_)
  refine lv_goto (tgt := 26) hx hb dX1_readFrom_42 (by decide) ?_
  refine lv_iload_n hx hb dX1_readFrom_26 rfl (lv_at hl 0 rfl) ?_
  refine lv_bipush (v := 8) hx hb dX1_readFrom_27 (by decide) ?_
  refine lv_icmp_ge (tgt := 45) hx hb dX1_readFrom_29 (by decide) (fun c_0 => absurd c_0 (by decide)) (fun _ => ?_)
  refine lv_aload_n hx hb dX1_readFrom_32 rfl (lv_at hl 1 rfl) ?_
  refine q_get (v := .ref h0) C hP 0 2 rfl rfl inX1 (by decide) kF_RX1_25 rfl rfl dX1_readFrom_33 ?_
  refine lv_iload_n hx hb dX1_readFrom_36 rfl (lv_at hl 0 rfl) ?_
  refine lv_iconst (v := 0) hx hb dX1_readFrom_37 (by decide) ?_
  refine q_iast (g := fun _ => 0) (w' := [(h, .inr (1, [.ref pp, .ref qq, .ref h0, .int 0, .int 0, .int 0, .int 0])), (h0, .inl (cy 1, 8, .inl (fun _ => 0))), (o, .inr (9, [.ref o0, .int 0, .int 0, .int 0, .int 0, .int 0, .int 0, .int 0, .int 0, .int 0, .int 0])), (pp, .inr (6, [.int 4, .int 4, .int 10, .int 1, .int 3, .int 0, .int 0, .int 0, .ref pp0, .ref pp1, .ref pp2])), (pp0, .inl (cy 1, 8, .inl (fun _ => 0))), (pp1, .inl (cy 1, 8, .inl (fun _ => 0))), (pp2, .inl (cy 1, 56, .inl (fun _ => 0))), (qq, .inr (8, [.ref qq0, .ref qq1, .ref qq2, .ref qq3, .ref qq4, .int 0, .int 0, .ref qq5])), (qq0, .inl (cy 1, 8, .inl (fun _ => 0))), (qq1, .inl (cy 1, 8, .inl (fun _ => 0))), (qq2, .inl (cy 1, 8, .inl (fun _ => 0))), (qq3, .inl (cy 1, 8, .inl (fun _ => 0))), (qq4, .inl (cy 1, 64, .inl (fun _ => 0)))]) C hP hD hS 1 rfl (vin (by decide +kernel)) (updz _) rfl dX1_readFrom_38 (fun H locs hP hD hS => ?_)
  refine lv_iinc (v := 6) (lv' := [(2, .int 6), (0, .ref h), (1, .ref o)]) hx hb dX1_readFrom_39 hl (k := 0) rfl (by decide) (by decide) rfl (fun ls hl => ?_)
  refine lv_goto (tgt := 26) hx hb dX1_readFrom_42 (by decide) ?_
  refine lv_iload_n hx hb dX1_readFrom_26 rfl (lv_at hl 0 rfl) ?_
  refine lv_bipush (v := 8) hx hb dX1_readFrom_27 (by decide) ?_
  refine lv_icmp_ge (tgt := 45) hx hb dX1_readFrom_29 (by decide) (fun c_0 => absurd c_0 (by decide)) (fun _ => ?_)
  refine lv_aload_n hx hb dX1_readFrom_32 rfl (lv_at hl 1 rfl) ?_
  refine q_get (v := .ref h0) C hP 0 2 rfl rfl inX1 (by decide) kF_RX1_25 rfl rfl dX1_readFrom_33 ?_
  refine lv_iload_n hx hb dX1_readFrom_36 rfl (lv_at hl 0 rfl) ?_
  refine lv_iconst (v := 0) hx hb dX1_readFrom_37 (by decide) ?_
  refine q_iast (g := fun _ => 0) (w' := [(h, .inr (1, [.ref pp, .ref qq, .ref h0, .int 0, .int 0, .int 0, .int 0])), (h0, .inl (cy 1, 8, .inl (fun _ => 0))), (o, .inr (9, [.ref o0, .int 0, .int 0, .int 0, .int 0, .int 0, .int 0, .int 0, .int 0, .int 0, .int 0])), (pp, .inr (6, [.int 4, .int 4, .int 10, .int 1, .int 3, .int 0, .int 0, .int 0, .ref pp0, .ref pp1, .ref pp2])), (pp0, .inl (cy 1, 8, .inl (fun _ => 0))), (pp1, .inl (cy 1, 8, .inl (fun _ => 0))), (pp2, .inl (cy 1, 56, .inl (fun _ => 0))), (qq, .inr (8, [.ref qq0, .ref qq1, .ref qq2, .ref qq3, .ref qq4, .int 0, .int 0, .ref qq5])), (qq0, .inl (cy 1, 8, .inl (fun _ => 0))), (qq1, .inl (cy 1, 8, .inl (fun _ => 0))), (qq2, .inl (cy 1, 8, .inl (fun _ => 0))), (qq3, .inl (cy 1, 8, .inl (fun _ => 0))), (qq4, .inl (cy 1, 64, .inl (fun _ => 0)))]) C hP hD hS 1 rfl (vin (by decide +kernel)) (updz _) rfl dX1_readFrom_38 (fun H locs hP hD hS => ?_)
  refine lv_iinc (v := 7) (lv' := [(2, .int 7), (0, .ref h), (1, .ref o)]) hx hb dX1_readFrom_39 hl (k := 0) rfl (by decide) (by decide) rfl (fun ls hl => ?_)
  refine lv_goto (tgt := 26) hx hb dX1_readFrom_42 (by decide) ?_
  refine lv_iload_n hx hb dX1_readFrom_26 rfl (lv_at hl 0 rfl) ?_
  refine lv_bipush (v := 8) hx hb dX1_readFrom_27 (by decide) ?_
  refine lv_icmp_ge (tgt := 45) hx hb dX1_readFrom_29 (by decide) (fun c_0 => absurd c_0 (by decide)) (fun _ => ?_)
  refine lv_aload_n hx hb dX1_readFrom_32 rfl (lv_at hl 1 rfl) ?_
  refine q_get (v := .ref h0) C hP 0 2 rfl rfl inX1 (by decide) kF_RX1_25 rfl rfl dX1_readFrom_33 ?_
  refine lv_iload_n hx hb dX1_readFrom_36 rfl (lv_at hl 0 rfl) ?_
  refine lv_iconst (v := 0) hx hb dX1_readFrom_37 (by decide) ?_
  refine q_iast (g := fun _ => 0) (w' := [(h, .inr (1, [.ref pp, .ref qq, .ref h0, .int 0, .int 0, .int 0, .int 0])), (h0, .inl (cy 1, 8, .inl (fun _ => 0))), (o, .inr (9, [.ref o0, .int 0, .int 0, .int 0, .int 0, .int 0, .int 0, .int 0, .int 0, .int 0, .int 0])), (pp, .inr (6, [.int 4, .int 4, .int 10, .int 1, .int 3, .int 0, .int 0, .int 0, .ref pp0, .ref pp1, .ref pp2])), (pp0, .inl (cy 1, 8, .inl (fun _ => 0))), (pp1, .inl (cy 1, 8, .inl (fun _ => 0))), (pp2, .inl (cy 1, 56, .inl (fun _ => 0))), (qq, .inr (8, [.ref qq0, .ref qq1, .ref qq2, .ref qq3, .ref qq4, .int 0, .int 0, .ref qq5])), (qq0, .inl (cy 1, 8, .inl (fun _ => 0))), (qq1, .inl (cy 1, 8, .inl (fun _ => 0))), (qq2, .inl (cy 1, 8, .inl (fun _ => 0))), (qq3, .inl (cy 1, 8, .inl (fun _ => 0))), (qq4, .inl (cy 1, 64, .inl (fun _ => 0)))]) C hP hD hS 1 rfl (vin (by decide +kernel)) (updz _) rfl dX1_readFrom_38 (fun H locs hP hD hS => ?_)
  refine lv_iinc (v := 8) (lv' := [(2, .int 8), (0, .ref h), (1, .ref o)]) hx hb dX1_readFrom_39 hl (k := 0) rfl (by decide) (by decide) rfl (fun ls hl => ?_)
  refine lv_goto (tgt := 26) hx hb dX1_readFrom_42 (by decide) ?_
  refine lv_iload_n hx hb dX1_readFrom_26 rfl (lv_at hl 0 rfl) ?_
  refine lv_bipush (v := 8) hx hb dX1_readFrom_27 (by decide) ?_
  refine lv_icmp_ge (tgt := 45) hx hb dX1_readFrom_29 (by decide) (fun _ => ?_) (fun c_0 => absurd (by decide) c_0)
  refine lv_aload_n hx hb dX1_readFrom_45 rfl (lv_at hl 2 rfl) ?_
  refine lv_sipush (v := 900) hx hb dX1_readFrom_46 (by decide) ?_
  refine q_av (wr := [(h, .inr (1, [.ref pp, .ref qq, .ref h0, .int 0, .int 0, .int 0, .int 0])), (h0, .inl (cy 1, 8, .inl (fun _ => 0))), (pp, .inr (6, [.int 4, .int 4, .int 10, .int 1, .int 3, .int 0, .int 0, .int 0, .ref pp0, .ref pp1, .ref pp2])), (pp0, .inl (cy 1, 8, .inl (fun _ => 0))), (pp1, .inl (cy 1, 8, .inl (fun _ => 0))), (pp2, .inl (cy 1, 56, .inl (fun _ => 0))), (qq, .inr (8, [.ref qq0, .ref qq1, .ref qq2, .ref qq3, .ref qq4, .int 0, .int 0, .ref qq5])), (qq0, .inl (cy 1, 8, .inl (fun _ => 0))), (qq1, .inl (cy 1, 8, .inl (fun _ => 0))), (qq2, .inl (cy 1, 8, .inl (fun _ => 0))), (qq3, .inl (cy 1, 8, .inl (fun _ => 0))), (qq4, .inl (cy 1, 64, .inl (fun _ => 0)))]) (r_V (q0 := 0) (As := [.int 900]) (rest := []) (wc := [(o, .inr (9, [.ref o0, .int 0, .int 0, .int 0, .int 0, .int 0, .int 0, .int 0, .int 0, .int 0, .int 0]))]) C (q_subP hP [2] rfl) (hD.sub [2] (by decide) rfl) (c_open_900 l D cy o o0 _ ) kwV_X9_open kM_RX1_46 rfl rfl ⟨Nat.le_of_ble_eq_true rfl, Nat.le_of_ble_eq_true rfl⟩ rfl hl.1 rfl (Nat.le_of_ble_eq_true rfl) dX1_readFrom_49 ⟨Nat.le_of_ble_eq_true rfl, Nat.le_of_ble_eq_true rfl⟩) C.2.2.2.2.2.2.1 hP hD hS [2] [0, 1, 3, 4, 5, 6, 7, 8, 9, 10, 11, 12] rfl rfl (by decide) (by decide) (fun u_7 H locs hw_9 hP hD hS => ?_)
  have hP : va_P D vwCl [(h, .inr (1, [.ref pp, .ref qq, .ref h0, .int 0, .int 0, .int 0, .int 0])), (h0, .inl (cy 1, 8, .inl (fun _ => 0))), (pp, .inr (6, [.int 4, .int 4, .int 10, .int 1, .int 3, .int 0, .int 0, .int 0, .ref pp0, .ref pp1, .ref pp2])), (pp0, .inl (cy 1, 8, .inl (fun _ => 0))), (pp1, .inl (cy 1, 8, .inl (fun _ => 0))), (pp2, .inl (cy 1, 56, .inl (fun _ => 0))), (qq, .inr (8, [.ref qq0, .ref qq1, .ref qq2, .ref qq3, .ref qq4, .int 0, .int 0, .ref qq5])), (qq0, .inl (cy 1, 8, .inl (fun _ => 0))), (qq1, .inl (cy 1, 8, .inl (fun _ => 0))), (qq2, .inl (cy 1, 8, .inl (fun _ => 0))), (qq3, .inl (cy 1, 8, .inl (fun _ => 0))), (qq4, .inl (cy 1, 64, .inl (fun _ => 0))), (o, .inr (9, [.ref o0, .int 0, .int 0, .int 0, .int 0, .int 0, .int 0, .int 0, .int 0, .int 0, .int 0]))] H := hP
  have hD : va_D A [(h, .inr (1, [.ref pp, .ref qq, .ref h0, .int 0, .int 0, .int 0, .int 0])), (h0, .inl (cy 1, 8, .inl (fun _ => 0))), (pp, .inr (6, [.int 4, .int 4, .int 10, .int 1, .int 3, .int 0, .int 0, .int 0, .ref pp0, .ref pp1, .ref pp2])), (pp0, .inl (cy 1, 8, .inl (fun _ => 0))), (pp1, .inl (cy 1, 8, .inl (fun _ => 0))), (pp2, .inl (cy 1, 56, .inl (fun _ => 0))), (qq, .inr (8, [.ref qq0, .ref qq1, .ref qq2, .ref qq3, .ref qq4, .int 0, .int 0, .ref qq5])), (qq0, .inl (cy 1, 8, .inl (fun _ => 0))), (qq1, .inl (cy 1, 8, .inl (fun _ => 0))), (qq2, .inl (cy 1, 8, .inl (fun _ => 0))), (qq3, .inl (cy 1, 8, .inl (fun _ => 0))), (qq4, .inl (cy 1, 64, .inl (fun _ => 0))), (o, .inr (9, [.ref o0, .int 0, .int 0, .int 0, .int 0, .int 0, .int 0, .int 0, .int 0, .int 0, .int 0]))] := hD
  refine lv_iconst (v := 0) hx hb dX1_readFrom_52 (by decide) ?_
  refine lv_istore_n (lv' := [(2, .int 0), (0, .ref h), (1, .ref o)]) hx hb dX1_readFrom_53 rfl hl (by decide) rfl (fun ls hl => ?_)
  refine lv_iload_n hx hb dX1_readFrom_54 rfl (lv_at hl 0 rfl) ?_
  refine lv_sipush (v := 900) hx hb dX1_readFrom_55 (by decide) ?_
  refine lv_icmp_ge (tgt := 93) hx hb dX1_readFrom_58 (by decide) (fun c_0 => absurd c_0 (by decide)) (fun _ => ?_)
  refine lv_aload_n hx hb dX1_readFrom_61 rfl (lv_at hl 2 rfl) ?_
  refine q_get (v := .int 0) C hP 12 2 rfl rfl inX9 (by decide) kF_RX1_52 rfl rfl dX1_readFrom_62 ?_
  refine lv_if_eq (tgt := 93) hx hb dX1_readFrom_65 (by decide) (fun _ => ?_) (fun c_0 => absurd (by decide) c_0)
  refine lv_aload_n hx hb dX1_readFrom_93 rfl (lv_at hl 2 rfl) ?_
  refine q_ai (wr := [(h, .inr (1, [.ref pp, .ref qq, .ref h0, .int 0, .int 0, .int 0, .int 0])), (h0, .inl (cy 1, 8, .inl (fun _ => 0))), (pp, .inr (6, [.int 4, .int 4, .int 10, .int 1, .int 3, .int 0, .int 0, .int 0, .ref pp0, .ref pp1, .ref pp2])), (pp0, .inl (cy 1, 8, .inl (fun _ => 0))), (pp1, .inl (cy 1, 8, .inl (fun _ => 0))), (pp2, .inl (cy 1, 56, .inl (fun _ => 0))), (qq, .inr (8, [.ref qq0, .ref qq1, .ref qq2, .ref qq3, .ref qq4, .int 0, .int 0, .ref qq5])), (qq0, .inl (cy 1, 8, .inl (fun _ => 0))), (qq1, .inl (cy 1, 8, .inl (fun _ => 0))), (qq2, .inl (cy 1, 8, .inl (fun _ => 0))), (qq3, .inl (cy 1, 8, .inl (fun _ => 0))), (qq4, .inl (cy 1, 64, .inl (fun _ => 0)))]) (r_V (q0 := 0) (As := []) (rest := []) (wc := [(o, .inr (9, [.ref o0, .int 0, .int 0, .int 0, .int 0, .int 0, .int 0, .int 0, .int 0, .int 0, .int 0]))]) C (q_subP hP [12] rfl) (hD.sub [12] (by decide) rfl) (c_closes l D cy o o0 _ ) kwV_X9_closes kM_RX1_63 rfl rfl ⟨Nat.le_of_ble_eq_true rfl, Nat.le_of_ble_eq_true rfl⟩ rfl hl.1 rfl (Nat.le_of_ble_eq_true rfl) dX1_readFrom_94 ⟨Nat.le_of_ble_eq_true rfl, Nat.le_of_ble_eq_true rfl⟩) C.2.2.2.2.2.2.1 hP hD hS [12] [0, 1, 2, 3, 4, 5, 6, 7, 8, 9, 10, 11] rfl rfl (by decide) (by decide) (fun r_11 u_10 H locs hw_12 hP hD hS => ?_)
  have hP : va_P D vwCl [(h, .inr (1, [.ref pp, .ref qq, .ref h0, .int 0, .int 0, .int 0, .int 0])), (h0, .inl (cy 1, 8, .inl (fun _ => 0))), (pp, .inr (6, [.int 4, .int 4, .int 10, .int 1, .int 3, .int 0, .int 0, .int 0, .ref pp0, .ref pp1, .ref pp2])), (pp0, .inl (cy 1, 8, .inl (fun _ => 0))), (pp1, .inl (cy 1, 8, .inl (fun _ => 0))), (pp2, .inl (cy 1, 56, .inl (fun _ => 0))), (qq, .inr (8, [.ref qq0, .ref qq1, .ref qq2, .ref qq3, .ref qq4, .int 0, .int 0, .ref qq5])), (qq0, .inl (cy 1, 8, .inl (fun _ => 0))), (qq1, .inl (cy 1, 8, .inl (fun _ => 0))), (qq2, .inl (cy 1, 8, .inl (fun _ => 0))), (qq3, .inl (cy 1, 8, .inl (fun _ => 0))), (qq4, .inl (cy 1, 64, .inl (fun _ => 0))), (o, .inr (9, [.ref o0, .int 0, .int 0, .int 0, .int 0, .int 0, .int 0, .int 0, .int 0, .int 0, .int 0]))] H := hP
  have hD : va_D A [(h, .inr (1, [.ref pp, .ref qq, .ref h0, .int 0, .int 0, .int 0, .int 0])), (h0, .inl (cy 1, 8, .inl (fun _ => 0))), (pp, .inr (6, [.int 4, .int 4, .int 10, .int 1, .int 3, .int 0, .int 0, .int 0, .ref pp0, .ref pp1, .ref pp2])), (pp0, .inl (cy 1, 8, .inl (fun _ => 0))), (pp1, .inl (cy 1, 8, .inl (fun _ => 0))), (pp2, .inl (cy 1, 56, .inl (fun _ => 0))), (qq, .inr (8, [.ref qq0, .ref qq1, .ref qq2, .ref qq3, .ref qq4, .int 0, .int 0, .ref qq5])), (qq0, .inl (cy 1, 8, .inl (fun _ => 0))), (qq1, .inl (cy 1, 8, .inl (fun _ => 0))), (qq2, .inl (cy 1, 8, .inl (fun _ => 0))), (qq3, .inl (cy 1, 8, .inl (fun _ => 0))), (qq4, .inl (cy 1, 64, .inl (fun _ => 0))), (o, .inr (9, [.ref o0, .int 0, .int 0, .int 0, .int 0, .int 0, .int 0, .int 0, .int 0, .int 0, .int 0]))] := hD
  obtain rfl : r_11 = 1 := hw_12
  refine lv_if_eq (tgt := 104) hx hb dX1_readFrom_97 (by decide) (fun c_0 => absurd c_0 (by decide)) (fun _ => ?_)
  refine lv_iload_n hx hb dX1_readFrom_100 rfl (lv_at hl 0 rfl) ?_
  refine lv_goto (tgt := 105) hx hb dX1_readFrom_101 (by decide) ?_
  exact q_iret (rm := (Rm 2 51 0 0)) C hS () rfl rfl (q_subP hP [0, 1, 2, 3, 4, 5, 6, 7, 8, 9, 10, 11, 12] rfl) (hD.sub [0, 1, 2, 3, 4, 5, 6, 7, 8, 9, 10, 11, 12] (by decide) rfl) (Nat.le_of_ble_eq_true rfl) (Nat.le_of_ble_eq_true rfl) dX1_readFrom_105
set_option maxHeartbeats 4000000 in
set_option maxRecDepth 100000 in
theorem c_beginsOne (l : Launch) (D : va_G) (cy : Nat → ClassId)  (sz : Nat)  : MI l yX7_beginsOne cX7_beginsOne 1 (some .boolean) (Rm 0 0 0 0) D cy [.int 0] sz [] (fun (r : Int32) (u : Unit) => r = 0) (fun u : Unit => []) := by
  refine MI.enter (by decide) (Nat.le_of_ble_eq_true rfl) ?_
  intro p e s m below meth c ls A hsz hAe C hP hD hS hl
  have C : Cx p s m _ meth c cX7_beginsOne 1 (some .boolean) RX7 "beginsOne" D cy A := C
  have hx := C.1
  have hb := C.2.1
  have hl : lv_has ls 1 [(0, .int 0)] := hl
  refine lv_iload_n hx hb dX7_beginsOne_0 rfl (lv_at hl 0 rfl) ?_
  refine lv_iconst (v := 3) hx hb dX7_beginsOne_1 (by decide) ?_
  refine lv_icmp_eq (tgt := 17) hx hb dX7_beginsOne_2 (by decide) (fun c_0 => absurd c_0 (by decide)) (fun _ => ?_)
  refine lv_iload_n hx hb dX7_beginsOne_5 rfl (lv_at hl 0 rfl) ?_
  refine lv_bipush (v := 17) hx hb dX7_beginsOne_6 (by decide) ?_
  refine lv_icmp_lt (tgt := 21) hx hb dX7_beginsOne_8 (by decide) (fun _ => ?_) (fun c_0 => absurd (by decide) c_0)
  refine lv_iconst (v := 0) hx hb dX7_beginsOne_21 (by decide) ?_
  exact q_iret (rm := (Rm 0 0 0 0)) C hS () rfl rfl (q_subP hP [] rfl) (hD.sub [] (by decide) rfl) (Nat.le_of_ble_eq_true rfl) (Nat.le_of_ble_eq_true rfl) dX7_beginsOne_22
set_option maxHeartbeats 4000000 in
set_option maxRecDepth 100000 in
theorem c_readOne (l : Launch) (D : va_G) (cy : Nat → ClassId) (h : Nat) (o : Nat) (pl : Nat) (h0 : Nat) (h1 : Nat) (h2 : Nat) (h3 : Nat) (o0 : Nat) (sz : Nat)  : MI l yX7_readOne cX7_readOne 6 (some .boolean) (Rm 1 21 0 0) D cy [.ref h, .ref o, .ref pl, .int 1] sz [(h, .inr (7, [.int 0, .int 0, .int 0, .ref h0, .ref h1, .ref h2, .ref h3])), (o, .inr (9, [.ref o0, .int 0, .int 0, .int 0, .int 0, .int 0, .int 0, .int 0, .int 0, .int 0, .int 0]))] (fun (r : Int32) (u : Unit) => r = 0) (fun u : Unit => [(h, .inr (7, [.int 0, .int 0, .int 0, .ref h0, .ref h1, .ref h2, .ref h3])), (o, .inr (9, [.ref o0, .int 0, .int 0, .int 0, .int 0, .int 0, .int 0, .int 1, .int 0, .int 0, .int 0]))]) := by
  refine MI.enter (by decide) (Nat.le_of_ble_eq_true rfl) ?_
  intro p e s m below meth c ls A hsz hAe C hP hD hS hl
  have C : Cx p s m _ meth c cX7_readOne 6 (some .boolean) RX7 "readOne" D cy A := C
  have hx := C.1
  have hb := C.2.1
  have hl : lv_has ls 6 [(0, .ref h), (1, .ref o), (2, .ref pl), (3, .int 1)] := hl
  refine lv_aload_n hx hb dX7_readOne_0 rfl (lv_at hl 1 rfl) ?_
  refine q_get (v := .int 0) C hP 1 2 rfl rfl inX9 (by decide) kF_RX7_74 rfl rfl dX7_readOne_1 ?_
  refine lv_bipush (v := 40) hx hb dX7_readOne_4 (by decide) ?_
  refine lv_icmp_ne (tgt := 13) hx hb dX7_readOne_6 (by decide) (fun _ => ?_) (fun c_0 => absurd c_0 (by decide))
  refine lv_iconst (v := 0) hx hb dX7_readOne_13 (by decide) ?_
  refine lv_istore (lv' := [(4, .int 0), (0, .ref h), (1, .ref o), (2, .ref pl), (3, .int 1)]) hx hb dX7_readOne_14 hl (by decide) rfl (fun ls hl => ?_)
  refine lv_iload hx hb dX7_readOne_16 (lv_at hl 0 rfl) ?_
  refine lv_if_ne (tgt := 37) hx hb dX7_readOne_18 (by decide) (fun c_0 => absurd (by decide) c_0) (fun _ => ?_)
  refine lv_aload_n hx hb dX7_readOne_21 rfl (lv_at hl 2 rfl) ?_
  refine q_get (v := .int 0) C hP 1 6 rfl rfl inX9 (by decide) kF_RX7_61 rfl rfl dX7_readOne_22 ?_
  refine q_ai (wr := [(h, .inr (7, [.int 0, .int 0, .int 0, .ref h0, .ref h1, .ref h2, .ref h3])), (o, .inr (9, [.ref o0, .int 0, .int 0, .int 0, .int 0, .int 0, .int 0, .int 0, .int 0, .int 0, .int 0]))]) (r_S (As := [.int 0]) (rest := []) (wc := []) C (q_subP hP [] rfl) (hD.sub [] (by decide) rfl) (c_beginsOne l D cy  _ ) kwS_X7_beginsOne kM_RX7_77 ⟨Nat.le_of_ble_eq_true rfl, Nat.le_of_ble_eq_true rfl⟩ rfl hl.1 rfl (Nat.le_of_ble_eq_true rfl) dX7_readOne_25 ⟨Nat.le_of_ble_eq_true rfl, Nat.le_of_ble_eq_true rfl⟩) C.2.2.2.2.2.2.1 hP hD hS [] [0, 1] rfl rfl (by decide) (by decide) (fun r_2 u_1 H locs hw_3 hP hD hS => ?_)
  have hP : va_P D vwCl [(h, .inr (7, [.int 0, .int 0, .int 0, .ref h0, .ref h1, .ref h2, .ref h3])), (o, .inr (9, [.ref o0, .int 0, .int 0, .int 0, .int 0, .int 0, .int 0, .int 0, .int 0, .int 0, .int 0]))] H := hP
  have hD : va_D A [(h, .inr (7, [.int 0, .int 0, .int 0, .ref h0, .ref h1, .ref h2, .ref h3])), (o, .inr (9, [.ref o0, .int 0, .int 0, .int 0, .int 0, .int 0, .int 0, .int 0, .int 0, .int 0, .int 0]))] := hD
  obtain rfl : r_2 = 0 := hw_3
  refine lv_if_ne (tgt := 37) hx hb dX7_readOne_28 (by decide) (fun c_0 => absurd (by decide) c_0) (fun _ => ?_)
  refine lv_aload_n hx hb dX7_readOne_31 rfl (lv_at hl 2 rfl) ?_
  refine lv_iconst (v := 1) hx hb dX7_readOne_32 (by decide) ?_
  refine q_ai (wr := [(h, .inr (7, [.int 0, .int 0, .int 0, .ref h0, .ref h1, .ref h2, .ref h3]))]) (r_V (q0 := 0) (As := [.int 1]) (rest := []) (wc := [(o, .inr (9, [.ref o0, .int 0, .int 0, .int 0, .int 0, .int 0, .int 0, .int 0, .int 0, .int 0, .int 0]))]) C (q_subP hP [1] rfl) (hD.sub [1] (by decide) rfl) (c_fail l D cy o o0 _ ) kwV_X9_fail kM_RX7_81 rfl rfl ⟨Nat.le_of_ble_eq_true rfl, Nat.le_of_ble_eq_true rfl⟩ rfl hl.1 rfl (Nat.le_of_ble_eq_true rfl) dX7_readOne_33 ⟨Nat.le_of_ble_eq_true rfl, Nat.le_of_ble_eq_true rfl⟩) C.2.2.2.2.2.2.1 hP hD hS [1] [0] rfl rfl (by decide) (by decide) (fun r_5 u_4 H locs hw_6 hP hD hS => ?_)
  have hP : va_P D vwCl [(h, .inr (7, [.int 0, .int 0, .int 0, .ref h0, .ref h1, .ref h2, .ref h3])), (o, .inr (9, [.ref o0, .int 0, .int 0, .int 0, .int 0, .int 0, .int 0, .int 1, .int 0, .int 0, .int 0]))] H := hP
  have hD : va_D A [(h, .inr (7, [.int 0, .int 0, .int 0, .ref h0, .ref h1, .ref h2, .ref h3])), (o, .inr (9, [.ref o0, .int 0, .int 0, .int 0, .int 0, .int 0, .int 0, .int 1, .int 0, .int 0, .int 0]))] := hD
  obtain rfl : r_5 = 0 := hw_6
  exact q_iret (rm := (Rm 1 21 0 0)) C hS () rfl rfl (q_subP hP [0, 1] rfl) (hD.sub [0, 1] (by decide) rfl) (Nat.le_of_ble_eq_true rfl) (Nat.le_of_ble_eq_true rfl) dX7_readOne_36
set_option maxHeartbeats 4000000 in
set_option maxRecDepth 100000 in
theorem c_readAll (l : Launch) (D : va_G) (cy : Nat → ClassId) (h : Nat) (o : Nat) (pl : Nat) (h0 : Nat) (h1 : Nat) (h2 : Nat) (h3 : Nat) (o0 : Nat) (sz : Nat)  : MI l yX7_readAll cX7_readAll 5 (some .boolean) (Rm 2 46 0 0) D cy [.ref h, .ref o, .ref pl, .int 1] sz [(h, .inr (7, [.int 0, .int 0, .int 0, .ref h0, .ref h1, .ref h2, .ref h3])), (o, .inr (9, [.ref o0, .int 0, .int 0, .int 0, .int 0, .int 0, .int 0, .int 0, .int 0, .int 0, .int 0]))] (fun (r : Int32) (u : Unit) => r = 0) (fun u : Unit => [(h, .inr (7, [.int 0, .int 0, .int 0, .ref h0, .ref h1, .ref h2, .ref h3])), (o, .inr (9, [.ref o0, .int 0, .int 0, .int 0, .int 0, .int 0, .int 0, .int 1, .int 0, .int 0, .int 0]))]) := by
  refine MI.enter (by decide) (Nat.le_of_ble_eq_true rfl) ?_
  intro p e s m below meth c ls A hsz hAe C hP hD hS hl
  have C : Cx p s m _ meth c cX7_readAll 5 (some .boolean) RX7 "readAll" D cy A := C
  have hx := C.1
  have hb := C.2.1
  have hl : lv_has ls 5 [(0, .ref h), (1, .ref o), (2, .ref pl), (3, .int 1)] := hl
  refine lv_aload_n hx hb dX7_readAll_0 rfl (lv_at hl 0 rfl) ?_
  refine lv_aload_n hx hb dX7_readAll_1 rfl (lv_at hl 1 rfl) ?_
  refine lv_aload_n hx hb dX7_readAll_2 rfl (lv_at hl 2 rfl) ?_
  refine lv_iload_n hx hb dX7_readAll_3 rfl (lv_at hl 3 rfl) ?_
  refine q_ai (wr := []) (r_V (q0 := 0) (As := [.ref o, .ref pl, .int 1]) (rest := []) (wc := [(h, .inr (7, [.int 0, .int 0, .int 0, .ref h0, .ref h1, .ref h2, .ref h3])), (o, .inr (9, [.ref o0, .int 0, .int 0, .int 0, .int 0, .int 0, .int 0, .int 0, .int 0, .int 0, .int 0]))]) C (q_subP hP [0, 1] rfl) (hD.sub [0, 1] (by decide) rfl) (c_readOne l D cy h o pl h0 h1 h2 h3 o0 _ ) kwV_X7_readOne kM_RX7_71 rfl rfl ⟨Nat.le_of_ble_eq_true rfl, Nat.le_of_ble_eq_true rfl⟩ rfl hl.1 rfl (Nat.le_of_ble_eq_true rfl) dX7_readAll_4 ⟨Nat.le_of_ble_eq_true rfl, Nat.le_of_ble_eq_true rfl⟩) C.2.2.2.2.2.2.1 hP hD hS [0, 1] [] rfl rfl (by decide) (by decide) (fun r_2 u_1 H locs hw_3 hP hD hS => ?_)
  have hP : va_P D vwCl [(h, .inr (7, [.int 0, .int 0, .int 0, .ref h0, .ref h1, .ref h2, .ref h3])), (o, .inr (9, [.ref o0, .int 0, .int 0, .int 0, .int 0, .int 0, .int 0, .int 1, .int 0, .int 0, .int 0]))] H := hP
  have hD : va_D A [(h, .inr (7, [.int 0, .int 0, .int 0, .ref h0, .ref h1, .ref h2, .ref h3])), (o, .inr (9, [.ref o0, .int 0, .int 0, .int 0, .int 0, .int 0, .int 0, .int 1, .int 0, .int 0, .int 0]))] := hD
  obtain rfl : r_2 = 0 := hw_3
  refine lv_if_ne (tgt := 12) hx hb dX7_readAll_7 (by decide) (fun c_0 => absurd (by decide) c_0) (fun _ => ?_)
  refine lv_iconst (v := 0) hx hb dX7_readAll_10 (by decide) ?_
  exact q_iret (rm := (Rm 2 46 0 0)) C hS () rfl rfl (q_subP hP [0, 1] rfl) (hD.sub [0, 1] (by decide) rfl) (Nat.le_of_ble_eq_true rfl) (Nat.le_of_ble_eq_true rfl) dX7_readAll_11
set_option maxHeartbeats 4000000 in
set_option maxRecDepth 100000 in
theorem c_readCond (l : Launch) (D : va_G) (cy : Nat → ClassId) (h : Nat) (o : Nat) (pl : Nat) (h0 : Nat) (h1 : Nat) (h2 : Nat) (h3 : Nat) (o0 : Nat) (sz : Nat)  : MI l yX7_readCond cX7_readCond 5 (some .boolean) (Rm 3 70 0 0) D cy [.ref h, .ref o, .ref pl, .int 1] sz [(h, .inr (7, [.int 0, .int 0, .int 0, .ref h0, .ref h1, .ref h2, .ref h3])), (o, .inr (9, [.ref o0, .int 0, .int 0, .int 0, .int 0, .int 0, .int 0, .int 0, .int 0, .int 0, .int 0]))] (fun (r : Int32) (u : Unit) => r = 0) (fun u : Unit => [(h, .inr (7, [.int 0, .int 0, .int 0, .ref h0, .ref h1, .ref h2, .ref h3])), (o, .inr (9, [.ref o0, .int 0, .int 0, .int 0, .int 0, .int 0, .int 0, .int 1, .int 0, .int 0, .int 0]))]) := by
  refine MI.enter (by decide) (Nat.le_of_ble_eq_true rfl) ?_
  intro p e s m below meth c ls A hsz hAe C hP hD hS hl
  have C : Cx p s m _ meth c cX7_readCond 5 (some .boolean) RX7 "readCond" D cy A := C
  have hx := C.1
  have hb := C.2.1
  have hl : lv_has ls 5 [(0, .ref h), (1, .ref o), (2, .ref pl), (3, .int 1)] := hl
  refine lv_aload_n hx hb dX7_readCond_0 rfl (lv_at hl 0 rfl) ?_
  refine lv_aload_n hx hb dX7_readCond_1 rfl (lv_at hl 1 rfl) ?_
  refine lv_aload_n hx hb dX7_readCond_2 rfl (lv_at hl 2 rfl) ?_
  refine lv_iload_n hx hb dX7_readCond_3 rfl (lv_at hl 3 rfl) ?_
  refine q_ai (wr := []) (r_V (q0 := 0) (As := [.ref o, .ref pl, .int 1]) (rest := []) (wc := [(h, .inr (7, [.int 0, .int 0, .int 0, .ref h0, .ref h1, .ref h2, .ref h3])), (o, .inr (9, [.ref o0, .int 0, .int 0, .int 0, .int 0, .int 0, .int 0, .int 0, .int 0, .int 0, .int 0]))]) C (q_subP hP [0, 1] rfl) (hD.sub [0, 1] (by decide) rfl) (c_readAll l D cy h o pl h0 h1 h2 h3 o0 _ ) kwV_X7_readAll kM_RX7_58 rfl rfl ⟨Nat.le_of_ble_eq_true rfl, Nat.le_of_ble_eq_true rfl⟩ rfl hl.1 rfl (Nat.le_of_ble_eq_true rfl) dX7_readCond_4 ⟨Nat.le_of_ble_eq_true rfl, Nat.le_of_ble_eq_true rfl⟩) C.2.2.2.2.2.2.1 hP hD hS [0, 1] [] rfl rfl (by decide) (by decide) (fun r_2 u_1 H locs hw_3 hP hD hS => ?_)
  have hP : va_P D vwCl [(h, .inr (7, [.int 0, .int 0, .int 0, .ref h0, .ref h1, .ref h2, .ref h3])), (o, .inr (9, [.ref o0, .int 0, .int 0, .int 0, .int 0, .int 0, .int 0, .int 1, .int 0, .int 0, .int 0]))] H := hP
  have hD : va_D A [(h, .inr (7, [.int 0, .int 0, .int 0, .ref h0, .ref h1, .ref h2, .ref h3])), (o, .inr (9, [.ref o0, .int 0, .int 0, .int 0, .int 0, .int 0, .int 0, .int 1, .int 0, .int 0, .int 0]))] := hD
  obtain rfl : r_2 = 0 := hw_3
  refine lv_if_ne (tgt := 12) hx hb dX7_readCond_7 (by decide) (fun c_0 => absurd (by decide) c_0) (fun _ => ?_)
  refine lv_iconst (v := 0) hx hb dX7_readCond_10 (by decide) ?_
  exact q_iret (rm := (Rm 3 70 0 0)) C hS () rfl rfl (q_subP hP [0, 1] rfl) (hD.sub [0, 1] (by decide) rfl) (Nat.le_of_ble_eq_true rfl) (Nat.le_of_ble_eq_true rfl) dX7_readCond_11
set_option maxHeartbeats 4000000 in
set_option maxRecDepth 100000 in
theorem c_TreadFrom (l : Launch) (D : va_G) (cy : Nat → ClassId) (h : Nat) (o : Nat) (pl : Nat) (h0 : Nat) (h1 : Nat) (h2 : Nat) (h3 : Nat) (o0 : Nat) (sz : Nat)  : MV l yX7_readFrom cX7_readFrom 3 (Rm 4 94 0 0) D cy [.ref h, .ref o, .ref pl] sz [(h, .inr (7, [.int 0, .int 0, .int 0, .ref h0, .ref h1, .ref h2, .ref h3])), (o, .inr (9, [.ref o0, .int 0, .int 0, .int 0, .int 0, .int 0, .int 0, .int 0, .int 0, .int 0, .int 0]))] (fun _ : Unit => True) (fun u : Unit => [(h, .inr (7, [.int 0, .int 0, .int 0, .ref h0, .ref h1, .ref h2, .ref h3])), (o, .inr (9, [.ref o0, .int 0, .int 0, .int 0, .int 0, .int 0, .int 0, .int 1, .int 0, .int 0, .int 0]))]) := by
  refine MV.enter (by decide) (Nat.le_of_ble_eq_true rfl) ?_
  intro p e s m below meth c ls A hsz hAe C hP hD hS hl
  have C : Cx p s m _ meth c cX7_readFrom 3 none RX7 "readFrom" D cy A := C
  have hx := C.1
  have hb := C.2.1
  have hl : lv_has ls 3 [(0, .ref h), (1, .ref o), (2, .ref pl)] := hl
  refine lv_aload_n hx hb dX7_readFrom_0 rfl (lv_at hl 0 rfl) ?_
  refine q_av (wr := [(o, .inr (9, [.ref o0, .int 0, .int 0, .int 0, .int 0, .int 0, .int 0, .int 0, .int 0, .int 0, .int 0]))]) (r_V (q0 := 0) (As := []) (rest := []) (wc := [(h, .inr (7, [.int 0, .int 0, .int 0, .ref h0, .ref h1, .ref h2, .ref h3]))]) C (q_subP hP [0] rfl) (hD.sub [0] (by decide) rfl) (c_Tforget l D cy h h0 h1 h2 h3 _ ) kwV_X7_forget kM_RX7_41 rfl rfl ⟨Nat.le_of_ble_eq_true rfl, Nat.le_of_ble_eq_true rfl⟩ rfl hl.1 rfl (Nat.le_of_ble_eq_true rfl) dX7_readFrom_1 ⟨Nat.le_of_ble_eq_true rfl, Nat.le_of_ble_eq_true rfl⟩) C.2.2.2.2.2.2.1 hP hD hS [0] [1] rfl rfl (by decide) (by decide) (fun u_1 H locs hw_3 hP hD hS => ?_)
  have hP : va_P D vwCl [(o, .inr (9, [.ref o0, .int 0, .int 0, .int 0, .int 0, .int 0, .int 0, .int 0, .int 0, .int 0, .int 0])), (h, .inr (7, [.int 0, .int 0, .int 0, .ref h0, .ref h1, .ref h2, .ref h3]))] H := hP
  have hD : va_D A [(o, .inr (9, [.ref o0, .int 0, .int 0, .int 0, .int 0, .int 0, .int 0, .int 0, .int 0, .int 0, .int 0])), (h, .inr (7, [.int 0, .int 0, .int 0, .ref h0, .ref h1, .ref h2, .ref h3]))] := hD
  refine lv_aload_n hx hb dX7_readFrom_4 rfl (lv_at hl 1 rfl) ?_
  refine lv_sipush (v := 200) hx hb dX7_readFrom_5 (by decide) ?_
  refine q_av (wr := [(h, .inr (7, [.int 0, .int 0, .int 0, .ref h0, .ref h1, .ref h2, .ref h3]))]) (r_V (q0 := 0) (As := [.int 200]) (rest := []) (wc := [(o, .inr (9, [.ref o0, .int 0, .int 0, .int 0, .int 0, .int 0, .int 0, .int 0, .int 0, .int 0, .int 0]))]) C (q_subP hP [0] rfl) (hD.sub [0] (by decide) rfl) (c_open_200 l D cy o o0 _ ) kwV_X9_open kM_RX7_44 rfl rfl ⟨Nat.le_of_ble_eq_true rfl, Nat.le_of_ble_eq_true rfl⟩ rfl hl.1 rfl (Nat.le_of_ble_eq_true rfl) dX7_readFrom_8 ⟨Nat.le_of_ble_eq_true rfl, Nat.le_of_ble_eq_true rfl⟩) C.2.2.2.2.2.2.1 hP hD hS [0] [1] rfl rfl (by decide) (by decide) (fun u_4 H locs hw_6 hP hD hS => ?_)
  have hP : va_P D vwCl [(h, .inr (7, [.int 0, .int 0, .int 0, .ref h0, .ref h1, .ref h2, .ref h3])), (o, .inr (9, [.ref o0, .int 0, .int 0, .int 0, .int 0, .int 0, .int 0, .int 0, .int 0, .int 0, .int 0]))] H := hP
  have hD : va_D A [(h, .inr (7, [.int 0, .int 0, .int 0, .ref h0, .ref h1, .ref h2, .ref h3])), (o, .inr (9, [.ref o0, .int 0, .int 0, .int 0, .int 0, .int 0, .int 0, .int 0, .int 0, .int 0, .int 0]))] := hD
  refine lv_aload_n hx hb dX7_readFrom_11 rfl (lv_at hl 0 rfl) ?_
  refine lv_aload_n hx hb dX7_readFrom_12 rfl (lv_at hl 0 rfl) ?_
  refine lv_aload_n hx hb dX7_readFrom_13 rfl (lv_at hl 1 rfl) ?_
  refine lv_aload_n hx hb dX7_readFrom_14 rfl (lv_at hl 2 rfl) ?_
  refine lv_iconst (v := 1) hx hb dX7_readFrom_15 (by decide) ?_
  refine q_ai (wr := []) (r_V (q0 := 0) (As := [.ref o, .ref pl, .int 1]) (rest := [.ref h]) (wc := [(h, .inr (7, [.int 0, .int 0, .int 0, .ref h0, .ref h1, .ref h2, .ref h3])), (o, .inr (9, [.ref o0, .int 0, .int 0, .int 0, .int 0, .int 0, .int 0, .int 0, .int 0, .int 0, .int 0]))]) C (q_subP hP [0, 1] rfl) (hD.sub [0, 1] (by decide) rfl) (c_readCond l D cy h o pl h0 h1 h2 h3 o0 _ ) kwV_X7_readCond kM_RX7_50 rfl rfl ⟨Nat.le_of_ble_eq_true rfl, Nat.le_of_ble_eq_true rfl⟩ rfl hl.1 rfl (Nat.le_of_ble_eq_true rfl) dX7_readFrom_16 ⟨Nat.le_of_ble_eq_true rfl, Nat.le_of_ble_eq_true rfl⟩) C.2.2.2.2.2.2.1 hP hD hS [0, 1] [] rfl rfl (by decide) (by decide) (fun r_8 u_7 H locs hw_9 hP hD hS => ?_)
  have hP : va_P D vwCl [(h, .inr (7, [.int 0, .int 0, .int 0, .ref h0, .ref h1, .ref h2, .ref h3])), (o, .inr (9, [.ref o0, .int 0, .int 0, .int 0, .int 0, .int 0, .int 0, .int 1, .int 0, .int 0, .int 0]))] H := hP
  have hD : va_D A [(h, .inr (7, [.int 0, .int 0, .int 0, .ref h0, .ref h1, .ref h2, .ref h3])), (o, .inr (9, [.ref o0, .int 0, .int 0, .int 0, .int 0, .int 0, .int 0, .int 1, .int 0, .int 0, .int 0]))] := hD
  obtain rfl : r_8 = 0 := hw_9
  refine lv_if_eq (tgt := 33) hx hb dX7_readFrom_19 (by decide) (fun _ => ?_) (fun c_0 => absurd (by decide) c_0)
  refine lv_iconst (v := 0) hx hb dX7_readFrom_33 (by decide) ?_
  refine q_put (v := .int 0) (w' := [(h, .inr (7, [.int 0, .int 0, .int 0, .ref h0, .ref h1, .ref h2, .ref h3])), (o, .inr (9, [.ref o0, .int 0, .int 0, .int 0, .int 0, .int 0, .int 0, .int 1, .int 0, .int 0, .int 0]))]) (ty := .boolean) C hP hD hS 0 0 rfl rfl inX7 tyX7 tyX7_ok nmX7 (by decide) kF_RX7_9 rfl rfl rfl rfl rfl (Nat.le_of_ble_eq_true rfl) rfl dX7_readFrom_34 (fun H locs hP hD hS => ?_)
  exact q_vret (rm := (Rm 4 94 0 0)) C hS () trivial (q_subP hP [0, 1] rfl) (hD.sub [0, 1] (by decide) rfl) (Nat.le_of_ble_eq_true rfl) (Nat.le_of_ble_eq_true rfl) dX7_readFrom_37
set_option maxHeartbeats 4000000 in
set_option maxRecDepth 100000 in
theorem c_LreadFrom (l : Launch) (D : va_G) (cy : Nat → ClassId) (h : Nat) (o : Nat) (pl : Nat) (h0 : Nat) (h1 : Nat) (h2 : Nat) (h3 : Nat) (o0 : Nat) (sz : Nat)  : MV l yX3_readFrom cX3_readFrom 5 (Rm 2 51 0 0) D cy [.ref h, .ref o, .ref pl] sz [(h, .inr (3, [.int 0, .int 0, .int 0, .int 0, .int 0, .int 0, .ref h0, .ref h1, .ref h2, .ref h3])), (o, .inr (9, [.ref o0, .int 0, .int 0, .int 0, .int 0, .int 0, .int 0, .int 0, .int 0, .int 0, .int 0]))] (fun _ : Unit => True) (fun u : Unit => [(h, .inr (3, [.int 0, .int 0, .int 0, .int 0, .int 0, .int 0, .ref h0, .ref h1, .ref h2, .ref h3])), (o, .inr (9, [.ref o0, .int 0, .int 0, .int 0, .int 0, .int 0, .int 0, .int 0, .int 0, .int 0, .int 0]))]) := by
  refine MV.enter (by decide) (Nat.le_of_ble_eq_true rfl) ?_
  intro p e s m below meth c ls A hsz hAe C hP hD hS hl
  have C : Cx p s m _ meth c cX3_readFrom 5 none RX3 "readFrom" D cy A := C
  have hx := C.1
  have hb := C.2.1
  have hl : lv_has ls 5 [(0, .ref h), (1, .ref o), (2, .ref pl)] := hl
  refine lv_aload_n hx hb dX3_readFrom_0 rfl (lv_at hl 0 rfl) ?_
  refine lv_iconst (v := 0) hx hb dX3_readFrom_1 (by decide) ?_
  refine q_put (v := .int 0) (w' := [(h, .inr (3, [.int 0, .int 0, .int 0, .int 0, .int 0, .int 0, .ref h0, .ref h1, .ref h2, .ref h3])), (o, .inr (9, [.ref o0, .int 0, .int 0, .int 0, .int 0, .int 0, .int 0, .int 0, .int 0, .int 0, .int 0]))]) (ty := .int) C hP hD hS 0 5 rfl rfl inX3 tyX3 tyX3_ok nmX3 (by decide) kF_RX3_28 rfl rfl rfl rfl rfl (Nat.le_of_ble_eq_true rfl) rfl dX3_readFrom_2 (fun H locs hP hD hS => ?_)
  refine lv_aload_n hx hb dX3_readFrom_5 rfl (lv_at hl 1 rfl) ?_
  refine lv_sipush (v := 400) hx hb dX3_readFrom_6 (by decide) ?_
  refine q_av (wr := [(h, .inr (3, [.int 0, .int 0, .int 0, .int 0, .int 0, .int 0, .ref h0, .ref h1, .ref h2, .ref h3]))]) (r_V (q0 := 0) (As := [.int 400]) (rest := []) (wc := [(o, .inr (9, [.ref o0, .int 0, .int 0, .int 0, .int 0, .int 0, .int 0, .int 0, .int 0, .int 0, .int 0]))]) C (q_subP hP [1] rfl) (hD.sub [1] (by decide) rfl) (c_open_400 l D cy o o0 _ ) kwV_X9_open kM_RX3_44 rfl rfl ⟨Nat.le_of_ble_eq_true rfl, Nat.le_of_ble_eq_true rfl⟩ rfl hl.1 rfl (Nat.le_of_ble_eq_true rfl) dX3_readFrom_9 ⟨Nat.le_of_ble_eq_true rfl, Nat.le_of_ble_eq_true rfl⟩) C.2.2.2.2.2.2.1 hP hD hS [1] [0] rfl rfl (by decide) (by decide) (fun u_1 H locs hw_3 hP hD hS => ?_)
  have hP : va_P D vwCl [(h, .inr (3, [.int 0, .int 0, .int 0, .int 0, .int 0, .int 0, .ref h0, .ref h1, .ref h2, .ref h3])), (o, .inr (9, [.ref o0, .int 0, .int 0, .int 0, .int 0, .int 0, .int 0, .int 0, .int 0, .int 0, .int 0]))] H := hP
  have hD : va_D A [(h, .inr (3, [.int 0, .int 0, .int 0, .int 0, .int 0, .int 0, .ref h0, .ref h1, .ref h2, .ref h3])), (o, .inr (9, [.ref o0, .int 0, .int 0, .int 0, .int 0, .int 0, .int 0, .int 0, .int 0, .int 0, .int 0]))] := hD
  refine lv_iconst (v := 1) hx hb dX3_readFrom_12 (by decide) ?_
  refine lv_istore_n (lv' := [(3, .int 1), (0, .ref h), (1, .ref o), (2, .ref pl)]) hx hb dX3_readFrom_13 rfl hl (by decide) rfl (fun ls hl => ?_)
  refine lv_iconst (v := 0) hx hb dX3_readFrom_14 (by decide) ?_
  refine lv_istore (lv' := [(4, .int 0), (3, .int 1), (0, .ref h), (1, .ref o), (2, .ref pl)]) hx hb dX3_readFrom_15 hl (by decide) rfl (fun ls hl => ?_)
  refine lv_iload hx hb dX3_readFrom_17 (lv_at hl 0 rfl) ?_
  refine lv_bipush (v := 40) hx hb dX3_readFrom_19 (by decide) ?_
  refine lv_icmp_gt (tgt := 65) hx hb dX3_readFrom_21 (by decide) (fun c_0 => absurd c_0 (by decide)) (fun _ => ?_)
  refine lv_iload_n hx hb dX3_readFrom_24 rfl (lv_at hl 1 rfl) ?_
  refine lv_if_eq (tgt := 65) hx hb dX3_readFrom_25 (by decide) (fun c_0 => absurd c_0 (by decide)) (fun _ => ?_)
  refine lv_aload_n hx hb dX3_readFrom_28 rfl (lv_at hl 3 rfl) ?_
  refine q_get (v := .int 0) C hP 1 2 rfl rfl inX9 (by decide) kF_RX3_50 rfl rfl dX3_readFrom_29 ?_
  refine lv_if_eq (tgt := 65) hx hb dX3_readFrom_32 (by decide) (fun _ => ?_) (fun c_0 => absurd (by decide) c_0)
  refine lv_iload_n hx hb dX3_readFrom_65 rfl (lv_at hl 1 rfl) ?_
  refine lv_if_eq (tgt := 74) hx hb dX3_readFrom_66 (by decide) (fun c_0 => absurd c_0 (by decide)) (fun _ => ?_)
  refine lv_aload_n hx hb dX3_readFrom_69 rfl (lv_at hl 3 rfl) ?_
  refine q_ai (wr := [(h, .inr (3, [.int 0, .int 0, .int 0, .int 0, .int 0, .int 0, .ref h0, .ref h1, .ref h2, .ref h3]))]) (r_V (q0 := 0) (As := []) (rest := []) (wc := [(o, .inr (9, [.ref o0, .int 0, .int 0, .int 0, .int 0, .int 0, .int 0, .int 0, .int 0, .int 0, .int 0]))]) C (q_subP hP [1] rfl) (hD.sub [1] (by decide) rfl) (c_closes l D cy o o0 _ ) kwV_X9_closes kM_RX3_61 rfl rfl ⟨Nat.le_of_ble_eq_true rfl, Nat.le_of_ble_eq_true rfl⟩ rfl hl.1 rfl (Nat.le_of_ble_eq_true rfl) dX3_readFrom_70 ⟨Nat.le_of_ble_eq_true rfl, Nat.le_of_ble_eq_true rfl⟩) C.2.2.2.2.2.2.1 hP hD hS [1] [0] rfl rfl (by decide) (by decide) (fun r_5 u_4 H locs hw_6 hP hD hS => ?_)
  have hP : va_P D vwCl [(h, .inr (3, [.int 0, .int 0, .int 0, .int 0, .int 0, .int 0, .ref h0, .ref h1, .ref h2, .ref h3])), (o, .inr (9, [.ref o0, .int 0, .int 0, .int 0, .int 0, .int 0, .int 0, .int 0, .int 0, .int 0, .int 0]))] H := hP
  have hD : va_D A [(h, .inr (3, [.int 0, .int 0, .int 0, .int 0, .int 0, .int 0, .ref h0, .ref h1, .ref h2, .ref h3])), (o, .inr (9, [.ref o0, .int 0, .int 0, .int 0, .int 0, .int 0, .int 0, .int 0, .int 0, .int 0, .int 0]))] := hD
  obtain rfl : r_5 = 1 := hw_6
  refine lv_pop hx hb dX3_readFrom_73 rfl ?_
  exact q_vret (rm := (Rm 2 51 0 0)) C hS () trivial (q_subP hP [0, 1] rfl) (hD.sub [0, 1] (by decide) rfl) (Nat.le_of_ble_eq_true rfl) (Nat.le_of_ble_eq_true rfl) dX3_readFrom_74
set_option maxHeartbeats 4000000 in
set_option maxRecDepth 100000 in
theorem c_booksReading (l : Launch) (D : va_G) (cy : Nat → ClassId) (h : Nat) (o : Nat) (v : Int32) (h0 : Nat) (h1 : Nat) (h2 : Nat) (h3 : Nat) (h4 : Nat) (t1 : Int32) (d1 : Int32) (h5 : Nat) (o0 : Nat) (o1 : Nat) (o2 : Nat) (sz : Nat)  : MI l yX8_booksReading cX8_booksReading 5 (some .int) (Rm 0 0 0 0) D cy [.ref h, .ref o, .int v] sz [(h, .inr (8, [.ref h0, .ref h1, .ref h2, .ref h3, .ref h4, .int t1, .int d1, .ref h5])), (o, .inr (6, [.int 4, .int 4, .int 10, .int 1, .int 3, .int 0, .int 0, .int 0, .ref o0, .ref o1, .ref o2]))] (fun (r : Int32) (u : Unit) => r = 0) (fun u : Unit => [(h, .inr (8, [.ref h0, .ref h1, .ref h2, .ref h3, .ref h4, .int t1, .int d1, .ref h5])), (o, .inr (6, [.int 4, .int 4, .int 10, .int 1, .int 3, .int 0, .int 0, .int 0, .ref o0, .ref o1, .ref o2]))]) := by
  refine MI.enter (by decide) (Nat.le_of_ble_eq_true rfl) ?_
  intro p e s m below meth c ls A hsz hAe C hP hD hS hl
  have C : Cx p s m _ meth c cX8_booksReading 5 (some .int) RX8 "booksReading" D cy A := C
  have hx := C.1
  have hb := C.2.1
  have hl : lv_has ls 5 [(0, .ref h), (1, .ref o), (2, .int v)] := hl
  refine lv_iconst (v := 0) hx hb dX8_booksReading_0 (by decide) ?_
  refine lv_istore_n (lv' := [(3, .int 0), (0, .ref h), (1, .ref o), (2, .int v)]) hx hb dX8_booksReading_1 rfl hl (by decide) rfl (fun ls hl => ?_)
  refine lv_iconst (v := 0) hx hb dX8_booksReading_2 (by decide) ?_
  refine lv_istore (lv' := [(4, .int 0), (3, .int 0), (0, .ref h), (1, .ref o), (2, .int v)]) hx hb dX8_booksReading_3 hl (by decide) rfl (fun ls hl => ?_)
  refine lv_iload hx hb dX8_booksReading_5 (lv_at hl 0 rfl) ?_
  refine lv_aload_n hx hb dX8_booksReading_7 rfl (lv_at hl 3 rfl) ?_
  refine q_get (v := .int 0) C hP 1 6 rfl rfl inX6 (by decide) kF_RX8_53 rfl rfl dX8_booksReading_8 ?_
  refine lv_icmp_ge (tgt := 42) hx hb dX8_booksReading_11 (by decide) (fun _ => ?_) (fun c_0 => absurd (by decide) c_0)
  refine lv_iload_n hx hb dX8_booksReading_42 rfl (lv_at hl 1 rfl) ?_
  exact q_iret (rm := (Rm 0 0 0 0)) C hS () rfl rfl (q_subP hP [0, 1] rfl) (hD.sub [0, 1] (by decide) rfl) (Nat.le_of_ble_eq_true rfl) (Nat.le_of_ble_eq_true rfl) dX8_booksReading_43
set_option maxHeartbeats 4000000 in
set_option maxRecDepth 100000 in
theorem c_booksLawful (l : Launch) (D : va_G) (cy : Nat → ClassId) (h : Nat) (o : Nat) (h0 : Nat) (h1 : Nat) (h2 : Nat) (h3 : Nat) (h4 : Nat) (t1 : Int32) (d1 : Int32) (h5 : Nat) (o0 : Nat) (o1 : Nat) (o2 : Nat) (sz : Nat)  : MI l yX8_booksLawful cX8_booksLawful 2 (some .int) (Rm 1 24 0 0) D cy [.ref h, .ref o] sz [(h, .inr (8, [.ref h0, .ref h1, .ref h2, .ref h3, .ref h4, .int t1, .int d1, .ref h5])), (o, .inr (6, [.int 4, .int 4, .int 10, .int 1, .int 3, .int 0, .int 0, .int 0, .ref o0, .ref o1, .ref o2]))] (fun (r : Int32) (u : Unit) => r = 0) (fun u : Unit => [(h, .inr (8, [.ref h0, .ref h1, .ref h2, .ref h3, .ref h4, .int t1, .int d1, .ref h5])), (o, .inr (6, [.int 4, .int 4, .int 10, .int 1, .int 3, .int 0, .int 0, .int 0, .ref o0, .ref o1, .ref o2]))]) := by
  refine MI.enter (by decide) (Nat.le_of_ble_eq_true rfl) ?_
  intro p e s m below meth c ls A hsz hAe C hP hD hS hl
  have C : Cx p s m _ meth c cX8_booksLawful 2 (some .int) RX8 "booksLawful" D cy A := C
  have hx := C.1
  have hb := C.2.1
  have hl : lv_has ls 2 [(0, .ref h), (1, .ref o)] := hl
  refine lv_aload_n hx hb dX8_booksLawful_0 rfl (lv_at hl 0 rfl) ?_
  refine lv_aload_n hx hb dX8_booksLawful_1 rfl (lv_at hl 1 rfl) ?_
  refine lv_iconst (v := 1) hx hb dX8_booksLawful_2 (by decide) ?_
  refine q_ai (wr := []) (r_V (q0 := 0) (As := [.ref o, .int 1]) (rest := []) (wc := [(h, .inr (8, [.ref h0, .ref h1, .ref h2, .ref h3, .ref h4, .int t1, .int d1, .ref h5])), (o, .inr (6, [.int 4, .int 4, .int 10, .int 1, .int 3, .int 0, .int 0, .int 0, .ref o0, .ref o1, .ref o2]))]) C (q_subP hP [0, 1] rfl) (hD.sub [0, 1] (by decide) rfl) (c_booksReading l D cy h o 1 h0 h1 h2 h3 h4 t1 d1 h5 o0 o1 o2 _ ) kwV_X8_booksReading kM_RX8_62 rfl rfl ⟨Nat.le_of_ble_eq_true rfl, Nat.le_of_ble_eq_true rfl⟩ rfl hl.1 rfl (Nat.le_of_ble_eq_true rfl) dX8_booksLawful_3 ⟨Nat.le_of_ble_eq_true rfl, Nat.le_of_ble_eq_true rfl⟩) C.2.2.2.2.2.2.1 hP hD hS [0, 1] [] rfl rfl (by decide) (by decide) (fun r_2 u_1 H locs hw_3 hP hD hS => ?_)
  have hP : va_P D vwCl [(h, .inr (8, [.ref h0, .ref h1, .ref h2, .ref h3, .ref h4, .int t1, .int d1, .ref h5])), (o, .inr (6, [.int 4, .int 4, .int 10, .int 1, .int 3, .int 0, .int 0, .int 0, .ref o0, .ref o1, .ref o2]))] H := hP
  have hD : va_D A [(h, .inr (8, [.ref h0, .ref h1, .ref h2, .ref h3, .ref h4, .int t1, .int d1, .ref h5])), (o, .inr (6, [.int 4, .int 4, .int 10, .int 1, .int 3, .int 0, .int 0, .int 0, .ref o0, .ref o1, .ref o2]))] := hD
  obtain rfl : r_2 = 0 := hw_3
  refine lv_aload_n hx hb dX8_booksLawful_6 rfl (lv_at hl 0 rfl) ?_
  refine lv_aload_n hx hb dX8_booksLawful_7 rfl (lv_at hl 1 rfl) ?_
  refine lv_iconst (v := 2) hx hb dX8_booksLawful_8 (by decide) ?_
  refine q_ai (wr := []) (r_V (q0 := 0) (As := [.ref o, .int 2]) (rest := [.int 0]) (wc := [(h, .inr (8, [.ref h0, .ref h1, .ref h2, .ref h3, .ref h4, .int t1, .int d1, .ref h5])), (o, .inr (6, [.int 4, .int 4, .int 10, .int 1, .int 3, .int 0, .int 0, .int 0, .ref o0, .ref o1, .ref o2]))]) C (q_subP hP [0, 1] rfl) (hD.sub [0, 1] (by decide) rfl) (c_booksReading l D cy h o 2 h0 h1 h2 h3 h4 t1 d1 h5 o0 o1 o2 _ ) kwV_X8_booksReading kM_RX8_62 rfl rfl ⟨Nat.le_of_ble_eq_true rfl, Nat.le_of_ble_eq_true rfl⟩ rfl hl.1 rfl (Nat.le_of_ble_eq_true rfl) dX8_booksLawful_9 ⟨Nat.le_of_ble_eq_true rfl, Nat.le_of_ble_eq_true rfl⟩) C.2.2.2.2.2.2.1 hP hD hS [0, 1] [] rfl rfl (by decide) (by decide) (fun r_5 u_4 H locs hw_6 hP hD hS => ?_)
  have hP : va_P D vwCl [(h, .inr (8, [.ref h0, .ref h1, .ref h2, .ref h3, .ref h4, .int t1, .int d1, .ref h5])), (o, .inr (6, [.int 4, .int 4, .int 10, .int 1, .int 3, .int 0, .int 0, .int 0, .ref o0, .ref o1, .ref o2]))] H := hP
  have hD : va_D A [(h, .inr (8, [.ref h0, .ref h1, .ref h2, .ref h3, .ref h4, .int t1, .int d1, .ref h5])), (o, .inr (6, [.int 4, .int 4, .int 10, .int 1, .int 3, .int 0, .int 0, .int 0, .ref o0, .ref o1, .ref o2]))] := hD
  obtain rfl : r_5 = 0 := hw_6
  refine lv_ior hx hb dX8_booksLawful_12 ?_
  refine q_val (v := 0) (by decide) ?_
  exact q_iret (rm := (Rm 1 24 0 0)) C hS () rfl rfl (q_subP hP [0, 1] rfl) (hD.sub [0, 1] (by decide) rfl) (Nat.le_of_ble_eq_true rfl) (Nat.le_of_ble_eq_true rfl) dX8_booksLawful_13
set_option maxHeartbeats 4000000 in
set_option maxRecDepth 100000 in
theorem c_goThrough (l : Launch) (D : va_G) (cy : Nat → ClassId) (h : Nat) (o : Nat) (q : Nat) (h0 : Nat) (h1 : Nat) (h2 : Nat) (h3 : Nat) (o0 : Nat) (o1 : Nat) (o2 : Nat) (q0 : Nat) (q1 : Nat) (q2 : Nat) (q3 : Nat) (q4 : Nat) (q5 : Nat) (sz : Nat)  : MV l yX3_goThrough cX3_goThrough 3 (Rm 2 45 0 0) D cy [.ref h, .ref o, .ref q] sz [(h, .inr (3, [.int 0, .int 0, .int 0, .int 0, .int 0, .int 0, .ref h0, .ref h1, .ref h2, .ref h3])), (o, .inr (6, [.int 4, .int 4, .int 10, .int 1, .int 3, .int 0, .int 0, .int 0, .ref o0, .ref o1, .ref o2])), (q, .inr (8, [.ref q0, .ref q1, .ref q2, .ref q3, .ref q4, .int 0, .int 0, .ref q5]))] (fun _ : Unit => True) (fun u : Unit => [(h, .inr (3, [.int 1, .int 0, .int 0, .int 0, .int 0, .int 0, .ref h0, .ref h1, .ref h2, .ref h3])), (o, .inr (6, [.int 4, .int 4, .int 10, .int 1, .int 3, .int 0, .int 0, .int 0, .ref o0, .ref o1, .ref o2])), (q, .inr (8, [.ref q0, .ref q1, .ref q2, .ref q3, .ref q4, .int 0, .int 0, .ref q5]))]) := by
  refine MV.enter (by decide) (Nat.le_of_ble_eq_true rfl) ?_
  intro p e s m below meth c ls A hsz hAe C hP hD hS hl
  have C : Cx p s m _ meth c cX3_goThrough 3 none RX3 "goThrough" D cy A := C
  have hx := C.1
  have hb := C.2.1
  have hl : lv_has ls 3 [(0, .ref h), (1, .ref o), (2, .ref q)] := hl
  refine lv_aload_n hx hb dX3_goThrough_0 rfl (lv_at hl 0 rfl) ?_
  refine lv_iconst (v := 0) hx hb dX3_goThrough_1 (by decide) ?_
  refine q_put (v := .int 0) (w' := [(h, .inr (3, [.int 0, .int 0, .int 0, .int 0, .int 0, .int 0, .ref h0, .ref h1, .ref h2, .ref h3])), (o, .inr (6, [.int 4, .int 4, .int 10, .int 1, .int 3, .int 0, .int 0, .int 0, .ref o0, .ref o1, .ref o2])), (q, .inr (8, [.ref q0, .ref q1, .ref q2, .ref q3, .ref q4, .int 0, .int 0, .ref q5]))]) (ty := .int) C hP hD hS 0 1 rfl rfl inX3 tyX3 tyX3_ok nmX3 (by decide) kF_RX3_15 rfl rfl rfl rfl rfl (Nat.le_of_ble_eq_true rfl) rfl dX3_goThrough_2 (fun H locs hP hD hS => ?_)
  refine lv_aload_n hx hb dX3_goThrough_5 rfl (lv_at hl 0 rfl) ?_
  refine lv_iconst (v := 0) hx hb dX3_goThrough_6 (by decide) ?_
  refine q_put (v := .int 0) (w' := [(h, .inr (3, [.int 0, .int 0, .int 0, .int 0, .int 0, .int 0, .ref h0, .ref h1, .ref h2, .ref h3])), (o, .inr (6, [.int 4, .int 4, .int 10, .int 1, .int 3, .int 0, .int 0, .int 0, .ref o0, .ref o1, .ref o2])), (q, .inr (8, [.ref q0, .ref q1, .ref q2, .ref q3, .ref q4, .int 0, .int 0, .ref q5]))]) (ty := .int) C hP hD hS 0 2 rfl rfl inX3 tyX3 tyX3_ok nmX3 (by decide) kF_RX3_19 rfl rfl rfl rfl rfl (Nat.le_of_ble_eq_true rfl) rfl dX3_goThrough_7 (fun H locs hP hD hS => ?_)
  refine lv_aload_n hx hb dX3_goThrough_10 rfl (lv_at hl 0 rfl) ?_
  refine q_get (v := .int 0) C hP 0 2 rfl rfl inX3 (by decide) kF_RX3_19 rfl rfl dX3_goThrough_11 ?_
  refine lv_aload_n hx hb dX3_goThrough_14 rfl (lv_at hl 0 rfl) ?_
  refine q_get (v := .int 0) C hP 0 5 rfl rfl inX3 (by decide) kF_RX3_28 rfl rfl dX3_goThrough_15 ?_
  refine lv_icmp_ge (tgt := 62) hx hb dX3_goThrough_18 (by decide) (fun _ => ?_) (fun c_0 => absurd (by decide) c_0)
  refine lv_aload_n hx hb dX3_goThrough_62 rfl (lv_at hl 0 rfl) ?_
  refine lv_aload_n hx hb dX3_goThrough_63 rfl (lv_at hl 2 rfl) ?_
  refine q_get (v := .int 0) C hP 2 6 rfl rfl inX8 (by decide) kF_RX3_99 rfl rfl dX3_goThrough_64 ?_
  refine q_put (v := .int 0) (w' := [(h, .inr (3, [.int 0, .int 0, .int 0, .int 0, .int 0, .int 0, .ref h0, .ref h1, .ref h2, .ref h3])), (o, .inr (6, [.int 4, .int 4, .int 10, .int 1, .int 3, .int 0, .int 0, .int 0, .ref o0, .ref o1, .ref o2])), (q, .inr (8, [.ref q0, .ref q1, .ref q2, .ref q3, .ref q4, .int 0, .int 0, .ref q5]))]) (ty := .int) C hP hD hS 0 3 rfl rfl inX3 tyX3 tyX3_ok nmX3 (by decide) kF_RX3_22 rfl rfl rfl rfl rfl (Nat.le_of_ble_eq_true rfl) rfl dX3_goThrough_67 (fun H locs hP hD hS => ?_)
  refine lv_aload_n hx hb dX3_goThrough_70 rfl (lv_at hl 0 rfl) ?_
  refine lv_aload_n hx hb dX3_goThrough_71 rfl (lv_at hl 2 rfl) ?_
  refine lv_aload_n hx hb dX3_goThrough_72 rfl (lv_at hl 1 rfl) ?_
  refine q_ai (wr := [(h, .inr (3, [.int 0, .int 0, .int 0, .int 0, .int 0, .int 0, .ref h0, .ref h1, .ref h2, .ref h3]))]) (r_V (q0 := 0) (As := [.ref o]) (rest := [.ref h]) (wc := [(q, .inr (8, [.ref q0, .ref q1, .ref q2, .ref q3, .ref q4, .int 0, .int 0, .ref q5])), (o, .inr (6, [.int 4, .int 4, .int 10, .int 1, .int 3, .int 0, .int 0, .int 0, .ref o0, .ref o1, .ref o2]))]) C (q_subP hP [2, 1] rfl) (hD.sub [2, 1] (by decide) rfl) (c_booksLawful l D cy q o q0 q1 q2 q3 q4 0 0 q5 o0 o1 o2 _ ) kwV_X8_booksLawful kM_RX3_104 rfl rfl ⟨Nat.le_of_ble_eq_true rfl, Nat.le_of_ble_eq_true rfl⟩ rfl hl.1 rfl (Nat.le_of_ble_eq_true rfl) dX3_goThrough_73 ⟨Nat.le_of_ble_eq_true rfl, Nat.le_of_ble_eq_true rfl⟩) C.2.2.2.2.2.2.1 hP hD hS [2, 1] [0] rfl rfl (by decide) (by decide) (fun r_2 u_1 H locs hw_3 hP hD hS => ?_)
  have hP : va_P D vwCl [(h, .inr (3, [.int 0, .int 0, .int 0, .int 0, .int 0, .int 0, .ref h0, .ref h1, .ref h2, .ref h3])), (q, .inr (8, [.ref q0, .ref q1, .ref q2, .ref q3, .ref q4, .int 0, .int 0, .ref q5])), (o, .inr (6, [.int 4, .int 4, .int 10, .int 1, .int 3, .int 0, .int 0, .int 0, .ref o0, .ref o1, .ref o2]))] H := hP
  have hD : va_D A [(h, .inr (3, [.int 0, .int 0, .int 0, .int 0, .int 0, .int 0, .ref h0, .ref h1, .ref h2, .ref h3])), (q, .inr (8, [.ref q0, .ref q1, .ref q2, .ref q3, .ref q4, .int 0, .int 0, .ref q5])), (o, .inr (6, [.int 4, .int 4, .int 10, .int 1, .int 3, .int 0, .int 0, .int 0, .ref o0, .ref o1, .ref o2]))] := hD
  obtain rfl : r_2 = 0 := hw_3
  refine q_put (v := .int 0) (w' := [(h, .inr (3, [.int 0, .int 0, .int 0, .int 0, .int 0, .int 0, .ref h0, .ref h1, .ref h2, .ref h3])), (q, .inr (8, [.ref q0, .ref q1, .ref q2, .ref q3, .ref q4, .int 0, .int 0, .ref q5])), (o, .inr (6, [.int 4, .int 4, .int 10, .int 1, .int 3, .int 0, .int 0, .int 0, .ref o0, .ref o1, .ref o2]))]) (ty := .int) C hP hD hS 0 4 rfl rfl inX3 tyX3 tyX3_ok nmX3 (by decide) kF_RX3_25 rfl rfl rfl rfl rfl (Nat.le_of_ble_eq_true rfl) rfl dX3_goThrough_76 (fun H locs hP hD hS => ?_)
  refine lv_aload_n hx hb dX3_goThrough_79 rfl (lv_at hl 0 rfl) ?_
  refine lv_iconst (v := 1) hx hb dX3_goThrough_80 (by decide) ?_
  refine q_put (v := .int 1) (w' := [(h, .inr (3, [.int 1, .int 0, .int 0, .int 0, .int 0, .int 0, .ref h0, .ref h1, .ref h2, .ref h3])), (q, .inr (8, [.ref q0, .ref q1, .ref q2, .ref q3, .ref q4, .int 0, .int 0, .ref q5])), (o, .inr (6, [.int 4, .int 4, .int 10, .int 1, .int 3, .int 0, .int 0, .int 0, .ref o0, .ref o1, .ref o2]))]) (ty := .boolean) C hP hD hS 0 0 rfl rfl inX3 tyX3 tyX3_ok nmX3 (by decide) kF_RX3_9 rfl rfl rfl rfl rfl (Nat.le_of_ble_eq_true rfl) rfl dX3_goThrough_81 (fun H locs hP hD hS => ?_)
  exact q_vret (rm := (Rm 2 45 0 0)) C hS () trivial (q_subP hP [0, 2, 1] rfl) (hD.sub [0, 2, 1] (by decide) rfl) (Nat.le_of_ble_eq_true rfl) (Nat.le_of_ble_eq_true rfl) dX3_goThrough_84
set_option maxHeartbeats 4000000 in
set_option maxRecDepth 100000 in
theorem c_keepOne (l : Launch) (D : va_G) (cy : Nat → ClassId) (h : Nat) (o : Nat) (h0 : Nat) (kf : Nat → Option Nat) (k0 : Nat) (k00 : Nat) (k01 : Nat) (k02 : Nat) (k03 : Nat) (k04 : Nat) (k05 : Nat) (o0 : Nat) (o1 : Nat) (o2 : Nat) (o3 : Nat) (o4 : Nat) (o5 : Nat) (sz : Nat) (hk : kf 0 = some k0) : MV l yX4_keepOne cX4_keepOne 2 (Rm 2 81 0 0) D cy [.ref h, .ref o] sz [(h, .inr (4, [.int 0, .int 0, .ref h0])), (h0, .inl (cy 5, 8, .inr (.inr (.inr (.inr kf))))), (k0, .inr (8, [.ref k00, .ref k01, .ref k02, .ref k03, .ref k04, .int 0, .int 0, .ref k05])), (k00, .inl (cy 1, 8, .inl (fun _ => 0))), (k01, .inl (cy 1, 8, .inl (fun _ => 0))), (k02, .inl (cy 1, 8, .inl (fun _ => 0))), (k03, .inl (cy 1, 8, .inl (fun _ => 0))), (k04, .inl (cy 1, 64, .inl (fun _ => 0))), (o, .inr (8, [.ref o0, .ref o1, .ref o2, .ref o3, .ref o4, .int 0, .int 0, .ref o5])), (o0, .inl (cy 1, 8, .inl (fun _ => 0))), (o1, .inl (cy 1, 8, .inl (fun _ => 0))), (o2, .inl (cy 1, 8, .inl (fun _ => 0))), (o3, .inl (cy 1, 8, .inl (fun _ => 0))), (o4, .inl (cy 1, 64, .inl (fun _ => 0)))] (fun _ : Unit => True) (fun u : Unit => [(h, .inr (4, [.int 1, .int 1, .ref h0])), (h0, .inl (cy 5, 8, .inr (.inr (.inr (.inr kf))))), (k0, .inr (8, [.ref k00, .ref k01, .ref k02, .ref k03, .ref k04, .int 0, .int 0, .ref k05])), (k00, .inl (cy 1, 8, .inl (fun _ => 0))), (k01, .inl (cy 1, 8, .inl (fun _ => 0))), (k02, .inl (cy 1, 8, .inl (fun _ => 0))), (k03, .inl (cy 1, 8, .inl (fun _ => 0))), (k04, .inl (cy 1, 64, .inl (fun _ => 0))), (o, .inr (8, [.ref o0, .ref o1, .ref o2, .ref o3, .ref o4, .int 0, .int 0, .ref o5])), (o0, .inl (cy 1, 8, .inl (fun _ => 0))), (o1, .inl (cy 1, 8, .inl (fun _ => 0))), (o2, .inl (cy 1, 8, .inl (fun _ => 0))), (o3, .inl (cy 1, 8, .inl (fun _ => 0))), (o4, .inl (cy 1, 64, .inl (fun _ => 0)))]) := by
  refine MV.enter (by decide) (Nat.le_of_ble_eq_true rfl) ?_
  intro p e s m below meth c ls A hsz hAe C hP hD hS hl
  have C : Cx p s m _ meth c cX4_keepOne 2 none RX4 "keepOne" D cy A := C
  have hx := C.1
  have hb := C.2.1
  have hl : lv_has ls 2 [(0, .ref h), (1, .ref o)] := hl
  refine lv_aload_n hx hb dX4_keepOne_0 rfl (lv_at hl 0 rfl) ?_
  refine q_get (v := .int 0) C hP 0 1 rfl rfl inX4 (by decide) kF_RX4_15 rfl rfl dX4_keepOne_1 ?_
  refine lv_if_lt (tgt := 28) hx hb dX4_keepOne_4 (by decide) (fun c_0 => absurd c_0 (by decide)) (fun _ => ?_)
  refine lv_aload_n hx hb dX4_keepOne_7 rfl (lv_at hl 0 rfl) ?_
  refine q_get (v := .int 0) C hP 0 1 rfl rfl inX4 (by decide) kF_RX4_15 rfl rfl dX4_keepOne_8 ?_
  refine lv_bipush (v := 8) hx hb dX4_keepOne_11 (by decide) ?_
  refine lv_icmp_ge (tgt := 28) hx hb dX4_keepOne_13 (by decide) (fun c_0 => absurd c_0 (by decide)) (fun _ => ?_)
  refine lv_aload_n hx hb dX4_keepOne_16 rfl (lv_at hl 0 rfl) ?_
  refine q_get (v := .ref h0) C hP 0 2 rfl rfl inX4 (by decide) kF_RX4_20 rfl rfl dX4_keepOne_17 ?_
  refine lv_aload_n hx hb dX4_keepOne_20 rfl (lv_at hl 0 rfl) ?_
  refine q_get (v := .int 0) C hP 0 1 rfl rfl inX4 (by decide) kF_RX4_15 rfl rfl dX4_keepOne_21 ?_
  refine q_aald (v := .ref k0) C hP 1 5 rfl rfl (vin (by decide +kernel)) (by show va_rf (kf 0) = _; rw [hk]; rfl) dX4_keepOne_24 ?_
  refine lv_ifnonnull (tgt := 29) hx hb dX4_keepOne_25 (by decide) ?_
  refine lv_aload_n hx hb dX4_keepOne_29 rfl (lv_at hl 0 rfl) ?_
  refine q_get (v := .ref h0) C hP 0 2 rfl rfl inX4 (by decide) kF_RX4_20 rfl rfl dX4_keepOne_30 ?_
  refine lv_aload_n hx hb dX4_keepOne_33 rfl (lv_at hl 0 rfl) ?_
  refine q_get (v := .int 0) C hP 0 1 rfl rfl inX4 (by decide) kF_RX4_15 rfl rfl dX4_keepOne_34 ?_
  refine q_aald (v := .ref k0) C hP 1 5 rfl rfl (vin (by decide +kernel)) (by show va_rf (kf 0) = _; rw [hk]; rfl) dX4_keepOne_37 ?_
  refine lv_aload_n hx hb dX4_keepOne_38 rfl (lv_at hl 1 rfl) ?_
  refine q_av (wr := [(h, .inr (4, [.int 0, .int 0, .ref h0])), (h0, .inl (cy 5, 8, .inr (.inr (.inr (.inr kf)))))]) (r_V (q0 := 0) (As := [.ref o]) (rest := []) (wc := [(k0, .inr (8, [.ref k00, .ref k01, .ref k02, .ref k03, .ref k04, .int 0, .int 0, .ref k05])), (k00, .inl (cy 1, 8, .inl (fun _ => 0))), (k01, .inl (cy 1, 8, .inl (fun _ => 0))), (k02, .inl (cy 1, 8, .inl (fun _ => 0))), (k03, .inl (cy 1, 8, .inl (fun _ => 0))), (k04, .inl (cy 1, 64, .inl (fun _ => 0))), (o, .inr (8, [.ref o0, .ref o1, .ref o2, .ref o3, .ref o4, .int 0, .int 0, .ref o5])), (o0, .inl (cy 1, 8, .inl (fun _ => 0))), (o1, .inl (cy 1, 8, .inl (fun _ => 0))), (o2, .inl (cy 1, 8, .inl (fun _ => 0))), (o3, .inl (cy 1, 8, .inl (fun _ => 0))), (o4, .inl (cy 1, 64, .inl (fun _ => 0)))]) C (q_subP hP [2, 3, 4, 5, 6, 7, 8, 9, 10, 11, 12, 13] rfl) (hD.sub [2, 3, 4, 5, 6, 7, 8, 9, 10, 11, 12, 13] (by decide) rfl) (c_Scopy l D cy k0 o k00 k01 k02 k03 k04 0 0 k05 o0 o1 o2 o3 o4 0 0 o5 _ ) kwV_X8_copyFrom kM_RX4_25 rfl rfl ⟨Nat.le_of_ble_eq_true rfl, Nat.le_of_ble_eq_true rfl⟩ rfl hl.1 rfl (Nat.le_of_ble_eq_true rfl) dX4_keepOne_39 ⟨Nat.le_of_ble_eq_true rfl, Nat.le_of_ble_eq_true rfl⟩) C.2.2.2.2.2.2.1 hP hD hS [2, 3, 4, 5, 6, 7, 8, 9, 10, 11, 12, 13] [0, 1] rfl rfl (by decide) (by decide) (fun u_1 H locs hw_3 hP hD hS => ?_)
  have hP : va_P D vwCl [(h, .inr (4, [.int 0, .int 0, .ref h0])), (h0, .inl (cy 5, 8, .inr (.inr (.inr (.inr kf))))), (k0, .inr (8, [.ref k00, .ref k01, .ref k02, .ref k03, .ref k04, .int 0, .int 0, .ref k05])), (k00, .inl (cy 1, 8, .inl (fun _ => 0))), (k01, .inl (cy 1, 8, .inl (fun _ => 0))), (k02, .inl (cy 1, 8, .inl (fun _ => 0))), (k03, .inl (cy 1, 8, .inl (fun _ => 0))), (k04, .inl (cy 1, 64, .inl (fun _ => 0))), (o, .inr (8, [.ref o0, .ref o1, .ref o2, .ref o3, .ref o4, .int 0, .int 0, .ref o5])), (o0, .inl (cy 1, 8, .inl (fun _ => 0))), (o1, .inl (cy 1, 8, .inl (fun _ => 0))), (o2, .inl (cy 1, 8, .inl (fun _ => 0))), (o3, .inl (cy 1, 8, .inl (fun _ => 0))), (o4, .inl (cy 1, 64, .inl (fun _ => 0)))] H := hP
  have hD : va_D A [(h, .inr (4, [.int 0, .int 0, .ref h0])), (h0, .inl (cy 5, 8, .inr (.inr (.inr (.inr kf))))), (k0, .inr (8, [.ref k00, .ref k01, .ref k02, .ref k03, .ref k04, .int 0, .int 0, .ref k05])), (k00, .inl (cy 1, 8, .inl (fun _ => 0))), (k01, .inl (cy 1, 8, .inl (fun _ => 0))), (k02, .inl (cy 1, 8, .inl (fun _ => 0))), (k03, .inl (cy 1, 8, .inl (fun _ => 0))), (k04, .inl (cy 1, 64, .inl (fun _ => 0))), (o, .inr (8, [.ref o0, .ref o1, .ref o2, .ref o3, .ref o4, .int 0, .int 0, .ref o5])), (o0, .inl (cy 1, 8, .inl (fun _ => 0))), (o1, .inl (cy 1, 8, .inl (fun _ => 0))), (o2, .inl (cy 1, 8, .inl (fun _ => 0))), (o3, .inl (cy 1, 8, .inl (fun _ => 0))), (o4, .inl (cy 1, 64, .inl (fun _ => 0)))] := hD
  refine lv_aload_n hx hb dX4_keepOne_42 rfl (lv_at hl 0 rfl) ?_
  refine lv_aload_n hx hb dX4_keepOne_43 rfl (lv_at hl 0 rfl) ?_
  refine q_get (v := .int 0) C hP 0 1 rfl rfl inX4 (by decide) kF_RX4_15 rfl rfl dX4_keepOne_44 ?_
  refine lv_iconst (v := 1) hx hb dX4_keepOne_47 (by decide) ?_
  refine lv_iadd hx hb dX4_keepOne_48 ?_
  refine q_val (v := 1) (by decide) ?_
  refine lv_bipush (v := 8) hx hb dX4_keepOne_49 (by decide) ?_
  refine lv_irem hx hb dX4_keepOne_51 (by decide) ?_
  refine q_val (v := 1) (by decide) ?_
  refine q_put (v := .int 1) (w' := [(h, .inr (4, [.int 0, .int 1, .ref h0])), (h0, .inl (cy 5, 8, .inr (.inr (.inr (.inr kf))))), (k0, .inr (8, [.ref k00, .ref k01, .ref k02, .ref k03, .ref k04, .int 0, .int 0, .ref k05])), (k00, .inl (cy 1, 8, .inl (fun _ => 0))), (k01, .inl (cy 1, 8, .inl (fun _ => 0))), (k02, .inl (cy 1, 8, .inl (fun _ => 0))), (k03, .inl (cy 1, 8, .inl (fun _ => 0))), (k04, .inl (cy 1, 64, .inl (fun _ => 0))), (o, .inr (8, [.ref o0, .ref o1, .ref o2, .ref o3, .ref o4, .int 0, .int 0, .ref o5])), (o0, .inl (cy 1, 8, .inl (fun _ => 0))), (o1, .inl (cy 1, 8, .inl (fun _ => 0))), (o2, .inl (cy 1, 8, .inl (fun _ => 0))), (o3, .inl (cy 1, 8, .inl (fun _ => 0))), (o4, .inl (cy 1, 64, .inl (fun _ => 0)))]) (ty := .int) C hP hD hS 0 1 rfl rfl inX4 tyX4 tyX4_ok nmX4 (by decide) kF_RX4_15 rfl rfl rfl rfl rfl (Nat.le_of_ble_eq_true rfl) rfl dX4_keepOne_52 (fun H locs hP hD hS => ?_)
  refine lv_aload_n hx hb dX4_keepOne_55 rfl (lv_at hl 0 rfl) ?_
  refine lv_bipush (v := 8) hx hb dX4_keepOne_56 (by decide) ?_
  refine lv_aload_n hx hb dX4_keepOne_58 rfl (lv_at hl 0 rfl) ?_
  refine q_get (v := .int 0) C hP 0 0 rfl rfl inX4 (by decide) kF_RX4_9 rfl rfl dX4_keepOne_59 ?_
  refine lv_iconst (v := 1) hx hb dX4_keepOne_62 (by decide) ?_
  refine lv_iadd hx hb dX4_keepOne_63 ?_
  refine q_val (v := 1) (by decide) ?_
  refine q_mmin C hl.1 kM_RX4_29 (Nat.le_of_ble_eq_true rfl) (Nat.le_of_ble_eq_true rfl) (Nat.le_of_ble_eq_true rfl) (Nat.le_of_ble_eq_true rfl) dX4_keepOne_64 ?_
  refine q_val (v := 1) (by decide) ?_
  refine q_put (v := .int 1) (w' := [(h, .inr (4, [.int 1, .int 1, .ref h0])), (h0, .inl (cy 5, 8, .inr (.inr (.inr (.inr kf))))), (k0, .inr (8, [.ref k00, .ref k01, .ref k02, .ref k03, .ref k04, .int 0, .int 0, .ref k05])), (k00, .inl (cy 1, 8, .inl (fun _ => 0))), (k01, .inl (cy 1, 8, .inl (fun _ => 0))), (k02, .inl (cy 1, 8, .inl (fun _ => 0))), (k03, .inl (cy 1, 8, .inl (fun _ => 0))), (k04, .inl (cy 1, 64, .inl (fun _ => 0))), (o, .inr (8, [.ref o0, .ref o1, .ref o2, .ref o3, .ref o4, .int 0, .int 0, .ref o5])), (o0, .inl (cy 1, 8, .inl (fun _ => 0))), (o1, .inl (cy 1, 8, .inl (fun _ => 0))), (o2, .inl (cy 1, 8, .inl (fun _ => 0))), (o3, .inl (cy 1, 8, .inl (fun _ => 0))), (o4, .inl (cy 1, 64, .inl (fun _ => 0)))]) (ty := .int) C hP hD hS 0 0 rfl rfl inX4 tyX4 tyX4_ok nmX4 (by decide) kF_RX4_9 rfl rfl rfl rfl rfl (Nat.le_of_ble_eq_true rfl) rfl dX4_keepOne_67 (fun H locs hP hD hS => ?_)
  exact q_vret (rm := (Rm 2 81 0 0)) C hS () trivial (q_subP hP [0, 1, 2, 3, 4, 5, 6, 7, 8, 9, 10, 11, 12, 13] rfl) (hD.sub [0, 1, 2, 3, 4, 5, 6, 7, 8, 9, 10, 11, 12, 13] (by decide) rfl) (Nat.le_of_ble_eq_true rfl) (Nat.le_of_ble_eq_true rfl) dX4_keepOne_70
set_option maxHeartbeats 4000000 in
set_option maxRecDepth 100000 in
theorem c_takeTrial (l : Launch) (D : va_G) (cy : Nat → ClassId) (h : Nat) (ta : Nat) (pl : Nat) (sh : Nat) (tr : Nat) (fo : Nat) (li : Nat) (sp : Nat) (dr : Nat) (pa : Nat) (im : Nat) (fs : Nat) (ph : Nat) (cd : Nat) (pa0 : Nat) (kf : Nat → Option Nat) (k0 : Nat) (k00 : Nat) (k01 : Nat) (k02 : Nat) (k03 : Nat) (k04 : Nat) (k05 : Nat) (sh0 : Nat) (sh1 : Nat) (sh2 : Nat) (sh3 : Nat) (sh4 : Nat) (sh5 : Nat) (tr0 : Nat) (tr1 : Nat) (tr2 : Nat) (tr3 : Nat) (tr4 : Nat) (d2 : Int32) (tr5 : Nat) (sz : Nat) (hk : kf 0 = some k0) : MV l yX10_takeTrial cX10_takeTrial 1 (Rm 3 102 0 0) D cy [.ref h] sz [(h, .inr (10, [.ref ta, .ref pl, .ref sh, .ref tr, .ref fo, .ref li, .ref sp, .ref dr, .ref pa, .ref im, .ref fs, .ref ph, .ref cd, .int 0, .int 0])), (pa, .inr (4, [.int 0, .int 0, .ref pa0])), (pa0, .inl (cy 5, 8, .inr (.inr (.inr (.inr kf))))), (k0, .inr (8, [.ref k00, .ref k01, .ref k02, .ref k03, .ref k04, .int 0, .int 0, .ref k05])), (k00, .inl (cy 1, 8, .inl (fun _ => 0))), (k01, .inl (cy 1, 8, .inl (fun _ => 0))), (k02, .inl (cy 1, 8, .inl (fun _ => 0))), (k03, .inl (cy 1, 8, .inl (fun _ => 0))), (k04, .inl (cy 1, 64, .inl (fun _ => 0))), (sh, .inr (8, [.ref sh0, .ref sh1, .ref sh2, .ref sh3, .ref sh4, .int 0, .int 0, .ref sh5])), (sh0, .inl (cy 1, 8, .inl (fun _ => 0))), (sh1, .inl (cy 1, 8, .inl (fun _ => 0))), (sh2, .inl (cy 1, 8, .inl (fun _ => 0))), (sh3, .inl (cy 1, 8, .inl (fun _ => 0))), (sh4, .inl (cy 1, 64, .inl (fun _ => 0))), (tr, .inr (8, [.ref tr0, .ref tr1, .ref tr2, .ref tr3, .ref tr4, .int 0, .int d2, .ref tr5])), (tr0, .inl (cy 1, 8, .inl (fun _ => 0))), (tr1, .inl (cy 1, 8, .inl (fun _ => 0))), (tr2, .inl (cy 1, 8, .inl (fun _ => 0))), (tr3, .inl (cy 1, 8, .inl (fun _ => 0))), (tr4, .inl (cy 1, 64, .inl (fun _ => 0)))] (fun _ : Unit => True) (fun u : Unit => [(h, .inr (10, [.ref ta, .ref pl, .ref sh, .ref tr, .ref fo, .ref li, .ref sp, .ref dr, .ref pa, .ref im, .ref fs, .ref ph, .ref cd, .int 0, .int 0]))]) := by
  refine MV.enter (by decide) (Nat.le_of_ble_eq_true rfl) ?_
  intro p e s m below meth c ls A hsz hAe C hP hD hS hl
  have C : Cx p s m _ meth c cX10_takeTrial 1 none RX10 "takeTrial" D cy A := C
  have hx := C.1
  have hb := C.2.1
  have hl : lv_has ls 1 [(0, .ref h)] := hl
  refine lv_aload_n hx hb dX10_takeTrial_0 rfl (lv_at hl 0 rfl) ?_
  refine q_get (v := .ref pa) C hP 0 8 rfl rfl inX10 (by decide) kF_RX10_60 rfl rfl dX10_takeTrial_1 ?_
  refine lv_aload_n hx hb dX10_takeTrial_4 rfl (lv_at hl 0 rfl) ?_
  refine q_get (v := .ref sh) C hP 0 2 rfl rfl inX10 (by decide) kF_RX10_26 rfl rfl dX10_takeTrial_5 ?_
  refine q_av (wr := [(h, .inr (10, [.ref ta, .ref pl, .ref sh, .ref tr, .ref fo, .ref li, .ref sp, .ref dr, .ref pa, .ref im, .ref fs, .ref ph, .ref cd, .int 0, .int 0])), (tr, .inr (8, [.ref tr0, .ref tr1, .ref tr2, .ref tr3, .ref tr4, .int 0, .int d2, .ref tr5])), (tr0, .inl (cy 1, 8, .inl (fun _ => 0))), (tr1, .inl (cy 1, 8, .inl (fun _ => 0))), (tr2, .inl (cy 1, 8, .inl (fun _ => 0))), (tr3, .inl (cy 1, 8, .inl (fun _ => 0))), (tr4, .inl (cy 1, 64, .inl (fun _ => 0)))]) (r_V (q0 := 0) (As := [.ref sh]) (rest := []) (wc := [(pa, .inr (4, [.int 0, .int 0, .ref pa0])), (pa0, .inl (cy 5, 8, .inr (.inr (.inr (.inr kf))))), (k0, .inr (8, [.ref k00, .ref k01, .ref k02, .ref k03, .ref k04, .int 0, .int 0, .ref k05])), (k00, .inl (cy 1, 8, .inl (fun _ => 0))), (k01, .inl (cy 1, 8, .inl (fun _ => 0))), (k02, .inl (cy 1, 8, .inl (fun _ => 0))), (k03, .inl (cy 1, 8, .inl (fun _ => 0))), (k04, .inl (cy 1, 64, .inl (fun _ => 0))), (sh, .inr (8, [.ref sh0, .ref sh1, .ref sh2, .ref sh3, .ref sh4, .int 0, .int 0, .ref sh5])), (sh0, .inl (cy 1, 8, .inl (fun _ => 0))), (sh1, .inl (cy 1, 8, .inl (fun _ => 0))), (sh2, .inl (cy 1, 8, .inl (fun _ => 0))), (sh3, .inl (cy 1, 8, .inl (fun _ => 0))), (sh4, .inl (cy 1, 64, .inl (fun _ => 0)))]) C (q_subP hP [1, 2, 3, 4, 5, 6, 7, 8, 9, 10, 11, 12, 13, 14] rfl) (hD.sub [1, 2, 3, 4, 5, 6, 7, 8, 9, 10, 11, 12, 13, 14] (by decide) rfl) (c_keepOne l D cy pa sh pa0 kf k0 k00 k01 k02 k03 k04 k05 sh0 sh1 sh2 sh3 sh4 sh5 _ hk) kwV_X4_keepOne kM_RX10_382 rfl rfl ⟨Nat.le_of_ble_eq_true rfl, Nat.le_of_ble_eq_true rfl⟩ rfl hl.1 rfl (Nat.le_of_ble_eq_true rfl) dX10_takeTrial_8 ⟨Nat.le_of_ble_eq_true rfl, Nat.le_of_ble_eq_true rfl⟩) C.2.2.2.2.2.2.1 hP hD hS [1, 2, 3, 4, 5, 6, 7, 8, 9, 10, 11, 12, 13, 14] [0, 15, 16, 17, 18, 19, 20] rfl rfl (by decide) (by decide) (fun u_1 H locs hw_3 hP hD hS => ?_)
  have hP : va_P D vwCl [(h, .inr (10, [.ref ta, .ref pl, .ref sh, .ref tr, .ref fo, .ref li, .ref sp, .ref dr, .ref pa, .ref im, .ref fs, .ref ph, .ref cd, .int 0, .int 0])), (tr, .inr (8, [.ref tr0, .ref tr1, .ref tr2, .ref tr3, .ref tr4, .int 0, .int d2, .ref tr5])), (tr0, .inl (cy 1, 8, .inl (fun _ => 0))), (tr1, .inl (cy 1, 8, .inl (fun _ => 0))), (tr2, .inl (cy 1, 8, .inl (fun _ => 0))), (tr3, .inl (cy 1, 8, .inl (fun _ => 0))), (tr4, .inl (cy 1, 64, .inl (fun _ => 0))), (pa, .inr (4, [.int 1, .int 1, .ref pa0])), (pa0, .inl (cy 5, 8, .inr (.inr (.inr (.inr kf))))), (k0, .inr (8, [.ref k00, .ref k01, .ref k02, .ref k03, .ref k04, .int 0, .int 0, .ref k05])), (k00, .inl (cy 1, 8, .inl (fun _ => 0))), (k01, .inl (cy 1, 8, .inl (fun _ => 0))), (k02, .inl (cy 1, 8, .inl (fun _ => 0))), (k03, .inl (cy 1, 8, .inl (fun _ => 0))), (k04, .inl (cy 1, 64, .inl (fun _ => 0))), (sh, .inr (8, [.ref sh0, .ref sh1, .ref sh2, .ref sh3, .ref sh4, .int 0, .int 0, .ref sh5])), (sh0, .inl (cy 1, 8, .inl (fun _ => 0))), (sh1, .inl (cy 1, 8, .inl (fun _ => 0))), (sh2, .inl (cy 1, 8, .inl (fun _ => 0))), (sh3, .inl (cy 1, 8, .inl (fun _ => 0))), (sh4, .inl (cy 1, 64, .inl (fun _ => 0)))] H := hP
  have hD : va_D A [(h, .inr (10, [.ref ta, .ref pl, .ref sh, .ref tr, .ref fo, .ref li, .ref sp, .ref dr, .ref pa, .ref im, .ref fs, .ref ph, .ref cd, .int 0, .int 0])), (tr, .inr (8, [.ref tr0, .ref tr1, .ref tr2, .ref tr3, .ref tr4, .int 0, .int d2, .ref tr5])), (tr0, .inl (cy 1, 8, .inl (fun _ => 0))), (tr1, .inl (cy 1, 8, .inl (fun _ => 0))), (tr2, .inl (cy 1, 8, .inl (fun _ => 0))), (tr3, .inl (cy 1, 8, .inl (fun _ => 0))), (tr4, .inl (cy 1, 64, .inl (fun _ => 0))), (pa, .inr (4, [.int 1, .int 1, .ref pa0])), (pa0, .inl (cy 5, 8, .inr (.inr (.inr (.inr kf))))), (k0, .inr (8, [.ref k00, .ref k01, .ref k02, .ref k03, .ref k04, .int 0, .int 0, .ref k05])), (k00, .inl (cy 1, 8, .inl (fun _ => 0))), (k01, .inl (cy 1, 8, .inl (fun _ => 0))), (k02, .inl (cy 1, 8, .inl (fun _ => 0))), (k03, .inl (cy 1, 8, .inl (fun _ => 0))), (k04, .inl (cy 1, 64, .inl (fun _ => 0))), (sh, .inr (8, [.ref sh0, .ref sh1, .ref sh2, .ref sh3, .ref sh4, .int 0, .int 0, .ref sh5])), (sh0, .inl (cy 1, 8, .inl (fun _ => 0))), (sh1, .inl (cy 1, 8, .inl (fun _ => 0))), (sh2, .inl (cy 1, 8, .inl (fun _ => 0))), (sh3, .inl (cy 1, 8, .inl (fun _ => 0))), (sh4, .inl (cy 1, 64, .inl (fun _ => 0)))] := hD
  refine lv_aload_n hx hb dX10_takeTrial_11 rfl (lv_at hl 0 rfl) ?_
  refine q_get (v := .ref sh) C hP 0 2 rfl rfl inX10 (by decide) kF_RX10_26 rfl rfl dX10_takeTrial_12 ?_
  refine lv_aload_n hx hb dX10_takeTrial_15 rfl (lv_at hl 0 rfl) ?_
  refine q_get (v := .ref tr) C hP 0 3 rfl rfl inX10 (by decide) kF_RX10_30 rfl rfl dX10_takeTrial_16 ?_
  refine q_av (wr := [(h, .inr (10, [.ref ta, .ref pl, .ref sh, .ref tr, .ref fo, .ref li, .ref sp, .ref dr, .ref pa, .ref im, .ref fs, .ref ph, .ref cd, .int 0, .int 0])), (pa, .inr (4, [.int 1, .int 1, .ref pa0])), (pa0, .inl (cy 5, 8, .inr (.inr (.inr (.inr kf))))), (k0, .inr (8, [.ref k00, .ref k01, .ref k02, .ref k03, .ref k04, .int 0, .int 0, .ref k05])), (k00, .inl (cy 1, 8, .inl (fun _ => 0))), (k01, .inl (cy 1, 8, .inl (fun _ => 0))), (k02, .inl (cy 1, 8, .inl (fun _ => 0))), (k03, .inl (cy 1, 8, .inl (fun _ => 0))), (k04, .inl (cy 1, 64, .inl (fun _ => 0)))]) (r_V (q0 := 0) (As := [.ref tr]) (rest := []) (wc := [(sh, .inr (8, [.ref sh0, .ref sh1, .ref sh2, .ref sh3, .ref sh4, .int 0, .int 0, .ref sh5])), (sh0, .inl (cy 1, 8, .inl (fun _ => 0))), (sh1, .inl (cy 1, 8, .inl (fun _ => 0))), (sh2, .inl (cy 1, 8, .inl (fun _ => 0))), (sh3, .inl (cy 1, 8, .inl (fun _ => 0))), (sh4, .inl (cy 1, 64, .inl (fun _ => 0))), (tr, .inr (8, [.ref tr0, .ref tr1, .ref tr2, .ref tr3, .ref tr4, .int 0, .int d2, .ref tr5])), (tr0, .inl (cy 1, 8, .inl (fun _ => 0))), (tr1, .inl (cy 1, 8, .inl (fun _ => 0))), (tr2, .inl (cy 1, 8, .inl (fun _ => 0))), (tr3, .inl (cy 1, 8, .inl (fun _ => 0))), (tr4, .inl (cy 1, 64, .inl (fun _ => 0)))]) C (q_subP hP [15, 16, 17, 18, 19, 20, 1, 2, 3, 4, 5, 6] rfl) (hD.sub [15, 16, 17, 18, 19, 20, 1, 2, 3, 4, 5, 6] (by decide) rfl) (c_Scopy l D cy sh tr sh0 sh1 sh2 sh3 sh4 0 0 sh5 tr0 tr1 tr2 tr3 tr4 0 d2 tr5 _ ) kwV_X8_copyFrom kM_RX10_117 rfl rfl ⟨Nat.le_of_ble_eq_true rfl, Nat.le_of_ble_eq_true rfl⟩ rfl hl.1 rfl (Nat.le_of_ble_eq_true rfl) dX10_takeTrial_19 ⟨Nat.le_of_ble_eq_true rfl, Nat.le_of_ble_eq_true rfl⟩) C.2.2.2.2.2.2.1 hP hD hS [15, 16, 17, 18, 19, 20, 1, 2, 3, 4, 5, 6] [0, 7, 8, 9, 10, 11, 12, 13, 14] rfl rfl (by decide) (by decide) (fun u_4 H locs hw_6 hP hD hS => ?_)
  have hP : va_P D vwCl [(h, .inr (10, [.ref ta, .ref pl, .ref sh, .ref tr, .ref fo, .ref li, .ref sp, .ref dr, .ref pa, .ref im, .ref fs, .ref ph, .ref cd, .int 0, .int 0])), (pa, .inr (4, [.int 1, .int 1, .ref pa0])), (pa0, .inl (cy 5, 8, .inr (.inr (.inr (.inr kf))))), (k0, .inr (8, [.ref k00, .ref k01, .ref k02, .ref k03, .ref k04, .int 0, .int 0, .ref k05])), (k00, .inl (cy 1, 8, .inl (fun _ => 0))), (k01, .inl (cy 1, 8, .inl (fun _ => 0))), (k02, .inl (cy 1, 8, .inl (fun _ => 0))), (k03, .inl (cy 1, 8, .inl (fun _ => 0))), (k04, .inl (cy 1, 64, .inl (fun _ => 0))), (sh, .inr (8, [.ref sh0, .ref sh1, .ref sh2, .ref sh3, .ref sh4, .int 0, .int d2, .ref sh5])), (sh0, .inl (cy 1, 8, .inl (fun _ => 0))), (sh1, .inl (cy 1, 8, .inl (fun _ => 0))), (sh2, .inl (cy 1, 8, .inl (fun _ => 0))), (sh3, .inl (cy 1, 8, .inl (fun _ => 0))), (sh4, .inl (cy 1, 64, .inl (fun _ => 0))), (tr, .inr (8, [.ref tr0, .ref tr1, .ref tr2, .ref tr3, .ref tr4, .int 0, .int d2, .ref tr5])), (tr0, .inl (cy 1, 8, .inl (fun _ => 0))), (tr1, .inl (cy 1, 8, .inl (fun _ => 0))), (tr2, .inl (cy 1, 8, .inl (fun _ => 0))), (tr3, .inl (cy 1, 8, .inl (fun _ => 0))), (tr4, .inl (cy 1, 64, .inl (fun _ => 0)))] H := hP
  have hD : va_D A [(h, .inr (10, [.ref ta, .ref pl, .ref sh, .ref tr, .ref fo, .ref li, .ref sp, .ref dr, .ref pa, .ref im, .ref fs, .ref ph, .ref cd, .int 0, .int 0])), (pa, .inr (4, [.int 1, .int 1, .ref pa0])), (pa0, .inl (cy 5, 8, .inr (.inr (.inr (.inr kf))))), (k0, .inr (8, [.ref k00, .ref k01, .ref k02, .ref k03, .ref k04, .int 0, .int 0, .ref k05])), (k00, .inl (cy 1, 8, .inl (fun _ => 0))), (k01, .inl (cy 1, 8, .inl (fun _ => 0))), (k02, .inl (cy 1, 8, .inl (fun _ => 0))), (k03, .inl (cy 1, 8, .inl (fun _ => 0))), (k04, .inl (cy 1, 64, .inl (fun _ => 0))), (sh, .inr (8, [.ref sh0, .ref sh1, .ref sh2, .ref sh3, .ref sh4, .int 0, .int d2, .ref sh5])), (sh0, .inl (cy 1, 8, .inl (fun _ => 0))), (sh1, .inl (cy 1, 8, .inl (fun _ => 0))), (sh2, .inl (cy 1, 8, .inl (fun _ => 0))), (sh3, .inl (cy 1, 8, .inl (fun _ => 0))), (sh4, .inl (cy 1, 64, .inl (fun _ => 0))), (tr, .inr (8, [.ref tr0, .ref tr1, .ref tr2, .ref tr3, .ref tr4, .int 0, .int d2, .ref tr5])), (tr0, .inl (cy 1, 8, .inl (fun _ => 0))), (tr1, .inl (cy 1, 8, .inl (fun _ => 0))), (tr2, .inl (cy 1, 8, .inl (fun _ => 0))), (tr3, .inl (cy 1, 8, .inl (fun _ => 0))), (tr4, .inl (cy 1, 64, .inl (fun _ => 0)))] := hD
  exact q_vret (rm := (Rm 3 102 0 0)) C hS () trivial (q_subP hP [0] rfl) (hD.sub [0] (by decide) rfl) (Nat.le_of_ble_eq_true rfl) (Nat.le_of_ble_eq_true rfl) dX10_takeTrial_22
set_option maxHeartbeats 4000000 in
set_option maxRecDepth 100000 in
theorem c_takeIfDone (l : Launch) (D : va_G) (cy : Nat → ClassId) (h : Nat) (ta : Nat) (pl : Nat) (sh : Nat) (tr : Nat) (fo : Nat) (li : Nat) (sp : Nat) (dr : Nat) (pa : Nat) (im : Nat) (fs : Nat) (ph : Nat) (cd : Nat) (sz : Nat)  : MI l yX10_takeIfDone cX10_takeIfDone 2 (some .int) (Rm 0 0 0 0) D cy [.ref h, .int 1] sz [(h, .inr (10, [.ref ta, .ref pl, .ref sh, .ref tr, .ref fo, .ref li, .ref sp, .ref dr, .ref pa, .ref im, .ref fs, .ref ph, .ref cd, .int 0, .int 0]))] (fun (r : Int32) (u : Unit) => r = 1) (fun u : Unit => [(h, .inr (10, [.ref ta, .ref pl, .ref sh, .ref tr, .ref fo, .ref li, .ref sp, .ref dr, .ref pa, .ref im, .ref fs, .ref ph, .ref cd, .int 0, .int 0]))]) := by
  refine MI.enter (by decide) (Nat.le_of_ble_eq_true rfl) ?_
  intro p e s m below meth c ls A hsz hAe C hP hD hS hl
  have C : Cx p s m _ meth c cX10_takeIfDone 2 (some .int) RX10 "takeIfDone" D cy A := C
  have hx := C.1
  have hb := C.2.1
  have hl : lv_has ls 2 [(0, .ref h), (1, .int 1)] := hl
  refine lv_iload_n hx hb dX10_takeIfDone_0 rfl (lv_at hl 1 rfl) ?_
  refine lv_if_ne (tgt := 8) hx hb dX10_takeIfDone_1 (by decide) (fun _ => ?_) (fun c_0 => absurd c_0 (by decide))
  refine lv_iload_n hx hb dX10_takeIfDone_8 rfl (lv_at hl 1 rfl) ?_
  exact q_iret (rm := (Rm 0 0 0 0)) C hS () rfl rfl (q_subP hP [0] rfl) (hD.sub [0] (by decide) rfl) (Nat.le_of_ble_eq_true rfl) (Nat.le_of_ble_eq_true rfl) dX10_takeIfDone_9
set_option maxHeartbeats 4000000 in
set_option maxRecDepth 100000 in
theorem c_hasBook (l : Launch) (D : va_G) (cy : Nat → ClassId) (h : Nat) (b : Int32) (h0 : Nat) (h1 : Nat) (h2 : Nat) (sz : Nat)  : MI l yX6_hasBook cX6_hasBook 2 (some .boolean) (Rm 0 0 0 0) D cy [.ref h, .int b] sz [(h, .inr (6, [.int 4, .int 4, .int 10, .int 1, .int 3, .int 0, .int 0, .int 0, .ref h0, .ref h1, .ref h2]))] (fun (r : Int32) (u : Unit) => r = 0) (fun u : Unit => [(h, .inr (6, [.int 4, .int 4, .int 10, .int 1, .int 3, .int 0, .int 0, .int 0, .ref h0, .ref h1, .ref h2]))]) := by
  refine MI.enter (by decide) (Nat.le_of_ble_eq_true rfl) ?_
  intro p e s m below meth c ls A hsz hAe C hP hD hS hl
  have C : Cx p s m _ meth c cX6_hasBook 2 (some .boolean) RX6 "hasBook" D cy A := C
  have hx := C.1
  have hb := C.2.1
  have hl : lv_has ls 2 [(0, .ref h), (1, .int b)] := hl
  refine lv_iload_n hx hb dX6_hasBook_0 rfl (lv_at hl 1 rfl) ?_
  refine lv_if_lt (tgt := 16) hx hb dX6_hasBook_1 (by decide) (fun c_1 => ?_) (fun c_1 => ?_)
  · refine lv_iconst (v := 0) hx hb dX6_hasBook_16 (by decide) ?_
    exact q_iret (rm := (Rm 0 0 0 0)) C hS () rfl rfl (q_subP hP [0] rfl) (hD.sub [0] (by decide) rfl) (Nat.le_of_ble_eq_true rfl) (Nat.le_of_ble_eq_true rfl) dX6_hasBook_17
  · refine lv_iload_n hx hb dX6_hasBook_4 rfl (lv_at hl 1 rfl) ?_
    refine lv_aload_n hx hb dX6_hasBook_5 rfl (lv_at hl 0 rfl) ?_
    refine q_get (v := .int 0) C hP 0 6 rfl rfl inX6 (by decide) kF_RX6_30 rfl rfl dX6_hasBook_6 ?_
    refine lv_icmp_ge (tgt := 16) hx hb dX6_hasBook_9 (by decide) (fun _ => ?_) (fun c_0 => absurd ((Int32.le_iff_toInt_le).mpr (by have z0 := (not_congr Int32.lt_iff_toInt_lt).mp c_1; have e0 : (0 : Int32).toInt = 0 := (by decide); omega)) c_0)
    refine lv_iconst (v := 0) hx hb dX6_hasBook_16 (by decide) ?_
    exact q_iret (rm := (Rm 0 0 0 0)) C hS () rfl rfl (q_subP hP [0] rfl) (hD.sub [0] (by decide) rfl) (Nat.le_of_ble_eq_true rfl) (Nat.le_of_ble_eq_true rfl) dX6_hasBook_17
