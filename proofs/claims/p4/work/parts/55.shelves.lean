theorem dX8_empty_0 : decode cX8_empty 0 = .ok (.aload_n 0, 1) := by decide +kernel
theorem dX8_empty_1 : decode cX8_empty 1 = .ok (.iconst 0, 1) := by decide +kernel
theorem dX8_empty_2 : decode cX8_empty 2 = .ok (.putfield 27, 3) := by decide +kernel
theorem kF_RX8_27 : Cond.fieldLink RX8 27 "CobwebLibrary$Shelves" "today" "I" ∈ gT := List.mem_filter.mpr ⟨List.mem_of_getElem? (i := 311) (by decide +kernel), by decide +kernel⟩
theorem dX8_empty_5 : decode cX8_empty 5 = .ok (.aload_n 0, 1) := by decide +kernel
theorem dX8_empty_6 : decode cX8_empty 6 = .ok (.iconst 0, 1) := by decide +kernel
theorem dX8_empty_7 : decode cX8_empty 7 = .ok (.putfield 31, 3) := by decide +kernel
theorem kF_RX8_31 : Cond.fieldLink RX8 31 "CobwebLibrary$Shelves" "day" "I" ∈ gT := List.mem_filter.mpr ⟨List.mem_of_getElem? (i := 315) (by decide +kernel), by decide +kernel⟩
theorem dX8_empty_10 : decode cX8_empty 10 = .ok (.iconst 0, 1) := by decide +kernel
theorem dX8_empty_11 : decode cX8_empty 11 = .ok (.istore_n 1, 1) := by decide +kernel
theorem dX8_empty_12 : decode cX8_empty 12 = .ok (.iload_n 1, 1) := by decide +kernel
theorem dX8_empty_13 : decode cX8_empty 13 = .ok (.bipush 8, 2) := by decide +kernel
theorem dX8_empty_15 : decode cX8_empty 15 = .ok (.if_icmp .ge 37, 3) := by decide +kernel
theorem dX8_empty_52 : decode cX8_empty 52 = .ok (.iconst 0, 1) := by decide +kernel
theorem dX8_empty_53 : decode cX8_empty 53 = .ok (.istore_n 1, 1) := by decide +kernel
theorem dX8_empty_54 : decode cX8_empty 54 = .ok (.iload_n 1, 1) := by decide +kernel
theorem dX8_empty_55 : decode cX8_empty 55 = .ok (.bipush 64, 2) := by decide +kernel
theorem dX8_empty_57 : decode cX8_empty 57 = .ok (.if_icmp .ge 16, 3) := by decide +kernel
theorem dX8_empty_73 : decode cX8_empty 73 = .ok (.return_, 1) := by decide +kernel
theorem dX8_empty_60 : decode cX8_empty 60 = .ok (.aload_n 0, 1) := by decide +kernel
theorem dX8_empty_61 : decode cX8_empty 61 = .ok (.getfield 24, 3) := by decide +kernel
theorem kF_RX8_24 : Cond.fieldLink RX8 24 "CobwebLibrary$Shelves" "threads" "[I" ∈ gT := List.mem_filter.mpr ⟨List.mem_of_getElem? (i := 308) (by decide +kernel), by decide +kernel⟩
theorem dX8_empty_64 : decode cX8_empty 64 = .ok (.iload_n 1, 1) := by decide +kernel
theorem dX8_empty_65 : decode cX8_empty 65 = .ok (.iconst 0, 1) := by decide +kernel
theorem dX8_empty_66 : decode cX8_empty 66 = .ok (.iastore, 1) := by decide +kernel
theorem dX8_empty_67 : decode cX8_empty 67 = .ok (.iinc 1 1, 3) := by decide +kernel
theorem dX8_empty_70 : decode cX8_empty 70 = .ok (.goto (-16), 3) := by decide +kernel
theorem dX8_empty_18 : decode cX8_empty 18 = .ok (.aload_n 0, 1) := by decide +kernel
theorem dX8_empty_19 : decode cX8_empty 19 = .ok (.getfield 9, 3) := by decide +kernel
theorem kF_RX8_9 : Cond.fieldLink RX8 9 "CobwebLibrary$Shelves" "x" "[I" ∈ gT := List.mem_filter.mpr ⟨List.mem_of_getElem? (i := 293) (by decide +kernel), by decide +kernel⟩
theorem dX8_empty_22 : decode cX8_empty 22 = .ok (.iload_n 1, 1) := by decide +kernel
theorem dX8_empty_23 : decode cX8_empty 23 = .ok (.iconst 0, 1) := by decide +kernel
theorem dX8_empty_24 : decode cX8_empty 24 = .ok (.iastore, 1) := by decide +kernel
theorem dX8_empty_25 : decode cX8_empty 25 = .ok (.aload_n 0, 1) := by decide +kernel
theorem dX8_empty_26 : decode cX8_empty 26 = .ok (.getfield 15, 3) := by decide +kernel
theorem kF_RX8_15 : Cond.fieldLink RX8 15 "CobwebLibrary$Shelves" "y" "[I" ∈ gT := List.mem_filter.mpr ⟨List.mem_of_getElem? (i := 297) (by decide +kernel), by decide +kernel⟩
theorem dX8_empty_29 : decode cX8_empty 29 = .ok (.iload_n 1, 1) := by decide +kernel
theorem dX8_empty_30 : decode cX8_empty 30 = .ok (.iconst 0, 1) := by decide +kernel
theorem dX8_empty_31 : decode cX8_empty 31 = .ok (.iastore, 1) := by decide +kernel
theorem dX8_empty_32 : decode cX8_empty 32 = .ok (.aload_n 0, 1) := by decide +kernel
theorem dX8_empty_33 : decode cX8_empty 33 = .ok (.getfield 18, 3) := by decide +kernel
theorem kF_RX8_18 : Cond.fieldLink RX8 18 "CobwebLibrary$Shelves" "web" "[I" ∈ gT := List.mem_filter.mpr ⟨List.mem_of_getElem? (i := 301) (by decide +kernel), by decide +kernel⟩
theorem dX8_empty_36 : decode cX8_empty 36 = .ok (.iload_n 1, 1) := by decide +kernel
theorem dX8_empty_37 : decode cX8_empty 37 = .ok (.iconst 0, 1) := by decide +kernel
theorem dX8_empty_38 : decode cX8_empty 38 = .ok (.iastore, 1) := by decide +kernel
theorem dX8_empty_39 : decode cX8_empty 39 = .ok (.aload_n 0, 1) := by decide +kernel
theorem dX8_empty_40 : decode cX8_empty 40 = .ok (.getfield 21, 3) := by decide +kernel
theorem kF_RX8_21 : Cond.fieldLink RX8 21 "CobwebLibrary$Shelves" "asks" "[I" ∈ gT := List.mem_filter.mpr ⟨List.mem_of_getElem? (i := 306) (by decide +kernel), by decide +kernel⟩
theorem dX8_empty_43 : decode cX8_empty 43 = .ok (.iload_n 1, 1) := by decide +kernel
theorem dX8_empty_44 : decode cX8_empty 44 = .ok (.iconst 0, 1) := by decide +kernel
theorem dX8_empty_45 : decode cX8_empty 45 = .ok (.iastore, 1) := by decide +kernel
theorem dX8_empty_46 : decode cX8_empty 46 = .ok (.iinc 1 1, 3) := by decide +kernel
theorem dX8_empty_49 : decode cX8_empty 49 = .ok (.goto (-37), 3) := by decide +kernel
theorem dX8_copyFrom_0 : decode cX8_copyFrom 0 = .ok (.aload_n 0, 1) := by decide +kernel
theorem dX8_copyFrom_1 : decode cX8_copyFrom 1 = .ok (.aload_n 1, 1) := by decide +kernel
theorem dX8_copyFrom_2 : decode cX8_copyFrom 2 = .ok (.getfield 27, 3) := by decide +kernel
theorem dX8_copyFrom_5 : decode cX8_copyFrom 5 = .ok (.putfield 27, 3) := by decide +kernel
theorem dX8_copyFrom_8 : decode cX8_copyFrom 8 = .ok (.aload_n 0, 1) := by decide +kernel
theorem dX8_copyFrom_9 : decode cX8_copyFrom 9 = .ok (.aload_n 1, 1) := by decide +kernel
theorem dX8_copyFrom_10 : decode cX8_copyFrom 10 = .ok (.getfield 31, 3) := by decide +kernel
theorem dX8_copyFrom_13 : decode cX8_copyFrom 13 = .ok (.putfield 31, 3) := by decide +kernel
theorem dX8_copyFrom_16 : decode cX8_copyFrom 16 = .ok (.aload_n 1, 1) := by decide +kernel
theorem dX8_copyFrom_17 : decode cX8_copyFrom 17 = .ok (.getfield 9, 3) := by decide +kernel
theorem dX8_copyFrom_20 : decode cX8_copyFrom 20 = .ok (.iconst 0, 1) := by decide +kernel
theorem dX8_copyFrom_21 : decode cX8_copyFrom 21 = .ok (.aload_n 0, 1) := by decide +kernel
theorem dX8_copyFrom_22 : decode cX8_copyFrom 22 = .ok (.getfield 9, 3) := by decide +kernel
theorem dX8_copyFrom_25 : decode cX8_copyFrom 25 = .ok (.iconst 0, 1) := by decide +kernel
theorem dX8_copyFrom_26 : decode cX8_copyFrom 26 = .ok (.bipush 8, 2) := by decide +kernel
theorem dX8_copyFrom_28 : decode cX8_copyFrom 28 = .ok (.invokestatic 37, 3) := by decide +kernel
theorem kM_RX8_37 : Cond.methodLink RX8 37 arraycopyName ∈ gT := List.mem_filter.mpr ⟨List.mem_of_getElem? (i := 847) (by decide +kernel), by decide +kernel⟩
theorem dX8_copyFrom_31 : decode cX8_copyFrom 31 = .ok (.aload_n 1, 1) := by decide +kernel
theorem dX8_copyFrom_32 : decode cX8_copyFrom 32 = .ok (.getfield 15, 3) := by decide +kernel
theorem dX8_copyFrom_35 : decode cX8_copyFrom 35 = .ok (.iconst 0, 1) := by decide +kernel
theorem dX8_copyFrom_36 : decode cX8_copyFrom 36 = .ok (.aload_n 0, 1) := by decide +kernel
theorem dX8_copyFrom_37 : decode cX8_copyFrom 37 = .ok (.getfield 15, 3) := by decide +kernel
theorem dX8_copyFrom_40 : decode cX8_copyFrom 40 = .ok (.iconst 0, 1) := by decide +kernel
theorem dX8_copyFrom_41 : decode cX8_copyFrom 41 = .ok (.bipush 8, 2) := by decide +kernel
theorem dX8_copyFrom_43 : decode cX8_copyFrom 43 = .ok (.invokestatic 37, 3) := by decide +kernel
theorem dX8_copyFrom_46 : decode cX8_copyFrom 46 = .ok (.aload_n 1, 1) := by decide +kernel
theorem dX8_copyFrom_47 : decode cX8_copyFrom 47 = .ok (.getfield 18, 3) := by decide +kernel
theorem dX8_copyFrom_50 : decode cX8_copyFrom 50 = .ok (.iconst 0, 1) := by decide +kernel
theorem dX8_copyFrom_51 : decode cX8_copyFrom 51 = .ok (.aload_n 0, 1) := by decide +kernel
theorem dX8_copyFrom_52 : decode cX8_copyFrom 52 = .ok (.getfield 18, 3) := by decide +kernel
theorem dX8_copyFrom_55 : decode cX8_copyFrom 55 = .ok (.iconst 0, 1) := by decide +kernel
theorem dX8_copyFrom_56 : decode cX8_copyFrom 56 = .ok (.bipush 8, 2) := by decide +kernel
theorem dX8_copyFrom_58 : decode cX8_copyFrom 58 = .ok (.invokestatic 37, 3) := by decide +kernel
theorem dX8_copyFrom_61 : decode cX8_copyFrom 61 = .ok (.aload_n 1, 1) := by decide +kernel
theorem dX8_copyFrom_62 : decode cX8_copyFrom 62 = .ok (.getfield 21, 3) := by decide +kernel
theorem dX8_copyFrom_65 : decode cX8_copyFrom 65 = .ok (.iconst 0, 1) := by decide +kernel
theorem dX8_copyFrom_66 : decode cX8_copyFrom 66 = .ok (.aload_n 0, 1) := by decide +kernel
theorem dX8_copyFrom_67 : decode cX8_copyFrom 67 = .ok (.getfield 21, 3) := by decide +kernel
theorem dX8_copyFrom_70 : decode cX8_copyFrom 70 = .ok (.iconst 0, 1) := by decide +kernel
theorem dX8_copyFrom_71 : decode cX8_copyFrom 71 = .ok (.bipush 8, 2) := by decide +kernel
theorem dX8_copyFrom_73 : decode cX8_copyFrom 73 = .ok (.invokestatic 37, 3) := by decide +kernel
theorem dX8_copyFrom_76 : decode cX8_copyFrom 76 = .ok (.aload_n 1, 1) := by decide +kernel
theorem dX8_copyFrom_77 : decode cX8_copyFrom 77 = .ok (.getfield 24, 3) := by decide +kernel
theorem dX8_copyFrom_80 : decode cX8_copyFrom 80 = .ok (.iconst 0, 1) := by decide +kernel
theorem dX8_copyFrom_81 : decode cX8_copyFrom 81 = .ok (.aload_n 0, 1) := by decide +kernel
theorem dX8_copyFrom_82 : decode cX8_copyFrom 82 = .ok (.getfield 24, 3) := by decide +kernel
theorem dX8_copyFrom_85 : decode cX8_copyFrom 85 = .ok (.iconst 0, 1) := by decide +kernel
theorem dX8_copyFrom_86 : decode cX8_copyFrom 86 = .ok (.bipush 64, 2) := by decide +kernel
theorem dX8_copyFrom_88 : decode cX8_copyFrom 88 = .ok (.invokestatic 37, 3) := by decide +kernel
theorem dX8_copyFrom_91 : decode cX8_copyFrom 91 = .ok (.return_, 1) := by decide +kernel
theorem dX8_hasDays_0 : decode cX8_hasDays 0 = .ok (.iload_n 1, 1) := by decide +kernel
theorem dX8_hasDays_1 : decode cX8_hasDays 1 = .ok (.sipush 400, 3) := by decide +kernel
theorem dX8_hasDays_4 : decode cX8_hasDays 4 = .ok (.aload_n 0, 1) := by decide +kernel
theorem dX8_hasDays_5 : decode cX8_hasDays 5 = .ok (.getfield 31, 3) := by decide +kernel
theorem dX8_hasDays_8 : decode cX8_hasDays 8 = .ok (.isub, 1) := by decide +kernel
theorem dX8_hasDays_9 : decode cX8_hasDays 9 = .ok (.if_icmp .gt 7, 3) := by decide +kernel
theorem dX8_hasDays_16 : decode cX8_hasDays 16 = .ok (.iconst 0, 1) := by decide +kernel
theorem dX8_hasDays_17 : decode cX8_hasDays 17 = .ok (.ireturn, 1) := by decide +kernel
theorem dX8_hasDays_12 : decode cX8_hasDays 12 = .ok (.iconst 1, 1) := by decide +kernel
theorem dX8_hasDays_13 : decode cX8_hasDays 13 = .ok (.goto 4, 3) := by decide +kernel
theorem dX8_bookIn_0 : decode cX8_bookIn 0 = .ok (.iconst 0, 1) := by decide +kernel
theorem dX8_bookIn_1 : decode cX8_bookIn 1 = .ok (.istore 4, 2) := by decide +kernel
theorem dX8_bookIn_3 : decode cX8_bookIn 3 = .ok (.iload 4, 2) := by decide +kernel
theorem dX8_bookIn_5 : decode cX8_bookIn 5 = .ok (.iload_n 1, 1) := by decide +kernel
theorem dX8_bookIn_6 : decode cX8_bookIn 6 = .ok (.if_icmp .ge 34, 3) := by decide +kernel
theorem dX8_bookIn_40 : decode cX8_bookIn 40 = .ok (.iconst (-1), 1) := by decide +kernel
theorem dX8_bookIn_41 : decode cX8_bookIn 41 = .ok (.ireturn, 1) := by decide +kernel
theorem dX8_bookIn_9 : decode cX8_bookIn 9 = .ok (.aload_n 0, 1) := by decide +kernel
theorem dX8_bookIn_10 : decode cX8_bookIn 10 = .ok (.getfield 9, 3) := by decide +kernel
theorem dX8_bookIn_13 : decode cX8_bookIn 13 = .ok (.iload 4, 2) := by decide +kernel
theorem dX8_bookIn_15 : decode cX8_bookIn 15 = .ok (.iaload, 1) := by decide +kernel
theorem dX8_bookIn_16 : decode cX8_bookIn 16 = .ok (.iload_n 2, 1) := by decide +kernel
theorem dX8_bookIn_17 : decode cX8_bookIn 17 = .ok (.if_icmp .ne 17, 3) := by decide +kernel
theorem dX8_bookIn_34 : decode cX8_bookIn 34 = .ok (.iinc 4 1, 3) := by decide +kernel
theorem dX8_bookIn_37 : decode cX8_bookIn 37 = .ok (.goto (-34), 3) := by decide +kernel
theorem dX8_bookIn_20 : decode cX8_bookIn 20 = .ok (.aload_n 0, 1) := by decide +kernel
theorem dX8_bookIn_21 : decode cX8_bookIn 21 = .ok (.getfield 15, 3) := by decide +kernel
theorem dX8_bookIn_24 : decode cX8_bookIn 24 = .ok (.iload 4, 2) := by decide +kernel
theorem dX8_bookIn_26 : decode cX8_bookIn 26 = .ok (.iaload, 1) := by decide +kernel
theorem dX8_bookIn_27 : decode cX8_bookIn 27 = .ok (.iload_n 3, 1) := by decide +kernel
theorem dX8_bookIn_28 : decode cX8_bookIn 28 = .ok (.if_icmp .ne 6, 3) := by decide +kernel
theorem dX8_bookIn_31 : decode cX8_bookIn 31 = .ok (.iload 4, 2) := by decide +kernel
theorem dX8_bookIn_33 : decode cX8_bookIn 33 = .ok (.ireturn, 1) := by decide +kernel
theorem dX8_standsBetween_0 : decode cX8_standsBetween 0 = .ok (.aload_n 0, 1) := by decide +kernel
theorem dX8_standsBetween_1 : decode cX8_standsBetween 1 = .ok (.getfield 15, 3) := by decide +kernel
theorem dX8_standsBetween_4 : decode cX8_standsBetween 4 = .ok (.iload_n 2, 1) := by decide +kernel
theorem dX8_standsBetween_5 : decode cX8_standsBetween 5 = .ok (.iaload, 1) := by decide +kernel
theorem dX8_standsBetween_6 : decode cX8_standsBetween 6 = .ok (.aload_n 0, 1) := by decide +kernel
theorem dX8_standsBetween_7 : decode cX8_standsBetween 7 = .ok (.getfield 15, 3) := by decide +kernel
theorem dX8_standsBetween_10 : decode cX8_standsBetween 10 = .ok (.iload_n 3, 1) := by decide +kernel
theorem dX8_standsBetween_11 : decode cX8_standsBetween 11 = .ok (.iaload, 1) := by decide +kernel
theorem dX8_standsBetween_12 : decode cX8_standsBetween 12 = .ok (.if_icmp .ne 48, 3) := by decide +kernel
theorem dX8_standsBetween_60 : decode cX8_standsBetween 60 = .ok (.aload_n 0, 1) := by decide +kernel
theorem dX8_standsBetween_61 : decode cX8_standsBetween 61 = .ok (.getfield 9, 3) := by decide +kernel
theorem dX8_standsBetween_64 : decode cX8_standsBetween 64 = .ok (.iload_n 1, 1) := by decide +kernel
theorem dX8_standsBetween_65 : decode cX8_standsBetween 65 = .ok (.iaload, 1) := by decide +kernel
theorem dX8_standsBetween_66 : decode cX8_standsBetween 66 = .ok (.aload_n 0, 1) := by decide +kernel
theorem dX8_standsBetween_67 : decode cX8_standsBetween 67 = .ok (.getfield 9, 3) := by decide +kernel
theorem dX8_standsBetween_70 : decode cX8_standsBetween 70 = .ok (.iload_n 2, 1) := by decide +kernel
theorem dX8_standsBetween_71 : decode cX8_standsBetween 71 = .ok (.iaload, 1) := by decide +kernel
theorem dX8_standsBetween_72 : decode cX8_standsBetween 72 = .ok (.if_icmp .ne 31, 3) := by decide +kernel
theorem dX8_standsBetween_103 : decode cX8_standsBetween 103 = .ok (.iconst 0, 1) := by decide +kernel
theorem dX8_standsBetween_104 : decode cX8_standsBetween 104 = .ok (.ireturn, 1) := by decide +kernel
theorem dX8_standsBetween_75 : decode cX8_standsBetween 75 = .ok (.aload_n 0, 1) := by decide +kernel
theorem dX8_standsBetween_76 : decode cX8_standsBetween 76 = .ok (.getfield 15, 3) := by decide +kernel
theorem dX8_standsBetween_79 : decode cX8_standsBetween 79 = .ok (.iload_n 1, 1) := by decide +kernel
theorem dX8_standsBetween_80 : decode cX8_standsBetween 80 = .ok (.iaload, 1) := by decide +kernel
theorem dX8_standsBetween_81 : decode cX8_standsBetween 81 = .ok (.aload_n 0, 1) := by decide +kernel
theorem dX8_standsBetween_82 : decode cX8_standsBetween 82 = .ok (.getfield 15, 3) := by decide +kernel
theorem dX8_standsBetween_85 : decode cX8_standsBetween 85 = .ok (.iload_n 2, 1) := by decide +kernel
theorem dX8_standsBetween_86 : decode cX8_standsBetween 86 = .ok (.iaload, 1) := by decide +kernel
theorem dX8_standsBetween_87 : decode cX8_standsBetween 87 = .ok (.aload_n 0, 1) := by decide +kernel
theorem dX8_standsBetween_88 : decode cX8_standsBetween 88 = .ok (.getfield 15, 3) := by decide +kernel
theorem dX8_standsBetween_91 : decode cX8_standsBetween 91 = .ok (.iload_n 3, 1) := by decide +kernel
theorem dX8_standsBetween_92 : decode cX8_standsBetween 92 = .ok (.iaload, 1) := by decide +kernel
theorem dX8_standsBetween_93 : decode cX8_standsBetween 93 = .ok (.invokestatic 50, 3) := by decide +kernel
theorem kwS_X10_isBetween : MwS yX10_isBetween cX10_isBetween 3 (some .boolean) 3 := ⟨List.mem_filter.mpr ⟨List.mem_of_getElem? (i := 1043) (by decide +kernel), by decide +kernel⟩, List.mem_filter.mpr ⟨List.mem_of_getElem? (i := 1042) (by decide +kernel), by decide +kernel⟩, List.mem_filter.mpr ⟨List.mem_of_getElem? (i := 128) (by decide +kernel), by decide +kernel⟩, by decide +kernel⟩
theorem kN_RX8_50 : (RX8, 50, yX10_isBetween, RX10) ∈ nestQ := List.mem_of_getElem? (i := 23) (by decide +kernel)
theorem dX8_standsBetween_96 : decode cX8_standsBetween 96 = .ok (.ifCond .eq 7, 3) := by decide +kernel
theorem dX8_standsBetween_99 : decode cX8_standsBetween 99 = .ok (.iconst 1, 1) := by decide +kernel
theorem dX8_standsBetween_100 : decode cX8_standsBetween 100 = .ok (.goto 4, 3) := by decide +kernel
theorem dX8_standsBetween_15 : decode cX8_standsBetween 15 = .ok (.aload_n 0, 1) := by decide +kernel
theorem dX8_standsBetween_16 : decode cX8_standsBetween 16 = .ok (.getfield 15, 3) := by decide +kernel
theorem dX8_standsBetween_19 : decode cX8_standsBetween 19 = .ok (.iload_n 1, 1) := by decide +kernel
theorem dX8_standsBetween_20 : decode cX8_standsBetween 20 = .ok (.iaload, 1) := by decide +kernel
theorem dX8_standsBetween_21 : decode cX8_standsBetween 21 = .ok (.aload_n 0, 1) := by decide +kernel
theorem dX8_standsBetween_22 : decode cX8_standsBetween 22 = .ok (.getfield 15, 3) := by decide +kernel
theorem dX8_standsBetween_25 : decode cX8_standsBetween 25 = .ok (.iload_n 2, 1) := by decide +kernel
theorem dX8_standsBetween_26 : decode cX8_standsBetween 26 = .ok (.iaload, 1) := by decide +kernel
theorem dX8_standsBetween_27 : decode cX8_standsBetween 27 = .ok (.if_icmp .ne 31, 3) := by decide +kernel
theorem dX8_standsBetween_58 : decode cX8_standsBetween 58 = .ok (.iconst 0, 1) := by decide +kernel
theorem dX8_standsBetween_59 : decode cX8_standsBetween 59 = .ok (.ireturn, 1) := by decide +kernel
theorem dX8_standsBetween_30 : decode cX8_standsBetween 30 = .ok (.aload_n 0, 1) := by decide +kernel
theorem dX8_standsBetween_31 : decode cX8_standsBetween 31 = .ok (.getfield 9, 3) := by decide +kernel
theorem dX8_standsBetween_34 : decode cX8_standsBetween 34 = .ok (.iload_n 1, 1) := by decide +kernel
theorem dX8_standsBetween_35 : decode cX8_standsBetween 35 = .ok (.iaload, 1) := by decide +kernel
theorem dX8_standsBetween_36 : decode cX8_standsBetween 36 = .ok (.aload_n 0, 1) := by decide +kernel
theorem dX8_standsBetween_37 : decode cX8_standsBetween 37 = .ok (.getfield 9, 3) := by decide +kernel
theorem dX8_standsBetween_40 : decode cX8_standsBetween 40 = .ok (.iload_n 2, 1) := by decide +kernel
theorem dX8_standsBetween_41 : decode cX8_standsBetween 41 = .ok (.iaload, 1) := by decide +kernel
theorem dX8_standsBetween_42 : decode cX8_standsBetween 42 = .ok (.aload_n 0, 1) := by decide +kernel
theorem dX8_standsBetween_43 : decode cX8_standsBetween 43 = .ok (.getfield 9, 3) := by decide +kernel
theorem dX8_standsBetween_46 : decode cX8_standsBetween 46 = .ok (.iload_n 3, 1) := by decide +kernel
theorem dX8_standsBetween_47 : decode cX8_standsBetween 47 = .ok (.iaload, 1) := by decide +kernel
theorem dX8_standsBetween_48 : decode cX8_standsBetween 48 = .ok (.invokestatic 50, 3) := by decide +kernel
theorem dX8_standsBetween_51 : decode cX8_standsBetween 51 = .ok (.ifCond .eq 7, 3) := by decide +kernel
theorem dX8_standsBetween_54 : decode cX8_standsBetween 54 = .ok (.iconst 1, 1) := by decide +kernel
theorem dX8_standsBetween_55 : decode cX8_standsBetween 55 = .ok (.goto 4, 3) := by decide +kernel
theorem dX8_isInSight_0 : decode cX8_isInSight 0 = .ok (.aload_n 0, 1) := by decide +kernel
theorem dX8_isInSight_1 : decode cX8_isInSight 1 = .ok (.getfield 9, 3) := by decide +kernel
theorem dX8_isInSight_4 : decode cX8_isInSight 4 = .ok (.iload_n 2, 1) := by decide +kernel
theorem dX8_isInSight_5 : decode cX8_isInSight 5 = .ok (.iaload, 1) := by decide +kernel
theorem dX8_isInSight_6 : decode cX8_isInSight 6 = .ok (.aload_n 0, 1) := by decide +kernel
theorem dX8_isInSight_7 : decode cX8_isInSight 7 = .ok (.getfield 9, 3) := by decide +kernel
theorem dX8_isInSight_10 : decode cX8_isInSight 10 = .ok (.iload_n 3, 1) := by decide +kernel
theorem dX8_isInSight_11 : decode cX8_isInSight 11 = .ok (.iaload, 1) := by decide +kernel
theorem dX8_isInSight_12 : decode cX8_isInSight 12 = .ok (.if_icmp .eq 20, 3) := by decide +kernel
theorem dX8_isInSight_32 : decode cX8_isInSight 32 = .ok (.iconst 0, 1) := by decide +kernel
theorem dX8_isInSight_33 : decode cX8_isInSight 33 = .ok (.istore 4, 2) := by decide +kernel
theorem dX8_isInSight_35 : decode cX8_isInSight 35 = .ok (.iload 4, 2) := by decide +kernel
theorem dX8_isInSight_37 : decode cX8_isInSight 37 = .ok (.iload_n 1, 1) := by decide +kernel
theorem dX8_isInSight_38 : decode cX8_isInSight 38 = .ok (.if_icmp .ge 34, 3) := by decide +kernel
theorem dX8_isInSight_72 : decode cX8_isInSight 72 = .ok (.iconst 1, 1) := by decide +kernel
theorem dX8_isInSight_73 : decode cX8_isInSight 73 = .ok (.ireturn, 1) := by decide +kernel
theorem dX8_isInSight_41 : decode cX8_isInSight 41 = .ok (.iload 4, 2) := by decide +kernel
theorem dX8_isInSight_43 : decode cX8_isInSight 43 = .ok (.iload_n 2, 1) := by decide +kernel
theorem dX8_isInSight_44 : decode cX8_isInSight 44 = .ok (.if_icmp .eq 22, 3) := by decide +kernel
theorem dX8_isInSight_66 : decode cX8_isInSight 66 = .ok (.iinc 4 1, 3) := by decide +kernel
theorem dX8_isInSight_69 : decode cX8_isInSight 69 = .ok (.goto (-34), 3) := by decide +kernel
theorem dX8_isInSight_47 : decode cX8_isInSight 47 = .ok (.iload 4, 2) := by decide +kernel
theorem dX8_isInSight_49 : decode cX8_isInSight 49 = .ok (.iload_n 3, 1) := by decide +kernel
theorem dX8_isInSight_50 : decode cX8_isInSight 50 = .ok (.if_icmp .eq 16, 3) := by decide +kernel
theorem dX8_isInSight_53 : decode cX8_isInSight 53 = .ok (.aload_n 0, 1) := by decide +kernel
theorem dX8_isInSight_54 : decode cX8_isInSight 54 = .ok (.iload 4, 2) := by decide +kernel
theorem dX8_isInSight_56 : decode cX8_isInSight 56 = .ok (.iload_n 2, 1) := by decide +kernel
theorem dX8_isInSight_57 : decode cX8_isInSight 57 = .ok (.iload_n 3, 1) := by decide +kernel
theorem dX8_isInSight_58 : decode cX8_isInSight 58 = .ok (.invokevirtual 47, 3) := by decide +kernel
theorem kwV_X8_standsBetween : MwV RX8 yX8_standsBetween cX8_standsBetween 4 (some .boolean) 3 := ⟨List.mem_filter.mpr ⟨List.mem_of_getElem? (i := 1040) (by decide +kernel), by decide +kernel⟩, List.mem_filter.mpr ⟨List.mem_of_getElem? (i := 1039) (by decide +kernel), by decide +kernel⟩, List.mem_filter.mpr ⟨List.mem_of_getElem? (i := 26) (by decide +kernel), by decide +kernel⟩, List.mem_filter.mpr ⟨List.mem_of_getElem? (i := 131) (by decide +kernel), by decide +kernel⟩, by decide +kernel⟩
theorem kM_RX8_47 : Cond.methodLink RX8 47 yX8_standsBetween ∈ gT := List.mem_filter.mpr ⟨List.mem_of_getElem? (i := 1037) (by decide +kernel), by decide +kernel⟩
theorem dX8_isInSight_61 : decode cX8_isInSight 61 = .ok (.ifCond .eq 5, 3) := by decide +kernel
theorem dX8_isInSight_64 : decode cX8_isInSight 64 = .ok (.iconst 0, 1) := by decide +kernel
theorem dX8_isInSight_65 : decode cX8_isInSight 65 = .ok (.ireturn, 1) := by decide +kernel
theorem dX8_isInSight_15 : decode cX8_isInSight 15 = .ok (.aload_n 0, 1) := by decide +kernel
theorem dX8_isInSight_16 : decode cX8_isInSight 16 = .ok (.getfield 15, 3) := by decide +kernel
theorem dX8_isInSight_19 : decode cX8_isInSight 19 = .ok (.iload_n 2, 1) := by decide +kernel
theorem dX8_isInSight_20 : decode cX8_isInSight 20 = .ok (.iaload, 1) := by decide +kernel
theorem dX8_isInSight_21 : decode cX8_isInSight 21 = .ok (.aload_n 0, 1) := by decide +kernel
theorem dX8_isInSight_22 : decode cX8_isInSight 22 = .ok (.getfield 15, 3) := by decide +kernel
theorem dX8_isInSight_25 : decode cX8_isInSight 25 = .ok (.iload_n 3, 1) := by decide +kernel
theorem dX8_isInSight_26 : decode cX8_isInSight 26 = .ok (.iaload, 1) := by decide +kernel
theorem dX8_isInSight_27 : decode cX8_isInSight 27 = .ok (.if_icmp .eq 5, 3) := by decide +kernel
theorem dX8_isInSight_30 : decode cX8_isInSight 30 = .ok (.iconst 0, 1) := by decide +kernel
theorem dX8_isInSight_31 : decode cX8_isInSight 31 = .ok (.ireturn, 1) := by decide +kernel
theorem dX8_seenFrom_0 : decode cX8_seenFrom 0 = .ok (.iconst 0, 1) := by decide +kernel
theorem dX8_seenFrom_1 : decode cX8_seenFrom 1 = .ok (.istore_n 3, 1) := by decide +kernel
theorem dX8_seenFrom_2 : decode cX8_seenFrom 2 = .ok (.iconst 0, 1) := by decide +kernel
theorem dX8_seenFrom_3 : decode cX8_seenFrom 3 = .ok (.istore 4, 2) := by decide +kernel
theorem dX8_seenFrom_5 : decode cX8_seenFrom 5 = .ok (.iload 4, 2) := by decide +kernel
theorem dX8_seenFrom_7 : decode cX8_seenFrom 7 = .ok (.iload_n 1, 1) := by decide +kernel
theorem dX8_seenFrom_8 : decode cX8_seenFrom 8 = .ok (.if_icmp .ge 33, 3) := by decide +kernel
theorem dX8_seenFrom_41 : decode cX8_seenFrom 41 = .ok (.iload_n 3, 1) := by decide +kernel
theorem dX8_seenFrom_42 : decode cX8_seenFrom 42 = .ok (.ireturn, 1) := by decide +kernel
theorem dX8_seenFrom_11 : decode cX8_seenFrom 11 = .ok (.iload_n 2, 1) := by decide +kernel
theorem dX8_seenFrom_12 : decode cX8_seenFrom 12 = .ok (.iload 4, 2) := by decide +kernel
theorem dX8_seenFrom_14 : decode cX8_seenFrom 14 = .ok (.if_icmp .eq 21, 3) := by decide +kernel
theorem dX8_seenFrom_35 : decode cX8_seenFrom 35 = .ok (.iinc 4 1, 3) := by decide +kernel
theorem dX8_seenFrom_38 : decode cX8_seenFrom 38 = .ok (.goto (-33), 3) := by decide +kernel
theorem dX8_seenFrom_17 : decode cX8_seenFrom 17 = .ok (.aload_n 0, 1) := by decide +kernel
theorem dX8_seenFrom_18 : decode cX8_seenFrom 18 = .ok (.iload_n 1, 1) := by decide +kernel
theorem dX8_seenFrom_19 : decode cX8_seenFrom 19 = .ok (.iload_n 2, 1) := by decide +kernel
theorem dX8_seenFrom_20 : decode cX8_seenFrom 20 = .ok (.iload 4, 2) := by decide +kernel
theorem dX8_seenFrom_22 : decode cX8_seenFrom 22 = .ok (.invokevirtual 43, 3) := by decide +kernel
theorem kwV_X8_isInSight : MwV RX8 yX8_isInSight cX8_isInSight 5 (some .boolean) 3 := ⟨List.mem_filter.mpr ⟨List.mem_of_getElem? (i := 1036) (by decide +kernel), by decide +kernel⟩, List.mem_filter.mpr ⟨List.mem_of_getElem? (i := 1035) (by decide +kernel), by decide +kernel⟩, List.mem_filter.mpr ⟨List.mem_of_getElem? (i := 25) (by decide +kernel), by decide +kernel⟩, List.mem_filter.mpr ⟨List.mem_of_getElem? (i := 131) (by decide +kernel), by decide +kernel⟩, by decide +kernel⟩
theorem kM_RX8_43 : Cond.methodLink RX8 43 yX8_isInSight ∈ gT := List.mem_filter.mpr ⟨List.mem_of_getElem? (i := 1033) (by decide +kernel), by decide +kernel⟩
theorem dX8_seenFrom_25 : decode cX8_seenFrom 25 = .ok (.ifCond .eq 10, 3) := by decide +kernel
theorem dX8_seenFrom_28 : decode cX8_seenFrom 28 = .ok (.iload_n 3, 1) := by decide +kernel
theorem dX8_seenFrom_29 : decode cX8_seenFrom 29 = .ok (.iconst 1, 1) := by decide +kernel
theorem dX8_seenFrom_30 : decode cX8_seenFrom 30 = .ok (.iload 4, 2) := by decide +kernel
theorem dX8_seenFrom_32 : decode cX8_seenFrom 32 = .ok (.ishl, 1) := by decide +kernel
theorem dX8_seenFrom_33 : decode cX8_seenFrom 33 = .ok (.ior, 1) := by decide +kernel
theorem dX8_seenFrom_34 : decode cX8_seenFrom 34 = .ok (.istore_n 3, 1) := by decide +kernel
theorem dX8_booksReading_0 : decode cX8_booksReading 0 = .ok (.iconst 0, 1) := by decide +kernel
theorem dX8_booksReading_1 : decode cX8_booksReading 1 = .ok (.istore_n 3, 1) := by decide +kernel
theorem dX8_booksReading_2 : decode cX8_booksReading 2 = .ok (.iconst 0, 1) := by decide +kernel
theorem dX8_booksReading_3 : decode cX8_booksReading 3 = .ok (.istore 4, 2) := by decide +kernel
theorem dX8_booksReading_5 : decode cX8_booksReading 5 = .ok (.iload 4, 2) := by decide +kernel
theorem dX8_booksReading_7 : decode cX8_booksReading 7 = .ok (.aload_n 1, 1) := by decide +kernel
theorem dX8_booksReading_8 : decode cX8_booksReading 8 = .ok (.getfield 53, 3) := by decide +kernel
theorem kF_RX8_53 : Cond.fieldLink RX8 53 "CobwebLibrary$Plan" "books" "I" ∈ gT := List.mem_filter.mpr ⟨List.mem_of_getElem? (i := 249) (by decide +kernel), by decide +kernel⟩
theorem dX8_booksReading_11 : decode cX8_booksReading 11 = .ok (.if_icmp .ge 31, 3) := by decide +kernel
theorem dX8_booksReading_42 : decode cX8_booksReading 42 = .ok (.iload_n 3, 1) := by decide +kernel
theorem dX8_booksReading_43 : decode cX8_booksReading 43 = .ok (.ireturn, 1) := by decide +kernel
theorem dX8_booksReading_14 : decode cX8_booksReading 14 = .ok (.aload_n 1, 1) := by decide +kernel
theorem dX8_booksReading_15 : decode cX8_booksReading 15 = .ok (.aload_n 0, 1) := by decide +kernel
theorem dX8_booksReading_16 : decode cX8_booksReading 16 = .ok (.getfield 18, 3) := by decide +kernel
theorem dX8_booksReading_19 : decode cX8_booksReading 19 = .ok (.iload 4, 2) := by decide +kernel
theorem dX8_booksReading_21 : decode cX8_booksReading 21 = .ok (.iaload, 1) := by decide +kernel
theorem dX8_booksReading_22 : decode cX8_booksReading 22 = .ok (.invokevirtual 58, 3) := by decide +kernel
theorem kwV_X6_reading : MwV RX6 yX6_reading cX6_reading 2 (some .int) 1 := ⟨List.mem_filter.mpr ⟨List.mem_of_getElem? (i := 924) (by decide +kernel), by decide +kernel⟩, List.mem_filter.mpr ⟨List.mem_of_getElem? (i := 922) (by decide +kernel), by decide +kernel⟩, List.mem_filter.mpr ⟨List.mem_of_getElem? (i := 923) (by decide +kernel), by decide +kernel⟩, List.mem_filter.mpr ⟨List.mem_of_getElem? (i := 130) (by decide +kernel), by decide +kernel⟩, by decide +kernel⟩
theorem kM_RX8_58 : Cond.methodLink RX8 58 yX6_reading ∈ gT := List.mem_filter.mpr ⟨List.mem_of_getElem? (i := 921) (by decide +kernel), by decide +kernel⟩
theorem dX8_booksReading_25 : decode cX8_booksReading 25 = .ok (.iload_n 2, 1) := by decide +kernel
theorem dX8_booksReading_26 : decode cX8_booksReading 26 = .ok (.if_icmp .ne 10, 3) := by decide +kernel
theorem dX8_booksReading_36 : decode cX8_booksReading 36 = .ok (.iinc 4 1, 3) := by decide +kernel
theorem dX8_booksReading_39 : decode cX8_booksReading 39 = .ok (.goto (-34), 3) := by decide +kernel
theorem dX8_booksReading_29 : decode cX8_booksReading 29 = .ok (.iload_n 3, 1) := by decide +kernel
theorem dX8_booksReading_30 : decode cX8_booksReading 30 = .ok (.iconst 1, 1) := by decide +kernel
theorem dX8_booksReading_31 : decode cX8_booksReading 31 = .ok (.iload 4, 2) := by decide +kernel
theorem dX8_booksReading_33 : decode cX8_booksReading 33 = .ok (.ishl, 1) := by decide +kernel
theorem dX8_booksReading_34 : decode cX8_booksReading 34 = .ok (.ior, 1) := by decide +kernel
theorem dX8_booksReading_35 : decode cX8_booksReading 35 = .ok (.istore_n 3, 1) := by decide +kernel
theorem dX8_booksLawful_0 : decode cX8_booksLawful 0 = .ok (.aload_n 0, 1) := by decide +kernel
theorem dX8_booksLawful_1 : decode cX8_booksLawful 1 = .ok (.aload_n 1, 1) := by decide +kernel
theorem dX8_booksLawful_2 : decode cX8_booksLawful 2 = .ok (.iconst 1, 1) := by decide +kernel
theorem dX8_booksLawful_3 : decode cX8_booksLawful 3 = .ok (.invokevirtual 62, 3) := by decide +kernel
theorem kwV_X8_booksReading : MwV RX8 yX8_booksReading cX8_booksReading 5 (some .int) 2 := ⟨List.mem_filter.mpr ⟨List.mem_of_getElem? (i := 920) (by decide +kernel), by decide +kernel⟩, List.mem_filter.mpr ⟨List.mem_of_getElem? (i := 918) (by decide +kernel), by decide +kernel⟩, List.mem_filter.mpr ⟨List.mem_of_getElem? (i := 919) (by decide +kernel), by decide +kernel⟩, List.mem_filter.mpr ⟨List.mem_of_getElem? (i := 131) (by decide +kernel), by decide +kernel⟩, by decide +kernel⟩
theorem kM_RX8_62 : Cond.methodLink RX8 62 yX8_booksReading ∈ gT := List.mem_filter.mpr ⟨List.mem_of_getElem? (i := 1068) (by decide +kernel), by decide +kernel⟩
theorem dX8_booksLawful_6 : decode cX8_booksLawful 6 = .ok (.aload_n 0, 1) := by decide +kernel
theorem dX8_booksLawful_7 : decode cX8_booksLawful 7 = .ok (.aload_n 1, 1) := by decide +kernel
theorem dX8_booksLawful_8 : decode cX8_booksLawful 8 = .ok (.iconst 2, 1) := by decide +kernel
theorem dX8_booksLawful_9 : decode cX8_booksLawful 9 = .ok (.invokevirtual 62, 3) := by decide +kernel
theorem dX8_booksLawful_12 : decode cX8_booksLawful 12 = .ok (.ior, 1) := by decide +kernel
theorem dX8_booksLawful_13 : decode cX8_booksLawful 13 = .ok (.ireturn, 1) := by decide +kernel
theorem dX8_linesOf_0 : decode cX8_linesOf 0 = .ok (.iconst 0, 1) := by decide +kernel
theorem dX8_linesOf_1 : decode cX8_linesOf 1 = .ok (.istore_n 3, 1) := by decide +kernel
theorem dX8_linesOf_2 : decode cX8_linesOf 2 = .ok (.iconst 0, 1) := by decide +kernel
theorem dX8_linesOf_3 : decode cX8_linesOf 3 = .ok (.istore 4, 2) := by decide +kernel
theorem dX8_linesOf_5 : decode cX8_linesOf 5 = .ok (.iload 4, 2) := by decide +kernel
theorem dX8_linesOf_7 : decode cX8_linesOf 7 = .ok (.aload_n 1, 1) := by decide +kernel
theorem dX8_linesOf_8 : decode cX8_linesOf 8 = .ok (.getfield 53, 3) := by decide +kernel
theorem dX8_linesOf_11 : decode cX8_linesOf 11 = .ok (.if_icmp .ge 40, 3) := by decide +kernel
theorem dX8_linesOf_51 : decode cX8_linesOf 51 = .ok (.iload_n 3, 1) := by decide +kernel
theorem dX8_linesOf_52 : decode cX8_linesOf 52 = .ok (.ireturn, 1) := by decide +kernel
theorem dX8_linesOf_14 : decode cX8_linesOf 14 = .ok (.iload 4, 2) := by decide +kernel
theorem dX8_linesOf_16 : decode cX8_linesOf 16 = .ok (.iload_n 2, 1) := by decide +kernel
theorem dX8_linesOf_17 : decode cX8_linesOf 17 = .ok (.if_icmp .eq 28, 3) := by decide +kernel
theorem dX8_linesOf_45 : decode cX8_linesOf 45 = .ok (.iinc 4 1, 3) := by decide +kernel
theorem dX8_linesOf_48 : decode cX8_linesOf 48 = .ok (.goto (-43), 3) := by decide +kernel
theorem dX8_linesOf_20 : decode cX8_linesOf 20 = .ok (.aload_n 0, 1) := by decide +kernel
theorem dX8_linesOf_21 : decode cX8_linesOf 21 = .ok (.getfield 24, 3) := by decide +kernel
theorem dX8_linesOf_24 : decode cX8_linesOf 24 = .ok (.iload_n 2, 1) := by decide +kernel
theorem dX8_linesOf_25 : decode cX8_linesOf 25 = .ok (.iload 4, 2) := by decide +kernel
theorem dX8_linesOf_27 : decode cX8_linesOf 27 = .ok (.invokestatic 66, 3) := by decide +kernel
theorem kwS_X10_pairPlace : MwS yX10_pairPlace cX10_pairPlace 2 (some .int) 2 := ⟨List.mem_filter.mpr ⟨List.mem_of_getElem? (i := 819) (by decide +kernel), by decide +kernel⟩, List.mem_filter.mpr ⟨List.mem_of_getElem? (i := 818) (by decide +kernel), by decide +kernel⟩, List.mem_filter.mpr ⟨List.mem_of_getElem? (i := 128) (by decide +kernel), by decide +kernel⟩, by decide +kernel⟩
theorem kN_RX8_66 : (RX8, 66, yX10_pairPlace, RX10) ∈ nestQ := List.mem_of_getElem? (i := 24) (by decide +kernel)
theorem dX8_linesOf_30 : decode cX8_linesOf 30 = .ok (.iaload, 1) := by decide +kernel
theorem dX8_linesOf_31 : decode cX8_linesOf 31 = .ok (.aload_n 1, 1) := by decide +kernel
theorem dX8_linesOf_32 : decode cX8_linesOf 32 = .ok (.getfield 70, 3) := by decide +kernel
theorem kF_RX8_70 : Cond.fieldLink RX8 70 "CobwebLibrary$Plan" "line" "I" ∈ gT := List.mem_filter.mpr ⟨List.mem_of_getElem? (i := 239) (by decide +kernel), by decide +kernel⟩
theorem dX8_linesOf_35 : decode cX8_linesOf 35 = .ok (.if_icmp .lt 10, 3) := by decide +kernel
theorem dX8_linesOf_38 : decode cX8_linesOf 38 = .ok (.iload_n 3, 1) := by decide +kernel
theorem dX8_linesOf_39 : decode cX8_linesOf 39 = .ok (.iconst 1, 1) := by decide +kernel
theorem dX8_linesOf_40 : decode cX8_linesOf 40 = .ok (.iload 4, 2) := by decide +kernel
theorem dX8_linesOf_42 : decode cX8_linesOf 42 = .ok (.ishl, 1) := by decide +kernel
theorem dX8_linesOf_43 : decode cX8_linesOf 43 = .ok (.ior, 1) := by decide +kernel
theorem dX8_linesOf_44 : decode cX8_linesOf 44 = .ok (.istore_n 3, 1) := by decide +kernel
theorem dX8_following_0 : decode cX8_following 0 = .ok (.iconst 1, 1) := by decide +kernel
theorem dX8_following_1 : decode cX8_following 1 = .ok (.iload_n 2, 1) := by decide +kernel
theorem dX8_following_2 : decode cX8_following 2 = .ok (.ishl, 1) := by decide +kernel
theorem dX8_following_3 : decode cX8_following 3 = .ok (.istore_n 3, 1) := by decide +kernel
theorem dX8_following_4 : decode cX8_following 4 = .ok (.iconst 0, 1) := by decide +kernel
theorem dX8_following_5 : decode cX8_following 5 = .ok (.istore 4, 2) := by decide +kernel
theorem dX8_following_7 : decode cX8_following 7 = .ok (.iload 4, 2) := by decide +kernel
theorem dX8_following_9 : decode cX8_following 9 = .ok (.bipush 8, 2) := by decide +kernel
theorem dX8_following_11 : decode cX8_following 11 = .ok (.if_icmp .ge 60, 3) := by decide +kernel
theorem dX8_following_71 : decode cX8_following 71 = .ok (.iload_n 3, 1) := by decide +kernel
theorem dX8_following_72 : decode cX8_following 72 = .ok (.ireturn, 1) := by decide +kernel
theorem dX8_following_14 : decode cX8_following 14 = .ok (.iload_n 3, 1) := by decide +kernel
theorem dX8_following_15 : decode cX8_following 15 = .ok (.istore 5, 2) := by decide +kernel
theorem dX8_following_17 : decode cX8_following 17 = .ok (.iconst 0, 1) := by decide +kernel
theorem dX8_following_18 : decode cX8_following 18 = .ok (.istore 6, 2) := by decide +kernel
theorem dX8_following_20 : decode cX8_following 20 = .ok (.iload 6, 2) := by decide +kernel
theorem dX8_following_22 : decode cX8_following 22 = .ok (.aload_n 1, 1) := by decide +kernel
theorem dX8_following_23 : decode cX8_following 23 = .ok (.getfield 53, 3) := by decide +kernel
theorem dX8_following_26 : decode cX8_following 26 = .ok (.if_icmp .ge 30, 3) := by decide +kernel
theorem dX8_following_56 : decode cX8_following 56 = .ok (.iload_n 3, 1) := by decide +kernel
theorem dX8_following_57 : decode cX8_following 57 = .ok (.iload 5, 2) := by decide +kernel
theorem dX8_following_59 : decode cX8_following 59 = .ok (.if_icmp .ne 6, 3) := by decide +kernel
theorem dX8_following_65 : decode cX8_following 65 = .ok (.iinc 4 1, 3) := by decide +kernel
theorem dX8_following_68 : decode cX8_following 68 = .ok (.goto (-61), 3) := by decide +kernel
theorem dX8_following_62 : decode cX8_following 62 = .ok (.goto 9, 3) := by decide +kernel
theorem dX8_following_29 : decode cX8_following 29 = .ok (.iload 5, 2) := by decide +kernel
theorem dX8_following_31 : decode cX8_following 31 = .ok (.iload 6, 2) := by decide +kernel
theorem dX8_following_33 : decode cX8_following 33 = .ok (.invokestatic 73, 3) := by decide +kernel
theorem kN_RX8_73 : (RX8, 73, yX10_bitOf, RX10) ∈ nestQ := List.mem_of_getElem? (i := 25) (by decide +kernel)
theorem dX8_following_36 : decode cX8_following 36 = .ok (.iconst 1, 1) := by decide +kernel
theorem dX8_following_37 : decode cX8_following 37 = .ok (.if_icmp .ne 13, 3) := by decide +kernel
theorem dX8_following_50 : decode cX8_following 50 = .ok (.iinc 6 1, 3) := by decide +kernel
theorem dX8_following_53 : decode cX8_following 53 = .ok (.goto (-33), 3) := by decide +kernel
theorem dX8_following_40 : decode cX8_following 40 = .ok (.iload_n 3, 1) := by decide +kernel
theorem dX8_following_41 : decode cX8_following 41 = .ok (.aload_n 0, 1) := by decide +kernel
theorem dX8_following_42 : decode cX8_following 42 = .ok (.aload_n 1, 1) := by decide +kernel
theorem dX8_following_43 : decode cX8_following 43 = .ok (.iload 6, 2) := by decide +kernel
theorem dX8_following_45 : decode cX8_following 45 = .ok (.invokevirtual 76, 3) := by decide +kernel
theorem kwV_X8_linesOf : MwV RX8 yX8_linesOf cX8_linesOf 5 (some .int) 2 := ⟨List.mem_filter.mpr ⟨List.mem_of_getElem? (i := 937) (by decide +kernel), by decide +kernel⟩, List.mem_filter.mpr ⟨List.mem_of_getElem? (i := 935) (by decide +kernel), by decide +kernel⟩, List.mem_filter.mpr ⟨List.mem_of_getElem? (i := 936) (by decide +kernel), by decide +kernel⟩, List.mem_filter.mpr ⟨List.mem_of_getElem? (i := 131) (by decide +kernel), by decide +kernel⟩, by decide +kernel⟩
theorem kM_RX8_76 : Cond.methodLink RX8 76 yX8_linesOf ∈ gT := List.mem_filter.mpr ⟨List.mem_of_getElem? (i := 934) (by decide +kernel), by decide +kernel⟩
theorem dX8_following_48 : decode cX8_following 48 = .ok (.ior, 1) := by decide +kernel
theorem dX8_following_49 : decode cX8_following 49 = .ok (.istore_n 3, 1) := by decide +kernel
theorem dX8_setThread_0 : decode cX8_setThread 0 = .ok (.aload_n 0, 1) := by decide +kernel
theorem dX8_setThread_1 : decode cX8_setThread 1 = .ok (.getfield 24, 3) := by decide +kernel
theorem dX8_setThread_4 : decode cX8_setThread 4 = .ok (.iload_n 1, 1) := by decide +kernel
theorem dX8_setThread_5 : decode cX8_setThread 5 = .ok (.iload_n 2, 1) := by decide +kernel
theorem dX8_setThread_6 : decode cX8_setThread 6 = .ok (.invokestatic 66, 3) := by decide +kernel
theorem dX8_setThread_9 : decode cX8_setThread 9 = .ok (.iload_n 3, 1) := by decide +kernel
theorem dX8_setThread_10 : decode cX8_setThread 10 = .ok (.iastore, 1) := by decide +kernel
theorem dX8_setThread_11 : decode cX8_setThread 11 = .ok (.aload_n 0, 1) := by decide +kernel
theorem dX8_setThread_12 : decode cX8_setThread 12 = .ok (.getfield 24, 3) := by decide +kernel
theorem dX8_setThread_15 : decode cX8_setThread 15 = .ok (.iload_n 2, 1) := by decide +kernel
theorem dX8_setThread_16 : decode cX8_setThread 16 = .ok (.iload_n 1, 1) := by decide +kernel
theorem dX8_setThread_17 : decode cX8_setThread 17 = .ok (.invokestatic 66, 3) := by decide +kernel
theorem dX8_setThread_20 : decode cX8_setThread 20 = .ok (.iload_n 3, 1) := by decide +kernel
theorem dX8_setThread_21 : decode cX8_setThread 21 = .ok (.iastore, 1) := by decide +kernel
theorem dX8_setThread_22 : decode cX8_setThread 22 = .ok (.return_, 1) := by decide +kernel
theorem dX8_hasThread_0 : decode cX8_hasThread 0 = .ok (.iconst 0, 1) := by decide +kernel
theorem dX8_hasThread_1 : decode cX8_hasThread 1 = .ok (.istore_n 2, 1) := by decide +kernel
theorem dX8_hasThread_2 : decode cX8_hasThread 2 = .ok (.iload_n 2, 1) := by decide +kernel
theorem dX8_hasThread_3 : decode cX8_hasThread 3 = .ok (.bipush 8, 2) := by decide +kernel
theorem dX8_hasThread_5 : decode cX8_hasThread 5 = .ok (.if_icmp .ge 24, 3) := by decide +kernel
theorem dX8_hasThread_29 : decode cX8_hasThread 29 = .ok (.iconst 0, 1) := by decide +kernel
theorem dX8_hasThread_30 : decode cX8_hasThread 30 = .ok (.ireturn, 1) := by decide +kernel
theorem dX8_hasThread_8 : decode cX8_hasThread 8 = .ok (.aload_n 0, 1) := by decide +kernel
theorem dX8_hasThread_9 : decode cX8_hasThread 9 = .ok (.getfield 24, 3) := by decide +kernel
theorem dX8_hasThread_12 : decode cX8_hasThread 12 = .ok (.iload_n 1, 1) := by decide +kernel
theorem dX8_hasThread_13 : decode cX8_hasThread 13 = .ok (.iload_n 2, 1) := by decide +kernel
theorem dX8_hasThread_14 : decode cX8_hasThread 14 = .ok (.invokestatic 66, 3) := by decide +kernel
theorem dX8_hasThread_17 : decode cX8_hasThread 17 = .ok (.iaload, 1) := by decide +kernel
theorem dX8_hasThread_18 : decode cX8_hasThread 18 = .ok (.ifCond .le 5, 3) := by decide +kernel
theorem dX8_hasThread_23 : decode cX8_hasThread 23 = .ok (.iinc 2 1, 3) := by decide +kernel
theorem dX8_hasThread_26 : decode cX8_hasThread 26 = .ok (.goto (-24), 3) := by decide +kernel
theorem dX8_hasThread_21 : decode cX8_hasThread 21 = .ok (.iconst 1, 1) := by decide +kernel
theorem dX8_hasThread_22 : decode cX8_hasThread 22 = .ok (.ireturn, 1) := by decide +kernel
theorem dX8_cutThreads_0 : decode cX8_cutThreads 0 = .ok (.iconst 0, 1) := by decide +kernel
theorem dX8_cutThreads_1 : decode cX8_cutThreads 1 = .ok (.istore_n 2, 1) := by decide +kernel
theorem dX8_cutThreads_2 : decode cX8_cutThreads 2 = .ok (.iload_n 2, 1) := by decide +kernel
theorem dX8_cutThreads_3 : decode cX8_cutThreads 3 = .ok (.bipush 8, 2) := by decide +kernel
theorem dX8_cutThreads_5 : decode cX8_cutThreads 5 = .ok (.if_icmp .ge 31, 3) := by decide +kernel
theorem dX8_cutThreads_36 : decode cX8_cutThreads 36 = .ok (.return_, 1) := by decide +kernel
theorem dX8_cutThreads_8 : decode cX8_cutThreads 8 = .ok (.aload_n 0, 1) := by decide +kernel
theorem dX8_cutThreads_9 : decode cX8_cutThreads 9 = .ok (.getfield 24, 3) := by decide +kernel
theorem dX8_cutThreads_12 : decode cX8_cutThreads 12 = .ok (.iload_n 1, 1) := by decide +kernel
theorem dX8_cutThreads_13 : decode cX8_cutThreads 13 = .ok (.iload_n 2, 1) := by decide +kernel
theorem dX8_cutThreads_14 : decode cX8_cutThreads 14 = .ok (.invokestatic 66, 3) := by decide +kernel
theorem dX8_cutThreads_17 : decode cX8_cutThreads 17 = .ok (.iconst 0, 1) := by decide +kernel
theorem dX8_cutThreads_18 : decode cX8_cutThreads 18 = .ok (.iastore, 1) := by decide +kernel
theorem dX8_cutThreads_19 : decode cX8_cutThreads 19 = .ok (.aload_n 0, 1) := by decide +kernel
theorem dX8_cutThreads_20 : decode cX8_cutThreads 20 = .ok (.getfield 24, 3) := by decide +kernel
theorem dX8_cutThreads_23 : decode cX8_cutThreads 23 = .ok (.iload_n 2, 1) := by decide +kernel
theorem dX8_cutThreads_24 : decode cX8_cutThreads 24 = .ok (.iload_n 1, 1) := by decide +kernel
theorem dX8_cutThreads_25 : decode cX8_cutThreads 25 = .ok (.invokestatic 66, 3) := by decide +kernel
theorem dX8_cutThreads_28 : decode cX8_cutThreads 28 = .ok (.iconst 0, 1) := by decide +kernel
theorem dX8_cutThreads_29 : decode cX8_cutThreads 29 = .ok (.iastore, 1) := by decide +kernel
theorem dX8_cutThreads_30 : decode cX8_cutThreads 30 = .ok (.iinc 2 1, 3) := by decide +kernel
theorem dX8_cutThreads_33 : decode cX8_cutThreads 33 = .ok (.goto (-31), 3) := by decide +kernel
theorem dX8_askFor_0 : decode cX8_askFor 0 = .ok (.aload_n 0, 1) := by decide +kernel
theorem dX8_askFor_1 : decode cX8_askFor 1 = .ok (.getfield 27, 3) := by decide +kernel
theorem dX8_askFor_4 : decode cX8_askFor 4 = .ok (.iload_n 1, 1) := by decide +kernel
theorem dX8_askFor_5 : decode cX8_askFor 5 = .ok (.invokestatic 73, 3) := by decide +kernel
theorem dX8_askFor_8 : decode cX8_askFor 8 = .ok (.iconst 1, 1) := by decide +kernel
theorem dX8_askFor_9 : decode cX8_askFor 9 = .ok (.if_icmp .ne 5, 3) := by decide +kernel
theorem dX8_askFor_14 : decode cX8_askFor 14 = .ok (.aload_n 0, 1) := by decide +kernel
theorem dX8_askFor_15 : decode cX8_askFor 15 = .ok (.getfield 18, 3) := by decide +kernel
theorem dX8_askFor_18 : decode cX8_askFor 18 = .ok (.iload_n 1, 1) := by decide +kernel
theorem dX8_askFor_19 : decode cX8_askFor 19 = .ok (.iconst 0, 1) := by decide +kernel
theorem dX8_askFor_20 : decode cX8_askFor 20 = .ok (.iastore, 1) := by decide +kernel
theorem dX8_askFor_21 : decode cX8_askFor 21 = .ok (.aload_n 0, 1) := by decide +kernel
theorem dX8_askFor_22 : decode cX8_askFor 22 = .ok (.iload_n 1, 1) := by decide +kernel
theorem dX8_askFor_23 : decode cX8_askFor 23 = .ok (.invokevirtual 79, 3) := by decide +kernel
theorem kwV_X8_cutThreads : MwV RX8 yX8_cutThreads cX8_cutThreads 3 none 1 := ⟨List.mem_filter.mpr ⟨List.mem_of_getElem? (i := 994) (by decide +kernel), by decide +kernel⟩, List.mem_filter.mpr ⟨List.mem_of_getElem? (i := 993) (by decide +kernel), by decide +kernel⟩, List.mem_filter.mpr ⟨List.mem_of_getElem? (i := 23) (by decide +kernel), by decide +kernel⟩, List.mem_filter.mpr ⟨List.mem_of_getElem? (i := 131) (by decide +kernel), by decide +kernel⟩, by decide +kernel⟩
theorem kM_RX8_79 : Cond.methodLink RX8 79 yX8_cutThreads ∈ gT := List.mem_filter.mpr ⟨List.mem_of_getElem? (i := 991) (by decide +kernel), by decide +kernel⟩
theorem dX8_askFor_26 : decode cX8_askFor 26 = .ok (.aload_n 0, 1) := by decide +kernel
theorem dX8_askFor_27 : decode cX8_askFor 27 = .ok (.dup, 1) := by decide +kernel
theorem dX8_askFor_28 : decode cX8_askFor 28 = .ok (.getfield 27, 3) := by decide +kernel
theorem dX8_askFor_31 : decode cX8_askFor 31 = .ok (.iconst 1, 1) := by decide +kernel
theorem dX8_askFor_32 : decode cX8_askFor 32 = .ok (.iload_n 1, 1) := by decide +kernel
theorem dX8_askFor_33 : decode cX8_askFor 33 = .ok (.ishl, 1) := by decide +kernel
theorem dX8_askFor_34 : decode cX8_askFor 34 = .ok (.ior, 1) := by decide +kernel
theorem dX8_askFor_35 : decode cX8_askFor 35 = .ok (.putfield 27, 3) := by decide +kernel
theorem dX8_askFor_38 : decode cX8_askFor 38 = .ok (.aload_n 0, 1) := by decide +kernel
theorem dX8_askFor_39 : decode cX8_askFor 39 = .ok (.getfield 21, 3) := by decide +kernel
theorem dX8_askFor_42 : decode cX8_askFor 42 = .ok (.iload_n 1, 1) := by decide +kernel
theorem dX8_askFor_43 : decode cX8_askFor 43 = .ok (.dup2, 1) := by decide +kernel
theorem dX8_askFor_44 : decode cX8_askFor 44 = .ok (.iaload, 1) := by decide +kernel
theorem dX8_askFor_45 : decode cX8_askFor 45 = .ok (.iconst 1, 1) := by decide +kernel
theorem dX8_askFor_46 : decode cX8_askFor 46 = .ok (.iadd, 1) := by decide +kernel
theorem dX8_askFor_47 : decode cX8_askFor 47 = .ok (.iastore, 1) := by decide +kernel
theorem dX8_askFor_48 : decode cX8_askFor 48 = .ok (.iconst 0, 1) := by decide +kernel
theorem dX8_askFor_49 : decode cX8_askFor 49 = .ok (.ireturn, 1) := by decide +kernel
theorem dX8_askFor_12 : decode cX8_askFor 12 = .ok (.iconst 1, 1) := by decide +kernel
theorem dX8_askFor_13 : decode cX8_askFor 13 = .ok (.ireturn, 1) := by decide +kernel
theorem dX8_sweepRow_0 : decode cX8_sweepRow 0 = .ok (.iconst 0, 1) := by decide +kernel
theorem dX8_sweepRow_1 : decode cX8_sweepRow 1 = .ok (.istore_n 3, 1) := by decide +kernel
theorem dX8_sweepRow_2 : decode cX8_sweepRow 2 = .ok (.iconst 0, 1) := by decide +kernel
theorem dX8_sweepRow_3 : decode cX8_sweepRow 3 = .ok (.istore 4, 2) := by decide +kernel
theorem dX8_sweepRow_5 : decode cX8_sweepRow 5 = .ok (.iload 4, 2) := by decide +kernel
theorem dX8_sweepRow_7 : decode cX8_sweepRow 7 = .ok (.iload_n 1, 1) := by decide +kernel
theorem dX8_sweepRow_8 : decode cX8_sweepRow 8 = .ok (.if_icmp .ge 55, 3) := by decide +kernel
theorem dX8_sweepRow_63 : decode cX8_sweepRow 63 = .ok (.iload_n 3, 1) := by decide +kernel
theorem dX8_sweepRow_64 : decode cX8_sweepRow 64 = .ok (.ifCond .eq 7, 3) := by decide +kernel
theorem dX8_sweepRow_71 : decode cX8_sweepRow 71 = .ok (.iconst 1, 1) := by decide +kernel
theorem dX8_sweepRow_72 : decode cX8_sweepRow 72 = .ok (.ireturn, 1) := by decide +kernel
theorem dX8_sweepRow_67 : decode cX8_sweepRow 67 = .ok (.iconst 0, 1) := by decide +kernel
theorem dX8_sweepRow_68 : decode cX8_sweepRow 68 = .ok (.goto 4, 3) := by decide +kernel
theorem dX8_sweepRow_11 : decode cX8_sweepRow 11 = .ok (.aload_n 0, 1) := by decide +kernel
theorem dX8_sweepRow_12 : decode cX8_sweepRow 12 = .ok (.getfield 15, 3) := by decide +kernel
theorem dX8_sweepRow_15 : decode cX8_sweepRow 15 = .ok (.iload 4, 2) := by decide +kernel
theorem dX8_sweepRow_17 : decode cX8_sweepRow 17 = .ok (.iaload, 1) := by decide +kernel
theorem dX8_sweepRow_18 : decode cX8_sweepRow 18 = .ok (.iload_n 2, 1) := by decide +kernel
theorem dX8_sweepRow_19 : decode cX8_sweepRow 19 = .ok (.if_icmp .ne 38, 3) := by decide +kernel
theorem dX8_sweepRow_57 : decode cX8_sweepRow 57 = .ok (.iinc 4 1, 3) := by decide +kernel
theorem dX8_sweepRow_60 : decode cX8_sweepRow 60 = .ok (.goto (-55), 3) := by decide +kernel
theorem dX8_sweepRow_22 : decode cX8_sweepRow 22 = .ok (.aload_n 0, 1) := by decide +kernel
theorem dX8_sweepRow_23 : decode cX8_sweepRow 23 = .ok (.getfield 18, 3) := by decide +kernel
theorem dX8_sweepRow_26 : decode cX8_sweepRow 26 = .ok (.iload 4, 2) := by decide +kernel
theorem dX8_sweepRow_28 : decode cX8_sweepRow 28 = .ok (.iaload, 1) := by decide +kernel
theorem dX8_sweepRow_41 : decode cX8_sweepRow 41 = .ok (.aload_n 0, 1) := by decide +kernel
theorem dX8_sweepRow_42 : decode cX8_sweepRow 42 = .ok (.getfield 18, 3) := by decide +kernel
theorem dX8_sweepRow_45 : decode cX8_sweepRow 45 = .ok (.iload 4, 2) := by decide +kernel
theorem dX8_sweepRow_47 : decode cX8_sweepRow 47 = .ok (.iconst 0, 1) := by decide +kernel
theorem dX8_sweepRow_48 : decode cX8_sweepRow 48 = .ok (.iastore, 1) := by decide +kernel
theorem dX8_sweepRow_49 : decode cX8_sweepRow 49 = .ok (.aload_n 0, 1) := by decide +kernel
theorem dX8_sweepRow_50 : decode cX8_sweepRow 50 = .ok (.iload 4, 2) := by decide +kernel
theorem dX8_sweepRow_52 : decode cX8_sweepRow 52 = .ok (.invokevirtual 79, 3) := by decide +kernel
theorem dX8_sweepRow_55 : decode cX8_sweepRow 55 = .ok (.iconst 1, 1) := by decide +kernel
theorem dX8_sweepRow_56 : decode cX8_sweepRow 56 = .ok (.istore_n 3, 1) := by decide +kernel
theorem dX8_sweepRow_29 : decode cX8_sweepRow 29 = .ok (.ifCond .gt 12, 3) := by decide +kernel
theorem dX8_sweepRow_32 : decode cX8_sweepRow 32 = .ok (.aload_n 0, 1) := by decide +kernel
theorem dX8_sweepRow_33 : decode cX8_sweepRow 33 = .ok (.iload 4, 2) := by decide +kernel
theorem dX8_sweepRow_35 : decode cX8_sweepRow 35 = .ok (.invokevirtual 83, 3) := by decide +kernel
theorem kwV_X8_hasThread : MwV RX8 yX8_hasThread cX8_hasThread 3 (some .boolean) 1 := ⟨List.mem_filter.mpr ⟨List.mem_of_getElem? (i := 1006) (by decide +kernel), by decide +kernel⟩, List.mem_filter.mpr ⟨List.mem_of_getElem? (i := 1005) (by decide +kernel), by decide +kernel⟩, List.mem_filter.mpr ⟨List.mem_of_getElem? (i := 24) (by decide +kernel), by decide +kernel⟩, List.mem_filter.mpr ⟨List.mem_of_getElem? (i := 131) (by decide +kernel), by decide +kernel⟩, by decide +kernel⟩
theorem kM_RX8_83 : Cond.methodLink RX8 83 yX8_hasThread ∈ gT := List.mem_filter.mpr ⟨List.mem_of_getElem? (i := 1003) (by decide +kernel), by decide +kernel⟩
theorem dX8_sweepRow_38 : decode cX8_sweepRow 38 = .ok (.ifCond .eq 19, 3) := by decide +kernel
theorem dX8_carry_0 : decode cX8_carry 0 = .ok (.aload_n 0, 1) := by decide +kernel
theorem dX8_carry_1 : decode cX8_carry 1 = .ok (.iload_n 1, 1) := by decide +kernel
theorem dX8_carry_2 : decode cX8_carry 2 = .ok (.iload_n 3, 1) := by decide +kernel
theorem dX8_carry_3 : decode cX8_carry 3 = .ok (.iload 4, 2) := by decide +kernel
theorem dX8_carry_5 : decode cX8_carry 5 = .ok (.invokevirtual 87, 3) := by decide +kernel
theorem kwV_X8_bookIn : MwV RX8 yX8_bookIn cX8_bookIn 5 (some .int) 3 := ⟨List.mem_filter.mpr ⟨List.mem_of_getElem? (i := 784) (by decide +kernel), by decide +kernel⟩, List.mem_filter.mpr ⟨List.mem_of_getElem? (i := 782) (by decide +kernel), by decide +kernel⟩, List.mem_filter.mpr ⟨List.mem_of_getElem? (i := 783) (by decide +kernel), by decide +kernel⟩, List.mem_filter.mpr ⟨List.mem_of_getElem? (i := 131) (by decide +kernel), by decide +kernel⟩, by decide +kernel⟩
theorem kM_RX8_87 : Cond.methodLink RX8 87 yX8_bookIn ∈ gT := List.mem_filter.mpr ⟨List.mem_of_getElem? (i := 1019) (by decide +kernel), by decide +kernel⟩
theorem dX8_carry_8 : decode cX8_carry 8 = .ok (.iconst (-1), 1) := by decide +kernel
theorem dX8_carry_9 : decode cX8_carry 9 = .ok (.if_icmp .eq 5, 3) := by decide +kernel
theorem dX8_carry_14 : decode cX8_carry 14 = .ok (.aload_n 0, 1) := by decide +kernel
theorem dX8_carry_15 : decode cX8_carry 15 = .ok (.getfield 9, 3) := by decide +kernel
theorem dX8_carry_18 : decode cX8_carry 18 = .ok (.iload_n 2, 1) := by decide +kernel
theorem dX8_carry_19 : decode cX8_carry 19 = .ok (.iload_n 3, 1) := by decide +kernel
theorem dX8_carry_20 : decode cX8_carry 20 = .ok (.iastore, 1) := by decide +kernel
theorem dX8_carry_21 : decode cX8_carry 21 = .ok (.aload_n 0, 1) := by decide +kernel
theorem dX8_carry_22 : decode cX8_carry 22 = .ok (.getfield 15, 3) := by decide +kernel
theorem dX8_carry_25 : decode cX8_carry 25 = .ok (.iload_n 2, 1) := by decide +kernel
theorem dX8_carry_26 : decode cX8_carry 26 = .ok (.iload 4, 2) := by decide +kernel
theorem dX8_carry_28 : decode cX8_carry 28 = .ok (.iastore, 1) := by decide +kernel
theorem dX8_carry_29 : decode cX8_carry 29 = .ok (.aload_n 0, 1) := by decide +kernel
theorem dX8_carry_30 : decode cX8_carry 30 = .ok (.iload_n 2, 1) := by decide +kernel
theorem dX8_carry_31 : decode cX8_carry 31 = .ok (.invokevirtual 79, 3) := by decide +kernel
theorem dX8_carry_34 : decode cX8_carry 34 = .ok (.iconst 0, 1) := by decide +kernel
theorem dX8_carry_35 : decode cX8_carry 35 = .ok (.ireturn, 1) := by decide +kernel
theorem dX8_carry_12 : decode cX8_carry 12 = .ok (.iconst 1, 1) := by decide +kernel
theorem dX8_carry_13 : decode cX8_carry 13 = .ok (.ireturn, 1) := by decide +kernel
theorem dX8_growWebs_0 : decode cX8_growWebs 0 = .ok (.iconst 0, 1) := by decide +kernel
theorem dX8_growWebs_1 : decode cX8_growWebs 1 = .ok (.istore_n 2, 1) := by decide +kernel
theorem dX8_growWebs_2 : decode cX8_growWebs 2 = .ok (.iload_n 2, 1) := by decide +kernel
theorem dX8_growWebs_3 : decode cX8_growWebs 3 = .ok (.aload_n 1, 1) := by decide +kernel
theorem dX8_growWebs_4 : decode cX8_growWebs 4 = .ok (.getfield 53, 3) := by decide +kernel
theorem dX8_growWebs_7 : decode cX8_growWebs 7 = .ok (.if_icmp .ge 42, 3) := by decide +kernel
theorem dX8_growWebs_49 : decode cX8_growWebs 49 = .ok (.return_, 1) := by decide +kernel
theorem dX8_growWebs_10 : decode cX8_growWebs 10 = .ok (.aload_n 0, 1) := by decide +kernel
theorem dX8_growWebs_11 : decode cX8_growWebs 11 = .ok (.getfield 27, 3) := by decide +kernel
theorem dX8_growWebs_14 : decode cX8_growWebs 14 = .ok (.iload_n 2, 1) := by decide +kernel
theorem dX8_growWebs_15 : decode cX8_growWebs 15 = .ok (.invokestatic 73, 3) := by decide +kernel
theorem dX8_growWebs_18 : decode cX8_growWebs 18 = .ok (.ifCond .ne 25, 3) := by decide +kernel
theorem dX8_growWebs_43 : decode cX8_growWebs 43 = .ok (.iinc 2 1, 3) := by decide +kernel
theorem dX8_growWebs_46 : decode cX8_growWebs 46 = .ok (.goto (-44), 3) := by decide +kernel
theorem dX8_growWebs_21 : decode cX8_growWebs 21 = .ok (.aload_n 0, 1) := by decide +kernel
theorem dX8_growWebs_22 : decode cX8_growWebs 22 = .ok (.getfield 18, 3) := by decide +kernel
theorem dX8_growWebs_25 : decode cX8_growWebs 25 = .ok (.iload_n 2, 1) := by decide +kernel
theorem dX8_growWebs_26 : decode cX8_growWebs 26 = .ok (.bipush 99, 2) := by decide +kernel
theorem dX8_growWebs_28 : decode cX8_growWebs 28 = .ok (.aload_n 0, 1) := by decide +kernel
theorem dX8_growWebs_29 : decode cX8_growWebs 29 = .ok (.getfield 18, 3) := by decide +kernel
theorem dX8_growWebs_32 : decode cX8_growWebs 32 = .ok (.iload_n 2, 1) := by decide +kernel
theorem dX8_growWebs_33 : decode cX8_growWebs 33 = .ok (.iaload, 1) := by decide +kernel
theorem dX8_growWebs_34 : decode cX8_growWebs 34 = .ok (.aload_n 1, 1) := by decide +kernel
theorem dX8_growWebs_35 : decode cX8_growWebs 35 = .ok (.getfield 109, 3) := by decide +kernel
theorem kF_RX8_109 : Cond.fieldLink RX8 109 "CobwebLibrary$Plan" "spin" "I" ∈ gT := List.mem_filter.mpr ⟨List.mem_of_getElem? (i := 237) (by decide +kernel), by decide +kernel⟩
theorem dX8_growWebs_38 : decode cX8_growWebs 38 = .ok (.iadd, 1) := by decide +kernel
theorem dX8_growWebs_39 : decode cX8_growWebs 39 = .ok (.invokestatic 91, 3) := by decide +kernel
theorem kM_RX8_91 : Cond.methodLink RX8 91 Lib.Math.min.name ∈ gT := List.mem_filter.mpr ⟨List.mem_of_getElem? (i := 1028) (by decide +kernel), by decide +kernel⟩
theorem dX8_growWebs_42 : decode cX8_growWebs 42 = .ok (.iastore, 1) := by decide +kernel
theorem dX8_growThreads_0 : decode cX8_growThreads 0 = .ok (.iconst 0, 1) := by decide +kernel
theorem dX8_growThreads_1 : decode cX8_growThreads 1 = .ok (.istore_n 2, 1) := by decide +kernel
theorem dX8_growThreads_2 : decode cX8_growThreads 2 = .ok (.iload_n 2, 1) := by decide +kernel
theorem dX8_growThreads_3 : decode cX8_growThreads 3 = .ok (.iload_n 1, 1) := by decide +kernel
theorem dX8_growThreads_4 : decode cX8_growThreads 4 = .ok (.if_icmp .ge 91, 3) := by decide +kernel
theorem dX8_growThreads_95 : decode cX8_growThreads 95 = .ok (.return_, 1) := by decide +kernel
theorem dX8_growThreads_7 : decode cX8_growThreads 7 = .ok (.aload_n 0, 1) := by decide +kernel
theorem dX8_growThreads_8 : decode cX8_growThreads 8 = .ok (.getfield 27, 3) := by decide +kernel
theorem dX8_growThreads_11 : decode cX8_growThreads 11 = .ok (.iload_n 2, 1) := by decide +kernel
theorem dX8_growThreads_12 : decode cX8_growThreads 12 = .ok (.invokestatic 73, 3) := by decide +kernel
theorem dX8_growThreads_15 : decode cX8_growThreads 15 = .ok (.iconst 1, 1) := by decide +kernel
theorem dX8_growThreads_16 : decode cX8_growThreads 16 = .ok (.if_icmp .ne 7, 3) := by decide +kernel
theorem dX8_growThreads_23 : decode cX8_growThreads 23 = .ok (.aload_n 0, 1) := by decide +kernel
theorem dX8_growThreads_24 : decode cX8_growThreads 24 = .ok (.getfield 34, 3) := by decide +kernel
theorem kF_RX8_34 : Cond.fieldLink RX8 34 "CobwebLibrary$Shelves" "seen" "[I" ∈ gT := List.mem_filter.mpr ⟨List.mem_of_getElem? (i := 318) (by decide +kernel), by decide +kernel⟩
theorem dX8_growThreads_27 : decode cX8_growThreads 27 = .ok (.iload_n 2, 1) := by decide +kernel
theorem dX8_growThreads_28 : decode cX8_growThreads 28 = .ok (.iaload, 1) := by decide +kernel
theorem dX8_growThreads_29 : decode cX8_growThreads 29 = .ok (.aload_n 0, 1) := by decide +kernel
theorem dX8_growThreads_30 : decode cX8_growThreads 30 = .ok (.getfield 27, 3) := by decide +kernel
theorem dX8_growThreads_33 : decode cX8_growThreads 33 = .ok (.iconst (-1), 1) := by decide +kernel
theorem dX8_growThreads_34 : decode cX8_growThreads 34 = .ok (.ixor, 1) := by decide +kernel
theorem dX8_growThreads_35 : decode cX8_growThreads 35 = .ok (.iand, 1) := by decide +kernel
theorem dX8_growThreads_36 : decode cX8_growThreads 36 = .ok (.istore_n 3, 1) := by decide +kernel
theorem dX8_growThreads_37 : decode cX8_growThreads 37 = .ok (.iload_n 2, 1) := by decide +kernel
theorem dX8_growThreads_38 : decode cX8_growThreads 38 = .ok (.iconst 1, 1) := by decide +kernel
theorem dX8_growThreads_39 : decode cX8_growThreads 39 = .ok (.iadd, 1) := by decide +kernel
theorem dX8_growThreads_40 : decode cX8_growThreads 40 = .ok (.istore 4, 2) := by decide +kernel
theorem dX8_growThreads_42 : decode cX8_growThreads 42 = .ok (.iload 4, 2) := by decide +kernel
theorem dX8_growThreads_44 : decode cX8_growThreads 44 = .ok (.iload_n 1, 1) := by decide +kernel
theorem dX8_growThreads_45 : decode cX8_growThreads 45 = .ok (.if_icmp .ge 44, 3) := by decide +kernel
theorem dX8_growThreads_89 : decode cX8_growThreads 89 = .ok (.iinc 2 1, 3) := by decide +kernel
theorem dX8_growThreads_92 : decode cX8_growThreads 92 = .ok (.goto (-90), 3) := by decide +kernel
theorem dX8_growThreads_48 : decode cX8_growThreads 48 = .ok (.iload_n 3, 1) := by decide +kernel
theorem dX8_growThreads_49 : decode cX8_growThreads 49 = .ok (.iload 4, 2) := by decide +kernel
theorem dX8_growThreads_51 : decode cX8_growThreads 51 = .ok (.invokestatic 73, 3) := by decide +kernel
theorem dX8_growThreads_54 : decode cX8_growThreads 54 = .ok (.iconst 1, 1) := by decide +kernel
theorem dX8_growThreads_55 : decode cX8_growThreads 55 = .ok (.if_icmp .ne 28, 3) := by decide +kernel
theorem dX8_growThreads_83 : decode cX8_growThreads 83 = .ok (.iinc 4 1, 3) := by decide +kernel
theorem dX8_growThreads_86 : decode cX8_growThreads 86 = .ok (.goto (-44), 3) := by decide +kernel
theorem dX8_growThreads_58 : decode cX8_growThreads 58 = .ok (.aload_n 0, 1) := by decide +kernel
theorem dX8_growThreads_59 : decode cX8_growThreads 59 = .ok (.iload_n 2, 1) := by decide +kernel
theorem dX8_growThreads_60 : decode cX8_growThreads 60 = .ok (.iload 4, 2) := by decide +kernel
theorem dX8_growThreads_62 : decode cX8_growThreads 62 = .ok (.bipush 99, 2) := by decide +kernel
theorem dX8_growThreads_64 : decode cX8_growThreads 64 = .ok (.aload_n 0, 1) := by decide +kernel
theorem dX8_growThreads_65 : decode cX8_growThreads 65 = .ok (.getfield 24, 3) := by decide +kernel
theorem dX8_growThreads_68 : decode cX8_growThreads 68 = .ok (.iload_n 2, 1) := by decide +kernel
theorem dX8_growThreads_69 : decode cX8_growThreads 69 = .ok (.iload 4, 2) := by decide +kernel
theorem dX8_growThreads_71 : decode cX8_growThreads 71 = .ok (.invokestatic 66, 3) := by decide +kernel
theorem dX8_growThreads_74 : decode cX8_growThreads 74 = .ok (.iaload, 1) := by decide +kernel
theorem dX8_growThreads_75 : decode cX8_growThreads 75 = .ok (.iconst 1, 1) := by decide +kernel
theorem dX8_growThreads_76 : decode cX8_growThreads 76 = .ok (.iadd, 1) := by decide +kernel
theorem dX8_growThreads_77 : decode cX8_growThreads 77 = .ok (.invokestatic 91, 3) := by decide +kernel
theorem dX8_growThreads_80 : decode cX8_growThreads 80 = .ok (.invokevirtual 112, 3) := by decide +kernel
theorem kwV_X8_setThread : MwV RX8 yX8_setThread cX8_setThread 4 none 3 := ⟨List.mem_filter.mpr ⟨List.mem_of_getElem? (i := 816) (by decide +kernel), by decide +kernel⟩, List.mem_filter.mpr ⟨List.mem_of_getElem? (i := 814) (by decide +kernel), by decide +kernel⟩, List.mem_filter.mpr ⟨List.mem_of_getElem? (i := 815) (by decide +kernel), by decide +kernel⟩, List.mem_filter.mpr ⟨List.mem_of_getElem? (i := 131) (by decide +kernel), by decide +kernel⟩, by decide +kernel⟩
theorem kM_RX8_112 : Cond.methodLink RX8 112 yX8_setThread ∈ gT := List.mem_filter.mpr ⟨List.mem_of_getElem? (i := 1052) (by decide +kernel), by decide +kernel⟩
theorem dX8_growThreads_19 : decode cX8_growThreads 19 = .ok (.iconst 0, 1) := by decide +kernel
theorem dX8_growThreads_20 : decode cX8_growThreads 20 = .ok (.goto 16, 3) := by decide +kernel
theorem dX8_blow_0 : decode cX8_blow 0 = .ok (.iload_n 2, 1) := by decide +kernel
theorem dX8_blow_1 : decode cX8_blow 1 = .ok (.invokestatic 116, 3) := by decide +kernel
theorem kwS_X10_seedBehind : MwS yX10_seedBehind cX10_seedBehind 1 (some .int) 1 := ⟨List.mem_filter.mpr ⟨List.mem_of_getElem? (i := 1059) (by decide +kernel), by decide +kernel⟩, List.mem_filter.mpr ⟨List.mem_of_getElem? (i := 1058) (by decide +kernel), by decide +kernel⟩, List.mem_filter.mpr ⟨List.mem_of_getElem? (i := 128) (by decide +kernel), by decide +kernel⟩, by decide +kernel⟩
theorem kN_RX8_116 : (RX8, 116, yX10_seedBehind, RX10) ∈ nestQ := List.mem_of_getElem? (i := 26) (by decide +kernel)
theorem dX8_blow_4 : decode cX8_blow 4 = .ok (.istore_n 3, 1) := by decide +kernel
theorem dX8_blow_5 : decode cX8_blow 5 = .ok (.aload_n 1, 1) := by decide +kernel
theorem dX8_blow_6 : decode cX8_blow 6 = .ok (.getfield 53, 3) := by decide +kernel
theorem dX8_blow_9 : decode cX8_blow 9 = .ok (.ifCond .eq 16, 3) := by decide +kernel
theorem dX8_blow_25 : decode cX8_blow 25 = .ok (.iload_n 3, 1) := by decide +kernel
theorem dX8_blow_26 : decode cX8_blow 26 = .ok (.ireturn, 1) := by decide +kernel
theorem dX8_blow_12 : decode cX8_blow 12 = .ok (.iload_n 3, 1) := by decide +kernel
theorem dX8_blow_13 : decode cX8_blow 13 = .ok (.bipush 12, 2) := by decide +kernel
theorem dX8_blow_15 : decode cX8_blow 15 = .ok (.invokestatic 119, 3) := by decide +kernel
theorem kwS_X10_drawnOf : MwS yX10_drawnOf cX10_drawnOf 2 (some .int) 2 := ⟨List.mem_filter.mpr ⟨List.mem_of_getElem? (i := 1063) (by decide +kernel), by decide +kernel⟩, List.mem_filter.mpr ⟨List.mem_of_getElem? (i := 1062) (by decide +kernel), by decide +kernel⟩, List.mem_filter.mpr ⟨List.mem_of_getElem? (i := 128) (by decide +kernel), by decide +kernel⟩, by decide +kernel⟩
theorem kN_RX8_119 : (RX8, 119, yX10_drawnOf, RX10) ∈ nestQ := List.mem_of_getElem? (i := 27) (by decide +kernel)
theorem dX8_blow_18 : decode cX8_blow 18 = .ok (.aload_n 1, 1) := by decide +kernel
theorem dX8_blow_19 : decode cX8_blow 19 = .ok (.getfield 122, 3) := by decide +kernel
theorem kF_RX8_122 : Cond.fieldLink RX8 122 "CobwebLibrary$Plan" "draught" "I" ∈ gT := List.mem_filter.mpr ⟨List.mem_of_getElem? (i := 243) (by decide +kernel), by decide +kernel⟩
theorem dX8_blow_22 : decode cX8_blow 22 = .ok (.if_icmp .lt 5, 3) := by decide +kernel
theorem dX8_blow_27 : decode cX8_blow 27 = .ok (.iload_n 3, 1) := by decide +kernel
theorem dX8_blow_28 : decode cX8_blow 28 = .ok (.invokestatic 116, 3) := by decide +kernel
theorem dX8_blow_31 : decode cX8_blow 31 = .ok (.istore_n 3, 1) := by decide +kernel
theorem dX8_blow_32 : decode cX8_blow 32 = .ok (.iload_n 3, 1) := by decide +kernel
theorem dX8_blow_33 : decode cX8_blow 33 = .ok (.aload_n 1, 1) := by decide +kernel
theorem dX8_blow_34 : decode cX8_blow 34 = .ok (.getfield 53, 3) := by decide +kernel
theorem dX8_blow_37 : decode cX8_blow 37 = .ok (.invokestatic 119, 3) := by decide +kernel
theorem dX8_blow_40 : decode cX8_blow 40 = .ok (.istore 4, 2) := by decide +kernel
theorem dX8_blow_42 : decode cX8_blow 42 = .ok (.aload_n 0, 1) := by decide +kernel
theorem dX8_blow_43 : decode cX8_blow 43 = .ok (.getfield 18, 3) := by decide +kernel
theorem dX8_blow_46 : decode cX8_blow 46 = .ok (.iload 4, 2) := by decide +kernel
theorem dX8_blow_48 : decode cX8_blow 48 = .ok (.aload_n 0, 1) := by decide +kernel
theorem dX8_blow_49 : decode cX8_blow 49 = .ok (.getfield 18, 3) := by decide +kernel
theorem dX8_blow_52 : decode cX8_blow 52 = .ok (.iload 4, 2) := by decide +kernel
theorem dX8_blow_54 : decode cX8_blow 54 = .ok (.iaload, 1) := by decide +kernel
theorem dX8_blow_55 : decode cX8_blow 55 = .ok (.iconst 2, 1) := by decide +kernel
theorem dX8_blow_56 : decode cX8_blow 56 = .ok (.idiv, 1) := by decide +kernel
theorem dX8_blow_57 : decode cX8_blow 57 = .ok (.iastore, 1) := by decide +kernel
theorem dX8_blow_58 : decode cX8_blow 58 = .ok (.aload_n 0, 1) := by decide +kernel
theorem dX8_blow_59 : decode cX8_blow 59 = .ok (.iload 4, 2) := by decide +kernel
theorem dX8_blow_61 : decode cX8_blow 61 = .ok (.invokevirtual 79, 3) := by decide +kernel
theorem dX8_blow_64 : decode cX8_blow 64 = .ok (.iload_n 3, 1) := by decide +kernel
theorem dX8_blow_65 : decode cX8_blow 65 = .ok (.ireturn, 1) := by decide +kernel
theorem dX8_passDays_0 : decode cX8_passDays 0 = .ok (.iload_n 2, 1) := by decide +kernel
theorem dX8_passDays_1 : decode cX8_passDays 1 = .ok (.sipush 400, 3) := by decide +kernel
theorem dX8_passDays_4 : decode cX8_passDays 4 = .ok (.aload_n 0, 1) := by decide +kernel
theorem dX8_passDays_5 : decode cX8_passDays 5 = .ok (.getfield 31, 3) := by decide +kernel
theorem dX8_passDays_8 : decode cX8_passDays 8 = .ok (.isub, 1) := by decide +kernel
theorem dX8_passDays_9 : decode cX8_passDays 9 = .ok (.invokestatic 91, 3) := by decide +kernel
theorem dX8_passDays_12 : decode cX8_passDays 12 = .ok (.istore 4, 2) := by decide +kernel
theorem dX8_passDays_14 : decode cX8_passDays 14 = .ok (.iconst 0, 1) := by decide +kernel
theorem dX8_passDays_15 : decode cX8_passDays 15 = .ok (.istore 5, 2) := by decide +kernel
theorem dX8_passDays_17 : decode cX8_passDays 17 = .ok (.iload 5, 2) := by decide +kernel
theorem dX8_passDays_19 : decode cX8_passDays 19 = .ok (.aload_n 1, 1) := by decide +kernel
theorem dX8_passDays_20 : decode cX8_passDays 20 = .ok (.getfield 53, 3) := by decide +kernel
theorem dX8_passDays_23 : decode cX8_passDays 23 = .ok (.if_icmp .ge 26, 3) := by decide +kernel
theorem dX8_passDays_49 : decode cX8_passDays 49 = .ok (.iload_n 3, 1) := by decide +kernel
theorem dX8_passDays_50 : decode cX8_passDays 50 = .ok (.istore 5, 2) := by decide +kernel
theorem dX8_passDays_52 : decode cX8_passDays 52 = .ok (.iconst 0, 1) := by decide +kernel
theorem dX8_passDays_53 : decode cX8_passDays 53 = .ok (.istore 6, 2) := by decide +kernel
theorem dX8_passDays_55 : decode cX8_passDays 55 = .ok (.iload 6, 2) := by decide +kernel
theorem dX8_passDays_57 : decode cX8_passDays 57 = .ok (.iload 4, 2) := by decide +kernel
theorem dX8_passDays_59 : decode cX8_passDays 59 = .ok (.if_icmp .ge 46, 3) := by decide +kernel
theorem dX8_passDays_105 : decode cX8_passDays 105 = .ok (.iload 4, 2) := by decide +kernel
theorem dX8_passDays_107 : decode cX8_passDays 107 = .ok (.ireturn, 1) := by decide +kernel
theorem dX8_passDays_62 : decode cX8_passDays 62 = .ok (.aload_n 0, 1) := by decide +kernel
theorem dX8_passDays_63 : decode cX8_passDays 63 = .ok (.aload_n 1, 1) := by decide +kernel
theorem dX8_passDays_64 : decode cX8_passDays 64 = .ok (.invokevirtual 99, 3) := by decide +kernel
theorem kwV_X8_growWebs : MwV RX8 yX8_growWebs cX8_growWebs 3 none 1 := ⟨List.mem_filter.mpr ⟨List.mem_of_getElem? (i := 1047) (by decide +kernel), by decide +kernel⟩, List.mem_filter.mpr ⟨List.mem_of_getElem? (i := 1046) (by decide +kernel), by decide +kernel⟩, List.mem_filter.mpr ⟨List.mem_of_getElem? (i := 27) (by decide +kernel), by decide +kernel⟩, List.mem_filter.mpr ⟨List.mem_of_getElem? (i := 131) (by decide +kernel), by decide +kernel⟩, by decide +kernel⟩
theorem kM_RX8_99 : Cond.methodLink RX8 99 yX8_growWebs ∈ gT := List.mem_filter.mpr ⟨List.mem_of_getElem? (i := 1044) (by decide +kernel), by decide +kernel⟩
theorem dX8_passDays_67 : decode cX8_passDays 67 = .ok (.aload_n 0, 1) := by decide +kernel
theorem dX8_passDays_68 : decode cX8_passDays 68 = .ok (.aload_n 1, 1) := by decide +kernel
theorem dX8_passDays_69 : decode cX8_passDays 69 = .ok (.getfield 53, 3) := by decide +kernel
theorem dX8_passDays_72 : decode cX8_passDays 72 = .ok (.invokevirtual 103, 3) := by decide +kernel
theorem kwV_X8_growThreads : MwV RX8 yX8_growThreads cX8_growThreads 5 none 1 := ⟨List.mem_filter.mpr ⟨List.mem_of_getElem? (i := 1051) (by decide +kernel), by decide +kernel⟩, List.mem_filter.mpr ⟨List.mem_of_getElem? (i := 1050) (by decide +kernel), by decide +kernel⟩, List.mem_filter.mpr ⟨List.mem_of_getElem? (i := 28) (by decide +kernel), by decide +kernel⟩, List.mem_filter.mpr ⟨List.mem_of_getElem? (i := 131) (by decide +kernel), by decide +kernel⟩, by decide +kernel⟩
theorem kM_RX8_103 : Cond.methodLink RX8 103 yX8_growThreads ∈ gT := List.mem_filter.mpr ⟨List.mem_of_getElem? (i := 1048) (by decide +kernel), by decide +kernel⟩
theorem dX8_passDays_75 : decode cX8_passDays 75 = .ok (.aload_n 0, 1) := by decide +kernel
theorem dX8_passDays_76 : decode cX8_passDays 76 = .ok (.aload_n 1, 1) := by decide +kernel
theorem dX8_passDays_77 : decode cX8_passDays 77 = .ok (.iload 5, 2) := by decide +kernel
theorem dX8_passDays_79 : decode cX8_passDays 79 = .ok (.invokevirtual 106, 3) := by decide +kernel
theorem kwV_X8_blow : MwV RX8 yX8_blow cX8_blow 5 (some .int) 2 := ⟨List.mem_filter.mpr ⟨List.mem_of_getElem? (i := 1056) (by decide +kernel), by decide +kernel⟩, List.mem_filter.mpr ⟨List.mem_of_getElem? (i := 1055) (by decide +kernel), by decide +kernel⟩, List.mem_filter.mpr ⟨List.mem_of_getElem? (i := 29) (by decide +kernel), by decide +kernel⟩, List.mem_filter.mpr ⟨List.mem_of_getElem? (i := 131) (by decide +kernel), by decide +kernel⟩, by decide +kernel⟩
theorem kM_RX8_106 : Cond.methodLink RX8 106 yX8_blow ∈ gT := List.mem_filter.mpr ⟨List.mem_of_getElem? (i := 1053) (by decide +kernel), by decide +kernel⟩
theorem dX8_passDays_82 : decode cX8_passDays 82 = .ok (.istore 5, 2) := by decide +kernel
theorem dX8_passDays_84 : decode cX8_passDays 84 = .ok (.aload_n 0, 1) := by decide +kernel
theorem dX8_passDays_85 : decode cX8_passDays 85 = .ok (.dup, 1) := by decide +kernel
theorem dX8_passDays_86 : decode cX8_passDays 86 = .ok (.getfield 31, 3) := by decide +kernel
theorem dX8_passDays_89 : decode cX8_passDays 89 = .ok (.iconst 1, 1) := by decide +kernel
theorem dX8_passDays_90 : decode cX8_passDays 90 = .ok (.iadd, 1) := by decide +kernel
theorem dX8_passDays_91 : decode cX8_passDays 91 = .ok (.putfield 31, 3) := by decide +kernel
theorem dX8_passDays_94 : decode cX8_passDays 94 = .ok (.aload_n 0, 1) := by decide +kernel
theorem dX8_passDays_95 : decode cX8_passDays 95 = .ok (.iconst 0, 1) := by decide +kernel
theorem dX8_passDays_96 : decode cX8_passDays 96 = .ok (.putfield 27, 3) := by decide +kernel
theorem dX8_passDays_99 : decode cX8_passDays 99 = .ok (.iinc 6 1, 3) := by decide +kernel
theorem dX8_passDays_102 : decode cX8_passDays 102 = .ok (.goto (-47), 3) := by decide +kernel
theorem dX8_passDays_26 : decode cX8_passDays 26 = .ok (.aload_n 0, 1) := by decide +kernel
theorem dX8_passDays_27 : decode cX8_passDays 27 = .ok (.getfield 34, 3) := by decide +kernel
theorem dX8_passDays_30 : decode cX8_passDays 30 = .ok (.iload 5, 2) := by decide +kernel
theorem dX8_passDays_32 : decode cX8_passDays 32 = .ok (.aload_n 0, 1) := by decide +kernel
theorem dX8_passDays_33 : decode cX8_passDays 33 = .ok (.aload_n 1, 1) := by decide +kernel
theorem dX8_passDays_34 : decode cX8_passDays 34 = .ok (.getfield 53, 3) := by decide +kernel
theorem dX8_passDays_37 : decode cX8_passDays 37 = .ok (.iload 5, 2) := by decide +kernel
theorem dX8_passDays_39 : decode cX8_passDays 39 = .ok (.invokevirtual 96, 3) := by decide +kernel
theorem kwV_X8_seenFrom : MwV RX8 yX8_seenFrom cX8_seenFrom 5 (some .int) 2 := ⟨List.mem_filter.mpr ⟨List.mem_of_getElem? (i := 1032) (by decide +kernel), by decide +kernel⟩, List.mem_filter.mpr ⟨List.mem_of_getElem? (i := 1030) (by decide +kernel), by decide +kernel⟩, List.mem_filter.mpr ⟨List.mem_of_getElem? (i := 1031) (by decide +kernel), by decide +kernel⟩, List.mem_filter.mpr ⟨List.mem_of_getElem? (i := 131) (by decide +kernel), by decide +kernel⟩, by decide +kernel⟩
theorem kM_RX8_96 : Cond.methodLink RX8 96 yX8_seenFrom ∈ gT := List.mem_filter.mpr ⟨List.mem_of_getElem? (i := 1029) (by decide +kernel), by decide +kernel⟩
theorem dX8_passDays_42 : decode cX8_passDays 42 = .ok (.iastore, 1) := by decide +kernel
theorem dX8_passDays_43 : decode cX8_passDays 43 = .ok (.iinc 5 1, 3) := by decide +kernel
theorem dX8_passDays_46 : decode cX8_passDays 46 = .ok (.goto (-29), 3) := by decide +kernel
theorem dX8_webLater_0 : decode cX8_webLater 0 = .ok (.aload_n 0, 1) := by decide +kernel
theorem dX8_webLater_1 : decode cX8_webLater 1 = .ok (.getfield 18, 3) := by decide +kernel
theorem dX8_webLater_4 : decode cX8_webLater 4 = .ok (.iload_n 2, 1) := by decide +kernel
theorem dX8_webLater_5 : decode cX8_webLater 5 = .ok (.iaload, 1) := by decide +kernel
theorem dX8_webLater_6 : decode cX8_webLater 6 = .ok (.istore 4, 2) := by decide +kernel
theorem dX8_webLater_8 : decode cX8_webLater 8 = .ok (.iload_n 3, 1) := by decide +kernel
theorem dX8_webLater_9 : decode cX8_webLater 9 = .ok (.istore 5, 2) := by decide +kernel
theorem dX8_webLater_11 : decode cX8_webLater 11 = .ok (.bipush 30, 2) := by decide +kernel
theorem dX8_webLater_13 : decode cX8_webLater 13 = .ok (.sipush 400, 3) := by decide +kernel
theorem dX8_webLater_16 : decode cX8_webLater 16 = .ok (.aload_n 0, 1) := by decide +kernel
theorem dX8_webLater_17 : decode cX8_webLater 17 = .ok (.getfield 31, 3) := by decide +kernel
theorem dX8_webLater_20 : decode cX8_webLater 20 = .ok (.isub, 1) := by decide +kernel
theorem dX8_webLater_21 : decode cX8_webLater 21 = .ok (.invokestatic 91, 3) := by decide +kernel
theorem dX8_webLater_24 : decode cX8_webLater 24 = .ok (.istore 6, 2) := by decide +kernel
theorem dX8_webLater_26 : decode cX8_webLater 26 = .ok (.iconst 0, 1) := by decide +kernel
theorem dX8_webLater_27 : decode cX8_webLater 27 = .ok (.istore 7, 2) := by decide +kernel
theorem dX8_webLater_29 : decode cX8_webLater 29 = .ok (.iload 7, 2) := by decide +kernel
theorem dX8_webLater_31 : decode cX8_webLater 31 = .ok (.iload 6, 2) := by decide +kernel
theorem dX8_webLater_33 : decode cX8_webLater 33 = .ok (.if_icmp .ge 91, 3) := by decide +kernel
theorem dX8_webLater_124 : decode cX8_webLater 124 = .ok (.iload 4, 2) := by decide +kernel
theorem dX8_webLater_126 : decode cX8_webLater 126 = .ok (.ireturn, 1) := by decide +kernel
theorem dX8_webLater_36 : decode cX8_webLater 36 = .ok (.iload 7, 2) := by decide +kernel
theorem dX8_webLater_66 : decode cX8_webLater 66 = .ok (.iload 5, 2) := by decide +kernel
theorem dX8_webLater_68 : decode cX8_webLater 68 = .ok (.invokestatic 116, 3) := by decide +kernel
theorem dX8_webLater_71 : decode cX8_webLater 71 = .ok (.istore 5, 2) := by decide +kernel
theorem dX8_webLater_73 : decode cX8_webLater 73 = .ok (.iload 5, 2) := by decide +kernel
theorem dX8_webLater_75 : decode cX8_webLater 75 = .ok (.bipush 12, 2) := by decide +kernel
theorem dX8_webLater_77 : decode cX8_webLater 77 = .ok (.invokestatic 119, 3) := by decide +kernel
theorem dX8_webLater_80 : decode cX8_webLater 80 = .ok (.aload_n 1, 1) := by decide +kernel
theorem dX8_webLater_81 : decode cX8_webLater 81 = .ok (.getfield 122, 3) := by decide +kernel
theorem dX8_webLater_84 : decode cX8_webLater 84 = .ok (.if_icmp .ge 34, 3) := by decide +kernel
theorem dX8_webLater_118 : decode cX8_webLater 118 = .ok (.iinc 7 1, 3) := by decide +kernel
theorem dX8_webLater_121 : decode cX8_webLater 121 = .ok (.goto (-92), 3) := by decide +kernel
theorem dX8_webLater_87 : decode cX8_webLater 87 = .ok (.iload 5, 2) := by decide +kernel
theorem dX8_webLater_89 : decode cX8_webLater 89 = .ok (.invokestatic 116, 3) := by decide +kernel
theorem dX8_webLater_92 : decode cX8_webLater 92 = .ok (.istore 5, 2) := by decide +kernel
theorem dX8_webLater_94 : decode cX8_webLater 94 = .ok (.iload 5, 2) := by decide +kernel
theorem dX8_webLater_96 : decode cX8_webLater 96 = .ok (.aload_n 1, 1) := by decide +kernel
theorem dX8_webLater_97 : decode cX8_webLater 97 = .ok (.getfield 53, 3) := by decide +kernel
theorem dX8_webLater_100 : decode cX8_webLater 100 = .ok (.invokestatic 119, 3) := by decide +kernel
theorem dX8_webLater_103 : decode cX8_webLater 103 = .ok (.iload_n 2, 1) := by decide +kernel
theorem dX8_webLater_104 : decode cX8_webLater 104 = .ok (.if_icmp .ne 10, 3) := by decide +kernel
theorem dX8_webLater_114 : decode cX8_webLater 114 = .ok (.iload 4, 2) := by decide +kernel
theorem dX8_webLater_116 : decode cX8_webLater 116 = .ok (.istore 4, 2) := by decide +kernel
theorem dX8_webLater_107 : decode cX8_webLater 107 = .ok (.iload 4, 2) := by decide +kernel
theorem dX8_webLater_109 : decode cX8_webLater 109 = .ok (.iconst 2, 1) := by decide +kernel
theorem dX8_webLater_110 : decode cX8_webLater 110 = .ok (.idiv, 1) := by decide +kernel
theorem dX8_webLater_111 : decode cX8_webLater 111 = .ok (.goto 5, 3) := by decide +kernel
theorem dX8_webLater_38 : decode cX8_webLater 38 = .ok (.ifCond .gt 14, 3) := by decide +kernel
theorem dX8_webLater_52 : decode cX8_webLater 52 = .ok (.bipush 99, 2) := by decide +kernel
theorem dX8_webLater_54 : decode cX8_webLater 54 = .ok (.iload 4, 2) := by decide +kernel
theorem dX8_webLater_56 : decode cX8_webLater 56 = .ok (.aload_n 1, 1) := by decide +kernel
theorem dX8_webLater_57 : decode cX8_webLater 57 = .ok (.getfield 109, 3) := by decide +kernel
theorem dX8_webLater_60 : decode cX8_webLater 60 = .ok (.iadd, 1) := by decide +kernel
theorem dX8_webLater_61 : decode cX8_webLater 61 = .ok (.invokestatic 91, 3) := by decide +kernel
theorem dX8_webLater_64 : decode cX8_webLater 64 = .ok (.istore 4, 2) := by decide +kernel
theorem dX8_webLater_41 : decode cX8_webLater 41 = .ok (.aload_n 0, 1) := by decide +kernel
theorem dX8_webLater_42 : decode cX8_webLater 42 = .ok (.getfield 27, 3) := by decide +kernel
theorem dX8_webLater_45 : decode cX8_webLater 45 = .ok (.iload_n 2, 1) := by decide +kernel
theorem dX8_webLater_46 : decode cX8_webLater 46 = .ok (.invokestatic 73, 3) := by decide +kernel
theorem dX8_webLater_49 : decode cX8_webLater 49 = .ok (.ifCond .ne 17, 3) := by decide +kernel
set_option maxHeartbeats 4000000 in
set_option maxRecDepth 100000 in
theorem b_o_shEmpty (l : Launch) (D : va_G) (cy : Nat → ClassId) (k : Nat) (k_x_ : Nat) (k_y_ : Nat) (k_web_ : Nat) (k_asks_ : Nat) (k_threads_ : Nat) (k_today : Int32) (k_day : Int32) (k_seen_ : Nat) (k_x : Nat → Int32) (k_y : Nat → Int32) (k_web : Nat → Int32) (k_asks : Nat → Int32) (k_threads : Nat → Int32) (k_seen : Nat → Int32) (hR0 : Rg k_x 0 8 0 5) (hR1 : Rg k_y 0 8 0 5) {p : Program} {e : Env} {s : State} {m : MethodId} {args : Array Value} {below : List Frame} {meth : Method} {c : Code} {A : Nat → Prop} {Q : State → Prop} {cells slots : Nat} (hroom : cells ≤ ((Rm 0 0 0 0)).cells ∧ slots ≤ ((Rm 0 0 0 0)).slots) (C : Cx p s m args meth c cX8_empty 2 none RX8 "empty" D cy A) (hQ : Q = MQ below (va_Qv (fun u : Int32 × Int32 × (Nat → Int32) × (Nat → Int32) × (Nat → Int32) × (Nat → Int32) × (Nat → Int32) => (Rg u.2.2.1 0 8 0 5) ∧ (Rg u.2.2.2.1 0 8 0 5)) (Bx D A (fun u : Int32 × Int32 × (Nat → Int32) × (Nat → Int32) × (Nat → Int32) × (Nat → Int32) × (Nat → Int32) => [(k, .inr (8, [.ref k_x_, .ref k_y_, .ref k_web_, .ref k_asks_, .ref k_threads_, .int u.1, .int u.2.1, .ref k_seen_])), (k_x_, .inl (cy 1, 8, .inl u.2.2.1)), (k_y_, .inl (cy 1, 8, .inl u.2.2.2.1)), (k_web_, .inl (cy 1, 8, .inl u.2.2.2.2.1)), (k_asks_, .inl (cy 1, 8, .inl u.2.2.2.2.2.1)), (k_threads_, .inl (cy 1, 64, .inl u.2.2.2.2.2.2)), (k_seen_, .inl (cy 1, 8, .inl k_seen))])) A) args s ((Rm 0 0 0 0)).cells ((Rm 0 0 0 0)).slots A) (H : Heap) (locs : List Loc) (ls : Array Slot) (hP : va_P D vwCl [(k, .inr (8, [.ref k_x_, .ref k_y_, .ref k_web_, .ref k_asks_, .ref k_threads_, .int k_today, .int k_day, .ref k_seen_])), (k_x_, .inl (cy 1, 8, .inl k_x)), (k_y_, .inl (cy 1, 8, .inl k_y)), (k_web_, .inl (cy 1, 8, .inl k_web)), (k_asks_, .inl (cy 1, 8, .inl k_asks)), (k_threads_, .inl (cy 1, 64, .inl k_threads)), (k_seen_, .inl (cy 1, 8, .inl k_seen))] H) (hD : va_D A [(k, .inr (8, [.ref k_x_, .ref k_y_, .ref k_web_, .ref k_asks_, .ref k_threads_, .int k_today, .int k_day, .ref k_seen_])), (k_x_, .inl (cy 1, 8, .inl k_x)), (k_y_, .inl (cy 1, 8, .inl k_y)), (k_web_, .inl (cy 1, 8, .inl k_web)), (k_asks_, .inl (cy 1, 8, .inl k_asks)), (k_threads_, .inl (cy 1, 64, .inl k_threads)), (k_seen_, .inl (cy 1, 8, .inl k_seen))]) (hS : va_S A s.heap H locs) (hl : lv_has ls 2 [(0, .ref k)]) : W p l e (Rm 0 0 0 0) s m args below meth c H locs cells slots Q (F0 m 0 ls []) := by
  have hx := C.1
  have hb := C.2.1
  refine lv_aload_n hx hb dX8_empty_0 rfl (lv_at hl 0 rfl) ?_
  refine lv_iconst (v := 0) hx hb dX8_empty_1 (by decide) ?_
  refine q_put (v := .int 0) (w' := [(k, .inr (8, [.ref k_x_, .ref k_y_, .ref k_web_, .ref k_asks_, .ref k_threads_, .int 0, .int k_day, .ref k_seen_])), (k_x_, .inl (cy 1, 8, .inl k_x)), (k_y_, .inl (cy 1, 8, .inl k_y)), (k_web_, .inl (cy 1, 8, .inl k_web)), (k_asks_, .inl (cy 1, 8, .inl k_asks)), (k_threads_, .inl (cy 1, 64, .inl k_threads)), (k_seen_, .inl (cy 1, 8, .inl k_seen))]) (ty := .int) C hP hD hS 0 5 rfl rfl inX8 tyX8 tyX8_ok nmX8 (by decide) kF_RX8_27 rfl rfl rfl rfl rfl (Nat.le_of_ble_eq_true rfl) rfl dX8_empty_2 (fun H locs hP hD hS => ?_)
  refine lv_aload_n hx hb dX8_empty_5 rfl (lv_at hl 0 rfl) ?_
  refine lv_iconst (v := 0) hx hb dX8_empty_6 (by decide) ?_
  refine q_put (v := .int 0) (w' := [(k, .inr (8, [.ref k_x_, .ref k_y_, .ref k_web_, .ref k_asks_, .ref k_threads_, .int 0, .int 0, .ref k_seen_])), (k_x_, .inl (cy 1, 8, .inl k_x)), (k_y_, .inl (cy 1, 8, .inl k_y)), (k_web_, .inl (cy 1, 8, .inl k_web)), (k_asks_, .inl (cy 1, 8, .inl k_asks)), (k_threads_, .inl (cy 1, 64, .inl k_threads)), (k_seen_, .inl (cy 1, 8, .inl k_seen))]) (ty := .int) C hP hD hS 0 6 rfl rfl inX8 tyX8 tyX8_ok nmX8 (by decide) kF_RX8_31 rfl rfl rfl rfl rfl (Nat.le_of_ble_eq_true rfl) rfl dX8_empty_7 (fun H locs hP hD hS => ?_)
  refine lv_iconst (v := 0) hx hb dX8_empty_10 (by decide) ?_
  refine lv_istore_n (lv' := [(1, .int 0), (0, .ref k)]) hx hb dX8_empty_11 rfl hl (by decide) rfl (fun ls hl => ?_)
  have lp_12_5 : ∀ (n_6 : Nat) (x_1 : Int32) (g_2 : Nat → Int32) (g_3 : Nat → Int32) (g_4 : Nat → Int32) (g_5 : Nat → Int32) (H : Heap) (locs : List Loc) (ls : Array Slot), (-1) * x_1.toInt + 8 < (n_6 : Int) → (0 ≤ x_1.toInt ∧ x_1.toInt ≤ 8) → Rg g_4 0 8 0 5 → Rg g_5 0 8 0 5 → va_P D vwCl [(k, .inr (8, [.ref k_x_, .ref k_y_, .ref k_web_, .ref k_asks_, .ref k_threads_, .int 0, .int 0, .ref k_seen_])), (k_x_, .inl (cy 1, 8, .inl g_4)), (k_y_, .inl (cy 1, 8, .inl g_5)), (k_web_, .inl (cy 1, 8, .inl g_3)), (k_asks_, .inl (cy 1, 8, .inl g_2)), (k_threads_, .inl (cy 1, 64, .inl k_threads)), (k_seen_, .inl (cy 1, 8, .inl k_seen))] H → va_D A [(k, .inr (8, [.ref k_x_, .ref k_y_, .ref k_web_, .ref k_asks_, .ref k_threads_, .int 0, .int 0, .ref k_seen_])), (k_x_, .inl (cy 1, 8, .inl g_4)), (k_y_, .inl (cy 1, 8, .inl g_5)), (k_web_, .inl (cy 1, 8, .inl g_3)), (k_asks_, .inl (cy 1, 8, .inl g_2)), (k_threads_, .inl (cy 1, 64, .inl k_threads)), (k_seen_, .inl (cy 1, 8, .inl k_seen))] → va_S A s.heap H locs → lv_has ls 2 [(0, .ref k), (1, .int x_1)] → W p l e (Rm 0 0 0 0) s m args below meth c H locs cells slots Q (F0 m 12 ls []) := by
    intro n_6
    induction n_6 with
    | zero =>
      intro x_1 g_2 g_3 g_4 g_5 H locs ls hm_10 hf_7 hg_8 hg_9 hP hD hS hl
      exact absurd hm_10 (by omega)
    | succ n_6 ih_11 =>
      intro x_1 g_2 g_3 g_4 g_5 H locs ls hm_10 hf_7 hg_8 hg_9 hP hD hS hl
      refine lv_iload_n hx hb dX8_empty_12 rfl (lv_at hl 1 rfl) ?_
      refine lv_bipush (v := 8) hx hb dX8_empty_13 (by decide) ?_
      refine lv_icmp_ge (tgt := 52) hx hb dX8_empty_15 (by decide) (fun c_13 => ?_) (fun c_13 => ?_)
      · have hc_13 := o_le (by decide : (8 : Int32).toInt = 8) (rfl : x_1.toInt = x_1.toInt) c_13
        refine lv_iconst (v := 0) hx hb dX8_empty_52 (by decide) ?_
        refine lv_istore_n (lv' := [(1, .int 0), (0, .ref k)]) hx hb dX8_empty_53 rfl hl (by decide) rfl (fun ls hl => ?_)
        have lp_54_15 : ∀ (n_16 : Nat) (x_14 : Int32) (g_15 : Nat → Int32) (H : Heap) (locs : List Loc) (ls : Array Slot), (-1) * x_14.toInt + 64 < (n_16 : Int) → (0 ≤ x_14.toInt ∧ x_14.toInt ≤ 64) → va_P D vwCl [(k, .inr (8, [.ref k_x_, .ref k_y_, .ref k_web_, .ref k_asks_, .ref k_threads_, .int 0, .int 0, .ref k_seen_])), (k_x_, .inl (cy 1, 8, .inl g_4)), (k_y_, .inl (cy 1, 8, .inl g_5)), (k_web_, .inl (cy 1, 8, .inl g_3)), (k_asks_, .inl (cy 1, 8, .inl g_2)), (k_threads_, .inl (cy 1, 64, .inl g_15)), (k_seen_, .inl (cy 1, 8, .inl k_seen))] H → va_D A [(k, .inr (8, [.ref k_x_, .ref k_y_, .ref k_web_, .ref k_asks_, .ref k_threads_, .int 0, .int 0, .ref k_seen_])), (k_x_, .inl (cy 1, 8, .inl g_4)), (k_y_, .inl (cy 1, 8, .inl g_5)), (k_web_, .inl (cy 1, 8, .inl g_3)), (k_asks_, .inl (cy 1, 8, .inl g_2)), (k_threads_, .inl (cy 1, 64, .inl g_15)), (k_seen_, .inl (cy 1, 8, .inl k_seen))] → va_S A s.heap H locs → lv_has ls 2 [(0, .ref k), (1, .int x_14)] → W p l e (Rm 0 0 0 0) s m args below meth c H locs cells slots Q (F0 m 54 ls []) := by
          intro n_16
          induction n_16 with
          | zero =>
            intro x_14 g_15 H locs ls hm_18 hf_17 hP hD hS hl
            exact absurd hm_18 (by omega)
          | succ n_16 ih_19 =>
            intro x_14 g_15 H locs ls hm_18 hf_17 hP hD hS hl
            refine lv_iload_n hx hb dX8_empty_54 rfl (lv_at hl 1 rfl) ?_
            refine lv_bipush (v := 64) hx hb dX8_empty_55 (by decide) ?_
            refine lv_icmp_ge (tgt := 73) hx hb dX8_empty_57 (by decide) (fun c_21 => ?_) (fun c_21 => ?_)
            · have hc_21 := o_le (by decide : (64 : Int32).toInt = 64) (rfl : x_14.toInt = x_14.toInt) c_21
              refine o_wq hQ ?_
              exact q_vret (rm := (Rm 0 0 0 0)) C hS (0, 0, g_4, g_5, g_3, g_2, g_15) ⟨hg_8, hg_9⟩ (q_subP hP [0, 1, 2, 3, 4, 5, 6] rfl) (hD.sub [0, 1, 2, 3, 4, 5, 6] (by decide) rfl) hroom.1 hroom.2 dX8_empty_73
            · have hc_21 := o_nle (by decide : (64 : Int32).toInt = 64) (rfl : x_14.toInt = x_14.toInt) c_21
              refine lv_aload_n hx hb dX8_empty_60 rfl (lv_at hl 0 rfl) ?_
              refine q_get (v := .ref k_threads_) C hP 0 4 rfl rfl inX8 (by decide) kF_RX8_24 rfl rfl dX8_empty_61 ?_
              refine lv_iload_n hx hb dX8_empty_64 rfl (lv_at hl 1 rfl) ?_
              refine lv_iconst (v := 0) hx hb dX8_empty_65 (by decide) ?_
              refine q_iast (g := upd g_15 x_14.toNatClampNeg 0) (w' := [(k, .inr (8, [.ref k_x_, .ref k_y_, .ref k_web_, .ref k_asks_, .ref k_threads_, .int 0, .int 0, .ref k_seen_])), (k_x_, .inl (cy 1, 8, .inl g_4)), (k_y_, .inl (cy 1, 8, .inl g_5)), (k_web_, .inl (cy 1, 8, .inl g_3)), (k_asks_, .inl (cy 1, 8, .inl g_2)), (k_threads_, .inl (cy 1, 64, .inl (upd g_15 x_14.toNatClampNeg 0))), (k_seen_, .inl (cy 1, 8, .inl k_seen))]) C hP hD hS 5 rfl (o_in (rfl : x_14.toInt = x_14.toInt) (by omega) (by omega)) rfl rfl dX8_empty_66 (fun H locs hP hD hS => ?_)
              generalize upd g_15 x_14.toNatClampNeg 0 = g_22 at hP hD 
              have hP : va_P D vwCl [(k, .inr (8, [.ref k_x_, .ref k_y_, .ref k_web_, .ref k_asks_, .ref k_threads_, .int 0, .int 0, .ref k_seen_])), (k_x_, .inl (cy 1, 8, .inl g_4)), (k_y_, .inl (cy 1, 8, .inl g_5)), (k_web_, .inl (cy 1, 8, .inl g_3)), (k_asks_, .inl (cy 1, 8, .inl g_2)), (k_threads_, .inl (cy 1, 64, .inl g_22)), (k_seen_, .inl (cy 1, 8, .inl k_seen))] H := hP
              have hD : va_D A [(k, .inr (8, [.ref k_x_, .ref k_y_, .ref k_web_, .ref k_asks_, .ref k_threads_, .int 0, .int 0, .ref k_seen_])), (k_x_, .inl (cy 1, 8, .inl g_4)), (k_y_, .inl (cy 1, 8, .inl g_5)), (k_web_, .inl (cy 1, 8, .inl g_3)), (k_asks_, .inl (cy 1, 8, .inl g_2)), (k_threads_, .inl (cy 1, 64, .inl g_22)), (k_seen_, .inl (cy 1, 8, .inl k_seen))] := hD
              obtain ⟨z_23, hz_23⟩ : ∃ z : Int32, z = x_14 + 1 := ⟨_, rfl⟩
              refine lv_iinc (v := z_23) (lv' := [(1, .int z_23), (0, .ref k)]) hx hb dX8_empty_67 hl (k := 1) rfl hz_23.symm (by decide) rfl (fun ls hl => ?_)
              have hz_23 := o_add hz_23 (rfl : x_14.toInt = x_14.toInt) (by decide : (1 : Int32).toInt = 1) (by omega) (by omega)
              refine lv_goto (tgt := 54) hx hb dX8_empty_70 (by decide) ?_
              exact ih_19 z_23 g_22 H locs ls (by omega) (by omega) hP hD hS (lv_sub hl [1, 0] rfl)
        exact lp_54_15 65 (0 : Int32) k_threads H locs ls (by have e0 : (0 : Int32).toInt = 0 := (by decide); omega) (by have e0 : (0 : Int32).toInt = 0 := (by decide); omega) hP hD hS (lv_sub hl [1, 0] rfl)
      · have hc_13 := o_nle (by decide : (8 : Int32).toInt = 8) (rfl : x_1.toInt = x_1.toInt) c_13
        refine lv_aload_n hx hb dX8_empty_18 rfl (lv_at hl 0 rfl) ?_
        refine q_get (v := .ref k_x_) C hP 0 0 rfl rfl inX8 (by decide) kF_RX8_9 rfl rfl dX8_empty_19 ?_
        refine lv_iload_n hx hb dX8_empty_22 rfl (lv_at hl 1 rfl) ?_
        refine lv_iconst (v := 0) hx hb dX8_empty_23 (by decide) ?_
        refine q_iast (g := upd g_4 x_1.toNatClampNeg 0) (w' := [(k, .inr (8, [.ref k_x_, .ref k_y_, .ref k_web_, .ref k_asks_, .ref k_threads_, .int 0, .int 0, .ref k_seen_])), (k_x_, .inl (cy 1, 8, .inl (upd g_4 x_1.toNatClampNeg 0))), (k_y_, .inl (cy 1, 8, .inl g_5)), (k_web_, .inl (cy 1, 8, .inl g_3)), (k_asks_, .inl (cy 1, 8, .inl g_2)), (k_threads_, .inl (cy 1, 64, .inl k_threads)), (k_seen_, .inl (cy 1, 8, .inl k_seen))]) C hP hD hS 1 rfl (o_in (rfl : x_1.toInt = x_1.toInt) (by omega) (by omega)) rfl rfl dX8_empty_24 (fun H locs hP hD hS => ?_)
        have Rg_24_0 := Rg.upd_in (k := x_1.toNatClampNeg) (v := 0) hg_8 (by decide) (by decide)
        generalize upd g_4 x_1.toNatClampNeg 0 = g_24 at hP hD Rg_24_0
        have hP : va_P D vwCl [(k, .inr (8, [.ref k_x_, .ref k_y_, .ref k_web_, .ref k_asks_, .ref k_threads_, .int 0, .int 0, .ref k_seen_])), (k_x_, .inl (cy 1, 8, .inl g_24)), (k_y_, .inl (cy 1, 8, .inl g_5)), (k_web_, .inl (cy 1, 8, .inl g_3)), (k_asks_, .inl (cy 1, 8, .inl g_2)), (k_threads_, .inl (cy 1, 64, .inl k_threads)), (k_seen_, .inl (cy 1, 8, .inl k_seen))] H := hP
        have hD : va_D A [(k, .inr (8, [.ref k_x_, .ref k_y_, .ref k_web_, .ref k_asks_, .ref k_threads_, .int 0, .int 0, .ref k_seen_])), (k_x_, .inl (cy 1, 8, .inl g_24)), (k_y_, .inl (cy 1, 8, .inl g_5)), (k_web_, .inl (cy 1, 8, .inl g_3)), (k_asks_, .inl (cy 1, 8, .inl g_2)), (k_threads_, .inl (cy 1, 64, .inl k_threads)), (k_seen_, .inl (cy 1, 8, .inl k_seen))] := hD
        refine lv_aload_n hx hb dX8_empty_25 rfl (lv_at hl 0 rfl) ?_
        refine q_get (v := .ref k_y_) C hP 0 1 rfl rfl inX8 (by decide) kF_RX8_15 rfl rfl dX8_empty_26 ?_
        refine lv_iload_n hx hb dX8_empty_29 rfl (lv_at hl 1 rfl) ?_
        refine lv_iconst (v := 0) hx hb dX8_empty_30 (by decide) ?_
        refine q_iast (g := upd g_5 x_1.toNatClampNeg 0) (w' := [(k, .inr (8, [.ref k_x_, .ref k_y_, .ref k_web_, .ref k_asks_, .ref k_threads_, .int 0, .int 0, .ref k_seen_])), (k_x_, .inl (cy 1, 8, .inl g_24)), (k_y_, .inl (cy 1, 8, .inl (upd g_5 x_1.toNatClampNeg 0))), (k_web_, .inl (cy 1, 8, .inl g_3)), (k_asks_, .inl (cy 1, 8, .inl g_2)), (k_threads_, .inl (cy 1, 64, .inl k_threads)), (k_seen_, .inl (cy 1, 8, .inl k_seen))]) C hP hD hS 2 rfl (o_in (rfl : x_1.toInt = x_1.toInt) (by omega) (by omega)) rfl rfl dX8_empty_31 (fun H locs hP hD hS => ?_)
        have Rg_25_0 := Rg.upd_in (k := x_1.toNatClampNeg) (v := 0) hg_9 (by decide) (by decide)
        generalize upd g_5 x_1.toNatClampNeg 0 = g_25 at hP hD Rg_25_0
        have hP : va_P D vwCl [(k, .inr (8, [.ref k_x_, .ref k_y_, .ref k_web_, .ref k_asks_, .ref k_threads_, .int 0, .int 0, .ref k_seen_])), (k_x_, .inl (cy 1, 8, .inl g_24)), (k_y_, .inl (cy 1, 8, .inl g_25)), (k_web_, .inl (cy 1, 8, .inl g_3)), (k_asks_, .inl (cy 1, 8, .inl g_2)), (k_threads_, .inl (cy 1, 64, .inl k_threads)), (k_seen_, .inl (cy 1, 8, .inl k_seen))] H := hP
        have hD : va_D A [(k, .inr (8, [.ref k_x_, .ref k_y_, .ref k_web_, .ref k_asks_, .ref k_threads_, .int 0, .int 0, .ref k_seen_])), (k_x_, .inl (cy 1, 8, .inl g_24)), (k_y_, .inl (cy 1, 8, .inl g_25)), (k_web_, .inl (cy 1, 8, .inl g_3)), (k_asks_, .inl (cy 1, 8, .inl g_2)), (k_threads_, .inl (cy 1, 64, .inl k_threads)), (k_seen_, .inl (cy 1, 8, .inl k_seen))] := hD
        refine lv_aload_n hx hb dX8_empty_32 rfl (lv_at hl 0 rfl) ?_
        refine q_get (v := .ref k_web_) C hP 0 2 rfl rfl inX8 (by decide) kF_RX8_18 rfl rfl dX8_empty_33 ?_
        refine lv_iload_n hx hb dX8_empty_36 rfl (lv_at hl 1 rfl) ?_
        refine lv_iconst (v := 0) hx hb dX8_empty_37 (by decide) ?_
        refine q_iast (g := upd g_3 x_1.toNatClampNeg 0) (w' := [(k, .inr (8, [.ref k_x_, .ref k_y_, .ref k_web_, .ref k_asks_, .ref k_threads_, .int 0, .int 0, .ref k_seen_])), (k_x_, .inl (cy 1, 8, .inl g_24)), (k_y_, .inl (cy 1, 8, .inl g_25)), (k_web_, .inl (cy 1, 8, .inl (upd g_3 x_1.toNatClampNeg 0))), (k_asks_, .inl (cy 1, 8, .inl g_2)), (k_threads_, .inl (cy 1, 64, .inl k_threads)), (k_seen_, .inl (cy 1, 8, .inl k_seen))]) C hP hD hS 3 rfl (o_in (rfl : x_1.toInt = x_1.toInt) (by omega) (by omega)) rfl rfl dX8_empty_38 (fun H locs hP hD hS => ?_)
        generalize upd g_3 x_1.toNatClampNeg 0 = g_26 at hP hD 
        have hP : va_P D vwCl [(k, .inr (8, [.ref k_x_, .ref k_y_, .ref k_web_, .ref k_asks_, .ref k_threads_, .int 0, .int 0, .ref k_seen_])), (k_x_, .inl (cy 1, 8, .inl g_24)), (k_y_, .inl (cy 1, 8, .inl g_25)), (k_web_, .inl (cy 1, 8, .inl g_26)), (k_asks_, .inl (cy 1, 8, .inl g_2)), (k_threads_, .inl (cy 1, 64, .inl k_threads)), (k_seen_, .inl (cy 1, 8, .inl k_seen))] H := hP
        have hD : va_D A [(k, .inr (8, [.ref k_x_, .ref k_y_, .ref k_web_, .ref k_asks_, .ref k_threads_, .int 0, .int 0, .ref k_seen_])), (k_x_, .inl (cy 1, 8, .inl g_24)), (k_y_, .inl (cy 1, 8, .inl g_25)), (k_web_, .inl (cy 1, 8, .inl g_26)), (k_asks_, .inl (cy 1, 8, .inl g_2)), (k_threads_, .inl (cy 1, 64, .inl k_threads)), (k_seen_, .inl (cy 1, 8, .inl k_seen))] := hD
        refine lv_aload_n hx hb dX8_empty_39 rfl (lv_at hl 0 rfl) ?_
        refine q_get (v := .ref k_asks_) C hP 0 3 rfl rfl inX8 (by decide) kF_RX8_21 rfl rfl dX8_empty_40 ?_
        refine lv_iload_n hx hb dX8_empty_43 rfl (lv_at hl 1 rfl) ?_
        refine lv_iconst (v := 0) hx hb dX8_empty_44 (by decide) ?_
        refine q_iast (g := upd g_2 x_1.toNatClampNeg 0) (w' := [(k, .inr (8, [.ref k_x_, .ref k_y_, .ref k_web_, .ref k_asks_, .ref k_threads_, .int 0, .int 0, .ref k_seen_])), (k_x_, .inl (cy 1, 8, .inl g_24)), (k_y_, .inl (cy 1, 8, .inl g_25)), (k_web_, .inl (cy 1, 8, .inl g_26)), (k_asks_, .inl (cy 1, 8, .inl (upd g_2 x_1.toNatClampNeg 0))), (k_threads_, .inl (cy 1, 64, .inl k_threads)), (k_seen_, .inl (cy 1, 8, .inl k_seen))]) C hP hD hS 4 rfl (o_in (rfl : x_1.toInt = x_1.toInt) (by omega) (by omega)) rfl rfl dX8_empty_45 (fun H locs hP hD hS => ?_)
        generalize upd g_2 x_1.toNatClampNeg 0 = g_27 at hP hD 
        have hP : va_P D vwCl [(k, .inr (8, [.ref k_x_, .ref k_y_, .ref k_web_, .ref k_asks_, .ref k_threads_, .int 0, .int 0, .ref k_seen_])), (k_x_, .inl (cy 1, 8, .inl g_24)), (k_y_, .inl (cy 1, 8, .inl g_25)), (k_web_, .inl (cy 1, 8, .inl g_26)), (k_asks_, .inl (cy 1, 8, .inl g_27)), (k_threads_, .inl (cy 1, 64, .inl k_threads)), (k_seen_, .inl (cy 1, 8, .inl k_seen))] H := hP
        have hD : va_D A [(k, .inr (8, [.ref k_x_, .ref k_y_, .ref k_web_, .ref k_asks_, .ref k_threads_, .int 0, .int 0, .ref k_seen_])), (k_x_, .inl (cy 1, 8, .inl g_24)), (k_y_, .inl (cy 1, 8, .inl g_25)), (k_web_, .inl (cy 1, 8, .inl g_26)), (k_asks_, .inl (cy 1, 8, .inl g_27)), (k_threads_, .inl (cy 1, 64, .inl k_threads)), (k_seen_, .inl (cy 1, 8, .inl k_seen))] := hD
        obtain ⟨z_28, hz_28⟩ : ∃ z : Int32, z = x_1 + 1 := ⟨_, rfl⟩
        refine lv_iinc (v := z_28) (lv' := [(1, .int z_28), (0, .ref k)]) hx hb dX8_empty_46 hl (k := 1) rfl hz_28.symm (by decide) rfl (fun ls hl => ?_)
        have hz_28 := o_add hz_28 (rfl : x_1.toInt = x_1.toInt) (by decide : (1 : Int32).toInt = 1) (by omega) (by omega)
        refine lv_goto (tgt := 12) hx hb dX8_empty_49 (by decide) ?_
        exact ih_11 z_28 g_27 g_26 g_24 g_25 H locs ls (by omega) (by omega) Rg_24_0 Rg_25_0 hP hD hS (lv_sub hl [1, 0] rfl)
  exact lp_12_5 9 (0 : Int32) k_asks k_web k_x k_y H locs ls (by have e0 : (0 : Int32).toInt = 0 := (by decide); omega) (by have e0 : (0 : Int32).toInt = 0 := (by decide); omega) hR0 hR1 hP hD hS (lv_sub hl [1, 0] rfl)
theorem o_shEmpty (l : Launch) (D : va_G) (cy : Nat → ClassId) (k : Nat) (k_x_ : Nat) (k_y_ : Nat) (k_web_ : Nat) (k_asks_ : Nat) (k_threads_ : Nat) (k_today : Int32) (k_day : Int32) (k_seen_ : Nat) (k_x : Nat → Int32) (k_y : Nat → Int32) (k_web : Nat → Int32) (k_asks : Nat → Int32) (k_threads : Nat → Int32) (k_seen : Nat → Int32) (sz : Nat) (hR0 : Rg k_x 0 8 0 5) (hR1 : Rg k_y 0 8 0 5) : MV l yX8_empty cX8_empty 2 (Rm 0 0 0 0) D cy [.ref k] sz [(k, .inr (8, [.ref k_x_, .ref k_y_, .ref k_web_, .ref k_asks_, .ref k_threads_, .int k_today, .int k_day, .ref k_seen_])), (k_x_, .inl (cy 1, 8, .inl k_x)), (k_y_, .inl (cy 1, 8, .inl k_y)), (k_web_, .inl (cy 1, 8, .inl k_web)), (k_asks_, .inl (cy 1, 8, .inl k_asks)), (k_threads_, .inl (cy 1, 64, .inl k_threads)), (k_seen_, .inl (cy 1, 8, .inl k_seen))] (fun u : Int32 × Int32 × (Nat → Int32) × (Nat → Int32) × (Nat → Int32) × (Nat → Int32) × (Nat → Int32) => (Rg u.2.2.1 0 8 0 5) ∧ (Rg u.2.2.2.1 0 8 0 5)) (fun u : Int32 × Int32 × (Nat → Int32) × (Nat → Int32) × (Nat → Int32) × (Nat → Int32) × (Nat → Int32) => [(k, .inr (8, [.ref k_x_, .ref k_y_, .ref k_web_, .ref k_asks_, .ref k_threads_, .int u.1, .int u.2.1, .ref k_seen_])), (k_x_, .inl (cy 1, 8, .inl u.2.2.1)), (k_y_, .inl (cy 1, 8, .inl u.2.2.2.1)), (k_web_, .inl (cy 1, 8, .inl u.2.2.2.2.1)), (k_asks_, .inl (cy 1, 8, .inl u.2.2.2.2.2.1)), (k_threads_, .inl (cy 1, 64, .inl u.2.2.2.2.2.2)), (k_seen_, .inl (cy 1, 8, .inl k_seen))]) := by
  refine MV.enter (by decide) (Nat.le_of_ble_eq_true rfl) ?_
  intro p e s m below meth c ls A hsz hAe C hP hD hS hl
  exact b_o_shEmpty l D cy k k_x_ k_y_ k_web_ k_asks_ k_threads_ k_today k_day k_seen_ k_x k_y k_web k_asks k_threads k_seen hR0 hR1 ⟨Nat.le_of_ble_eq_true rfl, Nat.le_of_ble_eq_true rfl⟩ C rfl _ _ ls hP hD hS hl
set_option maxHeartbeats 4000000 in
set_option maxRecDepth 100000 in
theorem b_o_shCopy (l : Launch) (D : va_G) (cy : Nat → ClassId) (k : Nat) (o : Nat) (k_x_ : Nat) (k_y_ : Nat) (k_web_ : Nat) (k_asks_ : Nat) (k_threads_ : Nat) (k_today : Int32) (k_day : Int32) (k_seen_ : Nat) (k_x : Nat → Int32) (k_y : Nat → Int32) (k_web : Nat → Int32) (k_asks : Nat → Int32) (k_threads : Nat → Int32) (k_seen : Nat → Int32) (o_x_ : Nat) (o_y_ : Nat) (o_web_ : Nat) (o_asks_ : Nat) (o_threads_ : Nat) (o_today : Int32) (o_day : Int32) (o_seen_ : Nat) (o_x : Nat → Int32) (o_y : Nat → Int32) (o_web : Nat → Int32) (o_asks : Nat → Int32) (o_threads : Nat → Int32) (o_seen : Nat → Int32) (hR0 : Rg k_x 0 8 0 5) (hR1 : Rg k_y 0 8 0 5) (hR2 : Rg o_x 0 8 0 5) (hR3 : Rg o_y 0 8 0 5) {p : Program} {e : Env} {s : State} {m : MethodId} {args : Array Value} {below : List Frame} {meth : Method} {c : Code} {A : Nat → Prop} {Q : State → Prop} {cells slots : Nat} (hroom : cells ≤ ((Rm 1 60 0 0)).cells ∧ slots ≤ ((Rm 1 60 0 0)).slots) (C : Cx p s m args meth c cX8_copyFrom 2 none RX8 "copyFrom" D cy A) (hQ : Q = MQ below (va_Qv (fun u : Int32 × Int32 × (Nat → Int32) × (Nat → Int32) × (Nat → Int32) × (Nat → Int32) × (Nat → Int32) => (Rg u.2.2.1 0 8 0 5) ∧ (Rg u.2.2.2.1 0 8 0 5)) (Bx D A (fun u : Int32 × Int32 × (Nat → Int32) × (Nat → Int32) × (Nat → Int32) × (Nat → Int32) × (Nat → Int32) => [(k, .inr (8, [.ref k_x_, .ref k_y_, .ref k_web_, .ref k_asks_, .ref k_threads_, .int u.1, .int u.2.1, .ref k_seen_])), (k_x_, .inl (cy 1, 8, .inl u.2.2.1)), (k_y_, .inl (cy 1, 8, .inl u.2.2.2.1)), (k_web_, .inl (cy 1, 8, .inl u.2.2.2.2.1)), (k_asks_, .inl (cy 1, 8, .inl u.2.2.2.2.2.1)), (k_threads_, .inl (cy 1, 64, .inl u.2.2.2.2.2.2)), (k_seen_, .inl (cy 1, 8, .inl k_seen)), (o, .inr (8, [.ref o_x_, .ref o_y_, .ref o_web_, .ref o_asks_, .ref o_threads_, .int o_today, .int o_day, .ref o_seen_])), (o_x_, .inl (cy 1, 8, .inl o_x)), (o_y_, .inl (cy 1, 8, .inl o_y)), (o_web_, .inl (cy 1, 8, .inl o_web)), (o_asks_, .inl (cy 1, 8, .inl o_asks)), (o_threads_, .inl (cy 1, 64, .inl o_threads)), (o_seen_, .inl (cy 1, 8, .inl o_seen))])) A) args s ((Rm 1 60 0 0)).cells ((Rm 1 60 0 0)).slots A) (H : Heap) (locs : List Loc) (ls : Array Slot) (hP : va_P D vwCl [(k, .inr (8, [.ref k_x_, .ref k_y_, .ref k_web_, .ref k_asks_, .ref k_threads_, .int k_today, .int k_day, .ref k_seen_])), (k_x_, .inl (cy 1, 8, .inl k_x)), (k_y_, .inl (cy 1, 8, .inl k_y)), (k_web_, .inl (cy 1, 8, .inl k_web)), (k_asks_, .inl (cy 1, 8, .inl k_asks)), (k_threads_, .inl (cy 1, 64, .inl k_threads)), (k_seen_, .inl (cy 1, 8, .inl k_seen)), (o, .inr (8, [.ref o_x_, .ref o_y_, .ref o_web_, .ref o_asks_, .ref o_threads_, .int o_today, .int o_day, .ref o_seen_])), (o_x_, .inl (cy 1, 8, .inl o_x)), (o_y_, .inl (cy 1, 8, .inl o_y)), (o_web_, .inl (cy 1, 8, .inl o_web)), (o_asks_, .inl (cy 1, 8, .inl o_asks)), (o_threads_, .inl (cy 1, 64, .inl o_threads)), (o_seen_, .inl (cy 1, 8, .inl o_seen))] H) (hD : va_D A [(k, .inr (8, [.ref k_x_, .ref k_y_, .ref k_web_, .ref k_asks_, .ref k_threads_, .int k_today, .int k_day, .ref k_seen_])), (k_x_, .inl (cy 1, 8, .inl k_x)), (k_y_, .inl (cy 1, 8, .inl k_y)), (k_web_, .inl (cy 1, 8, .inl k_web)), (k_asks_, .inl (cy 1, 8, .inl k_asks)), (k_threads_, .inl (cy 1, 64, .inl k_threads)), (k_seen_, .inl (cy 1, 8, .inl k_seen)), (o, .inr (8, [.ref o_x_, .ref o_y_, .ref o_web_, .ref o_asks_, .ref o_threads_, .int o_today, .int o_day, .ref o_seen_])), (o_x_, .inl (cy 1, 8, .inl o_x)), (o_y_, .inl (cy 1, 8, .inl o_y)), (o_web_, .inl (cy 1, 8, .inl o_web)), (o_asks_, .inl (cy 1, 8, .inl o_asks)), (o_threads_, .inl (cy 1, 64, .inl o_threads)), (o_seen_, .inl (cy 1, 8, .inl o_seen))]) (hS : va_S A s.heap H locs) (hl : lv_has ls 2 [(0, .ref k), (1, .ref o)]) : W p l e (Rm 1 60 0 0) s m args below meth c H locs cells slots Q (F0 m 0 ls []) := by
  have hx := C.1
  have hb := C.2.1
  refine lv_aload_n hx hb dX8_copyFrom_0 rfl (lv_at hl 0 rfl) ?_
  refine lv_aload_n hx hb dX8_copyFrom_1 rfl (lv_at hl 1 rfl) ?_
  refine q_get (v := .int o_today) C hP 7 5 rfl rfl inX8 (by decide) kF_RX8_27 rfl rfl dX8_copyFrom_2 ?_
  refine q_put (v := .int o_today) (w' := [(k, .inr (8, [.ref k_x_, .ref k_y_, .ref k_web_, .ref k_asks_, .ref k_threads_, .int o_today, .int k_day, .ref k_seen_])), (k_x_, .inl (cy 1, 8, .inl k_x)), (k_y_, .inl (cy 1, 8, .inl k_y)), (k_web_, .inl (cy 1, 8, .inl k_web)), (k_asks_, .inl (cy 1, 8, .inl k_asks)), (k_threads_, .inl (cy 1, 64, .inl k_threads)), (k_seen_, .inl (cy 1, 8, .inl k_seen)), (o, .inr (8, [.ref o_x_, .ref o_y_, .ref o_web_, .ref o_asks_, .ref o_threads_, .int o_today, .int o_day, .ref o_seen_])), (o_x_, .inl (cy 1, 8, .inl o_x)), (o_y_, .inl (cy 1, 8, .inl o_y)), (o_web_, .inl (cy 1, 8, .inl o_web)), (o_asks_, .inl (cy 1, 8, .inl o_asks)), (o_threads_, .inl (cy 1, 64, .inl o_threads)), (o_seen_, .inl (cy 1, 8, .inl o_seen))]) (ty := .int) C hP hD hS 0 5 rfl rfl inX8 tyX8 tyX8_ok nmX8 (by decide) kF_RX8_27 rfl rfl rfl rfl rfl (Nat.le_of_ble_eq_true rfl) rfl dX8_copyFrom_5 (fun H locs hP hD hS => ?_)
  refine lv_aload_n hx hb dX8_copyFrom_8 rfl (lv_at hl 0 rfl) ?_
  refine lv_aload_n hx hb dX8_copyFrom_9 rfl (lv_at hl 1 rfl) ?_
  refine q_get (v := .int o_day) C hP 7 6 rfl rfl inX8 (by decide) kF_RX8_31 rfl rfl dX8_copyFrom_10 ?_
  refine q_put (v := .int o_day) (w' := [(k, .inr (8, [.ref k_x_, .ref k_y_, .ref k_web_, .ref k_asks_, .ref k_threads_, .int o_today, .int o_day, .ref k_seen_])), (k_x_, .inl (cy 1, 8, .inl k_x)), (k_y_, .inl (cy 1, 8, .inl k_y)), (k_web_, .inl (cy 1, 8, .inl k_web)), (k_asks_, .inl (cy 1, 8, .inl k_asks)), (k_threads_, .inl (cy 1, 64, .inl k_threads)), (k_seen_, .inl (cy 1, 8, .inl k_seen)), (o, .inr (8, [.ref o_x_, .ref o_y_, .ref o_web_, .ref o_asks_, .ref o_threads_, .int o_today, .int o_day, .ref o_seen_])), (o_x_, .inl (cy 1, 8, .inl o_x)), (o_y_, .inl (cy 1, 8, .inl o_y)), (o_web_, .inl (cy 1, 8, .inl o_web)), (o_asks_, .inl (cy 1, 8, .inl o_asks)), (o_threads_, .inl (cy 1, 64, .inl o_threads)), (o_seen_, .inl (cy 1, 8, .inl o_seen))]) (ty := .int) C hP hD hS 0 6 rfl rfl inX8 tyX8 tyX8_ok nmX8 (by decide) kF_RX8_31 rfl rfl rfl rfl rfl (Nat.le_of_ble_eq_true rfl) rfl dX8_copyFrom_13 (fun H locs hP hD hS => ?_)
  refine lv_aload_n hx hb dX8_copyFrom_16 rfl (lv_at hl 1 rfl) ?_
  refine q_get (v := .ref o_x_) C hP 7 0 rfl rfl inX8 (by decide) kF_RX8_9 rfl rfl dX8_copyFrom_17 ?_
  refine lv_iconst (v := 0) hx hb dX8_copyFrom_20 (by decide) ?_
  refine lv_aload_n hx hb dX8_copyFrom_21 rfl (lv_at hl 0 rfl) ?_
  refine q_get (v := .ref k_x_) C hP 0 0 rfl rfl inX8 (by decide) kF_RX8_9 rfl rfl dX8_copyFrom_22 ?_
  refine lv_iconst (v := 0) hx hb dX8_copyFrom_25 (by decide) ?_
  refine lv_bipush (v := 8) hx hb dX8_copyFrom_26 (by decide) ?_
  refine q_copy (g' := va_cpy o_x k_x 0 0 8) (w' := [(k, .inr (8, [.ref k_x_, .ref k_y_, .ref k_web_, .ref k_asks_, .ref k_threads_, .int o_today, .int o_day, .ref k_seen_])), (k_x_, .inl (cy 1, 8, .inl (va_cpy o_x k_x 0 0 8))), (k_y_, .inl (cy 1, 8, .inl k_y)), (k_web_, .inl (cy 1, 8, .inl k_web)), (k_asks_, .inl (cy 1, 8, .inl k_asks)), (k_threads_, .inl (cy 1, 64, .inl k_threads)), (k_seen_, .inl (cy 1, 8, .inl k_seen)), (o, .inr (8, [.ref o_x_, .ref o_y_, .ref o_web_, .ref o_asks_, .ref o_threads_, .int o_today, .int o_day, .ref o_seen_])), (o_x_, .inl (cy 1, 8, .inl o_x)), (o_y_, .inl (cy 1, 8, .inl o_y)), (o_web_, .inl (cy 1, 8, .inl o_web)), (o_asks_, .inl (cy 1, 8, .inl o_asks)), (o_threads_, .inl (cy 1, 64, .inl o_threads)), (o_seen_, .inl (cy 1, 8, .inl o_seen))]) C hl.1 hP hD hS 8 1 rfl rfl kM_RX8_37 (by decide) (by decide) (by decide) (by decide) (by decide) (Nat.le_of_ble_eq_true rfl) (Nat.le_of_ble_eq_true rfl) rfl rfl dX8_copyFrom_28 (fun H locs hP hD hS => ?_)
  have Rg_1_0 := Rg.cpy (sp := 0) (dp := 0) (n := 8) (f := o_x) (hf := hR2) hR0
  generalize va_cpy o_x k_x 0 0 8 = g_1 at hP hD Rg_1_0
  have hP : va_P D vwCl [(k, .inr (8, [.ref k_x_, .ref k_y_, .ref k_web_, .ref k_asks_, .ref k_threads_, .int o_today, .int o_day, .ref k_seen_])), (k_x_, .inl (cy 1, 8, .inl g_1)), (k_y_, .inl (cy 1, 8, .inl k_y)), (k_web_, .inl (cy 1, 8, .inl k_web)), (k_asks_, .inl (cy 1, 8, .inl k_asks)), (k_threads_, .inl (cy 1, 64, .inl k_threads)), (k_seen_, .inl (cy 1, 8, .inl k_seen)), (o, .inr (8, [.ref o_x_, .ref o_y_, .ref o_web_, .ref o_asks_, .ref o_threads_, .int o_today, .int o_day, .ref o_seen_])), (o_x_, .inl (cy 1, 8, .inl o_x)), (o_y_, .inl (cy 1, 8, .inl o_y)), (o_web_, .inl (cy 1, 8, .inl o_web)), (o_asks_, .inl (cy 1, 8, .inl o_asks)), (o_threads_, .inl (cy 1, 64, .inl o_threads)), (o_seen_, .inl (cy 1, 8, .inl o_seen))] H := hP
  have hD : va_D A [(k, .inr (8, [.ref k_x_, .ref k_y_, .ref k_web_, .ref k_asks_, .ref k_threads_, .int o_today, .int o_day, .ref k_seen_])), (k_x_, .inl (cy 1, 8, .inl g_1)), (k_y_, .inl (cy 1, 8, .inl k_y)), (k_web_, .inl (cy 1, 8, .inl k_web)), (k_asks_, .inl (cy 1, 8, .inl k_asks)), (k_threads_, .inl (cy 1, 64, .inl k_threads)), (k_seen_, .inl (cy 1, 8, .inl k_seen)), (o, .inr (8, [.ref o_x_, .ref o_y_, .ref o_web_, .ref o_asks_, .ref o_threads_, .int o_today, .int o_day, .ref o_seen_])), (o_x_, .inl (cy 1, 8, .inl o_x)), (o_y_, .inl (cy 1, 8, .inl o_y)), (o_web_, .inl (cy 1, 8, .inl o_web)), (o_asks_, .inl (cy 1, 8, .inl o_asks)), (o_threads_, .inl (cy 1, 64, .inl o_threads)), (o_seen_, .inl (cy 1, 8, .inl o_seen))] := hD
  refine lv_aload_n hx hb dX8_copyFrom_31 rfl (lv_at hl 1 rfl) ?_
  refine q_get (v := .ref o_y_) C hP 7 1 rfl rfl inX8 (by decide) kF_RX8_15 rfl rfl dX8_copyFrom_32 ?_
  refine lv_iconst (v := 0) hx hb dX8_copyFrom_35 (by decide) ?_
  refine lv_aload_n hx hb dX8_copyFrom_36 rfl (lv_at hl 0 rfl) ?_
  refine q_get (v := .ref k_y_) C hP 0 1 rfl rfl inX8 (by decide) kF_RX8_15 rfl rfl dX8_copyFrom_37 ?_
  refine lv_iconst (v := 0) hx hb dX8_copyFrom_40 (by decide) ?_
  refine lv_bipush (v := 8) hx hb dX8_copyFrom_41 (by decide) ?_
  refine q_copy (g' := va_cpy o_y k_y 0 0 8) (w' := [(k, .inr (8, [.ref k_x_, .ref k_y_, .ref k_web_, .ref k_asks_, .ref k_threads_, .int o_today, .int o_day, .ref k_seen_])), (k_x_, .inl (cy 1, 8, .inl g_1)), (k_y_, .inl (cy 1, 8, .inl (va_cpy o_y k_y 0 0 8))), (k_web_, .inl (cy 1, 8, .inl k_web)), (k_asks_, .inl (cy 1, 8, .inl k_asks)), (k_threads_, .inl (cy 1, 64, .inl k_threads)), (k_seen_, .inl (cy 1, 8, .inl k_seen)), (o, .inr (8, [.ref o_x_, .ref o_y_, .ref o_web_, .ref o_asks_, .ref o_threads_, .int o_today, .int o_day, .ref o_seen_])), (o_x_, .inl (cy 1, 8, .inl o_x)), (o_y_, .inl (cy 1, 8, .inl o_y)), (o_web_, .inl (cy 1, 8, .inl o_web)), (o_asks_, .inl (cy 1, 8, .inl o_asks)), (o_threads_, .inl (cy 1, 64, .inl o_threads)), (o_seen_, .inl (cy 1, 8, .inl o_seen))]) C hl.1 hP hD hS 9 2 rfl rfl kM_RX8_37 (by decide) (by decide) (by decide) (by decide) (by decide) (Nat.le_of_ble_eq_true rfl) (Nat.le_of_ble_eq_true rfl) rfl rfl dX8_copyFrom_43 (fun H locs hP hD hS => ?_)
  have Rg_2_0 := Rg.cpy (sp := 0) (dp := 0) (n := 8) (f := o_y) (hf := hR3) hR1
  generalize va_cpy o_y k_y 0 0 8 = g_2 at hP hD Rg_2_0
  have hP : va_P D vwCl [(k, .inr (8, [.ref k_x_, .ref k_y_, .ref k_web_, .ref k_asks_, .ref k_threads_, .int o_today, .int o_day, .ref k_seen_])), (k_x_, .inl (cy 1, 8, .inl g_1)), (k_y_, .inl (cy 1, 8, .inl g_2)), (k_web_, .inl (cy 1, 8, .inl k_web)), (k_asks_, .inl (cy 1, 8, .inl k_asks)), (k_threads_, .inl (cy 1, 64, .inl k_threads)), (k_seen_, .inl (cy 1, 8, .inl k_seen)), (o, .inr (8, [.ref o_x_, .ref o_y_, .ref o_web_, .ref o_asks_, .ref o_threads_, .int o_today, .int o_day, .ref o_seen_])), (o_x_, .inl (cy 1, 8, .inl o_x)), (o_y_, .inl (cy 1, 8, .inl o_y)), (o_web_, .inl (cy 1, 8, .inl o_web)), (o_asks_, .inl (cy 1, 8, .inl o_asks)), (o_threads_, .inl (cy 1, 64, .inl o_threads)), (o_seen_, .inl (cy 1, 8, .inl o_seen))] H := hP
  have hD : va_D A [(k, .inr (8, [.ref k_x_, .ref k_y_, .ref k_web_, .ref k_asks_, .ref k_threads_, .int o_today, .int o_day, .ref k_seen_])), (k_x_, .inl (cy 1, 8, .inl g_1)), (k_y_, .inl (cy 1, 8, .inl g_2)), (k_web_, .inl (cy 1, 8, .inl k_web)), (k_asks_, .inl (cy 1, 8, .inl k_asks)), (k_threads_, .inl (cy 1, 64, .inl k_threads)), (k_seen_, .inl (cy 1, 8, .inl k_seen)), (o, .inr (8, [.ref o_x_, .ref o_y_, .ref o_web_, .ref o_asks_, .ref o_threads_, .int o_today, .int o_day, .ref o_seen_])), (o_x_, .inl (cy 1, 8, .inl o_x)), (o_y_, .inl (cy 1, 8, .inl o_y)), (o_web_, .inl (cy 1, 8, .inl o_web)), (o_asks_, .inl (cy 1, 8, .inl o_asks)), (o_threads_, .inl (cy 1, 64, .inl o_threads)), (o_seen_, .inl (cy 1, 8, .inl o_seen))] := hD
  refine lv_aload_n hx hb dX8_copyFrom_46 rfl (lv_at hl 1 rfl) ?_
  refine q_get (v := .ref o_web_) C hP 7 2 rfl rfl inX8 (by decide) kF_RX8_18 rfl rfl dX8_copyFrom_47 ?_
  refine lv_iconst (v := 0) hx hb dX8_copyFrom_50 (by decide) ?_
  refine lv_aload_n hx hb dX8_copyFrom_51 rfl (lv_at hl 0 rfl) ?_
  refine q_get (v := .ref k_web_) C hP 0 2 rfl rfl inX8 (by decide) kF_RX8_18 rfl rfl dX8_copyFrom_52 ?_
  refine lv_iconst (v := 0) hx hb dX8_copyFrom_55 (by decide) ?_
  refine lv_bipush (v := 8) hx hb dX8_copyFrom_56 (by decide) ?_
  refine q_copy (g' := va_cpy o_web k_web 0 0 8) (w' := [(k, .inr (8, [.ref k_x_, .ref k_y_, .ref k_web_, .ref k_asks_, .ref k_threads_, .int o_today, .int o_day, .ref k_seen_])), (k_x_, .inl (cy 1, 8, .inl g_1)), (k_y_, .inl (cy 1, 8, .inl g_2)), (k_web_, .inl (cy 1, 8, .inl (va_cpy o_web k_web 0 0 8))), (k_asks_, .inl (cy 1, 8, .inl k_asks)), (k_threads_, .inl (cy 1, 64, .inl k_threads)), (k_seen_, .inl (cy 1, 8, .inl k_seen)), (o, .inr (8, [.ref o_x_, .ref o_y_, .ref o_web_, .ref o_asks_, .ref o_threads_, .int o_today, .int o_day, .ref o_seen_])), (o_x_, .inl (cy 1, 8, .inl o_x)), (o_y_, .inl (cy 1, 8, .inl o_y)), (o_web_, .inl (cy 1, 8, .inl o_web)), (o_asks_, .inl (cy 1, 8, .inl o_asks)), (o_threads_, .inl (cy 1, 64, .inl o_threads)), (o_seen_, .inl (cy 1, 8, .inl o_seen))]) C hl.1 hP hD hS 10 3 rfl rfl kM_RX8_37 (by decide) (by decide) (by decide) (by decide) (by decide) (Nat.le_of_ble_eq_true rfl) (Nat.le_of_ble_eq_true rfl) rfl rfl dX8_copyFrom_58 (fun H locs hP hD hS => ?_)
  generalize va_cpy o_web k_web 0 0 8 = g_3 at hP hD 
  have hP : va_P D vwCl [(k, .inr (8, [.ref k_x_, .ref k_y_, .ref k_web_, .ref k_asks_, .ref k_threads_, .int o_today, .int o_day, .ref k_seen_])), (k_x_, .inl (cy 1, 8, .inl g_1)), (k_y_, .inl (cy 1, 8, .inl g_2)), (k_web_, .inl (cy 1, 8, .inl g_3)), (k_asks_, .inl (cy 1, 8, .inl k_asks)), (k_threads_, .inl (cy 1, 64, .inl k_threads)), (k_seen_, .inl (cy 1, 8, .inl k_seen)), (o, .inr (8, [.ref o_x_, .ref o_y_, .ref o_web_, .ref o_asks_, .ref o_threads_, .int o_today, .int o_day, .ref o_seen_])), (o_x_, .inl (cy 1, 8, .inl o_x)), (o_y_, .inl (cy 1, 8, .inl o_y)), (o_web_, .inl (cy 1, 8, .inl o_web)), (o_asks_, .inl (cy 1, 8, .inl o_asks)), (o_threads_, .inl (cy 1, 64, .inl o_threads)), (o_seen_, .inl (cy 1, 8, .inl o_seen))] H := hP
  have hD : va_D A [(k, .inr (8, [.ref k_x_, .ref k_y_, .ref k_web_, .ref k_asks_, .ref k_threads_, .int o_today, .int o_day, .ref k_seen_])), (k_x_, .inl (cy 1, 8, .inl g_1)), (k_y_, .inl (cy 1, 8, .inl g_2)), (k_web_, .inl (cy 1, 8, .inl g_3)), (k_asks_, .inl (cy 1, 8, .inl k_asks)), (k_threads_, .inl (cy 1, 64, .inl k_threads)), (k_seen_, .inl (cy 1, 8, .inl k_seen)), (o, .inr (8, [.ref o_x_, .ref o_y_, .ref o_web_, .ref o_asks_, .ref o_threads_, .int o_today, .int o_day, .ref o_seen_])), (o_x_, .inl (cy 1, 8, .inl o_x)), (o_y_, .inl (cy 1, 8, .inl o_y)), (o_web_, .inl (cy 1, 8, .inl o_web)), (o_asks_, .inl (cy 1, 8, .inl o_asks)), (o_threads_, .inl (cy 1, 64, .inl o_threads)), (o_seen_, .inl (cy 1, 8, .inl o_seen))] := hD
  refine lv_aload_n hx hb dX8_copyFrom_61 rfl (lv_at hl 1 rfl) ?_
  refine q_get (v := .ref o_asks_) C hP 7 3 rfl rfl inX8 (by decide) kF_RX8_21 rfl rfl dX8_copyFrom_62 ?_
  refine lv_iconst (v := 0) hx hb dX8_copyFrom_65 (by decide) ?_
  refine lv_aload_n hx hb dX8_copyFrom_66 rfl (lv_at hl 0 rfl) ?_
  refine q_get (v := .ref k_asks_) C hP 0 3 rfl rfl inX8 (by decide) kF_RX8_21 rfl rfl dX8_copyFrom_67 ?_
  refine lv_iconst (v := 0) hx hb dX8_copyFrom_70 (by decide) ?_
  refine lv_bipush (v := 8) hx hb dX8_copyFrom_71 (by decide) ?_
  refine q_copy (g' := va_cpy o_asks k_asks 0 0 8) (w' := [(k, .inr (8, [.ref k_x_, .ref k_y_, .ref k_web_, .ref k_asks_, .ref k_threads_, .int o_today, .int o_day, .ref k_seen_])), (k_x_, .inl (cy 1, 8, .inl g_1)), (k_y_, .inl (cy 1, 8, .inl g_2)), (k_web_, .inl (cy 1, 8, .inl g_3)), (k_asks_, .inl (cy 1, 8, .inl (va_cpy o_asks k_asks 0 0 8))), (k_threads_, .inl (cy 1, 64, .inl k_threads)), (k_seen_, .inl (cy 1, 8, .inl k_seen)), (o, .inr (8, [.ref o_x_, .ref o_y_, .ref o_web_, .ref o_asks_, .ref o_threads_, .int o_today, .int o_day, .ref o_seen_])), (o_x_, .inl (cy 1, 8, .inl o_x)), (o_y_, .inl (cy 1, 8, .inl o_y)), (o_web_, .inl (cy 1, 8, .inl o_web)), (o_asks_, .inl (cy 1, 8, .inl o_asks)), (o_threads_, .inl (cy 1, 64, .inl o_threads)), (o_seen_, .inl (cy 1, 8, .inl o_seen))]) C hl.1 hP hD hS 11 4 rfl rfl kM_RX8_37 (by decide) (by decide) (by decide) (by decide) (by decide) (Nat.le_of_ble_eq_true rfl) (Nat.le_of_ble_eq_true rfl) rfl rfl dX8_copyFrom_73 (fun H locs hP hD hS => ?_)
  generalize va_cpy o_asks k_asks 0 0 8 = g_4 at hP hD 
  have hP : va_P D vwCl [(k, .inr (8, [.ref k_x_, .ref k_y_, .ref k_web_, .ref k_asks_, .ref k_threads_, .int o_today, .int o_day, .ref k_seen_])), (k_x_, .inl (cy 1, 8, .inl g_1)), (k_y_, .inl (cy 1, 8, .inl g_2)), (k_web_, .inl (cy 1, 8, .inl g_3)), (k_asks_, .inl (cy 1, 8, .inl g_4)), (k_threads_, .inl (cy 1, 64, .inl k_threads)), (k_seen_, .inl (cy 1, 8, .inl k_seen)), (o, .inr (8, [.ref o_x_, .ref o_y_, .ref o_web_, .ref o_asks_, .ref o_threads_, .int o_today, .int o_day, .ref o_seen_])), (o_x_, .inl (cy 1, 8, .inl o_x)), (o_y_, .inl (cy 1, 8, .inl o_y)), (o_web_, .inl (cy 1, 8, .inl o_web)), (o_asks_, .inl (cy 1, 8, .inl o_asks)), (o_threads_, .inl (cy 1, 64, .inl o_threads)), (o_seen_, .inl (cy 1, 8, .inl o_seen))] H := hP
  have hD : va_D A [(k, .inr (8, [.ref k_x_, .ref k_y_, .ref k_web_, .ref k_asks_, .ref k_threads_, .int o_today, .int o_day, .ref k_seen_])), (k_x_, .inl (cy 1, 8, .inl g_1)), (k_y_, .inl (cy 1, 8, .inl g_2)), (k_web_, .inl (cy 1, 8, .inl g_3)), (k_asks_, .inl (cy 1, 8, .inl g_4)), (k_threads_, .inl (cy 1, 64, .inl k_threads)), (k_seen_, .inl (cy 1, 8, .inl k_seen)), (o, .inr (8, [.ref o_x_, .ref o_y_, .ref o_web_, .ref o_asks_, .ref o_threads_, .int o_today, .int o_day, .ref o_seen_])), (o_x_, .inl (cy 1, 8, .inl o_x)), (o_y_, .inl (cy 1, 8, .inl o_y)), (o_web_, .inl (cy 1, 8, .inl o_web)), (o_asks_, .inl (cy 1, 8, .inl o_asks)), (o_threads_, .inl (cy 1, 64, .inl o_threads)), (o_seen_, .inl (cy 1, 8, .inl o_seen))] := hD
  refine lv_aload_n hx hb dX8_copyFrom_76 rfl (lv_at hl 1 rfl) ?_
  refine q_get (v := .ref o_threads_) C hP 7 4 rfl rfl inX8 (by decide) kF_RX8_24 rfl rfl dX8_copyFrom_77 ?_
  refine lv_iconst (v := 0) hx hb dX8_copyFrom_80 (by decide) ?_
  refine lv_aload_n hx hb dX8_copyFrom_81 rfl (lv_at hl 0 rfl) ?_
  refine q_get (v := .ref k_threads_) C hP 0 4 rfl rfl inX8 (by decide) kF_RX8_24 rfl rfl dX8_copyFrom_82 ?_
  refine lv_iconst (v := 0) hx hb dX8_copyFrom_85 (by decide) ?_
  refine lv_bipush (v := 64) hx hb dX8_copyFrom_86 (by decide) ?_
  refine q_copy (g' := va_cpy o_threads k_threads 0 0 64) (w' := [(k, .inr (8, [.ref k_x_, .ref k_y_, .ref k_web_, .ref k_asks_, .ref k_threads_, .int o_today, .int o_day, .ref k_seen_])), (k_x_, .inl (cy 1, 8, .inl g_1)), (k_y_, .inl (cy 1, 8, .inl g_2)), (k_web_, .inl (cy 1, 8, .inl g_3)), (k_asks_, .inl (cy 1, 8, .inl g_4)), (k_threads_, .inl (cy 1, 64, .inl (va_cpy o_threads k_threads 0 0 64))), (k_seen_, .inl (cy 1, 8, .inl k_seen)), (o, .inr (8, [.ref o_x_, .ref o_y_, .ref o_web_, .ref o_asks_, .ref o_threads_, .int o_today, .int o_day, .ref o_seen_])), (o_x_, .inl (cy 1, 8, .inl o_x)), (o_y_, .inl (cy 1, 8, .inl o_y)), (o_web_, .inl (cy 1, 8, .inl o_web)), (o_asks_, .inl (cy 1, 8, .inl o_asks)), (o_threads_, .inl (cy 1, 64, .inl o_threads)), (o_seen_, .inl (cy 1, 8, .inl o_seen))]) C hl.1 hP hD hS 12 5 rfl rfl kM_RX8_37 (by decide) (by decide) (by decide) (by decide) (by decide) (Nat.le_of_ble_eq_true rfl) (Nat.le_of_ble_eq_true rfl) rfl rfl dX8_copyFrom_88 (fun H locs hP hD hS => ?_)
  generalize va_cpy o_threads k_threads 0 0 64 = g_5 at hP hD 
  have hP : va_P D vwCl [(k, .inr (8, [.ref k_x_, .ref k_y_, .ref k_web_, .ref k_asks_, .ref k_threads_, .int o_today, .int o_day, .ref k_seen_])), (k_x_, .inl (cy 1, 8, .inl g_1)), (k_y_, .inl (cy 1, 8, .inl g_2)), (k_web_, .inl (cy 1, 8, .inl g_3)), (k_asks_, .inl (cy 1, 8, .inl g_4)), (k_threads_, .inl (cy 1, 64, .inl g_5)), (k_seen_, .inl (cy 1, 8, .inl k_seen)), (o, .inr (8, [.ref o_x_, .ref o_y_, .ref o_web_, .ref o_asks_, .ref o_threads_, .int o_today, .int o_day, .ref o_seen_])), (o_x_, .inl (cy 1, 8, .inl o_x)), (o_y_, .inl (cy 1, 8, .inl o_y)), (o_web_, .inl (cy 1, 8, .inl o_web)), (o_asks_, .inl (cy 1, 8, .inl o_asks)), (o_threads_, .inl (cy 1, 64, .inl o_threads)), (o_seen_, .inl (cy 1, 8, .inl o_seen))] H := hP
  have hD : va_D A [(k, .inr (8, [.ref k_x_, .ref k_y_, .ref k_web_, .ref k_asks_, .ref k_threads_, .int o_today, .int o_day, .ref k_seen_])), (k_x_, .inl (cy 1, 8, .inl g_1)), (k_y_, .inl (cy 1, 8, .inl g_2)), (k_web_, .inl (cy 1, 8, .inl g_3)), (k_asks_, .inl (cy 1, 8, .inl g_4)), (k_threads_, .inl (cy 1, 64, .inl g_5)), (k_seen_, .inl (cy 1, 8, .inl k_seen)), (o, .inr (8, [.ref o_x_, .ref o_y_, .ref o_web_, .ref o_asks_, .ref o_threads_, .int o_today, .int o_day, .ref o_seen_])), (o_x_, .inl (cy 1, 8, .inl o_x)), (o_y_, .inl (cy 1, 8, .inl o_y)), (o_web_, .inl (cy 1, 8, .inl o_web)), (o_asks_, .inl (cy 1, 8, .inl o_asks)), (o_threads_, .inl (cy 1, 64, .inl o_threads)), (o_seen_, .inl (cy 1, 8, .inl o_seen))] := hD
  refine o_wq hQ ?_
  exact q_vret (rm := (Rm 1 60 0 0)) C hS (o_today, o_day, g_1, g_2, g_3, g_4, g_5) ⟨Rg_1_0, Rg_2_0⟩ (q_subP hP [0, 1, 2, 3, 4, 5, 6, 7, 8, 9, 10, 11, 12, 13] rfl) (hD.sub [0, 1, 2, 3, 4, 5, 6, 7, 8, 9, 10, 11, 12, 13] (by decide) rfl) hroom.1 hroom.2 dX8_copyFrom_91
theorem o_shCopy (l : Launch) (D : va_G) (cy : Nat → ClassId) (k : Nat) (o : Nat) (k_x_ : Nat) (k_y_ : Nat) (k_web_ : Nat) (k_asks_ : Nat) (k_threads_ : Nat) (k_today : Int32) (k_day : Int32) (k_seen_ : Nat) (k_x : Nat → Int32) (k_y : Nat → Int32) (k_web : Nat → Int32) (k_asks : Nat → Int32) (k_threads : Nat → Int32) (k_seen : Nat → Int32) (o_x_ : Nat) (o_y_ : Nat) (o_web_ : Nat) (o_asks_ : Nat) (o_threads_ : Nat) (o_today : Int32) (o_day : Int32) (o_seen_ : Nat) (o_x : Nat → Int32) (o_y : Nat → Int32) (o_web : Nat → Int32) (o_asks : Nat → Int32) (o_threads : Nat → Int32) (o_seen : Nat → Int32) (sz : Nat) (hR0 : Rg k_x 0 8 0 5) (hR1 : Rg k_y 0 8 0 5) (hR2 : Rg o_x 0 8 0 5) (hR3 : Rg o_y 0 8 0 5) : MV l yX8_copyFrom cX8_copyFrom 2 (Rm 1 60 0 0) D cy [.ref k, .ref o] sz [(k, .inr (8, [.ref k_x_, .ref k_y_, .ref k_web_, .ref k_asks_, .ref k_threads_, .int k_today, .int k_day, .ref k_seen_])), (k_x_, .inl (cy 1, 8, .inl k_x)), (k_y_, .inl (cy 1, 8, .inl k_y)), (k_web_, .inl (cy 1, 8, .inl k_web)), (k_asks_, .inl (cy 1, 8, .inl k_asks)), (k_threads_, .inl (cy 1, 64, .inl k_threads)), (k_seen_, .inl (cy 1, 8, .inl k_seen)), (o, .inr (8, [.ref o_x_, .ref o_y_, .ref o_web_, .ref o_asks_, .ref o_threads_, .int o_today, .int o_day, .ref o_seen_])), (o_x_, .inl (cy 1, 8, .inl o_x)), (o_y_, .inl (cy 1, 8, .inl o_y)), (o_web_, .inl (cy 1, 8, .inl o_web)), (o_asks_, .inl (cy 1, 8, .inl o_asks)), (o_threads_, .inl (cy 1, 64, .inl o_threads)), (o_seen_, .inl (cy 1, 8, .inl o_seen))] (fun u : Int32 × Int32 × (Nat → Int32) × (Nat → Int32) × (Nat → Int32) × (Nat → Int32) × (Nat → Int32) => (Rg u.2.2.1 0 8 0 5) ∧ (Rg u.2.2.2.1 0 8 0 5)) (fun u : Int32 × Int32 × (Nat → Int32) × (Nat → Int32) × (Nat → Int32) × (Nat → Int32) × (Nat → Int32) => [(k, .inr (8, [.ref k_x_, .ref k_y_, .ref k_web_, .ref k_asks_, .ref k_threads_, .int u.1, .int u.2.1, .ref k_seen_])), (k_x_, .inl (cy 1, 8, .inl u.2.2.1)), (k_y_, .inl (cy 1, 8, .inl u.2.2.2.1)), (k_web_, .inl (cy 1, 8, .inl u.2.2.2.2.1)), (k_asks_, .inl (cy 1, 8, .inl u.2.2.2.2.2.1)), (k_threads_, .inl (cy 1, 64, .inl u.2.2.2.2.2.2)), (k_seen_, .inl (cy 1, 8, .inl k_seen)), (o, .inr (8, [.ref o_x_, .ref o_y_, .ref o_web_, .ref o_asks_, .ref o_threads_, .int o_today, .int o_day, .ref o_seen_])), (o_x_, .inl (cy 1, 8, .inl o_x)), (o_y_, .inl (cy 1, 8, .inl o_y)), (o_web_, .inl (cy 1, 8, .inl o_web)), (o_asks_, .inl (cy 1, 8, .inl o_asks)), (o_threads_, .inl (cy 1, 64, .inl o_threads)), (o_seen_, .inl (cy 1, 8, .inl o_seen))]) := by
  refine MV.enter (by decide) (Nat.le_of_ble_eq_true rfl) ?_
  intro p e s m below meth c ls A hsz hAe C hP hD hS hl
  exact b_o_shCopy l D cy k o k_x_ k_y_ k_web_ k_asks_ k_threads_ k_today k_day k_seen_ k_x k_y k_web k_asks k_threads k_seen o_x_ o_y_ o_web_ o_asks_ o_threads_ o_today o_day o_seen_ o_x o_y o_web o_asks o_threads o_seen hR0 hR1 hR2 hR3 ⟨Nat.le_of_ble_eq_true rfl, Nat.le_of_ble_eq_true rfl⟩ C rfl _ _ ls hP hD hS hl
set_option maxHeartbeats 4000000 in
set_option maxRecDepth 100000 in
theorem b_o_hasDays (l : Launch) (D : va_G) (cy : Nat → ClassId) (k : Nat) (v : Int32) (k_x_ : Nat) (k_y_ : Nat) (k_web_ : Nat) (k_asks_ : Nat) (k_threads_ : Nat) (k_today : Int32) (k_day : Int32) (k_seen_ : Nat) (k_x : Nat → Int32) (k_y : Nat → Int32) (k_web : Nat → Int32) (k_asks : Nat → Int32) (k_threads : Nat → Int32) (k_seen : Nat → Int32) (hR0 : Rg k_x 0 8 0 5) (hR1 : Rg k_y 0 8 0 5) {p : Program} {e : Env} {s : State} {m : MethodId} {args : Array Value} {below : List Frame} {meth : Method} {c : Code} {A : Nat → Prop} {Q : State → Prop} {cells slots : Nat} (hroom : cells ≤ ((Rm 0 0 0 0)).cells ∧ slots ≤ ((Rm 0 0 0 0)).slots) (C : Cx p s m args meth c cX8_hasDays 2 (some .boolean) RX8 "hasDays" D cy A) (hQ : Q = MQ below (va_Qi (fun (r : Int32) (u : Unit) => (0 ≤ r.toInt ∧ r.toInt ≤ 1)) (Bx D A (fun u : Unit => [(k, .inr (8, [.ref k_x_, .ref k_y_, .ref k_web_, .ref k_asks_, .ref k_threads_, .int k_today, .int k_day, .ref k_seen_])), (k_x_, .inl (cy 1, 8, .inl k_x)), (k_y_, .inl (cy 1, 8, .inl k_y)), (k_web_, .inl (cy 1, 8, .inl k_web)), (k_asks_, .inl (cy 1, 8, .inl k_asks)), (k_threads_, .inl (cy 1, 64, .inl k_threads)), (k_seen_, .inl (cy 1, 8, .inl k_seen))])) A) args s ((Rm 0 0 0 0)).cells ((Rm 0 0 0 0)).slots A) (H : Heap) (locs : List Loc) (ls : Array Slot) (hP : va_P D vwCl [(k, .inr (8, [.ref k_x_, .ref k_y_, .ref k_web_, .ref k_asks_, .ref k_threads_, .int k_today, .int k_day, .ref k_seen_])), (k_x_, .inl (cy 1, 8, .inl k_x)), (k_y_, .inl (cy 1, 8, .inl k_y)), (k_web_, .inl (cy 1, 8, .inl k_web)), (k_asks_, .inl (cy 1, 8, .inl k_asks)), (k_threads_, .inl (cy 1, 64, .inl k_threads)), (k_seen_, .inl (cy 1, 8, .inl k_seen))] H) (hD : va_D A [(k, .inr (8, [.ref k_x_, .ref k_y_, .ref k_web_, .ref k_asks_, .ref k_threads_, .int k_today, .int k_day, .ref k_seen_])), (k_x_, .inl (cy 1, 8, .inl k_x)), (k_y_, .inl (cy 1, 8, .inl k_y)), (k_web_, .inl (cy 1, 8, .inl k_web)), (k_asks_, .inl (cy 1, 8, .inl k_asks)), (k_threads_, .inl (cy 1, 64, .inl k_threads)), (k_seen_, .inl (cy 1, 8, .inl k_seen))]) (hS : va_S A s.heap H locs) (hl : lv_has ls 2 [(0, .ref k), (1, .int v)]) : W p l e (Rm 0 0 0 0) s m args below meth c H locs cells slots Q (F0 m 0 ls []) := by
  have hx := C.1
  have hb := C.2.1
  have hqv := o_rng v
  refine lv_iload_n hx hb dX8_hasDays_0 rfl (lv_at hl 1 rfl) ?_
  refine lv_sipush (v := 400) hx hb dX8_hasDays_1 (by decide) ?_
  refine lv_aload_n hx hb dX8_hasDays_4 rfl (lv_at hl 0 rfl) ?_
  refine q_get (v := .int k_day) C hP 0 6 rfl rfl inX8 (by decide) kF_RX8_31 rfl rfl dX8_hasDays_5 ?_
  refine lv_isub hx hb dX8_hasDays_8 ?_
  refine lv_topi (fun z_1 hz_1 => ?_)
  clear hz_1
  refine lv_icmp_gt (tgt := 16) hx hb dX8_hasDays_9 (by decide) (fun c_2 => ?_) (fun c_2 => ?_)
  · have hc_2 := o_lt (rfl : z_1.toInt = z_1.toInt) (rfl : v.toInt = v.toInt) c_2
    refine lv_iconst (v := 0) hx hb dX8_hasDays_16 (by decide) ?_
    refine o_wq hQ ?_
    exact q_iret (rm := (Rm 0 0 0 0)) C hS () rfl (show 0 ≤ (0 : Int32).toInt ∧ (0 : Int32).toInt ≤ 1 by decide) (q_subP hP [0, 1, 2, 3, 4, 5, 6] rfl) (hD.sub [0, 1, 2, 3, 4, 5, 6] (by decide) rfl) hroom.1 hroom.2 dX8_hasDays_17
  · have hc_2 := o_nlt (rfl : z_1.toInt = z_1.toInt) (rfl : v.toInt = v.toInt) c_2
    refine lv_iconst (v := 1) hx hb dX8_hasDays_12 (by decide) ?_
    refine lv_goto (tgt := 17) hx hb dX8_hasDays_13 (by decide) ?_
    refine o_wq hQ ?_
    exact q_iret (rm := (Rm 0 0 0 0)) C hS () rfl (show 0 ≤ (1 : Int32).toInt ∧ (1 : Int32).toInt ≤ 1 by decide) (q_subP hP [0, 1, 2, 3, 4, 5, 6] rfl) (hD.sub [0, 1, 2, 3, 4, 5, 6] (by decide) rfl) hroom.1 hroom.2 dX8_hasDays_17
theorem o_hasDays (l : Launch) (D : va_G) (cy : Nat → ClassId) (k : Nat) (v : Int32) (k_x_ : Nat) (k_y_ : Nat) (k_web_ : Nat) (k_asks_ : Nat) (k_threads_ : Nat) (k_today : Int32) (k_day : Int32) (k_seen_ : Nat) (k_x : Nat → Int32) (k_y : Nat → Int32) (k_web : Nat → Int32) (k_asks : Nat → Int32) (k_threads : Nat → Int32) (k_seen : Nat → Int32) (sz : Nat) (hR0 : Rg k_x 0 8 0 5) (hR1 : Rg k_y 0 8 0 5) : MI l yX8_hasDays cX8_hasDays 2 (some .boolean) (Rm 0 0 0 0) D cy [.ref k, .int v] sz [(k, .inr (8, [.ref k_x_, .ref k_y_, .ref k_web_, .ref k_asks_, .ref k_threads_, .int k_today, .int k_day, .ref k_seen_])), (k_x_, .inl (cy 1, 8, .inl k_x)), (k_y_, .inl (cy 1, 8, .inl k_y)), (k_web_, .inl (cy 1, 8, .inl k_web)), (k_asks_, .inl (cy 1, 8, .inl k_asks)), (k_threads_, .inl (cy 1, 64, .inl k_threads)), (k_seen_, .inl (cy 1, 8, .inl k_seen))] (fun (r : Int32) (u : Unit) => (0 ≤ r.toInt ∧ r.toInt ≤ 1)) (fun u : Unit => [(k, .inr (8, [.ref k_x_, .ref k_y_, .ref k_web_, .ref k_asks_, .ref k_threads_, .int k_today, .int k_day, .ref k_seen_])), (k_x_, .inl (cy 1, 8, .inl k_x)), (k_y_, .inl (cy 1, 8, .inl k_y)), (k_web_, .inl (cy 1, 8, .inl k_web)), (k_asks_, .inl (cy 1, 8, .inl k_asks)), (k_threads_, .inl (cy 1, 64, .inl k_threads)), (k_seen_, .inl (cy 1, 8, .inl k_seen))]) := by
  refine MI.enter (by decide) (Nat.le_of_ble_eq_true rfl) ?_
  intro p e s m below meth c ls A hsz hAe C hP hD hS hl
  exact b_o_hasDays l D cy k v k_x_ k_y_ k_web_ k_asks_ k_threads_ k_today k_day k_seen_ k_x k_y k_web k_asks k_threads k_seen hR0 hR1 ⟨Nat.le_of_ble_eq_true rfl, Nat.le_of_ble_eq_true rfl⟩ C rfl _ _ ls hP hD hS hl
set_option maxHeartbeats 4000000 in
set_option maxRecDepth 100000 in
theorem b_o_bookIn (l : Launch) (D : va_G) (cy : Nat → ClassId) (k : Nat) (b : Int32) (v : Int32) (w : Int32) (k_x_ : Nat) (k_y_ : Nat) (k_web_ : Nat) (k_asks_ : Nat) (k_threads_ : Nat) (k_today : Int32) (k_day : Int32) (k_seen_ : Nat) (k_x : Nat → Int32) (k_y : Nat → Int32) (k_web : Nat → Int32) (k_asks : Nat → Int32) (k_threads : Nat → Int32) (k_seen : Nat → Int32) (hb0 : 0 ≤ b.toInt ∧ b.toInt ≤ 8) (hR0 : Rg k_x 0 8 0 5) (hR1 : Rg k_y 0 8 0 5) {p : Program} {e : Env} {s : State} {m : MethodId} {args : Array Value} {below : List Frame} {meth : Method} {c : Code} {A : Nat → Prop} {Q : State → Prop} {cells slots : Nat} (hroom : cells ≤ ((Rm 0 0 0 0)).cells ∧ slots ≤ ((Rm 0 0 0 0)).slots) (C : Cx p s m args meth c cX8_bookIn 5 (some .int) RX8 "bookIn" D cy A) (hQ : Q = MQ below (va_Qi (fun (r : Int32) (u : Unit) => ((-1) ≤ r.toInt ∧ r.toInt ≤ 7) ∧ (r.toInt = binT k_x k_y v.toInt w.toInt b.toInt.toNat 0)) (Bx D A (fun u : Unit => [(k, .inr (8, [.ref k_x_, .ref k_y_, .ref k_web_, .ref k_asks_, .ref k_threads_, .int k_today, .int k_day, .ref k_seen_])), (k_x_, .inl (cy 1, 8, .inl k_x)), (k_y_, .inl (cy 1, 8, .inl k_y)), (k_web_, .inl (cy 1, 8, .inl k_web)), (k_asks_, .inl (cy 1, 8, .inl k_asks)), (k_threads_, .inl (cy 1, 64, .inl k_threads)), (k_seen_, .inl (cy 1, 8, .inl k_seen))])) A) args s ((Rm 0 0 0 0)).cells ((Rm 0 0 0 0)).slots A) (H : Heap) (locs : List Loc) (ls : Array Slot) (hP : va_P D vwCl [(k, .inr (8, [.ref k_x_, .ref k_y_, .ref k_web_, .ref k_asks_, .ref k_threads_, .int k_today, .int k_day, .ref k_seen_])), (k_x_, .inl (cy 1, 8, .inl k_x)), (k_y_, .inl (cy 1, 8, .inl k_y)), (k_web_, .inl (cy 1, 8, .inl k_web)), (k_asks_, .inl (cy 1, 8, .inl k_asks)), (k_threads_, .inl (cy 1, 64, .inl k_threads)), (k_seen_, .inl (cy 1, 8, .inl k_seen))] H) (hD : va_D A [(k, .inr (8, [.ref k_x_, .ref k_y_, .ref k_web_, .ref k_asks_, .ref k_threads_, .int k_today, .int k_day, .ref k_seen_])), (k_x_, .inl (cy 1, 8, .inl k_x)), (k_y_, .inl (cy 1, 8, .inl k_y)), (k_web_, .inl (cy 1, 8, .inl k_web)), (k_asks_, .inl (cy 1, 8, .inl k_asks)), (k_threads_, .inl (cy 1, 64, .inl k_threads)), (k_seen_, .inl (cy 1, 8, .inl k_seen))]) (hS : va_S A s.heap H locs) (hl : lv_has ls 5 [(0, .ref k), (1, .int b), (2, .int v), (3, .int w)]) : W p l e (Rm 0 0 0 0) s m args below meth c H locs cells slots Q (F0 m 0 ls []) := by
  have hx := C.1
  have hb := C.2.1
  have hqv := o_rng v
  have hqw := o_rng w
  refine lv_iconst (v := 0) hx hb dX8_bookIn_0 (by decide) ?_
  refine lv_istore (lv' := [(4, .int 0), (0, .ref k), (1, .int b), (2, .int v), (3, .int w)]) hx hb dX8_bookIn_1 hl (by decide) rfl (fun ls hl => ?_)
  have lp_3_1 : ∀ (n_2 : Nat) (x_1 : Int32) (H : Heap) (locs : List Loc) (ls : Array Slot), (-1) * x_1.toInt + 8 < (n_2 : Int) → (0 ≤ x_1.toInt ∧ x_1.toInt ≤ 8) → (binT k_x k_y v.toInt w.toInt b.toInt.toNat 0 = binT k_x k_y v.toInt w.toInt b.toInt.toNat x_1.toInt.toNat) → va_P D vwCl [(k, .inr (8, [.ref k_x_, .ref k_y_, .ref k_web_, .ref k_asks_, .ref k_threads_, .int k_today, .int k_day, .ref k_seen_])), (k_x_, .inl (cy 1, 8, .inl k_x)), (k_y_, .inl (cy 1, 8, .inl k_y)), (k_web_, .inl (cy 1, 8, .inl k_web)), (k_asks_, .inl (cy 1, 8, .inl k_asks)), (k_threads_, .inl (cy 1, 64, .inl k_threads)), (k_seen_, .inl (cy 1, 8, .inl k_seen))] H → va_D A [(k, .inr (8, [.ref k_x_, .ref k_y_, .ref k_web_, .ref k_asks_, .ref k_threads_, .int k_today, .int k_day, .ref k_seen_])), (k_x_, .inl (cy 1, 8, .inl k_x)), (k_y_, .inl (cy 1, 8, .inl k_y)), (k_web_, .inl (cy 1, 8, .inl k_web)), (k_asks_, .inl (cy 1, 8, .inl k_asks)), (k_threads_, .inl (cy 1, 64, .inl k_threads)), (k_seen_, .inl (cy 1, 8, .inl k_seen))] → va_S A s.heap H locs → lv_has ls 5 [(0, .ref k), (1, .int b), (2, .int v), (3, .int w), (4, .int x_1)] → W p l e (Rm 0 0 0 0) s m args below meth c H locs cells slots Q (F0 m 3 ls []) := by
    intro n_2
    induction n_2 with
    | zero =>
      intro x_1 H locs ls hm_5 hf_3 hf_4 hP hD hS hl
      exact absurd hm_5 (by omega)
    | succ n_2 ih_6 =>
      intro x_1 H locs ls hm_5 hf_3 hf_4 hP hD hS hl
      refine lv_iload hx hb dX8_bookIn_3 (lv_at hl 4 rfl) ?_
      refine lv_iload_n hx hb dX8_bookIn_5 rfl (lv_at hl 1 rfl) ?_
      refine lv_icmp_ge (tgt := 40) hx hb dX8_bookIn_6 (by decide) (fun c_8 => ?_) (fun c_8 => ?_)
      · have hc_8 := o_le (rfl : b.toInt = b.toInt) (rfl : x_1.toInt = x_1.toInt) c_8
        refine lv_iconst (v := (-1)) hx hb dX8_bookIn_40 (by decide) ?_
        refine o_wq hQ ?_
        exact q_iret (rm := (Rm 0 0 0 0)) C hS () rfl ⟨(show (-1) ≤ ((-1) : Int32).toInt ∧ ((-1) : Int32).toInt ≤ 7 by decide), (show ((-1) : Int32).toInt = binT k_x k_y v.toInt w.toInt b.toInt.toNat 0 from (by rw [hf_4, binT_end (by omega)]; decide))⟩ (q_subP hP [0, 1, 2, 3, 4, 5, 6] rfl) (hD.sub [0, 1, 2, 3, 4, 5, 6] (by decide) rfl) hroom.1 hroom.2 dX8_bookIn_41
      · have hc_8 := o_nle (rfl : b.toInt = b.toInt) (rfl : x_1.toInt = x_1.toInt) c_8
        refine lv_aload_n hx hb dX8_bookIn_9 rfl (lv_at hl 0 rfl) ?_
        refine q_get (v := .ref k_x_) C hP 0 0 rfl rfl inX8 (by decide) kF_RX8_9 rfl rfl dX8_bookIn_10 ?_
        refine lv_iload hx hb dX8_bookIn_13 (lv_at hl 4 rfl) ?_
        refine q_iald (v := k_x x_1.toNatClampNeg) C hP 1 rfl (o_in (rfl : x_1.toInt = x_1.toInt) (by omega) (by omega)) rfl dX8_bookIn_15 ?_
        refine lv_topi (fun z_9 ez_9 => ?_)
        have hz_9 := Rg.at hR0 ez_9 (by have := o_cl (rfl : x_1.toInt = x_1.toInt) (by omega); omega) (by have := o_cl (rfl : x_1.toInt = x_1.toInt) (by omega); omega)
        refine lv_iload_n hx hb dX8_bookIn_16 rfl (lv_at hl 2 rfl) ?_
        refine lv_icmp_ne (tgt := 34) hx hb dX8_bookIn_17 (by decide) (fun c_10 => ?_) (fun c_10 => ?_)
        · have hc_10 := o_ne (rfl : z_9.toInt = z_9.toInt) (rfl : v.toInt = v.toInt) c_10
          obtain ⟨z_11, hz_11⟩ : ∃ z : Int32, z = x_1 + 1 := ⟨_, rfl⟩
          refine lv_iinc (v := z_11) (lv' := [(4, .int z_11), (0, .ref k), (1, .int b), (2, .int v), (3, .int w)]) hx hb dX8_bookIn_34 hl (k := 4) rfl hz_11.symm (by decide) rfl (fun ls hl => ?_)
          have hz_11 := o_add hz_11 (rfl : x_1.toInt = x_1.toInt) (by decide : (1 : Int32).toInt = 1) (by omega) (by omega)
          have hq_11 : binT k_x k_y v.toInt w.toInt b.toInt.toNat 0 = binT k_x k_y v.toInt w.toInt b.toInt.toNat z_11.toInt.toNat := bn_no (c := 0) hf_4 (by omega) (by omega) ez_9 (Or.inl (by omega)) (by omega)
          refine lv_goto (tgt := 3) hx hb dX8_bookIn_37 (by decide) ?_
          exact ih_6 z_11 H locs ls (by omega) (by omega) hq_11 hP hD hS (lv_sub hl [1, 2, 3, 4, 0] rfl)
        · have hc_10 := o_eq (rfl : z_9.toInt = z_9.toInt) (rfl : v.toInt = v.toInt) c_10
          refine lv_aload_n hx hb dX8_bookIn_20 rfl (lv_at hl 0 rfl) ?_
          refine q_get (v := .ref k_y_) C hP 0 1 rfl rfl inX8 (by decide) kF_RX8_15 rfl rfl dX8_bookIn_21 ?_
          refine lv_iload hx hb dX8_bookIn_24 (lv_at hl 4 rfl) ?_
          refine q_iald (v := k_y x_1.toNatClampNeg) C hP 2 rfl (o_in (rfl : x_1.toInt = x_1.toInt) (by omega) (by omega)) rfl dX8_bookIn_26 ?_
          refine lv_topi (fun z_13 ez_13 => ?_)
          have hz_13 := Rg.at hR1 ez_13 (by have := o_cl (rfl : x_1.toInt = x_1.toInt) (by omega); omega) (by have := o_cl (rfl : x_1.toInt = x_1.toInt) (by omega); omega)
          refine lv_iload_n hx hb dX8_bookIn_27 rfl (lv_at hl 3 rfl) ?_
          refine lv_icmp_ne (tgt := 34) hx hb dX8_bookIn_28 (by decide) (fun c_14 => ?_) (fun c_14 => ?_)
          · have hc_14 := o_ne (rfl : z_13.toInt = z_13.toInt) (rfl : w.toInt = w.toInt) c_14
            obtain ⟨z_15, hz_15⟩ : ∃ z : Int32, z = x_1 + 1 := ⟨_, rfl⟩
            refine lv_iinc (v := z_15) (lv' := [(4, .int z_15), (0, .ref k), (1, .int b), (2, .int v), (3, .int w)]) hx hb dX8_bookIn_34 hl (k := 4) rfl hz_15.symm (by decide) rfl (fun ls hl => ?_)
            have hz_15 := o_add hz_15 (rfl : x_1.toInt = x_1.toInt) (by decide : (1 : Int32).toInt = 1) (by omega) (by omega)
            have hq_15 : binT k_x k_y v.toInt w.toInt b.toInt.toNat 0 = binT k_x k_y v.toInt w.toInt b.toInt.toNat z_15.toInt.toNat := bn_no hf_4 (by omega) (by omega) ez_9 (Or.inr ⟨ez_13, by omega⟩) (by omega)
            refine lv_goto (tgt := 3) hx hb dX8_bookIn_37 (by decide) ?_
            exact ih_6 z_15 H locs ls (by omega) (by omega) hq_15 hP hD hS (lv_sub hl [1, 2, 3, 4, 0] rfl)
          · have hc_14 := o_eq (rfl : z_13.toInt = z_13.toInt) (rfl : w.toInt = w.toInt) c_14
            refine lv_iload hx hb dX8_bookIn_31 (lv_at hl 4 rfl) ?_
            refine o_wq hQ ?_
            exact q_iret (rm := (Rm 0 0 0 0)) C hS () rfl ⟨(show (-1) ≤ x_1.toInt ∧ x_1.toInt ≤ 7 by omega), (show x_1.toInt = binT k_x k_y v.toInt w.toInt b.toInt.toNat 0 from (bn_yes hf_4 (by omega) (by omega) ez_9 ez_13 (by omega) (by omega)).symm)⟩ (q_subP hP [0, 1, 2, 3, 4, 5, 6] rfl) (hD.sub [0, 1, 2, 3, 4, 5, 6] (by decide) rfl) hroom.1 hroom.2 dX8_bookIn_33
  exact lp_3_1 9 (0 : Int32) H locs ls (by have e0 : (0 : Int32).toInt = 0 := (by decide); omega) (by have e0 : (0 : Int32).toInt = 0 := (by decide); omega) (by rw [show (0 : Int32).toInt.toNat = 0 by decide]) hP hD hS (lv_sub hl [1, 2, 3, 4, 0] rfl)
theorem o_bookIn (l : Launch) (D : va_G) (cy : Nat → ClassId) (k : Nat) (b : Int32) (v : Int32) (w : Int32) (k_x_ : Nat) (k_y_ : Nat) (k_web_ : Nat) (k_asks_ : Nat) (k_threads_ : Nat) (k_today : Int32) (k_day : Int32) (k_seen_ : Nat) (k_x : Nat → Int32) (k_y : Nat → Int32) (k_web : Nat → Int32) (k_asks : Nat → Int32) (k_threads : Nat → Int32) (k_seen : Nat → Int32) (sz : Nat) (hb0 : 0 ≤ b.toInt ∧ b.toInt ≤ 8) (hR0 : Rg k_x 0 8 0 5) (hR1 : Rg k_y 0 8 0 5) : MI l yX8_bookIn cX8_bookIn 5 (some .int) (Rm 0 0 0 0) D cy [.ref k, .int b, .int v, .int w] sz [(k, .inr (8, [.ref k_x_, .ref k_y_, .ref k_web_, .ref k_asks_, .ref k_threads_, .int k_today, .int k_day, .ref k_seen_])), (k_x_, .inl (cy 1, 8, .inl k_x)), (k_y_, .inl (cy 1, 8, .inl k_y)), (k_web_, .inl (cy 1, 8, .inl k_web)), (k_asks_, .inl (cy 1, 8, .inl k_asks)), (k_threads_, .inl (cy 1, 64, .inl k_threads)), (k_seen_, .inl (cy 1, 8, .inl k_seen))] (fun (r : Int32) (u : Unit) => ((-1) ≤ r.toInt ∧ r.toInt ≤ 7) ∧ (r.toInt = binT k_x k_y v.toInt w.toInt b.toInt.toNat 0)) (fun u : Unit => [(k, .inr (8, [.ref k_x_, .ref k_y_, .ref k_web_, .ref k_asks_, .ref k_threads_, .int k_today, .int k_day, .ref k_seen_])), (k_x_, .inl (cy 1, 8, .inl k_x)), (k_y_, .inl (cy 1, 8, .inl k_y)), (k_web_, .inl (cy 1, 8, .inl k_web)), (k_asks_, .inl (cy 1, 8, .inl k_asks)), (k_threads_, .inl (cy 1, 64, .inl k_threads)), (k_seen_, .inl (cy 1, 8, .inl k_seen))]) := by
  refine MI.enter (by decide) (Nat.le_of_ble_eq_true rfl) ?_
  intro p e s m below meth c ls A hsz hAe C hP hD hS hl
  exact b_o_bookIn l D cy k b v w k_x_ k_y_ k_web_ k_asks_ k_threads_ k_today k_day k_seen_ k_x k_y k_web k_asks k_threads k_seen hb0 hR0 hR1 ⟨Nat.le_of_ble_eq_true rfl, Nat.le_of_ble_eq_true rfl⟩ C rfl _ _ ls hP hD hS hl
set_option maxHeartbeats 4000000 in
set_option maxRecDepth 100000 in
theorem b_o_standsBetween (l : Launch) (D : va_G) (cy : Nat → ClassId) (k : Nat) (u : Int32) (v : Int32) (w : Int32) (k_x_ : Nat) (k_y_ : Nat) (k_web_ : Nat) (k_asks_ : Nat) (k_threads_ : Nat) (k_today : Int32) (k_day : Int32) (k_seen_ : Nat) (k_x : Nat → Int32) (k_y : Nat → Int32) (k_web : Nat → Int32) (k_asks : Nat → Int32) (k_threads : Nat → Int32) (k_seen : Nat → Int32) (hb0 : 0 ≤ u.toInt ∧ u.toInt ≤ 7) (hb1 : 0 ≤ v.toInt ∧ v.toInt ≤ 7) (hb2 : 0 ≤ w.toInt ∧ w.toInt ≤ 7) (hR0 : Rg k_x 0 8 0 5) (hR1 : Rg k_y 0 8 0 5) {p : Program} {e : Env} {s : State} {m : MethodId} {args : Array Value} {below : List Frame} {meth : Method} {c : Code} {A : Nat → Prop} {Q : State → Prop} {cells slots : Nat} (hroom : cells ≤ ((Rm 1 22 0 0)).cells ∧ slots ≤ ((Rm 1 22 0 0)).slots) (C : Cx p s m args meth c cX8_standsBetween 4 (some .boolean) RX8 "standsBetween" D cy A) (hQ : Q = MQ below (va_Qi (fun (r : Int32) (u : Unit) => (0 ≤ r.toInt ∧ r.toInt ≤ 1)) (Bx D A (fun u : Unit => [(k, .inr (8, [.ref k_x_, .ref k_y_, .ref k_web_, .ref k_asks_, .ref k_threads_, .int k_today, .int k_day, .ref k_seen_])), (k_x_, .inl (cy 1, 8, .inl k_x)), (k_y_, .inl (cy 1, 8, .inl k_y)), (k_web_, .inl (cy 1, 8, .inl k_web)), (k_asks_, .inl (cy 1, 8, .inl k_asks)), (k_threads_, .inl (cy 1, 64, .inl k_threads)), (k_seen_, .inl (cy 1, 8, .inl k_seen))])) A) args s ((Rm 1 22 0 0)).cells ((Rm 1 22 0 0)).slots A) (H : Heap) (locs : List Loc) (ls : Array Slot) (hP : va_P D vwCl [(k, .inr (8, [.ref k_x_, .ref k_y_, .ref k_web_, .ref k_asks_, .ref k_threads_, .int k_today, .int k_day, .ref k_seen_])), (k_x_, .inl (cy 1, 8, .inl k_x)), (k_y_, .inl (cy 1, 8, .inl k_y)), (k_web_, .inl (cy 1, 8, .inl k_web)), (k_asks_, .inl (cy 1, 8, .inl k_asks)), (k_threads_, .inl (cy 1, 64, .inl k_threads)), (k_seen_, .inl (cy 1, 8, .inl k_seen))] H) (hD : va_D A [(k, .inr (8, [.ref k_x_, .ref k_y_, .ref k_web_, .ref k_asks_, .ref k_threads_, .int k_today, .int k_day, .ref k_seen_])), (k_x_, .inl (cy 1, 8, .inl k_x)), (k_y_, .inl (cy 1, 8, .inl k_y)), (k_web_, .inl (cy 1, 8, .inl k_web)), (k_asks_, .inl (cy 1, 8, .inl k_asks)), (k_threads_, .inl (cy 1, 64, .inl k_threads)), (k_seen_, .inl (cy 1, 8, .inl k_seen))]) (hS : va_S A s.heap H locs) (hl : lv_has ls 4 [(0, .ref k), (1, .int u), (2, .int v), (3, .int w)]) : W p l e (Rm 1 22 0 0) s m args below meth c H locs cells slots Q (F0 m 0 ls []) := by
  have hx := C.1
  have hb := C.2.1
  refine lv_aload_n hx hb dX8_standsBetween_0 rfl (lv_at hl 0 rfl) ?_
  refine q_get (v := .ref k_y_) C hP 0 1 rfl rfl inX8 (by decide) kF_RX8_15 rfl rfl dX8_standsBetween_1 ?_
  refine lv_iload_n hx hb dX8_standsBetween_4 rfl (lv_at hl 2 rfl) ?_
  refine q_iald (v := k_y v.toNatClampNeg) C hP 2 rfl (o_in (rfl : v.toInt = v.toInt) (by omega) (by omega)) rfl dX8_standsBetween_5 ?_
  refine lv_topi (fun z_1 ez_1 => ?_)
  have hz_1 := Rg.at hR1 ez_1 (by have := o_cl (rfl : v.toInt = v.toInt) (by omega); omega) (by have := o_cl (rfl : v.toInt = v.toInt) (by omega); omega)
  refine lv_aload_n hx hb dX8_standsBetween_6 rfl (lv_at hl 0 rfl) ?_
  refine q_get (v := .ref k_y_) C hP 0 1 rfl rfl inX8 (by decide) kF_RX8_15 rfl rfl dX8_standsBetween_7 ?_
  refine lv_iload_n hx hb dX8_standsBetween_10 rfl (lv_at hl 3 rfl) ?_
  refine q_iald (v := k_y w.toNatClampNeg) C hP 2 rfl (o_in (rfl : w.toInt = w.toInt) (by omega) (by omega)) rfl dX8_standsBetween_11 ?_
  refine lv_topi (fun z_2 ez_2 => ?_)
  have hz_2 := Rg.at hR1 ez_2 (by have := o_cl (rfl : w.toInt = w.toInt) (by omega); omega) (by have := o_cl (rfl : w.toInt = w.toInt) (by omega); omega)
  refine lv_icmp_ne (tgt := 60) hx hb dX8_standsBetween_12 (by decide) (fun c_3 => ?_) (fun c_3 => ?_)
  · have hc_3 := o_ne (rfl : z_1.toInt = z_1.toInt) (rfl : z_2.toInt = z_2.toInt) c_3
    refine lv_aload_n hx hb dX8_standsBetween_60 rfl (lv_at hl 0 rfl) ?_
    refine q_get (v := .ref k_x_) C hP 0 0 rfl rfl inX8 (by decide) kF_RX8_9 rfl rfl dX8_standsBetween_61 ?_
    refine lv_iload_n hx hb dX8_standsBetween_64 rfl (lv_at hl 1 rfl) ?_
    refine q_iald (v := k_x u.toNatClampNeg) C hP 1 rfl (o_in (rfl : u.toInt = u.toInt) (by omega) (by omega)) rfl dX8_standsBetween_65 ?_
    refine lv_topi (fun z_4 ez_4 => ?_)
    have hz_4 := Rg.at hR0 ez_4 (by have := o_cl (rfl : u.toInt = u.toInt) (by omega); omega) (by have := o_cl (rfl : u.toInt = u.toInt) (by omega); omega)
    refine lv_aload_n hx hb dX8_standsBetween_66 rfl (lv_at hl 0 rfl) ?_
    refine q_get (v := .ref k_x_) C hP 0 0 rfl rfl inX8 (by decide) kF_RX8_9 rfl rfl dX8_standsBetween_67 ?_
    refine lv_iload_n hx hb dX8_standsBetween_70 rfl (lv_at hl 2 rfl) ?_
    refine q_iald (v := k_x v.toNatClampNeg) C hP 1 rfl (o_in (rfl : v.toInt = v.toInt) (by omega) (by omega)) rfl dX8_standsBetween_71 ?_
    refine lv_topi (fun z_5 ez_5 => ?_)
    have hz_5 := Rg.at hR0 ez_5 (by have := o_cl (rfl : v.toInt = v.toInt) (by omega); omega) (by have := o_cl (rfl : v.toInt = v.toInt) (by omega); omega)
    refine lv_icmp_ne (tgt := 103) hx hb dX8_standsBetween_72 (by decide) (fun c_6 => ?_) (fun c_6 => ?_)
    · have hc_6 := o_ne (rfl : z_4.toInt = z_4.toInt) (rfl : z_5.toInt = z_5.toInt) c_6
      refine lv_iconst (v := 0) hx hb dX8_standsBetween_103 (by decide) ?_
      refine o_wq hQ ?_
      exact q_iret (rm := (Rm 1 22 0 0)) C hS () rfl (show 0 ≤ (0 : Int32).toInt ∧ (0 : Int32).toInt ≤ 1 by decide) (q_subP hP [0, 1, 2, 3, 4, 5, 6] rfl) (hD.sub [0, 1, 2, 3, 4, 5, 6] (by decide) rfl) hroom.1 hroom.2 dX8_standsBetween_104
    · have hc_6 := o_eq (rfl : z_4.toInt = z_4.toInt) (rfl : z_5.toInt = z_5.toInt) c_6
      refine lv_aload_n hx hb dX8_standsBetween_75 rfl (lv_at hl 0 rfl) ?_
      refine q_get (v := .ref k_y_) C hP 0 1 rfl rfl inX8 (by decide) kF_RX8_15 rfl rfl dX8_standsBetween_76 ?_
      refine lv_iload_n hx hb dX8_standsBetween_79 rfl (lv_at hl 1 rfl) ?_
      refine q_iald (v := k_y u.toNatClampNeg) C hP 2 rfl (o_in (rfl : u.toInt = u.toInt) (by omega) (by omega)) rfl dX8_standsBetween_80 ?_
      refine lv_topi (fun z_7 ez_7 => ?_)
      have hz_7 := Rg.at hR1 ez_7 (by have := o_cl (rfl : u.toInt = u.toInt) (by omega); omega) (by have := o_cl (rfl : u.toInt = u.toInt) (by omega); omega)
      refine lv_aload_n hx hb dX8_standsBetween_81 rfl (lv_at hl 0 rfl) ?_
      refine q_get (v := .ref k_y_) C hP 0 1 rfl rfl inX8 (by decide) kF_RX8_15 rfl rfl dX8_standsBetween_82 ?_
      refine lv_iload_n hx hb dX8_standsBetween_85 rfl (lv_at hl 2 rfl) ?_
      refine q_iald (v := z_1) C hP 2 rfl (o_in (rfl : v.toInt = v.toInt) (by omega) (by omega)) ez_1.symm dX8_standsBetween_86 ?_
      refine lv_aload_n hx hb dX8_standsBetween_87 rfl (lv_at hl 0 rfl) ?_
      refine q_get (v := .ref k_y_) C hP 0 1 rfl rfl inX8 (by decide) kF_RX8_15 rfl rfl dX8_standsBetween_88 ?_
      refine lv_iload_n hx hb dX8_standsBetween_91 rfl (lv_at hl 3 rfl) ?_
      refine q_iald (v := z_2) C hP 2 rfl (o_in (rfl : w.toInt = w.toInt) (by omega) (by omega)) ez_2.symm dX8_standsBetween_92 ?_
      refine q_ai (wr := [(k, .inr (8, [.ref k_x_, .ref k_y_, .ref k_web_, .ref k_asks_, .ref k_threads_, .int k_today, .int k_day, .ref k_seen_])), (k_x_, .inl (cy 1, 8, .inl k_x)), (k_y_, .inl (cy 1, 8, .inl k_y)), (k_web_, .inl (cy 1, 8, .inl k_web)), (k_asks_, .inl (cy 1, 8, .inl k_asks)), (k_threads_, .inl (cy 1, 64, .inl k_threads)), (k_seen_, .inl (cy 1, 8, .inl k_seen))]) (r_SN (rm := (Rm 0 0 0 0)) (As := [.int z_7, .int z_1, .int z_2]) (rest := []) (wc := []) C hS (q_subP hP [] rfl) (hD.sub [] (by decide) rfl) (o_isBetween l D cy z_7 z_1 z_2 _ ) kwS_X10_isBetween kN_RX8_50 ⟨Nat.le_of_ble_eq_true rfl, Nat.le_of_ble_eq_true rfl⟩ rfl hl.1 rfl (Nat.le_of_ble_eq_true rfl) dX8_standsBetween_93 ⟨hroom.1, hroom.2⟩) C.2.2.2.2.2.2.1 hP hD hS [] [0, 1, 2, 3, 4, 5, 6] rfl rfl (by decide) (by decide) (fun r_9 u_8 H locs hw_10 hP hD hS => ?_)
      have hp_10 : 0 ≤ r_9.toInt ∧ r_9.toInt ≤ 1 := hw_10
      refine lv_if_eq (tgt := 103) hx hb dX8_standsBetween_96 (by decide) (fun c_12 => ?_) (fun c_12 => ?_)
      · have hc_12 := o_eq (rfl : r_9.toInt = r_9.toInt) (by decide : (0 : Int32).toInt = 0) c_12
        refine lv_iconst (v := 0) hx hb dX8_standsBetween_103 (by decide) ?_
        refine o_wq hQ ?_
        exact q_iret (rm := (Rm 1 22 0 0)) C hS () rfl (show 0 ≤ (0 : Int32).toInt ∧ (0 : Int32).toInt ≤ 1 by decide) (q_subP hP [0, 1, 2, 3, 4, 5, 6] rfl) (hD.sub [0, 1, 2, 3, 4, 5, 6] (by decide) rfl) hroom.1 hroom.2 dX8_standsBetween_104
      · have hc_12 := o_ne (rfl : r_9.toInt = r_9.toInt) (by decide : (0 : Int32).toInt = 0) c_12
        have hnc_12 : 0 ≤ r_9.toInt + (-1) := by rcases Int.lt_or_gt_of_ne hc_12 with h9 | h9 <;> omega
        refine lv_iconst (v := 1) hx hb dX8_standsBetween_99 (by decide) ?_
        refine lv_goto (tgt := 104) hx hb dX8_standsBetween_100 (by decide) ?_
        refine o_wq hQ ?_
        exact q_iret (rm := (Rm 1 22 0 0)) C hS () rfl (show 0 ≤ (1 : Int32).toInt ∧ (1 : Int32).toInt ≤ 1 by decide) (q_subP hP [0, 1, 2, 3, 4, 5, 6] rfl) (hD.sub [0, 1, 2, 3, 4, 5, 6] (by decide) rfl) hroom.1 hroom.2 dX8_standsBetween_104
  · have hc_3 := o_eq (rfl : z_1.toInt = z_1.toInt) (rfl : z_2.toInt = z_2.toInt) c_3
    refine lv_aload_n hx hb dX8_standsBetween_15 rfl (lv_at hl 0 rfl) ?_
    refine q_get (v := .ref k_y_) C hP 0 1 rfl rfl inX8 (by decide) kF_RX8_15 rfl rfl dX8_standsBetween_16 ?_
    refine lv_iload_n hx hb dX8_standsBetween_19 rfl (lv_at hl 1 rfl) ?_
    refine q_iald (v := k_y u.toNatClampNeg) C hP 2 rfl (o_in (rfl : u.toInt = u.toInt) (by omega) (by omega)) rfl dX8_standsBetween_20 ?_
    refine lv_topi (fun z_13 ez_13 => ?_)
    have hz_13 := Rg.at hR1 ez_13 (by have := o_cl (rfl : u.toInt = u.toInt) (by omega); omega) (by have := o_cl (rfl : u.toInt = u.toInt) (by omega); omega)
    refine lv_aload_n hx hb dX8_standsBetween_21 rfl (lv_at hl 0 rfl) ?_
    refine q_get (v := .ref k_y_) C hP 0 1 rfl rfl inX8 (by decide) kF_RX8_15 rfl rfl dX8_standsBetween_22 ?_
    refine lv_iload_n hx hb dX8_standsBetween_25 rfl (lv_at hl 2 rfl) ?_
    refine q_iald (v := z_1) C hP 2 rfl (o_in (rfl : v.toInt = v.toInt) (by omega) (by omega)) ez_1.symm dX8_standsBetween_26 ?_
    refine lv_icmp_ne (tgt := 58) hx hb dX8_standsBetween_27 (by decide) (fun c_14 => ?_) (fun c_14 => ?_)
    · have hc_14 := o_ne (rfl : z_13.toInt = z_13.toInt) (rfl : z_1.toInt = z_1.toInt) c_14
      refine lv_iconst (v := 0) hx hb dX8_standsBetween_58 (by decide) ?_
      refine o_wq hQ ?_
      exact q_iret (rm := (Rm 1 22 0 0)) C hS () rfl (show 0 ≤ (0 : Int32).toInt ∧ (0 : Int32).toInt ≤ 1 by decide) (q_subP hP [0, 1, 2, 3, 4, 5, 6] rfl) (hD.sub [0, 1, 2, 3, 4, 5, 6] (by decide) rfl) hroom.1 hroom.2 dX8_standsBetween_59
    · have hc_14 := o_eq (rfl : z_13.toInt = z_13.toInt) (rfl : z_1.toInt = z_1.toInt) c_14
      refine lv_aload_n hx hb dX8_standsBetween_30 rfl (lv_at hl 0 rfl) ?_
      refine q_get (v := .ref k_x_) C hP 0 0 rfl rfl inX8 (by decide) kF_RX8_9 rfl rfl dX8_standsBetween_31 ?_
      refine lv_iload_n hx hb dX8_standsBetween_34 rfl (lv_at hl 1 rfl) ?_
      refine q_iald (v := k_x u.toNatClampNeg) C hP 1 rfl (o_in (rfl : u.toInt = u.toInt) (by omega) (by omega)) rfl dX8_standsBetween_35 ?_
      refine lv_topi (fun z_15 ez_15 => ?_)
      have hz_15 := Rg.at hR0 ez_15 (by have := o_cl (rfl : u.toInt = u.toInt) (by omega); omega) (by have := o_cl (rfl : u.toInt = u.toInt) (by omega); omega)
      refine lv_aload_n hx hb dX8_standsBetween_36 rfl (lv_at hl 0 rfl) ?_
      refine q_get (v := .ref k_x_) C hP 0 0 rfl rfl inX8 (by decide) kF_RX8_9 rfl rfl dX8_standsBetween_37 ?_
      refine lv_iload_n hx hb dX8_standsBetween_40 rfl (lv_at hl 2 rfl) ?_
      refine q_iald (v := k_x v.toNatClampNeg) C hP 1 rfl (o_in (rfl : v.toInt = v.toInt) (by omega) (by omega)) rfl dX8_standsBetween_41 ?_
      refine lv_topi (fun z_16 ez_16 => ?_)
      have hz_16 := Rg.at hR0 ez_16 (by have := o_cl (rfl : v.toInt = v.toInt) (by omega); omega) (by have := o_cl (rfl : v.toInt = v.toInt) (by omega); omega)
      refine lv_aload_n hx hb dX8_standsBetween_42 rfl (lv_at hl 0 rfl) ?_
      refine q_get (v := .ref k_x_) C hP 0 0 rfl rfl inX8 (by decide) kF_RX8_9 rfl rfl dX8_standsBetween_43 ?_
      refine lv_iload_n hx hb dX8_standsBetween_46 rfl (lv_at hl 3 rfl) ?_
      refine q_iald (v := k_x w.toNatClampNeg) C hP 1 rfl (o_in (rfl : w.toInt = w.toInt) (by omega) (by omega)) rfl dX8_standsBetween_47 ?_
      refine lv_topi (fun z_17 ez_17 => ?_)
      have hz_17 := Rg.at hR0 ez_17 (by have := o_cl (rfl : w.toInt = w.toInt) (by omega); omega) (by have := o_cl (rfl : w.toInt = w.toInt) (by omega); omega)
      refine q_ai (wr := [(k, .inr (8, [.ref k_x_, .ref k_y_, .ref k_web_, .ref k_asks_, .ref k_threads_, .int k_today, .int k_day, .ref k_seen_])), (k_x_, .inl (cy 1, 8, .inl k_x)), (k_y_, .inl (cy 1, 8, .inl k_y)), (k_web_, .inl (cy 1, 8, .inl k_web)), (k_asks_, .inl (cy 1, 8, .inl k_asks)), (k_threads_, .inl (cy 1, 64, .inl k_threads)), (k_seen_, .inl (cy 1, 8, .inl k_seen))]) (r_SN (rm := (Rm 0 0 0 0)) (As := [.int z_15, .int z_16, .int z_17]) (rest := []) (wc := []) C hS (q_subP hP [] rfl) (hD.sub [] (by decide) rfl) (o_isBetween l D cy z_15 z_16 z_17 _ ) kwS_X10_isBetween kN_RX8_50 ⟨Nat.le_of_ble_eq_true rfl, Nat.le_of_ble_eq_true rfl⟩ rfl hl.1 rfl (Nat.le_of_ble_eq_true rfl) dX8_standsBetween_48 ⟨hroom.1, hroom.2⟩) C.2.2.2.2.2.2.1 hP hD hS [] [0, 1, 2, 3, 4, 5, 6] rfl rfl (by decide) (by decide) (fun r_19 u_18 H locs hw_20 hP hD hS => ?_)
      have hp_20 : 0 ≤ r_19.toInt ∧ r_19.toInt ≤ 1 := hw_20
      refine lv_if_eq (tgt := 58) hx hb dX8_standsBetween_51 (by decide) (fun c_22 => ?_) (fun c_22 => ?_)
      · have hc_22 := o_eq (rfl : r_19.toInt = r_19.toInt) (by decide : (0 : Int32).toInt = 0) c_22
        refine lv_iconst (v := 0) hx hb dX8_standsBetween_58 (by decide) ?_
        refine o_wq hQ ?_
        exact q_iret (rm := (Rm 1 22 0 0)) C hS () rfl (show 0 ≤ (0 : Int32).toInt ∧ (0 : Int32).toInt ≤ 1 by decide) (q_subP hP [0, 1, 2, 3, 4, 5, 6] rfl) (hD.sub [0, 1, 2, 3, 4, 5, 6] (by decide) rfl) hroom.1 hroom.2 dX8_standsBetween_59
      · have hc_22 := o_ne (rfl : r_19.toInt = r_19.toInt) (by decide : (0 : Int32).toInt = 0) c_22
        have hnc_22 : 0 ≤ r_19.toInt + (-1) := by rcases Int.lt_or_gt_of_ne hc_22 with h9 | h9 <;> omega
        refine lv_iconst (v := 1) hx hb dX8_standsBetween_54 (by decide) ?_
        refine lv_goto (tgt := 59) hx hb dX8_standsBetween_55 (by decide) ?_
        refine o_wq hQ ?_
        exact q_iret (rm := (Rm 1 22 0 0)) C hS () rfl (show 0 ≤ (1 : Int32).toInt ∧ (1 : Int32).toInt ≤ 1 by decide) (q_subP hP [0, 1, 2, 3, 4, 5, 6] rfl) (hD.sub [0, 1, 2, 3, 4, 5, 6] (by decide) rfl) hroom.1 hroom.2 dX8_standsBetween_59
theorem o_standsBetween (l : Launch) (D : va_G) (cy : Nat → ClassId) (k : Nat) (u : Int32) (v : Int32) (w : Int32) (k_x_ : Nat) (k_y_ : Nat) (k_web_ : Nat) (k_asks_ : Nat) (k_threads_ : Nat) (k_today : Int32) (k_day : Int32) (k_seen_ : Nat) (k_x : Nat → Int32) (k_y : Nat → Int32) (k_web : Nat → Int32) (k_asks : Nat → Int32) (k_threads : Nat → Int32) (k_seen : Nat → Int32) (sz : Nat) (hb0 : 0 ≤ u.toInt ∧ u.toInt ≤ 7) (hb1 : 0 ≤ v.toInt ∧ v.toInt ≤ 7) (hb2 : 0 ≤ w.toInt ∧ w.toInt ≤ 7) (hR0 : Rg k_x 0 8 0 5) (hR1 : Rg k_y 0 8 0 5) : MI l yX8_standsBetween cX8_standsBetween 4 (some .boolean) (Rm 1 22 0 0) D cy [.ref k, .int u, .int v, .int w] sz [(k, .inr (8, [.ref k_x_, .ref k_y_, .ref k_web_, .ref k_asks_, .ref k_threads_, .int k_today, .int k_day, .ref k_seen_])), (k_x_, .inl (cy 1, 8, .inl k_x)), (k_y_, .inl (cy 1, 8, .inl k_y)), (k_web_, .inl (cy 1, 8, .inl k_web)), (k_asks_, .inl (cy 1, 8, .inl k_asks)), (k_threads_, .inl (cy 1, 64, .inl k_threads)), (k_seen_, .inl (cy 1, 8, .inl k_seen))] (fun (r : Int32) (u : Unit) => (0 ≤ r.toInt ∧ r.toInt ≤ 1)) (fun u : Unit => [(k, .inr (8, [.ref k_x_, .ref k_y_, .ref k_web_, .ref k_asks_, .ref k_threads_, .int k_today, .int k_day, .ref k_seen_])), (k_x_, .inl (cy 1, 8, .inl k_x)), (k_y_, .inl (cy 1, 8, .inl k_y)), (k_web_, .inl (cy 1, 8, .inl k_web)), (k_asks_, .inl (cy 1, 8, .inl k_asks)), (k_threads_, .inl (cy 1, 64, .inl k_threads)), (k_seen_, .inl (cy 1, 8, .inl k_seen))]) := by
  refine MI.enter (by decide) (Nat.le_of_ble_eq_true rfl) ?_
  intro p e s m below meth c ls A hsz hAe C hP hD hS hl
  exact b_o_standsBetween l D cy k u v w k_x_ k_y_ k_web_ k_asks_ k_threads_ k_today k_day k_seen_ k_x k_y k_web k_asks k_threads k_seen hb0 hb1 hb2 hR0 hR1 ⟨Nat.le_of_ble_eq_true rfl, Nat.le_of_ble_eq_true rfl⟩ C rfl _ _ ls hP hD hS hl
set_option maxHeartbeats 4000000 in
set_option maxRecDepth 100000 in
theorem b_o_isInSight (l : Launch) (D : va_G) (cy : Nat → ClassId) (k : Nat) (b : Int32) (v : Int32) (w : Int32) (k_x_ : Nat) (k_y_ : Nat) (k_web_ : Nat) (k_asks_ : Nat) (k_threads_ : Nat) (k_today : Int32) (k_day : Int32) (k_seen_ : Nat) (k_x : Nat → Int32) (k_y : Nat → Int32) (k_web : Nat → Int32) (k_asks : Nat → Int32) (k_threads : Nat → Int32) (k_seen : Nat → Int32) (hb0 : 0 ≤ b.toInt ∧ b.toInt ≤ 8) (hb1 : 0 ≤ v.toInt ∧ v.toInt ≤ 7) (hb2 : 0 ≤ w.toInt ∧ w.toInt ≤ 7) (hR0 : Rg k_x 0 8 0 5) (hR1 : Rg k_y 0 8 0 5) {p : Program} {e : Env} {s : State} {m : MethodId} {args : Array Value} {below : List Frame} {meth : Method} {c : Code} {A : Nat → Prop} {Q : State → Prop} {cells slots : Nat} (hroom : cells ≤ ((Rm 2 45 0 0)).cells ∧ slots ≤ ((Rm 2 45 0 0)).slots) (C : Cx p s m args meth c cX8_isInSight 5 (some .boolean) RX8 "isInSight" D cy A) (hQ : Q = MQ below (va_Qi (fun (r : Int32) (u : Unit) => (0 ≤ r.toInt ∧ r.toInt ≤ 1)) (Bx D A (fun u : Unit => [(k, .inr (8, [.ref k_x_, .ref k_y_, .ref k_web_, .ref k_asks_, .ref k_threads_, .int k_today, .int k_day, .ref k_seen_])), (k_x_, .inl (cy 1, 8, .inl k_x)), (k_y_, .inl (cy 1, 8, .inl k_y)), (k_web_, .inl (cy 1, 8, .inl k_web)), (k_asks_, .inl (cy 1, 8, .inl k_asks)), (k_threads_, .inl (cy 1, 64, .inl k_threads)), (k_seen_, .inl (cy 1, 8, .inl k_seen))])) A) args s ((Rm 2 45 0 0)).cells ((Rm 2 45 0 0)).slots A) (H : Heap) (locs : List Loc) (ls : Array Slot) (hP : va_P D vwCl [(k, .inr (8, [.ref k_x_, .ref k_y_, .ref k_web_, .ref k_asks_, .ref k_threads_, .int k_today, .int k_day, .ref k_seen_])), (k_x_, .inl (cy 1, 8, .inl k_x)), (k_y_, .inl (cy 1, 8, .inl k_y)), (k_web_, .inl (cy 1, 8, .inl k_web)), (k_asks_, .inl (cy 1, 8, .inl k_asks)), (k_threads_, .inl (cy 1, 64, .inl k_threads)), (k_seen_, .inl (cy 1, 8, .inl k_seen))] H) (hD : va_D A [(k, .inr (8, [.ref k_x_, .ref k_y_, .ref k_web_, .ref k_asks_, .ref k_threads_, .int k_today, .int k_day, .ref k_seen_])), (k_x_, .inl (cy 1, 8, .inl k_x)), (k_y_, .inl (cy 1, 8, .inl k_y)), (k_web_, .inl (cy 1, 8, .inl k_web)), (k_asks_, .inl (cy 1, 8, .inl k_asks)), (k_threads_, .inl (cy 1, 64, .inl k_threads)), (k_seen_, .inl (cy 1, 8, .inl k_seen))]) (hS : va_S A s.heap H locs) (hl : lv_has ls 5 [(0, .ref k), (1, .int b), (2, .int v), (3, .int w)]) : W p l e (Rm 2 45 0 0) s m args below meth c H locs cells slots Q (F0 m 0 ls []) := by
  have hx := C.1
  have hb := C.2.1
  refine lv_aload_n hx hb dX8_isInSight_0 rfl (lv_at hl 0 rfl) ?_
  refine q_get (v := .ref k_x_) C hP 0 0 rfl rfl inX8 (by decide) kF_RX8_9 rfl rfl dX8_isInSight_1 ?_
  refine lv_iload_n hx hb dX8_isInSight_4 rfl (lv_at hl 2 rfl) ?_
  refine q_iald (v := k_x v.toNatClampNeg) C hP 1 rfl (o_in (rfl : v.toInt = v.toInt) (by omega) (by omega)) rfl dX8_isInSight_5 ?_
  refine lv_topi (fun z_1 ez_1 => ?_)
  have hz_1 := Rg.at hR0 ez_1 (by have := o_cl (rfl : v.toInt = v.toInt) (by omega); omega) (by have := o_cl (rfl : v.toInt = v.toInt) (by omega); omega)
  refine lv_aload_n hx hb dX8_isInSight_6 rfl (lv_at hl 0 rfl) ?_
  refine q_get (v := .ref k_x_) C hP 0 0 rfl rfl inX8 (by decide) kF_RX8_9 rfl rfl dX8_isInSight_7 ?_
  refine lv_iload_n hx hb dX8_isInSight_10 rfl (lv_at hl 3 rfl) ?_
  refine q_iald (v := k_x w.toNatClampNeg) C hP 1 rfl (o_in (rfl : w.toInt = w.toInt) (by omega) (by omega)) rfl dX8_isInSight_11 ?_
  refine lv_topi (fun z_2 ez_2 => ?_)
  have hz_2 := Rg.at hR0 ez_2 (by have := o_cl (rfl : w.toInt = w.toInt) (by omega); omega) (by have := o_cl (rfl : w.toInt = w.toInt) (by omega); omega)
  refine lv_icmp_eq (tgt := 32) hx hb dX8_isInSight_12 (by decide) (fun c_3 => ?_) (fun c_3 => ?_)
  · have hc_3 := o_eq (rfl : z_1.toInt = z_1.toInt) (rfl : z_2.toInt = z_2.toInt) c_3
    refine lv_iconst (v := 0) hx hb dX8_isInSight_32 (by decide) ?_
    refine lv_istore (lv' := [(4, .int 0), (0, .ref k), (1, .int b), (2, .int v), (3, .int w)]) hx hb dX8_isInSight_33 hl (by decide) rfl (fun ls hl => ?_)
    have lp_35_4 : ∀ (n_5 : Nat) (x_4 : Int32) (H : Heap) (locs : List Loc) (ls : Array Slot), (-1) * x_4.toInt + 8 < (n_5 : Int) → (0 ≤ x_4.toInt ∧ x_4.toInt ≤ 8) → va_P D vwCl [(k, .inr (8, [.ref k_x_, .ref k_y_, .ref k_web_, .ref k_asks_, .ref k_threads_, .int k_today, .int k_day, .ref k_seen_])), (k_x_, .inl (cy 1, 8, .inl k_x)), (k_y_, .inl (cy 1, 8, .inl k_y)), (k_web_, .inl (cy 1, 8, .inl k_web)), (k_asks_, .inl (cy 1, 8, .inl k_asks)), (k_threads_, .inl (cy 1, 64, .inl k_threads)), (k_seen_, .inl (cy 1, 8, .inl k_seen))] H → va_D A [(k, .inr (8, [.ref k_x_, .ref k_y_, .ref k_web_, .ref k_asks_, .ref k_threads_, .int k_today, .int k_day, .ref k_seen_])), (k_x_, .inl (cy 1, 8, .inl k_x)), (k_y_, .inl (cy 1, 8, .inl k_y)), (k_web_, .inl (cy 1, 8, .inl k_web)), (k_asks_, .inl (cy 1, 8, .inl k_asks)), (k_threads_, .inl (cy 1, 64, .inl k_threads)), (k_seen_, .inl (cy 1, 8, .inl k_seen))] → va_S A s.heap H locs → lv_has ls 5 [(0, .ref k), (1, .int b), (2, .int v), (3, .int w), (4, .int x_4)] → W p l e (Rm 2 45 0 0) s m args below meth c H locs cells slots Q (F0 m 35 ls []) := by
      intro n_5
      induction n_5 with
      | zero =>
        intro x_4 H locs ls hm_7 hf_6 hP hD hS hl
        exact absurd hm_7 (by omega)
      | succ n_5 ih_8 =>
        intro x_4 H locs ls hm_7 hf_6 hP hD hS hl
        refine lv_iload hx hb dX8_isInSight_35 (lv_at hl 4 rfl) ?_
        refine lv_iload_n hx hb dX8_isInSight_37 rfl (lv_at hl 1 rfl) ?_
        refine lv_icmp_ge (tgt := 72) hx hb dX8_isInSight_38 (by decide) (fun c_10 => ?_) (fun c_10 => ?_)
        · have hc_10 := o_le (rfl : b.toInt = b.toInt) (rfl : x_4.toInt = x_4.toInt) c_10
          refine lv_iconst (v := 1) hx hb dX8_isInSight_72 (by decide) ?_
          refine o_wq hQ ?_
          exact q_iret (rm := (Rm 2 45 0 0)) C hS () rfl (show 0 ≤ (1 : Int32).toInt ∧ (1 : Int32).toInt ≤ 1 by decide) (q_subP hP [0, 1, 2, 3, 4, 5, 6] rfl) (hD.sub [0, 1, 2, 3, 4, 5, 6] (by decide) rfl) hroom.1 hroom.2 dX8_isInSight_73
        · have hc_10 := o_nle (rfl : b.toInt = b.toInt) (rfl : x_4.toInt = x_4.toInt) c_10
          refine lv_iload hx hb dX8_isInSight_41 (lv_at hl 4 rfl) ?_
          refine lv_iload_n hx hb dX8_isInSight_43 rfl (lv_at hl 2 rfl) ?_
          refine lv_icmp_eq (tgt := 66) hx hb dX8_isInSight_44 (by decide) (fun c_11 => ?_) (fun c_11 => ?_)
          · have hc_11 := o_eq (rfl : x_4.toInt = x_4.toInt) (rfl : v.toInt = v.toInt) c_11
            obtain ⟨z_12, hz_12⟩ : ∃ z : Int32, z = x_4 + 1 := ⟨_, rfl⟩
            refine lv_iinc (v := z_12) (lv' := [(4, .int z_12), (0, .ref k), (1, .int b), (2, .int v), (3, .int w)]) hx hb dX8_isInSight_66 hl (k := 4) rfl hz_12.symm (by decide) rfl (fun ls hl => ?_)
            have hz_12 := o_add hz_12 (rfl : x_4.toInt = x_4.toInt) (by decide : (1 : Int32).toInt = 1) (by omega) (by omega)
            refine lv_goto (tgt := 35) hx hb dX8_isInSight_69 (by decide) ?_
            exact ih_8 z_12 H locs ls (by omega) (by omega) hP hD hS (lv_sub hl [1, 2, 3, 4, 0] rfl)
          · have hc_11 := o_ne (rfl : x_4.toInt = x_4.toInt) (rfl : v.toInt = v.toInt) c_11
            refine lv_iload hx hb dX8_isInSight_47 (lv_at hl 4 rfl) ?_
            refine lv_iload_n hx hb dX8_isInSight_49 rfl (lv_at hl 3 rfl) ?_
            refine lv_icmp_eq (tgt := 66) hx hb dX8_isInSight_50 (by decide) (fun c_13 => ?_) (fun c_13 => ?_)
            · have hc_13 := o_eq (rfl : x_4.toInt = x_4.toInt) (rfl : w.toInt = w.toInt) c_13
              obtain ⟨z_14, hz_14⟩ : ∃ z : Int32, z = x_4 + 1 := ⟨_, rfl⟩
              refine lv_iinc (v := z_14) (lv' := [(4, .int z_14), (0, .ref k), (1, .int b), (2, .int v), (3, .int w)]) hx hb dX8_isInSight_66 hl (k := 4) rfl hz_14.symm (by decide) rfl (fun ls hl => ?_)
              have hz_14 := o_add hz_14 (rfl : x_4.toInt = x_4.toInt) (by decide : (1 : Int32).toInt = 1) (by omega) (by omega)
              refine lv_goto (tgt := 35) hx hb dX8_isInSight_69 (by decide) ?_
              exact ih_8 z_14 H locs ls (by omega) (by omega) hP hD hS (lv_sub hl [1, 2, 3, 4, 0] rfl)
            · have hc_13 := o_ne (rfl : x_4.toInt = x_4.toInt) (rfl : w.toInt = w.toInt) c_13
              refine lv_aload_n hx hb dX8_isInSight_53 rfl (lv_at hl 0 rfl) ?_
              refine lv_iload hx hb dX8_isInSight_54 (lv_at hl 4 rfl) ?_
              refine lv_iload_n hx hb dX8_isInSight_56 rfl (lv_at hl 2 rfl) ?_
              refine lv_iload_n hx hb dX8_isInSight_57 rfl (lv_at hl 3 rfl) ?_
              refine q_ai (wr := []) (r_V (rm := (Rm 1 22 0 0)) (q0 := 0) (As := [.int x_4, .int v, .int w]) (rest := []) (wc := [(k, .inr (8, [.ref k_x_, .ref k_y_, .ref k_web_, .ref k_asks_, .ref k_threads_, .int k_today, .int k_day, .ref k_seen_])), (k_x_, .inl (cy 1, 8, .inl k_x)), (k_y_, .inl (cy 1, 8, .inl k_y)), (k_web_, .inl (cy 1, 8, .inl k_web)), (k_asks_, .inl (cy 1, 8, .inl k_asks)), (k_threads_, .inl (cy 1, 64, .inl k_threads)), (k_seen_, .inl (cy 1, 8, .inl k_seen))]) C hS (q_subP hP [0, 1, 2, 3, 4, 5, 6] rfl) (hD.sub [0, 1, 2, 3, 4, 5, 6] (by decide) rfl) (o_standsBetween l D cy k x_4 v w k_x_ k_y_ k_web_ k_asks_ k_threads_ k_today k_day k_seen_ k_x k_y k_web k_asks k_threads k_seen _ (by omega) (by omega) (by omega) hR0 hR1) kwV_X8_standsBetween kM_RX8_47 rfl rfl ⟨Nat.le_of_ble_eq_true rfl, Nat.le_of_ble_eq_true rfl⟩ rfl hl.1 rfl (Nat.le_of_ble_eq_true rfl) dX8_isInSight_58 ⟨hroom.1, hroom.2⟩) C.2.2.2.2.2.2.1 hP hD hS [0, 1, 2, 3, 4, 5, 6] [] rfl rfl (by decide) (by decide) (fun r_16 u_15 H locs hw_17 hP hD hS => ?_)
              have hp_17 : 0 ≤ r_16.toInt ∧ r_16.toInt ≤ 1 := hw_17
              refine lv_if_eq (tgt := 66) hx hb dX8_isInSight_61 (by decide) (fun c_19 => ?_) (fun c_19 => ?_)
              · have hc_19 := o_eq (rfl : r_16.toInt = r_16.toInt) (by decide : (0 : Int32).toInt = 0) c_19
                obtain ⟨z_20, hz_20⟩ : ∃ z : Int32, z = x_4 + 1 := ⟨_, rfl⟩
                refine lv_iinc (v := z_20) (lv' := [(4, .int z_20), (0, .ref k), (1, .int b), (2, .int v), (3, .int w)]) hx hb dX8_isInSight_66 hl (k := 4) rfl hz_20.symm (by decide) rfl (fun ls hl => ?_)
                have hz_20 := o_add hz_20 (rfl : x_4.toInt = x_4.toInt) (by decide : (1 : Int32).toInt = 1) (by omega) (by omega)
                refine lv_goto (tgt := 35) hx hb dX8_isInSight_69 (by decide) ?_
                exact ih_8 z_20 H locs ls (by omega) (by omega) hP hD hS (lv_sub hl [1, 2, 3, 4, 0] rfl)
              · have hc_19 := o_ne (rfl : r_16.toInt = r_16.toInt) (by decide : (0 : Int32).toInt = 0) c_19
                have hnc_19 : 0 ≤ r_16.toInt + (-1) := by rcases Int.lt_or_gt_of_ne hc_19 with h9 | h9 <;> omega
                refine lv_iconst (v := 0) hx hb dX8_isInSight_64 (by decide) ?_
                refine o_wq hQ ?_
                exact q_iret (rm := (Rm 2 45 0 0)) C hS () rfl (show 0 ≤ (0 : Int32).toInt ∧ (0 : Int32).toInt ≤ 1 by decide) (q_subP hP [0, 1, 2, 3, 4, 5, 6] rfl) (hD.sub [0, 1, 2, 3, 4, 5, 6] (by decide) rfl) hroom.1 hroom.2 dX8_isInSight_65
    exact lp_35_4 9 (0 : Int32) H locs ls (by have e0 : (0 : Int32).toInt = 0 := (by decide); omega) (by have e0 : (0 : Int32).toInt = 0 := (by decide); omega) hP hD hS (lv_sub hl [1, 2, 3, 4, 0] rfl)
  · have hc_3 := o_ne (rfl : z_1.toInt = z_1.toInt) (rfl : z_2.toInt = z_2.toInt) c_3
    refine lv_aload_n hx hb dX8_isInSight_15 rfl (lv_at hl 0 rfl) ?_
    refine q_get (v := .ref k_y_) C hP 0 1 rfl rfl inX8 (by decide) kF_RX8_15 rfl rfl dX8_isInSight_16 ?_
    refine lv_iload_n hx hb dX8_isInSight_19 rfl (lv_at hl 2 rfl) ?_
    refine q_iald (v := k_y v.toNatClampNeg) C hP 2 rfl (o_in (rfl : v.toInt = v.toInt) (by omega) (by omega)) rfl dX8_isInSight_20 ?_
    refine lv_topi (fun z_21 ez_21 => ?_)
    have hz_21 := Rg.at hR1 ez_21 (by have := o_cl (rfl : v.toInt = v.toInt) (by omega); omega) (by have := o_cl (rfl : v.toInt = v.toInt) (by omega); omega)
    refine lv_aload_n hx hb dX8_isInSight_21 rfl (lv_at hl 0 rfl) ?_
    refine q_get (v := .ref k_y_) C hP 0 1 rfl rfl inX8 (by decide) kF_RX8_15 rfl rfl dX8_isInSight_22 ?_
    refine lv_iload_n hx hb dX8_isInSight_25 rfl (lv_at hl 3 rfl) ?_
    refine q_iald (v := k_y w.toNatClampNeg) C hP 2 rfl (o_in (rfl : w.toInt = w.toInt) (by omega) (by omega)) rfl dX8_isInSight_26 ?_
    refine lv_topi (fun z_22 ez_22 => ?_)
    have hz_22 := Rg.at hR1 ez_22 (by have := o_cl (rfl : w.toInt = w.toInt) (by omega); omega) (by have := o_cl (rfl : w.toInt = w.toInt) (by omega); omega)
    refine lv_icmp_eq (tgt := 32) hx hb dX8_isInSight_27 (by decide) (fun c_23 => ?_) (fun c_23 => ?_)
    · have hc_23 := o_eq (rfl : z_21.toInt = z_21.toInt) (rfl : z_22.toInt = z_22.toInt) c_23
      refine lv_iconst (v := 0) hx hb dX8_isInSight_32 (by decide) ?_
      refine lv_istore (lv' := [(4, .int 0), (0, .ref k), (1, .int b), (2, .int v), (3, .int w)]) hx hb dX8_isInSight_33 hl (by decide) rfl (fun ls hl => ?_)
      have lp_35_24 : ∀ (n_25 : Nat) (x_24 : Int32) (H : Heap) (locs : List Loc) (ls : Array Slot), (-1) * x_24.toInt + 8 < (n_25 : Int) → (0 ≤ x_24.toInt ∧ x_24.toInt ≤ 8) → va_P D vwCl [(k, .inr (8, [.ref k_x_, .ref k_y_, .ref k_web_, .ref k_asks_, .ref k_threads_, .int k_today, .int k_day, .ref k_seen_])), (k_x_, .inl (cy 1, 8, .inl k_x)), (k_y_, .inl (cy 1, 8, .inl k_y)), (k_web_, .inl (cy 1, 8, .inl k_web)), (k_asks_, .inl (cy 1, 8, .inl k_asks)), (k_threads_, .inl (cy 1, 64, .inl k_threads)), (k_seen_, .inl (cy 1, 8, .inl k_seen))] H → va_D A [(k, .inr (8, [.ref k_x_, .ref k_y_, .ref k_web_, .ref k_asks_, .ref k_threads_, .int k_today, .int k_day, .ref k_seen_])), (k_x_, .inl (cy 1, 8, .inl k_x)), (k_y_, .inl (cy 1, 8, .inl k_y)), (k_web_, .inl (cy 1, 8, .inl k_web)), (k_asks_, .inl (cy 1, 8, .inl k_asks)), (k_threads_, .inl (cy 1, 64, .inl k_threads)), (k_seen_, .inl (cy 1, 8, .inl k_seen))] → va_S A s.heap H locs → lv_has ls 5 [(0, .ref k), (1, .int b), (2, .int v), (3, .int w), (4, .int x_24)] → W p l e (Rm 2 45 0 0) s m args below meth c H locs cells slots Q (F0 m 35 ls []) := by
        intro n_25
        induction n_25 with
        | zero =>
          intro x_24 H locs ls hm_27 hf_26 hP hD hS hl
          exact absurd hm_27 (by omega)
        | succ n_25 ih_28 =>
          intro x_24 H locs ls hm_27 hf_26 hP hD hS hl
          refine lv_iload hx hb dX8_isInSight_35 (lv_at hl 4 rfl) ?_
          refine lv_iload_n hx hb dX8_isInSight_37 rfl (lv_at hl 1 rfl) ?_
          refine lv_icmp_ge (tgt := 72) hx hb dX8_isInSight_38 (by decide) (fun c_30 => ?_) (fun c_30 => ?_)
          · have hc_30 := o_le (rfl : b.toInt = b.toInt) (rfl : x_24.toInt = x_24.toInt) c_30
            refine lv_iconst (v := 1) hx hb dX8_isInSight_72 (by decide) ?_
            refine o_wq hQ ?_
            exact q_iret (rm := (Rm 2 45 0 0)) C hS () rfl (show 0 ≤ (1 : Int32).toInt ∧ (1 : Int32).toInt ≤ 1 by decide) (q_subP hP [0, 1, 2, 3, 4, 5, 6] rfl) (hD.sub [0, 1, 2, 3, 4, 5, 6] (by decide) rfl) hroom.1 hroom.2 dX8_isInSight_73
          · have hc_30 := o_nle (rfl : b.toInt = b.toInt) (rfl : x_24.toInt = x_24.toInt) c_30
            refine lv_iload hx hb dX8_isInSight_41 (lv_at hl 4 rfl) ?_
            refine lv_iload_n hx hb dX8_isInSight_43 rfl (lv_at hl 2 rfl) ?_
            refine lv_icmp_eq (tgt := 66) hx hb dX8_isInSight_44 (by decide) (fun c_31 => ?_) (fun c_31 => ?_)
            · have hc_31 := o_eq (rfl : x_24.toInt = x_24.toInt) (rfl : v.toInt = v.toInt) c_31
              obtain ⟨z_32, hz_32⟩ : ∃ z : Int32, z = x_24 + 1 := ⟨_, rfl⟩
              refine lv_iinc (v := z_32) (lv' := [(4, .int z_32), (0, .ref k), (1, .int b), (2, .int v), (3, .int w)]) hx hb dX8_isInSight_66 hl (k := 4) rfl hz_32.symm (by decide) rfl (fun ls hl => ?_)
              have hz_32 := o_add hz_32 (rfl : x_24.toInt = x_24.toInt) (by decide : (1 : Int32).toInt = 1) (by omega) (by omega)
              refine lv_goto (tgt := 35) hx hb dX8_isInSight_69 (by decide) ?_
              exact ih_28 z_32 H locs ls (by omega) (by omega) hP hD hS (lv_sub hl [1, 2, 3, 4, 0] rfl)
            · have hc_31 := o_ne (rfl : x_24.toInt = x_24.toInt) (rfl : v.toInt = v.toInt) c_31
              refine lv_iload hx hb dX8_isInSight_47 (lv_at hl 4 rfl) ?_
              refine lv_iload_n hx hb dX8_isInSight_49 rfl (lv_at hl 3 rfl) ?_
              refine lv_icmp_eq (tgt := 66) hx hb dX8_isInSight_50 (by decide) (fun c_33 => ?_) (fun c_33 => ?_)
              · have hc_33 := o_eq (rfl : x_24.toInt = x_24.toInt) (rfl : w.toInt = w.toInt) c_33
                obtain ⟨z_34, hz_34⟩ : ∃ z : Int32, z = x_24 + 1 := ⟨_, rfl⟩
                refine lv_iinc (v := z_34) (lv' := [(4, .int z_34), (0, .ref k), (1, .int b), (2, .int v), (3, .int w)]) hx hb dX8_isInSight_66 hl (k := 4) rfl hz_34.symm (by decide) rfl (fun ls hl => ?_)
                have hz_34 := o_add hz_34 (rfl : x_24.toInt = x_24.toInt) (by decide : (1 : Int32).toInt = 1) (by omega) (by omega)
                refine lv_goto (tgt := 35) hx hb dX8_isInSight_69 (by decide) ?_
                exact ih_28 z_34 H locs ls (by omega) (by omega) hP hD hS (lv_sub hl [1, 2, 3, 4, 0] rfl)
              · have hc_33 := o_ne (rfl : x_24.toInt = x_24.toInt) (rfl : w.toInt = w.toInt) c_33
                refine lv_aload_n hx hb dX8_isInSight_53 rfl (lv_at hl 0 rfl) ?_
                refine lv_iload hx hb dX8_isInSight_54 (lv_at hl 4 rfl) ?_
                refine lv_iload_n hx hb dX8_isInSight_56 rfl (lv_at hl 2 rfl) ?_
                refine lv_iload_n hx hb dX8_isInSight_57 rfl (lv_at hl 3 rfl) ?_
                refine q_ai (wr := []) (r_V (rm := (Rm 1 22 0 0)) (q0 := 0) (As := [.int x_24, .int v, .int w]) (rest := []) (wc := [(k, .inr (8, [.ref k_x_, .ref k_y_, .ref k_web_, .ref k_asks_, .ref k_threads_, .int k_today, .int k_day, .ref k_seen_])), (k_x_, .inl (cy 1, 8, .inl k_x)), (k_y_, .inl (cy 1, 8, .inl k_y)), (k_web_, .inl (cy 1, 8, .inl k_web)), (k_asks_, .inl (cy 1, 8, .inl k_asks)), (k_threads_, .inl (cy 1, 64, .inl k_threads)), (k_seen_, .inl (cy 1, 8, .inl k_seen))]) C hS (q_subP hP [0, 1, 2, 3, 4, 5, 6] rfl) (hD.sub [0, 1, 2, 3, 4, 5, 6] (by decide) rfl) (o_standsBetween l D cy k x_24 v w k_x_ k_y_ k_web_ k_asks_ k_threads_ k_today k_day k_seen_ k_x k_y k_web k_asks k_threads k_seen _ (by omega) (by omega) (by omega) hR0 hR1) kwV_X8_standsBetween kM_RX8_47 rfl rfl ⟨Nat.le_of_ble_eq_true rfl, Nat.le_of_ble_eq_true rfl⟩ rfl hl.1 rfl (Nat.le_of_ble_eq_true rfl) dX8_isInSight_58 ⟨hroom.1, hroom.2⟩) C.2.2.2.2.2.2.1 hP hD hS [0, 1, 2, 3, 4, 5, 6] [] rfl rfl (by decide) (by decide) (fun r_36 u_35 H locs hw_37 hP hD hS => ?_)
                have hp_37 : 0 ≤ r_36.toInt ∧ r_36.toInt ≤ 1 := hw_37
                refine lv_if_eq (tgt := 66) hx hb dX8_isInSight_61 (by decide) (fun c_39 => ?_) (fun c_39 => ?_)
                · have hc_39 := o_eq (rfl : r_36.toInt = r_36.toInt) (by decide : (0 : Int32).toInt = 0) c_39
                  obtain ⟨z_40, hz_40⟩ : ∃ z : Int32, z = x_24 + 1 := ⟨_, rfl⟩
                  refine lv_iinc (v := z_40) (lv' := [(4, .int z_40), (0, .ref k), (1, .int b), (2, .int v), (3, .int w)]) hx hb dX8_isInSight_66 hl (k := 4) rfl hz_40.symm (by decide) rfl (fun ls hl => ?_)
                  have hz_40 := o_add hz_40 (rfl : x_24.toInt = x_24.toInt) (by decide : (1 : Int32).toInt = 1) (by omega) (by omega)
                  refine lv_goto (tgt := 35) hx hb dX8_isInSight_69 (by decide) ?_
                  exact ih_28 z_40 H locs ls (by omega) (by omega) hP hD hS (lv_sub hl [1, 2, 3, 4, 0] rfl)
                · have hc_39 := o_ne (rfl : r_36.toInt = r_36.toInt) (by decide : (0 : Int32).toInt = 0) c_39
                  have hnc_39 : 0 ≤ r_36.toInt + (-1) := by rcases Int.lt_or_gt_of_ne hc_39 with h9 | h9 <;> omega
                  refine lv_iconst (v := 0) hx hb dX8_isInSight_64 (by decide) ?_
                  refine o_wq hQ ?_
                  exact q_iret (rm := (Rm 2 45 0 0)) C hS () rfl (show 0 ≤ (0 : Int32).toInt ∧ (0 : Int32).toInt ≤ 1 by decide) (q_subP hP [0, 1, 2, 3, 4, 5, 6] rfl) (hD.sub [0, 1, 2, 3, 4, 5, 6] (by decide) rfl) hroom.1 hroom.2 dX8_isInSight_65
      exact lp_35_24 9 (0 : Int32) H locs ls (by have e0 : (0 : Int32).toInt = 0 := (by decide); omega) (by have e0 : (0 : Int32).toInt = 0 := (by decide); omega) hP hD hS (lv_sub hl [1, 2, 3, 4, 0] rfl)
    · have hc_23 := o_ne (rfl : z_21.toInt = z_21.toInt) (rfl : z_22.toInt = z_22.toInt) c_23
      refine lv_iconst (v := 0) hx hb dX8_isInSight_30 (by decide) ?_
      refine o_wq hQ ?_
      exact q_iret (rm := (Rm 2 45 0 0)) C hS () rfl (show 0 ≤ (0 : Int32).toInt ∧ (0 : Int32).toInt ≤ 1 by decide) (q_subP hP [0, 1, 2, 3, 4, 5, 6] rfl) (hD.sub [0, 1, 2, 3, 4, 5, 6] (by decide) rfl) hroom.1 hroom.2 dX8_isInSight_31
theorem o_isInSight (l : Launch) (D : va_G) (cy : Nat → ClassId) (k : Nat) (b : Int32) (v : Int32) (w : Int32) (k_x_ : Nat) (k_y_ : Nat) (k_web_ : Nat) (k_asks_ : Nat) (k_threads_ : Nat) (k_today : Int32) (k_day : Int32) (k_seen_ : Nat) (k_x : Nat → Int32) (k_y : Nat → Int32) (k_web : Nat → Int32) (k_asks : Nat → Int32) (k_threads : Nat → Int32) (k_seen : Nat → Int32) (sz : Nat) (hb0 : 0 ≤ b.toInt ∧ b.toInt ≤ 8) (hb1 : 0 ≤ v.toInt ∧ v.toInt ≤ 7) (hb2 : 0 ≤ w.toInt ∧ w.toInt ≤ 7) (hR0 : Rg k_x 0 8 0 5) (hR1 : Rg k_y 0 8 0 5) : MI l yX8_isInSight cX8_isInSight 5 (some .boolean) (Rm 2 45 0 0) D cy [.ref k, .int b, .int v, .int w] sz [(k, .inr (8, [.ref k_x_, .ref k_y_, .ref k_web_, .ref k_asks_, .ref k_threads_, .int k_today, .int k_day, .ref k_seen_])), (k_x_, .inl (cy 1, 8, .inl k_x)), (k_y_, .inl (cy 1, 8, .inl k_y)), (k_web_, .inl (cy 1, 8, .inl k_web)), (k_asks_, .inl (cy 1, 8, .inl k_asks)), (k_threads_, .inl (cy 1, 64, .inl k_threads)), (k_seen_, .inl (cy 1, 8, .inl k_seen))] (fun (r : Int32) (u : Unit) => (0 ≤ r.toInt ∧ r.toInt ≤ 1)) (fun u : Unit => [(k, .inr (8, [.ref k_x_, .ref k_y_, .ref k_web_, .ref k_asks_, .ref k_threads_, .int k_today, .int k_day, .ref k_seen_])), (k_x_, .inl (cy 1, 8, .inl k_x)), (k_y_, .inl (cy 1, 8, .inl k_y)), (k_web_, .inl (cy 1, 8, .inl k_web)), (k_asks_, .inl (cy 1, 8, .inl k_asks)), (k_threads_, .inl (cy 1, 64, .inl k_threads)), (k_seen_, .inl (cy 1, 8, .inl k_seen))]) := by
  refine MI.enter (by decide) (Nat.le_of_ble_eq_true rfl) ?_
  intro p e s m below meth c ls A hsz hAe C hP hD hS hl
  exact b_o_isInSight l D cy k b v w k_x_ k_y_ k_web_ k_asks_ k_threads_ k_today k_day k_seen_ k_x k_y k_web k_asks k_threads k_seen hb0 hb1 hb2 hR0 hR1 ⟨Nat.le_of_ble_eq_true rfl, Nat.le_of_ble_eq_true rfl⟩ C rfl _ _ ls hP hD hS hl
set_option maxHeartbeats 4000000 in
set_option maxRecDepth 100000 in
theorem b_o_seenFrom (l : Launch) (D : va_G) (cy : Nat → ClassId) (k : Nat) (b : Int32) (v : Int32) (k_x_ : Nat) (k_y_ : Nat) (k_web_ : Nat) (k_asks_ : Nat) (k_threads_ : Nat) (k_today : Int32) (k_day : Int32) (k_seen_ : Nat) (k_x : Nat → Int32) (k_y : Nat → Int32) (k_web : Nat → Int32) (k_asks : Nat → Int32) (k_threads : Nat → Int32) (k_seen : Nat → Int32) (hb0 : 0 ≤ b.toInt ∧ b.toInt ≤ 8) (hb1 : 0 ≤ v.toInt ∧ v.toInt ≤ 7) (hR0 : Rg k_x 0 8 0 5) (hR1 : Rg k_y 0 8 0 5) {p : Program} {e : Env} {s : State} {m : MethodId} {args : Array Value} {below : List Frame} {meth : Method} {c : Code} {A : Nat → Prop} {Q : State → Prop} {cells slots : Nat} (hroom : cells ≤ ((Rm 3 69 0 0)).cells ∧ slots ≤ ((Rm 3 69 0 0)).slots) (C : Cx p s m args meth c cX8_seenFrom 5 (some .int) RX8 "seenFrom" D cy A) (hQ : Q = MQ below (va_Qi (fun (r : Int32) (u : Unit) => True) (Bx D A (fun u : Unit => [(k, .inr (8, [.ref k_x_, .ref k_y_, .ref k_web_, .ref k_asks_, .ref k_threads_, .int k_today, .int k_day, .ref k_seen_])), (k_x_, .inl (cy 1, 8, .inl k_x)), (k_y_, .inl (cy 1, 8, .inl k_y)), (k_web_, .inl (cy 1, 8, .inl k_web)), (k_asks_, .inl (cy 1, 8, .inl k_asks)), (k_threads_, .inl (cy 1, 64, .inl k_threads)), (k_seen_, .inl (cy 1, 8, .inl k_seen))])) A) args s ((Rm 3 69 0 0)).cells ((Rm 3 69 0 0)).slots A) (H : Heap) (locs : List Loc) (ls : Array Slot) (hP : va_P D vwCl [(k, .inr (8, [.ref k_x_, .ref k_y_, .ref k_web_, .ref k_asks_, .ref k_threads_, .int k_today, .int k_day, .ref k_seen_])), (k_x_, .inl (cy 1, 8, .inl k_x)), (k_y_, .inl (cy 1, 8, .inl k_y)), (k_web_, .inl (cy 1, 8, .inl k_web)), (k_asks_, .inl (cy 1, 8, .inl k_asks)), (k_threads_, .inl (cy 1, 64, .inl k_threads)), (k_seen_, .inl (cy 1, 8, .inl k_seen))] H) (hD : va_D A [(k, .inr (8, [.ref k_x_, .ref k_y_, .ref k_web_, .ref k_asks_, .ref k_threads_, .int k_today, .int k_day, .ref k_seen_])), (k_x_, .inl (cy 1, 8, .inl k_x)), (k_y_, .inl (cy 1, 8, .inl k_y)), (k_web_, .inl (cy 1, 8, .inl k_web)), (k_asks_, .inl (cy 1, 8, .inl k_asks)), (k_threads_, .inl (cy 1, 64, .inl k_threads)), (k_seen_, .inl (cy 1, 8, .inl k_seen))]) (hS : va_S A s.heap H locs) (hl : lv_has ls 5 [(0, .ref k), (1, .int b), (2, .int v)]) : W p l e (Rm 3 69 0 0) s m args below meth c H locs cells slots Q (F0 m 0 ls []) := by
  have hx := C.1
  have hb := C.2.1
  refine lv_iconst (v := 0) hx hb dX8_seenFrom_0 (by decide) ?_
  refine lv_istore_n (lv' := [(3, .int 0), (0, .ref k), (1, .int b), (2, .int v)]) hx hb dX8_seenFrom_1 rfl hl (by decide) rfl (fun ls hl => ?_)
  refine lv_iconst (v := 0) hx hb dX8_seenFrom_2 (by decide) ?_
  refine lv_istore (lv' := [(4, .int 0), (3, .int 0), (0, .ref k), (1, .int b), (2, .int v)]) hx hb dX8_seenFrom_3 hl (by decide) rfl (fun ls hl => ?_)
  have lp_5_2 : ∀ (n_3 : Nat) (x_1 : Int32) (x_2 : Int32) (H : Heap) (locs : List Loc) (ls : Array Slot), (-1) * x_2.toInt + 8 < (n_3 : Int) → (0 ≤ x_2.toInt ∧ x_2.toInt ≤ 8) → va_P D vwCl [(k, .inr (8, [.ref k_x_, .ref k_y_, .ref k_web_, .ref k_asks_, .ref k_threads_, .int k_today, .int k_day, .ref k_seen_])), (k_x_, .inl (cy 1, 8, .inl k_x)), (k_y_, .inl (cy 1, 8, .inl k_y)), (k_web_, .inl (cy 1, 8, .inl k_web)), (k_asks_, .inl (cy 1, 8, .inl k_asks)), (k_threads_, .inl (cy 1, 64, .inl k_threads)), (k_seen_, .inl (cy 1, 8, .inl k_seen))] H → va_D A [(k, .inr (8, [.ref k_x_, .ref k_y_, .ref k_web_, .ref k_asks_, .ref k_threads_, .int k_today, .int k_day, .ref k_seen_])), (k_x_, .inl (cy 1, 8, .inl k_x)), (k_y_, .inl (cy 1, 8, .inl k_y)), (k_web_, .inl (cy 1, 8, .inl k_web)), (k_asks_, .inl (cy 1, 8, .inl k_asks)), (k_threads_, .inl (cy 1, 64, .inl k_threads)), (k_seen_, .inl (cy 1, 8, .inl k_seen))] → va_S A s.heap H locs → lv_has ls 5 [(0, .ref k), (1, .int b), (2, .int v), (3, .int x_1), (4, .int x_2)] → W p l e (Rm 3 69 0 0) s m args below meth c H locs cells slots Q (F0 m 5 ls []) := by
    intro n_3
    induction n_3 with
    | zero =>
      intro x_1 x_2 H locs ls hm_5 hf_4 hP hD hS hl
      exact absurd hm_5 (by omega)
    | succ n_3 ih_6 =>
      intro x_1 x_2 H locs ls hm_5 hf_4 hP hD hS hl
      refine lv_iload hx hb dX8_seenFrom_5 (lv_at hl 4 rfl) ?_
      refine lv_iload_n hx hb dX8_seenFrom_7 rfl (lv_at hl 1 rfl) ?_
      refine lv_icmp_ge (tgt := 41) hx hb dX8_seenFrom_8 (by decide) (fun c_8 => ?_) (fun c_8 => ?_)
      · have hc_8 := o_le (rfl : b.toInt = b.toInt) (rfl : x_2.toInt = x_2.toInt) c_8
        refine lv_iload_n hx hb dX8_seenFrom_41 rfl (lv_at hl 3 rfl) ?_
        refine o_wq hQ ?_
        exact q_iret (rm := (Rm 3 69 0 0)) C hS () rfl trivial (q_subP hP [0, 1, 2, 3, 4, 5, 6] rfl) (hD.sub [0, 1, 2, 3, 4, 5, 6] (by decide) rfl) hroom.1 hroom.2 dX8_seenFrom_42
      · have hc_8 := o_nle (rfl : b.toInt = b.toInt) (rfl : x_2.toInt = x_2.toInt) c_8
        refine lv_iload_n hx hb dX8_seenFrom_11 rfl (lv_at hl 2 rfl) ?_
        refine lv_iload hx hb dX8_seenFrom_12 (lv_at hl 4 rfl) ?_
        refine lv_icmp_eq (tgt := 35) hx hb dX8_seenFrom_14 (by decide) (fun c_9 => ?_) (fun c_9 => ?_)
        · have hc_9 := o_eq (rfl : v.toInt = v.toInt) (rfl : x_2.toInt = x_2.toInt) c_9
          obtain ⟨z_10, hz_10⟩ : ∃ z : Int32, z = x_2 + 1 := ⟨_, rfl⟩
          refine lv_iinc (v := z_10) (lv' := [(4, .int z_10), (0, .ref k), (1, .int b), (2, .int v), (3, .int x_1)]) hx hb dX8_seenFrom_35 hl (k := 4) rfl hz_10.symm (by decide) rfl (fun ls hl => ?_)
          have hz_10 := o_add hz_10 (rfl : x_2.toInt = x_2.toInt) (by decide : (1 : Int32).toInt = 1) (by omega) (by omega)
          refine lv_goto (tgt := 5) hx hb dX8_seenFrom_38 (by decide) ?_
          exact ih_6 x_1 z_10 H locs ls (by omega) (by omega) hP hD hS (lv_sub hl [1, 2, 3, 4, 0] rfl)
        · have hc_9 := o_ne (rfl : v.toInt = v.toInt) (rfl : x_2.toInt = x_2.toInt) c_9
          refine lv_aload_n hx hb dX8_seenFrom_17 rfl (lv_at hl 0 rfl) ?_
          refine lv_iload_n hx hb dX8_seenFrom_18 rfl (lv_at hl 1 rfl) ?_
          refine lv_iload_n hx hb dX8_seenFrom_19 rfl (lv_at hl 2 rfl) ?_
          refine lv_iload hx hb dX8_seenFrom_20 (lv_at hl 4 rfl) ?_
          refine q_ai (wr := []) (r_V (rm := (Rm 2 45 0 0)) (q0 := 0) (As := [.int b, .int v, .int x_2]) (rest := []) (wc := [(k, .inr (8, [.ref k_x_, .ref k_y_, .ref k_web_, .ref k_asks_, .ref k_threads_, .int k_today, .int k_day, .ref k_seen_])), (k_x_, .inl (cy 1, 8, .inl k_x)), (k_y_, .inl (cy 1, 8, .inl k_y)), (k_web_, .inl (cy 1, 8, .inl k_web)), (k_asks_, .inl (cy 1, 8, .inl k_asks)), (k_threads_, .inl (cy 1, 64, .inl k_threads)), (k_seen_, .inl (cy 1, 8, .inl k_seen))]) C hS (q_subP hP [0, 1, 2, 3, 4, 5, 6] rfl) (hD.sub [0, 1, 2, 3, 4, 5, 6] (by decide) rfl) (o_isInSight l D cy k b v x_2 k_x_ k_y_ k_web_ k_asks_ k_threads_ k_today k_day k_seen_ k_x k_y k_web k_asks k_threads k_seen _ (by omega) (by omega) (by omega) hR0 hR1) kwV_X8_isInSight kM_RX8_43 rfl rfl ⟨Nat.le_of_ble_eq_true rfl, Nat.le_of_ble_eq_true rfl⟩ rfl hl.1 rfl (Nat.le_of_ble_eq_true rfl) dX8_seenFrom_22 ⟨hroom.1, hroom.2⟩) C.2.2.2.2.2.2.1 hP hD hS [0, 1, 2, 3, 4, 5, 6] [] rfl rfl (by decide) (by decide) (fun r_12 u_11 H locs hw_13 hP hD hS => ?_)
          have hp_13 : 0 ≤ r_12.toInt ∧ r_12.toInt ≤ 1 := hw_13
          refine lv_if_eq (tgt := 35) hx hb dX8_seenFrom_25 (by decide) (fun c_15 => ?_) (fun c_15 => ?_)
          · have hc_15 := o_eq (rfl : r_12.toInt = r_12.toInt) (by decide : (0 : Int32).toInt = 0) c_15
            obtain ⟨z_16, hz_16⟩ : ∃ z : Int32, z = x_2 + 1 := ⟨_, rfl⟩
            refine lv_iinc (v := z_16) (lv' := [(4, .int z_16), (0, .ref k), (1, .int b), (2, .int v), (3, .int x_1)]) hx hb dX8_seenFrom_35 hl (k := 4) rfl hz_16.symm (by decide) rfl (fun ls hl => ?_)
            have hz_16 := o_add hz_16 (rfl : x_2.toInt = x_2.toInt) (by decide : (1 : Int32).toInt = 1) (by omega) (by omega)
            refine lv_goto (tgt := 5) hx hb dX8_seenFrom_38 (by decide) ?_
            exact ih_6 x_1 z_16 H locs ls (by omega) (by omega) hP hD hS (lv_sub hl [1, 2, 3, 4, 0] rfl)
          · have hc_15 := o_ne (rfl : r_12.toInt = r_12.toInt) (by decide : (0 : Int32).toInt = 0) c_15
            have hnc_15 : 0 ≤ r_12.toInt + (-1) := by rcases Int.lt_or_gt_of_ne hc_15 with h9 | h9 <;> omega
            refine lv_iload_n hx hb dX8_seenFrom_28 rfl (lv_at hl 3 rfl) ?_
            refine lv_iconst (v := 1) hx hb dX8_seenFrom_29 (by decide) ?_
            refine lv_iload hx hb dX8_seenFrom_30 (lv_at hl 4 rfl) ?_
            refine lv_ishl hx hb dX8_seenFrom_32 ?_
            refine lv_topi (fun z_17 hz_17 => ?_)
            clear hz_17
            refine lv_ior hx hb dX8_seenFrom_33 ?_
            refine lv_topi (fun z_18 hz_18 => ?_)
            clear hz_18
            refine lv_istore_n (lv' := [(3, .int z_18), (0, .ref k), (1, .int b), (2, .int v), (4, .int x_2)]) hx hb dX8_seenFrom_34 rfl hl (by decide) rfl (fun ls hl => ?_)
            obtain ⟨z_19, hz_19⟩ : ∃ z : Int32, z = x_2 + 1 := ⟨_, rfl⟩
            refine lv_iinc (v := z_19) (lv' := [(4, .int z_19), (3, .int z_18), (0, .ref k), (1, .int b), (2, .int v)]) hx hb dX8_seenFrom_35 hl (k := 4) rfl hz_19.symm (by decide) rfl (fun ls hl => ?_)
            have hz_19 := o_add hz_19 (rfl : x_2.toInt = x_2.toInt) (by decide : (1 : Int32).toInt = 1) (by omega) (by omega)
            refine lv_goto (tgt := 5) hx hb dX8_seenFrom_38 (by decide) ?_
            exact ih_6 z_18 z_19 H locs ls (by omega) (by omega) hP hD hS (lv_sub hl [2, 3, 4, 1, 0] rfl)
  exact lp_5_2 9 (0 : Int32) (0 : Int32) H locs ls (by have e0 : (0 : Int32).toInt = 0 := (by decide); omega) (by have e0 : (0 : Int32).toInt = 0 := (by decide); omega) hP hD hS (lv_sub hl [2, 3, 4, 1, 0] rfl)
theorem o_seenFrom (l : Launch) (D : va_G) (cy : Nat → ClassId) (k : Nat) (b : Int32) (v : Int32) (k_x_ : Nat) (k_y_ : Nat) (k_web_ : Nat) (k_asks_ : Nat) (k_threads_ : Nat) (k_today : Int32) (k_day : Int32) (k_seen_ : Nat) (k_x : Nat → Int32) (k_y : Nat → Int32) (k_web : Nat → Int32) (k_asks : Nat → Int32) (k_threads : Nat → Int32) (k_seen : Nat → Int32) (sz : Nat) (hb0 : 0 ≤ b.toInt ∧ b.toInt ≤ 8) (hb1 : 0 ≤ v.toInt ∧ v.toInt ≤ 7) (hR0 : Rg k_x 0 8 0 5) (hR1 : Rg k_y 0 8 0 5) : MI l yX8_seenFrom cX8_seenFrom 5 (some .int) (Rm 3 69 0 0) D cy [.ref k, .int b, .int v] sz [(k, .inr (8, [.ref k_x_, .ref k_y_, .ref k_web_, .ref k_asks_, .ref k_threads_, .int k_today, .int k_day, .ref k_seen_])), (k_x_, .inl (cy 1, 8, .inl k_x)), (k_y_, .inl (cy 1, 8, .inl k_y)), (k_web_, .inl (cy 1, 8, .inl k_web)), (k_asks_, .inl (cy 1, 8, .inl k_asks)), (k_threads_, .inl (cy 1, 64, .inl k_threads)), (k_seen_, .inl (cy 1, 8, .inl k_seen))] (fun (r : Int32) (u : Unit) => True) (fun u : Unit => [(k, .inr (8, [.ref k_x_, .ref k_y_, .ref k_web_, .ref k_asks_, .ref k_threads_, .int k_today, .int k_day, .ref k_seen_])), (k_x_, .inl (cy 1, 8, .inl k_x)), (k_y_, .inl (cy 1, 8, .inl k_y)), (k_web_, .inl (cy 1, 8, .inl k_web)), (k_asks_, .inl (cy 1, 8, .inl k_asks)), (k_threads_, .inl (cy 1, 64, .inl k_threads)), (k_seen_, .inl (cy 1, 8, .inl k_seen))]) := by
  refine MI.enter (by decide) (Nat.le_of_ble_eq_true rfl) ?_
  intro p e s m below meth c ls A hsz hAe C hP hD hS hl
  exact b_o_seenFrom l D cy k b v k_x_ k_y_ k_web_ k_asks_ k_threads_ k_today k_day k_seen_ k_x k_y k_web k_asks k_threads k_seen hb0 hb1 hR0 hR1 ⟨Nat.le_of_ble_eq_true rfl, Nat.le_of_ble_eq_true rfl⟩ C rfl _ _ ls hP hD hS hl
set_option maxHeartbeats 4000000 in
set_option maxRecDepth 100000 in
theorem b_o_booksReading (l : Launch) (D : va_G) (cy : Nat → ClassId) (k : Nat) (h : Nat) (v : Int32) (k_x_ : Nat) (k_y_ : Nat) (k_web_ : Nat) (k_asks_ : Nat) (k_threads_ : Nat) (k_today : Int32) (k_day : Int32) (k_seen_ : Nat) (k_x : Nat → Int32) (k_y : Nat → Int32) (k_web : Nat → Int32) (k_asks : Nat → Int32) (k_threads : Nat → Int32) (k_seen : Nat → Int32) (h_wide : Int32) (h_high : Int32) (h_law : Int32) (h_spin : Int32) (h_line : Int32) (h_draught : Int32) (h_books : Int32) (h_rare : Int32) (h_quarrels_ : Nat) (h_nameSizes_ : Nat) (h_names_ : Nat) (h_quarrels : Nat → Int32) (h_nameSizes : Nat → Int32) (h_names : Nat → Int32) (hb0 : 0 ≤ h_wide.toInt ∧ h_wide.toInt ≤ 6) (hb1 : 0 ≤ h_high.toInt ∧ h_high.toInt ≤ 6) (hb2 : 0 ≤ h_books.toInt ∧ h_books.toInt ≤ 8) (hR0 : Rg k_x 0 8 0 5) (hR1 : Rg k_y 0 8 0 5) (hR2 : Rg h_nameSizes 0 8 (-900) 7) {p : Program} {e : Env} {s : State} {m : MethodId} {args : Array Value} {below : List Frame} {meth : Method} {c : Code} {A : Nat → Prop} {Q : State → Prop} {cells slots : Nat} (hroom : cells ≤ ((Rm 1 21 0 0)).cells ∧ slots ≤ ((Rm 1 21 0 0)).slots) (C : Cx p s m args meth c cX8_booksReading 5 (some .int) RX8 "booksReading" D cy A) (hQ : Q = MQ below (va_Qi (fun (r : Int32) (u : Unit) => True) (Bx D A (fun u : Unit => [(k, .inr (8, [.ref k_x_, .ref k_y_, .ref k_web_, .ref k_asks_, .ref k_threads_, .int k_today, .int k_day, .ref k_seen_])), (k_x_, .inl (cy 1, 8, .inl k_x)), (k_y_, .inl (cy 1, 8, .inl k_y)), (k_web_, .inl (cy 1, 8, .inl k_web)), (k_asks_, .inl (cy 1, 8, .inl k_asks)), (k_threads_, .inl (cy 1, 64, .inl k_threads)), (k_seen_, .inl (cy 1, 8, .inl k_seen)), (h, .inr (6, [.int h_wide, .int h_high, .int h_law, .int h_spin, .int h_line, .int h_draught, .int h_books, .int h_rare, .ref h_quarrels_, .ref h_nameSizes_, .ref h_names_])), (h_quarrels_, .inl (cy 1, 8, .inl h_quarrels)), (h_nameSizes_, .inl (cy 1, 8, .inl h_nameSizes)), (h_names_, .inl (cy 1, 56, .inl h_names))])) A) args s ((Rm 1 21 0 0)).cells ((Rm 1 21 0 0)).slots A) (H : Heap) (locs : List Loc) (ls : Array Slot) (hP : va_P D vwCl [(k, .inr (8, [.ref k_x_, .ref k_y_, .ref k_web_, .ref k_asks_, .ref k_threads_, .int k_today, .int k_day, .ref k_seen_])), (k_x_, .inl (cy 1, 8, .inl k_x)), (k_y_, .inl (cy 1, 8, .inl k_y)), (k_web_, .inl (cy 1, 8, .inl k_web)), (k_asks_, .inl (cy 1, 8, .inl k_asks)), (k_threads_, .inl (cy 1, 64, .inl k_threads)), (k_seen_, .inl (cy 1, 8, .inl k_seen)), (h, .inr (6, [.int h_wide, .int h_high, .int h_law, .int h_spin, .int h_line, .int h_draught, .int h_books, .int h_rare, .ref h_quarrels_, .ref h_nameSizes_, .ref h_names_])), (h_quarrels_, .inl (cy 1, 8, .inl h_quarrels)), (h_nameSizes_, .inl (cy 1, 8, .inl h_nameSizes)), (h_names_, .inl (cy 1, 56, .inl h_names))] H) (hD : va_D A [(k, .inr (8, [.ref k_x_, .ref k_y_, .ref k_web_, .ref k_asks_, .ref k_threads_, .int k_today, .int k_day, .ref k_seen_])), (k_x_, .inl (cy 1, 8, .inl k_x)), (k_y_, .inl (cy 1, 8, .inl k_y)), (k_web_, .inl (cy 1, 8, .inl k_web)), (k_asks_, .inl (cy 1, 8, .inl k_asks)), (k_threads_, .inl (cy 1, 64, .inl k_threads)), (k_seen_, .inl (cy 1, 8, .inl k_seen)), (h, .inr (6, [.int h_wide, .int h_high, .int h_law, .int h_spin, .int h_line, .int h_draught, .int h_books, .int h_rare, .ref h_quarrels_, .ref h_nameSizes_, .ref h_names_])), (h_quarrels_, .inl (cy 1, 8, .inl h_quarrels)), (h_nameSizes_, .inl (cy 1, 8, .inl h_nameSizes)), (h_names_, .inl (cy 1, 56, .inl h_names))]) (hS : va_S A s.heap H locs) (hl : lv_has ls 5 [(0, .ref k), (1, .ref h), (2, .int v)]) : W p l e (Rm 1 21 0 0) s m args below meth c H locs cells slots Q (F0 m 0 ls []) := by
  have hx := C.1
  have hb := C.2.1
  have hqv := o_rng v
  refine lv_iconst (v := 0) hx hb dX8_booksReading_0 (by decide) ?_
  refine lv_istore_n (lv' := [(3, .int 0), (0, .ref k), (1, .ref h), (2, .int v)]) hx hb dX8_booksReading_1 rfl hl (by decide) rfl (fun ls hl => ?_)
  refine lv_iconst (v := 0) hx hb dX8_booksReading_2 (by decide) ?_
  refine lv_istore (lv' := [(4, .int 0), (3, .int 0), (0, .ref k), (1, .ref h), (2, .int v)]) hx hb dX8_booksReading_3 hl (by decide) rfl (fun ls hl => ?_)
  have lp_5_2 : ∀ (n_3 : Nat) (x_1 : Int32) (x_2 : Int32) (H : Heap) (locs : List Loc) (ls : Array Slot), (-1) * x_2.toInt + 8 < (n_3 : Int) → (0 ≤ x_2.toInt ∧ x_2.toInt ≤ 8) → va_P D vwCl [(k, .inr (8, [.ref k_x_, .ref k_y_, .ref k_web_, .ref k_asks_, .ref k_threads_, .int k_today, .int k_day, .ref k_seen_])), (k_x_, .inl (cy 1, 8, .inl k_x)), (k_y_, .inl (cy 1, 8, .inl k_y)), (k_web_, .inl (cy 1, 8, .inl k_web)), (k_asks_, .inl (cy 1, 8, .inl k_asks)), (k_threads_, .inl (cy 1, 64, .inl k_threads)), (k_seen_, .inl (cy 1, 8, .inl k_seen)), (h, .inr (6, [.int h_wide, .int h_high, .int h_law, .int h_spin, .int h_line, .int h_draught, .int h_books, .int h_rare, .ref h_quarrels_, .ref h_nameSizes_, .ref h_names_])), (h_quarrels_, .inl (cy 1, 8, .inl h_quarrels)), (h_nameSizes_, .inl (cy 1, 8, .inl h_nameSizes)), (h_names_, .inl (cy 1, 56, .inl h_names))] H → va_D A [(k, .inr (8, [.ref k_x_, .ref k_y_, .ref k_web_, .ref k_asks_, .ref k_threads_, .int k_today, .int k_day, .ref k_seen_])), (k_x_, .inl (cy 1, 8, .inl k_x)), (k_y_, .inl (cy 1, 8, .inl k_y)), (k_web_, .inl (cy 1, 8, .inl k_web)), (k_asks_, .inl (cy 1, 8, .inl k_asks)), (k_threads_, .inl (cy 1, 64, .inl k_threads)), (k_seen_, .inl (cy 1, 8, .inl k_seen)), (h, .inr (6, [.int h_wide, .int h_high, .int h_law, .int h_spin, .int h_line, .int h_draught, .int h_books, .int h_rare, .ref h_quarrels_, .ref h_nameSizes_, .ref h_names_])), (h_quarrels_, .inl (cy 1, 8, .inl h_quarrels)), (h_nameSizes_, .inl (cy 1, 8, .inl h_nameSizes)), (h_names_, .inl (cy 1, 56, .inl h_names))] → va_S A s.heap H locs → lv_has ls 5 [(0, .ref k), (1, .ref h), (2, .int v), (3, .int x_1), (4, .int x_2)] → W p l e (Rm 1 21 0 0) s m args below meth c H locs cells slots Q (F0 m 5 ls []) := by
    intro n_3
    induction n_3 with
    | zero =>
      intro x_1 x_2 H locs ls hm_5 hf_4 hP hD hS hl
      exact absurd hm_5 (by omega)
    | succ n_3 ih_6 =>
      intro x_1 x_2 H locs ls hm_5 hf_4 hP hD hS hl
      refine lv_iload hx hb dX8_booksReading_5 (lv_at hl 4 rfl) ?_
      refine lv_aload_n hx hb dX8_booksReading_7 rfl (lv_at hl 1 rfl) ?_
      refine q_get (v := .int h_books) C hP 7 6 rfl rfl inX6 (by decide) kF_RX8_53 rfl rfl dX8_booksReading_8 ?_
      refine lv_icmp_ge (tgt := 42) hx hb dX8_booksReading_11 (by decide) (fun c_8 => ?_) (fun c_8 => ?_)
      · have hc_8 := o_le (rfl : h_books.toInt = h_books.toInt) (rfl : x_2.toInt = x_2.toInt) c_8
        refine lv_iload_n hx hb dX8_booksReading_42 rfl (lv_at hl 3 rfl) ?_
        refine o_wq hQ ?_
        exact q_iret (rm := (Rm 1 21 0 0)) C hS () rfl trivial (q_subP hP [0, 1, 2, 3, 4, 5, 6, 7, 8, 9, 10] rfl) (hD.sub [0, 1, 2, 3, 4, 5, 6, 7, 8, 9, 10] (by decide) rfl) hroom.1 hroom.2 dX8_booksReading_43
      · have hc_8 := o_nle (rfl : h_books.toInt = h_books.toInt) (rfl : x_2.toInt = x_2.toInt) c_8
        refine lv_aload_n hx hb dX8_booksReading_14 rfl (lv_at hl 1 rfl) ?_
        refine lv_aload_n hx hb dX8_booksReading_15 rfl (lv_at hl 0 rfl) ?_
        refine q_get (v := .ref k_web_) C hP 0 2 rfl rfl inX8 (by decide) kF_RX8_18 rfl rfl dX8_booksReading_16 ?_
        refine lv_iload hx hb dX8_booksReading_19 (lv_at hl 4 rfl) ?_
        refine q_iald (v := k_web x_2.toNatClampNeg) C hP 3 rfl (o_in (rfl : x_2.toInt = x_2.toInt) (by omega) (by omega)) rfl dX8_booksReading_21 ?_
        refine lv_topi (fun z_9 ez_9 => ?_)
        refine q_ai (wr := [(k, .inr (8, [.ref k_x_, .ref k_y_, .ref k_web_, .ref k_asks_, .ref k_threads_, .int k_today, .int k_day, .ref k_seen_])), (k_x_, .inl (cy 1, 8, .inl k_x)), (k_y_, .inl (cy 1, 8, .inl k_y)), (k_web_, .inl (cy 1, 8, .inl k_web)), (k_asks_, .inl (cy 1, 8, .inl k_asks)), (k_threads_, .inl (cy 1, 64, .inl k_threads)), (k_seen_, .inl (cy 1, 8, .inl k_seen))]) (r_V (rm := (Rm 0 0 0 0)) (q0 := 0) (As := [.int z_9]) (rest := []) (wc := [(h, .inr (6, [.int h_wide, .int h_high, .int h_law, .int h_spin, .int h_line, .int h_draught, .int h_books, .int h_rare, .ref h_quarrels_, .ref h_nameSizes_, .ref h_names_])), (h_quarrels_, .inl (cy 1, 8, .inl h_quarrels)), (h_nameSizes_, .inl (cy 1, 8, .inl h_nameSizes)), (h_names_, .inl (cy 1, 56, .inl h_names))]) C hS (q_subP hP [7, 8, 9, 10] rfl) (hD.sub [7, 8, 9, 10] (by decide) rfl) (o_reading l D cy h z_9 h_wide h_high h_law h_spin h_line h_draught h_books h_rare h_quarrels_ h_nameSizes_ h_names_ h_quarrels h_nameSizes h_names _ (by omega) (by omega) (by omega) hR2) kwV_X6_reading kM_RX8_58 rfl rfl ⟨Nat.le_of_ble_eq_true rfl, Nat.le_of_ble_eq_true rfl⟩ rfl hl.1 rfl (Nat.le_of_ble_eq_true rfl) dX8_booksReading_22 ⟨hroom.1, hroom.2⟩) C.2.2.2.2.2.2.1 hP hD hS [7, 8, 9, 10] [0, 1, 2, 3, 4, 5, 6] rfl rfl (by decide) (by decide) (fun r_11 u_10 H locs hw_12 hP hD hS => ?_)
        have hp_12 : 0 ≤ r_11.toInt ∧ r_11.toInt ≤ 2 := hw_12
        refine lv_iload_n hx hb dX8_booksReading_25 rfl (lv_at hl 2 rfl) ?_
        refine lv_icmp_ne (tgt := 36) hx hb dX8_booksReading_26 (by decide) (fun c_14 => ?_) (fun c_14 => ?_)
        · have hc_14 := o_ne (rfl : r_11.toInt = r_11.toInt) (rfl : v.toInt = v.toInt) c_14
          obtain ⟨z_15, hz_15⟩ : ∃ z : Int32, z = x_2 + 1 := ⟨_, rfl⟩
          refine lv_iinc (v := z_15) (lv' := [(4, .int z_15), (0, .ref k), (1, .ref h), (2, .int v), (3, .int x_1)]) hx hb dX8_booksReading_36 hl (k := 4) rfl hz_15.symm (by decide) rfl (fun ls hl => ?_)
          have hz_15 := o_add hz_15 (rfl : x_2.toInt = x_2.toInt) (by decide : (1 : Int32).toInt = 1) (by omega) (by omega)
          refine lv_goto (tgt := 5) hx hb dX8_booksReading_39 (by decide) ?_
          exact ih_6 x_1 z_15 H locs ls (by omega) (by omega) hP hD hS (lv_sub hl [1, 2, 3, 4, 0] rfl)
        · have hc_14 := o_eq (rfl : r_11.toInt = r_11.toInt) (rfl : v.toInt = v.toInt) c_14
          refine lv_iload_n hx hb dX8_booksReading_29 rfl (lv_at hl 3 rfl) ?_
          refine lv_iconst (v := 1) hx hb dX8_booksReading_30 (by decide) ?_
          refine lv_iload hx hb dX8_booksReading_31 (lv_at hl 4 rfl) ?_
          refine lv_ishl hx hb dX8_booksReading_33 ?_
          refine lv_topi (fun z_16 hz_16 => ?_)
          clear hz_16
          refine lv_ior hx hb dX8_booksReading_34 ?_
          refine lv_topi (fun z_17 hz_17 => ?_)
          clear hz_17
          refine lv_istore_n (lv' := [(3, .int z_17), (0, .ref k), (1, .ref h), (2, .int v), (4, .int x_2)]) hx hb dX8_booksReading_35 rfl hl (by decide) rfl (fun ls hl => ?_)
          obtain ⟨z_18, hz_18⟩ : ∃ z : Int32, z = x_2 + 1 := ⟨_, rfl⟩
          refine lv_iinc (v := z_18) (lv' := [(4, .int z_18), (3, .int z_17), (0, .ref k), (1, .ref h), (2, .int v)]) hx hb dX8_booksReading_36 hl (k := 4) rfl hz_18.symm (by decide) rfl (fun ls hl => ?_)
          have hz_18 := o_add hz_18 (rfl : x_2.toInt = x_2.toInt) (by decide : (1 : Int32).toInt = 1) (by omega) (by omega)
          refine lv_goto (tgt := 5) hx hb dX8_booksReading_39 (by decide) ?_
          exact ih_6 z_17 z_18 H locs ls (by omega) (by omega) hP hD hS (lv_sub hl [2, 3, 4, 1, 0] rfl)
  exact lp_5_2 9 (0 : Int32) (0 : Int32) H locs ls (by have e0 : (0 : Int32).toInt = 0 := (by decide); omega) (by have e0 : (0 : Int32).toInt = 0 := (by decide); omega) hP hD hS (lv_sub hl [2, 3, 4, 1, 0] rfl)
theorem o_booksReading (l : Launch) (D : va_G) (cy : Nat → ClassId) (k : Nat) (h : Nat) (v : Int32) (k_x_ : Nat) (k_y_ : Nat) (k_web_ : Nat) (k_asks_ : Nat) (k_threads_ : Nat) (k_today : Int32) (k_day : Int32) (k_seen_ : Nat) (k_x : Nat → Int32) (k_y : Nat → Int32) (k_web : Nat → Int32) (k_asks : Nat → Int32) (k_threads : Nat → Int32) (k_seen : Nat → Int32) (h_wide : Int32) (h_high : Int32) (h_law : Int32) (h_spin : Int32) (h_line : Int32) (h_draught : Int32) (h_books : Int32) (h_rare : Int32) (h_quarrels_ : Nat) (h_nameSizes_ : Nat) (h_names_ : Nat) (h_quarrels : Nat → Int32) (h_nameSizes : Nat → Int32) (h_names : Nat → Int32) (sz : Nat) (hb0 : 0 ≤ h_wide.toInt ∧ h_wide.toInt ≤ 6) (hb1 : 0 ≤ h_high.toInt ∧ h_high.toInt ≤ 6) (hb2 : 0 ≤ h_books.toInt ∧ h_books.toInt ≤ 8) (hR0 : Rg k_x 0 8 0 5) (hR1 : Rg k_y 0 8 0 5) (hR2 : Rg h_nameSizes 0 8 (-900) 7) : MI l yX8_booksReading cX8_booksReading 5 (some .int) (Rm 1 21 0 0) D cy [.ref k, .ref h, .int v] sz [(k, .inr (8, [.ref k_x_, .ref k_y_, .ref k_web_, .ref k_asks_, .ref k_threads_, .int k_today, .int k_day, .ref k_seen_])), (k_x_, .inl (cy 1, 8, .inl k_x)), (k_y_, .inl (cy 1, 8, .inl k_y)), (k_web_, .inl (cy 1, 8, .inl k_web)), (k_asks_, .inl (cy 1, 8, .inl k_asks)), (k_threads_, .inl (cy 1, 64, .inl k_threads)), (k_seen_, .inl (cy 1, 8, .inl k_seen)), (h, .inr (6, [.int h_wide, .int h_high, .int h_law, .int h_spin, .int h_line, .int h_draught, .int h_books, .int h_rare, .ref h_quarrels_, .ref h_nameSizes_, .ref h_names_])), (h_quarrels_, .inl (cy 1, 8, .inl h_quarrels)), (h_nameSizes_, .inl (cy 1, 8, .inl h_nameSizes)), (h_names_, .inl (cy 1, 56, .inl h_names))] (fun (r : Int32) (u : Unit) => True) (fun u : Unit => [(k, .inr (8, [.ref k_x_, .ref k_y_, .ref k_web_, .ref k_asks_, .ref k_threads_, .int k_today, .int k_day, .ref k_seen_])), (k_x_, .inl (cy 1, 8, .inl k_x)), (k_y_, .inl (cy 1, 8, .inl k_y)), (k_web_, .inl (cy 1, 8, .inl k_web)), (k_asks_, .inl (cy 1, 8, .inl k_asks)), (k_threads_, .inl (cy 1, 64, .inl k_threads)), (k_seen_, .inl (cy 1, 8, .inl k_seen)), (h, .inr (6, [.int h_wide, .int h_high, .int h_law, .int h_spin, .int h_line, .int h_draught, .int h_books, .int h_rare, .ref h_quarrels_, .ref h_nameSizes_, .ref h_names_])), (h_quarrels_, .inl (cy 1, 8, .inl h_quarrels)), (h_nameSizes_, .inl (cy 1, 8, .inl h_nameSizes)), (h_names_, .inl (cy 1, 56, .inl h_names))]) := by
  refine MI.enter (by decide) (Nat.le_of_ble_eq_true rfl) ?_
  intro p e s m below meth c ls A hsz hAe C hP hD hS hl
  exact b_o_booksReading l D cy k h v k_x_ k_y_ k_web_ k_asks_ k_threads_ k_today k_day k_seen_ k_x k_y k_web k_asks k_threads k_seen h_wide h_high h_law h_spin h_line h_draught h_books h_rare h_quarrels_ h_nameSizes_ h_names_ h_quarrels h_nameSizes h_names hb0 hb1 hb2 hR0 hR1 hR2 ⟨Nat.le_of_ble_eq_true rfl, Nat.le_of_ble_eq_true rfl⟩ C rfl _ _ ls hP hD hS hl
set_option maxHeartbeats 4000000 in
set_option maxRecDepth 100000 in
theorem b_o_booksLawful (l : Launch) (D : va_G) (cy : Nat → ClassId) (k : Nat) (h : Nat) (k_x_ : Nat) (k_y_ : Nat) (k_web_ : Nat) (k_asks_ : Nat) (k_threads_ : Nat) (k_today : Int32) (k_day : Int32) (k_seen_ : Nat) (k_x : Nat → Int32) (k_y : Nat → Int32) (k_web : Nat → Int32) (k_asks : Nat → Int32) (k_threads : Nat → Int32) (k_seen : Nat → Int32) (h_wide : Int32) (h_high : Int32) (h_law : Int32) (h_spin : Int32) (h_line : Int32) (h_draught : Int32) (h_books : Int32) (h_rare : Int32) (h_quarrels_ : Nat) (h_nameSizes_ : Nat) (h_names_ : Nat) (h_quarrels : Nat → Int32) (h_nameSizes : Nat → Int32) (h_names : Nat → Int32) (hb0 : 0 ≤ h_wide.toInt ∧ h_wide.toInt ≤ 6) (hb1 : 0 ≤ h_high.toInt ∧ h_high.toInt ≤ 6) (hb2 : 0 ≤ h_books.toInt ∧ h_books.toInt ≤ 8) (hR0 : Rg k_x 0 8 0 5) (hR1 : Rg k_y 0 8 0 5) (hR2 : Rg h_nameSizes 0 8 (-900) 7) {p : Program} {e : Env} {s : State} {m : MethodId} {args : Array Value} {below : List Frame} {meth : Method} {c : Code} {A : Nat → Prop} {Q : State → Prop} {cells slots : Nat} (hroom : cells ≤ ((Rm 2 45 0 0)).cells ∧ slots ≤ ((Rm 2 45 0 0)).slots) (C : Cx p s m args meth c cX8_booksLawful 2 (some .int) RX8 "booksLawful" D cy A) (hQ : Q = MQ below (va_Qi (fun (r : Int32) (u : Unit) => True) (Bx D A (fun u : Unit => [(k, .inr (8, [.ref k_x_, .ref k_y_, .ref k_web_, .ref k_asks_, .ref k_threads_, .int k_today, .int k_day, .ref k_seen_])), (k_x_, .inl (cy 1, 8, .inl k_x)), (k_y_, .inl (cy 1, 8, .inl k_y)), (k_web_, .inl (cy 1, 8, .inl k_web)), (k_asks_, .inl (cy 1, 8, .inl k_asks)), (k_threads_, .inl (cy 1, 64, .inl k_threads)), (k_seen_, .inl (cy 1, 8, .inl k_seen)), (h, .inr (6, [.int h_wide, .int h_high, .int h_law, .int h_spin, .int h_line, .int h_draught, .int h_books, .int h_rare, .ref h_quarrels_, .ref h_nameSizes_, .ref h_names_])), (h_quarrels_, .inl (cy 1, 8, .inl h_quarrels)), (h_nameSizes_, .inl (cy 1, 8, .inl h_nameSizes)), (h_names_, .inl (cy 1, 56, .inl h_names))])) A) args s ((Rm 2 45 0 0)).cells ((Rm 2 45 0 0)).slots A) (H : Heap) (locs : List Loc) (ls : Array Slot) (hP : va_P D vwCl [(k, .inr (8, [.ref k_x_, .ref k_y_, .ref k_web_, .ref k_asks_, .ref k_threads_, .int k_today, .int k_day, .ref k_seen_])), (k_x_, .inl (cy 1, 8, .inl k_x)), (k_y_, .inl (cy 1, 8, .inl k_y)), (k_web_, .inl (cy 1, 8, .inl k_web)), (k_asks_, .inl (cy 1, 8, .inl k_asks)), (k_threads_, .inl (cy 1, 64, .inl k_threads)), (k_seen_, .inl (cy 1, 8, .inl k_seen)), (h, .inr (6, [.int h_wide, .int h_high, .int h_law, .int h_spin, .int h_line, .int h_draught, .int h_books, .int h_rare, .ref h_quarrels_, .ref h_nameSizes_, .ref h_names_])), (h_quarrels_, .inl (cy 1, 8, .inl h_quarrels)), (h_nameSizes_, .inl (cy 1, 8, .inl h_nameSizes)), (h_names_, .inl (cy 1, 56, .inl h_names))] H) (hD : va_D A [(k, .inr (8, [.ref k_x_, .ref k_y_, .ref k_web_, .ref k_asks_, .ref k_threads_, .int k_today, .int k_day, .ref k_seen_])), (k_x_, .inl (cy 1, 8, .inl k_x)), (k_y_, .inl (cy 1, 8, .inl k_y)), (k_web_, .inl (cy 1, 8, .inl k_web)), (k_asks_, .inl (cy 1, 8, .inl k_asks)), (k_threads_, .inl (cy 1, 64, .inl k_threads)), (k_seen_, .inl (cy 1, 8, .inl k_seen)), (h, .inr (6, [.int h_wide, .int h_high, .int h_law, .int h_spin, .int h_line, .int h_draught, .int h_books, .int h_rare, .ref h_quarrels_, .ref h_nameSizes_, .ref h_names_])), (h_quarrels_, .inl (cy 1, 8, .inl h_quarrels)), (h_nameSizes_, .inl (cy 1, 8, .inl h_nameSizes)), (h_names_, .inl (cy 1, 56, .inl h_names))]) (hS : va_S A s.heap H locs) (hl : lv_has ls 2 [(0, .ref k), (1, .ref h)]) : W p l e (Rm 2 45 0 0) s m args below meth c H locs cells slots Q (F0 m 0 ls []) := by
  have hx := C.1
  have hb := C.2.1
  refine lv_aload_n hx hb dX8_booksLawful_0 rfl (lv_at hl 0 rfl) ?_
  refine lv_aload_n hx hb dX8_booksLawful_1 rfl (lv_at hl 1 rfl) ?_
  refine lv_iconst (v := 1) hx hb dX8_booksLawful_2 (by decide) ?_
  refine q_ai (wr := []) (r_V (rm := (Rm 1 21 0 0)) (q0 := 0) (As := [.ref h, .int 1]) (rest := []) (wc := [(k, .inr (8, [.ref k_x_, .ref k_y_, .ref k_web_, .ref k_asks_, .ref k_threads_, .int k_today, .int k_day, .ref k_seen_])), (k_x_, .inl (cy 1, 8, .inl k_x)), (k_y_, .inl (cy 1, 8, .inl k_y)), (k_web_, .inl (cy 1, 8, .inl k_web)), (k_asks_, .inl (cy 1, 8, .inl k_asks)), (k_threads_, .inl (cy 1, 64, .inl k_threads)), (k_seen_, .inl (cy 1, 8, .inl k_seen)), (h, .inr (6, [.int h_wide, .int h_high, .int h_law, .int h_spin, .int h_line, .int h_draught, .int h_books, .int h_rare, .ref h_quarrels_, .ref h_nameSizes_, .ref h_names_])), (h_quarrels_, .inl (cy 1, 8, .inl h_quarrels)), (h_nameSizes_, .inl (cy 1, 8, .inl h_nameSizes)), (h_names_, .inl (cy 1, 56, .inl h_names))]) C hS (q_subP hP [0, 1, 2, 3, 4, 5, 6, 7, 8, 9, 10] rfl) (hD.sub [0, 1, 2, 3, 4, 5, 6, 7, 8, 9, 10] (by decide) rfl) (o_booksReading l D cy k h 1 k_x_ k_y_ k_web_ k_asks_ k_threads_ k_today k_day k_seen_ k_x k_y k_web k_asks k_threads k_seen h_wide h_high h_law h_spin h_line h_draught h_books h_rare h_quarrels_ h_nameSizes_ h_names_ h_quarrels h_nameSizes h_names _ (by omega) (by omega) (by omega) hR0 hR1 hR2) kwV_X8_booksReading kM_RX8_62 rfl rfl ⟨Nat.le_of_ble_eq_true rfl, Nat.le_of_ble_eq_true rfl⟩ rfl hl.1 rfl (Nat.le_of_ble_eq_true rfl) dX8_booksLawful_3 ⟨hroom.1, hroom.2⟩) C.2.2.2.2.2.2.1 hP hD hS [0, 1, 2, 3, 4, 5, 6, 7, 8, 9, 10] [] rfl rfl (by decide) (by decide) (fun r_2 u_1 H locs hw_3 hP hD hS => ?_)
  refine lv_aload_n hx hb dX8_booksLawful_6 rfl (lv_at hl 0 rfl) ?_
  refine lv_aload_n hx hb dX8_booksLawful_7 rfl (lv_at hl 1 rfl) ?_
  refine lv_iconst (v := 2) hx hb dX8_booksLawful_8 (by decide) ?_
  refine q_ai (wr := []) (r_V (rm := (Rm 1 21 0 0)) (q0 := 0) (As := [.ref h, .int 2]) (rest := [.int r_2]) (wc := [(k, .inr (8, [.ref k_x_, .ref k_y_, .ref k_web_, .ref k_asks_, .ref k_threads_, .int k_today, .int k_day, .ref k_seen_])), (k_x_, .inl (cy 1, 8, .inl k_x)), (k_y_, .inl (cy 1, 8, .inl k_y)), (k_web_, .inl (cy 1, 8, .inl k_web)), (k_asks_, .inl (cy 1, 8, .inl k_asks)), (k_threads_, .inl (cy 1, 64, .inl k_threads)), (k_seen_, .inl (cy 1, 8, .inl k_seen)), (h, .inr (6, [.int h_wide, .int h_high, .int h_law, .int h_spin, .int h_line, .int h_draught, .int h_books, .int h_rare, .ref h_quarrels_, .ref h_nameSizes_, .ref h_names_])), (h_quarrels_, .inl (cy 1, 8, .inl h_quarrels)), (h_nameSizes_, .inl (cy 1, 8, .inl h_nameSizes)), (h_names_, .inl (cy 1, 56, .inl h_names))]) C hS (q_subP hP [0, 1, 2, 3, 4, 5, 6, 7, 8, 9, 10] rfl) (hD.sub [0, 1, 2, 3, 4, 5, 6, 7, 8, 9, 10] (by decide) rfl) (o_booksReading l D cy k h 2 k_x_ k_y_ k_web_ k_asks_ k_threads_ k_today k_day k_seen_ k_x k_y k_web k_asks k_threads k_seen h_wide h_high h_law h_spin h_line h_draught h_books h_rare h_quarrels_ h_nameSizes_ h_names_ h_quarrels h_nameSizes h_names _ (by omega) (by omega) (by omega) hR0 hR1 hR2) kwV_X8_booksReading kM_RX8_62 rfl rfl ⟨Nat.le_of_ble_eq_true rfl, Nat.le_of_ble_eq_true rfl⟩ rfl hl.1 rfl (Nat.le_of_ble_eq_true rfl) dX8_booksLawful_9 ⟨hroom.1, hroom.2⟩) C.2.2.2.2.2.2.1 hP hD hS [0, 1, 2, 3, 4, 5, 6, 7, 8, 9, 10] [] rfl rfl (by decide) (by decide) (fun r_5 u_4 H locs hw_6 hP hD hS => ?_)
  refine lv_ior hx hb dX8_booksLawful_12 ?_
  refine lv_topi (fun z_7 hz_7 => ?_)
  clear hz_7
  refine o_wq hQ ?_
  exact q_iret (rm := (Rm 2 45 0 0)) C hS () rfl trivial (q_subP hP [0, 1, 2, 3, 4, 5, 6, 7, 8, 9, 10] rfl) (hD.sub [0, 1, 2, 3, 4, 5, 6, 7, 8, 9, 10] (by decide) rfl) hroom.1 hroom.2 dX8_booksLawful_13
theorem o_booksLawful (l : Launch) (D : va_G) (cy : Nat → ClassId) (k : Nat) (h : Nat) (k_x_ : Nat) (k_y_ : Nat) (k_web_ : Nat) (k_asks_ : Nat) (k_threads_ : Nat) (k_today : Int32) (k_day : Int32) (k_seen_ : Nat) (k_x : Nat → Int32) (k_y : Nat → Int32) (k_web : Nat → Int32) (k_asks : Nat → Int32) (k_threads : Nat → Int32) (k_seen : Nat → Int32) (h_wide : Int32) (h_high : Int32) (h_law : Int32) (h_spin : Int32) (h_line : Int32) (h_draught : Int32) (h_books : Int32) (h_rare : Int32) (h_quarrels_ : Nat) (h_nameSizes_ : Nat) (h_names_ : Nat) (h_quarrels : Nat → Int32) (h_nameSizes : Nat → Int32) (h_names : Nat → Int32) (sz : Nat) (hb0 : 0 ≤ h_wide.toInt ∧ h_wide.toInt ≤ 6) (hb1 : 0 ≤ h_high.toInt ∧ h_high.toInt ≤ 6) (hb2 : 0 ≤ h_books.toInt ∧ h_books.toInt ≤ 8) (hR0 : Rg k_x 0 8 0 5) (hR1 : Rg k_y 0 8 0 5) (hR2 : Rg h_nameSizes 0 8 (-900) 7) : MI l yX8_booksLawful cX8_booksLawful 2 (some .int) (Rm 2 45 0 0) D cy [.ref k, .ref h] sz [(k, .inr (8, [.ref k_x_, .ref k_y_, .ref k_web_, .ref k_asks_, .ref k_threads_, .int k_today, .int k_day, .ref k_seen_])), (k_x_, .inl (cy 1, 8, .inl k_x)), (k_y_, .inl (cy 1, 8, .inl k_y)), (k_web_, .inl (cy 1, 8, .inl k_web)), (k_asks_, .inl (cy 1, 8, .inl k_asks)), (k_threads_, .inl (cy 1, 64, .inl k_threads)), (k_seen_, .inl (cy 1, 8, .inl k_seen)), (h, .inr (6, [.int h_wide, .int h_high, .int h_law, .int h_spin, .int h_line, .int h_draught, .int h_books, .int h_rare, .ref h_quarrels_, .ref h_nameSizes_, .ref h_names_])), (h_quarrels_, .inl (cy 1, 8, .inl h_quarrels)), (h_nameSizes_, .inl (cy 1, 8, .inl h_nameSizes)), (h_names_, .inl (cy 1, 56, .inl h_names))] (fun (r : Int32) (u : Unit) => True) (fun u : Unit => [(k, .inr (8, [.ref k_x_, .ref k_y_, .ref k_web_, .ref k_asks_, .ref k_threads_, .int k_today, .int k_day, .ref k_seen_])), (k_x_, .inl (cy 1, 8, .inl k_x)), (k_y_, .inl (cy 1, 8, .inl k_y)), (k_web_, .inl (cy 1, 8, .inl k_web)), (k_asks_, .inl (cy 1, 8, .inl k_asks)), (k_threads_, .inl (cy 1, 64, .inl k_threads)), (k_seen_, .inl (cy 1, 8, .inl k_seen)), (h, .inr (6, [.int h_wide, .int h_high, .int h_law, .int h_spin, .int h_line, .int h_draught, .int h_books, .int h_rare, .ref h_quarrels_, .ref h_nameSizes_, .ref h_names_])), (h_quarrels_, .inl (cy 1, 8, .inl h_quarrels)), (h_nameSizes_, .inl (cy 1, 8, .inl h_nameSizes)), (h_names_, .inl (cy 1, 56, .inl h_names))]) := by
  refine MI.enter (by decide) (Nat.le_of_ble_eq_true rfl) ?_
  intro p e s m below meth c ls A hsz hAe C hP hD hS hl
  exact b_o_booksLawful l D cy k h k_x_ k_y_ k_web_ k_asks_ k_threads_ k_today k_day k_seen_ k_x k_y k_web k_asks k_threads k_seen h_wide h_high h_law h_spin h_line h_draught h_books h_rare h_quarrels_ h_nameSizes_ h_names_ h_quarrels h_nameSizes h_names hb0 hb1 hb2 hR0 hR1 hR2 ⟨Nat.le_of_ble_eq_true rfl, Nat.le_of_ble_eq_true rfl⟩ C rfl _ _ ls hP hD hS hl
set_option maxHeartbeats 4000000 in
set_option maxRecDepth 100000 in
theorem b_o_linesOf (l : Launch) (D : va_G) (cy : Nat → ClassId) (k : Nat) (h : Nat) (a : Int32) (k_x_ : Nat) (k_y_ : Nat) (k_web_ : Nat) (k_asks_ : Nat) (k_threads_ : Nat) (k_today : Int32) (k_day : Int32) (k_seen_ : Nat) (k_x : Nat → Int32) (k_y : Nat → Int32) (k_web : Nat → Int32) (k_asks : Nat → Int32) (k_threads : Nat → Int32) (k_seen : Nat → Int32) (h_wide : Int32) (h_high : Int32) (h_law : Int32) (h_spin : Int32) (h_line : Int32) (h_draught : Int32) (h_books : Int32) (h_rare : Int32) (h_quarrels_ : Nat) (h_nameSizes_ : Nat) (h_names_ : Nat) (h_quarrels : Nat → Int32) (h_nameSizes : Nat → Int32) (h_names : Nat → Int32) (hb0 : 0 ≤ h_wide.toInt ∧ h_wide.toInt ≤ 6) (hb1 : 0 ≤ h_high.toInt ∧ h_high.toInt ≤ 6) (hb2 : 0 ≤ h_books.toInt ∧ h_books.toInt ≤ 8) (hb3 : 0 ≤ a.toInt ∧ a.toInt ≤ 7) (hR0 : Rg k_x 0 8 0 5) (hR1 : Rg k_y 0 8 0 5) (hR2 : Rg h_nameSizes 0 8 (-900) 7) {p : Program} {e : Env} {s : State} {m : MethodId} {args : Array Value} {below : List Frame} {meth : Method} {c : Code} {A : Nat → Prop} {Q : State → Prop} {cells slots : Nat} (hroom : cells ≤ ((Rm 1 21 0 0)).cells ∧ slots ≤ ((Rm 1 21 0 0)).slots) (C : Cx p s m args meth c cX8_linesOf 5 (some .int) RX8 "linesOf" D cy A) (hQ : Q = MQ below (va_Qi (fun (r : Int32) (u : Unit) => True) (Bx D A (fun u : Unit => [(k, .inr (8, [.ref k_x_, .ref k_y_, .ref k_web_, .ref k_asks_, .ref k_threads_, .int k_today, .int k_day, .ref k_seen_])), (k_x_, .inl (cy 1, 8, .inl k_x)), (k_y_, .inl (cy 1, 8, .inl k_y)), (k_web_, .inl (cy 1, 8, .inl k_web)), (k_asks_, .inl (cy 1, 8, .inl k_asks)), (k_threads_, .inl (cy 1, 64, .inl k_threads)), (k_seen_, .inl (cy 1, 8, .inl k_seen)), (h, .inr (6, [.int h_wide, .int h_high, .int h_law, .int h_spin, .int h_line, .int h_draught, .int h_books, .int h_rare, .ref h_quarrels_, .ref h_nameSizes_, .ref h_names_])), (h_quarrels_, .inl (cy 1, 8, .inl h_quarrels)), (h_nameSizes_, .inl (cy 1, 8, .inl h_nameSizes)), (h_names_, .inl (cy 1, 56, .inl h_names))])) A) args s ((Rm 1 21 0 0)).cells ((Rm 1 21 0 0)).slots A) (H : Heap) (locs : List Loc) (ls : Array Slot) (hP : va_P D vwCl [(k, .inr (8, [.ref k_x_, .ref k_y_, .ref k_web_, .ref k_asks_, .ref k_threads_, .int k_today, .int k_day, .ref k_seen_])), (k_x_, .inl (cy 1, 8, .inl k_x)), (k_y_, .inl (cy 1, 8, .inl k_y)), (k_web_, .inl (cy 1, 8, .inl k_web)), (k_asks_, .inl (cy 1, 8, .inl k_asks)), (k_threads_, .inl (cy 1, 64, .inl k_threads)), (k_seen_, .inl (cy 1, 8, .inl k_seen)), (h, .inr (6, [.int h_wide, .int h_high, .int h_law, .int h_spin, .int h_line, .int h_draught, .int h_books, .int h_rare, .ref h_quarrels_, .ref h_nameSizes_, .ref h_names_])), (h_quarrels_, .inl (cy 1, 8, .inl h_quarrels)), (h_nameSizes_, .inl (cy 1, 8, .inl h_nameSizes)), (h_names_, .inl (cy 1, 56, .inl h_names))] H) (hD : va_D A [(k, .inr (8, [.ref k_x_, .ref k_y_, .ref k_web_, .ref k_asks_, .ref k_threads_, .int k_today, .int k_day, .ref k_seen_])), (k_x_, .inl (cy 1, 8, .inl k_x)), (k_y_, .inl (cy 1, 8, .inl k_y)), (k_web_, .inl (cy 1, 8, .inl k_web)), (k_asks_, .inl (cy 1, 8, .inl k_asks)), (k_threads_, .inl (cy 1, 64, .inl k_threads)), (k_seen_, .inl (cy 1, 8, .inl k_seen)), (h, .inr (6, [.int h_wide, .int h_high, .int h_law, .int h_spin, .int h_line, .int h_draught, .int h_books, .int h_rare, .ref h_quarrels_, .ref h_nameSizes_, .ref h_names_])), (h_quarrels_, .inl (cy 1, 8, .inl h_quarrels)), (h_nameSizes_, .inl (cy 1, 8, .inl h_nameSizes)), (h_names_, .inl (cy 1, 56, .inl h_names))]) (hS : va_S A s.heap H locs) (hl : lv_has ls 5 [(0, .ref k), (1, .ref h), (2, .int a)]) : W p l e (Rm 1 21 0 0) s m args below meth c H locs cells slots Q (F0 m 0 ls []) := by
  have hx := C.1
  have hb := C.2.1
  refine lv_iconst (v := 0) hx hb dX8_linesOf_0 (by decide) ?_
  refine lv_istore_n (lv' := [(3, .int 0), (0, .ref k), (1, .ref h), (2, .int a)]) hx hb dX8_linesOf_1 rfl hl (by decide) rfl (fun ls hl => ?_)
  refine lv_iconst (v := 0) hx hb dX8_linesOf_2 (by decide) ?_
  refine lv_istore (lv' := [(4, .int 0), (3, .int 0), (0, .ref k), (1, .ref h), (2, .int a)]) hx hb dX8_linesOf_3 hl (by decide) rfl (fun ls hl => ?_)
  have lp_5_2 : ∀ (n_3 : Nat) (x_1 : Int32) (x_2 : Int32) (H : Heap) (locs : List Loc) (ls : Array Slot), (-1) * x_2.toInt + 8 < (n_3 : Int) → (0 ≤ x_2.toInt ∧ x_2.toInt ≤ 8) → va_P D vwCl [(k, .inr (8, [.ref k_x_, .ref k_y_, .ref k_web_, .ref k_asks_, .ref k_threads_, .int k_today, .int k_day, .ref k_seen_])), (k_x_, .inl (cy 1, 8, .inl k_x)), (k_y_, .inl (cy 1, 8, .inl k_y)), (k_web_, .inl (cy 1, 8, .inl k_web)), (k_asks_, .inl (cy 1, 8, .inl k_asks)), (k_threads_, .inl (cy 1, 64, .inl k_threads)), (k_seen_, .inl (cy 1, 8, .inl k_seen)), (h, .inr (6, [.int h_wide, .int h_high, .int h_law, .int h_spin, .int h_line, .int h_draught, .int h_books, .int h_rare, .ref h_quarrels_, .ref h_nameSizes_, .ref h_names_])), (h_quarrels_, .inl (cy 1, 8, .inl h_quarrels)), (h_nameSizes_, .inl (cy 1, 8, .inl h_nameSizes)), (h_names_, .inl (cy 1, 56, .inl h_names))] H → va_D A [(k, .inr (8, [.ref k_x_, .ref k_y_, .ref k_web_, .ref k_asks_, .ref k_threads_, .int k_today, .int k_day, .ref k_seen_])), (k_x_, .inl (cy 1, 8, .inl k_x)), (k_y_, .inl (cy 1, 8, .inl k_y)), (k_web_, .inl (cy 1, 8, .inl k_web)), (k_asks_, .inl (cy 1, 8, .inl k_asks)), (k_threads_, .inl (cy 1, 64, .inl k_threads)), (k_seen_, .inl (cy 1, 8, .inl k_seen)), (h, .inr (6, [.int h_wide, .int h_high, .int h_law, .int h_spin, .int h_line, .int h_draught, .int h_books, .int h_rare, .ref h_quarrels_, .ref h_nameSizes_, .ref h_names_])), (h_quarrels_, .inl (cy 1, 8, .inl h_quarrels)), (h_nameSizes_, .inl (cy 1, 8, .inl h_nameSizes)), (h_names_, .inl (cy 1, 56, .inl h_names))] → va_S A s.heap H locs → lv_has ls 5 [(0, .ref k), (1, .ref h), (2, .int a), (3, .int x_1), (4, .int x_2)] → W p l e (Rm 1 21 0 0) s m args below meth c H locs cells slots Q (F0 m 5 ls []) := by
    intro n_3
    induction n_3 with
    | zero =>
      intro x_1 x_2 H locs ls hm_5 hf_4 hP hD hS hl
      exact absurd hm_5 (by omega)
    | succ n_3 ih_6 =>
      intro x_1 x_2 H locs ls hm_5 hf_4 hP hD hS hl
      refine lv_iload hx hb dX8_linesOf_5 (lv_at hl 4 rfl) ?_
      refine lv_aload_n hx hb dX8_linesOf_7 rfl (lv_at hl 1 rfl) ?_
      refine q_get (v := .int h_books) C hP 7 6 rfl rfl inX6 (by decide) kF_RX8_53 rfl rfl dX8_linesOf_8 ?_
      refine lv_icmp_ge (tgt := 51) hx hb dX8_linesOf_11 (by decide) (fun c_8 => ?_) (fun c_8 => ?_)
      · have hc_8 := o_le (rfl : h_books.toInt = h_books.toInt) (rfl : x_2.toInt = x_2.toInt) c_8
        refine lv_iload_n hx hb dX8_linesOf_51 rfl (lv_at hl 3 rfl) ?_
        refine o_wq hQ ?_
        exact q_iret (rm := (Rm 1 21 0 0)) C hS () rfl trivial (q_subP hP [0, 1, 2, 3, 4, 5, 6, 7, 8, 9, 10] rfl) (hD.sub [0, 1, 2, 3, 4, 5, 6, 7, 8, 9, 10] (by decide) rfl) hroom.1 hroom.2 dX8_linesOf_52
      · have hc_8 := o_nle (rfl : h_books.toInt = h_books.toInt) (rfl : x_2.toInt = x_2.toInt) c_8
        refine lv_iload hx hb dX8_linesOf_14 (lv_at hl 4 rfl) ?_
        refine lv_iload_n hx hb dX8_linesOf_16 rfl (lv_at hl 2 rfl) ?_
        refine lv_icmp_eq (tgt := 45) hx hb dX8_linesOf_17 (by decide) (fun c_9 => ?_) (fun c_9 => ?_)
        · have hc_9 := o_eq (rfl : x_2.toInt = x_2.toInt) (rfl : a.toInt = a.toInt) c_9
          obtain ⟨z_10, hz_10⟩ : ∃ z : Int32, z = x_2 + 1 := ⟨_, rfl⟩
          refine lv_iinc (v := z_10) (lv' := [(4, .int z_10), (0, .ref k), (1, .ref h), (2, .int a), (3, .int x_1)]) hx hb dX8_linesOf_45 hl (k := 4) rfl hz_10.symm (by decide) rfl (fun ls hl => ?_)
          have hz_10 := o_add hz_10 (rfl : x_2.toInt = x_2.toInt) (by decide : (1 : Int32).toInt = 1) (by omega) (by omega)
          refine lv_goto (tgt := 5) hx hb dX8_linesOf_48 (by decide) ?_
          exact ih_6 x_1 z_10 H locs ls (by omega) (by omega) hP hD hS (lv_sub hl [1, 2, 3, 4, 0] rfl)
        · have hc_9 := o_ne (rfl : x_2.toInt = x_2.toInt) (rfl : a.toInt = a.toInt) c_9
          refine lv_aload_n hx hb dX8_linesOf_20 rfl (lv_at hl 0 rfl) ?_
          refine q_get (v := .ref k_threads_) C hP 0 4 rfl rfl inX8 (by decide) kF_RX8_24 rfl rfl dX8_linesOf_21 ?_
          refine lv_iload_n hx hb dX8_linesOf_24 rfl (lv_at hl 2 rfl) ?_
          refine lv_iload hx hb dX8_linesOf_25 (lv_at hl 4 rfl) ?_
          refine q_ai (wr := [(k, .inr (8, [.ref k_x_, .ref k_y_, .ref k_web_, .ref k_asks_, .ref k_threads_, .int k_today, .int k_day, .ref k_seen_])), (k_x_, .inl (cy 1, 8, .inl k_x)), (k_y_, .inl (cy 1, 8, .inl k_y)), (k_web_, .inl (cy 1, 8, .inl k_web)), (k_asks_, .inl (cy 1, 8, .inl k_asks)), (k_threads_, .inl (cy 1, 64, .inl k_threads)), (k_seen_, .inl (cy 1, 8, .inl k_seen)), (h, .inr (6, [.int h_wide, .int h_high, .int h_law, .int h_spin, .int h_line, .int h_draught, .int h_books, .int h_rare, .ref h_quarrels_, .ref h_nameSizes_, .ref h_names_])), (h_quarrels_, .inl (cy 1, 8, .inl h_quarrels)), (h_nameSizes_, .inl (cy 1, 8, .inl h_nameSizes)), (h_names_, .inl (cy 1, 56, .inl h_names))]) (r_SN (rm := (Rm 0 0 0 0)) (As := [.int a, .int x_2]) (rest := [.ref k_threads_]) (wc := []) C hS (q_subP hP [] rfl) (hD.sub [] (by decide) rfl) (o_pairPlace l D cy a x_2 _ (by omega) (by omega)) kwS_X10_pairPlace kN_RX8_66 ⟨Nat.le_of_ble_eq_true rfl, Nat.le_of_ble_eq_true rfl⟩ rfl hl.1 rfl (Nat.le_of_ble_eq_true rfl) dX8_linesOf_27 ⟨hroom.1, hroom.2⟩) C.2.2.2.2.2.2.1 hP hD hS [] [0, 1, 2, 3, 4, 5, 6, 7, 8, 9, 10] rfl rfl (by decide) (by decide) (fun r_12 u_11 H locs hw_13 hP hD hS => ?_)
          have hp_13 : 0 ≤ r_12.toInt ∧ r_12.toInt ≤ 63 := hw_13
          refine q_iald (v := k_threads r_12.toNatClampNeg) C hP 5 rfl (o_in (rfl : r_12.toInt = r_12.toInt) (by omega) (by omega)) rfl dX8_linesOf_30 ?_
          refine lv_topi (fun z_15 ez_15 => ?_)
          refine lv_aload_n hx hb dX8_linesOf_31 rfl (lv_at hl 1 rfl) ?_
          refine q_get (v := .int h_line) C hP 7 4 rfl rfl inX6 (by decide) kF_RX8_70 rfl rfl dX8_linesOf_32 ?_
          refine lv_icmp_lt (tgt := 45) hx hb dX8_linesOf_35 (by decide) (fun c_16 => ?_) (fun c_16 => ?_)
          · have hc_16 := o_lt (rfl : z_15.toInt = z_15.toInt) (rfl : h_line.toInt = h_line.toInt) c_16
            obtain ⟨z_17, hz_17⟩ : ∃ z : Int32, z = x_2 + 1 := ⟨_, rfl⟩
            refine lv_iinc (v := z_17) (lv' := [(4, .int z_17), (0, .ref k), (1, .ref h), (2, .int a), (3, .int x_1)]) hx hb dX8_linesOf_45 hl (k := 4) rfl hz_17.symm (by decide) rfl (fun ls hl => ?_)
            have hz_17 := o_add hz_17 (rfl : x_2.toInt = x_2.toInt) (by decide : (1 : Int32).toInt = 1) (by omega) (by omega)
            refine lv_goto (tgt := 5) hx hb dX8_linesOf_48 (by decide) ?_
            exact ih_6 x_1 z_17 H locs ls (by omega) (by omega) hP hD hS (lv_sub hl [1, 2, 3, 4, 0] rfl)
          · have hc_16 := o_nlt (rfl : z_15.toInt = z_15.toInt) (rfl : h_line.toInt = h_line.toInt) c_16
            refine lv_iload_n hx hb dX8_linesOf_38 rfl (lv_at hl 3 rfl) ?_
            refine lv_iconst (v := 1) hx hb dX8_linesOf_39 (by decide) ?_
            refine lv_iload hx hb dX8_linesOf_40 (lv_at hl 4 rfl) ?_
            refine lv_ishl hx hb dX8_linesOf_42 ?_
            refine lv_topi (fun z_18 hz_18 => ?_)
            clear hz_18
            refine lv_ior hx hb dX8_linesOf_43 ?_
            refine lv_topi (fun z_19 hz_19 => ?_)
            clear hz_19
            refine lv_istore_n (lv' := [(3, .int z_19), (0, .ref k), (1, .ref h), (2, .int a), (4, .int x_2)]) hx hb dX8_linesOf_44 rfl hl (by decide) rfl (fun ls hl => ?_)
            obtain ⟨z_20, hz_20⟩ : ∃ z : Int32, z = x_2 + 1 := ⟨_, rfl⟩
            refine lv_iinc (v := z_20) (lv' := [(4, .int z_20), (3, .int z_19), (0, .ref k), (1, .ref h), (2, .int a)]) hx hb dX8_linesOf_45 hl (k := 4) rfl hz_20.symm (by decide) rfl (fun ls hl => ?_)
            have hz_20 := o_add hz_20 (rfl : x_2.toInt = x_2.toInt) (by decide : (1 : Int32).toInt = 1) (by omega) (by omega)
            refine lv_goto (tgt := 5) hx hb dX8_linesOf_48 (by decide) ?_
            exact ih_6 z_19 z_20 H locs ls (by omega) (by omega) hP hD hS (lv_sub hl [2, 3, 4, 1, 0] rfl)
  exact lp_5_2 9 (0 : Int32) (0 : Int32) H locs ls (by have e0 : (0 : Int32).toInt = 0 := (by decide); omega) (by have e0 : (0 : Int32).toInt = 0 := (by decide); omega) hP hD hS (lv_sub hl [2, 3, 4, 1, 0] rfl)
theorem o_linesOf (l : Launch) (D : va_G) (cy : Nat → ClassId) (k : Nat) (h : Nat) (a : Int32) (k_x_ : Nat) (k_y_ : Nat) (k_web_ : Nat) (k_asks_ : Nat) (k_threads_ : Nat) (k_today : Int32) (k_day : Int32) (k_seen_ : Nat) (k_x : Nat → Int32) (k_y : Nat → Int32) (k_web : Nat → Int32) (k_asks : Nat → Int32) (k_threads : Nat → Int32) (k_seen : Nat → Int32) (h_wide : Int32) (h_high : Int32) (h_law : Int32) (h_spin : Int32) (h_line : Int32) (h_draught : Int32) (h_books : Int32) (h_rare : Int32) (h_quarrels_ : Nat) (h_nameSizes_ : Nat) (h_names_ : Nat) (h_quarrels : Nat → Int32) (h_nameSizes : Nat → Int32) (h_names : Nat → Int32) (sz : Nat) (hb0 : 0 ≤ h_wide.toInt ∧ h_wide.toInt ≤ 6) (hb1 : 0 ≤ h_high.toInt ∧ h_high.toInt ≤ 6) (hb2 : 0 ≤ h_books.toInt ∧ h_books.toInt ≤ 8) (hb3 : 0 ≤ a.toInt ∧ a.toInt ≤ 7) (hR0 : Rg k_x 0 8 0 5) (hR1 : Rg k_y 0 8 0 5) (hR2 : Rg h_nameSizes 0 8 (-900) 7) : MI l yX8_linesOf cX8_linesOf 5 (some .int) (Rm 1 21 0 0) D cy [.ref k, .ref h, .int a] sz [(k, .inr (8, [.ref k_x_, .ref k_y_, .ref k_web_, .ref k_asks_, .ref k_threads_, .int k_today, .int k_day, .ref k_seen_])), (k_x_, .inl (cy 1, 8, .inl k_x)), (k_y_, .inl (cy 1, 8, .inl k_y)), (k_web_, .inl (cy 1, 8, .inl k_web)), (k_asks_, .inl (cy 1, 8, .inl k_asks)), (k_threads_, .inl (cy 1, 64, .inl k_threads)), (k_seen_, .inl (cy 1, 8, .inl k_seen)), (h, .inr (6, [.int h_wide, .int h_high, .int h_law, .int h_spin, .int h_line, .int h_draught, .int h_books, .int h_rare, .ref h_quarrels_, .ref h_nameSizes_, .ref h_names_])), (h_quarrels_, .inl (cy 1, 8, .inl h_quarrels)), (h_nameSizes_, .inl (cy 1, 8, .inl h_nameSizes)), (h_names_, .inl (cy 1, 56, .inl h_names))] (fun (r : Int32) (u : Unit) => True) (fun u : Unit => [(k, .inr (8, [.ref k_x_, .ref k_y_, .ref k_web_, .ref k_asks_, .ref k_threads_, .int k_today, .int k_day, .ref k_seen_])), (k_x_, .inl (cy 1, 8, .inl k_x)), (k_y_, .inl (cy 1, 8, .inl k_y)), (k_web_, .inl (cy 1, 8, .inl k_web)), (k_asks_, .inl (cy 1, 8, .inl k_asks)), (k_threads_, .inl (cy 1, 64, .inl k_threads)), (k_seen_, .inl (cy 1, 8, .inl k_seen)), (h, .inr (6, [.int h_wide, .int h_high, .int h_law, .int h_spin, .int h_line, .int h_draught, .int h_books, .int h_rare, .ref h_quarrels_, .ref h_nameSizes_, .ref h_names_])), (h_quarrels_, .inl (cy 1, 8, .inl h_quarrels)), (h_nameSizes_, .inl (cy 1, 8, .inl h_nameSizes)), (h_names_, .inl (cy 1, 56, .inl h_names))]) := by
  refine MI.enter (by decide) (Nat.le_of_ble_eq_true rfl) ?_
  intro p e s m below meth c ls A hsz hAe C hP hD hS hl
  exact b_o_linesOf l D cy k h a k_x_ k_y_ k_web_ k_asks_ k_threads_ k_today k_day k_seen_ k_x k_y k_web k_asks k_threads k_seen h_wide h_high h_law h_spin h_line h_draught h_books h_rare h_quarrels_ h_nameSizes_ h_names_ h_quarrels h_nameSizes h_names hb0 hb1 hb2 hb3 hR0 hR1 hR2 ⟨Nat.le_of_ble_eq_true rfl, Nat.le_of_ble_eq_true rfl⟩ C rfl _ _ ls hP hD hS hl
set_option maxHeartbeats 4000000 in
set_option maxRecDepth 100000 in
theorem b_o_following (l : Launch) (D : va_G) (cy : Nat → ClassId) (k : Nat) (h : Nat) (a : Int32) (k_x_ : Nat) (k_y_ : Nat) (k_web_ : Nat) (k_asks_ : Nat) (k_threads_ : Nat) (k_today : Int32) (k_day : Int32) (k_seen_ : Nat) (k_x : Nat → Int32) (k_y : Nat → Int32) (k_web : Nat → Int32) (k_asks : Nat → Int32) (k_threads : Nat → Int32) (k_seen : Nat → Int32) (h_wide : Int32) (h_high : Int32) (h_law : Int32) (h_spin : Int32) (h_line : Int32) (h_draught : Int32) (h_books : Int32) (h_rare : Int32) (h_quarrels_ : Nat) (h_nameSizes_ : Nat) (h_names_ : Nat) (h_quarrels : Nat → Int32) (h_nameSizes : Nat → Int32) (h_names : Nat → Int32) (hb0 : 0 ≤ h_wide.toInt ∧ h_wide.toInt ≤ 6) (hb1 : 0 ≤ h_high.toInt ∧ h_high.toInt ≤ 6) (hb2 : 0 ≤ h_books.toInt ∧ h_books.toInt ≤ 8) (hb3 : 0 ≤ a.toInt ∧ a.toInt ≤ 7) (hR0 : Rg k_x 0 8 0 5) (hR1 : Rg k_y 0 8 0 5) (hR2 : Rg h_nameSizes 0 8 (-900) 7) {p : Program} {e : Env} {s : State} {m : MethodId} {args : Array Value} {below : List Frame} {meth : Method} {c : Code} {A : Nat → Prop} {Q : State → Prop} {cells slots : Nat} (hroom : cells ≤ ((Rm 2 45 0 0)).cells ∧ slots ≤ ((Rm 2 45 0 0)).slots) (C : Cx p s m args meth c cX8_following 7 (some .int) RX8 "following" D cy A) (hQ : Q = MQ below (va_Qi (fun (r : Int32) (u : Unit) => True) (Bx D A (fun u : Unit => [(k, .inr (8, [.ref k_x_, .ref k_y_, .ref k_web_, .ref k_asks_, .ref k_threads_, .int k_today, .int k_day, .ref k_seen_])), (k_x_, .inl (cy 1, 8, .inl k_x)), (k_y_, .inl (cy 1, 8, .inl k_y)), (k_web_, .inl (cy 1, 8, .inl k_web)), (k_asks_, .inl (cy 1, 8, .inl k_asks)), (k_threads_, .inl (cy 1, 64, .inl k_threads)), (k_seen_, .inl (cy 1, 8, .inl k_seen)), (h, .inr (6, [.int h_wide, .int h_high, .int h_law, .int h_spin, .int h_line, .int h_draught, .int h_books, .int h_rare, .ref h_quarrels_, .ref h_nameSizes_, .ref h_names_])), (h_quarrels_, .inl (cy 1, 8, .inl h_quarrels)), (h_nameSizes_, .inl (cy 1, 8, .inl h_nameSizes)), (h_names_, .inl (cy 1, 56, .inl h_names))])) A) args s ((Rm 2 45 0 0)).cells ((Rm 2 45 0 0)).slots A) (H : Heap) (locs : List Loc) (ls : Array Slot) (hP : va_P D vwCl [(k, .inr (8, [.ref k_x_, .ref k_y_, .ref k_web_, .ref k_asks_, .ref k_threads_, .int k_today, .int k_day, .ref k_seen_])), (k_x_, .inl (cy 1, 8, .inl k_x)), (k_y_, .inl (cy 1, 8, .inl k_y)), (k_web_, .inl (cy 1, 8, .inl k_web)), (k_asks_, .inl (cy 1, 8, .inl k_asks)), (k_threads_, .inl (cy 1, 64, .inl k_threads)), (k_seen_, .inl (cy 1, 8, .inl k_seen)), (h, .inr (6, [.int h_wide, .int h_high, .int h_law, .int h_spin, .int h_line, .int h_draught, .int h_books, .int h_rare, .ref h_quarrels_, .ref h_nameSizes_, .ref h_names_])), (h_quarrels_, .inl (cy 1, 8, .inl h_quarrels)), (h_nameSizes_, .inl (cy 1, 8, .inl h_nameSizes)), (h_names_, .inl (cy 1, 56, .inl h_names))] H) (hD : va_D A [(k, .inr (8, [.ref k_x_, .ref k_y_, .ref k_web_, .ref k_asks_, .ref k_threads_, .int k_today, .int k_day, .ref k_seen_])), (k_x_, .inl (cy 1, 8, .inl k_x)), (k_y_, .inl (cy 1, 8, .inl k_y)), (k_web_, .inl (cy 1, 8, .inl k_web)), (k_asks_, .inl (cy 1, 8, .inl k_asks)), (k_threads_, .inl (cy 1, 64, .inl k_threads)), (k_seen_, .inl (cy 1, 8, .inl k_seen)), (h, .inr (6, [.int h_wide, .int h_high, .int h_law, .int h_spin, .int h_line, .int h_draught, .int h_books, .int h_rare, .ref h_quarrels_, .ref h_nameSizes_, .ref h_names_])), (h_quarrels_, .inl (cy 1, 8, .inl h_quarrels)), (h_nameSizes_, .inl (cy 1, 8, .inl h_nameSizes)), (h_names_, .inl (cy 1, 56, .inl h_names))]) (hS : va_S A s.heap H locs) (hl : lv_has ls 7 [(0, .ref k), (1, .ref h), (2, .int a)]) : W p l e (Rm 2 45 0 0) s m args below meth c H locs cells slots Q (F0 m 0 ls []) := by
  have hx := C.1
  have hb := C.2.1
  refine lv_iconst (v := 1) hx hb dX8_following_0 (by decide) ?_
  refine lv_iload_n hx hb dX8_following_1 rfl (lv_at hl 2 rfl) ?_
  refine lv_ishl hx hb dX8_following_2 ?_
  refine lv_topi (fun z_1 hz_1 => ?_)
  clear hz_1
  refine lv_istore_n (lv' := [(3, .int z_1), (0, .ref k), (1, .ref h), (2, .int a)]) hx hb dX8_following_3 rfl hl (by decide) rfl (fun ls hl => ?_)
  refine lv_iconst (v := 0) hx hb dX8_following_4 (by decide) ?_
  refine lv_istore (lv' := [(4, .int 0), (3, .int z_1), (0, .ref k), (1, .ref h), (2, .int a)]) hx hb dX8_following_5 hl (by decide) rfl (fun ls hl => ?_)
  have lp_7_3 : ∀ (n_4 : Nat) (x_2 : Int32) (x_3 : Int32) (H : Heap) (locs : List Loc) (ls : Array Slot), (-1) * x_3.toInt + 8 < (n_4 : Int) → (0 ≤ x_3.toInt ∧ x_3.toInt ≤ 8) → va_P D vwCl [(k, .inr (8, [.ref k_x_, .ref k_y_, .ref k_web_, .ref k_asks_, .ref k_threads_, .int k_today, .int k_day, .ref k_seen_])), (k_x_, .inl (cy 1, 8, .inl k_x)), (k_y_, .inl (cy 1, 8, .inl k_y)), (k_web_, .inl (cy 1, 8, .inl k_web)), (k_asks_, .inl (cy 1, 8, .inl k_asks)), (k_threads_, .inl (cy 1, 64, .inl k_threads)), (k_seen_, .inl (cy 1, 8, .inl k_seen)), (h, .inr (6, [.int h_wide, .int h_high, .int h_law, .int h_spin, .int h_line, .int h_draught, .int h_books, .int h_rare, .ref h_quarrels_, .ref h_nameSizes_, .ref h_names_])), (h_quarrels_, .inl (cy 1, 8, .inl h_quarrels)), (h_nameSizes_, .inl (cy 1, 8, .inl h_nameSizes)), (h_names_, .inl (cy 1, 56, .inl h_names))] H → va_D A [(k, .inr (8, [.ref k_x_, .ref k_y_, .ref k_web_, .ref k_asks_, .ref k_threads_, .int k_today, .int k_day, .ref k_seen_])), (k_x_, .inl (cy 1, 8, .inl k_x)), (k_y_, .inl (cy 1, 8, .inl k_y)), (k_web_, .inl (cy 1, 8, .inl k_web)), (k_asks_, .inl (cy 1, 8, .inl k_asks)), (k_threads_, .inl (cy 1, 64, .inl k_threads)), (k_seen_, .inl (cy 1, 8, .inl k_seen)), (h, .inr (6, [.int h_wide, .int h_high, .int h_law, .int h_spin, .int h_line, .int h_draught, .int h_books, .int h_rare, .ref h_quarrels_, .ref h_nameSizes_, .ref h_names_])), (h_quarrels_, .inl (cy 1, 8, .inl h_quarrels)), (h_nameSizes_, .inl (cy 1, 8, .inl h_nameSizes)), (h_names_, .inl (cy 1, 56, .inl h_names))] → va_S A s.heap H locs → lv_has ls 7 [(0, .ref k), (1, .ref h), (3, .int x_2), (4, .int x_3)] → W p l e (Rm 2 45 0 0) s m args below meth c H locs cells slots Q (F0 m 7 ls []) := by
    intro n_4
    induction n_4 with
    | zero =>
      intro x_2 x_3 H locs ls hm_6 hf_5 hP hD hS hl
      exact absurd hm_6 (by omega)
    | succ n_4 ih_7 =>
      intro x_2 x_3 H locs ls hm_6 hf_5 hP hD hS hl
      refine lv_iload hx hb dX8_following_7 (lv_at hl 3 rfl) ?_
      refine lv_bipush (v := 8) hx hb dX8_following_9 (by decide) ?_
      refine lv_icmp_ge (tgt := 71) hx hb dX8_following_11 (by decide) (fun c_9 => ?_) (fun c_9 => ?_)
      · have hc_9 := o_le (by decide : (8 : Int32).toInt = 8) (rfl : x_3.toInt = x_3.toInt) c_9
        refine lv_iload_n hx hb dX8_following_71 rfl (lv_at hl 2 rfl) ?_
        refine o_wq hQ ?_
        exact q_iret (rm := (Rm 2 45 0 0)) C hS () rfl trivial (q_subP hP [0, 1, 2, 3, 4, 5, 6, 7, 8, 9, 10] rfl) (hD.sub [0, 1, 2, 3, 4, 5, 6, 7, 8, 9, 10] (by decide) rfl) hroom.1 hroom.2 dX8_following_72
      · have hc_9 := o_nle (by decide : (8 : Int32).toInt = 8) (rfl : x_3.toInt = x_3.toInt) c_9
        refine lv_iload_n hx hb dX8_following_14 rfl (lv_at hl 2 rfl) ?_
        refine lv_istore (lv' := [(5, .int x_2), (0, .ref k), (1, .ref h), (3, .int x_2), (4, .int x_3)]) hx hb dX8_following_15 hl (by decide) rfl (fun ls hl => ?_)
        refine lv_iconst (v := 0) hx hb dX8_following_17 (by decide) ?_
        refine lv_istore (lv' := [(6, .int 0), (5, .int x_2), (0, .ref k), (1, .ref h), (3, .int x_2), (4, .int x_3)]) hx hb dX8_following_18 hl (by decide) rfl (fun ls hl => ?_)
        have lp_20_11 : ∀ (n_12 : Nat) (x_10 : Int32) (x_11 : Int32) (H : Heap) (locs : List Loc) (ls : Array Slot), (-1) * x_11.toInt + 8 < (n_12 : Int) → (0 ≤ x_11.toInt ∧ x_11.toInt ≤ 8) → va_P D vwCl [(k, .inr (8, [.ref k_x_, .ref k_y_, .ref k_web_, .ref k_asks_, .ref k_threads_, .int k_today, .int k_day, .ref k_seen_])), (k_x_, .inl (cy 1, 8, .inl k_x)), (k_y_, .inl (cy 1, 8, .inl k_y)), (k_web_, .inl (cy 1, 8, .inl k_web)), (k_asks_, .inl (cy 1, 8, .inl k_asks)), (k_threads_, .inl (cy 1, 64, .inl k_threads)), (k_seen_, .inl (cy 1, 8, .inl k_seen)), (h, .inr (6, [.int h_wide, .int h_high, .int h_law, .int h_spin, .int h_line, .int h_draught, .int h_books, .int h_rare, .ref h_quarrels_, .ref h_nameSizes_, .ref h_names_])), (h_quarrels_, .inl (cy 1, 8, .inl h_quarrels)), (h_nameSizes_, .inl (cy 1, 8, .inl h_nameSizes)), (h_names_, .inl (cy 1, 56, .inl h_names))] H → va_D A [(k, .inr (8, [.ref k_x_, .ref k_y_, .ref k_web_, .ref k_asks_, .ref k_threads_, .int k_today, .int k_day, .ref k_seen_])), (k_x_, .inl (cy 1, 8, .inl k_x)), (k_y_, .inl (cy 1, 8, .inl k_y)), (k_web_, .inl (cy 1, 8, .inl k_web)), (k_asks_, .inl (cy 1, 8, .inl k_asks)), (k_threads_, .inl (cy 1, 64, .inl k_threads)), (k_seen_, .inl (cy 1, 8, .inl k_seen)), (h, .inr (6, [.int h_wide, .int h_high, .int h_law, .int h_spin, .int h_line, .int h_draught, .int h_books, .int h_rare, .ref h_quarrels_, .ref h_nameSizes_, .ref h_names_])), (h_quarrels_, .inl (cy 1, 8, .inl h_quarrels)), (h_nameSizes_, .inl (cy 1, 8, .inl h_nameSizes)), (h_names_, .inl (cy 1, 56, .inl h_names))] → va_S A s.heap H locs → lv_has ls 7 [(0, .ref k), (1, .ref h), (3, .int x_10), (4, .int x_3), (5, .int x_2), (6, .int x_11)] → W p l e (Rm 2 45 0 0) s m args below meth c H locs cells slots Q (F0 m 20 ls []) := by
          intro n_12
          induction n_12 with
          | zero =>
            intro x_10 x_11 H locs ls hm_14 hf_13 hP hD hS hl
            exact absurd hm_14 (by omega)
          | succ n_12 ih_15 =>
            intro x_10 x_11 H locs ls hm_14 hf_13 hP hD hS hl
            refine lv_iload hx hb dX8_following_20 (lv_at hl 5 rfl) ?_
            refine lv_aload_n hx hb dX8_following_22 rfl (lv_at hl 1 rfl) ?_
            refine q_get (v := .int h_books) C hP 7 6 rfl rfl inX6 (by decide) kF_RX8_53 rfl rfl dX8_following_23 ?_
            refine lv_icmp_ge (tgt := 56) hx hb dX8_following_26 (by decide) (fun c_17 => ?_) (fun c_17 => ?_)
            · have hc_17 := o_le (rfl : h_books.toInt = h_books.toInt) (rfl : x_11.toInt = x_11.toInt) c_17
              refine lv_iload_n hx hb dX8_following_56 rfl (lv_at hl 2 rfl) ?_
              refine lv_iload hx hb dX8_following_57 (lv_at hl 4 rfl) ?_
              refine lv_icmp_ne (tgt := 65) hx hb dX8_following_59 (by decide) (fun c_18 => ?_) (fun c_18 => ?_)
              · have hc_18 := o_ne (rfl : x_10.toInt = x_10.toInt) (rfl : x_2.toInt = x_2.toInt) c_18
                obtain ⟨z_19, hz_19⟩ : ∃ z : Int32, z = x_3 + 1 := ⟨_, rfl⟩
                refine lv_iinc (v := z_19) (lv' := [(4, .int z_19), (0, .ref k), (1, .ref h), (3, .int x_10), (5, .int x_2), (6, .int x_11)]) hx hb dX8_following_65 hl (k := 3) rfl hz_19.symm (by decide) rfl (fun ls hl => ?_)
                have hz_19 := o_add hz_19 (rfl : x_3.toInt = x_3.toInt) (by decide : (1 : Int32).toInt = 1) (by omega) (by omega)
                refine lv_goto (tgt := 7) hx hb dX8_following_68 (by decide) ?_
                exact ih_7 x_10 z_19 H locs ls (by omega) (by omega) hP hD hS (lv_sub hl [1, 2, 3, 0] rfl)
              · have hc_18 := o_eq (rfl : x_10.toInt = x_10.toInt) (rfl : x_2.toInt = x_2.toInt) c_18
                refine lv_goto (tgt := 71) hx hb dX8_following_62 (by decide) ?_
                refine lv_iload_n hx hb dX8_following_71 rfl (lv_at hl 2 rfl) ?_
                refine o_wq hQ ?_
                exact q_iret (rm := (Rm 2 45 0 0)) C hS () rfl trivial (q_subP hP [0, 1, 2, 3, 4, 5, 6, 7, 8, 9, 10] rfl) (hD.sub [0, 1, 2, 3, 4, 5, 6, 7, 8, 9, 10] (by decide) rfl) hroom.1 hroom.2 dX8_following_72
            · have hc_17 := o_nle (rfl : h_books.toInt = h_books.toInt) (rfl : x_11.toInt = x_11.toInt) c_17
              refine lv_iload hx hb dX8_following_29 (lv_at hl 4 rfl) ?_
              refine lv_iload hx hb dX8_following_31 (lv_at hl 5 rfl) ?_
              refine q_ai (wr := [(k, .inr (8, [.ref k_x_, .ref k_y_, .ref k_web_, .ref k_asks_, .ref k_threads_, .int k_today, .int k_day, .ref k_seen_])), (k_x_, .inl (cy 1, 8, .inl k_x)), (k_y_, .inl (cy 1, 8, .inl k_y)), (k_web_, .inl (cy 1, 8, .inl k_web)), (k_asks_, .inl (cy 1, 8, .inl k_asks)), (k_threads_, .inl (cy 1, 64, .inl k_threads)), (k_seen_, .inl (cy 1, 8, .inl k_seen)), (h, .inr (6, [.int h_wide, .int h_high, .int h_law, .int h_spin, .int h_line, .int h_draught, .int h_books, .int h_rare, .ref h_quarrels_, .ref h_nameSizes_, .ref h_names_])), (h_quarrels_, .inl (cy 1, 8, .inl h_quarrels)), (h_nameSizes_, .inl (cy 1, 8, .inl h_nameSizes)), (h_names_, .inl (cy 1, 56, .inl h_names))]) (r_SN (rm := (Rm 0 0 0 0)) (As := [.int x_2, .int x_11]) (rest := []) (wc := []) C hS (q_subP hP [] rfl) (hD.sub [] (by decide) rfl) (o_bitOf l D cy x_2 x_11 _ ) kwS_X10_bitOf kN_RX8_73 ⟨Nat.le_of_ble_eq_true rfl, Nat.le_of_ble_eq_true rfl⟩ rfl hl.1 rfl (Nat.le_of_ble_eq_true rfl) dX8_following_33 ⟨hroom.1, hroom.2⟩) C.2.2.2.2.2.2.1 hP hD hS [] [0, 1, 2, 3, 4, 5, 6, 7, 8, 9, 10] rfl rfl (by decide) (by decide) (fun r_21 u_20 H locs hw_22 hP hD hS => ?_)
              have hp_22 : 0 ≤ r_21.toInt ∧ r_21.toInt ≤ 1 := hw_22.1
              have hp_23 : Hd ((r_21.toInt = 1 ∧ bt x_2 x_11 = 1) ∨ (r_21.toInt = 0 ∧ bt x_2 x_11 ≠ 1)) := hw_22.2
              refine lv_iconst (v := 1) hx hb dX8_following_36 (by decide) ?_
              refine lv_icmp_ne (tgt := 50) hx hb dX8_following_37 (by decide) (fun c_25 => ?_) (fun c_25 => ?_)
              · have hc_25 := o_ne (rfl : r_21.toInt = r_21.toInt) (by decide : (1 : Int32).toInt = 1) c_25
                have hnc_25 : 0 ≤ (-1) * r_21.toInt := by rcases Int.lt_or_gt_of_ne hc_25 with h9 | h9 <;> omega
                have hd_25 : Hd (r_21.toInt = 0 ∧ bt x_2 x_11 ≠ 1) := (Hd.un hp_23).resolve_left (fun z9 => by omega)
                have hd_25_0 : r_21.toInt = 0 := (Hd.un hd_25).1
                obtain ⟨z_27, hz_27⟩ : ∃ z : Int32, z = x_11 + 1 := ⟨_, rfl⟩
                refine lv_iinc (v := z_27) (lv' := [(6, .int z_27), (0, .ref k), (1, .ref h), (3, .int x_10), (4, .int x_3), (5, .int x_2)]) hx hb dX8_following_50 hl (k := 5) rfl hz_27.symm (by decide) rfl (fun ls hl => ?_)
                have hz_27 := o_add hz_27 (rfl : x_11.toInt = x_11.toInt) (by decide : (1 : Int32).toInt = 1) (by omega) (by omega)
                refine lv_goto (tgt := 20) hx hb dX8_following_53 (by decide) ?_
                exact ih_15 x_10 z_27 H locs ls (by omega) (by omega) hP hD hS (lv_sub hl [1, 2, 3, 4, 5, 0] rfl)
              · have hc_25 := o_eq (rfl : r_21.toInt = r_21.toInt) (by decide : (1 : Int32).toInt = 1) c_25
                have hd_27 : Hd (r_21.toInt = 1 ∧ bt x_2 x_11 = 1) := (Hd.un hp_23).resolve_right (fun z9 => by omega)
                have hd_27_0 : r_21.toInt = 1 := (Hd.un hd_27).1
                refine lv_iload_n hx hb dX8_following_40 rfl (lv_at hl 2 rfl) ?_
                refine lv_aload_n hx hb dX8_following_41 rfl (lv_at hl 0 rfl) ?_
                refine lv_aload_n hx hb dX8_following_42 rfl (lv_at hl 1 rfl) ?_
                refine lv_iload hx hb dX8_following_43 (lv_at hl 5 rfl) ?_
                refine q_ai (wr := []) (r_V (rm := (Rm 1 21 0 0)) (q0 := 0) (As := [.ref h, .int x_11]) (rest := [.int x_10]) (wc := [(k, .inr (8, [.ref k_x_, .ref k_y_, .ref k_web_, .ref k_asks_, .ref k_threads_, .int k_today, .int k_day, .ref k_seen_])), (k_x_, .inl (cy 1, 8, .inl k_x)), (k_y_, .inl (cy 1, 8, .inl k_y)), (k_web_, .inl (cy 1, 8, .inl k_web)), (k_asks_, .inl (cy 1, 8, .inl k_asks)), (k_threads_, .inl (cy 1, 64, .inl k_threads)), (k_seen_, .inl (cy 1, 8, .inl k_seen)), (h, .inr (6, [.int h_wide, .int h_high, .int h_law, .int h_spin, .int h_line, .int h_draught, .int h_books, .int h_rare, .ref h_quarrels_, .ref h_nameSizes_, .ref h_names_])), (h_quarrels_, .inl (cy 1, 8, .inl h_quarrels)), (h_nameSizes_, .inl (cy 1, 8, .inl h_nameSizes)), (h_names_, .inl (cy 1, 56, .inl h_names))]) C hS (q_subP hP [0, 1, 2, 3, 4, 5, 6, 7, 8, 9, 10] rfl) (hD.sub [0, 1, 2, 3, 4, 5, 6, 7, 8, 9, 10] (by decide) rfl) (o_linesOf l D cy k h x_11 k_x_ k_y_ k_web_ k_asks_ k_threads_ k_today k_day k_seen_ k_x k_y k_web k_asks k_threads k_seen h_wide h_high h_law h_spin h_line h_draught h_books h_rare h_quarrels_ h_nameSizes_ h_names_ h_quarrels h_nameSizes h_names _ (by omega) (by omega) (by omega) (by omega) hR0 hR1 hR2) kwV_X8_linesOf kM_RX8_76 rfl rfl ⟨Nat.le_of_ble_eq_true rfl, Nat.le_of_ble_eq_true rfl⟩ rfl hl.1 rfl (Nat.le_of_ble_eq_true rfl) dX8_following_45 ⟨hroom.1, hroom.2⟩) C.2.2.2.2.2.2.1 hP hD hS [0, 1, 2, 3, 4, 5, 6, 7, 8, 9, 10] [] rfl rfl (by decide) (by decide) (fun r_30 u_29 H locs hw_31 hP hD hS => ?_)
                refine lv_ior hx hb dX8_following_48 ?_
                refine lv_topi (fun z_32 hz_32 => ?_)
                clear hz_32
                refine lv_istore_n (lv' := [(3, .int z_32), (0, .ref k), (1, .ref h), (4, .int x_3), (5, .int x_2), (6, .int x_11)]) hx hb dX8_following_49 rfl hl (by decide) rfl (fun ls hl => ?_)
                obtain ⟨z_33, hz_33⟩ : ∃ z : Int32, z = x_11 + 1 := ⟨_, rfl⟩
                refine lv_iinc (v := z_33) (lv' := [(6, .int z_33), (3, .int z_32), (0, .ref k), (1, .ref h), (4, .int x_3), (5, .int x_2)]) hx hb dX8_following_50 hl (k := 5) rfl hz_33.symm (by decide) rfl (fun ls hl => ?_)
                have hz_33 := o_add hz_33 (rfl : x_11.toInt = x_11.toInt) (by decide : (1 : Int32).toInt = 1) (by omega) (by omega)
                refine lv_goto (tgt := 20) hx hb dX8_following_53 (by decide) ?_
                exact ih_15 z_32 z_33 H locs ls (by omega) (by omega) hP hD hS (lv_sub hl [2, 3, 1, 4, 5, 0] rfl)
        exact lp_20_11 9 x_2 (0 : Int32) H locs ls (by have e0 : (0 : Int32).toInt = 0 := (by decide); omega) (by have e0 : (0 : Int32).toInt = 0 := (by decide); omega) hP hD hS (lv_sub hl [2, 3, 4, 5, 1, 0] rfl)
  exact lp_7_3 9 z_1 (0 : Int32) H locs ls (by have e0 : (0 : Int32).toInt = 0 := (by decide); omega) (by have e0 : (0 : Int32).toInt = 0 := (by decide); omega) hP hD hS (lv_sub hl [2, 3, 1, 0] rfl)
theorem o_following (l : Launch) (D : va_G) (cy : Nat → ClassId) (k : Nat) (h : Nat) (a : Int32) (k_x_ : Nat) (k_y_ : Nat) (k_web_ : Nat) (k_asks_ : Nat) (k_threads_ : Nat) (k_today : Int32) (k_day : Int32) (k_seen_ : Nat) (k_x : Nat → Int32) (k_y : Nat → Int32) (k_web : Nat → Int32) (k_asks : Nat → Int32) (k_threads : Nat → Int32) (k_seen : Nat → Int32) (h_wide : Int32) (h_high : Int32) (h_law : Int32) (h_spin : Int32) (h_line : Int32) (h_draught : Int32) (h_books : Int32) (h_rare : Int32) (h_quarrels_ : Nat) (h_nameSizes_ : Nat) (h_names_ : Nat) (h_quarrels : Nat → Int32) (h_nameSizes : Nat → Int32) (h_names : Nat → Int32) (sz : Nat) (hb0 : 0 ≤ h_wide.toInt ∧ h_wide.toInt ≤ 6) (hb1 : 0 ≤ h_high.toInt ∧ h_high.toInt ≤ 6) (hb2 : 0 ≤ h_books.toInt ∧ h_books.toInt ≤ 8) (hb3 : 0 ≤ a.toInt ∧ a.toInt ≤ 7) (hR0 : Rg k_x 0 8 0 5) (hR1 : Rg k_y 0 8 0 5) (hR2 : Rg h_nameSizes 0 8 (-900) 7) : MI l yX8_following cX8_following 7 (some .int) (Rm 2 45 0 0) D cy [.ref k, .ref h, .int a] sz [(k, .inr (8, [.ref k_x_, .ref k_y_, .ref k_web_, .ref k_asks_, .ref k_threads_, .int k_today, .int k_day, .ref k_seen_])), (k_x_, .inl (cy 1, 8, .inl k_x)), (k_y_, .inl (cy 1, 8, .inl k_y)), (k_web_, .inl (cy 1, 8, .inl k_web)), (k_asks_, .inl (cy 1, 8, .inl k_asks)), (k_threads_, .inl (cy 1, 64, .inl k_threads)), (k_seen_, .inl (cy 1, 8, .inl k_seen)), (h, .inr (6, [.int h_wide, .int h_high, .int h_law, .int h_spin, .int h_line, .int h_draught, .int h_books, .int h_rare, .ref h_quarrels_, .ref h_nameSizes_, .ref h_names_])), (h_quarrels_, .inl (cy 1, 8, .inl h_quarrels)), (h_nameSizes_, .inl (cy 1, 8, .inl h_nameSizes)), (h_names_, .inl (cy 1, 56, .inl h_names))] (fun (r : Int32) (u : Unit) => True) (fun u : Unit => [(k, .inr (8, [.ref k_x_, .ref k_y_, .ref k_web_, .ref k_asks_, .ref k_threads_, .int k_today, .int k_day, .ref k_seen_])), (k_x_, .inl (cy 1, 8, .inl k_x)), (k_y_, .inl (cy 1, 8, .inl k_y)), (k_web_, .inl (cy 1, 8, .inl k_web)), (k_asks_, .inl (cy 1, 8, .inl k_asks)), (k_threads_, .inl (cy 1, 64, .inl k_threads)), (k_seen_, .inl (cy 1, 8, .inl k_seen)), (h, .inr (6, [.int h_wide, .int h_high, .int h_law, .int h_spin, .int h_line, .int h_draught, .int h_books, .int h_rare, .ref h_quarrels_, .ref h_nameSizes_, .ref h_names_])), (h_quarrels_, .inl (cy 1, 8, .inl h_quarrels)), (h_nameSizes_, .inl (cy 1, 8, .inl h_nameSizes)), (h_names_, .inl (cy 1, 56, .inl h_names))]) := by
  refine MI.enter (by decide) (Nat.le_of_ble_eq_true rfl) ?_
  intro p e s m below meth c ls A hsz hAe C hP hD hS hl
  exact b_o_following l D cy k h a k_x_ k_y_ k_web_ k_asks_ k_threads_ k_today k_day k_seen_ k_x k_y k_web k_asks k_threads k_seen h_wide h_high h_law h_spin h_line h_draught h_books h_rare h_quarrels_ h_nameSizes_ h_names_ h_quarrels h_nameSizes h_names hb0 hb1 hb2 hb3 hR0 hR1 hR2 ⟨Nat.le_of_ble_eq_true rfl, Nat.le_of_ble_eq_true rfl⟩ C rfl _ _ ls hP hD hS hl
set_option maxHeartbeats 4000000 in
set_option maxRecDepth 100000 in
theorem b_o_setThread (l : Launch) (D : va_G) (cy : Nat → ClassId) (k : Nat) (v : Int32) (w : Int32) (z : Int32) (k_x_ : Nat) (k_y_ : Nat) (k_web_ : Nat) (k_asks_ : Nat) (k_threads_ : Nat) (k_today : Int32) (k_day : Int32) (k_seen_ : Nat) (k_x : Nat → Int32) (k_y : Nat → Int32) (k_web : Nat → Int32) (k_asks : Nat → Int32) (k_threads : Nat → Int32) (k_seen : Nat → Int32) (hb0 : 0 ≤ v.toInt ∧ v.toInt ≤ 7) (hb1 : 0 ≤ w.toInt ∧ w.toInt ≤ 7) (hR0 : Rg k_x 0 8 0 5) (hR1 : Rg k_y 0 8 0 5) {p : Program} {e : Env} {s : State} {m : MethodId} {args : Array Value} {below : List Frame} {meth : Method} {c : Code} {A : Nat → Prop} {Q : State → Prop} {cells slots : Nat} (hroom : cells ≤ ((Rm 1 21 0 0)).cells ∧ slots ≤ ((Rm 1 21 0 0)).slots) (C : Cx p s m args meth c cX8_setThread 4 none RX8 "setThread" D cy A) (hQ : Q = MQ below (va_Qv (fun u : (Nat → Int32) => True) (Bx D A (fun u : (Nat → Int32) => [(k, .inr (8, [.ref k_x_, .ref k_y_, .ref k_web_, .ref k_asks_, .ref k_threads_, .int k_today, .int k_day, .ref k_seen_])), (k_x_, .inl (cy 1, 8, .inl k_x)), (k_y_, .inl (cy 1, 8, .inl k_y)), (k_web_, .inl (cy 1, 8, .inl k_web)), (k_asks_, .inl (cy 1, 8, .inl k_asks)), (k_threads_, .inl (cy 1, 64, .inl u)), (k_seen_, .inl (cy 1, 8, .inl k_seen))])) A) args s ((Rm 1 21 0 0)).cells ((Rm 1 21 0 0)).slots A) (H : Heap) (locs : List Loc) (ls : Array Slot) (hP : va_P D vwCl [(k, .inr (8, [.ref k_x_, .ref k_y_, .ref k_web_, .ref k_asks_, .ref k_threads_, .int k_today, .int k_day, .ref k_seen_])), (k_x_, .inl (cy 1, 8, .inl k_x)), (k_y_, .inl (cy 1, 8, .inl k_y)), (k_web_, .inl (cy 1, 8, .inl k_web)), (k_asks_, .inl (cy 1, 8, .inl k_asks)), (k_threads_, .inl (cy 1, 64, .inl k_threads)), (k_seen_, .inl (cy 1, 8, .inl k_seen))] H) (hD : va_D A [(k, .inr (8, [.ref k_x_, .ref k_y_, .ref k_web_, .ref k_asks_, .ref k_threads_, .int k_today, .int k_day, .ref k_seen_])), (k_x_, .inl (cy 1, 8, .inl k_x)), (k_y_, .inl (cy 1, 8, .inl k_y)), (k_web_, .inl (cy 1, 8, .inl k_web)), (k_asks_, .inl (cy 1, 8, .inl k_asks)), (k_threads_, .inl (cy 1, 64, .inl k_threads)), (k_seen_, .inl (cy 1, 8, .inl k_seen))]) (hS : va_S A s.heap H locs) (hl : lv_has ls 4 [(0, .ref k), (1, .int v), (2, .int w), (3, .int z)]) : W p l e (Rm 1 21 0 0) s m args below meth c H locs cells slots Q (F0 m 0 ls []) := by
  have hx := C.1
  have hb := C.2.1
  have hqz := o_rng z
  refine lv_aload_n hx hb dX8_setThread_0 rfl (lv_at hl 0 rfl) ?_
  refine q_get (v := .ref k_threads_) C hP 0 4 rfl rfl inX8 (by decide) kF_RX8_24 rfl rfl dX8_setThread_1 ?_
  refine lv_iload_n hx hb dX8_setThread_4 rfl (lv_at hl 1 rfl) ?_
  refine lv_iload_n hx hb dX8_setThread_5 rfl (lv_at hl 2 rfl) ?_
  refine q_ai (wr := [(k, .inr (8, [.ref k_x_, .ref k_y_, .ref k_web_, .ref k_asks_, .ref k_threads_, .int k_today, .int k_day, .ref k_seen_])), (k_x_, .inl (cy 1, 8, .inl k_x)), (k_y_, .inl (cy 1, 8, .inl k_y)), (k_web_, .inl (cy 1, 8, .inl k_web)), (k_asks_, .inl (cy 1, 8, .inl k_asks)), (k_threads_, .inl (cy 1, 64, .inl k_threads)), (k_seen_, .inl (cy 1, 8, .inl k_seen))]) (r_SN (rm := (Rm 0 0 0 0)) (As := [.int v, .int w]) (rest := [.ref k_threads_]) (wc := []) C hS (q_subP hP [] rfl) (hD.sub [] (by decide) rfl) (o_pairPlace l D cy v w _ (by omega) (by omega)) kwS_X10_pairPlace kN_RX8_66 ⟨Nat.le_of_ble_eq_true rfl, Nat.le_of_ble_eq_true rfl⟩ rfl hl.1 rfl (Nat.le_of_ble_eq_true rfl) dX8_setThread_6 ⟨hroom.1, hroom.2⟩) C.2.2.2.2.2.2.1 hP hD hS [] [0, 1, 2, 3, 4, 5, 6] rfl rfl (by decide) (by decide) (fun r_2 u_1 H locs hw_3 hP hD hS => ?_)
  have hp_3 : 0 ≤ r_2.toInt ∧ r_2.toInt ≤ 63 := hw_3
  refine lv_iload_n hx hb dX8_setThread_9 rfl (lv_at hl 3 rfl) ?_
  refine q_iast (g := upd k_threads r_2.toNatClampNeg z) (w' := [(k, .inr (8, [.ref k_x_, .ref k_y_, .ref k_web_, .ref k_asks_, .ref k_threads_, .int k_today, .int k_day, .ref k_seen_])), (k_x_, .inl (cy 1, 8, .inl k_x)), (k_y_, .inl (cy 1, 8, .inl k_y)), (k_web_, .inl (cy 1, 8, .inl k_web)), (k_asks_, .inl (cy 1, 8, .inl k_asks)), (k_threads_, .inl (cy 1, 64, .inl (upd k_threads r_2.toNatClampNeg z))), (k_seen_, .inl (cy 1, 8, .inl k_seen))]) C hP hD hS 5 rfl (o_in (rfl : r_2.toInt = r_2.toInt) (by omega) (by omega)) rfl rfl dX8_setThread_10 (fun H locs hP hD hS => ?_)
  generalize upd k_threads r_2.toNatClampNeg z = g_5 at hP hD 
  have hP : va_P D vwCl [(k, .inr (8, [.ref k_x_, .ref k_y_, .ref k_web_, .ref k_asks_, .ref k_threads_, .int k_today, .int k_day, .ref k_seen_])), (k_x_, .inl (cy 1, 8, .inl k_x)), (k_y_, .inl (cy 1, 8, .inl k_y)), (k_web_, .inl (cy 1, 8, .inl k_web)), (k_asks_, .inl (cy 1, 8, .inl k_asks)), (k_threads_, .inl (cy 1, 64, .inl g_5)), (k_seen_, .inl (cy 1, 8, .inl k_seen))] H := hP
  have hD : va_D A [(k, .inr (8, [.ref k_x_, .ref k_y_, .ref k_web_, .ref k_asks_, .ref k_threads_, .int k_today, .int k_day, .ref k_seen_])), (k_x_, .inl (cy 1, 8, .inl k_x)), (k_y_, .inl (cy 1, 8, .inl k_y)), (k_web_, .inl (cy 1, 8, .inl k_web)), (k_asks_, .inl (cy 1, 8, .inl k_asks)), (k_threads_, .inl (cy 1, 64, .inl g_5)), (k_seen_, .inl (cy 1, 8, .inl k_seen))] := hD
  refine lv_aload_n hx hb dX8_setThread_11 rfl (lv_at hl 0 rfl) ?_
  refine q_get (v := .ref k_threads_) C hP 0 4 rfl rfl inX8 (by decide) kF_RX8_24 rfl rfl dX8_setThread_12 ?_
  refine lv_iload_n hx hb dX8_setThread_15 rfl (lv_at hl 2 rfl) ?_
  refine lv_iload_n hx hb dX8_setThread_16 rfl (lv_at hl 1 rfl) ?_
  refine q_ai (wr := [(k, .inr (8, [.ref k_x_, .ref k_y_, .ref k_web_, .ref k_asks_, .ref k_threads_, .int k_today, .int k_day, .ref k_seen_])), (k_x_, .inl (cy 1, 8, .inl k_x)), (k_y_, .inl (cy 1, 8, .inl k_y)), (k_web_, .inl (cy 1, 8, .inl k_web)), (k_asks_, .inl (cy 1, 8, .inl k_asks)), (k_threads_, .inl (cy 1, 64, .inl g_5)), (k_seen_, .inl (cy 1, 8, .inl k_seen))]) (r_SN (rm := (Rm 0 0 0 0)) (As := [.int w, .int v]) (rest := [.ref k_threads_]) (wc := []) C hS (q_subP hP [] rfl) (hD.sub [] (by decide) rfl) (o_pairPlace l D cy w v _ (by omega) (by omega)) kwS_X10_pairPlace kN_RX8_66 ⟨Nat.le_of_ble_eq_true rfl, Nat.le_of_ble_eq_true rfl⟩ rfl hl.1 rfl (Nat.le_of_ble_eq_true rfl) dX8_setThread_17 ⟨hroom.1, hroom.2⟩) C.2.2.2.2.2.2.1 hP hD hS [] [0, 1, 2, 3, 4, 5, 6] rfl rfl (by decide) (by decide) (fun r_7 u_6 H locs hw_8 hP hD hS => ?_)
  have hp_8 : 0 ≤ r_7.toInt ∧ r_7.toInt ≤ 63 := hw_8
  refine lv_iload_n hx hb dX8_setThread_20 rfl (lv_at hl 3 rfl) ?_
  refine q_iast (g := upd g_5 r_7.toNatClampNeg z) (w' := [(k, .inr (8, [.ref k_x_, .ref k_y_, .ref k_web_, .ref k_asks_, .ref k_threads_, .int k_today, .int k_day, .ref k_seen_])), (k_x_, .inl (cy 1, 8, .inl k_x)), (k_y_, .inl (cy 1, 8, .inl k_y)), (k_web_, .inl (cy 1, 8, .inl k_web)), (k_asks_, .inl (cy 1, 8, .inl k_asks)), (k_threads_, .inl (cy 1, 64, .inl (upd g_5 r_7.toNatClampNeg z))), (k_seen_, .inl (cy 1, 8, .inl k_seen))]) C hP hD hS 5 rfl (o_in (rfl : r_7.toInt = r_7.toInt) (by omega) (by omega)) rfl rfl dX8_setThread_21 (fun H locs hP hD hS => ?_)
  generalize upd g_5 r_7.toNatClampNeg z = g_10 at hP hD 
  have hP : va_P D vwCl [(k, .inr (8, [.ref k_x_, .ref k_y_, .ref k_web_, .ref k_asks_, .ref k_threads_, .int k_today, .int k_day, .ref k_seen_])), (k_x_, .inl (cy 1, 8, .inl k_x)), (k_y_, .inl (cy 1, 8, .inl k_y)), (k_web_, .inl (cy 1, 8, .inl k_web)), (k_asks_, .inl (cy 1, 8, .inl k_asks)), (k_threads_, .inl (cy 1, 64, .inl g_10)), (k_seen_, .inl (cy 1, 8, .inl k_seen))] H := hP
  have hD : va_D A [(k, .inr (8, [.ref k_x_, .ref k_y_, .ref k_web_, .ref k_asks_, .ref k_threads_, .int k_today, .int k_day, .ref k_seen_])), (k_x_, .inl (cy 1, 8, .inl k_x)), (k_y_, .inl (cy 1, 8, .inl k_y)), (k_web_, .inl (cy 1, 8, .inl k_web)), (k_asks_, .inl (cy 1, 8, .inl k_asks)), (k_threads_, .inl (cy 1, 64, .inl g_10)), (k_seen_, .inl (cy 1, 8, .inl k_seen))] := hD
  refine o_wq hQ ?_
  exact q_vret (rm := (Rm 1 21 0 0)) C hS g_10 trivial (q_subP hP [0, 1, 2, 3, 4, 5, 6] rfl) (hD.sub [0, 1, 2, 3, 4, 5, 6] (by decide) rfl) hroom.1 hroom.2 dX8_setThread_22
theorem o_setThread (l : Launch) (D : va_G) (cy : Nat → ClassId) (k : Nat) (v : Int32) (w : Int32) (z : Int32) (k_x_ : Nat) (k_y_ : Nat) (k_web_ : Nat) (k_asks_ : Nat) (k_threads_ : Nat) (k_today : Int32) (k_day : Int32) (k_seen_ : Nat) (k_x : Nat → Int32) (k_y : Nat → Int32) (k_web : Nat → Int32) (k_asks : Nat → Int32) (k_threads : Nat → Int32) (k_seen : Nat → Int32) (sz : Nat) (hb0 : 0 ≤ v.toInt ∧ v.toInt ≤ 7) (hb1 : 0 ≤ w.toInt ∧ w.toInt ≤ 7) (hR0 : Rg k_x 0 8 0 5) (hR1 : Rg k_y 0 8 0 5) : MV l yX8_setThread cX8_setThread 4 (Rm 1 21 0 0) D cy [.ref k, .int v, .int w, .int z] sz [(k, .inr (8, [.ref k_x_, .ref k_y_, .ref k_web_, .ref k_asks_, .ref k_threads_, .int k_today, .int k_day, .ref k_seen_])), (k_x_, .inl (cy 1, 8, .inl k_x)), (k_y_, .inl (cy 1, 8, .inl k_y)), (k_web_, .inl (cy 1, 8, .inl k_web)), (k_asks_, .inl (cy 1, 8, .inl k_asks)), (k_threads_, .inl (cy 1, 64, .inl k_threads)), (k_seen_, .inl (cy 1, 8, .inl k_seen))] (fun u : (Nat → Int32) => True) (fun u : (Nat → Int32) => [(k, .inr (8, [.ref k_x_, .ref k_y_, .ref k_web_, .ref k_asks_, .ref k_threads_, .int k_today, .int k_day, .ref k_seen_])), (k_x_, .inl (cy 1, 8, .inl k_x)), (k_y_, .inl (cy 1, 8, .inl k_y)), (k_web_, .inl (cy 1, 8, .inl k_web)), (k_asks_, .inl (cy 1, 8, .inl k_asks)), (k_threads_, .inl (cy 1, 64, .inl u)), (k_seen_, .inl (cy 1, 8, .inl k_seen))]) := by
  refine MV.enter (by decide) (Nat.le_of_ble_eq_true rfl) ?_
  intro p e s m below meth c ls A hsz hAe C hP hD hS hl
  exact b_o_setThread l D cy k v w z k_x_ k_y_ k_web_ k_asks_ k_threads_ k_today k_day k_seen_ k_x k_y k_web k_asks k_threads k_seen hb0 hb1 hR0 hR1 ⟨Nat.le_of_ble_eq_true rfl, Nat.le_of_ble_eq_true rfl⟩ C rfl _ _ ls hP hD hS hl
set_option maxHeartbeats 4000000 in
set_option maxRecDepth 100000 in
theorem b_o_hasThread (l : Launch) (D : va_G) (cy : Nat → ClassId) (k : Nat) (a : Int32) (k_x_ : Nat) (k_y_ : Nat) (k_web_ : Nat) (k_asks_ : Nat) (k_threads_ : Nat) (k_today : Int32) (k_day : Int32) (k_seen_ : Nat) (k_x : Nat → Int32) (k_y : Nat → Int32) (k_web : Nat → Int32) (k_asks : Nat → Int32) (k_threads : Nat → Int32) (k_seen : Nat → Int32) (hb0 : 0 ≤ a.toInt ∧ a.toInt ≤ 7) (hR0 : Rg k_x 0 8 0 5) (hR1 : Rg k_y 0 8 0 5) {p : Program} {e : Env} {s : State} {m : MethodId} {args : Array Value} {below : List Frame} {meth : Method} {c : Code} {A : Nat → Prop} {Q : State → Prop} {cells slots : Nat} (hroom : cells ≤ ((Rm 1 21 0 0)).cells ∧ slots ≤ ((Rm 1 21 0 0)).slots) (C : Cx p s m args meth c cX8_hasThread 3 (some .boolean) RX8 "hasThread" D cy A) (hQ : Q = MQ below (va_Qi (fun (r : Int32) (u : Unit) => (0 ≤ r.toInt ∧ r.toInt ≤ 1)) (Bx D A (fun u : Unit => [(k, .inr (8, [.ref k_x_, .ref k_y_, .ref k_web_, .ref k_asks_, .ref k_threads_, .int k_today, .int k_day, .ref k_seen_])), (k_x_, .inl (cy 1, 8, .inl k_x)), (k_y_, .inl (cy 1, 8, .inl k_y)), (k_web_, .inl (cy 1, 8, .inl k_web)), (k_asks_, .inl (cy 1, 8, .inl k_asks)), (k_threads_, .inl (cy 1, 64, .inl k_threads)), (k_seen_, .inl (cy 1, 8, .inl k_seen))])) A) args s ((Rm 1 21 0 0)).cells ((Rm 1 21 0 0)).slots A) (H : Heap) (locs : List Loc) (ls : Array Slot) (hP : va_P D vwCl [(k, .inr (8, [.ref k_x_, .ref k_y_, .ref k_web_, .ref k_asks_, .ref k_threads_, .int k_today, .int k_day, .ref k_seen_])), (k_x_, .inl (cy 1, 8, .inl k_x)), (k_y_, .inl (cy 1, 8, .inl k_y)), (k_web_, .inl (cy 1, 8, .inl k_web)), (k_asks_, .inl (cy 1, 8, .inl k_asks)), (k_threads_, .inl (cy 1, 64, .inl k_threads)), (k_seen_, .inl (cy 1, 8, .inl k_seen))] H) (hD : va_D A [(k, .inr (8, [.ref k_x_, .ref k_y_, .ref k_web_, .ref k_asks_, .ref k_threads_, .int k_today, .int k_day, .ref k_seen_])), (k_x_, .inl (cy 1, 8, .inl k_x)), (k_y_, .inl (cy 1, 8, .inl k_y)), (k_web_, .inl (cy 1, 8, .inl k_web)), (k_asks_, .inl (cy 1, 8, .inl k_asks)), (k_threads_, .inl (cy 1, 64, .inl k_threads)), (k_seen_, .inl (cy 1, 8, .inl k_seen))]) (hS : va_S A s.heap H locs) (hl : lv_has ls 3 [(0, .ref k), (1, .int a)]) : W p l e (Rm 1 21 0 0) s m args below meth c H locs cells slots Q (F0 m 0 ls []) := by
  have hx := C.1
  have hb := C.2.1
  refine lv_iconst (v := 0) hx hb dX8_hasThread_0 (by decide) ?_
  refine lv_istore_n (lv' := [(2, .int 0), (0, .ref k), (1, .int a)]) hx hb dX8_hasThread_1 rfl hl (by decide) rfl (fun ls hl => ?_)
  have lp_2_1 : ∀ (n_2 : Nat) (x_1 : Int32) (H : Heap) (locs : List Loc) (ls : Array Slot), (-1) * x_1.toInt + 8 < (n_2 : Int) → (0 ≤ x_1.toInt ∧ x_1.toInt ≤ 8) → va_P D vwCl [(k, .inr (8, [.ref k_x_, .ref k_y_, .ref k_web_, .ref k_asks_, .ref k_threads_, .int k_today, .int k_day, .ref k_seen_])), (k_x_, .inl (cy 1, 8, .inl k_x)), (k_y_, .inl (cy 1, 8, .inl k_y)), (k_web_, .inl (cy 1, 8, .inl k_web)), (k_asks_, .inl (cy 1, 8, .inl k_asks)), (k_threads_, .inl (cy 1, 64, .inl k_threads)), (k_seen_, .inl (cy 1, 8, .inl k_seen))] H → va_D A [(k, .inr (8, [.ref k_x_, .ref k_y_, .ref k_web_, .ref k_asks_, .ref k_threads_, .int k_today, .int k_day, .ref k_seen_])), (k_x_, .inl (cy 1, 8, .inl k_x)), (k_y_, .inl (cy 1, 8, .inl k_y)), (k_web_, .inl (cy 1, 8, .inl k_web)), (k_asks_, .inl (cy 1, 8, .inl k_asks)), (k_threads_, .inl (cy 1, 64, .inl k_threads)), (k_seen_, .inl (cy 1, 8, .inl k_seen))] → va_S A s.heap H locs → lv_has ls 3 [(0, .ref k), (1, .int a), (2, .int x_1)] → W p l e (Rm 1 21 0 0) s m args below meth c H locs cells slots Q (F0 m 2 ls []) := by
    intro n_2
    induction n_2 with
    | zero =>
      intro x_1 H locs ls hm_4 hf_3 hP hD hS hl
      exact absurd hm_4 (by omega)
    | succ n_2 ih_5 =>
      intro x_1 H locs ls hm_4 hf_3 hP hD hS hl
      refine lv_iload_n hx hb dX8_hasThread_2 rfl (lv_at hl 2 rfl) ?_
      refine lv_bipush (v := 8) hx hb dX8_hasThread_3 (by decide) ?_
      refine lv_icmp_ge (tgt := 29) hx hb dX8_hasThread_5 (by decide) (fun c_7 => ?_) (fun c_7 => ?_)
      · have hc_7 := o_le (by decide : (8 : Int32).toInt = 8) (rfl : x_1.toInt = x_1.toInt) c_7
        refine lv_iconst (v := 0) hx hb dX8_hasThread_29 (by decide) ?_
        refine o_wq hQ ?_
        exact q_iret (rm := (Rm 1 21 0 0)) C hS () rfl (show 0 ≤ (0 : Int32).toInt ∧ (0 : Int32).toInt ≤ 1 by decide) (q_subP hP [0, 1, 2, 3, 4, 5, 6] rfl) (hD.sub [0, 1, 2, 3, 4, 5, 6] (by decide) rfl) hroom.1 hroom.2 dX8_hasThread_30
      · have hc_7 := o_nle (by decide : (8 : Int32).toInt = 8) (rfl : x_1.toInt = x_1.toInt) c_7
        refine lv_aload_n hx hb dX8_hasThread_8 rfl (lv_at hl 0 rfl) ?_
        refine q_get (v := .ref k_threads_) C hP 0 4 rfl rfl inX8 (by decide) kF_RX8_24 rfl rfl dX8_hasThread_9 ?_
        refine lv_iload_n hx hb dX8_hasThread_12 rfl (lv_at hl 1 rfl) ?_
        refine lv_iload_n hx hb dX8_hasThread_13 rfl (lv_at hl 2 rfl) ?_
        refine q_ai (wr := [(k, .inr (8, [.ref k_x_, .ref k_y_, .ref k_web_, .ref k_asks_, .ref k_threads_, .int k_today, .int k_day, .ref k_seen_])), (k_x_, .inl (cy 1, 8, .inl k_x)), (k_y_, .inl (cy 1, 8, .inl k_y)), (k_web_, .inl (cy 1, 8, .inl k_web)), (k_asks_, .inl (cy 1, 8, .inl k_asks)), (k_threads_, .inl (cy 1, 64, .inl k_threads)), (k_seen_, .inl (cy 1, 8, .inl k_seen))]) (r_SN (rm := (Rm 0 0 0 0)) (As := [.int a, .int x_1]) (rest := [.ref k_threads_]) (wc := []) C hS (q_subP hP [] rfl) (hD.sub [] (by decide) rfl) (o_pairPlace l D cy a x_1 _ (by omega) (by omega)) kwS_X10_pairPlace kN_RX8_66 ⟨Nat.le_of_ble_eq_true rfl, Nat.le_of_ble_eq_true rfl⟩ rfl hl.1 rfl (Nat.le_of_ble_eq_true rfl) dX8_hasThread_14 ⟨hroom.1, hroom.2⟩) C.2.2.2.2.2.2.1 hP hD hS [] [0, 1, 2, 3, 4, 5, 6] rfl rfl (by decide) (by decide) (fun r_9 u_8 H locs hw_10 hP hD hS => ?_)
        have hp_10 : 0 ≤ r_9.toInt ∧ r_9.toInt ≤ 63 := hw_10
        refine q_iald (v := k_threads r_9.toNatClampNeg) C hP 5 rfl (o_in (rfl : r_9.toInt = r_9.toInt) (by omega) (by omega)) rfl dX8_hasThread_17 ?_
        refine lv_topi (fun z_12 ez_12 => ?_)
        refine lv_if_le (tgt := 23) hx hb dX8_hasThread_18 (by decide) (fun c_13 => ?_) (fun c_13 => ?_)
        · have hc_13 := o_le (rfl : z_12.toInt = z_12.toInt) (by decide : (0 : Int32).toInt = 0) c_13
          obtain ⟨z_14, hz_14⟩ : ∃ z : Int32, z = x_1 + 1 := ⟨_, rfl⟩
          refine lv_iinc (v := z_14) (lv' := [(2, .int z_14), (0, .ref k), (1, .int a)]) hx hb dX8_hasThread_23 hl (k := 2) rfl hz_14.symm (by decide) rfl (fun ls hl => ?_)
          have hz_14 := o_add hz_14 (rfl : x_1.toInt = x_1.toInt) (by decide : (1 : Int32).toInt = 1) (by omega) (by omega)
          refine lv_goto (tgt := 2) hx hb dX8_hasThread_26 (by decide) ?_
          exact ih_5 z_14 H locs ls (by omega) (by omega) hP hD hS (lv_sub hl [1, 2, 0] rfl)
        · have hc_13 := o_nle (rfl : z_12.toInt = z_12.toInt) (by decide : (0 : Int32).toInt = 0) c_13
          refine lv_iconst (v := 1) hx hb dX8_hasThread_21 (by decide) ?_
          refine o_wq hQ ?_
          exact q_iret (rm := (Rm 1 21 0 0)) C hS () rfl (show 0 ≤ (1 : Int32).toInt ∧ (1 : Int32).toInt ≤ 1 by decide) (q_subP hP [0, 1, 2, 3, 4, 5, 6] rfl) (hD.sub [0, 1, 2, 3, 4, 5, 6] (by decide) rfl) hroom.1 hroom.2 dX8_hasThread_22
  exact lp_2_1 9 (0 : Int32) H locs ls (by have e0 : (0 : Int32).toInt = 0 := (by decide); omega) (by have e0 : (0 : Int32).toInt = 0 := (by decide); omega) hP hD hS (lv_sub hl [1, 2, 0] rfl)
theorem o_hasThread (l : Launch) (D : va_G) (cy : Nat → ClassId) (k : Nat) (a : Int32) (k_x_ : Nat) (k_y_ : Nat) (k_web_ : Nat) (k_asks_ : Nat) (k_threads_ : Nat) (k_today : Int32) (k_day : Int32) (k_seen_ : Nat) (k_x : Nat → Int32) (k_y : Nat → Int32) (k_web : Nat → Int32) (k_asks : Nat → Int32) (k_threads : Nat → Int32) (k_seen : Nat → Int32) (sz : Nat) (hb0 : 0 ≤ a.toInt ∧ a.toInt ≤ 7) (hR0 : Rg k_x 0 8 0 5) (hR1 : Rg k_y 0 8 0 5) : MI l yX8_hasThread cX8_hasThread 3 (some .boolean) (Rm 1 21 0 0) D cy [.ref k, .int a] sz [(k, .inr (8, [.ref k_x_, .ref k_y_, .ref k_web_, .ref k_asks_, .ref k_threads_, .int k_today, .int k_day, .ref k_seen_])), (k_x_, .inl (cy 1, 8, .inl k_x)), (k_y_, .inl (cy 1, 8, .inl k_y)), (k_web_, .inl (cy 1, 8, .inl k_web)), (k_asks_, .inl (cy 1, 8, .inl k_asks)), (k_threads_, .inl (cy 1, 64, .inl k_threads)), (k_seen_, .inl (cy 1, 8, .inl k_seen))] (fun (r : Int32) (u : Unit) => (0 ≤ r.toInt ∧ r.toInt ≤ 1)) (fun u : Unit => [(k, .inr (8, [.ref k_x_, .ref k_y_, .ref k_web_, .ref k_asks_, .ref k_threads_, .int k_today, .int k_day, .ref k_seen_])), (k_x_, .inl (cy 1, 8, .inl k_x)), (k_y_, .inl (cy 1, 8, .inl k_y)), (k_web_, .inl (cy 1, 8, .inl k_web)), (k_asks_, .inl (cy 1, 8, .inl k_asks)), (k_threads_, .inl (cy 1, 64, .inl k_threads)), (k_seen_, .inl (cy 1, 8, .inl k_seen))]) := by
  refine MI.enter (by decide) (Nat.le_of_ble_eq_true rfl) ?_
  intro p e s m below meth c ls A hsz hAe C hP hD hS hl
  exact b_o_hasThread l D cy k a k_x_ k_y_ k_web_ k_asks_ k_threads_ k_today k_day k_seen_ k_x k_y k_web k_asks k_threads k_seen hb0 hR0 hR1 ⟨Nat.le_of_ble_eq_true rfl, Nat.le_of_ble_eq_true rfl⟩ C rfl _ _ ls hP hD hS hl
set_option maxHeartbeats 4000000 in
set_option maxRecDepth 100000 in
theorem b_o_cutThreads (l : Launch) (D : va_G) (cy : Nat → ClassId) (k : Nat) (a : Int32) (k_x_ : Nat) (k_y_ : Nat) (k_web_ : Nat) (k_asks_ : Nat) (k_threads_ : Nat) (k_today : Int32) (k_day : Int32) (k_seen_ : Nat) (k_x : Nat → Int32) (k_y : Nat → Int32) (k_web : Nat → Int32) (k_asks : Nat → Int32) (k_threads : Nat → Int32) (k_seen : Nat → Int32) (hb0 : 0 ≤ a.toInt ∧ a.toInt ≤ 7) (hR0 : Rg k_x 0 8 0 5) (hR1 : Rg k_y 0 8 0 5) {p : Program} {e : Env} {s : State} {m : MethodId} {args : Array Value} {below : List Frame} {meth : Method} {c : Code} {A : Nat → Prop} {Q : State → Prop} {cells slots : Nat} (hroom : cells ≤ ((Rm 1 21 0 0)).cells ∧ slots ≤ ((Rm 1 21 0 0)).slots) (C : Cx p s m args meth c cX8_cutThreads 3 none RX8 "cutThreads" D cy A) (hQ : Q = MQ below (va_Qv (fun u : (Nat → Int32) => True) (Bx D A (fun u : (Nat → Int32) => [(k, .inr (8, [.ref k_x_, .ref k_y_, .ref k_web_, .ref k_asks_, .ref k_threads_, .int k_today, .int k_day, .ref k_seen_])), (k_x_, .inl (cy 1, 8, .inl k_x)), (k_y_, .inl (cy 1, 8, .inl k_y)), (k_web_, .inl (cy 1, 8, .inl k_web)), (k_asks_, .inl (cy 1, 8, .inl k_asks)), (k_threads_, .inl (cy 1, 64, .inl u)), (k_seen_, .inl (cy 1, 8, .inl k_seen))])) A) args s ((Rm 1 21 0 0)).cells ((Rm 1 21 0 0)).slots A) (H : Heap) (locs : List Loc) (ls : Array Slot) (hP : va_P D vwCl [(k, .inr (8, [.ref k_x_, .ref k_y_, .ref k_web_, .ref k_asks_, .ref k_threads_, .int k_today, .int k_day, .ref k_seen_])), (k_x_, .inl (cy 1, 8, .inl k_x)), (k_y_, .inl (cy 1, 8, .inl k_y)), (k_web_, .inl (cy 1, 8, .inl k_web)), (k_asks_, .inl (cy 1, 8, .inl k_asks)), (k_threads_, .inl (cy 1, 64, .inl k_threads)), (k_seen_, .inl (cy 1, 8, .inl k_seen))] H) (hD : va_D A [(k, .inr (8, [.ref k_x_, .ref k_y_, .ref k_web_, .ref k_asks_, .ref k_threads_, .int k_today, .int k_day, .ref k_seen_])), (k_x_, .inl (cy 1, 8, .inl k_x)), (k_y_, .inl (cy 1, 8, .inl k_y)), (k_web_, .inl (cy 1, 8, .inl k_web)), (k_asks_, .inl (cy 1, 8, .inl k_asks)), (k_threads_, .inl (cy 1, 64, .inl k_threads)), (k_seen_, .inl (cy 1, 8, .inl k_seen))]) (hS : va_S A s.heap H locs) (hl : lv_has ls 3 [(0, .ref k), (1, .int a)]) : W p l e (Rm 1 21 0 0) s m args below meth c H locs cells slots Q (F0 m 0 ls []) := by
  have hx := C.1
  have hb := C.2.1
  refine lv_iconst (v := 0) hx hb dX8_cutThreads_0 (by decide) ?_
  refine lv_istore_n (lv' := [(2, .int 0), (0, .ref k), (1, .int a)]) hx hb dX8_cutThreads_1 rfl hl (by decide) rfl (fun ls hl => ?_)
  have lp_2_2 : ∀ (n_3 : Nat) (x_1 : Int32) (g_2 : Nat → Int32) (H : Heap) (locs : List Loc) (ls : Array Slot), (-1) * x_1.toInt + 8 < (n_3 : Int) → (0 ≤ x_1.toInt ∧ x_1.toInt ≤ 8) → va_P D vwCl [(k, .inr (8, [.ref k_x_, .ref k_y_, .ref k_web_, .ref k_asks_, .ref k_threads_, .int k_today, .int k_day, .ref k_seen_])), (k_x_, .inl (cy 1, 8, .inl k_x)), (k_y_, .inl (cy 1, 8, .inl k_y)), (k_web_, .inl (cy 1, 8, .inl k_web)), (k_asks_, .inl (cy 1, 8, .inl k_asks)), (k_threads_, .inl (cy 1, 64, .inl g_2)), (k_seen_, .inl (cy 1, 8, .inl k_seen))] H → va_D A [(k, .inr (8, [.ref k_x_, .ref k_y_, .ref k_web_, .ref k_asks_, .ref k_threads_, .int k_today, .int k_day, .ref k_seen_])), (k_x_, .inl (cy 1, 8, .inl k_x)), (k_y_, .inl (cy 1, 8, .inl k_y)), (k_web_, .inl (cy 1, 8, .inl k_web)), (k_asks_, .inl (cy 1, 8, .inl k_asks)), (k_threads_, .inl (cy 1, 64, .inl g_2)), (k_seen_, .inl (cy 1, 8, .inl k_seen))] → va_S A s.heap H locs → lv_has ls 3 [(0, .ref k), (1, .int a), (2, .int x_1)] → W p l e (Rm 1 21 0 0) s m args below meth c H locs cells slots Q (F0 m 2 ls []) := by
    intro n_3
    induction n_3 with
    | zero =>
      intro x_1 g_2 H locs ls hm_5 hf_4 hP hD hS hl
      exact absurd hm_5 (by omega)
    | succ n_3 ih_6 =>
      intro x_1 g_2 H locs ls hm_5 hf_4 hP hD hS hl
      refine lv_iload_n hx hb dX8_cutThreads_2 rfl (lv_at hl 2 rfl) ?_
      refine lv_bipush (v := 8) hx hb dX8_cutThreads_3 (by decide) ?_
      refine lv_icmp_ge (tgt := 36) hx hb dX8_cutThreads_5 (by decide) (fun c_8 => ?_) (fun c_8 => ?_)
      · have hc_8 := o_le (by decide : (8 : Int32).toInt = 8) (rfl : x_1.toInt = x_1.toInt) c_8
        refine o_wq hQ ?_
        exact q_vret (rm := (Rm 1 21 0 0)) C hS g_2 trivial (q_subP hP [0, 1, 2, 3, 4, 5, 6] rfl) (hD.sub [0, 1, 2, 3, 4, 5, 6] (by decide) rfl) hroom.1 hroom.2 dX8_cutThreads_36
      · have hc_8 := o_nle (by decide : (8 : Int32).toInt = 8) (rfl : x_1.toInt = x_1.toInt) c_8
        refine lv_aload_n hx hb dX8_cutThreads_8 rfl (lv_at hl 0 rfl) ?_
        refine q_get (v := .ref k_threads_) C hP 0 4 rfl rfl inX8 (by decide) kF_RX8_24 rfl rfl dX8_cutThreads_9 ?_
        refine lv_iload_n hx hb dX8_cutThreads_12 rfl (lv_at hl 1 rfl) ?_
        refine lv_iload_n hx hb dX8_cutThreads_13 rfl (lv_at hl 2 rfl) ?_
        refine q_ai (wr := [(k, .inr (8, [.ref k_x_, .ref k_y_, .ref k_web_, .ref k_asks_, .ref k_threads_, .int k_today, .int k_day, .ref k_seen_])), (k_x_, .inl (cy 1, 8, .inl k_x)), (k_y_, .inl (cy 1, 8, .inl k_y)), (k_web_, .inl (cy 1, 8, .inl k_web)), (k_asks_, .inl (cy 1, 8, .inl k_asks)), (k_threads_, .inl (cy 1, 64, .inl g_2)), (k_seen_, .inl (cy 1, 8, .inl k_seen))]) (r_SN (rm := (Rm 0 0 0 0)) (As := [.int a, .int x_1]) (rest := [.ref k_threads_]) (wc := []) C hS (q_subP hP [] rfl) (hD.sub [] (by decide) rfl) (o_pairPlace l D cy a x_1 _ (by omega) (by omega)) kwS_X10_pairPlace kN_RX8_66 ⟨Nat.le_of_ble_eq_true rfl, Nat.le_of_ble_eq_true rfl⟩ rfl hl.1 rfl (Nat.le_of_ble_eq_true rfl) dX8_cutThreads_14 ⟨hroom.1, hroom.2⟩) C.2.2.2.2.2.2.1 hP hD hS [] [0, 1, 2, 3, 4, 5, 6] rfl rfl (by decide) (by decide) (fun r_10 u_9 H locs hw_11 hP hD hS => ?_)
        have hp_11 : 0 ≤ r_10.toInt ∧ r_10.toInt ≤ 63 := hw_11
        refine lv_iconst (v := 0) hx hb dX8_cutThreads_17 (by decide) ?_
        refine q_iast (g := upd g_2 r_10.toNatClampNeg 0) (w' := [(k, .inr (8, [.ref k_x_, .ref k_y_, .ref k_web_, .ref k_asks_, .ref k_threads_, .int k_today, .int k_day, .ref k_seen_])), (k_x_, .inl (cy 1, 8, .inl k_x)), (k_y_, .inl (cy 1, 8, .inl k_y)), (k_web_, .inl (cy 1, 8, .inl k_web)), (k_asks_, .inl (cy 1, 8, .inl k_asks)), (k_threads_, .inl (cy 1, 64, .inl (upd g_2 r_10.toNatClampNeg 0))), (k_seen_, .inl (cy 1, 8, .inl k_seen))]) C hP hD hS 5 rfl (o_in (rfl : r_10.toInt = r_10.toInt) (by omega) (by omega)) rfl rfl dX8_cutThreads_18 (fun H locs hP hD hS => ?_)
        generalize upd g_2 r_10.toNatClampNeg 0 = g_13 at hP hD 
        have hP : va_P D vwCl [(k, .inr (8, [.ref k_x_, .ref k_y_, .ref k_web_, .ref k_asks_, .ref k_threads_, .int k_today, .int k_day, .ref k_seen_])), (k_x_, .inl (cy 1, 8, .inl k_x)), (k_y_, .inl (cy 1, 8, .inl k_y)), (k_web_, .inl (cy 1, 8, .inl k_web)), (k_asks_, .inl (cy 1, 8, .inl k_asks)), (k_threads_, .inl (cy 1, 64, .inl g_13)), (k_seen_, .inl (cy 1, 8, .inl k_seen))] H := hP
        have hD : va_D A [(k, .inr (8, [.ref k_x_, .ref k_y_, .ref k_web_, .ref k_asks_, .ref k_threads_, .int k_today, .int k_day, .ref k_seen_])), (k_x_, .inl (cy 1, 8, .inl k_x)), (k_y_, .inl (cy 1, 8, .inl k_y)), (k_web_, .inl (cy 1, 8, .inl k_web)), (k_asks_, .inl (cy 1, 8, .inl k_asks)), (k_threads_, .inl (cy 1, 64, .inl g_13)), (k_seen_, .inl (cy 1, 8, .inl k_seen))] := hD
        refine lv_aload_n hx hb dX8_cutThreads_19 rfl (lv_at hl 0 rfl) ?_
        refine q_get (v := .ref k_threads_) C hP 0 4 rfl rfl inX8 (by decide) kF_RX8_24 rfl rfl dX8_cutThreads_20 ?_
        refine lv_iload_n hx hb dX8_cutThreads_23 rfl (lv_at hl 2 rfl) ?_
        refine lv_iload_n hx hb dX8_cutThreads_24 rfl (lv_at hl 1 rfl) ?_
        refine q_ai (wr := [(k, .inr (8, [.ref k_x_, .ref k_y_, .ref k_web_, .ref k_asks_, .ref k_threads_, .int k_today, .int k_day, .ref k_seen_])), (k_x_, .inl (cy 1, 8, .inl k_x)), (k_y_, .inl (cy 1, 8, .inl k_y)), (k_web_, .inl (cy 1, 8, .inl k_web)), (k_asks_, .inl (cy 1, 8, .inl k_asks)), (k_threads_, .inl (cy 1, 64, .inl g_13)), (k_seen_, .inl (cy 1, 8, .inl k_seen))]) (r_SN (rm := (Rm 0 0 0 0)) (As := [.int x_1, .int a]) (rest := [.ref k_threads_]) (wc := []) C hS (q_subP hP [] rfl) (hD.sub [] (by decide) rfl) (o_pairPlace l D cy x_1 a _ (by omega) (by omega)) kwS_X10_pairPlace kN_RX8_66 ⟨Nat.le_of_ble_eq_true rfl, Nat.le_of_ble_eq_true rfl⟩ rfl hl.1 rfl (Nat.le_of_ble_eq_true rfl) dX8_cutThreads_25 ⟨hroom.1, hroom.2⟩) C.2.2.2.2.2.2.1 hP hD hS [] [0, 1, 2, 3, 4, 5, 6] rfl rfl (by decide) (by decide) (fun r_15 u_14 H locs hw_16 hP hD hS => ?_)
        have hp_16 : 0 ≤ r_15.toInt ∧ r_15.toInt ≤ 63 := hw_16
        refine lv_iconst (v := 0) hx hb dX8_cutThreads_28 (by decide) ?_
        refine q_iast (g := upd g_13 r_15.toNatClampNeg 0) (w' := [(k, .inr (8, [.ref k_x_, .ref k_y_, .ref k_web_, .ref k_asks_, .ref k_threads_, .int k_today, .int k_day, .ref k_seen_])), (k_x_, .inl (cy 1, 8, .inl k_x)), (k_y_, .inl (cy 1, 8, .inl k_y)), (k_web_, .inl (cy 1, 8, .inl k_web)), (k_asks_, .inl (cy 1, 8, .inl k_asks)), (k_threads_, .inl (cy 1, 64, .inl (upd g_13 r_15.toNatClampNeg 0))), (k_seen_, .inl (cy 1, 8, .inl k_seen))]) C hP hD hS 5 rfl (o_in (rfl : r_15.toInt = r_15.toInt) (by omega) (by omega)) rfl rfl dX8_cutThreads_29 (fun H locs hP hD hS => ?_)
        generalize upd g_13 r_15.toNatClampNeg 0 = g_18 at hP hD 
        have hP : va_P D vwCl [(k, .inr (8, [.ref k_x_, .ref k_y_, .ref k_web_, .ref k_asks_, .ref k_threads_, .int k_today, .int k_day, .ref k_seen_])), (k_x_, .inl (cy 1, 8, .inl k_x)), (k_y_, .inl (cy 1, 8, .inl k_y)), (k_web_, .inl (cy 1, 8, .inl k_web)), (k_asks_, .inl (cy 1, 8, .inl k_asks)), (k_threads_, .inl (cy 1, 64, .inl g_18)), (k_seen_, .inl (cy 1, 8, .inl k_seen))] H := hP
        have hD : va_D A [(k, .inr (8, [.ref k_x_, .ref k_y_, .ref k_web_, .ref k_asks_, .ref k_threads_, .int k_today, .int k_day, .ref k_seen_])), (k_x_, .inl (cy 1, 8, .inl k_x)), (k_y_, .inl (cy 1, 8, .inl k_y)), (k_web_, .inl (cy 1, 8, .inl k_web)), (k_asks_, .inl (cy 1, 8, .inl k_asks)), (k_threads_, .inl (cy 1, 64, .inl g_18)), (k_seen_, .inl (cy 1, 8, .inl k_seen))] := hD
        obtain ⟨z_19, hz_19⟩ : ∃ z : Int32, z = x_1 + 1 := ⟨_, rfl⟩
        refine lv_iinc (v := z_19) (lv' := [(2, .int z_19), (0, .ref k), (1, .int a)]) hx hb dX8_cutThreads_30 hl (k := 2) rfl hz_19.symm (by decide) rfl (fun ls hl => ?_)
        have hz_19 := o_add hz_19 (rfl : x_1.toInt = x_1.toInt) (by decide : (1 : Int32).toInt = 1) (by omega) (by omega)
        refine lv_goto (tgt := 2) hx hb dX8_cutThreads_33 (by decide) ?_
        exact ih_6 z_19 g_18 H locs ls (by omega) (by omega) hP hD hS (lv_sub hl [1, 2, 0] rfl)
  exact lp_2_2 9 (0 : Int32) k_threads H locs ls (by have e0 : (0 : Int32).toInt = 0 := (by decide); omega) (by have e0 : (0 : Int32).toInt = 0 := (by decide); omega) hP hD hS (lv_sub hl [1, 2, 0] rfl)
theorem o_cutThreads (l : Launch) (D : va_G) (cy : Nat → ClassId) (k : Nat) (a : Int32) (k_x_ : Nat) (k_y_ : Nat) (k_web_ : Nat) (k_asks_ : Nat) (k_threads_ : Nat) (k_today : Int32) (k_day : Int32) (k_seen_ : Nat) (k_x : Nat → Int32) (k_y : Nat → Int32) (k_web : Nat → Int32) (k_asks : Nat → Int32) (k_threads : Nat → Int32) (k_seen : Nat → Int32) (sz : Nat) (hb0 : 0 ≤ a.toInt ∧ a.toInt ≤ 7) (hR0 : Rg k_x 0 8 0 5) (hR1 : Rg k_y 0 8 0 5) : MV l yX8_cutThreads cX8_cutThreads 3 (Rm 1 21 0 0) D cy [.ref k, .int a] sz [(k, .inr (8, [.ref k_x_, .ref k_y_, .ref k_web_, .ref k_asks_, .ref k_threads_, .int k_today, .int k_day, .ref k_seen_])), (k_x_, .inl (cy 1, 8, .inl k_x)), (k_y_, .inl (cy 1, 8, .inl k_y)), (k_web_, .inl (cy 1, 8, .inl k_web)), (k_asks_, .inl (cy 1, 8, .inl k_asks)), (k_threads_, .inl (cy 1, 64, .inl k_threads)), (k_seen_, .inl (cy 1, 8, .inl k_seen))] (fun u : (Nat → Int32) => True) (fun u : (Nat → Int32) => [(k, .inr (8, [.ref k_x_, .ref k_y_, .ref k_web_, .ref k_asks_, .ref k_threads_, .int k_today, .int k_day, .ref k_seen_])), (k_x_, .inl (cy 1, 8, .inl k_x)), (k_y_, .inl (cy 1, 8, .inl k_y)), (k_web_, .inl (cy 1, 8, .inl k_web)), (k_asks_, .inl (cy 1, 8, .inl k_asks)), (k_threads_, .inl (cy 1, 64, .inl u)), (k_seen_, .inl (cy 1, 8, .inl k_seen))]) := by
  refine MV.enter (by decide) (Nat.le_of_ble_eq_true rfl) ?_
  intro p e s m below meth c ls A hsz hAe C hP hD hS hl
  exact b_o_cutThreads l D cy k a k_x_ k_y_ k_web_ k_asks_ k_threads_ k_today k_day k_seen_ k_x k_y k_web k_asks k_threads k_seen hb0 hR0 hR1 ⟨Nat.le_of_ble_eq_true rfl, Nat.le_of_ble_eq_true rfl⟩ C rfl _ _ ls hP hD hS hl
set_option maxHeartbeats 4000000 in
set_option maxRecDepth 100000 in
theorem b_o_askFor (l : Launch) (D : va_G) (cy : Nat → ClassId) (k : Nat) (a : Int32) (k_x_ : Nat) (k_y_ : Nat) (k_web_ : Nat) (k_asks_ : Nat) (k_threads_ : Nat) (k_today : Int32) (k_day : Int32) (k_seen_ : Nat) (k_x : Nat → Int32) (k_y : Nat → Int32) (k_web : Nat → Int32) (k_asks : Nat → Int32) (k_threads : Nat → Int32) (k_seen : Nat → Int32) (hb0 : 0 ≤ a.toInt ∧ a.toInt ≤ 7) (hR0 : Rg k_x 0 8 0 5) (hR1 : Rg k_y 0 8 0 5) {p : Program} {e : Env} {s : State} {m : MethodId} {args : Array Value} {below : List Frame} {meth : Method} {c : Code} {A : Nat → Prop} {Q : State → Prop} {cells slots : Nat} (hroom : cells ≤ ((Rm 2 43 0 0)).cells ∧ slots ≤ ((Rm 2 43 0 0)).slots) (C : Cx p s m args meth c cX8_askFor 2 (some .int) RX8 "askFor" D cy A) (hQ : Q = MQ below (va_Qi (fun (r : Int32) (u : Int32 × (Nat → Int32) × (Nat → Int32) × (Nat → Int32)) => (0 ≤ r.toInt ∧ r.toInt ≤ 1)) (Bx D A (fun u : Int32 × (Nat → Int32) × (Nat → Int32) × (Nat → Int32) => [(k, .inr (8, [.ref k_x_, .ref k_y_, .ref k_web_, .ref k_asks_, .ref k_threads_, .int u.1, .int k_day, .ref k_seen_])), (k_x_, .inl (cy 1, 8, .inl k_x)), (k_y_, .inl (cy 1, 8, .inl k_y)), (k_web_, .inl (cy 1, 8, .inl u.2.1)), (k_asks_, .inl (cy 1, 8, .inl u.2.2.1)), (k_threads_, .inl (cy 1, 64, .inl u.2.2.2)), (k_seen_, .inl (cy 1, 8, .inl k_seen))])) A) args s ((Rm 2 43 0 0)).cells ((Rm 2 43 0 0)).slots A) (H : Heap) (locs : List Loc) (ls : Array Slot) (hP : va_P D vwCl [(k, .inr (8, [.ref k_x_, .ref k_y_, .ref k_web_, .ref k_asks_, .ref k_threads_, .int k_today, .int k_day, .ref k_seen_])), (k_x_, .inl (cy 1, 8, .inl k_x)), (k_y_, .inl (cy 1, 8, .inl k_y)), (k_web_, .inl (cy 1, 8, .inl k_web)), (k_asks_, .inl (cy 1, 8, .inl k_asks)), (k_threads_, .inl (cy 1, 64, .inl k_threads)), (k_seen_, .inl (cy 1, 8, .inl k_seen))] H) (hD : va_D A [(k, .inr (8, [.ref k_x_, .ref k_y_, .ref k_web_, .ref k_asks_, .ref k_threads_, .int k_today, .int k_day, .ref k_seen_])), (k_x_, .inl (cy 1, 8, .inl k_x)), (k_y_, .inl (cy 1, 8, .inl k_y)), (k_web_, .inl (cy 1, 8, .inl k_web)), (k_asks_, .inl (cy 1, 8, .inl k_asks)), (k_threads_, .inl (cy 1, 64, .inl k_threads)), (k_seen_, .inl (cy 1, 8, .inl k_seen))]) (hS : va_S A s.heap H locs) (hl : lv_has ls 2 [(0, .ref k), (1, .int a)]) : W p l e (Rm 2 43 0 0) s m args below meth c H locs cells slots Q (F0 m 0 ls []) := by
  have hx := C.1
  have hb := C.2.1
  refine lv_aload_n hx hb dX8_askFor_0 rfl (lv_at hl 0 rfl) ?_
  refine q_get (v := .int k_today) C hP 0 5 rfl rfl inX8 (by decide) kF_RX8_27 rfl rfl dX8_askFor_1 ?_
  refine lv_iload_n hx hb dX8_askFor_4 rfl (lv_at hl 1 rfl) ?_
  refine q_ai (wr := [(k, .inr (8, [.ref k_x_, .ref k_y_, .ref k_web_, .ref k_asks_, .ref k_threads_, .int k_today, .int k_day, .ref k_seen_])), (k_x_, .inl (cy 1, 8, .inl k_x)), (k_y_, .inl (cy 1, 8, .inl k_y)), (k_web_, .inl (cy 1, 8, .inl k_web)), (k_asks_, .inl (cy 1, 8, .inl k_asks)), (k_threads_, .inl (cy 1, 64, .inl k_threads)), (k_seen_, .inl (cy 1, 8, .inl k_seen))]) (r_SN (rm := (Rm 0 0 0 0)) (As := [.int k_today, .int a]) (rest := []) (wc := []) C hS (q_subP hP [] rfl) (hD.sub [] (by decide) rfl) (o_bitOf l D cy k_today a _ ) kwS_X10_bitOf kN_RX8_73 ⟨Nat.le_of_ble_eq_true rfl, Nat.le_of_ble_eq_true rfl⟩ rfl hl.1 rfl (Nat.le_of_ble_eq_true rfl) dX8_askFor_5 ⟨hroom.1, hroom.2⟩) C.2.2.2.2.2.2.1 hP hD hS [] [0, 1, 2, 3, 4, 5, 6] rfl rfl (by decide) (by decide) (fun r_2 u_1 H locs hw_3 hP hD hS => ?_)
  have hp_3 : 0 ≤ r_2.toInt ∧ r_2.toInt ≤ 1 := hw_3.1
  have hp_4 : Hd ((r_2.toInt = 1 ∧ bt k_today a = 1) ∨ (r_2.toInt = 0 ∧ bt k_today a ≠ 1)) := hw_3.2
  refine lv_iconst (v := 1) hx hb dX8_askFor_8 (by decide) ?_
  refine lv_icmp_ne (tgt := 14) hx hb dX8_askFor_9 (by decide) (fun c_6 => ?_) (fun c_6 => ?_)
  · have hc_6 := o_ne (rfl : r_2.toInt = r_2.toInt) (by decide : (1 : Int32).toInt = 1) c_6
    have hnc_6 : 0 ≤ (-1) * r_2.toInt := by rcases Int.lt_or_gt_of_ne hc_6 with h9 | h9 <;> omega
    have hd_6 : Hd (r_2.toInt = 0 ∧ bt k_today a ≠ 1) := (Hd.un hp_4).resolve_left (fun z9 => by omega)
    have hd_6_0 : r_2.toInt = 0 := (Hd.un hd_6).1
    refine lv_aload_n hx hb dX8_askFor_14 rfl (lv_at hl 0 rfl) ?_
    refine q_get (v := .ref k_web_) C hP 0 2 rfl rfl inX8 (by decide) kF_RX8_18 rfl rfl dX8_askFor_15 ?_
    refine lv_iload_n hx hb dX8_askFor_18 rfl (lv_at hl 1 rfl) ?_
    refine lv_iconst (v := 0) hx hb dX8_askFor_19 (by decide) ?_
    refine q_iast (g := upd k_web a.toNatClampNeg 0) (w' := [(k, .inr (8, [.ref k_x_, .ref k_y_, .ref k_web_, .ref k_asks_, .ref k_threads_, .int k_today, .int k_day, .ref k_seen_])), (k_x_, .inl (cy 1, 8, .inl k_x)), (k_y_, .inl (cy 1, 8, .inl k_y)), (k_web_, .inl (cy 1, 8, .inl (upd k_web a.toNatClampNeg 0))), (k_asks_, .inl (cy 1, 8, .inl k_asks)), (k_threads_, .inl (cy 1, 64, .inl k_threads)), (k_seen_, .inl (cy 1, 8, .inl k_seen))]) C hP hD hS 3 rfl (o_in (rfl : a.toInt = a.toInt) (by omega) (by omega)) rfl rfl dX8_askFor_20 (fun H locs hP hD hS => ?_)
    generalize upd k_web a.toNatClampNeg 0 = g_8 at hP hD 
    have hP : va_P D vwCl [(k, .inr (8, [.ref k_x_, .ref k_y_, .ref k_web_, .ref k_asks_, .ref k_threads_, .int k_today, .int k_day, .ref k_seen_])), (k_x_, .inl (cy 1, 8, .inl k_x)), (k_y_, .inl (cy 1, 8, .inl k_y)), (k_web_, .inl (cy 1, 8, .inl g_8)), (k_asks_, .inl (cy 1, 8, .inl k_asks)), (k_threads_, .inl (cy 1, 64, .inl k_threads)), (k_seen_, .inl (cy 1, 8, .inl k_seen))] H := hP
    have hD : va_D A [(k, .inr (8, [.ref k_x_, .ref k_y_, .ref k_web_, .ref k_asks_, .ref k_threads_, .int k_today, .int k_day, .ref k_seen_])), (k_x_, .inl (cy 1, 8, .inl k_x)), (k_y_, .inl (cy 1, 8, .inl k_y)), (k_web_, .inl (cy 1, 8, .inl g_8)), (k_asks_, .inl (cy 1, 8, .inl k_asks)), (k_threads_, .inl (cy 1, 64, .inl k_threads)), (k_seen_, .inl (cy 1, 8, .inl k_seen))] := hD
    refine lv_aload_n hx hb dX8_askFor_21 rfl (lv_at hl 0 rfl) ?_
    refine lv_iload_n hx hb dX8_askFor_22 rfl (lv_at hl 1 rfl) ?_
    refine q_av (wr := []) (r_V (rm := (Rm 1 21 0 0)) (q0 := 0) (As := [.int a]) (rest := []) (wc := [(k, .inr (8, [.ref k_x_, .ref k_y_, .ref k_web_, .ref k_asks_, .ref k_threads_, .int k_today, .int k_day, .ref k_seen_])), (k_x_, .inl (cy 1, 8, .inl k_x)), (k_y_, .inl (cy 1, 8, .inl k_y)), (k_web_, .inl (cy 1, 8, .inl g_8)), (k_asks_, .inl (cy 1, 8, .inl k_asks)), (k_threads_, .inl (cy 1, 64, .inl k_threads)), (k_seen_, .inl (cy 1, 8, .inl k_seen))]) C hS (q_subP hP [0, 1, 2, 3, 4, 5, 6] rfl) (hD.sub [0, 1, 2, 3, 4, 5, 6] (by decide) rfl) (o_cutThreads l D cy k a k_x_ k_y_ k_web_ k_asks_ k_threads_ k_today k_day k_seen_ k_x k_y g_8 k_asks k_threads k_seen _ (by omega) hR0 hR1) kwV_X8_cutThreads kM_RX8_79 rfl rfl ⟨Nat.le_of_ble_eq_true rfl, Nat.le_of_ble_eq_true rfl⟩ rfl hl.1 rfl (Nat.le_of_ble_eq_true rfl) dX8_askFor_23 ⟨hroom.1, hroom.2⟩) C.2.2.2.2.2.2.1 hP hD hS [0, 1, 2, 3, 4, 5, 6] [] rfl rfl (by decide) (by decide) (fun u_9 H locs hw_11 hP hD hS => ?_)
    obtain ⟨g_12, rfl⟩ : ∃ z, z = u_9 := ⟨_, rfl⟩
    have hP : va_P D vwCl [(k, .inr (8, [.ref k_x_, .ref k_y_, .ref k_web_, .ref k_asks_, .ref k_threads_, .int k_today, .int k_day, .ref k_seen_])), (k_x_, .inl (cy 1, 8, .inl k_x)), (k_y_, .inl (cy 1, 8, .inl k_y)), (k_web_, .inl (cy 1, 8, .inl g_8)), (k_asks_, .inl (cy 1, 8, .inl k_asks)), (k_threads_, .inl (cy 1, 64, .inl g_12)), (k_seen_, .inl (cy 1, 8, .inl k_seen))] H := hP
    have hD : va_D A [(k, .inr (8, [.ref k_x_, .ref k_y_, .ref k_web_, .ref k_asks_, .ref k_threads_, .int k_today, .int k_day, .ref k_seen_])), (k_x_, .inl (cy 1, 8, .inl k_x)), (k_y_, .inl (cy 1, 8, .inl k_y)), (k_web_, .inl (cy 1, 8, .inl g_8)), (k_asks_, .inl (cy 1, 8, .inl k_asks)), (k_threads_, .inl (cy 1, 64, .inl g_12)), (k_seen_, .inl (cy 1, 8, .inl k_seen))] := hD
    refine lv_aload_n hx hb dX8_askFor_26 rfl (lv_at hl 0 rfl) ?_
    refine lv_dup hx hb dX8_askFor_27 rfl ?_
    refine q_get (v := .int k_today) C hP 0 5 rfl rfl inX8 (by decide) kF_RX8_27 rfl rfl dX8_askFor_28 ?_
    refine lv_iconst (v := 1) hx hb dX8_askFor_31 (by decide) ?_
    refine lv_iload_n hx hb dX8_askFor_32 rfl (lv_at hl 1 rfl) ?_
    refine lv_ishl hx hb dX8_askFor_33 ?_
    refine lv_topi (fun z_13 hz_13 => ?_)
    clear hz_13
    refine lv_ior hx hb dX8_askFor_34 ?_
    refine lv_topi (fun z_14 hz_14 => ?_)
    clear hz_14
    refine q_put (v := .int z_14) (w' := [(k, .inr (8, [.ref k_x_, .ref k_y_, .ref k_web_, .ref k_asks_, .ref k_threads_, .int z_14, .int k_day, .ref k_seen_])), (k_x_, .inl (cy 1, 8, .inl k_x)), (k_y_, .inl (cy 1, 8, .inl k_y)), (k_web_, .inl (cy 1, 8, .inl g_8)), (k_asks_, .inl (cy 1, 8, .inl k_asks)), (k_threads_, .inl (cy 1, 64, .inl g_12)), (k_seen_, .inl (cy 1, 8, .inl k_seen))]) (ty := .int) C hP hD hS 0 5 rfl rfl inX8 tyX8 tyX8_ok nmX8 (by decide) kF_RX8_27 rfl rfl rfl rfl rfl (Nat.le_of_ble_eq_true rfl) rfl dX8_askFor_35 (fun H locs hP hD hS => ?_)
    refine lv_aload_n hx hb dX8_askFor_38 rfl (lv_at hl 0 rfl) ?_
    refine q_get (v := .ref k_asks_) C hP 0 3 rfl rfl inX8 (by decide) kF_RX8_21 rfl rfl dX8_askFor_39 ?_
    refine lv_iload_n hx hb dX8_askFor_42 rfl (lv_at hl 1 rfl) ?_
    refine lv_dup2_11 hx hb dX8_askFor_43 rfl rfl ?_
    refine q_iald (v := k_asks a.toNatClampNeg) C hP 4 rfl (o_in (rfl : a.toInt = a.toInt) (by omega) (by omega)) rfl dX8_askFor_44 ?_
    refine lv_topi (fun z_15 ez_15 => ?_)
    refine lv_iconst (v := 1) hx hb dX8_askFor_45 (by decide) ?_
    refine lv_iadd hx hb dX8_askFor_46 ?_
    refine lv_topi (fun z_16 hz_16 => ?_)
    clear hz_16
    refine q_iast (g := upd k_asks a.toNatClampNeg z_16) (w' := [(k, .inr (8, [.ref k_x_, .ref k_y_, .ref k_web_, .ref k_asks_, .ref k_threads_, .int z_14, .int k_day, .ref k_seen_])), (k_x_, .inl (cy 1, 8, .inl k_x)), (k_y_, .inl (cy 1, 8, .inl k_y)), (k_web_, .inl (cy 1, 8, .inl g_8)), (k_asks_, .inl (cy 1, 8, .inl (upd k_asks a.toNatClampNeg z_16))), (k_threads_, .inl (cy 1, 64, .inl g_12)), (k_seen_, .inl (cy 1, 8, .inl k_seen))]) C hP hD hS 4 rfl (o_in (rfl : a.toInt = a.toInt) (by omega) (by omega)) rfl rfl dX8_askFor_47 (fun H locs hP hD hS => ?_)
    generalize upd k_asks a.toNatClampNeg z_16 = g_17 at hP hD 
    have hP : va_P D vwCl [(k, .inr (8, [.ref k_x_, .ref k_y_, .ref k_web_, .ref k_asks_, .ref k_threads_, .int z_14, .int k_day, .ref k_seen_])), (k_x_, .inl (cy 1, 8, .inl k_x)), (k_y_, .inl (cy 1, 8, .inl k_y)), (k_web_, .inl (cy 1, 8, .inl g_8)), (k_asks_, .inl (cy 1, 8, .inl g_17)), (k_threads_, .inl (cy 1, 64, .inl g_12)), (k_seen_, .inl (cy 1, 8, .inl k_seen))] H := hP
    have hD : va_D A [(k, .inr (8, [.ref k_x_, .ref k_y_, .ref k_web_, .ref k_asks_, .ref k_threads_, .int z_14, .int k_day, .ref k_seen_])), (k_x_, .inl (cy 1, 8, .inl k_x)), (k_y_, .inl (cy 1, 8, .inl k_y)), (k_web_, .inl (cy 1, 8, .inl g_8)), (k_asks_, .inl (cy 1, 8, .inl g_17)), (k_threads_, .inl (cy 1, 64, .inl g_12)), (k_seen_, .inl (cy 1, 8, .inl k_seen))] := hD
    refine lv_iconst (v := 0) hx hb dX8_askFor_48 (by decide) ?_
    refine o_wq hQ ?_
    exact q_iret (rm := (Rm 2 43 0 0)) C hS (z_14, g_8, g_17, g_12) rfl (show 0 ≤ (0 : Int32).toInt ∧ (0 : Int32).toInt ≤ 1 by decide) (q_subP hP [0, 1, 2, 3, 4, 5, 6] rfl) (hD.sub [0, 1, 2, 3, 4, 5, 6] (by decide) rfl) hroom.1 hroom.2 dX8_askFor_49
  · have hc_6 := o_eq (rfl : r_2.toInt = r_2.toInt) (by decide : (1 : Int32).toInt = 1) c_6
    have hd_17 : Hd (r_2.toInt = 1 ∧ bt k_today a = 1) := (Hd.un hp_4).resolve_right (fun z9 => by omega)
    have hd_17_0 : r_2.toInt = 1 := (Hd.un hd_17).1
    refine lv_iconst (v := 1) hx hb dX8_askFor_12 (by decide) ?_
    refine o_wq hQ ?_
    exact q_iret (rm := (Rm 2 43 0 0)) C hS (k_today, k_web, k_asks, k_threads) rfl (show 0 ≤ (1 : Int32).toInt ∧ (1 : Int32).toInt ≤ 1 by decide) (q_subP hP [0, 1, 2, 3, 4, 5, 6] rfl) (hD.sub [0, 1, 2, 3, 4, 5, 6] (by decide) rfl) hroom.1 hroom.2 dX8_askFor_13
theorem o_askFor (l : Launch) (D : va_G) (cy : Nat → ClassId) (k : Nat) (a : Int32) (k_x_ : Nat) (k_y_ : Nat) (k_web_ : Nat) (k_asks_ : Nat) (k_threads_ : Nat) (k_today : Int32) (k_day : Int32) (k_seen_ : Nat) (k_x : Nat → Int32) (k_y : Nat → Int32) (k_web : Nat → Int32) (k_asks : Nat → Int32) (k_threads : Nat → Int32) (k_seen : Nat → Int32) (sz : Nat) (hb0 : 0 ≤ a.toInt ∧ a.toInt ≤ 7) (hR0 : Rg k_x 0 8 0 5) (hR1 : Rg k_y 0 8 0 5) : MI l yX8_askFor cX8_askFor 2 (some .int) (Rm 2 43 0 0) D cy [.ref k, .int a] sz [(k, .inr (8, [.ref k_x_, .ref k_y_, .ref k_web_, .ref k_asks_, .ref k_threads_, .int k_today, .int k_day, .ref k_seen_])), (k_x_, .inl (cy 1, 8, .inl k_x)), (k_y_, .inl (cy 1, 8, .inl k_y)), (k_web_, .inl (cy 1, 8, .inl k_web)), (k_asks_, .inl (cy 1, 8, .inl k_asks)), (k_threads_, .inl (cy 1, 64, .inl k_threads)), (k_seen_, .inl (cy 1, 8, .inl k_seen))] (fun (r : Int32) (u : Int32 × (Nat → Int32) × (Nat → Int32) × (Nat → Int32)) => (0 ≤ r.toInt ∧ r.toInt ≤ 1)) (fun u : Int32 × (Nat → Int32) × (Nat → Int32) × (Nat → Int32) => [(k, .inr (8, [.ref k_x_, .ref k_y_, .ref k_web_, .ref k_asks_, .ref k_threads_, .int u.1, .int k_day, .ref k_seen_])), (k_x_, .inl (cy 1, 8, .inl k_x)), (k_y_, .inl (cy 1, 8, .inl k_y)), (k_web_, .inl (cy 1, 8, .inl u.2.1)), (k_asks_, .inl (cy 1, 8, .inl u.2.2.1)), (k_threads_, .inl (cy 1, 64, .inl u.2.2.2)), (k_seen_, .inl (cy 1, 8, .inl k_seen))]) := by
  refine MI.enter (by decide) (Nat.le_of_ble_eq_true rfl) ?_
  intro p e s m below meth c ls A hsz hAe C hP hD hS hl
  exact b_o_askFor l D cy k a k_x_ k_y_ k_web_ k_asks_ k_threads_ k_today k_day k_seen_ k_x k_y k_web k_asks k_threads k_seen hb0 hR0 hR1 ⟨Nat.le_of_ble_eq_true rfl, Nat.le_of_ble_eq_true rfl⟩ C rfl _ _ ls hP hD hS hl
set_option maxHeartbeats 4000000 in
set_option maxRecDepth 100000 in
theorem b_o_sweepRow (l : Launch) (D : va_G) (cy : Nat → ClassId) (k : Nat) (b : Int32) (v : Int32) (k_x_ : Nat) (k_y_ : Nat) (k_web_ : Nat) (k_asks_ : Nat) (k_threads_ : Nat) (k_today : Int32) (k_day : Int32) (k_seen_ : Nat) (k_x : Nat → Int32) (k_y : Nat → Int32) (k_web : Nat → Int32) (k_asks : Nat → Int32) (k_threads : Nat → Int32) (k_seen : Nat → Int32) (hb0 : 0 ≤ b.toInt ∧ b.toInt ≤ 8) (hR0 : Rg k_x 0 8 0 5) (hR1 : Rg k_y 0 8 0 5) {p : Program} {e : Env} {s : State} {m : MethodId} {args : Array Value} {below : List Frame} {meth : Method} {c : Code} {A : Nat → Prop} {Q : State → Prop} {cells slots : Nat} (hroom : cells ≤ ((Rm 2 43 0 0)).cells ∧ slots ≤ ((Rm 2 43 0 0)).slots) (C : Cx p s m args meth c cX8_sweepRow 5 (some .int) RX8 "sweepRow" D cy A) (hQ : Q = MQ below (va_Qi (fun (r : Int32) (u : (Nat → Int32) × (Nat → Int32)) => (0 ≤ r.toInt ∧ r.toInt ≤ 1)) (Bx D A (fun u : (Nat → Int32) × (Nat → Int32) => [(k, .inr (8, [.ref k_x_, .ref k_y_, .ref k_web_, .ref k_asks_, .ref k_threads_, .int k_today, .int k_day, .ref k_seen_])), (k_x_, .inl (cy 1, 8, .inl k_x)), (k_y_, .inl (cy 1, 8, .inl k_y)), (k_web_, .inl (cy 1, 8, .inl u.1)), (k_asks_, .inl (cy 1, 8, .inl k_asks)), (k_threads_, .inl (cy 1, 64, .inl u.2)), (k_seen_, .inl (cy 1, 8, .inl k_seen))])) A) args s ((Rm 2 43 0 0)).cells ((Rm 2 43 0 0)).slots A) (H : Heap) (locs : List Loc) (ls : Array Slot) (hP : va_P D vwCl [(k, .inr (8, [.ref k_x_, .ref k_y_, .ref k_web_, .ref k_asks_, .ref k_threads_, .int k_today, .int k_day, .ref k_seen_])), (k_x_, .inl (cy 1, 8, .inl k_x)), (k_y_, .inl (cy 1, 8, .inl k_y)), (k_web_, .inl (cy 1, 8, .inl k_web)), (k_asks_, .inl (cy 1, 8, .inl k_asks)), (k_threads_, .inl (cy 1, 64, .inl k_threads)), (k_seen_, .inl (cy 1, 8, .inl k_seen))] H) (hD : va_D A [(k, .inr (8, [.ref k_x_, .ref k_y_, .ref k_web_, .ref k_asks_, .ref k_threads_, .int k_today, .int k_day, .ref k_seen_])), (k_x_, .inl (cy 1, 8, .inl k_x)), (k_y_, .inl (cy 1, 8, .inl k_y)), (k_web_, .inl (cy 1, 8, .inl k_web)), (k_asks_, .inl (cy 1, 8, .inl k_asks)), (k_threads_, .inl (cy 1, 64, .inl k_threads)), (k_seen_, .inl (cy 1, 8, .inl k_seen))]) (hS : va_S A s.heap H locs) (hl : lv_has ls 5 [(0, .ref k), (1, .int b), (2, .int v)]) : W p l e (Rm 2 43 0 0) s m args below meth c H locs cells slots Q (F0 m 0 ls []) := by
  have hx := C.1
  have hb := C.2.1
  have hqv := o_rng v
  refine lv_iconst (v := 0) hx hb dX8_sweepRow_0 (by decide) ?_
  refine lv_istore_n (lv' := [(3, .int 0), (0, .ref k), (1, .int b), (2, .int v)]) hx hb dX8_sweepRow_1 rfl hl (by decide) rfl (fun ls hl => ?_)
  refine lv_iconst (v := 0) hx hb dX8_sweepRow_2 (by decide) ?_
  refine lv_istore (lv' := [(4, .int 0), (3, .int 0), (0, .ref k), (1, .int b), (2, .int v)]) hx hb dX8_sweepRow_3 hl (by decide) rfl (fun ls hl => ?_)
  have lp_5_4 : ∀ (n_5 : Nat) (x_1 : Int32) (x_2 : Int32) (g_3 : Nat → Int32) (g_4 : Nat → Int32) (H : Heap) (locs : List Loc) (ls : Array Slot), (-1) * x_2.toInt + 8 < (n_5 : Int) → (0 ≤ x_1.toInt ∧ x_1.toInt ≤ 1) → (0 ≤ x_2.toInt ∧ x_2.toInt ≤ 8) → va_P D vwCl [(k, .inr (8, [.ref k_x_, .ref k_y_, .ref k_web_, .ref k_asks_, .ref k_threads_, .int k_today, .int k_day, .ref k_seen_])), (k_x_, .inl (cy 1, 8, .inl k_x)), (k_y_, .inl (cy 1, 8, .inl k_y)), (k_web_, .inl (cy 1, 8, .inl g_4)), (k_asks_, .inl (cy 1, 8, .inl k_asks)), (k_threads_, .inl (cy 1, 64, .inl g_3)), (k_seen_, .inl (cy 1, 8, .inl k_seen))] H → va_D A [(k, .inr (8, [.ref k_x_, .ref k_y_, .ref k_web_, .ref k_asks_, .ref k_threads_, .int k_today, .int k_day, .ref k_seen_])), (k_x_, .inl (cy 1, 8, .inl k_x)), (k_y_, .inl (cy 1, 8, .inl k_y)), (k_web_, .inl (cy 1, 8, .inl g_4)), (k_asks_, .inl (cy 1, 8, .inl k_asks)), (k_threads_, .inl (cy 1, 64, .inl g_3)), (k_seen_, .inl (cy 1, 8, .inl k_seen))] → va_S A s.heap H locs → lv_has ls 5 [(0, .ref k), (1, .int b), (2, .int v), (3, .int x_1), (4, .int x_2)] → W p l e (Rm 2 43 0 0) s m args below meth c H locs cells slots Q (F0 m 5 ls []) := by
    intro n_5
    induction n_5 with
    | zero =>
      intro x_1 x_2 g_3 g_4 H locs ls hm_8 hf_6 hf_7 hP hD hS hl
      exact absurd hm_8 (by omega)
    | succ n_5 ih_9 =>
      intro x_1 x_2 g_3 g_4 H locs ls hm_8 hf_6 hf_7 hP hD hS hl
      refine lv_iload hx hb dX8_sweepRow_5 (lv_at hl 4 rfl) ?_
      refine lv_iload_n hx hb dX8_sweepRow_7 rfl (lv_at hl 1 rfl) ?_
      refine lv_icmp_ge (tgt := 63) hx hb dX8_sweepRow_8 (by decide) (fun c_11 => ?_) (fun c_11 => ?_)
      · have hc_11 := o_le (rfl : b.toInt = b.toInt) (rfl : x_2.toInt = x_2.toInt) c_11
        refine lv_iload_n hx hb dX8_sweepRow_63 rfl (lv_at hl 3 rfl) ?_
        refine lv_if_eq (tgt := 71) hx hb dX8_sweepRow_64 (by decide) (fun c_12 => ?_) (fun c_12 => ?_)
        · have hc_12 := o_eq (rfl : x_1.toInt = x_1.toInt) (by decide : (0 : Int32).toInt = 0) c_12
          refine lv_iconst (v := 1) hx hb dX8_sweepRow_71 (by decide) ?_
          refine o_wq hQ ?_
          exact q_iret (rm := (Rm 2 43 0 0)) C hS (g_4, g_3) rfl (show 0 ≤ (1 : Int32).toInt ∧ (1 : Int32).toInt ≤ 1 by decide) (q_subP hP [0, 1, 2, 3, 4, 5, 6] rfl) (hD.sub [0, 1, 2, 3, 4, 5, 6] (by decide) rfl) hroom.1 hroom.2 dX8_sweepRow_72
        · have hc_12 := o_ne (rfl : x_1.toInt = x_1.toInt) (by decide : (0 : Int32).toInt = 0) c_12
          have hnc_12 : 0 ≤ x_1.toInt + (-1) := by rcases Int.lt_or_gt_of_ne hc_12 with h9 | h9 <;> omega
          refine lv_iconst (v := 0) hx hb dX8_sweepRow_67 (by decide) ?_
          refine lv_goto (tgt := 72) hx hb dX8_sweepRow_68 (by decide) ?_
          refine o_wq hQ ?_
          exact q_iret (rm := (Rm 2 43 0 0)) C hS (g_4, g_3) rfl (show 0 ≤ (0 : Int32).toInt ∧ (0 : Int32).toInt ≤ 1 by decide) (q_subP hP [0, 1, 2, 3, 4, 5, 6] rfl) (hD.sub [0, 1, 2, 3, 4, 5, 6] (by decide) rfl) hroom.1 hroom.2 dX8_sweepRow_72
      · have hc_11 := o_nle (rfl : b.toInt = b.toInt) (rfl : x_2.toInt = x_2.toInt) c_11
        refine lv_aload_n hx hb dX8_sweepRow_11 rfl (lv_at hl 0 rfl) ?_
        refine q_get (v := .ref k_y_) C hP 0 1 rfl rfl inX8 (by decide) kF_RX8_15 rfl rfl dX8_sweepRow_12 ?_
        refine lv_iload hx hb dX8_sweepRow_15 (lv_at hl 4 rfl) ?_
        refine q_iald (v := k_y x_2.toNatClampNeg) C hP 2 rfl (o_in (rfl : x_2.toInt = x_2.toInt) (by omega) (by omega)) rfl dX8_sweepRow_17 ?_
        refine lv_topi (fun z_13 ez_13 => ?_)
        have hz_13 := Rg.at hR1 ez_13 (by have := o_cl (rfl : x_2.toInt = x_2.toInt) (by omega); omega) (by have := o_cl (rfl : x_2.toInt = x_2.toInt) (by omega); omega)
        refine lv_iload_n hx hb dX8_sweepRow_18 rfl (lv_at hl 2 rfl) ?_
        refine lv_icmp_ne (tgt := 57) hx hb dX8_sweepRow_19 (by decide) (fun c_14 => ?_) (fun c_14 => ?_)
        · have hc_14 := o_ne (rfl : z_13.toInt = z_13.toInt) (rfl : v.toInt = v.toInt) c_14
          obtain ⟨z_15, hz_15⟩ : ∃ z : Int32, z = x_2 + 1 := ⟨_, rfl⟩
          refine lv_iinc (v := z_15) (lv' := [(4, .int z_15), (0, .ref k), (1, .int b), (2, .int v), (3, .int x_1)]) hx hb dX8_sweepRow_57 hl (k := 4) rfl hz_15.symm (by decide) rfl (fun ls hl => ?_)
          have hz_15 := o_add hz_15 (rfl : x_2.toInt = x_2.toInt) (by decide : (1 : Int32).toInt = 1) (by omega) (by omega)
          refine lv_goto (tgt := 5) hx hb dX8_sweepRow_60 (by decide) ?_
          exact ih_9 x_1 z_15 g_3 g_4 H locs ls (by omega) (by omega) (by omega) hP hD hS (lv_sub hl [1, 2, 3, 4, 0] rfl)
        · have hc_14 := o_eq (rfl : z_13.toInt = z_13.toInt) (rfl : v.toInt = v.toInt) c_14
          refine lv_aload_n hx hb dX8_sweepRow_22 rfl (lv_at hl 0 rfl) ?_
          refine q_get (v := .ref k_web_) C hP 0 2 rfl rfl inX8 (by decide) kF_RX8_18 rfl rfl dX8_sweepRow_23 ?_
          refine lv_iload hx hb dX8_sweepRow_26 (lv_at hl 4 rfl) ?_
          refine q_iald (v := g_4 x_2.toNatClampNeg) C hP 3 rfl (o_in (rfl : x_2.toInt = x_2.toInt) (by omega) (by omega)) rfl dX8_sweepRow_28 ?_
          refine lv_topi (fun z_16 ez_16 => ?_)
          have cut_41_16 : ∀  (H : Heap) (locs : List Loc) (ls : Array Slot), va_P D vwCl [(k, .inr (8, [.ref k_x_, .ref k_y_, .ref k_web_, .ref k_asks_, .ref k_threads_, .int k_today, .int k_day, .ref k_seen_])), (k_x_, .inl (cy 1, 8, .inl k_x)), (k_y_, .inl (cy 1, 8, .inl k_y)), (k_web_, .inl (cy 1, 8, .inl g_4)), (k_asks_, .inl (cy 1, 8, .inl k_asks)), (k_threads_, .inl (cy 1, 64, .inl g_3)), (k_seen_, .inl (cy 1, 8, .inl k_seen))] H → va_D A [(k, .inr (8, [.ref k_x_, .ref k_y_, .ref k_web_, .ref k_asks_, .ref k_threads_, .int k_today, .int k_day, .ref k_seen_])), (k_x_, .inl (cy 1, 8, .inl k_x)), (k_y_, .inl (cy 1, 8, .inl k_y)), (k_web_, .inl (cy 1, 8, .inl g_4)), (k_asks_, .inl (cy 1, 8, .inl k_asks)), (k_threads_, .inl (cy 1, 64, .inl g_3)), (k_seen_, .inl (cy 1, 8, .inl k_seen))] → va_S A s.heap H locs → lv_has ls 5 [(0, .ref k), (1, .int b), (2, .int v), (4, .int x_2)] → W p l e (Rm 2 43 0 0) s m args below meth c H locs cells slots Q (F0 m 41 ls []) := by
            intro  H locs ls  hP hD hS hl
            refine lv_aload_n hx hb dX8_sweepRow_41 rfl (lv_at hl 0 rfl) ?_
            refine q_get (v := .ref k_web_) C hP 0 2 rfl rfl inX8 (by decide) kF_RX8_18 rfl rfl dX8_sweepRow_42 ?_
            refine lv_iload hx hb dX8_sweepRow_45 (lv_at hl 3 rfl) ?_
            refine lv_iconst (v := 0) hx hb dX8_sweepRow_47 (by decide) ?_
            refine q_iast (g := upd g_4 x_2.toNatClampNeg 0) (w' := [(k, .inr (8, [.ref k_x_, .ref k_y_, .ref k_web_, .ref k_asks_, .ref k_threads_, .int k_today, .int k_day, .ref k_seen_])), (k_x_, .inl (cy 1, 8, .inl k_x)), (k_y_, .inl (cy 1, 8, .inl k_y)), (k_web_, .inl (cy 1, 8, .inl (upd g_4 x_2.toNatClampNeg 0))), (k_asks_, .inl (cy 1, 8, .inl k_asks)), (k_threads_, .inl (cy 1, 64, .inl g_3)), (k_seen_, .inl (cy 1, 8, .inl k_seen))]) C hP hD hS 3 rfl (o_in (rfl : x_2.toInt = x_2.toInt) (by omega) (by omega)) rfl rfl dX8_sweepRow_48 (fun H locs hP hD hS => ?_)
            generalize upd g_4 x_2.toNatClampNeg 0 = g_18 at hP hD 
            have hP : va_P D vwCl [(k, .inr (8, [.ref k_x_, .ref k_y_, .ref k_web_, .ref k_asks_, .ref k_threads_, .int k_today, .int k_day, .ref k_seen_])), (k_x_, .inl (cy 1, 8, .inl k_x)), (k_y_, .inl (cy 1, 8, .inl k_y)), (k_web_, .inl (cy 1, 8, .inl g_18)), (k_asks_, .inl (cy 1, 8, .inl k_asks)), (k_threads_, .inl (cy 1, 64, .inl g_3)), (k_seen_, .inl (cy 1, 8, .inl k_seen))] H := hP
            have hD : va_D A [(k, .inr (8, [.ref k_x_, .ref k_y_, .ref k_web_, .ref k_asks_, .ref k_threads_, .int k_today, .int k_day, .ref k_seen_])), (k_x_, .inl (cy 1, 8, .inl k_x)), (k_y_, .inl (cy 1, 8, .inl k_y)), (k_web_, .inl (cy 1, 8, .inl g_18)), (k_asks_, .inl (cy 1, 8, .inl k_asks)), (k_threads_, .inl (cy 1, 64, .inl g_3)), (k_seen_, .inl (cy 1, 8, .inl k_seen))] := hD
            refine lv_aload_n hx hb dX8_sweepRow_49 rfl (lv_at hl 0 rfl) ?_
            refine lv_iload hx hb dX8_sweepRow_50 (lv_at hl 3 rfl) ?_
            refine q_av (wr := []) (r_V (rm := (Rm 1 21 0 0)) (q0 := 0) (As := [.int x_2]) (rest := []) (wc := [(k, .inr (8, [.ref k_x_, .ref k_y_, .ref k_web_, .ref k_asks_, .ref k_threads_, .int k_today, .int k_day, .ref k_seen_])), (k_x_, .inl (cy 1, 8, .inl k_x)), (k_y_, .inl (cy 1, 8, .inl k_y)), (k_web_, .inl (cy 1, 8, .inl g_18)), (k_asks_, .inl (cy 1, 8, .inl k_asks)), (k_threads_, .inl (cy 1, 64, .inl g_3)), (k_seen_, .inl (cy 1, 8, .inl k_seen))]) C hS (q_subP hP [0, 1, 2, 3, 4, 5, 6] rfl) (hD.sub [0, 1, 2, 3, 4, 5, 6] (by decide) rfl) (o_cutThreads l D cy k x_2 k_x_ k_y_ k_web_ k_asks_ k_threads_ k_today k_day k_seen_ k_x k_y g_18 k_asks g_3 k_seen _ (by omega) hR0 hR1) kwV_X8_cutThreads kM_RX8_79 rfl rfl ⟨Nat.le_of_ble_eq_true rfl, Nat.le_of_ble_eq_true rfl⟩ rfl hl.1 rfl (Nat.le_of_ble_eq_true rfl) dX8_sweepRow_52 ⟨hroom.1, hroom.2⟩) C.2.2.2.2.2.2.1 hP hD hS [0, 1, 2, 3, 4, 5, 6] [] rfl rfl (by decide) (by decide) (fun u_19 H locs hw_21 hP hD hS => ?_)
            obtain ⟨g_22, rfl⟩ : ∃ z, z = u_19 := ⟨_, rfl⟩
            have hP : va_P D vwCl [(k, .inr (8, [.ref k_x_, .ref k_y_, .ref k_web_, .ref k_asks_, .ref k_threads_, .int k_today, .int k_day, .ref k_seen_])), (k_x_, .inl (cy 1, 8, .inl k_x)), (k_y_, .inl (cy 1, 8, .inl k_y)), (k_web_, .inl (cy 1, 8, .inl g_18)), (k_asks_, .inl (cy 1, 8, .inl k_asks)), (k_threads_, .inl (cy 1, 64, .inl g_22)), (k_seen_, .inl (cy 1, 8, .inl k_seen))] H := hP
            have hD : va_D A [(k, .inr (8, [.ref k_x_, .ref k_y_, .ref k_web_, .ref k_asks_, .ref k_threads_, .int k_today, .int k_day, .ref k_seen_])), (k_x_, .inl (cy 1, 8, .inl k_x)), (k_y_, .inl (cy 1, 8, .inl k_y)), (k_web_, .inl (cy 1, 8, .inl g_18)), (k_asks_, .inl (cy 1, 8, .inl k_asks)), (k_threads_, .inl (cy 1, 64, .inl g_22)), (k_seen_, .inl (cy 1, 8, .inl k_seen))] := hD
            refine lv_iconst (v := 1) hx hb dX8_sweepRow_55 (by decide) ?_
            refine lv_istore_n (lv' := [(3, .int 1), (0, .ref k), (1, .int b), (2, .int v), (4, .int x_2)]) hx hb dX8_sweepRow_56 rfl hl (by decide) rfl (fun ls hl => ?_)
            obtain ⟨z_23, hz_23⟩ : ∃ z : Int32, z = x_2 + 1 := ⟨_, rfl⟩
            refine lv_iinc (v := z_23) (lv' := [(4, .int z_23), (3, .int 1), (0, .ref k), (1, .int b), (2, .int v)]) hx hb dX8_sweepRow_57 hl (k := 4) rfl hz_23.symm (by decide) rfl (fun ls hl => ?_)
            have hz_23 := o_add hz_23 (rfl : x_2.toInt = x_2.toInt) (by decide : (1 : Int32).toInt = 1) (by omega) (by omega)
            refine lv_goto (tgt := 5) hx hb dX8_sweepRow_60 (by decide) ?_
            exact ih_9 (1 : Int32) z_23 g_22 g_18 H locs ls (by have e0 : (1 : Int32).toInt = 1 := (by decide); omega) (by have e0 : (1 : Int32).toInt = 1 := (by decide); omega) (by have e0 : (1 : Int32).toInt = 1 := (by decide); omega) hP hD hS (lv_sub hl [2, 3, 4, 1, 0] rfl)
          refine lv_if_gt (tgt := 41) hx hb dX8_sweepRow_29 (by decide) (fun c_24 => ?_) (fun c_24 => ?_)
          · have hc_24 := o_lt (by decide : (0 : Int32).toInt = 0) (rfl : z_16.toInt = z_16.toInt) c_24
            exact cut_41_16  H locs ls   hP hD hS (lv_sub hl [0, 1, 2, 4] rfl)
          · have hc_24 := o_nlt (by decide : (0 : Int32).toInt = 0) (rfl : z_16.toInt = z_16.toInt) c_24
            refine lv_aload_n hx hb dX8_sweepRow_32 rfl (lv_at hl 0 rfl) ?_
            refine lv_iload hx hb dX8_sweepRow_33 (lv_at hl 4 rfl) ?_
            refine q_ai (wr := []) (r_V (rm := (Rm 1 21 0 0)) (q0 := 0) (As := [.int x_2]) (rest := []) (wc := [(k, .inr (8, [.ref k_x_, .ref k_y_, .ref k_web_, .ref k_asks_, .ref k_threads_, .int k_today, .int k_day, .ref k_seen_])), (k_x_, .inl (cy 1, 8, .inl k_x)), (k_y_, .inl (cy 1, 8, .inl k_y)), (k_web_, .inl (cy 1, 8, .inl g_4)), (k_asks_, .inl (cy 1, 8, .inl k_asks)), (k_threads_, .inl (cy 1, 64, .inl g_3)), (k_seen_, .inl (cy 1, 8, .inl k_seen))]) C hS (q_subP hP [0, 1, 2, 3, 4, 5, 6] rfl) (hD.sub [0, 1, 2, 3, 4, 5, 6] (by decide) rfl) (o_hasThread l D cy k x_2 k_x_ k_y_ k_web_ k_asks_ k_threads_ k_today k_day k_seen_ k_x k_y g_4 k_asks g_3 k_seen _ (by omega) hR0 hR1) kwV_X8_hasThread kM_RX8_83 rfl rfl ⟨Nat.le_of_ble_eq_true rfl, Nat.le_of_ble_eq_true rfl⟩ rfl hl.1 rfl (Nat.le_of_ble_eq_true rfl) dX8_sweepRow_35 ⟨hroom.1, hroom.2⟩) C.2.2.2.2.2.2.1 hP hD hS [0, 1, 2, 3, 4, 5, 6] [] rfl rfl (by decide) (by decide) (fun r_26 u_25 H locs hw_27 hP hD hS => ?_)
            have hp_27 : 0 ≤ r_26.toInt ∧ r_26.toInt ≤ 1 := hw_27
            refine lv_if_eq (tgt := 57) hx hb dX8_sweepRow_38 (by decide) (fun c_29 => ?_) (fun c_29 => ?_)
            · have hc_29 := o_eq (rfl : r_26.toInt = r_26.toInt) (by decide : (0 : Int32).toInt = 0) c_29
              obtain ⟨z_30, hz_30⟩ : ∃ z : Int32, z = x_2 + 1 := ⟨_, rfl⟩
              refine lv_iinc (v := z_30) (lv' := [(4, .int z_30), (0, .ref k), (1, .int b), (2, .int v), (3, .int x_1)]) hx hb dX8_sweepRow_57 hl (k := 4) rfl hz_30.symm (by decide) rfl (fun ls hl => ?_)
              have hz_30 := o_add hz_30 (rfl : x_2.toInt = x_2.toInt) (by decide : (1 : Int32).toInt = 1) (by omega) (by omega)
              refine lv_goto (tgt := 5) hx hb dX8_sweepRow_60 (by decide) ?_
              exact ih_9 x_1 z_30 g_3 g_4 H locs ls (by omega) (by omega) (by omega) hP hD hS (lv_sub hl [1, 2, 3, 4, 0] rfl)
            · have hc_29 := o_ne (rfl : r_26.toInt = r_26.toInt) (by decide : (0 : Int32).toInt = 0) c_29
              have hnc_29 : 0 ≤ r_26.toInt + (-1) := by rcases Int.lt_or_gt_of_ne hc_29 with h9 | h9 <;> omega
              exact cut_41_16  H locs ls   hP hD hS (lv_sub hl [0, 1, 2, 4] rfl)
  exact lp_5_4 9 (0 : Int32) (0 : Int32) k_threads k_web H locs ls (by have e0 : (0 : Int32).toInt = 0 := (by decide); omega) (by have e0 : (0 : Int32).toInt = 0 := (by decide); omega) (by have e0 : (0 : Int32).toInt = 0 := (by decide); omega) hP hD hS (lv_sub hl [2, 3, 4, 1, 0] rfl)
theorem o_sweepRow (l : Launch) (D : va_G) (cy : Nat → ClassId) (k : Nat) (b : Int32) (v : Int32) (k_x_ : Nat) (k_y_ : Nat) (k_web_ : Nat) (k_asks_ : Nat) (k_threads_ : Nat) (k_today : Int32) (k_day : Int32) (k_seen_ : Nat) (k_x : Nat → Int32) (k_y : Nat → Int32) (k_web : Nat → Int32) (k_asks : Nat → Int32) (k_threads : Nat → Int32) (k_seen : Nat → Int32) (sz : Nat) (hb0 : 0 ≤ b.toInt ∧ b.toInt ≤ 8) (hR0 : Rg k_x 0 8 0 5) (hR1 : Rg k_y 0 8 0 5) : MI l yX8_sweepRow cX8_sweepRow 5 (some .int) (Rm 2 43 0 0) D cy [.ref k, .int b, .int v] sz [(k, .inr (8, [.ref k_x_, .ref k_y_, .ref k_web_, .ref k_asks_, .ref k_threads_, .int k_today, .int k_day, .ref k_seen_])), (k_x_, .inl (cy 1, 8, .inl k_x)), (k_y_, .inl (cy 1, 8, .inl k_y)), (k_web_, .inl (cy 1, 8, .inl k_web)), (k_asks_, .inl (cy 1, 8, .inl k_asks)), (k_threads_, .inl (cy 1, 64, .inl k_threads)), (k_seen_, .inl (cy 1, 8, .inl k_seen))] (fun (r : Int32) (u : (Nat → Int32) × (Nat → Int32)) => (0 ≤ r.toInt ∧ r.toInt ≤ 1)) (fun u : (Nat → Int32) × (Nat → Int32) => [(k, .inr (8, [.ref k_x_, .ref k_y_, .ref k_web_, .ref k_asks_, .ref k_threads_, .int k_today, .int k_day, .ref k_seen_])), (k_x_, .inl (cy 1, 8, .inl k_x)), (k_y_, .inl (cy 1, 8, .inl k_y)), (k_web_, .inl (cy 1, 8, .inl u.1)), (k_asks_, .inl (cy 1, 8, .inl k_asks)), (k_threads_, .inl (cy 1, 64, .inl u.2)), (k_seen_, .inl (cy 1, 8, .inl k_seen))]) := by
  refine MI.enter (by decide) (Nat.le_of_ble_eq_true rfl) ?_
  intro p e s m below meth c ls A hsz hAe C hP hD hS hl
  exact b_o_sweepRow l D cy k b v k_x_ k_y_ k_web_ k_asks_ k_threads_ k_today k_day k_seen_ k_x k_y k_web k_asks k_threads k_seen hb0 hR0 hR1 ⟨Nat.le_of_ble_eq_true rfl, Nat.le_of_ble_eq_true rfl⟩ C rfl _ _ ls hP hD hS hl
set_option maxHeartbeats 4000000 in
set_option maxRecDepth 100000 in
theorem b_o_carry (l : Launch) (D : va_G) (cy : Nat → ClassId) (k : Nat) (b : Int32) (a : Int32) (v : Int32) (w : Int32) (k_x_ : Nat) (k_y_ : Nat) (k_web_ : Nat) (k_asks_ : Nat) (k_threads_ : Nat) (k_today : Int32) (k_day : Int32) (k_seen_ : Nat) (k_x : Nat → Int32) (k_y : Nat → Int32) (k_web : Nat → Int32) (k_asks : Nat → Int32) (k_threads : Nat → Int32) (k_seen : Nat → Int32) (hb0 : 0 ≤ b.toInt ∧ b.toInt ≤ 8) (hb1 : 0 ≤ a.toInt ∧ a.toInt ≤ 7) (hb2 : 0 ≤ v.toInt ∧ v.toInt ≤ 5) (hb3 : 0 ≤ w.toInt ∧ w.toInt ≤ 5) (hR0 : Rg k_x 0 8 0 5) (hR1 : Rg k_y 0 8 0 5) {p : Program} {e : Env} {s : State} {m : MethodId} {args : Array Value} {below : List Frame} {meth : Method} {c : Code} {A : Nat → Prop} {Q : State → Prop} {cells slots : Nat} (hroom : cells ≤ ((Rm 2 43 0 0)).cells ∧ slots ≤ ((Rm 2 43 0 0)).slots) (C : Cx p s m args meth c cX8_carry 5 (some .int) RX8 "carry" D cy A) (hQ : Q = MQ below (va_Qi (fun (r : Int32) (u : (Nat → Int32) × (Nat → Int32) × (Nat → Int32)) => (0 ≤ r.toInt ∧ r.toInt ≤ 1) ∧ (Rg u.1 0 8 0 5) ∧ (Rg u.2.1 0 8 0 5)) (Bx D A (fun u : (Nat → Int32) × (Nat → Int32) × (Nat → Int32) => [(k, .inr (8, [.ref k_x_, .ref k_y_, .ref k_web_, .ref k_asks_, .ref k_threads_, .int k_today, .int k_day, .ref k_seen_])), (k_x_, .inl (cy 1, 8, .inl u.1)), (k_y_, .inl (cy 1, 8, .inl u.2.1)), (k_web_, .inl (cy 1, 8, .inl k_web)), (k_asks_, .inl (cy 1, 8, .inl k_asks)), (k_threads_, .inl (cy 1, 64, .inl u.2.2)), (k_seen_, .inl (cy 1, 8, .inl k_seen))])) A) args s ((Rm 2 43 0 0)).cells ((Rm 2 43 0 0)).slots A) (H : Heap) (locs : List Loc) (ls : Array Slot) (hP : va_P D vwCl [(k, .inr (8, [.ref k_x_, .ref k_y_, .ref k_web_, .ref k_asks_, .ref k_threads_, .int k_today, .int k_day, .ref k_seen_])), (k_x_, .inl (cy 1, 8, .inl k_x)), (k_y_, .inl (cy 1, 8, .inl k_y)), (k_web_, .inl (cy 1, 8, .inl k_web)), (k_asks_, .inl (cy 1, 8, .inl k_asks)), (k_threads_, .inl (cy 1, 64, .inl k_threads)), (k_seen_, .inl (cy 1, 8, .inl k_seen))] H) (hD : va_D A [(k, .inr (8, [.ref k_x_, .ref k_y_, .ref k_web_, .ref k_asks_, .ref k_threads_, .int k_today, .int k_day, .ref k_seen_])), (k_x_, .inl (cy 1, 8, .inl k_x)), (k_y_, .inl (cy 1, 8, .inl k_y)), (k_web_, .inl (cy 1, 8, .inl k_web)), (k_asks_, .inl (cy 1, 8, .inl k_asks)), (k_threads_, .inl (cy 1, 64, .inl k_threads)), (k_seen_, .inl (cy 1, 8, .inl k_seen))]) (hS : va_S A s.heap H locs) (hl : lv_has ls 5 [(0, .ref k), (1, .int b), (2, .int a), (3, .int v), (4, .int w)]) : W p l e (Rm 2 43 0 0) s m args below meth c H locs cells slots Q (F0 m 0 ls []) := by
  have hx := C.1
  have hb := C.2.1
  refine lv_aload_n hx hb dX8_carry_0 rfl (lv_at hl 0 rfl) ?_
  refine lv_iload_n hx hb dX8_carry_1 rfl (lv_at hl 1 rfl) ?_
  refine lv_iload_n hx hb dX8_carry_2 rfl (lv_at hl 3 rfl) ?_
  refine lv_iload hx hb dX8_carry_3 (lv_at hl 4 rfl) ?_
  refine q_ai (wr := []) (r_V (rm := (Rm 0 0 0 0)) (q0 := 0) (As := [.int b, .int v, .int w]) (rest := []) (wc := [(k, .inr (8, [.ref k_x_, .ref k_y_, .ref k_web_, .ref k_asks_, .ref k_threads_, .int k_today, .int k_day, .ref k_seen_])), (k_x_, .inl (cy 1, 8, .inl k_x)), (k_y_, .inl (cy 1, 8, .inl k_y)), (k_web_, .inl (cy 1, 8, .inl k_web)), (k_asks_, .inl (cy 1, 8, .inl k_asks)), (k_threads_, .inl (cy 1, 64, .inl k_threads)), (k_seen_, .inl (cy 1, 8, .inl k_seen))]) C hS (q_subP hP [0, 1, 2, 3, 4, 5, 6] rfl) (hD.sub [0, 1, 2, 3, 4, 5, 6] (by decide) rfl) (o_bookIn l D cy k b v w k_x_ k_y_ k_web_ k_asks_ k_threads_ k_today k_day k_seen_ k_x k_y k_web k_asks k_threads k_seen _ (by omega) hR0 hR1) kwV_X8_bookIn kM_RX8_87 rfl rfl ⟨Nat.le_of_ble_eq_true rfl, Nat.le_of_ble_eq_true rfl⟩ rfl hl.1 rfl (Nat.le_of_ble_eq_true rfl) dX8_carry_5 ⟨hroom.1, hroom.2⟩) C.2.2.2.2.2.2.1 hP hD hS [0, 1, 2, 3, 4, 5, 6] [] rfl rfl (by decide) (by decide) (fun r_2 u_1 H locs hw_3 hP hD hS => ?_)
  have hp_3 : (-1) ≤ r_2.toInt ∧ r_2.toInt ≤ 7 := hw_3.1
  have hp_4 : r_2.toInt = binT k_x k_y v.toInt w.toInt b.toInt.toNat 0 := hw_3.2
  refine lv_iconst (v := (-1)) hx hb dX8_carry_8 (by decide) ?_
  refine lv_icmp_eq (tgt := 14) hx hb dX8_carry_9 (by decide) (fun c_6 => ?_) (fun c_6 => ?_)
  · have hc_6 := o_eq (rfl : r_2.toInt = r_2.toInt) (by decide : ((-1) : Int32).toInt = -1) c_6
    refine lv_aload_n hx hb dX8_carry_14 rfl (lv_at hl 0 rfl) ?_
    refine q_get (v := .ref k_x_) C hP 0 0 rfl rfl inX8 (by decide) kF_RX8_9 rfl rfl dX8_carry_15 ?_
    refine lv_iload_n hx hb dX8_carry_18 rfl (lv_at hl 2 rfl) ?_
    refine lv_iload_n hx hb dX8_carry_19 rfl (lv_at hl 3 rfl) ?_
    refine q_iast (g := upd k_x a.toNatClampNeg v) (w' := [(k, .inr (8, [.ref k_x_, .ref k_y_, .ref k_web_, .ref k_asks_, .ref k_threads_, .int k_today, .int k_day, .ref k_seen_])), (k_x_, .inl (cy 1, 8, .inl (upd k_x a.toNatClampNeg v))), (k_y_, .inl (cy 1, 8, .inl k_y)), (k_web_, .inl (cy 1, 8, .inl k_web)), (k_asks_, .inl (cy 1, 8, .inl k_asks)), (k_threads_, .inl (cy 1, 64, .inl k_threads)), (k_seen_, .inl (cy 1, 8, .inl k_seen))]) C hP hD hS 1 rfl (o_in (rfl : a.toInt = a.toInt) (by omega) (by omega)) rfl rfl dX8_carry_20 (fun H locs hP hD hS => ?_)
    have Rg_7_0 := Rg.upd_in (k := a.toNatClampNeg) (v := v) hR0 (by omega) (by omega)
    generalize upd k_x a.toNatClampNeg v = g_7 at hP hD Rg_7_0
    have hP : va_P D vwCl [(k, .inr (8, [.ref k_x_, .ref k_y_, .ref k_web_, .ref k_asks_, .ref k_threads_, .int k_today, .int k_day, .ref k_seen_])), (k_x_, .inl (cy 1, 8, .inl g_7)), (k_y_, .inl (cy 1, 8, .inl k_y)), (k_web_, .inl (cy 1, 8, .inl k_web)), (k_asks_, .inl (cy 1, 8, .inl k_asks)), (k_threads_, .inl (cy 1, 64, .inl k_threads)), (k_seen_, .inl (cy 1, 8, .inl k_seen))] H := hP
    have hD : va_D A [(k, .inr (8, [.ref k_x_, .ref k_y_, .ref k_web_, .ref k_asks_, .ref k_threads_, .int k_today, .int k_day, .ref k_seen_])), (k_x_, .inl (cy 1, 8, .inl g_7)), (k_y_, .inl (cy 1, 8, .inl k_y)), (k_web_, .inl (cy 1, 8, .inl k_web)), (k_asks_, .inl (cy 1, 8, .inl k_asks)), (k_threads_, .inl (cy 1, 64, .inl k_threads)), (k_seen_, .inl (cy 1, 8, .inl k_seen))] := hD
    refine lv_aload_n hx hb dX8_carry_21 rfl (lv_at hl 0 rfl) ?_
    refine q_get (v := .ref k_y_) C hP 0 1 rfl rfl inX8 (by decide) kF_RX8_15 rfl rfl dX8_carry_22 ?_
    refine lv_iload_n hx hb dX8_carry_25 rfl (lv_at hl 2 rfl) ?_
    refine lv_iload hx hb dX8_carry_26 (lv_at hl 4 rfl) ?_
    refine q_iast (g := upd k_y a.toNatClampNeg w) (w' := [(k, .inr (8, [.ref k_x_, .ref k_y_, .ref k_web_, .ref k_asks_, .ref k_threads_, .int k_today, .int k_day, .ref k_seen_])), (k_x_, .inl (cy 1, 8, .inl g_7)), (k_y_, .inl (cy 1, 8, .inl (upd k_y a.toNatClampNeg w))), (k_web_, .inl (cy 1, 8, .inl k_web)), (k_asks_, .inl (cy 1, 8, .inl k_asks)), (k_threads_, .inl (cy 1, 64, .inl k_threads)), (k_seen_, .inl (cy 1, 8, .inl k_seen))]) C hP hD hS 2 rfl (o_in (rfl : a.toInt = a.toInt) (by omega) (by omega)) rfl rfl dX8_carry_28 (fun H locs hP hD hS => ?_)
    have Rg_8_0 := Rg.upd_in (k := a.toNatClampNeg) (v := w) hR1 (by omega) (by omega)
    generalize upd k_y a.toNatClampNeg w = g_8 at hP hD Rg_8_0
    have hP : va_P D vwCl [(k, .inr (8, [.ref k_x_, .ref k_y_, .ref k_web_, .ref k_asks_, .ref k_threads_, .int k_today, .int k_day, .ref k_seen_])), (k_x_, .inl (cy 1, 8, .inl g_7)), (k_y_, .inl (cy 1, 8, .inl g_8)), (k_web_, .inl (cy 1, 8, .inl k_web)), (k_asks_, .inl (cy 1, 8, .inl k_asks)), (k_threads_, .inl (cy 1, 64, .inl k_threads)), (k_seen_, .inl (cy 1, 8, .inl k_seen))] H := hP
    have hD : va_D A [(k, .inr (8, [.ref k_x_, .ref k_y_, .ref k_web_, .ref k_asks_, .ref k_threads_, .int k_today, .int k_day, .ref k_seen_])), (k_x_, .inl (cy 1, 8, .inl g_7)), (k_y_, .inl (cy 1, 8, .inl g_8)), (k_web_, .inl (cy 1, 8, .inl k_web)), (k_asks_, .inl (cy 1, 8, .inl k_asks)), (k_threads_, .inl (cy 1, 64, .inl k_threads)), (k_seen_, .inl (cy 1, 8, .inl k_seen))] := hD
    refine lv_aload_n hx hb dX8_carry_29 rfl (lv_at hl 0 rfl) ?_
    refine lv_iload_n hx hb dX8_carry_30 rfl (lv_at hl 2 rfl) ?_
    refine q_av (wr := []) (r_V (rm := (Rm 1 21 0 0)) (q0 := 0) (As := [.int a]) (rest := []) (wc := [(k, .inr (8, [.ref k_x_, .ref k_y_, .ref k_web_, .ref k_asks_, .ref k_threads_, .int k_today, .int k_day, .ref k_seen_])), (k_x_, .inl (cy 1, 8, .inl g_7)), (k_y_, .inl (cy 1, 8, .inl g_8)), (k_web_, .inl (cy 1, 8, .inl k_web)), (k_asks_, .inl (cy 1, 8, .inl k_asks)), (k_threads_, .inl (cy 1, 64, .inl k_threads)), (k_seen_, .inl (cy 1, 8, .inl k_seen))]) C hS (q_subP hP [0, 1, 2, 3, 4, 5, 6] rfl) (hD.sub [0, 1, 2, 3, 4, 5, 6] (by decide) rfl) (o_cutThreads l D cy k a k_x_ k_y_ k_web_ k_asks_ k_threads_ k_today k_day k_seen_ g_7 g_8 k_web k_asks k_threads k_seen _ (by omega) Rg_7_0 Rg_8_0) kwV_X8_cutThreads kM_RX8_79 rfl rfl ⟨Nat.le_of_ble_eq_true rfl, Nat.le_of_ble_eq_true rfl⟩ rfl hl.1 rfl (Nat.le_of_ble_eq_true rfl) dX8_carry_31 ⟨hroom.1, hroom.2⟩) C.2.2.2.2.2.2.1 hP hD hS [0, 1, 2, 3, 4, 5, 6] [] rfl rfl (by decide) (by decide) (fun u_9 H locs hw_11 hP hD hS => ?_)
    obtain ⟨g_12, rfl⟩ : ∃ z, z = u_9 := ⟨_, rfl⟩
    have hP : va_P D vwCl [(k, .inr (8, [.ref k_x_, .ref k_y_, .ref k_web_, .ref k_asks_, .ref k_threads_, .int k_today, .int k_day, .ref k_seen_])), (k_x_, .inl (cy 1, 8, .inl g_7)), (k_y_, .inl (cy 1, 8, .inl g_8)), (k_web_, .inl (cy 1, 8, .inl k_web)), (k_asks_, .inl (cy 1, 8, .inl k_asks)), (k_threads_, .inl (cy 1, 64, .inl g_12)), (k_seen_, .inl (cy 1, 8, .inl k_seen))] H := hP
    have hD : va_D A [(k, .inr (8, [.ref k_x_, .ref k_y_, .ref k_web_, .ref k_asks_, .ref k_threads_, .int k_today, .int k_day, .ref k_seen_])), (k_x_, .inl (cy 1, 8, .inl g_7)), (k_y_, .inl (cy 1, 8, .inl g_8)), (k_web_, .inl (cy 1, 8, .inl k_web)), (k_asks_, .inl (cy 1, 8, .inl k_asks)), (k_threads_, .inl (cy 1, 64, .inl g_12)), (k_seen_, .inl (cy 1, 8, .inl k_seen))] := hD
    refine lv_iconst (v := 0) hx hb dX8_carry_34 (by decide) ?_
    refine o_wq hQ ?_
    exact q_iret (rm := (Rm 2 43 0 0)) C hS (g_7, g_8, g_12) rfl ⟨(show 0 ≤ (0 : Int32).toInt ∧ (0 : Int32).toInt ≤ 1 by decide), Rg_7_0, Rg_8_0⟩ (q_subP hP [0, 1, 2, 3, 4, 5, 6] rfl) (hD.sub [0, 1, 2, 3, 4, 5, 6] (by decide) rfl) hroom.1 hroom.2 dX8_carry_35
  · have hc_6 := o_ne (rfl : r_2.toInt = r_2.toInt) (by decide : ((-1) : Int32).toInt = -1) c_6
    have hnc_6 : 0 ≤ r_2.toInt := by rcases Int.lt_or_gt_of_ne hc_6 with h9 | h9 <;> omega
    refine lv_iconst (v := 1) hx hb dX8_carry_12 (by decide) ?_
    refine o_wq hQ ?_
    exact q_iret (rm := (Rm 2 43 0 0)) C hS (k_x, k_y, k_threads) rfl ⟨(show 0 ≤ (1 : Int32).toInt ∧ (1 : Int32).toInt ≤ 1 by decide), hR0, hR1⟩ (q_subP hP [0, 1, 2, 3, 4, 5, 6] rfl) (hD.sub [0, 1, 2, 3, 4, 5, 6] (by decide) rfl) hroom.1 hroom.2 dX8_carry_13
theorem o_carry (l : Launch) (D : va_G) (cy : Nat → ClassId) (k : Nat) (b : Int32) (a : Int32) (v : Int32) (w : Int32) (k_x_ : Nat) (k_y_ : Nat) (k_web_ : Nat) (k_asks_ : Nat) (k_threads_ : Nat) (k_today : Int32) (k_day : Int32) (k_seen_ : Nat) (k_x : Nat → Int32) (k_y : Nat → Int32) (k_web : Nat → Int32) (k_asks : Nat → Int32) (k_threads : Nat → Int32) (k_seen : Nat → Int32) (sz : Nat) (hb0 : 0 ≤ b.toInt ∧ b.toInt ≤ 8) (hb1 : 0 ≤ a.toInt ∧ a.toInt ≤ 7) (hb2 : 0 ≤ v.toInt ∧ v.toInt ≤ 5) (hb3 : 0 ≤ w.toInt ∧ w.toInt ≤ 5) (hR0 : Rg k_x 0 8 0 5) (hR1 : Rg k_y 0 8 0 5) : MI l yX8_carry cX8_carry 5 (some .int) (Rm 2 43 0 0) D cy [.ref k, .int b, .int a, .int v, .int w] sz [(k, .inr (8, [.ref k_x_, .ref k_y_, .ref k_web_, .ref k_asks_, .ref k_threads_, .int k_today, .int k_day, .ref k_seen_])), (k_x_, .inl (cy 1, 8, .inl k_x)), (k_y_, .inl (cy 1, 8, .inl k_y)), (k_web_, .inl (cy 1, 8, .inl k_web)), (k_asks_, .inl (cy 1, 8, .inl k_asks)), (k_threads_, .inl (cy 1, 64, .inl k_threads)), (k_seen_, .inl (cy 1, 8, .inl k_seen))] (fun (r : Int32) (u : (Nat → Int32) × (Nat → Int32) × (Nat → Int32)) => (0 ≤ r.toInt ∧ r.toInt ≤ 1) ∧ (Rg u.1 0 8 0 5) ∧ (Rg u.2.1 0 8 0 5)) (fun u : (Nat → Int32) × (Nat → Int32) × (Nat → Int32) => [(k, .inr (8, [.ref k_x_, .ref k_y_, .ref k_web_, .ref k_asks_, .ref k_threads_, .int k_today, .int k_day, .ref k_seen_])), (k_x_, .inl (cy 1, 8, .inl u.1)), (k_y_, .inl (cy 1, 8, .inl u.2.1)), (k_web_, .inl (cy 1, 8, .inl k_web)), (k_asks_, .inl (cy 1, 8, .inl k_asks)), (k_threads_, .inl (cy 1, 64, .inl u.2.2)), (k_seen_, .inl (cy 1, 8, .inl k_seen))]) := by
  refine MI.enter (by decide) (Nat.le_of_ble_eq_true rfl) ?_
  intro p e s m below meth c ls A hsz hAe C hP hD hS hl
  exact b_o_carry l D cy k b a v w k_x_ k_y_ k_web_ k_asks_ k_threads_ k_today k_day k_seen_ k_x k_y k_web k_asks k_threads k_seen hb0 hb1 hb2 hb3 hR0 hR1 ⟨Nat.le_of_ble_eq_true rfl, Nat.le_of_ble_eq_true rfl⟩ C rfl _ _ ls hP hD hS hl
set_option maxHeartbeats 4000000 in
set_option maxRecDepth 100000 in
theorem b_o_growWebs (l : Launch) (D : va_G) (cy : Nat → ClassId) (k : Nat) (h : Nat) (k_x_ : Nat) (k_y_ : Nat) (k_web_ : Nat) (k_asks_ : Nat) (k_threads_ : Nat) (k_today : Int32) (k_day : Int32) (k_seen_ : Nat) (k_x : Nat → Int32) (k_y : Nat → Int32) (k_web : Nat → Int32) (k_asks : Nat → Int32) (k_threads : Nat → Int32) (k_seen : Nat → Int32) (h_wide : Int32) (h_high : Int32) (h_law : Int32) (h_spin : Int32) (h_line : Int32) (h_draught : Int32) (h_books : Int32) (h_rare : Int32) (h_quarrels_ : Nat) (h_nameSizes_ : Nat) (h_names_ : Nat) (h_quarrels : Nat → Int32) (h_nameSizes : Nat → Int32) (h_names : Nat → Int32) (hb0 : 0 ≤ h_wide.toInt ∧ h_wide.toInt ≤ 6) (hb1 : 0 ≤ h_high.toInt ∧ h_high.toInt ≤ 6) (hb2 : 0 ≤ h_books.toInt ∧ h_books.toInt ≤ 8) (hR0 : Rg k_x 0 8 0 5) (hR1 : Rg k_y 0 8 0 5) (hR2 : Rg h_nameSizes 0 8 (-900) 7) {p : Program} {e : Env} {s : State} {m : MethodId} {args : Array Value} {below : List Frame} {meth : Method} {c : Code} {A : Nat → Prop} {Q : State → Prop} {cells slots : Nat} (hroom : cells ≤ ((Rm 1 30 0 0)).cells ∧ slots ≤ ((Rm 1 30 0 0)).slots) (C : Cx p s m args meth c cX8_growWebs 3 none RX8 "growWebs" D cy A) (hQ : Q = MQ below (va_Qv (fun u : (Nat → Int32) => True) (Bx D A (fun u : (Nat → Int32) => [(k, .inr (8, [.ref k_x_, .ref k_y_, .ref k_web_, .ref k_asks_, .ref k_threads_, .int k_today, .int k_day, .ref k_seen_])), (k_x_, .inl (cy 1, 8, .inl k_x)), (k_y_, .inl (cy 1, 8, .inl k_y)), (k_web_, .inl (cy 1, 8, .inl u)), (k_asks_, .inl (cy 1, 8, .inl k_asks)), (k_threads_, .inl (cy 1, 64, .inl k_threads)), (k_seen_, .inl (cy 1, 8, .inl k_seen)), (h, .inr (6, [.int h_wide, .int h_high, .int h_law, .int h_spin, .int h_line, .int h_draught, .int h_books, .int h_rare, .ref h_quarrels_, .ref h_nameSizes_, .ref h_names_])), (h_quarrels_, .inl (cy 1, 8, .inl h_quarrels)), (h_nameSizes_, .inl (cy 1, 8, .inl h_nameSizes)), (h_names_, .inl (cy 1, 56, .inl h_names))])) A) args s ((Rm 1 30 0 0)).cells ((Rm 1 30 0 0)).slots A) (H : Heap) (locs : List Loc) (ls : Array Slot) (hP : va_P D vwCl [(k, .inr (8, [.ref k_x_, .ref k_y_, .ref k_web_, .ref k_asks_, .ref k_threads_, .int k_today, .int k_day, .ref k_seen_])), (k_x_, .inl (cy 1, 8, .inl k_x)), (k_y_, .inl (cy 1, 8, .inl k_y)), (k_web_, .inl (cy 1, 8, .inl k_web)), (k_asks_, .inl (cy 1, 8, .inl k_asks)), (k_threads_, .inl (cy 1, 64, .inl k_threads)), (k_seen_, .inl (cy 1, 8, .inl k_seen)), (h, .inr (6, [.int h_wide, .int h_high, .int h_law, .int h_spin, .int h_line, .int h_draught, .int h_books, .int h_rare, .ref h_quarrels_, .ref h_nameSizes_, .ref h_names_])), (h_quarrels_, .inl (cy 1, 8, .inl h_quarrels)), (h_nameSizes_, .inl (cy 1, 8, .inl h_nameSizes)), (h_names_, .inl (cy 1, 56, .inl h_names))] H) (hD : va_D A [(k, .inr (8, [.ref k_x_, .ref k_y_, .ref k_web_, .ref k_asks_, .ref k_threads_, .int k_today, .int k_day, .ref k_seen_])), (k_x_, .inl (cy 1, 8, .inl k_x)), (k_y_, .inl (cy 1, 8, .inl k_y)), (k_web_, .inl (cy 1, 8, .inl k_web)), (k_asks_, .inl (cy 1, 8, .inl k_asks)), (k_threads_, .inl (cy 1, 64, .inl k_threads)), (k_seen_, .inl (cy 1, 8, .inl k_seen)), (h, .inr (6, [.int h_wide, .int h_high, .int h_law, .int h_spin, .int h_line, .int h_draught, .int h_books, .int h_rare, .ref h_quarrels_, .ref h_nameSizes_, .ref h_names_])), (h_quarrels_, .inl (cy 1, 8, .inl h_quarrels)), (h_nameSizes_, .inl (cy 1, 8, .inl h_nameSizes)), (h_names_, .inl (cy 1, 56, .inl h_names))]) (hS : va_S A s.heap H locs) (hl : lv_has ls 3 [(0, .ref k), (1, .ref h)]) : W p l e (Rm 1 30 0 0) s m args below meth c H locs cells slots Q (F0 m 0 ls []) := by
  have hx := C.1
  have hb := C.2.1
  refine lv_iconst (v := 0) hx hb dX8_growWebs_0 (by decide) ?_
  refine lv_istore_n (lv' := [(2, .int 0), (0, .ref k), (1, .ref h)]) hx hb dX8_growWebs_1 rfl hl (by decide) rfl (fun ls hl => ?_)
  have lp_2_2 : ∀ (n_3 : Nat) (x_1 : Int32) (g_2 : Nat → Int32) (H : Heap) (locs : List Loc) (ls : Array Slot), (-1) * x_1.toInt + 8 < (n_3 : Int) → (0 ≤ x_1.toInt ∧ x_1.toInt ≤ 8) → va_P D vwCl [(k, .inr (8, [.ref k_x_, .ref k_y_, .ref k_web_, .ref k_asks_, .ref k_threads_, .int k_today, .int k_day, .ref k_seen_])), (k_x_, .inl (cy 1, 8, .inl k_x)), (k_y_, .inl (cy 1, 8, .inl k_y)), (k_web_, .inl (cy 1, 8, .inl g_2)), (k_asks_, .inl (cy 1, 8, .inl k_asks)), (k_threads_, .inl (cy 1, 64, .inl k_threads)), (k_seen_, .inl (cy 1, 8, .inl k_seen)), (h, .inr (6, [.int h_wide, .int h_high, .int h_law, .int h_spin, .int h_line, .int h_draught, .int h_books, .int h_rare, .ref h_quarrels_, .ref h_nameSizes_, .ref h_names_])), (h_quarrels_, .inl (cy 1, 8, .inl h_quarrels)), (h_nameSizes_, .inl (cy 1, 8, .inl h_nameSizes)), (h_names_, .inl (cy 1, 56, .inl h_names))] H → va_D A [(k, .inr (8, [.ref k_x_, .ref k_y_, .ref k_web_, .ref k_asks_, .ref k_threads_, .int k_today, .int k_day, .ref k_seen_])), (k_x_, .inl (cy 1, 8, .inl k_x)), (k_y_, .inl (cy 1, 8, .inl k_y)), (k_web_, .inl (cy 1, 8, .inl g_2)), (k_asks_, .inl (cy 1, 8, .inl k_asks)), (k_threads_, .inl (cy 1, 64, .inl k_threads)), (k_seen_, .inl (cy 1, 8, .inl k_seen)), (h, .inr (6, [.int h_wide, .int h_high, .int h_law, .int h_spin, .int h_line, .int h_draught, .int h_books, .int h_rare, .ref h_quarrels_, .ref h_nameSizes_, .ref h_names_])), (h_quarrels_, .inl (cy 1, 8, .inl h_quarrels)), (h_nameSizes_, .inl (cy 1, 8, .inl h_nameSizes)), (h_names_, .inl (cy 1, 56, .inl h_names))] → va_S A s.heap H locs → lv_has ls 3 [(0, .ref k), (1, .ref h), (2, .int x_1)] → W p l e (Rm 1 30 0 0) s m args below meth c H locs cells slots Q (F0 m 2 ls []) := by
    intro n_3
    induction n_3 with
    | zero =>
      intro x_1 g_2 H locs ls hm_5 hf_4 hP hD hS hl
      exact absurd hm_5 (by omega)
    | succ n_3 ih_6 =>
      intro x_1 g_2 H locs ls hm_5 hf_4 hP hD hS hl
      refine lv_iload_n hx hb dX8_growWebs_2 rfl (lv_at hl 2 rfl) ?_
      refine lv_aload_n hx hb dX8_growWebs_3 rfl (lv_at hl 1 rfl) ?_
      refine q_get (v := .int h_books) C hP 7 6 rfl rfl inX6 (by decide) kF_RX8_53 rfl rfl dX8_growWebs_4 ?_
      refine lv_icmp_ge (tgt := 49) hx hb dX8_growWebs_7 (by decide) (fun c_8 => ?_) (fun c_8 => ?_)
      · have hc_8 := o_le (rfl : h_books.toInt = h_books.toInt) (rfl : x_1.toInt = x_1.toInt) c_8
        refine o_wq hQ ?_
        exact q_vret (rm := (Rm 1 30 0 0)) C hS g_2 trivial (q_subP hP [0, 1, 2, 3, 4, 5, 6, 7, 8, 9, 10] rfl) (hD.sub [0, 1, 2, 3, 4, 5, 6, 7, 8, 9, 10] (by decide) rfl) hroom.1 hroom.2 dX8_growWebs_49
      · have hc_8 := o_nle (rfl : h_books.toInt = h_books.toInt) (rfl : x_1.toInt = x_1.toInt) c_8
        refine lv_aload_n hx hb dX8_growWebs_10 rfl (lv_at hl 0 rfl) ?_
        refine q_get (v := .int k_today) C hP 0 5 rfl rfl inX8 (by decide) kF_RX8_27 rfl rfl dX8_growWebs_11 ?_
        refine lv_iload_n hx hb dX8_growWebs_14 rfl (lv_at hl 2 rfl) ?_
        refine q_ai (wr := [(k, .inr (8, [.ref k_x_, .ref k_y_, .ref k_web_, .ref k_asks_, .ref k_threads_, .int k_today, .int k_day, .ref k_seen_])), (k_x_, .inl (cy 1, 8, .inl k_x)), (k_y_, .inl (cy 1, 8, .inl k_y)), (k_web_, .inl (cy 1, 8, .inl g_2)), (k_asks_, .inl (cy 1, 8, .inl k_asks)), (k_threads_, .inl (cy 1, 64, .inl k_threads)), (k_seen_, .inl (cy 1, 8, .inl k_seen)), (h, .inr (6, [.int h_wide, .int h_high, .int h_law, .int h_spin, .int h_line, .int h_draught, .int h_books, .int h_rare, .ref h_quarrels_, .ref h_nameSizes_, .ref h_names_])), (h_quarrels_, .inl (cy 1, 8, .inl h_quarrels)), (h_nameSizes_, .inl (cy 1, 8, .inl h_nameSizes)), (h_names_, .inl (cy 1, 56, .inl h_names))]) (r_SN (rm := (Rm 0 0 0 0)) (As := [.int k_today, .int x_1]) (rest := []) (wc := []) C hS (q_subP hP [] rfl) (hD.sub [] (by decide) rfl) (o_bitOf l D cy k_today x_1 _ ) kwS_X10_bitOf kN_RX8_73 ⟨Nat.le_of_ble_eq_true rfl, Nat.le_of_ble_eq_true rfl⟩ rfl hl.1 rfl (Nat.le_of_ble_eq_true rfl) dX8_growWebs_15 ⟨hroom.1, hroom.2⟩) C.2.2.2.2.2.2.1 hP hD hS [] [0, 1, 2, 3, 4, 5, 6, 7, 8, 9, 10] rfl rfl (by decide) (by decide) (fun r_10 u_9 H locs hw_11 hP hD hS => ?_)
        have hp_11 : 0 ≤ r_10.toInt ∧ r_10.toInt ≤ 1 := hw_11.1
        have hp_12 : Hd ((r_10.toInt = 1 ∧ bt k_today x_1 = 1) ∨ (r_10.toInt = 0 ∧ bt k_today x_1 ≠ 1)) := hw_11.2
        refine lv_if_ne (tgt := 43) hx hb dX8_growWebs_18 (by decide) (fun c_14 => ?_) (fun c_14 => ?_)
        · have hc_14 := o_ne (rfl : r_10.toInt = r_10.toInt) (by decide : (0 : Int32).toInt = 0) c_14
          have hnc_14 : 0 ≤ r_10.toInt + (-1) := by rcases Int.lt_or_gt_of_ne hc_14 with h9 | h9 <;> omega
          have hd_14 : Hd (r_10.toInt = 1 ∧ bt k_today x_1 = 1) := (Hd.un hp_12).resolve_right (fun z9 => by omega)
          have hd_14_0 : r_10.toInt = 1 := (Hd.un hd_14).1
          obtain ⟨z_16, hz_16⟩ : ∃ z : Int32, z = x_1 + 1 := ⟨_, rfl⟩
          refine lv_iinc (v := z_16) (lv' := [(2, .int z_16), (0, .ref k), (1, .ref h)]) hx hb dX8_growWebs_43 hl (k := 2) rfl hz_16.symm (by decide) rfl (fun ls hl => ?_)
          have hz_16 := o_add hz_16 (rfl : x_1.toInt = x_1.toInt) (by decide : (1 : Int32).toInt = 1) (by omega) (by omega)
          refine lv_goto (tgt := 2) hx hb dX8_growWebs_46 (by decide) ?_
          exact ih_6 z_16 g_2 H locs ls (by omega) (by omega) hP hD hS (lv_sub hl [1, 2, 0] rfl)
        · have hc_14 := o_eq (rfl : r_10.toInt = r_10.toInt) (by decide : (0 : Int32).toInt = 0) c_14
          have hd_16 : Hd (r_10.toInt = 0 ∧ bt k_today x_1 ≠ 1) := (Hd.un hp_12).resolve_left (fun z9 => by omega)
          have hd_16_0 : r_10.toInt = 0 := (Hd.un hd_16).1
          refine lv_aload_n hx hb dX8_growWebs_21 rfl (lv_at hl 0 rfl) ?_
          refine q_get (v := .ref k_web_) C hP 0 2 rfl rfl inX8 (by decide) kF_RX8_18 rfl rfl dX8_growWebs_22 ?_
          refine lv_iload_n hx hb dX8_growWebs_25 rfl (lv_at hl 2 rfl) ?_
          refine lv_bipush (v := 99) hx hb dX8_growWebs_26 (by decide) ?_
          refine lv_aload_n hx hb dX8_growWebs_28 rfl (lv_at hl 0 rfl) ?_
          refine q_get (v := .ref k_web_) C hP 0 2 rfl rfl inX8 (by decide) kF_RX8_18 rfl rfl dX8_growWebs_29 ?_
          refine lv_iload_n hx hb dX8_growWebs_32 rfl (lv_at hl 2 rfl) ?_
          refine q_iald (v := g_2 x_1.toNatClampNeg) C hP 3 rfl (o_in (rfl : x_1.toInt = x_1.toInt) (by omega) (by omega)) rfl dX8_growWebs_33 ?_
          refine lv_topi (fun z_18 ez_18 => ?_)
          refine lv_aload_n hx hb dX8_growWebs_34 rfl (lv_at hl 1 rfl) ?_
          refine q_get (v := .int h_spin) C hP 7 3 rfl rfl inX6 (by decide) kF_RX8_109 rfl rfl dX8_growWebs_35 ?_
          refine lv_iadd hx hb dX8_growWebs_38 ?_
          refine lv_topi (fun z_19 hz_19 => ?_)
          clear hz_19
          refine q_mmin C hl.1 kM_RX8_91 (Nat.le_of_ble_eq_true rfl) (Nat.le_of_ble_eq_true rfl) hroom.1 hroom.2 dX8_growWebs_39 ?_
          refine lv_topi (fun z_20 hz_20 => ?_)
          have hz_20 := o_min hz_20 (by decide : (99 : Int32).toInt = 99) (rfl : z_19.toInt = z_19.toInt)
          refine q_iast (g := upd g_2 x_1.toNatClampNeg z_20) (w' := [(k, .inr (8, [.ref k_x_, .ref k_y_, .ref k_web_, .ref k_asks_, .ref k_threads_, .int k_today, .int k_day, .ref k_seen_])), (k_x_, .inl (cy 1, 8, .inl k_x)), (k_y_, .inl (cy 1, 8, .inl k_y)), (k_web_, .inl (cy 1, 8, .inl (upd g_2 x_1.toNatClampNeg z_20))), (k_asks_, .inl (cy 1, 8, .inl k_asks)), (k_threads_, .inl (cy 1, 64, .inl k_threads)), (k_seen_, .inl (cy 1, 8, .inl k_seen)), (h, .inr (6, [.int h_wide, .int h_high, .int h_law, .int h_spin, .int h_line, .int h_draught, .int h_books, .int h_rare, .ref h_quarrels_, .ref h_nameSizes_, .ref h_names_])), (h_quarrels_, .inl (cy 1, 8, .inl h_quarrels)), (h_nameSizes_, .inl (cy 1, 8, .inl h_nameSizes)), (h_names_, .inl (cy 1, 56, .inl h_names))]) C hP hD hS 3 rfl (o_in (rfl : x_1.toInt = x_1.toInt) (by omega) (by omega)) rfl rfl dX8_growWebs_42 (fun H locs hP hD hS => ?_)
          generalize upd g_2 x_1.toNatClampNeg z_20 = g_21 at hP hD 
          have hP : va_P D vwCl [(k, .inr (8, [.ref k_x_, .ref k_y_, .ref k_web_, .ref k_asks_, .ref k_threads_, .int k_today, .int k_day, .ref k_seen_])), (k_x_, .inl (cy 1, 8, .inl k_x)), (k_y_, .inl (cy 1, 8, .inl k_y)), (k_web_, .inl (cy 1, 8, .inl g_21)), (k_asks_, .inl (cy 1, 8, .inl k_asks)), (k_threads_, .inl (cy 1, 64, .inl k_threads)), (k_seen_, .inl (cy 1, 8, .inl k_seen)), (h, .inr (6, [.int h_wide, .int h_high, .int h_law, .int h_spin, .int h_line, .int h_draught, .int h_books, .int h_rare, .ref h_quarrels_, .ref h_nameSizes_, .ref h_names_])), (h_quarrels_, .inl (cy 1, 8, .inl h_quarrels)), (h_nameSizes_, .inl (cy 1, 8, .inl h_nameSizes)), (h_names_, .inl (cy 1, 56, .inl h_names))] H := hP
          have hD : va_D A [(k, .inr (8, [.ref k_x_, .ref k_y_, .ref k_web_, .ref k_asks_, .ref k_threads_, .int k_today, .int k_day, .ref k_seen_])), (k_x_, .inl (cy 1, 8, .inl k_x)), (k_y_, .inl (cy 1, 8, .inl k_y)), (k_web_, .inl (cy 1, 8, .inl g_21)), (k_asks_, .inl (cy 1, 8, .inl k_asks)), (k_threads_, .inl (cy 1, 64, .inl k_threads)), (k_seen_, .inl (cy 1, 8, .inl k_seen)), (h, .inr (6, [.int h_wide, .int h_high, .int h_law, .int h_spin, .int h_line, .int h_draught, .int h_books, .int h_rare, .ref h_quarrels_, .ref h_nameSizes_, .ref h_names_])), (h_quarrels_, .inl (cy 1, 8, .inl h_quarrels)), (h_nameSizes_, .inl (cy 1, 8, .inl h_nameSizes)), (h_names_, .inl (cy 1, 56, .inl h_names))] := hD
          obtain ⟨z_22, hz_22⟩ : ∃ z : Int32, z = x_1 + 1 := ⟨_, rfl⟩
          refine lv_iinc (v := z_22) (lv' := [(2, .int z_22), (0, .ref k), (1, .ref h)]) hx hb dX8_growWebs_43 hl (k := 2) rfl hz_22.symm (by decide) rfl (fun ls hl => ?_)
          have hz_22 := o_add hz_22 (rfl : x_1.toInt = x_1.toInt) (by decide : (1 : Int32).toInt = 1) (by omega) (by omega)
          refine lv_goto (tgt := 2) hx hb dX8_growWebs_46 (by decide) ?_
          exact ih_6 z_22 g_21 H locs ls (by omega) (by omega) hP hD hS (lv_sub hl [1, 2, 0] rfl)
  exact lp_2_2 9 (0 : Int32) k_web H locs ls (by have e0 : (0 : Int32).toInt = 0 := (by decide); omega) (by have e0 : (0 : Int32).toInt = 0 := (by decide); omega) hP hD hS (lv_sub hl [1, 2, 0] rfl)
theorem o_growWebs (l : Launch) (D : va_G) (cy : Nat → ClassId) (k : Nat) (h : Nat) (k_x_ : Nat) (k_y_ : Nat) (k_web_ : Nat) (k_asks_ : Nat) (k_threads_ : Nat) (k_today : Int32) (k_day : Int32) (k_seen_ : Nat) (k_x : Nat → Int32) (k_y : Nat → Int32) (k_web : Nat → Int32) (k_asks : Nat → Int32) (k_threads : Nat → Int32) (k_seen : Nat → Int32) (h_wide : Int32) (h_high : Int32) (h_law : Int32) (h_spin : Int32) (h_line : Int32) (h_draught : Int32) (h_books : Int32) (h_rare : Int32) (h_quarrels_ : Nat) (h_nameSizes_ : Nat) (h_names_ : Nat) (h_quarrels : Nat → Int32) (h_nameSizes : Nat → Int32) (h_names : Nat → Int32) (sz : Nat) (hb0 : 0 ≤ h_wide.toInt ∧ h_wide.toInt ≤ 6) (hb1 : 0 ≤ h_high.toInt ∧ h_high.toInt ≤ 6) (hb2 : 0 ≤ h_books.toInt ∧ h_books.toInt ≤ 8) (hR0 : Rg k_x 0 8 0 5) (hR1 : Rg k_y 0 8 0 5) (hR2 : Rg h_nameSizes 0 8 (-900) 7) : MV l yX8_growWebs cX8_growWebs 3 (Rm 1 30 0 0) D cy [.ref k, .ref h] sz [(k, .inr (8, [.ref k_x_, .ref k_y_, .ref k_web_, .ref k_asks_, .ref k_threads_, .int k_today, .int k_day, .ref k_seen_])), (k_x_, .inl (cy 1, 8, .inl k_x)), (k_y_, .inl (cy 1, 8, .inl k_y)), (k_web_, .inl (cy 1, 8, .inl k_web)), (k_asks_, .inl (cy 1, 8, .inl k_asks)), (k_threads_, .inl (cy 1, 64, .inl k_threads)), (k_seen_, .inl (cy 1, 8, .inl k_seen)), (h, .inr (6, [.int h_wide, .int h_high, .int h_law, .int h_spin, .int h_line, .int h_draught, .int h_books, .int h_rare, .ref h_quarrels_, .ref h_nameSizes_, .ref h_names_])), (h_quarrels_, .inl (cy 1, 8, .inl h_quarrels)), (h_nameSizes_, .inl (cy 1, 8, .inl h_nameSizes)), (h_names_, .inl (cy 1, 56, .inl h_names))] (fun u : (Nat → Int32) => True) (fun u : (Nat → Int32) => [(k, .inr (8, [.ref k_x_, .ref k_y_, .ref k_web_, .ref k_asks_, .ref k_threads_, .int k_today, .int k_day, .ref k_seen_])), (k_x_, .inl (cy 1, 8, .inl k_x)), (k_y_, .inl (cy 1, 8, .inl k_y)), (k_web_, .inl (cy 1, 8, .inl u)), (k_asks_, .inl (cy 1, 8, .inl k_asks)), (k_threads_, .inl (cy 1, 64, .inl k_threads)), (k_seen_, .inl (cy 1, 8, .inl k_seen)), (h, .inr (6, [.int h_wide, .int h_high, .int h_law, .int h_spin, .int h_line, .int h_draught, .int h_books, .int h_rare, .ref h_quarrels_, .ref h_nameSizes_, .ref h_names_])), (h_quarrels_, .inl (cy 1, 8, .inl h_quarrels)), (h_nameSizes_, .inl (cy 1, 8, .inl h_nameSizes)), (h_names_, .inl (cy 1, 56, .inl h_names))]) := by
  refine MV.enter (by decide) (Nat.le_of_ble_eq_true rfl) ?_
  intro p e s m below meth c ls A hsz hAe C hP hD hS hl
  exact b_o_growWebs l D cy k h k_x_ k_y_ k_web_ k_asks_ k_threads_ k_today k_day k_seen_ k_x k_y k_web k_asks k_threads k_seen h_wide h_high h_law h_spin h_line h_draught h_books h_rare h_quarrels_ h_nameSizes_ h_names_ h_quarrels h_nameSizes h_names hb0 hb1 hb2 hR0 hR1 hR2 ⟨Nat.le_of_ble_eq_true rfl, Nat.le_of_ble_eq_true rfl⟩ C rfl _ _ ls hP hD hS hl
set_option maxHeartbeats 4000000 in
set_option maxRecDepth 100000 in
theorem b_o_growThreads (l : Launch) (D : va_G) (cy : Nat → ClassId) (k : Nat) (b : Int32) (k_x_ : Nat) (k_y_ : Nat) (k_web_ : Nat) (k_asks_ : Nat) (k_threads_ : Nat) (k_today : Int32) (k_day : Int32) (k_seen_ : Nat) (k_x : Nat → Int32) (k_y : Nat → Int32) (k_web : Nat → Int32) (k_asks : Nat → Int32) (k_threads : Nat → Int32) (k_seen : Nat → Int32) (hb0 : 0 ≤ b.toInt ∧ b.toInt ≤ 8) (hR0 : Rg k_x 0 8 0 5) (hR1 : Rg k_y 0 8 0 5) {p : Program} {e : Env} {s : State} {m : MethodId} {args : Array Value} {below : List Frame} {meth : Method} {c : Code} {A : Nat → Prop} {Q : State → Prop} {cells slots : Nat} (hroom : cells ≤ ((Rm 2 44 0 0)).cells ∧ slots ≤ ((Rm 2 44 0 0)).slots) (C : Cx p s m args meth c cX8_growThreads 5 none RX8 "growThreads" D cy A) (hQ : Q = MQ below (va_Qv (fun u : (Nat → Int32) => True) (Bx D A (fun u : (Nat → Int32) => [(k, .inr (8, [.ref k_x_, .ref k_y_, .ref k_web_, .ref k_asks_, .ref k_threads_, .int k_today, .int k_day, .ref k_seen_])), (k_x_, .inl (cy 1, 8, .inl k_x)), (k_y_, .inl (cy 1, 8, .inl k_y)), (k_web_, .inl (cy 1, 8, .inl k_web)), (k_asks_, .inl (cy 1, 8, .inl k_asks)), (k_threads_, .inl (cy 1, 64, .inl u)), (k_seen_, .inl (cy 1, 8, .inl k_seen))])) A) args s ((Rm 2 44 0 0)).cells ((Rm 2 44 0 0)).slots A) (H : Heap) (locs : List Loc) (ls : Array Slot) (hP : va_P D vwCl [(k, .inr (8, [.ref k_x_, .ref k_y_, .ref k_web_, .ref k_asks_, .ref k_threads_, .int k_today, .int k_day, .ref k_seen_])), (k_x_, .inl (cy 1, 8, .inl k_x)), (k_y_, .inl (cy 1, 8, .inl k_y)), (k_web_, .inl (cy 1, 8, .inl k_web)), (k_asks_, .inl (cy 1, 8, .inl k_asks)), (k_threads_, .inl (cy 1, 64, .inl k_threads)), (k_seen_, .inl (cy 1, 8, .inl k_seen))] H) (hD : va_D A [(k, .inr (8, [.ref k_x_, .ref k_y_, .ref k_web_, .ref k_asks_, .ref k_threads_, .int k_today, .int k_day, .ref k_seen_])), (k_x_, .inl (cy 1, 8, .inl k_x)), (k_y_, .inl (cy 1, 8, .inl k_y)), (k_web_, .inl (cy 1, 8, .inl k_web)), (k_asks_, .inl (cy 1, 8, .inl k_asks)), (k_threads_, .inl (cy 1, 64, .inl k_threads)), (k_seen_, .inl (cy 1, 8, .inl k_seen))]) (hS : va_S A s.heap H locs) (hl : lv_has ls 5 [(0, .ref k), (1, .int b)]) : W p l e (Rm 2 44 0 0) s m args below meth c H locs cells slots Q (F0 m 0 ls []) := by
  have hx := C.1
  have hb := C.2.1
  refine lv_iconst (v := 0) hx hb dX8_growThreads_0 (by decide) ?_
  refine lv_istore_n (lv' := [(2, .int 0), (0, .ref k), (1, .int b)]) hx hb dX8_growThreads_1 rfl hl (by decide) rfl (fun ls hl => ?_)
  have lp_2_2 : ∀ (n_3 : Nat) (x_1 : Int32) (g_2 : Nat → Int32) (H : Heap) (locs : List Loc) (ls : Array Slot), (-1) * x_1.toInt + 8 < (n_3 : Int) → (0 ≤ x_1.toInt ∧ x_1.toInt ≤ 8) → va_P D vwCl [(k, .inr (8, [.ref k_x_, .ref k_y_, .ref k_web_, .ref k_asks_, .ref k_threads_, .int k_today, .int k_day, .ref k_seen_])), (k_x_, .inl (cy 1, 8, .inl k_x)), (k_y_, .inl (cy 1, 8, .inl k_y)), (k_web_, .inl (cy 1, 8, .inl k_web)), (k_asks_, .inl (cy 1, 8, .inl k_asks)), (k_threads_, .inl (cy 1, 64, .inl g_2)), (k_seen_, .inl (cy 1, 8, .inl k_seen))] H → va_D A [(k, .inr (8, [.ref k_x_, .ref k_y_, .ref k_web_, .ref k_asks_, .ref k_threads_, .int k_today, .int k_day, .ref k_seen_])), (k_x_, .inl (cy 1, 8, .inl k_x)), (k_y_, .inl (cy 1, 8, .inl k_y)), (k_web_, .inl (cy 1, 8, .inl k_web)), (k_asks_, .inl (cy 1, 8, .inl k_asks)), (k_threads_, .inl (cy 1, 64, .inl g_2)), (k_seen_, .inl (cy 1, 8, .inl k_seen))] → va_S A s.heap H locs → lv_has ls 5 [(0, .ref k), (1, .int b), (2, .int x_1)] → W p l e (Rm 2 44 0 0) s m args below meth c H locs cells slots Q (F0 m 2 ls []) := by
    intro n_3
    induction n_3 with
    | zero =>
      intro x_1 g_2 H locs ls hm_5 hf_4 hP hD hS hl
      exact absurd hm_5 (by omega)
    | succ n_3 ih_6 =>
      intro x_1 g_2 H locs ls hm_5 hf_4 hP hD hS hl
      refine lv_iload_n hx hb dX8_growThreads_2 rfl (lv_at hl 2 rfl) ?_
      refine lv_iload_n hx hb dX8_growThreads_3 rfl (lv_at hl 1 rfl) ?_
      refine lv_icmp_ge (tgt := 95) hx hb dX8_growThreads_4 (by decide) (fun c_8 => ?_) (fun c_8 => ?_)
      · have hc_8 := o_le (rfl : b.toInt = b.toInt) (rfl : x_1.toInt = x_1.toInt) c_8
        refine o_wq hQ ?_
        exact q_vret (rm := (Rm 2 44 0 0)) C hS g_2 trivial (q_subP hP [0, 1, 2, 3, 4, 5, 6] rfl) (hD.sub [0, 1, 2, 3, 4, 5, 6] (by decide) rfl) hroom.1 hroom.2 dX8_growThreads_95
      · have hc_8 := o_nle (rfl : b.toInt = b.toInt) (rfl : x_1.toInt = x_1.toInt) c_8
        refine lv_aload_n hx hb dX8_growThreads_7 rfl (lv_at hl 0 rfl) ?_
        refine q_get (v := .int k_today) C hP 0 5 rfl rfl inX8 (by decide) kF_RX8_27 rfl rfl dX8_growThreads_8 ?_
        refine lv_iload_n hx hb dX8_growThreads_11 rfl (lv_at hl 2 rfl) ?_
        refine q_ai (wr := [(k, .inr (8, [.ref k_x_, .ref k_y_, .ref k_web_, .ref k_asks_, .ref k_threads_, .int k_today, .int k_day, .ref k_seen_])), (k_x_, .inl (cy 1, 8, .inl k_x)), (k_y_, .inl (cy 1, 8, .inl k_y)), (k_web_, .inl (cy 1, 8, .inl k_web)), (k_asks_, .inl (cy 1, 8, .inl k_asks)), (k_threads_, .inl (cy 1, 64, .inl g_2)), (k_seen_, .inl (cy 1, 8, .inl k_seen))]) (r_SN (rm := (Rm 0 0 0 0)) (As := [.int k_today, .int x_1]) (rest := []) (wc := []) C hS (q_subP hP [] rfl) (hD.sub [] (by decide) rfl) (o_bitOf l D cy k_today x_1 _ ) kwS_X10_bitOf kN_RX8_73 ⟨Nat.le_of_ble_eq_true rfl, Nat.le_of_ble_eq_true rfl⟩ rfl hl.1 rfl (Nat.le_of_ble_eq_true rfl) dX8_growThreads_12 ⟨hroom.1, hroom.2⟩) C.2.2.2.2.2.2.1 hP hD hS [] [0, 1, 2, 3, 4, 5, 6] rfl rfl (by decide) (by decide) (fun r_10 u_9 H locs hw_11 hP hD hS => ?_)
        have hp_11 : 0 ≤ r_10.toInt ∧ r_10.toInt ≤ 1 := hw_11.1
        have hp_12 : Hd ((r_10.toInt = 1 ∧ bt k_today x_1 = 1) ∨ (r_10.toInt = 0 ∧ bt k_today x_1 ≠ 1)) := hw_11.2
        refine lv_iconst (v := 1) hx hb dX8_growThreads_15 (by decide) ?_
        refine lv_icmp_ne (tgt := 23) hx hb dX8_growThreads_16 (by decide) (fun c_14 => ?_) (fun c_14 => ?_)
        · have hc_14 := o_ne (rfl : r_10.toInt = r_10.toInt) (by decide : (1 : Int32).toInt = 1) c_14
          have hnc_14 : 0 ≤ (-1) * r_10.toInt := by rcases Int.lt_or_gt_of_ne hc_14 with h9 | h9 <;> omega
          have hd_14 : Hd (r_10.toInt = 0 ∧ bt k_today x_1 ≠ 1) := (Hd.un hp_12).resolve_left (fun z9 => by omega)
          have hd_14_0 : r_10.toInt = 0 := (Hd.un hd_14).1
          refine lv_aload_n hx hb dX8_growThreads_23 rfl (lv_at hl 0 rfl) ?_
          refine q_get (v := .ref k_seen_) C hP 0 7 rfl rfl inX8 (by decide) kF_RX8_34 rfl rfl dX8_growThreads_24 ?_
          refine lv_iload_n hx hb dX8_growThreads_27 rfl (lv_at hl 2 rfl) ?_
          refine q_iald (v := k_seen x_1.toNatClampNeg) C hP 6 rfl (o_in (rfl : x_1.toInt = x_1.toInt) (by omega) (by omega)) rfl dX8_growThreads_28 ?_
          refine lv_topi (fun z_16 ez_16 => ?_)
          refine lv_aload_n hx hb dX8_growThreads_29 rfl (lv_at hl 0 rfl) ?_
          refine q_get (v := .int k_today) C hP 0 5 rfl rfl inX8 (by decide) kF_RX8_27 rfl rfl dX8_growThreads_30 ?_
          refine lv_iconst (v := (-1)) hx hb dX8_growThreads_33 (by decide) ?_
          refine lv_ixor hx hb dX8_growThreads_34 ?_
          refine lv_topi (fun z_17 hz_17 => ?_)
          clear hz_17
          refine lv_iand hx hb dX8_growThreads_35 ?_
          refine lv_topi (fun z_18 hz_18 => ?_)
          clear hz_18
          refine lv_istore_n (lv' := [(3, .int z_18), (0, .ref k), (1, .int b), (2, .int x_1)]) hx hb dX8_growThreads_36 rfl hl (by decide) rfl (fun ls hl => ?_)
          refine lv_iload_n hx hb dX8_growThreads_37 rfl (lv_at hl 3 rfl) ?_
          refine lv_iconst (v := 1) hx hb dX8_growThreads_38 (by decide) ?_
          refine lv_iadd hx hb dX8_growThreads_39 ?_
          refine lv_topi (fun z_19 hz_19 => ?_)
          have hz_19 := o_add hz_19 (rfl : x_1.toInt = x_1.toInt) (by decide : (1 : Int32).toInt = 1) (by omega) (by omega)
          refine lv_istore (lv' := [(4, .int z_19), (3, .int z_18), (0, .ref k), (1, .int b), (2, .int x_1)]) hx hb dX8_growThreads_40 hl (by decide) rfl (fun ls hl => ?_)
          have lp_42_21 : ∀ (n_22 : Nat) (x_20 : Int32) (g_21 : Nat → Int32) (H : Heap) (locs : List Loc) (ls : Array Slot), (-1) * x_20.toInt + 8 < (n_22 : Int) → (1 ≤ x_20.toInt ∧ x_20.toInt ≤ 8) → va_P D vwCl [(k, .inr (8, [.ref k_x_, .ref k_y_, .ref k_web_, .ref k_asks_, .ref k_threads_, .int k_today, .int k_day, .ref k_seen_])), (k_x_, .inl (cy 1, 8, .inl k_x)), (k_y_, .inl (cy 1, 8, .inl k_y)), (k_web_, .inl (cy 1, 8, .inl k_web)), (k_asks_, .inl (cy 1, 8, .inl k_asks)), (k_threads_, .inl (cy 1, 64, .inl g_21)), (k_seen_, .inl (cy 1, 8, .inl k_seen))] H → va_D A [(k, .inr (8, [.ref k_x_, .ref k_y_, .ref k_web_, .ref k_asks_, .ref k_threads_, .int k_today, .int k_day, .ref k_seen_])), (k_x_, .inl (cy 1, 8, .inl k_x)), (k_y_, .inl (cy 1, 8, .inl k_y)), (k_web_, .inl (cy 1, 8, .inl k_web)), (k_asks_, .inl (cy 1, 8, .inl k_asks)), (k_threads_, .inl (cy 1, 64, .inl g_21)), (k_seen_, .inl (cy 1, 8, .inl k_seen))] → va_S A s.heap H locs → lv_has ls 5 [(0, .ref k), (1, .int b), (2, .int x_1), (3, .int z_18), (4, .int x_20)] → W p l e (Rm 2 44 0 0) s m args below meth c H locs cells slots Q (F0 m 42 ls []) := by
            intro n_22
            induction n_22 with
            | zero =>
              intro x_20 g_21 H locs ls hm_24 hf_23 hP hD hS hl
              exact absurd hm_24 (by omega)
            | succ n_22 ih_25 =>
              intro x_20 g_21 H locs ls hm_24 hf_23 hP hD hS hl
              refine lv_iload hx hb dX8_growThreads_42 (lv_at hl 4 rfl) ?_
              refine lv_iload_n hx hb dX8_growThreads_44 rfl (lv_at hl 1 rfl) ?_
              refine lv_icmp_ge (tgt := 89) hx hb dX8_growThreads_45 (by decide) (fun c_27 => ?_) (fun c_27 => ?_)
              · have hc_27 := o_le (rfl : b.toInt = b.toInt) (rfl : x_20.toInt = x_20.toInt) c_27
                obtain ⟨z_28, hz_28⟩ : ∃ z : Int32, z = x_1 + 1 := ⟨_, rfl⟩
                refine lv_iinc (v := z_28) (lv' := [(2, .int z_28), (0, .ref k), (1, .int b), (3, .int z_18), (4, .int x_20)]) hx hb dX8_growThreads_89 hl (k := 2) rfl hz_28.symm (by decide) rfl (fun ls hl => ?_)
                have hz_28 := o_add hz_28 (rfl : x_1.toInt = x_1.toInt) (by decide : (1 : Int32).toInt = 1) (by omega) (by omega)
                refine lv_goto (tgt := 2) hx hb dX8_growThreads_92 (by decide) ?_
                exact ih_6 z_28 g_21 H locs ls (by omega) (by omega) hP hD hS (lv_sub hl [1, 2, 0] rfl)
              · have hc_27 := o_nle (rfl : b.toInt = b.toInt) (rfl : x_20.toInt = x_20.toInt) c_27
                refine lv_iload_n hx hb dX8_growThreads_48 rfl (lv_at hl 3 rfl) ?_
                refine lv_iload hx hb dX8_growThreads_49 (lv_at hl 4 rfl) ?_
                refine q_ai (wr := [(k, .inr (8, [.ref k_x_, .ref k_y_, .ref k_web_, .ref k_asks_, .ref k_threads_, .int k_today, .int k_day, .ref k_seen_])), (k_x_, .inl (cy 1, 8, .inl k_x)), (k_y_, .inl (cy 1, 8, .inl k_y)), (k_web_, .inl (cy 1, 8, .inl k_web)), (k_asks_, .inl (cy 1, 8, .inl k_asks)), (k_threads_, .inl (cy 1, 64, .inl g_21)), (k_seen_, .inl (cy 1, 8, .inl k_seen))]) (r_SN (rm := (Rm 0 0 0 0)) (As := [.int z_18, .int x_20]) (rest := []) (wc := []) C hS (q_subP hP [] rfl) (hD.sub [] (by decide) rfl) (o_bitOf l D cy z_18 x_20 _ ) kwS_X10_bitOf kN_RX8_73 ⟨Nat.le_of_ble_eq_true rfl, Nat.le_of_ble_eq_true rfl⟩ rfl hl.1 rfl (Nat.le_of_ble_eq_true rfl) dX8_growThreads_51 ⟨hroom.1, hroom.2⟩) C.2.2.2.2.2.2.1 hP hD hS [] [0, 1, 2, 3, 4, 5, 6] rfl rfl (by decide) (by decide) (fun r_30 u_29 H locs hw_31 hP hD hS => ?_)
                have hp_31 : 0 ≤ r_30.toInt ∧ r_30.toInt ≤ 1 := hw_31.1
                have hp_32 : Hd ((r_30.toInt = 1 ∧ bt z_18 x_20 = 1) ∨ (r_30.toInt = 0 ∧ bt z_18 x_20 ≠ 1)) := hw_31.2
                refine lv_iconst (v := 1) hx hb dX8_growThreads_54 (by decide) ?_
                refine lv_icmp_ne (tgt := 83) hx hb dX8_growThreads_55 (by decide) (fun c_34 => ?_) (fun c_34 => ?_)
                · have hc_34 := o_ne (rfl : r_30.toInt = r_30.toInt) (by decide : (1 : Int32).toInt = 1) c_34
                  have hnc_34 : 0 ≤ (-1) * r_30.toInt := by rcases Int.lt_or_gt_of_ne hc_34 with h9 | h9 <;> omega
                  have hd_34 : Hd (r_30.toInt = 0 ∧ bt z_18 x_20 ≠ 1) := (Hd.un hp_32).resolve_left (fun z9 => by omega)
                  have hd_34_0 : r_30.toInt = 0 := (Hd.un hd_34).1
                  obtain ⟨z_36, hz_36⟩ : ∃ z : Int32, z = x_20 + 1 := ⟨_, rfl⟩
                  refine lv_iinc (v := z_36) (lv' := [(4, .int z_36), (0, .ref k), (1, .int b), (2, .int x_1), (3, .int z_18)]) hx hb dX8_growThreads_83 hl (k := 4) rfl hz_36.symm (by decide) rfl (fun ls hl => ?_)
                  have hz_36 := o_add hz_36 (rfl : x_20.toInt = x_20.toInt) (by decide : (1 : Int32).toInt = 1) (by omega) (by omega)
                  refine lv_goto (tgt := 42) hx hb dX8_growThreads_86 (by decide) ?_
                  exact ih_25 z_36 g_21 H locs ls (by omega) (by omega) hP hD hS (lv_sub hl [1, 2, 3, 4, 0] rfl)
                · have hc_34 := o_eq (rfl : r_30.toInt = r_30.toInt) (by decide : (1 : Int32).toInt = 1) c_34
                  have hd_36 : Hd (r_30.toInt = 1 ∧ bt z_18 x_20 = 1) := (Hd.un hp_32).resolve_right (fun z9 => by omega)
                  have hd_36_0 : r_30.toInt = 1 := (Hd.un hd_36).1
                  refine lv_aload_n hx hb dX8_growThreads_58 rfl (lv_at hl 0 rfl) ?_
                  refine lv_iload_n hx hb dX8_growThreads_59 rfl (lv_at hl 2 rfl) ?_
                  refine lv_iload hx hb dX8_growThreads_60 (lv_at hl 4 rfl) ?_
                  refine lv_bipush (v := 99) hx hb dX8_growThreads_62 (by decide) ?_
                  refine lv_aload_n hx hb dX8_growThreads_64 rfl (lv_at hl 0 rfl) ?_
                  refine q_get (v := .ref k_threads_) C hP 0 4 rfl rfl inX8 (by decide) kF_RX8_24 rfl rfl dX8_growThreads_65 ?_
                  refine lv_iload_n hx hb dX8_growThreads_68 rfl (lv_at hl 2 rfl) ?_
                  refine lv_iload hx hb dX8_growThreads_69 (lv_at hl 4 rfl) ?_
                  refine q_ai (wr := [(k, .inr (8, [.ref k_x_, .ref k_y_, .ref k_web_, .ref k_asks_, .ref k_threads_, .int k_today, .int k_day, .ref k_seen_])), (k_x_, .inl (cy 1, 8, .inl k_x)), (k_y_, .inl (cy 1, 8, .inl k_y)), (k_web_, .inl (cy 1, 8, .inl k_web)), (k_asks_, .inl (cy 1, 8, .inl k_asks)), (k_threads_, .inl (cy 1, 64, .inl g_21)), (k_seen_, .inl (cy 1, 8, .inl k_seen))]) (r_SN (rm := (Rm 0 0 0 0)) (As := [.int x_1, .int x_20]) (rest := [.ref k_threads_, .int 99, .int x_20, .int x_1, .ref k]) (wc := []) C hS (q_subP hP [] rfl) (hD.sub [] (by decide) rfl) (o_pairPlace l D cy x_1 x_20 _ (by omega) (by omega)) kwS_X10_pairPlace kN_RX8_66 ⟨Nat.le_of_ble_eq_true rfl, Nat.le_of_ble_eq_true rfl⟩ rfl hl.1 rfl (Nat.le_of_ble_eq_true rfl) dX8_growThreads_71 ⟨hroom.1, hroom.2⟩) C.2.2.2.2.2.2.1 hP hD hS [] [0, 1, 2, 3, 4, 5, 6] rfl rfl (by decide) (by decide) (fun r_39 u_38 H locs hw_40 hP hD hS => ?_)
                  have hp_40 : 0 ≤ r_39.toInt ∧ r_39.toInt ≤ 63 := hw_40
                  refine q_iald (v := g_21 r_39.toNatClampNeg) C hP 5 rfl (o_in (rfl : r_39.toInt = r_39.toInt) (by omega) (by omega)) rfl dX8_growThreads_74 ?_
                  refine lv_topi (fun z_42 ez_42 => ?_)
                  refine lv_iconst (v := 1) hx hb dX8_growThreads_75 (by decide) ?_
                  refine lv_iadd hx hb dX8_growThreads_76 ?_
                  refine lv_topi (fun z_43 hz_43 => ?_)
                  clear hz_43
                  refine q_mmin C hl.1 kM_RX8_91 (Nat.le_of_ble_eq_true rfl) (Nat.le_of_ble_eq_true rfl) hroom.1 hroom.2 dX8_growThreads_77 ?_
                  refine lv_topi (fun z_44 hz_44 => ?_)
                  have hz_44 := o_min hz_44 (by decide : (99 : Int32).toInt = 99) (rfl : z_43.toInt = z_43.toInt)
                  refine q_av (wr := []) (r_V (rm := (Rm 1 21 0 0)) (q0 := 0) (As := [.int x_1, .int x_20, .int z_44]) (rest := []) (wc := [(k, .inr (8, [.ref k_x_, .ref k_y_, .ref k_web_, .ref k_asks_, .ref k_threads_, .int k_today, .int k_day, .ref k_seen_])), (k_x_, .inl (cy 1, 8, .inl k_x)), (k_y_, .inl (cy 1, 8, .inl k_y)), (k_web_, .inl (cy 1, 8, .inl k_web)), (k_asks_, .inl (cy 1, 8, .inl k_asks)), (k_threads_, .inl (cy 1, 64, .inl g_21)), (k_seen_, .inl (cy 1, 8, .inl k_seen))]) C hS (q_subP hP [0, 1, 2, 3, 4, 5, 6] rfl) (hD.sub [0, 1, 2, 3, 4, 5, 6] (by decide) rfl) (o_setThread l D cy k x_1 x_20 z_44 k_x_ k_y_ k_web_ k_asks_ k_threads_ k_today k_day k_seen_ k_x k_y k_web k_asks g_21 k_seen _ (by omega) (by omega) hR0 hR1) kwV_X8_setThread kM_RX8_112 rfl rfl ⟨Nat.le_of_ble_eq_true rfl, Nat.le_of_ble_eq_true rfl⟩ rfl hl.1 rfl (Nat.le_of_ble_eq_true rfl) dX8_growThreads_80 ⟨hroom.1, hroom.2⟩) C.2.2.2.2.2.2.1 hP hD hS [0, 1, 2, 3, 4, 5, 6] [] rfl rfl (by decide) (by decide) (fun u_45 H locs hw_47 hP hD hS => ?_)
                  obtain ⟨g_48, rfl⟩ : ∃ z, z = u_45 := ⟨_, rfl⟩
                  have hP : va_P D vwCl [(k, .inr (8, [.ref k_x_, .ref k_y_, .ref k_web_, .ref k_asks_, .ref k_threads_, .int k_today, .int k_day, .ref k_seen_])), (k_x_, .inl (cy 1, 8, .inl k_x)), (k_y_, .inl (cy 1, 8, .inl k_y)), (k_web_, .inl (cy 1, 8, .inl k_web)), (k_asks_, .inl (cy 1, 8, .inl k_asks)), (k_threads_, .inl (cy 1, 64, .inl g_48)), (k_seen_, .inl (cy 1, 8, .inl k_seen))] H := hP
                  have hD : va_D A [(k, .inr (8, [.ref k_x_, .ref k_y_, .ref k_web_, .ref k_asks_, .ref k_threads_, .int k_today, .int k_day, .ref k_seen_])), (k_x_, .inl (cy 1, 8, .inl k_x)), (k_y_, .inl (cy 1, 8, .inl k_y)), (k_web_, .inl (cy 1, 8, .inl k_web)), (k_asks_, .inl (cy 1, 8, .inl k_asks)), (k_threads_, .inl (cy 1, 64, .inl g_48)), (k_seen_, .inl (cy 1, 8, .inl k_seen))] := hD
                  obtain ⟨z_49, hz_49⟩ : ∃ z : Int32, z = x_20 + 1 := ⟨_, rfl⟩
                  refine lv_iinc (v := z_49) (lv' := [(4, .int z_49), (0, .ref k), (1, .int b), (2, .int x_1), (3, .int z_18)]) hx hb dX8_growThreads_83 hl (k := 4) rfl hz_49.symm (by decide) rfl (fun ls hl => ?_)
                  have hz_49 := o_add hz_49 (rfl : x_20.toInt = x_20.toInt) (by decide : (1 : Int32).toInt = 1) (by omega) (by omega)
                  refine lv_goto (tgt := 42) hx hb dX8_growThreads_86 (by decide) ?_
                  exact ih_25 z_49 g_48 H locs ls (by omega) (by omega) hP hD hS (lv_sub hl [1, 2, 3, 4, 0] rfl)
          exact lp_42_21 (((-1) * z_19.toInt + 8 : Int).toNat + 1) z_19 g_2 H locs ls (by omega) (by omega) hP hD hS (lv_sub hl [2, 3, 4, 1, 0] rfl)
        · have hc_14 := o_eq (rfl : r_10.toInt = r_10.toInt) (by decide : (1 : Int32).toInt = 1) c_14
          have hd_49 : Hd (r_10.toInt = 1 ∧ bt k_today x_1 = 1) := (Hd.un hp_12).resolve_right (fun z9 => by omega)
          have hd_49_0 : r_10.toInt = 1 := (Hd.un hd_49).1
          refine lv_iconst (v := 0) hx hb dX8_growThreads_19 (by decide) ?_
          refine lv_goto (tgt := 36) hx hb dX8_growThreads_20 (by decide) ?_
          refine lv_istore_n (lv' := [(3, .int 0), (0, .ref k), (1, .int b), (2, .int x_1)]) hx hb dX8_growThreads_36 rfl hl (by decide) rfl (fun ls hl => ?_)
          refine lv_iload_n hx hb dX8_growThreads_37 rfl (lv_at hl 3 rfl) ?_
          refine lv_iconst (v := 1) hx hb dX8_growThreads_38 (by decide) ?_
          refine lv_iadd hx hb dX8_growThreads_39 ?_
          refine lv_topi (fun z_51 hz_51 => ?_)
          have hz_51 := o_add hz_51 (rfl : x_1.toInt = x_1.toInt) (by decide : (1 : Int32).toInt = 1) (by omega) (by omega)
          refine lv_istore (lv' := [(4, .int z_51), (3, .int 0), (0, .ref k), (1, .int b), (2, .int x_1)]) hx hb dX8_growThreads_40 hl (by decide) rfl (fun ls hl => ?_)
          have lp_42_53 : ∀ (n_54 : Nat) (x_52 : Int32) (g_53 : Nat → Int32) (H : Heap) (locs : List Loc) (ls : Array Slot), (-1) * x_52.toInt + 8 < (n_54 : Int) → (1 ≤ x_52.toInt ∧ x_52.toInt ≤ 8) → va_P D vwCl [(k, .inr (8, [.ref k_x_, .ref k_y_, .ref k_web_, .ref k_asks_, .ref k_threads_, .int k_today, .int k_day, .ref k_seen_])), (k_x_, .inl (cy 1, 8, .inl k_x)), (k_y_, .inl (cy 1, 8, .inl k_y)), (k_web_, .inl (cy 1, 8, .inl k_web)), (k_asks_, .inl (cy 1, 8, .inl k_asks)), (k_threads_, .inl (cy 1, 64, .inl g_53)), (k_seen_, .inl (cy 1, 8, .inl k_seen))] H → va_D A [(k, .inr (8, [.ref k_x_, .ref k_y_, .ref k_web_, .ref k_asks_, .ref k_threads_, .int k_today, .int k_day, .ref k_seen_])), (k_x_, .inl (cy 1, 8, .inl k_x)), (k_y_, .inl (cy 1, 8, .inl k_y)), (k_web_, .inl (cy 1, 8, .inl k_web)), (k_asks_, .inl (cy 1, 8, .inl k_asks)), (k_threads_, .inl (cy 1, 64, .inl g_53)), (k_seen_, .inl (cy 1, 8, .inl k_seen))] → va_S A s.heap H locs → lv_has ls 5 [(0, .ref k), (1, .int b), (2, .int x_1), (3, .int 0), (4, .int x_52)] → W p l e (Rm 2 44 0 0) s m args below meth c H locs cells slots Q (F0 m 42 ls []) := by
            intro n_54
            induction n_54 with
            | zero =>
              intro x_52 g_53 H locs ls hm_56 hf_55 hP hD hS hl
              exact absurd hm_56 (by omega)
            | succ n_54 ih_57 =>
              intro x_52 g_53 H locs ls hm_56 hf_55 hP hD hS hl
              refine lv_iload hx hb dX8_growThreads_42 (lv_at hl 4 rfl) ?_
              refine lv_iload_n hx hb dX8_growThreads_44 rfl (lv_at hl 1 rfl) ?_
              refine lv_icmp_ge (tgt := 89) hx hb dX8_growThreads_45 (by decide) (fun c_59 => ?_) (fun c_59 => ?_)
              · have hc_59 := o_le (rfl : b.toInt = b.toInt) (rfl : x_52.toInt = x_52.toInt) c_59
                obtain ⟨z_60, hz_60⟩ : ∃ z : Int32, z = x_1 + 1 := ⟨_, rfl⟩
                refine lv_iinc (v := z_60) (lv' := [(2, .int z_60), (0, .ref k), (1, .int b), (3, .int 0), (4, .int x_52)]) hx hb dX8_growThreads_89 hl (k := 2) rfl hz_60.symm (by decide) rfl (fun ls hl => ?_)
                have hz_60 := o_add hz_60 (rfl : x_1.toInt = x_1.toInt) (by decide : (1 : Int32).toInt = 1) (by omega) (by omega)
                refine lv_goto (tgt := 2) hx hb dX8_growThreads_92 (by decide) ?_
                exact ih_6 z_60 g_53 H locs ls (by omega) (by omega) hP hD hS (lv_sub hl [1, 2, 0] rfl)
              · have hc_59 := o_nle (rfl : b.toInt = b.toInt) (rfl : x_52.toInt = x_52.toInt) c_59
                refine lv_iload_n hx hb dX8_growThreads_48 rfl (lv_at hl 3 rfl) ?_
                refine lv_iload hx hb dX8_growThreads_49 (lv_at hl 4 rfl) ?_
                refine q_ai (wr := [(k, .inr (8, [.ref k_x_, .ref k_y_, .ref k_web_, .ref k_asks_, .ref k_threads_, .int k_today, .int k_day, .ref k_seen_])), (k_x_, .inl (cy 1, 8, .inl k_x)), (k_y_, .inl (cy 1, 8, .inl k_y)), (k_web_, .inl (cy 1, 8, .inl k_web)), (k_asks_, .inl (cy 1, 8, .inl k_asks)), (k_threads_, .inl (cy 1, 64, .inl g_53)), (k_seen_, .inl (cy 1, 8, .inl k_seen))]) (r_SN (rm := (Rm 0 0 0 0)) (As := [.int 0, .int x_52]) (rest := []) (wc := []) C hS (q_subP hP [] rfl) (hD.sub [] (by decide) rfl) (o_bitOf l D cy 0 x_52 _ ) kwS_X10_bitOf kN_RX8_73 ⟨Nat.le_of_ble_eq_true rfl, Nat.le_of_ble_eq_true rfl⟩ rfl hl.1 rfl (Nat.le_of_ble_eq_true rfl) dX8_growThreads_51 ⟨hroom.1, hroom.2⟩) C.2.2.2.2.2.2.1 hP hD hS [] [0, 1, 2, 3, 4, 5, 6] rfl rfl (by decide) (by decide) (fun r_62 u_61 H locs hw_63 hP hD hS => ?_)
                have hp_63 : 0 ≤ r_62.toInt ∧ r_62.toInt ≤ 1 := hw_63.1
                have hp_64 : Hd ((r_62.toInt = 1 ∧ bt (0 : Int32) x_52 = 1) ∨ (r_62.toInt = 0 ∧ bt (0 : Int32) x_52 ≠ 1)) := hw_63.2
                refine lv_iconst (v := 1) hx hb dX8_growThreads_54 (by decide) ?_
                refine lv_icmp_ne (tgt := 83) hx hb dX8_growThreads_55 (by decide) (fun c_66 => ?_) (fun c_66 => ?_)
                · have hc_66 := o_ne (rfl : r_62.toInt = r_62.toInt) (by decide : (1 : Int32).toInt = 1) c_66
                  have hnc_66 : 0 ≤ (-1) * r_62.toInt := by rcases Int.lt_or_gt_of_ne hc_66 with h9 | h9 <;> omega
                  have hd_66 : Hd (r_62.toInt = 0 ∧ bt (0 : Int32) x_52 ≠ 1) := (Hd.un hp_64).resolve_left (fun z9 => by omega)
                  have hd_66_0 : r_62.toInt = 0 := (Hd.un hd_66).1
                  obtain ⟨z_68, hz_68⟩ : ∃ z : Int32, z = x_52 + 1 := ⟨_, rfl⟩
                  refine lv_iinc (v := z_68) (lv' := [(4, .int z_68), (0, .ref k), (1, .int b), (2, .int x_1), (3, .int 0)]) hx hb dX8_growThreads_83 hl (k := 4) rfl hz_68.symm (by decide) rfl (fun ls hl => ?_)
                  have hz_68 := o_add hz_68 (rfl : x_52.toInt = x_52.toInt) (by decide : (1 : Int32).toInt = 1) (by omega) (by omega)
                  refine lv_goto (tgt := 42) hx hb dX8_growThreads_86 (by decide) ?_
                  exact ih_57 z_68 g_53 H locs ls (by omega) (by omega) hP hD hS (lv_sub hl [1, 2, 3, 4, 0] rfl)
                · have hc_66 := o_eq (rfl : r_62.toInt = r_62.toInt) (by decide : (1 : Int32).toInt = 1) c_66
                  have hd_68 : Hd (r_62.toInt = 1 ∧ bt (0 : Int32) x_52 = 1) := (Hd.un hp_64).resolve_right (fun z9 => by omega)
                  have hd_68_0 : r_62.toInt = 1 := (Hd.un hd_68).1
                  refine lv_aload_n hx hb dX8_growThreads_58 rfl (lv_at hl 0 rfl) ?_
                  refine lv_iload_n hx hb dX8_growThreads_59 rfl (lv_at hl 2 rfl) ?_
                  refine lv_iload hx hb dX8_growThreads_60 (lv_at hl 4 rfl) ?_
                  refine lv_bipush (v := 99) hx hb dX8_growThreads_62 (by decide) ?_
                  refine lv_aload_n hx hb dX8_growThreads_64 rfl (lv_at hl 0 rfl) ?_
                  refine q_get (v := .ref k_threads_) C hP 0 4 rfl rfl inX8 (by decide) kF_RX8_24 rfl rfl dX8_growThreads_65 ?_
                  refine lv_iload_n hx hb dX8_growThreads_68 rfl (lv_at hl 2 rfl) ?_
                  refine lv_iload hx hb dX8_growThreads_69 (lv_at hl 4 rfl) ?_
                  refine q_ai (wr := [(k, .inr (8, [.ref k_x_, .ref k_y_, .ref k_web_, .ref k_asks_, .ref k_threads_, .int k_today, .int k_day, .ref k_seen_])), (k_x_, .inl (cy 1, 8, .inl k_x)), (k_y_, .inl (cy 1, 8, .inl k_y)), (k_web_, .inl (cy 1, 8, .inl k_web)), (k_asks_, .inl (cy 1, 8, .inl k_asks)), (k_threads_, .inl (cy 1, 64, .inl g_53)), (k_seen_, .inl (cy 1, 8, .inl k_seen))]) (r_SN (rm := (Rm 0 0 0 0)) (As := [.int x_1, .int x_52]) (rest := [.ref k_threads_, .int 99, .int x_52, .int x_1, .ref k]) (wc := []) C hS (q_subP hP [] rfl) (hD.sub [] (by decide) rfl) (o_pairPlace l D cy x_1 x_52 _ (by omega) (by omega)) kwS_X10_pairPlace kN_RX8_66 ⟨Nat.le_of_ble_eq_true rfl, Nat.le_of_ble_eq_true rfl⟩ rfl hl.1 rfl (Nat.le_of_ble_eq_true rfl) dX8_growThreads_71 ⟨hroom.1, hroom.2⟩) C.2.2.2.2.2.2.1 hP hD hS [] [0, 1, 2, 3, 4, 5, 6] rfl rfl (by decide) (by decide) (fun r_71 u_70 H locs hw_72 hP hD hS => ?_)
                  have hp_72 : 0 ≤ r_71.toInt ∧ r_71.toInt ≤ 63 := hw_72
                  refine q_iald (v := g_53 r_71.toNatClampNeg) C hP 5 rfl (o_in (rfl : r_71.toInt = r_71.toInt) (by omega) (by omega)) rfl dX8_growThreads_74 ?_
                  refine lv_topi (fun z_74 ez_74 => ?_)
                  refine lv_iconst (v := 1) hx hb dX8_growThreads_75 (by decide) ?_
                  refine lv_iadd hx hb dX8_growThreads_76 ?_
                  refine lv_topi (fun z_75 hz_75 => ?_)
                  clear hz_75
                  refine q_mmin C hl.1 kM_RX8_91 (Nat.le_of_ble_eq_true rfl) (Nat.le_of_ble_eq_true rfl) hroom.1 hroom.2 dX8_growThreads_77 ?_
                  refine lv_topi (fun z_76 hz_76 => ?_)
                  have hz_76 := o_min hz_76 (by decide : (99 : Int32).toInt = 99) (rfl : z_75.toInt = z_75.toInt)
                  refine q_av (wr := []) (r_V (rm := (Rm 1 21 0 0)) (q0 := 0) (As := [.int x_1, .int x_52, .int z_76]) (rest := []) (wc := [(k, .inr (8, [.ref k_x_, .ref k_y_, .ref k_web_, .ref k_asks_, .ref k_threads_, .int k_today, .int k_day, .ref k_seen_])), (k_x_, .inl (cy 1, 8, .inl k_x)), (k_y_, .inl (cy 1, 8, .inl k_y)), (k_web_, .inl (cy 1, 8, .inl k_web)), (k_asks_, .inl (cy 1, 8, .inl k_asks)), (k_threads_, .inl (cy 1, 64, .inl g_53)), (k_seen_, .inl (cy 1, 8, .inl k_seen))]) C hS (q_subP hP [0, 1, 2, 3, 4, 5, 6] rfl) (hD.sub [0, 1, 2, 3, 4, 5, 6] (by decide) rfl) (o_setThread l D cy k x_1 x_52 z_76 k_x_ k_y_ k_web_ k_asks_ k_threads_ k_today k_day k_seen_ k_x k_y k_web k_asks g_53 k_seen _ (by omega) (by omega) hR0 hR1) kwV_X8_setThread kM_RX8_112 rfl rfl ⟨Nat.le_of_ble_eq_true rfl, Nat.le_of_ble_eq_true rfl⟩ rfl hl.1 rfl (Nat.le_of_ble_eq_true rfl) dX8_growThreads_80 ⟨hroom.1, hroom.2⟩) C.2.2.2.2.2.2.1 hP hD hS [0, 1, 2, 3, 4, 5, 6] [] rfl rfl (by decide) (by decide) (fun u_77 H locs hw_79 hP hD hS => ?_)
                  obtain ⟨g_80, rfl⟩ : ∃ z, z = u_77 := ⟨_, rfl⟩
                  have hP : va_P D vwCl [(k, .inr (8, [.ref k_x_, .ref k_y_, .ref k_web_, .ref k_asks_, .ref k_threads_, .int k_today, .int k_day, .ref k_seen_])), (k_x_, .inl (cy 1, 8, .inl k_x)), (k_y_, .inl (cy 1, 8, .inl k_y)), (k_web_, .inl (cy 1, 8, .inl k_web)), (k_asks_, .inl (cy 1, 8, .inl k_asks)), (k_threads_, .inl (cy 1, 64, .inl g_80)), (k_seen_, .inl (cy 1, 8, .inl k_seen))] H := hP
                  have hD : va_D A [(k, .inr (8, [.ref k_x_, .ref k_y_, .ref k_web_, .ref k_asks_, .ref k_threads_, .int k_today, .int k_day, .ref k_seen_])), (k_x_, .inl (cy 1, 8, .inl k_x)), (k_y_, .inl (cy 1, 8, .inl k_y)), (k_web_, .inl (cy 1, 8, .inl k_web)), (k_asks_, .inl (cy 1, 8, .inl k_asks)), (k_threads_, .inl (cy 1, 64, .inl g_80)), (k_seen_, .inl (cy 1, 8, .inl k_seen))] := hD
                  obtain ⟨z_81, hz_81⟩ : ∃ z : Int32, z = x_52 + 1 := ⟨_, rfl⟩
                  refine lv_iinc (v := z_81) (lv' := [(4, .int z_81), (0, .ref k), (1, .int b), (2, .int x_1), (3, .int 0)]) hx hb dX8_growThreads_83 hl (k := 4) rfl hz_81.symm (by decide) rfl (fun ls hl => ?_)
                  have hz_81 := o_add hz_81 (rfl : x_52.toInt = x_52.toInt) (by decide : (1 : Int32).toInt = 1) (by omega) (by omega)
                  refine lv_goto (tgt := 42) hx hb dX8_growThreads_86 (by decide) ?_
                  exact ih_57 z_81 g_80 H locs ls (by omega) (by omega) hP hD hS (lv_sub hl [1, 2, 3, 4, 0] rfl)
          exact lp_42_53 (((-1) * z_51.toInt + 8 : Int).toNat + 1) z_51 g_2 H locs ls (by omega) (by omega) hP hD hS (lv_sub hl [2, 3, 4, 1, 0] rfl)
  exact lp_2_2 9 (0 : Int32) k_threads H locs ls (by have e0 : (0 : Int32).toInt = 0 := (by decide); omega) (by have e0 : (0 : Int32).toInt = 0 := (by decide); omega) hP hD hS (lv_sub hl [1, 2, 0] rfl)
theorem o_growThreads (l : Launch) (D : va_G) (cy : Nat → ClassId) (k : Nat) (b : Int32) (k_x_ : Nat) (k_y_ : Nat) (k_web_ : Nat) (k_asks_ : Nat) (k_threads_ : Nat) (k_today : Int32) (k_day : Int32) (k_seen_ : Nat) (k_x : Nat → Int32) (k_y : Nat → Int32) (k_web : Nat → Int32) (k_asks : Nat → Int32) (k_threads : Nat → Int32) (k_seen : Nat → Int32) (sz : Nat) (hb0 : 0 ≤ b.toInt ∧ b.toInt ≤ 8) (hR0 : Rg k_x 0 8 0 5) (hR1 : Rg k_y 0 8 0 5) : MV l yX8_growThreads cX8_growThreads 5 (Rm 2 44 0 0) D cy [.ref k, .int b] sz [(k, .inr (8, [.ref k_x_, .ref k_y_, .ref k_web_, .ref k_asks_, .ref k_threads_, .int k_today, .int k_day, .ref k_seen_])), (k_x_, .inl (cy 1, 8, .inl k_x)), (k_y_, .inl (cy 1, 8, .inl k_y)), (k_web_, .inl (cy 1, 8, .inl k_web)), (k_asks_, .inl (cy 1, 8, .inl k_asks)), (k_threads_, .inl (cy 1, 64, .inl k_threads)), (k_seen_, .inl (cy 1, 8, .inl k_seen))] (fun u : (Nat → Int32) => True) (fun u : (Nat → Int32) => [(k, .inr (8, [.ref k_x_, .ref k_y_, .ref k_web_, .ref k_asks_, .ref k_threads_, .int k_today, .int k_day, .ref k_seen_])), (k_x_, .inl (cy 1, 8, .inl k_x)), (k_y_, .inl (cy 1, 8, .inl k_y)), (k_web_, .inl (cy 1, 8, .inl k_web)), (k_asks_, .inl (cy 1, 8, .inl k_asks)), (k_threads_, .inl (cy 1, 64, .inl u)), (k_seen_, .inl (cy 1, 8, .inl k_seen))]) := by
  refine MV.enter (by decide) (Nat.le_of_ble_eq_true rfl) ?_
  intro p e s m below meth c ls A hsz hAe C hP hD hS hl
  exact b_o_growThreads l D cy k b k_x_ k_y_ k_web_ k_asks_ k_threads_ k_today k_day k_seen_ k_x k_y k_web k_asks k_threads k_seen hb0 hR0 hR1 ⟨Nat.le_of_ble_eq_true rfl, Nat.le_of_ble_eq_true rfl⟩ C rfl _ _ ls hP hD hS hl
set_option maxHeartbeats 4000000 in
set_option maxRecDepth 100000 in
theorem b_o_blow (l : Launch) (D : va_G) (cy : Nat → ClassId) (k : Nat) (h : Nat) (v : Int32) (k_x_ : Nat) (k_y_ : Nat) (k_web_ : Nat) (k_asks_ : Nat) (k_threads_ : Nat) (k_today : Int32) (k_day : Int32) (k_seen_ : Nat) (k_x : Nat → Int32) (k_y : Nat → Int32) (k_web : Nat → Int32) (k_asks : Nat → Int32) (k_threads : Nat → Int32) (k_seen : Nat → Int32) (h_wide : Int32) (h_high : Int32) (h_law : Int32) (h_spin : Int32) (h_line : Int32) (h_draught : Int32) (h_books : Int32) (h_rare : Int32) (h_quarrels_ : Nat) (h_nameSizes_ : Nat) (h_names_ : Nat) (h_quarrels : Nat → Int32) (h_nameSizes : Nat → Int32) (h_names : Nat → Int32) (hb0 : 0 ≤ h_wide.toInt ∧ h_wide.toInt ≤ 6) (hb1 : 0 ≤ h_high.toInt ∧ h_high.toInt ≤ 6) (hb2 : 0 ≤ h_books.toInt ∧ h_books.toInt ≤ 8) (hR0 : Rg k_x 0 8 0 5) (hR1 : Rg k_y 0 8 0 5) (hR2 : Rg h_nameSizes 0 8 (-900) 7) {p : Program} {e : Env} {s : State} {m : MethodId} {args : Array Value} {below : List Frame} {meth : Method} {c : Code} {A : Nat → Prop} {Q : State → Prop} {cells slots : Nat} (hroom : cells ≤ ((Rm 2 43 0 0)).cells ∧ slots ≤ ((Rm 2 43 0 0)).slots) (C : Cx p s m args meth c cX8_blow 5 (some .int) RX8 "blow" D cy A) (hQ : Q = MQ below (va_Qi (fun (r : Int32) (u : (Nat → Int32) × (Nat → Int32)) => True) (Bx D A (fun u : (Nat → Int32) × (Nat → Int32) => [(k, .inr (8, [.ref k_x_, .ref k_y_, .ref k_web_, .ref k_asks_, .ref k_threads_, .int k_today, .int k_day, .ref k_seen_])), (k_x_, .inl (cy 1, 8, .inl k_x)), (k_y_, .inl (cy 1, 8, .inl k_y)), (k_web_, .inl (cy 1, 8, .inl u.1)), (k_asks_, .inl (cy 1, 8, .inl k_asks)), (k_threads_, .inl (cy 1, 64, .inl u.2)), (k_seen_, .inl (cy 1, 8, .inl k_seen)), (h, .inr (6, [.int h_wide, .int h_high, .int h_law, .int h_spin, .int h_line, .int h_draught, .int h_books, .int h_rare, .ref h_quarrels_, .ref h_nameSizes_, .ref h_names_])), (h_quarrels_, .inl (cy 1, 8, .inl h_quarrels)), (h_nameSizes_, .inl (cy 1, 8, .inl h_nameSizes)), (h_names_, .inl (cy 1, 56, .inl h_names))])) A) args s ((Rm 2 43 0 0)).cells ((Rm 2 43 0 0)).slots A) (H : Heap) (locs : List Loc) (ls : Array Slot) (hP : va_P D vwCl [(k, .inr (8, [.ref k_x_, .ref k_y_, .ref k_web_, .ref k_asks_, .ref k_threads_, .int k_today, .int k_day, .ref k_seen_])), (k_x_, .inl (cy 1, 8, .inl k_x)), (k_y_, .inl (cy 1, 8, .inl k_y)), (k_web_, .inl (cy 1, 8, .inl k_web)), (k_asks_, .inl (cy 1, 8, .inl k_asks)), (k_threads_, .inl (cy 1, 64, .inl k_threads)), (k_seen_, .inl (cy 1, 8, .inl k_seen)), (h, .inr (6, [.int h_wide, .int h_high, .int h_law, .int h_spin, .int h_line, .int h_draught, .int h_books, .int h_rare, .ref h_quarrels_, .ref h_nameSizes_, .ref h_names_])), (h_quarrels_, .inl (cy 1, 8, .inl h_quarrels)), (h_nameSizes_, .inl (cy 1, 8, .inl h_nameSizes)), (h_names_, .inl (cy 1, 56, .inl h_names))] H) (hD : va_D A [(k, .inr (8, [.ref k_x_, .ref k_y_, .ref k_web_, .ref k_asks_, .ref k_threads_, .int k_today, .int k_day, .ref k_seen_])), (k_x_, .inl (cy 1, 8, .inl k_x)), (k_y_, .inl (cy 1, 8, .inl k_y)), (k_web_, .inl (cy 1, 8, .inl k_web)), (k_asks_, .inl (cy 1, 8, .inl k_asks)), (k_threads_, .inl (cy 1, 64, .inl k_threads)), (k_seen_, .inl (cy 1, 8, .inl k_seen)), (h, .inr (6, [.int h_wide, .int h_high, .int h_law, .int h_spin, .int h_line, .int h_draught, .int h_books, .int h_rare, .ref h_quarrels_, .ref h_nameSizes_, .ref h_names_])), (h_quarrels_, .inl (cy 1, 8, .inl h_quarrels)), (h_nameSizes_, .inl (cy 1, 8, .inl h_nameSizes)), (h_names_, .inl (cy 1, 56, .inl h_names))]) (hS : va_S A s.heap H locs) (hl : lv_has ls 5 [(0, .ref k), (1, .ref h), (2, .int v)]) : W p l e (Rm 2 43 0 0) s m args below meth c H locs cells slots Q (F0 m 0 ls []) := by
  have hx := C.1
  have hb := C.2.1
  have hqv := o_rng v
  refine lv_iload_n hx hb dX8_blow_0 rfl (lv_at hl 2 rfl) ?_
  refine q_ai (wr := [(k, .inr (8, [.ref k_x_, .ref k_y_, .ref k_web_, .ref k_asks_, .ref k_threads_, .int k_today, .int k_day, .ref k_seen_])), (k_x_, .inl (cy 1, 8, .inl k_x)), (k_y_, .inl (cy 1, 8, .inl k_y)), (k_web_, .inl (cy 1, 8, .inl k_web)), (k_asks_, .inl (cy 1, 8, .inl k_asks)), (k_threads_, .inl (cy 1, 64, .inl k_threads)), (k_seen_, .inl (cy 1, 8, .inl k_seen)), (h, .inr (6, [.int h_wide, .int h_high, .int h_law, .int h_spin, .int h_line, .int h_draught, .int h_books, .int h_rare, .ref h_quarrels_, .ref h_nameSizes_, .ref h_names_])), (h_quarrels_, .inl (cy 1, 8, .inl h_quarrels)), (h_nameSizes_, .inl (cy 1, 8, .inl h_nameSizes)), (h_names_, .inl (cy 1, 56, .inl h_names))]) (r_SN (rm := (Rm 0 0 0 0)) (As := [.int v]) (rest := []) (wc := []) C hS (q_subP hP [] rfl) (hD.sub [] (by decide) rfl) (o_seedBehind l D cy v _ ) kwS_X10_seedBehind kN_RX8_116 ⟨Nat.le_of_ble_eq_true rfl, Nat.le_of_ble_eq_true rfl⟩ rfl hl.1 rfl (Nat.le_of_ble_eq_true rfl) dX8_blow_1 ⟨hroom.1, hroom.2⟩) C.2.2.2.2.2.2.1 hP hD hS [] [0, 1, 2, 3, 4, 5, 6, 7, 8, 9, 10] rfl rfl (by decide) (by decide) (fun r_2 u_1 H locs hw_3 hP hD hS => ?_)
  refine lv_istore_n (lv' := [(3, .int r_2), (0, .ref k), (1, .ref h), (2, .int v)]) hx hb dX8_blow_4 rfl hl (by decide) rfl (fun ls hl => ?_)
  refine lv_aload_n hx hb dX8_blow_5 rfl (lv_at hl 2 rfl) ?_
  refine q_get (v := .int h_books) C hP 7 6 rfl rfl inX6 (by decide) kF_RX8_53 rfl rfl dX8_blow_6 ?_
  refine lv_if_eq (tgt := 25) hx hb dX8_blow_9 (by decide) (fun c_4 => ?_) (fun c_4 => ?_)
  · have hc_4 := o_eq (rfl : h_books.toInt = h_books.toInt) (by decide : (0 : Int32).toInt = 0) c_4
    refine lv_iload_n hx hb dX8_blow_25 rfl (lv_at hl 0 rfl) ?_
    refine o_wq hQ ?_
    exact q_iret (rm := (Rm 2 43 0 0)) C hS (k_web, k_threads) rfl trivial (q_subP hP [0, 1, 2, 3, 4, 5, 6, 7, 8, 9, 10] rfl) (hD.sub [0, 1, 2, 3, 4, 5, 6, 7, 8, 9, 10] (by decide) rfl) hroom.1 hroom.2 dX8_blow_26
  · have hc_4 := o_ne (rfl : h_books.toInt = h_books.toInt) (by decide : (0 : Int32).toInt = 0) c_4
    have hnc_4 : 0 ≤ h_books.toInt + (-1) := by rcases Int.lt_or_gt_of_ne hc_4 with h9 | h9 <;> omega
    refine lv_iload_n hx hb dX8_blow_12 rfl (lv_at hl 0 rfl) ?_
    refine lv_bipush (v := 12) hx hb dX8_blow_13 (by decide) ?_
    refine q_ai (wr := [(k, .inr (8, [.ref k_x_, .ref k_y_, .ref k_web_, .ref k_asks_, .ref k_threads_, .int k_today, .int k_day, .ref k_seen_])), (k_x_, .inl (cy 1, 8, .inl k_x)), (k_y_, .inl (cy 1, 8, .inl k_y)), (k_web_, .inl (cy 1, 8, .inl k_web)), (k_asks_, .inl (cy 1, 8, .inl k_asks)), (k_threads_, .inl (cy 1, 64, .inl k_threads)), (k_seen_, .inl (cy 1, 8, .inl k_seen)), (h, .inr (6, [.int h_wide, .int h_high, .int h_law, .int h_spin, .int h_line, .int h_draught, .int h_books, .int h_rare, .ref h_quarrels_, .ref h_nameSizes_, .ref h_names_])), (h_quarrels_, .inl (cy 1, 8, .inl h_quarrels)), (h_nameSizes_, .inl (cy 1, 8, .inl h_nameSizes)), (h_names_, .inl (cy 1, 56, .inl h_names))]) (r_SN (rm := (Rm 0 0 0 0)) (As := [.int r_2, .int 12]) (rest := []) (wc := []) C hS (q_subP hP [] rfl) (hD.sub [] (by decide) rfl) (o_drawn12 l D cy r_2 _ ) kwS_X10_drawnOf kN_RX8_119 ⟨Nat.le_of_ble_eq_true rfl, Nat.le_of_ble_eq_true rfl⟩ rfl hl.1 rfl (Nat.le_of_ble_eq_true rfl) dX8_blow_15 ⟨hroom.1, hroom.2⟩) C.2.2.2.2.2.2.1 hP hD hS [] [0, 1, 2, 3, 4, 5, 6, 7, 8, 9, 10] rfl rfl (by decide) (by decide) (fun r_6 u_5 H locs hw_7 hP hD hS => ?_)
    have hp_7 : 0 ≤ r_6.toInt ∧ r_6.toInt ≤ 11 := hw_7
    refine lv_aload_n hx hb dX8_blow_18 rfl (lv_at hl 2 rfl) ?_
    refine q_get (v := .int h_draught) C hP 7 5 rfl rfl inX6 (by decide) kF_RX8_122 rfl rfl dX8_blow_19 ?_
    refine lv_icmp_lt (tgt := 27) hx hb dX8_blow_22 (by decide) (fun c_9 => ?_) (fun c_9 => ?_)
    · have hc_9 := o_lt (rfl : r_6.toInt = r_6.toInt) (rfl : h_draught.toInt = h_draught.toInt) c_9
      refine lv_iload_n hx hb dX8_blow_27 rfl (lv_at hl 0 rfl) ?_
      refine q_ai (wr := [(k, .inr (8, [.ref k_x_, .ref k_y_, .ref k_web_, .ref k_asks_, .ref k_threads_, .int k_today, .int k_day, .ref k_seen_])), (k_x_, .inl (cy 1, 8, .inl k_x)), (k_y_, .inl (cy 1, 8, .inl k_y)), (k_web_, .inl (cy 1, 8, .inl k_web)), (k_asks_, .inl (cy 1, 8, .inl k_asks)), (k_threads_, .inl (cy 1, 64, .inl k_threads)), (k_seen_, .inl (cy 1, 8, .inl k_seen)), (h, .inr (6, [.int h_wide, .int h_high, .int h_law, .int h_spin, .int h_line, .int h_draught, .int h_books, .int h_rare, .ref h_quarrels_, .ref h_nameSizes_, .ref h_names_])), (h_quarrels_, .inl (cy 1, 8, .inl h_quarrels)), (h_nameSizes_, .inl (cy 1, 8, .inl h_nameSizes)), (h_names_, .inl (cy 1, 56, .inl h_names))]) (r_SN (rm := (Rm 0 0 0 0)) (As := [.int r_2]) (rest := []) (wc := []) C hS (q_subP hP [] rfl) (hD.sub [] (by decide) rfl) (o_seedBehind l D cy r_2 _ ) kwS_X10_seedBehind kN_RX8_116 ⟨Nat.le_of_ble_eq_true rfl, Nat.le_of_ble_eq_true rfl⟩ rfl hl.1 rfl (Nat.le_of_ble_eq_true rfl) dX8_blow_28 ⟨hroom.1, hroom.2⟩) C.2.2.2.2.2.2.1 hP hD hS [] [0, 1, 2, 3, 4, 5, 6, 7, 8, 9, 10] rfl rfl (by decide) (by decide) (fun r_11 u_10 H locs hw_12 hP hD hS => ?_)
      refine lv_istore_n (lv' := [(3, .int r_11), (0, .ref k), (1, .ref h), (2, .int v)]) hx hb dX8_blow_31 rfl hl (by decide) rfl (fun ls hl => ?_)
      refine lv_iload_n hx hb dX8_blow_32 rfl (lv_at hl 0 rfl) ?_
      refine lv_aload_n hx hb dX8_blow_33 rfl (lv_at hl 2 rfl) ?_
      refine q_get (v := .int h_books) C hP 7 6 rfl rfl inX6 (by decide) kF_RX8_53 rfl rfl dX8_blow_34 ?_
      refine q_ai (wr := [(k, .inr (8, [.ref k_x_, .ref k_y_, .ref k_web_, .ref k_asks_, .ref k_threads_, .int k_today, .int k_day, .ref k_seen_])), (k_x_, .inl (cy 1, 8, .inl k_x)), (k_y_, .inl (cy 1, 8, .inl k_y)), (k_web_, .inl (cy 1, 8, .inl k_web)), (k_asks_, .inl (cy 1, 8, .inl k_asks)), (k_threads_, .inl (cy 1, 64, .inl k_threads)), (k_seen_, .inl (cy 1, 8, .inl k_seen)), (h, .inr (6, [.int h_wide, .int h_high, .int h_law, .int h_spin, .int h_line, .int h_draught, .int h_books, .int h_rare, .ref h_quarrels_, .ref h_nameSizes_, .ref h_names_])), (h_quarrels_, .inl (cy 1, 8, .inl h_quarrels)), (h_nameSizes_, .inl (cy 1, 8, .inl h_nameSizes)), (h_names_, .inl (cy 1, 56, .inl h_names))]) (r_SN (rm := (Rm 0 0 0 0)) (As := [.int r_11, .int h_books]) (rest := []) (wc := []) C hS (q_subP hP [] rfl) (hD.sub [] (by decide) rfl) (o_drawnOf l D cy r_11 h_books _ (by omega)) kwS_X10_drawnOf kN_RX8_119 ⟨Nat.le_of_ble_eq_true rfl, Nat.le_of_ble_eq_true rfl⟩ rfl hl.1 rfl (Nat.le_of_ble_eq_true rfl) dX8_blow_37 ⟨hroom.1, hroom.2⟩) C.2.2.2.2.2.2.1 hP hD hS [] [0, 1, 2, 3, 4, 5, 6, 7, 8, 9, 10] rfl rfl (by decide) (by decide) (fun r_14 u_13 H locs hw_15 hP hD hS => ?_)
      have hp_15 : 0 ≤ r_14.toInt ∧ r_14.toInt ≤ 7 := hw_15
      refine lv_istore (lv' := [(4, .int r_14), (3, .int r_11), (0, .ref k), (1, .ref h), (2, .int v)]) hx hb dX8_blow_40 hl (by decide) rfl (fun ls hl => ?_)
      refine lv_aload_n hx hb dX8_blow_42 rfl (lv_at hl 2 rfl) ?_
      refine q_get (v := .ref k_web_) C hP 0 2 rfl rfl inX8 (by decide) kF_RX8_18 rfl rfl dX8_blow_43 ?_
      refine lv_iload hx hb dX8_blow_46 (lv_at hl 0 rfl) ?_
      refine lv_aload_n hx hb dX8_blow_48 rfl (lv_at hl 2 rfl) ?_
      refine q_get (v := .ref k_web_) C hP 0 2 rfl rfl inX8 (by decide) kF_RX8_18 rfl rfl dX8_blow_49 ?_
      refine lv_iload hx hb dX8_blow_52 (lv_at hl 0 rfl) ?_
      refine q_iald (v := k_web r_14.toNatClampNeg) C hP 3 rfl (o_in (rfl : r_14.toInt = r_14.toInt) (by omega) (by omega)) rfl dX8_blow_54 ?_
      refine lv_topi (fun z_17 ez_17 => ?_)
      refine lv_iconst (v := 2) hx hb dX8_blow_55 (by decide) ?_
      refine lv_idiv hx hb dX8_blow_56 (by decide) ?_
      refine lv_topi (fun z_18 hz_18 => ?_)
      clear hz_18
      refine q_iast (g := upd k_web r_14.toNatClampNeg z_18) (w' := [(k, .inr (8, [.ref k_x_, .ref k_y_, .ref k_web_, .ref k_asks_, .ref k_threads_, .int k_today, .int k_day, .ref k_seen_])), (k_x_, .inl (cy 1, 8, .inl k_x)), (k_y_, .inl (cy 1, 8, .inl k_y)), (k_web_, .inl (cy 1, 8, .inl (upd k_web r_14.toNatClampNeg z_18))), (k_asks_, .inl (cy 1, 8, .inl k_asks)), (k_threads_, .inl (cy 1, 64, .inl k_threads)), (k_seen_, .inl (cy 1, 8, .inl k_seen)), (h, .inr (6, [.int h_wide, .int h_high, .int h_law, .int h_spin, .int h_line, .int h_draught, .int h_books, .int h_rare, .ref h_quarrels_, .ref h_nameSizes_, .ref h_names_])), (h_quarrels_, .inl (cy 1, 8, .inl h_quarrels)), (h_nameSizes_, .inl (cy 1, 8, .inl h_nameSizes)), (h_names_, .inl (cy 1, 56, .inl h_names))]) C hP hD hS 3 rfl (o_in (rfl : r_14.toInt = r_14.toInt) (by omega) (by omega)) rfl rfl dX8_blow_57 (fun H locs hP hD hS => ?_)
      generalize upd k_web r_14.toNatClampNeg z_18 = g_19 at hP hD 
      have hP : va_P D vwCl [(k, .inr (8, [.ref k_x_, .ref k_y_, .ref k_web_, .ref k_asks_, .ref k_threads_, .int k_today, .int k_day, .ref k_seen_])), (k_x_, .inl (cy 1, 8, .inl k_x)), (k_y_, .inl (cy 1, 8, .inl k_y)), (k_web_, .inl (cy 1, 8, .inl g_19)), (k_asks_, .inl (cy 1, 8, .inl k_asks)), (k_threads_, .inl (cy 1, 64, .inl k_threads)), (k_seen_, .inl (cy 1, 8, .inl k_seen)), (h, .inr (6, [.int h_wide, .int h_high, .int h_law, .int h_spin, .int h_line, .int h_draught, .int h_books, .int h_rare, .ref h_quarrels_, .ref h_nameSizes_, .ref h_names_])), (h_quarrels_, .inl (cy 1, 8, .inl h_quarrels)), (h_nameSizes_, .inl (cy 1, 8, .inl h_nameSizes)), (h_names_, .inl (cy 1, 56, .inl h_names))] H := hP
      have hD : va_D A [(k, .inr (8, [.ref k_x_, .ref k_y_, .ref k_web_, .ref k_asks_, .ref k_threads_, .int k_today, .int k_day, .ref k_seen_])), (k_x_, .inl (cy 1, 8, .inl k_x)), (k_y_, .inl (cy 1, 8, .inl k_y)), (k_web_, .inl (cy 1, 8, .inl g_19)), (k_asks_, .inl (cy 1, 8, .inl k_asks)), (k_threads_, .inl (cy 1, 64, .inl k_threads)), (k_seen_, .inl (cy 1, 8, .inl k_seen)), (h, .inr (6, [.int h_wide, .int h_high, .int h_law, .int h_spin, .int h_line, .int h_draught, .int h_books, .int h_rare, .ref h_quarrels_, .ref h_nameSizes_, .ref h_names_])), (h_quarrels_, .inl (cy 1, 8, .inl h_quarrels)), (h_nameSizes_, .inl (cy 1, 8, .inl h_nameSizes)), (h_names_, .inl (cy 1, 56, .inl h_names))] := hD
      refine lv_aload_n hx hb dX8_blow_58 rfl (lv_at hl 2 rfl) ?_
      refine lv_iload hx hb dX8_blow_59 (lv_at hl 0 rfl) ?_
      refine q_av (wr := [(h, .inr (6, [.int h_wide, .int h_high, .int h_law, .int h_spin, .int h_line, .int h_draught, .int h_books, .int h_rare, .ref h_quarrels_, .ref h_nameSizes_, .ref h_names_])), (h_quarrels_, .inl (cy 1, 8, .inl h_quarrels)), (h_nameSizes_, .inl (cy 1, 8, .inl h_nameSizes)), (h_names_, .inl (cy 1, 56, .inl h_names))]) (r_V (rm := (Rm 1 21 0 0)) (q0 := 0) (As := [.int r_14]) (rest := []) (wc := [(k, .inr (8, [.ref k_x_, .ref k_y_, .ref k_web_, .ref k_asks_, .ref k_threads_, .int k_today, .int k_day, .ref k_seen_])), (k_x_, .inl (cy 1, 8, .inl k_x)), (k_y_, .inl (cy 1, 8, .inl k_y)), (k_web_, .inl (cy 1, 8, .inl g_19)), (k_asks_, .inl (cy 1, 8, .inl k_asks)), (k_threads_, .inl (cy 1, 64, .inl k_threads)), (k_seen_, .inl (cy 1, 8, .inl k_seen))]) C hS (q_subP hP [0, 1, 2, 3, 4, 5, 6] rfl) (hD.sub [0, 1, 2, 3, 4, 5, 6] (by decide) rfl) (o_cutThreads l D cy k r_14 k_x_ k_y_ k_web_ k_asks_ k_threads_ k_today k_day k_seen_ k_x k_y g_19 k_asks k_threads k_seen _ (by omega) hR0 hR1) kwV_X8_cutThreads kM_RX8_79 rfl rfl ⟨Nat.le_of_ble_eq_true rfl, Nat.le_of_ble_eq_true rfl⟩ rfl hl.1 rfl (Nat.le_of_ble_eq_true rfl) dX8_blow_61 ⟨hroom.1, hroom.2⟩) C.2.2.2.2.2.2.1 hP hD hS [0, 1, 2, 3, 4, 5, 6] [7, 8, 9, 10] rfl rfl (by decide) (by decide) (fun u_20 H locs hw_22 hP hD hS => ?_)
      obtain ⟨g_23, rfl⟩ : ∃ z, z = u_20 := ⟨_, rfl⟩
      have hP : va_P D vwCl [(h, .inr (6, [.int h_wide, .int h_high, .int h_law, .int h_spin, .int h_line, .int h_draught, .int h_books, .int h_rare, .ref h_quarrels_, .ref h_nameSizes_, .ref h_names_])), (h_quarrels_, .inl (cy 1, 8, .inl h_quarrels)), (h_nameSizes_, .inl (cy 1, 8, .inl h_nameSizes)), (h_names_, .inl (cy 1, 56, .inl h_names)), (k, .inr (8, [.ref k_x_, .ref k_y_, .ref k_web_, .ref k_asks_, .ref k_threads_, .int k_today, .int k_day, .ref k_seen_])), (k_x_, .inl (cy 1, 8, .inl k_x)), (k_y_, .inl (cy 1, 8, .inl k_y)), (k_web_, .inl (cy 1, 8, .inl g_19)), (k_asks_, .inl (cy 1, 8, .inl k_asks)), (k_threads_, .inl (cy 1, 64, .inl g_23)), (k_seen_, .inl (cy 1, 8, .inl k_seen))] H := hP
      have hD : va_D A [(h, .inr (6, [.int h_wide, .int h_high, .int h_law, .int h_spin, .int h_line, .int h_draught, .int h_books, .int h_rare, .ref h_quarrels_, .ref h_nameSizes_, .ref h_names_])), (h_quarrels_, .inl (cy 1, 8, .inl h_quarrels)), (h_nameSizes_, .inl (cy 1, 8, .inl h_nameSizes)), (h_names_, .inl (cy 1, 56, .inl h_names)), (k, .inr (8, [.ref k_x_, .ref k_y_, .ref k_web_, .ref k_asks_, .ref k_threads_, .int k_today, .int k_day, .ref k_seen_])), (k_x_, .inl (cy 1, 8, .inl k_x)), (k_y_, .inl (cy 1, 8, .inl k_y)), (k_web_, .inl (cy 1, 8, .inl g_19)), (k_asks_, .inl (cy 1, 8, .inl k_asks)), (k_threads_, .inl (cy 1, 64, .inl g_23)), (k_seen_, .inl (cy 1, 8, .inl k_seen))] := hD
      refine lv_iload_n hx hb dX8_blow_64 rfl (lv_at hl 1 rfl) ?_
      refine o_wq hQ ?_
      exact q_iret (rm := (Rm 2 43 0 0)) C hS (g_19, g_23) rfl trivial (q_subP hP [4, 5, 6, 7, 8, 9, 10, 0, 1, 2, 3] rfl) (hD.sub [4, 5, 6, 7, 8, 9, 10, 0, 1, 2, 3] (by decide) rfl) hroom.1 hroom.2 dX8_blow_65
    · have hc_9 := o_nlt (rfl : r_6.toInt = r_6.toInt) (rfl : h_draught.toInt = h_draught.toInt) c_9
      refine lv_iload_n hx hb dX8_blow_25 rfl (lv_at hl 0 rfl) ?_
      refine o_wq hQ ?_
      exact q_iret (rm := (Rm 2 43 0 0)) C hS (k_web, k_threads) rfl trivial (q_subP hP [0, 1, 2, 3, 4, 5, 6, 7, 8, 9, 10] rfl) (hD.sub [0, 1, 2, 3, 4, 5, 6, 7, 8, 9, 10] (by decide) rfl) hroom.1 hroom.2 dX8_blow_26
theorem o_blow (l : Launch) (D : va_G) (cy : Nat → ClassId) (k : Nat) (h : Nat) (v : Int32) (k_x_ : Nat) (k_y_ : Nat) (k_web_ : Nat) (k_asks_ : Nat) (k_threads_ : Nat) (k_today : Int32) (k_day : Int32) (k_seen_ : Nat) (k_x : Nat → Int32) (k_y : Nat → Int32) (k_web : Nat → Int32) (k_asks : Nat → Int32) (k_threads : Nat → Int32) (k_seen : Nat → Int32) (h_wide : Int32) (h_high : Int32) (h_law : Int32) (h_spin : Int32) (h_line : Int32) (h_draught : Int32) (h_books : Int32) (h_rare : Int32) (h_quarrels_ : Nat) (h_nameSizes_ : Nat) (h_names_ : Nat) (h_quarrels : Nat → Int32) (h_nameSizes : Nat → Int32) (h_names : Nat → Int32) (sz : Nat) (hb0 : 0 ≤ h_wide.toInt ∧ h_wide.toInt ≤ 6) (hb1 : 0 ≤ h_high.toInt ∧ h_high.toInt ≤ 6) (hb2 : 0 ≤ h_books.toInt ∧ h_books.toInt ≤ 8) (hR0 : Rg k_x 0 8 0 5) (hR1 : Rg k_y 0 8 0 5) (hR2 : Rg h_nameSizes 0 8 (-900) 7) : MI l yX8_blow cX8_blow 5 (some .int) (Rm 2 43 0 0) D cy [.ref k, .ref h, .int v] sz [(k, .inr (8, [.ref k_x_, .ref k_y_, .ref k_web_, .ref k_asks_, .ref k_threads_, .int k_today, .int k_day, .ref k_seen_])), (k_x_, .inl (cy 1, 8, .inl k_x)), (k_y_, .inl (cy 1, 8, .inl k_y)), (k_web_, .inl (cy 1, 8, .inl k_web)), (k_asks_, .inl (cy 1, 8, .inl k_asks)), (k_threads_, .inl (cy 1, 64, .inl k_threads)), (k_seen_, .inl (cy 1, 8, .inl k_seen)), (h, .inr (6, [.int h_wide, .int h_high, .int h_law, .int h_spin, .int h_line, .int h_draught, .int h_books, .int h_rare, .ref h_quarrels_, .ref h_nameSizes_, .ref h_names_])), (h_quarrels_, .inl (cy 1, 8, .inl h_quarrels)), (h_nameSizes_, .inl (cy 1, 8, .inl h_nameSizes)), (h_names_, .inl (cy 1, 56, .inl h_names))] (fun (r : Int32) (u : (Nat → Int32) × (Nat → Int32)) => True) (fun u : (Nat → Int32) × (Nat → Int32) => [(k, .inr (8, [.ref k_x_, .ref k_y_, .ref k_web_, .ref k_asks_, .ref k_threads_, .int k_today, .int k_day, .ref k_seen_])), (k_x_, .inl (cy 1, 8, .inl k_x)), (k_y_, .inl (cy 1, 8, .inl k_y)), (k_web_, .inl (cy 1, 8, .inl u.1)), (k_asks_, .inl (cy 1, 8, .inl k_asks)), (k_threads_, .inl (cy 1, 64, .inl u.2)), (k_seen_, .inl (cy 1, 8, .inl k_seen)), (h, .inr (6, [.int h_wide, .int h_high, .int h_law, .int h_spin, .int h_line, .int h_draught, .int h_books, .int h_rare, .ref h_quarrels_, .ref h_nameSizes_, .ref h_names_])), (h_quarrels_, .inl (cy 1, 8, .inl h_quarrels)), (h_nameSizes_, .inl (cy 1, 8, .inl h_nameSizes)), (h_names_, .inl (cy 1, 56, .inl h_names))]) := by
  refine MI.enter (by decide) (Nat.le_of_ble_eq_true rfl) ?_
  intro p e s m below meth c ls A hsz hAe C hP hD hS hl
  exact b_o_blow l D cy k h v k_x_ k_y_ k_web_ k_asks_ k_threads_ k_today k_day k_seen_ k_x k_y k_web k_asks k_threads k_seen h_wide h_high h_law h_spin h_line h_draught h_books h_rare h_quarrels_ h_nameSizes_ h_names_ h_quarrels h_nameSizes h_names hb0 hb1 hb2 hR0 hR1 hR2 ⟨Nat.le_of_ble_eq_true rfl, Nat.le_of_ble_eq_true rfl⟩ C rfl _ _ ls hP hD hS hl
set_option maxHeartbeats 4000000 in
set_option maxRecDepth 100000 in
theorem b_o_passDays (l : Launch) (D : va_G) (cy : Nat → ClassId) (k : Nat) (h : Nat) (v : Int32) (w : Int32) (k_x_ : Nat) (k_y_ : Nat) (k_web_ : Nat) (k_asks_ : Nat) (k_threads_ : Nat) (k_today : Int32) (k_day : Int32) (k_seen_ : Nat) (k_x : Nat → Int32) (k_y : Nat → Int32) (k_web : Nat → Int32) (k_asks : Nat → Int32) (k_threads : Nat → Int32) (k_seen : Nat → Int32) (h_wide : Int32) (h_high : Int32) (h_law : Int32) (h_spin : Int32) (h_line : Int32) (h_draught : Int32) (h_books : Int32) (h_rare : Int32) (h_quarrels_ : Nat) (h_nameSizes_ : Nat) (h_names_ : Nat) (h_quarrels : Nat → Int32) (h_nameSizes : Nat → Int32) (h_names : Nat → Int32) (hb0 : 0 ≤ h_wide.toInt ∧ h_wide.toInt ≤ 6) (hb1 : 0 ≤ h_high.toInt ∧ h_high.toInt ≤ 6) (hb2 : 0 ≤ h_books.toInt ∧ h_books.toInt ≤ 8) (hR0 : Rg k_x 0 8 0 5) (hR1 : Rg k_y 0 8 0 5) (hR2 : Rg h_nameSizes 0 8 (-900) 7) {p : Program} {e : Env} {s : State} {m : MethodId} {args : Array Value} {below : List Frame} {meth : Method} {c : Code} {A : Nat → Prop} {Q : State → Prop} {cells slots : Nat} (hroom : cells ≤ ((Rm 4 93 0 0)).cells ∧ slots ≤ ((Rm 4 93 0 0)).slots) (C : Cx p s m args meth c cX8_passDays 7 (some .int) RX8 "passDays" D cy A) (hQ : Q = MQ below (va_Qi (fun (r : Int32) (u : Int32 × Int32 × (Nat → Int32) × (Nat → Int32) × (Nat → Int32)) => True) (Bx D A (fun u : Int32 × Int32 × (Nat → Int32) × (Nat → Int32) × (Nat → Int32) => [(k, .inr (8, [.ref k_x_, .ref k_y_, .ref k_web_, .ref k_asks_, .ref k_threads_, .int u.1, .int u.2.1, .ref k_seen_])), (k_x_, .inl (cy 1, 8, .inl k_x)), (k_y_, .inl (cy 1, 8, .inl k_y)), (k_web_, .inl (cy 1, 8, .inl u.2.2.1)), (k_asks_, .inl (cy 1, 8, .inl k_asks)), (k_threads_, .inl (cy 1, 64, .inl u.2.2.2.1)), (k_seen_, .inl (cy 1, 8, .inl u.2.2.2.2)), (h, .inr (6, [.int h_wide, .int h_high, .int h_law, .int h_spin, .int h_line, .int h_draught, .int h_books, .int h_rare, .ref h_quarrels_, .ref h_nameSizes_, .ref h_names_])), (h_quarrels_, .inl (cy 1, 8, .inl h_quarrels)), (h_nameSizes_, .inl (cy 1, 8, .inl h_nameSizes)), (h_names_, .inl (cy 1, 56, .inl h_names))])) A) args s ((Rm 4 93 0 0)).cells ((Rm 4 93 0 0)).slots A) (H : Heap) (locs : List Loc) (ls : Array Slot) (hP : va_P D vwCl [(k, .inr (8, [.ref k_x_, .ref k_y_, .ref k_web_, .ref k_asks_, .ref k_threads_, .int k_today, .int k_day, .ref k_seen_])), (k_x_, .inl (cy 1, 8, .inl k_x)), (k_y_, .inl (cy 1, 8, .inl k_y)), (k_web_, .inl (cy 1, 8, .inl k_web)), (k_asks_, .inl (cy 1, 8, .inl k_asks)), (k_threads_, .inl (cy 1, 64, .inl k_threads)), (k_seen_, .inl (cy 1, 8, .inl k_seen)), (h, .inr (6, [.int h_wide, .int h_high, .int h_law, .int h_spin, .int h_line, .int h_draught, .int h_books, .int h_rare, .ref h_quarrels_, .ref h_nameSizes_, .ref h_names_])), (h_quarrels_, .inl (cy 1, 8, .inl h_quarrels)), (h_nameSizes_, .inl (cy 1, 8, .inl h_nameSizes)), (h_names_, .inl (cy 1, 56, .inl h_names))] H) (hD : va_D A [(k, .inr (8, [.ref k_x_, .ref k_y_, .ref k_web_, .ref k_asks_, .ref k_threads_, .int k_today, .int k_day, .ref k_seen_])), (k_x_, .inl (cy 1, 8, .inl k_x)), (k_y_, .inl (cy 1, 8, .inl k_y)), (k_web_, .inl (cy 1, 8, .inl k_web)), (k_asks_, .inl (cy 1, 8, .inl k_asks)), (k_threads_, .inl (cy 1, 64, .inl k_threads)), (k_seen_, .inl (cy 1, 8, .inl k_seen)), (h, .inr (6, [.int h_wide, .int h_high, .int h_law, .int h_spin, .int h_line, .int h_draught, .int h_books, .int h_rare, .ref h_quarrels_, .ref h_nameSizes_, .ref h_names_])), (h_quarrels_, .inl (cy 1, 8, .inl h_quarrels)), (h_nameSizes_, .inl (cy 1, 8, .inl h_nameSizes)), (h_names_, .inl (cy 1, 56, .inl h_names))]) (hS : va_S A s.heap H locs) (hl : lv_has ls 7 [(0, .ref k), (1, .ref h), (2, .int v), (3, .int w)]) : W p l e (Rm 4 93 0 0) s m args below meth c H locs cells slots Q (F0 m 0 ls []) := by
  have hx := C.1
  have hb := C.2.1
  have hqv := o_rng v
  have hqw := o_rng w
  refine lv_iload_n hx hb dX8_passDays_0 rfl (lv_at hl 2 rfl) ?_
  refine lv_sipush (v := 400) hx hb dX8_passDays_1 (by decide) ?_
  refine lv_aload_n hx hb dX8_passDays_4 rfl (lv_at hl 0 rfl) ?_
  refine q_get (v := .int k_day) C hP 0 6 rfl rfl inX8 (by decide) kF_RX8_31 rfl rfl dX8_passDays_5 ?_
  refine lv_isub hx hb dX8_passDays_8 ?_
  refine lv_topi (fun z_1 hz_1 => ?_)
  clear hz_1
  refine q_mmin C hl.1 kM_RX8_91 (Nat.le_of_ble_eq_true rfl) (Nat.le_of_ble_eq_true rfl) hroom.1 hroom.2 dX8_passDays_9 ?_
  refine lv_topi (fun z_2 hz_2 => ?_)
  have hz_2 := o_min hz_2 (rfl : v.toInt = v.toInt) (rfl : z_1.toInt = z_1.toInt)
  refine lv_istore (lv' := [(4, .int z_2), (0, .ref k), (1, .ref h), (2, .int v), (3, .int w)]) hx hb dX8_passDays_12 hl (by decide) rfl (fun ls hl => ?_)
  refine lv_iconst (v := 0) hx hb dX8_passDays_14 (by decide) ?_
  refine lv_istore (lv' := [(5, .int 0), (4, .int z_2), (0, .ref k), (1, .ref h), (2, .int v), (3, .int w)]) hx hb dX8_passDays_15 hl (by decide) rfl (fun ls hl => ?_)
  have lp_17_4 : ∀ (n_5 : Nat) (x_3 : Int32) (g_4 : Nat → Int32) (H : Heap) (locs : List Loc) (ls : Array Slot), (-1) * x_3.toInt + 8 < (n_5 : Int) → (0 ≤ x_3.toInt ∧ x_3.toInt ≤ 8) → va_P D vwCl [(k, .inr (8, [.ref k_x_, .ref k_y_, .ref k_web_, .ref k_asks_, .ref k_threads_, .int k_today, .int k_day, .ref k_seen_])), (k_x_, .inl (cy 1, 8, .inl k_x)), (k_y_, .inl (cy 1, 8, .inl k_y)), (k_web_, .inl (cy 1, 8, .inl k_web)), (k_asks_, .inl (cy 1, 8, .inl k_asks)), (k_threads_, .inl (cy 1, 64, .inl k_threads)), (k_seen_, .inl (cy 1, 8, .inl g_4)), (h, .inr (6, [.int h_wide, .int h_high, .int h_law, .int h_spin, .int h_line, .int h_draught, .int h_books, .int h_rare, .ref h_quarrels_, .ref h_nameSizes_, .ref h_names_])), (h_quarrels_, .inl (cy 1, 8, .inl h_quarrels)), (h_nameSizes_, .inl (cy 1, 8, .inl h_nameSizes)), (h_names_, .inl (cy 1, 56, .inl h_names))] H → va_D A [(k, .inr (8, [.ref k_x_, .ref k_y_, .ref k_web_, .ref k_asks_, .ref k_threads_, .int k_today, .int k_day, .ref k_seen_])), (k_x_, .inl (cy 1, 8, .inl k_x)), (k_y_, .inl (cy 1, 8, .inl k_y)), (k_web_, .inl (cy 1, 8, .inl k_web)), (k_asks_, .inl (cy 1, 8, .inl k_asks)), (k_threads_, .inl (cy 1, 64, .inl k_threads)), (k_seen_, .inl (cy 1, 8, .inl g_4)), (h, .inr (6, [.int h_wide, .int h_high, .int h_law, .int h_spin, .int h_line, .int h_draught, .int h_books, .int h_rare, .ref h_quarrels_, .ref h_nameSizes_, .ref h_names_])), (h_quarrels_, .inl (cy 1, 8, .inl h_quarrels)), (h_nameSizes_, .inl (cy 1, 8, .inl h_nameSizes)), (h_names_, .inl (cy 1, 56, .inl h_names))] → va_S A s.heap H locs → lv_has ls 7 [(0, .ref k), (1, .ref h), (3, .int w), (4, .int z_2), (5, .int x_3)] → W p l e (Rm 4 93 0 0) s m args below meth c H locs cells slots Q (F0 m 17 ls []) := by
    intro n_5
    induction n_5 with
    | zero =>
      intro x_3 g_4 H locs ls hm_7 hf_6 hP hD hS hl
      exact absurd hm_7 (by omega)
    | succ n_5 ih_8 =>
      intro x_3 g_4 H locs ls hm_7 hf_6 hP hD hS hl
      refine lv_iload hx hb dX8_passDays_17 (lv_at hl 4 rfl) ?_
      refine lv_aload_n hx hb dX8_passDays_19 rfl (lv_at hl 1 rfl) ?_
      refine q_get (v := .int h_books) C hP 7 6 rfl rfl inX6 (by decide) kF_RX8_53 rfl rfl dX8_passDays_20 ?_
      refine lv_icmp_ge (tgt := 49) hx hb dX8_passDays_23 (by decide) (fun c_10 => ?_) (fun c_10 => ?_)
      · have hc_10 := o_le (rfl : h_books.toInt = h_books.toInt) (rfl : x_3.toInt = x_3.toInt) c_10
        refine lv_iload_n hx hb dX8_passDays_49 rfl (lv_at hl 2 rfl) ?_
        refine lv_istore (lv' := [(5, .int w), (0, .ref k), (1, .ref h), (3, .int w), (4, .int z_2)]) hx hb dX8_passDays_50 hl (by decide) rfl (fun ls hl => ?_)
        refine lv_iconst (v := 0) hx hb dX8_passDays_52 (by decide) ?_
        refine lv_istore (lv' := [(6, .int 0), (5, .int w), (0, .ref k), (1, .ref h), (3, .int w), (4, .int z_2)]) hx hb dX8_passDays_53 hl (by decide) rfl (fun ls hl => ?_)
        have lp_55_16 : ∀ (n_17 : Nat) (x_11 : Int32) (x_12 : Int32) (g_13 : Nat → Int32) (g_14 : Nat → Int32) (x_15 : Int32) (x_16 : Int32) (H : Heap) (locs : List Loc) (ls : Array Slot), (-1) * x_12.toInt + 2147483647 < (n_17 : Int) → (0 ≤ x_12.toInt) → (x_12.toInt ≤ 2147483647) → va_P D vwCl [(k, .inr (8, [.ref k_x_, .ref k_y_, .ref k_web_, .ref k_asks_, .ref k_threads_, .int x_15, .int x_16, .ref k_seen_])), (k_x_, .inl (cy 1, 8, .inl k_x)), (k_y_, .inl (cy 1, 8, .inl k_y)), (k_web_, .inl (cy 1, 8, .inl g_14)), (k_asks_, .inl (cy 1, 8, .inl k_asks)), (k_threads_, .inl (cy 1, 64, .inl g_13)), (k_seen_, .inl (cy 1, 8, .inl g_4)), (h, .inr (6, [.int h_wide, .int h_high, .int h_law, .int h_spin, .int h_line, .int h_draught, .int h_books, .int h_rare, .ref h_quarrels_, .ref h_nameSizes_, .ref h_names_])), (h_quarrels_, .inl (cy 1, 8, .inl h_quarrels)), (h_nameSizes_, .inl (cy 1, 8, .inl h_nameSizes)), (h_names_, .inl (cy 1, 56, .inl h_names))] H → va_D A [(k, .inr (8, [.ref k_x_, .ref k_y_, .ref k_web_, .ref k_asks_, .ref k_threads_, .int x_15, .int x_16, .ref k_seen_])), (k_x_, .inl (cy 1, 8, .inl k_x)), (k_y_, .inl (cy 1, 8, .inl k_y)), (k_web_, .inl (cy 1, 8, .inl g_14)), (k_asks_, .inl (cy 1, 8, .inl k_asks)), (k_threads_, .inl (cy 1, 64, .inl g_13)), (k_seen_, .inl (cy 1, 8, .inl g_4)), (h, .inr (6, [.int h_wide, .int h_high, .int h_law, .int h_spin, .int h_line, .int h_draught, .int h_books, .int h_rare, .ref h_quarrels_, .ref h_nameSizes_, .ref h_names_])), (h_quarrels_, .inl (cy 1, 8, .inl h_quarrels)), (h_nameSizes_, .inl (cy 1, 8, .inl h_nameSizes)), (h_names_, .inl (cy 1, 56, .inl h_names))] → va_S A s.heap H locs → lv_has ls 7 [(0, .ref k), (1, .ref h), (4, .int z_2), (5, .int x_11), (6, .int x_12)] → W p l e (Rm 4 93 0 0) s m args below meth c H locs cells slots Q (F0 m 55 ls []) := by
          intro n_17
          induction n_17 with
          | zero =>
            intro x_11 x_12 g_13 g_14 x_15 x_16 H locs ls hm_20 hf_18 hf_19 hP hD hS hl
            exact absurd hm_20 (by omega)
          | succ n_17 ih_21 =>
            intro x_11 x_12 g_13 g_14 x_15 x_16 H locs ls hm_20 hf_18 hf_19 hP hD hS hl
            refine lv_iload hx hb dX8_passDays_55 (lv_at hl 4 rfl) ?_
            refine lv_iload hx hb dX8_passDays_57 (lv_at hl 2 rfl) ?_
            refine lv_icmp_ge (tgt := 105) hx hb dX8_passDays_59 (by decide) (fun c_23 => ?_) (fun c_23 => ?_)
            · have hc_23 := o_le (rfl : z_2.toInt = z_2.toInt) (rfl : x_12.toInt = x_12.toInt) c_23
              refine lv_iload hx hb dX8_passDays_105 (lv_at hl 2 rfl) ?_
              refine o_wq hQ ?_
              exact q_iret (rm := (Rm 4 93 0 0)) C hS (x_15, x_16, g_14, g_13, g_4) rfl trivial (q_subP hP [0, 1, 2, 3, 4, 5, 6, 7, 8, 9, 10] rfl) (hD.sub [0, 1, 2, 3, 4, 5, 6, 7, 8, 9, 10] (by decide) rfl) hroom.1 hroom.2 dX8_passDays_107
            · have hc_23 := o_nle (rfl : z_2.toInt = z_2.toInt) (rfl : x_12.toInt = x_12.toInt) c_23
              refine lv_aload_n hx hb dX8_passDays_62 rfl (lv_at hl 0 rfl) ?_
              refine lv_aload_n hx hb dX8_passDays_63 rfl (lv_at hl 1 rfl) ?_
              refine q_av (wr := []) (r_V (rm := (Rm 1 30 0 0)) (q0 := 0) (As := [.ref h]) (rest := []) (wc := [(k, .inr (8, [.ref k_x_, .ref k_y_, .ref k_web_, .ref k_asks_, .ref k_threads_, .int x_15, .int x_16, .ref k_seen_])), (k_x_, .inl (cy 1, 8, .inl k_x)), (k_y_, .inl (cy 1, 8, .inl k_y)), (k_web_, .inl (cy 1, 8, .inl g_14)), (k_asks_, .inl (cy 1, 8, .inl k_asks)), (k_threads_, .inl (cy 1, 64, .inl g_13)), (k_seen_, .inl (cy 1, 8, .inl g_4)), (h, .inr (6, [.int h_wide, .int h_high, .int h_law, .int h_spin, .int h_line, .int h_draught, .int h_books, .int h_rare, .ref h_quarrels_, .ref h_nameSizes_, .ref h_names_])), (h_quarrels_, .inl (cy 1, 8, .inl h_quarrels)), (h_nameSizes_, .inl (cy 1, 8, .inl h_nameSizes)), (h_names_, .inl (cy 1, 56, .inl h_names))]) C hS (q_subP hP [0, 1, 2, 3, 4, 5, 6, 7, 8, 9, 10] rfl) (hD.sub [0, 1, 2, 3, 4, 5, 6, 7, 8, 9, 10] (by decide) rfl) (o_growWebs l D cy k h k_x_ k_y_ k_web_ k_asks_ k_threads_ x_15 x_16 k_seen_ k_x k_y g_14 k_asks g_13 g_4 h_wide h_high h_law h_spin h_line h_draught h_books h_rare h_quarrels_ h_nameSizes_ h_names_ h_quarrels h_nameSizes h_names _ (by omega) (by omega) (by omega) hR0 hR1 hR2) kwV_X8_growWebs kM_RX8_99 rfl rfl ⟨Nat.le_of_ble_eq_true rfl, Nat.le_of_ble_eq_true rfl⟩ rfl hl.1 rfl (Nat.le_of_ble_eq_true rfl) dX8_passDays_64 ⟨hroom.1, hroom.2⟩) C.2.2.2.2.2.2.1 hP hD hS [0, 1, 2, 3, 4, 5, 6, 7, 8, 9, 10] [] rfl rfl (by decide) (by decide) (fun u_24 H locs hw_26 hP hD hS => ?_)
              obtain ⟨g_27, rfl⟩ : ∃ z, z = u_24 := ⟨_, rfl⟩
              have hP : va_P D vwCl [(k, .inr (8, [.ref k_x_, .ref k_y_, .ref k_web_, .ref k_asks_, .ref k_threads_, .int x_15, .int x_16, .ref k_seen_])), (k_x_, .inl (cy 1, 8, .inl k_x)), (k_y_, .inl (cy 1, 8, .inl k_y)), (k_web_, .inl (cy 1, 8, .inl g_27)), (k_asks_, .inl (cy 1, 8, .inl k_asks)), (k_threads_, .inl (cy 1, 64, .inl g_13)), (k_seen_, .inl (cy 1, 8, .inl g_4)), (h, .inr (6, [.int h_wide, .int h_high, .int h_law, .int h_spin, .int h_line, .int h_draught, .int h_books, .int h_rare, .ref h_quarrels_, .ref h_nameSizes_, .ref h_names_])), (h_quarrels_, .inl (cy 1, 8, .inl h_quarrels)), (h_nameSizes_, .inl (cy 1, 8, .inl h_nameSizes)), (h_names_, .inl (cy 1, 56, .inl h_names))] H := hP
              have hD : va_D A [(k, .inr (8, [.ref k_x_, .ref k_y_, .ref k_web_, .ref k_asks_, .ref k_threads_, .int x_15, .int x_16, .ref k_seen_])), (k_x_, .inl (cy 1, 8, .inl k_x)), (k_y_, .inl (cy 1, 8, .inl k_y)), (k_web_, .inl (cy 1, 8, .inl g_27)), (k_asks_, .inl (cy 1, 8, .inl k_asks)), (k_threads_, .inl (cy 1, 64, .inl g_13)), (k_seen_, .inl (cy 1, 8, .inl g_4)), (h, .inr (6, [.int h_wide, .int h_high, .int h_law, .int h_spin, .int h_line, .int h_draught, .int h_books, .int h_rare, .ref h_quarrels_, .ref h_nameSizes_, .ref h_names_])), (h_quarrels_, .inl (cy 1, 8, .inl h_quarrels)), (h_nameSizes_, .inl (cy 1, 8, .inl h_nameSizes)), (h_names_, .inl (cy 1, 56, .inl h_names))] := hD
              refine lv_aload_n hx hb dX8_passDays_67 rfl (lv_at hl 0 rfl) ?_
              refine lv_aload_n hx hb dX8_passDays_68 rfl (lv_at hl 1 rfl) ?_
              refine q_get (v := .int h_books) C hP 7 6 rfl rfl inX6 (by decide) kF_RX8_53 rfl rfl dX8_passDays_69 ?_
              refine q_av (wr := [(h, .inr (6, [.int h_wide, .int h_high, .int h_law, .int h_spin, .int h_line, .int h_draught, .int h_books, .int h_rare, .ref h_quarrels_, .ref h_nameSizes_, .ref h_names_])), (h_quarrels_, .inl (cy 1, 8, .inl h_quarrels)), (h_nameSizes_, .inl (cy 1, 8, .inl h_nameSizes)), (h_names_, .inl (cy 1, 56, .inl h_names))]) (r_V (rm := (Rm 2 44 0 0)) (q0 := 0) (As := [.int h_books]) (rest := []) (wc := [(k, .inr (8, [.ref k_x_, .ref k_y_, .ref k_web_, .ref k_asks_, .ref k_threads_, .int x_15, .int x_16, .ref k_seen_])), (k_x_, .inl (cy 1, 8, .inl k_x)), (k_y_, .inl (cy 1, 8, .inl k_y)), (k_web_, .inl (cy 1, 8, .inl g_27)), (k_asks_, .inl (cy 1, 8, .inl k_asks)), (k_threads_, .inl (cy 1, 64, .inl g_13)), (k_seen_, .inl (cy 1, 8, .inl g_4))]) C hS (q_subP hP [0, 1, 2, 3, 4, 5, 6] rfl) (hD.sub [0, 1, 2, 3, 4, 5, 6] (by decide) rfl) (o_growThreads l D cy k h_books k_x_ k_y_ k_web_ k_asks_ k_threads_ x_15 x_16 k_seen_ k_x k_y g_27 k_asks g_13 g_4 _ (by omega) hR0 hR1) kwV_X8_growThreads kM_RX8_103 rfl rfl ⟨Nat.le_of_ble_eq_true rfl, Nat.le_of_ble_eq_true rfl⟩ rfl hl.1 rfl (Nat.le_of_ble_eq_true rfl) dX8_passDays_72 ⟨hroom.1, hroom.2⟩) C.2.2.2.2.2.2.1 hP hD hS [0, 1, 2, 3, 4, 5, 6] [7, 8, 9, 10] rfl rfl (by decide) (by decide) (fun u_28 H locs hw_30 hP hD hS => ?_)
              obtain ⟨g_31, rfl⟩ : ∃ z, z = u_28 := ⟨_, rfl⟩
              have hP : va_P D vwCl [(h, .inr (6, [.int h_wide, .int h_high, .int h_law, .int h_spin, .int h_line, .int h_draught, .int h_books, .int h_rare, .ref h_quarrels_, .ref h_nameSizes_, .ref h_names_])), (h_quarrels_, .inl (cy 1, 8, .inl h_quarrels)), (h_nameSizes_, .inl (cy 1, 8, .inl h_nameSizes)), (h_names_, .inl (cy 1, 56, .inl h_names)), (k, .inr (8, [.ref k_x_, .ref k_y_, .ref k_web_, .ref k_asks_, .ref k_threads_, .int x_15, .int x_16, .ref k_seen_])), (k_x_, .inl (cy 1, 8, .inl k_x)), (k_y_, .inl (cy 1, 8, .inl k_y)), (k_web_, .inl (cy 1, 8, .inl g_27)), (k_asks_, .inl (cy 1, 8, .inl k_asks)), (k_threads_, .inl (cy 1, 64, .inl g_31)), (k_seen_, .inl (cy 1, 8, .inl g_4))] H := hP
              have hD : va_D A [(h, .inr (6, [.int h_wide, .int h_high, .int h_law, .int h_spin, .int h_line, .int h_draught, .int h_books, .int h_rare, .ref h_quarrels_, .ref h_nameSizes_, .ref h_names_])), (h_quarrels_, .inl (cy 1, 8, .inl h_quarrels)), (h_nameSizes_, .inl (cy 1, 8, .inl h_nameSizes)), (h_names_, .inl (cy 1, 56, .inl h_names)), (k, .inr (8, [.ref k_x_, .ref k_y_, .ref k_web_, .ref k_asks_, .ref k_threads_, .int x_15, .int x_16, .ref k_seen_])), (k_x_, .inl (cy 1, 8, .inl k_x)), (k_y_, .inl (cy 1, 8, .inl k_y)), (k_web_, .inl (cy 1, 8, .inl g_27)), (k_asks_, .inl (cy 1, 8, .inl k_asks)), (k_threads_, .inl (cy 1, 64, .inl g_31)), (k_seen_, .inl (cy 1, 8, .inl g_4))] := hD
              refine lv_aload_n hx hb dX8_passDays_75 rfl (lv_at hl 0 rfl) ?_
              refine lv_aload_n hx hb dX8_passDays_76 rfl (lv_at hl 1 rfl) ?_
              refine lv_iload hx hb dX8_passDays_77 (lv_at hl 3 rfl) ?_
              refine q_ai (wr := []) (r_V (rm := (Rm 2 43 0 0)) (q0 := 0) (As := [.ref h, .int x_11]) (rest := []) (wc := [(k, .inr (8, [.ref k_x_, .ref k_y_, .ref k_web_, .ref k_asks_, .ref k_threads_, .int x_15, .int x_16, .ref k_seen_])), (k_x_, .inl (cy 1, 8, .inl k_x)), (k_y_, .inl (cy 1, 8, .inl k_y)), (k_web_, .inl (cy 1, 8, .inl g_27)), (k_asks_, .inl (cy 1, 8, .inl k_asks)), (k_threads_, .inl (cy 1, 64, .inl g_31)), (k_seen_, .inl (cy 1, 8, .inl g_4)), (h, .inr (6, [.int h_wide, .int h_high, .int h_law, .int h_spin, .int h_line, .int h_draught, .int h_books, .int h_rare, .ref h_quarrels_, .ref h_nameSizes_, .ref h_names_])), (h_quarrels_, .inl (cy 1, 8, .inl h_quarrels)), (h_nameSizes_, .inl (cy 1, 8, .inl h_nameSizes)), (h_names_, .inl (cy 1, 56, .inl h_names))]) C hS (q_subP hP [4, 5, 6, 7, 8, 9, 10, 0, 1, 2, 3] rfl) (hD.sub [4, 5, 6, 7, 8, 9, 10, 0, 1, 2, 3] (by decide) rfl) (o_blow l D cy k h x_11 k_x_ k_y_ k_web_ k_asks_ k_threads_ x_15 x_16 k_seen_ k_x k_y g_27 k_asks g_31 g_4 h_wide h_high h_law h_spin h_line h_draught h_books h_rare h_quarrels_ h_nameSizes_ h_names_ h_quarrels h_nameSizes h_names _ (by omega) (by omega) (by omega) hR0 hR1 hR2) kwV_X8_blow kM_RX8_106 rfl rfl ⟨Nat.le_of_ble_eq_true rfl, Nat.le_of_ble_eq_true rfl⟩ rfl hl.1 rfl (Nat.le_of_ble_eq_true rfl) dX8_passDays_79 ⟨hroom.1, hroom.2⟩) C.2.2.2.2.2.2.1 hP hD hS [4, 5, 6, 7, 8, 9, 10, 0, 1, 2, 3] [] rfl rfl (by decide) (by decide) (fun r_33 u_32 H locs hw_34 hP hD hS => ?_)
              obtain ⟨g_35, g_36⟩ := u_32
              have hP : va_P D vwCl [(k, .inr (8, [.ref k_x_, .ref k_y_, .ref k_web_, .ref k_asks_, .ref k_threads_, .int x_15, .int x_16, .ref k_seen_])), (k_x_, .inl (cy 1, 8, .inl k_x)), (k_y_, .inl (cy 1, 8, .inl k_y)), (k_web_, .inl (cy 1, 8, .inl g_35)), (k_asks_, .inl (cy 1, 8, .inl k_asks)), (k_threads_, .inl (cy 1, 64, .inl g_36)), (k_seen_, .inl (cy 1, 8, .inl g_4)), (h, .inr (6, [.int h_wide, .int h_high, .int h_law, .int h_spin, .int h_line, .int h_draught, .int h_books, .int h_rare, .ref h_quarrels_, .ref h_nameSizes_, .ref h_names_])), (h_quarrels_, .inl (cy 1, 8, .inl h_quarrels)), (h_nameSizes_, .inl (cy 1, 8, .inl h_nameSizes)), (h_names_, .inl (cy 1, 56, .inl h_names))] H := hP
              have hD : va_D A [(k, .inr (8, [.ref k_x_, .ref k_y_, .ref k_web_, .ref k_asks_, .ref k_threads_, .int x_15, .int x_16, .ref k_seen_])), (k_x_, .inl (cy 1, 8, .inl k_x)), (k_y_, .inl (cy 1, 8, .inl k_y)), (k_web_, .inl (cy 1, 8, .inl g_35)), (k_asks_, .inl (cy 1, 8, .inl k_asks)), (k_threads_, .inl (cy 1, 64, .inl g_36)), (k_seen_, .inl (cy 1, 8, .inl g_4)), (h, .inr (6, [.int h_wide, .int h_high, .int h_law, .int h_spin, .int h_line, .int h_draught, .int h_books, .int h_rare, .ref h_quarrels_, .ref h_nameSizes_, .ref h_names_])), (h_quarrels_, .inl (cy 1, 8, .inl h_quarrels)), (h_nameSizes_, .inl (cy 1, 8, .inl h_nameSizes)), (h_names_, .inl (cy 1, 56, .inl h_names))] := hD
              refine lv_istore (lv' := [(5, .int r_33), (0, .ref k), (1, .ref h), (4, .int z_2), (6, .int x_12)]) hx hb dX8_passDays_82 hl (by decide) rfl (fun ls hl => ?_)
              refine lv_aload_n hx hb dX8_passDays_84 rfl (lv_at hl 1 rfl) ?_
              refine lv_dup hx hb dX8_passDays_85 rfl ?_
              refine q_get (v := .int x_16) C hP 0 6 rfl rfl inX8 (by decide) kF_RX8_31 rfl rfl dX8_passDays_86 ?_
              refine lv_iconst (v := 1) hx hb dX8_passDays_89 (by decide) ?_
              refine lv_iadd hx hb dX8_passDays_90 ?_
              refine lv_topi (fun z_37 hz_37 => ?_)
              clear hz_37
              refine q_put (v := .int z_37) (w' := [(k, .inr (8, [.ref k_x_, .ref k_y_, .ref k_web_, .ref k_asks_, .ref k_threads_, .int x_15, .int z_37, .ref k_seen_])), (k_x_, .inl (cy 1, 8, .inl k_x)), (k_y_, .inl (cy 1, 8, .inl k_y)), (k_web_, .inl (cy 1, 8, .inl g_35)), (k_asks_, .inl (cy 1, 8, .inl k_asks)), (k_threads_, .inl (cy 1, 64, .inl g_36)), (k_seen_, .inl (cy 1, 8, .inl g_4)), (h, .inr (6, [.int h_wide, .int h_high, .int h_law, .int h_spin, .int h_line, .int h_draught, .int h_books, .int h_rare, .ref h_quarrels_, .ref h_nameSizes_, .ref h_names_])), (h_quarrels_, .inl (cy 1, 8, .inl h_quarrels)), (h_nameSizes_, .inl (cy 1, 8, .inl h_nameSizes)), (h_names_, .inl (cy 1, 56, .inl h_names))]) (ty := .int) C hP hD hS 0 6 rfl rfl inX8 tyX8 tyX8_ok nmX8 (by decide) kF_RX8_31 rfl rfl rfl rfl rfl (Nat.le_of_ble_eq_true rfl) rfl dX8_passDays_91 (fun H locs hP hD hS => ?_)
              refine lv_aload_n hx hb dX8_passDays_94 rfl (lv_at hl 1 rfl) ?_
              refine lv_iconst (v := 0) hx hb dX8_passDays_95 (by decide) ?_
              refine q_put (v := .int 0) (w' := [(k, .inr (8, [.ref k_x_, .ref k_y_, .ref k_web_, .ref k_asks_, .ref k_threads_, .int 0, .int z_37, .ref k_seen_])), (k_x_, .inl (cy 1, 8, .inl k_x)), (k_y_, .inl (cy 1, 8, .inl k_y)), (k_web_, .inl (cy 1, 8, .inl g_35)), (k_asks_, .inl (cy 1, 8, .inl k_asks)), (k_threads_, .inl (cy 1, 64, .inl g_36)), (k_seen_, .inl (cy 1, 8, .inl g_4)), (h, .inr (6, [.int h_wide, .int h_high, .int h_law, .int h_spin, .int h_line, .int h_draught, .int h_books, .int h_rare, .ref h_quarrels_, .ref h_nameSizes_, .ref h_names_])), (h_quarrels_, .inl (cy 1, 8, .inl h_quarrels)), (h_nameSizes_, .inl (cy 1, 8, .inl h_nameSizes)), (h_names_, .inl (cy 1, 56, .inl h_names))]) (ty := .int) C hP hD hS 0 5 rfl rfl inX8 tyX8 tyX8_ok nmX8 (by decide) kF_RX8_27 rfl rfl rfl rfl rfl (Nat.le_of_ble_eq_true rfl) rfl dX8_passDays_96 (fun H locs hP hD hS => ?_)
              obtain ⟨z_38, hz_38⟩ : ∃ z : Int32, z = x_12 + 1 := ⟨_, rfl⟩
              refine lv_iinc (v := z_38) (lv' := [(6, .int z_38), (5, .int r_33), (0, .ref k), (1, .ref h), (4, .int z_2)]) hx hb dX8_passDays_99 hl (k := 4) rfl hz_38.symm (by decide) rfl (fun ls hl => ?_)
              have hz_38 := o_add hz_38 (rfl : x_12.toInt = x_12.toInt) (by decide : (1 : Int32).toInt = 1) (by omega) (by omega)
              refine lv_goto (tgt := 55) hx hb dX8_passDays_102 (by decide) ?_
              exact ih_21 r_33 z_38 g_36 g_35 (0 : Int32) z_37 H locs ls (by have e0 : (0 : Int32).toInt = 0 := (by decide); omega) (by have e0 : (0 : Int32).toInt = 0 := (by decide); omega) (by have e0 : (0 : Int32).toInt = 0 := (by decide); omega) hP hD hS (lv_sub hl [2, 3, 4, 1, 0] rfl)
        exact lp_55_16 2147483648 w (0 : Int32) k_threads k_web k_today k_day H locs ls (by have e0 : (0 : Int32).toInt = 0 := (by decide); omega) (by have e0 : (0 : Int32).toInt = 0 := (by decide); omega) (by have e0 : (0 : Int32).toInt = 0 := (by decide); omega) hP hD hS (lv_sub hl [2, 3, 5, 1, 0] rfl)
      · have hc_10 := o_nle (rfl : h_books.toInt = h_books.toInt) (rfl : x_3.toInt = x_3.toInt) c_10
        refine lv_aload_n hx hb dX8_passDays_26 rfl (lv_at hl 0 rfl) ?_
        refine q_get (v := .ref k_seen_) C hP 0 7 rfl rfl inX8 (by decide) kF_RX8_34 rfl rfl dX8_passDays_27 ?_
        refine lv_iload hx hb dX8_passDays_30 (lv_at hl 4 rfl) ?_
        refine lv_aload_n hx hb dX8_passDays_32 rfl (lv_at hl 0 rfl) ?_
        refine lv_aload_n hx hb dX8_passDays_33 rfl (lv_at hl 1 rfl) ?_
        refine q_get (v := .int h_books) C hP 7 6 rfl rfl inX6 (by decide) kF_RX8_53 rfl rfl dX8_passDays_34 ?_
        refine lv_iload hx hb dX8_passDays_37 (lv_at hl 4 rfl) ?_
        refine q_ai (wr := [(h, .inr (6, [.int h_wide, .int h_high, .int h_law, .int h_spin, .int h_line, .int h_draught, .int h_books, .int h_rare, .ref h_quarrels_, .ref h_nameSizes_, .ref h_names_])), (h_quarrels_, .inl (cy 1, 8, .inl h_quarrels)), (h_nameSizes_, .inl (cy 1, 8, .inl h_nameSizes)), (h_names_, .inl (cy 1, 56, .inl h_names))]) (r_V (rm := (Rm 3 69 0 0)) (q0 := 0) (As := [.int h_books, .int x_3]) (rest := [.int x_3, .ref k_seen_]) (wc := [(k, .inr (8, [.ref k_x_, .ref k_y_, .ref k_web_, .ref k_asks_, .ref k_threads_, .int k_today, .int k_day, .ref k_seen_])), (k_x_, .inl (cy 1, 8, .inl k_x)), (k_y_, .inl (cy 1, 8, .inl k_y)), (k_web_, .inl (cy 1, 8, .inl k_web)), (k_asks_, .inl (cy 1, 8, .inl k_asks)), (k_threads_, .inl (cy 1, 64, .inl k_threads)), (k_seen_, .inl (cy 1, 8, .inl g_4))]) C hS (q_subP hP [0, 1, 2, 3, 4, 5, 6] rfl) (hD.sub [0, 1, 2, 3, 4, 5, 6] (by decide) rfl) (o_seenFrom l D cy k h_books x_3 k_x_ k_y_ k_web_ k_asks_ k_threads_ k_today k_day k_seen_ k_x k_y k_web k_asks k_threads g_4 _ (by omega) (by omega) hR0 hR1) kwV_X8_seenFrom kM_RX8_96 rfl rfl ⟨Nat.le_of_ble_eq_true rfl, Nat.le_of_ble_eq_true rfl⟩ rfl hl.1 rfl (Nat.le_of_ble_eq_true rfl) dX8_passDays_39 ⟨hroom.1, hroom.2⟩) C.2.2.2.2.2.2.1 hP hD hS [0, 1, 2, 3, 4, 5, 6] [7, 8, 9, 10] rfl rfl (by decide) (by decide) (fun r_40 u_39 H locs hw_41 hP hD hS => ?_)
        refine q_iast (g := upd g_4 x_3.toNatClampNeg r_40) (w' := [(h, .inr (6, [.int h_wide, .int h_high, .int h_law, .int h_spin, .int h_line, .int h_draught, .int h_books, .int h_rare, .ref h_quarrels_, .ref h_nameSizes_, .ref h_names_])), (h_quarrels_, .inl (cy 1, 8, .inl h_quarrels)), (h_nameSizes_, .inl (cy 1, 8, .inl h_nameSizes)), (h_names_, .inl (cy 1, 56, .inl h_names)), (k, .inr (8, [.ref k_x_, .ref k_y_, .ref k_web_, .ref k_asks_, .ref k_threads_, .int k_today, .int k_day, .ref k_seen_])), (k_x_, .inl (cy 1, 8, .inl k_x)), (k_y_, .inl (cy 1, 8, .inl k_y)), (k_web_, .inl (cy 1, 8, .inl k_web)), (k_asks_, .inl (cy 1, 8, .inl k_asks)), (k_threads_, .inl (cy 1, 64, .inl k_threads)), (k_seen_, .inl (cy 1, 8, .inl (upd g_4 x_3.toNatClampNeg r_40)))]) C hP hD hS 10 rfl (o_in (rfl : x_3.toInt = x_3.toInt) (by omega) (by omega)) rfl rfl dX8_passDays_42 (fun H locs hP hD hS => ?_)
        generalize upd g_4 x_3.toNatClampNeg r_40 = g_42 at hP hD 
        have hP : va_P D vwCl [(h, .inr (6, [.int h_wide, .int h_high, .int h_law, .int h_spin, .int h_line, .int h_draught, .int h_books, .int h_rare, .ref h_quarrels_, .ref h_nameSizes_, .ref h_names_])), (h_quarrels_, .inl (cy 1, 8, .inl h_quarrels)), (h_nameSizes_, .inl (cy 1, 8, .inl h_nameSizes)), (h_names_, .inl (cy 1, 56, .inl h_names)), (k, .inr (8, [.ref k_x_, .ref k_y_, .ref k_web_, .ref k_asks_, .ref k_threads_, .int k_today, .int k_day, .ref k_seen_])), (k_x_, .inl (cy 1, 8, .inl k_x)), (k_y_, .inl (cy 1, 8, .inl k_y)), (k_web_, .inl (cy 1, 8, .inl k_web)), (k_asks_, .inl (cy 1, 8, .inl k_asks)), (k_threads_, .inl (cy 1, 64, .inl k_threads)), (k_seen_, .inl (cy 1, 8, .inl g_42))] H := hP
        have hD : va_D A [(h, .inr (6, [.int h_wide, .int h_high, .int h_law, .int h_spin, .int h_line, .int h_draught, .int h_books, .int h_rare, .ref h_quarrels_, .ref h_nameSizes_, .ref h_names_])), (h_quarrels_, .inl (cy 1, 8, .inl h_quarrels)), (h_nameSizes_, .inl (cy 1, 8, .inl h_nameSizes)), (h_names_, .inl (cy 1, 56, .inl h_names)), (k, .inr (8, [.ref k_x_, .ref k_y_, .ref k_web_, .ref k_asks_, .ref k_threads_, .int k_today, .int k_day, .ref k_seen_])), (k_x_, .inl (cy 1, 8, .inl k_x)), (k_y_, .inl (cy 1, 8, .inl k_y)), (k_web_, .inl (cy 1, 8, .inl k_web)), (k_asks_, .inl (cy 1, 8, .inl k_asks)), (k_threads_, .inl (cy 1, 64, .inl k_threads)), (k_seen_, .inl (cy 1, 8, .inl g_42))] := hD
        obtain ⟨z_43, hz_43⟩ : ∃ z : Int32, z = x_3 + 1 := ⟨_, rfl⟩
        refine lv_iinc (v := z_43) (lv' := [(5, .int z_43), (0, .ref k), (1, .ref h), (3, .int w), (4, .int z_2)]) hx hb dX8_passDays_43 hl (k := 4) rfl hz_43.symm (by decide) rfl (fun ls hl => ?_)
        have hz_43 := o_add hz_43 (rfl : x_3.toInt = x_3.toInt) (by decide : (1 : Int32).toInt = 1) (by omega) (by omega)
        refine lv_goto (tgt := 17) hx hb dX8_passDays_46 (by decide) ?_
        exact ih_8 z_43 g_42 H locs ls (by omega) (by omega) (q_subP hP [4, 5, 6, 7, 8, 9, 10, 0, 1, 2, 3] rfl) (hD.sub [4, 5, 6, 7, 8, 9, 10, 0, 1, 2, 3] (by decide) rfl) hS (lv_sub hl [1, 2, 3, 4, 0] rfl)
  exact lp_17_4 9 (0 : Int32) k_seen H locs ls (by have e0 : (0 : Int32).toInt = 0 := (by decide); omega) (by have e0 : (0 : Int32).toInt = 0 := (by decide); omega) hP hD hS (lv_sub hl [2, 3, 5, 1, 0] rfl)
theorem o_passDays (l : Launch) (D : va_G) (cy : Nat → ClassId) (k : Nat) (h : Nat) (v : Int32) (w : Int32) (k_x_ : Nat) (k_y_ : Nat) (k_web_ : Nat) (k_asks_ : Nat) (k_threads_ : Nat) (k_today : Int32) (k_day : Int32) (k_seen_ : Nat) (k_x : Nat → Int32) (k_y : Nat → Int32) (k_web : Nat → Int32) (k_asks : Nat → Int32) (k_threads : Nat → Int32) (k_seen : Nat → Int32) (h_wide : Int32) (h_high : Int32) (h_law : Int32) (h_spin : Int32) (h_line : Int32) (h_draught : Int32) (h_books : Int32) (h_rare : Int32) (h_quarrels_ : Nat) (h_nameSizes_ : Nat) (h_names_ : Nat) (h_quarrels : Nat → Int32) (h_nameSizes : Nat → Int32) (h_names : Nat → Int32) (sz : Nat) (hb0 : 0 ≤ h_wide.toInt ∧ h_wide.toInt ≤ 6) (hb1 : 0 ≤ h_high.toInt ∧ h_high.toInt ≤ 6) (hb2 : 0 ≤ h_books.toInt ∧ h_books.toInt ≤ 8) (hR0 : Rg k_x 0 8 0 5) (hR1 : Rg k_y 0 8 0 5) (hR2 : Rg h_nameSizes 0 8 (-900) 7) : MI l yX8_passDays cX8_passDays 7 (some .int) (Rm 4 93 0 0) D cy [.ref k, .ref h, .int v, .int w] sz [(k, .inr (8, [.ref k_x_, .ref k_y_, .ref k_web_, .ref k_asks_, .ref k_threads_, .int k_today, .int k_day, .ref k_seen_])), (k_x_, .inl (cy 1, 8, .inl k_x)), (k_y_, .inl (cy 1, 8, .inl k_y)), (k_web_, .inl (cy 1, 8, .inl k_web)), (k_asks_, .inl (cy 1, 8, .inl k_asks)), (k_threads_, .inl (cy 1, 64, .inl k_threads)), (k_seen_, .inl (cy 1, 8, .inl k_seen)), (h, .inr (6, [.int h_wide, .int h_high, .int h_law, .int h_spin, .int h_line, .int h_draught, .int h_books, .int h_rare, .ref h_quarrels_, .ref h_nameSizes_, .ref h_names_])), (h_quarrels_, .inl (cy 1, 8, .inl h_quarrels)), (h_nameSizes_, .inl (cy 1, 8, .inl h_nameSizes)), (h_names_, .inl (cy 1, 56, .inl h_names))] (fun (r : Int32) (u : Int32 × Int32 × (Nat → Int32) × (Nat → Int32) × (Nat → Int32)) => True) (fun u : Int32 × Int32 × (Nat → Int32) × (Nat → Int32) × (Nat → Int32) => [(k, .inr (8, [.ref k_x_, .ref k_y_, .ref k_web_, .ref k_asks_, .ref k_threads_, .int u.1, .int u.2.1, .ref k_seen_])), (k_x_, .inl (cy 1, 8, .inl k_x)), (k_y_, .inl (cy 1, 8, .inl k_y)), (k_web_, .inl (cy 1, 8, .inl u.2.2.1)), (k_asks_, .inl (cy 1, 8, .inl k_asks)), (k_threads_, .inl (cy 1, 64, .inl u.2.2.2.1)), (k_seen_, .inl (cy 1, 8, .inl u.2.2.2.2)), (h, .inr (6, [.int h_wide, .int h_high, .int h_law, .int h_spin, .int h_line, .int h_draught, .int h_books, .int h_rare, .ref h_quarrels_, .ref h_nameSizes_, .ref h_names_])), (h_quarrels_, .inl (cy 1, 8, .inl h_quarrels)), (h_nameSizes_, .inl (cy 1, 8, .inl h_nameSizes)), (h_names_, .inl (cy 1, 56, .inl h_names))]) := by
  refine MI.enter (by decide) (Nat.le_of_ble_eq_true rfl) ?_
  intro p e s m below meth c ls A hsz hAe C hP hD hS hl
  exact b_o_passDays l D cy k h v w k_x_ k_y_ k_web_ k_asks_ k_threads_ k_today k_day k_seen_ k_x k_y k_web k_asks k_threads k_seen h_wide h_high h_law h_spin h_line h_draught h_books h_rare h_quarrels_ h_nameSizes_ h_names_ h_quarrels h_nameSizes h_names hb0 hb1 hb2 hR0 hR1 hR2 ⟨Nat.le_of_ble_eq_true rfl, Nat.le_of_ble_eq_true rfl⟩ C rfl _ _ ls hP hD hS hl
set_option maxHeartbeats 4000000 in
set_option maxRecDepth 100000 in
theorem b_o_webLater (l : Launch) (D : va_G) (cy : Nat → ClassId) (k : Nat) (h : Nat) (a : Int32) (v : Int32) (k_x_ : Nat) (k_y_ : Nat) (k_web_ : Nat) (k_asks_ : Nat) (k_threads_ : Nat) (k_today : Int32) (k_day : Int32) (k_seen_ : Nat) (k_x : Nat → Int32) (k_y : Nat → Int32) (k_web : Nat → Int32) (k_asks : Nat → Int32) (k_threads : Nat → Int32) (k_seen : Nat → Int32) (h_wide : Int32) (h_high : Int32) (h_law : Int32) (h_spin : Int32) (h_line : Int32) (h_draught : Int32) (h_books : Int32) (h_rare : Int32) (h_quarrels_ : Nat) (h_nameSizes_ : Nat) (h_names_ : Nat) (h_quarrels : Nat → Int32) (h_nameSizes : Nat → Int32) (h_names : Nat → Int32) (hb0 : 0 ≤ h_wide.toInt ∧ h_wide.toInt ≤ 6) (hb1 : 0 ≤ h_high.toInt ∧ h_high.toInt ≤ 6) (hb2 : 0 ≤ h_books.toInt ∧ h_books.toInt ≤ 8) (hb3 : 0 ≤ a.toInt ∧ a.toInt ≤ 7) (hR0 : Rg k_x 0 8 0 5) (hR1 : Rg k_y 0 8 0 5) (hR2 : Rg h_nameSizes 0 8 (-900) 7) {p : Program} {e : Env} {s : State} {m : MethodId} {args : Array Value} {below : List Frame} {meth : Method} {c : Code} {A : Nat → Prop} {Q : State → Prop} {cells slots : Nat} (hroom : cells ≤ ((Rm 1 30 0 0)).cells ∧ slots ≤ ((Rm 1 30 0 0)).slots) (C : Cx p s m args meth c cX8_webLater 8 (some .int) RX8 "webLater" D cy A) (hQ : Q = MQ below (va_Qi (fun (r : Int32) (u : Unit) => True) (Bx D A (fun u : Unit => [(k, .inr (8, [.ref k_x_, .ref k_y_, .ref k_web_, .ref k_asks_, .ref k_threads_, .int k_today, .int k_day, .ref k_seen_])), (k_x_, .inl (cy 1, 8, .inl k_x)), (k_y_, .inl (cy 1, 8, .inl k_y)), (k_web_, .inl (cy 1, 8, .inl k_web)), (k_asks_, .inl (cy 1, 8, .inl k_asks)), (k_threads_, .inl (cy 1, 64, .inl k_threads)), (k_seen_, .inl (cy 1, 8, .inl k_seen)), (h, .inr (6, [.int h_wide, .int h_high, .int h_law, .int h_spin, .int h_line, .int h_draught, .int h_books, .int h_rare, .ref h_quarrels_, .ref h_nameSizes_, .ref h_names_])), (h_quarrels_, .inl (cy 1, 8, .inl h_quarrels)), (h_nameSizes_, .inl (cy 1, 8, .inl h_nameSizes)), (h_names_, .inl (cy 1, 56, .inl h_names))])) A) args s ((Rm 1 30 0 0)).cells ((Rm 1 30 0 0)).slots A) (H : Heap) (locs : List Loc) (ls : Array Slot) (hP : va_P D vwCl [(k, .inr (8, [.ref k_x_, .ref k_y_, .ref k_web_, .ref k_asks_, .ref k_threads_, .int k_today, .int k_day, .ref k_seen_])), (k_x_, .inl (cy 1, 8, .inl k_x)), (k_y_, .inl (cy 1, 8, .inl k_y)), (k_web_, .inl (cy 1, 8, .inl k_web)), (k_asks_, .inl (cy 1, 8, .inl k_asks)), (k_threads_, .inl (cy 1, 64, .inl k_threads)), (k_seen_, .inl (cy 1, 8, .inl k_seen)), (h, .inr (6, [.int h_wide, .int h_high, .int h_law, .int h_spin, .int h_line, .int h_draught, .int h_books, .int h_rare, .ref h_quarrels_, .ref h_nameSizes_, .ref h_names_])), (h_quarrels_, .inl (cy 1, 8, .inl h_quarrels)), (h_nameSizes_, .inl (cy 1, 8, .inl h_nameSizes)), (h_names_, .inl (cy 1, 56, .inl h_names))] H) (hD : va_D A [(k, .inr (8, [.ref k_x_, .ref k_y_, .ref k_web_, .ref k_asks_, .ref k_threads_, .int k_today, .int k_day, .ref k_seen_])), (k_x_, .inl (cy 1, 8, .inl k_x)), (k_y_, .inl (cy 1, 8, .inl k_y)), (k_web_, .inl (cy 1, 8, .inl k_web)), (k_asks_, .inl (cy 1, 8, .inl k_asks)), (k_threads_, .inl (cy 1, 64, .inl k_threads)), (k_seen_, .inl (cy 1, 8, .inl k_seen)), (h, .inr (6, [.int h_wide, .int h_high, .int h_law, .int h_spin, .int h_line, .int h_draught, .int h_books, .int h_rare, .ref h_quarrels_, .ref h_nameSizes_, .ref h_names_])), (h_quarrels_, .inl (cy 1, 8, .inl h_quarrels)), (h_nameSizes_, .inl (cy 1, 8, .inl h_nameSizes)), (h_names_, .inl (cy 1, 56, .inl h_names))]) (hS : va_S A s.heap H locs) (hl : lv_has ls 8 [(0, .ref k), (1, .ref h), (2, .int a), (3, .int v)]) : W p l e (Rm 1 30 0 0) s m args below meth c H locs cells slots Q (F0 m 0 ls []) := by
  have hx := C.1
  have hb := C.2.1
  have hqv := o_rng v
  refine lv_aload_n hx hb dX8_webLater_0 rfl (lv_at hl 0 rfl) ?_
  refine q_get (v := .ref k_web_) C hP 0 2 rfl rfl inX8 (by decide) kF_RX8_18 rfl rfl dX8_webLater_1 ?_
  refine lv_iload_n hx hb dX8_webLater_4 rfl (lv_at hl 2 rfl) ?_
  refine q_iald (v := k_web a.toNatClampNeg) C hP 3 rfl (o_in (rfl : a.toInt = a.toInt) (by omega) (by omega)) rfl dX8_webLater_5 ?_
  refine lv_topi (fun z_1 ez_1 => ?_)
  refine lv_istore (lv' := [(4, .int z_1), (0, .ref k), (1, .ref h), (2, .int a), (3, .int v)]) hx hb dX8_webLater_6 hl (by decide) rfl (fun ls hl => ?_)
  refine lv_iload_n hx hb dX8_webLater_8 rfl (lv_at hl 4 rfl) ?_
  refine lv_istore (lv' := [(5, .int v), (4, .int z_1), (0, .ref k), (1, .ref h), (2, .int a), (3, .int v)]) hx hb dX8_webLater_9 hl (by decide) rfl (fun ls hl => ?_)
  refine lv_bipush (v := 30) hx hb dX8_webLater_11 (by decide) ?_
  refine lv_sipush (v := 400) hx hb dX8_webLater_13 (by decide) ?_
  refine lv_aload_n hx hb dX8_webLater_16 rfl (lv_at hl 2 rfl) ?_
  refine q_get (v := .int k_day) C hP 0 6 rfl rfl inX8 (by decide) kF_RX8_31 rfl rfl dX8_webLater_17 ?_
  refine lv_isub hx hb dX8_webLater_20 ?_
  refine lv_topi (fun z_2 hz_2 => ?_)
  clear hz_2
  refine q_mmin C hl.1 kM_RX8_91 (Nat.le_of_ble_eq_true rfl) (Nat.le_of_ble_eq_true rfl) hroom.1 hroom.2 dX8_webLater_21 ?_
  refine lv_topi (fun z_3 hz_3 => ?_)
  have hz_3 := o_min hz_3 (by decide : (30 : Int32).toInt = 30) (rfl : z_2.toInt = z_2.toInt)
  refine lv_istore (lv' := [(6, .int z_3), (5, .int v), (4, .int z_1), (0, .ref k), (1, .ref h), (2, .int a), (3, .int v)]) hx hb dX8_webLater_24 hl (by decide) rfl (fun ls hl => ?_)
  refine lv_iconst (v := 0) hx hb dX8_webLater_26 (by decide) ?_
  refine lv_istore (lv' := [(7, .int 0), (6, .int z_3), (5, .int v), (4, .int z_1), (0, .ref k), (1, .ref h), (2, .int a), (3, .int v)]) hx hb dX8_webLater_27 hl (by decide) rfl (fun ls hl => ?_)
  have lp_29_6 : ∀ (n_7 : Nat) (x_4 : Int32) (x_5 : Int32) (x_6 : Int32) (H : Heap) (locs : List Loc) (ls : Array Slot), (-1) * x_6.toInt + 30 < (n_7 : Int) → (0 ≤ x_6.toInt ∧ x_6.toInt ≤ 30) → va_P D vwCl [(k, .inr (8, [.ref k_x_, .ref k_y_, .ref k_web_, .ref k_asks_, .ref k_threads_, .int k_today, .int k_day, .ref k_seen_])), (k_x_, .inl (cy 1, 8, .inl k_x)), (k_y_, .inl (cy 1, 8, .inl k_y)), (k_web_, .inl (cy 1, 8, .inl k_web)), (k_asks_, .inl (cy 1, 8, .inl k_asks)), (k_threads_, .inl (cy 1, 64, .inl k_threads)), (k_seen_, .inl (cy 1, 8, .inl k_seen)), (h, .inr (6, [.int h_wide, .int h_high, .int h_law, .int h_spin, .int h_line, .int h_draught, .int h_books, .int h_rare, .ref h_quarrels_, .ref h_nameSizes_, .ref h_names_])), (h_quarrels_, .inl (cy 1, 8, .inl h_quarrels)), (h_nameSizes_, .inl (cy 1, 8, .inl h_nameSizes)), (h_names_, .inl (cy 1, 56, .inl h_names))] H → va_D A [(k, .inr (8, [.ref k_x_, .ref k_y_, .ref k_web_, .ref k_asks_, .ref k_threads_, .int k_today, .int k_day, .ref k_seen_])), (k_x_, .inl (cy 1, 8, .inl k_x)), (k_y_, .inl (cy 1, 8, .inl k_y)), (k_web_, .inl (cy 1, 8, .inl k_web)), (k_asks_, .inl (cy 1, 8, .inl k_asks)), (k_threads_, .inl (cy 1, 64, .inl k_threads)), (k_seen_, .inl (cy 1, 8, .inl k_seen)), (h, .inr (6, [.int h_wide, .int h_high, .int h_law, .int h_spin, .int h_line, .int h_draught, .int h_books, .int h_rare, .ref h_quarrels_, .ref h_nameSizes_, .ref h_names_])), (h_quarrels_, .inl (cy 1, 8, .inl h_quarrels)), (h_nameSizes_, .inl (cy 1, 8, .inl h_nameSizes)), (h_names_, .inl (cy 1, 56, .inl h_names))] → va_S A s.heap H locs → lv_has ls 8 [(0, .ref k), (1, .ref h), (2, .int a), (4, .int x_4), (5, .int x_5), (6, .int z_3), (7, .int x_6)] → W p l e (Rm 1 30 0 0) s m args below meth c H locs cells slots Q (F0 m 29 ls []) := by
    intro n_7
    induction n_7 with
    | zero =>
      intro x_4 x_5 x_6 H locs ls hm_9 hf_8 hP hD hS hl
      exact absurd hm_9 (by omega)
    | succ n_7 ih_10 =>
      intro x_4 x_5 x_6 H locs ls hm_9 hf_8 hP hD hS hl
      refine lv_iload hx hb dX8_webLater_29 (lv_at hl 6 rfl) ?_
      refine lv_iload hx hb dX8_webLater_31 (lv_at hl 5 rfl) ?_
      refine lv_icmp_ge (tgt := 124) hx hb dX8_webLater_33 (by decide) (fun c_12 => ?_) (fun c_12 => ?_)
      · have hc_12 := o_le (rfl : z_3.toInt = z_3.toInt) (rfl : x_6.toInt = x_6.toInt) c_12
        refine lv_iload hx hb dX8_webLater_124 (lv_at hl 3 rfl) ?_
        refine o_wq hQ ?_
        exact q_iret (rm := (Rm 1 30 0 0)) C hS () rfl trivial (q_subP hP [0, 1, 2, 3, 4, 5, 6, 7, 8, 9, 10] rfl) (hD.sub [0, 1, 2, 3, 4, 5, 6, 7, 8, 9, 10] (by decide) rfl) hroom.1 hroom.2 dX8_webLater_126
      · have hc_12 := o_nle (rfl : z_3.toInt = z_3.toInt) (rfl : x_6.toInt = x_6.toInt) c_12
        refine lv_iload hx hb dX8_webLater_36 (lv_at hl 6 rfl) ?_
        have cut_66_13 : ∀ (x_13 : Int32) (H : Heap) (locs : List Loc) (ls : Array Slot), va_P D vwCl [(k, .inr (8, [.ref k_x_, .ref k_y_, .ref k_web_, .ref k_asks_, .ref k_threads_, .int k_today, .int k_day, .ref k_seen_])), (k_x_, .inl (cy 1, 8, .inl k_x)), (k_y_, .inl (cy 1, 8, .inl k_y)), (k_web_, .inl (cy 1, 8, .inl k_web)), (k_asks_, .inl (cy 1, 8, .inl k_asks)), (k_threads_, .inl (cy 1, 64, .inl k_threads)), (k_seen_, .inl (cy 1, 8, .inl k_seen)), (h, .inr (6, [.int h_wide, .int h_high, .int h_law, .int h_spin, .int h_line, .int h_draught, .int h_books, .int h_rare, .ref h_quarrels_, .ref h_nameSizes_, .ref h_names_])), (h_quarrels_, .inl (cy 1, 8, .inl h_quarrels)), (h_nameSizes_, .inl (cy 1, 8, .inl h_nameSizes)), (h_names_, .inl (cy 1, 56, .inl h_names))] H → va_D A [(k, .inr (8, [.ref k_x_, .ref k_y_, .ref k_web_, .ref k_asks_, .ref k_threads_, .int k_today, .int k_day, .ref k_seen_])), (k_x_, .inl (cy 1, 8, .inl k_x)), (k_y_, .inl (cy 1, 8, .inl k_y)), (k_web_, .inl (cy 1, 8, .inl k_web)), (k_asks_, .inl (cy 1, 8, .inl k_asks)), (k_threads_, .inl (cy 1, 64, .inl k_threads)), (k_seen_, .inl (cy 1, 8, .inl k_seen)), (h, .inr (6, [.int h_wide, .int h_high, .int h_law, .int h_spin, .int h_line, .int h_draught, .int h_books, .int h_rare, .ref h_quarrels_, .ref h_nameSizes_, .ref h_names_])), (h_quarrels_, .inl (cy 1, 8, .inl h_quarrels)), (h_nameSizes_, .inl (cy 1, 8, .inl h_nameSizes)), (h_names_, .inl (cy 1, 56, .inl h_names))] → va_S A s.heap H locs → lv_has ls 8 [(0, .ref k), (1, .ref h), (2, .int a), (4, .int x_13), (5, .int x_5), (6, .int z_3), (7, .int x_6)] → W p l e (Rm 1 30 0 0) s m args below meth c H locs cells slots Q (F0 m 66 ls []) := by
          intro x_13 H locs ls  hP hD hS hl
          refine lv_iload hx hb dX8_webLater_66 (lv_at hl 4 rfl) ?_
          refine q_ai (wr := [(k, .inr (8, [.ref k_x_, .ref k_y_, .ref k_web_, .ref k_asks_, .ref k_threads_, .int k_today, .int k_day, .ref k_seen_])), (k_x_, .inl (cy 1, 8, .inl k_x)), (k_y_, .inl (cy 1, 8, .inl k_y)), (k_web_, .inl (cy 1, 8, .inl k_web)), (k_asks_, .inl (cy 1, 8, .inl k_asks)), (k_threads_, .inl (cy 1, 64, .inl k_threads)), (k_seen_, .inl (cy 1, 8, .inl k_seen)), (h, .inr (6, [.int h_wide, .int h_high, .int h_law, .int h_spin, .int h_line, .int h_draught, .int h_books, .int h_rare, .ref h_quarrels_, .ref h_nameSizes_, .ref h_names_])), (h_quarrels_, .inl (cy 1, 8, .inl h_quarrels)), (h_nameSizes_, .inl (cy 1, 8, .inl h_nameSizes)), (h_names_, .inl (cy 1, 56, .inl h_names))]) (r_SN (rm := (Rm 0 0 0 0)) (As := [.int x_5]) (rest := []) (wc := []) C hS (q_subP hP [] rfl) (hD.sub [] (by decide) rfl) (o_seedBehind l D cy x_5 _ ) kwS_X10_seedBehind kN_RX8_116 ⟨Nat.le_of_ble_eq_true rfl, Nat.le_of_ble_eq_true rfl⟩ rfl hl.1 rfl (Nat.le_of_ble_eq_true rfl) dX8_webLater_68 ⟨hroom.1, hroom.2⟩) C.2.2.2.2.2.2.1 hP hD hS [] [0, 1, 2, 3, 4, 5, 6, 7, 8, 9, 10] rfl rfl (by decide) (by decide) (fun r_16 u_15 H locs hw_17 hP hD hS => ?_)
          refine lv_istore (lv' := [(5, .int r_16), (0, .ref k), (1, .ref h), (2, .int a), (4, .int x_13), (6, .int z_3), (7, .int x_6)]) hx hb dX8_webLater_71 hl (by decide) rfl (fun ls hl => ?_)
          refine lv_iload hx hb dX8_webLater_73 (lv_at hl 0 rfl) ?_
          refine lv_bipush (v := 12) hx hb dX8_webLater_75 (by decide) ?_
          refine q_ai (wr := [(k, .inr (8, [.ref k_x_, .ref k_y_, .ref k_web_, .ref k_asks_, .ref k_threads_, .int k_today, .int k_day, .ref k_seen_])), (k_x_, .inl (cy 1, 8, .inl k_x)), (k_y_, .inl (cy 1, 8, .inl k_y)), (k_web_, .inl (cy 1, 8, .inl k_web)), (k_asks_, .inl (cy 1, 8, .inl k_asks)), (k_threads_, .inl (cy 1, 64, .inl k_threads)), (k_seen_, .inl (cy 1, 8, .inl k_seen)), (h, .inr (6, [.int h_wide, .int h_high, .int h_law, .int h_spin, .int h_line, .int h_draught, .int h_books, .int h_rare, .ref h_quarrels_, .ref h_nameSizes_, .ref h_names_])), (h_quarrels_, .inl (cy 1, 8, .inl h_quarrels)), (h_nameSizes_, .inl (cy 1, 8, .inl h_nameSizes)), (h_names_, .inl (cy 1, 56, .inl h_names))]) (r_SN (rm := (Rm 0 0 0 0)) (As := [.int r_16, .int 12]) (rest := []) (wc := []) C hS (q_subP hP [] rfl) (hD.sub [] (by decide) rfl) (o_drawn12 l D cy r_16 _ ) kwS_X10_drawnOf kN_RX8_119 ⟨Nat.le_of_ble_eq_true rfl, Nat.le_of_ble_eq_true rfl⟩ rfl hl.1 rfl (Nat.le_of_ble_eq_true rfl) dX8_webLater_77 ⟨hroom.1, hroom.2⟩) C.2.2.2.2.2.2.1 hP hD hS [] [0, 1, 2, 3, 4, 5, 6, 7, 8, 9, 10] rfl rfl (by decide) (by decide) (fun r_19 u_18 H locs hw_20 hP hD hS => ?_)
          have hp_20 : 0 ≤ r_19.toInt ∧ r_19.toInt ≤ 11 := hw_20
          refine lv_aload_n hx hb dX8_webLater_80 rfl (lv_at hl 2 rfl) ?_
          refine q_get (v := .int h_draught) C hP 7 5 rfl rfl inX6 (by decide) kF_RX8_122 rfl rfl dX8_webLater_81 ?_
          refine lv_icmp_ge (tgt := 118) hx hb dX8_webLater_84 (by decide) (fun c_22 => ?_) (fun c_22 => ?_)
          · have hc_22 := o_le (rfl : h_draught.toInt = h_draught.toInt) (rfl : r_19.toInt = r_19.toInt) c_22
            obtain ⟨z_23, hz_23⟩ : ∃ z : Int32, z = x_6 + 1 := ⟨_, rfl⟩
            refine lv_iinc (v := z_23) (lv' := [(7, .int z_23), (5, .int r_16), (0, .ref k), (1, .ref h), (2, .int a), (4, .int x_13), (6, .int z_3)]) hx hb dX8_webLater_118 hl (k := 6) rfl hz_23.symm (by decide) rfl (fun ls hl => ?_)
            have hz_23 := o_add hz_23 (rfl : x_6.toInt = x_6.toInt) (by decide : (1 : Int32).toInt = 1) (by omega) (by omega)
            refine lv_goto (tgt := 29) hx hb dX8_webLater_121 (by decide) ?_
            exact ih_10 x_13 r_16 z_23 H locs ls (by omega) (by omega) hP hD hS (lv_sub hl [2, 3, 4, 5, 1, 6, 0] rfl)
          · have hc_22 := o_nle (rfl : h_draught.toInt = h_draught.toInt) (rfl : r_19.toInt = r_19.toInt) c_22
            refine lv_iload hx hb dX8_webLater_87 (lv_at hl 0 rfl) ?_
            refine q_ai (wr := [(k, .inr (8, [.ref k_x_, .ref k_y_, .ref k_web_, .ref k_asks_, .ref k_threads_, .int k_today, .int k_day, .ref k_seen_])), (k_x_, .inl (cy 1, 8, .inl k_x)), (k_y_, .inl (cy 1, 8, .inl k_y)), (k_web_, .inl (cy 1, 8, .inl k_web)), (k_asks_, .inl (cy 1, 8, .inl k_asks)), (k_threads_, .inl (cy 1, 64, .inl k_threads)), (k_seen_, .inl (cy 1, 8, .inl k_seen)), (h, .inr (6, [.int h_wide, .int h_high, .int h_law, .int h_spin, .int h_line, .int h_draught, .int h_books, .int h_rare, .ref h_quarrels_, .ref h_nameSizes_, .ref h_names_])), (h_quarrels_, .inl (cy 1, 8, .inl h_quarrels)), (h_nameSizes_, .inl (cy 1, 8, .inl h_nameSizes)), (h_names_, .inl (cy 1, 56, .inl h_names))]) (r_SN (rm := (Rm 0 0 0 0)) (As := [.int r_16]) (rest := []) (wc := []) C hS (q_subP hP [] rfl) (hD.sub [] (by decide) rfl) (o_seedBehind l D cy r_16 _ ) kwS_X10_seedBehind kN_RX8_116 ⟨Nat.le_of_ble_eq_true rfl, Nat.le_of_ble_eq_true rfl⟩ rfl hl.1 rfl (Nat.le_of_ble_eq_true rfl) dX8_webLater_89 ⟨hroom.1, hroom.2⟩) C.2.2.2.2.2.2.1 hP hD hS [] [0, 1, 2, 3, 4, 5, 6, 7, 8, 9, 10] rfl rfl (by decide) (by decide) (fun r_25 u_24 H locs hw_26 hP hD hS => ?_)
            refine lv_istore (lv' := [(5, .int r_25), (0, .ref k), (1, .ref h), (2, .int a), (4, .int x_13), (6, .int z_3), (7, .int x_6)]) hx hb dX8_webLater_92 hl (by decide) rfl (fun ls hl => ?_)
            refine lv_iload hx hb dX8_webLater_94 (lv_at hl 0 rfl) ?_
            refine lv_aload_n hx hb dX8_webLater_96 rfl (lv_at hl 2 rfl) ?_
            refine q_get (v := .int h_books) C hP 7 6 rfl rfl inX6 (by decide) kF_RX8_53 rfl rfl dX8_webLater_97 ?_
            refine q_ai (wr := [(k, .inr (8, [.ref k_x_, .ref k_y_, .ref k_web_, .ref k_asks_, .ref k_threads_, .int k_today, .int k_day, .ref k_seen_])), (k_x_, .inl (cy 1, 8, .inl k_x)), (k_y_, .inl (cy 1, 8, .inl k_y)), (k_web_, .inl (cy 1, 8, .inl k_web)), (k_asks_, .inl (cy 1, 8, .inl k_asks)), (k_threads_, .inl (cy 1, 64, .inl k_threads)), (k_seen_, .inl (cy 1, 8, .inl k_seen)), (h, .inr (6, [.int h_wide, .int h_high, .int h_law, .int h_spin, .int h_line, .int h_draught, .int h_books, .int h_rare, .ref h_quarrels_, .ref h_nameSizes_, .ref h_names_])), (h_quarrels_, .inl (cy 1, 8, .inl h_quarrels)), (h_nameSizes_, .inl (cy 1, 8, .inl h_nameSizes)), (h_names_, .inl (cy 1, 56, .inl h_names))]) (r_SN (rm := (Rm 0 0 0 0)) (As := [.int r_25, .int h_books]) (rest := []) (wc := []) C hS (q_subP hP [] rfl) (hD.sub [] (by decide) rfl) (o_drawnOf l D cy r_25 h_books _ (by omega)) kwS_X10_drawnOf kN_RX8_119 ⟨Nat.le_of_ble_eq_true rfl, Nat.le_of_ble_eq_true rfl⟩ rfl hl.1 rfl (Nat.le_of_ble_eq_true rfl) dX8_webLater_100 ⟨hroom.1, hroom.2⟩) C.2.2.2.2.2.2.1 hP hD hS [] [0, 1, 2, 3, 4, 5, 6, 7, 8, 9, 10] rfl rfl (by decide) (by decide) (fun r_28 u_27 H locs hw_29 hP hD hS => ?_)
            have hp_29 : 0 ≤ r_28.toInt ∧ r_28.toInt ≤ 7 := hw_29
            refine lv_iload_n hx hb dX8_webLater_103 rfl (lv_at hl 3 rfl) ?_
            refine lv_icmp_ne (tgt := 114) hx hb dX8_webLater_104 (by decide) (fun c_31 => ?_) (fun c_31 => ?_)
            · have hc_31 := o_ne (rfl : r_28.toInt = r_28.toInt) (rfl : a.toInt = a.toInt) c_31
              refine lv_iload hx hb dX8_webLater_114 (lv_at hl 4 rfl) ?_
              refine lv_istore (lv' := [(4, .int x_13), (5, .int r_25), (0, .ref k), (1, .ref h), (2, .int a), (6, .int z_3), (7, .int x_6)]) hx hb dX8_webLater_116 hl (by decide) rfl (fun ls hl => ?_)
              obtain ⟨z_32, hz_32⟩ : ∃ z : Int32, z = x_6 + 1 := ⟨_, rfl⟩
              refine lv_iinc (v := z_32) (lv' := [(7, .int z_32), (4, .int x_13), (5, .int r_25), (0, .ref k), (1, .ref h), (2, .int a), (6, .int z_3)]) hx hb dX8_webLater_118 hl (k := 6) rfl hz_32.symm (by decide) rfl (fun ls hl => ?_)
              have hz_32 := o_add hz_32 (rfl : x_6.toInt = x_6.toInt) (by decide : (1 : Int32).toInt = 1) (by omega) (by omega)
              refine lv_goto (tgt := 29) hx hb dX8_webLater_121 (by decide) ?_
              exact ih_10 x_13 r_25 z_32 H locs ls (by omega) (by omega) hP hD hS (lv_sub hl [3, 4, 5, 1, 2, 6, 0] rfl)
            · have hc_31 := o_eq (rfl : r_28.toInt = r_28.toInt) (rfl : a.toInt = a.toInt) c_31
              refine lv_iload hx hb dX8_webLater_107 (lv_at hl 4 rfl) ?_
              refine lv_iconst (v := 2) hx hb dX8_webLater_109 (by decide) ?_
              refine lv_idiv hx hb dX8_webLater_110 (by decide) ?_
              refine lv_topi (fun z_33 hz_33 => ?_)
              clear hz_33
              refine lv_goto (tgt := 116) hx hb dX8_webLater_111 (by decide) ?_
              refine lv_istore (lv' := [(4, .int z_33), (5, .int r_25), (0, .ref k), (1, .ref h), (2, .int a), (6, .int z_3), (7, .int x_6)]) hx hb dX8_webLater_116 hl (by decide) rfl (fun ls hl => ?_)
              obtain ⟨z_34, hz_34⟩ : ∃ z : Int32, z = x_6 + 1 := ⟨_, rfl⟩
              refine lv_iinc (v := z_34) (lv' := [(7, .int z_34), (4, .int z_33), (5, .int r_25), (0, .ref k), (1, .ref h), (2, .int a), (6, .int z_3)]) hx hb dX8_webLater_118 hl (k := 6) rfl hz_34.symm (by decide) rfl (fun ls hl => ?_)
              have hz_34 := o_add hz_34 (rfl : x_6.toInt = x_6.toInt) (by decide : (1 : Int32).toInt = 1) (by omega) (by omega)
              refine lv_goto (tgt := 29) hx hb dX8_webLater_121 (by decide) ?_
              exact ih_10 z_33 r_25 z_34 H locs ls (by omega) (by omega) hP hD hS (lv_sub hl [3, 4, 5, 1, 2, 6, 0] rfl)
        refine lv_if_gt (tgt := 52) hx hb dX8_webLater_38 (by decide) (fun c_35 => ?_) (fun c_35 => ?_)
        · have hc_35 := o_lt (by decide : (0 : Int32).toInt = 0) (rfl : x_6.toInt = x_6.toInt) c_35
          refine lv_bipush (v := 99) hx hb dX8_webLater_52 (by decide) ?_
          refine lv_iload hx hb dX8_webLater_54 (lv_at hl 3 rfl) ?_
          refine lv_aload_n hx hb dX8_webLater_56 rfl (lv_at hl 1 rfl) ?_
          refine q_get (v := .int h_spin) C hP 7 3 rfl rfl inX6 (by decide) kF_RX8_109 rfl rfl dX8_webLater_57 ?_
          refine lv_iadd hx hb dX8_webLater_60 ?_
          refine lv_topi (fun z_36 hz_36 => ?_)
          clear hz_36
          refine q_mmin C hl.1 kM_RX8_91 (Nat.le_of_ble_eq_true rfl) (Nat.le_of_ble_eq_true rfl) hroom.1 hroom.2 dX8_webLater_61 ?_
          refine lv_topi (fun z_37 hz_37 => ?_)
          have hz_37 := o_min hz_37 (by decide : (99 : Int32).toInt = 99) (rfl : z_36.toInt = z_36.toInt)
          refine lv_istore (lv' := [(4, .int z_37), (0, .ref k), (1, .ref h), (2, .int a), (5, .int x_5), (6, .int z_3), (7, .int x_6)]) hx hb dX8_webLater_64 hl (by decide) rfl (fun ls hl => ?_)
          exact cut_66_13 z_37 H locs ls   hP hD hS (lv_sub hl [1, 2, 3, 0, 4, 5, 6] rfl)
        · have hc_35 := o_nlt (by decide : (0 : Int32).toInt = 0) (rfl : x_6.toInt = x_6.toInt) c_35
          refine lv_aload_n hx hb dX8_webLater_41 rfl (lv_at hl 0 rfl) ?_
          refine q_get (v := .int k_today) C hP 0 5 rfl rfl inX8 (by decide) kF_RX8_27 rfl rfl dX8_webLater_42 ?_
          refine lv_iload_n hx hb dX8_webLater_45 rfl (lv_at hl 2 rfl) ?_
          refine q_ai (wr := [(k, .inr (8, [.ref k_x_, .ref k_y_, .ref k_web_, .ref k_asks_, .ref k_threads_, .int k_today, .int k_day, .ref k_seen_])), (k_x_, .inl (cy 1, 8, .inl k_x)), (k_y_, .inl (cy 1, 8, .inl k_y)), (k_web_, .inl (cy 1, 8, .inl k_web)), (k_asks_, .inl (cy 1, 8, .inl k_asks)), (k_threads_, .inl (cy 1, 64, .inl k_threads)), (k_seen_, .inl (cy 1, 8, .inl k_seen)), (h, .inr (6, [.int h_wide, .int h_high, .int h_law, .int h_spin, .int h_line, .int h_draught, .int h_books, .int h_rare, .ref h_quarrels_, .ref h_nameSizes_, .ref h_names_])), (h_quarrels_, .inl (cy 1, 8, .inl h_quarrels)), (h_nameSizes_, .inl (cy 1, 8, .inl h_nameSizes)), (h_names_, .inl (cy 1, 56, .inl h_names))]) (r_SN (rm := (Rm 0 0 0 0)) (As := [.int k_today, .int a]) (rest := []) (wc := []) C hS (q_subP hP [] rfl) (hD.sub [] (by decide) rfl) (o_bitOf l D cy k_today a _ ) kwS_X10_bitOf kN_RX8_73 ⟨Nat.le_of_ble_eq_true rfl, Nat.le_of_ble_eq_true rfl⟩ rfl hl.1 rfl (Nat.le_of_ble_eq_true rfl) dX8_webLater_46 ⟨hroom.1, hroom.2⟩) C.2.2.2.2.2.2.1 hP hD hS [] [0, 1, 2, 3, 4, 5, 6, 7, 8, 9, 10] rfl rfl (by decide) (by decide) (fun r_39 u_38 H locs hw_40 hP hD hS => ?_)
          have hp_40 : 0 ≤ r_39.toInt ∧ r_39.toInt ≤ 1 := hw_40.1
          have hp_41 : Hd ((r_39.toInt = 1 ∧ bt k_today a = 1) ∨ (r_39.toInt = 0 ∧ bt k_today a ≠ 1)) := hw_40.2
          refine lv_if_ne (tgt := 66) hx hb dX8_webLater_49 (by decide) (fun c_43 => ?_) (fun c_43 => ?_)
          · have hc_43 := o_ne (rfl : r_39.toInt = r_39.toInt) (by decide : (0 : Int32).toInt = 0) c_43
            have hnc_43 : 0 ≤ r_39.toInt + (-1) := by rcases Int.lt_or_gt_of_ne hc_43 with h9 | h9 <;> omega
            have hd_43 : Hd (r_39.toInt = 1 ∧ bt k_today a = 1) := (Hd.un hp_41).resolve_right (fun z9 => by omega)
            have hd_43_0 : r_39.toInt = 1 := (Hd.un hd_43).1
            exact cut_66_13 x_4 H locs ls   hP hD hS (lv_sub hl [0, 1, 2, 3, 4, 5, 6] rfl)
          · have hc_43 := o_eq (rfl : r_39.toInt = r_39.toInt) (by decide : (0 : Int32).toInt = 0) c_43
            have hd_44 : Hd (r_39.toInt = 0 ∧ bt k_today a ≠ 1) := (Hd.un hp_41).resolve_left (fun z9 => by omega)
            have hd_44_0 : r_39.toInt = 0 := (Hd.un hd_44).1
            refine lv_bipush (v := 99) hx hb dX8_webLater_52 (by decide) ?_
            refine lv_iload hx hb dX8_webLater_54 (lv_at hl 3 rfl) ?_
            refine lv_aload_n hx hb dX8_webLater_56 rfl (lv_at hl 1 rfl) ?_
            refine q_get (v := .int h_spin) C hP 7 3 rfl rfl inX6 (by decide) kF_RX8_109 rfl rfl dX8_webLater_57 ?_
            refine lv_iadd hx hb dX8_webLater_60 ?_
            refine lv_topi (fun z_46 hz_46 => ?_)
            clear hz_46
            refine q_mmin C hl.1 kM_RX8_91 (Nat.le_of_ble_eq_true rfl) (Nat.le_of_ble_eq_true rfl) hroom.1 hroom.2 dX8_webLater_61 ?_
            refine lv_topi (fun z_47 hz_47 => ?_)
            have hz_47 := o_min hz_47 (by decide : (99 : Int32).toInt = 99) (rfl : z_46.toInt = z_46.toInt)
            refine lv_istore (lv' := [(4, .int z_47), (0, .ref k), (1, .ref h), (2, .int a), (5, .int x_5), (6, .int z_3), (7, .int x_6)]) hx hb dX8_webLater_64 hl (by decide) rfl (fun ls hl => ?_)
            exact cut_66_13 z_47 H locs ls   hP hD hS (lv_sub hl [1, 2, 3, 0, 4, 5, 6] rfl)
  exact lp_29_6 31 z_1 v (0 : Int32) H locs ls (by have e0 : (0 : Int32).toInt = 0 := (by decide); omega) (by have e0 : (0 : Int32).toInt = 0 := (by decide); omega) hP hD hS (lv_sub hl [4, 5, 6, 3, 2, 1, 0] rfl)
theorem o_webLater (l : Launch) (D : va_G) (cy : Nat → ClassId) (k : Nat) (h : Nat) (a : Int32) (v : Int32) (k_x_ : Nat) (k_y_ : Nat) (k_web_ : Nat) (k_asks_ : Nat) (k_threads_ : Nat) (k_today : Int32) (k_day : Int32) (k_seen_ : Nat) (k_x : Nat → Int32) (k_y : Nat → Int32) (k_web : Nat → Int32) (k_asks : Nat → Int32) (k_threads : Nat → Int32) (k_seen : Nat → Int32) (h_wide : Int32) (h_high : Int32) (h_law : Int32) (h_spin : Int32) (h_line : Int32) (h_draught : Int32) (h_books : Int32) (h_rare : Int32) (h_quarrels_ : Nat) (h_nameSizes_ : Nat) (h_names_ : Nat) (h_quarrels : Nat → Int32) (h_nameSizes : Nat → Int32) (h_names : Nat → Int32) (sz : Nat) (hb0 : 0 ≤ h_wide.toInt ∧ h_wide.toInt ≤ 6) (hb1 : 0 ≤ h_high.toInt ∧ h_high.toInt ≤ 6) (hb2 : 0 ≤ h_books.toInt ∧ h_books.toInt ≤ 8) (hb3 : 0 ≤ a.toInt ∧ a.toInt ≤ 7) (hR0 : Rg k_x 0 8 0 5) (hR1 : Rg k_y 0 8 0 5) (hR2 : Rg h_nameSizes 0 8 (-900) 7) : MI l yX8_webLater cX8_webLater 8 (some .int) (Rm 1 30 0 0) D cy [.ref k, .ref h, .int a, .int v] sz [(k, .inr (8, [.ref k_x_, .ref k_y_, .ref k_web_, .ref k_asks_, .ref k_threads_, .int k_today, .int k_day, .ref k_seen_])), (k_x_, .inl (cy 1, 8, .inl k_x)), (k_y_, .inl (cy 1, 8, .inl k_y)), (k_web_, .inl (cy 1, 8, .inl k_web)), (k_asks_, .inl (cy 1, 8, .inl k_asks)), (k_threads_, .inl (cy 1, 64, .inl k_threads)), (k_seen_, .inl (cy 1, 8, .inl k_seen)), (h, .inr (6, [.int h_wide, .int h_high, .int h_law, .int h_spin, .int h_line, .int h_draught, .int h_books, .int h_rare, .ref h_quarrels_, .ref h_nameSizes_, .ref h_names_])), (h_quarrels_, .inl (cy 1, 8, .inl h_quarrels)), (h_nameSizes_, .inl (cy 1, 8, .inl h_nameSizes)), (h_names_, .inl (cy 1, 56, .inl h_names))] (fun (r : Int32) (u : Unit) => True) (fun u : Unit => [(k, .inr (8, [.ref k_x_, .ref k_y_, .ref k_web_, .ref k_asks_, .ref k_threads_, .int k_today, .int k_day, .ref k_seen_])), (k_x_, .inl (cy 1, 8, .inl k_x)), (k_y_, .inl (cy 1, 8, .inl k_y)), (k_web_, .inl (cy 1, 8, .inl k_web)), (k_asks_, .inl (cy 1, 8, .inl k_asks)), (k_threads_, .inl (cy 1, 64, .inl k_threads)), (k_seen_, .inl (cy 1, 8, .inl k_seen)), (h, .inr (6, [.int h_wide, .int h_high, .int h_law, .int h_spin, .int h_line, .int h_draught, .int h_books, .int h_rare, .ref h_quarrels_, .ref h_nameSizes_, .ref h_names_])), (h_quarrels_, .inl (cy 1, 8, .inl h_quarrels)), (h_nameSizes_, .inl (cy 1, 8, .inl h_nameSizes)), (h_names_, .inl (cy 1, 56, .inl h_names))]) := by
  refine MI.enter (by decide) (Nat.le_of_ble_eq_true rfl) ?_
  intro p e s m below meth c ls A hsz hAe C hP hD hS hl
  exact b_o_webLater l D cy k h a v k_x_ k_y_ k_web_ k_asks_ k_threads_ k_today k_day k_seen_ k_x k_y k_web k_asks k_threads k_seen h_wide h_high h_law h_spin h_line h_draught h_books h_rare h_quarrels_ h_nameSizes_ h_names_ h_quarrels h_nameSizes h_names hb0 hb1 hb2 hb3 hR0 hR1 hR2 ⟨Nat.le_of_ble_eq_true rfl, Nat.le_of_ble_eq_true rfl⟩ C rfl _ _ ls hP hD hS hl
