theorem dX6_empty_0 : decode cX6_empty 0 = .ok (.aload_n 0, 1) := by decide +kernel
theorem dX6_empty_1 : decode cX6_empty 1 = .ok (.iconst 4, 1) := by decide +kernel
theorem dX6_empty_2 : decode cX6_empty 2 = .ok (.putfield 9, 3) := by decide +kernel
theorem dX6_empty_5 : decode cX6_empty 5 = .ok (.aload_n 0, 1) := by decide +kernel
theorem dX6_empty_6 : decode cX6_empty 6 = .ok (.iconst 4, 1) := by decide +kernel
theorem dX6_empty_7 : decode cX6_empty 7 = .ok (.putfield 15, 3) := by decide +kernel
theorem dX6_empty_10 : decode cX6_empty 10 = .ok (.aload_n 0, 1) := by decide +kernel
theorem dX6_empty_11 : decode cX6_empty 11 = .ok (.bipush 10, 2) := by decide +kernel
theorem dX6_empty_13 : decode cX6_empty 13 = .ok (.putfield 18, 3) := by decide +kernel
theorem dX6_empty_16 : decode cX6_empty 16 = .ok (.aload_n 0, 1) := by decide +kernel
theorem dX6_empty_17 : decode cX6_empty 17 = .ok (.iconst 1, 1) := by decide +kernel
theorem dX6_empty_18 : decode cX6_empty 18 = .ok (.putfield 21, 3) := by decide +kernel
theorem kF_RX6_21 : Cond.fieldLink RX6 21 "CobwebLibrary$Plan" "spin" "I" ∈ gT := List.mem_filter.mpr ⟨List.mem_of_getElem? (i := 234) (by decide +kernel), by decide +kernel⟩
theorem dX6_empty_21 : decode cX6_empty 21 = .ok (.aload_n 0, 1) := by decide +kernel
theorem dX6_empty_22 : decode cX6_empty 22 = .ok (.iconst 3, 1) := by decide +kernel
theorem dX6_empty_23 : decode cX6_empty 23 = .ok (.putfield 24, 3) := by decide +kernel
theorem kF_RX6_24 : Cond.fieldLink RX6 24 "CobwebLibrary$Plan" "line" "I" ∈ gT := List.mem_filter.mpr ⟨List.mem_of_getElem? (i := 238) (by decide +kernel), by decide +kernel⟩
theorem dX6_empty_26 : decode cX6_empty 26 = .ok (.aload_n 0, 1) := by decide +kernel
theorem dX6_empty_27 : decode cX6_empty 27 = .ok (.iconst 0, 1) := by decide +kernel
theorem dX6_empty_28 : decode cX6_empty 28 = .ok (.putfield 27, 3) := by decide +kernel
theorem kF_RX6_27 : Cond.fieldLink RX6 27 "CobwebLibrary$Plan" "draught" "I" ∈ gT := List.mem_filter.mpr ⟨List.mem_of_getElem? (i := 241) (by decide +kernel), by decide +kernel⟩
theorem dX6_empty_31 : decode cX6_empty 31 = .ok (.aload_n 0, 1) := by decide +kernel
theorem dX6_empty_32 : decode cX6_empty 32 = .ok (.iconst 0, 1) := by decide +kernel
theorem dX6_empty_33 : decode cX6_empty 33 = .ok (.putfield 30, 3) := by decide +kernel
theorem dX6_empty_36 : decode cX6_empty 36 = .ok (.aload_n 0, 1) := by decide +kernel
theorem dX6_empty_37 : decode cX6_empty 37 = .ok (.iconst 0, 1) := by decide +kernel
theorem dX6_empty_38 : decode cX6_empty 38 = .ok (.putfield 33, 3) := by decide +kernel
theorem kF_RX6_33 : Cond.fieldLink RX6 33 "CobwebLibrary$Plan" "rare" "I" ∈ gT := List.mem_filter.mpr ⟨List.mem_of_getElem? (i := 252) (by decide +kernel), by decide +kernel⟩
theorem dX6_empty_41 : decode cX6_empty 41 = .ok (.iconst 0, 1) := by decide +kernel
theorem dX6_empty_42 : decode cX6_empty 42 = .ok (.istore_n 1, 1) := by decide +kernel
theorem dX6_empty_43 : decode cX6_empty 43 = .ok (.iload_n 1, 1) := by decide +kernel
theorem dX6_empty_44 : decode cX6_empty 44 = .ok (.bipush 8, 2) := by decide +kernel
theorem dX6_empty_46 : decode cX6_empty 46 = .ok (.if_icmp .ge 23, 3) := by decide +kernel
theorem dX6_empty_69 : decode cX6_empty 69 = .ok (.return_, 1) := by decide +kernel
theorem dX6_empty_49 : decode cX6_empty 49 = .ok (.aload_n 0, 1) := by decide +kernel
theorem dX6_empty_50 : decode cX6_empty 50 = .ok (.getfield 36, 3) := by decide +kernel
theorem kF_RX6_36 : Cond.fieldLink RX6 36 "CobwebLibrary$Plan" "quarrels" "[I" ∈ gT := List.mem_filter.mpr ⟨List.mem_of_getElem? (i := 257) (by decide +kernel), by decide +kernel⟩
theorem dX6_empty_53 : decode cX6_empty 53 = .ok (.iload_n 1, 1) := by decide +kernel
theorem dX6_empty_54 : decode cX6_empty 54 = .ok (.iconst 0, 1) := by decide +kernel
theorem dX6_empty_55 : decode cX6_empty 55 = .ok (.iastore, 1) := by decide +kernel
theorem dX6_empty_56 : decode cX6_empty 56 = .ok (.aload_n 0, 1) := by decide +kernel
theorem dX6_empty_57 : decode cX6_empty 57 = .ok (.getfield 40, 3) := by decide +kernel
theorem kF_RX6_40 : Cond.fieldLink RX6 40 "CobwebLibrary$Plan" "nameSizes" "[I" ∈ gT := List.mem_filter.mpr ⟨List.mem_of_getElem? (i := 260) (by decide +kernel), by decide +kernel⟩
theorem dX6_empty_60 : decode cX6_empty 60 = .ok (.iload_n 1, 1) := by decide +kernel
theorem dX6_empty_61 : decode cX6_empty 61 = .ok (.iconst 0, 1) := by decide +kernel
theorem dX6_empty_62 : decode cX6_empty 62 = .ok (.iastore, 1) := by decide +kernel
theorem dX6_empty_63 : decode cX6_empty 63 = .ok (.iinc 1 1, 3) := by decide +kernel
theorem dX6_empty_66 : decode cX6_empty 66 = .ok (.goto (-23), 3) := by decide +kernel
theorem dX6_copyFrom_0 : decode cX6_copyFrom 0 = .ok (.aload_n 0, 1) := by decide +kernel
theorem dX6_copyFrom_1 : decode cX6_copyFrom 1 = .ok (.aload_n 1, 1) := by decide +kernel
theorem dX6_copyFrom_2 : decode cX6_copyFrom 2 = .ok (.getfield 9, 3) := by decide +kernel
theorem dX6_copyFrom_5 : decode cX6_copyFrom 5 = .ok (.putfield 9, 3) := by decide +kernel
theorem dX6_copyFrom_8 : decode cX6_copyFrom 8 = .ok (.aload_n 0, 1) := by decide +kernel
theorem dX6_copyFrom_9 : decode cX6_copyFrom 9 = .ok (.aload_n 1, 1) := by decide +kernel
theorem dX6_copyFrom_10 : decode cX6_copyFrom 10 = .ok (.getfield 15, 3) := by decide +kernel
theorem dX6_copyFrom_13 : decode cX6_copyFrom 13 = .ok (.putfield 15, 3) := by decide +kernel
theorem dX6_copyFrom_16 : decode cX6_copyFrom 16 = .ok (.aload_n 0, 1) := by decide +kernel
theorem dX6_copyFrom_17 : decode cX6_copyFrom 17 = .ok (.aload_n 1, 1) := by decide +kernel
theorem dX6_copyFrom_18 : decode cX6_copyFrom 18 = .ok (.getfield 18, 3) := by decide +kernel
theorem dX6_copyFrom_21 : decode cX6_copyFrom 21 = .ok (.putfield 18, 3) := by decide +kernel
theorem dX6_copyFrom_24 : decode cX6_copyFrom 24 = .ok (.aload_n 0, 1) := by decide +kernel
theorem dX6_copyFrom_25 : decode cX6_copyFrom 25 = .ok (.aload_n 1, 1) := by decide +kernel
theorem dX6_copyFrom_26 : decode cX6_copyFrom 26 = .ok (.getfield 21, 3) := by decide +kernel
theorem dX6_copyFrom_29 : decode cX6_copyFrom 29 = .ok (.putfield 21, 3) := by decide +kernel
theorem dX6_copyFrom_32 : decode cX6_copyFrom 32 = .ok (.aload_n 0, 1) := by decide +kernel
theorem dX6_copyFrom_33 : decode cX6_copyFrom 33 = .ok (.aload_n 1, 1) := by decide +kernel
theorem dX6_copyFrom_34 : decode cX6_copyFrom 34 = .ok (.getfield 24, 3) := by decide +kernel
theorem dX6_copyFrom_37 : decode cX6_copyFrom 37 = .ok (.putfield 24, 3) := by decide +kernel
theorem dX6_copyFrom_40 : decode cX6_copyFrom 40 = .ok (.aload_n 0, 1) := by decide +kernel
theorem dX6_copyFrom_41 : decode cX6_copyFrom 41 = .ok (.aload_n 1, 1) := by decide +kernel
theorem dX6_copyFrom_42 : decode cX6_copyFrom 42 = .ok (.getfield 27, 3) := by decide +kernel
theorem dX6_copyFrom_45 : decode cX6_copyFrom 45 = .ok (.putfield 27, 3) := by decide +kernel
theorem dX6_copyFrom_48 : decode cX6_copyFrom 48 = .ok (.aload_n 0, 1) := by decide +kernel
theorem dX6_copyFrom_49 : decode cX6_copyFrom 49 = .ok (.aload_n 1, 1) := by decide +kernel
theorem dX6_copyFrom_50 : decode cX6_copyFrom 50 = .ok (.getfield 30, 3) := by decide +kernel
theorem dX6_copyFrom_53 : decode cX6_copyFrom 53 = .ok (.putfield 30, 3) := by decide +kernel
theorem dX6_copyFrom_56 : decode cX6_copyFrom 56 = .ok (.aload_n 0, 1) := by decide +kernel
theorem dX6_copyFrom_57 : decode cX6_copyFrom 57 = .ok (.aload_n 1, 1) := by decide +kernel
theorem dX6_copyFrom_58 : decode cX6_copyFrom 58 = .ok (.getfield 33, 3) := by decide +kernel
theorem dX6_copyFrom_61 : decode cX6_copyFrom 61 = .ok (.putfield 33, 3) := by decide +kernel
theorem dX6_copyFrom_64 : decode cX6_copyFrom 64 = .ok (.aload_n 1, 1) := by decide +kernel
theorem dX6_copyFrom_65 : decode cX6_copyFrom 65 = .ok (.getfield 36, 3) := by decide +kernel
theorem dX6_copyFrom_68 : decode cX6_copyFrom 68 = .ok (.iconst 0, 1) := by decide +kernel
theorem dX6_copyFrom_69 : decode cX6_copyFrom 69 = .ok (.aload_n 0, 1) := by decide +kernel
theorem dX6_copyFrom_70 : decode cX6_copyFrom 70 = .ok (.getfield 36, 3) := by decide +kernel
theorem dX6_copyFrom_73 : decode cX6_copyFrom 73 = .ok (.iconst 0, 1) := by decide +kernel
theorem dX6_copyFrom_74 : decode cX6_copyFrom 74 = .ok (.bipush 8, 2) := by decide +kernel
theorem dX6_copyFrom_76 : decode cX6_copyFrom 76 = .ok (.invokestatic 46, 3) := by decide +kernel
theorem kM_RX6_46 : Cond.methodLink RX6 46 arraycopyName ∈ gT := List.mem_filter.mpr ⟨List.mem_of_getElem? (i := 840) (by decide +kernel), by decide +kernel⟩
theorem dX6_copyFrom_79 : decode cX6_copyFrom 79 = .ok (.aload_n 1, 1) := by decide +kernel
theorem dX6_copyFrom_80 : decode cX6_copyFrom 80 = .ok (.getfield 40, 3) := by decide +kernel
theorem dX6_copyFrom_83 : decode cX6_copyFrom 83 = .ok (.iconst 0, 1) := by decide +kernel
theorem dX6_copyFrom_84 : decode cX6_copyFrom 84 = .ok (.aload_n 0, 1) := by decide +kernel
theorem dX6_copyFrom_85 : decode cX6_copyFrom 85 = .ok (.getfield 40, 3) := by decide +kernel
theorem dX6_copyFrom_88 : decode cX6_copyFrom 88 = .ok (.iconst 0, 1) := by decide +kernel
theorem dX6_copyFrom_89 : decode cX6_copyFrom 89 = .ok (.bipush 8, 2) := by decide +kernel
theorem dX6_copyFrom_91 : decode cX6_copyFrom 91 = .ok (.invokestatic 46, 3) := by decide +kernel
theorem dX6_copyFrom_94 : decode cX6_copyFrom 94 = .ok (.aload_n 1, 1) := by decide +kernel
theorem dX6_copyFrom_95 : decode cX6_copyFrom 95 = .ok (.getfield 43, 3) := by decide +kernel
theorem kF_RX6_43 : Cond.fieldLink RX6 43 "CobwebLibrary$Plan" "names" "[I" ∈ gT := List.mem_filter.mpr ⟨List.mem_of_getElem? (i := 262) (by decide +kernel), by decide +kernel⟩
theorem dX6_copyFrom_98 : decode cX6_copyFrom 98 = .ok (.iconst 0, 1) := by decide +kernel
theorem dX6_copyFrom_99 : decode cX6_copyFrom 99 = .ok (.aload_n 0, 1) := by decide +kernel
theorem dX6_copyFrom_100 : decode cX6_copyFrom 100 = .ok (.getfield 43, 3) := by decide +kernel
theorem dX6_copyFrom_103 : decode cX6_copyFrom 103 = .ok (.iconst 0, 1) := by decide +kernel
theorem dX6_copyFrom_104 : decode cX6_copyFrom 104 = .ok (.bipush 56, 2) := by decide +kernel
theorem dX6_copyFrom_106 : decode cX6_copyFrom 106 = .ok (.invokestatic 46, 3) := by decide +kernel
theorem dX6_copyFrom_109 : decode cX6_copyFrom 109 = .ok (.return_, 1) := by decide +kernel
theorem dX6_setNumber_0 : decode cX6_setNumber 0 = .ok (.iload_n 1, 1) := by decide +kernel
theorem dX6_setNumber_1 : decode cX6_setNumber 1 = .ok (.tableswitch 51 7 9 #[27, 35, 43], 27) := by decide +kernel
theorem dX6_setNumber_28 : decode cX6_setNumber 28 = .ok (.aload_n 0, 1) := by decide +kernel
theorem dX6_setNumber_29 : decode cX6_setNumber 29 = .ok (.iload_n 2, 1) := by decide +kernel
theorem dX6_setNumber_30 : decode cX6_setNumber 30 = .ok (.putfield 18, 3) := by decide +kernel
theorem dX6_setNumber_33 : decode cX6_setNumber 33 = .ok (.goto 24, 3) := by decide +kernel
theorem dX6_setNumber_57 : decode cX6_setNumber 57 = .ok (.return_, 1) := by decide +kernel
theorem dX6_setNumber_36 : decode cX6_setNumber 36 = .ok (.aload_n 0, 1) := by decide +kernel
theorem dX6_setNumber_37 : decode cX6_setNumber 37 = .ok (.iload_n 2, 1) := by decide +kernel
theorem dX6_setNumber_38 : decode cX6_setNumber 38 = .ok (.putfield 21, 3) := by decide +kernel
theorem dX6_setNumber_41 : decode cX6_setNumber 41 = .ok (.goto 16, 3) := by decide +kernel
theorem dX6_setNumber_44 : decode cX6_setNumber 44 = .ok (.aload_n 0, 1) := by decide +kernel
theorem dX6_setNumber_45 : decode cX6_setNumber 45 = .ok (.iload_n 2, 1) := by decide +kernel
theorem dX6_setNumber_46 : decode cX6_setNumber 46 = .ok (.putfield 24, 3) := by decide +kernel
theorem dX6_setNumber_49 : decode cX6_setNumber 49 = .ok (.goto 8, 3) := by decide +kernel
theorem dX6_setNumber_52 : decode cX6_setNumber 52 = .ok (.aload_n 0, 1) := by decide +kernel
theorem dX6_setNumber_53 : decode cX6_setNumber 53 = .ok (.iload_n 2, 1) := by decide +kernel
theorem dX6_setNumber_54 : decode cX6_setNumber 54 = .ok (.putfield 27, 3) := by decide +kernel
theorem dX6_noteName_0 : decode cX6_noteName 0 = .ok (.aload_n 0, 1) := by decide +kernel
theorem dX6_noteName_1 : decode cX6_noteName 1 = .ok (.getfield 30, 3) := by decide +kernel
theorem dX6_noteName_4 : decode cX6_noteName 4 = .ok (.bipush 8, 2) := by decide +kernel
theorem dX6_noteName_6 : decode cX6_noteName 6 = .ok (.if_icmp .lt 4, 3) := by decide +kernel
theorem dX6_noteName_10 : decode cX6_noteName 10 = .ok (.aload_n 0, 1) := by decide +kernel
theorem dX6_noteName_11 : decode cX6_noteName 11 = .ok (.getfield 40, 3) := by decide +kernel
theorem dX6_noteName_14 : decode cX6_noteName 14 = .ok (.aload_n 0, 1) := by decide +kernel
theorem dX6_noteName_15 : decode cX6_noteName 15 = .ok (.getfield 30, 3) := by decide +kernel
theorem dX6_noteName_18 : decode cX6_noteName 18 = .ok (.aload_n 1, 1) := by decide +kernel
theorem dX6_noteName_19 : decode cX6_noteName 19 = .ok (.getfield 56, 3) := by decide +kernel
theorem kF_RX6_56 : Cond.fieldLink RX6 56 "CobwebLibrary$Tape" "size" "I" ∈ gT := List.mem_filter.mpr ⟨List.mem_of_getElem? (i := 178) (by decide +kernel), by decide +kernel⟩
theorem dX6_noteName_22 : decode cX6_noteName 22 = .ok (.bipush 7, 2) := by decide +kernel
theorem dX6_noteName_24 : decode cX6_noteName 24 = .ok (.invokestatic 61, 3) := by decide +kernel
theorem kM_RX6_61 : Cond.methodLink RX6 61 Lib.Math.min.name ∈ gT := List.mem_filter.mpr ⟨List.mem_of_getElem? (i := 776) (by decide +kernel), by decide +kernel⟩
theorem dX6_noteName_27 : decode cX6_noteName 27 = .ok (.iastore, 1) := by decide +kernel
theorem dX6_noteName_28 : decode cX6_noteName 28 = .ok (.iconst 0, 1) := by decide +kernel
theorem dX6_noteName_29 : decode cX6_noteName 29 = .ok (.istore_n 2, 1) := by decide +kernel
theorem dX6_noteName_30 : decode cX6_noteName 30 = .ok (.iload_n 2, 1) := by decide +kernel
theorem dX6_noteName_31 : decode cX6_noteName 31 = .ok (.aload_n 0, 1) := by decide +kernel
theorem dX6_noteName_32 : decode cX6_noteName 32 = .ok (.getfield 40, 3) := by decide +kernel
theorem dX6_noteName_35 : decode cX6_noteName 35 = .ok (.aload_n 0, 1) := by decide +kernel
theorem dX6_noteName_36 : decode cX6_noteName 36 = .ok (.getfield 30, 3) := by decide +kernel
theorem dX6_noteName_39 : decode cX6_noteName 39 = .ok (.iaload, 1) := by decide +kernel
theorem dX6_noteName_40 : decode cX6_noteName 40 = .ok (.if_icmp .ge 34, 3) := by decide +kernel
theorem dX6_noteName_74 : decode cX6_noteName 74 = .ok (.return_, 1) := by decide +kernel
theorem dX6_noteName_43 : decode cX6_noteName 43 = .ok (.aload_n 0, 1) := by decide +kernel
theorem dX6_noteName_44 : decode cX6_noteName 44 = .ok (.getfield 43, 3) := by decide +kernel
theorem dX6_noteName_47 : decode cX6_noteName 47 = .ok (.aload_n 0, 1) := by decide +kernel
theorem dX6_noteName_48 : decode cX6_noteName 48 = .ok (.getfield 30, 3) := by decide +kernel
theorem dX6_noteName_51 : decode cX6_noteName 51 = .ok (.bipush 7, 2) := by decide +kernel
theorem dX6_noteName_53 : decode cX6_noteName 53 = .ok (.imul, 1) := by decide +kernel
theorem dX6_noteName_54 : decode cX6_noteName 54 = .ok (.iload_n 2, 1) := by decide +kernel
theorem dX6_noteName_55 : decode cX6_noteName 55 = .ok (.iadd, 1) := by decide +kernel
theorem dX6_noteName_56 : decode cX6_noteName 56 = .ok (.aload_n 1, 1) := by decide +kernel
theorem dX6_noteName_57 : decode cX6_noteName 57 = .ok (.getfield 67, 3) := by decide +kernel
theorem kF_RX6_67 : Cond.fieldLink RX6 67 "CobwebLibrary$Tape" "bytes" "[I" ∈ gT := List.mem_filter.mpr ⟨List.mem_of_getElem? (i := 166) (by decide +kernel), by decide +kernel⟩
theorem dX6_noteName_60 : decode cX6_noteName 60 = .ok (.aload_n 1, 1) := by decide +kernel
theorem dX6_noteName_61 : decode cX6_noteName 61 = .ok (.getfield 70, 3) := by decide +kernel
theorem kF_RX6_70 : Cond.fieldLink RX6 70 "CobwebLibrary$Tape" "place" "I" ∈ gT := List.mem_filter.mpr ⟨List.mem_of_getElem? (i := 176) (by decide +kernel), by decide +kernel⟩
theorem dX6_noteName_64 : decode cX6_noteName 64 = .ok (.iload_n 2, 1) := by decide +kernel
theorem dX6_noteName_65 : decode cX6_noteName 65 = .ok (.iadd, 1) := by decide +kernel
theorem dX6_noteName_66 : decode cX6_noteName 66 = .ok (.iaload, 1) := by decide +kernel
theorem dX6_noteName_67 : decode cX6_noteName 67 = .ok (.iastore, 1) := by decide +kernel
theorem dX6_noteName_68 : decode cX6_noteName 68 = .ok (.iinc 2 1, 3) := by decide +kernel
theorem dX6_noteName_71 : decode cX6_noteName 71 = .ok (.goto (-41), 3) := by decide +kernel
theorem dX6_noteName_9 : decode cX6_noteName 9 = .ok (.return_, 1) := by decide +kernel
theorem dX6_isNamed_0 : decode cX6_isNamed 0 = .ok (.aload_n 0, 1) := by decide +kernel
theorem dX6_isNamed_1 : decode cX6_isNamed 1 = .ok (.getfield 40, 3) := by decide +kernel
theorem dX6_isNamed_4 : decode cX6_isNamed 4 = .ok (.iload_n 2, 1) := by decide +kernel
theorem dX6_isNamed_5 : decode cX6_isNamed 5 = .ok (.iaload, 1) := by decide +kernel
theorem dX6_isNamed_6 : decode cX6_isNamed 6 = .ok (.aload_n 1, 1) := by decide +kernel
theorem dX6_isNamed_7 : decode cX6_isNamed 7 = .ok (.getfield 56, 3) := by decide +kernel
theorem dX6_isNamed_10 : decode cX6_isNamed 10 = .ok (.if_icmp .eq 5, 3) := by decide +kernel
theorem dX6_isNamed_15 : decode cX6_isNamed 15 = .ok (.iconst 0, 1) := by decide +kernel
theorem dX6_isNamed_16 : decode cX6_isNamed 16 = .ok (.istore_n 3, 1) := by decide +kernel
theorem dX6_isNamed_17 : decode cX6_isNamed 17 = .ok (.iload_n 3, 1) := by decide +kernel
theorem dX6_isNamed_18 : decode cX6_isNamed 18 = .ok (.aload_n 0, 1) := by decide +kernel
theorem dX6_isNamed_19 : decode cX6_isNamed 19 = .ok (.getfield 40, 3) := by decide +kernel
theorem dX6_isNamed_22 : decode cX6_isNamed 22 = .ok (.iload_n 2, 1) := by decide +kernel
theorem dX6_isNamed_23 : decode cX6_isNamed 23 = .ok (.iaload, 1) := by decide +kernel
theorem dX6_isNamed_24 : decode cX6_isNamed 24 = .ok (.if_icmp .ge 36, 3) := by decide +kernel
theorem dX6_isNamed_60 : decode cX6_isNamed 60 = .ok (.iconst 1, 1) := by decide +kernel
theorem dX6_isNamed_61 : decode cX6_isNamed 61 = .ok (.ireturn, 1) := by decide +kernel
theorem dX6_isNamed_27 : decode cX6_isNamed 27 = .ok (.aload_n 0, 1) := by decide +kernel
theorem dX6_isNamed_28 : decode cX6_isNamed 28 = .ok (.getfield 43, 3) := by decide +kernel
theorem dX6_isNamed_31 : decode cX6_isNamed 31 = .ok (.iload_n 2, 1) := by decide +kernel
theorem dX6_isNamed_32 : decode cX6_isNamed 32 = .ok (.bipush 7, 2) := by decide +kernel
theorem dX6_isNamed_34 : decode cX6_isNamed 34 = .ok (.imul, 1) := by decide +kernel
theorem dX6_isNamed_35 : decode cX6_isNamed 35 = .ok (.iload_n 3, 1) := by decide +kernel
theorem dX6_isNamed_36 : decode cX6_isNamed 36 = .ok (.iadd, 1) := by decide +kernel
theorem dX6_isNamed_37 : decode cX6_isNamed 37 = .ok (.iaload, 1) := by decide +kernel
theorem dX6_isNamed_38 : decode cX6_isNamed 38 = .ok (.aload_n 1, 1) := by decide +kernel
theorem dX6_isNamed_39 : decode cX6_isNamed 39 = .ok (.getfield 67, 3) := by decide +kernel
theorem dX6_isNamed_42 : decode cX6_isNamed 42 = .ok (.aload_n 1, 1) := by decide +kernel
theorem dX6_isNamed_43 : decode cX6_isNamed 43 = .ok (.getfield 70, 3) := by decide +kernel
theorem dX6_isNamed_46 : decode cX6_isNamed 46 = .ok (.iload_n 3, 1) := by decide +kernel
theorem dX6_isNamed_47 : decode cX6_isNamed 47 = .ok (.iadd, 1) := by decide +kernel
theorem dX6_isNamed_48 : decode cX6_isNamed 48 = .ok (.iaload, 1) := by decide +kernel
theorem dX6_isNamed_49 : decode cX6_isNamed 49 = .ok (.if_icmp .eq 5, 3) := by decide +kernel
theorem dX6_isNamed_54 : decode cX6_isNamed 54 = .ok (.iinc 3 1, 3) := by decide +kernel
theorem dX6_isNamed_57 : decode cX6_isNamed 57 = .ok (.goto (-40), 3) := by decide +kernel
theorem dX6_isNamed_52 : decode cX6_isNamed 52 = .ok (.iconst 0, 1) := by decide +kernel
theorem dX6_isNamed_53 : decode cX6_isNamed 53 = .ok (.ireturn, 1) := by decide +kernel
theorem dX6_isNamed_13 : decode cX6_isNamed 13 = .ok (.iconst 0, 1) := by decide +kernel
theorem dX6_isNamed_14 : decode cX6_isNamed 14 = .ok (.ireturn, 1) := by decide +kernel
theorem dX6_bookNamed_0 : decode cX6_bookNamed 0 = .ok (.iconst 0, 1) := by decide +kernel
theorem dX6_bookNamed_1 : decode cX6_bookNamed 1 = .ok (.istore_n 2, 1) := by decide +kernel
theorem dX6_bookNamed_2 : decode cX6_bookNamed 2 = .ok (.iload_n 2, 1) := by decide +kernel
theorem dX6_bookNamed_3 : decode cX6_bookNamed 3 = .ok (.aload_n 0, 1) := by decide +kernel
theorem dX6_bookNamed_4 : decode cX6_bookNamed 4 = .ok (.getfield 30, 3) := by decide +kernel
theorem dX6_bookNamed_7 : decode cX6_bookNamed 7 = .ok (.if_icmp .ge 20, 3) := by decide +kernel
theorem dX6_bookNamed_27 : decode cX6_bookNamed 27 = .ok (.iconst (-1), 1) := by decide +kernel
theorem dX6_bookNamed_28 : decode cX6_bookNamed 28 = .ok (.ireturn, 1) := by decide +kernel
theorem dX6_bookNamed_10 : decode cX6_bookNamed 10 = .ok (.aload_n 0, 1) := by decide +kernel
theorem dX6_bookNamed_11 : decode cX6_bookNamed 11 = .ok (.aload_n 1, 1) := by decide +kernel
theorem dX6_bookNamed_12 : decode cX6_bookNamed 12 = .ok (.iload_n 2, 1) := by decide +kernel
theorem dX6_bookNamed_13 : decode cX6_bookNamed 13 = .ok (.invokevirtual 73, 3) := by decide +kernel
theorem kwV_X6_isNamed : MwV RX6 yX6_isNamed cX6_isNamed 4 (some .boolean) 2 := ⟨List.mem_filter.mpr ⟨List.mem_of_getElem? (i := 771) (by decide +kernel), by decide +kernel⟩, List.mem_filter.mpr ⟨List.mem_of_getElem? (i := 770) (by decide +kernel), by decide +kernel⟩, List.mem_filter.mpr ⟨List.mem_of_getElem? (i := 6) (by decide +kernel), by decide +kernel⟩, List.mem_filter.mpr ⟨List.mem_of_getElem? (i := 130) (by decide +kernel), by decide +kernel⟩, by decide +kernel⟩
theorem kM_RX6_73 : Cond.methodLink RX6 73 yX6_isNamed ∈ gT := List.mem_filter.mpr ⟨List.mem_of_getElem? (i := 768) (by decide +kernel), by decide +kernel⟩
theorem dX6_bookNamed_16 : decode cX6_bookNamed 16 = .ok (.ifCond .eq 5, 3) := by decide +kernel
theorem dX6_bookNamed_21 : decode cX6_bookNamed 21 = .ok (.iinc 2 1, 3) := by decide +kernel
theorem dX6_bookNamed_24 : decode cX6_bookNamed 24 = .ok (.goto (-22), 3) := by decide +kernel
theorem dX6_bookNamed_19 : decode cX6_bookNamed 19 = .ok (.iload_n 2, 1) := by decide +kernel
theorem dX6_bookNamed_20 : decode cX6_bookNamed 20 = .ok (.ireturn, 1) := by decide +kernel
theorem dX6_bookTold_0 : decode cX6_bookTold 0 = .ok (.aload_n 1, 1) := by decide +kernel
theorem dX6_bookTold_1 : decode cX6_bookTold 1 = .ok (.invokevirtual 77, 3) := by decide +kernel
theorem kwV_X9_isName : MwV RX9 yX9_isName cX9_isName 1 (some .boolean) 0 := ⟨List.mem_filter.mpr ⟨List.mem_of_getElem? (i := 763) (by decide +kernel), by decide +kernel⟩, List.mem_filter.mpr ⟨List.mem_of_getElem? (i := 761) (by decide +kernel), by decide +kernel⟩, List.mem_filter.mpr ⟨List.mem_of_getElem? (i := 762) (by decide +kernel), by decide +kernel⟩, List.mem_filter.mpr ⟨List.mem_of_getElem? (i := 129) (by decide +kernel), by decide +kernel⟩, by decide +kernel⟩
theorem kM_RX6_77 : Cond.methodLink RX6 77 yX9_isName ∈ gT := List.mem_filter.mpr ⟨List.mem_of_getElem? (i := 802) (by decide +kernel), by decide +kernel⟩
theorem dX6_bookTold_4 : decode cX6_bookTold 4 = .ok (.ifCond .ne 11, 3) := by decide +kernel
theorem dX6_bookTold_15 : decode cX6_bookTold 15 = .ok (.aload_n 0, 1) := by decide +kernel
theorem dX6_bookTold_16 : decode cX6_bookTold 16 = .ok (.aload_n 1, 1) := by decide +kernel
theorem dX6_bookTold_17 : decode cX6_bookTold 17 = .ok (.invokevirtual 84, 3) := by decide +kernel
theorem kwV_X6_bookNamed : MwV RX6 yX6_bookNamed cX6_bookNamed 3 (some .int) 1 := ⟨List.mem_filter.mpr ⟨List.mem_of_getElem? (i := 767) (by decide +kernel), by decide +kernel⟩, List.mem_filter.mpr ⟨List.mem_of_getElem? (i := 765) (by decide +kernel), by decide +kernel⟩, List.mem_filter.mpr ⟨List.mem_of_getElem? (i := 766) (by decide +kernel), by decide +kernel⟩, List.mem_filter.mpr ⟨List.mem_of_getElem? (i := 130) (by decide +kernel), by decide +kernel⟩, by decide +kernel⟩
theorem kM_RX6_84 : Cond.methodLink RX6 84 yX6_bookNamed ∈ gT := List.mem_filter.mpr ⟨List.mem_of_getElem? (i := 804) (by decide +kernel), by decide +kernel⟩
theorem dX6_bookTold_20 : decode cX6_bookTold 20 = .ok (.istore_n 2, 1) := by decide +kernel
theorem dX6_bookTold_21 : decode cX6_bookTold 21 = .ok (.iload_n 2, 1) := by decide +kernel
theorem dX6_bookTold_22 : decode cX6_bookTold 22 = .ok (.iconst (-1), 1) := by decide +kernel
theorem dX6_bookTold_23 : decode cX6_bookTold 23 = .ok (.if_icmp .ne 9, 3) := by decide +kernel
theorem dX6_bookTold_32 : decode cX6_bookTold 32 = .ok (.iload_n 2, 1) := by decide +kernel
theorem dX6_bookTold_33 : decode cX6_bookTold 33 = .ok (.ireturn, 1) := by decide +kernel
theorem dX6_bookTold_26 : decode cX6_bookTold 26 = .ok (.aload_n 1, 1) := by decide +kernel
theorem dX6_bookTold_27 : decode cX6_bookTold 27 = .ok (.iconst 3, 1) := by decide +kernel
theorem dX6_bookTold_28 : decode cX6_bookTold 28 = .ok (.invokevirtual 81, 3) := by decide +kernel
theorem kM_RX6_81 : Cond.methodLink RX6 81 yX9_fail ∈ gT := List.mem_filter.mpr ⟨List.mem_of_getElem? (i := 803) (by decide +kernel), by decide +kernel⟩
theorem dX6_bookTold_31 : decode cX6_bookTold 31 = .ok (.pop, 1) := by decide +kernel
theorem dX6_bookTold_7 : decode cX6_bookTold 7 = .ok (.aload_n 1, 1) := by decide +kernel
theorem dX6_bookTold_8 : decode cX6_bookTold 8 = .ok (.iconst 1, 1) := by decide +kernel
theorem dX6_bookTold_9 : decode cX6_bookTold 9 = .ok (.invokevirtual 81, 3) := by decide +kernel
theorem dX6_bookTold_12 : decode cX6_bookTold 12 = .ok (.pop, 1) := by decide +kernel
theorem dX6_bookTold_13 : decode cX6_bookTold 13 = .ok (.iconst (-1), 1) := by decide +kernel
theorem dX6_bookTold_14 : decode cX6_bookTold 14 = .ok (.ireturn, 1) := by decide +kernel
set_option maxHeartbeats 4000000 in
set_option maxRecDepth 100000 in
theorem b_o_planEmpty (l : Launch) (D : va_G) (cy : Nat → ClassId) (h : Nat) (h_wide : Int32) (h_high : Int32) (h_law : Int32) (h_spin : Int32) (h_line : Int32) (h_draught : Int32) (h_books : Int32) (h_rare : Int32) (h_quarrels_ : Nat) (h_nameSizes_ : Nat) (h_names_ : Nat) (h_quarrels : Nat → Int32) (h_nameSizes : Nat → Int32) (h_names : Nat → Int32) (hb0 : 0 ≤ h_wide.toInt ∧ h_wide.toInt ≤ 6) (hb1 : 0 ≤ h_high.toInt ∧ h_high.toInt ≤ 6) (hb2 : 0 ≤ h_books.toInt ∧ h_books.toInt ≤ 8) (hR0 : Rg h_nameSizes 0 8 (-900) 7) {p : Program} {e : Env} {s : State} {m : MethodId} {args : Array Value} {below : List Frame} {meth : Method} {c : Code} {A : Nat → Prop} {Q : State → Prop} {cells slots : Nat} (hroom : cells ≤ ((Rm 0 0 0 0)).cells ∧ slots ≤ ((Rm 0 0 0 0)).slots) (C : Cx p s m args meth c cX6_empty 2 none RX6 "empty" D cy A) (hQ : Q = MQ below (va_Qv (fun u : Int32 × Int32 × Int32 × Int32 × Int32 × Int32 × Int32 × Int32 × (Nat → Int32) × (Nat → Int32) => (0 ≤ u.1.toInt ∧ u.1.toInt ≤ 6) ∧ (0 ≤ u.2.1.toInt ∧ u.2.1.toInt ≤ 6) ∧ (0 ≤ u.2.2.2.2.2.2.1.toInt ∧ u.2.2.2.2.2.2.1.toInt ≤ 8) ∧ (Rg u.2.2.2.2.2.2.2.2.2 0 8 (-900) 7)) (Bx D A (fun u : Int32 × Int32 × Int32 × Int32 × Int32 × Int32 × Int32 × Int32 × (Nat → Int32) × (Nat → Int32) => [(h, .inr (6, [.int u.1, .int u.2.1, .int u.2.2.1, .int u.2.2.2.1, .int u.2.2.2.2.1, .int u.2.2.2.2.2.1, .int u.2.2.2.2.2.2.1, .int u.2.2.2.2.2.2.2.1, .ref h_quarrels_, .ref h_nameSizes_, .ref h_names_])), (h_quarrels_, .inl (cy 1, 8, .inl u.2.2.2.2.2.2.2.2.1)), (h_nameSizes_, .inl (cy 1, 8, .inl u.2.2.2.2.2.2.2.2.2)), (h_names_, .inl (cy 1, 56, .inl h_names))])) A) args s ((Rm 0 0 0 0)).cells ((Rm 0 0 0 0)).slots A) (H : Heap) (locs : List Loc) (ls : Array Slot) (hP : va_P D vwCl [(h, .inr (6, [.int h_wide, .int h_high, .int h_law, .int h_spin, .int h_line, .int h_draught, .int h_books, .int h_rare, .ref h_quarrels_, .ref h_nameSizes_, .ref h_names_])), (h_quarrels_, .inl (cy 1, 8, .inl h_quarrels)), (h_nameSizes_, .inl (cy 1, 8, .inl h_nameSizes)), (h_names_, .inl (cy 1, 56, .inl h_names))] H) (hD : va_D A [(h, .inr (6, [.int h_wide, .int h_high, .int h_law, .int h_spin, .int h_line, .int h_draught, .int h_books, .int h_rare, .ref h_quarrels_, .ref h_nameSizes_, .ref h_names_])), (h_quarrels_, .inl (cy 1, 8, .inl h_quarrels)), (h_nameSizes_, .inl (cy 1, 8, .inl h_nameSizes)), (h_names_, .inl (cy 1, 56, .inl h_names))]) (hS : va_S A s.heap H locs) (hl : lv_has ls 2 [(0, .ref h)]) : W p l e (Rm 0 0 0 0) s m args below meth c H locs cells slots Q (F0 m 0 ls []) := by
  have hx := C.1
  have hb := C.2.1
  refine lv_aload_n hx hb dX6_empty_0 rfl (lv_at hl 0 rfl) ?_
  refine lv_iconst (v := 4) hx hb dX6_empty_1 (by decide) ?_
  refine q_put (v := .int 4) (w' := [(h, .inr (6, [.int 4, .int h_high, .int h_law, .int h_spin, .int h_line, .int h_draught, .int h_books, .int h_rare, .ref h_quarrels_, .ref h_nameSizes_, .ref h_names_])), (h_quarrels_, .inl (cy 1, 8, .inl h_quarrels)), (h_nameSizes_, .inl (cy 1, 8, .inl h_nameSizes)), (h_names_, .inl (cy 1, 56, .inl h_names))]) (ty := .int) C hP hD hS 0 0 rfl rfl inX6 tyX6 tyX6_ok nmX6 (by decide) kF_RX6_9 rfl rfl rfl rfl rfl (Nat.le_of_ble_eq_true rfl) rfl dX6_empty_2 (fun H locs hP hD hS => ?_)
  refine lv_aload_n hx hb dX6_empty_5 rfl (lv_at hl 0 rfl) ?_
  refine lv_iconst (v := 4) hx hb dX6_empty_6 (by decide) ?_
  refine q_put (v := .int 4) (w' := [(h, .inr (6, [.int 4, .int 4, .int h_law, .int h_spin, .int h_line, .int h_draught, .int h_books, .int h_rare, .ref h_quarrels_, .ref h_nameSizes_, .ref h_names_])), (h_quarrels_, .inl (cy 1, 8, .inl h_quarrels)), (h_nameSizes_, .inl (cy 1, 8, .inl h_nameSizes)), (h_names_, .inl (cy 1, 56, .inl h_names))]) (ty := .int) C hP hD hS 0 1 rfl rfl inX6 tyX6 tyX6_ok nmX6 (by decide) kF_RX6_15 rfl rfl rfl rfl rfl (Nat.le_of_ble_eq_true rfl) rfl dX6_empty_7 (fun H locs hP hD hS => ?_)
  refine lv_aload_n hx hb dX6_empty_10 rfl (lv_at hl 0 rfl) ?_
  refine lv_bipush (v := 10) hx hb dX6_empty_11 (by decide) ?_
  refine q_put (v := .int 10) (w' := [(h, .inr (6, [.int 4, .int 4, .int 10, .int h_spin, .int h_line, .int h_draught, .int h_books, .int h_rare, .ref h_quarrels_, .ref h_nameSizes_, .ref h_names_])), (h_quarrels_, .inl (cy 1, 8, .inl h_quarrels)), (h_nameSizes_, .inl (cy 1, 8, .inl h_nameSizes)), (h_names_, .inl (cy 1, 56, .inl h_names))]) (ty := .int) C hP hD hS 0 2 rfl rfl inX6 tyX6 tyX6_ok nmX6 (by decide) kF_RX6_18 rfl rfl rfl rfl rfl (Nat.le_of_ble_eq_true rfl) rfl dX6_empty_13 (fun H locs hP hD hS => ?_)
  refine lv_aload_n hx hb dX6_empty_16 rfl (lv_at hl 0 rfl) ?_
  refine lv_iconst (v := 1) hx hb dX6_empty_17 (by decide) ?_
  refine q_put (v := .int 1) (w' := [(h, .inr (6, [.int 4, .int 4, .int 10, .int 1, .int h_line, .int h_draught, .int h_books, .int h_rare, .ref h_quarrels_, .ref h_nameSizes_, .ref h_names_])), (h_quarrels_, .inl (cy 1, 8, .inl h_quarrels)), (h_nameSizes_, .inl (cy 1, 8, .inl h_nameSizes)), (h_names_, .inl (cy 1, 56, .inl h_names))]) (ty := .int) C hP hD hS 0 3 rfl rfl inX6 tyX6 tyX6_ok nmX6 (by decide) kF_RX6_21 rfl rfl rfl rfl rfl (Nat.le_of_ble_eq_true rfl) rfl dX6_empty_18 (fun H locs hP hD hS => ?_)
  refine lv_aload_n hx hb dX6_empty_21 rfl (lv_at hl 0 rfl) ?_
  refine lv_iconst (v := 3) hx hb dX6_empty_22 (by decide) ?_
  refine q_put (v := .int 3) (w' := [(h, .inr (6, [.int 4, .int 4, .int 10, .int 1, .int 3, .int h_draught, .int h_books, .int h_rare, .ref h_quarrels_, .ref h_nameSizes_, .ref h_names_])), (h_quarrels_, .inl (cy 1, 8, .inl h_quarrels)), (h_nameSizes_, .inl (cy 1, 8, .inl h_nameSizes)), (h_names_, .inl (cy 1, 56, .inl h_names))]) (ty := .int) C hP hD hS 0 4 rfl rfl inX6 tyX6 tyX6_ok nmX6 (by decide) kF_RX6_24 rfl rfl rfl rfl rfl (Nat.le_of_ble_eq_true rfl) rfl dX6_empty_23 (fun H locs hP hD hS => ?_)
  refine lv_aload_n hx hb dX6_empty_26 rfl (lv_at hl 0 rfl) ?_
  refine lv_iconst (v := 0) hx hb dX6_empty_27 (by decide) ?_
  refine q_put (v := .int 0) (w' := [(h, .inr (6, [.int 4, .int 4, .int 10, .int 1, .int 3, .int 0, .int h_books, .int h_rare, .ref h_quarrels_, .ref h_nameSizes_, .ref h_names_])), (h_quarrels_, .inl (cy 1, 8, .inl h_quarrels)), (h_nameSizes_, .inl (cy 1, 8, .inl h_nameSizes)), (h_names_, .inl (cy 1, 56, .inl h_names))]) (ty := .int) C hP hD hS 0 5 rfl rfl inX6 tyX6 tyX6_ok nmX6 (by decide) kF_RX6_27 rfl rfl rfl rfl rfl (Nat.le_of_ble_eq_true rfl) rfl dX6_empty_28 (fun H locs hP hD hS => ?_)
  refine lv_aload_n hx hb dX6_empty_31 rfl (lv_at hl 0 rfl) ?_
  refine lv_iconst (v := 0) hx hb dX6_empty_32 (by decide) ?_
  refine q_put (v := .int 0) (w' := [(h, .inr (6, [.int 4, .int 4, .int 10, .int 1, .int 3, .int 0, .int 0, .int h_rare, .ref h_quarrels_, .ref h_nameSizes_, .ref h_names_])), (h_quarrels_, .inl (cy 1, 8, .inl h_quarrels)), (h_nameSizes_, .inl (cy 1, 8, .inl h_nameSizes)), (h_names_, .inl (cy 1, 56, .inl h_names))]) (ty := .int) C hP hD hS 0 6 rfl rfl inX6 tyX6 tyX6_ok nmX6 (by decide) kF_RX6_30 rfl rfl rfl rfl rfl (Nat.le_of_ble_eq_true rfl) rfl dX6_empty_33 (fun H locs hP hD hS => ?_)
  refine lv_aload_n hx hb dX6_empty_36 rfl (lv_at hl 0 rfl) ?_
  refine lv_iconst (v := 0) hx hb dX6_empty_37 (by decide) ?_
  refine q_put (v := .int 0) (w' := [(h, .inr (6, [.int 4, .int 4, .int 10, .int 1, .int 3, .int 0, .int 0, .int 0, .ref h_quarrels_, .ref h_nameSizes_, .ref h_names_])), (h_quarrels_, .inl (cy 1, 8, .inl h_quarrels)), (h_nameSizes_, .inl (cy 1, 8, .inl h_nameSizes)), (h_names_, .inl (cy 1, 56, .inl h_names))]) (ty := .int) C hP hD hS 0 7 rfl rfl inX6 tyX6 tyX6_ok nmX6 (by decide) kF_RX6_33 rfl rfl rfl rfl rfl (Nat.le_of_ble_eq_true rfl) rfl dX6_empty_38 (fun H locs hP hD hS => ?_)
  refine lv_iconst (v := 0) hx hb dX6_empty_41 (by decide) ?_
  refine lv_istore_n (lv' := [(1, .int 0), (0, .ref h)]) hx hb dX6_empty_42 rfl hl (by decide) rfl (fun ls hl => ?_)
  have lp_43_3 : ∀ (n_4 : Nat) (x_1 : Int32) (g_2 : Nat → Int32) (g_3 : Nat → Int32) (H : Heap) (locs : List Loc) (ls : Array Slot), (-1) * x_1.toInt + 8 < (n_4 : Int) → (0 ≤ x_1.toInt ∧ x_1.toInt ≤ 8) → Rg g_2 0 8 (-900) 7 → va_P D vwCl [(h, .inr (6, [.int 4, .int 4, .int 10, .int 1, .int 3, .int 0, .int 0, .int 0, .ref h_quarrels_, .ref h_nameSizes_, .ref h_names_])), (h_quarrels_, .inl (cy 1, 8, .inl g_3)), (h_nameSizes_, .inl (cy 1, 8, .inl g_2)), (h_names_, .inl (cy 1, 56, .inl h_names))] H → va_D A [(h, .inr (6, [.int 4, .int 4, .int 10, .int 1, .int 3, .int 0, .int 0, .int 0, .ref h_quarrels_, .ref h_nameSizes_, .ref h_names_])), (h_quarrels_, .inl (cy 1, 8, .inl g_3)), (h_nameSizes_, .inl (cy 1, 8, .inl g_2)), (h_names_, .inl (cy 1, 56, .inl h_names))] → va_S A s.heap H locs → lv_has ls 2 [(0, .ref h), (1, .int x_1)] → W p l e (Rm 0 0 0 0) s m args below meth c H locs cells slots Q (F0 m 43 ls []) := by
    intro n_4
    induction n_4 with
    | zero =>
      intro x_1 g_2 g_3 H locs ls hm_7 hf_5 hg_6 hP hD hS hl
      exact absurd hm_7 (by omega)
    | succ n_4 ih_8 =>
      intro x_1 g_2 g_3 H locs ls hm_7 hf_5 hg_6 hP hD hS hl
      refine lv_iload_n hx hb dX6_empty_43 rfl (lv_at hl 1 rfl) ?_
      refine lv_bipush (v := 8) hx hb dX6_empty_44 (by decide) ?_
      refine lv_icmp_ge (tgt := 69) hx hb dX6_empty_46 (by decide) (fun c_10 => ?_) (fun c_10 => ?_)
      · have hc_10 := o_le (by decide : (8 : Int32).toInt = 8) (rfl : x_1.toInt = x_1.toInt) c_10
        refine o_wq hQ ?_
        exact q_vret (rm := (Rm 0 0 0 0)) C hS (4, 4, 10, 1, 3, 0, 0, 0, g_3, g_2) ⟨(show 0 ≤ (4 : Int32).toInt ∧ (4 : Int32).toInt ≤ 6 by decide), (show 0 ≤ (4 : Int32).toInt ∧ (4 : Int32).toInt ≤ 6 by decide), (show 0 ≤ (0 : Int32).toInt ∧ (0 : Int32).toInt ≤ 8 by decide), hg_6⟩ (q_subP hP [0, 1, 2, 3] rfl) (hD.sub [0, 1, 2, 3] (by decide) rfl) hroom.1 hroom.2 dX6_empty_69
      · have hc_10 := o_nle (by decide : (8 : Int32).toInt = 8) (rfl : x_1.toInt = x_1.toInt) c_10
        refine lv_aload_n hx hb dX6_empty_49 rfl (lv_at hl 0 rfl) ?_
        refine q_get (v := .ref h_quarrels_) C hP 0 8 rfl rfl inX6 (by decide) kF_RX6_36 rfl rfl dX6_empty_50 ?_
        refine lv_iload_n hx hb dX6_empty_53 rfl (lv_at hl 1 rfl) ?_
        refine lv_iconst (v := 0) hx hb dX6_empty_54 (by decide) ?_
        refine q_iast (g := upd g_3 x_1.toNatClampNeg 0) (w' := [(h, .inr (6, [.int 4, .int 4, .int 10, .int 1, .int 3, .int 0, .int 0, .int 0, .ref h_quarrels_, .ref h_nameSizes_, .ref h_names_])), (h_quarrels_, .inl (cy 1, 8, .inl (upd g_3 x_1.toNatClampNeg 0))), (h_nameSizes_, .inl (cy 1, 8, .inl g_2)), (h_names_, .inl (cy 1, 56, .inl h_names))]) C hP hD hS 1 rfl (o_in (rfl : x_1.toInt = x_1.toInt) (by omega) (by omega)) rfl rfl dX6_empty_55 (fun H locs hP hD hS => ?_)
        generalize upd g_3 x_1.toNatClampNeg 0 = g_11 at hP hD 
        have hP : va_P D vwCl [(h, .inr (6, [.int 4, .int 4, .int 10, .int 1, .int 3, .int 0, .int 0, .int 0, .ref h_quarrels_, .ref h_nameSizes_, .ref h_names_])), (h_quarrels_, .inl (cy 1, 8, .inl g_11)), (h_nameSizes_, .inl (cy 1, 8, .inl g_2)), (h_names_, .inl (cy 1, 56, .inl h_names))] H := hP
        have hD : va_D A [(h, .inr (6, [.int 4, .int 4, .int 10, .int 1, .int 3, .int 0, .int 0, .int 0, .ref h_quarrels_, .ref h_nameSizes_, .ref h_names_])), (h_quarrels_, .inl (cy 1, 8, .inl g_11)), (h_nameSizes_, .inl (cy 1, 8, .inl g_2)), (h_names_, .inl (cy 1, 56, .inl h_names))] := hD
        refine lv_aload_n hx hb dX6_empty_56 rfl (lv_at hl 0 rfl) ?_
        refine q_get (v := .ref h_nameSizes_) C hP 0 9 rfl rfl inX6 (by decide) kF_RX6_40 rfl rfl dX6_empty_57 ?_
        refine lv_iload_n hx hb dX6_empty_60 rfl (lv_at hl 1 rfl) ?_
        refine lv_iconst (v := 0) hx hb dX6_empty_61 (by decide) ?_
        refine q_iast (g := upd g_2 x_1.toNatClampNeg 0) (w' := [(h, .inr (6, [.int 4, .int 4, .int 10, .int 1, .int 3, .int 0, .int 0, .int 0, .ref h_quarrels_, .ref h_nameSizes_, .ref h_names_])), (h_quarrels_, .inl (cy 1, 8, .inl g_11)), (h_nameSizes_, .inl (cy 1, 8, .inl (upd g_2 x_1.toNatClampNeg 0))), (h_names_, .inl (cy 1, 56, .inl h_names))]) C hP hD hS 2 rfl (o_in (rfl : x_1.toInt = x_1.toInt) (by omega) (by omega)) rfl rfl dX6_empty_62 (fun H locs hP hD hS => ?_)
        have Rg_12_0 := Rg.upd_in (k := x_1.toNatClampNeg) (v := 0) hg_6 (by decide) (by decide)
        generalize upd g_2 x_1.toNatClampNeg 0 = g_12 at hP hD Rg_12_0
        have hP : va_P D vwCl [(h, .inr (6, [.int 4, .int 4, .int 10, .int 1, .int 3, .int 0, .int 0, .int 0, .ref h_quarrels_, .ref h_nameSizes_, .ref h_names_])), (h_quarrels_, .inl (cy 1, 8, .inl g_11)), (h_nameSizes_, .inl (cy 1, 8, .inl g_12)), (h_names_, .inl (cy 1, 56, .inl h_names))] H := hP
        have hD : va_D A [(h, .inr (6, [.int 4, .int 4, .int 10, .int 1, .int 3, .int 0, .int 0, .int 0, .ref h_quarrels_, .ref h_nameSizes_, .ref h_names_])), (h_quarrels_, .inl (cy 1, 8, .inl g_11)), (h_nameSizes_, .inl (cy 1, 8, .inl g_12)), (h_names_, .inl (cy 1, 56, .inl h_names))] := hD
        obtain ⟨z_13, hz_13⟩ : ∃ z : Int32, z = x_1 + 1 := ⟨_, rfl⟩
        refine lv_iinc (v := z_13) (lv' := [(1, .int z_13), (0, .ref h)]) hx hb dX6_empty_63 hl (k := 1) rfl hz_13.symm (by decide) rfl (fun ls hl => ?_)
        have hz_13 := o_add hz_13 (rfl : x_1.toInt = x_1.toInt) (by decide : (1 : Int32).toInt = 1) (by omega) (by omega)
        refine lv_goto (tgt := 43) hx hb dX6_empty_66 (by decide) ?_
        exact ih_8 z_13 g_12 g_11 H locs ls (by omega) (by omega) Rg_12_0 hP hD hS (lv_sub hl [1, 0] rfl)
  exact lp_43_3 9 (0 : Int32) h_nameSizes h_quarrels H locs ls (by have e0 : (0 : Int32).toInt = 0 := (by decide); omega) (by have e0 : (0 : Int32).toInt = 0 := (by decide); omega) hR0 hP hD hS (lv_sub hl [1, 0] rfl)
theorem o_planEmpty (l : Launch) (D : va_G) (cy : Nat → ClassId) (h : Nat) (h_wide : Int32) (h_high : Int32) (h_law : Int32) (h_spin : Int32) (h_line : Int32) (h_draught : Int32) (h_books : Int32) (h_rare : Int32) (h_quarrels_ : Nat) (h_nameSizes_ : Nat) (h_names_ : Nat) (h_quarrels : Nat → Int32) (h_nameSizes : Nat → Int32) (h_names : Nat → Int32) (sz : Nat) (hb0 : 0 ≤ h_wide.toInt ∧ h_wide.toInt ≤ 6) (hb1 : 0 ≤ h_high.toInt ∧ h_high.toInt ≤ 6) (hb2 : 0 ≤ h_books.toInt ∧ h_books.toInt ≤ 8) (hR0 : Rg h_nameSizes 0 8 (-900) 7) : MV l yX6_empty cX6_empty 2 (Rm 0 0 0 0) D cy [.ref h] sz [(h, .inr (6, [.int h_wide, .int h_high, .int h_law, .int h_spin, .int h_line, .int h_draught, .int h_books, .int h_rare, .ref h_quarrels_, .ref h_nameSizes_, .ref h_names_])), (h_quarrels_, .inl (cy 1, 8, .inl h_quarrels)), (h_nameSizes_, .inl (cy 1, 8, .inl h_nameSizes)), (h_names_, .inl (cy 1, 56, .inl h_names))] (fun u : Int32 × Int32 × Int32 × Int32 × Int32 × Int32 × Int32 × Int32 × (Nat → Int32) × (Nat → Int32) => (0 ≤ u.1.toInt ∧ u.1.toInt ≤ 6) ∧ (0 ≤ u.2.1.toInt ∧ u.2.1.toInt ≤ 6) ∧ (0 ≤ u.2.2.2.2.2.2.1.toInt ∧ u.2.2.2.2.2.2.1.toInt ≤ 8) ∧ (Rg u.2.2.2.2.2.2.2.2.2 0 8 (-900) 7)) (fun u : Int32 × Int32 × Int32 × Int32 × Int32 × Int32 × Int32 × Int32 × (Nat → Int32) × (Nat → Int32) => [(h, .inr (6, [.int u.1, .int u.2.1, .int u.2.2.1, .int u.2.2.2.1, .int u.2.2.2.2.1, .int u.2.2.2.2.2.1, .int u.2.2.2.2.2.2.1, .int u.2.2.2.2.2.2.2.1, .ref h_quarrels_, .ref h_nameSizes_, .ref h_names_])), (h_quarrels_, .inl (cy 1, 8, .inl u.2.2.2.2.2.2.2.2.1)), (h_nameSizes_, .inl (cy 1, 8, .inl u.2.2.2.2.2.2.2.2.2)), (h_names_, .inl (cy 1, 56, .inl h_names))]) := by
  refine MV.enter (by decide) (Nat.le_of_ble_eq_true rfl) ?_
  intro p e s m below meth c ls A hsz hAe C hP hD hS hl
  exact b_o_planEmpty l D cy h h_wide h_high h_law h_spin h_line h_draught h_books h_rare h_quarrels_ h_nameSizes_ h_names_ h_quarrels h_nameSizes h_names hb0 hb1 hb2 hR0 ⟨Nat.le_of_ble_eq_true rfl, Nat.le_of_ble_eq_true rfl⟩ C rfl _ _ ls hP hD hS hl
set_option maxHeartbeats 4000000 in
set_option maxRecDepth 100000 in
theorem b_o_planCopy (l : Launch) (D : va_G) (cy : Nat → ClassId) (h : Nat) (o : Nat) (h_wide : Int32) (h_high : Int32) (h_law : Int32) (h_spin : Int32) (h_line : Int32) (h_draught : Int32) (h_books : Int32) (h_rare : Int32) (h_quarrels_ : Nat) (h_nameSizes_ : Nat) (h_names_ : Nat) (h_quarrels : Nat → Int32) (h_nameSizes : Nat → Int32) (h_names : Nat → Int32) (o_wide : Int32) (o_high : Int32) (o_law : Int32) (o_spin : Int32) (o_line : Int32) (o_draught : Int32) (o_books : Int32) (o_rare : Int32) (o_quarrels_ : Nat) (o_nameSizes_ : Nat) (o_names_ : Nat) (o_quarrels : Nat → Int32) (o_nameSizes : Nat → Int32) (o_names : Nat → Int32) (hb0 : 0 ≤ h_wide.toInt ∧ h_wide.toInt ≤ 6) (hb1 : 0 ≤ h_high.toInt ∧ h_high.toInt ≤ 6) (hb2 : 0 ≤ h_books.toInt ∧ h_books.toInt ≤ 8) (hb3 : 0 ≤ o_wide.toInt ∧ o_wide.toInt ≤ 6) (hb4 : 0 ≤ o_high.toInt ∧ o_high.toInt ≤ 6) (hb5 : 0 ≤ o_books.toInt ∧ o_books.toInt ≤ 8) (hR0 : Rg h_nameSizes 0 8 (-900) 7) (hR1 : Rg o_nameSizes 0 8 (-900) 7) {p : Program} {e : Env} {s : State} {m : MethodId} {args : Array Value} {below : List Frame} {meth : Method} {c : Code} {A : Nat → Prop} {Q : State → Prop} {cells slots : Nat} (hroom : cells ≤ ((Rm 1 60 0 0)).cells ∧ slots ≤ ((Rm 1 60 0 0)).slots) (C : Cx p s m args meth c cX6_copyFrom 2 none RX6 "copyFrom" D cy A) (hQ : Q = MQ below (va_Qv (fun u : Int32 × Int32 × Int32 × Int32 × Int32 × Int32 × Int32 × Int32 × (Nat → Int32) × (Nat → Int32) × (Nat → Int32) => (0 ≤ u.1.toInt ∧ u.1.toInt ≤ 6) ∧ (0 ≤ u.2.1.toInt ∧ u.2.1.toInt ≤ 6) ∧ (0 ≤ u.2.2.2.2.2.2.1.toInt ∧ u.2.2.2.2.2.2.1.toInt ≤ 8) ∧ (Rg u.2.2.2.2.2.2.2.2.2.1 0 8 (-900) 7)) (Bx D A (fun u : Int32 × Int32 × Int32 × Int32 × Int32 × Int32 × Int32 × Int32 × (Nat → Int32) × (Nat → Int32) × (Nat → Int32) => [(h, .inr (6, [.int u.1, .int u.2.1, .int u.2.2.1, .int u.2.2.2.1, .int u.2.2.2.2.1, .int u.2.2.2.2.2.1, .int u.2.2.2.2.2.2.1, .int u.2.2.2.2.2.2.2.1, .ref h_quarrels_, .ref h_nameSizes_, .ref h_names_])), (h_quarrels_, .inl (cy 1, 8, .inl u.2.2.2.2.2.2.2.2.1)), (h_nameSizes_, .inl (cy 1, 8, .inl u.2.2.2.2.2.2.2.2.2.1)), (h_names_, .inl (cy 1, 56, .inl u.2.2.2.2.2.2.2.2.2.2)), (o, .inr (6, [.int o_wide, .int o_high, .int o_law, .int o_spin, .int o_line, .int o_draught, .int o_books, .int o_rare, .ref o_quarrels_, .ref o_nameSizes_, .ref o_names_])), (o_quarrels_, .inl (cy 1, 8, .inl o_quarrels)), (o_nameSizes_, .inl (cy 1, 8, .inl o_nameSizes)), (o_names_, .inl (cy 1, 56, .inl o_names))])) A) args s ((Rm 1 60 0 0)).cells ((Rm 1 60 0 0)).slots A) (H : Heap) (locs : List Loc) (ls : Array Slot) (hP : va_P D vwCl [(h, .inr (6, [.int h_wide, .int h_high, .int h_law, .int h_spin, .int h_line, .int h_draught, .int h_books, .int h_rare, .ref h_quarrels_, .ref h_nameSizes_, .ref h_names_])), (h_quarrels_, .inl (cy 1, 8, .inl h_quarrels)), (h_nameSizes_, .inl (cy 1, 8, .inl h_nameSizes)), (h_names_, .inl (cy 1, 56, .inl h_names)), (o, .inr (6, [.int o_wide, .int o_high, .int o_law, .int o_spin, .int o_line, .int o_draught, .int o_books, .int o_rare, .ref o_quarrels_, .ref o_nameSizes_, .ref o_names_])), (o_quarrels_, .inl (cy 1, 8, .inl o_quarrels)), (o_nameSizes_, .inl (cy 1, 8, .inl o_nameSizes)), (o_names_, .inl (cy 1, 56, .inl o_names))] H) (hD : va_D A [(h, .inr (6, [.int h_wide, .int h_high, .int h_law, .int h_spin, .int h_line, .int h_draught, .int h_books, .int h_rare, .ref h_quarrels_, .ref h_nameSizes_, .ref h_names_])), (h_quarrels_, .inl (cy 1, 8, .inl h_quarrels)), (h_nameSizes_, .inl (cy 1, 8, .inl h_nameSizes)), (h_names_, .inl (cy 1, 56, .inl h_names)), (o, .inr (6, [.int o_wide, .int o_high, .int o_law, .int o_spin, .int o_line, .int o_draught, .int o_books, .int o_rare, .ref o_quarrels_, .ref o_nameSizes_, .ref o_names_])), (o_quarrels_, .inl (cy 1, 8, .inl o_quarrels)), (o_nameSizes_, .inl (cy 1, 8, .inl o_nameSizes)), (o_names_, .inl (cy 1, 56, .inl o_names))]) (hS : va_S A s.heap H locs) (hl : lv_has ls 2 [(0, .ref h), (1, .ref o)]) : W p l e (Rm 1 60 0 0) s m args below meth c H locs cells slots Q (F0 m 0 ls []) := by
  have hx := C.1
  have hb := C.2.1
  refine lv_aload_n hx hb dX6_copyFrom_0 rfl (lv_at hl 0 rfl) ?_
  refine lv_aload_n hx hb dX6_copyFrom_1 rfl (lv_at hl 1 rfl) ?_
  refine q_get (v := .int o_wide) C hP 4 0 rfl rfl inX6 (by decide) kF_RX6_9 rfl rfl dX6_copyFrom_2 ?_
  refine q_put (v := .int o_wide) (w' := [(h, .inr (6, [.int o_wide, .int h_high, .int h_law, .int h_spin, .int h_line, .int h_draught, .int h_books, .int h_rare, .ref h_quarrels_, .ref h_nameSizes_, .ref h_names_])), (h_quarrels_, .inl (cy 1, 8, .inl h_quarrels)), (h_nameSizes_, .inl (cy 1, 8, .inl h_nameSizes)), (h_names_, .inl (cy 1, 56, .inl h_names)), (o, .inr (6, [.int o_wide, .int o_high, .int o_law, .int o_spin, .int o_line, .int o_draught, .int o_books, .int o_rare, .ref o_quarrels_, .ref o_nameSizes_, .ref o_names_])), (o_quarrels_, .inl (cy 1, 8, .inl o_quarrels)), (o_nameSizes_, .inl (cy 1, 8, .inl o_nameSizes)), (o_names_, .inl (cy 1, 56, .inl o_names))]) (ty := .int) C hP hD hS 0 0 rfl rfl inX6 tyX6 tyX6_ok nmX6 (by decide) kF_RX6_9 rfl rfl rfl rfl rfl (Nat.le_of_ble_eq_true rfl) rfl dX6_copyFrom_5 (fun H locs hP hD hS => ?_)
  refine lv_aload_n hx hb dX6_copyFrom_8 rfl (lv_at hl 0 rfl) ?_
  refine lv_aload_n hx hb dX6_copyFrom_9 rfl (lv_at hl 1 rfl) ?_
  refine q_get (v := .int o_high) C hP 4 1 rfl rfl inX6 (by decide) kF_RX6_15 rfl rfl dX6_copyFrom_10 ?_
  refine q_put (v := .int o_high) (w' := [(h, .inr (6, [.int o_wide, .int o_high, .int h_law, .int h_spin, .int h_line, .int h_draught, .int h_books, .int h_rare, .ref h_quarrels_, .ref h_nameSizes_, .ref h_names_])), (h_quarrels_, .inl (cy 1, 8, .inl h_quarrels)), (h_nameSizes_, .inl (cy 1, 8, .inl h_nameSizes)), (h_names_, .inl (cy 1, 56, .inl h_names)), (o, .inr (6, [.int o_wide, .int o_high, .int o_law, .int o_spin, .int o_line, .int o_draught, .int o_books, .int o_rare, .ref o_quarrels_, .ref o_nameSizes_, .ref o_names_])), (o_quarrels_, .inl (cy 1, 8, .inl o_quarrels)), (o_nameSizes_, .inl (cy 1, 8, .inl o_nameSizes)), (o_names_, .inl (cy 1, 56, .inl o_names))]) (ty := .int) C hP hD hS 0 1 rfl rfl inX6 tyX6 tyX6_ok nmX6 (by decide) kF_RX6_15 rfl rfl rfl rfl rfl (Nat.le_of_ble_eq_true rfl) rfl dX6_copyFrom_13 (fun H locs hP hD hS => ?_)
  refine lv_aload_n hx hb dX6_copyFrom_16 rfl (lv_at hl 0 rfl) ?_
  refine lv_aload_n hx hb dX6_copyFrom_17 rfl (lv_at hl 1 rfl) ?_
  refine q_get (v := .int o_law) C hP 4 2 rfl rfl inX6 (by decide) kF_RX6_18 rfl rfl dX6_copyFrom_18 ?_
  refine q_put (v := .int o_law) (w' := [(h, .inr (6, [.int o_wide, .int o_high, .int o_law, .int h_spin, .int h_line, .int h_draught, .int h_books, .int h_rare, .ref h_quarrels_, .ref h_nameSizes_, .ref h_names_])), (h_quarrels_, .inl (cy 1, 8, .inl h_quarrels)), (h_nameSizes_, .inl (cy 1, 8, .inl h_nameSizes)), (h_names_, .inl (cy 1, 56, .inl h_names)), (o, .inr (6, [.int o_wide, .int o_high, .int o_law, .int o_spin, .int o_line, .int o_draught, .int o_books, .int o_rare, .ref o_quarrels_, .ref o_nameSizes_, .ref o_names_])), (o_quarrels_, .inl (cy 1, 8, .inl o_quarrels)), (o_nameSizes_, .inl (cy 1, 8, .inl o_nameSizes)), (o_names_, .inl (cy 1, 56, .inl o_names))]) (ty := .int) C hP hD hS 0 2 rfl rfl inX6 tyX6 tyX6_ok nmX6 (by decide) kF_RX6_18 rfl rfl rfl rfl rfl (Nat.le_of_ble_eq_true rfl) rfl dX6_copyFrom_21 (fun H locs hP hD hS => ?_)
  refine lv_aload_n hx hb dX6_copyFrom_24 rfl (lv_at hl 0 rfl) ?_
  refine lv_aload_n hx hb dX6_copyFrom_25 rfl (lv_at hl 1 rfl) ?_
  refine q_get (v := .int o_spin) C hP 4 3 rfl rfl inX6 (by decide) kF_RX6_21 rfl rfl dX6_copyFrom_26 ?_
  refine q_put (v := .int o_spin) (w' := [(h, .inr (6, [.int o_wide, .int o_high, .int o_law, .int o_spin, .int h_line, .int h_draught, .int h_books, .int h_rare, .ref h_quarrels_, .ref h_nameSizes_, .ref h_names_])), (h_quarrels_, .inl (cy 1, 8, .inl h_quarrels)), (h_nameSizes_, .inl (cy 1, 8, .inl h_nameSizes)), (h_names_, .inl (cy 1, 56, .inl h_names)), (o, .inr (6, [.int o_wide, .int o_high, .int o_law, .int o_spin, .int o_line, .int o_draught, .int o_books, .int o_rare, .ref o_quarrels_, .ref o_nameSizes_, .ref o_names_])), (o_quarrels_, .inl (cy 1, 8, .inl o_quarrels)), (o_nameSizes_, .inl (cy 1, 8, .inl o_nameSizes)), (o_names_, .inl (cy 1, 56, .inl o_names))]) (ty := .int) C hP hD hS 0 3 rfl rfl inX6 tyX6 tyX6_ok nmX6 (by decide) kF_RX6_21 rfl rfl rfl rfl rfl (Nat.le_of_ble_eq_true rfl) rfl dX6_copyFrom_29 (fun H locs hP hD hS => ?_)
  refine lv_aload_n hx hb dX6_copyFrom_32 rfl (lv_at hl 0 rfl) ?_
  refine lv_aload_n hx hb dX6_copyFrom_33 rfl (lv_at hl 1 rfl) ?_
  refine q_get (v := .int o_line) C hP 4 4 rfl rfl inX6 (by decide) kF_RX6_24 rfl rfl dX6_copyFrom_34 ?_
  refine q_put (v := .int o_line) (w' := [(h, .inr (6, [.int o_wide, .int o_high, .int o_law, .int o_spin, .int o_line, .int h_draught, .int h_books, .int h_rare, .ref h_quarrels_, .ref h_nameSizes_, .ref h_names_])), (h_quarrels_, .inl (cy 1, 8, .inl h_quarrels)), (h_nameSizes_, .inl (cy 1, 8, .inl h_nameSizes)), (h_names_, .inl (cy 1, 56, .inl h_names)), (o, .inr (6, [.int o_wide, .int o_high, .int o_law, .int o_spin, .int o_line, .int o_draught, .int o_books, .int o_rare, .ref o_quarrels_, .ref o_nameSizes_, .ref o_names_])), (o_quarrels_, .inl (cy 1, 8, .inl o_quarrels)), (o_nameSizes_, .inl (cy 1, 8, .inl o_nameSizes)), (o_names_, .inl (cy 1, 56, .inl o_names))]) (ty := .int) C hP hD hS 0 4 rfl rfl inX6 tyX6 tyX6_ok nmX6 (by decide) kF_RX6_24 rfl rfl rfl rfl rfl (Nat.le_of_ble_eq_true rfl) rfl dX6_copyFrom_37 (fun H locs hP hD hS => ?_)
  refine lv_aload_n hx hb dX6_copyFrom_40 rfl (lv_at hl 0 rfl) ?_
  refine lv_aload_n hx hb dX6_copyFrom_41 rfl (lv_at hl 1 rfl) ?_
  refine q_get (v := .int o_draught) C hP 4 5 rfl rfl inX6 (by decide) kF_RX6_27 rfl rfl dX6_copyFrom_42 ?_
  refine q_put (v := .int o_draught) (w' := [(h, .inr (6, [.int o_wide, .int o_high, .int o_law, .int o_spin, .int o_line, .int o_draught, .int h_books, .int h_rare, .ref h_quarrels_, .ref h_nameSizes_, .ref h_names_])), (h_quarrels_, .inl (cy 1, 8, .inl h_quarrels)), (h_nameSizes_, .inl (cy 1, 8, .inl h_nameSizes)), (h_names_, .inl (cy 1, 56, .inl h_names)), (o, .inr (6, [.int o_wide, .int o_high, .int o_law, .int o_spin, .int o_line, .int o_draught, .int o_books, .int o_rare, .ref o_quarrels_, .ref o_nameSizes_, .ref o_names_])), (o_quarrels_, .inl (cy 1, 8, .inl o_quarrels)), (o_nameSizes_, .inl (cy 1, 8, .inl o_nameSizes)), (o_names_, .inl (cy 1, 56, .inl o_names))]) (ty := .int) C hP hD hS 0 5 rfl rfl inX6 tyX6 tyX6_ok nmX6 (by decide) kF_RX6_27 rfl rfl rfl rfl rfl (Nat.le_of_ble_eq_true rfl) rfl dX6_copyFrom_45 (fun H locs hP hD hS => ?_)
  refine lv_aload_n hx hb dX6_copyFrom_48 rfl (lv_at hl 0 rfl) ?_
  refine lv_aload_n hx hb dX6_copyFrom_49 rfl (lv_at hl 1 rfl) ?_
  refine q_get (v := .int o_books) C hP 4 6 rfl rfl inX6 (by decide) kF_RX6_30 rfl rfl dX6_copyFrom_50 ?_
  refine q_put (v := .int o_books) (w' := [(h, .inr (6, [.int o_wide, .int o_high, .int o_law, .int o_spin, .int o_line, .int o_draught, .int o_books, .int h_rare, .ref h_quarrels_, .ref h_nameSizes_, .ref h_names_])), (h_quarrels_, .inl (cy 1, 8, .inl h_quarrels)), (h_nameSizes_, .inl (cy 1, 8, .inl h_nameSizes)), (h_names_, .inl (cy 1, 56, .inl h_names)), (o, .inr (6, [.int o_wide, .int o_high, .int o_law, .int o_spin, .int o_line, .int o_draught, .int o_books, .int o_rare, .ref o_quarrels_, .ref o_nameSizes_, .ref o_names_])), (o_quarrels_, .inl (cy 1, 8, .inl o_quarrels)), (o_nameSizes_, .inl (cy 1, 8, .inl o_nameSizes)), (o_names_, .inl (cy 1, 56, .inl o_names))]) (ty := .int) C hP hD hS 0 6 rfl rfl inX6 tyX6 tyX6_ok nmX6 (by decide) kF_RX6_30 rfl rfl rfl rfl rfl (Nat.le_of_ble_eq_true rfl) rfl dX6_copyFrom_53 (fun H locs hP hD hS => ?_)
  refine lv_aload_n hx hb dX6_copyFrom_56 rfl (lv_at hl 0 rfl) ?_
  refine lv_aload_n hx hb dX6_copyFrom_57 rfl (lv_at hl 1 rfl) ?_
  refine q_get (v := .int o_rare) C hP 4 7 rfl rfl inX6 (by decide) kF_RX6_33 rfl rfl dX6_copyFrom_58 ?_
  refine q_put (v := .int o_rare) (w' := [(h, .inr (6, [.int o_wide, .int o_high, .int o_law, .int o_spin, .int o_line, .int o_draught, .int o_books, .int o_rare, .ref h_quarrels_, .ref h_nameSizes_, .ref h_names_])), (h_quarrels_, .inl (cy 1, 8, .inl h_quarrels)), (h_nameSizes_, .inl (cy 1, 8, .inl h_nameSizes)), (h_names_, .inl (cy 1, 56, .inl h_names)), (o, .inr (6, [.int o_wide, .int o_high, .int o_law, .int o_spin, .int o_line, .int o_draught, .int o_books, .int o_rare, .ref o_quarrels_, .ref o_nameSizes_, .ref o_names_])), (o_quarrels_, .inl (cy 1, 8, .inl o_quarrels)), (o_nameSizes_, .inl (cy 1, 8, .inl o_nameSizes)), (o_names_, .inl (cy 1, 56, .inl o_names))]) (ty := .int) C hP hD hS 0 7 rfl rfl inX6 tyX6 tyX6_ok nmX6 (by decide) kF_RX6_33 rfl rfl rfl rfl rfl (Nat.le_of_ble_eq_true rfl) rfl dX6_copyFrom_61 (fun H locs hP hD hS => ?_)
  refine lv_aload_n hx hb dX6_copyFrom_64 rfl (lv_at hl 1 rfl) ?_
  refine q_get (v := .ref o_quarrels_) C hP 4 8 rfl rfl inX6 (by decide) kF_RX6_36 rfl rfl dX6_copyFrom_65 ?_
  refine lv_iconst (v := 0) hx hb dX6_copyFrom_68 (by decide) ?_
  refine lv_aload_n hx hb dX6_copyFrom_69 rfl (lv_at hl 0 rfl) ?_
  refine q_get (v := .ref h_quarrels_) C hP 0 8 rfl rfl inX6 (by decide) kF_RX6_36 rfl rfl dX6_copyFrom_70 ?_
  refine lv_iconst (v := 0) hx hb dX6_copyFrom_73 (by decide) ?_
  refine lv_bipush (v := 8) hx hb dX6_copyFrom_74 (by decide) ?_
  refine q_copy (g' := va_cpy o_quarrels h_quarrels 0 0 8) (w' := [(h, .inr (6, [.int o_wide, .int o_high, .int o_law, .int o_spin, .int o_line, .int o_draught, .int o_books, .int o_rare, .ref h_quarrels_, .ref h_nameSizes_, .ref h_names_])), (h_quarrels_, .inl (cy 1, 8, .inl (va_cpy o_quarrels h_quarrels 0 0 8))), (h_nameSizes_, .inl (cy 1, 8, .inl h_nameSizes)), (h_names_, .inl (cy 1, 56, .inl h_names)), (o, .inr (6, [.int o_wide, .int o_high, .int o_law, .int o_spin, .int o_line, .int o_draught, .int o_books, .int o_rare, .ref o_quarrels_, .ref o_nameSizes_, .ref o_names_])), (o_quarrels_, .inl (cy 1, 8, .inl o_quarrels)), (o_nameSizes_, .inl (cy 1, 8, .inl o_nameSizes)), (o_names_, .inl (cy 1, 56, .inl o_names))]) C hl.1 hP hD hS 5 1 rfl rfl kM_RX6_46 (by decide) (by decide) (by decide) (by decide) (by decide) (Nat.le_of_ble_eq_true rfl) (Nat.le_of_ble_eq_true rfl) rfl rfl dX6_copyFrom_76 (fun H locs hP hD hS => ?_)
  generalize va_cpy o_quarrels h_quarrels 0 0 8 = g_1 at hP hD 
  have hP : va_P D vwCl [(h, .inr (6, [.int o_wide, .int o_high, .int o_law, .int o_spin, .int o_line, .int o_draught, .int o_books, .int o_rare, .ref h_quarrels_, .ref h_nameSizes_, .ref h_names_])), (h_quarrels_, .inl (cy 1, 8, .inl g_1)), (h_nameSizes_, .inl (cy 1, 8, .inl h_nameSizes)), (h_names_, .inl (cy 1, 56, .inl h_names)), (o, .inr (6, [.int o_wide, .int o_high, .int o_law, .int o_spin, .int o_line, .int o_draught, .int o_books, .int o_rare, .ref o_quarrels_, .ref o_nameSizes_, .ref o_names_])), (o_quarrels_, .inl (cy 1, 8, .inl o_quarrels)), (o_nameSizes_, .inl (cy 1, 8, .inl o_nameSizes)), (o_names_, .inl (cy 1, 56, .inl o_names))] H := hP
  have hD : va_D A [(h, .inr (6, [.int o_wide, .int o_high, .int o_law, .int o_spin, .int o_line, .int o_draught, .int o_books, .int o_rare, .ref h_quarrels_, .ref h_nameSizes_, .ref h_names_])), (h_quarrels_, .inl (cy 1, 8, .inl g_1)), (h_nameSizes_, .inl (cy 1, 8, .inl h_nameSizes)), (h_names_, .inl (cy 1, 56, .inl h_names)), (o, .inr (6, [.int o_wide, .int o_high, .int o_law, .int o_spin, .int o_line, .int o_draught, .int o_books, .int o_rare, .ref o_quarrels_, .ref o_nameSizes_, .ref o_names_])), (o_quarrels_, .inl (cy 1, 8, .inl o_quarrels)), (o_nameSizes_, .inl (cy 1, 8, .inl o_nameSizes)), (o_names_, .inl (cy 1, 56, .inl o_names))] := hD
  refine lv_aload_n hx hb dX6_copyFrom_79 rfl (lv_at hl 1 rfl) ?_
  refine q_get (v := .ref o_nameSizes_) C hP 4 9 rfl rfl inX6 (by decide) kF_RX6_40 rfl rfl dX6_copyFrom_80 ?_
  refine lv_iconst (v := 0) hx hb dX6_copyFrom_83 (by decide) ?_
  refine lv_aload_n hx hb dX6_copyFrom_84 rfl (lv_at hl 0 rfl) ?_
  refine q_get (v := .ref h_nameSizes_) C hP 0 9 rfl rfl inX6 (by decide) kF_RX6_40 rfl rfl dX6_copyFrom_85 ?_
  refine lv_iconst (v := 0) hx hb dX6_copyFrom_88 (by decide) ?_
  refine lv_bipush (v := 8) hx hb dX6_copyFrom_89 (by decide) ?_
  refine q_copy (g' := va_cpy o_nameSizes h_nameSizes 0 0 8) (w' := [(h, .inr (6, [.int o_wide, .int o_high, .int o_law, .int o_spin, .int o_line, .int o_draught, .int o_books, .int o_rare, .ref h_quarrels_, .ref h_nameSizes_, .ref h_names_])), (h_quarrels_, .inl (cy 1, 8, .inl g_1)), (h_nameSizes_, .inl (cy 1, 8, .inl (va_cpy o_nameSizes h_nameSizes 0 0 8))), (h_names_, .inl (cy 1, 56, .inl h_names)), (o, .inr (6, [.int o_wide, .int o_high, .int o_law, .int o_spin, .int o_line, .int o_draught, .int o_books, .int o_rare, .ref o_quarrels_, .ref o_nameSizes_, .ref o_names_])), (o_quarrels_, .inl (cy 1, 8, .inl o_quarrels)), (o_nameSizes_, .inl (cy 1, 8, .inl o_nameSizes)), (o_names_, .inl (cy 1, 56, .inl o_names))]) C hl.1 hP hD hS 6 2 rfl rfl kM_RX6_46 (by decide) (by decide) (by decide) (by decide) (by decide) (Nat.le_of_ble_eq_true rfl) (Nat.le_of_ble_eq_true rfl) rfl rfl dX6_copyFrom_91 (fun H locs hP hD hS => ?_)
  have Rg_2_0 := Rg.cpy (sp := 0) (dp := 0) (n := 8) (f := o_nameSizes) (hf := hR1) hR0
  generalize va_cpy o_nameSizes h_nameSizes 0 0 8 = g_2 at hP hD Rg_2_0
  have hP : va_P D vwCl [(h, .inr (6, [.int o_wide, .int o_high, .int o_law, .int o_spin, .int o_line, .int o_draught, .int o_books, .int o_rare, .ref h_quarrels_, .ref h_nameSizes_, .ref h_names_])), (h_quarrels_, .inl (cy 1, 8, .inl g_1)), (h_nameSizes_, .inl (cy 1, 8, .inl g_2)), (h_names_, .inl (cy 1, 56, .inl h_names)), (o, .inr (6, [.int o_wide, .int o_high, .int o_law, .int o_spin, .int o_line, .int o_draught, .int o_books, .int o_rare, .ref o_quarrels_, .ref o_nameSizes_, .ref o_names_])), (o_quarrels_, .inl (cy 1, 8, .inl o_quarrels)), (o_nameSizes_, .inl (cy 1, 8, .inl o_nameSizes)), (o_names_, .inl (cy 1, 56, .inl o_names))] H := hP
  have hD : va_D A [(h, .inr (6, [.int o_wide, .int o_high, .int o_law, .int o_spin, .int o_line, .int o_draught, .int o_books, .int o_rare, .ref h_quarrels_, .ref h_nameSizes_, .ref h_names_])), (h_quarrels_, .inl (cy 1, 8, .inl g_1)), (h_nameSizes_, .inl (cy 1, 8, .inl g_2)), (h_names_, .inl (cy 1, 56, .inl h_names)), (o, .inr (6, [.int o_wide, .int o_high, .int o_law, .int o_spin, .int o_line, .int o_draught, .int o_books, .int o_rare, .ref o_quarrels_, .ref o_nameSizes_, .ref o_names_])), (o_quarrels_, .inl (cy 1, 8, .inl o_quarrels)), (o_nameSizes_, .inl (cy 1, 8, .inl o_nameSizes)), (o_names_, .inl (cy 1, 56, .inl o_names))] := hD
  refine lv_aload_n hx hb dX6_copyFrom_94 rfl (lv_at hl 1 rfl) ?_
  refine q_get (v := .ref o_names_) C hP 4 10 rfl rfl inX6 (by decide) kF_RX6_43 rfl rfl dX6_copyFrom_95 ?_
  refine lv_iconst (v := 0) hx hb dX6_copyFrom_98 (by decide) ?_
  refine lv_aload_n hx hb dX6_copyFrom_99 rfl (lv_at hl 0 rfl) ?_
  refine q_get (v := .ref h_names_) C hP 0 10 rfl rfl inX6 (by decide) kF_RX6_43 rfl rfl dX6_copyFrom_100 ?_
  refine lv_iconst (v := 0) hx hb dX6_copyFrom_103 (by decide) ?_
  refine lv_bipush (v := 56) hx hb dX6_copyFrom_104 (by decide) ?_
  refine q_copy (g' := va_cpy o_names h_names 0 0 56) (w' := [(h, .inr (6, [.int o_wide, .int o_high, .int o_law, .int o_spin, .int o_line, .int o_draught, .int o_books, .int o_rare, .ref h_quarrels_, .ref h_nameSizes_, .ref h_names_])), (h_quarrels_, .inl (cy 1, 8, .inl g_1)), (h_nameSizes_, .inl (cy 1, 8, .inl g_2)), (h_names_, .inl (cy 1, 56, .inl (va_cpy o_names h_names 0 0 56))), (o, .inr (6, [.int o_wide, .int o_high, .int o_law, .int o_spin, .int o_line, .int o_draught, .int o_books, .int o_rare, .ref o_quarrels_, .ref o_nameSizes_, .ref o_names_])), (o_quarrels_, .inl (cy 1, 8, .inl o_quarrels)), (o_nameSizes_, .inl (cy 1, 8, .inl o_nameSizes)), (o_names_, .inl (cy 1, 56, .inl o_names))]) C hl.1 hP hD hS 7 3 rfl rfl kM_RX6_46 (by decide) (by decide) (by decide) (by decide) (by decide) (Nat.le_of_ble_eq_true rfl) (Nat.le_of_ble_eq_true rfl) rfl rfl dX6_copyFrom_106 (fun H locs hP hD hS => ?_)
  generalize va_cpy o_names h_names 0 0 56 = g_3 at hP hD 
  have hP : va_P D vwCl [(h, .inr (6, [.int o_wide, .int o_high, .int o_law, .int o_spin, .int o_line, .int o_draught, .int o_books, .int o_rare, .ref h_quarrels_, .ref h_nameSizes_, .ref h_names_])), (h_quarrels_, .inl (cy 1, 8, .inl g_1)), (h_nameSizes_, .inl (cy 1, 8, .inl g_2)), (h_names_, .inl (cy 1, 56, .inl g_3)), (o, .inr (6, [.int o_wide, .int o_high, .int o_law, .int o_spin, .int o_line, .int o_draught, .int o_books, .int o_rare, .ref o_quarrels_, .ref o_nameSizes_, .ref o_names_])), (o_quarrels_, .inl (cy 1, 8, .inl o_quarrels)), (o_nameSizes_, .inl (cy 1, 8, .inl o_nameSizes)), (o_names_, .inl (cy 1, 56, .inl o_names))] H := hP
  have hD : va_D A [(h, .inr (6, [.int o_wide, .int o_high, .int o_law, .int o_spin, .int o_line, .int o_draught, .int o_books, .int o_rare, .ref h_quarrels_, .ref h_nameSizes_, .ref h_names_])), (h_quarrels_, .inl (cy 1, 8, .inl g_1)), (h_nameSizes_, .inl (cy 1, 8, .inl g_2)), (h_names_, .inl (cy 1, 56, .inl g_3)), (o, .inr (6, [.int o_wide, .int o_high, .int o_law, .int o_spin, .int o_line, .int o_draught, .int o_books, .int o_rare, .ref o_quarrels_, .ref o_nameSizes_, .ref o_names_])), (o_quarrels_, .inl (cy 1, 8, .inl o_quarrels)), (o_nameSizes_, .inl (cy 1, 8, .inl o_nameSizes)), (o_names_, .inl (cy 1, 56, .inl o_names))] := hD
  refine o_wq hQ ?_
  exact q_vret (rm := (Rm 1 60 0 0)) C hS (o_wide, o_high, o_law, o_spin, o_line, o_draught, o_books, o_rare, g_1, g_2, g_3) ⟨(show 0 ≤ o_wide.toInt ∧ o_wide.toInt ≤ 6 by omega), (show 0 ≤ o_high.toInt ∧ o_high.toInt ≤ 6 by omega), (show 0 ≤ o_books.toInt ∧ o_books.toInt ≤ 8 by omega), Rg_2_0⟩ (q_subP hP [0, 1, 2, 3, 4, 5, 6, 7] rfl) (hD.sub [0, 1, 2, 3, 4, 5, 6, 7] (by decide) rfl) hroom.1 hroom.2 dX6_copyFrom_109
theorem o_planCopy (l : Launch) (D : va_G) (cy : Nat → ClassId) (h : Nat) (o : Nat) (h_wide : Int32) (h_high : Int32) (h_law : Int32) (h_spin : Int32) (h_line : Int32) (h_draught : Int32) (h_books : Int32) (h_rare : Int32) (h_quarrels_ : Nat) (h_nameSizes_ : Nat) (h_names_ : Nat) (h_quarrels : Nat → Int32) (h_nameSizes : Nat → Int32) (h_names : Nat → Int32) (o_wide : Int32) (o_high : Int32) (o_law : Int32) (o_spin : Int32) (o_line : Int32) (o_draught : Int32) (o_books : Int32) (o_rare : Int32) (o_quarrels_ : Nat) (o_nameSizes_ : Nat) (o_names_ : Nat) (o_quarrels : Nat → Int32) (o_nameSizes : Nat → Int32) (o_names : Nat → Int32) (sz : Nat) (hb0 : 0 ≤ h_wide.toInt ∧ h_wide.toInt ≤ 6) (hb1 : 0 ≤ h_high.toInt ∧ h_high.toInt ≤ 6) (hb2 : 0 ≤ h_books.toInt ∧ h_books.toInt ≤ 8) (hb3 : 0 ≤ o_wide.toInt ∧ o_wide.toInt ≤ 6) (hb4 : 0 ≤ o_high.toInt ∧ o_high.toInt ≤ 6) (hb5 : 0 ≤ o_books.toInt ∧ o_books.toInt ≤ 8) (hR0 : Rg h_nameSizes 0 8 (-900) 7) (hR1 : Rg o_nameSizes 0 8 (-900) 7) : MV l yX6_copyFrom cX6_copyFrom 2 (Rm 1 60 0 0) D cy [.ref h, .ref o] sz [(h, .inr (6, [.int h_wide, .int h_high, .int h_law, .int h_spin, .int h_line, .int h_draught, .int h_books, .int h_rare, .ref h_quarrels_, .ref h_nameSizes_, .ref h_names_])), (h_quarrels_, .inl (cy 1, 8, .inl h_quarrels)), (h_nameSizes_, .inl (cy 1, 8, .inl h_nameSizes)), (h_names_, .inl (cy 1, 56, .inl h_names)), (o, .inr (6, [.int o_wide, .int o_high, .int o_law, .int o_spin, .int o_line, .int o_draught, .int o_books, .int o_rare, .ref o_quarrels_, .ref o_nameSizes_, .ref o_names_])), (o_quarrels_, .inl (cy 1, 8, .inl o_quarrels)), (o_nameSizes_, .inl (cy 1, 8, .inl o_nameSizes)), (o_names_, .inl (cy 1, 56, .inl o_names))] (fun u : Int32 × Int32 × Int32 × Int32 × Int32 × Int32 × Int32 × Int32 × (Nat → Int32) × (Nat → Int32) × (Nat → Int32) => (0 ≤ u.1.toInt ∧ u.1.toInt ≤ 6) ∧ (0 ≤ u.2.1.toInt ∧ u.2.1.toInt ≤ 6) ∧ (0 ≤ u.2.2.2.2.2.2.1.toInt ∧ u.2.2.2.2.2.2.1.toInt ≤ 8) ∧ (Rg u.2.2.2.2.2.2.2.2.2.1 0 8 (-900) 7)) (fun u : Int32 × Int32 × Int32 × Int32 × Int32 × Int32 × Int32 × Int32 × (Nat → Int32) × (Nat → Int32) × (Nat → Int32) => [(h, .inr (6, [.int u.1, .int u.2.1, .int u.2.2.1, .int u.2.2.2.1, .int u.2.2.2.2.1, .int u.2.2.2.2.2.1, .int u.2.2.2.2.2.2.1, .int u.2.2.2.2.2.2.2.1, .ref h_quarrels_, .ref h_nameSizes_, .ref h_names_])), (h_quarrels_, .inl (cy 1, 8, .inl u.2.2.2.2.2.2.2.2.1)), (h_nameSizes_, .inl (cy 1, 8, .inl u.2.2.2.2.2.2.2.2.2.1)), (h_names_, .inl (cy 1, 56, .inl u.2.2.2.2.2.2.2.2.2.2)), (o, .inr (6, [.int o_wide, .int o_high, .int o_law, .int o_spin, .int o_line, .int o_draught, .int o_books, .int o_rare, .ref o_quarrels_, .ref o_nameSizes_, .ref o_names_])), (o_quarrels_, .inl (cy 1, 8, .inl o_quarrels)), (o_nameSizes_, .inl (cy 1, 8, .inl o_nameSizes)), (o_names_, .inl (cy 1, 56, .inl o_names))]) := by
  refine MV.enter (by decide) (Nat.le_of_ble_eq_true rfl) ?_
  intro p e s m below meth c ls A hsz hAe C hP hD hS hl
  exact b_o_planCopy l D cy h o h_wide h_high h_law h_spin h_line h_draught h_books h_rare h_quarrels_ h_nameSizes_ h_names_ h_quarrels h_nameSizes h_names o_wide o_high o_law o_spin o_line o_draught o_books o_rare o_quarrels_ o_nameSizes_ o_names_ o_quarrels o_nameSizes o_names hb0 hb1 hb2 hb3 hb4 hb5 hR0 hR1 ⟨Nat.le_of_ble_eq_true rfl, Nat.le_of_ble_eq_true rfl⟩ C rfl _ _ ls hP hD hS hl
set_option maxHeartbeats 4000000 in
set_option maxRecDepth 100000 in
theorem b_o_setNumber (l : Launch) (D : va_G) (cy : Nat → ClassId) (h : Nat) (v : Int32) (w : Int32) (h_wide : Int32) (h_high : Int32) (h_law : Int32) (h_spin : Int32) (h_line : Int32) (h_draught : Int32) (h_books : Int32) (h_rare : Int32) (h_quarrels_ : Nat) (h_nameSizes_ : Nat) (h_names_ : Nat) (h_quarrels : Nat → Int32) (h_nameSizes : Nat → Int32) (h_names : Nat → Int32) (hb0 : 0 ≤ h_wide.toInt ∧ h_wide.toInt ≤ 6) (hb1 : 0 ≤ h_high.toInt ∧ h_high.toInt ≤ 6) (hb2 : 0 ≤ h_books.toInt ∧ h_books.toInt ≤ 8) (hR0 : Rg h_nameSizes 0 8 (-900) 7) {p : Program} {e : Env} {s : State} {m : MethodId} {args : Array Value} {below : List Frame} {meth : Method} {c : Code} {A : Nat → Prop} {Q : State → Prop} {cells slots : Nat} (hroom : cells ≤ ((Rm 0 0 0 0)).cells ∧ slots ≤ ((Rm 0 0 0 0)).slots) (C : Cx p s m args meth c cX6_setNumber 3 none RX6 "setNumber" D cy A) (hQ : Q = MQ below (va_Qv (fun u : Int32 × Int32 × Int32 × Int32 => True) (Bx D A (fun u : Int32 × Int32 × Int32 × Int32 => [(h, .inr (6, [.int h_wide, .int h_high, .int u.1, .int u.2.1, .int u.2.2.1, .int u.2.2.2, .int h_books, .int h_rare, .ref h_quarrels_, .ref h_nameSizes_, .ref h_names_])), (h_quarrels_, .inl (cy 1, 8, .inl h_quarrels)), (h_nameSizes_, .inl (cy 1, 8, .inl h_nameSizes)), (h_names_, .inl (cy 1, 56, .inl h_names))])) A) args s ((Rm 0 0 0 0)).cells ((Rm 0 0 0 0)).slots A) (H : Heap) (locs : List Loc) (ls : Array Slot) (hP : va_P D vwCl [(h, .inr (6, [.int h_wide, .int h_high, .int h_law, .int h_spin, .int h_line, .int h_draught, .int h_books, .int h_rare, .ref h_quarrels_, .ref h_nameSizes_, .ref h_names_])), (h_quarrels_, .inl (cy 1, 8, .inl h_quarrels)), (h_nameSizes_, .inl (cy 1, 8, .inl h_nameSizes)), (h_names_, .inl (cy 1, 56, .inl h_names))] H) (hD : va_D A [(h, .inr (6, [.int h_wide, .int h_high, .int h_law, .int h_spin, .int h_line, .int h_draught, .int h_books, .int h_rare, .ref h_quarrels_, .ref h_nameSizes_, .ref h_names_])), (h_quarrels_, .inl (cy 1, 8, .inl h_quarrels)), (h_nameSizes_, .inl (cy 1, 8, .inl h_nameSizes)), (h_names_, .inl (cy 1, 56, .inl h_names))]) (hS : va_S A s.heap H locs) (hl : lv_has ls 3 [(0, .ref h), (1, .int v), (2, .int w)]) : W p l e (Rm 0 0 0 0) s m args below meth c H locs cells slots Q (F0 m 0 ls []) := by
  have hx := C.1
  have hb := C.2.1
  have hqv := o_rng v
  have hqw := o_rng w
  refine lv_iload_n hx hb dX6_setNumber_0 rfl (lv_at hl 1 rfl) ?_
  rcases (show v.toInt = 7 ∨ v.toInt = 8 ∨ v.toInt = 9 ∨ (v.toInt < 7 ∨ 9 < v.toInt) by omega) with hc_1 | hc_1 | hc_1 | hc_1
  · refine lv_tableIn (off := 27) (tgt := 28) hx hb dX6_setNumber_1 (by omega) (by omega) (by rw [hc_1]; decide) (by decide) ?_
    refine lv_aload_n hx hb dX6_setNumber_28 rfl (lv_at hl 0 rfl) ?_
    refine lv_iload_n hx hb dX6_setNumber_29 rfl (lv_at hl 2 rfl) ?_
    refine q_put (v := .int w) (w' := [(h, .inr (6, [.int h_wide, .int h_high, .int w, .int h_spin, .int h_line, .int h_draught, .int h_books, .int h_rare, .ref h_quarrels_, .ref h_nameSizes_, .ref h_names_])), (h_quarrels_, .inl (cy 1, 8, .inl h_quarrels)), (h_nameSizes_, .inl (cy 1, 8, .inl h_nameSizes)), (h_names_, .inl (cy 1, 56, .inl h_names))]) (ty := .int) C hP hD hS 0 2 rfl rfl inX6 tyX6 tyX6_ok nmX6 (by decide) kF_RX6_18 rfl rfl rfl rfl rfl (Nat.le_of_ble_eq_true rfl) rfl dX6_setNumber_30 (fun H locs hP hD hS => ?_)
    refine lv_goto (tgt := 57) hx hb dX6_setNumber_33 (by decide) ?_
    refine o_wq hQ ?_
    exact q_vret (rm := (Rm 0 0 0 0)) C hS (w, h_spin, h_line, h_draught) trivial (q_subP hP [0, 1, 2, 3] rfl) (hD.sub [0, 1, 2, 3] (by decide) rfl) hroom.1 hroom.2 dX6_setNumber_57
  · refine lv_tableIn (off := 35) (tgt := 36) hx hb dX6_setNumber_1 (by omega) (by omega) (by rw [hc_1]; decide) (by decide) ?_
    refine lv_aload_n hx hb dX6_setNumber_36 rfl (lv_at hl 0 rfl) ?_
    refine lv_iload_n hx hb dX6_setNumber_37 rfl (lv_at hl 2 rfl) ?_
    refine q_put (v := .int w) (w' := [(h, .inr (6, [.int h_wide, .int h_high, .int h_law, .int w, .int h_line, .int h_draught, .int h_books, .int h_rare, .ref h_quarrels_, .ref h_nameSizes_, .ref h_names_])), (h_quarrels_, .inl (cy 1, 8, .inl h_quarrels)), (h_nameSizes_, .inl (cy 1, 8, .inl h_nameSizes)), (h_names_, .inl (cy 1, 56, .inl h_names))]) (ty := .int) C hP hD hS 0 3 rfl rfl inX6 tyX6 tyX6_ok nmX6 (by decide) kF_RX6_21 rfl rfl rfl rfl rfl (Nat.le_of_ble_eq_true rfl) rfl dX6_setNumber_38 (fun H locs hP hD hS => ?_)
    refine lv_goto (tgt := 57) hx hb dX6_setNumber_41 (by decide) ?_
    refine o_wq hQ ?_
    exact q_vret (rm := (Rm 0 0 0 0)) C hS (h_law, w, h_line, h_draught) trivial (q_subP hP [0, 1, 2, 3] rfl) (hD.sub [0, 1, 2, 3] (by decide) rfl) hroom.1 hroom.2 dX6_setNumber_57
  · refine lv_tableIn (off := 43) (tgt := 44) hx hb dX6_setNumber_1 (by omega) (by omega) (by rw [hc_1]; decide) (by decide) ?_
    refine lv_aload_n hx hb dX6_setNumber_44 rfl (lv_at hl 0 rfl) ?_
    refine lv_iload_n hx hb dX6_setNumber_45 rfl (lv_at hl 2 rfl) ?_
    refine q_put (v := .int w) (w' := [(h, .inr (6, [.int h_wide, .int h_high, .int h_law, .int h_spin, .int w, .int h_draught, .int h_books, .int h_rare, .ref h_quarrels_, .ref h_nameSizes_, .ref h_names_])), (h_quarrels_, .inl (cy 1, 8, .inl h_quarrels)), (h_nameSizes_, .inl (cy 1, 8, .inl h_nameSizes)), (h_names_, .inl (cy 1, 56, .inl h_names))]) (ty := .int) C hP hD hS 0 4 rfl rfl inX6 tyX6 tyX6_ok nmX6 (by decide) kF_RX6_24 rfl rfl rfl rfl rfl (Nat.le_of_ble_eq_true rfl) rfl dX6_setNumber_46 (fun H locs hP hD hS => ?_)
    refine lv_goto (tgt := 57) hx hb dX6_setNumber_49 (by decide) ?_
    refine o_wq hQ ?_
    exact q_vret (rm := (Rm 0 0 0 0)) C hS (h_law, h_spin, w, h_draught) trivial (q_subP hP [0, 1, 2, 3] rfl) (hD.sub [0, 1, 2, 3] (by decide) rfl) hroom.1 hroom.2 dX6_setNumber_57
  · refine lv_tableOut (tgt := 52) hx hb dX6_setNumber_1 hc_1 (by decide) ?_
    refine lv_aload_n hx hb dX6_setNumber_52 rfl (lv_at hl 0 rfl) ?_
    refine lv_iload_n hx hb dX6_setNumber_53 rfl (lv_at hl 2 rfl) ?_
    refine q_put (v := .int w) (w' := [(h, .inr (6, [.int h_wide, .int h_high, .int h_law, .int h_spin, .int h_line, .int w, .int h_books, .int h_rare, .ref h_quarrels_, .ref h_nameSizes_, .ref h_names_])), (h_quarrels_, .inl (cy 1, 8, .inl h_quarrels)), (h_nameSizes_, .inl (cy 1, 8, .inl h_nameSizes)), (h_names_, .inl (cy 1, 56, .inl h_names))]) (ty := .int) C hP hD hS 0 5 rfl rfl inX6 tyX6 tyX6_ok nmX6 (by decide) kF_RX6_27 rfl rfl rfl rfl rfl (Nat.le_of_ble_eq_true rfl) rfl dX6_setNumber_54 (fun H locs hP hD hS => ?_)
    refine o_wq hQ ?_
    exact q_vret (rm := (Rm 0 0 0 0)) C hS (h_law, h_spin, h_line, w) trivial (q_subP hP [0, 1, 2, 3] rfl) (hD.sub [0, 1, 2, 3] (by decide) rfl) hroom.1 hroom.2 dX6_setNumber_57
theorem o_setNumber (l : Launch) (D : va_G) (cy : Nat → ClassId) (h : Nat) (v : Int32) (w : Int32) (h_wide : Int32) (h_high : Int32) (h_law : Int32) (h_spin : Int32) (h_line : Int32) (h_draught : Int32) (h_books : Int32) (h_rare : Int32) (h_quarrels_ : Nat) (h_nameSizes_ : Nat) (h_names_ : Nat) (h_quarrels : Nat → Int32) (h_nameSizes : Nat → Int32) (h_names : Nat → Int32) (sz : Nat) (hb0 : 0 ≤ h_wide.toInt ∧ h_wide.toInt ≤ 6) (hb1 : 0 ≤ h_high.toInt ∧ h_high.toInt ≤ 6) (hb2 : 0 ≤ h_books.toInt ∧ h_books.toInt ≤ 8) (hR0 : Rg h_nameSizes 0 8 (-900) 7) : MV l yX6_setNumber cX6_setNumber 3 (Rm 0 0 0 0) D cy [.ref h, .int v, .int w] sz [(h, .inr (6, [.int h_wide, .int h_high, .int h_law, .int h_spin, .int h_line, .int h_draught, .int h_books, .int h_rare, .ref h_quarrels_, .ref h_nameSizes_, .ref h_names_])), (h_quarrels_, .inl (cy 1, 8, .inl h_quarrels)), (h_nameSizes_, .inl (cy 1, 8, .inl h_nameSizes)), (h_names_, .inl (cy 1, 56, .inl h_names))] (fun u : Int32 × Int32 × Int32 × Int32 => True) (fun u : Int32 × Int32 × Int32 × Int32 => [(h, .inr (6, [.int h_wide, .int h_high, .int u.1, .int u.2.1, .int u.2.2.1, .int u.2.2.2, .int h_books, .int h_rare, .ref h_quarrels_, .ref h_nameSizes_, .ref h_names_])), (h_quarrels_, .inl (cy 1, 8, .inl h_quarrels)), (h_nameSizes_, .inl (cy 1, 8, .inl h_nameSizes)), (h_names_, .inl (cy 1, 56, .inl h_names))]) := by
  refine MV.enter (by decide) (Nat.le_of_ble_eq_true rfl) ?_
  intro p e s m below meth c ls A hsz hAe C hP hD hS hl
  exact b_o_setNumber l D cy h v w h_wide h_high h_law h_spin h_line h_draught h_books h_rare h_quarrels_ h_nameSizes_ h_names_ h_quarrels h_nameSizes h_names hb0 hb1 hb2 hR0 ⟨Nat.le_of_ble_eq_true rfl, Nat.le_of_ble_eq_true rfl⟩ C rfl _ _ ls hP hD hS hl
set_option maxHeartbeats 4000000 in
set_option maxRecDepth 100000 in
theorem b_o_noteName (l : Launch) (D : va_G) (cy : Nat → ClassId) (h : Nat) (t : Nat) (h_wide : Int32) (h_high : Int32) (h_law : Int32) (h_spin : Int32) (h_line : Int32) (h_draught : Int32) (h_books : Int32) (h_rare : Int32) (h_quarrels_ : Nat) (h_nameSizes_ : Nat) (h_names_ : Nat) (h_quarrels : Nat → Int32) (h_nameSizes : Nat → Int32) (h_names : Nat → Int32) (t_bytes_ : Nat) (t_length : Int32) (t_kind : Int32) (t_place : Int32) (t_size : Int32) (t_value : Int32) (t_word : Int32) (t_faultKind : Int32) (t_faultPlace : Int32) (t_limit : Int32) (t_next : Int32) (t_bytes : Nat → Int32) (hb0 : 0 ≤ h_wide.toInt ∧ h_wide.toInt ≤ 6) (hb1 : 0 ≤ h_high.toInt ∧ h_high.toInt ≤ 6) (hb2 : 0 ≤ h_books.toInt ∧ h_books.toInt ≤ 8) (hb3 : 0 ≤ t_length.toInt ∧ t_length.toInt ≤ 940) (hb4 : 0 ≤ t_place.toInt ∧ t_place.toInt ≤ 900) (hb5 : (-900) ≤ t_size.toInt ∧ t_size.toInt ≤ 940) (hb6 : 0 ≤ t_limit.toInt ∧ t_limit.toInt ≤ 900) (hb7 : 0 ≤ t_next.toInt ∧ t_next.toInt ≤ 940) (hR0 : Rg h_nameSizes 0 8 (-900) 7) (hR1 : Rg t_bytes 0 940 0 255) {p : Program} {e : Env} {s : State} {m : MethodId} {args : Array Value} {below : List Frame} {meth : Method} {c : Code} {A : Nat → Prop} {Q : State → Prop} {cells slots : Nat} (hroom : cells ≤ ((Rm 1 30 0 0)).cells ∧ slots ≤ ((Rm 1 30 0 0)).slots) (C : Cx p s m args meth c cX6_noteName 3 none RX6 "noteName" D cy A) (hQ : Q = MQ below (va_Qv (fun u : (Nat → Int32) × (Nat → Int32) => (Rg u.1 0 8 (-900) 7)) (Bx D A (fun u : (Nat → Int32) × (Nat → Int32) => [(h, .inr (6, [.int h_wide, .int h_high, .int h_law, .int h_spin, .int h_line, .int h_draught, .int h_books, .int h_rare, .ref h_quarrels_, .ref h_nameSizes_, .ref h_names_])), (h_quarrels_, .inl (cy 1, 8, .inl h_quarrels)), (h_nameSizes_, .inl (cy 1, 8, .inl u.1)), (h_names_, .inl (cy 1, 56, .inl u.2)), (t, .inr (9, [.ref t_bytes_, .int t_length, .int t_kind, .int t_place, .int t_size, .int t_value, .int t_word, .int t_faultKind, .int t_faultPlace, .int t_limit, .int t_next])), (t_bytes_, .inl (cy 1, 940, .inl t_bytes))])) A) args s ((Rm 1 30 0 0)).cells ((Rm 1 30 0 0)).slots A) (H : Heap) (locs : List Loc) (ls : Array Slot) (hP : va_P D vwCl [(h, .inr (6, [.int h_wide, .int h_high, .int h_law, .int h_spin, .int h_line, .int h_draught, .int h_books, .int h_rare, .ref h_quarrels_, .ref h_nameSizes_, .ref h_names_])), (h_quarrels_, .inl (cy 1, 8, .inl h_quarrels)), (h_nameSizes_, .inl (cy 1, 8, .inl h_nameSizes)), (h_names_, .inl (cy 1, 56, .inl h_names)), (t, .inr (9, [.ref t_bytes_, .int t_length, .int t_kind, .int t_place, .int t_size, .int t_value, .int t_word, .int t_faultKind, .int t_faultPlace, .int t_limit, .int t_next])), (t_bytes_, .inl (cy 1, 940, .inl t_bytes))] H) (hD : va_D A [(h, .inr (6, [.int h_wide, .int h_high, .int h_law, .int h_spin, .int h_line, .int h_draught, .int h_books, .int h_rare, .ref h_quarrels_, .ref h_nameSizes_, .ref h_names_])), (h_quarrels_, .inl (cy 1, 8, .inl h_quarrels)), (h_nameSizes_, .inl (cy 1, 8, .inl h_nameSizes)), (h_names_, .inl (cy 1, 56, .inl h_names)), (t, .inr (9, [.ref t_bytes_, .int t_length, .int t_kind, .int t_place, .int t_size, .int t_value, .int t_word, .int t_faultKind, .int t_faultPlace, .int t_limit, .int t_next])), (t_bytes_, .inl (cy 1, 940, .inl t_bytes))]) (hS : va_S A s.heap H locs) (hl : lv_has ls 3 [(0, .ref h), (1, .ref t)]) : W p l e (Rm 1 30 0 0) s m args below meth c H locs cells slots Q (F0 m 0 ls []) := by
  have hx := C.1
  have hb := C.2.1
  refine lv_aload_n hx hb dX6_noteName_0 rfl (lv_at hl 0 rfl) ?_
  refine q_get (v := .int h_books) C hP 0 6 rfl rfl inX6 (by decide) kF_RX6_30 rfl rfl dX6_noteName_1 ?_
  refine lv_bipush (v := 8) hx hb dX6_noteName_4 (by decide) ?_
  refine lv_icmp_lt (tgt := 10) hx hb dX6_noteName_6 (by decide) (fun c_1 => ?_) (fun c_1 => ?_)
  · have hc_1 := o_lt (rfl : h_books.toInt = h_books.toInt) (by decide : (8 : Int32).toInt = 8) c_1
    refine lv_aload_n hx hb dX6_noteName_10 rfl (lv_at hl 0 rfl) ?_
    refine q_get (v := .ref h_nameSizes_) C hP 0 9 rfl rfl inX6 (by decide) kF_RX6_40 rfl rfl dX6_noteName_11 ?_
    refine lv_aload_n hx hb dX6_noteName_14 rfl (lv_at hl 0 rfl) ?_
    refine q_get (v := .int h_books) C hP 0 6 rfl rfl inX6 (by decide) kF_RX6_30 rfl rfl dX6_noteName_15 ?_
    refine lv_aload_n hx hb dX6_noteName_18 rfl (lv_at hl 1 rfl) ?_
    refine q_get (v := .int t_size) C hP 4 4 rfl rfl inX9 (by decide) kF_RX6_56 rfl rfl dX6_noteName_19 ?_
    refine lv_bipush (v := 7) hx hb dX6_noteName_22 (by decide) ?_
    refine q_mmin C hl.1 kM_RX6_61 (Nat.le_of_ble_eq_true rfl) (Nat.le_of_ble_eq_true rfl) hroom.1 hroom.2 dX6_noteName_24 ?_
    refine lv_topi (fun z_2 hz_2 => ?_)
    have hz_2 := o_min hz_2 (rfl : t_size.toInt = t_size.toInt) (by decide : (7 : Int32).toInt = 7)
    refine q_iast (g := upd h_nameSizes h_books.toNatClampNeg z_2) (w' := [(h, .inr (6, [.int h_wide, .int h_high, .int h_law, .int h_spin, .int h_line, .int h_draught, .int h_books, .int h_rare, .ref h_quarrels_, .ref h_nameSizes_, .ref h_names_])), (h_quarrels_, .inl (cy 1, 8, .inl h_quarrels)), (h_nameSizes_, .inl (cy 1, 8, .inl (upd h_nameSizes h_books.toNatClampNeg z_2))), (h_names_, .inl (cy 1, 56, .inl h_names)), (t, .inr (9, [.ref t_bytes_, .int t_length, .int t_kind, .int t_place, .int t_size, .int t_value, .int t_word, .int t_faultKind, .int t_faultPlace, .int t_limit, .int t_next])), (t_bytes_, .inl (cy 1, 940, .inl t_bytes))]) C hP hD hS 2 rfl (o_in (rfl : h_books.toInt = h_books.toInt) (by omega) (by omega)) rfl rfl dX6_noteName_27 (fun H locs hP hD hS => ?_)
    have Rg_3_0 := Rg.upd_in (k := h_books.toNatClampNeg) (v := z_2) hR0 (by omega) (by omega)
    generalize upd h_nameSizes h_books.toNatClampNeg z_2 = g_3 at hP hD Rg_3_0
    have hP : va_P D vwCl [(h, .inr (6, [.int h_wide, .int h_high, .int h_law, .int h_spin, .int h_line, .int h_draught, .int h_books, .int h_rare, .ref h_quarrels_, .ref h_nameSizes_, .ref h_names_])), (h_quarrels_, .inl (cy 1, 8, .inl h_quarrels)), (h_nameSizes_, .inl (cy 1, 8, .inl g_3)), (h_names_, .inl (cy 1, 56, .inl h_names)), (t, .inr (9, [.ref t_bytes_, .int t_length, .int t_kind, .int t_place, .int t_size, .int t_value, .int t_word, .int t_faultKind, .int t_faultPlace, .int t_limit, .int t_next])), (t_bytes_, .inl (cy 1, 940, .inl t_bytes))] H := hP
    have hD : va_D A [(h, .inr (6, [.int h_wide, .int h_high, .int h_law, .int h_spin, .int h_line, .int h_draught, .int h_books, .int h_rare, .ref h_quarrels_, .ref h_nameSizes_, .ref h_names_])), (h_quarrels_, .inl (cy 1, 8, .inl h_quarrels)), (h_nameSizes_, .inl (cy 1, 8, .inl g_3)), (h_names_, .inl (cy 1, 56, .inl h_names)), (t, .inr (9, [.ref t_bytes_, .int t_length, .int t_kind, .int t_place, .int t_size, .int t_value, .int t_word, .int t_faultKind, .int t_faultPlace, .int t_limit, .int t_next])), (t_bytes_, .inl (cy 1, 940, .inl t_bytes))] := hD
    refine lv_iconst (v := 0) hx hb dX6_noteName_28 (by decide) ?_
    refine lv_istore_n (lv' := [(2, .int 0), (0, .ref h), (1, .ref t)]) hx hb dX6_noteName_29 rfl hl (by decide) rfl (fun ls hl => ?_)
    have lp_30_5 : ∀ (n_6 : Nat) (x_4 : Int32) (g_5 : Nat → Int32) (H : Heap) (locs : List Loc) (ls : Array Slot), (-1) * x_4.toInt + 7 < (n_6 : Int) → (0 ≤ x_4.toInt ∧ x_4.toInt ≤ 7) → va_P D vwCl [(h, .inr (6, [.int h_wide, .int h_high, .int h_law, .int h_spin, .int h_line, .int h_draught, .int h_books, .int h_rare, .ref h_quarrels_, .ref h_nameSizes_, .ref h_names_])), (h_quarrels_, .inl (cy 1, 8, .inl h_quarrels)), (h_nameSizes_, .inl (cy 1, 8, .inl g_3)), (h_names_, .inl (cy 1, 56, .inl g_5)), (t, .inr (9, [.ref t_bytes_, .int t_length, .int t_kind, .int t_place, .int t_size, .int t_value, .int t_word, .int t_faultKind, .int t_faultPlace, .int t_limit, .int t_next])), (t_bytes_, .inl (cy 1, 940, .inl t_bytes))] H → va_D A [(h, .inr (6, [.int h_wide, .int h_high, .int h_law, .int h_spin, .int h_line, .int h_draught, .int h_books, .int h_rare, .ref h_quarrels_, .ref h_nameSizes_, .ref h_names_])), (h_quarrels_, .inl (cy 1, 8, .inl h_quarrels)), (h_nameSizes_, .inl (cy 1, 8, .inl g_3)), (h_names_, .inl (cy 1, 56, .inl g_5)), (t, .inr (9, [.ref t_bytes_, .int t_length, .int t_kind, .int t_place, .int t_size, .int t_value, .int t_word, .int t_faultKind, .int t_faultPlace, .int t_limit, .int t_next])), (t_bytes_, .inl (cy 1, 940, .inl t_bytes))] → va_S A s.heap H locs → lv_has ls 3 [(0, .ref h), (1, .ref t), (2, .int x_4)] → W p l e (Rm 1 30 0 0) s m args below meth c H locs cells slots Q (F0 m 30 ls []) := by
      intro n_6
      induction n_6 with
      | zero =>
        intro x_4 g_5 H locs ls hm_8 hf_7 hP hD hS hl
        exact absurd hm_8 (by omega)
      | succ n_6 ih_9 =>
        intro x_4 g_5 H locs ls hm_8 hf_7 hP hD hS hl
        refine lv_iload_n hx hb dX6_noteName_30 rfl (lv_at hl 2 rfl) ?_
        refine lv_aload_n hx hb dX6_noteName_31 rfl (lv_at hl 0 rfl) ?_
        refine q_get (v := .ref h_nameSizes_) C hP 0 9 rfl rfl inX6 (by decide) kF_RX6_40 rfl rfl dX6_noteName_32 ?_
        refine lv_aload_n hx hb dX6_noteName_35 rfl (lv_at hl 0 rfl) ?_
        refine q_get (v := .int h_books) C hP 0 6 rfl rfl inX6 (by decide) kF_RX6_30 rfl rfl dX6_noteName_36 ?_
        refine q_iald (v := g_3 h_books.toNatClampNeg) C hP 2 rfl (o_in (rfl : h_books.toInt = h_books.toInt) (by omega) (by omega)) rfl dX6_noteName_39 ?_
        refine lv_topi (fun z_11 ez_11 => ?_)
        have hz_11 := Rg.at Rg_3_0 ez_11 (by have := o_cl (rfl : h_books.toInt = h_books.toInt) (by omega); omega) (by have := o_cl (rfl : h_books.toInt = h_books.toInt) (by omega); omega)
        refine lv_icmp_ge (tgt := 74) hx hb dX6_noteName_40 (by decide) (fun c_12 => ?_) (fun c_12 => ?_)
        · have hc_12 := o_le (rfl : z_11.toInt = z_11.toInt) (rfl : x_4.toInt = x_4.toInt) c_12
          refine o_wq hQ ?_
          exact q_vret (rm := (Rm 1 30 0 0)) C hS (g_3, g_5) Rg_3_0 (q_subP hP [0, 1, 2, 3, 4, 5] rfl) (hD.sub [0, 1, 2, 3, 4, 5] (by decide) rfl) hroom.1 hroom.2 dX6_noteName_74
        · have hc_12 := o_nle (rfl : z_11.toInt = z_11.toInt) (rfl : x_4.toInt = x_4.toInt) c_12
          refine lv_aload_n hx hb dX6_noteName_43 rfl (lv_at hl 0 rfl) ?_
          refine q_get (v := .ref h_names_) C hP 0 10 rfl rfl inX6 (by decide) kF_RX6_43 rfl rfl dX6_noteName_44 ?_
          refine lv_aload_n hx hb dX6_noteName_47 rfl (lv_at hl 0 rfl) ?_
          refine q_get (v := .int h_books) C hP 0 6 rfl rfl inX6 (by decide) kF_RX6_30 rfl rfl dX6_noteName_48 ?_
          refine lv_bipush (v := 7) hx hb dX6_noteName_51 (by decide) ?_
          refine lv_imul hx hb dX6_noteName_53 ?_
          refine lv_topi (fun z_13 hz_13 => ?_)
          have hz_13 := o_mul hz_13 (rfl : h_books.toInt = h_books.toInt) (by decide : (7 : Int32).toInt = 7) (by omega) (by omega)
          refine lv_iload_n hx hb dX6_noteName_54 rfl (lv_at hl 2 rfl) ?_
          refine lv_iadd hx hb dX6_noteName_55 ?_
          refine lv_topi (fun z_14 hz_14 => ?_)
          have hz_14 := o_add hz_14 (rfl : z_13.toInt = z_13.toInt) (rfl : x_4.toInt = x_4.toInt) (by omega) (by omega)
          refine lv_aload_n hx hb dX6_noteName_56 rfl (lv_at hl 1 rfl) ?_
          refine q_get (v := .ref t_bytes_) C hP 4 0 rfl rfl inX9 (by decide) kF_RX6_67 rfl rfl dX6_noteName_57 ?_
          refine lv_aload_n hx hb dX6_noteName_60 rfl (lv_at hl 1 rfl) ?_
          refine q_get (v := .int t_place) C hP 4 3 rfl rfl inX9 (by decide) kF_RX6_70 rfl rfl dX6_noteName_61 ?_
          refine lv_iload_n hx hb dX6_noteName_64 rfl (lv_at hl 2 rfl) ?_
          refine lv_iadd hx hb dX6_noteName_65 ?_
          refine lv_topi (fun z_15 hz_15 => ?_)
          have hz_15 := o_add hz_15 (rfl : t_place.toInt = t_place.toInt) (rfl : x_4.toInt = x_4.toInt) (by omega) (by omega)
          refine q_iald (v := t_bytes z_15.toNatClampNeg) C hP 5 rfl (o_in (rfl : z_15.toInt = z_15.toInt) (by omega) (by omega)) rfl dX6_noteName_66 ?_
          refine lv_topi (fun z_16 ez_16 => ?_)
          have hz_16 := Rg.at hR1 ez_16 (by have := o_cl (rfl : z_15.toInt = z_15.toInt) (by omega); omega) (by have := o_cl (rfl : z_15.toInt = z_15.toInt) (by omega); omega)
          refine q_iast (g := upd g_5 z_14.toNatClampNeg z_16) (w' := [(h, .inr (6, [.int h_wide, .int h_high, .int h_law, .int h_spin, .int h_line, .int h_draught, .int h_books, .int h_rare, .ref h_quarrels_, .ref h_nameSizes_, .ref h_names_])), (h_quarrels_, .inl (cy 1, 8, .inl h_quarrels)), (h_nameSizes_, .inl (cy 1, 8, .inl g_3)), (h_names_, .inl (cy 1, 56, .inl (upd g_5 z_14.toNatClampNeg z_16))), (t, .inr (9, [.ref t_bytes_, .int t_length, .int t_kind, .int t_place, .int t_size, .int t_value, .int t_word, .int t_faultKind, .int t_faultPlace, .int t_limit, .int t_next])), (t_bytes_, .inl (cy 1, 940, .inl t_bytes))]) C hP hD hS 3 rfl (o_in (rfl : z_14.toInt = z_14.toInt) (by omega) (by omega)) rfl rfl dX6_noteName_67 (fun H locs hP hD hS => ?_)
          generalize upd g_5 z_14.toNatClampNeg z_16 = g_17 at hP hD 
          have hP : va_P D vwCl [(h, .inr (6, [.int h_wide, .int h_high, .int h_law, .int h_spin, .int h_line, .int h_draught, .int h_books, .int h_rare, .ref h_quarrels_, .ref h_nameSizes_, .ref h_names_])), (h_quarrels_, .inl (cy 1, 8, .inl h_quarrels)), (h_nameSizes_, .inl (cy 1, 8, .inl g_3)), (h_names_, .inl (cy 1, 56, .inl g_17)), (t, .inr (9, [.ref t_bytes_, .int t_length, .int t_kind, .int t_place, .int t_size, .int t_value, .int t_word, .int t_faultKind, .int t_faultPlace, .int t_limit, .int t_next])), (t_bytes_, .inl (cy 1, 940, .inl t_bytes))] H := hP
          have hD : va_D A [(h, .inr (6, [.int h_wide, .int h_high, .int h_law, .int h_spin, .int h_line, .int h_draught, .int h_books, .int h_rare, .ref h_quarrels_, .ref h_nameSizes_, .ref h_names_])), (h_quarrels_, .inl (cy 1, 8, .inl h_quarrels)), (h_nameSizes_, .inl (cy 1, 8, .inl g_3)), (h_names_, .inl (cy 1, 56, .inl g_17)), (t, .inr (9, [.ref t_bytes_, .int t_length, .int t_kind, .int t_place, .int t_size, .int t_value, .int t_word, .int t_faultKind, .int t_faultPlace, .int t_limit, .int t_next])), (t_bytes_, .inl (cy 1, 940, .inl t_bytes))] := hD
          obtain ⟨z_18, hz_18⟩ : ∃ z : Int32, z = x_4 + 1 := ⟨_, rfl⟩
          refine lv_iinc (v := z_18) (lv' := [(2, .int z_18), (0, .ref h), (1, .ref t)]) hx hb dX6_noteName_68 hl (k := 2) rfl hz_18.symm (by decide) rfl (fun ls hl => ?_)
          have hz_18 := o_add hz_18 (rfl : x_4.toInt = x_4.toInt) (by decide : (1 : Int32).toInt = 1) (by omega) (by omega)
          refine lv_goto (tgt := 30) hx hb dX6_noteName_71 (by decide) ?_
          exact ih_9 z_18 g_17 H locs ls (by omega) (by omega) hP hD hS (lv_sub hl [1, 2, 0] rfl)
    exact lp_30_5 8 (0 : Int32) h_names H locs ls (by have e0 : (0 : Int32).toInt = 0 := (by decide); omega) (by have e0 : (0 : Int32).toInt = 0 := (by decide); omega) hP hD hS (lv_sub hl [1, 2, 0] rfl)
  · have hc_1 := o_nlt (rfl : h_books.toInt = h_books.toInt) (by decide : (8 : Int32).toInt = 8) c_1
    refine o_wq hQ ?_
    exact q_vret (rm := (Rm 1 30 0 0)) C hS (h_nameSizes, h_names) hR0 (q_subP hP [0, 1, 2, 3, 4, 5] rfl) (hD.sub [0, 1, 2, 3, 4, 5] (by decide) rfl) hroom.1 hroom.2 dX6_noteName_9
theorem o_noteName (l : Launch) (D : va_G) (cy : Nat → ClassId) (h : Nat) (t : Nat) (h_wide : Int32) (h_high : Int32) (h_law : Int32) (h_spin : Int32) (h_line : Int32) (h_draught : Int32) (h_books : Int32) (h_rare : Int32) (h_quarrels_ : Nat) (h_nameSizes_ : Nat) (h_names_ : Nat) (h_quarrels : Nat → Int32) (h_nameSizes : Nat → Int32) (h_names : Nat → Int32) (t_bytes_ : Nat) (t_length : Int32) (t_kind : Int32) (t_place : Int32) (t_size : Int32) (t_value : Int32) (t_word : Int32) (t_faultKind : Int32) (t_faultPlace : Int32) (t_limit : Int32) (t_next : Int32) (t_bytes : Nat → Int32) (sz : Nat) (hb0 : 0 ≤ h_wide.toInt ∧ h_wide.toInt ≤ 6) (hb1 : 0 ≤ h_high.toInt ∧ h_high.toInt ≤ 6) (hb2 : 0 ≤ h_books.toInt ∧ h_books.toInt ≤ 8) (hb3 : 0 ≤ t_length.toInt ∧ t_length.toInt ≤ 940) (hb4 : 0 ≤ t_place.toInt ∧ t_place.toInt ≤ 900) (hb5 : (-900) ≤ t_size.toInt ∧ t_size.toInt ≤ 940) (hb6 : 0 ≤ t_limit.toInt ∧ t_limit.toInt ≤ 900) (hb7 : 0 ≤ t_next.toInt ∧ t_next.toInt ≤ 940) (hR0 : Rg h_nameSizes 0 8 (-900) 7) (hR1 : Rg t_bytes 0 940 0 255) : MV l yX6_noteName cX6_noteName 3 (Rm 1 30 0 0) D cy [.ref h, .ref t] sz [(h, .inr (6, [.int h_wide, .int h_high, .int h_law, .int h_spin, .int h_line, .int h_draught, .int h_books, .int h_rare, .ref h_quarrels_, .ref h_nameSizes_, .ref h_names_])), (h_quarrels_, .inl (cy 1, 8, .inl h_quarrels)), (h_nameSizes_, .inl (cy 1, 8, .inl h_nameSizes)), (h_names_, .inl (cy 1, 56, .inl h_names)), (t, .inr (9, [.ref t_bytes_, .int t_length, .int t_kind, .int t_place, .int t_size, .int t_value, .int t_word, .int t_faultKind, .int t_faultPlace, .int t_limit, .int t_next])), (t_bytes_, .inl (cy 1, 940, .inl t_bytes))] (fun u : (Nat → Int32) × (Nat → Int32) => (Rg u.1 0 8 (-900) 7)) (fun u : (Nat → Int32) × (Nat → Int32) => [(h, .inr (6, [.int h_wide, .int h_high, .int h_law, .int h_spin, .int h_line, .int h_draught, .int h_books, .int h_rare, .ref h_quarrels_, .ref h_nameSizes_, .ref h_names_])), (h_quarrels_, .inl (cy 1, 8, .inl h_quarrels)), (h_nameSizes_, .inl (cy 1, 8, .inl u.1)), (h_names_, .inl (cy 1, 56, .inl u.2)), (t, .inr (9, [.ref t_bytes_, .int t_length, .int t_kind, .int t_place, .int t_size, .int t_value, .int t_word, .int t_faultKind, .int t_faultPlace, .int t_limit, .int t_next])), (t_bytes_, .inl (cy 1, 940, .inl t_bytes))]) := by
  refine MV.enter (by decide) (Nat.le_of_ble_eq_true rfl) ?_
  intro p e s m below meth c ls A hsz hAe C hP hD hS hl
  exact b_o_noteName l D cy h t h_wide h_high h_law h_spin h_line h_draught h_books h_rare h_quarrels_ h_nameSizes_ h_names_ h_quarrels h_nameSizes h_names t_bytes_ t_length t_kind t_place t_size t_value t_word t_faultKind t_faultPlace t_limit t_next t_bytes hb0 hb1 hb2 hb3 hb4 hb5 hb6 hb7 hR0 hR1 ⟨Nat.le_of_ble_eq_true rfl, Nat.le_of_ble_eq_true rfl⟩ C rfl _ _ ls hP hD hS hl
set_option maxHeartbeats 4000000 in
set_option maxRecDepth 100000 in
theorem b_o_isNamed (l : Launch) (D : va_G) (cy : Nat → ClassId) (h : Nat) (t : Nat) (a : Int32) (h_wide : Int32) (h_high : Int32) (h_law : Int32) (h_spin : Int32) (h_line : Int32) (h_draught : Int32) (h_books : Int32) (h_rare : Int32) (h_quarrels_ : Nat) (h_nameSizes_ : Nat) (h_names_ : Nat) (h_quarrels : Nat → Int32) (h_nameSizes : Nat → Int32) (h_names : Nat → Int32) (t_bytes_ : Nat) (t_length : Int32) (t_kind : Int32) (t_place : Int32) (t_size : Int32) (t_value : Int32) (t_word : Int32) (t_faultKind : Int32) (t_faultPlace : Int32) (t_limit : Int32) (t_next : Int32) (t_bytes : Nat → Int32) (hb0 : 0 ≤ h_wide.toInt ∧ h_wide.toInt ≤ 6) (hb1 : 0 ≤ h_high.toInt ∧ h_high.toInt ≤ 6) (hb2 : 0 ≤ h_books.toInt ∧ h_books.toInt ≤ 8) (hb3 : 0 ≤ t_length.toInt ∧ t_length.toInt ≤ 940) (hb4 : 0 ≤ t_place.toInt ∧ t_place.toInt ≤ 900) (hb5 : (-900) ≤ t_size.toInt ∧ t_size.toInt ≤ 940) (hb6 : 0 ≤ t_limit.toInt ∧ t_limit.toInt ≤ 900) (hb7 : 0 ≤ t_next.toInt ∧ t_next.toInt ≤ 940) (hb8 : 0 ≤ a.toInt ∧ a.toInt ≤ 7) (hR0 : Rg h_nameSizes 0 8 (-900) 7) (hR1 : Rg t_bytes 0 940 0 255) {p : Program} {e : Env} {s : State} {m : MethodId} {args : Array Value} {below : List Frame} {meth : Method} {c : Code} {A : Nat → Prop} {Q : State → Prop} {cells slots : Nat} (hroom : cells ≤ ((Rm 0 0 0 0)).cells ∧ slots ≤ ((Rm 0 0 0 0)).slots) (C : Cx p s m args meth c cX6_isNamed 4 (some .boolean) RX6 "isNamed" D cy A) (hQ : Q = MQ below (va_Qi (fun (r : Int32) (u : Unit) => (0 ≤ r.toInt ∧ r.toInt ≤ 1)) (Bx D A (fun u : Unit => [(h, .inr (6, [.int h_wide, .int h_high, .int h_law, .int h_spin, .int h_line, .int h_draught, .int h_books, .int h_rare, .ref h_quarrels_, .ref h_nameSizes_, .ref h_names_])), (h_quarrels_, .inl (cy 1, 8, .inl h_quarrels)), (h_nameSizes_, .inl (cy 1, 8, .inl h_nameSizes)), (h_names_, .inl (cy 1, 56, .inl h_names)), (t, .inr (9, [.ref t_bytes_, .int t_length, .int t_kind, .int t_place, .int t_size, .int t_value, .int t_word, .int t_faultKind, .int t_faultPlace, .int t_limit, .int t_next])), (t_bytes_, .inl (cy 1, 940, .inl t_bytes))])) A) args s ((Rm 0 0 0 0)).cells ((Rm 0 0 0 0)).slots A) (H : Heap) (locs : List Loc) (ls : Array Slot) (hP : va_P D vwCl [(h, .inr (6, [.int h_wide, .int h_high, .int h_law, .int h_spin, .int h_line, .int h_draught, .int h_books, .int h_rare, .ref h_quarrels_, .ref h_nameSizes_, .ref h_names_])), (h_quarrels_, .inl (cy 1, 8, .inl h_quarrels)), (h_nameSizes_, .inl (cy 1, 8, .inl h_nameSizes)), (h_names_, .inl (cy 1, 56, .inl h_names)), (t, .inr (9, [.ref t_bytes_, .int t_length, .int t_kind, .int t_place, .int t_size, .int t_value, .int t_word, .int t_faultKind, .int t_faultPlace, .int t_limit, .int t_next])), (t_bytes_, .inl (cy 1, 940, .inl t_bytes))] H) (hD : va_D A [(h, .inr (6, [.int h_wide, .int h_high, .int h_law, .int h_spin, .int h_line, .int h_draught, .int h_books, .int h_rare, .ref h_quarrels_, .ref h_nameSizes_, .ref h_names_])), (h_quarrels_, .inl (cy 1, 8, .inl h_quarrels)), (h_nameSizes_, .inl (cy 1, 8, .inl h_nameSizes)), (h_names_, .inl (cy 1, 56, .inl h_names)), (t, .inr (9, [.ref t_bytes_, .int t_length, .int t_kind, .int t_place, .int t_size, .int t_value, .int t_word, .int t_faultKind, .int t_faultPlace, .int t_limit, .int t_next])), (t_bytes_, .inl (cy 1, 940, .inl t_bytes))]) (hS : va_S A s.heap H locs) (hl : lv_has ls 4 [(0, .ref h), (1, .ref t), (2, .int a)]) : W p l e (Rm 0 0 0 0) s m args below meth c H locs cells slots Q (F0 m 0 ls []) := by
  have hx := C.1
  have hb := C.2.1
  refine lv_aload_n hx hb dX6_isNamed_0 rfl (lv_at hl 0 rfl) ?_
  refine q_get (v := .ref h_nameSizes_) C hP 0 9 rfl rfl inX6 (by decide) kF_RX6_40 rfl rfl dX6_isNamed_1 ?_
  refine lv_iload_n hx hb dX6_isNamed_4 rfl (lv_at hl 2 rfl) ?_
  refine q_iald (v := h_nameSizes a.toNatClampNeg) C hP 2 rfl (o_in (rfl : a.toInt = a.toInt) (by omega) (by omega)) rfl dX6_isNamed_5 ?_
  refine lv_topi (fun z_1 ez_1 => ?_)
  have hz_1 := Rg.at hR0 ez_1 (by have := o_cl (rfl : a.toInt = a.toInt) (by omega); omega) (by have := o_cl (rfl : a.toInt = a.toInt) (by omega); omega)
  refine lv_aload_n hx hb dX6_isNamed_6 rfl (lv_at hl 1 rfl) ?_
  refine q_get (v := .int t_size) C hP 4 4 rfl rfl inX9 (by decide) kF_RX6_56 rfl rfl dX6_isNamed_7 ?_
  refine lv_icmp_eq (tgt := 15) hx hb dX6_isNamed_10 (by decide) (fun c_2 => ?_) (fun c_2 => ?_)
  · have hc_2 := o_eq (rfl : z_1.toInt = z_1.toInt) (rfl : t_size.toInt = t_size.toInt) c_2
    refine lv_iconst (v := 0) hx hb dX6_isNamed_15 (by decide) ?_
    refine lv_istore_n (lv' := [(3, .int 0), (0, .ref h), (1, .ref t), (2, .int a)]) hx hb dX6_isNamed_16 rfl hl (by decide) rfl (fun ls hl => ?_)
    have lp_17_3 : ∀ (n_4 : Nat) (x_3 : Int32) (H : Heap) (locs : List Loc) (ls : Array Slot), (-1) * x_3.toInt + 7 < (n_4 : Int) → (0 ≤ x_3.toInt ∧ x_3.toInt ≤ 7) → va_P D vwCl [(h, .inr (6, [.int h_wide, .int h_high, .int h_law, .int h_spin, .int h_line, .int h_draught, .int h_books, .int h_rare, .ref h_quarrels_, .ref h_nameSizes_, .ref h_names_])), (h_quarrels_, .inl (cy 1, 8, .inl h_quarrels)), (h_nameSizes_, .inl (cy 1, 8, .inl h_nameSizes)), (h_names_, .inl (cy 1, 56, .inl h_names)), (t, .inr (9, [.ref t_bytes_, .int t_length, .int t_kind, .int t_place, .int t_size, .int t_value, .int t_word, .int t_faultKind, .int t_faultPlace, .int t_limit, .int t_next])), (t_bytes_, .inl (cy 1, 940, .inl t_bytes))] H → va_D A [(h, .inr (6, [.int h_wide, .int h_high, .int h_law, .int h_spin, .int h_line, .int h_draught, .int h_books, .int h_rare, .ref h_quarrels_, .ref h_nameSizes_, .ref h_names_])), (h_quarrels_, .inl (cy 1, 8, .inl h_quarrels)), (h_nameSizes_, .inl (cy 1, 8, .inl h_nameSizes)), (h_names_, .inl (cy 1, 56, .inl h_names)), (t, .inr (9, [.ref t_bytes_, .int t_length, .int t_kind, .int t_place, .int t_size, .int t_value, .int t_word, .int t_faultKind, .int t_faultPlace, .int t_limit, .int t_next])), (t_bytes_, .inl (cy 1, 940, .inl t_bytes))] → va_S A s.heap H locs → lv_has ls 4 [(0, .ref h), (1, .ref t), (2, .int a), (3, .int x_3)] → W p l e (Rm 0 0 0 0) s m args below meth c H locs cells slots Q (F0 m 17 ls []) := by
      intro n_4
      induction n_4 with
      | zero =>
        intro x_3 H locs ls hm_6 hf_5 hP hD hS hl
        exact absurd hm_6 (by omega)
      | succ n_4 ih_7 =>
        intro x_3 H locs ls hm_6 hf_5 hP hD hS hl
        refine lv_iload_n hx hb dX6_isNamed_17 rfl (lv_at hl 3 rfl) ?_
        refine lv_aload_n hx hb dX6_isNamed_18 rfl (lv_at hl 0 rfl) ?_
        refine q_get (v := .ref h_nameSizes_) C hP 0 9 rfl rfl inX6 (by decide) kF_RX6_40 rfl rfl dX6_isNamed_19 ?_
        refine lv_iload_n hx hb dX6_isNamed_22 rfl (lv_at hl 2 rfl) ?_
        refine q_iald (v := h_nameSizes a.toNatClampNeg) C hP 2 rfl (o_in (rfl : a.toInt = a.toInt) (by omega) (by omega)) rfl dX6_isNamed_23 ?_
        refine lv_topi (fun z_9 ez_9 => ?_)
        have hz_9 := Rg.at hR0 ez_9 (by have := o_cl (rfl : a.toInt = a.toInt) (by omega); omega) (by have := o_cl (rfl : a.toInt = a.toInt) (by omega); omega)
        refine lv_icmp_ge (tgt := 60) hx hb dX6_isNamed_24 (by decide) (fun c_10 => ?_) (fun c_10 => ?_)
        · have hc_10 := o_le (rfl : z_9.toInt = z_9.toInt) (rfl : x_3.toInt = x_3.toInt) c_10
          refine lv_iconst (v := 1) hx hb dX6_isNamed_60 (by decide) ?_
          refine o_wq hQ ?_
          exact q_iret (rm := (Rm 0 0 0 0)) C hS () rfl (show 0 ≤ (1 : Int32).toInt ∧ (1 : Int32).toInt ≤ 1 by decide) (q_subP hP [0, 1, 2, 3, 4, 5] rfl) (hD.sub [0, 1, 2, 3, 4, 5] (by decide) rfl) hroom.1 hroom.2 dX6_isNamed_61
        · have hc_10 := o_nle (rfl : z_9.toInt = z_9.toInt) (rfl : x_3.toInt = x_3.toInt) c_10
          refine lv_aload_n hx hb dX6_isNamed_27 rfl (lv_at hl 0 rfl) ?_
          refine q_get (v := .ref h_names_) C hP 0 10 rfl rfl inX6 (by decide) kF_RX6_43 rfl rfl dX6_isNamed_28 ?_
          refine lv_iload_n hx hb dX6_isNamed_31 rfl (lv_at hl 2 rfl) ?_
          refine lv_bipush (v := 7) hx hb dX6_isNamed_32 (by decide) ?_
          refine lv_imul hx hb dX6_isNamed_34 ?_
          refine lv_topi (fun z_11 hz_11 => ?_)
          have hz_11 := o_mul hz_11 (rfl : a.toInt = a.toInt) (by decide : (7 : Int32).toInt = 7) (by omega) (by omega)
          refine lv_iload_n hx hb dX6_isNamed_35 rfl (lv_at hl 3 rfl) ?_
          refine lv_iadd hx hb dX6_isNamed_36 ?_
          refine lv_topi (fun z_12 hz_12 => ?_)
          have hz_12 := o_add hz_12 (rfl : z_11.toInt = z_11.toInt) (rfl : x_3.toInt = x_3.toInt) (by omega) (by omega)
          refine q_iald (v := h_names z_12.toNatClampNeg) C hP 3 rfl (o_in (rfl : z_12.toInt = z_12.toInt) (by omega) (by omega)) rfl dX6_isNamed_37 ?_
          refine lv_topi (fun z_13 ez_13 => ?_)
          refine lv_aload_n hx hb dX6_isNamed_38 rfl (lv_at hl 1 rfl) ?_
          refine q_get (v := .ref t_bytes_) C hP 4 0 rfl rfl inX9 (by decide) kF_RX6_67 rfl rfl dX6_isNamed_39 ?_
          refine lv_aload_n hx hb dX6_isNamed_42 rfl (lv_at hl 1 rfl) ?_
          refine q_get (v := .int t_place) C hP 4 3 rfl rfl inX9 (by decide) kF_RX6_70 rfl rfl dX6_isNamed_43 ?_
          refine lv_iload_n hx hb dX6_isNamed_46 rfl (lv_at hl 3 rfl) ?_
          refine lv_iadd hx hb dX6_isNamed_47 ?_
          refine lv_topi (fun z_14 hz_14 => ?_)
          have hz_14 := o_add hz_14 (rfl : t_place.toInt = t_place.toInt) (rfl : x_3.toInt = x_3.toInt) (by omega) (by omega)
          refine q_iald (v := t_bytes z_14.toNatClampNeg) C hP 5 rfl (o_in (rfl : z_14.toInt = z_14.toInt) (by omega) (by omega)) rfl dX6_isNamed_48 ?_
          refine lv_topi (fun z_15 ez_15 => ?_)
          have hz_15 := Rg.at hR1 ez_15 (by have := o_cl (rfl : z_14.toInt = z_14.toInt) (by omega); omega) (by have := o_cl (rfl : z_14.toInt = z_14.toInt) (by omega); omega)
          refine lv_icmp_eq (tgt := 54) hx hb dX6_isNamed_49 (by decide) (fun c_16 => ?_) (fun c_16 => ?_)
          · have hc_16 := o_eq (rfl : z_13.toInt = z_13.toInt) (rfl : z_15.toInt = z_15.toInt) c_16
            obtain ⟨z_17, hz_17⟩ : ∃ z : Int32, z = x_3 + 1 := ⟨_, rfl⟩
            refine lv_iinc (v := z_17) (lv' := [(3, .int z_17), (0, .ref h), (1, .ref t), (2, .int a)]) hx hb dX6_isNamed_54 hl (k := 3) rfl hz_17.symm (by decide) rfl (fun ls hl => ?_)
            have hz_17 := o_add hz_17 (rfl : x_3.toInt = x_3.toInt) (by decide : (1 : Int32).toInt = 1) (by omega) (by omega)
            refine lv_goto (tgt := 17) hx hb dX6_isNamed_57 (by decide) ?_
            exact ih_7 z_17 H locs ls (by omega) (by omega) hP hD hS (lv_sub hl [1, 2, 3, 0] rfl)
          · have hc_16 := o_ne (rfl : z_13.toInt = z_13.toInt) (rfl : z_15.toInt = z_15.toInt) c_16
            refine lv_iconst (v := 0) hx hb dX6_isNamed_52 (by decide) ?_
            refine o_wq hQ ?_
            exact q_iret (rm := (Rm 0 0 0 0)) C hS () rfl (show 0 ≤ (0 : Int32).toInt ∧ (0 : Int32).toInt ≤ 1 by decide) (q_subP hP [0, 1, 2, 3, 4, 5] rfl) (hD.sub [0, 1, 2, 3, 4, 5] (by decide) rfl) hroom.1 hroom.2 dX6_isNamed_53
    exact lp_17_3 8 (0 : Int32) H locs ls (by have e0 : (0 : Int32).toInt = 0 := (by decide); omega) (by have e0 : (0 : Int32).toInt = 0 := (by decide); omega) hP hD hS (lv_sub hl [1, 2, 3, 0] rfl)
  · have hc_2 := o_ne (rfl : z_1.toInt = z_1.toInt) (rfl : t_size.toInt = t_size.toInt) c_2
    refine lv_iconst (v := 0) hx hb dX6_isNamed_13 (by decide) ?_
    refine o_wq hQ ?_
    exact q_iret (rm := (Rm 0 0 0 0)) C hS () rfl (show 0 ≤ (0 : Int32).toInt ∧ (0 : Int32).toInt ≤ 1 by decide) (q_subP hP [0, 1, 2, 3, 4, 5] rfl) (hD.sub [0, 1, 2, 3, 4, 5] (by decide) rfl) hroom.1 hroom.2 dX6_isNamed_14
theorem o_isNamed (l : Launch) (D : va_G) (cy : Nat → ClassId) (h : Nat) (t : Nat) (a : Int32) (h_wide : Int32) (h_high : Int32) (h_law : Int32) (h_spin : Int32) (h_line : Int32) (h_draught : Int32) (h_books : Int32) (h_rare : Int32) (h_quarrels_ : Nat) (h_nameSizes_ : Nat) (h_names_ : Nat) (h_quarrels : Nat → Int32) (h_nameSizes : Nat → Int32) (h_names : Nat → Int32) (t_bytes_ : Nat) (t_length : Int32) (t_kind : Int32) (t_place : Int32) (t_size : Int32) (t_value : Int32) (t_word : Int32) (t_faultKind : Int32) (t_faultPlace : Int32) (t_limit : Int32) (t_next : Int32) (t_bytes : Nat → Int32) (sz : Nat) (hb0 : 0 ≤ h_wide.toInt ∧ h_wide.toInt ≤ 6) (hb1 : 0 ≤ h_high.toInt ∧ h_high.toInt ≤ 6) (hb2 : 0 ≤ h_books.toInt ∧ h_books.toInt ≤ 8) (hb3 : 0 ≤ t_length.toInt ∧ t_length.toInt ≤ 940) (hb4 : 0 ≤ t_place.toInt ∧ t_place.toInt ≤ 900) (hb5 : (-900) ≤ t_size.toInt ∧ t_size.toInt ≤ 940) (hb6 : 0 ≤ t_limit.toInt ∧ t_limit.toInt ≤ 900) (hb7 : 0 ≤ t_next.toInt ∧ t_next.toInt ≤ 940) (hb8 : 0 ≤ a.toInt ∧ a.toInt ≤ 7) (hR0 : Rg h_nameSizes 0 8 (-900) 7) (hR1 : Rg t_bytes 0 940 0 255) : MI l yX6_isNamed cX6_isNamed 4 (some .boolean) (Rm 0 0 0 0) D cy [.ref h, .ref t, .int a] sz [(h, .inr (6, [.int h_wide, .int h_high, .int h_law, .int h_spin, .int h_line, .int h_draught, .int h_books, .int h_rare, .ref h_quarrels_, .ref h_nameSizes_, .ref h_names_])), (h_quarrels_, .inl (cy 1, 8, .inl h_quarrels)), (h_nameSizes_, .inl (cy 1, 8, .inl h_nameSizes)), (h_names_, .inl (cy 1, 56, .inl h_names)), (t, .inr (9, [.ref t_bytes_, .int t_length, .int t_kind, .int t_place, .int t_size, .int t_value, .int t_word, .int t_faultKind, .int t_faultPlace, .int t_limit, .int t_next])), (t_bytes_, .inl (cy 1, 940, .inl t_bytes))] (fun (r : Int32) (u : Unit) => (0 ≤ r.toInt ∧ r.toInt ≤ 1)) (fun u : Unit => [(h, .inr (6, [.int h_wide, .int h_high, .int h_law, .int h_spin, .int h_line, .int h_draught, .int h_books, .int h_rare, .ref h_quarrels_, .ref h_nameSizes_, .ref h_names_])), (h_quarrels_, .inl (cy 1, 8, .inl h_quarrels)), (h_nameSizes_, .inl (cy 1, 8, .inl h_nameSizes)), (h_names_, .inl (cy 1, 56, .inl h_names)), (t, .inr (9, [.ref t_bytes_, .int t_length, .int t_kind, .int t_place, .int t_size, .int t_value, .int t_word, .int t_faultKind, .int t_faultPlace, .int t_limit, .int t_next])), (t_bytes_, .inl (cy 1, 940, .inl t_bytes))]) := by
  refine MI.enter (by decide) (Nat.le_of_ble_eq_true rfl) ?_
  intro p e s m below meth c ls A hsz hAe C hP hD hS hl
  exact b_o_isNamed l D cy h t a h_wide h_high h_law h_spin h_line h_draught h_books h_rare h_quarrels_ h_nameSizes_ h_names_ h_quarrels h_nameSizes h_names t_bytes_ t_length t_kind t_place t_size t_value t_word t_faultKind t_faultPlace t_limit t_next t_bytes hb0 hb1 hb2 hb3 hb4 hb5 hb6 hb7 hb8 hR0 hR1 ⟨Nat.le_of_ble_eq_true rfl, Nat.le_of_ble_eq_true rfl⟩ C rfl _ _ ls hP hD hS hl
set_option maxHeartbeats 4000000 in
set_option maxRecDepth 100000 in
theorem b_o_bookNamed (l : Launch) (D : va_G) (cy : Nat → ClassId) (h : Nat) (t : Nat) (h_wide : Int32) (h_high : Int32) (h_law : Int32) (h_spin : Int32) (h_line : Int32) (h_draught : Int32) (h_books : Int32) (h_rare : Int32) (h_quarrels_ : Nat) (h_nameSizes_ : Nat) (h_names_ : Nat) (h_quarrels : Nat → Int32) (h_nameSizes : Nat → Int32) (h_names : Nat → Int32) (t_bytes_ : Nat) (t_length : Int32) (t_kind : Int32) (t_place : Int32) (t_size : Int32) (t_value : Int32) (t_word : Int32) (t_faultKind : Int32) (t_faultPlace : Int32) (t_limit : Int32) (t_next : Int32) (t_bytes : Nat → Int32) (hb0 : 0 ≤ h_wide.toInt ∧ h_wide.toInt ≤ 6) (hb1 : 0 ≤ h_high.toInt ∧ h_high.toInt ≤ 6) (hb2 : 0 ≤ h_books.toInt ∧ h_books.toInt ≤ 8) (hb3 : 0 ≤ t_length.toInt ∧ t_length.toInt ≤ 940) (hb4 : 0 ≤ t_place.toInt ∧ t_place.toInt ≤ 900) (hb5 : (-900) ≤ t_size.toInt ∧ t_size.toInt ≤ 940) (hb6 : 0 ≤ t_limit.toInt ∧ t_limit.toInt ≤ 900) (hb7 : 0 ≤ t_next.toInt ∧ t_next.toInt ≤ 940) (hR0 : Rg h_nameSizes 0 8 (-900) 7) (hR1 : Rg t_bytes 0 940 0 255) {p : Program} {e : Env} {s : State} {m : MethodId} {args : Array Value} {below : List Frame} {meth : Method} {c : Code} {A : Nat → Prop} {Q : State → Prop} {cells slots : Nat} (hroom : cells ≤ ((Rm 1 23 0 0)).cells ∧ slots ≤ ((Rm 1 23 0 0)).slots) (C : Cx p s m args meth c cX6_bookNamed 3 (some .int) RX6 "bookNamed" D cy A) (hQ : Q = MQ below (va_Qi (fun (r : Int32) (u : Unit) => ((-1) ≤ r.toInt ∧ r.toInt ≤ 7)) (Bx D A (fun u : Unit => [(h, .inr (6, [.int h_wide, .int h_high, .int h_law, .int h_spin, .int h_line, .int h_draught, .int h_books, .int h_rare, .ref h_quarrels_, .ref h_nameSizes_, .ref h_names_])), (h_quarrels_, .inl (cy 1, 8, .inl h_quarrels)), (h_nameSizes_, .inl (cy 1, 8, .inl h_nameSizes)), (h_names_, .inl (cy 1, 56, .inl h_names)), (t, .inr (9, [.ref t_bytes_, .int t_length, .int t_kind, .int t_place, .int t_size, .int t_value, .int t_word, .int t_faultKind, .int t_faultPlace, .int t_limit, .int t_next])), (t_bytes_, .inl (cy 1, 940, .inl t_bytes))])) A) args s ((Rm 1 23 0 0)).cells ((Rm 1 23 0 0)).slots A) (H : Heap) (locs : List Loc) (ls : Array Slot) (hP : va_P D vwCl [(h, .inr (6, [.int h_wide, .int h_high, .int h_law, .int h_spin, .int h_line, .int h_draught, .int h_books, .int h_rare, .ref h_quarrels_, .ref h_nameSizes_, .ref h_names_])), (h_quarrels_, .inl (cy 1, 8, .inl h_quarrels)), (h_nameSizes_, .inl (cy 1, 8, .inl h_nameSizes)), (h_names_, .inl (cy 1, 56, .inl h_names)), (t, .inr (9, [.ref t_bytes_, .int t_length, .int t_kind, .int t_place, .int t_size, .int t_value, .int t_word, .int t_faultKind, .int t_faultPlace, .int t_limit, .int t_next])), (t_bytes_, .inl (cy 1, 940, .inl t_bytes))] H) (hD : va_D A [(h, .inr (6, [.int h_wide, .int h_high, .int h_law, .int h_spin, .int h_line, .int h_draught, .int h_books, .int h_rare, .ref h_quarrels_, .ref h_nameSizes_, .ref h_names_])), (h_quarrels_, .inl (cy 1, 8, .inl h_quarrels)), (h_nameSizes_, .inl (cy 1, 8, .inl h_nameSizes)), (h_names_, .inl (cy 1, 56, .inl h_names)), (t, .inr (9, [.ref t_bytes_, .int t_length, .int t_kind, .int t_place, .int t_size, .int t_value, .int t_word, .int t_faultKind, .int t_faultPlace, .int t_limit, .int t_next])), (t_bytes_, .inl (cy 1, 940, .inl t_bytes))]) (hS : va_S A s.heap H locs) (hl : lv_has ls 3 [(0, .ref h), (1, .ref t)]) : W p l e (Rm 1 23 0 0) s m args below meth c H locs cells slots Q (F0 m 0 ls []) := by
  have hx := C.1
  have hb := C.2.1
  refine lv_iconst (v := 0) hx hb dX6_bookNamed_0 (by decide) ?_
  refine lv_istore_n (lv' := [(2, .int 0), (0, .ref h), (1, .ref t)]) hx hb dX6_bookNamed_1 rfl hl (by decide) rfl (fun ls hl => ?_)
  have lp_2_1 : ∀ (n_2 : Nat) (x_1 : Int32) (H : Heap) (locs : List Loc) (ls : Array Slot), (-1) * x_1.toInt + 8 < (n_2 : Int) → (0 ≤ x_1.toInt ∧ x_1.toInt ≤ 8) → va_P D vwCl [(h, .inr (6, [.int h_wide, .int h_high, .int h_law, .int h_spin, .int h_line, .int h_draught, .int h_books, .int h_rare, .ref h_quarrels_, .ref h_nameSizes_, .ref h_names_])), (h_quarrels_, .inl (cy 1, 8, .inl h_quarrels)), (h_nameSizes_, .inl (cy 1, 8, .inl h_nameSizes)), (h_names_, .inl (cy 1, 56, .inl h_names)), (t, .inr (9, [.ref t_bytes_, .int t_length, .int t_kind, .int t_place, .int t_size, .int t_value, .int t_word, .int t_faultKind, .int t_faultPlace, .int t_limit, .int t_next])), (t_bytes_, .inl (cy 1, 940, .inl t_bytes))] H → va_D A [(h, .inr (6, [.int h_wide, .int h_high, .int h_law, .int h_spin, .int h_line, .int h_draught, .int h_books, .int h_rare, .ref h_quarrels_, .ref h_nameSizes_, .ref h_names_])), (h_quarrels_, .inl (cy 1, 8, .inl h_quarrels)), (h_nameSizes_, .inl (cy 1, 8, .inl h_nameSizes)), (h_names_, .inl (cy 1, 56, .inl h_names)), (t, .inr (9, [.ref t_bytes_, .int t_length, .int t_kind, .int t_place, .int t_size, .int t_value, .int t_word, .int t_faultKind, .int t_faultPlace, .int t_limit, .int t_next])), (t_bytes_, .inl (cy 1, 940, .inl t_bytes))] → va_S A s.heap H locs → lv_has ls 3 [(0, .ref h), (1, .ref t), (2, .int x_1)] → W p l e (Rm 1 23 0 0) s m args below meth c H locs cells slots Q (F0 m 2 ls []) := by
    intro n_2
    induction n_2 with
    | zero =>
      intro x_1 H locs ls hm_4 hf_3 hP hD hS hl
      exact absurd hm_4 (by omega)
    | succ n_2 ih_5 =>
      intro x_1 H locs ls hm_4 hf_3 hP hD hS hl
      refine lv_iload_n hx hb dX6_bookNamed_2 rfl (lv_at hl 2 rfl) ?_
      refine lv_aload_n hx hb dX6_bookNamed_3 rfl (lv_at hl 0 rfl) ?_
      refine q_get (v := .int h_books) C hP 0 6 rfl rfl inX6 (by decide) kF_RX6_30 rfl rfl dX6_bookNamed_4 ?_
      refine lv_icmp_ge (tgt := 27) hx hb dX6_bookNamed_7 (by decide) (fun c_7 => ?_) (fun c_7 => ?_)
      · have hc_7 := o_le (rfl : h_books.toInt = h_books.toInt) (rfl : x_1.toInt = x_1.toInt) c_7
        refine lv_iconst (v := (-1)) hx hb dX6_bookNamed_27 (by decide) ?_
        refine o_wq hQ ?_
        exact q_iret (rm := (Rm 1 23 0 0)) C hS () rfl (show (-1) ≤ ((-1) : Int32).toInt ∧ ((-1) : Int32).toInt ≤ 7 by decide) (q_subP hP [0, 1, 2, 3, 4, 5] rfl) (hD.sub [0, 1, 2, 3, 4, 5] (by decide) rfl) hroom.1 hroom.2 dX6_bookNamed_28
      · have hc_7 := o_nle (rfl : h_books.toInt = h_books.toInt) (rfl : x_1.toInt = x_1.toInt) c_7
        refine lv_aload_n hx hb dX6_bookNamed_10 rfl (lv_at hl 0 rfl) ?_
        refine lv_aload_n hx hb dX6_bookNamed_11 rfl (lv_at hl 1 rfl) ?_
        refine lv_iload_n hx hb dX6_bookNamed_12 rfl (lv_at hl 2 rfl) ?_
        refine q_ai (wr := []) (r_V (rm := (Rm 0 0 0 0)) (q0 := 0) (As := [.ref t, .int x_1]) (rest := []) (wc := [(h, .inr (6, [.int h_wide, .int h_high, .int h_law, .int h_spin, .int h_line, .int h_draught, .int h_books, .int h_rare, .ref h_quarrels_, .ref h_nameSizes_, .ref h_names_])), (h_quarrels_, .inl (cy 1, 8, .inl h_quarrels)), (h_nameSizes_, .inl (cy 1, 8, .inl h_nameSizes)), (h_names_, .inl (cy 1, 56, .inl h_names)), (t, .inr (9, [.ref t_bytes_, .int t_length, .int t_kind, .int t_place, .int t_size, .int t_value, .int t_word, .int t_faultKind, .int t_faultPlace, .int t_limit, .int t_next])), (t_bytes_, .inl (cy 1, 940, .inl t_bytes))]) C hS (q_subP hP [0, 1, 2, 3, 4, 5] rfl) (hD.sub [0, 1, 2, 3, 4, 5] (by decide) rfl) (o_isNamed l D cy h t x_1 h_wide h_high h_law h_spin h_line h_draught h_books h_rare h_quarrels_ h_nameSizes_ h_names_ h_quarrels h_nameSizes h_names t_bytes_ t_length t_kind t_place t_size t_value t_word t_faultKind t_faultPlace t_limit t_next t_bytes _ (by omega) (by omega) (by omega) (by omega) (by omega) (by omega) (by omega) (by omega) (by omega) hR0 hR1) kwV_X6_isNamed kM_RX6_73 rfl rfl ⟨Nat.le_of_ble_eq_true rfl, Nat.le_of_ble_eq_true rfl⟩ rfl hl.1 rfl (Nat.le_of_ble_eq_true rfl) dX6_bookNamed_13 ⟨hroom.1, hroom.2⟩) C.2.2.2.2.2.2.1 hP hD hS [0, 1, 2, 3, 4, 5] [] rfl rfl (by decide) (by decide) (fun r_9 u_8 H locs hw_10 hP hD hS => ?_)
        have hp_10 : 0 ≤ r_9.toInt ∧ r_9.toInt ≤ 1 := hw_10
        refine lv_if_eq (tgt := 21) hx hb dX6_bookNamed_16 (by decide) (fun c_12 => ?_) (fun c_12 => ?_)
        · have hc_12 := o_eq (rfl : r_9.toInt = r_9.toInt) (by decide : (0 : Int32).toInt = 0) c_12
          obtain ⟨z_13, hz_13⟩ : ∃ z : Int32, z = x_1 + 1 := ⟨_, rfl⟩
          refine lv_iinc (v := z_13) (lv' := [(2, .int z_13), (0, .ref h), (1, .ref t)]) hx hb dX6_bookNamed_21 hl (k := 2) rfl hz_13.symm (by decide) rfl (fun ls hl => ?_)
          have hz_13 := o_add hz_13 (rfl : x_1.toInt = x_1.toInt) (by decide : (1 : Int32).toInt = 1) (by omega) (by omega)
          refine lv_goto (tgt := 2) hx hb dX6_bookNamed_24 (by decide) ?_
          exact ih_5 z_13 H locs ls (by omega) (by omega) hP hD hS (lv_sub hl [1, 2, 0] rfl)
        · have hc_12 := o_ne (rfl : r_9.toInt = r_9.toInt) (by decide : (0 : Int32).toInt = 0) c_12
          refine lv_iload_n hx hb dX6_bookNamed_19 rfl (lv_at hl 2 rfl) ?_
          refine o_wq hQ ?_
          exact q_iret (rm := (Rm 1 23 0 0)) C hS () rfl (show (-1) ≤ x_1.toInt ∧ x_1.toInt ≤ 7 by omega) (q_subP hP [0, 1, 2, 3, 4, 5] rfl) (hD.sub [0, 1, 2, 3, 4, 5] (by decide) rfl) hroom.1 hroom.2 dX6_bookNamed_20
  exact lp_2_1 9 (0 : Int32) H locs ls (by have e0 : (0 : Int32).toInt = 0 := (by decide); omega) (by have e0 : (0 : Int32).toInt = 0 := (by decide); omega) hP hD hS (lv_sub hl [1, 2, 0] rfl)
theorem o_bookNamed (l : Launch) (D : va_G) (cy : Nat → ClassId) (h : Nat) (t : Nat) (h_wide : Int32) (h_high : Int32) (h_law : Int32) (h_spin : Int32) (h_line : Int32) (h_draught : Int32) (h_books : Int32) (h_rare : Int32) (h_quarrels_ : Nat) (h_nameSizes_ : Nat) (h_names_ : Nat) (h_quarrels : Nat → Int32) (h_nameSizes : Nat → Int32) (h_names : Nat → Int32) (t_bytes_ : Nat) (t_length : Int32) (t_kind : Int32) (t_place : Int32) (t_size : Int32) (t_value : Int32) (t_word : Int32) (t_faultKind : Int32) (t_faultPlace : Int32) (t_limit : Int32) (t_next : Int32) (t_bytes : Nat → Int32) (sz : Nat) (hb0 : 0 ≤ h_wide.toInt ∧ h_wide.toInt ≤ 6) (hb1 : 0 ≤ h_high.toInt ∧ h_high.toInt ≤ 6) (hb2 : 0 ≤ h_books.toInt ∧ h_books.toInt ≤ 8) (hb3 : 0 ≤ t_length.toInt ∧ t_length.toInt ≤ 940) (hb4 : 0 ≤ t_place.toInt ∧ t_place.toInt ≤ 900) (hb5 : (-900) ≤ t_size.toInt ∧ t_size.toInt ≤ 940) (hb6 : 0 ≤ t_limit.toInt ∧ t_limit.toInt ≤ 900) (hb7 : 0 ≤ t_next.toInt ∧ t_next.toInt ≤ 940) (hR0 : Rg h_nameSizes 0 8 (-900) 7) (hR1 : Rg t_bytes 0 940 0 255) : MI l yX6_bookNamed cX6_bookNamed 3 (some .int) (Rm 1 23 0 0) D cy [.ref h, .ref t] sz [(h, .inr (6, [.int h_wide, .int h_high, .int h_law, .int h_spin, .int h_line, .int h_draught, .int h_books, .int h_rare, .ref h_quarrels_, .ref h_nameSizes_, .ref h_names_])), (h_quarrels_, .inl (cy 1, 8, .inl h_quarrels)), (h_nameSizes_, .inl (cy 1, 8, .inl h_nameSizes)), (h_names_, .inl (cy 1, 56, .inl h_names)), (t, .inr (9, [.ref t_bytes_, .int t_length, .int t_kind, .int t_place, .int t_size, .int t_value, .int t_word, .int t_faultKind, .int t_faultPlace, .int t_limit, .int t_next])), (t_bytes_, .inl (cy 1, 940, .inl t_bytes))] (fun (r : Int32) (u : Unit) => ((-1) ≤ r.toInt ∧ r.toInt ≤ 7)) (fun u : Unit => [(h, .inr (6, [.int h_wide, .int h_high, .int h_law, .int h_spin, .int h_line, .int h_draught, .int h_books, .int h_rare, .ref h_quarrels_, .ref h_nameSizes_, .ref h_names_])), (h_quarrels_, .inl (cy 1, 8, .inl h_quarrels)), (h_nameSizes_, .inl (cy 1, 8, .inl h_nameSizes)), (h_names_, .inl (cy 1, 56, .inl h_names)), (t, .inr (9, [.ref t_bytes_, .int t_length, .int t_kind, .int t_place, .int t_size, .int t_value, .int t_word, .int t_faultKind, .int t_faultPlace, .int t_limit, .int t_next])), (t_bytes_, .inl (cy 1, 940, .inl t_bytes))]) := by
  refine MI.enter (by decide) (Nat.le_of_ble_eq_true rfl) ?_
  intro p e s m below meth c ls A hsz hAe C hP hD hS hl
  exact b_o_bookNamed l D cy h t h_wide h_high h_law h_spin h_line h_draught h_books h_rare h_quarrels_ h_nameSizes_ h_names_ h_quarrels h_nameSizes h_names t_bytes_ t_length t_kind t_place t_size t_value t_word t_faultKind t_faultPlace t_limit t_next t_bytes hb0 hb1 hb2 hb3 hb4 hb5 hb6 hb7 hR0 hR1 ⟨Nat.le_of_ble_eq_true rfl, Nat.le_of_ble_eq_true rfl⟩ C rfl _ _ ls hP hD hS hl
set_option maxHeartbeats 4000000 in
set_option maxRecDepth 100000 in
theorem b_o_bookTold (l : Launch) (D : va_G) (cy : Nat → ClassId) (h : Nat) (t : Nat) (h_wide : Int32) (h_high : Int32) (h_law : Int32) (h_spin : Int32) (h_line : Int32) (h_draught : Int32) (h_books : Int32) (h_rare : Int32) (h_quarrels_ : Nat) (h_nameSizes_ : Nat) (h_names_ : Nat) (h_quarrels : Nat → Int32) (h_nameSizes : Nat → Int32) (h_names : Nat → Int32) (t_bytes_ : Nat) (t_length : Int32) (t_kind : Int32) (t_place : Int32) (t_size : Int32) (t_value : Int32) (t_word : Int32) (t_faultKind : Int32) (t_faultPlace : Int32) (t_limit : Int32) (t_next : Int32) (t_bytes : Nat → Int32) (hb0 : 0 ≤ h_wide.toInt ∧ h_wide.toInt ≤ 6) (hb1 : 0 ≤ h_high.toInt ∧ h_high.toInt ≤ 6) (hb2 : 0 ≤ h_books.toInt ∧ h_books.toInt ≤ 8) (hb3 : 0 ≤ t_length.toInt ∧ t_length.toInt ≤ 940) (hb4 : 0 ≤ t_place.toInt ∧ t_place.toInt ≤ 900) (hb5 : (-900) ≤ t_size.toInt ∧ t_size.toInt ≤ 940) (hb6 : 0 ≤ t_limit.toInt ∧ t_limit.toInt ≤ 900) (hb7 : 0 ≤ t_next.toInt ∧ t_next.toInt ≤ 940) (hR0 : Rg h_nameSizes 0 8 (-900) 7) (hR1 : Rg t_bytes 0 940 0 255) {p : Program} {e : Env} {s : State} {m : MethodId} {args : Array Value} {below : List Frame} {meth : Method} {c : Code} {A : Nat → Prop} {Q : State → Prop} {cells slots : Nat} (hroom : cells ≤ ((Rm 2 45 0 0)).cells ∧ slots ≤ ((Rm 2 45 0 0)).slots) (C : Cx p s m args meth c cX6_bookTold 3 (some .int) RX6 "bookTold" D cy A) (hQ : Q = MQ below (va_Qi (fun (r : Int32) (u : Int32 × Int32) => ((-1) ≤ r.toInt ∧ r.toInt ≤ 7)) (Bx D A (fun u : Int32 × Int32 => [(h, .inr (6, [.int h_wide, .int h_high, .int h_law, .int h_spin, .int h_line, .int h_draught, .int h_books, .int h_rare, .ref h_quarrels_, .ref h_nameSizes_, .ref h_names_])), (h_quarrels_, .inl (cy 1, 8, .inl h_quarrels)), (h_nameSizes_, .inl (cy 1, 8, .inl h_nameSizes)), (h_names_, .inl (cy 1, 56, .inl h_names)), (t, .inr (9, [.ref t_bytes_, .int t_length, .int t_kind, .int t_place, .int t_size, .int t_value, .int t_word, .int u.1, .int u.2, .int t_limit, .int t_next])), (t_bytes_, .inl (cy 1, 940, .inl t_bytes))])) A) args s ((Rm 2 45 0 0)).cells ((Rm 2 45 0 0)).slots A) (H : Heap) (locs : List Loc) (ls : Array Slot) (hP : va_P D vwCl [(h, .inr (6, [.int h_wide, .int h_high, .int h_law, .int h_spin, .int h_line, .int h_draught, .int h_books, .int h_rare, .ref h_quarrels_, .ref h_nameSizes_, .ref h_names_])), (h_quarrels_, .inl (cy 1, 8, .inl h_quarrels)), (h_nameSizes_, .inl (cy 1, 8, .inl h_nameSizes)), (h_names_, .inl (cy 1, 56, .inl h_names)), (t, .inr (9, [.ref t_bytes_, .int t_length, .int t_kind, .int t_place, .int t_size, .int t_value, .int t_word, .int t_faultKind, .int t_faultPlace, .int t_limit, .int t_next])), (t_bytes_, .inl (cy 1, 940, .inl t_bytes))] H) (hD : va_D A [(h, .inr (6, [.int h_wide, .int h_high, .int h_law, .int h_spin, .int h_line, .int h_draught, .int h_books, .int h_rare, .ref h_quarrels_, .ref h_nameSizes_, .ref h_names_])), (h_quarrels_, .inl (cy 1, 8, .inl h_quarrels)), (h_nameSizes_, .inl (cy 1, 8, .inl h_nameSizes)), (h_names_, .inl (cy 1, 56, .inl h_names)), (t, .inr (9, [.ref t_bytes_, .int t_length, .int t_kind, .int t_place, .int t_size, .int t_value, .int t_word, .int t_faultKind, .int t_faultPlace, .int t_limit, .int t_next])), (t_bytes_, .inl (cy 1, 940, .inl t_bytes))]) (hS : va_S A s.heap H locs) (hl : lv_has ls 3 [(0, .ref h), (1, .ref t)]) : W p l e (Rm 2 45 0 0) s m args below meth c H locs cells slots Q (F0 m 0 ls []) := by
  have hx := C.1
  have hb := C.2.1
  refine lv_aload_n hx hb dX6_bookTold_0 rfl (lv_at hl 1 rfl) ?_
  refine q_ai (wr := [(h, .inr (6, [.int h_wide, .int h_high, .int h_law, .int h_spin, .int h_line, .int h_draught, .int h_books, .int h_rare, .ref h_quarrels_, .ref h_nameSizes_, .ref h_names_])), (h_quarrels_, .inl (cy 1, 8, .inl h_quarrels)), (h_nameSizes_, .inl (cy 1, 8, .inl h_nameSizes)), (h_names_, .inl (cy 1, 56, .inl h_names))]) (r_V (rm := (Rm 0 0 0 0)) (q0 := 0) (As := []) (rest := []) (wc := [(t, .inr (9, [.ref t_bytes_, .int t_length, .int t_kind, .int t_place, .int t_size, .int t_value, .int t_word, .int t_faultKind, .int t_faultPlace, .int t_limit, .int t_next])), (t_bytes_, .inl (cy 1, 940, .inl t_bytes))]) C hS (q_subP hP [4, 5] rfl) (hD.sub [4, 5] (by decide) rfl) (o_isNameC l D cy t t_bytes_ t_length t_kind t_place t_size t_value t_word t_faultKind t_faultPlace t_limit t_next t_bytes _ (by omega) (by omega) (by omega) (by omega) (by omega) hR1) kwV_X9_isName kM_RX6_77 rfl rfl ⟨Nat.le_of_ble_eq_true rfl, Nat.le_of_ble_eq_true rfl⟩ rfl hl.1 rfl (Nat.le_of_ble_eq_true rfl) dX6_bookTold_1 ⟨hroom.1, hroom.2⟩) C.2.2.2.2.2.2.1 hP hD hS [4, 5] [0, 1, 2, 3] rfl rfl (by decide) (by decide) (fun r_2 u_1 H locs hw_3 hP hD hS => ?_)
  have hp_3 : 0 ≤ r_2.toInt ∧ r_2.toInt ≤ 1 := hw_3
  refine lv_if_ne (tgt := 15) hx hb dX6_bookTold_4 (by decide) (fun c_5 => ?_) (fun c_5 => ?_)
  · have hc_5 := o_ne (rfl : r_2.toInt = r_2.toInt) (by decide : (0 : Int32).toInt = 0) c_5
    refine lv_aload_n hx hb dX6_bookTold_15 rfl (lv_at hl 0 rfl) ?_
    refine lv_aload_n hx hb dX6_bookTold_16 rfl (lv_at hl 1 rfl) ?_
    refine q_ai (wr := []) (r_V (rm := (Rm 1 23 0 0)) (q0 := 0) (As := [.ref t]) (rest := []) (wc := [(h, .inr (6, [.int h_wide, .int h_high, .int h_law, .int h_spin, .int h_line, .int h_draught, .int h_books, .int h_rare, .ref h_quarrels_, .ref h_nameSizes_, .ref h_names_])), (h_quarrels_, .inl (cy 1, 8, .inl h_quarrels)), (h_nameSizes_, .inl (cy 1, 8, .inl h_nameSizes)), (h_names_, .inl (cy 1, 56, .inl h_names)), (t, .inr (9, [.ref t_bytes_, .int t_length, .int t_kind, .int t_place, .int t_size, .int t_value, .int t_word, .int t_faultKind, .int t_faultPlace, .int t_limit, .int t_next])), (t_bytes_, .inl (cy 1, 940, .inl t_bytes))]) C hS (q_subP hP [0, 1, 2, 3, 4, 5] rfl) (hD.sub [0, 1, 2, 3, 4, 5] (by decide) rfl) (o_bookNamed l D cy h t h_wide h_high h_law h_spin h_line h_draught h_books h_rare h_quarrels_ h_nameSizes_ h_names_ h_quarrels h_nameSizes h_names t_bytes_ t_length t_kind t_place t_size t_value t_word t_faultKind t_faultPlace t_limit t_next t_bytes _ (by omega) (by omega) (by omega) (by omega) (by omega) (by omega) (by omega) (by omega) hR0 hR1) kwV_X6_bookNamed kM_RX6_84 rfl rfl ⟨Nat.le_of_ble_eq_true rfl, Nat.le_of_ble_eq_true rfl⟩ rfl hl.1 rfl (Nat.le_of_ble_eq_true rfl) dX6_bookTold_17 ⟨hroom.1, hroom.2⟩) C.2.2.2.2.2.2.1 hP hD hS [0, 1, 2, 3, 4, 5] [] rfl rfl (by decide) (by decide) (fun r_7 u_6 H locs hw_8 hP hD hS => ?_)
    have hp_8 : (-1) ≤ r_7.toInt ∧ r_7.toInt ≤ 7 := hw_8
    refine lv_istore_n (lv' := [(2, .int r_7), (0, .ref h), (1, .ref t)]) hx hb dX6_bookTold_20 rfl hl (by decide) rfl (fun ls hl => ?_)
    refine lv_iload_n hx hb dX6_bookTold_21 rfl (lv_at hl 0 rfl) ?_
    refine lv_iconst (v := (-1)) hx hb dX6_bookTold_22 (by decide) ?_
    refine lv_icmp_ne (tgt := 32) hx hb dX6_bookTold_23 (by decide) (fun c_10 => ?_) (fun c_10 => ?_)
    · have hc_10 := o_ne (rfl : r_7.toInt = r_7.toInt) (by decide : ((-1) : Int32).toInt = -1) c_10
      refine lv_iload_n hx hb dX6_bookTold_32 rfl (lv_at hl 0 rfl) ?_
      refine o_wq hQ ?_
      exact q_iret (rm := (Rm 2 45 0 0)) C hS (t_faultKind, t_faultPlace) rfl (show (-1) ≤ r_7.toInt ∧ r_7.toInt ≤ 7 by omega) (q_subP hP [0, 1, 2, 3, 4, 5] rfl) (hD.sub [0, 1, 2, 3, 4, 5] (by decide) rfl) hroom.1 hroom.2 dX6_bookTold_33
    · have hc_10 := o_eq (rfl : r_7.toInt = r_7.toInt) (by decide : ((-1) : Int32).toInt = -1) c_10
      refine lv_aload_n hx hb dX6_bookTold_26 rfl (lv_at hl 2 rfl) ?_
      refine lv_iconst (v := 3) hx hb dX6_bookTold_27 (by decide) ?_
      refine q_ai (wr := [(h, .inr (6, [.int h_wide, .int h_high, .int h_law, .int h_spin, .int h_line, .int h_draught, .int h_books, .int h_rare, .ref h_quarrels_, .ref h_nameSizes_, .ref h_names_])), (h_quarrels_, .inl (cy 1, 8, .inl h_quarrels)), (h_nameSizes_, .inl (cy 1, 8, .inl h_nameSizes)), (h_names_, .inl (cy 1, 56, .inl h_names))]) (r_V (rm := (Rm 0 0 0 0)) (q0 := 0) (As := [.int 3]) (rest := []) (wc := [(t, .inr (9, [.ref t_bytes_, .int t_length, .int t_kind, .int t_place, .int t_size, .int t_value, .int t_word, .int t_faultKind, .int t_faultPlace, .int t_limit, .int t_next])), (t_bytes_, .inl (cy 1, 940, .inl t_bytes))]) C hS (q_subP hP [4, 5] rfl) (hD.sub [4, 5] (by decide) rfl) (o_fail l D cy t 3 t_bytes_ t_length t_kind t_place t_size t_value t_word t_faultKind t_faultPlace t_limit t_next t_bytes _ (by omega) (by omega) (by omega) (by omega) (by omega) hR1) kwV_X9_fail kM_RX6_81 rfl rfl ⟨Nat.le_of_ble_eq_true rfl, Nat.le_of_ble_eq_true rfl⟩ rfl hl.1 rfl (Nat.le_of_ble_eq_true rfl) dX6_bookTold_28 ⟨hroom.1, hroom.2⟩) C.2.2.2.2.2.2.1 hP hD hS [4, 5] [0, 1, 2, 3] rfl rfl (by decide) (by decide) (fun r_12 u_11 H locs hw_13 hP hD hS => ?_)
      obtain ⟨x_14, x_15⟩ := u_11
      have hP : va_P D vwCl [(h, .inr (6, [.int h_wide, .int h_high, .int h_law, .int h_spin, .int h_line, .int h_draught, .int h_books, .int h_rare, .ref h_quarrels_, .ref h_nameSizes_, .ref h_names_])), (h_quarrels_, .inl (cy 1, 8, .inl h_quarrels)), (h_nameSizes_, .inl (cy 1, 8, .inl h_nameSizes)), (h_names_, .inl (cy 1, 56, .inl h_names)), (t, .inr (9, [.ref t_bytes_, .int t_length, .int t_kind, .int t_place, .int t_size, .int t_value, .int t_word, .int x_14, .int x_15, .int t_limit, .int t_next])), (t_bytes_, .inl (cy 1, 940, .inl t_bytes))] H := hP
      have hD : va_D A [(h, .inr (6, [.int h_wide, .int h_high, .int h_law, .int h_spin, .int h_line, .int h_draught, .int h_books, .int h_rare, .ref h_quarrels_, .ref h_nameSizes_, .ref h_names_])), (h_quarrels_, .inl (cy 1, 8, .inl h_quarrels)), (h_nameSizes_, .inl (cy 1, 8, .inl h_nameSizes)), (h_names_, .inl (cy 1, 56, .inl h_names)), (t, .inr (9, [.ref t_bytes_, .int t_length, .int t_kind, .int t_place, .int t_size, .int t_value, .int t_word, .int x_14, .int x_15, .int t_limit, .int t_next])), (t_bytes_, .inl (cy 1, 940, .inl t_bytes))] := hD
      have hp_15 : 0 ≤ r_12.toInt ∧ r_12.toInt ≤ 0 := hw_13
      obtain rfl : r_12 = 0 := o_meq (b := 0) rfl (by decide) (by omega)
      refine lv_pop hx hb dX6_bookTold_31 rfl ?_
      refine lv_iload_n hx hb dX6_bookTold_32 rfl (lv_at hl 0 rfl) ?_
      refine o_wq hQ ?_
      exact q_iret (rm := (Rm 2 45 0 0)) C hS (x_14, x_15) rfl (show (-1) ≤ r_7.toInt ∧ r_7.toInt ≤ 7 by omega) (q_subP hP [0, 1, 2, 3, 4, 5] rfl) (hD.sub [0, 1, 2, 3, 4, 5] (by decide) rfl) hroom.1 hroom.2 dX6_bookTold_33
  · have hc_5 := o_eq (rfl : r_2.toInt = r_2.toInt) (by decide : (0 : Int32).toInt = 0) c_5
    refine lv_aload_n hx hb dX6_bookTold_7 rfl (lv_at hl 1 rfl) ?_
    refine lv_iconst (v := 1) hx hb dX6_bookTold_8 (by decide) ?_
    refine q_ai (wr := [(h, .inr (6, [.int h_wide, .int h_high, .int h_law, .int h_spin, .int h_line, .int h_draught, .int h_books, .int h_rare, .ref h_quarrels_, .ref h_nameSizes_, .ref h_names_])), (h_quarrels_, .inl (cy 1, 8, .inl h_quarrels)), (h_nameSizes_, .inl (cy 1, 8, .inl h_nameSizes)), (h_names_, .inl (cy 1, 56, .inl h_names))]) (r_V (rm := (Rm 0 0 0 0)) (q0 := 0) (As := [.int 1]) (rest := []) (wc := [(t, .inr (9, [.ref t_bytes_, .int t_length, .int t_kind, .int t_place, .int t_size, .int t_value, .int t_word, .int t_faultKind, .int t_faultPlace, .int t_limit, .int t_next])), (t_bytes_, .inl (cy 1, 940, .inl t_bytes))]) C hS (q_subP hP [4, 5] rfl) (hD.sub [4, 5] (by decide) rfl) (o_fail l D cy t 1 t_bytes_ t_length t_kind t_place t_size t_value t_word t_faultKind t_faultPlace t_limit t_next t_bytes _ (by omega) (by omega) (by omega) (by omega) (by omega) hR1) kwV_X9_fail kM_RX6_81 rfl rfl ⟨Nat.le_of_ble_eq_true rfl, Nat.le_of_ble_eq_true rfl⟩ rfl hl.1 rfl (Nat.le_of_ble_eq_true rfl) dX6_bookTold_9 ⟨hroom.1, hroom.2⟩) C.2.2.2.2.2.2.1 hP hD hS [4, 5] [0, 1, 2, 3] rfl rfl (by decide) (by decide) (fun r_18 u_17 H locs hw_19 hP hD hS => ?_)
    obtain ⟨x_20, x_21⟩ := u_17
    have hP : va_P D vwCl [(h, .inr (6, [.int h_wide, .int h_high, .int h_law, .int h_spin, .int h_line, .int h_draught, .int h_books, .int h_rare, .ref h_quarrels_, .ref h_nameSizes_, .ref h_names_])), (h_quarrels_, .inl (cy 1, 8, .inl h_quarrels)), (h_nameSizes_, .inl (cy 1, 8, .inl h_nameSizes)), (h_names_, .inl (cy 1, 56, .inl h_names)), (t, .inr (9, [.ref t_bytes_, .int t_length, .int t_kind, .int t_place, .int t_size, .int t_value, .int t_word, .int x_20, .int x_21, .int t_limit, .int t_next])), (t_bytes_, .inl (cy 1, 940, .inl t_bytes))] H := hP
    have hD : va_D A [(h, .inr (6, [.int h_wide, .int h_high, .int h_law, .int h_spin, .int h_line, .int h_draught, .int h_books, .int h_rare, .ref h_quarrels_, .ref h_nameSizes_, .ref h_names_])), (h_quarrels_, .inl (cy 1, 8, .inl h_quarrels)), (h_nameSizes_, .inl (cy 1, 8, .inl h_nameSizes)), (h_names_, .inl (cy 1, 56, .inl h_names)), (t, .inr (9, [.ref t_bytes_, .int t_length, .int t_kind, .int t_place, .int t_size, .int t_value, .int t_word, .int x_20, .int x_21, .int t_limit, .int t_next])), (t_bytes_, .inl (cy 1, 940, .inl t_bytes))] := hD
    have hp_21 : 0 ≤ r_18.toInt ∧ r_18.toInt ≤ 0 := hw_19
    obtain rfl : r_18 = 0 := o_meq (b := 0) rfl (by decide) (by omega)
    refine lv_pop hx hb dX6_bookTold_12 rfl ?_
    refine lv_iconst (v := (-1)) hx hb dX6_bookTold_13 (by decide) ?_
    refine o_wq hQ ?_
    exact q_iret (rm := (Rm 2 45 0 0)) C hS (x_20, x_21) rfl (show (-1) ≤ ((-1) : Int32).toInt ∧ ((-1) : Int32).toInt ≤ 7 by decide) (q_subP hP [0, 1, 2, 3, 4, 5] rfl) (hD.sub [0, 1, 2, 3, 4, 5] (by decide) rfl) hroom.1 hroom.2 dX6_bookTold_14
theorem o_bookTold (l : Launch) (D : va_G) (cy : Nat → ClassId) (h : Nat) (t : Nat) (h_wide : Int32) (h_high : Int32) (h_law : Int32) (h_spin : Int32) (h_line : Int32) (h_draught : Int32) (h_books : Int32) (h_rare : Int32) (h_quarrels_ : Nat) (h_nameSizes_ : Nat) (h_names_ : Nat) (h_quarrels : Nat → Int32) (h_nameSizes : Nat → Int32) (h_names : Nat → Int32) (t_bytes_ : Nat) (t_length : Int32) (t_kind : Int32) (t_place : Int32) (t_size : Int32) (t_value : Int32) (t_word : Int32) (t_faultKind : Int32) (t_faultPlace : Int32) (t_limit : Int32) (t_next : Int32) (t_bytes : Nat → Int32) (sz : Nat) (hb0 : 0 ≤ h_wide.toInt ∧ h_wide.toInt ≤ 6) (hb1 : 0 ≤ h_high.toInt ∧ h_high.toInt ≤ 6) (hb2 : 0 ≤ h_books.toInt ∧ h_books.toInt ≤ 8) (hb3 : 0 ≤ t_length.toInt ∧ t_length.toInt ≤ 940) (hb4 : 0 ≤ t_place.toInt ∧ t_place.toInt ≤ 900) (hb5 : (-900) ≤ t_size.toInt ∧ t_size.toInt ≤ 940) (hb6 : 0 ≤ t_limit.toInt ∧ t_limit.toInt ≤ 900) (hb7 : 0 ≤ t_next.toInt ∧ t_next.toInt ≤ 940) (hR0 : Rg h_nameSizes 0 8 (-900) 7) (hR1 : Rg t_bytes 0 940 0 255) : MI l yX6_bookTold cX6_bookTold 3 (some .int) (Rm 2 45 0 0) D cy [.ref h, .ref t] sz [(h, .inr (6, [.int h_wide, .int h_high, .int h_law, .int h_spin, .int h_line, .int h_draught, .int h_books, .int h_rare, .ref h_quarrels_, .ref h_nameSizes_, .ref h_names_])), (h_quarrels_, .inl (cy 1, 8, .inl h_quarrels)), (h_nameSizes_, .inl (cy 1, 8, .inl h_nameSizes)), (h_names_, .inl (cy 1, 56, .inl h_names)), (t, .inr (9, [.ref t_bytes_, .int t_length, .int t_kind, .int t_place, .int t_size, .int t_value, .int t_word, .int t_faultKind, .int t_faultPlace, .int t_limit, .int t_next])), (t_bytes_, .inl (cy 1, 940, .inl t_bytes))] (fun (r : Int32) (u : Int32 × Int32) => ((-1) ≤ r.toInt ∧ r.toInt ≤ 7)) (fun u : Int32 × Int32 => [(h, .inr (6, [.int h_wide, .int h_high, .int h_law, .int h_spin, .int h_line, .int h_draught, .int h_books, .int h_rare, .ref h_quarrels_, .ref h_nameSizes_, .ref h_names_])), (h_quarrels_, .inl (cy 1, 8, .inl h_quarrels)), (h_nameSizes_, .inl (cy 1, 8, .inl h_nameSizes)), (h_names_, .inl (cy 1, 56, .inl h_names)), (t, .inr (9, [.ref t_bytes_, .int t_length, .int t_kind, .int t_place, .int t_size, .int t_value, .int t_word, .int u.1, .int u.2, .int t_limit, .int t_next])), (t_bytes_, .inl (cy 1, 940, .inl t_bytes))]) := by
  refine MI.enter (by decide) (Nat.le_of_ble_eq_true rfl) ?_
  intro p e s m below meth c ls A hsz hAe C hP hD hS hl
  exact b_o_bookTold l D cy h t h_wide h_high h_law h_spin h_line h_draught h_books h_rare h_quarrels_ h_nameSizes_ h_names_ h_quarrels h_nameSizes h_names t_bytes_ t_length t_kind t_place t_size t_value t_word t_faultKind t_faultPlace t_limit t_next t_bytes hb0 hb1 hb2 hb3 hb4 hb5 hb6 hb7 hR0 hR1 ⟨Nat.le_of_ble_eq_true rfl, Nat.le_of_ble_eq_true rfl⟩ C rfl _ _ ls hP hD hS hl
