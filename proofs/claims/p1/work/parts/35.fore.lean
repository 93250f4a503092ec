theorem dX8_hasDays_0 : decode cX8_hasDays 0 = .ok (.iload_n 1, 1) := by decide +kernel
theorem dX8_hasDays_1 : decode cX8_hasDays 1 = .ok (.sipush 400, 3) := by decide +kernel
theorem dX8_hasDays_4 : decode cX8_hasDays 4 = .ok (.aload_n 0, 1) := by decide +kernel
theorem dX8_hasDays_5 : decode cX8_hasDays 5 = .ok (.getfield 31, 3) := by decide +kernel
theorem dX8_hasDays_8 : decode cX8_hasDays 8 = .ok (.isub, 1) := by decide +kernel
theorem dX8_hasDays_9 : decode cX8_hasDays 9 = .ok (.if_icmp .gt 7, 3) := by decide +kernel
theorem dX8_hasDays_12 : decode cX8_hasDays 12 = .ok (.iconst 1, 1) := by decide +kernel
theorem dX8_hasDays_13 : decode cX8_hasDays 13 = .ok (.goto 4, 3) := by decide +kernel
theorem dX8_hasDays_17 : decode cX8_hasDays 17 = .ok (.ireturn, 1) := by decide +kernel
theorem dX0_look_0 : decode cX0_look 0 = .ok (.aload_n 0, 1) := by decide +kernel
theorem dX0_look_1 : decode cX0_look 1 = .ok (.aload_n 1, 1) := by decide +kernel
theorem dX0_look_2 : decode cX0_look 2 = .ok (.getfield 61, 3) := by decide +kernel
theorem kF_RX0_61 : Cond.fieldLink RX0 61 "CobwebLibrary$Plan" "books" "I" ∈ gT := List.mem_filter.mpr ⟨List.mem_of_getElem? (i := 245) (by decide +kernel), by decide +kernel⟩
theorem dX0_look_5 : decode cX0_look 5 = .ok (.putfield 43, 3) := by decide +kernel
theorem dX0_look_8 : decode cX0_look 8 = .ok (.aload_n 0, 1) := by decide +kernel
theorem dX0_look_9 : decode cX0_look 9 = .ok (.aload_n 1, 1) := by decide +kernel
theorem dX0_look_10 : decode cX0_look 10 = .ok (.getfield 64, 3) := by decide +kernel
theorem kF_RX0_64 : Cond.fieldLink RX0 64 "CobwebLibrary$Plan" "rare" "I" ∈ gT := List.mem_filter.mpr ⟨List.mem_of_getElem? (i := 253) (by decide +kernel), by decide +kernel⟩
theorem dX0_look_13 : decode cX0_look 13 = .ok (.putfield 46, 3) := by decide +kernel
theorem dX0_look_16 : decode cX0_look 16 = .ok (.aload_n 0, 1) := by decide +kernel
theorem dX0_look_17 : decode cX0_look 17 = .ok (.aload_n 1, 1) := by decide +kernel
theorem dX0_look_18 : decode cX0_look 18 = .ok (.getfield 65, 3) := by decide +kernel
theorem kF_RX0_65 : Cond.fieldLink RX0 65 "CobwebLibrary$Plan" "law" "I" ∈ gT := List.mem_filter.mpr ⟨List.mem_of_getElem? (i := 232) (by decide +kernel), by decide +kernel⟩
theorem dX0_look_21 : decode cX0_look 21 = .ok (.putfield 49, 3) := by decide +kernel
theorem dX0_look_24 : decode cX0_look 24 = .ok (.aload_n 0, 1) := by decide +kernel
theorem dX0_look_25 : decode cX0_look 25 = .ok (.iconst 1, 1) := by decide +kernel
theorem dX0_look_26 : decode cX0_look 26 = .ok (.aload_n 1, 1) := by decide +kernel
theorem dX0_look_27 : decode cX0_look 27 = .ok (.getfield 66, 3) := by decide +kernel
theorem kF_RX0_66 : Cond.fieldLink RX0 66 "CobwebLibrary$Plan" "spin" "I" ∈ gT := List.mem_filter.mpr ⟨List.mem_of_getElem? (i := 235) (by decide +kernel), by decide +kernel⟩
theorem dX0_look_30 : decode cX0_look 30 = .ok (.invokestatic 67, 3) := by decide +kernel
theorem kM_RX0_67 : Cond.methodLink RX0 67 Lib.Math.max.name ∈ gT := List.mem_filter.mpr ⟨List.mem_of_getElem? (i := 1237) (by decide +kernel), by decide +kernel⟩
theorem dX0_look_33 : decode cX0_look 33 = .ok (.putfield 52, 3) := by decide +kernel
theorem dX0_look_36 : decode cX0_look 36 = .ok (.aload_n 0, 1) := by decide +kernel
theorem dX0_look_37 : decode cX0_look 37 = .ok (.aload_n 2, 1) := by decide +kernel
theorem dX0_look_38 : decode cX0_look 38 = .ok (.getfield 73, 3) := by decide +kernel
theorem kF_RX0_73 : Cond.fieldLink RX0 73 "CobwebLibrary$Shelves" "today" "I" ∈ gT := List.mem_filter.mpr ⟨List.mem_of_getElem? (i := 312) (by decide +kernel), by decide +kernel⟩
theorem dX0_look_41 : decode cX0_look 41 = .ok (.putfield 55, 3) := by decide +kernel
theorem dX0_look_44 : decode cX0_look 44 = .ok (.aload_n 0, 1) := by decide +kernel
theorem dX0_look_45 : decode cX0_look 45 = .ok (.iload_n 3, 1) := by decide +kernel
theorem dX0_look_46 : decode cX0_look 46 = .ok (.bipush 8, 2) := by decide +kernel
theorem dX0_look_48 : decode cX0_look 48 = .ok (.invokestatic 76, 3) := by decide +kernel
theorem kM_RX0_76 : Cond.methodLink RX0 76 Lib.Math.min.name ∈ gT := List.mem_filter.mpr ⟨List.mem_of_getElem? (i := 1238) (by decide +kernel), by decide +kernel⟩
theorem dX0_look_51 : decode cX0_look 51 = .ok (.putfield 58, 3) := by decide +kernel
theorem dX0_look_54 : decode cX0_look 54 = .ok (.aload_n 2, 1) := by decide +kernel
theorem dX0_look_55 : decode cX0_look 55 = .ok (.getfield 79, 3) := by decide +kernel
theorem kF_RX0_79 : Cond.fieldLink RX0 79 "CobwebLibrary$Shelves" "web" "[I" ∈ gT := List.mem_filter.mpr ⟨List.mem_of_getElem? (i := 302) (by decide +kernel), by decide +kernel⟩
theorem dX0_look_58 : decode cX0_look 58 = .ok (.iconst 0, 1) := by decide +kernel
theorem dX0_look_59 : decode cX0_look 59 = .ok (.aload_n 0, 1) := by decide +kernel
theorem dX0_look_60 : decode cX0_look 60 = .ok (.getfield 40, 3) := by decide +kernel
theorem dX0_look_63 : decode cX0_look 63 = .ok (.iconst 0, 1) := by decide +kernel
theorem dX0_look_64 : decode cX0_look 64 = .ok (.bipush 8, 2) := by decide +kernel
theorem dX0_look_66 : decode cX0_look 66 = .ok (.invokestatic 82, 3) := by decide +kernel
theorem kM_RX0_82 : Cond.methodLink RX0 82 arraycopyName ∈ gT := List.mem_filter.mpr ⟨List.mem_of_getElem? (i := 1239) (by decide +kernel), by decide +kernel⟩
theorem dX0_look_69 : decode cX0_look 69 = .ok (.return_, 1) := by decide +kernel
theorem dX0_askingsNeeded_0 : decode cX0_askingsNeeded 0 = .ok (.iconst 0, 1) := by decide +kernel
theorem dX0_askingsNeeded_1 : decode cX0_askingsNeeded 1 = .ok (.istore_n 2, 1) := by decide +kernel
theorem dX0_askingsNeeded_2 : decode cX0_askingsNeeded 2 = .ok (.iconst 0, 1) := by decide +kernel
theorem dX0_askingsNeeded_3 : decode cX0_askingsNeeded 3 = .ok (.istore_n 3, 1) := by decide +kernel
theorem dX0_askingsNeeded_4 : decode cX0_askingsNeeded 4 = .ok (.iload_n 3, 1) := by decide +kernel
theorem dX0_askingsNeeded_5 : decode cX0_askingsNeeded 5 = .ok (.aload_n 0, 1) := by decide +kernel
theorem dX0_askingsNeeded_6 : decode cX0_askingsNeeded 6 = .ok (.getfield 43, 3) := by decide +kernel
theorem dX0_askingsNeeded_9 : decode cX0_askingsNeeded 9 = .ok (.if_icmp .ge 69, 3) := by decide +kernel
theorem dX0_askingsNeeded_78 : decode cX0_askingsNeeded 78 = .ok (.iload_n 2, 1) := by decide +kernel
theorem dX0_askingsNeeded_79 : decode cX0_askingsNeeded 79 = .ok (.ireturn, 1) := by decide +kernel
theorem dX0_passDay_0 : decode cX0_passDay 0 = .ok (.iload_n 1, 1) := by decide +kernel
theorem dX0_passDay_1 : decode cX0_passDay 1 = .ok (.bipush 9, 2) := by decide +kernel
theorem dX0_passDay_3 : decode cX0_passDay 3 = .ok (.imul, 1) := by decide +kernel
theorem dX0_passDay_4 : decode cX0_passDay 4 = .ok (.istore_n 2, 1) := by decide +kernel
theorem dX0_passDay_5 : decode cX0_passDay 5 = .ok (.iconst 0, 1) := by decide +kernel
theorem dX0_passDay_6 : decode cX0_passDay 6 = .ok (.istore_n 3, 1) := by decide +kernel
theorem dX0_passDay_7 : decode cX0_passDay 7 = .ok (.iload_n 3, 1) := by decide +kernel
theorem dX0_passDay_8 : decode cX0_passDay 8 = .ok (.aload_n 0, 1) := by decide +kernel
theorem dX0_passDay_9 : decode cX0_passDay 9 = .ok (.getfield 43, 3) := by decide +kernel
theorem dX0_passDay_12 : decode cX0_passDay 12 = .ok (.if_icmp .ge 62, 3) := by decide +kernel
theorem dX0_passDay_74 : decode cX0_passDay 74 = .ok (.return_, 1) := by decide +kernel
theorem dX0_areRareInDoubt_0 : decode cX0_areRareInDoubt 0 = .ok (.iconst 0, 1) := by decide +kernel
theorem dX0_areRareInDoubt_1 : decode cX0_areRareInDoubt 1 = .ok (.istore_n 2, 1) := by decide +kernel
theorem dX0_areRareInDoubt_2 : decode cX0_areRareInDoubt 2 = .ok (.iload_n 2, 1) := by decide +kernel
theorem dX0_areRareInDoubt_3 : decode cX0_areRareInDoubt 3 = .ok (.aload_n 0, 1) := by decide +kernel
theorem dX0_areRareInDoubt_4 : decode cX0_areRareInDoubt 4 = .ok (.getfield 43, 3) := by decide +kernel
theorem dX0_areRareInDoubt_7 : decode cX0_areRareInDoubt 7 = .ok (.if_icmp .ge 41, 3) := by decide +kernel
theorem dX0_areRareInDoubt_48 : decode cX0_areRareInDoubt 48 = .ok (.iconst 1, 1) := by decide +kernel
theorem dX0_areRareInDoubt_49 : decode cX0_areRareInDoubt 49 = .ok (.ireturn, 1) := by decide +kernel
theorem dX0_bookChosen_0 : decode cX0_bookChosen 0 = .ok (.iload_n 1, 1) := by decide +kernel
theorem dX0_bookChosen_1 : decode cX0_bookChosen 1 = .ok (.aload_n 0, 1) := by decide +kernel
theorem dX0_bookChosen_2 : decode cX0_bookChosen 2 = .ok (.getfield 43, 3) := by decide +kernel
theorem dX0_bookChosen_5 : decode cX0_bookChosen 5 = .ok (.if_icmp .ge 7, 3) := by decide +kernel
theorem dX0_bookChosen_12 : decode cX0_bookChosen 12 = .ok (.iconst (-1), 1) := by decide +kernel
theorem dX0_bookChosen_13 : decode cX0_bookChosen 13 = .ok (.ireturn, 1) := by decide +kernel
theorem dX10_bitOf_0 : decode cX10_bitOf 0 = .ok (.iload_n 0, 1) := by decide +kernel
theorem dX10_bitOf_1 : decode cX10_bitOf 1 = .ok (.iload_n 1, 1) := by decide +kernel
theorem dX10_bitOf_2 : decode cX10_bitOf 2 = .ok (.ishr, 1) := by decide +kernel
theorem dX10_bitOf_3 : decode cX10_bitOf 3 = .ok (.iconst 1, 1) := by decide +kernel
theorem dX10_bitOf_4 : decode cX10_bitOf 4 = .ok (.iand, 1) := by decide +kernel
theorem dX10_bitOf_5 : decode cX10_bitOf 5 = .ok (.ireturn, 1) := by decide +kernel
theorem dX0_isFree_0 : decode cX0_isFree 0 = .ok (.iload_n 1, 1) := by decide +kernel
theorem dX0_isFree_1 : decode cX0_isFree 1 = .ok (.ifCond .gt 14, 3) := by decide +kernel
theorem dX0_isFree_15 : decode cX0_isFree 15 = .ok (.iconst 1, 1) := by decide +kernel
theorem dX0_isFree_16 : decode cX0_isFree 16 = .ok (.goto 4, 3) := by decide +kernel
theorem dX0_isFree_20 : decode cX0_isFree 20 = .ok (.ireturn, 1) := by decide +kernel
theorem dX0_isFree_4 : decode cX0_isFree 4 = .ok (.aload_n 0, 1) := by decide +kernel
theorem dX0_isFree_5 : decode cX0_isFree 5 = .ok (.getfield 55, 3) := by decide +kernel
theorem dX0_isFree_8 : decode cX0_isFree 8 = .ok (.iload_n 2, 1) := by decide +kernel
theorem dX0_isFree_9 : decode cX0_isFree 9 = .ok (.invokestatic 88, 3) := by decide +kernel
theorem kwS_X10_bitOf : MwS yX10_bitOf cX10_bitOf 2 (some .int) 2 := ⟨List.mem_filter.mpr ⟨List.mem_of_getElem? (i := 749) (by decide +kernel), by decide +kernel⟩, List.mem_filter.mpr ⟨List.mem_of_getElem? (i := 748) (by decide +kernel), by decide +kernel⟩, List.mem_filter.mpr ⟨List.mem_of_getElem? (i := 128) (by decide +kernel), by decide +kernel⟩, by decide +kernel⟩
theorem kN_RX0_88 : (RX0, 88, yX10_bitOf, RX10) ∈ nestQ := List.mem_of_getElem? (i := 9) (by decide +kernel)
theorem dX0_isFree_12 : decode cX0_isFree 12 = .ok (.ifCond .ne 7, 3) := by decide +kernel
theorem dX0_mayChoose_0 : decode cX0_mayChoose 0 = .ok (.iload_n 2, 1) := by decide +kernel
theorem dX0_mayChoose_1 : decode cX0_mayChoose 1 = .ok (.aload_n 0, 1) := by decide +kernel
theorem dX0_mayChoose_2 : decode cX0_mayChoose 2 = .ok (.getfield 43, 3) := by decide +kernel
theorem dX0_mayChoose_5 : decode cX0_mayChoose 5 = .ok (.if_icmp .eq 12, 3) := by decide +kernel
theorem dX0_mayChoose_17 : decode cX0_mayChoose 17 = .ok (.iconst 1, 1) := by decide +kernel
theorem dX0_mayChoose_18 : decode cX0_mayChoose 18 = .ok (.goto 4, 3) := by decide +kernel
theorem dX0_mayChoose_22 : decode cX0_mayChoose 22 = .ok (.ireturn, 1) := by decide +kernel
theorem dX0_lawsBehind_0 : decode cX0_lawsBehind 0 = .ok (.iconst 0, 1) := by decide +kernel
theorem dX0_lawsBehind_1 : decode cX0_lawsBehind 1 = .ok (.istore_n 2, 1) := by decide +kernel
theorem dX0_lawsBehind_2 : decode cX0_lawsBehind 2 = .ok (.iconst 0, 1) := by decide +kernel
theorem dX0_lawsBehind_3 : decode cX0_lawsBehind 3 = .ok (.istore_n 3, 1) := by decide +kernel
theorem dX0_lawsBehind_4 : decode cX0_lawsBehind 4 = .ok (.iload_n 3, 1) := by decide +kernel
theorem dX0_lawsBehind_5 : decode cX0_lawsBehind 5 = .ok (.aload_n 0, 1) := by decide +kernel
theorem dX0_lawsBehind_6 : decode cX0_lawsBehind 6 = .ok (.getfield 43, 3) := by decide +kernel
theorem dX0_lawsBehind_9 : decode cX0_lawsBehind 9 = .ok (.if_icmp .ge 30, 3) := by decide +kernel
theorem dX0_lawsBehind_39 : decode cX0_lawsBehind 39 = .ok (.iload_n 2, 1) := by decide +kernel
theorem dX0_lawsBehind_40 : decode cX0_lawsBehind 40 = .ok (.ireturn, 1) := by decide +kernel
theorem dX0_keepsFrom_0 : decode cX0_keepsFrom 0 = .ok (.iload_n 1, 1) := by decide +kernel
theorem dX0_keepsFrom_1 : decode cX0_keepsFrom 1 = .ok (.aload_n 0, 1) := by decide +kernel
theorem dX0_keepsFrom_2 : decode cX0_keepsFrom 2 = .ok (.getfield 58, 3) := by decide +kernel
theorem dX0_keepsFrom_5 : decode cX0_keepsFrom 5 = .ok (.if_icmp .lt 5, 3) := by decide +kernel
theorem dX0_keepsFrom_8 : decode cX0_keepsFrom 8 = .ok (.iconst 1, 1) := by decide +kernel
theorem dX0_keepsFrom_9 : decode cX0_keepsFrom 9 = .ok (.ireturn, 1) := by decide +kernel
theorem dX0_keepsFrom_10 : decode cX0_keepsFrom 10 = .ok (.aload_n 0, 1) := by decide +kernel
theorem dX0_keepsFrom_11 : decode cX0_keepsFrom 11 = .ok (.iload_n 1, 1) := by decide +kernel
theorem dX0_keepsFrom_12 : decode cX0_keepsFrom 12 = .ok (.invokevirtual 98, 3) := by decide +kernel
theorem kwV_X0_askingsNeeded : MwV RX0 yX0_askingsNeeded cX0_askingsNeeded 5 (some .int) 1 := ⟨List.mem_filter.mpr ⟨List.mem_of_getElem? (i := 1251) (by decide +kernel), by decide +kernel⟩, List.mem_filter.mpr ⟨List.mem_of_getElem? (i := 1250) (by decide +kernel), by decide +kernel⟩, List.mem_filter.mpr ⟨List.mem_of_getElem? (i := 37) (by decide +kernel), by decide +kernel⟩, List.mem_filter.mpr ⟨List.mem_of_getElem? (i := 136) (by decide +kernel), by decide +kernel⟩, by decide +kernel⟩
theorem kM_RX0_98 : Cond.methodLink RX0 98 yX0_askingsNeeded ∈ gT := List.mem_filter.mpr ⟨List.mem_of_getElem? (i := 1248) (by decide +kernel), by decide +kernel⟩
theorem dX0_keepsFrom_15 : decode cX0_keepsFrom 15 = .ok (.iload_n 2, 1) := by decide +kernel
theorem dX0_keepsFrom_16 : decode cX0_keepsFrom 16 = .ok (.if_icmp .le 5, 3) := by decide +kernel
theorem dX0_keepsFrom_21 : decode cX0_keepsFrom 21 = .ok (.aload_n 0, 1) := by decide +kernel
theorem dX0_keepsFrom_22 : decode cX0_keepsFrom 22 = .ok (.iload_n 1, 1) := by decide +kernel
theorem dX0_keepsFrom_23 : decode cX0_keepsFrom 23 = .ok (.invokevirtual 102, 3) := by decide +kernel
theorem kwV_X0_passDay : MwV RX0 yX0_passDay cX0_passDay 5 none 1 := ⟨List.mem_filter.mpr ⟨List.mem_of_getElem? (i := 1264) (by decide +kernel), by decide +kernel⟩, List.mem_filter.mpr ⟨List.mem_of_getElem? (i := 1263) (by decide +kernel), by decide +kernel⟩, List.mem_filter.mpr ⟨List.mem_of_getElem? (i := 40) (by decide +kernel), by decide +kernel⟩, List.mem_filter.mpr ⟨List.mem_of_getElem? (i := 136) (by decide +kernel), by decide +kernel⟩, by decide +kernel⟩
theorem kM_RX0_102 : Cond.methodLink RX0 102 yX0_passDay ∈ gT := List.mem_filter.mpr ⟨List.mem_of_getElem? (i := 1261) (by decide +kernel), by decide +kernel⟩
theorem dX0_keepsFrom_26 : decode cX0_keepsFrom 26 = .ok (.iconst 0, 1) := by decide +kernel
theorem dX0_keepsFrom_27 : decode cX0_keepsFrom 27 = .ok (.istore_n 3, 1) := by decide +kernel
theorem dX0_keepsFrom_28 : decode cX0_keepsFrom 28 = .ok (.iload_n 3, 1) := by decide +kernel
theorem dX0_keepsFrom_29 : decode cX0_keepsFrom 29 = .ok (.aload_n 0, 1) := by decide +kernel
theorem dX0_keepsFrom_30 : decode cX0_keepsFrom 30 = .ok (.getfield 43, 3) := by decide +kernel
theorem dX0_keepsFrom_33 : decode cX0_keepsFrom 33 = .ok (.if_icmp .gt 137, 3) := by decide +kernel
theorem dX0_keepsFrom_36 : decode cX0_keepsFrom 36 = .ok (.iload_n 3, 1) := by decide +kernel
theorem dX0_keepsFrom_37 : decode cX0_keepsFrom 37 = .ok (.aload_n 0, 1) := by decide +kernel
theorem dX0_keepsFrom_38 : decode cX0_keepsFrom 38 = .ok (.getfield 43, 3) := by decide +kernel
theorem dX0_keepsFrom_41 : decode cX0_keepsFrom 41 = .ok (.if_icmp .ge 7, 3) := by decide +kernel
theorem dX0_keepsFrom_48 : decode cX0_keepsFrom 48 = .ok (.iconst 0, 1) := by decide +kernel
theorem dX0_keepsFrom_49 : decode cX0_keepsFrom 49 = .ok (.istore 4, 2) := by decide +kernel
theorem dX0_keepsFrom_51 : decode cX0_keepsFrom 51 = .ok (.iload 4, 2) := by decide +kernel
theorem dX0_keepsFrom_53 : decode cX0_keepsFrom 53 = .ok (.ifCond .eq 30, 3) := by decide +kernel
theorem dX0_keepsFrom_83 : decode cX0_keepsFrom 83 = .ok (.iload_n 1, 1) := by decide +kernel
theorem dX0_keepsFrom_84 : decode cX0_keepsFrom 84 = .ok (.iconst 1, 1) := by decide +kernel
theorem dX0_keepsFrom_85 : decode cX0_keepsFrom 85 = .ok (.iadd, 1) := by decide +kernel
theorem dX0_keepsFrom_86 : decode cX0_keepsFrom 86 = .ok (.bipush 9, 2) := by decide +kernel
theorem dX0_keepsFrom_88 : decode cX0_keepsFrom 88 = .ok (.imul, 1) := by decide +kernel
theorem dX0_keepsFrom_89 : decode cX0_keepsFrom 89 = .ok (.iload_n 3, 1) := by decide +kernel
theorem dX0_keepsFrom_90 : decode cX0_keepsFrom 90 = .ok (.iadd, 1) := by decide +kernel
theorem dX0_keepsFrom_91 : decode cX0_keepsFrom 91 = .ok (.istore 5, 2) := by decide +kernel
theorem dX0_keepsFrom_93 : decode cX0_keepsFrom 93 = .ok (.aload_n 0, 1) := by decide +kernel
theorem dX0_keepsFrom_94 : decode cX0_keepsFrom 94 = .ok (.getfield 40, 3) := by decide +kernel
theorem dX0_keepsFrom_97 : decode cX0_keepsFrom 97 = .ok (.iload 5, 2) := by decide +kernel
theorem dX0_keepsFrom_99 : decode cX0_keepsFrom 99 = .ok (.iaload, 1) := by decide +kernel
theorem dX0_keepsFrom_100 : decode cX0_keepsFrom 100 = .ok (.istore 6, 2) := by decide +kernel
theorem dX0_keepsFrom_102 : decode cX0_keepsFrom 102 = .ok (.aload_n 0, 1) := by decide +kernel
theorem dX0_keepsFrom_103 : decode cX0_keepsFrom 103 = .ok (.getfield 40, 3) := by decide +kernel
theorem dX0_keepsFrom_106 : decode cX0_keepsFrom 106 = .ok (.iload 5, 2) := by decide +kernel
theorem dX0_keepsFrom_108 : decode cX0_keepsFrom 108 = .ok (.iconst 0, 1) := by decide +kernel
theorem dX0_keepsFrom_109 : decode cX0_keepsFrom 109 = .ok (.iastore, 1) := by decide +kernel
theorem dX0_keepsFrom_110 : decode cX0_keepsFrom 110 = .ok (.aload_n 0, 1) := by decide +kernel
theorem dX0_keepsFrom_111 : decode cX0_keepsFrom 111 = .ok (.iload_n 1, 1) := by decide +kernel
theorem dX0_keepsFrom_112 : decode cX0_keepsFrom 112 = .ok (.iconst 1, 1) := by decide +kernel
theorem dX0_keepsFrom_113 : decode cX0_keepsFrom 113 = .ok (.iadd, 1) := by decide +kernel
theorem dX0_keepsFrom_114 : decode cX0_keepsFrom 114 = .ok (.invokevirtual 106, 3) := by decide +kernel
theorem kwV_X0_areRareInDoubt : MwV RX0 yX0_areRareInDoubt cX0_areRareInDoubt 3 (some .boolean) 1 := ⟨List.mem_filter.mpr ⟨List.mem_of_getElem? (i := 1268) (by decide +kernel), by decide +kernel⟩, List.mem_filter.mpr ⟨List.mem_of_getElem? (i := 1267) (by decide +kernel), by decide +kernel⟩, List.mem_filter.mpr ⟨List.mem_of_getElem? (i := 41) (by decide +kernel), by decide +kernel⟩, List.mem_filter.mpr ⟨List.mem_of_getElem? (i := 136) (by decide +kernel), by decide +kernel⟩, by decide +kernel⟩
theorem kM_RX0_106 : Cond.methodLink RX0 106 yX0_areRareInDoubt ∈ gT := List.mem_filter.mpr ⟨List.mem_of_getElem? (i := 1265) (by decide +kernel), by decide +kernel⟩
theorem dX0_keepsFrom_117 : decode cX0_keepsFrom 117 = .ok (.ifCond .eq 38, 3) := by decide +kernel
theorem dX0_keepsFrom_120 : decode cX0_keepsFrom 120 = .ok (.aload_n 0, 1) := by decide +kernel
theorem dX0_keepsFrom_121 : decode cX0_keepsFrom 121 = .ok (.iload_n 1, 1) := by decide +kernel
theorem dX0_keepsFrom_122 : decode cX0_keepsFrom 122 = .ok (.iconst 1, 1) := by decide +kernel
theorem dX0_keepsFrom_123 : decode cX0_keepsFrom 123 = .ok (.iadd, 1) := by decide +kernel
theorem dX0_keepsFrom_124 : decode cX0_keepsFrom 124 = .ok (.iload 4, 2) := by decide +kernel
theorem dX0_keepsFrom_126 : decode cX0_keepsFrom 126 = .ok (.ifCond .eq 9, 3) := by decide +kernel
theorem dX0_keepsFrom_135 : decode cX0_keepsFrom 135 = .ok (.iload_n 2, 1) := by decide +kernel
theorem dX0_keepsFrom_136 : decode cX0_keepsFrom 136 = .ok (.invokevirtual 95, 3) := by decide +kernel
theorem kwV_X0_keepsFrom : MwV RX0 yX0_keepsFrom cX0_keepsFrom 7 (some .boolean) 2 := ⟨List.mem_filter.mpr ⟨List.mem_of_getElem? (i := 1247) (by decide +kernel), by decide +kernel⟩, List.mem_filter.mpr ⟨List.mem_of_getElem? (i := 1246) (by decide +kernel), by decide +kernel⟩, List.mem_filter.mpr ⟨List.mem_of_getElem? (i := 36) (by decide +kernel), by decide +kernel⟩, List.mem_filter.mpr ⟨List.mem_of_getElem? (i := 136) (by decide +kernel), by decide +kernel⟩, by decide +kernel⟩
theorem kM_RX0_95 : Cond.methodLink RX0 95 yX0_keepsFrom ∈ gT := List.mem_filter.mpr ⟨List.mem_of_getElem? (i := 1244) (by decide +kernel), by decide +kernel⟩
theorem dX0_keepsFrom_139 : decode cX0_keepsFrom 139 = .ok (.ifCond .eq 16, 3) := by decide +kernel
theorem dX0_keepsFrom_142 : decode cX0_keepsFrom 142 = .ok (.aload_n 0, 1) := by decide +kernel
theorem dX0_keepsFrom_143 : decode cX0_keepsFrom 143 = .ok (.getfield 21, 3) := by decide +kernel
theorem dX0_keepsFrom_146 : decode cX0_keepsFrom 146 = .ok (.iload_n 1, 1) := by decide +kernel
theorem dX0_keepsFrom_147 : decode cX0_keepsFrom 147 = .ok (.aload_n 0, 1) := by decide +kernel
theorem dX0_keepsFrom_148 : decode cX0_keepsFrom 148 = .ok (.iload_n 3, 1) := by decide +kernel
theorem dX0_keepsFrom_149 : decode cX0_keepsFrom 149 = .ok (.invokevirtual 110, 3) := by decide +kernel
theorem kwV_X0_bookChosen : MwV RX0 yX0_bookChosen cX0_bookChosen 2 (some .int) 1 := ⟨List.mem_filter.mpr ⟨List.mem_of_getElem? (i := 1272) (by decide +kernel), by decide +kernel⟩, List.mem_filter.mpr ⟨List.mem_of_getElem? (i := 1271) (by decide +kernel), by decide +kernel⟩, List.mem_filter.mpr ⟨List.mem_of_getElem? (i := 42) (by decide +kernel), by decide +kernel⟩, List.mem_filter.mpr ⟨List.mem_of_getElem? (i := 136) (by decide +kernel), by decide +kernel⟩, by decide +kernel⟩
theorem kM_RX0_110 : Cond.methodLink RX0 110 yX0_bookChosen ∈ gT := List.mem_filter.mpr ⟨List.mem_of_getElem? (i := 1269) (by decide +kernel), by decide +kernel⟩
theorem dX0_keepsFrom_152 : decode cX0_keepsFrom 152 = .ok (.iastore, 1) := by decide +kernel
theorem dX0_keepsFrom_153 : decode cX0_keepsFrom 153 = .ok (.iconst 1, 1) := by decide +kernel
theorem dX0_keepsFrom_154 : decode cX0_keepsFrom 154 = .ok (.ireturn, 1) := by decide +kernel
theorem dX0_fewestAskings_0 : decode cX0_fewestAskings 0 = .ok (.iconst 0, 1) := by decide +kernel
theorem dX0_fewestAskings_1 : decode cX0_fewestAskings 1 = .ok (.istore_n 1, 1) := by decide +kernel
theorem dX0_fewestAskings_2 : decode cX0_fewestAskings 2 = .ok (.iload_n 1, 1) := by decide +kernel
theorem dX0_fewestAskings_3 : decode cX0_fewestAskings 3 = .ok (.aload_n 0, 1) := by decide +kernel
theorem dX0_fewestAskings_4 : decode cX0_fewestAskings 4 = .ok (.getfield 58, 3) := by decide +kernel
theorem dX0_fewestAskings_7 : decode cX0_fewestAskings 7 = .ok (.if_icmp .gt 28, 3) := by decide +kernel
theorem dX0_fewestAskings_10 : decode cX0_fewestAskings 10 = .ok (.aload_n 0, 1) := by decide +kernel
theorem dX0_fewestAskings_11 : decode cX0_fewestAskings 11 = .ok (.iconst 0, 1) := by decide +kernel
theorem dX0_fewestAskings_12 : decode cX0_fewestAskings 12 = .ok (.iload_n 1, 1) := by decide +kernel
theorem dX0_fewestAskings_13 : decode cX0_fewestAskings 13 = .ok (.invokevirtual 95, 3) := by decide +kernel
theorem dX0_fewestAskings_16 : decode cX0_fewestAskings 16 = .ok (.ifCond .eq 13, 3) := by decide +kernel
theorem dX0_fewestAskings_19 : decode cX0_fewestAskings 19 = .ok (.aload_n 0, 1) := by decide +kernel
theorem dX0_fewestAskings_20 : decode cX0_fewestAskings 20 = .ok (.aload_n 0, 1) := by decide +kernel
theorem dX0_fewestAskings_21 : decode cX0_fewestAskings 21 = .ok (.getfield 58, 3) := by decide +kernel
theorem dX0_fewestAskings_24 : decode cX0_fewestAskings 24 = .ok (.putfield 9, 3) := by decide +kernel
theorem dX0_fewestAskings_27 : decode cX0_fewestAskings 27 = .ok (.iload_n 1, 1) := by decide +kernel
theorem dX0_fewestAskings_28 : decode cX0_fewestAskings 28 = .ok (.ireturn, 1) := by decide +kernel
theorem dX10_keep_0 : decode cX10_keep 0 = .ok (.iload_n 1, 1) := by decide +kernel
theorem dX10_keep_1 : decode cX10_keep 1 = .ok (.iconst 1, 1) := by decide +kernel
theorem dX10_keep_2 : decode cX10_keep 2 = .ok (.if_icmp .lt 20, 3) := by decide +kernel
theorem dX10_keep_22 : decode cX10_keep 22 = .ok (.iconst (-1), 1) := by decide +kernel
theorem dX10_keep_23 : decode cX10_keep 23 = .ok (.ireturn, 1) := by decide +kernel
theorem dX10_keep_5 : decode cX10_keep 5 = .ok (.iload_n 1, 1) := by decide +kernel
theorem dX10_keep_6 : decode cX10_keep 6 = .ok (.bipush 8, 2) := by decide +kernel
theorem dX10_keep_8 : decode cX10_keep 8 = .ok (.if_icmp .gt 14, 3) := by decide +kernel
set_option maxRecDepth 10000 in
theorem sw_1_8 (x : Int32) : x = 1 ∨ x = 2 ∨ x = 3 ∨ x = 4 ∨ x = 5 ∨ x = 6 ∨ x = 7 ∨ x = 8 ∨ (x.toInt < 1 ∨ 8 < x.toInt) := by
  by_cases h0 : x.toInt < 1 ∨ 8 < x.toInt
  · simp only [h0, or_true]
  · obtain ⟨j, h1, h2, rfl⟩ := nat_of (x := x) (a := 1) (b := 8) (by omega) (by omega) (by decide) (by decide)
    have h3 : j < 9 := by omega
    have h4 : 1 ≤ j := by omega
    clear h0 h1 h2
    revert j; decide +kernel
theorem dX10_keep_11 : decode cX10_keep 11 = .ok (.aload_n 0, 1) := by decide +kernel
theorem dX10_keep_12 : decode cX10_keep 12 = .ok (.getfield 26, 3) := by decide +kernel
theorem dX10_keep_15 : decode cX10_keep 15 = .ok (.iload_n 1, 1) := by decide +kernel
theorem dX10_keep_16 : decode cX10_keep 16 = .ok (.invokevirtual 319, 3) := by decide +kernel
theorem kwV_X8_hasDays : MwV RX8 yX8_hasDays cX8_hasDays 2 (some .boolean) 1 := ⟨List.mem_filter.mpr ⟨List.mem_of_getElem? (i := 1023) (by decide +kernel), by decide +kernel⟩, List.mem_filter.mpr ⟨List.mem_of_getElem? (i := 1021) (by decide +kernel), by decide +kernel⟩, List.mem_filter.mpr ⟨List.mem_of_getElem? (i := 1022) (by decide +kernel), by decide +kernel⟩, List.mem_filter.mpr ⟨List.mem_of_getElem? (i := 131) (by decide +kernel), by decide +kernel⟩, by decide +kernel⟩
theorem kM_RX10_319 : Cond.methodLink RX10 319 yX8_hasDays ∈ gT := List.mem_filter.mpr ⟨List.mem_of_getElem? (i := 1203) (by decide +kernel), by decide +kernel⟩
theorem dX10_keep_19 : decode cX10_keep 19 = .ok (.ifCond .ne 5, 3) := by decide +kernel
theorem dX10_keep_24 : decode cX10_keep 24 = .ok (.aload_n 0, 1) := by decide +kernel
theorem dX10_keep_25 : decode cX10_keep 25 = .ok (.getfield 73, 3) := by decide +kernel
theorem dX10_keep_28 : decode cX10_keep 28 = .ok (.aload_n 0, 1) := by decide +kernel
theorem dX10_keep_29 : decode cX10_keep 29 = .ok (.getfield 19, 3) := by decide +kernel
theorem dX10_keep_32 : decode cX10_keep 32 = .ok (.aload_n 0, 1) := by decide +kernel
theorem dX10_keep_33 : decode cX10_keep 33 = .ok (.getfield 26, 3) := by decide +kernel
theorem dX10_keep_36 : decode cX10_keep 36 = .ok (.iload_n 1, 1) := by decide +kernel
theorem dX10_keep_37 : decode cX10_keep 37 = .ok (.invokevirtual 335, 3) := by decide +kernel
theorem kwV_X0_look : MwV RX0 yX0_look cX0_look 4 none 3 := ⟨List.mem_filter.mpr ⟨List.mem_of_getElem? (i := 1236) (by decide +kernel), by decide +kernel⟩, List.mem_filter.mpr ⟨List.mem_of_getElem? (i := 1234) (by decide +kernel), by decide +kernel⟩, List.mem_filter.mpr ⟨List.mem_of_getElem? (i := 1235) (by decide +kernel), by decide +kernel⟩, List.mem_filter.mpr ⟨List.mem_of_getElem? (i := 136) (by decide +kernel), by decide +kernel⟩, by decide +kernel⟩
theorem kM_RX10_335 : Cond.methodLink RX10 335 yX0_look ∈ gT := List.mem_filter.mpr ⟨List.mem_of_getElem? (i := 1233) (by decide +kernel), by decide +kernel⟩
theorem dX10_keep_40 : decode cX10_keep 40 = .ok (.aload_n 0, 1) := by decide +kernel
theorem dX10_keep_41 : decode cX10_keep 41 = .ok (.getfield 73, 3) := by decide +kernel
theorem dX10_keep_44 : decode cX10_keep 44 = .ok (.invokevirtual 339, 3) := by decide +kernel
theorem kwV_X0_fewestAskings : MwV RX0 yX0_fewestAskings cX0_fewestAskings 2 (some .int) 0 := ⟨List.mem_filter.mpr ⟨List.mem_of_getElem? (i := 1243) (by decide +kernel), by decide +kernel⟩, List.mem_filter.mpr ⟨List.mem_of_getElem? (i := 1241) (by decide +kernel), by decide +kernel⟩, List.mem_filter.mpr ⟨List.mem_of_getElem? (i := 1242) (by decide +kernel), by decide +kernel⟩, List.mem_filter.mpr ⟨List.mem_of_getElem? (i := 136) (by decide +kernel), by decide +kernel⟩, by decide +kernel⟩
theorem kM_RX10_339 : Cond.methodLink RX10 339 yX0_fewestAskings ∈ gT := List.mem_filter.mpr ⟨List.mem_of_getElem? (i := 1240) (by decide +kernel), by decide +kernel⟩
theorem dX10_keep_47 : decode cX10_keep 47 = .ok (.ireturn, 1) := by decide +kernel
theorem dX0_lawsFrom_0 : decode cX0_lawsFrom 0 = .ok (.iload_n 1, 1) := by decide +kernel
theorem dX0_lawsFrom_1 : decode cX0_lawsFrom 1 = .ok (.aload_n 0, 1) := by decide +kernel
theorem dX0_lawsFrom_2 : decode cX0_lawsFrom 2 = .ok (.getfield 58, 3) := by decide +kernel
theorem dX0_lawsFrom_5 : decode cX0_lawsFrom 5 = .ok (.if_icmp .ge 8, 3) := by decide +kernel
theorem dX0_lawsFrom_13 : decode cX0_lawsFrom 13 = .ok (.aload_n 0, 1) := by decide +kernel
theorem dX0_lawsFrom_14 : decode cX0_lawsFrom 14 = .ok (.iload_n 1, 1) := by decide +kernel
theorem dX0_lawsFrom_15 : decode cX0_lawsFrom 15 = .ok (.invokevirtual 139, 3) := by decide +kernel
theorem kwV_X0_lawsBehind : MwV RX0 yX0_lawsBehind cX0_lawsBehind 4 (some .int) 1 := ⟨List.mem_filter.mpr ⟨List.mem_of_getElem? (i := 1368) (by decide +kernel), by decide +kernel⟩, List.mem_filter.mpr ⟨List.mem_of_getElem? (i := 1367) (by decide +kernel), by decide +kernel⟩, List.mem_filter.mpr ⟨List.mem_of_getElem? (i := 52) (by decide +kernel), by decide +kernel⟩, List.mem_filter.mpr ⟨List.mem_of_getElem? (i := 136) (by decide +kernel), by decide +kernel⟩, by decide +kernel⟩
theorem kM_RX0_139 : Cond.methodLink RX0 139 yX0_lawsBehind ∈ gT := List.mem_filter.mpr ⟨List.mem_of_getElem? (i := 1365) (by decide +kernel), by decide +kernel⟩
theorem dX0_lawsFrom_18 : decode cX0_lawsFrom 18 = .ok (.ireturn, 1) := by decide +kernel
theorem dX0_lawsFrom_8 : decode cX0_lawsFrom 8 = .ok (.iload_n 1, 1) := by decide +kernel
theorem dX0_lawsFrom_9 : decode cX0_lawsFrom 9 = .ok (.iconst 3, 1) := by decide +kernel
theorem dX0_lawsFrom_10 : decode cX0_lawsFrom 10 = .ok (.if_icmp .lt 9, 3) := by decide +kernel
theorem dX0_lawsFrom_19 : decode cX0_lawsFrom 19 = .ok (.aload_n 0, 1) := by decide +kernel
theorem dX0_lawsFrom_20 : decode cX0_lawsFrom 20 = .ok (.iload_n 1, 1) := by decide +kernel
theorem dX0_lawsFrom_21 : decode cX0_lawsFrom 21 = .ok (.invokevirtual 102, 3) := by decide +kernel
theorem dX0_lawsFrom_24 : decode cX0_lawsFrom 24 = .ok (.iload_n 1, 1) := by decide +kernel
theorem dX0_lawsFrom_25 : decode cX0_lawsFrom 25 = .ok (.iconst 2, 1) := by decide +kernel
theorem dX0_lawsFrom_26 : decode cX0_lawsFrom 26 = .ok (.irem, 1) := by decide +kernel
theorem dX0_lawsFrom_27 : decode cX0_lawsFrom 27 = .ok (.ifCond .ne 7, 3) := by decide +kernel
theorem dX0_lawsFrom_30 : decode cX0_lawsFrom 30 = .ok (.iconst 1, 1) := by decide +kernel
theorem dX0_lawsFrom_31 : decode cX0_lawsFrom 31 = .ok (.goto 4, 3) := by decide +kernel
theorem dX0_lawsFrom_35 : decode cX0_lawsFrom 35 = .ok (.istore_n 2, 1) := by decide +kernel
theorem dX0_lawsFrom_36 : decode cX0_lawsFrom 36 = .ok (.iconst (-1), 1) := by decide +kernel
theorem dX0_lawsFrom_37 : decode cX0_lawsFrom 37 = .ok (.istore_n 3, 1) := by decide +kernel
theorem dX0_lawsFrom_38 : decode cX0_lawsFrom 38 = .ok (.iconst 0, 1) := by decide +kernel
theorem dX0_lawsFrom_39 : decode cX0_lawsFrom 39 = .ok (.istore 4, 2) := by decide +kernel
theorem dX0_lawsFrom_41 : decode cX0_lawsFrom 41 = .ok (.iload 4, 2) := by decide +kernel
theorem dX0_lawsFrom_43 : decode cX0_lawsFrom 43 = .ok (.aload_n 0, 1) := by decide +kernel
theorem dX0_lawsFrom_44 : decode cX0_lawsFrom 44 = .ok (.getfield 43, 3) := by decide +kernel
theorem dX0_lawsFrom_47 : decode cX0_lawsFrom 47 = .ok (.if_icmp .gt 104, 3) := by decide +kernel
theorem dX0_lawsFrom_50 : decode cX0_lawsFrom 50 = .ok (.aload_n 0, 1) := by decide +kernel
theorem dX0_lawsFrom_51 : decode cX0_lawsFrom 51 = .ok (.iload_n 1, 1) := by decide +kernel
theorem dX0_lawsFrom_52 : decode cX0_lawsFrom 52 = .ok (.iload 4, 2) := by decide +kernel
theorem dX0_lawsFrom_54 : decode cX0_lawsFrom 54 = .ok (.invokevirtual 133, 3) := by decide +kernel
theorem kwV_X0_mayChoose : MwV RX0 yX0_mayChoose cX0_mayChoose 3 (some .boolean) 2 := ⟨List.mem_filter.mpr ⟨List.mem_of_getElem? (i := 1304) (by decide +kernel), by decide +kernel⟩, List.mem_filter.mpr ⟨List.mem_of_getElem? (i := 1303) (by decide +kernel), by decide +kernel⟩, List.mem_filter.mpr ⟨List.mem_of_getElem? (i := 46) (by decide +kernel), by decide +kernel⟩, List.mem_filter.mpr ⟨List.mem_of_getElem? (i := 136) (by decide +kernel), by decide +kernel⟩, by decide +kernel⟩
theorem kM_RX0_133 : Cond.methodLink RX0 133 yX0_mayChoose ∈ gT := List.mem_filter.mpr ⟨List.mem_of_getElem? (i := 1301) (by decide +kernel), by decide +kernel⟩
theorem dX0_lawsFrom_57 : decode cX0_lawsFrom 57 = .ok (.ifCond .eq 88, 3) := by decide +kernel
theorem dX0_lawsFrom_60 : decode cX0_lawsFrom 60 = .ok (.iload_n 1, 1) := by decide +kernel
theorem dX0_lawsFrom_61 : decode cX0_lawsFrom 61 = .ok (.iconst 1, 1) := by decide +kernel
theorem dX0_lawsFrom_62 : decode cX0_lawsFrom 62 = .ok (.iadd, 1) := by decide +kernel
theorem dX0_lawsFrom_63 : decode cX0_lawsFrom 63 = .ok (.bipush 9, 2) := by decide +kernel
theorem dX0_lawsFrom_65 : decode cX0_lawsFrom 65 = .ok (.imul, 1) := by decide +kernel
theorem dX0_lawsFrom_66 : decode cX0_lawsFrom 66 = .ok (.iload 4, 2) := by decide +kernel
theorem dX0_lawsFrom_68 : decode cX0_lawsFrom 68 = .ok (.iadd, 1) := by decide +kernel
theorem dX0_lawsFrom_69 : decode cX0_lawsFrom 69 = .ok (.istore 5, 2) := by decide +kernel
theorem dX0_lawsFrom_71 : decode cX0_lawsFrom 71 = .ok (.aload_n 0, 1) := by decide +kernel
theorem dX0_lawsFrom_72 : decode cX0_lawsFrom 72 = .ok (.getfield 40, 3) := by decide +kernel
theorem dX0_lawsFrom_75 : decode cX0_lawsFrom 75 = .ok (.iload 5, 2) := by decide +kernel
theorem dX0_lawsFrom_77 : decode cX0_lawsFrom 77 = .ok (.iaload, 1) := by decide +kernel
theorem dX0_lawsFrom_78 : decode cX0_lawsFrom 78 = .ok (.istore 6, 2) := by decide +kernel
theorem dX0_lawsFrom_80 : decode cX0_lawsFrom 80 = .ok (.aload_n 0, 1) := by decide +kernel
theorem dX0_lawsFrom_81 : decode cX0_lawsFrom 81 = .ok (.getfield 40, 3) := by decide +kernel
theorem dX0_lawsFrom_84 : decode cX0_lawsFrom 84 = .ok (.iload 5, 2) := by decide +kernel
theorem dX0_lawsFrom_86 : decode cX0_lawsFrom 86 = .ok (.iconst 0, 1) := by decide +kernel
theorem dX0_lawsFrom_87 : decode cX0_lawsFrom 87 = .ok (.iastore, 1) := by decide +kernel
theorem dX0_lawsFrom_88 : decode cX0_lawsFrom 88 = .ok (.aload_n 0, 1) := by decide +kernel
theorem dX0_lawsFrom_89 : decode cX0_lawsFrom 89 = .ok (.iload_n 1, 1) := by decide +kernel
theorem dX0_lawsFrom_90 : decode cX0_lawsFrom 90 = .ok (.iconst 1, 1) := by decide +kernel
theorem dX0_lawsFrom_91 : decode cX0_lawsFrom 91 = .ok (.iadd, 1) := by decide +kernel
theorem dX0_lawsFrom_92 : decode cX0_lawsFrom 92 = .ok (.invokevirtual 136, 3) := by decide +kernel
theorem kwV_X0_lawsFrom : MwV RX0 yX0_lawsFrom cX0_lawsFrom 8 (some .int) 1 := ⟨List.mem_filter.mpr ⟨List.mem_of_getElem? (i := 1364) (by decide +kernel), by decide +kernel⟩, List.mem_filter.mpr ⟨List.mem_of_getElem? (i := 1363) (by decide +kernel), by decide +kernel⟩, List.mem_filter.mpr ⟨List.mem_of_getElem? (i := 51) (by decide +kernel), by decide +kernel⟩, List.mem_filter.mpr ⟨List.mem_of_getElem? (i := 136) (by decide +kernel), by decide +kernel⟩, by decide +kernel⟩
theorem kM_RX0_136 : Cond.methodLink RX0 136 yX0_lawsFrom ∈ gT := List.mem_filter.mpr ⟨List.mem_of_getElem? (i := 1361) (by decide +kernel), by decide +kernel⟩
theorem dX0_lawsFrom_95 : decode cX0_lawsFrom 95 = .ok (.istore 7, 2) := by decide +kernel
theorem dX0_lawsFrom_97 : decode cX0_lawsFrom 97 = .ok (.aload_n 0, 1) := by decide +kernel
theorem dX0_lawsFrom_98 : decode cX0_lawsFrom 98 = .ok (.getfield 40, 3) := by decide +kernel
theorem dX0_lawsFrom_101 : decode cX0_lawsFrom 101 = .ok (.iload 5, 2) := by decide +kernel
theorem dX0_lawsFrom_103 : decode cX0_lawsFrom 103 = .ok (.iload 6, 2) := by decide +kernel
theorem dX0_lawsFrom_105 : decode cX0_lawsFrom 105 = .ok (.iastore, 1) := by decide +kernel
theorem dX0_lawsFrom_106 : decode cX0_lawsFrom 106 = .ok (.iload_n 3, 1) := by decide +kernel
theorem dX0_lawsFrom_107 : decode cX0_lawsFrom 107 = .ok (.iconst (-1), 1) := by decide +kernel
theorem dX0_lawsFrom_108 : decode cX0_lawsFrom 108 = .ok (.if_icmp .eq 22, 3) := by decide +kernel
theorem dX0_lawsFrom_130 : decode cX0_lawsFrom 130 = .ok (.iload 7, 2) := by decide +kernel
theorem dX0_lawsFrom_132 : decode cX0_lawsFrom 132 = .ok (.istore_n 3, 1) := by decide +kernel
theorem dX0_lawsFrom_133 : decode cX0_lawsFrom 133 = .ok (.aload_n 0, 1) := by decide +kernel
theorem dX0_lawsFrom_134 : decode cX0_lawsFrom 134 = .ok (.getfield 28, 3) := by decide +kernel
theorem dX0_lawsFrom_137 : decode cX0_lawsFrom 137 = .ok (.iload_n 1, 1) := by decide +kernel
theorem dX0_lawsFrom_138 : decode cX0_lawsFrom 138 = .ok (.aload_n 0, 1) := by decide +kernel
theorem dX0_lawsFrom_139 : decode cX0_lawsFrom 139 = .ok (.iload 4, 2) := by decide +kernel
theorem dX0_lawsFrom_141 : decode cX0_lawsFrom 141 = .ok (.invokevirtual 110, 3) := by decide +kernel
theorem dX0_lawsFrom_144 : decode cX0_lawsFrom 144 = .ok (.iastore, 1) := by decide +kernel
theorem dX0_lawsFrom_145 : decode cX0_lawsFrom 145 = .ok (.iinc 4 1, 3) := by decide +kernel
theorem dX0_lawsFrom_148 : decode cX0_lawsFrom 148 = .ok (.goto (-107), 3) := by decide +kernel
theorem dX0_lawsFrom_151 : decode cX0_lawsFrom 151 = .ok (.iload_n 3, 1) := by decide +kernel
theorem dX0_lawsFrom_152 : decode cX0_lawsFrom 152 = .ok (.ireturn, 1) := by decide +kernel
theorem dX0_playTurns_0 : decode cX0_playTurns 0 = .ok (.aload_n 0, 1) := by decide +kernel
theorem dX0_playTurns_1 : decode cX0_playTurns 1 = .ok (.iconst 0, 1) := by decide +kernel
theorem dX0_playTurns_2 : decode cX0_playTurns 2 = .ok (.invokevirtual 136, 3) := by decide +kernel
theorem dX0_playTurns_5 : decode cX0_playTurns 5 = .ok (.istore_n 1, 1) := by decide +kernel
theorem dX0_playTurns_6 : decode cX0_playTurns 6 = .ok (.aload_n 0, 1) := by decide +kernel
theorem dX0_playTurns_7 : decode cX0_playTurns 7 = .ok (.aload_n 0, 1) := by decide +kernel
theorem dX0_playTurns_8 : decode cX0_playTurns 8 = .ok (.getfield 28, 3) := by decide +kernel
theorem dX0_playTurns_11 : decode cX0_playTurns 11 = .ok (.iconst 0, 1) := by decide +kernel
theorem dX0_playTurns_12 : decode cX0_playTurns 12 = .ok (.iaload, 1) := by decide +kernel
theorem dX0_playTurns_13 : decode cX0_playTurns 13 = .ok (.putfield 18, 3) := by decide +kernel
theorem dX0_playTurns_16 : decode cX0_playTurns 16 = .ok (.iload_n 1, 1) := by decide +kernel
theorem dX0_playTurns_17 : decode cX0_playTurns 17 = .ok (.ireturn, 1) := by decide +kernel
theorem dX0_lawsFrom_34 : decode cX0_lawsFrom 34 = .ok (.iconst 0, 1) := by decide +kernel
theorem dX10_turns_0 : decode cX10_turns 0 = .ok (.iload_n 1, 1) := by decide +kernel
theorem dX10_turns_1 : decode cX10_turns 1 = .ok (.iconst 1, 1) := by decide +kernel
theorem dX10_turns_2 : decode cX10_turns 2 = .ok (.if_icmp .lt 19, 3) := by decide +kernel
theorem dX10_turns_21 : decode cX10_turns 21 = .ok (.iconst (-1), 1) := by decide +kernel
theorem dX10_turns_22 : decode cX10_turns 22 = .ok (.ireturn, 1) := by decide +kernel
theorem dX10_turns_5 : decode cX10_turns 5 = .ok (.iload_n 1, 1) := by decide +kernel
theorem dX10_turns_6 : decode cX10_turns 6 = .ok (.iconst 3, 1) := by decide +kernel
theorem dX10_turns_7 : decode cX10_turns 7 = .ok (.if_icmp .gt 14, 3) := by decide +kernel
theorem dX10_turns_10 : decode cX10_turns 10 = .ok (.aload_n 0, 1) := by decide +kernel
theorem dX10_turns_11 : decode cX10_turns 11 = .ok (.getfield 26, 3) := by decide +kernel
theorem dX10_turns_14 : decode cX10_turns 14 = .ok (.iload_n 1, 1) := by decide +kernel
theorem dX10_turns_15 : decode cX10_turns 15 = .ok (.invokevirtual 319, 3) := by decide +kernel
theorem dX10_turns_18 : decode cX10_turns 18 = .ok (.ifCond .ne 5, 3) := by decide +kernel
theorem dX10_turns_23 : decode cX10_turns 23 = .ok (.aload_n 0, 1) := by decide +kernel
theorem dX10_turns_24 : decode cX10_turns 24 = .ok (.getfield 73, 3) := by decide +kernel
theorem dX10_turns_27 : decode cX10_turns 27 = .ok (.aload_n 0, 1) := by decide +kernel
theorem dX10_turns_28 : decode cX10_turns 28 = .ok (.getfield 19, 3) := by decide +kernel
theorem dX10_turns_31 : decode cX10_turns 31 = .ok (.aload_n 0, 1) := by decide +kernel
theorem dX10_turns_32 : decode cX10_turns 32 = .ok (.getfield 26, 3) := by decide +kernel
theorem dX10_turns_35 : decode cX10_turns 35 = .ok (.iload_n 1, 1) := by decide +kernel
theorem dX10_turns_36 : decode cX10_turns 36 = .ok (.invokevirtual 335, 3) := by decide +kernel
theorem dX10_turns_39 : decode cX10_turns 39 = .ok (.aload_n 0, 1) := by decide +kernel
theorem dX10_turns_40 : decode cX10_turns 40 = .ok (.getfield 73, 3) := by decide +kernel
theorem dX10_turns_43 : decode cX10_turns 43 = .ok (.invokevirtual 373, 3) := by decide +kernel
theorem kwV_X0_playTurns : MwV RX0 yX0_playTurns cX0_playTurns 2 (some .int) 0 := ⟨List.mem_filter.mpr ⟨List.mem_of_getElem? (i := 1360) (by decide +kernel), by decide +kernel⟩, List.mem_filter.mpr ⟨List.mem_of_getElem? (i := 1358) (by decide +kernel), by decide +kernel⟩, List.mem_filter.mpr ⟨List.mem_of_getElem? (i := 1359) (by decide +kernel), by decide +kernel⟩, List.mem_filter.mpr ⟨List.mem_of_getElem? (i := 136) (by decide +kernel), by decide +kernel⟩, by decide +kernel⟩
theorem kM_RX10_373 : Cond.methodLink RX10 373 yX0_playTurns ∈ gT := List.mem_filter.mpr ⟨List.mem_of_getElem? (i := 1357) (by decide +kernel), by decide +kernel⟩
theorem dX10_turns_46 : decode cX10_turns 46 = .ok (.ireturn, 1) := by decide +kernel
set_option maxHeartbeats 4000000 in
set_option maxRecDepth 100000 in
theorem c_hasDays_1 (l : Launch) (D : va_G) (cy : Nat → ClassId) (h : Nat) (h0 : Nat) (h1 : Nat) (h2 : Nat) (h3 : Nat) (h4 : Nat) (h5 : Nat) (sz : Nat)  : MI l yX8_hasDays cX8_hasDays 2 (some .boolean) (Rm 0 0 0 0) D cy [.ref h, .int 1] sz [(h, .inr (8, [.ref h0, .ref h1, .ref h2, .ref h3, .ref h4, .int 0, .int 0, .ref h5]))] (fun (r : Int32) (u : Unit) => r = 1) (fun u : Unit => [(h, .inr (8, [.ref h0, .ref h1, .ref h2, .ref h3, .ref h4, .int 0, .int 0, .ref h5]))]) := by
  refine MI.enter (by decide) (Nat.le_of_ble_eq_true rfl) ?_
  intro p e s m below meth c ls A hsz hAe C hP hD hS hl
  have C : Cx p s m _ meth c cX8_hasDays 2 (some .boolean) RX8 "hasDays" D cy A := C
  have hx := C.1
  have hb := C.2.1
  have hl : lv_has ls 2 [(0, .ref h), (1, .int 1)] := hl
  refine lv_iload_n hx hb dX8_hasDays_0 rfl (lv_at hl 1 rfl) ?_
  refine lv_sipush (v := 400) hx hb dX8_hasDays_1 (by decide) ?_
  refine lv_aload_n hx hb dX8_hasDays_4 rfl (lv_at hl 0 rfl) ?_
  refine q_get (v := .int 0) C hP 0 6 rfl rfl inX8 (by decide) kF_RX8_31 rfl rfl dX8_hasDays_5 ?_
  refine lv_isub hx hb dX8_hasDays_8 ?_
  refine q_val (v := 400) (by decide) ?_
  refine lv_icmp_gt (tgt := 16) hx hb dX8_hasDays_9 (by decide) (fun c_0 => absurd c_0 (by decide)) (fun _ => ?_)
  refine lv_iconst (v := 1) hx hb dX8_hasDays_12 (by decide) ?_
  refine lv_goto (tgt := 17) hx hb dX8_hasDays_13 (by decide) ?_
  exact q_iret (rm := (Rm 0 0 0 0)) C hS () rfl rfl (q_subP hP [0] rfl) (hD.sub [0] (by decide) rfl) (Nat.le_of_ble_eq_true rfl) (Nat.le_of_ble_eq_true rfl) dX8_hasDays_17
set_option maxHeartbeats 4000000 in
set_option maxRecDepth 100000 in
theorem c_hasDays_2 (l : Launch) (D : va_G) (cy : Nat → ClassId) (h : Nat) (h0 : Nat) (h1 : Nat) (h2 : Nat) (h3 : Nat) (h4 : Nat) (h5 : Nat) (sz : Nat)  : MI l yX8_hasDays cX8_hasDays 2 (some .boolean) (Rm 0 0 0 0) D cy [.ref h, .int 2] sz [(h, .inr (8, [.ref h0, .ref h1, .ref h2, .ref h3, .ref h4, .int 0, .int 0, .ref h5]))] (fun (r : Int32) (u : Unit) => r = 1) (fun u : Unit => [(h, .inr (8, [.ref h0, .ref h1, .ref h2, .ref h3, .ref h4, .int 0, .int 0, .ref h5]))]) := by
  refine MI.enter (by decide) (Nat.le_of_ble_eq_true rfl) ?_
  intro p e s m below meth c ls A hsz hAe C hP hD hS hl
  have C : Cx p s m _ meth c cX8_hasDays 2 (some .boolean) RX8 "hasDays" D cy A := C
  have hx := C.1
  have hb := C.2.1
  have hl : lv_has ls 2 [(0, .ref h), (1, .int 2)] := hl
  refine lv_iload_n hx hb dX8_hasDays_0 rfl (lv_at hl 1 rfl) ?_
  refine lv_sipush (v := 400) hx hb dX8_hasDays_1 (by decide) ?_
  refine lv_aload_n hx hb dX8_hasDays_4 rfl (lv_at hl 0 rfl) ?_
  refine q_get (v := .int 0) C hP 0 6 rfl rfl inX8 (by decide) kF_RX8_31 rfl rfl dX8_hasDays_5 ?_
  refine lv_isub hx hb dX8_hasDays_8 ?_
  refine q_val (v := 400) (by decide) ?_
  refine lv_icmp_gt (tgt := 16) hx hb dX8_hasDays_9 (by decide) (fun c_0 => absurd c_0 (by decide)) (fun _ => ?_)
  refine lv_iconst (v := 1) hx hb dX8_hasDays_12 (by decide) ?_
  refine lv_goto (tgt := 17) hx hb dX8_hasDays_13 (by decide) ?_
  exact q_iret (rm := (Rm 0 0 0 0)) C hS () rfl rfl (q_subP hP [0] rfl) (hD.sub [0] (by decide) rfl) (Nat.le_of_ble_eq_true rfl) (Nat.le_of_ble_eq_true rfl) dX8_hasDays_17
set_option maxHeartbeats 4000000 in
set_option maxRecDepth 100000 in
theorem c_hasDays_3 (l : Launch) (D : va_G) (cy : Nat → ClassId) (h : Nat) (h0 : Nat) (h1 : Nat) (h2 : Nat) (h3 : Nat) (h4 : Nat) (h5 : Nat) (sz : Nat)  : MI l yX8_hasDays cX8_hasDays 2 (some .boolean) (Rm 0 0 0 0) D cy [.ref h, .int 3] sz [(h, .inr (8, [.ref h0, .ref h1, .ref h2, .ref h3, .ref h4, .int 0, .int 0, .ref h5]))] (fun (r : Int32) (u : Unit) => r = 1) (fun u : Unit => [(h, .inr (8, [.ref h0, .ref h1, .ref h2, .ref h3, .ref h4, .int 0, .int 0, .ref h5]))]) := by
  refine MI.enter (by decide) (Nat.le_of_ble_eq_true rfl) ?_
  intro p e s m below meth c ls A hsz hAe C hP hD hS hl
  have C : Cx p s m _ meth c cX8_hasDays 2 (some .boolean) RX8 "hasDays" D cy A := C
  have hx := C.1
  have hb := C.2.1
  have hl : lv_has ls 2 [(0, .ref h), (1, .int 3)] := hl
  refine lv_iload_n hx hb dX8_hasDays_0 rfl (lv_at hl 1 rfl) ?_
  refine lv_sipush (v := 400) hx hb dX8_hasDays_1 (by decide) ?_
  refine lv_aload_n hx hb dX8_hasDays_4 rfl (lv_at hl 0 rfl) ?_
  refine q_get (v := .int 0) C hP 0 6 rfl rfl inX8 (by decide) kF_RX8_31 rfl rfl dX8_hasDays_5 ?_
  refine lv_isub hx hb dX8_hasDays_8 ?_
  refine q_val (v := 400) (by decide) ?_
  refine lv_icmp_gt (tgt := 16) hx hb dX8_hasDays_9 (by decide) (fun c_0 => absurd c_0 (by decide)) (fun _ => ?_)
  refine lv_iconst (v := 1) hx hb dX8_hasDays_12 (by decide) ?_
  refine lv_goto (tgt := 17) hx hb dX8_hasDays_13 (by decide) ?_
  exact q_iret (rm := (Rm 0 0 0 0)) C hS () rfl rfl (q_subP hP [0] rfl) (hD.sub [0] (by decide) rfl) (Nat.le_of_ble_eq_true rfl) (Nat.le_of_ble_eq_true rfl) dX8_hasDays_17
set_option maxHeartbeats 4000000 in
set_option maxRecDepth 100000 in
theorem c_hasDays_4 (l : Launch) (D : va_G) (cy : Nat → ClassId) (h : Nat) (h0 : Nat) (h1 : Nat) (h2 : Nat) (h3 : Nat) (h4 : Nat) (h5 : Nat) (sz : Nat)  : MI l yX8_hasDays cX8_hasDays 2 (some .boolean) (Rm 0 0 0 0) D cy [.ref h, .int 4] sz [(h, .inr (8, [.ref h0, .ref h1, .ref h2, .ref h3, .ref h4, .int 0, .int 0, .ref h5]))] (fun (r : Int32) (u : Unit) => r = 1) (fun u : Unit => [(h, .inr (8, [.ref h0, .ref h1, .ref h2, .ref h3, .ref h4, .int 0, .int 0, .ref h5]))]) := by
  refine MI.enter (by decide) (Nat.le_of_ble_eq_true rfl) ?_
  intro p e s m below meth c ls A hsz hAe C hP hD hS hl
  have C : Cx p s m _ meth c cX8_hasDays 2 (some .boolean) RX8 "hasDays" D cy A := C
  have hx := C.1
  have hb := C.2.1
  have hl : lv_has ls 2 [(0, .ref h), (1, .int 4)] := hl
  refine lv_iload_n hx hb dX8_hasDays_0 rfl (lv_at hl 1 rfl) ?_
  refine lv_sipush (v := 400) hx hb dX8_hasDays_1 (by decide) ?_
  refine lv_aload_n hx hb dX8_hasDays_4 rfl (lv_at hl 0 rfl) ?_
  refine q_get (v := .int 0) C hP 0 6 rfl rfl inX8 (by decide) kF_RX8_31 rfl rfl dX8_hasDays_5 ?_
  refine lv_isub hx hb dX8_hasDays_8 ?_
  refine q_val (v := 400) (by decide) ?_
  refine lv_icmp_gt (tgt := 16) hx hb dX8_hasDays_9 (by decide) (fun c_0 => absurd c_0 (by decide)) (fun _ => ?_)
  refine lv_iconst (v := 1) hx hb dX8_hasDays_12 (by decide) ?_
  refine lv_goto (tgt := 17) hx hb dX8_hasDays_13 (by decide) ?_
  exact q_iret (rm := (Rm 0 0 0 0)) C hS () rfl rfl (q_subP hP [0] rfl) (hD.sub [0] (by decide) rfl) (Nat.le_of_ble_eq_true rfl) (Nat.le_of_ble_eq_true rfl) dX8_hasDays_17
set_option maxHeartbeats 4000000 in
set_option maxRecDepth 100000 in
theorem c_hasDays_5 (l : Launch) (D : va_G) (cy : Nat → ClassId) (h : Nat) (h0 : Nat) (h1 : Nat) (h2 : Nat) (h3 : Nat) (h4 : Nat) (h5 : Nat) (sz : Nat)  : MI l yX8_hasDays cX8_hasDays 2 (some .boolean) (Rm 0 0 0 0) D cy [.ref h, .int 5] sz [(h, .inr (8, [.ref h0, .ref h1, .ref h2, .ref h3, .ref h4, .int 0, .int 0, .ref h5]))] (fun (r : Int32) (u : Unit) => r = 1) (fun u : Unit => [(h, .inr (8, [.ref h0, .ref h1, .ref h2, .ref h3, .ref h4, .int 0, .int 0, .ref h5]))]) := by
  refine MI.enter (by decide) (Nat.le_of_ble_eq_true rfl) ?_
  intro p e s m below meth c ls A hsz hAe C hP hD hS hl
  have C : Cx p s m _ meth c cX8_hasDays 2 (some .boolean) RX8 "hasDays" D cy A := C
  have hx := C.1
  have hb := C.2.1
  have hl : lv_has ls 2 [(0, .ref h), (1, .int 5)] := hl
  refine lv_iload_n hx hb dX8_hasDays_0 rfl (lv_at hl 1 rfl) ?_
  refine lv_sipush (v := 400) hx hb dX8_hasDays_1 (by decide) ?_
  refine lv_aload_n hx hb dX8_hasDays_4 rfl (lv_at hl 0 rfl) ?_
  refine q_get (v := .int 0) C hP 0 6 rfl rfl inX8 (by decide) kF_RX8_31 rfl rfl dX8_hasDays_5 ?_
  refine lv_isub hx hb dX8_hasDays_8 ?_
  refine q_val (v := 400) (by decide) ?_
  refine lv_icmp_gt (tgt := 16) hx hb dX8_hasDays_9 (by decide) (fun c_0 => absurd c_0 (by decide)) (fun _ => ?_)
  refine lv_iconst (v := 1) hx hb dX8_hasDays_12 (by decide) ?_
  refine lv_goto (tgt := 17) hx hb dX8_hasDays_13 (by decide) ?_
  exact q_iret (rm := (Rm 0 0 0 0)) C hS () rfl rfl (q_subP hP [0] rfl) (hD.sub [0] (by decide) rfl) (Nat.le_of_ble_eq_true rfl) (Nat.le_of_ble_eq_true rfl) dX8_hasDays_17
set_option maxHeartbeats 4000000 in
set_option maxRecDepth 100000 in
theorem c_hasDays_6 (l : Launch) (D : va_G) (cy : Nat → ClassId) (h : Nat) (h0 : Nat) (h1 : Nat) (h2 : Nat) (h3 : Nat) (h4 : Nat) (h5 : Nat) (sz : Nat)  : MI l yX8_hasDays cX8_hasDays 2 (some .boolean) (Rm 0 0 0 0) D cy [.ref h, .int 6] sz [(h, .inr (8, [.ref h0, .ref h1, .ref h2, .ref h3, .ref h4, .int 0, .int 0, .ref h5]))] (fun (r : Int32) (u : Unit) => r = 1) (fun u : Unit => [(h, .inr (8, [.ref h0, .ref h1, .ref h2, .ref h3, .ref h4, .int 0, .int 0, .ref h5]))]) := by
  refine MI.enter (by decide) (Nat.le_of_ble_eq_true rfl) ?_
  intro p e s m below meth c ls A hsz hAe C hP hD hS hl
  have C : Cx p s m _ meth c cX8_hasDays 2 (some .boolean) RX8 "hasDays" D cy A := C
  have hx := C.1
  have hb := C.2.1
  have hl : lv_has ls 2 [(0, .ref h), (1, .int 6)] := hl
  refine lv_iload_n hx hb dX8_hasDays_0 rfl (lv_at hl 1 rfl) ?_
  refine lv_sipush (v := 400) hx hb dX8_hasDays_1 (by decide) ?_
  refine lv_aload_n hx hb dX8_hasDays_4 rfl (lv_at hl 0 rfl) ?_
  refine q_get (v := .int 0) C hP 0 6 rfl rfl inX8 (by decide) kF_RX8_31 rfl rfl dX8_hasDays_5 ?_
  refine lv_isub hx hb dX8_hasDays_8 ?_
  refine q_val (v := 400) (by decide) ?_
  refine lv_icmp_gt (tgt := 16) hx hb dX8_hasDays_9 (by decide) (fun c_0 => absurd c_0 (by decide)) (fun _ => ?_)
  refine lv_iconst (v := 1) hx hb dX8_hasDays_12 (by decide) ?_
  refine lv_goto (tgt := 17) hx hb dX8_hasDays_13 (by decide) ?_
  exact q_iret (rm := (Rm 0 0 0 0)) C hS () rfl rfl (q_subP hP [0] rfl) (hD.sub [0] (by decide) rfl) (Nat.le_of_ble_eq_true rfl) (Nat.le_of_ble_eq_true rfl) dX8_hasDays_17
set_option maxHeartbeats 4000000 in
set_option maxRecDepth 100000 in
theorem c_hasDays_7 (l : Launch) (D : va_G) (cy : Nat → ClassId) (h : Nat) (h0 : Nat) (h1 : Nat) (h2 : Nat) (h3 : Nat) (h4 : Nat) (h5 : Nat) (sz : Nat)  : MI l yX8_hasDays cX8_hasDays 2 (some .boolean) (Rm 0 0 0 0) D cy [.ref h, .int 7] sz [(h, .inr (8, [.ref h0, .ref h1, .ref h2, .ref h3, .ref h4, .int 0, .int 0, .ref h5]))] (fun (r : Int32) (u : Unit) => r = 1) (fun u : Unit => [(h, .inr (8, [.ref h0, .ref h1, .ref h2, .ref h3, .ref h4, .int 0, .int 0, .ref h5]))]) := by
  refine MI.enter (by decide) (Nat.le_of_ble_eq_true rfl) ?_
  intro p e s m below meth c ls A hsz hAe C hP hD hS hl
  have C : Cx p s m _ meth c cX8_hasDays 2 (some .boolean) RX8 "hasDays" D cy A := C
  have hx := C.1
  have hb := C.2.1
  have hl : lv_has ls 2 [(0, .ref h), (1, .int 7)] := hl
  refine lv_iload_n hx hb dX8_hasDays_0 rfl (lv_at hl 1 rfl) ?_
  refine lv_sipush (v := 400) hx hb dX8_hasDays_1 (by decide) ?_
  refine lv_aload_n hx hb dX8_hasDays_4 rfl (lv_at hl 0 rfl) ?_
  refine q_get (v := .int 0) C hP 0 6 rfl rfl inX8 (by decide) kF_RX8_31 rfl rfl dX8_hasDays_5 ?_
  refine lv_isub hx hb dX8_hasDays_8 ?_
  refine q_val (v := 400) (by decide) ?_
  refine lv_icmp_gt (tgt := 16) hx hb dX8_hasDays_9 (by decide) (fun c_0 => absurd c_0 (by decide)) (fun _ => ?_)
  refine lv_iconst (v := 1) hx hb dX8_hasDays_12 (by decide) ?_
  refine lv_goto (tgt := 17) hx hb dX8_hasDays_13 (by decide) ?_
  exact q_iret (rm := (Rm 0 0 0 0)) C hS () rfl rfl (q_subP hP [0] rfl) (hD.sub [0] (by decide) rfl) (Nat.le_of_ble_eq_true rfl) (Nat.le_of_ble_eq_true rfl) dX8_hasDays_17
set_option maxHeartbeats 4000000 in
set_option maxRecDepth 100000 in
theorem c_hasDays_8 (l : Launch) (D : va_G) (cy : Nat → ClassId) (h : Nat) (h0 : Nat) (h1 : Nat) (h2 : Nat) (h3 : Nat) (h4 : Nat) (h5 : Nat) (sz : Nat)  : MI l yX8_hasDays cX8_hasDays 2 (some .boolean) (Rm 0 0 0 0) D cy [.ref h, .int 8] sz [(h, .inr (8, [.ref h0, .ref h1, .ref h2, .ref h3, .ref h4, .int 0, .int 0, .ref h5]))] (fun (r : Int32) (u : Unit) => r = 1) (fun u : Unit => [(h, .inr (8, [.ref h0, .ref h1, .ref h2, .ref h3, .ref h4, .int 0, .int 0, .ref h5]))]) := by
  refine MI.enter (by decide) (Nat.le_of_ble_eq_true rfl) ?_
  intro p e s m below meth c ls A hsz hAe C hP hD hS hl
  have C : Cx p s m _ meth c cX8_hasDays 2 (some .boolean) RX8 "hasDays" D cy A := C
  have hx := C.1
  have hb := C.2.1
  have hl : lv_has ls 2 [(0, .ref h), (1, .int 8)] := hl
  refine lv_iload_n hx hb dX8_hasDays_0 rfl (lv_at hl 1 rfl) ?_
  refine lv_sipush (v := 400) hx hb dX8_hasDays_1 (by decide) ?_
  refine lv_aload_n hx hb dX8_hasDays_4 rfl (lv_at hl 0 rfl) ?_
  refine q_get (v := .int 0) C hP 0 6 rfl rfl inX8 (by decide) kF_RX8_31 rfl rfl dX8_hasDays_5 ?_
  refine lv_isub hx hb dX8_hasDays_8 ?_
  refine q_val (v := 400) (by decide) ?_
  refine lv_icmp_gt (tgt := 16) hx hb dX8_hasDays_9 (by decide) (fun c_0 => absurd c_0 (by decide)) (fun _ => ?_)
  refine lv_iconst (v := 1) hx hb dX8_hasDays_12 (by decide) ?_
  refine lv_goto (tgt := 17) hx hb dX8_hasDays_13 (by decide) ?_
  exact q_iret (rm := (Rm 0 0 0 0)) C hS () rfl rfl (q_subP hP [0] rfl) (hD.sub [0] (by decide) rfl) (Nat.le_of_ble_eq_true rfl) (Nat.le_of_ble_eq_true rfl) dX8_hasDays_17
set_option maxHeartbeats 4000000 in
set_option maxRecDepth 100000 in
theorem c_look_1 (l : Launch) (D : va_G) (cy : Nat → ClassId) (h : Nat) (o : Nat) (q : Nat) (h0 : Nat) (h1 : Nat) (h2 : Nat) (h3 : Nat) (h4 : Nat) (h5 : Nat) (o0 : Nat) (o1 : Nat) (o2 : Nat) (q0 : Nat) (q1 : Nat) (q2 : Nat) (q3 : Nat) (q4 : Nat) (q5 : Nat) (sz : Nat)  : MV l yX0_look cX0_look 4 (Rm 1 60 0 0) D cy [.ref h, .ref o, .ref q, .int 1] sz [(h, .inr (0, [.int 0, .int 0, .int (-1), .ref h0, .ref h1, .ref h2, .ref h3, .ref h4, .int 0, .ref h5, .int 0, .int 0, .int 1, .int 1, .int 0, .int 0])), (h5, .inl (cy 1, 81, .inl (fun _ => 0))), (o, .inr (6, [.int 4, .int 4, .int 10, .int 1, .int 3, .int 0, .int 0, .int 0, .ref o0, .ref o1, .ref o2])), (q, .inr (8, [.ref q0, .ref q1, .ref q2, .ref q3, .ref q4, .int 0, .int 0, .ref q5])), (q2, .inl (cy 1, 8, .inl (fun _ => 0)))] (fun _ : Unit => True) (fun u : Unit => [(h, .inr (0, [.int 0, .int 0, .int (-1), .ref h0, .ref h1, .ref h2, .ref h3, .ref h4, .int 0, .ref h5, .int 0, .int 0, .int 10, .int 1, .int 0, .int 1])), (h5, .inl (cy 1, 81, .inl (fun _ => 0))), (o, .inr (6, [.int 4, .int 4, .int 10, .int 1, .int 3, .int 0, .int 0, .int 0, .ref o0, .ref o1, .ref o2])), (q, .inr (8, [.ref q0, .ref q1, .ref q2, .ref q3, .ref q4, .int 0, .int 0, .ref q5])), (q2, .inl (cy 1, 8, .inl (fun _ => 0)))]) := by
  refine MV.enter (by decide) (Nat.le_of_ble_eq_true rfl) ?_
  intro p e s m below meth c ls A hsz hAe C hP hD hS hl
  have C : Cx p s m _ meth c cX0_look 4 none RX0 "look" D cy A := C
  have hx := C.1
  have hb := C.2.1
  have hl : lv_has ls 4 [(0, .ref h), (1, .ref o), (2, .ref q), (3, .int 1)] := hl
  refine lv_aload_n hx hb dX0_look_0 rfl (lv_at hl 0 rfl) ?_
  refine lv_aload_n hx hb dX0_look_1 rfl (lv_at hl 1 rfl) ?_
  refine q_get (v := .int 0) C hP 2 6 rfl rfl inX6 (by decide) kF_RX0_61 rfl rfl dX0_look_2 ?_
  refine q_put (v := .int 0) (w' := [(h, .inr (0, [.int 0, .int 0, .int (-1), .ref h0, .ref h1, .ref h2, .ref h3, .ref h4, .int 0, .ref h5, .int 0, .int 0, .int 1, .int 1, .int 0, .int 0])), (h5, .inl (cy 1, 81, .inl (fun _ => 0))), (o, .inr (6, [.int 4, .int 4, .int 10, .int 1, .int 3, .int 0, .int 0, .int 0, .ref o0, .ref o1, .ref o2])), (q, .inr (8, [.ref q0, .ref q1, .ref q2, .ref q3, .ref q4, .int 0, .int 0, .ref q5])), (q2, .inl (cy 1, 8, .inl (fun _ => 0)))]) (ty := .int) C hP hD hS 0 10 rfl rfl inX0 tyX0 tyX0_ok nmX0 (by decide) kF_RX0_43 rfl rfl rfl rfl rfl (Nat.le_of_ble_eq_true rfl) rfl dX0_look_5 (fun H locs hP hD hS => ?_)
  refine lv_aload_n hx hb dX0_look_8 rfl (lv_at hl 0 rfl) ?_
  refine lv_aload_n hx hb dX0_look_9 rfl (lv_at hl 1 rfl) ?_
  refine q_get (v := .int 0) C hP 2 7 rfl rfl inX6 (by decide) kF_RX0_64 rfl rfl dX0_look_10 ?_
  refine q_put (v := .int 0) (w' := [(h, .inr (0, [.int 0, .int 0, .int (-1), .ref h0, .ref h1, .ref h2, .ref h3, .ref h4, .int 0, .ref h5, .int 0, .int 0, .int 1, .int 1, .int 0, .int 0])), (h5, .inl (cy 1, 81, .inl (fun _ => 0))), (o, .inr (6, [.int 4, .int 4, .int 10, .int 1, .int 3, .int 0, .int 0, .int 0, .ref o0, .ref o1, .ref o2])), (q, .inr (8, [.ref q0, .ref q1, .ref q2, .ref q3, .ref q4, .int 0, .int 0, .ref q5])), (q2, .inl (cy 1, 8, .inl (fun _ => 0)))]) (ty := .int) C hP hD hS 0 11 rfl rfl inX0 tyX0 tyX0_ok nmX0 (by decide) kF_RX0_46 rfl rfl rfl rfl rfl (Nat.le_of_ble_eq_true rfl) rfl dX0_look_13 (fun H locs hP hD hS => ?_)
  refine lv_aload_n hx hb dX0_look_16 rfl (lv_at hl 0 rfl) ?_
  refine lv_aload_n hx hb dX0_look_17 rfl (lv_at hl 1 rfl) ?_
  refine q_get (v := .int 10) C hP 2 2 rfl rfl inX6 (by decide) kF_RX0_65 rfl rfl dX0_look_18 ?_
  refine q_put (v := .int 10) (w' := [(h, .inr (0, [.int 0, .int 0, .int (-1), .ref h0, .ref h1, .ref h2, .ref h3, .ref h4, .int 0, .ref h5, .int 0, .int 0, .int 10, .int 1, .int 0, .int 0])), (h5, .inl (cy 1, 81, .inl (fun _ => 0))), (o, .inr (6, [.int 4, .int 4, .int 10, .int 1, .int 3, .int 0, .int 0, .int 0, .ref o0, .ref o1, .ref o2])), (q, .inr (8, [.ref q0, .ref q1, .ref q2, .ref q3, .ref q4, .int 0, .int 0, .ref q5])), (q2, .inl (cy 1, 8, .inl (fun _ => 0)))]) (ty := .int) C hP hD hS 0 12 rfl rfl inX0 tyX0 tyX0_ok nmX0 (by decide) kF_RX0_49 rfl rfl rfl rfl rfl (Nat.le_of_ble_eq_true rfl) rfl dX0_look_21 (fun H locs hP hD hS => ?_)
  refine lv_aload_n hx hb dX0_look_24 rfl (lv_at hl 0 rfl) ?_
  refine lv_iconst (v := 1) hx hb dX0_look_25 (by decide) ?_
  refine lv_aload_n hx hb dX0_look_26 rfl (lv_at hl 1 rfl) ?_
  refine q_get (v := .int 1) C hP 2 3 rfl rfl inX6 (by decide) kF_RX0_66 rfl rfl dX0_look_27 ?_
  refine q_mmax C hl.1 kM_RX0_67 (Nat.le_of_ble_eq_true rfl) (Nat.le_of_ble_eq_true rfl) (Nat.le_of_ble_eq_true rfl) (Nat.le_of_ble_eq_true rfl) dX0_look_30 ?_
  refine q_val (v := 1) (by decide) ?_
  refine q_put (v := .int 1) (w' := [(h, .inr (0, [.int 0, .int 0, .int (-1), .ref h0, .ref h1, .ref h2, .ref h3, .ref h4, .int 0, .ref h5, .int 0, .int 0, .int 10, .int 1, .int 0, .int 0])), (h5, .inl (cy 1, 81, .inl (fun _ => 0))), (o, .inr (6, [.int 4, .int 4, .int 10, .int 1, .int 3, .int 0, .int 0, .int 0, .ref o0, .ref o1, .ref o2])), (q, .inr (8, [.ref q0, .ref q1, .ref q2, .ref q3, .ref q4, .int 0, .int 0, .ref q5])), (q2, .inl (cy 1, 8, .inl (fun _ => 0)))]) (ty := .int) C hP hD hS 0 13 rfl rfl inX0 tyX0 tyX0_ok nmX0 (by decide) kF_RX0_52 rfl rfl rfl rfl rfl (Nat.le_of_ble_eq_true rfl) rfl dX0_look_33 (fun H locs hP hD hS => ?_)
  refine lv_aload_n hx hb dX0_look_36 rfl (lv_at hl 0 rfl) ?_
  refine lv_aload_n hx hb dX0_look_37 rfl (lv_at hl 2 rfl) ?_
  refine q_get (v := .int 0) C hP 3 5 rfl rfl inX8 (by decide) kF_RX0_73 rfl rfl dX0_look_38 ?_
  refine q_put (v := .int 0) (w' := [(h, .inr (0, [.int 0, .int 0, .int (-1), .ref h0, .ref h1, .ref h2, .ref h3, .ref h4, .int 0, .ref h5, .int 0, .int 0, .int 10, .int 1, .int 0, .int 0])), (h5, .inl (cy 1, 81, .inl (fun _ => 0))), (o, .inr (6, [.int 4, .int 4, .int 10, .int 1, .int 3, .int 0, .int 0, .int 0, .ref o0, .ref o1, .ref o2])), (q, .inr (8, [.ref q0, .ref q1, .ref q2, .ref q3, .ref q4, .int 0, .int 0, .ref q5])), (q2, .inl (cy 1, 8, .inl (fun _ => 0)))]) (ty := .int) C hP hD hS 0 14 rfl rfl inX0 tyX0 tyX0_ok nmX0 (by decide) kF_RX0_55 rfl rfl rfl rfl rfl (Nat.le_of_ble_eq_true rfl) rfl dX0_look_41 (fun H locs hP hD hS => ?_)
  refine lv_aload_n hx hb dX0_look_44 rfl (lv_at hl 0 rfl) ?_
  refine lv_iload_n hx hb dX0_look_45 rfl (lv_at hl 3 rfl) ?_
  refine lv_bipush (v := 8) hx hb dX0_look_46 (by decide) ?_
  refine q_mmin C hl.1 kM_RX0_76 (Nat.le_of_ble_eq_true rfl) (Nat.le_of_ble_eq_true rfl) (Nat.le_of_ble_eq_true rfl) (Nat.le_of_ble_eq_true rfl) dX0_look_48 ?_
  refine q_val (v := 1) (by decide) ?_
  refine q_put (v := .int 1) (w' := [(h, .inr (0, [.int 0, .int 0, .int (-1), .ref h0, .ref h1, .ref h2, .ref h3, .ref h4, .int 0, .ref h5, .int 0, .int 0, .int 10, .int 1, .int 0, .int 1])), (h5, .inl (cy 1, 81, .inl (fun _ => 0))), (o, .inr (6, [.int 4, .int 4, .int 10, .int 1, .int 3, .int 0, .int 0, .int 0, .ref o0, .ref o1, .ref o2])), (q, .inr (8, [.ref q0, .ref q1, .ref q2, .ref q3, .ref q4, .int 0, .int 0, .ref q5])), (q2, .inl (cy 1, 8, .inl (fun _ => 0)))]) (ty := .int) C hP hD hS 0 15 rfl rfl inX0 tyX0 tyX0_ok nmX0 (by decide) kF_RX0_58 rfl rfl rfl rfl rfl (Nat.le_of_ble_eq_true rfl) rfl dX0_look_51 (fun H locs hP hD hS => ?_)
  refine lv_aload_n hx hb dX0_look_54 rfl (lv_at hl 2 rfl) ?_
  refine q_get (v := .ref q2) C hP 3 2 rfl rfl inX8 (by decide) kF_RX0_79 rfl rfl dX0_look_55 ?_
  refine lv_iconst (v := 0) hx hb dX0_look_58 (by decide) ?_
  refine lv_aload_n hx hb dX0_look_59 rfl (lv_at hl 0 rfl) ?_
  refine q_get (v := .ref h5) C hP 0 9 rfl rfl inX0 (by decide) kF_RX0_40 rfl rfl dX0_look_60 ?_
  refine lv_iconst (v := 0) hx hb dX0_look_63 (by decide) ?_
  refine lv_bipush (v := 8) hx hb dX0_look_64 (by decide) ?_
  refine q_copy (g' := fun _ => 0) (w' := [(h, .inr (0, [.int 0, .int 0, .int (-1), .ref h0, .ref h1, .ref h2, .ref h3, .ref h4, .int 0, .ref h5, .int 0, .int 0, .int 10, .int 1, .int 0, .int 1])), (h5, .inl (cy 1, 81, .inl (fun _ => 0))), (o, .inr (6, [.int 4, .int 4, .int 10, .int 1, .int 3, .int 0, .int 0, .int 0, .ref o0, .ref o1, .ref o2])), (q, .inr (8, [.ref q0, .ref q1, .ref q2, .ref q3, .ref q4, .int 0, .int 0, .ref q5])), (q2, .inl (cy 1, 8, .inl (fun _ => 0)))]) C hl.1 hP hD hS 4 1 rfl rfl kM_RX0_82 (by decide) (by decide) (by decide) (by decide) (by decide) (Nat.le_of_ble_eq_true rfl) (Nat.le_of_ble_eq_true rfl) (cpyz _ _ _) rfl dX0_look_66 (fun H locs hP hD hS => ?_)
  exact q_vret (rm := (Rm 1 60 0 0)) C hS () trivial (q_subP hP [0, 1, 2, 3, 4] rfl) (hD.sub [0, 1, 2, 3, 4] (by decide) rfl) (Nat.le_of_ble_eq_true rfl) (Nat.le_of_ble_eq_true rfl) dX0_look_69
set_option maxHeartbeats 4000000 in
set_option maxRecDepth 100000 in
theorem c_look_2 (l : Launch) (D : va_G) (cy : Nat → ClassId) (h : Nat) (o : Nat) (q : Nat) (h0 : Nat) (h1 : Nat) (h2 : Nat) (h3 : Nat) (h4 : Nat) (h5 : Nat) (o0 : Nat) (o1 : Nat) (o2 : Nat) (q0 : Nat) (q1 : Nat) (q2 : Nat) (q3 : Nat) (q4 : Nat) (q5 : Nat) (sz : Nat)  : MV l yX0_look cX0_look 4 (Rm 1 60 0 0) D cy [.ref h, .ref o, .ref q, .int 2] sz [(h, .inr (0, [.int 0, .int 0, .int (-1), .ref h0, .ref h1, .ref h2, .ref h3, .ref h4, .int 0, .ref h5, .int 0, .int 0, .int 1, .int 1, .int 0, .int 0])), (h5, .inl (cy 1, 81, .inl (fun _ => 0))), (o, .inr (6, [.int 4, .int 4, .int 10, .int 1, .int 3, .int 0, .int 0, .int 0, .ref o0, .ref o1, .ref o2])), (q, .inr (8, [.ref q0, .ref q1, .ref q2, .ref q3, .ref q4, .int 0, .int 0, .ref q5])), (q2, .inl (cy 1, 8, .inl (fun _ => 0)))] (fun _ : Unit => True) (fun u : Unit => [(h, .inr (0, [.int 0, .int 0, .int (-1), .ref h0, .ref h1, .ref h2, .ref h3, .ref h4, .int 0, .ref h5, .int 0, .int 0, .int 10, .int 1, .int 0, .int 2])), (h5, .inl (cy 1, 81, .inl (fun _ => 0))), (o, .inr (6, [.int 4, .int 4, .int 10, .int 1, .int 3, .int 0, .int 0, .int 0, .ref o0, .ref o1, .ref o2])), (q, .inr (8, [.ref q0, .ref q1, .ref q2, .ref q3, .ref q4, .int 0, .int 0, .ref q5])), (q2, .inl (cy 1, 8, .inl (fun _ => 0)))]) := by
  refine MV.enter (by decide) (Nat.le_of_ble_eq_true rfl) ?_
  intro p e s m below meth c ls A hsz hAe C hP hD hS hl
  have C : Cx p s m _ meth c cX0_look 4 none RX0 "look" D cy A := C
  have hx := C.1
  have hb := C.2.1
  have hl : lv_has ls 4 [(0, .ref h), (1, .ref o), (2, .ref q), (3, .int 2)] := hl
  refine lv_aload_n hx hb dX0_look_0 rfl (lv_at hl 0 rfl) ?_
  refine lv_aload_n hx hb dX0_look_1 rfl (lv_at hl 1 rfl) ?_
  refine q_get (v := .int 0) C hP 2 6 rfl rfl inX6 (by decide) kF_RX0_61 rfl rfl dX0_look_2 ?_
  refine q_put (v := .int 0) (w' := [(h, .inr (0, [.int 0, .int 0, .int (-1), .ref h0, .ref h1, .ref h2, .ref h3, .ref h4, .int 0, .ref h5, .int 0, .int 0, .int 1, .int 1, .int 0, .int 0])), (h5, .inl (cy 1, 81, .inl (fun _ => 0))), (o, .inr (6, [.int 4, .int 4, .int 10, .int 1, .int 3, .int 0, .int 0, .int 0, .ref o0, .ref o1, .ref o2])), (q, .inr (8, [.ref q0, .ref q1, .ref q2, .ref q3, .ref q4, .int 0, .int 0, .ref q5])), (q2, .inl (cy 1, 8, .inl (fun _ => 0)))]) (ty := .int) C hP hD hS 0 10 rfl rfl inX0 tyX0 tyX0_ok nmX0 (by decide) kF_RX0_43 rfl rfl rfl rfl rfl (Nat.le_of_ble_eq_true rfl) rfl dX0_look_5 (fun H locs hP hD hS => ?_)
  refine lv_aload_n hx hb dX0_look_8 rfl (lv_at hl 0 rfl) ?_
  refine lv_aload_n hx hb dX0_look_9 rfl (lv_at hl 1 rfl) ?_
  refine q_get (v := .int 0) C hP 2 7 rfl rfl inX6 (by decide) kF_RX0_64 rfl rfl dX0_look_10 ?_
  refine q_put (v := .int 0) (w' := [(h, .inr (0, [.int 0, .int 0, .int (-1), .ref h0, .ref h1, .ref h2, .ref h3, .ref h4, .int 0, .ref h5, .int 0, .int 0, .int 1, .int 1, .int 0, .int 0])), (h5, .inl (cy 1, 81, .inl (fun _ => 0))), (o, .inr (6, [.int 4, .int 4, .int 10, .int 1, .int 3, .int 0, .int 0, .int 0, .ref o0, .ref o1, .ref o2])), (q, .inr (8, [.ref q0, .ref q1, .ref q2, .ref q3, .ref q4, .int 0, .int 0, .ref q5])), (q2, .inl (cy 1, 8, .inl (fun _ => 0)))]) (ty := .int) C hP hD hS 0 11 rfl rfl inX0 tyX0 tyX0_ok nmX0 (by decide) kF_RX0_46 rfl rfl rfl rfl rfl (Nat.le_of_ble_eq_true rfl) rfl dX0_look_13 (fun H locs hP hD hS => ?_)
  refine lv_aload_n hx hb dX0_look_16 rfl (lv_at hl 0 rfl) ?_
  refine lv_aload_n hx hb dX0_look_17 rfl (lv_at hl 1 rfl) ?_
  refine q_get (v := .int 10) C hP 2 2 rfl rfl inX6 (by decide) kF_RX0_65 rfl rfl dX0_look_18 ?_
  refine q_put (v := .int 10) (w' := [(h, .inr (0, [.int 0, .int 0, .int (-1), .ref h0, .ref h1, .ref h2, .ref h3, .ref h4, .int 0, .ref h5, .int 0, .int 0, .int 10, .int 1, .int 0, .int 0])), (h5, .inl (cy 1, 81, .inl (fun _ => 0))), (o, .inr (6, [.int 4, .int 4, .int 10, .int 1, .int 3, .int 0, .int 0, .int 0, .ref o0, .ref o1, .ref o2])), (q, .inr (8, [.ref q0, .ref q1, .ref q2, .ref q3, .ref q4, .int 0, .int 0, .ref q5])), (q2, .inl (cy 1, 8, .inl (fun _ => 0)))]) (ty := .int) C hP hD hS 0 12 rfl rfl inX0 tyX0 tyX0_ok nmX0 (by decide) kF_RX0_49 rfl rfl rfl rfl rfl (Nat.le_of_ble_eq_true rfl) rfl dX0_look_21 (fun H locs hP hD hS => ?_)
  refine lv_aload_n hx hb dX0_look_24 rfl (lv_at hl 0 rfl) ?_
  refine lv_iconst (v := 1) hx hb dX0_look_25 (by decide) ?_
  refine lv_aload_n hx hb dX0_look_26 rfl (lv_at hl 1 rfl) ?_
  refine q_get (v := .int 1) C hP 2 3 rfl rfl inX6 (by decide) kF_RX0_66 rfl rfl dX0_look_27 ?_
  refine q_mmax C hl.1 kM_RX0_67 (Nat.le_of_ble_eq_true rfl) (Nat.le_of_ble_eq_true rfl) (Nat.le_of_ble_eq_true rfl) (Nat.le_of_ble_eq_true rfl) dX0_look_30 ?_
  refine q_val (v := 1) (by decide) ?_
  refine q_put (v := .int 1) (w' := [(h, .inr (0, [.int 0, .int 0, .int (-1), .ref h0, .ref h1, .ref h2, .ref h3, .ref h4, .int 0, .ref h5, .int 0, .int 0, .int 10, .int 1, .int 0, .int 0])), (h5, .inl (cy 1, 81, .inl (fun _ => 0))), (o, .inr (6, [.int 4, .int 4, .int 10, .int 1, .int 3, .int 0, .int 0, .int 0, .ref o0, .ref o1, .ref o2])), (q, .inr (8, [.ref q0, .ref q1, .ref q2, .ref q3, .ref q4, .int 0, .int 0, .ref q5])), (q2, .inl (cy 1, 8, .inl (fun _ => 0)))]) (ty := .int) C hP hD hS 0 13 rfl rfl inX0 tyX0 tyX0_ok nmX0 (by decide) kF_RX0_52 rfl rfl rfl rfl rfl (Nat.le_of_ble_eq_true rfl) rfl dX0_look_33 (fun H locs hP hD hS => ?_)
  refine lv_aload_n hx hb dX0_look_36 rfl (lv_at hl 0 rfl) ?_
  refine lv_aload_n hx hb dX0_look_37 rfl (lv_at hl 2 rfl) ?_
  refine q_get (v := .int 0) C hP 3 5 rfl rfl inX8 (by decide) kF_RX0_73 rfl rfl dX0_look_38 ?_
  refine q_put (v := .int 0) (w' := [(h, .inr (0, [.int 0, .int 0, .int (-1), .ref h0, .ref h1, .ref h2, .ref h3, .ref h4, .int 0, .ref h5, .int 0, .int 0, .int 10, .int 1, .int 0, .int 0])), (h5, .inl (cy 1, 81, .inl (fun _ => 0))), (o, .inr (6, [.int 4, .int 4, .int 10, .int 1, .int 3, .int 0, .int 0, .int 0, .ref o0, .ref o1, .ref o2])), (q, .inr (8, [.ref q0, .ref q1, .ref q2, .ref q3, .ref q4, .int 0, .int 0, .ref q5])), (q2, .inl (cy 1, 8, .inl (fun _ => 0)))]) (ty := .int) C hP hD hS 0 14 rfl rfl inX0 tyX0 tyX0_ok nmX0 (by decide) kF_RX0_55 rfl rfl rfl rfl rfl (Nat.le_of_ble_eq_true rfl) rfl dX0_look_41 (fun H locs hP hD hS => ?_)
  refine lv_aload_n hx hb dX0_look_44 rfl (lv_at hl 0 rfl) ?_
  refine lv_iload_n hx hb dX0_look_45 rfl (lv_at hl 3 rfl) ?_
  refine lv_bipush (v := 8) hx hb dX0_look_46 (by decide) ?_
  refine q_mmin C hl.1 kM_RX0_76 (Nat.le_of_ble_eq_true rfl) (Nat.le_of_ble_eq_true rfl) (Nat.le_of_ble_eq_true rfl) (Nat.le_of_ble_eq_true rfl) dX0_look_48 ?_
  refine q_val (v := 2) (by decide) ?_
  refine q_put (v := .int 2) (w' := [(h, .inr (0, [.int 0, .int 0, .int (-1), .ref h0, .ref h1, .ref h2, .ref h3, .ref h4, .int 0, .ref h5, .int 0, .int 0, .int 10, .int 1, .int 0, .int 2])), (h5, .inl (cy 1, 81, .inl (fun _ => 0))), (o, .inr (6, [.int 4, .int 4, .int 10, .int 1, .int 3, .int 0, .int 0, .int 0, .ref o0, .ref o1, .ref o2])), (q, .inr (8, [.ref q0, .ref q1, .ref q2, .ref q3, .ref q4, .int 0, .int 0, .ref q5])), (q2, .inl (cy 1, 8, .inl (fun _ => 0)))]) (ty := .int) C hP hD hS 0 15 rfl rfl inX0 tyX0 tyX0_ok nmX0 (by decide) kF_RX0_58 rfl rfl rfl rfl rfl (Nat.le_of_ble_eq_true rfl) rfl dX0_look_51 (fun H locs hP hD hS => ?_)
  refine lv_aload_n hx hb dX0_look_54 rfl (lv_at hl 2 rfl) ?_
  refine q_get (v := .ref q2) C hP 3 2 rfl rfl inX8 (by decide) kF_RX0_79 rfl rfl dX0_look_55 ?_
  refine lv_iconst (v := 0) hx hb dX0_look_58 (by decide) ?_
  refine lv_aload_n hx hb dX0_look_59 rfl (lv_at hl 0 rfl) ?_
  refine q_get (v := .ref h5) C hP 0 9 rfl rfl inX0 (by decide) kF_RX0_40 rfl rfl dX0_look_60 ?_
  refine lv_iconst (v := 0) hx hb dX0_look_63 (by decide) ?_
  refine lv_bipush (v := 8) hx hb dX0_look_64 (by decide) ?_
  refine q_copy (g' := fun _ => 0) (w' := [(h, .inr (0, [.int 0, .int 0, .int (-1), .ref h0, .ref h1, .ref h2, .ref h3, .ref h4, .int 0, .ref h5, .int 0, .int 0, .int 10, .int 1, .int 0, .int 2])), (h5, .inl (cy 1, 81, .inl (fun _ => 0))), (o, .inr (6, [.int 4, .int 4, .int 10, .int 1, .int 3, .int 0, .int 0, .int 0, .ref o0, .ref o1, .ref o2])), (q, .inr (8, [.ref q0, .ref q1, .ref q2, .ref q3, .ref q4, .int 0, .int 0, .ref q5])), (q2, .inl (cy 1, 8, .inl (fun _ => 0)))]) C hl.1 hP hD hS 4 1 rfl rfl kM_RX0_82 (by decide) (by decide) (by decide) (by decide) (by decide) (Nat.le_of_ble_eq_true rfl) (Nat.le_of_ble_eq_true rfl) (cpyz _ _ _) rfl dX0_look_66 (fun H locs hP hD hS => ?_)
  exact q_vret (rm := (Rm 1 60 0 0)) C hS () trivial (q_subP hP [0, 1, 2, 3, 4] rfl) (hD.sub [0, 1, 2, 3, 4] (by decide) rfl) (Nat.le_of_ble_eq_true rfl) (Nat.le_of_ble_eq_true rfl) dX0_look_69
set_option maxHeartbeats 4000000 in
set_option maxRecDepth 100000 in
theorem c_look_3 (l : Launch) (D : va_G) (cy : Nat → ClassId) (h : Nat) (o : Nat) (q : Nat) (h0 : Nat) (h1 : Nat) (h2 : Nat) (h3 : Nat) (h4 : Nat) (h5 : Nat) (o0 : Nat) (o1 : Nat) (o2 : Nat) (q0 : Nat) (q1 : Nat) (q2 : Nat) (q3 : Nat) (q4 : Nat) (q5 : Nat) (sz : Nat)  : MV l yX0_look cX0_look 4 (Rm 1 60 0 0) D cy [.ref h, .ref o, .ref q, .int 3] sz [(h, .inr (0, [.int 0, .int 0, .int (-1), .ref h0, .ref h1, .ref h2, .ref h3, .ref h4, .int 0, .ref h5, .int 0, .int 0, .int 1, .int 1, .int 0, .int 0])), (h5, .inl (cy 1, 81, .inl (fun _ => 0))), (o, .inr (6, [.int 4, .int 4, .int 10, .int 1, .int 3, .int 0, .int 0, .int 0, .ref o0, .ref o1, .ref o2])), (q, .inr (8, [.ref q0, .ref q1, .ref q2, .ref q3, .ref q4, .int 0, .int 0, .ref q5])), (q2, .inl (cy 1, 8, .inl (fun _ => 0)))] (fun _ : Unit => True) (fun u : Unit => [(h, .inr (0, [.int 0, .int 0, .int (-1), .ref h0, .ref h1, .ref h2, .ref h3, .ref h4, .int 0, .ref h5, .int 0, .int 0, .int 10, .int 1, .int 0, .int 3])), (h5, .inl (cy 1, 81, .inl (fun _ => 0))), (o, .inr (6, [.int 4, .int 4, .int 10, .int 1, .int 3, .int 0, .int 0, .int 0, .ref o0, .ref o1, .ref o2])), (q, .inr (8, [.ref q0, .ref q1, .ref q2, .ref q3, .ref q4, .int 0, .int 0, .ref q5])), (q2, .inl (cy 1, 8, .inl (fun _ => 0)))]) := by
  refine MV.enter (by decide) (Nat.le_of_ble_eq_true rfl) ?_
  intro p e s m below meth c ls A hsz hAe C hP hD hS hl
  have C : Cx p s m _ meth c cX0_look 4 none RX0 "look" D cy A := C
  have hx := C.1
  have hb := C.2.1
  have hl : lv_has ls 4 [(0, .ref h), (1, .ref o), (2, .ref q), (3, .int 3)] := hl
  refine lv_aload_n hx hb dX0_look_0 rfl (lv_at hl 0 rfl) ?_
  refine lv_aload_n hx hb dX0_look_1 rfl (lv_at hl 1 rfl) ?_
  refine q_get (v := .int 0) C hP 2 6 rfl rfl inX6 (by decide) kF_RX0_61 rfl rfl dX0_look_2 ?_
  refine q_put (v := .int 0) (w' := [(h, .inr (0, [.int 0, .int 0, .int (-1), .ref h0, .ref h1, .ref h2, .ref h3, .ref h4, .int 0, .ref h5, .int 0, .int 0, .int 1, .int 1, .int 0, .int 0])), (h5, .inl (cy 1, 81, .inl (fun _ => 0))), (o, .inr (6, [.int 4, .int 4, .int 10, .int 1, .int 3, .int 0, .int 0, .int 0, .ref o0, .ref o1, .ref o2])), (q, .inr (8, [.ref q0, .ref q1, .ref q2, .ref q3, .ref q4, .int 0, .int 0, .ref q5])), (q2, .inl (cy 1, 8, .inl (fun _ => 0)))]) (ty := .int) C hP hD hS 0 10 rfl rfl inX0 tyX0 tyX0_ok nmX0 (by decide) kF_RX0_43 rfl rfl rfl rfl rfl (Nat.le_of_ble_eq_true rfl) rfl dX0_look_5 (fun H locs hP hD hS => ?_)
  refine lv_aload_n hx hb dX0_look_8 rfl (lv_at hl 0 rfl) ?_
  refine lv_aload_n hx hb dX0_look_9 rfl (lv_at hl 1 rfl) ?_
  refine q_get (v := .int 0) C hP 2 7 rfl rfl inX6 (by decide) kF_RX0_64 rfl rfl dX0_look_10 ?_
  refine q_put (v := .int 0) (w' := [(h, .inr (0, [.int 0, .int 0, .int (-1), .ref h0, .ref h1, .ref h2, .ref h3, .ref h4, .int 0, .ref h5, .int 0, .int 0, .int 1, .int 1, .int 0, .int 0])), (h5, .inl (cy 1, 81, .inl (fun _ => 0))), (o, .inr (6, [.int 4, .int 4, .int 10, .int 1, .int 3, .int 0, .int 0, .int 0, .ref o0, .ref o1, .ref o2])), (q, .inr (8, [.ref q0, .ref q1, .ref q2, .ref q3, .ref q4, .int 0, .int 0, .ref q5])), (q2, .inl (cy 1, 8, .inl (fun _ => 0)))]) (ty := .int) C hP hD hS 0 11 rfl rfl inX0 tyX0 tyX0_ok nmX0 (by decide) kF_RX0_46 rfl rfl rfl rfl rfl (Nat.le_of_ble_eq_true rfl) rfl dX0_look_13 (fun H locs hP hD hS => ?_)
  refine lv_aload_n hx hb dX0_look_16 rfl (lv_at hl 0 rfl) ?_
  refine lv_aload_n hx hb dX0_look_17 rfl (lv_at hl 1 rfl) ?_
  refine q_get (v := .int 10) C hP 2 2 rfl rfl inX6 (by decide) kF_RX0_65 rfl rfl dX0_look_18 ?_
  refine q_put (v := .int 10) (w' := [(h, .inr (0, [.int 0, .int 0, .int (-1), .ref h0, .ref h1, .ref h2, .ref h3, .ref h4, .int 0, .ref h5, .int 0, .int 0, .int 10, .int 1, .int 0, .int 0])), (h5, .inl (cy 1, 81, .inl (fun _ => 0))), (o, .inr (6, [.int 4, .int 4, .int 10, .int 1, .int 3, .int 0, .int 0, .int 0, .ref o0, .ref o1, .ref o2])), (q, .inr (8, [.ref q0, .ref q1, .ref q2, .ref q3, .ref q4, .int 0, .int 0, .ref q5])), (q2, .inl (cy 1, 8, .inl (fun _ => 0)))]) (ty := .int) C hP hD hS 0 12 rfl rfl inX0 tyX0 tyX0_ok nmX0 (by decide) kF_RX0_49 rfl rfl rfl rfl rfl (Nat.le_of_ble_eq_true rfl) rfl dX0_look_21 (fun H locs hP hD hS => ?_)
  refine lv_aload_n hx hb dX0_look_24 rfl (lv_at hl 0 rfl) ?_
  refine lv_iconst (v := 1) hx hb dX0_look_25 (by decide) ?_
  refine lv_aload_n hx hb dX0_look_26 rfl (lv_at hl 1 rfl) ?_
  refine q_get (v := .int 1) C hP 2 3 rfl rfl inX6 (by decide) kF_RX0_66 rfl rfl dX0_look_27 ?_
  refine q_mmax C hl.1 kM_RX0_67 (Nat.le_of_ble_eq_true rfl) (Nat.le_of_ble_eq_true rfl) (Nat.le_of_ble_eq_true rfl) (Nat.le_of_ble_eq_true rfl) dX0_look_30 ?_
  refine q_val (v := 1) (by decide) ?_
  refine q_put (v := .int 1) (w' := [(h, .inr (0, [.int 0, .int 0, .int (-1), .ref h0, .ref h1, .ref h2, .ref h3, .ref h4, .int 0, .ref h5, .int 0, .int 0, .int 10, .int 1, .int 0, .int 0])), (h5, .inl (cy 1, 81, .inl (fun _ => 0))), (o, .inr (6, [.int 4, .int 4, .int 10, .int 1, .int 3, .int 0, .int 0, .int 0, .ref o0, .ref o1, .ref o2])), (q, .inr (8, [.ref q0, .ref q1, .ref q2, .ref q3, .ref q4, .int 0, .int 0, .ref q5])), (q2, .inl (cy 1, 8, .inl (fun _ => 0)))]) (ty := .int) C hP hD hS 0 13 rfl rfl inX0 tyX0 tyX0_ok nmX0 (by decide) kF_RX0_52 rfl rfl rfl rfl rfl (Nat.le_of_ble_eq_true rfl) rfl dX0_look_33 (fun H locs hP hD hS => ?_)
  refine lv_aload_n hx hb dX0_look_36 rfl (lv_at hl 0 rfl) ?_
  refine lv_aload_n hx hb dX0_look_37 rfl (lv_at hl 2 rfl) ?_
  refine q_get (v := .int 0) C hP 3 5 rfl rfl inX8 (by decide) kF_RX0_73 rfl rfl dX0_look_38 ?_
  refine q_put (v := .int 0) (w' := [(h, .inr (0, [.int 0, .int 0, .int (-1), .ref h0, .ref h1, .ref h2, .ref h3, .ref h4, .int 0, .ref h5, .int 0, .int 0, .int 10, .int 1, .int 0, .int 0])), (h5, .inl (cy 1, 81, .inl (fun _ => 0))), (o, .inr (6, [.int 4, .int 4, .int 10, .int 1, .int 3, .int 0, .int 0, .int 0, .ref o0, .ref o1, .ref o2])), (q, .inr (8, [.ref q0, .ref q1, .ref q2, .ref q3, .ref q4, .int 0, .int 0, .ref q5])), (q2, .inl (cy 1, 8, .inl (fun _ => 0)))]) (ty := .int) C hP hD hS 0 14 rfl rfl inX0 tyX0 tyX0_ok nmX0 (by decide) kF_RX0_55 rfl rfl rfl rfl rfl (Nat.le_of_ble_eq_true rfl) rfl dX0_look_41 (fun H locs hP hD hS => ?_)
  refine lv_aload_n hx hb dX0_look_44 rfl (lv_at hl 0 rfl) ?_
  refine lv_iload_n hx hb dX0_look_45 rfl (lv_at hl 3 rfl) ?_
  refine lv_bipush (v := 8) hx hb dX0_look_46 (by decide) ?_
  refine q_mmin C hl.1 kM_RX0_76 (Nat.le_of_ble_eq_true rfl) (Nat.le_of_ble_eq_true rfl) (Nat.le_of_ble_eq_true rfl) (Nat.le_of_ble_eq_true rfl) dX0_look_48 ?_
  refine q_val (v := 3) (by decide) ?_
  refine q_put (v := .int 3) (w' := [(h, .inr (0, [.int 0, .int 0, .int (-1), .ref h0, .ref h1, .ref h2, .ref h3, .ref h4, .int 0, .ref h5, .int 0, .int 0, .int 10, .int 1, .int 0, .int 3])), (h5, .inl (cy 1, 81, .inl (fun _ => 0))), (o, .inr (6, [.int 4, .int 4, .int 10, .int 1, .int 3, .int 0, .int 0, .int 0, .ref o0, .ref o1, .ref o2])), (q, .inr (8, [.ref q0, .ref q1, .ref q2, .ref q3, .ref q4, .int 0, .int 0, .ref q5])), (q2, .inl (cy 1, 8, .inl (fun _ => 0)))]) (ty := .int) C hP hD hS 0 15 rfl rfl inX0 tyX0 tyX0_ok nmX0 (by decide) kF_RX0_58 rfl rfl rfl rfl rfl (Nat.le_of_ble_eq_true rfl) rfl dX0_look_51 (fun H locs hP hD hS => ?_)
  refine lv_aload_n hx hb dX0_look_54 rfl (lv_at hl 2 rfl) ?_
  refine q_get (v := .ref q2) C hP 3 2 rfl rfl inX8 (by decide) kF_RX0_79 rfl rfl dX0_look_55 ?_
  refine lv_iconst (v := 0) hx hb dX0_look_58 (by decide) ?_
  refine lv_aload_n hx hb dX0_look_59 rfl (lv_at hl 0 rfl) ?_
  refine q_get (v := .ref h5) C hP 0 9 rfl rfl inX0 (by decide) kF_RX0_40 rfl rfl dX0_look_60 ?_
  refine lv_iconst (v := 0) hx hb dX0_look_63 (by decide) ?_
  refine lv_bipush (v := 8) hx hb dX0_look_64 (by decide) ?_
  refine q_copy (g' := fun _ => 0) (w' := [(h, .inr (0, [.int 0, .int 0, .int (-1), .ref h0, .ref h1, .ref h2, .ref h3, .ref h4, .int 0, .ref h5, .int 0, .int 0, .int 10, .int 1, .int 0, .int 3])), (h5, .inl (cy 1, 81, .inl (fun _ => 0))), (o, .inr (6, [.int 4, .int 4, .int 10, .int 1, .int 3, .int 0, .int 0, .int 0, .ref o0, .ref o1, .ref o2])), (q, .inr (8, [.ref q0, .ref q1, .ref q2, .ref q3, .ref q4, .int 0, .int 0, .ref q5])), (q2, .inl (cy 1, 8, .inl (fun _ => 0)))]) C hl.1 hP hD hS 4 1 rfl rfl kM_RX0_82 (by decide) (by decide) (by decide) (by decide) (by decide) (Nat.le_of_ble_eq_true rfl) (Nat.le_of_ble_eq_true rfl) (cpyz _ _ _) rfl dX0_look_66 (fun H locs hP hD hS => ?_)
  exact q_vret (rm := (Rm 1 60 0 0)) C hS () trivial (q_subP hP [0, 1, 2, 3, 4] rfl) (hD.sub [0, 1, 2, 3, 4] (by decide) rfl) (Nat.le_of_ble_eq_true rfl) (Nat.le_of_ble_eq_true rfl) dX0_look_69
set_option maxHeartbeats 4000000 in
set_option maxRecDepth 100000 in
theorem c_look_4 (l : Launch) (D : va_G) (cy : Nat → ClassId) (h : Nat) (o : Nat) (q : Nat) (h0 : Nat) (h1 : Nat) (h2 : Nat) (h3 : Nat) (h4 : Nat) (h5 : Nat) (o0 : Nat) (o1 : Nat) (o2 : Nat) (q0 : Nat) (q1 : Nat) (q2 : Nat) (q3 : Nat) (q4 : Nat) (q5 : Nat) (sz : Nat)  : MV l yX0_look cX0_look 4 (Rm 1 60 0 0) D cy [.ref h, .ref o, .ref q, .int 4] sz [(h, .inr (0, [.int 0, .int 0, .int (-1), .ref h0, .ref h1, .ref h2, .ref h3, .ref h4, .int 0, .ref h5, .int 0, .int 0, .int 1, .int 1, .int 0, .int 0])), (h5, .inl (cy 1, 81, .inl (fun _ => 0))), (o, .inr (6, [.int 4, .int 4, .int 10, .int 1, .int 3, .int 0, .int 0, .int 0, .ref o0, .ref o1, .ref o2])), (q, .inr (8, [.ref q0, .ref q1, .ref q2, .ref q3, .ref q4, .int 0, .int 0, .ref q5])), (q2, .inl (cy 1, 8, .inl (fun _ => 0)))] (fun _ : Unit => True) (fun u : Unit => [(h, .inr (0, [.int 0, .int 0, .int (-1), .ref h0, .ref h1, .ref h2, .ref h3, .ref h4, .int 0, .ref h5, .int 0, .int 0, .int 10, .int 1, .int 0, .int 4])), (h5, .inl (cy 1, 81, .inl (fun _ => 0))), (o, .inr (6, [.int 4, .int 4, .int 10, .int 1, .int 3, .int 0, .int 0, .int 0, .ref o0, .ref o1, .ref o2])), (q, .inr (8, [.ref q0, .ref q1, .ref q2, .ref q3, .ref q4, .int 0, .int 0, .ref q5])), (q2, .inl (cy 1, 8, .inl (fun _ => 0)))]) := by
  refine MV.enter (by decide) (Nat.le_of_ble_eq_true rfl) ?_
  intro p e s m below meth c ls A hsz hAe C hP hD hS hl
  have C : Cx p s m _ meth c cX0_look 4 none RX0 "look" D cy A := C
  have hx := C.1
  have hb := C.2.1
  have hl : lv_has ls 4 [(0, .ref h), (1, .ref o), (2, .ref q), (3, .int 4)] := hl
  refine lv_aload_n hx hb dX0_look_0 rfl (lv_at hl 0 rfl) ?_
  refine lv_aload_n hx hb dX0_look_1 rfl (lv_at hl 1 rfl) ?_
  refine q_get (v := .int 0) C hP 2 6 rfl rfl inX6 (by decide) kF_RX0_61 rfl rfl dX0_look_2 ?_
  refine q_put (v := .int 0) (w' := [(h, .inr (0, [.int 0, .int 0, .int (-1), .ref h0, .ref h1, .ref h2, .ref h3, .ref h4, .int 0, .ref h5, .int 0, .int 0, .int 1, .int 1, .int 0, .int 0])), (h5, .inl (cy 1, 81, .inl (fun _ => 0))), (o, .inr (6, [.int 4, .int 4, .int 10, .int 1, .int 3, .int 0, .int 0, .int 0, .ref o0, .ref o1, .ref o2])), (q, .inr (8, [.ref q0, .ref q1, .ref q2, .ref q3, .ref q4, .int 0, .int 0, .ref q5])), (q2, .inl (cy 1, 8, .inl (fun _ => 0)))]) (ty := .int) C hP hD hS 0 10 rfl rfl inX0 tyX0 tyX0_ok nmX0 (by decide) kF_RX0_43 rfl rfl rfl rfl rfl (Nat.le_of_ble_eq_true rfl) rfl dX0_look_5 (fun H locs hP hD hS => ?_)
  refine lv_aload_n hx hb dX0_look_8 rfl (lv_at hl 0 rfl) ?_
  refine lv_aload_n hx hb dX0_look_9 rfl (lv_at hl 1 rfl) ?_
  refine q_get (v := .int 0) C hP 2 7 rfl rfl inX6 (by decide) kF_RX0_64 rfl rfl dX0_look_10 ?_
  refine q_put (v := .int 0) (w' := [(h, .inr (0, [.int 0, .int 0, .int (-1), .ref h0, .ref h1, .ref h2, .ref h3, .ref h4, .int 0, .ref h5, .int 0, .int 0, .int 1, .int 1, .int 0, .int 0])), (h5, .inl (cy 1, 81, .inl (fun _ => 0))), (o, .inr (6, [.int 4, .int 4, .int 10, .int 1, .int 3, .int 0, .int 0, .int 0, .ref o0, .ref o1, .ref o2])), (q, .inr (8, [.ref q0, .ref q1, .ref q2, .ref q3, .ref q4, .int 0, .int 0, .ref q5])), (q2, .inl (cy 1, 8, .inl (fun _ => 0)))]) (ty := .int) C hP hD hS 0 11 rfl rfl inX0 tyX0 tyX0_ok nmX0 (by decide) kF_RX0_46 rfl rfl rfl rfl rfl (Nat.le_of_ble_eq_true rfl) rfl dX0_look_13 (fun H locs hP hD hS => ?_)
  refine lv_aload_n hx hb dX0_look_16 rfl (lv_at hl 0 rfl) ?_
  refine lv_aload_n hx hb dX0_look_17 rfl (lv_at hl 1 rfl) ?_
  refine q_get (v := .int 10) C hP 2 2 rfl rfl inX6 (by decide) kF_RX0_65 rfl rfl dX0_look_18 ?_
  refine q_put (v := .int 10) (w' := [(h, .inr (0, [.int 0, .int 0, .int (-1), .ref h0, .ref h1, .ref h2, .ref h3, .ref h4, .int 0, .ref h5, .int 0, .int 0, .int 10, .int 1, .int 0, .int 0])), (h5, .inl (cy 1, 81, .inl (fun _ => 0))), (o, .inr (6, [.int 4, .int 4, .int 10, .int 1, .int 3, .int 0, .int 0, .int 0, .ref o0, .ref o1, .ref o2])), (q, .inr (8, [.ref q0, .ref q1, .ref q2, .ref q3, .ref q4, .int 0, .int 0, .ref q5])), (q2, .inl (cy 1, 8, .inl (fun _ => 0)))]) (ty := .int) C hP hD hS 0 12 rfl rfl inX0 tyX0 tyX0_ok nmX0 (by decide) kF_RX0_49 rfl rfl rfl rfl rfl (Nat.le_of_ble_eq_true rfl) rfl dX0_look_21 (fun H locs hP hD hS => ?_)
  refine lv_aload_n hx hb dX0_look_24 rfl (lv_at hl 0 rfl) ?_
  refine lv_iconst (v := 1) hx hb dX0_look_25 (by decide) ?_
  refine lv_aload_n hx hb dX0_look_26 rfl (lv_at hl 1 rfl) ?_
  refine q_get (v := .int 1) C hP 2 3 rfl rfl inX6 (by decide) kF_RX0_66 rfl rfl dX0_look_27 ?_
  refine q_mmax C hl.1 kM_RX0_67 (Nat.le_of_ble_eq_true rfl) (Nat.le_of_ble_eq_true rfl) (Nat.le_of_ble_eq_true rfl) (Nat.le_of_ble_eq_true rfl) dX0_look_30 ?_
  refine q_val (v := 1) (by decide) ?_
  refine q_put (v := .int 1) (w' := [(h, .inr (0, [.int 0, .int 0, .int (-1), .ref h0, .ref h1, .ref h2, .ref h3, .ref h4, .int 0, .ref h5, .int 0, .int 0, .int 10, .int 1, .int 0, .int 0])), (h5, .inl (cy 1, 81, .inl (fun _ => 0))), (o, .inr (6, [.int 4, .int 4, .int 10, .int 1, .int 3, .int 0, .int 0, .int 0, .ref o0, .ref o1, .ref o2])), (q, .inr (8, [.ref q0, .ref q1, .ref q2, .ref q3, .ref q4, .int 0, .int 0, .ref q5])), (q2, .inl (cy 1, 8, .inl (fun _ => 0)))]) (ty := .int) C hP hD hS 0 13 rfl rfl inX0 tyX0 tyX0_ok nmX0 (by decide) kF_RX0_52 rfl rfl rfl rfl rfl (Nat.le_of_ble_eq_true rfl) rfl dX0_look_33 (fun H locs hP hD hS => ?_)
  refine lv_aload_n hx hb dX0_look_36 rfl (lv_at hl 0 rfl) ?_
  refine lv_aload_n hx hb dX0_look_37 rfl (lv_at hl 2 rfl) ?_
  refine q_get (v := .int 0) C hP 3 5 rfl rfl inX8 (by decide) kF_RX0_73 rfl rfl dX0_look_38 ?_
  refine q_put (v := .int 0) (w' := [(h, .inr (0, [.int 0, .int 0, .int (-1), .ref h0, .ref h1, .ref h2, .ref h3, .ref h4, .int 0, .ref h5, .int 0, .int 0, .int 10, .int 1, .int 0, .int 0])), (h5, .inl (cy 1, 81, .inl (fun _ => 0))), (o, .inr (6, [.int 4, .int 4, .int 10, .int 1, .int 3, .int 0, .int 0, .int 0, .ref o0, .ref o1, .ref o2])), (q, .inr (8, [.ref q0, .ref q1, .ref q2, .ref q3, .ref q4, .int 0, .int 0, .ref q5])), (q2, .inl (cy 1, 8, .inl (fun _ => 0)))]) (ty := .int) C hP hD hS 0 14 rfl rfl inX0 tyX0 tyX0_ok nmX0 (by decide) kF_RX0_55 rfl rfl rfl rfl rfl (Nat.le_of_ble_eq_true rfl) rfl dX0_look_41 (fun H locs hP hD hS => ?_)
  refine lv_aload_n hx hb dX0_look_44 rfl (lv_at hl 0 rfl) ?_
  refine lv_iload_n hx hb dX0_look_45 rfl (lv_at hl 3 rfl) ?_
  refine lv_bipush (v := 8) hx hb dX0_look_46 (by decide) ?_
  refine q_mmin C hl.1 kM_RX0_76 (Nat.le_of_ble_eq_true rfl) (Nat.le_of_ble_eq_true rfl) (Nat.le_of_ble_eq_true rfl) (Nat.le_of_ble_eq_true rfl) dX0_look_48 ?_
  refine q_val (v := 4) (by decide) ?_
  refine q_put (v := .int 4) (w' := [(h, .inr (0, [.int 0, .int 0, .int (-1), .ref h0, .ref h1, .ref h2, .ref h3, .ref h4, .int 0, .ref h5, .int 0, .int 0, .int 10, .int 1, .int 0, .int 4])), (h5, .inl (cy 1, 81, .inl (fun _ => 0))), (o, .inr (6, [.int 4, .int 4, .int 10, .int 1, .int 3, .int 0, .int 0, .int 0, .ref o0, .ref o1, .ref o2])), (q, .inr (8, [.ref q0, .ref q1, .ref q2, .ref q3, .ref q4, .int 0, .int 0, .ref q5])), (q2, .inl (cy 1, 8, .inl (fun _ => 0)))]) (ty := .int) C hP hD hS 0 15 rfl rfl inX0 tyX0 tyX0_ok nmX0 (by decide) kF_RX0_58 rfl rfl rfl rfl rfl (Nat.le_of_ble_eq_true rfl) rfl dX0_look_51 (fun H locs hP hD hS => ?_)
  refine lv_aload_n hx hb dX0_look_54 rfl (lv_at hl 2 rfl) ?_
  refine q_get (v := .ref q2) C hP 3 2 rfl rfl inX8 (by decide) kF_RX0_79 rfl rfl dX0_look_55 ?_
  refine lv_iconst (v := 0) hx hb dX0_look_58 (by decide) ?_
  refine lv_aload_n hx hb dX0_look_59 rfl (lv_at hl 0 rfl) ?_
  refine q_get (v := .ref h5) C hP 0 9 rfl rfl inX0 (by decide) kF_RX0_40 rfl rfl dX0_look_60 ?_
  refine lv_iconst (v := 0) hx hb dX0_look_63 (by decide) ?_
  refine lv_bipush (v := 8) hx hb dX0_look_64 (by decide) ?_
  refine q_copy (g' := fun _ => 0) (w' := [(h, .inr (0, [.int 0, .int 0, .int (-1), .ref h0, .ref h1, .ref h2, .ref h3, .ref h4, .int 0, .ref h5, .int 0, .int 0, .int 10, .int 1, .int 0, .int 4])), (h5, .inl (cy 1, 81, .inl (fun _ => 0))), (o, .inr (6, [.int 4, .int 4, .int 10, .int 1, .int 3, .int 0, .int 0, .int 0, .ref o0, .ref o1, .ref o2])), (q, .inr (8, [.ref q0, .ref q1, .ref q2, .ref q3, .ref q4, .int 0, .int 0, .ref q5])), (q2, .inl (cy 1, 8, .inl (fun _ => 0)))]) C hl.1 hP hD hS 4 1 rfl rfl kM_RX0_82 (by decide) (by decide) (by decide) (by decide) (by decide) (Nat.le_of_ble_eq_true rfl) (Nat.le_of_ble_eq_true rfl) (cpyz _ _ _) rfl dX0_look_66 (fun H locs hP hD hS => ?_)
  exact q_vret (rm := (Rm 1 60 0 0)) C hS () trivial (q_subP hP [0, 1, 2, 3, 4] rfl) (hD.sub [0, 1, 2, 3, 4] (by decide) rfl) (Nat.le_of_ble_eq_true rfl) (Nat.le_of_ble_eq_true rfl) dX0_look_69
set_option maxHeartbeats 4000000 in
set_option maxRecDepth 100000 in
theorem c_look_5 (l : Launch) (D : va_G) (cy : Nat → ClassId) (h : Nat) (o : Nat) (q : Nat) (h0 : Nat) (h1 : Nat) (h2 : Nat) (h3 : Nat) (h4 : Nat) (h5 : Nat) (o0 : Nat) (o1 : Nat) (o2 : Nat) (q0 : Nat) (q1 : Nat) (q2 : Nat) (q3 : Nat) (q4 : Nat) (q5 : Nat) (sz : Nat)  : MV l yX0_look cX0_look 4 (Rm 1 60 0 0) D cy [.ref h, .ref o, .ref q, .int 5] sz [(h, .inr (0, [.int 0, .int 0, .int (-1), .ref h0, .ref h1, .ref h2, .ref h3, .ref h4, .int 0, .ref h5, .int 0, .int 0, .int 1, .int 1, .int 0, .int 0])), (h5, .inl (cy 1, 81, .inl (fun _ => 0))), (o, .inr (6, [.int 4, .int 4, .int 10, .int 1, .int 3, .int 0, .int 0, .int 0, .ref o0, .ref o1, .ref o2])), (q, .inr (8, [.ref q0, .ref q1, .ref q2, .ref q3, .ref q4, .int 0, .int 0, .ref q5])), (q2, .inl (cy 1, 8, .inl (fun _ => 0)))] (fun _ : Unit => True) (fun u : Unit => [(h, .inr (0, [.int 0, .int 0, .int (-1), .ref h0, .ref h1, .ref h2, .ref h3, .ref h4, .int 0, .ref h5, .int 0, .int 0, .int 10, .int 1, .int 0, .int 5])), (h5, .inl (cy 1, 81, .inl (fun _ => 0))), (o, .inr (6, [.int 4, .int 4, .int 10, .int 1, .int 3, .int 0, .int 0, .int 0, .ref o0, .ref o1, .ref o2])), (q, .inr (8, [.ref q0, .ref q1, .ref q2, .ref q3, .ref q4, .int 0, .int 0, .ref q5])), (q2, .inl (cy 1, 8, .inl (fun _ => 0)))]) := by
  refine MV.enter (by decide) (Nat.le_of_ble_eq_true rfl) ?_
  intro p e s m below meth c ls A hsz hAe C hP hD hS hl
  have C : Cx p s m _ meth c cX0_look 4 none RX0 "look" D cy A := C
  have hx := C.1
  have hb := C.2.1
  have hl : lv_has ls 4 [(0, .ref h), (1, .ref o), (2, .ref q), (3, .int 5)] := hl
  refine lv_aload_n hx hb dX0_look_0 rfl (lv_at hl 0 rfl) ?_
  refine lv_aload_n hx hb dX0_look_1 rfl (lv_at hl 1 rfl) ?_
  refine q_get (v := .int 0) C hP 2 6 rfl rfl inX6 (by decide) kF_RX0_61 rfl rfl dX0_look_2 ?_
  refine q_put (v := .int 0) (w' := [(h, .inr (0, [.int 0, .int 0, .int (-1), .ref h0, .ref h1, .ref h2, .ref h3, .ref h4, .int 0, .ref h5, .int 0, .int 0, .int 1, .int 1, .int 0, .int 0])), (h5, .inl (cy 1, 81, .inl (fun _ => 0))), (o, .inr (6, [.int 4, .int 4, .int 10, .int 1, .int 3, .int 0, .int 0, .int 0, .ref o0, .ref o1, .ref o2])), (q, .inr (8, [.ref q0, .ref q1, .ref q2, .ref q3, .ref q4, .int 0, .int 0, .ref q5])), (q2, .inl (cy 1, 8, .inl (fun _ => 0)))]) (ty := .int) C hP hD hS 0 10 rfl rfl inX0 tyX0 tyX0_ok nmX0 (by decide) kF_RX0_43 rfl rfl rfl rfl rfl (Nat.le_of_ble_eq_true rfl) rfl dX0_look_5 (fun H locs hP hD hS => ?_)
  refine lv_aload_n hx hb dX0_look_8 rfl (lv_at hl 0 rfl) ?_
  refine lv_aload_n hx hb dX0_look_9 rfl (lv_at hl 1 rfl) ?_
  refine q_get (v := .int 0) C hP 2 7 rfl rfl inX6 (by decide) kF_RX0_64 rfl rfl dX0_look_10 ?_
  refine q_put (v := .int 0) (w' := [(h, .inr (0, [.int 0, .int 0, .int (-1), .ref h0, .ref h1, .ref h2, .ref h3, .ref h4, .int 0, .ref h5, .int 0, .int 0, .int 1, .int 1, .int 0, .int 0])), (h5, .inl (cy 1, 81, .inl (fun _ => 0))), (o, .inr (6, [.int 4, .int 4, .int 10, .int 1, .int 3, .int 0, .int 0, .int 0, .ref o0, .ref o1, .ref o2])), (q, .inr (8, [.ref q0, .ref q1, .ref q2, .ref q3, .ref q4, .int 0, .int 0, .ref q5])), (q2, .inl (cy 1, 8, .inl (fun _ => 0)))]) (ty := .int) C hP hD hS 0 11 rfl rfl inX0 tyX0 tyX0_ok nmX0 (by decide) kF_RX0_46 rfl rfl rfl rfl rfl (Nat.le_of_ble_eq_true rfl) rfl dX0_look_13 (fun H locs hP hD hS => ?_)
  refine lv_aload_n hx hb dX0_look_16 rfl (lv_at hl 0 rfl) ?_
  refine lv_aload_n hx hb dX0_look_17 rfl (lv_at hl 1 rfl) ?_
  refine q_get (v := .int 10) C hP 2 2 rfl rfl inX6 (by decide) kF_RX0_65 rfl rfl dX0_look_18 ?_
  refine q_put (v := .int 10) (w' := [(h, .inr (0, [.int 0, .int 0, .int (-1), .ref h0, .ref h1, .ref h2, .ref h3, .ref h4, .int 0, .ref h5, .int 0, .int 0, .int 10, .int 1, .int 0, .int 0])), (h5, .inl (cy 1, 81, .inl (fun _ => 0))), (o, .inr (6, [.int 4, .int 4, .int 10, .int 1, .int 3, .int 0, .int 0, .int 0, .ref o0, .ref o1, .ref o2])), (q, .inr (8, [.ref q0, .ref q1, .ref q2, .ref q3, .ref q4, .int 0, .int 0, .ref q5])), (q2, .inl (cy 1, 8, .inl (fun _ => 0)))]) (ty := .int) C hP hD hS 0 12 rfl rfl inX0 tyX0 tyX0_ok nmX0 (by decide) kF_RX0_49 rfl rfl rfl rfl rfl (Nat.le_of_ble_eq_true rfl) rfl dX0_look_21 (fun H locs hP hD hS => ?_)
  refine lv_aload_n hx hb dX0_look_24 rfl (lv_at hl 0 rfl) ?_
  refine lv_iconst (v := 1) hx hb dX0_look_25 (by decide) ?_
  refine lv_aload_n hx hb dX0_look_26 rfl (lv_at hl 1 rfl) ?_
  refine q_get (v := .int 1) C hP 2 3 rfl rfl inX6 (by decide) kF_RX0_66 rfl rfl dX0_look_27 ?_
  refine q_mmax C hl.1 kM_RX0_67 (Nat.le_of_ble_eq_true rfl) (Nat.le_of_ble_eq_true rfl) (Nat.le_of_ble_eq_true rfl) (Nat.le_of_ble_eq_true rfl) dX0_look_30 ?_
  refine q_val (v := 1) (by decide) ?_
  refine q_put (v := .int 1) (w' := [(h, .inr (0, [.int 0, .int 0, .int (-1), .ref h0, .ref h1, .ref h2, .ref h3, .ref h4, .int 0, .ref h5, .int 0, .int 0, .int 10, .int 1, .int 0, .int 0])), (h5, .inl (cy 1, 81, .inl (fun _ => 0))), (o, .inr (6, [.int 4, .int 4, .int 10, .int 1, .int 3, .int 0, .int 0, .int 0, .ref o0, .ref o1, .ref o2])), (q, .inr (8, [.ref q0, .ref q1, .ref q2, .ref q3, .ref q4, .int 0, .int 0, .ref q5])), (q2, .inl (cy 1, 8, .inl (fun _ => 0)))]) (ty := .int) C hP hD hS 0 13 rfl rfl inX0 tyX0 tyX0_ok nmX0 (by decide) kF_RX0_52 rfl rfl rfl rfl rfl (Nat.le_of_ble_eq_true rfl) rfl dX0_look_33 (fun H locs hP hD hS => ?_)
  refine lv_aload_n hx hb dX0_look_36 rfl (lv_at hl 0 rfl) ?_
  refine lv_aload_n hx hb dX0_look_37 rfl (lv_at hl 2 rfl) ?_
  refine q_get (v := .int 0) C hP 3 5 rfl rfl inX8 (by decide) kF_RX0_73 rfl rfl dX0_look_38 ?_
  refine q_put (v := .int 0) (w' := [(h, .inr (0, [.int 0, .int 0, .int (-1), .ref h0, .ref h1, .ref h2, .ref h3, .ref h4, .int 0, .ref h5, .int 0, .int 0, .int 10, .int 1, .int 0, .int 0])), (h5, .inl (cy 1, 81, .inl (fun _ => 0))), (o, .inr (6, [.int 4, .int 4, .int 10, .int 1, .int 3, .int 0, .int 0, .int 0, .ref o0, .ref o1, .ref o2])), (q, .inr (8, [.ref q0, .ref q1, .ref q2, .ref q3, .ref q4, .int 0, .int 0, .ref q5])), (q2, .inl (cy 1, 8, .inl (fun _ => 0)))]) (ty := .int) C hP hD hS 0 14 rfl rfl inX0 tyX0 tyX0_ok nmX0 (by decide) kF_RX0_55 rfl rfl rfl rfl rfl (Nat.le_of_ble_eq_true rfl) rfl dX0_look_41 (fun H locs hP hD hS => ?_)
  refine lv_aload_n hx hb dX0_look_44 rfl (lv_at hl 0 rfl) ?_
  refine lv_iload_n hx hb dX0_look_45 rfl (lv_at hl 3 rfl) ?_
  refine lv_bipush (v := 8) hx hb dX0_look_46 (by decide) ?_
  refine q_mmin C hl.1 kM_RX0_76 (Nat.le_of_ble_eq_true rfl) (Nat.le_of_ble_eq_true rfl) (Nat.le_of_ble_eq_true rfl) (Nat.le_of_ble_eq_true rfl) dX0_look_48 ?_
  refine q_val (v := 5) (by decide) ?_
  refine q_put (v := .int 5) (w' := [(h, .inr (0, [.int 0, .int 0, .int (-1), .ref h0, .ref h1, .ref h2, .ref h3, .ref h4, .int 0, .ref h5, .int 0, .int 0, .int 10, .int 1, .int 0, .int 5])), (h5, .inl (cy 1, 81, .inl (fun _ => 0))), (o, .inr (6, [.int 4, .int 4, .int 10, .int 1, .int 3, .int 0, .int 0, .int 0, .ref o0, .ref o1, .ref o2])), (q, .inr (8, [.ref q0, .ref q1, .ref q2, .ref q3, .ref q4, .int 0, .int 0, .ref q5])), (q2, .inl (cy 1, 8, .inl (fun _ => 0)))]) (ty := .int) C hP hD hS 0 15 rfl rfl inX0 tyX0 tyX0_ok nmX0 (by decide) kF_RX0_58 rfl rfl rfl rfl rfl (Nat.le_of_ble_eq_true rfl) rfl dX0_look_51 (fun H locs hP hD hS => ?_)
  refine lv_aload_n hx hb dX0_look_54 rfl (lv_at hl 2 rfl) ?_
  refine q_get (v := .ref q2) C hP 3 2 rfl rfl inX8 (by decide) kF_RX0_79 rfl rfl dX0_look_55 ?_
  refine lv_iconst (v := 0) hx hb dX0_look_58 (by decide) ?_
  refine lv_aload_n hx hb dX0_look_59 rfl (lv_at hl 0 rfl) ?_
  refine q_get (v := .ref h5) C hP 0 9 rfl rfl inX0 (by decide) kF_RX0_40 rfl rfl dX0_look_60 ?_
  refine lv_iconst (v := 0) hx hb dX0_look_63 (by decide) ?_
  refine lv_bipush (v := 8) hx hb dX0_look_64 (by decide) ?_
  refine q_copy (g' := fun _ => 0) (w' := [(h, .inr (0, [.int 0, .int 0, .int (-1), .ref h0, .ref h1, .ref h2, .ref h3, .ref h4, .int 0, .ref h5, .int 0, .int 0, .int 10, .int 1, .int 0, .int 5])), (h5, .inl (cy 1, 81, .inl (fun _ => 0))), (o, .inr (6, [.int 4, .int 4, .int 10, .int 1, .int 3, .int 0, .int 0, .int 0, .ref o0, .ref o1, .ref o2])), (q, .inr (8, [.ref q0, .ref q1, .ref q2, .ref q3, .ref q4, .int 0, .int 0, .ref q5])), (q2, .inl (cy 1, 8, .inl (fun _ => 0)))]) C hl.1 hP hD hS 4 1 rfl rfl kM_RX0_82 (by decide) (by decide) (by decide) (by decide) (by decide) (Nat.le_of_ble_eq_true rfl) (Nat.le_of_ble_eq_true rfl) (cpyz _ _ _) rfl dX0_look_66 (fun H locs hP hD hS => ?_)
  exact q_vret (rm := (Rm 1 60 0 0)) C hS () trivial (q_subP hP [0, 1, 2, 3, 4] rfl) (hD.sub [0, 1, 2, 3, 4] (by decide) rfl) (Nat.le_of_ble_eq_true rfl) (Nat.le_of_ble_eq_true rfl) dX0_look_69
set_option maxHeartbeats 4000000 in
set_option maxRecDepth 100000 in
theorem c_look_6 (l : Launch) (D : va_G) (cy : Nat → ClassId) (h : Nat) (o : Nat) (q : Nat) (h0 : Nat) (h1 : Nat) (h2 : Nat) (h3 : Nat) (h4 : Nat) (h5 : Nat) (o0 : Nat) (o1 : Nat) (o2 : Nat) (q0 : Nat) (q1 : Nat) (q2 : Nat) (q3 : Nat) (q4 : Nat) (q5 : Nat) (sz : Nat)  : MV l yX0_look cX0_look 4 (Rm 1 60 0 0) D cy [.ref h, .ref o, .ref q, .int 6] sz [(h, .inr (0, [.int 0, .int 0, .int (-1), .ref h0, .ref h1, .ref h2, .ref h3, .ref h4, .int 0, .ref h5, .int 0, .int 0, .int 1, .int 1, .int 0, .int 0])), (h5, .inl (cy 1, 81, .inl (fun _ => 0))), (o, .inr (6, [.int 4, .int 4, .int 10, .int 1, .int 3, .int 0, .int 0, .int 0, .ref o0, .ref o1, .ref o2])), (q, .inr (8, [.ref q0, .ref q1, .ref q2, .ref q3, .ref q4, .int 0, .int 0, .ref q5])), (q2, .inl (cy 1, 8, .inl (fun _ => 0)))] (fun _ : Unit => True) (fun u : Unit => [(h, .inr (0, [.int 0, .int 0, .int (-1), .ref h0, .ref h1, .ref h2, .ref h3, .ref h4, .int 0, .ref h5, .int 0, .int 0, .int 10, .int 1, .int 0, .int 6])), (h5, .inl (cy 1, 81, .inl (fun _ => 0))), (o, .inr (6, [.int 4, .int 4, .int 10, .int 1, .int 3, .int 0, .int 0, .int 0, .ref o0, .ref o1, .ref o2])), (q, .inr (8, [.ref q0, .ref q1, .ref q2, .ref q3, .ref q4, .int 0, .int 0, .ref q5])), (q2, .inl (cy 1, 8, .inl (fun _ => 0)))]) := by
  refine MV.enter (by decide) (Nat.le_of_ble_eq_true rfl) ?_
  intro p e s m below meth c ls A hsz hAe C hP hD hS hl
  have C : Cx p s m _ meth c cX0_look 4 none RX0 "look" D cy A := C
  have hx := C.1
  have hb := C.2.1
  have hl : lv_has ls 4 [(0, .ref h), (1, .ref o), (2, .ref q), (3, .int 6)] := hl
  refine lv_aload_n hx hb dX0_look_0 rfl (lv_at hl 0 rfl) ?_
  refine lv_aload_n hx hb dX0_look_1 rfl (lv_at hl 1 rfl) ?_
  refine q_get (v := .int 0) C hP 2 6 rfl rfl inX6 (by decide) kF_RX0_61 rfl rfl dX0_look_2 ?_
  refine q_put (v := .int 0) (w' := [(h, .inr (0, [.int 0, .int 0, .int (-1), .ref h0, .ref h1, .ref h2, .ref h3, .ref h4, .int 0, .ref h5, .int 0, .int 0, .int 1, .int 1, .int 0, .int 0])), (h5, .inl (cy 1, 81, .inl (fun _ => 0))), (o, .inr (6, [.int 4, .int 4, .int 10, .int 1, .int 3, .int 0, .int 0, .int 0, .ref o0, .ref o1, .ref o2])), (q, .inr (8, [.ref q0, .ref q1, .ref q2, .ref q3, .ref q4, .int 0, .int 0, .ref q5])), (q2, .inl (cy 1, 8, .inl (fun _ => 0)))]) (ty := .int) C hP hD hS 0 10 rfl rfl inX0 tyX0 tyX0_ok nmX0 (by decide) kF_RX0_43 rfl rfl rfl rfl rfl (Nat.le_of_ble_eq_true rfl) rfl dX0_look_5 (fun H locs hP hD hS => ?_)
  refine lv_aload_n hx hb dX0_look_8 rfl (lv_at hl 0 rfl) ?_
  refine lv_aload_n hx hb dX0_look_9 rfl (lv_at hl 1 rfl) ?_
  refine q_get (v := .int 0) C hP 2 7 rfl rfl inX6 (by decide) kF_RX0_64 rfl rfl dX0_look_10 ?_
  refine q_put (v := .int 0) (w' := [(h, .inr (0, [.int 0, .int 0, .int (-1), .ref h0, .ref h1, .ref h2, .ref h3, .ref h4, .int 0, .ref h5, .int 0, .int 0, .int 1, .int 1, .int 0, .int 0])), (h5, .inl (cy 1, 81, .inl (fun _ => 0))), (o, .inr (6, [.int 4, .int 4, .int 10, .int 1, .int 3, .int 0, .int 0, .int 0, .ref o0, .ref o1, .ref o2])), (q, .inr (8, [.ref q0, .ref q1, .ref q2, .ref q3, .ref q4, .int 0, .int 0, .ref q5])), (q2, .inl (cy 1, 8, .inl (fun _ => 0)))]) (ty := .int) C hP hD hS 0 11 rfl rfl inX0 tyX0 tyX0_ok nmX0 (by decide) kF_RX0_46 rfl rfl rfl rfl rfl (Nat.le_of_ble_eq_true rfl) rfl dX0_look_13 (fun H locs hP hD hS => ?_)
  refine lv_aload_n hx hb dX0_look_16 rfl (lv_at hl 0 rfl) ?_
  refine lv_aload_n hx hb dX0_look_17 rfl (lv_at hl 1 rfl) ?_
  refine q_get (v := .int 10) C hP 2 2 rfl rfl inX6 (by decide) kF_RX0_65 rfl rfl dX0_look_18 ?_
  refine q_put (v := .int 10) (w' := [(h, .inr (0, [.int 0, .int 0, .int (-1), .ref h0, .ref h1, .ref h2, .ref h3, .ref h4, .int 0, .ref h5, .int 0, .int 0, .int 10, .int 1, .int 0, .int 0])), (h5, .inl (cy 1, 81, .inl (fun _ => 0))), (o, .inr (6, [.int 4, .int 4, .int 10, .int 1, .int 3, .int 0, .int 0, .int 0, .ref o0, .ref o1, .ref o2])), (q, .inr (8, [.ref q0, .ref q1, .ref q2, .ref q3, .ref q4, .int 0, .int 0, .ref q5])), (q2, .inl (cy 1, 8, .inl (fun _ => 0)))]) (ty := .int) C hP hD hS 0 12 rfl rfl inX0 tyX0 tyX0_ok nmX0 (by decide) kF_RX0_49 rfl rfl rfl rfl rfl (Nat.le_of_ble_eq_true rfl) rfl dX0_look_21 (fun H locs hP hD hS => ?_)
  refine lv_aload_n hx hb dX0_look_24 rfl (lv_at hl 0 rfl) ?_
  refine lv_iconst (v := 1) hx hb dX0_look_25 (by decide) ?_
  refine lv_aload_n hx hb dX0_look_26 rfl (lv_at hl 1 rfl) ?_
  refine q_get (v := .int 1) C hP 2 3 rfl rfl inX6 (by decide) kF_RX0_66 rfl rfl dX0_look_27 ?_
  refine q_mmax C hl.1 kM_RX0_67 (Nat.le_of_ble_eq_true rfl) (Nat.le_of_ble_eq_true rfl) (Nat.le_of_ble_eq_true rfl) (Nat.le_of_ble_eq_true rfl) dX0_look_30 ?_
  refine q_val (v := 1) (by decide) ?_
  refine q_put (v := .int 1) (w' := [(h, .inr (0, [.int 0, .int 0, .int (-1), .ref h0, .ref h1, .ref h2, .ref h3, .ref h4, .int 0, .ref h5, .int 0, .int 0, .int 10, .int 1, .int 0, .int 0])), (h5, .inl (cy 1, 81, .inl (fun _ => 0))), (o, .inr (6, [.int 4, .int 4, .int 10, .int 1, .int 3, .int 0, .int 0, .int 0, .ref o0, .ref o1, .ref o2])), (q, .inr (8, [.ref q0, .ref q1, .ref q2, .ref q3, .ref q4, .int 0, .int 0, .ref q5])), (q2, .inl (cy 1, 8, .inl (fun _ => 0)))]) (ty := .int) C hP hD hS 0 13 rfl rfl inX0 tyX0 tyX0_ok nmX0 (by decide) kF_RX0_52 rfl rfl rfl rfl rfl (Nat.le_of_ble_eq_true rfl) rfl dX0_look_33 (fun H locs hP hD hS => ?_)
  refine lv_aload_n hx hb dX0_look_36 rfl (lv_at hl 0 rfl) ?_
  refine lv_aload_n hx hb dX0_look_37 rfl (lv_at hl 2 rfl) ?_
  refine q_get (v := .int 0) C hP 3 5 rfl rfl inX8 (by decide) kF_RX0_73 rfl rfl dX0_look_38 ?_
  refine q_put (v := .int 0) (w' := [(h, .inr (0, [.int 0, .int 0, .int (-1), .ref h0, .ref h1, .ref h2, .ref h3, .ref h4, .int 0, .ref h5, .int 0, .int 0, .int 10, .int 1, .int 0, .int 0])), (h5, .inl (cy 1, 81, .inl (fun _ => 0))), (o, .inr (6, [.int 4, .int 4, .int 10, .int 1, .int 3, .int 0, .int 0, .int 0, .ref o0, .ref o1, .ref o2])), (q, .inr (8, [.ref q0, .ref q1, .ref q2, .ref q3, .ref q4, .int 0, .int 0, .ref q5])), (q2, .inl (cy 1, 8, .inl (fun _ => 0)))]) (ty := .int) C hP hD hS 0 14 rfl rfl inX0 tyX0 tyX0_ok nmX0 (by decide) kF_RX0_55 rfl rfl rfl rfl rfl (Nat.le_of_ble_eq_true rfl) rfl dX0_look_41 (fun H locs hP hD hS => ?_)
  refine lv_aload_n hx hb dX0_look_44 rfl (lv_at hl 0 rfl) ?_
  refine lv_iload_n hx hb dX0_look_45 rfl (lv_at hl 3 rfl) ?_
  refine lv_bipush (v := 8) hx hb dX0_look_46 (by decide) ?_
  refine q_mmin C hl.1 kM_RX0_76 (Nat.le_of_ble_eq_true rfl) (Nat.le_of_ble_eq_true rfl) (Nat.le_of_ble_eq_true rfl) (Nat.le_of_ble_eq_true rfl) dX0_look_48 ?_
  refine q_val (v := 6) (by decide) ?_
  refine q_put (v := .int 6) (w' := [(h, .inr (0, [.int 0, .int 0, .int (-1), .ref h0, .ref h1, .ref h2, .ref h3, .ref h4, .int 0, .ref h5, .int 0, .int 0, .int 10, .int 1, .int 0, .int 6])), (h5, .inl (cy 1, 81, .inl (fun _ => 0))), (o, .inr (6, [.int 4, .int 4, .int 10, .int 1, .int 3, .int 0, .int 0, .int 0, .ref o0, .ref o1, .ref o2])), (q, .inr (8, [.ref q0, .ref q1, .ref q2, .ref q3, .ref q4, .int 0, .int 0, .ref q5])), (q2, .inl (cy 1, 8, .inl (fun _ => 0)))]) (ty := .int) C hP hD hS 0 15 rfl rfl inX0 tyX0 tyX0_ok nmX0 (by decide) kF_RX0_58 rfl rfl rfl rfl rfl (Nat.le_of_ble_eq_true rfl) rfl dX0_look_51 (fun H locs hP hD hS => ?_)
  refine lv_aload_n hx hb dX0_look_54 rfl (lv_at hl 2 rfl) ?_
  refine q_get (v := .ref q2) C hP 3 2 rfl rfl inX8 (by decide) kF_RX0_79 rfl rfl dX0_look_55 ?_
  refine lv_iconst (v := 0) hx hb dX0_look_58 (by decide) ?_
  refine lv_aload_n hx hb dX0_look_59 rfl (lv_at hl 0 rfl) ?_
  refine q_get (v := .ref h5) C hP 0 9 rfl rfl inX0 (by decide) kF_RX0_40 rfl rfl dX0_look_60 ?_
  refine lv_iconst (v := 0) hx hb dX0_look_63 (by decide) ?_
  refine lv_bipush (v := 8) hx hb dX0_look_64 (by decide) ?_
  refine q_copy (g' := fun _ => 0) (w' := [(h, .inr (0, [.int 0, .int 0, .int (-1), .ref h0, .ref h1, .ref h2, .ref h3, .ref h4, .int 0, .ref h5, .int 0, .int 0, .int 10, .int 1, .int 0, .int 6])), (h5, .inl (cy 1, 81, .inl (fun _ => 0))), (o, .inr (6, [.int 4, .int 4, .int 10, .int 1, .int 3, .int 0, .int 0, .int 0, .ref o0, .ref o1, .ref o2])), (q, .inr (8, [.ref q0, .ref q1, .ref q2, .ref q3, .ref q4, .int 0, .int 0, .ref q5])), (q2, .inl (cy 1, 8, .inl (fun _ => 0)))]) C hl.1 hP hD hS 4 1 rfl rfl kM_RX0_82 (by decide) (by decide) (by decide) (by decide) (by decide) (Nat.le_of_ble_eq_true rfl) (Nat.le_of_ble_eq_true rfl) (cpyz _ _ _) rfl dX0_look_66 (fun H locs hP hD hS => ?_)
  exact q_vret (rm := (Rm 1 60 0 0)) C hS () trivial (q_subP hP [0, 1, 2, 3, 4] rfl) (hD.sub [0, 1, 2, 3, 4] (by decide) rfl) (Nat.le_of_ble_eq_true rfl) (Nat.le_of_ble_eq_true rfl) dX0_look_69
set_option maxHeartbeats 4000000 in
set_option maxRecDepth 100000 in
theorem c_look_7 (l : Launch) (D : va_G) (cy : Nat → ClassId) (h : Nat) (o : Nat) (q : Nat) (h0 : Nat) (h1 : Nat) (h2 : Nat) (h3 : Nat) (h4 : Nat) (h5 : Nat) (o0 : Nat) (o1 : Nat) (o2 : Nat) (q0 : Nat) (q1 : Nat) (q2 : Nat) (q3 : Nat) (q4 : Nat) (q5 : Nat) (sz : Nat)  : MV l yX0_look cX0_look 4 (Rm 1 60 0 0) D cy [.ref h, .ref o, .ref q, .int 7] sz [(h, .inr (0, [.int 0, .int 0, .int (-1), .ref h0, .ref h1, .ref h2, .ref h3, .ref h4, .int 0, .ref h5, .int 0, .int 0, .int 1, .int 1, .int 0, .int 0])), (h5, .inl (cy 1, 81, .inl (fun _ => 0))), (o, .inr (6, [.int 4, .int 4, .int 10, .int 1, .int 3, .int 0, .int 0, .int 0, .ref o0, .ref o1, .ref o2])), (q, .inr (8, [.ref q0, .ref q1, .ref q2, .ref q3, .ref q4, .int 0, .int 0, .ref q5])), (q2, .inl (cy 1, 8, .inl (fun _ => 0)))] (fun _ : Unit => True) (fun u : Unit => [(h, .inr (0, [.int 0, .int 0, .int (-1), .ref h0, .ref h1, .ref h2, .ref h3, .ref h4, .int 0, .ref h5, .int 0, .int 0, .int 10, .int 1, .int 0, .int 7])), (h5, .inl (cy 1, 81, .inl (fun _ => 0))), (o, .inr (6, [.int 4, .int 4, .int 10, .int 1, .int 3, .int 0, .int 0, .int 0, .ref o0, .ref o1, .ref o2])), (q, .inr (8, [.ref q0, .ref q1, .ref q2, .ref q3, .ref q4, .int 0, .int 0, .ref q5])), (q2, .inl (cy 1, 8, .inl (fun _ => 0)))]) := by
  refine MV.enter (by decide) (Nat.le_of_ble_eq_true rfl) ?_
  intro p e s m below meth c ls A hsz hAe C hP hD hS hl
  have C : Cx p s m _ meth c cX0_look 4 none RX0 "look" D cy A := C
  have hx := C.1
  have hb := C.2.1
  have hl : lv_has ls 4 [(0, .ref h), (1, .ref o), (2, .ref q), (3, .int 7)] := hl
  refine lv_aload_n hx hb dX0_look_0 rfl (lv_at hl 0 rfl) ?_
  refine lv_aload_n hx hb dX0_look_1 rfl (lv_at hl 1 rfl) ?_
  refine q_get (v := .int 0) C hP 2 6 rfl rfl inX6 (by decide) kF_RX0_61 rfl rfl dX0_look_2 ?_
  refine q_put (v := .int 0) (w' := [(h, .inr (0, [.int 0, .int 0, .int (-1), .ref h0, .ref h1, .ref h2, .ref h3, .ref h4, .int 0, .ref h5, .int 0, .int 0, .int 1, .int 1, .int 0, .int 0])), (h5, .inl (cy 1, 81, .inl (fun _ => 0))), (o, .inr (6, [.int 4, .int 4, .int 10, .int 1, .int 3, .int 0, .int 0, .int 0, .ref o0, .ref o1, .ref o2])), (q, .inr (8, [.ref q0, .ref q1, .ref q2, .ref q3, .ref q4, .int 0, .int 0, .ref q5])), (q2, .inl (cy 1, 8, .inl (fun _ => 0)))]) (ty := .int) C hP hD hS 0 10 rfl rfl inX0 tyX0 tyX0_ok nmX0 (by decide) kF_RX0_43 rfl rfl rfl rfl rfl (Nat.le_of_ble_eq_true rfl) rfl dX0_look_5 (fun H locs hP hD hS => ?_)
  refine lv_aload_n hx hb dX0_look_8 rfl (lv_at hl 0 rfl) ?_
  refine lv_aload_n hx hb dX0_look_9 rfl (lv_at hl 1 rfl) ?_
  refine q_get (v := .int 0) C hP 2 7 rfl rfl inX6 (by decide) kF_RX0_64 rfl rfl dX0_look_10 ?_
  refine q_put (v := .int 0) (w' := [(h, .inr (0, [.int 0, .int 0, .int (-1), .ref h0, .ref h1, .ref h2, .ref h3, .ref h4, .int 0, .ref h5, .int 0, .int 0, .int 1, .int 1, .int 0, .int 0])), (h5, .inl (cy 1, 81, .inl (fun _ => 0))), (o, .inr (6, [.int 4, .int 4, .int 10, .int 1, .int 3, .int 0, .int 0, .int 0, .ref o0, .ref o1, .ref o2])), (q, .inr (8, [.ref q0, .ref q1, .ref q2, .ref q3, .ref q4, .int 0, .int 0, .ref q5])), (q2, .inl (cy 1, 8, .inl (fun _ => 0)))]) (ty := .int) C hP hD hS 0 11 rfl rfl inX0 tyX0 tyX0_ok nmX0 (by decide) kF_RX0_46 rfl rfl rfl rfl rfl (Nat.le_of_ble_eq_true rfl) rfl dX0_look_13 (fun H locs hP hD hS => ?_)
  refine lv_aload_n hx hb dX0_look_16 rfl (lv_at hl 0 rfl) ?_
  refine lv_aload_n hx hb dX0_look_17 rfl (lv_at hl 1 rfl) ?_
  refine q_get (v := .int 10) C hP 2 2 rfl rfl inX6 (by decide) kF_RX0_65 rfl rfl dX0_look_18 ?_
  refine q_put (v := .int 10) (w' := [(h, .inr (0, [.int 0, .int 0, .int (-1), .ref h0, .ref h1, .ref h2, .ref h3, .ref h4, .int 0, .ref h5, .int 0, .int 0, .int 10, .int 1, .int 0, .int 0])), (h5, .inl (cy 1, 81, .inl (fun _ => 0))), (o, .inr (6, [.int 4, .int 4, .int 10, .int 1, .int 3, .int 0, .int 0, .int 0, .ref o0, .ref o1, .ref o2])), (q, .inr (8, [.ref q0, .ref q1, .ref q2, .ref q3, .ref q4, .int 0, .int 0, .ref q5])), (q2, .inl (cy 1, 8, .inl (fun _ => 0)))]) (ty := .int) C hP hD hS 0 12 rfl rfl inX0 tyX0 tyX0_ok nmX0 (by decide) kF_RX0_49 rfl rfl rfl rfl rfl (Nat.le_of_ble_eq_true rfl) rfl dX0_look_21 (fun H locs hP hD hS => ?_)
  refine lv_aload_n hx hb dX0_look_24 rfl (lv_at hl 0 rfl) ?_
  refine lv_iconst (v := 1) hx hb dX0_look_25 (by decide) ?_
  refine lv_aload_n hx hb dX0_look_26 rfl (lv_at hl 1 rfl) ?_
  refine q_get (v := .int 1) C hP 2 3 rfl rfl inX6 (by decide) kF_RX0_66 rfl rfl dX0_look_27 ?_
  refine q_mmax C hl.1 kM_RX0_67 (Nat.le_of_ble_eq_true rfl) (Nat.le_of_ble_eq_true rfl) (Nat.le_of_ble_eq_true rfl) (Nat.le_of_ble_eq_true rfl) dX0_look_30 ?_
  refine q_val (v := 1) (by decide) ?_
  refine q_put (v := .int 1) (w' := [(h, .inr (0, [.int 0, .int 0, .int (-1), .ref h0, .ref h1, .ref h2, .ref h3, .ref h4, .int 0, .ref h5, .int 0, .int 0, .int 10, .int 1, .int 0, .int 0])), (h5, .inl (cy 1, 81, .inl (fun _ => 0))), (o, .inr (6, [.int 4, .int 4, .int 10, .int 1, .int 3, .int 0, .int 0, .int 0, .ref o0, .ref o1, .ref o2])), (q, .inr (8, [.ref q0, .ref q1, .ref q2, .ref q3, .ref q4, .int 0, .int 0, .ref q5])), (q2, .inl (cy 1, 8, .inl (fun _ => 0)))]) (ty := .int) C hP hD hS 0 13 rfl rfl inX0 tyX0 tyX0_ok nmX0 (by decide) kF_RX0_52 rfl rfl rfl rfl rfl (Nat.le_of_ble_eq_true rfl) rfl dX0_look_33 (fun H locs hP hD hS => ?_)
  refine lv_aload_n hx hb dX0_look_36 rfl (lv_at hl 0 rfl) ?_
  refine lv_aload_n hx hb dX0_look_37 rfl (lv_at hl 2 rfl) ?_
  refine q_get (v := .int 0) C hP 3 5 rfl rfl inX8 (by decide) kF_RX0_73 rfl rfl dX0_look_38 ?_
  refine q_put (v := .int 0) (w' := [(h, .inr (0, [.int 0, .int 0, .int (-1), .ref h0, .ref h1, .ref h2, .ref h3, .ref h4, .int 0, .ref h5, .int 0, .int 0, .int 10, .int 1, .int 0, .int 0])), (h5, .inl (cy 1, 81, .inl (fun _ => 0))), (o, .inr (6, [.int 4, .int 4, .int 10, .int 1, .int 3, .int 0, .int 0, .int 0, .ref o0, .ref o1, .ref o2])), (q, .inr (8, [.ref q0, .ref q1, .ref q2, .ref q3, .ref q4, .int 0, .int 0, .ref q5])), (q2, .inl (cy 1, 8, .inl (fun _ => 0)))]) (ty := .int) C hP hD hS 0 14 rfl rfl inX0 tyX0 tyX0_ok nmX0 (by decide) kF_RX0_55 rfl rfl rfl rfl rfl (Nat.le_of_ble_eq_true rfl) rfl dX0_look_41 (fun H locs hP hD hS => ?_)
  refine lv_aload_n hx hb dX0_look_44 rfl (lv_at hl 0 rfl) ?_
  refine lv_iload_n hx hb dX0_look_45 rfl (lv_at hl 3 rfl) ?_
  refine lv_bipush (v := 8) hx hb dX0_look_46 (by decide) ?_
  refine q_mmin C hl.1 kM_RX0_76 (Nat.le_of_ble_eq_true rfl) (Nat.le_of_ble_eq_true rfl) (Nat.le_of_ble_eq_true rfl) (Nat.le_of_ble_eq_true rfl) dX0_look_48 ?_
  refine q_val (v := 7) (by decide) ?_
  refine q_put (v := .int 7) (w' := [(h, .inr (0, [.int 0, .int 0, .int (-1), .ref h0, .ref h1, .ref h2, .ref h3, .ref h4, .int 0, .ref h5, .int 0, .int 0, .int 10, .int 1, .int 0, .int 7])), (h5, .inl (cy 1, 81, .inl (fun _ => 0))), (o, .inr (6, [.int 4, .int 4, .int 10, .int 1, .int 3, .int 0, .int 0, .int 0, .ref o0, .ref o1, .ref o2])), (q, .inr (8, [.ref q0, .ref q1, .ref q2, .ref q3, .ref q4, .int 0, .int 0, .ref q5])), (q2, .inl (cy 1, 8, .inl (fun _ => 0)))]) (ty := .int) C hP hD hS 0 15 rfl rfl inX0 tyX0 tyX0_ok nmX0 (by decide) kF_RX0_58 rfl rfl rfl rfl rfl (Nat.le_of_ble_eq_true rfl) rfl dX0_look_51 (fun H locs hP hD hS => ?_)
  refine lv_aload_n hx hb dX0_look_54 rfl (lv_at hl 2 rfl) ?_
  refine q_get (v := .ref q2) C hP 3 2 rfl rfl inX8 (by decide) kF_RX0_79 rfl rfl dX0_look_55 ?_
  refine lv_iconst (v := 0) hx hb dX0_look_58 (by decide) ?_
  refine lv_aload_n hx hb dX0_look_59 rfl (lv_at hl 0 rfl) ?_
  refine q_get (v := .ref h5) C hP 0 9 rfl rfl inX0 (by decide) kF_RX0_40 rfl rfl dX0_look_60 ?_
  refine lv_iconst (v := 0) hx hb dX0_look_63 (by decide) ?_
  refine lv_bipush (v := 8) hx hb dX0_look_64 (by decide) ?_
  refine q_copy (g' := fun _ => 0) (w' := [(h, .inr (0, [.int 0, .int 0, .int (-1), .ref h0, .ref h1, .ref h2, .ref h3, .ref h4, .int 0, .ref h5, .int 0, .int 0, .int 10, .int 1, .int 0, .int 7])), (h5, .inl (cy 1, 81, .inl (fun _ => 0))), (o, .inr (6, [.int 4, .int 4, .int 10, .int 1, .int 3, .int 0, .int 0, .int 0, .ref o0, .ref o1, .ref o2])), (q, .inr (8, [.ref q0, .ref q1, .ref q2, .ref q3, .ref q4, .int 0, .int 0, .ref q5])), (q2, .inl (cy 1, 8, .inl (fun _ => 0)))]) C hl.1 hP hD hS 4 1 rfl rfl kM_RX0_82 (by decide) (by decide) (by decide) (by decide) (by decide) (Nat.le_of_ble_eq_true rfl) (Nat.le_of_ble_eq_true rfl) (cpyz _ _ _) rfl dX0_look_66 (fun H locs hP hD hS => ?_)
  exact q_vret (rm := (Rm 1 60 0 0)) C hS () trivial (q_subP hP [0, 1, 2, 3, 4] rfl) (hD.sub [0, 1, 2, 3, 4] (by decide) rfl) (Nat.le_of_ble_eq_true rfl) (Nat.le_of_ble_eq_true rfl) dX0_look_69
set_option maxHeartbeats 4000000 in
set_option maxRecDepth 100000 in
theorem c_look_8 (l : Launch) (D : va_G) (cy : Nat → ClassId) (h : Nat) (o : Nat) (q : Nat) (h0 : Nat) (h1 : Nat) (h2 : Nat) (h3 : Nat) (h4 : Nat) (h5 : Nat) (o0 : Nat) (o1 : Nat) (o2 : Nat) (q0 : Nat) (q1 : Nat) (q2 : Nat) (q3 : Nat) (q4 : Nat) (q5 : Nat) (sz : Nat)  : MV l yX0_look cX0_look 4 (Rm 1 60 0 0) D cy [.ref h, .ref o, .ref q, .int 8] sz [(h, .inr (0, [.int 0, .int 0, .int (-1), .ref h0, .ref h1, .ref h2, .ref h3, .ref h4, .int 0, .ref h5, .int 0, .int 0, .int 1, .int 1, .int 0, .int 0])), (h5, .inl (cy 1, 81, .inl (fun _ => 0))), (o, .inr (6, [.int 4, .int 4, .int 10, .int 1, .int 3, .int 0, .int 0, .int 0, .ref o0, .ref o1, .ref o2])), (q, .inr (8, [.ref q0, .ref q1, .ref q2, .ref q3, .ref q4, .int 0, .int 0, .ref q5])), (q2, .inl (cy 1, 8, .inl (fun _ => 0)))] (fun _ : Unit => True) (fun u : Unit => [(h, .inr (0, [.int 0, .int 0, .int (-1), .ref h0, .ref h1, .ref h2, .ref h3, .ref h4, .int 0, .ref h5, .int 0, .int 0, .int 10, .int 1, .int 0, .int 8])), (h5, .inl (cy 1, 81, .inl (fun _ => 0))), (o, .inr (6, [.int 4, .int 4, .int 10, .int 1, .int 3, .int 0, .int 0, .int 0, .ref o0, .ref o1, .ref o2])), (q, .inr (8, [.ref q0, .ref q1, .ref q2, .ref q3, .ref q4, .int 0, .int 0, .ref q5])), (q2, .inl (cy 1, 8, .inl (fun _ => 0)))]) := by
  refine MV.enter (by decide) (Nat.le_of_ble_eq_true rfl) ?_
  intro p e s m below meth c ls A hsz hAe C hP hD hS hl
  have C : Cx p s m _ meth c cX0_look 4 none RX0 "look" D cy A := C
  have hx := C.1
  have hb := C.2.1
  have hl : lv_has ls 4 [(0, .ref h), (1, .ref o), (2, .ref q), (3, .int 8)] := hl
  refine lv_aload_n hx hb dX0_look_0 rfl (lv_at hl 0 rfl) ?_
  refine lv_aload_n hx hb dX0_look_1 rfl (lv_at hl 1 rfl) ?_
  refine q_get (v := .int 0) C hP 2 6 rfl rfl inX6 (by decide) kF_RX0_61 rfl rfl dX0_look_2 ?_
  refine q_put (v := .int 0) (w' := [(h, .inr (0, [.int 0, .int 0, .int (-1), .ref h0, .ref h1, .ref h2, .ref h3, .ref h4, .int 0, .ref h5, .int 0, .int 0, .int 1, .int 1, .int 0, .int 0])), (h5, .inl (cy 1, 81, .inl (fun _ => 0))), (o, .inr (6, [.int 4, .int 4, .int 10, .int 1, .int 3, .int 0, .int 0, .int 0, .ref o0, .ref o1, .ref o2])), (q, .inr (8, [.ref q0, .ref q1, .ref q2, .ref q3, .ref q4, .int 0, .int 0, .ref q5])), (q2, .inl (cy 1, 8, .inl (fun _ => 0)))]) (ty := .int) C hP hD hS 0 10 rfl rfl inX0 tyX0 tyX0_ok nmX0 (by decide) kF_RX0_43 rfl rfl rfl rfl rfl (Nat.le_of_ble_eq_true rfl) rfl dX0_look_5 (fun H locs hP hD hS => ?_)
  refine lv_aload_n hx hb dX0_look_8 rfl (lv_at hl 0 rfl) ?_
  refine lv_aload_n hx hb dX0_look_9 rfl (lv_at hl 1 rfl) ?_
  refine q_get (v := .int 0) C hP 2 7 rfl rfl inX6 (by decide) kF_RX0_64 rfl rfl dX0_look_10 ?_
  refine q_put (v := .int 0) (w' := [(h, .inr (0, [.int 0, .int 0, .int (-1), .ref h0, .ref h1, .ref h2, .ref h3, .ref h4, .int 0, .ref h5, .int 0, .int 0, .int 1, .int 1, .int 0, .int 0])), (h5, .inl (cy 1, 81, .inl (fun _ => 0))), (o, .inr (6, [.int 4, .int 4, .int 10, .int 1, .int 3, .int 0, .int 0, .int 0, .ref o0, .ref o1, .ref o2])), (q, .inr (8, [.ref q0, .ref q1, .ref q2, .ref q3, .ref q4, .int 0, .int 0, .ref q5])), (q2, .inl (cy 1, 8, .inl (fun _ => 0)))]) (ty := .int) C hP hD hS 0 11 rfl rfl inX0 tyX0 tyX0_ok nmX0 (by decide) kF_RX0_46 rfl rfl rfl rfl rfl (Nat.le_of_ble_eq_true rfl) rfl dX0_look_13 (fun H locs hP hD hS => ?_)
  refine lv_aload_n hx hb dX0_look_16 rfl (lv_at hl 0 rfl) ?_
  refine lv_aload_n hx hb dX0_look_17 rfl (lv_at hl 1 rfl) ?_
  refine q_get (v := .int 10) C hP 2 2 rfl rfl inX6 (by decide) kF_RX0_65 rfl rfl dX0_look_18 ?_
  refine q_put (v := .int 10) (w' := [(h, .inr (0, [.int 0, .int 0, .int (-1), .ref h0, .ref h1, .ref h2, .ref h3, .ref h4, .int 0, .ref h5, .int 0, .int 0, .int 10, .int 1, .int 0, .int 0])), (h5, .inl (cy 1, 81, .inl (fun _ => 0))), (o, .inr (6, [.int 4, .int 4, .int 10, .int 1, .int 3, .int 0, .int 0, .int 0, .ref o0, .ref o1, .ref o2])), (q, .inr (8, [.ref q0, .ref q1, .ref q2, .ref q3, .ref q4, .int 0, .int 0, .ref q5])), (q2, .inl (cy 1, 8, .inl (fun _ => 0)))]) (ty := .int) C hP hD hS 0 12 rfl rfl inX0 tyX0 tyX0_ok nmX0 (by decide) kF_RX0_49 rfl rfl rfl rfl rfl (Nat.le_of_ble_eq_true rfl) rfl dX0_look_21 (fun H locs hP hD hS => ?_)
  refine lv_aload_n hx hb dX0_look_24 rfl (lv_at hl 0 rfl) ?_
  refine lv_iconst (v := 1) hx hb dX0_look_25 (by decide) ?_
  refine lv_aload_n hx hb dX0_look_26 rfl (lv_at hl 1 rfl) ?_
  refine q_get (v := .int 1) C hP 2 3 rfl rfl inX6 (by decide) kF_RX0_66 rfl rfl dX0_look_27 ?_
  refine q_mmax C hl.1 kM_RX0_67 (Nat.le_of_ble_eq_true rfl) (Nat.le_of_ble_eq_true rfl) (Nat.le_of_ble_eq_true rfl) (Nat.le_of_ble_eq_true rfl) dX0_look_30 ?_
  refine q_val (v := 1) (by decide) ?_
  refine q_put (v := .int 1) (w' := [(h, .inr (0, [.int 0, .int 0, .int (-1), .ref h0, .ref h1, .ref h2, .ref h3, .ref h4, .int 0, .ref h5, .int 0, .int 0, .int 10, .int 1, .int 0, .int 0])), (h5, .inl (cy 1, 81, .inl (fun _ => 0))), (o, .inr (6, [.int 4, .int 4, .int 10, .int 1, .int 3, .int 0, .int 0, .int 0, .ref o0, .ref o1, .ref o2])), (q, .inr (8, [.ref q0, .ref q1, .ref q2, .ref q3, .ref q4, .int 0, .int 0, .ref q5])), (q2, .inl (cy 1, 8, .inl (fun _ => 0)))]) (ty := .int) C hP hD hS 0 13 rfl rfl inX0 tyX0 tyX0_ok nmX0 (by decide) kF_RX0_52 rfl rfl rfl rfl rfl (Nat.le_of_ble_eq_true rfl) rfl dX0_look_33 (fun H locs hP hD hS => ?_)
  refine lv_aload_n hx hb dX0_look_36 rfl (lv_at hl 0 rfl) ?_
  refine lv_aload_n hx hb dX0_look_37 rfl (lv_at hl 2 rfl) ?_
  refine q_get (v := .int 0) C hP 3 5 rfl rfl inX8 (by decide) kF_RX0_73 rfl rfl dX0_look_38 ?_
  refine q_put (v := .int 0) (w' := [(h, .inr (0, [.int 0, .int 0, .int (-1), .ref h0, .ref h1, .ref h2, .ref h3, .ref h4, .int 0, .ref h5, .int 0, .int 0, .int 10, .int 1, .int 0, .int 0])), (h5, .inl (cy 1, 81, .inl (fun _ => 0))), (o, .inr (6, [.int 4, .int 4, .int 10, .int 1, .int 3, .int 0, .int 0, .int 0, .ref o0, .ref o1, .ref o2])), (q, .inr (8, [.ref q0, .ref q1, .ref q2, .ref q3, .ref q4, .int 0, .int 0, .ref q5])), (q2, .inl (cy 1, 8, .inl (fun _ => 0)))]) (ty := .int) C hP hD hS 0 14 rfl rfl inX0 tyX0 tyX0_ok nmX0 (by decide) kF_RX0_55 rfl rfl rfl rfl rfl (Nat.le_of_ble_eq_true rfl) rfl dX0_look_41 (fun H locs hP hD hS => ?_)
  refine lv_aload_n hx hb dX0_look_44 rfl (lv_at hl 0 rfl) ?_
  refine lv_iload_n hx hb dX0_look_45 rfl (lv_at hl 3 rfl) ?_
  refine lv_bipush (v := 8) hx hb dX0_look_46 (by decide) ?_
  refine q_mmin C hl.1 kM_RX0_76 (Nat.le_of_ble_eq_true rfl) (Nat.le_of_ble_eq_true rfl) (Nat.le_of_ble_eq_true rfl) (Nat.le_of_ble_eq_true rfl) dX0_look_48 ?_
  refine q_val (v := 8) (by decide) ?_
  refine q_put (v := .int 8) (w' := [(h, .inr (0, [.int 0, .int 0, .int (-1), .ref h0, .ref h1, .ref h2, .ref h3, .ref h4, .int 0, .ref h5, .int 0, .int 0, .int 10, .int 1, .int 0, .int 8])), (h5, .inl (cy 1, 81, .inl (fun _ => 0))), (o, .inr (6, [.int 4, .int 4, .int 10, .int 1, .int 3, .int 0, .int 0, .int 0, .ref o0, .ref o1, .ref o2])), (q, .inr (8, [.ref q0, .ref q1, .ref q2, .ref q3, .ref q4, .int 0, .int 0, .ref q5])), (q2, .inl (cy 1, 8, .inl (fun _ => 0)))]) (ty := .int) C hP hD hS 0 15 rfl rfl inX0 tyX0 tyX0_ok nmX0 (by decide) kF_RX0_58 rfl rfl rfl rfl rfl (Nat.le_of_ble_eq_true rfl) rfl dX0_look_51 (fun H locs hP hD hS => ?_)
  refine lv_aload_n hx hb dX0_look_54 rfl (lv_at hl 2 rfl) ?_
  refine q_get (v := .ref q2) C hP 3 2 rfl rfl inX8 (by decide) kF_RX0_79 rfl rfl dX0_look_55 ?_
  refine lv_iconst (v := 0) hx hb dX0_look_58 (by decide) ?_
  refine lv_aload_n hx hb dX0_look_59 rfl (lv_at hl 0 rfl) ?_
  refine q_get (v := .ref h5) C hP 0 9 rfl rfl inX0 (by decide) kF_RX0_40 rfl rfl dX0_look_60 ?_
  refine lv_iconst (v := 0) hx hb dX0_look_63 (by decide) ?_
  refine lv_bipush (v := 8) hx hb dX0_look_64 (by decide) ?_
  refine q_copy (g' := fun _ => 0) (w' := [(h, .inr (0, [.int 0, .int 0, .int (-1), .ref h0, .ref h1, .ref h2, .ref h3, .ref h4, .int 0, .ref h5, .int 0, .int 0, .int 10, .int 1, .int 0, .int 8])), (h5, .inl (cy 1, 81, .inl (fun _ => 0))), (o, .inr (6, [.int 4, .int 4, .int 10, .int 1, .int 3, .int 0, .int 0, .int 0, .ref o0, .ref o1, .ref o2])), (q, .inr (8, [.ref q0, .ref q1, .ref q2, .ref q3, .ref q4, .int 0, .int 0, .ref q5])), (q2, .inl (cy 1, 8, .inl (fun _ => 0)))]) C hl.1 hP hD hS 4 1 rfl rfl kM_RX0_82 (by decide) (by decide) (by decide) (by decide) (by decide) (Nat.le_of_ble_eq_true rfl) (Nat.le_of_ble_eq_true rfl) (cpyz _ _ _) rfl dX0_look_66 (fun H locs hP hD hS => ?_)
  exact q_vret (rm := (Rm 1 60 0 0)) C hS () trivial (q_subP hP [0, 1, 2, 3, 4] rfl) (hD.sub [0, 1, 2, 3, 4] (by decide) rfl) (Nat.le_of_ble_eq_true rfl) (Nat.le_of_ble_eq_true rfl) dX0_look_69
set_option maxHeartbeats 4000000 in
set_option maxRecDepth 100000 in
theorem c_askNeeded (l : Launch) (D : va_G) (cy : Nat → ClassId) (h : Nat) (v : Int32) (h0 : Nat) (h1 : Nat) (h2 : Nat) (h3 : Nat) (h4 : Nat) (h5 : Nat) (dA : Int32) (sz : Nat)  : MI l yX0_askingsNeeded cX0_askingsNeeded 5 (some .int) (Rm 0 0 0 0) D cy [.ref h, .int v] sz [(h, .inr (0, [.int 0, .int 0, .int (-1), .ref h0, .ref h1, .ref h2, .ref h3, .ref h4, .int 0, .ref h5, .int 0, .int 0, .int 10, .int 1, .int 0, .int dA]))] (fun (r : Int32) (u : Unit) => r = 0) (fun u : Unit => [(h, .inr (0, [.int 0, .int 0, .int (-1), .ref h0, .ref h1, .ref h2, .ref h3, .ref h4, .int 0, .ref h5, .int 0, .int 0, .int 10, .int 1, .int 0, .int dA]))]) := by
  refine MI.enter (by decide) (Nat.le_of_ble_eq_true rfl) ?_
  intro p e s m below meth c ls A hsz hAe C hP hD hS hl
  have C : Cx p s m _ meth c cX0_askingsNeeded 5 (some .int) RX0 "askingsNeeded" D cy A := C
  have hx := C.1
  have hb := C.2.1
  have hl : lv_has ls 5 [(0, .ref h), (1, .int v)] := hl
  refine lv_iconst (v := 0) hx hb dX0_askingsNeeded_0 (by decide) ?_
  refine lv_istore_n (lv' := [(2, .int 0), (0, .ref h), (1, .int v)]) hx hb dX0_askingsNeeded_1 rfl hl (by decide) rfl (fun ls hl => ?_)
  refine lv_iconst (v := 0) hx hb dX0_askingsNeeded_2 (by decide) ?_
  refine lv_istore_n (lv' := [(3, .int 0), (2, .int 0), (0, .ref h), (1, .int v)]) hx hb dX0_askingsNeeded_3 rfl hl (by decide) rfl (fun ls hl => ?_)
  refine lv_iload_n hx hb dX0_askingsNeeded_4 rfl (lv_at hl 0 rfl) ?_
  refine lv_aload_n hx hb dX0_askingsNeeded_5 rfl (lv_at hl 2 rfl) ?_
  refine q_get (v := .int 0) C hP 0 10 rfl rfl inX0 (by decide) kF_RX0_43 rfl rfl dX0_askingsNeeded_6 ?_
  refine lv_icmp_ge (tgt := 78) hx hb dX0_askingsNeeded_9 (by decide) (fun _ => ?_) (fun c_0 => absurd (by decide) c_0)
  refine lv_iload_n hx hb dX0_askingsNeeded_78 rfl (lv_at hl 1 rfl) ?_
  exact q_iret (rm := (Rm 0 0 0 0)) C hS () rfl rfl (q_subP hP [0] rfl) (hD.sub [0] (by decide) rfl) (Nat.le_of_ble_eq_true rfl) (Nat.le_of_ble_eq_true rfl) dX0_askingsNeeded_79
set_option maxHeartbeats 4000000 in
set_option maxRecDepth 100000 in
theorem c_passDay (l : Launch) (D : va_G) (cy : Nat → ClassId) (h : Nat) (v : Int32) (h0 : Nat) (h1 : Nat) (h2 : Nat) (h3 : Nat) (h4 : Nat) (h5 : Nat) (dA : Int32) (sz : Nat)  : MV l yX0_passDay cX0_passDay 5 (Rm 0 0 0 0) D cy [.ref h, .int v] sz [(h, .inr (0, [.int 0, .int 0, .int (-1), .ref h0, .ref h1, .ref h2, .ref h3, .ref h4, .int 0, .ref h5, .int 0, .int 0, .int 10, .int 1, .int 0, .int dA]))] (fun _ : Unit => True) (fun u : Unit => [(h, .inr (0, [.int 0, .int 0, .int (-1), .ref h0, .ref h1, .ref h2, .ref h3, .ref h4, .int 0, .ref h5, .int 0, .int 0, .int 10, .int 1, .int 0, .int dA]))]) := by
  refine MV.enter (by decide) (Nat.le_of_ble_eq_true rfl) ?_
  intro p e s m below meth c ls A hsz hAe C hP hD hS hl
  have C : Cx p s m _ meth c cX0_passDay 5 none RX0 "passDay" D cy A := C
  have hx := C.1
  have hb := C.2.1
  have hl : lv_has ls 5 [(0, .ref h), (1, .int v)] := hl
  refine lv_iload_n hx hb dX0_passDay_0 rfl (lv_at hl 1 rfl) ?_
  refine lv_bipush (v := 9) hx hb dX0_passDay_1 (by decide) ?_
  refine lv_imul hx hb dX0_passDay_3 ?_
  refine lv_istore_n (lv' := [(2, .int (v * 9)), (0, .ref h), (1, .int v)]) hx hb dX0_passDay_4 rfl hl (by decide) rfl (fun ls hl => ?_)
  refine lv_iconst (v := 0) hx hb dX0_passDay_5 (by decide) ?_
  refine lv_istore_n (lv' := [(3, .int 0), (2, .int (v * 9)), (0, .ref h), (1, .int v)]) hx hb dX0_passDay_6 rfl hl (by decide) rfl (fun ls hl => ?_)
  refine lv_iload_n hx hb dX0_passDay_7 rfl (lv_at hl 0 rfl) ?_
  refine lv_aload_n hx hb dX0_passDay_8 rfl (lv_at hl 2 rfl) ?_
  refine q_get (v := .int 0) C hP 0 10 rfl rfl inX0 (by decide) kF_RX0_43 rfl rfl dX0_passDay_9 ?_
  refine lv_icmp_ge (tgt := 74) hx hb dX0_passDay_12 (by decide) (fun _ => ?_) (fun c_0 => absurd (by decide) c_0)
  exact q_vret (rm := (Rm 0 0 0 0)) C hS () trivial (q_subP hP [0] rfl) (hD.sub [0] (by decide) rfl) (Nat.le_of_ble_eq_true rfl) (Nat.le_of_ble_eq_true rfl) dX0_passDay_74
set_option maxHeartbeats 4000000 in
set_option maxRecDepth 100000 in
theorem c_rareDoubt (l : Launch) (D : va_G) (cy : Nat → ClassId) (h : Nat) (v : Int32) (h0 : Nat) (h1 : Nat) (h2 : Nat) (h3 : Nat) (h4 : Nat) (h5 : Nat) (dA : Int32) (sz : Nat)  : MI l yX0_areRareInDoubt cX0_areRareInDoubt 3 (some .boolean) (Rm 0 0 0 0) D cy [.ref h, .int v] sz [(h, .inr (0, [.int 0, .int 0, .int (-1), .ref h0, .ref h1, .ref h2, .ref h3, .ref h4, .int 0, .ref h5, .int 0, .int 0, .int 10, .int 1, .int 0, .int dA]))] (fun (r : Int32) (u : Unit) => r = 1) (fun u : Unit => [(h, .inr (0, [.int 0, .int 0, .int (-1), .ref h0, .ref h1, .ref h2, .ref h3, .ref h4, .int 0, .ref h5, .int 0, .int 0, .int 10, .int 1, .int 0, .int dA]))]) := by
  refine MI.enter (by decide) (Nat.le_of_ble_eq_true rfl) ?_
  intro p e s m below meth c ls A hsz hAe C hP hD hS hl
  have C : Cx p s m _ meth c cX0_areRareInDoubt 3 (some .boolean) RX0 "areRareInDoubt" D cy A := C
  have hx := C.1
  have hb := C.2.1
  have hl : lv_has ls 3 [(0, .ref h), (1, .int v)] := hl
  refine lv_iconst (v := 0) hx hb dX0_areRareInDoubt_0 (by decide) ?_
  refine lv_istore_n (lv' := [(2, .int 0), (0, .ref h), (1, .int v)]) hx hb dX0_areRareInDoubt_1 rfl hl (by decide) rfl (fun ls hl => ?_)
  refine lv_iload_n hx hb dX0_areRareInDoubt_2 rfl (lv_at hl 0 rfl) ?_
  refine lv_aload_n hx hb dX0_areRareInDoubt_3 rfl (lv_at hl 1 rfl) ?_
  refine q_get (v := .int 0) C hP 0 10 rfl rfl inX0 (by decide) kF_RX0_43 rfl rfl dX0_areRareInDoubt_4 ?_
  refine lv_icmp_ge (tgt := 48) hx hb dX0_areRareInDoubt_7 (by decide) (fun _ => ?_) (fun c_0 => absurd (by decide) c_0)
  refine lv_iconst (v := 1) hx hb dX0_areRareInDoubt_48 (by decide) ?_
  exact q_iret (rm := (Rm 0 0 0 0)) C hS () rfl rfl (q_subP hP [0] rfl) (hD.sub [0] (by decide) rfl) (Nat.le_of_ble_eq_true rfl) (Nat.le_of_ble_eq_true rfl) dX0_areRareInDoubt_49
set_option maxHeartbeats 4000000 in
set_option maxRecDepth 100000 in
theorem c_bookChosen (l : Launch) (D : va_G) (cy : Nat → ClassId) (h : Nat) (h0 : Nat) (h1 : Nat) (h2 : Nat) (h3 : Nat) (h4 : Nat) (h5 : Nat) (dA : Int32) (sz : Nat)  : MI l yX0_bookChosen cX0_bookChosen 2 (some .int) (Rm 0 0 0 0) D cy [.ref h, .int 0] sz [(h, .inr (0, [.int 0, .int 0, .int (-1), .ref h0, .ref h1, .ref h2, .ref h3, .ref h4, .int 0, .ref h5, .int 0, .int 0, .int 10, .int 1, .int 0, .int dA]))] (fun (r : Int32) (u : Unit) => r = (-1)) (fun u : Unit => [(h, .inr (0, [.int 0, .int 0, .int (-1), .ref h0, .ref h1, .ref h2, .ref h3, .ref h4, .int 0, .ref h5, .int 0, .int 0, .int 10, .int 1, .int 0, .int dA]))]) := by
  refine MI.enter (by decide) (Nat.le_of_ble_eq_true rfl) ?_
  intro p e s m below meth c ls A hsz hAe C hP hD hS hl
  have C : Cx p s m _ meth c cX0_bookChosen 2 (some .int) RX0 "bookChosen" D cy A := C
  have hx := C.1
  have hb := C.2.1
  have hl : lv_has ls 2 [(0, .ref h), (1, .int 0)] := hl
  refine lv_iload_n hx hb dX0_bookChosen_0 rfl (lv_at hl 1 rfl) ?_
  refine lv_aload_n hx hb dX0_bookChosen_1 rfl (lv_at hl 0 rfl) ?_
  refine q_get (v := .int 0) C hP 0 10 rfl rfl inX0 (by decide) kF_RX0_43 rfl rfl dX0_bookChosen_2 ?_
  refine lv_icmp_ge (tgt := 12) hx hb dX0_bookChosen_5 (by decide) (fun _ => ?_) (fun c_0 => absurd (by decide) c_0)
  refine lv_iconst (v := (-1)) hx hb dX0_bookChosen_12 (by decide) ?_
  exact q_iret (rm := (Rm 0 0 0 0)) C hS () rfl rfl (q_subP hP [0] rfl) (hD.sub [0] (by decide) rfl) (Nat.le_of_ble_eq_true rfl) (Nat.le_of_ble_eq_true rfl) dX0_bookChosen_13
set_option maxHeartbeats 4000000 in
set_option maxRecDepth 100000 in
theorem c_bitOf (l : Launch) (D : va_G) (cy : Nat → ClassId)  (sz : Nat)  : MI l yX10_bitOf cX10_bitOf 2 (some .int) (Rm 0 0 0 0) D cy [.int 0, .int 0] sz [] (fun (r : Int32) (u : Unit) => r = 0) (fun u : Unit => []) := by
  refine MI.enter (by decide) (Nat.le_of_ble_eq_true rfl) ?_
  intro p e s m below meth c ls A hsz hAe C hP hD hS hl
  have C : Cx p s m _ meth c cX10_bitOf 2 (some .int) RX10 "bitOf" D cy A := C
  have hx := C.1
  have hb := C.2.1
  have hl : lv_has ls 2 [(0, .int 0), (1, .int 0)] := hl
  refine lv_iload_n hx hb dX10_bitOf_0 rfl (lv_at hl 0 rfl) ?_
  refine lv_iload_n hx hb dX10_bitOf_1 rfl (lv_at hl 1 rfl) ?_
  refine lv_ishr hx hb dX10_bitOf_2 ?_
  refine q_val (v := 0) (by decide) ?_
  refine lv_iconst (v := 1) hx hb dX10_bitOf_3 (by decide) ?_
  refine lv_iand hx hb dX10_bitOf_4 ?_
  refine q_val (v := 0) (by decide) ?_
  exact q_iret (rm := (Rm 0 0 0 0)) C hS () rfl rfl (q_subP hP [] rfl) (hD.sub [] (by decide) rfl) (Nat.le_of_ble_eq_true rfl) (Nat.le_of_ble_eq_true rfl) dX10_bitOf_5
set_option maxHeartbeats 4000000 in
set_option maxRecDepth 100000 in
theorem c_isFree (l : Launch) (D : va_G) (cy : Nat → ClassId) (h : Nat) (v : Int32) (h0 : Nat) (h1 : Nat) (h2 : Nat) (h3 : Nat) (h4 : Nat) (h5 : Nat) (dA : Int32) (sz : Nat)  : MI l yX0_isFree cX0_isFree 3 (some .boolean) (Rm 1 21 0 0) D cy [.ref h, .int v, .int 0] sz [(h, .inr (0, [.int 0, .int 0, .int (-1), .ref h0, .ref h1, .ref h2, .ref h3, .ref h4, .int 0, .ref h5, .int 0, .int 0, .int 10, .int 1, .int 0, .int dA]))] (fun (r : Int32) (u : Unit) => r = 1) (fun u : Unit => [(h, .inr (0, [.int 0, .int 0, .int (-1), .ref h0, .ref h1, .ref h2, .ref h3, .ref h4, .int 0, .ref h5, .int 0, .int 0, .int 10, .int 1, .int 0, .int dA]))]) := by
  refine MI.enter (by decide) (Nat.le_of_ble_eq_true rfl) ?_
  intro p e s m below meth c ls A hsz hAe C hP hD hS hl
  have C : Cx p s m _ meth c cX0_isFree 3 (some .boolean) RX0 "isFree" D cy A := C
  have hx := C.1
  have hb := C.2.1
  have hl : lv_has ls 3 [(0, .ref h), (1, .int v), (2, .int 0)] := hl
  refine lv_iload_n hx hb dX0_isFree_0 rfl (lv_at hl 1 rfl) ?_
  refine lv_if_gt (tgt := 15) hx hb dX0_isFree_1 (by decide) (fun c_1 => ?_) (fun c_1 => ?_)
  · refine lv_iconst (v := 1) hx hb dX0_isFree_15 (by decide) ?_
    refine lv_goto (tgt := 20) hx hb dX0_isFree_16 (by decide) ?_
    exact q_iret (rm := (Rm 1 21 0 0)) C hS () rfl rfl (q_subP hP [0] rfl) (hD.sub [0] (by decide) rfl) (Nat.le_of_ble_eq_true rfl) (Nat.le_of_ble_eq_true rfl) dX0_isFree_20
  · refine lv_aload_n hx hb dX0_isFree_4 rfl (lv_at hl 0 rfl) ?_
    refine q_get (v := .int 0) C hP 0 14 rfl rfl inX0 (by decide) kF_RX0_55 rfl rfl dX0_isFree_5 ?_
    refine lv_iload_n hx hb dX0_isFree_8 rfl (lv_at hl 2 rfl) ?_
    refine q_ai (wr := [(h, .inr (0, [.int 0, .int 0, .int (-1), .ref h0, .ref h1, .ref h2, .ref h3, .ref h4, .int 0, .ref h5, .int 0, .int 0, .int 10, .int 1, .int 0, .int dA]))]) (r_SN (As := [.int 0, .int 0]) (rest := []) (wc := []) C (q_subP hP [] rfl) (hD.sub [] (by decide) rfl) (c_bitOf l D cy  _ ) kwS_X10_bitOf kN_RX0_88 ⟨Nat.le_of_ble_eq_true rfl, Nat.le_of_ble_eq_true rfl⟩ rfl hl.1 rfl (Nat.le_of_ble_eq_true rfl) dX0_isFree_9 ⟨Nat.le_of_ble_eq_true rfl, Nat.le_of_ble_eq_true rfl⟩) C.2.2.2.2.2.2.1 hP hD hS [] [0] rfl rfl (by decide) (by decide) (fun r_3 u_2 H locs hw_4 hP hD hS => ?_)
    have hP : va_P D vwCl [(h, .inr (0, [.int 0, .int 0, .int (-1), .ref h0, .ref h1, .ref h2, .ref h3, .ref h4, .int 0, .ref h5, .int 0, .int 0, .int 10, .int 1, .int 0, .int dA]))] H := hP
    have hD : va_D A [(h, .inr (0, [.int 0, .int 0, .int (-1), .ref h0, .ref h1, .ref h2, .ref h3, .ref h4, .int 0, .ref h5, .int 0, .int 0, .int 10, .int 1, .int 0, .int dA]))] := hD
    obtain rfl : r_3 = 0 := hw_4
    refine lv_if_ne (tgt := 19) hx hb dX0_isFree_12 (by decide) (fun c_0 => absurd (by decide) c_0) (fun _ => ?_)
    refine lv_iconst (v := 1) hx hb dX0_isFree_15 (by decide) ?_
    refine lv_goto (tgt := 20) hx hb dX0_isFree_16 (by decide) ?_
    exact q_iret (rm := (Rm 1 21 0 0)) C hS () rfl rfl (q_subP hP [0] rfl) (hD.sub [0] (by decide) rfl) (Nat.le_of_ble_eq_true rfl) (Nat.le_of_ble_eq_true rfl) dX0_isFree_20
set_option maxHeartbeats 4000000 in
set_option maxRecDepth 100000 in
theorem c_mayChoose (l : Launch) (D : va_G) (cy : Nat → ClassId) (h : Nat) (v : Int32) (h0 : Nat) (h1 : Nat) (h2 : Nat) (h3 : Nat) (h4 : Nat) (h5 : Nat) (dA : Int32) (sz : Nat)  : MI l yX0_mayChoose cX0_mayChoose 3 (some .boolean) (Rm 0 0 0 0) D cy [.ref h, .int v, .int 0] sz [(h, .inr (0, [.int 0, .int 0, .int (-1), .ref h0, .ref h1, .ref h2, .ref h3, .ref h4, .int 0, .ref h5, .int 0, .int 0, .int 10, .int 1, .int 0, .int dA]))] (fun (r : Int32) (u : Unit) => r = 1) (fun u : Unit => [(h, .inr (0, [.int 0, .int 0, .int (-1), .ref h0, .ref h1, .ref h2, .ref h3, .ref h4, .int 0, .ref h5, .int 0, .int 0, .int 10, .int 1, .int 0, .int dA]))]) := by
  refine MI.enter (by decide) (Nat.le_of_ble_eq_true rfl) ?_
  intro p e s m below meth c ls A hsz hAe C hP hD hS hl
  have C : Cx p s m _ meth c cX0_mayChoose 3 (some .boolean) RX0 "mayChoose" D cy A := C
  have hx := C.1
  have hb := C.2.1
  have hl : lv_has ls 3 [(0, .ref h), (1, .int v), (2, .int 0)] := hl
  refine lv_iload_n hx hb dX0_mayChoose_0 rfl (lv_at hl 2 rfl) ?_
  refine lv_aload_n hx hb dX0_mayChoose_1 rfl (lv_at hl 0 rfl) ?_
  refine q_get (v := .int 0) C hP 0 10 rfl rfl inX0 (by decide) kF_RX0_43 rfl rfl dX0_mayChoose_2 ?_
  refine lv_icmp_eq (tgt := 17) hx hb dX0_mayChoose_5 (by decide) (fun _ => ?_) (fun c_0 => absurd (by decide) c_0)
  refine lv_iconst (v := 1) hx hb dX0_mayChoose_17 (by decide) ?_
  refine lv_goto (tgt := 22) hx hb dX0_mayChoose_18 (by decide) ?_
  exact q_iret (rm := (Rm 0 0 0 0)) C hS () rfl rfl (q_subP hP [0] rfl) (hD.sub [0] (by decide) rfl) (Nat.le_of_ble_eq_true rfl) (Nat.le_of_ble_eq_true rfl) dX0_mayChoose_22
set_option maxHeartbeats 4000000 in
set_option maxRecDepth 100000 in
theorem c_lawsBehind (l : Launch) (D : va_G) (cy : Nat → ClassId) (h : Nat) (v : Int32) (h0 : Nat) (h1 : Nat) (h2 : Nat) (h3 : Nat) (h4 : Nat) (h5 : Nat) (dA : Int32) (sz : Nat)  : MI l yX0_lawsBehind cX0_lawsBehind 4 (some .int) (Rm 0 0 0 0) D cy [.ref h, .int v] sz [(h, .inr (0, [.int 0, .int 0, .int (-1), .ref h0, .ref h1, .ref h2, .ref h3, .ref h4, .int 0, .ref h5, .int 0, .int 0, .int 10, .int 1, .int 0, .int dA]))] (fun (r : Int32) (u : Unit) => r = 0) (fun u : Unit => [(h, .inr (0, [.int 0, .int 0, .int (-1), .ref h0, .ref h1, .ref h2, .ref h3, .ref h4, .int 0, .ref h5, .int 0, .int 0, .int 10, .int 1, .int 0, .int dA]))]) := by
  refine MI.enter (by decide) (Nat.le_of_ble_eq_true rfl) ?_
  intro p e s m below meth c ls A hsz hAe C hP hD hS hl
  have C : Cx p s m _ meth c cX0_lawsBehind 4 (some .int) RX0 "lawsBehind" D cy A := C
  have hx := C.1
  have hb := C.2.1
  have hl : lv_has ls 4 [(0, .ref h), (1, .int v)] := hl
  refine lv_iconst (v := 0) hx hb dX0_lawsBehind_0 (by decide) ?_
  refine lv_istore_n (lv' := [(2, .int 0), (0, .ref h), (1, .int v)]) hx hb dX0_lawsBehind_1 rfl hl (by decide) rfl (fun ls hl => ?_)
  refine lv_iconst (v := 0) hx hb dX0_lawsBehind_2 (by decide) ?_
  refine lv_istore_n (lv' := [(3, .int 0), (2, .int 0), (0, .ref h), (1, .int v)]) hx hb dX0_lawsBehind_3 rfl hl (by decide) rfl (fun ls hl => ?_)
  refine lv_iload_n hx hb dX0_lawsBehind_4 rfl (lv_at hl 0 rfl) ?_
  refine lv_aload_n hx hb dX0_lawsBehind_5 rfl (lv_at hl 2 rfl) ?_
  refine q_get (v := .int 0) C hP 0 10 rfl rfl inX0 (by decide) kF_RX0_43 rfl rfl dX0_lawsBehind_6 ?_
  refine lv_icmp_ge (tgt := 39) hx hb dX0_lawsBehind_9 (by decide) (fun _ => ?_) (fun c_0 => absurd (by decide) c_0)
  refine lv_iload_n hx hb dX0_lawsBehind_39 rfl (lv_at hl 1 rfl) ?_
  exact q_iret (rm := (Rm 0 0 0 0)) C hS () rfl rfl (q_subP hP [0] rfl) (hD.sub [0] (by decide) rfl) (Nat.le_of_ble_eq_true rfl) (Nat.le_of_ble_eq_true rfl) dX0_lawsBehind_40
set_option maxHeartbeats 4000000 in
set_option maxRecDepth 100000 in
theorem c_keeps_1_1 (l : Launch) (D : va_G) (cy : Nat → ClassId) (h : Nat) (h0 : Nat) (h1 : Nat) (h2 : Nat) (h3 : Nat) (h4 : Nat) (h5 : Nat) (kr : Nat → Int32) (sz : Nat)  : MI l yX0_keepsFrom cX0_keepsFrom 7 (some .boolean) (Rm 0 0 0 0) D cy [.ref h, .int 1, .int 0] sz [(h, .inr (0, [.int 0, .int 0, .int (-1), .ref h0, .ref h1, .ref h2, .ref h3, .ref h4, .int 0, .ref h5, .int 0, .int 0, .int 10, .int 1, .int 0, .int 1])), (h0, .inl (cy 1, 8, .inl kr)), (h5, .inl (cy 1, 81, .inl (fun _ => 0)))] (fun (r : Int32) (u : Nat → Int32) => r = 1) (fun u : Nat → Int32 => [(h, .inr (0, [.int 0, .int 0, .int (-1), .ref h0, .ref h1, .ref h2, .ref h3, .ref h4, .int 0, .ref h5, .int 0, .int 0, .int 10, .int 1, .int 0, .int 1])), (h0, .inl (cy 1, 8, .inl u)), (h5, .inl (cy 1, 81, .inl (fun _ => 0)))]) := by
  refine MI.enter (by decide) (Nat.le_of_ble_eq_true rfl) ?_
  intro p e s m below meth c ls A hsz hAe C hP hD hS hl
  have C : Cx p s m _ meth c cX0_keepsFrom 7 (some .boolean) RX0 "keepsFrom" D cy A := C
  have hx := C.1
  have hb := C.2.1
  have hl : lv_has ls 7 [(0, .ref h), (1, .int 1), (2, .int 0)] := hl
  refine lv_iload_n hx hb dX0_keepsFrom_0 rfl (lv_at hl 1 rfl) ?_
  refine lv_aload_n hx hb dX0_keepsFrom_1 rfl (lv_at hl 0 rfl) ?_
  refine q_get (v := .int 1) C hP 0 15 rfl rfl inX0 (by decide) kF_RX0_58 rfl rfl dX0_keepsFrom_2 ?_
  refine lv_icmp_lt (tgt := 10) hx hb dX0_keepsFrom_5 (by decide) (fun c_0 => absurd c_0 (by decide)) (fun _ => ?_)
  refine lv_iconst (v := 1) hx hb dX0_keepsFrom_8 (by decide) ?_
  exact q_iret (rm := (Rm 0 0 0 0)) C hS (kr) rfl rfl (q_subP hP [0, 1, 2] rfl) (hD.sub [0, 1, 2] (by decide) rfl) (Nat.le_of_ble_eq_true rfl) (Nat.le_of_ble_eq_true rfl) dX0_keepsFrom_9
set_option maxHeartbeats 4000000 in
set_option maxRecDepth 100000 in
theorem c_keeps_1_0 (l : Launch) (D : va_G) (cy : Nat → ClassId) (h : Nat) (h0 : Nat) (h1 : Nat) (h2 : Nat) (h3 : Nat) (h4 : Nat) (h5 : Nat) (kr : Nat → Int32) (sz : Nat)  : MI l yX0_keepsFrom cX0_keepsFrom 7 (some .boolean) (Rm 1 26 0 0) D cy [.ref h, .int 0, .int 0] sz [(h, .inr (0, [.int 0, .int 0, .int (-1), .ref h0, .ref h1, .ref h2, .ref h3, .ref h4, .int 0, .ref h5, .int 0, .int 0, .int 10, .int 1, .int 0, .int 1])), (h0, .inl (cy 1, 8, .inl kr)), (h5, .inl (cy 1, 81, .inl (fun _ => 0)))] (fun (r : Int32) (u : Nat → Int32) => r = 1) (fun u : Nat → Int32 => [(h, .inr (0, [.int 0, .int 0, .int (-1), .ref h0, .ref h1, .ref h2, .ref h3, .ref h4, .int 0, .ref h5, .int 0, .int 0, .int 10, .int 1, .int 0, .int 1])), (h0, .inl (cy 1, 8, .inl u)), (h5, .inl (cy 1, 81, .inl (fun _ => 0)))]) := by
  refine MI.enter (by decide) (Nat.le_of_ble_eq_true rfl) ?_
  intro p e s m below meth c ls A hsz hAe C hP hD hS hl
  have C : Cx p s m _ meth c cX0_keepsFrom 7 (some .boolean) RX0 "keepsFrom" D cy A := C
  have hx := C.1
  have hb := C.2.1
  have hl : lv_has ls 7 [(0, .ref h), (1, .int 0), (2, .int 0)] := hl
  refine lv_iload_n hx hb dX0_keepsFrom_0 rfl (lv_at hl 1 rfl) ?_
  refine lv_aload_n hx hb dX0_keepsFrom_1 rfl (lv_at hl 0 rfl) ?_
  refine q_get (v := .int 1) C hP 0 15 rfl rfl inX0 (by decide) kF_RX0_58 rfl rfl dX0_keepsFrom_2 ?_
  refine lv_icmp_lt (tgt := 10) hx hb dX0_keepsFrom_5 (by decide) (fun _ => ?_) (fun c_0 => absurd (by decide) c_0)
  refine lv_aload_n hx hb dX0_keepsFrom_10 rfl (lv_at hl 0 rfl) ?_
  refine lv_iload_n hx hb dX0_keepsFrom_11 rfl (lv_at hl 1 rfl) ?_
  refine q_ai (wr := [(h0, .inl (cy 1, 8, .inl kr)), (h5, .inl (cy 1, 81, .inl (fun _ => 0)))]) (r_V (q0 := 0) (As := [.int 0]) (rest := []) (wc := [(h, .inr (0, [.int 0, .int 0, .int (-1), .ref h0, .ref h1, .ref h2, .ref h3, .ref h4, .int 0, .ref h5, .int 0, .int 0, .int 10, .int 1, .int 0, .int 1]))]) C (q_subP hP [0] rfl) (hD.sub [0] (by decide) rfl) (c_askNeeded l D cy h 0 h0 h1 h2 h3 h4 h5 1 _ ) kwV_X0_askingsNeeded kM_RX0_98 rfl rfl ⟨Nat.le_of_ble_eq_true rfl, Nat.le_of_ble_eq_true rfl⟩ rfl hl.1 rfl (Nat.le_of_ble_eq_true rfl) dX0_keepsFrom_12 ⟨Nat.le_of_ble_eq_true rfl, Nat.le_of_ble_eq_true rfl⟩) C.2.2.2.2.2.2.1 hP hD hS [0] [1, 2] rfl rfl (by decide) (by decide) (fun r_2 u_1 H locs hw_3 hP hD hS => ?_)
  have hP : va_P D vwCl [(h0, .inl (cy 1, 8, .inl kr)), (h5, .inl (cy 1, 81, .inl (fun _ => 0))), (h, .inr (0, [.int 0, .int 0, .int (-1), .ref h0, .ref h1, .ref h2, .ref h3, .ref h4, .int 0, .ref h5, .int 0, .int 0, .int 10, .int 1, .int 0, .int 1]))] H := hP
  have hD : va_D A [(h0, .inl (cy 1, 8, .inl kr)), (h5, .inl (cy 1, 81, .inl (fun _ => 0))), (h, .inr (0, [.int 0, .int 0, .int (-1), .ref h0, .ref h1, .ref h2, .ref h3, .ref h4, .int 0, .ref h5, .int 0, .int 0, .int 10, .int 1, .int 0, .int 1]))] := hD
  obtain rfl : r_2 = 0 := hw_3
  refine lv_iload_n hx hb dX0_keepsFrom_15 rfl (lv_at hl 2 rfl) ?_
  refine lv_icmp_le (tgt := 21) hx hb dX0_keepsFrom_16 (by decide) (fun _ => ?_) (fun c_0 => absurd (by decide) c_0)
  refine lv_aload_n hx hb dX0_keepsFrom_21 rfl (lv_at hl 0 rfl) ?_
  refine lv_iload_n hx hb dX0_keepsFrom_22 rfl (lv_at hl 1 rfl) ?_
  refine q_av (wr := [(h0, .inl (cy 1, 8, .inl kr)), (h5, .inl (cy 1, 81, .inl (fun _ => 0)))]) (r_V (q0 := 0) (As := [.int 0]) (rest := []) (wc := [(h, .inr (0, [.int 0, .int 0, .int (-1), .ref h0, .ref h1, .ref h2, .ref h3, .ref h4, .int 0, .ref h5, .int 0, .int 0, .int 10, .int 1, .int 0, .int 1]))]) C (q_subP hP [2] rfl) (hD.sub [2] (by decide) rfl) (c_passDay l D cy h 0 h0 h1 h2 h3 h4 h5 1 _ ) kwV_X0_passDay kM_RX0_102 rfl rfl ⟨Nat.le_of_ble_eq_true rfl, Nat.le_of_ble_eq_true rfl⟩ rfl hl.1 rfl (Nat.le_of_ble_eq_true rfl) dX0_keepsFrom_23 ⟨Nat.le_of_ble_eq_true rfl, Nat.le_of_ble_eq_true rfl⟩) C.2.2.2.2.2.2.1 hP hD hS [2] [0, 1] rfl rfl (by decide) (by decide) (fun u_4 H locs hw_6 hP hD hS => ?_)
  have hP : va_P D vwCl [(h0, .inl (cy 1, 8, .inl kr)), (h5, .inl (cy 1, 81, .inl (fun _ => 0))), (h, .inr (0, [.int 0, .int 0, .int (-1), .ref h0, .ref h1, .ref h2, .ref h3, .ref h4, .int 0, .ref h5, .int 0, .int 0, .int 10, .int 1, .int 0, .int 1]))] H := hP
  have hD : va_D A [(h0, .inl (cy 1, 8, .inl kr)), (h5, .inl (cy 1, 81, .inl (fun _ => 0))), (h, .inr (0, [.int 0, .int 0, .int (-1), .ref h0, .ref h1, .ref h2, .ref h3, .ref h4, .int 0, .ref h5, .int 0, .int 0, .int 10, .int 1, .int 0, .int 1]))] := hD
  refine lv_iconst (v := 0) hx hb dX0_keepsFrom_26 (by decide) ?_
  refine lv_istore_n (lv' := [(3, .int 0), (0, .ref h), (1, .int 0), (2, .int 0)]) hx hb dX0_keepsFrom_27 rfl hl (by decide) rfl (fun ls hl => ?_)
  refine lv_iload_n hx hb dX0_keepsFrom_28 rfl (lv_at hl 0 rfl) ?_
  refine lv_aload_n hx hb dX0_keepsFrom_29 rfl (lv_at hl 1 rfl) ?_
  refine q_get (v := .int 0) C hP 2 10 rfl rfl inX0 (by decide) kF_RX0_43 rfl rfl dX0_keepsFrom_30 ?_
  refine lv_icmp_gt (tgt := 170) hx hb dX0_keepsFrom_33 (by decide) (fun c_0 => absurd c_0 (by decide)) (fun _ => ?_)
  refine lv_iload_n hx hb dX0_keepsFrom_36 rfl (lv_at hl 0 rfl) ?_
  refine lv_aload_n hx hb dX0_keepsFrom_37 rfl (lv_at hl 1 rfl) ?_
  refine q_get (v := .int 0) C hP 2 10 rfl rfl inX0 (by decide) kF_RX0_43 rfl rfl dX0_keepsFrom_38 ?_
  refine lv_icmp_ge (tgt := 48) hx hb dX0_keepsFrom_41 (by decide) (fun _ => ?_) (fun c_0 => absurd (by decide) c_0)
  refine lv_iconst (v := 0) hx hb dX0_keepsFrom_48 (by decide) ?_
  refine lv_istore (lv' := [(4, .int 0), (3, .int 0), (0, .ref h), (1, .int 0), (2, .int 0)]) hx hb dX0_keepsFrom_49 hl (by decide) rfl (fun ls hl => ?_)
  refine lv_iload hx hb dX0_keepsFrom_51 (lv_at hl 0 rfl) ?_
  refine lv_if_eq (tgt := 83) hx hb dX0_keepsFrom_53 (by decide) (fun _ => ?_) (fun c_0 => absurd (by decide) c_0)
  refine lv_iload_n hx hb dX0_keepsFrom_83 rfl (lv_at hl 3 rfl) ?_
  refine lv_iconst (v := 1) hx hb dX0_keepsFrom_84 (by decide) ?_
  refine lv_iadd hx hb dX0_keepsFrom_85 ?_
  refine q_val (v := 1) (by decide) ?_
  refine lv_bipush (v := 9) hx hb dX0_keepsFrom_86 (by decide) ?_
  refine lv_imul hx hb dX0_keepsFrom_88 ?_
  refine q_val (v := 9) (by decide) ?_
  refine lv_iload_n hx hb dX0_keepsFrom_89 rfl (lv_at hl 1 rfl) ?_
  refine lv_iadd hx hb dX0_keepsFrom_90 ?_
  refine q_val (v := 9) (by decide) ?_
  refine lv_istore (lv' := [(5, .int 9), (4, .int 0), (3, .int 0), (0, .ref h), (1, .int 0), (2, .int 0)]) hx hb dX0_keepsFrom_91 hl (by decide) rfl (fun ls hl => ?_)
  refine lv_aload_n hx hb dX0_keepsFrom_93 rfl (lv_at hl 3 rfl) ?_
  refine q_get (v := .ref h5) C hP 2 9 rfl rfl inX0 (by decide) kF_RX0_40 rfl rfl dX0_keepsFrom_94 ?_
  refine lv_iload hx hb dX0_keepsFrom_97 (lv_at hl 0 rfl) ?_
  refine q_iald (v := 0) C hP 1 rfl (vin (by decide +kernel)) rfl dX0_keepsFrom_99 ?_
  refine lv_istore (lv' := [(6, .int 0), (5, .int 9), (4, .int 0), (3, .int 0), (0, .ref h), (1, .int 0), (2, .int 0)]) hx hb dX0_keepsFrom_100 hl (by decide) rfl (fun ls hl => ?_)
  refine lv_aload_n hx hb dX0_keepsFrom_102 rfl (lv_at hl 4 rfl) ?_
  refine q_get (v := .ref h5) C hP 2 9 rfl rfl inX0 (by decide) kF_RX0_40 rfl rfl dX0_keepsFrom_103 ?_
  refine lv_iload hx hb dX0_keepsFrom_106 (lv_at hl 1 rfl) ?_
  refine lv_iconst (v := 0) hx hb dX0_keepsFrom_108 (by decide) ?_
  refine q_iast (g := fun _ => 0) (w' := [(h0, .inl (cy 1, 8, .inl kr)), (h5, .inl (cy 1, 81, .inl (fun _ => 0))), (h, .inr (0, [.int 0, .int 0, .int (-1), .ref h0, .ref h1, .ref h2, .ref h3, .ref h4, .int 0, .ref h5, .int 0, .int 0, .int 10, .int 1, .int 0, .int 1]))]) C hP hD hS 1 rfl (vin (by decide +kernel)) (updz _) rfl dX0_keepsFrom_109 (fun H locs hP hD hS => ?_)
  refine lv_aload_n hx hb dX0_keepsFrom_110 rfl (lv_at hl 4 rfl) ?_
  refine lv_iload_n hx hb dX0_keepsFrom_111 rfl (lv_at hl 5 rfl) ?_
  refine lv_iconst (v := 1) hx hb dX0_keepsFrom_112 (by decide) ?_
  refine lv_iadd hx hb dX0_keepsFrom_113 ?_
  refine q_val (v := 1) (by decide) ?_
  refine q_ai (wr := [(h0, .inl (cy 1, 8, .inl kr)), (h5, .inl (cy 1, 81, .inl (fun _ => 0)))]) (r_V (q0 := 0) (As := [.int 1]) (rest := []) (wc := [(h, .inr (0, [.int 0, .int 0, .int (-1), .ref h0, .ref h1, .ref h2, .ref h3, .ref h4, .int 0, .ref h5, .int 0, .int 0, .int 10, .int 1, .int 0, .int 1]))]) C (q_subP hP [2] rfl) (hD.sub [2] (by decide) rfl) (c_rareDoubt l D cy h 1 h0 h1 h2 h3 h4 h5 1 _ ) kwV_X0_areRareInDoubt kM_RX0_106 rfl rfl ⟨Nat.le_of_ble_eq_true rfl, Nat.le_of_ble_eq_true rfl⟩ rfl hl.1 rfl (Nat.le_of_ble_eq_true rfl) dX0_keepsFrom_114 ⟨Nat.le_of_ble_eq_true rfl, Nat.le_of_ble_eq_true rfl⟩) C.2.2.2.2.2.2.1 hP hD hS [2] [0, 1] rfl rfl (by decide) (by decide) (fun r_8 u_7 H locs hw_9 hP hD hS => ?_)
  have hP : va_P D vwCl [(h0, .inl (cy 1, 8, .inl kr)), (h5, .inl (cy 1, 81, .inl (fun _ => 0))), (h, .inr (0, [.int 0, .int 0, .int (-1), .ref h0, .ref h1, .ref h2, .ref h3, .ref h4, .int 0, .ref h5, .int 0, .int 0, .int 10, .int 1, .int 0, .int 1]))] H := hP
  have hD : va_D A [(h0, .inl (cy 1, 8, .inl kr)), (h5, .inl (cy 1, 81, .inl (fun _ => 0))), (h, .inr (0, [.int 0, .int 0, .int (-1), .ref h0, .ref h1, .ref h2, .ref h3, .ref h4, .int 0, .ref h5, .int 0, .int 0, .int 10, .int 1, .int 0, .int 1]))] := hD
  obtain rfl : r_8 = 1 := hw_9
  refine lv_if_eq (tgt := 155) hx hb dX0_keepsFrom_117 (by decide) (fun c_0 => absurd c_0 (by decide)) (fun _ => ?_)
  refine lv_aload_n hx hb dX0_keepsFrom_120 rfl (lv_at hl 4 rfl) ?_
  refine lv_iload_n hx hb dX0_keepsFrom_121 rfl (lv_at hl 5 rfl) ?_
  refine lv_iconst (v := 1) hx hb dX0_keepsFrom_122 (by decide) ?_
  refine lv_iadd hx hb dX0_keepsFrom_123 ?_
  refine q_val (v := 1) (by decide) ?_
  refine lv_iload hx hb dX0_keepsFrom_124 (lv_at hl 2 rfl) ?_
  refine lv_if_eq (tgt := 135) hx hb dX0_keepsFrom_126 (by decide) (fun _ => ?_) (fun c_0 => absurd (by decide) c_0)
  refine lv_iload_n hx hb dX0_keepsFrom_135 rfl (lv_at hl 6 rfl) ?_
  refine q_ai (wr := []) (r_V (q0 := 0) (As := [.int 1, .int 0]) (rest := []) (wc := [(h, .inr (0, [.int 0, .int 0, .int (-1), .ref h0, .ref h1, .ref h2, .ref h3, .ref h4, .int 0, .ref h5, .int 0, .int 0, .int 10, .int 1, .int 0, .int 1])), (h0, .inl (cy 1, 8, .inl kr)), (h5, .inl (cy 1, 81, .inl (fun _ => 0)))]) C (q_subP hP [2, 0, 1] rfl) (hD.sub [2, 0, 1] (by decide) rfl) (c_keeps_1_1 l D cy h h0 h1 h2 h3 h4 h5 kr _ ) kwV_X0_keepsFrom kM_RX0_95 rfl rfl ⟨Nat.le_of_ble_eq_true rfl, Nat.le_of_ble_eq_true rfl⟩ rfl hl.1 rfl (Nat.le_of_ble_eq_true rfl) dX0_keepsFrom_136 ⟨Nat.le_of_ble_eq_true rfl, Nat.le_of_ble_eq_true rfl⟩) C.2.2.2.2.2.2.1 hP hD hS [2, 0, 1] [] rfl rfl (by decide) (by decide) (fun r_11 u_10 H locs hw_12 hP hD hS => ?_)
  have hP : va_P D vwCl [(h, .inr (0, [.int 0, .int 0, .int (-1), .ref h0, .ref h1, .ref h2, .ref h3, .ref h4, .int 0, .ref h5, .int 0, .int 0, .int 10, .int 1, .int 0, .int 1])), (h0, .inl (cy 1, 8, .inl u_10)), (h5, .inl (cy 1, 81, .inl (fun _ => 0)))] H := hP
  have hD : va_D A [(h, .inr (0, [.int 0, .int 0, .int (-1), .ref h0, .ref h1, .ref h2, .ref h3, .ref h4, .int 0, .ref h5, .int 0, .int 0, .int 10, .int 1, .int 0, .int 1])), (h0, .inl (cy 1, 8, .inl u_10)), (h5, .inl (cy 1, 81, .inl (fun _ => 0)))] := hD
  obtain rfl : r_11 = 1 := hw_12
  refine lv_if_eq (tgt := 155) hx hb dX0_keepsFrom_139 (by decide) (fun c_0 => absurd c_0 (by decide)) (fun _ => ?_)
  refine lv_aload_n hx hb dX0_keepsFrom_142 rfl (lv_at hl 4 rfl) ?_
  refine q_get (v := .ref h0) C hP 0 3 rfl rfl inX0 (by decide) kF_RX0_21 rfl rfl dX0_keepsFrom_143 ?_
  refine lv_iload_n hx hb dX0_keepsFrom_146 rfl (lv_at hl 5 rfl) ?_
  refine lv_aload_n hx hb dX0_keepsFrom_147 rfl (lv_at hl 4 rfl) ?_
  refine lv_iload_n hx hb dX0_keepsFrom_148 rfl (lv_at hl 3 rfl) ?_
  refine q_ai (wr := [(h0, .inl (cy 1, 8, .inl u_10)), (h5, .inl (cy 1, 81, .inl (fun _ => 0)))]) (r_V (q0 := 0) (As := [.int 0]) (rest := [.int 0, .ref h0]) (wc := [(h, .inr (0, [.int 0, .int 0, .int (-1), .ref h0, .ref h1, .ref h2, .ref h3, .ref h4, .int 0, .ref h5, .int 0, .int 0, .int 10, .int 1, .int 0, .int 1]))]) C (q_subP hP [0] rfl) (hD.sub [0] (by decide) rfl) (c_bookChosen l D cy h h0 h1 h2 h3 h4 h5 1 _ ) kwV_X0_bookChosen kM_RX0_110 rfl rfl ⟨Nat.le_of_ble_eq_true rfl, Nat.le_of_ble_eq_true rfl⟩ rfl hl.1 rfl (Nat.le_of_ble_eq_true rfl) dX0_keepsFrom_149 ⟨Nat.le_of_ble_eq_true rfl, Nat.le_of_ble_eq_true rfl⟩) C.2.2.2.2.2.2.1 hP hD hS [0] [1, 2] rfl rfl (by decide) (by decide) (fun r_14 u_13 H locs hw_15 hP hD hS => ?_)
  have hP : va_P D vwCl [(h0, .inl (cy 1, 8, .inl u_10)), (h5, .inl (cy 1, 81, .inl (fun _ => 0))), (h, .inr (0, [.int 0, .int 0, .int (-1), .ref h0, .ref h1, .ref h2, .ref h3, .ref h4, .int 0, .ref h5, .int 0, .int 0, .int 10, .int 1, .int 0, .int 1]))] H := hP
  have hD : va_D A [(h0, .inl (cy 1, 8, .inl u_10)), (h5, .inl (cy 1, 81, .inl (fun _ => 0))), (h, .inr (0, [.int 0, .int 0, .int (-1), .ref h0, .ref h1, .ref h2, .ref h3, .ref h4, .int 0, .ref h5, .int 0, .int 0, .int 10, .int 1, .int 0, .int 1]))] := hD
  obtain rfl : r_14 = (-1) := hw_15
  refine q_iast (g := upd u_10 0 (-1)) (w' := [(h0, .inl (cy 1, 8, .inl (upd u_10 0 (-1)))), (h5, .inl (cy 1, 81, .inl (fun _ => 0))), (h, .inr (0, [.int 0, .int 0, .int (-1), .ref h0, .ref h1, .ref h2, .ref h3, .ref h4, .int 0, .ref h5, .int 0, .int 0, .int 10, .int 1, .int 0, .int 1]))]) C hP hD hS 0 rfl (vin (by decide +kernel)) rfl rfl dX0_keepsFrom_152 (fun H locs hP hD hS => ?_)
  refine lv_iconst (v := 1) hx hb dX0_keepsFrom_153 (by decide) ?_
  exact q_iret (rm := (Rm 1 26 0 0)) C hS (upd u_10 0 (-1)) rfl rfl (q_subP hP [2, 0, 1] rfl) (hD.sub [2, 0, 1] (by decide) rfl) (Nat.le_of_ble_eq_true rfl) (Nat.le_of_ble_eq_true rfl) dX0_keepsFrom_154
set_option maxHeartbeats 4000000 in
set_option maxRecDepth 100000 in
theorem c_fewest_1 (l : Launch) (D : va_G) (cy : Nat → ClassId) (h : Nat) (h0 : Nat) (h1 : Nat) (h2 : Nat) (h3 : Nat) (h4 : Nat) (h5 : Nat) (kr : Nat → Int32) (sz : Nat)  : MI l yX0_fewestAskings cX0_fewestAskings 2 (some .int) (Rm 2 52 0 0) D cy [.ref h] sz [(h, .inr (0, [.int 0, .int 0, .int (-1), .ref h0, .ref h1, .ref h2, .ref h3, .ref h4, .int 0, .ref h5, .int 0, .int 0, .int 10, .int 1, .int 0, .int 1])), (h0, .inl (cy 1, 8, .inl kr)), (h5, .inl (cy 1, 81, .inl (fun _ => 0)))] (fun (r : Int32) (u : Unit) => r = 0) (fun u : Unit => []) := by
  refine MI.enter (by decide) (Nat.le_of_ble_eq_true rfl) ?_
  intro p e s m below meth c ls A hsz hAe C hP hD hS hl
  have C : Cx p s m _ meth c cX0_fewestAskings 2 (some .int) RX0 "fewestAskings" D cy A := C
  have hx := C.1
  have hb := C.2.1
  have hl : lv_has ls 2 [(0, .ref h)] := hl
  refine lv_iconst (v := 0) hx hb dX0_fewestAskings_0 (by decide) ?_
  refine lv_istore_n (lv' := [(1, .int 0), (0, .ref h)]) hx hb dX0_fewestAskings_1 rfl hl (by decide) rfl (fun ls hl => ?_)
  refine lv_iload_n hx hb dX0_fewestAskings_2 rfl (lv_at hl 0 rfl) ?_
  refine lv_aload_n hx hb dX0_fewestAskings_3 rfl (lv_at hl 1 rfl) ?_
  refine q_get (v := .int 1) C hP 0 15 rfl rfl inX0 (by decide) kF_RX0_58 rfl rfl dX0_fewestAskings_4 ?_
  refine lv_icmp_gt (tgt := 35) hx hb dX0_fewestAskings_7 (by decide) (fun c_0 => absurd c_0 (by decide)) (fun _ => ?_)
  refine lv_aload_n hx hb dX0_fewestAskings_10 rfl (lv_at hl 1 rfl) ?_
  refine lv_iconst (v := 0) hx hb dX0_fewestAskings_11 (by decide) ?_
  refine lv_iload_n hx hb dX0_fewestAskings_12 rfl (lv_at hl 0 rfl) ?_
  refine q_ai (wr := []) (r_V (q0 := 0) (As := [.int 0, .int 0]) (rest := []) (wc := [(h, .inr (0, [.int 0, .int 0, .int (-1), .ref h0, .ref h1, .ref h2, .ref h3, .ref h4, .int 0, .ref h5, .int 0, .int 0, .int 10, .int 1, .int 0, .int 1])), (h0, .inl (cy 1, 8, .inl kr)), (h5, .inl (cy 1, 81, .inl (fun _ => 0)))]) C (q_subP hP [0, 1, 2] rfl) (hD.sub [0, 1, 2] (by decide) rfl) (c_keeps_1_0 l D cy h h0 h1 h2 h3 h4 h5 kr _ ) kwV_X0_keepsFrom kM_RX0_95 rfl rfl ⟨Nat.le_of_ble_eq_true rfl, Nat.le_of_ble_eq_true rfl⟩ rfl hl.1 rfl (Nat.le_of_ble_eq_true rfl) dX0_fewestAskings_13 ⟨Nat.le_of_ble_eq_true rfl, Nat.le_of_ble_eq_true rfl⟩) C.2.2.2.2.2.2.1 hP hD hS [0, 1, 2] [] rfl rfl (by decide) (by decide) (fun r_2 u_1 H locs hw_3 hP hD hS => ?_)
  have hP : va_P D vwCl [(h, .inr (0, [.int 0, .int 0, .int (-1), .ref h0, .ref h1, .ref h2, .ref h3, .ref h4, .int 0, .ref h5, .int 0, .int 0, .int 10, .int 1, .int 0, .int 1])), (h0, .inl (cy 1, 8, .inl u_1)), (h5, .inl (cy 1, 81, .inl (fun _ => 0)))] H := hP
  have hD : va_D A [(h, .inr (0, [.int 0, .int 0, .int (-1), .ref h0, .ref h1, .ref h2, .ref h3, .ref h4, .int 0, .ref h5, .int 0, .int 0, .int 10, .int 1, .int 0, .int 1])), (h0, .inl (cy 1, 8, .inl u_1)), (h5, .inl (cy 1, 81, .inl (fun _ => 0)))] := hD
  obtain rfl : r_2 = 1 := hw_3
  refine lv_if_eq (tgt := 29) hx hb dX0_fewestAskings_16 (by decide) (fun c_0 => absurd c_0 (by decide)) (fun _ => ?_)
  refine lv_aload_n hx hb dX0_fewestAskings_19 rfl (lv_at hl 1 rfl) ?_
  refine lv_aload_n hx hb dX0_fewestAskings_20 rfl (lv_at hl 1 rfl) ?_
  refine q_get (v := .int 1) C hP 0 15 rfl rfl inX0 (by decide) kF_RX0_58 rfl rfl dX0_fewestAskings_21 ?_
  refine q_put (v := .int 1) (w' := [(h, .inr (0, [.int 1, .int 0, .int (-1), .ref h0, .ref h1, .ref h2, .ref h3, .ref h4, .int 0, .ref h5, .int 0, .int 0, .int 10, .int 1, .int 0, .int 1])), (h0, .inl (cy 1, 8, .inl u_1)), (h5, .inl (cy 1, 81, .inl (fun _ => 0)))]) (ty := .int) C hP hD hS 0 0 rfl rfl inX0 tyX0 tyX0_ok nmX0 (by decide) kF_RX0_9 rfl rfl rfl rfl rfl (Nat.le_of_ble_eq_true rfl) rfl dX0_fewestAskings_24 (fun H locs hP hD hS => ?_)
  refine lv_iload_n hx hb dX0_fewestAskings_27 rfl (lv_at hl 0 rfl) ?_
  exact q_iret (rm := (Rm 2 52 0 0)) C hS () rfl rfl (q_subP hP [] rfl) (hD.sub [] (by decide) rfl) (Nat.le_of_ble_eq_true rfl) (Nat.le_of_ble_eq_true rfl) dX0_fewestAskings_28
set_option maxHeartbeats 4000000 in
set_option maxRecDepth 100000 in
theorem c_keeps_2_2 (l : Launch) (D : va_G) (cy : Nat → ClassId) (h : Nat) (h0 : Nat) (h1 : Nat) (h2 : Nat) (h3 : Nat) (h4 : Nat) (h5 : Nat) (kr : Nat → Int32) (sz : Nat)  : MI l yX0_keepsFrom cX0_keepsFrom 7 (some .boolean) (Rm 0 0 0 0) D cy [.ref h, .int 2, .int 0] sz [(h, .inr (0, [.int 0, .int 0, .int (-1), .ref h0, .ref h1, .ref h2, .ref h3, .ref h4, .int 0, .ref h5, .int 0, .int 0, .int 10, .int 1, .int 0, .int 2])), (h0, .inl (cy 1, 8, .inl kr)), (h5, .inl (cy 1, 81, .inl (fun _ => 0)))] (fun (r : Int32) (u : Nat → Int32) => r = 1) (fun u : Nat → Int32 => [(h, .inr (0, [.int 0, .int 0, .int (-1), .ref h0, .ref h1, .ref h2, .ref h3, .ref h4, .int 0, .ref h5, .int 0, .int 0, .int 10, .int 1, .int 0, .int 2])), (h0, .inl (cy 1, 8, .inl u)), (h5, .inl (cy 1, 81, .inl (fun _ => 0)))]) := by
  refine MI.enter (by decide) (Nat.le_of_ble_eq_true rfl) ?_
  intro p e s m below meth c ls A hsz hAe C hP hD hS hl
  have C : Cx p s m _ meth c cX0_keepsFrom 7 (some .boolean) RX0 "keepsFrom" D cy A := C
  have hx := C.1
  have hb := C.2.1
  have hl : lv_has ls 7 [(0, .ref h), (1, .int 2), (2, .int 0)] := hl
  refine lv_iload_n hx hb dX0_keepsFrom_0 rfl (lv_at hl 1 rfl) ?_
  refine lv_aload_n hx hb dX0_keepsFrom_1 rfl (lv_at hl 0 rfl) ?_
  refine q_get (v := .int 2) C hP 0 15 rfl rfl inX0 (by decide) kF_RX0_58 rfl rfl dX0_keepsFrom_2 ?_
  refine lv_icmp_lt (tgt := 10) hx hb dX0_keepsFrom_5 (by decide) (fun c_0 => absurd c_0 (by decide)) (fun _ => ?_)
  refine lv_iconst (v := 1) hx hb dX0_keepsFrom_8 (by decide) ?_
  exact q_iret (rm := (Rm 0 0 0 0)) C hS (kr) rfl rfl (q_subP hP [0, 1, 2] rfl) (hD.sub [0, 1, 2] (by decide) rfl) (Nat.le_of_ble_eq_true rfl) (Nat.le_of_ble_eq_true rfl) dX0_keepsFrom_9
set_option maxHeartbeats 4000000 in
set_option maxRecDepth 100000 in
theorem c_keeps_2_1 (l : Launch) (D : va_G) (cy : Nat → ClassId) (h : Nat) (h0 : Nat) (h1 : Nat) (h2 : Nat) (h3 : Nat) (h4 : Nat) (h5 : Nat) (kr : Nat → Int32) (sz : Nat)  : MI l yX0_keepsFrom cX0_keepsFrom 7 (some .boolean) (Rm 1 26 0 0) D cy [.ref h, .int 1, .int 0] sz [(h, .inr (0, [.int 0, .int 0, .int (-1), .ref h0, .ref h1, .ref h2, .ref h3, .ref h4, .int 0, .ref h5, .int 0, .int 0, .int 10, .int 1, .int 0, .int 2])), (h0, .inl (cy 1, 8, .inl kr)), (h5, .inl (cy 1, 81, .inl (fun _ => 0)))] (fun (r : Int32) (u : Nat → Int32) => r = 1) (fun u : Nat → Int32 => [(h, .inr (0, [.int 0, .int 0, .int (-1), .ref h0, .ref h1, .ref h2, .ref h3, .ref h4, .int 0, .ref h5, .int 0, .int 0, .int 10, .int 1, .int 0, .int 2])), (h0, .inl (cy 1, 8, .inl u)), (h5, .inl (cy 1, 81, .inl (fun _ => 0)))]) := by
  refine MI.enter (by decide) (Nat.le_of_ble_eq_true rfl) ?_
  intro p e s m below meth c ls A hsz hAe C hP hD hS hl
  have C : Cx p s m _ meth c cX0_keepsFrom 7 (some .boolean) RX0 "keepsFrom" D cy A := C
  have hx := C.1
  have hb := C.2.1
  have hl : lv_has ls 7 [(0, .ref h), (1, .int 1), (2, .int 0)] := hl
  refine lv_iload_n hx hb dX0_keepsFrom_0 rfl (lv_at hl 1 rfl) ?_
  refine lv_aload_n hx hb dX0_keepsFrom_1 rfl (lv_at hl 0 rfl) ?_
  refine q_get (v := .int 2) C hP 0 15 rfl rfl inX0 (by decide) kF_RX0_58 rfl rfl dX0_keepsFrom_2 ?_
  refine lv_icmp_lt (tgt := 10) hx hb dX0_keepsFrom_5 (by decide) (fun _ => ?_) (fun c_0 => absurd (by decide) c_0)
  refine lv_aload_n hx hb dX0_keepsFrom_10 rfl (lv_at hl 0 rfl) ?_
  refine lv_iload_n hx hb dX0_keepsFrom_11 rfl (lv_at hl 1 rfl) ?_
  refine q_ai (wr := [(h0, .inl (cy 1, 8, .inl kr)), (h5, .inl (cy 1, 81, .inl (fun _ => 0)))]) (r_V (q0 := 0) (As := [.int 1]) (rest := []) (wc := [(h, .inr (0, [.int 0, .int 0, .int (-1), .ref h0, .ref h1, .ref h2, .ref h3, .ref h4, .int 0, .ref h5, .int 0, .int 0, .int 10, .int 1, .int 0, .int 2]))]) C (q_subP hP [0] rfl) (hD.sub [0] (by decide) rfl) (c_askNeeded l D cy h 1 h0 h1 h2 h3 h4 h5 2 _ ) kwV_X0_askingsNeeded kM_RX0_98 rfl rfl ⟨Nat.le_of_ble_eq_true rfl, Nat.le_of_ble_eq_true rfl⟩ rfl hl.1 rfl (Nat.le_of_ble_eq_true rfl) dX0_keepsFrom_12 ⟨Nat.le_of_ble_eq_true rfl, Nat.le_of_ble_eq_true rfl⟩) C.2.2.2.2.2.2.1 hP hD hS [0] [1, 2] rfl rfl (by decide) (by decide) (fun r_2 u_1 H locs hw_3 hP hD hS => ?_)
  have hP : va_P D vwCl [(h0, .inl (cy 1, 8, .inl kr)), (h5, .inl (cy 1, 81, .inl (fun _ => 0))), (h, .inr (0, [.int 0, .int 0, .int (-1), .ref h0, .ref h1, .ref h2, .ref h3, .ref h4, .int 0, .ref h5, .int 0, .int 0, .int 10, .int 1, .int 0, .int 2]))] H := hP
  have hD : va_D A [(h0, .inl (cy 1, 8, .inl kr)), (h5, .inl (cy 1, 81, .inl (fun _ => 0))), (h, .inr (0, [.int 0, .int 0, .int (-1), .ref h0, .ref h1, .ref h2, .ref h3, .ref h4, .int 0, .ref h5, .int 0, .int 0, .int 10, .int 1, .int 0, .int 2]))] := hD
  obtain rfl : r_2 = 0 := hw_3
  refine lv_iload_n hx hb dX0_keepsFrom_15 rfl (lv_at hl 2 rfl) ?_
  refine lv_icmp_le (tgt := 21) hx hb dX0_keepsFrom_16 (by decide) (fun _ => ?_) (fun c_0 => absurd (by decide) c_0)
  refine lv_aload_n hx hb dX0_keepsFrom_21 rfl (lv_at hl 0 rfl) ?_
  refine lv_iload_n hx hb dX0_keepsFrom_22 rfl (lv_at hl 1 rfl) ?_
  refine q_av (wr := [(h0, .inl (cy 1, 8, .inl kr)), (h5, .inl (cy 1, 81, .inl (fun _ => 0)))]) (r_V (q0 := 0) (As := [.int 1]) (rest := []) (wc := [(h, .inr (0, [.int 0, .int 0, .int (-1), .ref h0, .ref h1, .ref h2, .ref h3, .ref h4, .int 0, .ref h5, .int 0, .int 0, .int 10, .int 1, .int 0, .int 2]))]) C (q_subP hP [2] rfl) (hD.sub [2] (by decide) rfl) (c_passDay l D cy h 1 h0 h1 h2 h3 h4 h5 2 _ ) kwV_X0_passDay kM_RX0_102 rfl rfl ⟨Nat.le_of_ble_eq_true rfl, Nat.le_of_ble_eq_true rfl⟩ rfl hl.1 rfl (Nat.le_of_ble_eq_true rfl) dX0_keepsFrom_23 ⟨Nat.le_of_ble_eq_true rfl, Nat.le_of_ble_eq_true rfl⟩) C.2.2.2.2.2.2.1 hP hD hS [2] [0, 1] rfl rfl (by decide) (by decide) (fun u_4 H locs hw_6 hP hD hS => ?_)
  have hP : va_P D vwCl [(h0, .inl (cy 1, 8, .inl kr)), (h5, .inl (cy 1, 81, .inl (fun _ => 0))), (h, .inr (0, [.int 0, .int 0, .int (-1), .ref h0, .ref h1, .ref h2, .ref h3, .ref h4, .int 0, .ref h5, .int 0, .int 0, .int 10, .int 1, .int 0, .int 2]))] H := hP
  have hD : va_D A [(h0, .inl (cy 1, 8, .inl kr)), (h5, .inl (cy 1, 81, .inl (fun _ => 0))), (h, .inr (0, [.int 0, .int 0, .int (-1), .ref h0, .ref h1, .ref h2, .ref h3, .ref h4, .int 0, .ref h5, .int 0, .int 0, .int 10, .int 1, .int 0, .int 2]))] := hD
  refine lv_iconst (v := 0) hx hb dX0_keepsFrom_26 (by decide) ?_
  refine lv_istore_n (lv' := [(3, .int 0), (0, .ref h), (1, .int 1), (2, .int 0)]) hx hb dX0_keepsFrom_27 rfl hl (by decide) rfl (fun ls hl => ?_)
  refine lv_iload_n hx hb dX0_keepsFrom_28 rfl (lv_at hl 0 rfl) ?_
  refine lv_aload_n hx hb dX0_keepsFrom_29 rfl (lv_at hl 1 rfl) ?_
  refine q_get (v := .int 0) C hP 2 10 rfl rfl inX0 (by decide) kF_RX0_43 rfl rfl dX0_keepsFrom_30 ?_
  refine lv_icmp_gt (tgt := 170) hx hb dX0_keepsFrom_33 (by decide) (fun c_0 => absurd c_0 (by decide)) (fun _ => ?_)
  refine lv_iload_n hx hb dX0_keepsFrom_36 rfl (lv_at hl 0 rfl) ?_
  refine lv_aload_n hx hb dX0_keepsFrom_37 rfl (lv_at hl 1 rfl) ?_
  refine q_get (v := .int 0) C hP 2 10 rfl rfl inX0 (by decide) kF_RX0_43 rfl rfl dX0_keepsFrom_38 ?_
  refine lv_icmp_ge (tgt := 48) hx hb dX0_keepsFrom_41 (by decide) (fun _ => ?_) (fun c_0 => absurd (by decide) c_0)
  refine lv_iconst (v := 0) hx hb dX0_keepsFrom_48 (by decide) ?_
  refine lv_istore (lv' := [(4, .int 0), (3, .int 0), (0, .ref h), (1, .int 1), (2, .int 0)]) hx hb dX0_keepsFrom_49 hl (by decide) rfl (fun ls hl => ?_)
  refine lv_iload hx hb dX0_keepsFrom_51 (lv_at hl 0 rfl) ?_
  refine lv_if_eq (tgt := 83) hx hb dX0_keepsFrom_53 (by decide) (fun _ => ?_) (fun c_0 => absurd (by decide) c_0)
  refine lv_iload_n hx hb dX0_keepsFrom_83 rfl (lv_at hl 3 rfl) ?_
  refine lv_iconst (v := 1) hx hb dX0_keepsFrom_84 (by decide) ?_
  refine lv_iadd hx hb dX0_keepsFrom_85 ?_
  refine q_val (v := 2) (by decide) ?_
  refine lv_bipush (v := 9) hx hb dX0_keepsFrom_86 (by decide) ?_
  refine lv_imul hx hb dX0_keepsFrom_88 ?_
  refine q_val (v := 18) (by decide) ?_
  refine lv_iload_n hx hb dX0_keepsFrom_89 rfl (lv_at hl 1 rfl) ?_
  refine lv_iadd hx hb dX0_keepsFrom_90 ?_
  refine q_val (v := 18) (by decide) ?_
  refine lv_istore (lv' := [(5, .int 18), (4, .int 0), (3, .int 0), (0, .ref h), (1, .int 1), (2, .int 0)]) hx hb dX0_keepsFrom_91 hl (by decide) rfl (fun ls hl => ?_)
  refine lv_aload_n hx hb dX0_keepsFrom_93 rfl (lv_at hl 3 rfl) ?_
  refine q_get (v := .ref h5) C hP 2 9 rfl rfl inX0 (by decide) kF_RX0_40 rfl rfl dX0_keepsFrom_94 ?_
  refine lv_iload hx hb dX0_keepsFrom_97 (lv_at hl 0 rfl) ?_
  refine q_iald (v := 0) C hP 1 rfl (vin (by decide +kernel)) rfl dX0_keepsFrom_99 ?_
  refine lv_istore (lv' := [(6, .int 0), (5, .int 18), (4, .int 0), (3, .int 0), (0, .ref h), (1, .int 1), (2, .int 0)]) hx hb dX0_keepsFrom_100 hl (by decide) rfl (fun ls hl => ?_)
  refine lv_aload_n hx hb dX0_keepsFrom_102 rfl (lv_at hl 4 rfl) ?_
  refine q_get (v := .ref h5) C hP 2 9 rfl rfl inX0 (by decide) kF_RX0_40 rfl rfl dX0_keepsFrom_103 ?_
  refine lv_iload hx hb dX0_keepsFrom_106 (lv_at hl 1 rfl) ?_
  refine lv_iconst (v := 0) hx hb dX0_keepsFrom_108 (by decide) ?_
  refine q_iast (g := fun _ => 0) (w' := [(h0, .inl (cy 1, 8, .inl kr)), (h5, .inl (cy 1, 81, .inl (fun _ => 0))), (h, .inr (0, [.int 0, .int 0, .int (-1), .ref h0, .ref h1, .ref h2, .ref h3, .ref h4, .int 0, .ref h5, .int 0, .int 0, .int 10, .int 1, .int 0, .int 2]))]) C hP hD hS 1 rfl (vin (by decide +kernel)) (updz _) rfl dX0_keepsFrom_109 (fun H locs hP hD hS => ?_)
  refine lv_aload_n hx hb dX0_keepsFrom_110 rfl (lv_at hl 4 rfl) ?_
  refine lv_iload_n hx hb dX0_keepsFrom_111 rfl (lv_at hl 5 rfl) ?_
  refine lv_iconst (v := 1) hx hb dX0_keepsFrom_112 (by decide) ?_
  refine lv_iadd hx hb dX0_keepsFrom_113 ?_
  refine q_val (v := 2) (by decide) ?_
  refine q_ai (wr := [(h0, .inl (cy 1, 8, .inl kr)), (h5, .inl (cy 1, 81, .inl (fun _ => 0)))]) (r_V (q0 := 0) (As := [.int 2]) (rest := []) (wc := [(h, .inr (0, [.int 0, .int 0, .int (-1), .ref h0, .ref h1, .ref h2, .ref h3, .ref h4, .int 0, .ref h5, .int 0, .int 0, .int 10, .int 1, .int 0, .int 2]))]) C (q_subP hP [2] rfl) (hD.sub [2] (by decide) rfl) (c_rareDoubt l D cy h 2 h0 h1 h2 h3 h4 h5 2 _ ) kwV_X0_areRareInDoubt kM_RX0_106 rfl rfl ⟨Nat.le_of_ble_eq_true rfl, Nat.le_of_ble_eq_true rfl⟩ rfl hl.1 rfl (Nat.le_of_ble_eq_true rfl) dX0_keepsFrom_114 ⟨Nat.le_of_ble_eq_true rfl, Nat.le_of_ble_eq_true rfl⟩) C.2.2.2.2.2.2.1 hP hD hS [2] [0, 1] rfl rfl (by decide) (by decide) (fun r_8 u_7 H locs hw_9 hP hD hS => ?_)
  have hP : va_P D vwCl [(h0, .inl (cy 1, 8, .inl kr)), (h5, .inl (cy 1, 81, .inl (fun _ => 0))), (h, .inr (0, [.int 0, .int 0, .int (-1), .ref h0, .ref h1, .ref h2, .ref h3, .ref h4, .int 0, .ref h5, .int 0, .int 0, .int 10, .int 1, .int 0, .int 2]))] H := hP
  have hD : va_D A [(h0, .inl (cy 1, 8, .inl kr)), (h5, .inl (cy 1, 81, .inl (fun _ => 0))), (h, .inr (0, [.int 0, .int 0, .int (-1), .ref h0, .ref h1, .ref h2, .ref h3, .ref h4, .int 0, .ref h5, .int 0, .int 0, .int 10, .int 1, .int 0, .int 2]))] := hD
  obtain rfl : r_8 = 1 := hw_9
  refine lv_if_eq (tgt := 155) hx hb dX0_keepsFrom_117 (by decide) (fun c_0 => absurd c_0 (by decide)) (fun _ => ?_)
  refine lv_aload_n hx hb dX0_keepsFrom_120 rfl (lv_at hl 4 rfl) ?_
  refine lv_iload_n hx hb dX0_keepsFrom_121 rfl (lv_at hl 5 rfl) ?_
  refine lv_iconst (v := 1) hx hb dX0_keepsFrom_122 (by decide) ?_
  refine lv_iadd hx hb dX0_keepsFrom_123 ?_
  refine q_val (v := 2) (by decide) ?_
  refine lv_iload hx hb dX0_keepsFrom_124 (lv_at hl 2 rfl) ?_
  refine lv_if_eq (tgt := 135) hx hb dX0_keepsFrom_126 (by decide) (fun _ => ?_) (fun c_0 => absurd (by decide) c_0)
  refine lv_iload_n hx hb dX0_keepsFrom_135 rfl (lv_at hl 6 rfl) ?_
  refine q_ai (wr := []) (r_V (q0 := 0) (As := [.int 2, .int 0]) (rest := []) (wc := [(h, .inr (0, [.int 0, .int 0, .int (-1), .ref h0, .ref h1, .ref h2, .ref h3, .ref h4, .int 0, .ref h5, .int 0, .int 0, .int 10, .int 1, .int 0, .int 2])), (h0, .inl (cy 1, 8, .inl kr)), (h5, .inl (cy 1, 81, .inl (fun _ => 0)))]) C (q_subP hP [2, 0, 1] rfl) (hD.sub [2, 0, 1] (by decide) rfl) (c_keeps_2_2 l D cy h h0 h1 h2 h3 h4 h5 kr _ ) kwV_X0_keepsFrom kM_RX0_95 rfl rfl ⟨Nat.le_of_ble_eq_true rfl, Nat.le_of_ble_eq_true rfl⟩ rfl hl.1 rfl (Nat.le_of_ble_eq_true rfl) dX0_keepsFrom_136 ⟨Nat.le_of_ble_eq_true rfl, Nat.le_of_ble_eq_true rfl⟩) C.2.2.2.2.2.2.1 hP hD hS [2, 0, 1] [] rfl rfl (by decide) (by decide) (fun r_11 u_10 H locs hw_12 hP hD hS => ?_)
  have hP : va_P D vwCl [(h, .inr (0, [.int 0, .int 0, .int (-1), .ref h0, .ref h1, .ref h2, .ref h3, .ref h4, .int 0, .ref h5, .int 0, .int 0, .int 10, .int 1, .int 0, .int 2])), (h0, .inl (cy 1, 8, .inl u_10)), (h5, .inl (cy 1, 81, .inl (fun _ => 0)))] H := hP
  have hD : va_D A [(h, .inr (0, [.int 0, .int 0, .int (-1), .ref h0, .ref h1, .ref h2, .ref h3, .ref h4, .int 0, .ref h5, .int 0, .int 0, .int 10, .int 1, .int 0, .int 2])), (h0, .inl (cy 1, 8, .inl u_10)), (h5, .inl (cy 1, 81, .inl (fun _ => 0)))] := hD
  obtain rfl : r_11 = 1 := hw_12
  refine lv_if_eq (tgt := 155) hx hb dX0_keepsFrom_139 (by decide) (fun c_0 => absurd c_0 (by decide)) (fun _ => ?_)
  refine lv_aload_n hx hb dX0_keepsFrom_142 rfl (lv_at hl 4 rfl) ?_
  refine q_get (v := .ref h0) C hP 0 3 rfl rfl inX0 (by decide) kF_RX0_21 rfl rfl dX0_keepsFrom_143 ?_
  refine lv_iload_n hx hb dX0_keepsFrom_146 rfl (lv_at hl 5 rfl) ?_
  refine lv_aload_n hx hb dX0_keepsFrom_147 rfl (lv_at hl 4 rfl) ?_
  refine lv_iload_n hx hb dX0_keepsFrom_148 rfl (lv_at hl 3 rfl) ?_
  refine q_ai (wr := [(h0, .inl (cy 1, 8, .inl u_10)), (h5, .inl (cy 1, 81, .inl (fun _ => 0)))]) (r_V (q0 := 0) (As := [.int 0]) (rest := [.int 1, .ref h0]) (wc := [(h, .inr (0, [.int 0, .int 0, .int (-1), .ref h0, .ref h1, .ref h2, .ref h3, .ref h4, .int 0, .ref h5, .int 0, .int 0, .int 10, .int 1, .int 0, .int 2]))]) C (q_subP hP [0] rfl) (hD.sub [0] (by decide) rfl) (c_bookChosen l D cy h h0 h1 h2 h3 h4 h5 2 _ ) kwV_X0_bookChosen kM_RX0_110 rfl rfl ⟨Nat.le_of_ble_eq_true rfl, Nat.le_of_ble_eq_true rfl⟩ rfl hl.1 rfl (Nat.le_of_ble_eq_true rfl) dX0_keepsFrom_149 ⟨Nat.le_of_ble_eq_true rfl, Nat.le_of_ble_eq_true rfl⟩) C.2.2.2.2.2.2.1 hP hD hS [0] [1, 2] rfl rfl (by decide) (by decide) (fun r_14 u_13 H locs hw_15 hP hD hS => ?_)
  have hP : va_P D vwCl [(h0, .inl (cy 1, 8, .inl u_10)), (h5, .inl (cy 1, 81, .inl (fun _ => 0))), (h, .inr (0, [.int 0, .int 0, .int (-1), .ref h0, .ref h1, .ref h2, .ref h3, .ref h4, .int 0, .ref h5, .int 0, .int 0, .int 10, .int 1, .int 0, .int 2]))] H := hP
  have hD : va_D A [(h0, .inl (cy 1, 8, .inl u_10)), (h5, .inl (cy 1, 81, .inl (fun _ => 0))), (h, .inr (0, [.int 0, .int 0, .int (-1), .ref h0, .ref h1, .ref h2, .ref h3, .ref h4, .int 0, .ref h5, .int 0, .int 0, .int 10, .int 1, .int 0, .int 2]))] := hD
  obtain rfl : r_14 = (-1) := hw_15
  refine q_iast (g := upd u_10 1 (-1)) (w' := [(h0, .inl (cy 1, 8, .inl (upd u_10 1 (-1)))), (h5, .inl (cy 1, 81, .inl (fun _ => 0))), (h, .inr (0, [.int 0, .int 0, .int (-1), .ref h0, .ref h1, .ref h2, .ref h3, .ref h4, .int 0, .ref h5, .int 0, .int 0, .int 10, .int 1, .int 0, .int 2]))]) C hP hD hS 0 rfl (vin (by decide +kernel)) rfl rfl dX0_keepsFrom_152 (fun H locs hP hD hS => ?_)
  refine lv_iconst (v := 1) hx hb dX0_keepsFrom_153 (by decide) ?_
  exact q_iret (rm := (Rm 1 26 0 0)) C hS (upd u_10 1 (-1)) rfl rfl (q_subP hP [2, 0, 1] rfl) (hD.sub [2, 0, 1] (by decide) rfl) (Nat.le_of_ble_eq_true rfl) (Nat.le_of_ble_eq_true rfl) dX0_keepsFrom_154
set_option maxHeartbeats 4000000 in
set_option maxRecDepth 100000 in
theorem c_keeps_2_0 (l : Launch) (D : va_G) (cy : Nat → ClassId) (h : Nat) (h0 : Nat) (h1 : Nat) (h2 : Nat) (h3 : Nat) (h4 : Nat) (h5 : Nat) (kr : Nat → Int32) (sz : Nat)  : MI l yX0_keepsFrom cX0_keepsFrom 7 (some .boolean) (Rm 2 52 0 0) D cy [.ref h, .int 0, .int 0] sz [(h, .inr (0, [.int 0, .int 0, .int (-1), .ref h0, .ref h1, .ref h2, .ref h3, .ref h4, .int 0, .ref h5, .int 0, .int 0, .int 10, .int 1, .int 0, .int 2])), (h0, .inl (cy 1, 8, .inl kr)), (h5, .inl (cy 1, 81, .inl (fun _ => 0)))] (fun (r : Int32) (u : Nat → Int32) => r = 1) (fun u : Nat → Int32 => [(h, .inr (0, [.int 0, .int 0, .int (-1), .ref h0, .ref h1, .ref h2, .ref h3, .ref h4, .int 0, .ref h5, .int 0, .int 0, .int 10, .int 1, .int 0, .int 2])), (h0, .inl (cy 1, 8, .inl u)), (h5, .inl (cy 1, 81, .inl (fun _ => 0)))]) := by
  refine MI.enter (by decide) (Nat.le_of_ble_eq_true rfl) ?_
  intro p e s m below meth c ls A hsz hAe C hP hD hS hl
  have C : Cx p s m _ meth c cX0_keepsFrom 7 (some .boolean) RX0 "keepsFrom" D cy A := C
  have hx := C.1
  have hb := C.2.1
  have hl : lv_has ls 7 [(0, .ref h), (1, .int 0), (2, .int 0)] := hl
  refine lv_iload_n hx hb dX0_keepsFrom_0 rfl (lv_at hl 1 rfl) ?_
  refine lv_aload_n hx hb dX0_keepsFrom_1 rfl (lv_at hl 0 rfl) ?_
  refine q_get (v := .int 2) C hP 0 15 rfl rfl inX0 (by decide) kF_RX0_58 rfl rfl dX0_keepsFrom_2 ?_
  refine lv_icmp_lt (tgt := 10) hx hb dX0_keepsFrom_5 (by decide) (fun _ => ?_) (fun c_0 => absurd (by decide) c_0)
  refine lv_aload_n hx hb dX0_keepsFrom_10 rfl (lv_at hl 0 rfl) ?_
  refine lv_iload_n hx hb dX0_keepsFrom_11 rfl (lv_at hl 1 rfl) ?_
  refine q_ai (wr := [(h0, .inl (cy 1, 8, .inl kr)), (h5, .inl (cy 1, 81, .inl (fun _ => 0)))]) (r_V (q0 := 0) (As := [.int 0]) (rest := []) (wc := [(h, .inr (0, [.int 0, .int 0, .int (-1), .ref h0, .ref h1, .ref h2, .ref h3, .ref h4, .int 0, .ref h5, .int 0, .int 0, .int 10, .int 1, .int 0, .int 2]))]) C (q_subP hP [0] rfl) (hD.sub [0] (by decide) rfl) (c_askNeeded l D cy h 0 h0 h1 h2 h3 h4 h5 2 _ ) kwV_X0_askingsNeeded kM_RX0_98 rfl rfl ⟨Nat.le_of_ble_eq_true rfl, Nat.le_of_ble_eq_true rfl⟩ rfl hl.1 rfl (Nat.le_of_ble_eq_true rfl) dX0_keepsFrom_12 ⟨Nat.le_of_ble_eq_true rfl, Nat.le_of_ble_eq_true rfl⟩) C.2.2.2.2.2.2.1 hP hD hS [0] [1, 2] rfl rfl (by decide) (by decide) (fun r_2 u_1 H locs hw_3 hP hD hS => ?_)
  have hP : va_P D vwCl [(h0, .inl (cy 1, 8, .inl kr)), (h5, .inl (cy 1, 81, .inl (fun _ => 0))), (h, .inr (0, [.int 0, .int 0, .int (-1), .ref h0, .ref h1, .ref h2, .ref h3, .ref h4, .int 0, .ref h5, .int 0, .int 0, .int 10, .int 1, .int 0, .int 2]))] H := hP
  have hD : va_D A [(h0, .inl (cy 1, 8, .inl kr)), (h5, .inl (cy 1, 81, .inl (fun _ => 0))), (h, .inr (0, [.int 0, .int 0, .int (-1), .ref h0, .ref h1, .ref h2, .ref h3, .ref h4, .int 0, .ref h5, .int 0, .int 0, .int 10, .int 1, .int 0, .int 2]))] := hD
  obtain rfl : r_2 = 0 := hw_3
  refine lv_iload_n hx hb dX0_keepsFrom_15 rfl (lv_at hl 2 rfl) ?_
  refine lv_icmp_le (tgt := 21) hx hb dX0_keepsFrom_16 (by decide) (fun _ => ?_) (fun c_0 => absurd (by decide) c_0)
  refine lv_aload_n hx hb dX0_keepsFrom_21 rfl (lv_at hl 0 rfl) ?_
  refine lv_iload_n hx hb dX0_keepsFrom_22 rfl (lv_at hl 1 rfl) ?_
  refine q_av (wr := [(h0, .inl (cy 1, 8, .inl kr)), (h5, .inl (cy 1, 81, .inl (fun _ => 0)))]) (r_V (q0 := 0) (As := [.int 0]) (rest := []) (wc := [(h, .inr (0, [.int 0, .int 0, .int (-1), .ref h0, .ref h1, .ref h2, .ref h3, .ref h4, .int 0, .ref h5, .int 0, .int 0, .int 10, .int 1, .int 0, .int 2]))]) C (q_subP hP [2] rfl) (hD.sub [2] (by decide) rfl) (c_passDay l D cy h 0 h0 h1 h2 h3 h4 h5 2 _ ) kwV_X0_passDay kM_RX0_102 rfl rfl ⟨Nat.le_of_ble_eq_true rfl, Nat.le_of_ble_eq_true rfl⟩ rfl hl.1 rfl (Nat.le_of_ble_eq_true rfl) dX0_keepsFrom_23 ⟨Nat.le_of_ble_eq_true rfl, Nat.le_of_ble_eq_true rfl⟩) C.2.2.2.2.2.2.1 hP hD hS [2] [0, 1] rfl rfl (by decide) (by decide) (fun u_4 H locs hw_6 hP hD hS => ?_)
  have hP : va_P D vwCl [(h0, .inl (cy 1, 8, .inl kr)), (h5, .inl (cy 1, 81, .inl (fun _ => 0))), (h, .inr (0, [.int 0, .int 0, .int (-1), .ref h0, .ref h1, .ref h2, .ref h3, .ref h4, .int 0, .ref h5, .int 0, .int 0, .int 10, .int 1, .int 0, .int 2]))] H := hP
  have hD : va_D A [(h0, .inl (cy 1, 8, .inl kr)), (h5, .inl (cy 1, 81, .inl (fun _ => 0))), (h, .inr (0, [.int 0, .int 0, .int (-1), .ref h0, .ref h1, .ref h2, .ref h3, .ref h4, .int 0, .ref h5, .int 0, .int 0, .int 10, .int 1, .int 0, .int 2]))] := hD
  refine lv_iconst (v := 0) hx hb dX0_keepsFrom_26 (by decide) ?_
  refine lv_istore_n (lv' := [(3, .int 0), (0, .ref h), (1, .int 0), (2, .int 0)]) hx hb dX0_keepsFrom_27 rfl hl (by decide) rfl (fun ls hl => ?_)
  refine lv_iload_n hx hb dX0_keepsFrom_28 rfl (lv_at hl 0 rfl) ?_
  refine lv_aload_n hx hb dX0_keepsFrom_29 rfl (lv_at hl 1 rfl) ?_
  refine q_get (v := .int 0) C hP 2 10 rfl rfl inX0 (by decide) kF_RX0_43 rfl rfl dX0_keepsFrom_30 ?_
  refine lv_icmp_gt (tgt := 170) hx hb dX0_keepsFrom_33 (by decide) (fun c_0 => absurd c_0 (by decide)) (fun _ => ?_)
  refine lv_iload_n hx hb dX0_keepsFrom_36 rfl (lv_at hl 0 rfl) ?_
  refine lv_aload_n hx hb dX0_keepsFrom_37 rfl (lv_at hl 1 rfl) ?_
  refine q_get (v := .int 0) C hP 2 10 rfl rfl inX0 (by decide) kF_RX0_43 rfl rfl dX0_keepsFrom_38 ?_
  refine lv_icmp_ge (tgt := 48) hx hb dX0_keepsFrom_41 (by decide) (fun _ => ?_) (fun c_0 => absurd (by decide) c_0)
  refine lv_iconst (v := 0) hx hb dX0_keepsFrom_48 (by decide) ?_
  refine lv_istore (lv' := [(4, .int 0), (3, .int 0), (0, .ref h), (1, .int 0), (2, .int 0)]) hx hb dX0_keepsFrom_49 hl (by decide) rfl (fun ls hl => ?_)
  refine lv_iload hx hb dX0_keepsFrom_51 (lv_at hl 0 rfl) ?_
  refine lv_if_eq (tgt := 83) hx hb dX0_keepsFrom_53 (by decide) (fun _ => ?_) (fun c_0 => absurd (by decide) c_0)
  refine lv_iload_n hx hb dX0_keepsFrom_83 rfl (lv_at hl 3 rfl) ?_
  refine lv_iconst (v := 1) hx hb dX0_keepsFrom_84 (by decide) ?_
  refine lv_iadd hx hb dX0_keepsFrom_85 ?_
  refine q_val (v := 1) (by decide) ?_
  refine lv_bipush (v := 9) hx hb dX0_keepsFrom_86 (by decide) ?_
  refine lv_imul hx hb dX0_keepsFrom_88 ?_
  refine q_val (v := 9) (by decide) ?_
  refine lv_iload_n hx hb dX0_keepsFrom_89 rfl (lv_at hl 1 rfl) ?_
  refine lv_iadd hx hb dX0_keepsFrom_90 ?_
  refine q_val (v := 9) (by decide) ?_
  refine lv_istore (lv' := [(5, .int 9), (4, .int 0), (3, .int 0), (0, .ref h), (1, .int 0), (2, .int 0)]) hx hb dX0_keepsFrom_91 hl (by decide) rfl (fun ls hl => ?_)
  refine lv_aload_n hx hb dX0_keepsFrom_93 rfl (lv_at hl 3 rfl) ?_
  refine q_get (v := .ref h5) C hP 2 9 rfl rfl inX0 (by decide) kF_RX0_40 rfl rfl dX0_keepsFrom_94 ?_
  refine lv_iload hx hb dX0_keepsFrom_97 (lv_at hl 0 rfl) ?_
  refine q_iald (v := 0) C hP 1 rfl (vin (by decide +kernel)) rfl dX0_keepsFrom_99 ?_
  refine lv_istore (lv' := [(6, .int 0), (5, .int 9), (4, .int 0), (3, .int 0), (0, .ref h), (1, .int 0), (2, .int 0)]) hx hb dX0_keepsFrom_100 hl (by decide) rfl (fun ls hl => ?_)
  refine lv_aload_n hx hb dX0_keepsFrom_102 rfl (lv_at hl 4 rfl) ?_
  refine q_get (v := .ref h5) C hP 2 9 rfl rfl inX0 (by decide) kF_RX0_40 rfl rfl dX0_keepsFrom_103 ?_
  refine lv_iload hx hb dX0_keepsFrom_106 (lv_at hl 1 rfl) ?_
  refine lv_iconst (v := 0) hx hb dX0_keepsFrom_108 (by decide) ?_
  refine q_iast (g := fun _ => 0) (w' := [(h0, .inl (cy 1, 8, .inl kr)), (h5, .inl (cy 1, 81, .inl (fun _ => 0))), (h, .inr (0, [.int 0, .int 0, .int (-1), .ref h0, .ref h1, .ref h2, .ref h3, .ref h4, .int 0, .ref h5, .int 0, .int 0, .int 10, .int 1, .int 0, .int 2]))]) C hP hD hS 1 rfl (vin (by decide +kernel)) (updz _) rfl dX0_keepsFrom_109 (fun H locs hP hD hS => ?_)
  refine lv_aload_n hx hb dX0_keepsFrom_110 rfl (lv_at hl 4 rfl) ?_
  refine lv_iload_n hx hb dX0_keepsFrom_111 rfl (lv_at hl 5 rfl) ?_
  refine lv_iconst (v := 1) hx hb dX0_keepsFrom_112 (by decide) ?_
  refine lv_iadd hx hb dX0_keepsFrom_113 ?_
  refine q_val (v := 1) (by decide) ?_
  refine q_ai (wr := [(h0, .inl (cy 1, 8, .inl kr)), (h5, .inl (cy 1, 81, .inl (fun _ => 0)))]) (r_V (q0 := 0) (As := [.int 1]) (rest := []) (wc := [(h, .inr (0, [.int 0, .int 0, .int (-1), .ref h0, .ref h1, .ref h2, .ref h3, .ref h4, .int 0, .ref h5, .int 0, .int 0, .int 10, .int 1, .int 0, .int 2]))]) C (q_subP hP [2] rfl) (hD.sub [2] (by decide) rfl) (c_rareDoubt l D cy h 1 h0 h1 h2 h3 h4 h5 2 _ ) kwV_X0_areRareInDoubt kM_RX0_106 rfl rfl ⟨Nat.le_of_ble_eq_true rfl, Nat.le_of_ble_eq_true rfl⟩ rfl hl.1 rfl (Nat.le_of_ble_eq_true rfl) dX0_keepsFrom_114 ⟨Nat.le_of_ble_eq_true rfl, Nat.le_of_ble_eq_true rfl⟩) C.2.2.2.2.2.2.1 hP hD hS [2] [0, 1] rfl rfl (by decide) (by decide) (fun r_8 u_7 H locs hw_9 hP hD hS => ?_)
  have hP : va_P D vwCl [(h0, .inl (cy 1, 8, .inl kr)), (h5, .inl (cy 1, 81, .inl (fun _ => 0))), (h, .inr (0, [.int 0, .int 0, .int (-1), .ref h0, .ref h1, .ref h2, .ref h3, .ref h4, .int 0, .ref h5, .int 0, .int 0, .int 10, .int 1, .int 0, .int 2]))] H := hP
  have hD : va_D A [(h0, .inl (cy 1, 8, .inl kr)), (h5, .inl (cy 1, 81, .inl (fun _ => 0))), (h, .inr (0, [.int 0, .int 0, .int (-1), .ref h0, .ref h1, .ref h2, .ref h3, .ref h4, .int 0, .ref h5, .int 0, .int 0, .int 10, .int 1, .int 0, .int 2]))] := hD
  obtain rfl : r_8 = 1 := hw_9
  refine lv_if_eq (tgt := 155) hx hb dX0_keepsFrom_117 (by decide) (fun c_0 => absurd c_0 (by decide)) (fun _ => ?_)
  refine lv_aload_n hx hb dX0_keepsFrom_120 rfl (lv_at hl 4 rfl) ?_
  refine lv_iload_n hx hb dX0_keepsFrom_121 rfl (lv_at hl 5 rfl) ?_
  refine lv_iconst (v := 1) hx hb dX0_keepsFrom_122 (by decide) ?_
  refine lv_iadd hx hb dX0_keepsFrom_123 ?_
  refine q_val (v := 1) (by decide) ?_
  refine lv_iload hx hb dX0_keepsFrom_124 (lv_at hl 2 rfl) ?_
  refine lv_if_eq (tgt := 135) hx hb dX0_keepsFrom_126 (by decide) (fun _ => ?_) (fun c_0 => absurd (by decide) c_0)
  refine lv_iload_n hx hb dX0_keepsFrom_135 rfl (lv_at hl 6 rfl) ?_
  refine q_ai (wr := []) (r_V (q0 := 0) (As := [.int 1, .int 0]) (rest := []) (wc := [(h, .inr (0, [.int 0, .int 0, .int (-1), .ref h0, .ref h1, .ref h2, .ref h3, .ref h4, .int 0, .ref h5, .int 0, .int 0, .int 10, .int 1, .int 0, .int 2])), (h0, .inl (cy 1, 8, .inl kr)), (h5, .inl (cy 1, 81, .inl (fun _ => 0)))]) C (q_subP hP [2, 0, 1] rfl) (hD.sub [2, 0, 1] (by decide) rfl) (c_keeps_2_1 l D cy h h0 h1 h2 h3 h4 h5 kr _ ) kwV_X0_keepsFrom kM_RX0_95 rfl rfl ⟨Nat.le_of_ble_eq_true rfl, Nat.le_of_ble_eq_true rfl⟩ rfl hl.1 rfl (Nat.le_of_ble_eq_true rfl) dX0_keepsFrom_136 ⟨Nat.le_of_ble_eq_true rfl, Nat.le_of_ble_eq_true rfl⟩) C.2.2.2.2.2.2.1 hP hD hS [2, 0, 1] [] rfl rfl (by decide) (by decide) (fun r_11 u_10 H locs hw_12 hP hD hS => ?_)
  have hP : va_P D vwCl [(h, .inr (0, [.int 0, .int 0, .int (-1), .ref h0, .ref h1, .ref h2, .ref h3, .ref h4, .int 0, .ref h5, .int 0, .int 0, .int 10, .int 1, .int 0, .int 2])), (h0, .inl (cy 1, 8, .inl u_10)), (h5, .inl (cy 1, 81, .inl (fun _ => 0)))] H := hP
  have hD : va_D A [(h, .inr (0, [.int 0, .int 0, .int (-1), .ref h0, .ref h1, .ref h2, .ref h3, .ref h4, .int 0, .ref h5, .int 0, .int 0, .int 10, .int 1, .int 0, .int 2])), (h0, .inl (cy 1, 8, .inl u_10)), (h5, .inl (cy 1, 81, .inl (fun _ => 0)))] := hD
  obtain rfl : r_11 = 1 := hw_12
  refine lv_if_eq (tgt := 155) hx hb dX0_keepsFrom_139 (by decide) (fun c_0 => absurd c_0 (by decide)) (fun _ => ?_)
  refine lv_aload_n hx hb dX0_keepsFrom_142 rfl (lv_at hl 4 rfl) ?_
  refine q_get (v := .ref h0) C hP 0 3 rfl rfl inX0 (by decide) kF_RX0_21 rfl rfl dX0_keepsFrom_143 ?_
  refine lv_iload_n hx hb dX0_keepsFrom_146 rfl (lv_at hl 5 rfl) ?_
  refine lv_aload_n hx hb dX0_keepsFrom_147 rfl (lv_at hl 4 rfl) ?_
  refine lv_iload_n hx hb dX0_keepsFrom_148 rfl (lv_at hl 3 rfl) ?_
  refine q_ai (wr := [(h0, .inl (cy 1, 8, .inl u_10)), (h5, .inl (cy 1, 81, .inl (fun _ => 0)))]) (r_V (q0 := 0) (As := [.int 0]) (rest := [.int 0, .ref h0]) (wc := [(h, .inr (0, [.int 0, .int 0, .int (-1), .ref h0, .ref h1, .ref h2, .ref h3, .ref h4, .int 0, .ref h5, .int 0, .int 0, .int 10, .int 1, .int 0, .int 2]))]) C (q_subP hP [0] rfl) (hD.sub [0] (by decide) rfl) (c_bookChosen l D cy h h0 h1 h2 h3 h4 h5 2 _ ) kwV_X0_bookChosen kM_RX0_110 rfl rfl ⟨Nat.le_of_ble_eq_true rfl, Nat.le_of_ble_eq_true rfl⟩ rfl hl.1 rfl (Nat.le_of_ble_eq_true rfl) dX0_keepsFrom_149 ⟨Nat.le_of_ble_eq_true rfl, Nat.le_of_ble_eq_true rfl⟩) C.2.2.2.2.2.2.1 hP hD hS [0] [1, 2] rfl rfl (by decide) (by decide) (fun r_14 u_13 H locs hw_15 hP hD hS => ?_)
  have hP : va_P D vwCl [(h0, .inl (cy 1, 8, .inl u_10)), (h5, .inl (cy 1, 81, .inl (fun _ => 0))), (h, .inr (0, [.int 0, .int 0, .int (-1), .ref h0, .ref h1, .ref h2, .ref h3, .ref h4, .int 0, .ref h5, .int 0, .int 0, .int 10, .int 1, .int 0, .int 2]))] H := hP
  have hD : va_D A [(h0, .inl (cy 1, 8, .inl u_10)), (h5, .inl (cy 1, 81, .inl (fun _ => 0))), (h, .inr (0, [.int 0, .int 0, .int (-1), .ref h0, .ref h1, .ref h2, .ref h3, .ref h4, .int 0, .ref h5, .int 0, .int 0, .int 10, .int 1, .int 0, .int 2]))] := hD
  obtain rfl : r_14 = (-1) := hw_15
  refine q_iast (g := upd u_10 0 (-1)) (w' := [(h0, .inl (cy 1, 8, .inl (upd u_10 0 (-1)))), (h5, .inl (cy 1, 81, .inl (fun _ => 0))), (h, .inr (0, [.int 0, .int 0, .int (-1), .ref h0, .ref h1, .ref h2, .ref h3, .ref h4, .int 0, .ref h5, .int 0, .int 0, .int 10, .int 1, .int 0, .int 2]))]) C hP hD hS 0 rfl (vin (by decide +kernel)) rfl rfl dX0_keepsFrom_152 (fun H locs hP hD hS => ?_)
  refine lv_iconst (v := 1) hx hb dX0_keepsFrom_153 (by decide) ?_
  exact q_iret (rm := (Rm 2 52 0 0)) C hS (upd u_10 0 (-1)) rfl rfl (q_subP hP [2, 0, 1] rfl) (hD.sub [2, 0, 1] (by decide) rfl) (Nat.le_of_ble_eq_true rfl) (Nat.le_of_ble_eq_true rfl) dX0_keepsFrom_154
set_option maxHeartbeats 4000000 in
set_option maxRecDepth 100000 in
theorem c_fewest_2 (l : Launch) (D : va_G) (cy : Nat → ClassId) (h : Nat) (h0 : Nat) (h1 : Nat) (h2 : Nat) (h3 : Nat) (h4 : Nat) (h5 : Nat) (kr : Nat → Int32) (sz : Nat)  : MI l yX0_fewestAskings cX0_fewestAskings 2 (some .int) (Rm 3 78 0 0) D cy [.ref h] sz [(h, .inr (0, [.int 0, .int 0, .int (-1), .ref h0, .ref h1, .ref h2, .ref h3, .ref h4, .int 0, .ref h5, .int 0, .int 0, .int 10, .int 1, .int 0, .int 2])), (h0, .inl (cy 1, 8, .inl kr)), (h5, .inl (cy 1, 81, .inl (fun _ => 0)))] (fun (r : Int32) (u : Unit) => r = 0) (fun u : Unit => []) := by
  refine MI.enter (by decide) (Nat.le_of_ble_eq_true rfl) ?_
  intro p e s m below meth c ls A hsz hAe C hP hD hS hl
  have C : Cx p s m _ meth c cX0_fewestAskings 2 (some .int) RX0 "fewestAskings" D cy A := C
  have hx := C.1
  have hb := C.2.1
  have hl : lv_has ls 2 [(0, .ref h)] := hl
  refine lv_iconst (v := 0) hx hb dX0_fewestAskings_0 (by decide) ?_
  refine lv_istore_n (lv' := [(1, .int 0), (0, .ref h)]) hx hb dX0_fewestAskings_1 rfl hl (by decide) rfl (fun ls hl => ?_)
  refine lv_iload_n hx hb dX0_fewestAskings_2 rfl (lv_at hl 0 rfl) ?_
  refine lv_aload_n hx hb dX0_fewestAskings_3 rfl (lv_at hl 1 rfl) ?_
  refine q_get (v := .int 2) C hP 0 15 rfl rfl inX0 (by decide) kF_RX0_58 rfl rfl dX0_fewestAskings_4 ?_
  refine lv_icmp_gt (tgt := 35) hx hb dX0_fewestAskings_7 (by decide) (fun c_0 => absurd c_0 (by decide)) (fun _ => ?_)
  refine lv_aload_n hx hb dX0_fewestAskings_10 rfl (lv_at hl 1 rfl) ?_
  refine lv_iconst (v := 0) hx hb dX0_fewestAskings_11 (by decide) ?_
  refine lv_iload_n hx hb dX0_fewestAskings_12 rfl (lv_at hl 0 rfl) ?_
  refine q_ai (wr := []) (r_V (q0 := 0) (As := [.int 0, .int 0]) (rest := []) (wc := [(h, .inr (0, [.int 0, .int 0, .int (-1), .ref h0, .ref h1, .ref h2, .ref h3, .ref h4, .int 0, .ref h5, .int 0, .int 0, .int 10, .int 1, .int 0, .int 2])), (h0, .inl (cy 1, 8, .inl kr)), (h5, .inl (cy 1, 81, .inl (fun _ => 0)))]) C (q_subP hP [0, 1, 2] rfl) (hD.sub [0, 1, 2] (by decide) rfl) (c_keeps_2_0 l D cy h h0 h1 h2 h3 h4 h5 kr _ ) kwV_X0_keepsFrom kM_RX0_95 rfl rfl ⟨Nat.le_of_ble_eq_true rfl, Nat.le_of_ble_eq_true rfl⟩ rfl hl.1 rfl (Nat.le_of_ble_eq_true rfl) dX0_fewestAskings_13 ⟨Nat.le_of_ble_eq_true rfl, Nat.le_of_ble_eq_true rfl⟩) C.2.2.2.2.2.2.1 hP hD hS [0, 1, 2] [] rfl rfl (by decide) (by decide) (fun r_2 u_1 H locs hw_3 hP hD hS => ?_)
  have hP : va_P D vwCl [(h, .inr (0, [.int 0, .int 0, .int (-1), .ref h0, .ref h1, .ref h2, .ref h3, .ref h4, .int 0, .ref h5, .int 0, .int 0, .int 10, .int 1, .int 0, .int 2])), (h0, .inl (cy 1, 8, .inl u_1)), (h5, .inl (cy 1, 81, .inl (fun _ => 0)))] H := hP
  have hD : va_D A [(h, .inr (0, [.int 0, .int 0, .int (-1), .ref h0, .ref h1, .ref h2, .ref h3, .ref h4, .int 0, .ref h5, .int 0, .int 0, .int 10, .int 1, .int 0, .int 2])), (h0, .inl (cy 1, 8, .inl u_1)), (h5, .inl (cy 1, 81, .inl (fun _ => 0)))] := hD
  obtain rfl : r_2 = 1 := hw_3
  refine lv_if_eq (tgt := 29) hx hb dX0_fewestAskings_16 (by decide) (fun c_0 => absurd c_0 (by decide)) (fun _ => ?_)
  refine lv_aload_n hx hb dX0_fewestAskings_19 rfl (lv_at hl 1 rfl) ?_
  refine lv_aload_n hx hb dX0_fewestAskings_20 rfl (lv_at hl 1 rfl) ?_
  refine q_get (v := .int 2) C hP 0 15 rfl rfl inX0 (by decide) kF_RX0_58 rfl rfl dX0_fewestAskings_21 ?_
  refine q_put (v := .int 2) (w' := [(h, .inr (0, [.int 2, .int 0, .int (-1), .ref h0, .ref h1, .ref h2, .ref h3, .ref h4, .int 0, .ref h5, .int 0, .int 0, .int 10, .int 1, .int 0, .int 2])), (h0, .inl (cy 1, 8, .inl u_1)), (h5, .inl (cy 1, 81, .inl (fun _ => 0)))]) (ty := .int) C hP hD hS 0 0 rfl rfl inX0 tyX0 tyX0_ok nmX0 (by decide) kF_RX0_9 rfl rfl rfl rfl rfl (Nat.le_of_ble_eq_true rfl) rfl dX0_fewestAskings_24 (fun H locs hP hD hS => ?_)
  refine lv_iload_n hx hb dX0_fewestAskings_27 rfl (lv_at hl 0 rfl) ?_
  exact q_iret (rm := (Rm 3 78 0 0)) C hS () rfl rfl (q_subP hP [] rfl) (hD.sub [] (by decide) rfl) (Nat.le_of_ble_eq_true rfl) (Nat.le_of_ble_eq_true rfl) dX0_fewestAskings_28
set_option maxHeartbeats 4000000 in
set_option maxRecDepth 100000 in
theorem c_keeps_3_3 (l : Launch) (D : va_G) (cy : Nat → ClassId) (h : Nat) (h0 : Nat) (h1 : Nat) (h2 : Nat) (h3 : Nat) (h4 : Nat) (h5 : Nat) (kr : Nat → Int32) (sz : Nat)  : MI l yX0_keepsFrom cX0_keepsFrom 7 (some .boolean) (Rm 0 0 0 0) D cy [.ref h, .int 3, .int 0] sz [(h, .inr (0, [.int 0, .int 0, .int (-1), .ref h0, .ref h1, .ref h2, .ref h3, .ref h4, .int 0, .ref h5, .int 0, .int 0, .int 10, .int 1, .int 0, .int 3])), (h0, .inl (cy 1, 8, .inl kr)), (h5, .inl (cy 1, 81, .inl (fun _ => 0)))] (fun (r : Int32) (u : Nat → Int32) => r = 1) (fun u : Nat → Int32 => [(h, .inr (0, [.int 0, .int 0, .int (-1), .ref h0, .ref h1, .ref h2, .ref h3, .ref h4, .int 0, .ref h5, .int 0, .int 0, .int 10, .int 1, .int 0, .int 3])), (h0, .inl (cy 1, 8, .inl u)), (h5, .inl (cy 1, 81, .inl (fun _ => 0)))]) := by
  refine MI.enter (by decide) (Nat.le_of_ble_eq_true rfl) ?_
  intro p e s m below meth c ls A hsz hAe C hP hD hS hl
  have C : Cx p s m _ meth c cX0_keepsFrom 7 (some .boolean) RX0 "keepsFrom" D cy A := C
  have hx := C.1
  have hb := C.2.1
  have hl : lv_has ls 7 [(0, .ref h), (1, .int 3), (2, .int 0)] := hl
  refine lv_iload_n hx hb dX0_keepsFrom_0 rfl (lv_at hl 1 rfl) ?_
  refine lv_aload_n hx hb dX0_keepsFrom_1 rfl (lv_at hl 0 rfl) ?_
  refine q_get (v := .int 3) C hP 0 15 rfl rfl inX0 (by decide) kF_RX0_58 rfl rfl dX0_keepsFrom_2 ?_
  refine lv_icmp_lt (tgt := 10) hx hb dX0_keepsFrom_5 (by decide) (fun c_0 => absurd c_0 (by decide)) (fun _ => ?_)
  refine lv_iconst (v := 1) hx hb dX0_keepsFrom_8 (by decide) ?_
  exact q_iret (rm := (Rm 0 0 0 0)) C hS (kr) rfl rfl (q_subP hP [0, 1, 2] rfl) (hD.sub [0, 1, 2] (by decide) rfl) (Nat.le_of_ble_eq_true rfl) (Nat.le_of_ble_eq_true rfl) dX0_keepsFrom_9
set_option maxHeartbeats 4000000 in
set_option maxRecDepth 100000 in
theorem c_keeps_3_2 (l : Launch) (D : va_G) (cy : Nat → ClassId) (h : Nat) (h0 : Nat) (h1 : Nat) (h2 : Nat) (h3 : Nat) (h4 : Nat) (h5 : Nat) (kr : Nat → Int32) (sz : Nat)  : MI l yX0_keepsFrom cX0_keepsFrom 7 (some .boolean) (Rm 1 26 0 0) D cy [.ref h, .int 2, .int 0] sz [(h, .inr (0, [.int 0, .int 0, .int (-1), .ref h0, .ref h1, .ref h2, .ref h3, .ref h4, .int 0, .ref h5, .int 0, .int 0, .int 10, .int 1, .int 0, .int 3])), (h0, .inl (cy 1, 8, .inl kr)), (h5, .inl (cy 1, 81, .inl (fun _ => 0)))] (fun (r : Int32) (u : Nat → Int32) => r = 1) (fun u : Nat → Int32 => [(h, .inr (0, [.int 0, .int 0, .int (-1), .ref h0, .ref h1, .ref h2, .ref h3, .ref h4, .int 0, .ref h5, .int 0, .int 0, .int 10, .int 1, .int 0, .int 3])), (h0, .inl (cy 1, 8, .inl u)), (h5, .inl (cy 1, 81, .inl (fun _ => 0)))]) := by
  refine MI.enter (by decide) (Nat.le_of_ble_eq_true rfl) ?_
  intro p e s m below meth c ls A hsz hAe C hP hD hS hl
  have C : Cx p s m _ meth c cX0_keepsFrom 7 (some .boolean) RX0 "keepsFrom" D cy A := C
  have hx := C.1
  have hb := C.2.1
  have hl : lv_has ls 7 [(0, .ref h), (1, .int 2), (2, .int 0)] := hl
  refine lv_iload_n hx hb dX0_keepsFrom_0 rfl (lv_at hl 1 rfl) ?_
  refine lv_aload_n hx hb dX0_keepsFrom_1 rfl (lv_at hl 0 rfl) ?_
  refine q_get (v := .int 3) C hP 0 15 rfl rfl inX0 (by decide) kF_RX0_58 rfl rfl dX0_keepsFrom_2 ?_
  refine lv_icmp_lt (tgt := 10) hx hb dX0_keepsFrom_5 (by decide) (fun _ => ?_) (fun c_0 => absurd (by decide) c_0)
  refine lv_aload_n hx hb dX0_keepsFrom_10 rfl (lv_at hl 0 rfl) ?_
  refine lv_iload_n hx hb dX0_keepsFrom_11 rfl (lv_at hl 1 rfl) ?_
  refine q_ai (wr := [(h0, .inl (cy 1, 8, .inl kr)), (h5, .inl (cy 1, 81, .inl (fun _ => 0)))]) (r_V (q0 := 0) (As := [.int 2]) (rest := []) (wc := [(h, .inr (0, [.int 0, .int 0, .int (-1), .ref h0, .ref h1, .ref h2, .ref h3, .ref h4, .int 0, .ref h5, .int 0, .int 0, .int 10, .int 1, .int 0, .int 3]))]) C (q_subP hP [0] rfl) (hD.sub [0] (by decide) rfl) (c_askNeeded l D cy h 2 h0 h1 h2 h3 h4 h5 3 _ ) kwV_X0_askingsNeeded kM_RX0_98 rfl rfl ⟨Nat.le_of_ble_eq_true rfl, Nat.le_of_ble_eq_true rfl⟩ rfl hl.1 rfl (Nat.le_of_ble_eq_true rfl) dX0_keepsFrom_12 ⟨Nat.le_of_ble_eq_true rfl, Nat.le_of_ble_eq_true rfl⟩) C.2.2.2.2.2.2.1 hP hD hS [0] [1, 2] rfl rfl (by decide) (by decide) (fun r_2 u_1 H locs hw_3 hP hD hS => ?_)
  have hP : va_P D vwCl [(h0, .inl (cy 1, 8, .inl kr)), (h5, .inl (cy 1, 81, .inl (fun _ => 0))), (h, .inr (0, [.int 0, .int 0, .int (-1), .ref h0, .ref h1, .ref h2, .ref h3, .ref h4, .int 0, .ref h5, .int 0, .int 0, .int 10, .int 1, .int 0, .int 3]))] H := hP
  have hD : va_D A [(h0, .inl (cy 1, 8, .inl kr)), (h5, .inl (cy 1, 81, .inl (fun _ => 0))), (h, .inr (0, [.int 0, .int 0, .int (-1), .ref h0, .ref h1, .ref h2, .ref h3, .ref h4, .int 0, .ref h5, .int 0, .int 0, .int 10, .int 1, .int 0, .int 3]))] := hD
  obtain rfl : r_2 = 0 := hw_3
  refine lv_iload_n hx hb dX0_keepsFrom_15 rfl (lv_at hl 2 rfl) ?_
  refine lv_icmp_le (tgt := 21) hx hb dX0_keepsFrom_16 (by decide) (fun _ => ?_) (fun c_0 => absurd (by decide) c_0)
  refine lv_aload_n hx hb dX0_keepsFrom_21 rfl (lv_at hl 0 rfl) ?_
  refine lv_iload_n hx hb dX0_keepsFrom_22 rfl (lv_at hl 1 rfl) ?_
  refine q_av (wr := [(h0, .inl (cy 1, 8, .inl kr)), (h5, .inl (cy 1, 81, .inl (fun _ => 0)))]) (r_V (q0 := 0) (As := [.int 2]) (rest := []) (wc := [(h, .inr (0, [.int 0, .int 0, .int (-1), .ref h0, .ref h1, .ref h2, .ref h3, .ref h4, .int 0, .ref h5, .int 0, .int 0, .int 10, .int 1, .int 0, .int 3]))]) C (q_subP hP [2] rfl) (hD.sub [2] (by decide) rfl) (c_passDay l D cy h 2 h0 h1 h2 h3 h4 h5 3 _ ) kwV_X0_passDay kM_RX0_102 rfl rfl ⟨Nat.le_of_ble_eq_true rfl, Nat.le_of_ble_eq_true rfl⟩ rfl hl.1 rfl (Nat.le_of_ble_eq_true rfl) dX0_keepsFrom_23 ⟨Nat.le_of_ble_eq_true rfl, Nat.le_of_ble_eq_true rfl⟩) C.2.2.2.2.2.2.1 hP hD hS [2] [0, 1] rfl rfl (by decide) (by decide) (fun u_4 H locs hw_6 hP hD hS => ?_)
  have hP : va_P D vwCl [(h0, .inl (cy 1, 8, .inl kr)), (h5, .inl (cy 1, 81, .inl (fun _ => 0))), (h, .inr (0, [.int 0, .int 0, .int (-1), .ref h0, .ref h1, .ref h2, .ref h3, .ref h4, .int 0, .ref h5, .int 0, .int 0, .int 10, .int 1, .int 0, .int 3]))] H := hP
  have hD : va_D A [(h0, .inl (cy 1, 8, .inl kr)), (h5, .inl (cy 1, 81, .inl (fun _ => 0))), (h, .inr (0, [.int 0, .int 0, .int (-1), .ref h0, .ref h1, .ref h2, .ref h3, .ref h4, .int 0, .ref h5, .int 0, .int 0, .int 10, .int 1, .int 0, .int 3]))] := hD
  refine lv_iconst (v := 0) hx hb dX0_keepsFrom_26 (by decide) ?_
  refine lv_istore_n (lv' := [(3, .int 0), (0, .ref h), (1, .int 2), (2, .int 0)]) hx hb dX0_keepsFrom_27 rfl hl (by decide) rfl (fun ls hl => ?_)
  refine lv_iload_n hx hb dX0_keepsFrom_28 rfl (lv_at hl 0 rfl) ?_
  refine lv_aload_n hx hb dX0_keepsFrom_29 rfl (lv_at hl 1 rfl) ?_
  refine q_get (v := .int 0) C hP 2 10 rfl rfl inX0 (by decide) kF_RX0_43 rfl rfl dX0_keepsFrom_30 ?_
  refine lv_icmp_gt (tgt := 170) hx hb dX0_keepsFrom_33 (by decide) (fun c_0 => absurd c_0 (by decide)) (fun _ => ?_)
  refine lv_iload_n hx hb dX0_keepsFrom_36 rfl (lv_at hl 0 rfl) ?_
  refine lv_aload_n hx hb dX0_keepsFrom_37 rfl (lv_at hl 1 rfl) ?_
  refine q_get (v := .int 0) C hP 2 10 rfl rfl inX0 (by decide) kF_RX0_43 rfl rfl dX0_keepsFrom_38 ?_
  refine lv_icmp_ge (tgt := 48) hx hb dX0_keepsFrom_41 (by decide) (fun _ => ?_) (fun c_0 => absurd (by decide) c_0)
  refine lv_iconst (v := 0) hx hb dX0_keepsFrom_48 (by decide) ?_
  refine lv_istore (lv' := [(4, .int 0), (3, .int 0), (0, .ref h), (1, .int 2), (2, .int 0)]) hx hb dX0_keepsFrom_49 hl (by decide) rfl (fun ls hl => ?_)
  refine lv_iload hx hb dX0_keepsFrom_51 (lv_at hl 0 rfl) ?_
  refine lv_if_eq (tgt := 83) hx hb dX0_keepsFrom_53 (by decide) (fun _ => ?_) (fun c_0 => absurd (by decide) c_0)
  refine lv_iload_n hx hb dX0_keepsFrom_83 rfl (lv_at hl 3 rfl) ?_
  refine lv_iconst (v := 1) hx hb dX0_keepsFrom_84 (by decide) ?_
  refine lv_iadd hx hb dX0_keepsFrom_85 ?_
  refine q_val (v := 3) (by decide) ?_
  refine lv_bipush (v := 9) hx hb dX0_keepsFrom_86 (by decide) ?_
  refine lv_imul hx hb dX0_keepsFrom_88 ?_
  refine q_val (v := 27) (by decide) ?_
  refine lv_iload_n hx hb dX0_keepsFrom_89 rfl (lv_at hl 1 rfl) ?_
  refine lv_iadd hx hb dX0_keepsFrom_90 ?_
  refine q_val (v := 27) (by decide) ?_
  refine lv_istore (lv' := [(5, .int 27), (4, .int 0), (3, .int 0), (0, .ref h), (1, .int 2), (2, .int 0)]) hx hb dX0_keepsFrom_91 hl (by decide) rfl (fun ls hl => ?_)
  refine lv_aload_n hx hb dX0_keepsFrom_93 rfl (lv_at hl 3 rfl) ?_
  refine q_get (v := .ref h5) C hP 2 9 rfl rfl inX0 (by decide) kF_RX0_40 rfl rfl dX0_keepsFrom_94 ?_
  refine lv_iload hx hb dX0_keepsFrom_97 (lv_at hl 0 rfl) ?_
  refine q_iald (v := 0) C hP 1 rfl (vin (by decide +kernel)) rfl dX0_keepsFrom_99 ?_
  refine lv_istore (lv' := [(6, .int 0), (5, .int 27), (4, .int 0), (3, .int 0), (0, .ref h), (1, .int 2), (2, .int 0)]) hx hb dX0_keepsFrom_100 hl (by decide) rfl (fun ls hl => ?_)
  refine lv_aload_n hx hb dX0_keepsFrom_102 rfl (lv_at hl 4 rfl) ?_
  refine q_get (v := .ref h5) C hP 2 9 rfl rfl inX0 (by decide) kF_RX0_40 rfl rfl dX0_keepsFrom_103 ?_
  refine lv_iload hx hb dX0_keepsFrom_106 (lv_at hl 1 rfl) ?_
  refine lv_iconst (v := 0) hx hb dX0_keepsFrom_108 (by decide) ?_
  refine q_iast (g := fun _ => 0) (w' := [(h0, .inl (cy 1, 8, .inl kr)), (h5, .inl (cy 1, 81, .inl (fun _ => 0))), (h, .inr (0, [.int 0, .int 0, .int (-1), .ref h0, .ref h1, .ref h2, .ref h3, .ref h4, .int 0, .ref h5, .int 0, .int 0, .int 10, .int 1, .int 0, .int 3]))]) C hP hD hS 1 rfl (vin (by decide +kernel)) (updz _) rfl dX0_keepsFrom_109 (fun H locs hP hD hS => ?_)
  refine lv_aload_n hx hb dX0_keepsFrom_110 rfl (lv_at hl 4 rfl) ?_
  refine lv_iload_n hx hb dX0_keepsFrom_111 rfl (lv_at hl 5 rfl) ?_
  refine lv_iconst (v := 1) hx hb dX0_keepsFrom_112 (by decide) ?_
  refine lv_iadd hx hb dX0_keepsFrom_113 ?_
  refine q_val (v := 3) (by decide) ?_
  refine q_ai (wr := [(h0, .inl (cy 1, 8, .inl kr)), (h5, .inl (cy 1, 81, .inl (fun _ => 0)))]) (r_V (q0 := 0) (As := [.int 3]) (rest := []) (wc := [(h, .inr (0, [.int 0, .int 0, .int (-1), .ref h0, .ref h1, .ref h2, .ref h3, .ref h4, .int 0, .ref h5, .int 0, .int 0, .int 10, .int 1, .int 0, .int 3]))]) C (q_subP hP [2] rfl) (hD.sub [2] (by decide) rfl) (c_rareDoubt l D cy h 3 h0 h1 h2 h3 h4 h5 3 _ ) kwV_X0_areRareInDoubt kM_RX0_106 rfl rfl ⟨Nat.le_of_ble_eq_true rfl, Nat.le_of_ble_eq_true rfl⟩ rfl hl.1 rfl (Nat.le_of_ble_eq_true rfl) dX0_keepsFrom_114 ⟨Nat.le_of_ble_eq_true rfl, Nat.le_of_ble_eq_true rfl⟩) C.2.2.2.2.2.2.1 hP hD hS [2] [0, 1] rfl rfl (by decide) (by decide) (fun r_8 u_7 H locs hw_9 hP hD hS => ?_)
  have hP : va_P D vwCl [(h0, .inl (cy 1, 8, .inl kr)), (h5, .inl (cy 1, 81, .inl (fun _ => 0))), (h, .inr (0, [.int 0, .int 0, .int (-1), .ref h0, .ref h1, .ref h2, .ref h3, .ref h4, .int 0, .ref h5, .int 0, .int 0, .int 10, .int 1, .int 0, .int 3]))] H := hP
  have hD : va_D A [(h0, .inl (cy 1, 8, .inl kr)), (h5, .inl (cy 1, 81, .inl (fun _ => 0))), (h, .inr (0, [.int 0, .int 0, .int (-1), .ref h0, .ref h1, .ref h2, .ref h3, .ref h4, .int 0, .ref h5, .int 0, .int 0, .int 10, .int 1, .int 0, .int 3]))] := hD
  obtain rfl : r_8 = 1 := hw_9
  refine lv_if_eq (tgt := 155) hx hb dX0_keepsFrom_117 (by decide) (fun c_0 => absurd c_0 (by decide)) (fun _ => ?_)
  refine lv_aload_n hx hb dX0_keepsFrom_120 rfl (lv_at hl 4 rfl) ?_
  refine lv_iload_n hx hb dX0_keepsFrom_121 rfl (lv_at hl 5 rfl) ?_
  refine lv_iconst (v := 1) hx hb dX0_keepsFrom_122 (by decide) ?_
  refine lv_iadd hx hb dX0_keepsFrom_123 ?_
  refine q_val (v := 3) (by decide) ?_
  refine lv_iload hx hb dX0_keepsFrom_124 (lv_at hl 2 rfl) ?_
  refine lv_if_eq (tgt := 135) hx hb dX0_keepsFrom_126 (by decide) (fun _ => ?_) (fun c_0 => absurd (by decide) c_0)
  refine lv_iload_n hx hb dX0_keepsFrom_135 rfl (lv_at hl 6 rfl) ?_
  refine q_ai (wr := []) (r_V (q0 := 0) (As := [.int 3, .int 0]) (rest := []) (wc := [(h, .inr (0, [.int 0, .int 0, .int (-1), .ref h0, .ref h1, .ref h2, .ref h3, .ref h4, .int 0, .ref h5, .int 0, .int 0, .int 10, .int 1, .int 0, .int 3])), (h0, .inl (cy 1, 8, .inl kr)), (h5, .inl (cy 1, 81, .inl (fun _ => 0)))]) C (q_subP hP [2, 0, 1] rfl) (hD.sub [2, 0, 1] (by decide) rfl) (c_keeps_3_3 l D cy h h0 h1 h2 h3 h4 h5 kr _ ) kwV_X0_keepsFrom kM_RX0_95 rfl rfl ⟨Nat.le_of_ble_eq_true rfl, Nat.le_of_ble_eq_true rfl⟩ rfl hl.1 rfl (Nat.le_of_ble_eq_true rfl) dX0_keepsFrom_136 ⟨Nat.le_of_ble_eq_true rfl, Nat.le_of_ble_eq_true rfl⟩) C.2.2.2.2.2.2.1 hP hD hS [2, 0, 1] [] rfl rfl (by decide) (by decide) (fun r_11 u_10 H locs hw_12 hP hD hS => ?_)
  have hP : va_P D vwCl [(h, .inr (0, [.int 0, .int 0, .int (-1), .ref h0, .ref h1, .ref h2, .ref h3, .ref h4, .int 0, .ref h5, .int 0, .int 0, .int 10, .int 1, .int 0, .int 3])), (h0, .inl (cy 1, 8, .inl u_10)), (h5, .inl (cy 1, 81, .inl (fun _ => 0)))] H := hP
  have hD : va_D A [(h, .inr (0, [.int 0, .int 0, .int (-1), .ref h0, .ref h1, .ref h2, .ref h3, .ref h4, .int 0, .ref h5, .int 0, .int 0, .int 10, .int 1, .int 0, .int 3])), (h0, .inl (cy 1, 8, .inl u_10)), (h5, .inl (cy 1, 81, .inl (fun _ => 0)))] := hD
  obtain rfl : r_11 = 1 := hw_12
  refine lv_if_eq (tgt := 155) hx hb dX0_keepsFrom_139 (by decide) (fun c_0 => absurd c_0 (by decide)) (fun _ => ?_)
  refine lv_aload_n hx hb dX0_keepsFrom_142 rfl (lv_at hl 4 rfl) ?_
  refine q_get (v := .ref h0) C hP 0 3 rfl rfl inX0 (by decide) kF_RX0_21 rfl rfl dX0_keepsFrom_143 ?_
  refine lv_iload_n hx hb dX0_keepsFrom_146 rfl (lv_at hl 5 rfl) ?_
  refine lv_aload_n hx hb dX0_keepsFrom_147 rfl (lv_at hl 4 rfl) ?_
  refine lv_iload_n hx hb dX0_keepsFrom_148 rfl (lv_at hl 3 rfl) ?_
  refine q_ai (wr := [(h0, .inl (cy 1, 8, .inl u_10)), (h5, .inl (cy 1, 81, .inl (fun _ => 0)))]) (r_V (q0 := 0) (As := [.int 0]) (rest := [.int 2, .ref h0]) (wc := [(h, .inr (0, [.int 0, .int 0, .int (-1), .ref h0, .ref h1, .ref h2, .ref h3, .ref h4, .int 0, .ref h5, .int 0, .int 0, .int 10, .int 1, .int 0, .int 3]))]) C (q_subP hP [0] rfl) (hD.sub [0] (by decide) rfl) (c_bookChosen l D cy h h0 h1 h2 h3 h4 h5 3 _ ) kwV_X0_bookChosen kM_RX0_110 rfl rfl ⟨Nat.le_of_ble_eq_true rfl, Nat.le_of_ble_eq_true rfl⟩ rfl hl.1 rfl (Nat.le_of_ble_eq_true rfl) dX0_keepsFrom_149 ⟨Nat.le_of_ble_eq_true rfl, Nat.le_of_ble_eq_true rfl⟩) C.2.2.2.2.2.2.1 hP hD hS [0] [1, 2] rfl rfl (by decide) (by decide) (fun r_14 u_13 H locs hw_15 hP hD hS => ?_)
  have hP : va_P D vwCl [(h0, .inl (cy 1, 8, .inl u_10)), (h5, .inl (cy 1, 81, .inl (fun _ => 0))), (h, .inr (0, [.int 0, .int 0, .int (-1), .ref h0, .ref h1, .ref h2, .ref h3, .ref h4, .int 0, .ref h5, .int 0, .int 0, .int 10, .int 1, .int 0, .int 3]))] H := hP
  have hD : va_D A [(h0, .inl (cy 1, 8, .inl u_10)), (h5, .inl (cy 1, 81, .inl (fun _ => 0))), (h, .inr (0, [.int 0, .int 0, .int (-1), .ref h0, .ref h1, .ref h2, .ref h3, .ref h4, .int 0, .ref h5, .int 0, .int 0, .int 10, .int 1, .int 0, .int 3]))] := hD
  obtain rfl : r_14 = (-1) := hw_15
  refine q_iast (g := upd u_10 2 (-1)) (w' := [(h0, .inl (cy 1, 8, .inl (upd u_10 2 (-1)))), (h5, .inl (cy 1, 81, .inl (fun _ => 0))), (h, .inr (0, [.int 0, .int 0, .int (-1), .ref h0, .ref h1, .ref h2, .ref h3, .ref h4, .int 0, .ref h5, .int 0, .int 0, .int 10, .int 1, .int 0, .int 3]))]) C hP hD hS 0 rfl (vin (by decide +kernel)) rfl rfl dX0_keepsFrom_152 (fun H locs hP hD hS => ?_)
  refine lv_iconst (v := 1) hx hb dX0_keepsFrom_153 (by decide) ?_
  exact q_iret (rm := (Rm 1 26 0 0)) C hS (upd u_10 2 (-1)) rfl rfl (q_subP hP [2, 0, 1] rfl) (hD.sub [2, 0, 1] (by decide) rfl) (Nat.le_of_ble_eq_true rfl) (Nat.le_of_ble_eq_true rfl) dX0_keepsFrom_154
set_option maxHeartbeats 4000000 in
set_option maxRecDepth 100000 in
theorem c_keeps_3_1 (l : Launch) (D : va_G) (cy : Nat → ClassId) (h : Nat) (h0 : Nat) (h1 : Nat) (h2 : Nat) (h3 : Nat) (h4 : Nat) (h5 : Nat) (kr : Nat → Int32) (sz : Nat)  : MI l yX0_keepsFrom cX0_keepsFrom 7 (some .boolean) (Rm 2 52 0 0) D cy [.ref h, .int 1, .int 0] sz [(h, .inr (0, [.int 0, .int 0, .int (-1), .ref h0, .ref h1, .ref h2, .ref h3, .ref h4, .int 0, .ref h5, .int 0, .int 0, .int 10, .int 1, .int 0, .int 3])), (h0, .inl (cy 1, 8, .inl kr)), (h5, .inl (cy 1, 81, .inl (fun _ => 0)))] (fun (r : Int32) (u : Nat → Int32) => r = 1) (fun u : Nat → Int32 => [(h, .inr (0, [.int 0, .int 0, .int (-1), .ref h0, .ref h1, .ref h2, .ref h3, .ref h4, .int 0, .ref h5, .int 0, .int 0, .int 10, .int 1, .int 0, .int 3])), (h0, .inl (cy 1, 8, .inl u)), (h5, .inl (cy 1, 81, .inl (fun _ => 0)))]) := by
  refine MI.enter (by decide) (Nat.le_of_ble_eq_true rfl) ?_
  intro p e s m below meth c ls A hsz hAe C hP hD hS hl
  have C : Cx p s m _ meth c cX0_keepsFrom 7 (some .boolean) RX0 "keepsFrom" D cy A := C
  have hx := C.1
  have hb := C.2.1
  have hl : lv_has ls 7 [(0, .ref h), (1, .int 1), (2, .int 0)] := hl
  refine lv_iload_n hx hb dX0_keepsFrom_0 rfl (lv_at hl 1 rfl) ?_
  refine lv_aload_n hx hb dX0_keepsFrom_1 rfl (lv_at hl 0 rfl) ?_
  refine q_get (v := .int 3) C hP 0 15 rfl rfl inX0 (by decide) kF_RX0_58 rfl rfl dX0_keepsFrom_2 ?_
  refine lv_icmp_lt (tgt := 10) hx hb dX0_keepsFrom_5 (by decide) (fun _ => ?_) (fun c_0 => absurd (by decide) c_0)
  refine lv_aload_n hx hb dX0_keepsFrom_10 rfl (lv_at hl 0 rfl) ?_
  refine lv_iload_n hx hb dX0_keepsFrom_11 rfl (lv_at hl 1 rfl) ?_
  refine q_ai (wr := [(h0, .inl (cy 1, 8, .inl kr)), (h5, .inl (cy 1, 81, .inl (fun _ => 0)))]) (r_V (q0 := 0) (As := [.int 1]) (rest := []) (wc := [(h, .inr (0, [.int 0, .int 0, .int (-1), .ref h0, .ref h1, .ref h2, .ref h3, .ref h4, .int 0, .ref h5, .int 0, .int 0, .int 10, .int 1, .int 0, .int 3]))]) C (q_subP hP [0] rfl) (hD.sub [0] (by decide) rfl) (c_askNeeded l D cy h 1 h0 h1 h2 h3 h4 h5 3 _ ) kwV_X0_askingsNeeded kM_RX0_98 rfl rfl ⟨Nat.le_of_ble_eq_true rfl, Nat.le_of_ble_eq_true rfl⟩ rfl hl.1 rfl (Nat.le_of_ble_eq_true rfl) dX0_keepsFrom_12 ⟨Nat.le_of_ble_eq_true rfl, Nat.le_of_ble_eq_true rfl⟩) C.2.2.2.2.2.2.1 hP hD hS [0] [1, 2] rfl rfl (by decide) (by decide) (fun r_2 u_1 H locs hw_3 hP hD hS => ?_)
  have hP : va_P D vwCl [(h0, .inl (cy 1, 8, .inl kr)), (h5, .inl (cy 1, 81, .inl (fun _ => 0))), (h, .inr (0, [.int 0, .int 0, .int (-1), .ref h0, .ref h1, .ref h2, .ref h3, .ref h4, .int 0, .ref h5, .int 0, .int 0, .int 10, .int 1, .int 0, .int 3]))] H := hP
  have hD : va_D A [(h0, .inl (cy 1, 8, .inl kr)), (h5, .inl (cy 1, 81, .inl (fun _ => 0))), (h, .inr (0, [.int 0, .int 0, .int (-1), .ref h0, .ref h1, .ref h2, .ref h3, .ref h4, .int 0, .ref h5, .int 0, .int 0, .int 10, .int 1, .int 0, .int 3]))] := hD
  obtain rfl : r_2 = 0 := hw_3
  refine lv_iload_n hx hb dX0_keepsFrom_15 rfl (lv_at hl 2 rfl) ?_
  refine lv_icmp_le (tgt := 21) hx hb dX0_keepsFrom_16 (by decide) (fun _ => ?_) (fun c_0 => absurd (by decide) c_0)
  refine lv_aload_n hx hb dX0_keepsFrom_21 rfl (lv_at hl 0 rfl) ?_
  refine lv_iload_n hx hb dX0_keepsFrom_22 rfl (lv_at hl 1 rfl) ?_
  refine q_av (wr := [(h0, .inl (cy 1, 8, .inl kr)), (h5, .inl (cy 1, 81, .inl (fun _ => 0)))]) (r_V (q0 := 0) (As := [.int 1]) (rest := []) (wc := [(h, .inr (0, [.int 0, .int 0, .int (-1), .ref h0, .ref h1, .ref h2, .ref h3, .ref h4, .int 0, .ref h5, .int 0, .int 0, .int 10, .int 1, .int 0, .int 3]))]) C (q_subP hP [2] rfl) (hD.sub [2] (by decide) rfl) (c_passDay l D cy h 1 h0 h1 h2 h3 h4 h5 3 _ ) kwV_X0_passDay kM_RX0_102 rfl rfl ⟨Nat.le_of_ble_eq_true rfl, Nat.le_of_ble_eq_true rfl⟩ rfl hl.1 rfl (Nat.le_of_ble_eq_true rfl) dX0_keepsFrom_23 ⟨Nat.le_of_ble_eq_true rfl, Nat.le_of_ble_eq_true rfl⟩) C.2.2.2.2.2.2.1 hP hD hS [2] [0, 1] rfl rfl (by decide) (by decide) (fun u_4 H locs hw_6 hP hD hS => ?_)
  have hP : va_P D vwCl [(h0, .inl (cy 1, 8, .inl kr)), (h5, .inl (cy 1, 81, .inl (fun _ => 0))), (h, .inr (0, [.int 0, .int 0, .int (-1), .ref h0, .ref h1, .ref h2, .ref h3, .ref h4, .int 0, .ref h5, .int 0, .int 0, .int 10, .int 1, .int 0, .int 3]))] H := hP
  have hD : va_D A [(h0, .inl (cy 1, 8, .inl kr)), (h5, .inl (cy 1, 81, .inl (fun _ => 0))), (h, .inr (0, [.int 0, .int 0, .int (-1), .ref h0, .ref h1, .ref h2, .ref h3, .ref h4, .int 0, .ref h5, .int 0, .int 0, .int 10, .int 1, .int 0, .int 3]))] := hD
  refine lv_iconst (v := 0) hx hb dX0_keepsFrom_26 (by decide) ?_
  refine lv_istore_n (lv' := [(3, .int 0), (0, .ref h), (1, .int 1), (2, .int 0)]) hx hb dX0_keepsFrom_27 rfl hl (by decide) rfl (fun ls hl => ?_)
  refine lv_iload_n hx hb dX0_keepsFrom_28 rfl (lv_at hl 0 rfl) ?_
  refine lv_aload_n hx hb dX0_keepsFrom_29 rfl (lv_at hl 1 rfl) ?_
  refine q_get (v := .int 0) C hP 2 10 rfl rfl inX0 (by decide) kF_RX0_43 rfl rfl dX0_keepsFrom_30 ?_
  refine lv_icmp_gt (tgt := 170) hx hb dX0_keepsFrom_33 (by decide) (fun c_0 => absurd c_0 (by decide)) (fun _ => ?_)
  refine lv_iload_n hx hb dX0_keepsFrom_36 rfl (lv_at hl 0 rfl) ?_
  refine lv_aload_n hx hb dX0_keepsFrom_37 rfl (lv_at hl 1 rfl) ?_
  refine q_get (v := .int 0) C hP 2 10 rfl rfl inX0 (by decide) kF_RX0_43 rfl rfl dX0_keepsFrom_38 ?_
  refine lv_icmp_ge (tgt := 48) hx hb dX0_keepsFrom_41 (by decide) (fun _ => ?_) (fun c_0 => absurd (by decide) c_0)
  refine lv_iconst (v := 0) hx hb dX0_keepsFrom_48 (by decide) ?_
  refine lv_istore (lv' := [(4, .int 0), (3, .int 0), (0, .ref h), (1, .int 1), (2, .int 0)]) hx hb dX0_keepsFrom_49 hl (by decide) rfl (fun ls hl => ?_)
  refine lv_iload hx hb dX0_keepsFrom_51 (lv_at hl 0 rfl) ?_
  refine lv_if_eq (tgt := 83) hx hb dX0_keepsFrom_53 (by decide) (fun _ => ?_) (fun c_0 => absurd (by decide) c_0)
  refine lv_iload_n hx hb dX0_keepsFrom_83 rfl (lv_at hl 3 rfl) ?_
  refine lv_iconst (v := 1) hx hb dX0_keepsFrom_84 (by decide) ?_
  refine lv_iadd hx hb dX0_keepsFrom_85 ?_
  refine q_val (v := 2) (by decide) ?_
  refine lv_bipush (v := 9) hx hb dX0_keepsFrom_86 (by decide) ?_
  refine lv_imul hx hb dX0_keepsFrom_88 ?_
  refine q_val (v := 18) (by decide) ?_
  refine lv_iload_n hx hb dX0_keepsFrom_89 rfl (lv_at hl 1 rfl) ?_
  refine lv_iadd hx hb dX0_keepsFrom_90 ?_
  refine q_val (v := 18) (by decide) ?_
  refine lv_istore (lv' := [(5, .int 18), (4, .int 0), (3, .int 0), (0, .ref h), (1, .int 1), (2, .int 0)]) hx hb dX0_keepsFrom_91 hl (by decide) rfl (fun ls hl => ?_)
  refine lv_aload_n hx hb dX0_keepsFrom_93 rfl (lv_at hl 3 rfl) ?_
  refine q_get (v := .ref h5) C hP 2 9 rfl rfl inX0 (by decide) kF_RX0_40 rfl rfl dX0_keepsFrom_94 ?_
  refine lv_iload hx hb dX0_keepsFrom_97 (lv_at hl 0 rfl) ?_
  refine q_iald (v := 0) C hP 1 rfl (vin (by decide +kernel)) rfl dX0_keepsFrom_99 ?_
  refine lv_istore (lv' := [(6, .int 0), (5, .int 18), (4, .int 0), (3, .int 0), (0, .ref h), (1, .int 1), (2, .int 0)]) hx hb dX0_keepsFrom_100 hl (by decide) rfl (fun ls hl => ?_)
  refine lv_aload_n hx hb dX0_keepsFrom_102 rfl (lv_at hl 4 rfl) ?_
  refine q_get (v := .ref h5) C hP 2 9 rfl rfl inX0 (by decide) kF_RX0_40 rfl rfl dX0_keepsFrom_103 ?_
  refine lv_iload hx hb dX0_keepsFrom_106 (lv_at hl 1 rfl) ?_
  refine lv_iconst (v := 0) hx hb dX0_keepsFrom_108 (by decide) ?_
  refine q_iast (g := fun _ => 0) (w' := [(h0, .inl (cy 1, 8, .inl kr)), (h5, .inl (cy 1, 81, .inl (fun _ => 0))), (h, .inr (0, [.int 0, .int 0, .int (-1), .ref h0, .ref h1, .ref h2, .ref h3, .ref h4, .int 0, .ref h5, .int 0, .int 0, .int 10, .int 1, .int 0, .int 3]))]) C hP hD hS 1 rfl (vin (by decide +kernel)) (updz _) rfl dX0_keepsFrom_109 (fun H locs hP hD hS => ?_)
  refine lv_aload_n hx hb dX0_keepsFrom_110 rfl (lv_at hl 4 rfl) ?_
  refine lv_iload_n hx hb dX0_keepsFrom_111 rfl (lv_at hl 5 rfl) ?_
  refine lv_iconst (v := 1) hx hb dX0_keepsFrom_112 (by decide) ?_
  refine lv_iadd hx hb dX0_keepsFrom_113 ?_
  refine q_val (v := 2) (by decide) ?_
  refine q_ai (wr := [(h0, .inl (cy 1, 8, .inl kr)), (h5, .inl (cy 1, 81, .inl (fun _ => 0)))]) (r_V (q0 := 0) (As := [.int 2]) (rest := []) (wc := [(h, .inr (0, [.int 0, .int 0, .int (-1), .ref h0, .ref h1, .ref h2, .ref h3, .ref h4, .int 0, .ref h5, .int 0, .int 0, .int 10, .int 1, .int 0, .int 3]))]) C (q_subP hP [2] rfl) (hD.sub [2] (by decide) rfl) (c_rareDoubt l D cy h 2 h0 h1 h2 h3 h4 h5 3 _ ) kwV_X0_areRareInDoubt kM_RX0_106 rfl rfl ⟨Nat.le_of_ble_eq_true rfl, Nat.le_of_ble_eq_true rfl⟩ rfl hl.1 rfl (Nat.le_of_ble_eq_true rfl) dX0_keepsFrom_114 ⟨Nat.le_of_ble_eq_true rfl, Nat.le_of_ble_eq_true rfl⟩) C.2.2.2.2.2.2.1 hP hD hS [2] [0, 1] rfl rfl (by decide) (by decide) (fun r_8 u_7 H locs hw_9 hP hD hS => ?_)
  have hP : va_P D vwCl [(h0, .inl (cy 1, 8, .inl kr)), (h5, .inl (cy 1, 81, .inl (fun _ => 0))), (h, .inr (0, [.int 0, .int 0, .int (-1), .ref h0, .ref h1, .ref h2, .ref h3, .ref h4, .int 0, .ref h5, .int 0, .int 0, .int 10, .int 1, .int 0, .int 3]))] H := hP
  have hD : va_D A [(h0, .inl (cy 1, 8, .inl kr)), (h5, .inl (cy 1, 81, .inl (fun _ => 0))), (h, .inr (0, [.int 0, .int 0, .int (-1), .ref h0, .ref h1, .ref h2, .ref h3, .ref h4, .int 0, .ref h5, .int 0, .int 0, .int 10, .int 1, .int 0, .int 3]))] := hD
  obtain rfl : r_8 = 1 := hw_9
  refine lv_if_eq (tgt := 155) hx hb dX0_keepsFrom_117 (by decide) (fun c_0 => absurd c_0 (by decide)) (fun _ => ?_)
  refine lv_aload_n hx hb dX0_keepsFrom_120 rfl (lv_at hl 4 rfl) ?_
  refine lv_iload_n hx hb dX0_keepsFrom_121 rfl (lv_at hl 5 rfl) ?_
  refine lv_iconst (v := 1) hx hb dX0_keepsFrom_122 (by decide) ?_
  refine lv_iadd hx hb dX0_keepsFrom_123 ?_
  refine q_val (v := 2) (by decide) ?_
  refine lv_iload hx hb dX0_keepsFrom_124 (lv_at hl 2 rfl) ?_
  refine lv_if_eq (tgt := 135) hx hb dX0_keepsFrom_126 (by decide) (fun _ => ?_) (fun c_0 => absurd (by decide) c_0)
  refine lv_iload_n hx hb dX0_keepsFrom_135 rfl (lv_at hl 6 rfl) ?_
  refine q_ai (wr := []) (r_V (q0 := 0) (As := [.int 2, .int 0]) (rest := []) (wc := [(h, .inr (0, [.int 0, .int 0, .int (-1), .ref h0, .ref h1, .ref h2, .ref h3, .ref h4, .int 0, .ref h5, .int 0, .int 0, .int 10, .int 1, .int 0, .int 3])), (h0, .inl (cy 1, 8, .inl kr)), (h5, .inl (cy 1, 81, .inl (fun _ => 0)))]) C (q_subP hP [2, 0, 1] rfl) (hD.sub [2, 0, 1] (by decide) rfl) (c_keeps_3_2 l D cy h h0 h1 h2 h3 h4 h5 kr _ ) kwV_X0_keepsFrom kM_RX0_95 rfl rfl ⟨Nat.le_of_ble_eq_true rfl, Nat.le_of_ble_eq_true rfl⟩ rfl hl.1 rfl (Nat.le_of_ble_eq_true rfl) dX0_keepsFrom_136 ⟨Nat.le_of_ble_eq_true rfl, Nat.le_of_ble_eq_true rfl⟩) C.2.2.2.2.2.2.1 hP hD hS [2, 0, 1] [] rfl rfl (by decide) (by decide) (fun r_11 u_10 H locs hw_12 hP hD hS => ?_)
  have hP : va_P D vwCl [(h, .inr (0, [.int 0, .int 0, .int (-1), .ref h0, .ref h1, .ref h2, .ref h3, .ref h4, .int 0, .ref h5, .int 0, .int 0, .int 10, .int 1, .int 0, .int 3])), (h0, .inl (cy 1, 8, .inl u_10)), (h5, .inl (cy 1, 81, .inl (fun _ => 0)))] H := hP
  have hD : va_D A [(h, .inr (0, [.int 0, .int 0, .int (-1), .ref h0, .ref h1, .ref h2, .ref h3, .ref h4, .int 0, .ref h5, .int 0, .int 0, .int 10, .int 1, .int 0, .int 3])), (h0, .inl (cy 1, 8, .inl u_10)), (h5, .inl (cy 1, 81, .inl (fun _ => 0)))] := hD
  obtain rfl : r_11 = 1 := hw_12
  refine lv_if_eq (tgt := 155) hx hb dX0_keepsFrom_139 (by decide) (fun c_0 => absurd c_0 (by decide)) (fun _ => ?_)
  refine lv_aload_n hx hb dX0_keepsFrom_142 rfl (lv_at hl 4 rfl) ?_
  refine q_get (v := .ref h0) C hP 0 3 rfl rfl inX0 (by decide) kF_RX0_21 rfl rfl dX0_keepsFrom_143 ?_
  refine lv_iload_n hx hb dX0_keepsFrom_146 rfl (lv_at hl 5 rfl) ?_
  refine lv_aload_n hx hb dX0_keepsFrom_147 rfl (lv_at hl 4 rfl) ?_
  refine lv_iload_n hx hb dX0_keepsFrom_148 rfl (lv_at hl 3 rfl) ?_
  refine q_ai (wr := [(h0, .inl (cy 1, 8, .inl u_10)), (h5, .inl (cy 1, 81, .inl (fun _ => 0)))]) (r_V (q0 := 0) (As := [.int 0]) (rest := [.int 1, .ref h0]) (wc := [(h, .inr (0, [.int 0, .int 0, .int (-1), .ref h0, .ref h1, .ref h2, .ref h3, .ref h4, .int 0, .ref h5, .int 0, .int 0, .int 10, .int 1, .int 0, .int 3]))]) C (q_subP hP [0] rfl) (hD.sub [0] (by decide) rfl) (c_bookChosen l D cy h h0 h1 h2 h3 h4 h5 3 _ ) kwV_X0_bookChosen kM_RX0_110 rfl rfl ⟨Nat.le_of_ble_eq_true rfl, Nat.le_of_ble_eq_true rfl⟩ rfl hl.1 rfl (Nat.le_of_ble_eq_true rfl) dX0_keepsFrom_149 ⟨Nat.le_of_ble_eq_true rfl, Nat.le_of_ble_eq_true rfl⟩) C.2.2.2.2.2.2.1 hP hD hS [0] [1, 2] rfl rfl (by decide) (by decide) (fun r_14 u_13 H locs hw_15 hP hD hS => ?_)
  have hP : va_P D vwCl [(h0, .inl (cy 1, 8, .inl u_10)), (h5, .inl (cy 1, 81, .inl (fun _ => 0))), (h, .inr (0, [.int 0, .int 0, .int (-1), .ref h0, .ref h1, .ref h2, .ref h3, .ref h4, .int 0, .ref h5, .int 0, .int 0, .int 10, .int 1, .int 0, .int 3]))] H := hP
  have hD : va_D A [(h0, .inl (cy 1, 8, .inl u_10)), (h5, .inl (cy 1, 81, .inl (fun _ => 0))), (h, .inr (0, [.int 0, .int 0, .int (-1), .ref h0, .ref h1, .ref h2, .ref h3, .ref h4, .int 0, .ref h5, .int 0, .int 0, .int 10, .int 1, .int 0, .int 3]))] := hD
  obtain rfl : r_14 = (-1) := hw_15
  refine q_iast (g := upd u_10 1 (-1)) (w' := [(h0, .inl (cy 1, 8, .inl (upd u_10 1 (-1)))), (h5, .inl (cy 1, 81, .inl (fun _ => 0))), (h, .inr (0, [.int 0, .int 0, .int (-1), .ref h0, .ref h1, .ref h2, .ref h3, .ref h4, .int 0, .ref h5, .int 0, .int 0, .int 10, .int 1, .int 0, .int 3]))]) C hP hD hS 0 rfl (vin (by decide +kernel)) rfl rfl dX0_keepsFrom_152 (fun H locs hP hD hS => ?_)
  refine lv_iconst (v := 1) hx hb dX0_keepsFrom_153 (by decide) ?_
  exact q_iret (rm := (Rm 2 52 0 0)) C hS (upd u_10 1 (-1)) rfl rfl (q_subP hP [2, 0, 1] rfl) (hD.sub [2, 0, 1] (by decide) rfl) (Nat.le_of_ble_eq_true rfl) (Nat.le_of_ble_eq_true rfl) dX0_keepsFrom_154
set_option maxHeartbeats 4000000 in
set_option maxRecDepth 100000 in
theorem c_keeps_3_0 (l : Launch) (D : va_G) (cy : Nat → ClassId) (h : Nat) (h0 : Nat) (h1 : Nat) (h2 : Nat) (h3 : Nat) (h4 : Nat) (h5 : Nat) (kr : Nat → Int32) (sz : Nat)  : MI l yX0_keepsFrom cX0_keepsFrom 7 (some .boolean) (Rm 3 78 0 0) D cy [.ref h, .int 0, .int 0] sz [(h, .inr (0, [.int 0, .int 0, .int (-1), .ref h0, .ref h1, .ref h2, .ref h3, .ref h4, .int 0, .ref h5, .int 0, .int 0, .int 10, .int 1, .int 0, .int 3])), (h0, .inl (cy 1, 8, .inl kr)), (h5, .inl (cy 1, 81, .inl (fun _ => 0)))] (fun (r : Int32) (u : Nat → Int32) => r = 1) (fun u : Nat → Int32 => [(h, .inr (0, [.int 0, .int 0, .int (-1), .ref h0, .ref h1, .ref h2, .ref h3, .ref h4, .int 0, .ref h5, .int 0, .int 0, .int 10, .int 1, .int 0, .int 3])), (h0, .inl (cy 1, 8, .inl u)), (h5, .inl (cy 1, 81, .inl (fun _ => 0)))]) := by
  refine MI.enter (by decide) (Nat.le_of_ble_eq_true rfl) ?_
  intro p e s m below meth c ls A hsz hAe C hP hD hS hl
  have C : Cx p s m _ meth c cX0_keepsFrom 7 (some .boolean) RX0 "keepsFrom" D cy A := C
  have hx := C.1
  have hb := C.2.1
  have hl : lv_has ls 7 [(0, .ref h), (1, .int 0), (2, .int 0)] := hl
  refine lv_iload_n hx hb dX0_keepsFrom_0 rfl (lv_at hl 1 rfl) ?_
  refine lv_aload_n hx hb dX0_keepsFrom_1 rfl (lv_at hl 0 rfl) ?_
  refine q_get (v := .int 3) C hP 0 15 rfl rfl inX0 (by decide) kF_RX0_58 rfl rfl dX0_keepsFrom_2 ?_
  refine lv_icmp_lt (tgt := 10) hx hb dX0_keepsFrom_5 (by decide) (fun _ => ?_) (fun c_0 => absurd (by decide) c_0)
  refine lv_aload_n hx hb dX0_keepsFrom_10 rfl (lv_at hl 0 rfl) ?_
  refine lv_iload_n hx hb dX0_keepsFrom_11 rfl (lv_at hl 1 rfl) ?_
  refine q_ai (wr := [(h0, .inl (cy 1, 8, .inl kr)), (h5, .inl (cy 1, 81, .inl (fun _ => 0)))]) (r_V (q0 := 0) (As := [.int 0]) (rest := []) (wc := [(h, .inr (0, [.int 0, .int 0, .int (-1), .ref h0, .ref h1, .ref h2, .ref h3, .ref h4, .int 0, .ref h5, .int 0, .int 0, .int 10, .int 1, .int 0, .int 3]))]) C (q_subP hP [0] rfl) (hD.sub [0] (by decide) rfl) (c_askNeeded l D cy h 0 h0 h1 h2 h3 h4 h5 3 _ ) kwV_X0_askingsNeeded kM_RX0_98 rfl rfl ⟨Nat.le_of_ble_eq_true rfl, Nat.le_of_ble_eq_true rfl⟩ rfl hl.1 rfl (Nat.le_of_ble_eq_true rfl) dX0_keepsFrom_12 ⟨Nat.le_of_ble_eq_true rfl, Nat.le_of_ble_eq_true rfl⟩) C.2.2.2.2.2.2.1 hP hD hS [0] [1, 2] rfl rfl (by decide) (by decide) (fun r_2 u_1 H locs hw_3 hP hD hS => ?_)
  have hP : va_P D vwCl [(h0, .inl (cy 1, 8, .inl kr)), (h5, .inl (cy 1, 81, .inl (fun _ => 0))), (h, .inr (0, [.int 0, .int 0, .int (-1), .ref h0, .ref h1, .ref h2, .ref h3, .ref h4, .int 0, .ref h5, .int 0, .int 0, .int 10, .int 1, .int 0, .int 3]))] H := hP
  have hD : va_D A [(h0, .inl (cy 1, 8, .inl kr)), (h5, .inl (cy 1, 81, .inl (fun _ => 0))), (h, .inr (0, [.int 0, .int 0, .int (-1), .ref h0, .ref h1, .ref h2, .ref h3, .ref h4, .int 0, .ref h5, .int 0, .int 0, .int 10, .int 1, .int 0, .int 3]))] := hD
  obtain rfl : r_2 = 0 := hw_3
  refine lv_iload_n hx hb dX0_keepsFrom_15 rfl (lv_at hl 2 rfl) ?_
  refine lv_icmp_le (tgt := 21) hx hb dX0_keepsFrom_16 (by decide) (fun _ => ?_) (fun c_0 => absurd (by decide) c_0)
  refine lv_aload_n hx hb dX0_keepsFrom_21 rfl (lv_at hl 0 rfl) ?_
  refine lv_iload_n hx hb dX0_keepsFrom_22 rfl (lv_at hl 1 rfl) ?_
  refine q_av (wr := [(h0, .inl (cy 1, 8, .inl kr)), (h5, .inl (cy 1, 81, .inl (fun _ => 0)))]) (r_V (q0 := 0) (As := [.int 0]) (rest := []) (wc := [(h, .inr (0, [.int 0, .int 0, .int (-1), .ref h0, .ref h1, .ref h2, .ref h3, .ref h4, .int 0, .ref h5, .int 0, .int 0, .int 10, .int 1, .int 0, .int 3]))]) C (q_subP hP [2] rfl) (hD.sub [2] (by decide) rfl) (c_passDay l D cy h 0 h0 h1 h2 h3 h4 h5 3 _ ) kwV_X0_passDay kM_RX0_102 rfl rfl ⟨Nat.le_of_ble_eq_true rfl, Nat.le_of_ble_eq_true rfl⟩ rfl hl.1 rfl (Nat.le_of_ble_eq_true rfl) dX0_keepsFrom_23 ⟨Nat.le_of_ble_eq_true rfl, Nat.le_of_ble_eq_true rfl⟩) C.2.2.2.2.2.2.1 hP hD hS [2] [0, 1] rfl rfl (by decide) (by decide) (fun u_4 H locs hw_6 hP hD hS => ?_)
  have hP : va_P D vwCl [(h0, .inl (cy 1, 8, .inl kr)), (h5, .inl (cy 1, 81, .inl (fun _ => 0))), (h, .inr (0, [.int 0, .int 0, .int (-1), .ref h0, .ref h1, .ref h2, .ref h3, .ref h4, .int 0, .ref h5, .int 0, .int 0, .int 10, .int 1, .int 0, .int 3]))] H := hP
  have hD : va_D A [(h0, .inl (cy 1, 8, .inl kr)), (h5, .inl (cy 1, 81, .inl (fun _ => 0))), (h, .inr (0, [.int 0, .int 0, .int (-1), .ref h0, .ref h1, .ref h2, .ref h3, .ref h4, .int 0, .ref h5, .int 0, .int 0, .int 10, .int 1, .int 0, .int 3]))] := hD
  refine lv_iconst (v := 0) hx hb dX0_keepsFrom_26 (by decide) ?_
  refine lv_istore_n (lv' := [(3, .int 0), (0, .ref h), (1, .int 0), (2, .int 0)]) hx hb dX0_keepsFrom_27 rfl hl (by decide) rfl (fun ls hl => ?_)
  refine lv_iload_n hx hb dX0_keepsFrom_28 rfl (lv_at hl 0 rfl) ?_
  refine lv_aload_n hx hb dX0_keepsFrom_29 rfl (lv_at hl 1 rfl) ?_
  refine q_get (v := .int 0) C hP 2 10 rfl rfl inX0 (by decide) kF_RX0_43 rfl rfl dX0_keepsFrom_30 ?_
  refine lv_icmp_gt (tgt := 170) hx hb dX0_keepsFrom_33 (by decide) (fun c_0 => absurd c_0 (by decide)) (fun _ => ?_)
  refine lv_iload_n hx hb dX0_keepsFrom_36 rfl (lv_at hl 0 rfl) ?_
  refine lv_aload_n hx hb dX0_keepsFrom_37 rfl (lv_at hl 1 rfl) ?_
  refine q_get (v := .int 0) C hP 2 10 rfl rfl inX0 (by decide) kF_RX0_43 rfl rfl dX0_keepsFrom_38 ?_
  refine lv_icmp_ge (tgt := 48) hx hb dX0_keepsFrom_41 (by decide) (fun _ => ?_) (fun c_0 => absurd (by decide) c_0)
  refine lv_iconst (v := 0) hx hb dX0_keepsFrom_48 (by decide) ?_
  refine lv_istore (lv' := [(4, .int 0), (3, .int 0), (0, .ref h), (1, .int 0), (2, .int 0)]) hx hb dX0_keepsFrom_49 hl (by decide) rfl (fun ls hl => ?_)
  refine lv_iload hx hb dX0_keepsFrom_51 (lv_at hl 0 rfl) ?_
  refine lv_if_eq (tgt := 83) hx hb dX0_keepsFrom_53 (by decide) (fun _ => ?_) (fun c_0 => absurd (by decide) c_0)
  refine lv_iload_n hx hb dX0_keepsFrom_83 rfl (lv_at hl 3 rfl) ?_
  refine lv_iconst (v := 1) hx hb dX0_keepsFrom_84 (by decide) ?_
  refine lv_iadd hx hb dX0_keepsFrom_85 ?_
  refine q_val (v := 1) (by decide) ?_
  refine lv_bipush (v := 9) hx hb dX0_keepsFrom_86 (by decide) ?_
  refine lv_imul hx hb dX0_keepsFrom_88 ?_
  refine q_val (v := 9) (by decide) ?_
  refine lv_iload_n hx hb dX0_keepsFrom_89 rfl (lv_at hl 1 rfl) ?_
  refine lv_iadd hx hb dX0_keepsFrom_90 ?_
  refine q_val (v := 9) (by decide) ?_
  refine lv_istore (lv' := [(5, .int 9), (4, .int 0), (3, .int 0), (0, .ref h), (1, .int 0), (2, .int 0)]) hx hb dX0_keepsFrom_91 hl (by decide) rfl (fun ls hl => ?_)
  refine lv_aload_n hx hb dX0_keepsFrom_93 rfl (lv_at hl 3 rfl) ?_
  refine q_get (v := .ref h5) C hP 2 9 rfl rfl inX0 (by decide) kF_RX0_40 rfl rfl dX0_keepsFrom_94 ?_
  refine lv_iload hx hb dX0_keepsFrom_97 (lv_at hl 0 rfl) ?_
  refine q_iald (v := 0) C hP 1 rfl (vin (by decide +kernel)) rfl dX0_keepsFrom_99 ?_
  refine lv_istore (lv' := [(6, .int 0), (5, .int 9), (4, .int 0), (3, .int 0), (0, .ref h), (1, .int 0), (2, .int 0)]) hx hb dX0_keepsFrom_100 hl (by decide) rfl (fun ls hl => ?_)
  refine lv_aload_n hx hb dX0_keepsFrom_102 rfl (lv_at hl 4 rfl) ?_
  refine q_get (v := .ref h5) C hP 2 9 rfl rfl inX0 (by decide) kF_RX0_40 rfl rfl dX0_keepsFrom_103 ?_
  refine lv_iload hx hb dX0_keepsFrom_106 (lv_at hl 1 rfl) ?_
  refine lv_iconst (v := 0) hx hb dX0_keepsFrom_108 (by decide) ?_
  refine q_iast (g := fun _ => 0) (w' := [(h0, .inl (cy 1, 8, .inl kr)), (h5, .inl (cy 1, 81, .inl (fun _ => 0))), (h, .inr (0, [.int 0, .int 0, .int (-1), .ref h0, .ref h1, .ref h2, .ref h3, .ref h4, .int 0, .ref h5, .int 0, .int 0, .int 10, .int 1, .int 0, .int 3]))]) C hP hD hS 1 rfl (vin (by decide +kernel)) (updz _) rfl dX0_keepsFrom_109 (fun H locs hP hD hS => ?_)
  refine lv_aload_n hx hb dX0_keepsFrom_110 rfl (lv_at hl 4 rfl) ?_
  refine lv_iload_n hx hb dX0_keepsFrom_111 rfl (lv_at hl 5 rfl) ?_
  refine lv_iconst (v := 1) hx hb dX0_keepsFrom_112 (by decide) ?_
  refine lv_iadd hx hb dX0_keepsFrom_113 ?_
  refine q_val (v := 1) (by decide) ?_
  refine q_ai (wr := [(h0, .inl (cy 1, 8, .inl kr)), (h5, .inl (cy 1, 81, .inl (fun _ => 0)))]) (r_V (q0 := 0) (As := [.int 1]) (rest := []) (wc := [(h, .inr (0, [.int 0, .int 0, .int (-1), .ref h0, .ref h1, .ref h2, .ref h3, .ref h4, .int 0, .ref h5, .int 0, .int 0, .int 10, .int 1, .int 0, .int 3]))]) C (q_subP hP [2] rfl) (hD.sub [2] (by decide) rfl) (c_rareDoubt l D cy h 1 h0 h1 h2 h3 h4 h5 3 _ ) kwV_X0_areRareInDoubt kM_RX0_106 rfl rfl ⟨Nat.le_of_ble_eq_true rfl, Nat.le_of_ble_eq_true rfl⟩ rfl hl.1 rfl (Nat.le_of_ble_eq_true rfl) dX0_keepsFrom_114 ⟨Nat.le_of_ble_eq_true rfl, Nat.le_of_ble_eq_true rfl⟩) C.2.2.2.2.2.2.1 hP hD hS [2] [0, 1] rfl rfl (by decide) (by decide) (fun r_8 u_7 H locs hw_9 hP hD hS => ?_)
  have hP : va_P D vwCl [(h0, .inl (cy 1, 8, .inl kr)), (h5, .inl (cy 1, 81, .inl (fun _ => 0))), (h, .inr (0, [.int 0, .int 0, .int (-1), .ref h0, .ref h1, .ref h2, .ref h3, .ref h4, .int 0, .ref h5, .int 0, .int 0, .int 10, .int 1, .int 0, .int 3]))] H := hP
  have hD : va_D A [(h0, .inl (cy 1, 8, .inl kr)), (h5, .inl (cy 1, 81, .inl (fun _ => 0))), (h, .inr (0, [.int 0, .int 0, .int (-1), .ref h0, .ref h1, .ref h2, .ref h3, .ref h4, .int 0, .ref h5, .int 0, .int 0, .int 10, .int 1, .int 0, .int 3]))] := hD
  obtain rfl : r_8 = 1 := hw_9
  refine lv_if_eq (tgt := 155) hx hb dX0_keepsFrom_117 (by decide) (fun c_0 => absurd c_0 (by decide)) (fun _ => ?_)
  refine lv_aload_n hx hb dX0_keepsFrom_120 rfl (lv_at hl 4 rfl) ?_
  refine lv_iload_n hx hb dX0_keepsFrom_121 rfl (lv_at hl 5 rfl) ?_
  refine lv_iconst (v := 1) hx hb dX0_keepsFrom_122 (by decide) ?_
  refine lv_iadd hx hb dX0_keepsFrom_123 ?_
  refine q_val (v := 1) (by decide) ?_
  refine lv_iload hx hb dX0_keepsFrom_124 (lv_at hl 2 rfl) ?_
  refine lv_if_eq (tgt := 135) hx hb dX0_keepsFrom_126 (by decide) (fun _ => ?_) (fun c_0 => absurd (by decide) c_0)
  refine lv_iload_n hx hb dX0_keepsFrom_135 rfl (lv_at hl 6 rfl) ?_
  refine q_ai (wr := []) (r_V (q0 := 0) (As := [.int 1, .int 0]) (rest := []) (wc := [(h, .inr (0, [.int 0, .int 0, .int (-1), .ref h0, .ref h1, .ref h2, .ref h3, .ref h4, .int 0, .ref h5, .int 0, .int 0, .int 10, .int 1, .int 0, .int 3])), (h0, .inl (cy 1, 8, .inl kr)), (h5, .inl (cy 1, 81, .inl (fun _ => 0)))]) C (q_subP hP [2, 0, 1] rfl) (hD.sub [2, 0, 1] (by decide) rfl) (c_keeps_3_1 l D cy h h0 h1 h2 h3 h4 h5 kr _ ) kwV_X0_keepsFrom kM_RX0_95 rfl rfl ⟨Nat.le_of_ble_eq_true rfl, Nat.le_of_ble_eq_true rfl⟩ rfl hl.1 rfl (Nat.le_of_ble_eq_true rfl) dX0_keepsFrom_136 ⟨Nat.le_of_ble_eq_true rfl, Nat.le_of_ble_eq_true rfl⟩) C.2.2.2.2.2.2.1 hP hD hS [2, 0, 1] [] rfl rfl (by decide) (by decide) (fun r_11 u_10 H locs hw_12 hP hD hS => ?_)
  have hP : va_P D vwCl [(h, .inr (0, [.int 0, .int 0, .int (-1), .ref h0, .ref h1, .ref h2, .ref h3, .ref h4, .int 0, .ref h5, .int 0, .int 0, .int 10, .int 1, .int 0, .int 3])), (h0, .inl (cy 1, 8, .inl u_10)), (h5, .inl (cy 1, 81, .inl (fun _ => 0)))] H := hP
  have hD : va_D A [(h, .inr (0, [.int 0, .int 0, .int (-1), .ref h0, .ref h1, .ref h2, .ref h3, .ref h4, .int 0, .ref h5, .int 0, .int 0, .int 10, .int 1, .int 0, .int 3])), (h0, .inl (cy 1, 8, .inl u_10)), (h5, .inl (cy 1, 81, .inl (fun _ => 0)))] := hD
  obtain rfl : r_11 = 1 := hw_12
  refine lv_if_eq (tgt := 155) hx hb dX0_keepsFrom_139 (by decide) (fun c_0 => absurd c_0 (by decide)) (fun _ => ?_)
  refine lv_aload_n hx hb dX0_keepsFrom_142 rfl (lv_at hl 4 rfl) ?_
  refine q_get (v := .ref h0) C hP 0 3 rfl rfl inX0 (by decide) kF_RX0_21 rfl rfl dX0_keepsFrom_143 ?_
  refine lv_iload_n hx hb dX0_keepsFrom_146 rfl (lv_at hl 5 rfl) ?_
  refine lv_aload_n hx hb dX0_keepsFrom_147 rfl (lv_at hl 4 rfl) ?_
  refine lv_iload_n hx hb dX0_keepsFrom_148 rfl (lv_at hl 3 rfl) ?_
  refine q_ai (wr := [(h0, .inl (cy 1, 8, .inl u_10)), (h5, .inl (cy 1, 81, .inl (fun _ => 0)))]) (r_V (q0 := 0) (As := [.int 0]) (rest := [.int 0, .ref h0]) (wc := [(h, .inr (0, [.int 0, .int 0, .int (-1), .ref h0, .ref h1, .ref h2, .ref h3, .ref h4, .int 0, .ref h5, .int 0, .int 0, .int 10, .int 1, .int 0, .int 3]))]) C (q_subP hP [0] rfl) (hD.sub [0] (by decide) rfl) (c_bookChosen l D cy h h0 h1 h2 h3 h4 h5 3 _ ) kwV_X0_bookChosen kM_RX0_110 rfl rfl ⟨Nat.le_of_ble_eq_true rfl, Nat.le_of_ble_eq_true rfl⟩ rfl hl.1 rfl (Nat.le_of_ble_eq_true rfl) dX0_keepsFrom_149 ⟨Nat.le_of_ble_eq_true rfl, Nat.le_of_ble_eq_true rfl⟩) C.2.2.2.2.2.2.1 hP hD hS [0] [1, 2] rfl rfl (by decide) (by decide) (fun r_14 u_13 H locs hw_15 hP hD hS => ?_)
  have hP : va_P D vwCl [(h0, .inl (cy 1, 8, .inl u_10)), (h5, .inl (cy 1, 81, .inl (fun _ => 0))), (h, .inr (0, [.int 0, .int 0, .int (-1), .ref h0, .ref h1, .ref h2, .ref h3, .ref h4, .int 0, .ref h5, .int 0, .int 0, .int 10, .int 1, .int 0, .int 3]))] H := hP
  have hD : va_D A [(h0, .inl (cy 1, 8, .inl u_10)), (h5, .inl (cy 1, 81, .inl (fun _ => 0))), (h, .inr (0, [.int 0, .int 0, .int (-1), .ref h0, .ref h1, .ref h2, .ref h3, .ref h4, .int 0, .ref h5, .int 0, .int 0, .int 10, .int 1, .int 0, .int 3]))] := hD
  obtain rfl : r_14 = (-1) := hw_15
  refine q_iast (g := upd u_10 0 (-1)) (w' := [(h0, .inl (cy 1, 8, .inl (upd u_10 0 (-1)))), (h5, .inl (cy 1, 81, .inl (fun _ => 0))), (h, .inr (0, [.int 0, .int 0, .int (-1), .ref h0, .ref h1, .ref h2, .ref h3, .ref h4, .int 0, .ref h5, .int 0, .int 0, .int 10, .int 1, .int 0, .int 3]))]) C hP hD hS 0 rfl (vin (by decide +kernel)) rfl rfl dX0_keepsFrom_152 (fun H locs hP hD hS => ?_)
  refine lv_iconst (v := 1) hx hb dX0_keepsFrom_153 (by decide) ?_
  exact q_iret (rm := (Rm 3 78 0 0)) C hS (upd u_10 0 (-1)) rfl rfl (q_subP hP [2, 0, 1] rfl) (hD.sub [2, 0, 1] (by decide) rfl) (Nat.le_of_ble_eq_true rfl) (Nat.le_of_ble_eq_true rfl) dX0_keepsFrom_154
set_option maxHeartbeats 4000000 in
set_option maxRecDepth 100000 in
theorem c_fewest_3 (l : Launch) (D : va_G) (cy : Nat → ClassId) (h : Nat) (h0 : Nat) (h1 : Nat) (h2 : Nat) (h3 : Nat) (h4 : Nat) (h5 : Nat) (kr : Nat → Int32) (sz : Nat)  : MI l yX0_fewestAskings cX0_fewestAskings 2 (some .int) (Rm 4 104 0 0) D cy [.ref h] sz [(h, .inr (0, [.int 0, .int 0, .int (-1), .ref h0, .ref h1, .ref h2, .ref h3, .ref h4, .int 0, .ref h5, .int 0, .int 0, .int 10, .int 1, .int 0, .int 3])), (h0, .inl (cy 1, 8, .inl kr)), (h5, .inl (cy 1, 81, .inl (fun _ => 0)))] (fun (r : Int32) (u : Unit) => r = 0) (fun u : Unit => []) := by
  refine MI.enter (by decide) (Nat.le_of_ble_eq_true rfl) ?_
  intro p e s m below meth c ls A hsz hAe C hP hD hS hl
  have C : Cx p s m _ meth c cX0_fewestAskings 2 (some .int) RX0 "fewestAskings" D cy A := C
  have hx := C.1
  have hb := C.2.1
  have hl : lv_has ls 2 [(0, .ref h)] := hl
  refine lv_iconst (v := 0) hx hb dX0_fewestAskings_0 (by decide) ?_
  refine lv_istore_n (lv' := [(1, .int 0), (0, .ref h)]) hx hb dX0_fewestAskings_1 rfl hl (by decide) rfl (fun ls hl => ?_)
  refine lv_iload_n hx hb dX0_fewestAskings_2 rfl (lv_at hl 0 rfl) ?_
  refine lv_aload_n hx hb dX0_fewestAskings_3 rfl (lv_at hl 1 rfl) ?_
  refine q_get (v := .int 3) C hP 0 15 rfl rfl inX0 (by decide) kF_RX0_58 rfl rfl dX0_fewestAskings_4 ?_
  refine lv_icmp_gt (tgt := 35) hx hb dX0_fewestAskings_7 (by decide) (fun c_0 => absurd c_0 (by decide)) (fun _ => ?_)
  refine lv_aload_n hx hb dX0_fewestAskings_10 rfl (lv_at hl 1 rfl) ?_
  refine lv_iconst (v := 0) hx hb dX0_fewestAskings_11 (by decide) ?_
  refine lv_iload_n hx hb dX0_fewestAskings_12 rfl (lv_at hl 0 rfl) ?_
  refine q_ai (wr := []) (r_V (q0 := 0) (As := [.int 0, .int 0]) (rest := []) (wc := [(h, .inr (0, [.int 0, .int 0, .int (-1), .ref h0, .ref h1, .ref h2, .ref h3, .ref h4, .int 0, .ref h5, .int 0, .int 0, .int 10, .int 1, .int 0, .int 3])), (h0, .inl (cy 1, 8, .inl kr)), (h5, .inl (cy 1, 81, .inl (fun _ => 0)))]) C (q_subP hP [0, 1, 2] rfl) (hD.sub [0, 1, 2] (by decide) rfl) (c_keeps_3_0 l D cy h h0 h1 h2 h3 h4 h5 kr _ ) kwV_X0_keepsFrom kM_RX0_95 rfl rfl ⟨Nat.le_of_ble_eq_true rfl, Nat.le_of_ble_eq_true rfl⟩ rfl hl.1 rfl (Nat.le_of_ble_eq_true rfl) dX0_fewestAskings_13 ⟨Nat.le_of_ble_eq_true rfl, Nat.le_of_ble_eq_true rfl⟩) C.2.2.2.2.2.2.1 hP hD hS [0, 1, 2] [] rfl rfl (by decide) (by decide) (fun r_2 u_1 H locs hw_3 hP hD hS => ?_)
  have hP : va_P D vwCl [(h, .inr (0, [.int 0, .int 0, .int (-1), .ref h0, .ref h1, .ref h2, .ref h3, .ref h4, .int 0, .ref h5, .int 0, .int 0, .int 10, .int 1, .int 0, .int 3])), (h0, .inl (cy 1, 8, .inl u_1)), (h5, .inl (cy 1, 81, .inl (fun _ => 0)))] H := hP
  have hD : va_D A [(h, .inr (0, [.int 0, .int 0, .int (-1), .ref h0, .ref h1, .ref h2, .ref h3, .ref h4, .int 0, .ref h5, .int 0, .int 0, .int 10, .int 1, .int 0, .int 3])), (h0, .inl (cy 1, 8, .inl u_1)), (h5, .inl (cy 1, 81, .inl (fun _ => 0)))] := hD
  obtain rfl : r_2 = 1 := hw_3
  refine lv_if_eq (tgt := 29) hx hb dX0_fewestAskings_16 (by decide) (fun c_0 => absurd c_0 (by decide)) (fun _ => ?_)
  refine lv_aload_n hx hb dX0_fewestAskings_19 rfl (lv_at hl 1 rfl) ?_
  refine lv_aload_n hx hb dX0_fewestAskings_20 rfl (lv_at hl 1 rfl) ?_
  refine q_get (v := .int 3) C hP 0 15 rfl rfl inX0 (by decide) kF_RX0_58 rfl rfl dX0_fewestAskings_21 ?_
  refine q_put (v := .int 3) (w' := [(h, .inr (0, [.int 3, .int 0, .int (-1), .ref h0, .ref h1, .ref h2, .ref h3, .ref h4, .int 0, .ref h5, .int 0, .int 0, .int 10, .int 1, .int 0, .int 3])), (h0, .inl (cy 1, 8, .inl u_1)), (h5, .inl (cy 1, 81, .inl (fun _ => 0)))]) (ty := .int) C hP hD hS 0 0 rfl rfl inX0 tyX0 tyX0_ok nmX0 (by decide) kF_RX0_9 rfl rfl rfl rfl rfl (Nat.le_of_ble_eq_true rfl) rfl dX0_fewestAskings_24 (fun H locs hP hD hS => ?_)
  refine lv_iload_n hx hb dX0_fewestAskings_27 rfl (lv_at hl 0 rfl) ?_
  exact q_iret (rm := (Rm 4 104 0 0)) C hS () rfl rfl (q_subP hP [] rfl) (hD.sub [] (by decide) rfl) (Nat.le_of_ble_eq_true rfl) (Nat.le_of_ble_eq_true rfl) dX0_fewestAskings_28
set_option maxHeartbeats 4000000 in
set_option maxRecDepth 100000 in
theorem c_keeps_4_4 (l : Launch) (D : va_G) (cy : Nat → ClassId) (h : Nat) (h0 : Nat) (h1 : Nat) (h2 : Nat) (h3 : Nat) (h4 : Nat) (h5 : Nat) (kr : Nat → Int32) (sz : Nat)  : MI l yX0_keepsFrom cX0_keepsFrom 7 (some .boolean) (Rm 0 0 0 0) D cy [.ref h, .int 4, .int 0] sz [(h, .inr (0, [.int 0, .int 0, .int (-1), .ref h0, .ref h1, .ref h2, .ref h3, .ref h4, .int 0, .ref h5, .int 0, .int 0, .int 10, .int 1, .int 0, .int 4])), (h0, .inl (cy 1, 8, .inl kr)), (h5, .inl (cy 1, 81, .inl (fun _ => 0)))] (fun (r : Int32) (u : Nat → Int32) => r = 1) (fun u : Nat → Int32 => [(h, .inr (0, [.int 0, .int 0, .int (-1), .ref h0, .ref h1, .ref h2, .ref h3, .ref h4, .int 0, .ref h5, .int 0, .int 0, .int 10, .int 1, .int 0, .int 4])), (h0, .inl (cy 1, 8, .inl u)), (h5, .inl (cy 1, 81, .inl (fun _ => 0)))]) := by
  refine MI.enter (by decide) (Nat.le_of_ble_eq_true rfl) ?_
  intro p e s m below meth c ls A hsz hAe C hP hD hS hl
  have C : Cx p s m _ meth c cX0_keepsFrom 7 (some .boolean) RX0 "keepsFrom" D cy A := C
  have hx := C.1
  have hb := C.2.1
  have hl : lv_has ls 7 [(0, .ref h), (1, .int 4), (2, .int 0)] := hl
  refine lv_iload_n hx hb dX0_keepsFrom_0 rfl (lv_at hl 1 rfl) ?_
  refine lv_aload_n hx hb dX0_keepsFrom_1 rfl (lv_at hl 0 rfl) ?_
  refine q_get (v := .int 4) C hP 0 15 rfl rfl inX0 (by decide) kF_RX0_58 rfl rfl dX0_keepsFrom_2 ?_
  refine lv_icmp_lt (tgt := 10) hx hb dX0_keepsFrom_5 (by decide) (fun c_0 => absurd c_0 (by decide)) (fun _ => ?_)
  refine lv_iconst (v := 1) hx hb dX0_keepsFrom_8 (by decide) ?_
  exact q_iret (rm := (Rm 0 0 0 0)) C hS (kr) rfl rfl (q_subP hP [0, 1, 2] rfl) (hD.sub [0, 1, 2] (by decide) rfl) (Nat.le_of_ble_eq_true rfl) (Nat.le_of_ble_eq_true rfl) dX0_keepsFrom_9
set_option maxHeartbeats 4000000 in
set_option maxRecDepth 100000 in
theorem c_keeps_4_3 (l : Launch) (D : va_G) (cy : Nat → ClassId) (h : Nat) (h0 : Nat) (h1 : Nat) (h2 : Nat) (h3 : Nat) (h4 : Nat) (h5 : Nat) (kr : Nat → Int32) (sz : Nat)  : MI l yX0_keepsFrom cX0_keepsFrom 7 (some .boolean) (Rm 1 26 0 0) D cy [.ref h, .int 3, .int 0] sz [(h, .inr (0, [.int 0, .int 0, .int (-1), .ref h0, .ref h1, .ref h2, .ref h3, .ref h4, .int 0, .ref h5, .int 0, .int 0, .int 10, .int 1, .int 0, .int 4])), (h0, .inl (cy 1, 8, .inl kr)), (h5, .inl (cy 1, 81, .inl (fun _ => 0)))] (fun (r : Int32) (u : Nat → Int32) => r = 1) (fun u : Nat → Int32 => [(h, .inr (0, [.int 0, .int 0, .int (-1), .ref h0, .ref h1, .ref h2, .ref h3, .ref h4, .int 0, .ref h5, .int 0, .int 0, .int 10, .int 1, .int 0, .int 4])), (h0, .inl (cy 1, 8, .inl u)), (h5, .inl (cy 1, 81, .inl (fun _ => 0)))]) := by
  refine MI.enter (by decide) (Nat.le_of_ble_eq_true rfl) ?_
  intro p e s m below meth c ls A hsz hAe C hP hD hS hl
  have C : Cx p s m _ meth c cX0_keepsFrom 7 (some .boolean) RX0 "keepsFrom" D cy A := C
  have hx := C.1
  have hb := C.2.1
  have hl : lv_has ls 7 [(0, .ref h), (1, .int 3), (2, .int 0)] := hl
  refine lv_iload_n hx hb dX0_keepsFrom_0 rfl (lv_at hl 1 rfl) ?_
  refine lv_aload_n hx hb dX0_keepsFrom_1 rfl (lv_at hl 0 rfl) ?_
  refine q_get (v := .int 4) C hP 0 15 rfl rfl inX0 (by decide) kF_RX0_58 rfl rfl dX0_keepsFrom_2 ?_
  refine lv_icmp_lt (tgt := 10) hx hb dX0_keepsFrom_5 (by decide) (fun _ => ?_) (fun c_0 => absurd (by decide) c_0)
  refine lv_aload_n hx hb dX0_keepsFrom_10 rfl (lv_at hl 0 rfl) ?_
  refine lv_iload_n hx hb dX0_keepsFrom_11 rfl (lv_at hl 1 rfl) ?_
  refine q_ai (wr := [(h0, .inl (cy 1, 8, .inl kr)), (h5, .inl (cy 1, 81, .inl (fun _ => 0)))]) (r_V (q0 := 0) (As := [.int 3]) (rest := []) (wc := [(h, .inr (0, [.int 0, .int 0, .int (-1), .ref h0, .ref h1, .ref h2, .ref h3, .ref h4, .int 0, .ref h5, .int 0, .int 0, .int 10, .int 1, .int 0, .int 4]))]) C (q_subP hP [0] rfl) (hD.sub [0] (by decide) rfl) (c_askNeeded l D cy h 3 h0 h1 h2 h3 h4 h5 4 _ ) kwV_X0_askingsNeeded kM_RX0_98 rfl rfl ⟨Nat.le_of_ble_eq_true rfl, Nat.le_of_ble_eq_true rfl⟩ rfl hl.1 rfl (Nat.le_of_ble_eq_true rfl) dX0_keepsFrom_12 ⟨Nat.le_of_ble_eq_true rfl, Nat.le_of_ble_eq_true rfl⟩) C.2.2.2.2.2.2.1 hP hD hS [0] [1, 2] rfl rfl (by decide) (by decide) (fun r_2 u_1 H locs hw_3 hP hD hS => ?_)
  have hP : va_P D vwCl [(h0, .inl (cy 1, 8, .inl kr)), (h5, .inl (cy 1, 81, .inl (fun _ => 0))), (h, .inr (0, [.int 0, .int 0, .int (-1), .ref h0, .ref h1, .ref h2, .ref h3, .ref h4, .int 0, .ref h5, .int 0, .int 0, .int 10, .int 1, .int 0, .int 4]))] H := hP
  have hD : va_D A [(h0, .inl (cy 1, 8, .inl kr)), (h5, .inl (cy 1, 81, .inl (fun _ => 0))), (h, .inr (0, [.int 0, .int 0, .int (-1), .ref h0, .ref h1, .ref h2, .ref h3, .ref h4, .int 0, .ref h5, .int 0, .int 0, .int 10, .int 1, .int 0, .int 4]))] := hD
  obtain rfl : r_2 = 0 := hw_3
  refine lv_iload_n hx hb dX0_keepsFrom_15 rfl (lv_at hl 2 rfl) ?_
  refine lv_icmp_le (tgt := 21) hx hb dX0_keepsFrom_16 (by decide) (fun _ => ?_) (fun c_0 => absurd (by decide) c_0)
  refine lv_aload_n hx hb dX0_keepsFrom_21 rfl (lv_at hl 0 rfl) ?_
  refine lv_iload_n hx hb dX0_keepsFrom_22 rfl (lv_at hl 1 rfl) ?_
  refine q_av (wr := [(h0, .inl (cy 1, 8, .inl kr)), (h5, .inl (cy 1, 81, .inl (fun _ => 0)))]) (r_V (q0 := 0) (As := [.int 3]) (rest := []) (wc := [(h, .inr (0, [.int 0, .int 0, .int (-1), .ref h0, .ref h1, .ref h2, .ref h3, .ref h4, .int 0, .ref h5, .int 0, .int 0, .int 10, .int 1, .int 0, .int 4]))]) C (q_subP hP [2] rfl) (hD.sub [2] (by decide) rfl) (c_passDay l D cy h 3 h0 h1 h2 h3 h4 h5 4 _ ) kwV_X0_passDay kM_RX0_102 rfl rfl ⟨Nat.le_of_ble_eq_true rfl, Nat.le_of_ble_eq_true rfl⟩ rfl hl.1 rfl (Nat.le_of_ble_eq_true rfl) dX0_keepsFrom_23 ⟨Nat.le_of_ble_eq_true rfl, Nat.le_of_ble_eq_true rfl⟩) C.2.2.2.2.2.2.1 hP hD hS [2] [0, 1] rfl rfl (by decide) (by decide) (fun u_4 H locs hw_6 hP hD hS => ?_)
  have hP : va_P D vwCl [(h0, .inl (cy 1, 8, .inl kr)), (h5, .inl (cy 1, 81, .inl (fun _ => 0))), (h, .inr (0, [.int 0, .int 0, .int (-1), .ref h0, .ref h1, .ref h2, .ref h3, .ref h4, .int 0, .ref h5, .int 0, .int 0, .int 10, .int 1, .int 0, .int 4]))] H := hP
  have hD : va_D A [(h0, .inl (cy 1, 8, .inl kr)), (h5, .inl (cy 1, 81, .inl (fun _ => 0))), (h, .inr (0, [.int 0, .int 0, .int (-1), .ref h0, .ref h1, .ref h2, .ref h3, .ref h4, .int 0, .ref h5, .int 0, .int 0, .int 10, .int 1, .int 0, .int 4]))] := hD
  refine lv_iconst (v := 0) hx hb dX0_keepsFrom_26 (by decide) ?_
  refine lv_istore_n (lv' := [(3, .int 0), (0, .ref h), (1, .int 3), (2, .int 0)]) hx hb dX0_keepsFrom_27 rfl hl (by decide) rfl (fun ls hl => ?_)
  refine lv_iload_n hx hb dX0_keepsFrom_28 rfl (lv_at hl 0 rfl) ?_
  refine lv_aload_n hx hb dX0_keepsFrom_29 rfl (lv_at hl 1 rfl) ?_
  refine q_get (v := .int 0) C hP 2 10 rfl rfl inX0 (by decide) kF_RX0_43 rfl rfl dX0_keepsFrom_30 ?_
  refine lv_icmp_gt (tgt := 170) hx hb dX0_keepsFrom_33 (by decide) (fun c_0 => absurd c_0 (by decide)) (fun _ => ?_)
  refine lv_iload_n hx hb dX0_keepsFrom_36 rfl (lv_at hl 0 rfl) ?_
  refine lv_aload_n hx hb dX0_keepsFrom_37 rfl (lv_at hl 1 rfl) ?_
  refine q_get (v := .int 0) C hP 2 10 rfl rfl inX0 (by decide) kF_RX0_43 rfl rfl dX0_keepsFrom_38 ?_
  refine lv_icmp_ge (tgt := 48) hx hb dX0_keepsFrom_41 (by decide) (fun _ => ?_) (fun c_0 => absurd (by decide) c_0)
  refine lv_iconst (v := 0) hx hb dX0_keepsFrom_48 (by decide) ?_
  refine lv_istore (lv' := [(4, .int 0), (3, .int 0), (0, .ref h), (1, .int 3), (2, .int 0)]) hx hb dX0_keepsFrom_49 hl (by decide) rfl (fun ls hl => ?_)
  refine lv_iload hx hb dX0_keepsFrom_51 (lv_at hl 0 rfl) ?_
  refine lv_if_eq (tgt := 83) hx hb dX0_keepsFrom_53 (by decide) (fun _ => ?_) (fun c_0 => absurd (by decide) c_0)
  refine lv_iload_n hx hb dX0_keepsFrom_83 rfl (lv_at hl 3 rfl) ?_
  refine lv_iconst (v := 1) hx hb dX0_keepsFrom_84 (by decide) ?_
  refine lv_iadd hx hb dX0_keepsFrom_85 ?_
  refine q_val (v := 4) (by decide) ?_
  refine lv_bipush (v := 9) hx hb dX0_keepsFrom_86 (by decide) ?_
  refine lv_imul hx hb dX0_keepsFrom_88 ?_
  refine q_val (v := 36) (by decide) ?_
  refine lv_iload_n hx hb dX0_keepsFrom_89 rfl (lv_at hl 1 rfl) ?_
  refine lv_iadd hx hb dX0_keepsFrom_90 ?_
  refine q_val (v := 36) (by decide) ?_
  refine lv_istore (lv' := [(5, .int 36), (4, .int 0), (3, .int 0), (0, .ref h), (1, .int 3), (2, .int 0)]) hx hb dX0_keepsFrom_91 hl (by decide) rfl (fun ls hl => ?_)
  refine lv_aload_n hx hb dX0_keepsFrom_93 rfl (lv_at hl 3 rfl) ?_
  refine q_get (v := .ref h5) C hP 2 9 rfl rfl inX0 (by decide) kF_RX0_40 rfl rfl dX0_keepsFrom_94 ?_
  refine lv_iload hx hb dX0_keepsFrom_97 (lv_at hl 0 rfl) ?_
  refine q_iald (v := 0) C hP 1 rfl (vin (by decide +kernel)) rfl dX0_keepsFrom_99 ?_
  refine lv_istore (lv' := [(6, .int 0), (5, .int 36), (4, .int 0), (3, .int 0), (0, .ref h), (1, .int 3), (2, .int 0)]) hx hb dX0_keepsFrom_100 hl (by decide) rfl (fun ls hl => ?_)
  refine lv_aload_n hx hb dX0_keepsFrom_102 rfl (lv_at hl 4 rfl) ?_
  refine q_get (v := .ref h5) C hP 2 9 rfl rfl inX0 (by decide) kF_RX0_40 rfl rfl dX0_keepsFrom_103 ?_
  refine lv_iload hx hb dX0_keepsFrom_106 (lv_at hl 1 rfl) ?_
  refine lv_iconst (v := 0) hx hb dX0_keepsFrom_108 (by decide) ?_
  refine q_iast (g := fun _ => 0) (w' := [(h0, .inl (cy 1, 8, .inl kr)), (h5, .inl (cy 1, 81, .inl (fun _ => 0))), (h, .inr (0, [.int 0, .int 0, .int (-1), .ref h0, .ref h1, .ref h2, .ref h3, .ref h4, .int 0, .ref h5, .int 0, .int 0, .int 10, .int 1, .int 0, .int 4]))]) C hP hD hS 1 rfl (vin (by decide +kernel)) (updz _) rfl dX0_keepsFrom_109 (fun H locs hP hD hS => ?_)
  refine lv_aload_n hx hb dX0_keepsFrom_110 rfl (lv_at hl 4 rfl) ?_
  refine lv_iload_n hx hb dX0_keepsFrom_111 rfl (lv_at hl 5 rfl) ?_
  refine lv_iconst (v := 1) hx hb dX0_keepsFrom_112 (by decide) ?_
  refine lv_iadd hx hb dX0_keepsFrom_113 ?_
  refine q_val (v := 4) (by decide) ?_
  refine q_ai (wr := [(h0, .inl (cy 1, 8, .inl kr)), (h5, .inl (cy 1, 81, .inl (fun _ => 0)))]) (r_V (q0 := 0) (As := [.int 4]) (rest := []) (wc := [(h, .inr (0, [.int 0, .int 0, .int (-1), .ref h0, .ref h1, .ref h2, .ref h3, .ref h4, .int 0, .ref h5, .int 0, .int 0, .int 10, .int 1, .int 0, .int 4]))]) C (q_subP hP [2] rfl) (hD.sub [2] (by decide) rfl) (c_rareDoubt l D cy h 4 h0 h1 h2 h3 h4 h5 4 _ ) kwV_X0_areRareInDoubt kM_RX0_106 rfl rfl ⟨Nat.le_of_ble_eq_true rfl, Nat.le_of_ble_eq_true rfl⟩ rfl hl.1 rfl (Nat.le_of_ble_eq_true rfl) dX0_keepsFrom_114 ⟨Nat.le_of_ble_eq_true rfl, Nat.le_of_ble_eq_true rfl⟩) C.2.2.2.2.2.2.1 hP hD hS [2] [0, 1] rfl rfl (by decide) (by decide) (fun r_8 u_7 H locs hw_9 hP hD hS => ?_)
  have hP : va_P D vwCl [(h0, .inl (cy 1, 8, .inl kr)), (h5, .inl (cy 1, 81, .inl (fun _ => 0))), (h, .inr (0, [.int 0, .int 0, .int (-1), .ref h0, .ref h1, .ref h2, .ref h3, .ref h4, .int 0, .ref h5, .int 0, .int 0, .int 10, .int 1, .int 0, .int 4]))] H := hP
  have hD : va_D A [(h0, .inl (cy 1, 8, .inl kr)), (h5, .inl (cy 1, 81, .inl (fun _ => 0))), (h, .inr (0, [.int 0, .int 0, .int (-1), .ref h0, .ref h1, .ref h2, .ref h3, .ref h4, .int 0, .ref h5, .int 0, .int 0, .int 10, .int 1, .int 0, .int 4]))] := hD
  obtain rfl : r_8 = 1 := hw_9
  refine lv_if_eq (tgt := 155) hx hb dX0_keepsFrom_117 (by decide) (fun c_0 => absurd c_0 (by decide)) (fun _ => ?_)
  refine lv_aload_n hx hb dX0_keepsFrom_120 rfl (lv_at hl 4 rfl) ?_
  refine lv_iload_n hx hb dX0_keepsFrom_121 rfl (lv_at hl 5 rfl) ?_
  refine lv_iconst (v := 1) hx hb dX0_keepsFrom_122 (by decide) ?_
  refine lv_iadd hx hb dX0_keepsFrom_123 ?_
  refine q_val (v := 4) (by decide) ?_
  refine lv_iload hx hb dX0_keepsFrom_124 (lv_at hl 2 rfl) ?_
  refine lv_if_eq (tgt := 135) hx hb dX0_keepsFrom_126 (by decide) (fun _ => ?_) (fun c_0 => absurd (by decide) c_0)
  refine lv_iload_n hx hb dX0_keepsFrom_135 rfl (lv_at hl 6 rfl) ?_
  refine q_ai (wr := []) (r_V (q0 := 0) (As := [.int 4, .int 0]) (rest := []) (wc := [(h, .inr (0, [.int 0, .int 0, .int (-1), .ref h0, .ref h1, .ref h2, .ref h3, .ref h4, .int 0, .ref h5, .int 0, .int 0, .int 10, .int 1, .int 0, .int 4])), (h0, .inl (cy 1, 8, .inl kr)), (h5, .inl (cy 1, 81, .inl (fun _ => 0)))]) C (q_subP hP [2, 0, 1] rfl) (hD.sub [2, 0, 1] (by decide) rfl) (c_keeps_4_4 l D cy h h0 h1 h2 h3 h4 h5 kr _ ) kwV_X0_keepsFrom kM_RX0_95 rfl rfl ⟨Nat.le_of_ble_eq_true rfl, Nat.le_of_ble_eq_true rfl⟩ rfl hl.1 rfl (Nat.le_of_ble_eq_true rfl) dX0_keepsFrom_136 ⟨Nat.le_of_ble_eq_true rfl, Nat.le_of_ble_eq_true rfl⟩) C.2.2.2.2.2.2.1 hP hD hS [2, 0, 1] [] rfl rfl (by decide) (by decide) (fun r_11 u_10 H locs hw_12 hP hD hS => ?_)
  have hP : va_P D vwCl [(h, .inr (0, [.int 0, .int 0, .int (-1), .ref h0, .ref h1, .ref h2, .ref h3, .ref h4, .int 0, .ref h5, .int 0, .int 0, .int 10, .int 1, .int 0, .int 4])), (h0, .inl (cy 1, 8, .inl u_10)), (h5, .inl (cy 1, 81, .inl (fun _ => 0)))] H := hP
  have hD : va_D A [(h, .inr (0, [.int 0, .int 0, .int (-1), .ref h0, .ref h1, .ref h2, .ref h3, .ref h4, .int 0, .ref h5, .int 0, .int 0, .int 10, .int 1, .int 0, .int 4])), (h0, .inl (cy 1, 8, .inl u_10)), (h5, .inl (cy 1, 81, .inl (fun _ => 0)))] := hD
  obtain rfl : r_11 = 1 := hw_12
  refine lv_if_eq (tgt := 155) hx hb dX0_keepsFrom_139 (by decide) (fun c_0 => absurd c_0 (by decide)) (fun _ => ?_)
  refine lv_aload_n hx hb dX0_keepsFrom_142 rfl (lv_at hl 4 rfl) ?_
  refine q_get (v := .ref h0) C hP 0 3 rfl rfl inX0 (by decide) kF_RX0_21 rfl rfl dX0_keepsFrom_143 ?_
  refine lv_iload_n hx hb dX0_keepsFrom_146 rfl (lv_at hl 5 rfl) ?_
  refine lv_aload_n hx hb dX0_keepsFrom_147 rfl (lv_at hl 4 rfl) ?_
  refine lv_iload_n hx hb dX0_keepsFrom_148 rfl (lv_at hl 3 rfl) ?_
  refine q_ai (wr := [(h0, .inl (cy 1, 8, .inl u_10)), (h5, .inl (cy 1, 81, .inl (fun _ => 0)))]) (r_V (q0 := 0) (As := [.int 0]) (rest := [.int 3, .ref h0]) (wc := [(h, .inr (0, [.int 0, .int 0, .int (-1), .ref h0, .ref h1, .ref h2, .ref h3, .ref h4, .int 0, .ref h5, .int 0, .int 0, .int 10, .int 1, .int 0, .int 4]))]) C (q_subP hP [0] rfl) (hD.sub [0] (by decide) rfl) (c_bookChosen l D cy h h0 h1 h2 h3 h4 h5 4 _ ) kwV_X0_bookChosen kM_RX0_110 rfl rfl ⟨Nat.le_of_ble_eq_true rfl, Nat.le_of_ble_eq_true rfl⟩ rfl hl.1 rfl (Nat.le_of_ble_eq_true rfl) dX0_keepsFrom_149 ⟨Nat.le_of_ble_eq_true rfl, Nat.le_of_ble_eq_true rfl⟩) C.2.2.2.2.2.2.1 hP hD hS [0] [1, 2] rfl rfl (by decide) (by decide) (fun r_14 u_13 H locs hw_15 hP hD hS => ?_)
  have hP : va_P D vwCl [(h0, .inl (cy 1, 8, .inl u_10)), (h5, .inl (cy 1, 81, .inl (fun _ => 0))), (h, .inr (0, [.int 0, .int 0, .int (-1), .ref h0, .ref h1, .ref h2, .ref h3, .ref h4, .int 0, .ref h5, .int 0, .int 0, .int 10, .int 1, .int 0, .int 4]))] H := hP
  have hD : va_D A [(h0, .inl (cy 1, 8, .inl u_10)), (h5, .inl (cy 1, 81, .inl (fun _ => 0))), (h, .inr (0, [.int 0, .int 0, .int (-1), .ref h0, .ref h1, .ref h2, .ref h3, .ref h4, .int 0, .ref h5, .int 0, .int 0, .int 10, .int 1, .int 0, .int 4]))] := hD
  obtain rfl : r_14 = (-1) := hw_15
  refine q_iast (g := upd u_10 3 (-1)) (w' := [(h0, .inl (cy 1, 8, .inl (upd u_10 3 (-1)))), (h5, .inl (cy 1, 81, .inl (fun _ => 0))), (h, .inr (0, [.int 0, .int 0, .int (-1), .ref h0, .ref h1, .ref h2, .ref h3, .ref h4, .int 0, .ref h5, .int 0, .int 0, .int 10, .int 1, .int 0, .int 4]))]) C hP hD hS 0 rfl (vin (by decide +kernel)) rfl rfl dX0_keepsFrom_152 (fun H locs hP hD hS => ?_)
  refine lv_iconst (v := 1) hx hb dX0_keepsFrom_153 (by decide) ?_
  exact q_iret (rm := (Rm 1 26 0 0)) C hS (upd u_10 3 (-1)) rfl rfl (q_subP hP [2, 0, 1] rfl) (hD.sub [2, 0, 1] (by decide) rfl) (Nat.le_of_ble_eq_true rfl) (Nat.le_of_ble_eq_true rfl) dX0_keepsFrom_154
set_option maxHeartbeats 4000000 in
set_option maxRecDepth 100000 in
theorem c_keeps_4_2 (l : Launch) (D : va_G) (cy : Nat → ClassId) (h : Nat) (h0 : Nat) (h1 : Nat) (h2 : Nat) (h3 : Nat) (h4 : Nat) (h5 : Nat) (kr : Nat → Int32) (sz : Nat)  : MI l yX0_keepsFrom cX0_keepsFrom 7 (some .boolean) (Rm 2 52 0 0) D cy [.ref h, .int 2, .int 0] sz [(h, .inr (0, [.int 0, .int 0, .int (-1), .ref h0, .ref h1, .ref h2, .ref h3, .ref h4, .int 0, .ref h5, .int 0, .int 0, .int 10, .int 1, .int 0, .int 4])), (h0, .inl (cy 1, 8, .inl kr)), (h5, .inl (cy 1, 81, .inl (fun _ => 0)))] (fun (r : Int32) (u : Nat → Int32) => r = 1) (fun u : Nat → Int32 => [(h, .inr (0, [.int 0, .int 0, .int (-1), .ref h0, .ref h1, .ref h2, .ref h3, .ref h4, .int 0, .ref h5, .int 0, .int 0, .int 10, .int 1, .int 0, .int 4])), (h0, .inl (cy 1, 8, .inl u)), (h5, .inl (cy 1, 81, .inl (fun _ => 0)))]) := by
  refine MI.enter (by decide) (Nat.le_of_ble_eq_true rfl) ?_
  intro p e s m below meth c ls A hsz hAe C hP hD hS hl
  have C : Cx p s m _ meth c cX0_keepsFrom 7 (some .boolean) RX0 "keepsFrom" D cy A := C
  have hx := C.1
  have hb := C.2.1
  have hl : lv_has ls 7 [(0, .ref h), (1, .int 2), (2, .int 0)] := hl
  refine lv_iload_n hx hb dX0_keepsFrom_0 rfl (lv_at hl 1 rfl) ?_
  refine lv_aload_n hx hb dX0_keepsFrom_1 rfl (lv_at hl 0 rfl) ?_
  refine q_get (v := .int 4) C hP 0 15 rfl rfl inX0 (by decide) kF_RX0_58 rfl rfl dX0_keepsFrom_2 ?_
  refine lv_icmp_lt (tgt := 10) hx hb dX0_keepsFrom_5 (by decide) (fun _ => ?_) (fun c_0 => absurd (by decide) c_0)
  refine lv_aload_n hx hb dX0_keepsFrom_10 rfl (lv_at hl 0 rfl) ?_
  refine lv_iload_n hx hb dX0_keepsFrom_11 rfl (lv_at hl 1 rfl) ?_
  refine q_ai (wr := [(h0, .inl (cy 1, 8, .inl kr)), (h5, .inl (cy 1, 81, .inl (fun _ => 0)))]) (r_V (q0 := 0) (As := [.int 2]) (rest := []) (wc := [(h, .inr (0, [.int 0, .int 0, .int (-1), .ref h0, .ref h1, .ref h2, .ref h3, .ref h4, .int 0, .ref h5, .int 0, .int 0, .int 10, .int 1, .int 0, .int 4]))]) C (q_subP hP [0] rfl) (hD.sub [0] (by decide) rfl) (c_askNeeded l D cy h 2 h0 h1 h2 h3 h4 h5 4 _ ) kwV_X0_askingsNeeded kM_RX0_98 rfl rfl ⟨Nat.le_of_ble_eq_true rfl, Nat.le_of_ble_eq_true rfl⟩ rfl hl.1 rfl (Nat.le_of_ble_eq_true rfl) dX0_keepsFrom_12 ⟨Nat.le_of_ble_eq_true rfl, Nat.le_of_ble_eq_true rfl⟩) C.2.2.2.2.2.2.1 hP hD hS [0] [1, 2] rfl rfl (by decide) (by decide) (fun r_2 u_1 H locs hw_3 hP hD hS => ?_)
  have hP : va_P D vwCl [(h0, .inl (cy 1, 8, .inl kr)), (h5, .inl (cy 1, 81, .inl (fun _ => 0))), (h, .inr (0, [.int 0, .int 0, .int (-1), .ref h0, .ref h1, .ref h2, .ref h3, .ref h4, .int 0, .ref h5, .int 0, .int 0, .int 10, .int 1, .int 0, .int 4]))] H := hP
  have hD : va_D A [(h0, .inl (cy 1, 8, .inl kr)), (h5, .inl (cy 1, 81, .inl (fun _ => 0))), (h, .inr (0, [.int 0, .int 0, .int (-1), .ref h0, .ref h1, .ref h2, .ref h3, .ref h4, .int 0, .ref h5, .int 0, .int 0, .int 10, .int 1, .int 0, .int 4]))] := hD
  obtain rfl : r_2 = 0 := hw_3
  refine lv_iload_n hx hb dX0_keepsFrom_15 rfl (lv_at hl 2 rfl) ?_
  refine lv_icmp_le (tgt := 21) hx hb dX0_keepsFrom_16 (by decide) (fun _ => ?_) (fun c_0 => absurd (by decide) c_0)
  refine lv_aload_n hx hb dX0_keepsFrom_21 rfl (lv_at hl 0 rfl) ?_
  refine lv_iload_n hx hb dX0_keepsFrom_22 rfl (lv_at hl 1 rfl) ?_
  refine q_av (wr := [(h0, .inl (cy 1, 8, .inl kr)), (h5, .inl (cy 1, 81, .inl (fun _ => 0)))]) (r_V (q0 := 0) (As := [.int 2]) (rest := []) (wc := [(h, .inr (0, [.int 0, .int 0, .int (-1), .ref h0, .ref h1, .ref h2, .ref h3, .ref h4, .int 0, .ref h5, .int 0, .int 0, .int 10, .int 1, .int 0, .int 4]))]) C (q_subP hP [2] rfl) (hD.sub [2] (by decide) rfl) (c_passDay l D cy h 2 h0 h1 h2 h3 h4 h5 4 _ ) kwV_X0_passDay kM_RX0_102 rfl rfl ⟨Nat.le_of_ble_eq_true rfl, Nat.le_of_ble_eq_true rfl⟩ rfl hl.1 rfl (Nat.le_of_ble_eq_true rfl) dX0_keepsFrom_23 ⟨Nat.le_of_ble_eq_true rfl, Nat.le_of_ble_eq_true rfl⟩) C.2.2.2.2.2.2.1 hP hD hS [2] [0, 1] rfl rfl (by decide) (by decide) (fun u_4 H locs hw_6 hP hD hS => ?_)
  have hP : va_P D vwCl [(h0, .inl (cy 1, 8, .inl kr)), (h5, .inl (cy 1, 81, .inl (fun _ => 0))), (h, .inr (0, [.int 0, .int 0, .int (-1), .ref h0, .ref h1, .ref h2, .ref h3, .ref h4, .int 0, .ref h5, .int 0, .int 0, .int 10, .int 1, .int 0, .int 4]))] H := hP
  have hD : va_D A [(h0, .inl (cy 1, 8, .inl kr)), (h5, .inl (cy 1, 81, .inl (fun _ => 0))), (h, .inr (0, [.int 0, .int 0, .int (-1), .ref h0, .ref h1, .ref h2, .ref h3, .ref h4, .int 0, .ref h5, .int 0, .int 0, .int 10, .int 1, .int 0, .int 4]))] := hD
  refine lv_iconst (v := 0) hx hb dX0_keepsFrom_26 (by decide) ?_
  refine lv_istore_n (lv' := [(3, .int 0), (0, .ref h), (1, .int 2), (2, .int 0)]) hx hb dX0_keepsFrom_27 rfl hl (by decide) rfl (fun ls hl => ?_)
  refine lv_iload_n hx hb dX0_keepsFrom_28 rfl (lv_at hl 0 rfl) ?_
  refine lv_aload_n hx hb dX0_keepsFrom_29 rfl (lv_at hl 1 rfl) ?_
  refine q_get (v := .int 0) C hP 2 10 rfl rfl inX0 (by decide) kF_RX0_43 rfl rfl dX0_keepsFrom_30 ?_
  refine lv_icmp_gt (tgt := 170) hx hb dX0_keepsFrom_33 (by decide) (fun c_0 => absurd c_0 (by decide)) (fun _ => ?_)
  refine lv_iload_n hx hb dX0_keepsFrom_36 rfl (lv_at hl 0 rfl) ?_
  refine lv_aload_n hx hb dX0_keepsFrom_37 rfl (lv_at hl 1 rfl) ?_
  refine q_get (v := .int 0) C hP 2 10 rfl rfl inX0 (by decide) kF_RX0_43 rfl rfl dX0_keepsFrom_38 ?_
  refine lv_icmp_ge (tgt := 48) hx hb dX0_keepsFrom_41 (by decide) (fun _ => ?_) (fun c_0 => absurd (by decide) c_0)
  refine lv_iconst (v := 0) hx hb dX0_keepsFrom_48 (by decide) ?_
  refine lv_istore (lv' := [(4, .int 0), (3, .int 0), (0, .ref h), (1, .int 2), (2, .int 0)]) hx hb dX0_keepsFrom_49 hl (by decide) rfl (fun ls hl => ?_)
  refine lv_iload hx hb dX0_keepsFrom_51 (lv_at hl 0 rfl) ?_
  refine lv_if_eq (tgt := 83) hx hb dX0_keepsFrom_53 (by decide) (fun _ => ?_) (fun c_0 => absurd (by decide) c_0)
  refine lv_iload_n hx hb dX0_keepsFrom_83 rfl (lv_at hl 3 rfl) ?_
  refine lv_iconst (v := 1) hx hb dX0_keepsFrom_84 (by decide) ?_
  refine lv_iadd hx hb dX0_keepsFrom_85 ?_
  refine q_val (v := 3) (by decide) ?_
  refine lv_bipush (v := 9) hx hb dX0_keepsFrom_86 (by decide) ?_
  refine lv_imul hx hb dX0_keepsFrom_88 ?_
  refine q_val (v := 27) (by decide) ?_
  refine lv_iload_n hx hb dX0_keepsFrom_89 rfl (lv_at hl 1 rfl) ?_
  refine lv_iadd hx hb dX0_keepsFrom_90 ?_
  refine q_val (v := 27) (by decide) ?_
  refine lv_istore (lv' := [(5, .int 27), (4, .int 0), (3, .int 0), (0, .ref h), (1, .int 2), (2, .int 0)]) hx hb dX0_keepsFrom_91 hl (by decide) rfl (fun ls hl => ?_)
  refine lv_aload_n hx hb dX0_keepsFrom_93 rfl (lv_at hl 3 rfl) ?_
  refine q_get (v := .ref h5) C hP 2 9 rfl rfl inX0 (by decide) kF_RX0_40 rfl rfl dX0_keepsFrom_94 ?_
  refine lv_iload hx hb dX0_keepsFrom_97 (lv_at hl 0 rfl) ?_
  refine q_iald (v := 0) C hP 1 rfl (vin (by decide +kernel)) rfl dX0_keepsFrom_99 ?_
  refine lv_istore (lv' := [(6, .int 0), (5, .int 27), (4, .int 0), (3, .int 0), (0, .ref h), (1, .int 2), (2, .int 0)]) hx hb dX0_keepsFrom_100 hl (by decide) rfl (fun ls hl => ?_)
  refine lv_aload_n hx hb dX0_keepsFrom_102 rfl (lv_at hl 4 rfl) ?_
  refine q_get (v := .ref h5) C hP 2 9 rfl rfl inX0 (by decide) kF_RX0_40 rfl rfl dX0_keepsFrom_103 ?_
  refine lv_iload hx hb dX0_keepsFrom_106 (lv_at hl 1 rfl) ?_
  refine lv_iconst (v := 0) hx hb dX0_keepsFrom_108 (by decide) ?_
  refine q_iast (g := fun _ => 0) (w' := [(h0, .inl (cy 1, 8, .inl kr)), (h5, .inl (cy 1, 81, .inl (fun _ => 0))), (h, .inr (0, [.int 0, .int 0, .int (-1), .ref h0, .ref h1, .ref h2, .ref h3, .ref h4, .int 0, .ref h5, .int 0, .int 0, .int 10, .int 1, .int 0, .int 4]))]) C hP hD hS 1 rfl (vin (by decide +kernel)) (updz _) rfl dX0_keepsFrom_109 (fun H locs hP hD hS => ?_)
  refine lv_aload_n hx hb dX0_keepsFrom_110 rfl (lv_at hl 4 rfl) ?_
  refine lv_iload_n hx hb dX0_keepsFrom_111 rfl (lv_at hl 5 rfl) ?_
  refine lv_iconst (v := 1) hx hb dX0_keepsFrom_112 (by decide) ?_
  refine lv_iadd hx hb dX0_keepsFrom_113 ?_
  refine q_val (v := 3) (by decide) ?_
  refine q_ai (wr := [(h0, .inl (cy 1, 8, .inl kr)), (h5, .inl (cy 1, 81, .inl (fun _ => 0)))]) (r_V (q0 := 0) (As := [.int 3]) (rest := []) (wc := [(h, .inr (0, [.int 0, .int 0, .int (-1), .ref h0, .ref h1, .ref h2, .ref h3, .ref h4, .int 0, .ref h5, .int 0, .int 0, .int 10, .int 1, .int 0, .int 4]))]) C (q_subP hP [2] rfl) (hD.sub [2] (by decide) rfl) (c_rareDoubt l D cy h 3 h0 h1 h2 h3 h4 h5 4 _ ) kwV_X0_areRareInDoubt kM_RX0_106 rfl rfl ⟨Nat.le_of_ble_eq_true rfl, Nat.le_of_ble_eq_true rfl⟩ rfl hl.1 rfl (Nat.le_of_ble_eq_true rfl) dX0_keepsFrom_114 ⟨Nat.le_of_ble_eq_true rfl, Nat.le_of_ble_eq_true rfl⟩) C.2.2.2.2.2.2.1 hP hD hS [2] [0, 1] rfl rfl (by decide) (by decide) (fun r_8 u_7 H locs hw_9 hP hD hS => ?_)
  have hP : va_P D vwCl [(h0, .inl (cy 1, 8, .inl kr)), (h5, .inl (cy 1, 81, .inl (fun _ => 0))), (h, .inr (0, [.int 0, .int 0, .int (-1), .ref h0, .ref h1, .ref h2, .ref h3, .ref h4, .int 0, .ref h5, .int 0, .int 0, .int 10, .int 1, .int 0, .int 4]))] H := hP
  have hD : va_D A [(h0, .inl (cy 1, 8, .inl kr)), (h5, .inl (cy 1, 81, .inl (fun _ => 0))), (h, .inr (0, [.int 0, .int 0, .int (-1), .ref h0, .ref h1, .ref h2, .ref h3, .ref h4, .int 0, .ref h5, .int 0, .int 0, .int 10, .int 1, .int 0, .int 4]))] := hD
  obtain rfl : r_8 = 1 := hw_9
  refine lv_if_eq (tgt := 155) hx hb dX0_keepsFrom_117 (by decide) (fun c_0 => absurd c_0 (by decide)) (fun _ => ?_)
  refine lv_aload_n hx hb dX0_keepsFrom_120 rfl (lv_at hl 4 rfl) ?_
  refine lv_iload_n hx hb dX0_keepsFrom_121 rfl (lv_at hl 5 rfl) ?_
  refine lv_iconst (v := 1) hx hb dX0_keepsFrom_122 (by decide) ?_
  refine lv_iadd hx hb dX0_keepsFrom_123 ?_
  refine q_val (v := 3) (by decide) ?_
  refine lv_iload hx hb dX0_keepsFrom_124 (lv_at hl 2 rfl) ?_
  refine lv_if_eq (tgt := 135) hx hb dX0_keepsFrom_126 (by decide) (fun _ => ?_) (fun c_0 => absurd (by decide) c_0)
  refine lv_iload_n hx hb dX0_keepsFrom_135 rfl (lv_at hl 6 rfl) ?_
  refine q_ai (wr := []) (r_V (q0 := 0) (As := [.int 3, .int 0]) (rest := []) (wc := [(h, .inr (0, [.int 0, .int 0, .int (-1), .ref h0, .ref h1, .ref h2, .ref h3, .ref h4, .int 0, .ref h5, .int 0, .int 0, .int 10, .int 1, .int 0, .int 4])), (h0, .inl (cy 1, 8, .inl kr)), (h5, .inl (cy 1, 81, .inl (fun _ => 0)))]) C (q_subP hP [2, 0, 1] rfl) (hD.sub [2, 0, 1] (by decide) rfl) (c_keeps_4_3 l D cy h h0 h1 h2 h3 h4 h5 kr _ ) kwV_X0_keepsFrom kM_RX0_95 rfl rfl ⟨Nat.le_of_ble_eq_true rfl, Nat.le_of_ble_eq_true rfl⟩ rfl hl.1 rfl (Nat.le_of_ble_eq_true rfl) dX0_keepsFrom_136 ⟨Nat.le_of_ble_eq_true rfl, Nat.le_of_ble_eq_true rfl⟩) C.2.2.2.2.2.2.1 hP hD hS [2, 0, 1] [] rfl rfl (by decide) (by decide) (fun r_11 u_10 H locs hw_12 hP hD hS => ?_)
  have hP : va_P D vwCl [(h, .inr (0, [.int 0, .int 0, .int (-1), .ref h0, .ref h1, .ref h2, .ref h3, .ref h4, .int 0, .ref h5, .int 0, .int 0, .int 10, .int 1, .int 0, .int 4])), (h0, .inl (cy 1, 8, .inl u_10)), (h5, .inl (cy 1, 81, .inl (fun _ => 0)))] H := hP
  have hD : va_D A [(h, .inr (0, [.int 0, .int 0, .int (-1), .ref h0, .ref h1, .ref h2, .ref h3, .ref h4, .int 0, .ref h5, .int 0, .int 0, .int 10, .int 1, .int 0, .int 4])), (h0, .inl (cy 1, 8, .inl u_10)), (h5, .inl (cy 1, 81, .inl (fun _ => 0)))] := hD
  obtain rfl : r_11 = 1 := hw_12
  refine lv_if_eq (tgt := 155) hx hb dX0_keepsFrom_139 (by decide) (fun c_0 => absurd c_0 (by decide)) (fun _ => ?_)
  refine lv_aload_n hx hb dX0_keepsFrom_142 rfl (lv_at hl 4 rfl) ?_
  refine q_get (v := .ref h0) C hP 0 3 rfl rfl inX0 (by decide) kF_RX0_21 rfl rfl dX0_keepsFrom_143 ?_
  refine lv_iload_n hx hb dX0_keepsFrom_146 rfl (lv_at hl 5 rfl) ?_
  refine lv_aload_n hx hb dX0_keepsFrom_147 rfl (lv_at hl 4 rfl) ?_
  refine lv_iload_n hx hb dX0_keepsFrom_148 rfl (lv_at hl 3 rfl) ?_
  refine q_ai (wr := [(h0, .inl (cy 1, 8, .inl u_10)), (h5, .inl (cy 1, 81, .inl (fun _ => 0)))]) (r_V (q0 := 0) (As := [.int 0]) (rest := [.int 2, .ref h0]) (wc := [(h, .inr (0, [.int 0, .int 0, .int (-1), .ref h0, .ref h1, .ref h2, .ref h3, .ref h4, .int 0, .ref h5, .int 0, .int 0, .int 10, .int 1, .int 0, .int 4]))]) C (q_subP hP [0] rfl) (hD.sub [0] (by decide) rfl) (c_bookChosen l D cy h h0 h1 h2 h3 h4 h5 4 _ ) kwV_X0_bookChosen kM_RX0_110 rfl rfl ⟨Nat.le_of_ble_eq_true rfl, Nat.le_of_ble_eq_true rfl⟩ rfl hl.1 rfl (Nat.le_of_ble_eq_true rfl) dX0_keepsFrom_149 ⟨Nat.le_of_ble_eq_true rfl, Nat.le_of_ble_eq_true rfl⟩) C.2.2.2.2.2.2.1 hP hD hS [0] [1, 2] rfl rfl (by decide) (by decide) (fun r_14 u_13 H locs hw_15 hP hD hS => ?_)
  have hP : va_P D vwCl [(h0, .inl (cy 1, 8, .inl u_10)), (h5, .inl (cy 1, 81, .inl (fun _ => 0))), (h, .inr (0, [.int 0, .int 0, .int (-1), .ref h0, .ref h1, .ref h2, .ref h3, .ref h4, .int 0, .ref h5, .int 0, .int 0, .int 10, .int 1, .int 0, .int 4]))] H := hP
  have hD : va_D A [(h0, .inl (cy 1, 8, .inl u_10)), (h5, .inl (cy 1, 81, .inl (fun _ => 0))), (h, .inr (0, [.int 0, .int 0, .int (-1), .ref h0, .ref h1, .ref h2, .ref h3, .ref h4, .int 0, .ref h5, .int 0, .int 0, .int 10, .int 1, .int 0, .int 4]))] := hD
  obtain rfl : r_14 = (-1) := hw_15
  refine q_iast (g := upd u_10 2 (-1)) (w' := [(h0, .inl (cy 1, 8, .inl (upd u_10 2 (-1)))), (h5, .inl (cy 1, 81, .inl (fun _ => 0))), (h, .inr (0, [.int 0, .int 0, .int (-1), .ref h0, .ref h1, .ref h2, .ref h3, .ref h4, .int 0, .ref h5, .int 0, .int 0, .int 10, .int 1, .int 0, .int 4]))]) C hP hD hS 0 rfl (vin (by decide +kernel)) rfl rfl dX0_keepsFrom_152 (fun H locs hP hD hS => ?_)
  refine lv_iconst (v := 1) hx hb dX0_keepsFrom_153 (by decide) ?_
  exact q_iret (rm := (Rm 2 52 0 0)) C hS (upd u_10 2 (-1)) rfl rfl (q_subP hP [2, 0, 1] rfl) (hD.sub [2, 0, 1] (by decide) rfl) (Nat.le_of_ble_eq_true rfl) (Nat.le_of_ble_eq_true rfl) dX0_keepsFrom_154
set_option maxHeartbeats 4000000 in
set_option maxRecDepth 100000 in
theorem c_keeps_4_1 (l : Launch) (D : va_G) (cy : Nat → ClassId) (h : Nat) (h0 : Nat) (h1 : Nat) (h2 : Nat) (h3 : Nat) (h4 : Nat) (h5 : Nat) (kr : Nat → Int32) (sz : Nat)  : MI l yX0_keepsFrom cX0_keepsFrom 7 (some .boolean) (Rm 3 78 0 0) D cy [.ref h, .int 1, .int 0] sz [(h, .inr (0, [.int 0, .int 0, .int (-1), .ref h0, .ref h1, .ref h2, .ref h3, .ref h4, .int 0, .ref h5, .int 0, .int 0, .int 10, .int 1, .int 0, .int 4])), (h0, .inl (cy 1, 8, .inl kr)), (h5, .inl (cy 1, 81, .inl (fun _ => 0)))] (fun (r : Int32) (u : Nat → Int32) => r = 1) (fun u : Nat → Int32 => [(h, .inr (0, [.int 0, .int 0, .int (-1), .ref h0, .ref h1, .ref h2, .ref h3, .ref h4, .int 0, .ref h5, .int 0, .int 0, .int 10, .int 1, .int 0, .int 4])), (h0, .inl (cy 1, 8, .inl u)), (h5, .inl (cy 1, 81, .inl (fun _ => 0)))]) := by
  refine MI.enter (by decide) (Nat.le_of_ble_eq_true rfl) ?_
  intro p e s m below meth c ls A hsz hAe C hP hD hS hl
  have C : Cx p s m _ meth c cX0_keepsFrom 7 (some .boolean) RX0 "keepsFrom" D cy A := C
  have hx := C.1
  have hb := C.2.1
  have hl : lv_has ls 7 [(0, .ref h), (1, .int 1), (2, .int 0)] := hl
  refine lv_iload_n hx hb dX0_keepsFrom_0 rfl (lv_at hl 1 rfl) ?_
  refine lv_aload_n hx hb dX0_keepsFrom_1 rfl (lv_at hl 0 rfl) ?_
  refine q_get (v := .int 4) C hP 0 15 rfl rfl inX0 (by decide) kF_RX0_58 rfl rfl dX0_keepsFrom_2 ?_
  refine lv_icmp_lt (tgt := 10) hx hb dX0_keepsFrom_5 (by decide) (fun _ => ?_) (fun c_0 => absurd (by decide) c_0)
  refine lv_aload_n hx hb dX0_keepsFrom_10 rfl (lv_at hl 0 rfl) ?_
  refine lv_iload_n hx hb dX0_keepsFrom_11 rfl (lv_at hl 1 rfl) ?_
  refine q_ai (wr := [(h0, .inl (cy 1, 8, .inl kr)), (h5, .inl (cy 1, 81, .inl (fun _ => 0)))]) (r_V (q0 := 0) (As := [.int 1]) (rest := []) (wc := [(h, .inr (0, [.int 0, .int 0, .int (-1), .ref h0, .ref h1, .ref h2, .ref h3, .ref h4, .int 0, .ref h5, .int 0, .int 0, .int 10, .int 1, .int 0, .int 4]))]) C (q_subP hP [0] rfl) (hD.sub [0] (by decide) rfl) (c_askNeeded l D cy h 1 h0 h1 h2 h3 h4 h5 4 _ ) kwV_X0_askingsNeeded kM_RX0_98 rfl rfl ⟨Nat.le_of_ble_eq_true rfl, Nat.le_of_ble_eq_true rfl⟩ rfl hl.1 rfl (Nat.le_of_ble_eq_true rfl) dX0_keepsFrom_12 ⟨Nat.le_of_ble_eq_true rfl, Nat.le_of_ble_eq_true rfl⟩) C.2.2.2.2.2.2.1 hP hD hS [0] [1, 2] rfl rfl (by decide) (by decide) (fun r_2 u_1 H locs hw_3 hP hD hS => ?_)
  have hP : va_P D vwCl [(h0, .inl (cy 1, 8, .inl kr)), (h5, .inl (cy 1, 81, .inl (fun _ => 0))), (h, .inr (0, [.int 0, .int 0, .int (-1), .ref h0, .ref h1, .ref h2, .ref h3, .ref h4, .int 0, .ref h5, .int 0, .int 0, .int 10, .int 1, .int 0, .int 4]))] H := hP
  have hD : va_D A [(h0, .inl (cy 1, 8, .inl kr)), (h5, .inl (cy 1, 81, .inl (fun _ => 0))), (h, .inr (0, [.int 0, .int 0, .int (-1), .ref h0, .ref h1, .ref h2, .ref h3, .ref h4, .int 0, .ref h5, .int 0, .int 0, .int 10, .int 1, .int 0, .int 4]))] := hD
  obtain rfl : r_2 = 0 := hw_3
  refine lv_iload_n hx hb dX0_keepsFrom_15 rfl (lv_at hl 2 rfl) ?_
  refine lv_icmp_le (tgt := 21) hx hb dX0_keepsFrom_16 (by decide) (fun _ => ?_) (fun c_0 => absurd (by decide) c_0)
  refine lv_aload_n hx hb dX0_keepsFrom_21 rfl (lv_at hl 0 rfl) ?_
  refine lv_iload_n hx hb dX0_keepsFrom_22 rfl (lv_at hl 1 rfl) ?_
  refine q_av (wr := [(h0, .inl (cy 1, 8, .inl kr)), (h5, .inl (cy 1, 81, .inl (fun _ => 0)))]) (r_V (q0 := 0) (As := [.int 1]) (rest := []) (wc := [(h, .inr (0, [.int 0, .int 0, .int (-1), .ref h0, .ref h1, .ref h2, .ref h3, .ref h4, .int 0, .ref h5, .int 0, .int 0, .int 10, .int 1, .int 0, .int 4]))]) C (q_subP hP [2] rfl) (hD.sub [2] (by decide) rfl) (c_passDay l D cy h 1 h0 h1 h2 h3 h4 h5 4 _ ) kwV_X0_passDay kM_RX0_102 rfl rfl ⟨Nat.le_of_ble_eq_true rfl, Nat.le_of_ble_eq_true rfl⟩ rfl hl.1 rfl (Nat.le_of_ble_eq_true rfl) dX0_keepsFrom_23 ⟨Nat.le_of_ble_eq_true rfl, Nat.le_of_ble_eq_true rfl⟩) C.2.2.2.2.2.2.1 hP hD hS [2] [0, 1] rfl rfl (by decide) (by decide) (fun u_4 H locs hw_6 hP hD hS => ?_)
  have hP : va_P D vwCl [(h0, .inl (cy 1, 8, .inl kr)), (h5, .inl (cy 1, 81, .inl (fun _ => 0))), (h, .inr (0, [.int 0, .int 0, .int (-1), .ref h0, .ref h1, .ref h2, .ref h3, .ref h4, .int 0, .ref h5, .int 0, .int 0, .int 10, .int 1, .int 0, .int 4]))] H := hP
  have hD : va_D A [(h0, .inl (cy 1, 8, .inl kr)), (h5, .inl (cy 1, 81, .inl (fun _ => 0))), (h, .inr (0, [.int 0, .int 0, .int (-1), .ref h0, .ref h1, .ref h2, .ref h3, .ref h4, .int 0, .ref h5, .int 0, .int 0, .int 10, .int 1, .int 0, .int 4]))] := hD
  refine lv_iconst (v := 0) hx hb dX0_keepsFrom_26 (by decide) ?_
  refine lv_istore_n (lv' := [(3, .int 0), (0, .ref h), (1, .int 1), (2, .int 0)]) hx hb dX0_keepsFrom_27 rfl hl (by decide) rfl (fun ls hl => ?_)
  refine lv_iload_n hx hb dX0_keepsFrom_28 rfl (lv_at hl 0 rfl) ?_
  refine lv_aload_n hx hb dX0_keepsFrom_29 rfl (lv_at hl 1 rfl) ?_
  refine q_get (v := .int 0) C hP 2 10 rfl rfl inX0 (by decide) kF_RX0_43 rfl rfl dX0_keepsFrom_30 ?_
  refine lv_icmp_gt (tgt := 170) hx hb dX0_keepsFrom_33 (by decide) (fun c_0 => absurd c_0 (by decide)) (fun _ => ?_)
  refine lv_iload_n hx hb dX0_keepsFrom_36 rfl (lv_at hl 0 rfl) ?_
  refine lv_aload_n hx hb dX0_keepsFrom_37 rfl (lv_at hl 1 rfl) ?_
  refine q_get (v := .int 0) C hP 2 10 rfl rfl inX0 (by decide) kF_RX0_43 rfl rfl dX0_keepsFrom_38 ?_
  refine lv_icmp_ge (tgt := 48) hx hb dX0_keepsFrom_41 (by decide) (fun _ => ?_) (fun c_0 => absurd (by decide) c_0)
  refine lv_iconst (v := 0) hx hb dX0_keepsFrom_48 (by decide) ?_
  refine lv_istore (lv' := [(4, .int 0), (3, .int 0), (0, .ref h), (1, .int 1), (2, .int 0)]) hx hb dX0_keepsFrom_49 hl (by decide) rfl (fun ls hl => ?_)
  refine lv_iload hx hb dX0_keepsFrom_51 (lv_at hl 0 rfl) ?_
  refine lv_if_eq (tgt := 83) hx hb dX0_keepsFrom_53 (by decide) (fun _ => ?_) (fun c_0 => absurd (by decide) c_0)
  refine lv_iload_n hx hb dX0_keepsFrom_83 rfl (lv_at hl 3 rfl) ?_
  refine lv_iconst (v := 1) hx hb dX0_keepsFrom_84 (by decide) ?_
  refine lv_iadd hx hb dX0_keepsFrom_85 ?_
  refine q_val (v := 2) (by decide) ?_
  refine lv_bipush (v := 9) hx hb dX0_keepsFrom_86 (by decide) ?_
  refine lv_imul hx hb dX0_keepsFrom_88 ?_
  refine q_val (v := 18) (by decide) ?_
  refine lv_iload_n hx hb dX0_keepsFrom_89 rfl (lv_at hl 1 rfl) ?_
  refine lv_iadd hx hb dX0_keepsFrom_90 ?_
  refine q_val (v := 18) (by decide) ?_
  refine lv_istore (lv' := [(5, .int 18), (4, .int 0), (3, .int 0), (0, .ref h), (1, .int 1), (2, .int 0)]) hx hb dX0_keepsFrom_91 hl (by decide) rfl (fun ls hl => ?_)
  refine lv_aload_n hx hb dX0_keepsFrom_93 rfl (lv_at hl 3 rfl) ?_
  refine q_get (v := .ref h5) C hP 2 9 rfl rfl inX0 (by decide) kF_RX0_40 rfl rfl dX0_keepsFrom_94 ?_
  refine lv_iload hx hb dX0_keepsFrom_97 (lv_at hl 0 rfl) ?_
  refine q_iald (v := 0) C hP 1 rfl (vin (by decide +kernel)) rfl dX0_keepsFrom_99 ?_
  refine lv_istore (lv' := [(6, .int 0), (5, .int 18), (4, .int 0), (3, .int 0), (0, .ref h), (1, .int 1), (2, .int 0)]) hx hb dX0_keepsFrom_100 hl (by decide) rfl (fun ls hl => ?_)
  refine lv_aload_n hx hb dX0_keepsFrom_102 rfl (lv_at hl 4 rfl) ?_
  refine q_get (v := .ref h5) C hP 2 9 rfl rfl inX0 (by decide) kF_RX0_40 rfl rfl dX0_keepsFrom_103 ?_
  refine lv_iload hx hb dX0_keepsFrom_106 (lv_at hl 1 rfl) ?_
  refine lv_iconst (v := 0) hx hb dX0_keepsFrom_108 (by decide) ?_
  refine q_iast (g := fun _ => 0) (w' := [(h0, .inl (cy 1, 8, .inl kr)), (h5, .inl (cy 1, 81, .inl (fun _ => 0))), (h, .inr (0, [.int 0, .int 0, .int (-1), .ref h0, .ref h1, .ref h2, .ref h3, .ref h4, .int 0, .ref h5, .int 0, .int 0, .int 10, .int 1, .int 0, .int 4]))]) C hP hD hS 1 rfl (vin (by decide +kernel)) (updz _) rfl dX0_keepsFrom_109 (fun H locs hP hD hS => ?_)
  refine lv_aload_n hx hb dX0_keepsFrom_110 rfl (lv_at hl 4 rfl) ?_
  refine lv_iload_n hx hb dX0_keepsFrom_111 rfl (lv_at hl 5 rfl) ?_
  refine lv_iconst (v := 1) hx hb dX0_keepsFrom_112 (by decide) ?_
  refine lv_iadd hx hb dX0_keepsFrom_113 ?_
  refine q_val (v := 2) (by decide) ?_
  refine q_ai (wr := [(h0, .inl (cy 1, 8, .inl kr)), (h5, .inl (cy 1, 81, .inl (fun _ => 0)))]) (r_V (q0 := 0) (As := [.int 2]) (rest := []) (wc := [(h, .inr (0, [.int 0, .int 0, .int (-1), .ref h0, .ref h1, .ref h2, .ref h3, .ref h4, .int 0, .ref h5, .int 0, .int 0, .int 10, .int 1, .int 0, .int 4]))]) C (q_subP hP [2] rfl) (hD.sub [2] (by decide) rfl) (c_rareDoubt l D cy h 2 h0 h1 h2 h3 h4 h5 4 _ ) kwV_X0_areRareInDoubt kM_RX0_106 rfl rfl ⟨Nat.le_of_ble_eq_true rfl, Nat.le_of_ble_eq_true rfl⟩ rfl hl.1 rfl (Nat.le_of_ble_eq_true rfl) dX0_keepsFrom_114 ⟨Nat.le_of_ble_eq_true rfl, Nat.le_of_ble_eq_true rfl⟩) C.2.2.2.2.2.2.1 hP hD hS [2] [0, 1] rfl rfl (by decide) (by decide) (fun r_8 u_7 H locs hw_9 hP hD hS => ?_)
  have hP : va_P D vwCl [(h0, .inl (cy 1, 8, .inl kr)), (h5, .inl (cy 1, 81, .inl (fun _ => 0))), (h, .inr (0, [.int 0, .int 0, .int (-1), .ref h0, .ref h1, .ref h2, .ref h3, .ref h4, .int 0, .ref h5, .int 0, .int 0, .int 10, .int 1, .int 0, .int 4]))] H := hP
  have hD : va_D A [(h0, .inl (cy 1, 8, .inl kr)), (h5, .inl (cy 1, 81, .inl (fun _ => 0))), (h, .inr (0, [.int 0, .int 0, .int (-1), .ref h0, .ref h1, .ref h2, .ref h3, .ref h4, .int 0, .ref h5, .int 0, .int 0, .int 10, .int 1, .int 0, .int 4]))] := hD
  obtain rfl : r_8 = 1 := hw_9
  refine lv_if_eq (tgt := 155) hx hb dX0_keepsFrom_117 (by decide) (fun c_0 => absurd c_0 (by decide)) (fun _ => ?_)
  refine lv_aload_n hx hb dX0_keepsFrom_120 rfl (lv_at hl 4 rfl) ?_
  refine lv_iload_n hx hb dX0_keepsFrom_121 rfl (lv_at hl 5 rfl) ?_
  refine lv_iconst (v := 1) hx hb dX0_keepsFrom_122 (by decide) ?_
  refine lv_iadd hx hb dX0_keepsFrom_123 ?_
  refine q_val (v := 2) (by decide) ?_
  refine lv_iload hx hb dX0_keepsFrom_124 (lv_at hl 2 rfl) ?_
  refine lv_if_eq (tgt := 135) hx hb dX0_keepsFrom_126 (by decide) (fun _ => ?_) (fun c_0 => absurd (by decide) c_0)
  refine lv_iload_n hx hb dX0_keepsFrom_135 rfl (lv_at hl 6 rfl) ?_
  refine q_ai (wr := []) (r_V (q0 := 0) (As := [.int 2, .int 0]) (rest := []) (wc := [(h, .inr (0, [.int 0, .int 0, .int (-1), .ref h0, .ref h1, .ref h2, .ref h3, .ref h4, .int 0, .ref h5, .int 0, .int 0, .int 10, .int 1, .int 0, .int 4])), (h0, .inl (cy 1, 8, .inl kr)), (h5, .inl (cy 1, 81, .inl (fun _ => 0)))]) C (q_subP hP [2, 0, 1] rfl) (hD.sub [2, 0, 1] (by decide) rfl) (c_keeps_4_2 l D cy h h0 h1 h2 h3 h4 h5 kr _ ) kwV_X0_keepsFrom kM_RX0_95 rfl rfl ⟨Nat.le_of_ble_eq_true rfl, Nat.le_of_ble_eq_true rfl⟩ rfl hl.1 rfl (Nat.le_of_ble_eq_true rfl) dX0_keepsFrom_136 ⟨Nat.le_of_ble_eq_true rfl, Nat.le_of_ble_eq_true rfl⟩) C.2.2.2.2.2.2.1 hP hD hS [2, 0, 1] [] rfl rfl (by decide) (by decide) (fun r_11 u_10 H locs hw_12 hP hD hS => ?_)
  have hP : va_P D vwCl [(h, .inr (0, [.int 0, .int 0, .int (-1), .ref h0, .ref h1, .ref h2, .ref h3, .ref h4, .int 0, .ref h5, .int 0, .int 0, .int 10, .int 1, .int 0, .int 4])), (h0, .inl (cy 1, 8, .inl u_10)), (h5, .inl (cy 1, 81, .inl (fun _ => 0)))] H := hP
  have hD : va_D A [(h, .inr (0, [.int 0, .int 0, .int (-1), .ref h0, .ref h1, .ref h2, .ref h3, .ref h4, .int 0, .ref h5, .int 0, .int 0, .int 10, .int 1, .int 0, .int 4])), (h0, .inl (cy 1, 8, .inl u_10)), (h5, .inl (cy 1, 81, .inl (fun _ => 0)))] := hD
  obtain rfl : r_11 = 1 := hw_12
  refine lv_if_eq (tgt := 155) hx hb dX0_keepsFrom_139 (by decide) (fun c_0 => absurd c_0 (by decide)) (fun _ => ?_)
  refine lv_aload_n hx hb dX0_keepsFrom_142 rfl (lv_at hl 4 rfl) ?_
  refine q_get (v := .ref h0) C hP 0 3 rfl rfl inX0 (by decide) kF_RX0_21 rfl rfl dX0_keepsFrom_143 ?_
  refine lv_iload_n hx hb dX0_keepsFrom_146 rfl (lv_at hl 5 rfl) ?_
  refine lv_aload_n hx hb dX0_keepsFrom_147 rfl (lv_at hl 4 rfl) ?_
  refine lv_iload_n hx hb dX0_keepsFrom_148 rfl (lv_at hl 3 rfl) ?_
  refine q_ai (wr := [(h0, .inl (cy 1, 8, .inl u_10)), (h5, .inl (cy 1, 81, .inl (fun _ => 0)))]) (r_V (q0 := 0) (As := [.int 0]) (rest := [.int 1, .ref h0]) (wc := [(h, .inr (0, [.int 0, .int 0, .int (-1), .ref h0, .ref h1, .ref h2, .ref h3, .ref h4, .int 0, .ref h5, .int 0, .int 0, .int 10, .int 1, .int 0, .int 4]))]) C (q_subP hP [0] rfl) (hD.sub [0] (by decide) rfl) (c_bookChosen l D cy h h0 h1 h2 h3 h4 h5 4 _ ) kwV_X0_bookChosen kM_RX0_110 rfl rfl ⟨Nat.le_of_ble_eq_true rfl, Nat.le_of_ble_eq_true rfl⟩ rfl hl.1 rfl (Nat.le_of_ble_eq_true rfl) dX0_keepsFrom_149 ⟨Nat.le_of_ble_eq_true rfl, Nat.le_of_ble_eq_true rfl⟩) C.2.2.2.2.2.2.1 hP hD hS [0] [1, 2] rfl rfl (by decide) (by decide) (fun r_14 u_13 H locs hw_15 hP hD hS => ?_)
  have hP : va_P D vwCl [(h0, .inl (cy 1, 8, .inl u_10)), (h5, .inl (cy 1, 81, .inl (fun _ => 0))), (h, .inr (0, [.int 0, .int 0, .int (-1), .ref h0, .ref h1, .ref h2, .ref h3, .ref h4, .int 0, .ref h5, .int 0, .int 0, .int 10, .int 1, .int 0, .int 4]))] H := hP
  have hD : va_D A [(h0, .inl (cy 1, 8, .inl u_10)), (h5, .inl (cy 1, 81, .inl (fun _ => 0))), (h, .inr (0, [.int 0, .int 0, .int (-1), .ref h0, .ref h1, .ref h2, .ref h3, .ref h4, .int 0, .ref h5, .int 0, .int 0, .int 10, .int 1, .int 0, .int 4]))] := hD
  obtain rfl : r_14 = (-1) := hw_15
  refine q_iast (g := upd u_10 1 (-1)) (w' := [(h0, .inl (cy 1, 8, .inl (upd u_10 1 (-1)))), (h5, .inl (cy 1, 81, .inl (fun _ => 0))), (h, .inr (0, [.int 0, .int 0, .int (-1), .ref h0, .ref h1, .ref h2, .ref h3, .ref h4, .int 0, .ref h5, .int 0, .int 0, .int 10, .int 1, .int 0, .int 4]))]) C hP hD hS 0 rfl (vin (by decide +kernel)) rfl rfl dX0_keepsFrom_152 (fun H locs hP hD hS => ?_)
  refine lv_iconst (v := 1) hx hb dX0_keepsFrom_153 (by decide) ?_
  exact q_iret (rm := (Rm 3 78 0 0)) C hS (upd u_10 1 (-1)) rfl rfl (q_subP hP [2, 0, 1] rfl) (hD.sub [2, 0, 1] (by decide) rfl) (Nat.le_of_ble_eq_true rfl) (Nat.le_of_ble_eq_true rfl) dX0_keepsFrom_154
set_option maxHeartbeats 4000000 in
set_option maxRecDepth 100000 in
theorem c_keeps_4_0 (l : Launch) (D : va_G) (cy : Nat → ClassId) (h : Nat) (h0 : Nat) (h1 : Nat) (h2 : Nat) (h3 : Nat) (h4 : Nat) (h5 : Nat) (kr : Nat → Int32) (sz : Nat)  : MI l yX0_keepsFrom cX0_keepsFrom 7 (some .boolean) (Rm 4 104 0 0) D cy [.ref h, .int 0, .int 0] sz [(h, .inr (0, [.int 0, .int 0, .int (-1), .ref h0, .ref h1, .ref h2, .ref h3, .ref h4, .int 0, .ref h5, .int 0, .int 0, .int 10, .int 1, .int 0, .int 4])), (h0, .inl (cy 1, 8, .inl kr)), (h5, .inl (cy 1, 81, .inl (fun _ => 0)))] (fun (r : Int32) (u : Nat → Int32) => r = 1) (fun u : Nat → Int32 => [(h, .inr (0, [.int 0, .int 0, .int (-1), .ref h0, .ref h1, .ref h2, .ref h3, .ref h4, .int 0, .ref h5, .int 0, .int 0, .int 10, .int 1, .int 0, .int 4])), (h0, .inl (cy 1, 8, .inl u)), (h5, .inl (cy 1, 81, .inl (fun _ => 0)))]) := by
  refine MI.enter (by decide) (Nat.le_of_ble_eq_true rfl) ?_
  intro p e s m below meth c ls A hsz hAe C hP hD hS hl
  have C : Cx p s m _ meth c cX0_keepsFrom 7 (some .boolean) RX0 "keepsFrom" D cy A := C
  have hx := C.1
  have hb := C.2.1
  have hl : lv_has ls 7 [(0, .ref h), (1, .int 0), (2, .int 0)] := hl
  refine lv_iload_n hx hb dX0_keepsFrom_0 rfl (lv_at hl 1 rfl) ?_
  refine lv_aload_n hx hb dX0_keepsFrom_1 rfl (lv_at hl 0 rfl) ?_
  refine q_get (v := .int 4) C hP 0 15 rfl rfl inX0 (by decide) kF_RX0_58 rfl rfl dX0_keepsFrom_2 ?_
  refine lv_icmp_lt (tgt := 10) hx hb dX0_keepsFrom_5 (by decide) (fun _ => ?_) (fun c_0 => absurd (by decide) c_0)
  refine lv_aload_n hx hb dX0_keepsFrom_10 rfl (lv_at hl 0 rfl) ?_
  refine lv_iload_n hx hb dX0_keepsFrom_11 rfl (lv_at hl 1 rfl) ?_
  refine q_ai (wr := [(h0, .inl (cy 1, 8, .inl kr)), (h5, .inl (cy 1, 81, .inl (fun _ => 0)))]) (r_V (q0 := 0) (As := [.int 0]) (rest := []) (wc := [(h, .inr (0, [.int 0, .int 0, .int (-1), .ref h0, .ref h1, .ref h2, .ref h3, .ref h4, .int 0, .ref h5, .int 0, .int 0, .int 10, .int 1, .int 0, .int 4]))]) C (q_subP hP [0] rfl) (hD.sub [0] (by decide) rfl) (c_askNeeded l D cy h 0 h0 h1 h2 h3 h4 h5 4 _ ) kwV_X0_askingsNeeded kM_RX0_98 rfl rfl ⟨Nat.le_of_ble_eq_true rfl, Nat.le_of_ble_eq_true rfl⟩ rfl hl.1 rfl (Nat.le_of_ble_eq_true rfl) dX0_keepsFrom_12 ⟨Nat.le_of_ble_eq_true rfl, Nat.le_of_ble_eq_true rfl⟩) C.2.2.2.2.2.2.1 hP hD hS [0] [1, 2] rfl rfl (by decide) (by decide) (fun r_2 u_1 H locs hw_3 hP hD hS => ?_)
  have hP : va_P D vwCl [(h0, .inl (cy 1, 8, .inl kr)), (h5, .inl (cy 1, 81, .inl (fun _ => 0))), (h, .inr (0, [.int 0, .int 0, .int (-1), .ref h0, .ref h1, .ref h2, .ref h3, .ref h4, .int 0, .ref h5, .int 0, .int 0, .int 10, .int 1, .int 0, .int 4]))] H := hP
  have hD : va_D A [(h0, .inl (cy 1, 8, .inl kr)), (h5, .inl (cy 1, 81, .inl (fun _ => 0))), (h, .inr (0, [.int 0, .int 0, .int (-1), .ref h0, .ref h1, .ref h2, .ref h3, .ref h4, .int 0, .ref h5, .int 0, .int 0, .int 10, .int 1, .int 0, .int 4]))] := hD
  obtain rfl : r_2 = 0 := hw_3
  refine lv_iload_n hx hb dX0_keepsFrom_15 rfl (lv_at hl 2 rfl) ?_
  refine lv_icmp_le (tgt := 21) hx hb dX0_keepsFrom_16 (by decide) (fun _ => ?_) (fun c_0 => absurd (by decide) c_0)
  refine lv_aload_n hx hb dX0_keepsFrom_21 rfl (lv_at hl 0 rfl) ?_
  refine lv_iload_n hx hb dX0_keepsFrom_22 rfl (lv_at hl 1 rfl) ?_
  refine q_av (wr := [(h0, .inl (cy 1, 8, .inl kr)), (h5, .inl (cy 1, 81, .inl (fun _ => 0)))]) (r_V (q0 := 0) (As := [.int 0]) (rest := []) (wc := [(h, .inr (0, [.int 0, .int 0, .int (-1), .ref h0, .ref h1, .ref h2, .ref h3, .ref h4, .int 0, .ref h5, .int 0, .int 0, .int 10, .int 1, .int 0, .int 4]))]) C (q_subP hP [2] rfl) (hD.sub [2] (by decide) rfl) (c_passDay l D cy h 0 h0 h1 h2 h3 h4 h5 4 _ ) kwV_X0_passDay kM_RX0_102 rfl rfl ⟨Nat.le_of_ble_eq_true rfl, Nat.le_of_ble_eq_true rfl⟩ rfl hl.1 rfl (Nat.le_of_ble_eq_true rfl) dX0_keepsFrom_23 ⟨Nat.le_of_ble_eq_true rfl, Nat.le_of_ble_eq_true rfl⟩) C.2.2.2.2.2.2.1 hP hD hS [2] [0, 1] rfl rfl (by decide) (by decide) (fun u_4 H locs hw_6 hP hD hS => ?_)
  have hP : va_P D vwCl [(h0, .inl (cy 1, 8, .inl kr)), (h5, .inl (cy 1, 81, .inl (fun _ => 0))), (h, .inr (0, [.int 0, .int 0, .int (-1), .ref h0, .ref h1, .ref h2, .ref h3, .ref h4, .int 0, .ref h5, .int 0, .int 0, .int 10, .int 1, .int 0, .int 4]))] H := hP
  have hD : va_D A [(h0, .inl (cy 1, 8, .inl kr)), (h5, .inl (cy 1, 81, .inl (fun _ => 0))), (h, .inr (0, [.int 0, .int 0, .int (-1), .ref h0, .ref h1, .ref h2, .ref h3, .ref h4, .int 0, .ref h5, .int 0, .int 0, .int 10, .int 1, .int 0, .int 4]))] := hD
  refine lv_iconst (v := 0) hx hb dX0_keepsFrom_26 (by decide) ?_
  refine lv_istore_n (lv' := [(3, .int 0), (0, .ref h), (1, .int 0), (2, .int 0)]) hx hb dX0_keepsFrom_27 rfl hl (by decide) rfl (fun ls hl => ?_)
  refine lv_iload_n hx hb dX0_keepsFrom_28 rfl (lv_at hl 0 rfl) ?_
  refine lv_aload_n hx hb dX0_keepsFrom_29 rfl (lv_at hl 1 rfl) ?_
  refine q_get (v := .int 0) C hP 2 10 rfl rfl inX0 (by decide) kF_RX0_43 rfl rfl dX0_keepsFrom_30 ?_
  refine lv_icmp_gt (tgt := 170) hx hb dX0_keepsFrom_33 (by decide) (fun c_0 => absurd c_0 (by decide)) (fun _ => ?_)
  refine lv_iload_n hx hb dX0_keepsFrom_36 rfl (lv_at hl 0 rfl) ?_
  refine lv_aload_n hx hb dX0_keepsFrom_37 rfl (lv_at hl 1 rfl) ?_
  refine q_get (v := .int 0) C hP 2 10 rfl rfl inX0 (by decide) kF_RX0_43 rfl rfl dX0_keepsFrom_38 ?_
  refine lv_icmp_ge (tgt := 48) hx hb dX0_keepsFrom_41 (by decide) (fun _ => ?_) (fun c_0 => absurd (by decide) c_0)
  refine lv_iconst (v := 0) hx hb dX0_keepsFrom_48 (by decide) ?_
  refine lv_istore (lv' := [(4, .int 0), (3, .int 0), (0, .ref h), (1, .int 0), (2, .int 0)]) hx hb dX0_keepsFrom_49 hl (by decide) rfl (fun ls hl => ?_)
  refine lv_iload hx hb dX0_keepsFrom_51 (lv_at hl 0 rfl) ?_
  refine lv_if_eq (tgt := 83) hx hb dX0_keepsFrom_53 (by decide) (fun _ => ?_) (fun c_0 => absurd (by decide) c_0)
  refine lv_iload_n hx hb dX0_keepsFrom_83 rfl (lv_at hl 3 rfl) ?_
  refine lv_iconst (v := 1) hx hb dX0_keepsFrom_84 (by decide) ?_
  refine lv_iadd hx hb dX0_keepsFrom_85 ?_
  refine q_val (v := 1) (by decide) ?_
  refine lv_bipush (v := 9) hx hb dX0_keepsFrom_86 (by decide) ?_
  refine lv_imul hx hb dX0_keepsFrom_88 ?_
  refine q_val (v := 9) (by decide) ?_
  refine lv_iload_n hx hb dX0_keepsFrom_89 rfl (lv_at hl 1 rfl) ?_
  refine lv_iadd hx hb dX0_keepsFrom_90 ?_
  refine q_val (v := 9) (by decide) ?_
  refine lv_istore (lv' := [(5, .int 9), (4, .int 0), (3, .int 0), (0, .ref h), (1, .int 0), (2, .int 0)]) hx hb dX0_keepsFrom_91 hl (by decide) rfl (fun ls hl => ?_)
  refine lv_aload_n hx hb dX0_keepsFrom_93 rfl (lv_at hl 3 rfl) ?_
  refine q_get (v := .ref h5) C hP 2 9 rfl rfl inX0 (by decide) kF_RX0_40 rfl rfl dX0_keepsFrom_94 ?_
  refine lv_iload hx hb dX0_keepsFrom_97 (lv_at hl 0 rfl) ?_
  refine q_iald (v := 0) C hP 1 rfl (vin (by decide +kernel)) rfl dX0_keepsFrom_99 ?_
  refine lv_istore (lv' := [(6, .int 0), (5, .int 9), (4, .int 0), (3, .int 0), (0, .ref h), (1, .int 0), (2, .int 0)]) hx hb dX0_keepsFrom_100 hl (by decide) rfl (fun ls hl => ?_)
  refine lv_aload_n hx hb dX0_keepsFrom_102 rfl (lv_at hl 4 rfl) ?_
  refine q_get (v := .ref h5) C hP 2 9 rfl rfl inX0 (by decide) kF_RX0_40 rfl rfl dX0_keepsFrom_103 ?_
  refine lv_iload hx hb dX0_keepsFrom_106 (lv_at hl 1 rfl) ?_
  refine lv_iconst (v := 0) hx hb dX0_keepsFrom_108 (by decide) ?_
  refine q_iast (g := fun _ => 0) (w' := [(h0, .inl (cy 1, 8, .inl kr)), (h5, .inl (cy 1, 81, .inl (fun _ => 0))), (h, .inr (0, [.int 0, .int 0, .int (-1), .ref h0, .ref h1, .ref h2, .ref h3, .ref h4, .int 0, .ref h5, .int 0, .int 0, .int 10, .int 1, .int 0, .int 4]))]) C hP hD hS 1 rfl (vin (by decide +kernel)) (updz _) rfl dX0_keepsFrom_109 (fun H locs hP hD hS => ?_)
  refine lv_aload_n hx hb dX0_keepsFrom_110 rfl (lv_at hl 4 rfl) ?_
  refine lv_iload_n hx hb dX0_keepsFrom_111 rfl (lv_at hl 5 rfl) ?_
  refine lv_iconst (v := 1) hx hb dX0_keepsFrom_112 (by decide) ?_
  refine lv_iadd hx hb dX0_keepsFrom_113 ?_
  refine q_val (v := 1) (by decide) ?_
  refine q_ai (wr := [(h0, .inl (cy 1, 8, .inl kr)), (h5, .inl (cy 1, 81, .inl (fun _ => 0)))]) (r_V (q0 := 0) (As := [.int 1]) (rest := []) (wc := [(h, .inr (0, [.int 0, .int 0, .int (-1), .ref h0, .ref h1, .ref h2, .ref h3, .ref h4, .int 0, .ref h5, .int 0, .int 0, .int 10, .int 1, .int 0, .int 4]))]) C (q_subP hP [2] rfl) (hD.sub [2] (by decide) rfl) (c_rareDoubt l D cy h 1 h0 h1 h2 h3 h4 h5 4 _ ) kwV_X0_areRareInDoubt kM_RX0_106 rfl rfl ⟨Nat.le_of_ble_eq_true rfl, Nat.le_of_ble_eq_true rfl⟩ rfl hl.1 rfl (Nat.le_of_ble_eq_true rfl) dX0_keepsFrom_114 ⟨Nat.le_of_ble_eq_true rfl, Nat.le_of_ble_eq_true rfl⟩) C.2.2.2.2.2.2.1 hP hD hS [2] [0, 1] rfl rfl (by decide) (by decide) (fun r_8 u_7 H locs hw_9 hP hD hS => ?_)
  have hP : va_P D vwCl [(h0, .inl (cy 1, 8, .inl kr)), (h5, .inl (cy 1, 81, .inl (fun _ => 0))), (h, .inr (0, [.int 0, .int 0, .int (-1), .ref h0, .ref h1, .ref h2, .ref h3, .ref h4, .int 0, .ref h5, .int 0, .int 0, .int 10, .int 1, .int 0, .int 4]))] H := hP
  have hD : va_D A [(h0, .inl (cy 1, 8, .inl kr)), (h5, .inl (cy 1, 81, .inl (fun _ => 0))), (h, .inr (0, [.int 0, .int 0, .int (-1), .ref h0, .ref h1, .ref h2, .ref h3, .ref h4, .int 0, .ref h5, .int 0, .int 0, .int 10, .int 1, .int 0, .int 4]))] := hD
  obtain rfl : r_8 = 1 := hw_9
  refine lv_if_eq (tgt := 155) hx hb dX0_keepsFrom_117 (by decide) (fun c_0 => absurd c_0 (by decide)) (fun _ => ?_)
  refine lv_aload_n hx hb dX0_keepsFrom_120 rfl (lv_at hl 4 rfl) ?_
  refine lv_iload_n hx hb dX0_keepsFrom_121 rfl (lv_at hl 5 rfl) ?_
  refine lv_iconst (v := 1) hx hb dX0_keepsFrom_122 (by decide) ?_
  refine lv_iadd hx hb dX0_keepsFrom_123 ?_
  refine q_val (v := 1) (by decide) ?_
  refine lv_iload hx hb dX0_keepsFrom_124 (lv_at hl 2 rfl) ?_
  refine lv_if_eq (tgt := 135) hx hb dX0_keepsFrom_126 (by decide) (fun _ => ?_) (fun c_0 => absurd (by decide) c_0)
  refine lv_iload_n hx hb dX0_keepsFrom_135 rfl (lv_at hl 6 rfl) ?_
  refine q_ai (wr := []) (r_V (q0 := 0) (As := [.int 1, .int 0]) (rest := []) (wc := [(h, .inr (0, [.int 0, .int 0, .int (-1), .ref h0, .ref h1, .ref h2, .ref h3, .ref h4, .int 0, .ref h5, .int 0, .int 0, .int 10, .int 1, .int 0, .int 4])), (h0, .inl (cy 1, 8, .inl kr)), (h5, .inl (cy 1, 81, .inl (fun _ => 0)))]) C (q_subP hP [2, 0, 1] rfl) (hD.sub [2, 0, 1] (by decide) rfl) (c_keeps_4_1 l D cy h h0 h1 h2 h3 h4 h5 kr _ ) kwV_X0_keepsFrom kM_RX0_95 rfl rfl ⟨Nat.le_of_ble_eq_true rfl, Nat.le_of_ble_eq_true rfl⟩ rfl hl.1 rfl (Nat.le_of_ble_eq_true rfl) dX0_keepsFrom_136 ⟨Nat.le_of_ble_eq_true rfl, Nat.le_of_ble_eq_true rfl⟩) C.2.2.2.2.2.2.1 hP hD hS [2, 0, 1] [] rfl rfl (by decide) (by decide) (fun r_11 u_10 H locs hw_12 hP hD hS => ?_)
  have hP : va_P D vwCl [(h, .inr (0, [.int 0, .int 0, .int (-1), .ref h0, .ref h1, .ref h2, .ref h3, .ref h4, .int 0, .ref h5, .int 0, .int 0, .int 10, .int 1, .int 0, .int 4])), (h0, .inl (cy 1, 8, .inl u_10)), (h5, .inl (cy 1, 81, .inl (fun _ => 0)))] H := hP
  have hD : va_D A [(h, .inr (0, [.int 0, .int 0, .int (-1), .ref h0, .ref h1, .ref h2, .ref h3, .ref h4, .int 0, .ref h5, .int 0, .int 0, .int 10, .int 1, .int 0, .int 4])), (h0, .inl (cy 1, 8, .inl u_10)), (h5, .inl (cy 1, 81, .inl (fun _ => 0)))] := hD
  obtain rfl : r_11 = 1 := hw_12
  refine lv_if_eq (tgt := 155) hx hb dX0_keepsFrom_139 (by decide) (fun c_0 => absurd c_0 (by decide)) (fun _ => ?_)
  refine lv_aload_n hx hb dX0_keepsFrom_142 rfl (lv_at hl 4 rfl) ?_
  refine q_get (v := .ref h0) C hP 0 3 rfl rfl inX0 (by decide) kF_RX0_21 rfl rfl dX0_keepsFrom_143 ?_
  refine lv_iload_n hx hb dX0_keepsFrom_146 rfl (lv_at hl 5 rfl) ?_
  refine lv_aload_n hx hb dX0_keepsFrom_147 rfl (lv_at hl 4 rfl) ?_
  refine lv_iload_n hx hb dX0_keepsFrom_148 rfl (lv_at hl 3 rfl) ?_
  refine q_ai (wr := [(h0, .inl (cy 1, 8, .inl u_10)), (h5, .inl (cy 1, 81, .inl (fun _ => 0)))]) (r_V (q0 := 0) (As := [.int 0]) (rest := [.int 0, .ref h0]) (wc := [(h, .inr (0, [.int 0, .int 0, .int (-1), .ref h0, .ref h1, .ref h2, .ref h3, .ref h4, .int 0, .ref h5, .int 0, .int 0, .int 10, .int 1, .int 0, .int 4]))]) C (q_subP hP [0] rfl) (hD.sub [0] (by decide) rfl) (c_bookChosen l D cy h h0 h1 h2 h3 h4 h5 4 _ ) kwV_X0_bookChosen kM_RX0_110 rfl rfl ⟨Nat.le_of_ble_eq_true rfl, Nat.le_of_ble_eq_true rfl⟩ rfl hl.1 rfl (Nat.le_of_ble_eq_true rfl) dX0_keepsFrom_149 ⟨Nat.le_of_ble_eq_true rfl, Nat.le_of_ble_eq_true rfl⟩) C.2.2.2.2.2.2.1 hP hD hS [0] [1, 2] rfl rfl (by decide) (by decide) (fun r_14 u_13 H locs hw_15 hP hD hS => ?_)
  have hP : va_P D vwCl [(h0, .inl (cy 1, 8, .inl u_10)), (h5, .inl (cy 1, 81, .inl (fun _ => 0))), (h, .inr (0, [.int 0, .int 0, .int (-1), .ref h0, .ref h1, .ref h2, .ref h3, .ref h4, .int 0, .ref h5, .int 0, .int 0, .int 10, .int 1, .int 0, .int 4]))] H := hP
  have hD : va_D A [(h0, .inl (cy 1, 8, .inl u_10)), (h5, .inl (cy 1, 81, .inl (fun _ => 0))), (h, .inr (0, [.int 0, .int 0, .int (-1), .ref h0, .ref h1, .ref h2, .ref h3, .ref h4, .int 0, .ref h5, .int 0, .int 0, .int 10, .int 1, .int 0, .int 4]))] := hD
  obtain rfl : r_14 = (-1) := hw_15
  refine q_iast (g := upd u_10 0 (-1)) (w' := [(h0, .inl (cy 1, 8, .inl (upd u_10 0 (-1)))), (h5, .inl (cy 1, 81, .inl (fun _ => 0))), (h, .inr (0, [.int 0, .int 0, .int (-1), .ref h0, .ref h1, .ref h2, .ref h3, .ref h4, .int 0, .ref h5, .int 0, .int 0, .int 10, .int 1, .int 0, .int 4]))]) C hP hD hS 0 rfl (vin (by decide +kernel)) rfl rfl dX0_keepsFrom_152 (fun H locs hP hD hS => ?_)
  refine lv_iconst (v := 1) hx hb dX0_keepsFrom_153 (by decide) ?_
  exact q_iret (rm := (Rm 4 104 0 0)) C hS (upd u_10 0 (-1)) rfl rfl (q_subP hP [2, 0, 1] rfl) (hD.sub [2, 0, 1] (by decide) rfl) (Nat.le_of_ble_eq_true rfl) (Nat.le_of_ble_eq_true rfl) dX0_keepsFrom_154
set_option maxHeartbeats 4000000 in
set_option maxRecDepth 100000 in
theorem c_fewest_4 (l : Launch) (D : va_G) (cy : Nat → ClassId) (h : Nat) (h0 : Nat) (h1 : Nat) (h2 : Nat) (h3 : Nat) (h4 : Nat) (h5 : Nat) (kr : Nat → Int32) (sz : Nat)  : MI l yX0_fewestAskings cX0_fewestAskings 2 (some .int) (Rm 5 130 0 0) D cy [.ref h] sz [(h, .inr (0, [.int 0, .int 0, .int (-1), .ref h0, .ref h1, .ref h2, .ref h3, .ref h4, .int 0, .ref h5, .int 0, .int 0, .int 10, .int 1, .int 0, .int 4])), (h0, .inl (cy 1, 8, .inl kr)), (h5, .inl (cy 1, 81, .inl (fun _ => 0)))] (fun (r : Int32) (u : Unit) => r = 0) (fun u : Unit => []) := by
  refine MI.enter (by decide) (Nat.le_of_ble_eq_true rfl) ?_
  intro p e s m below meth c ls A hsz hAe C hP hD hS hl
  have C : Cx p s m _ meth c cX0_fewestAskings 2 (some .int) RX0 "fewestAskings" D cy A := C
  have hx := C.1
  have hb := C.2.1
  have hl : lv_has ls 2 [(0, .ref h)] := hl
  refine lv_iconst (v := 0) hx hb dX0_fewestAskings_0 (by decide) ?_
  refine lv_istore_n (lv' := [(1, .int 0), (0, .ref h)]) hx hb dX0_fewestAskings_1 rfl hl (by decide) rfl (fun ls hl => ?_)
  refine lv_iload_n hx hb dX0_fewestAskings_2 rfl (lv_at hl 0 rfl) ?_
  refine lv_aload_n hx hb dX0_fewestAskings_3 rfl (lv_at hl 1 rfl) ?_
  refine q_get (v := .int 4) C hP 0 15 rfl rfl inX0 (by decide) kF_RX0_58 rfl rfl dX0_fewestAskings_4 ?_
  refine lv_icmp_gt (tgt := 35) hx hb dX0_fewestAskings_7 (by decide) (fun c_0 => absurd c_0 (by decide)) (fun _ => ?_)
  refine lv_aload_n hx hb dX0_fewestAskings_10 rfl (lv_at hl 1 rfl) ?_
  refine lv_iconst (v := 0) hx hb dX0_fewestAskings_11 (by decide) ?_
  refine lv_iload_n hx hb dX0_fewestAskings_12 rfl (lv_at hl 0 rfl) ?_
  refine q_ai (wr := []) (r_V (q0 := 0) (As := [.int 0, .int 0]) (rest := []) (wc := [(h, .inr (0, [.int 0, .int 0, .int (-1), .ref h0, .ref h1, .ref h2, .ref h3, .ref h4, .int 0, .ref h5, .int 0, .int 0, .int 10, .int 1, .int 0, .int 4])), (h0, .inl (cy 1, 8, .inl kr)), (h5, .inl (cy 1, 81, .inl (fun _ => 0)))]) C (q_subP hP [0, 1, 2] rfl) (hD.sub [0, 1, 2] (by decide) rfl) (c_keeps_4_0 l D cy h h0 h1 h2 h3 h4 h5 kr _ ) kwV_X0_keepsFrom kM_RX0_95 rfl rfl ⟨Nat.le_of_ble_eq_true rfl, Nat.le_of_ble_eq_true rfl⟩ rfl hl.1 rfl (Nat.le_of_ble_eq_true rfl) dX0_fewestAskings_13 ⟨Nat.le_of_ble_eq_true rfl, Nat.le_of_ble_eq_true rfl⟩) C.2.2.2.2.2.2.1 hP hD hS [0, 1, 2] [] rfl rfl (by decide) (by decide) (fun r_2 u_1 H locs hw_3 hP hD hS => ?_)
  have hP : va_P D vwCl [(h, .inr (0, [.int 0, .int 0, .int (-1), .ref h0, .ref h1, .ref h2, .ref h3, .ref h4, .int 0, .ref h5, .int 0, .int 0, .int 10, .int 1, .int 0, .int 4])), (h0, .inl (cy 1, 8, .inl u_1)), (h5, .inl (cy 1, 81, .inl (fun _ => 0)))] H := hP
  have hD : va_D A [(h, .inr (0, [.int 0, .int 0, .int (-1), .ref h0, .ref h1, .ref h2, .ref h3, .ref h4, .int 0, .ref h5, .int 0, .int 0, .int 10, .int 1, .int 0, .int 4])), (h0, .inl (cy 1, 8, .inl u_1)), (h5, .inl (cy 1, 81, .inl (fun _ => 0)))] := hD
  obtain rfl : r_2 = 1 := hw_3
  refine lv_if_eq (tgt := 29) hx hb dX0_fewestAskings_16 (by decide) (fun c_0 => absurd c_0 (by decide)) (fun _ => ?_)
  refine lv_aload_n hx hb dX0_fewestAskings_19 rfl (lv_at hl 1 rfl) ?_
  refine lv_aload_n hx hb dX0_fewestAskings_20 rfl (lv_at hl 1 rfl) ?_
  refine q_get (v := .int 4) C hP 0 15 rfl rfl inX0 (by decide) kF_RX0_58 rfl rfl dX0_fewestAskings_21 ?_
  refine q_put (v := .int 4) (w' := [(h, .inr (0, [.int 4, .int 0, .int (-1), .ref h0, .ref h1, .ref h2, .ref h3, .ref h4, .int 0, .ref h5, .int 0, .int 0, .int 10, .int 1, .int 0, .int 4])), (h0, .inl (cy 1, 8, .inl u_1)), (h5, .inl (cy 1, 81, .inl (fun _ => 0)))]) (ty := .int) C hP hD hS 0 0 rfl rfl inX0 tyX0 tyX0_ok nmX0 (by decide) kF_RX0_9 rfl rfl rfl rfl rfl (Nat.le_of_ble_eq_true rfl) rfl dX0_fewestAskings_24 (fun H locs hP hD hS => ?_)
  refine lv_iload_n hx hb dX0_fewestAskings_27 rfl (lv_at hl 0 rfl) ?_
  exact q_iret (rm := (Rm 5 130 0 0)) C hS () rfl rfl (q_subP hP [] rfl) (hD.sub [] (by decide) rfl) (Nat.le_of_ble_eq_true rfl) (Nat.le_of_ble_eq_true rfl) dX0_fewestAskings_28
set_option maxHeartbeats 4000000 in
set_option maxRecDepth 100000 in
theorem c_keeps_5_5 (l : Launch) (D : va_G) (cy : Nat → ClassId) (h : Nat) (h0 : Nat) (h1 : Nat) (h2 : Nat) (h3 : Nat) (h4 : Nat) (h5 : Nat) (kr : Nat → Int32) (sz : Nat)  : MI l yX0_keepsFrom cX0_keepsFrom 7 (some .boolean) (Rm 0 0 0 0) D cy [.ref h, .int 5, .int 0] sz [(h, .inr (0, [.int 0, .int 0, .int (-1), .ref h0, .ref h1, .ref h2, .ref h3, .ref h4, .int 0, .ref h5, .int 0, .int 0, .int 10, .int 1, .int 0, .int 5])), (h0, .inl (cy 1, 8, .inl kr)), (h5, .inl (cy 1, 81, .inl (fun _ => 0)))] (fun (r : Int32) (u : Nat → Int32) => r = 1) (fun u : Nat → Int32 => [(h, .inr (0, [.int 0, .int 0, .int (-1), .ref h0, .ref h1, .ref h2, .ref h3, .ref h4, .int 0, .ref h5, .int 0, .int 0, .int 10, .int 1, .int 0, .int 5])), (h0, .inl (cy 1, 8, .inl u)), (h5, .inl (cy 1, 81, .inl (fun _ => 0)))]) := by
  refine MI.enter (by decide) (Nat.le_of_ble_eq_true rfl) ?_
  intro p e s m below meth c ls A hsz hAe C hP hD hS hl
  have C : Cx p s m _ meth c cX0_keepsFrom 7 (some .boolean) RX0 "keepsFrom" D cy A := C
  have hx := C.1
  have hb := C.2.1
  have hl : lv_has ls 7 [(0, .ref h), (1, .int 5), (2, .int 0)] := hl
  refine lv_iload_n hx hb dX0_keepsFrom_0 rfl (lv_at hl 1 rfl) ?_
  refine lv_aload_n hx hb dX0_keepsFrom_1 rfl (lv_at hl 0 rfl) ?_
  refine q_get (v := .int 5) C hP 0 15 rfl rfl inX0 (by decide) kF_RX0_58 rfl rfl dX0_keepsFrom_2 ?_
  refine lv_icmp_lt (tgt := 10) hx hb dX0_keepsFrom_5 (by decide) (fun c_0 => absurd c_0 (by decide)) (fun _ => ?_)
  refine lv_iconst (v := 1) hx hb dX0_keepsFrom_8 (by decide) ?_
  exact q_iret (rm := (Rm 0 0 0 0)) C hS (kr) rfl rfl (q_subP hP [0, 1, 2] rfl) (hD.sub [0, 1, 2] (by decide) rfl) (Nat.le_of_ble_eq_true rfl) (Nat.le_of_ble_eq_true rfl) dX0_keepsFrom_9
set_option maxHeartbeats 4000000 in
set_option maxRecDepth 100000 in
theorem c_keeps_5_4 (l : Launch) (D : va_G) (cy : Nat → ClassId) (h : Nat) (h0 : Nat) (h1 : Nat) (h2 : Nat) (h3 : Nat) (h4 : Nat) (h5 : Nat) (kr : Nat → Int32) (sz : Nat)  : MI l yX0_keepsFrom cX0_keepsFrom 7 (some .boolean) (Rm 1 26 0 0) D cy [.ref h, .int 4, .int 0] sz [(h, .inr (0, [.int 0, .int 0, .int (-1), .ref h0, .ref h1, .ref h2, .ref h3, .ref h4, .int 0, .ref h5, .int 0, .int 0, .int 10, .int 1, .int 0, .int 5])), (h0, .inl (cy 1, 8, .inl kr)), (h5, .inl (cy 1, 81, .inl (fun _ => 0)))] (fun (r : Int32) (u : Nat → Int32) => r = 1) (fun u : Nat → Int32 => [(h, .inr (0, [.int 0, .int 0, .int (-1), .ref h0, .ref h1, .ref h2, .ref h3, .ref h4, .int 0, .ref h5, .int 0, .int 0, .int 10, .int 1, .int 0, .int 5])), (h0, .inl (cy 1, 8, .inl u)), (h5, .inl (cy 1, 81, .inl (fun _ => 0)))]) := by
  refine MI.enter (by decide) (Nat.le_of_ble_eq_true rfl) ?_
  intro p e s m below meth c ls A hsz hAe C hP hD hS hl
  have C : Cx p s m _ meth c cX0_keepsFrom 7 (some .boolean) RX0 "keepsFrom" D cy A := C
  have hx := C.1
  have hb := C.2.1
  have hl : lv_has ls 7 [(0, .ref h), (1, .int 4), (2, .int 0)] := hl
  refine lv_iload_n hx hb dX0_keepsFrom_0 rfl (lv_at hl 1 rfl) ?_
  refine lv_aload_n hx hb dX0_keepsFrom_1 rfl (lv_at hl 0 rfl) ?_
  refine q_get (v := .int 5) C hP 0 15 rfl rfl inX0 (by decide) kF_RX0_58 rfl rfl dX0_keepsFrom_2 ?_
  refine lv_icmp_lt (tgt := 10) hx hb dX0_keepsFrom_5 (by decide) (fun _ => ?_) (fun c_0 => absurd (by decide) c_0)
  refine lv_aload_n hx hb dX0_keepsFrom_10 rfl (lv_at hl 0 rfl) ?_
  refine lv_iload_n hx hb dX0_keepsFrom_11 rfl (lv_at hl 1 rfl) ?_
  refine q_ai (wr := [(h0, .inl (cy 1, 8, .inl kr)), (h5, .inl (cy 1, 81, .inl (fun _ => 0)))]) (r_V (q0 := 0) (As := [.int 4]) (rest := []) (wc := [(h, .inr (0, [.int 0, .int 0, .int (-1), .ref h0, .ref h1, .ref h2, .ref h3, .ref h4, .int 0, .ref h5, .int 0, .int 0, .int 10, .int 1, .int 0, .int 5]))]) C (q_subP hP [0] rfl) (hD.sub [0] (by decide) rfl) (c_askNeeded l D cy h 4 h0 h1 h2 h3 h4 h5 5 _ ) kwV_X0_askingsNeeded kM_RX0_98 rfl rfl ⟨Nat.le_of_ble_eq_true rfl, Nat.le_of_ble_eq_true rfl⟩ rfl hl.1 rfl (Nat.le_of_ble_eq_true rfl) dX0_keepsFrom_12 ⟨Nat.le_of_ble_eq_true rfl, Nat.le_of_ble_eq_true rfl⟩) C.2.2.2.2.2.2.1 hP hD hS [0] [1, 2] rfl rfl (by decide) (by decide) (fun r_2 u_1 H locs hw_3 hP hD hS => ?_)
  have hP : va_P D vwCl [(h0, .inl (cy 1, 8, .inl kr)), (h5, .inl (cy 1, 81, .inl (fun _ => 0))), (h, .inr (0, [.int 0, .int 0, .int (-1), .ref h0, .ref h1, .ref h2, .ref h3, .ref h4, .int 0, .ref h5, .int 0, .int 0, .int 10, .int 1, .int 0, .int 5]))] H := hP
  have hD : va_D A [(h0, .inl (cy 1, 8, .inl kr)), (h5, .inl (cy 1, 81, .inl (fun _ => 0))), (h, .inr (0, [.int 0, .int 0, .int (-1), .ref h0, .ref h1, .ref h2, .ref h3, .ref h4, .int 0, .ref h5, .int 0, .int 0, .int 10, .int 1, .int 0, .int 5]))] := hD
  obtain rfl : r_2 = 0 := hw_3
  refine lv_iload_n hx hb dX0_keepsFrom_15 rfl (lv_at hl 2 rfl) ?_
  refine lv_icmp_le (tgt := 21) hx hb dX0_keepsFrom_16 (by decide) (fun _ => ?_) (fun c_0 => absurd (by decide) c_0)
  refine lv_aload_n hx hb dX0_keepsFrom_21 rfl (lv_at hl 0 rfl) ?_
  refine lv_iload_n hx hb dX0_keepsFrom_22 rfl (lv_at hl 1 rfl) ?_
  refine q_av (wr := [(h0, .inl (cy 1, 8, .inl kr)), (h5, .inl (cy 1, 81, .inl (fun _ => 0)))]) (r_V (q0 := 0) (As := [.int 4]) (rest := []) (wc := [(h, .inr (0, [.int 0, .int 0, .int (-1), .ref h0, .ref h1, .ref h2, .ref h3, .ref h4, .int 0, .ref h5, .int 0, .int 0, .int 10, .int 1, .int 0, .int 5]))]) C (q_subP hP [2] rfl) (hD.sub [2] (by decide) rfl) (c_passDay l D cy h 4 h0 h1 h2 h3 h4 h5 5 _ ) kwV_X0_passDay kM_RX0_102 rfl rfl ⟨Nat.le_of_ble_eq_true rfl, Nat.le_of_ble_eq_true rfl⟩ rfl hl.1 rfl (Nat.le_of_ble_eq_true rfl) dX0_keepsFrom_23 ⟨Nat.le_of_ble_eq_true rfl, Nat.le_of_ble_eq_true rfl⟩) C.2.2.2.2.2.2.1 hP hD hS [2] [0, 1] rfl rfl (by decide) (by decide) (fun u_4 H locs hw_6 hP hD hS => ?_)
  have hP : va_P D vwCl [(h0, .inl (cy 1, 8, .inl kr)), (h5, .inl (cy 1, 81, .inl (fun _ => 0))), (h, .inr (0, [.int 0, .int 0, .int (-1), .ref h0, .ref h1, .ref h2, .ref h3, .ref h4, .int 0, .ref h5, .int 0, .int 0, .int 10, .int 1, .int 0, .int 5]))] H := hP
  have hD : va_D A [(h0, .inl (cy 1, 8, .inl kr)), (h5, .inl (cy 1, 81, .inl (fun _ => 0))), (h, .inr (0, [.int 0, .int 0, .int (-1), .ref h0, .ref h1, .ref h2, .ref h3, .ref h4, .int 0, .ref h5, .int 0, .int 0, .int 10, .int 1, .int 0, .int 5]))] := hD
  refine lv_iconst (v := 0) hx hb dX0_keepsFrom_26 (by decide) ?_
  refine lv_istore_n (lv' := [(3, .int 0), (0, .ref h), (1, .int 4), (2, .int 0)]) hx hb dX0_keepsFrom_27 rfl hl (by decide) rfl (fun ls hl => ?_)
  refine lv_iload_n hx hb dX0_keepsFrom_28 rfl (lv_at hl 0 rfl) ?_
  refine lv_aload_n hx hb dX0_keepsFrom_29 rfl (lv_at hl 1 rfl) ?_
  refine q_get (v := .int 0) C hP 2 10 rfl rfl inX0 (by decide) kF_RX0_43 rfl rfl dX0_keepsFrom_30 ?_
  refine lv_icmp_gt (tgt := 170) hx hb dX0_keepsFrom_33 (by decide) (fun c_0 => absurd c_0 (by decide)) (fun _ => ?_)
  refine lv_iload_n hx hb dX0_keepsFrom_36 rfl (lv_at hl 0 rfl) ?_
  refine lv_aload_n hx hb dX0_keepsFrom_37 rfl (lv_at hl 1 rfl) ?_
  refine q_get (v := .int 0) C hP 2 10 rfl rfl inX0 (by decide) kF_RX0_43 rfl rfl dX0_keepsFrom_38 ?_
  refine lv_icmp_ge (tgt := 48) hx hb dX0_keepsFrom_41 (by decide) (fun _ => ?_) (fun c_0 => absurd (by decide) c_0)
  refine lv_iconst (v := 0) hx hb dX0_keepsFrom_48 (by decide) ?_
  refine lv_istore (lv' := [(4, .int 0), (3, .int 0), (0, .ref h), (1, .int 4), (2, .int 0)]) hx hb dX0_keepsFrom_49 hl (by decide) rfl (fun ls hl => ?_)
  refine lv_iload hx hb dX0_keepsFrom_51 (lv_at hl 0 rfl) ?_
  refine lv_if_eq (tgt := 83) hx hb dX0_keepsFrom_53 (by decide) (fun _ => ?_) (fun c_0 => absurd (by decide) c_0)
  refine lv_iload_n hx hb dX0_keepsFrom_83 rfl (lv_at hl 3 rfl) ?_
  refine lv_iconst (v := 1) hx hb dX0_keepsFrom_84 (by decide) ?_
  refine lv_iadd hx hb dX0_keepsFrom_85 ?_
  refine q_val (v := 5) (by decide) ?_
  refine lv_bipush (v := 9) hx hb dX0_keepsFrom_86 (by decide) ?_
  refine lv_imul hx hb dX0_keepsFrom_88 ?_
  refine q_val (v := 45) (by decide) ?_
  refine lv_iload_n hx hb dX0_keepsFrom_89 rfl (lv_at hl 1 rfl) ?_
  refine lv_iadd hx hb dX0_keepsFrom_90 ?_
  refine q_val (v := 45) (by decide) ?_
  refine lv_istore (lv' := [(5, .int 45), (4, .int 0), (3, .int 0), (0, .ref h), (1, .int 4), (2, .int 0)]) hx hb dX0_keepsFrom_91 hl (by decide) rfl (fun ls hl => ?_)
  refine lv_aload_n hx hb dX0_keepsFrom_93 rfl (lv_at hl 3 rfl) ?_
  refine q_get (v := .ref h5) C hP 2 9 rfl rfl inX0 (by decide) kF_RX0_40 rfl rfl dX0_keepsFrom_94 ?_
  refine lv_iload hx hb dX0_keepsFrom_97 (lv_at hl 0 rfl) ?_
  refine q_iald (v := 0) C hP 1 rfl (vin (by decide +kernel)) rfl dX0_keepsFrom_99 ?_
  refine lv_istore (lv' := [(6, .int 0), (5, .int 45), (4, .int 0), (3, .int 0), (0, .ref h), (1, .int 4), (2, .int 0)]) hx hb dX0_keepsFrom_100 hl (by decide) rfl (fun ls hl => ?_)
  refine lv_aload_n hx hb dX0_keepsFrom_102 rfl (lv_at hl 4 rfl) ?_
  refine q_get (v := .ref h5) C hP 2 9 rfl rfl inX0 (by decide) kF_RX0_40 rfl rfl dX0_keepsFrom_103 ?_
  refine lv_iload hx hb dX0_keepsFrom_106 (lv_at hl 1 rfl) ?_
  refine lv_iconst (v := 0) hx hb dX0_keepsFrom_108 (by decide) ?_
  refine q_iast (g := fun _ => 0) (w' := [(h0, .inl (cy 1, 8, .inl kr)), (h5, .inl (cy 1, 81, .inl (fun _ => 0))), (h, .inr (0, [.int 0, .int 0, .int (-1), .ref h0, .ref h1, .ref h2, .ref h3, .ref h4, .int 0, .ref h5, .int 0, .int 0, .int 10, .int 1, .int 0, .int 5]))]) C hP hD hS 1 rfl (vin (by decide +kernel)) (updz _) rfl dX0_keepsFrom_109 (fun H locs hP hD hS => ?_)
  refine lv_aload_n hx hb dX0_keepsFrom_110 rfl (lv_at hl 4 rfl) ?_
  refine lv_iload_n hx hb dX0_keepsFrom_111 rfl (lv_at hl 5 rfl) ?_
  refine lv_iconst (v := 1) hx hb dX0_keepsFrom_112 (by decide) ?_
  refine lv_iadd hx hb dX0_keepsFrom_113 ?_
  refine q_val (v := 5) (by decide) ?_
  refine q_ai (wr := [(h0, .inl (cy 1, 8, .inl kr)), (h5, .inl (cy 1, 81, .inl (fun _ => 0)))]) (r_V (q0 := 0) (As := [.int 5]) (rest := []) (wc := [(h, .inr (0, [.int 0, .int 0, .int (-1), .ref h0, .ref h1, .ref h2, .ref h3, .ref h4, .int 0, .ref h5, .int 0, .int 0, .int 10, .int 1, .int 0, .int 5]))]) C (q_subP hP [2] rfl) (hD.sub [2] (by decide) rfl) (c_rareDoubt l D cy h 5 h0 h1 h2 h3 h4 h5 5 _ ) kwV_X0_areRareInDoubt kM_RX0_106 rfl rfl ⟨Nat.le_of_ble_eq_true rfl, Nat.le_of_ble_eq_true rfl⟩ rfl hl.1 rfl (Nat.le_of_ble_eq_true rfl) dX0_keepsFrom_114 ⟨Nat.le_of_ble_eq_true rfl, Nat.le_of_ble_eq_true rfl⟩) C.2.2.2.2.2.2.1 hP hD hS [2] [0, 1] rfl rfl (by decide) (by decide) (fun r_8 u_7 H locs hw_9 hP hD hS => ?_)
  have hP : va_P D vwCl [(h0, .inl (cy 1, 8, .inl kr)), (h5, .inl (cy 1, 81, .inl (fun _ => 0))), (h, .inr (0, [.int 0, .int 0, .int (-1), .ref h0, .ref h1, .ref h2, .ref h3, .ref h4, .int 0, .ref h5, .int 0, .int 0, .int 10, .int 1, .int 0, .int 5]))] H := hP
  have hD : va_D A [(h0, .inl (cy 1, 8, .inl kr)), (h5, .inl (cy 1, 81, .inl (fun _ => 0))), (h, .inr (0, [.int 0, .int 0, .int (-1), .ref h0, .ref h1, .ref h2, .ref h3, .ref h4, .int 0, .ref h5, .int 0, .int 0, .int 10, .int 1, .int 0, .int 5]))] := hD
  obtain rfl : r_8 = 1 := hw_9
  refine lv_if_eq (tgt := 155) hx hb dX0_keepsFrom_117 (by decide) (fun c_0 => absurd c_0 (by decide)) (fun _ => ?_)
  refine lv_aload_n hx hb dX0_keepsFrom_120 rfl (lv_at hl 4 rfl) ?_
  refine lv_iload_n hx hb dX0_keepsFrom_121 rfl (lv_at hl 5 rfl) ?_
  refine lv_iconst (v := 1) hx hb dX0_keepsFrom_122 (by decide) ?_
  refine lv_iadd hx hb dX0_keepsFrom_123 ?_
  refine q_val (v := 5) (by decide) ?_
  refine lv_iload hx hb dX0_keepsFrom_124 (lv_at hl 2 rfl) ?_
  refine lv_if_eq (tgt := 135) hx hb dX0_keepsFrom_126 (by decide) (fun _ => ?_) (fun c_0 => absurd (by decide) c_0)
  refine lv_iload_n hx hb dX0_keepsFrom_135 rfl (lv_at hl 6 rfl) ?_
  refine q_ai (wr := []) (r_V (q0 := 0) (As := [.int 5, .int 0]) (rest := []) (wc := [(h, .inr (0, [.int 0, .int 0, .int (-1), .ref h0, .ref h1, .ref h2, .ref h3, .ref h4, .int 0, .ref h5, .int 0, .int 0, .int 10, .int 1, .int 0, .int 5])), (h0, .inl (cy 1, 8, .inl kr)), (h5, .inl (cy 1, 81, .inl (fun _ => 0)))]) C (q_subP hP [2, 0, 1] rfl) (hD.sub [2, 0, 1] (by decide) rfl) (c_keeps_5_5 l D cy h h0 h1 h2 h3 h4 h5 kr _ ) kwV_X0_keepsFrom kM_RX0_95 rfl rfl ⟨Nat.le_of_ble_eq_true rfl, Nat.le_of_ble_eq_true rfl⟩ rfl hl.1 rfl (Nat.le_of_ble_eq_true rfl) dX0_keepsFrom_136 ⟨Nat.le_of_ble_eq_true rfl, Nat.le_of_ble_eq_true rfl⟩) C.2.2.2.2.2.2.1 hP hD hS [2, 0, 1] [] rfl rfl (by decide) (by decide) (fun r_11 u_10 H locs hw_12 hP hD hS => ?_)
  have hP : va_P D vwCl [(h, .inr (0, [.int 0, .int 0, .int (-1), .ref h0, .ref h1, .ref h2, .ref h3, .ref h4, .int 0, .ref h5, .int 0, .int 0, .int 10, .int 1, .int 0, .int 5])), (h0, .inl (cy 1, 8, .inl u_10)), (h5, .inl (cy 1, 81, .inl (fun _ => 0)))] H := hP
  have hD : va_D A [(h, .inr (0, [.int 0, .int 0, .int (-1), .ref h0, .ref h1, .ref h2, .ref h3, .ref h4, .int 0, .ref h5, .int 0, .int 0, .int 10, .int 1, .int 0, .int 5])), (h0, .inl (cy 1, 8, .inl u_10)), (h5, .inl (cy 1, 81, .inl (fun _ => 0)))] := hD
  obtain rfl : r_11 = 1 := hw_12
  refine lv_if_eq (tgt := 155) hx hb dX0_keepsFrom_139 (by decide) (fun c_0 => absurd c_0 (by decide)) (fun _ => ?_)
  refine lv_aload_n hx hb dX0_keepsFrom_142 rfl (lv_at hl 4 rfl) ?_
  refine q_get (v := .ref h0) C hP 0 3 rfl rfl inX0 (by decide) kF_RX0_21 rfl rfl dX0_keepsFrom_143 ?_
  refine lv_iload_n hx hb dX0_keepsFrom_146 rfl (lv_at hl 5 rfl) ?_
  refine lv_aload_n hx hb dX0_keepsFrom_147 rfl (lv_at hl 4 rfl) ?_
  refine lv_iload_n hx hb dX0_keepsFrom_148 rfl (lv_at hl 3 rfl) ?_
  refine q_ai (wr := [(h0, .inl (cy 1, 8, .inl u_10)), (h5, .inl (cy 1, 81, .inl (fun _ => 0)))]) (r_V (q0 := 0) (As := [.int 0]) (rest := [.int 4, .ref h0]) (wc := [(h, .inr (0, [.int 0, .int 0, .int (-1), .ref h0, .ref h1, .ref h2, .ref h3, .ref h4, .int 0, .ref h5, .int 0, .int 0, .int 10, .int 1, .int 0, .int 5]))]) C (q_subP hP [0] rfl) (hD.sub [0] (by decide) rfl) (c_bookChosen l D cy h h0 h1 h2 h3 h4 h5 5 _ ) kwV_X0_bookChosen kM_RX0_110 rfl rfl ⟨Nat.le_of_ble_eq_true rfl, Nat.le_of_ble_eq_true rfl⟩ rfl hl.1 rfl (Nat.le_of_ble_eq_true rfl) dX0_keepsFrom_149 ⟨Nat.le_of_ble_eq_true rfl, Nat.le_of_ble_eq_true rfl⟩) C.2.2.2.2.2.2.1 hP hD hS [0] [1, 2] rfl rfl (by decide) (by decide) (fun r_14 u_13 H locs hw_15 hP hD hS => ?_)
  have hP : va_P D vwCl [(h0, .inl (cy 1, 8, .inl u_10)), (h5, .inl (cy 1, 81, .inl (fun _ => 0))), (h, .inr (0, [.int 0, .int 0, .int (-1), .ref h0, .ref h1, .ref h2, .ref h3, .ref h4, .int 0, .ref h5, .int 0, .int 0, .int 10, .int 1, .int 0, .int 5]))] H := hP
  have hD : va_D A [(h0, .inl (cy 1, 8, .inl u_10)), (h5, .inl (cy 1, 81, .inl (fun _ => 0))), (h, .inr (0, [.int 0, .int 0, .int (-1), .ref h0, .ref h1, .ref h2, .ref h3, .ref h4, .int 0, .ref h5, .int 0, .int 0, .int 10, .int 1, .int 0, .int 5]))] := hD
  obtain rfl : r_14 = (-1) := hw_15
  refine q_iast (g := upd u_10 4 (-1)) (w' := [(h0, .inl (cy 1, 8, .inl (upd u_10 4 (-1)))), (h5, .inl (cy 1, 81, .inl (fun _ => 0))), (h, .inr (0, [.int 0, .int 0, .int (-1), .ref h0, .ref h1, .ref h2, .ref h3, .ref h4, .int 0, .ref h5, .int 0, .int 0, .int 10, .int 1, .int 0, .int 5]))]) C hP hD hS 0 rfl (vin (by decide +kernel)) rfl rfl dX0_keepsFrom_152 (fun H locs hP hD hS => ?_)
  refine lv_iconst (v := 1) hx hb dX0_keepsFrom_153 (by decide) ?_
  exact q_iret (rm := (Rm 1 26 0 0)) C hS (upd u_10 4 (-1)) rfl rfl (q_subP hP [2, 0, 1] rfl) (hD.sub [2, 0, 1] (by decide) rfl) (Nat.le_of_ble_eq_true rfl) (Nat.le_of_ble_eq_true rfl) dX0_keepsFrom_154
set_option maxHeartbeats 4000000 in
set_option maxRecDepth 100000 in
theorem c_keeps_5_3 (l : Launch) (D : va_G) (cy : Nat → ClassId) (h : Nat) (h0 : Nat) (h1 : Nat) (h2 : Nat) (h3 : Nat) (h4 : Nat) (h5 : Nat) (kr : Nat → Int32) (sz : Nat)  : MI l yX0_keepsFrom cX0_keepsFrom 7 (some .boolean) (Rm 2 52 0 0) D cy [.ref h, .int 3, .int 0] sz [(h, .inr (0, [.int 0, .int 0, .int (-1), .ref h0, .ref h1, .ref h2, .ref h3, .ref h4, .int 0, .ref h5, .int 0, .int 0, .int 10, .int 1, .int 0, .int 5])), (h0, .inl (cy 1, 8, .inl kr)), (h5, .inl (cy 1, 81, .inl (fun _ => 0)))] (fun (r : Int32) (u : Nat → Int32) => r = 1) (fun u : Nat → Int32 => [(h, .inr (0, [.int 0, .int 0, .int (-1), .ref h0, .ref h1, .ref h2, .ref h3, .ref h4, .int 0, .ref h5, .int 0, .int 0, .int 10, .int 1, .int 0, .int 5])), (h0, .inl (cy 1, 8, .inl u)), (h5, .inl (cy 1, 81, .inl (fun _ => 0)))]) := by
  refine MI.enter (by decide) (Nat.le_of_ble_eq_true rfl) ?_
  intro p e s m below meth c ls A hsz hAe C hP hD hS hl
  have C : Cx p s m _ meth c cX0_keepsFrom 7 (some .boolean) RX0 "keepsFrom" D cy A := C
  have hx := C.1
  have hb := C.2.1
  have hl : lv_has ls 7 [(0, .ref h), (1, .int 3), (2, .int 0)] := hl
  refine lv_iload_n hx hb dX0_keepsFrom_0 rfl (lv_at hl 1 rfl) ?_
  refine lv_aload_n hx hb dX0_keepsFrom_1 rfl (lv_at hl 0 rfl) ?_
  refine q_get (v := .int 5) C hP 0 15 rfl rfl inX0 (by decide) kF_RX0_58 rfl rfl dX0_keepsFrom_2 ?_
  refine lv_icmp_lt (tgt := 10) hx hb dX0_keepsFrom_5 (by decide) (fun _ => ?_) (fun c_0 => absurd (by decide) c_0)
  refine lv_aload_n hx hb dX0_keepsFrom_10 rfl (lv_at hl 0 rfl) ?_
  refine lv_iload_n hx hb dX0_keepsFrom_11 rfl (lv_at hl 1 rfl) ?_
  refine q_ai (wr := [(h0, .inl (cy 1, 8, .inl kr)), (h5, .inl (cy 1, 81, .inl (fun _ => 0)))]) (r_V (q0 := 0) (As := [.int 3]) (rest := []) (wc := [(h, .inr (0, [.int 0, .int 0, .int (-1), .ref h0, .ref h1, .ref h2, .ref h3, .ref h4, .int 0, .ref h5, .int 0, .int 0, .int 10, .int 1, .int 0, .int 5]))]) C (q_subP hP [0] rfl) (hD.sub [0] (by decide) rfl) (c_askNeeded l D cy h 3 h0 h1 h2 h3 h4 h5 5 _ ) kwV_X0_askingsNeeded kM_RX0_98 rfl rfl ⟨Nat.le_of_ble_eq_true rfl, Nat.le_of_ble_eq_true rfl⟩ rfl hl.1 rfl (Nat.le_of_ble_eq_true rfl) dX0_keepsFrom_12 ⟨Nat.le_of_ble_eq_true rfl, Nat.le_of_ble_eq_true rfl⟩) C.2.2.2.2.2.2.1 hP hD hS [0] [1, 2] rfl rfl (by decide) (by decide) (fun r_2 u_1 H locs hw_3 hP hD hS => ?_)
  have hP : va_P D vwCl [(h0, .inl (cy 1, 8, .inl kr)), (h5, .inl (cy 1, 81, .inl (fun _ => 0))), (h, .inr (0, [.int 0, .int 0, .int (-1), .ref h0, .ref h1, .ref h2, .ref h3, .ref h4, .int 0, .ref h5, .int 0, .int 0, .int 10, .int 1, .int 0, .int 5]))] H := hP
  have hD : va_D A [(h0, .inl (cy 1, 8, .inl kr)), (h5, .inl (cy 1, 81, .inl (fun _ => 0))), (h, .inr (0, [.int 0, .int 0, .int (-1), .ref h0, .ref h1, .ref h2, .ref h3, .ref h4, .int 0, .ref h5, .int 0, .int 0, .int 10, .int 1, .int 0, .int 5]))] := hD
  obtain rfl : r_2 = 0 := hw_3
  refine lv_iload_n hx hb dX0_keepsFrom_15 rfl (lv_at hl 2 rfl) ?_
  refine lv_icmp_le (tgt := 21) hx hb dX0_keepsFrom_16 (by decide) (fun _ => ?_) (fun c_0 => absurd (by decide) c_0)
  refine lv_aload_n hx hb dX0_keepsFrom_21 rfl (lv_at hl 0 rfl) ?_
  refine lv_iload_n hx hb dX0_keepsFrom_22 rfl (lv_at hl 1 rfl) ?_
  refine q_av (wr := [(h0, .inl (cy 1, 8, .inl kr)), (h5, .inl (cy 1, 81, .inl (fun _ => 0)))]) (r_V (q0 := 0) (As := [.int 3]) (rest := []) (wc := [(h, .inr (0, [.int 0, .int 0, .int (-1), .ref h0, .ref h1, .ref h2, .ref h3, .ref h4, .int 0, .ref h5, .int 0, .int 0, .int 10, .int 1, .int 0, .int 5]))]) C (q_subP hP [2] rfl) (hD.sub [2] (by decide) rfl) (c_passDay l D cy h 3 h0 h1 h2 h3 h4 h5 5 _ ) kwV_X0_passDay kM_RX0_102 rfl rfl ⟨Nat.le_of_ble_eq_true rfl, Nat.le_of_ble_eq_true rfl⟩ rfl hl.1 rfl (Nat.le_of_ble_eq_true rfl) dX0_keepsFrom_23 ⟨Nat.le_of_ble_eq_true rfl, Nat.le_of_ble_eq_true rfl⟩) C.2.2.2.2.2.2.1 hP hD hS [2] [0, 1] rfl rfl (by decide) (by decide) (fun u_4 H locs hw_6 hP hD hS => ?_)
  have hP : va_P D vwCl [(h0, .inl (cy 1, 8, .inl kr)), (h5, .inl (cy 1, 81, .inl (fun _ => 0))), (h, .inr (0, [.int 0, .int 0, .int (-1), .ref h0, .ref h1, .ref h2, .ref h3, .ref h4, .int 0, .ref h5, .int 0, .int 0, .int 10, .int 1, .int 0, .int 5]))] H := hP
  have hD : va_D A [(h0, .inl (cy 1, 8, .inl kr)), (h5, .inl (cy 1, 81, .inl (fun _ => 0))), (h, .inr (0, [.int 0, .int 0, .int (-1), .ref h0, .ref h1, .ref h2, .ref h3, .ref h4, .int 0, .ref h5, .int 0, .int 0, .int 10, .int 1, .int 0, .int 5]))] := hD
  refine lv_iconst (v := 0) hx hb dX0_keepsFrom_26 (by decide) ?_
  refine lv_istore_n (lv' := [(3, .int 0), (0, .ref h), (1, .int 3), (2, .int 0)]) hx hb dX0_keepsFrom_27 rfl hl (by decide) rfl (fun ls hl => ?_)
  refine lv_iload_n hx hb dX0_keepsFrom_28 rfl (lv_at hl 0 rfl) ?_
  refine lv_aload_n hx hb dX0_keepsFrom_29 rfl (lv_at hl 1 rfl) ?_
  refine q_get (v := .int 0) C hP 2 10 rfl rfl inX0 (by decide) kF_RX0_43 rfl rfl dX0_keepsFrom_30 ?_
  refine lv_icmp_gt (tgt := 170) hx hb dX0_keepsFrom_33 (by decide) (fun c_0 => absurd c_0 (by decide)) (fun _ => ?_)
  refine lv_iload_n hx hb dX0_keepsFrom_36 rfl (lv_at hl 0 rfl) ?_
  refine lv_aload_n hx hb dX0_keepsFrom_37 rfl (lv_at hl 1 rfl) ?_
  refine q_get (v := .int 0) C hP 2 10 rfl rfl inX0 (by decide) kF_RX0_43 rfl rfl dX0_keepsFrom_38 ?_
  refine lv_icmp_ge (tgt := 48) hx hb dX0_keepsFrom_41 (by decide) (fun _ => ?_) (fun c_0 => absurd (by decide) c_0)
  refine lv_iconst (v := 0) hx hb dX0_keepsFrom_48 (by decide) ?_
  refine lv_istore (lv' := [(4, .int 0), (3, .int 0), (0, .ref h), (1, .int 3), (2, .int 0)]) hx hb dX0_keepsFrom_49 hl (by decide) rfl (fun ls hl => ?_)
  refine lv_iload hx hb dX0_keepsFrom_51 (lv_at hl 0 rfl) ?_
  refine lv_if_eq (tgt := 83) hx hb dX0_keepsFrom_53 (by decide) (fun _ => ?_) (fun c_0 => absurd (by decide) c_0)
  refine lv_iload_n hx hb dX0_keepsFrom_83 rfl (lv_at hl 3 rfl) ?_
  refine lv_iconst (v := 1) hx hb dX0_keepsFrom_84 (by decide) ?_
  refine lv_iadd hx hb dX0_keepsFrom_85 ?_
  refine q_val (v := 4) (by decide) ?_
  refine lv_bipush (v := 9) hx hb dX0_keepsFrom_86 (by decide) ?_
  refine lv_imul hx hb dX0_keepsFrom_88 ?_
  refine q_val (v := 36) (by decide) ?_
  refine lv_iload_n hx hb dX0_keepsFrom_89 rfl (lv_at hl 1 rfl) ?_
  refine lv_iadd hx hb dX0_keepsFrom_90 ?_
  refine q_val (v := 36) (by decide) ?_
  refine lv_istore (lv' := [(5, .int 36), (4, .int 0), (3, .int 0), (0, .ref h), (1, .int 3), (2, .int 0)]) hx hb dX0_keepsFrom_91 hl (by decide) rfl (fun ls hl => ?_)
  refine lv_aload_n hx hb dX0_keepsFrom_93 rfl (lv_at hl 3 rfl) ?_
  refine q_get (v := .ref h5) C hP 2 9 rfl rfl inX0 (by decide) kF_RX0_40 rfl rfl dX0_keepsFrom_94 ?_
  refine lv_iload hx hb dX0_keepsFrom_97 (lv_at hl 0 rfl) ?_
  refine q_iald (v := 0) C hP 1 rfl (vin (by decide +kernel)) rfl dX0_keepsFrom_99 ?_
  refine lv_istore (lv' := [(6, .int 0), (5, .int 36), (4, .int 0), (3, .int 0), (0, .ref h), (1, .int 3), (2, .int 0)]) hx hb dX0_keepsFrom_100 hl (by decide) rfl (fun ls hl => ?_)
  refine lv_aload_n hx hb dX0_keepsFrom_102 rfl (lv_at hl 4 rfl) ?_
  refine q_get (v := .ref h5) C hP 2 9 rfl rfl inX0 (by decide) kF_RX0_40 rfl rfl dX0_keepsFrom_103 ?_
  refine lv_iload hx hb dX0_keepsFrom_106 (lv_at hl 1 rfl) ?_
  refine lv_iconst (v := 0) hx hb dX0_keepsFrom_108 (by decide) ?_
  refine q_iast (g := fun _ => 0) (w' := [(h0, .inl (cy 1, 8, .inl kr)), (h5, .inl (cy 1, 81, .inl (fun _ => 0))), (h, .inr (0, [.int 0, .int 0, .int (-1), .ref h0, .ref h1, .ref h2, .ref h3, .ref h4, .int 0, .ref h5, .int 0, .int 0, .int 10, .int 1, .int 0, .int 5]))]) C hP hD hS 1 rfl (vin (by decide +kernel)) (updz _) rfl dX0_keepsFrom_109 (fun H locs hP hD hS => ?_)
  refine lv_aload_n hx hb dX0_keepsFrom_110 rfl (lv_at hl 4 rfl) ?_
  refine lv_iload_n hx hb dX0_keepsFrom_111 rfl (lv_at hl 5 rfl) ?_
  refine lv_iconst (v := 1) hx hb dX0_keepsFrom_112 (by decide) ?_
  refine lv_iadd hx hb dX0_keepsFrom_113 ?_
  refine q_val (v := 4) (by decide) ?_
  refine q_ai (wr := [(h0, .inl (cy 1, 8, .inl kr)), (h5, .inl (cy 1, 81, .inl (fun _ => 0)))]) (r_V (q0 := 0) (As := [.int 4]) (rest := []) (wc := [(h, .inr (0, [.int 0, .int 0, .int (-1), .ref h0, .ref h1, .ref h2, .ref h3, .ref h4, .int 0, .ref h5, .int 0, .int 0, .int 10, .int 1, .int 0, .int 5]))]) C (q_subP hP [2] rfl) (hD.sub [2] (by decide) rfl) (c_rareDoubt l D cy h 4 h0 h1 h2 h3 h4 h5 5 _ ) kwV_X0_areRareInDoubt kM_RX0_106 rfl rfl ⟨Nat.le_of_ble_eq_true rfl, Nat.le_of_ble_eq_true rfl⟩ rfl hl.1 rfl (Nat.le_of_ble_eq_true rfl) dX0_keepsFrom_114 ⟨Nat.le_of_ble_eq_true rfl, Nat.le_of_ble_eq_true rfl⟩) C.2.2.2.2.2.2.1 hP hD hS [2] [0, 1] rfl rfl (by decide) (by decide) (fun r_8 u_7 H locs hw_9 hP hD hS => ?_)
  have hP : va_P D vwCl [(h0, .inl (cy 1, 8, .inl kr)), (h5, .inl (cy 1, 81, .inl (fun _ => 0))), (h, .inr (0, [.int 0, .int 0, .int (-1), .ref h0, .ref h1, .ref h2, .ref h3, .ref h4, .int 0, .ref h5, .int 0, .int 0, .int 10, .int 1, .int 0, .int 5]))] H := hP
  have hD : va_D A [(h0, .inl (cy 1, 8, .inl kr)), (h5, .inl (cy 1, 81, .inl (fun _ => 0))), (h, .inr (0, [.int 0, .int 0, .int (-1), .ref h0, .ref h1, .ref h2, .ref h3, .ref h4, .int 0, .ref h5, .int 0, .int 0, .int 10, .int 1, .int 0, .int 5]))] := hD
  obtain rfl : r_8 = 1 := hw_9
  refine lv_if_eq (tgt := 155) hx hb dX0_keepsFrom_117 (by decide) (fun c_0 => absurd c_0 (by decide)) (fun _ => ?_)
  refine lv_aload_n hx hb dX0_keepsFrom_120 rfl (lv_at hl 4 rfl) ?_
  refine lv_iload_n hx hb dX0_keepsFrom_121 rfl (lv_at hl 5 rfl) ?_
  refine lv_iconst (v := 1) hx hb dX0_keepsFrom_122 (by decide) ?_
  refine lv_iadd hx hb dX0_keepsFrom_123 ?_
  refine q_val (v := 4) (by decide) ?_
  refine lv_iload hx hb dX0_keepsFrom_124 (lv_at hl 2 rfl) ?_
  refine lv_if_eq (tgt := 135) hx hb dX0_keepsFrom_126 (by decide) (fun _ => ?_) (fun c_0 => absurd (by decide) c_0)
  refine lv_iload_n hx hb dX0_keepsFrom_135 rfl (lv_at hl 6 rfl) ?_
  refine q_ai (wr := []) (r_V (q0 := 0) (As := [.int 4, .int 0]) (rest := []) (wc := [(h, .inr (0, [.int 0, .int 0, .int (-1), .ref h0, .ref h1, .ref h2, .ref h3, .ref h4, .int 0, .ref h5, .int 0, .int 0, .int 10, .int 1, .int 0, .int 5])), (h0, .inl (cy 1, 8, .inl kr)), (h5, .inl (cy 1, 81, .inl (fun _ => 0)))]) C (q_subP hP [2, 0, 1] rfl) (hD.sub [2, 0, 1] (by decide) rfl) (c_keeps_5_4 l D cy h h0 h1 h2 h3 h4 h5 kr _ ) kwV_X0_keepsFrom kM_RX0_95 rfl rfl ⟨Nat.le_of_ble_eq_true rfl, Nat.le_of_ble_eq_true rfl⟩ rfl hl.1 rfl (Nat.le_of_ble_eq_true rfl) dX0_keepsFrom_136 ⟨Nat.le_of_ble_eq_true rfl, Nat.le_of_ble_eq_true rfl⟩) C.2.2.2.2.2.2.1 hP hD hS [2, 0, 1] [] rfl rfl (by decide) (by decide) (fun r_11 u_10 H locs hw_12 hP hD hS => ?_)
  have hP : va_P D vwCl [(h, .inr (0, [.int 0, .int 0, .int (-1), .ref h0, .ref h1, .ref h2, .ref h3, .ref h4, .int 0, .ref h5, .int 0, .int 0, .int 10, .int 1, .int 0, .int 5])), (h0, .inl (cy 1, 8, .inl u_10)), (h5, .inl (cy 1, 81, .inl (fun _ => 0)))] H := hP
  have hD : va_D A [(h, .inr (0, [.int 0, .int 0, .int (-1), .ref h0, .ref h1, .ref h2, .ref h3, .ref h4, .int 0, .ref h5, .int 0, .int 0, .int 10, .int 1, .int 0, .int 5])), (h0, .inl (cy 1, 8, .inl u_10)), (h5, .inl (cy 1, 81, .inl (fun _ => 0)))] := hD
  obtain rfl : r_11 = 1 := hw_12
  refine lv_if_eq (tgt := 155) hx hb dX0_keepsFrom_139 (by decide) (fun c_0 => absurd c_0 (by decide)) (fun _ => ?_)
  refine lv_aload_n hx hb dX0_keepsFrom_142 rfl (lv_at hl 4 rfl) ?_
  refine q_get (v := .ref h0) C hP 0 3 rfl rfl inX0 (by decide) kF_RX0_21 rfl rfl dX0_keepsFrom_143 ?_
  refine lv_iload_n hx hb dX0_keepsFrom_146 rfl (lv_at hl 5 rfl) ?_
  refine lv_aload_n hx hb dX0_keepsFrom_147 rfl (lv_at hl 4 rfl) ?_
  refine lv_iload_n hx hb dX0_keepsFrom_148 rfl (lv_at hl 3 rfl) ?_
  refine q_ai (wr := [(h0, .inl (cy 1, 8, .inl u_10)), (h5, .inl (cy 1, 81, .inl (fun _ => 0)))]) (r_V (q0 := 0) (As := [.int 0]) (rest := [.int 3, .ref h0]) (wc := [(h, .inr (0, [.int 0, .int 0, .int (-1), .ref h0, .ref h1, .ref h2, .ref h3, .ref h4, .int 0, .ref h5, .int 0, .int 0, .int 10, .int 1, .int 0, .int 5]))]) C (q_subP hP [0] rfl) (hD.sub [0] (by decide) rfl) (c_bookChosen l D cy h h0 h1 h2 h3 h4 h5 5 _ ) kwV_X0_bookChosen kM_RX0_110 rfl rfl ⟨Nat.le_of_ble_eq_true rfl, Nat.le_of_ble_eq_true rfl⟩ rfl hl.1 rfl (Nat.le_of_ble_eq_true rfl) dX0_keepsFrom_149 ⟨Nat.le_of_ble_eq_true rfl, Nat.le_of_ble_eq_true rfl⟩) C.2.2.2.2.2.2.1 hP hD hS [0] [1, 2] rfl rfl (by decide) (by decide) (fun r_14 u_13 H locs hw_15 hP hD hS => ?_)
  have hP : va_P D vwCl [(h0, .inl (cy 1, 8, .inl u_10)), (h5, .inl (cy 1, 81, .inl (fun _ => 0))), (h, .inr (0, [.int 0, .int 0, .int (-1), .ref h0, .ref h1, .ref h2, .ref h3, .ref h4, .int 0, .ref h5, .int 0, .int 0, .int 10, .int 1, .int 0, .int 5]))] H := hP
  have hD : va_D A [(h0, .inl (cy 1, 8, .inl u_10)), (h5, .inl (cy 1, 81, .inl (fun _ => 0))), (h, .inr (0, [.int 0, .int 0, .int (-1), .ref h0, .ref h1, .ref h2, .ref h3, .ref h4, .int 0, .ref h5, .int 0, .int 0, .int 10, .int 1, .int 0, .int 5]))] := hD
  obtain rfl : r_14 = (-1) := hw_15
  refine q_iast (g := upd u_10 3 (-1)) (w' := [(h0, .inl (cy 1, 8, .inl (upd u_10 3 (-1)))), (h5, .inl (cy 1, 81, .inl (fun _ => 0))), (h, .inr (0, [.int 0, .int 0, .int (-1), .ref h0, .ref h1, .ref h2, .ref h3, .ref h4, .int 0, .ref h5, .int 0, .int 0, .int 10, .int 1, .int 0, .int 5]))]) C hP hD hS 0 rfl (vin (by decide +kernel)) rfl rfl dX0_keepsFrom_152 (fun H locs hP hD hS => ?_)
  refine lv_iconst (v := 1) hx hb dX0_keepsFrom_153 (by decide) ?_
  exact q_iret (rm := (Rm 2 52 0 0)) C hS (upd u_10 3 (-1)) rfl rfl (q_subP hP [2, 0, 1] rfl) (hD.sub [2, 0, 1] (by decide) rfl) (Nat.le_of_ble_eq_true rfl) (Nat.le_of_ble_eq_true rfl) dX0_keepsFrom_154
set_option maxHeartbeats 4000000 in
set_option maxRecDepth 100000 in
theorem c_keeps_5_2 (l : Launch) (D : va_G) (cy : Nat → ClassId) (h : Nat) (h0 : Nat) (h1 : Nat) (h2 : Nat) (h3 : Nat) (h4 : Nat) (h5 : Nat) (kr : Nat → Int32) (sz : Nat)  : MI l yX0_keepsFrom cX0_keepsFrom 7 (some .boolean) (Rm 3 78 0 0) D cy [.ref h, .int 2, .int 0] sz [(h, .inr (0, [.int 0, .int 0, .int (-1), .ref h0, .ref h1, .ref h2, .ref h3, .ref h4, .int 0, .ref h5, .int 0, .int 0, .int 10, .int 1, .int 0, .int 5])), (h0, .inl (cy 1, 8, .inl kr)), (h5, .inl (cy 1, 81, .inl (fun _ => 0)))] (fun (r : Int32) (u : Nat → Int32) => r = 1) (fun u : Nat → Int32 => [(h, .inr (0, [.int 0, .int 0, .int (-1), .ref h0, .ref h1, .ref h2, .ref h3, .ref h4, .int 0, .ref h5, .int 0, .int 0, .int 10, .int 1, .int 0, .int 5])), (h0, .inl (cy 1, 8, .inl u)), (h5, .inl (cy 1, 81, .inl (fun _ => 0)))]) := by
  refine MI.enter (by decide) (Nat.le_of_ble_eq_true rfl) ?_
  intro p e s m below meth c ls A hsz hAe C hP hD hS hl
  have C : Cx p s m _ meth c cX0_keepsFrom 7 (some .boolean) RX0 "keepsFrom" D cy A := C
  have hx := C.1
  have hb := C.2.1
  have hl : lv_has ls 7 [(0, .ref h), (1, .int 2), (2, .int 0)] := hl
  refine lv_iload_n hx hb dX0_keepsFrom_0 rfl (lv_at hl 1 rfl) ?_
  refine lv_aload_n hx hb dX0_keepsFrom_1 rfl (lv_at hl 0 rfl) ?_
  refine q_get (v := .int 5) C hP 0 15 rfl rfl inX0 (by decide) kF_RX0_58 rfl rfl dX0_keepsFrom_2 ?_
  refine lv_icmp_lt (tgt := 10) hx hb dX0_keepsFrom_5 (by decide) (fun _ => ?_) (fun c_0 => absurd (by decide) c_0)
  refine lv_aload_n hx hb dX0_keepsFrom_10 rfl (lv_at hl 0 rfl) ?_
  refine lv_iload_n hx hb dX0_keepsFrom_11 rfl (lv_at hl 1 rfl) ?_
  refine q_ai (wr := [(h0, .inl (cy 1, 8, .inl kr)), (h5, .inl (cy 1, 81, .inl (fun _ => 0)))]) (r_V (q0 := 0) (As := [.int 2]) (rest := []) (wc := [(h, .inr (0, [.int 0, .int 0, .int (-1), .ref h0, .ref h1, .ref h2, .ref h3, .ref h4, .int 0, .ref h5, .int 0, .int 0, .int 10, .int 1, .int 0, .int 5]))]) C (q_subP hP [0] rfl) (hD.sub [0] (by decide) rfl) (c_askNeeded l D cy h 2 h0 h1 h2 h3 h4 h5 5 _ ) kwV_X0_askingsNeeded kM_RX0_98 rfl rfl ⟨Nat.le_of_ble_eq_true rfl, Nat.le_of_ble_eq_true rfl⟩ rfl hl.1 rfl (Nat.le_of_ble_eq_true rfl) dX0_keepsFrom_12 ⟨Nat.le_of_ble_eq_true rfl, Nat.le_of_ble_eq_true rfl⟩) C.2.2.2.2.2.2.1 hP hD hS [0] [1, 2] rfl rfl (by decide) (by decide) (fun r_2 u_1 H locs hw_3 hP hD hS => ?_)
  have hP : va_P D vwCl [(h0, .inl (cy 1, 8, .inl kr)), (h5, .inl (cy 1, 81, .inl (fun _ => 0))), (h, .inr (0, [.int 0, .int 0, .int (-1), .ref h0, .ref h1, .ref h2, .ref h3, .ref h4, .int 0, .ref h5, .int 0, .int 0, .int 10, .int 1, .int 0, .int 5]))] H := hP
  have hD : va_D A [(h0, .inl (cy 1, 8, .inl kr)), (h5, .inl (cy 1, 81, .inl (fun _ => 0))), (h, .inr (0, [.int 0, .int 0, .int (-1), .ref h0, .ref h1, .ref h2, .ref h3, .ref h4, .int 0, .ref h5, .int 0, .int 0, .int 10, .int 1, .int 0, .int 5]))] := hD
  obtain rfl : r_2 = 0 := hw_3
  refine lv_iload_n hx hb dX0_keepsFrom_15 rfl (lv_at hl 2 rfl) ?_
  refine lv_icmp_le (tgt := 21) hx hb dX0_keepsFrom_16 (by decide) (fun _ => ?_) (fun c_0 => absurd (by decide) c_0)
  refine lv_aload_n hx hb dX0_keepsFrom_21 rfl (lv_at hl 0 rfl) ?_
  refine lv_iload_n hx hb dX0_keepsFrom_22 rfl (lv_at hl 1 rfl) ?_
  refine q_av (wr := [(h0, .inl (cy 1, 8, .inl kr)), (h5, .inl (cy 1, 81, .inl (fun _ => 0)))]) (r_V (q0 := 0) (As := [.int 2]) (rest := []) (wc := [(h, .inr (0, [.int 0, .int 0, .int (-1), .ref h0, .ref h1, .ref h2, .ref h3, .ref h4, .int 0, .ref h5, .int 0, .int 0, .int 10, .int 1, .int 0, .int 5]))]) C (q_subP hP [2] rfl) (hD.sub [2] (by decide) rfl) (c_passDay l D cy h 2 h0 h1 h2 h3 h4 h5 5 _ ) kwV_X0_passDay kM_RX0_102 rfl rfl ⟨Nat.le_of_ble_eq_true rfl, Nat.le_of_ble_eq_true rfl⟩ rfl hl.1 rfl (Nat.le_of_ble_eq_true rfl) dX0_keepsFrom_23 ⟨Nat.le_of_ble_eq_true rfl, Nat.le_of_ble_eq_true rfl⟩) C.2.2.2.2.2.2.1 hP hD hS [2] [0, 1] rfl rfl (by decide) (by decide) (fun u_4 H locs hw_6 hP hD hS => ?_)
  have hP : va_P D vwCl [(h0, .inl (cy 1, 8, .inl kr)), (h5, .inl (cy 1, 81, .inl (fun _ => 0))), (h, .inr (0, [.int 0, .int 0, .int (-1), .ref h0, .ref h1, .ref h2, .ref h3, .ref h4, .int 0, .ref h5, .int 0, .int 0, .int 10, .int 1, .int 0, .int 5]))] H := hP
  have hD : va_D A [(h0, .inl (cy 1, 8, .inl kr)), (h5, .inl (cy 1, 81, .inl (fun _ => 0))), (h, .inr (0, [.int 0, .int 0, .int (-1), .ref h0, .ref h1, .ref h2, .ref h3, .ref h4, .int 0, .ref h5, .int 0, .int 0, .int 10, .int 1, .int 0, .int 5]))] := hD
  refine lv_iconst (v := 0) hx hb dX0_keepsFrom_26 (by decide) ?_
  refine lv_istore_n (lv' := [(3, .int 0), (0, .ref h), (1, .int 2), (2, .int 0)]) hx hb dX0_keepsFrom_27 rfl hl (by decide) rfl (fun ls hl => ?_)
  refine lv_iload_n hx hb dX0_keepsFrom_28 rfl (lv_at hl 0 rfl) ?_
  refine lv_aload_n hx hb dX0_keepsFrom_29 rfl (lv_at hl 1 rfl) ?_
  refine q_get (v := .int 0) C hP 2 10 rfl rfl inX0 (by decide) kF_RX0_43 rfl rfl dX0_keepsFrom_30 ?_
  refine lv_icmp_gt (tgt := 170) hx hb dX0_keepsFrom_33 (by decide) (fun c_0 => absurd c_0 (by decide)) (fun _ => ?_)
  refine lv_iload_n hx hb dX0_keepsFrom_36 rfl (lv_at hl 0 rfl) ?_
  refine lv_aload_n hx hb dX0_keepsFrom_37 rfl (lv_at hl 1 rfl) ?_
  refine q_get (v := .int 0) C hP 2 10 rfl rfl inX0 (by decide) kF_RX0_43 rfl rfl dX0_keepsFrom_38 ?_
  refine lv_icmp_ge (tgt := 48) hx hb dX0_keepsFrom_41 (by decide) (fun _ => ?_) (fun c_0 => absurd (by decide) c_0)
  refine lv_iconst (v := 0) hx hb dX0_keepsFrom_48 (by decide) ?_
  refine lv_istore (lv' := [(4, .int 0), (3, .int 0), (0, .ref h), (1, .int 2), (2, .int 0)]) hx hb dX0_keepsFrom_49 hl (by decide) rfl (fun ls hl => ?_)
  refine lv_iload hx hb dX0_keepsFrom_51 (lv_at hl 0 rfl) ?_
  refine lv_if_eq (tgt := 83) hx hb dX0_keepsFrom_53 (by decide) (fun _ => ?_) (fun c_0 => absurd (by decide) c_0)
  refine lv_iload_n hx hb dX0_keepsFrom_83 rfl (lv_at hl 3 rfl) ?_
  refine lv_iconst (v := 1) hx hb dX0_keepsFrom_84 (by decide) ?_
  refine lv_iadd hx hb dX0_keepsFrom_85 ?_
  refine q_val (v := 3) (by decide) ?_
  refine lv_bipush (v := 9) hx hb dX0_keepsFrom_86 (by decide) ?_
  refine lv_imul hx hb dX0_keepsFrom_88 ?_
  refine q_val (v := 27) (by decide) ?_
  refine lv_iload_n hx hb dX0_keepsFrom_89 rfl (lv_at hl 1 rfl) ?_
  refine lv_iadd hx hb dX0_keepsFrom_90 ?_
  refine q_val (v := 27) (by decide) ?_
  refine lv_istore (lv' := [(5, .int 27), (4, .int 0), (3, .int 0), (0, .ref h), (1, .int 2), (2, .int 0)]) hx hb dX0_keepsFrom_91 hl (by decide) rfl (fun ls hl => ?_)
  refine lv_aload_n hx hb dX0_keepsFrom_93 rfl (lv_at hl 3 rfl) ?_
  refine q_get (v := .ref h5) C hP 2 9 rfl rfl inX0 (by decide) kF_RX0_40 rfl rfl dX0_keepsFrom_94 ?_
  refine lv_iload hx hb dX0_keepsFrom_97 (lv_at hl 0 rfl) ?_
  refine q_iald (v := 0) C hP 1 rfl (vin (by decide +kernel)) rfl dX0_keepsFrom_99 ?_
  refine lv_istore (lv' := [(6, .int 0), (5, .int 27), (4, .int 0), (3, .int 0), (0, .ref h), (1, .int 2), (2, .int 0)]) hx hb dX0_keepsFrom_100 hl (by decide) rfl (fun ls hl => ?_)
  refine lv_aload_n hx hb dX0_keepsFrom_102 rfl (lv_at hl 4 rfl) ?_
  refine q_get (v := .ref h5) C hP 2 9 rfl rfl inX0 (by decide) kF_RX0_40 rfl rfl dX0_keepsFrom_103 ?_
  refine lv_iload hx hb dX0_keepsFrom_106 (lv_at hl 1 rfl) ?_
  refine lv_iconst (v := 0) hx hb dX0_keepsFrom_108 (by decide) ?_
  refine q_iast (g := fun _ => 0) (w' := [(h0, .inl (cy 1, 8, .inl kr)), (h5, .inl (cy 1, 81, .inl (fun _ => 0))), (h, .inr (0, [.int 0, .int 0, .int (-1), .ref h0, .ref h1, .ref h2, .ref h3, .ref h4, .int 0, .ref h5, .int 0, .int 0, .int 10, .int 1, .int 0, .int 5]))]) C hP hD hS 1 rfl (vin (by decide +kernel)) (updz _) rfl dX0_keepsFrom_109 (fun H locs hP hD hS => ?_)
  refine lv_aload_n hx hb dX0_keepsFrom_110 rfl (lv_at hl 4 rfl) ?_
  refine lv_iload_n hx hb dX0_keepsFrom_111 rfl (lv_at hl 5 rfl) ?_
  refine lv_iconst (v := 1) hx hb dX0_keepsFrom_112 (by decide) ?_
  refine lv_iadd hx hb dX0_keepsFrom_113 ?_
  refine q_val (v := 3) (by decide) ?_
  refine q_ai (wr := [(h0, .inl (cy 1, 8, .inl kr)), (h5, .inl (cy 1, 81, .inl (fun _ => 0)))]) (r_V (q0 := 0) (As := [.int 3]) (rest := []) (wc := [(h, .inr (0, [.int 0, .int 0, .int (-1), .ref h0, .ref h1, .ref h2, .ref h3, .ref h4, .int 0, .ref h5, .int 0, .int 0, .int 10, .int 1, .int 0, .int 5]))]) C (q_subP hP [2] rfl) (hD.sub [2] (by decide) rfl) (c_rareDoubt l D cy h 3 h0 h1 h2 h3 h4 h5 5 _ ) kwV_X0_areRareInDoubt kM_RX0_106 rfl rfl ⟨Nat.le_of_ble_eq_true rfl, Nat.le_of_ble_eq_true rfl⟩ rfl hl.1 rfl (Nat.le_of_ble_eq_true rfl) dX0_keepsFrom_114 ⟨Nat.le_of_ble_eq_true rfl, Nat.le_of_ble_eq_true rfl⟩) C.2.2.2.2.2.2.1 hP hD hS [2] [0, 1] rfl rfl (by decide) (by decide) (fun r_8 u_7 H locs hw_9 hP hD hS => ?_)
  have hP : va_P D vwCl [(h0, .inl (cy 1, 8, .inl kr)), (h5, .inl (cy 1, 81, .inl (fun _ => 0))), (h, .inr (0, [.int 0, .int 0, .int (-1), .ref h0, .ref h1, .ref h2, .ref h3, .ref h4, .int 0, .ref h5, .int 0, .int 0, .int 10, .int 1, .int 0, .int 5]))] H := hP
  have hD : va_D A [(h0, .inl (cy 1, 8, .inl kr)), (h5, .inl (cy 1, 81, .inl (fun _ => 0))), (h, .inr (0, [.int 0, .int 0, .int (-1), .ref h0, .ref h1, .ref h2, .ref h3, .ref h4, .int 0, .ref h5, .int 0, .int 0, .int 10, .int 1, .int 0, .int 5]))] := hD
  obtain rfl : r_8 = 1 := hw_9
  refine lv_if_eq (tgt := 155) hx hb dX0_keepsFrom_117 (by decide) (fun c_0 => absurd c_0 (by decide)) (fun _ => ?_)
  refine lv_aload_n hx hb dX0_keepsFrom_120 rfl (lv_at hl 4 rfl) ?_
  refine lv_iload_n hx hb dX0_keepsFrom_121 rfl (lv_at hl 5 rfl) ?_
  refine lv_iconst (v := 1) hx hb dX0_keepsFrom_122 (by decide) ?_
  refine lv_iadd hx hb dX0_keepsFrom_123 ?_
  refine q_val (v := 3) (by decide) ?_
  refine lv_iload hx hb dX0_keepsFrom_124 (lv_at hl 2 rfl) ?_
  refine lv_if_eq (tgt := 135) hx hb dX0_keepsFrom_126 (by decide) (fun _ => ?_) (fun c_0 => absurd (by decide) c_0)
  refine lv_iload_n hx hb dX0_keepsFrom_135 rfl (lv_at hl 6 rfl) ?_
  refine q_ai (wr := []) (r_V (q0 := 0) (As := [.int 3, .int 0]) (rest := []) (wc := [(h, .inr (0, [.int 0, .int 0, .int (-1), .ref h0, .ref h1, .ref h2, .ref h3, .ref h4, .int 0, .ref h5, .int 0, .int 0, .int 10, .int 1, .int 0, .int 5])), (h0, .inl (cy 1, 8, .inl kr)), (h5, .inl (cy 1, 81, .inl (fun _ => 0)))]) C (q_subP hP [2, 0, 1] rfl) (hD.sub [2, 0, 1] (by decide) rfl) (c_keeps_5_3 l D cy h h0 h1 h2 h3 h4 h5 kr _ ) kwV_X0_keepsFrom kM_RX0_95 rfl rfl ⟨Nat.le_of_ble_eq_true rfl, Nat.le_of_ble_eq_true rfl⟩ rfl hl.1 rfl (Nat.le_of_ble_eq_true rfl) dX0_keepsFrom_136 ⟨Nat.le_of_ble_eq_true rfl, Nat.le_of_ble_eq_true rfl⟩) C.2.2.2.2.2.2.1 hP hD hS [2, 0, 1] [] rfl rfl (by decide) (by decide) (fun r_11 u_10 H locs hw_12 hP hD hS => ?_)
  have hP : va_P D vwCl [(h, .inr (0, [.int 0, .int 0, .int (-1), .ref h0, .ref h1, .ref h2, .ref h3, .ref h4, .int 0, .ref h5, .int 0, .int 0, .int 10, .int 1, .int 0, .int 5])), (h0, .inl (cy 1, 8, .inl u_10)), (h5, .inl (cy 1, 81, .inl (fun _ => 0)))] H := hP
  have hD : va_D A [(h, .inr (0, [.int 0, .int 0, .int (-1), .ref h0, .ref h1, .ref h2, .ref h3, .ref h4, .int 0, .ref h5, .int 0, .int 0, .int 10, .int 1, .int 0, .int 5])), (h0, .inl (cy 1, 8, .inl u_10)), (h5, .inl (cy 1, 81, .inl (fun _ => 0)))] := hD
  obtain rfl : r_11 = 1 := hw_12
  refine lv_if_eq (tgt := 155) hx hb dX0_keepsFrom_139 (by decide) (fun c_0 => absurd c_0 (by decide)) (fun _ => ?_)
  refine lv_aload_n hx hb dX0_keepsFrom_142 rfl (lv_at hl 4 rfl) ?_
  refine q_get (v := .ref h0) C hP 0 3 rfl rfl inX0 (by decide) kF_RX0_21 rfl rfl dX0_keepsFrom_143 ?_
  refine lv_iload_n hx hb dX0_keepsFrom_146 rfl (lv_at hl 5 rfl) ?_
  refine lv_aload_n hx hb dX0_keepsFrom_147 rfl (lv_at hl 4 rfl) ?_
  refine lv_iload_n hx hb dX0_keepsFrom_148 rfl (lv_at hl 3 rfl) ?_
  refine q_ai (wr := [(h0, .inl (cy 1, 8, .inl u_10)), (h5, .inl (cy 1, 81, .inl (fun _ => 0)))]) (r_V (q0 := 0) (As := [.int 0]) (rest := [.int 2, .ref h0]) (wc := [(h, .inr (0, [.int 0, .int 0, .int (-1), .ref h0, .ref h1, .ref h2, .ref h3, .ref h4, .int 0, .ref h5, .int 0, .int 0, .int 10, .int 1, .int 0, .int 5]))]) C (q_subP hP [0] rfl) (hD.sub [0] (by decide) rfl) (c_bookChosen l D cy h h0 h1 h2 h3 h4 h5 5 _ ) kwV_X0_bookChosen kM_RX0_110 rfl rfl ⟨Nat.le_of_ble_eq_true rfl, Nat.le_of_ble_eq_true rfl⟩ rfl hl.1 rfl (Nat.le_of_ble_eq_true rfl) dX0_keepsFrom_149 ⟨Nat.le_of_ble_eq_true rfl, Nat.le_of_ble_eq_true rfl⟩) C.2.2.2.2.2.2.1 hP hD hS [0] [1, 2] rfl rfl (by decide) (by decide) (fun r_14 u_13 H locs hw_15 hP hD hS => ?_)
  have hP : va_P D vwCl [(h0, .inl (cy 1, 8, .inl u_10)), (h5, .inl (cy 1, 81, .inl (fun _ => 0))), (h, .inr (0, [.int 0, .int 0, .int (-1), .ref h0, .ref h1, .ref h2, .ref h3, .ref h4, .int 0, .ref h5, .int 0, .int 0, .int 10, .int 1, .int 0, .int 5]))] H := hP
  have hD : va_D A [(h0, .inl (cy 1, 8, .inl u_10)), (h5, .inl (cy 1, 81, .inl (fun _ => 0))), (h, .inr (0, [.int 0, .int 0, .int (-1), .ref h0, .ref h1, .ref h2, .ref h3, .ref h4, .int 0, .ref h5, .int 0, .int 0, .int 10, .int 1, .int 0, .int 5]))] := hD
  obtain rfl : r_14 = (-1) := hw_15
  refine q_iast (g := upd u_10 2 (-1)) (w' := [(h0, .inl (cy 1, 8, .inl (upd u_10 2 (-1)))), (h5, .inl (cy 1, 81, .inl (fun _ => 0))), (h, .inr (0, [.int 0, .int 0, .int (-1), .ref h0, .ref h1, .ref h2, .ref h3, .ref h4, .int 0, .ref h5, .int 0, .int 0, .int 10, .int 1, .int 0, .int 5]))]) C hP hD hS 0 rfl (vin (by decide +kernel)) rfl rfl dX0_keepsFrom_152 (fun H locs hP hD hS => ?_)
  refine lv_iconst (v := 1) hx hb dX0_keepsFrom_153 (by decide) ?_
  exact q_iret (rm := (Rm 3 78 0 0)) C hS (upd u_10 2 (-1)) rfl rfl (q_subP hP [2, 0, 1] rfl) (hD.sub [2, 0, 1] (by decide) rfl) (Nat.le_of_ble_eq_true rfl) (Nat.le_of_ble_eq_true rfl) dX0_keepsFrom_154
set_option maxHeartbeats 4000000 in
set_option maxRecDepth 100000 in
theorem c_keeps_5_1 (l : Launch) (D : va_G) (cy : Nat → ClassId) (h : Nat) (h0 : Nat) (h1 : Nat) (h2 : Nat) (h3 : Nat) (h4 : Nat) (h5 : Nat) (kr : Nat → Int32) (sz : Nat)  : MI l yX0_keepsFrom cX0_keepsFrom 7 (some .boolean) (Rm 4 104 0 0) D cy [.ref h, .int 1, .int 0] sz [(h, .inr (0, [.int 0, .int 0, .int (-1), .ref h0, .ref h1, .ref h2, .ref h3, .ref h4, .int 0, .ref h5, .int 0, .int 0, .int 10, .int 1, .int 0, .int 5])), (h0, .inl (cy 1, 8, .inl kr)), (h5, .inl (cy 1, 81, .inl (fun _ => 0)))] (fun (r : Int32) (u : Nat → Int32) => r = 1) (fun u : Nat → Int32 => [(h, .inr (0, [.int 0, .int 0, .int (-1), .ref h0, .ref h1, .ref h2, .ref h3, .ref h4, .int 0, .ref h5, .int 0, .int 0, .int 10, .int 1, .int 0, .int 5])), (h0, .inl (cy 1, 8, .inl u)), (h5, .inl (cy 1, 81, .inl (fun _ => 0)))]) := by
  refine MI.enter (by decide) (Nat.le_of_ble_eq_true rfl) ?_
  intro p e s m below meth c ls A hsz hAe C hP hD hS hl
  have C : Cx p s m _ meth c cX0_keepsFrom 7 (some .boolean) RX0 "keepsFrom" D cy A := C
  have hx := C.1
  have hb := C.2.1
  have hl : lv_has ls 7 [(0, .ref h), (1, .int 1), (2, .int 0)] := hl
  refine lv_iload_n hx hb dX0_keepsFrom_0 rfl (lv_at hl 1 rfl) ?_
  refine lv_aload_n hx hb dX0_keepsFrom_1 rfl (lv_at hl 0 rfl) ?_
  refine q_get (v := .int 5) C hP 0 15 rfl rfl inX0 (by decide) kF_RX0_58 rfl rfl dX0_keepsFrom_2 ?_
  refine lv_icmp_lt (tgt := 10) hx hb dX0_keepsFrom_5 (by decide) (fun _ => ?_) (fun c_0 => absurd (by decide) c_0)
  refine lv_aload_n hx hb dX0_keepsFrom_10 rfl (lv_at hl 0 rfl) ?_
  refine lv_iload_n hx hb dX0_keepsFrom_11 rfl (lv_at hl 1 rfl) ?_
  refine q_ai (wr := [(h0, .inl (cy 1, 8, .inl kr)), (h5, .inl (cy 1, 81, .inl (fun _ => 0)))]) (r_V (q0 := 0) (As := [.int 1]) (rest := []) (wc := [(h, .inr (0, [.int 0, .int 0, .int (-1), .ref h0, .ref h1, .ref h2, .ref h3, .ref h4, .int 0, .ref h5, .int 0, .int 0, .int 10, .int 1, .int 0, .int 5]))]) C (q_subP hP [0] rfl) (hD.sub [0] (by decide) rfl) (c_askNeeded l D cy h 1 h0 h1 h2 h3 h4 h5 5 _ ) kwV_X0_askingsNeeded kM_RX0_98 rfl rfl ⟨Nat.le_of_ble_eq_true rfl, Nat.le_of_ble_eq_true rfl⟩ rfl hl.1 rfl (Nat.le_of_ble_eq_true rfl) dX0_keepsFrom_12 ⟨Nat.le_of_ble_eq_true rfl, Nat.le_of_ble_eq_true rfl⟩) C.2.2.2.2.2.2.1 hP hD hS [0] [1, 2] rfl rfl (by decide) (by decide) (fun r_2 u_1 H locs hw_3 hP hD hS => ?_)
  have hP : va_P D vwCl [(h0, .inl (cy 1, 8, .inl kr)), (h5, .inl (cy 1, 81, .inl (fun _ => 0))), (h, .inr (0, [.int 0, .int 0, .int (-1), .ref h0, .ref h1, .ref h2, .ref h3, .ref h4, .int 0, .ref h5, .int 0, .int 0, .int 10, .int 1, .int 0, .int 5]))] H := hP
  have hD : va_D A [(h0, .inl (cy 1, 8, .inl kr)), (h5, .inl (cy 1, 81, .inl (fun _ => 0))), (h, .inr (0, [.int 0, .int 0, .int (-1), .ref h0, .ref h1, .ref h2, .ref h3, .ref h4, .int 0, .ref h5, .int 0, .int 0, .int 10, .int 1, .int 0, .int 5]))] := hD
  obtain rfl : r_2 = 0 := hw_3
  refine lv_iload_n hx hb dX0_keepsFrom_15 rfl (lv_at hl 2 rfl) ?_
  refine lv_icmp_le (tgt := 21) hx hb dX0_keepsFrom_16 (by decide) (fun _ => ?_) (fun c_0 => absurd (by decide) c_0)
  refine lv_aload_n hx hb dX0_keepsFrom_21 rfl (lv_at hl 0 rfl) ?_
  refine lv_iload_n hx hb dX0_keepsFrom_22 rfl (lv_at hl 1 rfl) ?_
  refine q_av (wr := [(h0, .inl (cy 1, 8, .inl kr)), (h5, .inl (cy 1, 81, .inl (fun _ => 0)))]) (r_V (q0 := 0) (As := [.int 1]) (rest := []) (wc := [(h, .inr (0, [.int 0, .int 0, .int (-1), .ref h0, .ref h1, .ref h2, .ref h3, .ref h4, .int 0, .ref h5, .int 0, .int 0, .int 10, .int 1, .int 0, .int 5]))]) C (q_subP hP [2] rfl) (hD.sub [2] (by decide) rfl) (c_passDay l D cy h 1 h0 h1 h2 h3 h4 h5 5 _ ) kwV_X0_passDay kM_RX0_102 rfl rfl ⟨Nat.le_of_ble_eq_true rfl, Nat.le_of_ble_eq_true rfl⟩ rfl hl.1 rfl (Nat.le_of_ble_eq_true rfl) dX0_keepsFrom_23 ⟨Nat.le_of_ble_eq_true rfl, Nat.le_of_ble_eq_true rfl⟩) C.2.2.2.2.2.2.1 hP hD hS [2] [0, 1] rfl rfl (by decide) (by decide) (fun u_4 H locs hw_6 hP hD hS => ?_)
  have hP : va_P D vwCl [(h0, .inl (cy 1, 8, .inl kr)), (h5, .inl (cy 1, 81, .inl (fun _ => 0))), (h, .inr (0, [.int 0, .int 0, .int (-1), .ref h0, .ref h1, .ref h2, .ref h3, .ref h4, .int 0, .ref h5, .int 0, .int 0, .int 10, .int 1, .int 0, .int 5]))] H := hP
  have hD : va_D A [(h0, .inl (cy 1, 8, .inl kr)), (h5, .inl (cy 1, 81, .inl (fun _ => 0))), (h, .inr (0, [.int 0, .int 0, .int (-1), .ref h0, .ref h1, .ref h2, .ref h3, .ref h4, .int 0, .ref h5, .int 0, .int 0, .int 10, .int 1, .int 0, .int 5]))] := hD
  refine lv_iconst (v := 0) hx hb dX0_keepsFrom_26 (by decide) ?_
  refine lv_istore_n (lv' := [(3, .int 0), (0, .ref h), (1, .int 1), (2, .int 0)]) hx hb dX0_keepsFrom_27 rfl hl (by decide) rfl (fun ls hl => ?_)
  refine lv_iload_n hx hb dX0_keepsFrom_28 rfl (lv_at hl 0 rfl) ?_
  refine lv_aload_n hx hb dX0_keepsFrom_29 rfl (lv_at hl 1 rfl) ?_
  refine q_get (v := .int 0) C hP 2 10 rfl rfl inX0 (by decide) kF_RX0_43 rfl rfl dX0_keepsFrom_30 ?_
  refine lv_icmp_gt (tgt := 170) hx hb dX0_keepsFrom_33 (by decide) (fun c_0 => absurd c_0 (by decide)) (fun _ => ?_)
  refine lv_iload_n hx hb dX0_keepsFrom_36 rfl (lv_at hl 0 rfl) ?_
  refine lv_aload_n hx hb dX0_keepsFrom_37 rfl (lv_at hl 1 rfl) ?_
  refine q_get (v := .int 0) C hP 2 10 rfl rfl inX0 (by decide) kF_RX0_43 rfl rfl dX0_keepsFrom_38 ?_
  refine lv_icmp_ge (tgt := 48) hx hb dX0_keepsFrom_41 (by decide) (fun _ => ?_) (fun c_0 => absurd (by decide) c_0)
  refine lv_iconst (v := 0) hx hb dX0_keepsFrom_48 (by decide) ?_
  refine lv_istore (lv' := [(4, .int 0), (3, .int 0), (0, .ref h), (1, .int 1), (2, .int 0)]) hx hb dX0_keepsFrom_49 hl (by decide) rfl (fun ls hl => ?_)
  refine lv_iload hx hb dX0_keepsFrom_51 (lv_at hl 0 rfl) ?_
  refine lv_if_eq (tgt := 83) hx hb dX0_keepsFrom_53 (by decide) (fun _ => ?_) (fun c_0 => absurd (by decide) c_0)
  refine lv_iload_n hx hb dX0_keepsFrom_83 rfl (lv_at hl 3 rfl) ?_
  refine lv_iconst (v := 1) hx hb dX0_keepsFrom_84 (by decide) ?_
  refine lv_iadd hx hb dX0_keepsFrom_85 ?_
  refine q_val (v := 2) (by decide) ?_
  refine lv_bipush (v := 9) hx hb dX0_keepsFrom_86 (by decide) ?_
  refine lv_imul hx hb dX0_keepsFrom_88 ?_
  refine q_val (v := 18) (by decide) ?_
  refine lv_iload_n hx hb dX0_keepsFrom_89 rfl (lv_at hl 1 rfl) ?_
  refine lv_iadd hx hb dX0_keepsFrom_90 ?_
  refine q_val (v := 18) (by decide) ?_
  refine lv_istore (lv' := [(5, .int 18), (4, .int 0), (3, .int 0), (0, .ref h), (1, .int 1), (2, .int 0)]) hx hb dX0_keepsFrom_91 hl (by decide) rfl (fun ls hl => ?_)
  refine lv_aload_n hx hb dX0_keepsFrom_93 rfl (lv_at hl 3 rfl) ?_
  refine q_get (v := .ref h5) C hP 2 9 rfl rfl inX0 (by decide) kF_RX0_40 rfl rfl dX0_keepsFrom_94 ?_
  refine lv_iload hx hb dX0_keepsFrom_97 (lv_at hl 0 rfl) ?_
  refine q_iald (v := 0) C hP 1 rfl (vin (by decide +kernel)) rfl dX0_keepsFrom_99 ?_
  refine lv_istore (lv' := [(6, .int 0), (5, .int 18), (4, .int 0), (3, .int 0), (0, .ref h), (1, .int 1), (2, .int 0)]) hx hb dX0_keepsFrom_100 hl (by decide) rfl (fun ls hl => ?_)
  refine lv_aload_n hx hb dX0_keepsFrom_102 rfl (lv_at hl 4 rfl) ?_
  refine q_get (v := .ref h5) C hP 2 9 rfl rfl inX0 (by decide) kF_RX0_40 rfl rfl dX0_keepsFrom_103 ?_
  refine lv_iload hx hb dX0_keepsFrom_106 (lv_at hl 1 rfl) ?_
  refine lv_iconst (v := 0) hx hb dX0_keepsFrom_108 (by decide) ?_
  refine q_iast (g := fun _ => 0) (w' := [(h0, .inl (cy 1, 8, .inl kr)), (h5, .inl (cy 1, 81, .inl (fun _ => 0))), (h, .inr (0, [.int 0, .int 0, .int (-1), .ref h0, .ref h1, .ref h2, .ref h3, .ref h4, .int 0, .ref h5, .int 0, .int 0, .int 10, .int 1, .int 0, .int 5]))]) C hP hD hS 1 rfl (vin (by decide +kernel)) (updz _) rfl dX0_keepsFrom_109 (fun H locs hP hD hS => ?_)
  refine lv_aload_n hx hb dX0_keepsFrom_110 rfl (lv_at hl 4 rfl) ?_
  refine lv_iload_n hx hb dX0_keepsFrom_111 rfl (lv_at hl 5 rfl) ?_
  refine lv_iconst (v := 1) hx hb dX0_keepsFrom_112 (by decide) ?_
  refine lv_iadd hx hb dX0_keepsFrom_113 ?_
  refine q_val (v := 2) (by decide) ?_
  refine q_ai (wr := [(h0, .inl (cy 1, 8, .inl kr)), (h5, .inl (cy 1, 81, .inl (fun _ => 0)))]) (r_V (q0 := 0) (As := [.int 2]) (rest := []) (wc := [(h, .inr (0, [.int 0, .int 0, .int (-1), .ref h0, .ref h1, .ref h2, .ref h3, .ref h4, .int 0, .ref h5, .int 0, .int 0, .int 10, .int 1, .int 0, .int 5]))]) C (q_subP hP [2] rfl) (hD.sub [2] (by decide) rfl) (c_rareDoubt l D cy h 2 h0 h1 h2 h3 h4 h5 5 _ ) kwV_X0_areRareInDoubt kM_RX0_106 rfl rfl ⟨Nat.le_of_ble_eq_true rfl, Nat.le_of_ble_eq_true rfl⟩ rfl hl.1 rfl (Nat.le_of_ble_eq_true rfl) dX0_keepsFrom_114 ⟨Nat.le_of_ble_eq_true rfl, Nat.le_of_ble_eq_true rfl⟩) C.2.2.2.2.2.2.1 hP hD hS [2] [0, 1] rfl rfl (by decide) (by decide) (fun r_8 u_7 H locs hw_9 hP hD hS => ?_)
  have hP : va_P D vwCl [(h0, .inl (cy 1, 8, .inl kr)), (h5, .inl (cy 1, 81, .inl (fun _ => 0))), (h, .inr (0, [.int 0, .int 0, .int (-1), .ref h0, .ref h1, .ref h2, .ref h3, .ref h4, .int 0, .ref h5, .int 0, .int 0, .int 10, .int 1, .int 0, .int 5]))] H := hP
  have hD : va_D A [(h0, .inl (cy 1, 8, .inl kr)), (h5, .inl (cy 1, 81, .inl (fun _ => 0))), (h, .inr (0, [.int 0, .int 0, .int (-1), .ref h0, .ref h1, .ref h2, .ref h3, .ref h4, .int 0, .ref h5, .int 0, .int 0, .int 10, .int 1, .int 0, .int 5]))] := hD
  obtain rfl : r_8 = 1 := hw_9
  refine lv_if_eq (tgt := 155) hx hb dX0_keepsFrom_117 (by decide) (fun c_0 => absurd c_0 (by decide)) (fun _ => ?_)
  refine lv_aload_n hx hb dX0_keepsFrom_120 rfl (lv_at hl 4 rfl) ?_
  refine lv_iload_n hx hb dX0_keepsFrom_121 rfl (lv_at hl 5 rfl) ?_
  refine lv_iconst (v := 1) hx hb dX0_keepsFrom_122 (by decide) ?_
  refine lv_iadd hx hb dX0_keepsFrom_123 ?_
  refine q_val (v := 2) (by decide) ?_
  refine lv_iload hx hb dX0_keepsFrom_124 (lv_at hl 2 rfl) ?_
  refine lv_if_eq (tgt := 135) hx hb dX0_keepsFrom_126 (by decide) (fun _ => ?_) (fun c_0 => absurd (by decide) c_0)
  refine lv_iload_n hx hb dX0_keepsFrom_135 rfl (lv_at hl 6 rfl) ?_
  refine q_ai (wr := []) (r_V (q0 := 0) (As := [.int 2, .int 0]) (rest := []) (wc := [(h, .inr (0, [.int 0, .int 0, .int (-1), .ref h0, .ref h1, .ref h2, .ref h3, .ref h4, .int 0, .ref h5, .int 0, .int 0, .int 10, .int 1, .int 0, .int 5])), (h0, .inl (cy 1, 8, .inl kr)), (h5, .inl (cy 1, 81, .inl (fun _ => 0)))]) C (q_subP hP [2, 0, 1] rfl) (hD.sub [2, 0, 1] (by decide) rfl) (c_keeps_5_2 l D cy h h0 h1 h2 h3 h4 h5 kr _ ) kwV_X0_keepsFrom kM_RX0_95 rfl rfl ⟨Nat.le_of_ble_eq_true rfl, Nat.le_of_ble_eq_true rfl⟩ rfl hl.1 rfl (Nat.le_of_ble_eq_true rfl) dX0_keepsFrom_136 ⟨Nat.le_of_ble_eq_true rfl, Nat.le_of_ble_eq_true rfl⟩) C.2.2.2.2.2.2.1 hP hD hS [2, 0, 1] [] rfl rfl (by decide) (by decide) (fun r_11 u_10 H locs hw_12 hP hD hS => ?_)
  have hP : va_P D vwCl [(h, .inr (0, [.int 0, .int 0, .int (-1), .ref h0, .ref h1, .ref h2, .ref h3, .ref h4, .int 0, .ref h5, .int 0, .int 0, .int 10, .int 1, .int 0, .int 5])), (h0, .inl (cy 1, 8, .inl u_10)), (h5, .inl (cy 1, 81, .inl (fun _ => 0)))] H := hP
  have hD : va_D A [(h, .inr (0, [.int 0, .int 0, .int (-1), .ref h0, .ref h1, .ref h2, .ref h3, .ref h4, .int 0, .ref h5, .int 0, .int 0, .int 10, .int 1, .int 0, .int 5])), (h0, .inl (cy 1, 8, .inl u_10)), (h5, .inl (cy 1, 81, .inl (fun _ => 0)))] := hD
  obtain rfl : r_11 = 1 := hw_12
  refine lv_if_eq (tgt := 155) hx hb dX0_keepsFrom_139 (by decide) (fun c_0 => absurd c_0 (by decide)) (fun _ => ?_)
  refine lv_aload_n hx hb dX0_keepsFrom_142 rfl (lv_at hl 4 rfl) ?_
  refine q_get (v := .ref h0) C hP 0 3 rfl rfl inX0 (by decide) kF_RX0_21 rfl rfl dX0_keepsFrom_143 ?_
  refine lv_iload_n hx hb dX0_keepsFrom_146 rfl (lv_at hl 5 rfl) ?_
  refine lv_aload_n hx hb dX0_keepsFrom_147 rfl (lv_at hl 4 rfl) ?_
  refine lv_iload_n hx hb dX0_keepsFrom_148 rfl (lv_at hl 3 rfl) ?_
  refine q_ai (wr := [(h0, .inl (cy 1, 8, .inl u_10)), (h5, .inl (cy 1, 81, .inl (fun _ => 0)))]) (r_V (q0 := 0) (As := [.int 0]) (rest := [.int 1, .ref h0]) (wc := [(h, .inr (0, [.int 0, .int 0, .int (-1), .ref h0, .ref h1, .ref h2, .ref h3, .ref h4, .int 0, .ref h5, .int 0, .int 0, .int 10, .int 1, .int 0, .int 5]))]) C (q_subP hP [0] rfl) (hD.sub [0] (by decide) rfl) (c_bookChosen l D cy h h0 h1 h2 h3 h4 h5 5 _ ) kwV_X0_bookChosen kM_RX0_110 rfl rfl ⟨Nat.le_of_ble_eq_true rfl, Nat.le_of_ble_eq_true rfl⟩ rfl hl.1 rfl (Nat.le_of_ble_eq_true rfl) dX0_keepsFrom_149 ⟨Nat.le_of_ble_eq_true rfl, Nat.le_of_ble_eq_true rfl⟩) C.2.2.2.2.2.2.1 hP hD hS [0] [1, 2] rfl rfl (by decide) (by decide) (fun r_14 u_13 H locs hw_15 hP hD hS => ?_)
  have hP : va_P D vwCl [(h0, .inl (cy 1, 8, .inl u_10)), (h5, .inl (cy 1, 81, .inl (fun _ => 0))), (h, .inr (0, [.int 0, .int 0, .int (-1), .ref h0, .ref h1, .ref h2, .ref h3, .ref h4, .int 0, .ref h5, .int 0, .int 0, .int 10, .int 1, .int 0, .int 5]))] H := hP
  have hD : va_D A [(h0, .inl (cy 1, 8, .inl u_10)), (h5, .inl (cy 1, 81, .inl (fun _ => 0))), (h, .inr (0, [.int 0, .int 0, .int (-1), .ref h0, .ref h1, .ref h2, .ref h3, .ref h4, .int 0, .ref h5, .int 0, .int 0, .int 10, .int 1, .int 0, .int 5]))] := hD
  obtain rfl : r_14 = (-1) := hw_15
  refine q_iast (g := upd u_10 1 (-1)) (w' := [(h0, .inl (cy 1, 8, .inl (upd u_10 1 (-1)))), (h5, .inl (cy 1, 81, .inl (fun _ => 0))), (h, .inr (0, [.int 0, .int 0, .int (-1), .ref h0, .ref h1, .ref h2, .ref h3, .ref h4, .int 0, .ref h5, .int 0, .int 0, .int 10, .int 1, .int 0, .int 5]))]) C hP hD hS 0 rfl (vin (by decide +kernel)) rfl rfl dX0_keepsFrom_152 (fun H locs hP hD hS => ?_)
  refine lv_iconst (v := 1) hx hb dX0_keepsFrom_153 (by decide) ?_
  exact q_iret (rm := (Rm 4 104 0 0)) C hS (upd u_10 1 (-1)) rfl rfl (q_subP hP [2, 0, 1] rfl) (hD.sub [2, 0, 1] (by decide) rfl) (Nat.le_of_ble_eq_true rfl) (Nat.le_of_ble_eq_true rfl) dX0_keepsFrom_154
set_option maxHeartbeats 4000000 in
set_option maxRecDepth 100000 in
theorem c_keeps_5_0 (l : Launch) (D : va_G) (cy : Nat → ClassId) (h : Nat) (h0 : Nat) (h1 : Nat) (h2 : Nat) (h3 : Nat) (h4 : Nat) (h5 : Nat) (kr : Nat → Int32) (sz : Nat)  : MI l yX0_keepsFrom cX0_keepsFrom 7 (some .boolean) (Rm 5 130 0 0) D cy [.ref h, .int 0, .int 0] sz [(h, .inr (0, [.int 0, .int 0, .int (-1), .ref h0, .ref h1, .ref h2, .ref h3, .ref h4, .int 0, .ref h5, .int 0, .int 0, .int 10, .int 1, .int 0, .int 5])), (h0, .inl (cy 1, 8, .inl kr)), (h5, .inl (cy 1, 81, .inl (fun _ => 0)))] (fun (r : Int32) (u : Nat → Int32) => r = 1) (fun u : Nat → Int32 => [(h, .inr (0, [.int 0, .int 0, .int (-1), .ref h0, .ref h1, .ref h2, .ref h3, .ref h4, .int 0, .ref h5, .int 0, .int 0, .int 10, .int 1, .int 0, .int 5])), (h0, .inl (cy 1, 8, .inl u)), (h5, .inl (cy 1, 81, .inl (fun _ => 0)))]) := by
  refine MI.enter (by decide) (Nat.le_of_ble_eq_true rfl) ?_
  intro p e s m below meth c ls A hsz hAe C hP hD hS hl
  have C : Cx p s m _ meth c cX0_keepsFrom 7 (some .boolean) RX0 "keepsFrom" D cy A := C
  have hx := C.1
  have hb := C.2.1
  have hl : lv_has ls 7 [(0, .ref h), (1, .int 0), (2, .int 0)] := hl
  refine lv_iload_n hx hb dX0_keepsFrom_0 rfl (lv_at hl 1 rfl) ?_
  refine lv_aload_n hx hb dX0_keepsFrom_1 rfl (lv_at hl 0 rfl) ?_
  refine q_get (v := .int 5) C hP 0 15 rfl rfl inX0 (by decide) kF_RX0_58 rfl rfl dX0_keepsFrom_2 ?_
  refine lv_icmp_lt (tgt := 10) hx hb dX0_keepsFrom_5 (by decide) (fun _ => ?_) (fun c_0 => absurd (by decide) c_0)
  refine lv_aload_n hx hb dX0_keepsFrom_10 rfl (lv_at hl 0 rfl) ?_
  refine lv_iload_n hx hb dX0_keepsFrom_11 rfl (lv_at hl 1 rfl) ?_
  refine q_ai (wr := [(h0, .inl (cy 1, 8, .inl kr)), (h5, .inl (cy 1, 81, .inl (fun _ => 0)))]) (r_V (q0 := 0) (As := [.int 0]) (rest := []) (wc := [(h, .inr (0, [.int 0, .int 0, .int (-1), .ref h0, .ref h1, .ref h2, .ref h3, .ref h4, .int 0, .ref h5, .int 0, .int 0, .int 10, .int 1, .int 0, .int 5]))]) C (q_subP hP [0] rfl) (hD.sub [0] (by decide) rfl) (c_askNeeded l D cy h 0 h0 h1 h2 h3 h4 h5 5 _ ) kwV_X0_askingsNeeded kM_RX0_98 rfl rfl ⟨Nat.le_of_ble_eq_true rfl, Nat.le_of_ble_eq_true rfl⟩ rfl hl.1 rfl (Nat.le_of_ble_eq_true rfl) dX0_keepsFrom_12 ⟨Nat.le_of_ble_eq_true rfl, Nat.le_of_ble_eq_true rfl⟩) C.2.2.2.2.2.2.1 hP hD hS [0] [1, 2] rfl rfl (by decide) (by decide) (fun r_2 u_1 H locs hw_3 hP hD hS => ?_)
  have hP : va_P D vwCl [(h0, .inl (cy 1, 8, .inl kr)), (h5, .inl (cy 1, 81, .inl (fun _ => 0))), (h, .inr (0, [.int 0, .int 0, .int (-1), .ref h0, .ref h1, .ref h2, .ref h3, .ref h4, .int 0, .ref h5, .int 0, .int 0, .int 10, .int 1, .int 0, .int 5]))] H := hP
  have hD : va_D A [(h0, .inl (cy 1, 8, .inl kr)), (h5, .inl (cy 1, 81, .inl (fun _ => 0))), (h, .inr (0, [.int 0, .int 0, .int (-1), .ref h0, .ref h1, .ref h2, .ref h3, .ref h4, .int 0, .ref h5, .int 0, .int 0, .int 10, .int 1, .int 0, .int 5]))] := hD
  obtain rfl : r_2 = 0 := hw_3
  refine lv_iload_n hx hb dX0_keepsFrom_15 rfl (lv_at hl 2 rfl) ?_
  refine lv_icmp_le (tgt := 21) hx hb dX0_keepsFrom_16 (by decide) (fun _ => ?_) (fun c_0 => absurd (by decide) c_0)
  refine lv_aload_n hx hb dX0_keepsFrom_21 rfl (lv_at hl 0 rfl) ?_
  refine lv_iload_n hx hb dX0_keepsFrom_22 rfl (lv_at hl 1 rfl) ?_
  refine q_av (wr := [(h0, .inl (cy 1, 8, .inl kr)), (h5, .inl (cy 1, 81, .inl (fun _ => 0)))]) (r_V (q0 := 0) (As := [.int 0]) (rest := []) (wc := [(h, .inr (0, [.int 0, .int 0, .int (-1), .ref h0, .ref h1, .ref h2, .ref h3, .ref h4, .int 0, .ref h5, .int 0, .int 0, .int 10, .int 1, .int 0, .int 5]))]) C (q_subP hP [2] rfl) (hD.sub [2] (by decide) rfl) (c_passDay l D cy h 0 h0 h1 h2 h3 h4 h5 5 _ ) kwV_X0_passDay kM_RX0_102 rfl rfl ⟨Nat.le_of_ble_eq_true rfl, Nat.le_of_ble_eq_true rfl⟩ rfl hl.1 rfl (Nat.le_of_ble_eq_true rfl) dX0_keepsFrom_23 ⟨Nat.le_of_ble_eq_true rfl, Nat.le_of_ble_eq_true rfl⟩) C.2.2.2.2.2.2.1 hP hD hS [2] [0, 1] rfl rfl (by decide) (by decide) (fun u_4 H locs hw_6 hP hD hS => ?_)
  have hP : va_P D vwCl [(h0, .inl (cy 1, 8, .inl kr)), (h5, .inl (cy 1, 81, .inl (fun _ => 0))), (h, .inr (0, [.int 0, .int 0, .int (-1), .ref h0, .ref h1, .ref h2, .ref h3, .ref h4, .int 0, .ref h5, .int 0, .int 0, .int 10, .int 1, .int 0, .int 5]))] H := hP
  have hD : va_D A [(h0, .inl (cy 1, 8, .inl kr)), (h5, .inl (cy 1, 81, .inl (fun _ => 0))), (h, .inr (0, [.int 0, .int 0, .int (-1), .ref h0, .ref h1, .ref h2, .ref h3, .ref h4, .int 0, .ref h5, .int 0, .int 0, .int 10, .int 1, .int 0, .int 5]))] := hD
  refine lv_iconst (v := 0) hx hb dX0_keepsFrom_26 (by decide) ?_
  refine lv_istore_n (lv' := [(3, .int 0), (0, .ref h), (1, .int 0), (2, .int 0)]) hx hb dX0_keepsFrom_27 rfl hl (by decide) rfl (fun ls hl => ?_)
  refine lv_iload_n hx hb dX0_keepsFrom_28 rfl (lv_at hl 0 rfl) ?_
  refine lv_aload_n hx hb dX0_keepsFrom_29 rfl (lv_at hl 1 rfl) ?_
  refine q_get (v := .int 0) C hP 2 10 rfl rfl inX0 (by decide) kF_RX0_43 rfl rfl dX0_keepsFrom_30 ?_
  refine lv_icmp_gt (tgt := 170) hx hb dX0_keepsFrom_33 (by decide) (fun c_0 => absurd c_0 (by decide)) (fun _ => ?_)
  refine lv_iload_n hx hb dX0_keepsFrom_36 rfl (lv_at hl 0 rfl) ?_
  refine lv_aload_n hx hb dX0_keepsFrom_37 rfl (lv_at hl 1 rfl) ?_
  refine q_get (v := .int 0) C hP 2 10 rfl rfl inX0 (by decide) kF_RX0_43 rfl rfl dX0_keepsFrom_38 ?_
  refine lv_icmp_ge (tgt := 48) hx hb dX0_keepsFrom_41 (by decide) (fun _ => ?_) (fun c_0 => absurd (by decide) c_0)
  refine lv_iconst (v := 0) hx hb dX0_keepsFrom_48 (by decide) ?_
  refine lv_istore (lv' := [(4, .int 0), (3, .int 0), (0, .ref h), (1, .int 0), (2, .int 0)]) hx hb dX0_keepsFrom_49 hl (by decide) rfl (fun ls hl => ?_)
  refine lv_iload hx hb dX0_keepsFrom_51 (lv_at hl 0 rfl) ?_
  refine lv_if_eq (tgt := 83) hx hb dX0_keepsFrom_53 (by decide) (fun _ => ?_) (fun c_0 => absurd (by decide) c_0)
  refine lv_iload_n hx hb dX0_keepsFrom_83 rfl (lv_at hl 3 rfl) ?_
  refine lv_iconst (v := 1) hx hb dX0_keepsFrom_84 (by decide) ?_
  refine lv_iadd hx hb dX0_keepsFrom_85 ?_
  refine q_val (v := 1) (by decide) ?_
  refine lv_bipush (v := 9) hx hb dX0_keepsFrom_86 (by decide) ?_
  refine lv_imul hx hb dX0_keepsFrom_88 ?_
  refine q_val (v := 9) (by decide) ?_
  refine lv_iload_n hx hb dX0_keepsFrom_89 rfl (lv_at hl 1 rfl) ?_
  refine lv_iadd hx hb dX0_keepsFrom_90 ?_
  refine q_val (v := 9) (by decide) ?_
  refine lv_istore (lv' := [(5, .int 9), (4, .int 0), (3, .int 0), (0, .ref h), (1, .int 0), (2, .int 0)]) hx hb dX0_keepsFrom_91 hl (by decide) rfl (fun ls hl => ?_)
  refine lv_aload_n hx hb dX0_keepsFrom_93 rfl (lv_at hl 3 rfl) ?_
  refine q_get (v := .ref h5) C hP 2 9 rfl rfl inX0 (by decide) kF_RX0_40 rfl rfl dX0_keepsFrom_94 ?_
  refine lv_iload hx hb dX0_keepsFrom_97 (lv_at hl 0 rfl) ?_
  refine q_iald (v := 0) C hP 1 rfl (vin (by decide +kernel)) rfl dX0_keepsFrom_99 ?_
  refine lv_istore (lv' := [(6, .int 0), (5, .int 9), (4, .int 0), (3, .int 0), (0, .ref h), (1, .int 0), (2, .int 0)]) hx hb dX0_keepsFrom_100 hl (by decide) rfl (fun ls hl => ?_)
  refine lv_aload_n hx hb dX0_keepsFrom_102 rfl (lv_at hl 4 rfl) ?_
  refine q_get (v := .ref h5) C hP 2 9 rfl rfl inX0 (by decide) kF_RX0_40 rfl rfl dX0_keepsFrom_103 ?_
  refine lv_iload hx hb dX0_keepsFrom_106 (lv_at hl 1 rfl) ?_
  refine lv_iconst (v := 0) hx hb dX0_keepsFrom_108 (by decide) ?_
  refine q_iast (g := fun _ => 0) (w' := [(h0, .inl (cy 1, 8, .inl kr)), (h5, .inl (cy 1, 81, .inl (fun _ => 0))), (h, .inr (0, [.int 0, .int 0, .int (-1), .ref h0, .ref h1, .ref h2, .ref h3, .ref h4, .int 0, .ref h5, .int 0, .int 0, .int 10, .int 1, .int 0, .int 5]))]) C hP hD hS 1 rfl (vin (by decide +kernel)) (updz _) rfl dX0_keepsFrom_109 (fun H locs hP hD hS => ?_)
  refine lv_aload_n hx hb dX0_keepsFrom_110 rfl (lv_at hl 4 rfl) ?_
  refine lv_iload_n hx hb dX0_keepsFrom_111 rfl (lv_at hl 5 rfl) ?_
  refine lv_iconst (v := 1) hx hb dX0_keepsFrom_112 (by decide) ?_
  refine lv_iadd hx hb dX0_keepsFrom_113 ?_
  refine q_val (v := 1) (by decide) ?_
  refine q_ai (wr := [(h0, .inl (cy 1, 8, .inl kr)), (h5, .inl (cy 1, 81, .inl (fun _ => 0)))]) (r_V (q0 := 0) (As := [.int 1]) (rest := []) (wc := [(h, .inr (0, [.int 0, .int 0, .int (-1), .ref h0, .ref h1, .ref h2, .ref h3, .ref h4, .int 0, .ref h5, .int 0, .int 0, .int 10, .int 1, .int 0, .int 5]))]) C (q_subP hP [2] rfl) (hD.sub [2] (by decide) rfl) (c_rareDoubt l D cy h 1 h0 h1 h2 h3 h4 h5 5 _ ) kwV_X0_areRareInDoubt kM_RX0_106 rfl rfl ⟨Nat.le_of_ble_eq_true rfl, Nat.le_of_ble_eq_true rfl⟩ rfl hl.1 rfl (Nat.le_of_ble_eq_true rfl) dX0_keepsFrom_114 ⟨Nat.le_of_ble_eq_true rfl, Nat.le_of_ble_eq_true rfl⟩) C.2.2.2.2.2.2.1 hP hD hS [2] [0, 1] rfl rfl (by decide) (by decide) (fun r_8 u_7 H locs hw_9 hP hD hS => ?_)
  have hP : va_P D vwCl [(h0, .inl (cy 1, 8, .inl kr)), (h5, .inl (cy 1, 81, .inl (fun _ => 0))), (h, .inr (0, [.int 0, .int 0, .int (-1), .ref h0, .ref h1, .ref h2, .ref h3, .ref h4, .int 0, .ref h5, .int 0, .int 0, .int 10, .int 1, .int 0, .int 5]))] H := hP
  have hD : va_D A [(h0, .inl (cy 1, 8, .inl kr)), (h5, .inl (cy 1, 81, .inl (fun _ => 0))), (h, .inr (0, [.int 0, .int 0, .int (-1), .ref h0, .ref h1, .ref h2, .ref h3, .ref h4, .int 0, .ref h5, .int 0, .int 0, .int 10, .int 1, .int 0, .int 5]))] := hD
  obtain rfl : r_8 = 1 := hw_9
  refine lv_if_eq (tgt := 155) hx hb dX0_keepsFrom_117 (by decide) (fun c_0 => absurd c_0 (by decide)) (fun _ => ?_)
  refine lv_aload_n hx hb dX0_keepsFrom_120 rfl (lv_at hl 4 rfl) ?_
  refine lv_iload_n hx hb dX0_keepsFrom_121 rfl (lv_at hl 5 rfl) ?_
  refine lv_iconst (v := 1) hx hb dX0_keepsFrom_122 (by decide) ?_
  refine lv_iadd hx hb dX0_keepsFrom_123 ?_
  refine q_val (v := 1) (by decide) ?_
  refine lv_iload hx hb dX0_keepsFrom_124 (lv_at hl 2 rfl) ?_
  refine lv_if_eq (tgt := 135) hx hb dX0_keepsFrom_126 (by decide) (fun _ => ?_) (fun c_0 => absurd (by decide) c_0)
  refine lv_iload_n hx hb dX0_keepsFrom_135 rfl (lv_at hl 6 rfl) ?_
  refine q_ai (wr := []) (r_V (q0 := 0) (As := [.int 1, .int 0]) (rest := []) (wc := [(h, .inr (0, [.int 0, .int 0, .int (-1), .ref h0, .ref h1, .ref h2, .ref h3, .ref h4, .int 0, .ref h5, .int 0, .int 0, .int 10, .int 1, .int 0, .int 5])), (h0, .inl (cy 1, 8, .inl kr)), (h5, .inl (cy 1, 81, .inl (fun _ => 0)))]) C (q_subP hP [2, 0, 1] rfl) (hD.sub [2, 0, 1] (by decide) rfl) (c_keeps_5_1 l D cy h h0 h1 h2 h3 h4 h5 kr _ ) kwV_X0_keepsFrom kM_RX0_95 rfl rfl ⟨Nat.le_of_ble_eq_true rfl, Nat.le_of_ble_eq_true rfl⟩ rfl hl.1 rfl (Nat.le_of_ble_eq_true rfl) dX0_keepsFrom_136 ⟨Nat.le_of_ble_eq_true rfl, Nat.le_of_ble_eq_true rfl⟩) C.2.2.2.2.2.2.1 hP hD hS [2, 0, 1] [] rfl rfl (by decide) (by decide) (fun r_11 u_10 H locs hw_12 hP hD hS => ?_)
  have hP : va_P D vwCl [(h, .inr (0, [.int 0, .int 0, .int (-1), .ref h0, .ref h1, .ref h2, .ref h3, .ref h4, .int 0, .ref h5, .int 0, .int 0, .int 10, .int 1, .int 0, .int 5])), (h0, .inl (cy 1, 8, .inl u_10)), (h5, .inl (cy 1, 81, .inl (fun _ => 0)))] H := hP
  have hD : va_D A [(h, .inr (0, [.int 0, .int 0, .int (-1), .ref h0, .ref h1, .ref h2, .ref h3, .ref h4, .int 0, .ref h5, .int 0, .int 0, .int 10, .int 1, .int 0, .int 5])), (h0, .inl (cy 1, 8, .inl u_10)), (h5, .inl (cy 1, 81, .inl (fun _ => 0)))] := hD
  obtain rfl : r_11 = 1 := hw_12
  refine lv_if_eq (tgt := 155) hx hb dX0_keepsFrom_139 (by decide) (fun c_0 => absurd c_0 (by decide)) (fun _ => ?_)
  refine lv_aload_n hx hb dX0_keepsFrom_142 rfl (lv_at hl 4 rfl) ?_
  refine q_get (v := .ref h0) C hP 0 3 rfl rfl inX0 (by decide) kF_RX0_21 rfl rfl dX0_keepsFrom_143 ?_
  refine lv_iload_n hx hb dX0_keepsFrom_146 rfl (lv_at hl 5 rfl) ?_
  refine lv_aload_n hx hb dX0_keepsFrom_147 rfl (lv_at hl 4 rfl) ?_
  refine lv_iload_n hx hb dX0_keepsFrom_148 rfl (lv_at hl 3 rfl) ?_
  refine q_ai (wr := [(h0, .inl (cy 1, 8, .inl u_10)), (h5, .inl (cy 1, 81, .inl (fun _ => 0)))]) (r_V (q0 := 0) (As := [.int 0]) (rest := [.int 0, .ref h0]) (wc := [(h, .inr (0, [.int 0, .int 0, .int (-1), .ref h0, .ref h1, .ref h2, .ref h3, .ref h4, .int 0, .ref h5, .int 0, .int 0, .int 10, .int 1, .int 0, .int 5]))]) C (q_subP hP [0] rfl) (hD.sub [0] (by decide) rfl) (c_bookChosen l D cy h h0 h1 h2 h3 h4 h5 5 _ ) kwV_X0_bookChosen kM_RX0_110 rfl rfl ⟨Nat.le_of_ble_eq_true rfl, Nat.le_of_ble_eq_true rfl⟩ rfl hl.1 rfl (Nat.le_of_ble_eq_true rfl) dX0_keepsFrom_149 ⟨Nat.le_of_ble_eq_true rfl, Nat.le_of_ble_eq_true rfl⟩) C.2.2.2.2.2.2.1 hP hD hS [0] [1, 2] rfl rfl (by decide) (by decide) (fun r_14 u_13 H locs hw_15 hP hD hS => ?_)
  have hP : va_P D vwCl [(h0, .inl (cy 1, 8, .inl u_10)), (h5, .inl (cy 1, 81, .inl (fun _ => 0))), (h, .inr (0, [.int 0, .int 0, .int (-1), .ref h0, .ref h1, .ref h2, .ref h3, .ref h4, .int 0, .ref h5, .int 0, .int 0, .int 10, .int 1, .int 0, .int 5]))] H := hP
  have hD : va_D A [(h0, .inl (cy 1, 8, .inl u_10)), (h5, .inl (cy 1, 81, .inl (fun _ => 0))), (h, .inr (0, [.int 0, .int 0, .int (-1), .ref h0, .ref h1, .ref h2, .ref h3, .ref h4, .int 0, .ref h5, .int 0, .int 0, .int 10, .int 1, .int 0, .int 5]))] := hD
  obtain rfl : r_14 = (-1) := hw_15
  refine q_iast (g := upd u_10 0 (-1)) (w' := [(h0, .inl (cy 1, 8, .inl (upd u_10 0 (-1)))), (h5, .inl (cy 1, 81, .inl (fun _ => 0))), (h, .inr (0, [.int 0, .int 0, .int (-1), .ref h0, .ref h1, .ref h2, .ref h3, .ref h4, .int 0, .ref h5, .int 0, .int 0, .int 10, .int 1, .int 0, .int 5]))]) C hP hD hS 0 rfl (vin (by decide +kernel)) rfl rfl dX0_keepsFrom_152 (fun H locs hP hD hS => ?_)
  refine lv_iconst (v := 1) hx hb dX0_keepsFrom_153 (by decide) ?_
  exact q_iret (rm := (Rm 5 130 0 0)) C hS (upd u_10 0 (-1)) rfl rfl (q_subP hP [2, 0, 1] rfl) (hD.sub [2, 0, 1] (by decide) rfl) (Nat.le_of_ble_eq_true rfl) (Nat.le_of_ble_eq_true rfl) dX0_keepsFrom_154
set_option maxHeartbeats 4000000 in
set_option maxRecDepth 100000 in
theorem c_fewest_5 (l : Launch) (D : va_G) (cy : Nat → ClassId) (h : Nat) (h0 : Nat) (h1 : Nat) (h2 : Nat) (h3 : Nat) (h4 : Nat) (h5 : Nat) (kr : Nat → Int32) (sz : Nat)  : MI l yX0_fewestAskings cX0_fewestAskings 2 (some .int) (Rm 6 156 0 0) D cy [.ref h] sz [(h, .inr (0, [.int 0, .int 0, .int (-1), .ref h0, .ref h1, .ref h2, .ref h3, .ref h4, .int 0, .ref h5, .int 0, .int 0, .int 10, .int 1, .int 0, .int 5])), (h0, .inl (cy 1, 8, .inl kr)), (h5, .inl (cy 1, 81, .inl (fun _ => 0)))] (fun (r : Int32) (u : Unit) => r = 0) (fun u : Unit => []) := by
  refine MI.enter (by decide) (Nat.le_of_ble_eq_true rfl) ?_
  intro p e s m below meth c ls A hsz hAe C hP hD hS hl
  have C : Cx p s m _ meth c cX0_fewestAskings 2 (some .int) RX0 "fewestAskings" D cy A := C
  have hx := C.1
  have hb := C.2.1
  have hl : lv_has ls 2 [(0, .ref h)] := hl
  refine lv_iconst (v := 0) hx hb dX0_fewestAskings_0 (by decide) ?_
  refine lv_istore_n (lv' := [(1, .int 0), (0, .ref h)]) hx hb dX0_fewestAskings_1 rfl hl (by decide) rfl (fun ls hl => ?_)
  refine lv_iload_n hx hb dX0_fewestAskings_2 rfl (lv_at hl 0 rfl) ?_
  refine lv_aload_n hx hb dX0_fewestAskings_3 rfl (lv_at hl 1 rfl) ?_
  refine q_get (v := .int 5) C hP 0 15 rfl rfl inX0 (by decide) kF_RX0_58 rfl rfl dX0_fewestAskings_4 ?_
  refine lv_icmp_gt (tgt := 35) hx hb dX0_fewestAskings_7 (by decide) (fun c_0 => absurd c_0 (by decide)) (fun _ => ?_)
  refine lv_aload_n hx hb dX0_fewestAskings_10 rfl (lv_at hl 1 rfl) ?_
  refine lv_iconst (v := 0) hx hb dX0_fewestAskings_11 (by decide) ?_
  refine lv_iload_n hx hb dX0_fewestAskings_12 rfl (lv_at hl 0 rfl) ?_
  refine q_ai (wr := []) (r_V (q0 := 0) (As := [.int 0, .int 0]) (rest := []) (wc := [(h, .inr (0, [.int 0, .int 0, .int (-1), .ref h0, .ref h1, .ref h2, .ref h3, .ref h4, .int 0, .ref h5, .int 0, .int 0, .int 10, .int 1, .int 0, .int 5])), (h0, .inl (cy 1, 8, .inl kr)), (h5, .inl (cy 1, 81, .inl (fun _ => 0)))]) C (q_subP hP [0, 1, 2] rfl) (hD.sub [0, 1, 2] (by decide) rfl) (c_keeps_5_0 l D cy h h0 h1 h2 h3 h4 h5 kr _ ) kwV_X0_keepsFrom kM_RX0_95 rfl rfl ⟨Nat.le_of_ble_eq_true rfl, Nat.le_of_ble_eq_true rfl⟩ rfl hl.1 rfl (Nat.le_of_ble_eq_true rfl) dX0_fewestAskings_13 ⟨Nat.le_of_ble_eq_true rfl, Nat.le_of_ble_eq_true rfl⟩) C.2.2.2.2.2.2.1 hP hD hS [0, 1, 2] [] rfl rfl (by decide) (by decide) (fun r_2 u_1 H locs hw_3 hP hD hS => ?_)
  have hP : va_P D vwCl [(h, .inr (0, [.int 0, .int 0, .int (-1), .ref h0, .ref h1, .ref h2, .ref h3, .ref h4, .int 0, .ref h5, .int 0, .int 0, .int 10, .int 1, .int 0, .int 5])), (h0, .inl (cy 1, 8, .inl u_1)), (h5, .inl (cy 1, 81, .inl (fun _ => 0)))] H := hP
  have hD : va_D A [(h, .inr (0, [.int 0, .int 0, .int (-1), .ref h0, .ref h1, .ref h2, .ref h3, .ref h4, .int 0, .ref h5, .int 0, .int 0, .int 10, .int 1, .int 0, .int 5])), (h0, .inl (cy 1, 8, .inl u_1)), (h5, .inl (cy 1, 81, .inl (fun _ => 0)))] := hD
  obtain rfl : r_2 = 1 := hw_3
  refine lv_if_eq (tgt := 29) hx hb dX0_fewestAskings_16 (by decide) (fun c_0 => absurd c_0 (by decide)) (fun _ => ?_)
  refine lv_aload_n hx hb dX0_fewestAskings_19 rfl (lv_at hl 1 rfl) ?_
  refine lv_aload_n hx hb dX0_fewestAskings_20 rfl (lv_at hl 1 rfl) ?_
  refine q_get (v := .int 5) C hP 0 15 rfl rfl inX0 (by decide) kF_RX0_58 rfl rfl dX0_fewestAskings_21 ?_
  refine q_put (v := .int 5) (w' := [(h, .inr (0, [.int 5, .int 0, .int (-1), .ref h0, .ref h1, .ref h2, .ref h3, .ref h4, .int 0, .ref h5, .int 0, .int 0, .int 10, .int 1, .int 0, .int 5])), (h0, .inl (cy 1, 8, .inl u_1)), (h5, .inl (cy 1, 81, .inl (fun _ => 0)))]) (ty := .int) C hP hD hS 0 0 rfl rfl inX0 tyX0 tyX0_ok nmX0 (by decide) kF_RX0_9 rfl rfl rfl rfl rfl (Nat.le_of_ble_eq_true rfl) rfl dX0_fewestAskings_24 (fun H locs hP hD hS => ?_)
  refine lv_iload_n hx hb dX0_fewestAskings_27 rfl (lv_at hl 0 rfl) ?_
  exact q_iret (rm := (Rm 6 156 0 0)) C hS () rfl rfl (q_subP hP [] rfl) (hD.sub [] (by decide) rfl) (Nat.le_of_ble_eq_true rfl) (Nat.le_of_ble_eq_true rfl) dX0_fewestAskings_28
set_option maxHeartbeats 4000000 in
set_option maxRecDepth 100000 in
theorem c_keeps_6_6 (l : Launch) (D : va_G) (cy : Nat → ClassId) (h : Nat) (h0 : Nat) (h1 : Nat) (h2 : Nat) (h3 : Nat) (h4 : Nat) (h5 : Nat) (kr : Nat → Int32) (sz : Nat)  : MI l yX0_keepsFrom cX0_keepsFrom 7 (some .boolean) (Rm 0 0 0 0) D cy [.ref h, .int 6, .int 0] sz [(h, .inr (0, [.int 0, .int 0, .int (-1), .ref h0, .ref h1, .ref h2, .ref h3, .ref h4, .int 0, .ref h5, .int 0, .int 0, .int 10, .int 1, .int 0, .int 6])), (h0, .inl (cy 1, 8, .inl kr)), (h5, .inl (cy 1, 81, .inl (fun _ => 0)))] (fun (r : Int32) (u : Nat → Int32) => r = 1) (fun u : Nat → Int32 => [(h, .inr (0, [.int 0, .int 0, .int (-1), .ref h0, .ref h1, .ref h2, .ref h3, .ref h4, .int 0, .ref h5, .int 0, .int 0, .int 10, .int 1, .int 0, .int 6])), (h0, .inl (cy 1, 8, .inl u)), (h5, .inl (cy 1, 81, .inl (fun _ => 0)))]) := by
  refine MI.enter (by decide) (Nat.le_of_ble_eq_true rfl) ?_
  intro p e s m below meth c ls A hsz hAe C hP hD hS hl
  have C : Cx p s m _ meth c cX0_keepsFrom 7 (some .boolean) RX0 "keepsFrom" D cy A := C
  have hx := C.1
  have hb := C.2.1
  have hl : lv_has ls 7 [(0, .ref h), (1, .int 6), (2, .int 0)] := hl
  refine lv_iload_n hx hb dX0_keepsFrom_0 rfl (lv_at hl 1 rfl) ?_
  refine lv_aload_n hx hb dX0_keepsFrom_1 rfl (lv_at hl 0 rfl) ?_
  refine q_get (v := .int 6) C hP 0 15 rfl rfl inX0 (by decide) kF_RX0_58 rfl rfl dX0_keepsFrom_2 ?_
  refine lv_icmp_lt (tgt := 10) hx hb dX0_keepsFrom_5 (by decide) (fun c_0 => absurd c_0 (by decide)) (fun _ => ?_)
  refine lv_iconst (v := 1) hx hb dX0_keepsFrom_8 (by decide) ?_
  exact q_iret (rm := (Rm 0 0 0 0)) C hS (kr) rfl rfl (q_subP hP [0, 1, 2] rfl) (hD.sub [0, 1, 2] (by decide) rfl) (Nat.le_of_ble_eq_true rfl) (Nat.le_of_ble_eq_true rfl) dX0_keepsFrom_9
set_option maxHeartbeats 4000000 in
set_option maxRecDepth 100000 in
theorem c_keeps_6_5 (l : Launch) (D : va_G) (cy : Nat → ClassId) (h : Nat) (h0 : Nat) (h1 : Nat) (h2 : Nat) (h3 : Nat) (h4 : Nat) (h5 : Nat) (kr : Nat → Int32) (sz : Nat)  : MI l yX0_keepsFrom cX0_keepsFrom 7 (some .boolean) (Rm 1 26 0 0) D cy [.ref h, .int 5, .int 0] sz [(h, .inr (0, [.int 0, .int 0, .int (-1), .ref h0, .ref h1, .ref h2, .ref h3, .ref h4, .int 0, .ref h5, .int 0, .int 0, .int 10, .int 1, .int 0, .int 6])), (h0, .inl (cy 1, 8, .inl kr)), (h5, .inl (cy 1, 81, .inl (fun _ => 0)))] (fun (r : Int32) (u : Nat → Int32) => r = 1) (fun u : Nat → Int32 => [(h, .inr (0, [.int 0, .int 0, .int (-1), .ref h0, .ref h1, .ref h2, .ref h3, .ref h4, .int 0, .ref h5, .int 0, .int 0, .int 10, .int 1, .int 0, .int 6])), (h0, .inl (cy 1, 8, .inl u)), (h5, .inl (cy 1, 81, .inl (fun _ => 0)))]) := by
  refine MI.enter (by decide) (Nat.le_of_ble_eq_true rfl) ?_
  intro p e s m below meth c ls A hsz hAe C hP hD hS hl
  have C : Cx p s m _ meth c cX0_keepsFrom 7 (some .boolean) RX0 "keepsFrom" D cy A := C
  have hx := C.1
  have hb := C.2.1
  have hl : lv_has ls 7 [(0, .ref h), (1, .int 5), (2, .int 0)] := hl
  refine lv_iload_n hx hb dX0_keepsFrom_0 rfl (lv_at hl 1 rfl) ?_
  refine lv_aload_n hx hb dX0_keepsFrom_1 rfl (lv_at hl 0 rfl) ?_
  refine q_get (v := .int 6) C hP 0 15 rfl rfl inX0 (by decide) kF_RX0_58 rfl rfl dX0_keepsFrom_2 ?_
  refine lv_icmp_lt (tgt := 10) hx hb dX0_keepsFrom_5 (by decide) (fun _ => ?_) (fun c_0 => absurd (by decide) c_0)
  refine lv_aload_n hx hb dX0_keepsFrom_10 rfl (lv_at hl 0 rfl) ?_
  refine lv_iload_n hx hb dX0_keepsFrom_11 rfl (lv_at hl 1 rfl) ?_
  refine q_ai (wr := [(h0, .inl (cy 1, 8, .inl kr)), (h5, .inl (cy 1, 81, .inl (fun _ => 0)))]) (r_V (q0 := 0) (As := [.int 5]) (rest := []) (wc := [(h, .inr (0, [.int 0, .int 0, .int (-1), .ref h0, .ref h1, .ref h2, .ref h3, .ref h4, .int 0, .ref h5, .int 0, .int 0, .int 10, .int 1, .int 0, .int 6]))]) C (q_subP hP [0] rfl) (hD.sub [0] (by decide) rfl) (c_askNeeded l D cy h 5 h0 h1 h2 h3 h4 h5 6 _ ) kwV_X0_askingsNeeded kM_RX0_98 rfl rfl ⟨Nat.le_of_ble_eq_true rfl, Nat.le_of_ble_eq_true rfl⟩ rfl hl.1 rfl (Nat.le_of_ble_eq_true rfl) dX0_keepsFrom_12 ⟨Nat.le_of_ble_eq_true rfl, Nat.le_of_ble_eq_true rfl⟩) C.2.2.2.2.2.2.1 hP hD hS [0] [1, 2] rfl rfl (by decide) (by decide) (fun r_2 u_1 H locs hw_3 hP hD hS => ?_)
  have hP : va_P D vwCl [(h0, .inl (cy 1, 8, .inl kr)), (h5, .inl (cy 1, 81, .inl (fun _ => 0))), (h, .inr (0, [.int 0, .int 0, .int (-1), .ref h0, .ref h1, .ref h2, .ref h3, .ref h4, .int 0, .ref h5, .int 0, .int 0, .int 10, .int 1, .int 0, .int 6]))] H := hP
  have hD : va_D A [(h0, .inl (cy 1, 8, .inl kr)), (h5, .inl (cy 1, 81, .inl (fun _ => 0))), (h, .inr (0, [.int 0, .int 0, .int (-1), .ref h0, .ref h1, .ref h2, .ref h3, .ref h4, .int 0, .ref h5, .int 0, .int 0, .int 10, .int 1, .int 0, .int 6]))] := hD
  obtain rfl : r_2 = 0 := hw_3
  refine lv_iload_n hx hb dX0_keepsFrom_15 rfl (lv_at hl 2 rfl) ?_
  refine lv_icmp_le (tgt := 21) hx hb dX0_keepsFrom_16 (by decide) (fun _ => ?_) (fun c_0 => absurd (by decide) c_0)
  refine lv_aload_n hx hb dX0_keepsFrom_21 rfl (lv_at hl 0 rfl) ?_
  refine lv_iload_n hx hb dX0_keepsFrom_22 rfl (lv_at hl 1 rfl) ?_
  refine q_av (wr := [(h0, .inl (cy 1, 8, .inl kr)), (h5, .inl (cy 1, 81, .inl (fun _ => 0)))]) (r_V (q0 := 0) (As := [.int 5]) (rest := []) (wc := [(h, .inr (0, [.int 0, .int 0, .int (-1), .ref h0, .ref h1, .ref h2, .ref h3, .ref h4, .int 0, .ref h5, .int 0, .int 0, .int 10, .int 1, .int 0, .int 6]))]) C (q_subP hP [2] rfl) (hD.sub [2] (by decide) rfl) (c_passDay l D cy h 5 h0 h1 h2 h3 h4 h5 6 _ ) kwV_X0_passDay kM_RX0_102 rfl rfl ⟨Nat.le_of_ble_eq_true rfl, Nat.le_of_ble_eq_true rfl⟩ rfl hl.1 rfl (Nat.le_of_ble_eq_true rfl) dX0_keepsFrom_23 ⟨Nat.le_of_ble_eq_true rfl, Nat.le_of_ble_eq_true rfl⟩) C.2.2.2.2.2.2.1 hP hD hS [2] [0, 1] rfl rfl (by decide) (by decide) (fun u_4 H locs hw_6 hP hD hS => ?_)
  have hP : va_P D vwCl [(h0, .inl (cy 1, 8, .inl kr)), (h5, .inl (cy 1, 81, .inl (fun _ => 0))), (h, .inr (0, [.int 0, .int 0, .int (-1), .ref h0, .ref h1, .ref h2, .ref h3, .ref h4, .int 0, .ref h5, .int 0, .int 0, .int 10, .int 1, .int 0, .int 6]))] H := hP
  have hD : va_D A [(h0, .inl (cy 1, 8, .inl kr)), (h5, .inl (cy 1, 81, .inl (fun _ => 0))), (h, .inr (0, [.int 0, .int 0, .int (-1), .ref h0, .ref h1, .ref h2, .ref h3, .ref h4, .int 0, .ref h5, .int 0, .int 0, .int 10, .int 1, .int 0, .int 6]))] := hD
  refine lv_iconst (v := 0) hx hb dX0_keepsFrom_26 (by decide) ?_
  refine lv_istore_n (lv' := [(3, .int 0), (0, .ref h), (1, .int 5), (2, .int 0)]) hx hb dX0_keepsFrom_27 rfl hl (by decide) rfl (fun ls hl => ?_)
  refine lv_iload_n hx hb dX0_keepsFrom_28 rfl (lv_at hl 0 rfl) ?_
  refine lv_aload_n hx hb dX0_keepsFrom_29 rfl (lv_at hl 1 rfl) ?_
  refine q_get (v := .int 0) C hP 2 10 rfl rfl inX0 (by decide) kF_RX0_43 rfl rfl dX0_keepsFrom_30 ?_
  refine lv_icmp_gt (tgt := 170) hx hb dX0_keepsFrom_33 (by decide) (fun c_0 => absurd c_0 (by decide)) (fun _ => ?_)
  refine lv_iload_n hx hb dX0_keepsFrom_36 rfl (lv_at hl 0 rfl) ?_
  refine lv_aload_n hx hb dX0_keepsFrom_37 rfl (lv_at hl 1 rfl) ?_
  refine q_get (v := .int 0) C hP 2 10 rfl rfl inX0 (by decide) kF_RX0_43 rfl rfl dX0_keepsFrom_38 ?_
  refine lv_icmp_ge (tgt := 48) hx hb dX0_keepsFrom_41 (by decide) (fun _ => ?_) (fun c_0 => absurd (by decide) c_0)
  refine lv_iconst (v := 0) hx hb dX0_keepsFrom_48 (by decide) ?_
  refine lv_istore (lv' := [(4, .int 0), (3, .int 0), (0, .ref h), (1, .int 5), (2, .int 0)]) hx hb dX0_keepsFrom_49 hl (by decide) rfl (fun ls hl => ?_)
  refine lv_iload hx hb dX0_keepsFrom_51 (lv_at hl 0 rfl) ?_
  refine lv_if_eq (tgt := 83) hx hb dX0_keepsFrom_53 (by decide) (fun _ => ?_) (fun c_0 => absurd (by decide) c_0)
  refine lv_iload_n hx hb dX0_keepsFrom_83 rfl (lv_at hl 3 rfl) ?_
  refine lv_iconst (v := 1) hx hb dX0_keepsFrom_84 (by decide) ?_
  refine lv_iadd hx hb dX0_keepsFrom_85 ?_
  refine q_val (v := 6) (by decide) ?_
  refine lv_bipush (v := 9) hx hb dX0_keepsFrom_86 (by decide) ?_
  refine lv_imul hx hb dX0_keepsFrom_88 ?_
  refine q_val (v := 54) (by decide) ?_
  refine lv_iload_n hx hb dX0_keepsFrom_89 rfl (lv_at hl 1 rfl) ?_
  refine lv_iadd hx hb dX0_keepsFrom_90 ?_
  refine q_val (v := 54) (by decide) ?_
  refine lv_istore (lv' := [(5, .int 54), (4, .int 0), (3, .int 0), (0, .ref h), (1, .int 5), (2, .int 0)]) hx hb dX0_keepsFrom_91 hl (by decide) rfl (fun ls hl => ?_)
  refine lv_aload_n hx hb dX0_keepsFrom_93 rfl (lv_at hl 3 rfl) ?_
  refine q_get (v := .ref h5) C hP 2 9 rfl rfl inX0 (by decide) kF_RX0_40 rfl rfl dX0_keepsFrom_94 ?_
  refine lv_iload hx hb dX0_keepsFrom_97 (lv_at hl 0 rfl) ?_
  refine q_iald (v := 0) C hP 1 rfl (vin (by decide +kernel)) rfl dX0_keepsFrom_99 ?_
  refine lv_istore (lv' := [(6, .int 0), (5, .int 54), (4, .int 0), (3, .int 0), (0, .ref h), (1, .int 5), (2, .int 0)]) hx hb dX0_keepsFrom_100 hl (by decide) rfl (fun ls hl => ?_)
  refine lv_aload_n hx hb dX0_keepsFrom_102 rfl (lv_at hl 4 rfl) ?_
  refine q_get (v := .ref h5) C hP 2 9 rfl rfl inX0 (by decide) kF_RX0_40 rfl rfl dX0_keepsFrom_103 ?_
  refine lv_iload hx hb dX0_keepsFrom_106 (lv_at hl 1 rfl) ?_
  refine lv_iconst (v := 0) hx hb dX0_keepsFrom_108 (by decide) ?_
  refine q_iast (g := fun _ => 0) (w' := [(h0, .inl (cy 1, 8, .inl kr)), (h5, .inl (cy 1, 81, .inl (fun _ => 0))), (h, .inr (0, [.int 0, .int 0, .int (-1), .ref h0, .ref h1, .ref h2, .ref h3, .ref h4, .int 0, .ref h5, .int 0, .int 0, .int 10, .int 1, .int 0, .int 6]))]) C hP hD hS 1 rfl (vin (by decide +kernel)) (updz _) rfl dX0_keepsFrom_109 (fun H locs hP hD hS => ?_)
  refine lv_aload_n hx hb dX0_keepsFrom_110 rfl (lv_at hl 4 rfl) ?_
  refine lv_iload_n hx hb dX0_keepsFrom_111 rfl (lv_at hl 5 rfl) ?_
  refine lv_iconst (v := 1) hx hb dX0_keepsFrom_112 (by decide) ?_
  refine lv_iadd hx hb dX0_keepsFrom_113 ?_
  refine q_val (v := 6) (by decide) ?_
  refine q_ai (wr := [(h0, .inl (cy 1, 8, .inl kr)), (h5, .inl (cy 1, 81, .inl (fun _ => 0)))]) (r_V (q0 := 0) (As := [.int 6]) (rest := []) (wc := [(h, .inr (0, [.int 0, .int 0, .int (-1), .ref h0, .ref h1, .ref h2, .ref h3, .ref h4, .int 0, .ref h5, .int 0, .int 0, .int 10, .int 1, .int 0, .int 6]))]) C (q_subP hP [2] rfl) (hD.sub [2] (by decide) rfl) (c_rareDoubt l D cy h 6 h0 h1 h2 h3 h4 h5 6 _ ) kwV_X0_areRareInDoubt kM_RX0_106 rfl rfl ⟨Nat.le_of_ble_eq_true rfl, Nat.le_of_ble_eq_true rfl⟩ rfl hl.1 rfl (Nat.le_of_ble_eq_true rfl) dX0_keepsFrom_114 ⟨Nat.le_of_ble_eq_true rfl, Nat.le_of_ble_eq_true rfl⟩) C.2.2.2.2.2.2.1 hP hD hS [2] [0, 1] rfl rfl (by decide) (by decide) (fun r_8 u_7 H locs hw_9 hP hD hS => ?_)
  have hP : va_P D vwCl [(h0, .inl (cy 1, 8, .inl kr)), (h5, .inl (cy 1, 81, .inl (fun _ => 0))), (h, .inr (0, [.int 0, .int 0, .int (-1), .ref h0, .ref h1, .ref h2, .ref h3, .ref h4, .int 0, .ref h5, .int 0, .int 0, .int 10, .int 1, .int 0, .int 6]))] H := hP
  have hD : va_D A [(h0, .inl (cy 1, 8, .inl kr)), (h5, .inl (cy 1, 81, .inl (fun _ => 0))), (h, .inr (0, [.int 0, .int 0, .int (-1), .ref h0, .ref h1, .ref h2, .ref h3, .ref h4, .int 0, .ref h5, .int 0, .int 0, .int 10, .int 1, .int 0, .int 6]))] := hD
  obtain rfl : r_8 = 1 := hw_9
  refine lv_if_eq (tgt := 155) hx hb dX0_keepsFrom_117 (by decide) (fun c_0 => absurd c_0 (by decide)) (fun _ => ?_)
  refine lv_aload_n hx hb dX0_keepsFrom_120 rfl (lv_at hl 4 rfl) ?_
  refine lv_iload_n hx hb dX0_keepsFrom_121 rfl (lv_at hl 5 rfl) ?_
  refine lv_iconst (v := 1) hx hb dX0_keepsFrom_122 (by decide) ?_
  refine lv_iadd hx hb dX0_keepsFrom_123 ?_
  refine q_val (v := 6) (by decide) ?_
  refine lv_iload hx hb dX0_keepsFrom_124 (lv_at hl 2 rfl) ?_
  refine lv_if_eq (tgt := 135) hx hb dX0_keepsFrom_126 (by decide) (fun _ => ?_) (fun c_0 => absurd (by decide) c_0)
  refine lv_iload_n hx hb dX0_keepsFrom_135 rfl (lv_at hl 6 rfl) ?_
  refine q_ai (wr := []) (r_V (q0 := 0) (As := [.int 6, .int 0]) (rest := []) (wc := [(h, .inr (0, [.int 0, .int 0, .int (-1), .ref h0, .ref h1, .ref h2, .ref h3, .ref h4, .int 0, .ref h5, .int 0, .int 0, .int 10, .int 1, .int 0, .int 6])), (h0, .inl (cy 1, 8, .inl kr)), (h5, .inl (cy 1, 81, .inl (fun _ => 0)))]) C (q_subP hP [2, 0, 1] rfl) (hD.sub [2, 0, 1] (by decide) rfl) (c_keeps_6_6 l D cy h h0 h1 h2 h3 h4 h5 kr _ ) kwV_X0_keepsFrom kM_RX0_95 rfl rfl ⟨Nat.le_of_ble_eq_true rfl, Nat.le_of_ble_eq_true rfl⟩ rfl hl.1 rfl (Nat.le_of_ble_eq_true rfl) dX0_keepsFrom_136 ⟨Nat.le_of_ble_eq_true rfl, Nat.le_of_ble_eq_true rfl⟩) C.2.2.2.2.2.2.1 hP hD hS [2, 0, 1] [] rfl rfl (by decide) (by decide) (fun r_11 u_10 H locs hw_12 hP hD hS => ?_)
  have hP : va_P D vwCl [(h, .inr (0, [.int 0, .int 0, .int (-1), .ref h0, .ref h1, .ref h2, .ref h3, .ref h4, .int 0, .ref h5, .int 0, .int 0, .int 10, .int 1, .int 0, .int 6])), (h0, .inl (cy 1, 8, .inl u_10)), (h5, .inl (cy 1, 81, .inl (fun _ => 0)))] H := hP
  have hD : va_D A [(h, .inr (0, [.int 0, .int 0, .int (-1), .ref h0, .ref h1, .ref h2, .ref h3, .ref h4, .int 0, .ref h5, .int 0, .int 0, .int 10, .int 1, .int 0, .int 6])), (h0, .inl (cy 1, 8, .inl u_10)), (h5, .inl (cy 1, 81, .inl (fun _ => 0)))] := hD
  obtain rfl : r_11 = 1 := hw_12
  refine lv_if_eq (tgt := 155) hx hb dX0_keepsFrom_139 (by decide) (fun c_0 => absurd c_0 (by decide)) (fun _ => ?_)
  refine lv_aload_n hx hb dX0_keepsFrom_142 rfl (lv_at hl 4 rfl) ?_
  refine q_get (v := .ref h0) C hP 0 3 rfl rfl inX0 (by decide) kF_RX0_21 rfl rfl dX0_keepsFrom_143 ?_
  refine lv_iload_n hx hb dX0_keepsFrom_146 rfl (lv_at hl 5 rfl) ?_
  refine lv_aload_n hx hb dX0_keepsFrom_147 rfl (lv_at hl 4 rfl) ?_
  refine lv_iload_n hx hb dX0_keepsFrom_148 rfl (lv_at hl 3 rfl) ?_
  refine q_ai (wr := [(h0, .inl (cy 1, 8, .inl u_10)), (h5, .inl (cy 1, 81, .inl (fun _ => 0)))]) (r_V (q0 := 0) (As := [.int 0]) (rest := [.int 5, .ref h0]) (wc := [(h, .inr (0, [.int 0, .int 0, .int (-1), .ref h0, .ref h1, .ref h2, .ref h3, .ref h4, .int 0, .ref h5, .int 0, .int 0, .int 10, .int 1, .int 0, .int 6]))]) C (q_subP hP [0] rfl) (hD.sub [0] (by decide) rfl) (c_bookChosen l D cy h h0 h1 h2 h3 h4 h5 6 _ ) kwV_X0_bookChosen kM_RX0_110 rfl rfl ⟨Nat.le_of_ble_eq_true rfl, Nat.le_of_ble_eq_true rfl⟩ rfl hl.1 rfl (Nat.le_of_ble_eq_true rfl) dX0_keepsFrom_149 ⟨Nat.le_of_ble_eq_true rfl, Nat.le_of_ble_eq_true rfl⟩) C.2.2.2.2.2.2.1 hP hD hS [0] [1, 2] rfl rfl (by decide) (by decide) (fun r_14 u_13 H locs hw_15 hP hD hS => ?_)
  have hP : va_P D vwCl [(h0, .inl (cy 1, 8, .inl u_10)), (h5, .inl (cy 1, 81, .inl (fun _ => 0))), (h, .inr (0, [.int 0, .int 0, .int (-1), .ref h0, .ref h1, .ref h2, .ref h3, .ref h4, .int 0, .ref h5, .int 0, .int 0, .int 10, .int 1, .int 0, .int 6]))] H := hP
  have hD : va_D A [(h0, .inl (cy 1, 8, .inl u_10)), (h5, .inl (cy 1, 81, .inl (fun _ => 0))), (h, .inr (0, [.int 0, .int 0, .int (-1), .ref h0, .ref h1, .ref h2, .ref h3, .ref h4, .int 0, .ref h5, .int 0, .int 0, .int 10, .int 1, .int 0, .int 6]))] := hD
  obtain rfl : r_14 = (-1) := hw_15
  refine q_iast (g := upd u_10 5 (-1)) (w' := [(h0, .inl (cy 1, 8, .inl (upd u_10 5 (-1)))), (h5, .inl (cy 1, 81, .inl (fun _ => 0))), (h, .inr (0, [.int 0, .int 0, .int (-1), .ref h0, .ref h1, .ref h2, .ref h3, .ref h4, .int 0, .ref h5, .int 0, .int 0, .int 10, .int 1, .int 0, .int 6]))]) C hP hD hS 0 rfl (vin (by decide +kernel)) rfl rfl dX0_keepsFrom_152 (fun H locs hP hD hS => ?_)
  refine lv_iconst (v := 1) hx hb dX0_keepsFrom_153 (by decide) ?_
  exact q_iret (rm := (Rm 1 26 0 0)) C hS (upd u_10 5 (-1)) rfl rfl (q_subP hP [2, 0, 1] rfl) (hD.sub [2, 0, 1] (by decide) rfl) (Nat.le_of_ble_eq_true rfl) (Nat.le_of_ble_eq_true rfl) dX0_keepsFrom_154
set_option maxHeartbeats 4000000 in
set_option maxRecDepth 100000 in
theorem c_keeps_6_4 (l : Launch) (D : va_G) (cy : Nat → ClassId) (h : Nat) (h0 : Nat) (h1 : Nat) (h2 : Nat) (h3 : Nat) (h4 : Nat) (h5 : Nat) (kr : Nat → Int32) (sz : Nat)  : MI l yX0_keepsFrom cX0_keepsFrom 7 (some .boolean) (Rm 2 52 0 0) D cy [.ref h, .int 4, .int 0] sz [(h, .inr (0, [.int 0, .int 0, .int (-1), .ref h0, .ref h1, .ref h2, .ref h3, .ref h4, .int 0, .ref h5, .int 0, .int 0, .int 10, .int 1, .int 0, .int 6])), (h0, .inl (cy 1, 8, .inl kr)), (h5, .inl (cy 1, 81, .inl (fun _ => 0)))] (fun (r : Int32) (u : Nat → Int32) => r = 1) (fun u : Nat → Int32 => [(h, .inr (0, [.int 0, .int 0, .int (-1), .ref h0, .ref h1, .ref h2, .ref h3, .ref h4, .int 0, .ref h5, .int 0, .int 0, .int 10, .int 1, .int 0, .int 6])), (h0, .inl (cy 1, 8, .inl u)), (h5, .inl (cy 1, 81, .inl (fun _ => 0)))]) := by
  refine MI.enter (by decide) (Nat.le_of_ble_eq_true rfl) ?_
  intro p e s m below meth c ls A hsz hAe C hP hD hS hl
  have C : Cx p s m _ meth c cX0_keepsFrom 7 (some .boolean) RX0 "keepsFrom" D cy A := C
  have hx := C.1
  have hb := C.2.1
  have hl : lv_has ls 7 [(0, .ref h), (1, .int 4), (2, .int 0)] := hl
  refine lv_iload_n hx hb dX0_keepsFrom_0 rfl (lv_at hl 1 rfl) ?_
  refine lv_aload_n hx hb dX0_keepsFrom_1 rfl (lv_at hl 0 rfl) ?_
  refine q_get (v := .int 6) C hP 0 15 rfl rfl inX0 (by decide) kF_RX0_58 rfl rfl dX0_keepsFrom_2 ?_
  refine lv_icmp_lt (tgt := 10) hx hb dX0_keepsFrom_5 (by decide) (fun _ => ?_) (fun c_0 => absurd (by decide) c_0)
  refine lv_aload_n hx hb dX0_keepsFrom_10 rfl (lv_at hl 0 rfl) ?_
  refine lv_iload_n hx hb dX0_keepsFrom_11 rfl (lv_at hl 1 rfl) ?_
  refine q_ai (wr := [(h0, .inl (cy 1, 8, .inl kr)), (h5, .inl (cy 1, 81, .inl (fun _ => 0)))]) (r_V (q0 := 0) (As := [.int 4]) (rest := []) (wc := [(h, .inr (0, [.int 0, .int 0, .int (-1), .ref h0, .ref h1, .ref h2, .ref h3, .ref h4, .int 0, .ref h5, .int 0, .int 0, .int 10, .int 1, .int 0, .int 6]))]) C (q_subP hP [0] rfl) (hD.sub [0] (by decide) rfl) (c_askNeeded l D cy h 4 h0 h1 h2 h3 h4 h5 6 _ ) kwV_X0_askingsNeeded kM_RX0_98 rfl rfl ⟨Nat.le_of_ble_eq_true rfl, Nat.le_of_ble_eq_true rfl⟩ rfl hl.1 rfl (Nat.le_of_ble_eq_true rfl) dX0_keepsFrom_12 ⟨Nat.le_of_ble_eq_true rfl, Nat.le_of_ble_eq_true rfl⟩) C.2.2.2.2.2.2.1 hP hD hS [0] [1, 2] rfl rfl (by decide) (by decide) (fun r_2 u_1 H locs hw_3 hP hD hS => ?_)
  have hP : va_P D vwCl [(h0, .inl (cy 1, 8, .inl kr)), (h5, .inl (cy 1, 81, .inl (fun _ => 0))), (h, .inr (0, [.int 0, .int 0, .int (-1), .ref h0, .ref h1, .ref h2, .ref h3, .ref h4, .int 0, .ref h5, .int 0, .int 0, .int 10, .int 1, .int 0, .int 6]))] H := hP
  have hD : va_D A [(h0, .inl (cy 1, 8, .inl kr)), (h5, .inl (cy 1, 81, .inl (fun _ => 0))), (h, .inr (0, [.int 0, .int 0, .int (-1), .ref h0, .ref h1, .ref h2, .ref h3, .ref h4, .int 0, .ref h5, .int 0, .int 0, .int 10, .int 1, .int 0, .int 6]))] := hD
  obtain rfl : r_2 = 0 := hw_3
  refine lv_iload_n hx hb dX0_keepsFrom_15 rfl (lv_at hl 2 rfl) ?_
  refine lv_icmp_le (tgt := 21) hx hb dX0_keepsFrom_16 (by decide) (fun _ => ?_) (fun c_0 => absurd (by decide) c_0)
  refine lv_aload_n hx hb dX0_keepsFrom_21 rfl (lv_at hl 0 rfl) ?_
  refine lv_iload_n hx hb dX0_keepsFrom_22 rfl (lv_at hl 1 rfl) ?_
  refine q_av (wr := [(h0, .inl (cy 1, 8, .inl kr)), (h5, .inl (cy 1, 81, .inl (fun _ => 0)))]) (r_V (q0 := 0) (As := [.int 4]) (rest := []) (wc := [(h, .inr (0, [.int 0, .int 0, .int (-1), .ref h0, .ref h1, .ref h2, .ref h3, .ref h4, .int 0, .ref h5, .int 0, .int 0, .int 10, .int 1, .int 0, .int 6]))]) C (q_subP hP [2] rfl) (hD.sub [2] (by decide) rfl) (c_passDay l D cy h 4 h0 h1 h2 h3 h4 h5 6 _ ) kwV_X0_passDay kM_RX0_102 rfl rfl ⟨Nat.le_of_ble_eq_true rfl, Nat.le_of_ble_eq_true rfl⟩ rfl hl.1 rfl (Nat.le_of_ble_eq_true rfl) dX0_keepsFrom_23 ⟨Nat.le_of_ble_eq_true rfl, Nat.le_of_ble_eq_true rfl⟩) C.2.2.2.2.2.2.1 hP hD hS [2] [0, 1] rfl rfl (by decide) (by decide) (fun u_4 H locs hw_6 hP hD hS => ?_)
  have hP : va_P D vwCl [(h0, .inl (cy 1, 8, .inl kr)), (h5, .inl (cy 1, 81, .inl (fun _ => 0))), (h, .inr (0, [.int 0, .int 0, .int (-1), .ref h0, .ref h1, .ref h2, .ref h3, .ref h4, .int 0, .ref h5, .int 0, .int 0, .int 10, .int 1, .int 0, .int 6]))] H := hP
  have hD : va_D A [(h0, .inl (cy 1, 8, .inl kr)), (h5, .inl (cy 1, 81, .inl (fun _ => 0))), (h, .inr (0, [.int 0, .int 0, .int (-1), .ref h0, .ref h1, .ref h2, .ref h3, .ref h4, .int 0, .ref h5, .int 0, .int 0, .int 10, .int 1, .int 0, .int 6]))] := hD
  refine lv_iconst (v := 0) hx hb dX0_keepsFrom_26 (by decide) ?_
  refine lv_istore_n (lv' := [(3, .int 0), (0, .ref h), (1, .int 4), (2, .int 0)]) hx hb dX0_keepsFrom_27 rfl hl (by decide) rfl (fun ls hl => ?_)
  refine lv_iload_n hx hb dX0_keepsFrom_28 rfl (lv_at hl 0 rfl) ?_
  refine lv_aload_n hx hb dX0_keepsFrom_29 rfl (lv_at hl 1 rfl) ?_
  refine q_get (v := .int 0) C hP 2 10 rfl rfl inX0 (by decide) kF_RX0_43 rfl rfl dX0_keepsFrom_30 ?_
  refine lv_icmp_gt (tgt := 170) hx hb dX0_keepsFrom_33 (by decide) (fun c_0 => absurd c_0 (by decide)) (fun _ => ?_)
  refine lv_iload_n hx hb dX0_keepsFrom_36 rfl (lv_at hl 0 rfl) ?_
  refine lv_aload_n hx hb dX0_keepsFrom_37 rfl (lv_at hl 1 rfl) ?_
  refine q_get (v := .int 0) C hP 2 10 rfl rfl inX0 (by decide) kF_RX0_43 rfl rfl dX0_keepsFrom_38 ?_
  refine lv_icmp_ge (tgt := 48) hx hb dX0_keepsFrom_41 (by decide) (fun _ => ?_) (fun c_0 => absurd (by decide) c_0)
  refine lv_iconst (v := 0) hx hb dX0_keepsFrom_48 (by decide) ?_
  refine lv_istore (lv' := [(4, .int 0), (3, .int 0), (0, .ref h), (1, .int 4), (2, .int 0)]) hx hb dX0_keepsFrom_49 hl (by decide) rfl (fun ls hl => ?_)
  refine lv_iload hx hb dX0_keepsFrom_51 (lv_at hl 0 rfl) ?_
  refine lv_if_eq (tgt := 83) hx hb dX0_keepsFrom_53 (by decide) (fun _ => ?_) (fun c_0 => absurd (by decide) c_0)
  refine lv_iload_n hx hb dX0_keepsFrom_83 rfl (lv_at hl 3 rfl) ?_
  refine lv_iconst (v := 1) hx hb dX0_keepsFrom_84 (by decide) ?_
  refine lv_iadd hx hb dX0_keepsFrom_85 ?_
  refine q_val (v := 5) (by decide) ?_
  refine lv_bipush (v := 9) hx hb dX0_keepsFrom_86 (by decide) ?_
  refine lv_imul hx hb dX0_keepsFrom_88 ?_
  refine q_val (v := 45) (by decide) ?_
  refine lv_iload_n hx hb dX0_keepsFrom_89 rfl (lv_at hl 1 rfl) ?_
  refine lv_iadd hx hb dX0_keepsFrom_90 ?_
  refine q_val (v := 45) (by decide) ?_
  refine lv_istore (lv' := [(5, .int 45), (4, .int 0), (3, .int 0), (0, .ref h), (1, .int 4), (2, .int 0)]) hx hb dX0_keepsFrom_91 hl (by decide) rfl (fun ls hl => ?_)
  refine lv_aload_n hx hb dX0_keepsFrom_93 rfl (lv_at hl 3 rfl) ?_
  refine q_get (v := .ref h5) C hP 2 9 rfl rfl inX0 (by decide) kF_RX0_40 rfl rfl dX0_keepsFrom_94 ?_
  refine lv_iload hx hb dX0_keepsFrom_97 (lv_at hl 0 rfl) ?_
  refine q_iald (v := 0) C hP 1 rfl (vin (by decide +kernel)) rfl dX0_keepsFrom_99 ?_
  refine lv_istore (lv' := [(6, .int 0), (5, .int 45), (4, .int 0), (3, .int 0), (0, .ref h), (1, .int 4), (2, .int 0)]) hx hb dX0_keepsFrom_100 hl (by decide) rfl (fun ls hl => ?_)
  refine lv_aload_n hx hb dX0_keepsFrom_102 rfl (lv_at hl 4 rfl) ?_
  refine q_get (v := .ref h5) C hP 2 9 rfl rfl inX0 (by decide) kF_RX0_40 rfl rfl dX0_keepsFrom_103 ?_
  refine lv_iload hx hb dX0_keepsFrom_106 (lv_at hl 1 rfl) ?_
  refine lv_iconst (v := 0) hx hb dX0_keepsFrom_108 (by decide) ?_
  refine q_iast (g := fun _ => 0) (w' := [(h0, .inl (cy 1, 8, .inl kr)), (h5, .inl (cy 1, 81, .inl (fun _ => 0))), (h, .inr (0, [.int 0, .int 0, .int (-1), .ref h0, .ref h1, .ref h2, .ref h3, .ref h4, .int 0, .ref h5, .int 0, .int 0, .int 10, .int 1, .int 0, .int 6]))]) C hP hD hS 1 rfl (vin (by decide +kernel)) (updz _) rfl dX0_keepsFrom_109 (fun H locs hP hD hS => ?_)
  refine lv_aload_n hx hb dX0_keepsFrom_110 rfl (lv_at hl 4 rfl) ?_
  refine lv_iload_n hx hb dX0_keepsFrom_111 rfl (lv_at hl 5 rfl) ?_
  refine lv_iconst (v := 1) hx hb dX0_keepsFrom_112 (by decide) ?_
  refine lv_iadd hx hb dX0_keepsFrom_113 ?_
  refine q_val (v := 5) (by decide) ?_
  refine q_ai (wr := [(h0, .inl (cy 1, 8, .inl kr)), (h5, .inl (cy 1, 81, .inl (fun _ => 0)))]) (r_V (q0 := 0) (As := [.int 5]) (rest := []) (wc := [(h, .inr (0, [.int 0, .int 0, .int (-1), .ref h0, .ref h1, .ref h2, .ref h3, .ref h4, .int 0, .ref h5, .int 0, .int 0, .int 10, .int 1, .int 0, .int 6]))]) C (q_subP hP [2] rfl) (hD.sub [2] (by decide) rfl) (c_rareDoubt l D cy h 5 h0 h1 h2 h3 h4 h5 6 _ ) kwV_X0_areRareInDoubt kM_RX0_106 rfl rfl ⟨Nat.le_of_ble_eq_true rfl, Nat.le_of_ble_eq_true rfl⟩ rfl hl.1 rfl (Nat.le_of_ble_eq_true rfl) dX0_keepsFrom_114 ⟨Nat.le_of_ble_eq_true rfl, Nat.le_of_ble_eq_true rfl⟩) C.2.2.2.2.2.2.1 hP hD hS [2] [0, 1] rfl rfl (by decide) (by decide) (fun r_8 u_7 H locs hw_9 hP hD hS => ?_)
  have hP : va_P D vwCl [(h0, .inl (cy 1, 8, .inl kr)), (h5, .inl (cy 1, 81, .inl (fun _ => 0))), (h, .inr (0, [.int 0, .int 0, .int (-1), .ref h0, .ref h1, .ref h2, .ref h3, .ref h4, .int 0, .ref h5, .int 0, .int 0, .int 10, .int 1, .int 0, .int 6]))] H := hP
  have hD : va_D A [(h0, .inl (cy 1, 8, .inl kr)), (h5, .inl (cy 1, 81, .inl (fun _ => 0))), (h, .inr (0, [.int 0, .int 0, .int (-1), .ref h0, .ref h1, .ref h2, .ref h3, .ref h4, .int 0, .ref h5, .int 0, .int 0, .int 10, .int 1, .int 0, .int 6]))] := hD
  obtain rfl : r_8 = 1 := hw_9
  refine lv_if_eq (tgt := 155) hx hb dX0_keepsFrom_117 (by decide) (fun c_0 => absurd c_0 (by decide)) (fun _ => ?_)
  refine lv_aload_n hx hb dX0_keepsFrom_120 rfl (lv_at hl 4 rfl) ?_
  refine lv_iload_n hx hb dX0_keepsFrom_121 rfl (lv_at hl 5 rfl) ?_
  refine lv_iconst (v := 1) hx hb dX0_keepsFrom_122 (by decide) ?_
  refine lv_iadd hx hb dX0_keepsFrom_123 ?_
  refine q_val (v := 5) (by decide) ?_
  refine lv_iload hx hb dX0_keepsFrom_124 (lv_at hl 2 rfl) ?_
  refine lv_if_eq (tgt := 135) hx hb dX0_keepsFrom_126 (by decide) (fun _ => ?_) (fun c_0 => absurd (by decide) c_0)
  refine lv_iload_n hx hb dX0_keepsFrom_135 rfl (lv_at hl 6 rfl) ?_
  refine q_ai (wr := []) (r_V (q0 := 0) (As := [.int 5, .int 0]) (rest := []) (wc := [(h, .inr (0, [.int 0, .int 0, .int (-1), .ref h0, .ref h1, .ref h2, .ref h3, .ref h4, .int 0, .ref h5, .int 0, .int 0, .int 10, .int 1, .int 0, .int 6])), (h0, .inl (cy 1, 8, .inl kr)), (h5, .inl (cy 1, 81, .inl (fun _ => 0)))]) C (q_subP hP [2, 0, 1] rfl) (hD.sub [2, 0, 1] (by decide) rfl) (c_keeps_6_5 l D cy h h0 h1 h2 h3 h4 h5 kr _ ) kwV_X0_keepsFrom kM_RX0_95 rfl rfl ⟨Nat.le_of_ble_eq_true rfl, Nat.le_of_ble_eq_true rfl⟩ rfl hl.1 rfl (Nat.le_of_ble_eq_true rfl) dX0_keepsFrom_136 ⟨Nat.le_of_ble_eq_true rfl, Nat.le_of_ble_eq_true rfl⟩) C.2.2.2.2.2.2.1 hP hD hS [2, 0, 1] [] rfl rfl (by decide) (by decide) (fun r_11 u_10 H locs hw_12 hP hD hS => ?_)
  have hP : va_P D vwCl [(h, .inr (0, [.int 0, .int 0, .int (-1), .ref h0, .ref h1, .ref h2, .ref h3, .ref h4, .int 0, .ref h5, .int 0, .int 0, .int 10, .int 1, .int 0, .int 6])), (h0, .inl (cy 1, 8, .inl u_10)), (h5, .inl (cy 1, 81, .inl (fun _ => 0)))] H := hP
  have hD : va_D A [(h, .inr (0, [.int 0, .int 0, .int (-1), .ref h0, .ref h1, .ref h2, .ref h3, .ref h4, .int 0, .ref h5, .int 0, .int 0, .int 10, .int 1, .int 0, .int 6])), (h0, .inl (cy 1, 8, .inl u_10)), (h5, .inl (cy 1, 81, .inl (fun _ => 0)))] := hD
  obtain rfl : r_11 = 1 := hw_12
  refine lv_if_eq (tgt := 155) hx hb dX0_keepsFrom_139 (by decide) (fun c_0 => absurd c_0 (by decide)) (fun _ => ?_)
  refine lv_aload_n hx hb dX0_keepsFrom_142 rfl (lv_at hl 4 rfl) ?_
  refine q_get (v := .ref h0) C hP 0 3 rfl rfl inX0 (by decide) kF_RX0_21 rfl rfl dX0_keepsFrom_143 ?_
  refine lv_iload_n hx hb dX0_keepsFrom_146 rfl (lv_at hl 5 rfl) ?_
  refine lv_aload_n hx hb dX0_keepsFrom_147 rfl (lv_at hl 4 rfl) ?_
  refine lv_iload_n hx hb dX0_keepsFrom_148 rfl (lv_at hl 3 rfl) ?_
  refine q_ai (wr := [(h0, .inl (cy 1, 8, .inl u_10)), (h5, .inl (cy 1, 81, .inl (fun _ => 0)))]) (r_V (q0 := 0) (As := [.int 0]) (rest := [.int 4, .ref h0]) (wc := [(h, .inr (0, [.int 0, .int 0, .int (-1), .ref h0, .ref h1, .ref h2, .ref h3, .ref h4, .int 0, .ref h5, .int 0, .int 0, .int 10, .int 1, .int 0, .int 6]))]) C (q_subP hP [0] rfl) (hD.sub [0] (by decide) rfl) (c_bookChosen l D cy h h0 h1 h2 h3 h4 h5 6 _ ) kwV_X0_bookChosen kM_RX0_110 rfl rfl ⟨Nat.le_of_ble_eq_true rfl, Nat.le_of_ble_eq_true rfl⟩ rfl hl.1 rfl (Nat.le_of_ble_eq_true rfl) dX0_keepsFrom_149 ⟨Nat.le_of_ble_eq_true rfl, Nat.le_of_ble_eq_true rfl⟩) C.2.2.2.2.2.2.1 hP hD hS [0] [1, 2] rfl rfl (by decide) (by decide) (fun r_14 u_13 H locs hw_15 hP hD hS => ?_)
  have hP : va_P D vwCl [(h0, .inl (cy 1, 8, .inl u_10)), (h5, .inl (cy 1, 81, .inl (fun _ => 0))), (h, .inr (0, [.int 0, .int 0, .int (-1), .ref h0, .ref h1, .ref h2, .ref h3, .ref h4, .int 0, .ref h5, .int 0, .int 0, .int 10, .int 1, .int 0, .int 6]))] H := hP
  have hD : va_D A [(h0, .inl (cy 1, 8, .inl u_10)), (h5, .inl (cy 1, 81, .inl (fun _ => 0))), (h, .inr (0, [.int 0, .int 0, .int (-1), .ref h0, .ref h1, .ref h2, .ref h3, .ref h4, .int 0, .ref h5, .int 0, .int 0, .int 10, .int 1, .int 0, .int 6]))] := hD
  obtain rfl : r_14 = (-1) := hw_15
  refine q_iast (g := upd u_10 4 (-1)) (w' := [(h0, .inl (cy 1, 8, .inl (upd u_10 4 (-1)))), (h5, .inl (cy 1, 81, .inl (fun _ => 0))), (h, .inr (0, [.int 0, .int 0, .int (-1), .ref h0, .ref h1, .ref h2, .ref h3, .ref h4, .int 0, .ref h5, .int 0, .int 0, .int 10, .int 1, .int 0, .int 6]))]) C hP hD hS 0 rfl (vin (by decide +kernel)) rfl rfl dX0_keepsFrom_152 (fun H locs hP hD hS => ?_)
  refine lv_iconst (v := 1) hx hb dX0_keepsFrom_153 (by decide) ?_
  exact q_iret (rm := (Rm 2 52 0 0)) C hS (upd u_10 4 (-1)) rfl rfl (q_subP hP [2, 0, 1] rfl) (hD.sub [2, 0, 1] (by decide) rfl) (Nat.le_of_ble_eq_true rfl) (Nat.le_of_ble_eq_true rfl) dX0_keepsFrom_154
set_option maxHeartbeats 4000000 in
set_option maxRecDepth 100000 in
theorem c_keeps_6_3 (l : Launch) (D : va_G) (cy : Nat → ClassId) (h : Nat) (h0 : Nat) (h1 : Nat) (h2 : Nat) (h3 : Nat) (h4 : Nat) (h5 : Nat) (kr : Nat → Int32) (sz : Nat)  : MI l yX0_keepsFrom cX0_keepsFrom 7 (some .boolean) (Rm 3 78 0 0) D cy [.ref h, .int 3, .int 0] sz [(h, .inr (0, [.int 0, .int 0, .int (-1), .ref h0, .ref h1, .ref h2, .ref h3, .ref h4, .int 0, .ref h5, .int 0, .int 0, .int 10, .int 1, .int 0, .int 6])), (h0, .inl (cy 1, 8, .inl kr)), (h5, .inl (cy 1, 81, .inl (fun _ => 0)))] (fun (r : Int32) (u : Nat → Int32) => r = 1) (fun u : Nat → Int32 => [(h, .inr (0, [.int 0, .int 0, .int (-1), .ref h0, .ref h1, .ref h2, .ref h3, .ref h4, .int 0, .ref h5, .int 0, .int 0, .int 10, .int 1, .int 0, .int 6])), (h0, .inl (cy 1, 8, .inl u)), (h5, .inl (cy 1, 81, .inl (fun _ => 0)))]) := by
  refine MI.enter (by decide) (Nat.le_of_ble_eq_true rfl) ?_
  intro p e s m below meth c ls A hsz hAe C hP hD hS hl
  have C : Cx p s m _ meth c cX0_keepsFrom 7 (some .boolean) RX0 "keepsFrom" D cy A := C
  have hx := C.1
  have hb := C.2.1
  have hl : lv_has ls 7 [(0, .ref h), (1, .int 3), (2, .int 0)] := hl
  refine lv_iload_n hx hb dX0_keepsFrom_0 rfl (lv_at hl 1 rfl) ?_
  refine lv_aload_n hx hb dX0_keepsFrom_1 rfl (lv_at hl 0 rfl) ?_
  refine q_get (v := .int 6) C hP 0 15 rfl rfl inX0 (by decide) kF_RX0_58 rfl rfl dX0_keepsFrom_2 ?_
  refine lv_icmp_lt (tgt := 10) hx hb dX0_keepsFrom_5 (by decide) (fun _ => ?_) (fun c_0 => absurd (by decide) c_0)
  refine lv_aload_n hx hb dX0_keepsFrom_10 rfl (lv_at hl 0 rfl) ?_
  refine lv_iload_n hx hb dX0_keepsFrom_11 rfl (lv_at hl 1 rfl) ?_
  refine q_ai (wr := [(h0, .inl (cy 1, 8, .inl kr)), (h5, .inl (cy 1, 81, .inl (fun _ => 0)))]) (r_V (q0 := 0) (As := [.int 3]) (rest := []) (wc := [(h, .inr (0, [.int 0, .int 0, .int (-1), .ref h0, .ref h1, .ref h2, .ref h3, .ref h4, .int 0, .ref h5, .int 0, .int 0, .int 10, .int 1, .int 0, .int 6]))]) C (q_subP hP [0] rfl) (hD.sub [0] (by decide) rfl) (c_askNeeded l D cy h 3 h0 h1 h2 h3 h4 h5 6 _ ) kwV_X0_askingsNeeded kM_RX0_98 rfl rfl ⟨Nat.le_of_ble_eq_true rfl, Nat.le_of_ble_eq_true rfl⟩ rfl hl.1 rfl (Nat.le_of_ble_eq_true rfl) dX0_keepsFrom_12 ⟨Nat.le_of_ble_eq_true rfl, Nat.le_of_ble_eq_true rfl⟩) C.2.2.2.2.2.2.1 hP hD hS [0] [1, 2] rfl rfl (by decide) (by decide) (fun r_2 u_1 H locs hw_3 hP hD hS => ?_)
  have hP : va_P D vwCl [(h0, .inl (cy 1, 8, .inl kr)), (h5, .inl (cy 1, 81, .inl (fun _ => 0))), (h, .inr (0, [.int 0, .int 0, .int (-1), .ref h0, .ref h1, .ref h2, .ref h3, .ref h4, .int 0, .ref h5, .int 0, .int 0, .int 10, .int 1, .int 0, .int 6]))] H := hP
  have hD : va_D A [(h0, .inl (cy 1, 8, .inl kr)), (h5, .inl (cy 1, 81, .inl (fun _ => 0))), (h, .inr (0, [.int 0, .int 0, .int (-1), .ref h0, .ref h1, .ref h2, .ref h3, .ref h4, .int 0, .ref h5, .int 0, .int 0, .int 10, .int 1, .int 0, .int 6]))] := hD
  obtain rfl : r_2 = 0 := hw_3
  refine lv_iload_n hx hb dX0_keepsFrom_15 rfl (lv_at hl 2 rfl) ?_
  refine lv_icmp_le (tgt := 21) hx hb dX0_keepsFrom_16 (by decide) (fun _ => ?_) (fun c_0 => absurd (by decide) c_0)
  refine lv_aload_n hx hb dX0_keepsFrom_21 rfl (lv_at hl 0 rfl) ?_
  refine lv_iload_n hx hb dX0_keepsFrom_22 rfl (lv_at hl 1 rfl) ?_
  refine q_av (wr := [(h0, .inl (cy 1, 8, .inl kr)), (h5, .inl (cy 1, 81, .inl (fun _ => 0)))]) (r_V (q0 := 0) (As := [.int 3]) (rest := []) (wc := [(h, .inr (0, [.int 0, .int 0, .int (-1), .ref h0, .ref h1, .ref h2, .ref h3, .ref h4, .int 0, .ref h5, .int 0, .int 0, .int 10, .int 1, .int 0, .int 6]))]) C (q_subP hP [2] rfl) (hD.sub [2] (by decide) rfl) (c_passDay l D cy h 3 h0 h1 h2 h3 h4 h5 6 _ ) kwV_X0_passDay kM_RX0_102 rfl rfl ⟨Nat.le_of_ble_eq_true rfl, Nat.le_of_ble_eq_true rfl⟩ rfl hl.1 rfl (Nat.le_of_ble_eq_true rfl) dX0_keepsFrom_23 ⟨Nat.le_of_ble_eq_true rfl, Nat.le_of_ble_eq_true rfl⟩) C.2.2.2.2.2.2.1 hP hD hS [2] [0, 1] rfl rfl (by decide) (by decide) (fun u_4 H locs hw_6 hP hD hS => ?_)
  have hP : va_P D vwCl [(h0, .inl (cy 1, 8, .inl kr)), (h5, .inl (cy 1, 81, .inl (fun _ => 0))), (h, .inr (0, [.int 0, .int 0, .int (-1), .ref h0, .ref h1, .ref h2, .ref h3, .ref h4, .int 0, .ref h5, .int 0, .int 0, .int 10, .int 1, .int 0, .int 6]))] H := hP
  have hD : va_D A [(h0, .inl (cy 1, 8, .inl kr)), (h5, .inl (cy 1, 81, .inl (fun _ => 0))), (h, .inr (0, [.int 0, .int 0, .int (-1), .ref h0, .ref h1, .ref h2, .ref h3, .ref h4, .int 0, .ref h5, .int 0, .int 0, .int 10, .int 1, .int 0, .int 6]))] := hD
  refine lv_iconst (v := 0) hx hb dX0_keepsFrom_26 (by decide) ?_
  refine lv_istore_n (lv' := [(3, .int 0), (0, .ref h), (1, .int 3), (2, .int 0)]) hx hb dX0_keepsFrom_27 rfl hl (by decide) rfl (fun ls hl => ?_)
  refine lv_iload_n hx hb dX0_keepsFrom_28 rfl (lv_at hl 0 rfl) ?_
  refine lv_aload_n hx hb dX0_keepsFrom_29 rfl (lv_at hl 1 rfl) ?_
  refine q_get (v := .int 0) C hP 2 10 rfl rfl inX0 (by decide) kF_RX0_43 rfl rfl dX0_keepsFrom_30 ?_
  refine lv_icmp_gt (tgt := 170) hx hb dX0_keepsFrom_33 (by decide) (fun c_0 => absurd c_0 (by decide)) (fun _ => ?_)
  refine lv_iload_n hx hb dX0_keepsFrom_36 rfl (lv_at hl 0 rfl) ?_
  refine lv_aload_n hx hb dX0_keepsFrom_37 rfl (lv_at hl 1 rfl) ?_
  refine q_get (v := .int 0) C hP 2 10 rfl rfl inX0 (by decide) kF_RX0_43 rfl rfl dX0_keepsFrom_38 ?_
  refine lv_icmp_ge (tgt := 48) hx hb dX0_keepsFrom_41 (by decide) (fun _ => ?_) (fun c_0 => absurd (by decide) c_0)
  refine lv_iconst (v := 0) hx hb dX0_keepsFrom_48 (by decide) ?_
  refine lv_istore (lv' := [(4, .int 0), (3, .int 0), (0, .ref h), (1, .int 3), (2, .int 0)]) hx hb dX0_keepsFrom_49 hl (by decide) rfl (fun ls hl => ?_)
  refine lv_iload hx hb dX0_keepsFrom_51 (lv_at hl 0 rfl) ?_
  refine lv_if_eq (tgt := 83) hx hb dX0_keepsFrom_53 (by decide) (fun _ => ?_) (fun c_0 => absurd (by decide) c_0)
  refine lv_iload_n hx hb dX0_keepsFrom_83 rfl (lv_at hl 3 rfl) ?_
  refine lv_iconst (v := 1) hx hb dX0_keepsFrom_84 (by decide) ?_
  refine lv_iadd hx hb dX0_keepsFrom_85 ?_
  refine q_val (v := 4) (by decide) ?_
  refine lv_bipush (v := 9) hx hb dX0_keepsFrom_86 (by decide) ?_
  refine lv_imul hx hb dX0_keepsFrom_88 ?_
  refine q_val (v := 36) (by decide) ?_
  refine lv_iload_n hx hb dX0_keepsFrom_89 rfl (lv_at hl 1 rfl) ?_
  refine lv_iadd hx hb dX0_keepsFrom_90 ?_
  refine q_val (v := 36) (by decide) ?_
  refine lv_istore (lv' := [(5, .int 36), (4, .int 0), (3, .int 0), (0, .ref h), (1, .int 3), (2, .int 0)]) hx hb dX0_keepsFrom_91 hl (by decide) rfl (fun ls hl => ?_)
  refine lv_aload_n hx hb dX0_keepsFrom_93 rfl (lv_at hl 3 rfl) ?_
  refine q_get (v := .ref h5) C hP 2 9 rfl rfl inX0 (by decide) kF_RX0_40 rfl rfl dX0_keepsFrom_94 ?_
  refine lv_iload hx hb dX0_keepsFrom_97 (lv_at hl 0 rfl) ?_
  refine q_iald (v := 0) C hP 1 rfl (vin (by decide +kernel)) rfl dX0_keepsFrom_99 ?_
  refine lv_istore (lv' := [(6, .int 0), (5, .int 36), (4, .int 0), (3, .int 0), (0, .ref h), (1, .int 3), (2, .int 0)]) hx hb dX0_keepsFrom_100 hl (by decide) rfl (fun ls hl => ?_)
  refine lv_aload_n hx hb dX0_keepsFrom_102 rfl (lv_at hl 4 rfl) ?_
  refine q_get (v := .ref h5) C hP 2 9 rfl rfl inX0 (by decide) kF_RX0_40 rfl rfl dX0_keepsFrom_103 ?_
  refine lv_iload hx hb dX0_keepsFrom_106 (lv_at hl 1 rfl) ?_
  refine lv_iconst (v := 0) hx hb dX0_keepsFrom_108 (by decide) ?_
  refine q_iast (g := fun _ => 0) (w' := [(h0, .inl (cy 1, 8, .inl kr)), (h5, .inl (cy 1, 81, .inl (fun _ => 0))), (h, .inr (0, [.int 0, .int 0, .int (-1), .ref h0, .ref h1, .ref h2, .ref h3, .ref h4, .int 0, .ref h5, .int 0, .int 0, .int 10, .int 1, .int 0, .int 6]))]) C hP hD hS 1 rfl (vin (by decide +kernel)) (updz _) rfl dX0_keepsFrom_109 (fun H locs hP hD hS => ?_)
  refine lv_aload_n hx hb dX0_keepsFrom_110 rfl (lv_at hl 4 rfl) ?_
  refine lv_iload_n hx hb dX0_keepsFrom_111 rfl (lv_at hl 5 rfl) ?_
  refine lv_iconst (v := 1) hx hb dX0_keepsFrom_112 (by decide) ?_
  refine lv_iadd hx hb dX0_keepsFrom_113 ?_
  refine q_val (v := 4) (by decide) ?_
  refine q_ai (wr := [(h0, .inl (cy 1, 8, .inl kr)), (h5, .inl (cy 1, 81, .inl (fun _ => 0)))]) (r_V (q0 := 0) (As := [.int 4]) (rest := []) (wc := [(h, .inr (0, [.int 0, .int 0, .int (-1), .ref h0, .ref h1, .ref h2, .ref h3, .ref h4, .int 0, .ref h5, .int 0, .int 0, .int 10, .int 1, .int 0, .int 6]))]) C (q_subP hP [2] rfl) (hD.sub [2] (by decide) rfl) (c_rareDoubt l D cy h 4 h0 h1 h2 h3 h4 h5 6 _ ) kwV_X0_areRareInDoubt kM_RX0_106 rfl rfl ⟨Nat.le_of_ble_eq_true rfl, Nat.le_of_ble_eq_true rfl⟩ rfl hl.1 rfl (Nat.le_of_ble_eq_true rfl) dX0_keepsFrom_114 ⟨Nat.le_of_ble_eq_true rfl, Nat.le_of_ble_eq_true rfl⟩) C.2.2.2.2.2.2.1 hP hD hS [2] [0, 1] rfl rfl (by decide) (by decide) (fun r_8 u_7 H locs hw_9 hP hD hS => ?_)
  have hP : va_P D vwCl [(h0, .inl (cy 1, 8, .inl kr)), (h5, .inl (cy 1, 81, .inl (fun _ => 0))), (h, .inr (0, [.int 0, .int 0, .int (-1), .ref h0, .ref h1, .ref h2, .ref h3, .ref h4, .int 0, .ref h5, .int 0, .int 0, .int 10, .int 1, .int 0, .int 6]))] H := hP
  have hD : va_D A [(h0, .inl (cy 1, 8, .inl kr)), (h5, .inl (cy 1, 81, .inl (fun _ => 0))), (h, .inr (0, [.int 0, .int 0, .int (-1), .ref h0, .ref h1, .ref h2, .ref h3, .ref h4, .int 0, .ref h5, .int 0, .int 0, .int 10, .int 1, .int 0, .int 6]))] := hD
  obtain rfl : r_8 = 1 := hw_9
  refine lv_if_eq (tgt := 155) hx hb dX0_keepsFrom_117 (by decide) (fun c_0 => absurd c_0 (by decide)) (fun _ => ?_)
  refine lv_aload_n hx hb dX0_keepsFrom_120 rfl (lv_at hl 4 rfl) ?_
  refine lv_iload_n hx hb dX0_keepsFrom_121 rfl (lv_at hl 5 rfl) ?_
  refine lv_iconst (v := 1) hx hb dX0_keepsFrom_122 (by decide) ?_
  refine lv_iadd hx hb dX0_keepsFrom_123 ?_
  refine q_val (v := 4) (by decide) ?_
  refine lv_iload hx hb dX0_keepsFrom_124 (lv_at hl 2 rfl) ?_
  refine lv_if_eq (tgt := 135) hx hb dX0_keepsFrom_126 (by decide) (fun _ => ?_) (fun c_0 => absurd (by decide) c_0)
  refine lv_iload_n hx hb dX0_keepsFrom_135 rfl (lv_at hl 6 rfl) ?_
  refine q_ai (wr := []) (r_V (q0 := 0) (As := [.int 4, .int 0]) (rest := []) (wc := [(h, .inr (0, [.int 0, .int 0, .int (-1), .ref h0, .ref h1, .ref h2, .ref h3, .ref h4, .int 0, .ref h5, .int 0, .int 0, .int 10, .int 1, .int 0, .int 6])), (h0, .inl (cy 1, 8, .inl kr)), (h5, .inl (cy 1, 81, .inl (fun _ => 0)))]) C (q_subP hP [2, 0, 1] rfl) (hD.sub [2, 0, 1] (by decide) rfl) (c_keeps_6_4 l D cy h h0 h1 h2 h3 h4 h5 kr _ ) kwV_X0_keepsFrom kM_RX0_95 rfl rfl ⟨Nat.le_of_ble_eq_true rfl, Nat.le_of_ble_eq_true rfl⟩ rfl hl.1 rfl (Nat.le_of_ble_eq_true rfl) dX0_keepsFrom_136 ⟨Nat.le_of_ble_eq_true rfl, Nat.le_of_ble_eq_true rfl⟩) C.2.2.2.2.2.2.1 hP hD hS [2, 0, 1] [] rfl rfl (by decide) (by decide) (fun r_11 u_10 H locs hw_12 hP hD hS => ?_)
  have hP : va_P D vwCl [(h, .inr (0, [.int 0, .int 0, .int (-1), .ref h0, .ref h1, .ref h2, .ref h3, .ref h4, .int 0, .ref h5, .int 0, .int 0, .int 10, .int 1, .int 0, .int 6])), (h0, .inl (cy 1, 8, .inl u_10)), (h5, .inl (cy 1, 81, .inl (fun _ => 0)))] H := hP
  have hD : va_D A [(h, .inr (0, [.int 0, .int 0, .int (-1), .ref h0, .ref h1, .ref h2, .ref h3, .ref h4, .int 0, .ref h5, .int 0, .int 0, .int 10, .int 1, .int 0, .int 6])), (h0, .inl (cy 1, 8, .inl u_10)), (h5, .inl (cy 1, 81, .inl (fun _ => 0)))] := hD
  obtain rfl : r_11 = 1 := hw_12
  refine lv_if_eq (tgt := 155) hx hb dX0_keepsFrom_139 (by decide) (fun c_0 => absurd c_0 (by decide)) (fun _ => ?_)
  refine lv_aload_n hx hb dX0_keepsFrom_142 rfl (lv_at hl 4 rfl) ?_
  refine q_get (v := .ref h0) C hP 0 3 rfl rfl inX0 (by decide) kF_RX0_21 rfl rfl dX0_keepsFrom_143 ?_
  refine lv_iload_n hx hb dX0_keepsFrom_146 rfl (lv_at hl 5 rfl) ?_
  refine lv_aload_n hx hb dX0_keepsFrom_147 rfl (lv_at hl 4 rfl) ?_
  refine lv_iload_n hx hb dX0_keepsFrom_148 rfl (lv_at hl 3 rfl) ?_
  refine q_ai (wr := [(h0, .inl (cy 1, 8, .inl u_10)), (h5, .inl (cy 1, 81, .inl (fun _ => 0)))]) (r_V (q0 := 0) (As := [.int 0]) (rest := [.int 3, .ref h0]) (wc := [(h, .inr (0, [.int 0, .int 0, .int (-1), .ref h0, .ref h1, .ref h2, .ref h3, .ref h4, .int 0, .ref h5, .int 0, .int 0, .int 10, .int 1, .int 0, .int 6]))]) C (q_subP hP [0] rfl) (hD.sub [0] (by decide) rfl) (c_bookChosen l D cy h h0 h1 h2 h3 h4 h5 6 _ ) kwV_X0_bookChosen kM_RX0_110 rfl rfl ⟨Nat.le_of_ble_eq_true rfl, Nat.le_of_ble_eq_true rfl⟩ rfl hl.1 rfl (Nat.le_of_ble_eq_true rfl) dX0_keepsFrom_149 ⟨Nat.le_of_ble_eq_true rfl, Nat.le_of_ble_eq_true rfl⟩) C.2.2.2.2.2.2.1 hP hD hS [0] [1, 2] rfl rfl (by decide) (by decide) (fun r_14 u_13 H locs hw_15 hP hD hS => ?_)
  have hP : va_P D vwCl [(h0, .inl (cy 1, 8, .inl u_10)), (h5, .inl (cy 1, 81, .inl (fun _ => 0))), (h, .inr (0, [.int 0, .int 0, .int (-1), .ref h0, .ref h1, .ref h2, .ref h3, .ref h4, .int 0, .ref h5, .int 0, .int 0, .int 10, .int 1, .int 0, .int 6]))] H := hP
  have hD : va_D A [(h0, .inl (cy 1, 8, .inl u_10)), (h5, .inl (cy 1, 81, .inl (fun _ => 0))), (h, .inr (0, [.int 0, .int 0, .int (-1), .ref h0, .ref h1, .ref h2, .ref h3, .ref h4, .int 0, .ref h5, .int 0, .int 0, .int 10, .int 1, .int 0, .int 6]))] := hD
  obtain rfl : r_14 = (-1) := hw_15
  refine q_iast (g := upd u_10 3 (-1)) (w' := [(h0, .inl (cy 1, 8, .inl (upd u_10 3 (-1)))), (h5, .inl (cy 1, 81, .inl (fun _ => 0))), (h, .inr (0, [.int 0, .int 0, .int (-1), .ref h0, .ref h1, .ref h2, .ref h3, .ref h4, .int 0, .ref h5, .int 0, .int 0, .int 10, .int 1, .int 0, .int 6]))]) C hP hD hS 0 rfl (vin (by decide +kernel)) rfl rfl dX0_keepsFrom_152 (fun H locs hP hD hS => ?_)
  refine lv_iconst (v := 1) hx hb dX0_keepsFrom_153 (by decide) ?_
  exact q_iret (rm := (Rm 3 78 0 0)) C hS (upd u_10 3 (-1)) rfl rfl (q_subP hP [2, 0, 1] rfl) (hD.sub [2, 0, 1] (by decide) rfl) (Nat.le_of_ble_eq_true rfl) (Nat.le_of_ble_eq_true rfl) dX0_keepsFrom_154
set_option maxHeartbeats 4000000 in
set_option maxRecDepth 100000 in
theorem c_keeps_6_2 (l : Launch) (D : va_G) (cy : Nat → ClassId) (h : Nat) (h0 : Nat) (h1 : Nat) (h2 : Nat) (h3 : Nat) (h4 : Nat) (h5 : Nat) (kr : Nat → Int32) (sz : Nat)  : MI l yX0_keepsFrom cX0_keepsFrom 7 (some .boolean) (Rm 4 104 0 0) D cy [.ref h, .int 2, .int 0] sz [(h, .inr (0, [.int 0, .int 0, .int (-1), .ref h0, .ref h1, .ref h2, .ref h3, .ref h4, .int 0, .ref h5, .int 0, .int 0, .int 10, .int 1, .int 0, .int 6])), (h0, .inl (cy 1, 8, .inl kr)), (h5, .inl (cy 1, 81, .inl (fun _ => 0)))] (fun (r : Int32) (u : Nat → Int32) => r = 1) (fun u : Nat → Int32 => [(h, .inr (0, [.int 0, .int 0, .int (-1), .ref h0, .ref h1, .ref h2, .ref h3, .ref h4, .int 0, .ref h5, .int 0, .int 0, .int 10, .int 1, .int 0, .int 6])), (h0, .inl (cy 1, 8, .inl u)), (h5, .inl (cy 1, 81, .inl (fun _ => 0)))]) := by
  refine MI.enter (by decide) (Nat.le_of_ble_eq_true rfl) ?_
  intro p e s m below meth c ls A hsz hAe C hP hD hS hl
  have C : Cx p s m _ meth c cX0_keepsFrom 7 (some .boolean) RX0 "keepsFrom" D cy A := C
  have hx := C.1
  have hb := C.2.1
  have hl : lv_has ls 7 [(0, .ref h), (1, .int 2), (2, .int 0)] := hl
  refine lv_iload_n hx hb dX0_keepsFrom_0 rfl (lv_at hl 1 rfl) ?_
  refine lv_aload_n hx hb dX0_keepsFrom_1 rfl (lv_at hl 0 rfl) ?_
  refine q_get (v := .int 6) C hP 0 15 rfl rfl inX0 (by decide) kF_RX0_58 rfl rfl dX0_keepsFrom_2 ?_
  refine lv_icmp_lt (tgt := 10) hx hb dX0_keepsFrom_5 (by decide) (fun _ => ?_) (fun c_0 => absurd (by decide) c_0)
  refine lv_aload_n hx hb dX0_keepsFrom_10 rfl (lv_at hl 0 rfl) ?_
  refine lv_iload_n hx hb dX0_keepsFrom_11 rfl (lv_at hl 1 rfl) ?_
  refine q_ai (wr := [(h0, .inl (cy 1, 8, .inl kr)), (h5, .inl (cy 1, 81, .inl (fun _ => 0)))]) (r_V (q0 := 0) (As := [.int 2]) (rest := []) (wc := [(h, .inr (0, [.int 0, .int 0, .int (-1), .ref h0, .ref h1, .ref h2, .ref h3, .ref h4, .int 0, .ref h5, .int 0, .int 0, .int 10, .int 1, .int 0, .int 6]))]) C (q_subP hP [0] rfl) (hD.sub [0] (by decide) rfl) (c_askNeeded l D cy h 2 h0 h1 h2 h3 h4 h5 6 _ ) kwV_X0_askingsNeeded kM_RX0_98 rfl rfl ⟨Nat.le_of_ble_eq_true rfl, Nat.le_of_ble_eq_true rfl⟩ rfl hl.1 rfl (Nat.le_of_ble_eq_true rfl) dX0_keepsFrom_12 ⟨Nat.le_of_ble_eq_true rfl, Nat.le_of_ble_eq_true rfl⟩) C.2.2.2.2.2.2.1 hP hD hS [0] [1, 2] rfl rfl (by decide) (by decide) (fun r_2 u_1 H locs hw_3 hP hD hS => ?_)
  have hP : va_P D vwCl [(h0, .inl (cy 1, 8, .inl kr)), (h5, .inl (cy 1, 81, .inl (fun _ => 0))), (h, .inr (0, [.int 0, .int 0, .int (-1), .ref h0, .ref h1, .ref h2, .ref h3, .ref h4, .int 0, .ref h5, .int 0, .int 0, .int 10, .int 1, .int 0, .int 6]))] H := hP
  have hD : va_D A [(h0, .inl (cy 1, 8, .inl kr)), (h5, .inl (cy 1, 81, .inl (fun _ => 0))), (h, .inr (0, [.int 0, .int 0, .int (-1), .ref h0, .ref h1, .ref h2, .ref h3, .ref h4, .int 0, .ref h5, .int 0, .int 0, .int 10, .int 1, .int 0, .int 6]))] := hD
  obtain rfl : r_2 = 0 := hw_3
  refine lv_iload_n hx hb dX0_keepsFrom_15 rfl (lv_at hl 2 rfl) ?_
  refine lv_icmp_le (tgt := 21) hx hb dX0_keepsFrom_16 (by decide) (fun _ => ?_) (fun c_0 => absurd (by decide) c_0)
  refine lv_aload_n hx hb dX0_keepsFrom_21 rfl (lv_at hl 0 rfl) ?_
  refine lv_iload_n hx hb dX0_keepsFrom_22 rfl (lv_at hl 1 rfl) ?_
  refine q_av (wr := [(h0, .inl (cy 1, 8, .inl kr)), (h5, .inl (cy 1, 81, .inl (fun _ => 0)))]) (r_V (q0 := 0) (As := [.int 2]) (rest := []) (wc := [(h, .inr (0, [.int 0, .int 0, .int (-1), .ref h0, .ref h1, .ref h2, .ref h3, .ref h4, .int 0, .ref h5, .int 0, .int 0, .int 10, .int 1, .int 0, .int 6]))]) C (q_subP hP [2] rfl) (hD.sub [2] (by decide) rfl) (c_passDay l D cy h 2 h0 h1 h2 h3 h4 h5 6 _ ) kwV_X0_passDay kM_RX0_102 rfl rfl ⟨Nat.le_of_ble_eq_true rfl, Nat.le_of_ble_eq_true rfl⟩ rfl hl.1 rfl (Nat.le_of_ble_eq_true rfl) dX0_keepsFrom_23 ⟨Nat.le_of_ble_eq_true rfl, Nat.le_of_ble_eq_true rfl⟩) C.2.2.2.2.2.2.1 hP hD hS [2] [0, 1] rfl rfl (by decide) (by decide) (fun u_4 H locs hw_6 hP hD hS => ?_)
  have hP : va_P D vwCl [(h0, .inl (cy 1, 8, .inl kr)), (h5, .inl (cy 1, 81, .inl (fun _ => 0))), (h, .inr (0, [.int 0, .int 0, .int (-1), .ref h0, .ref h1, .ref h2, .ref h3, .ref h4, .int 0, .ref h5, .int 0, .int 0, .int 10, .int 1, .int 0, .int 6]))] H := hP
  have hD : va_D A [(h0, .inl (cy 1, 8, .inl kr)), (h5, .inl (cy 1, 81, .inl (fun _ => 0))), (h, .inr (0, [.int 0, .int 0, .int (-1), .ref h0, .ref h1, .ref h2, .ref h3, .ref h4, .int 0, .ref h5, .int 0, .int 0, .int 10, .int 1, .int 0, .int 6]))] := hD
  refine lv_iconst (v := 0) hx hb dX0_keepsFrom_26 (by decide) ?_
  refine lv_istore_n (lv' := [(3, .int 0), (0, .ref h), (1, .int 2), (2, .int 0)]) hx hb dX0_keepsFrom_27 rfl hl (by decide) rfl (fun ls hl => ?_)
  refine lv_iload_n hx hb dX0_keepsFrom_28 rfl (lv_at hl 0 rfl) ?_
  refine lv_aload_n hx hb dX0_keepsFrom_29 rfl (lv_at hl 1 rfl) ?_
  refine q_get (v := .int 0) C hP 2 10 rfl rfl inX0 (by decide) kF_RX0_43 rfl rfl dX0_keepsFrom_30 ?_
  refine lv_icmp_gt (tgt := 170) hx hb dX0_keepsFrom_33 (by decide) (fun c_0 => absurd c_0 (by decide)) (fun _ => ?_)
  refine lv_iload_n hx hb dX0_keepsFrom_36 rfl (lv_at hl 0 rfl) ?_
  refine lv_aload_n hx hb dX0_keepsFrom_37 rfl (lv_at hl 1 rfl) ?_
  refine q_get (v := .int 0) C hP 2 10 rfl rfl inX0 (by decide) kF_RX0_43 rfl rfl dX0_keepsFrom_38 ?_
  refine lv_icmp_ge (tgt := 48) hx hb dX0_keepsFrom_41 (by decide) (fun _ => ?_) (fun c_0 => absurd (by decide) c_0)
  refine lv_iconst (v := 0) hx hb dX0_keepsFrom_48 (by decide) ?_
  refine lv_istore (lv' := [(4, .int 0), (3, .int 0), (0, .ref h), (1, .int 2), (2, .int 0)]) hx hb dX0_keepsFrom_49 hl (by decide) rfl (fun ls hl => ?_)
  refine lv_iload hx hb dX0_keepsFrom_51 (lv_at hl 0 rfl) ?_
  refine lv_if_eq (tgt := 83) hx hb dX0_keepsFrom_53 (by decide) (fun _ => ?_) (fun c_0 => absurd (by decide) c_0)
  refine lv_iload_n hx hb dX0_keepsFrom_83 rfl (lv_at hl 3 rfl) ?_
  refine lv_iconst (v := 1) hx hb dX0_keepsFrom_84 (by decide) ?_
  refine lv_iadd hx hb dX0_keepsFrom_85 ?_
  refine q_val (v := 3) (by decide) ?_
  refine lv_bipush (v := 9) hx hb dX0_keepsFrom_86 (by decide) ?_
  refine lv_imul hx hb dX0_keepsFrom_88 ?_
  refine q_val (v := 27) (by decide) ?_
  refine lv_iload_n hx hb dX0_keepsFrom_89 rfl (lv_at hl 1 rfl) ?_
  refine lv_iadd hx hb dX0_keepsFrom_90 ?_
  refine q_val (v := 27) (by decide) ?_
  refine lv_istore (lv' := [(5, .int 27), (4, .int 0), (3, .int 0), (0, .ref h), (1, .int 2), (2, .int 0)]) hx hb dX0_keepsFrom_91 hl (by decide) rfl (fun ls hl => ?_)
  refine lv_aload_n hx hb dX0_keepsFrom_93 rfl (lv_at hl 3 rfl) ?_
  refine q_get (v := .ref h5) C hP 2 9 rfl rfl inX0 (by decide) kF_RX0_40 rfl rfl dX0_keepsFrom_94 ?_
  refine lv_iload hx hb dX0_keepsFrom_97 (lv_at hl 0 rfl) ?_
  refine q_iald (v := 0) C hP 1 rfl (vin (by decide +kernel)) rfl dX0_keepsFrom_99 ?_
  refine lv_istore (lv' := [(6, .int 0), (5, .int 27), (4, .int 0), (3, .int 0), (0, .ref h), (1, .int 2), (2, .int 0)]) hx hb dX0_keepsFrom_100 hl (by decide) rfl (fun ls hl => ?_)
  refine lv_aload_n hx hb dX0_keepsFrom_102 rfl (lv_at hl 4 rfl) ?_
  refine q_get (v := .ref h5) C hP 2 9 rfl rfl inX0 (by decide) kF_RX0_40 rfl rfl dX0_keepsFrom_103 ?_
  refine lv_iload hx hb dX0_keepsFrom_106 (lv_at hl 1 rfl) ?_
  refine lv_iconst (v := 0) hx hb dX0_keepsFrom_108 (by decide) ?_
  refine q_iast (g := fun _ => 0) (w' := [(h0, .inl (cy 1, 8, .inl kr)), (h5, .inl (cy 1, 81, .inl (fun _ => 0))), (h, .inr (0, [.int 0, .int 0, .int (-1), .ref h0, .ref h1, .ref h2, .ref h3, .ref h4, .int 0, .ref h5, .int 0, .int 0, .int 10, .int 1, .int 0, .int 6]))]) C hP hD hS 1 rfl (vin (by decide +kernel)) (updz _) rfl dX0_keepsFrom_109 (fun H locs hP hD hS => ?_)
  refine lv_aload_n hx hb dX0_keepsFrom_110 rfl (lv_at hl 4 rfl) ?_
  refine lv_iload_n hx hb dX0_keepsFrom_111 rfl (lv_at hl 5 rfl) ?_
  refine lv_iconst (v := 1) hx hb dX0_keepsFrom_112 (by decide) ?_
  refine lv_iadd hx hb dX0_keepsFrom_113 ?_
  refine q_val (v := 3) (by decide) ?_
  refine q_ai (wr := [(h0, .inl (cy 1, 8, .inl kr)), (h5, .inl (cy 1, 81, .inl (fun _ => 0)))]) (r_V (q0 := 0) (As := [.int 3]) (rest := []) (wc := [(h, .inr (0, [.int 0, .int 0, .int (-1), .ref h0, .ref h1, .ref h2, .ref h3, .ref h4, .int 0, .ref h5, .int 0, .int 0, .int 10, .int 1, .int 0, .int 6]))]) C (q_subP hP [2] rfl) (hD.sub [2] (by decide) rfl) (c_rareDoubt l D cy h 3 h0 h1 h2 h3 h4 h5 6 _ ) kwV_X0_areRareInDoubt kM_RX0_106 rfl rfl ⟨Nat.le_of_ble_eq_true rfl, Nat.le_of_ble_eq_true rfl⟩ rfl hl.1 rfl (Nat.le_of_ble_eq_true rfl) dX0_keepsFrom_114 ⟨Nat.le_of_ble_eq_true rfl, Nat.le_of_ble_eq_true rfl⟩) C.2.2.2.2.2.2.1 hP hD hS [2] [0, 1] rfl rfl (by decide) (by decide) (fun r_8 u_7 H locs hw_9 hP hD hS => ?_)
  have hP : va_P D vwCl [(h0, .inl (cy 1, 8, .inl kr)), (h5, .inl (cy 1, 81, .inl (fun _ => 0))), (h, .inr (0, [.int 0, .int 0, .int (-1), .ref h0, .ref h1, .ref h2, .ref h3, .ref h4, .int 0, .ref h5, .int 0, .int 0, .int 10, .int 1, .int 0, .int 6]))] H := hP
  have hD : va_D A [(h0, .inl (cy 1, 8, .inl kr)), (h5, .inl (cy 1, 81, .inl (fun _ => 0))), (h, .inr (0, [.int 0, .int 0, .int (-1), .ref h0, .ref h1, .ref h2, .ref h3, .ref h4, .int 0, .ref h5, .int 0, .int 0, .int 10, .int 1, .int 0, .int 6]))] := hD
  obtain rfl : r_8 = 1 := hw_9
  refine lv_if_eq (tgt := 155) hx hb dX0_keepsFrom_117 (by decide) (fun c_0 => absurd c_0 (by decide)) (fun _ => ?_)
  refine lv_aload_n hx hb dX0_keepsFrom_120 rfl (lv_at hl 4 rfl) ?_
  refine lv_iload_n hx hb dX0_keepsFrom_121 rfl (lv_at hl 5 rfl) ?_
  refine lv_iconst (v := 1) hx hb dX0_keepsFrom_122 (by decide) ?_
  refine lv_iadd hx hb dX0_keepsFrom_123 ?_
  refine q_val (v := 3) (by decide) ?_
  refine lv_iload hx hb dX0_keepsFrom_124 (lv_at hl 2 rfl) ?_
  refine lv_if_eq (tgt := 135) hx hb dX0_keepsFrom_126 (by decide) (fun _ => ?_) (fun c_0 => absurd (by decide) c_0)
  refine lv_iload_n hx hb dX0_keepsFrom_135 rfl (lv_at hl 6 rfl) ?_
  refine q_ai (wr := []) (r_V (q0 := 0) (As := [.int 3, .int 0]) (rest := []) (wc := [(h, .inr (0, [.int 0, .int 0, .int (-1), .ref h0, .ref h1, .ref h2, .ref h3, .ref h4, .int 0, .ref h5, .int 0, .int 0, .int 10, .int 1, .int 0, .int 6])), (h0, .inl (cy 1, 8, .inl kr)), (h5, .inl (cy 1, 81, .inl (fun _ => 0)))]) C (q_subP hP [2, 0, 1] rfl) (hD.sub [2, 0, 1] (by decide) rfl) (c_keeps_6_3 l D cy h h0 h1 h2 h3 h4 h5 kr _ ) kwV_X0_keepsFrom kM_RX0_95 rfl rfl ⟨Nat.le_of_ble_eq_true rfl, Nat.le_of_ble_eq_true rfl⟩ rfl hl.1 rfl (Nat.le_of_ble_eq_true rfl) dX0_keepsFrom_136 ⟨Nat.le_of_ble_eq_true rfl, Nat.le_of_ble_eq_true rfl⟩) C.2.2.2.2.2.2.1 hP hD hS [2, 0, 1] [] rfl rfl (by decide) (by decide) (fun r_11 u_10 H locs hw_12 hP hD hS => ?_)
  have hP : va_P D vwCl [(h, .inr (0, [.int 0, .int 0, .int (-1), .ref h0, .ref h1, .ref h2, .ref h3, .ref h4, .int 0, .ref h5, .int 0, .int 0, .int 10, .int 1, .int 0, .int 6])), (h0, .inl (cy 1, 8, .inl u_10)), (h5, .inl (cy 1, 81, .inl (fun _ => 0)))] H := hP
  have hD : va_D A [(h, .inr (0, [.int 0, .int 0, .int (-1), .ref h0, .ref h1, .ref h2, .ref h3, .ref h4, .int 0, .ref h5, .int 0, .int 0, .int 10, .int 1, .int 0, .int 6])), (h0, .inl (cy 1, 8, .inl u_10)), (h5, .inl (cy 1, 81, .inl (fun _ => 0)))] := hD
  obtain rfl : r_11 = 1 := hw_12
  refine lv_if_eq (tgt := 155) hx hb dX0_keepsFrom_139 (by decide) (fun c_0 => absurd c_0 (by decide)) (fun _ => ?_)
  refine lv_aload_n hx hb dX0_keepsFrom_142 rfl (lv_at hl 4 rfl) ?_
  refine q_get (v := .ref h0) C hP 0 3 rfl rfl inX0 (by decide) kF_RX0_21 rfl rfl dX0_keepsFrom_143 ?_
  refine lv_iload_n hx hb dX0_keepsFrom_146 rfl (lv_at hl 5 rfl) ?_
  refine lv_aload_n hx hb dX0_keepsFrom_147 rfl (lv_at hl 4 rfl) ?_
  refine lv_iload_n hx hb dX0_keepsFrom_148 rfl (lv_at hl 3 rfl) ?_
  refine q_ai (wr := [(h0, .inl (cy 1, 8, .inl u_10)), (h5, .inl (cy 1, 81, .inl (fun _ => 0)))]) (r_V (q0 := 0) (As := [.int 0]) (rest := [.int 2, .ref h0]) (wc := [(h, .inr (0, [.int 0, .int 0, .int (-1), .ref h0, .ref h1, .ref h2, .ref h3, .ref h4, .int 0, .ref h5, .int 0, .int 0, .int 10, .int 1, .int 0, .int 6]))]) C (q_subP hP [0] rfl) (hD.sub [0] (by decide) rfl) (c_bookChosen l D cy h h0 h1 h2 h3 h4 h5 6 _ ) kwV_X0_bookChosen kM_RX0_110 rfl rfl ⟨Nat.le_of_ble_eq_true rfl, Nat.le_of_ble_eq_true rfl⟩ rfl hl.1 rfl (Nat.le_of_ble_eq_true rfl) dX0_keepsFrom_149 ⟨Nat.le_of_ble_eq_true rfl, Nat.le_of_ble_eq_true rfl⟩) C.2.2.2.2.2.2.1 hP hD hS [0] [1, 2] rfl rfl (by decide) (by decide) (fun r_14 u_13 H locs hw_15 hP hD hS => ?_)
  have hP : va_P D vwCl [(h0, .inl (cy 1, 8, .inl u_10)), (h5, .inl (cy 1, 81, .inl (fun _ => 0))), (h, .inr (0, [.int 0, .int 0, .int (-1), .ref h0, .ref h1, .ref h2, .ref h3, .ref h4, .int 0, .ref h5, .int 0, .int 0, .int 10, .int 1, .int 0, .int 6]))] H := hP
  have hD : va_D A [(h0, .inl (cy 1, 8, .inl u_10)), (h5, .inl (cy 1, 81, .inl (fun _ => 0))), (h, .inr (0, [.int 0, .int 0, .int (-1), .ref h0, .ref h1, .ref h2, .ref h3, .ref h4, .int 0, .ref h5, .int 0, .int 0, .int 10, .int 1, .int 0, .int 6]))] := hD
  obtain rfl : r_14 = (-1) := hw_15
  refine q_iast (g := upd u_10 2 (-1)) (w' := [(h0, .inl (cy 1, 8, .inl (upd u_10 2 (-1)))), (h5, .inl (cy 1, 81, .inl (fun _ => 0))), (h, .inr (0, [.int 0, .int 0, .int (-1), .ref h0, .ref h1, .ref h2, .ref h3, .ref h4, .int 0, .ref h5, .int 0, .int 0, .int 10, .int 1, .int 0, .int 6]))]) C hP hD hS 0 rfl (vin (by decide +kernel)) rfl rfl dX0_keepsFrom_152 (fun H locs hP hD hS => ?_)
  refine lv_iconst (v := 1) hx hb dX0_keepsFrom_153 (by decide) ?_
  exact q_iret (rm := (Rm 4 104 0 0)) C hS (upd u_10 2 (-1)) rfl rfl (q_subP hP [2, 0, 1] rfl) (hD.sub [2, 0, 1] (by decide) rfl) (Nat.le_of_ble_eq_true rfl) (Nat.le_of_ble_eq_true rfl) dX0_keepsFrom_154
set_option maxHeartbeats 4000000 in
set_option maxRecDepth 100000 in
theorem c_keeps_6_1 (l : Launch) (D : va_G) (cy : Nat → ClassId) (h : Nat) (h0 : Nat) (h1 : Nat) (h2 : Nat) (h3 : Nat) (h4 : Nat) (h5 : Nat) (kr : Nat → Int32) (sz : Nat)  : MI l yX0_keepsFrom cX0_keepsFrom 7 (some .boolean) (Rm 5 130 0 0) D cy [.ref h, .int 1, .int 0] sz [(h, .inr (0, [.int 0, .int 0, .int (-1), .ref h0, .ref h1, .ref h2, .ref h3, .ref h4, .int 0, .ref h5, .int 0, .int 0, .int 10, .int 1, .int 0, .int 6])), (h0, .inl (cy 1, 8, .inl kr)), (h5, .inl (cy 1, 81, .inl (fun _ => 0)))] (fun (r : Int32) (u : Nat → Int32) => r = 1) (fun u : Nat → Int32 => [(h, .inr (0, [.int 0, .int 0, .int (-1), .ref h0, .ref h1, .ref h2, .ref h3, .ref h4, .int 0, .ref h5, .int 0, .int 0, .int 10, .int 1, .int 0, .int 6])), (h0, .inl (cy 1, 8, .inl u)), (h5, .inl (cy 1, 81, .inl (fun _ => 0)))]) := by
  refine MI.enter (by decide) (Nat.le_of_ble_eq_true rfl) ?_
  intro p e s m below meth c ls A hsz hAe C hP hD hS hl
  have C : Cx p s m _ meth c cX0_keepsFrom 7 (some .boolean) RX0 "keepsFrom" D cy A := C
  have hx := C.1
  have hb := C.2.1
  have hl : lv_has ls 7 [(0, .ref h), (1, .int 1), (2, .int 0)] := hl
  refine lv_iload_n hx hb dX0_keepsFrom_0 rfl (lv_at hl 1 rfl) ?_
  refine lv_aload_n hx hb dX0_keepsFrom_1 rfl (lv_at hl 0 rfl) ?_
  refine q_get (v := .int 6) C hP 0 15 rfl rfl inX0 (by decide) kF_RX0_58 rfl rfl dX0_keepsFrom_2 ?_
  refine lv_icmp_lt (tgt := 10) hx hb dX0_keepsFrom_5 (by decide) (fun _ => ?_) (fun c_0 => absurd (by decide) c_0)
  refine lv_aload_n hx hb dX0_keepsFrom_10 rfl (lv_at hl 0 rfl) ?_
  refine lv_iload_n hx hb dX0_keepsFrom_11 rfl (lv_at hl 1 rfl) ?_
  refine q_ai (wr := [(h0, .inl (cy 1, 8, .inl kr)), (h5, .inl (cy 1, 81, .inl (fun _ => 0)))]) (r_V (q0 := 0) (As := [.int 1]) (rest := []) (wc := [(h, .inr (0, [.int 0, .int 0, .int (-1), .ref h0, .ref h1, .ref h2, .ref h3, .ref h4, .int 0, .ref h5, .int 0, .int 0, .int 10, .int 1, .int 0, .int 6]))]) C (q_subP hP [0] rfl) (hD.sub [0] (by decide) rfl) (c_askNeeded l D cy h 1 h0 h1 h2 h3 h4 h5 6 _ ) kwV_X0_askingsNeeded kM_RX0_98 rfl rfl ⟨Nat.le_of_ble_eq_true rfl, Nat.le_of_ble_eq_true rfl⟩ rfl hl.1 rfl (Nat.le_of_ble_eq_true rfl) dX0_keepsFrom_12 ⟨Nat.le_of_ble_eq_true rfl, Nat.le_of_ble_eq_true rfl⟩) C.2.2.2.2.2.2.1 hP hD hS [0] [1, 2] rfl rfl (by decide) (by decide) (fun r_2 u_1 H locs hw_3 hP hD hS => ?_)
  have hP : va_P D vwCl [(h0, .inl (cy 1, 8, .inl kr)), (h5, .inl (cy 1, 81, .inl (fun _ => 0))), (h, .inr (0, [.int 0, .int 0, .int (-1), .ref h0, .ref h1, .ref h2, .ref h3, .ref h4, .int 0, .ref h5, .int 0, .int 0, .int 10, .int 1, .int 0, .int 6]))] H := hP
  have hD : va_D A [(h0, .inl (cy 1, 8, .inl kr)), (h5, .inl (cy 1, 81, .inl (fun _ => 0))), (h, .inr (0, [.int 0, .int 0, .int (-1), .ref h0, .ref h1, .ref h2, .ref h3, .ref h4, .int 0, .ref h5, .int 0, .int 0, .int 10, .int 1, .int 0, .int 6]))] := hD
  obtain rfl : r_2 = 0 := hw_3
  refine lv_iload_n hx hb dX0_keepsFrom_15 rfl (lv_at hl 2 rfl) ?_
  refine lv_icmp_le (tgt := 21) hx hb dX0_keepsFrom_16 (by decide) (fun _ => ?_) (fun c_0 => absurd (by decide) c_0)
  refine lv_aload_n hx hb dX0_keepsFrom_21 rfl (lv_at hl 0 rfl) ?_
  refine lv_iload_n hx hb dX0_keepsFrom_22 rfl (lv_at hl 1 rfl) ?_
  refine q_av (wr := [(h0, .inl (cy 1, 8, .inl kr)), (h5, .inl (cy 1, 81, .inl (fun _ => 0)))]) (r_V (q0 := 0) (As := [.int 1]) (rest := []) (wc := [(h, .inr (0, [.int 0, .int 0, .int (-1), .ref h0, .ref h1, .ref h2, .ref h3, .ref h4, .int 0, .ref h5, .int 0, .int 0, .int 10, .int 1, .int 0, .int 6]))]) C (q_subP hP [2] rfl) (hD.sub [2] (by decide) rfl) (c_passDay l D cy h 1 h0 h1 h2 h3 h4 h5 6 _ ) kwV_X0_passDay kM_RX0_102 rfl rfl ⟨Nat.le_of_ble_eq_true rfl, Nat.le_of_ble_eq_true rfl⟩ rfl hl.1 rfl (Nat.le_of_ble_eq_true rfl) dX0_keepsFrom_23 ⟨Nat.le_of_ble_eq_true rfl, Nat.le_of_ble_eq_true rfl⟩) C.2.2.2.2.2.2.1 hP hD hS [2] [0, 1] rfl rfl (by decide) (by decide) (fun u_4 H locs hw_6 hP hD hS => ?_)
  have hP : va_P D vwCl [(h0, .inl (cy 1, 8, .inl kr)), (h5, .inl (cy 1, 81, .inl (fun _ => 0))), (h, .inr (0, [.int 0, .int 0, .int (-1), .ref h0, .ref h1, .ref h2, .ref h3, .ref h4, .int 0, .ref h5, .int 0, .int 0, .int 10, .int 1, .int 0, .int 6]))] H := hP
  have hD : va_D A [(h0, .inl (cy 1, 8, .inl kr)), (h5, .inl (cy 1, 81, .inl (fun _ => 0))), (h, .inr (0, [.int 0, .int 0, .int (-1), .ref h0, .ref h1, .ref h2, .ref h3, .ref h4, .int 0, .ref h5, .int 0, .int 0, .int 10, .int 1, .int 0, .int 6]))] := hD
  refine lv_iconst (v := 0) hx hb dX0_keepsFrom_26 (by decide) ?_
  refine lv_istore_n (lv' := [(3, .int 0), (0, .ref h), (1, .int 1), (2, .int 0)]) hx hb dX0_keepsFrom_27 rfl hl (by decide) rfl (fun ls hl => ?_)
  refine lv_iload_n hx hb dX0_keepsFrom_28 rfl (lv_at hl 0 rfl) ?_
  refine lv_aload_n hx hb dX0_keepsFrom_29 rfl (lv_at hl 1 rfl) ?_
  refine q_get (v := .int 0) C hP 2 10 rfl rfl inX0 (by decide) kF_RX0_43 rfl rfl dX0_keepsFrom_30 ?_
  refine lv_icmp_gt (tgt := 170) hx hb dX0_keepsFrom_33 (by decide) (fun c_0 => absurd c_0 (by decide)) (fun _ => ?_)
  refine lv_iload_n hx hb dX0_keepsFrom_36 rfl (lv_at hl 0 rfl) ?_
  refine lv_aload_n hx hb dX0_keepsFrom_37 rfl (lv_at hl 1 rfl) ?_
  refine q_get (v := .int 0) C hP 2 10 rfl rfl inX0 (by decide) kF_RX0_43 rfl rfl dX0_keepsFrom_38 ?_
  refine lv_icmp_ge (tgt := 48) hx hb dX0_keepsFrom_41 (by decide) (fun _ => ?_) (fun c_0 => absurd (by decide) c_0)
  refine lv_iconst (v := 0) hx hb dX0_keepsFrom_48 (by decide) ?_
  refine lv_istore (lv' := [(4, .int 0), (3, .int 0), (0, .ref h), (1, .int 1), (2, .int 0)]) hx hb dX0_keepsFrom_49 hl (by decide) rfl (fun ls hl => ?_)
  refine lv_iload hx hb dX0_keepsFrom_51 (lv_at hl 0 rfl) ?_
  refine lv_if_eq (tgt := 83) hx hb dX0_keepsFrom_53 (by decide) (fun _ => ?_) (fun c_0 => absurd (by decide) c_0)
  refine lv_iload_n hx hb dX0_keepsFrom_83 rfl (lv_at hl 3 rfl) ?_
  refine lv_iconst (v := 1) hx hb dX0_keepsFrom_84 (by decide) ?_
  refine lv_iadd hx hb dX0_keepsFrom_85 ?_
  refine q_val (v := 2) (by decide) ?_
  refine lv_bipush (v := 9) hx hb dX0_keepsFrom_86 (by decide) ?_
  refine lv_imul hx hb dX0_keepsFrom_88 ?_
  refine q_val (v := 18) (by decide) ?_
  refine lv_iload_n hx hb dX0_keepsFrom_89 rfl (lv_at hl 1 rfl) ?_
  refine lv_iadd hx hb dX0_keepsFrom_90 ?_
  refine q_val (v := 18) (by decide) ?_
  refine lv_istore (lv' := [(5, .int 18), (4, .int 0), (3, .int 0), (0, .ref h), (1, .int 1), (2, .int 0)]) hx hb dX0_keepsFrom_91 hl (by decide) rfl (fun ls hl => ?_)
  refine lv_aload_n hx hb dX0_keepsFrom_93 rfl (lv_at hl 3 rfl) ?_
  refine q_get (v := .ref h5) C hP 2 9 rfl rfl inX0 (by decide) kF_RX0_40 rfl rfl dX0_keepsFrom_94 ?_
  refine lv_iload hx hb dX0_keepsFrom_97 (lv_at hl 0 rfl) ?_
  refine q_iald (v := 0) C hP 1 rfl (vin (by decide +kernel)) rfl dX0_keepsFrom_99 ?_
  refine lv_istore (lv' := [(6, .int 0), (5, .int 18), (4, .int 0), (3, .int 0), (0, .ref h), (1, .int 1), (2, .int 0)]) hx hb dX0_keepsFrom_100 hl (by decide) rfl (fun ls hl => ?_)
  refine lv_aload_n hx hb dX0_keepsFrom_102 rfl (lv_at hl 4 rfl) ?_
  refine q_get (v := .ref h5) C hP 2 9 rfl rfl inX0 (by decide) kF_RX0_40 rfl rfl dX0_keepsFrom_103 ?_
  refine lv_iload hx hb dX0_keepsFrom_106 (lv_at hl 1 rfl) ?_
  refine lv_iconst (v := 0) hx hb dX0_keepsFrom_108 (by decide) ?_
  refine q_iast (g := fun _ => 0) (w' := [(h0, .inl (cy 1, 8, .inl kr)), (h5, .inl (cy 1, 81, .inl (fun _ => 0))), (h, .inr (0, [.int 0, .int 0, .int (-1), .ref h0, .ref h1, .ref h2, .ref h3, .ref h4, .int 0, .ref h5, .int 0, .int 0, .int 10, .int 1, .int 0, .int 6]))]) C hP hD hS 1 rfl (vin (by decide +kernel)) (updz _) rfl dX0_keepsFrom_109 (fun H locs hP hD hS => ?_)
  refine lv_aload_n hx hb dX0_keepsFrom_110 rfl (lv_at hl 4 rfl) ?_
  refine lv_iload_n hx hb dX0_keepsFrom_111 rfl (lv_at hl 5 rfl) ?_
  refine lv_iconst (v := 1) hx hb dX0_keepsFrom_112 (by decide) ?_
  refine lv_iadd hx hb dX0_keepsFrom_113 ?_
  refine q_val (v := 2) (by decide) ?_
  refine q_ai (wr := [(h0, .inl (cy 1, 8, .inl kr)), (h5, .inl (cy 1, 81, .inl (fun _ => 0)))]) (r_V (q0 := 0) (As := [.int 2]) (rest := []) (wc := [(h, .inr (0, [.int 0, .int 0, .int (-1), .ref h0, .ref h1, .ref h2, .ref h3, .ref h4, .int 0, .ref h5, .int 0, .int 0, .int 10, .int 1, .int 0, .int 6]))]) C (q_subP hP [2] rfl) (hD.sub [2] (by decide) rfl) (c_rareDoubt l D cy h 2 h0 h1 h2 h3 h4 h5 6 _ ) kwV_X0_areRareInDoubt kM_RX0_106 rfl rfl ⟨Nat.le_of_ble_eq_true rfl, Nat.le_of_ble_eq_true rfl⟩ rfl hl.1 rfl (Nat.le_of_ble_eq_true rfl) dX0_keepsFrom_114 ⟨Nat.le_of_ble_eq_true rfl, Nat.le_of_ble_eq_true rfl⟩) C.2.2.2.2.2.2.1 hP hD hS [2] [0, 1] rfl rfl (by decide) (by decide) (fun r_8 u_7 H locs hw_9 hP hD hS => ?_)
  have hP : va_P D vwCl [(h0, .inl (cy 1, 8, .inl kr)), (h5, .inl (cy 1, 81, .inl (fun _ => 0))), (h, .inr (0, [.int 0, .int 0, .int (-1), .ref h0, .ref h1, .ref h2, .ref h3, .ref h4, .int 0, .ref h5, .int 0, .int 0, .int 10, .int 1, .int 0, .int 6]))] H := hP
  have hD : va_D A [(h0, .inl (cy 1, 8, .inl kr)), (h5, .inl (cy 1, 81, .inl (fun _ => 0))), (h, .inr (0, [.int 0, .int 0, .int (-1), .ref h0, .ref h1, .ref h2, .ref h3, .ref h4, .int 0, .ref h5, .int 0, .int 0, .int 10, .int 1, .int 0, .int 6]))] := hD
  obtain rfl : r_8 = 1 := hw_9
  refine lv_if_eq (tgt := 155) hx hb dX0_keepsFrom_117 (by decide) (fun c_0 => absurd c_0 (by decide)) (fun _ => ?_)
  refine lv_aload_n hx hb dX0_keepsFrom_120 rfl (lv_at hl 4 rfl) ?_
  refine lv_iload_n hx hb dX0_keepsFrom_121 rfl (lv_at hl 5 rfl) ?_
  refine lv_iconst (v := 1) hx hb dX0_keepsFrom_122 (by decide) ?_
  refine lv_iadd hx hb dX0_keepsFrom_123 ?_
  refine q_val (v := 2) (by decide) ?_
  refine lv_iload hx hb dX0_keepsFrom_124 (lv_at hl 2 rfl) ?_
  refine lv_if_eq (tgt := 135) hx hb dX0_keepsFrom_126 (by decide) (fun _ => ?_) (fun c_0 => absurd (by decide) c_0)
  refine lv_iload_n hx hb dX0_keepsFrom_135 rfl (lv_at hl 6 rfl) ?_
  refine q_ai (wr := []) (r_V (q0 := 0) (As := [.int 2, .int 0]) (rest := []) (wc := [(h, .inr (0, [.int 0, .int 0, .int (-1), .ref h0, .ref h1, .ref h2, .ref h3, .ref h4, .int 0, .ref h5, .int 0, .int 0, .int 10, .int 1, .int 0, .int 6])), (h0, .inl (cy 1, 8, .inl kr)), (h5, .inl (cy 1, 81, .inl (fun _ => 0)))]) C (q_subP hP [2, 0, 1] rfl) (hD.sub [2, 0, 1] (by decide) rfl) (c_keeps_6_2 l D cy h h0 h1 h2 h3 h4 h5 kr _ ) kwV_X0_keepsFrom kM_RX0_95 rfl rfl ⟨Nat.le_of_ble_eq_true rfl, Nat.le_of_ble_eq_true rfl⟩ rfl hl.1 rfl (Nat.le_of_ble_eq_true rfl) dX0_keepsFrom_136 ⟨Nat.le_of_ble_eq_true rfl, Nat.le_of_ble_eq_true rfl⟩) C.2.2.2.2.2.2.1 hP hD hS [2, 0, 1] [] rfl rfl (by decide) (by decide) (fun r_11 u_10 H locs hw_12 hP hD hS => ?_)
  have hP : va_P D vwCl [(h, .inr (0, [.int 0, .int 0, .int (-1), .ref h0, .ref h1, .ref h2, .ref h3, .ref h4, .int 0, .ref h5, .int 0, .int 0, .int 10, .int 1, .int 0, .int 6])), (h0, .inl (cy 1, 8, .inl u_10)), (h5, .inl (cy 1, 81, .inl (fun _ => 0)))] H := hP
  have hD : va_D A [(h, .inr (0, [.int 0, .int 0, .int (-1), .ref h0, .ref h1, .ref h2, .ref h3, .ref h4, .int 0, .ref h5, .int 0, .int 0, .int 10, .int 1, .int 0, .int 6])), (h0, .inl (cy 1, 8, .inl u_10)), (h5, .inl (cy 1, 81, .inl (fun _ => 0)))] := hD
  obtain rfl : r_11 = 1 := hw_12
  refine lv_if_eq (tgt := 155) hx hb dX0_keepsFrom_139 (by decide) (fun c_0 => absurd c_0 (by decide)) (fun _ => ?_)
  refine lv_aload_n hx hb dX0_keepsFrom_142 rfl (lv_at hl 4 rfl) ?_
  refine q_get (v := .ref h0) C hP 0 3 rfl rfl inX0 (by decide) kF_RX0_21 rfl rfl dX0_keepsFrom_143 ?_
  refine lv_iload_n hx hb dX0_keepsFrom_146 rfl (lv_at hl 5 rfl) ?_
  refine lv_aload_n hx hb dX0_keepsFrom_147 rfl (lv_at hl 4 rfl) ?_
  refine lv_iload_n hx hb dX0_keepsFrom_148 rfl (lv_at hl 3 rfl) ?_
  refine q_ai (wr := [(h0, .inl (cy 1, 8, .inl u_10)), (h5, .inl (cy 1, 81, .inl (fun _ => 0)))]) (r_V (q0 := 0) (As := [.int 0]) (rest := [.int 1, .ref h0]) (wc := [(h, .inr (0, [.int 0, .int 0, .int (-1), .ref h0, .ref h1, .ref h2, .ref h3, .ref h4, .int 0, .ref h5, .int 0, .int 0, .int 10, .int 1, .int 0, .int 6]))]) C (q_subP hP [0] rfl) (hD.sub [0] (by decide) rfl) (c_bookChosen l D cy h h0 h1 h2 h3 h4 h5 6 _ ) kwV_X0_bookChosen kM_RX0_110 rfl rfl ⟨Nat.le_of_ble_eq_true rfl, Nat.le_of_ble_eq_true rfl⟩ rfl hl.1 rfl (Nat.le_of_ble_eq_true rfl) dX0_keepsFrom_149 ⟨Nat.le_of_ble_eq_true rfl, Nat.le_of_ble_eq_true rfl⟩) C.2.2.2.2.2.2.1 hP hD hS [0] [1, 2] rfl rfl (by decide) (by decide) (fun r_14 u_13 H locs hw_15 hP hD hS => ?_)
  have hP : va_P D vwCl [(h0, .inl (cy 1, 8, .inl u_10)), (h5, .inl (cy 1, 81, .inl (fun _ => 0))), (h, .inr (0, [.int 0, .int 0, .int (-1), .ref h0, .ref h1, .ref h2, .ref h3, .ref h4, .int 0, .ref h5, .int 0, .int 0, .int 10, .int 1, .int 0, .int 6]))] H := hP
  have hD : va_D A [(h0, .inl (cy 1, 8, .inl u_10)), (h5, .inl (cy 1, 81, .inl (fun _ => 0))), (h, .inr (0, [.int 0, .int 0, .int (-1), .ref h0, .ref h1, .ref h2, .ref h3, .ref h4, .int 0, .ref h5, .int 0, .int 0, .int 10, .int 1, .int 0, .int 6]))] := hD
  obtain rfl : r_14 = (-1) := hw_15
  refine q_iast (g := upd u_10 1 (-1)) (w' := [(h0, .inl (cy 1, 8, .inl (upd u_10 1 (-1)))), (h5, .inl (cy 1, 81, .inl (fun _ => 0))), (h, .inr (0, [.int 0, .int 0, .int (-1), .ref h0, .ref h1, .ref h2, .ref h3, .ref h4, .int 0, .ref h5, .int 0, .int 0, .int 10, .int 1, .int 0, .int 6]))]) C hP hD hS 0 rfl (vin (by decide +kernel)) rfl rfl dX0_keepsFrom_152 (fun H locs hP hD hS => ?_)
  refine lv_iconst (v := 1) hx hb dX0_keepsFrom_153 (by decide) ?_
  exact q_iret (rm := (Rm 5 130 0 0)) C hS (upd u_10 1 (-1)) rfl rfl (q_subP hP [2, 0, 1] rfl) (hD.sub [2, 0, 1] (by decide) rfl) (Nat.le_of_ble_eq_true rfl) (Nat.le_of_ble_eq_true rfl) dX0_keepsFrom_154
set_option maxHeartbeats 4000000 in
set_option maxRecDepth 100000 in
theorem c_keeps_6_0 (l : Launch) (D : va_G) (cy : Nat → ClassId) (h : Nat) (h0 : Nat) (h1 : Nat) (h2 : Nat) (h3 : Nat) (h4 : Nat) (h5 : Nat) (kr : Nat → Int32) (sz : Nat)  : MI l yX0_keepsFrom cX0_keepsFrom 7 (some .boolean) (Rm 6 156 0 0) D cy [.ref h, .int 0, .int 0] sz [(h, .inr (0, [.int 0, .int 0, .int (-1), .ref h0, .ref h1, .ref h2, .ref h3, .ref h4, .int 0, .ref h5, .int 0, .int 0, .int 10, .int 1, .int 0, .int 6])), (h0, .inl (cy 1, 8, .inl kr)), (h5, .inl (cy 1, 81, .inl (fun _ => 0)))] (fun (r : Int32) (u : Nat → Int32) => r = 1) (fun u : Nat → Int32 => [(h, .inr (0, [.int 0, .int 0, .int (-1), .ref h0, .ref h1, .ref h2, .ref h3, .ref h4, .int 0, .ref h5, .int 0, .int 0, .int 10, .int 1, .int 0, .int 6])), (h0, .inl (cy 1, 8, .inl u)), (h5, .inl (cy 1, 81, .inl (fun _ => 0)))]) := by
  refine MI.enter (by decide) (Nat.le_of_ble_eq_true rfl) ?_
  intro p e s m below meth c ls A hsz hAe C hP hD hS hl
  have C : Cx p s m _ meth c cX0_keepsFrom 7 (some .boolean) RX0 "keepsFrom" D cy A := C
  have hx := C.1
  have hb := C.2.1
  have hl : lv_has ls 7 [(0, .ref h), (1, .int 0), (2, .int 0)] := hl
  refine lv_iload_n hx hb dX0_keepsFrom_0 rfl (lv_at hl 1 rfl) ?_
  refine lv_aload_n hx hb dX0_keepsFrom_1 rfl (lv_at hl 0 rfl) ?_
  refine q_get (v := .int 6) C hP 0 15 rfl rfl inX0 (by decide) kF_RX0_58 rfl rfl dX0_keepsFrom_2 ?_
  refine lv_icmp_lt (tgt := 10) hx hb dX0_keepsFrom_5 (by decide) (fun _ => ?_) (fun c_0 => absurd (by decide) c_0)
  refine lv_aload_n hx hb dX0_keepsFrom_10 rfl (lv_at hl 0 rfl) ?_
  refine lv_iload_n hx hb dX0_keepsFrom_11 rfl (lv_at hl 1 rfl) ?_
  refine q_ai (wr := [(h0, .inl (cy 1, 8, .inl kr)), (h5, .inl (cy 1, 81, .inl (fun _ => 0)))]) (r_V (q0 := 0) (As := [.int 0]) (rest := []) (wc := [(h, .inr (0, [.int 0, .int 0, .int (-1), .ref h0, .ref h1, .ref h2, .ref h3, .ref h4, .int 0, .ref h5, .int 0, .int 0, .int 10, .int 1, .int 0, .int 6]))]) C (q_subP hP [0] rfl) (hD.sub [0] (by decide) rfl) (c_askNeeded l D cy h 0 h0 h1 h2 h3 h4 h5 6 _ ) kwV_X0_askingsNeeded kM_RX0_98 rfl rfl ⟨Nat.le_of_ble_eq_true rfl, Nat.le_of_ble_eq_true rfl⟩ rfl hl.1 rfl (Nat.le_of_ble_eq_true rfl) dX0_keepsFrom_12 ⟨Nat.le_of_ble_eq_true rfl, Nat.le_of_ble_eq_true rfl⟩) C.2.2.2.2.2.2.1 hP hD hS [0] [1, 2] rfl rfl (by decide) (by decide) (fun r_2 u_1 H locs hw_3 hP hD hS => ?_)
  have hP : va_P D vwCl [(h0, .inl (cy 1, 8, .inl kr)), (h5, .inl (cy 1, 81, .inl (fun _ => 0))), (h, .inr (0, [.int 0, .int 0, .int (-1), .ref h0, .ref h1, .ref h2, .ref h3, .ref h4, .int 0, .ref h5, .int 0, .int 0, .int 10, .int 1, .int 0, .int 6]))] H := hP
  have hD : va_D A [(h0, .inl (cy 1, 8, .inl kr)), (h5, .inl (cy 1, 81, .inl (fun _ => 0))), (h, .inr (0, [.int 0, .int 0, .int (-1), .ref h0, .ref h1, .ref h2, .ref h3, .ref h4, .int 0, .ref h5, .int 0, .int 0, .int 10, .int 1, .int 0, .int 6]))] := hD
  obtain rfl : r_2 = 0 := hw_3
  refine lv_iload_n hx hb dX0_keepsFrom_15 rfl (lv_at hl 2 rfl) ?_
  refine lv_icmp_le (tgt := 21) hx hb dX0_keepsFrom_16 (by decide) (fun _ => ?_) (fun c_0 => absurd (by decide) c_0)
  refine lv_aload_n hx hb dX0_keepsFrom_21 rfl (lv_at hl 0 rfl) ?_
  refine lv_iload_n hx hb dX0_keepsFrom_22 rfl (lv_at hl 1 rfl) ?_
  refine q_av (wr := [(h0, .inl (cy 1, 8, .inl kr)), (h5, .inl (cy 1, 81, .inl (fun _ => 0)))]) (r_V (q0 := 0) (As := [.int 0]) (rest := []) (wc := [(h, .inr (0, [.int 0, .int 0, .int (-1), .ref h0, .ref h1, .ref h2, .ref h3, .ref h4, .int 0, .ref h5, .int 0, .int 0, .int 10, .int 1, .int 0, .int 6]))]) C (q_subP hP [2] rfl) (hD.sub [2] (by decide) rfl) (c_passDay l D cy h 0 h0 h1 h2 h3 h4 h5 6 _ ) kwV_X0_passDay kM_RX0_102 rfl rfl ⟨Nat.le_of_ble_eq_true rfl, Nat.le_of_ble_eq_true rfl⟩ rfl hl.1 rfl (Nat.le_of_ble_eq_true rfl) dX0_keepsFrom_23 ⟨Nat.le_of_ble_eq_true rfl, Nat.le_of_ble_eq_true rfl⟩) C.2.2.2.2.2.2.1 hP hD hS [2] [0, 1] rfl rfl (by decide) (by decide) (fun u_4 H locs hw_6 hP hD hS => ?_)
  have hP : va_P D vwCl [(h0, .inl (cy 1, 8, .inl kr)), (h5, .inl (cy 1, 81, .inl (fun _ => 0))), (h, .inr (0, [.int 0, .int 0, .int (-1), .ref h0, .ref h1, .ref h2, .ref h3, .ref h4, .int 0, .ref h5, .int 0, .int 0, .int 10, .int 1, .int 0, .int 6]))] H := hP
  have hD : va_D A [(h0, .inl (cy 1, 8, .inl kr)), (h5, .inl (cy 1, 81, .inl (fun _ => 0))), (h, .inr (0, [.int 0, .int 0, .int (-1), .ref h0, .ref h1, .ref h2, .ref h3, .ref h4, .int 0, .ref h5, .int 0, .int 0, .int 10, .int 1, .int 0, .int 6]))] := hD
  refine lv_iconst (v := 0) hx hb dX0_keepsFrom_26 (by decide) ?_
  refine lv_istore_n (lv' := [(3, .int 0), (0, .ref h), (1, .int 0), (2, .int 0)]) hx hb dX0_keepsFrom_27 rfl hl (by decide) rfl (fun ls hl => ?_)
  refine lv_iload_n hx hb dX0_keepsFrom_28 rfl (lv_at hl 0 rfl) ?_
  refine lv_aload_n hx hb dX0_keepsFrom_29 rfl (lv_at hl 1 rfl) ?_
  refine q_get (v := .int 0) C hP 2 10 rfl rfl inX0 (by decide) kF_RX0_43 rfl rfl dX0_keepsFrom_30 ?_
  refine lv_icmp_gt (tgt := 170) hx hb dX0_keepsFrom_33 (by decide) (fun c_0 => absurd c_0 (by decide)) (fun _ => ?_)
  refine lv_iload_n hx hb dX0_keepsFrom_36 rfl (lv_at hl 0 rfl) ?_
  refine lv_aload_n hx hb dX0_keepsFrom_37 rfl (lv_at hl 1 rfl) ?_
  refine q_get (v := .int 0) C hP 2 10 rfl rfl inX0 (by decide) kF_RX0_43 rfl rfl dX0_keepsFrom_38 ?_
  refine lv_icmp_ge (tgt := 48) hx hb dX0_keepsFrom_41 (by decide) (fun _ => ?_) (fun c_0 => absurd (by decide) c_0)
  refine lv_iconst (v := 0) hx hb dX0_keepsFrom_48 (by decide) ?_
  refine lv_istore (lv' := [(4, .int 0), (3, .int 0), (0, .ref h), (1, .int 0), (2, .int 0)]) hx hb dX0_keepsFrom_49 hl (by decide) rfl (fun ls hl => ?_)
  refine lv_iload hx hb dX0_keepsFrom_51 (lv_at hl 0 rfl) ?_
  refine lv_if_eq (tgt := 83) hx hb dX0_keepsFrom_53 (by decide) (fun _ => ?_) (fun c_0 => absurd (by decide) c_0)
  refine lv_iload_n hx hb dX0_keepsFrom_83 rfl (lv_at hl 3 rfl) ?_
  refine lv_iconst (v := 1) hx hb dX0_keepsFrom_84 (by decide) ?_
  refine lv_iadd hx hb dX0_keepsFrom_85 ?_
  refine q_val (v := 1) (by decide) ?_
  refine lv_bipush (v := 9) hx hb dX0_keepsFrom_86 (by decide) ?_
  refine lv_imul hx hb dX0_keepsFrom_88 ?_
  refine q_val (v := 9) (by decide) ?_
  refine lv_iload_n hx hb dX0_keepsFrom_89 rfl (lv_at hl 1 rfl) ?_
  refine lv_iadd hx hb dX0_keepsFrom_90 ?_
  refine q_val (v := 9) (by decide) ?_
  refine lv_istore (lv' := [(5, .int 9), (4, .int 0), (3, .int 0), (0, .ref h), (1, .int 0), (2, .int 0)]) hx hb dX0_keepsFrom_91 hl (by decide) rfl (fun ls hl => ?_)
  refine lv_aload_n hx hb dX0_keepsFrom_93 rfl (lv_at hl 3 rfl) ?_
  refine q_get (v := .ref h5) C hP 2 9 rfl rfl inX0 (by decide) kF_RX0_40 rfl rfl dX0_keepsFrom_94 ?_
  refine lv_iload hx hb dX0_keepsFrom_97 (lv_at hl 0 rfl) ?_
  refine q_iald (v := 0) C hP 1 rfl (vin (by decide +kernel)) rfl dX0_keepsFrom_99 ?_
  refine lv_istore (lv' := [(6, .int 0), (5, .int 9), (4, .int 0), (3, .int 0), (0, .ref h), (1, .int 0), (2, .int 0)]) hx hb dX0_keepsFrom_100 hl (by decide) rfl (fun ls hl => ?_)
  refine lv_aload_n hx hb dX0_keepsFrom_102 rfl (lv_at hl 4 rfl) ?_
  refine q_get (v := .ref h5) C hP 2 9 rfl rfl inX0 (by decide) kF_RX0_40 rfl rfl dX0_keepsFrom_103 ?_
  refine lv_iload hx hb dX0_keepsFrom_106 (lv_at hl 1 rfl) ?_
  refine lv_iconst (v := 0) hx hb dX0_keepsFrom_108 (by decide) ?_
  refine q_iast (g := fun _ => 0) (w' := [(h0, .inl (cy 1, 8, .inl kr)), (h5, .inl (cy 1, 81, .inl (fun _ => 0))), (h, .inr (0, [.int 0, .int 0, .int (-1), .ref h0, .ref h1, .ref h2, .ref h3, .ref h4, .int 0, .ref h5, .int 0, .int 0, .int 10, .int 1, .int 0, .int 6]))]) C hP hD hS 1 rfl (vin (by decide +kernel)) (updz _) rfl dX0_keepsFrom_109 (fun H locs hP hD hS => ?_)
  refine lv_aload_n hx hb dX0_keepsFrom_110 rfl (lv_at hl 4 rfl) ?_
  refine lv_iload_n hx hb dX0_keepsFrom_111 rfl (lv_at hl 5 rfl) ?_
  refine lv_iconst (v := 1) hx hb dX0_keepsFrom_112 (by decide) ?_
  refine lv_iadd hx hb dX0_keepsFrom_113 ?_
  refine q_val (v := 1) (by decide) ?_
  refine q_ai (wr := [(h0, .inl (cy 1, 8, .inl kr)), (h5, .inl (cy 1, 81, .inl (fun _ => 0)))]) (r_V (q0 := 0) (As := [.int 1]) (rest := []) (wc := [(h, .inr (0, [.int 0, .int 0, .int (-1), .ref h0, .ref h1, .ref h2, .ref h3, .ref h4, .int 0, .ref h5, .int 0, .int 0, .int 10, .int 1, .int 0, .int 6]))]) C (q_subP hP [2] rfl) (hD.sub [2] (by decide) rfl) (c_rareDoubt l D cy h 1 h0 h1 h2 h3 h4 h5 6 _ ) kwV_X0_areRareInDoubt kM_RX0_106 rfl rfl ⟨Nat.le_of_ble_eq_true rfl, Nat.le_of_ble_eq_true rfl⟩ rfl hl.1 rfl (Nat.le_of_ble_eq_true rfl) dX0_keepsFrom_114 ⟨Nat.le_of_ble_eq_true rfl, Nat.le_of_ble_eq_true rfl⟩) C.2.2.2.2.2.2.1 hP hD hS [2] [0, 1] rfl rfl (by decide) (by decide) (fun r_8 u_7 H locs hw_9 hP hD hS => ?_)
  have hP : va_P D vwCl [(h0, .inl (cy 1, 8, .inl kr)), (h5, .inl (cy 1, 81, .inl (fun _ => 0))), (h, .inr (0, [.int 0, .int 0, .int (-1), .ref h0, .ref h1, .ref h2, .ref h3, .ref h4, .int 0, .ref h5, .int 0, .int 0, .int 10, .int 1, .int 0, .int 6]))] H := hP
  have hD : va_D A [(h0, .inl (cy 1, 8, .inl kr)), (h5, .inl (cy 1, 81, .inl (fun _ => 0))), (h, .inr (0, [.int 0, .int 0, .int (-1), .ref h0, .ref h1, .ref h2, .ref h3, .ref h4, .int 0, .ref h5, .int 0, .int 0, .int 10, .int 1, .int 0, .int 6]))] := hD
  obtain rfl : r_8 = 1 := hw_9
  refine lv_if_eq (tgt := 155) hx hb dX0_keepsFrom_117 (by decide) (fun c_0 => absurd c_0 (by decide)) (fun _ => ?_)
  refine lv_aload_n hx hb dX0_keepsFrom_120 rfl (lv_at hl 4 rfl) ?_
  refine lv_iload_n hx hb dX0_keepsFrom_121 rfl (lv_at hl 5 rfl) ?_
  refine lv_iconst (v := 1) hx hb dX0_keepsFrom_122 (by decide) ?_
  refine lv_iadd hx hb dX0_keepsFrom_123 ?_
  refine q_val (v := 1) (by decide) ?_
  refine lv_iload hx hb dX0_keepsFrom_124 (lv_at hl 2 rfl) ?_
  refine lv_if_eq (tgt := 135) hx hb dX0_keepsFrom_126 (by decide) (fun _ => ?_) (fun c_0 => absurd (by decide) c_0)
  refine lv_iload_n hx hb dX0_keepsFrom_135 rfl (lv_at hl 6 rfl) ?_
  refine q_ai (wr := []) (r_V (q0 := 0) (As := [.int 1, .int 0]) (rest := []) (wc := [(h, .inr (0, [.int 0, .int 0, .int (-1), .ref h0, .ref h1, .ref h2, .ref h3, .ref h4, .int 0, .ref h5, .int 0, .int 0, .int 10, .int 1, .int 0, .int 6])), (h0, .inl (cy 1, 8, .inl kr)), (h5, .inl (cy 1, 81, .inl (fun _ => 0)))]) C (q_subP hP [2, 0, 1] rfl) (hD.sub [2, 0, 1] (by decide) rfl) (c_keeps_6_1 l D cy h h0 h1 h2 h3 h4 h5 kr _ ) kwV_X0_keepsFrom kM_RX0_95 rfl rfl ⟨Nat.le_of_ble_eq_true rfl, Nat.le_of_ble_eq_true rfl⟩ rfl hl.1 rfl (Nat.le_of_ble_eq_true rfl) dX0_keepsFrom_136 ⟨Nat.le_of_ble_eq_true rfl, Nat.le_of_ble_eq_true rfl⟩) C.2.2.2.2.2.2.1 hP hD hS [2, 0, 1] [] rfl rfl (by decide) (by decide) (fun r_11 u_10 H locs hw_12 hP hD hS => ?_)
  have hP : va_P D vwCl [(h, .inr (0, [.int 0, .int 0, .int (-1), .ref h0, .ref h1, .ref h2, .ref h3, .ref h4, .int 0, .ref h5, .int 0, .int 0, .int 10, .int 1, .int 0, .int 6])), (h0, .inl (cy 1, 8, .inl u_10)), (h5, .inl (cy 1, 81, .inl (fun _ => 0)))] H := hP
  have hD : va_D A [(h, .inr (0, [.int 0, .int 0, .int (-1), .ref h0, .ref h1, .ref h2, .ref h3, .ref h4, .int 0, .ref h5, .int 0, .int 0, .int 10, .int 1, .int 0, .int 6])), (h0, .inl (cy 1, 8, .inl u_10)), (h5, .inl (cy 1, 81, .inl (fun _ => 0)))] := hD
  obtain rfl : r_11 = 1 := hw_12
  refine lv_if_eq (tgt := 155) hx hb dX0_keepsFrom_139 (by decide) (fun c_0 => absurd c_0 (by decide)) (fun _ => ?_)
  refine lv_aload_n hx hb dX0_keepsFrom_142 rfl (lv_at hl 4 rfl) ?_
  refine q_get (v := .ref h0) C hP 0 3 rfl rfl inX0 (by decide) kF_RX0_21 rfl rfl dX0_keepsFrom_143 ?_
  refine lv_iload_n hx hb dX0_keepsFrom_146 rfl (lv_at hl 5 rfl) ?_
  refine lv_aload_n hx hb dX0_keepsFrom_147 rfl (lv_at hl 4 rfl) ?_
  refine lv_iload_n hx hb dX0_keepsFrom_148 rfl (lv_at hl 3 rfl) ?_
  refine q_ai (wr := [(h0, .inl (cy 1, 8, .inl u_10)), (h5, .inl (cy 1, 81, .inl (fun _ => 0)))]) (r_V (q0 := 0) (As := [.int 0]) (rest := [.int 0, .ref h0]) (wc := [(h, .inr (0, [.int 0, .int 0, .int (-1), .ref h0, .ref h1, .ref h2, .ref h3, .ref h4, .int 0, .ref h5, .int 0, .int 0, .int 10, .int 1, .int 0, .int 6]))]) C (q_subP hP [0] rfl) (hD.sub [0] (by decide) rfl) (c_bookChosen l D cy h h0 h1 h2 h3 h4 h5 6 _ ) kwV_X0_bookChosen kM_RX0_110 rfl rfl ⟨Nat.le_of_ble_eq_true rfl, Nat.le_of_ble_eq_true rfl⟩ rfl hl.1 rfl (Nat.le_of_ble_eq_true rfl) dX0_keepsFrom_149 ⟨Nat.le_of_ble_eq_true rfl, Nat.le_of_ble_eq_true rfl⟩) C.2.2.2.2.2.2.1 hP hD hS [0] [1, 2] rfl rfl (by decide) (by decide) (fun r_14 u_13 H locs hw_15 hP hD hS => ?_)
  have hP : va_P D vwCl [(h0, .inl (cy 1, 8, .inl u_10)), (h5, .inl (cy 1, 81, .inl (fun _ => 0))), (h, .inr (0, [.int 0, .int 0, .int (-1), .ref h0, .ref h1, .ref h2, .ref h3, .ref h4, .int 0, .ref h5, .int 0, .int 0, .int 10, .int 1, .int 0, .int 6]))] H := hP
  have hD : va_D A [(h0, .inl (cy 1, 8, .inl u_10)), (h5, .inl (cy 1, 81, .inl (fun _ => 0))), (h, .inr (0, [.int 0, .int 0, .int (-1), .ref h0, .ref h1, .ref h2, .ref h3, .ref h4, .int 0, .ref h5, .int 0, .int 0, .int 10, .int 1, .int 0, .int 6]))] := hD
  obtain rfl : r_14 = (-1) := hw_15
  refine q_iast (g := upd u_10 0 (-1)) (w' := [(h0, .inl (cy 1, 8, .inl (upd u_10 0 (-1)))), (h5, .inl (cy 1, 81, .inl (fun _ => 0))), (h, .inr (0, [.int 0, .int 0, .int (-1), .ref h0, .ref h1, .ref h2, .ref h3, .ref h4, .int 0, .ref h5, .int 0, .int 0, .int 10, .int 1, .int 0, .int 6]))]) C hP hD hS 0 rfl (vin (by decide +kernel)) rfl rfl dX0_keepsFrom_152 (fun H locs hP hD hS => ?_)
  refine lv_iconst (v := 1) hx hb dX0_keepsFrom_153 (by decide) ?_
  exact q_iret (rm := (Rm 6 156 0 0)) C hS (upd u_10 0 (-1)) rfl rfl (q_subP hP [2, 0, 1] rfl) (hD.sub [2, 0, 1] (by decide) rfl) (Nat.le_of_ble_eq_true rfl) (Nat.le_of_ble_eq_true rfl) dX0_keepsFrom_154
set_option maxHeartbeats 4000000 in
set_option maxRecDepth 100000 in
theorem c_fewest_6 (l : Launch) (D : va_G) (cy : Nat → ClassId) (h : Nat) (h0 : Nat) (h1 : Nat) (h2 : Nat) (h3 : Nat) (h4 : Nat) (h5 : Nat) (kr : Nat → Int32) (sz : Nat)  : MI l yX0_fewestAskings cX0_fewestAskings 2 (some .int) (Rm 7 182 0 0) D cy [.ref h] sz [(h, .inr (0, [.int 0, .int 0, .int (-1), .ref h0, .ref h1, .ref h2, .ref h3, .ref h4, .int 0, .ref h5, .int 0, .int 0, .int 10, .int 1, .int 0, .int 6])), (h0, .inl (cy 1, 8, .inl kr)), (h5, .inl (cy 1, 81, .inl (fun _ => 0)))] (fun (r : Int32) (u : Unit) => r = 0) (fun u : Unit => []) := by
  refine MI.enter (by decide) (Nat.le_of_ble_eq_true rfl) ?_
  intro p e s m below meth c ls A hsz hAe C hP hD hS hl
  have C : Cx p s m _ meth c cX0_fewestAskings 2 (some .int) RX0 "fewestAskings" D cy A := C
  have hx := C.1
  have hb := C.2.1
  have hl : lv_has ls 2 [(0, .ref h)] := hl
  refine lv_iconst (v := 0) hx hb dX0_fewestAskings_0 (by decide) ?_
  refine lv_istore_n (lv' := [(1, .int 0), (0, .ref h)]) hx hb dX0_fewestAskings_1 rfl hl (by decide) rfl (fun ls hl => ?_)
  refine lv_iload_n hx hb dX0_fewestAskings_2 rfl (lv_at hl 0 rfl) ?_
  refine lv_aload_n hx hb dX0_fewestAskings_3 rfl (lv_at hl 1 rfl) ?_
  refine q_get (v := .int 6) C hP 0 15 rfl rfl inX0 (by decide) kF_RX0_58 rfl rfl dX0_fewestAskings_4 ?_
  refine lv_icmp_gt (tgt := 35) hx hb dX0_fewestAskings_7 (by decide) (fun c_0 => absurd c_0 (by decide)) (fun _ => ?_)
  refine lv_aload_n hx hb dX0_fewestAskings_10 rfl (lv_at hl 1 rfl) ?_
  refine lv_iconst (v := 0) hx hb dX0_fewestAskings_11 (by decide) ?_
  refine lv_iload_n hx hb dX0_fewestAskings_12 rfl (lv_at hl 0 rfl) ?_
  refine q_ai (wr := []) (r_V (q0 := 0) (As := [.int 0, .int 0]) (rest := []) (wc := [(h, .inr (0, [.int 0, .int 0, .int (-1), .ref h0, .ref h1, .ref h2, .ref h3, .ref h4, .int 0, .ref h5, .int 0, .int 0, .int 10, .int 1, .int 0, .int 6])), (h0, .inl (cy 1, 8, .inl kr)), (h5, .inl (cy 1, 81, .inl (fun _ => 0)))]) C (q_subP hP [0, 1, 2] rfl) (hD.sub [0, 1, 2] (by decide) rfl) (c_keeps_6_0 l D cy h h0 h1 h2 h3 h4 h5 kr _ ) kwV_X0_keepsFrom kM_RX0_95 rfl rfl ⟨Nat.le_of_ble_eq_true rfl, Nat.le_of_ble_eq_true rfl⟩ rfl hl.1 rfl (Nat.le_of_ble_eq_true rfl) dX0_fewestAskings_13 ⟨Nat.le_of_ble_eq_true rfl, Nat.le_of_ble_eq_true rfl⟩) C.2.2.2.2.2.2.1 hP hD hS [0, 1, 2] [] rfl rfl (by decide) (by decide) (fun r_2 u_1 H locs hw_3 hP hD hS => ?_)
  have hP : va_P D vwCl [(h, .inr (0, [.int 0, .int 0, .int (-1), .ref h0, .ref h1, .ref h2, .ref h3, .ref h4, .int 0, .ref h5, .int 0, .int 0, .int 10, .int 1, .int 0, .int 6])), (h0, .inl (cy 1, 8, .inl u_1)), (h5, .inl (cy 1, 81, .inl (fun _ => 0)))] H := hP
  have hD : va_D A [(h, .inr (0, [.int 0, .int 0, .int (-1), .ref h0, .ref h1, .ref h2, .ref h3, .ref h4, .int 0, .ref h5, .int 0, .int 0, .int 10, .int 1, .int 0, .int 6])), (h0, .inl (cy 1, 8, .inl u_1)), (h5, .inl (cy 1, 81, .inl (fun _ => 0)))] := hD
  obtain rfl : r_2 = 1 := hw_3
  refine lv_if_eq (tgt := 29) hx hb dX0_fewestAskings_16 (by decide) (fun c_0 => absurd c_0 (by decide)) (fun _ => ?_)
  refine lv_aload_n hx hb dX0_fewestAskings_19 rfl (lv_at hl 1 rfl) ?_
  refine lv_aload_n hx hb dX0_fewestAskings_20 rfl (lv_at hl 1 rfl) ?_
  refine q_get (v := .int 6) C hP 0 15 rfl rfl inX0 (by decide) kF_RX0_58 rfl rfl dX0_fewestAskings_21 ?_
  refine q_put (v := .int 6) (w' := [(h, .inr (0, [.int 6, .int 0, .int (-1), .ref h0, .ref h1, .ref h2, .ref h3, .ref h4, .int 0, .ref h5, .int 0, .int 0, .int 10, .int 1, .int 0, .int 6])), (h0, .inl (cy 1, 8, .inl u_1)), (h5, .inl (cy 1, 81, .inl (fun _ => 0)))]) (ty := .int) C hP hD hS 0 0 rfl rfl inX0 tyX0 tyX0_ok nmX0 (by decide) kF_RX0_9 rfl rfl rfl rfl rfl (Nat.le_of_ble_eq_true rfl) rfl dX0_fewestAskings_24 (fun H locs hP hD hS => ?_)
  refine lv_iload_n hx hb dX0_fewestAskings_27 rfl (lv_at hl 0 rfl) ?_
  exact q_iret (rm := (Rm 7 182 0 0)) C hS () rfl rfl (q_subP hP [] rfl) (hD.sub [] (by decide) rfl) (Nat.le_of_ble_eq_true rfl) (Nat.le_of_ble_eq_true rfl) dX0_fewestAskings_28
set_option maxHeartbeats 4000000 in
set_option maxRecDepth 100000 in
theorem c_keeps_7_7 (l : Launch) (D : va_G) (cy : Nat → ClassId) (h : Nat) (h0 : Nat) (h1 : Nat) (h2 : Nat) (h3 : Nat) (h4 : Nat) (h5 : Nat) (kr : Nat → Int32) (sz : Nat)  : MI l yX0_keepsFrom cX0_keepsFrom 7 (some .boolean) (Rm 0 0 0 0) D cy [.ref h, .int 7, .int 0] sz [(h, .inr (0, [.int 0, .int 0, .int (-1), .ref h0, .ref h1, .ref h2, .ref h3, .ref h4, .int 0, .ref h5, .int 0, .int 0, .int 10, .int 1, .int 0, .int 7])), (h0, .inl (cy 1, 8, .inl kr)), (h5, .inl (cy 1, 81, .inl (fun _ => 0)))] (fun (r : Int32) (u : Nat → Int32) => r = 1) (fun u : Nat → Int32 => [(h, .inr (0, [.int 0, .int 0, .int (-1), .ref h0, .ref h1, .ref h2, .ref h3, .ref h4, .int 0, .ref h5, .int 0, .int 0, .int 10, .int 1, .int 0, .int 7])), (h0, .inl (cy 1, 8, .inl u)), (h5, .inl (cy 1, 81, .inl (fun _ => 0)))]) := by
  refine MI.enter (by decide) (Nat.le_of_ble_eq_true rfl) ?_
  intro p e s m below meth c ls A hsz hAe C hP hD hS hl
  have C : Cx p s m _ meth c cX0_keepsFrom 7 (some .boolean) RX0 "keepsFrom" D cy A := C
  have hx := C.1
  have hb := C.2.1
  have hl : lv_has ls 7 [(0, .ref h), (1, .int 7), (2, .int 0)] := hl
  refine lv_iload_n hx hb dX0_keepsFrom_0 rfl (lv_at hl 1 rfl) ?_
  refine lv_aload_n hx hb dX0_keepsFrom_1 rfl (lv_at hl 0 rfl) ?_
  refine q_get (v := .int 7) C hP 0 15 rfl rfl inX0 (by decide) kF_RX0_58 rfl rfl dX0_keepsFrom_2 ?_
  refine lv_icmp_lt (tgt := 10) hx hb dX0_keepsFrom_5 (by decide) (fun c_0 => absurd c_0 (by decide)) (fun _ => ?_)
  refine lv_iconst (v := 1) hx hb dX0_keepsFrom_8 (by decide) ?_
  exact q_iret (rm := (Rm 0 0 0 0)) C hS (kr) rfl rfl (q_subP hP [0, 1, 2] rfl) (hD.sub [0, 1, 2] (by decide) rfl) (Nat.le_of_ble_eq_true rfl) (Nat.le_of_ble_eq_true rfl) dX0_keepsFrom_9
set_option maxHeartbeats 4000000 in
set_option maxRecDepth 100000 in
theorem c_keeps_7_6 (l : Launch) (D : va_G) (cy : Nat → ClassId) (h : Nat) (h0 : Nat) (h1 : Nat) (h2 : Nat) (h3 : Nat) (h4 : Nat) (h5 : Nat) (kr : Nat → Int32) (sz : Nat)  : MI l yX0_keepsFrom cX0_keepsFrom 7 (some .boolean) (Rm 1 26 0 0) D cy [.ref h, .int 6, .int 0] sz [(h, .inr (0, [.int 0, .int 0, .int (-1), .ref h0, .ref h1, .ref h2, .ref h3, .ref h4, .int 0, .ref h5, .int 0, .int 0, .int 10, .int 1, .int 0, .int 7])), (h0, .inl (cy 1, 8, .inl kr)), (h5, .inl (cy 1, 81, .inl (fun _ => 0)))] (fun (r : Int32) (u : Nat → Int32) => r = 1) (fun u : Nat → Int32 => [(h, .inr (0, [.int 0, .int 0, .int (-1), .ref h0, .ref h1, .ref h2, .ref h3, .ref h4, .int 0, .ref h5, .int 0, .int 0, .int 10, .int 1, .int 0, .int 7])), (h0, .inl (cy 1, 8, .inl u)), (h5, .inl (cy 1, 81, .inl (fun _ => 0)))]) := by
  refine MI.enter (by decide) (Nat.le_of_ble_eq_true rfl) ?_
  intro p e s m below meth c ls A hsz hAe C hP hD hS hl
  have C : Cx p s m _ meth c cX0_keepsFrom 7 (some .boolean) RX0 "keepsFrom" D cy A := C
  have hx := C.1
  have hb := C.2.1
  have hl : lv_has ls 7 [(0, .ref h), (1, .int 6), (2, .int 0)] := hl
  refine lv_iload_n hx hb dX0_keepsFrom_0 rfl (lv_at hl 1 rfl) ?_
  refine lv_aload_n hx hb dX0_keepsFrom_1 rfl (lv_at hl 0 rfl) ?_
  refine q_get (v := .int 7) C hP 0 15 rfl rfl inX0 (by decide) kF_RX0_58 rfl rfl dX0_keepsFrom_2 ?_
  refine lv_icmp_lt (tgt := 10) hx hb dX0_keepsFrom_5 (by decide) (fun _ => ?_) (fun c_0 => absurd (by decide) c_0)
  refine lv_aload_n hx hb dX0_keepsFrom_10 rfl (lv_at hl 0 rfl) ?_
  refine lv_iload_n hx hb dX0_keepsFrom_11 rfl (lv_at hl 1 rfl) ?_
  refine q_ai (wr := [(h0, .inl (cy 1, 8, .inl kr)), (h5, .inl (cy 1, 81, .inl (fun _ => 0)))]) (r_V (q0 := 0) (As := [.int 6]) (rest := []) (wc := [(h, .inr (0, [.int 0, .int 0, .int (-1), .ref h0, .ref h1, .ref h2, .ref h3, .ref h4, .int 0, .ref h5, .int 0, .int 0, .int 10, .int 1, .int 0, .int 7]))]) C (q_subP hP [0] rfl) (hD.sub [0] (by decide) rfl) (c_askNeeded l D cy h 6 h0 h1 h2 h3 h4 h5 7 _ ) kwV_X0_askingsNeeded kM_RX0_98 rfl rfl ⟨Nat.le_of_ble_eq_true rfl, Nat.le_of_ble_eq_true rfl⟩ rfl hl.1 rfl (Nat.le_of_ble_eq_true rfl) dX0_keepsFrom_12 ⟨Nat.le_of_ble_eq_true rfl, Nat.le_of_ble_eq_true rfl⟩) C.2.2.2.2.2.2.1 hP hD hS [0] [1, 2] rfl rfl (by decide) (by decide) (fun r_2 u_1 H locs hw_3 hP hD hS => ?_)
  have hP : va_P D vwCl [(h0, .inl (cy 1, 8, .inl kr)), (h5, .inl (cy 1, 81, .inl (fun _ => 0))), (h, .inr (0, [.int 0, .int 0, .int (-1), .ref h0, .ref h1, .ref h2, .ref h3, .ref h4, .int 0, .ref h5, .int 0, .int 0, .int 10, .int 1, .int 0, .int 7]))] H := hP
  have hD : va_D A [(h0, .inl (cy 1, 8, .inl kr)), (h5, .inl (cy 1, 81, .inl (fun _ => 0))), (h, .inr (0, [.int 0, .int 0, .int (-1), .ref h0, .ref h1, .ref h2, .ref h3, .ref h4, .int 0, .ref h5, .int 0, .int 0, .int 10, .int 1, .int 0, .int 7]))] := hD
  obtain rfl : r_2 = 0 := hw_3
  refine lv_iload_n hx hb dX0_keepsFrom_15 rfl (lv_at hl 2 rfl) ?_
  refine lv_icmp_le (tgt := 21) hx hb dX0_keepsFrom_16 (by decide) (fun _ => ?_) (fun c_0 => absurd (by decide) c_0)
  refine lv_aload_n hx hb dX0_keepsFrom_21 rfl (lv_at hl 0 rfl) ?_
  refine lv_iload_n hx hb dX0_keepsFrom_22 rfl (lv_at hl 1 rfl) ?_
  refine q_av (wr := [(h0, .inl (cy 1, 8, .inl kr)), (h5, .inl (cy 1, 81, .inl (fun _ => 0)))]) (r_V (q0 := 0) (As := [.int 6]) (rest := []) (wc := [(h, .inr (0, [.int 0, .int 0, .int (-1), .ref h0, .ref h1, .ref h2, .ref h3, .ref h4, .int 0, .ref h5, .int 0, .int 0, .int 10, .int 1, .int 0, .int 7]))]) C (q_subP hP [2] rfl) (hD.sub [2] (by decide) rfl) (c_passDay l D cy h 6 h0 h1 h2 h3 h4 h5 7 _ ) kwV_X0_passDay kM_RX0_102 rfl rfl ⟨Nat.le_of_ble_eq_true rfl, Nat.le_of_ble_eq_true rfl⟩ rfl hl.1 rfl (Nat.le_of_ble_eq_true rfl) dX0_keepsFrom_23 ⟨Nat.le_of_ble_eq_true rfl, Nat.le_of_ble_eq_true rfl⟩) C.2.2.2.2.2.2.1 hP hD hS [2] [0, 1] rfl rfl (by decide) (by decide) (fun u_4 H locs hw_6 hP hD hS => ?_)
  have hP : va_P D vwCl [(h0, .inl (cy 1, 8, .inl kr)), (h5, .inl (cy 1, 81, .inl (fun _ => 0))), (h, .inr (0, [.int 0, .int 0, .int (-1), .ref h0, .ref h1, .ref h2, .ref h3, .ref h4, .int 0, .ref h5, .int 0, .int 0, .int 10, .int 1, .int 0, .int 7]))] H := hP
  have hD : va_D A [(h0, .inl (cy 1, 8, .inl kr)), (h5, .inl (cy 1, 81, .inl (fun _ => 0))), (h, .inr (0, [.int 0, .int 0, .int (-1), .ref h0, .ref h1, .ref h2, .ref h3, .ref h4, .int 0, .ref h5, .int 0, .int 0, .int 10, .int 1, .int 0, .int 7]))] := hD
  refine lv_iconst (v := 0) hx hb dX0_keepsFrom_26 (by decide) ?_
  refine lv_istore_n (lv' := [(3, .int 0), (0, .ref h), (1, .int 6), (2, .int 0)]) hx hb dX0_keepsFrom_27 rfl hl (by decide) rfl (fun ls hl => ?_)
  refine lv_iload_n hx hb dX0_keepsFrom_28 rfl (lv_at hl 0 rfl) ?_
  refine lv_aload_n hx hb dX0_keepsFrom_29 rfl (lv_at hl 1 rfl) ?_
  refine q_get (v := .int 0) C hP 2 10 rfl rfl inX0 (by decide) kF_RX0_43 rfl rfl dX0_keepsFrom_30 ?_
  refine lv_icmp_gt (tgt := 170) hx hb dX0_keepsFrom_33 (by decide) (fun c_0 => absurd c_0 (by decide)) (fun _ => ?_)
  refine lv_iload_n hx hb dX0_keepsFrom_36 rfl (lv_at hl 0 rfl) ?_
  refine lv_aload_n hx hb dX0_keepsFrom_37 rfl (lv_at hl 1 rfl) ?_
  refine q_get (v := .int 0) C hP 2 10 rfl rfl inX0 (by decide) kF_RX0_43 rfl rfl dX0_keepsFrom_38 ?_
  refine lv_icmp_ge (tgt := 48) hx hb dX0_keepsFrom_41 (by decide) (fun _ => ?_) (fun c_0 => absurd (by decide) c_0)
  refine lv_iconst (v := 0) hx hb dX0_keepsFrom_48 (by decide) ?_
  refine lv_istore (lv' := [(4, .int 0), (3, .int 0), (0, .ref h), (1, .int 6), (2, .int 0)]) hx hb dX0_keepsFrom_49 hl (by decide) rfl (fun ls hl => ?_)
  refine lv_iload hx hb dX0_keepsFrom_51 (lv_at hl 0 rfl) ?_
  refine lv_if_eq (tgt := 83) hx hb dX0_keepsFrom_53 (by decide) (fun _ => ?_) (fun c_0 => absurd (by decide) c_0)
  refine lv_iload_n hx hb dX0_keepsFrom_83 rfl (lv_at hl 3 rfl) ?_
  refine lv_iconst (v := 1) hx hb dX0_keepsFrom_84 (by decide) ?_
  refine lv_iadd hx hb dX0_keepsFrom_85 ?_
  refine q_val (v := 7) (by decide) ?_
  refine lv_bipush (v := 9) hx hb dX0_keepsFrom_86 (by decide) ?_
  refine lv_imul hx hb dX0_keepsFrom_88 ?_
  refine q_val (v := 63) (by decide) ?_
  refine lv_iload_n hx hb dX0_keepsFrom_89 rfl (lv_at hl 1 rfl) ?_
  refine lv_iadd hx hb dX0_keepsFrom_90 ?_
  refine q_val (v := 63) (by decide) ?_
  refine lv_istore (lv' := [(5, .int 63), (4, .int 0), (3, .int 0), (0, .ref h), (1, .int 6), (2, .int 0)]) hx hb dX0_keepsFrom_91 hl (by decide) rfl (fun ls hl => ?_)
  refine lv_aload_n hx hb dX0_keepsFrom_93 rfl (lv_at hl 3 rfl) ?_
  refine q_get (v := .ref h5) C hP 2 9 rfl rfl inX0 (by decide) kF_RX0_40 rfl rfl dX0_keepsFrom_94 ?_
  refine lv_iload hx hb dX0_keepsFrom_97 (lv_at hl 0 rfl) ?_
  refine q_iald (v := 0) C hP 1 rfl (vin (by decide +kernel)) rfl dX0_keepsFrom_99 ?_
  refine lv_istore (lv' := [(6, .int 0), (5, .int 63), (4, .int 0), (3, .int 0), (0, .ref h), (1, .int 6), (2, .int 0)]) hx hb dX0_keepsFrom_100 hl (by decide) rfl (fun ls hl => ?_)
  refine lv_aload_n hx hb dX0_keepsFrom_102 rfl (lv_at hl 4 rfl) ?_
  refine q_get (v := .ref h5) C hP 2 9 rfl rfl inX0 (by decide) kF_RX0_40 rfl rfl dX0_keepsFrom_103 ?_
  refine lv_iload hx hb dX0_keepsFrom_106 (lv_at hl 1 rfl) ?_
  refine lv_iconst (v := 0) hx hb dX0_keepsFrom_108 (by decide) ?_
  refine q_iast (g := fun _ => 0) (w' := [(h0, .inl (cy 1, 8, .inl kr)), (h5, .inl (cy 1, 81, .inl (fun _ => 0))), (h, .inr (0, [.int 0, .int 0, .int (-1), .ref h0, .ref h1, .ref h2, .ref h3, .ref h4, .int 0, .ref h5, .int 0, .int 0, .int 10, .int 1, .int 0, .int 7]))]) C hP hD hS 1 rfl (vin (by decide +kernel)) (updz _) rfl dX0_keepsFrom_109 (fun H locs hP hD hS => ?_)
  refine lv_aload_n hx hb dX0_keepsFrom_110 rfl (lv_at hl 4 rfl) ?_
  refine lv_iload_n hx hb dX0_keepsFrom_111 rfl (lv_at hl 5 rfl) ?_
  refine lv_iconst (v := 1) hx hb dX0_keepsFrom_112 (by decide) ?_
  refine lv_iadd hx hb dX0_keepsFrom_113 ?_
  refine q_val (v := 7) (by decide) ?_
  refine q_ai (wr := [(h0, .inl (cy 1, 8, .inl kr)), (h5, .inl (cy 1, 81, .inl (fun _ => 0)))]) (r_V (q0 := 0) (As := [.int 7]) (rest := []) (wc := [(h, .inr (0, [.int 0, .int 0, .int (-1), .ref h0, .ref h1, .ref h2, .ref h3, .ref h4, .int 0, .ref h5, .int 0, .int 0, .int 10, .int 1, .int 0, .int 7]))]) C (q_subP hP [2] rfl) (hD.sub [2] (by decide) rfl) (c_rareDoubt l D cy h 7 h0 h1 h2 h3 h4 h5 7 _ ) kwV_X0_areRareInDoubt kM_RX0_106 rfl rfl ⟨Nat.le_of_ble_eq_true rfl, Nat.le_of_ble_eq_true rfl⟩ rfl hl.1 rfl (Nat.le_of_ble_eq_true rfl) dX0_keepsFrom_114 ⟨Nat.le_of_ble_eq_true rfl, Nat.le_of_ble_eq_true rfl⟩) C.2.2.2.2.2.2.1 hP hD hS [2] [0, 1] rfl rfl (by decide) (by decide) (fun r_8 u_7 H locs hw_9 hP hD hS => ?_)
  have hP : va_P D vwCl [(h0, .inl (cy 1, 8, .inl kr)), (h5, .inl (cy 1, 81, .inl (fun _ => 0))), (h, .inr (0, [.int 0, .int 0, .int (-1), .ref h0, .ref h1, .ref h2, .ref h3, .ref h4, .int 0, .ref h5, .int 0, .int 0, .int 10, .int 1, .int 0, .int 7]))] H := hP
  have hD : va_D A [(h0, .inl (cy 1, 8, .inl kr)), (h5, .inl (cy 1, 81, .inl (fun _ => 0))), (h, .inr (0, [.int 0, .int 0, .int (-1), .ref h0, .ref h1, .ref h2, .ref h3, .ref h4, .int 0, .ref h5, .int 0, .int 0, .int 10, .int 1, .int 0, .int 7]))] := hD
  obtain rfl : r_8 = 1 := hw_9
  refine lv_if_eq (tgt := 155) hx hb dX0_keepsFrom_117 (by decide) (fun c_0 => absurd c_0 (by decide)) (fun _ => ?_)
  refine lv_aload_n hx hb dX0_keepsFrom_120 rfl (lv_at hl 4 rfl) ?_
  refine lv_iload_n hx hb dX0_keepsFrom_121 rfl (lv_at hl 5 rfl) ?_
  refine lv_iconst (v := 1) hx hb dX0_keepsFrom_122 (by decide) ?_
  refine lv_iadd hx hb dX0_keepsFrom_123 ?_
  refine q_val (v := 7) (by decide) ?_
  refine lv_iload hx hb dX0_keepsFrom_124 (lv_at hl 2 rfl) ?_
  refine lv_if_eq (tgt := 135) hx hb dX0_keepsFrom_126 (by decide) (fun _ => ?_) (fun c_0 => absurd (by decide) c_0)
  refine lv_iload_n hx hb dX0_keepsFrom_135 rfl (lv_at hl 6 rfl) ?_
  refine q_ai (wr := []) (r_V (q0 := 0) (As := [.int 7, .int 0]) (rest := []) (wc := [(h, .inr (0, [.int 0, .int 0, .int (-1), .ref h0, .ref h1, .ref h2, .ref h3, .ref h4, .int 0, .ref h5, .int 0, .int 0, .int 10, .int 1, .int 0, .int 7])), (h0, .inl (cy 1, 8, .inl kr)), (h5, .inl (cy 1, 81, .inl (fun _ => 0)))]) C (q_subP hP [2, 0, 1] rfl) (hD.sub [2, 0, 1] (by decide) rfl) (c_keeps_7_7 l D cy h h0 h1 h2 h3 h4 h5 kr _ ) kwV_X0_keepsFrom kM_RX0_95 rfl rfl ⟨Nat.le_of_ble_eq_true rfl, Nat.le_of_ble_eq_true rfl⟩ rfl hl.1 rfl (Nat.le_of_ble_eq_true rfl) dX0_keepsFrom_136 ⟨Nat.le_of_ble_eq_true rfl, Nat.le_of_ble_eq_true rfl⟩) C.2.2.2.2.2.2.1 hP hD hS [2, 0, 1] [] rfl rfl (by decide) (by decide) (fun r_11 u_10 H locs hw_12 hP hD hS => ?_)
  have hP : va_P D vwCl [(h, .inr (0, [.int 0, .int 0, .int (-1), .ref h0, .ref h1, .ref h2, .ref h3, .ref h4, .int 0, .ref h5, .int 0, .int 0, .int 10, .int 1, .int 0, .int 7])), (h0, .inl (cy 1, 8, .inl u_10)), (h5, .inl (cy 1, 81, .inl (fun _ => 0)))] H := hP
  have hD : va_D A [(h, .inr (0, [.int 0, .int 0, .int (-1), .ref h0, .ref h1, .ref h2, .ref h3, .ref h4, .int 0, .ref h5, .int 0, .int 0, .int 10, .int 1, .int 0, .int 7])), (h0, .inl (cy 1, 8, .inl u_10)), (h5, .inl (cy 1, 81, .inl (fun _ => 0)))] := hD
  obtain rfl : r_11 = 1 := hw_12
  refine lv_if_eq (tgt := 155) hx hb dX0_keepsFrom_139 (by decide) (fun c_0 => absurd c_0 (by decide)) (fun _ => ?_)
  refine lv_aload_n hx hb dX0_keepsFrom_142 rfl (lv_at hl 4 rfl) ?_
  refine q_get (v := .ref h0) C hP 0 3 rfl rfl inX0 (by decide) kF_RX0_21 rfl rfl dX0_keepsFrom_143 ?_
  refine lv_iload_n hx hb dX0_keepsFrom_146 rfl (lv_at hl 5 rfl) ?_
  refine lv_aload_n hx hb dX0_keepsFrom_147 rfl (lv_at hl 4 rfl) ?_
  refine lv_iload_n hx hb dX0_keepsFrom_148 rfl (lv_at hl 3 rfl) ?_
  refine q_ai (wr := [(h0, .inl (cy 1, 8, .inl u_10)), (h5, .inl (cy 1, 81, .inl (fun _ => 0)))]) (r_V (q0 := 0) (As := [.int 0]) (rest := [.int 6, .ref h0]) (wc := [(h, .inr (0, [.int 0, .int 0, .int (-1), .ref h0, .ref h1, .ref h2, .ref h3, .ref h4, .int 0, .ref h5, .int 0, .int 0, .int 10, .int 1, .int 0, .int 7]))]) C (q_subP hP [0] rfl) (hD.sub [0] (by decide) rfl) (c_bookChosen l D cy h h0 h1 h2 h3 h4 h5 7 _ ) kwV_X0_bookChosen kM_RX0_110 rfl rfl ⟨Nat.le_of_ble_eq_true rfl, Nat.le_of_ble_eq_true rfl⟩ rfl hl.1 rfl (Nat.le_of_ble_eq_true rfl) dX0_keepsFrom_149 ⟨Nat.le_of_ble_eq_true rfl, Nat.le_of_ble_eq_true rfl⟩) C.2.2.2.2.2.2.1 hP hD hS [0] [1, 2] rfl rfl (by decide) (by decide) (fun r_14 u_13 H locs hw_15 hP hD hS => ?_)
  have hP : va_P D vwCl [(h0, .inl (cy 1, 8, .inl u_10)), (h5, .inl (cy 1, 81, .inl (fun _ => 0))), (h, .inr (0, [.int 0, .int 0, .int (-1), .ref h0, .ref h1, .ref h2, .ref h3, .ref h4, .int 0, .ref h5, .int 0, .int 0, .int 10, .int 1, .int 0, .int 7]))] H := hP
  have hD : va_D A [(h0, .inl (cy 1, 8, .inl u_10)), (h5, .inl (cy 1, 81, .inl (fun _ => 0))), (h, .inr (0, [.int 0, .int 0, .int (-1), .ref h0, .ref h1, .ref h2, .ref h3, .ref h4, .int 0, .ref h5, .int 0, .int 0, .int 10, .int 1, .int 0, .int 7]))] := hD
  obtain rfl : r_14 = (-1) := hw_15
  refine q_iast (g := upd u_10 6 (-1)) (w' := [(h0, .inl (cy 1, 8, .inl (upd u_10 6 (-1)))), (h5, .inl (cy 1, 81, .inl (fun _ => 0))), (h, .inr (0, [.int 0, .int 0, .int (-1), .ref h0, .ref h1, .ref h2, .ref h3, .ref h4, .int 0, .ref h5, .int 0, .int 0, .int 10, .int 1, .int 0, .int 7]))]) C hP hD hS 0 rfl (vin (by decide +kernel)) rfl rfl dX0_keepsFrom_152 (fun H locs hP hD hS => ?_)
  refine lv_iconst (v := 1) hx hb dX0_keepsFrom_153 (by decide) ?_
  exact q_iret (rm := (Rm 1 26 0 0)) C hS (upd u_10 6 (-1)) rfl rfl (q_subP hP [2, 0, 1] rfl) (hD.sub [2, 0, 1] (by decide) rfl) (Nat.le_of_ble_eq_true rfl) (Nat.le_of_ble_eq_true rfl) dX0_keepsFrom_154
set_option maxHeartbeats 4000000 in
set_option maxRecDepth 100000 in
theorem c_keeps_7_5 (l : Launch) (D : va_G) (cy : Nat → ClassId) (h : Nat) (h0 : Nat) (h1 : Nat) (h2 : Nat) (h3 : Nat) (h4 : Nat) (h5 : Nat) (kr : Nat → Int32) (sz : Nat)  : MI l yX0_keepsFrom cX0_keepsFrom 7 (some .boolean) (Rm 2 52 0 0) D cy [.ref h, .int 5, .int 0] sz [(h, .inr (0, [.int 0, .int 0, .int (-1), .ref h0, .ref h1, .ref h2, .ref h3, .ref h4, .int 0, .ref h5, .int 0, .int 0, .int 10, .int 1, .int 0, .int 7])), (h0, .inl (cy 1, 8, .inl kr)), (h5, .inl (cy 1, 81, .inl (fun _ => 0)))] (fun (r : Int32) (u : Nat → Int32) => r = 1) (fun u : Nat → Int32 => [(h, .inr (0, [.int 0, .int 0, .int (-1), .ref h0, .ref h1, .ref h2, .ref h3, .ref h4, .int 0, .ref h5, .int 0, .int 0, .int 10, .int 1, .int 0, .int 7])), (h0, .inl (cy 1, 8, .inl u)), (h5, .inl (cy 1, 81, .inl (fun _ => 0)))]) := by
  refine MI.enter (by decide) (Nat.le_of_ble_eq_true rfl) ?_
  intro p e s m below meth c ls A hsz hAe C hP hD hS hl
  have C : Cx p s m _ meth c cX0_keepsFrom 7 (some .boolean) RX0 "keepsFrom" D cy A := C
  have hx := C.1
  have hb := C.2.1
  have hl : lv_has ls 7 [(0, .ref h), (1, .int 5), (2, .int 0)] := hl
  refine lv_iload_n hx hb dX0_keepsFrom_0 rfl (lv_at hl 1 rfl) ?_
  refine lv_aload_n hx hb dX0_keepsFrom_1 rfl (lv_at hl 0 rfl) ?_
  refine q_get (v := .int 7) C hP 0 15 rfl rfl inX0 (by decide) kF_RX0_58 rfl rfl dX0_keepsFrom_2 ?_
  refine lv_icmp_lt (tgt := 10) hx hb dX0_keepsFrom_5 (by decide) (fun _ => ?_) (fun c_0 => absurd (by decide) c_0)
  refine lv_aload_n hx hb dX0_keepsFrom_10 rfl (lv_at hl 0 rfl) ?_
  refine lv_iload_n hx hb dX0_keepsFrom_11 rfl (lv_at hl 1 rfl) ?_
  refine q_ai (wr := [(h0, .inl (cy 1, 8, .inl kr)), (h5, .inl (cy 1, 81, .inl (fun _ => 0)))]) (r_V (q0 := 0) (As := [.int 5]) (rest := []) (wc := [(h, .inr (0, [.int 0, .int 0, .int (-1), .ref h0, .ref h1, .ref h2, .ref h3, .ref h4, .int 0, .ref h5, .int 0, .int 0, .int 10, .int 1, .int 0, .int 7]))]) C (q_subP hP [0] rfl) (hD.sub [0] (by decide) rfl) (c_askNeeded l D cy h 5 h0 h1 h2 h3 h4 h5 7 _ ) kwV_X0_askingsNeeded kM_RX0_98 rfl rfl ⟨Nat.le_of_ble_eq_true rfl, Nat.le_of_ble_eq_true rfl⟩ rfl hl.1 rfl (Nat.le_of_ble_eq_true rfl) dX0_keepsFrom_12 ⟨Nat.le_of_ble_eq_true rfl, Nat.le_of_ble_eq_true rfl⟩) C.2.2.2.2.2.2.1 hP hD hS [0] [1, 2] rfl rfl (by decide) (by decide) (fun r_2 u_1 H locs hw_3 hP hD hS => ?_)
  have hP : va_P D vwCl [(h0, .inl (cy 1, 8, .inl kr)), (h5, .inl (cy 1, 81, .inl (fun _ => 0))), (h, .inr (0, [.int 0, .int 0, .int (-1), .ref h0, .ref h1, .ref h2, .ref h3, .ref h4, .int 0, .ref h5, .int 0, .int 0, .int 10, .int 1, .int 0, .int 7]))] H := hP
  have hD : va_D A [(h0, .inl (cy 1, 8, .inl kr)), (h5, .inl (cy 1, 81, .inl (fun _ => 0))), (h, .inr (0, [.int 0, .int 0, .int (-1), .ref h0, .ref h1, .ref h2, .ref h3, .ref h4, .int 0, .ref h5, .int 0, .int 0, .int 10, .int 1, .int 0, .int 7]))] := hD
  obtain rfl : r_2 = 0 := hw_3
  refine lv_iload_n hx hb dX0_keepsFrom_15 rfl (lv_at hl 2 rfl) ?_
  refine lv_icmp_le (tgt := 21) hx hb dX0_keepsFrom_16 (by decide) (fun _ => ?_) (fun c_0 => absurd (by decide) c_0)
  refine lv_aload_n hx hb dX0_keepsFrom_21 rfl (lv_at hl 0 rfl) ?_
  refine lv_iload_n hx hb dX0_keepsFrom_22 rfl (lv_at hl 1 rfl) ?_
  refine q_av (wr := [(h0, .inl (cy 1, 8, .inl kr)), (h5, .inl (cy 1, 81, .inl (fun _ => 0)))]) (r_V (q0 := 0) (As := [.int 5]) (rest := []) (wc := [(h, .inr (0, [.int 0, .int 0, .int (-1), .ref h0, .ref h1, .ref h2, .ref h3, .ref h4, .int 0, .ref h5, .int 0, .int 0, .int 10, .int 1, .int 0, .int 7]))]) C (q_subP hP [2] rfl) (hD.sub [2] (by decide) rfl) (c_passDay l D cy h 5 h0 h1 h2 h3 h4 h5 7 _ ) kwV_X0_passDay kM_RX0_102 rfl rfl ⟨Nat.le_of_ble_eq_true rfl, Nat.le_of_ble_eq_true rfl⟩ rfl hl.1 rfl (Nat.le_of_ble_eq_true rfl) dX0_keepsFrom_23 ⟨Nat.le_of_ble_eq_true rfl, Nat.le_of_ble_eq_true rfl⟩) C.2.2.2.2.2.2.1 hP hD hS [2] [0, 1] rfl rfl (by decide) (by decide) (fun u_4 H locs hw_6 hP hD hS => ?_)
  have hP : va_P D vwCl [(h0, .inl (cy 1, 8, .inl kr)), (h5, .inl (cy 1, 81, .inl (fun _ => 0))), (h, .inr (0, [.int 0, .int 0, .int (-1), .ref h0, .ref h1, .ref h2, .ref h3, .ref h4, .int 0, .ref h5, .int 0, .int 0, .int 10, .int 1, .int 0, .int 7]))] H := hP
  have hD : va_D A [(h0, .inl (cy 1, 8, .inl kr)), (h5, .inl (cy 1, 81, .inl (fun _ => 0))), (h, .inr (0, [.int 0, .int 0, .int (-1), .ref h0, .ref h1, .ref h2, .ref h3, .ref h4, .int 0, .ref h5, .int 0, .int 0, .int 10, .int 1, .int 0, .int 7]))] := hD
  refine lv_iconst (v := 0) hx hb dX0_keepsFrom_26 (by decide) ?_
  refine lv_istore_n (lv' := [(3, .int 0), (0, .ref h), (1, .int 5), (2, .int 0)]) hx hb dX0_keepsFrom_27 rfl hl (by decide) rfl (fun ls hl => ?_)
  refine lv_iload_n hx hb dX0_keepsFrom_28 rfl (lv_at hl 0 rfl) ?_
  refine lv_aload_n hx hb dX0_keepsFrom_29 rfl (lv_at hl 1 rfl) ?_
  refine q_get (v := .int 0) C hP 2 10 rfl rfl inX0 (by decide) kF_RX0_43 rfl rfl dX0_keepsFrom_30 ?_
  refine lv_icmp_gt (tgt := 170) hx hb dX0_keepsFrom_33 (by decide) (fun c_0 => absurd c_0 (by decide)) (fun _ => ?_)
  refine lv_iload_n hx hb dX0_keepsFrom_36 rfl (lv_at hl 0 rfl) ?_
  refine lv_aload_n hx hb dX0_keepsFrom_37 rfl (lv_at hl 1 rfl) ?_
  refine q_get (v := .int 0) C hP 2 10 rfl rfl inX0 (by decide) kF_RX0_43 rfl rfl dX0_keepsFrom_38 ?_
  refine lv_icmp_ge (tgt := 48) hx hb dX0_keepsFrom_41 (by decide) (fun _ => ?_) (fun c_0 => absurd (by decide) c_0)
  refine lv_iconst (v := 0) hx hb dX0_keepsFrom_48 (by decide) ?_
  refine lv_istore (lv' := [(4, .int 0), (3, .int 0), (0, .ref h), (1, .int 5), (2, .int 0)]) hx hb dX0_keepsFrom_49 hl (by decide) rfl (fun ls hl => ?_)
  refine lv_iload hx hb dX0_keepsFrom_51 (lv_at hl 0 rfl) ?_
  refine lv_if_eq (tgt := 83) hx hb dX0_keepsFrom_53 (by decide) (fun _ => ?_) (fun c_0 => absurd (by decide) c_0)
  refine lv_iload_n hx hb dX0_keepsFrom_83 rfl (lv_at hl 3 rfl) ?_
  refine lv_iconst (v := 1) hx hb dX0_keepsFrom_84 (by decide) ?_
  refine lv_iadd hx hb dX0_keepsFrom_85 ?_
  refine q_val (v := 6) (by decide) ?_
  refine lv_bipush (v := 9) hx hb dX0_keepsFrom_86 (by decide) ?_
  refine lv_imul hx hb dX0_keepsFrom_88 ?_
  refine q_val (v := 54) (by decide) ?_
  refine lv_iload_n hx hb dX0_keepsFrom_89 rfl (lv_at hl 1 rfl) ?_
  refine lv_iadd hx hb dX0_keepsFrom_90 ?_
  refine q_val (v := 54) (by decide) ?_
  refine lv_istore (lv' := [(5, .int 54), (4, .int 0), (3, .int 0), (0, .ref h), (1, .int 5), (2, .int 0)]) hx hb dX0_keepsFrom_91 hl (by decide) rfl (fun ls hl => ?_)
  refine lv_aload_n hx hb dX0_keepsFrom_93 rfl (lv_at hl 3 rfl) ?_
  refine q_get (v := .ref h5) C hP 2 9 rfl rfl inX0 (by decide) kF_RX0_40 rfl rfl dX0_keepsFrom_94 ?_
  refine lv_iload hx hb dX0_keepsFrom_97 (lv_at hl 0 rfl) ?_
  refine q_iald (v := 0) C hP 1 rfl (vin (by decide +kernel)) rfl dX0_keepsFrom_99 ?_
  refine lv_istore (lv' := [(6, .int 0), (5, .int 54), (4, .int 0), (3, .int 0), (0, .ref h), (1, .int 5), (2, .int 0)]) hx hb dX0_keepsFrom_100 hl (by decide) rfl (fun ls hl => ?_)
  refine lv_aload_n hx hb dX0_keepsFrom_102 rfl (lv_at hl 4 rfl) ?_
  refine q_get (v := .ref h5) C hP 2 9 rfl rfl inX0 (by decide) kF_RX0_40 rfl rfl dX0_keepsFrom_103 ?_
  refine lv_iload hx hb dX0_keepsFrom_106 (lv_at hl 1 rfl) ?_
  refine lv_iconst (v := 0) hx hb dX0_keepsFrom_108 (by decide) ?_
  refine q_iast (g := fun _ => 0) (w' := [(h0, .inl (cy 1, 8, .inl kr)), (h5, .inl (cy 1, 81, .inl (fun _ => 0))), (h, .inr (0, [.int 0, .int 0, .int (-1), .ref h0, .ref h1, .ref h2, .ref h3, .ref h4, .int 0, .ref h5, .int 0, .int 0, .int 10, .int 1, .int 0, .int 7]))]) C hP hD hS 1 rfl (vin (by decide +kernel)) (updz _) rfl dX0_keepsFrom_109 (fun H locs hP hD hS => ?_)
  refine lv_aload_n hx hb dX0_keepsFrom_110 rfl (lv_at hl 4 rfl) ?_
  refine lv_iload_n hx hb dX0_keepsFrom_111 rfl (lv_at hl 5 rfl) ?_
  refine lv_iconst (v := 1) hx hb dX0_keepsFrom_112 (by decide) ?_
  refine lv_iadd hx hb dX0_keepsFrom_113 ?_
  refine q_val (v := 6) (by decide) ?_
  refine q_ai (wr := [(h0, .inl (cy 1, 8, .inl kr)), (h5, .inl (cy 1, 81, .inl (fun _ => 0)))]) (r_V (q0 := 0) (As := [.int 6]) (rest := []) (wc := [(h, .inr (0, [.int 0, .int 0, .int (-1), .ref h0, .ref h1, .ref h2, .ref h3, .ref h4, .int 0, .ref h5, .int 0, .int 0, .int 10, .int 1, .int 0, .int 7]))]) C (q_subP hP [2] rfl) (hD.sub [2] (by decide) rfl) (c_rareDoubt l D cy h 6 h0 h1 h2 h3 h4 h5 7 _ ) kwV_X0_areRareInDoubt kM_RX0_106 rfl rfl ⟨Nat.le_of_ble_eq_true rfl, Nat.le_of_ble_eq_true rfl⟩ rfl hl.1 rfl (Nat.le_of_ble_eq_true rfl) dX0_keepsFrom_114 ⟨Nat.le_of_ble_eq_true rfl, Nat.le_of_ble_eq_true rfl⟩) C.2.2.2.2.2.2.1 hP hD hS [2] [0, 1] rfl rfl (by decide) (by decide) (fun r_8 u_7 H locs hw_9 hP hD hS => ?_)
  have hP : va_P D vwCl [(h0, .inl (cy 1, 8, .inl kr)), (h5, .inl (cy 1, 81, .inl (fun _ => 0))), (h, .inr (0, [.int 0, .int 0, .int (-1), .ref h0, .ref h1, .ref h2, .ref h3, .ref h4, .int 0, .ref h5, .int 0, .int 0, .int 10, .int 1, .int 0, .int 7]))] H := hP
  have hD : va_D A [(h0, .inl (cy 1, 8, .inl kr)), (h5, .inl (cy 1, 81, .inl (fun _ => 0))), (h, .inr (0, [.int 0, .int 0, .int (-1), .ref h0, .ref h1, .ref h2, .ref h3, .ref h4, .int 0, .ref h5, .int 0, .int 0, .int 10, .int 1, .int 0, .int 7]))] := hD
  obtain rfl : r_8 = 1 := hw_9
  refine lv_if_eq (tgt := 155) hx hb dX0_keepsFrom_117 (by decide) (fun c_0 => absurd c_0 (by decide)) (fun _ => ?_)
  refine lv_aload_n hx hb dX0_keepsFrom_120 rfl (lv_at hl 4 rfl) ?_
  refine lv_iload_n hx hb dX0_keepsFrom_121 rfl (lv_at hl 5 rfl) ?_
  refine lv_iconst (v := 1) hx hb dX0_keepsFrom_122 (by decide) ?_
  refine lv_iadd hx hb dX0_keepsFrom_123 ?_
  refine q_val (v := 6) (by decide) ?_
  refine lv_iload hx hb dX0_keepsFrom_124 (lv_at hl 2 rfl) ?_
  refine lv_if_eq (tgt := 135) hx hb dX0_keepsFrom_126 (by decide) (fun _ => ?_) (fun c_0 => absurd (by decide) c_0)
  refine lv_iload_n hx hb dX0_keepsFrom_135 rfl (lv_at hl 6 rfl) ?_
  refine q_ai (wr := []) (r_V (q0 := 0) (As := [.int 6, .int 0]) (rest := []) (wc := [(h, .inr (0, [.int 0, .int 0, .int (-1), .ref h0, .ref h1, .ref h2, .ref h3, .ref h4, .int 0, .ref h5, .int 0, .int 0, .int 10, .int 1, .int 0, .int 7])), (h0, .inl (cy 1, 8, .inl kr)), (h5, .inl (cy 1, 81, .inl (fun _ => 0)))]) C (q_subP hP [2, 0, 1] rfl) (hD.sub [2, 0, 1] (by decide) rfl) (c_keeps_7_6 l D cy h h0 h1 h2 h3 h4 h5 kr _ ) kwV_X0_keepsFrom kM_RX0_95 rfl rfl ⟨Nat.le_of_ble_eq_true rfl, Nat.le_of_ble_eq_true rfl⟩ rfl hl.1 rfl (Nat.le_of_ble_eq_true rfl) dX0_keepsFrom_136 ⟨Nat.le_of_ble_eq_true rfl, Nat.le_of_ble_eq_true rfl⟩) C.2.2.2.2.2.2.1 hP hD hS [2, 0, 1] [] rfl rfl (by decide) (by decide) (fun r_11 u_10 H locs hw_12 hP hD hS => ?_)
  have hP : va_P D vwCl [(h, .inr (0, [.int 0, .int 0, .int (-1), .ref h0, .ref h1, .ref h2, .ref h3, .ref h4, .int 0, .ref h5, .int 0, .int 0, .int 10, .int 1, .int 0, .int 7])), (h0, .inl (cy 1, 8, .inl u_10)), (h5, .inl (cy 1, 81, .inl (fun _ => 0)))] H := hP
  have hD : va_D A [(h, .inr (0, [.int 0, .int 0, .int (-1), .ref h0, .ref h1, .ref h2, .ref h3, .ref h4, .int 0, .ref h5, .int 0, .int 0, .int 10, .int 1, .int 0, .int 7])), (h0, .inl (cy 1, 8, .inl u_10)), (h5, .inl (cy 1, 81, .inl (fun _ => 0)))] := hD
  obtain rfl : r_11 = 1 := hw_12
  refine lv_if_eq (tgt := 155) hx hb dX0_keepsFrom_139 (by decide) (fun c_0 => absurd c_0 (by decide)) (fun _ => ?_)
  refine lv_aload_n hx hb dX0_keepsFrom_142 rfl (lv_at hl 4 rfl) ?_
  refine q_get (v := .ref h0) C hP 0 3 rfl rfl inX0 (by decide) kF_RX0_21 rfl rfl dX0_keepsFrom_143 ?_
  refine lv_iload_n hx hb dX0_keepsFrom_146 rfl (lv_at hl 5 rfl) ?_
  refine lv_aload_n hx hb dX0_keepsFrom_147 rfl (lv_at hl 4 rfl) ?_
  refine lv_iload_n hx hb dX0_keepsFrom_148 rfl (lv_at hl 3 rfl) ?_
  refine q_ai (wr := [(h0, .inl (cy 1, 8, .inl u_10)), (h5, .inl (cy 1, 81, .inl (fun _ => 0)))]) (r_V (q0 := 0) (As := [.int 0]) (rest := [.int 5, .ref h0]) (wc := [(h, .inr (0, [.int 0, .int 0, .int (-1), .ref h0, .ref h1, .ref h2, .ref h3, .ref h4, .int 0, .ref h5, .int 0, .int 0, .int 10, .int 1, .int 0, .int 7]))]) C (q_subP hP [0] rfl) (hD.sub [0] (by decide) rfl) (c_bookChosen l D cy h h0 h1 h2 h3 h4 h5 7 _ ) kwV_X0_bookChosen kM_RX0_110 rfl rfl ⟨Nat.le_of_ble_eq_true rfl, Nat.le_of_ble_eq_true rfl⟩ rfl hl.1 rfl (Nat.le_of_ble_eq_true rfl) dX0_keepsFrom_149 ⟨Nat.le_of_ble_eq_true rfl, Nat.le_of_ble_eq_true rfl⟩) C.2.2.2.2.2.2.1 hP hD hS [0] [1, 2] rfl rfl (by decide) (by decide) (fun r_14 u_13 H locs hw_15 hP hD hS => ?_)
  have hP : va_P D vwCl [(h0, .inl (cy 1, 8, .inl u_10)), (h5, .inl (cy 1, 81, .inl (fun _ => 0))), (h, .inr (0, [.int 0, .int 0, .int (-1), .ref h0, .ref h1, .ref h2, .ref h3, .ref h4, .int 0, .ref h5, .int 0, .int 0, .int 10, .int 1, .int 0, .int 7]))] H := hP
  have hD : va_D A [(h0, .inl (cy 1, 8, .inl u_10)), (h5, .inl (cy 1, 81, .inl (fun _ => 0))), (h, .inr (0, [.int 0, .int 0, .int (-1), .ref h0, .ref h1, .ref h2, .ref h3, .ref h4, .int 0, .ref h5, .int 0, .int 0, .int 10, .int 1, .int 0, .int 7]))] := hD
  obtain rfl : r_14 = (-1) := hw_15
  refine q_iast (g := upd u_10 5 (-1)) (w' := [(h0, .inl (cy 1, 8, .inl (upd u_10 5 (-1)))), (h5, .inl (cy 1, 81, .inl (fun _ => 0))), (h, .inr (0, [.int 0, .int 0, .int (-1), .ref h0, .ref h1, .ref h2, .ref h3, .ref h4, .int 0, .ref h5, .int 0, .int 0, .int 10, .int 1, .int 0, .int 7]))]) C hP hD hS 0 rfl (vin (by decide +kernel)) rfl rfl dX0_keepsFrom_152 (fun H locs hP hD hS => ?_)
  refine lv_iconst (v := 1) hx hb dX0_keepsFrom_153 (by decide) ?_
  exact q_iret (rm := (Rm 2 52 0 0)) C hS (upd u_10 5 (-1)) rfl rfl (q_subP hP [2, 0, 1] rfl) (hD.sub [2, 0, 1] (by decide) rfl) (Nat.le_of_ble_eq_true rfl) (Nat.le_of_ble_eq_true rfl) dX0_keepsFrom_154
set_option maxHeartbeats 4000000 in
set_option maxRecDepth 100000 in
theorem c_keeps_7_4 (l : Launch) (D : va_G) (cy : Nat → ClassId) (h : Nat) (h0 : Nat) (h1 : Nat) (h2 : Nat) (h3 : Nat) (h4 : Nat) (h5 : Nat) (kr : Nat → Int32) (sz : Nat)  : MI l yX0_keepsFrom cX0_keepsFrom 7 (some .boolean) (Rm 3 78 0 0) D cy [.ref h, .int 4, .int 0] sz [(h, .inr (0, [.int 0, .int 0, .int (-1), .ref h0, .ref h1, .ref h2, .ref h3, .ref h4, .int 0, .ref h5, .int 0, .int 0, .int 10, .int 1, .int 0, .int 7])), (h0, .inl (cy 1, 8, .inl kr)), (h5, .inl (cy 1, 81, .inl (fun _ => 0)))] (fun (r : Int32) (u : Nat → Int32) => r = 1) (fun u : Nat → Int32 => [(h, .inr (0, [.int 0, .int 0, .int (-1), .ref h0, .ref h1, .ref h2, .ref h3, .ref h4, .int 0, .ref h5, .int 0, .int 0, .int 10, .int 1, .int 0, .int 7])), (h0, .inl (cy 1, 8, .inl u)), (h5, .inl (cy 1, 81, .inl (fun _ => 0)))]) := by
  refine MI.enter (by decide) (Nat.le_of_ble_eq_true rfl) ?_
  intro p e s m below meth c ls A hsz hAe C hP hD hS hl
  have C : Cx p s m _ meth c cX0_keepsFrom 7 (some .boolean) RX0 "keepsFrom" D cy A := C
  have hx := C.1
  have hb := C.2.1
  have hl : lv_has ls 7 [(0, .ref h), (1, .int 4), (2, .int 0)] := hl
  refine lv_iload_n hx hb dX0_keepsFrom_0 rfl (lv_at hl 1 rfl) ?_
  refine lv_aload_n hx hb dX0_keepsFrom_1 rfl (lv_at hl 0 rfl) ?_
  refine q_get (v := .int 7) C hP 0 15 rfl rfl inX0 (by decide) kF_RX0_58 rfl rfl dX0_keepsFrom_2 ?_
  refine lv_icmp_lt (tgt := 10) hx hb dX0_keepsFrom_5 (by decide) (fun _ => ?_) (fun c_0 => absurd (by decide) c_0)
  refine lv_aload_n hx hb dX0_keepsFrom_10 rfl (lv_at hl 0 rfl) ?_
  refine lv_iload_n hx hb dX0_keepsFrom_11 rfl (lv_at hl 1 rfl) ?_
  refine q_ai (wr := [(h0, .inl (cy 1, 8, .inl kr)), (h5, .inl (cy 1, 81, .inl (fun _ => 0)))]) (r_V (q0 := 0) (As := [.int 4]) (rest := []) (wc := [(h, .inr (0, [.int 0, .int 0, .int (-1), .ref h0, .ref h1, .ref h2, .ref h3, .ref h4, .int 0, .ref h5, .int 0, .int 0, .int 10, .int 1, .int 0, .int 7]))]) C (q_subP hP [0] rfl) (hD.sub [0] (by decide) rfl) (c_askNeeded l D cy h 4 h0 h1 h2 h3 h4 h5 7 _ ) kwV_X0_askingsNeeded kM_RX0_98 rfl rfl ⟨Nat.le_of_ble_eq_true rfl, Nat.le_of_ble_eq_true rfl⟩ rfl hl.1 rfl (Nat.le_of_ble_eq_true rfl) dX0_keepsFrom_12 ⟨Nat.le_of_ble_eq_true rfl, Nat.le_of_ble_eq_true rfl⟩) C.2.2.2.2.2.2.1 hP hD hS [0] [1, 2] rfl rfl (by decide) (by decide) (fun r_2 u_1 H locs hw_3 hP hD hS => ?_)
  have hP : va_P D vwCl [(h0, .inl (cy 1, 8, .inl kr)), (h5, .inl (cy 1, 81, .inl (fun _ => 0))), (h, .inr (0, [.int 0, .int 0, .int (-1), .ref h0, .ref h1, .ref h2, .ref h3, .ref h4, .int 0, .ref h5, .int 0, .int 0, .int 10, .int 1, .int 0, .int 7]))] H := hP
  have hD : va_D A [(h0, .inl (cy 1, 8, .inl kr)), (h5, .inl (cy 1, 81, .inl (fun _ => 0))), (h, .inr (0, [.int 0, .int 0, .int (-1), .ref h0, .ref h1, .ref h2, .ref h3, .ref h4, .int 0, .ref h5, .int 0, .int 0, .int 10, .int 1, .int 0, .int 7]))] := hD
  obtain rfl : r_2 = 0 := hw_3
  refine lv_iload_n hx hb dX0_keepsFrom_15 rfl (lv_at hl 2 rfl) ?_
  refine lv_icmp_le (tgt := 21) hx hb dX0_keepsFrom_16 (by decide) (fun _ => ?_) (fun c_0 => absurd (by decide) c_0)
  refine lv_aload_n hx hb dX0_keepsFrom_21 rfl (lv_at hl 0 rfl) ?_
  refine lv_iload_n hx hb dX0_keepsFrom_22 rfl (lv_at hl 1 rfl) ?_
  refine q_av (wr := [(h0, .inl (cy 1, 8, .inl kr)), (h5, .inl (cy 1, 81, .inl (fun _ => 0)))]) (r_V (q0 := 0) (As := [.int 4]) (rest := []) (wc := [(h, .inr (0, [.int 0, .int 0, .int (-1), .ref h0, .ref h1, .ref h2, .ref h3, .ref h4, .int 0, .ref h5, .int 0, .int 0, .int 10, .int 1, .int 0, .int 7]))]) C (q_subP hP [2] rfl) (hD.sub [2] (by decide) rfl) (c_passDay l D cy h 4 h0 h1 h2 h3 h4 h5 7 _ ) kwV_X0_passDay kM_RX0_102 rfl rfl ⟨Nat.le_of_ble_eq_true rfl, Nat.le_of_ble_eq_true rfl⟩ rfl hl.1 rfl (Nat.le_of_ble_eq_true rfl) dX0_keepsFrom_23 ⟨Nat.le_of_ble_eq_true rfl, Nat.le_of_ble_eq_true rfl⟩) C.2.2.2.2.2.2.1 hP hD hS [2] [0, 1] rfl rfl (by decide) (by decide) (fun u_4 H locs hw_6 hP hD hS => ?_)
  have hP : va_P D vwCl [(h0, .inl (cy 1, 8, .inl kr)), (h5, .inl (cy 1, 81, .inl (fun _ => 0))), (h, .inr (0, [.int 0, .int 0, .int (-1), .ref h0, .ref h1, .ref h2, .ref h3, .ref h4, .int 0, .ref h5, .int 0, .int 0, .int 10, .int 1, .int 0, .int 7]))] H := hP
  have hD : va_D A [(h0, .inl (cy 1, 8, .inl kr)), (h5, .inl (cy 1, 81, .inl (fun _ => 0))), (h, .inr (0, [.int 0, .int 0, .int (-1), .ref h0, .ref h1, .ref h2, .ref h3, .ref h4, .int 0, .ref h5, .int 0, .int 0, .int 10, .int 1, .int 0, .int 7]))] := hD
  refine lv_iconst (v := 0) hx hb dX0_keepsFrom_26 (by decide) ?_
  refine lv_istore_n (lv' := [(3, .int 0), (0, .ref h), (1, .int 4), (2, .int 0)]) hx hb dX0_keepsFrom_27 rfl hl (by decide) rfl (fun ls hl => ?_)
  refine lv_iload_n hx hb dX0_keepsFrom_28 rfl (lv_at hl 0 rfl) ?_
  refine lv_aload_n hx hb dX0_keepsFrom_29 rfl (lv_at hl 1 rfl) ?_
  refine q_get (v := .int 0) C hP 2 10 rfl rfl inX0 (by decide) kF_RX0_43 rfl rfl dX0_keepsFrom_30 ?_
  refine lv_icmp_gt (tgt := 170) hx hb dX0_keepsFrom_33 (by decide) (fun c_0 => absurd c_0 (by decide)) (fun _ => ?_)
  refine lv_iload_n hx hb dX0_keepsFrom_36 rfl (lv_at hl 0 rfl) ?_
  refine lv_aload_n hx hb dX0_keepsFrom_37 rfl (lv_at hl 1 rfl) ?_
  refine q_get (v := .int 0) C hP 2 10 rfl rfl inX0 (by decide) kF_RX0_43 rfl rfl dX0_keepsFrom_38 ?_
  refine lv_icmp_ge (tgt := 48) hx hb dX0_keepsFrom_41 (by decide) (fun _ => ?_) (fun c_0 => absurd (by decide) c_0)
  refine lv_iconst (v := 0) hx hb dX0_keepsFrom_48 (by decide) ?_
  refine lv_istore (lv' := [(4, .int 0), (3, .int 0), (0, .ref h), (1, .int 4), (2, .int 0)]) hx hb dX0_keepsFrom_49 hl (by decide) rfl (fun ls hl => ?_)
  refine lv_iload hx hb dX0_keepsFrom_51 (lv_at hl 0 rfl) ?_
  refine lv_if_eq (tgt := 83) hx hb dX0_keepsFrom_53 (by decide) (fun _ => ?_) (fun c_0 => absurd (by decide) c_0)
  refine lv_iload_n hx hb dX0_keepsFrom_83 rfl (lv_at hl 3 rfl) ?_
  refine lv_iconst (v := 1) hx hb dX0_keepsFrom_84 (by decide) ?_
  refine lv_iadd hx hb dX0_keepsFrom_85 ?_
  refine q_val (v := 5) (by decide) ?_
  refine lv_bipush (v := 9) hx hb dX0_keepsFrom_86 (by decide) ?_
  refine lv_imul hx hb dX0_keepsFrom_88 ?_
  refine q_val (v := 45) (by decide) ?_
  refine lv_iload_n hx hb dX0_keepsFrom_89 rfl (lv_at hl 1 rfl) ?_
  refine lv_iadd hx hb dX0_keepsFrom_90 ?_
  refine q_val (v := 45) (by decide) ?_
  refine lv_istore (lv' := [(5, .int 45), (4, .int 0), (3, .int 0), (0, .ref h), (1, .int 4), (2, .int 0)]) hx hb dX0_keepsFrom_91 hl (by decide) rfl (fun ls hl => ?_)
  refine lv_aload_n hx hb dX0_keepsFrom_93 rfl (lv_at hl 3 rfl) ?_
  refine q_get (v := .ref h5) C hP 2 9 rfl rfl inX0 (by decide) kF_RX0_40 rfl rfl dX0_keepsFrom_94 ?_
  refine lv_iload hx hb dX0_keepsFrom_97 (lv_at hl 0 rfl) ?_
  refine q_iald (v := 0) C hP 1 rfl (vin (by decide +kernel)) rfl dX0_keepsFrom_99 ?_
  refine lv_istore (lv' := [(6, .int 0), (5, .int 45), (4, .int 0), (3, .int 0), (0, .ref h), (1, .int 4), (2, .int 0)]) hx hb dX0_keepsFrom_100 hl (by decide) rfl (fun ls hl => ?_)
  refine lv_aload_n hx hb dX0_keepsFrom_102 rfl (lv_at hl 4 rfl) ?_
  refine q_get (v := .ref h5) C hP 2 9 rfl rfl inX0 (by decide) kF_RX0_40 rfl rfl dX0_keepsFrom_103 ?_
  refine lv_iload hx hb dX0_keepsFrom_106 (lv_at hl 1 rfl) ?_
  refine lv_iconst (v := 0) hx hb dX0_keepsFrom_108 (by decide) ?_
  refine q_iast (g := fun _ => 0) (w' := [(h0, .inl (cy 1, 8, .inl kr)), (h5, .inl (cy 1, 81, .inl (fun _ => 0))), (h, .inr (0, [.int 0, .int 0, .int (-1), .ref h0, .ref h1, .ref h2, .ref h3, .ref h4, .int 0, .ref h5, .int 0, .int 0, .int 10, .int 1, .int 0, .int 7]))]) C hP hD hS 1 rfl (vin (by decide +kernel)) (updz _) rfl dX0_keepsFrom_109 (fun H locs hP hD hS => ?_)
  refine lv_aload_n hx hb dX0_keepsFrom_110 rfl (lv_at hl 4 rfl) ?_
  refine lv_iload_n hx hb dX0_keepsFrom_111 rfl (lv_at hl 5 rfl) ?_
  refine lv_iconst (v := 1) hx hb dX0_keepsFrom_112 (by decide) ?_
  refine lv_iadd hx hb dX0_keepsFrom_113 ?_
  refine q_val (v := 5) (by decide) ?_
  refine q_ai (wr := [(h0, .inl (cy 1, 8, .inl kr)), (h5, .inl (cy 1, 81, .inl (fun _ => 0)))]) (r_V (q0 := 0) (As := [.int 5]) (rest := []) (wc := [(h, .inr (0, [.int 0, .int 0, .int (-1), .ref h0, .ref h1, .ref h2, .ref h3, .ref h4, .int 0, .ref h5, .int 0, .int 0, .int 10, .int 1, .int 0, .int 7]))]) C (q_subP hP [2] rfl) (hD.sub [2] (by decide) rfl) (c_rareDoubt l D cy h 5 h0 h1 h2 h3 h4 h5 7 _ ) kwV_X0_areRareInDoubt kM_RX0_106 rfl rfl ⟨Nat.le_of_ble_eq_true rfl, Nat.le_of_ble_eq_true rfl⟩ rfl hl.1 rfl (Nat.le_of_ble_eq_true rfl) dX0_keepsFrom_114 ⟨Nat.le_of_ble_eq_true rfl, Nat.le_of_ble_eq_true rfl⟩) C.2.2.2.2.2.2.1 hP hD hS [2] [0, 1] rfl rfl (by decide) (by decide) (fun r_8 u_7 H locs hw_9 hP hD hS => ?_)
  have hP : va_P D vwCl [(h0, .inl (cy 1, 8, .inl kr)), (h5, .inl (cy 1, 81, .inl (fun _ => 0))), (h, .inr (0, [.int 0, .int 0, .int (-1), .ref h0, .ref h1, .ref h2, .ref h3, .ref h4, .int 0, .ref h5, .int 0, .int 0, .int 10, .int 1, .int 0, .int 7]))] H := hP
  have hD : va_D A [(h0, .inl (cy 1, 8, .inl kr)), (h5, .inl (cy 1, 81, .inl (fun _ => 0))), (h, .inr (0, [.int 0, .int 0, .int (-1), .ref h0, .ref h1, .ref h2, .ref h3, .ref h4, .int 0, .ref h5, .int 0, .int 0, .int 10, .int 1, .int 0, .int 7]))] := hD
  obtain rfl : r_8 = 1 := hw_9
  refine lv_if_eq (tgt := 155) hx hb dX0_keepsFrom_117 (by decide) (fun c_0 => absurd c_0 (by decide)) (fun _ => ?_)
  refine lv_aload_n hx hb dX0_keepsFrom_120 rfl (lv_at hl 4 rfl) ?_
  refine lv_iload_n hx hb dX0_keepsFrom_121 rfl (lv_at hl 5 rfl) ?_
  refine lv_iconst (v := 1) hx hb dX0_keepsFrom_122 (by decide) ?_
  refine lv_iadd hx hb dX0_keepsFrom_123 ?_
  refine q_val (v := 5) (by decide) ?_
  refine lv_iload hx hb dX0_keepsFrom_124 (lv_at hl 2 rfl) ?_
  refine lv_if_eq (tgt := 135) hx hb dX0_keepsFrom_126 (by decide) (fun _ => ?_) (fun c_0 => absurd (by decide) c_0)
  refine lv_iload_n hx hb dX0_keepsFrom_135 rfl (lv_at hl 6 rfl) ?_
  refine q_ai (wr := []) (r_V (q0 := 0) (As := [.int 5, .int 0]) (rest := []) (wc := [(h, .inr (0, [.int 0, .int 0, .int (-1), .ref h0, .ref h1, .ref h2, .ref h3, .ref h4, .int 0, .ref h5, .int 0, .int 0, .int 10, .int 1, .int 0, .int 7])), (h0, .inl (cy 1, 8, .inl kr)), (h5, .inl (cy 1, 81, .inl (fun _ => 0)))]) C (q_subP hP [2, 0, 1] rfl) (hD.sub [2, 0, 1] (by decide) rfl) (c_keeps_7_5 l D cy h h0 h1 h2 h3 h4 h5 kr _ ) kwV_X0_keepsFrom kM_RX0_95 rfl rfl ⟨Nat.le_of_ble_eq_true rfl, Nat.le_of_ble_eq_true rfl⟩ rfl hl.1 rfl (Nat.le_of_ble_eq_true rfl) dX0_keepsFrom_136 ⟨Nat.le_of_ble_eq_true rfl, Nat.le_of_ble_eq_true rfl⟩) C.2.2.2.2.2.2.1 hP hD hS [2, 0, 1] [] rfl rfl (by decide) (by decide) (fun r_11 u_10 H locs hw_12 hP hD hS => ?_)
  have hP : va_P D vwCl [(h, .inr (0, [.int 0, .int 0, .int (-1), .ref h0, .ref h1, .ref h2, .ref h3, .ref h4, .int 0, .ref h5, .int 0, .int 0, .int 10, .int 1, .int 0, .int 7])), (h0, .inl (cy 1, 8, .inl u_10)), (h5, .inl (cy 1, 81, .inl (fun _ => 0)))] H := hP
  have hD : va_D A [(h, .inr (0, [.int 0, .int 0, .int (-1), .ref h0, .ref h1, .ref h2, .ref h3, .ref h4, .int 0, .ref h5, .int 0, .int 0, .int 10, .int 1, .int 0, .int 7])), (h0, .inl (cy 1, 8, .inl u_10)), (h5, .inl (cy 1, 81, .inl (fun _ => 0)))] := hD
  obtain rfl : r_11 = 1 := hw_12
  refine lv_if_eq (tgt := 155) hx hb dX0_keepsFrom_139 (by decide) (fun c_0 => absurd c_0 (by decide)) (fun _ => ?_)
  refine lv_aload_n hx hb dX0_keepsFrom_142 rfl (lv_at hl 4 rfl) ?_
  refine q_get (v := .ref h0) C hP 0 3 rfl rfl inX0 (by decide) kF_RX0_21 rfl rfl dX0_keepsFrom_143 ?_
  refine lv_iload_n hx hb dX0_keepsFrom_146 rfl (lv_at hl 5 rfl) ?_
  refine lv_aload_n hx hb dX0_keepsFrom_147 rfl (lv_at hl 4 rfl) ?_
  refine lv_iload_n hx hb dX0_keepsFrom_148 rfl (lv_at hl 3 rfl) ?_
  refine q_ai (wr := [(h0, .inl (cy 1, 8, .inl u_10)), (h5, .inl (cy 1, 81, .inl (fun _ => 0)))]) (r_V (q0 := 0) (As := [.int 0]) (rest := [.int 4, .ref h0]) (wc := [(h, .inr (0, [.int 0, .int 0, .int (-1), .ref h0, .ref h1, .ref h2, .ref h3, .ref h4, .int 0, .ref h5, .int 0, .int 0, .int 10, .int 1, .int 0, .int 7]))]) C (q_subP hP [0] rfl) (hD.sub [0] (by decide) rfl) (c_bookChosen l D cy h h0 h1 h2 h3 h4 h5 7 _ ) kwV_X0_bookChosen kM_RX0_110 rfl rfl ⟨Nat.le_of_ble_eq_true rfl, Nat.le_of_ble_eq_true rfl⟩ rfl hl.1 rfl (Nat.le_of_ble_eq_true rfl) dX0_keepsFrom_149 ⟨Nat.le_of_ble_eq_true rfl, Nat.le_of_ble_eq_true rfl⟩) C.2.2.2.2.2.2.1 hP hD hS [0] [1, 2] rfl rfl (by decide) (by decide) (fun r_14 u_13 H locs hw_15 hP hD hS => ?_)
  have hP : va_P D vwCl [(h0, .inl (cy 1, 8, .inl u_10)), (h5, .inl (cy 1, 81, .inl (fun _ => 0))), (h, .inr (0, [.int 0, .int 0, .int (-1), .ref h0, .ref h1, .ref h2, .ref h3, .ref h4, .int 0, .ref h5, .int 0, .int 0, .int 10, .int 1, .int 0, .int 7]))] H := hP
  have hD : va_D A [(h0, .inl (cy 1, 8, .inl u_10)), (h5, .inl (cy 1, 81, .inl (fun _ => 0))), (h, .inr (0, [.int 0, .int 0, .int (-1), .ref h0, .ref h1, .ref h2, .ref h3, .ref h4, .int 0, .ref h5, .int 0, .int 0, .int 10, .int 1, .int 0, .int 7]))] := hD
  obtain rfl : r_14 = (-1) := hw_15
  refine q_iast (g := upd u_10 4 (-1)) (w' := [(h0, .inl (cy 1, 8, .inl (upd u_10 4 (-1)))), (h5, .inl (cy 1, 81, .inl (fun _ => 0))), (h, .inr (0, [.int 0, .int 0, .int (-1), .ref h0, .ref h1, .ref h2, .ref h3, .ref h4, .int 0, .ref h5, .int 0, .int 0, .int 10, .int 1, .int 0, .int 7]))]) C hP hD hS 0 rfl (vin (by decide +kernel)) rfl rfl dX0_keepsFrom_152 (fun H locs hP hD hS => ?_)
  refine lv_iconst (v := 1) hx hb dX0_keepsFrom_153 (by decide) ?_
  exact q_iret (rm := (Rm 3 78 0 0)) C hS (upd u_10 4 (-1)) rfl rfl (q_subP hP [2, 0, 1] rfl) (hD.sub [2, 0, 1] (by decide) rfl) (Nat.le_of_ble_eq_true rfl) (Nat.le_of_ble_eq_true rfl) dX0_keepsFrom_154
set_option maxHeartbeats 4000000 in
set_option maxRecDepth 100000 in
theorem c_keeps_7_3 (l : Launch) (D : va_G) (cy : Nat → ClassId) (h : Nat) (h0 : Nat) (h1 : Nat) (h2 : Nat) (h3 : Nat) (h4 : Nat) (h5 : Nat) (kr : Nat → Int32) (sz : Nat)  : MI l yX0_keepsFrom cX0_keepsFrom 7 (some .boolean) (Rm 4 104 0 0) D cy [.ref h, .int 3, .int 0] sz [(h, .inr (0, [.int 0, .int 0, .int (-1), .ref h0, .ref h1, .ref h2, .ref h3, .ref h4, .int 0, .ref h5, .int 0, .int 0, .int 10, .int 1, .int 0, .int 7])), (h0, .inl (cy 1, 8, .inl kr)), (h5, .inl (cy 1, 81, .inl (fun _ => 0)))] (fun (r : Int32) (u : Nat → Int32) => r = 1) (fun u : Nat → Int32 => [(h, .inr (0, [.int 0, .int 0, .int (-1), .ref h0, .ref h1, .ref h2, .ref h3, .ref h4, .int 0, .ref h5, .int 0, .int 0, .int 10, .int 1, .int 0, .int 7])), (h0, .inl (cy 1, 8, .inl u)), (h5, .inl (cy 1, 81, .inl (fun _ => 0)))]) := by
  refine MI.enter (by decide) (Nat.le_of_ble_eq_true rfl) ?_
  intro p e s m below meth c ls A hsz hAe C hP hD hS hl
  have C : Cx p s m _ meth c cX0_keepsFrom 7 (some .boolean) RX0 "keepsFrom" D cy A := C
  have hx := C.1
  have hb := C.2.1
  have hl : lv_has ls 7 [(0, .ref h), (1, .int 3), (2, .int 0)] := hl
  refine lv_iload_n hx hb dX0_keepsFrom_0 rfl (lv_at hl 1 rfl) ?_
  refine lv_aload_n hx hb dX0_keepsFrom_1 rfl (lv_at hl 0 rfl) ?_
  refine q_get (v := .int 7) C hP 0 15 rfl rfl inX0 (by decide) kF_RX0_58 rfl rfl dX0_keepsFrom_2 ?_
  refine lv_icmp_lt (tgt := 10) hx hb dX0_keepsFrom_5 (by decide) (fun _ => ?_) (fun c_0 => absurd (by decide) c_0)
  refine lv_aload_n hx hb dX0_keepsFrom_10 rfl (lv_at hl 0 rfl) ?_
  refine lv_iload_n hx hb dX0_keepsFrom_11 rfl (lv_at hl 1 rfl) ?_
  refine q_ai (wr := [(h0, .inl (cy 1, 8, .inl kr)), (h5, .inl (cy 1, 81, .inl (fun _ => 0)))]) (r_V (q0 := 0) (As := [.int 3]) (rest := []) (wc := [(h, .inr (0, [.int 0, .int 0, .int (-1), .ref h0, .ref h1, .ref h2, .ref h3, .ref h4, .int 0, .ref h5, .int 0, .int 0, .int 10, .int 1, .int 0, .int 7]))]) C (q_subP hP [0] rfl) (hD.sub [0] (by decide) rfl) (c_askNeeded l D cy h 3 h0 h1 h2 h3 h4 h5 7 _ ) kwV_X0_askingsNeeded kM_RX0_98 rfl rfl ⟨Nat.le_of_ble_eq_true rfl, Nat.le_of_ble_eq_true rfl⟩ rfl hl.1 rfl (Nat.le_of_ble_eq_true rfl) dX0_keepsFrom_12 ⟨Nat.le_of_ble_eq_true rfl, Nat.le_of_ble_eq_true rfl⟩) C.2.2.2.2.2.2.1 hP hD hS [0] [1, 2] rfl rfl (by decide) (by decide) (fun r_2 u_1 H locs hw_3 hP hD hS => ?_)
  have hP : va_P D vwCl [(h0, .inl (cy 1, 8, .inl kr)), (h5, .inl (cy 1, 81, .inl (fun _ => 0))), (h, .inr (0, [.int 0, .int 0, .int (-1), .ref h0, .ref h1, .ref h2, .ref h3, .ref h4, .int 0, .ref h5, .int 0, .int 0, .int 10, .int 1, .int 0, .int 7]))] H := hP
  have hD : va_D A [(h0, .inl (cy 1, 8, .inl kr)), (h5, .inl (cy 1, 81, .inl (fun _ => 0))), (h, .inr (0, [.int 0, .int 0, .int (-1), .ref h0, .ref h1, .ref h2, .ref h3, .ref h4, .int 0, .ref h5, .int 0, .int 0, .int 10, .int 1, .int 0, .int 7]))] := hD
  obtain rfl : r_2 = 0 := hw_3
  refine lv_iload_n hx hb dX0_keepsFrom_15 rfl (lv_at hl 2 rfl) ?_
  refine lv_icmp_le (tgt := 21) hx hb dX0_keepsFrom_16 (by decide) (fun _ => ?_) (fun c_0 => absurd (by decide) c_0)
  refine lv_aload_n hx hb dX0_keepsFrom_21 rfl (lv_at hl 0 rfl) ?_
  refine lv_iload_n hx hb dX0_keepsFrom_22 rfl (lv_at hl 1 rfl) ?_
  refine q_av (wr := [(h0, .inl (cy 1, 8, .inl kr)), (h5, .inl (cy 1, 81, .inl (fun _ => 0)))]) (r_V (q0 := 0) (As := [.int 3]) (rest := []) (wc := [(h, .inr (0, [.int 0, .int 0, .int (-1), .ref h0, .ref h1, .ref h2, .ref h3, .ref h4, .int 0, .ref h5, .int 0, .int 0, .int 10, .int 1, .int 0, .int 7]))]) C (q_subP hP [2] rfl) (hD.sub [2] (by decide) rfl) (c_passDay l D cy h 3 h0 h1 h2 h3 h4 h5 7 _ ) kwV_X0_passDay kM_RX0_102 rfl rfl ⟨Nat.le_of_ble_eq_true rfl, Nat.le_of_ble_eq_true rfl⟩ rfl hl.1 rfl (Nat.le_of_ble_eq_true rfl) dX0_keepsFrom_23 ⟨Nat.le_of_ble_eq_true rfl, Nat.le_of_ble_eq_true rfl⟩) C.2.2.2.2.2.2.1 hP hD hS [2] [0, 1] rfl rfl (by decide) (by decide) (fun u_4 H locs hw_6 hP hD hS => ?_)
  have hP : va_P D vwCl [(h0, .inl (cy 1, 8, .inl kr)), (h5, .inl (cy 1, 81, .inl (fun _ => 0))), (h, .inr (0, [.int 0, .int 0, .int (-1), .ref h0, .ref h1, .ref h2, .ref h3, .ref h4, .int 0, .ref h5, .int 0, .int 0, .int 10, .int 1, .int 0, .int 7]))] H := hP
  have hD : va_D A [(h0, .inl (cy 1, 8, .inl kr)), (h5, .inl (cy 1, 81, .inl (fun _ => 0))), (h, .inr (0, [.int 0, .int 0, .int (-1), .ref h0, .ref h1, .ref h2, .ref h3, .ref h4, .int 0, .ref h5, .int 0, .int 0, .int 10, .int 1, .int 0, .int 7]))] := hD
  refine lv_iconst (v := 0) hx hb dX0_keepsFrom_26 (by decide) ?_
  refine lv_istore_n (lv' := [(3, .int 0), (0, .ref h), (1, .int 3), (2, .int 0)]) hx hb dX0_keepsFrom_27 rfl hl (by decide) rfl (fun ls hl => ?_)
  refine lv_iload_n hx hb dX0_keepsFrom_28 rfl (lv_at hl 0 rfl) ?_
  refine lv_aload_n hx hb dX0_keepsFrom_29 rfl (lv_at hl 1 rfl) ?_
  refine q_get (v := .int 0) C hP 2 10 rfl rfl inX0 (by decide) kF_RX0_43 rfl rfl dX0_keepsFrom_30 ?_
  refine lv_icmp_gt (tgt := 170) hx hb dX0_keepsFrom_33 (by decide) (fun c_0 => absurd c_0 (by decide)) (fun _ => ?_)
  refine lv_iload_n hx hb dX0_keepsFrom_36 rfl (lv_at hl 0 rfl) ?_
  refine lv_aload_n hx hb dX0_keepsFrom_37 rfl (lv_at hl 1 rfl) ?_
  refine q_get (v := .int 0) C hP 2 10 rfl rfl inX0 (by decide) kF_RX0_43 rfl rfl dX0_keepsFrom_38 ?_
  refine lv_icmp_ge (tgt := 48) hx hb dX0_keepsFrom_41 (by decide) (fun _ => ?_) (fun c_0 => absurd (by decide) c_0)
  refine lv_iconst (v := 0) hx hb dX0_keepsFrom_48 (by decide) ?_
  refine lv_istore (lv' := [(4, .int 0), (3, .int 0), (0, .ref h), (1, .int 3), (2, .int 0)]) hx hb dX0_keepsFrom_49 hl (by decide) rfl (fun ls hl => ?_)
  refine lv_iload hx hb dX0_keepsFrom_51 (lv_at hl 0 rfl) ?_
  refine lv_if_eq (tgt := 83) hx hb dX0_keepsFrom_53 (by decide) (fun _ => ?_) (fun c_0 => absurd (by decide) c_0)
  refine lv_iload_n hx hb dX0_keepsFrom_83 rfl (lv_at hl 3 rfl) ?_
  refine lv_iconst (v := 1) hx hb dX0_keepsFrom_84 (by decide) ?_
  refine lv_iadd hx hb dX0_keepsFrom_85 ?_
  refine q_val (v := 4) (by decide) ?_
  refine lv_bipush (v := 9) hx hb dX0_keepsFrom_86 (by decide) ?_
  refine lv_imul hx hb dX0_keepsFrom_88 ?_
  refine q_val (v := 36) (by decide) ?_
  refine lv_iload_n hx hb dX0_keepsFrom_89 rfl (lv_at hl 1 rfl) ?_
  refine lv_iadd hx hb dX0_keepsFrom_90 ?_
  refine q_val (v := 36) (by decide) ?_
  refine lv_istore (lv' := [(5, .int 36), (4, .int 0), (3, .int 0), (0, .ref h), (1, .int 3), (2, .int 0)]) hx hb dX0_keepsFrom_91 hl (by decide) rfl (fun ls hl => ?_)
  refine lv_aload_n hx hb dX0_keepsFrom_93 rfl (lv_at hl 3 rfl) ?_
  refine q_get (v := .ref h5) C hP 2 9 rfl rfl inX0 (by decide) kF_RX0_40 rfl rfl dX0_keepsFrom_94 ?_
  refine lv_iload hx hb dX0_keepsFrom_97 (lv_at hl 0 rfl) ?_
  refine q_iald (v := 0) C hP 1 rfl (vin (by decide +kernel)) rfl dX0_keepsFrom_99 ?_
  refine lv_istore (lv' := [(6, .int 0), (5, .int 36), (4, .int 0), (3, .int 0), (0, .ref h), (1, .int 3), (2, .int 0)]) hx hb dX0_keepsFrom_100 hl (by decide) rfl (fun ls hl => ?_)
  refine lv_aload_n hx hb dX0_keepsFrom_102 rfl (lv_at hl 4 rfl) ?_
  refine q_get (v := .ref h5) C hP 2 9 rfl rfl inX0 (by decide) kF_RX0_40 rfl rfl dX0_keepsFrom_103 ?_
  refine lv_iload hx hb dX0_keepsFrom_106 (lv_at hl 1 rfl) ?_
  refine lv_iconst (v := 0) hx hb dX0_keepsFrom_108 (by decide) ?_
  refine q_iast (g := fun _ => 0) (w' := [(h0, .inl (cy 1, 8, .inl kr)), (h5, .inl (cy 1, 81, .inl (fun _ => 0))), (h, .inr (0, [.int 0, .int 0, .int (-1), .ref h0, .ref h1, .ref h2, .ref h3, .ref h4, .int 0, .ref h5, .int 0, .int 0, .int 10, .int 1, .int 0, .int 7]))]) C hP hD hS 1 rfl (vin (by decide +kernel)) (updz _) rfl dX0_keepsFrom_109 (fun H locs hP hD hS => ?_)
  refine lv_aload_n hx hb dX0_keepsFrom_110 rfl (lv_at hl 4 rfl) ?_
  refine lv_iload_n hx hb dX0_keepsFrom_111 rfl (lv_at hl 5 rfl) ?_
  refine lv_iconst (v := 1) hx hb dX0_keepsFrom_112 (by decide) ?_
  refine lv_iadd hx hb dX0_keepsFrom_113 ?_
  refine q_val (v := 4) (by decide) ?_
  refine q_ai (wr := [(h0, .inl (cy 1, 8, .inl kr)), (h5, .inl (cy 1, 81, .inl (fun _ => 0)))]) (r_V (q0 := 0) (As := [.int 4]) (rest := []) (wc := [(h, .inr (0, [.int 0, .int 0, .int (-1), .ref h0, .ref h1, .ref h2, .ref h3, .ref h4, .int 0, .ref h5, .int 0, .int 0, .int 10, .int 1, .int 0, .int 7]))]) C (q_subP hP [2] rfl) (hD.sub [2] (by decide) rfl) (c_rareDoubt l D cy h 4 h0 h1 h2 h3 h4 h5 7 _ ) kwV_X0_areRareInDoubt kM_RX0_106 rfl rfl ⟨Nat.le_of_ble_eq_true rfl, Nat.le_of_ble_eq_true rfl⟩ rfl hl.1 rfl (Nat.le_of_ble_eq_true rfl) dX0_keepsFrom_114 ⟨Nat.le_of_ble_eq_true rfl, Nat.le_of_ble_eq_true rfl⟩) C.2.2.2.2.2.2.1 hP hD hS [2] [0, 1] rfl rfl (by decide) (by decide) (fun r_8 u_7 H locs hw_9 hP hD hS => ?_)
  have hP : va_P D vwCl [(h0, .inl (cy 1, 8, .inl kr)), (h5, .inl (cy 1, 81, .inl (fun _ => 0))), (h, .inr (0, [.int 0, .int 0, .int (-1), .ref h0, .ref h1, .ref h2, .ref h3, .ref h4, .int 0, .ref h5, .int 0, .int 0, .int 10, .int 1, .int 0, .int 7]))] H := hP
  have hD : va_D A [(h0, .inl (cy 1, 8, .inl kr)), (h5, .inl (cy 1, 81, .inl (fun _ => 0))), (h, .inr (0, [.int 0, .int 0, .int (-1), .ref h0, .ref h1, .ref h2, .ref h3, .ref h4, .int 0, .ref h5, .int 0, .int 0, .int 10, .int 1, .int 0, .int 7]))] := hD
  obtain rfl : r_8 = 1 := hw_9
  refine lv_if_eq (tgt := 155) hx hb dX0_keepsFrom_117 (by decide) (fun c_0 => absurd c_0 (by decide)) (fun _ => ?_)
  refine lv_aload_n hx hb dX0_keepsFrom_120 rfl (lv_at hl 4 rfl) ?_
  refine lv_iload_n hx hb dX0_keepsFrom_121 rfl (lv_at hl 5 rfl) ?_
  refine lv_iconst (v := 1) hx hb dX0_keepsFrom_122 (by decide) ?_
  refine lv_iadd hx hb dX0_keepsFrom_123 ?_
  refine q_val (v := 4) (by decide) ?_
  refine lv_iload hx hb dX0_keepsFrom_124 (lv_at hl 2 rfl) ?_
  refine lv_if_eq (tgt := 135) hx hb dX0_keepsFrom_126 (by decide) (fun _ => ?_) (fun c_0 => absurd (by decide) c_0)
  refine lv_iload_n hx hb dX0_keepsFrom_135 rfl (lv_at hl 6 rfl) ?_
  refine q_ai (wr := []) (r_V (q0 := 0) (As := [.int 4, .int 0]) (rest := []) (wc := [(h, .inr (0, [.int 0, .int 0, .int (-1), .ref h0, .ref h1, .ref h2, .ref h3, .ref h4, .int 0, .ref h5, .int 0, .int 0, .int 10, .int 1, .int 0, .int 7])), (h0, .inl (cy 1, 8, .inl kr)), (h5, .inl (cy 1, 81, .inl (fun _ => 0)))]) C (q_subP hP [2, 0, 1] rfl) (hD.sub [2, 0, 1] (by decide) rfl) (c_keeps_7_4 l D cy h h0 h1 h2 h3 h4 h5 kr _ ) kwV_X0_keepsFrom kM_RX0_95 rfl rfl ⟨Nat.le_of_ble_eq_true rfl, Nat.le_of_ble_eq_true rfl⟩ rfl hl.1 rfl (Nat.le_of_ble_eq_true rfl) dX0_keepsFrom_136 ⟨Nat.le_of_ble_eq_true rfl, Nat.le_of_ble_eq_true rfl⟩) C.2.2.2.2.2.2.1 hP hD hS [2, 0, 1] [] rfl rfl (by decide) (by decide) (fun r_11 u_10 H locs hw_12 hP hD hS => ?_)
  have hP : va_P D vwCl [(h, .inr (0, [.int 0, .int 0, .int (-1), .ref h0, .ref h1, .ref h2, .ref h3, .ref h4, .int 0, .ref h5, .int 0, .int 0, .int 10, .int 1, .int 0, .int 7])), (h0, .inl (cy 1, 8, .inl u_10)), (h5, .inl (cy 1, 81, .inl (fun _ => 0)))] H := hP
  have hD : va_D A [(h, .inr (0, [.int 0, .int 0, .int (-1), .ref h0, .ref h1, .ref h2, .ref h3, .ref h4, .int 0, .ref h5, .int 0, .int 0, .int 10, .int 1, .int 0, .int 7])), (h0, .inl (cy 1, 8, .inl u_10)), (h5, .inl (cy 1, 81, .inl (fun _ => 0)))] := hD
  obtain rfl : r_11 = 1 := hw_12
  refine lv_if_eq (tgt := 155) hx hb dX0_keepsFrom_139 (by decide) (fun c_0 => absurd c_0 (by decide)) (fun _ => ?_)
  refine lv_aload_n hx hb dX0_keepsFrom_142 rfl (lv_at hl 4 rfl) ?_
  refine q_get (v := .ref h0) C hP 0 3 rfl rfl inX0 (by decide) kF_RX0_21 rfl rfl dX0_keepsFrom_143 ?_
  refine lv_iload_n hx hb dX0_keepsFrom_146 rfl (lv_at hl 5 rfl) ?_
  refine lv_aload_n hx hb dX0_keepsFrom_147 rfl (lv_at hl 4 rfl) ?_
  refine lv_iload_n hx hb dX0_keepsFrom_148 rfl (lv_at hl 3 rfl) ?_
  refine q_ai (wr := [(h0, .inl (cy 1, 8, .inl u_10)), (h5, .inl (cy 1, 81, .inl (fun _ => 0)))]) (r_V (q0 := 0) (As := [.int 0]) (rest := [.int 3, .ref h0]) (wc := [(h, .inr (0, [.int 0, .int 0, .int (-1), .ref h0, .ref h1, .ref h2, .ref h3, .ref h4, .int 0, .ref h5, .int 0, .int 0, .int 10, .int 1, .int 0, .int 7]))]) C (q_subP hP [0] rfl) (hD.sub [0] (by decide) rfl) (c_bookChosen l D cy h h0 h1 h2 h3 h4 h5 7 _ ) kwV_X0_bookChosen kM_RX0_110 rfl rfl ⟨Nat.le_of_ble_eq_true rfl, Nat.le_of_ble_eq_true rfl⟩ rfl hl.1 rfl (Nat.le_of_ble_eq_true rfl) dX0_keepsFrom_149 ⟨Nat.le_of_ble_eq_true rfl, Nat.le_of_ble_eq_true rfl⟩) C.2.2.2.2.2.2.1 hP hD hS [0] [1, 2] rfl rfl (by decide) (by decide) (fun r_14 u_13 H locs hw_15 hP hD hS => ?_)
  have hP : va_P D vwCl [(h0, .inl (cy 1, 8, .inl u_10)), (h5, .inl (cy 1, 81, .inl (fun _ => 0))), (h, .inr (0, [.int 0, .int 0, .int (-1), .ref h0, .ref h1, .ref h2, .ref h3, .ref h4, .int 0, .ref h5, .int 0, .int 0, .int 10, .int 1, .int 0, .int 7]))] H := hP
  have hD : va_D A [(h0, .inl (cy 1, 8, .inl u_10)), (h5, .inl (cy 1, 81, .inl (fun _ => 0))), (h, .inr (0, [.int 0, .int 0, .int (-1), .ref h0, .ref h1, .ref h2, .ref h3, .ref h4, .int 0, .ref h5, .int 0, .int 0, .int 10, .int 1, .int 0, .int 7]))] := hD
  obtain rfl : r_14 = (-1) := hw_15
  refine q_iast (g := upd u_10 3 (-1)) (w' := [(h0, .inl (cy 1, 8, .inl (upd u_10 3 (-1)))), (h5, .inl (cy 1, 81, .inl (fun _ => 0))), (h, .inr (0, [.int 0, .int 0, .int (-1), .ref h0, .ref h1, .ref h2, .ref h3, .ref h4, .int 0, .ref h5, .int 0, .int 0, .int 10, .int 1, .int 0, .int 7]))]) C hP hD hS 0 rfl (vin (by decide +kernel)) rfl rfl dX0_keepsFrom_152 (fun H locs hP hD hS => ?_)
  refine lv_iconst (v := 1) hx hb dX0_keepsFrom_153 (by decide) ?_
  exact q_iret (rm := (Rm 4 104 0 0)) C hS (upd u_10 3 (-1)) rfl rfl (q_subP hP [2, 0, 1] rfl) (hD.sub [2, 0, 1] (by decide) rfl) (Nat.le_of_ble_eq_true rfl) (Nat.le_of_ble_eq_true rfl) dX0_keepsFrom_154
set_option maxHeartbeats 4000000 in
set_option maxRecDepth 100000 in
theorem c_keeps_7_2 (l : Launch) (D : va_G) (cy : Nat → ClassId) (h : Nat) (h0 : Nat) (h1 : Nat) (h2 : Nat) (h3 : Nat) (h4 : Nat) (h5 : Nat) (kr : Nat → Int32) (sz : Nat)  : MI l yX0_keepsFrom cX0_keepsFrom 7 (some .boolean) (Rm 5 130 0 0) D cy [.ref h, .int 2, .int 0] sz [(h, .inr (0, [.int 0, .int 0, .int (-1), .ref h0, .ref h1, .ref h2, .ref h3, .ref h4, .int 0, .ref h5, .int 0, .int 0, .int 10, .int 1, .int 0, .int 7])), (h0, .inl (cy 1, 8, .inl kr)), (h5, .inl (cy 1, 81, .inl (fun _ => 0)))] (fun (r : Int32) (u : Nat → Int32) => r = 1) (fun u : Nat → Int32 => [(h, .inr (0, [.int 0, .int 0, .int (-1), .ref h0, .ref h1, .ref h2, .ref h3, .ref h4, .int 0, .ref h5, .int 0, .int 0, .int 10, .int 1, .int 0, .int 7])), (h0, .inl (cy 1, 8, .inl u)), (h5, .inl (cy 1, 81, .inl (fun _ => 0)))]) := by
  refine MI.enter (by decide) (Nat.le_of_ble_eq_true rfl) ?_
  intro p e s m below meth c ls A hsz hAe C hP hD hS hl
  have C : Cx p s m _ meth c cX0_keepsFrom 7 (some .boolean) RX0 "keepsFrom" D cy A := C
  have hx := C.1
  have hb := C.2.1
  have hl : lv_has ls 7 [(0, .ref h), (1, .int 2), (2, .int 0)] := hl
  refine lv_iload_n hx hb dX0_keepsFrom_0 rfl (lv_at hl 1 rfl) ?_
  refine lv_aload_n hx hb dX0_keepsFrom_1 rfl (lv_at hl 0 rfl) ?_
  refine q_get (v := .int 7) C hP 0 15 rfl rfl inX0 (by decide) kF_RX0_58 rfl rfl dX0_keepsFrom_2 ?_
  refine lv_icmp_lt (tgt := 10) hx hb dX0_keepsFrom_5 (by decide) (fun _ => ?_) (fun c_0 => absurd (by decide) c_0)
  refine lv_aload_n hx hb dX0_keepsFrom_10 rfl (lv_at hl 0 rfl) ?_
  refine lv_iload_n hx hb dX0_keepsFrom_11 rfl (lv_at hl 1 rfl) ?_
  refine q_ai (wr := [(h0, .inl (cy 1, 8, .inl kr)), (h5, .inl (cy 1, 81, .inl (fun _ => 0)))]) (r_V (q0 := 0) (As := [.int 2]) (rest := []) (wc := [(h, .inr (0, [.int 0, .int 0, .int (-1), .ref h0, .ref h1, .ref h2, .ref h3, .ref h4, .int 0, .ref h5, .int 0, .int 0, .int 10, .int 1, .int 0, .int 7]))]) C (q_subP hP [0] rfl) (hD.sub [0] (by decide) rfl) (c_askNeeded l D cy h 2 h0 h1 h2 h3 h4 h5 7 _ ) kwV_X0_askingsNeeded kM_RX0_98 rfl rfl ⟨Nat.le_of_ble_eq_true rfl, Nat.le_of_ble_eq_true rfl⟩ rfl hl.1 rfl (Nat.le_of_ble_eq_true rfl) dX0_keepsFrom_12 ⟨Nat.le_of_ble_eq_true rfl, Nat.le_of_ble_eq_true rfl⟩) C.2.2.2.2.2.2.1 hP hD hS [0] [1, 2] rfl rfl (by decide) (by decide) (fun r_2 u_1 H locs hw_3 hP hD hS => ?_)
  have hP : va_P D vwCl [(h0, .inl (cy 1, 8, .inl kr)), (h5, .inl (cy 1, 81, .inl (fun _ => 0))), (h, .inr (0, [.int 0, .int 0, .int (-1), .ref h0, .ref h1, .ref h2, .ref h3, .ref h4, .int 0, .ref h5, .int 0, .int 0, .int 10, .int 1, .int 0, .int 7]))] H := hP
  have hD : va_D A [(h0, .inl (cy 1, 8, .inl kr)), (h5, .inl (cy 1, 81, .inl (fun _ => 0))), (h, .inr (0, [.int 0, .int 0, .int (-1), .ref h0, .ref h1, .ref h2, .ref h3, .ref h4, .int 0, .ref h5, .int 0, .int 0, .int 10, .int 1, .int 0, .int 7]))] := hD
  obtain rfl : r_2 = 0 := hw_3
  refine lv_iload_n hx hb dX0_keepsFrom_15 rfl (lv_at hl 2 rfl) ?_
  refine lv_icmp_le (tgt := 21) hx hb dX0_keepsFrom_16 (by decide) (fun _ => ?_) (fun c_0 => absurd (by decide) c_0)
  refine lv_aload_n hx hb dX0_keepsFrom_21 rfl (lv_at hl 0 rfl) ?_
  refine lv_iload_n hx hb dX0_keepsFrom_22 rfl (lv_at hl 1 rfl) ?_
  refine q_av (wr := [(h0, .inl (cy 1, 8, .inl kr)), (h5, .inl (cy 1, 81, .inl (fun _ => 0)))]) (r_V (q0 := 0) (As := [.int 2]) (rest := []) (wc := [(h, .inr (0, [.int 0, .int 0, .int (-1), .ref h0, .ref h1, .ref h2, .ref h3, .ref h4, .int 0, .ref h5, .int 0, .int 0, .int 10, .int 1, .int 0, .int 7]))]) C (q_subP hP [2] rfl) (hD.sub [2] (by decide) rfl) (c_passDay l D cy h 2 h0 h1 h2 h3 h4 h5 7 _ ) kwV_X0_passDay kM_RX0_102 rfl rfl ⟨Nat.le_of_ble_eq_true rfl, Nat.le_of_ble_eq_true rfl⟩ rfl hl.1 rfl (Nat.le_of_ble_eq_true rfl) dX0_keepsFrom_23 ⟨Nat.le_of_ble_eq_true rfl, Nat.le_of_ble_eq_true rfl⟩) C.2.2.2.2.2.2.1 hP hD hS [2] [0, 1] rfl rfl (by decide) (by decide) (fun u_4 H locs hw_6 hP hD hS => ?_)
  have hP : va_P D vwCl [(h0, .inl (cy 1, 8, .inl kr)), (h5, .inl (cy 1, 81, .inl (fun _ => 0))), (h, .inr (0, [.int 0, .int 0, .int (-1), .ref h0, .ref h1, .ref h2, .ref h3, .ref h4, .int 0, .ref h5, .int 0, .int 0, .int 10, .int 1, .int 0, .int 7]))] H := hP
  have hD : va_D A [(h0, .inl (cy 1, 8, .inl kr)), (h5, .inl (cy 1, 81, .inl (fun _ => 0))), (h, .inr (0, [.int 0, .int 0, .int (-1), .ref h0, .ref h1, .ref h2, .ref h3, .ref h4, .int 0, .ref h5, .int 0, .int 0, .int 10, .int 1, .int 0, .int 7]))] := hD
  refine lv_iconst (v := 0) hx hb dX0_keepsFrom_26 (by decide) ?_
  refine lv_istore_n (lv' := [(3, .int 0), (0, .ref h), (1, .int 2), (2, .int 0)]) hx hb dX0_keepsFrom_27 rfl hl (by decide) rfl (fun ls hl => ?_)
  refine lv_iload_n hx hb dX0_keepsFrom_28 rfl (lv_at hl 0 rfl) ?_
  refine lv_aload_n hx hb dX0_keepsFrom_29 rfl (lv_at hl 1 rfl) ?_
  refine q_get (v := .int 0) C hP 2 10 rfl rfl inX0 (by decide) kF_RX0_43 rfl rfl dX0_keepsFrom_30 ?_
  refine lv_icmp_gt (tgt := 170) hx hb dX0_keepsFrom_33 (by decide) (fun c_0 => absurd c_0 (by decide)) (fun _ => ?_)
  refine lv_iload_n hx hb dX0_keepsFrom_36 rfl (lv_at hl 0 rfl) ?_
  refine lv_aload_n hx hb dX0_keepsFrom_37 rfl (lv_at hl 1 rfl) ?_
  refine q_get (v := .int 0) C hP 2 10 rfl rfl inX0 (by decide) kF_RX0_43 rfl rfl dX0_keepsFrom_38 ?_
  refine lv_icmp_ge (tgt := 48) hx hb dX0_keepsFrom_41 (by decide) (fun _ => ?_) (fun c_0 => absurd (by decide) c_0)
  refine lv_iconst (v := 0) hx hb dX0_keepsFrom_48 (by decide) ?_
  refine lv_istore (lv' := [(4, .int 0), (3, .int 0), (0, .ref h), (1, .int 2), (2, .int 0)]) hx hb dX0_keepsFrom_49 hl (by decide) rfl (fun ls hl => ?_)
  refine lv_iload hx hb dX0_keepsFrom_51 (lv_at hl 0 rfl) ?_
  refine lv_if_eq (tgt := 83) hx hb dX0_keepsFrom_53 (by decide) (fun _ => ?_) (fun c_0 => absurd (by decide) c_0)
  refine lv_iload_n hx hb dX0_keepsFrom_83 rfl (lv_at hl 3 rfl) ?_
  refine lv_iconst (v := 1) hx hb dX0_keepsFrom_84 (by decide) ?_
  refine lv_iadd hx hb dX0_keepsFrom_85 ?_
  refine q_val (v := 3) (by decide) ?_
  refine lv_bipush (v := 9) hx hb dX0_keepsFrom_86 (by decide) ?_
  refine lv_imul hx hb dX0_keepsFrom_88 ?_
  refine q_val (v := 27) (by decide) ?_
  refine lv_iload_n hx hb dX0_keepsFrom_89 rfl (lv_at hl 1 rfl) ?_
  refine lv_iadd hx hb dX0_keepsFrom_90 ?_
  refine q_val (v := 27) (by decide) ?_
  refine lv_istore (lv' := [(5, .int 27), (4, .int 0), (3, .int 0), (0, .ref h), (1, .int 2), (2, .int 0)]) hx hb dX0_keepsFrom_91 hl (by decide) rfl (fun ls hl => ?_)
  refine lv_aload_n hx hb dX0_keepsFrom_93 rfl (lv_at hl 3 rfl) ?_
  refine q_get (v := .ref h5) C hP 2 9 rfl rfl inX0 (by decide) kF_RX0_40 rfl rfl dX0_keepsFrom_94 ?_
  refine lv_iload hx hb dX0_keepsFrom_97 (lv_at hl 0 rfl) ?_
  refine q_iald (v := 0) C hP 1 rfl (vin (by decide +kernel)) rfl dX0_keepsFrom_99 ?_
  refine lv_istore (lv' := [(6, .int 0), (5, .int 27), (4, .int 0), (3, .int 0), (0, .ref h), (1, .int 2), (2, .int 0)]) hx hb dX0_keepsFrom_100 hl (by decide) rfl (fun ls hl => ?_)
  refine lv_aload_n hx hb dX0_keepsFrom_102 rfl (lv_at hl 4 rfl) ?_
  refine q_get (v := .ref h5) C hP 2 9 rfl rfl inX0 (by decide) kF_RX0_40 rfl rfl dX0_keepsFrom_103 ?_
  refine lv_iload hx hb dX0_keepsFrom_106 (lv_at hl 1 rfl) ?_
  refine lv_iconst (v := 0) hx hb dX0_keepsFrom_108 (by decide) ?_
  refine q_iast (g := fun _ => 0) (w' := [(h0, .inl (cy 1, 8, .inl kr)), (h5, .inl (cy 1, 81, .inl (fun _ => 0))), (h, .inr (0, [.int 0, .int 0, .int (-1), .ref h0, .ref h1, .ref h2, .ref h3, .ref h4, .int 0, .ref h5, .int 0, .int 0, .int 10, .int 1, .int 0, .int 7]))]) C hP hD hS 1 rfl (vin (by decide +kernel)) (updz _) rfl dX0_keepsFrom_109 (fun H locs hP hD hS => ?_)
  refine lv_aload_n hx hb dX0_keepsFrom_110 rfl (lv_at hl 4 rfl) ?_
  refine lv_iload_n hx hb dX0_keepsFrom_111 rfl (lv_at hl 5 rfl) ?_
  refine lv_iconst (v := 1) hx hb dX0_keepsFrom_112 (by decide) ?_
  refine lv_iadd hx hb dX0_keepsFrom_113 ?_
  refine q_val (v := 3) (by decide) ?_
  refine q_ai (wr := [(h0, .inl (cy 1, 8, .inl kr)), (h5, .inl (cy 1, 81, .inl (fun _ => 0)))]) (r_V (q0 := 0) (As := [.int 3]) (rest := []) (wc := [(h, .inr (0, [.int 0, .int 0, .int (-1), .ref h0, .ref h1, .ref h2, .ref h3, .ref h4, .int 0, .ref h5, .int 0, .int 0, .int 10, .int 1, .int 0, .int 7]))]) C (q_subP hP [2] rfl) (hD.sub [2] (by decide) rfl) (c_rareDoubt l D cy h 3 h0 h1 h2 h3 h4 h5 7 _ ) kwV_X0_areRareInDoubt kM_RX0_106 rfl rfl ⟨Nat.le_of_ble_eq_true rfl, Nat.le_of_ble_eq_true rfl⟩ rfl hl.1 rfl (Nat.le_of_ble_eq_true rfl) dX0_keepsFrom_114 ⟨Nat.le_of_ble_eq_true rfl, Nat.le_of_ble_eq_true rfl⟩) C.2.2.2.2.2.2.1 hP hD hS [2] [0, 1] rfl rfl (by decide) (by decide) (fun r_8 u_7 H locs hw_9 hP hD hS => ?_)
  have hP : va_P D vwCl [(h0, .inl (cy 1, 8, .inl kr)), (h5, .inl (cy 1, 81, .inl (fun _ => 0))), (h, .inr (0, [.int 0, .int 0, .int (-1), .ref h0, .ref h1, .ref h2, .ref h3, .ref h4, .int 0, .ref h5, .int 0, .int 0, .int 10, .int 1, .int 0, .int 7]))] H := hP
  have hD : va_D A [(h0, .inl (cy 1, 8, .inl kr)), (h5, .inl (cy 1, 81, .inl (fun _ => 0))), (h, .inr (0, [.int 0, .int 0, .int (-1), .ref h0, .ref h1, .ref h2, .ref h3, .ref h4, .int 0, .ref h5, .int 0, .int 0, .int 10, .int 1, .int 0, .int 7]))] := hD
  obtain rfl : r_8 = 1 := hw_9
  refine lv_if_eq (tgt := 155) hx hb dX0_keepsFrom_117 (by decide) (fun c_0 => absurd c_0 (by decide)) (fun _ => ?_)
  refine lv_aload_n hx hb dX0_keepsFrom_120 rfl (lv_at hl 4 rfl) ?_
  refine lv_iload_n hx hb dX0_keepsFrom_121 rfl (lv_at hl 5 rfl) ?_
  refine lv_iconst (v := 1) hx hb dX0_keepsFrom_122 (by decide) ?_
  refine lv_iadd hx hb dX0_keepsFrom_123 ?_
  refine q_val (v := 3) (by decide) ?_
  refine lv_iload hx hb dX0_keepsFrom_124 (lv_at hl 2 rfl) ?_
  refine lv_if_eq (tgt := 135) hx hb dX0_keepsFrom_126 (by decide) (fun _ => ?_) (fun c_0 => absurd (by decide) c_0)
  refine lv_iload_n hx hb dX0_keepsFrom_135 rfl (lv_at hl 6 rfl) ?_
  refine q_ai (wr := []) (r_V (q0 := 0) (As := [.int 3, .int 0]) (rest := []) (wc := [(h, .inr (0, [.int 0, .int 0, .int (-1), .ref h0, .ref h1, .ref h2, .ref h3, .ref h4, .int 0, .ref h5, .int 0, .int 0, .int 10, .int 1, .int 0, .int 7])), (h0, .inl (cy 1, 8, .inl kr)), (h5, .inl (cy 1, 81, .inl (fun _ => 0)))]) C (q_subP hP [2, 0, 1] rfl) (hD.sub [2, 0, 1] (by decide) rfl) (c_keeps_7_3 l D cy h h0 h1 h2 h3 h4 h5 kr _ ) kwV_X0_keepsFrom kM_RX0_95 rfl rfl ⟨Nat.le_of_ble_eq_true rfl, Nat.le_of_ble_eq_true rfl⟩ rfl hl.1 rfl (Nat.le_of_ble_eq_true rfl) dX0_keepsFrom_136 ⟨Nat.le_of_ble_eq_true rfl, Nat.le_of_ble_eq_true rfl⟩) C.2.2.2.2.2.2.1 hP hD hS [2, 0, 1] [] rfl rfl (by decide) (by decide) (fun r_11 u_10 H locs hw_12 hP hD hS => ?_)
  have hP : va_P D vwCl [(h, .inr (0, [.int 0, .int 0, .int (-1), .ref h0, .ref h1, .ref h2, .ref h3, .ref h4, .int 0, .ref h5, .int 0, .int 0, .int 10, .int 1, .int 0, .int 7])), (h0, .inl (cy 1, 8, .inl u_10)), (h5, .inl (cy 1, 81, .inl (fun _ => 0)))] H := hP
  have hD : va_D A [(h, .inr (0, [.int 0, .int 0, .int (-1), .ref h0, .ref h1, .ref h2, .ref h3, .ref h4, .int 0, .ref h5, .int 0, .int 0, .int 10, .int 1, .int 0, .int 7])), (h0, .inl (cy 1, 8, .inl u_10)), (h5, .inl (cy 1, 81, .inl (fun _ => 0)))] := hD
  obtain rfl : r_11 = 1 := hw_12
  refine lv_if_eq (tgt := 155) hx hb dX0_keepsFrom_139 (by decide) (fun c_0 => absurd c_0 (by decide)) (fun _ => ?_)
  refine lv_aload_n hx hb dX0_keepsFrom_142 rfl (lv_at hl 4 rfl) ?_
  refine q_get (v := .ref h0) C hP 0 3 rfl rfl inX0 (by decide) kF_RX0_21 rfl rfl dX0_keepsFrom_143 ?_
  refine lv_iload_n hx hb dX0_keepsFrom_146 rfl (lv_at hl 5 rfl) ?_
  refine lv_aload_n hx hb dX0_keepsFrom_147 rfl (lv_at hl 4 rfl) ?_
  refine lv_iload_n hx hb dX0_keepsFrom_148 rfl (lv_at hl 3 rfl) ?_
  refine q_ai (wr := [(h0, .inl (cy 1, 8, .inl u_10)), (h5, .inl (cy 1, 81, .inl (fun _ => 0)))]) (r_V (q0 := 0) (As := [.int 0]) (rest := [.int 2, .ref h0]) (wc := [(h, .inr (0, [.int 0, .int 0, .int (-1), .ref h0, .ref h1, .ref h2, .ref h3, .ref h4, .int 0, .ref h5, .int 0, .int 0, .int 10, .int 1, .int 0, .int 7]))]) C (q_subP hP [0] rfl) (hD.sub [0] (by decide) rfl) (c_bookChosen l D cy h h0 h1 h2 h3 h4 h5 7 _ ) kwV_X0_bookChosen kM_RX0_110 rfl rfl ⟨Nat.le_of_ble_eq_true rfl, Nat.le_of_ble_eq_true rfl⟩ rfl hl.1 rfl (Nat.le_of_ble_eq_true rfl) dX0_keepsFrom_149 ⟨Nat.le_of_ble_eq_true rfl, Nat.le_of_ble_eq_true rfl⟩) C.2.2.2.2.2.2.1 hP hD hS [0] [1, 2] rfl rfl (by decide) (by decide) (fun r_14 u_13 H locs hw_15 hP hD hS => ?_)
  have hP : va_P D vwCl [(h0, .inl (cy 1, 8, .inl u_10)), (h5, .inl (cy 1, 81, .inl (fun _ => 0))), (h, .inr (0, [.int 0, .int 0, .int (-1), .ref h0, .ref h1, .ref h2, .ref h3, .ref h4, .int 0, .ref h5, .int 0, .int 0, .int 10, .int 1, .int 0, .int 7]))] H := hP
  have hD : va_D A [(h0, .inl (cy 1, 8, .inl u_10)), (h5, .inl (cy 1, 81, .inl (fun _ => 0))), (h, .inr (0, [.int 0, .int 0, .int (-1), .ref h0, .ref h1, .ref h2, .ref h3, .ref h4, .int 0, .ref h5, .int 0, .int 0, .int 10, .int 1, .int 0, .int 7]))] := hD
  obtain rfl : r_14 = (-1) := hw_15
  refine q_iast (g := upd u_10 2 (-1)) (w' := [(h0, .inl (cy 1, 8, .inl (upd u_10 2 (-1)))), (h5, .inl (cy 1, 81, .inl (fun _ => 0))), (h, .inr (0, [.int 0, .int 0, .int (-1), .ref h0, .ref h1, .ref h2, .ref h3, .ref h4, .int 0, .ref h5, .int 0, .int 0, .int 10, .int 1, .int 0, .int 7]))]) C hP hD hS 0 rfl (vin (by decide +kernel)) rfl rfl dX0_keepsFrom_152 (fun H locs hP hD hS => ?_)
  refine lv_iconst (v := 1) hx hb dX0_keepsFrom_153 (by decide) ?_
  exact q_iret (rm := (Rm 5 130 0 0)) C hS (upd u_10 2 (-1)) rfl rfl (q_subP hP [2, 0, 1] rfl) (hD.sub [2, 0, 1] (by decide) rfl) (Nat.le_of_ble_eq_true rfl) (Nat.le_of_ble_eq_true rfl) dX0_keepsFrom_154
set_option maxHeartbeats 4000000 in
set_option maxRecDepth 100000 in
theorem c_keeps_7_1 (l : Launch) (D : va_G) (cy : Nat → ClassId) (h : Nat) (h0 : Nat) (h1 : Nat) (h2 : Nat) (h3 : Nat) (h4 : Nat) (h5 : Nat) (kr : Nat → Int32) (sz : Nat)  : MI l yX0_keepsFrom cX0_keepsFrom 7 (some .boolean) (Rm 6 156 0 0) D cy [.ref h, .int 1, .int 0] sz [(h, .inr (0, [.int 0, .int 0, .int (-1), .ref h0, .ref h1, .ref h2, .ref h3, .ref h4, .int 0, .ref h5, .int 0, .int 0, .int 10, .int 1, .int 0, .int 7])), (h0, .inl (cy 1, 8, .inl kr)), (h5, .inl (cy 1, 81, .inl (fun _ => 0)))] (fun (r : Int32) (u : Nat → Int32) => r = 1) (fun u : Nat → Int32 => [(h, .inr (0, [.int 0, .int 0, .int (-1), .ref h0, .ref h1, .ref h2, .ref h3, .ref h4, .int 0, .ref h5, .int 0, .int 0, .int 10, .int 1, .int 0, .int 7])), (h0, .inl (cy 1, 8, .inl u)), (h5, .inl (cy 1, 81, .inl (fun _ => 0)))]) := by
  refine MI.enter (by decide) (Nat.le_of_ble_eq_true rfl) ?_
  intro p e s m below meth c ls A hsz hAe C hP hD hS hl
  have C : Cx p s m _ meth c cX0_keepsFrom 7 (some .boolean) RX0 "keepsFrom" D cy A := C
  have hx := C.1
  have hb := C.2.1
  have hl : lv_has ls 7 [(0, .ref h), (1, .int 1), (2, .int 0)] := hl
  refine lv_iload_n hx hb dX0_keepsFrom_0 rfl (lv_at hl 1 rfl) ?_
  refine lv_aload_n hx hb dX0_keepsFrom_1 rfl (lv_at hl 0 rfl) ?_
  refine q_get (v := .int 7) C hP 0 15 rfl rfl inX0 (by decide) kF_RX0_58 rfl rfl dX0_keepsFrom_2 ?_
  refine lv_icmp_lt (tgt := 10) hx hb dX0_keepsFrom_5 (by decide) (fun _ => ?_) (fun c_0 => absurd (by decide) c_0)
  refine lv_aload_n hx hb dX0_keepsFrom_10 rfl (lv_at hl 0 rfl) ?_
  refine lv_iload_n hx hb dX0_keepsFrom_11 rfl (lv_at hl 1 rfl) ?_
  refine q_ai (wr := [(h0, .inl (cy 1, 8, .inl kr)), (h5, .inl (cy 1, 81, .inl (fun _ => 0)))]) (r_V (q0 := 0) (As := [.int 1]) (rest := []) (wc := [(h, .inr (0, [.int 0, .int 0, .int (-1), .ref h0, .ref h1, .ref h2, .ref h3, .ref h4, .int 0, .ref h5, .int 0, .int 0, .int 10, .int 1, .int 0, .int 7]))]) C (q_subP hP [0] rfl) (hD.sub [0] (by decide) rfl) (c_askNeeded l D cy h 1 h0 h1 h2 h3 h4 h5 7 _ ) kwV_X0_askingsNeeded kM_RX0_98 rfl rfl ⟨Nat.le_of_ble_eq_true rfl, Nat.le_of_ble_eq_true rfl⟩ rfl hl.1 rfl (Nat.le_of_ble_eq_true rfl) dX0_keepsFrom_12 ⟨Nat.le_of_ble_eq_true rfl, Nat.le_of_ble_eq_true rfl⟩) C.2.2.2.2.2.2.1 hP hD hS [0] [1, 2] rfl rfl (by decide) (by decide) (fun r_2 u_1 H locs hw_3 hP hD hS => ?_)
  have hP : va_P D vwCl [(h0, .inl (cy 1, 8, .inl kr)), (h5, .inl (cy 1, 81, .inl (fun _ => 0))), (h, .inr (0, [.int 0, .int 0, .int (-1), .ref h0, .ref h1, .ref h2, .ref h3, .ref h4, .int 0, .ref h5, .int 0, .int 0, .int 10, .int 1, .int 0, .int 7]))] H := hP
  have hD : va_D A [(h0, .inl (cy 1, 8, .inl kr)), (h5, .inl (cy 1, 81, .inl (fun _ => 0))), (h, .inr (0, [.int 0, .int 0, .int (-1), .ref h0, .ref h1, .ref h2, .ref h3, .ref h4, .int 0, .ref h5, .int 0, .int 0, .int 10, .int 1, .int 0, .int 7]))] := hD
  obtain rfl : r_2 = 0 := hw_3
  refine lv_iload_n hx hb dX0_keepsFrom_15 rfl (lv_at hl 2 rfl) ?_
  refine lv_icmp_le (tgt := 21) hx hb dX0_keepsFrom_16 (by decide) (fun _ => ?_) (fun c_0 => absurd (by decide) c_0)
  refine lv_aload_n hx hb dX0_keepsFrom_21 rfl (lv_at hl 0 rfl) ?_
  refine lv_iload_n hx hb dX0_keepsFrom_22 rfl (lv_at hl 1 rfl) ?_
  refine q_av (wr := [(h0, .inl (cy 1, 8, .inl kr)), (h5, .inl (cy 1, 81, .inl (fun _ => 0)))]) (r_V (q0 := 0) (As := [.int 1]) (rest := []) (wc := [(h, .inr (0, [.int 0, .int 0, .int (-1), .ref h0, .ref h1, .ref h2, .ref h3, .ref h4, .int 0, .ref h5, .int 0, .int 0, .int 10, .int 1, .int 0, .int 7]))]) C (q_subP hP [2] rfl) (hD.sub [2] (by decide) rfl) (c_passDay l D cy h 1 h0 h1 h2 h3 h4 h5 7 _ ) kwV_X0_passDay kM_RX0_102 rfl rfl ⟨Nat.le_of_ble_eq_true rfl, Nat.le_of_ble_eq_true rfl⟩ rfl hl.1 rfl (Nat.le_of_ble_eq_true rfl) dX0_keepsFrom_23 ⟨Nat.le_of_ble_eq_true rfl, Nat.le_of_ble_eq_true rfl⟩) C.2.2.2.2.2.2.1 hP hD hS [2] [0, 1] rfl rfl (by decide) (by decide) (fun u_4 H locs hw_6 hP hD hS => ?_)
  have hP : va_P D vwCl [(h0, .inl (cy 1, 8, .inl kr)), (h5, .inl (cy 1, 81, .inl (fun _ => 0))), (h, .inr (0, [.int 0, .int 0, .int (-1), .ref h0, .ref h1, .ref h2, .ref h3, .ref h4, .int 0, .ref h5, .int 0, .int 0, .int 10, .int 1, .int 0, .int 7]))] H := hP
  have hD : va_D A [(h0, .inl (cy 1, 8, .inl kr)), (h5, .inl (cy 1, 81, .inl (fun _ => 0))), (h, .inr (0, [.int 0, .int 0, .int (-1), .ref h0, .ref h1, .ref h2, .ref h3, .ref h4, .int 0, .ref h5, .int 0, .int 0, .int 10, .int 1, .int 0, .int 7]))] := hD
  refine lv_iconst (v := 0) hx hb dX0_keepsFrom_26 (by decide) ?_
  refine lv_istore_n (lv' := [(3, .int 0), (0, .ref h), (1, .int 1), (2, .int 0)]) hx hb dX0_keepsFrom_27 rfl hl (by decide) rfl (fun ls hl => ?_)
  refine lv_iload_n hx hb dX0_keepsFrom_28 rfl (lv_at hl 0 rfl) ?_
  refine lv_aload_n hx hb dX0_keepsFrom_29 rfl (lv_at hl 1 rfl) ?_
  refine q_get (v := .int 0) C hP 2 10 rfl rfl inX0 (by decide) kF_RX0_43 rfl rfl dX0_keepsFrom_30 ?_
  refine lv_icmp_gt (tgt := 170) hx hb dX0_keepsFrom_33 (by decide) (fun c_0 => absurd c_0 (by decide)) (fun _ => ?_)
  refine lv_iload_n hx hb dX0_keepsFrom_36 rfl (lv_at hl 0 rfl) ?_
  refine lv_aload_n hx hb dX0_keepsFrom_37 rfl (lv_at hl 1 rfl) ?_
  refine q_get (v := .int 0) C hP 2 10 rfl rfl inX0 (by decide) kF_RX0_43 rfl rfl dX0_keepsFrom_38 ?_
  refine lv_icmp_ge (tgt := 48) hx hb dX0_keepsFrom_41 (by decide) (fun _ => ?_) (fun c_0 => absurd (by decide) c_0)
  refine lv_iconst (v := 0) hx hb dX0_keepsFrom_48 (by decide) ?_
  refine lv_istore (lv' := [(4, .int 0), (3, .int 0), (0, .ref h), (1, .int 1), (2, .int 0)]) hx hb dX0_keepsFrom_49 hl (by decide) rfl (fun ls hl => ?_)
  refine lv_iload hx hb dX0_keepsFrom_51 (lv_at hl 0 rfl) ?_
  refine lv_if_eq (tgt := 83) hx hb dX0_keepsFrom_53 (by decide) (fun _ => ?_) (fun c_0 => absurd (by decide) c_0)
  refine lv_iload_n hx hb dX0_keepsFrom_83 rfl (lv_at hl 3 rfl) ?_
  refine lv_iconst (v := 1) hx hb dX0_keepsFrom_84 (by decide) ?_
  refine lv_iadd hx hb dX0_keepsFrom_85 ?_
  refine q_val (v := 2) (by decide) ?_
  refine lv_bipush (v := 9) hx hb dX0_keepsFrom_86 (by decide) ?_
  refine lv_imul hx hb dX0_keepsFrom_88 ?_
  refine q_val (v := 18) (by decide) ?_
  refine lv_iload_n hx hb dX0_keepsFrom_89 rfl (lv_at hl 1 rfl) ?_
  refine lv_iadd hx hb dX0_keepsFrom_90 ?_
  refine q_val (v := 18) (by decide) ?_
  refine lv_istore (lv' := [(5, .int 18), (4, .int 0), (3, .int 0), (0, .ref h), (1, .int 1), (2, .int 0)]) hx hb dX0_keepsFrom_91 hl (by decide) rfl (fun ls hl => ?_)
  refine lv_aload_n hx hb dX0_keepsFrom_93 rfl (lv_at hl 3 rfl) ?_
  refine q_get (v := .ref h5) C hP 2 9 rfl rfl inX0 (by decide) kF_RX0_40 rfl rfl dX0_keepsFrom_94 ?_
  refine lv_iload hx hb dX0_keepsFrom_97 (lv_at hl 0 rfl) ?_
  refine q_iald (v := 0) C hP 1 rfl (vin (by decide +kernel)) rfl dX0_keepsFrom_99 ?_
  refine lv_istore (lv' := [(6, .int 0), (5, .int 18), (4, .int 0), (3, .int 0), (0, .ref h), (1, .int 1), (2, .int 0)]) hx hb dX0_keepsFrom_100 hl (by decide) rfl (fun ls hl => ?_)
  refine lv_aload_n hx hb dX0_keepsFrom_102 rfl (lv_at hl 4 rfl) ?_
  refine q_get (v := .ref h5) C hP 2 9 rfl rfl inX0 (by decide) kF_RX0_40 rfl rfl dX0_keepsFrom_103 ?_
  refine lv_iload hx hb dX0_keepsFrom_106 (lv_at hl 1 rfl) ?_
  refine lv_iconst (v := 0) hx hb dX0_keepsFrom_108 (by decide) ?_
  refine q_iast (g := fun _ => 0) (w' := [(h0, .inl (cy 1, 8, .inl kr)), (h5, .inl (cy 1, 81, .inl (fun _ => 0))), (h, .inr (0, [.int 0, .int 0, .int (-1), .ref h0, .ref h1, .ref h2, .ref h3, .ref h4, .int 0, .ref h5, .int 0, .int 0, .int 10, .int 1, .int 0, .int 7]))]) C hP hD hS 1 rfl (vin (by decide +kernel)) (updz _) rfl dX0_keepsFrom_109 (fun H locs hP hD hS => ?_)
  refine lv_aload_n hx hb dX0_keepsFrom_110 rfl (lv_at hl 4 rfl) ?_
  refine lv_iload_n hx hb dX0_keepsFrom_111 rfl (lv_at hl 5 rfl) ?_
  refine lv_iconst (v := 1) hx hb dX0_keepsFrom_112 (by decide) ?_
  refine lv_iadd hx hb dX0_keepsFrom_113 ?_
  refine q_val (v := 2) (by decide) ?_
  refine q_ai (wr := [(h0, .inl (cy 1, 8, .inl kr)), (h5, .inl (cy 1, 81, .inl (fun _ => 0)))]) (r_V (q0 := 0) (As := [.int 2]) (rest := []) (wc := [(h, .inr (0, [.int 0, .int 0, .int (-1), .ref h0, .ref h1, .ref h2, .ref h3, .ref h4, .int 0, .ref h5, .int 0, .int 0, .int 10, .int 1, .int 0, .int 7]))]) C (q_subP hP [2] rfl) (hD.sub [2] (by decide) rfl) (c_rareDoubt l D cy h 2 h0 h1 h2 h3 h4 h5 7 _ ) kwV_X0_areRareInDoubt kM_RX0_106 rfl rfl ⟨Nat.le_of_ble_eq_true rfl, Nat.le_of_ble_eq_true rfl⟩ rfl hl.1 rfl (Nat.le_of_ble_eq_true rfl) dX0_keepsFrom_114 ⟨Nat.le_of_ble_eq_true rfl, Nat.le_of_ble_eq_true rfl⟩) C.2.2.2.2.2.2.1 hP hD hS [2] [0, 1] rfl rfl (by decide) (by decide) (fun r_8 u_7 H locs hw_9 hP hD hS => ?_)
  have hP : va_P D vwCl [(h0, .inl (cy 1, 8, .inl kr)), (h5, .inl (cy 1, 81, .inl (fun _ => 0))), (h, .inr (0, [.int 0, .int 0, .int (-1), .ref h0, .ref h1, .ref h2, .ref h3, .ref h4, .int 0, .ref h5, .int 0, .int 0, .int 10, .int 1, .int 0, .int 7]))] H := hP
  have hD : va_D A [(h0, .inl (cy 1, 8, .inl kr)), (h5, .inl (cy 1, 81, .inl (fun _ => 0))), (h, .inr (0, [.int 0, .int 0, .int (-1), .ref h0, .ref h1, .ref h2, .ref h3, .ref h4, .int 0, .ref h5, .int 0, .int 0, .int 10, .int 1, .int 0, .int 7]))] := hD
  obtain rfl : r_8 = 1 := hw_9
  refine lv_if_eq (tgt := 155) hx hb dX0_keepsFrom_117 (by decide) (fun c_0 => absurd c_0 (by decide)) (fun _ => ?_)
  refine lv_aload_n hx hb dX0_keepsFrom_120 rfl (lv_at hl 4 rfl) ?_
  refine lv_iload_n hx hb dX0_keepsFrom_121 rfl (lv_at hl 5 rfl) ?_
  refine lv_iconst (v := 1) hx hb dX0_keepsFrom_122 (by decide) ?_
  refine lv_iadd hx hb dX0_keepsFrom_123 ?_
  refine q_val (v := 2) (by decide) ?_
  refine lv_iload hx hb dX0_keepsFrom_124 (lv_at hl 2 rfl) ?_
  refine lv_if_eq (tgt := 135) hx hb dX0_keepsFrom_126 (by decide) (fun _ => ?_) (fun c_0 => absurd (by decide) c_0)
  refine lv_iload_n hx hb dX0_keepsFrom_135 rfl (lv_at hl 6 rfl) ?_
  refine q_ai (wr := []) (r_V (q0 := 0) (As := [.int 2, .int 0]) (rest := []) (wc := [(h, .inr (0, [.int 0, .int 0, .int (-1), .ref h0, .ref h1, .ref h2, .ref h3, .ref h4, .int 0, .ref h5, .int 0, .int 0, .int 10, .int 1, .int 0, .int 7])), (h0, .inl (cy 1, 8, .inl kr)), (h5, .inl (cy 1, 81, .inl (fun _ => 0)))]) C (q_subP hP [2, 0, 1] rfl) (hD.sub [2, 0, 1] (by decide) rfl) (c_keeps_7_2 l D cy h h0 h1 h2 h3 h4 h5 kr _ ) kwV_X0_keepsFrom kM_RX0_95 rfl rfl ⟨Nat.le_of_ble_eq_true rfl, Nat.le_of_ble_eq_true rfl⟩ rfl hl.1 rfl (Nat.le_of_ble_eq_true rfl) dX0_keepsFrom_136 ⟨Nat.le_of_ble_eq_true rfl, Nat.le_of_ble_eq_true rfl⟩) C.2.2.2.2.2.2.1 hP hD hS [2, 0, 1] [] rfl rfl (by decide) (by decide) (fun r_11 u_10 H locs hw_12 hP hD hS => ?_)
  have hP : va_P D vwCl [(h, .inr (0, [.int 0, .int 0, .int (-1), .ref h0, .ref h1, .ref h2, .ref h3, .ref h4, .int 0, .ref h5, .int 0, .int 0, .int 10, .int 1, .int 0, .int 7])), (h0, .inl (cy 1, 8, .inl u_10)), (h5, .inl (cy 1, 81, .inl (fun _ => 0)))] H := hP
  have hD : va_D A [(h, .inr (0, [.int 0, .int 0, .int (-1), .ref h0, .ref h1, .ref h2, .ref h3, .ref h4, .int 0, .ref h5, .int 0, .int 0, .int 10, .int 1, .int 0, .int 7])), (h0, .inl (cy 1, 8, .inl u_10)), (h5, .inl (cy 1, 81, .inl (fun _ => 0)))] := hD
  obtain rfl : r_11 = 1 := hw_12
  refine lv_if_eq (tgt := 155) hx hb dX0_keepsFrom_139 (by decide) (fun c_0 => absurd c_0 (by decide)) (fun _ => ?_)
  refine lv_aload_n hx hb dX0_keepsFrom_142 rfl (lv_at hl 4 rfl) ?_
  refine q_get (v := .ref h0) C hP 0 3 rfl rfl inX0 (by decide) kF_RX0_21 rfl rfl dX0_keepsFrom_143 ?_
  refine lv_iload_n hx hb dX0_keepsFrom_146 rfl (lv_at hl 5 rfl) ?_
  refine lv_aload_n hx hb dX0_keepsFrom_147 rfl (lv_at hl 4 rfl) ?_
  refine lv_iload_n hx hb dX0_keepsFrom_148 rfl (lv_at hl 3 rfl) ?_
  refine q_ai (wr := [(h0, .inl (cy 1, 8, .inl u_10)), (h5, .inl (cy 1, 81, .inl (fun _ => 0)))]) (r_V (q0 := 0) (As := [.int 0]) (rest := [.int 1, .ref h0]) (wc := [(h, .inr (0, [.int 0, .int 0, .int (-1), .ref h0, .ref h1, .ref h2, .ref h3, .ref h4, .int 0, .ref h5, .int 0, .int 0, .int 10, .int 1, .int 0, .int 7]))]) C (q_subP hP [0] rfl) (hD.sub [0] (by decide) rfl) (c_bookChosen l D cy h h0 h1 h2 h3 h4 h5 7 _ ) kwV_X0_bookChosen kM_RX0_110 rfl rfl ⟨Nat.le_of_ble_eq_true rfl, Nat.le_of_ble_eq_true rfl⟩ rfl hl.1 rfl (Nat.le_of_ble_eq_true rfl) dX0_keepsFrom_149 ⟨Nat.le_of_ble_eq_true rfl, Nat.le_of_ble_eq_true rfl⟩) C.2.2.2.2.2.2.1 hP hD hS [0] [1, 2] rfl rfl (by decide) (by decide) (fun r_14 u_13 H locs hw_15 hP hD hS => ?_)
  have hP : va_P D vwCl [(h0, .inl (cy 1, 8, .inl u_10)), (h5, .inl (cy 1, 81, .inl (fun _ => 0))), (h, .inr (0, [.int 0, .int 0, .int (-1), .ref h0, .ref h1, .ref h2, .ref h3, .ref h4, .int 0, .ref h5, .int 0, .int 0, .int 10, .int 1, .int 0, .int 7]))] H := hP
  have hD : va_D A [(h0, .inl (cy 1, 8, .inl u_10)), (h5, .inl (cy 1, 81, .inl (fun _ => 0))), (h, .inr (0, [.int 0, .int 0, .int (-1), .ref h0, .ref h1, .ref h2, .ref h3, .ref h4, .int 0, .ref h5, .int 0, .int 0, .int 10, .int 1, .int 0, .int 7]))] := hD
  obtain rfl : r_14 = (-1) := hw_15
  refine q_iast (g := upd u_10 1 (-1)) (w' := [(h0, .inl (cy 1, 8, .inl (upd u_10 1 (-1)))), (h5, .inl (cy 1, 81, .inl (fun _ => 0))), (h, .inr (0, [.int 0, .int 0, .int (-1), .ref h0, .ref h1, .ref h2, .ref h3, .ref h4, .int 0, .ref h5, .int 0, .int 0, .int 10, .int 1, .int 0, .int 7]))]) C hP hD hS 0 rfl (vin (by decide +kernel)) rfl rfl dX0_keepsFrom_152 (fun H locs hP hD hS => ?_)
  refine lv_iconst (v := 1) hx hb dX0_keepsFrom_153 (by decide) ?_
  exact q_iret (rm := (Rm 6 156 0 0)) C hS (upd u_10 1 (-1)) rfl rfl (q_subP hP [2, 0, 1] rfl) (hD.sub [2, 0, 1] (by decide) rfl) (Nat.le_of_ble_eq_true rfl) (Nat.le_of_ble_eq_true rfl) dX0_keepsFrom_154
set_option maxHeartbeats 4000000 in
set_option maxRecDepth 100000 in
theorem c_keeps_7_0 (l : Launch) (D : va_G) (cy : Nat → ClassId) (h : Nat) (h0 : Nat) (h1 : Nat) (h2 : Nat) (h3 : Nat) (h4 : Nat) (h5 : Nat) (kr : Nat → Int32) (sz : Nat)  : MI l yX0_keepsFrom cX0_keepsFrom 7 (some .boolean) (Rm 7 182 0 0) D cy [.ref h, .int 0, .int 0] sz [(h, .inr (0, [.int 0, .int 0, .int (-1), .ref h0, .ref h1, .ref h2, .ref h3, .ref h4, .int 0, .ref h5, .int 0, .int 0, .int 10, .int 1, .int 0, .int 7])), (h0, .inl (cy 1, 8, .inl kr)), (h5, .inl (cy 1, 81, .inl (fun _ => 0)))] (fun (r : Int32) (u : Nat → Int32) => r = 1) (fun u : Nat → Int32 => [(h, .inr (0, [.int 0, .int 0, .int (-1), .ref h0, .ref h1, .ref h2, .ref h3, .ref h4, .int 0, .ref h5, .int 0, .int 0, .int 10, .int 1, .int 0, .int 7])), (h0, .inl (cy 1, 8, .inl u)), (h5, .inl (cy 1, 81, .inl (fun _ => 0)))]) := by
  refine MI.enter (by decide) (Nat.le_of_ble_eq_true rfl) ?_
  intro p e s m below meth c ls A hsz hAe C hP hD hS hl
  have C : Cx p s m _ meth c cX0_keepsFrom 7 (some .boolean) RX0 "keepsFrom" D cy A := C
  have hx := C.1
  have hb := C.2.1
  have hl : lv_has ls 7 [(0, .ref h), (1, .int 0), (2, .int 0)] := hl
  refine lv_iload_n hx hb dX0_keepsFrom_0 rfl (lv_at hl 1 rfl) ?_
  refine lv_aload_n hx hb dX0_keepsFrom_1 rfl (lv_at hl 0 rfl) ?_
  refine q_get (v := .int 7) C hP 0 15 rfl rfl inX0 (by decide) kF_RX0_58 rfl rfl dX0_keepsFrom_2 ?_
  refine lv_icmp_lt (tgt := 10) hx hb dX0_keepsFrom_5 (by decide) (fun _ => ?_) (fun c_0 => absurd (by decide) c_0)
  refine lv_aload_n hx hb dX0_keepsFrom_10 rfl (lv_at hl 0 rfl) ?_
  refine lv_iload_n hx hb dX0_keepsFrom_11 rfl (lv_at hl 1 rfl) ?_
  refine q_ai (wr := [(h0, .inl (cy 1, 8, .inl kr)), (h5, .inl (cy 1, 81, .inl (fun _ => 0)))]) (r_V (q0 := 0) (As := [.int 0]) (rest := []) (wc := [(h, .inr (0, [.int 0, .int 0, .int (-1), .ref h0, .ref h1, .ref h2, .ref h3, .ref h4, .int 0, .ref h5, .int 0, .int 0, .int 10, .int 1, .int 0, .int 7]))]) C (q_subP hP [0] rfl) (hD.sub [0] (by decide) rfl) (c_askNeeded l D cy h 0 h0 h1 h2 h3 h4 h5 7 _ ) kwV_X0_askingsNeeded kM_RX0_98 rfl rfl ⟨Nat.le_of_ble_eq_true rfl, Nat.le_of_ble_eq_true rfl⟩ rfl hl.1 rfl (Nat.le_of_ble_eq_true rfl) dX0_keepsFrom_12 ⟨Nat.le_of_ble_eq_true rfl, Nat.le_of_ble_eq_true rfl⟩) C.2.2.2.2.2.2.1 hP hD hS [0] [1, 2] rfl rfl (by decide) (by decide) (fun r_2 u_1 H locs hw_3 hP hD hS => ?_)
  have hP : va_P D vwCl [(h0, .inl (cy 1, 8, .inl kr)), (h5, .inl (cy 1, 81, .inl (fun _ => 0))), (h, .inr (0, [.int 0, .int 0, .int (-1), .ref h0, .ref h1, .ref h2, .ref h3, .ref h4, .int 0, .ref h5, .int 0, .int 0, .int 10, .int 1, .int 0, .int 7]))] H := hP
  have hD : va_D A [(h0, .inl (cy 1, 8, .inl kr)), (h5, .inl (cy 1, 81, .inl (fun _ => 0))), (h, .inr (0, [.int 0, .int 0, .int (-1), .ref h0, .ref h1, .ref h2, .ref h3, .ref h4, .int 0, .ref h5, .int 0, .int 0, .int 10, .int 1, .int 0, .int 7]))] := hD
  obtain rfl : r_2 = 0 := hw_3
  refine lv_iload_n hx hb dX0_keepsFrom_15 rfl (lv_at hl 2 rfl) ?_
  refine lv_icmp_le (tgt := 21) hx hb dX0_keepsFrom_16 (by decide) (fun _ => ?_) (fun c_0 => absurd (by decide) c_0)
  refine lv_aload_n hx hb dX0_keepsFrom_21 rfl (lv_at hl 0 rfl) ?_
  refine lv_iload_n hx hb dX0_keepsFrom_22 rfl (lv_at hl 1 rfl) ?_
  refine q_av (wr := [(h0, .inl (cy 1, 8, .inl kr)), (h5, .inl (cy 1, 81, .inl (fun _ => 0)))]) (r_V (q0 := 0) (As := [.int 0]) (rest := []) (wc := [(h, .inr (0, [.int 0, .int 0, .int (-1), .ref h0, .ref h1, .ref h2, .ref h3, .ref h4, .int 0, .ref h5, .int 0, .int 0, .int 10, .int 1, .int 0, .int 7]))]) C (q_subP hP [2] rfl) (hD.sub [2] (by decide) rfl) (c_passDay l D cy h 0 h0 h1 h2 h3 h4 h5 7 _ ) kwV_X0_passDay kM_RX0_102 rfl rfl ⟨Nat.le_of_ble_eq_true rfl, Nat.le_of_ble_eq_true rfl⟩ rfl hl.1 rfl (Nat.le_of_ble_eq_true rfl) dX0_keepsFrom_23 ⟨Nat.le_of_ble_eq_true rfl, Nat.le_of_ble_eq_true rfl⟩) C.2.2.2.2.2.2.1 hP hD hS [2] [0, 1] rfl rfl (by decide) (by decide) (fun u_4 H locs hw_6 hP hD hS => ?_)
  have hP : va_P D vwCl [(h0, .inl (cy 1, 8, .inl kr)), (h5, .inl (cy 1, 81, .inl (fun _ => 0))), (h, .inr (0, [.int 0, .int 0, .int (-1), .ref h0, .ref h1, .ref h2, .ref h3, .ref h4, .int 0, .ref h5, .int 0, .int 0, .int 10, .int 1, .int 0, .int 7]))] H := hP
  have hD : va_D A [(h0, .inl (cy 1, 8, .inl kr)), (h5, .inl (cy 1, 81, .inl (fun _ => 0))), (h, .inr (0, [.int 0, .int 0, .int (-1), .ref h0, .ref h1, .ref h2, .ref h3, .ref h4, .int 0, .ref h5, .int 0, .int 0, .int 10, .int 1, .int 0, .int 7]))] := hD
  refine lv_iconst (v := 0) hx hb dX0_keepsFrom_26 (by decide) ?_
  refine lv_istore_n (lv' := [(3, .int 0), (0, .ref h), (1, .int 0), (2, .int 0)]) hx hb dX0_keepsFrom_27 rfl hl (by decide) rfl (fun ls hl => ?_)
  refine lv_iload_n hx hb dX0_keepsFrom_28 rfl (lv_at hl 0 rfl) ?_
  refine lv_aload_n hx hb dX0_keepsFrom_29 rfl (lv_at hl 1 rfl) ?_
  refine q_get (v := .int 0) C hP 2 10 rfl rfl inX0 (by decide) kF_RX0_43 rfl rfl dX0_keepsFrom_30 ?_
  refine lv_icmp_gt (tgt := 170) hx hb dX0_keepsFrom_33 (by decide) (fun c_0 => absurd c_0 (by decide)) (fun _ => ?_)
  refine lv_iload_n hx hb dX0_keepsFrom_36 rfl (lv_at hl 0 rfl) ?_
  refine lv_aload_n hx hb dX0_keepsFrom_37 rfl (lv_at hl 1 rfl) ?_
  refine q_get (v := .int 0) C hP 2 10 rfl rfl inX0 (by decide) kF_RX0_43 rfl rfl dX0_keepsFrom_38 ?_
  refine lv_icmp_ge (tgt := 48) hx hb dX0_keepsFrom_41 (by decide) (fun _ => ?_) (fun c_0 => absurd (by decide) c_0)
  refine lv_iconst (v := 0) hx hb dX0_keepsFrom_48 (by decide) ?_
  refine lv_istore (lv' := [(4, .int 0), (3, .int 0), (0, .ref h), (1, .int 0), (2, .int 0)]) hx hb dX0_keepsFrom_49 hl (by decide) rfl (fun ls hl => ?_)
  refine lv_iload hx hb dX0_keepsFrom_51 (lv_at hl 0 rfl) ?_
  refine lv_if_eq (tgt := 83) hx hb dX0_keepsFrom_53 (by decide) (fun _ => ?_) (fun c_0 => absurd (by decide) c_0)
  refine lv_iload_n hx hb dX0_keepsFrom_83 rfl (lv_at hl 3 rfl) ?_
  refine lv_iconst (v := 1) hx hb dX0_keepsFrom_84 (by decide) ?_
  refine lv_iadd hx hb dX0_keepsFrom_85 ?_
  refine q_val (v := 1) (by decide) ?_
  refine lv_bipush (v := 9) hx hb dX0_keepsFrom_86 (by decide) ?_
  refine lv_imul hx hb dX0_keepsFrom_88 ?_
  refine q_val (v := 9) (by decide) ?_
  refine lv_iload_n hx hb dX0_keepsFrom_89 rfl (lv_at hl 1 rfl) ?_
  refine lv_iadd hx hb dX0_keepsFrom_90 ?_
  refine q_val (v := 9) (by decide) ?_
  refine lv_istore (lv' := [(5, .int 9), (4, .int 0), (3, .int 0), (0, .ref h), (1, .int 0), (2, .int 0)]) hx hb dX0_keepsFrom_91 hl (by decide) rfl (fun ls hl => ?_)
  refine lv_aload_n hx hb dX0_keepsFrom_93 rfl (lv_at hl 3 rfl) ?_
  refine q_get (v := .ref h5) C hP 2 9 rfl rfl inX0 (by decide) kF_RX0_40 rfl rfl dX0_keepsFrom_94 ?_
  refine lv_iload hx hb dX0_keepsFrom_97 (lv_at hl 0 rfl) ?_
  refine q_iald (v := 0) C hP 1 rfl (vin (by decide +kernel)) rfl dX0_keepsFrom_99 ?_
  refine lv_istore (lv' := [(6, .int 0), (5, .int 9), (4, .int 0), (3, .int 0), (0, .ref h), (1, .int 0), (2, .int 0)]) hx hb dX0_keepsFrom_100 hl (by decide) rfl (fun ls hl => ?_)
  refine lv_aload_n hx hb dX0_keepsFrom_102 rfl (lv_at hl 4 rfl) ?_
  refine q_get (v := .ref h5) C hP 2 9 rfl rfl inX0 (by decide) kF_RX0_40 rfl rfl dX0_keepsFrom_103 ?_
  refine lv_iload hx hb dX0_keepsFrom_106 (lv_at hl 1 rfl) ?_
  refine lv_iconst (v := 0) hx hb dX0_keepsFrom_108 (by decide) ?_
  refine q_iast (g := fun _ => 0) (w' := [(h0, .inl (cy 1, 8, .inl kr)), (h5, .inl (cy 1, 81, .inl (fun _ => 0))), (h, .inr (0, [.int 0, .int 0, .int (-1), .ref h0, .ref h1, .ref h2, .ref h3, .ref h4, .int 0, .ref h5, .int 0, .int 0, .int 10, .int 1, .int 0, .int 7]))]) C hP hD hS 1 rfl (vin (by decide +kernel)) (updz _) rfl dX0_keepsFrom_109 (fun H locs hP hD hS => ?_)
  refine lv_aload_n hx hb dX0_keepsFrom_110 rfl (lv_at hl 4 rfl) ?_
  refine lv_iload_n hx hb dX0_keepsFrom_111 rfl (lv_at hl 5 rfl) ?_
  refine lv_iconst (v := 1) hx hb dX0_keepsFrom_112 (by decide) ?_
  refine lv_iadd hx hb dX0_keepsFrom_113 ?_
  refine q_val (v := 1) (by decide) ?_
  refine q_ai (wr := [(h0, .inl (cy 1, 8, .inl kr)), (h5, .inl (cy 1, 81, .inl (fun _ => 0)))]) (r_V (q0 := 0) (As := [.int 1]) (rest := []) (wc := [(h, .inr (0, [.int 0, .int 0, .int (-1), .ref h0, .ref h1, .ref h2, .ref h3, .ref h4, .int 0, .ref h5, .int 0, .int 0, .int 10, .int 1, .int 0, .int 7]))]) C (q_subP hP [2] rfl) (hD.sub [2] (by decide) rfl) (c_rareDoubt l D cy h 1 h0 h1 h2 h3 h4 h5 7 _ ) kwV_X0_areRareInDoubt kM_RX0_106 rfl rfl ⟨Nat.le_of_ble_eq_true rfl, Nat.le_of_ble_eq_true rfl⟩ rfl hl.1 rfl (Nat.le_of_ble_eq_true rfl) dX0_keepsFrom_114 ⟨Nat.le_of_ble_eq_true rfl, Nat.le_of_ble_eq_true rfl⟩) C.2.2.2.2.2.2.1 hP hD hS [2] [0, 1] rfl rfl (by decide) (by decide) (fun r_8 u_7 H locs hw_9 hP hD hS => ?_)
  have hP : va_P D vwCl [(h0, .inl (cy 1, 8, .inl kr)), (h5, .inl (cy 1, 81, .inl (fun _ => 0))), (h, .inr (0, [.int 0, .int 0, .int (-1), .ref h0, .ref h1, .ref h2, .ref h3, .ref h4, .int 0, .ref h5, .int 0, .int 0, .int 10, .int 1, .int 0, .int 7]))] H := hP
  have hD : va_D A [(h0, .inl (cy 1, 8, .inl kr)), (h5, .inl (cy 1, 81, .inl (fun _ => 0))), (h, .inr (0, [.int 0, .int 0, .int (-1), .ref h0, .ref h1, .ref h2, .ref h3, .ref h4, .int 0, .ref h5, .int 0, .int 0, .int 10, .int 1, .int 0, .int 7]))] := hD
  obtain rfl : r_8 = 1 := hw_9
  refine lv_if_eq (tgt := 155) hx hb dX0_keepsFrom_117 (by decide) (fun c_0 => absurd c_0 (by decide)) (fun _ => ?_)
  refine lv_aload_n hx hb dX0_keepsFrom_120 rfl (lv_at hl 4 rfl) ?_
  refine lv_iload_n hx hb dX0_keepsFrom_121 rfl (lv_at hl 5 rfl) ?_
  refine lv_iconst (v := 1) hx hb dX0_keepsFrom_122 (by decide) ?_
  refine lv_iadd hx hb dX0_keepsFrom_123 ?_
  refine q_val (v := 1) (by decide) ?_
  refine lv_iload hx hb dX0_keepsFrom_124 (lv_at hl 2 rfl) ?_
  refine lv_if_eq (tgt := 135) hx hb dX0_keepsFrom_126 (by decide) (fun _ => ?_) (fun c_0 => absurd (by decide) c_0)
  refine lv_iload_n hx hb dX0_keepsFrom_135 rfl (lv_at hl 6 rfl) ?_
  refine q_ai (wr := []) (r_V (q0 := 0) (As := [.int 1, .int 0]) (rest := []) (wc := [(h, .inr (0, [.int 0, .int 0, .int (-1), .ref h0, .ref h1, .ref h2, .ref h3, .ref h4, .int 0, .ref h5, .int 0, .int 0, .int 10, .int 1, .int 0, .int 7])), (h0, .inl (cy 1, 8, .inl kr)), (h5, .inl (cy 1, 81, .inl (fun _ => 0)))]) C (q_subP hP [2, 0, 1] rfl) (hD.sub [2, 0, 1] (by decide) rfl) (c_keeps_7_1 l D cy h h0 h1 h2 h3 h4 h5 kr _ ) kwV_X0_keepsFrom kM_RX0_95 rfl rfl ⟨Nat.le_of_ble_eq_true rfl, Nat.le_of_ble_eq_true rfl⟩ rfl hl.1 rfl (Nat.le_of_ble_eq_true rfl) dX0_keepsFrom_136 ⟨Nat.le_of_ble_eq_true rfl, Nat.le_of_ble_eq_true rfl⟩) C.2.2.2.2.2.2.1 hP hD hS [2, 0, 1] [] rfl rfl (by decide) (by decide) (fun r_11 u_10 H locs hw_12 hP hD hS => ?_)
  have hP : va_P D vwCl [(h, .inr (0, [.int 0, .int 0, .int (-1), .ref h0, .ref h1, .ref h2, .ref h3, .ref h4, .int 0, .ref h5, .int 0, .int 0, .int 10, .int 1, .int 0, .int 7])), (h0, .inl (cy 1, 8, .inl u_10)), (h5, .inl (cy 1, 81, .inl (fun _ => 0)))] H := hP
  have hD : va_D A [(h, .inr (0, [.int 0, .int 0, .int (-1), .ref h0, .ref h1, .ref h2, .ref h3, .ref h4, .int 0, .ref h5, .int 0, .int 0, .int 10, .int 1, .int 0, .int 7])), (h0, .inl (cy 1, 8, .inl u_10)), (h5, .inl (cy 1, 81, .inl (fun _ => 0)))] := hD
  obtain rfl : r_11 = 1 := hw_12
  refine lv_if_eq (tgt := 155) hx hb dX0_keepsFrom_139 (by decide) (fun c_0 => absurd c_0 (by decide)) (fun _ => ?_)
  refine lv_aload_n hx hb dX0_keepsFrom_142 rfl (lv_at hl 4 rfl) ?_
  refine q_get (v := .ref h0) C hP 0 3 rfl rfl inX0 (by decide) kF_RX0_21 rfl rfl dX0_keepsFrom_143 ?_
  refine lv_iload_n hx hb dX0_keepsFrom_146 rfl (lv_at hl 5 rfl) ?_
  refine lv_aload_n hx hb dX0_keepsFrom_147 rfl (lv_at hl 4 rfl) ?_
  refine lv_iload_n hx hb dX0_keepsFrom_148 rfl (lv_at hl 3 rfl) ?_
  refine q_ai (wr := [(h0, .inl (cy 1, 8, .inl u_10)), (h5, .inl (cy 1, 81, .inl (fun _ => 0)))]) (r_V (q0 := 0) (As := [.int 0]) (rest := [.int 0, .ref h0]) (wc := [(h, .inr (0, [.int 0, .int 0, .int (-1), .ref h0, .ref h1, .ref h2, .ref h3, .ref h4, .int 0, .ref h5, .int 0, .int 0, .int 10, .int 1, .int 0, .int 7]))]) C (q_subP hP [0] rfl) (hD.sub [0] (by decide) rfl) (c_bookChosen l D cy h h0 h1 h2 h3 h4 h5 7 _ ) kwV_X0_bookChosen kM_RX0_110 rfl rfl ⟨Nat.le_of_ble_eq_true rfl, Nat.le_of_ble_eq_true rfl⟩ rfl hl.1 rfl (Nat.le_of_ble_eq_true rfl) dX0_keepsFrom_149 ⟨Nat.le_of_ble_eq_true rfl, Nat.le_of_ble_eq_true rfl⟩) C.2.2.2.2.2.2.1 hP hD hS [0] [1, 2] rfl rfl (by decide) (by decide) (fun r_14 u_13 H locs hw_15 hP hD hS => ?_)
  have hP : va_P D vwCl [(h0, .inl (cy 1, 8, .inl u_10)), (h5, .inl (cy 1, 81, .inl (fun _ => 0))), (h, .inr (0, [.int 0, .int 0, .int (-1), .ref h0, .ref h1, .ref h2, .ref h3, .ref h4, .int 0, .ref h5, .int 0, .int 0, .int 10, .int 1, .int 0, .int 7]))] H := hP
  have hD : va_D A [(h0, .inl (cy 1, 8, .inl u_10)), (h5, .inl (cy 1, 81, .inl (fun _ => 0))), (h, .inr (0, [.int 0, .int 0, .int (-1), .ref h0, .ref h1, .ref h2, .ref h3, .ref h4, .int 0, .ref h5, .int 0, .int 0, .int 10, .int 1, .int 0, .int 7]))] := hD
  obtain rfl : r_14 = (-1) := hw_15
  refine q_iast (g := upd u_10 0 (-1)) (w' := [(h0, .inl (cy 1, 8, .inl (upd u_10 0 (-1)))), (h5, .inl (cy 1, 81, .inl (fun _ => 0))), (h, .inr (0, [.int 0, .int 0, .int (-1), .ref h0, .ref h1, .ref h2, .ref h3, .ref h4, .int 0, .ref h5, .int 0, .int 0, .int 10, .int 1, .int 0, .int 7]))]) C hP hD hS 0 rfl (vin (by decide +kernel)) rfl rfl dX0_keepsFrom_152 (fun H locs hP hD hS => ?_)
  refine lv_iconst (v := 1) hx hb dX0_keepsFrom_153 (by decide) ?_
  exact q_iret (rm := (Rm 7 182 0 0)) C hS (upd u_10 0 (-1)) rfl rfl (q_subP hP [2, 0, 1] rfl) (hD.sub [2, 0, 1] (by decide) rfl) (Nat.le_of_ble_eq_true rfl) (Nat.le_of_ble_eq_true rfl) dX0_keepsFrom_154
set_option maxHeartbeats 4000000 in
set_option maxRecDepth 100000 in
theorem c_fewest_7 (l : Launch) (D : va_G) (cy : Nat → ClassId) (h : Nat) (h0 : Nat) (h1 : Nat) (h2 : Nat) (h3 : Nat) (h4 : Nat) (h5 : Nat) (kr : Nat → Int32) (sz : Nat)  : MI l yX0_fewestAskings cX0_fewestAskings 2 (some .int) (Rm 8 208 0 0) D cy [.ref h] sz [(h, .inr (0, [.int 0, .int 0, .int (-1), .ref h0, .ref h1, .ref h2, .ref h3, .ref h4, .int 0, .ref h5, .int 0, .int 0, .int 10, .int 1, .int 0, .int 7])), (h0, .inl (cy 1, 8, .inl kr)), (h5, .inl (cy 1, 81, .inl (fun _ => 0)))] (fun (r : Int32) (u : Unit) => r = 0) (fun u : Unit => []) := by
  refine MI.enter (by decide) (Nat.le_of_ble_eq_true rfl) ?_
  intro p e s m below meth c ls A hsz hAe C hP hD hS hl
  have C : Cx p s m _ meth c cX0_fewestAskings 2 (some .int) RX0 "fewestAskings" D cy A := C
  have hx := C.1
  have hb := C.2.1
  have hl : lv_has ls 2 [(0, .ref h)] := hl
  refine lv_iconst (v := 0) hx hb dX0_fewestAskings_0 (by decide) ?_
  refine lv_istore_n (lv' := [(1, .int 0), (0, .ref h)]) hx hb dX0_fewestAskings_1 rfl hl (by decide) rfl (fun ls hl => ?_)
  refine lv_iload_n hx hb dX0_fewestAskings_2 rfl (lv_at hl 0 rfl) ?_
  refine lv_aload_n hx hb dX0_fewestAskings_3 rfl (lv_at hl 1 rfl) ?_
  refine q_get (v := .int 7) C hP 0 15 rfl rfl inX0 (by decide) kF_RX0_58 rfl rfl dX0_fewestAskings_4 ?_
  refine lv_icmp_gt (tgt := 35) hx hb dX0_fewestAskings_7 (by decide) (fun c_0 => absurd c_0 (by decide)) (fun _ => ?_)
  refine lv_aload_n hx hb dX0_fewestAskings_10 rfl (lv_at hl 1 rfl) ?_
  refine lv_iconst (v := 0) hx hb dX0_fewestAskings_11 (by decide) ?_
  refine lv_iload_n hx hb dX0_fewestAskings_12 rfl (lv_at hl 0 rfl) ?_
  refine q_ai (wr := []) (r_V (q0 := 0) (As := [.int 0, .int 0]) (rest := []) (wc := [(h, .inr (0, [.int 0, .int 0, .int (-1), .ref h0, .ref h1, .ref h2, .ref h3, .ref h4, .int 0, .ref h5, .int 0, .int 0, .int 10, .int 1, .int 0, .int 7])), (h0, .inl (cy 1, 8, .inl kr)), (h5, .inl (cy 1, 81, .inl (fun _ => 0)))]) C (q_subP hP [0, 1, 2] rfl) (hD.sub [0, 1, 2] (by decide) rfl) (c_keeps_7_0 l D cy h h0 h1 h2 h3 h4 h5 kr _ ) kwV_X0_keepsFrom kM_RX0_95 rfl rfl ⟨Nat.le_of_ble_eq_true rfl, Nat.le_of_ble_eq_true rfl⟩ rfl hl.1 rfl (Nat.le_of_ble_eq_true rfl) dX0_fewestAskings_13 ⟨Nat.le_of_ble_eq_true rfl, Nat.le_of_ble_eq_true rfl⟩) C.2.2.2.2.2.2.1 hP hD hS [0, 1, 2] [] rfl rfl (by decide) (by decide) (fun r_2 u_1 H locs hw_3 hP hD hS => ?_)
  have hP : va_P D vwCl [(h, .inr (0, [.int 0, .int 0, .int (-1), .ref h0, .ref h1, .ref h2, .ref h3, .ref h4, .int 0, .ref h5, .int 0, .int 0, .int 10, .int 1, .int 0, .int 7])), (h0, .inl (cy 1, 8, .inl u_1)), (h5, .inl (cy 1, 81, .inl (fun _ => 0)))] H := hP
  have hD : va_D A [(h, .inr (0, [.int 0, .int 0, .int (-1), .ref h0, .ref h1, .ref h2, .ref h3, .ref h4, .int 0, .ref h5, .int 0, .int 0, .int 10, .int 1, .int 0, .int 7])), (h0, .inl (cy 1, 8, .inl u_1)), (h5, .inl (cy 1, 81, .inl (fun _ => 0)))] := hD
  obtain rfl : r_2 = 1 := hw_3
  refine lv_if_eq (tgt := 29) hx hb dX0_fewestAskings_16 (by decide) (fun c_0 => absurd c_0 (by decide)) (fun _ => ?_)
  refine lv_aload_n hx hb dX0_fewestAskings_19 rfl (lv_at hl 1 rfl) ?_
  refine lv_aload_n hx hb dX0_fewestAskings_20 rfl (lv_at hl 1 rfl) ?_
  refine q_get (v := .int 7) C hP 0 15 rfl rfl inX0 (by decide) kF_RX0_58 rfl rfl dX0_fewestAskings_21 ?_
  refine q_put (v := .int 7) (w' := [(h, .inr (0, [.int 7, .int 0, .int (-1), .ref h0, .ref h1, .ref h2, .ref h3, .ref h4, .int 0, .ref h5, .int 0, .int 0, .int 10, .int 1, .int 0, .int 7])), (h0, .inl (cy 1, 8, .inl u_1)), (h5, .inl (cy 1, 81, .inl (fun _ => 0)))]) (ty := .int) C hP hD hS 0 0 rfl rfl inX0 tyX0 tyX0_ok nmX0 (by decide) kF_RX0_9 rfl rfl rfl rfl rfl (Nat.le_of_ble_eq_true rfl) rfl dX0_fewestAskings_24 (fun H locs hP hD hS => ?_)
  refine lv_iload_n hx hb dX0_fewestAskings_27 rfl (lv_at hl 0 rfl) ?_
  exact q_iret (rm := (Rm 8 208 0 0)) C hS () rfl rfl (q_subP hP [] rfl) (hD.sub [] (by decide) rfl) (Nat.le_of_ble_eq_true rfl) (Nat.le_of_ble_eq_true rfl) dX0_fewestAskings_28
set_option maxHeartbeats 4000000 in
set_option maxRecDepth 100000 in
theorem c_keeps_8_8 (l : Launch) (D : va_G) (cy : Nat → ClassId) (h : Nat) (h0 : Nat) (h1 : Nat) (h2 : Nat) (h3 : Nat) (h4 : Nat) (h5 : Nat) (kr : Nat → Int32) (sz : Nat)  : MI l yX0_keepsFrom cX0_keepsFrom 7 (some .boolean) (Rm 0 0 0 0) D cy [.ref h, .int 8, .int 0] sz [(h, .inr (0, [.int 0, .int 0, .int (-1), .ref h0, .ref h1, .ref h2, .ref h3, .ref h4, .int 0, .ref h5, .int 0, .int 0, .int 10, .int 1, .int 0, .int 8])), (h0, .inl (cy 1, 8, .inl kr)), (h5, .inl (cy 1, 81, .inl (fun _ => 0)))] (fun (r : Int32) (u : Nat → Int32) => r = 1) (fun u : Nat → Int32 => [(h, .inr (0, [.int 0, .int 0, .int (-1), .ref h0, .ref h1, .ref h2, .ref h3, .ref h4, .int 0, .ref h5, .int 0, .int 0, .int 10, .int 1, .int 0, .int 8])), (h0, .inl (cy 1, 8, .inl u)), (h5, .inl (cy 1, 81, .inl (fun _ => 0)))]) := by
  refine MI.enter (by decide) (Nat.le_of_ble_eq_true rfl) ?_
  intro p e s m below meth c ls A hsz hAe C hP hD hS hl
  have C : Cx p s m _ meth c cX0_keepsFrom 7 (some .boolean) RX0 "keepsFrom" D cy A := C
  have hx := C.1
  have hb := C.2.1
  have hl : lv_has ls 7 [(0, .ref h), (1, .int 8), (2, .int 0)] := hl
  refine lv_iload_n hx hb dX0_keepsFrom_0 rfl (lv_at hl 1 rfl) ?_
  refine lv_aload_n hx hb dX0_keepsFrom_1 rfl (lv_at hl 0 rfl) ?_
  refine q_get (v := .int 8) C hP 0 15 rfl rfl inX0 (by decide) kF_RX0_58 rfl rfl dX0_keepsFrom_2 ?_
  refine lv_icmp_lt (tgt := 10) hx hb dX0_keepsFrom_5 (by decide) (fun c_0 => absurd c_0 (by decide)) (fun _ => ?_)
  refine lv_iconst (v := 1) hx hb dX0_keepsFrom_8 (by decide) ?_
  exact q_iret (rm := (Rm 0 0 0 0)) C hS (kr) rfl rfl (q_subP hP [0, 1, 2] rfl) (hD.sub [0, 1, 2] (by decide) rfl) (Nat.le_of_ble_eq_true rfl) (Nat.le_of_ble_eq_true rfl) dX0_keepsFrom_9
set_option maxHeartbeats 4000000 in
set_option maxRecDepth 100000 in
theorem c_keeps_8_7 (l : Launch) (D : va_G) (cy : Nat → ClassId) (h : Nat) (h0 : Nat) (h1 : Nat) (h2 : Nat) (h3 : Nat) (h4 : Nat) (h5 : Nat) (kr : Nat → Int32) (sz : Nat)  : MI l yX0_keepsFrom cX0_keepsFrom 7 (some .boolean) (Rm 1 26 0 0) D cy [.ref h, .int 7, .int 0] sz [(h, .inr (0, [.int 0, .int 0, .int (-1), .ref h0, .ref h1, .ref h2, .ref h3, .ref h4, .int 0, .ref h5, .int 0, .int 0, .int 10, .int 1, .int 0, .int 8])), (h0, .inl (cy 1, 8, .inl kr)), (h5, .inl (cy 1, 81, .inl (fun _ => 0)))] (fun (r : Int32) (u : Nat → Int32) => r = 1) (fun u : Nat → Int32 => [(h, .inr (0, [.int 0, .int 0, .int (-1), .ref h0, .ref h1, .ref h2, .ref h3, .ref h4, .int 0, .ref h5, .int 0, .int 0, .int 10, .int 1, .int 0, .int 8])), (h0, .inl (cy 1, 8, .inl u)), (h5, .inl (cy 1, 81, .inl (fun _ => 0)))]) := by
  refine MI.enter (by decide) (Nat.le_of_ble_eq_true rfl) ?_
  intro p e s m below meth c ls A hsz hAe C hP hD hS hl
  have C : Cx p s m _ meth c cX0_keepsFrom 7 (some .boolean) RX0 "keepsFrom" D cy A := C
  have hx := C.1
  have hb := C.2.1
  have hl : lv_has ls 7 [(0, .ref h), (1, .int 7), (2, .int 0)] := hl
  refine lv_iload_n hx hb dX0_keepsFrom_0 rfl (lv_at hl 1 rfl) ?_
  refine lv_aload_n hx hb dX0_keepsFrom_1 rfl (lv_at hl 0 rfl) ?_
  refine q_get (v := .int 8) C hP 0 15 rfl rfl inX0 (by decide) kF_RX0_58 rfl rfl dX0_keepsFrom_2 ?_
  refine lv_icmp_lt (tgt := 10) hx hb dX0_keepsFrom_5 (by decide) (fun _ => ?_) (fun c_0 => absurd (by decide) c_0)
  refine lv_aload_n hx hb dX0_keepsFrom_10 rfl (lv_at hl 0 rfl) ?_
  refine lv_iload_n hx hb dX0_keepsFrom_11 rfl (lv_at hl 1 rfl) ?_
  refine q_ai (wr := [(h0, .inl (cy 1, 8, .inl kr)), (h5, .inl (cy 1, 81, .inl (fun _ => 0)))]) (r_V (q0 := 0) (As := [.int 7]) (rest := []) (wc := [(h, .inr (0, [.int 0, .int 0, .int (-1), .ref h0, .ref h1, .ref h2, .ref h3, .ref h4, .int 0, .ref h5, .int 0, .int 0, .int 10, .int 1, .int 0, .int 8]))]) C (q_subP hP [0] rfl) (hD.sub [0] (by decide) rfl) (c_askNeeded l D cy h 7 h0 h1 h2 h3 h4 h5 8 _ ) kwV_X0_askingsNeeded kM_RX0_98 rfl rfl ⟨Nat.le_of_ble_eq_true rfl, Nat.le_of_ble_eq_true rfl⟩ rfl hl.1 rfl (Nat.le_of_ble_eq_true rfl) dX0_keepsFrom_12 ⟨Nat.le_of_ble_eq_true rfl, Nat.le_of_ble_eq_true rfl⟩) C.2.2.2.2.2.2.1 hP hD hS [0] [1, 2] rfl rfl (by decide) (by decide) (fun r_2 u_1 H locs hw_3 hP hD hS => ?_)
  have hP : va_P D vwCl [(h0, .inl (cy 1, 8, .inl kr)), (h5, .inl (cy 1, 81, .inl (fun _ => 0))), (h, .inr (0, [.int 0, .int 0, .int (-1), .ref h0, .ref h1, .ref h2, .ref h3, .ref h4, .int 0, .ref h5, .int 0, .int 0, .int 10, .int 1, .int 0, .int 8]))] H := hP
  have hD : va_D A [(h0, .inl (cy 1, 8, .inl kr)), (h5, .inl (cy 1, 81, .inl (fun _ => 0))), (h, .inr (0, [.int 0, .int 0, .int (-1), .ref h0, .ref h1, .ref h2, .ref h3, .ref h4, .int 0, .ref h5, .int 0, .int 0, .int 10, .int 1, .int 0, .int 8]))] := hD
  obtain rfl : r_2 = 0 := hw_3
  refine lv_iload_n hx hb dX0_keepsFrom_15 rfl (lv_at hl 2 rfl) ?_
  refine lv_icmp_le (tgt := 21) hx hb dX0_keepsFrom_16 (by decide) (fun _ => ?_) (fun c_0 => absurd (by decide) c_0)
  refine lv_aload_n hx hb dX0_keepsFrom_21 rfl (lv_at hl 0 rfl) ?_
  refine lv_iload_n hx hb dX0_keepsFrom_22 rfl (lv_at hl 1 rfl) ?_
  refine q_av (wr := [(h0, .inl (cy 1, 8, .inl kr)), (h5, .inl (cy 1, 81, .inl (fun _ => 0)))]) (r_V (q0 := 0) (As := [.int 7]) (rest := []) (wc := [(h, .inr (0, [.int 0, .int 0, .int (-1), .ref h0, .ref h1, .ref h2, .ref h3, .ref h4, .int 0, .ref h5, .int 0, .int 0, .int 10, .int 1, .int 0, .int 8]))]) C (q_subP hP [2] rfl) (hD.sub [2] (by decide) rfl) (c_passDay l D cy h 7 h0 h1 h2 h3 h4 h5 8 _ ) kwV_X0_passDay kM_RX0_102 rfl rfl ⟨Nat.le_of_ble_eq_true rfl, Nat.le_of_ble_eq_true rfl⟩ rfl hl.1 rfl (Nat.le_of_ble_eq_true rfl) dX0_keepsFrom_23 ⟨Nat.le_of_ble_eq_true rfl, Nat.le_of_ble_eq_true rfl⟩) C.2.2.2.2.2.2.1 hP hD hS [2] [0, 1] rfl rfl (by decide) (by decide) (fun u_4 H locs hw_6 hP hD hS => ?_)
  have hP : va_P D vwCl [(h0, .inl (cy 1, 8, .inl kr)), (h5, .inl (cy 1, 81, .inl (fun _ => 0))), (h, .inr (0, [.int 0, .int 0, .int (-1), .ref h0, .ref h1, .ref h2, .ref h3, .ref h4, .int 0, .ref h5, .int 0, .int 0, .int 10, .int 1, .int 0, .int 8]))] H := hP
  have hD : va_D A [(h0, .inl (cy 1, 8, .inl kr)), (h5, .inl (cy 1, 81, .inl (fun _ => 0))), (h, .inr (0, [.int 0, .int 0, .int (-1), .ref h0, .ref h1, .ref h2, .ref h3, .ref h4, .int 0, .ref h5, .int 0, .int 0, .int 10, .int 1, .int 0, .int 8]))] := hD
  refine lv_iconst (v := 0) hx hb dX0_keepsFrom_26 (by decide) ?_
  refine lv_istore_n (lv' := [(3, .int 0), (0, .ref h), (1, .int 7), (2, .int 0)]) hx hb dX0_keepsFrom_27 rfl hl (by decide) rfl (fun ls hl => ?_)
  refine lv_iload_n hx hb dX0_keepsFrom_28 rfl (lv_at hl 0 rfl) ?_
  refine lv_aload_n hx hb dX0_keepsFrom_29 rfl (lv_at hl 1 rfl) ?_
  refine q_get (v := .int 0) C hP 2 10 rfl rfl inX0 (by decide) kF_RX0_43 rfl rfl dX0_keepsFrom_30 ?_
  refine lv_icmp_gt (tgt := 170) hx hb dX0_keepsFrom_33 (by decide) (fun c_0 => absurd c_0 (by decide)) (fun _ => ?_)
  refine lv_iload_n hx hb dX0_keepsFrom_36 rfl (lv_at hl 0 rfl) ?_
  refine lv_aload_n hx hb dX0_keepsFrom_37 rfl (lv_at hl 1 rfl) ?_
  refine q_get (v := .int 0) C hP 2 10 rfl rfl inX0 (by decide) kF_RX0_43 rfl rfl dX0_keepsFrom_38 ?_
  refine lv_icmp_ge (tgt := 48) hx hb dX0_keepsFrom_41 (by decide) (fun _ => ?_) (fun c_0 => absurd (by decide) c_0)
  refine lv_iconst (v := 0) hx hb dX0_keepsFrom_48 (by decide) ?_
  refine lv_istore (lv' := [(4, .int 0), (3, .int 0), (0, .ref h), (1, .int 7), (2, .int 0)]) hx hb dX0_keepsFrom_49 hl (by decide) rfl (fun ls hl => ?_)
  refine lv_iload hx hb dX0_keepsFrom_51 (lv_at hl 0 rfl) ?_
  refine lv_if_eq (tgt := 83) hx hb dX0_keepsFrom_53 (by decide) (fun _ => ?_) (fun c_0 => absurd (by decide) c_0)
  refine lv_iload_n hx hb dX0_keepsFrom_83 rfl (lv_at hl 3 rfl) ?_
  refine lv_iconst (v := 1) hx hb dX0_keepsFrom_84 (by decide) ?_
  refine lv_iadd hx hb dX0_keepsFrom_85 ?_
  refine q_val (v := 8) (by decide) ?_
  refine lv_bipush (v := 9) hx hb dX0_keepsFrom_86 (by decide) ?_
  refine lv_imul hx hb dX0_keepsFrom_88 ?_
  refine q_val (v := 72) (by decide) ?_
  refine lv_iload_n hx hb dX0_keepsFrom_89 rfl (lv_at hl 1 rfl) ?_
  refine lv_iadd hx hb dX0_keepsFrom_90 ?_
  refine q_val (v := 72) (by decide) ?_
  refine lv_istore (lv' := [(5, .int 72), (4, .int 0), (3, .int 0), (0, .ref h), (1, .int 7), (2, .int 0)]) hx hb dX0_keepsFrom_91 hl (by decide) rfl (fun ls hl => ?_)
  refine lv_aload_n hx hb dX0_keepsFrom_93 rfl (lv_at hl 3 rfl) ?_
  refine q_get (v := .ref h5) C hP 2 9 rfl rfl inX0 (by decide) kF_RX0_40 rfl rfl dX0_keepsFrom_94 ?_
  refine lv_iload hx hb dX0_keepsFrom_97 (lv_at hl 0 rfl) ?_
  refine q_iald (v := 0) C hP 1 rfl (vin (by decide +kernel)) rfl dX0_keepsFrom_99 ?_
  refine lv_istore (lv' := [(6, .int 0), (5, .int 72), (4, .int 0), (3, .int 0), (0, .ref h), (1, .int 7), (2, .int 0)]) hx hb dX0_keepsFrom_100 hl (by decide) rfl (fun ls hl => ?_)
  refine lv_aload_n hx hb dX0_keepsFrom_102 rfl (lv_at hl 4 rfl) ?_
  refine q_get (v := .ref h5) C hP 2 9 rfl rfl inX0 (by decide) kF_RX0_40 rfl rfl dX0_keepsFrom_103 ?_
  refine lv_iload hx hb dX0_keepsFrom_106 (lv_at hl 1 rfl) ?_
  refine lv_iconst (v := 0) hx hb dX0_keepsFrom_108 (by decide) ?_
  refine q_iast (g := fun _ => 0) (w' := [(h0, .inl (cy 1, 8, .inl kr)), (h5, .inl (cy 1, 81, .inl (fun _ => 0))), (h, .inr (0, [.int 0, .int 0, .int (-1), .ref h0, .ref h1, .ref h2, .ref h3, .ref h4, .int 0, .ref h5, .int 0, .int 0, .int 10, .int 1, .int 0, .int 8]))]) C hP hD hS 1 rfl (vin (by decide +kernel)) (updz _) rfl dX0_keepsFrom_109 (fun H locs hP hD hS => ?_)
  refine lv_aload_n hx hb dX0_keepsFrom_110 rfl (lv_at hl 4 rfl) ?_
  refine lv_iload_n hx hb dX0_keepsFrom_111 rfl (lv_at hl 5 rfl) ?_
  refine lv_iconst (v := 1) hx hb dX0_keepsFrom_112 (by decide) ?_
  refine lv_iadd hx hb dX0_keepsFrom_113 ?_
  refine q_val (v := 8) (by decide) ?_
  refine q_ai (wr := [(h0, .inl (cy 1, 8, .inl kr)), (h5, .inl (cy 1, 81, .inl (fun _ => 0)))]) (r_V (q0 := 0) (As := [.int 8]) (rest := []) (wc := [(h, .inr (0, [.int 0, .int 0, .int (-1), .ref h0, .ref h1, .ref h2, .ref h3, .ref h4, .int 0, .ref h5, .int 0, .int 0, .int 10, .int 1, .int 0, .int 8]))]) C (q_subP hP [2] rfl) (hD.sub [2] (by decide) rfl) (c_rareDoubt l D cy h 8 h0 h1 h2 h3 h4 h5 8 _ ) kwV_X0_areRareInDoubt kM_RX0_106 rfl rfl ⟨Nat.le_of_ble_eq_true rfl, Nat.le_of_ble_eq_true rfl⟩ rfl hl.1 rfl (Nat.le_of_ble_eq_true rfl) dX0_keepsFrom_114 ⟨Nat.le_of_ble_eq_true rfl, Nat.le_of_ble_eq_true rfl⟩) C.2.2.2.2.2.2.1 hP hD hS [2] [0, 1] rfl rfl (by decide) (by decide) (fun r_8 u_7 H locs hw_9 hP hD hS => ?_)
  have hP : va_P D vwCl [(h0, .inl (cy 1, 8, .inl kr)), (h5, .inl (cy 1, 81, .inl (fun _ => 0))), (h, .inr (0, [.int 0, .int 0, .int (-1), .ref h0, .ref h1, .ref h2, .ref h3, .ref h4, .int 0, .ref h5, .int 0, .int 0, .int 10, .int 1, .int 0, .int 8]))] H := hP
  have hD : va_D A [(h0, .inl (cy 1, 8, .inl kr)), (h5, .inl (cy 1, 81, .inl (fun _ => 0))), (h, .inr (0, [.int 0, .int 0, .int (-1), .ref h0, .ref h1, .ref h2, .ref h3, .ref h4, .int 0, .ref h5, .int 0, .int 0, .int 10, .int 1, .int 0, .int 8]))] := hD
  obtain rfl : r_8 = 1 := hw_9
  refine lv_if_eq (tgt := 155) hx hb dX0_keepsFrom_117 (by decide) (fun c_0 => absurd c_0 (by decide)) (fun _ => ?_)
  refine lv_aload_n hx hb dX0_keepsFrom_120 rfl (lv_at hl 4 rfl) ?_
  refine lv_iload_n hx hb dX0_keepsFrom_121 rfl (lv_at hl 5 rfl) ?_
  refine lv_iconst (v := 1) hx hb dX0_keepsFrom_122 (by decide) ?_
  refine lv_iadd hx hb dX0_keepsFrom_123 ?_
  refine q_val (v := 8) (by decide) ?_
  refine lv_iload hx hb dX0_keepsFrom_124 (lv_at hl 2 rfl) ?_
  refine lv_if_eq (tgt := 135) hx hb dX0_keepsFrom_126 (by decide) (fun _ => ?_) (fun c_0 => absurd (by decide) c_0)
  refine lv_iload_n hx hb dX0_keepsFrom_135 rfl (lv_at hl 6 rfl) ?_
  refine q_ai (wr := []) (r_V (q0 := 0) (As := [.int 8, .int 0]) (rest := []) (wc := [(h, .inr (0, [.int 0, .int 0, .int (-1), .ref h0, .ref h1, .ref h2, .ref h3, .ref h4, .int 0, .ref h5, .int 0, .int 0, .int 10, .int 1, .int 0, .int 8])), (h0, .inl (cy 1, 8, .inl kr)), (h5, .inl (cy 1, 81, .inl (fun _ => 0)))]) C (q_subP hP [2, 0, 1] rfl) (hD.sub [2, 0, 1] (by decide) rfl) (c_keeps_8_8 l D cy h h0 h1 h2 h3 h4 h5 kr _ ) kwV_X0_keepsFrom kM_RX0_95 rfl rfl ⟨Nat.le_of_ble_eq_true rfl, Nat.le_of_ble_eq_true rfl⟩ rfl hl.1 rfl (Nat.le_of_ble_eq_true rfl) dX0_keepsFrom_136 ⟨Nat.le_of_ble_eq_true rfl, Nat.le_of_ble_eq_true rfl⟩) C.2.2.2.2.2.2.1 hP hD hS [2, 0, 1] [] rfl rfl (by decide) (by decide) (fun r_11 u_10 H locs hw_12 hP hD hS => ?_)
  have hP : va_P D vwCl [(h, .inr (0, [.int 0, .int 0, .int (-1), .ref h0, .ref h1, .ref h2, .ref h3, .ref h4, .int 0, .ref h5, .int 0, .int 0, .int 10, .int 1, .int 0, .int 8])), (h0, .inl (cy 1, 8, .inl u_10)), (h5, .inl (cy 1, 81, .inl (fun _ => 0)))] H := hP
  have hD : va_D A [(h, .inr (0, [.int 0, .int 0, .int (-1), .ref h0, .ref h1, .ref h2, .ref h3, .ref h4, .int 0, .ref h5, .int 0, .int 0, .int 10, .int 1, .int 0, .int 8])), (h0, .inl (cy 1, 8, .inl u_10)), (h5, .inl (cy 1, 81, .inl (fun _ => 0)))] := hD
  obtain rfl : r_11 = 1 := hw_12
  refine lv_if_eq (tgt := 155) hx hb dX0_keepsFrom_139 (by decide) (fun c_0 => absurd c_0 (by decide)) (fun _ => ?_)
  refine lv_aload_n hx hb dX0_keepsFrom_142 rfl (lv_at hl 4 rfl) ?_
  refine q_get (v := .ref h0) C hP 0 3 rfl rfl inX0 (by decide) kF_RX0_21 rfl rfl dX0_keepsFrom_143 ?_
  refine lv_iload_n hx hb dX0_keepsFrom_146 rfl (lv_at hl 5 rfl) ?_
  refine lv_aload_n hx hb dX0_keepsFrom_147 rfl (lv_at hl 4 rfl) ?_
  refine lv_iload_n hx hb dX0_keepsFrom_148 rfl (lv_at hl 3 rfl) ?_
  refine q_ai (wr := [(h0, .inl (cy 1, 8, .inl u_10)), (h5, .inl (cy 1, 81, .inl (fun _ => 0)))]) (r_V (q0 := 0) (As := [.int 0]) (rest := [.int 7, .ref h0]) (wc := [(h, .inr (0, [.int 0, .int 0, .int (-1), .ref h0, .ref h1, .ref h2, .ref h3, .ref h4, .int 0, .ref h5, .int 0, .int 0, .int 10, .int 1, .int 0, .int 8]))]) C (q_subP hP [0] rfl) (hD.sub [0] (by decide) rfl) (c_bookChosen l D cy h h0 h1 h2 h3 h4 h5 8 _ ) kwV_X0_bookChosen kM_RX0_110 rfl rfl ⟨Nat.le_of_ble_eq_true rfl, Nat.le_of_ble_eq_true rfl⟩ rfl hl.1 rfl (Nat.le_of_ble_eq_true rfl) dX0_keepsFrom_149 ⟨Nat.le_of_ble_eq_true rfl, Nat.le_of_ble_eq_true rfl⟩) C.2.2.2.2.2.2.1 hP hD hS [0] [1, 2] rfl rfl (by decide) (by decide) (fun r_14 u_13 H locs hw_15 hP hD hS => ?_)
  have hP : va_P D vwCl [(h0, .inl (cy 1, 8, .inl u_10)), (h5, .inl (cy 1, 81, .inl (fun _ => 0))), (h, .inr (0, [.int 0, .int 0, .int (-1), .ref h0, .ref h1, .ref h2, .ref h3, .ref h4, .int 0, .ref h5, .int 0, .int 0, .int 10, .int 1, .int 0, .int 8]))] H := hP
  have hD : va_D A [(h0, .inl (cy 1, 8, .inl u_10)), (h5, .inl (cy 1, 81, .inl (fun _ => 0))), (h, .inr (0, [.int 0, .int 0, .int (-1), .ref h0, .ref h1, .ref h2, .ref h3, .ref h4, .int 0, .ref h5, .int 0, .int 0, .int 10, .int 1, .int 0, .int 8]))] := hD
  obtain rfl : r_14 = (-1) := hw_15
  refine q_iast (g := upd u_10 7 (-1)) (w' := [(h0, .inl (cy 1, 8, .inl (upd u_10 7 (-1)))), (h5, .inl (cy 1, 81, .inl (fun _ => 0))), (h, .inr (0, [.int 0, .int 0, .int (-1), .ref h0, .ref h1, .ref h2, .ref h3, .ref h4, .int 0, .ref h5, .int 0, .int 0, .int 10, .int 1, .int 0, .int 8]))]) C hP hD hS 0 rfl (vin (by decide +kernel)) rfl rfl dX0_keepsFrom_152 (fun H locs hP hD hS => ?_)
  refine lv_iconst (v := 1) hx hb dX0_keepsFrom_153 (by decide) ?_
  exact q_iret (rm := (Rm 1 26 0 0)) C hS (upd u_10 7 (-1)) rfl rfl (q_subP hP [2, 0, 1] rfl) (hD.sub [2, 0, 1] (by decide) rfl) (Nat.le_of_ble_eq_true rfl) (Nat.le_of_ble_eq_true rfl) dX0_keepsFrom_154
set_option maxHeartbeats 4000000 in
set_option maxRecDepth 100000 in
theorem c_keeps_8_6 (l : Launch) (D : va_G) (cy : Nat → ClassId) (h : Nat) (h0 : Nat) (h1 : Nat) (h2 : Nat) (h3 : Nat) (h4 : Nat) (h5 : Nat) (kr : Nat → Int32) (sz : Nat)  : MI l yX0_keepsFrom cX0_keepsFrom 7 (some .boolean) (Rm 2 52 0 0) D cy [.ref h, .int 6, .int 0] sz [(h, .inr (0, [.int 0, .int 0, .int (-1), .ref h0, .ref h1, .ref h2, .ref h3, .ref h4, .int 0, .ref h5, .int 0, .int 0, .int 10, .int 1, .int 0, .int 8])), (h0, .inl (cy 1, 8, .inl kr)), (h5, .inl (cy 1, 81, .inl (fun _ => 0)))] (fun (r : Int32) (u : Nat → Int32) => r = 1) (fun u : Nat → Int32 => [(h, .inr (0, [.int 0, .int 0, .int (-1), .ref h0, .ref h1, .ref h2, .ref h3, .ref h4, .int 0, .ref h5, .int 0, .int 0, .int 10, .int 1, .int 0, .int 8])), (h0, .inl (cy 1, 8, .inl u)), (h5, .inl (cy 1, 81, .inl (fun _ => 0)))]) := by
  refine MI.enter (by decide) (Nat.le_of_ble_eq_true rfl) ?_
  intro p e s m below meth c ls A hsz hAe C hP hD hS hl
  have C : Cx p s m _ meth c cX0_keepsFrom 7 (some .boolean) RX0 "keepsFrom" D cy A := C
  have hx := C.1
  have hb := C.2.1
  have hl : lv_has ls 7 [(0, .ref h), (1, .int 6), (2, .int 0)] := hl
  refine lv_iload_n hx hb dX0_keepsFrom_0 rfl (lv_at hl 1 rfl) ?_
  refine lv_aload_n hx hb dX0_keepsFrom_1 rfl (lv_at hl 0 rfl) ?_
  refine q_get (v := .int 8) C hP 0 15 rfl rfl inX0 (by decide) kF_RX0_58 rfl rfl dX0_keepsFrom_2 ?_
  refine lv_icmp_lt (tgt := 10) hx hb dX0_keepsFrom_5 (by decide) (fun _ => ?_) (fun c_0 => absurd (by decide) c_0)
  refine lv_aload_n hx hb dX0_keepsFrom_10 rfl (lv_at hl 0 rfl) ?_
  refine lv_iload_n hx hb dX0_keepsFrom_11 rfl (lv_at hl 1 rfl) ?_
  refine q_ai (wr := [(h0, .inl (cy 1, 8, .inl kr)), (h5, .inl (cy 1, 81, .inl (fun _ => 0)))]) (r_V (q0 := 0) (As := [.int 6]) (rest := []) (wc := [(h, .inr (0, [.int 0, .int 0, .int (-1), .ref h0, .ref h1, .ref h2, .ref h3, .ref h4, .int 0, .ref h5, .int 0, .int 0, .int 10, .int 1, .int 0, .int 8]))]) C (q_subP hP [0] rfl) (hD.sub [0] (by decide) rfl) (c_askNeeded l D cy h 6 h0 h1 h2 h3 h4 h5 8 _ ) kwV_X0_askingsNeeded kM_RX0_98 rfl rfl ⟨Nat.le_of_ble_eq_true rfl, Nat.le_of_ble_eq_true rfl⟩ rfl hl.1 rfl (Nat.le_of_ble_eq_true rfl) dX0_keepsFrom_12 ⟨Nat.le_of_ble_eq_true rfl, Nat.le_of_ble_eq_true rfl⟩) C.2.2.2.2.2.2.1 hP hD hS [0] [1, 2] rfl rfl (by decide) (by decide) (fun r_2 u_1 H locs hw_3 hP hD hS => ?_)
  have hP : va_P D vwCl [(h0, .inl (cy 1, 8, .inl kr)), (h5, .inl (cy 1, 81, .inl (fun _ => 0))), (h, .inr (0, [.int 0, .int 0, .int (-1), .ref h0, .ref h1, .ref h2, .ref h3, .ref h4, .int 0, .ref h5, .int 0, .int 0, .int 10, .int 1, .int 0, .int 8]))] H := hP
  have hD : va_D A [(h0, .inl (cy 1, 8, .inl kr)), (h5, .inl (cy 1, 81, .inl (fun _ => 0))), (h, .inr (0, [.int 0, .int 0, .int (-1), .ref h0, .ref h1, .ref h2, .ref h3, .ref h4, .int 0, .ref h5, .int 0, .int 0, .int 10, .int 1, .int 0, .int 8]))] := hD
  obtain rfl : r_2 = 0 := hw_3
  refine lv_iload_n hx hb dX0_keepsFrom_15 rfl (lv_at hl 2 rfl) ?_
  refine lv_icmp_le (tgt := 21) hx hb dX0_keepsFrom_16 (by decide) (fun _ => ?_) (fun c_0 => absurd (by decide) c_0)
  refine lv_aload_n hx hb dX0_keepsFrom_21 rfl (lv_at hl 0 rfl) ?_
  refine lv_iload_n hx hb dX0_keepsFrom_22 rfl (lv_at hl 1 rfl) ?_
  refine q_av (wr := [(h0, .inl (cy 1, 8, .inl kr)), (h5, .inl (cy 1, 81, .inl (fun _ => 0)))]) (r_V (q0 := 0) (As := [.int 6]) (rest := []) (wc := [(h, .inr (0, [.int 0, .int 0, .int (-1), .ref h0, .ref h1, .ref h2, .ref h3, .ref h4, .int 0, .ref h5, .int 0, .int 0, .int 10, .int 1, .int 0, .int 8]))]) C (q_subP hP [2] rfl) (hD.sub [2] (by decide) rfl) (c_passDay l D cy h 6 h0 h1 h2 h3 h4 h5 8 _ ) kwV_X0_passDay kM_RX0_102 rfl rfl ⟨Nat.le_of_ble_eq_true rfl, Nat.le_of_ble_eq_true rfl⟩ rfl hl.1 rfl (Nat.le_of_ble_eq_true rfl) dX0_keepsFrom_23 ⟨Nat.le_of_ble_eq_true rfl, Nat.le_of_ble_eq_true rfl⟩) C.2.2.2.2.2.2.1 hP hD hS [2] [0, 1] rfl rfl (by decide) (by decide) (fun u_4 H locs hw_6 hP hD hS => ?_)
  have hP : va_P D vwCl [(h0, .inl (cy 1, 8, .inl kr)), (h5, .inl (cy 1, 81, .inl (fun _ => 0))), (h, .inr (0, [.int 0, .int 0, .int (-1), .ref h0, .ref h1, .ref h2, .ref h3, .ref h4, .int 0, .ref h5, .int 0, .int 0, .int 10, .int 1, .int 0, .int 8]))] H := hP
  have hD : va_D A [(h0, .inl (cy 1, 8, .inl kr)), (h5, .inl (cy 1, 81, .inl (fun _ => 0))), (h, .inr (0, [.int 0, .int 0, .int (-1), .ref h0, .ref h1, .ref h2, .ref h3, .ref h4, .int 0, .ref h5, .int 0, .int 0, .int 10, .int 1, .int 0, .int 8]))] := hD
  refine lv_iconst (v := 0) hx hb dX0_keepsFrom_26 (by decide) ?_
  refine lv_istore_n (lv' := [(3, .int 0), (0, .ref h), (1, .int 6), (2, .int 0)]) hx hb dX0_keepsFrom_27 rfl hl (by decide) rfl (fun ls hl => ?_)
  refine lv_iload_n hx hb dX0_keepsFrom_28 rfl (lv_at hl 0 rfl) ?_
  refine lv_aload_n hx hb dX0_keepsFrom_29 rfl (lv_at hl 1 rfl) ?_
  refine q_get (v := .int 0) C hP 2 10 rfl rfl inX0 (by decide) kF_RX0_43 rfl rfl dX0_keepsFrom_30 ?_
  refine lv_icmp_gt (tgt := 170) hx hb dX0_keepsFrom_33 (by decide) (fun c_0 => absurd c_0 (by decide)) (fun _ => ?_)
  refine lv_iload_n hx hb dX0_keepsFrom_36 rfl (lv_at hl 0 rfl) ?_
  refine lv_aload_n hx hb dX0_keepsFrom_37 rfl (lv_at hl 1 rfl) ?_
  refine q_get (v := .int 0) C hP 2 10 rfl rfl inX0 (by decide) kF_RX0_43 rfl rfl dX0_keepsFrom_38 ?_
  refine lv_icmp_ge (tgt := 48) hx hb dX0_keepsFrom_41 (by decide) (fun _ => ?_) (fun c_0 => absurd (by decide) c_0)
  refine lv_iconst (v := 0) hx hb dX0_keepsFrom_48 (by decide) ?_
  refine lv_istore (lv' := [(4, .int 0), (3, .int 0), (0, .ref h), (1, .int 6), (2, .int 0)]) hx hb dX0_keepsFrom_49 hl (by decide) rfl (fun ls hl => ?_)
  refine lv_iload hx hb dX0_keepsFrom_51 (lv_at hl 0 rfl) ?_
  refine lv_if_eq (tgt := 83) hx hb dX0_keepsFrom_53 (by decide) (fun _ => ?_) (fun c_0 => absurd (by decide) c_0)
  refine lv_iload_n hx hb dX0_keepsFrom_83 rfl (lv_at hl 3 rfl) ?_
  refine lv_iconst (v := 1) hx hb dX0_keepsFrom_84 (by decide) ?_
  refine lv_iadd hx hb dX0_keepsFrom_85 ?_
  refine q_val (v := 7) (by decide) ?_
  refine lv_bipush (v := 9) hx hb dX0_keepsFrom_86 (by decide) ?_
  refine lv_imul hx hb dX0_keepsFrom_88 ?_
  refine q_val (v := 63) (by decide) ?_
  refine lv_iload_n hx hb dX0_keepsFrom_89 rfl (lv_at hl 1 rfl) ?_
  refine lv_iadd hx hb dX0_keepsFrom_90 ?_
  refine q_val (v := 63) (by decide) ?_
  refine lv_istore (lv' := [(5, .int 63), (4, .int 0), (3, .int 0), (0, .ref h), (1, .int 6), (2, .int 0)]) hx hb dX0_keepsFrom_91 hl (by decide) rfl (fun ls hl => ?_)
  refine lv_aload_n hx hb dX0_keepsFrom_93 rfl (lv_at hl 3 rfl) ?_
  refine q_get (v := .ref h5) C hP 2 9 rfl rfl inX0 (by decide) kF_RX0_40 rfl rfl dX0_keepsFrom_94 ?_
  refine lv_iload hx hb dX0_keepsFrom_97 (lv_at hl 0 rfl) ?_
  refine q_iald (v := 0) C hP 1 rfl (vin (by decide +kernel)) rfl dX0_keepsFrom_99 ?_
  refine lv_istore (lv' := [(6, .int 0), (5, .int 63), (4, .int 0), (3, .int 0), (0, .ref h), (1, .int 6), (2, .int 0)]) hx hb dX0_keepsFrom_100 hl (by decide) rfl (fun ls hl => ?_)
  refine lv_aload_n hx hb dX0_keepsFrom_102 rfl (lv_at hl 4 rfl) ?_
  refine q_get (v := .ref h5) C hP 2 9 rfl rfl inX0 (by decide) kF_RX0_40 rfl rfl dX0_keepsFrom_103 ?_
  refine lv_iload hx hb dX0_keepsFrom_106 (lv_at hl 1 rfl) ?_
  refine lv_iconst (v := 0) hx hb dX0_keepsFrom_108 (by decide) ?_
  refine q_iast (g := fun _ => 0) (w' := [(h0, .inl (cy 1, 8, .inl kr)), (h5, .inl (cy 1, 81, .inl (fun _ => 0))), (h, .inr (0, [.int 0, .int 0, .int (-1), .ref h0, .ref h1, .ref h2, .ref h3, .ref h4, .int 0, .ref h5, .int 0, .int 0, .int 10, .int 1, .int 0, .int 8]))]) C hP hD hS 1 rfl (vin (by decide +kernel)) (updz _) rfl dX0_keepsFrom_109 (fun H locs hP hD hS => ?_)
  refine lv_aload_n hx hb dX0_keepsFrom_110 rfl (lv_at hl 4 rfl) ?_
  refine lv_iload_n hx hb dX0_keepsFrom_111 rfl (lv_at hl 5 rfl) ?_
  refine lv_iconst (v := 1) hx hb dX0_keepsFrom_112 (by decide) ?_
  refine lv_iadd hx hb dX0_keepsFrom_113 ?_
  refine q_val (v := 7) (by decide) ?_
  refine q_ai (wr := [(h0, .inl (cy 1, 8, .inl kr)), (h5, .inl (cy 1, 81, .inl (fun _ => 0)))]) (r_V (q0 := 0) (As := [.int 7]) (rest := []) (wc := [(h, .inr (0, [.int 0, .int 0, .int (-1), .ref h0, .ref h1, .ref h2, .ref h3, .ref h4, .int 0, .ref h5, .int 0, .int 0, .int 10, .int 1, .int 0, .int 8]))]) C (q_subP hP [2] rfl) (hD.sub [2] (by decide) rfl) (c_rareDoubt l D cy h 7 h0 h1 h2 h3 h4 h5 8 _ ) kwV_X0_areRareInDoubt kM_RX0_106 rfl rfl ⟨Nat.le_of_ble_eq_true rfl, Nat.le_of_ble_eq_true rfl⟩ rfl hl.1 rfl (Nat.le_of_ble_eq_true rfl) dX0_keepsFrom_114 ⟨Nat.le_of_ble_eq_true rfl, Nat.le_of_ble_eq_true rfl⟩) C.2.2.2.2.2.2.1 hP hD hS [2] [0, 1] rfl rfl (by decide) (by decide) (fun r_8 u_7 H locs hw_9 hP hD hS => ?_)
  have hP : va_P D vwCl [(h0, .inl (cy 1, 8, .inl kr)), (h5, .inl (cy 1, 81, .inl (fun _ => 0))), (h, .inr (0, [.int 0, .int 0, .int (-1), .ref h0, .ref h1, .ref h2, .ref h3, .ref h4, .int 0, .ref h5, .int 0, .int 0, .int 10, .int 1, .int 0, .int 8]))] H := hP
  have hD : va_D A [(h0, .inl (cy 1, 8, .inl kr)), (h5, .inl (cy 1, 81, .inl (fun _ => 0))), (h, .inr (0, [.int 0, .int 0, .int (-1), .ref h0, .ref h1, .ref h2, .ref h3, .ref h4, .int 0, .ref h5, .int 0, .int 0, .int 10, .int 1, .int 0, .int 8]))] := hD
  obtain rfl : r_8 = 1 := hw_9
  refine lv_if_eq (tgt := 155) hx hb dX0_keepsFrom_117 (by decide) (fun c_0 => absurd c_0 (by decide)) (fun _ => ?_)
  refine lv_aload_n hx hb dX0_keepsFrom_120 rfl (lv_at hl 4 rfl) ?_
  refine lv_iload_n hx hb dX0_keepsFrom_121 rfl (lv_at hl 5 rfl) ?_
  refine lv_iconst (v := 1) hx hb dX0_keepsFrom_122 (by decide) ?_
  refine lv_iadd hx hb dX0_keepsFrom_123 ?_
  refine q_val (v := 7) (by decide) ?_
  refine lv_iload hx hb dX0_keepsFrom_124 (lv_at hl 2 rfl) ?_
  refine lv_if_eq (tgt := 135) hx hb dX0_keepsFrom_126 (by decide) (fun _ => ?_) (fun c_0 => absurd (by decide) c_0)
  refine lv_iload_n hx hb dX0_keepsFrom_135 rfl (lv_at hl 6 rfl) ?_
  refine q_ai (wr := []) (r_V (q0 := 0) (As := [.int 7, .int 0]) (rest := []) (wc := [(h, .inr (0, [.int 0, .int 0, .int (-1), .ref h0, .ref h1, .ref h2, .ref h3, .ref h4, .int 0, .ref h5, .int 0, .int 0, .int 10, .int 1, .int 0, .int 8])), (h0, .inl (cy 1, 8, .inl kr)), (h5, .inl (cy 1, 81, .inl (fun _ => 0)))]) C (q_subP hP [2, 0, 1] rfl) (hD.sub [2, 0, 1] (by decide) rfl) (c_keeps_8_7 l D cy h h0 h1 h2 h3 h4 h5 kr _ ) kwV_X0_keepsFrom kM_RX0_95 rfl rfl ⟨Nat.le_of_ble_eq_true rfl, Nat.le_of_ble_eq_true rfl⟩ rfl hl.1 rfl (Nat.le_of_ble_eq_true rfl) dX0_keepsFrom_136 ⟨Nat.le_of_ble_eq_true rfl, Nat.le_of_ble_eq_true rfl⟩) C.2.2.2.2.2.2.1 hP hD hS [2, 0, 1] [] rfl rfl (by decide) (by decide) (fun r_11 u_10 H locs hw_12 hP hD hS => ?_)
  have hP : va_P D vwCl [(h, .inr (0, [.int 0, .int 0, .int (-1), .ref h0, .ref h1, .ref h2, .ref h3, .ref h4, .int 0, .ref h5, .int 0, .int 0, .int 10, .int 1, .int 0, .int 8])), (h0, .inl (cy 1, 8, .inl u_10)), (h5, .inl (cy 1, 81, .inl (fun _ => 0)))] H := hP
  have hD : va_D A [(h, .inr (0, [.int 0, .int 0, .int (-1), .ref h0, .ref h1, .ref h2, .ref h3, .ref h4, .int 0, .ref h5, .int 0, .int 0, .int 10, .int 1, .int 0, .int 8])), (h0, .inl (cy 1, 8, .inl u_10)), (h5, .inl (cy 1, 81, .inl (fun _ => 0)))] := hD
  obtain rfl : r_11 = 1 := hw_12
  refine lv_if_eq (tgt := 155) hx hb dX0_keepsFrom_139 (by decide) (fun c_0 => absurd c_0 (by decide)) (fun _ => ?_)
  refine lv_aload_n hx hb dX0_keepsFrom_142 rfl (lv_at hl 4 rfl) ?_
  refine q_get (v := .ref h0) C hP 0 3 rfl rfl inX0 (by decide) kF_RX0_21 rfl rfl dX0_keepsFrom_143 ?_
  refine lv_iload_n hx hb dX0_keepsFrom_146 rfl (lv_at hl 5 rfl) ?_
  refine lv_aload_n hx hb dX0_keepsFrom_147 rfl (lv_at hl 4 rfl) ?_
  refine lv_iload_n hx hb dX0_keepsFrom_148 rfl (lv_at hl 3 rfl) ?_
  refine q_ai (wr := [(h0, .inl (cy 1, 8, .inl u_10)), (h5, .inl (cy 1, 81, .inl (fun _ => 0)))]) (r_V (q0 := 0) (As := [.int 0]) (rest := [.int 6, .ref h0]) (wc := [(h, .inr (0, [.int 0, .int 0, .int (-1), .ref h0, .ref h1, .ref h2, .ref h3, .ref h4, .int 0, .ref h5, .int 0, .int 0, .int 10, .int 1, .int 0, .int 8]))]) C (q_subP hP [0] rfl) (hD.sub [0] (by decide) rfl) (c_bookChosen l D cy h h0 h1 h2 h3 h4 h5 8 _ ) kwV_X0_bookChosen kM_RX0_110 rfl rfl ⟨Nat.le_of_ble_eq_true rfl, Nat.le_of_ble_eq_true rfl⟩ rfl hl.1 rfl (Nat.le_of_ble_eq_true rfl) dX0_keepsFrom_149 ⟨Nat.le_of_ble_eq_true rfl, Nat.le_of_ble_eq_true rfl⟩) C.2.2.2.2.2.2.1 hP hD hS [0] [1, 2] rfl rfl (by decide) (by decide) (fun r_14 u_13 H locs hw_15 hP hD hS => ?_)
  have hP : va_P D vwCl [(h0, .inl (cy 1, 8, .inl u_10)), (h5, .inl (cy 1, 81, .inl (fun _ => 0))), (h, .inr (0, [.int 0, .int 0, .int (-1), .ref h0, .ref h1, .ref h2, .ref h3, .ref h4, .int 0, .ref h5, .int 0, .int 0, .int 10, .int 1, .int 0, .int 8]))] H := hP
  have hD : va_D A [(h0, .inl (cy 1, 8, .inl u_10)), (h5, .inl (cy 1, 81, .inl (fun _ => 0))), (h, .inr (0, [.int 0, .int 0, .int (-1), .ref h0, .ref h1, .ref h2, .ref h3, .ref h4, .int 0, .ref h5, .int 0, .int 0, .int 10, .int 1, .int 0, .int 8]))] := hD
  obtain rfl : r_14 = (-1) := hw_15
  refine q_iast (g := upd u_10 6 (-1)) (w' := [(h0, .inl (cy 1, 8, .inl (upd u_10 6 (-1)))), (h5, .inl (cy 1, 81, .inl (fun _ => 0))), (h, .inr (0, [.int 0, .int 0, .int (-1), .ref h0, .ref h1, .ref h2, .ref h3, .ref h4, .int 0, .ref h5, .int 0, .int 0, .int 10, .int 1, .int 0, .int 8]))]) C hP hD hS 0 rfl (vin (by decide +kernel)) rfl rfl dX0_keepsFrom_152 (fun H locs hP hD hS => ?_)
  refine lv_iconst (v := 1) hx hb dX0_keepsFrom_153 (by decide) ?_
  exact q_iret (rm := (Rm 2 52 0 0)) C hS (upd u_10 6 (-1)) rfl rfl (q_subP hP [2, 0, 1] rfl) (hD.sub [2, 0, 1] (by decide) rfl) (Nat.le_of_ble_eq_true rfl) (Nat.le_of_ble_eq_true rfl) dX0_keepsFrom_154
set_option maxHeartbeats 4000000 in
set_option maxRecDepth 100000 in
theorem c_keeps_8_5 (l : Launch) (D : va_G) (cy : Nat → ClassId) (h : Nat) (h0 : Nat) (h1 : Nat) (h2 : Nat) (h3 : Nat) (h4 : Nat) (h5 : Nat) (kr : Nat → Int32) (sz : Nat)  : MI l yX0_keepsFrom cX0_keepsFrom 7 (some .boolean) (Rm 3 78 0 0) D cy [.ref h, .int 5, .int 0] sz [(h, .inr (0, [.int 0, .int 0, .int (-1), .ref h0, .ref h1, .ref h2, .ref h3, .ref h4, .int 0, .ref h5, .int 0, .int 0, .int 10, .int 1, .int 0, .int 8])), (h0, .inl (cy 1, 8, .inl kr)), (h5, .inl (cy 1, 81, .inl (fun _ => 0)))] (fun (r : Int32) (u : Nat → Int32) => r = 1) (fun u : Nat → Int32 => [(h, .inr (0, [.int 0, .int 0, .int (-1), .ref h0, .ref h1, .ref h2, .ref h3, .ref h4, .int 0, .ref h5, .int 0, .int 0, .int 10, .int 1, .int 0, .int 8])), (h0, .inl (cy 1, 8, .inl u)), (h5, .inl (cy 1, 81, .inl (fun _ => 0)))]) := by
  refine MI.enter (by decide) (Nat.le_of_ble_eq_true rfl) ?_
  intro p e s m below meth c ls A hsz hAe C hP hD hS hl
  have C : Cx p s m _ meth c cX0_keepsFrom 7 (some .boolean) RX0 "keepsFrom" D cy A := C
  have hx := C.1
  have hb := C.2.1
  have hl : lv_has ls 7 [(0, .ref h), (1, .int 5), (2, .int 0)] := hl
  refine lv_iload_n hx hb dX0_keepsFrom_0 rfl (lv_at hl 1 rfl) ?_
  refine lv_aload_n hx hb dX0_keepsFrom_1 rfl (lv_at hl 0 rfl) ?_
  refine q_get (v := .int 8) C hP 0 15 rfl rfl inX0 (by decide) kF_RX0_58 rfl rfl dX0_keepsFrom_2 ?_
  refine lv_icmp_lt (tgt := 10) hx hb dX0_keepsFrom_5 (by decide) (fun _ => ?_) (fun c_0 => absurd (by decide) c_0)
  refine lv_aload_n hx hb dX0_keepsFrom_10 rfl (lv_at hl 0 rfl) ?_
  refine lv_iload_n hx hb dX0_keepsFrom_11 rfl (lv_at hl 1 rfl) ?_
  refine q_ai (wr := [(h0, .inl (cy 1, 8, .inl kr)), (h5, .inl (cy 1, 81, .inl (fun _ => 0)))]) (r_V (q0 := 0) (As := [.int 5]) (rest := []) (wc := [(h, .inr (0, [.int 0, .int 0, .int (-1), .ref h0, .ref h1, .ref h2, .ref h3, .ref h4, .int 0, .ref h5, .int 0, .int 0, .int 10, .int 1, .int 0, .int 8]))]) C (q_subP hP [0] rfl) (hD.sub [0] (by decide) rfl) (c_askNeeded l D cy h 5 h0 h1 h2 h3 h4 h5 8 _ ) kwV_X0_askingsNeeded kM_RX0_98 rfl rfl ⟨Nat.le_of_ble_eq_true rfl, Nat.le_of_ble_eq_true rfl⟩ rfl hl.1 rfl (Nat.le_of_ble_eq_true rfl) dX0_keepsFrom_12 ⟨Nat.le_of_ble_eq_true rfl, Nat.le_of_ble_eq_true rfl⟩) C.2.2.2.2.2.2.1 hP hD hS [0] [1, 2] rfl rfl (by decide) (by decide) (fun r_2 u_1 H locs hw_3 hP hD hS => ?_)
  have hP : va_P D vwCl [(h0, .inl (cy 1, 8, .inl kr)), (h5, .inl (cy 1, 81, .inl (fun _ => 0))), (h, .inr (0, [.int 0, .int 0, .int (-1), .ref h0, .ref h1, .ref h2, .ref h3, .ref h4, .int 0, .ref h5, .int 0, .int 0, .int 10, .int 1, .int 0, .int 8]))] H := hP
  have hD : va_D A [(h0, .inl (cy 1, 8, .inl kr)), (h5, .inl (cy 1, 81, .inl (fun _ => 0))), (h, .inr (0, [.int 0, .int 0, .int (-1), .ref h0, .ref h1, .ref h2, .ref h3, .ref h4, .int 0, .ref h5, .int 0, .int 0, .int 10, .int 1, .int 0, .int 8]))] := hD
  obtain rfl : r_2 = 0 := hw_3
  refine lv_iload_n hx hb dX0_keepsFrom_15 rfl (lv_at hl 2 rfl) ?_
  refine lv_icmp_le (tgt := 21) hx hb dX0_keepsFrom_16 (by decide) (fun _ => ?_) (fun c_0 => absurd (by decide) c_0)
  refine lv_aload_n hx hb dX0_keepsFrom_21 rfl (lv_at hl 0 rfl) ?_
  refine lv_iload_n hx hb dX0_keepsFrom_22 rfl (lv_at hl 1 rfl) ?_
  refine q_av (wr := [(h0, .inl (cy 1, 8, .inl kr)), (h5, .inl (cy 1, 81, .inl (fun _ => 0)))]) (r_V (q0 := 0) (As := [.int 5]) (rest := []) (wc := [(h, .inr (0, [.int 0, .int 0, .int (-1), .ref h0, .ref h1, .ref h2, .ref h3, .ref h4, .int 0, .ref h5, .int 0, .int 0, .int 10, .int 1, .int 0, .int 8]))]) C (q_subP hP [2] rfl) (hD.sub [2] (by decide) rfl) (c_passDay l D cy h 5 h0 h1 h2 h3 h4 h5 8 _ ) kwV_X0_passDay kM_RX0_102 rfl rfl ⟨Nat.le_of_ble_eq_true rfl, Nat.le_of_ble_eq_true rfl⟩ rfl hl.1 rfl (Nat.le_of_ble_eq_true rfl) dX0_keepsFrom_23 ⟨Nat.le_of_ble_eq_true rfl, Nat.le_of_ble_eq_true rfl⟩) C.2.2.2.2.2.2.1 hP hD hS [2] [0, 1] rfl rfl (by decide) (by decide) (fun u_4 H locs hw_6 hP hD hS => ?_)
  have hP : va_P D vwCl [(h0, .inl (cy 1, 8, .inl kr)), (h5, .inl (cy 1, 81, .inl (fun _ => 0))), (h, .inr (0, [.int 0, .int 0, .int (-1), .ref h0, .ref h1, .ref h2, .ref h3, .ref h4, .int 0, .ref h5, .int 0, .int 0, .int 10, .int 1, .int 0, .int 8]))] H := hP
  have hD : va_D A [(h0, .inl (cy 1, 8, .inl kr)), (h5, .inl (cy 1, 81, .inl (fun _ => 0))), (h, .inr (0, [.int 0, .int 0, .int (-1), .ref h0, .ref h1, .ref h2, .ref h3, .ref h4, .int 0, .ref h5, .int 0, .int 0, .int 10, .int 1, .int 0, .int 8]))] := hD
  refine lv_iconst (v := 0) hx hb dX0_keepsFrom_26 (by decide) ?_
  refine lv_istore_n (lv' := [(3, .int 0), (0, .ref h), (1, .int 5), (2, .int 0)]) hx hb dX0_keepsFrom_27 rfl hl (by decide) rfl (fun ls hl => ?_)
  refine lv_iload_n hx hb dX0_keepsFrom_28 rfl (lv_at hl 0 rfl) ?_
  refine lv_aload_n hx hb dX0_keepsFrom_29 rfl (lv_at hl 1 rfl) ?_
  refine q_get (v := .int 0) C hP 2 10 rfl rfl inX0 (by decide) kF_RX0_43 rfl rfl dX0_keepsFrom_30 ?_
  refine lv_icmp_gt (tgt := 170) hx hb dX0_keepsFrom_33 (by decide) (fun c_0 => absurd c_0 (by decide)) (fun _ => ?_)
  refine lv_iload_n hx hb dX0_keepsFrom_36 rfl (lv_at hl 0 rfl) ?_
  refine lv_aload_n hx hb dX0_keepsFrom_37 rfl (lv_at hl 1 rfl) ?_
  refine q_get (v := .int 0) C hP 2 10 rfl rfl inX0 (by decide) kF_RX0_43 rfl rfl dX0_keepsFrom_38 ?_
  refine lv_icmp_ge (tgt := 48) hx hb dX0_keepsFrom_41 (by decide) (fun _ => ?_) (fun c_0 => absurd (by decide) c_0)
  refine lv_iconst (v := 0) hx hb dX0_keepsFrom_48 (by decide) ?_
  refine lv_istore (lv' := [(4, .int 0), (3, .int 0), (0, .ref h), (1, .int 5), (2, .int 0)]) hx hb dX0_keepsFrom_49 hl (by decide) rfl (fun ls hl => ?_)
  refine lv_iload hx hb dX0_keepsFrom_51 (lv_at hl 0 rfl) ?_
  refine lv_if_eq (tgt := 83) hx hb dX0_keepsFrom_53 (by decide) (fun _ => ?_) (fun c_0 => absurd (by decide) c_0)
  refine lv_iload_n hx hb dX0_keepsFrom_83 rfl (lv_at hl 3 rfl) ?_
  refine lv_iconst (v := 1) hx hb dX0_keepsFrom_84 (by decide) ?_
  refine lv_iadd hx hb dX0_keepsFrom_85 ?_
  refine q_val (v := 6) (by decide) ?_
  refine lv_bipush (v := 9) hx hb dX0_keepsFrom_86 (by decide) ?_
  refine lv_imul hx hb dX0_keepsFrom_88 ?_
  refine q_val (v := 54) (by decide) ?_
  refine lv_iload_n hx hb dX0_keepsFrom_89 rfl (lv_at hl 1 rfl) ?_
  refine lv_iadd hx hb dX0_keepsFrom_90 ?_
  refine q_val (v := 54) (by decide) ?_
  refine lv_istore (lv' := [(5, .int 54), (4, .int 0), (3, .int 0), (0, .ref h), (1, .int 5), (2, .int 0)]) hx hb dX0_keepsFrom_91 hl (by decide) rfl (fun ls hl => ?_)
  refine lv_aload_n hx hb dX0_keepsFrom_93 rfl (lv_at hl 3 rfl) ?_
  refine q_get (v := .ref h5) C hP 2 9 rfl rfl inX0 (by decide) kF_RX0_40 rfl rfl dX0_keepsFrom_94 ?_
  refine lv_iload hx hb dX0_keepsFrom_97 (lv_at hl 0 rfl) ?_
  refine q_iald (v := 0) C hP 1 rfl (vin (by decide +kernel)) rfl dX0_keepsFrom_99 ?_
  refine lv_istore (lv' := [(6, .int 0), (5, .int 54), (4, .int 0), (3, .int 0), (0, .ref h), (1, .int 5), (2, .int 0)]) hx hb dX0_keepsFrom_100 hl (by decide) rfl (fun ls hl => ?_)
  refine lv_aload_n hx hb dX0_keepsFrom_102 rfl (lv_at hl 4 rfl) ?_
  refine q_get (v := .ref h5) C hP 2 9 rfl rfl inX0 (by decide) kF_RX0_40 rfl rfl dX0_keepsFrom_103 ?_
  refine lv_iload hx hb dX0_keepsFrom_106 (lv_at hl 1 rfl) ?_
  refine lv_iconst (v := 0) hx hb dX0_keepsFrom_108 (by decide) ?_
  refine q_iast (g := fun _ => 0) (w' := [(h0, .inl (cy 1, 8, .inl kr)), (h5, .inl (cy 1, 81, .inl (fun _ => 0))), (h, .inr (0, [.int 0, .int 0, .int (-1), .ref h0, .ref h1, .ref h2, .ref h3, .ref h4, .int 0, .ref h5, .int 0, .int 0, .int 10, .int 1, .int 0, .int 8]))]) C hP hD hS 1 rfl (vin (by decide +kernel)) (updz _) rfl dX0_keepsFrom_109 (fun H locs hP hD hS => ?_)
  refine lv_aload_n hx hb dX0_keepsFrom_110 rfl (lv_at hl 4 rfl) ?_
  refine lv_iload_n hx hb dX0_keepsFrom_111 rfl (lv_at hl 5 rfl) ?_
  refine lv_iconst (v := 1) hx hb dX0_keepsFrom_112 (by decide) ?_
  refine lv_iadd hx hb dX0_keepsFrom_113 ?_
  refine q_val (v := 6) (by decide) ?_
  refine q_ai (wr := [(h0, .inl (cy 1, 8, .inl kr)), (h5, .inl (cy 1, 81, .inl (fun _ => 0)))]) (r_V (q0 := 0) (As := [.int 6]) (rest := []) (wc := [(h, .inr (0, [.int 0, .int 0, .int (-1), .ref h0, .ref h1, .ref h2, .ref h3, .ref h4, .int 0, .ref h5, .int 0, .int 0, .int 10, .int 1, .int 0, .int 8]))]) C (q_subP hP [2] rfl) (hD.sub [2] (by decide) rfl) (c_rareDoubt l D cy h 6 h0 h1 h2 h3 h4 h5 8 _ ) kwV_X0_areRareInDoubt kM_RX0_106 rfl rfl ⟨Nat.le_of_ble_eq_true rfl, Nat.le_of_ble_eq_true rfl⟩ rfl hl.1 rfl (Nat.le_of_ble_eq_true rfl) dX0_keepsFrom_114 ⟨Nat.le_of_ble_eq_true rfl, Nat.le_of_ble_eq_true rfl⟩) C.2.2.2.2.2.2.1 hP hD hS [2] [0, 1] rfl rfl (by decide) (by decide) (fun r_8 u_7 H locs hw_9 hP hD hS => ?_)
  have hP : va_P D vwCl [(h0, .inl (cy 1, 8, .inl kr)), (h5, .inl (cy 1, 81, .inl (fun _ => 0))), (h, .inr (0, [.int 0, .int 0, .int (-1), .ref h0, .ref h1, .ref h2, .ref h3, .ref h4, .int 0, .ref h5, .int 0, .int 0, .int 10, .int 1, .int 0, .int 8]))] H := hP
  have hD : va_D A [(h0, .inl (cy 1, 8, .inl kr)), (h5, .inl (cy 1, 81, .inl (fun _ => 0))), (h, .inr (0, [.int 0, .int 0, .int (-1), .ref h0, .ref h1, .ref h2, .ref h3, .ref h4, .int 0, .ref h5, .int 0, .int 0, .int 10, .int 1, .int 0, .int 8]))] := hD
  obtain rfl : r_8 = 1 := hw_9
  refine lv_if_eq (tgt := 155) hx hb dX0_keepsFrom_117 (by decide) (fun c_0 => absurd c_0 (by decide)) (fun _ => ?_)
  refine lv_aload_n hx hb dX0_keepsFrom_120 rfl (lv_at hl 4 rfl) ?_
  refine lv_iload_n hx hb dX0_keepsFrom_121 rfl (lv_at hl 5 rfl) ?_
  refine lv_iconst (v := 1) hx hb dX0_keepsFrom_122 (by decide) ?_
  refine lv_iadd hx hb dX0_keepsFrom_123 ?_
  refine q_val (v := 6) (by decide) ?_
  refine lv_iload hx hb dX0_keepsFrom_124 (lv_at hl 2 rfl) ?_
  refine lv_if_eq (tgt := 135) hx hb dX0_keepsFrom_126 (by decide) (fun _ => ?_) (fun c_0 => absurd (by decide) c_0)
  refine lv_iload_n hx hb dX0_keepsFrom_135 rfl (lv_at hl 6 rfl) ?_
  refine q_ai (wr := []) (r_V (q0 := 0) (As := [.int 6, .int 0]) (rest := []) (wc := [(h, .inr (0, [.int 0, .int 0, .int (-1), .ref h0, .ref h1, .ref h2, .ref h3, .ref h4, .int 0, .ref h5, .int 0, .int 0, .int 10, .int 1, .int 0, .int 8])), (h0, .inl (cy 1, 8, .inl kr)), (h5, .inl (cy 1, 81, .inl (fun _ => 0)))]) C (q_subP hP [2, 0, 1] rfl) (hD.sub [2, 0, 1] (by decide) rfl) (c_keeps_8_6 l D cy h h0 h1 h2 h3 h4 h5 kr _ ) kwV_X0_keepsFrom kM_RX0_95 rfl rfl ⟨Nat.le_of_ble_eq_true rfl, Nat.le_of_ble_eq_true rfl⟩ rfl hl.1 rfl (Nat.le_of_ble_eq_true rfl) dX0_keepsFrom_136 ⟨Nat.le_of_ble_eq_true rfl, Nat.le_of_ble_eq_true rfl⟩) C.2.2.2.2.2.2.1 hP hD hS [2, 0, 1] [] rfl rfl (by decide) (by decide) (fun r_11 u_10 H locs hw_12 hP hD hS => ?_)
  have hP : va_P D vwCl [(h, .inr (0, [.int 0, .int 0, .int (-1), .ref h0, .ref h1, .ref h2, .ref h3, .ref h4, .int 0, .ref h5, .int 0, .int 0, .int 10, .int 1, .int 0, .int 8])), (h0, .inl (cy 1, 8, .inl u_10)), (h5, .inl (cy 1, 81, .inl (fun _ => 0)))] H := hP
  have hD : va_D A [(h, .inr (0, [.int 0, .int 0, .int (-1), .ref h0, .ref h1, .ref h2, .ref h3, .ref h4, .int 0, .ref h5, .int 0, .int 0, .int 10, .int 1, .int 0, .int 8])), (h0, .inl (cy 1, 8, .inl u_10)), (h5, .inl (cy 1, 81, .inl (fun _ => 0)))] := hD
  obtain rfl : r_11 = 1 := hw_12
  refine lv_if_eq (tgt := 155) hx hb dX0_keepsFrom_139 (by decide) (fun c_0 => absurd c_0 (by decide)) (fun _ => ?_)
  refine lv_aload_n hx hb dX0_keepsFrom_142 rfl (lv_at hl 4 rfl) ?_
  refine q_get (v := .ref h0) C hP 0 3 rfl rfl inX0 (by decide) kF_RX0_21 rfl rfl dX0_keepsFrom_143 ?_
  refine lv_iload_n hx hb dX0_keepsFrom_146 rfl (lv_at hl 5 rfl) ?_
  refine lv_aload_n hx hb dX0_keepsFrom_147 rfl (lv_at hl 4 rfl) ?_
  refine lv_iload_n hx hb dX0_keepsFrom_148 rfl (lv_at hl 3 rfl) ?_
  refine q_ai (wr := [(h0, .inl (cy 1, 8, .inl u_10)), (h5, .inl (cy 1, 81, .inl (fun _ => 0)))]) (r_V (q0 := 0) (As := [.int 0]) (rest := [.int 5, .ref h0]) (wc := [(h, .inr (0, [.int 0, .int 0, .int (-1), .ref h0, .ref h1, .ref h2, .ref h3, .ref h4, .int 0, .ref h5, .int 0, .int 0, .int 10, .int 1, .int 0, .int 8]))]) C (q_subP hP [0] rfl) (hD.sub [0] (by decide) rfl) (c_bookChosen l D cy h h0 h1 h2 h3 h4 h5 8 _ ) kwV_X0_bookChosen kM_RX0_110 rfl rfl ⟨Nat.le_of_ble_eq_true rfl, Nat.le_of_ble_eq_true rfl⟩ rfl hl.1 rfl (Nat.le_of_ble_eq_true rfl) dX0_keepsFrom_149 ⟨Nat.le_of_ble_eq_true rfl, Nat.le_of_ble_eq_true rfl⟩) C.2.2.2.2.2.2.1 hP hD hS [0] [1, 2] rfl rfl (by decide) (by decide) (fun r_14 u_13 H locs hw_15 hP hD hS => ?_)
  have hP : va_P D vwCl [(h0, .inl (cy 1, 8, .inl u_10)), (h5, .inl (cy 1, 81, .inl (fun _ => 0))), (h, .inr (0, [.int 0, .int 0, .int (-1), .ref h0, .ref h1, .ref h2, .ref h3, .ref h4, .int 0, .ref h5, .int 0, .int 0, .int 10, .int 1, .int 0, .int 8]))] H := hP
  have hD : va_D A [(h0, .inl (cy 1, 8, .inl u_10)), (h5, .inl (cy 1, 81, .inl (fun _ => 0))), (h, .inr (0, [.int 0, .int 0, .int (-1), .ref h0, .ref h1, .ref h2, .ref h3, .ref h4, .int 0, .ref h5, .int 0, .int 0, .int 10, .int 1, .int 0, .int 8]))] := hD
  obtain rfl : r_14 = (-1) := hw_15
  refine q_iast (g := upd u_10 5 (-1)) (w' := [(h0, .inl (cy 1, 8, .inl (upd u_10 5 (-1)))), (h5, .inl (cy 1, 81, .inl (fun _ => 0))), (h, .inr (0, [.int 0, .int 0, .int (-1), .ref h0, .ref h1, .ref h2, .ref h3, .ref h4, .int 0, .ref h5, .int 0, .int 0, .int 10, .int 1, .int 0, .int 8]))]) C hP hD hS 0 rfl (vin (by decide +kernel)) rfl rfl dX0_keepsFrom_152 (fun H locs hP hD hS => ?_)
  refine lv_iconst (v := 1) hx hb dX0_keepsFrom_153 (by decide) ?_
  exact q_iret (rm := (Rm 3 78 0 0)) C hS (upd u_10 5 (-1)) rfl rfl (q_subP hP [2, 0, 1] rfl) (hD.sub [2, 0, 1] (by decide) rfl) (Nat.le_of_ble_eq_true rfl) (Nat.le_of_ble_eq_true rfl) dX0_keepsFrom_154
set_option maxHeartbeats 4000000 in
set_option maxRecDepth 100000 in
theorem c_keeps_8_4 (l : Launch) (D : va_G) (cy : Nat → ClassId) (h : Nat) (h0 : Nat) (h1 : Nat) (h2 : Nat) (h3 : Nat) (h4 : Nat) (h5 : Nat) (kr : Nat → Int32) (sz : Nat)  : MI l yX0_keepsFrom cX0_keepsFrom 7 (some .boolean) (Rm 4 104 0 0) D cy [.ref h, .int 4, .int 0] sz [(h, .inr (0, [.int 0, .int 0, .int (-1), .ref h0, .ref h1, .ref h2, .ref h3, .ref h4, .int 0, .ref h5, .int 0, .int 0, .int 10, .int 1, .int 0, .int 8])), (h0, .inl (cy 1, 8, .inl kr)), (h5, .inl (cy 1, 81, .inl (fun _ => 0)))] (fun (r : Int32) (u : Nat → Int32) => r = 1) (fun u : Nat → Int32 => [(h, .inr (0, [.int 0, .int 0, .int (-1), .ref h0, .ref h1, .ref h2, .ref h3, .ref h4, .int 0, .ref h5, .int 0, .int 0, .int 10, .int 1, .int 0, .int 8])), (h0, .inl (cy 1, 8, .inl u)), (h5, .inl (cy 1, 81, .inl (fun _ => 0)))]) := by
  refine MI.enter (by decide) (Nat.le_of_ble_eq_true rfl) ?_
  intro p e s m below meth c ls A hsz hAe C hP hD hS hl
  have C : Cx p s m _ meth c cX0_keepsFrom 7 (some .boolean) RX0 "keepsFrom" D cy A := C
  have hx := C.1
  have hb := C.2.1
  have hl : lv_has ls 7 [(0, .ref h), (1, .int 4), (2, .int 0)] := hl
  refine lv_iload_n hx hb dX0_keepsFrom_0 rfl (lv_at hl 1 rfl) ?_
  refine lv_aload_n hx hb dX0_keepsFrom_1 rfl (lv_at hl 0 rfl) ?_
  refine q_get (v := .int 8) C hP 0 15 rfl rfl inX0 (by decide) kF_RX0_58 rfl rfl dX0_keepsFrom_2 ?_
  refine lv_icmp_lt (tgt := 10) hx hb dX0_keepsFrom_5 (by decide) (fun _ => ?_) (fun c_0 => absurd (by decide) c_0)
  refine lv_aload_n hx hb dX0_keepsFrom_10 rfl (lv_at hl 0 rfl) ?_
  refine lv_iload_n hx hb dX0_keepsFrom_11 rfl (lv_at hl 1 rfl) ?_
  refine q_ai (wr := [(h0, .inl (cy 1, 8, .inl kr)), (h5, .inl (cy 1, 81, .inl (fun _ => 0)))]) (r_V (q0 := 0) (As := [.int 4]) (rest := []) (wc := [(h, .inr (0, [.int 0, .int 0, .int (-1), .ref h0, .ref h1, .ref h2, .ref h3, .ref h4, .int 0, .ref h5, .int 0, .int 0, .int 10, .int 1, .int 0, .int 8]))]) C (q_subP hP [0] rfl) (hD.sub [0] (by decide) rfl) (c_askNeeded l D cy h 4 h0 h1 h2 h3 h4 h5 8 _ ) kwV_X0_askingsNeeded kM_RX0_98 rfl rfl ⟨Nat.le_of_ble_eq_true rfl, Nat.le_of_ble_eq_true rfl⟩ rfl hl.1 rfl (Nat.le_of_ble_eq_true rfl) dX0_keepsFrom_12 ⟨Nat.le_of_ble_eq_true rfl, Nat.le_of_ble_eq_true rfl⟩) C.2.2.2.2.2.2.1 hP hD hS [0] [1, 2] rfl rfl (by decide) (by decide) (fun r_2 u_1 H locs hw_3 hP hD hS => ?_)
  have hP : va_P D vwCl [(h0, .inl (cy 1, 8, .inl kr)), (h5, .inl (cy 1, 81, .inl (fun _ => 0))), (h, .inr (0, [.int 0, .int 0, .int (-1), .ref h0, .ref h1, .ref h2, .ref h3, .ref h4, .int 0, .ref h5, .int 0, .int 0, .int 10, .int 1, .int 0, .int 8]))] H := hP
  have hD : va_D A [(h0, .inl (cy 1, 8, .inl kr)), (h5, .inl (cy 1, 81, .inl (fun _ => 0))), (h, .inr (0, [.int 0, .int 0, .int (-1), .ref h0, .ref h1, .ref h2, .ref h3, .ref h4, .int 0, .ref h5, .int 0, .int 0, .int 10, .int 1, .int 0, .int 8]))] := hD
  obtain rfl : r_2 = 0 := hw_3
  refine lv_iload_n hx hb dX0_keepsFrom_15 rfl (lv_at hl 2 rfl) ?_
  refine lv_icmp_le (tgt := 21) hx hb dX0_keepsFrom_16 (by decide) (fun _ => ?_) (fun c_0 => absurd (by decide) c_0)
  refine lv_aload_n hx hb dX0_keepsFrom_21 rfl (lv_at hl 0 rfl) ?_
  refine lv_iload_n hx hb dX0_keepsFrom_22 rfl (lv_at hl 1 rfl) ?_
  refine q_av (wr := [(h0, .inl (cy 1, 8, .inl kr)), (h5, .inl (cy 1, 81, .inl (fun _ => 0)))]) (r_V (q0 := 0) (As := [.int 4]) (rest := []) (wc := [(h, .inr (0, [.int 0, .int 0, .int (-1), .ref h0, .ref h1, .ref h2, .ref h3, .ref h4, .int 0, .ref h5, .int 0, .int 0, .int 10, .int 1, .int 0, .int 8]))]) C (q_subP hP [2] rfl) (hD.sub [2] (by decide) rfl) (c_passDay l D cy h 4 h0 h1 h2 h3 h4 h5 8 _ ) kwV_X0_passDay kM_RX0_102 rfl rfl ⟨Nat.le_of_ble_eq_true rfl, Nat.le_of_ble_eq_true rfl⟩ rfl hl.1 rfl (Nat.le_of_ble_eq_true rfl) dX0_keepsFrom_23 ⟨Nat.le_of_ble_eq_true rfl, Nat.le_of_ble_eq_true rfl⟩) C.2.2.2.2.2.2.1 hP hD hS [2] [0, 1] rfl rfl (by decide) (by decide) (fun u_4 H locs hw_6 hP hD hS => ?_)
  have hP : va_P D vwCl [(h0, .inl (cy 1, 8, .inl kr)), (h5, .inl (cy 1, 81, .inl (fun _ => 0))), (h, .inr (0, [.int 0, .int 0, .int (-1), .ref h0, .ref h1, .ref h2, .ref h3, .ref h4, .int 0, .ref h5, .int 0, .int 0, .int 10, .int 1, .int 0, .int 8]))] H := hP
  have hD : va_D A [(h0, .inl (cy 1, 8, .inl kr)), (h5, .inl (cy 1, 81, .inl (fun _ => 0))), (h, .inr (0, [.int 0, .int 0, .int (-1), .ref h0, .ref h1, .ref h2, .ref h3, .ref h4, .int 0, .ref h5, .int 0, .int 0, .int 10, .int 1, .int 0, .int 8]))] := hD
  refine lv_iconst (v := 0) hx hb dX0_keepsFrom_26 (by decide) ?_
  refine lv_istore_n (lv' := [(3, .int 0), (0, .ref h), (1, .int 4), (2, .int 0)]) hx hb dX0_keepsFrom_27 rfl hl (by decide) rfl (fun ls hl => ?_)
  refine lv_iload_n hx hb dX0_keepsFrom_28 rfl (lv_at hl 0 rfl) ?_
  refine lv_aload_n hx hb dX0_keepsFrom_29 rfl (lv_at hl 1 rfl) ?_
  refine q_get (v := .int 0) C hP 2 10 rfl rfl inX0 (by decide) kF_RX0_43 rfl rfl dX0_keepsFrom_30 ?_
  refine lv_icmp_gt (tgt := 170) hx hb dX0_keepsFrom_33 (by decide) (fun c_0 => absurd c_0 (by decide)) (fun _ => ?_)
  refine lv_iload_n hx hb dX0_keepsFrom_36 rfl (lv_at hl 0 rfl) ?_
  refine lv_aload_n hx hb dX0_keepsFrom_37 rfl (lv_at hl 1 rfl) ?_
  refine q_get (v := .int 0) C hP 2 10 rfl rfl inX0 (by decide) kF_RX0_43 rfl rfl dX0_keepsFrom_38 ?_
  refine lv_icmp_ge (tgt := 48) hx hb dX0_keepsFrom_41 (by decide) (fun _ => ?_) (fun c_0 => absurd (by decide) c_0)
  refine lv_iconst (v := 0) hx hb dX0_keepsFrom_48 (by decide) ?_
  refine lv_istore (lv' := [(4, .int 0), (3, .int 0), (0, .ref h), (1, .int 4), (2, .int 0)]) hx hb dX0_keepsFrom_49 hl (by decide) rfl (fun ls hl => ?_)
  refine lv_iload hx hb dX0_keepsFrom_51 (lv_at hl 0 rfl) ?_
  refine lv_if_eq (tgt := 83) hx hb dX0_keepsFrom_53 (by decide) (fun _ => ?_) (fun c_0 => absurd (by decide) c_0)
  refine lv_iload_n hx hb dX0_keepsFrom_83 rfl (lv_at hl 3 rfl) ?_
  refine lv_iconst (v := 1) hx hb dX0_keepsFrom_84 (by decide) ?_
  refine lv_iadd hx hb dX0_keepsFrom_85 ?_
  refine q_val (v := 5) (by decide) ?_
  refine lv_bipush (v := 9) hx hb dX0_keepsFrom_86 (by decide) ?_
  refine lv_imul hx hb dX0_keepsFrom_88 ?_
  refine q_val (v := 45) (by decide) ?_
  refine lv_iload_n hx hb dX0_keepsFrom_89 rfl (lv_at hl 1 rfl) ?_
  refine lv_iadd hx hb dX0_keepsFrom_90 ?_
  refine q_val (v := 45) (by decide) ?_
  refine lv_istore (lv' := [(5, .int 45), (4, .int 0), (3, .int 0), (0, .ref h), (1, .int 4), (2, .int 0)]) hx hb dX0_keepsFrom_91 hl (by decide) rfl (fun ls hl => ?_)
  refine lv_aload_n hx hb dX0_keepsFrom_93 rfl (lv_at hl 3 rfl) ?_
  refine q_get (v := .ref h5) C hP 2 9 rfl rfl inX0 (by decide) kF_RX0_40 rfl rfl dX0_keepsFrom_94 ?_
  refine lv_iload hx hb dX0_keepsFrom_97 (lv_at hl 0 rfl) ?_
  refine q_iald (v := 0) C hP 1 rfl (vin (by decide +kernel)) rfl dX0_keepsFrom_99 ?_
  refine lv_istore (lv' := [(6, .int 0), (5, .int 45), (4, .int 0), (3, .int 0), (0, .ref h), (1, .int 4), (2, .int 0)]) hx hb dX0_keepsFrom_100 hl (by decide) rfl (fun ls hl => ?_)
  refine lv_aload_n hx hb dX0_keepsFrom_102 rfl (lv_at hl 4 rfl) ?_
  refine q_get (v := .ref h5) C hP 2 9 rfl rfl inX0 (by decide) kF_RX0_40 rfl rfl dX0_keepsFrom_103 ?_
  refine lv_iload hx hb dX0_keepsFrom_106 (lv_at hl 1 rfl) ?_
  refine lv_iconst (v := 0) hx hb dX0_keepsFrom_108 (by decide) ?_
  refine q_iast (g := fun _ => 0) (w' := [(h0, .inl (cy 1, 8, .inl kr)), (h5, .inl (cy 1, 81, .inl (fun _ => 0))), (h, .inr (0, [.int 0, .int 0, .int (-1), .ref h0, .ref h1, .ref h2, .ref h3, .ref h4, .int 0, .ref h5, .int 0, .int 0, .int 10, .int 1, .int 0, .int 8]))]) C hP hD hS 1 rfl (vin (by decide +kernel)) (updz _) rfl dX0_keepsFrom_109 (fun H locs hP hD hS => ?_)
  refine lv_aload_n hx hb dX0_keepsFrom_110 rfl (lv_at hl 4 rfl) ?_
  refine lv_iload_n hx hb dX0_keepsFrom_111 rfl (lv_at hl 5 rfl) ?_
  refine lv_iconst (v := 1) hx hb dX0_keepsFrom_112 (by decide) ?_
  refine lv_iadd hx hb dX0_keepsFrom_113 ?_
  refine q_val (v := 5) (by decide) ?_
  refine q_ai (wr := [(h0, .inl (cy 1, 8, .inl kr)), (h5, .inl (cy 1, 81, .inl (fun _ => 0)))]) (r_V (q0 := 0) (As := [.int 5]) (rest := []) (wc := [(h, .inr (0, [.int 0, .int 0, .int (-1), .ref h0, .ref h1, .ref h2, .ref h3, .ref h4, .int 0, .ref h5, .int 0, .int 0, .int 10, .int 1, .int 0, .int 8]))]) C (q_subP hP [2] rfl) (hD.sub [2] (by decide) rfl) (c_rareDoubt l D cy h 5 h0 h1 h2 h3 h4 h5 8 _ ) kwV_X0_areRareInDoubt kM_RX0_106 rfl rfl ⟨Nat.le_of_ble_eq_true rfl, Nat.le_of_ble_eq_true rfl⟩ rfl hl.1 rfl (Nat.le_of_ble_eq_true rfl) dX0_keepsFrom_114 ⟨Nat.le_of_ble_eq_true rfl, Nat.le_of_ble_eq_true rfl⟩) C.2.2.2.2.2.2.1 hP hD hS [2] [0, 1] rfl rfl (by decide) (by decide) (fun r_8 u_7 H locs hw_9 hP hD hS => ?_)
  have hP : va_P D vwCl [(h0, .inl (cy 1, 8, .inl kr)), (h5, .inl (cy 1, 81, .inl (fun _ => 0))), (h, .inr (0, [.int 0, .int 0, .int (-1), .ref h0, .ref h1, .ref h2, .ref h3, .ref h4, .int 0, .ref h5, .int 0, .int 0, .int 10, .int 1, .int 0, .int 8]))] H := hP
  have hD : va_D A [(h0, .inl (cy 1, 8, .inl kr)), (h5, .inl (cy 1, 81, .inl (fun _ => 0))), (h, .inr (0, [.int 0, .int 0, .int (-1), .ref h0, .ref h1, .ref h2, .ref h3, .ref h4, .int 0, .ref h5, .int 0, .int 0, .int 10, .int 1, .int 0, .int 8]))] := hD
  obtain rfl : r_8 = 1 := hw_9
  refine lv_if_eq (tgt := 155) hx hb dX0_keepsFrom_117 (by decide) (fun c_0 => absurd c_0 (by decide)) (fun _ => ?_)
  refine lv_aload_n hx hb dX0_keepsFrom_120 rfl (lv_at hl 4 rfl) ?_
  refine lv_iload_n hx hb dX0_keepsFrom_121 rfl (lv_at hl 5 rfl) ?_
  refine lv_iconst (v := 1) hx hb dX0_keepsFrom_122 (by decide) ?_
  refine lv_iadd hx hb dX0_keepsFrom_123 ?_
  refine q_val (v := 5) (by decide) ?_
  refine lv_iload hx hb dX0_keepsFrom_124 (lv_at hl 2 rfl) ?_
  refine lv_if_eq (tgt := 135) hx hb dX0_keepsFrom_126 (by decide) (fun _ => ?_) (fun c_0 => absurd (by decide) c_0)
  refine lv_iload_n hx hb dX0_keepsFrom_135 rfl (lv_at hl 6 rfl) ?_
  refine q_ai (wr := []) (r_V (q0 := 0) (As := [.int 5, .int 0]) (rest := []) (wc := [(h, .inr (0, [.int 0, .int 0, .int (-1), .ref h0, .ref h1, .ref h2, .ref h3, .ref h4, .int 0, .ref h5, .int 0, .int 0, .int 10, .int 1, .int 0, .int 8])), (h0, .inl (cy 1, 8, .inl kr)), (h5, .inl (cy 1, 81, .inl (fun _ => 0)))]) C (q_subP hP [2, 0, 1] rfl) (hD.sub [2, 0, 1] (by decide) rfl) (c_keeps_8_5 l D cy h h0 h1 h2 h3 h4 h5 kr _ ) kwV_X0_keepsFrom kM_RX0_95 rfl rfl ⟨Nat.le_of_ble_eq_true rfl, Nat.le_of_ble_eq_true rfl⟩ rfl hl.1 rfl (Nat.le_of_ble_eq_true rfl) dX0_keepsFrom_136 ⟨Nat.le_of_ble_eq_true rfl, Nat.le_of_ble_eq_true rfl⟩) C.2.2.2.2.2.2.1 hP hD hS [2, 0, 1] [] rfl rfl (by decide) (by decide) (fun r_11 u_10 H locs hw_12 hP hD hS => ?_)
  have hP : va_P D vwCl [(h, .inr (0, [.int 0, .int 0, .int (-1), .ref h0, .ref h1, .ref h2, .ref h3, .ref h4, .int 0, .ref h5, .int 0, .int 0, .int 10, .int 1, .int 0, .int 8])), (h0, .inl (cy 1, 8, .inl u_10)), (h5, .inl (cy 1, 81, .inl (fun _ => 0)))] H := hP
  have hD : va_D A [(h, .inr (0, [.int 0, .int 0, .int (-1), .ref h0, .ref h1, .ref h2, .ref h3, .ref h4, .int 0, .ref h5, .int 0, .int 0, .int 10, .int 1, .int 0, .int 8])), (h0, .inl (cy 1, 8, .inl u_10)), (h5, .inl (cy 1, 81, .inl (fun _ => 0)))] := hD
  obtain rfl : r_11 = 1 := hw_12
  refine lv_if_eq (tgt := 155) hx hb dX0_keepsFrom_139 (by decide) (fun c_0 => absurd c_0 (by decide)) (fun _ => ?_)
  refine lv_aload_n hx hb dX0_keepsFrom_142 rfl (lv_at hl 4 rfl) ?_
  refine q_get (v := .ref h0) C hP 0 3 rfl rfl inX0 (by decide) kF_RX0_21 rfl rfl dX0_keepsFrom_143 ?_
  refine lv_iload_n hx hb dX0_keepsFrom_146 rfl (lv_at hl 5 rfl) ?_
  refine lv_aload_n hx hb dX0_keepsFrom_147 rfl (lv_at hl 4 rfl) ?_
  refine lv_iload_n hx hb dX0_keepsFrom_148 rfl (lv_at hl 3 rfl) ?_
  refine q_ai (wr := [(h0, .inl (cy 1, 8, .inl u_10)), (h5, .inl (cy 1, 81, .inl (fun _ => 0)))]) (r_V (q0 := 0) (As := [.int 0]) (rest := [.int 4, .ref h0]) (wc := [(h, .inr (0, [.int 0, .int 0, .int (-1), .ref h0, .ref h1, .ref h2, .ref h3, .ref h4, .int 0, .ref h5, .int 0, .int 0, .int 10, .int 1, .int 0, .int 8]))]) C (q_subP hP [0] rfl) (hD.sub [0] (by decide) rfl) (c_bookChosen l D cy h h0 h1 h2 h3 h4 h5 8 _ ) kwV_X0_bookChosen kM_RX0_110 rfl rfl ⟨Nat.le_of_ble_eq_true rfl, Nat.le_of_ble_eq_true rfl⟩ rfl hl.1 rfl (Nat.le_of_ble_eq_true rfl) dX0_keepsFrom_149 ⟨Nat.le_of_ble_eq_true rfl, Nat.le_of_ble_eq_true rfl⟩) C.2.2.2.2.2.2.1 hP hD hS [0] [1, 2] rfl rfl (by decide) (by decide) (fun r_14 u_13 H locs hw_15 hP hD hS => ?_)
  have hP : va_P D vwCl [(h0, .inl (cy 1, 8, .inl u_10)), (h5, .inl (cy 1, 81, .inl (fun _ => 0))), (h, .inr (0, [.int 0, .int 0, .int (-1), .ref h0, .ref h1, .ref h2, .ref h3, .ref h4, .int 0, .ref h5, .int 0, .int 0, .int 10, .int 1, .int 0, .int 8]))] H := hP
  have hD : va_D A [(h0, .inl (cy 1, 8, .inl u_10)), (h5, .inl (cy 1, 81, .inl (fun _ => 0))), (h, .inr (0, [.int 0, .int 0, .int (-1), .ref h0, .ref h1, .ref h2, .ref h3, .ref h4, .int 0, .ref h5, .int 0, .int 0, .int 10, .int 1, .int 0, .int 8]))] := hD
  obtain rfl : r_14 = (-1) := hw_15
  refine q_iast (g := upd u_10 4 (-1)) (w' := [(h0, .inl (cy 1, 8, .inl (upd u_10 4 (-1)))), (h5, .inl (cy 1, 81, .inl (fun _ => 0))), (h, .inr (0, [.int 0, .int 0, .int (-1), .ref h0, .ref h1, .ref h2, .ref h3, .ref h4, .int 0, .ref h5, .int 0, .int 0, .int 10, .int 1, .int 0, .int 8]))]) C hP hD hS 0 rfl (vin (by decide +kernel)) rfl rfl dX0_keepsFrom_152 (fun H locs hP hD hS => ?_)
  refine lv_iconst (v := 1) hx hb dX0_keepsFrom_153 (by decide) ?_
  exact q_iret (rm := (Rm 4 104 0 0)) C hS (upd u_10 4 (-1)) rfl rfl (q_subP hP [2, 0, 1] rfl) (hD.sub [2, 0, 1] (by decide) rfl) (Nat.le_of_ble_eq_true rfl) (Nat.le_of_ble_eq_true rfl) dX0_keepsFrom_154
set_option maxHeartbeats 4000000 in
set_option maxRecDepth 100000 in
theorem c_keeps_8_3 (l : Launch) (D : va_G) (cy : Nat → ClassId) (h : Nat) (h0 : Nat) (h1 : Nat) (h2 : Nat) (h3 : Nat) (h4 : Nat) (h5 : Nat) (kr : Nat → Int32) (sz : Nat)  : MI l yX0_keepsFrom cX0_keepsFrom 7 (some .boolean) (Rm 5 130 0 0) D cy [.ref h, .int 3, .int 0] sz [(h, .inr (0, [.int 0, .int 0, .int (-1), .ref h0, .ref h1, .ref h2, .ref h3, .ref h4, .int 0, .ref h5, .int 0, .int 0, .int 10, .int 1, .int 0, .int 8])), (h0, .inl (cy 1, 8, .inl kr)), (h5, .inl (cy 1, 81, .inl (fun _ => 0)))] (fun (r : Int32) (u : Nat → Int32) => r = 1) (fun u : Nat → Int32 => [(h, .inr (0, [.int 0, .int 0, .int (-1), .ref h0, .ref h1, .ref h2, .ref h3, .ref h4, .int 0, .ref h5, .int 0, .int 0, .int 10, .int 1, .int 0, .int 8])), (h0, .inl (cy 1, 8, .inl u)), (h5, .inl (cy 1, 81, .inl (fun _ => 0)))]) := by
  refine MI.enter (by decide) (Nat.le_of_ble_eq_true rfl) ?_
  intro p e s m below meth c ls A hsz hAe C hP hD hS hl
  have C : Cx p s m _ meth c cX0_keepsFrom 7 (some .boolean) RX0 "keepsFrom" D cy A := C
  have hx := C.1
  have hb := C.2.1
  have hl : lv_has ls 7 [(0, .ref h), (1, .int 3), (2, .int 0)] := hl
  refine lv_iload_n hx hb dX0_keepsFrom_0 rfl (lv_at hl 1 rfl) ?_
  refine lv_aload_n hx hb dX0_keepsFrom_1 rfl (lv_at hl 0 rfl) ?_
  refine q_get (v := .int 8) C hP 0 15 rfl rfl inX0 (by decide) kF_RX0_58 rfl rfl dX0_keepsFrom_2 ?_
  refine lv_icmp_lt (tgt := 10) hx hb dX0_keepsFrom_5 (by decide) (fun _ => ?_) (fun c_0 => absurd (by decide) c_0)
  refine lv_aload_n hx hb dX0_keepsFrom_10 rfl (lv_at hl 0 rfl) ?_
  refine lv_iload_n hx hb dX0_keepsFrom_11 rfl (lv_at hl 1 rfl) ?_
  refine q_ai (wr := [(h0, .inl (cy 1, 8, .inl kr)), (h5, .inl (cy 1, 81, .inl (fun _ => 0)))]) (r_V (q0 := 0) (As := [.int 3]) (rest := []) (wc := [(h, .inr (0, [.int 0, .int 0, .int (-1), .ref h0, .ref h1, .ref h2, .ref h3, .ref h4, .int 0, .ref h5, .int 0, .int 0, .int 10, .int 1, .int 0, .int 8]))]) C (q_subP hP [0] rfl) (hD.sub [0] (by decide) rfl) (c_askNeeded l D cy h 3 h0 h1 h2 h3 h4 h5 8 _ ) kwV_X0_askingsNeeded kM_RX0_98 rfl rfl ⟨Nat.le_of_ble_eq_true rfl, Nat.le_of_ble_eq_true rfl⟩ rfl hl.1 rfl (Nat.le_of_ble_eq_true rfl) dX0_keepsFrom_12 ⟨Nat.le_of_ble_eq_true rfl, Nat.le_of_ble_eq_true rfl⟩) C.2.2.2.2.2.2.1 hP hD hS [0] [1, 2] rfl rfl (by decide) (by decide) (fun r_2 u_1 H locs hw_3 hP hD hS => ?_)
  have hP : va_P D vwCl [(h0, .inl (cy 1, 8, .inl kr)), (h5, .inl (cy 1, 81, .inl (fun _ => 0))), (h, .inr (0, [.int 0, .int 0, .int (-1), .ref h0, .ref h1, .ref h2, .ref h3, .ref h4, .int 0, .ref h5, .int 0, .int 0, .int 10, .int 1, .int 0, .int 8]))] H := hP
  have hD : va_D A [(h0, .inl (cy 1, 8, .inl kr)), (h5, .inl (cy 1, 81, .inl (fun _ => 0))), (h, .inr (0, [.int 0, .int 0, .int (-1), .ref h0, .ref h1, .ref h2, .ref h3, .ref h4, .int 0, .ref h5, .int 0, .int 0, .int 10, .int 1, .int 0, .int 8]))] := hD
  obtain rfl : r_2 = 0 := hw_3
  refine lv_iload_n hx hb dX0_keepsFrom_15 rfl (lv_at hl 2 rfl) ?_
  refine lv_icmp_le (tgt := 21) hx hb dX0_keepsFrom_16 (by decide) (fun _ => ?_) (fun c_0 => absurd (by decide) c_0)
  refine lv_aload_n hx hb dX0_keepsFrom_21 rfl (lv_at hl 0 rfl) ?_
  refine lv_iload_n hx hb dX0_keepsFrom_22 rfl (lv_at hl 1 rfl) ?_
  refine q_av (wr := [(h0, .inl (cy 1, 8, .inl kr)), (h5, .inl (cy 1, 81, .inl (fun _ => 0)))]) (r_V (q0 := 0) (As := [.int 3]) (rest := []) (wc := [(h, .inr (0, [.int 0, .int 0, .int (-1), .ref h0, .ref h1, .ref h2, .ref h3, .ref h4, .int 0, .ref h5, .int 0, .int 0, .int 10, .int 1, .int 0, .int 8]))]) C (q_subP hP [2] rfl) (hD.sub [2] (by decide) rfl) (c_passDay l D cy h 3 h0 h1 h2 h3 h4 h5 8 _ ) kwV_X0_passDay kM_RX0_102 rfl rfl ⟨Nat.le_of_ble_eq_true rfl, Nat.le_of_ble_eq_true rfl⟩ rfl hl.1 rfl (Nat.le_of_ble_eq_true rfl) dX0_keepsFrom_23 ⟨Nat.le_of_ble_eq_true rfl, Nat.le_of_ble_eq_true rfl⟩) C.2.2.2.2.2.2.1 hP hD hS [2] [0, 1] rfl rfl (by decide) (by decide) (fun u_4 H locs hw_6 hP hD hS => ?_)
  have hP : va_P D vwCl [(h0, .inl (cy 1, 8, .inl kr)), (h5, .inl (cy 1, 81, .inl (fun _ => 0))), (h, .inr (0, [.int 0, .int 0, .int (-1), .ref h0, .ref h1, .ref h2, .ref h3, .ref h4, .int 0, .ref h5, .int 0, .int 0, .int 10, .int 1, .int 0, .int 8]))] H := hP
  have hD : va_D A [(h0, .inl (cy 1, 8, .inl kr)), (h5, .inl (cy 1, 81, .inl (fun _ => 0))), (h, .inr (0, [.int 0, .int 0, .int (-1), .ref h0, .ref h1, .ref h2, .ref h3, .ref h4, .int 0, .ref h5, .int 0, .int 0, .int 10, .int 1, .int 0, .int 8]))] := hD
  refine lv_iconst (v := 0) hx hb dX0_keepsFrom_26 (by decide) ?_
  refine lv_istore_n (lv' := [(3, .int 0), (0, .ref h), (1, .int 3), (2, .int 0)]) hx hb dX0_keepsFrom_27 rfl hl (by decide) rfl (fun ls hl => ?_)
  refine lv_iload_n hx hb dX0_keepsFrom_28 rfl (lv_at hl 0 rfl) ?_
  refine lv_aload_n hx hb dX0_keepsFrom_29 rfl (lv_at hl 1 rfl) ?_
  refine q_get (v := .int 0) C hP 2 10 rfl rfl inX0 (by decide) kF_RX0_43 rfl rfl dX0_keepsFrom_30 ?_
  refine lv_icmp_gt (tgt := 170) hx hb dX0_keepsFrom_33 (by decide) (fun c_0 => absurd c_0 (by decide)) (fun _ => ?_)
  refine lv_iload_n hx hb dX0_keepsFrom_36 rfl (lv_at hl 0 rfl) ?_
  refine lv_aload_n hx hb dX0_keepsFrom_37 rfl (lv_at hl 1 rfl) ?_
  refine q_get (v := .int 0) C hP 2 10 rfl rfl inX0 (by decide) kF_RX0_43 rfl rfl dX0_keepsFrom_38 ?_
  refine lv_icmp_ge (tgt := 48) hx hb dX0_keepsFrom_41 (by decide) (fun _ => ?_) (fun c_0 => absurd (by decide) c_0)
  refine lv_iconst (v := 0) hx hb dX0_keepsFrom_48 (by decide) ?_
  refine lv_istore (lv' := [(4, .int 0), (3, .int 0), (0, .ref h), (1, .int 3), (2, .int 0)]) hx hb dX0_keepsFrom_49 hl (by decide) rfl (fun ls hl => ?_)
  refine lv_iload hx hb dX0_keepsFrom_51 (lv_at hl 0 rfl) ?_
  refine lv_if_eq (tgt := 83) hx hb dX0_keepsFrom_53 (by decide) (fun _ => ?_) (fun c_0 => absurd (by decide) c_0)
  refine lv_iload_n hx hb dX0_keepsFrom_83 rfl (lv_at hl 3 rfl) ?_
  refine lv_iconst (v := 1) hx hb dX0_keepsFrom_84 (by decide) ?_
  refine lv_iadd hx hb dX0_keepsFrom_85 ?_
  refine q_val (v := 4) (by decide) ?_
  refine lv_bipush (v := 9) hx hb dX0_keepsFrom_86 (by decide) ?_
  refine lv_imul hx hb dX0_keepsFrom_88 ?_
  refine q_val (v := 36) (by decide) ?_
  refine lv_iload_n hx hb dX0_keepsFrom_89 rfl (lv_at hl 1 rfl) ?_
  refine lv_iadd hx hb dX0_keepsFrom_90 ?_
  refine q_val (v := 36) (by decide) ?_
  refine lv_istore (lv' := [(5, .int 36), (4, .int 0), (3, .int 0), (0, .ref h), (1, .int 3), (2, .int 0)]) hx hb dX0_keepsFrom_91 hl (by decide) rfl (fun ls hl => ?_)
  refine lv_aload_n hx hb dX0_keepsFrom_93 rfl (lv_at hl 3 rfl) ?_
  refine q_get (v := .ref h5) C hP 2 9 rfl rfl inX0 (by decide) kF_RX0_40 rfl rfl dX0_keepsFrom_94 ?_
  refine lv_iload hx hb dX0_keepsFrom_97 (lv_at hl 0 rfl) ?_
  refine q_iald (v := 0) C hP 1 rfl (vin (by decide +kernel)) rfl dX0_keepsFrom_99 ?_
  refine lv_istore (lv' := [(6, .int 0), (5, .int 36), (4, .int 0), (3, .int 0), (0, .ref h), (1, .int 3), (2, .int 0)]) hx hb dX0_keepsFrom_100 hl (by decide) rfl (fun ls hl => ?_)
  refine lv_aload_n hx hb dX0_keepsFrom_102 rfl (lv_at hl 4 rfl) ?_
  refine q_get (v := .ref h5) C hP 2 9 rfl rfl inX0 (by decide) kF_RX0_40 rfl rfl dX0_keepsFrom_103 ?_
  refine lv_iload hx hb dX0_keepsFrom_106 (lv_at hl 1 rfl) ?_
  refine lv_iconst (v := 0) hx hb dX0_keepsFrom_108 (by decide) ?_
  refine q_iast (g := fun _ => 0) (w' := [(h0, .inl (cy 1, 8, .inl kr)), (h5, .inl (cy 1, 81, .inl (fun _ => 0))), (h, .inr (0, [.int 0, .int 0, .int (-1), .ref h0, .ref h1, .ref h2, .ref h3, .ref h4, .int 0, .ref h5, .int 0, .int 0, .int 10, .int 1, .int 0, .int 8]))]) C hP hD hS 1 rfl (vin (by decide +kernel)) (updz _) rfl dX0_keepsFrom_109 (fun H locs hP hD hS => ?_)
  refine lv_aload_n hx hb dX0_keepsFrom_110 rfl (lv_at hl 4 rfl) ?_
  refine lv_iload_n hx hb dX0_keepsFrom_111 rfl (lv_at hl 5 rfl) ?_
  refine lv_iconst (v := 1) hx hb dX0_keepsFrom_112 (by decide) ?_
  refine lv_iadd hx hb dX0_keepsFrom_113 ?_
  refine q_val (v := 4) (by decide) ?_
  refine q_ai (wr := [(h0, .inl (cy 1, 8, .inl kr)), (h5, .inl (cy 1, 81, .inl (fun _ => 0)))]) (r_V (q0 := 0) (As := [.int 4]) (rest := []) (wc := [(h, .inr (0, [.int 0, .int 0, .int (-1), .ref h0, .ref h1, .ref h2, .ref h3, .ref h4, .int 0, .ref h5, .int 0, .int 0, .int 10, .int 1, .int 0, .int 8]))]) C (q_subP hP [2] rfl) (hD.sub [2] (by decide) rfl) (c_rareDoubt l D cy h 4 h0 h1 h2 h3 h4 h5 8 _ ) kwV_X0_areRareInDoubt kM_RX0_106 rfl rfl ⟨Nat.le_of_ble_eq_true rfl, Nat.le_of_ble_eq_true rfl⟩ rfl hl.1 rfl (Nat.le_of_ble_eq_true rfl) dX0_keepsFrom_114 ⟨Nat.le_of_ble_eq_true rfl, Nat.le_of_ble_eq_true rfl⟩) C.2.2.2.2.2.2.1 hP hD hS [2] [0, 1] rfl rfl (by decide) (by decide) (fun r_8 u_7 H locs hw_9 hP hD hS => ?_)
  have hP : va_P D vwCl [(h0, .inl (cy 1, 8, .inl kr)), (h5, .inl (cy 1, 81, .inl (fun _ => 0))), (h, .inr (0, [.int 0, .int 0, .int (-1), .ref h0, .ref h1, .ref h2, .ref h3, .ref h4, .int 0, .ref h5, .int 0, .int 0, .int 10, .int 1, .int 0, .int 8]))] H := hP
  have hD : va_D A [(h0, .inl (cy 1, 8, .inl kr)), (h5, .inl (cy 1, 81, .inl (fun _ => 0))), (h, .inr (0, [.int 0, .int 0, .int (-1), .ref h0, .ref h1, .ref h2, .ref h3, .ref h4, .int 0, .ref h5, .int 0, .int 0, .int 10, .int 1, .int 0, .int 8]))] := hD
  obtain rfl : r_8 = 1 := hw_9
  refine lv_if_eq (tgt := 155) hx hb dX0_keepsFrom_117 (by decide) (fun c_0 => absurd c_0 (by decide)) (fun _ => ?_)
  refine lv_aload_n hx hb dX0_keepsFrom_120 rfl (lv_at hl 4 rfl) ?_
  refine lv_iload_n hx hb dX0_keepsFrom_121 rfl (lv_at hl 5 rfl) ?_
  refine lv_iconst (v := 1) hx hb dX0_keepsFrom_122 (by decide) ?_
  refine lv_iadd hx hb dX0_keepsFrom_123 ?_
  refine q_val (v := 4) (by decide) ?_
  refine lv_iload hx hb dX0_keepsFrom_124 (lv_at hl 2 rfl) ?_
  refine lv_if_eq (tgt := 135) hx hb dX0_keepsFrom_126 (by decide) (fun _ => ?_) (fun c_0 => absurd (by decide) c_0)
  refine lv_iload_n hx hb dX0_keepsFrom_135 rfl (lv_at hl 6 rfl) ?_
  refine q_ai (wr := []) (r_V (q0 := 0) (As := [.int 4, .int 0]) (rest := []) (wc := [(h, .inr (0, [.int 0, .int 0, .int (-1), .ref h0, .ref h1, .ref h2, .ref h3, .ref h4, .int 0, .ref h5, .int 0, .int 0, .int 10, .int 1, .int 0, .int 8])), (h0, .inl (cy 1, 8, .inl kr)), (h5, .inl (cy 1, 81, .inl (fun _ => 0)))]) C (q_subP hP [2, 0, 1] rfl) (hD.sub [2, 0, 1] (by decide) rfl) (c_keeps_8_4 l D cy h h0 h1 h2 h3 h4 h5 kr _ ) kwV_X0_keepsFrom kM_RX0_95 rfl rfl ⟨Nat.le_of_ble_eq_true rfl, Nat.le_of_ble_eq_true rfl⟩ rfl hl.1 rfl (Nat.le_of_ble_eq_true rfl) dX0_keepsFrom_136 ⟨Nat.le_of_ble_eq_true rfl, Nat.le_of_ble_eq_true rfl⟩) C.2.2.2.2.2.2.1 hP hD hS [2, 0, 1] [] rfl rfl (by decide) (by decide) (fun r_11 u_10 H locs hw_12 hP hD hS => ?_)
  have hP : va_P D vwCl [(h, .inr (0, [.int 0, .int 0, .int (-1), .ref h0, .ref h1, .ref h2, .ref h3, .ref h4, .int 0, .ref h5, .int 0, .int 0, .int 10, .int 1, .int 0, .int 8])), (h0, .inl (cy 1, 8, .inl u_10)), (h5, .inl (cy 1, 81, .inl (fun _ => 0)))] H := hP
  have hD : va_D A [(h, .inr (0, [.int 0, .int 0, .int (-1), .ref h0, .ref h1, .ref h2, .ref h3, .ref h4, .int 0, .ref h5, .int 0, .int 0, .int 10, .int 1, .int 0, .int 8])), (h0, .inl (cy 1, 8, .inl u_10)), (h5, .inl (cy 1, 81, .inl (fun _ => 0)))] := hD
  obtain rfl : r_11 = 1 := hw_12
  refine lv_if_eq (tgt := 155) hx hb dX0_keepsFrom_139 (by decide) (fun c_0 => absurd c_0 (by decide)) (fun _ => ?_)
  refine lv_aload_n hx hb dX0_keepsFrom_142 rfl (lv_at hl 4 rfl) ?_
  refine q_get (v := .ref h0) C hP 0 3 rfl rfl inX0 (by decide) kF_RX0_21 rfl rfl dX0_keepsFrom_143 ?_
  refine lv_iload_n hx hb dX0_keepsFrom_146 rfl (lv_at hl 5 rfl) ?_
  refine lv_aload_n hx hb dX0_keepsFrom_147 rfl (lv_at hl 4 rfl) ?_
  refine lv_iload_n hx hb dX0_keepsFrom_148 rfl (lv_at hl 3 rfl) ?_
  refine q_ai (wr := [(h0, .inl (cy 1, 8, .inl u_10)), (h5, .inl (cy 1, 81, .inl (fun _ => 0)))]) (r_V (q0 := 0) (As := [.int 0]) (rest := [.int 3, .ref h0]) (wc := [(h, .inr (0, [.int 0, .int 0, .int (-1), .ref h0, .ref h1, .ref h2, .ref h3, .ref h4, .int 0, .ref h5, .int 0, .int 0, .int 10, .int 1, .int 0, .int 8]))]) C (q_subP hP [0] rfl) (hD.sub [0] (by decide) rfl) (c_bookChosen l D cy h h0 h1 h2 h3 h4 h5 8 _ ) kwV_X0_bookChosen kM_RX0_110 rfl rfl ⟨Nat.le_of_ble_eq_true rfl, Nat.le_of_ble_eq_true rfl⟩ rfl hl.1 rfl (Nat.le_of_ble_eq_true rfl) dX0_keepsFrom_149 ⟨Nat.le_of_ble_eq_true rfl, Nat.le_of_ble_eq_true rfl⟩) C.2.2.2.2.2.2.1 hP hD hS [0] [1, 2] rfl rfl (by decide) (by decide) (fun r_14 u_13 H locs hw_15 hP hD hS => ?_)
  have hP : va_P D vwCl [(h0, .inl (cy 1, 8, .inl u_10)), (h5, .inl (cy 1, 81, .inl (fun _ => 0))), (h, .inr (0, [.int 0, .int 0, .int (-1), .ref h0, .ref h1, .ref h2, .ref h3, .ref h4, .int 0, .ref h5, .int 0, .int 0, .int 10, .int 1, .int 0, .int 8]))] H := hP
  have hD : va_D A [(h0, .inl (cy 1, 8, .inl u_10)), (h5, .inl (cy 1, 81, .inl (fun _ => 0))), (h, .inr (0, [.int 0, .int 0, .int (-1), .ref h0, .ref h1, .ref h2, .ref h3, .ref h4, .int 0, .ref h5, .int 0, .int 0, .int 10, .int 1, .int 0, .int 8]))] := hD
  obtain rfl : r_14 = (-1) := hw_15
  refine q_iast (g := upd u_10 3 (-1)) (w' := [(h0, .inl (cy 1, 8, .inl (upd u_10 3 (-1)))), (h5, .inl (cy 1, 81, .inl (fun _ => 0))), (h, .inr (0, [.int 0, .int 0, .int (-1), .ref h0, .ref h1, .ref h2, .ref h3, .ref h4, .int 0, .ref h5, .int 0, .int 0, .int 10, .int 1, .int 0, .int 8]))]) C hP hD hS 0 rfl (vin (by decide +kernel)) rfl rfl dX0_keepsFrom_152 (fun H locs hP hD hS => ?_)
  refine lv_iconst (v := 1) hx hb dX0_keepsFrom_153 (by decide) ?_
  exact q_iret (rm := (Rm 5 130 0 0)) C hS (upd u_10 3 (-1)) rfl rfl (q_subP hP [2, 0, 1] rfl) (hD.sub [2, 0, 1] (by decide) rfl) (Nat.le_of_ble_eq_true rfl) (Nat.le_of_ble_eq_true rfl) dX0_keepsFrom_154
set_option maxHeartbeats 4000000 in
set_option maxRecDepth 100000 in
theorem c_keeps_8_2 (l : Launch) (D : va_G) (cy : Nat → ClassId) (h : Nat) (h0 : Nat) (h1 : Nat) (h2 : Nat) (h3 : Nat) (h4 : Nat) (h5 : Nat) (kr : Nat → Int32) (sz : Nat)  : MI l yX0_keepsFrom cX0_keepsFrom 7 (some .boolean) (Rm 6 156 0 0) D cy [.ref h, .int 2, .int 0] sz [(h, .inr (0, [.int 0, .int 0, .int (-1), .ref h0, .ref h1, .ref h2, .ref h3, .ref h4, .int 0, .ref h5, .int 0, .int 0, .int 10, .int 1, .int 0, .int 8])), (h0, .inl (cy 1, 8, .inl kr)), (h5, .inl (cy 1, 81, .inl (fun _ => 0)))] (fun (r : Int32) (u : Nat → Int32) => r = 1) (fun u : Nat → Int32 => [(h, .inr (0, [.int 0, .int 0, .int (-1), .ref h0, .ref h1, .ref h2, .ref h3, .ref h4, .int 0, .ref h5, .int 0, .int 0, .int 10, .int 1, .int 0, .int 8])), (h0, .inl (cy 1, 8, .inl u)), (h5, .inl (cy 1, 81, .inl (fun _ => 0)))]) := by
  refine MI.enter (by decide) (Nat.le_of_ble_eq_true rfl) ?_
  intro p e s m below meth c ls A hsz hAe C hP hD hS hl
  have C : Cx p s m _ meth c cX0_keepsFrom 7 (some .boolean) RX0 "keepsFrom" D cy A := C
  have hx := C.1
  have hb := C.2.1
  have hl : lv_has ls 7 [(0, .ref h), (1, .int 2), (2, .int 0)] := hl
  refine lv_iload_n hx hb dX0_keepsFrom_0 rfl (lv_at hl 1 rfl) ?_
  refine lv_aload_n hx hb dX0_keepsFrom_1 rfl (lv_at hl 0 rfl) ?_
  refine q_get (v := .int 8) C hP 0 15 rfl rfl inX0 (by decide) kF_RX0_58 rfl rfl dX0_keepsFrom_2 ?_
  refine lv_icmp_lt (tgt := 10) hx hb dX0_keepsFrom_5 (by decide) (fun _ => ?_) (fun c_0 => absurd (by decide) c_0)
  refine lv_aload_n hx hb dX0_keepsFrom_10 rfl (lv_at hl 0 rfl) ?_
  refine lv_iload_n hx hb dX0_keepsFrom_11 rfl (lv_at hl 1 rfl) ?_
  refine q_ai (wr := [(h0, .inl (cy 1, 8, .inl kr)), (h5, .inl (cy 1, 81, .inl (fun _ => 0)))]) (r_V (q0 := 0) (As := [.int 2]) (rest := []) (wc := [(h, .inr (0, [.int 0, .int 0, .int (-1), .ref h0, .ref h1, .ref h2, .ref h3, .ref h4, .int 0, .ref h5, .int 0, .int 0, .int 10, .int 1, .int 0, .int 8]))]) C (q_subP hP [0] rfl) (hD.sub [0] (by decide) rfl) (c_askNeeded l D cy h 2 h0 h1 h2 h3 h4 h5 8 _ ) kwV_X0_askingsNeeded kM_RX0_98 rfl rfl ⟨Nat.le_of_ble_eq_true rfl, Nat.le_of_ble_eq_true rfl⟩ rfl hl.1 rfl (Nat.le_of_ble_eq_true rfl) dX0_keepsFrom_12 ⟨Nat.le_of_ble_eq_true rfl, Nat.le_of_ble_eq_true rfl⟩) C.2.2.2.2.2.2.1 hP hD hS [0] [1, 2] rfl rfl (by decide) (by decide) (fun r_2 u_1 H locs hw_3 hP hD hS => ?_)
  have hP : va_P D vwCl [(h0, .inl (cy 1, 8, .inl kr)), (h5, .inl (cy 1, 81, .inl (fun _ => 0))), (h, .inr (0, [.int 0, .int 0, .int (-1), .ref h0, .ref h1, .ref h2, .ref h3, .ref h4, .int 0, .ref h5, .int 0, .int 0, .int 10, .int 1, .int 0, .int 8]))] H := hP
  have hD : va_D A [(h0, .inl (cy 1, 8, .inl kr)), (h5, .inl (cy 1, 81, .inl (fun _ => 0))), (h, .inr (0, [.int 0, .int 0, .int (-1), .ref h0, .ref h1, .ref h2, .ref h3, .ref h4, .int 0, .ref h5, .int 0, .int 0, .int 10, .int 1, .int 0, .int 8]))] := hD
  obtain rfl : r_2 = 0 := hw_3
  refine lv_iload_n hx hb dX0_keepsFrom_15 rfl (lv_at hl 2 rfl) ?_
  refine lv_icmp_le (tgt := 21) hx hb dX0_keepsFrom_16 (by decide) (fun _ => ?_) (fun c_0 => absurd (by decide) c_0)
  refine lv_aload_n hx hb dX0_keepsFrom_21 rfl (lv_at hl 0 rfl) ?_
  refine lv_iload_n hx hb dX0_keepsFrom_22 rfl (lv_at hl 1 rfl) ?_
  refine q_av (wr := [(h0, .inl (cy 1, 8, .inl kr)), (h5, .inl (cy 1, 81, .inl (fun _ => 0)))]) (r_V (q0 := 0) (As := [.int 2]) (rest := []) (wc := [(h, .inr (0, [.int 0, .int 0, .int (-1), .ref h0, .ref h1, .ref h2, .ref h3, .ref h4, .int 0, .ref h5, .int 0, .int 0, .int 10, .int 1, .int 0, .int 8]))]) C (q_subP hP [2] rfl) (hD.sub [2] (by decide) rfl) (c_passDay l D cy h 2 h0 h1 h2 h3 h4 h5 8 _ ) kwV_X0_passDay kM_RX0_102 rfl rfl ⟨Nat.le_of_ble_eq_true rfl, Nat.le_of_ble_eq_true rfl⟩ rfl hl.1 rfl (Nat.le_of_ble_eq_true rfl) dX0_keepsFrom_23 ⟨Nat.le_of_ble_eq_true rfl, Nat.le_of_ble_eq_true rfl⟩) C.2.2.2.2.2.2.1 hP hD hS [2] [0, 1] rfl rfl (by decide) (by decide) (fun u_4 H locs hw_6 hP hD hS => ?_)
  have hP : va_P D vwCl [(h0, .inl (cy 1, 8, .inl kr)), (h5, .inl (cy 1, 81, .inl (fun _ => 0))), (h, .inr (0, [.int 0, .int 0, .int (-1), .ref h0, .ref h1, .ref h2, .ref h3, .ref h4, .int 0, .ref h5, .int 0, .int 0, .int 10, .int 1, .int 0, .int 8]))] H := hP
  have hD : va_D A [(h0, .inl (cy 1, 8, .inl kr)), (h5, .inl (cy 1, 81, .inl (fun _ => 0))), (h, .inr (0, [.int 0, .int 0, .int (-1), .ref h0, .ref h1, .ref h2, .ref h3, .ref h4, .int 0, .ref h5, .int 0, .int 0, .int 10, .int 1, .int 0, .int 8]))] := hD
  refine lv_iconst (v := 0) hx hb dX0_keepsFrom_26 (by decide) ?_
  refine lv_istore_n (lv' := [(3, .int 0), (0, .ref h), (1, .int 2), (2, .int 0)]) hx hb dX0_keepsFrom_27 rfl hl (by decide) rfl (fun ls hl => ?_)
  refine lv_iload_n hx hb dX0_keepsFrom_28 rfl (lv_at hl 0 rfl) ?_
  refine lv_aload_n hx hb dX0_keepsFrom_29 rfl (lv_at hl 1 rfl) ?_
  refine q_get (v := .int 0) C hP 2 10 rfl rfl inX0 (by decide) kF_RX0_43 rfl rfl dX0_keepsFrom_30 ?_
  refine lv_icmp_gt (tgt := 170) hx hb dX0_keepsFrom_33 (by decide) (fun c_0 => absurd c_0 (by decide)) (fun _ => ?_)
  refine lv_iload_n hx hb dX0_keepsFrom_36 rfl (lv_at hl 0 rfl) ?_
  refine lv_aload_n hx hb dX0_keepsFrom_37 rfl (lv_at hl 1 rfl) ?_
  refine q_get (v := .int 0) C hP 2 10 rfl rfl inX0 (by decide) kF_RX0_43 rfl rfl dX0_keepsFrom_38 ?_
  refine lv_icmp_ge (tgt := 48) hx hb dX0_keepsFrom_41 (by decide) (fun _ => ?_) (fun c_0 => absurd (by decide) c_0)
  refine lv_iconst (v := 0) hx hb dX0_keepsFrom_48 (by decide) ?_
  refine lv_istore (lv' := [(4, .int 0), (3, .int 0), (0, .ref h), (1, .int 2), (2, .int 0)]) hx hb dX0_keepsFrom_49 hl (by decide) rfl (fun ls hl => ?_)
  refine lv_iload hx hb dX0_keepsFrom_51 (lv_at hl 0 rfl) ?_
  refine lv_if_eq (tgt := 83) hx hb dX0_keepsFrom_53 (by decide) (fun _ => ?_) (fun c_0 => absurd (by decide) c_0)
  refine lv_iload_n hx hb dX0_keepsFrom_83 rfl (lv_at hl 3 rfl) ?_
  refine lv_iconst (v := 1) hx hb dX0_keepsFrom_84 (by decide) ?_
  refine lv_iadd hx hb dX0_keepsFrom_85 ?_
  refine q_val (v := 3) (by decide) ?_
  refine lv_bipush (v := 9) hx hb dX0_keepsFrom_86 (by decide) ?_
  refine lv_imul hx hb dX0_keepsFrom_88 ?_
  refine q_val (v := 27) (by decide) ?_
  refine lv_iload_n hx hb dX0_keepsFrom_89 rfl (lv_at hl 1 rfl) ?_
  refine lv_iadd hx hb dX0_keepsFrom_90 ?_
  refine q_val (v := 27) (by decide) ?_
  refine lv_istore (lv' := [(5, .int 27), (4, .int 0), (3, .int 0), (0, .ref h), (1, .int 2), (2, .int 0)]) hx hb dX0_keepsFrom_91 hl (by decide) rfl (fun ls hl => ?_)
  refine lv_aload_n hx hb dX0_keepsFrom_93 rfl (lv_at hl 3 rfl) ?_
  refine q_get (v := .ref h5) C hP 2 9 rfl rfl inX0 (by decide) kF_RX0_40 rfl rfl dX0_keepsFrom_94 ?_
  refine lv_iload hx hb dX0_keepsFrom_97 (lv_at hl 0 rfl) ?_
  refine q_iald (v := 0) C hP 1 rfl (vin (by decide +kernel)) rfl dX0_keepsFrom_99 ?_
  refine lv_istore (lv' := [(6, .int 0), (5, .int 27), (4, .int 0), (3, .int 0), (0, .ref h), (1, .int 2), (2, .int 0)]) hx hb dX0_keepsFrom_100 hl (by decide) rfl (fun ls hl => ?_)
  refine lv_aload_n hx hb dX0_keepsFrom_102 rfl (lv_at hl 4 rfl) ?_
  refine q_get (v := .ref h5) C hP 2 9 rfl rfl inX0 (by decide) kF_RX0_40 rfl rfl dX0_keepsFrom_103 ?_
  refine lv_iload hx hb dX0_keepsFrom_106 (lv_at hl 1 rfl) ?_
  refine lv_iconst (v := 0) hx hb dX0_keepsFrom_108 (by decide) ?_
  refine q_iast (g := fun _ => 0) (w' := [(h0, .inl (cy 1, 8, .inl kr)), (h5, .inl (cy 1, 81, .inl (fun _ => 0))), (h, .inr (0, [.int 0, .int 0, .int (-1), .ref h0, .ref h1, .ref h2, .ref h3, .ref h4, .int 0, .ref h5, .int 0, .int 0, .int 10, .int 1, .int 0, .int 8]))]) C hP hD hS 1 rfl (vin (by decide +kernel)) (updz _) rfl dX0_keepsFrom_109 (fun H locs hP hD hS => ?_)
  refine lv_aload_n hx hb dX0_keepsFrom_110 rfl (lv_at hl 4 rfl) ?_
  refine lv_iload_n hx hb dX0_keepsFrom_111 rfl (lv_at hl 5 rfl) ?_
  refine lv_iconst (v := 1) hx hb dX0_keepsFrom_112 (by decide) ?_
  refine lv_iadd hx hb dX0_keepsFrom_113 ?_
  refine q_val (v := 3) (by decide) ?_
  refine q_ai (wr := [(h0, .inl (cy 1, 8, .inl kr)), (h5, .inl (cy 1, 81, .inl (fun _ => 0)))]) (r_V (q0 := 0) (As := [.int 3]) (rest := []) (wc := [(h, .inr (0, [.int 0, .int 0, .int (-1), .ref h0, .ref h1, .ref h2, .ref h3, .ref h4, .int 0, .ref h5, .int 0, .int 0, .int 10, .int 1, .int 0, .int 8]))]) C (q_subP hP [2] rfl) (hD.sub [2] (by decide) rfl) (c_rareDoubt l D cy h 3 h0 h1 h2 h3 h4 h5 8 _ ) kwV_X0_areRareInDoubt kM_RX0_106 rfl rfl ⟨Nat.le_of_ble_eq_true rfl, Nat.le_of_ble_eq_true rfl⟩ rfl hl.1 rfl (Nat.le_of_ble_eq_true rfl) dX0_keepsFrom_114 ⟨Nat.le_of_ble_eq_true rfl, Nat.le_of_ble_eq_true rfl⟩) C.2.2.2.2.2.2.1 hP hD hS [2] [0, 1] rfl rfl (by decide) (by decide) (fun r_8 u_7 H locs hw_9 hP hD hS => ?_)
  have hP : va_P D vwCl [(h0, .inl (cy 1, 8, .inl kr)), (h5, .inl (cy 1, 81, .inl (fun _ => 0))), (h, .inr (0, [.int 0, .int 0, .int (-1), .ref h0, .ref h1, .ref h2, .ref h3, .ref h4, .int 0, .ref h5, .int 0, .int 0, .int 10, .int 1, .int 0, .int 8]))] H := hP
  have hD : va_D A [(h0, .inl (cy 1, 8, .inl kr)), (h5, .inl (cy 1, 81, .inl (fun _ => 0))), (h, .inr (0, [.int 0, .int 0, .int (-1), .ref h0, .ref h1, .ref h2, .ref h3, .ref h4, .int 0, .ref h5, .int 0, .int 0, .int 10, .int 1, .int 0, .int 8]))] := hD
  obtain rfl : r_8 = 1 := hw_9
  refine lv_if_eq (tgt := 155) hx hb dX0_keepsFrom_117 (by decide) (fun c_0 => absurd c_0 (by decide)) (fun _ => ?_)
  refine lv_aload_n hx hb dX0_keepsFrom_120 rfl (lv_at hl 4 rfl) ?_
  refine lv_iload_n hx hb dX0_keepsFrom_121 rfl (lv_at hl 5 rfl) ?_
  refine lv_iconst (v := 1) hx hb dX0_keepsFrom_122 (by decide) ?_
  refine lv_iadd hx hb dX0_keepsFrom_123 ?_
  refine q_val (v := 3) (by decide) ?_
  refine lv_iload hx hb dX0_keepsFrom_124 (lv_at hl 2 rfl) ?_
  refine lv_if_eq (tgt := 135) hx hb dX0_keepsFrom_126 (by decide) (fun _ => ?_) (fun c_0 => absurd (by decide) c_0)
  refine lv_iload_n hx hb dX0_keepsFrom_135 rfl (lv_at hl 6 rfl) ?_
  refine q_ai (wr := []) (r_V (q0 := 0) (As := [.int 3, .int 0]) (rest := []) (wc := [(h, .inr (0, [.int 0, .int 0, .int (-1), .ref h0, .ref h1, .ref h2, .ref h3, .ref h4, .int 0, .ref h5, .int 0, .int 0, .int 10, .int 1, .int 0, .int 8])), (h0, .inl (cy 1, 8, .inl kr)), (h5, .inl (cy 1, 81, .inl (fun _ => 0)))]) C (q_subP hP [2, 0, 1] rfl) (hD.sub [2, 0, 1] (by decide) rfl) (c_keeps_8_3 l D cy h h0 h1 h2 h3 h4 h5 kr _ ) kwV_X0_keepsFrom kM_RX0_95 rfl rfl ⟨Nat.le_of_ble_eq_true rfl, Nat.le_of_ble_eq_true rfl⟩ rfl hl.1 rfl (Nat.le_of_ble_eq_true rfl) dX0_keepsFrom_136 ⟨Nat.le_of_ble_eq_true rfl, Nat.le_of_ble_eq_true rfl⟩) C.2.2.2.2.2.2.1 hP hD hS [2, 0, 1] [] rfl rfl (by decide) (by decide) (fun r_11 u_10 H locs hw_12 hP hD hS => ?_)
  have hP : va_P D vwCl [(h, .inr (0, [.int 0, .int 0, .int (-1), .ref h0, .ref h1, .ref h2, .ref h3, .ref h4, .int 0, .ref h5, .int 0, .int 0, .int 10, .int 1, .int 0, .int 8])), (h0, .inl (cy 1, 8, .inl u_10)), (h5, .inl (cy 1, 81, .inl (fun _ => 0)))] H := hP
  have hD : va_D A [(h, .inr (0, [.int 0, .int 0, .int (-1), .ref h0, .ref h1, .ref h2, .ref h3, .ref h4, .int 0, .ref h5, .int 0, .int 0, .int 10, .int 1, .int 0, .int 8])), (h0, .inl (cy 1, 8, .inl u_10)), (h5, .inl (cy 1, 81, .inl (fun _ => 0)))] := hD
  obtain rfl : r_11 = 1 := hw_12
  refine lv_if_eq (tgt := 155) hx hb dX0_keepsFrom_139 (by decide) (fun c_0 => absurd c_0 (by decide)) (fun _ => ?_)
  refine lv_aload_n hx hb dX0_keepsFrom_142 rfl (lv_at hl 4 rfl) ?_
  refine q_get (v := .ref h0) C hP 0 3 rfl rfl inX0 (by decide) kF_RX0_21 rfl rfl dX0_keepsFrom_143 ?_
  refine lv_iload_n hx hb dX0_keepsFrom_146 rfl (lv_at hl 5 rfl) ?_
  refine lv_aload_n hx hb dX0_keepsFrom_147 rfl (lv_at hl 4 rfl) ?_
  refine lv_iload_n hx hb dX0_keepsFrom_148 rfl (lv_at hl 3 rfl) ?_
  refine q_ai (wr := [(h0, .inl (cy 1, 8, .inl u_10)), (h5, .inl (cy 1, 81, .inl (fun _ => 0)))]) (r_V (q0 := 0) (As := [.int 0]) (rest := [.int 2, .ref h0]) (wc := [(h, .inr (0, [.int 0, .int 0, .int (-1), .ref h0, .ref h1, .ref h2, .ref h3, .ref h4, .int 0, .ref h5, .int 0, .int 0, .int 10, .int 1, .int 0, .int 8]))]) C (q_subP hP [0] rfl) (hD.sub [0] (by decide) rfl) (c_bookChosen l D cy h h0 h1 h2 h3 h4 h5 8 _ ) kwV_X0_bookChosen kM_RX0_110 rfl rfl ⟨Nat.le_of_ble_eq_true rfl, Nat.le_of_ble_eq_true rfl⟩ rfl hl.1 rfl (Nat.le_of_ble_eq_true rfl) dX0_keepsFrom_149 ⟨Nat.le_of_ble_eq_true rfl, Nat.le_of_ble_eq_true rfl⟩) C.2.2.2.2.2.2.1 hP hD hS [0] [1, 2] rfl rfl (by decide) (by decide) (fun r_14 u_13 H locs hw_15 hP hD hS => ?_)
  have hP : va_P D vwCl [(h0, .inl (cy 1, 8, .inl u_10)), (h5, .inl (cy 1, 81, .inl (fun _ => 0))), (h, .inr (0, [.int 0, .int 0, .int (-1), .ref h0, .ref h1, .ref h2, .ref h3, .ref h4, .int 0, .ref h5, .int 0, .int 0, .int 10, .int 1, .int 0, .int 8]))] H := hP
  have hD : va_D A [(h0, .inl (cy 1, 8, .inl u_10)), (h5, .inl (cy 1, 81, .inl (fun _ => 0))), (h, .inr (0, [.int 0, .int 0, .int (-1), .ref h0, .ref h1, .ref h2, .ref h3, .ref h4, .int 0, .ref h5, .int 0, .int 0, .int 10, .int 1, .int 0, .int 8]))] := hD
  obtain rfl : r_14 = (-1) := hw_15
  refine q_iast (g := upd u_10 2 (-1)) (w' := [(h0, .inl (cy 1, 8, .inl (upd u_10 2 (-1)))), (h5, .inl (cy 1, 81, .inl (fun _ => 0))), (h, .inr (0, [.int 0, .int 0, .int (-1), .ref h0, .ref h1, .ref h2, .ref h3, .ref h4, .int 0, .ref h5, .int 0, .int 0, .int 10, .int 1, .int 0, .int 8]))]) C hP hD hS 0 rfl (vin (by decide +kernel)) rfl rfl dX0_keepsFrom_152 (fun H locs hP hD hS => ?_)
  refine lv_iconst (v := 1) hx hb dX0_keepsFrom_153 (by decide) ?_
  exact q_iret (rm := (Rm 6 156 0 0)) C hS (upd u_10 2 (-1)) rfl rfl (q_subP hP [2, 0, 1] rfl) (hD.sub [2, 0, 1] (by decide) rfl) (Nat.le_of_ble_eq_true rfl) (Nat.le_of_ble_eq_true rfl) dX0_keepsFrom_154
set_option maxHeartbeats 4000000 in
set_option maxRecDepth 100000 in
theorem c_keeps_8_1 (l : Launch) (D : va_G) (cy : Nat → ClassId) (h : Nat) (h0 : Nat) (h1 : Nat) (h2 : Nat) (h3 : Nat) (h4 : Nat) (h5 : Nat) (kr : Nat → Int32) (sz : Nat)  : MI l yX0_keepsFrom cX0_keepsFrom 7 (some .boolean) (Rm 7 182 0 0) D cy [.ref h, .int 1, .int 0] sz [(h, .inr (0, [.int 0, .int 0, .int (-1), .ref h0, .ref h1, .ref h2, .ref h3, .ref h4, .int 0, .ref h5, .int 0, .int 0, .int 10, .int 1, .int 0, .int 8])), (h0, .inl (cy 1, 8, .inl kr)), (h5, .inl (cy 1, 81, .inl (fun _ => 0)))] (fun (r : Int32) (u : Nat → Int32) => r = 1) (fun u : Nat → Int32 => [(h, .inr (0, [.int 0, .int 0, .int (-1), .ref h0, .ref h1, .ref h2, .ref h3, .ref h4, .int 0, .ref h5, .int 0, .int 0, .int 10, .int 1, .int 0, .int 8])), (h0, .inl (cy 1, 8, .inl u)), (h5, .inl (cy 1, 81, .inl (fun _ => 0)))]) := by
  refine MI.enter (by decide) (Nat.le_of_ble_eq_true rfl) ?_
  intro p e s m below meth c ls A hsz hAe C hP hD hS hl
  have C : Cx p s m _ meth c cX0_keepsFrom 7 (some .boolean) RX0 "keepsFrom" D cy A := C
  have hx := C.1
  have hb := C.2.1
  have hl : lv_has ls 7 [(0, .ref h), (1, .int 1), (2, .int 0)] := hl
  refine lv_iload_n hx hb dX0_keepsFrom_0 rfl (lv_at hl 1 rfl) ?_
  refine lv_aload_n hx hb dX0_keepsFrom_1 rfl (lv_at hl 0 rfl) ?_
  refine q_get (v := .int 8) C hP 0 15 rfl rfl inX0 (by decide) kF_RX0_58 rfl rfl dX0_keepsFrom_2 ?_
  refine lv_icmp_lt (tgt := 10) hx hb dX0_keepsFrom_5 (by decide) (fun _ => ?_) (fun c_0 => absurd (by decide) c_0)
  refine lv_aload_n hx hb dX0_keepsFrom_10 rfl (lv_at hl 0 rfl) ?_
  refine lv_iload_n hx hb dX0_keepsFrom_11 rfl (lv_at hl 1 rfl) ?_
  refine q_ai (wr := [(h0, .inl (cy 1, 8, .inl kr)), (h5, .inl (cy 1, 81, .inl (fun _ => 0)))]) (r_V (q0 := 0) (As := [.int 1]) (rest := []) (wc := [(h, .inr (0, [.int 0, .int 0, .int (-1), .ref h0, .ref h1, .ref h2, .ref h3, .ref h4, .int 0, .ref h5, .int 0, .int 0, .int 10, .int 1, .int 0, .int 8]))]) C (q_subP hP [0] rfl) (hD.sub [0] (by decide) rfl) (c_askNeeded l D cy h 1 h0 h1 h2 h3 h4 h5 8 _ ) kwV_X0_askingsNeeded kM_RX0_98 rfl rfl ⟨Nat.le_of_ble_eq_true rfl, Nat.le_of_ble_eq_true rfl⟩ rfl hl.1 rfl (Nat.le_of_ble_eq_true rfl) dX0_keepsFrom_12 ⟨Nat.le_of_ble_eq_true rfl, Nat.le_of_ble_eq_true rfl⟩) C.2.2.2.2.2.2.1 hP hD hS [0] [1, 2] rfl rfl (by decide) (by decide) (fun r_2 u_1 H locs hw_3 hP hD hS => ?_)
  have hP : va_P D vwCl [(h0, .inl (cy 1, 8, .inl kr)), (h5, .inl (cy 1, 81, .inl (fun _ => 0))), (h, .inr (0, [.int 0, .int 0, .int (-1), .ref h0, .ref h1, .ref h2, .ref h3, .ref h4, .int 0, .ref h5, .int 0, .int 0, .int 10, .int 1, .int 0, .int 8]))] H := hP
  have hD : va_D A [(h0, .inl (cy 1, 8, .inl kr)), (h5, .inl (cy 1, 81, .inl (fun _ => 0))), (h, .inr (0, [.int 0, .int 0, .int (-1), .ref h0, .ref h1, .ref h2, .ref h3, .ref h4, .int 0, .ref h5, .int 0, .int 0, .int 10, .int 1, .int 0, .int 8]))] := hD
  obtain rfl : r_2 = 0 := hw_3
  refine lv_iload_n hx hb dX0_keepsFrom_15 rfl (lv_at hl 2 rfl) ?_
  refine lv_icmp_le (tgt := 21) hx hb dX0_keepsFrom_16 (by decide) (fun _ => ?_) (fun c_0 => absurd (by decide) c_0)
  refine lv_aload_n hx hb dX0_keepsFrom_21 rfl (lv_at hl 0 rfl) ?_
  refine lv_iload_n hx hb dX0_keepsFrom_22 rfl (lv_at hl 1 rfl) ?_
  refine q_av (wr := [(h0, .inl (cy 1, 8, .inl kr)), (h5, .inl (cy 1, 81, .inl (fun _ => 0)))]) (r_V (q0 := 0) (As := [.int 1]) (rest := []) (wc := [(h, .inr (0, [.int 0, .int 0, .int (-1), .ref h0, .ref h1, .ref h2, .ref h3, .ref h4, .int 0, .ref h5, .int 0, .int 0, .int 10, .int 1, .int 0, .int 8]))]) C (q_subP hP [2] rfl) (hD.sub [2] (by decide) rfl) (c_passDay l D cy h 1 h0 h1 h2 h3 h4 h5 8 _ ) kwV_X0_passDay kM_RX0_102 rfl rfl ⟨Nat.le_of_ble_eq_true rfl, Nat.le_of_ble_eq_true rfl⟩ rfl hl.1 rfl (Nat.le_of_ble_eq_true rfl) dX0_keepsFrom_23 ⟨Nat.le_of_ble_eq_true rfl, Nat.le_of_ble_eq_true rfl⟩) C.2.2.2.2.2.2.1 hP hD hS [2] [0, 1] rfl rfl (by decide) (by decide) (fun u_4 H locs hw_6 hP hD hS => ?_)
  have hP : va_P D vwCl [(h0, .inl (cy 1, 8, .inl kr)), (h5, .inl (cy 1, 81, .inl (fun _ => 0))), (h, .inr (0, [.int 0, .int 0, .int (-1), .ref h0, .ref h1, .ref h2, .ref h3, .ref h4, .int 0, .ref h5, .int 0, .int 0, .int 10, .int 1, .int 0, .int 8]))] H := hP
  have hD : va_D A [(h0, .inl (cy 1, 8, .inl kr)), (h5, .inl (cy 1, 81, .inl (fun _ => 0))), (h, .inr (0, [.int 0, .int 0, .int (-1), .ref h0, .ref h1, .ref h2, .ref h3, .ref h4, .int 0, .ref h5, .int 0, .int 0, .int 10, .int 1, .int 0, .int 8]))] := hD
  refine lv_iconst (v := 0) hx hb dX0_keepsFrom_26 (by decide) ?_
  refine lv_istore_n (lv' := [(3, .int 0), (0, .ref h), (1, .int 1), (2, .int 0)]) hx hb dX0_keepsFrom_27 rfl hl (by decide) rfl (fun ls hl => ?_)
  refine lv_iload_n hx hb dX0_keepsFrom_28 rfl (lv_at hl 0 rfl) ?_
  refine lv_aload_n hx hb dX0_keepsFrom_29 rfl (lv_at hl 1 rfl) ?_
  refine q_get (v := .int 0) C hP 2 10 rfl rfl inX0 (by decide) kF_RX0_43 rfl rfl dX0_keepsFrom_30 ?_
  refine lv_icmp_gt (tgt := 170) hx hb dX0_keepsFrom_33 (by decide) (fun c_0 => absurd c_0 (by decide)) (fun _ => ?_)
  refine lv_iload_n hx hb dX0_keepsFrom_36 rfl (lv_at hl 0 rfl) ?_
  refine lv_aload_n hx hb dX0_keepsFrom_37 rfl (lv_at hl 1 rfl) ?_
  refine q_get (v := .int 0) C hP 2 10 rfl rfl inX0 (by decide) kF_RX0_43 rfl rfl dX0_keepsFrom_38 ?_
  refine lv_icmp_ge (tgt := 48) hx hb dX0_keepsFrom_41 (by decide) (fun _ => ?_) (fun c_0 => absurd (by decide) c_0)
  refine lv_iconst (v := 0) hx hb dX0_keepsFrom_48 (by decide) ?_
  refine lv_istore (lv' := [(4, .int 0), (3, .int 0), (0, .ref h), (1, .int 1), (2, .int 0)]) hx hb dX0_keepsFrom_49 hl (by decide) rfl (fun ls hl => ?_)
  refine lv_iload hx hb dX0_keepsFrom_51 (lv_at hl 0 rfl) ?_
  refine lv_if_eq (tgt := 83) hx hb dX0_keepsFrom_53 (by decide) (fun _ => ?_) (fun c_0 => absurd (by decide) c_0)
  refine lv_iload_n hx hb dX0_keepsFrom_83 rfl (lv_at hl 3 rfl) ?_
  refine lv_iconst (v := 1) hx hb dX0_keepsFrom_84 (by decide) ?_
  refine lv_iadd hx hb dX0_keepsFrom_85 ?_
  refine q_val (v := 2) (by decide) ?_
  refine lv_bipush (v := 9) hx hb dX0_keepsFrom_86 (by decide) ?_
  refine lv_imul hx hb dX0_keepsFrom_88 ?_
  refine q_val (v := 18) (by decide) ?_
  refine lv_iload_n hx hb dX0_keepsFrom_89 rfl (lv_at hl 1 rfl) ?_
  refine lv_iadd hx hb dX0_keepsFrom_90 ?_
  refine q_val (v := 18) (by decide) ?_
  refine lv_istore (lv' := [(5, .int 18), (4, .int 0), (3, .int 0), (0, .ref h), (1, .int 1), (2, .int 0)]) hx hb dX0_keepsFrom_91 hl (by decide) rfl (fun ls hl => ?_)
  refine lv_aload_n hx hb dX0_keepsFrom_93 rfl (lv_at hl 3 rfl) ?_
  refine q_get (v := .ref h5) C hP 2 9 rfl rfl inX0 (by decide) kF_RX0_40 rfl rfl dX0_keepsFrom_94 ?_
  refine lv_iload hx hb dX0_keepsFrom_97 (lv_at hl 0 rfl) ?_
  refine q_iald (v := 0) C hP 1 rfl (vin (by decide +kernel)) rfl dX0_keepsFrom_99 ?_
  refine lv_istore (lv' := [(6, .int 0), (5, .int 18), (4, .int 0), (3, .int 0), (0, .ref h), (1, .int 1), (2, .int 0)]) hx hb dX0_keepsFrom_100 hl (by decide) rfl (fun ls hl => ?_)
  refine lv_aload_n hx hb dX0_keepsFrom_102 rfl (lv_at hl 4 rfl) ?_
  refine q_get (v := .ref h5) C hP 2 9 rfl rfl inX0 (by decide) kF_RX0_40 rfl rfl dX0_keepsFrom_103 ?_
  refine lv_iload hx hb dX0_keepsFrom_106 (lv_at hl 1 rfl) ?_
  refine lv_iconst (v := 0) hx hb dX0_keepsFrom_108 (by decide) ?_
  refine q_iast (g := fun _ => 0) (w' := [(h0, .inl (cy 1, 8, .inl kr)), (h5, .inl (cy 1, 81, .inl (fun _ => 0))), (h, .inr (0, [.int 0, .int 0, .int (-1), .ref h0, .ref h1, .ref h2, .ref h3, .ref h4, .int 0, .ref h5, .int 0, .int 0, .int 10, .int 1, .int 0, .int 8]))]) C hP hD hS 1 rfl (vin (by decide +kernel)) (updz _) rfl dX0_keepsFrom_109 (fun H locs hP hD hS => ?_)
  refine lv_aload_n hx hb dX0_keepsFrom_110 rfl (lv_at hl 4 rfl) ?_
  refine lv_iload_n hx hb dX0_keepsFrom_111 rfl (lv_at hl 5 rfl) ?_
  refine lv_iconst (v := 1) hx hb dX0_keepsFrom_112 (by decide) ?_
  refine lv_iadd hx hb dX0_keepsFrom_113 ?_
  refine q_val (v := 2) (by decide) ?_
  refine q_ai (wr := [(h0, .inl (cy 1, 8, .inl kr)), (h5, .inl (cy 1, 81, .inl (fun _ => 0)))]) (r_V (q0 := 0) (As := [.int 2]) (rest := []) (wc := [(h, .inr (0, [.int 0, .int 0, .int (-1), .ref h0, .ref h1, .ref h2, .ref h3, .ref h4, .int 0, .ref h5, .int 0, .int 0, .int 10, .int 1, .int 0, .int 8]))]) C (q_subP hP [2] rfl) (hD.sub [2] (by decide) rfl) (c_rareDoubt l D cy h 2 h0 h1 h2 h3 h4 h5 8 _ ) kwV_X0_areRareInDoubt kM_RX0_106 rfl rfl ⟨Nat.le_of_ble_eq_true rfl, Nat.le_of_ble_eq_true rfl⟩ rfl hl.1 rfl (Nat.le_of_ble_eq_true rfl) dX0_keepsFrom_114 ⟨Nat.le_of_ble_eq_true rfl, Nat.le_of_ble_eq_true rfl⟩) C.2.2.2.2.2.2.1 hP hD hS [2] [0, 1] rfl rfl (by decide) (by decide) (fun r_8 u_7 H locs hw_9 hP hD hS => ?_)
  have hP : va_P D vwCl [(h0, .inl (cy 1, 8, .inl kr)), (h5, .inl (cy 1, 81, .inl (fun _ => 0))), (h, .inr (0, [.int 0, .int 0, .int (-1), .ref h0, .ref h1, .ref h2, .ref h3, .ref h4, .int 0, .ref h5, .int 0, .int 0, .int 10, .int 1, .int 0, .int 8]))] H := hP
  have hD : va_D A [(h0, .inl (cy 1, 8, .inl kr)), (h5, .inl (cy 1, 81, .inl (fun _ => 0))), (h, .inr (0, [.int 0, .int 0, .int (-1), .ref h0, .ref h1, .ref h2, .ref h3, .ref h4, .int 0, .ref h5, .int 0, .int 0, .int 10, .int 1, .int 0, .int 8]))] := hD
  obtain rfl : r_8 = 1 := hw_9
  refine lv_if_eq (tgt := 155) hx hb dX0_keepsFrom_117 (by decide) (fun c_0 => absurd c_0 (by decide)) (fun _ => ?_)
  refine lv_aload_n hx hb dX0_keepsFrom_120 rfl (lv_at hl 4 rfl) ?_
  refine lv_iload_n hx hb dX0_keepsFrom_121 rfl (lv_at hl 5 rfl) ?_
  refine lv_iconst (v := 1) hx hb dX0_keepsFrom_122 (by decide) ?_
  refine lv_iadd hx hb dX0_keepsFrom_123 ?_
  refine q_val (v := 2) (by decide) ?_
  refine lv_iload hx hb dX0_keepsFrom_124 (lv_at hl 2 rfl) ?_
  refine lv_if_eq (tgt := 135) hx hb dX0_keepsFrom_126 (by decide) (fun _ => ?_) (fun c_0 => absurd (by decide) c_0)
  refine lv_iload_n hx hb dX0_keepsFrom_135 rfl (lv_at hl 6 rfl) ?_
  refine q_ai (wr := []) (r_V (q0 := 0) (As := [.int 2, .int 0]) (rest := []) (wc := [(h, .inr (0, [.int 0, .int 0, .int (-1), .ref h0, .ref h1, .ref h2, .ref h3, .ref h4, .int 0, .ref h5, .int 0, .int 0, .int 10, .int 1, .int 0, .int 8])), (h0, .inl (cy 1, 8, .inl kr)), (h5, .inl (cy 1, 81, .inl (fun _ => 0)))]) C (q_subP hP [2, 0, 1] rfl) (hD.sub [2, 0, 1] (by decide) rfl) (c_keeps_8_2 l D cy h h0 h1 h2 h3 h4 h5 kr _ ) kwV_X0_keepsFrom kM_RX0_95 rfl rfl ⟨Nat.le_of_ble_eq_true rfl, Nat.le_of_ble_eq_true rfl⟩ rfl hl.1 rfl (Nat.le_of_ble_eq_true rfl) dX0_keepsFrom_136 ⟨Nat.le_of_ble_eq_true rfl, Nat.le_of_ble_eq_true rfl⟩) C.2.2.2.2.2.2.1 hP hD hS [2, 0, 1] [] rfl rfl (by decide) (by decide) (fun r_11 u_10 H locs hw_12 hP hD hS => ?_)
  have hP : va_P D vwCl [(h, .inr (0, [.int 0, .int 0, .int (-1), .ref h0, .ref h1, .ref h2, .ref h3, .ref h4, .int 0, .ref h5, .int 0, .int 0, .int 10, .int 1, .int 0, .int 8])), (h0, .inl (cy 1, 8, .inl u_10)), (h5, .inl (cy 1, 81, .inl (fun _ => 0)))] H := hP
  have hD : va_D A [(h, .inr (0, [.int 0, .int 0, .int (-1), .ref h0, .ref h1, .ref h2, .ref h3, .ref h4, .int 0, .ref h5, .int 0, .int 0, .int 10, .int 1, .int 0, .int 8])), (h0, .inl (cy 1, 8, .inl u_10)), (h5, .inl (cy 1, 81, .inl (fun _ => 0)))] := hD
  obtain rfl : r_11 = 1 := hw_12
  refine lv_if_eq (tgt := 155) hx hb dX0_keepsFrom_139 (by decide) (fun c_0 => absurd c_0 (by decide)) (fun _ => ?_)
  refine lv_aload_n hx hb dX0_keepsFrom_142 rfl (lv_at hl 4 rfl) ?_
  refine q_get (v := .ref h0) C hP 0 3 rfl rfl inX0 (by decide) kF_RX0_21 rfl rfl dX0_keepsFrom_143 ?_
  refine lv_iload_n hx hb dX0_keepsFrom_146 rfl (lv_at hl 5 rfl) ?_
  refine lv_aload_n hx hb dX0_keepsFrom_147 rfl (lv_at hl 4 rfl) ?_
  refine lv_iload_n hx hb dX0_keepsFrom_148 rfl (lv_at hl 3 rfl) ?_
  refine q_ai (wr := [(h0, .inl (cy 1, 8, .inl u_10)), (h5, .inl (cy 1, 81, .inl (fun _ => 0)))]) (r_V (q0 := 0) (As := [.int 0]) (rest := [.int 1, .ref h0]) (wc := [(h, .inr (0, [.int 0, .int 0, .int (-1), .ref h0, .ref h1, .ref h2, .ref h3, .ref h4, .int 0, .ref h5, .int 0, .int 0, .int 10, .int 1, .int 0, .int 8]))]) C (q_subP hP [0] rfl) (hD.sub [0] (by decide) rfl) (c_bookChosen l D cy h h0 h1 h2 h3 h4 h5 8 _ ) kwV_X0_bookChosen kM_RX0_110 rfl rfl ⟨Nat.le_of_ble_eq_true rfl, Nat.le_of_ble_eq_true rfl⟩ rfl hl.1 rfl (Nat.le_of_ble_eq_true rfl) dX0_keepsFrom_149 ⟨Nat.le_of_ble_eq_true rfl, Nat.le_of_ble_eq_true rfl⟩) C.2.2.2.2.2.2.1 hP hD hS [0] [1, 2] rfl rfl (by decide) (by decide) (fun r_14 u_13 H locs hw_15 hP hD hS => ?_)
  have hP : va_P D vwCl [(h0, .inl (cy 1, 8, .inl u_10)), (h5, .inl (cy 1, 81, .inl (fun _ => 0))), (h, .inr (0, [.int 0, .int 0, .int (-1), .ref h0, .ref h1, .ref h2, .ref h3, .ref h4, .int 0, .ref h5, .int 0, .int 0, .int 10, .int 1, .int 0, .int 8]))] H := hP
  have hD : va_D A [(h0, .inl (cy 1, 8, .inl u_10)), (h5, .inl (cy 1, 81, .inl (fun _ => 0))), (h, .inr (0, [.int 0, .int 0, .int (-1), .ref h0, .ref h1, .ref h2, .ref h3, .ref h4, .int 0, .ref h5, .int 0, .int 0, .int 10, .int 1, .int 0, .int 8]))] := hD
  obtain rfl : r_14 = (-1) := hw_15
  refine q_iast (g := upd u_10 1 (-1)) (w' := [(h0, .inl (cy 1, 8, .inl (upd u_10 1 (-1)))), (h5, .inl (cy 1, 81, .inl (fun _ => 0))), (h, .inr (0, [.int 0, .int 0, .int (-1), .ref h0, .ref h1, .ref h2, .ref h3, .ref h4, .int 0, .ref h5, .int 0, .int 0, .int 10, .int 1, .int 0, .int 8]))]) C hP hD hS 0 rfl (vin (by decide +kernel)) rfl rfl dX0_keepsFrom_152 (fun H locs hP hD hS => ?_)
  refine lv_iconst (v := 1) hx hb dX0_keepsFrom_153 (by decide) ?_
  exact q_iret (rm := (Rm 7 182 0 0)) C hS (upd u_10 1 (-1)) rfl rfl (q_subP hP [2, 0, 1] rfl) (hD.sub [2, 0, 1] (by decide) rfl) (Nat.le_of_ble_eq_true rfl) (Nat.le_of_ble_eq_true rfl) dX0_keepsFrom_154
set_option maxHeartbeats 4000000 in
set_option maxRecDepth 100000 in
theorem c_keeps_8_0 (l : Launch) (D : va_G) (cy : Nat → ClassId) (h : Nat) (h0 : Nat) (h1 : Nat) (h2 : Nat) (h3 : Nat) (h4 : Nat) (h5 : Nat) (kr : Nat → Int32) (sz : Nat)  : MI l yX0_keepsFrom cX0_keepsFrom 7 (some .boolean) (Rm 8 208 0 0) D cy [.ref h, .int 0, .int 0] sz [(h, .inr (0, [.int 0, .int 0, .int (-1), .ref h0, .ref h1, .ref h2, .ref h3, .ref h4, .int 0, .ref h5, .int 0, .int 0, .int 10, .int 1, .int 0, .int 8])), (h0, .inl (cy 1, 8, .inl kr)), (h5, .inl (cy 1, 81, .inl (fun _ => 0)))] (fun (r : Int32) (u : Nat → Int32) => r = 1) (fun u : Nat → Int32 => [(h, .inr (0, [.int 0, .int 0, .int (-1), .ref h0, .ref h1, .ref h2, .ref h3, .ref h4, .int 0, .ref h5, .int 0, .int 0, .int 10, .int 1, .int 0, .int 8])), (h0, .inl (cy 1, 8, .inl u)), (h5, .inl (cy 1, 81, .inl (fun _ => 0)))]) := by
  refine MI.enter (by decide) (Nat.le_of_ble_eq_true rfl) ?_
  intro p e s m below meth c ls A hsz hAe C hP hD hS hl
  have C : Cx p s m _ meth c cX0_keepsFrom 7 (some .boolean) RX0 "keepsFrom" D cy A := C
  have hx := C.1
  have hb := C.2.1
  have hl : lv_has ls 7 [(0, .ref h), (1, .int 0), (2, .int 0)] := hl
  refine lv_iload_n hx hb dX0_keepsFrom_0 rfl (lv_at hl 1 rfl) ?_
  refine lv_aload_n hx hb dX0_keepsFrom_1 rfl (lv_at hl 0 rfl) ?_
  refine q_get (v := .int 8) C hP 0 15 rfl rfl inX0 (by decide) kF_RX0_58 rfl rfl dX0_keepsFrom_2 ?_
  refine lv_icmp_lt (tgt := 10) hx hb dX0_keepsFrom_5 (by decide) (fun _ => ?_) (fun c_0 => absurd (by decide) c_0)
  refine lv_aload_n hx hb dX0_keepsFrom_10 rfl (lv_at hl 0 rfl) ?_
  refine lv_iload_n hx hb dX0_keepsFrom_11 rfl (lv_at hl 1 rfl) ?_
  refine q_ai (wr := [(h0, .inl (cy 1, 8, .inl kr)), (h5, .inl (cy 1, 81, .inl (fun _ => 0)))]) (r_V (q0 := 0) (As := [.int 0]) (rest := []) (wc := [(h, .inr (0, [.int 0, .int 0, .int (-1), .ref h0, .ref h1, .ref h2, .ref h3, .ref h4, .int 0, .ref h5, .int 0, .int 0, .int 10, .int 1, .int 0, .int 8]))]) C (q_subP hP [0] rfl) (hD.sub [0] (by decide) rfl) (c_askNeeded l D cy h 0 h0 h1 h2 h3 h4 h5 8 _ ) kwV_X0_askingsNeeded kM_RX0_98 rfl rfl ⟨Nat.le_of_ble_eq_true rfl, Nat.le_of_ble_eq_true rfl⟩ rfl hl.1 rfl (Nat.le_of_ble_eq_true rfl) dX0_keepsFrom_12 ⟨Nat.le_of_ble_eq_true rfl, Nat.le_of_ble_eq_true rfl⟩) C.2.2.2.2.2.2.1 hP hD hS [0] [1, 2] rfl rfl (by decide) (by decide) (fun r_2 u_1 H locs hw_3 hP hD hS => ?_)
  have hP : va_P D vwCl [(h0, .inl (cy 1, 8, .inl kr)), (h5, .inl (cy 1, 81, .inl (fun _ => 0))), (h, .inr (0, [.int 0, .int 0, .int (-1), .ref h0, .ref h1, .ref h2, .ref h3, .ref h4, .int 0, .ref h5, .int 0, .int 0, .int 10, .int 1, .int 0, .int 8]))] H := hP
  have hD : va_D A [(h0, .inl (cy 1, 8, .inl kr)), (h5, .inl (cy 1, 81, .inl (fun _ => 0))), (h, .inr (0, [.int 0, .int 0, .int (-1), .ref h0, .ref h1, .ref h2, .ref h3, .ref h4, .int 0, .ref h5, .int 0, .int 0, .int 10, .int 1, .int 0, .int 8]))] := hD
  obtain rfl : r_2 = 0 := hw_3
  refine lv_iload_n hx hb dX0_keepsFrom_15 rfl (lv_at hl 2 rfl) ?_
  refine lv_icmp_le (tgt := 21) hx hb dX0_keepsFrom_16 (by decide) (fun _ => ?_) (fun c_0 => absurd (by decide) c_0)
  refine lv_aload_n hx hb dX0_keepsFrom_21 rfl (lv_at hl 0 rfl) ?_
  refine lv_iload_n hx hb dX0_keepsFrom_22 rfl (lv_at hl 1 rfl) ?_
  refine q_av (wr := [(h0, .inl (cy 1, 8, .inl kr)), (h5, .inl (cy 1, 81, .inl (fun _ => 0)))]) (r_V (q0 := 0) (As := [.int 0]) (rest := []) (wc := [(h, .inr (0, [.int 0, .int 0, .int (-1), .ref h0, .ref h1, .ref h2, .ref h3, .ref h4, .int 0, .ref h5, .int 0, .int 0, .int 10, .int 1, .int 0, .int 8]))]) C (q_subP hP [2] rfl) (hD.sub [2] (by decide) rfl) (c_passDay l D cy h 0 h0 h1 h2 h3 h4 h5 8 _ ) kwV_X0_passDay kM_RX0_102 rfl rfl ⟨Nat.le_of_ble_eq_true rfl, Nat.le_of_ble_eq_true rfl⟩ rfl hl.1 rfl (Nat.le_of_ble_eq_true rfl) dX0_keepsFrom_23 ⟨Nat.le_of_ble_eq_true rfl, Nat.le_of_ble_eq_true rfl⟩) C.2.2.2.2.2.2.1 hP hD hS [2] [0, 1] rfl rfl (by decide) (by decide) (fun u_4 H locs hw_6 hP hD hS => ?_)
  have hP : va_P D vwCl [(h0, .inl (cy 1, 8, .inl kr)), (h5, .inl (cy 1, 81, .inl (fun _ => 0))), (h, .inr (0, [.int 0, .int 0, .int (-1), .ref h0, .ref h1, .ref h2, .ref h3, .ref h4, .int 0, .ref h5, .int 0, .int 0, .int 10, .int 1, .int 0, .int 8]))] H := hP
  have hD : va_D A [(h0, .inl (cy 1, 8, .inl kr)), (h5, .inl (cy 1, 81, .inl (fun _ => 0))), (h, .inr (0, [.int 0, .int 0, .int (-1), .ref h0, .ref h1, .ref h2, .ref h3, .ref h4, .int 0, .ref h5, .int 0, .int 0, .int 10, .int 1, .int 0, .int 8]))] := hD
  refine lv_iconst (v := 0) hx hb dX0_keepsFrom_26 (by decide) ?_
  refine lv_istore_n (lv' := [(3, .int 0), (0, .ref h), (1, .int 0), (2, .int 0)]) hx hb dX0_keepsFrom_27 rfl hl (by decide) rfl (fun ls hl => ?_)
  refine lv_iload_n hx hb dX0_keepsFrom_28 rfl (lv_at hl 0 rfl) ?_
  refine lv_aload_n hx hb dX0_keepsFrom_29 rfl (lv_at hl 1 rfl) ?_
  refine q_get (v := .int 0) C hP 2 10 rfl rfl inX0 (by decide) kF_RX0_43 rfl rfl dX0_keepsFrom_30 ?_
  refine lv_icmp_gt (tgt := 170) hx hb dX0_keepsFrom_33 (by decide) (fun c_0 => absurd c_0 (by decide)) (fun _ => ?_)
  refine lv_iload_n hx hb dX0_keepsFrom_36 rfl (lv_at hl 0 rfl) ?_
  refine lv_aload_n hx hb dX0_keepsFrom_37 rfl (lv_at hl 1 rfl) ?_
  refine q_get (v := .int 0) C hP 2 10 rfl rfl inX0 (by decide) kF_RX0_43 rfl rfl dX0_keepsFrom_38 ?_
  refine lv_icmp_ge (tgt := 48) hx hb dX0_keepsFrom_41 (by decide) (fun _ => ?_) (fun c_0 => absurd (by decide) c_0)
  refine lv_iconst (v := 0) hx hb dX0_keepsFrom_48 (by decide) ?_
  refine lv_istore (lv' := [(4, .int 0), (3, .int 0), (0, .ref h), (1, .int 0), (2, .int 0)]) hx hb dX0_keepsFrom_49 hl (by decide) rfl (fun ls hl => ?_)
  refine lv_iload hx hb dX0_keepsFrom_51 (lv_at hl 0 rfl) ?_
  refine lv_if_eq (tgt := 83) hx hb dX0_keepsFrom_53 (by decide) (fun _ => ?_) (fun c_0 => absurd (by decide) c_0)
  refine lv_iload_n hx hb dX0_keepsFrom_83 rfl (lv_at hl 3 rfl) ?_
  refine lv_iconst (v := 1) hx hb dX0_keepsFrom_84 (by decide) ?_
  refine lv_iadd hx hb dX0_keepsFrom_85 ?_
  refine q_val (v := 1) (by decide) ?_
  refine lv_bipush (v := 9) hx hb dX0_keepsFrom_86 (by decide) ?_
  refine lv_imul hx hb dX0_keepsFrom_88 ?_
  refine q_val (v := 9) (by decide) ?_
  refine lv_iload_n hx hb dX0_keepsFrom_89 rfl (lv_at hl 1 rfl) ?_
  refine lv_iadd hx hb dX0_keepsFrom_90 ?_
  refine q_val (v := 9) (by decide) ?_
  refine lv_istore (lv' := [(5, .int 9), (4, .int 0), (3, .int 0), (0, .ref h), (1, .int 0), (2, .int 0)]) hx hb dX0_keepsFrom_91 hl (by decide) rfl (fun ls hl => ?_)
  refine lv_aload_n hx hb dX0_keepsFrom_93 rfl (lv_at hl 3 rfl) ?_
  refine q_get (v := .ref h5) C hP 2 9 rfl rfl inX0 (by decide) kF_RX0_40 rfl rfl dX0_keepsFrom_94 ?_
  refine lv_iload hx hb dX0_keepsFrom_97 (lv_at hl 0 rfl) ?_
  refine q_iald (v := 0) C hP 1 rfl (vin (by decide +kernel)) rfl dX0_keepsFrom_99 ?_
  refine lv_istore (lv' := [(6, .int 0), (5, .int 9), (4, .int 0), (3, .int 0), (0, .ref h), (1, .int 0), (2, .int 0)]) hx hb dX0_keepsFrom_100 hl (by decide) rfl (fun ls hl => ?_)
  refine lv_aload_n hx hb dX0_keepsFrom_102 rfl (lv_at hl 4 rfl) ?_
  refine q_get (v := .ref h5) C hP 2 9 rfl rfl inX0 (by decide) kF_RX0_40 rfl rfl dX0_keepsFrom_103 ?_
  refine lv_iload hx hb dX0_keepsFrom_106 (lv_at hl 1 rfl) ?_
  refine lv_iconst (v := 0) hx hb dX0_keepsFrom_108 (by decide) ?_
  refine q_iast (g := fun _ => 0) (w' := [(h0, .inl (cy 1, 8, .inl kr)), (h5, .inl (cy 1, 81, .inl (fun _ => 0))), (h, .inr (0, [.int 0, .int 0, .int (-1), .ref h0, .ref h1, .ref h2, .ref h3, .ref h4, .int 0, .ref h5, .int 0, .int 0, .int 10, .int 1, .int 0, .int 8]))]) C hP hD hS 1 rfl (vin (by decide +kernel)) (updz _) rfl dX0_keepsFrom_109 (fun H locs hP hD hS => ?_)
  refine lv_aload_n hx hb dX0_keepsFrom_110 rfl (lv_at hl 4 rfl) ?_
  refine lv_iload_n hx hb dX0_keepsFrom_111 rfl (lv_at hl 5 rfl) ?_
  refine lv_iconst (v := 1) hx hb dX0_keepsFrom_112 (by decide) ?_
  refine lv_iadd hx hb dX0_keepsFrom_113 ?_
  refine q_val (v := 1) (by decide) ?_
  refine q_ai (wr := [(h0, .inl (cy 1, 8, .inl kr)), (h5, .inl (cy 1, 81, .inl (fun _ => 0)))]) (r_V (q0 := 0) (As := [.int 1]) (rest := []) (wc := [(h, .inr (0, [.int 0, .int 0, .int (-1), .ref h0, .ref h1, .ref h2, .ref h3, .ref h4, .int 0, .ref h5, .int 0, .int 0, .int 10, .int 1, .int 0, .int 8]))]) C (q_subP hP [2] rfl) (hD.sub [2] (by decide) rfl) (c_rareDoubt l D cy h 1 h0 h1 h2 h3 h4 h5 8 _ ) kwV_X0_areRareInDoubt kM_RX0_106 rfl rfl ⟨Nat.le_of_ble_eq_true rfl, Nat.le_of_ble_eq_true rfl⟩ rfl hl.1 rfl (Nat.le_of_ble_eq_true rfl) dX0_keepsFrom_114 ⟨Nat.le_of_ble_eq_true rfl, Nat.le_of_ble_eq_true rfl⟩) C.2.2.2.2.2.2.1 hP hD hS [2] [0, 1] rfl rfl (by decide) (by decide) (fun r_8 u_7 H locs hw_9 hP hD hS => ?_)
  have hP : va_P D vwCl [(h0, .inl (cy 1, 8, .inl kr)), (h5, .inl (cy 1, 81, .inl (fun _ => 0))), (h, .inr (0, [.int 0, .int 0, .int (-1), .ref h0, .ref h1, .ref h2, .ref h3, .ref h4, .int 0, .ref h5, .int 0, .int 0, .int 10, .int 1, .int 0, .int 8]))] H := hP
  have hD : va_D A [(h0, .inl (cy 1, 8, .inl kr)), (h5, .inl (cy 1, 81, .inl (fun _ => 0))), (h, .inr (0, [.int 0, .int 0, .int (-1), .ref h0, .ref h1, .ref h2, .ref h3, .ref h4, .int 0, .ref h5, .int 0, .int 0, .int 10, .int 1, .int 0, .int 8]))] := hD
  obtain rfl : r_8 = 1 := hw_9
  refine lv_if_eq (tgt := 155) hx hb dX0_keepsFrom_117 (by decide) (fun c_0 => absurd c_0 (by decide)) (fun _ => ?_)
  refine lv_aload_n hx hb dX0_keepsFrom_120 rfl (lv_at hl 4 rfl) ?_
  refine lv_iload_n hx hb dX0_keepsFrom_121 rfl (lv_at hl 5 rfl) ?_
  refine lv_iconst (v := 1) hx hb dX0_keepsFrom_122 (by decide) ?_
  refine lv_iadd hx hb dX0_keepsFrom_123 ?_
  refine q_val (v := 1) (by decide) ?_
  refine lv_iload hx hb dX0_keepsFrom_124 (lv_at hl 2 rfl) ?_
  refine lv_if_eq (tgt := 135) hx hb dX0_keepsFrom_126 (by decide) (fun _ => ?_) (fun c_0 => absurd (by decide) c_0)
  refine lv_iload_n hx hb dX0_keepsFrom_135 rfl (lv_at hl 6 rfl) ?_
  refine q_ai (wr := []) (r_V (q0 := 0) (As := [.int 1, .int 0]) (rest := []) (wc := [(h, .inr (0, [.int 0, .int 0, .int (-1), .ref h0, .ref h1, .ref h2, .ref h3, .ref h4, .int 0, .ref h5, .int 0, .int 0, .int 10, .int 1, .int 0, .int 8])), (h0, .inl (cy 1, 8, .inl kr)), (h5, .inl (cy 1, 81, .inl (fun _ => 0)))]) C (q_subP hP [2, 0, 1] rfl) (hD.sub [2, 0, 1] (by decide) rfl) (c_keeps_8_1 l D cy h h0 h1 h2 h3 h4 h5 kr _ ) kwV_X0_keepsFrom kM_RX0_95 rfl rfl ⟨Nat.le_of_ble_eq_true rfl, Nat.le_of_ble_eq_true rfl⟩ rfl hl.1 rfl (Nat.le_of_ble_eq_true rfl) dX0_keepsFrom_136 ⟨Nat.le_of_ble_eq_true rfl, Nat.le_of_ble_eq_true rfl⟩) C.2.2.2.2.2.2.1 hP hD hS [2, 0, 1] [] rfl rfl (by decide) (by decide) (fun r_11 u_10 H locs hw_12 hP hD hS => ?_)
  have hP : va_P D vwCl [(h, .inr (0, [.int 0, .int 0, .int (-1), .ref h0, .ref h1, .ref h2, .ref h3, .ref h4, .int 0, .ref h5, .int 0, .int 0, .int 10, .int 1, .int 0, .int 8])), (h0, .inl (cy 1, 8, .inl u_10)), (h5, .inl (cy 1, 81, .inl (fun _ => 0)))] H := hP
  have hD : va_D A [(h, .inr (0, [.int 0, .int 0, .int (-1), .ref h0, .ref h1, .ref h2, .ref h3, .ref h4, .int 0, .ref h5, .int 0, .int 0, .int 10, .int 1, .int 0, .int 8])), (h0, .inl (cy 1, 8, .inl u_10)), (h5, .inl (cy 1, 81, .inl (fun _ => 0)))] := hD
  obtain rfl : r_11 = 1 := hw_12
  refine lv_if_eq (tgt := 155) hx hb dX0_keepsFrom_139 (by decide) (fun c_0 => absurd c_0 (by decide)) (fun _ => ?_)
  refine lv_aload_n hx hb dX0_keepsFrom_142 rfl (lv_at hl 4 rfl) ?_
  refine q_get (v := .ref h0) C hP 0 3 rfl rfl inX0 (by decide) kF_RX0_21 rfl rfl dX0_keepsFrom_143 ?_
  refine lv_iload_n hx hb dX0_keepsFrom_146 rfl (lv_at hl 5 rfl) ?_
  refine lv_aload_n hx hb dX0_keepsFrom_147 rfl (lv_at hl 4 rfl) ?_
  refine lv_iload_n hx hb dX0_keepsFrom_148 rfl (lv_at hl 3 rfl) ?_
  refine q_ai (wr := [(h0, .inl (cy 1, 8, .inl u_10)), (h5, .inl (cy 1, 81, .inl (fun _ => 0)))]) (r_V (q0 := 0) (As := [.int 0]) (rest := [.int 0, .ref h0]) (wc := [(h, .inr (0, [.int 0, .int 0, .int (-1), .ref h0, .ref h1, .ref h2, .ref h3, .ref h4, .int 0, .ref h5, .int 0, .int 0, .int 10, .int 1, .int 0, .int 8]))]) C (q_subP hP [0] rfl) (hD.sub [0] (by decide) rfl) (c_bookChosen l D cy h h0 h1 h2 h3 h4 h5 8 _ ) kwV_X0_bookChosen kM_RX0_110 rfl rfl ⟨Nat.le_of_ble_eq_true rfl, Nat.le_of_ble_eq_true rfl⟩ rfl hl.1 rfl (Nat.le_of_ble_eq_true rfl) dX0_keepsFrom_149 ⟨Nat.le_of_ble_eq_true rfl, Nat.le_of_ble_eq_true rfl⟩) C.2.2.2.2.2.2.1 hP hD hS [0] [1, 2] rfl rfl (by decide) (by decide) (fun r_14 u_13 H locs hw_15 hP hD hS => ?_)
  have hP : va_P D vwCl [(h0, .inl (cy 1, 8, .inl u_10)), (h5, .inl (cy 1, 81, .inl (fun _ => 0))), (h, .inr (0, [.int 0, .int 0, .int (-1), .ref h0, .ref h1, .ref h2, .ref h3, .ref h4, .int 0, .ref h5, .int 0, .int 0, .int 10, .int 1, .int 0, .int 8]))] H := hP
  have hD : va_D A [(h0, .inl (cy 1, 8, .inl u_10)), (h5, .inl (cy 1, 81, .inl (fun _ => 0))), (h, .inr (0, [.int 0, .int 0, .int (-1), .ref h0, .ref h1, .ref h2, .ref h3, .ref h4, .int 0, .ref h5, .int 0, .int 0, .int 10, .int 1, .int 0, .int 8]))] := hD
  obtain rfl : r_14 = (-1) := hw_15
  refine q_iast (g := upd u_10 0 (-1)) (w' := [(h0, .inl (cy 1, 8, .inl (upd u_10 0 (-1)))), (h5, .inl (cy 1, 81, .inl (fun _ => 0))), (h, .inr (0, [.int 0, .int 0, .int (-1), .ref h0, .ref h1, .ref h2, .ref h3, .ref h4, .int 0, .ref h5, .int 0, .int 0, .int 10, .int 1, .int 0, .int 8]))]) C hP hD hS 0 rfl (vin (by decide +kernel)) rfl rfl dX0_keepsFrom_152 (fun H locs hP hD hS => ?_)
  refine lv_iconst (v := 1) hx hb dX0_keepsFrom_153 (by decide) ?_
  exact q_iret (rm := (Rm 8 208 0 0)) C hS (upd u_10 0 (-1)) rfl rfl (q_subP hP [2, 0, 1] rfl) (hD.sub [2, 0, 1] (by decide) rfl) (Nat.le_of_ble_eq_true rfl) (Nat.le_of_ble_eq_true rfl) dX0_keepsFrom_154
set_option maxHeartbeats 4000000 in
set_option maxRecDepth 100000 in
theorem c_fewest_8 (l : Launch) (D : va_G) (cy : Nat → ClassId) (h : Nat) (h0 : Nat) (h1 : Nat) (h2 : Nat) (h3 : Nat) (h4 : Nat) (h5 : Nat) (kr : Nat → Int32) (sz : Nat)  : MI l yX0_fewestAskings cX0_fewestAskings 2 (some .int) (Rm 9 234 0 0) D cy [.ref h] sz [(h, .inr (0, [.int 0, .int 0, .int (-1), .ref h0, .ref h1, .ref h2, .ref h3, .ref h4, .int 0, .ref h5, .int 0, .int 0, .int 10, .int 1, .int 0, .int 8])), (h0, .inl (cy 1, 8, .inl kr)), (h5, .inl (cy 1, 81, .inl (fun _ => 0)))] (fun (r : Int32) (u : Unit) => r = 0) (fun u : Unit => []) := by
  refine MI.enter (by decide) (Nat.le_of_ble_eq_true rfl) ?_
  intro p e s m below meth c ls A hsz hAe C hP hD hS hl
  have C : Cx p s m _ meth c cX0_fewestAskings 2 (some .int) RX0 "fewestAskings" D cy A := C
  have hx := C.1
  have hb := C.2.1
  have hl : lv_has ls 2 [(0, .ref h)] := hl
  refine lv_iconst (v := 0) hx hb dX0_fewestAskings_0 (by decide) ?_
  refine lv_istore_n (lv' := [(1, .int 0), (0, .ref h)]) hx hb dX0_fewestAskings_1 rfl hl (by decide) rfl (fun ls hl => ?_)
  refine lv_iload_n hx hb dX0_fewestAskings_2 rfl (lv_at hl 0 rfl) ?_
  refine lv_aload_n hx hb dX0_fewestAskings_3 rfl (lv_at hl 1 rfl) ?_
  refine q_get (v := .int 8) C hP 0 15 rfl rfl inX0 (by decide) kF_RX0_58 rfl rfl dX0_fewestAskings_4 ?_
  refine lv_icmp_gt (tgt := 35) hx hb dX0_fewestAskings_7 (by decide) (fun c_0 => absurd c_0 (by decide)) (fun _ => ?_)
  refine lv_aload_n hx hb dX0_fewestAskings_10 rfl (lv_at hl 1 rfl) ?_
  refine lv_iconst (v := 0) hx hb dX0_fewestAskings_11 (by decide) ?_
  refine lv_iload_n hx hb dX0_fewestAskings_12 rfl (lv_at hl 0 rfl) ?_
  refine q_ai (wr := []) (r_V (q0 := 0) (As := [.int 0, .int 0]) (rest := []) (wc := [(h, .inr (0, [.int 0, .int 0, .int (-1), .ref h0, .ref h1, .ref h2, .ref h3, .ref h4, .int 0, .ref h5, .int 0, .int 0, .int 10, .int 1, .int 0, .int 8])), (h0, .inl (cy 1, 8, .inl kr)), (h5, .inl (cy 1, 81, .inl (fun _ => 0)))]) C (q_subP hP [0, 1, 2] rfl) (hD.sub [0, 1, 2] (by decide) rfl) (c_keeps_8_0 l D cy h h0 h1 h2 h3 h4 h5 kr _ ) kwV_X0_keepsFrom kM_RX0_95 rfl rfl ⟨Nat.le_of_ble_eq_true rfl, Nat.le_of_ble_eq_true rfl⟩ rfl hl.1 rfl (Nat.le_of_ble_eq_true rfl) dX0_fewestAskings_13 ⟨Nat.le_of_ble_eq_true rfl, Nat.le_of_ble_eq_true rfl⟩) C.2.2.2.2.2.2.1 hP hD hS [0, 1, 2] [] rfl rfl (by decide) (by decide) (fun r_2 u_1 H locs hw_3 hP hD hS => ?_)
  have hP : va_P D vwCl [(h, .inr (0, [.int 0, .int 0, .int (-1), .ref h0, .ref h1, .ref h2, .ref h3, .ref h4, .int 0, .ref h5, .int 0, .int 0, .int 10, .int 1, .int 0, .int 8])), (h0, .inl (cy 1, 8, .inl u_1)), (h5, .inl (cy 1, 81, .inl (fun _ => 0)))] H := hP
  have hD : va_D A [(h, .inr (0, [.int 0, .int 0, .int (-1), .ref h0, .ref h1, .ref h2, .ref h3, .ref h4, .int 0, .ref h5, .int 0, .int 0, .int 10, .int 1, .int 0, .int 8])), (h0, .inl (cy 1, 8, .inl u_1)), (h5, .inl (cy 1, 81, .inl (fun _ => 0)))] := hD
  obtain rfl : r_2 = 1 := hw_3
  refine lv_if_eq (tgt := 29) hx hb dX0_fewestAskings_16 (by decide) (fun c_0 => absurd c_0 (by decide)) (fun _ => ?_)
  refine lv_aload_n hx hb dX0_fewestAskings_19 rfl (lv_at hl 1 rfl) ?_
  refine lv_aload_n hx hb dX0_fewestAskings_20 rfl (lv_at hl 1 rfl) ?_
  refine q_get (v := .int 8) C hP 0 15 rfl rfl inX0 (by decide) kF_RX0_58 rfl rfl dX0_fewestAskings_21 ?_
  refine q_put (v := .int 8) (w' := [(h, .inr (0, [.int 8, .int 0, .int (-1), .ref h0, .ref h1, .ref h2, .ref h3, .ref h4, .int 0, .ref h5, .int 0, .int 0, .int 10, .int 1, .int 0, .int 8])), (h0, .inl (cy 1, 8, .inl u_1)), (h5, .inl (cy 1, 81, .inl (fun _ => 0)))]) (ty := .int) C hP hD hS 0 0 rfl rfl inX0 tyX0 tyX0_ok nmX0 (by decide) kF_RX0_9 rfl rfl rfl rfl rfl (Nat.le_of_ble_eq_true rfl) rfl dX0_fewestAskings_24 (fun H locs hP hD hS => ?_)
  refine lv_iload_n hx hb dX0_fewestAskings_27 rfl (lv_at hl 0 rfl) ?_
  exact q_iret (rm := (Rm 9 234 0 0)) C hS () rfl rfl (q_subP hP [] rfl) (hD.sub [] (by decide) rfl) (Nat.le_of_ble_eq_true rfl) (Nat.le_of_ble_eq_true rfl) dX0_fewestAskings_28
set_option maxHeartbeats 4000000 in
set_option maxRecDepth 100000 in
theorem x_keep (l : Launch) (D : va_G) (cy : Nat → ClassId) (h : Nat) (n : Int32) (ta : Nat) (pl : Nat) (sh : Nat) (tr : Nat) (fo : Nat) (li : Nat) (sp : Nat) (dr : Nat) (pa : Nat) (im : Nat) (fs : Nat) (ph : Nat) (cd : Nat) (pl0 : Nat) (pl1 : Nat) (pl2 : Nat) (sh0 : Nat) (sh1 : Nat) (sh2 : Nat) (sh3 : Nat) (sh4 : Nat) (sh5 : Nat) (fs0 : Nat) (fs1 : Nat) (fs2 : Nat) (fs3 : Nat) (fs4 : Nat) (fs5 : Nat) (sz : Nat)  : MI l yX10_keep cX10_keep 2 (some .int) (Rm 10 255 0 0) D cy [.ref h, .int n] sz [(h, .inr (10, [.ref ta, .ref pl, .ref sh, .ref tr, .ref fo, .ref li, .ref sp, .ref dr, .ref pa, .ref im, .ref fs, .ref ph, .ref cd, .int 0, .int 0])), (pl, .inr (6, [.int 4, .int 4, .int 10, .int 1, .int 3, .int 0, .int 0, .int 0, .ref pl0, .ref pl1, .ref pl2])), (sh, .inr (8, [.ref sh0, .ref sh1, .ref sh2, .ref sh3, .ref sh4, .int 0, .int 0, .ref sh5])), (sh2, .inl (cy 1, 8, .inl (fun _ => 0))), (fs, .inr (0, [.int 0, .int 0, .int (-1), .ref fs0, .ref fs1, .ref fs2, .ref fs3, .ref fs4, .int 0, .ref fs5, .int 0, .int 0, .int 1, .int 1, .int 0, .int 0])), (fs0, .inl (cy 1, 8, .inl (fun _ => 0))), (fs5, .inl (cy 1, 81, .inl (fun _ => 0)))] (fun (r : Int32) (u : Unit) => r = (rKeep n)) (fun u : Unit => []) := by
  refine MI.enter (by decide) (Nat.le_of_ble_eq_true rfl) ?_
  intro p e s m below meth c ls A hsz hAe C hP hD hS hl
  have C : Cx p s m _ meth c cX10_keep 2 (some .int) RX10 "keep" D cy A := C
  have hx := C.1
  have hb := C.2.1
  have hl : lv_has ls 2 [(0, .ref h), (1, .int n)] := hl
  refine lv_iload_n hx hb dX10_keep_0 rfl (lv_at hl 1 rfl) ?_
  refine lv_iconst (v := 1) hx hb dX10_keep_1 (by decide) ?_
  refine lv_icmp_lt (tgt := 22) hx hb dX10_keep_2 (by decide) (fun c_1 => ?_) (fun c_1 => ?_)
  · refine lv_iconst (v := (-1)) hx hb dX10_keep_22 (by decide) ?_
    exact q_iret (rm := (Rm 10 255 0 0)) C hS () rfl (by have z0 := (Int32.lt_iff_toInt_lt).mp c_1; have e0 : (1 : Int32).toInt = 1 := (by decide); show _ = if 1 ≤ n.toInt ∧ n.toInt ≤ 8 then 0 else -1; repeat (first | rfl | rw [if_pos (by omega)] | rw [if_neg (by omega)])) (q_subP hP [] rfl) (hD.sub [] (by decide) rfl) (Nat.le_of_ble_eq_true rfl) (Nat.le_of_ble_eq_true rfl) dX10_keep_23
  · refine lv_iload_n hx hb dX10_keep_5 rfl (lv_at hl 1 rfl) ?_
    refine lv_bipush (v := 8) hx hb dX10_keep_6 (by decide) ?_
    refine lv_icmp_gt (tgt := 22) hx hb dX10_keep_8 (by decide) (fun c_2 => ?_) (fun c_2 => ?_)
    · refine lv_iconst (v := (-1)) hx hb dX10_keep_22 (by decide) ?_
      exact q_iret (rm := (Rm 10 255 0 0)) C hS () rfl (by have z0 := (not_congr Int32.lt_iff_toInt_lt).mp c_1; have z1 := (Int32.lt_iff_toInt_lt).mp c_2; have e0 : (1 : Int32).toInt = 1 := (by decide); have e1 : (8 : Int32).toInt = 8 := (by decide); show _ = if 1 ≤ n.toInt ∧ n.toInt ≤ 8 then 0 else -1; repeat (first | rfl | rw [if_pos (by omega)] | rw [if_neg (by omega)])) (q_subP hP [] rfl) (hD.sub [] (by decide) rfl) (Nat.le_of_ble_eq_true rfl) (Nat.le_of_ble_eq_true rfl) dX10_keep_23
    · rcases sw_1_8 n with rfl | rfl | rfl | rfl | rfl | rfl | rfl | rfl | h9
      · refine lv_aload_n hx hb dX10_keep_11 rfl (lv_at hl 0 rfl) ?_
        refine q_get (v := .ref sh) C hP 0 2 rfl rfl inX10 (by decide) kF_RX10_26 rfl rfl dX10_keep_12 ?_
        refine lv_iload_n hx hb dX10_keep_15 rfl (lv_at hl 1 rfl) ?_
        refine q_ai (wr := [(h, .inr (10, [.ref ta, .ref pl, .ref sh, .ref tr, .ref fo, .ref li, .ref sp, .ref dr, .ref pa, .ref im, .ref fs, .ref ph, .ref cd, .int 0, .int 0])), (pl, .inr (6, [.int 4, .int 4, .int 10, .int 1, .int 3, .int 0, .int 0, .int 0, .ref pl0, .ref pl1, .ref pl2])), (sh2, .inl (cy 1, 8, .inl (fun _ => 0))), (fs, .inr (0, [.int 0, .int 0, .int (-1), .ref fs0, .ref fs1, .ref fs2, .ref fs3, .ref fs4, .int 0, .ref fs5, .int 0, .int 0, .int 1, .int 1, .int 0, .int 0])), (fs0, .inl (cy 1, 8, .inl (fun _ => 0))), (fs5, .inl (cy 1, 81, .inl (fun _ => 0)))]) (r_V (q0 := 0) (As := [.int 1]) (rest := []) (wc := [(sh, .inr (8, [.ref sh0, .ref sh1, .ref sh2, .ref sh3, .ref sh4, .int 0, .int 0, .ref sh5]))]) C (q_subP hP [2] rfl) (hD.sub [2] (by decide) rfl) (c_hasDays_1 l D cy sh sh0 sh1 sh2 sh3 sh4 sh5 _ ) kwV_X8_hasDays kM_RX10_319 rfl rfl ⟨Nat.le_of_ble_eq_true rfl, Nat.le_of_ble_eq_true rfl⟩ rfl hl.1 rfl (Nat.le_of_ble_eq_true rfl) dX10_keep_16 ⟨Nat.le_of_ble_eq_true rfl, Nat.le_of_ble_eq_true rfl⟩) C.2.2.2.2.2.2.1 hP hD hS [2] [0, 1, 3, 4, 5, 6] rfl rfl (by decide) (by decide) (fun r_4 u_3 H locs hw_5 hP hD hS => ?_)
        have hP : va_P D vwCl [(h, .inr (10, [.ref ta, .ref pl, .ref sh, .ref tr, .ref fo, .ref li, .ref sp, .ref dr, .ref pa, .ref im, .ref fs, .ref ph, .ref cd, .int 0, .int 0])), (pl, .inr (6, [.int 4, .int 4, .int 10, .int 1, .int 3, .int 0, .int 0, .int 0, .ref pl0, .ref pl1, .ref pl2])), (sh2, .inl (cy 1, 8, .inl (fun _ => 0))), (fs, .inr (0, [.int 0, .int 0, .int (-1), .ref fs0, .ref fs1, .ref fs2, .ref fs3, .ref fs4, .int 0, .ref fs5, .int 0, .int 0, .int 1, .int 1, .int 0, .int 0])), (fs0, .inl (cy 1, 8, .inl (fun _ => 0))), (fs5, .inl (cy 1, 81, .inl (fun _ => 0))), (sh, .inr (8, [.ref sh0, .ref sh1, .ref sh2, .ref sh3, .ref sh4, .int 0, .int 0, .ref sh5]))] H := hP
        have hD : va_D A [(h, .inr (10, [.ref ta, .ref pl, .ref sh, .ref tr, .ref fo, .ref li, .ref sp, .ref dr, .ref pa, .ref im, .ref fs, .ref ph, .ref cd, .int 0, .int 0])), (pl, .inr (6, [.int 4, .int 4, .int 10, .int 1, .int 3, .int 0, .int 0, .int 0, .ref pl0, .ref pl1, .ref pl2])), (sh2, .inl (cy 1, 8, .inl (fun _ => 0))), (fs, .inr (0, [.int 0, .int 0, .int (-1), .ref fs0, .ref fs1, .ref fs2, .ref fs3, .ref fs4, .int 0, .ref fs5, .int 0, .int 0, .int 1, .int 1, .int 0, .int 0])), (fs0, .inl (cy 1, 8, .inl (fun _ => 0))), (fs5, .inl (cy 1, 81, .inl (fun _ => 0))), (sh, .inr (8, [.ref sh0, .ref sh1, .ref sh2, .ref sh3, .ref sh4, .int 0, .int 0, .ref sh5]))] := hD
        obtain rfl : r_4 = 1 := hw_5
        refine lv_if_ne (tgt := 24) hx hb dX10_keep_19 (by decide) (fun _ => ?_) (fun c_0 => absurd c_0 (by decide))
        refine lv_aload_n hx hb dX10_keep_24 rfl (lv_at hl 0 rfl) ?_
        refine q_get (v := .ref fs) C hP 0 10 rfl rfl inX10 (by decide) kF_RX10_73 rfl rfl dX10_keep_25 ?_
        refine lv_aload_n hx hb dX10_keep_28 rfl (lv_at hl 0 rfl) ?_
        refine q_get (v := .ref pl) C hP 0 1 rfl rfl inX10 (by decide) kF_RX10_19 rfl rfl dX10_keep_29 ?_
        refine lv_aload_n hx hb dX10_keep_32 rfl (lv_at hl 0 rfl) ?_
        refine q_get (v := .ref sh) C hP 0 2 rfl rfl inX10 (by decide) kF_RX10_26 rfl rfl dX10_keep_33 ?_
        refine lv_iload_n hx hb dX10_keep_36 rfl (lv_at hl 1 rfl) ?_
        refine q_av (wr := [(h, .inr (10, [.ref ta, .ref pl, .ref sh, .ref tr, .ref fo, .ref li, .ref sp, .ref dr, .ref pa, .ref im, .ref fs, .ref ph, .ref cd, .int 0, .int 0])), (fs0, .inl (cy 1, 8, .inl (fun _ => 0)))]) (r_V (q0 := 0) (As := [.ref pl, .ref sh, .int 1]) (rest := []) (wc := [(fs, .inr (0, [.int 0, .int 0, .int (-1), .ref fs0, .ref fs1, .ref fs2, .ref fs3, .ref fs4, .int 0, .ref fs5, .int 0, .int 0, .int 1, .int 1, .int 0, .int 0])), (fs5, .inl (cy 1, 81, .inl (fun _ => 0))), (pl, .inr (6, [.int 4, .int 4, .int 10, .int 1, .int 3, .int 0, .int 0, .int 0, .ref pl0, .ref pl1, .ref pl2])), (sh, .inr (8, [.ref sh0, .ref sh1, .ref sh2, .ref sh3, .ref sh4, .int 0, .int 0, .ref sh5])), (sh2, .inl (cy 1, 8, .inl (fun _ => 0)))]) C (q_subP hP [3, 5, 1, 6, 2] rfl) (hD.sub [3, 5, 1, 6, 2] (by decide) rfl) (c_look_1 l D cy fs pl sh fs0 fs1 fs2 fs3 fs4 fs5 pl0 pl1 pl2 sh0 sh1 sh2 sh3 sh4 sh5 _ ) kwV_X0_look kM_RX10_335 rfl rfl ⟨Nat.le_of_ble_eq_true rfl, Nat.le_of_ble_eq_true rfl⟩ rfl hl.1 rfl (Nat.le_of_ble_eq_true rfl) dX10_keep_37 ⟨Nat.le_of_ble_eq_true rfl, Nat.le_of_ble_eq_true rfl⟩) C.2.2.2.2.2.2.1 hP hD hS [3, 5, 1, 6, 2] [0, 4] rfl rfl (by decide) (by decide) (fun u_6 H locs hw_8 hP hD hS => ?_)
        have hP : va_P D vwCl [(h, .inr (10, [.ref ta, .ref pl, .ref sh, .ref tr, .ref fo, .ref li, .ref sp, .ref dr, .ref pa, .ref im, .ref fs, .ref ph, .ref cd, .int 0, .int 0])), (fs0, .inl (cy 1, 8, .inl (fun _ => 0))), (fs, .inr (0, [.int 0, .int 0, .int (-1), .ref fs0, .ref fs1, .ref fs2, .ref fs3, .ref fs4, .int 0, .ref fs5, .int 0, .int 0, .int 10, .int 1, .int 0, .int 1])), (fs5, .inl (cy 1, 81, .inl (fun _ => 0))), (pl, .inr (6, [.int 4, .int 4, .int 10, .int 1, .int 3, .int 0, .int 0, .int 0, .ref pl0, .ref pl1, .ref pl2])), (sh, .inr (8, [.ref sh0, .ref sh1, .ref sh2, .ref sh3, .ref sh4, .int 0, .int 0, .ref sh5])), (sh2, .inl (cy 1, 8, .inl (fun _ => 0)))] H := hP
        have hD : va_D A [(h, .inr (10, [.ref ta, .ref pl, .ref sh, .ref tr, .ref fo, .ref li, .ref sp, .ref dr, .ref pa, .ref im, .ref fs, .ref ph, .ref cd, .int 0, .int 0])), (fs0, .inl (cy 1, 8, .inl (fun _ => 0))), (fs, .inr (0, [.int 0, .int 0, .int (-1), .ref fs0, .ref fs1, .ref fs2, .ref fs3, .ref fs4, .int 0, .ref fs5, .int 0, .int 0, .int 10, .int 1, .int 0, .int 1])), (fs5, .inl (cy 1, 81, .inl (fun _ => 0))), (pl, .inr (6, [.int 4, .int 4, .int 10, .int 1, .int 3, .int 0, .int 0, .int 0, .ref pl0, .ref pl1, .ref pl2])), (sh, .inr (8, [.ref sh0, .ref sh1, .ref sh2, .ref sh3, .ref sh4, .int 0, .int 0, .ref sh5])), (sh2, .inl (cy 1, 8, .inl (fun _ => 0)))] := hD
        refine lv_aload_n hx hb dX10_keep_40 rfl (lv_at hl 0 rfl) ?_
        refine q_get (v := .ref fs) C hP 0 10 rfl rfl inX10 (by decide) kF_RX10_73 rfl rfl dX10_keep_41 ?_
        refine q_ai (wr := [(h, .inr (10, [.ref ta, .ref pl, .ref sh, .ref tr, .ref fo, .ref li, .ref sp, .ref dr, .ref pa, .ref im, .ref fs, .ref ph, .ref cd, .int 0, .int 0])), (pl, .inr (6, [.int 4, .int 4, .int 10, .int 1, .int 3, .int 0, .int 0, .int 0, .ref pl0, .ref pl1, .ref pl2])), (sh, .inr (8, [.ref sh0, .ref sh1, .ref sh2, .ref sh3, .ref sh4, .int 0, .int 0, .ref sh5])), (sh2, .inl (cy 1, 8, .inl (fun _ => 0)))]) (r_V (q0 := 0) (As := []) (rest := []) (wc := [(fs, .inr (0, [.int 0, .int 0, .int (-1), .ref fs0, .ref fs1, .ref fs2, .ref fs3, .ref fs4, .int 0, .ref fs5, .int 0, .int 0, .int 10, .int 1, .int 0, .int 1])), (fs0, .inl (cy 1, 8, .inl (fun _ => 0))), (fs5, .inl (cy 1, 81, .inl (fun _ => 0)))]) C (q_subP hP [2, 1, 3] rfl) (hD.sub [2, 1, 3] (by decide) rfl) (c_fewest_1 l D cy fs fs0 fs1 fs2 fs3 fs4 fs5 (fun _ => 0) _ ) kwV_X0_fewestAskings kM_RX10_339 rfl rfl ⟨Nat.le_of_ble_eq_true rfl, Nat.le_of_ble_eq_true rfl⟩ rfl hl.1 rfl (Nat.le_of_ble_eq_true rfl) dX10_keep_44 ⟨Nat.le_of_ble_eq_true rfl, Nat.le_of_ble_eq_true rfl⟩) C.2.2.2.2.2.2.1 hP hD hS [2, 1, 3] [0, 4, 5, 6] rfl rfl (by decide) (by decide) (fun r_10 u_9 H locs hw_11 hP hD hS => ?_)
        have hP : va_P D vwCl [(h, .inr (10, [.ref ta, .ref pl, .ref sh, .ref tr, .ref fo, .ref li, .ref sp, .ref dr, .ref pa, .ref im, .ref fs, .ref ph, .ref cd, .int 0, .int 0])), (pl, .inr (6, [.int 4, .int 4, .int 10, .int 1, .int 3, .int 0, .int 0, .int 0, .ref pl0, .ref pl1, .ref pl2])), (sh, .inr (8, [.ref sh0, .ref sh1, .ref sh2, .ref sh3, .ref sh4, .int 0, .int 0, .ref sh5])), (sh2, .inl (cy 1, 8, .inl (fun _ => 0)))] H := hP
        have hD : va_D A [(h, .inr (10, [.ref ta, .ref pl, .ref sh, .ref tr, .ref fo, .ref li, .ref sp, .ref dr, .ref pa, .ref im, .ref fs, .ref ph, .ref cd, .int 0, .int 0])), (pl, .inr (6, [.int 4, .int 4, .int 10, .int 1, .int 3, .int 0, .int 0, .int 0, .ref pl0, .ref pl1, .ref pl2])), (sh, .inr (8, [.ref sh0, .ref sh1, .ref sh2, .ref sh3, .ref sh4, .int 0, .int 0, .ref sh5])), (sh2, .inl (cy 1, 8, .inl (fun _ => 0)))] := hD
        obtain rfl : r_10 = 0 := hw_11
        exact q_iret (rm := (Rm 10 255 0 0)) C hS () rfl (by show (0 : Int32) = (rKeep (1 : Int32)); decide +kernel) (q_subP hP [] rfl) (hD.sub [] (by decide) rfl) (Nat.le_of_ble_eq_true rfl) (Nat.le_of_ble_eq_true rfl) dX10_keep_47
      · refine lv_aload_n hx hb dX10_keep_11 rfl (lv_at hl 0 rfl) ?_
        refine q_get (v := .ref sh) C hP 0 2 rfl rfl inX10 (by decide) kF_RX10_26 rfl rfl dX10_keep_12 ?_
        refine lv_iload_n hx hb dX10_keep_15 rfl (lv_at hl 1 rfl) ?_
        refine q_ai (wr := [(h, .inr (10, [.ref ta, .ref pl, .ref sh, .ref tr, .ref fo, .ref li, .ref sp, .ref dr, .ref pa, .ref im, .ref fs, .ref ph, .ref cd, .int 0, .int 0])), (pl, .inr (6, [.int 4, .int 4, .int 10, .int 1, .int 3, .int 0, .int 0, .int 0, .ref pl0, .ref pl1, .ref pl2])), (sh2, .inl (cy 1, 8, .inl (fun _ => 0))), (fs, .inr (0, [.int 0, .int 0, .int (-1), .ref fs0, .ref fs1, .ref fs2, .ref fs3, .ref fs4, .int 0, .ref fs5, .int 0, .int 0, .int 1, .int 1, .int 0, .int 0])), (fs0, .inl (cy 1, 8, .inl (fun _ => 0))), (fs5, .inl (cy 1, 81, .inl (fun _ => 0)))]) (r_V (q0 := 0) (As := [.int 2]) (rest := []) (wc := [(sh, .inr (8, [.ref sh0, .ref sh1, .ref sh2, .ref sh3, .ref sh4, .int 0, .int 0, .ref sh5]))]) C (q_subP hP [2] rfl) (hD.sub [2] (by decide) rfl) (c_hasDays_2 l D cy sh sh0 sh1 sh2 sh3 sh4 sh5 _ ) kwV_X8_hasDays kM_RX10_319 rfl rfl ⟨Nat.le_of_ble_eq_true rfl, Nat.le_of_ble_eq_true rfl⟩ rfl hl.1 rfl (Nat.le_of_ble_eq_true rfl) dX10_keep_16 ⟨Nat.le_of_ble_eq_true rfl, Nat.le_of_ble_eq_true rfl⟩) C.2.2.2.2.2.2.1 hP hD hS [2] [0, 1, 3, 4, 5, 6] rfl rfl (by decide) (by decide) (fun r_13 u_12 H locs hw_14 hP hD hS => ?_)
        have hP : va_P D vwCl [(h, .inr (10, [.ref ta, .ref pl, .ref sh, .ref tr, .ref fo, .ref li, .ref sp, .ref dr, .ref pa, .ref im, .ref fs, .ref ph, .ref cd, .int 0, .int 0])), (pl, .inr (6, [.int 4, .int 4, .int 10, .int 1, .int 3, .int 0, .int 0, .int 0, .ref pl0, .ref pl1, .ref pl2])), (sh2, .inl (cy 1, 8, .inl (fun _ => 0))), (fs, .inr (0, [.int 0, .int 0, .int (-1), .ref fs0, .ref fs1, .ref fs2, .ref fs3, .ref fs4, .int 0, .ref fs5, .int 0, .int 0, .int 1, .int 1, .int 0, .int 0])), (fs0, .inl (cy 1, 8, .inl (fun _ => 0))), (fs5, .inl (cy 1, 81, .inl (fun _ => 0))), (sh, .inr (8, [.ref sh0, .ref sh1, .ref sh2, .ref sh3, .ref sh4, .int 0, .int 0, .ref sh5]))] H := hP
        have hD : va_D A [(h, .inr (10, [.ref ta, .ref pl, .ref sh, .ref tr, .ref fo, .ref li, .ref sp, .ref dr, .ref pa, .ref im, .ref fs, .ref ph, .ref cd, .int 0, .int 0])), (pl, .inr (6, [.int 4, .int 4, .int 10, .int 1, .int 3, .int 0, .int 0, .int 0, .ref pl0, .ref pl1, .ref pl2])), (sh2, .inl (cy 1, 8, .inl (fun _ => 0))), (fs, .inr (0, [.int 0, .int 0, .int (-1), .ref fs0, .ref fs1, .ref fs2, .ref fs3, .ref fs4, .int 0, .ref fs5, .int 0, .int 0, .int 1, .int 1, .int 0, .int 0])), (fs0, .inl (cy 1, 8, .inl (fun _ => 0))), (fs5, .inl (cy 1, 81, .inl (fun _ => 0))), (sh, .inr (8, [.ref sh0, .ref sh1, .ref sh2, .ref sh3, .ref sh4, .int 0, .int 0, .ref sh5]))] := hD
        obtain rfl : r_13 = 1 := hw_14
        refine lv_if_ne (tgt := 24) hx hb dX10_keep_19 (by decide) (fun _ => ?_) (fun c_0 => absurd c_0 (by decide))
        refine lv_aload_n hx hb dX10_keep_24 rfl (lv_at hl 0 rfl) ?_
        refine q_get (v := .ref fs) C hP 0 10 rfl rfl inX10 (by decide) kF_RX10_73 rfl rfl dX10_keep_25 ?_
        refine lv_aload_n hx hb dX10_keep_28 rfl (lv_at hl 0 rfl) ?_
        refine q_get (v := .ref pl) C hP 0 1 rfl rfl inX10 (by decide) kF_RX10_19 rfl rfl dX10_keep_29 ?_
        refine lv_aload_n hx hb dX10_keep_32 rfl (lv_at hl 0 rfl) ?_
        refine q_get (v := .ref sh) C hP 0 2 rfl rfl inX10 (by decide) kF_RX10_26 rfl rfl dX10_keep_33 ?_
        refine lv_iload_n hx hb dX10_keep_36 rfl (lv_at hl 1 rfl) ?_
        refine q_av (wr := [(h, .inr (10, [.ref ta, .ref pl, .ref sh, .ref tr, .ref fo, .ref li, .ref sp, .ref dr, .ref pa, .ref im, .ref fs, .ref ph, .ref cd, .int 0, .int 0])), (fs0, .inl (cy 1, 8, .inl (fun _ => 0)))]) (r_V (q0 := 0) (As := [.ref pl, .ref sh, .int 2]) (rest := []) (wc := [(fs, .inr (0, [.int 0, .int 0, .int (-1), .ref fs0, .ref fs1, .ref fs2, .ref fs3, .ref fs4, .int 0, .ref fs5, .int 0, .int 0, .int 1, .int 1, .int 0, .int 0])), (fs5, .inl (cy 1, 81, .inl (fun _ => 0))), (pl, .inr (6, [.int 4, .int 4, .int 10, .int 1, .int 3, .int 0, .int 0, .int 0, .ref pl0, .ref pl1, .ref pl2])), (sh, .inr (8, [.ref sh0, .ref sh1, .ref sh2, .ref sh3, .ref sh4, .int 0, .int 0, .ref sh5])), (sh2, .inl (cy 1, 8, .inl (fun _ => 0)))]) C (q_subP hP [3, 5, 1, 6, 2] rfl) (hD.sub [3, 5, 1, 6, 2] (by decide) rfl) (c_look_2 l D cy fs pl sh fs0 fs1 fs2 fs3 fs4 fs5 pl0 pl1 pl2 sh0 sh1 sh2 sh3 sh4 sh5 _ ) kwV_X0_look kM_RX10_335 rfl rfl ⟨Nat.le_of_ble_eq_true rfl, Nat.le_of_ble_eq_true rfl⟩ rfl hl.1 rfl (Nat.le_of_ble_eq_true rfl) dX10_keep_37 ⟨Nat.le_of_ble_eq_true rfl, Nat.le_of_ble_eq_true rfl⟩) C.2.2.2.2.2.2.1 hP hD hS [3, 5, 1, 6, 2] [0, 4] rfl rfl (by decide) (by decide) (fun u_15 H locs hw_17 hP hD hS => ?_)
        have hP : va_P D vwCl [(h, .inr (10, [.ref ta, .ref pl, .ref sh, .ref tr, .ref fo, .ref li, .ref sp, .ref dr, .ref pa, .ref im, .ref fs, .ref ph, .ref cd, .int 0, .int 0])), (fs0, .inl (cy 1, 8, .inl (fun _ => 0))), (fs, .inr (0, [.int 0, .int 0, .int (-1), .ref fs0, .ref fs1, .ref fs2, .ref fs3, .ref fs4, .int 0, .ref fs5, .int 0, .int 0, .int 10, .int 1, .int 0, .int 2])), (fs5, .inl (cy 1, 81, .inl (fun _ => 0))), (pl, .inr (6, [.int 4, .int 4, .int 10, .int 1, .int 3, .int 0, .int 0, .int 0, .ref pl0, .ref pl1, .ref pl2])), (sh, .inr (8, [.ref sh0, .ref sh1, .ref sh2, .ref sh3, .ref sh4, .int 0, .int 0, .ref sh5])), (sh2, .inl (cy 1, 8, .inl (fun _ => 0)))] H := hP
        have hD : va_D A [(h, .inr (10, [.ref ta, .ref pl, .ref sh, .ref tr, .ref fo, .ref li, .ref sp, .ref dr, .ref pa, .ref im, .ref fs, .ref ph, .ref cd, .int 0, .int 0])), (fs0, .inl (cy 1, 8, .inl (fun _ => 0))), (fs, .inr (0, [.int 0, .int 0, .int (-1), .ref fs0, .ref fs1, .ref fs2, .ref fs3, .ref fs4, .int 0, .ref fs5, .int 0, .int 0, .int 10, .int 1, .int 0, .int 2])), (fs5, .inl (cy 1, 81, .inl (fun _ => 0))), (pl, .inr (6, [.int 4, .int 4, .int 10, .int 1, .int 3, .int 0, .int 0, .int 0, .ref pl0, .ref pl1, .ref pl2])), (sh, .inr (8, [.ref sh0, .ref sh1, .ref sh2, .ref sh3, .ref sh4, .int 0, .int 0, .ref sh5])), (sh2, .inl (cy 1, 8, .inl (fun _ => 0)))] := hD
        refine lv_aload_n hx hb dX10_keep_40 rfl (lv_at hl 0 rfl) ?_
        refine q_get (v := .ref fs) C hP 0 10 rfl rfl inX10 (by decide) kF_RX10_73 rfl rfl dX10_keep_41 ?_
        refine q_ai (wr := [(h, .inr (10, [.ref ta, .ref pl, .ref sh, .ref tr, .ref fo, .ref li, .ref sp, .ref dr, .ref pa, .ref im, .ref fs, .ref ph, .ref cd, .int 0, .int 0])), (pl, .inr (6, [.int 4, .int 4, .int 10, .int 1, .int 3, .int 0, .int 0, .int 0, .ref pl0, .ref pl1, .ref pl2])), (sh, .inr (8, [.ref sh0, .ref sh1, .ref sh2, .ref sh3, .ref sh4, .int 0, .int 0, .ref sh5])), (sh2, .inl (cy 1, 8, .inl (fun _ => 0)))]) (r_V (q0 := 0) (As := []) (rest := []) (wc := [(fs, .inr (0, [.int 0, .int 0, .int (-1), .ref fs0, .ref fs1, .ref fs2, .ref fs3, .ref fs4, .int 0, .ref fs5, .int 0, .int 0, .int 10, .int 1, .int 0, .int 2])), (fs0, .inl (cy 1, 8, .inl (fun _ => 0))), (fs5, .inl (cy 1, 81, .inl (fun _ => 0)))]) C (q_subP hP [2, 1, 3] rfl) (hD.sub [2, 1, 3] (by decide) rfl) (c_fewest_2 l D cy fs fs0 fs1 fs2 fs3 fs4 fs5 (fun _ => 0) _ ) kwV_X0_fewestAskings kM_RX10_339 rfl rfl ⟨Nat.le_of_ble_eq_true rfl, Nat.le_of_ble_eq_true rfl⟩ rfl hl.1 rfl (Nat.le_of_ble_eq_true rfl) dX10_keep_44 ⟨Nat.le_of_ble_eq_true rfl, Nat.le_of_ble_eq_true rfl⟩) C.2.2.2.2.2.2.1 hP hD hS [2, 1, 3] [0, 4, 5, 6] rfl rfl (by decide) (by decide) (fun r_19 u_18 H locs hw_20 hP hD hS => ?_)
        have hP : va_P D vwCl [(h, .inr (10, [.ref ta, .ref pl, .ref sh, .ref tr, .ref fo, .ref li, .ref sp, .ref dr, .ref pa, .ref im, .ref fs, .ref ph, .ref cd, .int 0, .int 0])), (pl, .inr (6, [.int 4, .int 4, .int 10, .int 1, .int 3, .int 0, .int 0, .int 0, .ref pl0, .ref pl1, .ref pl2])), (sh, .inr (8, [.ref sh0, .ref sh1, .ref sh2, .ref sh3, .ref sh4, .int 0, .int 0, .ref sh5])), (sh2, .inl (cy 1, 8, .inl (fun _ => 0)))] H := hP
        have hD : va_D A [(h, .inr (10, [.ref ta, .ref pl, .ref sh, .ref tr, .ref fo, .ref li, .ref sp, .ref dr, .ref pa, .ref im, .ref fs, .ref ph, .ref cd, .int 0, .int 0])), (pl, .inr (6, [.int 4, .int 4, .int 10, .int 1, .int 3, .int 0, .int 0, .int 0, .ref pl0, .ref pl1, .ref pl2])), (sh, .inr (8, [.ref sh0, .ref sh1, .ref sh2, .ref sh3, .ref sh4, .int 0, .int 0, .ref sh5])), (sh2, .inl (cy 1, 8, .inl (fun _ => 0)))] := hD
        obtain rfl : r_19 = 0 := hw_20
        exact q_iret (rm := (Rm 10 255 0 0)) C hS () rfl (by show (0 : Int32) = (rKeep (2 : Int32)); decide +kernel) (q_subP hP [] rfl) (hD.sub [] (by decide) rfl) (Nat.le_of_ble_eq_true rfl) (Nat.le_of_ble_eq_true rfl) dX10_keep_47
      · refine lv_aload_n hx hb dX10_keep_11 rfl (lv_at hl 0 rfl) ?_
        refine q_get (v := .ref sh) C hP 0 2 rfl rfl inX10 (by decide) kF_RX10_26 rfl rfl dX10_keep_12 ?_
        refine lv_iload_n hx hb dX10_keep_15 rfl (lv_at hl 1 rfl) ?_
        refine q_ai (wr := [(h, .inr (10, [.ref ta, .ref pl, .ref sh, .ref tr, .ref fo, .ref li, .ref sp, .ref dr, .ref pa, .ref im, .ref fs, .ref ph, .ref cd, .int 0, .int 0])), (pl, .inr (6, [.int 4, .int 4, .int 10, .int 1, .int 3, .int 0, .int 0, .int 0, .ref pl0, .ref pl1, .ref pl2])), (sh2, .inl (cy 1, 8, .inl (fun _ => 0))), (fs, .inr (0, [.int 0, .int 0, .int (-1), .ref fs0, .ref fs1, .ref fs2, .ref fs3, .ref fs4, .int 0, .ref fs5, .int 0, .int 0, .int 1, .int 1, .int 0, .int 0])), (fs0, .inl (cy 1, 8, .inl (fun _ => 0))), (fs5, .inl (cy 1, 81, .inl (fun _ => 0)))]) (r_V (q0 := 0) (As := [.int 3]) (rest := []) (wc := [(sh, .inr (8, [.ref sh0, .ref sh1, .ref sh2, .ref sh3, .ref sh4, .int 0, .int 0, .ref sh5]))]) C (q_subP hP [2] rfl) (hD.sub [2] (by decide) rfl) (c_hasDays_3 l D cy sh sh0 sh1 sh2 sh3 sh4 sh5 _ ) kwV_X8_hasDays kM_RX10_319 rfl rfl ⟨Nat.le_of_ble_eq_true rfl, Nat.le_of_ble_eq_true rfl⟩ rfl hl.1 rfl (Nat.le_of_ble_eq_true rfl) dX10_keep_16 ⟨Nat.le_of_ble_eq_true rfl, Nat.le_of_ble_eq_true rfl⟩) C.2.2.2.2.2.2.1 hP hD hS [2] [0, 1, 3, 4, 5, 6] rfl rfl (by decide) (by decide) (fun r_22 u_21 H locs hw_23 hP hD hS => ?_)
        have hP : va_P D vwCl [(h, .inr (10, [.ref ta, .ref pl, .ref sh, .ref tr, .ref fo, .ref li, .ref sp, .ref dr, .ref pa, .ref im, .ref fs, .ref ph, .ref cd, .int 0, .int 0])), (pl, .inr (6, [.int 4, .int 4, .int 10, .int 1, .int 3, .int 0, .int 0, .int 0, .ref pl0, .ref pl1, .ref pl2])), (sh2, .inl (cy 1, 8, .inl (fun _ => 0))), (fs, .inr (0, [.int 0, .int 0, .int (-1), .ref fs0, .ref fs1, .ref fs2, .ref fs3, .ref fs4, .int 0, .ref fs5, .int 0, .int 0, .int 1, .int 1, .int 0, .int 0])), (fs0, .inl (cy 1, 8, .inl (fun _ => 0))), (fs5, .inl (cy 1, 81, .inl (fun _ => 0))), (sh, .inr (8, [.ref sh0, .ref sh1, .ref sh2, .ref sh3, .ref sh4, .int 0, .int 0, .ref sh5]))] H := hP
        have hD : va_D A [(h, .inr (10, [.ref ta, .ref pl, .ref sh, .ref tr, .ref fo, .ref li, .ref sp, .ref dr, .ref pa, .ref im, .ref fs, .ref ph, .ref cd, .int 0, .int 0])), (pl, .inr (6, [.int 4, .int 4, .int 10, .int 1, .int 3, .int 0, .int 0, .int 0, .ref pl0, .ref pl1, .ref pl2])), (sh2, .inl (cy 1, 8, .inl (fun _ => 0))), (fs, .inr (0, [.int 0, .int 0, .int (-1), .ref fs0, .ref fs1, .ref fs2, .ref fs3, .ref fs4, .int 0, .ref fs5, .int 0, .int 0, .int 1, .int 1, .int 0, .int 0])), (fs0, .inl (cy 1, 8, .inl (fun _ => 0))), (fs5, .inl (cy 1, 81, .inl (fun _ => 0))), (sh, .inr (8, [.ref sh0, .ref sh1, .ref sh2, .ref sh3, .ref sh4, .int 0, .int 0, .ref sh5]))] := hD
        obtain rfl : r_22 = 1 := hw_23
        refine lv_if_ne (tgt := 24) hx hb dX10_keep_19 (by decide) (fun _ => ?_) (fun c_0 => absurd c_0 (by decide))
        refine lv_aload_n hx hb dX10_keep_24 rfl (lv_at hl 0 rfl) ?_
        refine q_get (v := .ref fs) C hP 0 10 rfl rfl inX10 (by decide) kF_RX10_73 rfl rfl dX10_keep_25 ?_
        refine lv_aload_n hx hb dX10_keep_28 rfl (lv_at hl 0 rfl) ?_
        refine q_get (v := .ref pl) C hP 0 1 rfl rfl inX10 (by decide) kF_RX10_19 rfl rfl dX10_keep_29 ?_
        refine lv_aload_n hx hb dX10_keep_32 rfl (lv_at hl 0 rfl) ?_
        refine q_get (v := .ref sh) C hP 0 2 rfl rfl inX10 (by decide) kF_RX10_26 rfl rfl dX10_keep_33 ?_
        refine lv_iload_n hx hb dX10_keep_36 rfl (lv_at hl 1 rfl) ?_
        refine q_av (wr := [(h, .inr (10, [.ref ta, .ref pl, .ref sh, .ref tr, .ref fo, .ref li, .ref sp, .ref dr, .ref pa, .ref im, .ref fs, .ref ph, .ref cd, .int 0, .int 0])), (fs0, .inl (cy 1, 8, .inl (fun _ => 0)))]) (r_V (q0 := 0) (As := [.ref pl, .ref sh, .int 3]) (rest := []) (wc := [(fs, .inr (0, [.int 0, .int 0, .int (-1), .ref fs0, .ref fs1, .ref fs2, .ref fs3, .ref fs4, .int 0, .ref fs5, .int 0, .int 0, .int 1, .int 1, .int 0, .int 0])), (fs5, .inl (cy 1, 81, .inl (fun _ => 0))), (pl, .inr (6, [.int 4, .int 4, .int 10, .int 1, .int 3, .int 0, .int 0, .int 0, .ref pl0, .ref pl1, .ref pl2])), (sh, .inr (8, [.ref sh0, .ref sh1, .ref sh2, .ref sh3, .ref sh4, .int 0, .int 0, .ref sh5])), (sh2, .inl (cy 1, 8, .inl (fun _ => 0)))]) C (q_subP hP [3, 5, 1, 6, 2] rfl) (hD.sub [3, 5, 1, 6, 2] (by decide) rfl) (c_look_3 l D cy fs pl sh fs0 fs1 fs2 fs3 fs4 fs5 pl0 pl1 pl2 sh0 sh1 sh2 sh3 sh4 sh5 _ ) kwV_X0_look kM_RX10_335 rfl rfl ⟨Nat.le_of_ble_eq_true rfl, Nat.le_of_ble_eq_true rfl⟩ rfl hl.1 rfl (Nat.le_of_ble_eq_true rfl) dX10_keep_37 ⟨Nat.le_of_ble_eq_true rfl, Nat.le_of_ble_eq_true rfl⟩) C.2.2.2.2.2.2.1 hP hD hS [3, 5, 1, 6, 2] [0, 4] rfl rfl (by decide) (by decide) (fun u_24 H locs hw_26 hP hD hS => ?_)
        have hP : va_P D vwCl [(h, .inr (10, [.ref ta, .ref pl, .ref sh, .ref tr, .ref fo, .ref li, .ref sp, .ref dr, .ref pa, .ref im, .ref fs, .ref ph, .ref cd, .int 0, .int 0])), (fs0, .inl (cy 1, 8, .inl (fun _ => 0))), (fs, .inr (0, [.int 0, .int 0, .int (-1), .ref fs0, .ref fs1, .ref fs2, .ref fs3, .ref fs4, .int 0, .ref fs5, .int 0, .int 0, .int 10, .int 1, .int 0, .int 3])), (fs5, .inl (cy 1, 81, .inl (fun _ => 0))), (pl, .inr (6, [.int 4, .int 4, .int 10, .int 1, .int 3, .int 0, .int 0, .int 0, .ref pl0, .ref pl1, .ref pl2])), (sh, .inr (8, [.ref sh0, .ref sh1, .ref sh2, .ref sh3, .ref sh4, .int 0, .int 0, .ref sh5])), (sh2, .inl (cy 1, 8, .inl (fun _ => 0)))] H := hP
        have hD : va_D A [(h, .inr (10, [.ref ta, .ref pl, .ref sh, .ref tr, .ref fo, .ref li, .ref sp, .ref dr, .ref pa, .ref im, .ref fs, .ref ph, .ref cd, .int 0, .int 0])), (fs0, .inl (cy 1, 8, .inl (fun _ => 0))), (fs, .inr (0, [.int 0, .int 0, .int (-1), .ref fs0, .ref fs1, .ref fs2, .ref fs3, .ref fs4, .int 0, .ref fs5, .int 0, .int 0, .int 10, .int 1, .int 0, .int 3])), (fs5, .inl (cy 1, 81, .inl (fun _ => 0))), (pl, .inr (6, [.int 4, .int 4, .int 10, .int 1, .int 3, .int 0, .int 0, .int 0, .ref pl0, .ref pl1, .ref pl2])), (sh, .inr (8, [.ref sh0, .ref sh1, .ref sh2, .ref sh3, .ref sh4, .int 0, .int 0, .ref sh5])), (sh2, .inl (cy 1, 8, .inl (fun _ => 0)))] := hD
        refine lv_aload_n hx hb dX10_keep_40 rfl (lv_at hl 0 rfl) ?_
        refine q_get (v := .ref fs) C hP 0 10 rfl rfl inX10 (by decide) kF_RX10_73 rfl rfl dX10_keep_41 ?_
        refine q_ai (wr := [(h, .inr (10, [.ref ta, .ref pl, .ref sh, .ref tr, .ref fo, .ref li, .ref sp, .ref dr, .ref pa, .ref im, .ref fs, .ref ph, .ref cd, .int 0, .int 0])), (pl, .inr (6, [.int 4, .int 4, .int 10, .int 1, .int 3, .int 0, .int 0, .int 0, .ref pl0, .ref pl1, .ref pl2])), (sh, .inr (8, [.ref sh0, .ref sh1, .ref sh2, .ref sh3, .ref sh4, .int 0, .int 0, .ref sh5])), (sh2, .inl (cy 1, 8, .inl (fun _ => 0)))]) (r_V (q0 := 0) (As := []) (rest := []) (wc := [(fs, .inr (0, [.int 0, .int 0, .int (-1), .ref fs0, .ref fs1, .ref fs2, .ref fs3, .ref fs4, .int 0, .ref fs5, .int 0, .int 0, .int 10, .int 1, .int 0, .int 3])), (fs0, .inl (cy 1, 8, .inl (fun _ => 0))), (fs5, .inl (cy 1, 81, .inl (fun _ => 0)))]) C (q_subP hP [2, 1, 3] rfl) (hD.sub [2, 1, 3] (by decide) rfl) (c_fewest_3 l D cy fs fs0 fs1 fs2 fs3 fs4 fs5 (fun _ => 0) _ ) kwV_X0_fewestAskings kM_RX10_339 rfl rfl ⟨Nat.le_of_ble_eq_true rfl, Nat.le_of_ble_eq_true rfl⟩ rfl hl.1 rfl (Nat.le_of_ble_eq_true rfl) dX10_keep_44 ⟨Nat.le_of_ble_eq_true rfl, Nat.le_of_ble_eq_true rfl⟩) C.2.2.2.2.2.2.1 hP hD hS [2, 1, 3] [0, 4, 5, 6] rfl rfl (by decide) (by decide) (fun r_28 u_27 H locs hw_29 hP hD hS => ?_)
        have hP : va_P D vwCl [(h, .inr (10, [.ref ta, .ref pl, .ref sh, .ref tr, .ref fo, .ref li, .ref sp, .ref dr, .ref pa, .ref im, .ref fs, .ref ph, .ref cd, .int 0, .int 0])), (pl, .inr (6, [.int 4, .int 4, .int 10, .int 1, .int 3, .int 0, .int 0, .int 0, .ref pl0, .ref pl1, .ref pl2])), (sh, .inr (8, [.ref sh0, .ref sh1, .ref sh2, .ref sh3, .ref sh4, .int 0, .int 0, .ref sh5])), (sh2, .inl (cy 1, 8, .inl (fun _ => 0)))] H := hP
        have hD : va_D A [(h, .inr (10, [.ref ta, .ref pl, .ref sh, .ref tr, .ref fo, .ref li, .ref sp, .ref dr, .ref pa, .ref im, .ref fs, .ref ph, .ref cd, .int 0, .int 0])), (pl, .inr (6, [.int 4, .int 4, .int 10, .int 1, .int 3, .int 0, .int 0, .int 0, .ref pl0, .ref pl1, .ref pl2])), (sh, .inr (8, [.ref sh0, .ref sh1, .ref sh2, .ref sh3, .ref sh4, .int 0, .int 0, .ref sh5])), (sh2, .inl (cy 1, 8, .inl (fun _ => 0)))] := hD
        obtain rfl : r_28 = 0 := hw_29
        exact q_iret (rm := (Rm 10 255 0 0)) C hS () rfl (by show (0 : Int32) = (rKeep (3 : Int32)); decide +kernel) (q_subP hP [] rfl) (hD.sub [] (by decide) rfl) (Nat.le_of_ble_eq_true rfl) (Nat.le_of_ble_eq_true rfl) dX10_keep_47
      · refine lv_aload_n hx hb dX10_keep_11 rfl (lv_at hl 0 rfl) ?_
        refine q_get (v := .ref sh) C hP 0 2 rfl rfl inX10 (by decide) kF_RX10_26 rfl rfl dX10_keep_12 ?_
        refine lv_iload_n hx hb dX10_keep_15 rfl (lv_at hl 1 rfl) ?_
        refine q_ai (wr := [(h, .inr (10, [.ref ta, .ref pl, .ref sh, .ref tr, .ref fo, .ref li, .ref sp, .ref dr, .ref pa, .ref im, .ref fs, .ref ph, .ref cd, .int 0, .int 0])), (pl, .inr (6, [.int 4, .int 4, .int 10, .int 1, .int 3, .int 0, .int 0, .int 0, .ref pl0, .ref pl1, .ref pl2])), (sh2, .inl (cy 1, 8, .inl (fun _ => 0))), (fs, .inr (0, [.int 0, .int 0, .int (-1), .ref fs0, .ref fs1, .ref fs2, .ref fs3, .ref fs4, .int 0, .ref fs5, .int 0, .int 0, .int 1, .int 1, .int 0, .int 0])), (fs0, .inl (cy 1, 8, .inl (fun _ => 0))), (fs5, .inl (cy 1, 81, .inl (fun _ => 0)))]) (r_V (q0 := 0) (As := [.int 4]) (rest := []) (wc := [(sh, .inr (8, [.ref sh0, .ref sh1, .ref sh2, .ref sh3, .ref sh4, .int 0, .int 0, .ref sh5]))]) C (q_subP hP [2] rfl) (hD.sub [2] (by decide) rfl) (c_hasDays_4 l D cy sh sh0 sh1 sh2 sh3 sh4 sh5 _ ) kwV_X8_hasDays kM_RX10_319 rfl rfl ⟨Nat.le_of_ble_eq_true rfl, Nat.le_of_ble_eq_true rfl⟩ rfl hl.1 rfl (Nat.le_of_ble_eq_true rfl) dX10_keep_16 ⟨Nat.le_of_ble_eq_true rfl, Nat.le_of_ble_eq_true rfl⟩) C.2.2.2.2.2.2.1 hP hD hS [2] [0, 1, 3, 4, 5, 6] rfl rfl (by decide) (by decide) (fun r_31 u_30 H locs hw_32 hP hD hS => ?_)
        have hP : va_P D vwCl [(h, .inr (10, [.ref ta, .ref pl, .ref sh, .ref tr, .ref fo, .ref li, .ref sp, .ref dr, .ref pa, .ref im, .ref fs, .ref ph, .ref cd, .int 0, .int 0])), (pl, .inr (6, [.int 4, .int 4, .int 10, .int 1, .int 3, .int 0, .int 0, .int 0, .ref pl0, .ref pl1, .ref pl2])), (sh2, .inl (cy 1, 8, .inl (fun _ => 0))), (fs, .inr (0, [.int 0, .int 0, .int (-1), .ref fs0, .ref fs1, .ref fs2, .ref fs3, .ref fs4, .int 0, .ref fs5, .int 0, .int 0, .int 1, .int 1, .int 0, .int 0])), (fs0, .inl (cy 1, 8, .inl (fun _ => 0))), (fs5, .inl (cy 1, 81, .inl (fun _ => 0))), (sh, .inr (8, [.ref sh0, .ref sh1, .ref sh2, .ref sh3, .ref sh4, .int 0, .int 0, .ref sh5]))] H := hP
        have hD : va_D A [(h, .inr (10, [.ref ta, .ref pl, .ref sh, .ref tr, .ref fo, .ref li, .ref sp, .ref dr, .ref pa, .ref im, .ref fs, .ref ph, .ref cd, .int 0, .int 0])), (pl, .inr (6, [.int 4, .int 4, .int 10, .int 1, .int 3, .int 0, .int 0, .int 0, .ref pl0, .ref pl1, .ref pl2])), (sh2, .inl (cy 1, 8, .inl (fun _ => 0))), (fs, .inr (0, [.int 0, .int 0, .int (-1), .ref fs0, .ref fs1, .ref fs2, .ref fs3, .ref fs4, .int 0, .ref fs5, .int 0, .int 0, .int 1, .int 1, .int 0, .int 0])), (fs0, .inl (cy 1, 8, .inl (fun _ => 0))), (fs5, .inl (cy 1, 81, .inl (fun _ => 0))), (sh, .inr (8, [.ref sh0, .ref sh1, .ref sh2, .ref sh3, .ref sh4, .int 0, .int 0, .ref sh5]))] := hD
        obtain rfl : r_31 = 1 := hw_32
        refine lv_if_ne (tgt := 24) hx hb dX10_keep_19 (by decide) (fun _ => ?_) (fun c_0 => absurd c_0 (by decide))
        refine lv_aload_n hx hb dX10_keep_24 rfl (lv_at hl 0 rfl) ?_
        refine q_get (v := .ref fs) C hP 0 10 rfl rfl inX10 (by decide) kF_RX10_73 rfl rfl dX10_keep_25 ?_
        refine lv_aload_n hx hb dX10_keep_28 rfl (lv_at hl 0 rfl) ?_
        refine q_get (v := .ref pl) C hP 0 1 rfl rfl inX10 (by decide) kF_RX10_19 rfl rfl dX10_keep_29 ?_
        refine lv_aload_n hx hb dX10_keep_32 rfl (lv_at hl 0 rfl) ?_
        refine q_get (v := .ref sh) C hP 0 2 rfl rfl inX10 (by decide) kF_RX10_26 rfl rfl dX10_keep_33 ?_
        refine lv_iload_n hx hb dX10_keep_36 rfl (lv_at hl 1 rfl) ?_
        refine q_av (wr := [(h, .inr (10, [.ref ta, .ref pl, .ref sh, .ref tr, .ref fo, .ref li, .ref sp, .ref dr, .ref pa, .ref im, .ref fs, .ref ph, .ref cd, .int 0, .int 0])), (fs0, .inl (cy 1, 8, .inl (fun _ => 0)))]) (r_V (q0 := 0) (As := [.ref pl, .ref sh, .int 4]) (rest := []) (wc := [(fs, .inr (0, [.int 0, .int 0, .int (-1), .ref fs0, .ref fs1, .ref fs2, .ref fs3, .ref fs4, .int 0, .ref fs5, .int 0, .int 0, .int 1, .int 1, .int 0, .int 0])), (fs5, .inl (cy 1, 81, .inl (fun _ => 0))), (pl, .inr (6, [.int 4, .int 4, .int 10, .int 1, .int 3, .int 0, .int 0, .int 0, .ref pl0, .ref pl1, .ref pl2])), (sh, .inr (8, [.ref sh0, .ref sh1, .ref sh2, .ref sh3, .ref sh4, .int 0, .int 0, .ref sh5])), (sh2, .inl (cy 1, 8, .inl (fun _ => 0)))]) C (q_subP hP [3, 5, 1, 6, 2] rfl) (hD.sub [3, 5, 1, 6, 2] (by decide) rfl) (c_look_4 l D cy fs pl sh fs0 fs1 fs2 fs3 fs4 fs5 pl0 pl1 pl2 sh0 sh1 sh2 sh3 sh4 sh5 _ ) kwV_X0_look kM_RX10_335 rfl rfl ⟨Nat.le_of_ble_eq_true rfl, Nat.le_of_ble_eq_true rfl⟩ rfl hl.1 rfl (Nat.le_of_ble_eq_true rfl) dX10_keep_37 ⟨Nat.le_of_ble_eq_true rfl, Nat.le_of_ble_eq_true rfl⟩) C.2.2.2.2.2.2.1 hP hD hS [3, 5, 1, 6, 2] [0, 4] rfl rfl (by decide) (by decide) (fun u_33 H locs hw_35 hP hD hS => ?_)
        have hP : va_P D vwCl [(h, .inr (10, [.ref ta, .ref pl, .ref sh, .ref tr, .ref fo, .ref li, .ref sp, .ref dr, .ref pa, .ref im, .ref fs, .ref ph, .ref cd, .int 0, .int 0])), (fs0, .inl (cy 1, 8, .inl (fun _ => 0))), (fs, .inr (0, [.int 0, .int 0, .int (-1), .ref fs0, .ref fs1, .ref fs2, .ref fs3, .ref fs4, .int 0, .ref fs5, .int 0, .int 0, .int 10, .int 1, .int 0, .int 4])), (fs5, .inl (cy 1, 81, .inl (fun _ => 0))), (pl, .inr (6, [.int 4, .int 4, .int 10, .int 1, .int 3, .int 0, .int 0, .int 0, .ref pl0, .ref pl1, .ref pl2])), (sh, .inr (8, [.ref sh0, .ref sh1, .ref sh2, .ref sh3, .ref sh4, .int 0, .int 0, .ref sh5])), (sh2, .inl (cy 1, 8, .inl (fun _ => 0)))] H := hP
        have hD : va_D A [(h, .inr (10, [.ref ta, .ref pl, .ref sh, .ref tr, .ref fo, .ref li, .ref sp, .ref dr, .ref pa, .ref im, .ref fs, .ref ph, .ref cd, .int 0, .int 0])), (fs0, .inl (cy 1, 8, .inl (fun _ => 0))), (fs, .inr (0, [.int 0, .int 0, .int (-1), .ref fs0, .ref fs1, .ref fs2, .ref fs3, .ref fs4, .int 0, .ref fs5, .int 0, .int 0, .int 10, .int 1, .int 0, .int 4])), (fs5, .inl (cy 1, 81, .inl (fun _ => 0))), (pl, .inr (6, [.int 4, .int 4, .int 10, .int 1, .int 3, .int 0, .int 0, .int 0, .ref pl0, .ref pl1, .ref pl2])), (sh, .inr (8, [.ref sh0, .ref sh1, .ref sh2, .ref sh3, .ref sh4, .int 0, .int 0, .ref sh5])), (sh2, .inl (cy 1, 8, .inl (fun _ => 0)))] := hD
        refine lv_aload_n hx hb dX10_keep_40 rfl (lv_at hl 0 rfl) ?_
        refine q_get (v := .ref fs) C hP 0 10 rfl rfl inX10 (by decide) kF_RX10_73 rfl rfl dX10_keep_41 ?_
        refine q_ai (wr := [(h, .inr (10, [.ref ta, .ref pl, .ref sh, .ref tr, .ref fo, .ref li, .ref sp, .ref dr, .ref pa, .ref im, .ref fs, .ref ph, .ref cd, .int 0, .int 0])), (pl, .inr (6, [.int 4, .int 4, .int 10, .int 1, .int 3, .int 0, .int 0, .int 0, .ref pl0, .ref pl1, .ref pl2])), (sh, .inr (8, [.ref sh0, .ref sh1, .ref sh2, .ref sh3, .ref sh4, .int 0, .int 0, .ref sh5])), (sh2, .inl (cy 1, 8, .inl (fun _ => 0)))]) (r_V (q0 := 0) (As := []) (rest := []) (wc := [(fs, .inr (0, [.int 0, .int 0, .int (-1), .ref fs0, .ref fs1, .ref fs2, .ref fs3, .ref fs4, .int 0, .ref fs5, .int 0, .int 0, .int 10, .int 1, .int 0, .int 4])), (fs0, .inl (cy 1, 8, .inl (fun _ => 0))), (fs5, .inl (cy 1, 81, .inl (fun _ => 0)))]) C (q_subP hP [2, 1, 3] rfl) (hD.sub [2, 1, 3] (by decide) rfl) (c_fewest_4 l D cy fs fs0 fs1 fs2 fs3 fs4 fs5 (fun _ => 0) _ ) kwV_X0_fewestAskings kM_RX10_339 rfl rfl ⟨Nat.le_of_ble_eq_true rfl, Nat.le_of_ble_eq_true rfl⟩ rfl hl.1 rfl (Nat.le_of_ble_eq_true rfl) dX10_keep_44 ⟨Nat.le_of_ble_eq_true rfl, Nat.le_of_ble_eq_true rfl⟩) C.2.2.2.2.2.2.1 hP hD hS [2, 1, 3] [0, 4, 5, 6] rfl rfl (by decide) (by decide) (fun r_37 u_36 H locs hw_38 hP hD hS => ?_)
        have hP : va_P D vwCl [(h, .inr (10, [.ref ta, .ref pl, .ref sh, .ref tr, .ref fo, .ref li, .ref sp, .ref dr, .ref pa, .ref im, .ref fs, .ref ph, .ref cd, .int 0, .int 0])), (pl, .inr (6, [.int 4, .int 4, .int 10, .int 1, .int 3, .int 0, .int 0, .int 0, .ref pl0, .ref pl1, .ref pl2])), (sh, .inr (8, [.ref sh0, .ref sh1, .ref sh2, .ref sh3, .ref sh4, .int 0, .int 0, .ref sh5])), (sh2, .inl (cy 1, 8, .inl (fun _ => 0)))] H := hP
        have hD : va_D A [(h, .inr (10, [.ref ta, .ref pl, .ref sh, .ref tr, .ref fo, .ref li, .ref sp, .ref dr, .ref pa, .ref im, .ref fs, .ref ph, .ref cd, .int 0, .int 0])), (pl, .inr (6, [.int 4, .int 4, .int 10, .int 1, .int 3, .int 0, .int 0, .int 0, .ref pl0, .ref pl1, .ref pl2])), (sh, .inr (8, [.ref sh0, .ref sh1, .ref sh2, .ref sh3, .ref sh4, .int 0, .int 0, .ref sh5])), (sh2, .inl (cy 1, 8, .inl (fun _ => 0)))] := hD
        obtain rfl : r_37 = 0 := hw_38
        exact q_iret (rm := (Rm 10 255 0 0)) C hS () rfl (by show (0 : Int32) = (rKeep (4 : Int32)); decide +kernel) (q_subP hP [] rfl) (hD.sub [] (by decide) rfl) (Nat.le_of_ble_eq_true rfl) (Nat.le_of_ble_eq_true rfl) dX10_keep_47
      · refine lv_aload_n hx hb dX10_keep_11 rfl (lv_at hl 0 rfl) ?_
        refine q_get (v := .ref sh) C hP 0 2 rfl rfl inX10 (by decide) kF_RX10_26 rfl rfl dX10_keep_12 ?_
        refine lv_iload_n hx hb dX10_keep_15 rfl (lv_at hl 1 rfl) ?_
        refine q_ai (wr := [(h, .inr (10, [.ref ta, .ref pl, .ref sh, .ref tr, .ref fo, .ref li, .ref sp, .ref dr, .ref pa, .ref im, .ref fs, .ref ph, .ref cd, .int 0, .int 0])), (pl, .inr (6, [.int 4, .int 4, .int 10, .int 1, .int 3, .int 0, .int 0, .int 0, .ref pl0, .ref pl1, .ref pl2])), (sh2, .inl (cy 1, 8, .inl (fun _ => 0))), (fs, .inr (0, [.int 0, .int 0, .int (-1), .ref fs0, .ref fs1, .ref fs2, .ref fs3, .ref fs4, .int 0, .ref fs5, .int 0, .int 0, .int 1, .int 1, .int 0, .int 0])), (fs0, .inl (cy 1, 8, .inl (fun _ => 0))), (fs5, .inl (cy 1, 81, .inl (fun _ => 0)))]) (r_V (q0 := 0) (As := [.int 5]) (rest := []) (wc := [(sh, .inr (8, [.ref sh0, .ref sh1, .ref sh2, .ref sh3, .ref sh4, .int 0, .int 0, .ref sh5]))]) C (q_subP hP [2] rfl) (hD.sub [2] (by decide) rfl) (c_hasDays_5 l D cy sh sh0 sh1 sh2 sh3 sh4 sh5 _ ) kwV_X8_hasDays kM_RX10_319 rfl rfl ⟨Nat.le_of_ble_eq_true rfl, Nat.le_of_ble_eq_true rfl⟩ rfl hl.1 rfl (Nat.le_of_ble_eq_true rfl) dX10_keep_16 ⟨Nat.le_of_ble_eq_true rfl, Nat.le_of_ble_eq_true rfl⟩) C.2.2.2.2.2.2.1 hP hD hS [2] [0, 1, 3, 4, 5, 6] rfl rfl (by decide) (by decide) (fun r_40 u_39 H locs hw_41 hP hD hS => ?_)
        have hP : va_P D vwCl [(h, .inr (10, [.ref ta, .ref pl, .ref sh, .ref tr, .ref fo, .ref li, .ref sp, .ref dr, .ref pa, .ref im, .ref fs, .ref ph, .ref cd, .int 0, .int 0])), (pl, .inr (6, [.int 4, .int 4, .int 10, .int 1, .int 3, .int 0, .int 0, .int 0, .ref pl0, .ref pl1, .ref pl2])), (sh2, .inl (cy 1, 8, .inl (fun _ => 0))), (fs, .inr (0, [.int 0, .int 0, .int (-1), .ref fs0, .ref fs1, .ref fs2, .ref fs3, .ref fs4, .int 0, .ref fs5, .int 0, .int 0, .int 1, .int 1, .int 0, .int 0])), (fs0, .inl (cy 1, 8, .inl (fun _ => 0))), (fs5, .inl (cy 1, 81, .inl (fun _ => 0))), (sh, .inr (8, [.ref sh0, .ref sh1, .ref sh2, .ref sh3, .ref sh4, .int 0, .int 0, .ref sh5]))] H := hP
        have hD : va_D A [(h, .inr (10, [.ref ta, .ref pl, .ref sh, .ref tr, .ref fo, .ref li, .ref sp, .ref dr, .ref pa, .ref im, .ref fs, .ref ph, .ref cd, .int 0, .int 0])), (pl, .inr (6, [.int 4, .int 4, .int 10, .int 1, .int 3, .int 0, .int 0, .int 0, .ref pl0, .ref pl1, .ref pl2])), (sh2, .inl (cy 1, 8, .inl (fun _ => 0))), (fs, .inr (0, [.int 0, .int 0, .int (-1), .ref fs0, .ref fs1, .ref fs2, .ref fs3, .ref fs4, .int 0, .ref fs5, .int 0, .int 0, .int 1, .int 1, .int 0, .int 0])), (fs0, .inl (cy 1, 8, .inl (fun _ => 0))), (fs5, .inl (cy 1, 81, .inl (fun _ => 0))), (sh, .inr (8, [.ref sh0, .ref sh1, .ref sh2, .ref sh3, .ref sh4, .int 0, .int 0, .ref sh5]))] := hD
        obtain rfl : r_40 = 1 := hw_41
        refine lv_if_ne (tgt := 24) hx hb dX10_keep_19 (by decide) (fun _ => ?_) (fun c_0 => absurd c_0 (by decide))
        refine lv_aload_n hx hb dX10_keep_24 rfl (lv_at hl 0 rfl) ?_
        refine q_get (v := .ref fs) C hP 0 10 rfl rfl inX10 (by decide) kF_RX10_73 rfl rfl dX10_keep_25 ?_
        refine lv_aload_n hx hb dX10_keep_28 rfl (lv_at hl 0 rfl) ?_
        refine q_get (v := .ref pl) C hP 0 1 rfl rfl inX10 (by decide) kF_RX10_19 rfl rfl dX10_keep_29 ?_
        refine lv_aload_n hx hb dX10_keep_32 rfl (lv_at hl 0 rfl) ?_
        refine q_get (v := .ref sh) C hP 0 2 rfl rfl inX10 (by decide) kF_RX10_26 rfl rfl dX10_keep_33 ?_
        refine lv_iload_n hx hb dX10_keep_36 rfl (lv_at hl 1 rfl) ?_
        refine q_av (wr := [(h, .inr (10, [.ref ta, .ref pl, .ref sh, .ref tr, .ref fo, .ref li, .ref sp, .ref dr, .ref pa, .ref im, .ref fs, .ref ph, .ref cd, .int 0, .int 0])), (fs0, .inl (cy 1, 8, .inl (fun _ => 0)))]) (r_V (q0 := 0) (As := [.ref pl, .ref sh, .int 5]) (rest := []) (wc := [(fs, .inr (0, [.int 0, .int 0, .int (-1), .ref fs0, .ref fs1, .ref fs2, .ref fs3, .ref fs4, .int 0, .ref fs5, .int 0, .int 0, .int 1, .int 1, .int 0, .int 0])), (fs5, .inl (cy 1, 81, .inl (fun _ => 0))), (pl, .inr (6, [.int 4, .int 4, .int 10, .int 1, .int 3, .int 0, .int 0, .int 0, .ref pl0, .ref pl1, .ref pl2])), (sh, .inr (8, [.ref sh0, .ref sh1, .ref sh2, .ref sh3, .ref sh4, .int 0, .int 0, .ref sh5])), (sh2, .inl (cy 1, 8, .inl (fun _ => 0)))]) C (q_subP hP [3, 5, 1, 6, 2] rfl) (hD.sub [3, 5, 1, 6, 2] (by decide) rfl) (c_look_5 l D cy fs pl sh fs0 fs1 fs2 fs3 fs4 fs5 pl0 pl1 pl2 sh0 sh1 sh2 sh3 sh4 sh5 _ ) kwV_X0_look kM_RX10_335 rfl rfl ⟨Nat.le_of_ble_eq_true rfl, Nat.le_of_ble_eq_true rfl⟩ rfl hl.1 rfl (Nat.le_of_ble_eq_true rfl) dX10_keep_37 ⟨Nat.le_of_ble_eq_true rfl, Nat.le_of_ble_eq_true rfl⟩) C.2.2.2.2.2.2.1 hP hD hS [3, 5, 1, 6, 2] [0, 4] rfl rfl (by decide) (by decide) (fun u_42 H locs hw_44 hP hD hS => ?_)
        have hP : va_P D vwCl [(h, .inr (10, [.ref ta, .ref pl, .ref sh, .ref tr, .ref fo, .ref li, .ref sp, .ref dr, .ref pa, .ref im, .ref fs, .ref ph, .ref cd, .int 0, .int 0])), (fs0, .inl (cy 1, 8, .inl (fun _ => 0))), (fs, .inr (0, [.int 0, .int 0, .int (-1), .ref fs0, .ref fs1, .ref fs2, .ref fs3, .ref fs4, .int 0, .ref fs5, .int 0, .int 0, .int 10, .int 1, .int 0, .int 5])), (fs5, .inl (cy 1, 81, .inl (fun _ => 0))), (pl, .inr (6, [.int 4, .int 4, .int 10, .int 1, .int 3, .int 0, .int 0, .int 0, .ref pl0, .ref pl1, .ref pl2])), (sh, .inr (8, [.ref sh0, .ref sh1, .ref sh2, .ref sh3, .ref sh4, .int 0, .int 0, .ref sh5])), (sh2, .inl (cy 1, 8, .inl (fun _ => 0)))] H := hP
        have hD : va_D A [(h, .inr (10, [.ref ta, .ref pl, .ref sh, .ref tr, .ref fo, .ref li, .ref sp, .ref dr, .ref pa, .ref im, .ref fs, .ref ph, .ref cd, .int 0, .int 0])), (fs0, .inl (cy 1, 8, .inl (fun _ => 0))), (fs, .inr (0, [.int 0, .int 0, .int (-1), .ref fs0, .ref fs1, .ref fs2, .ref fs3, .ref fs4, .int 0, .ref fs5, .int 0, .int 0, .int 10, .int 1, .int 0, .int 5])), (fs5, .inl (cy 1, 81, .inl (fun _ => 0))), (pl, .inr (6, [.int 4, .int 4, .int 10, .int 1, .int 3, .int 0, .int 0, .int 0, .ref pl0, .ref pl1, .ref pl2])), (sh, .inr (8, [.ref sh0, .ref sh1, .ref sh2, .ref sh3, .ref sh4, .int 0, .int 0, .ref sh5])), (sh2, .inl (cy 1, 8, .inl (fun _ => 0)))] := hD
        refine lv_aload_n hx hb dX10_keep_40 rfl (lv_at hl 0 rfl) ?_
        refine q_get (v := .ref fs) C hP 0 10 rfl rfl inX10 (by decide) kF_RX10_73 rfl rfl dX10_keep_41 ?_
        refine q_ai (wr := [(h, .inr (10, [.ref ta, .ref pl, .ref sh, .ref tr, .ref fo, .ref li, .ref sp, .ref dr, .ref pa, .ref im, .ref fs, .ref ph, .ref cd, .int 0, .int 0])), (pl, .inr (6, [.int 4, .int 4, .int 10, .int 1, .int 3, .int 0, .int 0, .int 0, .ref pl0, .ref pl1, .ref pl2])), (sh, .inr (8, [.ref sh0, .ref sh1, .ref sh2, .ref sh3, .ref sh4, .int 0, .int 0, .ref sh5])), (sh2, .inl (cy 1, 8, .inl (fun _ => 0)))]) (r_V (q0 := 0) (As := []) (rest := []) (wc := [(fs, .inr (0, [.int 0, .int 0, .int (-1), .ref fs0, .ref fs1, .ref fs2, .ref fs3, .ref fs4, .int 0, .ref fs5, .int 0, .int 0, .int 10, .int 1, .int 0, .int 5])), (fs0, .inl (cy 1, 8, .inl (fun _ => 0))), (fs5, .inl (cy 1, 81, .inl (fun _ => 0)))]) C (q_subP hP [2, 1, 3] rfl) (hD.sub [2, 1, 3] (by decide) rfl) (c_fewest_5 l D cy fs fs0 fs1 fs2 fs3 fs4 fs5 (fun _ => 0) _ ) kwV_X0_fewestAskings kM_RX10_339 rfl rfl ⟨Nat.le_of_ble_eq_true rfl, Nat.le_of_ble_eq_true rfl⟩ rfl hl.1 rfl (Nat.le_of_ble_eq_true rfl) dX10_keep_44 ⟨Nat.le_of_ble_eq_true rfl, Nat.le_of_ble_eq_true rfl⟩) C.2.2.2.2.2.2.1 hP hD hS [2, 1, 3] [0, 4, 5, 6] rfl rfl (by decide) (by decide) (fun r_46 u_45 H locs hw_47 hP hD hS => ?_)
        have hP : va_P D vwCl [(h, .inr (10, [.ref ta, .ref pl, .ref sh, .ref tr, .ref fo, .ref li, .ref sp, .ref dr, .ref pa, .ref im, .ref fs, .ref ph, .ref cd, .int 0, .int 0])), (pl, .inr (6, [.int 4, .int 4, .int 10, .int 1, .int 3, .int 0, .int 0, .int 0, .ref pl0, .ref pl1, .ref pl2])), (sh, .inr (8, [.ref sh0, .ref sh1, .ref sh2, .ref sh3, .ref sh4, .int 0, .int 0, .ref sh5])), (sh2, .inl (cy 1, 8, .inl (fun _ => 0)))] H := hP
        have hD : va_D A [(h, .inr (10, [.ref ta, .ref pl, .ref sh, .ref tr, .ref fo, .ref li, .ref sp, .ref dr, .ref pa, .ref im, .ref fs, .ref ph, .ref cd, .int 0, .int 0])), (pl, .inr (6, [.int 4, .int 4, .int 10, .int 1, .int 3, .int 0, .int 0, .int 0, .ref pl0, .ref pl1, .ref pl2])), (sh, .inr (8, [.ref sh0, .ref sh1, .ref sh2, .ref sh3, .ref sh4, .int 0, .int 0, .ref sh5])), (sh2, .inl (cy 1, 8, .inl (fun _ => 0)))] := hD
        obtain rfl : r_46 = 0 := hw_47
        exact q_iret (rm := (Rm 10 255 0 0)) C hS () rfl (by show (0 : Int32) = (rKeep (5 : Int32)); decide +kernel) (q_subP hP [] rfl) (hD.sub [] (by decide) rfl) (Nat.le_of_ble_eq_true rfl) (Nat.le_of_ble_eq_true rfl) dX10_keep_47
      · refine lv_aload_n hx hb dX10_keep_11 rfl (lv_at hl 0 rfl) ?_
        refine q_get (v := .ref sh) C hP 0 2 rfl rfl inX10 (by decide) kF_RX10_26 rfl rfl dX10_keep_12 ?_
        refine lv_iload_n hx hb dX10_keep_15 rfl (lv_at hl 1 rfl) ?_
        refine q_ai (wr := [(h, .inr (10, [.ref ta, .ref pl, .ref sh, .ref tr, .ref fo, .ref li, .ref sp, .ref dr, .ref pa, .ref im, .ref fs, .ref ph, .ref cd, .int 0, .int 0])), (pl, .inr (6, [.int 4, .int 4, .int 10, .int 1, .int 3, .int 0, .int 0, .int 0, .ref pl0, .ref pl1, .ref pl2])), (sh2, .inl (cy 1, 8, .inl (fun _ => 0))), (fs, .inr (0, [.int 0, .int 0, .int (-1), .ref fs0, .ref fs1, .ref fs2, .ref fs3, .ref fs4, .int 0, .ref fs5, .int 0, .int 0, .int 1, .int 1, .int 0, .int 0])), (fs0, .inl (cy 1, 8, .inl (fun _ => 0))), (fs5, .inl (cy 1, 81, .inl (fun _ => 0)))]) (r_V (q0 := 0) (As := [.int 6]) (rest := []) (wc := [(sh, .inr (8, [.ref sh0, .ref sh1, .ref sh2, .ref sh3, .ref sh4, .int 0, .int 0, .ref sh5]))]) C (q_subP hP [2] rfl) (hD.sub [2] (by decide) rfl) (c_hasDays_6 l D cy sh sh0 sh1 sh2 sh3 sh4 sh5 _ ) kwV_X8_hasDays kM_RX10_319 rfl rfl ⟨Nat.le_of_ble_eq_true rfl, Nat.le_of_ble_eq_true rfl⟩ rfl hl.1 rfl (Nat.le_of_ble_eq_true rfl) dX10_keep_16 ⟨Nat.le_of_ble_eq_true rfl, Nat.le_of_ble_eq_true rfl⟩) C.2.2.2.2.2.2.1 hP hD hS [2] [0, 1, 3, 4, 5, 6] rfl rfl (by decide) (by decide) (fun r_49 u_48 H locs hw_50 hP hD hS => ?_)
        have hP : va_P D vwCl [(h, .inr (10, [.ref ta, .ref pl, .ref sh, .ref tr, .ref fo, .ref li, .ref sp, .ref dr, .ref pa, .ref im, .ref fs, .ref ph, .ref cd, .int 0, .int 0])), (pl, .inr (6, [.int 4, .int 4, .int 10, .int 1, .int 3, .int 0, .int 0, .int 0, .ref pl0, .ref pl1, .ref pl2])), (sh2, .inl (cy 1, 8, .inl (fun _ => 0))), (fs, .inr (0, [.int 0, .int 0, .int (-1), .ref fs0, .ref fs1, .ref fs2, .ref fs3, .ref fs4, .int 0, .ref fs5, .int 0, .int 0, .int 1, .int 1, .int 0, .int 0])), (fs0, .inl (cy 1, 8, .inl (fun _ => 0))), (fs5, .inl (cy 1, 81, .inl (fun _ => 0))), (sh, .inr (8, [.ref sh0, .ref sh1, .ref sh2, .ref sh3, .ref sh4, .int 0, .int 0, .ref sh5]))] H := hP
        have hD : va_D A [(h, .inr (10, [.ref ta, .ref pl, .ref sh, .ref tr, .ref fo, .ref li, .ref sp, .ref dr, .ref pa, .ref im, .ref fs, .ref ph, .ref cd, .int 0, .int 0])), (pl, .inr (6, [.int 4, .int 4, .int 10, .int 1, .int 3, .int 0, .int 0, .int 0, .ref pl0, .ref pl1, .ref pl2])), (sh2, .inl (cy 1, 8, .inl (fun _ => 0))), (fs, .inr (0, [.int 0, .int 0, .int (-1), .ref fs0, .ref fs1, .ref fs2, .ref fs3, .ref fs4, .int 0, .ref fs5, .int 0, .int 0, .int 1, .int 1, .int 0, .int 0])), (fs0, .inl (cy 1, 8, .inl (fun _ => 0))), (fs5, .inl (cy 1, 81, .inl (fun _ => 0))), (sh, .inr (8, [.ref sh0, .ref sh1, .ref sh2, .ref sh3, .ref sh4, .int 0, .int 0, .ref sh5]))] := hD
        obtain rfl : r_49 = 1 := hw_50
        refine lv_if_ne (tgt := 24) hx hb dX10_keep_19 (by decide) (fun _ => ?_) (fun c_0 => absurd c_0 (by decide))
        refine lv_aload_n hx hb dX10_keep_24 rfl (lv_at hl 0 rfl) ?_
        refine q_get (v := .ref fs) C hP 0 10 rfl rfl inX10 (by decide) kF_RX10_73 rfl rfl dX10_keep_25 ?_
        refine lv_aload_n hx hb dX10_keep_28 rfl (lv_at hl 0 rfl) ?_
        refine q_get (v := .ref pl) C hP 0 1 rfl rfl inX10 (by decide) kF_RX10_19 rfl rfl dX10_keep_29 ?_
        refine lv_aload_n hx hb dX10_keep_32 rfl (lv_at hl 0 rfl) ?_
        refine q_get (v := .ref sh) C hP 0 2 rfl rfl inX10 (by decide) kF_RX10_26 rfl rfl dX10_keep_33 ?_
        refine lv_iload_n hx hb dX10_keep_36 rfl (lv_at hl 1 rfl) ?_
        refine q_av (wr := [(h, .inr (10, [.ref ta, .ref pl, .ref sh, .ref tr, .ref fo, .ref li, .ref sp, .ref dr, .ref pa, .ref im, .ref fs, .ref ph, .ref cd, .int 0, .int 0])), (fs0, .inl (cy 1, 8, .inl (fun _ => 0)))]) (r_V (q0 := 0) (As := [.ref pl, .ref sh, .int 6]) (rest := []) (wc := [(fs, .inr (0, [.int 0, .int 0, .int (-1), .ref fs0, .ref fs1, .ref fs2, .ref fs3, .ref fs4, .int 0, .ref fs5, .int 0, .int 0, .int 1, .int 1, .int 0, .int 0])), (fs5, .inl (cy 1, 81, .inl (fun _ => 0))), (pl, .inr (6, [.int 4, .int 4, .int 10, .int 1, .int 3, .int 0, .int 0, .int 0, .ref pl0, .ref pl1, .ref pl2])), (sh, .inr (8, [.ref sh0, .ref sh1, .ref sh2, .ref sh3, .ref sh4, .int 0, .int 0, .ref sh5])), (sh2, .inl (cy 1, 8, .inl (fun _ => 0)))]) C (q_subP hP [3, 5, 1, 6, 2] rfl) (hD.sub [3, 5, 1, 6, 2] (by decide) rfl) (c_look_6 l D cy fs pl sh fs0 fs1 fs2 fs3 fs4 fs5 pl0 pl1 pl2 sh0 sh1 sh2 sh3 sh4 sh5 _ ) kwV_X0_look kM_RX10_335 rfl rfl ⟨Nat.le_of_ble_eq_true rfl, Nat.le_of_ble_eq_true rfl⟩ rfl hl.1 rfl (Nat.le_of_ble_eq_true rfl) dX10_keep_37 ⟨Nat.le_of_ble_eq_true rfl, Nat.le_of_ble_eq_true rfl⟩) C.2.2.2.2.2.2.1 hP hD hS [3, 5, 1, 6, 2] [0, 4] rfl rfl (by decide) (by decide) (fun u_51 H locs hw_53 hP hD hS => ?_)
        have hP : va_P D vwCl [(h, .inr (10, [.ref ta, .ref pl, .ref sh, .ref tr, .ref fo, .ref li, .ref sp, .ref dr, .ref pa, .ref im, .ref fs, .ref ph, .ref cd, .int 0, .int 0])), (fs0, .inl (cy 1, 8, .inl (fun _ => 0))), (fs, .inr (0, [.int 0, .int 0, .int (-1), .ref fs0, .ref fs1, .ref fs2, .ref fs3, .ref fs4, .int 0, .ref fs5, .int 0, .int 0, .int 10, .int 1, .int 0, .int 6])), (fs5, .inl (cy 1, 81, .inl (fun _ => 0))), (pl, .inr (6, [.int 4, .int 4, .int 10, .int 1, .int 3, .int 0, .int 0, .int 0, .ref pl0, .ref pl1, .ref pl2])), (sh, .inr (8, [.ref sh0, .ref sh1, .ref sh2, .ref sh3, .ref sh4, .int 0, .int 0, .ref sh5])), (sh2, .inl (cy 1, 8, .inl (fun _ => 0)))] H := hP
        have hD : va_D A [(h, .inr (10, [.ref ta, .ref pl, .ref sh, .ref tr, .ref fo, .ref li, .ref sp, .ref dr, .ref pa, .ref im, .ref fs, .ref ph, .ref cd, .int 0, .int 0])), (fs0, .inl (cy 1, 8, .inl (fun _ => 0))), (fs, .inr (0, [.int 0, .int 0, .int (-1), .ref fs0, .ref fs1, .ref fs2, .ref fs3, .ref fs4, .int 0, .ref fs5, .int 0, .int 0, .int 10, .int 1, .int 0, .int 6])), (fs5, .inl (cy 1, 81, .inl (fun _ => 0))), (pl, .inr (6, [.int 4, .int 4, .int 10, .int 1, .int 3, .int 0, .int 0, .int 0, .ref pl0, .ref pl1, .ref pl2])), (sh, .inr (8, [.ref sh0, .ref sh1, .ref sh2, .ref sh3, .ref sh4, .int 0, .int 0, .ref sh5])), (sh2, .inl (cy 1, 8, .inl (fun _ => 0)))] := hD
        refine lv_aload_n hx hb dX10_keep_40 rfl (lv_at hl 0 rfl) ?_
        refine q_get (v := .ref fs) C hP 0 10 rfl rfl inX10 (by decide) kF_RX10_73 rfl rfl dX10_keep_41 ?_
        refine q_ai (wr := [(h, .inr (10, [.ref ta, .ref pl, .ref sh, .ref tr, .ref fo, .ref li, .ref sp, .ref dr, .ref pa, .ref im, .ref fs, .ref ph, .ref cd, .int 0, .int 0])), (pl, .inr (6, [.int 4, .int 4, .int 10, .int 1, .int 3, .int 0, .int 0, .int 0, .ref pl0, .ref pl1, .ref pl2])), (sh, .inr (8, [.ref sh0, .ref sh1, .ref sh2, .ref sh3, .ref sh4, .int 0, .int 0, .ref sh5])), (sh2, .inl (cy 1, 8, .inl (fun _ => 0)))]) (r_V (q0 := 0) (As := []) (rest := []) (wc := [(fs, .inr (0, [.int 0, .int 0, .int (-1), .ref fs0, .ref fs1, .ref fs2, .ref fs3, .ref fs4, .int 0, .ref fs5, .int 0, .int 0, .int 10, .int 1, .int 0, .int 6])), (fs0, .inl (cy 1, 8, .inl (fun _ => 0))), (fs5, .inl (cy 1, 81, .inl (fun _ => 0)))]) C (q_subP hP [2, 1, 3] rfl) (hD.sub [2, 1, 3] (by decide) rfl) (c_fewest_6 l D cy fs fs0 fs1 fs2 fs3 fs4 fs5 (fun _ => 0) _ ) kwV_X0_fewestAskings kM_RX10_339 rfl rfl ⟨Nat.le_of_ble_eq_true rfl, Nat.le_of_ble_eq_true rfl⟩ rfl hl.1 rfl (Nat.le_of_ble_eq_true rfl) dX10_keep_44 ⟨Nat.le_of_ble_eq_true rfl, Nat.le_of_ble_eq_true rfl⟩) C.2.2.2.2.2.2.1 hP hD hS [2, 1, 3] [0, 4, 5, 6] rfl rfl (by decide) (by decide) (fun r_55 u_54 H locs hw_56 hP hD hS => ?_)
        have hP : va_P D vwCl [(h, .inr (10, [.ref ta, .ref pl, .ref sh, .ref tr, .ref fo, .ref li, .ref sp, .ref dr, .ref pa, .ref im, .ref fs, .ref ph, .ref cd, .int 0, .int 0])), (pl, .inr (6, [.int 4, .int 4, .int 10, .int 1, .int 3, .int 0, .int 0, .int 0, .ref pl0, .ref pl1, .ref pl2])), (sh, .inr (8, [.ref sh0, .ref sh1, .ref sh2, .ref sh3, .ref sh4, .int 0, .int 0, .ref sh5])), (sh2, .inl (cy 1, 8, .inl (fun _ => 0)))] H := hP
        have hD : va_D A [(h, .inr (10, [.ref ta, .ref pl, .ref sh, .ref tr, .ref fo, .ref li, .ref sp, .ref dr, .ref pa, .ref im, .ref fs, .ref ph, .ref cd, .int 0, .int 0])), (pl, .inr (6, [.int 4, .int 4, .int 10, .int 1, .int 3, .int 0, .int 0, .int 0, .ref pl0, .ref pl1, .ref pl2])), (sh, .inr (8, [.ref sh0, .ref sh1, .ref sh2, .ref sh3, .ref sh4, .int 0, .int 0, .ref sh5])), (sh2, .inl (cy 1, 8, .inl (fun _ => 0)))] := hD
        obtain rfl : r_55 = 0 := hw_56
        exact q_iret (rm := (Rm 10 255 0 0)) C hS () rfl (by show (0 : Int32) = (rKeep (6 : Int32)); decide +kernel) (q_subP hP [] rfl) (hD.sub [] (by decide) rfl) (Nat.le_of_ble_eq_true rfl) (Nat.le_of_ble_eq_true rfl) dX10_keep_47
      · refine lv_aload_n hx hb dX10_keep_11 rfl (lv_at hl 0 rfl) ?_
        refine q_get (v := .ref sh) C hP 0 2 rfl rfl inX10 (by decide) kF_RX10_26 rfl rfl dX10_keep_12 ?_
        refine lv_iload_n hx hb dX10_keep_15 rfl (lv_at hl 1 rfl) ?_
        refine q_ai (wr := [(h, .inr (10, [.ref ta, .ref pl, .ref sh, .ref tr, .ref fo, .ref li, .ref sp, .ref dr, .ref pa, .ref im, .ref fs, .ref ph, .ref cd, .int 0, .int 0])), (pl, .inr (6, [.int 4, .int 4, .int 10, .int 1, .int 3, .int 0, .int 0, .int 0, .ref pl0, .ref pl1, .ref pl2])), (sh2, .inl (cy 1, 8, .inl (fun _ => 0))), (fs, .inr (0, [.int 0, .int 0, .int (-1), .ref fs0, .ref fs1, .ref fs2, .ref fs3, .ref fs4, .int 0, .ref fs5, .int 0, .int 0, .int 1, .int 1, .int 0, .int 0])), (fs0, .inl (cy 1, 8, .inl (fun _ => 0))), (fs5, .inl (cy 1, 81, .inl (fun _ => 0)))]) (r_V (q0 := 0) (As := [.int 7]) (rest := []) (wc := [(sh, .inr (8, [.ref sh0, .ref sh1, .ref sh2, .ref sh3, .ref sh4, .int 0, .int 0, .ref sh5]))]) C (q_subP hP [2] rfl) (hD.sub [2] (by decide) rfl) (c_hasDays_7 l D cy sh sh0 sh1 sh2 sh3 sh4 sh5 _ ) kwV_X8_hasDays kM_RX10_319 rfl rfl ⟨Nat.le_of_ble_eq_true rfl, Nat.le_of_ble_eq_true rfl⟩ rfl hl.1 rfl (Nat.le_of_ble_eq_true rfl) dX10_keep_16 ⟨Nat.le_of_ble_eq_true rfl, Nat.le_of_ble_eq_true rfl⟩) C.2.2.2.2.2.2.1 hP hD hS [2] [0, 1, 3, 4, 5, 6] rfl rfl (by decide) (by decide) (fun r_58 u_57 H locs hw_59 hP hD hS => ?_)
        have hP : va_P D vwCl [(h, .inr (10, [.ref ta, .ref pl, .ref sh, .ref tr, .ref fo, .ref li, .ref sp, .ref dr, .ref pa, .ref im, .ref fs, .ref ph, .ref cd, .int 0, .int 0])), (pl, .inr (6, [.int 4, .int 4, .int 10, .int 1, .int 3, .int 0, .int 0, .int 0, .ref pl0, .ref pl1, .ref pl2])), (sh2, .inl (cy 1, 8, .inl (fun _ => 0))), (fs, .inr (0, [.int 0, .int 0, .int (-1), .ref fs0, .ref fs1, .ref fs2, .ref fs3, .ref fs4, .int 0, .ref fs5, .int 0, .int 0, .int 1, .int 1, .int 0, .int 0])), (fs0, .inl (cy 1, 8, .inl (fun _ => 0))), (fs5, .inl (cy 1, 81, .inl (fun _ => 0))), (sh, .inr (8, [.ref sh0, .ref sh1, .ref sh2, .ref sh3, .ref sh4, .int 0, .int 0, .ref sh5]))] H := hP
        have hD : va_D A [(h, .inr (10, [.ref ta, .ref pl, .ref sh, .ref tr, .ref fo, .ref li, .ref sp, .ref dr, .ref pa, .ref im, .ref fs, .ref ph, .ref cd, .int 0, .int 0])), (pl, .inr (6, [.int 4, .int 4, .int 10, .int 1, .int 3, .int 0, .int 0, .int 0, .ref pl0, .ref pl1, .ref pl2])), (sh2, .inl (cy 1, 8, .inl (fun _ => 0))), (fs, .inr (0, [.int 0, .int 0, .int (-1), .ref fs0, .ref fs1, .ref fs2, .ref fs3, .ref fs4, .int 0, .ref fs5, .int 0, .int 0, .int 1, .int 1, .int 0, .int 0])), (fs0, .inl (cy 1, 8, .inl (fun _ => 0))), (fs5, .inl (cy 1, 81, .inl (fun _ => 0))), (sh, .inr (8, [.ref sh0, .ref sh1, .ref sh2, .ref sh3, .ref sh4, .int 0, .int 0, .ref sh5]))] := hD
        obtain rfl : r_58 = 1 := hw_59
        refine lv_if_ne (tgt := 24) hx hb dX10_keep_19 (by decide) (fun _ => ?_) (fun c_0 => absurd c_0 (by decide))
        refine lv_aload_n hx hb dX10_keep_24 rfl (lv_at hl 0 rfl) ?_
        refine q_get (v := .ref fs) C hP 0 10 rfl rfl inX10 (by decide) kF_RX10_73 rfl rfl dX10_keep_25 ?_
        refine lv_aload_n hx hb dX10_keep_28 rfl (lv_at hl 0 rfl) ?_
        refine q_get (v := .ref pl) C hP 0 1 rfl rfl inX10 (by decide) kF_RX10_19 rfl rfl dX10_keep_29 ?_
        refine lv_aload_n hx hb dX10_keep_32 rfl (lv_at hl 0 rfl) ?_
        refine q_get (v := .ref sh) C hP 0 2 rfl rfl inX10 (by decide) kF_RX10_26 rfl rfl dX10_keep_33 ?_
        refine lv_iload_n hx hb dX10_keep_36 rfl (lv_at hl 1 rfl) ?_
        refine q_av (wr := [(h, .inr (10, [.ref ta, .ref pl, .ref sh, .ref tr, .ref fo, .ref li, .ref sp, .ref dr, .ref pa, .ref im, .ref fs, .ref ph, .ref cd, .int 0, .int 0])), (fs0, .inl (cy 1, 8, .inl (fun _ => 0)))]) (r_V (q0 := 0) (As := [.ref pl, .ref sh, .int 7]) (rest := []) (wc := [(fs, .inr (0, [.int 0, .int 0, .int (-1), .ref fs0, .ref fs1, .ref fs2, .ref fs3, .ref fs4, .int 0, .ref fs5, .int 0, .int 0, .int 1, .int 1, .int 0, .int 0])), (fs5, .inl (cy 1, 81, .inl (fun _ => 0))), (pl, .inr (6, [.int 4, .int 4, .int 10, .int 1, .int 3, .int 0, .int 0, .int 0, .ref pl0, .ref pl1, .ref pl2])), (sh, .inr (8, [.ref sh0, .ref sh1, .ref sh2, .ref sh3, .ref sh4, .int 0, .int 0, .ref sh5])), (sh2, .inl (cy 1, 8, .inl (fun _ => 0)))]) C (q_subP hP [3, 5, 1, 6, 2] rfl) (hD.sub [3, 5, 1, 6, 2] (by decide) rfl) (c_look_7 l D cy fs pl sh fs0 fs1 fs2 fs3 fs4 fs5 pl0 pl1 pl2 sh0 sh1 sh2 sh3 sh4 sh5 _ ) kwV_X0_look kM_RX10_335 rfl rfl ⟨Nat.le_of_ble_eq_true rfl, Nat.le_of_ble_eq_true rfl⟩ rfl hl.1 rfl (Nat.le_of_ble_eq_true rfl) dX10_keep_37 ⟨Nat.le_of_ble_eq_true rfl, Nat.le_of_ble_eq_true rfl⟩) C.2.2.2.2.2.2.1 hP hD hS [3, 5, 1, 6, 2] [0, 4] rfl rfl (by decide) (by decide) (fun u_60 H locs hw_62 hP hD hS => ?_)
        have hP : va_P D vwCl [(h, .inr (10, [.ref ta, .ref pl, .ref sh, .ref tr, .ref fo, .ref li, .ref sp, .ref dr, .ref pa, .ref im, .ref fs, .ref ph, .ref cd, .int 0, .int 0])), (fs0, .inl (cy 1, 8, .inl (fun _ => 0))), (fs, .inr (0, [.int 0, .int 0, .int (-1), .ref fs0, .ref fs1, .ref fs2, .ref fs3, .ref fs4, .int 0, .ref fs5, .int 0, .int 0, .int 10, .int 1, .int 0, .int 7])), (fs5, .inl (cy 1, 81, .inl (fun _ => 0))), (pl, .inr (6, [.int 4, .int 4, .int 10, .int 1, .int 3, .int 0, .int 0, .int 0, .ref pl0, .ref pl1, .ref pl2])), (sh, .inr (8, [.ref sh0, .ref sh1, .ref sh2, .ref sh3, .ref sh4, .int 0, .int 0, .ref sh5])), (sh2, .inl (cy 1, 8, .inl (fun _ => 0)))] H := hP
        have hD : va_D A [(h, .inr (10, [.ref ta, .ref pl, .ref sh, .ref tr, .ref fo, .ref li, .ref sp, .ref dr, .ref pa, .ref im, .ref fs, .ref ph, .ref cd, .int 0, .int 0])), (fs0, .inl (cy 1, 8, .inl (fun _ => 0))), (fs, .inr (0, [.int 0, .int 0, .int (-1), .ref fs0, .ref fs1, .ref fs2, .ref fs3, .ref fs4, .int 0, .ref fs5, .int 0, .int 0, .int 10, .int 1, .int 0, .int 7])), (fs5, .inl (cy 1, 81, .inl (fun _ => 0))), (pl, .inr (6, [.int 4, .int 4, .int 10, .int 1, .int 3, .int 0, .int 0, .int 0, .ref pl0, .ref pl1, .ref pl2])), (sh, .inr (8, [.ref sh0, .ref sh1, .ref sh2, .ref sh3, .ref sh4, .int 0, .int 0, .ref sh5])), (sh2, .inl (cy 1, 8, .inl (fun _ => 0)))] := hD
        refine lv_aload_n hx hb dX10_keep_40 rfl (lv_at hl 0 rfl) ?_
        refine q_get (v := .ref fs) C hP 0 10 rfl rfl inX10 (by decide) kF_RX10_73 rfl rfl dX10_keep_41 ?_
        refine q_ai (wr := [(h, .inr (10, [.ref ta, .ref pl, .ref sh, .ref tr, .ref fo, .ref li, .ref sp, .ref dr, .ref pa, .ref im, .ref fs, .ref ph, .ref cd, .int 0, .int 0])), (pl, .inr (6, [.int 4, .int 4, .int 10, .int 1, .int 3, .int 0, .int 0, .int 0, .ref pl0, .ref pl1, .ref pl2])), (sh, .inr (8, [.ref sh0, .ref sh1, .ref sh2, .ref sh3, .ref sh4, .int 0, .int 0, .ref sh5])), (sh2, .inl (cy 1, 8, .inl (fun _ => 0)))]) (r_V (q0 := 0) (As := []) (rest := []) (wc := [(fs, .inr (0, [.int 0, .int 0, .int (-1), .ref fs0, .ref fs1, .ref fs2, .ref fs3, .ref fs4, .int 0, .ref fs5, .int 0, .int 0, .int 10, .int 1, .int 0, .int 7])), (fs0, .inl (cy 1, 8, .inl (fun _ => 0))), (fs5, .inl (cy 1, 81, .inl (fun _ => 0)))]) C (q_subP hP [2, 1, 3] rfl) (hD.sub [2, 1, 3] (by decide) rfl) (c_fewest_7 l D cy fs fs0 fs1 fs2 fs3 fs4 fs5 (fun _ => 0) _ ) kwV_X0_fewestAskings kM_RX10_339 rfl rfl ⟨Nat.le_of_ble_eq_true rfl, Nat.le_of_ble_eq_true rfl⟩ rfl hl.1 rfl (Nat.le_of_ble_eq_true rfl) dX10_keep_44 ⟨Nat.le_of_ble_eq_true rfl, Nat.le_of_ble_eq_true rfl⟩) C.2.2.2.2.2.2.1 hP hD hS [2, 1, 3] [0, 4, 5, 6] rfl rfl (by decide) (by decide) (fun r_64 u_63 H locs hw_65 hP hD hS => ?_)
        have hP : va_P D vwCl [(h, .inr (10, [.ref ta, .ref pl, .ref sh, .ref tr, .ref fo, .ref li, .ref sp, .ref dr, .ref pa, .ref im, .ref fs, .ref ph, .ref cd, .int 0, .int 0])), (pl, .inr (6, [.int 4, .int 4, .int 10, .int 1, .int 3, .int 0, .int 0, .int 0, .ref pl0, .ref pl1, .ref pl2])), (sh, .inr (8, [.ref sh0, .ref sh1, .ref sh2, .ref sh3, .ref sh4, .int 0, .int 0, .ref sh5])), (sh2, .inl (cy 1, 8, .inl (fun _ => 0)))] H := hP
        have hD : va_D A [(h, .inr (10, [.ref ta, .ref pl, .ref sh, .ref tr, .ref fo, .ref li, .ref sp, .ref dr, .ref pa, .ref im, .ref fs, .ref ph, .ref cd, .int 0, .int 0])), (pl, .inr (6, [.int 4, .int 4, .int 10, .int 1, .int 3, .int 0, .int 0, .int 0, .ref pl0, .ref pl1, .ref pl2])), (sh, .inr (8, [.ref sh0, .ref sh1, .ref sh2, .ref sh3, .ref sh4, .int 0, .int 0, .ref sh5])), (sh2, .inl (cy 1, 8, .inl (fun _ => 0)))] := hD
        obtain rfl : r_64 = 0 := hw_65
        exact q_iret (rm := (Rm 10 255 0 0)) C hS () rfl (by show (0 : Int32) = (rKeep (7 : Int32)); decide +kernel) (q_subP hP [] rfl) (hD.sub [] (by decide) rfl) (Nat.le_of_ble_eq_true rfl) (Nat.le_of_ble_eq_true rfl) dX10_keep_47
      · refine lv_aload_n hx hb dX10_keep_11 rfl (lv_at hl 0 rfl) ?_
        refine q_get (v := .ref sh) C hP 0 2 rfl rfl inX10 (by decide) kF_RX10_26 rfl rfl dX10_keep_12 ?_
        refine lv_iload_n hx hb dX10_keep_15 rfl (lv_at hl 1 rfl) ?_
        refine q_ai (wr := [(h, .inr (10, [.ref ta, .ref pl, .ref sh, .ref tr, .ref fo, .ref li, .ref sp, .ref dr, .ref pa, .ref im, .ref fs, .ref ph, .ref cd, .int 0, .int 0])), (pl, .inr (6, [.int 4, .int 4, .int 10, .int 1, .int 3, .int 0, .int 0, .int 0, .ref pl0, .ref pl1, .ref pl2])), (sh2, .inl (cy 1, 8, .inl (fun _ => 0))), (fs, .inr (0, [.int 0, .int 0, .int (-1), .ref fs0, .ref fs1, .ref fs2, .ref fs3, .ref fs4, .int 0, .ref fs5, .int 0, .int 0, .int 1, .int 1, .int 0, .int 0])), (fs0, .inl (cy 1, 8, .inl (fun _ => 0))), (fs5, .inl (cy 1, 81, .inl (fun _ => 0)))]) (r_V (q0 := 0) (As := [.int 8]) (rest := []) (wc := [(sh, .inr (8, [.ref sh0, .ref sh1, .ref sh2, .ref sh3, .ref sh4, .int 0, .int 0, .ref sh5]))]) C (q_subP hP [2] rfl) (hD.sub [2] (by decide) rfl) (c_hasDays_8 l D cy sh sh0 sh1 sh2 sh3 sh4 sh5 _ ) kwV_X8_hasDays kM_RX10_319 rfl rfl ⟨Nat.le_of_ble_eq_true rfl, Nat.le_of_ble_eq_true rfl⟩ rfl hl.1 rfl (Nat.le_of_ble_eq_true rfl) dX10_keep_16 ⟨Nat.le_of_ble_eq_true rfl, Nat.le_of_ble_eq_true rfl⟩) C.2.2.2.2.2.2.1 hP hD hS [2] [0, 1, 3, 4, 5, 6] rfl rfl (by decide) (by decide) (fun r_67 u_66 H locs hw_68 hP hD hS => ?_)
        have hP : va_P D vwCl [(h, .inr (10, [.ref ta, .ref pl, .ref sh, .ref tr, .ref fo, .ref li, .ref sp, .ref dr, .ref pa, .ref im, .ref fs, .ref ph, .ref cd, .int 0, .int 0])), (pl, .inr (6, [.int 4, .int 4, .int 10, .int 1, .int 3, .int 0, .int 0, .int 0, .ref pl0, .ref pl1, .ref pl2])), (sh2, .inl (cy 1, 8, .inl (fun _ => 0))), (fs, .inr (0, [.int 0, .int 0, .int (-1), .ref fs0, .ref fs1, .ref fs2, .ref fs3, .ref fs4, .int 0, .ref fs5, .int 0, .int 0, .int 1, .int 1, .int 0, .int 0])), (fs0, .inl (cy 1, 8, .inl (fun _ => 0))), (fs5, .inl (cy 1, 81, .inl (fun _ => 0))), (sh, .inr (8, [.ref sh0, .ref sh1, .ref sh2, .ref sh3, .ref sh4, .int 0, .int 0, .ref sh5]))] H := hP
        have hD : va_D A [(h, .inr (10, [.ref ta, .ref pl, .ref sh, .ref tr, .ref fo, .ref li, .ref sp, .ref dr, .ref pa, .ref im, .ref fs, .ref ph, .ref cd, .int 0, .int 0])), (pl, .inr (6, [.int 4, .int 4, .int 10, .int 1, .int 3, .int 0, .int 0, .int 0, .ref pl0, .ref pl1, .ref pl2])), (sh2, .inl (cy 1, 8, .inl (fun _ => 0))), (fs, .inr (0, [.int 0, .int 0, .int (-1), .ref fs0, .ref fs1, .ref fs2, .ref fs3, .ref fs4, .int 0, .ref fs5, .int 0, .int 0, .int 1, .int 1, .int 0, .int 0])), (fs0, .inl (cy 1, 8, .inl (fun _ => 0))), (fs5, .inl (cy 1, 81, .inl (fun _ => 0))), (sh, .inr (8, [.ref sh0, .ref sh1, .ref sh2, .ref sh3, .ref sh4, .int 0, .int 0, .ref sh5]))] := hD
        obtain rfl : r_67 = 1 := hw_68
        refine lv_if_ne (tgt := 24) hx hb dX10_keep_19 (by decide) (fun _ => ?_) (fun c_0 => absurd c_0 (by decide))
        refine lv_aload_n hx hb dX10_keep_24 rfl (lv_at hl 0 rfl) ?_
        refine q_get (v := .ref fs) C hP 0 10 rfl rfl inX10 (by decide) kF_RX10_73 rfl rfl dX10_keep_25 ?_
        refine lv_aload_n hx hb dX10_keep_28 rfl (lv_at hl 0 rfl) ?_
        refine q_get (v := .ref pl) C hP 0 1 rfl rfl inX10 (by decide) kF_RX10_19 rfl rfl dX10_keep_29 ?_
        refine lv_aload_n hx hb dX10_keep_32 rfl (lv_at hl 0 rfl) ?_
        refine q_get (v := .ref sh) C hP 0 2 rfl rfl inX10 (by decide) kF_RX10_26 rfl rfl dX10_keep_33 ?_
        refine lv_iload_n hx hb dX10_keep_36 rfl (lv_at hl 1 rfl) ?_
        refine q_av (wr := [(h, .inr (10, [.ref ta, .ref pl, .ref sh, .ref tr, .ref fo, .ref li, .ref sp, .ref dr, .ref pa, .ref im, .ref fs, .ref ph, .ref cd, .int 0, .int 0])), (fs0, .inl (cy 1, 8, .inl (fun _ => 0)))]) (r_V (q0 := 0) (As := [.ref pl, .ref sh, .int 8]) (rest := []) (wc := [(fs, .inr (0, [.int 0, .int 0, .int (-1), .ref fs0, .ref fs1, .ref fs2, .ref fs3, .ref fs4, .int 0, .ref fs5, .int 0, .int 0, .int 1, .int 1, .int 0, .int 0])), (fs5, .inl (cy 1, 81, .inl (fun _ => 0))), (pl, .inr (6, [.int 4, .int 4, .int 10, .int 1, .int 3, .int 0, .int 0, .int 0, .ref pl0, .ref pl1, .ref pl2])), (sh, .inr (8, [.ref sh0, .ref sh1, .ref sh2, .ref sh3, .ref sh4, .int 0, .int 0, .ref sh5])), (sh2, .inl (cy 1, 8, .inl (fun _ => 0)))]) C (q_subP hP [3, 5, 1, 6, 2] rfl) (hD.sub [3, 5, 1, 6, 2] (by decide) rfl) (c_look_8 l D cy fs pl sh fs0 fs1 fs2 fs3 fs4 fs5 pl0 pl1 pl2 sh0 sh1 sh2 sh3 sh4 sh5 _ ) kwV_X0_look kM_RX10_335 rfl rfl ⟨Nat.le_of_ble_eq_true rfl, Nat.le_of_ble_eq_true rfl⟩ rfl hl.1 rfl (Nat.le_of_ble_eq_true rfl) dX10_keep_37 ⟨Nat.le_of_ble_eq_true rfl, Nat.le_of_ble_eq_true rfl⟩) C.2.2.2.2.2.2.1 hP hD hS [3, 5, 1, 6, 2] [0, 4] rfl rfl (by decide) (by decide) (fun u_69 H locs hw_71 hP hD hS => ?_)
        have hP : va_P D vwCl [(h, .inr (10, [.ref ta, .ref pl, .ref sh, .ref tr, .ref fo, .ref li, .ref sp, .ref dr, .ref pa, .ref im, .ref fs, .ref ph, .ref cd, .int 0, .int 0])), (fs0, .inl (cy 1, 8, .inl (fun _ => 0))), (fs, .inr (0, [.int 0, .int 0, .int (-1), .ref fs0, .ref fs1, .ref fs2, .ref fs3, .ref fs4, .int 0, .ref fs5, .int 0, .int 0, .int 10, .int 1, .int 0, .int 8])), (fs5, .inl (cy 1, 81, .inl (fun _ => 0))), (pl, .inr (6, [.int 4, .int 4, .int 10, .int 1, .int 3, .int 0, .int 0, .int 0, .ref pl0, .ref pl1, .ref pl2])), (sh, .inr (8, [.ref sh0, .ref sh1, .ref sh2, .ref sh3, .ref sh4, .int 0, .int 0, .ref sh5])), (sh2, .inl (cy 1, 8, .inl (fun _ => 0)))] H := hP
        have hD : va_D A [(h, .inr (10, [.ref ta, .ref pl, .ref sh, .ref tr, .ref fo, .ref li, .ref sp, .ref dr, .ref pa, .ref im, .ref fs, .ref ph, .ref cd, .int 0, .int 0])), (fs0, .inl (cy 1, 8, .inl (fun _ => 0))), (fs, .inr (0, [.int 0, .int 0, .int (-1), .ref fs0, .ref fs1, .ref fs2, .ref fs3, .ref fs4, .int 0, .ref fs5, .int 0, .int 0, .int 10, .int 1, .int 0, .int 8])), (fs5, .inl (cy 1, 81, .inl (fun _ => 0))), (pl, .inr (6, [.int 4, .int 4, .int 10, .int 1, .int 3, .int 0, .int 0, .int 0, .ref pl0, .ref pl1, .ref pl2])), (sh, .inr (8, [.ref sh0, .ref sh1, .ref sh2, .ref sh3, .ref sh4, .int 0, .int 0, .ref sh5])), (sh2, .inl (cy 1, 8, .inl (fun _ => 0)))] := hD
        refine lv_aload_n hx hb dX10_keep_40 rfl (lv_at hl 0 rfl) ?_
        refine q_get (v := .ref fs) C hP 0 10 rfl rfl inX10 (by decide) kF_RX10_73 rfl rfl dX10_keep_41 ?_
        refine q_ai (wr := [(h, .inr (10, [.ref ta, .ref pl, .ref sh, .ref tr, .ref fo, .ref li, .ref sp, .ref dr, .ref pa, .ref im, .ref fs, .ref ph, .ref cd, .int 0, .int 0])), (pl, .inr (6, [.int 4, .int 4, .int 10, .int 1, .int 3, .int 0, .int 0, .int 0, .ref pl0, .ref pl1, .ref pl2])), (sh, .inr (8, [.ref sh0, .ref sh1, .ref sh2, .ref sh3, .ref sh4, .int 0, .int 0, .ref sh5])), (sh2, .inl (cy 1, 8, .inl (fun _ => 0)))]) (r_V (q0 := 0) (As := []) (rest := []) (wc := [(fs, .inr (0, [.int 0, .int 0, .int (-1), .ref fs0, .ref fs1, .ref fs2, .ref fs3, .ref fs4, .int 0, .ref fs5, .int 0, .int 0, .int 10, .int 1, .int 0, .int 8])), (fs0, .inl (cy 1, 8, .inl (fun _ => 0))), (fs5, .inl (cy 1, 81, .inl (fun _ => 0)))]) C (q_subP hP [2, 1, 3] rfl) (hD.sub [2, 1, 3] (by decide) rfl) (c_fewest_8 l D cy fs fs0 fs1 fs2 fs3 fs4 fs5 (fun _ => 0) _ ) kwV_X0_fewestAskings kM_RX10_339 rfl rfl ⟨Nat.le_of_ble_eq_true rfl, Nat.le_of_ble_eq_true rfl⟩ rfl hl.1 rfl (Nat.le_of_ble_eq_true rfl) dX10_keep_44 ⟨Nat.le_of_ble_eq_true rfl, Nat.le_of_ble_eq_true rfl⟩) C.2.2.2.2.2.2.1 hP hD hS [2, 1, 3] [0, 4, 5, 6] rfl rfl (by decide) (by decide) (fun r_73 u_72 H locs hw_74 hP hD hS => ?_)
        have hP : va_P D vwCl [(h, .inr (10, [.ref ta, .ref pl, .ref sh, .ref tr, .ref fo, .ref li, .ref sp, .ref dr, .ref pa, .ref im, .ref fs, .ref ph, .ref cd, .int 0, .int 0])), (pl, .inr (6, [.int 4, .int 4, .int 10, .int 1, .int 3, .int 0, .int 0, .int 0, .ref pl0, .ref pl1, .ref pl2])), (sh, .inr (8, [.ref sh0, .ref sh1, .ref sh2, .ref sh3, .ref sh4, .int 0, .int 0, .ref sh5])), (sh2, .inl (cy 1, 8, .inl (fun _ => 0)))] H := hP
        have hD : va_D A [(h, .inr (10, [.ref ta, .ref pl, .ref sh, .ref tr, .ref fo, .ref li, .ref sp, .ref dr, .ref pa, .ref im, .ref fs, .ref ph, .ref cd, .int 0, .int 0])), (pl, .inr (6, [.int 4, .int 4, .int 10, .int 1, .int 3, .int 0, .int 0, .int 0, .ref pl0, .ref pl1, .ref pl2])), (sh, .inr (8, [.ref sh0, .ref sh1, .ref sh2, .ref sh3, .ref sh4, .int 0, .int 0, .ref sh5])), (sh2, .inl (cy 1, 8, .inl (fun _ => 0)))] := hD
        obtain rfl : r_73 = 0 := hw_74
        exact q_iret (rm := (Rm 10 255 0 0)) C hS () rfl (by show (0 : Int32) = (rKeep (8 : Int32)); decide +kernel) (q_subP hP [] rfl) (hD.sub [] (by decide) rfl) (Nat.le_of_ble_eq_true rfl) (Nat.le_of_ble_eq_true rfl) dX10_keep_47
      · exact absurd h9 (by have z0 := (not_congr Int32.lt_iff_toInt_lt).mp c_1; have z1 := (not_congr Int32.lt_iff_toInt_lt).mp c_2; have e0 : (1 : Int32).toInt = 1 := (by decide); have e1 : (8 : Int32).toInt = 8 := (by decide); omega)
set_option maxHeartbeats 4000000 in
set_option maxRecDepth 100000 in
theorem c_laws_1_1 (l : Launch) (D : va_G) (cy : Nat → ClassId) (h : Nat) (h0 : Nat) (h1 : Nat) (h2 : Nat) (h3 : Nat) (h4 : Nat) (h5 : Nat) (kr : Nat → Int32) (sz : Nat)  : MI l yX0_lawsFrom cX0_lawsFrom 8 (some .int) (Rm 1 23 0 0) D cy [.ref h, .int 1] sz [(h, .inr (0, [.int 0, .int 0, .int (-1), .ref h0, .ref h1, .ref h2, .ref h3, .ref h4, .int 0, .ref h5, .int 0, .int 0, .int 10, .int 1, .int 0, .int 1])), (h2, .inl (cy 1, 3, .inl kr)), (h5, .inl (cy 1, 81, .inl (fun _ => 0)))] (fun (r : Int32) (u : Nat → Int32) => r = 0) (fun u : Nat → Int32 => [(h, .inr (0, [.int 0, .int 0, .int (-1), .ref h0, .ref h1, .ref h2, .ref h3, .ref h4, .int 0, .ref h5, .int 0, .int 0, .int 10, .int 1, .int 0, .int 1])), (h2, .inl (cy 1, 3, .inl u)), (h5, .inl (cy 1, 81, .inl (fun _ => 0)))]) := by
  refine MI.enter (by decide) (Nat.le_of_ble_eq_true rfl) ?_
  intro p e s m below meth c ls A hsz hAe C hP hD hS hl
  have C : Cx p s m _ meth c cX0_lawsFrom 8 (some .int) RX0 "lawsFrom" D cy A := C
  have hx := C.1
  have hb := C.2.1
  have hl : lv_has ls 8 [(0, .ref h), (1, .int 1)] := hl
  refine lv_iload_n hx hb dX0_lawsFrom_0 rfl (lv_at hl 1 rfl) ?_
  refine lv_aload_n hx hb dX0_lawsFrom_1 rfl (lv_at hl 0 rfl) ?_
  refine q_get (v := .int 1) C hP 0 15 rfl rfl inX0 (by decide) kF_RX0_58 rfl rfl dX0_lawsFrom_2 ?_
  refine lv_icmp_ge (tgt := 13) hx hb dX0_lawsFrom_5 (by decide) (fun _ => ?_) (fun c_0 => absurd (by decide) c_0)
  refine lv_aload_n hx hb dX0_lawsFrom_13 rfl (lv_at hl 0 rfl) ?_
  refine lv_iload_n hx hb dX0_lawsFrom_14 rfl (lv_at hl 1 rfl) ?_
  refine q_ai (wr := [(h2, .inl (cy 1, 3, .inl kr)), (h5, .inl (cy 1, 81, .inl (fun _ => 0)))]) (r_V (q0 := 0) (As := [.int 1]) (rest := []) (wc := [(h, .inr (0, [.int 0, .int 0, .int (-1), .ref h0, .ref h1, .ref h2, .ref h3, .ref h4, .int 0, .ref h5, .int 0, .int 0, .int 10, .int 1, .int 0, .int 1]))]) C (q_subP hP [0] rfl) (hD.sub [0] (by decide) rfl) (c_lawsBehind l D cy h 1 h0 h1 h2 h3 h4 h5 1 _ ) kwV_X0_lawsBehind kM_RX0_139 rfl rfl ⟨Nat.le_of_ble_eq_true rfl, Nat.le_of_ble_eq_true rfl⟩ rfl hl.1 rfl (Nat.le_of_ble_eq_true rfl) dX0_lawsFrom_15 ⟨Nat.le_of_ble_eq_true rfl, Nat.le_of_ble_eq_true rfl⟩) C.2.2.2.2.2.2.1 hP hD hS [0] [1, 2] rfl rfl (by decide) (by decide) (fun r_2 u_1 H locs hw_3 hP hD hS => ?_)
  have hP : va_P D vwCl [(h2, .inl (cy 1, 3, .inl kr)), (h5, .inl (cy 1, 81, .inl (fun _ => 0))), (h, .inr (0, [.int 0, .int 0, .int (-1), .ref h0, .ref h1, .ref h2, .ref h3, .ref h4, .int 0, .ref h5, .int 0, .int 0, .int 10, .int 1, .int 0, .int 1]))] H := hP
  have hD : va_D A [(h2, .inl (cy 1, 3, .inl kr)), (h5, .inl (cy 1, 81, .inl (fun _ => 0))), (h, .inr (0, [.int 0, .int 0, .int (-1), .ref h0, .ref h1, .ref h2, .ref h3, .ref h4, .int 0, .ref h5, .int 0, .int 0, .int 10, .int 1, .int 0, .int 1]))] := hD
  obtain rfl : r_2 = 0 := hw_3
  exact q_iret (rm := (Rm 1 23 0 0)) C hS (kr) rfl rfl (q_subP hP [2, 0, 1] rfl) (hD.sub [2, 0, 1] (by decide) rfl) (Nat.le_of_ble_eq_true rfl) (Nat.le_of_ble_eq_true rfl) dX0_lawsFrom_18
set_option maxHeartbeats 4000000 in
set_option maxRecDepth 100000 in
theorem c_laws_1_0 (l : Launch) (D : va_G) (cy : Nat → ClassId) (h : Nat) (h0 : Nat) (h1 : Nat) (h2 : Nat) (h3 : Nat) (h4 : Nat) (h5 : Nat) (kr : Nat → Int32) (sz : Nat)  : MI l yX0_lawsFrom cX0_lawsFrom 8 (some .int) (Rm 2 50 0 0) D cy [.ref h, .int 0] sz [(h, .inr (0, [.int 0, .int 0, .int (-1), .ref h0, .ref h1, .ref h2, .ref h3, .ref h4, .int 0, .ref h5, .int 0, .int 0, .int 10, .int 1, .int 0, .int 1])), (h2, .inl (cy 1, 3, .inl kr)), (h5, .inl (cy 1, 81, .inl (fun _ => 0)))] (fun (r : Int32) (u : Nat → Int32) => r = 0) (fun u : Nat → Int32 => [(h, .inr (0, [.int 0, .int 0, .int (-1), .ref h0, .ref h1, .ref h2, .ref h3, .ref h4, .int 0, .ref h5, .int 0, .int 0, .int 10, .int 1, .int 0, .int 1])), (h2, .inl (cy 1, 3, .inl u)), (h5, .inl (cy 1, 81, .inl (fun _ => 0)))]) := by
  refine MI.enter (by decide) (Nat.le_of_ble_eq_true rfl) ?_
  intro p e s m below meth c ls A hsz hAe C hP hD hS hl
  have C : Cx p s m _ meth c cX0_lawsFrom 8 (some .int) RX0 "lawsFrom" D cy A := C
  have hx := C.1
  have hb := C.2.1
  have hl : lv_has ls 8 [(0, .ref h), (1, .int 0)] := hl
  refine lv_iload_n hx hb dX0_lawsFrom_0 rfl (lv_at hl 1 rfl) ?_
  refine lv_aload_n hx hb dX0_lawsFrom_1 rfl (lv_at hl 0 rfl) ?_
  refine q_get (v := .int 1) C hP 0 15 rfl rfl inX0 (by decide) kF_RX0_58 rfl rfl dX0_lawsFrom_2 ?_
  refine lv_icmp_ge (tgt := 13) hx hb dX0_lawsFrom_5 (by decide) (fun c_0 => absurd c_0 (by decide)) (fun _ => ?_)
  refine lv_iload_n hx hb dX0_lawsFrom_8 rfl (lv_at hl 1 rfl) ?_
  refine lv_iconst (v := 3) hx hb dX0_lawsFrom_9 (by decide) ?_
  refine lv_icmp_lt (tgt := 19) hx hb dX0_lawsFrom_10 (by decide) (fun _ => ?_) (fun c_0 => absurd (by decide) c_0)
  refine lv_aload_n hx hb dX0_lawsFrom_19 rfl (lv_at hl 0 rfl) ?_
  refine lv_iload_n hx hb dX0_lawsFrom_20 rfl (lv_at hl 1 rfl) ?_
  refine q_av (wr := [(h2, .inl (cy 1, 3, .inl kr)), (h5, .inl (cy 1, 81, .inl (fun _ => 0)))]) (r_V (q0 := 0) (As := [.int 0]) (rest := []) (wc := [(h, .inr (0, [.int 0, .int 0, .int (-1), .ref h0, .ref h1, .ref h2, .ref h3, .ref h4, .int 0, .ref h5, .int 0, .int 0, .int 10, .int 1, .int 0, .int 1]))]) C (q_subP hP [0] rfl) (hD.sub [0] (by decide) rfl) (c_passDay l D cy h 0 h0 h1 h2 h3 h4 h5 1 _ ) kwV_X0_passDay kM_RX0_102 rfl rfl ⟨Nat.le_of_ble_eq_true rfl, Nat.le_of_ble_eq_true rfl⟩ rfl hl.1 rfl (Nat.le_of_ble_eq_true rfl) dX0_lawsFrom_21 ⟨Nat.le_of_ble_eq_true rfl, Nat.le_of_ble_eq_true rfl⟩) C.2.2.2.2.2.2.1 hP hD hS [0] [1, 2] rfl rfl (by decide) (by decide) (fun u_1 H locs hw_3 hP hD hS => ?_)
  have hP : va_P D vwCl [(h2, .inl (cy 1, 3, .inl kr)), (h5, .inl (cy 1, 81, .inl (fun _ => 0))), (h, .inr (0, [.int 0, .int 0, .int (-1), .ref h0, .ref h1, .ref h2, .ref h3, .ref h4, .int 0, .ref h5, .int 0, .int 0, .int 10, .int 1, .int 0, .int 1]))] H := hP
  have hD : va_D A [(h2, .inl (cy 1, 3, .inl kr)), (h5, .inl (cy 1, 81, .inl (fun _ => 0))), (h, .inr (0, [.int 0, .int 0, .int (-1), .ref h0, .ref h1, .ref h2, .ref h3, .ref h4, .int 0, .ref h5, .int 0, .int 0, .int 10, .int 1, .int 0, .int 1]))] := hD
  refine lv_iload_n hx hb dX0_lawsFrom_24 rfl (lv_at hl 1 rfl) ?_
  refine lv_iconst (v := 2) hx hb dX0_lawsFrom_25 (by decide) ?_
  refine lv_irem hx hb dX0_lawsFrom_26 (by decide) ?_
  refine q_val (v := 0) (by decide) ?_
  refine lv_if_ne (tgt := 34) hx hb dX0_lawsFrom_27 (by decide) (fun c_0 => absurd (by decide) c_0) (fun _ => ?_)
  refine lv_iconst (v := 1) hx hb dX0_lawsFrom_30 (by decide) ?_
  refine lv_goto (tgt := 35) hx hb dX0_lawsFrom_31 (by decide) ?_
  refine lv_istore_n (lv' := [(2, .int 1), (0, .ref h), (1, .int 0)]) hx hb dX0_lawsFrom_35 rfl hl (by decide) rfl (fun ls hl => ?_)
  refine lv_iconst (v := (-1)) hx hb dX0_lawsFrom_36 (by decide) ?_
  refine lv_istore_n (lv' := [(3, .int (-1)), (2, .int 1), (0, .ref h), (1, .int 0)]) hx hb dX0_lawsFrom_37 rfl hl (by decide) rfl (fun ls hl => ?_)
  refine lv_iconst (v := 0) hx hb dX0_lawsFrom_38 (by decide) ?_
  refine lv_istore (lv' := [(4, .int 0), (3, .int (-1)), (2, .int 1), (0, .ref h), (1, .int 0)]) hx hb dX0_lawsFrom_39 hl (by decide) rfl (fun ls hl => ?_)
  refine lv_iload hx hb dX0_lawsFrom_41 (lv_at hl 0 rfl) ?_
  refine lv_aload_n hx hb dX0_lawsFrom_43 rfl (lv_at hl 3 rfl) ?_
  refine q_get (v := .int 0) C hP 2 10 rfl rfl inX0 (by decide) kF_RX0_43 rfl rfl dX0_lawsFrom_44 ?_
  refine lv_icmp_gt (tgt := 151) hx hb dX0_lawsFrom_47 (by decide) (fun c_0 => absurd c_0 (by decide)) (fun _ => ?_)
  refine lv_aload_n hx hb dX0_lawsFrom_50 rfl (lv_at hl 3 rfl) ?_
  refine lv_iload_n hx hb dX0_lawsFrom_51 rfl (lv_at hl 4 rfl) ?_
  refine lv_iload hx hb dX0_lawsFrom_52 (lv_at hl 0 rfl) ?_
  refine q_ai (wr := [(h2, .inl (cy 1, 3, .inl kr)), (h5, .inl (cy 1, 81, .inl (fun _ => 0)))]) (r_V (q0 := 0) (As := [.int 0, .int 0]) (rest := []) (wc := [(h, .inr (0, [.int 0, .int 0, .int (-1), .ref h0, .ref h1, .ref h2, .ref h3, .ref h4, .int 0, .ref h5, .int 0, .int 0, .int 10, .int 1, .int 0, .int 1]))]) C (q_subP hP [2] rfl) (hD.sub [2] (by decide) rfl) (c_mayChoose l D cy h 0 h0 h1 h2 h3 h4 h5 1 _ ) kwV_X0_mayChoose kM_RX0_133 rfl rfl ⟨Nat.le_of_ble_eq_true rfl, Nat.le_of_ble_eq_true rfl⟩ rfl hl.1 rfl (Nat.le_of_ble_eq_true rfl) dX0_lawsFrom_54 ⟨Nat.le_of_ble_eq_true rfl, Nat.le_of_ble_eq_true rfl⟩) C.2.2.2.2.2.2.1 hP hD hS [2] [0, 1] rfl rfl (by decide) (by decide) (fun r_5 u_4 H locs hw_6 hP hD hS => ?_)
  have hP : va_P D vwCl [(h2, .inl (cy 1, 3, .inl kr)), (h5, .inl (cy 1, 81, .inl (fun _ => 0))), (h, .inr (0, [.int 0, .int 0, .int (-1), .ref h0, .ref h1, .ref h2, .ref h3, .ref h4, .int 0, .ref h5, .int 0, .int 0, .int 10, .int 1, .int 0, .int 1]))] H := hP
  have hD : va_D A [(h2, .inl (cy 1, 3, .inl kr)), (h5, .inl (cy 1, 81, .inl (fun _ => 0))), (h, .inr (0, [.int 0, .int 0, .int (-1), .ref h0, .ref h1, .ref h2, .ref h3, .ref h4, .int 0, .ref h5, .int 0, .int 0, .int 10, .int 1, .int 0, .int 1]))] := hD
  obtain rfl : r_5 = 1 := hw_6
  refine lv_if_eq (tgt := 145) hx hb dX0_lawsFrom_57 (by decide) (fun c_0 => absurd c_0 (by decide)) (fun _ => ?_)
  refine lv_iload_n hx hb dX0_lawsFrom_60 rfl (lv_at hl 4 rfl) ?_
  refine lv_iconst (v := 1) hx hb dX0_lawsFrom_61 (by decide) ?_
  refine lv_iadd hx hb dX0_lawsFrom_62 ?_
  refine q_val (v := 1) (by decide) ?_
  refine lv_bipush (v := 9) hx hb dX0_lawsFrom_63 (by decide) ?_
  refine lv_imul hx hb dX0_lawsFrom_65 ?_
  refine q_val (v := 9) (by decide) ?_
  refine lv_iload hx hb dX0_lawsFrom_66 (lv_at hl 0 rfl) ?_
  refine lv_iadd hx hb dX0_lawsFrom_68 ?_
  refine q_val (v := 9) (by decide) ?_
  refine lv_istore (lv' := [(5, .int 9), (4, .int 0), (3, .int (-1)), (2, .int 1), (0, .ref h), (1, .int 0)]) hx hb dX0_lawsFrom_69 hl (by decide) rfl (fun ls hl => ?_)
  refine lv_aload_n hx hb dX0_lawsFrom_71 rfl (lv_at hl 4 rfl) ?_
  refine q_get (v := .ref h5) C hP 2 9 rfl rfl inX0 (by decide) kF_RX0_40 rfl rfl dX0_lawsFrom_72 ?_
  refine lv_iload hx hb dX0_lawsFrom_75 (lv_at hl 0 rfl) ?_
  refine q_iald (v := 0) C hP 1 rfl (vin (by decide +kernel)) rfl dX0_lawsFrom_77 ?_
  refine lv_istore (lv' := [(6, .int 0), (5, .int 9), (4, .int 0), (3, .int (-1)), (2, .int 1), (0, .ref h), (1, .int 0)]) hx hb dX0_lawsFrom_78 hl (by decide) rfl (fun ls hl => ?_)
  refine lv_aload_n hx hb dX0_lawsFrom_80 rfl (lv_at hl 5 rfl) ?_
  refine q_get (v := .ref h5) C hP 2 9 rfl rfl inX0 (by decide) kF_RX0_40 rfl rfl dX0_lawsFrom_81 ?_
  refine lv_iload hx hb dX0_lawsFrom_84 (lv_at hl 1 rfl) ?_
  refine lv_iconst (v := 0) hx hb dX0_lawsFrom_86 (by decide) ?_
  refine q_iast (g := fun _ => 0) (w' := [(h2, .inl (cy 1, 3, .inl kr)), (h5, .inl (cy 1, 81, .inl (fun _ => 0))), (h, .inr (0, [.int 0, .int 0, .int (-1), .ref h0, .ref h1, .ref h2, .ref h3, .ref h4, .int 0, .ref h5, .int 0, .int 0, .int 10, .int 1, .int 0, .int 1]))]) C hP hD hS 1 rfl (vin (by decide +kernel)) (updz _) rfl dX0_lawsFrom_87 (fun H locs hP hD hS => ?_)
  refine lv_aload_n hx hb dX0_lawsFrom_88 rfl (lv_at hl 5 rfl) ?_
  refine lv_iload_n hx hb dX0_lawsFrom_89 rfl (lv_at hl 6 rfl) ?_
  refine lv_iconst (v := 1) hx hb dX0_lawsFrom_90 (by decide) ?_
  refine lv_iadd hx hb dX0_lawsFrom_91 ?_
  refine q_val (v := 1) (by decide) ?_
  refine q_ai (wr := []) (r_V (q0 := 0) (As := [.int 1]) (rest := []) (wc := [(h, .inr (0, [.int 0, .int 0, .int (-1), .ref h0, .ref h1, .ref h2, .ref h3, .ref h4, .int 0, .ref h5, .int 0, .int 0, .int 10, .int 1, .int 0, .int 1])), (h2, .inl (cy 1, 3, .inl kr)), (h5, .inl (cy 1, 81, .inl (fun _ => 0)))]) C (q_subP hP [2, 0, 1] rfl) (hD.sub [2, 0, 1] (by decide) rfl) (c_laws_1_1 l D cy h h0 h1 h2 h3 h4 h5 kr _ ) kwV_X0_lawsFrom kM_RX0_136 rfl rfl ⟨Nat.le_of_ble_eq_true rfl, Nat.le_of_ble_eq_true rfl⟩ rfl hl.1 rfl (Nat.le_of_ble_eq_true rfl) dX0_lawsFrom_92 ⟨Nat.le_of_ble_eq_true rfl, Nat.le_of_ble_eq_true rfl⟩) C.2.2.2.2.2.2.1 hP hD hS [2, 0, 1] [] rfl rfl (by decide) (by decide) (fun r_8 u_7 H locs hw_9 hP hD hS => ?_)
  have hP : va_P D vwCl [(h, .inr (0, [.int 0, .int 0, .int (-1), .ref h0, .ref h1, .ref h2, .ref h3, .ref h4, .int 0, .ref h5, .int 0, .int 0, .int 10, .int 1, .int 0, .int 1])), (h2, .inl (cy 1, 3, .inl u_7)), (h5, .inl (cy 1, 81, .inl (fun _ => 0)))] H := hP
  have hD : va_D A [(h, .inr (0, [.int 0, .int 0, .int (-1), .ref h0, .ref h1, .ref h2, .ref h3, .ref h4, .int 0, .ref h5, .int 0, .int 0, .int 10, .int 1, .int 0, .int 1])), (h2, .inl (cy 1, 3, .inl u_7)), (h5, .inl (cy 1, 81, .inl (fun _ => 0)))] := hD
  obtain rfl : r_8 = 0 := hw_9
  refine lv_istore (lv' := [(7, .int 0), (6, .int 0), (5, .int 9), (4, .int 0), (3, .int (-1)), (2, .int 1), (0, .ref h), (1, .int 0)]) hx hb dX0_lawsFrom_95 hl (by decide) rfl (fun ls hl => ?_)
  refine lv_aload_n hx hb dX0_lawsFrom_97 rfl (lv_at hl 6 rfl) ?_
  refine q_get (v := .ref h5) C hP 0 9 rfl rfl inX0 (by decide) kF_RX0_40 rfl rfl dX0_lawsFrom_98 ?_
  refine lv_iload hx hb dX0_lawsFrom_101 (lv_at hl 2 rfl) ?_
  refine lv_iload hx hb dX0_lawsFrom_103 (lv_at hl 1 rfl) ?_
  refine q_iast (g := fun _ => 0) (w' := [(h, .inr (0, [.int 0, .int 0, .int (-1), .ref h0, .ref h1, .ref h2, .ref h3, .ref h4, .int 0, .ref h5, .int 0, .int 0, .int 10, .int 1, .int 0, .int 1])), (h2, .inl (cy 1, 3, .inl u_7)), (h5, .inl (cy 1, 81, .inl (fun _ => 0)))]) C hP hD hS 2 rfl (vin (by decide +kernel)) (updz _) rfl dX0_lawsFrom_105 (fun H locs hP hD hS => ?_)
  refine lv_iload_n hx hb dX0_lawsFrom_106 rfl (lv_at hl 4 rfl) ?_
  refine lv_iconst (v := (-1)) hx hb dX0_lawsFrom_107 (by decide) ?_
  refine lv_icmp_eq (tgt := 130) hx hb dX0_lawsFrom_108 (by decide) (fun _ => ?_) (fun c_0 => absurd (by decide) c_0)
  refine lv_iload hx hb dX0_lawsFrom_130 (lv_at hl 0 rfl) ?_
  refine lv_istore_n (lv' := [(3, .int 0), (7, .int 0), (6, .int 0), (5, .int 9), (4, .int 0), (2, .int 1), (0, .ref h), (1, .int 0)]) hx hb dX0_lawsFrom_132 rfl hl (by decide) rfl (fun ls hl => ?_)
  refine lv_aload_n hx hb dX0_lawsFrom_133 rfl (lv_at hl 6 rfl) ?_
  refine q_get (v := .ref h2) C hP 0 5 rfl rfl inX0 (by decide) kF_RX0_28 rfl rfl dX0_lawsFrom_134 ?_
  refine lv_iload_n hx hb dX0_lawsFrom_137 rfl (lv_at hl 7 rfl) ?_
  refine lv_aload_n hx hb dX0_lawsFrom_138 rfl (lv_at hl 6 rfl) ?_
  refine lv_iload hx hb dX0_lawsFrom_139 (lv_at hl 4 rfl) ?_
  refine q_ai (wr := [(h2, .inl (cy 1, 3, .inl u_7)), (h5, .inl (cy 1, 81, .inl (fun _ => 0)))]) (r_V (q0 := 0) (As := [.int 0]) (rest := [.int 0, .ref h2]) (wc := [(h, .inr (0, [.int 0, .int 0, .int (-1), .ref h0, .ref h1, .ref h2, .ref h3, .ref h4, .int 0, .ref h5, .int 0, .int 0, .int 10, .int 1, .int 0, .int 1]))]) C (q_subP hP [0] rfl) (hD.sub [0] (by decide) rfl) (c_bookChosen l D cy h h0 h1 h2 h3 h4 h5 1 _ ) kwV_X0_bookChosen kM_RX0_110 rfl rfl ⟨Nat.le_of_ble_eq_true rfl, Nat.le_of_ble_eq_true rfl⟩ rfl hl.1 rfl (Nat.le_of_ble_eq_true rfl) dX0_lawsFrom_141 ⟨Nat.le_of_ble_eq_true rfl, Nat.le_of_ble_eq_true rfl⟩) C.2.2.2.2.2.2.1 hP hD hS [0] [1, 2] rfl rfl (by decide) (by decide) (fun r_11 u_10 H locs hw_12 hP hD hS => ?_)
  have hP : va_P D vwCl [(h2, .inl (cy 1, 3, .inl u_7)), (h5, .inl (cy 1, 81, .inl (fun _ => 0))), (h, .inr (0, [.int 0, .int 0, .int (-1), .ref h0, .ref h1, .ref h2, .ref h3, .ref h4, .int 0, .ref h5, .int 0, .int 0, .int 10, .int 1, .int 0, .int 1]))] H := hP
  have hD : va_D A [(h2, .inl (cy 1, 3, .inl u_7)), (h5, .inl (cy 1, 81, .inl (fun _ => 0))), (h, .inr (0, [.int 0, .int 0, .int (-1), .ref h0, .ref h1, .ref h2, .ref h3, .ref h4, .int 0, .ref h5, .int 0, .int 0, .int 10, .int 1, .int 0, .int 1]))] := hD
  obtain rfl : r_11 = (-1) := hw_12
  refine q_iast (g := upd u_7 0 (-1)) (w' := [(h2, .inl (cy 1, 3, .inl (upd u_7 0 (-1)))), (h5, .inl (cy 1, 81, .inl (fun _ => 0))), (h, .inr (0, [.int 0, .int 0, .int (-1), .ref h0, .ref h1, .ref h2, .ref h3, .ref h4, .int 0, .ref h5, .int 0, .int 0, .int 10, .int 1, .int 0, .int 1]))]) C hP hD hS 0 rfl (vin (by decide +kernel)) rfl rfl dX0_lawsFrom_144 (fun H locs hP hD hS => ?_)
  refine lv_iinc (v := 1) (lv' := [(4, .int 1), (3, .int 0), (7, .int 0), (6, .int 0), (5, .int 9), (2, .int 1), (0, .ref h), (1, .int 0)]) hx hb dX0_lawsFrom_145 hl (k := 4) rfl (by decide) (by decide) rfl (fun ls hl => ?_)
  refine lv_goto (tgt := 41) hx hb dX0_lawsFrom_148 (by decide) ?_
  refine lv_iload hx hb dX0_lawsFrom_41 (lv_at hl 0 rfl) ?_
  refine lv_aload_n hx hb dX0_lawsFrom_43 rfl (lv_at hl 6 rfl) ?_
  refine q_get (v := .int 0) C hP 2 10 rfl rfl inX0 (by decide) kF_RX0_43 rfl rfl dX0_lawsFrom_44 ?_
  refine lv_icmp_gt (tgt := 151) hx hb dX0_lawsFrom_47 (by decide) (fun _ => ?_) (fun c_0 => absurd (by decide) c_0)
  refine lv_iload_n hx hb dX0_lawsFrom_151 rfl (lv_at hl 1 rfl) ?_
  exact q_iret (rm := (Rm 2 50 0 0)) C hS (upd u_7 0 (-1)) rfl rfl (q_subP hP [2, 0, 1] rfl) (hD.sub [2, 0, 1] (by decide) rfl) (Nat.le_of_ble_eq_true rfl) (Nat.le_of_ble_eq_true rfl) dX0_lawsFrom_152
set_option maxHeartbeats 4000000 in
set_option maxRecDepth 100000 in
theorem c_play_1 (l : Launch) (D : va_G) (cy : Nat → ClassId) (h : Nat) (h0 : Nat) (h1 : Nat) (h2 : Nat) (h3 : Nat) (h4 : Nat) (h5 : Nat) (kr : Nat → Int32) (sz : Nat)  : MI l yX0_playTurns cX0_playTurns 2 (some .int) (Rm 3 77 0 0) D cy [.ref h] sz [(h, .inr (0, [.int 0, .int 0, .int (-1), .ref h0, .ref h1, .ref h2, .ref h3, .ref h4, .int 0, .ref h5, .int 0, .int 0, .int 10, .int 1, .int 0, .int 1])), (h2, .inl (cy 1, 3, .inl kr)), (h5, .inl (cy 1, 81, .inl (fun _ => 0)))] (fun (r : Int32) (u : Unit) => r = 0) (fun u : Unit => []) := by
  refine MI.enter (by decide) (Nat.le_of_ble_eq_true rfl) ?_
  intro p e s m below meth c ls A hsz hAe C hP hD hS hl
  have C : Cx p s m _ meth c cX0_playTurns 2 (some .int) RX0 "playTurns" D cy A := C
  have hx := C.1
  have hb := C.2.1
  have hl : lv_has ls 2 [(0, .ref h)] := hl
  refine lv_aload_n hx hb dX0_playTurns_0 rfl (lv_at hl 0 rfl) ?_
  refine lv_iconst (v := 0) hx hb dX0_playTurns_1 (by decide) ?_
  refine q_ai (wr := []) (r_V (q0 := 0) (As := [.int 0]) (rest := []) (wc := [(h, .inr (0, [.int 0, .int 0, .int (-1), .ref h0, .ref h1, .ref h2, .ref h3, .ref h4, .int 0, .ref h5, .int 0, .int 0, .int 10, .int 1, .int 0, .int 1])), (h2, .inl (cy 1, 3, .inl kr)), (h5, .inl (cy 1, 81, .inl (fun _ => 0)))]) C (q_subP hP [0, 1, 2] rfl) (hD.sub [0, 1, 2] (by decide) rfl) (c_laws_1_0 l D cy h h0 h1 h2 h3 h4 h5 kr _ ) kwV_X0_lawsFrom kM_RX0_136 rfl rfl ⟨Nat.le_of_ble_eq_true rfl, Nat.le_of_ble_eq_true rfl⟩ rfl hl.1 rfl (Nat.le_of_ble_eq_true rfl) dX0_playTurns_2 ⟨Nat.le_of_ble_eq_true rfl, Nat.le_of_ble_eq_true rfl⟩) C.2.2.2.2.2.2.1 hP hD hS [0, 1, 2] [] rfl rfl (by decide) (by decide) (fun r_2 u_1 H locs hw_3 hP hD hS => ?_)
  have hP : va_P D vwCl [(h, .inr (0, [.int 0, .int 0, .int (-1), .ref h0, .ref h1, .ref h2, .ref h3, .ref h4, .int 0, .ref h5, .int 0, .int 0, .int 10, .int 1, .int 0, .int 1])), (h2, .inl (cy 1, 3, .inl u_1)), (h5, .inl (cy 1, 81, .inl (fun _ => 0)))] H := hP
  have hD : va_D A [(h, .inr (0, [.int 0, .int 0, .int (-1), .ref h0, .ref h1, .ref h2, .ref h3, .ref h4, .int 0, .ref h5, .int 0, .int 0, .int 10, .int 1, .int 0, .int 1])), (h2, .inl (cy 1, 3, .inl u_1)), (h5, .inl (cy 1, 81, .inl (fun _ => 0)))] := hD
  obtain rfl : r_2 = 0 := hw_3
  refine lv_istore_n (lv' := [(1, .int 0), (0, .ref h)]) hx hb dX0_playTurns_5 rfl hl (by decide) rfl (fun ls hl => ?_)
  refine lv_aload_n hx hb dX0_playTurns_6 rfl (lv_at hl 1 rfl) ?_
  refine lv_aload_n hx hb dX0_playTurns_7 rfl (lv_at hl 1 rfl) ?_
  refine q_get (v := .ref h2) C hP 0 5 rfl rfl inX0 (by decide) kF_RX0_28 rfl rfl dX0_playTurns_8 ?_
  refine lv_iconst (v := 0) hx hb dX0_playTurns_11 (by decide) ?_
  refine q_iald (v := (u_1 0)) C hP 1 rfl (vin (by decide +kernel)) rfl dX0_playTurns_12 ?_
  refine q_put (v := .int (u_1 0)) (w' := [(h, .inr (0, [.int 0, .int 0, .int (u_1 0), .ref h0, .ref h1, .ref h2, .ref h3, .ref h4, .int 0, .ref h5, .int 0, .int 0, .int 10, .int 1, .int 0, .int 1])), (h2, .inl (cy 1, 3, .inl u_1)), (h5, .inl (cy 1, 81, .inl (fun _ => 0)))]) (ty := .int) C hP hD hS 0 2 rfl rfl inX0 tyX0 tyX0_ok nmX0 (by decide) kF_RX0_18 rfl rfl rfl rfl rfl (Nat.le_of_ble_eq_true rfl) rfl dX0_playTurns_13 (fun H locs hP hD hS => ?_)
  refine lv_iload_n hx hb dX0_playTurns_16 rfl (lv_at hl 0 rfl) ?_
  exact q_iret (rm := (Rm 3 77 0 0)) C hS () rfl rfl (q_subP hP [] rfl) (hD.sub [] (by decide) rfl) (Nat.le_of_ble_eq_true rfl) (Nat.le_of_ble_eq_true rfl) dX0_playTurns_17
set_option maxHeartbeats 4000000 in
set_option maxRecDepth 100000 in
theorem c_laws_2_2 (l : Launch) (D : va_G) (cy : Nat → ClassId) (h : Nat) (h0 : Nat) (h1 : Nat) (h2 : Nat) (h3 : Nat) (h4 : Nat) (h5 : Nat) (kr : Nat → Int32) (sz : Nat)  : MI l yX0_lawsFrom cX0_lawsFrom 8 (some .int) (Rm 1 23 0 0) D cy [.ref h, .int 2] sz [(h, .inr (0, [.int 0, .int 0, .int (-1), .ref h0, .ref h1, .ref h2, .ref h3, .ref h4, .int 0, .ref h5, .int 0, .int 0, .int 10, .int 1, .int 0, .int 2])), (h2, .inl (cy 1, 3, .inl kr)), (h5, .inl (cy 1, 81, .inl (fun _ => 0)))] (fun (r : Int32) (u : Nat → Int32) => r = 0) (fun u : Nat → Int32 => [(h, .inr (0, [.int 0, .int 0, .int (-1), .ref h0, .ref h1, .ref h2, .ref h3, .ref h4, .int 0, .ref h5, .int 0, .int 0, .int 10, .int 1, .int 0, .int 2])), (h2, .inl (cy 1, 3, .inl u)), (h5, .inl (cy 1, 81, .inl (fun _ => 0)))]) := by
  refine MI.enter (by decide) (Nat.le_of_ble_eq_true rfl) ?_
  intro p e s m below meth c ls A hsz hAe C hP hD hS hl
  have C : Cx p s m _ meth c cX0_lawsFrom 8 (some .int) RX0 "lawsFrom" D cy A := C
  have hx := C.1
  have hb := C.2.1
  have hl : lv_has ls 8 [(0, .ref h), (1, .int 2)] := hl
  refine lv_iload_n hx hb dX0_lawsFrom_0 rfl (lv_at hl 1 rfl) ?_
  refine lv_aload_n hx hb dX0_lawsFrom_1 rfl (lv_at hl 0 rfl) ?_
  refine q_get (v := .int 2) C hP 0 15 rfl rfl inX0 (by decide) kF_RX0_58 rfl rfl dX0_lawsFrom_2 ?_
  refine lv_icmp_ge (tgt := 13) hx hb dX0_lawsFrom_5 (by decide) (fun _ => ?_) (fun c_0 => absurd (by decide) c_0)
  refine lv_aload_n hx hb dX0_lawsFrom_13 rfl (lv_at hl 0 rfl) ?_
  refine lv_iload_n hx hb dX0_lawsFrom_14 rfl (lv_at hl 1 rfl) ?_
  refine q_ai (wr := [(h2, .inl (cy 1, 3, .inl kr)), (h5, .inl (cy 1, 81, .inl (fun _ => 0)))]) (r_V (q0 := 0) (As := [.int 2]) (rest := []) (wc := [(h, .inr (0, [.int 0, .int 0, .int (-1), .ref h0, .ref h1, .ref h2, .ref h3, .ref h4, .int 0, .ref h5, .int 0, .int 0, .int 10, .int 1, .int 0, .int 2]))]) C (q_subP hP [0] rfl) (hD.sub [0] (by decide) rfl) (c_lawsBehind l D cy h 2 h0 h1 h2 h3 h4 h5 2 _ ) kwV_X0_lawsBehind kM_RX0_139 rfl rfl ⟨Nat.le_of_ble_eq_true rfl, Nat.le_of_ble_eq_true rfl⟩ rfl hl.1 rfl (Nat.le_of_ble_eq_true rfl) dX0_lawsFrom_15 ⟨Nat.le_of_ble_eq_true rfl, Nat.le_of_ble_eq_true rfl⟩) C.2.2.2.2.2.2.1 hP hD hS [0] [1, 2] rfl rfl (by decide) (by decide) (fun r_2 u_1 H locs hw_3 hP hD hS => ?_)
  have hP : va_P D vwCl [(h2, .inl (cy 1, 3, .inl kr)), (h5, .inl (cy 1, 81, .inl (fun _ => 0))), (h, .inr (0, [.int 0, .int 0, .int (-1), .ref h0, .ref h1, .ref h2, .ref h3, .ref h4, .int 0, .ref h5, .int 0, .int 0, .int 10, .int 1, .int 0, .int 2]))] H := hP
  have hD : va_D A [(h2, .inl (cy 1, 3, .inl kr)), (h5, .inl (cy 1, 81, .inl (fun _ => 0))), (h, .inr (0, [.int 0, .int 0, .int (-1), .ref h0, .ref h1, .ref h2, .ref h3, .ref h4, .int 0, .ref h5, .int 0, .int 0, .int 10, .int 1, .int 0, .int 2]))] := hD
  obtain rfl : r_2 = 0 := hw_3
  exact q_iret (rm := (Rm 1 23 0 0)) C hS (kr) rfl rfl (q_subP hP [2, 0, 1] rfl) (hD.sub [2, 0, 1] (by decide) rfl) (Nat.le_of_ble_eq_true rfl) (Nat.le_of_ble_eq_true rfl) dX0_lawsFrom_18
set_option maxHeartbeats 4000000 in
set_option maxRecDepth 100000 in
theorem c_laws_2_1 (l : Launch) (D : va_G) (cy : Nat → ClassId) (h : Nat) (h0 : Nat) (h1 : Nat) (h2 : Nat) (h3 : Nat) (h4 : Nat) (h5 : Nat) (kr : Nat → Int32) (sz : Nat)  : MI l yX0_lawsFrom cX0_lawsFrom 8 (some .int) (Rm 2 50 0 0) D cy [.ref h, .int 1] sz [(h, .inr (0, [.int 0, .int 0, .int (-1), .ref h0, .ref h1, .ref h2, .ref h3, .ref h4, .int 0, .ref h5, .int 0, .int 0, .int 10, .int 1, .int 0, .int 2])), (h2, .inl (cy 1, 3, .inl kr)), (h5, .inl (cy 1, 81, .inl (fun _ => 0)))] (fun (r : Int32) (u : Nat → Int32) => r = 0) (fun u : Nat → Int32 => [(h, .inr (0, [.int 0, .int 0, .int (-1), .ref h0, .ref h1, .ref h2, .ref h3, .ref h4, .int 0, .ref h5, .int 0, .int 0, .int 10, .int 1, .int 0, .int 2])), (h2, .inl (cy 1, 3, .inl u)), (h5, .inl (cy 1, 81, .inl (fun _ => 0)))]) := by
  refine MI.enter (by decide) (Nat.le_of_ble_eq_true rfl) ?_
  intro p e s m below meth c ls A hsz hAe C hP hD hS hl
  have C : Cx p s m _ meth c cX0_lawsFrom 8 (some .int) RX0 "lawsFrom" D cy A := C
  have hx := C.1
  have hb := C.2.1
  have hl : lv_has ls 8 [(0, .ref h), (1, .int 1)] := hl
  refine lv_iload_n hx hb dX0_lawsFrom_0 rfl (lv_at hl 1 rfl) ?_
  refine lv_aload_n hx hb dX0_lawsFrom_1 rfl (lv_at hl 0 rfl) ?_
  refine q_get (v := .int 2) C hP 0 15 rfl rfl inX0 (by decide) kF_RX0_58 rfl rfl dX0_lawsFrom_2 ?_
  refine lv_icmp_ge (tgt := 13) hx hb dX0_lawsFrom_5 (by decide) (fun c_0 => absurd c_0 (by decide)) (fun _ => ?_)
  refine lv_iload_n hx hb dX0_lawsFrom_8 rfl (lv_at hl 1 rfl) ?_
  refine lv_iconst (v := 3) hx hb dX0_lawsFrom_9 (by decide) ?_
  refine lv_icmp_lt (tgt := 19) hx hb dX0_lawsFrom_10 (by decide) (fun _ => ?_) (fun c_0 => absurd (by decide) c_0)
  refine lv_aload_n hx hb dX0_lawsFrom_19 rfl (lv_at hl 0 rfl) ?_
  refine lv_iload_n hx hb dX0_lawsFrom_20 rfl (lv_at hl 1 rfl) ?_
  refine q_av (wr := [(h2, .inl (cy 1, 3, .inl kr)), (h5, .inl (cy 1, 81, .inl (fun _ => 0)))]) (r_V (q0 := 0) (As := [.int 1]) (rest := []) (wc := [(h, .inr (0, [.int 0, .int 0, .int (-1), .ref h0, .ref h1, .ref h2, .ref h3, .ref h4, .int 0, .ref h5, .int 0, .int 0, .int 10, .int 1, .int 0, .int 2]))]) C (q_subP hP [0] rfl) (hD.sub [0] (by decide) rfl) (c_passDay l D cy h 1 h0 h1 h2 h3 h4 h5 2 _ ) kwV_X0_passDay kM_RX0_102 rfl rfl ⟨Nat.le_of_ble_eq_true rfl, Nat.le_of_ble_eq_true rfl⟩ rfl hl.1 rfl (Nat.le_of_ble_eq_true rfl) dX0_lawsFrom_21 ⟨Nat.le_of_ble_eq_true rfl, Nat.le_of_ble_eq_true rfl⟩) C.2.2.2.2.2.2.1 hP hD hS [0] [1, 2] rfl rfl (by decide) (by decide) (fun u_1 H locs hw_3 hP hD hS => ?_)
  have hP : va_P D vwCl [(h2, .inl (cy 1, 3, .inl kr)), (h5, .inl (cy 1, 81, .inl (fun _ => 0))), (h, .inr (0, [.int 0, .int 0, .int (-1), .ref h0, .ref h1, .ref h2, .ref h3, .ref h4, .int 0, .ref h5, .int 0, .int 0, .int 10, .int 1, .int 0, .int 2]))] H := hP
  have hD : va_D A [(h2, .inl (cy 1, 3, .inl kr)), (h5, .inl (cy 1, 81, .inl (fun _ => 0))), (h, .inr (0, [.int 0, .int 0, .int (-1), .ref h0, .ref h1, .ref h2, .ref h3, .ref h4, .int 0, .ref h5, .int 0, .int 0, .int 10, .int 1, .int 0, .int 2]))] := hD
  refine lv_iload_n hx hb dX0_lawsFrom_24 rfl (lv_at hl 1 rfl) ?_
  refine lv_iconst (v := 2) hx hb dX0_lawsFrom_25 (by decide) ?_
  refine lv_irem hx hb dX0_lawsFrom_26 (by decide) ?_
  refine q_val (v := 1) (by decide) ?_
  refine lv_if_ne (tgt := 34) hx hb dX0_lawsFrom_27 (by decide) (fun _ => ?_) (fun c_0 => absurd c_0 (by decide))
  refine lv_iconst (v := 0) hx hb dX0_lawsFrom_34 (by decide) ?_
  refine lv_istore_n (lv' := [(2, .int 0), (0, .ref h), (1, .int 1)]) hx hb dX0_lawsFrom_35 rfl hl (by decide) rfl (fun ls hl => ?_)
  refine lv_iconst (v := (-1)) hx hb dX0_lawsFrom_36 (by decide) ?_
  refine lv_istore_n (lv' := [(3, .int (-1)), (2, .int 0), (0, .ref h), (1, .int 1)]) hx hb dX0_lawsFrom_37 rfl hl (by decide) rfl (fun ls hl => ?_)
  refine lv_iconst (v := 0) hx hb dX0_lawsFrom_38 (by decide) ?_
  refine lv_istore (lv' := [(4, .int 0), (3, .int (-1)), (2, .int 0), (0, .ref h), (1, .int 1)]) hx hb dX0_lawsFrom_39 hl (by decide) rfl (fun ls hl => ?_)
  refine lv_iload hx hb dX0_lawsFrom_41 (lv_at hl 0 rfl) ?_
  refine lv_aload_n hx hb dX0_lawsFrom_43 rfl (lv_at hl 3 rfl) ?_
  refine q_get (v := .int 0) C hP 2 10 rfl rfl inX0 (by decide) kF_RX0_43 rfl rfl dX0_lawsFrom_44 ?_
  refine lv_icmp_gt (tgt := 151) hx hb dX0_lawsFrom_47 (by decide) (fun c_0 => absurd c_0 (by decide)) (fun _ => ?_)
  refine lv_aload_n hx hb dX0_lawsFrom_50 rfl (lv_at hl 3 rfl) ?_
  refine lv_iload_n hx hb dX0_lawsFrom_51 rfl (lv_at hl 4 rfl) ?_
  refine lv_iload hx hb dX0_lawsFrom_52 (lv_at hl 0 rfl) ?_
  refine q_ai (wr := [(h2, .inl (cy 1, 3, .inl kr)), (h5, .inl (cy 1, 81, .inl (fun _ => 0)))]) (r_V (q0 := 0) (As := [.int 1, .int 0]) (rest := []) (wc := [(h, .inr (0, [.int 0, .int 0, .int (-1), .ref h0, .ref h1, .ref h2, .ref h3, .ref h4, .int 0, .ref h5, .int 0, .int 0, .int 10, .int 1, .int 0, .int 2]))]) C (q_subP hP [2] rfl) (hD.sub [2] (by decide) rfl) (c_mayChoose l D cy h 1 h0 h1 h2 h3 h4 h5 2 _ ) kwV_X0_mayChoose kM_RX0_133 rfl rfl ⟨Nat.le_of_ble_eq_true rfl, Nat.le_of_ble_eq_true rfl⟩ rfl hl.1 rfl (Nat.le_of_ble_eq_true rfl) dX0_lawsFrom_54 ⟨Nat.le_of_ble_eq_true rfl, Nat.le_of_ble_eq_true rfl⟩) C.2.2.2.2.2.2.1 hP hD hS [2] [0, 1] rfl rfl (by decide) (by decide) (fun r_5 u_4 H locs hw_6 hP hD hS => ?_)
  have hP : va_P D vwCl [(h2, .inl (cy 1, 3, .inl kr)), (h5, .inl (cy 1, 81, .inl (fun _ => 0))), (h, .inr (0, [.int 0, .int 0, .int (-1), .ref h0, .ref h1, .ref h2, .ref h3, .ref h4, .int 0, .ref h5, .int 0, .int 0, .int 10, .int 1, .int 0, .int 2]))] H := hP
  have hD : va_D A [(h2, .inl (cy 1, 3, .inl kr)), (h5, .inl (cy 1, 81, .inl (fun _ => 0))), (h, .inr (0, [.int 0, .int 0, .int (-1), .ref h0, .ref h1, .ref h2, .ref h3, .ref h4, .int 0, .ref h5, .int 0, .int 0, .int 10, .int 1, .int 0, .int 2]))] := hD
  obtain rfl : r_5 = 1 := hw_6
  refine lv_if_eq (tgt := 145) hx hb dX0_lawsFrom_57 (by decide) (fun c_0 => absurd c_0 (by decide)) (fun _ => ?_)
  refine lv_iload_n hx hb dX0_lawsFrom_60 rfl (lv_at hl 4 rfl) ?_
  refine lv_iconst (v := 1) hx hb dX0_lawsFrom_61 (by decide) ?_
  refine lv_iadd hx hb dX0_lawsFrom_62 ?_
  refine q_val (v := 2) (by decide) ?_
  refine lv_bipush (v := 9) hx hb dX0_lawsFrom_63 (by decide) ?_
  refine lv_imul hx hb dX0_lawsFrom_65 ?_
  refine q_val (v := 18) (by decide) ?_
  refine lv_iload hx hb dX0_lawsFrom_66 (lv_at hl 0 rfl) ?_
  refine lv_iadd hx hb dX0_lawsFrom_68 ?_
  refine q_val (v := 18) (by decide) ?_
  refine lv_istore (lv' := [(5, .int 18), (4, .int 0), (3, .int (-1)), (2, .int 0), (0, .ref h), (1, .int 1)]) hx hb dX0_lawsFrom_69 hl (by decide) rfl (fun ls hl => ?_)
  refine lv_aload_n hx hb dX0_lawsFrom_71 rfl (lv_at hl 4 rfl) ?_
  refine q_get (v := .ref h5) C hP 2 9 rfl rfl inX0 (by decide) kF_RX0_40 rfl rfl dX0_lawsFrom_72 ?_
  refine lv_iload hx hb dX0_lawsFrom_75 (lv_at hl 0 rfl) ?_
  refine q_iald (v := 0) C hP 1 rfl (vin (by decide +kernel)) rfl dX0_lawsFrom_77 ?_
  refine lv_istore (lv' := [(6, .int 0), (5, .int 18), (4, .int 0), (3, .int (-1)), (2, .int 0), (0, .ref h), (1, .int 1)]) hx hb dX0_lawsFrom_78 hl (by decide) rfl (fun ls hl => ?_)
  refine lv_aload_n hx hb dX0_lawsFrom_80 rfl (lv_at hl 5 rfl) ?_
  refine q_get (v := .ref h5) C hP 2 9 rfl rfl inX0 (by decide) kF_RX0_40 rfl rfl dX0_lawsFrom_81 ?_
  refine lv_iload hx hb dX0_lawsFrom_84 (lv_at hl 1 rfl) ?_
  refine lv_iconst (v := 0) hx hb dX0_lawsFrom_86 (by decide) ?_
  refine q_iast (g := fun _ => 0) (w' := [(h2, .inl (cy 1, 3, .inl kr)), (h5, .inl (cy 1, 81, .inl (fun _ => 0))), (h, .inr (0, [.int 0, .int 0, .int (-1), .ref h0, .ref h1, .ref h2, .ref h3, .ref h4, .int 0, .ref h5, .int 0, .int 0, .int 10, .int 1, .int 0, .int 2]))]) C hP hD hS 1 rfl (vin (by decide +kernel)) (updz _) rfl dX0_lawsFrom_87 (fun H locs hP hD hS => ?_)
  refine lv_aload_n hx hb dX0_lawsFrom_88 rfl (lv_at hl 5 rfl) ?_
  refine lv_iload_n hx hb dX0_lawsFrom_89 rfl (lv_at hl 6 rfl) ?_
  refine lv_iconst (v := 1) hx hb dX0_lawsFrom_90 (by decide) ?_
  refine lv_iadd hx hb dX0_lawsFrom_91 ?_
  refine q_val (v := 2) (by decide) ?_
  refine q_ai (wr := []) (r_V (q0 := 0) (As := [.int 2]) (rest := []) (wc := [(h, .inr (0, [.int 0, .int 0, .int (-1), .ref h0, .ref h1, .ref h2, .ref h3, .ref h4, .int 0, .ref h5, .int 0, .int 0, .int 10, .int 1, .int 0, .int 2])), (h2, .inl (cy 1, 3, .inl kr)), (h5, .inl (cy 1, 81, .inl (fun _ => 0)))]) C (q_subP hP [2, 0, 1] rfl) (hD.sub [2, 0, 1] (by decide) rfl) (c_laws_2_2 l D cy h h0 h1 h2 h3 h4 h5 kr _ ) kwV_X0_lawsFrom kM_RX0_136 rfl rfl ⟨Nat.le_of_ble_eq_true rfl, Nat.le_of_ble_eq_true rfl⟩ rfl hl.1 rfl (Nat.le_of_ble_eq_true rfl) dX0_lawsFrom_92 ⟨Nat.le_of_ble_eq_true rfl, Nat.le_of_ble_eq_true rfl⟩) C.2.2.2.2.2.2.1 hP hD hS [2, 0, 1] [] rfl rfl (by decide) (by decide) (fun r_8 u_7 H locs hw_9 hP hD hS => ?_)
  have hP : va_P D vwCl [(h, .inr (0, [.int 0, .int 0, .int (-1), .ref h0, .ref h1, .ref h2, .ref h3, .ref h4, .int 0, .ref h5, .int 0, .int 0, .int 10, .int 1, .int 0, .int 2])), (h2, .inl (cy 1, 3, .inl u_7)), (h5, .inl (cy 1, 81, .inl (fun _ => 0)))] H := hP
  have hD : va_D A [(h, .inr (0, [.int 0, .int 0, .int (-1), .ref h0, .ref h1, .ref h2, .ref h3, .ref h4, .int 0, .ref h5, .int 0, .int 0, .int 10, .int 1, .int 0, .int 2])), (h2, .inl (cy 1, 3, .inl u_7)), (h5, .inl (cy 1, 81, .inl (fun _ => 0)))] := hD
  obtain rfl : r_8 = 0 := hw_9
  refine lv_istore (lv' := [(7, .int 0), (6, .int 0), (5, .int 18), (4, .int 0), (3, .int (-1)), (2, .int 0), (0, .ref h), (1, .int 1)]) hx hb dX0_lawsFrom_95 hl (by decide) rfl (fun ls hl => ?_)
  refine lv_aload_n hx hb dX0_lawsFrom_97 rfl (lv_at hl 6 rfl) ?_
  refine q_get (v := .ref h5) C hP 0 9 rfl rfl inX0 (by decide) kF_RX0_40 rfl rfl dX0_lawsFrom_98 ?_
  refine lv_iload hx hb dX0_lawsFrom_101 (lv_at hl 2 rfl) ?_
  refine lv_iload hx hb dX0_lawsFrom_103 (lv_at hl 1 rfl) ?_
  refine q_iast (g := fun _ => 0) (w' := [(h, .inr (0, [.int 0, .int 0, .int (-1), .ref h0, .ref h1, .ref h2, .ref h3, .ref h4, .int 0, .ref h5, .int 0, .int 0, .int 10, .int 1, .int 0, .int 2])), (h2, .inl (cy 1, 3, .inl u_7)), (h5, .inl (cy 1, 81, .inl (fun _ => 0)))]) C hP hD hS 2 rfl (vin (by decide +kernel)) (updz _) rfl dX0_lawsFrom_105 (fun H locs hP hD hS => ?_)
  refine lv_iload_n hx hb dX0_lawsFrom_106 rfl (lv_at hl 4 rfl) ?_
  refine lv_iconst (v := (-1)) hx hb dX0_lawsFrom_107 (by decide) ?_
  refine lv_icmp_eq (tgt := 130) hx hb dX0_lawsFrom_108 (by decide) (fun _ => ?_) (fun c_0 => absurd (by decide) c_0)
  refine lv_iload hx hb dX0_lawsFrom_130 (lv_at hl 0 rfl) ?_
  refine lv_istore_n (lv' := [(3, .int 0), (7, .int 0), (6, .int 0), (5, .int 18), (4, .int 0), (2, .int 0), (0, .ref h), (1, .int 1)]) hx hb dX0_lawsFrom_132 rfl hl (by decide) rfl (fun ls hl => ?_)
  refine lv_aload_n hx hb dX0_lawsFrom_133 rfl (lv_at hl 6 rfl) ?_
  refine q_get (v := .ref h2) C hP 0 5 rfl rfl inX0 (by decide) kF_RX0_28 rfl rfl dX0_lawsFrom_134 ?_
  refine lv_iload_n hx hb dX0_lawsFrom_137 rfl (lv_at hl 7 rfl) ?_
  refine lv_aload_n hx hb dX0_lawsFrom_138 rfl (lv_at hl 6 rfl) ?_
  refine lv_iload hx hb dX0_lawsFrom_139 (lv_at hl 4 rfl) ?_
  refine q_ai (wr := [(h2, .inl (cy 1, 3, .inl u_7)), (h5, .inl (cy 1, 81, .inl (fun _ => 0)))]) (r_V (q0 := 0) (As := [.int 0]) (rest := [.int 1, .ref h2]) (wc := [(h, .inr (0, [.int 0, .int 0, .int (-1), .ref h0, .ref h1, .ref h2, .ref h3, .ref h4, .int 0, .ref h5, .int 0, .int 0, .int 10, .int 1, .int 0, .int 2]))]) C (q_subP hP [0] rfl) (hD.sub [0] (by decide) rfl) (c_bookChosen l D cy h h0 h1 h2 h3 h4 h5 2 _ ) kwV_X0_bookChosen kM_RX0_110 rfl rfl ⟨Nat.le_of_ble_eq_true rfl, Nat.le_of_ble_eq_true rfl⟩ rfl hl.1 rfl (Nat.le_of_ble_eq_true rfl) dX0_lawsFrom_141 ⟨Nat.le_of_ble_eq_true rfl, Nat.le_of_ble_eq_true rfl⟩) C.2.2.2.2.2.2.1 hP hD hS [0] [1, 2] rfl rfl (by decide) (by decide) (fun r_11 u_10 H locs hw_12 hP hD hS => ?_)
  have hP : va_P D vwCl [(h2, .inl (cy 1, 3, .inl u_7)), (h5, .inl (cy 1, 81, .inl (fun _ => 0))), (h, .inr (0, [.int 0, .int 0, .int (-1), .ref h0, .ref h1, .ref h2, .ref h3, .ref h4, .int 0, .ref h5, .int 0, .int 0, .int 10, .int 1, .int 0, .int 2]))] H := hP
  have hD : va_D A [(h2, .inl (cy 1, 3, .inl u_7)), (h5, .inl (cy 1, 81, .inl (fun _ => 0))), (h, .inr (0, [.int 0, .int 0, .int (-1), .ref h0, .ref h1, .ref h2, .ref h3, .ref h4, .int 0, .ref h5, .int 0, .int 0, .int 10, .int 1, .int 0, .int 2]))] := hD
  obtain rfl : r_11 = (-1) := hw_12
  refine q_iast (g := upd u_7 1 (-1)) (w' := [(h2, .inl (cy 1, 3, .inl (upd u_7 1 (-1)))), (h5, .inl (cy 1, 81, .inl (fun _ => 0))), (h, .inr (0, [.int 0, .int 0, .int (-1), .ref h0, .ref h1, .ref h2, .ref h3, .ref h4, .int 0, .ref h5, .int 0, .int 0, .int 10, .int 1, .int 0, .int 2]))]) C hP hD hS 0 rfl (vin (by decide +kernel)) rfl rfl dX0_lawsFrom_144 (fun H locs hP hD hS => ?_)
  refine lv_iinc (v := 1) (lv' := [(4, .int 1), (3, .int 0), (7, .int 0), (6, .int 0), (5, .int 18), (2, .int 0), (0, .ref h), (1, .int 1)]) hx hb dX0_lawsFrom_145 hl (k := 4) rfl (by decide) (by decide) rfl (fun ls hl => ?_)
  refine lv_goto (tgt := 41) hx hb dX0_lawsFrom_148 (by decide) ?_
  refine lv_iload hx hb dX0_lawsFrom_41 (lv_at hl 0 rfl) ?_
  refine lv_aload_n hx hb dX0_lawsFrom_43 rfl (lv_at hl 6 rfl) ?_
  refine q_get (v := .int 0) C hP 2 10 rfl rfl inX0 (by decide) kF_RX0_43 rfl rfl dX0_lawsFrom_44 ?_
  refine lv_icmp_gt (tgt := 151) hx hb dX0_lawsFrom_47 (by decide) (fun _ => ?_) (fun c_0 => absurd (by decide) c_0)
  refine lv_iload_n hx hb dX0_lawsFrom_151 rfl (lv_at hl 1 rfl) ?_
  exact q_iret (rm := (Rm 2 50 0 0)) C hS (upd u_7 1 (-1)) rfl rfl (q_subP hP [2, 0, 1] rfl) (hD.sub [2, 0, 1] (by decide) rfl) (Nat.le_of_ble_eq_true rfl) (Nat.le_of_ble_eq_true rfl) dX0_lawsFrom_152
set_option maxHeartbeats 4000000 in
set_option maxRecDepth 100000 in
theorem c_laws_2_0 (l : Launch) (D : va_G) (cy : Nat → ClassId) (h : Nat) (h0 : Nat) (h1 : Nat) (h2 : Nat) (h3 : Nat) (h4 : Nat) (h5 : Nat) (kr : Nat → Int32) (sz : Nat)  : MI l yX0_lawsFrom cX0_lawsFrom 8 (some .int) (Rm 3 77 0 0) D cy [.ref h, .int 0] sz [(h, .inr (0, [.int 0, .int 0, .int (-1), .ref h0, .ref h1, .ref h2, .ref h3, .ref h4, .int 0, .ref h5, .int 0, .int 0, .int 10, .int 1, .int 0, .int 2])), (h2, .inl (cy 1, 3, .inl kr)), (h5, .inl (cy 1, 81, .inl (fun _ => 0)))] (fun (r : Int32) (u : Nat → Int32) => r = 0) (fun u : Nat → Int32 => [(h, .inr (0, [.int 0, .int 0, .int (-1), .ref h0, .ref h1, .ref h2, .ref h3, .ref h4, .int 0, .ref h5, .int 0, .int 0, .int 10, .int 1, .int 0, .int 2])), (h2, .inl (cy 1, 3, .inl u)), (h5, .inl (cy 1, 81, .inl (fun _ => 0)))]) := by
  refine MI.enter (by decide) (Nat.le_of_ble_eq_true rfl) ?_
  intro p e s m below meth c ls A hsz hAe C hP hD hS hl
  have C : Cx p s m _ meth c cX0_lawsFrom 8 (some .int) RX0 "lawsFrom" D cy A := C
  have hx := C.1
  have hb := C.2.1
  have hl : lv_has ls 8 [(0, .ref h), (1, .int 0)] := hl
  refine lv_iload_n hx hb dX0_lawsFrom_0 rfl (lv_at hl 1 rfl) ?_
  refine lv_aload_n hx hb dX0_lawsFrom_1 rfl (lv_at hl 0 rfl) ?_
  refine q_get (v := .int 2) C hP 0 15 rfl rfl inX0 (by decide) kF_RX0_58 rfl rfl dX0_lawsFrom_2 ?_
  refine lv_icmp_ge (tgt := 13) hx hb dX0_lawsFrom_5 (by decide) (fun c_0 => absurd c_0 (by decide)) (fun _ => ?_)
  refine lv_iload_n hx hb dX0_lawsFrom_8 rfl (lv_at hl 1 rfl) ?_
  refine lv_iconst (v := 3) hx hb dX0_lawsFrom_9 (by decide) ?_
  refine lv_icmp_lt (tgt := 19) hx hb dX0_lawsFrom_10 (by decide) (fun _ => ?_) (fun c_0 => absurd (by decide) c_0)
  refine lv_aload_n hx hb dX0_lawsFrom_19 rfl (lv_at hl 0 rfl) ?_
  refine lv_iload_n hx hb dX0_lawsFrom_20 rfl (lv_at hl 1 rfl) ?_
  refine q_av (wr := [(h2, .inl (cy 1, 3, .inl kr)), (h5, .inl (cy 1, 81, .inl (fun _ => 0)))]) (r_V (q0 := 0) (As := [.int 0]) (rest := []) (wc := [(h, .inr (0, [.int 0, .int 0, .int (-1), .ref h0, .ref h1, .ref h2, .ref h3, .ref h4, .int 0, .ref h5, .int 0, .int 0, .int 10, .int 1, .int 0, .int 2]))]) C (q_subP hP [0] rfl) (hD.sub [0] (by decide) rfl) (c_passDay l D cy h 0 h0 h1 h2 h3 h4 h5 2 _ ) kwV_X0_passDay kM_RX0_102 rfl rfl ⟨Nat.le_of_ble_eq_true rfl, Nat.le_of_ble_eq_true rfl⟩ rfl hl.1 rfl (Nat.le_of_ble_eq_true rfl) dX0_lawsFrom_21 ⟨Nat.le_of_ble_eq_true rfl, Nat.le_of_ble_eq_true rfl⟩) C.2.2.2.2.2.2.1 hP hD hS [0] [1, 2] rfl rfl (by decide) (by decide) (fun u_1 H locs hw_3 hP hD hS => ?_)
  have hP : va_P D vwCl [(h2, .inl (cy 1, 3, .inl kr)), (h5, .inl (cy 1, 81, .inl (fun _ => 0))), (h, .inr (0, [.int 0, .int 0, .int (-1), .ref h0, .ref h1, .ref h2, .ref h3, .ref h4, .int 0, .ref h5, .int 0, .int 0, .int 10, .int 1, .int 0, .int 2]))] H := hP
  have hD : va_D A [(h2, .inl (cy 1, 3, .inl kr)), (h5, .inl (cy 1, 81, .inl (fun _ => 0))), (h, .inr (0, [.int 0, .int 0, .int (-1), .ref h0, .ref h1, .ref h2, .ref h3, .ref h4, .int 0, .ref h5, .int 0, .int 0, .int 10, .int 1, .int 0, .int 2]))] := hD
  refine lv_iload_n hx hb dX0_lawsFrom_24 rfl (lv_at hl 1 rfl) ?_
  refine lv_iconst (v := 2) hx hb dX0_lawsFrom_25 (by decide) ?_
  refine lv_irem hx hb dX0_lawsFrom_26 (by decide) ?_
  refine q_val (v := 0) (by decide) ?_
  refine lv_if_ne (tgt := 34) hx hb dX0_lawsFrom_27 (by decide) (fun c_0 => absurd (by decide) c_0) (fun _ => ?_)
  refine lv_iconst (v := 1) hx hb dX0_lawsFrom_30 (by decide) ?_
  refine lv_goto (tgt := 35) hx hb dX0_lawsFrom_31 (by decide) ?_
  refine lv_istore_n (lv' := [(2, .int 1), (0, .ref h), (1, .int 0)]) hx hb dX0_lawsFrom_35 rfl hl (by decide) rfl (fun ls hl => ?_)
  refine lv_iconst (v := (-1)) hx hb dX0_lawsFrom_36 (by decide) ?_
  refine lv_istore_n (lv' := [(3, .int (-1)), (2, .int 1), (0, .ref h), (1, .int 0)]) hx hb dX0_lawsFrom_37 rfl hl (by decide) rfl (fun ls hl => ?_)
  refine lv_iconst (v := 0) hx hb dX0_lawsFrom_38 (by decide) ?_
  refine lv_istore (lv' := [(4, .int 0), (3, .int (-1)), (2, .int 1), (0, .ref h), (1, .int 0)]) hx hb dX0_lawsFrom_39 hl (by decide) rfl (fun ls hl => ?_)
  refine lv_iload hx hb dX0_lawsFrom_41 (lv_at hl 0 rfl) ?_
  refine lv_aload_n hx hb dX0_lawsFrom_43 rfl (lv_at hl 3 rfl) ?_
  refine q_get (v := .int 0) C hP 2 10 rfl rfl inX0 (by decide) kF_RX0_43 rfl rfl dX0_lawsFrom_44 ?_
  refine lv_icmp_gt (tgt := 151) hx hb dX0_lawsFrom_47 (by decide) (fun c_0 => absurd c_0 (by decide)) (fun _ => ?_)
  refine lv_aload_n hx hb dX0_lawsFrom_50 rfl (lv_at hl 3 rfl) ?_
  refine lv_iload_n hx hb dX0_lawsFrom_51 rfl (lv_at hl 4 rfl) ?_
  refine lv_iload hx hb dX0_lawsFrom_52 (lv_at hl 0 rfl) ?_
  refine q_ai (wr := [(h2, .inl (cy 1, 3, .inl kr)), (h5, .inl (cy 1, 81, .inl (fun _ => 0)))]) (r_V (q0 := 0) (As := [.int 0, .int 0]) (rest := []) (wc := [(h, .inr (0, [.int 0, .int 0, .int (-1), .ref h0, .ref h1, .ref h2, .ref h3, .ref h4, .int 0, .ref h5, .int 0, .int 0, .int 10, .int 1, .int 0, .int 2]))]) C (q_subP hP [2] rfl) (hD.sub [2] (by decide) rfl) (c_mayChoose l D cy h 0 h0 h1 h2 h3 h4 h5 2 _ ) kwV_X0_mayChoose kM_RX0_133 rfl rfl ⟨Nat.le_of_ble_eq_true rfl, Nat.le_of_ble_eq_true rfl⟩ rfl hl.1 rfl (Nat.le_of_ble_eq_true rfl) dX0_lawsFrom_54 ⟨Nat.le_of_ble_eq_true rfl, Nat.le_of_ble_eq_true rfl⟩) C.2.2.2.2.2.2.1 hP hD hS [2] [0, 1] rfl rfl (by decide) (by decide) (fun r_5 u_4 H locs hw_6 hP hD hS => ?_)
  have hP : va_P D vwCl [(h2, .inl (cy 1, 3, .inl kr)), (h5, .inl (cy 1, 81, .inl (fun _ => 0))), (h, .inr (0, [.int 0, .int 0, .int (-1), .ref h0, .ref h1, .ref h2, .ref h3, .ref h4, .int 0, .ref h5, .int 0, .int 0, .int 10, .int 1, .int 0, .int 2]))] H := hP
  have hD : va_D A [(h2, .inl (cy 1, 3, .inl kr)), (h5, .inl (cy 1, 81, .inl (fun _ => 0))), (h, .inr (0, [.int 0, .int 0, .int (-1), .ref h0, .ref h1, .ref h2, .ref h3, .ref h4, .int 0, .ref h5, .int 0, .int 0, .int 10, .int 1, .int 0, .int 2]))] := hD
  obtain rfl : r_5 = 1 := hw_6
  refine lv_if_eq (tgt := 145) hx hb dX0_lawsFrom_57 (by decide) (fun c_0 => absurd c_0 (by decide)) (fun _ => ?_)
  refine lv_iload_n hx hb dX0_lawsFrom_60 rfl (lv_at hl 4 rfl) ?_
  refine lv_iconst (v := 1) hx hb dX0_lawsFrom_61 (by decide) ?_
  refine lv_iadd hx hb dX0_lawsFrom_62 ?_
  refine q_val (v := 1) (by decide) ?_
  refine lv_bipush (v := 9) hx hb dX0_lawsFrom_63 (by decide) ?_
  refine lv_imul hx hb dX0_lawsFrom_65 ?_
  refine q_val (v := 9) (by decide) ?_
  refine lv_iload hx hb dX0_lawsFrom_66 (lv_at hl 0 rfl) ?_
  refine lv_iadd hx hb dX0_lawsFrom_68 ?_
  refine q_val (v := 9) (by decide) ?_
  refine lv_istore (lv' := [(5, .int 9), (4, .int 0), (3, .int (-1)), (2, .int 1), (0, .ref h), (1, .int 0)]) hx hb dX0_lawsFrom_69 hl (by decide) rfl (fun ls hl => ?_)
  refine lv_aload_n hx hb dX0_lawsFrom_71 rfl (lv_at hl 4 rfl) ?_
  refine q_get (v := .ref h5) C hP 2 9 rfl rfl inX0 (by decide) kF_RX0_40 rfl rfl dX0_lawsFrom_72 ?_
  refine lv_iload hx hb dX0_lawsFrom_75 (lv_at hl 0 rfl) ?_
  refine q_iald (v := 0) C hP 1 rfl (vin (by decide +kernel)) rfl dX0_lawsFrom_77 ?_
  refine lv_istore (lv' := [(6, .int 0), (5, .int 9), (4, .int 0), (3, .int (-1)), (2, .int 1), (0, .ref h), (1, .int 0)]) hx hb dX0_lawsFrom_78 hl (by decide) rfl (fun ls hl => ?_)
  refine lv_aload_n hx hb dX0_lawsFrom_80 rfl (lv_at hl 5 rfl) ?_
  refine q_get (v := .ref h5) C hP 2 9 rfl rfl inX0 (by decide) kF_RX0_40 rfl rfl dX0_lawsFrom_81 ?_
  refine lv_iload hx hb dX0_lawsFrom_84 (lv_at hl 1 rfl) ?_
  refine lv_iconst (v := 0) hx hb dX0_lawsFrom_86 (by decide) ?_
  refine q_iast (g := fun _ => 0) (w' := [(h2, .inl (cy 1, 3, .inl kr)), (h5, .inl (cy 1, 81, .inl (fun _ => 0))), (h, .inr (0, [.int 0, .int 0, .int (-1), .ref h0, .ref h1, .ref h2, .ref h3, .ref h4, .int 0, .ref h5, .int 0, .int 0, .int 10, .int 1, .int 0, .int 2]))]) C hP hD hS 1 rfl (vin (by decide +kernel)) (updz _) rfl dX0_lawsFrom_87 (fun H locs hP hD hS => ?_)
  refine lv_aload_n hx hb dX0_lawsFrom_88 rfl (lv_at hl 5 rfl) ?_
  refine lv_iload_n hx hb dX0_lawsFrom_89 rfl (lv_at hl 6 rfl) ?_
  refine lv_iconst (v := 1) hx hb dX0_lawsFrom_90 (by decide) ?_
  refine lv_iadd hx hb dX0_lawsFrom_91 ?_
  refine q_val (v := 1) (by decide) ?_
  refine q_ai (wr := []) (r_V (q0 := 0) (As := [.int 1]) (rest := []) (wc := [(h, .inr (0, [.int 0, .int 0, .int (-1), .ref h0, .ref h1, .ref h2, .ref h3, .ref h4, .int 0, .ref h5, .int 0, .int 0, .int 10, .int 1, .int 0, .int 2])), (h2, .inl (cy 1, 3, .inl kr)), (h5, .inl (cy 1, 81, .inl (fun _ => 0)))]) C (q_subP hP [2, 0, 1] rfl) (hD.sub [2, 0, 1] (by decide) rfl) (c_laws_2_1 l D cy h h0 h1 h2 h3 h4 h5 kr _ ) kwV_X0_lawsFrom kM_RX0_136 rfl rfl ⟨Nat.le_of_ble_eq_true rfl, Nat.le_of_ble_eq_true rfl⟩ rfl hl.1 rfl (Nat.le_of_ble_eq_true rfl) dX0_lawsFrom_92 ⟨Nat.le_of_ble_eq_true rfl, Nat.le_of_ble_eq_true rfl⟩) C.2.2.2.2.2.2.1 hP hD hS [2, 0, 1] [] rfl rfl (by decide) (by decide) (fun r_8 u_7 H locs hw_9 hP hD hS => ?_)
  have hP : va_P D vwCl [(h, .inr (0, [.int 0, .int 0, .int (-1), .ref h0, .ref h1, .ref h2, .ref h3, .ref h4, .int 0, .ref h5, .int 0, .int 0, .int 10, .int 1, .int 0, .int 2])), (h2, .inl (cy 1, 3, .inl u_7)), (h5, .inl (cy 1, 81, .inl (fun _ => 0)))] H := hP
  have hD : va_D A [(h, .inr (0, [.int 0, .int 0, .int (-1), .ref h0, .ref h1, .ref h2, .ref h3, .ref h4, .int 0, .ref h5, .int 0, .int 0, .int 10, .int 1, .int 0, .int 2])), (h2, .inl (cy 1, 3, .inl u_7)), (h5, .inl (cy 1, 81, .inl (fun _ => 0)))] := hD
  obtain rfl : r_8 = 0 := hw_9
  refine lv_istore (lv' := [(7, .int 0), (6, .int 0), (5, .int 9), (4, .int 0), (3, .int (-1)), (2, .int 1), (0, .ref h), (1, .int 0)]) hx hb dX0_lawsFrom_95 hl (by decide) rfl (fun ls hl => ?_)
  refine lv_aload_n hx hb dX0_lawsFrom_97 rfl (lv_at hl 6 rfl) ?_
  refine q_get (v := .ref h5) C hP 0 9 rfl rfl inX0 (by decide) kF_RX0_40 rfl rfl dX0_lawsFrom_98 ?_
  refine lv_iload hx hb dX0_lawsFrom_101 (lv_at hl 2 rfl) ?_
  refine lv_iload hx hb dX0_lawsFrom_103 (lv_at hl 1 rfl) ?_
  refine q_iast (g := fun _ => 0) (w' := [(h, .inr (0, [.int 0, .int 0, .int (-1), .ref h0, .ref h1, .ref h2, .ref h3, .ref h4, .int 0, .ref h5, .int 0, .int 0, .int 10, .int 1, .int 0, .int 2])), (h2, .inl (cy 1, 3, .inl u_7)), (h5, .inl (cy 1, 81, .inl (fun _ => 0)))]) C hP hD hS 2 rfl (vin (by decide +kernel)) (updz _) rfl dX0_lawsFrom_105 (fun H locs hP hD hS => ?_)
  refine lv_iload_n hx hb dX0_lawsFrom_106 rfl (lv_at hl 4 rfl) ?_
  refine lv_iconst (v := (-1)) hx hb dX0_lawsFrom_107 (by decide) ?_
  refine lv_icmp_eq (tgt := 130) hx hb dX0_lawsFrom_108 (by decide) (fun _ => ?_) (fun c_0 => absurd (by decide) c_0)
  refine lv_iload hx hb dX0_lawsFrom_130 (lv_at hl 0 rfl) ?_
  refine lv_istore_n (lv' := [(3, .int 0), (7, .int 0), (6, .int 0), (5, .int 9), (4, .int 0), (2, .int 1), (0, .ref h), (1, .int 0)]) hx hb dX0_lawsFrom_132 rfl hl (by decide) rfl (fun ls hl => ?_)
  refine lv_aload_n hx hb dX0_lawsFrom_133 rfl (lv_at hl 6 rfl) ?_
  refine q_get (v := .ref h2) C hP 0 5 rfl rfl inX0 (by decide) kF_RX0_28 rfl rfl dX0_lawsFrom_134 ?_
  refine lv_iload_n hx hb dX0_lawsFrom_137 rfl (lv_at hl 7 rfl) ?_
  refine lv_aload_n hx hb dX0_lawsFrom_138 rfl (lv_at hl 6 rfl) ?_
  refine lv_iload hx hb dX0_lawsFrom_139 (lv_at hl 4 rfl) ?_
  refine q_ai (wr := [(h2, .inl (cy 1, 3, .inl u_7)), (h5, .inl (cy 1, 81, .inl (fun _ => 0)))]) (r_V (q0 := 0) (As := [.int 0]) (rest := [.int 0, .ref h2]) (wc := [(h, .inr (0, [.int 0, .int 0, .int (-1), .ref h0, .ref h1, .ref h2, .ref h3, .ref h4, .int 0, .ref h5, .int 0, .int 0, .int 10, .int 1, .int 0, .int 2]))]) C (q_subP hP [0] rfl) (hD.sub [0] (by decide) rfl) (c_bookChosen l D cy h h0 h1 h2 h3 h4 h5 2 _ ) kwV_X0_bookChosen kM_RX0_110 rfl rfl ⟨Nat.le_of_ble_eq_true rfl, Nat.le_of_ble_eq_true rfl⟩ rfl hl.1 rfl (Nat.le_of_ble_eq_true rfl) dX0_lawsFrom_141 ⟨Nat.le_of_ble_eq_true rfl, Nat.le_of_ble_eq_true rfl⟩) C.2.2.2.2.2.2.1 hP hD hS [0] [1, 2] rfl rfl (by decide) (by decide) (fun r_11 u_10 H locs hw_12 hP hD hS => ?_)
  have hP : va_P D vwCl [(h2, .inl (cy 1, 3, .inl u_7)), (h5, .inl (cy 1, 81, .inl (fun _ => 0))), (h, .inr (0, [.int 0, .int 0, .int (-1), .ref h0, .ref h1, .ref h2, .ref h3, .ref h4, .int 0, .ref h5, .int 0, .int 0, .int 10, .int 1, .int 0, .int 2]))] H := hP
  have hD : va_D A [(h2, .inl (cy 1, 3, .inl u_7)), (h5, .inl (cy 1, 81, .inl (fun _ => 0))), (h, .inr (0, [.int 0, .int 0, .int (-1), .ref h0, .ref h1, .ref h2, .ref h3, .ref h4, .int 0, .ref h5, .int 0, .int 0, .int 10, .int 1, .int 0, .int 2]))] := hD
  obtain rfl : r_11 = (-1) := hw_12
  refine q_iast (g := upd u_7 0 (-1)) (w' := [(h2, .inl (cy 1, 3, .inl (upd u_7 0 (-1)))), (h5, .inl (cy 1, 81, .inl (fun _ => 0))), (h, .inr (0, [.int 0, .int 0, .int (-1), .ref h0, .ref h1, .ref h2, .ref h3, .ref h4, .int 0, .ref h5, .int 0, .int 0, .int 10, .int 1, .int 0, .int 2]))]) C hP hD hS 0 rfl (vin (by decide +kernel)) rfl rfl dX0_lawsFrom_144 (fun H locs hP hD hS => ?_)
  refine lv_iinc (v := 1) (lv' := [(4, .int 1), (3, .int 0), (7, .int 0), (6, .int 0), (5, .int 9), (2, .int 1), (0, .ref h), (1, .int 0)]) hx hb dX0_lawsFrom_145 hl (k := 4) rfl (by decide) (by decide) rfl (fun ls hl => ?_)
  refine lv_goto (tgt := 41) hx hb dX0_lawsFrom_148 (by decide) ?_
  refine lv_iload hx hb dX0_lawsFrom_41 (lv_at hl 0 rfl) ?_
  refine lv_aload_n hx hb dX0_lawsFrom_43 rfl (lv_at hl 6 rfl) ?_
  refine q_get (v := .int 0) C hP 2 10 rfl rfl inX0 (by decide) kF_RX0_43 rfl rfl dX0_lawsFrom_44 ?_
  refine lv_icmp_gt (tgt := 151) hx hb dX0_lawsFrom_47 (by decide) (fun _ => ?_) (fun c_0 => absurd (by decide) c_0)
  refine lv_iload_n hx hb dX0_lawsFrom_151 rfl (lv_at hl 1 rfl) ?_
  exact q_iret (rm := (Rm 3 77 0 0)) C hS (upd u_7 0 (-1)) rfl rfl (q_subP hP [2, 0, 1] rfl) (hD.sub [2, 0, 1] (by decide) rfl) (Nat.le_of_ble_eq_true rfl) (Nat.le_of_ble_eq_true rfl) dX0_lawsFrom_152
set_option maxHeartbeats 4000000 in
set_option maxRecDepth 100000 in
theorem c_play_2 (l : Launch) (D : va_G) (cy : Nat → ClassId) (h : Nat) (h0 : Nat) (h1 : Nat) (h2 : Nat) (h3 : Nat) (h4 : Nat) (h5 : Nat) (kr : Nat → Int32) (sz : Nat)  : MI l yX0_playTurns cX0_playTurns 2 (some .int) (Rm 4 104 0 0) D cy [.ref h] sz [(h, .inr (0, [.int 0, .int 0, .int (-1), .ref h0, .ref h1, .ref h2, .ref h3, .ref h4, .int 0, .ref h5, .int 0, .int 0, .int 10, .int 1, .int 0, .int 2])), (h2, .inl (cy 1, 3, .inl kr)), (h5, .inl (cy 1, 81, .inl (fun _ => 0)))] (fun (r : Int32) (u : Unit) => r = 0) (fun u : Unit => []) := by
  refine MI.enter (by decide) (Nat.le_of_ble_eq_true rfl) ?_
  intro p e s m below meth c ls A hsz hAe C hP hD hS hl
  have C : Cx p s m _ meth c cX0_playTurns 2 (some .int) RX0 "playTurns" D cy A := C
  have hx := C.1
  have hb := C.2.1
  have hl : lv_has ls 2 [(0, .ref h)] := hl
  refine lv_aload_n hx hb dX0_playTurns_0 rfl (lv_at hl 0 rfl) ?_
  refine lv_iconst (v := 0) hx hb dX0_playTurns_1 (by decide) ?_
  refine q_ai (wr := []) (r_V (q0 := 0) (As := [.int 0]) (rest := []) (wc := [(h, .inr (0, [.int 0, .int 0, .int (-1), .ref h0, .ref h1, .ref h2, .ref h3, .ref h4, .int 0, .ref h5, .int 0, .int 0, .int 10, .int 1, .int 0, .int 2])), (h2, .inl (cy 1, 3, .inl kr)), (h5, .inl (cy 1, 81, .inl (fun _ => 0)))]) C (q_subP hP [0, 1, 2] rfl) (hD.sub [0, 1, 2] (by decide) rfl) (c_laws_2_0 l D cy h h0 h1 h2 h3 h4 h5 kr _ ) kwV_X0_lawsFrom kM_RX0_136 rfl rfl ⟨Nat.le_of_ble_eq_true rfl, Nat.le_of_ble_eq_true rfl⟩ rfl hl.1 rfl (Nat.le_of_ble_eq_true rfl) dX0_playTurns_2 ⟨Nat.le_of_ble_eq_true rfl, Nat.le_of_ble_eq_true rfl⟩) C.2.2.2.2.2.2.1 hP hD hS [0, 1, 2] [] rfl rfl (by decide) (by decide) (fun r_2 u_1 H locs hw_3 hP hD hS => ?_)
  have hP : va_P D vwCl [(h, .inr (0, [.int 0, .int 0, .int (-1), .ref h0, .ref h1, .ref h2, .ref h3, .ref h4, .int 0, .ref h5, .int 0, .int 0, .int 10, .int 1, .int 0, .int 2])), (h2, .inl (cy 1, 3, .inl u_1)), (h5, .inl (cy 1, 81, .inl (fun _ => 0)))] H := hP
  have hD : va_D A [(h, .inr (0, [.int 0, .int 0, .int (-1), .ref h0, .ref h1, .ref h2, .ref h3, .ref h4, .int 0, .ref h5, .int 0, .int 0, .int 10, .int 1, .int 0, .int 2])), (h2, .inl (cy 1, 3, .inl u_1)), (h5, .inl (cy 1, 81, .inl (fun _ => 0)))] := hD
  obtain rfl : r_2 = 0 := hw_3
  refine lv_istore_n (lv' := [(1, .int 0), (0, .ref h)]) hx hb dX0_playTurns_5 rfl hl (by decide) rfl (fun ls hl => ?_)
  refine lv_aload_n hx hb dX0_playTurns_6 rfl (lv_at hl 1 rfl) ?_
  refine lv_aload_n hx hb dX0_playTurns_7 rfl (lv_at hl 1 rfl) ?_
  refine q_get (v := .ref h2) C hP 0 5 rfl rfl inX0 (by decide) kF_RX0_28 rfl rfl dX0_playTurns_8 ?_
  refine lv_iconst (v := 0) hx hb dX0_playTurns_11 (by decide) ?_
  refine q_iald (v := (u_1 0)) C hP 1 rfl (vin (by decide +kernel)) rfl dX0_playTurns_12 ?_
  refine q_put (v := .int (u_1 0)) (w' := [(h, .inr (0, [.int 0, .int 0, .int (u_1 0), .ref h0, .ref h1, .ref h2, .ref h3, .ref h4, .int 0, .ref h5, .int 0, .int 0, .int 10, .int 1, .int 0, .int 2])), (h2, .inl (cy 1, 3, .inl u_1)), (h5, .inl (cy 1, 81, .inl (fun _ => 0)))]) (ty := .int) C hP hD hS 0 2 rfl rfl inX0 tyX0 tyX0_ok nmX0 (by decide) kF_RX0_18 rfl rfl rfl rfl rfl (Nat.le_of_ble_eq_true rfl) rfl dX0_playTurns_13 (fun H locs hP hD hS => ?_)
  refine lv_iload_n hx hb dX0_playTurns_16 rfl (lv_at hl 0 rfl) ?_
  exact q_iret (rm := (Rm 4 104 0 0)) C hS () rfl rfl (q_subP hP [] rfl) (hD.sub [] (by decide) rfl) (Nat.le_of_ble_eq_true rfl) (Nat.le_of_ble_eq_true rfl) dX0_playTurns_17
set_option maxHeartbeats 4000000 in
set_option maxRecDepth 100000 in
theorem c_laws_3_3 (l : Launch) (D : va_G) (cy : Nat → ClassId) (h : Nat) (h0 : Nat) (h1 : Nat) (h2 : Nat) (h3 : Nat) (h4 : Nat) (h5 : Nat) (kr : Nat → Int32) (sz : Nat)  : MI l yX0_lawsFrom cX0_lawsFrom 8 (some .int) (Rm 1 23 0 0) D cy [.ref h, .int 3] sz [(h, .inr (0, [.int 0, .int 0, .int (-1), .ref h0, .ref h1, .ref h2, .ref h3, .ref h4, .int 0, .ref h5, .int 0, .int 0, .int 10, .int 1, .int 0, .int 3])), (h2, .inl (cy 1, 3, .inl kr)), (h5, .inl (cy 1, 81, .inl (fun _ => 0)))] (fun (r : Int32) (u : Nat → Int32) => r = 0) (fun u : Nat → Int32 => [(h, .inr (0, [.int 0, .int 0, .int (-1), .ref h0, .ref h1, .ref h2, .ref h3, .ref h4, .int 0, .ref h5, .int 0, .int 0, .int 10, .int 1, .int 0, .int 3])), (h2, .inl (cy 1, 3, .inl u)), (h5, .inl (cy 1, 81, .inl (fun _ => 0)))]) := by
  refine MI.enter (by decide) (Nat.le_of_ble_eq_true rfl) ?_
  intro p e s m below meth c ls A hsz hAe C hP hD hS hl
  have C : Cx p s m _ meth c cX0_lawsFrom 8 (some .int) RX0 "lawsFrom" D cy A := C
  have hx := C.1
  have hb := C.2.1
  have hl : lv_has ls 8 [(0, .ref h), (1, .int 3)] := hl
  refine lv_iload_n hx hb dX0_lawsFrom_0 rfl (lv_at hl 1 rfl) ?_
  refine lv_aload_n hx hb dX0_lawsFrom_1 rfl (lv_at hl 0 rfl) ?_
  refine q_get (v := .int 3) C hP 0 15 rfl rfl inX0 (by decide) kF_RX0_58 rfl rfl dX0_lawsFrom_2 ?_
  refine lv_icmp_ge (tgt := 13) hx hb dX0_lawsFrom_5 (by decide) (fun _ => ?_) (fun c_0 => absurd (by decide) c_0)
  refine lv_aload_n hx hb dX0_lawsFrom_13 rfl (lv_at hl 0 rfl) ?_
  refine lv_iload_n hx hb dX0_lawsFrom_14 rfl (lv_at hl 1 rfl) ?_
  refine q_ai (wr := [(h2, .inl (cy 1, 3, .inl kr)), (h5, .inl (cy 1, 81, .inl (fun _ => 0)))]) (r_V (q0 := 0) (As := [.int 3]) (rest := []) (wc := [(h, .inr (0, [.int 0, .int 0, .int (-1), .ref h0, .ref h1, .ref h2, .ref h3, .ref h4, .int 0, .ref h5, .int 0, .int 0, .int 10, .int 1, .int 0, .int 3]))]) C (q_subP hP [0] rfl) (hD.sub [0] (by decide) rfl) (c_lawsBehind l D cy h 3 h0 h1 h2 h3 h4 h5 3 _ ) kwV_X0_lawsBehind kM_RX0_139 rfl rfl ⟨Nat.le_of_ble_eq_true rfl, Nat.le_of_ble_eq_true rfl⟩ rfl hl.1 rfl (Nat.le_of_ble_eq_true rfl) dX0_lawsFrom_15 ⟨Nat.le_of_ble_eq_true rfl, Nat.le_of_ble_eq_true rfl⟩) C.2.2.2.2.2.2.1 hP hD hS [0] [1, 2] rfl rfl (by decide) (by decide) (fun r_2 u_1 H locs hw_3 hP hD hS => ?_)
  have hP : va_P D vwCl [(h2, .inl (cy 1, 3, .inl kr)), (h5, .inl (cy 1, 81, .inl (fun _ => 0))), (h, .inr (0, [.int 0, .int 0, .int (-1), .ref h0, .ref h1, .ref h2, .ref h3, .ref h4, .int 0, .ref h5, .int 0, .int 0, .int 10, .int 1, .int 0, .int 3]))] H := hP
  have hD : va_D A [(h2, .inl (cy 1, 3, .inl kr)), (h5, .inl (cy 1, 81, .inl (fun _ => 0))), (h, .inr (0, [.int 0, .int 0, .int (-1), .ref h0, .ref h1, .ref h2, .ref h3, .ref h4, .int 0, .ref h5, .int 0, .int 0, .int 10, .int 1, .int 0, .int 3]))] := hD
  obtain rfl : r_2 = 0 := hw_3
  exact q_iret (rm := (Rm 1 23 0 0)) C hS (kr) rfl rfl (q_subP hP [2, 0, 1] rfl) (hD.sub [2, 0, 1] (by decide) rfl) (Nat.le_of_ble_eq_true rfl) (Nat.le_of_ble_eq_true rfl) dX0_lawsFrom_18
set_option maxHeartbeats 4000000 in
set_option maxRecDepth 100000 in
theorem c_laws_3_2 (l : Launch) (D : va_G) (cy : Nat → ClassId) (h : Nat) (h0 : Nat) (h1 : Nat) (h2 : Nat) (h3 : Nat) (h4 : Nat) (h5 : Nat) (kr : Nat → Int32) (sz : Nat)  : MI l yX0_lawsFrom cX0_lawsFrom 8 (some .int) (Rm 2 50 0 0) D cy [.ref h, .int 2] sz [(h, .inr (0, [.int 0, .int 0, .int (-1), .ref h0, .ref h1, .ref h2, .ref h3, .ref h4, .int 0, .ref h5, .int 0, .int 0, .int 10, .int 1, .int 0, .int 3])), (h2, .inl (cy 1, 3, .inl kr)), (h5, .inl (cy 1, 81, .inl (fun _ => 0)))] (fun (r : Int32) (u : Nat → Int32) => r = 0) (fun u : Nat → Int32 => [(h, .inr (0, [.int 0, .int 0, .int (-1), .ref h0, .ref h1, .ref h2, .ref h3, .ref h4, .int 0, .ref h5, .int 0, .int 0, .int 10, .int 1, .int 0, .int 3])), (h2, .inl (cy 1, 3, .inl u)), (h5, .inl (cy 1, 81, .inl (fun _ => 0)))]) := by
  refine MI.enter (by decide) (Nat.le_of_ble_eq_true rfl) ?_
  intro p e s m below meth c ls A hsz hAe C hP hD hS hl
  have C : Cx p s m _ meth c cX0_lawsFrom 8 (some .int) RX0 "lawsFrom" D cy A := C
  have hx := C.1
  have hb := C.2.1
  have hl : lv_has ls 8 [(0, .ref h), (1, .int 2)] := hl
  refine lv_iload_n hx hb dX0_lawsFrom_0 rfl (lv_at hl 1 rfl) ?_
  refine lv_aload_n hx hb dX0_lawsFrom_1 rfl (lv_at hl 0 rfl) ?_
  refine q_get (v := .int 3) C hP 0 15 rfl rfl inX0 (by decide) kF_RX0_58 rfl rfl dX0_lawsFrom_2 ?_
  refine lv_icmp_ge (tgt := 13) hx hb dX0_lawsFrom_5 (by decide) (fun c_0 => absurd c_0 (by decide)) (fun _ => ?_)
  refine lv_iload_n hx hb dX0_lawsFrom_8 rfl (lv_at hl 1 rfl) ?_
  refine lv_iconst (v := 3) hx hb dX0_lawsFrom_9 (by decide) ?_
  refine lv_icmp_lt (tgt := 19) hx hb dX0_lawsFrom_10 (by decide) (fun _ => ?_) (fun c_0 => absurd (by decide) c_0)
  refine lv_aload_n hx hb dX0_lawsFrom_19 rfl (lv_at hl 0 rfl) ?_
  refine lv_iload_n hx hb dX0_lawsFrom_20 rfl (lv_at hl 1 rfl) ?_
  refine q_av (wr := [(h2, .inl (cy 1, 3, .inl kr)), (h5, .inl (cy 1, 81, .inl (fun _ => 0)))]) (r_V (q0 := 0) (As := [.int 2]) (rest := []) (wc := [(h, .inr (0, [.int 0, .int 0, .int (-1), .ref h0, .ref h1, .ref h2, .ref h3, .ref h4, .int 0, .ref h5, .int 0, .int 0, .int 10, .int 1, .int 0, .int 3]))]) C (q_subP hP [0] rfl) (hD.sub [0] (by decide) rfl) (c_passDay l D cy h 2 h0 h1 h2 h3 h4 h5 3 _ ) kwV_X0_passDay kM_RX0_102 rfl rfl ⟨Nat.le_of_ble_eq_true rfl, Nat.le_of_ble_eq_true rfl⟩ rfl hl.1 rfl (Nat.le_of_ble_eq_true rfl) dX0_lawsFrom_21 ⟨Nat.le_of_ble_eq_true rfl, Nat.le_of_ble_eq_true rfl⟩) C.2.2.2.2.2.2.1 hP hD hS [0] [1, 2] rfl rfl (by decide) (by decide) (fun u_1 H locs hw_3 hP hD hS => ?_)
  have hP : va_P D vwCl [(h2, .inl (cy 1, 3, .inl kr)), (h5, .inl (cy 1, 81, .inl (fun _ => 0))), (h, .inr (0, [.int 0, .int 0, .int (-1), .ref h0, .ref h1, .ref h2, .ref h3, .ref h4, .int 0, .ref h5, .int 0, .int 0, .int 10, .int 1, .int 0, .int 3]))] H := hP
  have hD : va_D A [(h2, .inl (cy 1, 3, .inl kr)), (h5, .inl (cy 1, 81, .inl (fun _ => 0))), (h, .inr (0, [.int 0, .int 0, .int (-1), .ref h0, .ref h1, .ref h2, .ref h3, .ref h4, .int 0, .ref h5, .int 0, .int 0, .int 10, .int 1, .int 0, .int 3]))] := hD
  refine lv_iload_n hx hb dX0_lawsFrom_24 rfl (lv_at hl 1 rfl) ?_
  refine lv_iconst (v := 2) hx hb dX0_lawsFrom_25 (by decide) ?_
  refine lv_irem hx hb dX0_lawsFrom_26 (by decide) ?_
  refine q_val (v := 0) (by decide) ?_
  refine lv_if_ne (tgt := 34) hx hb dX0_lawsFrom_27 (by decide) (fun c_0 => absurd (by decide) c_0) (fun _ => ?_)
  refine lv_iconst (v := 1) hx hb dX0_lawsFrom_30 (by decide) ?_
  refine lv_goto (tgt := 35) hx hb dX0_lawsFrom_31 (by decide) ?_
  refine lv_istore_n (lv' := [(2, .int 1), (0, .ref h), (1, .int 2)]) hx hb dX0_lawsFrom_35 rfl hl (by decide) rfl (fun ls hl => ?_)
  refine lv_iconst (v := (-1)) hx hb dX0_lawsFrom_36 (by decide) ?_
  refine lv_istore_n (lv' := [(3, .int (-1)), (2, .int 1), (0, .ref h), (1, .int 2)]) hx hb dX0_lawsFrom_37 rfl hl (by decide) rfl (fun ls hl => ?_)
  refine lv_iconst (v := 0) hx hb dX0_lawsFrom_38 (by decide) ?_
  refine lv_istore (lv' := [(4, .int 0), (3, .int (-1)), (2, .int 1), (0, .ref h), (1, .int 2)]) hx hb dX0_lawsFrom_39 hl (by decide) rfl (fun ls hl => ?_)
  refine lv_iload hx hb dX0_lawsFrom_41 (lv_at hl 0 rfl) ?_
  refine lv_aload_n hx hb dX0_lawsFrom_43 rfl (lv_at hl 3 rfl) ?_
  refine q_get (v := .int 0) C hP 2 10 rfl rfl inX0 (by decide) kF_RX0_43 rfl rfl dX0_lawsFrom_44 ?_
  refine lv_icmp_gt (tgt := 151) hx hb dX0_lawsFrom_47 (by decide) (fun c_0 => absurd c_0 (by decide)) (fun _ => ?_)
  refine lv_aload_n hx hb dX0_lawsFrom_50 rfl (lv_at hl 3 rfl) ?_
  refine lv_iload_n hx hb dX0_lawsFrom_51 rfl (lv_at hl 4 rfl) ?_
  refine lv_iload hx hb dX0_lawsFrom_52 (lv_at hl 0 rfl) ?_
  refine q_ai (wr := [(h2, .inl (cy 1, 3, .inl kr)), (h5, .inl (cy 1, 81, .inl (fun _ => 0)))]) (r_V (q0 := 0) (As := [.int 2, .int 0]) (rest := []) (wc := [(h, .inr (0, [.int 0, .int 0, .int (-1), .ref h0, .ref h1, .ref h2, .ref h3, .ref h4, .int 0, .ref h5, .int 0, .int 0, .int 10, .int 1, .int 0, .int 3]))]) C (q_subP hP [2] rfl) (hD.sub [2] (by decide) rfl) (c_mayChoose l D cy h 2 h0 h1 h2 h3 h4 h5 3 _ ) kwV_X0_mayChoose kM_RX0_133 rfl rfl ⟨Nat.le_of_ble_eq_true rfl, Nat.le_of_ble_eq_true rfl⟩ rfl hl.1 rfl (Nat.le_of_ble_eq_true rfl) dX0_lawsFrom_54 ⟨Nat.le_of_ble_eq_true rfl, Nat.le_of_ble_eq_true rfl⟩) C.2.2.2.2.2.2.1 hP hD hS [2] [0, 1] rfl rfl (by decide) (by decide) (fun r_5 u_4 H locs hw_6 hP hD hS => ?_)
  have hP : va_P D vwCl [(h2, .inl (cy 1, 3, .inl kr)), (h5, .inl (cy 1, 81, .inl (fun _ => 0))), (h, .inr (0, [.int 0, .int 0, .int (-1), .ref h0, .ref h1, .ref h2, .ref h3, .ref h4, .int 0, .ref h5, .int 0, .int 0, .int 10, .int 1, .int 0, .int 3]))] H := hP
  have hD : va_D A [(h2, .inl (cy 1, 3, .inl kr)), (h5, .inl (cy 1, 81, .inl (fun _ => 0))), (h, .inr (0, [.int 0, .int 0, .int (-1), .ref h0, .ref h1, .ref h2, .ref h3, .ref h4, .int 0, .ref h5, .int 0, .int 0, .int 10, .int 1, .int 0, .int 3]))] := hD
  obtain rfl : r_5 = 1 := hw_6
  refine lv_if_eq (tgt := 145) hx hb dX0_lawsFrom_57 (by decide) (fun c_0 => absurd c_0 (by decide)) (fun _ => ?_)
  refine lv_iload_n hx hb dX0_lawsFrom_60 rfl (lv_at hl 4 rfl) ?_
  refine lv_iconst (v := 1) hx hb dX0_lawsFrom_61 (by decide) ?_
  refine lv_iadd hx hb dX0_lawsFrom_62 ?_
  refine q_val (v := 3) (by decide) ?_
  refine lv_bipush (v := 9) hx hb dX0_lawsFrom_63 (by decide) ?_
  refine lv_imul hx hb dX0_lawsFrom_65 ?_
  refine q_val (v := 27) (by decide) ?_
  refine lv_iload hx hb dX0_lawsFrom_66 (lv_at hl 0 rfl) ?_
  refine lv_iadd hx hb dX0_lawsFrom_68 ?_
  refine q_val (v := 27) (by decide) ?_
  refine lv_istore (lv' := [(5, .int 27), (4, .int 0), (3, .int (-1)), (2, .int 1), (0, .ref h), (1, .int 2)]) hx hb dX0_lawsFrom_69 hl (by decide) rfl (fun ls hl => ?_)
  refine lv_aload_n hx hb dX0_lawsFrom_71 rfl (lv_at hl 4 rfl) ?_
  refine q_get (v := .ref h5) C hP 2 9 rfl rfl inX0 (by decide) kF_RX0_40 rfl rfl dX0_lawsFrom_72 ?_
  refine lv_iload hx hb dX0_lawsFrom_75 (lv_at hl 0 rfl) ?_
  refine q_iald (v := 0) C hP 1 rfl (vin (by decide +kernel)) rfl dX0_lawsFrom_77 ?_
  refine lv_istore (lv' := [(6, .int 0), (5, .int 27), (4, .int 0), (3, .int (-1)), (2, .int 1), (0, .ref h), (1, .int 2)]) hx hb dX0_lawsFrom_78 hl (by decide) rfl (fun ls hl => ?_)
  refine lv_aload_n hx hb dX0_lawsFrom_80 rfl (lv_at hl 5 rfl) ?_
  refine q_get (v := .ref h5) C hP 2 9 rfl rfl inX0 (by decide) kF_RX0_40 rfl rfl dX0_lawsFrom_81 ?_
  refine lv_iload hx hb dX0_lawsFrom_84 (lv_at hl 1 rfl) ?_
  refine lv_iconst (v := 0) hx hb dX0_lawsFrom_86 (by decide) ?_
  refine q_iast (g := fun _ => 0) (w' := [(h2, .inl (cy 1, 3, .inl kr)), (h5, .inl (cy 1, 81, .inl (fun _ => 0))), (h, .inr (0, [.int 0, .int 0, .int (-1), .ref h0, .ref h1, .ref h2, .ref h3, .ref h4, .int 0, .ref h5, .int 0, .int 0, .int 10, .int 1, .int 0, .int 3]))]) C hP hD hS 1 rfl (vin (by decide +kernel)) (updz _) rfl dX0_lawsFrom_87 (fun H locs hP hD hS => ?_)
  refine lv_aload_n hx hb dX0_lawsFrom_88 rfl (lv_at hl 5 rfl) ?_
  refine lv_iload_n hx hb dX0_lawsFrom_89 rfl (lv_at hl 6 rfl) ?_
  refine lv_iconst (v := 1) hx hb dX0_lawsFrom_90 (by decide) ?_
  refine lv_iadd hx hb dX0_lawsFrom_91 ?_
  refine q_val (v := 3) (by decide) ?_
  refine q_ai (wr := []) (r_V (q0 := 0) (As := [.int 3]) (rest := []) (wc := [(h, .inr (0, [.int 0, .int 0, .int (-1), .ref h0, .ref h1, .ref h2, .ref h3, .ref h4, .int 0, .ref h5, .int 0, .int 0, .int 10, .int 1, .int 0, .int 3])), (h2, .inl (cy 1, 3, .inl kr)), (h5, .inl (cy 1, 81, .inl (fun _ => 0)))]) C (q_subP hP [2, 0, 1] rfl) (hD.sub [2, 0, 1] (by decide) rfl) (c_laws_3_3 l D cy h h0 h1 h2 h3 h4 h5 kr _ ) kwV_X0_lawsFrom kM_RX0_136 rfl rfl ⟨Nat.le_of_ble_eq_true rfl, Nat.le_of_ble_eq_true rfl⟩ rfl hl.1 rfl (Nat.le_of_ble_eq_true rfl) dX0_lawsFrom_92 ⟨Nat.le_of_ble_eq_true rfl, Nat.le_of_ble_eq_true rfl⟩) C.2.2.2.2.2.2.1 hP hD hS [2, 0, 1] [] rfl rfl (by decide) (by decide) (fun r_8 u_7 H locs hw_9 hP hD hS => ?_)
  have hP : va_P D vwCl [(h, .inr (0, [.int 0, .int 0, .int (-1), .ref h0, .ref h1, .ref h2, .ref h3, .ref h4, .int 0, .ref h5, .int 0, .int 0, .int 10, .int 1, .int 0, .int 3])), (h2, .inl (cy 1, 3, .inl u_7)), (h5, .inl (cy 1, 81, .inl (fun _ => 0)))] H := hP
  have hD : va_D A [(h, .inr (0, [.int 0, .int 0, .int (-1), .ref h0, .ref h1, .ref h2, .ref h3, .ref h4, .int 0, .ref h5, .int 0, .int 0, .int 10, .int 1, .int 0, .int 3])), (h2, .inl (cy 1, 3, .inl u_7)), (h5, .inl (cy 1, 81, .inl (fun _ => 0)))] := hD
  obtain rfl : r_8 = 0 := hw_9
  refine lv_istore (lv' := [(7, .int 0), (6, .int 0), (5, .int 27), (4, .int 0), (3, .int (-1)), (2, .int 1), (0, .ref h), (1, .int 2)]) hx hb dX0_lawsFrom_95 hl (by decide) rfl (fun ls hl => ?_)
  refine lv_aload_n hx hb dX0_lawsFrom_97 rfl (lv_at hl 6 rfl) ?_
  refine q_get (v := .ref h5) C hP 0 9 rfl rfl inX0 (by decide) kF_RX0_40 rfl rfl dX0_lawsFrom_98 ?_
  refine lv_iload hx hb dX0_lawsFrom_101 (lv_at hl 2 rfl) ?_
  refine lv_iload hx hb dX0_lawsFrom_103 (lv_at hl 1 rfl) ?_
  refine q_iast (g := fun _ => 0) (w' := [(h, .inr (0, [.int 0, .int 0, .int (-1), .ref h0, .ref h1, .ref h2, .ref h3, .ref h4, .int 0, .ref h5, .int 0, .int 0, .int 10, .int 1, .int 0, .int 3])), (h2, .inl (cy 1, 3, .inl u_7)), (h5, .inl (cy 1, 81, .inl (fun _ => 0)))]) C hP hD hS 2 rfl (vin (by decide +kernel)) (updz _) rfl dX0_lawsFrom_105 (fun H locs hP hD hS => ?_)
  refine lv_iload_n hx hb dX0_lawsFrom_106 rfl (lv_at hl 4 rfl) ?_
  refine lv_iconst (v := (-1)) hx hb dX0_lawsFrom_107 (by decide) ?_
  refine lv_icmp_eq (tgt := 130) hx hb dX0_lawsFrom_108 (by decide) (fun _ => ?_) (fun c_0 => absurd (by decide) c_0)
  refine lv_iload hx hb dX0_lawsFrom_130 (lv_at hl 0 rfl) ?_
  refine lv_istore_n (lv' := [(3, .int 0), (7, .int 0), (6, .int 0), (5, .int 27), (4, .int 0), (2, .int 1), (0, .ref h), (1, .int 2)]) hx hb dX0_lawsFrom_132 rfl hl (by decide) rfl (fun ls hl => ?_)
  refine lv_aload_n hx hb dX0_lawsFrom_133 rfl (lv_at hl 6 rfl) ?_
  refine q_get (v := .ref h2) C hP 0 5 rfl rfl inX0 (by decide) kF_RX0_28 rfl rfl dX0_lawsFrom_134 ?_
  refine lv_iload_n hx hb dX0_lawsFrom_137 rfl (lv_at hl 7 rfl) ?_
  refine lv_aload_n hx hb dX0_lawsFrom_138 rfl (lv_at hl 6 rfl) ?_
  refine lv_iload hx hb dX0_lawsFrom_139 (lv_at hl 4 rfl) ?_
  refine q_ai (wr := [(h2, .inl (cy 1, 3, .inl u_7)), (h5, .inl (cy 1, 81, .inl (fun _ => 0)))]) (r_V (q0 := 0) (As := [.int 0]) (rest := [.int 2, .ref h2]) (wc := [(h, .inr (0, [.int 0, .int 0, .int (-1), .ref h0, .ref h1, .ref h2, .ref h3, .ref h4, .int 0, .ref h5, .int 0, .int 0, .int 10, .int 1, .int 0, .int 3]))]) C (q_subP hP [0] rfl) (hD.sub [0] (by decide) rfl) (c_bookChosen l D cy h h0 h1 h2 h3 h4 h5 3 _ ) kwV_X0_bookChosen kM_RX0_110 rfl rfl ⟨Nat.le_of_ble_eq_true rfl, Nat.le_of_ble_eq_true rfl⟩ rfl hl.1 rfl (Nat.le_of_ble_eq_true rfl) dX0_lawsFrom_141 ⟨Nat.le_of_ble_eq_true rfl, Nat.le_of_ble_eq_true rfl⟩) C.2.2.2.2.2.2.1 hP hD hS [0] [1, 2] rfl rfl (by decide) (by decide) (fun r_11 u_10 H locs hw_12 hP hD hS => ?_)
  have hP : va_P D vwCl [(h2, .inl (cy 1, 3, .inl u_7)), (h5, .inl (cy 1, 81, .inl (fun _ => 0))), (h, .inr (0, [.int 0, .int 0, .int (-1), .ref h0, .ref h1, .ref h2, .ref h3, .ref h4, .int 0, .ref h5, .int 0, .int 0, .int 10, .int 1, .int 0, .int 3]))] H := hP
  have hD : va_D A [(h2, .inl (cy 1, 3, .inl u_7)), (h5, .inl (cy 1, 81, .inl (fun _ => 0))), (h, .inr (0, [.int 0, .int 0, .int (-1), .ref h0, .ref h1, .ref h2, .ref h3, .ref h4, .int 0, .ref h5, .int 0, .int 0, .int 10, .int 1, .int 0, .int 3]))] := hD
  obtain rfl : r_11 = (-1) := hw_12
  refine q_iast (g := upd u_7 2 (-1)) (w' := [(h2, .inl (cy 1, 3, .inl (upd u_7 2 (-1)))), (h5, .inl (cy 1, 81, .inl (fun _ => 0))), (h, .inr (0, [.int 0, .int 0, .int (-1), .ref h0, .ref h1, .ref h2, .ref h3, .ref h4, .int 0, .ref h5, .int 0, .int 0, .int 10, .int 1, .int 0, .int 3]))]) C hP hD hS 0 rfl (vin (by decide +kernel)) rfl rfl dX0_lawsFrom_144 (fun H locs hP hD hS => ?_)
  refine lv_iinc (v := 1) (lv' := [(4, .int 1), (3, .int 0), (7, .int 0), (6, .int 0), (5, .int 27), (2, .int 1), (0, .ref h), (1, .int 2)]) hx hb dX0_lawsFrom_145 hl (k := 4) rfl (by decide) (by decide) rfl (fun ls hl => ?_)
  refine lv_goto (tgt := 41) hx hb dX0_lawsFrom_148 (by decide) ?_
  refine lv_iload hx hb dX0_lawsFrom_41 (lv_at hl 0 rfl) ?_
  refine lv_aload_n hx hb dX0_lawsFrom_43 rfl (lv_at hl 6 rfl) ?_
  refine q_get (v := .int 0) C hP 2 10 rfl rfl inX0 (by decide) kF_RX0_43 rfl rfl dX0_lawsFrom_44 ?_
  refine lv_icmp_gt (tgt := 151) hx hb dX0_lawsFrom_47 (by decide) (fun _ => ?_) (fun c_0 => absurd (by decide) c_0)
  refine lv_iload_n hx hb dX0_lawsFrom_151 rfl (lv_at hl 1 rfl) ?_
  exact q_iret (rm := (Rm 2 50 0 0)) C hS (upd u_7 2 (-1)) rfl rfl (q_subP hP [2, 0, 1] rfl) (hD.sub [2, 0, 1] (by decide) rfl) (Nat.le_of_ble_eq_true rfl) (Nat.le_of_ble_eq_true rfl) dX0_lawsFrom_152
set_option maxHeartbeats 4000000 in
set_option maxRecDepth 100000 in
theorem c_laws_3_1 (l : Launch) (D : va_G) (cy : Nat → ClassId) (h : Nat) (h0 : Nat) (h1 : Nat) (h2 : Nat) (h3 : Nat) (h4 : Nat) (h5 : Nat) (kr : Nat → Int32) (sz : Nat)  : MI l yX0_lawsFrom cX0_lawsFrom 8 (some .int) (Rm 3 77 0 0) D cy [.ref h, .int 1] sz [(h, .inr (0, [.int 0, .int 0, .int (-1), .ref h0, .ref h1, .ref h2, .ref h3, .ref h4, .int 0, .ref h5, .int 0, .int 0, .int 10, .int 1, .int 0, .int 3])), (h2, .inl (cy 1, 3, .inl kr)), (h5, .inl (cy 1, 81, .inl (fun _ => 0)))] (fun (r : Int32) (u : Nat → Int32) => r = 0) (fun u : Nat → Int32 => [(h, .inr (0, [.int 0, .int 0, .int (-1), .ref h0, .ref h1, .ref h2, .ref h3, .ref h4, .int 0, .ref h5, .int 0, .int 0, .int 10, .int 1, .int 0, .int 3])), (h2, .inl (cy 1, 3, .inl u)), (h5, .inl (cy 1, 81, .inl (fun _ => 0)))]) := by
  refine MI.enter (by decide) (Nat.le_of_ble_eq_true rfl) ?_
  intro p e s m below meth c ls A hsz hAe C hP hD hS hl
  have C : Cx p s m _ meth c cX0_lawsFrom 8 (some .int) RX0 "lawsFrom" D cy A := C
  have hx := C.1
  have hb := C.2.1
  have hl : lv_has ls 8 [(0, .ref h), (1, .int 1)] := hl
  refine lv_iload_n hx hb dX0_lawsFrom_0 rfl (lv_at hl 1 rfl) ?_
  refine lv_aload_n hx hb dX0_lawsFrom_1 rfl (lv_at hl 0 rfl) ?_
  refine q_get (v := .int 3) C hP 0 15 rfl rfl inX0 (by decide) kF_RX0_58 rfl rfl dX0_lawsFrom_2 ?_
  refine lv_icmp_ge (tgt := 13) hx hb dX0_lawsFrom_5 (by decide) (fun c_0 => absurd c_0 (by decide)) (fun _ => ?_)
  refine lv_iload_n hx hb dX0_lawsFrom_8 rfl (lv_at hl 1 rfl) ?_
  refine lv_iconst (v := 3) hx hb dX0_lawsFrom_9 (by decide) ?_
  refine lv_icmp_lt (tgt := 19) hx hb dX0_lawsFrom_10 (by decide) (fun _ => ?_) (fun c_0 => absurd (by decide) c_0)
  refine lv_aload_n hx hb dX0_lawsFrom_19 rfl (lv_at hl 0 rfl) ?_
  refine lv_iload_n hx hb dX0_lawsFrom_20 rfl (lv_at hl 1 rfl) ?_
  refine q_av (wr := [(h2, .inl (cy 1, 3, .inl kr)), (h5, .inl (cy 1, 81, .inl (fun _ => 0)))]) (r_V (q0 := 0) (As := [.int 1]) (rest := []) (wc := [(h, .inr (0, [.int 0, .int 0, .int (-1), .ref h0, .ref h1, .ref h2, .ref h3, .ref h4, .int 0, .ref h5, .int 0, .int 0, .int 10, .int 1, .int 0, .int 3]))]) C (q_subP hP [0] rfl) (hD.sub [0] (by decide) rfl) (c_passDay l D cy h 1 h0 h1 h2 h3 h4 h5 3 _ ) kwV_X0_passDay kM_RX0_102 rfl rfl ⟨Nat.le_of_ble_eq_true rfl, Nat.le_of_ble_eq_true rfl⟩ rfl hl.1 rfl (Nat.le_of_ble_eq_true rfl) dX0_lawsFrom_21 ⟨Nat.le_of_ble_eq_true rfl, Nat.le_of_ble_eq_true rfl⟩) C.2.2.2.2.2.2.1 hP hD hS [0] [1, 2] rfl rfl (by decide) (by decide) (fun u_1 H locs hw_3 hP hD hS => ?_)
  have hP : va_P D vwCl [(h2, .inl (cy 1, 3, .inl kr)), (h5, .inl (cy 1, 81, .inl (fun _ => 0))), (h, .inr (0, [.int 0, .int 0, .int (-1), .ref h0, .ref h1, .ref h2, .ref h3, .ref h4, .int 0, .ref h5, .int 0, .int 0, .int 10, .int 1, .int 0, .int 3]))] H := hP
  have hD : va_D A [(h2, .inl (cy 1, 3, .inl kr)), (h5, .inl (cy 1, 81, .inl (fun _ => 0))), (h, .inr (0, [.int 0, .int 0, .int (-1), .ref h0, .ref h1, .ref h2, .ref h3, .ref h4, .int 0, .ref h5, .int 0, .int 0, .int 10, .int 1, .int 0, .int 3]))] := hD
  refine lv_iload_n hx hb dX0_lawsFrom_24 rfl (lv_at hl 1 rfl) ?_
  refine lv_iconst (v := 2) hx hb dX0_lawsFrom_25 (by decide) ?_
  refine lv_irem hx hb dX0_lawsFrom_26 (by decide) ?_
  refine q_val (v := 1) (by decide) ?_
  refine lv_if_ne (tgt := 34) hx hb dX0_lawsFrom_27 (by decide) (fun _ => ?_) (fun c_0 => absurd c_0 (by decide))
  refine lv_iconst (v := 0) hx hb dX0_lawsFrom_34 (by decide) ?_
  refine lv_istore_n (lv' := [(2, .int 0), (0, .ref h), (1, .int 1)]) hx hb dX0_lawsFrom_35 rfl hl (by decide) rfl (fun ls hl => ?_)
  refine lv_iconst (v := (-1)) hx hb dX0_lawsFrom_36 (by decide) ?_
  refine lv_istore_n (lv' := [(3, .int (-1)), (2, .int 0), (0, .ref h), (1, .int 1)]) hx hb dX0_lawsFrom_37 rfl hl (by decide) rfl (fun ls hl => ?_)
  refine lv_iconst (v := 0) hx hb dX0_lawsFrom_38 (by decide) ?_
  refine lv_istore (lv' := [(4, .int 0), (3, .int (-1)), (2, .int 0), (0, .ref h), (1, .int 1)]) hx hb dX0_lawsFrom_39 hl (by decide) rfl (fun ls hl => ?_)
  refine lv_iload hx hb dX0_lawsFrom_41 (lv_at hl 0 rfl) ?_
  refine lv_aload_n hx hb dX0_lawsFrom_43 rfl (lv_at hl 3 rfl) ?_
  refine q_get (v := .int 0) C hP 2 10 rfl rfl inX0 (by decide) kF_RX0_43 rfl rfl dX0_lawsFrom_44 ?_
  refine lv_icmp_gt (tgt := 151) hx hb dX0_lawsFrom_47 (by decide) (fun c_0 => absurd c_0 (by decide)) (fun _ => ?_)
  refine lv_aload_n hx hb dX0_lawsFrom_50 rfl (lv_at hl 3 rfl) ?_
  refine lv_iload_n hx hb dX0_lawsFrom_51 rfl (lv_at hl 4 rfl) ?_
  refine lv_iload hx hb dX0_lawsFrom_52 (lv_at hl 0 rfl) ?_
  refine q_ai (wr := [(h2, .inl (cy 1, 3, .inl kr)), (h5, .inl (cy 1, 81, .inl (fun _ => 0)))]) (r_V (q0 := 0) (As := [.int 1, .int 0]) (rest := []) (wc := [(h, .inr (0, [.int 0, .int 0, .int (-1), .ref h0, .ref h1, .ref h2, .ref h3, .ref h4, .int 0, .ref h5, .int 0, .int 0, .int 10, .int 1, .int 0, .int 3]))]) C (q_subP hP [2] rfl) (hD.sub [2] (by decide) rfl) (c_mayChoose l D cy h 1 h0 h1 h2 h3 h4 h5 3 _ ) kwV_X0_mayChoose kM_RX0_133 rfl rfl ⟨Nat.le_of_ble_eq_true rfl, Nat.le_of_ble_eq_true rfl⟩ rfl hl.1 rfl (Nat.le_of_ble_eq_true rfl) dX0_lawsFrom_54 ⟨Nat.le_of_ble_eq_true rfl, Nat.le_of_ble_eq_true rfl⟩) C.2.2.2.2.2.2.1 hP hD hS [2] [0, 1] rfl rfl (by decide) (by decide) (fun r_5 u_4 H locs hw_6 hP hD hS => ?_)
  have hP : va_P D vwCl [(h2, .inl (cy 1, 3, .inl kr)), (h5, .inl (cy 1, 81, .inl (fun _ => 0))), (h, .inr (0, [.int 0, .int 0, .int (-1), .ref h0, .ref h1, .ref h2, .ref h3, .ref h4, .int 0, .ref h5, .int 0, .int 0, .int 10, .int 1, .int 0, .int 3]))] H := hP
  have hD : va_D A [(h2, .inl (cy 1, 3, .inl kr)), (h5, .inl (cy 1, 81, .inl (fun _ => 0))), (h, .inr (0, [.int 0, .int 0, .int (-1), .ref h0, .ref h1, .ref h2, .ref h3, .ref h4, .int 0, .ref h5, .int 0, .int 0, .int 10, .int 1, .int 0, .int 3]))] := hD
  obtain rfl : r_5 = 1 := hw_6
  refine lv_if_eq (tgt := 145) hx hb dX0_lawsFrom_57 (by decide) (fun c_0 => absurd c_0 (by decide)) (fun _ => ?_)
  refine lv_iload_n hx hb dX0_lawsFrom_60 rfl (lv_at hl 4 rfl) ?_
  refine lv_iconst (v := 1) hx hb dX0_lawsFrom_61 (by decide) ?_
  refine lv_iadd hx hb dX0_lawsFrom_62 ?_
  refine q_val (v := 2) (by decide) ?_
  refine lv_bipush (v := 9) hx hb dX0_lawsFrom_63 (by decide) ?_
  refine lv_imul hx hb dX0_lawsFrom_65 ?_
  refine q_val (v := 18) (by decide) ?_
  refine lv_iload hx hb dX0_lawsFrom_66 (lv_at hl 0 rfl) ?_
  refine lv_iadd hx hb dX0_lawsFrom_68 ?_
  refine q_val (v := 18) (by decide) ?_
  refine lv_istore (lv' := [(5, .int 18), (4, .int 0), (3, .int (-1)), (2, .int 0), (0, .ref h), (1, .int 1)]) hx hb dX0_lawsFrom_69 hl (by decide) rfl (fun ls hl => ?_)
  refine lv_aload_n hx hb dX0_lawsFrom_71 rfl (lv_at hl 4 rfl) ?_
  refine q_get (v := .ref h5) C hP 2 9 rfl rfl inX0 (by decide) kF_RX0_40 rfl rfl dX0_lawsFrom_72 ?_
  refine lv_iload hx hb dX0_lawsFrom_75 (lv_at hl 0 rfl) ?_
  refine q_iald (v := 0) C hP 1 rfl (vin (by decide +kernel)) rfl dX0_lawsFrom_77 ?_
  refine lv_istore (lv' := [(6, .int 0), (5, .int 18), (4, .int 0), (3, .int (-1)), (2, .int 0), (0, .ref h), (1, .int 1)]) hx hb dX0_lawsFrom_78 hl (by decide) rfl (fun ls hl => ?_)
  refine lv_aload_n hx hb dX0_lawsFrom_80 rfl (lv_at hl 5 rfl) ?_
  refine q_get (v := .ref h5) C hP 2 9 rfl rfl inX0 (by decide) kF_RX0_40 rfl rfl dX0_lawsFrom_81 ?_
  refine lv_iload hx hb dX0_lawsFrom_84 (lv_at hl 1 rfl) ?_
  refine lv_iconst (v := 0) hx hb dX0_lawsFrom_86 (by decide) ?_
  refine q_iast (g := fun _ => 0) (w' := [(h2, .inl (cy 1, 3, .inl kr)), (h5, .inl (cy 1, 81, .inl (fun _ => 0))), (h, .inr (0, [.int 0, .int 0, .int (-1), .ref h0, .ref h1, .ref h2, .ref h3, .ref h4, .int 0, .ref h5, .int 0, .int 0, .int 10, .int 1, .int 0, .int 3]))]) C hP hD hS 1 rfl (vin (by decide +kernel)) (updz _) rfl dX0_lawsFrom_87 (fun H locs hP hD hS => ?_)
  refine lv_aload_n hx hb dX0_lawsFrom_88 rfl (lv_at hl 5 rfl) ?_
  refine lv_iload_n hx hb dX0_lawsFrom_89 rfl (lv_at hl 6 rfl) ?_
  refine lv_iconst (v := 1) hx hb dX0_lawsFrom_90 (by decide) ?_
  refine lv_iadd hx hb dX0_lawsFrom_91 ?_
  refine q_val (v := 2) (by decide) ?_
  refine q_ai (wr := []) (r_V (q0 := 0) (As := [.int 2]) (rest := []) (wc := [(h, .inr (0, [.int 0, .int 0, .int (-1), .ref h0, .ref h1, .ref h2, .ref h3, .ref h4, .int 0, .ref h5, .int 0, .int 0, .int 10, .int 1, .int 0, .int 3])), (h2, .inl (cy 1, 3, .inl kr)), (h5, .inl (cy 1, 81, .inl (fun _ => 0)))]) C (q_subP hP [2, 0, 1] rfl) (hD.sub [2, 0, 1] (by decide) rfl) (c_laws_3_2 l D cy h h0 h1 h2 h3 h4 h5 kr _ ) kwV_X0_lawsFrom kM_RX0_136 rfl rfl ⟨Nat.le_of_ble_eq_true rfl, Nat.le_of_ble_eq_true rfl⟩ rfl hl.1 rfl (Nat.le_of_ble_eq_true rfl) dX0_lawsFrom_92 ⟨Nat.le_of_ble_eq_true rfl, Nat.le_of_ble_eq_true rfl⟩) C.2.2.2.2.2.2.1 hP hD hS [2, 0, 1] [] rfl rfl (by decide) (by decide) (fun r_8 u_7 H locs hw_9 hP hD hS => ?_)
  have hP : va_P D vwCl [(h, .inr (0, [.int 0, .int 0, .int (-1), .ref h0, .ref h1, .ref h2, .ref h3, .ref h4, .int 0, .ref h5, .int 0, .int 0, .int 10, .int 1, .int 0, .int 3])), (h2, .inl (cy 1, 3, .inl u_7)), (h5, .inl (cy 1, 81, .inl (fun _ => 0)))] H := hP
  have hD : va_D A [(h, .inr (0, [.int 0, .int 0, .int (-1), .ref h0, .ref h1, .ref h2, .ref h3, .ref h4, .int 0, .ref h5, .int 0, .int 0, .int 10, .int 1, .int 0, .int 3])), (h2, .inl (cy 1, 3, .inl u_7)), (h5, .inl (cy 1, 81, .inl (fun _ => 0)))] := hD
  obtain rfl : r_8 = 0 := hw_9
  refine lv_istore (lv' := [(7, .int 0), (6, .int 0), (5, .int 18), (4, .int 0), (3, .int (-1)), (2, .int 0), (0, .ref h), (1, .int 1)]) hx hb dX0_lawsFrom_95 hl (by decide) rfl (fun ls hl => ?_)
  refine lv_aload_n hx hb dX0_lawsFrom_97 rfl (lv_at hl 6 rfl) ?_
  refine q_get (v := .ref h5) C hP 0 9 rfl rfl inX0 (by decide) kF_RX0_40 rfl rfl dX0_lawsFrom_98 ?_
  refine lv_iload hx hb dX0_lawsFrom_101 (lv_at hl 2 rfl) ?_
  refine lv_iload hx hb dX0_lawsFrom_103 (lv_at hl 1 rfl) ?_
  refine q_iast (g := fun _ => 0) (w' := [(h, .inr (0, [.int 0, .int 0, .int (-1), .ref h0, .ref h1, .ref h2, .ref h3, .ref h4, .int 0, .ref h5, .int 0, .int 0, .int 10, .int 1, .int 0, .int 3])), (h2, .inl (cy 1, 3, .inl u_7)), (h5, .inl (cy 1, 81, .inl (fun _ => 0)))]) C hP hD hS 2 rfl (vin (by decide +kernel)) (updz _) rfl dX0_lawsFrom_105 (fun H locs hP hD hS => ?_)
  refine lv_iload_n hx hb dX0_lawsFrom_106 rfl (lv_at hl 4 rfl) ?_
  refine lv_iconst (v := (-1)) hx hb dX0_lawsFrom_107 (by decide) ?_
  refine lv_icmp_eq (tgt := 130) hx hb dX0_lawsFrom_108 (by decide) (fun _ => ?_) (fun c_0 => absurd (by decide) c_0)
  refine lv_iload hx hb dX0_lawsFrom_130 (lv_at hl 0 rfl) ?_
  refine lv_istore_n (lv' := [(3, .int 0), (7, .int 0), (6, .int 0), (5, .int 18), (4, .int 0), (2, .int 0), (0, .ref h), (1, .int 1)]) hx hb dX0_lawsFrom_132 rfl hl (by decide) rfl (fun ls hl => ?_)
  refine lv_aload_n hx hb dX0_lawsFrom_133 rfl (lv_at hl 6 rfl) ?_
  refine q_get (v := .ref h2) C hP 0 5 rfl rfl inX0 (by decide) kF_RX0_28 rfl rfl dX0_lawsFrom_134 ?_
  refine lv_iload_n hx hb dX0_lawsFrom_137 rfl (lv_at hl 7 rfl) ?_
  refine lv_aload_n hx hb dX0_lawsFrom_138 rfl (lv_at hl 6 rfl) ?_
  refine lv_iload hx hb dX0_lawsFrom_139 (lv_at hl 4 rfl) ?_
  refine q_ai (wr := [(h2, .inl (cy 1, 3, .inl u_7)), (h5, .inl (cy 1, 81, .inl (fun _ => 0)))]) (r_V (q0 := 0) (As := [.int 0]) (rest := [.int 1, .ref h2]) (wc := [(h, .inr (0, [.int 0, .int 0, .int (-1), .ref h0, .ref h1, .ref h2, .ref h3, .ref h4, .int 0, .ref h5, .int 0, .int 0, .int 10, .int 1, .int 0, .int 3]))]) C (q_subP hP [0] rfl) (hD.sub [0] (by decide) rfl) (c_bookChosen l D cy h h0 h1 h2 h3 h4 h5 3 _ ) kwV_X0_bookChosen kM_RX0_110 rfl rfl ⟨Nat.le_of_ble_eq_true rfl, Nat.le_of_ble_eq_true rfl⟩ rfl hl.1 rfl (Nat.le_of_ble_eq_true rfl) dX0_lawsFrom_141 ⟨Nat.le_of_ble_eq_true rfl, Nat.le_of_ble_eq_true rfl⟩) C.2.2.2.2.2.2.1 hP hD hS [0] [1, 2] rfl rfl (by decide) (by decide) (fun r_11 u_10 H locs hw_12 hP hD hS => ?_)
  have hP : va_P D vwCl [(h2, .inl (cy 1, 3, .inl u_7)), (h5, .inl (cy 1, 81, .inl (fun _ => 0))), (h, .inr (0, [.int 0, .int 0, .int (-1), .ref h0, .ref h1, .ref h2, .ref h3, .ref h4, .int 0, .ref h5, .int 0, .int 0, .int 10, .int 1, .int 0, .int 3]))] H := hP
  have hD : va_D A [(h2, .inl (cy 1, 3, .inl u_7)), (h5, .inl (cy 1, 81, .inl (fun _ => 0))), (h, .inr (0, [.int 0, .int 0, .int (-1), .ref h0, .ref h1, .ref h2, .ref h3, .ref h4, .int 0, .ref h5, .int 0, .int 0, .int 10, .int 1, .int 0, .int 3]))] := hD
  obtain rfl : r_11 = (-1) := hw_12
  refine q_iast (g := upd u_7 1 (-1)) (w' := [(h2, .inl (cy 1, 3, .inl (upd u_7 1 (-1)))), (h5, .inl (cy 1, 81, .inl (fun _ => 0))), (h, .inr (0, [.int 0, .int 0, .int (-1), .ref h0, .ref h1, .ref h2, .ref h3, .ref h4, .int 0, .ref h5, .int 0, .int 0, .int 10, .int 1, .int 0, .int 3]))]) C hP hD hS 0 rfl (vin (by decide +kernel)) rfl rfl dX0_lawsFrom_144 (fun H locs hP hD hS => ?_)
  refine lv_iinc (v := 1) (lv' := [(4, .int 1), (3, .int 0), (7, .int 0), (6, .int 0), (5, .int 18), (2, .int 0), (0, .ref h), (1, .int 1)]) hx hb dX0_lawsFrom_145 hl (k := 4) rfl (by decide) (by decide) rfl (fun ls hl => ?_)
  refine lv_goto (tgt := 41) hx hb dX0_lawsFrom_148 (by decide) ?_
  refine lv_iload hx hb dX0_lawsFrom_41 (lv_at hl 0 rfl) ?_
  refine lv_aload_n hx hb dX0_lawsFrom_43 rfl (lv_at hl 6 rfl) ?_
  refine q_get (v := .int 0) C hP 2 10 rfl rfl inX0 (by decide) kF_RX0_43 rfl rfl dX0_lawsFrom_44 ?_
  refine lv_icmp_gt (tgt := 151) hx hb dX0_lawsFrom_47 (by decide) (fun _ => ?_) (fun c_0 => absurd (by decide) c_0)
  refine lv_iload_n hx hb dX0_lawsFrom_151 rfl (lv_at hl 1 rfl) ?_
  exact q_iret (rm := (Rm 3 77 0 0)) C hS (upd u_7 1 (-1)) rfl rfl (q_subP hP [2, 0, 1] rfl) (hD.sub [2, 0, 1] (by decide) rfl) (Nat.le_of_ble_eq_true rfl) (Nat.le_of_ble_eq_true rfl) dX0_lawsFrom_152
set_option maxHeartbeats 4000000 in
set_option maxRecDepth 100000 in
theorem c_laws_3_0 (l : Launch) (D : va_G) (cy : Nat → ClassId) (h : Nat) (h0 : Nat) (h1 : Nat) (h2 : Nat) (h3 : Nat) (h4 : Nat) (h5 : Nat) (kr : Nat → Int32) (sz : Nat)  : MI l yX0_lawsFrom cX0_lawsFrom 8 (some .int) (Rm 4 104 0 0) D cy [.ref h, .int 0] sz [(h, .inr (0, [.int 0, .int 0, .int (-1), .ref h0, .ref h1, .ref h2, .ref h3, .ref h4, .int 0, .ref h5, .int 0, .int 0, .int 10, .int 1, .int 0, .int 3])), (h2, .inl (cy 1, 3, .inl kr)), (h5, .inl (cy 1, 81, .inl (fun _ => 0)))] (fun (r : Int32) (u : Nat → Int32) => r = 0) (fun u : Nat → Int32 => [(h, .inr (0, [.int 0, .int 0, .int (-1), .ref h0, .ref h1, .ref h2, .ref h3, .ref h4, .int 0, .ref h5, .int 0, .int 0, .int 10, .int 1, .int 0, .int 3])), (h2, .inl (cy 1, 3, .inl u)), (h5, .inl (cy 1, 81, .inl (fun _ => 0)))]) := by
  refine MI.enter (by decide) (Nat.le_of_ble_eq_true rfl) ?_
  intro p e s m below meth c ls A hsz hAe C hP hD hS hl
  have C : Cx p s m _ meth c cX0_lawsFrom 8 (some .int) RX0 "lawsFrom" D cy A := C
  have hx := C.1
  have hb := C.2.1
  have hl : lv_has ls 8 [(0, .ref h), (1, .int 0)] := hl
  refine lv_iload_n hx hb dX0_lawsFrom_0 rfl (lv_at hl 1 rfl) ?_
  refine lv_aload_n hx hb dX0_lawsFrom_1 rfl (lv_at hl 0 rfl) ?_
  refine q_get (v := .int 3) C hP 0 15 rfl rfl inX0 (by decide) kF_RX0_58 rfl rfl dX0_lawsFrom_2 ?_
  refine lv_icmp_ge (tgt := 13) hx hb dX0_lawsFrom_5 (by decide) (fun c_0 => absurd c_0 (by decide)) (fun _ => ?_)
  refine lv_iload_n hx hb dX0_lawsFrom_8 rfl (lv_at hl 1 rfl) ?_
  refine lv_iconst (v := 3) hx hb dX0_lawsFrom_9 (by decide) ?_
  refine lv_icmp_lt (tgt := 19) hx hb dX0_lawsFrom_10 (by decide) (fun _ => ?_) (fun c_0 => absurd (by decide) c_0)
  refine lv_aload_n hx hb dX0_lawsFrom_19 rfl (lv_at hl 0 rfl) ?_
  refine lv_iload_n hx hb dX0_lawsFrom_20 rfl (lv_at hl 1 rfl) ?_
  refine q_av (wr := [(h2, .inl (cy 1, 3, .inl kr)), (h5, .inl (cy 1, 81, .inl (fun _ => 0)))]) (r_V (q0 := 0) (As := [.int 0]) (rest := []) (wc := [(h, .inr (0, [.int 0, .int 0, .int (-1), .ref h0, .ref h1, .ref h2, .ref h3, .ref h4, .int 0, .ref h5, .int 0, .int 0, .int 10, .int 1, .int 0, .int 3]))]) C (q_subP hP [0] rfl) (hD.sub [0] (by decide) rfl) (c_passDay l D cy h 0 h0 h1 h2 h3 h4 h5 3 _ ) kwV_X0_passDay kM_RX0_102 rfl rfl ⟨Nat.le_of_ble_eq_true rfl, Nat.le_of_ble_eq_true rfl⟩ rfl hl.1 rfl (Nat.le_of_ble_eq_true rfl) dX0_lawsFrom_21 ⟨Nat.le_of_ble_eq_true rfl, Nat.le_of_ble_eq_true rfl⟩) C.2.2.2.2.2.2.1 hP hD hS [0] [1, 2] rfl rfl (by decide) (by decide) (fun u_1 H locs hw_3 hP hD hS => ?_)
  have hP : va_P D vwCl [(h2, .inl (cy 1, 3, .inl kr)), (h5, .inl (cy 1, 81, .inl (fun _ => 0))), (h, .inr (0, [.int 0, .int 0, .int (-1), .ref h0, .ref h1, .ref h2, .ref h3, .ref h4, .int 0, .ref h5, .int 0, .int 0, .int 10, .int 1, .int 0, .int 3]))] H := hP
  have hD : va_D A [(h2, .inl (cy 1, 3, .inl kr)), (h5, .inl (cy 1, 81, .inl (fun _ => 0))), (h, .inr (0, [.int 0, .int 0, .int (-1), .ref h0, .ref h1, .ref h2, .ref h3, .ref h4, .int 0, .ref h5, .int 0, .int 0, .int 10, .int 1, .int 0, .int 3]))] := hD
  refine lv_iload_n hx hb dX0_lawsFrom_24 rfl (lv_at hl 1 rfl) ?_
  refine lv_iconst (v := 2) hx hb dX0_lawsFrom_25 (by decide) ?_
  refine lv_irem hx hb dX0_lawsFrom_26 (by decide) ?_
  refine q_val (v := 0) (by decide) ?_
  refine lv_if_ne (tgt := 34) hx hb dX0_lawsFrom_27 (by decide) (fun c_0 => absurd (by decide) c_0) (fun _ => ?_)
  refine lv_iconst (v := 1) hx hb dX0_lawsFrom_30 (by decide) ?_
  refine lv_goto (tgt := 35) hx hb dX0_lawsFrom_31 (by decide) ?_
  refine lv_istore_n (lv' := [(2, .int 1), (0, .ref h), (1, .int 0)]) hx hb dX0_lawsFrom_35 rfl hl (by decide) rfl (fun ls hl => ?_)
  refine lv_iconst (v := (-1)) hx hb dX0_lawsFrom_36 (by decide) ?_
  refine lv_istore_n (lv' := [(3, .int (-1)), (2, .int 1), (0, .ref h), (1, .int 0)]) hx hb dX0_lawsFrom_37 rfl hl (by decide) rfl (fun ls hl => ?_)
  refine lv_iconst (v := 0) hx hb dX0_lawsFrom_38 (by decide) ?_
  refine lv_istore (lv' := [(4, .int 0), (3, .int (-1)), (2, .int 1), (0, .ref h), (1, .int 0)]) hx hb dX0_lawsFrom_39 hl (by decide) rfl (fun ls hl => ?_)
  refine lv_iload hx hb dX0_lawsFrom_41 (lv_at hl 0 rfl) ?_
  refine lv_aload_n hx hb dX0_lawsFrom_43 rfl (lv_at hl 3 rfl) ?_
  refine q_get (v := .int 0) C hP 2 10 rfl rfl inX0 (by decide) kF_RX0_43 rfl rfl dX0_lawsFrom_44 ?_
  refine lv_icmp_gt (tgt := 151) hx hb dX0_lawsFrom_47 (by decide) (fun c_0 => absurd c_0 (by decide)) (fun _ => ?_)
  refine lv_aload_n hx hb dX0_lawsFrom_50 rfl (lv_at hl 3 rfl) ?_
  refine lv_iload_n hx hb dX0_lawsFrom_51 rfl (lv_at hl 4 rfl) ?_
  refine lv_iload hx hb dX0_lawsFrom_52 (lv_at hl 0 rfl) ?_
  refine q_ai (wr := [(h2, .inl (cy 1, 3, .inl kr)), (h5, .inl (cy 1, 81, .inl (fun _ => 0)))]) (r_V (q0 := 0) (As := [.int 0, .int 0]) (rest := []) (wc := [(h, .inr (0, [.int 0, .int 0, .int (-1), .ref h0, .ref h1, .ref h2, .ref h3, .ref h4, .int 0, .ref h5, .int 0, .int 0, .int 10, .int 1, .int 0, .int 3]))]) C (q_subP hP [2] rfl) (hD.sub [2] (by decide) rfl) (c_mayChoose l D cy h 0 h0 h1 h2 h3 h4 h5 3 _ ) kwV_X0_mayChoose kM_RX0_133 rfl rfl ⟨Nat.le_of_ble_eq_true rfl, Nat.le_of_ble_eq_true rfl⟩ rfl hl.1 rfl (Nat.le_of_ble_eq_true rfl) dX0_lawsFrom_54 ⟨Nat.le_of_ble_eq_true rfl, Nat.le_of_ble_eq_true rfl⟩) C.2.2.2.2.2.2.1 hP hD hS [2] [0, 1] rfl rfl (by decide) (by decide) (fun r_5 u_4 H locs hw_6 hP hD hS => ?_)
  have hP : va_P D vwCl [(h2, .inl (cy 1, 3, .inl kr)), (h5, .inl (cy 1, 81, .inl (fun _ => 0))), (h, .inr (0, [.int 0, .int 0, .int (-1), .ref h0, .ref h1, .ref h2, .ref h3, .ref h4, .int 0, .ref h5, .int 0, .int 0, .int 10, .int 1, .int 0, .int 3]))] H := hP
  have hD : va_D A [(h2, .inl (cy 1, 3, .inl kr)), (h5, .inl (cy 1, 81, .inl (fun _ => 0))), (h, .inr (0, [.int 0, .int 0, .int (-1), .ref h0, .ref h1, .ref h2, .ref h3, .ref h4, .int 0, .ref h5, .int 0, .int 0, .int 10, .int 1, .int 0, .int 3]))] := hD
  obtain rfl : r_5 = 1 := hw_6
  refine lv_if_eq (tgt := 145) hx hb dX0_lawsFrom_57 (by decide) (fun c_0 => absurd c_0 (by decide)) (fun _ => ?_)
  refine lv_iload_n hx hb dX0_lawsFrom_60 rfl (lv_at hl 4 rfl) ?_
  refine lv_iconst (v := 1) hx hb dX0_lawsFrom_61 (by decide) ?_
  refine lv_iadd hx hb dX0_lawsFrom_62 ?_
  refine q_val (v := 1) (by decide) ?_
  refine lv_bipush (v := 9) hx hb dX0_lawsFrom_63 (by decide) ?_
  refine lv_imul hx hb dX0_lawsFrom_65 ?_
  refine q_val (v := 9) (by decide) ?_
  refine lv_iload hx hb dX0_lawsFrom_66 (lv_at hl 0 rfl) ?_
  refine lv_iadd hx hb dX0_lawsFrom_68 ?_
  refine q_val (v := 9) (by decide) ?_
  refine lv_istore (lv' := [(5, .int 9), (4, .int 0), (3, .int (-1)), (2, .int 1), (0, .ref h), (1, .int 0)]) hx hb dX0_lawsFrom_69 hl (by decide) rfl (fun ls hl => ?_)
  refine lv_aload_n hx hb dX0_lawsFrom_71 rfl (lv_at hl 4 rfl) ?_
  refine q_get (v := .ref h5) C hP 2 9 rfl rfl inX0 (by decide) kF_RX0_40 rfl rfl dX0_lawsFrom_72 ?_
  refine lv_iload hx hb dX0_lawsFrom_75 (lv_at hl 0 rfl) ?_
  refine q_iald (v := 0) C hP 1 rfl (vin (by decide +kernel)) rfl dX0_lawsFrom_77 ?_
  refine lv_istore (lv' := [(6, .int 0), (5, .int 9), (4, .int 0), (3, .int (-1)), (2, .int 1), (0, .ref h), (1, .int 0)]) hx hb dX0_lawsFrom_78 hl (by decide) rfl (fun ls hl => ?_)
  refine lv_aload_n hx hb dX0_lawsFrom_80 rfl (lv_at hl 5 rfl) ?_
  refine q_get (v := .ref h5) C hP 2 9 rfl rfl inX0 (by decide) kF_RX0_40 rfl rfl dX0_lawsFrom_81 ?_
  refine lv_iload hx hb dX0_lawsFrom_84 (lv_at hl 1 rfl) ?_
  refine lv_iconst (v := 0) hx hb dX0_lawsFrom_86 (by decide) ?_
  refine q_iast (g := fun _ => 0) (w' := [(h2, .inl (cy 1, 3, .inl kr)), (h5, .inl (cy 1, 81, .inl (fun _ => 0))), (h, .inr (0, [.int 0, .int 0, .int (-1), .ref h0, .ref h1, .ref h2, .ref h3, .ref h4, .int 0, .ref h5, .int 0, .int 0, .int 10, .int 1, .int 0, .int 3]))]) C hP hD hS 1 rfl (vin (by decide +kernel)) (updz _) rfl dX0_lawsFrom_87 (fun H locs hP hD hS => ?_)
  refine lv_aload_n hx hb dX0_lawsFrom_88 rfl (lv_at hl 5 rfl) ?_
  refine lv_iload_n hx hb dX0_lawsFrom_89 rfl (lv_at hl 6 rfl) ?_
  refine lv_iconst (v := 1) hx hb dX0_lawsFrom_90 (by decide) ?_
  refine lv_iadd hx hb dX0_lawsFrom_91 ?_
  refine q_val (v := 1) (by decide) ?_
  refine q_ai (wr := []) (r_V (q0 := 0) (As := [.int 1]) (rest := []) (wc := [(h, .inr (0, [.int 0, .int 0, .int (-1), .ref h0, .ref h1, .ref h2, .ref h3, .ref h4, .int 0, .ref h5, .int 0, .int 0, .int 10, .int 1, .int 0, .int 3])), (h2, .inl (cy 1, 3, .inl kr)), (h5, .inl (cy 1, 81, .inl (fun _ => 0)))]) C (q_subP hP [2, 0, 1] rfl) (hD.sub [2, 0, 1] (by decide) rfl) (c_laws_3_1 l D cy h h0 h1 h2 h3 h4 h5 kr _ ) kwV_X0_lawsFrom kM_RX0_136 rfl rfl ⟨Nat.le_of_ble_eq_true rfl, Nat.le_of_ble_eq_true rfl⟩ rfl hl.1 rfl (Nat.le_of_ble_eq_true rfl) dX0_lawsFrom_92 ⟨Nat.le_of_ble_eq_true rfl, Nat.le_of_ble_eq_true rfl⟩) C.2.2.2.2.2.2.1 hP hD hS [2, 0, 1] [] rfl rfl (by decide) (by decide) (fun r_8 u_7 H locs hw_9 hP hD hS => ?_)
  have hP : va_P D vwCl [(h, .inr (0, [.int 0, .int 0, .int (-1), .ref h0, .ref h1, .ref h2, .ref h3, .ref h4, .int 0, .ref h5, .int 0, .int 0, .int 10, .int 1, .int 0, .int 3])), (h2, .inl (cy 1, 3, .inl u_7)), (h5, .inl (cy 1, 81, .inl (fun _ => 0)))] H := hP
  have hD : va_D A [(h, .inr (0, [.int 0, .int 0, .int (-1), .ref h0, .ref h1, .ref h2, .ref h3, .ref h4, .int 0, .ref h5, .int 0, .int 0, .int 10, .int 1, .int 0, .int 3])), (h2, .inl (cy 1, 3, .inl u_7)), (h5, .inl (cy 1, 81, .inl (fun _ => 0)))] := hD
  obtain rfl : r_8 = 0 := hw_9
  refine lv_istore (lv' := [(7, .int 0), (6, .int 0), (5, .int 9), (4, .int 0), (3, .int (-1)), (2, .int 1), (0, .ref h), (1, .int 0)]) hx hb dX0_lawsFrom_95 hl (by decide) rfl (fun ls hl => ?_)
  refine lv_aload_n hx hb dX0_lawsFrom_97 rfl (lv_at hl 6 rfl) ?_
  refine q_get (v := .ref h5) C hP 0 9 rfl rfl inX0 (by decide) kF_RX0_40 rfl rfl dX0_lawsFrom_98 ?_
  refine lv_iload hx hb dX0_lawsFrom_101 (lv_at hl 2 rfl) ?_
  refine lv_iload hx hb dX0_lawsFrom_103 (lv_at hl 1 rfl) ?_
  refine q_iast (g := fun _ => 0) (w' := [(h, .inr (0, [.int 0, .int 0, .int (-1), .ref h0, .ref h1, .ref h2, .ref h3, .ref h4, .int 0, .ref h5, .int 0, .int 0, .int 10, .int 1, .int 0, .int 3])), (h2, .inl (cy 1, 3, .inl u_7)), (h5, .inl (cy 1, 81, .inl (fun _ => 0)))]) C hP hD hS 2 rfl (vin (by decide +kernel)) (updz _) rfl dX0_lawsFrom_105 (fun H locs hP hD hS => ?_)
  refine lv_iload_n hx hb dX0_lawsFrom_106 rfl (lv_at hl 4 rfl) ?_
  refine lv_iconst (v := (-1)) hx hb dX0_lawsFrom_107 (by decide) ?_
  refine lv_icmp_eq (tgt := 130) hx hb dX0_lawsFrom_108 (by decide) (fun _ => ?_) (fun c_0 => absurd (by decide) c_0)
  refine lv_iload hx hb dX0_lawsFrom_130 (lv_at hl 0 rfl) ?_
  refine lv_istore_n (lv' := [(3, .int 0), (7, .int 0), (6, .int 0), (5, .int 9), (4, .int 0), (2, .int 1), (0, .ref h), (1, .int 0)]) hx hb dX0_lawsFrom_132 rfl hl (by decide) rfl (fun ls hl => ?_)
  refine lv_aload_n hx hb dX0_lawsFrom_133 rfl (lv_at hl 6 rfl) ?_
  refine q_get (v := .ref h2) C hP 0 5 rfl rfl inX0 (by decide) kF_RX0_28 rfl rfl dX0_lawsFrom_134 ?_
  refine lv_iload_n hx hb dX0_lawsFrom_137 rfl (lv_at hl 7 rfl) ?_
  refine lv_aload_n hx hb dX0_lawsFrom_138 rfl (lv_at hl 6 rfl) ?_
  refine lv_iload hx hb dX0_lawsFrom_139 (lv_at hl 4 rfl) ?_
  refine q_ai (wr := [(h2, .inl (cy 1, 3, .inl u_7)), (h5, .inl (cy 1, 81, .inl (fun _ => 0)))]) (r_V (q0 := 0) (As := [.int 0]) (rest := [.int 0, .ref h2]) (wc := [(h, .inr (0, [.int 0, .int 0, .int (-1), .ref h0, .ref h1, .ref h2, .ref h3, .ref h4, .int 0, .ref h5, .int 0, .int 0, .int 10, .int 1, .int 0, .int 3]))]) C (q_subP hP [0] rfl) (hD.sub [0] (by decide) rfl) (c_bookChosen l D cy h h0 h1 h2 h3 h4 h5 3 _ ) kwV_X0_bookChosen kM_RX0_110 rfl rfl ⟨Nat.le_of_ble_eq_true rfl, Nat.le_of_ble_eq_true rfl⟩ rfl hl.1 rfl (Nat.le_of_ble_eq_true rfl) dX0_lawsFrom_141 ⟨Nat.le_of_ble_eq_true rfl, Nat.le_of_ble_eq_true rfl⟩) C.2.2.2.2.2.2.1 hP hD hS [0] [1, 2] rfl rfl (by decide) (by decide) (fun r_11 u_10 H locs hw_12 hP hD hS => ?_)
  have hP : va_P D vwCl [(h2, .inl (cy 1, 3, .inl u_7)), (h5, .inl (cy 1, 81, .inl (fun _ => 0))), (h, .inr (0, [.int 0, .int 0, .int (-1), .ref h0, .ref h1, .ref h2, .ref h3, .ref h4, .int 0, .ref h5, .int 0, .int 0, .int 10, .int 1, .int 0, .int 3]))] H := hP
  have hD : va_D A [(h2, .inl (cy 1, 3, .inl u_7)), (h5, .inl (cy 1, 81, .inl (fun _ => 0))), (h, .inr (0, [.int 0, .int 0, .int (-1), .ref h0, .ref h1, .ref h2, .ref h3, .ref h4, .int 0, .ref h5, .int 0, .int 0, .int 10, .int 1, .int 0, .int 3]))] := hD
  obtain rfl : r_11 = (-1) := hw_12
  refine q_iast (g := upd u_7 0 (-1)) (w' := [(h2, .inl (cy 1, 3, .inl (upd u_7 0 (-1)))), (h5, .inl (cy 1, 81, .inl (fun _ => 0))), (h, .inr (0, [.int 0, .int 0, .int (-1), .ref h0, .ref h1, .ref h2, .ref h3, .ref h4, .int 0, .ref h5, .int 0, .int 0, .int 10, .int 1, .int 0, .int 3]))]) C hP hD hS 0 rfl (vin (by decide +kernel)) rfl rfl dX0_lawsFrom_144 (fun H locs hP hD hS => ?_)
  refine lv_iinc (v := 1) (lv' := [(4, .int 1), (3, .int 0), (7, .int 0), (6, .int 0), (5, .int 9), (2, .int 1), (0, .ref h), (1, .int 0)]) hx hb dX0_lawsFrom_145 hl (k := 4) rfl (by decide) (by decide) rfl (fun ls hl => ?_)
  refine lv_goto (tgt := 41) hx hb dX0_lawsFrom_148 (by decide) ?_
  refine lv_iload hx hb dX0_lawsFrom_41 (lv_at hl 0 rfl) ?_
  refine lv_aload_n hx hb dX0_lawsFrom_43 rfl (lv_at hl 6 rfl) ?_
  refine q_get (v := .int 0) C hP 2 10 rfl rfl inX0 (by decide) kF_RX0_43 rfl rfl dX0_lawsFrom_44 ?_
  refine lv_icmp_gt (tgt := 151) hx hb dX0_lawsFrom_47 (by decide) (fun _ => ?_) (fun c_0 => absurd (by decide) c_0)
  refine lv_iload_n hx hb dX0_lawsFrom_151 rfl (lv_at hl 1 rfl) ?_
  exact q_iret (rm := (Rm 4 104 0 0)) C hS (upd u_7 0 (-1)) rfl rfl (q_subP hP [2, 0, 1] rfl) (hD.sub [2, 0, 1] (by decide) rfl) (Nat.le_of_ble_eq_true rfl) (Nat.le_of_ble_eq_true rfl) dX0_lawsFrom_152
set_option maxHeartbeats 4000000 in
set_option maxRecDepth 100000 in
theorem c_play_3 (l : Launch) (D : va_G) (cy : Nat → ClassId) (h : Nat) (h0 : Nat) (h1 : Nat) (h2 : Nat) (h3 : Nat) (h4 : Nat) (h5 : Nat) (kr : Nat → Int32) (sz : Nat)  : MI l yX0_playTurns cX0_playTurns 2 (some .int) (Rm 5 131 0 0) D cy [.ref h] sz [(h, .inr (0, [.int 0, .int 0, .int (-1), .ref h0, .ref h1, .ref h2, .ref h3, .ref h4, .int 0, .ref h5, .int 0, .int 0, .int 10, .int 1, .int 0, .int 3])), (h2, .inl (cy 1, 3, .inl kr)), (h5, .inl (cy 1, 81, .inl (fun _ => 0)))] (fun (r : Int32) (u : Unit) => r = 0) (fun u : Unit => []) := by
  refine MI.enter (by decide) (Nat.le_of_ble_eq_true rfl) ?_
  intro p e s m below meth c ls A hsz hAe C hP hD hS hl
  have C : Cx p s m _ meth c cX0_playTurns 2 (some .int) RX0 "playTurns" D cy A := C
  have hx := C.1
  have hb := C.2.1
  have hl : lv_has ls 2 [(0, .ref h)] := hl
  refine lv_aload_n hx hb dX0_playTurns_0 rfl (lv_at hl 0 rfl) ?_
  refine lv_iconst (v := 0) hx hb dX0_playTurns_1 (by decide) ?_
  refine q_ai (wr := []) (r_V (q0 := 0) (As := [.int 0]) (rest := []) (wc := [(h, .inr (0, [.int 0, .int 0, .int (-1), .ref h0, .ref h1, .ref h2, .ref h3, .ref h4, .int 0, .ref h5, .int 0, .int 0, .int 10, .int 1, .int 0, .int 3])), (h2, .inl (cy 1, 3, .inl kr)), (h5, .inl (cy 1, 81, .inl (fun _ => 0)))]) C (q_subP hP [0, 1, 2] rfl) (hD.sub [0, 1, 2] (by decide) rfl) (c_laws_3_0 l D cy h h0 h1 h2 h3 h4 h5 kr _ ) kwV_X0_lawsFrom kM_RX0_136 rfl rfl ⟨Nat.le_of_ble_eq_true rfl, Nat.le_of_ble_eq_true rfl⟩ rfl hl.1 rfl (Nat.le_of_ble_eq_true rfl) dX0_playTurns_2 ⟨Nat.le_of_ble_eq_true rfl, Nat.le_of_ble_eq_true rfl⟩) C.2.2.2.2.2.2.1 hP hD hS [0, 1, 2] [] rfl rfl (by decide) (by decide) (fun r_2 u_1 H locs hw_3 hP hD hS => ?_)
  have hP : va_P D vwCl [(h, .inr (0, [.int 0, .int 0, .int (-1), .ref h0, .ref h1, .ref h2, .ref h3, .ref h4, .int 0, .ref h5, .int 0, .int 0, .int 10, .int 1, .int 0, .int 3])), (h2, .inl (cy 1, 3, .inl u_1)), (h5, .inl (cy 1, 81, .inl (fun _ => 0)))] H := hP
  have hD : va_D A [(h, .inr (0, [.int 0, .int 0, .int (-1), .ref h0, .ref h1, .ref h2, .ref h3, .ref h4, .int 0, .ref h5, .int 0, .int 0, .int 10, .int 1, .int 0, .int 3])), (h2, .inl (cy 1, 3, .inl u_1)), (h5, .inl (cy 1, 81, .inl (fun _ => 0)))] := hD
  obtain rfl : r_2 = 0 := hw_3
  refine lv_istore_n (lv' := [(1, .int 0), (0, .ref h)]) hx hb dX0_playTurns_5 rfl hl (by decide) rfl (fun ls hl => ?_)
  refine lv_aload_n hx hb dX0_playTurns_6 rfl (lv_at hl 1 rfl) ?_
  refine lv_aload_n hx hb dX0_playTurns_7 rfl (lv_at hl 1 rfl) ?_
  refine q_get (v := .ref h2) C hP 0 5 rfl rfl inX0 (by decide) kF_RX0_28 rfl rfl dX0_playTurns_8 ?_
  refine lv_iconst (v := 0) hx hb dX0_playTurns_11 (by decide) ?_
  refine q_iald (v := (u_1 0)) C hP 1 rfl (vin (by decide +kernel)) rfl dX0_playTurns_12 ?_
  refine q_put (v := .int (u_1 0)) (w' := [(h, .inr (0, [.int 0, .int 0, .int (u_1 0), .ref h0, .ref h1, .ref h2, .ref h3, .ref h4, .int 0, .ref h5, .int 0, .int 0, .int 10, .int 1, .int 0, .int 3])), (h2, .inl (cy 1, 3, .inl u_1)), (h5, .inl (cy 1, 81, .inl (fun _ => 0)))]) (ty := .int) C hP hD hS 0 2 rfl rfl inX0 tyX0 tyX0_ok nmX0 (by decide) kF_RX0_18 rfl rfl rfl rfl rfl (Nat.le_of_ble_eq_true rfl) rfl dX0_playTurns_13 (fun H locs hP hD hS => ?_)
  refine lv_iload_n hx hb dX0_playTurns_16 rfl (lv_at hl 0 rfl) ?_
  exact q_iret (rm := (Rm 5 131 0 0)) C hS () rfl rfl (q_subP hP [] rfl) (hD.sub [] (by decide) rfl) (Nat.le_of_ble_eq_true rfl) (Nat.le_of_ble_eq_true rfl) dX0_playTurns_17
set_option maxHeartbeats 4000000 in
set_option maxRecDepth 100000 in
theorem x_turns (l : Launch) (D : va_G) (cy : Nat → ClassId) (h : Nat) (n : Int32) (ta : Nat) (pl : Nat) (sh : Nat) (tr : Nat) (fo : Nat) (li : Nat) (sp : Nat) (dr : Nat) (pa : Nat) (im : Nat) (fs : Nat) (ph : Nat) (cd : Nat) (pl0 : Nat) (pl1 : Nat) (pl2 : Nat) (sh0 : Nat) (sh1 : Nat) (sh2 : Nat) (sh3 : Nat) (sh4 : Nat) (sh5 : Nat) (fs0 : Nat) (fs1 : Nat) (fs2 : Nat) (fs3 : Nat) (fs4 : Nat) (fs5 : Nat) (sz : Nat)  : MI l yX10_turns cX10_turns 2 (some .int) (Rm 6 152 0 0) D cy [.ref h, .int n] sz [(h, .inr (10, [.ref ta, .ref pl, .ref sh, .ref tr, .ref fo, .ref li, .ref sp, .ref dr, .ref pa, .ref im, .ref fs, .ref ph, .ref cd, .int 0, .int 0])), (pl, .inr (6, [.int 4, .int 4, .int 10, .int 1, .int 3, .int 0, .int 0, .int 0, .ref pl0, .ref pl1, .ref pl2])), (sh, .inr (8, [.ref sh0, .ref sh1, .ref sh2, .ref sh3, .ref sh4, .int 0, .int 0, .ref sh5])), (sh2, .inl (cy 1, 8, .inl (fun _ => 0))), (fs, .inr (0, [.int 0, .int 0, .int (-1), .ref fs0, .ref fs1, .ref fs2, .ref fs3, .ref fs4, .int 0, .ref fs5, .int 0, .int 0, .int 1, .int 1, .int 0, .int 0])), (fs2, .inl (cy 1, 3, .inl (fun _ => 0))), (fs5, .inl (cy 1, 81, .inl (fun _ => 0)))] (fun (r : Int32) (u : Unit) => r = (rTurns n)) (fun u : Unit => []) := by
  refine MI.enter (by decide) (Nat.le_of_ble_eq_true rfl) ?_
  intro p e s m below meth c ls A hsz hAe C hP hD hS hl
  have C : Cx p s m _ meth c cX10_turns 2 (some .int) RX10 "turns" D cy A := C
  have hx := C.1
  have hb := C.2.1
  have hl : lv_has ls 2 [(0, .ref h), (1, .int n)] := hl
  refine lv_iload_n hx hb dX10_turns_0 rfl (lv_at hl 1 rfl) ?_
  refine lv_iconst (v := 1) hx hb dX10_turns_1 (by decide) ?_
  refine lv_icmp_lt (tgt := 21) hx hb dX10_turns_2 (by decide) (fun c_1 => ?_) (fun c_1 => ?_)
  · refine lv_iconst (v := (-1)) hx hb dX10_turns_21 (by decide) ?_
    exact q_iret (rm := (Rm 6 152 0 0)) C hS () rfl (by have z0 := (Int32.lt_iff_toInt_lt).mp c_1; have e0 : (1 : Int32).toInt = 1 := (by decide); show _ = if 1 ≤ n.toInt ∧ n.toInt ≤ 3 then 0 else -1; repeat (first | rfl | rw [if_pos (by omega)] | rw [if_neg (by omega)])) (q_subP hP [] rfl) (hD.sub [] (by decide) rfl) (Nat.le_of_ble_eq_true rfl) (Nat.le_of_ble_eq_true rfl) dX10_turns_22
  · refine lv_iload_n hx hb dX10_turns_5 rfl (lv_at hl 1 rfl) ?_
    refine lv_iconst (v := 3) hx hb dX10_turns_6 (by decide) ?_
    refine lv_icmp_gt (tgt := 21) hx hb dX10_turns_7 (by decide) (fun c_2 => ?_) (fun c_2 => ?_)
    · refine lv_iconst (v := (-1)) hx hb dX10_turns_21 (by decide) ?_
      exact q_iret (rm := (Rm 6 152 0 0)) C hS () rfl (by have z0 := (not_congr Int32.lt_iff_toInt_lt).mp c_1; have z1 := (Int32.lt_iff_toInt_lt).mp c_2; have e0 : (1 : Int32).toInt = 1 := (by decide); have e1 : (3 : Int32).toInt = 3 := (by decide); show _ = if 1 ≤ n.toInt ∧ n.toInt ≤ 3 then 0 else -1; repeat (first | rfl | rw [if_pos (by omega)] | rw [if_neg (by omega)])) (q_subP hP [] rfl) (hD.sub [] (by decide) rfl) (Nat.le_of_ble_eq_true rfl) (Nat.le_of_ble_eq_true rfl) dX10_turns_22
    · rcases sw_1_3 n with rfl | rfl | rfl | h9
      · refine lv_aload_n hx hb dX10_turns_10 rfl (lv_at hl 0 rfl) ?_
        refine q_get (v := .ref sh) C hP 0 2 rfl rfl inX10 (by decide) kF_RX10_26 rfl rfl dX10_turns_11 ?_
        refine lv_iload_n hx hb dX10_turns_14 rfl (lv_at hl 1 rfl) ?_
        refine q_ai (wr := [(h, .inr (10, [.ref ta, .ref pl, .ref sh, .ref tr, .ref fo, .ref li, .ref sp, .ref dr, .ref pa, .ref im, .ref fs, .ref ph, .ref cd, .int 0, .int 0])), (pl, .inr (6, [.int 4, .int 4, .int 10, .int 1, .int 3, .int 0, .int 0, .int 0, .ref pl0, .ref pl1, .ref pl2])), (sh2, .inl (cy 1, 8, .inl (fun _ => 0))), (fs, .inr (0, [.int 0, .int 0, .int (-1), .ref fs0, .ref fs1, .ref fs2, .ref fs3, .ref fs4, .int 0, .ref fs5, .int 0, .int 0, .int 1, .int 1, .int 0, .int 0])), (fs2, .inl (cy 1, 3, .inl (fun _ => 0))), (fs5, .inl (cy 1, 81, .inl (fun _ => 0)))]) (r_V (q0 := 0) (As := [.int 1]) (rest := []) (wc := [(sh, .inr (8, [.ref sh0, .ref sh1, .ref sh2, .ref sh3, .ref sh4, .int 0, .int 0, .ref sh5]))]) C (q_subP hP [2] rfl) (hD.sub [2] (by decide) rfl) (c_hasDays_1 l D cy sh sh0 sh1 sh2 sh3 sh4 sh5 _ ) kwV_X8_hasDays kM_RX10_319 rfl rfl ⟨Nat.le_of_ble_eq_true rfl, Nat.le_of_ble_eq_true rfl⟩ rfl hl.1 rfl (Nat.le_of_ble_eq_true rfl) dX10_turns_15 ⟨Nat.le_of_ble_eq_true rfl, Nat.le_of_ble_eq_true rfl⟩) C.2.2.2.2.2.2.1 hP hD hS [2] [0, 1, 3, 4, 5, 6] rfl rfl (by decide) (by decide) (fun r_4 u_3 H locs hw_5 hP hD hS => ?_)
        have hP : va_P D vwCl [(h, .inr (10, [.ref ta, .ref pl, .ref sh, .ref tr, .ref fo, .ref li, .ref sp, .ref dr, .ref pa, .ref im, .ref fs, .ref ph, .ref cd, .int 0, .int 0])), (pl, .inr (6, [.int 4, .int 4, .int 10, .int 1, .int 3, .int 0, .int 0, .int 0, .ref pl0, .ref pl1, .ref pl2])), (sh2, .inl (cy 1, 8, .inl (fun _ => 0))), (fs, .inr (0, [.int 0, .int 0, .int (-1), .ref fs0, .ref fs1, .ref fs2, .ref fs3, .ref fs4, .int 0, .ref fs5, .int 0, .int 0, .int 1, .int 1, .int 0, .int 0])), (fs2, .inl (cy 1, 3, .inl (fun _ => 0))), (fs5, .inl (cy 1, 81, .inl (fun _ => 0))), (sh, .inr (8, [.ref sh0, .ref sh1, .ref sh2, .ref sh3, .ref sh4, .int 0, .int 0, .ref sh5]))] H := hP
        have hD : va_D A [(h, .inr (10, [.ref ta, .ref pl, .ref sh, .ref tr, .ref fo, .ref li, .ref sp, .ref dr, .ref pa, .ref im, .ref fs, .ref ph, .ref cd, .int 0, .int 0])), (pl, .inr (6, [.int 4, .int 4, .int 10, .int 1, .int 3, .int 0, .int 0, .int 0, .ref pl0, .ref pl1, .ref pl2])), (sh2, .inl (cy 1, 8, .inl (fun _ => 0))), (fs, .inr (0, [.int 0, .int 0, .int (-1), .ref fs0, .ref fs1, .ref fs2, .ref fs3, .ref fs4, .int 0, .ref fs5, .int 0, .int 0, .int 1, .int 1, .int 0, .int 0])), (fs2, .inl (cy 1, 3, .inl (fun _ => 0))), (fs5, .inl (cy 1, 81, .inl (fun _ => 0))), (sh, .inr (8, [.ref sh0, .ref sh1, .ref sh2, .ref sh3, .ref sh4, .int 0, .int 0, .ref sh5]))] := hD
        obtain rfl : r_4 = 1 := hw_5
        refine lv_if_ne (tgt := 23) hx hb dX10_turns_18 (by decide) (fun _ => ?_) (fun c_0 => absurd c_0 (by decide))
        refine lv_aload_n hx hb dX10_turns_23 rfl (lv_at hl 0 rfl) ?_
        refine q_get (v := .ref fs) C hP 0 10 rfl rfl inX10 (by decide) kF_RX10_73 rfl rfl dX10_turns_24 ?_
        refine lv_aload_n hx hb dX10_turns_27 rfl (lv_at hl 0 rfl) ?_
        refine q_get (v := .ref pl) C hP 0 1 rfl rfl inX10 (by decide) kF_RX10_19 rfl rfl dX10_turns_28 ?_
        refine lv_aload_n hx hb dX10_turns_31 rfl (lv_at hl 0 rfl) ?_
        refine q_get (v := .ref sh) C hP 0 2 rfl rfl inX10 (by decide) kF_RX10_26 rfl rfl dX10_turns_32 ?_
        refine lv_iload_n hx hb dX10_turns_35 rfl (lv_at hl 1 rfl) ?_
        refine q_av (wr := [(h, .inr (10, [.ref ta, .ref pl, .ref sh, .ref tr, .ref fo, .ref li, .ref sp, .ref dr, .ref pa, .ref im, .ref fs, .ref ph, .ref cd, .int 0, .int 0])), (fs2, .inl (cy 1, 3, .inl (fun _ => 0)))]) (r_V (q0 := 0) (As := [.ref pl, .ref sh, .int 1]) (rest := []) (wc := [(fs, .inr (0, [.int 0, .int 0, .int (-1), .ref fs0, .ref fs1, .ref fs2, .ref fs3, .ref fs4, .int 0, .ref fs5, .int 0, .int 0, .int 1, .int 1, .int 0, .int 0])), (fs5, .inl (cy 1, 81, .inl (fun _ => 0))), (pl, .inr (6, [.int 4, .int 4, .int 10, .int 1, .int 3, .int 0, .int 0, .int 0, .ref pl0, .ref pl1, .ref pl2])), (sh, .inr (8, [.ref sh0, .ref sh1, .ref sh2, .ref sh3, .ref sh4, .int 0, .int 0, .ref sh5])), (sh2, .inl (cy 1, 8, .inl (fun _ => 0)))]) C (q_subP hP [3, 5, 1, 6, 2] rfl) (hD.sub [3, 5, 1, 6, 2] (by decide) rfl) (c_look_1 l D cy fs pl sh fs0 fs1 fs2 fs3 fs4 fs5 pl0 pl1 pl2 sh0 sh1 sh2 sh3 sh4 sh5 _ ) kwV_X0_look kM_RX10_335 rfl rfl ⟨Nat.le_of_ble_eq_true rfl, Nat.le_of_ble_eq_true rfl⟩ rfl hl.1 rfl (Nat.le_of_ble_eq_true rfl) dX10_turns_36 ⟨Nat.le_of_ble_eq_true rfl, Nat.le_of_ble_eq_true rfl⟩) C.2.2.2.2.2.2.1 hP hD hS [3, 5, 1, 6, 2] [0, 4] rfl rfl (by decide) (by decide) (fun u_6 H locs hw_8 hP hD hS => ?_)
        have hP : va_P D vwCl [(h, .inr (10, [.ref ta, .ref pl, .ref sh, .ref tr, .ref fo, .ref li, .ref sp, .ref dr, .ref pa, .ref im, .ref fs, .ref ph, .ref cd, .int 0, .int 0])), (fs2, .inl (cy 1, 3, .inl (fun _ => 0))), (fs, .inr (0, [.int 0, .int 0, .int (-1), .ref fs0, .ref fs1, .ref fs2, .ref fs3, .ref fs4, .int 0, .ref fs5, .int 0, .int 0, .int 10, .int 1, .int 0, .int 1])), (fs5, .inl (cy 1, 81, .inl (fun _ => 0))), (pl, .inr (6, [.int 4, .int 4, .int 10, .int 1, .int 3, .int 0, .int 0, .int 0, .ref pl0, .ref pl1, .ref pl2])), (sh, .inr (8, [.ref sh0, .ref sh1, .ref sh2, .ref sh3, .ref sh4, .int 0, .int 0, .ref sh5])), (sh2, .inl (cy 1, 8, .inl (fun _ => 0)))] H := hP
        have hD : va_D A [(h, .inr (10, [.ref ta, .ref pl, .ref sh, .ref tr, .ref fo, .ref li, .ref sp, .ref dr, .ref pa, .ref im, .ref fs, .ref ph, .ref cd, .int 0, .int 0])), (fs2, .inl (cy 1, 3, .inl (fun _ => 0))), (fs, .inr (0, [.int 0, .int 0, .int (-1), .ref fs0, .ref fs1, .ref fs2, .ref fs3, .ref fs4, .int 0, .ref fs5, .int 0, .int 0, .int 10, .int 1, .int 0, .int 1])), (fs5, .inl (cy 1, 81, .inl (fun _ => 0))), (pl, .inr (6, [.int 4, .int 4, .int 10, .int 1, .int 3, .int 0, .int 0, .int 0, .ref pl0, .ref pl1, .ref pl2])), (sh, .inr (8, [.ref sh0, .ref sh1, .ref sh2, .ref sh3, .ref sh4, .int 0, .int 0, .ref sh5])), (sh2, .inl (cy 1, 8, .inl (fun _ => 0)))] := hD
        refine lv_aload_n hx hb dX10_turns_39 rfl (lv_at hl 0 rfl) ?_
        refine q_get (v := .ref fs) C hP 0 10 rfl rfl inX10 (by decide) kF_RX10_73 rfl rfl dX10_turns_40 ?_
        refine q_ai (wr := [(h, .inr (10, [.ref ta, .ref pl, .ref sh, .ref tr, .ref fo, .ref li, .ref sp, .ref dr, .ref pa, .ref im, .ref fs, .ref ph, .ref cd, .int 0, .int 0])), (pl, .inr (6, [.int 4, .int 4, .int 10, .int 1, .int 3, .int 0, .int 0, .int 0, .ref pl0, .ref pl1, .ref pl2])), (sh, .inr (8, [.ref sh0, .ref sh1, .ref sh2, .ref sh3, .ref sh4, .int 0, .int 0, .ref sh5])), (sh2, .inl (cy 1, 8, .inl (fun _ => 0)))]) (r_V (q0 := 0) (As := []) (rest := []) (wc := [(fs, .inr (0, [.int 0, .int 0, .int (-1), .ref fs0, .ref fs1, .ref fs2, .ref fs3, .ref fs4, .int 0, .ref fs5, .int 0, .int 0, .int 10, .int 1, .int 0, .int 1])), (fs2, .inl (cy 1, 3, .inl (fun _ => 0))), (fs5, .inl (cy 1, 81, .inl (fun _ => 0)))]) C (q_subP hP [2, 1, 3] rfl) (hD.sub [2, 1, 3] (by decide) rfl) (c_play_1 l D cy fs fs0 fs1 fs2 fs3 fs4 fs5 (fun _ => 0) _ ) kwV_X0_playTurns kM_RX10_373 rfl rfl ⟨Nat.le_of_ble_eq_true rfl, Nat.le_of_ble_eq_true rfl⟩ rfl hl.1 rfl (Nat.le_of_ble_eq_true rfl) dX10_turns_43 ⟨Nat.le_of_ble_eq_true rfl, Nat.le_of_ble_eq_true rfl⟩) C.2.2.2.2.2.2.1 hP hD hS [2, 1, 3] [0, 4, 5, 6] rfl rfl (by decide) (by decide) (fun r_10 u_9 H locs hw_11 hP hD hS => ?_)
        have hP : va_P D vwCl [(h, .inr (10, [.ref ta, .ref pl, .ref sh, .ref tr, .ref fo, .ref li, .ref sp, .ref dr, .ref pa, .ref im, .ref fs, .ref ph, .ref cd, .int 0, .int 0])), (pl, .inr (6, [.int 4, .int 4, .int 10, .int 1, .int 3, .int 0, .int 0, .int 0, .ref pl0, .ref pl1, .ref pl2])), (sh, .inr (8, [.ref sh0, .ref sh1, .ref sh2, .ref sh3, .ref sh4, .int 0, .int 0, .ref sh5])), (sh2, .inl (cy 1, 8, .inl (fun _ => 0)))] H := hP
        have hD : va_D A [(h, .inr (10, [.ref ta, .ref pl, .ref sh, .ref tr, .ref fo, .ref li, .ref sp, .ref dr, .ref pa, .ref im, .ref fs, .ref ph, .ref cd, .int 0, .int 0])), (pl, .inr (6, [.int 4, .int 4, .int 10, .int 1, .int 3, .int 0, .int 0, .int 0, .ref pl0, .ref pl1, .ref pl2])), (sh, .inr (8, [.ref sh0, .ref sh1, .ref sh2, .ref sh3, .ref sh4, .int 0, .int 0, .ref sh5])), (sh2, .inl (cy 1, 8, .inl (fun _ => 0)))] := hD
        obtain rfl : r_10 = 0 := hw_11
        exact q_iret (rm := (Rm 6 152 0 0)) C hS () rfl (by show (0 : Int32) = (rTurns (1 : Int32)); decide +kernel) (q_subP hP [] rfl) (hD.sub [] (by decide) rfl) (Nat.le_of_ble_eq_true rfl) (Nat.le_of_ble_eq_true rfl) dX10_turns_46
      · refine lv_aload_n hx hb dX10_turns_10 rfl (lv_at hl 0 rfl) ?_
        refine q_get (v := .ref sh) C hP 0 2 rfl rfl inX10 (by decide) kF_RX10_26 rfl rfl dX10_turns_11 ?_
        refine lv_iload_n hx hb dX10_turns_14 rfl (lv_at hl 1 rfl) ?_
        refine q_ai (wr := [(h, .inr (10, [.ref ta, .ref pl, .ref sh, .ref tr, .ref fo, .ref li, .ref sp, .ref dr, .ref pa, .ref im, .ref fs, .ref ph, .ref cd, .int 0, .int 0])), (pl, .inr (6, [.int 4, .int 4, .int 10, .int 1, .int 3, .int 0, .int 0, .int 0, .ref pl0, .ref pl1, .ref pl2])), (sh2, .inl (cy 1, 8, .inl (fun _ => 0))), (fs, .inr (0, [.int 0, .int 0, .int (-1), .ref fs0, .ref fs1, .ref fs2, .ref fs3, .ref fs4, .int 0, .ref fs5, .int 0, .int 0, .int 1, .int 1, .int 0, .int 0])), (fs2, .inl (cy 1, 3, .inl (fun _ => 0))), (fs5, .inl (cy 1, 81, .inl (fun _ => 0)))]) (r_V (q0 := 0) (As := [.int 2]) (rest := []) (wc := [(sh, .inr (8, [.ref sh0, .ref sh1, .ref sh2, .ref sh3, .ref sh4, .int 0, .int 0, .ref sh5]))]) C (q_subP hP [2] rfl) (hD.sub [2] (by decide) rfl) (c_hasDays_2 l D cy sh sh0 sh1 sh2 sh3 sh4 sh5 _ ) kwV_X8_hasDays kM_RX10_319 rfl rfl ⟨Nat.le_of_ble_eq_true rfl, Nat.le_of_ble_eq_true rfl⟩ rfl hl.1 rfl (Nat.le_of_ble_eq_true rfl) dX10_turns_15 ⟨Nat.le_of_ble_eq_true rfl, Nat.le_of_ble_eq_true rfl⟩) C.2.2.2.2.2.2.1 hP hD hS [2] [0, 1, 3, 4, 5, 6] rfl rfl (by decide) (by decide) (fun r_13 u_12 H locs hw_14 hP hD hS => ?_)
        have hP : va_P D vwCl [(h, .inr (10, [.ref ta, .ref pl, .ref sh, .ref tr, .ref fo, .ref li, .ref sp, .ref dr, .ref pa, .ref im, .ref fs, .ref ph, .ref cd, .int 0, .int 0])), (pl, .inr (6, [.int 4, .int 4, .int 10, .int 1, .int 3, .int 0, .int 0, .int 0, .ref pl0, .ref pl1, .ref pl2])), (sh2, .inl (cy 1, 8, .inl (fun _ => 0))), (fs, .inr (0, [.int 0, .int 0, .int (-1), .ref fs0, .ref fs1, .ref fs2, .ref fs3, .ref fs4, .int 0, .ref fs5, .int 0, .int 0, .int 1, .int 1, .int 0, .int 0])), (fs2, .inl (cy 1, 3, .inl (fun _ => 0))), (fs5, .inl (cy 1, 81, .inl (fun _ => 0))), (sh, .inr (8, [.ref sh0, .ref sh1, .ref sh2, .ref sh3, .ref sh4, .int 0, .int 0, .ref sh5]))] H := hP
        have hD : va_D A [(h, .inr (10, [.ref ta, .ref pl, .ref sh, .ref tr, .ref fo, .ref li, .ref sp, .ref dr, .ref pa, .ref im, .ref fs, .ref ph, .ref cd, .int 0, .int 0])), (pl, .inr (6, [.int 4, .int 4, .int 10, .int 1, .int 3, .int 0, .int 0, .int 0, .ref pl0, .ref pl1, .ref pl2])), (sh2, .inl (cy 1, 8, .inl (fun _ => 0))), (fs, .inr (0, [.int 0, .int 0, .int (-1), .ref fs0, .ref fs1, .ref fs2, .ref fs3, .ref fs4, .int 0, .ref fs5, .int 0, .int 0, .int 1, .int 1, .int 0, .int 0])), (fs2, .inl (cy 1, 3, .inl (fun _ => 0))), (fs5, .inl (cy 1, 81, .inl (fun _ => 0))), (sh, .inr (8, [.ref sh0, .ref sh1, .ref sh2, .ref sh3, .ref sh4, .int 0, .int 0, .ref sh5]))] := hD
        obtain rfl : r_13 = 1 := hw_14
        refine lv_if_ne (tgt := 23) hx hb dX10_turns_18 (by decide) (fun _ => ?_) (fun c_0 => absurd c_0 (by decide))
        refine lv_aload_n hx hb dX10_turns_23 rfl (lv_at hl 0 rfl) ?_
        refine q_get (v := .ref fs) C hP 0 10 rfl rfl inX10 (by decide) kF_RX10_73 rfl rfl dX10_turns_24 ?_
        refine lv_aload_n hx hb dX10_turns_27 rfl (lv_at hl 0 rfl) ?_
        refine q_get (v := .ref pl) C hP 0 1 rfl rfl inX10 (by decide) kF_RX10_19 rfl rfl dX10_turns_28 ?_
        refine lv_aload_n hx hb dX10_turns_31 rfl (lv_at hl 0 rfl) ?_
        refine q_get (v := .ref sh) C hP 0 2 rfl rfl inX10 (by decide) kF_RX10_26 rfl rfl dX10_turns_32 ?_
        refine lv_iload_n hx hb dX10_turns_35 rfl (lv_at hl 1 rfl) ?_
        refine q_av (wr := [(h, .inr (10, [.ref ta, .ref pl, .ref sh, .ref tr, .ref fo, .ref li, .ref sp, .ref dr, .ref pa, .ref im, .ref fs, .ref ph, .ref cd, .int 0, .int 0])), (fs2, .inl (cy 1, 3, .inl (fun _ => 0)))]) (r_V (q0 := 0) (As := [.ref pl, .ref sh, .int 2]) (rest := []) (wc := [(fs, .inr (0, [.int 0, .int 0, .int (-1), .ref fs0, .ref fs1, .ref fs2, .ref fs3, .ref fs4, .int 0, .ref fs5, .int 0, .int 0, .int 1, .int 1, .int 0, .int 0])), (fs5, .inl (cy 1, 81, .inl (fun _ => 0))), (pl, .inr (6, [.int 4, .int 4, .int 10, .int 1, .int 3, .int 0, .int 0, .int 0, .ref pl0, .ref pl1, .ref pl2])), (sh, .inr (8, [.ref sh0, .ref sh1, .ref sh2, .ref sh3, .ref sh4, .int 0, .int 0, .ref sh5])), (sh2, .inl (cy 1, 8, .inl (fun _ => 0)))]) C (q_subP hP [3, 5, 1, 6, 2] rfl) (hD.sub [3, 5, 1, 6, 2] (by decide) rfl) (c_look_2 l D cy fs pl sh fs0 fs1 fs2 fs3 fs4 fs5 pl0 pl1 pl2 sh0 sh1 sh2 sh3 sh4 sh5 _ ) kwV_X0_look kM_RX10_335 rfl rfl ⟨Nat.le_of_ble_eq_true rfl, Nat.le_of_ble_eq_true rfl⟩ rfl hl.1 rfl (Nat.le_of_ble_eq_true rfl) dX10_turns_36 ⟨Nat.le_of_ble_eq_true rfl, Nat.le_of_ble_eq_true rfl⟩) C.2.2.2.2.2.2.1 hP hD hS [3, 5, 1, 6, 2] [0, 4] rfl rfl (by decide) (by decide) (fun u_15 H locs hw_17 hP hD hS => ?_)
        have hP : va_P D vwCl [(h, .inr (10, [.ref ta, .ref pl, .ref sh, .ref tr, .ref fo, .ref li, .ref sp, .ref dr, .ref pa, .ref im, .ref fs, .ref ph, .ref cd, .int 0, .int 0])), (fs2, .inl (cy 1, 3, .inl (fun _ => 0))), (fs, .inr (0, [.int 0, .int 0, .int (-1), .ref fs0, .ref fs1, .ref fs2, .ref fs3, .ref fs4, .int 0, .ref fs5, .int 0, .int 0, .int 10, .int 1, .int 0, .int 2])), (fs5, .inl (cy 1, 81, .inl (fun _ => 0))), (pl, .inr (6, [.int 4, .int 4, .int 10, .int 1, .int 3, .int 0, .int 0, .int 0, .ref pl0, .ref pl1, .ref pl2])), (sh, .inr (8, [.ref sh0, .ref sh1, .ref sh2, .ref sh3, .ref sh4, .int 0, .int 0, .ref sh5])), (sh2, .inl (cy 1, 8, .inl (fun _ => 0)))] H := hP
        have hD : va_D A [(h, .inr (10, [.ref ta, .ref pl, .ref sh, .ref tr, .ref fo, .ref li, .ref sp, .ref dr, .ref pa, .ref im, .ref fs, .ref ph, .ref cd, .int 0, .int 0])), (fs2, .inl (cy 1, 3, .inl (fun _ => 0))), (fs, .inr (0, [.int 0, .int 0, .int (-1), .ref fs0, .ref fs1, .ref fs2, .ref fs3, .ref fs4, .int 0, .ref fs5, .int 0, .int 0, .int 10, .int 1, .int 0, .int 2])), (fs5, .inl (cy 1, 81, .inl (fun _ => 0))), (pl, .inr (6, [.int 4, .int 4, .int 10, .int 1, .int 3, .int 0, .int 0, .int 0, .ref pl0, .ref pl1, .ref pl2])), (sh, .inr (8, [.ref sh0, .ref sh1, .ref sh2, .ref sh3, .ref sh4, .int 0, .int 0, .ref sh5])), (sh2, .inl (cy 1, 8, .inl (fun _ => 0)))] := hD
        refine lv_aload_n hx hb dX10_turns_39 rfl (lv_at hl 0 rfl) ?_
        refine q_get (v := .ref fs) C hP 0 10 rfl rfl inX10 (by decide) kF_RX10_73 rfl rfl dX10_turns_40 ?_
        refine q_ai (wr := [(h, .inr (10, [.ref ta, .ref pl, .ref sh, .ref tr, .ref fo, .ref li, .ref sp, .ref dr, .ref pa, .ref im, .ref fs, .ref ph, .ref cd, .int 0, .int 0])), (pl, .inr (6, [.int 4, .int 4, .int 10, .int 1, .int 3, .int 0, .int 0, .int 0, .ref pl0, .ref pl1, .ref pl2])), (sh, .inr (8, [.ref sh0, .ref sh1, .ref sh2, .ref sh3, .ref sh4, .int 0, .int 0, .ref sh5])), (sh2, .inl (cy 1, 8, .inl (fun _ => 0)))]) (r_V (q0 := 0) (As := []) (rest := []) (wc := [(fs, .inr (0, [.int 0, .int 0, .int (-1), .ref fs0, .ref fs1, .ref fs2, .ref fs3, .ref fs4, .int 0, .ref fs5, .int 0, .int 0, .int 10, .int 1, .int 0, .int 2])), (fs2, .inl (cy 1, 3, .inl (fun _ => 0))), (fs5, .inl (cy 1, 81, .inl (fun _ => 0)))]) C (q_subP hP [2, 1, 3] rfl) (hD.sub [2, 1, 3] (by decide) rfl) (c_play_2 l D cy fs fs0 fs1 fs2 fs3 fs4 fs5 (fun _ => 0) _ ) kwV_X0_playTurns kM_RX10_373 rfl rfl ⟨Nat.le_of_ble_eq_true rfl, Nat.le_of_ble_eq_true rfl⟩ rfl hl.1 rfl (Nat.le_of_ble_eq_true rfl) dX10_turns_43 ⟨Nat.le_of_ble_eq_true rfl, Nat.le_of_ble_eq_true rfl⟩) C.2.2.2.2.2.2.1 hP hD hS [2, 1, 3] [0, 4, 5, 6] rfl rfl (by decide) (by decide) (fun r_19 u_18 H locs hw_20 hP hD hS => ?_)
        have hP : va_P D vwCl [(h, .inr (10, [.ref ta, .ref pl, .ref sh, .ref tr, .ref fo, .ref li, .ref sp, .ref dr, .ref pa, .ref im, .ref fs, .ref ph, .ref cd, .int 0, .int 0])), (pl, .inr (6, [.int 4, .int 4, .int 10, .int 1, .int 3, .int 0, .int 0, .int 0, .ref pl0, .ref pl1, .ref pl2])), (sh, .inr (8, [.ref sh0, .ref sh1, .ref sh2, .ref sh3, .ref sh4, .int 0, .int 0, .ref sh5])), (sh2, .inl (cy 1, 8, .inl (fun _ => 0)))] H := hP
        have hD : va_D A [(h, .inr (10, [.ref ta, .ref pl, .ref sh, .ref tr, .ref fo, .ref li, .ref sp, .ref dr, .ref pa, .ref im, .ref fs, .ref ph, .ref cd, .int 0, .int 0])), (pl, .inr (6, [.int 4, .int 4, .int 10, .int 1, .int 3, .int 0, .int 0, .int 0, .ref pl0, .ref pl1, .ref pl2])), (sh, .inr (8, [.ref sh0, .ref sh1, .ref sh2, .ref sh3, .ref sh4, .int 0, .int 0, .ref sh5])), (sh2, .inl (cy 1, 8, .inl (fun _ => 0)))] := hD
        obtain rfl : r_19 = 0 := hw_20
        exact q_iret (rm := (Rm 6 152 0 0)) C hS () rfl (by show (0 : Int32) = (rTurns (2 : Int32)); decide +kernel) (q_subP hP [] rfl) (hD.sub [] (by decide) rfl) (Nat.le_of_ble_eq_true rfl) (Nat.le_of_ble_eq_true rfl) dX10_turns_46
      · refine lv_aload_n hx hb dX10_turns_10 rfl (lv_at hl 0 rfl) ?_
        refine q_get (v := .ref sh) C hP 0 2 rfl rfl inX10 (by decide) kF_RX10_26 rfl rfl dX10_turns_11 ?_
        refine lv_iload_n hx hb dX10_turns_14 rfl (lv_at hl 1 rfl) ?_
        refine q_ai (wr := [(h, .inr (10, [.ref ta, .ref pl, .ref sh, .ref tr, .ref fo, .ref li, .ref sp, .ref dr, .ref pa, .ref im, .ref fs, .ref ph, .ref cd, .int 0, .int 0])), (pl, .inr (6, [.int 4, .int 4, .int 10, .int 1, .int 3, .int 0, .int 0, .int 0, .ref pl0, .ref pl1, .ref pl2])), (sh2, .inl (cy 1, 8, .inl (fun _ => 0))), (fs, .inr (0, [.int 0, .int 0, .int (-1), .ref fs0, .ref fs1, .ref fs2, .ref fs3, .ref fs4, .int 0, .ref fs5, .int 0, .int 0, .int 1, .int 1, .int 0, .int 0])), (fs2, .inl (cy 1, 3, .inl (fun _ => 0))), (fs5, .inl (cy 1, 81, .inl (fun _ => 0)))]) (r_V (q0 := 0) (As := [.int 3]) (rest := []) (wc := [(sh, .inr (8, [.ref sh0, .ref sh1, .ref sh2, .ref sh3, .ref sh4, .int 0, .int 0, .ref sh5]))]) C (q_subP hP [2] rfl) (hD.sub [2] (by decide) rfl) (c_hasDays_3 l D cy sh sh0 sh1 sh2 sh3 sh4 sh5 _ ) kwV_X8_hasDays kM_RX10_319 rfl rfl ⟨Nat.le_of_ble_eq_true rfl, Nat.le_of_ble_eq_true rfl⟩ rfl hl.1 rfl (Nat.le_of_ble_eq_true rfl) dX10_turns_15 ⟨Nat.le_of_ble_eq_true rfl, Nat.le_of_ble_eq_true rfl⟩) C.2.2.2.2.2.2.1 hP hD hS [2] [0, 1, 3, 4, 5, 6] rfl rfl (by decide) (by decide) (fun r_22 u_21 H locs hw_23 hP hD hS => ?_)
        have hP : va_P D vwCl [(h, .inr (10, [.ref ta, .ref pl, .ref sh, .ref tr, .ref fo, .ref li, .ref sp, .ref dr, .ref pa, .ref im, .ref fs, .ref ph, .ref cd, .int 0, .int 0])), (pl, .inr (6, [.int 4, .int 4, .int 10, .int 1, .int 3, .int 0, .int 0, .int 0, .ref pl0, .ref pl1, .ref pl2])), (sh2, .inl (cy 1, 8, .inl (fun _ => 0))), (fs, .inr (0, [.int 0, .int 0, .int (-1), .ref fs0, .ref fs1, .ref fs2, .ref fs3, .ref fs4, .int 0, .ref fs5, .int 0, .int 0, .int 1, .int 1, .int 0, .int 0])), (fs2, .inl (cy 1, 3, .inl (fun _ => 0))), (fs5, .inl (cy 1, 81, .inl (fun _ => 0))), (sh, .inr (8, [.ref sh0, .ref sh1, .ref sh2, .ref sh3, .ref sh4, .int 0, .int 0, .ref sh5]))] H := hP
        have hD : va_D A [(h, .inr (10, [.ref ta, .ref pl, .ref sh, .ref tr, .ref fo, .ref li, .ref sp, .ref dr, .ref pa, .ref im, .ref fs, .ref ph, .ref cd, .int 0, .int 0])), (pl, .inr (6, [.int 4, .int 4, .int 10, .int 1, .int 3, .int 0, .int 0, .int 0, .ref pl0, .ref pl1, .ref pl2])), (sh2, .inl (cy 1, 8, .inl (fun _ => 0))), (fs, .inr (0, [.int 0, .int 0, .int (-1), .ref fs0, .ref fs1, .ref fs2, .ref fs3, .ref fs4, .int 0, .ref fs5, .int 0, .int 0, .int 1, .int 1, .int 0, .int 0])), (fs2, .inl (cy 1, 3, .inl (fun _ => 0))), (fs5, .inl (cy 1, 81, .inl (fun _ => 0))), (sh, .inr (8, [.ref sh0, .ref sh1, .ref sh2, .ref sh3, .ref sh4, .int 0, .int 0, .ref sh5]))] := hD
        obtain rfl : r_22 = 1 := hw_23
        refine lv_if_ne (tgt := 23) hx hb dX10_turns_18 (by decide) (fun _ => ?_) (fun c_0 => absurd c_0 (by decide))
        refine lv_aload_n hx hb dX10_turns_23 rfl (lv_at hl 0 rfl) ?_
        refine q_get (v := .ref fs) C hP 0 10 rfl rfl inX10 (by decide) kF_RX10_73 rfl rfl dX10_turns_24 ?_
        refine lv_aload_n hx hb dX10_turns_27 rfl (lv_at hl 0 rfl) ?_
        refine q_get (v := .ref pl) C hP 0 1 rfl rfl inX10 (by decide) kF_RX10_19 rfl rfl dX10_turns_28 ?_
        refine lv_aload_n hx hb dX10_turns_31 rfl (lv_at hl 0 rfl) ?_
        refine q_get (v := .ref sh) C hP 0 2 rfl rfl inX10 (by decide) kF_RX10_26 rfl rfl dX10_turns_32 ?_
        refine lv_iload_n hx hb dX10_turns_35 rfl (lv_at hl 1 rfl) ?_
        refine q_av (wr := [(h, .inr (10, [.ref ta, .ref pl, .ref sh, .ref tr, .ref fo, .ref li, .ref sp, .ref dr, .ref pa, .ref im, .ref fs, .ref ph, .ref cd, .int 0, .int 0])), (fs2, .inl (cy 1, 3, .inl (fun _ => 0)))]) (r_V (q0 := 0) (As := [.ref pl, .ref sh, .int 3]) (rest := []) (wc := [(fs, .inr (0, [.int 0, .int 0, .int (-1), .ref fs0, .ref fs1, .ref fs2, .ref fs3, .ref fs4, .int 0, .ref fs5, .int 0, .int 0, .int 1, .int 1, .int 0, .int 0])), (fs5, .inl (cy 1, 81, .inl (fun _ => 0))), (pl, .inr (6, [.int 4, .int 4, .int 10, .int 1, .int 3, .int 0, .int 0, .int 0, .ref pl0, .ref pl1, .ref pl2])), (sh, .inr (8, [.ref sh0, .ref sh1, .ref sh2, .ref sh3, .ref sh4, .int 0, .int 0, .ref sh5])), (sh2, .inl (cy 1, 8, .inl (fun _ => 0)))]) C (q_subP hP [3, 5, 1, 6, 2] rfl) (hD.sub [3, 5, 1, 6, 2] (by decide) rfl) (c_look_3 l D cy fs pl sh fs0 fs1 fs2 fs3 fs4 fs5 pl0 pl1 pl2 sh0 sh1 sh2 sh3 sh4 sh5 _ ) kwV_X0_look kM_RX10_335 rfl rfl ⟨Nat.le_of_ble_eq_true rfl, Nat.le_of_ble_eq_true rfl⟩ rfl hl.1 rfl (Nat.le_of_ble_eq_true rfl) dX10_turns_36 ⟨Nat.le_of_ble_eq_true rfl, Nat.le_of_ble_eq_true rfl⟩) C.2.2.2.2.2.2.1 hP hD hS [3, 5, 1, 6, 2] [0, 4] rfl rfl (by decide) (by decide) (fun u_24 H locs hw_26 hP hD hS => ?_)
        have hP : va_P D vwCl [(h, .inr (10, [.ref ta, .ref pl, .ref sh, .ref tr, .ref fo, .ref li, .ref sp, .ref dr, .ref pa, .ref im, .ref fs, .ref ph, .ref cd, .int 0, .int 0])), (fs2, .inl (cy 1, 3, .inl (fun _ => 0))), (fs, .inr (0, [.int 0, .int 0, .int (-1), .ref fs0, .ref fs1, .ref fs2, .ref fs3, .ref fs4, .int 0, .ref fs5, .int 0, .int 0, .int 10, .int 1, .int 0, .int 3])), (fs5, .inl (cy 1, 81, .inl (fun _ => 0))), (pl, .inr (6, [.int 4, .int 4, .int 10, .int 1, .int 3, .int 0, .int 0, .int 0, .ref pl0, .ref pl1, .ref pl2])), (sh, .inr (8, [.ref sh0, .ref sh1, .ref sh2, .ref sh3, .ref sh4, .int 0, .int 0, .ref sh5])), (sh2, .inl (cy 1, 8, .inl (fun _ => 0)))] H := hP
        have hD : va_D A [(h, .inr (10, [.ref ta, .ref pl, .ref sh, .ref tr, .ref fo, .ref li, .ref sp, .ref dr, .ref pa, .ref im, .ref fs, .ref ph, .ref cd, .int 0, .int 0])), (fs2, .inl (cy 1, 3, .inl (fun _ => 0))), (fs, .inr (0, [.int 0, .int 0, .int (-1), .ref fs0, .ref fs1, .ref fs2, .ref fs3, .ref fs4, .int 0, .ref fs5, .int 0, .int 0, .int 10, .int 1, .int 0, .int 3])), (fs5, .inl (cy 1, 81, .inl (fun _ => 0))), (pl, .inr (6, [.int 4, .int 4, .int 10, .int 1, .int 3, .int 0, .int 0, .int 0, .ref pl0, .ref pl1, .ref pl2])), (sh, .inr (8, [.ref sh0, .ref sh1, .ref sh2, .ref sh3, .ref sh4, .int 0, .int 0, .ref sh5])), (sh2, .inl (cy 1, 8, .inl (fun _ => 0)))] := hD
        refine lv_aload_n hx hb dX10_turns_39 rfl (lv_at hl 0 rfl) ?_
        refine q_get (v := .ref fs) C hP 0 10 rfl rfl inX10 (by decide) kF_RX10_73 rfl rfl dX10_turns_40 ?_
        refine q_ai (wr := [(h, .inr (10, [.ref ta, .ref pl, .ref sh, .ref tr, .ref fo, .ref li, .ref sp, .ref dr, .ref pa, .ref im, .ref fs, .ref ph, .ref cd, .int 0, .int 0])), (pl, .inr (6, [.int 4, .int 4, .int 10, .int 1, .int 3, .int 0, .int 0, .int 0, .ref pl0, .ref pl1, .ref pl2])), (sh, .inr (8, [.ref sh0, .ref sh1, .ref sh2, .ref sh3, .ref sh4, .int 0, .int 0, .ref sh5])), (sh2, .inl (cy 1, 8, .inl (fun _ => 0)))]) (r_V (q0 := 0) (As := []) (rest := []) (wc := [(fs, .inr (0, [.int 0, .int 0, .int (-1), .ref fs0, .ref fs1, .ref fs2, .ref fs3, .ref fs4, .int 0, .ref fs5, .int 0, .int 0, .int 10, .int 1, .int 0, .int 3])), (fs2, .inl (cy 1, 3, .inl (fun _ => 0))), (fs5, .inl (cy 1, 81, .inl (fun _ => 0)))]) C (q_subP hP [2, 1, 3] rfl) (hD.sub [2, 1, 3] (by decide) rfl) (c_play_3 l D cy fs fs0 fs1 fs2 fs3 fs4 fs5 (fun _ => 0) _ ) kwV_X0_playTurns kM_RX10_373 rfl rfl ⟨Nat.le_of_ble_eq_true rfl, Nat.le_of_ble_eq_true rfl⟩ rfl hl.1 rfl (Nat.le_of_ble_eq_true rfl) dX10_turns_43 ⟨Nat.le_of_ble_eq_true rfl, Nat.le_of_ble_eq_true rfl⟩) C.2.2.2.2.2.2.1 hP hD hS [2, 1, 3] [0, 4, 5, 6] rfl rfl (by decide) (by decide) (fun r_28 u_27 H locs hw_29 hP hD hS => ?_)
        have hP : va_P D vwCl [(h, .inr (10, [.ref ta, .ref pl, .ref sh, .ref tr, .ref fo, .ref li, .ref sp, .ref dr, .ref pa, .ref im, .ref fs, .ref ph, .ref cd, .int 0, .int 0])), (pl, .inr (6, [.int 4, .int 4, .int 10, .int 1, .int 3, .int 0, .int 0, .int 0, .ref pl0, .ref pl1, .ref pl2])), (sh, .inr (8, [.ref sh0, .ref sh1, .ref sh2, .ref sh3, .ref sh4, .int 0, .int 0, .ref sh5])), (sh2, .inl (cy 1, 8, .inl (fun _ => 0)))] H := hP
        have hD : va_D A [(h, .inr (10, [.ref ta, .ref pl, .ref sh, .ref tr, .ref fo, .ref li, .ref sp, .ref dr, .ref pa, .ref im, .ref fs, .ref ph, .ref cd, .int 0, .int 0])), (pl, .inr (6, [.int 4, .int 4, .int 10, .int 1, .int 3, .int 0, .int 0, .int 0, .ref pl0, .ref pl1, .ref pl2])), (sh, .inr (8, [.ref sh0, .ref sh1, .ref sh2, .ref sh3, .ref sh4, .int 0, .int 0, .ref sh5])), (sh2, .inl (cy 1, 8, .inl (fun _ => 0)))] := hD
        obtain rfl : r_28 = 0 := hw_29
        exact q_iret (rm := (Rm 6 152 0 0)) C hS () rfl (by show (0 : Int32) = (rTurns (3 : Int32)); decide +kernel) (q_subP hP [] rfl) (hD.sub [] (by decide) rfl) (Nat.le_of_ble_eq_true rfl) (Nat.le_of_ble_eq_true rfl) dX10_turns_46
      · exact absurd h9 (by have z0 := (not_congr Int32.lt_iff_toInt_lt).mp c_1; have z1 := (not_congr Int32.lt_iff_toInt_lt).mp c_2; have e0 : (1 : Int32).toInt = 1 := (by decide); have e1 : (3 : Int32).toInt = 3 := (by decide); omega)
