theorem dX9_addNumber_0 : decode cX9_addNumber 0 = .ok (.bipush 24, 2) := by decide +kernel
theorem dX9_addNumber_2 : decode cX9_addNumber 2 = .ok (.istore_n 2, 1) := by decide +kernel
theorem dX9_addNumber_3 : decode cX9_addNumber 3 = .ok (.iload_n 2, 1) := by decide +kernel
theorem dX9_addNumber_4 : decode cX9_addNumber 4 = .ok (.ifCond .lt 47, 3) := by decide +kernel
theorem dX9_addNumber_7 : decode cX9_addNumber 7 = .ok (.aload_n 0, 1) := by decide +kernel
theorem dX9_addNumber_8 : decode cX9_addNumber 8 = .ok (.getfield 15, 3) := by decide +kernel
theorem dX9_addNumber_11 : decode cX9_addNumber 11 = .ok (.aload_n 0, 1) := by decide +kernel
theorem dX9_addNumber_12 : decode cX9_addNumber 12 = .ok (.getfield 9, 3) := by decide +kernel
theorem dX9_addNumber_15 : decode cX9_addNumber 15 = .ok (.arraylength, 1) := by decide +kernel
theorem dX9_addNumber_16 : decode cX9_addNumber 16 = .ok (.if_icmp .ge 29, 3) := by decide +kernel
theorem dX9_addNumber_19 : decode cX9_addNumber 19 = .ok (.aload_n 0, 1) := by decide +kernel
theorem dX9_addNumber_20 : decode cX9_addNumber 20 = .ok (.getfield 9, 3) := by decide +kernel
theorem dX9_addNumber_23 : decode cX9_addNumber 23 = .ok (.aload_n 0, 1) := by decide +kernel
theorem dX9_addNumber_24 : decode cX9_addNumber 24 = .ok (.getfield 15, 3) := by decide +kernel
theorem dX9_addNumber_27 : decode cX9_addNumber 27 = .ok (.iload_n 1, 1) := by decide +kernel
theorem dX9_addNumber_28 : decode cX9_addNumber 28 = .ok (.iload_n 2, 1) := by decide +kernel
theorem dX9_addNumber_29 : decode cX9_addNumber 29 = .ok (.iushr, 1) := by decide +kernel
theorem dX9_addNumber_30 : decode cX9_addNumber 30 = .ok (.sipush 255, 3) := by decide +kernel
theorem dX9_addNumber_33 : decode cX9_addNumber 33 = .ok (.iand, 1) := by decide +kernel
theorem dX9_addNumber_34 : decode cX9_addNumber 34 = .ok (.iastore, 1) := by decide +kernel
theorem dX9_addNumber_35 : decode cX9_addNumber 35 = .ok (.aload_n 0, 1) := by decide +kernel
theorem dX9_addNumber_36 : decode cX9_addNumber 36 = .ok (.dup, 1) := by decide +kernel
theorem dX9_addNumber_37 : decode cX9_addNumber 37 = .ok (.getfield 15, 3) := by decide +kernel
theorem dX9_addNumber_40 : decode cX9_addNumber 40 = .ok (.iconst 1, 1) := by decide +kernel
theorem dX9_addNumber_41 : decode cX9_addNumber 41 = .ok (.iadd, 1) := by decide +kernel
theorem dX9_addNumber_42 : decode cX9_addNumber 42 = .ok (.putfield 15, 3) := by decide +kernel
theorem dX9_addNumber_45 : decode cX9_addNumber 45 = .ok (.iinc 2 (-8), 3) := by decide +kernel
theorem dX9_addNumber_48 : decode cX9_addNumber 48 = .ok (.goto (-45), 3) := by decide +kernel
theorem dX9_addNumber_51 : decode cX9_addNumber 51 = .ok (.return_, 1) := by decide +kernel
theorem dX9_advance_0 : decode cX9_advance 0 = .ok (.aload_n 0, 1) := by decide +kernel
theorem dX9_advance_1 : decode cX9_advance 1 = .ok (.getfield 43, 3) := by decide +kernel
theorem dX9_advance_4 : decode cX9_advance 4 = .ok (.aload_n 0, 1) := by decide +kernel
theorem dX9_advance_5 : decode cX9_advance 5 = .ok (.getfield 40, 3) := by decide +kernel
theorem dX9_advance_8 : decode cX9_advance 8 = .ok (.if_icmp .ge 31, 3) := by decide +kernel
theorem dX9_advance_39 : decode cX9_advance 39 = .ok (.aload_n 0, 1) := by decide +kernel
theorem dX9_advance_40 : decode cX9_advance 40 = .ok (.iconst 0, 1) := by decide +kernel
theorem dX9_advance_41 : decode cX9_advance 41 = .ok (.putfield 31, 3) := by decide +kernel
theorem dX9_advance_44 : decode cX9_advance 44 = .ok (.aload_n 0, 1) := by decide +kernel
theorem dX9_advance_45 : decode cX9_advance 45 = .ok (.iconst 0, 1) := by decide +kernel
theorem dX9_advance_46 : decode cX9_advance 46 = .ok (.putfield 28, 3) := by decide +kernel
theorem dX9_advance_49 : decode cX9_advance 49 = .ok (.aload_n 0, 1) := by decide +kernel
theorem dX9_advance_50 : decode cX9_advance 50 = .ok (.iconst 0, 1) := by decide +kernel
theorem dX9_advance_51 : decode cX9_advance 51 = .ok (.putfield 25, 3) := by decide +kernel
theorem dX9_advance_54 : decode cX9_advance 54 = .ok (.aload_n 0, 1) := by decide +kernel
theorem dX9_advance_55 : decode cX9_advance 55 = .ok (.getfield 43, 3) := by decide +kernel
theorem dX9_advance_58 : decode cX9_advance 58 = .ok (.aload_n 0, 1) := by decide +kernel
theorem dX9_advance_59 : decode cX9_advance 59 = .ok (.getfield 40, 3) := by decide +kernel
theorem dX9_advance_62 : decode cX9_advance 62 = .ok (.if_icmp .lt 17, 3) := by decide +kernel
theorem dX9_advance_65 : decode cX9_advance 65 = .ok (.aload_n 0, 1) := by decide +kernel
theorem dX9_advance_66 : decode cX9_advance 66 = .ok (.aload_n 0, 1) := by decide +kernel
theorem dX9_advance_67 : decode cX9_advance 67 = .ok (.getfield 40, 3) := by decide +kernel
theorem dX9_advance_70 : decode cX9_advance 70 = .ok (.putfield 22, 3) := by decide +kernel
theorem dX9_advance_73 : decode cX9_advance 73 = .ok (.aload_n 0, 1) := by decide +kernel
theorem dX9_advance_74 : decode cX9_advance 74 = .ok (.iconst 0, 1) := by decide +kernel
theorem dX9_advance_75 : decode cX9_advance 75 = .ok (.putfield 19, 3) := by decide +kernel
theorem dX9_advance_78 : decode cX9_advance 78 = .ok (.return_, 1) := by decide +kernel
theorem dX9_open_0 : decode cX9_open 0 = .ok (.aload_n 0, 1) := by decide +kernel
theorem dX9_open_1 : decode cX9_open 1 = .ok (.aload_n 0, 1) := by decide +kernel
theorem dX9_open_2 : decode cX9_open 2 = .ok (.getfield 15, 3) := by decide +kernel
theorem dX9_open_5 : decode cX9_open 5 = .ok (.iload_n 1, 1) := by decide +kernel
theorem dX9_open_6 : decode cX9_open 6 = .ok (.invokestatic 46, 3) := by decide +kernel
theorem kM_RX9_46 : Cond.methodLink RX9 46 Lib.Math.min.name ∈ gT := List.mem_filter.mpr ⟨List.mem_of_getElem? (i := 655) (by decide +kernel), by decide +kernel⟩
theorem dX9_open_9 : decode cX9_open 9 = .ok (.putfield 40, 3) := by decide +kernel
theorem dX9_open_12 : decode cX9_open 12 = .ok (.aload_n 0, 1) := by decide +kernel
theorem dX9_open_13 : decode cX9_open 13 = .ok (.iconst 0, 1) := by decide +kernel
theorem dX9_open_14 : decode cX9_open 14 = .ok (.putfield 43, 3) := by decide +kernel
theorem dX9_open_17 : decode cX9_open 17 = .ok (.aload_n 0, 1) := by decide +kernel
theorem dX9_open_18 : decode cX9_open 18 = .ok (.iconst 0, 1) := by decide +kernel
theorem dX9_open_19 : decode cX9_open 19 = .ok (.putfield 34, 3) := by decide +kernel
theorem dX9_open_22 : decode cX9_open 22 = .ok (.aload_n 0, 1) := by decide +kernel
theorem dX9_open_23 : decode cX9_open 23 = .ok (.iconst 0, 1) := by decide +kernel
theorem dX9_open_24 : decode cX9_open 24 = .ok (.putfield 37, 3) := by decide +kernel
theorem dX9_open_27 : decode cX9_open 27 = .ok (.aload_n 0, 1) := by decide +kernel
theorem dX9_open_28 : decode cX9_open 28 = .ok (.invokevirtual 52, 3) := by decide +kernel
theorem kwV_X9_advance : MwV RX9 yX9_advance cX9_advance 1 none 0 := ⟨List.mem_filter.mpr ⟨List.mem_of_getElem? (i := 661) (by decide +kernel), by decide +kernel⟩, List.mem_filter.mpr ⟨List.mem_of_getElem? (i := 659) (by decide +kernel), by decide +kernel⟩, List.mem_filter.mpr ⟨List.mem_of_getElem? (i := 660) (by decide +kernel), by decide +kernel⟩, List.mem_filter.mpr ⟨List.mem_of_getElem? (i := 129) (by decide +kernel), by decide +kernel⟩, by decide +kernel⟩
theorem kM_RX9_52 : Cond.methodLink RX9 52 yX9_advance ∈ gT := List.mem_filter.mpr ⟨List.mem_of_getElem? (i := 658) (by decide +kernel), by decide +kernel⟩
theorem dX9_open_31 : decode cX9_open 31 = .ok (.return_, 1) := by decide +kernel
theorem dX9_closes_0 : decode cX9_closes 0 = .ok (.aload_n 0, 1) := by decide +kernel
theorem dX9_closes_1 : decode cX9_closes 1 = .ok (.getfield 19, 3) := by decide +kernel
theorem dX9_closes_4 : decode cX9_closes 4 = .ok (.ifCond .ne 14, 3) := by decide +kernel
theorem dX9_closes_7 : decode cX9_closes 7 = .ok (.aload_n 0, 1) := by decide +kernel
theorem dX9_closes_8 : decode cX9_closes 8 = .ok (.getfield 15, 3) := by decide +kernel
theorem dX9_closes_11 : decode cX9_closes 11 = .ok (.aload_n 0, 1) := by decide +kernel
theorem dX9_closes_12 : decode cX9_closes 12 = .ok (.getfield 40, 3) := by decide +kernel
theorem dX9_closes_15 : decode cX9_closes 15 = .ok (.if_icmp .le 11, 3) := by decide +kernel
theorem dX9_closes_26 : decode cX9_closes 26 = .ok (.iconst 1, 1) := by decide +kernel
theorem dX9_closes_27 : decode cX9_closes 27 = .ok (.goto 4, 3) := by decide +kernel
theorem dX9_closes_31 : decode cX9_closes 31 = .ok (.ireturn, 1) := by decide +kernel
theorem dX9_fail_0 : decode cX9_fail 0 = .ok (.aload_n 0, 1) := by decide +kernel
theorem dX9_fail_1 : decode cX9_fail 1 = .ok (.iload_n 1, 1) := by decide +kernel
theorem dX9_fail_2 : decode cX9_fail 2 = .ok (.putfield 34, 3) := by decide +kernel
theorem dX9_fail_5 : decode cX9_fail 5 = .ok (.aload_n 0, 1) := by decide +kernel
theorem dX9_fail_6 : decode cX9_fail 6 = .ok (.aload_n 0, 1) := by decide +kernel
theorem dX9_fail_7 : decode cX9_fail 7 = .ok (.getfield 22, 3) := by decide +kernel
theorem dX9_fail_10 : decode cX9_fail 10 = .ok (.putfield 37, 3) := by decide +kernel
theorem dX9_fail_13 : decode cX9_fail 13 = .ok (.iconst 0, 1) := by decide +kernel
theorem dX9_fail_14 : decode cX9_fail 14 = .ok (.ireturn, 1) := by decide +kernel
theorem dX6_empty_0 : decode cX6_empty 0 = .ok (.aload_n 0, 1) := by decide +kernel
theorem dX6_empty_1 : decode cX6_empty 1 = .ok (.iconst 4, 1) := by decide +kernel
theorem dX6_empty_2 : decode cX6_empty 2 = .ok (.putfield 9, 3) := by decide +kernel
theorem dX6_empty_5 : decode cX6_empty 5 = .ok (.aload_n 0, 1) := by decide +kernel
theorem dX6_empty_6 : decode cX6_empty 6 = .ok (.iconst 4, 1) := by decide +kernel
theorem dX6_empty_7 : decode cX6_empty 7 = .ok (.putfield 15, 3) := by decide +kernel
theorem dX6_empty_10 : decode cX6_empty 10 = .ok (.aload_n 0, 1) := by decide +kernel
theorem dX6_empty_11 : decode cX6_empty 11 = .ok (.bipush 10, 2) := by decide +kernel
theorem dX6_empty_13 : decode cX6_empty 13 = .ok (.putfield 18, 3) := by decide +kernel
theorem dX6_empty_16 : decode cX6_empty 16 = .ok (.aload_n 0, 1) := by decide +kernel
theorem dX6_empty_17 : decode cX6_empty 17 = .ok (.iconst 1, 1) := by decide +kernel
theorem dX6_empty_18 : decode cX6_empty 18 = .ok (.putfield 21, 3) := by decide +kernel
theorem dX6_empty_21 : decode cX6_empty 21 = .ok (.aload_n 0, 1) := by decide +kernel
theorem dX6_empty_22 : decode cX6_empty 22 = .ok (.iconst 3, 1) := by decide +kernel
theorem dX6_empty_23 : decode cX6_empty 23 = .ok (.putfield 24, 3) := by decide +kernel
theorem dX6_empty_26 : decode cX6_empty 26 = .ok (.aload_n 0, 1) := by decide +kernel
theorem dX6_empty_27 : decode cX6_empty 27 = .ok (.iconst 0, 1) := by decide +kernel
theorem dX6_empty_28 : decode cX6_empty 28 = .ok (.putfield 27, 3) := by decide +kernel
theorem dX6_empty_31 : decode cX6_empty 31 = .ok (.aload_n 0, 1) := by decide +kernel
theorem dX6_empty_32 : decode cX6_empty 32 = .ok (.iconst 0, 1) := by decide +kernel
theorem dX6_empty_33 : decode cX6_empty 33 = .ok (.putfield 30, 3) := by decide +kernel
theorem dX6_empty_36 : decode cX6_empty 36 = .ok (.aload_n 0, 1) := by decide +kernel
theorem dX6_empty_37 : decode cX6_empty 37 = .ok (.iconst 0, 1) := by decide +kernel
theorem dX6_empty_38 : decode cX6_empty 38 = .ok (.putfield 33, 3) := by decide +kernel
theorem dX6_empty_41 : decode cX6_empty 41 = .ok (.iconst 0, 1) := by decide +kernel
theorem dX6_empty_42 : decode cX6_empty 42 = .ok (.istore_n 1, 1) := by decide +kernel
theorem dX6_empty_43 : decode cX6_empty 43 = .ok (.iload_n 1, 1) := by decide +kernel
theorem dX6_empty_44 : decode cX6_empty 44 = .ok (.bipush 8, 2) := by decide +kernel
theorem dX6_empty_46 : decode cX6_empty 46 = .ok (.if_icmp .ge 23, 3) := by decide +kernel
theorem dX6_empty_49 : decode cX6_empty 49 = .ok (.aload_n 0, 1) := by decide +kernel
theorem dX6_empty_50 : decode cX6_empty 50 = .ok (.getfield 36, 3) := by decide +kernel
theorem dX6_empty_53 : decode cX6_empty 53 = .ok (.iload_n 1, 1) := by decide +kernel
theorem dX6_empty_54 : decode cX6_empty 54 = .ok (.iconst 0, 1) := by decide +kernel
theorem dX6_empty_55 : decode cX6_empty 55 = .ok (.iastore, 1) := by decide +kernel
theorem dX6_empty_56 : decode cX6_empty 56 = .ok (.aload_n 0, 1) := by decide +kernel
theorem dX6_empty_57 : decode cX6_empty 57 = .ok (.getfield 40, 3) := by decide +kernel
theorem dX6_empty_60 : decode cX6_empty 60 = .ok (.iload_n 1, 1) := by decide +kernel
theorem dX6_empty_61 : decode cX6_empty 61 = .ok (.iconst 0, 1) := by decide +kernel
theorem dX6_empty_62 : decode cX6_empty 62 = .ok (.iastore, 1) := by decide +kernel
theorem dX6_empty_63 : decode cX6_empty 63 = .ok (.iinc 1 1, 3) := by decide +kernel
theorem dX6_empty_66 : decode cX6_empty 66 = .ok (.goto (-23), 3) := by decide +kernel
theorem dX6_empty_69 : decode cX6_empty 69 = .ok (.return_, 1) := by decide +kernel
theorem dX8_empty_0 : decode cX8_empty 0 = .ok (.aload_n 0, 1) := by decide +kernel
theorem dX8_empty_1 : decode cX8_empty 1 = .ok (.iconst 0, 1) := by decide +kernel
theorem dX8_empty_2 : decode cX8_empty 2 = .ok (.putfield 27, 3) := by decide +kernel
theorem dX8_empty_5 : decode cX8_empty 5 = .ok (.aload_n 0, 1) := by decide +kernel
theorem dX8_empty_6 : decode cX8_empty 6 = .ok (.iconst 0, 1) := by decide +kernel
theorem dX8_empty_7 : decode cX8_empty 7 = .ok (.putfield 31, 3) := by decide +kernel
theorem dX8_empty_10 : decode cX8_empty 10 = .ok (.iconst 0, 1) := by decide +kernel
theorem dX8_empty_11 : decode cX8_empty 11 = .ok (.istore_n 1, 1) := by decide +kernel
theorem dX8_empty_12 : decode cX8_empty 12 = .ok (.iload_n 1, 1) := by decide +kernel
theorem dX8_empty_13 : decode cX8_empty 13 = .ok (.bipush 8, 2) := by decide +kernel
theorem dX8_empty_15 : decode cX8_empty 15 = .ok (.if_icmp .ge 37, 3) := by decide +kernel
theorem dX8_empty_18 : decode cX8_empty 18 = .ok (.aload_n 0, 1) := by decide +kernel
theorem dX8_empty_19 : decode cX8_empty 19 = .ok (.getfield 9, 3) := by decide +kernel
theorem dX8_empty_22 : decode cX8_empty 22 = .ok (.iload_n 1, 1) := by decide +kernel
theorem dX8_empty_23 : decode cX8_empty 23 = .ok (.iconst 0, 1) := by decide +kernel
theorem dX8_empty_24 : decode cX8_empty 24 = .ok (.iastore, 1) := by decide +kernel
theorem dX8_empty_25 : decode cX8_empty 25 = .ok (.aload_n 0, 1) := by decide +kernel
theorem dX8_empty_26 : decode cX8_empty 26 = .ok (.getfield 15, 3) := by decide +kernel
theorem dX8_empty_29 : decode cX8_empty 29 = .ok (.iload_n 1, 1) := by decide +kernel
theorem dX8_empty_30 : decode cX8_empty 30 = .ok (.iconst 0, 1) := by decide +kernel
theorem dX8_empty_31 : decode cX8_empty 31 = .ok (.iastore, 1) := by decide +kernel
theorem dX8_empty_32 : decode cX8_empty 32 = .ok (.aload_n 0, 1) := by decide +kernel
theorem dX8_empty_33 : decode cX8_empty 33 = .ok (.getfield 18, 3) := by decide +kernel
theorem dX8_empty_36 : decode cX8_empty 36 = .ok (.iload_n 1, 1) := by decide +kernel
theorem dX8_empty_37 : decode cX8_empty 37 = .ok (.iconst 0, 1) := by decide +kernel
theorem dX8_empty_38 : decode cX8_empty 38 = .ok (.iastore, 1) := by decide +kernel
theorem dX8_empty_39 : decode cX8_empty 39 = .ok (.aload_n 0, 1) := by decide +kernel
theorem dX8_empty_40 : decode cX8_empty 40 = .ok (.getfield 21, 3) := by decide +kernel
theorem dX8_empty_43 : decode cX8_empty 43 = .ok (.iload_n 1, 1) := by decide +kernel
theorem dX8_empty_44 : decode cX8_empty 44 = .ok (.iconst 0, 1) := by decide +kernel
theorem dX8_empty_45 : decode cX8_empty 45 = .ok (.iastore, 1) := by decide +kernel
theorem dX8_empty_46 : decode cX8_empty 46 = .ok (.iinc 1 1, 3) := by decide +kernel
theorem dX8_empty_49 : decode cX8_empty 49 = .ok (.goto (-37), 3) := by decide +kernel
theorem dX8_empty_52 : decode cX8_empty 52 = .ok (.iconst 0, 1) := by decide +kernel
theorem dX8_empty_53 : decode cX8_empty 53 = .ok (.istore_n 1, 1) := by decide +kernel
theorem dX8_empty_54 : decode cX8_empty 54 = .ok (.iload_n 1, 1) := by decide +kernel
theorem dX8_empty_55 : decode cX8_empty 55 = .ok (.bipush 64, 2) := by decide +kernel
theorem dX8_empty_57 : decode cX8_empty 57 = .ok (.if_icmp .ge 16, 3) := by decide +kernel
theorem dX8_empty_60 : decode cX8_empty 60 = .ok (.aload_n 0, 1) := by decide +kernel
theorem dX8_empty_61 : decode cX8_empty 61 = .ok (.getfield 24, 3) := by decide +kernel
theorem dX8_empty_64 : decode cX8_empty 64 = .ok (.iload_n 1, 1) := by decide +kernel
theorem dX8_empty_65 : decode cX8_empty 65 = .ok (.iconst 0, 1) := by decide +kernel
theorem dX8_empty_66 : decode cX8_empty 66 = .ok (.iastore, 1) := by decide +kernel
theorem dX8_empty_67 : decode cX8_empty 67 = .ok (.iinc 1 1, 3) := by decide +kernel
theorem dX8_empty_70 : decode cX8_empty 70 = .ok (.goto (-16), 3) := by decide +kernel
theorem dX8_empty_73 : decode cX8_empty 73 = .ok (.return_, 1) := by decide +kernel
theorem dX6_copyFrom_0 : decode cX6_copyFrom 0 = .ok (.aload_n 0, 1) := by decide +kernel
theorem dX6_copyFrom_1 : decode cX6_copyFrom 1 = .ok (.aload_n 1, 1) := by decide +kernel
theorem dX6_copyFrom_2 : decode cX6_copyFrom 2 = .ok (.getfield 9, 3) := by decide +kernel
theorem dX6_copyFrom_5 : decode cX6_copyFrom 5 = .ok (.putfield 9, 3) := by decide +kernel
theorem dX6_copyFrom_8 : decode cX6_copyFrom 8 = .ok (.aload_n 0, 1) := by decide +kernel
theorem dX6_copyFrom_9 : decode cX6_copyFrom 9 = .ok (.aload_n 1, 1) := by decide +kernel
theorem dX6_copyFrom_10 : decode cX6_copyFrom 10 = .ok (.getfield 15, 3) := by decide +kernel
theorem dX6_copyFrom_13 : decode cX6_copyFrom 13 = .ok (.putfield 15, 3) := by decide +kernel
theorem dX6_copyFrom_16 : decode cX6_copyFrom 16 = .ok (.aload_n 0, 1) := by decide +kernel
theorem dX6_copyFrom_17 : decode cX6_copyFrom 17 = .ok (.aload_n 1, 1) := by decide +kernel
theorem dX6_copyFrom_18 : decode cX6_copyFrom 18 = .ok (.getfield 18, 3) := by decide +kernel
theorem dX6_copyFrom_21 : decode cX6_copyFrom 21 = .ok (.putfield 18, 3) := by decide +kernel
theorem dX6_copyFrom_24 : decode cX6_copyFrom 24 = .ok (.aload_n 0, 1) := by decide +kernel
theorem dX6_copyFrom_25 : decode cX6_copyFrom 25 = .ok (.aload_n 1, 1) := by decide +kernel
theorem dX6_copyFrom_26 : decode cX6_copyFrom 26 = .ok (.getfield 21, 3) := by decide +kernel
theorem dX6_copyFrom_29 : decode cX6_copyFrom 29 = .ok (.putfield 21, 3) := by decide +kernel
theorem dX6_copyFrom_32 : decode cX6_copyFrom 32 = .ok (.aload_n 0, 1) := by decide +kernel
theorem dX6_copyFrom_33 : decode cX6_copyFrom 33 = .ok (.aload_n 1, 1) := by decide +kernel
theorem dX6_copyFrom_34 : decode cX6_copyFrom 34 = .ok (.getfield 24, 3) := by decide +kernel
theorem dX6_copyFrom_37 : decode cX6_copyFrom 37 = .ok (.putfield 24, 3) := by decide +kernel
theorem dX6_copyFrom_40 : decode cX6_copyFrom 40 = .ok (.aload_n 0, 1) := by decide +kernel
theorem dX6_copyFrom_41 : decode cX6_copyFrom 41 = .ok (.aload_n 1, 1) := by decide +kernel
theorem dX6_copyFrom_42 : decode cX6_copyFrom 42 = .ok (.getfield 27, 3) := by decide +kernel
theorem dX6_copyFrom_45 : decode cX6_copyFrom 45 = .ok (.putfield 27, 3) := by decide +kernel
theorem dX6_copyFrom_48 : decode cX6_copyFrom 48 = .ok (.aload_n 0, 1) := by decide +kernel
theorem dX6_copyFrom_49 : decode cX6_copyFrom 49 = .ok (.aload_n 1, 1) := by decide +kernel
theorem dX6_copyFrom_50 : decode cX6_copyFrom 50 = .ok (.getfield 30, 3) := by decide +kernel
theorem dX6_copyFrom_53 : decode cX6_copyFrom 53 = .ok (.putfield 30, 3) := by decide +kernel
theorem dX6_copyFrom_56 : decode cX6_copyFrom 56 = .ok (.aload_n 0, 1) := by decide +kernel
theorem dX6_copyFrom_57 : decode cX6_copyFrom 57 = .ok (.aload_n 1, 1) := by decide +kernel
theorem dX6_copyFrom_58 : decode cX6_copyFrom 58 = .ok (.getfield 33, 3) := by decide +kernel
theorem dX6_copyFrom_61 : decode cX6_copyFrom 61 = .ok (.putfield 33, 3) := by decide +kernel
theorem dX6_copyFrom_64 : decode cX6_copyFrom 64 = .ok (.aload_n 1, 1) := by decide +kernel
theorem dX6_copyFrom_65 : decode cX6_copyFrom 65 = .ok (.getfield 36, 3) := by decide +kernel
theorem dX6_copyFrom_68 : decode cX6_copyFrom 68 = .ok (.iconst 0, 1) := by decide +kernel
theorem dX6_copyFrom_69 : decode cX6_copyFrom 69 = .ok (.aload_n 0, 1) := by decide +kernel
theorem dX6_copyFrom_70 : decode cX6_copyFrom 70 = .ok (.getfield 36, 3) := by decide +kernel
theorem dX6_copyFrom_73 : decode cX6_copyFrom 73 = .ok (.iconst 0, 1) := by decide +kernel
theorem dX6_copyFrom_74 : decode cX6_copyFrom 74 = .ok (.bipush 8, 2) := by decide +kernel
theorem dX6_copyFrom_76 : decode cX6_copyFrom 76 = .ok (.invokestatic 46, 3) := by decide +kernel
theorem kM_RX6_46 : Cond.methodLink RX6 46 arraycopyName ∈ gT := List.mem_filter.mpr ⟨List.mem_of_getElem? (i := 840) (by decide +kernel), by decide +kernel⟩
theorem dX6_copyFrom_79 : decode cX6_copyFrom 79 = .ok (.aload_n 1, 1) := by decide +kernel
theorem dX6_copyFrom_80 : decode cX6_copyFrom 80 = .ok (.getfield 40, 3) := by decide +kernel
theorem dX6_copyFrom_83 : decode cX6_copyFrom 83 = .ok (.iconst 0, 1) := by decide +kernel
theorem dX6_copyFrom_84 : decode cX6_copyFrom 84 = .ok (.aload_n 0, 1) := by decide +kernel
theorem dX6_copyFrom_85 : decode cX6_copyFrom 85 = .ok (.getfield 40, 3) := by decide +kernel
theorem dX6_copyFrom_88 : decode cX6_copyFrom 88 = .ok (.iconst 0, 1) := by decide +kernel
theorem dX6_copyFrom_89 : decode cX6_copyFrom 89 = .ok (.bipush 8, 2) := by decide +kernel
theorem dX6_copyFrom_91 : decode cX6_copyFrom 91 = .ok (.invokestatic 46, 3) := by decide +kernel
theorem dX6_copyFrom_94 : decode cX6_copyFrom 94 = .ok (.aload_n 1, 1) := by decide +kernel
theorem dX6_copyFrom_95 : decode cX6_copyFrom 95 = .ok (.getfield 43, 3) := by decide +kernel
theorem dX6_copyFrom_98 : decode cX6_copyFrom 98 = .ok (.iconst 0, 1) := by decide +kernel
theorem dX6_copyFrom_99 : decode cX6_copyFrom 99 = .ok (.aload_n 0, 1) := by decide +kernel
theorem dX6_copyFrom_100 : decode cX6_copyFrom 100 = .ok (.getfield 43, 3) := by decide +kernel
theorem dX6_copyFrom_103 : decode cX6_copyFrom 103 = .ok (.iconst 0, 1) := by decide +kernel
theorem dX6_copyFrom_104 : decode cX6_copyFrom 104 = .ok (.bipush 56, 2) := by decide +kernel
theorem dX6_copyFrom_106 : decode cX6_copyFrom 106 = .ok (.invokestatic 46, 3) := by decide +kernel
theorem dX6_copyFrom_109 : decode cX6_copyFrom 109 = .ok (.return_, 1) := by decide +kernel
theorem dX8_copyFrom_0 : decode cX8_copyFrom 0 = .ok (.aload_n 0, 1) := by decide +kernel
theorem dX8_copyFrom_1 : decode cX8_copyFrom 1 = .ok (.aload_n 1, 1) := by decide +kernel
theorem dX8_copyFrom_2 : decode cX8_copyFrom 2 = .ok (.getfield 27, 3) := by decide +kernel
theorem dX8_copyFrom_5 : decode cX8_copyFrom 5 = .ok (.putfield 27, 3) := by decide +kernel
theorem dX8_copyFrom_8 : decode cX8_copyFrom 8 = .ok (.aload_n 0, 1) := by decide +kernel
theorem dX8_copyFrom_9 : decode cX8_copyFrom 9 = .ok (.aload_n 1, 1) := by decide +kernel
theorem dX8_copyFrom_10 : decode cX8_copyFrom 10 = .ok (.getfield 31, 3) := by decide +kernel
theorem dX8_copyFrom_13 : decode cX8_copyFrom 13 = .ok (.putfield 31, 3) := by decide +kernel
theorem dX8_copyFrom_16 : decode cX8_copyFrom 16 = .ok (.aload_n 1, 1) := by decide +kernel
theorem dX8_copyFrom_17 : decode cX8_copyFrom 17 = .ok (.getfield 9, 3) := by decide +kernel
theorem dX8_copyFrom_20 : decode cX8_copyFrom 20 = .ok (.iconst 0, 1) := by decide +kernel
theorem dX8_copyFrom_21 : decode cX8_copyFrom 21 = .ok (.aload_n 0, 1) := by decide +kernel
theorem dX8_copyFrom_22 : decode cX8_copyFrom 22 = .ok (.getfield 9, 3) := by decide +kernel
theorem dX8_copyFrom_25 : decode cX8_copyFrom 25 = .ok (.iconst 0, 1) := by decide +kernel
theorem dX8_copyFrom_26 : decode cX8_copyFrom 26 = .ok (.bipush 8, 2) := by decide +kernel
theorem dX8_copyFrom_28 : decode cX8_copyFrom 28 = .ok (.invokestatic 37, 3) := by decide +kernel
theorem kM_RX8_37 : Cond.methodLink RX8 37 arraycopyName ∈ gT := List.mem_filter.mpr ⟨List.mem_of_getElem? (i := 847) (by decide +kernel), by decide +kernel⟩
theorem dX8_copyFrom_31 : decode cX8_copyFrom 31 = .ok (.aload_n 1, 1) := by decide +kernel
theorem dX8_copyFrom_32 : decode cX8_copyFrom 32 = .ok (.getfield 15, 3) := by decide +kernel
theorem dX8_copyFrom_35 : decode cX8_copyFrom 35 = .ok (.iconst 0, 1) := by decide +kernel
theorem dX8_copyFrom_36 : decode cX8_copyFrom 36 = .ok (.aload_n 0, 1) := by decide +kernel
theorem dX8_copyFrom_37 : decode cX8_copyFrom 37 = .ok (.getfield 15, 3) := by decide +kernel
theorem dX8_copyFrom_40 : decode cX8_copyFrom 40 = .ok (.iconst 0, 1) := by decide +kernel
theorem dX8_copyFrom_41 : decode cX8_copyFrom 41 = .ok (.bipush 8, 2) := by decide +kernel
theorem dX8_copyFrom_43 : decode cX8_copyFrom 43 = .ok (.invokestatic 37, 3) := by decide +kernel
theorem dX8_copyFrom_46 : decode cX8_copyFrom 46 = .ok (.aload_n 1, 1) := by decide +kernel
theorem dX8_copyFrom_47 : decode cX8_copyFrom 47 = .ok (.getfield 18, 3) := by decide +kernel
theorem dX8_copyFrom_50 : decode cX8_copyFrom 50 = .ok (.iconst 0, 1) := by decide +kernel
theorem dX8_copyFrom_51 : decode cX8_copyFrom 51 = .ok (.aload_n 0, 1) := by decide +kernel
theorem dX8_copyFrom_52 : decode cX8_copyFrom 52 = .ok (.getfield 18, 3) := by decide +kernel
theorem dX8_copyFrom_55 : decode cX8_copyFrom 55 = .ok (.iconst 0, 1) := by decide +kernel
theorem dX8_copyFrom_56 : decode cX8_copyFrom 56 = .ok (.bipush 8, 2) := by decide +kernel
theorem dX8_copyFrom_58 : decode cX8_copyFrom 58 = .ok (.invokestatic 37, 3) := by decide +kernel
theorem dX8_copyFrom_61 : decode cX8_copyFrom 61 = .ok (.aload_n 1, 1) := by decide +kernel
theorem dX8_copyFrom_62 : decode cX8_copyFrom 62 = .ok (.getfield 21, 3) := by decide +kernel
theorem dX8_copyFrom_65 : decode cX8_copyFrom 65 = .ok (.iconst 0, 1) := by decide +kernel
theorem dX8_copyFrom_66 : decode cX8_copyFrom 66 = .ok (.aload_n 0, 1) := by decide +kernel
theorem dX8_copyFrom_67 : decode cX8_copyFrom 67 = .ok (.getfield 21, 3) := by decide +kernel
theorem dX8_copyFrom_70 : decode cX8_copyFrom 70 = .ok (.iconst 0, 1) := by decide +kernel
theorem dX8_copyFrom_71 : decode cX8_copyFrom 71 = .ok (.bipush 8, 2) := by decide +kernel
theorem dX8_copyFrom_73 : decode cX8_copyFrom 73 = .ok (.invokestatic 37, 3) := by decide +kernel
theorem dX8_copyFrom_76 : decode cX8_copyFrom 76 = .ok (.aload_n 1, 1) := by decide +kernel
theorem dX8_copyFrom_77 : decode cX8_copyFrom 77 = .ok (.getfield 24, 3) := by decide +kernel
theorem dX8_copyFrom_80 : decode cX8_copyFrom 80 = .ok (.iconst 0, 1) := by decide +kernel
theorem dX8_copyFrom_81 : decode cX8_copyFrom 81 = .ok (.aload_n 0, 1) := by decide +kernel
theorem dX8_copyFrom_82 : decode cX8_copyFrom 82 = .ok (.getfield 24, 3) := by decide +kernel
theorem dX8_copyFrom_85 : decode cX8_copyFrom 85 = .ok (.iconst 0, 1) := by decide +kernel
theorem dX8_copyFrom_86 : decode cX8_copyFrom 86 = .ok (.bipush 64, 2) := by decide +kernel
theorem dX8_copyFrom_88 : decode cX8_copyFrom 88 = .ok (.invokestatic 37, 3) := by decide +kernel
theorem dX8_copyFrom_91 : decode cX8_copyFrom 91 = .ok (.return_, 1) := by decide +kernel
theorem dX7_copyFrom_0 : decode cX7_copyFrom 0 = .ok (.aload_n 0, 1) := by decide +kernel
theorem dX7_copyFrom_1 : decode cX7_copyFrom 1 = .ok (.aload_n 1, 1) := by decide +kernel
theorem dX7_copyFrom_2 : decode cX7_copyFrom 2 = .ok (.getfield 9, 3) := by decide +kernel
theorem dX7_copyFrom_5 : decode cX7_copyFrom 5 = .ok (.putfield 9, 3) := by decide +kernel
theorem dX7_copyFrom_8 : decode cX7_copyFrom 8 = .ok (.aload_n 0, 1) := by decide +kernel
theorem dX7_copyFrom_9 : decode cX7_copyFrom 9 = .ok (.aload_n 1, 1) := by decide +kernel
theorem dX7_copyFrom_10 : decode cX7_copyFrom 10 = .ok (.getfield 15, 3) := by decide +kernel
theorem dX7_copyFrom_13 : decode cX7_copyFrom 13 = .ok (.putfield 15, 3) := by decide +kernel
theorem dX7_copyFrom_16 : decode cX7_copyFrom 16 = .ok (.aload_n 0, 1) := by decide +kernel
theorem dX7_copyFrom_17 : decode cX7_copyFrom 17 = .ok (.aload_n 1, 1) := by decide +kernel
theorem dX7_copyFrom_18 : decode cX7_copyFrom 18 = .ok (.getfield 19, 3) := by decide +kernel
theorem dX7_copyFrom_21 : decode cX7_copyFrom 21 = .ok (.putfield 19, 3) := by decide +kernel
theorem dX7_copyFrom_24 : decode cX7_copyFrom 24 = .ok (.aload_n 1, 1) := by decide +kernel
theorem dX7_copyFrom_25 : decode cX7_copyFrom 25 = .ok (.getfield 22, 3) := by decide +kernel
theorem dX7_copyFrom_28 : decode cX7_copyFrom 28 = .ok (.iconst 0, 1) := by decide +kernel
theorem dX7_copyFrom_29 : decode cX7_copyFrom 29 = .ok (.aload_n 0, 1) := by decide +kernel
theorem dX7_copyFrom_30 : decode cX7_copyFrom 30 = .ok (.getfield 22, 3) := by decide +kernel
theorem dX7_copyFrom_33 : decode cX7_copyFrom 33 = .ok (.iconst 0, 1) := by decide +kernel
theorem dX7_copyFrom_34 : decode cX7_copyFrom 34 = .ok (.bipush 40, 2) := by decide +kernel
theorem dX7_copyFrom_36 : decode cX7_copyFrom 36 = .ok (.invokestatic 35, 3) := by decide +kernel
theorem kM_RX7_35 : Cond.methodLink RX7 35 arraycopyName ∈ gT := List.mem_filter.mpr ⟨List.mem_of_getElem? (i := 904) (by decide +kernel), by decide +kernel⟩
theorem dX7_copyFrom_39 : decode cX7_copyFrom 39 = .ok (.aload_n 1, 1) := by decide +kernel
theorem dX7_copyFrom_40 : decode cX7_copyFrom 40 = .ok (.getfield 26, 3) := by decide +kernel
theorem dX7_copyFrom_43 : decode cX7_copyFrom 43 = .ok (.iconst 0, 1) := by decide +kernel
theorem dX7_copyFrom_44 : decode cX7_copyFrom 44 = .ok (.aload_n 0, 1) := by decide +kernel
theorem dX7_copyFrom_45 : decode cX7_copyFrom 45 = .ok (.getfield 26, 3) := by decide +kernel
theorem dX7_copyFrom_48 : decode cX7_copyFrom 48 = .ok (.iconst 0, 1) := by decide +kernel
theorem dX7_copyFrom_49 : decode cX7_copyFrom 49 = .ok (.bipush 40, 2) := by decide +kernel
theorem dX7_copyFrom_51 : decode cX7_copyFrom 51 = .ok (.invokestatic 35, 3) := by decide +kernel
theorem dX7_copyFrom_54 : decode cX7_copyFrom 54 = .ok (.aload_n 1, 1) := by decide +kernel
theorem dX7_copyFrom_55 : decode cX7_copyFrom 55 = .ok (.getfield 29, 3) := by decide +kernel
theorem dX7_copyFrom_58 : decode cX7_copyFrom 58 = .ok (.iconst 0, 1) := by decide +kernel
theorem dX7_copyFrom_59 : decode cX7_copyFrom 59 = .ok (.aload_n 0, 1) := by decide +kernel
theorem dX7_copyFrom_60 : decode cX7_copyFrom 60 = .ok (.getfield 29, 3) := by decide +kernel
theorem dX7_copyFrom_63 : decode cX7_copyFrom 63 = .ok (.iconst 0, 1) := by decide +kernel
theorem dX7_copyFrom_64 : decode cX7_copyFrom 64 = .ok (.bipush 40, 2) := by decide +kernel
theorem dX7_copyFrom_66 : decode cX7_copyFrom 66 = .ok (.invokestatic 35, 3) := by decide +kernel
theorem dX7_copyFrom_69 : decode cX7_copyFrom 69 = .ok (.return_, 1) := by decide +kernel
theorem dX7_forget_0 : decode cX7_forget 0 = .ok (.aload_n 0, 1) := by decide +kernel
theorem dX7_forget_1 : decode cX7_forget 1 = .ok (.iconst 0, 1) := by decide +kernel
theorem dX7_forget_2 : decode cX7_forget 2 = .ok (.putfield 9, 3) := by decide +kernel
theorem dX7_forget_5 : decode cX7_forget 5 = .ok (.aload_n 0, 1) := by decide +kernel
theorem dX7_forget_6 : decode cX7_forget 6 = .ok (.iconst 0, 1) := by decide +kernel
theorem dX7_forget_7 : decode cX7_forget 7 = .ok (.putfield 15, 3) := by decide +kernel
theorem dX7_forget_10 : decode cX7_forget 10 = .ok (.aload_n 0, 1) := by decide +kernel
theorem dX7_forget_11 : decode cX7_forget 11 = .ok (.iconst 0, 1) := by decide +kernel
theorem dX7_forget_12 : decode cX7_forget 12 = .ok (.putfield 19, 3) := by decide +kernel
theorem dX7_forget_15 : decode cX7_forget 15 = .ok (.return_, 1) := by decide +kernel
theorem dX4_forget_0 : decode cX4_forget 0 = .ok (.aload_n 0, 1) := by decide +kernel
theorem dX4_forget_1 : decode cX4_forget 1 = .ok (.iconst 0, 1) := by decide +kernel
theorem dX4_forget_2 : decode cX4_forget 2 = .ok (.putfield 9, 3) := by decide +kernel
theorem dX4_forget_5 : decode cX4_forget 5 = .ok (.aload_n 0, 1) := by decide +kernel
theorem dX4_forget_6 : decode cX4_forget 6 = .ok (.iconst 0, 1) := by decide +kernel
theorem dX4_forget_7 : decode cX4_forget 7 = .ok (.putfield 15, 3) := by decide +kernel
theorem dX4_forget_10 : decode cX4_forget 10 = .ok (.return_, 1) := by decide +kernel
set_option maxHeartbeats 4000000 in
set_option maxRecDepth 100000 in
theorem c_addNumber (l : Launch) (D : va_G) (cy : Nat → ClassId) (h : Nat) (v : Int32) (h0 : Nat) (n0 : Nat) (f : Nat → Int32) (sz : Nat) (hn0 : n0 + 4 ≤ 940) : MV l yX9_addNumber cX9_addNumber 3 (Rm 0 0 0 0) D cy [.ref h, .int v] sz [(h, .inr (9, [.ref h0, .int (nI n0), .int 0, .int 0, .int 0, .int 0, .int 0, .int 0, .int 0, .int 0, .int 0])), (h0, .inl (cy 1, 940, .inl f))] (fun _ : Nat → Int32 => True) (fun u : Nat → Int32 => [(h, .inr (9, [.ref h0, .int (nI (n0 + 4)), .int 0, .int 0, .int 0, .int 0, .int 0, .int 0, .int 0, .int 0, .int 0])), (h0, .inl (cy 1, 940, .inl u))]) := by
  refine MV.enter (by decide) (Nat.le_of_ble_eq_true rfl) ?_
  intro p e s m below meth c ls A hsz hAe C hP hD hS hl
  have C : Cx p s m _ meth c cX9_addNumber 3 none RX9 "addNumber" D cy A := C
  have hx := C.1
  have hb := C.2.1
  have hl : lv_has ls 3 [(0, .ref h), (1, .int v)] := hl
  refine lv_bipush (v := 24) hx hb dX9_addNumber_0 (by decide) ?_
  refine lv_istore_n (lv' := [(2, .int 24), (0, .ref h), (1, .int v)]) hx hb dX9_addNumber_2 rfl hl (by decide) rfl (fun ls hl => ?_)
  refine lv_iload_n hx hb dX9_addNumber_3 rfl (lv_at hl 0 rfl) ?_
  refine lv_if_lt (tgt := 51) hx hb dX9_addNumber_4 (by decide) (fun c_0 => absurd c_0 (by decide)) (fun _ => ?_)
  refine lv_aload_n hx hb dX9_addNumber_7 rfl (lv_at hl 1 rfl) ?_
  refine q_get (v := .int (nI n0)) C hP 0 1 rfl rfl inX9 (by decide) kF_RX9_15 rfl rfl dX9_addNumber_8 ?_
  refine lv_aload_n hx hb dX9_addNumber_11 rfl (lv_at hl 1 rfl) ?_
  refine q_get (v := .ref h0) C hP 0 0 rfl rfl inX9 (by decide) kF_RX9_9 rfl rfl dX9_addNumber_12 ?_
  refine q_alen (v := 940) C hP 1 1 rfl rfl rfl dX9_addNumber_15 ?_
  refine lv_icmp_ge (tgt := 45) hx hb dX9_addNumber_16 (by decide) (fun c_0 => absurd c_0 (nI_ge (b := 940) (by omega) (by decide))) (fun _ => ?_)
  refine lv_aload_n hx hb dX9_addNumber_19 rfl (lv_at hl 1 rfl) ?_
  refine q_get (v := .ref h0) C hP 0 0 rfl rfl inX9 (by decide) kF_RX9_9 rfl rfl dX9_addNumber_20 ?_
  refine lv_aload_n hx hb dX9_addNumber_23 rfl (lv_at hl 1 rfl) ?_
  refine q_get (v := .int (nI n0)) C hP 0 1 rfl rfl inX9 (by decide) kF_RX9_15 rfl rfl dX9_addNumber_24 ?_
  refine lv_iload_n hx hb dX9_addNumber_27 rfl (lv_at hl 2 rfl) ?_
  refine lv_iload_n hx hb dX9_addNumber_28 rfl (lv_at hl 0 rfl) ?_
  refine lv_iushr (v := ((v : Int32).toUInt32 >>> ((24 : Int32).toUInt32 &&& Int32.toUInt32 31)).toInt32) hx hb dX9_addNumber_29 rfl ?_
  refine lv_sipush (v := 255) hx hb dX9_addNumber_30 (by decide) ?_
  refine lv_iand hx hb dX9_addNumber_33 ?_
  refine q_iast (g := upd f n0 ((((v : Int32).toUInt32 >>> ((24 : Int32).toUInt32 &&& Int32.toUInt32 31)).toInt32) &&& 255)) (w' := [(h, .inr (9, [.ref h0, .int (nI n0), .int 0, .int 0, .int 0, .int 0, .int 0, .int 0, .int 0, .int 0, .int 0])), (h0, .inl (cy 1, 940, .inl (upd f n0 ((((v : Int32).toUInt32 >>> ((24 : Int32).toUInt32 &&& Int32.toUInt32 31)).toInt32) &&& 255))))]) C hP hD hS 1 rfl (vp_in_nI (by omega) (by decide)) (by rw [nI_clamp (by omega)]) rfl dX9_addNumber_34 (fun H locs hP hD hS => ?_)
  refine lv_aload_n hx hb dX9_addNumber_35 rfl (lv_at hl 1 rfl) ?_
  refine lv_dup hx hb dX9_addNumber_36 rfl ?_
  refine q_get (v := .int (nI n0)) C hP 0 1 rfl rfl inX9 (by decide) kF_RX9_15 rfl rfl dX9_addNumber_37 ?_
  refine lv_iconst (v := 1) hx hb dX9_addNumber_40 (by decide) ?_
  refine lv_iadd hx hb dX9_addNumber_41 ?_
  refine q_val (v := (nI (n0 + 1))) (nI_add n0 1) ?_
  refine q_put (v := .int (nI (n0 + 1))) (w' := [(h, .inr (9, [.ref h0, .int (nI (n0 + 1)), .int 0, .int 0, .int 0, .int 0, .int 0, .int 0, .int 0, .int 0, .int 0])), (h0, .inl (cy 1, 940, .inl (upd f n0 ((((v : Int32).toUInt32 >>> ((24 : Int32).toUInt32 &&& Int32.toUInt32 31)).toInt32) &&& 255))))]) (ty := .int) C hP hD hS 0 1 rfl rfl inX9 tyX9 tyX9_ok nmX9 (by decide) kF_RX9_15 rfl rfl rfl rfl rfl (Nat.le_of_ble_eq_true rfl) rfl dX9_addNumber_42 (fun H locs hP hD hS => ?_)
  refine lv_iinc (v := 16) (lv' := [(2, .int 16), (0, .ref h), (1, .int v)]) hx hb dX9_addNumber_45 hl (k := 0) rfl (by decide) (by decide) rfl (fun ls hl => ?_)
  refine lv_goto (tgt := 3) hx hb dX9_addNumber_48 (by decide) ?_
  refine lv_iload_n hx hb dX9_addNumber_3 rfl (lv_at hl 0 rfl) ?_
  refine lv_if_lt (tgt := 51) hx hb dX9_addNumber_4 (by decide) (fun c_0 => absurd c_0 (by decide)) (fun _ => ?_)
  refine lv_aload_n hx hb dX9_addNumber_7 rfl (lv_at hl 1 rfl) ?_
  refine q_get (v := .int (nI (n0 + 1))) C hP 0 1 rfl rfl inX9 (by decide) kF_RX9_15 rfl rfl dX9_addNumber_8 ?_
  refine lv_aload_n hx hb dX9_addNumber_11 rfl (lv_at hl 1 rfl) ?_
  refine q_get (v := .ref h0) C hP 0 0 rfl rfl inX9 (by decide) kF_RX9_9 rfl rfl dX9_addNumber_12 ?_
  refine q_alen (v := 940) C hP 1 1 rfl rfl rfl dX9_addNumber_15 ?_
  refine lv_icmp_ge (tgt := 45) hx hb dX9_addNumber_16 (by decide) (fun c_0 => absurd c_0 (nI_ge (b := 940) (by omega) (by decide))) (fun _ => ?_)
  refine lv_aload_n hx hb dX9_addNumber_19 rfl (lv_at hl 1 rfl) ?_
  refine q_get (v := .ref h0) C hP 0 0 rfl rfl inX9 (by decide) kF_RX9_9 rfl rfl dX9_addNumber_20 ?_
  refine lv_aload_n hx hb dX9_addNumber_23 rfl (lv_at hl 1 rfl) ?_
  refine q_get (v := .int (nI (n0 + 1))) C hP 0 1 rfl rfl inX9 (by decide) kF_RX9_15 rfl rfl dX9_addNumber_24 ?_
  refine lv_iload_n hx hb dX9_addNumber_27 rfl (lv_at hl 2 rfl) ?_
  refine lv_iload_n hx hb dX9_addNumber_28 rfl (lv_at hl 0 rfl) ?_
  refine lv_iushr (v := ((v : Int32).toUInt32 >>> ((16 : Int32).toUInt32 &&& Int32.toUInt32 31)).toInt32) hx hb dX9_addNumber_29 rfl ?_
  refine lv_sipush (v := 255) hx hb dX9_addNumber_30 (by decide) ?_
  refine lv_iand hx hb dX9_addNumber_33 ?_
  refine q_iast (g := upd (upd f n0 ((((v : Int32).toUInt32 >>> ((24 : Int32).toUInt32 &&& Int32.toUInt32 31)).toInt32) &&& 255)) (n0 + 1) ((((v : Int32).toUInt32 >>> ((16 : Int32).toUInt32 &&& Int32.toUInt32 31)).toInt32) &&& 255)) (w' := [(h, .inr (9, [.ref h0, .int (nI (n0 + 1)), .int 0, .int 0, .int 0, .int 0, .int 0, .int 0, .int 0, .int 0, .int 0])), (h0, .inl (cy 1, 940, .inl (upd (upd f n0 ((((v : Int32).toUInt32 >>> ((24 : Int32).toUInt32 &&& Int32.toUInt32 31)).toInt32) &&& 255)) (n0 + 1) ((((v : Int32).toUInt32 >>> ((16 : Int32).toUInt32 &&& Int32.toUInt32 31)).toInt32) &&& 255))))]) C hP hD hS 1 rfl (vp_in_nI (by omega) (by decide)) (by rw [nI_clamp (by omega)]) rfl dX9_addNumber_34 (fun H locs hP hD hS => ?_)
  refine lv_aload_n hx hb dX9_addNumber_35 rfl (lv_at hl 1 rfl) ?_
  refine lv_dup hx hb dX9_addNumber_36 rfl ?_
  refine q_get (v := .int (nI (n0 + 1))) C hP 0 1 rfl rfl inX9 (by decide) kF_RX9_15 rfl rfl dX9_addNumber_37 ?_
  refine lv_iconst (v := 1) hx hb dX9_addNumber_40 (by decide) ?_
  refine lv_iadd hx hb dX9_addNumber_41 ?_
  refine q_val (v := (nI (n0 + 2))) (nI_add (n0 + 1) 1) ?_
  refine q_put (v := .int (nI (n0 + 2))) (w' := [(h, .inr (9, [.ref h0, .int (nI (n0 + 2)), .int 0, .int 0, .int 0, .int 0, .int 0, .int 0, .int 0, .int 0, .int 0])), (h0, .inl (cy 1, 940, .inl (upd (upd f n0 ((((v : Int32).toUInt32 >>> ((24 : Int32).toUInt32 &&& Int32.toUInt32 31)).toInt32) &&& 255)) (n0 + 1) ((((v : Int32).toUInt32 >>> ((16 : Int32).toUInt32 &&& Int32.toUInt32 31)).toInt32) &&& 255))))]) (ty := .int) C hP hD hS 0 1 rfl rfl inX9 tyX9 tyX9_ok nmX9 (by decide) kF_RX9_15 rfl rfl rfl rfl rfl (Nat.le_of_ble_eq_true rfl) rfl dX9_addNumber_42 (fun H locs hP hD hS => ?_)
  refine lv_iinc (v := 8) (lv' := [(2, .int 8), (0, .ref h), (1, .int v)]) hx hb dX9_addNumber_45 hl (k := 0) rfl (by decide) (by decide) rfl (fun ls hl => ?_)
  refine lv_goto (tgt := 3) hx hb dX9_addNumber_48 (by decide) ?_
  refine lv_iload_n hx hb dX9_addNumber_3 rfl (lv_at hl 0 rfl) ?_
  refine lv_if_lt (tgt := 51) hx hb dX9_addNumber_4 (by decide) (fun c_0 => absurd c_0 (by decide)) (fun _ => ?_)
  refine lv_aload_n hx hb dX9_addNumber_7 rfl (lv_at hl 1 rfl) ?_
  refine q_get (v := .int (nI (n0 + 2))) C hP 0 1 rfl rfl inX9 (by decide) kF_RX9_15 rfl rfl dX9_addNumber_8 ?_
  refine lv_aload_n hx hb dX9_addNumber_11 rfl (lv_at hl 1 rfl) ?_
  refine q_get (v := .ref h0) C hP 0 0 rfl rfl inX9 (by decide) kF_RX9_9 rfl rfl dX9_addNumber_12 ?_
  refine q_alen (v := 940) C hP 1 1 rfl rfl rfl dX9_addNumber_15 ?_
  refine lv_icmp_ge (tgt := 45) hx hb dX9_addNumber_16 (by decide) (fun c_0 => absurd c_0 (nI_ge (b := 940) (by omega) (by decide))) (fun _ => ?_)
  refine lv_aload_n hx hb dX9_addNumber_19 rfl (lv_at hl 1 rfl) ?_
  refine q_get (v := .ref h0) C hP 0 0 rfl rfl inX9 (by decide) kF_RX9_9 rfl rfl dX9_addNumber_20 ?_
  refine lv_aload_n hx hb dX9_addNumber_23 rfl (lv_at hl 1 rfl) ?_
  refine q_get (v := .int (nI (n0 + 2))) C hP 0 1 rfl rfl inX9 (by decide) kF_RX9_15 rfl rfl dX9_addNumber_24 ?_
  refine lv_iload_n hx hb dX9_addNumber_27 rfl (lv_at hl 2 rfl) ?_
  refine lv_iload_n hx hb dX9_addNumber_28 rfl (lv_at hl 0 rfl) ?_
  refine lv_iushr (v := ((v : Int32).toUInt32 >>> ((8 : Int32).toUInt32 &&& Int32.toUInt32 31)).toInt32) hx hb dX9_addNumber_29 rfl ?_
  refine lv_sipush (v := 255) hx hb dX9_addNumber_30 (by decide) ?_
  refine lv_iand hx hb dX9_addNumber_33 ?_
  refine q_iast (g := upd (upd (upd f n0 ((((v : Int32).toUInt32 >>> ((24 : Int32).toUInt32 &&& Int32.toUInt32 31)).toInt32) &&& 255)) (n0 + 1) ((((v : Int32).toUInt32 >>> ((16 : Int32).toUInt32 &&& Int32.toUInt32 31)).toInt32) &&& 255)) (n0 + 2) ((((v : Int32).toUInt32 >>> ((8 : Int32).toUInt32 &&& Int32.toUInt32 31)).toInt32) &&& 255)) (w' := [(h, .inr (9, [.ref h0, .int (nI (n0 + 2)), .int 0, .int 0, .int 0, .int 0, .int 0, .int 0, .int 0, .int 0, .int 0])), (h0, .inl (cy 1, 940, .inl (upd (upd (upd f n0 ((((v : Int32).toUInt32 >>> ((24 : Int32).toUInt32 &&& Int32.toUInt32 31)).toInt32) &&& 255)) (n0 + 1) ((((v : Int32).toUInt32 >>> ((16 : Int32).toUInt32 &&& Int32.toUInt32 31)).toInt32) &&& 255)) (n0 + 2) ((((v : Int32).toUInt32 >>> ((8 : Int32).toUInt32 &&& Int32.toUInt32 31)).toInt32) &&& 255))))]) C hP hD hS 1 rfl (vp_in_nI (by omega) (by decide)) (by rw [nI_clamp (by omega)]) rfl dX9_addNumber_34 (fun H locs hP hD hS => ?_)
  refine lv_aload_n hx hb dX9_addNumber_35 rfl (lv_at hl 1 rfl) ?_
  refine lv_dup hx hb dX9_addNumber_36 rfl ?_
  refine q_get (v := .int (nI (n0 + 2))) C hP 0 1 rfl rfl inX9 (by decide) kF_RX9_15 rfl rfl dX9_addNumber_37 ?_
  refine lv_iconst (v := 1) hx hb dX9_addNumber_40 (by decide) ?_
  refine lv_iadd hx hb dX9_addNumber_41 ?_
  refine q_val (v := (nI (n0 + 3))) (nI_add (n0 + 2) 1) ?_
  refine q_put (v := .int (nI (n0 + 3))) (w' := [(h, .inr (9, [.ref h0, .int (nI (n0 + 3)), .int 0, .int 0, .int 0, .int 0, .int 0, .int 0, .int 0, .int 0, .int 0])), (h0, .inl (cy 1, 940, .inl (upd (upd (upd f n0 ((((v : Int32).toUInt32 >>> ((24 : Int32).toUInt32 &&& Int32.toUInt32 31)).toInt32) &&& 255)) (n0 + 1) ((((v : Int32).toUInt32 >>> ((16 : Int32).toUInt32 &&& Int32.toUInt32 31)).toInt32) &&& 255)) (n0 + 2) ((((v : Int32).toUInt32 >>> ((8 : Int32).toUInt32 &&& Int32.toUInt32 31)).toInt32) &&& 255))))]) (ty := .int) C hP hD hS 0 1 rfl rfl inX9 tyX9 tyX9_ok nmX9 (by decide) kF_RX9_15 rfl rfl rfl rfl rfl (Nat.le_of_ble_eq_true rfl) rfl dX9_addNumber_42 (fun H locs hP hD hS => ?_)
  refine lv_iinc (v := 0) (lv' := [(2, .int 0), (0, .ref h), (1, .int v)]) hx hb dX9_addNumber_45 hl (k := 0) rfl (by decide) (by decide) rfl (fun ls hl => ?_)
  refine lv_goto (tgt := 3) hx hb dX9_addNumber_48 (by decide) ?_
  refine lv_iload_n hx hb dX9_addNumber_3 rfl (lv_at hl 0 rfl) ?_
  refine lv_if_lt (tgt := 51) hx hb dX9_addNumber_4 (by decide) (fun c_0 => absurd c_0 (by decide)) (fun _ => ?_)
  refine lv_aload_n hx hb dX9_addNumber_7 rfl (lv_at hl 1 rfl) ?_
  refine q_get (v := .int (nI (n0 + 3))) C hP 0 1 rfl rfl inX9 (by decide) kF_RX9_15 rfl rfl dX9_addNumber_8 ?_
  refine lv_aload_n hx hb dX9_addNumber_11 rfl (lv_at hl 1 rfl) ?_
  refine q_get (v := .ref h0) C hP 0 0 rfl rfl inX9 (by decide) kF_RX9_9 rfl rfl dX9_addNumber_12 ?_
  refine q_alen (v := 940) C hP 1 1 rfl rfl rfl dX9_addNumber_15 ?_
  refine lv_icmp_ge (tgt := 45) hx hb dX9_addNumber_16 (by decide) (fun c_0 => absurd c_0 (nI_ge (b := 940) (by omega) (by decide))) (fun _ => ?_)
  refine lv_aload_n hx hb dX9_addNumber_19 rfl (lv_at hl 1 rfl) ?_
  refine q_get (v := .ref h0) C hP 0 0 rfl rfl inX9 (by decide) kF_RX9_9 rfl rfl dX9_addNumber_20 ?_
  refine lv_aload_n hx hb dX9_addNumber_23 rfl (lv_at hl 1 rfl) ?_
  refine q_get (v := .int (nI (n0 + 3))) C hP 0 1 rfl rfl inX9 (by decide) kF_RX9_15 rfl rfl dX9_addNumber_24 ?_
  refine lv_iload_n hx hb dX9_addNumber_27 rfl (lv_at hl 2 rfl) ?_
  refine lv_iload_n hx hb dX9_addNumber_28 rfl (lv_at hl 0 rfl) ?_
  refine lv_iushr (v := ((v : Int32).toUInt32 >>> ((0 : Int32).toUInt32 &&& Int32.toUInt32 31)).toInt32) hx hb dX9_addNumber_29 rfl ?_
  refine lv_sipush (v := 255) hx hb dX9_addNumber_30 (by decide) ?_
  refine lv_iand hx hb dX9_addNumber_33 ?_
  refine q_iast (g := upd (upd (upd (upd f n0 ((((v : Int32).toUInt32 >>> ((24 : Int32).toUInt32 &&& Int32.toUInt32 31)).toInt32) &&& 255)) (n0 + 1) ((((v : Int32).toUInt32 >>> ((16 : Int32).toUInt32 &&& Int32.toUInt32 31)).toInt32) &&& 255)) (n0 + 2) ((((v : Int32).toUInt32 >>> ((8 : Int32).toUInt32 &&& Int32.toUInt32 31)).toInt32) &&& 255)) (n0 + 3) ((((v : Int32).toUInt32 >>> ((0 : Int32).toUInt32 &&& Int32.toUInt32 31)).toInt32) &&& 255)) (w' := [(h, .inr (9, [.ref h0, .int (nI (n0 + 3)), .int 0, .int 0, .int 0, .int 0, .int 0, .int 0, .int 0, .int 0, .int 0])), (h0, .inl (cy 1, 940, .inl (upd (upd (upd (upd f n0 ((((v : Int32).toUInt32 >>> ((24 : Int32).toUInt32 &&& Int32.toUInt32 31)).toInt32) &&& 255)) (n0 + 1) ((((v : Int32).toUInt32 >>> ((16 : Int32).toUInt32 &&& Int32.toUInt32 31)).toInt32) &&& 255)) (n0 + 2) ((((v : Int32).toUInt32 >>> ((8 : Int32).toUInt32 &&& Int32.toUInt32 31)).toInt32) &&& 255)) (n0 + 3) ((((v : Int32).toUInt32 >>> ((0 : Int32).toUInt32 &&& Int32.toUInt32 31)).toInt32) &&& 255))))]) C hP hD hS 1 rfl (vp_in_nI (by omega) (by decide)) (by rw [nI_clamp (by omega)]) rfl dX9_addNumber_34 (fun H locs hP hD hS => ?_)
  refine lv_aload_n hx hb dX9_addNumber_35 rfl (lv_at hl 1 rfl) ?_
  refine lv_dup hx hb dX9_addNumber_36 rfl ?_
  refine q_get (v := .int (nI (n0 + 3))) C hP 0 1 rfl rfl inX9 (by decide) kF_RX9_15 rfl rfl dX9_addNumber_37 ?_
  refine lv_iconst (v := 1) hx hb dX9_addNumber_40 (by decide) ?_
  refine lv_iadd hx hb dX9_addNumber_41 ?_
  refine q_val (v := (nI (n0 + 4))) (nI_add (n0 + 3) 1) ?_
  refine q_put (v := .int (nI (n0 + 4))) (w' := [(h, .inr (9, [.ref h0, .int (nI (n0 + 4)), .int 0, .int 0, .int 0, .int 0, .int 0, .int 0, .int 0, .int 0, .int 0])), (h0, .inl (cy 1, 940, .inl (upd (upd (upd (upd f n0 ((((v : Int32).toUInt32 >>> ((24 : Int32).toUInt32 &&& Int32.toUInt32 31)).toInt32) &&& 255)) (n0 + 1) ((((v : Int32).toUInt32 >>> ((16 : Int32).toUInt32 &&& Int32.toUInt32 31)).toInt32) &&& 255)) (n0 + 2) ((((v : Int32).toUInt32 >>> ((8 : Int32).toUInt32 &&& Int32.toUInt32 31)).toInt32) &&& 255)) (n0 + 3) ((((v : Int32).toUInt32 >>> ((0 : Int32).toUInt32 &&& Int32.toUInt32 31)).toInt32) &&& 255))))]) (ty := .int) C hP hD hS 0 1 rfl rfl inX9 tyX9 tyX9_ok nmX9 (by decide) kF_RX9_15 rfl rfl rfl rfl rfl (Nat.le_of_ble_eq_true rfl) rfl dX9_addNumber_42 (fun H locs hP hD hS => ?_)
  refine lv_iinc (v := (-8)) (lv' := [(2, .int (-8)), (0, .ref h), (1, .int v)]) hx hb dX9_addNumber_45 hl (k := 0) rfl (by decide) (by decide) rfl (fun ls hl => ?_)
  refine lv_goto (tgt := 3) hx hb dX9_addNumber_48 (by decide) ?_
  refine lv_iload_n hx hb dX9_addNumber_3 rfl (lv_at hl 0 rfl) ?_
  refine lv_if_lt (tgt := 51) hx hb dX9_addNumber_4 (by decide) (fun _ => ?_) (fun c_0 => absurd (by decide) c_0)
  exact q_vret (rm := (Rm 0 0 0 0)) C hS (upd (upd (upd (upd f n0 ((((v : Int32).toUInt32 >>> ((24 : Int32).toUInt32 &&& Int32.toUInt32 31)).toInt32) &&& 255)) (n0 + 1) ((((v : Int32).toUInt32 >>> ((16 : Int32).toUInt32 &&& Int32.toUInt32 31)).toInt32) &&& 255)) (n0 + 2) ((((v : Int32).toUInt32 >>> ((8 : Int32).toUInt32 &&& Int32.toUInt32 31)).toInt32) &&& 255)) (n0 + 3) ((((v : Int32).toUInt32 >>> ((0 : Int32).toUInt32 &&& Int32.toUInt32 31)).toInt32) &&& 255)) trivial (q_subP hP [0, 1] rfl) (hD.sub [0, 1] (by decide) rfl) (Nat.le_of_ble_eq_true rfl) (Nat.le_of_ble_eq_true rfl) dX9_addNumber_51
set_option maxHeartbeats 4000000 in
set_option maxRecDepth 100000 in
theorem c_advance (l : Launch) (D : va_G) (cy : Nat → ClassId) (h : Nat) (h0 : Nat) (sz : Nat)  : MV l yX9_advance cX9_advance 1 (Rm 0 0 0 0) D cy [.ref h] sz [(h, .inr (9, [.ref h0, .int 0, .int 0, .int 0, .int 0, .int 0, .int 0, .int 0, .int 0, .int 0, .int 0]))] (fun _ : Unit => True) (fun u : Unit => [(h, .inr (9, [.ref h0, .int 0, .int 0, .int 0, .int 0, .int 0, .int 0, .int 0, .int 0, .int 0, .int 0]))]) := by
  refine MV.enter (by decide) (Nat.le_of_ble_eq_true rfl) ?_
  intro p e s m below meth c ls A hsz hAe C hP hD hS hl
  have C : Cx p s m _ meth c cX9_advance 1 none RX9 "advance" D cy A := C
  have hx := C.1
  have hb := C.2.1
  have hl : lv_has ls 1 [(0, .ref h)] := hl
  refine lv_aload_n hx hb dX9_advance_0 rfl (lv_at hl 0 rfl) ?_
  refine q_get (v := .int 0) C hP 0 10 rfl rfl inX9 (by decide) kF_RX9_43 rfl rfl dX9_advance_1 ?_
  refine lv_aload_n hx hb dX9_advance_4 rfl (lv_at hl 0 rfl) ?_
  refine q_get (v := .int 0) C hP 0 9 rfl rfl inX9 (by decide) kF_RX9_40 rfl rfl dX9_advance_5 ?_
  refine lv_icmp_ge (tgt := 39) hx hb dX9_advance_8 (by decide) (fun _ => ?_) (fun c_0 => absurd (by decide) c_0)
  refine lv_aload_n hx hb dX9_advance_39 rfl (lv_at hl 0 rfl) ?_
  refine lv_iconst (v := 0) hx hb dX9_advance_40 (by decide) ?_
  refine q_put (v := .int 0) (w' := [(h, .inr (9, [.ref h0, .int 0, .int 0, .int 0, .int 0, .int 0, .int 0, .int 0, .int 0, .int 0, .int 0]))]) (ty := .int) C hP hD hS 0 6 rfl rfl inX9 tyX9 tyX9_ok nmX9 (by decide) kF_RX9_31 rfl rfl rfl rfl rfl (Nat.le_of_ble_eq_true rfl) rfl dX9_advance_41 (fun H locs hP hD hS => ?_)
  refine lv_aload_n hx hb dX9_advance_44 rfl (lv_at hl 0 rfl) ?_
  refine lv_iconst (v := 0) hx hb dX9_advance_45 (by decide) ?_
  refine q_put (v := .int 0) (w' := [(h, .inr (9, [.ref h0, .int 0, .int 0, .int 0, .int 0, .int 0, .int 0, .int 0, .int 0, .int 0, .int 0]))]) (ty := .int) C hP hD hS 0 5 rfl rfl inX9 tyX9 tyX9_ok nmX9 (by decide) kF_RX9_28 rfl rfl rfl rfl rfl (Nat.le_of_ble_eq_true rfl) rfl dX9_advance_46 (fun H locs hP hD hS => ?_)
  refine lv_aload_n hx hb dX9_advance_49 rfl (lv_at hl 0 rfl) ?_
  refine lv_iconst (v := 0) hx hb dX9_advance_50 (by decide) ?_
  refine q_put (v := .int 0) (w' := [(h, .inr (9, [.ref h0, .int 0, .int 0, .int 0, .int 0, .int 0, .int 0, .int 0, .int 0, .int 0, .int 0]))]) (ty := .int) C hP hD hS 0 4 rfl rfl inX9 tyX9 tyX9_ok nmX9 (by decide) kF_RX9_25 rfl rfl rfl rfl rfl (Nat.le_of_ble_eq_true rfl) rfl dX9_advance_51 (fun H locs hP hD hS => ?_)
  refine lv_aload_n hx hb dX9_advance_54 rfl (lv_at hl 0 rfl) ?_
  refine q_get (v := .int 0) C hP 0 10 rfl rfl inX9 (by decide) kF_RX9_43 rfl rfl dX9_advance_55 ?_
  refine lv_aload_n hx hb dX9_advance_58 rfl (lv_at hl 0 rfl) ?_
  refine q_get (v := .int 0) C hP 0 9 rfl rfl inX9 (by decide) kF_RX9_40 rfl rfl dX9_advance_59 ?_
  refine lv_icmp_lt (tgt := 79) hx hb dX9_advance_62 (by decide) (fun c_0 => absurd c_0 (by decide)) (fun _ => ?_)
  refine lv_aload_n hx hb dX9_advance_65 rfl (lv_at hl 0 rfl) ?_
  refine lv_aload_n hx hb dX9_advance_66 rfl (lv_at hl 0 rfl) ?_
  refine q_get (v := .int 0) C hP 0 9 rfl rfl inX9 (by decide) kF_RX9_40 rfl rfl dX9_advance_67 ?_
  refine q_put (v := .int 0) (w' := [(h, .inr (9, [.ref h0, .int 0, .int 0, .int 0, .int 0, .int 0, .int 0, .int 0, .int 0, .int 0, .int 0]))]) (ty := .int) C hP hD hS 0 3 rfl rfl inX9 tyX9 tyX9_ok nmX9 (by decide) kF_RX9_22 rfl rfl rfl rfl rfl (Nat.le_of_ble_eq_true rfl) rfl dX9_advance_70 (fun H locs hP hD hS => ?_)
  refine lv_aload_n hx hb dX9_advance_73 rfl (lv_at hl 0 rfl) ?_
  refine lv_iconst (v := 0) hx hb dX9_advance_74 (by decide) ?_
  refine q_put (v := .int 0) (w' := [(h, .inr (9, [.ref h0, .int 0, .int 0, .int 0, .int 0, .int 0, .int 0, .int 0, .int 0, .int 0, .int 0]))]) (ty := .int) C hP hD hS 0 2 rfl rfl inX9 tyX9 tyX9_ok nmX9 (by decide) kF_RX9_19 rfl rfl rfl rfl rfl (Nat.le_of_ble_eq_true rfl) rfl dX9_advance_75 (fun H locs hP hD hS => ?_)
  exact q_vret (rm := (Rm 0 0 0 0)) C hS () trivial (q_subP hP [0] rfl) (hD.sub [0] (by decide) rfl) (Nat.le_of_ble_eq_true rfl) (Nat.le_of_ble_eq_true rfl) dX9_advance_78
set_option maxHeartbeats 4000000 in
set_option maxRecDepth 100000 in
theorem c_open_900 (l : Launch) (D : va_G) (cy : Nat → ClassId) (h : Nat) (h0 : Nat) (sz : Nat)  : MV l yX9_open cX9_open 2 (Rm 1 30 0 0) D cy [.ref h, .int 900] sz [(h, .inr (9, [.ref h0, .int 0, .int 0, .int 0, .int 0, .int 0, .int 0, .int 0, .int 0, .int 0, .int 0]))] (fun _ : Unit => True) (fun u : Unit => [(h, .inr (9, [.ref h0, .int 0, .int 0, .int 0, .int 0, .int 0, .int 0, .int 0, .int 0, .int 0, .int 0]))]) := by
  refine MV.enter (by decide) (Nat.le_of_ble_eq_true rfl) ?_
  intro p e s m below meth c ls A hsz hAe C hP hD hS hl
  have C : Cx p s m _ meth c cX9_open 2 none RX9 "open" D cy A := C
  have hx := C.1
  have hb := C.2.1
  have hl : lv_has ls 2 [(0, .ref h), (1, .int 900)] := hl
  refine lv_aload_n hx hb dX9_open_0 rfl (lv_at hl 0 rfl) ?_
  refine lv_aload_n hx hb dX9_open_1 rfl (lv_at hl 0 rfl) ?_
  refine q_get (v := .int 0) C hP 0 1 rfl rfl inX9 (by decide) kF_RX9_15 rfl rfl dX9_open_2 ?_
  refine lv_iload_n hx hb dX9_open_5 rfl (lv_at hl 1 rfl) ?_
  refine q_mmin C hl.1 kM_RX9_46 (Nat.le_of_ble_eq_true rfl) (Nat.le_of_ble_eq_true rfl) (Nat.le_of_ble_eq_true rfl) (Nat.le_of_ble_eq_true rfl) dX9_open_6 ?_
  refine q_val (v := 0) (by decide) ?_
  refine q_put (v := .int 0) (w' := [(h, .inr (9, [.ref h0, .int 0, .int 0, .int 0, .int 0, .int 0, .int 0, .int 0, .int 0, .int 0, .int 0]))]) (ty := .int) C hP hD hS 0 9 rfl rfl inX9 tyX9 tyX9_ok nmX9 (by decide) kF_RX9_40 rfl rfl rfl rfl rfl (Nat.le_of_ble_eq_true rfl) rfl dX9_open_9 (fun H locs hP hD hS => ?_)
  refine lv_aload_n hx hb dX9_open_12 rfl (lv_at hl 0 rfl) ?_
  refine lv_iconst (v := 0) hx hb dX9_open_13 (by decide) ?_
  refine q_put (v := .int 0) (w' := [(h, .inr (9, [.ref h0, .int 0, .int 0, .int 0, .int 0, .int 0, .int 0, .int 0, .int 0, .int 0, .int 0]))]) (ty := .int) C hP hD hS 0 10 rfl rfl inX9 tyX9 tyX9_ok nmX9 (by decide) kF_RX9_43 rfl rfl rfl rfl rfl (Nat.le_of_ble_eq_true rfl) rfl dX9_open_14 (fun H locs hP hD hS => ?_)
  refine lv_aload_n hx hb dX9_open_17 rfl (lv_at hl 0 rfl) ?_
  refine lv_iconst (v := 0) hx hb dX9_open_18 (by decide) ?_
  refine q_put (v := .int 0) (w' := [(h, .inr (9, [.ref h0, .int 0, .int 0, .int 0, .int 0, .int 0, .int 0, .int 0, .int 0, .int 0, .int 0]))]) (ty := .int) C hP hD hS 0 7 rfl rfl inX9 tyX9 tyX9_ok nmX9 (by decide) kF_RX9_34 rfl rfl rfl rfl rfl (Nat.le_of_ble_eq_true rfl) rfl dX9_open_19 (fun H locs hP hD hS => ?_)
  refine lv_aload_n hx hb dX9_open_22 rfl (lv_at hl 0 rfl) ?_
  refine lv_iconst (v := 0) hx hb dX9_open_23 (by decide) ?_
  refine q_put (v := .int 0) (w' := [(h, .inr (9, [.ref h0, .int 0, .int 0, .int 0, .int 0, .int 0, .int 0, .int 0, .int 0, .int 0, .int 0]))]) (ty := .int) C hP hD hS 0 8 rfl rfl inX9 tyX9 tyX9_ok nmX9 (by decide) kF_RX9_37 rfl rfl rfl rfl rfl (Nat.le_of_ble_eq_true rfl) rfl dX9_open_24 (fun H locs hP hD hS => ?_)
  refine lv_aload_n hx hb dX9_open_27 rfl (lv_at hl 0 rfl) ?_
  refine q_av (wr := []) (r_V (q0 := 0) (As := []) (rest := []) (wc := [(h, .inr (9, [.ref h0, .int 0, .int 0, .int 0, .int 0, .int 0, .int 0, .int 0, .int 0, .int 0, .int 0]))]) C (q_subP hP [0] rfl) (hD.sub [0] (by decide) rfl) (c_advance l D cy h h0 _ ) kwV_X9_advance kM_RX9_52 rfl rfl ⟨Nat.le_of_ble_eq_true rfl, Nat.le_of_ble_eq_true rfl⟩ rfl hl.1 rfl (Nat.le_of_ble_eq_true rfl) dX9_open_28 ⟨Nat.le_of_ble_eq_true rfl, Nat.le_of_ble_eq_true rfl⟩) C.2.2.2.2.2.2.1 hP hD hS [0] [] rfl rfl (by decide) (by decide) (fun u_1 H locs hw_3 hP hD hS => ?_)
  have hP : va_P D vwCl [(h, .inr (9, [.ref h0, .int 0, .int 0, .int 0, .int 0, .int 0, .int 0, .int 0, .int 0, .int 0, .int 0]))] H := hP
  have hD : va_D A [(h, .inr (9, [.ref h0, .int 0, .int 0, .int 0, .int 0, .int 0, .int 0, .int 0, .int 0, .int 0, .int 0]))] := hD
  exact q_vret (rm := (Rm 1 30 0 0)) C hS () trivial (q_subP hP [0] rfl) (hD.sub [0] (by decide) rfl) (Nat.le_of_ble_eq_true rfl) (Nat.le_of_ble_eq_true rfl) dX9_open_31
set_option maxHeartbeats 4000000 in
set_option maxRecDepth 100000 in
theorem c_open_400 (l : Launch) (D : va_G) (cy : Nat → ClassId) (h : Nat) (h0 : Nat) (sz : Nat)  : MV l yX9_open cX9_open 2 (Rm 1 30 0 0) D cy [.ref h, .int 400] sz [(h, .inr (9, [.ref h0, .int 0, .int 0, .int 0, .int 0, .int 0, .int 0, .int 0, .int 0, .int 0, .int 0]))] (fun _ : Unit => True) (fun u : Unit => [(h, .inr (9, [.ref h0, .int 0, .int 0, .int 0, .int 0, .int 0, .int 0, .int 0, .int 0, .int 0, .int 0]))]) := by
  refine MV.enter (by decide) (Nat.le_of_ble_eq_true rfl) ?_
  intro p e s m below meth c ls A hsz hAe C hP hD hS hl
  have C : Cx p s m _ meth c cX9_open 2 none RX9 "open" D cy A := C
  have hx := C.1
  have hb := C.2.1
  have hl : lv_has ls 2 [(0, .ref h), (1, .int 400)] := hl
  refine lv_aload_n hx hb dX9_open_0 rfl (lv_at hl 0 rfl) ?_
  refine lv_aload_n hx hb dX9_open_1 rfl (lv_at hl 0 rfl) ?_
  refine q_get (v := .int 0) C hP 0 1 rfl rfl inX9 (by decide) kF_RX9_15 rfl rfl dX9_open_2 ?_
  refine lv_iload_n hx hb dX9_open_5 rfl (lv_at hl 1 rfl) ?_
  refine q_mmin C hl.1 kM_RX9_46 (Nat.le_of_ble_eq_true rfl) (Nat.le_of_ble_eq_true rfl) (Nat.le_of_ble_eq_true rfl) (Nat.le_of_ble_eq_true rfl) dX9_open_6 ?_
  refine q_val (v := 0) (by decide) ?_
  refine q_put (v := .int 0) (w' := [(h, .inr (9, [.ref h0, .int 0, .int 0, .int 0, .int 0, .int 0, .int 0, .int 0, .int 0, .int 0, .int 0]))]) (ty := .int) C hP hD hS 0 9 rfl rfl inX9 tyX9 tyX9_ok nmX9 (by decide) kF_RX9_40 rfl rfl rfl rfl rfl (Nat.le_of_ble_eq_true rfl) rfl dX9_open_9 (fun H locs hP hD hS => ?_)
  refine lv_aload_n hx hb dX9_open_12 rfl (lv_at hl 0 rfl) ?_
  refine lv_iconst (v := 0) hx hb dX9_open_13 (by decide) ?_
  refine q_put (v := .int 0) (w' := [(h, .inr (9, [.ref h0, .int 0, .int 0, .int 0, .int 0, .int 0, .int 0, .int 0, .int 0, .int 0, .int 0]))]) (ty := .int) C hP hD hS 0 10 rfl rfl inX9 tyX9 tyX9_ok nmX9 (by decide) kF_RX9_43 rfl rfl rfl rfl rfl (Nat.le_of_ble_eq_true rfl) rfl dX9_open_14 (fun H locs hP hD hS => ?_)
  refine lv_aload_n hx hb dX9_open_17 rfl (lv_at hl 0 rfl) ?_
  refine lv_iconst (v := 0) hx hb dX9_open_18 (by decide) ?_
  refine q_put (v := .int 0) (w' := [(h, .inr (9, [.ref h0, .int 0, .int 0, .int 0, .int 0, .int 0, .int 0, .int 0, .int 0, .int 0, .int 0]))]) (ty := .int) C hP hD hS 0 7 rfl rfl inX9 tyX9 tyX9_ok nmX9 (by decide) kF_RX9_34 rfl rfl rfl rfl rfl (Nat.le_of_ble_eq_true rfl) rfl dX9_open_19 (fun H locs hP hD hS => ?_)
  refine lv_aload_n hx hb dX9_open_22 rfl (lv_at hl 0 rfl) ?_
  refine lv_iconst (v := 0) hx hb dX9_open_23 (by decide) ?_
  refine q_put (v := .int 0) (w' := [(h, .inr (9, [.ref h0, .int 0, .int 0, .int 0, .int 0, .int 0, .int 0, .int 0, .int 0, .int 0, .int 0]))]) (ty := .int) C hP hD hS 0 8 rfl rfl inX9 tyX9 tyX9_ok nmX9 (by decide) kF_RX9_37 rfl rfl rfl rfl rfl (Nat.le_of_ble_eq_true rfl) rfl dX9_open_24 (fun H locs hP hD hS => ?_)
  refine lv_aload_n hx hb dX9_open_27 rfl (lv_at hl 0 rfl) ?_
  refine q_av (wr := []) (r_V (q0 := 0) (As := []) (rest := []) (wc := [(h, .inr (9, [.ref h0, .int 0, .int 0, .int 0, .int 0, .int 0, .int 0, .int 0, .int 0, .int 0, .int 0]))]) C (q_subP hP [0] rfl) (hD.sub [0] (by decide) rfl) (c_advance l D cy h h0 _ ) kwV_X9_advance kM_RX9_52 rfl rfl ⟨Nat.le_of_ble_eq_true rfl, Nat.le_of_ble_eq_true rfl⟩ rfl hl.1 rfl (Nat.le_of_ble_eq_true rfl) dX9_open_28 ⟨Nat.le_of_ble_eq_true rfl, Nat.le_of_ble_eq_true rfl⟩) C.2.2.2.2.2.2.1 hP hD hS [0] [] rfl rfl (by decide) (by decide) (fun u_1 H locs hw_3 hP hD hS => ?_)
  have hP : va_P D vwCl [(h, .inr (9, [.ref h0, .int 0, .int 0, .int 0, .int 0, .int 0, .int 0, .int 0, .int 0, .int 0, .int 0]))] H := hP
  have hD : va_D A [(h, .inr (9, [.ref h0, .int 0, .int 0, .int 0, .int 0, .int 0, .int 0, .int 0, .int 0, .int 0, .int 0]))] := hD
  exact q_vret (rm := (Rm 1 30 0 0)) C hS () trivial (q_subP hP [0] rfl) (hD.sub [0] (by decide) rfl) (Nat.le_of_ble_eq_true rfl) (Nat.le_of_ble_eq_true rfl) dX9_open_31
set_option maxHeartbeats 4000000 in
set_option maxRecDepth 100000 in
theorem c_open_200 (l : Launch) (D : va_G) (cy : Nat → ClassId) (h : Nat) (h0 : Nat) (sz : Nat)  : MV l yX9_open cX9_open 2 (Rm 1 30 0 0) D cy [.ref h, .int 200] sz [(h, .inr (9, [.ref h0, .int 0, .int 0, .int 0, .int 0, .int 0, .int 0, .int 0, .int 0, .int 0, .int 0]))] (fun _ : Unit => True) (fun u : Unit => [(h, .inr (9, [.ref h0, .int 0, .int 0, .int 0, .int 0, .int 0, .int 0, .int 0, .int 0, .int 0, .int 0]))]) := by
  refine MV.enter (by decide) (Nat.le_of_ble_eq_true rfl) ?_
  intro p e s m below meth c ls A hsz hAe C hP hD hS hl
  have C : Cx p s m _ meth c cX9_open 2 none RX9 "open" D cy A := C
  have hx := C.1
  have hb := C.2.1
  have hl : lv_has ls 2 [(0, .ref h), (1, .int 200)] := hl
  refine lv_aload_n hx hb dX9_open_0 rfl (lv_at hl 0 rfl) ?_
  refine lv_aload_n hx hb dX9_open_1 rfl (lv_at hl 0 rfl) ?_
  refine q_get (v := .int 0) C hP 0 1 rfl rfl inX9 (by decide) kF_RX9_15 rfl rfl dX9_open_2 ?_
  refine lv_iload_n hx hb dX9_open_5 rfl (lv_at hl 1 rfl) ?_
  refine q_mmin C hl.1 kM_RX9_46 (Nat.le_of_ble_eq_true rfl) (Nat.le_of_ble_eq_true rfl) (Nat.le_of_ble_eq_true rfl) (Nat.le_of_ble_eq_true rfl) dX9_open_6 ?_
  refine q_val (v := 0) (by decide) ?_
  refine q_put (v := .int 0) (w' := [(h, .inr (9, [.ref h0, .int 0, .int 0, .int 0, .int 0, .int 0, .int 0, .int 0, .int 0, .int 0, .int 0]))]) (ty := .int) C hP hD hS 0 9 rfl rfl inX9 tyX9 tyX9_ok nmX9 (by decide) kF_RX9_40 rfl rfl rfl rfl rfl (Nat.le_of_ble_eq_true rfl) rfl dX9_open_9 (fun H locs hP hD hS => ?_)
  refine lv_aload_n hx hb dX9_open_12 rfl (lv_at hl 0 rfl) ?_
  refine lv_iconst (v := 0) hx hb dX9_open_13 (by decide) ?_
  refine q_put (v := .int 0) (w' := [(h, .inr (9, [.ref h0, .int 0, .int 0, .int 0, .int 0, .int 0, .int 0, .int 0, .int 0, .int 0, .int 0]))]) (ty := .int) C hP hD hS 0 10 rfl rfl inX9 tyX9 tyX9_ok nmX9 (by decide) kF_RX9_43 rfl rfl rfl rfl rfl (Nat.le_of_ble_eq_true rfl) rfl dX9_open_14 (fun H locs hP hD hS => ?_)
  refine lv_aload_n hx hb dX9_open_17 rfl (lv_at hl 0 rfl) ?_
  refine lv_iconst (v := 0) hx hb dX9_open_18 (by decide) ?_
  refine q_put (v := .int 0) (w' := [(h, .inr (9, [.ref h0, .int 0, .int 0, .int 0, .int 0, .int 0, .int 0, .int 0, .int 0, .int 0, .int 0]))]) (ty := .int) C hP hD hS 0 7 rfl rfl inX9 tyX9 tyX9_ok nmX9 (by decide) kF_RX9_34 rfl rfl rfl rfl rfl (Nat.le_of_ble_eq_true rfl) rfl dX9_open_19 (fun H locs hP hD hS => ?_)
  refine lv_aload_n hx hb dX9_open_22 rfl (lv_at hl 0 rfl) ?_
  refine lv_iconst (v := 0) hx hb dX9_open_23 (by decide) ?_
  refine q_put (v := .int 0) (w' := [(h, .inr (9, [.ref h0, .int 0, .int 0, .int 0, .int 0, .int 0, .int 0, .int 0, .int 0, .int 0, .int 0]))]) (ty := .int) C hP hD hS 0 8 rfl rfl inX9 tyX9 tyX9_ok nmX9 (by decide) kF_RX9_37 rfl rfl rfl rfl rfl (Nat.le_of_ble_eq_true rfl) rfl dX9_open_24 (fun H locs hP hD hS => ?_)
  refine lv_aload_n hx hb dX9_open_27 rfl (lv_at hl 0 rfl) ?_
  refine q_av (wr := []) (r_V (q0 := 0) (As := []) (rest := []) (wc := [(h, .inr (9, [.ref h0, .int 0, .int 0, .int 0, .int 0, .int 0, .int 0, .int 0, .int 0, .int 0, .int 0]))]) C (q_subP hP [0] rfl) (hD.sub [0] (by decide) rfl) (c_advance l D cy h h0 _ ) kwV_X9_advance kM_RX9_52 rfl rfl ⟨Nat.le_of_ble_eq_true rfl, Nat.le_of_ble_eq_true rfl⟩ rfl hl.1 rfl (Nat.le_of_ble_eq_true rfl) dX9_open_28 ⟨Nat.le_of_ble_eq_true rfl, Nat.le_of_ble_eq_true rfl⟩) C.2.2.2.2.2.2.1 hP hD hS [0] [] rfl rfl (by decide) (by decide) (fun u_1 H locs hw_3 hP hD hS => ?_)
  have hP : va_P D vwCl [(h, .inr (9, [.ref h0, .int 0, .int 0, .int 0, .int 0, .int 0, .int 0, .int 0, .int 0, .int 0, .int 0]))] H := hP
  have hD : va_D A [(h, .inr (9, [.ref h0, .int 0, .int 0, .int 0, .int 0, .int 0, .int 0, .int 0, .int 0, .int 0, .int 0]))] := hD
  exact q_vret (rm := (Rm 1 30 0 0)) C hS () trivial (q_subP hP [0] rfl) (hD.sub [0] (by decide) rfl) (Nat.le_of_ble_eq_true rfl) (Nat.le_of_ble_eq_true rfl) dX9_open_31
set_option maxHeartbeats 4000000 in
set_option maxRecDepth 100000 in
theorem c_closes (l : Launch) (D : va_G) (cy : Nat → ClassId) (h : Nat) (h0 : Nat) (sz : Nat)  : MI l yX9_closes cX9_closes 1 (some .boolean) (Rm 0 0 0 0) D cy [.ref h] sz [(h, .inr (9, [.ref h0, .int 0, .int 0, .int 0, .int 0, .int 0, .int 0, .int 0, .int 0, .int 0, .int 0]))] (fun (r : Int32) (u : Unit) => r = 1) (fun u : Unit => [(h, .inr (9, [.ref h0, .int 0, .int 0, .int 0, .int 0, .int 0, .int 0, .int 0, .int 0, .int 0, .int 0]))]) := by
  refine MI.enter (by decide) (Nat.le_of_ble_eq_true rfl) ?_
  intro p e s m below meth c ls A hsz hAe C hP hD hS hl
  have C : Cx p s m _ meth c cX9_closes 1 (some .boolean) RX9 "closes" D cy A := C
  have hx := C.1
  have hb := C.2.1
  have hl : lv_has ls 1 [(0, .ref h)] := hl
  refine lv_aload_n hx hb dX9_closes_0 rfl (lv_at hl 0 rfl) ?_
  refine q_get (v := .int 0) C hP 0 2 rfl rfl inX9 (by decide) kF_RX9_19 rfl rfl dX9_closes_1 ?_
  refine lv_if_ne (tgt := 18) hx hb dX9_closes_4 (by decide) (fun c_0 => absurd (by decide) c_0) (fun _ => ?_)
  refine lv_aload_n hx hb dX9_closes_7 rfl (lv_at hl 0 rfl) ?_
  refine q_get (v := .int 0) C hP 0 1 rfl rfl inX9 (by decide) kF_RX9_15 rfl rfl dX9_closes_8 ?_
  refine lv_aload_n hx hb dX9_closes_11 rfl (lv_at hl 0 rfl) ?_
  refine q_get (v := .int 0) C hP 0 9 rfl rfl inX9 (by decide) kF_RX9_40 rfl rfl dX9_closes_12 ?_
  refine lv_icmp_le (tgt := 26) hx hb dX9_closes_15 (by decide) (fun _ => ?_) (fun c_0 => absurd (by decide) c_0)
  refine lv_iconst (v := 1) hx hb dX9_closes_26 (by decide) ?_
  refine lv_goto (tgt := 31) hx hb dX9_closes_27 (by decide) ?_
  exact q_iret (rm := (Rm 0 0 0 0)) C hS () rfl rfl (q_subP hP [0] rfl) (hD.sub [0] (by decide) rfl) (Nat.le_of_ble_eq_true rfl) (Nat.le_of_ble_eq_true rfl) dX9_closes_31
set_option maxHeartbeats 4000000 in
set_option maxRecDepth 100000 in
theorem c_fail (l : Launch) (D : va_G) (cy : Nat → ClassId) (h : Nat) (h0 : Nat) (sz : Nat)  : MI l yX9_fail cX9_fail 2 (some .boolean) (Rm 0 0 0 0) D cy [.ref h, .int 1] sz [(h, .inr (9, [.ref h0, .int 0, .int 0, .int 0, .int 0, .int 0, .int 0, .int 0, .int 0, .int 0, .int 0]))] (fun (r : Int32) (u : Unit) => r = 0) (fun u : Unit => [(h, .inr (9, [.ref h0, .int 0, .int 0, .int 0, .int 0, .int 0, .int 0, .int 1, .int 0, .int 0, .int 0]))]) := by
  refine MI.enter (by decide) (Nat.le_of_ble_eq_true rfl) ?_
  intro p e s m below meth c ls A hsz hAe C hP hD hS hl
  have C : Cx p s m _ meth c cX9_fail 2 (some .boolean) RX9 "fail" D cy A := C
  have hx := C.1
  have hb := C.2.1
  have hl : lv_has ls 2 [(0, .ref h), (1, .int 1)] := hl
  refine lv_aload_n hx hb dX9_fail_0 rfl (lv_at hl 0 rfl) ?_
  refine lv_iload_n hx hb dX9_fail_1 rfl (lv_at hl 1 rfl) ?_
  refine q_put (v := .int 1) (w' := [(h, .inr (9, [.ref h0, .int 0, .int 0, .int 0, .int 0, .int 0, .int 0, .int 1, .int 0, .int 0, .int 0]))]) (ty := .int) C hP hD hS 0 7 rfl rfl inX9 tyX9 tyX9_ok nmX9 (by decide) kF_RX9_34 rfl rfl rfl rfl rfl (Nat.le_of_ble_eq_true rfl) rfl dX9_fail_2 (fun H locs hP hD hS => ?_)
  refine lv_aload_n hx hb dX9_fail_5 rfl (lv_at hl 0 rfl) ?_
  refine lv_aload_n hx hb dX9_fail_6 rfl (lv_at hl 0 rfl) ?_
  refine q_get (v := .int 0) C hP 0 3 rfl rfl inX9 (by decide) kF_RX9_22 rfl rfl dX9_fail_7 ?_
  refine q_put (v := .int 0) (w' := [(h, .inr (9, [.ref h0, .int 0, .int 0, .int 0, .int 0, .int 0, .int 0, .int 1, .int 0, .int 0, .int 0]))]) (ty := .int) C hP hD hS 0 8 rfl rfl inX9 tyX9 tyX9_ok nmX9 (by decide) kF_RX9_37 rfl rfl rfl rfl rfl (Nat.le_of_ble_eq_true rfl) rfl dX9_fail_10 (fun H locs hP hD hS => ?_)
  refine lv_iconst (v := 0) hx hb dX9_fail_13 (by decide) ?_
  exact q_iret (rm := (Rm 0 0 0 0)) C hS () rfl rfl (q_subP hP [0] rfl) (hD.sub [0] (by decide) rfl) (Nat.le_of_ble_eq_true rfl) (Nat.le_of_ble_eq_true rfl) dX9_fail_14
set_option maxHeartbeats 4000000 in
set_option maxRecDepth 100000 in
theorem c_Pempty (l : Launch) (D : va_G) (cy : Nat → ClassId) (h : Nat) (h0 : Nat) (h1 : Nat) (h2 : Nat) (sz : Nat)  : MV l yX6_empty cX6_empty 2 (Rm 0 0 0 0) D cy [.ref h] sz [(h, .inr (6, [.int 4, .int 4, .int 10, .int 1, .int 3, .int 0, .int 0, .int 0, .ref h0, .ref h1, .ref h2])), (h0, .inl (cy 1, 8, .inl (fun _ => 0))), (h1, .inl (cy 1, 8, .inl (fun _ => 0))), (h2, .inl (cy 1, 56, .inl (fun _ => 0)))] (fun _ : Unit => True) (fun u : Unit => [(h, .inr (6, [.int 4, .int 4, .int 10, .int 1, .int 3, .int 0, .int 0, .int 0, .ref h0, .ref h1, .ref h2])), (h0, .inl (cy 1, 8, .inl (fun _ => 0))), (h1, .inl (cy 1, 8, .inl (fun _ => 0))), (h2, .inl (cy 1, 56, .inl (fun _ => 0)))]) := by
  refine MV.enter (by decide) (Nat.le_of_ble_eq_true rfl) ?_
  intro p e s m below meth c ls A hsz hAe C hP hD hS hl
  have C : Cx p s m _ meth c cX6_empty 2 none RX6 "empty" D cy A := C
  have hx := C.1
  have hb := C.2.1
  have hl : lv_has ls 2 [(0, .ref h)] := hl
  refine lv_aload_n hx hb dX6_empty_0 rfl (lv_at hl 0 rfl) ?_
  refine lv_iconst (v := 4) hx hb dX6_empty_1 (by decide) ?_
  refine q_put (v := .int 4) (w' := [(h, .inr (6, [.int 4, .int 4, .int 10, .int 1, .int 3, .int 0, .int 0, .int 0, .ref h0, .ref h1, .ref h2])), (h0, .inl (cy 1, 8, .inl (fun _ => 0))), (h1, .inl (cy 1, 8, .inl (fun _ => 0))), (h2, .inl (cy 1, 56, .inl (fun _ => 0)))]) (ty := .int) C hP hD hS 0 0 rfl rfl inX6 tyX6 tyX6_ok nmX6 (by decide) kF_RX6_9 rfl rfl rfl rfl rfl (Nat.le_of_ble_eq_true rfl) rfl dX6_empty_2 (fun H locs hP hD hS => ?_)
  refine lv_aload_n hx hb dX6_empty_5 rfl (lv_at hl 0 rfl) ?_
  refine lv_iconst (v := 4) hx hb dX6_empty_6 (by decide) ?_
  refine q_put (v := .int 4) (w' := [(h, .inr (6, [.int 4, .int 4, .int 10, .int 1, .int 3, .int 0, .int 0, .int 0, .ref h0, .ref h1, .ref h2])), (h0, .inl (cy 1, 8, .inl (fun _ => 0))), (h1, .inl (cy 1, 8, .inl (fun _ => 0))), (h2, .inl (cy 1, 56, .inl (fun _ => 0)))]) (ty := .int) C hP hD hS 0 1 rfl rfl inX6 tyX6 tyX6_ok nmX6 (by decide) kF_RX6_15 rfl rfl rfl rfl rfl (Nat.le_of_ble_eq_true rfl) rfl dX6_empty_7 (fun H locs hP hD hS => ?_)
  refine lv_aload_n hx hb dX6_empty_10 rfl (lv_at hl 0 rfl) ?_
  refine lv_bipush (v := 10) hx hb dX6_empty_11 (by decide) ?_
  refine q_put (v := .int 10) (w' := [(h, .inr (6, [.int 4, .int 4, .int 10, .int 1, .int 3, .int 0, .int 0, .int 0, .ref h0, .ref h1, .ref h2])), (h0, .inl (cy 1, 8, .inl (fun _ => 0))), (h1, .inl (cy 1, 8, .inl (fun _ => 0))), (h2, .inl (cy 1, 56, .inl (fun _ => 0)))]) (ty := .int) C hP hD hS 0 2 rfl rfl inX6 tyX6 tyX6_ok nmX6 (by decide) kF_RX6_18 rfl rfl rfl rfl rfl (Nat.le_of_ble_eq_true rfl) rfl dX6_empty_13 (fun H locs hP hD hS => ?_)
  refine lv_aload_n hx hb dX6_empty_16 rfl (lv_at hl 0 rfl) ?_
  refine lv_iconst (v := 1) hx hb dX6_empty_17 (by decide) ?_
  refine q_put (v := .int 1) (w' := [(h, .inr (6, [.int 4, .int 4, .int 10, .int 1, .int 3, .int 0, .int 0, .int 0, .ref h0, .ref h1, .ref h2])), (h0, .inl (cy 1, 8, .inl (fun _ => 0))), (h1, .inl (cy 1, 8, .inl (fun _ => 0))), (h2, .inl (cy 1, 56, .inl (fun _ => 0)))]) (ty := .int) C hP hD hS 0 3 rfl rfl inX6 tyX6 tyX6_ok nmX6 (by decide) kF_RX6_21 rfl rfl rfl rfl rfl (Nat.le_of_ble_eq_true rfl) rfl dX6_empty_18 (fun H locs hP hD hS => ?_)
  refine lv_aload_n hx hb dX6_empty_21 rfl (lv_at hl 0 rfl) ?_
  refine lv_iconst (v := 3) hx hb dX6_empty_22 (by decide) ?_
  refine q_put (v := .int 3) (w' := [(h, .inr (6, [.int 4, .int 4, .int 10, .int 1, .int 3, .int 0, .int 0, .int 0, .ref h0, .ref h1, .ref h2])), (h0, .inl (cy 1, 8, .inl (fun _ => 0))), (h1, .inl (cy 1, 8, .inl (fun _ => 0))), (h2, .inl (cy 1, 56, .inl (fun _ => 0)))]) (ty := .int) C hP hD hS 0 4 rfl rfl inX6 tyX6 tyX6_ok nmX6 (by decide) kF_RX6_24 rfl rfl rfl rfl rfl (Nat.le_of_ble_eq_true rfl) rfl dX6_empty_23 (fun H locs hP hD hS => ?_)
  refine lv_aload_n hx hb dX6_empty_26 rfl (lv_at hl 0 rfl) ?_
  refine lv_iconst (v := 0) hx hb dX6_empty_27 (by decide) ?_
  refine q_put (v := .int 0) (w' := [(h, .inr (6, [.int 4, .int 4, .int 10, .int 1, .int 3, .int 0, .int 0, .int 0, .ref h0, .ref h1, .ref h2])), (h0, .inl (cy 1, 8, .inl (fun _ => 0))), (h1, .inl (cy 1, 8, .inl (fun _ => 0))), (h2, .inl (cy 1, 56, .inl (fun _ => 0)))]) (ty := .int) C hP hD hS 0 5 rfl rfl inX6 tyX6 tyX6_ok nmX6 (by decide) kF_RX6_27 rfl rfl rfl rfl rfl (Nat.le_of_ble_eq_true rfl) rfl dX6_empty_28 (fun H locs hP hD hS => ?_)
  refine lv_aload_n hx hb dX6_empty_31 rfl (lv_at hl 0 rfl) ?_
  refine lv_iconst (v := 0) hx hb dX6_empty_32 (by decide) ?_
  refine q_put (v := .int 0) (w' := [(h, .inr (6, [.int 4, .int 4, .int 10, .int 1, .int 3, .int 0, .int 0, .int 0, .ref h0, .ref h1, .ref h2])), (h0, .inl (cy 1, 8, .inl (fun _ => 0))), (h1, .inl (cy 1, 8, .inl (fun _ => 0))), (h2, .inl (cy 1, 56, .inl (fun _ => 0)))]) (ty := .int) C hP hD hS 0 6 rfl rfl inX6 tyX6 tyX6_ok nmX6 (by decide) kF_RX6_30 rfl rfl rfl rfl rfl (Nat.le_of_ble_eq_true rfl) rfl dX6_empty_33 (fun H locs hP hD hS => ?_)
  refine lv_aload_n hx hb dX6_empty_36 rfl (lv_at hl 0 rfl) ?_
  refine lv_iconst (v := 0) hx hb dX6_empty_37 (by decide) ?_
  refine q_put (v := .int 0) (w' := [(h, .inr (6, [.int 4, .int 4, .int 10, .int 1, .int 3, .int 0, .int 0, .int 0, .ref h0, .ref h1, .ref h2])), (h0, .inl (cy 1, 8, .inl (fun _ => 0))), (h1, .inl (cy 1, 8, .inl (fun _ => 0))), (h2, .inl (cy 1, 56, .inl (fun _ => 0)))]) (ty := .int) C hP hD hS 0 7 rfl rfl inX6 tyX6 tyX6_ok nmX6 (by decide) kF_RX6_33 rfl rfl rfl rfl rfl (Nat.le_of_ble_eq_true rfl) rfl dX6_empty_38 (fun H locs hP hD hS => ?_)
  refine lv_iconst (v := 0) hx hb dX6_empty_41 (by decide) ?_
  refine lv_istore_n (lv' := [(1, .int 0), (0, .ref h)]) hx hb dX6_empty_42 rfl hl (by decide) rfl (fun ls hl => ?_)
  refine lv_iload_n hx hb dX6_empty_43 rfl (lv_at hl 0 rfl) ?_
  refine lv_bipush (v := 8) hx hb dX6_empty_44 (by decide) ?_
  refine lv_icmp_ge (tgt := 69) hx hb dX6_empty_46 (by decide) (fun c_0 => absurd c_0 (by decide)) (fun _ => ?_)
  refine lv_aload_n hx hb dX6_empty_49 rfl (lv_at hl 1 rfl) ?_
  refine q_get (v := .ref h0) C hP 0 8 rfl rfl inX6 (by decide) kF_RX6_36 rfl rfl dX6_empty_50 ?_
  refine lv_iload_n hx hb dX6_empty_53 rfl (lv_at hl 0 rfl) ?_
  refine lv_iconst (v := 0) hx hb dX6_empty_54 (by decide) ?_
  refine q_iast (g := fun _ => 0) (w' := [(h, .inr (6, [.int 4, .int 4, .int 10, .int 1, .int 3, .int 0, .int 0, .int 0, .ref h0, .ref h1, .ref h2])), (h0, .inl (cy 1, 8, .inl (fun _ => 0))), (h1, .inl (cy 1, 8, .inl (fun _ => 0))), (h2, .inl (cy 1, 56, .inl (fun _ => 0)))]) C hP hD hS 1 rfl (vin (by decide +kernel)) (updz _) rfl dX6_empty_55 (fun H locs hP hD hS => ?_)
  refine lv_aload_n hx hb dX6_empty_56 rfl (lv_at hl 1 rfl) ?_
  refine q_get (v := .ref h1) C hP 0 9 rfl rfl inX6 (by decide) kF_RX6_40 rfl rfl dX6_empty_57 ?_
  refine lv_iload_n hx hb dX6_empty_60 rfl (lv_at hl 0 rfl) ?_
  refine lv_iconst (v := 0) hx hb dX6_empty_61 (by decide) ?_
  refine q_iast (g := fun _ => 0) (w' := [(h, .inr (6, [.int 4, .int 4, .int 10, .int 1, .int 3, .int 0, .int 0, .int 0, .ref h0, .ref h1, .ref h2])), (h0, .inl (cy 1, 8, .inl (fun _ => 0))), (h1, .inl (cy 1, 8, .inl (fun _ => 0))), (h2, .inl (cy 1, 56, .inl (fun _ => 0)))]) C hP hD hS 2 rfl (vin (by decide +kernel)) (updz _) rfl dX6_empty_62 (fun H locs hP hD hS => ?_)
  refine lv_iinc (v := 1) (lv' := [(1, .int 1), (0, .ref h)]) hx hb dX6_empty_63 hl (k := 0) rfl (by decide) (by decide) rfl (fun ls hl => ?_)
  refine lv_goto (tgt := 43) hx hb dX6_empty_66 (by decide) ?_
  refine lv_iload_n hx hb dX6_empty_43 rfl (lv_at hl 0 rfl) ?_
  refine lv_bipush (v := 8) hx hb dX6_empty_44 (by decide) ?_
  refine lv_icmp_ge (tgt := 69) hx hb dX6_empty_46 (by decide) (fun c_0 => absurd c_0 (by decide)) (fun _ => ?_)
  refine lv_aload_n hx hb dX6_empty_49 rfl (lv_at hl 1 rfl) ?_
  refine q_get (v := .ref h0) C hP 0 8 rfl rfl inX6 (by decide) kF_RX6_36 rfl rfl dX6_empty_50 ?_
  refine lv_iload_n hx hb dX6_empty_53 rfl (lv_at hl 0 rfl) ?_
  refine lv_iconst (v := 0) hx hb dX6_empty_54 (by decide) ?_
  refine q_iast (g := fun _ => 0) (w' := [(h, .inr (6, [.int 4, .int 4, .int 10, .int 1, .int 3, .int 0, .int 0, .int 0, .ref h0, .ref h1, .ref h2])), (h0, .inl (cy 1, 8, .inl (fun _ => 0))), (h1, .inl (cy 1, 8, .inl (fun _ => 0))), (h2, .inl (cy 1, 56, .inl (fun _ => 0)))]) C hP hD hS 1 rfl (vin (by decide +kernel)) (updz _) rfl dX6_empty_55 (fun H locs hP hD hS => ?_)
  refine lv_aload_n hx hb dX6_empty_56 rfl (lv_at hl 1 rfl) ?_
  refine q_get (v := .ref h1) C hP 0 9 rfl rfl inX6 (by decide) kF_RX6_40 rfl rfl dX6_empty_57 ?_
  refine lv_iload_n hx hb dX6_empty_60 rfl (lv_at hl 0 rfl) ?_
  refine lv_iconst (v := 0) hx hb dX6_empty_61 (by decide) ?_
  refine q_iast (g := fun _ => 0) (w' := [(h, .inr (6, [.int 4, .int 4, .int 10, .int 1, .int 3, .int 0, .int 0, .int 0, .ref h0, .ref h1, .ref h2])), (h0, .inl (cy 1, 8, .inl (fun _ => 0))), (h1, .inl (cy 1, 8, .inl (fun _ => 0))), (h2, .inl (cy 1, 56, .inl (fun _ => 0)))]) C hP hD hS 2 rfl (vin (by decide +kernel)) (updz _) rfl dX6_empty_62 (fun H locs hP hD hS => ?_)
  refine lv_iinc (v := 2) (lv' := [(1, .int 2), (0, .ref h)]) hx hb dX6_empty_63 hl (k := 0) rfl (by decide) (by decide) rfl (fun ls hl => ?_)
  refine lv_goto (tgt := 43) hx hb dX6_empty_66 (by decide) ?_
  refine lv_iload_n hx hb dX6_empty_43 rfl (lv_at hl 0 rfl) ?_
  refine lv_bipush (v := 8) hx hb dX6_empty_44 (by decide) ?_
  refine lv_icmp_ge (tgt := 69) hx hb dX6_empty_46 (by decide) (fun c_0 => absurd c_0 (by decide)) (fun _ => ?_)
  refine lv_aload_n hx hb dX6_empty_49 rfl (lv_at hl 1 rfl) ?_
  refine q_get (v := .ref h0) C hP 0 8 rfl rfl inX6 (by decide) kF_RX6_36 rfl rfl dX6_empty_50 ?_
  refine lv_iload_n hx hb dX6_empty_53 rfl (lv_at hl 0 rfl) ?_
  refine lv_iconst (v := 0) hx hb dX6_empty_54 (by decide) ?_
  refine q_iast (g := fun _ => 0) (w' := [(h, .inr (6, [.int 4, .int 4, .int 10, .int 1, .int 3, .int 0, .int 0, .int 0, .ref h0, .ref h1, .ref h2])), (h0, .inl (cy 1, 8, .inl (fun _ => 0))), (h1, .inl (cy 1, 8, .inl (fun _ => 0))), (h2, .inl (cy 1, 56, .inl (fun _ => 0)))]) C hP hD hS 1 rfl (vin (by decide +kernel)) (updz _) rfl dX6_empty_55 (fun H locs hP hD hS => ?_)
  refine lv_aload_n hx hb dX6_empty_56 rfl (lv_at hl 1 rfl) ?_
  refine q_get (v := .ref h1) C hP 0 9 rfl rfl inX6 (by decide) kF_RX6_40 rfl rfl dX6_empty_57 ?_
  refine lv_iload_n hx hb dX6_empty_60 rfl (lv_at hl 0 rfl) ?_
  refine lv_iconst (v := 0) hx hb dX6_empty_61 (by decide) ?_
  refine q_iast (g := fun _ => 0) (w' := [(h, .inr (6, [.int 4, .int 4, .int 10, .int 1, .int 3, .int 0, .int 0, .int 0, .ref h0, .ref h1, .ref h2])), (h0, .inl (cy 1, 8, .inl (fun _ => 0))), (h1, .inl (cy 1, 8, .inl (fun _ => 0))), (h2, .inl (cy 1, 56, .inl (fun _ => 0)))]) C hP hD hS 2 rfl (vin (by decide +kernel)) (updz _) rfl dX6_empty_62 (fun H locs hP hD hS => ?_)
  refine lv_iinc (v := 3) (lv' := [(1, .int 3), (0, .ref h)]) hx hb dX6_empty_63 hl (k := 0) rfl (by decide) (by decide) rfl (fun ls hl => ?_)
  refine lv_goto (tgt := 43) hx hb dX6_empty_66 (by decide) ?_
  refine lv_iload_n hx hb dX6_empty_43 rfl (lv_at hl 0 rfl) ?_
  refine lv_bipush (v := 8) hx hb dX6_empty_44 (by decide) ?_
  refine lv_icmp_ge (tgt := 69) hx hb dX6_empty_46 (by decide) (fun c_0 => absurd c_0 (by decide)) (fun _ => ?_)
  refine lv_aload_n hx hb dX6_empty_49 rfl (lv_at hl 1 rfl) ?_
  refine q_get (v := .ref h0) C hP 0 8 rfl rfl inX6 (by decide) kF_RX6_36 rfl rfl dX6_empty_50 ?_
  refine lv_iload_n hx hb dX6_empty_53 rfl (lv_at hl 0 rfl) ?_
  refine lv_iconst (v := 0) hx hb dX6_empty_54 (by decide) ?_
  refine q_iast (g := fun _ => 0) (w' := [(h, .inr (6, [.int 4, .int 4, .int 10, .int 1, .int 3, .int 0, .int 0, .int 0, .ref h0, .ref h1, .ref h2])), (h0, .inl (cy 1, 8, .inl (fun _ => 0))), (h1, .inl (cy 1, 8, .inl (fun _ => 0))), (h2, .inl (cy 1, 56, .inl (fun _ => 0)))]) C hP hD hS 1 rfl (vin (by decide +kernel)) (updz _) rfl dX6_empty_55 (fun H locs hP hD hS => ?_)
  refine lv_aload_n hx hb dX6_empty_56 rfl (lv_at hl 1 rfl) ?_
  refine q_get (v := .ref h1) C hP 0 9 rfl rfl inX6 (by decide) kF_RX6_40 rfl rfl dX6_empty_57 ?_
  refine lv_iload_n hx hb dX6_empty_60 rfl (lv_at hl 0 rfl) ?_
  refine lv_iconst (v := 0) hx hb dX6_empty_61 (by decide) ?_
  refine q_iast (g := fun _ => 0) (w' := [(h, .inr (6, [.int 4, .int 4, .int 10, .int 1, .int 3, .int 0, .int 0, .int 0, .ref h0, .ref h1, .ref h2])), (h0, .inl (cy 1, 8, .inl (fun _ => 0))), (h1, .inl (cy 1, 8, .inl (fun _ => 0))), (h2, .inl (cy 1, 56, .inl (fun _ => 0)))]) C hP hD hS 2 rfl (vin (by decide +kernel)) (updz _) rfl dX6_empty_62 (fun H locs hP hD hS => ?_)
  refine lv_iinc (v := 4) (lv' := [(1, .int 4), (0, .ref h)]) hx hb dX6_empty_63 hl (k := 0) rfl (by decide) (by decide) rfl (fun ls hl => ?_)
  refine lv_goto (tgt := 43) hx hb dX6_empty_66 (by decide) ?_
  refine lv_iload_n hx hb dX6_empty_43 rfl (lv_at hl 0 rfl) ?_
  refine lv_bipush (v := 8) hx hb dX6_empty_44 (by decide) ?_
  refine lv_icmp_ge (tgt := 69) hx hb dX6_empty_46 (by decide) (fun c_0 => absurd c_0 (by decide)) (fun _ => ?_)
  refine lv_aload_n hx hb dX6_empty_49 rfl (lv_at hl 1 rfl) ?_
  refine q_get (v := .ref h0) C hP 0 8 rfl rfl inX6 (by decide) kF_RX6_36 rfl rfl dX6_empty_50 ?_
  refine lv_iload_n hx hb dX6_empty_53 rfl (lv_at hl 0 rfl) ?_
  refine lv_iconst (v := 0) hx hb dX6_empty_54 (by decide) ?_
  refine q_iast (g := fun _ => 0) (w' := [(h, .inr (6, [.int 4, .int 4, .int 10, .int 1, .int 3, .int 0, .int 0, .int 0, .ref h0, .ref h1, .ref h2])), (h0, .inl (cy 1, 8, .inl (fun _ => 0))), (h1, .inl (cy 1, 8, .inl (fun _ => 0))), (h2, .inl (cy 1, 56, .inl (fun _ => 0)))]) C hP hD hS 1 rfl (vin (by decide +kernel)) (updz _) rfl dX6_empty_55 (fun H locs hP hD hS => ?_)
  refine lv_aload_n hx hb dX6_empty_56 rfl (lv_at hl 1 rfl) ?_
  refine q_get (v := .ref h1) C hP 0 9 rfl rfl inX6 (by decide) kF_RX6_40 rfl rfl dX6_empty_57 ?_
  refine lv_iload_n hx hb dX6_empty_60 rfl (lv_at hl 0 rfl) ?_
  refine lv_iconst (v := 0) hx hb dX6_empty_61 (by decide) ?_
  refine q_iast (g := fun _ => 0) (w' := [(h, .inr (6, [.int 4, .int 4, .int 10, .int 1, .int 3, .int 0, .int 0, .int 0, .ref h0, .ref h1, .ref h2])), (h0, .inl (cy 1, 8, .inl (fun _ => 0))), (h1, .inl (cy 1, 8, .inl (fun _ => 0))), (h2, .inl (cy 1, 56, .inl (fun _ => 0)))]) C hP hD hS 2 rfl (vin (by decide +kernel)) (updz _) rfl dX6_empty_62 (fun H locs hP hD hS => ?_)
  refine lv_iinc (v := 5) (lv' := [(1, .int 5), (0, .ref h)]) hx hb dX6_empty_63 hl (k := 0) rfl (by decide) (by decide) rfl (fun ls hl => ?_)
  refine lv_goto (tgt := 43) hx hb dX6_empty_66 (by decide) ?_
  refine lv_iload_n hx hb dX6_empty_43 rfl (lv_at hl 0 rfl) ?_
  refine lv_bipush (v := 8) hx hb dX6_empty_44 (by decide) ?_
  refine lv_icmp_ge (tgt := 69) hx hb dX6_empty_46 (by decide) (fun c_0 => absurd c_0 (by decide)) (fun _ => ?_)
  refine lv_aload_n hx hb dX6_empty_49 rfl (lv_at hl 1 rfl) ?_
  refine q_get (v := .ref h0) C hP 0 8 rfl rfl inX6 (by decide) kF_RX6_36 rfl rfl dX6_empty_50 ?_
  refine lv_iload_n hx hb dX6_empty_53 rfl (lv_at hl 0 rfl) ?_
  refine lv_iconst (v := 0) hx hb dX6_empty_54 (by decide) ?_
  refine q_iast (g := fun _ => 0) (w' := [(h, .inr (6, [.int 4, .int 4, .int 10, .int 1, .int 3, .int 0, .int 0, .int 0, .ref h0, .ref h1, .ref h2])), (h0, .inl (cy 1, 8, .inl (fun _ => 0))), (h1, .inl (cy 1, 8, .inl (fun _ => 0))), (h2, .inl (cy 1, 56, .inl (fun _ => 0)))]) C hP hD hS 1 rfl (vin (by decide +kernel)) (updz _) rfl dX6_empty_55 (fun H locs hP hD hS => ?_)
  refine lv_aload_n hx hb dX6_empty_56 rfl (lv_at hl 1 rfl) ?_
  refine q_get (v := .ref h1) C hP 0 9 rfl rfl inX6 (by decide) kF_RX6_40 rfl rfl dX6_empty_57 ?_
  refine lv_iload_n hx hb dX6_empty_60 rfl (lv_at hl 0 rfl) ?_
  refine lv_iconst (v := 0) hx hb dX6_empty_61 (by decide) ?_
  refine q_iast (g := fun _ => 0) (w' := [(h, .inr (6, [.int 4, .int 4, .int 10, .int 1, .int 3, .int 0, .int 0, .int 0, .ref h0, .ref h1, .ref h2])), (h0, .inl (cy 1, 8, .inl (fun _ => 0))), (h1, .inl (cy 1, 8, .inl (fun _ => 0))), (h2, .inl (cy 1, 56, .inl (fun _ => 0)))]) C hP hD hS 2 rfl (vin (by decide +kernel)) (updz _) rfl dX6_empty_62 (fun H locs hP hD hS => ?_)
  refine lv_iinc (v := 6) (lv' := [(1, .int 6), (0, .ref h)]) hx hb dX6_empty_63 hl (k := 0) rfl (by decide) (by decide) rfl (fun ls hl => ?_)
  refine lv_goto (tgt := 43) hx hb dX6_empty_66 (by decide) ?_
  refine lv_iload_n hx hb dX6_empty_43 rfl (lv_at hl 0 rfl) ?_
  refine lv_bipush (v := 8) hx hb dX6_empty_44 (by decide) ?_
  refine lv_icmp_ge (tgt := 69) hx hb dX6_empty_46 (by decide) (fun c_0 => absurd c_0 (by decide)) (fun _ => ?_)
  refine lv_aload_n hx hb dX6_empty_49 rfl (lv_at hl 1 rfl) ?_
  refine q_get (v := .ref h0) C hP 0 8 rfl rfl inX6 (by decide) kF_RX6_36 rfl rfl dX6_empty_50 ?_
  refine lv_iload_n hx hb dX6_empty_53 rfl (lv_at hl 0 rfl) ?_
  refine lv_iconst (v := 0) hx hb dX6_empty_54 (by decide) ?_
  refine q_iast (g := fun _ => 0) (w' := [(h, .inr (6, [.int 4, .int 4, .int 10, .int 1, .int 3, .int 0, .int 0, .int 0, .ref h0, .ref h1, .ref h2])), (h0, .inl (cy 1, 8, .inl (fun _ => 0))), (h1, .inl (cy 1, 8, .inl (fun _ => 0))), (h2, .inl (cy 1, 56, .inl (fun _ => 0)))]) C hP hD hS 1 rfl (vin (by decide +kernel)) (updz _) rfl dX6_empty_55 (fun H locs hP hD hS => ?_)
  refine lv_aload_n hx hb dX6_empty_56 rfl (lv_at hl 1 rfl) ?_
  refine q_get (v := .ref h1) C hP 0 9 rfl rfl inX6 (by decide) kF_RX6_40 rfl rfl dX6_empty_57 ?_
  refine lv_iload_n hx hb dX6_empty_60 rfl (lv_at hl 0 rfl) ?_
  refine lv_iconst (v := 0) hx hb dX6_empty_61 (by decide) ?_
  refine q_iast (g := fun _ => 0) (w' := [(h, .inr (6, [.int 4, .int 4, .int 10, .int 1, .int 3, .int 0, .int 0, .int 0, .ref h0, .ref h1, .ref h2])), (h0, .inl (cy 1, 8, .inl (fun _ => 0))), (h1, .inl (cy 1, 8, .inl (fun _ => 0))), (h2, .inl (cy 1, 56, .inl (fun _ => 0)))]) C hP hD hS 2 rfl (vin (by decide +kernel)) (updz _) rfl dX6_empty_62 (fun H locs hP hD hS => ?_)
  refine lv_iinc (v := 7) (lv' := [(1, .int 7), (0, .ref h)]) hx hb dX6_empty_63 hl (k := 0) rfl (by decide) (by decide) rfl (fun ls hl => ?_)
  refine lv_goto (tgt := 43) hx hb dX6_empty_66 (by decide) ?_
  refine lv_iload_n hx hb dX6_empty_43 rfl (lv_at hl 0 rfl) ?_
  refine lv_bipush (v := 8) hx hb dX6_empty_44 (by decide) ?_
  refine lv_icmp_ge (tgt := 69) hx hb dX6_empty_46 (by decide) (fun c_0 => absurd c_0 (by decide)) (fun _ => ?_)
  refine lv_aload_n hx hb dX6_empty_49 rfl (lv_at hl 1 rfl) ?_
  refine q_get (v := .ref h0) C hP 0 8 rfl rfl inX6 (by decide) kF_RX6_36 rfl rfl dX6_empty_50 ?_
  refine lv_iload_n hx hb dX6_empty_53 rfl (lv_at hl 0 rfl) ?_
  refine lv_iconst (v := 0) hx hb dX6_empty_54 (by decide) ?_
  refine q_iast (g := fun _ => 0) (w' := [(h, .inr (6, [.int 4, .int 4, .int 10, .int 1, .int 3, .int 0, .int 0, .int 0, .ref h0, .ref h1, .ref h2])), (h0, .inl (cy 1, 8, .inl (fun _ => 0))), (h1, .inl (cy 1, 8, .inl (fun _ => 0))), (h2, .inl (cy 1, 56, .inl (fun _ => 0)))]) C hP hD hS 1 rfl (vin (by decide +kernel)) (updz _) rfl dX6_empty_55 (fun H locs hP hD hS => ?_)
  refine lv_aload_n hx hb dX6_empty_56 rfl (lv_at hl 1 rfl) ?_
  refine q_get (v := .ref h1) C hP 0 9 rfl rfl inX6 (by decide) kF_RX6_40 rfl rfl dX6_empty_57 ?_
  refine lv_iload_n hx hb dX6_empty_60 rfl (lv_at hl 0 rfl) ?_
  refine lv_iconst (v := 0) hx hb dX6_empty_61 (by decide) ?_
  refine q_iast (g := fun _ => 0) (w' := [(h, .inr (6, [.int 4, .int 4, .int 10, .int 1, .int 3, .int 0, .int 0, .int 0, .ref h0, .ref h1, .ref h2])), (h0, .inl (cy 1, 8, .inl (fun _ => 0))), (h1, .inl (cy 1, 8, .inl (fun _ => 0))), (h2, .inl (cy 1, 56, .inl (fun _ => 0)))]) C hP hD hS 2 rfl (vin (by decide +kernel)) (updz _) rfl dX6_empty_62 (fun H locs hP hD hS => ?_)
  refine lv_iinc (v := 8) (lv' := [(1, .int 8), (0, .ref h)]) hx hb dX6_empty_63 hl (k := 0) rfl (by decide) (by decide) rfl (fun ls hl => ?_)
  refine lv_goto (tgt := 43) hx hb dX6_empty_66 (by decide) ?_
  refine lv_iload_n hx hb dX6_empty_43 rfl (lv_at hl 0 rfl) ?_
  refine lv_bipush (v := 8) hx hb dX6_empty_44 (by decide) ?_
  refine lv_icmp_ge (tgt := 69) hx hb dX6_empty_46 (by decide) (fun _ => ?_) (fun c_0 => absurd (by decide) c_0)
  exact q_vret (rm := (Rm 0 0 0 0)) C hS () trivial (q_subP hP [0, 1, 2, 3] rfl) (hD.sub [0, 1, 2, 3] (by decide) rfl) (Nat.le_of_ble_eq_true rfl) (Nat.le_of_ble_eq_true rfl) dX6_empty_69
set_option maxHeartbeats 4000000 in
set_option maxRecDepth 100000 in
theorem lp_c_Sempty_54 (l : Launch) (D : va_G) (cy : Nat → ClassId) (h : Nat) (h0 : Nat) (h1 : Nat) (h2 : Nat) (h3 : Nat) (h4 : Nat) (h5 : Nat)   {p : Program} {e : Env} {s : State} {m : MethodId} {args : Array Value} {below : List Frame} {meth : Method} {c : Code} {A : Nat → Prop} {Q : State → Prop} {cells slots : Nat} (hroom : cells ≤ ((Rm 0 0 0 0)).cells ∧ slots ≤ ((Rm 0 0 0 0)).slots) (C : Cx p s m args meth c cX8_empty 2 none RX8 "empty" D cy A)
    (cont : ∀  (H : Heap) (locs : List Loc) (ls : Array Slot), va_P D vwCl [(h, .inr (8, [.ref h0, .ref h1, .ref h2, .ref h3, .ref h4, .int 0, .int 0, .ref h5])), (h0, .inl (cy 1, 8, .inl (fun _ => 0))), (h1, .inl (cy 1, 8, .inl (fun _ => 0))), (h2, .inl (cy 1, 8, .inl (fun _ => 0))), (h3, .inl (cy 1, 8, .inl (fun _ => 0))), (h4, .inl (cy 1, 64, .inl (fun _ => 0)))] H → va_D A [(h, .inr (8, [.ref h0, .ref h1, .ref h2, .ref h3, .ref h4, .int 0, .int 0, .ref h5])), (h0, .inl (cy 1, 8, .inl (fun _ => 0))), (h1, .inl (cy 1, 8, .inl (fun _ => 0))), (h2, .inl (cy 1, 8, .inl (fun _ => 0))), (h3, .inl (cy 1, 8, .inl (fun _ => 0))), (h4, .inl (cy 1, 64, .inl (fun _ => 0)))] → va_S A s.heap H locs → lv_has ls 2 [(1, .int 64), (0, .ref h)] → W p l e (Rm 0 0 0 0) s m args below meth c H locs cells slots Q (F0 m 73 ls [])) :
    ∀ (k i_1 : Nat)  (H : Heap) (locs : List Loc) (ls : Array Slot), i_1 + k = 64 → va_P D vwCl [(h, .inr (8, [.ref h0, .ref h1, .ref h2, .ref h3, .ref h4, .int 0, .int 0, .ref h5])), (h0, .inl (cy 1, 8, .inl (fun _ => 0))), (h1, .inl (cy 1, 8, .inl (fun _ => 0))), (h2, .inl (cy 1, 8, .inl (fun _ => 0))), (h3, .inl (cy 1, 8, .inl (fun _ => 0))), (h4, .inl (cy 1, 64, .inl (fun _ => 0)))] H → va_D A [(h, .inr (8, [.ref h0, .ref h1, .ref h2, .ref h3, .ref h4, .int 0, .int 0, .ref h5])), (h0, .inl (cy 1, 8, .inl (fun _ => 0))), (h1, .inl (cy 1, 8, .inl (fun _ => 0))), (h2, .inl (cy 1, 8, .inl (fun _ => 0))), (h3, .inl (cy 1, 8, .inl (fun _ => 0))), (h4, .inl (cy 1, 64, .inl (fun _ => 0)))] → va_S A s.heap H locs → lv_has ls 2 [(1, .int (nI i_1)), (0, .ref h)] → W p l e (Rm 0 0 0 0) s m args below meth c H locs cells slots Q (F0 m 54 ls []) := by
  have hx := C.1
  have hb := C.2.1
  intro k
  induction k with
  | zero =>
    intro i_1  H locs ls hik hP hD hS hl
    obtain rfl : i_1 = 64 := by omega
    have hl : lv_has ls 2 [(1, .int 64), (0, .ref h)] := hl
    have hP : va_P D vwCl [(h, .inr (8, [.ref h0, .ref h1, .ref h2, .ref h3, .ref h4, .int 0, .int 0, .ref h5])), (h0, .inl (cy 1, 8, .inl (fun _ => 0))), (h1, .inl (cy 1, 8, .inl (fun _ => 0))), (h2, .inl (cy 1, 8, .inl (fun _ => 0))), (h3, .inl (cy 1, 8, .inl (fun _ => 0))), (h4, .inl (cy 1, 64, .inl (fun _ => 0)))] H := hP
    have hD : va_D A [(h, .inr (8, [.ref h0, .ref h1, .ref h2, .ref h3, .ref h4, .int 0, .int 0, .ref h5])), (h0, .inl (cy 1, 8, .inl (fun _ => 0))), (h1, .inl (cy 1, 8, .inl (fun _ => 0))), (h2, .inl (cy 1, 8, .inl (fun _ => 0))), (h3, .inl (cy 1, 8, .inl (fun _ => 0))), (h4, .inl (cy 1, 64, .inl (fun _ => 0)))] := hD
    refine lv_iload_n hx hb dX8_empty_54 rfl (lv_at hl 0 rfl) ?_
    refine lv_bipush (v := 64) hx hb dX8_empty_55 (by decide) ?_
    refine lv_icmp_ge (tgt := 73) hx hb dX8_empty_57 (by decide) (fun _ => ?_) (fun c_0 => absurd (by decide) c_0)
    exact cont  H locs ls hP hD hS hl
  | succ k ih =>
    intro i_1  H locs ls hik hP hD hS hl
    refine lv_iload_n hx hb dX8_empty_54 rfl (lv_at hl 0 rfl) ?_
    refine lv_bipush (v := 64) hx hb dX8_empty_55 (by decide) ?_
    refine lv_icmp_ge (tgt := 73) hx hb dX8_empty_57 (by decide) (fun c_0 => absurd c_0 (nI_ge (b := 64) (by omega) (by decide))) (fun _ => ?_)
    refine lv_aload_n hx hb dX8_empty_60 rfl (lv_at hl 1 rfl) ?_
    refine q_get (v := .ref h4) C hP 0 4 rfl rfl inX8 (by decide) kF_RX8_24 rfl rfl dX8_empty_61 ?_
    refine lv_iload_n hx hb dX8_empty_64 rfl (lv_at hl 0 rfl) ?_
    refine lv_iconst (v := 0) hx hb dX8_empty_65 (by decide) ?_
    refine q_iast (g := fun _ => 0) (w' := [(h, .inr (8, [.ref h0, .ref h1, .ref h2, .ref h3, .ref h4, .int 0, .int 0, .ref h5])), (h0, .inl (cy 1, 8, .inl (fun _ => 0))), (h1, .inl (cy 1, 8, .inl (fun _ => 0))), (h2, .inl (cy 1, 8, .inl (fun _ => 0))), (h3, .inl (cy 1, 8, .inl (fun _ => 0))), (h4, .inl (cy 1, 64, .inl (fun _ => 0)))]) C hP hD hS 5 rfl (vp_in_nI (by omega) (by decide)) (updz _) rfl dX8_empty_66 (fun H locs hP hD hS => ?_)
    refine lv_iinc (v := (nI (i_1 + 1))) (lv' := [(1, .int (nI (i_1 + 1))), (0, .ref h)]) hx hb dX8_empty_67 hl (k := 0) rfl (nI_1 _) (by decide) rfl (fun ls hl => ?_)
    refine lv_goto (tgt := 54) hx hb dX8_empty_70 (by decide) ?_
    exact ih (i_1 + 1)  H locs ls (by omega) hP hD hS (lv_sub hl [0, 1] rfl)
set_option maxHeartbeats 4000000 in
set_option maxRecDepth 100000 in
theorem c_Sempty (l : Launch) (D : va_G) (cy : Nat → ClassId) (h : Nat) (h0 : Nat) (h1 : Nat) (h2 : Nat) (h3 : Nat) (h4 : Nat) (h5 : Nat) (sz : Nat)  : MV l yX8_empty cX8_empty 2 (Rm 0 0 0 0) D cy [.ref h] sz [(h, .inr (8, [.ref h0, .ref h1, .ref h2, .ref h3, .ref h4, .int 0, .int 0, .ref h5])), (h0, .inl (cy 1, 8, .inl (fun _ => 0))), (h1, .inl (cy 1, 8, .inl (fun _ => 0))), (h2, .inl (cy 1, 8, .inl (fun _ => 0))), (h3, .inl (cy 1, 8, .inl (fun _ => 0))), (h4, .inl (cy 1, 64, .inl (fun _ => 0)))] (fun _ : Unit => True) (fun u : Unit => [(h, .inr (8, [.ref h0, .ref h1, .ref h2, .ref h3, .ref h4, .int 0, .int 0, .ref h5])), (h0, .inl (cy 1, 8, .inl (fun _ => 0))), (h1, .inl (cy 1, 8, .inl (fun _ => 0))), (h2, .inl (cy 1, 8, .inl (fun _ => 0))), (h3, .inl (cy 1, 8, .inl (fun _ => 0))), (h4, .inl (cy 1, 64, .inl (fun _ => 0)))]) := by
  refine MV.enter (by decide) (Nat.le_of_ble_eq_true rfl) ?_
  intro p e s m below meth c ls A hsz hAe C hP hD hS hl
  have C : Cx p s m _ meth c cX8_empty 2 none RX8 "empty" D cy A := C
  have hx := C.1
  have hb := C.2.1
  have hl : lv_has ls 2 [(0, .ref h)] := hl
  refine lv_aload_n hx hb dX8_empty_0 rfl (lv_at hl 0 rfl) ?_
  refine lv_iconst (v := 0) hx hb dX8_empty_1 (by decide) ?_
  refine q_put (v := .int 0) (w' := [(h, .inr (8, [.ref h0, .ref h1, .ref h2, .ref h3, .ref h4, .int 0, .int 0, .ref h5])), (h0, .inl (cy 1, 8, .inl (fun _ => 0))), (h1, .inl (cy 1, 8, .inl (fun _ => 0))), (h2, .inl (cy 1, 8, .inl (fun _ => 0))), (h3, .inl (cy 1, 8, .inl (fun _ => 0))), (h4, .inl (cy 1, 64, .inl (fun _ => 0)))]) (ty := .int) C hP hD hS 0 5 rfl rfl inX8 tyX8 tyX8_ok nmX8 (by decide) kF_RX8_27 rfl rfl rfl rfl rfl (Nat.le_of_ble_eq_true rfl) rfl dX8_empty_2 (fun H locs hP hD hS => ?_)
  refine lv_aload_n hx hb dX8_empty_5 rfl (lv_at hl 0 rfl) ?_
  refine lv_iconst (v := 0) hx hb dX8_empty_6 (by decide) ?_
  refine q_put (v := .int 0) (w' := [(h, .inr (8, [.ref h0, .ref h1, .ref h2, .ref h3, .ref h4, .int 0, .int 0, .ref h5])), (h0, .inl (cy 1, 8, .inl (fun _ => 0))), (h1, .inl (cy 1, 8, .inl (fun _ => 0))), (h2, .inl (cy 1, 8, .inl (fun _ => 0))), (h3, .inl (cy 1, 8, .inl (fun _ => 0))), (h4, .inl (cy 1, 64, .inl (fun _ => 0)))]) (ty := .int) C hP hD hS 0 6 rfl rfl inX8 tyX8 tyX8_ok nmX8 (by decide) kF_RX8_31 rfl rfl rfl rfl rfl (Nat.le_of_ble_eq_true rfl) rfl dX8_empty_7 (fun H locs hP hD hS => ?_)
  refine lv_iconst (v := 0) hx hb dX8_empty_10 (by decide) ?_
  refine lv_istore_n (lv' := [(1, .int 0), (0, .ref h)]) hx hb dX8_empty_11 rfl hl (by decide) rfl (fun ls hl => ?_)
  refine lv_iload_n hx hb dX8_empty_12 rfl (lv_at hl 0 rfl) ?_
  refine lv_bipush (v := 8) hx hb dX8_empty_13 (by decide) ?_
  refine lv_icmp_ge (tgt := 52) hx hb dX8_empty_15 (by decide) (fun c_0 => absurd c_0 (by decide)) (fun _ => ?_)
  refine lv_aload_n hx hb dX8_empty_18 rfl (lv_at hl 1 rfl) ?_
  refine q_get (v := .ref h0) C hP 0 0 rfl rfl inX8 (by decide) kF_RX8_9 rfl rfl dX8_empty_19 ?_
  refine lv_iload_n hx hb dX8_empty_22 rfl (lv_at hl 0 rfl) ?_
  refine lv_iconst (v := 0) hx hb dX8_empty_23 (by decide) ?_
  refine q_iast (g := fun _ => 0) (w' := [(h, .inr (8, [.ref h0, .ref h1, .ref h2, .ref h3, .ref h4, .int 0, .int 0, .ref h5])), (h0, .inl (cy 1, 8, .inl (fun _ => 0))), (h1, .inl (cy 1, 8, .inl (fun _ => 0))), (h2, .inl (cy 1, 8, .inl (fun _ => 0))), (h3, .inl (cy 1, 8, .inl (fun _ => 0))), (h4, .inl (cy 1, 64, .inl (fun _ => 0)))]) C hP hD hS 1 rfl (vin (by decide +kernel)) (updz _) rfl dX8_empty_24 (fun H locs hP hD hS => ?_)
  refine lv_aload_n hx hb dX8_empty_25 rfl (lv_at hl 1 rfl) ?_
  refine q_get (v := .ref h1) C hP 0 1 rfl rfl inX8 (by decide) kF_RX8_15 rfl rfl dX8_empty_26 ?_
  refine lv_iload_n hx hb dX8_empty_29 rfl (lv_at hl 0 rfl) ?_
  refine lv_iconst (v := 0) hx hb dX8_empty_30 (by decide) ?_
  refine q_iast (g := fun _ => 0) (w' := [(h, .inr (8, [.ref h0, .ref h1, .ref h2, .ref h3, .ref h4, .int 0, .int 0, .ref h5])), (h0, .inl (cy 1, 8, .inl (fun _ => 0))), (h1, .inl (cy 1, 8, .inl (fun _ => 0))), (h2, .inl (cy 1, 8, .inl (fun _ => 0))), (h3, .inl (cy 1, 8, .inl (fun _ => 0))), (h4, .inl (cy 1, 64, .inl (fun _ => 0)))]) C hP hD hS 2 rfl (vin (by decide +kernel)) (updz _) rfl dX8_empty_31 (fun H locs hP hD hS => ?_)
  refine lv_aload_n hx hb dX8_empty_32 rfl (lv_at hl 1 rfl) ?_
  refine q_get (v := .ref h2) C hP 0 2 rfl rfl inX8 (by decide) kF_RX8_18 rfl rfl dX8_empty_33 ?_
  refine lv_iload_n hx hb dX8_empty_36 rfl (lv_at hl 0 rfl) ?_
  refine lv_iconst (v := 0) hx hb dX8_empty_37 (by decide) ?_
  refine q_iast (g := fun _ => 0) (w' := [(h, .inr (8, [.ref h0, .ref h1, .ref h2, .ref h3, .ref h4, .int 0, .int 0, .ref h5])), (h0, .inl (cy 1, 8, .inl (fun _ => 0))), (h1, .inl (cy 1, 8, .inl (fun _ => 0))), (h2, .inl (cy 1, 8, .inl (fun _ => 0))), (h3, .inl (cy 1, 8, .inl (fun _ => 0))), (h4, .inl (cy 1, 64, .inl (fun _ => 0)))]) C hP hD hS 3 rfl (vin (by decide +kernel)) (updz _) rfl dX8_empty_38 (fun H locs hP hD hS => ?_)
  refine lv_aload_n hx hb dX8_empty_39 rfl (lv_at hl 1 rfl) ?_
  refine q_get (v := .ref h3) C hP 0 3 rfl rfl inX8 (by decide) kF_RX8_21 rfl rfl dX8_empty_40 ?_
  refine lv_iload_n hx hb dX8_empty_43 rfl (lv_at hl 0 rfl) ?_
  refine lv_iconst (v := 0) hx hb dX8_empty_44 (by decide) ?_
  refine q_iast (g := fun _ => 0) (w' := [(h, .inr (8, [.ref h0, .ref h1, .ref h2, .ref h3, .ref h4, .int 0, .int 0, .ref h5])), (h0, .inl (cy 1, 8, .inl (fun _ => 0))), (h1, .inl (cy 1, 8, .inl (fun _ => 0))), (h2, .inl (cy 1, 8, .inl (fun _ => 0))), (h3, .inl (cy 1, 8, .inl (fun _ => 0))), (h4, .inl (cy 1, 64, .inl (fun _ => 0)))]) C hP hD hS 4 rfl (vin (by decide +kernel)) (updz _) rfl dX8_empty_45 (fun H locs hP hD hS => ?_)
  refine lv_iinc (v := 1) (lv' := [(1, .int 1), (0, .ref h)]) hx hb dX8_empty_46 hl (k := 0) rfl (by decide) (by decide) rfl (fun ls hl => ?_)
  refine lv_goto (tgt := 12) hx hb dX8_empty_49 (by decide) ?_
  refine lv_iload_n hx hb dX8_empty_12 rfl (lv_at hl 0 rfl) ?_
  refine lv_bipush (v := 8) hx hb dX8_empty_13 (by decide) ?_
  refine lv_icmp_ge (tgt := 52) hx hb dX8_empty_15 (by decide) (fun c_0 => absurd c_0 (by decide)) (fun _ => ?_)
  refine lv_aload_n hx hb dX8_empty_18 rfl (lv_at hl 1 rfl) ?_
  refine q_get (v := .ref h0) C hP 0 0 rfl rfl inX8 (by decide) kF_RX8_9 rfl rfl dX8_empty_19 ?_
  refine lv_iload_n hx hb dX8_empty_22 rfl (lv_at hl 0 rfl) ?_
  refine lv_iconst (v := 0) hx hb dX8_empty_23 (by decide) ?_
  refine q_iast (g := fun _ => 0) (w' := [(h, .inr (8, [.ref h0, .ref h1, .ref h2, .ref h3, .ref h4, .int 0, .int 0, .ref h5])), (h0, .inl (cy 1, 8, .inl (fun _ => 0))), (h1, .inl (cy 1, 8, .inl (fun _ => 0))), (h2, .inl (cy 1, 8, .inl (fun _ => 0))), (h3, .inl (cy 1, 8, .inl (fun _ => 0))), (h4, .inl (cy 1, 64, .inl (fun _ => 0)))]) C hP hD hS 1 rfl (vin (by decide +kernel)) (updz _) rfl dX8_empty_24 (fun H locs hP hD hS => ?_)
  refine lv_aload_n hx hb dX8_empty_25 rfl (lv_at hl 1 rfl) ?_
  refine q_get (v := .ref h1) C hP 0 1 rfl rfl inX8 (by decide) kF_RX8_15 rfl rfl dX8_empty_26 ?_
  refine lv_iload_n hx hb dX8_empty_29 rfl (lv_at hl 0 rfl) ?_
  refine lv_iconst (v := 0) hx hb dX8_empty_30 (by decide) ?_
  refine q_iast (g := fun _ => 0) (w' := [(h, .inr (8, [.ref h0, .ref h1, .ref h2, .ref h3, .ref h4, .int 0, .int 0, .ref h5])), (h0, .inl (cy 1, 8, .inl (fun _ => 0))), (h1, .inl (cy 1, 8, .inl (fun _ => 0))), (h2, .inl (cy 1, 8, .inl (fun _ => 0))), (h3, .inl (cy 1, 8, .inl (fun _ => 0))), (h4, .inl (cy 1, 64, .inl (fun _ => 0)))]) C hP hD hS 2 rfl (vin (by decide +kernel)) (updz _) rfl dX8_empty_31 (fun H locs hP hD hS => ?_)
  refine lv_aload_n hx hb dX8_empty_32 rfl (lv_at hl 1 rfl) ?_
  refine q_get (v := .ref h2) C hP 0 2 rfl rfl inX8 (by decide) kF_RX8_18 rfl rfl dX8_empty_33 ?_
  refine lv_iload_n hx hb dX8_empty_36 rfl (lv_at hl 0 rfl) ?_
  refine lv_iconst (v := 0) hx hb dX8_empty_37 (by decide) ?_
  refine q_iast (g := fun _ => 0) (w' := [(h, .inr (8, [.ref h0, .ref h1, .ref h2, .ref h3, .ref h4, .int 0, .int 0, .ref h5])), (h0, .inl (cy 1, 8, .inl (fun _ => 0))), (h1, .inl (cy 1, 8, .inl (fun _ => 0))), (h2, .inl (cy 1, 8, .inl (fun _ => 0))), (h3, .inl (cy 1, 8, .inl (fun _ => 0))), (h4, .inl (cy 1, 64, .inl (fun _ => 0)))]) C hP hD hS 3 rfl (vin (by decide +kernel)) (updz _) rfl dX8_empty_38 (fun H locs hP hD hS => ?_)
  refine lv_aload_n hx hb dX8_empty_39 rfl (lv_at hl 1 rfl) ?_
  refine q_get (v := .ref h3) C hP 0 3 rfl rfl inX8 (by decide) kF_RX8_21 rfl rfl dX8_empty_40 ?_
  refine lv_iload_n hx hb dX8_empty_43 rfl (lv_at hl 0 rfl) ?_
  refine lv_iconst (v := 0) hx hb dX8_empty_44 (by decide) ?_
  refine q_iast (g := fun _ => 0) (w' := [(h, .inr (8, [.ref h0, .ref h1, .ref h2, .ref h3, .ref h4, .int 0, .int 0, .ref h5])), (h0, .inl (cy 1, 8, .inl (fun _ => 0))), (h1, .inl (cy 1, 8, .inl (fun _ => 0))), (h2, .inl (cy 1, 8, .inl (fun _ => 0))), (h3, .inl (cy 1, 8, .inl (fun _ => 0))), (h4, .inl (cy 1, 64, .inl (fun _ => 0)))]) C hP hD hS 4 rfl (vin (by decide +kernel)) (updz _) rfl dX8_empty_45 (fun H locs hP hD hS => ?_)
  refine lv_iinc (v := 2) (lv' := [(1, .int 2), (0, .ref h)]) hx hb dX8_empty_46 hl (k := 0) rfl (by decide) (by decide) rfl (fun ls hl => ?_)
  refine lv_goto (tgt := 12) hx hb dX8_empty_49 (by decide) ?_
  refine lv_iload_n hx hb dX8_empty_12 rfl (lv_at hl 0 rfl) ?_
  refine lv_bipush (v := 8) hx hb dX8_empty_13 (by decide) ?_
  refine lv_icmp_ge (tgt := 52) hx hb dX8_empty_15 (by decide) (fun c_0 => absurd c_0 (by decide)) (fun _ => ?_)
  refine lv_aload_n hx hb dX8_empty_18 rfl (lv_at hl 1 rfl) ?_
  refine q_get (v := .ref h0) C hP 0 0 rfl rfl inX8 (by decide) kF_RX8_9 rfl rfl dX8_empty_19 ?_
  refine lv_iload_n hx hb dX8_empty_22 rfl (lv_at hl 0 rfl) ?_
  refine lv_iconst (v := 0) hx hb dX8_empty_23 (by decide) ?_
  refine q_iast (g := fun _ => 0) (w' := [(h, .inr (8, [.ref h0, .ref h1, .ref h2, .ref h3, .ref h4, .int 0, .int 0, .ref h5])), (h0, .inl (cy 1, 8, .inl (fun _ => 0))), (h1, .inl (cy 1, 8, .inl (fun _ => 0))), (h2, .inl (cy 1, 8, .inl (fun _ => 0))), (h3, .inl (cy 1, 8, .inl (fun _ => 0))), (h4, .inl (cy 1, 64, .inl (fun _ => 0)))]) C hP hD hS 1 rfl (vin (by decide +kernel)) (updz _) rfl dX8_empty_24 (fun H locs hP hD hS => ?_)
  refine lv_aload_n hx hb dX8_empty_25 rfl (lv_at hl 1 rfl) ?_
  refine q_get (v := .ref h1) C hP 0 1 rfl rfl inX8 (by decide) kF_RX8_15 rfl rfl dX8_empty_26 ?_
  refine lv_iload_n hx hb dX8_empty_29 rfl (lv_at hl 0 rfl) ?_
  refine lv_iconst (v := 0) hx hb dX8_empty_30 (by decide) ?_
  refine q_iast (g := fun _ => 0) (w' := [(h, .inr (8, [.ref h0, .ref h1, .ref h2, .ref h3, .ref h4, .int 0, .int 0, .ref h5])), (h0, .inl (cy 1, 8, .inl (fun _ => 0))), (h1, .inl (cy 1, 8, .inl (fun _ => 0))), (h2, .inl (cy 1, 8, .inl (fun _ => 0))), (h3, .inl (cy 1, 8, .inl (fun _ => 0))), (h4, .inl (cy 1, 64, .inl (fun _ => 0)))]) C hP hD hS 2 rfl (vin (by decide +kernel)) (updz _) rfl dX8_empty_31 (fun H locs hP hD hS => ?_)
  refine lv_aload_n hx hb dX8_empty_32 rfl (lv_at hl 1 rfl) ?_
  refine q_get (v := .ref h2) C hP 0 2 rfl rfl inX8 (by decide) kF_RX8_18 rfl rfl dX8_empty_33 ?_
  refine lv_iload_n hx hb dX8_empty_36 rfl (lv_at hl 0 rfl) ?_
  refine lv_iconst (v := 0) hx hb dX8_empty_37 (by decide) ?_
  refine q_iast (g := fun _ => 0) (w' := [(h, .inr (8, [.ref h0, .ref h1, .ref h2, .ref h3, .ref h4, .int 0, .int 0, .ref h5])), (h0, .inl (cy 1, 8, .inl (fun _ => 0))), (h1, .inl (cy 1, 8, .inl (fun _ => 0))), (h2, .inl (cy 1, 8, .inl (fun _ => 0))), (h3, .inl (cy 1, 8, .inl (fun _ => 0))), (h4, .inl (cy 1, 64, .inl (fun _ => 0)))]) C hP hD hS 3 rfl (vin (by decide +kernel)) (updz _) rfl dX8_empty_38 (fun H locs hP hD hS => ?_)
  refine lv_aload_n hx hb dX8_empty_39 rfl (lv_at hl 1 rfl) ?_
  refine q_get (v := .ref h3) C hP 0 3 rfl rfl inX8 (by decide) kF_RX8_21 rfl rfl dX8_empty_40 ?_
  refine lv_iload_n hx hb dX8_empty_43 rfl (lv_at hl 0 rfl) ?_
  refine lv_iconst (v := 0) hx hb dX8_empty_44 (by decide) ?_
  refine q_iast (g := fun _ => 0) (w' := [(h, .inr (8, [.ref h0, .ref h1, .ref h2, .ref h3, .ref h4, .int 0, .int 0, .ref h5])), (h0, .inl (cy 1, 8, .inl (fun _ => 0))), (h1, .inl (cy 1, 8, .inl (fun _ => 0))), (h2, .inl (cy 1, 8, .inl (fun _ => 0))), (h3, .inl (cy 1, 8, .inl (fun _ => 0))), (h4, .inl (cy 1, 64, .inl (fun _ => 0)))]) C hP hD hS 4 rfl (vin (by decide +kernel)) (updz _) rfl dX8_empty_45 (fun H locs hP hD hS => ?_)
  refine lv_iinc (v := 3) (lv' := [(1, .int 3), (0, .ref h)]) hx hb dX8_empty_46 hl (k := 0) rfl (by decide) (by decide) rfl (fun ls hl => ?_)
  refine lv_goto (tgt := 12) hx hb dX8_empty_49 (by decide) ?_
  refine lv_iload_n hx hb dX8_empty_12 rfl (lv_at hl 0 rfl) ?_
  refine lv_bipush (v := 8) hx hb dX8_empty_13 (by decide) ?_
  refine lv_icmp_ge (tgt := 52) hx hb dX8_empty_15 (by decide) (fun c_0 => absurd c_0 (by decide)) (fun _ => ?_)
  refine lv_aload_n hx hb dX8_empty_18 rfl (lv_at hl 1 rfl) ?_
  refine q_get (v := .ref h0) C hP 0 0 rfl rfl inX8 (by decide) kF_RX8_9 rfl rfl dX8_empty_19 ?_
  refine lv_iload_n hx hb dX8_empty_22 rfl (lv_at hl 0 rfl) ?_
  refine lv_iconst (v := 0) hx hb dX8_empty_23 (by decide) ?_
  refine q_iast (g := fun _ => 0) (w' := [(h, .inr (8, [.ref h0, .ref h1, .ref h2, .ref h3, .ref h4, .int 0, .int 0, .ref h5])), (h0, .inl (cy 1, 8, .inl (fun _ => 0))), (h1, .inl (cy 1, 8, .inl (fun _ => 0))), (h2, .inl (cy 1, 8, .inl (fun _ => 0))), (h3, .inl (cy 1, 8, .inl (fun _ => 0))), (h4, .inl (cy 1, 64, .inl (fun _ => 0)))]) C hP hD hS 1 rfl (vin (by decide +kernel)) (updz _) rfl dX8_empty_24 (fun H locs hP hD hS => ?_)
  refine lv_aload_n hx hb dX8_empty_25 rfl (lv_at hl 1 rfl) ?_
  refine q_get (v := .ref h1) C hP 0 1 rfl rfl inX8 (by decide) kF_RX8_15 rfl rfl dX8_empty_26 ?_
  refine lv_iload_n hx hb dX8_empty_29 rfl (lv_at hl 0 rfl) ?_
  refine lv_iconst (v := 0) hx hb dX8_empty_30 (by decide) ?_
  refine q_iast (g := fun _ => 0) (w' := [(h, .inr (8, [.ref h0, .ref h1, .ref h2, .ref h3, .ref h4, .int 0, .int 0, .ref h5])), (h0, .inl (cy 1, 8, .inl (fun _ => 0))), (h1, .inl (cy 1, 8, .inl (fun _ => 0))), (h2, .inl (cy 1, 8, .inl (fun _ => 0))), (h3, .inl (cy 1, 8, .inl (fun _ => 0))), (h4, .inl (cy 1, 64, .inl (fun _ => 0)))]) C hP hD hS 2 rfl (vin (by decide +kernel)) (updz _) rfl dX8_empty_31 (fun H locs hP hD hS => ?_)
  refine lv_aload_n hx hb dX8_empty_32 rfl (lv_at hl 1 rfl) ?_
  refine q_get (v := .ref h2) C hP 0 2 rfl rfl inX8 (by decide) kF_RX8_18 rfl rfl dX8_empty_33 ?_
  refine lv_iload_n hx hb dX8_empty_36 rfl (lv_at hl 0 rfl) ?_
  refine lv_iconst (v := 0) hx hb dX8_empty_37 (by decide) ?_
  refine q_iast (g := fun _ => 0) (w' := [(h, .inr (8, [.ref h0, .ref h1, .ref h2, .ref h3, .ref h4, .int 0, .int 0, .ref h5])), (h0, .inl (cy 1, 8, .inl (fun _ => 0))), (h1, .inl (cy 1, 8, .inl (fun _ => 0))), (h2, .inl (cy 1, 8, .inl (fun _ => 0))), (h3, .inl (cy 1, 8, .inl (fun _ => 0))), (h4, .inl (cy 1, 64, .inl (fun _ => 0)))]) C hP hD hS 3 rfl (vin (by decide +kernel)) (updz _) rfl dX8_empty_38 (fun H locs hP hD hS => ?_)
  refine lv_aload_n hx hb dX8_empty_39 rfl (lv_at hl 1 rfl) ?_
  refine q_get (v := .ref h3) C hP 0 3 rfl rfl inX8 (by decide) kF_RX8_21 rfl rfl dX8_empty_40 ?_
  refine lv_iload_n hx hb dX8_empty_43 rfl (lv_at hl 0 rfl) ?_
  refine lv_iconst (v := 0) hx hb dX8_empty_44 (by decide) ?_
  refine q_iast (g := fun _ => 0) (w' := [(h, .inr (8, [.ref h0, .ref h1, .ref h2, .ref h3, .ref h4, .int 0, .int 0, .ref h5])), (h0, .inl (cy 1, 8, .inl (fun _ => 0))), (h1, .inl (cy 1, 8, .inl (fun _ => 0))), (h2, .inl (cy 1, 8, .inl (fun _ => 0))), (h3, .inl (cy 1, 8, .inl (fun _ => 0))), (h4, .inl (cy 1, 64, .inl (fun _ => 0)))]) C hP hD hS 4 rfl (vin (by decide +kernel)) (updz _) rfl dX8_empty_45 (fun H locs hP hD hS => ?_)
  refine lv_iinc (v := 4) (lv' := [(1, .int 4), (0, .ref h)]) hx hb dX8_empty_46 hl (k := 0) rfl (by decide) (by decide) rfl (fun ls hl => ?_)
  refine lv_goto (tgt := 12) hx hb dX8_empty_49 (by decide) ?_
  refine lv_iload_n hx hb dX8_empty_12 rfl (lv_at hl 0 rfl) ?_
  refine lv_bipush (v := 8) hx hb dX8_empty_13 (by decide) ?_
  refine lv_icmp_ge (tgt := 52) hx hb dX8_empty_15 (by decide) (fun c_0 => absurd c_0 (by decide)) (fun _ => ?_)
  refine lv_aload_n hx hb dX8_empty_18 rfl (lv_at hl 1 rfl) ?_
  refine q_get (v := .ref h0) C hP 0 0 rfl rfl inX8 (by decide) kF_RX8_9 rfl rfl dX8_empty_19 ?_
  refine lv_iload_n hx hb dX8_empty_22 rfl (lv_at hl 0 rfl) ?_
  refine lv_iconst (v := 0) hx hb dX8_empty_23 (by decide) ?_
  refine q_iast (g := fun _ => 0) (w' := [(h, .inr (8, [.ref h0, .ref h1, .ref h2, .ref h3, .ref h4, .int 0, .int 0, .ref h5])), (h0, .inl (cy 1, 8, .inl (fun _ => 0))), (h1, .inl (cy 1, 8, .inl (fun _ => 0))), (h2, .inl (cy 1, 8, .inl (fun _ => 0))), (h3, .inl (cy 1, 8, .inl (fun _ => 0))), (h4, .inl (cy 1, 64, .inl (fun _ => 0)))]) C hP hD hS 1 rfl (vin (by decide +kernel)) (updz _) rfl dX8_empty_24 (fun H locs hP hD hS => ?_)
  refine lv_aload_n hx hb dX8_empty_25 rfl (lv_at hl 1 rfl) ?_
  refine q_get (v := .ref h1) C hP 0 1 rfl rfl inX8 (by decide) kF_RX8_15 rfl rfl dX8_empty_26 ?_
  refine lv_iload_n hx hb dX8_empty_29 rfl (lv_at hl 0 rfl) ?_
  refine lv_iconst (v := 0) hx hb dX8_empty_30 (by decide) ?_
  refine q_iast (g := fun _ => 0) (w' := [(h, .inr (8, [.ref h0, .ref h1, .ref h2, .ref h3, .ref h4, .int 0, .int 0, .ref h5])), (h0, .inl (cy 1, 8, .inl (fun _ => 0))), (h1, .inl (cy 1, 8, .inl (fun _ => 0))), (h2, .inl (cy 1, 8, .inl (fun _ => 0))), (h3, .inl (cy 1, 8, .inl (fun _ => 0))), (h4, .inl (cy 1, 64, .inl (fun _ => 0)))]) C hP hD hS 2 rfl (vin (by decide +kernel)) (updz _) rfl dX8_empty_31 (fun H locs hP hD hS => ?_)
  refine lv_aload_n hx hb dX8_empty_32 rfl (lv_at hl 1 rfl) ?_
  refine q_get (v := .ref h2) C hP 0 2 rfl rfl inX8 (by decide) kF_RX8_18 rfl rfl dX8_empty_33 ?_
  refine lv_iload_n hx hb dX8_empty_36 rfl (lv_at hl 0 rfl) ?_
  refine lv_iconst (v := 0) hx hb dX8_empty_37 (by decide) ?_
  refine q_iast (g := fun _ => 0) (w' := [(h, .inr (8, [.ref h0, .ref h1, .ref h2, .ref h3, .ref h4, .int 0, .int 0, .ref h5])), (h0, .inl (cy 1, 8, .inl (fun _ => 0))), (h1, .inl (cy 1, 8, .inl (fun _ => 0))), (h2, .inl (cy 1, 8, .inl (fun _ => 0))), (h3, .inl (cy 1, 8, .inl (fun _ => 0))), (h4, .inl (cy 1, 64, .inl (fun _ => 0)))]) C hP hD hS 3 rfl (vin (by decide +kernel)) (updz _) rfl dX8_empty_38 (fun H locs hP hD hS => ?_)
  refine lv_aload_n hx hb dX8_empty_39 rfl (lv_at hl 1 rfl) ?_
  refine q_get (v := .ref h3) C hP 0 3 rfl rfl inX8 (by decide) kF_RX8_21 rfl rfl dX8_empty_40 ?_
  refine lv_iload_n hx hb dX8_empty_43 rfl (lv_at hl 0 rfl) ?_
  refine lv_iconst (v := 0) hx hb dX8_empty_44 (by decide) ?_
  refine q_iast (g := fun _ => 0) (w' := [(h, .inr (8, [.ref h0, .ref h1, .ref h2, .ref h3, .ref h4, .int 0, .int 0, .ref h5])), (h0, .inl (cy 1, 8, .inl (fun _ => 0))), (h1, .inl (cy 1, 8, .inl (fun _ => 0))), (h2, .inl (cy 1, 8, .inl (fun _ => 0))), (h3, .inl (cy 1, 8, .inl (fun _ => 0))), (h4, .inl (cy 1, 64, .inl (fun _ => 0)))]) C hP hD hS 4 rfl (vin (by decide +kernel)) (updz _) rfl dX8_empty_45 (fun H locs hP hD hS => ?_)
  refine lv_iinc (v := 5) (lv' := [(1, .int 5), (0, .ref h)]) hx hb dX8_empty_46 hl (k := 0) rfl (by decide) (by decide) rfl (fun ls hl => ?_)
  refine lv_goto (tgt := 12) hx hb dX8_empty_49 (by decide) ?_
  refine lv_iload_n hx hb dX8_empty_12 rfl (lv_at hl 0 rfl) ?_
  refine lv_bipush (v := 8) hx hb dX8_empty_13 (by decide) ?_
  refine lv_icmp_ge (tgt := 52) hx hb dX8_empty_15 (by decide) (fun c_0 => absurd c_0 (by decide)) (fun _ => ?_)
  refine lv_aload_n hx hb dX8_empty_18 rfl (lv_at hl 1 rfl) ?_
  refine q_get (v := .ref h0) C hP 0 0 rfl rfl inX8 (by decide) kF_RX8_9 rfl rfl dX8_empty_19 ?_
  refine lv_iload_n hx hb dX8_empty_22 rfl (lv_at hl 0 rfl) ?_
  refine lv_iconst (v := 0) hx hb dX8_empty_23 (by decide) ?_
  refine q_iast (g := fun _ => 0) (w' := [(h, .inr (8, [.ref h0, .ref h1, .ref h2, .ref h3, .ref h4, .int 0, .int 0, .ref h5])), (h0, .inl (cy 1, 8, .inl (fun _ => 0))), (h1, .inl (cy 1, 8, .inl (fun _ => 0))), (h2, .inl (cy 1, 8, .inl (fun _ => 0))), (h3, .inl (cy 1, 8, .inl (fun _ => 0))), (h4, .inl (cy 1, 64, .inl (fun _ => 0)))]) C hP hD hS 1 rfl (vin (by decide +kernel)) (updz _) rfl dX8_empty_24 (fun H locs hP hD hS => ?_)
  refine lv_aload_n hx hb dX8_empty_25 rfl (lv_at hl 1 rfl) ?_
  refine q_get (v := .ref h1) C hP 0 1 rfl rfl inX8 (by decide) kF_RX8_15 rfl rfl dX8_empty_26 ?_
  refine lv_iload_n hx hb dX8_empty_29 rfl (lv_at hl 0 rfl) ?_
  refine lv_iconst (v := 0) hx hb dX8_empty_30 (by decide) ?_
  refine q_iast (g := fun _ => 0) (w' := [(h, .inr (8, [.ref h0, .ref h1, .ref h2, .ref h3, .ref h4, .int 0, .int 0, .ref h5])), (h0, .inl (cy 1, 8, .inl (fun _ => 0))), (h1, .inl (cy 1, 8, .inl (fun _ => 0))), (h2, .inl (cy 1, 8, .inl (fun _ => 0))), (h3, .inl (cy 1, 8, .inl (fun _ => 0))), (h4, .inl (cy 1, 64, .inl (fun _ => 0)))]) C hP hD hS 2 rfl (vin (by decide +kernel)) (updz _) rfl dX8_empty_31 (fun H locs hP hD hS => ?_)
  refine lv_aload_n hx hb dX8_empty_32 rfl (lv_at hl 1 rfl) ?_
  refine q_get (v := .ref h2) C hP 0 2 rfl rfl inX8 (by decide) kF_RX8_18 rfl rfl dX8_empty_33 ?_
  refine lv_iload_n hx hb dX8_empty_36 rfl (lv_at hl 0 rfl) ?_
  refine lv_iconst (v := 0) hx hb dX8_empty_37 (by decide) ?_
  refine q_iast (g := fun _ => 0) (w' := [(h, .inr (8, [.ref h0, .ref h1, .ref h2, .ref h3, .ref h4, .int 0, .int 0, .ref h5])), (h0, .inl (cy 1, 8, .inl (fun _ => 0))), (h1, .inl (cy 1, 8, .inl (fun _ => 0))), (h2, .inl (cy 1, 8, .inl (fun _ => 0))), (h3, .inl (cy 1, 8, .inl (fun _ => 0))), (h4, .inl (cy 1, 64, .inl (fun _ => 0)))]) C hP hD hS 3 rfl (vin (by decide +kernel)) (updz _) rfl dX8_empty_38 (fun H locs hP hD hS => ?_)
  refine lv_aload_n hx hb dX8_empty_39 rfl (lv_at hl 1 rfl) ?_
  refine q_get (v := .ref h3) C hP 0 3 rfl rfl inX8 (by decide) kF_RX8_21 rfl rfl dX8_empty_40 ?_
  refine lv_iload_n hx hb dX8_empty_43 rfl (lv_at hl 0 rfl) ?_
  refine lv_iconst (v := 0) hx hb dX8_empty_44 (by decide) ?_
  refine q_iast (g := fun _ => 0) (w' := [(h, .inr (8, [.ref h0, .ref h1, .ref h2, .ref h3, .ref h4, .int 0, .int 0, .ref h5])), (h0, .inl (cy 1, 8, .inl (fun _ => 0))), (h1, .inl (cy 1, 8, .inl (fun _ => 0))), (h2, .inl (cy 1, 8, .inl (fun _ => 0))), (h3, .inl (cy 1, 8, .inl (fun _ => 0))), (h4, .inl (cy 1, 64, .inl (fun _ => 0)))]) C hP hD hS 4 rfl (vin (by decide +kernel)) (updz _) rfl dX8_empty_45 (fun H locs hP hD hS => ?_)
  refine lv_iinc (v := 6) (lv' := [(1, .int 6), (0, .ref h)]) hx hb dX8_empty_46 hl (k := 0) rfl (by decide) (by decide) rfl (fun ls hl => ?_)
  refine lv_goto (tgt := 12) hx hb dX8_empty_49 (by decide) ?_
  refine lv_iload_n hx hb dX8_empty_12 rfl (lv_at hl 0 rfl) ?_
  refine lv_bipush (v := 8) hx hb dX8_empty_13 (by decide) ?_
  refine lv_icmp_ge (tgt := 52) hx hb dX8_empty_15 (by decide) (fun c_0 => absurd c_0 (by decide)) (fun _ => ?_)
  refine lv_aload_n hx hb dX8_empty_18 rfl (lv_at hl 1 rfl) ?_
  refine q_get (v := .ref h0) C hP 0 0 rfl rfl inX8 (by decide) kF_RX8_9 rfl rfl dX8_empty_19 ?_
  refine lv_iload_n hx hb dX8_empty_22 rfl (lv_at hl 0 rfl) ?_
  refine lv_iconst (v := 0) hx hb dX8_empty_23 (by decide) ?_
  refine q_iast (g := fun _ => 0) (w' := [(h, .inr (8, [.ref h0, .ref h1, .ref h2, .ref h3, .ref h4, .int 0, .int 0, .ref h5])), (h0, .inl (cy 1, 8, .inl (fun _ => 0))), (h1, .inl (cy 1, 8, .inl (fun _ => 0))), (h2, .inl (cy 1, 8, .inl (fun _ => 0))), (h3, .inl (cy 1, 8, .inl (fun _ => 0))), (h4, .inl (cy 1, 64, .inl (fun _ => 0)))]) C hP hD hS 1 rfl (vin (by decide +kernel)) (updz _) rfl dX8_empty_24 (fun H locs hP hD hS => ?_)
  refine lv_aload_n hx hb dX8_empty_25 rfl (lv_at hl 1 rfl) ?_
  refine q_get (v := .ref h1) C hP 0 1 rfl rfl inX8 (by decide) kF_RX8_15 rfl rfl dX8_empty_26 ?_
  refine lv_iload_n hx hb dX8_empty_29 rfl (lv_at hl 0 rfl) ?_
  refine lv_iconst (v := 0) hx hb dX8_empty_30 (by decide) ?_
  refine q_iast (g := fun _ => 0) (w' := [(h, .inr (8, [.ref h0, .ref h1, .ref h2, .ref h3, .ref h4, .int 0, .int 0, .ref h5])), (h0, .inl (cy 1, 8, .inl (fun _ => 0))), (h1, .inl (cy 1, 8, .inl (fun _ => 0))), (h2, .inl (cy 1, 8, .inl (fun _ => 0))), (h3, .inl (cy 1, 8, .inl (fun _ => 0))), (h4, .inl (cy 1, 64, .inl (fun _ => 0)))]) C hP hD hS 2 rfl (vin (by decide +kernel)) (updz _) rfl dX8_empty_31 (fun H locs hP hD hS => ?_)
  refine lv_aload_n hx hb dX8_empty_32 rfl (lv_at hl 1 rfl) ?_
  refine q_get (v := .ref h2) C hP 0 2 rfl rfl inX8 (by decide) kF_RX8_18 rfl rfl dX8_empty_33 ?_
  refine lv_iload_n hx hb dX8_empty_36 rfl (lv_at hl 0 rfl) ?_
  refine lv_iconst (v := 0) hx hb dX8_empty_37 (by decide) ?_
  refine q_iast (g := fun _ => 0) (w' := [(h, .inr (8, [.ref h0, .ref h1, .ref h2, .ref h3, .ref h4, .int 0, .int 0, .ref h5])), (h0, .inl (cy 1, 8, .inl (fun _ => 0))), (h1, .inl (cy 1, 8, .inl (fun _ => 0))), (h2, .inl (cy 1, 8, .inl (fun _ => 0))), (h3, .inl (cy 1, 8, .inl (fun _ => 0))), (h4, .inl (cy 1, 64, .inl (fun _ => 0)))]) C hP hD hS 3 rfl (vin (by decide +kernel)) (updz _) rfl dX8_empty_38 (fun H locs hP hD hS => ?_)
  refine lv_aload_n hx hb dX8_empty_39 rfl (lv_at hl 1 rfl) ?_
  refine q_get (v := .ref h3) C hP 0 3 rfl rfl inX8 (by decide) kF_RX8_21 rfl rfl dX8_empty_40 ?_
  refine lv_iload_n hx hb dX8_empty_43 rfl (lv_at hl 0 rfl) ?_
  refine lv_iconst (v := 0) hx hb dX8_empty_44 (by decide) ?_
  refine q_iast (g := fun _ => 0) (w' := [(h, .inr (8, [.ref h0, .ref h1, .ref h2, .ref h3, .ref h4, .int 0, .int 0, .ref h5])), (h0, .inl (cy 1, 8, .inl (fun _ => 0))), (h1, .inl (cy 1, 8, .inl (fun _ => 0))), (h2, .inl (cy 1, 8, .inl (fun _ => 0))), (h3, .inl (cy 1, 8, .inl (fun _ => 0))), (h4, .inl (cy 1, 64, .inl (fun _ => 0)))]) C hP hD hS 4 rfl (vin (by decide +kernel)) (updz _) rfl dX8_empty_45 (fun H locs hP hD hS => ?_)
  refine lv_iinc (v := 7) (lv' := [(1, .int 7), (0, .ref h)]) hx hb dX8_empty_46 hl (k := 0) rfl (by decide) (by decide) rfl (fun ls hl => ?_)
  refine lv_goto (tgt := 12) hx hb dX8_empty_49 (by decide) ?_
  refine lv_iload_n hx hb dX8_empty_12 rfl (lv_at hl 0 rfl) ?_
  refine lv_bipush (v := 8) hx hb dX8_empty_13 (by decide) ?_
  refine lv_icmp_ge (tgt := 52) hx hb dX8_empty_15 (by decide) (fun c_0 => absurd c_0 (by decide)) (fun _ => ?_)
  refine lv_aload_n hx hb dX8_empty_18 rfl (lv_at hl 1 rfl) ?_
  refine q_get (v := .ref h0) C hP 0 0 rfl rfl inX8 (by decide) kF_RX8_9 rfl rfl dX8_empty_19 ?_
  refine lv_iload_n hx hb dX8_empty_22 rfl (lv_at hl 0 rfl) ?_
  refine lv_iconst (v := 0) hx hb dX8_empty_23 (by decide) ?_
  refine q_iast (g := fun _ => 0) (w' := [(h, .inr (8, [.ref h0, .ref h1, .ref h2, .ref h3, .ref h4, .int 0, .int 0, .ref h5])), (h0, .inl (cy 1, 8, .inl (fun _ => 0))), (h1, .inl (cy 1, 8, .inl (fun _ => 0))), (h2, .inl (cy 1, 8, .inl (fun _ => 0))), (h3, .inl (cy 1, 8, .inl (fun _ => 0))), (h4, .inl (cy 1, 64, .inl (fun _ => 0)))]) C hP hD hS 1 rfl (vin (by decide +kernel)) (updz _) rfl dX8_empty_24 (fun H locs hP hD hS => ?_)
  refine lv_aload_n hx hb dX8_empty_25 rfl (lv_at hl 1 rfl) ?_
  refine q_get (v := .ref h1) C hP 0 1 rfl rfl inX8 (by decide) kF_RX8_15 rfl rfl dX8_empty_26 ?_
  refine lv_iload_n hx hb dX8_empty_29 rfl (lv_at hl 0 rfl) ?_
  refine lv_iconst (v := 0) hx hb dX8_empty_30 (by decide) ?_
  refine q_iast (g := fun _ => 0) (w' := [(h, .inr (8, [.ref h0, .ref h1, .ref h2, .ref h3, .ref h4, .int 0, .int 0, .ref h5])), (h0, .inl (cy 1, 8, .inl (fun _ => 0))), (h1, .inl (cy 1, 8, .inl (fun _ => 0))), (h2, .inl (cy 1, 8, .inl (fun _ => 0))), (h3, .inl (cy 1, 8, .inl (fun _ => 0))), (h4, .inl (cy 1, 64, .inl (fun _ => 0)))]) C hP hD hS 2 rfl (vin (by decide +kernel)) (updz _) rfl dX8_empty_31 (fun H locs hP hD hS => ?_)
  refine lv_aload_n hx hb dX8_empty_32 rfl (lv_at hl 1 rfl) ?_
  refine q_get (v := .ref h2) C hP 0 2 rfl rfl inX8 (by decide) kF_RX8_18 rfl rfl dX8_empty_33 ?_
  refine lv_iload_n hx hb dX8_empty_36 rfl (lv_at hl 0 rfl) ?_
  refine lv_iconst (v := 0) hx hb dX8_empty_37 (by decide) ?_
  refine q_iast (g := fun _ => 0) (w' := [(h, .inr (8, [.ref h0, .ref h1, .ref h2, .ref h3, .ref h4, .int 0, .int 0, .ref h5])), (h0, .inl (cy 1, 8, .inl (fun _ => 0))), (h1, .inl (cy 1, 8, .inl (fun _ => 0))), (h2, .inl (cy 1, 8, .inl (fun _ => 0))), (h3, .inl (cy 1, 8, .inl (fun _ => 0))), (h4, .inl (cy 1, 64, .inl (fun _ => 0)))]) C hP hD hS 3 rfl (vin (by decide +kernel)) (updz _) rfl dX8_empty_38 (fun H locs hP hD hS => ?_)
  refine lv_aload_n hx hb dX8_empty_39 rfl (lv_at hl 1 rfl) ?_
  refine q_get (v := .ref h3) C hP 0 3 rfl rfl inX8 (by decide) kF_RX8_21 rfl rfl dX8_empty_40 ?_
  refine lv_iload_n hx hb dX8_empty_43 rfl (lv_at hl 0 rfl) ?_
  refine lv_iconst (v := 0) hx hb dX8_empty_44 (by decide) ?_
  refine q_iast (g := fun _ => 0) (w' := [(h, .inr (8, [.ref h0, .ref h1, .ref h2, .ref h3, .ref h4, .int 0, .int 0, .ref h5])), (h0, .inl (cy 1, 8, .inl (fun _ => 0))), (h1, .inl (cy 1, 8, .inl (fun _ => 0))), (h2, .inl (cy 1, 8, .inl (fun _ => 0))), (h3, .inl (cy 1, 8, .inl (fun _ => 0))), (h4, .inl (cy 1, 64, .inl (fun _ => 0)))]) C hP hD hS 4 rfl (vin (by decide +kernel)) (updz _) rfl dX8_empty_45 (fun H locs hP hD hS => ?_)
  refine lv_iinc (v := 8) (lv' := [(1, .int 8), (0, .ref h)]) hx hb dX8_empty_46 hl (k := 0) rfl (by decide) (by decide) rfl (fun ls hl => ?_)
  refine lv_goto (tgt := 12) hx hb dX8_empty_49 (by decide) ?_
  refine lv_iload_n hx hb dX8_empty_12 rfl (lv_at hl 0 rfl) ?_
  refine lv_bipush (v := 8) hx hb dX8_empty_13 (by decide) ?_
  refine lv_icmp_ge (tgt := 52) hx hb dX8_empty_15 (by decide) (fun _ => ?_) (fun c_0 => absurd (by decide) c_0)
  refine lv_iconst (v := 0) hx hb dX8_empty_52 (by decide) ?_
  refine lv_istore_n (lv' := [(1, .int 0), (0, .ref h)]) hx hb dX8_empty_53 rfl hl (by decide) rfl (fun ls hl => ?_)
  refine lp_c_Sempty_54 l D cy h h0 h1 h2 h3 h4 h5   ⟨Nat.le_of_ble_eq_true rfl, Nat.le_of_ble_eq_true rfl⟩ C (fun  H locs ls hP hD hS hl => ?_) 64 0  _ _ ls (by omega) hP hD hS (lv_sub hl [0, 1] rfl)
  exact q_vret (rm := (Rm 0 0 0 0)) C hS () trivial (q_subP hP [0, 1, 2, 3, 4, 5] rfl) (hD.sub [0, 1, 2, 3, 4, 5] (by decide) rfl) (Nat.le_of_ble_eq_true rfl) (Nat.le_of_ble_eq_true rfl) dX8_empty_73
set_option maxHeartbeats 4000000 in
set_option maxRecDepth 100000 in
theorem c_Pcopy (l : Launch) (D : va_G) (cy : Nat → ClassId) (h : Nat) (o : Nat) (h0 : Nat) (h1 : Nat) (h2 : Nat) (o0 : Nat) (o1 : Nat) (o2 : Nat) (sz : Nat)  : MV l yX6_copyFrom cX6_copyFrom 2 (Rm 1 60 0 0) D cy [.ref h, .ref o] sz [(h, .inr (6, [.int 4, .int 4, .int 10, .int 1, .int 3, .int 0, .int 0, .int 0, .ref h0, .ref h1, .ref h2])), (h0, .inl (cy 1, 8, .inl (fun _ => 0))), (h1, .inl (cy 1, 8, .inl (fun _ => 0))), (h2, .inl (cy 1, 56, .inl (fun _ => 0))), (o, .inr (6, [.int 4, .int 4, .int 10, .int 1, .int 3, .int 0, .int 0, .int 0, .ref o0, .ref o1, .ref o2])), (o0, .inl (cy 1, 8, .inl (fun _ => 0))), (o1, .inl (cy 1, 8, .inl (fun _ => 0))), (o2, .inl (cy 1, 56, .inl (fun _ => 0)))] (fun _ : Unit => True) (fun u : Unit => [(h, .inr (6, [.int 4, .int 4, .int 10, .int 1, .int 3, .int 0, .int 0, .int 0, .ref h0, .ref h1, .ref h2])), (h0, .inl (cy 1, 8, .inl (fun _ => 0))), (h1, .inl (cy 1, 8, .inl (fun _ => 0))), (h2, .inl (cy 1, 56, .inl (fun _ => 0))), (o, .inr (6, [.int 4, .int 4, .int 10, .int 1, .int 3, .int 0, .int 0, .int 0, .ref o0, .ref o1, .ref o2])), (o0, .inl (cy 1, 8, .inl (fun _ => 0))), (o1, .inl (cy 1, 8, .inl (fun _ => 0))), (o2, .inl (cy 1, 56, .inl (fun _ => 0)))]) := by
  refine MV.enter (by decide) (Nat.le_of_ble_eq_true rfl) ?_
  intro p e s m below meth c ls A hsz hAe C hP hD hS hl
  have C : Cx p s m _ meth c cX6_copyFrom 2 none RX6 "copyFrom" D cy A := C
  have hx := C.1
  have hb := C.2.1
  have hl : lv_has ls 2 [(0, .ref h), (1, .ref o)] := hl
  refine lv_aload_n hx hb dX6_copyFrom_0 rfl (lv_at hl 0 rfl) ?_
  refine lv_aload_n hx hb dX6_copyFrom_1 rfl (lv_at hl 1 rfl) ?_
  refine q_get (v := .int 4) C hP 4 0 rfl rfl inX6 (by decide) kF_RX6_9 rfl rfl dX6_copyFrom_2 ?_
  refine q_put (v := .int 4) (w' := [(h, .inr (6, [.int 4, .int 4, .int 10, .int 1, .int 3, .int 0, .int 0, .int 0, .ref h0, .ref h1, .ref h2])), (h0, .inl (cy 1, 8, .inl (fun _ => 0))), (h1, .inl (cy 1, 8, .inl (fun _ => 0))), (h2, .inl (cy 1, 56, .inl (fun _ => 0))), (o, .inr (6, [.int 4, .int 4, .int 10, .int 1, .int 3, .int 0, .int 0, .int 0, .ref o0, .ref o1, .ref o2])), (o0, .inl (cy 1, 8, .inl (fun _ => 0))), (o1, .inl (cy 1, 8, .inl (fun _ => 0))), (o2, .inl (cy 1, 56, .inl (fun _ => 0)))]) (ty := .int) C hP hD hS 0 0 rfl rfl inX6 tyX6 tyX6_ok nmX6 (by decide) kF_RX6_9 rfl rfl rfl rfl rfl (Nat.le_of_ble_eq_true rfl) rfl dX6_copyFrom_5 (fun H locs hP hD hS => ?_)
  refine lv_aload_n hx hb dX6_copyFrom_8 rfl (lv_at hl 0 rfl) ?_
  refine lv_aload_n hx hb dX6_copyFrom_9 rfl (lv_at hl 1 rfl) ?_
  refine q_get (v := .int 4) C hP 4 1 rfl rfl inX6 (by decide) kF_RX6_15 rfl rfl dX6_copyFrom_10 ?_
  refine q_put (v := .int 4) (w' := [(h, .inr (6, [.int 4, .int 4, .int 10, .int 1, .int 3, .int 0, .int 0, .int 0, .ref h0, .ref h1, .ref h2])), (h0, .inl (cy 1, 8, .inl (fun _ => 0))), (h1, .inl (cy 1, 8, .inl (fun _ => 0))), (h2, .inl (cy 1, 56, .inl (fun _ => 0))), (o, .inr (6, [.int 4, .int 4, .int 10, .int 1, .int 3, .int 0, .int 0, .int 0, .ref o0, .ref o1, .ref o2])), (o0, .inl (cy 1, 8, .inl (fun _ => 0))), (o1, .inl (cy 1, 8, .inl (fun _ => 0))), (o2, .inl (cy 1, 56, .inl (fun _ => 0)))]) (ty := .int) C hP hD hS 0 1 rfl rfl inX6 tyX6 tyX6_ok nmX6 (by decide) kF_RX6_15 rfl rfl rfl rfl rfl (Nat.le_of_ble_eq_true rfl) rfl dX6_copyFrom_13 (fun H locs hP hD hS => ?_)
  refine lv_aload_n hx hb dX6_copyFrom_16 rfl (lv_at hl 0 rfl) ?_
  refine lv_aload_n hx hb dX6_copyFrom_17 rfl (lv_at hl 1 rfl) ?_
  refine q_get (v := .int 10) C hP 4 2 rfl rfl inX6 (by decide) kF_RX6_18 rfl rfl dX6_copyFrom_18 ?_
  refine q_put (v := .int 10) (w' := [(h, .inr (6, [.int 4, .int 4, .int 10, .int 1, .int 3, .int 0, .int 0, .int 0, .ref h0, .ref h1, .ref h2])), (h0, .inl (cy 1, 8, .inl (fun _ => 0))), (h1, .inl (cy 1, 8, .inl (fun _ => 0))), (h2, .inl (cy 1, 56, .inl (fun _ => 0))), (o, .inr (6, [.int 4, .int 4, .int 10, .int 1, .int 3, .int 0, .int 0, .int 0, .ref o0, .ref o1, .ref o2])), (o0, .inl (cy 1, 8, .inl (fun _ => 0))), (o1, .inl (cy 1, 8, .inl (fun _ => 0))), (o2, .inl (cy 1, 56, .inl (fun _ => 0)))]) (ty := .int) C hP hD hS 0 2 rfl rfl inX6 tyX6 tyX6_ok nmX6 (by decide) kF_RX6_18 rfl rfl rfl rfl rfl (Nat.le_of_ble_eq_true rfl) rfl dX6_copyFrom_21 (fun H locs hP hD hS => ?_)
  refine lv_aload_n hx hb dX6_copyFrom_24 rfl (lv_at hl 0 rfl) ?_
  refine lv_aload_n hx hb dX6_copyFrom_25 rfl (lv_at hl 1 rfl) ?_
  refine q_get (v := .int 1) C hP 4 3 rfl rfl inX6 (by decide) kF_RX6_21 rfl rfl dX6_copyFrom_26 ?_
  refine q_put (v := .int 1) (w' := [(h, .inr (6, [.int 4, .int 4, .int 10, .int 1, .int 3, .int 0, .int 0, .int 0, .ref h0, .ref h1, .ref h2])), (h0, .inl (cy 1, 8, .inl (fun _ => 0))), (h1, .inl (cy 1, 8, .inl (fun _ => 0))), (h2, .inl (cy 1, 56, .inl (fun _ => 0))), (o, .inr (6, [.int 4, .int 4, .int 10, .int 1, .int 3, .int 0, .int 0, .int 0, .ref o0, .ref o1, .ref o2])), (o0, .inl (cy 1, 8, .inl (fun _ => 0))), (o1, .inl (cy 1, 8, .inl (fun _ => 0))), (o2, .inl (cy 1, 56, .inl (fun _ => 0)))]) (ty := .int) C hP hD hS 0 3 rfl rfl inX6 tyX6 tyX6_ok nmX6 (by decide) kF_RX6_21 rfl rfl rfl rfl rfl (Nat.le_of_ble_eq_true rfl) rfl dX6_copyFrom_29 (fun H locs hP hD hS => ?_)
  refine lv_aload_n hx hb dX6_copyFrom_32 rfl (lv_at hl 0 rfl) ?_
  refine lv_aload_n hx hb dX6_copyFrom_33 rfl (lv_at hl 1 rfl) ?_
  refine q_get (v := .int 3) C hP 4 4 rfl rfl inX6 (by decide) kF_RX6_24 rfl rfl dX6_copyFrom_34 ?_
  refine q_put (v := .int 3) (w' := [(h, .inr (6, [.int 4, .int 4, .int 10, .int 1, .int 3, .int 0, .int 0, .int 0, .ref h0, .ref h1, .ref h2])), (h0, .inl (cy 1, 8, .inl (fun _ => 0))), (h1, .inl (cy 1, 8, .inl (fun _ => 0))), (h2, .inl (cy 1, 56, .inl (fun _ => 0))), (o, .inr (6, [.int 4, .int 4, .int 10, .int 1, .int 3, .int 0, .int 0, .int 0, .ref o0, .ref o1, .ref o2])), (o0, .inl (cy 1, 8, .inl (fun _ => 0))), (o1, .inl (cy 1, 8, .inl (fun _ => 0))), (o2, .inl (cy 1, 56, .inl (fun _ => 0)))]) (ty := .int) C hP hD hS 0 4 rfl rfl inX6 tyX6 tyX6_ok nmX6 (by decide) kF_RX6_24 rfl rfl rfl rfl rfl (Nat.le_of_ble_eq_true rfl) rfl dX6_copyFrom_37 (fun H locs hP hD hS => ?_)
  refine lv_aload_n hx hb dX6_copyFrom_40 rfl (lv_at hl 0 rfl) ?_
  refine lv_aload_n hx hb dX6_copyFrom_41 rfl (lv_at hl 1 rfl) ?_
  refine q_get (v := .int 0) C hP 4 5 rfl rfl inX6 (by decide) kF_RX6_27 rfl rfl dX6_copyFrom_42 ?_
  refine q_put (v := .int 0) (w' := [(h, .inr (6, [.int 4, .int 4, .int 10, .int 1, .int 3, .int 0, .int 0, .int 0, .ref h0, .ref h1, .ref h2])), (h0, .inl (cy 1, 8, .inl (fun _ => 0))), (h1, .inl (cy 1, 8, .inl (fun _ => 0))), (h2, .inl (cy 1, 56, .inl (fun _ => 0))), (o, .inr (6, [.int 4, .int 4, .int 10, .int 1, .int 3, .int 0, .int 0, .int 0, .ref o0, .ref o1, .ref o2])), (o0, .inl (cy 1, 8, .inl (fun _ => 0))), (o1, .inl (cy 1, 8, .inl (fun _ => 0))), (o2, .inl (cy 1, 56, .inl (fun _ => 0)))]) (ty := .int) C hP hD hS 0 5 rfl rfl inX6 tyX6 tyX6_ok nmX6 (by decide) kF_RX6_27 rfl rfl rfl rfl rfl (Nat.le_of_ble_eq_true rfl) rfl dX6_copyFrom_45 (fun H locs hP hD hS => ?_)
  refine lv_aload_n hx hb dX6_copyFrom_48 rfl (lv_at hl 0 rfl) ?_
  refine lv_aload_n hx hb dX6_copyFrom_49 rfl (lv_at hl 1 rfl) ?_
  refine q_get (v := .int 0) C hP 4 6 rfl rfl inX6 (by decide) kF_RX6_30 rfl rfl dX6_copyFrom_50 ?_
  refine q_put (v := .int 0) (w' := [(h, .inr (6, [.int 4, .int 4, .int 10, .int 1, .int 3, .int 0, .int 0, .int 0, .ref h0, .ref h1, .ref h2])), (h0, .inl (cy 1, 8, .inl (fun _ => 0))), (h1, .inl (cy 1, 8, .inl (fun _ => 0))), (h2, .inl (cy 1, 56, .inl (fun _ => 0))), (o, .inr (6, [.int 4, .int 4, .int 10, .int 1, .int 3, .int 0, .int 0, .int 0, .ref o0, .ref o1, .ref o2])), (o0, .inl (cy 1, 8, .inl (fun _ => 0))), (o1, .inl (cy 1, 8, .inl (fun _ => 0))), (o2, .inl (cy 1, 56, .inl (fun _ => 0)))]) (ty := .int) C hP hD hS 0 6 rfl rfl inX6 tyX6 tyX6_ok nmX6 (by decide) kF_RX6_30 rfl rfl rfl rfl rfl (Nat.le_of_ble_eq_true rfl) rfl dX6_copyFrom_53 (fun H locs hP hD hS => ?_)
  refine lv_aload_n hx hb dX6_copyFrom_56 rfl (lv_at hl 0 rfl) ?_
  refine lv_aload_n hx hb dX6_copyFrom_57 rfl (lv_at hl 1 rfl) ?_
  refine q_get (v := .int 0) C hP 4 7 rfl rfl inX6 (by decide) kF_RX6_33 rfl rfl dX6_copyFrom_58 ?_
  refine q_put (v := .int 0) (w' := [(h, .inr (6, [.int 4, .int 4, .int 10, .int 1, .int 3, .int 0, .int 0, .int 0, .ref h0, .ref h1, .ref h2])), (h0, .inl (cy 1, 8, .inl (fun _ => 0))), (h1, .inl (cy 1, 8, .inl (fun _ => 0))), (h2, .inl (cy 1, 56, .inl (fun _ => 0))), (o, .inr (6, [.int 4, .int 4, .int 10, .int 1, .int 3, .int 0, .int 0, .int 0, .ref o0, .ref o1, .ref o2])), (o0, .inl (cy 1, 8, .inl (fun _ => 0))), (o1, .inl (cy 1, 8, .inl (fun _ => 0))), (o2, .inl (cy 1, 56, .inl (fun _ => 0)))]) (ty := .int) C hP hD hS 0 7 rfl rfl inX6 tyX6 tyX6_ok nmX6 (by decide) kF_RX6_33 rfl rfl rfl rfl rfl (Nat.le_of_ble_eq_true rfl) rfl dX6_copyFrom_61 (fun H locs hP hD hS => ?_)
  refine lv_aload_n hx hb dX6_copyFrom_64 rfl (lv_at hl 1 rfl) ?_
  refine q_get (v := .ref o0) C hP 4 8 rfl rfl inX6 (by decide) kF_RX6_36 rfl rfl dX6_copyFrom_65 ?_
  refine lv_iconst (v := 0) hx hb dX6_copyFrom_68 (by decide) ?_
  refine lv_aload_n hx hb dX6_copyFrom_69 rfl (lv_at hl 0 rfl) ?_
  refine q_get (v := .ref h0) C hP 0 8 rfl rfl inX6 (by decide) kF_RX6_36 rfl rfl dX6_copyFrom_70 ?_
  refine lv_iconst (v := 0) hx hb dX6_copyFrom_73 (by decide) ?_
  refine lv_bipush (v := 8) hx hb dX6_copyFrom_74 (by decide) ?_
  refine q_copy (g' := fun _ => 0) (w' := [(h, .inr (6, [.int 4, .int 4, .int 10, .int 1, .int 3, .int 0, .int 0, .int 0, .ref h0, .ref h1, .ref h2])), (h0, .inl (cy 1, 8, .inl (fun _ => 0))), (h1, .inl (cy 1, 8, .inl (fun _ => 0))), (h2, .inl (cy 1, 56, .inl (fun _ => 0))), (o, .inr (6, [.int 4, .int 4, .int 10, .int 1, .int 3, .int 0, .int 0, .int 0, .ref o0, .ref o1, .ref o2])), (o0, .inl (cy 1, 8, .inl (fun _ => 0))), (o1, .inl (cy 1, 8, .inl (fun _ => 0))), (o2, .inl (cy 1, 56, .inl (fun _ => 0)))]) C hl.1 hP hD hS 5 1 rfl rfl kM_RX6_46 (by decide) (by decide) (by decide) (by decide) (by decide) (Nat.le_of_ble_eq_true rfl) (Nat.le_of_ble_eq_true rfl) (cpyz _ _ _) rfl dX6_copyFrom_76 (fun H locs hP hD hS => ?_)
  refine lv_aload_n hx hb dX6_copyFrom_79 rfl (lv_at hl 1 rfl) ?_
  refine q_get (v := .ref o1) C hP 4 9 rfl rfl inX6 (by decide) kF_RX6_40 rfl rfl dX6_copyFrom_80 ?_
  refine lv_iconst (v := 0) hx hb dX6_copyFrom_83 (by decide) ?_
  refine lv_aload_n hx hb dX6_copyFrom_84 rfl (lv_at hl 0 rfl) ?_
  refine q_get (v := .ref h1) C hP 0 9 rfl rfl inX6 (by decide) kF_RX6_40 rfl rfl dX6_copyFrom_85 ?_
  refine lv_iconst (v := 0) hx hb dX6_copyFrom_88 (by decide) ?_
  refine lv_bipush (v := 8) hx hb dX6_copyFrom_89 (by decide) ?_
  refine q_copy (g' := fun _ => 0) (w' := [(h, .inr (6, [.int 4, .int 4, .int 10, .int 1, .int 3, .int 0, .int 0, .int 0, .ref h0, .ref h1, .ref h2])), (h0, .inl (cy 1, 8, .inl (fun _ => 0))), (h1, .inl (cy 1, 8, .inl (fun _ => 0))), (h2, .inl (cy 1, 56, .inl (fun _ => 0))), (o, .inr (6, [.int 4, .int 4, .int 10, .int 1, .int 3, .int 0, .int 0, .int 0, .ref o0, .ref o1, .ref o2])), (o0, .inl (cy 1, 8, .inl (fun _ => 0))), (o1, .inl (cy 1, 8, .inl (fun _ => 0))), (o2, .inl (cy 1, 56, .inl (fun _ => 0)))]) C hl.1 hP hD hS 6 2 rfl rfl kM_RX6_46 (by decide) (by decide) (by decide) (by decide) (by decide) (Nat.le_of_ble_eq_true rfl) (Nat.le_of_ble_eq_true rfl) (cpyz _ _ _) rfl dX6_copyFrom_91 (fun H locs hP hD hS => ?_)
  refine lv_aload_n hx hb dX6_copyFrom_94 rfl (lv_at hl 1 rfl) ?_
  refine q_get (v := .ref o2) C hP 4 10 rfl rfl inX6 (by decide) kF_RX6_43 rfl rfl dX6_copyFrom_95 ?_
  refine lv_iconst (v := 0) hx hb dX6_copyFrom_98 (by decide) ?_
  refine lv_aload_n hx hb dX6_copyFrom_99 rfl (lv_at hl 0 rfl) ?_
  refine q_get (v := .ref h2) C hP 0 10 rfl rfl inX6 (by decide) kF_RX6_43 rfl rfl dX6_copyFrom_100 ?_
  refine lv_iconst (v := 0) hx hb dX6_copyFrom_103 (by decide) ?_
  refine lv_bipush (v := 56) hx hb dX6_copyFrom_104 (by decide) ?_
  refine q_copy (g' := fun _ => 0) (w' := [(h, .inr (6, [.int 4, .int 4, .int 10, .int 1, .int 3, .int 0, .int 0, .int 0, .ref h0, .ref h1, .ref h2])), (h0, .inl (cy 1, 8, .inl (fun _ => 0))), (h1, .inl (cy 1, 8, .inl (fun _ => 0))), (h2, .inl (cy 1, 56, .inl (fun _ => 0))), (o, .inr (6, [.int 4, .int 4, .int 10, .int 1, .int 3, .int 0, .int 0, .int 0, .ref o0, .ref o1, .ref o2])), (o0, .inl (cy 1, 8, .inl (fun _ => 0))), (o1, .inl (cy 1, 8, .inl (fun _ => 0))), (o2, .inl (cy 1, 56, .inl (fun _ => 0)))]) C hl.1 hP hD hS 7 3 rfl rfl kM_RX6_46 (by decide) (by decide) (by decide) (by decide) (by decide) (Nat.le_of_ble_eq_true rfl) (Nat.le_of_ble_eq_true rfl) (cpyz _ _ _) rfl dX6_copyFrom_106 (fun H locs hP hD hS => ?_)
  exact q_vret (rm := (Rm 1 60 0 0)) C hS () trivial (q_subP hP [0, 1, 2, 3, 4, 5, 6, 7] rfl) (hD.sub [0, 1, 2, 3, 4, 5, 6, 7] (by decide) rfl) (Nat.le_of_ble_eq_true rfl) (Nat.le_of_ble_eq_true rfl) dX6_copyFrom_109
set_option maxHeartbeats 4000000 in
set_option maxRecDepth 100000 in
theorem c_Scopy (l : Launch) (D : va_G) (cy : Nat → ClassId) (h : Nat) (o : Nat) (h0 : Nat) (h1 : Nat) (h2 : Nat) (h3 : Nat) (h4 : Nat) (t1 : Int32) (d1 : Int32) (h5 : Nat) (o0 : Nat) (o1 : Nat) (o2 : Nat) (o3 : Nat) (o4 : Nat) (t2 : Int32) (d2 : Int32) (o5 : Nat) (sz : Nat)  : MV l yX8_copyFrom cX8_copyFrom 2 (Rm 1 60 0 0) D cy [.ref h, .ref o] sz [(h, .inr (8, [.ref h0, .ref h1, .ref h2, .ref h3, .ref h4, .int t1, .int d1, .ref h5])), (h0, .inl (cy 1, 8, .inl (fun _ => 0))), (h1, .inl (cy 1, 8, .inl (fun _ => 0))), (h2, .inl (cy 1, 8, .inl (fun _ => 0))), (h3, .inl (cy 1, 8, .inl (fun _ => 0))), (h4, .inl (cy 1, 64, .inl (fun _ => 0))), (o, .inr (8, [.ref o0, .ref o1, .ref o2, .ref o3, .ref o4, .int t2, .int d2, .ref o5])), (o0, .inl (cy 1, 8, .inl (fun _ => 0))), (o1, .inl (cy 1, 8, .inl (fun _ => 0))), (o2, .inl (cy 1, 8, .inl (fun _ => 0))), (o3, .inl (cy 1, 8, .inl (fun _ => 0))), (o4, .inl (cy 1, 64, .inl (fun _ => 0)))] (fun _ : Unit => True) (fun u : Unit => [(h, .inr (8, [.ref h0, .ref h1, .ref h2, .ref h3, .ref h4, .int t2, .int d2, .ref h5])), (h0, .inl (cy 1, 8, .inl (fun _ => 0))), (h1, .inl (cy 1, 8, .inl (fun _ => 0))), (h2, .inl (cy 1, 8, .inl (fun _ => 0))), (h3, .inl (cy 1, 8, .inl (fun _ => 0))), (h4, .inl (cy 1, 64, .inl (fun _ => 0))), (o, .inr (8, [.ref o0, .ref o1, .ref o2, .ref o3, .ref o4, .int t2, .int d2, .ref o5])), (o0, .inl (cy 1, 8, .inl (fun _ => 0))), (o1, .inl (cy 1, 8, .inl (fun _ => 0))), (o2, .inl (cy 1, 8, .inl (fun _ => 0))), (o3, .inl (cy 1, 8, .inl (fun _ => 0))), (o4, .inl (cy 1, 64, .inl (fun _ => 0)))]) := by
  refine MV.enter (by decide) (Nat.le_of_ble_eq_true rfl) ?_
  intro p e s m below meth c ls A hsz hAe C hP hD hS hl
  have C : Cx p s m _ meth c cX8_copyFrom 2 none RX8 "copyFrom" D cy A := C
  have hx := C.1
  have hb := C.2.1
  have hl : lv_has ls 2 [(0, .ref h), (1, .ref o)] := hl
  refine lv_aload_n hx hb dX8_copyFrom_0 rfl (lv_at hl 0 rfl) ?_
  refine lv_aload_n hx hb dX8_copyFrom_1 rfl (lv_at hl 1 rfl) ?_
  refine q_get (v := .int t2) C hP 6 5 rfl rfl inX8 (by decide) kF_RX8_27 rfl rfl dX8_copyFrom_2 ?_
  refine q_put (v := .int t2) (w' := [(h, .inr (8, [.ref h0, .ref h1, .ref h2, .ref h3, .ref h4, .int t2, .int d1, .ref h5])), (h0, .inl (cy 1, 8, .inl (fun _ => 0))), (h1, .inl (cy 1, 8, .inl (fun _ => 0))), (h2, .inl (cy 1, 8, .inl (fun _ => 0))), (h3, .inl (cy 1, 8, .inl (fun _ => 0))), (h4, .inl (cy 1, 64, .inl (fun _ => 0))), (o, .inr (8, [.ref o0, .ref o1, .ref o2, .ref o3, .ref o4, .int t2, .int d2, .ref o5])), (o0, .inl (cy 1, 8, .inl (fun _ => 0))), (o1, .inl (cy 1, 8, .inl (fun _ => 0))), (o2, .inl (cy 1, 8, .inl (fun _ => 0))), (o3, .inl (cy 1, 8, .inl (fun _ => 0))), (o4, .inl (cy 1, 64, .inl (fun _ => 0)))]) (ty := .int) C hP hD hS 0 5 rfl rfl inX8 tyX8 tyX8_ok nmX8 (by decide) kF_RX8_27 rfl rfl rfl rfl rfl (Nat.le_of_ble_eq_true rfl) rfl dX8_copyFrom_5 (fun H locs hP hD hS => ?_)
  refine lv_aload_n hx hb dX8_copyFrom_8 rfl (lv_at hl 0 rfl) ?_
  refine lv_aload_n hx hb dX8_copyFrom_9 rfl (lv_at hl 1 rfl) ?_
  refine q_get (v := .int d2) C hP 6 6 rfl rfl inX8 (by decide) kF_RX8_31 rfl rfl dX8_copyFrom_10 ?_
  refine q_put (v := .int d2) (w' := [(h, .inr (8, [.ref h0, .ref h1, .ref h2, .ref h3, .ref h4, .int t2, .int d2, .ref h5])), (h0, .inl (cy 1, 8, .inl (fun _ => 0))), (h1, .inl (cy 1, 8, .inl (fun _ => 0))), (h2, .inl (cy 1, 8, .inl (fun _ => 0))), (h3, .inl (cy 1, 8, .inl (fun _ => 0))), (h4, .inl (cy 1, 64, .inl (fun _ => 0))), (o, .inr (8, [.ref o0, .ref o1, .ref o2, .ref o3, .ref o4, .int t2, .int d2, .ref o5])), (o0, .inl (cy 1, 8, .inl (fun _ => 0))), (o1, .inl (cy 1, 8, .inl (fun _ => 0))), (o2, .inl (cy 1, 8, .inl (fun _ => 0))), (o3, .inl (cy 1, 8, .inl (fun _ => 0))), (o4, .inl (cy 1, 64, .inl (fun _ => 0)))]) (ty := .int) C hP hD hS 0 6 rfl rfl inX8 tyX8 tyX8_ok nmX8 (by decide) kF_RX8_31 rfl rfl rfl rfl rfl (Nat.le_of_ble_eq_true rfl) rfl dX8_copyFrom_13 (fun H locs hP hD hS => ?_)
  refine lv_aload_n hx hb dX8_copyFrom_16 rfl (lv_at hl 1 rfl) ?_
  refine q_get (v := .ref o0) C hP 6 0 rfl rfl inX8 (by decide) kF_RX8_9 rfl rfl dX8_copyFrom_17 ?_
  refine lv_iconst (v := 0) hx hb dX8_copyFrom_20 (by decide) ?_
  refine lv_aload_n hx hb dX8_copyFrom_21 rfl (lv_at hl 0 rfl) ?_
  refine q_get (v := .ref h0) C hP 0 0 rfl rfl inX8 (by decide) kF_RX8_9 rfl rfl dX8_copyFrom_22 ?_
  refine lv_iconst (v := 0) hx hb dX8_copyFrom_25 (by decide) ?_
  refine lv_bipush (v := 8) hx hb dX8_copyFrom_26 (by decide) ?_
  refine q_copy (g' := fun _ => 0) (w' := [(h, .inr (8, [.ref h0, .ref h1, .ref h2, .ref h3, .ref h4, .int t2, .int d2, .ref h5])), (h0, .inl (cy 1, 8, .inl (fun _ => 0))), (h1, .inl (cy 1, 8, .inl (fun _ => 0))), (h2, .inl (cy 1, 8, .inl (fun _ => 0))), (h3, .inl (cy 1, 8, .inl (fun _ => 0))), (h4, .inl (cy 1, 64, .inl (fun _ => 0))), (o, .inr (8, [.ref o0, .ref o1, .ref o2, .ref o3, .ref o4, .int t2, .int d2, .ref o5])), (o0, .inl (cy 1, 8, .inl (fun _ => 0))), (o1, .inl (cy 1, 8, .inl (fun _ => 0))), (o2, .inl (cy 1, 8, .inl (fun _ => 0))), (o3, .inl (cy 1, 8, .inl (fun _ => 0))), (o4, .inl (cy 1, 64, .inl (fun _ => 0)))]) C hl.1 hP hD hS 7 1 rfl rfl kM_RX8_37 (by decide) (by decide) (by decide) (by decide) (by decide) (Nat.le_of_ble_eq_true rfl) (Nat.le_of_ble_eq_true rfl) (cpyz _ _ _) rfl dX8_copyFrom_28 (fun H locs hP hD hS => ?_)
  refine lv_aload_n hx hb dX8_copyFrom_31 rfl (lv_at hl 1 rfl) ?_
  refine q_get (v := .ref o1) C hP 6 1 rfl rfl inX8 (by decide) kF_RX8_15 rfl rfl dX8_copyFrom_32 ?_
  refine lv_iconst (v := 0) hx hb dX8_copyFrom_35 (by decide) ?_
  refine lv_aload_n hx hb dX8_copyFrom_36 rfl (lv_at hl 0 rfl) ?_
  refine q_get (v := .ref h1) C hP 0 1 rfl rfl inX8 (by decide) kF_RX8_15 rfl rfl dX8_copyFrom_37 ?_
  refine lv_iconst (v := 0) hx hb dX8_copyFrom_40 (by decide) ?_
  refine lv_bipush (v := 8) hx hb dX8_copyFrom_41 (by decide) ?_
  refine q_copy (g' := fun _ => 0) (w' := [(h, .inr (8, [.ref h0, .ref h1, .ref h2, .ref h3, .ref h4, .int t2, .int d2, .ref h5])), (h0, .inl (cy 1, 8, .inl (fun _ => 0))), (h1, .inl (cy 1, 8, .inl (fun _ => 0))), (h2, .inl (cy 1, 8, .inl (fun _ => 0))), (h3, .inl (cy 1, 8, .inl (fun _ => 0))), (h4, .inl (cy 1, 64, .inl (fun _ => 0))), (o, .inr (8, [.ref o0, .ref o1, .ref o2, .ref o3, .ref o4, .int t2, .int d2, .ref o5])), (o0, .inl (cy 1, 8, .inl (fun _ => 0))), (o1, .inl (cy 1, 8, .inl (fun _ => 0))), (o2, .inl (cy 1, 8, .inl (fun _ => 0))), (o3, .inl (cy 1, 8, .inl (fun _ => 0))), (o4, .inl (cy 1, 64, .inl (fun _ => 0)))]) C hl.1 hP hD hS 8 2 rfl rfl kM_RX8_37 (by decide) (by decide) (by decide) (by decide) (by decide) (Nat.le_of_ble_eq_true rfl) (Nat.le_of_ble_eq_true rfl) (cpyz _ _ _) rfl dX8_copyFrom_43 (fun H locs hP hD hS => ?_)
  refine lv_aload_n hx hb dX8_copyFrom_46 rfl (lv_at hl 1 rfl) ?_
  refine q_get (v := .ref o2) C hP 6 2 rfl rfl inX8 (by decide) kF_RX8_18 rfl rfl dX8_copyFrom_47 ?_
  refine lv_iconst (v := 0) hx hb dX8_copyFrom_50 (by decide) ?_
  refine lv_aload_n hx hb dX8_copyFrom_51 rfl (lv_at hl 0 rfl) ?_
  refine q_get (v := .ref h2) C hP 0 2 rfl rfl inX8 (by decide) kF_RX8_18 rfl rfl dX8_copyFrom_52 ?_
  refine lv_iconst (v := 0) hx hb dX8_copyFrom_55 (by decide) ?_
  refine lv_bipush (v := 8) hx hb dX8_copyFrom_56 (by decide) ?_
  refine q_copy (g' := fun _ => 0) (w' := [(h, .inr (8, [.ref h0, .ref h1, .ref h2, .ref h3, .ref h4, .int t2, .int d2, .ref h5])), (h0, .inl (cy 1, 8, .inl (fun _ => 0))), (h1, .inl (cy 1, 8, .inl (fun _ => 0))), (h2, .inl (cy 1, 8, .inl (fun _ => 0))), (h3, .inl (cy 1, 8, .inl (fun _ => 0))), (h4, .inl (cy 1, 64, .inl (fun _ => 0))), (o, .inr (8, [.ref o0, .ref o1, .ref o2, .ref o3, .ref o4, .int t2, .int d2, .ref o5])), (o0, .inl (cy 1, 8, .inl (fun _ => 0))), (o1, .inl (cy 1, 8, .inl (fun _ => 0))), (o2, .inl (cy 1, 8, .inl (fun _ => 0))), (o3, .inl (cy 1, 8, .inl (fun _ => 0))), (o4, .inl (cy 1, 64, .inl (fun _ => 0)))]) C hl.1 hP hD hS 9 3 rfl rfl kM_RX8_37 (by decide) (by decide) (by decide) (by decide) (by decide) (Nat.le_of_ble_eq_true rfl) (Nat.le_of_ble_eq_true rfl) (cpyz _ _ _) rfl dX8_copyFrom_58 (fun H locs hP hD hS => ?_)
  refine lv_aload_n hx hb dX8_copyFrom_61 rfl (lv_at hl 1 rfl) ?_
  refine q_get (v := .ref o3) C hP 6 3 rfl rfl inX8 (by decide) kF_RX8_21 rfl rfl dX8_copyFrom_62 ?_
  refine lv_iconst (v := 0) hx hb dX8_copyFrom_65 (by decide) ?_
  refine lv_aload_n hx hb dX8_copyFrom_66 rfl (lv_at hl 0 rfl) ?_
  refine q_get (v := .ref h3) C hP 0 3 rfl rfl inX8 (by decide) kF_RX8_21 rfl rfl dX8_copyFrom_67 ?_
  refine lv_iconst (v := 0) hx hb dX8_copyFrom_70 (by decide) ?_
  refine lv_bipush (v := 8) hx hb dX8_copyFrom_71 (by decide) ?_
  refine q_copy (g' := fun _ => 0) (w' := [(h, .inr (8, [.ref h0, .ref h1, .ref h2, .ref h3, .ref h4, .int t2, .int d2, .ref h5])), (h0, .inl (cy 1, 8, .inl (fun _ => 0))), (h1, .inl (cy 1, 8, .inl (fun _ => 0))), (h2, .inl (cy 1, 8, .inl (fun _ => 0))), (h3, .inl (cy 1, 8, .inl (fun _ => 0))), (h4, .inl (cy 1, 64, .inl (fun _ => 0))), (o, .inr (8, [.ref o0, .ref o1, .ref o2, .ref o3, .ref o4, .int t2, .int d2, .ref o5])), (o0, .inl (cy 1, 8, .inl (fun _ => 0))), (o1, .inl (cy 1, 8, .inl (fun _ => 0))), (o2, .inl (cy 1, 8, .inl (fun _ => 0))), (o3, .inl (cy 1, 8, .inl (fun _ => 0))), (o4, .inl (cy 1, 64, .inl (fun _ => 0)))]) C hl.1 hP hD hS 10 4 rfl rfl kM_RX8_37 (by decide) (by decide) (by decide) (by decide) (by decide) (Nat.le_of_ble_eq_true rfl) (Nat.le_of_ble_eq_true rfl) (cpyz _ _ _) rfl dX8_copyFrom_73 (fun H locs hP hD hS => ?_)
  refine lv_aload_n hx hb dX8_copyFrom_76 rfl (lv_at hl 1 rfl) ?_
  refine q_get (v := .ref o4) C hP 6 4 rfl rfl inX8 (by decide) kF_RX8_24 rfl rfl dX8_copyFrom_77 ?_
  refine lv_iconst (v := 0) hx hb dX8_copyFrom_80 (by decide) ?_
  refine lv_aload_n hx hb dX8_copyFrom_81 rfl (lv_at hl 0 rfl) ?_
  refine q_get (v := .ref h4) C hP 0 4 rfl rfl inX8 (by decide) kF_RX8_24 rfl rfl dX8_copyFrom_82 ?_
  refine lv_iconst (v := 0) hx hb dX8_copyFrom_85 (by decide) ?_
  refine lv_bipush (v := 64) hx hb dX8_copyFrom_86 (by decide) ?_
  refine q_copy (g' := fun _ => 0) (w' := [(h, .inr (8, [.ref h0, .ref h1, .ref h2, .ref h3, .ref h4, .int t2, .int d2, .ref h5])), (h0, .inl (cy 1, 8, .inl (fun _ => 0))), (h1, .inl (cy 1, 8, .inl (fun _ => 0))), (h2, .inl (cy 1, 8, .inl (fun _ => 0))), (h3, .inl (cy 1, 8, .inl (fun _ => 0))), (h4, .inl (cy 1, 64, .inl (fun _ => 0))), (o, .inr (8, [.ref o0, .ref o1, .ref o2, .ref o3, .ref o4, .int t2, .int d2, .ref o5])), (o0, .inl (cy 1, 8, .inl (fun _ => 0))), (o1, .inl (cy 1, 8, .inl (fun _ => 0))), (o2, .inl (cy 1, 8, .inl (fun _ => 0))), (o3, .inl (cy 1, 8, .inl (fun _ => 0))), (o4, .inl (cy 1, 64, .inl (fun _ => 0)))]) C hl.1 hP hD hS 11 5 rfl rfl kM_RX8_37 (by decide) (by decide) (by decide) (by decide) (by decide) (Nat.le_of_ble_eq_true rfl) (Nat.le_of_ble_eq_true rfl) (cpyz _ _ _) rfl dX8_copyFrom_88 (fun H locs hP hD hS => ?_)
  exact q_vret (rm := (Rm 1 60 0 0)) C hS () trivial (q_subP hP [0, 1, 2, 3, 4, 5, 6, 7, 8, 9, 10, 11] rfl) (hD.sub [0, 1, 2, 3, 4, 5, 6, 7, 8, 9, 10, 11] (by decide) rfl) (Nat.le_of_ble_eq_true rfl) (Nat.le_of_ble_eq_true rfl) dX8_copyFrom_91
set_option maxHeartbeats 4000000 in
set_option maxRecDepth 100000 in
theorem c_Tcopy (l : Launch) (D : va_G) (cy : Nat → ClassId) (h : Nat) (o : Nat) (h0 : Nat) (h1 : Nat) (h2 : Nat) (h3 : Nat) (o0 : Nat) (o1 : Nat) (o2 : Nat) (o3 : Nat) (sz : Nat)  : MV l yX7_copyFrom cX7_copyFrom 2 (Rm 1 60 0 0) D cy [.ref h, .ref o] sz [(h, .inr (7, [.int 0, .int 0, .int 0, .ref h0, .ref h1, .ref h2, .ref h3])), (h0, .inl (cy 1, 40, .inl (fun _ => 0))), (h1, .inl (cy 1, 40, .inl (fun _ => 0))), (h2, .inl (cy 1, 40, .inl (fun _ => 0))), (o, .inr (7, [.int 0, .int 0, .int 0, .ref o0, .ref o1, .ref o2, .ref o3])), (o0, .inl (cy 1, 40, .inl (fun _ => 0))), (o1, .inl (cy 1, 40, .inl (fun _ => 0))), (o2, .inl (cy 1, 40, .inl (fun _ => 0)))] (fun _ : Unit => True) (fun u : Unit => [(h, .inr (7, [.int 0, .int 0, .int 0, .ref h0, .ref h1, .ref h2, .ref h3])), (h0, .inl (cy 1, 40, .inl (fun _ => 0))), (h1, .inl (cy 1, 40, .inl (fun _ => 0))), (h2, .inl (cy 1, 40, .inl (fun _ => 0))), (o, .inr (7, [.int 0, .int 0, .int 0, .ref o0, .ref o1, .ref o2, .ref o3])), (o0, .inl (cy 1, 40, .inl (fun _ => 0))), (o1, .inl (cy 1, 40, .inl (fun _ => 0))), (o2, .inl (cy 1, 40, .inl (fun _ => 0)))]) := by
  refine MV.enter (by decide) (Nat.le_of_ble_eq_true rfl) ?_
  intro p e s m below meth c ls A hsz hAe C hP hD hS hl
  have C : Cx p s m _ meth c cX7_copyFrom 2 none RX7 "copyFrom" D cy A := C
  have hx := C.1
  have hb := C.2.1
  have hl : lv_has ls 2 [(0, .ref h), (1, .ref o)] := hl
  refine lv_aload_n hx hb dX7_copyFrom_0 rfl (lv_at hl 0 rfl) ?_
  refine lv_aload_n hx hb dX7_copyFrom_1 rfl (lv_at hl 1 rfl) ?_
  refine q_get (v := .int 0) C hP 4 0 rfl rfl inX7 (by decide) kF_RX7_9 rfl rfl dX7_copyFrom_2 ?_
  refine q_put (v := .int 0) (w' := [(h, .inr (7, [.int 0, .int 0, .int 0, .ref h0, .ref h1, .ref h2, .ref h3])), (h0, .inl (cy 1, 40, .inl (fun _ => 0))), (h1, .inl (cy 1, 40, .inl (fun _ => 0))), (h2, .inl (cy 1, 40, .inl (fun _ => 0))), (o, .inr (7, [.int 0, .int 0, .int 0, .ref o0, .ref o1, .ref o2, .ref o3])), (o0, .inl (cy 1, 40, .inl (fun _ => 0))), (o1, .inl (cy 1, 40, .inl (fun _ => 0))), (o2, .inl (cy 1, 40, .inl (fun _ => 0)))]) (ty := .boolean) C hP hD hS 0 0 rfl rfl inX7 tyX7 tyX7_ok nmX7 (by decide) kF_RX7_9 rfl rfl rfl rfl rfl (Nat.le_of_ble_eq_true rfl) rfl dX7_copyFrom_5 (fun H locs hP hD hS => ?_)
  refine lv_aload_n hx hb dX7_copyFrom_8 rfl (lv_at hl 0 rfl) ?_
  refine lv_aload_n hx hb dX7_copyFrom_9 rfl (lv_at hl 1 rfl) ?_
  refine q_get (v := .int 0) C hP 4 1 rfl rfl inX7 (by decide) kF_RX7_15 rfl rfl dX7_copyFrom_10 ?_
  refine q_put (v := .int 0) (w' := [(h, .inr (7, [.int 0, .int 0, .int 0, .ref h0, .ref h1, .ref h2, .ref h3])), (h0, .inl (cy 1, 40, .inl (fun _ => 0))), (h1, .inl (cy 1, 40, .inl (fun _ => 0))), (h2, .inl (cy 1, 40, .inl (fun _ => 0))), (o, .inr (7, [.int 0, .int 0, .int 0, .ref o0, .ref o1, .ref o2, .ref o3])), (o0, .inl (cy 1, 40, .inl (fun _ => 0))), (o1, .inl (cy 1, 40, .inl (fun _ => 0))), (o2, .inl (cy 1, 40, .inl (fun _ => 0)))]) (ty := .int) C hP hD hS 0 1 rfl rfl inX7 tyX7 tyX7_ok nmX7 (by decide) kF_RX7_15 rfl rfl rfl rfl rfl (Nat.le_of_ble_eq_true rfl) rfl dX7_copyFrom_13 (fun H locs hP hD hS => ?_)
  refine lv_aload_n hx hb dX7_copyFrom_16 rfl (lv_at hl 0 rfl) ?_
  refine lv_aload_n hx hb dX7_copyFrom_17 rfl (lv_at hl 1 rfl) ?_
  refine q_get (v := .int 0) C hP 4 2 rfl rfl inX7 (by decide) kF_RX7_19 rfl rfl dX7_copyFrom_18 ?_
  refine q_put (v := .int 0) (w' := [(h, .inr (7, [.int 0, .int 0, .int 0, .ref h0, .ref h1, .ref h2, .ref h3])), (h0, .inl (cy 1, 40, .inl (fun _ => 0))), (h1, .inl (cy 1, 40, .inl (fun _ => 0))), (h2, .inl (cy 1, 40, .inl (fun _ => 0))), (o, .inr (7, [.int 0, .int 0, .int 0, .ref o0, .ref o1, .ref o2, .ref o3])), (o0, .inl (cy 1, 40, .inl (fun _ => 0))), (o1, .inl (cy 1, 40, .inl (fun _ => 0))), (o2, .inl (cy 1, 40, .inl (fun _ => 0)))]) (ty := .int) C hP hD hS 0 2 rfl rfl inX7 tyX7 tyX7_ok nmX7 (by decide) kF_RX7_19 rfl rfl rfl rfl rfl (Nat.le_of_ble_eq_true rfl) rfl dX7_copyFrom_21 (fun H locs hP hD hS => ?_)
  refine lv_aload_n hx hb dX7_copyFrom_24 rfl (lv_at hl 1 rfl) ?_
  refine q_get (v := .ref o0) C hP 4 3 rfl rfl inX7 (by decide) kF_RX7_22 rfl rfl dX7_copyFrom_25 ?_
  refine lv_iconst (v := 0) hx hb dX7_copyFrom_28 (by decide) ?_
  refine lv_aload_n hx hb dX7_copyFrom_29 rfl (lv_at hl 0 rfl) ?_
  refine q_get (v := .ref h0) C hP 0 3 rfl rfl inX7 (by decide) kF_RX7_22 rfl rfl dX7_copyFrom_30 ?_
  refine lv_iconst (v := 0) hx hb dX7_copyFrom_33 (by decide) ?_
  refine lv_bipush (v := 40) hx hb dX7_copyFrom_34 (by decide) ?_
  refine q_copy (g' := fun _ => 0) (w' := [(h, .inr (7, [.int 0, .int 0, .int 0, .ref h0, .ref h1, .ref h2, .ref h3])), (h0, .inl (cy 1, 40, .inl (fun _ => 0))), (h1, .inl (cy 1, 40, .inl (fun _ => 0))), (h2, .inl (cy 1, 40, .inl (fun _ => 0))), (o, .inr (7, [.int 0, .int 0, .int 0, .ref o0, .ref o1, .ref o2, .ref o3])), (o0, .inl (cy 1, 40, .inl (fun _ => 0))), (o1, .inl (cy 1, 40, .inl (fun _ => 0))), (o2, .inl (cy 1, 40, .inl (fun _ => 0)))]) C hl.1 hP hD hS 5 1 rfl rfl kM_RX7_35 (by decide) (by decide) (by decide) (by decide) (by decide) (Nat.le_of_ble_eq_true rfl) (Nat.le_of_ble_eq_true rfl) (cpyz _ _ _) rfl dX7_copyFrom_36 (fun H locs hP hD hS => ?_)
  refine lv_aload_n hx hb dX7_copyFrom_39 rfl (lv_at hl 1 rfl) ?_
  refine q_get (v := .ref o1) C hP 4 4 rfl rfl inX7 (by decide) kF_RX7_26 rfl rfl dX7_copyFrom_40 ?_
  refine lv_iconst (v := 0) hx hb dX7_copyFrom_43 (by decide) ?_
  refine lv_aload_n hx hb dX7_copyFrom_44 rfl (lv_at hl 0 rfl) ?_
  refine q_get (v := .ref h1) C hP 0 4 rfl rfl inX7 (by decide) kF_RX7_26 rfl rfl dX7_copyFrom_45 ?_
  refine lv_iconst (v := 0) hx hb dX7_copyFrom_48 (by decide) ?_
  refine lv_bipush (v := 40) hx hb dX7_copyFrom_49 (by decide) ?_
  refine q_copy (g' := fun _ => 0) (w' := [(h, .inr (7, [.int 0, .int 0, .int 0, .ref h0, .ref h1, .ref h2, .ref h3])), (h0, .inl (cy 1, 40, .inl (fun _ => 0))), (h1, .inl (cy 1, 40, .inl (fun _ => 0))), (h2, .inl (cy 1, 40, .inl (fun _ => 0))), (o, .inr (7, [.int 0, .int 0, .int 0, .ref o0, .ref o1, .ref o2, .ref o3])), (o0, .inl (cy 1, 40, .inl (fun _ => 0))), (o1, .inl (cy 1, 40, .inl (fun _ => 0))), (o2, .inl (cy 1, 40, .inl (fun _ => 0)))]) C hl.1 hP hD hS 6 2 rfl rfl kM_RX7_35 (by decide) (by decide) (by decide) (by decide) (by decide) (Nat.le_of_ble_eq_true rfl) (Nat.le_of_ble_eq_true rfl) (cpyz _ _ _) rfl dX7_copyFrom_51 (fun H locs hP hD hS => ?_)
  refine lv_aload_n hx hb dX7_copyFrom_54 rfl (lv_at hl 1 rfl) ?_
  refine q_get (v := .ref o2) C hP 4 5 rfl rfl inX7 (by decide) kF_RX7_29 rfl rfl dX7_copyFrom_55 ?_
  refine lv_iconst (v := 0) hx hb dX7_copyFrom_58 (by decide) ?_
  refine lv_aload_n hx hb dX7_copyFrom_59 rfl (lv_at hl 0 rfl) ?_
  refine q_get (v := .ref h2) C hP 0 5 rfl rfl inX7 (by decide) kF_RX7_29 rfl rfl dX7_copyFrom_60 ?_
  refine lv_iconst (v := 0) hx hb dX7_copyFrom_63 (by decide) ?_
  refine lv_bipush (v := 40) hx hb dX7_copyFrom_64 (by decide) ?_
  refine q_copy (g' := fun _ => 0) (w' := [(h, .inr (7, [.int 0, .int 0, .int 0, .ref h0, .ref h1, .ref h2, .ref h3])), (h0, .inl (cy 1, 40, .inl (fun _ => 0))), (h1, .inl (cy 1, 40, .inl (fun _ => 0))), (h2, .inl (cy 1, 40, .inl (fun _ => 0))), (o, .inr (7, [.int 0, .int 0, .int 0, .ref o0, .ref o1, .ref o2, .ref o3])), (o0, .inl (cy 1, 40, .inl (fun _ => 0))), (o1, .inl (cy 1, 40, .inl (fun _ => 0))), (o2, .inl (cy 1, 40, .inl (fun _ => 0)))]) C hl.1 hP hD hS 7 3 rfl rfl kM_RX7_35 (by decide) (by decide) (by decide) (by decide) (by decide) (Nat.le_of_ble_eq_true rfl) (Nat.le_of_ble_eq_true rfl) (cpyz _ _ _) rfl dX7_copyFrom_66 (fun H locs hP hD hS => ?_)
  exact q_vret (rm := (Rm 1 60 0 0)) C hS () trivial (q_subP hP [0, 1, 2, 3, 4, 5, 6, 7] rfl) (hD.sub [0, 1, 2, 3, 4, 5, 6, 7] (by decide) rfl) (Nat.le_of_ble_eq_true rfl) (Nat.le_of_ble_eq_true rfl) dX7_copyFrom_69
set_option maxHeartbeats 4000000 in
set_option maxRecDepth 100000 in
theorem c_Tforget (l : Launch) (D : va_G) (cy : Nat → ClassId) (h : Nat) (h0 : Nat) (h1 : Nat) (h2 : Nat) (h3 : Nat) (sz : Nat)  : MV l yX7_forget cX7_forget 1 (Rm 0 0 0 0) D cy [.ref h] sz [(h, .inr (7, [.int 0, .int 0, .int 0, .ref h0, .ref h1, .ref h2, .ref h3]))] (fun _ : Unit => True) (fun u : Unit => [(h, .inr (7, [.int 0, .int 0, .int 0, .ref h0, .ref h1, .ref h2, .ref h3]))]) := by
  refine MV.enter (by decide) (Nat.le_of_ble_eq_true rfl) ?_
  intro p e s m below meth c ls A hsz hAe C hP hD hS hl
  have C : Cx p s m _ meth c cX7_forget 1 none RX7 "forget" D cy A := C
  have hx := C.1
  have hb := C.2.1
  have hl : lv_has ls 1 [(0, .ref h)] := hl
  refine lv_aload_n hx hb dX7_forget_0 rfl (lv_at hl 0 rfl) ?_
  refine lv_iconst (v := 0) hx hb dX7_forget_1 (by decide) ?_
  refine q_put (v := .int 0) (w' := [(h, .inr (7, [.int 0, .int 0, .int 0, .ref h0, .ref h1, .ref h2, .ref h3]))]) (ty := .boolean) C hP hD hS 0 0 rfl rfl inX7 tyX7 tyX7_ok nmX7 (by decide) kF_RX7_9 rfl rfl rfl rfl rfl (Nat.le_of_ble_eq_true rfl) rfl dX7_forget_2 (fun H locs hP hD hS => ?_)
  refine lv_aload_n hx hb dX7_forget_5 rfl (lv_at hl 0 rfl) ?_
  refine lv_iconst (v := 0) hx hb dX7_forget_6 (by decide) ?_
  refine q_put (v := .int 0) (w' := [(h, .inr (7, [.int 0, .int 0, .int 0, .ref h0, .ref h1, .ref h2, .ref h3]))]) (ty := .int) C hP hD hS 0 1 rfl rfl inX7 tyX7 tyX7_ok nmX7 (by decide) kF_RX7_15 rfl rfl rfl rfl rfl (Nat.le_of_ble_eq_true rfl) rfl dX7_forget_7 (fun H locs hP hD hS => ?_)
  refine lv_aload_n hx hb dX7_forget_10 rfl (lv_at hl 0 rfl) ?_
  refine lv_iconst (v := 0) hx hb dX7_forget_11 (by decide) ?_
  refine q_put (v := .int 0) (w' := [(h, .inr (7, [.int 0, .int 0, .int 0, .ref h0, .ref h1, .ref h2, .ref h3]))]) (ty := .int) C hP hD hS 0 2 rfl rfl inX7 tyX7 tyX7_ok nmX7 (by decide) kF_RX7_19 rfl rfl rfl rfl rfl (Nat.le_of_ble_eq_true rfl) rfl dX7_forget_12 (fun H locs hP hD hS => ?_)
  exact q_vret (rm := (Rm 0 0 0 0)) C hS () trivial (q_subP hP [0] rfl) (hD.sub [0] (by decide) rfl) (Nat.le_of_ble_eq_true rfl) (Nat.le_of_ble_eq_true rfl) dX7_forget_15
set_option maxHeartbeats 4000000 in
set_option maxRecDepth 100000 in
theorem c_Aforget (l : Launch) (D : va_G) (cy : Nat → ClassId) (h : Nat) (h0 : Nat) (sz : Nat)  : MV l yX4_forget cX4_forget 1 (Rm 0 0 0 0) D cy [.ref h] sz [(h, .inr (4, [.int 0, .int 0, .ref h0]))] (fun _ : Unit => True) (fun u : Unit => [(h, .inr (4, [.int 0, .int 0, .ref h0]))]) := by
  refine MV.enter (by decide) (Nat.le_of_ble_eq_true rfl) ?_
  intro p e s m below meth c ls A hsz hAe C hP hD hS hl
  have C : Cx p s m _ meth c cX4_forget 1 none RX4 "forget" D cy A := C
  have hx := C.1
  have hb := C.2.1
  have hl : lv_has ls 1 [(0, .ref h)] := hl
  refine lv_aload_n hx hb dX4_forget_0 rfl (lv_at hl 0 rfl) ?_
  refine lv_iconst (v := 0) hx hb dX4_forget_1 (by decide) ?_
  refine q_put (v := .int 0) (w' := [(h, .inr (4, [.int 0, .int 0, .ref h0]))]) (ty := .int) C hP hD hS 0 0 rfl rfl inX4 tyX4 tyX4_ok nmX4 (by decide) kF_RX4_9 rfl rfl rfl rfl rfl (Nat.le_of_ble_eq_true rfl) rfl dX4_forget_2 (fun H locs hP hD hS => ?_)
  refine lv_aload_n hx hb dX4_forget_5 rfl (lv_at hl 0 rfl) ?_
  refine lv_iconst (v := 0) hx hb dX4_forget_6 (by decide) ?_
  refine q_put (v := .int 0) (w' := [(h, .inr (4, [.int 0, .int 0, .ref h0]))]) (ty := .int) C hP hD hS 0 1 rfl rfl inX4 tyX4 tyX4_ok nmX4 (by decide) kF_RX4_15 rfl rfl rfl rfl rfl (Nat.le_of_ble_eq_true rfl) rfl dX4_forget_7 (fun H locs hP hD hS => ?_)
  exact q_vret (rm := (Rm 0 0 0 0)) C hS () trivial (q_subP hP [0] rfl) (hD.sub [0] (by decide) rfl) (Nat.le_of_ble_eq_true rfl) (Nat.le_of_ble_eq_true rfl) dX4_forget_10
