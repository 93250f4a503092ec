abbrev oV0 (a0 : Value) (a1 : Value) (a2 : Value) (a3 : Value) (a4 : Value) (a5 : Value) (a6 : Value) (a7 : Value) (a8 : Value) (a9 : Value) (a10 : Value) (a11 : Value) (a12 : Value) (a13 : Value) (a14 : Value) (a15 : Value) : va_E := .inr (0, [a0, a1, a2, a3, a4, a5, a6, a7, a8, a9, a10, a11, a12, a13, a14, a15])
abbrev oV1 (a0 : Value) (a1 : Value) (a2 : Value) (a3 : Value) (a4 : Value) (a5 : Value) (a6 : Value) : va_E := .inr (1, [a0, a1, a2, a3, a4, a5, a6])
abbrev oV2 (a0 : Value) (a1 : Value) (a2 : Value) (a3 : Value) : va_E := .inr (2, [a0, a1, a2, a3])
abbrev oV3 (a0 : Value) (a1 : Value) (a2 : Value) (a3 : Value) (a4 : Value) (a5 : Value) (a6 : Value) (a7 : Value) (a8 : Value) (a9 : Value) : va_E := .inr (3, [a0, a1, a2, a3, a4, a5, a6, a7, a8, a9])
abbrev oV4 (a0 : Value) (a1 : Value) (a2 : Value) : va_E := .inr (4, [a0, a1, a2])
abbrev oV5 (a0 : Value) (a1 : Value) (a2 : Value) (a3 : Value) (a4 : Value) (a5 : Value) : va_E := .inr (5, [a0, a1, a2, a3, a4, a5])
abbrev oV6 (a0 : Value) (a1 : Value) (a2 : Value) (a3 : Value) (a4 : Value) (a5 : Value) (a6 : Value) (a7 : Value) (a8 : Value) (a9 : Value) (a10 : Value) : va_E := .inr (6, [a0, a1, a2, a3, a4, a5, a6, a7, a8, a9, a10])
abbrev oV7 (a0 : Value) (a1 : Value) (a2 : Value) (a3 : Value) (a4 : Value) (a5 : Value) (a6 : Value) : va_E := .inr (7, [a0, a1, a2, a3, a4, a5, a6])
abbrev oV8 (a0 : Value) (a1 : Value) (a2 : Value) (a3 : Value) (a4 : Value) (a5 : Value) (a6 : Value) (a7 : Value) : va_E := .inr (8, [a0, a1, a2, a3, a4, a5, a6, a7])
abbrev oV9 (a0 : Value) (a1 : Value) (a2 : Value) (a3 : Value) (a4 : Value) (a5 : Value) (a6 : Value) (a7 : Value) (a8 : Value) (a9 : Value) (a10 : Value) : va_E := .inr (9, [a0, a1, a2, a3, a4, a5, a6, a7, a8, a9, a10])
abbrev oV10 (a0 : Value) (a1 : Value) (a2 : Value) (a3 : Value) (a4 : Value) (a5 : Value) (a6 : Value) (a7 : Value) (a8 : Value) (a9 : Value) (a10 : Value) (a11 : Value) (a12 : Value) (a13 : Value) (a14 : Value) : va_E := .inr (10, [a0, a1, a2, a3, a4, a5, a6, a7, a8, a9, a10, a11, a12, a13, a14])
abbrev oV11 (a0 : Value) (a1 : Value) (a2 : Value) (a3 : Value) (a4 : Value) (a5 : Value) (a6 : Value) (a7 : Value) (a8 : Value) (a9 : Value) (a10 : Value) (a11 : Value) (a12 : Value) (a13 : Value) (a14 : Value) (a15 : Value) (a16 : Value) (a17 : Value) (a18 : Value) (a19 : Value) (a20 : Value) (a21 : Value) (a22 : Value) (a23 : Value) (a24 : Value) (a25 : Value) (a26 : Value) (a27 : Value) (a28 : Value) (a29 : Value) (a30 : Value) (a31 : Value) (a32 : Value) (a33 : Value) (a34 : Value) (a35 : Value) (a36 : Value) (a37 : Value) (a38 : Value) (a39 : Value) (a40 : Value) (a41 : Value) (a42 : Value) (a43 : Value) (a44 : Value) (a45 : Value) (a46 : Value) (a47 : Value) (a48 : Value) (a49 : Value) (a50 : Value) (a51 : Value) (a52 : Value) (a53 : Value) (a54 : Value) (a55 : Value) (a56 : Value) (a57 : Value) : va_E := .inr (11, [a0, a1, a2, a3, a4, a5, a6, a7, a8, a9, a10, a11, a12, a13, a14, a15, a16, a17, a18, a19, a20, a21, a22, a23, a24, a25, a26, a27, a28, a29, a30, a31, a32, a33, a34, a35, a36, a37, a38, a39, a40, a41, a42, a43, a44, a45, a46, a47, a48, a49, a50, a51, a52, a53, a54, a55, a56, a57])
theorem dX9_init_0 : decode cX9_init 0 = .ok (.aload_n 0, 1) := by decide +kernel
theorem dX9_init_1 : decode cX9_init 1 = .ok (.invokespecial 3, 3) := by decide +kernel
theorem kM_RX9_3 : Cond.methodLink RX9 3 Lib.objectInit ∈ gT := List.mem_filter.mpr ⟨List.mem_of_getElem? (i := 164) (by decide +kernel), by decide +kernel⟩
theorem dX9_init_4 : decode cX9_init 4 = .ok (.aload_n 0, 1) := by decide +kernel
theorem dX9_init_5 : decode cX9_init 5 = .ok (.sipush 940, 3) := by decide +kernel
theorem dX9_init_8 : decode cX9_init 8 = .ok (.newarray .int, 2) := by decide +kernel
theorem kA_int : Cond.arrayClass .int ∈ gT := List.mem_filter.mpr ⟨List.mem_of_getElem? (i := 216) (by decide +kernel), by decide +kernel⟩
theorem dX9_init_10 : decode cX9_init 10 = .ok (.putfield 9, 3) := by decide +kernel
theorem dX9_init_13 : decode cX9_init 13 = .ok (.aload_n 0, 1) := by decide +kernel
theorem dX9_init_14 : decode cX9_init 14 = .ok (.iconst 0, 1) := by decide +kernel
theorem dX9_init_15 : decode cX9_init 15 = .ok (.putfield 15, 3) := by decide +kernel
theorem dX9_init_18 : decode cX9_init 18 = .ok (.aload_n 0, 1) := by decide +kernel
theorem dX9_init_19 : decode cX9_init 19 = .ok (.iconst 0, 1) := by decide +kernel
theorem dX9_init_20 : decode cX9_init 20 = .ok (.putfield 19, 3) := by decide +kernel
theorem dX9_init_23 : decode cX9_init 23 = .ok (.aload_n 0, 1) := by decide +kernel
theorem dX9_init_24 : decode cX9_init 24 = .ok (.iconst 0, 1) := by decide +kernel
theorem dX9_init_25 : decode cX9_init 25 = .ok (.putfield 22, 3) := by decide +kernel
theorem dX9_init_28 : decode cX9_init 28 = .ok (.aload_n 0, 1) := by decide +kernel
theorem dX9_init_29 : decode cX9_init 29 = .ok (.iconst 0, 1) := by decide +kernel
theorem dX9_init_30 : decode cX9_init 30 = .ok (.putfield 25, 3) := by decide +kernel
theorem dX9_init_33 : decode cX9_init 33 = .ok (.aload_n 0, 1) := by decide +kernel
theorem dX9_init_34 : decode cX9_init 34 = .ok (.iconst 0, 1) := by decide +kernel
theorem dX9_init_35 : decode cX9_init 35 = .ok (.putfield 28, 3) := by decide +kernel
theorem dX9_init_38 : decode cX9_init 38 = .ok (.aload_n 0, 1) := by decide +kernel
theorem dX9_init_39 : decode cX9_init 39 = .ok (.iconst 0, 1) := by decide +kernel
theorem dX9_init_40 : decode cX9_init 40 = .ok (.putfield 31, 3) := by decide +kernel
theorem dX9_init_43 : decode cX9_init 43 = .ok (.aload_n 0, 1) := by decide +kernel
theorem dX9_init_44 : decode cX9_init 44 = .ok (.iconst 0, 1) := by decide +kernel
theorem dX9_init_45 : decode cX9_init 45 = .ok (.putfield 34, 3) := by decide +kernel
theorem dX9_init_48 : decode cX9_init 48 = .ok (.aload_n 0, 1) := by decide +kernel
theorem dX9_init_49 : decode cX9_init 49 = .ok (.iconst 0, 1) := by decide +kernel
theorem dX9_init_50 : decode cX9_init 50 = .ok (.putfield 37, 3) := by decide +kernel
theorem dX9_init_53 : decode cX9_init 53 = .ok (.aload_n 0, 1) := by decide +kernel
theorem dX9_init_54 : decode cX9_init 54 = .ok (.iconst 0, 1) := by decide +kernel
theorem dX9_init_55 : decode cX9_init 55 = .ok (.putfield 40, 3) := by decide +kernel
theorem dX9_init_58 : decode cX9_init 58 = .ok (.aload_n 0, 1) := by decide +kernel
theorem dX9_init_59 : decode cX9_init 59 = .ok (.iconst 0, 1) := by decide +kernel
theorem dX9_init_60 : decode cX9_init 60 = .ok (.putfield 43, 3) := by decide +kernel
theorem dX9_init_63 : decode cX9_init 63 = .ok (.return_, 1) := by decide +kernel
theorem dX6_init_0 : decode cX6_init 0 = .ok (.aload_n 0, 1) := by decide +kernel
theorem dX6_init_1 : decode cX6_init 1 = .ok (.invokespecial 3, 3) := by decide +kernel
theorem kM_RX6_3 : Cond.methodLink RX6 3 Lib.objectInit ∈ gT := List.mem_filter.mpr ⟨List.mem_of_getElem? (i := 222) (by decide +kernel), by decide +kernel⟩
theorem dX6_init_4 : decode cX6_init 4 = .ok (.aload_n 0, 1) := by decide +kernel
theorem dX6_init_5 : decode cX6_init 5 = .ok (.iconst 4, 1) := by decide +kernel
theorem dX6_init_6 : decode cX6_init 6 = .ok (.putfield 9, 3) := by decide +kernel
theorem dX6_init_9 : decode cX6_init 9 = .ok (.aload_n 0, 1) := by decide +kernel
theorem dX6_init_10 : decode cX6_init 10 = .ok (.iconst 4, 1) := by decide +kernel
theorem dX6_init_11 : decode cX6_init 11 = .ok (.putfield 15, 3) := by decide +kernel
theorem dX6_init_14 : decode cX6_init 14 = .ok (.aload_n 0, 1) := by decide +kernel
theorem dX6_init_15 : decode cX6_init 15 = .ok (.bipush 10, 2) := by decide +kernel
theorem dX6_init_17 : decode cX6_init 17 = .ok (.putfield 18, 3) := by decide +kernel
theorem dX6_init_20 : decode cX6_init 20 = .ok (.aload_n 0, 1) := by decide +kernel
theorem dX6_init_21 : decode cX6_init 21 = .ok (.iconst 1, 1) := by decide +kernel
theorem dX6_init_22 : decode cX6_init 22 = .ok (.putfield 21, 3) := by decide +kernel
theorem dX6_init_25 : decode cX6_init 25 = .ok (.aload_n 0, 1) := by decide +kernel
theorem dX6_init_26 : decode cX6_init 26 = .ok (.iconst 3, 1) := by decide +kernel
theorem dX6_init_27 : decode cX6_init 27 = .ok (.putfield 24, 3) := by decide +kernel
theorem dX6_init_30 : decode cX6_init 30 = .ok (.aload_n 0, 1) := by decide +kernel
theorem dX6_init_31 : decode cX6_init 31 = .ok (.iconst 0, 1) := by decide +kernel
theorem dX6_init_32 : decode cX6_init 32 = .ok (.putfield 27, 3) := by decide +kernel
theorem dX6_init_35 : decode cX6_init 35 = .ok (.aload_n 0, 1) := by decide +kernel
theorem dX6_init_36 : decode cX6_init 36 = .ok (.iconst 0, 1) := by decide +kernel
theorem dX6_init_37 : decode cX6_init 37 = .ok (.putfield 30, 3) := by decide +kernel
theorem dX6_init_40 : decode cX6_init 40 = .ok (.aload_n 0, 1) := by decide +kernel
theorem dX6_init_41 : decode cX6_init 41 = .ok (.iconst 0, 1) := by decide +kernel
theorem dX6_init_42 : decode cX6_init 42 = .ok (.putfield 33, 3) := by decide +kernel
theorem dX6_init_45 : decode cX6_init 45 = .ok (.aload_n 0, 1) := by decide +kernel
theorem dX6_init_46 : decode cX6_init 46 = .ok (.bipush 8, 2) := by decide +kernel
theorem dX6_init_48 : decode cX6_init 48 = .ok (.newarray .int, 2) := by decide +kernel
theorem dX6_init_50 : decode cX6_init 50 = .ok (.putfield 36, 3) := by decide +kernel
theorem dX6_init_53 : decode cX6_init 53 = .ok (.aload_n 0, 1) := by decide +kernel
theorem dX6_init_54 : decode cX6_init 54 = .ok (.bipush 8, 2) := by decide +kernel
theorem dX6_init_56 : decode cX6_init 56 = .ok (.newarray .int, 2) := by decide +kernel
theorem dX6_init_58 : decode cX6_init 58 = .ok (.putfield 40, 3) := by decide +kernel
theorem dX6_init_61 : decode cX6_init 61 = .ok (.aload_n 0, 1) := by decide +kernel
theorem dX6_init_62 : decode cX6_init 62 = .ok (.bipush 56, 2) := by decide +kernel
theorem dX6_init_64 : decode cX6_init 64 = .ok (.newarray .int, 2) := by decide +kernel
theorem dX6_init_66 : decode cX6_init 66 = .ok (.putfield 43, 3) := by decide +kernel
theorem dX6_init_69 : decode cX6_init 69 = .ok (.return_, 1) := by decide +kernel
theorem dX8_init_0 : decode cX8_init 0 = .ok (.aload_n 0, 1) := by decide +kernel
theorem dX8_init_1 : decode cX8_init 1 = .ok (.invokespecial 3, 3) := by decide +kernel
theorem kM_RX8_3 : Cond.methodLink RX8 3 Lib.objectInit ∈ gT := List.mem_filter.mpr ⟨List.mem_of_getElem? (i := 292) (by decide +kernel), by decide +kernel⟩
theorem dX8_init_4 : decode cX8_init 4 = .ok (.aload_n 0, 1) := by decide +kernel
theorem dX8_init_5 : decode cX8_init 5 = .ok (.bipush 8, 2) := by decide +kernel
theorem dX8_init_7 : decode cX8_init 7 = .ok (.newarray .int, 2) := by decide +kernel
theorem dX8_init_9 : decode cX8_init 9 = .ok (.putfield 9, 3) := by decide +kernel
theorem dX8_init_12 : decode cX8_init 12 = .ok (.aload_n 0, 1) := by decide +kernel
theorem dX8_init_13 : decode cX8_init 13 = .ok (.bipush 8, 2) := by decide +kernel
theorem dX8_init_15 : decode cX8_init 15 = .ok (.newarray .int, 2) := by decide +kernel
theorem dX8_init_17 : decode cX8_init 17 = .ok (.putfield 15, 3) := by decide +kernel
theorem dX8_init_20 : decode cX8_init 20 = .ok (.aload_n 0, 1) := by decide +kernel
theorem dX8_init_21 : decode cX8_init 21 = .ok (.bipush 8, 2) := by decide +kernel
theorem dX8_init_23 : decode cX8_init 23 = .ok (.newarray .int, 2) := by decide +kernel
theorem dX8_init_25 : decode cX8_init 25 = .ok (.putfield 18, 3) := by decide +kernel
theorem dX8_init_28 : decode cX8_init 28 = .ok (.aload_n 0, 1) := by decide +kernel
theorem dX8_init_29 : decode cX8_init 29 = .ok (.bipush 8, 2) := by decide +kernel
theorem dX8_init_31 : decode cX8_init 31 = .ok (.newarray .int, 2) := by decide +kernel
theorem dX8_init_33 : decode cX8_init 33 = .ok (.putfield 21, 3) := by decide +kernel
theorem dX8_init_36 : decode cX8_init 36 = .ok (.aload_n 0, 1) := by decide +kernel
theorem dX8_init_37 : decode cX8_init 37 = .ok (.bipush 64, 2) := by decide +kernel
theorem dX8_init_39 : decode cX8_init 39 = .ok (.newarray .int, 2) := by decide +kernel
theorem dX8_init_41 : decode cX8_init 41 = .ok (.putfield 24, 3) := by decide +kernel
theorem dX8_init_44 : decode cX8_init 44 = .ok (.aload_n 0, 1) := by decide +kernel
theorem dX8_init_45 : decode cX8_init 45 = .ok (.iconst 0, 1) := by decide +kernel
theorem dX8_init_46 : decode cX8_init 46 = .ok (.putfield 27, 3) := by decide +kernel
theorem dX8_init_49 : decode cX8_init 49 = .ok (.aload_n 0, 1) := by decide +kernel
theorem dX8_init_50 : decode cX8_init 50 = .ok (.iconst 0, 1) := by decide +kernel
theorem dX8_init_51 : decode cX8_init 51 = .ok (.putfield 31, 3) := by decide +kernel
theorem dX8_init_54 : decode cX8_init 54 = .ok (.aload_n 0, 1) := by decide +kernel
theorem dX8_init_55 : decode cX8_init 55 = .ok (.bipush 8, 2) := by decide +kernel
theorem dX8_init_57 : decode cX8_init 57 = .ok (.newarray .int, 2) := by decide +kernel
theorem dX8_init_59 : decode cX8_init 59 = .ok (.putfield 34, 3) := by decide +kernel
theorem dX8_init_62 : decode cX8_init 62 = .ok (.return_, 1) := by decide +kernel
theorem dX3_init_0 : decode cX3_init 0 = .ok (.aload_n 0, 1) := by decide +kernel
theorem dX3_init_1 : decode cX3_init 1 = .ok (.invokespecial 3, 3) := by decide +kernel
theorem kM_RX3_3 : Cond.methodLink RX3 3 Lib.objectInit ∈ gT := List.mem_filter.mpr ⟨List.mem_of_getElem? (i := 375) (by decide +kernel), by decide +kernel⟩
theorem dX3_init_4 : decode cX3_init 4 = .ok (.aload_n 0, 1) := by decide +kernel
theorem dX3_init_5 : decode cX3_init 5 = .ok (.iconst 0, 1) := by decide +kernel
theorem dX3_init_6 : decode cX3_init 6 = .ok (.putfield 9, 3) := by decide +kernel
theorem dX3_init_9 : decode cX3_init 9 = .ok (.aload_n 0, 1) := by decide +kernel
theorem dX3_init_10 : decode cX3_init 10 = .ok (.iconst 0, 1) := by decide +kernel
theorem dX3_init_11 : decode cX3_init 11 = .ok (.putfield 15, 3) := by decide +kernel
theorem dX3_init_14 : decode cX3_init 14 = .ok (.aload_n 0, 1) := by decide +kernel
theorem dX3_init_15 : decode cX3_init 15 = .ok (.iconst 0, 1) := by decide +kernel
theorem dX3_init_16 : decode cX3_init 16 = .ok (.putfield 19, 3) := by decide +kernel
theorem dX3_init_19 : decode cX3_init 19 = .ok (.aload_n 0, 1) := by decide +kernel
theorem dX3_init_20 : decode cX3_init 20 = .ok (.iconst 0, 1) := by decide +kernel
theorem dX3_init_21 : decode cX3_init 21 = .ok (.putfield 22, 3) := by decide +kernel
theorem dX3_init_24 : decode cX3_init 24 = .ok (.aload_n 0, 1) := by decide +kernel
theorem dX3_init_25 : decode cX3_init 25 = .ok (.iconst 0, 1) := by decide +kernel
theorem dX3_init_26 : decode cX3_init 26 = .ok (.putfield 25, 3) := by decide +kernel
theorem dX3_init_29 : decode cX3_init 29 = .ok (.aload_n 0, 1) := by decide +kernel
theorem dX3_init_30 : decode cX3_init 30 = .ok (.iconst 0, 1) := by decide +kernel
theorem dX3_init_31 : decode cX3_init 31 = .ok (.putfield 28, 3) := by decide +kernel
theorem dX3_init_34 : decode cX3_init 34 = .ok (.aload_n 0, 1) := by decide +kernel
theorem dX3_init_35 : decode cX3_init 35 = .ok (.bipush 40, 2) := by decide +kernel
theorem dX3_init_37 : decode cX3_init 37 = .ok (.newarray .int, 2) := by decide +kernel
theorem dX3_init_39 : decode cX3_init 39 = .ok (.putfield 31, 3) := by decide +kernel
theorem dX3_init_42 : decode cX3_init 42 = .ok (.aload_n 0, 1) := by decide +kernel
theorem dX3_init_43 : decode cX3_init 43 = .ok (.bipush 40, 2) := by decide +kernel
theorem dX3_init_45 : decode cX3_init 45 = .ok (.newarray .int, 2) := by decide +kernel
theorem dX3_init_47 : decode cX3_init 47 = .ok (.putfield 35, 3) := by decide +kernel
theorem dX3_init_50 : decode cX3_init 50 = .ok (.aload_n 0, 1) := by decide +kernel
theorem dX3_init_51 : decode cX3_init 51 = .ok (.bipush 40, 2) := by decide +kernel
theorem dX3_init_53 : decode cX3_init 53 = .ok (.newarray .int, 2) := by decide +kernel
theorem dX3_init_55 : decode cX3_init 55 = .ok (.putfield 38, 3) := by decide +kernel
theorem dX3_init_58 : decode cX3_init 58 = .ok (.aload_n 0, 1) := by decide +kernel
theorem dX3_init_59 : decode cX3_init 59 = .ok (.bipush 40, 2) := by decide +kernel
theorem dX3_init_61 : decode cX3_init 61 = .ok (.newarray .int, 2) := by decide +kernel
theorem dX3_init_63 : decode cX3_init 63 = .ok (.putfield 41, 3) := by decide +kernel
theorem dX3_init_66 : decode cX3_init 66 = .ok (.return_, 1) := by decide +kernel
theorem dX7_init_0 : decode cX7_init 0 = .ok (.aload_n 0, 1) := by decide +kernel
theorem dX7_init_1 : decode cX7_init 1 = .ok (.invokespecial 3, 3) := by decide +kernel
theorem kM_RX7_3 : Cond.methodLink RX7 3 Lib.objectInit ∈ gT := List.mem_filter.mpr ⟨List.mem_of_getElem? (i := 417) (by decide +kernel), by decide +kernel⟩
theorem dX7_init_4 : decode cX7_init 4 = .ok (.aload_n 0, 1) := by decide +kernel
theorem dX7_init_5 : decode cX7_init 5 = .ok (.iconst 0, 1) := by decide +kernel
theorem dX7_init_6 : decode cX7_init 6 = .ok (.putfield 9, 3) := by decide +kernel
theorem dX7_init_9 : decode cX7_init 9 = .ok (.aload_n 0, 1) := by decide +kernel
theorem dX7_init_10 : decode cX7_init 10 = .ok (.iconst 0, 1) := by decide +kernel
theorem dX7_init_11 : decode cX7_init 11 = .ok (.putfield 15, 3) := by decide +kernel
theorem dX7_init_14 : decode cX7_init 14 = .ok (.aload_n 0, 1) := by decide +kernel
theorem dX7_init_15 : decode cX7_init 15 = .ok (.iconst 0, 1) := by decide +kernel
theorem dX7_init_16 : decode cX7_init 16 = .ok (.putfield 19, 3) := by decide +kernel
theorem dX7_init_19 : decode cX7_init 19 = .ok (.aload_n 0, 1) := by decide +kernel
theorem dX7_init_20 : decode cX7_init 20 = .ok (.bipush 40, 2) := by decide +kernel
theorem dX7_init_22 : decode cX7_init 22 = .ok (.newarray .int, 2) := by decide +kernel
theorem dX7_init_24 : decode cX7_init 24 = .ok (.putfield 22, 3) := by decide +kernel
theorem dX7_init_27 : decode cX7_init 27 = .ok (.aload_n 0, 1) := by decide +kernel
theorem dX7_init_28 : decode cX7_init 28 = .ok (.bipush 40, 2) := by decide +kernel
theorem dX7_init_30 : decode cX7_init 30 = .ok (.newarray .int, 2) := by decide +kernel
theorem dX7_init_32 : decode cX7_init 32 = .ok (.putfield 26, 3) := by decide +kernel
theorem dX7_init_35 : decode cX7_init 35 = .ok (.aload_n 0, 1) := by decide +kernel
theorem dX7_init_36 : decode cX7_init 36 = .ok (.bipush 40, 2) := by decide +kernel
theorem dX7_init_38 : decode cX7_init 38 = .ok (.newarray .int, 2) := by decide +kernel
theorem dX7_init_40 : decode cX7_init 40 = .ok (.putfield 29, 3) := by decide +kernel
theorem dX7_init_43 : decode cX7_init 43 = .ok (.aload_n 0, 1) := by decide +kernel
theorem dX7_init_44 : decode cX7_init 44 = .ok (.bipush 40, 2) := by decide +kernel
theorem dX7_init_46 : decode cX7_init 46 = .ok (.newarray .int, 2) := by decide +kernel
theorem dX7_init_48 : decode cX7_init 48 = .ok (.putfield 32, 3) := by decide +kernel
theorem dX7_init_51 : decode cX7_init 51 = .ok (.return_, 1) := by decide +kernel
theorem dX0_init_0 : decode cX0_init 0 = .ok (.aload_n 0, 1) := by decide +kernel
theorem dX0_init_1 : decode cX0_init 1 = .ok (.invokespecial 3, 3) := by decide +kernel
theorem kM_RX0_3 : Cond.methodLink RX0 3 Lib.objectInit ∈ gT := List.mem_filter.mpr ⟨List.mem_of_getElem? (i := 469) (by decide +kernel), by decide +kernel⟩
theorem dX0_init_4 : decode cX0_init 4 = .ok (.aload_n 0, 1) := by decide +kernel
theorem dX0_init_5 : decode cX0_init 5 = .ok (.iconst 0, 1) := by decide +kernel
theorem dX0_init_6 : decode cX0_init 6 = .ok (.putfield 9, 3) := by decide +kernel
theorem dX0_init_9 : decode cX0_init 9 = .ok (.aload_n 0, 1) := by decide +kernel
theorem dX0_init_10 : decode cX0_init 10 = .ok (.iconst 0, 1) := by decide +kernel
theorem dX0_init_11 : decode cX0_init 11 = .ok (.putfield 15, 3) := by decide +kernel
theorem dX0_init_14 : decode cX0_init 14 = .ok (.aload_n 0, 1) := by decide +kernel
theorem dX0_init_15 : decode cX0_init 15 = .ok (.iconst (-1), 1) := by decide +kernel
theorem dX0_init_16 : decode cX0_init 16 = .ok (.putfield 18, 3) := by decide +kernel
theorem dX0_init_19 : decode cX0_init 19 = .ok (.aload_n 0, 1) := by decide +kernel
theorem dX0_init_20 : decode cX0_init 20 = .ok (.bipush 8, 2) := by decide +kernel
theorem dX0_init_22 : decode cX0_init 22 = .ok (.newarray .int, 2) := by decide +kernel
theorem dX0_init_24 : decode cX0_init 24 = .ok (.putfield 21, 3) := by decide +kernel
theorem dX0_init_27 : decode cX0_init 27 = .ok (.aload_n 0, 1) := by decide +kernel
theorem dX0_init_28 : decode cX0_init 28 = .ok (.iconst 3, 1) := by decide +kernel
theorem dX0_init_29 : decode cX0_init 29 = .ok (.newarray .int, 2) := by decide +kernel
theorem dX0_init_31 : decode cX0_init 31 = .ok (.putfield 25, 3) := by decide +kernel
theorem dX0_init_34 : decode cX0_init 34 = .ok (.aload_n 0, 1) := by decide +kernel
theorem dX0_init_35 : decode cX0_init 35 = .ok (.iconst 3, 1) := by decide +kernel
theorem dX0_init_36 : decode cX0_init 36 = .ok (.newarray .int, 2) := by decide +kernel
theorem dX0_init_38 : decode cX0_init 38 = .ok (.putfield 28, 3) := by decide +kernel
theorem dX0_init_41 : decode cX0_init 41 = .ok (.aload_n 0, 1) := by decide +kernel
theorem dX0_init_42 : decode cX0_init 42 = .ok (.bipush 8, 2) := by decide +kernel
theorem dX0_init_44 : decode cX0_init 44 = .ok (.newarray .int, 2) := by decide +kernel
theorem dX0_init_46 : decode cX0_init 46 = .ok (.putfield 31, 3) := by decide +kernel
theorem dX0_init_49 : decode cX0_init 49 = .ok (.aload_n 0, 1) := by decide +kernel
theorem dX0_init_50 : decode cX0_init 50 = .ok (.bipush 8, 2) := by decide +kernel
theorem dX0_init_52 : decode cX0_init 52 = .ok (.newarray .int, 2) := by decide +kernel
theorem dX0_init_54 : decode cX0_init 54 = .ok (.putfield 34, 3) := by decide +kernel
theorem dX0_init_57 : decode cX0_init 57 = .ok (.aload_n 0, 1) := by decide +kernel
theorem dX0_init_58 : decode cX0_init 58 = .ok (.iconst 0, 1) := by decide +kernel
theorem dX0_init_59 : decode cX0_init 59 = .ok (.putfield 37, 3) := by decide +kernel
theorem dX0_init_62 : decode cX0_init 62 = .ok (.aload_n 0, 1) := by decide +kernel
theorem dX0_init_63 : decode cX0_init 63 = .ok (.bipush 81, 2) := by decide +kernel
theorem dX0_init_65 : decode cX0_init 65 = .ok (.newarray .int, 2) := by decide +kernel
theorem dX0_init_67 : decode cX0_init 67 = .ok (.putfield 40, 3) := by decide +kernel
theorem dX0_init_70 : decode cX0_init 70 = .ok (.aload_n 0, 1) := by decide +kernel
theorem dX0_init_71 : decode cX0_init 71 = .ok (.iconst 0, 1) := by decide +kernel
theorem dX0_init_72 : decode cX0_init 72 = .ok (.putfield 43, 3) := by decide +kernel
theorem dX0_init_75 : decode cX0_init 75 = .ok (.aload_n 0, 1) := by decide +kernel
theorem dX0_init_76 : decode cX0_init 76 = .ok (.iconst 0, 1) := by decide +kernel
theorem dX0_init_77 : decode cX0_init 77 = .ok (.putfield 46, 3) := by decide +kernel
theorem dX0_init_80 : decode cX0_init 80 = .ok (.aload_n 0, 1) := by decide +kernel
theorem dX0_init_81 : decode cX0_init 81 = .ok (.iconst 1, 1) := by decide +kernel
theorem dX0_init_82 : decode cX0_init 82 = .ok (.putfield 49, 3) := by decide +kernel
theorem dX0_init_85 : decode cX0_init 85 = .ok (.aload_n 0, 1) := by decide +kernel
theorem dX0_init_86 : decode cX0_init 86 = .ok (.iconst 1, 1) := by decide +kernel
theorem dX0_init_87 : decode cX0_init 87 = .ok (.putfield 52, 3) := by decide +kernel
theorem dX0_init_90 : decode cX0_init 90 = .ok (.aload_n 0, 1) := by decide +kernel
theorem dX0_init_91 : decode cX0_init 91 = .ok (.iconst 0, 1) := by decide +kernel
theorem dX0_init_92 : decode cX0_init 92 = .ok (.putfield 55, 3) := by decide +kernel
theorem dX0_init_95 : decode cX0_init 95 = .ok (.aload_n 0, 1) := by decide +kernel
theorem dX0_init_96 : decode cX0_init 96 = .ok (.iconst 0, 1) := by decide +kernel
theorem dX0_init_97 : decode cX0_init 97 = .ok (.putfield 58, 3) := by decide +kernel
theorem dX0_init_100 : decode cX0_init 100 = .ok (.return_, 1) := by decide +kernel
theorem dX5_init_0 : decode cX5_init 0 = .ok (.aload_n 0, 1) := by decide +kernel
theorem dX5_init_1 : decode cX5_init 1 = .ok (.invokespecial 3, 3) := by decide +kernel
theorem kM_RX5_3 : Cond.methodLink RX5 3 Lib.objectInit ∈ gT := List.mem_filter.mpr ⟨List.mem_of_getElem? (i := 529) (by decide +kernel), by decide +kernel⟩
theorem dX5_init_4 : decode cX5_init 4 = .ok (.aload_n 0, 1) := by decide +kernel
theorem dX5_init_5 : decode cX5_init 5 = .ok (.bipush 8, 2) := by decide +kernel
theorem dX5_init_7 : decode cX5_init 7 = .ok (.newarray .int, 2) := by decide +kernel
theorem dX5_init_9 : decode cX5_init 9 = .ok (.putfield 9, 3) := by decide +kernel
theorem dX5_init_12 : decode cX5_init 12 = .ok (.aload_n 0, 1) := by decide +kernel
theorem dX5_init_13 : decode cX5_init 13 = .ok (.iconst 0, 1) := by decide +kernel
theorem dX5_init_14 : decode cX5_init 14 = .ok (.putfield 15, 3) := by decide +kernel
theorem dX5_init_17 : decode cX5_init 17 = .ok (.aload_n 0, 1) := by decide +kernel
theorem dX5_init_18 : decode cX5_init 18 = .ok (.iconst (-1), 1) := by decide +kernel
theorem dX5_init_19 : decode cX5_init 19 = .ok (.putfield 19, 3) := by decide +kernel
theorem dX5_init_22 : decode cX5_init 22 = .ok (.aload_n 0, 1) := by decide +kernel
theorem dX5_init_23 : decode cX5_init 23 = .ok (.bipush 9, 2) := by decide +kernel
theorem dX5_init_25 : decode cX5_init 25 = .ok (.newarray .int, 2) := by decide +kernel
theorem dX5_init_27 : decode cX5_init 27 = .ok (.putfield 22, 3) := by decide +kernel
theorem dX5_init_30 : decode cX5_init 30 = .ok (.aload_n 0, 1) := by decide +kernel
theorem dX5_init_31 : decode cX5_init 31 = .ok (.bipush 36, 2) := by decide +kernel
theorem dX5_init_33 : decode cX5_init 33 = .ok (.newarray .int, 2) := by decide +kernel
theorem dX5_init_35 : decode cX5_init 35 = .ok (.putfield 25, 3) := by decide +kernel
theorem dX5_init_38 : decode cX5_init 38 = .ok (.aload_n 0, 1) := by decide +kernel
theorem dX5_init_39 : decode cX5_init 39 = .ok (.bipush 36, 2) := by decide +kernel
theorem dX5_init_41 : decode cX5_init 41 = .ok (.newarray .int, 2) := by decide +kernel
theorem dX5_init_43 : decode cX5_init 43 = .ok (.putfield 28, 3) := by decide +kernel
theorem dX5_init_46 : decode cX5_init 46 = .ok (.return_, 1) := by decide +kernel
set_option maxHeartbeats 4000000 in
set_option maxRecDepth 100000 in
theorem c_Tape (l : Launch) (D : va_G) (cy : Nat → ClassId) (h : Nat) (sz : Nat)  : MV l yX9_init cX9_init 1 (Rm 1 20 1 940) D cy [.ref h] sz [(h, oV9 .null (.int 0) (.int 0) (.int 0) (.int 0) (.int 0) (.int 0) (.int 0) (.int 0) (.int 0) (.int 0))] (fun _ : Nat → Nat => True) (fun u : Nat → Nat => [(h, oC9 (u 0) 0 0 0 0 0 0 0 0 0 0), ((u 0), aC1 cy 940 (fun _ => 0))]) := by
  refine MV.enter (by decide) (Nat.le_of_ble_eq_true rfl) ?_
  intro p e s m below meth c ls A hsz hAe C hP hD hS hl
  have C : Cx p s m _ meth c cX9_init 1 none RX9 "<init>" D cy A := C
  have hx := C.1
  have hb := C.2.1
  have hl : lv_has ls 1 [(0, .ref h)] := hl
  refine lv_aload_n hx hb dX9_init_0 rfl (lv_at hl 0 rfl) ?_
  refine q_obj C hl.1 kM_RX9_3 (Nat.le_of_ble_eq_true rfl) (lv_room12 (Nat.le_of_ble_eq_true rfl)) dX9_init_1 ?_ (Nat.le_of_ble_eq_true rfl) (Nat.le_of_ble_eq_true rfl)
  refine lv_aload_n hx hb dX9_init_4 rfl (lv_at hl 0 rfl) ?_
  refine lv_sipush (v := 940) hx hb dX9_init_5 (by decide) ?_
  refine q_newa (a0 := (940, .inl (fun _ => 0))) (ty := .int) (N' := 940) C hP hD hS 1 rfl (fun _ h => h) kA_int rfl (fun _ => rfl) (by decide) (by decide) (by decide) (Nat.le_of_ble_eq_true rfl) (Nat.le_of_ble_eq_true rfl) dX9_init_8 (fun q_1 H hP hD hS => ?_)
  have hP : va_P D vwCl [(h, oV9 .null (.int 0) (.int 0) (.int 0) (.int 0) (.int 0) (.int 0) (.int 0) (.int 0) (.int 0) (.int 0)), (q_1, aC1 cy 940 (fun _ => 0))] H := hP
  have hD : va_D A [(h, oV9 .null (.int 0) (.int 0) (.int 0) (.int 0) (.int 0) (.int 0) (.int 0) (.int 0) (.int 0) (.int 0)), (q_1, aC1 cy 940 (fun _ => 0))] := hD
  refine q_putF (v := .ref q_1) (w' := [(h, oC9 q_1 0 0 0 0 0 0 0 0 0 0), (q_1, aC1 cy 940 (fun _ => 0))]) (ty := (tyX9 0)) C hP hD hS 0 0 rfl rfl inX9 tyX9 tyX9_ok nmX9 (by decide) kF_RX9_9 rfl rfl rfl rfl rfl rfl (Nat.le_of_ble_eq_true rfl) rfl dX9_init_10 (fun H locs hP hD hS => ?_)
  refine lv_aload_n hx hb dX9_init_13 rfl (lv_at hl 0 rfl) ?_
  refine lv_iconst (v := 0) hx hb dX9_init_14 (by decide) ?_
  refine q_put (v := .int 0) (w' := [(h, oC9 q_1 0 0 0 0 0 0 0 0 0 0), (q_1, aC1 cy 940 (fun _ => 0))]) (ty := .int) C hP hD hS 0 1 rfl rfl inX9 tyX9 tyX9_ok nmX9 (by decide) kF_RX9_15 rfl rfl rfl rfl rfl (Nat.le_of_ble_eq_true rfl) rfl dX9_init_15 (fun H locs hP hD hS => ?_)
  refine lv_aload_n hx hb dX9_init_18 rfl (lv_at hl 0 rfl) ?_
  refine lv_iconst (v := 0) hx hb dX9_init_19 (by decide) ?_
  refine q_put (v := .int 0) (w' := [(h, oC9 q_1 0 0 0 0 0 0 0 0 0 0), (q_1, aC1 cy 940 (fun _ => 0))]) (ty := .int) C hP hD hS 0 2 rfl rfl inX9 tyX9 tyX9_ok nmX9 (by decide) kF_RX9_19 rfl rfl rfl rfl rfl (Nat.le_of_ble_eq_true rfl) rfl dX9_init_20 (fun H locs hP hD hS => ?_)
  refine lv_aload_n hx hb dX9_init_23 rfl (lv_at hl 0 rfl) ?_
  refine lv_iconst (v := 0) hx hb dX9_init_24 (by decide) ?_
  refine q_put (v := .int 0) (w' := [(h, oC9 q_1 0 0 0 0 0 0 0 0 0 0), (q_1, aC1 cy 940 (fun _ => 0))]) (ty := .int) C hP hD hS 0 3 rfl rfl inX9 tyX9 tyX9_ok nmX9 (by decide) kF_RX9_22 rfl rfl rfl rfl rfl (Nat.le_of_ble_eq_true rfl) rfl dX9_init_25 (fun H locs hP hD hS => ?_)
  refine lv_aload_n hx hb dX9_init_28 rfl (lv_at hl 0 rfl) ?_
  refine lv_iconst (v := 0) hx hb dX9_init_29 (by decide) ?_
  refine q_put (v := .int 0) (w' := [(h, oC9 q_1 0 0 0 0 0 0 0 0 0 0), (q_1, aC1 cy 940 (fun _ => 0))]) (ty := .int) C hP hD hS 0 4 rfl rfl inX9 tyX9 tyX9_ok nmX9 (by decide) kF_RX9_25 rfl rfl rfl rfl rfl (Nat.le_of_ble_eq_true rfl) rfl dX9_init_30 (fun H locs hP hD hS => ?_)
  refine lv_aload_n hx hb dX9_init_33 rfl (lv_at hl 0 rfl) ?_
  refine lv_iconst (v := 0) hx hb dX9_init_34 (by decide) ?_
  refine q_put (v := .int 0) (w' := [(h, oC9 q_1 0 0 0 0 0 0 0 0 0 0), (q_1, aC1 cy 940 (fun _ => 0))]) (ty := .int) C hP hD hS 0 5 rfl rfl inX9 tyX9 tyX9_ok nmX9 (by decide) kF_RX9_28 rfl rfl rfl rfl rfl (Nat.le_of_ble_eq_true rfl) rfl dX9_init_35 (fun H locs hP hD hS => ?_)
  refine lv_aload_n hx hb dX9_init_38 rfl (lv_at hl 0 rfl) ?_
  refine lv_iconst (v := 0) hx hb dX9_init_39 (by decide) ?_
  refine q_put (v := .int 0) (w' := [(h, oC9 q_1 0 0 0 0 0 0 0 0 0 0), (q_1, aC1 cy 940 (fun _ => 0))]) (ty := .int) C hP hD hS 0 6 rfl rfl inX9 tyX9 tyX9_ok nmX9 (by decide) kF_RX9_31 rfl rfl rfl rfl rfl (Nat.le_of_ble_eq_true rfl) rfl dX9_init_40 (fun H locs hP hD hS => ?_)
  refine lv_aload_n hx hb dX9_init_43 rfl (lv_at hl 0 rfl) ?_
  refine lv_iconst (v := 0) hx hb dX9_init_44 (by decide) ?_
  refine q_put (v := .int 0) (w' := [(h, oC9 q_1 0 0 0 0 0 0 0 0 0 0), (q_1, aC1 cy 940 (fun _ => 0))]) (ty := .int) C hP hD hS 0 7 rfl rfl inX9 tyX9 tyX9_ok nmX9 (by decide) kF_RX9_34 rfl rfl rfl rfl rfl (Nat.le_of_ble_eq_true rfl) rfl dX9_init_45 (fun H locs hP hD hS => ?_)
  refine lv_aload_n hx hb dX9_init_48 rfl (lv_at hl 0 rfl) ?_
  refine lv_iconst (v := 0) hx hb dX9_init_49 (by decide) ?_
  refine q_put (v := .int 0) (w' := [(h, oC9 q_1 0 0 0 0 0 0 0 0 0 0), (q_1, aC1 cy 940 (fun _ => 0))]) (ty := .int) C hP hD hS 0 8 rfl rfl inX9 tyX9 tyX9_ok nmX9 (by decide) kF_RX9_37 rfl rfl rfl rfl rfl (Nat.le_of_ble_eq_true rfl) rfl dX9_init_50 (fun H locs hP hD hS => ?_)
  refine lv_aload_n hx hb dX9_init_53 rfl (lv_at hl 0 rfl) ?_
  refine lv_iconst (v := 0) hx hb dX9_init_54 (by decide) ?_
  refine q_put (v := .int 0) (w' := [(h, oC9 q_1 0 0 0 0 0 0 0 0 0 0), (q_1, aC1 cy 940 (fun _ => 0))]) (ty := .int) C hP hD hS 0 9 rfl rfl inX9 tyX9 tyX9_ok nmX9 (by decide) kF_RX9_40 rfl rfl rfl rfl rfl (Nat.le_of_ble_eq_true rfl) rfl dX9_init_55 (fun H locs hP hD hS => ?_)
  refine lv_aload_n hx hb dX9_init_58 rfl (lv_at hl 0 rfl) ?_
  refine lv_iconst (v := 0) hx hb dX9_init_59 (by decide) ?_
  refine q_put (v := .int 0) (w' := [(h, oC9 q_1 0 0 0 0 0 0 0 0 0 0), (q_1, aC1 cy 940 (fun _ => 0))]) (ty := .int) C hP hD hS 0 10 rfl rfl inX9 tyX9 tyX9_ok nmX9 (by decide) kF_RX9_43 rfl rfl rfl rfl rfl (Nat.le_of_ble_eq_true rfl) rfl dX9_init_60 (fun H locs hP hD hS => ?_)
  exact q_vret (rm := (Rm 1 20 1 940)) C hS (fun k => [q_1].getD k 0) trivial (q_subP hP [0, 1] rfl) (hD.sub [0, 1] (by decide) rfl) (Nat.le_of_ble_eq_true rfl) (Nat.le_of_ble_eq_true rfl) dX9_init_63
set_option maxHeartbeats 4000000 in
set_option maxRecDepth 100000 in
theorem c_Plan (l : Launch) (D : va_G) (cy : Nat → ClassId) (h : Nat) (sz : Nat)  : MV l yX6_init cX6_init 1 (Rm 1 20 3 72) D cy [.ref h] sz [(h, oV6 (.int 0) (.int 0) (.int 0) (.int 0) (.int 0) (.int 0) (.int 0) (.int 0) .null .null .null)] (fun _ : Nat → Nat => True) (fun u : Nat → Nat => [(h, oC6 4 4 10 1 3 0 0 0 (u 0) (u 1) (u 2)), ((u 0), aC1 cy 8 (fun _ => 0)), ((u 1), aC1 cy 8 (fun _ => 0)), ((u 2), aC1 cy 56 (fun _ => 0))]) := by
  refine MV.enter (by decide) (Nat.le_of_ble_eq_true rfl) ?_
  intro p e s m below meth c ls A hsz hAe C hP hD hS hl
  have C : Cx p s m _ meth c cX6_init 1 none RX6 "<init>" D cy A := C
  have hx := C.1
  have hb := C.2.1
  have hl : lv_has ls 1 [(0, .ref h)] := hl
  refine lv_aload_n hx hb dX6_init_0 rfl (lv_at hl 0 rfl) ?_
  refine q_obj C hl.1 kM_RX6_3 (Nat.le_of_ble_eq_true rfl) (lv_room12 (Nat.le_of_ble_eq_true rfl)) dX6_init_1 ?_ (Nat.le_of_ble_eq_true rfl) (Nat.le_of_ble_eq_true rfl)
  refine lv_aload_n hx hb dX6_init_4 rfl (lv_at hl 0 rfl) ?_
  refine lv_iconst (v := 4) hx hb dX6_init_5 (by decide) ?_
  refine q_put (v := .int 4) (w' := [(h, oV6 (.int 4) (.int 0) (.int 0) (.int 0) (.int 0) (.int 0) (.int 0) (.int 0) .null .null .null)]) (ty := .int) C hP hD hS 0 0 rfl rfl inX6 tyX6 tyX6_ok nmX6 (by decide) kF_RX6_9 rfl rfl rfl rfl rfl (Nat.le_of_ble_eq_true rfl) rfl dX6_init_6 (fun H locs hP hD hS => ?_)
  refine lv_aload_n hx hb dX6_init_9 rfl (lv_at hl 0 rfl) ?_
  refine lv_iconst (v := 4) hx hb dX6_init_10 (by decide) ?_
  refine q_put (v := .int 4) (w' := [(h, oV6 (.int 4) (.int 4) (.int 0) (.int 0) (.int 0) (.int 0) (.int 0) (.int 0) .null .null .null)]) (ty := .int) C hP hD hS 0 1 rfl rfl inX6 tyX6 tyX6_ok nmX6 (by decide) kF_RX6_15 rfl rfl rfl rfl rfl (Nat.le_of_ble_eq_true rfl) rfl dX6_init_11 (fun H locs hP hD hS => ?_)
  refine lv_aload_n hx hb dX6_init_14 rfl (lv_at hl 0 rfl) ?_
  refine lv_bipush (v := 10) hx hb dX6_init_15 (by decide) ?_
  refine q_put (v := .int 10) (w' := [(h, oV6 (.int 4) (.int 4) (.int 10) (.int 0) (.int 0) (.int 0) (.int 0) (.int 0) .null .null .null)]) (ty := .int) C hP hD hS 0 2 rfl rfl inX6 tyX6 tyX6_ok nmX6 (by decide) kF_RX6_18 rfl rfl rfl rfl rfl (Nat.le_of_ble_eq_true rfl) rfl dX6_init_17 (fun H locs hP hD hS => ?_)
  refine lv_aload_n hx hb dX6_init_20 rfl (lv_at hl 0 rfl) ?_
  refine lv_iconst (v := 1) hx hb dX6_init_21 (by decide) ?_
  refine q_put (v := .int 1) (w' := [(h, oV6 (.int 4) (.int 4) (.int 10) (.int 1) (.int 0) (.int 0) (.int 0) (.int 0) .null .null .null)]) (ty := .int) C hP hD hS 0 3 rfl rfl inX6 tyX6 tyX6_ok nmX6 (by decide) kF_RX6_21 rfl rfl rfl rfl rfl (Nat.le_of_ble_eq_true rfl) rfl dX6_init_22 (fun H locs hP hD hS => ?_)
  refine lv_aload_n hx hb dX6_init_25 rfl (lv_at hl 0 rfl) ?_
  refine lv_iconst (v := 3) hx hb dX6_init_26 (by decide) ?_
  refine q_put (v := .int 3) (w' := [(h, oV6 (.int 4) (.int 4) (.int 10) (.int 1) (.int 3) (.int 0) (.int 0) (.int 0) .null .null .null)]) (ty := .int) C hP hD hS 0 4 rfl rfl inX6 tyX6 tyX6_ok nmX6 (by decide) kF_RX6_24 rfl rfl rfl rfl rfl (Nat.le_of_ble_eq_true rfl) rfl dX6_init_27 (fun H locs hP hD hS => ?_)
  refine lv_aload_n hx hb dX6_init_30 rfl (lv_at hl 0 rfl) ?_
  refine lv_iconst (v := 0) hx hb dX6_init_31 (by decide) ?_
  refine q_put (v := .int 0) (w' := [(h, oV6 (.int 4) (.int 4) (.int 10) (.int 1) (.int 3) (.int 0) (.int 0) (.int 0) .null .null .null)]) (ty := .int) C hP hD hS 0 5 rfl rfl inX6 tyX6 tyX6_ok nmX6 (by decide) kF_RX6_27 rfl rfl rfl rfl rfl (Nat.le_of_ble_eq_true rfl) rfl dX6_init_32 (fun H locs hP hD hS => ?_)
  refine lv_aload_n hx hb dX6_init_35 rfl (lv_at hl 0 rfl) ?_
  refine lv_iconst (v := 0) hx hb dX6_init_36 (by decide) ?_
  refine q_put (v := .int 0) (w' := [(h, oV6 (.int 4) (.int 4) (.int 10) (.int 1) (.int 3) (.int 0) (.int 0) (.int 0) .null .null .null)]) (ty := .int) C hP hD hS 0 6 rfl rfl inX6 tyX6 tyX6_ok nmX6 (by decide) kF_RX6_30 rfl rfl rfl rfl rfl (Nat.le_of_ble_eq_true rfl) rfl dX6_init_37 (fun H locs hP hD hS => ?_)
  refine lv_aload_n hx hb dX6_init_40 rfl (lv_at hl 0 rfl) ?_
  refine lv_iconst (v := 0) hx hb dX6_init_41 (by decide) ?_
  refine q_put (v := .int 0) (w' := [(h, oV6 (.int 4) (.int 4) (.int 10) (.int 1) (.int 3) (.int 0) (.int 0) (.int 0) .null .null .null)]) (ty := .int) C hP hD hS 0 7 rfl rfl inX6 tyX6 tyX6_ok nmX6 (by decide) kF_RX6_33 rfl rfl rfl rfl rfl (Nat.le_of_ble_eq_true rfl) rfl dX6_init_42 (fun H locs hP hD hS => ?_)
  refine lv_aload_n hx hb dX6_init_45 rfl (lv_at hl 0 rfl) ?_
  refine lv_bipush (v := 8) hx hb dX6_init_46 (by decide) ?_
  refine q_newa (a0 := (8, .inl (fun _ => 0))) (ty := .int) (N' := 8) C hP hD hS 1 rfl (fun _ h => h) kA_int rfl (fun _ => rfl) (by decide) (by decide) (by decide) (Nat.le_of_ble_eq_true rfl) (Nat.le_of_ble_eq_true rfl) dX6_init_48 (fun q_1 H hP hD hS => ?_)
  have hP : va_P D vwCl [(h, oV6 (.int 4) (.int 4) (.int 10) (.int 1) (.int 3) (.int 0) (.int 0) (.int 0) .null .null .null), (q_1, aC1 cy 8 (fun _ => 0))] H := hP
  have hD : va_D A [(h, oV6 (.int 4) (.int 4) (.int 10) (.int 1) (.int 3) (.int 0) (.int 0) (.int 0) .null .null .null), (q_1, aC1 cy 8 (fun _ => 0))] := hD
  refine q_putF (v := .ref q_1) (w' := [(h, oV6 (.int 4) (.int 4) (.int 10) (.int 1) (.int 3) (.int 0) (.int 0) (.int 0) (.ref q_1) .null .null), (q_1, aC1 cy 8 (fun _ => 0))]) (ty := (tyX6 8)) C hP hD hS 0 8 rfl rfl inX6 tyX6 tyX6_ok nmX6 (by decide) kF_RX6_36 rfl rfl rfl rfl rfl rfl (Nat.le_of_ble_eq_true rfl) rfl dX6_init_50 (fun H locs hP hD hS => ?_)
  refine lv_aload_n hx hb dX6_init_53 rfl (lv_at hl 0 rfl) ?_
  refine lv_bipush (v := 8) hx hb dX6_init_54 (by decide) ?_
  refine q_newa (a0 := (8, .inl (fun _ => 0))) (ty := .int) (N' := 8) C hP hD hS 1 rfl (fun _ h => h) kA_int rfl (fun _ => rfl) (by decide) (by decide) (by decide) (Nat.le_of_ble_eq_true rfl) (Nat.le_of_ble_eq_true rfl) dX6_init_56 (fun q_2 H hP hD hS => ?_)
  have hP : va_P D vwCl [(h, oV6 (.int 4) (.int 4) (.int 10) (.int 1) (.int 3) (.int 0) (.int 0) (.int 0) (.ref q_1) .null .null), (q_1, aC1 cy 8 (fun _ => 0)), (q_2, aC1 cy 8 (fun _ => 0))] H := hP
  have hD : va_D A [(h, oV6 (.int 4) (.int 4) (.int 10) (.int 1) (.int 3) (.int 0) (.int 0) (.int 0) (.ref q_1) .null .null), (q_1, aC1 cy 8 (fun _ => 0)), (q_2, aC1 cy 8 (fun _ => 0))] := hD
  refine q_putF (v := .ref q_2) (w' := [(h, oV6 (.int 4) (.int 4) (.int 10) (.int 1) (.int 3) (.int 0) (.int 0) (.int 0) (.ref q_1) (.ref q_2) .null), (q_1, aC1 cy 8 (fun _ => 0)), (q_2, aC1 cy 8 (fun _ => 0))]) (ty := (tyX6 9)) C hP hD hS 0 9 rfl rfl inX6 tyX6 tyX6_ok nmX6 (by decide) kF_RX6_40 rfl rfl rfl rfl rfl rfl (Nat.le_of_ble_eq_true rfl) rfl dX6_init_58 (fun H locs hP hD hS => ?_)
  refine lv_aload_n hx hb dX6_init_61 rfl (lv_at hl 0 rfl) ?_
  refine lv_bipush (v := 56) hx hb dX6_init_62 (by decide) ?_
  refine q_newa (a0 := (56, .inl (fun _ => 0))) (ty := .int) (N' := 56) C hP hD hS 1 rfl (fun _ h => h) kA_int rfl (fun _ => rfl) (by decide) (by decide) (by decide) (Nat.le_of_ble_eq_true rfl) (Nat.le_of_ble_eq_true rfl) dX6_init_64 (fun q_3 H hP hD hS => ?_)
  have hP : va_P D vwCl [(h, oV6 (.int 4) (.int 4) (.int 10) (.int 1) (.int 3) (.int 0) (.int 0) (.int 0) (.ref q_1) (.ref q_2) .null), (q_1, aC1 cy 8 (fun _ => 0)), (q_2, aC1 cy 8 (fun _ => 0)), (q_3, aC1 cy 56 (fun _ => 0))] H := hP
  have hD : va_D A [(h, oV6 (.int 4) (.int 4) (.int 10) (.int 1) (.int 3) (.int 0) (.int 0) (.int 0) (.ref q_1) (.ref q_2) .null), (q_1, aC1 cy 8 (fun _ => 0)), (q_2, aC1 cy 8 (fun _ => 0)), (q_3, aC1 cy 56 (fun _ => 0))] := hD
  refine q_putF (v := .ref q_3) (w' := [(h, oC6 4 4 10 1 3 0 0 0 q_1 q_2 q_3), (q_1, aC1 cy 8 (fun _ => 0)), (q_2, aC1 cy 8 (fun _ => 0)), (q_3, aC1 cy 56 (fun _ => 0))]) (ty := (tyX6 10)) C hP hD hS 0 10 rfl rfl inX6 tyX6 tyX6_ok nmX6 (by decide) kF_RX6_43 rfl rfl rfl rfl rfl rfl (Nat.le_of_ble_eq_true rfl) rfl dX6_init_66 (fun H locs hP hD hS => ?_)
  exact q_vret (rm := (Rm 1 20 3 72)) C hS (fun k => [q_1, q_2, q_3].getD k 0) trivial (q_subP hP [0, 1, 2, 3] rfl) (hD.sub [0, 1, 2, 3] (by decide) rfl) (Nat.le_of_ble_eq_true rfl) (Nat.le_of_ble_eq_true rfl) dX6_init_69
set_option maxHeartbeats 4000000 in
set_option maxRecDepth 100000 in
theorem c_Shelves (l : Launch) (D : va_G) (cy : Nat → ClassId) (h : Nat) (sz : Nat)  : MV l yX8_init cX8_init 1 (Rm 1 20 6 104) D cy [.ref h] sz [(h, oV8 .null .null .null .null .null (.int 0) (.int 0) .null)] (fun _ : Nat → Nat => True) (fun u : Nat → Nat => [(h, oC8 (u 0) (u 1) (u 2) (u 3) (u 4) 0 0 (u 5)), ((u 0), aC1 cy 8 (fun _ => 0)), ((u 1), aC1 cy 8 (fun _ => 0)), ((u 2), aC1 cy 8 (fun _ => 0)), ((u 3), aC1 cy 8 (fun _ => 0)), ((u 4), aC1 cy 64 (fun _ => 0)), ((u 5), aC1 cy 8 (fun _ => 0))]) := by
  refine MV.enter (by decide) (Nat.le_of_ble_eq_true rfl) ?_
  intro p e s m below meth c ls A hsz hAe C hP hD hS hl
  have C : Cx p s m _ meth c cX8_init 1 none RX8 "<init>" D cy A := C
  have hx := C.1
  have hb := C.2.1
  have hl : lv_has ls 1 [(0, .ref h)] := hl
  refine lv_aload_n hx hb dX8_init_0 rfl (lv_at hl 0 rfl) ?_
  refine q_obj C hl.1 kM_RX8_3 (Nat.le_of_ble_eq_true rfl) (lv_room12 (Nat.le_of_ble_eq_true rfl)) dX8_init_1 ?_ (Nat.le_of_ble_eq_true rfl) (Nat.le_of_ble_eq_true rfl)
  refine lv_aload_n hx hb dX8_init_4 rfl (lv_at hl 0 rfl) ?_
  refine lv_bipush (v := 8) hx hb dX8_init_5 (by decide) ?_
  refine q_newa (a0 := (8, .inl (fun _ => 0))) (ty := .int) (N' := 8) C hP hD hS 1 rfl (fun _ h => h) kA_int rfl (fun _ => rfl) (by decide) (by decide) (by decide) (Nat.le_of_ble_eq_true rfl) (Nat.le_of_ble_eq_true rfl) dX8_init_7 (fun q_1 H hP hD hS => ?_)
  have hP : va_P D vwCl [(h, oV8 .null .null .null .null .null (.int 0) (.int 0) .null), (q_1, aC1 cy 8 (fun _ => 0))] H := hP
  have hD : va_D A [(h, oV8 .null .null .null .null .null (.int 0) (.int 0) .null), (q_1, aC1 cy 8 (fun _ => 0))] := hD
  refine q_putF (v := .ref q_1) (w' := [(h, oV8 (.ref q_1) .null .null .null .null (.int 0) (.int 0) .null), (q_1, aC1 cy 8 (fun _ => 0))]) (ty := (tyX8 0)) C hP hD hS 0 0 rfl rfl inX8 tyX8 tyX8_ok nmX8 (by decide) kF_RX8_9 rfl rfl rfl rfl rfl rfl (Nat.le_of_ble_eq_true rfl) rfl dX8_init_9 (fun H locs hP hD hS => ?_)
  refine lv_aload_n hx hb dX8_init_12 rfl (lv_at hl 0 rfl) ?_
  refine lv_bipush (v := 8) hx hb dX8_init_13 (by decide) ?_
  refine q_newa (a0 := (8, .inl (fun _ => 0))) (ty := .int) (N' := 8) C hP hD hS 1 rfl (fun _ h => h) kA_int rfl (fun _ => rfl) (by decide) (by decide) (by decide) (Nat.le_of_ble_eq_true rfl) (Nat.le_of_ble_eq_true rfl) dX8_init_15 (fun q_2 H hP hD hS => ?_)
  have hP : va_P D vwCl [(h, oV8 (.ref q_1) .null .null .null .null (.int 0) (.int 0) .null), (q_1, aC1 cy 8 (fun _ => 0)), (q_2, aC1 cy 8 (fun _ => 0))] H := hP
  have hD : va_D A [(h, oV8 (.ref q_1) .null .null .null .null (.int 0) (.int 0) .null), (q_1, aC1 cy 8 (fun _ => 0)), (q_2, aC1 cy 8 (fun _ => 0))] := hD
  refine q_putF (v := .ref q_2) (w' := [(h, oV8 (.ref q_1) (.ref q_2) .null .null .null (.int 0) (.int 0) .null), (q_1, aC1 cy 8 (fun _ => 0)), (q_2, aC1 cy 8 (fun _ => 0))]) (ty := (tyX8 1)) C hP hD hS 0 1 rfl rfl inX8 tyX8 tyX8_ok nmX8 (by decide) kF_RX8_15 rfl rfl rfl rfl rfl rfl (Nat.le_of_ble_eq_true rfl) rfl dX8_init_17 (fun H locs hP hD hS => ?_)
  refine lv_aload_n hx hb dX8_init_20 rfl (lv_at hl 0 rfl) ?_
  refine lv_bipush (v := 8) hx hb dX8_init_21 (by decide) ?_
  refine q_newa (a0 := (8, .inl (fun _ => 0))) (ty := .int) (N' := 8) C hP hD hS 1 rfl (fun _ h => h) kA_int rfl (fun _ => rfl) (by decide) (by decide) (by decide) (Nat.le_of_ble_eq_true rfl) (Nat.le_of_ble_eq_true rfl) dX8_init_23 (fun q_3 H hP hD hS => ?_)
  have hP : va_P D vwCl [(h, oV8 (.ref q_1) (.ref q_2) .null .null .null (.int 0) (.int 0) .null), (q_1, aC1 cy 8 (fun _ => 0)), (q_2, aC1 cy 8 (fun _ => 0)), (q_3, aC1 cy 8 (fun _ => 0))] H := hP
  have hD : va_D A [(h, oV8 (.ref q_1) (.ref q_2) .null .null .null (.int 0) (.int 0) .null), (q_1, aC1 cy 8 (fun _ => 0)), (q_2, aC1 cy 8 (fun _ => 0)), (q_3, aC1 cy 8 (fun _ => 0))] := hD
  refine q_putF (v := .ref q_3) (w' := [(h, oV8 (.ref q_1) (.ref q_2) (.ref q_3) .null .null (.int 0) (.int 0) .null), (q_1, aC1 cy 8 (fun _ => 0)), (q_2, aC1 cy 8 (fun _ => 0)), (q_3, aC1 cy 8 (fun _ => 0))]) (ty := (tyX8 2)) C hP hD hS 0 2 rfl rfl inX8 tyX8 tyX8_ok nmX8 (by decide) kF_RX8_18 rfl rfl rfl rfl rfl rfl (Nat.le_of_ble_eq_true rfl) rfl dX8_init_25 (fun H locs hP hD hS => ?_)
  refine lv_aload_n hx hb dX8_init_28 rfl (lv_at hl 0 rfl) ?_
  refine lv_bipush (v := 8) hx hb dX8_init_29 (by decide) ?_
  refine q_newa (a0 := (8, .inl (fun _ => 0))) (ty := .int) (N' := 8) C hP hD hS 1 rfl (fun _ h => h) kA_int rfl (fun _ => rfl) (by decide) (by decide) (by decide) (Nat.le_of_ble_eq_true rfl) (Nat.le_of_ble_eq_true rfl) dX8_init_31 (fun q_4 H hP hD hS => ?_)
  have hP : va_P D vwCl [(h, oV8 (.ref q_1) (.ref q_2) (.ref q_3) .null .null (.int 0) (.int 0) .null), (q_1, aC1 cy 8 (fun _ => 0)), (q_2, aC1 cy 8 (fun _ => 0)), (q_3, aC1 cy 8 (fun _ => 0)), (q_4, aC1 cy 8 (fun _ => 0))] H := hP
  have hD : va_D A [(h, oV8 (.ref q_1) (.ref q_2) (.ref q_3) .null .null (.int 0) (.int 0) .null), (q_1, aC1 cy 8 (fun _ => 0)), (q_2, aC1 cy 8 (fun _ => 0)), (q_3, aC1 cy 8 (fun _ => 0)), (q_4, aC1 cy 8 (fun _ => 0))] := hD
  refine q_putF (v := .ref q_4) (w' := [(h, oV8 (.ref q_1) (.ref q_2) (.ref q_3) (.ref q_4) .null (.int 0) (.int 0) .null), (q_1, aC1 cy 8 (fun _ => 0)), (q_2, aC1 cy 8 (fun _ => 0)), (q_3, aC1 cy 8 (fun _ => 0)), (q_4, aC1 cy 8 (fun _ => 0))]) (ty := (tyX8 3)) C hP hD hS 0 3 rfl rfl inX8 tyX8 tyX8_ok nmX8 (by decide) kF_RX8_21 rfl rfl rfl rfl rfl rfl (Nat.le_of_ble_eq_true rfl) rfl dX8_init_33 (fun H locs hP hD hS => ?_)
  refine lv_aload_n hx hb dX8_init_36 rfl (lv_at hl 0 rfl) ?_
  refine lv_bipush (v := 64) hx hb dX8_init_37 (by decide) ?_
  refine q_newa (a0 := (64, .inl (fun _ => 0))) (ty := .int) (N' := 64) C hP hD hS 1 rfl (fun _ h => h) kA_int rfl (fun _ => rfl) (by decide) (by decide) (by decide) (Nat.le_of_ble_eq_true rfl) (Nat.le_of_ble_eq_true rfl) dX8_init_39 (fun q_5 H hP hD hS => ?_)
  have hP : va_P D vwCl [(h, oV8 (.ref q_1) (.ref q_2) (.ref q_3) (.ref q_4) .null (.int 0) (.int 0) .null), (q_1, aC1 cy 8 (fun _ => 0)), (q_2, aC1 cy 8 (fun _ => 0)), (q_3, aC1 cy 8 (fun _ => 0)), (q_4, aC1 cy 8 (fun _ => 0)), (q_5, aC1 cy 64 (fun _ => 0))] H := hP
  have hD : va_D A [(h, oV8 (.ref q_1) (.ref q_2) (.ref q_3) (.ref q_4) .null (.int 0) (.int 0) .null), (q_1, aC1 cy 8 (fun _ => 0)), (q_2, aC1 cy 8 (fun _ => 0)), (q_3, aC1 cy 8 (fun _ => 0)), (q_4, aC1 cy 8 (fun _ => 0)), (q_5, aC1 cy 64 (fun _ => 0))] := hD
  refine q_putF (v := .ref q_5) (w' := [(h, oV8 (.ref q_1) (.ref q_2) (.ref q_3) (.ref q_4) (.ref q_5) (.int 0) (.int 0) .null), (q_1, aC1 cy 8 (fun _ => 0)), (q_2, aC1 cy 8 (fun _ => 0)), (q_3, aC1 cy 8 (fun _ => 0)), (q_4, aC1 cy 8 (fun _ => 0)), (q_5, aC1 cy 64 (fun _ => 0))]) (ty := (tyX8 4)) C hP hD hS 0 4 rfl rfl inX8 tyX8 tyX8_ok nmX8 (by decide) kF_RX8_24 rfl rfl rfl rfl rfl rfl (Nat.le_of_ble_eq_true rfl) rfl dX8_init_41 (fun H locs hP hD hS => ?_)
  refine lv_aload_n hx hb dX8_init_44 rfl (lv_at hl 0 rfl) ?_
  refine lv_iconst (v := 0) hx hb dX8_init_45 (by decide) ?_
  refine q_put (v := .int 0) (w' := [(h, oV8 (.ref q_1) (.ref q_2) (.ref q_3) (.ref q_4) (.ref q_5) (.int 0) (.int 0) .null), (q_1, aC1 cy 8 (fun _ => 0)), (q_2, aC1 cy 8 (fun _ => 0)), (q_3, aC1 cy 8 (fun _ => 0)), (q_4, aC1 cy 8 (fun _ => 0)), (q_5, aC1 cy 64 (fun _ => 0))]) (ty := .int) C hP hD hS 0 5 rfl rfl inX8 tyX8 tyX8_ok nmX8 (by decide) kF_RX8_27 rfl rfl rfl rfl rfl (Nat.le_of_ble_eq_true rfl) rfl dX8_init_46 (fun H locs hP hD hS => ?_)
  refine lv_aload_n hx hb dX8_init_49 rfl (lv_at hl 0 rfl) ?_
  refine lv_iconst (v := 0) hx hb dX8_init_50 (by decide) ?_
  refine q_put (v := .int 0) (w' := [(h, oV8 (.ref q_1) (.ref q_2) (.ref q_3) (.ref q_4) (.ref q_5) (.int 0) (.int 0) .null), (q_1, aC1 cy 8 (fun _ => 0)), (q_2, aC1 cy 8 (fun _ => 0)), (q_3, aC1 cy 8 (fun _ => 0)), (q_4, aC1 cy 8 (fun _ => 0)), (q_5, aC1 cy 64 (fun _ => 0))]) (ty := .int) C hP hD hS 0 6 rfl rfl inX8 tyX8 tyX8_ok nmX8 (by decide) kF_RX8_31 rfl rfl rfl rfl rfl (Nat.le_of_ble_eq_true rfl) rfl dX8_init_51 (fun H locs hP hD hS => ?_)
  refine lv_aload_n hx hb dX8_init_54 rfl (lv_at hl 0 rfl) ?_
  refine lv_bipush (v := 8) hx hb dX8_init_55 (by decide) ?_
  refine q_newa (a0 := (8, .inl (fun _ => 0))) (ty := .int) (N' := 8) C hP hD hS 1 rfl (fun _ h => h) kA_int rfl (fun _ => rfl) (by decide) (by decide) (by decide) (Nat.le_of_ble_eq_true rfl) (Nat.le_of_ble_eq_true rfl) dX8_init_57 (fun q_6 H hP hD hS => ?_)
  have hP : va_P D vwCl [(h, oV8 (.ref q_1) (.ref q_2) (.ref q_3) (.ref q_4) (.ref q_5) (.int 0) (.int 0) .null), (q_1, aC1 cy 8 (fun _ => 0)), (q_2, aC1 cy 8 (fun _ => 0)), (q_3, aC1 cy 8 (fun _ => 0)), (q_4, aC1 cy 8 (fun _ => 0)), (q_5, aC1 cy 64 (fun _ => 0)), (q_6, aC1 cy 8 (fun _ => 0))] H := hP
  have hD : va_D A [(h, oV8 (.ref q_1) (.ref q_2) (.ref q_3) (.ref q_4) (.ref q_5) (.int 0) (.int 0) .null), (q_1, aC1 cy 8 (fun _ => 0)), (q_2, aC1 cy 8 (fun _ => 0)), (q_3, aC1 cy 8 (fun _ => 0)), (q_4, aC1 cy 8 (fun _ => 0)), (q_5, aC1 cy 64 (fun _ => 0)), (q_6, aC1 cy 8 (fun _ => 0))] := hD
  refine q_putF (v := .ref q_6) (w' := [(h, oC8 q_1 q_2 q_3 q_4 q_5 0 0 q_6), (q_1, aC1 cy 8 (fun _ => 0)), (q_2, aC1 cy 8 (fun _ => 0)), (q_3, aC1 cy 8 (fun _ => 0)), (q_4, aC1 cy 8 (fun _ => 0)), (q_5, aC1 cy 64 (fun _ => 0)), (q_6, aC1 cy 8 (fun _ => 0))]) (ty := (tyX8 7)) C hP hD hS 0 7 rfl rfl inX8 tyX8 tyX8_ok nmX8 (by decide) kF_RX8_34 rfl rfl rfl rfl rfl rfl (Nat.le_of_ble_eq_true rfl) rfl dX8_init_59 (fun H locs hP hD hS => ?_)
  exact q_vret (rm := (Rm 1 20 6 104)) C hS (fun k => [q_1, q_2, q_3, q_4, q_5, q_6].getD k 0) trivial (q_subP hP [0, 1, 2, 3, 4, 5, 6] rfl) (hD.sub [0, 1, 2, 3, 4, 5, 6] (by decide) rfl) (Nat.le_of_ble_eq_true rfl) (Nat.le_of_ble_eq_true rfl) dX8_init_62
set_option maxHeartbeats 4000000 in
set_option maxRecDepth 100000 in
theorem c_Life (l : Launch) (D : va_G) (cy : Nat → ClassId) (h : Nat) (sz : Nat)  : MV l yX3_init cX3_init 1 (Rm 1 20 4 160) D cy [.ref h] sz [(h, oV3 (.int 0) (.int 0) (.int 0) (.int 0) (.int 0) (.int 0) .null .null .null .null)] (fun _ : Nat → Nat => True) (fun u : Nat → Nat => [(h, oC3 0 0 0 0 0 0 (u 0) (u 1) (u 2) (u 3)), ((u 0), aC1 cy 40 (fun _ => 0)), ((u 1), aC1 cy 40 (fun _ => 0)), ((u 2), aC1 cy 40 (fun _ => 0)), ((u 3), aC1 cy 40 (fun _ => 0))]) := by
  refine MV.enter (by decide) (Nat.le_of_ble_eq_true rfl) ?_
  intro p e s m below meth c ls A hsz hAe C hP hD hS hl
  have C : Cx p s m _ meth c cX3_init 1 none RX3 "<init>" D cy A := C
  have hx := C.1
  have hb := C.2.1
  have hl : lv_has ls 1 [(0, .ref h)] := hl
  refine lv_aload_n hx hb dX3_init_0 rfl (lv_at hl 0 rfl) ?_
  refine q_obj C hl.1 kM_RX3_3 (Nat.le_of_ble_eq_true rfl) (lv_room12 (Nat.le_of_ble_eq_true rfl)) dX3_init_1 ?_ (Nat.le_of_ble_eq_true rfl) (Nat.le_of_ble_eq_true rfl)
  refine lv_aload_n hx hb dX3_init_4 rfl (lv_at hl 0 rfl) ?_
  refine lv_iconst (v := 0) hx hb dX3_init_5 (by decide) ?_
  refine q_put (v := .int 0) (w' := [(h, oV3 (.int 0) (.int 0) (.int 0) (.int 0) (.int 0) (.int 0) .null .null .null .null)]) (ty := .boolean) C hP hD hS 0 0 rfl rfl inX3 tyX3 tyX3_ok nmX3 (by decide) kF_RX3_9 rfl rfl rfl rfl rfl (Nat.le_of_ble_eq_true rfl) rfl dX3_init_6 (fun H locs hP hD hS => ?_)
  refine lv_aload_n hx hb dX3_init_9 rfl (lv_at hl 0 rfl) ?_
  refine lv_iconst (v := 0) hx hb dX3_init_10 (by decide) ?_
  refine q_put (v := .int 0) (w' := [(h, oV3 (.int 0) (.int 0) (.int 0) (.int 0) (.int 0) (.int 0) .null .null .null .null)]) (ty := .int) C hP hD hS 0 1 rfl rfl inX3 tyX3 tyX3_ok nmX3 (by decide) kF_RX3_15 rfl rfl rfl rfl rfl (Nat.le_of_ble_eq_true rfl) rfl dX3_init_11 (fun H locs hP hD hS => ?_)
  refine lv_aload_n hx hb dX3_init_14 rfl (lv_at hl 0 rfl) ?_
  refine lv_iconst (v := 0) hx hb dX3_init_15 (by decide) ?_
  refine q_put (v := .int 0) (w' := [(h, oV3 (.int 0) (.int 0) (.int 0) (.int 0) (.int 0) (.int 0) .null .null .null .null)]) (ty := .int) C hP hD hS 0 2 rfl rfl inX3 tyX3 tyX3_ok nmX3 (by decide) kF_RX3_19 rfl rfl rfl rfl rfl (Nat.le_of_ble_eq_true rfl) rfl dX3_init_16 (fun H locs hP hD hS => ?_)
  refine lv_aload_n hx hb dX3_init_19 rfl (lv_at hl 0 rfl) ?_
  refine lv_iconst (v := 0) hx hb dX3_init_20 (by decide) ?_
  refine q_put (v := .int 0) (w' := [(h, oV3 (.int 0) (.int 0) (.int 0) (.int 0) (.int 0) (.int 0) .null .null .null .null)]) (ty := .int) C hP hD hS 0 3 rfl rfl inX3 tyX3 tyX3_ok nmX3 (by decide) kF_RX3_22 rfl rfl rfl rfl rfl (Nat.le_of_ble_eq_true rfl) rfl dX3_init_21 (fun H locs hP hD hS => ?_)
  refine lv_aload_n hx hb dX3_init_24 rfl (lv_at hl 0 rfl) ?_
  refine lv_iconst (v := 0) hx hb dX3_init_25 (by decide) ?_
  refine q_put (v := .int 0) (w' := [(h, oV3 (.int 0) (.int 0) (.int 0) (.int 0) (.int 0) (.int 0) .null .null .null .null)]) (ty := .int) C hP hD hS 0 4 rfl rfl inX3 tyX3 tyX3_ok nmX3 (by decide) kF_RX3_25 rfl rfl rfl rfl rfl (Nat.le_of_ble_eq_true rfl) rfl dX3_init_26 (fun H locs hP hD hS => ?_)
  refine lv_aload_n hx hb dX3_init_29 rfl (lv_at hl 0 rfl) ?_
  refine lv_iconst (v := 0) hx hb dX3_init_30 (by decide) ?_
  refine q_put (v := .int 0) (w' := [(h, oV3 (.int 0) (.int 0) (.int 0) (.int 0) (.int 0) (.int 0) .null .null .null .null)]) (ty := .int) C hP hD hS 0 5 rfl rfl inX3 tyX3 tyX3_ok nmX3 (by decide) kF_RX3_28 rfl rfl rfl rfl rfl (Nat.le_of_ble_eq_true rfl) rfl dX3_init_31 (fun H locs hP hD hS => ?_)
  refine lv_aload_n hx hb dX3_init_34 rfl (lv_at hl 0 rfl) ?_
  refine lv_bipush (v := 40) hx hb dX3_init_35 (by decide) ?_
  refine q_newa (a0 := (40, .inl (fun _ => 0))) (ty := .int) (N' := 40) C hP hD hS 1 rfl (fun _ h => h) kA_int rfl (fun _ => rfl) (by decide) (by decide) (by decide) (Nat.le_of_ble_eq_true rfl) (Nat.le_of_ble_eq_true rfl) dX3_init_37 (fun q_1 H hP hD hS => ?_)
  have hP : va_P D vwCl [(h, oV3 (.int 0) (.int 0) (.int 0) (.int 0) (.int 0) (.int 0) .null .null .null .null), (q_1, aC1 cy 40 (fun _ => 0))] H := hP
  have hD : va_D A [(h, oV3 (.int 0) (.int 0) (.int 0) (.int 0) (.int 0) (.int 0) .null .null .null .null), (q_1, aC1 cy 40 (fun _ => 0))] := hD
  refine q_putF (v := .ref q_1) (w' := [(h, oV3 (.int 0) (.int 0) (.int 0) (.int 0) (.int 0) (.int 0) (.ref q_1) .null .null .null), (q_1, aC1 cy 40 (fun _ => 0))]) (ty := (tyX3 6)) C hP hD hS 0 6 rfl rfl inX3 tyX3 tyX3_ok nmX3 (by decide) kF_RX3_31 rfl rfl rfl rfl rfl rfl (Nat.le_of_ble_eq_true rfl) rfl dX3_init_39 (fun H locs hP hD hS => ?_)
  refine lv_aload_n hx hb dX3_init_42 rfl (lv_at hl 0 rfl) ?_
  refine lv_bipush (v := 40) hx hb dX3_init_43 (by decide) ?_
  refine q_newa (a0 := (40, .inl (fun _ => 0))) (ty := .int) (N' := 40) C hP hD hS 1 rfl (fun _ h => h) kA_int rfl (fun _ => rfl) (by decide) (by decide) (by decide) (Nat.le_of_ble_eq_true rfl) (Nat.le_of_ble_eq_true rfl) dX3_init_45 (fun q_2 H hP hD hS => ?_)
  have hP : va_P D vwCl [(h, oV3 (.int 0) (.int 0) (.int 0) (.int 0) (.int 0) (.int 0) (.ref q_1) .null .null .null), (q_1, aC1 cy 40 (fun _ => 0)), (q_2, aC1 cy 40 (fun _ => 0))] H := hP
  have hD : va_D A [(h, oV3 (.int 0) (.int 0) (.int 0) (.int 0) (.int 0) (.int 0) (.ref q_1) .null .null .null), (q_1, aC1 cy 40 (fun _ => 0)), (q_2, aC1 cy 40 (fun _ => 0))] := hD
  refine q_putF (v := .ref q_2) (w' := [(h, oV3 (.int 0) (.int 0) (.int 0) (.int 0) (.int 0) (.int 0) (.ref q_1) (.ref q_2) .null .null), (q_1, aC1 cy 40 (fun _ => 0)), (q_2, aC1 cy 40 (fun _ => 0))]) (ty := (tyX3 7)) C hP hD hS 0 7 rfl rfl inX3 tyX3 tyX3_ok nmX3 (by decide) kF_RX3_35 rfl rfl rfl rfl rfl rfl (Nat.le_of_ble_eq_true rfl) rfl dX3_init_47 (fun H locs hP hD hS => ?_)
  refine lv_aload_n hx hb dX3_init_50 rfl (lv_at hl 0 rfl) ?_
  refine lv_bipush (v := 40) hx hb dX3_init_51 (by decide) ?_
  refine q_newa (a0 := (40, .inl (fun _ => 0))) (ty := .int) (N' := 40) C hP hD hS 1 rfl (fun _ h => h) kA_int rfl (fun _ => rfl) (by decide) (by decide) (by decide) (Nat.le_of_ble_eq_true rfl) (Nat.le_of_ble_eq_true rfl) dX3_init_53 (fun q_3 H hP hD hS => ?_)
  have hP : va_P D vwCl [(h, oV3 (.int 0) (.int 0) (.int 0) (.int 0) (.int 0) (.int 0) (.ref q_1) (.ref q_2) .null .null), (q_1, aC1 cy 40 (fun _ => 0)), (q_2, aC1 cy 40 (fun _ => 0)), (q_3, aC1 cy 40 (fun _ => 0))] H := hP
  have hD : va_D A [(h, oV3 (.int 0) (.int 0) (.int 0) (.int 0) (.int 0) (.int 0) (.ref q_1) (.ref q_2) .null .null), (q_1, aC1 cy 40 (fun _ => 0)), (q_2, aC1 cy 40 (fun _ => 0)), (q_3, aC1 cy 40 (fun _ => 0))] := hD
  refine q_putF (v := .ref q_3) (w' := [(h, oV3 (.int 0) (.int 0) (.int 0) (.int 0) (.int 0) (.int 0) (.ref q_1) (.ref q_2) (.ref q_3) .null), (q_1, aC1 cy 40 (fun _ => 0)), (q_2, aC1 cy 40 (fun _ => 0)), (q_3, aC1 cy 40 (fun _ => 0))]) (ty := (tyX3 8)) C hP hD hS 0 8 rfl rfl inX3 tyX3 tyX3_ok nmX3 (by decide) kF_RX3_38 rfl rfl rfl rfl rfl rfl (Nat.le_of_ble_eq_true rfl) rfl dX3_init_55 (fun H locs hP hD hS => ?_)
  refine lv_aload_n hx hb dX3_init_58 rfl (lv_at hl 0 rfl) ?_
  refine lv_bipush (v := 40) hx hb dX3_init_59 (by decide) ?_
  refine q_newa (a0 := (40, .inl (fun _ => 0))) (ty := .int) (N' := 40) C hP hD hS 1 rfl (fun _ h => h) kA_int rfl (fun _ => rfl) (by decide) (by decide) (by decide) (Nat.le_of_ble_eq_true rfl) (Nat.le_of_ble_eq_true rfl) dX3_init_61 (fun q_4 H hP hD hS => ?_)
  have hP : va_P D vwCl [(h, oV3 (.int 0) (.int 0) (.int 0) (.int 0) (.int 0) (.int 0) (.ref q_1) (.ref q_2) (.ref q_3) .null), (q_1, aC1 cy 40 (fun _ => 0)), (q_2, aC1 cy 40 (fun _ => 0)), (q_3, aC1 cy 40 (fun _ => 0)), (q_4, aC1 cy 40 (fun _ => 0))] H := hP
  have hD : va_D A [(h, oV3 (.int 0) (.int 0) (.int 0) (.int 0) (.int 0) (.int 0) (.ref q_1) (.ref q_2) (.ref q_3) .null), (q_1, aC1 cy 40 (fun _ => 0)), (q_2, aC1 cy 40 (fun _ => 0)), (q_3, aC1 cy 40 (fun _ => 0)), (q_4, aC1 cy 40 (fun _ => 0))] := hD
  refine q_putF (v := .ref q_4) (w' := [(h, oC3 0 0 0 0 0 0 q_1 q_2 q_3 q_4), (q_1, aC1 cy 40 (fun _ => 0)), (q_2, aC1 cy 40 (fun _ => 0)), (q_3, aC1 cy 40 (fun _ => 0)), (q_4, aC1 cy 40 (fun _ => 0))]) (ty := (tyX3 9)) C hP hD hS 0 9 rfl rfl inX3 tyX3 tyX3_ok nmX3 (by decide) kF_RX3_41 rfl rfl rfl rfl rfl rfl (Nat.le_of_ble_eq_true rfl) rfl dX3_init_63 (fun H locs hP hD hS => ?_)
  exact q_vret (rm := (Rm 1 20 4 160)) C hS (fun k => [q_1, q_2, q_3, q_4].getD k 0) trivial (q_subP hP [0, 1, 2, 3, 4] rfl) (hD.sub [0, 1, 2, 3, 4] (by decide) rfl) (Nat.le_of_ble_eq_true rfl) (Nat.le_of_ble_eq_true rfl) dX3_init_66
set_option maxHeartbeats 4000000 in
set_option maxRecDepth 100000 in
theorem c_Sent (l : Launch) (D : va_G) (cy : Nat → ClassId) (h : Nat) (sz : Nat)  : MV l yX7_init cX7_init 1 (Rm 1 20 4 160) D cy [.ref h] sz [(h, oV7 (.int 0) (.int 0) (.int 0) .null .null .null .null)] (fun _ : Nat → Nat => True) (fun u : Nat → Nat => [(h, oC7 0 0 0 (u 0) (u 1) (u 2) (u 3)), ((u 0), aC1 cy 40 (fun _ => 0)), ((u 1), aC1 cy 40 (fun _ => 0)), ((u 2), aC1 cy 40 (fun _ => 0)), ((u 3), aC1 cy 40 (fun _ => 0))]) := by
  refine MV.enter (by decide) (Nat.le_of_ble_eq_true rfl) ?_
  intro p e s m below meth c ls A hsz hAe C hP hD hS hl
  have C : Cx p s m _ meth c cX7_init 1 none RX7 "<init>" D cy A := C
  have hx := C.1
  have hb := C.2.1
  have hl : lv_has ls 1 [(0, .ref h)] := hl
  refine lv_aload_n hx hb dX7_init_0 rfl (lv_at hl 0 rfl) ?_
  refine q_obj C hl.1 kM_RX7_3 (Nat.le_of_ble_eq_true rfl) (lv_room12 (Nat.le_of_ble_eq_true rfl)) dX7_init_1 ?_ (Nat.le_of_ble_eq_true rfl) (Nat.le_of_ble_eq_true rfl)
  refine lv_aload_n hx hb dX7_init_4 rfl (lv_at hl 0 rfl) ?_
  refine lv_iconst (v := 0) hx hb dX7_init_5 (by decide) ?_
  refine q_put (v := .int 0) (w' := [(h, oV7 (.int 0) (.int 0) (.int 0) .null .null .null .null)]) (ty := .boolean) C hP hD hS 0 0 rfl rfl inX7 tyX7 tyX7_ok nmX7 (by decide) kF_RX7_9 rfl rfl rfl rfl rfl (Nat.le_of_ble_eq_true rfl) rfl dX7_init_6 (fun H locs hP hD hS => ?_)
  refine lv_aload_n hx hb dX7_init_9 rfl (lv_at hl 0 rfl) ?_
  refine lv_iconst (v := 0) hx hb dX7_init_10 (by decide) ?_
  refine q_put (v := .int 0) (w' := [(h, oV7 (.int 0) (.int 0) (.int 0) .null .null .null .null)]) (ty := .int) C hP hD hS 0 1 rfl rfl inX7 tyX7 tyX7_ok nmX7 (by decide) kF_RX7_15 rfl rfl rfl rfl rfl (Nat.le_of_ble_eq_true rfl) rfl dX7_init_11 (fun H locs hP hD hS => ?_)
  refine lv_aload_n hx hb dX7_init_14 rfl (lv_at hl 0 rfl) ?_
  refine lv_iconst (v := 0) hx hb dX7_init_15 (by decide) ?_
  refine q_put (v := .int 0) (w' := [(h, oV7 (.int 0) (.int 0) (.int 0) .null .null .null .null)]) (ty := .int) C hP hD hS 0 2 rfl rfl inX7 tyX7 tyX7_ok nmX7 (by decide) kF_RX7_19 rfl rfl rfl rfl rfl (Nat.le_of_ble_eq_true rfl) rfl dX7_init_16 (fun H locs hP hD hS => ?_)
  refine lv_aload_n hx hb dX7_init_19 rfl (lv_at hl 0 rfl) ?_
  refine lv_bipush (v := 40) hx hb dX7_init_20 (by decide) ?_
  refine q_newa (a0 := (40, .inl (fun _ => 0))) (ty := .int) (N' := 40) C hP hD hS 1 rfl (fun _ h => h) kA_int rfl (fun _ => rfl) (by decide) (by decide) (by decide) (Nat.le_of_ble_eq_true rfl) (Nat.le_of_ble_eq_true rfl) dX7_init_22 (fun q_1 H hP hD hS => ?_)
  have hP : va_P D vwCl [(h, oV7 (.int 0) (.int 0) (.int 0) .null .null .null .null), (q_1, aC1 cy 40 (fun _ => 0))] H := hP
  have hD : va_D A [(h, oV7 (.int 0) (.int 0) (.int 0) .null .null .null .null), (q_1, aC1 cy 40 (fun _ => 0))] := hD
  refine q_putF (v := .ref q_1) (w' := [(h, oV7 (.int 0) (.int 0) (.int 0) (.ref q_1) .null .null .null), (q_1, aC1 cy 40 (fun _ => 0))]) (ty := (tyX7 3)) C hP hD hS 0 3 rfl rfl inX7 tyX7 tyX7_ok nmX7 (by decide) kF_RX7_22 rfl rfl rfl rfl rfl rfl (Nat.le_of_ble_eq_true rfl) rfl dX7_init_24 (fun H locs hP hD hS => ?_)
  refine lv_aload_n hx hb dX7_init_27 rfl (lv_at hl 0 rfl) ?_
  refine lv_bipush (v := 40) hx hb dX7_init_28 (by decide) ?_
  refine q_newa (a0 := (40, .inl (fun _ => 0))) (ty := .int) (N' := 40) C hP hD hS 1 rfl (fun _ h => h) kA_int rfl (fun _ => rfl) (by decide) (by decide) (by decide) (Nat.le_of_ble_eq_true rfl) (Nat.le_of_ble_eq_true rfl) dX7_init_30 (fun q_2 H hP hD hS => ?_)
  have hP : va_P D vwCl [(h, oV7 (.int 0) (.int 0) (.int 0) (.ref q_1) .null .null .null), (q_1, aC1 cy 40 (fun _ => 0)), (q_2, aC1 cy 40 (fun _ => 0))] H := hP
  have hD : va_D A [(h, oV7 (.int 0) (.int 0) (.int 0) (.ref q_1) .null .null .null), (q_1, aC1 cy 40 (fun _ => 0)), (q_2, aC1 cy 40 (fun _ => 0))] := hD
  refine q_putF (v := .ref q_2) (w' := [(h, oV7 (.int 0) (.int 0) (.int 0) (.ref q_1) (.ref q_2) .null .null), (q_1, aC1 cy 40 (fun _ => 0)), (q_2, aC1 cy 40 (fun _ => 0))]) (ty := (tyX7 4)) C hP hD hS 0 4 rfl rfl inX7 tyX7 tyX7_ok nmX7 (by decide) kF_RX7_26 rfl rfl rfl rfl rfl rfl (Nat.le_of_ble_eq_true rfl) rfl dX7_init_32 (fun H locs hP hD hS => ?_)
  refine lv_aload_n hx hb dX7_init_35 rfl (lv_at hl 0 rfl) ?_
  refine lv_bipush (v := 40) hx hb dX7_init_36 (by decide) ?_
  refine q_newa (a0 := (40, .inl (fun _ => 0))) (ty := .int) (N' := 40) C hP hD hS 1 rfl (fun _ h => h) kA_int rfl (fun _ => rfl) (by decide) (by decide) (by decide) (Nat.le_of_ble_eq_true rfl) (Nat.le_of_ble_eq_true rfl) dX7_init_38 (fun q_3 H hP hD hS => ?_)
  have hP : va_P D vwCl [(h, oV7 (.int 0) (.int 0) (.int 0) (.ref q_1) (.ref q_2) .null .null), (q_1, aC1 cy 40 (fun _ => 0)), (q_2, aC1 cy 40 (fun _ => 0)), (q_3, aC1 cy 40 (fun _ => 0))] H := hP
  have hD : va_D A [(h, oV7 (.int 0) (.int 0) (.int 0) (.ref q_1) (.ref q_2) .null .null), (q_1, aC1 cy 40 (fun _ => 0)), (q_2, aC1 cy 40 (fun _ => 0)), (q_3, aC1 cy 40 (fun _ => 0))] := hD
  refine q_putF (v := .ref q_3) (w' := [(h, oV7 (.int 0) (.int 0) (.int 0) (.ref q_1) (.ref q_2) (.ref q_3) .null), (q_1, aC1 cy 40 (fun _ => 0)), (q_2, aC1 cy 40 (fun _ => 0)), (q_3, aC1 cy 40 (fun _ => 0))]) (ty := (tyX7 5)) C hP hD hS 0 5 rfl rfl inX7 tyX7 tyX7_ok nmX7 (by decide) kF_RX7_29 rfl rfl rfl rfl rfl rfl (Nat.le_of_ble_eq_true rfl) rfl dX7_init_40 (fun H locs hP hD hS => ?_)
  refine lv_aload_n hx hb dX7_init_43 rfl (lv_at hl 0 rfl) ?_
  refine lv_bipush (v := 40) hx hb dX7_init_44 (by decide) ?_
  refine q_newa (a0 := (40, .inl (fun _ => 0))) (ty := .int) (N' := 40) C hP hD hS 1 rfl (fun _ h => h) kA_int rfl (fun _ => rfl) (by decide) (by decide) (by decide) (Nat.le_of_ble_eq_true rfl) (Nat.le_of_ble_eq_true rfl) dX7_init_46 (fun q_4 H hP hD hS => ?_)
  have hP : va_P D vwCl [(h, oV7 (.int 0) (.int 0) (.int 0) (.ref q_1) (.ref q_2) (.ref q_3) .null), (q_1, aC1 cy 40 (fun _ => 0)), (q_2, aC1 cy 40 (fun _ => 0)), (q_3, aC1 cy 40 (fun _ => 0)), (q_4, aC1 cy 40 (fun _ => 0))] H := hP
  have hD : va_D A [(h, oV7 (.int 0) (.int 0) (.int 0) (.ref q_1) (.ref q_2) (.ref q_3) .null), (q_1, aC1 cy 40 (fun _ => 0)), (q_2, aC1 cy 40 (fun _ => 0)), (q_3, aC1 cy 40 (fun _ => 0)), (q_4, aC1 cy 40 (fun _ => 0))] := hD
  refine q_putF (v := .ref q_4) (w' := [(h, oC7 0 0 0 q_1 q_2 q_3 q_4), (q_1, aC1 cy 40 (fun _ => 0)), (q_2, aC1 cy 40 (fun _ => 0)), (q_3, aC1 cy 40 (fun _ => 0)), (q_4, aC1 cy 40 (fun _ => 0))]) (ty := (tyX7 6)) C hP hD hS 0 6 rfl rfl inX7 tyX7 tyX7_ok nmX7 (by decide) kF_RX7_32 rfl rfl rfl rfl rfl rfl (Nat.le_of_ble_eq_true rfl) rfl dX7_init_48 (fun H locs hP hD hS => ?_)
  exact q_vret (rm := (Rm 1 20 4 160)) C hS (fun k => [q_1, q_2, q_3, q_4].getD k 0) trivial (q_subP hP [0, 1, 2, 3, 4] rfl) (hD.sub [0, 1, 2, 3, 4] (by decide) rfl) (Nat.le_of_ble_eq_true rfl) (Nat.le_of_ble_eq_true rfl) dX7_init_51
set_option maxHeartbeats 4000000 in
set_option maxRecDepth 100000 in
theorem c_Fore (l : Launch) (D : va_G) (cy : Nat → ClassId) (h : Nat) (sz : Nat)  : MV l yX0_init cX0_init 1 (Rm 1 20 6 111) D cy [.ref h] sz [(h, oV0 (.int 0) (.int 0) (.int 0) .null .null .null .null .null (.int 0) .null (.int 0) (.int 0) (.int 0) (.int 0) (.int 0) (.int 0))] (fun _ : Nat → Nat => True) (fun u : Nat → Nat => [(h, oC0 0 0 (-1) (u 0) (u 1) (u 2) (u 3) (u 4) 0 (u 5) 0 0 1 1 0 0), ((u 0), aC1 cy 8 (fun _ => 0)), ((u 1), aC1 cy 3 (fun _ => 0)), ((u 2), aC1 cy 3 (fun _ => 0)), ((u 3), aC1 cy 8 (fun _ => 0)), ((u 4), aC1 cy 8 (fun _ => 0)), ((u 5), aC1 cy 81 (fun _ => 0))]) := by
  refine MV.enter (by decide) (Nat.le_of_ble_eq_true rfl) ?_
  intro p e s m below meth c ls A hsz hAe C hP hD hS hl
  have C : Cx p s m _ meth c cX0_init 1 none RX0 "<init>" D cy A := C
  have hx := C.1
  have hb := C.2.1
  have hl : lv_has ls 1 [(0, .ref h)] := hl
  refine lv_aload_n hx hb dX0_init_0 rfl (lv_at hl 0 rfl) ?_
  refine q_obj C hl.1 kM_RX0_3 (Nat.le_of_ble_eq_true rfl) (lv_room12 (Nat.le_of_ble_eq_true rfl)) dX0_init_1 ?_ (Nat.le_of_ble_eq_true rfl) (Nat.le_of_ble_eq_true rfl)
  refine lv_aload_n hx hb dX0_init_4 rfl (lv_at hl 0 rfl) ?_
  refine lv_iconst (v := 0) hx hb dX0_init_5 (by decide) ?_
  refine q_put (v := .int 0) (w' := [(h, oV0 (.int 0) (.int 0) (.int 0) .null .null .null .null .null (.int 0) .null (.int 0) (.int 0) (.int 0) (.int 0) (.int 0) (.int 0))]) (ty := .int) C hP hD hS 0 0 rfl rfl inX0 tyX0 tyX0_ok nmX0 (by decide) kF_RX0_9 rfl rfl rfl rfl rfl (Nat.le_of_ble_eq_true rfl) rfl dX0_init_6 (fun H locs hP hD hS => ?_)
  refine lv_aload_n hx hb dX0_init_9 rfl (lv_at hl 0 rfl) ?_
  refine lv_iconst (v := 0) hx hb dX0_init_10 (by decide) ?_
  refine q_put (v := .int 0) (w' := [(h, oV0 (.int 0) (.int 0) (.int 0) .null .null .null .null .null (.int 0) .null (.int 0) (.int 0) (.int 0) (.int 0) (.int 0) (.int 0))]) (ty := .int) C hP hD hS 0 1 rfl rfl inX0 tyX0 tyX0_ok nmX0 (by decide) kF_RX0_15 rfl rfl rfl rfl rfl (Nat.le_of_ble_eq_true rfl) rfl dX0_init_11 (fun H locs hP hD hS => ?_)
  refine lv_aload_n hx hb dX0_init_14 rfl (lv_at hl 0 rfl) ?_
  refine lv_iconst (v := (-1)) hx hb dX0_init_15 (by decide) ?_
  refine q_put (v := .int (-1)) (w' := [(h, oV0 (.int 0) (.int 0) (.int (-1)) .null .null .null .null .null (.int 0) .null (.int 0) (.int 0) (.int 0) (.int 0) (.int 0) (.int 0))]) (ty := .int) C hP hD hS 0 2 rfl rfl inX0 tyX0 tyX0_ok nmX0 (by decide) kF_RX0_18 rfl rfl rfl rfl rfl (Nat.le_of_ble_eq_true rfl) rfl dX0_init_16 (fun H locs hP hD hS => ?_)
  refine lv_aload_n hx hb dX0_init_19 rfl (lv_at hl 0 rfl) ?_
  refine lv_bipush (v := 8) hx hb dX0_init_20 (by decide) ?_
  refine q_newa (a0 := (8, .inl (fun _ => 0))) (ty := .int) (N' := 8) C hP hD hS 1 rfl (fun _ h => h) kA_int rfl (fun _ => rfl) (by decide) (by decide) (by decide) (Nat.le_of_ble_eq_true rfl) (Nat.le_of_ble_eq_true rfl) dX0_init_22 (fun q_1 H hP hD hS => ?_)
  have hP : va_P D vwCl [(h, oV0 (.int 0) (.int 0) (.int (-1)) .null .null .null .null .null (.int 0) .null (.int 0) (.int 0) (.int 0) (.int 0) (.int 0) (.int 0)), (q_1, aC1 cy 8 (fun _ => 0))] H := hP
  have hD : va_D A [(h, oV0 (.int 0) (.int 0) (.int (-1)) .null .null .null .null .null (.int 0) .null (.int 0) (.int 0) (.int 0) (.int 0) (.int 0) (.int 0)), (q_1, aC1 cy 8 (fun _ => 0))] := hD
  refine q_putF (v := .ref q_1) (w' := [(h, oV0 (.int 0) (.int 0) (.int (-1)) (.ref q_1) .null .null .null .null (.int 0) .null (.int 0) (.int 0) (.int 0) (.int 0) (.int 0) (.int 0)), (q_1, aC1 cy 8 (fun _ => 0))]) (ty := (tyX0 3)) C hP hD hS 0 3 rfl rfl inX0 tyX0 tyX0_ok nmX0 (by decide) kF_RX0_21 rfl rfl rfl rfl rfl rfl (Nat.le_of_ble_eq_true rfl) rfl dX0_init_24 (fun H locs hP hD hS => ?_)
  refine lv_aload_n hx hb dX0_init_27 rfl (lv_at hl 0 rfl) ?_
  refine lv_iconst (v := 3) hx hb dX0_init_28 (by decide) ?_
  refine q_newa (a0 := (3, .inl (fun _ => 0))) (ty := .int) (N' := 3) C hP hD hS 1 rfl (fun _ h => h) kA_int rfl (fun _ => rfl) (by decide) (by decide) (by decide) (Nat.le_of_ble_eq_true rfl) (Nat.le_of_ble_eq_true rfl) dX0_init_29 (fun q_2 H hP hD hS => ?_)
  have hP : va_P D vwCl [(h, oV0 (.int 0) (.int 0) (.int (-1)) (.ref q_1) .null .null .null .null (.int 0) .null (.int 0) (.int 0) (.int 0) (.int 0) (.int 0) (.int 0)), (q_1, aC1 cy 8 (fun _ => 0)), (q_2, aC1 cy 3 (fun _ => 0))] H := hP
  have hD : va_D A [(h, oV0 (.int 0) (.int 0) (.int (-1)) (.ref q_1) .null .null .null .null (.int 0) .null (.int 0) (.int 0) (.int 0) (.int 0) (.int 0) (.int 0)), (q_1, aC1 cy 8 (fun _ => 0)), (q_2, aC1 cy 3 (fun _ => 0))] := hD
  refine q_putF (v := .ref q_2) (w' := [(h, oV0 (.int 0) (.int 0) (.int (-1)) (.ref q_1) (.ref q_2) .null .null .null (.int 0) .null (.int 0) (.int 0) (.int 0) (.int 0) (.int 0) (.int 0)), (q_1, aC1 cy 8 (fun _ => 0)), (q_2, aC1 cy 3 (fun _ => 0))]) (ty := (tyX0 4)) C hP hD hS 0 4 rfl rfl inX0 tyX0 tyX0_ok nmX0 (by decide) kF_RX0_25 rfl rfl rfl rfl rfl rfl (Nat.le_of_ble_eq_true rfl) rfl dX0_init_31 (fun H locs hP hD hS => ?_)
  refine lv_aload_n hx hb dX0_init_34 rfl (lv_at hl 0 rfl) ?_
  refine lv_iconst (v := 3) hx hb dX0_init_35 (by decide) ?_
  refine q_newa (a0 := (3, .inl (fun _ => 0))) (ty := .int) (N' := 3) C hP hD hS 1 rfl (fun _ h => h) kA_int rfl (fun _ => rfl) (by decide) (by decide) (by decide) (Nat.le_of_ble_eq_true rfl) (Nat.le_of_ble_eq_true rfl) dX0_init_36 (fun q_3 H hP hD hS => ?_)
  have hP : va_P D vwCl [(h, oV0 (.int 0) (.int 0) (.int (-1)) (.ref q_1) (.ref q_2) .null .null .null (.int 0) .null (.int 0) (.int 0) (.int 0) (.int 0) (.int 0) (.int 0)), (q_1, aC1 cy 8 (fun _ => 0)), (q_2, aC1 cy 3 (fun _ => 0)), (q_3, aC1 cy 3 (fun _ => 0))] H := hP
  have hD : va_D A [(h, oV0 (.int 0) (.int 0) (.int (-1)) (.ref q_1) (.ref q_2) .null .null .null (.int 0) .null (.int 0) (.int 0) (.int 0) (.int 0) (.int 0) (.int 0)), (q_1, aC1 cy 8 (fun _ => 0)), (q_2, aC1 cy 3 (fun _ => 0)), (q_3, aC1 cy 3 (fun _ => 0))] := hD
  refine q_putF (v := .ref q_3) (w' := [(h, oV0 (.int 0) (.int 0) (.int (-1)) (.ref q_1) (.ref q_2) (.ref q_3) .null .null (.int 0) .null (.int 0) (.int 0) (.int 0) (.int 0) (.int 0) (.int 0)), (q_1, aC1 cy 8 (fun _ => 0)), (q_2, aC1 cy 3 (fun _ => 0)), (q_3, aC1 cy 3 (fun _ => 0))]) (ty := (tyX0 5)) C hP hD hS 0 5 rfl rfl inX0 tyX0 tyX0_ok nmX0 (by decide) kF_RX0_28 rfl rfl rfl rfl rfl rfl (Nat.le_of_ble_eq_true rfl) rfl dX0_init_38 (fun H locs hP hD hS => ?_)
  refine lv_aload_n hx hb dX0_init_41 rfl (lv_at hl 0 rfl) ?_
  refine lv_bipush (v := 8) hx hb dX0_init_42 (by decide) ?_
  refine q_newa (a0 := (8, .inl (fun _ => 0))) (ty := .int) (N' := 8) C hP hD hS 1 rfl (fun _ h => h) kA_int rfl (fun _ => rfl) (by decide) (by decide) (by decide) (Nat.le_of_ble_eq_true rfl) (Nat.le_of_ble_eq_true rfl) dX0_init_44 (fun q_4 H hP hD hS => ?_)
  have hP : va_P D vwCl [(h, oV0 (.int 0) (.int 0) (.int (-1)) (.ref q_1) (.ref q_2) (.ref q_3) .null .null (.int 0) .null (.int 0) (.int 0) (.int 0) (.int 0) (.int 0) (.int 0)), (q_1, aC1 cy 8 (fun _ => 0)), (q_2, aC1 cy 3 (fun _ => 0)), (q_3, aC1 cy 3 (fun _ => 0)), (q_4, aC1 cy 8 (fun _ => 0))] H := hP
  have hD : va_D A [(h, oV0 (.int 0) (.int 0) (.int (-1)) (.ref q_1) (.ref q_2) (.ref q_3) .null .null (.int 0) .null (.int 0) (.int 0) (.int 0) (.int 0) (.int 0) (.int 0)), (q_1, aC1 cy 8 (fun _ => 0)), (q_2, aC1 cy 3 (fun _ => 0)), (q_3, aC1 cy 3 (fun _ => 0)), (q_4, aC1 cy 8 (fun _ => 0))] := hD
  refine q_putF (v := .ref q_4) (w' := [(h, oV0 (.int 0) (.int 0) (.int (-1)) (.ref q_1) (.ref q_2) (.ref q_3) (.ref q_4) .null (.int 0) .null (.int 0) (.int 0) (.int 0) (.int 0) (.int 0) (.int 0)), (q_1, aC1 cy 8 (fun _ => 0)), (q_2, aC1 cy 3 (fun _ => 0)), (q_3, aC1 cy 3 (fun _ => 0)), (q_4, aC1 cy 8 (fun _ => 0))]) (ty := (tyX0 6)) C hP hD hS 0 6 rfl rfl inX0 tyX0 tyX0_ok nmX0 (by decide) kF_RX0_31 rfl rfl rfl rfl rfl rfl (Nat.le_of_ble_eq_true rfl) rfl dX0_init_46 (fun H locs hP hD hS => ?_)
  refine lv_aload_n hx hb dX0_init_49 rfl (lv_at hl 0 rfl) ?_
  refine lv_bipush (v := 8) hx hb dX0_init_50 (by decide) ?_
  refine q_newa (a0 := (8, .inl (fun _ => 0))) (ty := .int) (N' := 8) C hP hD hS 1 rfl (fun _ h => h) kA_int rfl (fun _ => rfl) (by decide) (by decide) (by decide) (Nat.le_of_ble_eq_true rfl) (Nat.le_of_ble_eq_true rfl) dX0_init_52 (fun q_5 H hP hD hS => ?_)
  have hP : va_P D vwCl [(h, oV0 (.int 0) (.int 0) (.int (-1)) (.ref q_1) (.ref q_2) (.ref q_3) (.ref q_4) .null (.int 0) .null (.int 0) (.int 0) (.int 0) (.int 0) (.int 0) (.int 0)), (q_1, aC1 cy 8 (fun _ => 0)), (q_2, aC1 cy 3 (fun _ => 0)), (q_3, aC1 cy 3 (fun _ => 0)), (q_4, aC1 cy 8 (fun _ => 0)), (q_5, aC1 cy 8 (fun _ => 0))] H := hP
  have hD : va_D A [(h, oV0 (.int 0) (.int 0) (.int (-1)) (.ref q_1) (.ref q_2) (.ref q_3) (.ref q_4) .null (.int 0) .null (.int 0) (.int 0) (.int 0) (.int 0) (.int 0) (.int 0)), (q_1, aC1 cy 8 (fun _ => 0)), (q_2, aC1 cy 3 (fun _ => 0)), (q_3, aC1 cy 3 (fun _ => 0)), (q_4, aC1 cy 8 (fun _ => 0)), (q_5, aC1 cy 8 (fun _ => 0))] := hD
  refine q_putF (v := .ref q_5) (w' := [(h, oV0 (.int 0) (.int 0) (.int (-1)) (.ref q_1) (.ref q_2) (.ref q_3) (.ref q_4) (.ref q_5) (.int 0) .null (.int 0) (.int 0) (.int 0) (.int 0) (.int 0) (.int 0)), (q_1, aC1 cy 8 (fun _ => 0)), (q_2, aC1 cy 3 (fun _ => 0)), (q_3, aC1 cy 3 (fun _ => 0)), (q_4, aC1 cy 8 (fun _ => 0)), (q_5, aC1 cy 8 (fun _ => 0))]) (ty := (tyX0 7)) C hP hD hS 0 7 rfl rfl inX0 tyX0 tyX0_ok nmX0 (by decide) kF_RX0_34 rfl rfl rfl rfl rfl rfl (Nat.le_of_ble_eq_true rfl) rfl dX0_init_54 (fun H locs hP hD hS => ?_)
  refine lv_aload_n hx hb dX0_init_57 rfl (lv_at hl 0 rfl) ?_
  refine lv_iconst (v := 0) hx hb dX0_init_58 (by decide) ?_
  refine q_put (v := .int 0) (w' := [(h, oV0 (.int 0) (.int 0) (.int (-1)) (.ref q_1) (.ref q_2) (.ref q_3) (.ref q_4) (.ref q_5) (.int 0) .null (.int 0) (.int 0) (.int 0) (.int 0) (.int 0) (.int 0)), (q_1, aC1 cy 8 (fun _ => 0)), (q_2, aC1 cy 3 (fun _ => 0)), (q_3, aC1 cy 3 (fun _ => 0)), (q_4, aC1 cy 8 (fun _ => 0)), (q_5, aC1 cy 8 (fun _ => 0))]) (ty := .int) C hP hD hS 0 8 rfl rfl inX0 tyX0 tyX0_ok nmX0 (by decide) kF_RX0_37 rfl rfl rfl rfl rfl (Nat.le_of_ble_eq_true rfl) rfl dX0_init_59 (fun H locs hP hD hS => ?_)
  refine lv_aload_n hx hb dX0_init_62 rfl (lv_at hl 0 rfl) ?_
  refine lv_bipush (v := 81) hx hb dX0_init_63 (by decide) ?_
  refine q_newa (a0 := (81, .inl (fun _ => 0))) (ty := .int) (N' := 81) C hP hD hS 1 rfl (fun _ h => h) kA_int rfl (fun _ => rfl) (by decide) (by decide) (by decide) (Nat.le_of_ble_eq_true rfl) (Nat.le_of_ble_eq_true rfl) dX0_init_65 (fun q_6 H hP hD hS => ?_)
  have hP : va_P D vwCl [(h, oV0 (.int 0) (.int 0) (.int (-1)) (.ref q_1) (.ref q_2) (.ref q_3) (.ref q_4) (.ref q_5) (.int 0) .null (.int 0) (.int 0) (.int 0) (.int 0) (.int 0) (.int 0)), (q_1, aC1 cy 8 (fun _ => 0)), (q_2, aC1 cy 3 (fun _ => 0)), (q_3, aC1 cy 3 (fun _ => 0)), (q_4, aC1 cy 8 (fun _ => 0)), (q_5, aC1 cy 8 (fun _ => 0)), (q_6, aC1 cy 81 (fun _ => 0))] H := hP
  have hD : va_D A [(h, oV0 (.int 0) (.int 0) (.int (-1)) (.ref q_1) (.ref q_2) (.ref q_3) (.ref q_4) (.ref q_5) (.int 0) .null (.int 0) (.int 0) (.int 0) (.int 0) (.int 0) (.int 0)), (q_1, aC1 cy 8 (fun _ => 0)), (q_2, aC1 cy 3 (fun _ => 0)), (q_3, aC1 cy 3 (fun _ => 0)), (q_4, aC1 cy 8 (fun _ => 0)), (q_5, aC1 cy 8 (fun _ => 0)), (q_6, aC1 cy 81 (fun _ => 0))] := hD
  refine q_putF (v := .ref q_6) (w' := [(h, oC0 0 0 (-1) q_1 q_2 q_3 q_4 q_5 0 q_6 0 0 0 0 0 0), (q_1, aC1 cy 8 (fun _ => 0)), (q_2, aC1 cy 3 (fun _ => 0)), (q_3, aC1 cy 3 (fun _ => 0)), (q_4, aC1 cy 8 (fun _ => 0)), (q_5, aC1 cy 8 (fun _ => 0)), (q_6, aC1 cy 81 (fun _ => 0))]) (ty := (tyX0 9)) C hP hD hS 0 9 rfl rfl inX0 tyX0 tyX0_ok nmX0 (by decide) kF_RX0_40 rfl rfl rfl rfl rfl rfl (Nat.le_of_ble_eq_true rfl) rfl dX0_init_67 (fun H locs hP hD hS => ?_)
  refine lv_aload_n hx hb dX0_init_70 rfl (lv_at hl 0 rfl) ?_
  refine lv_iconst (v := 0) hx hb dX0_init_71 (by decide) ?_
  refine q_put (v := .int 0) (w' := [(h, oC0 0 0 (-1) q_1 q_2 q_3 q_4 q_5 0 q_6 0 0 0 0 0 0), (q_1, aC1 cy 8 (fun _ => 0)), (q_2, aC1 cy 3 (fun _ => 0)), (q_3, aC1 cy 3 (fun _ => 0)), (q_4, aC1 cy 8 (fun _ => 0)), (q_5, aC1 cy 8 (fun _ => 0)), (q_6, aC1 cy 81 (fun _ => 0))]) (ty := .int) C hP hD hS 0 10 rfl rfl inX0 tyX0 tyX0_ok nmX0 (by decide) kF_RX0_43 rfl rfl rfl rfl rfl (Nat.le_of_ble_eq_true rfl) rfl dX0_init_72 (fun H locs hP hD hS => ?_)
  refine lv_aload_n hx hb dX0_init_75 rfl (lv_at hl 0 rfl) ?_
  refine lv_iconst (v := 0) hx hb dX0_init_76 (by decide) ?_
  refine q_put (v := .int 0) (w' := [(h, oC0 0 0 (-1) q_1 q_2 q_3 q_4 q_5 0 q_6 0 0 0 0 0 0), (q_1, aC1 cy 8 (fun _ => 0)), (q_2, aC1 cy 3 (fun _ => 0)), (q_3, aC1 cy 3 (fun _ => 0)), (q_4, aC1 cy 8 (fun _ => 0)), (q_5, aC1 cy 8 (fun _ => 0)), (q_6, aC1 cy 81 (fun _ => 0))]) (ty := .int) C hP hD hS 0 11 rfl rfl inX0 tyX0 tyX0_ok nmX0 (by decide) kF_RX0_46 rfl rfl rfl rfl rfl (Nat.le_of_ble_eq_true rfl) rfl dX0_init_77 (fun H locs hP hD hS => ?_)
  refine lv_aload_n hx hb dX0_init_80 rfl (lv_at hl 0 rfl) ?_
  refine lv_iconst (v := 1) hx hb dX0_init_81 (by decide) ?_
  refine q_put (v := .int 1) (w' := [(h, oC0 0 0 (-1) q_1 q_2 q_3 q_4 q_5 0 q_6 0 0 1 0 0 0), (q_1, aC1 cy 8 (fun _ => 0)), (q_2, aC1 cy 3 (fun _ => 0)), (q_3, aC1 cy 3 (fun _ => 0)), (q_4, aC1 cy 8 (fun _ => 0)), (q_5, aC1 cy 8 (fun _ => 0)), (q_6, aC1 cy 81 (fun _ => 0))]) (ty := .int) C hP hD hS 0 12 rfl rfl inX0 tyX0 tyX0_ok nmX0 (by decide) kF_RX0_49 rfl rfl rfl rfl rfl (Nat.le_of_ble_eq_true rfl) rfl dX0_init_82 (fun H locs hP hD hS => ?_)
  refine lv_aload_n hx hb dX0_init_85 rfl (lv_at hl 0 rfl) ?_
  refine lv_iconst (v := 1) hx hb dX0_init_86 (by decide) ?_
  refine q_put (v := .int 1) (w' := [(h, oC0 0 0 (-1) q_1 q_2 q_3 q_4 q_5 0 q_6 0 0 1 1 0 0), (q_1, aC1 cy 8 (fun _ => 0)), (q_2, aC1 cy 3 (fun _ => 0)), (q_3, aC1 cy 3 (fun _ => 0)), (q_4, aC1 cy 8 (fun _ => 0)), (q_5, aC1 cy 8 (fun _ => 0)), (q_6, aC1 cy 81 (fun _ => 0))]) (ty := .int) C hP hD hS 0 13 rfl rfl inX0 tyX0 tyX0_ok nmX0 (by decide) kF_RX0_52 rfl rfl rfl rfl rfl (Nat.le_of_ble_eq_true rfl) rfl dX0_init_87 (fun H locs hP hD hS => ?_)
  refine lv_aload_n hx hb dX0_init_90 rfl (lv_at hl 0 rfl) ?_
  refine lv_iconst (v := 0) hx hb dX0_init_91 (by decide) ?_
  refine q_put (v := .int 0) (w' := [(h, oC0 0 0 (-1) q_1 q_2 q_3 q_4 q_5 0 q_6 0 0 1 1 0 0), (q_1, aC1 cy 8 (fun _ => 0)), (q_2, aC1 cy 3 (fun _ => 0)), (q_3, aC1 cy 3 (fun _ => 0)), (q_4, aC1 cy 8 (fun _ => 0)), (q_5, aC1 cy 8 (fun _ => 0)), (q_6, aC1 cy 81 (fun _ => 0))]) (ty := .int) C hP hD hS 0 14 rfl rfl inX0 tyX0 tyX0_ok nmX0 (by decide) kF_RX0_55 rfl rfl rfl rfl rfl (Nat.le_of_ble_eq_true rfl) rfl dX0_init_92 (fun H locs hP hD hS => ?_)
  refine lv_aload_n hx hb dX0_init_95 rfl (lv_at hl 0 rfl) ?_
  refine lv_iconst (v := 0) hx hb dX0_init_96 (by decide) ?_
  refine q_put (v := .int 0) (w' := [(h, oC0 0 0 (-1) q_1 q_2 q_3 q_4 q_5 0 q_6 0 0 1 1 0 0), (q_1, aC1 cy 8 (fun _ => 0)), (q_2, aC1 cy 3 (fun _ => 0)), (q_3, aC1 cy 3 (fun _ => 0)), (q_4, aC1 cy 8 (fun _ => 0)), (q_5, aC1 cy 8 (fun _ => 0)), (q_6, aC1 cy 81 (fun _ => 0))]) (ty := .int) C hP hD hS 0 15 rfl rfl inX0 tyX0 tyX0_ok nmX0 (by decide) kF_RX0_58 rfl rfl rfl rfl rfl (Nat.le_of_ble_eq_true rfl) rfl dX0_init_97 (fun H locs hP hD hS => ?_)
  exact q_vret (rm := (Rm 1 20 6 111)) C hS (fun k => [q_1, q_2, q_3, q_4, q_5, q_6].getD k 0) trivial (q_subP hP [0, 1, 2, 3, 4, 5, 6] rfl) (hD.sub [0, 1, 2, 3, 4, 5, 6] (by decide) rfl) (Nat.le_of_ble_eq_true rfl) (Nat.le_of_ble_eq_true rfl) dX0_init_100
set_option maxHeartbeats 4000000 in
set_option maxRecDepth 100000 in
theorem c_Paths (l : Launch) (D : va_G) (cy : Nat → ClassId) (h : Nat) (sz : Nat)  : MV l yX5_init cX5_init 1 (Rm 1 20 4 89) D cy [.ref h] sz [(h, oV5 .null (.int 0) (.int 0) .null .null .null)] (fun _ : Nat → Nat => True) (fun u : Nat → Nat => [(h, oC5 (u 0) 0 (-1) (u 1) (u 2) (u 3)), ((u 0), aC1 cy 8 (fun _ => 0)), ((u 1), aC1 cy 9 (fun _ => 0)), ((u 2), aC1 cy 36 (fun _ => 0)), ((u 3), aC1 cy 36 (fun _ => 0))]) := by
  refine MV.enter (by decide) (Nat.le_of_ble_eq_true rfl) ?_
  intro p e s m below meth c ls A hsz hAe C hP hD hS hl
  have C : Cx p s m _ meth c cX5_init 1 none RX5 "<init>" D cy A := C
  have hx := C.1
  have hb := C.2.1
  have hl : lv_has ls 1 [(0, .ref h)] := hl
  refine lv_aload_n hx hb dX5_init_0 rfl (lv_at hl 0 rfl) ?_
  refine q_obj C hl.1 kM_RX5_3 (Nat.le_of_ble_eq_true rfl) (lv_room12 (Nat.le_of_ble_eq_true rfl)) dX5_init_1 ?_ (Nat.le_of_ble_eq_true rfl) (Nat.le_of_ble_eq_true rfl)
  refine lv_aload_n hx hb dX5_init_4 rfl (lv_at hl 0 rfl) ?_
  refine lv_bipush (v := 8) hx hb dX5_init_5 (by decide) ?_
  refine q_newa (a0 := (8, .inl (fun _ => 0))) (ty := .int) (N' := 8) C hP hD hS 1 rfl (fun _ h => h) kA_int rfl (fun _ => rfl) (by decide) (by decide) (by decide) (Nat.le_of_ble_eq_true rfl) (Nat.le_of_ble_eq_true rfl) dX5_init_7 (fun q_1 H hP hD hS => ?_)
  have hP : va_P D vwCl [(h, oV5 .null (.int 0) (.int 0) .null .null .null), (q_1, aC1 cy 8 (fun _ => 0))] H := hP
  have hD : va_D A [(h, oV5 .null (.int 0) (.int 0) .null .null .null), (q_1, aC1 cy 8 (fun _ => 0))] := hD
  refine q_putF (v := .ref q_1) (w' := [(h, oV5 (.ref q_1) (.int 0) (.int 0) .null .null .null), (q_1, aC1 cy 8 (fun _ => 0))]) (ty := (tyX5 0)) C hP hD hS 0 0 rfl rfl inX5 tyX5 tyX5_ok nmX5 (by decide) kF_RX5_9 rfl rfl rfl rfl rfl rfl (Nat.le_of_ble_eq_true rfl) rfl dX5_init_9 (fun H locs hP hD hS => ?_)
  refine lv_aload_n hx hb dX5_init_12 rfl (lv_at hl 0 rfl) ?_
  refine lv_iconst (v := 0) hx hb dX5_init_13 (by decide) ?_
  refine q_put (v := .int 0) (w' := [(h, oV5 (.ref q_1) (.int 0) (.int 0) .null .null .null), (q_1, aC1 cy 8 (fun _ => 0))]) (ty := .int) C hP hD hS 0 1 rfl rfl inX5 tyX5 tyX5_ok nmX5 (by decide) kF_RX5_15 rfl rfl rfl rfl rfl (Nat.le_of_ble_eq_true rfl) rfl dX5_init_14 (fun H locs hP hD hS => ?_)
  refine lv_aload_n hx hb dX5_init_17 rfl (lv_at hl 0 rfl) ?_
  refine lv_iconst (v := (-1)) hx hb dX5_init_18 (by decide) ?_
  refine q_put (v := .int (-1)) (w' := [(h, oV5 (.ref q_1) (.int 0) (.int (-1)) .null .null .null), (q_1, aC1 cy 8 (fun _ => 0))]) (ty := .int) C hP hD hS 0 2 rfl rfl inX5 tyX5 tyX5_ok nmX5 (by decide) kF_RX5_19 rfl rfl rfl rfl rfl (Nat.le_of_ble_eq_true rfl) rfl dX5_init_19 (fun H locs hP hD hS => ?_)
  refine lv_aload_n hx hb dX5_init_22 rfl (lv_at hl 0 rfl) ?_
  refine lv_bipush (v := 9) hx hb dX5_init_23 (by decide) ?_
  refine q_newa (a0 := (9, .inl (fun _ => 0))) (ty := .int) (N' := 9) C hP hD hS 1 rfl (fun _ h => h) kA_int rfl (fun _ => rfl) (by decide) (by decide) (by decide) (Nat.le_of_ble_eq_true rfl) (Nat.le_of_ble_eq_true rfl) dX5_init_25 (fun q_2 H hP hD hS => ?_)
  have hP : va_P D vwCl [(h, oV5 (.ref q_1) (.int 0) (.int (-1)) .null .null .null), (q_1, aC1 cy 8 (fun _ => 0)), (q_2, aC1 cy 9 (fun _ => 0))] H := hP
  have hD : va_D A [(h, oV5 (.ref q_1) (.int 0) (.int (-1)) .null .null .null), (q_1, aC1 cy 8 (fun _ => 0)), (q_2, aC1 cy 9 (fun _ => 0))] := hD
  refine q_putF (v := .ref q_2) (w' := [(h, oV5 (.ref q_1) (.int 0) (.int (-1)) (.ref q_2) .null .null), (q_1, aC1 cy 8 (fun _ => 0)), (q_2, aC1 cy 9 (fun _ => 0))]) (ty := (tyX5 3)) C hP hD hS 0 3 rfl rfl inX5 tyX5 tyX5_ok nmX5 (by decide) kF_RX5_22 rfl rfl rfl rfl rfl rfl (Nat.le_of_ble_eq_true rfl) rfl dX5_init_27 (fun H locs hP hD hS => ?_)
  refine lv_aload_n hx hb dX5_init_30 rfl (lv_at hl 0 rfl) ?_
  refine lv_bipush (v := 36) hx hb dX5_init_31 (by decide) ?_
  refine q_newa (a0 := (36, .inl (fun _ => 0))) (ty := .int) (N' := 36) C hP hD hS 1 rfl (fun _ h => h) kA_int rfl (fun _ => rfl) (by decide) (by decide) (by decide) (Nat.le_of_ble_eq_true rfl) (Nat.le_of_ble_eq_true rfl) dX5_init_33 (fun q_3 H hP hD hS => ?_)
  have hP : va_P D vwCl [(h, oV5 (.ref q_1) (.int 0) (.int (-1)) (.ref q_2) .null .null), (q_1, aC1 cy 8 (fun _ => 0)), (q_2, aC1 cy 9 (fun _ => 0)), (q_3, aC1 cy 36 (fun _ => 0))] H := hP
  have hD : va_D A [(h, oV5 (.ref q_1) (.int 0) (.int (-1)) (.ref q_2) .null .null), (q_1, aC1 cy 8 (fun _ => 0)), (q_2, aC1 cy 9 (fun _ => 0)), (q_3, aC1 cy 36 (fun _ => 0))] := hD
  refine q_putF (v := .ref q_3) (w' := [(h, oV5 (.ref q_1) (.int 0) (.int (-1)) (.ref q_2) (.ref q_3) .null), (q_1, aC1 cy 8 (fun _ => 0)), (q_2, aC1 cy 9 (fun _ => 0)), (q_3, aC1 cy 36 (fun _ => 0))]) (ty := (tyX5 4)) C hP hD hS 0 4 rfl rfl inX5 tyX5 tyX5_ok nmX5 (by decide) kF_RX5_25 rfl rfl rfl rfl rfl rfl (Nat.le_of_ble_eq_true rfl) rfl dX5_init_35 (fun H locs hP hD hS => ?_)
  refine lv_aload_n hx hb dX5_init_38 rfl (lv_at hl 0 rfl) ?_
  refine lv_bipush (v := 36) hx hb dX5_init_39 (by decide) ?_
  refine q_newa (a0 := (36, .inl (fun _ => 0))) (ty := .int) (N' := 36) C hP hD hS 1 rfl (fun _ h => h) kA_int rfl (fun _ => rfl) (by decide) (by decide) (by decide) (Nat.le_of_ble_eq_true rfl) (Nat.le_of_ble_eq_true rfl) dX5_init_41 (fun q_4 H hP hD hS => ?_)
  have hP : va_P D vwCl [(h, oV5 (.ref q_1) (.int 0) (.int (-1)) (.ref q_2) (.ref q_3) .null), (q_1, aC1 cy 8 (fun _ => 0)), (q_2, aC1 cy 9 (fun _ => 0)), (q_3, aC1 cy 36 (fun _ => 0)), (q_4, aC1 cy 36 (fun _ => 0))] H := hP
  have hD : va_D A [(h, oV5 (.ref q_1) (.int 0) (.int (-1)) (.ref q_2) (.ref q_3) .null), (q_1, aC1 cy 8 (fun _ => 0)), (q_2, aC1 cy 9 (fun _ => 0)), (q_3, aC1 cy 36 (fun _ => 0)), (q_4, aC1 cy 36 (fun _ => 0))] := hD
  refine q_putF (v := .ref q_4) (w' := [(h, oC5 q_1 0 (-1) q_2 q_3 q_4), (q_1, aC1 cy 8 (fun _ => 0)), (q_2, aC1 cy 9 (fun _ => 0)), (q_3, aC1 cy 36 (fun _ => 0)), (q_4, aC1 cy 36 (fun _ => 0))]) (ty := (tyX5 5)) C hP hD hS 0 5 rfl rfl inX5 tyX5 tyX5_ok nmX5 (by decide) kF_RX5_28 rfl rfl rfl rfl rfl rfl (Nat.le_of_ble_eq_true rfl) rfl dX5_init_43 (fun H locs hP hD hS => ?_)
  exact q_vret (rm := (Rm 1 20 4 89)) C hS (fun k => [q_1, q_2, q_3, q_4].getD k 0) trivial (q_subP hP [0, 1, 2, 3, 4] rfl) (hD.sub [0, 1, 2, 3, 4] (by decide) rfl) (Nat.le_of_ble_eq_true rfl) (Nat.le_of_ble_eq_true rfl) dX5_init_46
