theorem dX11_power_0 : decode cX11_power 0 = .ok (.iconst 1, 1) := by decide +kernel
theorem dX11_power_1 : decode cX11_power 1 = .ok (.istore_n 2, 1) := by decide +kernel
theorem dX11_power_2 : decode cX11_power 2 = .ok (.iconst 0, 1) := by decide +kernel
theorem dX11_power_3 : decode cX11_power 3 = .ok (.istore_n 3, 1) := by decide +kernel
theorem dX11_power_4 : decode cX11_power 4 = .ok (.iload_n 3, 1) := by decide +kernel
theorem dX11_power_5 : decode cX11_power 5 = .ok (.iload_n 1, 1) := by decide +kernel
theorem dX11_power_6 : decode cX11_power 6 = .ok (.if_icmp .ge 13, 3) := by decide +kernel
theorem dX11_power_19 : decode cX11_power 19 = .ok (.iload_n 2, 1) := by decide +kernel
theorem dX11_power_20 : decode cX11_power 20 = .ok (.ireturn, 1) := by decide +kernel
theorem dX11_power_9 : decode cX11_power 9 = .ok (.iload_n 2, 1) := by decide +kernel
theorem dX11_power_10 : decode cX11_power 10 = .ok (.iload_n 0, 1) := by decide +kernel
theorem dX11_power_11 : decode cX11_power 11 = .ok (.imul, 1) := by decide +kernel
theorem dX11_power_12 : decode cX11_power 12 = .ok (.istore_n 2, 1) := by decide +kernel
theorem dX11_power_13 : decode cX11_power 13 = .ok (.iinc 3 1, 3) := by decide +kernel
theorem dX11_power_16 : decode cX11_power 16 = .ok (.goto (-12), 3) := by decide +kernel
theorem dX11_spins_0 : decode cX11_spins 0 = .ok (.iload_n 2, 1) := by decide +kernel
theorem dX11_spins_1 : decode cX11_spins 1 = .ok (.ifCond .lt 10, 3) := by decide +kernel
theorem dX11_spins_11 : decode cX11_spins 11 = .ok (.iconst 0, 1) := by decide +kernel
theorem dX11_spins_12 : decode cX11_spins 12 = .ok (.istore_n 3, 1) := by decide +kernel
theorem dX11_spins_13 : decode cX11_spins 13 = .ok (.iload_n 3, 1) := by decide +kernel
theorem dX11_spins_14 : decode cX11_spins 14 = .ok (.aload_n 0, 1) := by decide +kernel
theorem dX11_spins_15 : decode cX11_spins 15 = .ok (.getfield 33, 3) := by decide +kernel
theorem dX11_spins_18 : decode cX11_spins 18 = .ok (.iconst 0, 1) := by decide +kernel
theorem dX11_spins_19 : decode cX11_spins 19 = .ok (.iaload, 1) := by decide +kernel
theorem dX11_spins_20 : decode cX11_spins 20 = .ok (.if_icmp .ge 50, 3) := by decide +kernel
theorem dX11_spins_70 : decode cX11_spins 70 = .ok (.return_, 1) := by decide +kernel
theorem dX11_spins_23 : decode cX11_spins 23 = .ok (.iload_n 3, 1) := by decide +kernel
theorem dX11_spins_24 : decode cX11_spins 24 = .ok (.iload_n 2, 1) := by decide +kernel
theorem dX11_spins_25 : decode cX11_spins 25 = .ok (.if_icmp .eq 39, 3) := by decide +kernel
theorem dX11_spins_28 : decode cX11_spins 28 = .ok (.iload_n 1, 1) := by decide +kernel
theorem dX11_spins_40 : decode cX11_spins 40 = .ok (.aload_n 0, 1) := by decide +kernel
theorem dX11_spins_41 : decode cX11_spins 41 = .ok (.getfield 74, 3) := by decide +kernel
theorem kF_RX11_74 : Cond.fieldLink RX11 74 "CobwebLibraryModel" "trial" "[I" ∈ gT := List.mem_filter.mpr ⟨List.mem_of_getElem? (i := 1539) (by decide +kernel), by decide +kernel⟩
theorem dX11_spins_44 : decode cX11_spins 44 = .ok (.iload_n 3, 1) := by decide +kernel
theorem dX11_spins_45 : decode cX11_spins 45 = .ok (.bipush 99, 2) := by decide +kernel
theorem dX11_spins_47 : decode cX11_spins 47 = .ok (.aload_n 0, 1) := by decide +kernel
theorem dX11_spins_48 : decode cX11_spins 48 = .ok (.getfield 74, 3) := by decide +kernel
theorem dX11_spins_51 : decode cX11_spins 51 = .ok (.iload_n 3, 1) := by decide +kernel
theorem dX11_spins_52 : decode cX11_spins 52 = .ok (.iaload, 1) := by decide +kernel
theorem dX11_spins_53 : decode cX11_spins 53 = .ok (.aload_n 0, 1) := by decide +kernel
theorem dX11_spins_54 : decode cX11_spins 54 = .ok (.getfield 33, 3) := by decide +kernel
theorem dX11_spins_57 : decode cX11_spins 57 = .ok (.iconst 4, 1) := by decide +kernel
theorem dX11_spins_58 : decode cX11_spins 58 = .ok (.iaload, 1) := by decide +kernel
theorem dX11_spins_59 : decode cX11_spins 59 = .ok (.iadd, 1) := by decide +kernel
theorem dX11_spins_60 : decode cX11_spins 60 = .ok (.invokestatic 294, 3) := by decide +kernel
theorem dX11_spins_63 : decode cX11_spins 63 = .ok (.iastore, 1) := by decide +kernel
theorem dX11_spins_64 : decode cX11_spins 64 = .ok (.iinc 3 1, 3) := by decide +kernel
theorem dX11_spins_67 : decode cX11_spins 67 = .ok (.goto (-54), 3) := by decide +kernel
theorem dX11_spins_29 : decode cX11_spins 29 = .ok (.ifCond .ne 11, 3) := by decide +kernel
theorem dX11_spins_32 : decode cX11_spins 32 = .ok (.aload_n 0, 1) := by decide +kernel
theorem dX11_spins_33 : decode cX11_spins 33 = .ok (.iload_n 3, 1) := by decide +kernel
theorem dX11_spins_34 : decode cX11_spins 34 = .ok (.invokevirtual 338, 3) := by decide +kernel
theorem dX11_spins_37 : decode cX11_spins 37 = .ok (.ifCond .ne 27, 3) := by decide +kernel
theorem dX11_spins_4 : decode cX11_spins 4 = .ok (.aload_n 0, 1) := by decide +kernel
theorem dX11_spins_5 : decode cX11_spins 5 = .ok (.getfield 74, 3) := by decide +kernel
theorem dX11_spins_8 : decode cX11_spins 8 = .ok (.iload_n 2, 1) := by decide +kernel
theorem dX11_spins_9 : decode cX11_spins 9 = .ok (.iconst 0, 1) := by decide +kernel
theorem dX11_spins_10 : decode cX11_spins 10 = .ok (.iastore, 1) := by decide +kernel
theorem dX11_beginsTrial_0 : decode cX11_beginsTrial 0 = .ok (.iconst 0, 1) := by decide +kernel
theorem dX11_beginsTrial_1 : decode cX11_beginsTrial 1 = .ok (.istore_n 1, 1) := by decide +kernel
theorem dX11_beginsTrial_2 : decode cX11_beginsTrial 2 = .ok (.iload_n 1, 1) := by decide +kernel
theorem dX11_beginsTrial_3 : decode cX11_beginsTrial 3 = .ok (.bipush 8, 2) := by decide +kernel
theorem dX11_beginsTrial_5 : decode cX11_beginsTrial 5 = .ok (.if_icmp .ge 24, 3) := by decide +kernel
theorem dX11_beginsTrial_29 : decode cX11_beginsTrial 29 = .ok (.return_, 1) := by decide +kernel
theorem dX11_beginsTrial_8 : decode cX11_beginsTrial 8 = .ok (.aload_n 0, 1) := by decide +kernel
theorem dX11_beginsTrial_9 : decode cX11_beginsTrial 9 = .ok (.getfield 74, 3) := by decide +kernel
theorem dX11_beginsTrial_12 : decode cX11_beginsTrial 12 = .ok (.iload_n 1, 1) := by decide +kernel
theorem dX11_beginsTrial_13 : decode cX11_beginsTrial 13 = .ok (.aload_n 0, 1) := by decide +kernel
theorem dX11_beginsTrial_14 : decode cX11_beginsTrial 14 = .ok (.getfield 33, 3) := by decide +kernel
theorem dX11_beginsTrial_17 : decode cX11_beginsTrial 17 = .ok (.bipush 122, 2) := by decide +kernel
theorem dX11_beginsTrial_19 : decode cX11_beginsTrial 19 = .ok (.iload_n 1, 1) := by decide +kernel
theorem dX11_beginsTrial_20 : decode cX11_beginsTrial 20 = .ok (.iadd, 1) := by decide +kernel
theorem dX11_beginsTrial_21 : decode cX11_beginsTrial 21 = .ok (.iaload, 1) := by decide +kernel
theorem dX11_beginsTrial_22 : decode cX11_beginsTrial 22 = .ok (.iastore, 1) := by decide +kernel
theorem dX11_beginsTrial_23 : decode cX11_beginsTrial 23 = .ok (.iinc 1 1, 3) := by decide +kernel
theorem dX11_beginsTrial_26 : decode cX11_beginsTrial 26 = .ok (.goto (-24), 3) := by decide +kernel
theorem dX11_askedBy_0 : decode cX11_askedBy 0 = .ok (.iload_n 1, 1) := by decide +kernel
theorem dX11_askedBy_1 : decode cX11_askedBy 1 = .ok (.aload_n 0, 1) := by decide +kernel
theorem dX11_askedBy_2 : decode cX11_askedBy 2 = .ok (.getfield 33, 3) := by decide +kernel
theorem dX11_askedBy_5 : decode cX11_askedBy 5 = .ok (.iconst 0, 1) := by decide +kernel
theorem dX11_askedBy_6 : decode cX11_askedBy 6 = .ok (.iaload, 1) := by decide +kernel
theorem dX11_askedBy_7 : decode cX11_askedBy 7 = .ok (.iconst 1, 1) := by decide +kernel
theorem dX11_askedBy_8 : decode cX11_askedBy 8 = .ok (.iadd, 1) := by decide +kernel
theorem dX11_askedBy_9 : decode cX11_askedBy 9 = .ok (.iload_n 2, 1) := by decide +kernel
theorem dX11_askedBy_10 : decode cX11_askedBy 10 = .ok (.iload_n 3, 1) := by decide +kernel
theorem dX11_askedBy_11 : decode cX11_askedBy 11 = .ok (.invokestatic 379, 3) := by decide +kernel
theorem kwS_X11_digit : MwS yX11_digit cX11_digit 6 (some .int) 4 := ⟨List.mem_filter.mpr ⟨List.mem_of_getElem? (i := 1970) (by decide +kernel), by decide +kernel⟩, List.mem_filter.mpr ⟨List.mem_of_getElem? (i := 1969) (by decide +kernel), by decide +kernel⟩, List.mem_filter.mpr ⟨List.mem_of_getElem? (i := 139) (by decide +kernel), by decide +kernel⟩, by decide +kernel⟩
theorem kM_RX11_379 : Cond.methodLink RX11 379 yX11_digit ∈ gT := List.mem_filter.mpr ⟨List.mem_of_getElem? (i := 1968) (by decide +kernel), by decide +kernel⟩
theorem dX11_askedBy_14 : decode cX11_askedBy 14 = .ok (.istore 4, 2) := by decide +kernel
theorem dX11_askedBy_16 : decode cX11_askedBy 16 = .ok (.iload 4, 2) := by decide +kernel
theorem dX11_askedBy_18 : decode cX11_askedBy 18 = .ok (.aload_n 0, 1) := by decide +kernel
theorem dX11_askedBy_19 : decode cX11_askedBy 19 = .ok (.getfield 33, 3) := by decide +kernel
theorem dX11_askedBy_22 : decode cX11_askedBy 22 = .ok (.iconst 0, 1) := by decide +kernel
theorem dX11_askedBy_23 : decode cX11_askedBy 23 = .ok (.iaload, 1) := by decide +kernel
theorem dX11_askedBy_24 : decode cX11_askedBy 24 = .ok (.if_icmp .ne 5, 3) := by decide +kernel
theorem dX11_askedBy_29 : decode cX11_askedBy 29 = .ok (.iload_n 3, 1) := by decide +kernel
theorem dX11_askedBy_30 : decode cX11_askedBy 30 = .ok (.ifCond .ne 17, 3) := by decide +kernel
theorem dX11_askedBy_47 : decode cX11_askedBy 47 = .ok (.iload 4, 2) := by decide +kernel
theorem dX11_askedBy_49 : decode cX11_askedBy 49 = .ok (.ireturn, 1) := by decide +kernel
theorem dX11_askedBy_33 : decode cX11_askedBy 33 = .ok (.aload_n 0, 1) := by decide +kernel
theorem dX11_askedBy_34 : decode cX11_askedBy 34 = .ok (.iload 4, 2) := by decide +kernel
theorem dX11_askedBy_36 : decode cX11_askedBy 36 = .ok (.invokevirtual 338, 3) := by decide +kernel
theorem dX11_askedBy_39 : decode cX11_askedBy 39 = .ok (.ifCond .eq 8, 3) := by decide +kernel
theorem dX11_askedBy_42 : decode cX11_askedBy 42 = .ok (.bipush (-2), 2) := by decide +kernel
theorem dX11_askedBy_44 : decode cX11_askedBy 44 = .ok (.goto 5, 3) := by decide +kernel
theorem dX11_askedBy_27 : decode cX11_askedBy 27 = .ok (.iconst (-1), 1) := by decide +kernel
theorem dX11_askedBy_28 : decode cX11_askedBy 28 = .ok (.ireturn, 1) := by decide +kernel
theorem dX11_spun_0 : decode cX11_spun 0 = .ok (.aload_n 0, 1) := by decide +kernel
theorem dX11_spun_1 : decode cX11_spun 1 = .ok (.iconst 0, 1) := by decide +kernel
theorem dX11_spun_2 : decode cX11_spun 2 = .ok (.putfield 1, 3) := by decide +kernel
theorem dX11_spun_5 : decode cX11_spun 5 = .ok (.aload_n 0, 1) := by decide +kernel
theorem dX11_spun_6 : decode cX11_spun 6 = .ok (.sipush 940, 3) := by decide +kernel
theorem dX11_spun_9 : decode cX11_spun 9 = .ok (.invokevirtual 276, 3) := by decide +kernel
theorem dX11_spun_12 : decode cX11_spun 12 = .ok (.aload_n 0, 1) := by decide +kernel
theorem dX11_spun_13 : decode cX11_spun 13 = .ok (.getfield 18, 3) := by decide +kernel
theorem dX11_spun_16 : decode cX11_spun 16 = .ok (.iconst 3, 1) := by decide +kernel
theorem dX11_spun_17 : decode cX11_spun 17 = .ok (.bipush 18, 2) := by decide +kernel
theorem dX11_spun_19 : decode cX11_spun 19 = .ok (.invokestatic 206, 3) := by decide +kernel
theorem dX11_spun_22 : decode cX11_spun 22 = .ok (.ifCond .eq 12, 3) := by decide +kernel
theorem dX11_spun_34 : decode cX11_spun 34 = .ok (.iconst (-1), 1) := by decide +kernel
theorem dX11_spun_35 : decode cX11_spun 35 = .ok (.ireturn, 1) := by decide +kernel
theorem dX11_spun_25 : decode cX11_spun 25 = .ok (.aload_n 0, 1) := by decide +kernel
theorem dX11_spun_26 : decode cX11_spun 26 = .ok (.getfield 18, 3) := by decide +kernel
theorem dX11_spun_29 : decode cX11_spun 29 = .ok (.iconst 3, 1) := by decide +kernel
theorem dX11_spun_30 : decode cX11_spun 30 = .ok (.irem, 1) := by decide +kernel
theorem dX11_spun_31 : decode cX11_spun 31 = .ok (.ifCond .eq 5, 3) := by decide +kernel
theorem dX11_spun_36 : decode cX11_spun 36 = .ok (.iconst 0, 1) := by decide +kernel
theorem dX11_spun_37 : decode cX11_spun 37 = .ok (.istore_n 1, 1) := by decide +kernel
theorem dX11_spun_38 : decode cX11_spun 38 = .ok (.iload_n 1, 1) := by decide +kernel
theorem dX11_spun_39 : decode cX11_spun 39 = .ok (.aload_n 0, 1) := by decide +kernel
theorem dX11_spun_40 : decode cX11_spun 40 = .ok (.getfield 18, 3) := by decide +kernel
theorem dX11_spun_43 : decode cX11_spun 43 = .ok (.if_icmp .ge 49, 3) := by decide +kernel
theorem dX11_spun_92 : decode cX11_spun 92 = .ok (.iconst 0, 1) := by decide +kernel
theorem dX11_spun_93 : decode cX11_spun 93 = .ok (.istore_n 1, 1) := by decide +kernel
theorem dX11_spun_94 : decode cX11_spun 94 = .ok (.iconst 1, 1) := by decide +kernel
theorem dX11_spun_95 : decode cX11_spun 95 = .ok (.istore_n 2, 1) := by decide +kernel
theorem dX11_spun_96 : decode cX11_spun 96 = .ok (.iload_n 2, 1) := by decide +kernel
theorem dX11_spun_97 : decode cX11_spun 97 = .ok (.bipush 6, 2) := by decide +kernel
theorem dX11_spun_99 : decode cX11_spun 99 = .ok (.if_icmp .ge 86, 3) := by decide +kernel
theorem dX11_spun_185 : decode cX11_spun 185 = .ok (.iload_n 1, 1) := by decide +kernel
theorem dX11_spun_186 : decode cX11_spun 186 = .ok (.ireturn, 1) := by decide +kernel
theorem dX11_spun_102 : decode cX11_spun 102 = .ok (.iconst 1, 1) := by decide +kernel
theorem dX11_spun_103 : decode cX11_spun 103 = .ok (.istore_n 3, 1) := by decide +kernel
theorem dX11_spun_104 : decode cX11_spun 104 = .ok (.iconst 0, 1) := by decide +kernel
theorem dX11_spun_105 : decode cX11_spun 105 = .ok (.istore 4, 2) := by decide +kernel
theorem dX11_spun_107 : decode cX11_spun 107 = .ok (.iload 4, 2) := by decide +kernel
theorem dX11_spun_109 : decode cX11_spun 109 = .ok (.aload_n 0, 1) := by decide +kernel
theorem dX11_spun_110 : decode cX11_spun 110 = .ok (.getfield 18, 3) := by decide +kernel
theorem dX11_spun_113 : decode cX11_spun 113 = .ok (.if_icmp .ge 52, 3) := by decide +kernel
theorem dX11_spun_165 : decode cX11_spun 165 = .ok (.iload_n 1, 1) := by decide +kernel
theorem dX11_spun_166 : decode cX11_spun 166 = .ok (.iload_n 3, 1) := by decide +kernel
theorem dX11_spun_167 : decode cX11_spun 167 = .ok (.ifCond .eq 9, 3) := by decide +kernel
theorem dX11_spun_176 : decode cX11_spun 176 = .ok (.iconst 0, 1) := by decide +kernel
theorem dX11_spun_177 : decode cX11_spun 177 = .ok (.ior, 1) := by decide +kernel
theorem dX11_spun_178 : decode cX11_spun 178 = .ok (.istore_n 1, 1) := by decide +kernel
theorem dX11_spun_179 : decode cX11_spun 179 = .ok (.iinc 2 1, 3) := by decide +kernel
theorem dX11_spun_182 : decode cX11_spun 182 = .ok (.goto (-86), 3) := by decide +kernel
theorem dX11_spun_170 : decode cX11_spun 170 = .ok (.iconst 1, 1) := by decide +kernel
theorem dX11_spun_171 : decode cX11_spun 171 = .ok (.iload_n 2, 1) := by decide +kernel
theorem dX11_spun_172 : decode cX11_spun 172 = .ok (.ishl, 1) := by decide +kernel
theorem dX11_spun_173 : decode cX11_spun 173 = .ok (.goto 4, 3) := by decide +kernel
theorem dX11_spun_116 : decode cX11_spun 116 = .ok (.iload_n 3, 1) := by decide +kernel
theorem dX11_spun_117 : decode cX11_spun 117 = .ok (.ifCond .eq 40, 3) := by decide +kernel
theorem dX11_spun_157 : decode cX11_spun 157 = .ok (.iconst 0, 1) := by decide +kernel
theorem dX11_spun_158 : decode cX11_spun 158 = .ok (.istore_n 3, 1) := by decide +kernel
theorem dX11_spun_159 : decode cX11_spun 159 = .ok (.iinc 4 3, 3) := by decide +kernel
theorem dX11_spun_162 : decode cX11_spun 162 = .ok (.goto (-55), 3) := by decide +kernel
theorem dX11_spun_120 : decode cX11_spun 120 = .ok (.bipush 99, 2) := by decide +kernel
theorem dX11_spun_122 : decode cX11_spun 122 = .ok (.aload_n 0, 1) := by decide +kernel
theorem dX11_spun_123 : decode cX11_spun 123 = .ok (.iload 4, 2) := by decide +kernel
theorem dX11_spun_125 : decode cX11_spun 125 = .ok (.invokevirtual 397, 3) := by decide +kernel
theorem kwV_X11_octet : MwV RX11 yX11_octet cX11_octet 2 (some .int) 1 := ⟨List.mem_filter.mpr ⟨List.mem_of_getElem? (i := 1986) (by decide +kernel), by decide +kernel⟩, List.mem_filter.mpr ⟨List.mem_of_getElem? (i := 1985) (by decide +kernel), by decide +kernel⟩, List.mem_filter.mpr ⟨List.mem_of_getElem? (i := 103) (by decide +kernel), by decide +kernel⟩, List.mem_filter.mpr ⟨List.mem_of_getElem? (i := 139) (by decide +kernel), by decide +kernel⟩, by decide +kernel⟩
theorem kM_RX11_397 : Cond.methodLink RX11 397 yX11_octet ∈ gT := List.mem_filter.mpr ⟨List.mem_of_getElem? (i := 1983) (by decide +kernel), by decide +kernel⟩
theorem dX11_spun_128 : decode cX11_spun 128 = .ok (.iload_n 2, 1) := by decide +kernel
theorem dX11_spun_129 : decode cX11_spun 129 = .ok (.aload_n 0, 1) := by decide +kernel
theorem dX11_spun_130 : decode cX11_spun 130 = .ok (.iload 4, 2) := by decide +kernel
theorem dX11_spun_132 : decode cX11_spun 132 = .ok (.iconst 1, 1) := by decide +kernel
theorem dX11_spun_133 : decode cX11_spun 133 = .ok (.iadd, 1) := by decide +kernel
theorem dX11_spun_134 : decode cX11_spun 134 = .ok (.invokevirtual 397, 3) := by decide +kernel
theorem dX11_spun_137 : decode cX11_spun 137 = .ok (.imul, 1) := by decide +kernel
theorem dX11_spun_138 : decode cX11_spun 138 = .ok (.iadd, 1) := by decide +kernel
theorem dX11_spun_139 : decode cX11_spun 139 = .ok (.invokestatic 294, 3) := by decide +kernel
theorem dX11_spun_142 : decode cX11_spun 142 = .ok (.aload_n 0, 1) := by decide +kernel
theorem dX11_spun_143 : decode cX11_spun 143 = .ok (.iload 4, 2) := by decide +kernel
theorem dX11_spun_145 : decode cX11_spun 145 = .ok (.iconst 2, 1) := by decide +kernel
theorem dX11_spun_146 : decode cX11_spun 146 = .ok (.iadd, 1) := by decide +kernel
theorem dX11_spun_147 : decode cX11_spun 147 = .ok (.invokevirtual 397, 3) := by decide +kernel
theorem dX11_spun_150 : decode cX11_spun 150 = .ok (.if_icmp .ne 7, 3) := by decide +kernel
theorem dX11_spun_153 : decode cX11_spun 153 = .ok (.iconst 1, 1) := by decide +kernel
theorem dX11_spun_154 : decode cX11_spun 154 = .ok (.goto 4, 3) := by decide +kernel
theorem dX11_spun_46 : decode cX11_spun 46 = .ok (.aload_n 0, 1) := by decide +kernel
theorem dX11_spun_47 : decode cX11_spun 47 = .ok (.iload_n 1, 1) := by decide +kernel
theorem dX11_spun_48 : decode cX11_spun 48 = .ok (.invokevirtual 397, 3) := by decide +kernel
theorem dX11_spun_51 : decode cX11_spun 51 = .ok (.bipush 99, 2) := by decide +kernel
theorem dX11_spun_53 : decode cX11_spun 53 = .ok (.if_icmp .gt 31, 3) := by decide +kernel
theorem dX11_spun_84 : decode cX11_spun 84 = .ok (.iconst (-1), 1) := by decide +kernel
theorem dX11_spun_85 : decode cX11_spun 85 = .ok (.ireturn, 1) := by decide +kernel
theorem dX11_spun_56 : decode cX11_spun 56 = .ok (.aload_n 0, 1) := by decide +kernel
theorem dX11_spun_57 : decode cX11_spun 57 = .ok (.iload_n 1, 1) := by decide +kernel
theorem dX11_spun_58 : decode cX11_spun 58 = .ok (.iconst 1, 1) := by decide +kernel
theorem dX11_spun_59 : decode cX11_spun 59 = .ok (.iadd, 1) := by decide +kernel
theorem dX11_spun_60 : decode cX11_spun 60 = .ok (.invokevirtual 397, 3) := by decide +kernel
theorem dX11_spun_63 : decode cX11_spun 63 = .ok (.iconst 1, 1) := by decide +kernel
theorem dX11_spun_64 : decode cX11_spun 64 = .ok (.bipush 99, 2) := by decide +kernel
theorem dX11_spun_66 : decode cX11_spun 66 = .ok (.invokestatic 206, 3) := by decide +kernel
theorem dX11_spun_69 : decode cX11_spun 69 = .ok (.ifCond .eq 15, 3) := by decide +kernel
theorem dX11_spun_72 : decode cX11_spun 72 = .ok (.aload_n 0, 1) := by decide +kernel
theorem dX11_spun_73 : decode cX11_spun 73 = .ok (.iload_n 1, 1) := by decide +kernel
theorem dX11_spun_74 : decode cX11_spun 74 = .ok (.iconst 2, 1) := by decide +kernel
theorem dX11_spun_75 : decode cX11_spun 75 = .ok (.iadd, 1) := by decide +kernel
theorem dX11_spun_76 : decode cX11_spun 76 = .ok (.invokevirtual 397, 3) := by decide +kernel
theorem dX11_spun_79 : decode cX11_spun 79 = .ok (.bipush 99, 2) := by decide +kernel
theorem dX11_spun_81 : decode cX11_spun 81 = .ok (.if_icmp .le 5, 3) := by decide +kernel
theorem dX11_spun_86 : decode cX11_spun 86 = .ok (.iinc 1 3, 3) := by decide +kernel
theorem dX11_spun_89 : decode cX11_spun 89 = .ok (.goto (-51), 3) := by decide +kernel
theorem dX11_hangsOver_0 : decode cX11_hangsOver 0 = .ok (.iconst 0, 1) := by decide +kernel
theorem dX11_hangsOver_1 : decode cX11_hangsOver 1 = .ok (.istore_n 3, 1) := by decide +kernel
theorem dX11_hangsOver_2 : decode cX11_hangsOver 2 = .ok (.iconst 0, 1) := by decide +kernel
theorem dX11_hangsOver_3 : decode cX11_hangsOver 3 = .ok (.istore 4, 2) := by decide +kernel
theorem dX11_hangsOver_5 : decode cX11_hangsOver 5 = .ok (.iload 4, 2) := by decide +kernel
theorem dX11_hangsOver_7 : decode cX11_hangsOver 7 = .ok (.aload_n 0, 1) := by decide +kernel
theorem dX11_hangsOver_8 : decode cX11_hangsOver 8 = .ok (.getfield 33, 3) := by decide +kernel
theorem dX11_hangsOver_11 : decode cX11_hangsOver 11 = .ok (.iconst 0, 1) := by decide +kernel
theorem dX11_hangsOver_12 : decode cX11_hangsOver 12 = .ok (.iaload, 1) := by decide +kernel
theorem dX11_hangsOver_13 : decode cX11_hangsOver 13 = .ok (.if_icmp .ge 60, 3) := by decide +kernel
theorem dX11_hangsOver_73 : decode cX11_hangsOver 73 = .ok (.iload_n 3, 1) := by decide +kernel
theorem dX11_hangsOver_74 : decode cX11_hangsOver 74 = .ok (.ireturn, 1) := by decide +kernel
theorem dX11_hangsOver_16 : decode cX11_hangsOver 16 = .ok (.iload 4, 2) := by decide +kernel
theorem dX11_hangsOver_18 : decode cX11_hangsOver 18 = .ok (.iconst 1, 1) := by decide +kernel
theorem dX11_hangsOver_19 : decode cX11_hangsOver 19 = .ok (.iadd, 1) := by decide +kernel
theorem dX11_hangsOver_20 : decode cX11_hangsOver 20 = .ok (.istore 5, 2) := by decide +kernel
theorem dX11_hangsOver_22 : decode cX11_hangsOver 22 = .ok (.iload 5, 2) := by decide +kernel
theorem dX11_hangsOver_24 : decode cX11_hangsOver 24 = .ok (.aload_n 0, 1) := by decide +kernel
theorem dX11_hangsOver_25 : decode cX11_hangsOver 25 = .ok (.getfield 33, 3) := by decide +kernel
theorem dX11_hangsOver_28 : decode cX11_hangsOver 28 = .ok (.iconst 0, 1) := by decide +kernel
theorem dX11_hangsOver_29 : decode cX11_hangsOver 29 = .ok (.iaload, 1) := by decide +kernel
theorem dX11_hangsOver_30 : decode cX11_hangsOver 30 = .ok (.if_icmp .ge 37, 3) := by decide +kernel
theorem dX11_hangsOver_67 : decode cX11_hangsOver 67 = .ok (.iinc 4 1, 3) := by decide +kernel
theorem dX11_hangsOver_70 : decode cX11_hangsOver 70 = .ok (.goto (-65), 3) := by decide +kernel
theorem dX11_hangsOver_33 : decode cX11_hangsOver 33 = .ok (.iload_n 3, 1) := by decide +kernel
theorem dX11_hangsOver_34 : decode cX11_hangsOver 34 = .ok (.aload_n 0, 1) := by decide +kernel
theorem dX11_hangsOver_35 : decode cX11_hangsOver 35 = .ok (.iload 4, 2) := by decide +kernel
theorem dX11_hangsOver_37 : decode cX11_hangsOver 37 = .ok (.iload 5, 2) := by decide +kernel
theorem dX11_hangsOver_39 : decode cX11_hangsOver 39 = .ok (.iload_n 1, 1) := by decide +kernel
theorem dX11_hangsOver_40 : decode cX11_hangsOver 40 = .ok (.iload_n 2, 1) := by decide +kernel
theorem dX11_hangsOver_41 : decode cX11_hangsOver 41 = .ok (.invokevirtual 300, 3) := by decide +kernel
theorem dX11_hangsOver_44 : decode cX11_hangsOver 44 = .ok (.ifCond .eq 14, 3) := by decide +kernel
theorem dX11_hangsOver_58 : decode cX11_hangsOver 58 = .ok (.iconst 0, 1) := by decide +kernel
theorem dX11_hangsOver_59 : decode cX11_hangsOver 59 = .ok (.iadd, 1) := by decide +kernel
theorem dX11_hangsOver_60 : decode cX11_hangsOver 60 = .ok (.istore_n 3, 1) := by decide +kernel
theorem dX11_hangsOver_61 : decode cX11_hangsOver 61 = .ok (.iinc 5 1, 3) := by decide +kernel
theorem dX11_hangsOver_64 : decode cX11_hangsOver 64 = .ok (.goto (-42), 3) := by decide +kernel
theorem dX11_hangsOver_47 : decode cX11_hangsOver 47 = .ok (.aload_n 0, 1) := by decide +kernel
theorem dX11_hangsOver_48 : decode cX11_hangsOver 48 = .ok (.iload 4, 2) := by decide +kernel
theorem dX11_hangsOver_50 : decode cX11_hangsOver 50 = .ok (.iload 5, 2) := by decide +kernel
theorem dX11_hangsOver_52 : decode cX11_hangsOver 52 = .ok (.invokevirtual 291, 3) := by decide +kernel
theorem dX11_hangsOver_55 : decode cX11_hangsOver 55 = .ok (.goto 4, 3) := by decide +kernel
set_option maxHeartbeats 4000000 in
set_option maxRecDepth 100000 in
theorem b_y_power (l : Launch) (D : va_G) (cy : Nat → ClassId) (a : Int32) (n : Int32)  {p : Program} {e : Env} {s : State} {m : MethodId} {args : Array Value} {below : List Frame} {meth : Method} {c : Code} {A : Nat → Prop} {Q : State → Prop} {cells slots : Nat} (hroom : cells ≤ ((Rm 0 0 0 0)).cells ∧ slots ≤ ((Rm 0 0 0 0)).slots) (C : Cx p s m args meth c cX11_power 4 (some .int) RX11 "power" D cy A) (hQ : Q = MQ below (va_Qi (fun (r : Int32) (u : Unit) => True) (Bx D A (fun u : Unit => [])) A) args s ((Rm 0 0 0 0)).cells ((Rm 0 0 0 0)).slots A) (H : Heap) (locs : List Loc) (ls : Array Slot) (hP : va_P D vwCl [] H) (hD : va_D A []) (hS : va_S A s.heap H locs) (hl : lv_has ls 4 [(0, .int a), (1, .int n)]) : W p l e (Rm 0 0 0 0) s m args below meth c H locs cells slots Q (F0 m 0 ls []) := by
  have hx := C.1
  have hb := C.2.1
  have hqa := o_rng a
  have hqn := o_rng n
  refine lv_iconst (v := 1) hx hb dX11_power_0 (by decide) ?_
  refine lv_istore_n (lv' := [(2, .int 1), (0, .int a), (1, .int n)]) hx hb dX11_power_1 rfl hl (by decide) rfl (fun ls hl => ?_)
  refine lv_iconst (v := 0) hx hb dX11_power_2 (by decide) ?_
  refine lv_istore_n (lv' := [(3, .int 0), (2, .int 1), (0, .int a), (1, .int n)]) hx hb dX11_power_3 rfl hl (by decide) rfl (fun ls hl => ?_)
  have lp_4_2 : ∀ (n_3 : Nat) (x_1 : Int32) (x_2 : Int32) (H : Heap) (locs : List Loc) (ls : Array Slot), (-1) * x_2.toInt + 2147483647 < (n_3 : Int) → (0 ≤ x_2.toInt) → (x_2.toInt ≤ 2147483647) → va_P D vwCl [] H → va_D A [] → va_S A s.heap H locs → lv_has ls 4 [(0, .int a), (1, .int n), (2, .int x_1), (3, .int x_2)] → W p l e (Rm 0 0 0 0) s m args below meth c H locs cells slots Q (F0 m 4 ls []) := by
    intro n_3
    induction n_3 with
    | zero =>
      intro x_1 x_2 H locs ls hm_6 hf_4 hf_5 hP hD hS hl
      exact absurd hm_6 (by omega)
    | succ n_3 ih_7 =>
      intro x_1 x_2 H locs ls hm_6 hf_4 hf_5 hP hD hS hl
      refine lv_iload_n hx hb dX11_power_4 rfl (lv_at hl 3 rfl) ?_
      refine lv_iload_n hx hb dX11_power_5 rfl (lv_at hl 1 rfl) ?_
      refine lv_icmp_ge (tgt := 19) hx hb dX11_power_6 (by decide) (fun c_9 => ?_) (fun c_9 => ?_)
      · have hc_9 := o_le (rfl : n.toInt = n.toInt) (rfl : x_2.toInt = x_2.toInt) c_9
        refine lv_iload_n hx hb dX11_power_19 rfl (lv_at hl 2 rfl) ?_
        refine o_wq hQ ?_
        exact q_iret (rm := (Rm 0 0 0 0)) C hS () rfl trivial (q_subP hP [] rfl) (hD.sub [] (by decide) rfl) hroom.1 hroom.2 dX11_power_20
      · have hc_9 := o_nle (rfl : n.toInt = n.toInt) (rfl : x_2.toInt = x_2.toInt) c_9
        refine lv_iload_n hx hb dX11_power_9 rfl (lv_at hl 2 rfl) ?_
        refine lv_iload_n hx hb dX11_power_10 rfl (lv_at hl 0 rfl) ?_
        refine lv_imul hx hb dX11_power_11 ?_
        refine lv_topi (fun z_10 hz_10 => ?_)
        clear hz_10
        refine lv_istore_n (lv' := [(2, .int z_10), (0, .int a), (1, .int n), (3, .int x_2)]) hx hb dX11_power_12 rfl hl (by decide) rfl (fun ls hl => ?_)
        obtain ⟨z_11, hz_11⟩ : ∃ z : Int32, z = x_2 + 1 := ⟨_, rfl⟩
        refine lv_iinc (v := z_11) (lv' := [(3, .int z_11), (2, .int z_10), (0, .int a), (1, .int n)]) hx hb dX11_power_13 hl (k := 3) rfl hz_11.symm (by decide) rfl (fun ls hl => ?_)
        have hz_11 := o_add hz_11 (rfl : x_2.toInt = x_2.toInt) (by decide : (1 : Int32).toInt = 1) (by omega) (by omega)
        refine lv_goto (tgt := 4) hx hb dX11_power_16 (by decide) ?_
        exact ih_7 z_10 z_11 H locs ls (by omega) (by omega) (by omega) hP hD hS (lv_sub hl [2, 3, 1, 0] rfl)
  exact lp_4_2 2147483648 (1 : Int32) (0 : Int32) H locs ls (by have e0 : (0 : Int32).toInt = 0 := (by decide); have e1 : (1 : Int32).toInt = 1 := (by decide); omega) (by have e0 : (0 : Int32).toInt = 0 := (by decide); have e1 : (1 : Int32).toInt = 1 := (by decide); omega) (by have e0 : (0 : Int32).toInt = 0 := (by decide); have e1 : (1 : Int32).toInt = 1 := (by decide); omega) hP hD hS (lv_sub hl [2, 3, 1, 0] rfl)
theorem y_power (l : Launch) (D : va_G) (cy : Nat → ClassId) (a : Int32) (n : Int32) (sz : Nat)  : MI l yX11_power cX11_power 4 (some .int) (Rm 0 0 0 0) D cy [.int a, .int n] sz [] (fun (r : Int32) (u : Unit) => True) (fun u : Unit => []) := by
  refine MI.enter (by decide) (Nat.le_of_ble_eq_true rfl) ?_
  intro p e s m below meth c ls A hsz hAe C hP hD hS hl
  exact b_y_power l D cy a n  ⟨Nat.le_of_ble_eq_true rfl, Nat.le_of_ble_eq_true rfl⟩ C rfl _ _ ls hP hD hS hl
set_option maxHeartbeats 4000000 in
set_option maxRecDepth 100000 in
theorem b_y_spins (l : Launch) (D : va_G) (cy : Nat → ClassId) (q : Nat) (d : Int32) (a : Int32) (q_thrown : Int32) (q_tape_ : Nat) (q_length : Int32) (q_size : Int32) (q_p : Int32) (q_limit : Int32) (q_s_ : Nat) (q_h_ : Nat) (q_read_ : Nat) (q_names_ : Nat) (q_reserved_ : Nat) (q_token : Int32) (q_at : Int32) (q_span : Int32) (q_number : Int32) (q_fault : Int32) (q_faultAt : Int32) (q_word : Int64) (q_got : Int32) (q_lines : Int32) (q_onces : Int32) (q_webs : Int32) (q_one : Int32) (q_two : Int32) (q_seed : Int32) (q_undone_ : Nat) (q_before_ : Nat) (q_undoMany : Int32) (q_far_ : Nat) (q_wayRow_ : Nat) (q_wayMany : Int32) (q_keptRow_ : Nat) (q_askedRow_ : Nat) (q_rares_ : Nat) (q_trial_ : Nat) (q_keptMany : Int32) (q_askedMany : Int32) (q_hangs_ : Nat) (q_paths_ : Nat) (q_tornSteps : Int32) (q_hasTorn : Int32) (q_turnOne : Int32) (q_hasTurn : Int32) (q_text_ : Nat) (q_textMany : Int32) (q_toldMany : Int32) (q_toldAt_ : Nat) (q_hasTold : Int32) (q_stack_ : Nat) (q_codes : Int32) (q_ones : Int32) (q_top : Int32) (q_deep : Int32) (q_isWhole : Int32) (q_truths_ : Nat) (q_imaged_ : Nat) (q_namesKept_ : Nat) (q_areKept_ : Nat) (q_s : Nat → Int32) (q_trial : Nat → Int32) (hb0 : 0 ≤ q_length.toInt ∧ q_length.toInt ≤ 940) (hb1 : 0 ≤ q_size.toInt ∧ q_size.toInt ≤ 940) (hb2 : 0 ≤ q_p.toInt ∧ q_p.toInt ≤ 940) (hb3 : 0 ≤ q_limit.toInt ∧ q_limit.toInt ≤ 940) (hb4 : 0 ≤ q_span.toInt ∧ q_span.toInt ≤ 940) (hb5 : 0 ≤ q_number.toInt ∧ q_number.toInt ≤ 8214) (hb6 : (-1) ≤ q_got.toInt ∧ q_got.toInt ≤ 8214) (hb7 : 0 ≤ q_one.toInt ∧ q_one.toInt ≤ 7) (hb8 : 0 ≤ q_two.toInt ∧ q_two.toInt ≤ 7) (hb9 : 0 ≤ q_undoMany.toInt ∧ q_undoMany.toInt ≤ 8) (hb10 : (-1) ≤ q_wayMany.toInt ∧ q_wayMany.toInt ≤ 8) (hb11 : (-1) ≤ q_keptMany.toInt ∧ q_keptMany.toInt ≤ 8) (hb12 : (-1) ≤ q_askedMany.toInt ∧ q_askedMany.toInt ≤ 3) (hb13 : 0 ≤ q_hasTorn.toInt ∧ q_hasTorn.toInt ≤ 1) (hb14 : 0 ≤ q_hasTurn.toInt ∧ q_hasTurn.toInt ≤ 1) (hb15 : 0 ≤ q_textMany.toInt ∧ q_textMany.toInt ≤ 48) (hb16 : 0 ≤ q_toldMany.toInt ∧ q_toldMany.toInt ≤ 40) (hb17 : 0 ≤ q_hasTold.toInt ∧ q_hasTold.toInt ≤ 1) (hb18 : 0 ≤ q_codes.toInt ∧ q_codes.toInt ≤ 40) (hb19 : 0 ≤ q_ones.toInt ∧ q_ones.toInt ≤ 20) (hb20 : 0 ≤ q_top.toInt ∧ q_top.toInt ≤ 40) (hb21 : 0 ≤ q_isWhole.toInt ∧ q_isWhole.toInt ≤ 1) (hb22 : a.toInt ≤ 7) (hR0 : Rg q_s 0 1 0 8) (hR1 : Rg q_s 1 3 0 6) (hR2 : Rg q_s 3 4 1 50) (hR3 : Rg q_s 4 5 1 5) (hR4 : Rg q_s 103 104 0 255) (hR5 : Rg q_s 7 23 0 5) (hR6 : Rg q_s 106 122 0 5) (hR7 : Rg q_s 23 31 0 99) (hR8 : Rg q_s 122 130 0 99) {p : Program} {e : Env} {s : State} {m : MethodId} {args : Array Value} {below : List Frame} {meth : Method} {c : Code} {A : Nat → Prop} {Q : State → Prop} {cells slots : Nat} (hroom : cells ≤ ((Rm 2 42 0 0)).cells ∧ slots ≤ ((Rm 2 42 0 0)).slots) (C : Cx p s m args meth c cX11_spins 4 none RX11 "spins" D cy A) (hQ : Q = MQ below (va_Qv (fun u : (Nat → Int32) => True) (Bx D A (fun u : (Nat → Int32) => [(q, oC11 q_thrown q_tape_ q_length q_size q_p q_limit q_s_ q_h_ q_read_ q_names_ q_reserved_ q_token q_at q_span q_number q_fault q_faultAt q_word q_got q_lines q_onces q_webs q_one q_two q_seed q_undone_ q_before_ q_undoMany q_far_ q_wayRow_ q_wayMany q_keptRow_ q_askedRow_ q_rares_ q_trial_ q_keptMany q_askedMany q_hangs_ q_paths_ q_tornSteps q_hasTorn q_turnOne q_hasTurn q_text_ q_textMany q_toldMany q_toldAt_ q_hasTold q_stack_ q_codes q_ones q_top q_deep q_isWhole q_truths_ q_imaged_ q_namesKept_ q_areKept_), (q_s_, aC1 cy 383 q_s), (q_trial_, aC1 cy 8 u)])) A) args s ((Rm 2 42 0 0)).cells ((Rm 2 42 0 0)).slots A) (H : Heap) (locs : List Loc) (ls : Array Slot) (hP : va_P D vwCl [(q, oC11 q_thrown q_tape_ q_length q_size q_p q_limit q_s_ q_h_ q_read_ q_names_ q_reserved_ q_token q_at q_span q_number q_fault q_faultAt q_word q_got q_lines q_onces q_webs q_one q_two q_seed q_undone_ q_before_ q_undoMany q_far_ q_wayRow_ q_wayMany q_keptRow_ q_askedRow_ q_rares_ q_trial_ q_keptMany q_askedMany q_hangs_ q_paths_ q_tornSteps q_hasTorn q_turnOne q_hasTurn q_text_ q_textMany q_toldMany q_toldAt_ q_hasTold q_stack_ q_codes q_ones q_top q_deep q_isWhole q_truths_ q_imaged_ q_namesKept_ q_areKept_), (q_s_, aC1 cy 383 q_s), (q_trial_, aC1 cy 8 q_trial)] H) (hD : va_D A [(q, oC11 q_thrown q_tape_ q_length q_size q_p q_limit q_s_ q_h_ q_read_ q_names_ q_reserved_ q_token q_at q_span q_number q_fault q_faultAt q_word q_got q_lines q_onces q_webs q_one q_two q_seed q_undone_ q_before_ q_undoMany q_far_ q_wayRow_ q_wayMany q_keptRow_ q_askedRow_ q_rares_ q_trial_ q_keptMany q_askedMany q_hangs_ q_paths_ q_tornSteps q_hasTorn q_turnOne q_hasTurn q_text_ q_textMany q_toldMany q_toldAt_ q_hasTold q_stack_ q_codes q_ones q_top q_deep q_isWhole q_truths_ q_imaged_ q_namesKept_ q_areKept_), (q_s_, aC1 cy 383 q_s), (q_trial_, aC1 cy 8 q_trial)]) (hS : va_S A s.heap H locs) (hl : lv_has ls 4 [(0, .ref q), (1, .int d), (2, .int a)]) : W p l e (Rm 2 42 0 0) s m args below meth c H locs cells slots Q (F0 m 0 ls []) := by
  have hx := C.1
  have hb := C.2.1
  have hqd := o_rng d
  refine lv_iload_n hx hb dX11_spins_0 rfl (lv_at hl 2 rfl) ?_
  refine lv_if_lt (tgt := 11) hx hb dX11_spins_1 (by decide) (fun c_1 => ?_) (fun c_1 => ?_)
  · have hc_1 := o_lt (rfl : a.toInt = a.toInt) (by decide : (0 : Int32).toInt = 0) c_1
    refine lv_iconst (v := 0) hx hb dX11_spins_11 (by decide) ?_
    refine lv_istore_n (lv' := [(3, .int 0), (0, .ref q), (1, .int d), (2, .int a)]) hx hb dX11_spins_12 rfl hl (by decide) rfl (fun ls hl => ?_)
    have lp_13_3 : ∀ (n_4 : Nat) (x_2 : Int32) (g_3 : Nat → Int32) (H : Heap) (locs : List Loc) (ls : Array Slot), (-1) * x_2.toInt + 8 < (n_4 : Int) → (0 ≤ x_2.toInt ∧ x_2.toInt ≤ 8) → va_P D vwCl [(q, oC11 q_thrown q_tape_ q_length q_size q_p q_limit q_s_ q_h_ q_read_ q_names_ q_reserved_ q_token q_at q_span q_number q_fault q_faultAt q_word q_got q_lines q_onces q_webs q_one q_two q_seed q_undone_ q_before_ q_undoMany q_far_ q_wayRow_ q_wayMany q_keptRow_ q_askedRow_ q_rares_ q_trial_ q_keptMany q_askedMany q_hangs_ q_paths_ q_tornSteps q_hasTorn q_turnOne q_hasTurn q_text_ q_textMany q_toldMany q_toldAt_ q_hasTold q_stack_ q_codes q_ones q_top q_deep q_isWhole q_truths_ q_imaged_ q_namesKept_ q_areKept_), (q_s_, aC1 cy 383 q_s), (q_trial_, aC1 cy 8 g_3)] H → va_D A [(q, oC11 q_thrown q_tape_ q_length q_size q_p q_limit q_s_ q_h_ q_read_ q_names_ q_reserved_ q_token q_at q_span q_number q_fault q_faultAt q_word q_got q_lines q_onces q_webs q_one q_two q_seed q_undone_ q_before_ q_undoMany q_far_ q_wayRow_ q_wayMany q_keptRow_ q_askedRow_ q_rares_ q_trial_ q_keptMany q_askedMany q_hangs_ q_paths_ q_tornSteps q_hasTorn q_turnOne q_hasTurn q_text_ q_textMany q_toldMany q_toldAt_ q_hasTold q_stack_ q_codes q_ones q_top q_deep q_isWhole q_truths_ q_imaged_ q_namesKept_ q_areKept_), (q_s_, aC1 cy 383 q_s), (q_trial_, aC1 cy 8 g_3)] → va_S A s.heap H locs → lv_has ls 4 [(0, .ref q), (1, .int d), (2, .int a), (3, .int x_2)] → W p l e (Rm 2 42 0 0) s m args below meth c H locs cells slots Q (F0 m 13 ls []) := by
      intro n_4
      induction n_4 with
      | zero =>
        intro x_2 g_3 H locs ls hm_6 hf_5 hP hD hS hl
        exact absurd hm_6 (by omega)
      | succ n_4 ih_7 =>
        intro x_2 g_3 H locs ls hm_6 hf_5 hP hD hS hl
        refine lv_iload_n hx hb dX11_spins_13 rfl (lv_at hl 3 rfl) ?_
        refine lv_aload_n hx hb dX11_spins_14 rfl (lv_at hl 0 rfl) ?_
        refine q_get11 (v := .ref q_s_) C hP 0 6 rfl fT_6 (by decide) kF_RX11_33 rfl dX11_spins_15 ?_
        refine lv_iconst (v := 0) hx hb dX11_spins_18 (by decide) ?_
        refine q_iald (v := q_s 0) C hP 1 rfl (vin (by decide +kernel)) rfl dX11_spins_19 ?_
        refine lv_topi (fun z_9 ez_9 => ?_)
        have hz_9 : 0 ≤ z_9.toInt ∧ z_9.toInt ≤ 8 := (by rw [ez_9]; exact hR0 0 (by decide) (by decide))
        refine lv_icmp_ge (tgt := 70) hx hb dX11_spins_20 (by decide) (fun c_10 => ?_) (fun c_10 => ?_)
        · have hc_10 := o_le (rfl : z_9.toInt = z_9.toInt) (rfl : x_2.toInt = x_2.toInt) c_10
          refine o_wq hQ ?_
          exact q_vret (rm := (Rm 2 42 0 0)) C hS g_3 trivial (q_subP hP [0, 1, 2] rfl) (hD.sub [0, 1, 2] (by decide) rfl) hroom.1 hroom.2 dX11_spins_70
        · have hc_10 := o_nle (rfl : z_9.toInt = z_9.toInt) (rfl : x_2.toInt = x_2.toInt) c_10
          refine lv_iload_n hx hb dX11_spins_23 rfl (lv_at hl 3 rfl) ?_
          refine lv_iload_n hx hb dX11_spins_24 rfl (lv_at hl 2 rfl) ?_
          refine lv_icmp_eq (tgt := 64) hx hb dX11_spins_25 (by decide) (fun c_0 => absurd c_0 (o_mne (rfl : x_2.toInt = x_2.toInt) (rfl : a.toInt = a.toInt) (by omega))) (fun _ => ?_)
          refine lv_iload_n hx hb dX11_spins_28 rfl (lv_at hl 1 rfl) ?_
          have cut_40_10 : ∀  (H : Heap) (locs : List Loc) (ls : Array Slot), va_P D vwCl [(q, oC11 q_thrown q_tape_ q_length q_size q_p q_limit q_s_ q_h_ q_read_ q_names_ q_reserved_ q_token q_at q_span q_number q_fault q_faultAt q_word q_got q_lines q_onces q_webs q_one q_two q_seed q_undone_ q_before_ q_undoMany q_far_ q_wayRow_ q_wayMany q_keptRow_ q_askedRow_ q_rares_ q_trial_ q_keptMany q_askedMany q_hangs_ q_paths_ q_tornSteps q_hasTorn q_turnOne q_hasTurn q_text_ q_textMany q_toldMany q_toldAt_ q_hasTold q_stack_ q_codes q_ones q_top q_deep q_isWhole q_truths_ q_imaged_ q_namesKept_ q_areKept_), (q_s_, aC1 cy 383 q_s), (q_trial_, aC1 cy 8 g_3)] H → va_D A [(q, oC11 q_thrown q_tape_ q_length q_size q_p q_limit q_s_ q_h_ q_read_ q_names_ q_reserved_ q_token q_at q_span q_number q_fault q_faultAt q_word q_got q_lines q_onces q_webs q_one q_two q_seed q_undone_ q_before_ q_undoMany q_far_ q_wayRow_ q_wayMany q_keptRow_ q_askedRow_ q_rares_ q_trial_ q_keptMany q_askedMany q_hangs_ q_paths_ q_tornSteps q_hasTorn q_turnOne q_hasTurn q_text_ q_textMany q_toldMany q_toldAt_ q_hasTold q_stack_ q_codes q_ones q_top q_deep q_isWhole q_truths_ q_imaged_ q_namesKept_ q_areKept_), (q_s_, aC1 cy 383 q_s), (q_trial_, aC1 cy 8 g_3)] → va_S A s.heap H locs → lv_has ls 4 [(0, .ref q), (1, .int d), (2, .int a), (3, .int x_2)] → W p l e (Rm 2 42 0 0) s m args below meth c H locs cells slots Q (F0 m 40 ls []) := by
            intro  H locs ls  hP hD hS hl
            refine lv_aload_n hx hb dX11_spins_40 rfl (lv_at hl 0 rfl) ?_
            refine q_get11 (v := .ref q_trial_) C hP 0 34 rfl fT_34 (by decide) kF_RX11_74 rfl dX11_spins_41 ?_
            refine lv_iload_n hx hb dX11_spins_44 rfl (lv_at hl 3 rfl) ?_
            refine lv_bipush (v := 99) hx hb dX11_spins_45 (by decide) ?_
            refine lv_aload_n hx hb dX11_spins_47 rfl (lv_at hl 0 rfl) ?_
            refine q_get11 (v := .ref q_trial_) C hP 0 34 rfl fT_34 (by decide) kF_RX11_74 rfl dX11_spins_48 ?_
            refine lv_iload_n hx hb dX11_spins_51 rfl (lv_at hl 3 rfl) ?_
            refine q_iald (v := g_3 x_2.toNatClampNeg) C hP 2 rfl (o_in (rfl : x_2.toInt = x_2.toInt) (by omega) (by omega)) rfl dX11_spins_52 ?_
            refine lv_topi (fun z_12 ez_12 => ?_)
            refine lv_aload_n hx hb dX11_spins_53 rfl (lv_at hl 0 rfl) ?_
            refine q_get11 (v := .ref q_s_) C hP 0 6 rfl fT_6 (by decide) kF_RX11_33 rfl dX11_spins_54 ?_
            refine lv_iconst (v := 4) hx hb dX11_spins_57 (by decide) ?_
            refine q_iald (v := q_s 4) C hP 1 rfl (vin (by decide +kernel)) rfl dX11_spins_58 ?_
            refine lv_topi (fun z_13 ez_13 => ?_)
            have hz_13 : 1 ≤ z_13.toInt ∧ z_13.toInt ≤ 5 := (by rw [ez_13]; exact hR3 4 (by decide) (by decide))
            refine lv_iadd hx hb dX11_spins_59 ?_
            refine lv_topi (fun z_14 hz_14 => ?_)
            clear hz_14
            refine q_ai (wr := [(q, oC11 q_thrown q_tape_ q_length q_size q_p q_limit q_s_ q_h_ q_read_ q_names_ q_reserved_ q_token q_at q_span q_number q_fault q_faultAt q_word q_got q_lines q_onces q_webs q_one q_two q_seed q_undone_ q_before_ q_undoMany q_far_ q_wayRow_ q_wayMany q_keptRow_ q_askedRow_ q_rares_ q_trial_ q_keptMany q_askedMany q_hangs_ q_paths_ q_tornSteps q_hasTorn q_turnOne q_hasTurn q_text_ q_textMany q_toldMany q_toldAt_ q_hasTold q_stack_ q_codes q_ones q_top q_deep q_isWhole q_truths_ q_imaged_ q_namesKept_ q_areKept_), (q_s_, aC1 cy 383 q_s), (q_trial_, aC1 cy 8 g_3)]) (r_S (rm := (Rm 0 0 0 0)) (As := [.int 99, .int z_14]) (rest := [.int x_2, .ref q_trial_]) (wc := []) C hS (q_subP hP [] rfl) (hD.sub [] (by decide) rfl) (y_lesser l D cy 99 z_14 _ ) kwS_X11_lesser kM_RX11_294 ⟨Nat.le_of_ble_eq_true rfl, Nat.le_of_ble_eq_true rfl⟩ rfl hl.1 rfl (Nat.le_of_ble_eq_true rfl) dX11_spins_60 ⟨hroom.1, hroom.2⟩) C.2.2.2.2.2.2.1 hP hD hS [] [0, 1, 2] rfl rfl (by decide) (by decide) (fun r_16 u_15 H locs hw_17 hP hD hS => ?_)
            have hp_17 : 0 ≤ (-1) * r_16.toInt + 99 ∧ 0 ≤ z_14.toInt + (-1) * r_16.toInt := by have e0 : (99 : Int32).toInt = 99 := (by decide); have h0 : 0 ≤ (99 : Int32).toInt + (-1) * r_16.toInt ∧ 0 ≤ z_14.toInt + (-1) * r_16.toInt := hw_17.1; omega
            have hp_18 : (r_16.toInt = (99 : Int32).toInt ∧ (99 : Int32).toInt ≤ z_14.toInt) ∨ (r_16.toInt = z_14.toInt ∧ z_14.toInt ≤ (99 : Int32).toInt) := hw_17.2.1
            have hp_19 : (0 ≤ 99 ∧ 0 ≤ z_14.toInt) → (0 ≤ r_16.toInt) := by have e0 : (99 : Int32).toInt = 99 := (by decide); have h0 : (0 ≤ (99 : Int32).toInt ∧ 0 ≤ z_14.toInt) → (0 ≤ r_16.toInt) := hw_17.2.2; omega
            clear hw_17
            refine q_iast (g := upd g_3 x_2.toNatClampNeg r_16) (w' := [(q, oC11 q_thrown q_tape_ q_length q_size q_p q_limit q_s_ q_h_ q_read_ q_names_ q_reserved_ q_token q_at q_span q_number q_fault q_faultAt q_word q_got q_lines q_onces q_webs q_one q_two q_seed q_undone_ q_before_ q_undoMany q_far_ q_wayRow_ q_wayMany q_keptRow_ q_askedRow_ q_rares_ q_trial_ q_keptMany q_askedMany q_hangs_ q_paths_ q_tornSteps q_hasTorn q_turnOne q_hasTurn q_text_ q_textMany q_toldMany q_toldAt_ q_hasTold q_stack_ q_codes q_ones q_top q_deep q_isWhole q_truths_ q_imaged_ q_namesKept_ q_areKept_), (q_s_, aC1 cy 383 q_s), (q_trial_, aC1 cy 8 (upd g_3 x_2.toNatClampNeg r_16))]) C hP hD hS 2 rfl (o_in (rfl : x_2.toInt = x_2.toInt) (by omega) (by omega)) rfl rfl dX11_spins_63 (fun H locs hP hD hS => ?_)
            generalize upd g_3 x_2.toNatClampNeg r_16 = g_21 at hP hD 
            have hP : va_P D vwCl [(q, oC11 q_thrown q_tape_ q_length q_size q_p q_limit q_s_ q_h_ q_read_ q_names_ q_reserved_ q_token q_at q_span q_number q_fault q_faultAt q_word q_got q_lines q_onces q_webs q_one q_two q_seed q_undone_ q_before_ q_undoMany q_far_ q_wayRow_ q_wayMany q_keptRow_ q_askedRow_ q_rares_ q_trial_ q_keptMany q_askedMany q_hangs_ q_paths_ q_tornSteps q_hasTorn q_turnOne q_hasTurn q_text_ q_textMany q_toldMany q_toldAt_ q_hasTold q_stack_ q_codes q_ones q_top q_deep q_isWhole q_truths_ q_imaged_ q_namesKept_ q_areKept_), (q_s_, aC1 cy 383 q_s), (q_trial_, aC1 cy 8 g_21)] H := hP
            have hD : va_D A [(q, oC11 q_thrown q_tape_ q_length q_size q_p q_limit q_s_ q_h_ q_read_ q_names_ q_reserved_ q_token q_at q_span q_number q_fault q_faultAt q_word q_got q_lines q_onces q_webs q_one q_two q_seed q_undone_ q_before_ q_undoMany q_far_ q_wayRow_ q_wayMany q_keptRow_ q_askedRow_ q_rares_ q_trial_ q_keptMany q_askedMany q_hangs_ q_paths_ q_tornSteps q_hasTorn q_turnOne q_hasTurn q_text_ q_textMany q_toldMany q_toldAt_ q_hasTold q_stack_ q_codes q_ones q_top q_deep q_isWhole q_truths_ q_imaged_ q_namesKept_ q_areKept_), (q_s_, aC1 cy 383 q_s), (q_trial_, aC1 cy 8 g_21)] := hD
            obtain ⟨z_22, hz_22⟩ : ∃ z : Int32, z = x_2 + 1 := ⟨_, rfl⟩
            refine lv_iinc (v := z_22) (lv' := [(3, .int z_22), (0, .ref q), (1, .int d), (2, .int a)]) hx hb dX11_spins_64 hl (k := 3) rfl hz_22.symm (by decide) rfl (fun ls hl => ?_)
            have hz_22 := o_add hz_22 (rfl : x_2.toInt = x_2.toInt) (by decide : (1 : Int32).toInt = 1) (by omega) (by omega)
            refine lv_goto (tgt := 13) hx hb dX11_spins_67 (by decide) ?_
            exact ih_7 z_22 g_21 H locs ls (by omega) (by omega) hP hD hS (lv_sub hl [1, 2, 3, 0] rfl)
          refine lv_if_ne (tgt := 40) hx hb dX11_spins_29 (by decide) (fun c_23 => ?_) (fun c_23 => ?_)
          · have hc_23 := o_ne (rfl : d.toInt = d.toInt) (by decide : (0 : Int32).toInt = 0) c_23
            exact cut_40_10  H locs ls   hP hD hS (lv_sub hl [0, 1, 2, 3] rfl)
          · have hc_23 := o_eq (rfl : d.toInt = d.toInt) (by decide : (0 : Int32).toInt = 0) c_23
            refine lv_aload_n hx hb dX11_spins_32 rfl (lv_at hl 0 rfl) ?_
            refine lv_iload_n hx hb dX11_spins_33 rfl (lv_at hl 3 rfl) ?_
            refine q_ai (wr := [(q_trial_, aC1 cy 8 g_3)]) (r_V (rm := (Rm 1 21 0 0)) (q0 := 0) (As := [.int x_2]) (rest := []) (wc := [(q, oC11 q_thrown q_tape_ q_length q_size q_p q_limit q_s_ q_h_ q_read_ q_names_ q_reserved_ q_token q_at q_span q_number q_fault q_faultAt q_word q_got q_lines q_onces q_webs q_one q_two q_seed q_undone_ q_before_ q_undoMany q_far_ q_wayRow_ q_wayMany q_keptRow_ q_askedRow_ q_rares_ q_trial_ q_keptMany q_askedMany q_hangs_ q_paths_ q_tornSteps q_hasTorn q_turnOne q_hasTurn q_text_ q_textMany q_toldMany q_toldAt_ q_hasTold q_stack_ q_codes q_ones q_top q_deep q_isWhole q_truths_ q_imaged_ q_namesKept_ q_areKept_), (q_s_, aC1 cy 383 q_s)]) C hS (q_subP hP [0, 1] rfl) (hD.sub [0, 1] (by decide) rfl) (y_isAsked l D cy q x_2 q_thrown q_tape_ q_length q_size q_p q_limit q_s_ q_h_ q_read_ q_names_ q_reserved_ q_token q_at q_span q_number q_fault q_faultAt q_word q_got q_lines q_onces q_webs q_one q_two q_seed q_undone_ q_before_ q_undoMany q_far_ q_wayRow_ q_wayMany q_keptRow_ q_askedRow_ q_rares_ q_trial_ q_keptMany q_askedMany q_hangs_ q_paths_ q_tornSteps q_hasTorn q_turnOne q_hasTurn q_text_ q_textMany q_toldMany q_toldAt_ q_hasTold q_stack_ q_codes q_ones q_top q_deep q_isWhole q_truths_ q_imaged_ q_namesKept_ q_areKept_ q_s _ (by omega) (by omega) (by omega) (by omega) (by omega) (by omega) (by omega) (by omega) (by omega) (by omega) (by omega) (by omega) (by omega) (by omega) (by omega) (by omega) (by omega) (by omega) (by omega) (by omega) (by omega) (by omega) hR0 hR1 hR2 hR3 hR4 hR5 hR6 hR7 hR8) kwV_X11_isAsked kM_RX11_338 rfl rfl ⟨Nat.le_of_ble_eq_true rfl, Nat.le_of_ble_eq_true rfl⟩ rfl hl.1 rfl (Nat.le_of_ble_eq_true rfl) dX11_spins_34 ⟨hroom.1, hroom.2⟩) C.2.2.2.2.2.2.1 hP hD hS [0, 1] [2] rfl rfl (by decide) (by decide) (fun r_25 u_24 H locs hw_26 hP hD hS => ?_)
            have hp_26 : 0 ≤ r_25.toInt ∧ r_25.toInt ≤ 1 := hw_26
            clear hw_26
            refine lv_if_ne (tgt := 64) hx hb dX11_spins_37 (by decide) (fun c_28 => ?_) (fun c_28 => ?_)
            · have hc_28 := o_ne (rfl : r_25.toInt = r_25.toInt) (by decide : (0 : Int32).toInt = 0) c_28
              obtain ⟨z_29, hz_29⟩ : ∃ z : Int32, z = x_2 + 1 := ⟨_, rfl⟩
              refine lv_iinc (v := z_29) (lv' := [(3, .int z_29), (0, .ref q), (1, .int d), (2, .int a)]) hx hb dX11_spins_64 hl (k := 3) rfl hz_29.symm (by decide) rfl (fun ls hl => ?_)
              have hz_29 := o_add hz_29 (rfl : x_2.toInt = x_2.toInt) (by decide : (1 : Int32).toInt = 1) (by omega) (by omega)
              refine lv_goto (tgt := 13) hx hb dX11_spins_67 (by decide) ?_
              exact ih_7 z_29 g_3 H locs ls (by omega) (by omega) (q_subP hP [1, 2, 0] rfl) (hD.sub [1, 2, 0] (by decide) rfl) hS (lv_sub hl [1, 2, 3, 0] rfl)
            · have hc_28 := o_eq (rfl : r_25.toInt = r_25.toInt) (by decide : (0 : Int32).toInt = 0) c_28
              exact cut_40_10  H locs ls   (q_subP hP [1, 2, 0] rfl) (hD.sub [1, 2, 0] (by decide) rfl) hS (lv_sub hl [0, 1, 2, 3] rfl)
    exact lp_13_3 9 (0 : Int32) q_trial H locs ls (by have e0 : (0 : Int32).toInt = 0 := (by decide); omega) (by have e0 : (0 : Int32).toInt = 0 := (by decide); omega) hP hD hS (lv_sub hl [1, 2, 3, 0] rfl)
  · have hc_1 := o_nlt (rfl : a.toInt = a.toInt) (by decide : (0 : Int32).toInt = 0) c_1
    refine lv_aload_n hx hb dX11_spins_4 rfl (lv_at hl 0 rfl) ?_
    refine q_get11 (v := .ref q_trial_) C hP 0 34 rfl fT_34 (by decide) kF_RX11_74 rfl dX11_spins_5 ?_
    refine lv_iload_n hx hb dX11_spins_8 rfl (lv_at hl 2 rfl) ?_
    refine lv_iconst (v := 0) hx hb dX11_spins_9 (by decide) ?_
    refine q_iast (g := upd q_trial a.toNatClampNeg 0) (w' := [(q, oC11 q_thrown q_tape_ q_length q_size q_p q_limit q_s_ q_h_ q_read_ q_names_ q_reserved_ q_token q_at q_span q_number q_fault q_faultAt q_word q_got q_lines q_onces q_webs q_one q_two q_seed q_undone_ q_before_ q_undoMany q_far_ q_wayRow_ q_wayMany q_keptRow_ q_askedRow_ q_rares_ q_trial_ q_keptMany q_askedMany q_hangs_ q_paths_ q_tornSteps q_hasTorn q_turnOne q_hasTurn q_text_ q_textMany q_toldMany q_toldAt_ q_hasTold q_stack_ q_codes q_ones q_top q_deep q_isWhole q_truths_ q_imaged_ q_namesKept_ q_areKept_), (q_s_, aC1 cy 383 q_s), (q_trial_, aC1 cy 8 (upd q_trial a.toNatClampNeg 0))]) C hP hD hS 2 rfl (o_in (rfl : a.toInt = a.toInt) (by omega) (by omega)) rfl rfl dX11_spins_10 (fun H locs hP hD hS => ?_)
    generalize upd q_trial a.toNatClampNeg 0 = g_30 at hP hD 
    have hP : va_P D vwCl [(q, oC11 q_thrown q_tape_ q_length q_size q_p q_limit q_s_ q_h_ q_read_ q_names_ q_reserved_ q_token q_at q_span q_number q_fault q_faultAt q_word q_got q_lines q_onces q_webs q_one q_two q_seed q_undone_ q_before_ q_undoMany q_far_ q_wayRow_ q_wayMany q_keptRow_ q_askedRow_ q_rares_ q_trial_ q_keptMany q_askedMany q_hangs_ q_paths_ q_tornSteps q_hasTorn q_turnOne q_hasTurn q_text_ q_textMany q_toldMany q_toldAt_ q_hasTold q_stack_ q_codes q_ones q_top q_deep q_isWhole q_truths_ q_imaged_ q_namesKept_ q_areKept_), (q_s_, aC1 cy 383 q_s), (q_trial_, aC1 cy 8 g_30)] H := hP
    have hD : va_D A [(q, oC11 q_thrown q_tape_ q_length q_size q_p q_limit q_s_ q_h_ q_read_ q_names_ q_reserved_ q_token q_at q_span q_number q_fault q_faultAt q_word q_got q_lines q_onces q_webs q_one q_two q_seed q_undone_ q_before_ q_undoMany q_far_ q_wayRow_ q_wayMany q_keptRow_ q_askedRow_ q_rares_ q_trial_ q_keptMany q_askedMany q_hangs_ q_paths_ q_tornSteps q_hasTorn q_turnOne q_hasTurn q_text_ q_textMany q_toldMany q_toldAt_ q_hasTold q_stack_ q_codes q_ones q_top q_deep q_isWhole q_truths_ q_imaged_ q_namesKept_ q_areKept_), (q_s_, aC1 cy 383 q_s), (q_trial_, aC1 cy 8 g_30)] := hD
    refine lv_iconst (v := 0) hx hb dX11_spins_11 (by decide) ?_
    refine lv_istore_n (lv' := [(3, .int 0), (0, .ref q), (1, .int d), (2, .int a)]) hx hb dX11_spins_12 rfl hl (by decide) rfl (fun ls hl => ?_)
    have lp_13_32 : ∀ (n_33 : Nat) (x_31 : Int32) (g_32 : Nat → Int32) (H : Heap) (locs : List Loc) (ls : Array Slot), (-1) * x_31.toInt + 8 < (n_33 : Int) → (0 ≤ x_31.toInt ∧ x_31.toInt ≤ 8) → va_P D vwCl [(q, oC11 q_thrown q_tape_ q_length q_size q_p q_limit q_s_ q_h_ q_read_ q_names_ q_reserved_ q_token q_at q_span q_number q_fault q_faultAt q_word q_got q_lines q_onces q_webs q_one q_two q_seed q_undone_ q_before_ q_undoMany q_far_ q_wayRow_ q_wayMany q_keptRow_ q_askedRow_ q_rares_ q_trial_ q_keptMany q_askedMany q_hangs_ q_paths_ q_tornSteps q_hasTorn q_turnOne q_hasTurn q_text_ q_textMany q_toldMany q_toldAt_ q_hasTold q_stack_ q_codes q_ones q_top q_deep q_isWhole q_truths_ q_imaged_ q_namesKept_ q_areKept_), (q_s_, aC1 cy 383 q_s), (q_trial_, aC1 cy 8 g_32)] H → va_D A [(q, oC11 q_thrown q_tape_ q_length q_size q_p q_limit q_s_ q_h_ q_read_ q_names_ q_reserved_ q_token q_at q_span q_number q_fault q_faultAt q_word q_got q_lines q_onces q_webs q_one q_two q_seed q_undone_ q_before_ q_undoMany q_far_ q_wayRow_ q_wayMany q_keptRow_ q_askedRow_ q_rares_ q_trial_ q_keptMany q_askedMany q_hangs_ q_paths_ q_tornSteps q_hasTorn q_turnOne q_hasTurn q_text_ q_textMany q_toldMany q_toldAt_ q_hasTold q_stack_ q_codes q_ones q_top q_deep q_isWhole q_truths_ q_imaged_ q_namesKept_ q_areKept_), (q_s_, aC1 cy 383 q_s), (q_trial_, aC1 cy 8 g_32)] → va_S A s.heap H locs → lv_has ls 4 [(0, .ref q), (1, .int d), (2, .int a), (3, .int x_31)] → W p l e (Rm 2 42 0 0) s m args below meth c H locs cells slots Q (F0 m 13 ls []) := by
      intro n_33
      induction n_33 with
      | zero =>
        intro x_31 g_32 H locs ls hm_35 hf_34 hP hD hS hl
        exact absurd hm_35 (by omega)
      | succ n_33 ih_36 =>
        intro x_31 g_32 H locs ls hm_35 hf_34 hP hD hS hl
        refine lv_iload_n hx hb dX11_spins_13 rfl (lv_at hl 3 rfl) ?_
        refine lv_aload_n hx hb dX11_spins_14 rfl (lv_at hl 0 rfl) ?_
        refine q_get11 (v := .ref q_s_) C hP 0 6 rfl fT_6 (by decide) kF_RX11_33 rfl dX11_spins_15 ?_
        refine lv_iconst (v := 0) hx hb dX11_spins_18 (by decide) ?_
        refine q_iald (v := q_s 0) C hP 1 rfl (vin (by decide +kernel)) rfl dX11_spins_19 ?_
        refine lv_topi (fun z_38 ez_38 => ?_)
        have hz_38 : 0 ≤ z_38.toInt ∧ z_38.toInt ≤ 8 := (by rw [ez_38]; exact hR0 0 (by decide) (by decide))
        refine lv_icmp_ge (tgt := 70) hx hb dX11_spins_20 (by decide) (fun c_39 => ?_) (fun c_39 => ?_)
        · have hc_39 := o_le (rfl : z_38.toInt = z_38.toInt) (rfl : x_31.toInt = x_31.toInt) c_39
          refine o_wq hQ ?_
          exact q_vret (rm := (Rm 2 42 0 0)) C hS g_32 trivial (q_subP hP [0, 1, 2] rfl) (hD.sub [0, 1, 2] (by decide) rfl) hroom.1 hroom.2 dX11_spins_70
        · have hc_39 := o_nle (rfl : z_38.toInt = z_38.toInt) (rfl : x_31.toInt = x_31.toInt) c_39
          refine lv_iload_n hx hb dX11_spins_23 rfl (lv_at hl 3 rfl) ?_
          refine lv_iload_n hx hb dX11_spins_24 rfl (lv_at hl 2 rfl) ?_
          refine lv_icmp_eq (tgt := 64) hx hb dX11_spins_25 (by decide) (fun c_40 => ?_) (fun c_40 => ?_)
          · have hc_40 := o_eq (rfl : x_31.toInt = x_31.toInt) (rfl : a.toInt = a.toInt) c_40
            obtain ⟨z_41, hz_41⟩ : ∃ z : Int32, z = x_31 + 1 := ⟨_, rfl⟩
            refine lv_iinc (v := z_41) (lv' := [(3, .int z_41), (0, .ref q), (1, .int d), (2, .int a)]) hx hb dX11_spins_64 hl (k := 3) rfl hz_41.symm (by decide) rfl (fun ls hl => ?_)
            have hz_41 := o_add hz_41 (rfl : x_31.toInt = x_31.toInt) (by decide : (1 : Int32).toInt = 1) (by omega) (by omega)
            refine lv_goto (tgt := 13) hx hb dX11_spins_67 (by decide) ?_
            exact ih_36 z_41 g_32 H locs ls (by omega) (by omega) hP hD hS (lv_sub hl [1, 2, 3, 0] rfl)
          · have hc_40 := o_ne (rfl : x_31.toInt = x_31.toInt) (rfl : a.toInt = a.toInt) c_40
            refine lv_iload_n hx hb dX11_spins_28 rfl (lv_at hl 1 rfl) ?_
            have cut_40_41 : ∀  (H : Heap) (locs : List Loc) (ls : Array Slot), va_P D vwCl [(q, oC11 q_thrown q_tape_ q_length q_size q_p q_limit q_s_ q_h_ q_read_ q_names_ q_reserved_ q_token q_at q_span q_number q_fault q_faultAt q_word q_got q_lines q_onces q_webs q_one q_two q_seed q_undone_ q_before_ q_undoMany q_far_ q_wayRow_ q_wayMany q_keptRow_ q_askedRow_ q_rares_ q_trial_ q_keptMany q_askedMany q_hangs_ q_paths_ q_tornSteps q_hasTorn q_turnOne q_hasTurn q_text_ q_textMany q_toldMany q_toldAt_ q_hasTold q_stack_ q_codes q_ones q_top q_deep q_isWhole q_truths_ q_imaged_ q_namesKept_ q_areKept_), (q_s_, aC1 cy 383 q_s), (q_trial_, aC1 cy 8 g_32)] H → va_D A [(q, oC11 q_thrown q_tape_ q_length q_size q_p q_limit q_s_ q_h_ q_read_ q_names_ q_reserved_ q_token q_at q_span q_number q_fault q_faultAt q_word q_got q_lines q_onces q_webs q_one q_two q_seed q_undone_ q_before_ q_undoMany q_far_ q_wayRow_ q_wayMany q_keptRow_ q_askedRow_ q_rares_ q_trial_ q_keptMany q_askedMany q_hangs_ q_paths_ q_tornSteps q_hasTorn q_turnOne q_hasTurn q_text_ q_textMany q_toldMany q_toldAt_ q_hasTold q_stack_ q_codes q_ones q_top q_deep q_isWhole q_truths_ q_imaged_ q_namesKept_ q_areKept_), (q_s_, aC1 cy 383 q_s), (q_trial_, aC1 cy 8 g_32)] → va_S A s.heap H locs → lv_has ls 4 [(0, .ref q), (1, .int d), (2, .int a), (3, .int x_31)] → W p l e (Rm 2 42 0 0) s m args below meth c H locs cells slots Q (F0 m 40 ls []) := by
              intro  H locs ls  hP hD hS hl
              refine lv_aload_n hx hb dX11_spins_40 rfl (lv_at hl 0 rfl) ?_
              refine q_get11 (v := .ref q_trial_) C hP 0 34 rfl fT_34 (by decide) kF_RX11_74 rfl dX11_spins_41 ?_
              refine lv_iload_n hx hb dX11_spins_44 rfl (lv_at hl 3 rfl) ?_
              refine lv_bipush (v := 99) hx hb dX11_spins_45 (by decide) ?_
              refine lv_aload_n hx hb dX11_spins_47 rfl (lv_at hl 0 rfl) ?_
              refine q_get11 (v := .ref q_trial_) C hP 0 34 rfl fT_34 (by decide) kF_RX11_74 rfl dX11_spins_48 ?_
              refine lv_iload_n hx hb dX11_spins_51 rfl (lv_at hl 3 rfl) ?_
              refine q_iald (v := g_32 x_31.toNatClampNeg) C hP 2 rfl (o_in (rfl : x_31.toInt = x_31.toInt) (by omega) (by omega)) rfl dX11_spins_52 ?_
              refine lv_topi (fun z_43 ez_43 => ?_)
              refine lv_aload_n hx hb dX11_spins_53 rfl (lv_at hl 0 rfl) ?_
              refine q_get11 (v := .ref q_s_) C hP 0 6 rfl fT_6 (by decide) kF_RX11_33 rfl dX11_spins_54 ?_
              refine lv_iconst (v := 4) hx hb dX11_spins_57 (by decide) ?_
              refine q_iald (v := q_s 4) C hP 1 rfl (vin (by decide +kernel)) rfl dX11_spins_58 ?_
              refine lv_topi (fun z_44 ez_44 => ?_)
              have hz_44 : 1 ≤ z_44.toInt ∧ z_44.toInt ≤ 5 := (by rw [ez_44]; exact hR3 4 (by decide) (by decide))
              refine lv_iadd hx hb dX11_spins_59 ?_
              refine lv_topi (fun z_45 hz_45 => ?_)
              clear hz_45
              refine q_ai (wr := [(q, oC11 q_thrown q_tape_ q_length q_size q_p q_limit q_s_ q_h_ q_read_ q_names_ q_reserved_ q_token q_at q_span q_number q_fault q_faultAt q_word q_got q_lines q_onces q_webs q_one q_two q_seed q_undone_ q_before_ q_undoMany q_far_ q_wayRow_ q_wayMany q_keptRow_ q_askedRow_ q_rares_ q_trial_ q_keptMany q_askedMany q_hangs_ q_paths_ q_tornSteps q_hasTorn q_turnOne q_hasTurn q_text_ q_textMany q_toldMany q_toldAt_ q_hasTold q_stack_ q_codes q_ones q_top q_deep q_isWhole q_truths_ q_imaged_ q_namesKept_ q_areKept_), (q_s_, aC1 cy 383 q_s), (q_trial_, aC1 cy 8 g_32)]) (r_S (rm := (Rm 0 0 0 0)) (As := [.int 99, .int z_45]) (rest := [.int x_31, .ref q_trial_]) (wc := []) C hS (q_subP hP [] rfl) (hD.sub [] (by decide) rfl) (y_lesser l D cy 99 z_45 _ ) kwS_X11_lesser kM_RX11_294 ⟨Nat.le_of_ble_eq_true rfl, Nat.le_of_ble_eq_true rfl⟩ rfl hl.1 rfl (Nat.le_of_ble_eq_true rfl) dX11_spins_60 ⟨hroom.1, hroom.2⟩) C.2.2.2.2.2.2.1 hP hD hS [] [0, 1, 2] rfl rfl (by decide) (by decide) (fun r_47 u_46 H locs hw_48 hP hD hS => ?_)
              have hp_48 : 0 ≤ (-1) * r_47.toInt + 99 ∧ 0 ≤ z_45.toInt + (-1) * r_47.toInt := by have e0 : (99 : Int32).toInt = 99 := (by decide); have h0 : 0 ≤ (99 : Int32).toInt + (-1) * r_47.toInt ∧ 0 ≤ z_45.toInt + (-1) * r_47.toInt := hw_48.1; omega
              have hp_49 : (r_47.toInt = (99 : Int32).toInt ∧ (99 : Int32).toInt ≤ z_45.toInt) ∨ (r_47.toInt = z_45.toInt ∧ z_45.toInt ≤ (99 : Int32).toInt) := hw_48.2.1
              have hp_50 : (0 ≤ 99 ∧ 0 ≤ z_45.toInt) → (0 ≤ r_47.toInt) := by have e0 : (99 : Int32).toInt = 99 := (by decide); have h0 : (0 ≤ (99 : Int32).toInt ∧ 0 ≤ z_45.toInt) → (0 ≤ r_47.toInt) := hw_48.2.2; omega
              clear hw_48
              refine q_iast (g := upd g_32 x_31.toNatClampNeg r_47) (w' := [(q, oC11 q_thrown q_tape_ q_length q_size q_p q_limit q_s_ q_h_ q_read_ q_names_ q_reserved_ q_token q_at q_span q_number q_fault q_faultAt q_word q_got q_lines q_onces q_webs q_one q_two q_seed q_undone_ q_before_ q_undoMany q_far_ q_wayRow_ q_wayMany q_keptRow_ q_askedRow_ q_rares_ q_trial_ q_keptMany q_askedMany q_hangs_ q_paths_ q_tornSteps q_hasTorn q_turnOne q_hasTurn q_text_ q_textMany q_toldMany q_toldAt_ q_hasTold q_stack_ q_codes q_ones q_top q_deep q_isWhole q_truths_ q_imaged_ q_namesKept_ q_areKept_), (q_s_, aC1 cy 383 q_s), (q_trial_, aC1 cy 8 (upd g_32 x_31.toNatClampNeg r_47))]) C hP hD hS 2 rfl (o_in (rfl : x_31.toInt = x_31.toInt) (by omega) (by omega)) rfl rfl dX11_spins_63 (fun H locs hP hD hS => ?_)
              generalize upd g_32 x_31.toNatClampNeg r_47 = g_52 at hP hD 
              have hP : va_P D vwCl [(q, oC11 q_thrown q_tape_ q_length q_size q_p q_limit q_s_ q_h_ q_read_ q_names_ q_reserved_ q_token q_at q_span q_number q_fault q_faultAt q_word q_got q_lines q_onces q_webs q_one q_two q_seed q_undone_ q_before_ q_undoMany q_far_ q_wayRow_ q_wayMany q_keptRow_ q_askedRow_ q_rares_ q_trial_ q_keptMany q_askedMany q_hangs_ q_paths_ q_tornSteps q_hasTorn q_turnOne q_hasTurn q_text_ q_textMany q_toldMany q_toldAt_ q_hasTold q_stack_ q_codes q_ones q_top q_deep q_isWhole q_truths_ q_imaged_ q_namesKept_ q_areKept_), (q_s_, aC1 cy 383 q_s), (q_trial_, aC1 cy 8 g_52)] H := hP
              have hD : va_D A [(q, oC11 q_thrown q_tape_ q_length q_size q_p q_limit q_s_ q_h_ q_read_ q_names_ q_reserved_ q_token q_at q_span q_number q_fault q_faultAt q_word q_got q_lines q_onces q_webs q_one q_two q_seed q_undone_ q_before_ q_undoMany q_far_ q_wayRow_ q_wayMany q_keptRow_ q_askedRow_ q_rares_ q_trial_ q_keptMany q_askedMany q_hangs_ q_paths_ q_tornSteps q_hasTorn q_turnOne q_hasTurn q_text_ q_textMany q_toldMany q_toldAt_ q_hasTold q_stack_ q_codes q_ones q_top q_deep q_isWhole q_truths_ q_imaged_ q_namesKept_ q_areKept_), (q_s_, aC1 cy 383 q_s), (q_trial_, aC1 cy 8 g_52)] := hD
              obtain ⟨z_53, hz_53⟩ : ∃ z : Int32, z = x_31 + 1 := ⟨_, rfl⟩
              refine lv_iinc (v := z_53) (lv' := [(3, .int z_53), (0, .ref q), (1, .int d), (2, .int a)]) hx hb dX11_spins_64 hl (k := 3) rfl hz_53.symm (by decide) rfl (fun ls hl => ?_)
              have hz_53 := o_add hz_53 (rfl : x_31.toInt = x_31.toInt) (by decide : (1 : Int32).toInt = 1) (by omega) (by omega)
              refine lv_goto (tgt := 13) hx hb dX11_spins_67 (by decide) ?_
              exact ih_36 z_53 g_52 H locs ls (by omega) (by omega) hP hD hS (lv_sub hl [1, 2, 3, 0] rfl)
            refine lv_if_ne (tgt := 40) hx hb dX11_spins_29 (by decide) (fun c_54 => ?_) (fun c_54 => ?_)
            · have hc_54 := o_ne (rfl : d.toInt = d.toInt) (by decide : (0 : Int32).toInt = 0) c_54
              exact cut_40_41  H locs ls   hP hD hS (lv_sub hl [0, 1, 2, 3] rfl)
            · have hc_54 := o_eq (rfl : d.toInt = d.toInt) (by decide : (0 : Int32).toInt = 0) c_54
              refine lv_aload_n hx hb dX11_spins_32 rfl (lv_at hl 0 rfl) ?_
              refine lv_iload_n hx hb dX11_spins_33 rfl (lv_at hl 3 rfl) ?_
              refine q_ai (wr := [(q_trial_, aC1 cy 8 g_32)]) (r_V (rm := (Rm 1 21 0 0)) (q0 := 0) (As := [.int x_31]) (rest := []) (wc := [(q, oC11 q_thrown q_tape_ q_length q_size q_p q_limit q_s_ q_h_ q_read_ q_names_ q_reserved_ q_token q_at q_span q_number q_fault q_faultAt q_word q_got q_lines q_onces q_webs q_one q_two q_seed q_undone_ q_before_ q_undoMany q_far_ q_wayRow_ q_wayMany q_keptRow_ q_askedRow_ q_rares_ q_trial_ q_keptMany q_askedMany q_hangs_ q_paths_ q_tornSteps q_hasTorn q_turnOne q_hasTurn q_text_ q_textMany q_toldMany q_toldAt_ q_hasTold q_stack_ q_codes q_ones q_top q_deep q_isWhole q_truths_ q_imaged_ q_namesKept_ q_areKept_), (q_s_, aC1 cy 383 q_s)]) C hS (q_subP hP [0, 1] rfl) (hD.sub [0, 1] (by decide) rfl) (y_isAsked l D cy q x_31 q_thrown q_tape_ q_length q_size q_p q_limit q_s_ q_h_ q_read_ q_names_ q_reserved_ q_token q_at q_span q_number q_fault q_faultAt q_word q_got q_lines q_onces q_webs q_one q_two q_seed q_undone_ q_before_ q_undoMany q_far_ q_wayRow_ q_wayMany q_keptRow_ q_askedRow_ q_rares_ q_trial_ q_keptMany q_askedMany q_hangs_ q_paths_ q_tornSteps q_hasTorn q_turnOne q_hasTurn q_text_ q_textMany q_toldMany q_toldAt_ q_hasTold q_stack_ q_codes q_ones q_top q_deep q_isWhole q_truths_ q_imaged_ q_namesKept_ q_areKept_ q_s _ (by omega) (by omega) (by omega) (by omega) (by omega) (by omega) (by omega) (by omega) (by omega) (by omega) (by omega) (by omega) (by omega) (by omega) (by omega) (by omega) (by omega) (by omega) (by omega) (by omega) (by omega) (by omega) hR0 hR1 hR2 hR3 hR4 hR5 hR6 hR7 hR8) kwV_X11_isAsked kM_RX11_338 rfl rfl ⟨Nat.le_of_ble_eq_true rfl, Nat.le_of_ble_eq_true rfl⟩ rfl hl.1 rfl (Nat.le_of_ble_eq_true rfl) dX11_spins_34 ⟨hroom.1, hroom.2⟩) C.2.2.2.2.2.2.1 hP hD hS [0, 1] [2] rfl rfl (by decide) (by decide) (fun r_56 u_55 H locs hw_57 hP hD hS => ?_)
              have hp_57 : 0 ≤ r_56.toInt ∧ r_56.toInt ≤ 1 := hw_57
              clear hw_57
              refine lv_if_ne (tgt := 64) hx hb dX11_spins_37 (by decide) (fun c_59 => ?_) (fun c_59 => ?_)
              · have hc_59 := o_ne (rfl : r_56.toInt = r_56.toInt) (by decide : (0 : Int32).toInt = 0) c_59
                obtain ⟨z_60, hz_60⟩ : ∃ z : Int32, z = x_31 + 1 := ⟨_, rfl⟩
                refine lv_iinc (v := z_60) (lv' := [(3, .int z_60), (0, .ref q), (1, .int d), (2, .int a)]) hx hb dX11_spins_64 hl (k := 3) rfl hz_60.symm (by decide) rfl (fun ls hl => ?_)
                have hz_60 := o_add hz_60 (rfl : x_31.toInt = x_31.toInt) (by decide : (1 : Int32).toInt = 1) (by omega) (by omega)
                refine lv_goto (tgt := 13) hx hb dX11_spins_67 (by decide) ?_
                exact ih_36 z_60 g_32 H locs ls (by omega) (by omega) (q_subP hP [1, 2, 0] rfl) (hD.sub [1, 2, 0] (by decide) rfl) hS (lv_sub hl [1, 2, 3, 0] rfl)
              · have hc_59 := o_eq (rfl : r_56.toInt = r_56.toInt) (by decide : (0 : Int32).toInt = 0) c_59
                exact cut_40_41  H locs ls   (q_subP hP [1, 2, 0] rfl) (hD.sub [1, 2, 0] (by decide) rfl) hS (lv_sub hl [0, 1, 2, 3] rfl)
    exact lp_13_32 9 (0 : Int32) g_30 H locs ls (by have e0 : (0 : Int32).toInt = 0 := (by decide); omega) (by have e0 : (0 : Int32).toInt = 0 := (by decide); omega) hP hD hS (lv_sub hl [1, 2, 3, 0] rfl)
theorem y_spins (l : Launch) (D : va_G) (cy : Nat → ClassId) (q : Nat) (d : Int32) (a : Int32) (q_thrown : Int32) (q_tape_ : Nat) (q_length : Int32) (q_size : Int32) (q_p : Int32) (q_limit : Int32) (q_s_ : Nat) (q_h_ : Nat) (q_read_ : Nat) (q_names_ : Nat) (q_reserved_ : Nat) (q_token : Int32) (q_at : Int32) (q_span : Int32) (q_number : Int32) (q_fault : Int32) (q_faultAt : Int32) (q_word : Int64) (q_got : Int32) (q_lines : Int32) (q_onces : Int32) (q_webs : Int32) (q_one : Int32) (q_two : Int32) (q_seed : Int32) (q_undone_ : Nat) (q_before_ : Nat) (q_undoMany : Int32) (q_far_ : Nat) (q_wayRow_ : Nat) (q_wayMany : Int32) (q_keptRow_ : Nat) (q_askedRow_ : Nat) (q_rares_ : Nat) (q_trial_ : Nat) (q_keptMany : Int32) (q_askedMany : Int32) (q_hangs_ : Nat) (q_paths_ : Nat) (q_tornSteps : Int32) (q_hasTorn : Int32) (q_turnOne : Int32) (q_hasTurn : Int32) (q_text_ : Nat) (q_textMany : Int32) (q_toldMany : Int32) (q_toldAt_ : Nat) (q_hasTold : Int32) (q_stack_ : Nat) (q_codes : Int32) (q_ones : Int32) (q_top : Int32) (q_deep : Int32) (q_isWhole : Int32) (q_truths_ : Nat) (q_imaged_ : Nat) (q_namesKept_ : Nat) (q_areKept_ : Nat) (q_s : Nat → Int32) (q_trial : Nat → Int32) (sz : Nat) (hb0 : 0 ≤ q_length.toInt ∧ q_length.toInt ≤ 940) (hb1 : 0 ≤ q_size.toInt ∧ q_size.toInt ≤ 940) (hb2 : 0 ≤ q_p.toInt ∧ q_p.toInt ≤ 940) (hb3 : 0 ≤ q_limit.toInt ∧ q_limit.toInt ≤ 940) (hb4 : 0 ≤ q_span.toInt ∧ q_span.toInt ≤ 940) (hb5 : 0 ≤ q_number.toInt ∧ q_number.toInt ≤ 8214) (hb6 : (-1) ≤ q_got.toInt ∧ q_got.toInt ≤ 8214) (hb7 : 0 ≤ q_one.toInt ∧ q_one.toInt ≤ 7) (hb8 : 0 ≤ q_two.toInt ∧ q_two.toInt ≤ 7) (hb9 : 0 ≤ q_undoMany.toInt ∧ q_undoMany.toInt ≤ 8) (hb10 : (-1) ≤ q_wayMany.toInt ∧ q_wayMany.toInt ≤ 8) (hb11 : (-1) ≤ q_keptMany.toInt ∧ q_keptMany.toInt ≤ 8) (hb12 : (-1) ≤ q_askedMany.toInt ∧ q_askedMany.toInt ≤ 3) (hb13 : 0 ≤ q_hasTorn.toInt ∧ q_hasTorn.toInt ≤ 1) (hb14 : 0 ≤ q_hasTurn.toInt ∧ q_hasTurn.toInt ≤ 1) (hb15 : 0 ≤ q_textMany.toInt ∧ q_textMany.toInt ≤ 48) (hb16 : 0 ≤ q_toldMany.toInt ∧ q_toldMany.toInt ≤ 40) (hb17 : 0 ≤ q_hasTold.toInt ∧ q_hasTold.toInt ≤ 1) (hb18 : 0 ≤ q_codes.toInt ∧ q_codes.toInt ≤ 40) (hb19 : 0 ≤ q_ones.toInt ∧ q_ones.toInt ≤ 20) (hb20 : 0 ≤ q_top.toInt ∧ q_top.toInt ≤ 40) (hb21 : 0 ≤ q_isWhole.toInt ∧ q_isWhole.toInt ≤ 1) (hb22 : a.toInt ≤ 7) (hR0 : Rg q_s 0 1 0 8) (hR1 : Rg q_s 1 3 0 6) (hR2 : Rg q_s 3 4 1 50) (hR3 : Rg q_s 4 5 1 5) (hR4 : Rg q_s 103 104 0 255) (hR5 : Rg q_s 7 23 0 5) (hR6 : Rg q_s 106 122 0 5) (hR7 : Rg q_s 23 31 0 99) (hR8 : Rg q_s 122 130 0 99) : MV l yX11_spins cX11_spins 4 (Rm 2 42 0 0) D cy [.ref q, .int d, .int a] sz [(q, oC11 q_thrown q_tape_ q_length q_size q_p q_limit q_s_ q_h_ q_read_ q_names_ q_reserved_ q_token q_at q_span q_number q_fault q_faultAt q_word q_got q_lines q_onces q_webs q_one q_two q_seed q_undone_ q_before_ q_undoMany q_far_ q_wayRow_ q_wayMany q_keptRow_ q_askedRow_ q_rares_ q_trial_ q_keptMany q_askedMany q_hangs_ q_paths_ q_tornSteps q_hasTorn q_turnOne q_hasTurn q_text_ q_textMany q_toldMany q_toldAt_ q_hasTold q_stack_ q_codes q_ones q_top q_deep q_isWhole q_truths_ q_imaged_ q_namesKept_ q_areKept_), (q_s_, aC1 cy 383 q_s), (q_trial_, aC1 cy 8 q_trial)] (fun u : (Nat → Int32) => True) (fun u : (Nat → Int32) => [(q, oC11 q_thrown q_tape_ q_length q_size q_p q_limit q_s_ q_h_ q_read_ q_names_ q_reserved_ q_token q_at q_span q_number q_fault q_faultAt q_word q_got q_lines q_onces q_webs q_one q_two q_seed q_undone_ q_before_ q_undoMany q_far_ q_wayRow_ q_wayMany q_keptRow_ q_askedRow_ q_rares_ q_trial_ q_keptMany q_askedMany q_hangs_ q_paths_ q_tornSteps q_hasTorn q_turnOne q_hasTurn q_text_ q_textMany q_toldMany q_toldAt_ q_hasTold q_stack_ q_codes q_ones q_top q_deep q_isWhole q_truths_ q_imaged_ q_namesKept_ q_areKept_), (q_s_, aC1 cy 383 q_s), (q_trial_, aC1 cy 8 u)]) := by
  refine MV.enter (by decide) (Nat.le_of_ble_eq_true rfl) ?_
  intro p e s m below meth c ls A hsz hAe C hP hD hS hl
  exact b_y_spins l D cy q d a q_thrown q_tape_ q_length q_size q_p q_limit q_s_ q_h_ q_read_ q_names_ q_reserved_ q_token q_at q_span q_number q_fault q_faultAt q_word q_got q_lines q_onces q_webs q_one q_two q_seed q_undone_ q_before_ q_undoMany q_far_ q_wayRow_ q_wayMany q_keptRow_ q_askedRow_ q_rares_ q_trial_ q_keptMany q_askedMany q_hangs_ q_paths_ q_tornSteps q_hasTorn q_turnOne q_hasTurn q_text_ q_textMany q_toldMany q_toldAt_ q_hasTold q_stack_ q_codes q_ones q_top q_deep q_isWhole q_truths_ q_imaged_ q_namesKept_ q_areKept_ q_s q_trial hb0 hb1 hb2 hb3 hb4 hb5 hb6 hb7 hb8 hb9 hb10 hb11 hb12 hb13 hb14 hb15 hb16 hb17 hb18 hb19 hb20 hb21 hb22 hR0 hR1 hR2 hR3 hR4 hR5 hR6 hR7 hR8 ⟨Nat.le_of_ble_eq_true rfl, Nat.le_of_ble_eq_true rfl⟩ C rfl _ _ ls hP hD hS hl
set_option maxHeartbeats 4000000 in
set_option maxRecDepth 100000 in
theorem b_y_beginsTrial (l : Launch) (D : va_G) (cy : Nat → ClassId) (q : Nat) (q_thrown : Int32) (q_tape_ : Nat) (q_length : Int32) (q_size : Int32) (q_p : Int32) (q_limit : Int32) (q_s_ : Nat) (q_h_ : Nat) (q_read_ : Nat) (q_names_ : Nat) (q_reserved_ : Nat) (q_token : Int32) (q_at : Int32) (q_span : Int32) (q_number : Int32) (q_fault : Int32) (q_faultAt : Int32) (q_word : Int64) (q_got : Int32) (q_lines : Int32) (q_onces : Int32) (q_webs : Int32) (q_one : Int32) (q_two : Int32) (q_seed : Int32) (q_undone_ : Nat) (q_before_ : Nat) (q_undoMany : Int32) (q_far_ : Nat) (q_wayRow_ : Nat) (q_wayMany : Int32) (q_keptRow_ : Nat) (q_askedRow_ : Nat) (q_rares_ : Nat) (q_trial_ : Nat) (q_keptMany : Int32) (q_askedMany : Int32) (q_hangs_ : Nat) (q_paths_ : Nat) (q_tornSteps : Int32) (q_hasTorn : Int32) (q_turnOne : Int32) (q_hasTurn : Int32) (q_text_ : Nat) (q_textMany : Int32) (q_toldMany : Int32) (q_toldAt_ : Nat) (q_hasTold : Int32) (q_stack_ : Nat) (q_codes : Int32) (q_ones : Int32) (q_top : Int32) (q_deep : Int32) (q_isWhole : Int32) (q_truths_ : Nat) (q_imaged_ : Nat) (q_namesKept_ : Nat) (q_areKept_ : Nat) (q_s : Nat → Int32) (q_trial : Nat → Int32) (hb0 : 0 ≤ q_length.toInt ∧ q_length.toInt ≤ 940) (hb1 : 0 ≤ q_size.toInt ∧ q_size.toInt ≤ 940) (hb2 : 0 ≤ q_p.toInt ∧ q_p.toInt ≤ 940) (hb3 : 0 ≤ q_limit.toInt ∧ q_limit.toInt ≤ 940) (hb4 : 0 ≤ q_span.toInt ∧ q_span.toInt ≤ 940) (hb5 : 0 ≤ q_number.toInt ∧ q_number.toInt ≤ 8214) (hb6 : (-1) ≤ q_got.toInt ∧ q_got.toInt ≤ 8214) (hb7 : 0 ≤ q_one.toInt ∧ q_one.toInt ≤ 7) (hb8 : 0 ≤ q_two.toInt ∧ q_two.toInt ≤ 7) (hb9 : 0 ≤ q_undoMany.toInt ∧ q_undoMany.toInt ≤ 8) (hb10 : (-1) ≤ q_wayMany.toInt ∧ q_wayMany.toInt ≤ 8) (hb11 : (-1) ≤ q_keptMany.toInt ∧ q_keptMany.toInt ≤ 8) (hb12 : (-1) ≤ q_askedMany.toInt ∧ q_askedMany.toInt ≤ 3) (hb13 : 0 ≤ q_hasTorn.toInt ∧ q_hasTorn.toInt ≤ 1) (hb14 : 0 ≤ q_hasTurn.toInt ∧ q_hasTurn.toInt ≤ 1) (hb15 : 0 ≤ q_textMany.toInt ∧ q_textMany.toInt ≤ 48) (hb16 : 0 ≤ q_toldMany.toInt ∧ q_toldMany.toInt ≤ 40) (hb17 : 0 ≤ q_hasTold.toInt ∧ q_hasTold.toInt ≤ 1) (hb18 : 0 ≤ q_codes.toInt ∧ q_codes.toInt ≤ 40) (hb19 : 0 ≤ q_ones.toInt ∧ q_ones.toInt ≤ 20) (hb20 : 0 ≤ q_top.toInt ∧ q_top.toInt ≤ 40) (hb21 : 0 ≤ q_isWhole.toInt ∧ q_isWhole.toInt ≤ 1) (hR0 : Rg q_s 0 1 0 8) (hR1 : Rg q_s 1 3 0 6) (hR2 : Rg q_s 3 4 1 50) (hR3 : Rg q_s 4 5 1 5) (hR4 : Rg q_s 103 104 0 255) (hR5 : Rg q_s 7 23 0 5) (hR6 : Rg q_s 106 122 0 5) (hR7 : Rg q_s 23 31 0 99) (hR8 : Rg q_s 122 130 0 99) {p : Program} {e : Env} {s : State} {m : MethodId} {args : Array Value} {below : List Frame} {meth : Method} {c : Code} {A : Nat → Prop} {Q : State → Prop} {cells slots : Nat} (hroom : cells ≤ ((Rm 0 0 0 0)).cells ∧ slots ≤ ((Rm 0 0 0 0)).slots) (C : Cx p s m args meth c cX11_beginsTrial 2 none RX11 "beginsTrial" D cy A) (hQ : Q = MQ below (va_Qv (fun u : (Nat → Int32) => True) (Bx D A (fun u : (Nat → Int32) => [(q, oC11 q_thrown q_tape_ q_length q_size q_p q_limit q_s_ q_h_ q_read_ q_names_ q_reserved_ q_token q_at q_span q_number q_fault q_faultAt q_word q_got q_lines q_onces q_webs q_one q_two q_seed q_undone_ q_before_ q_undoMany q_far_ q_wayRow_ q_wayMany q_keptRow_ q_askedRow_ q_rares_ q_trial_ q_keptMany q_askedMany q_hangs_ q_paths_ q_tornSteps q_hasTorn q_turnOne q_hasTurn q_text_ q_textMany q_toldMany q_toldAt_ q_hasTold q_stack_ q_codes q_ones q_top q_deep q_isWhole q_truths_ q_imaged_ q_namesKept_ q_areKept_), (q_s_, aC1 cy 383 q_s), (q_trial_, aC1 cy 8 u)])) A) args s ((Rm 0 0 0 0)).cells ((Rm 0 0 0 0)).slots A) (H : Heap) (locs : List Loc) (ls : Array Slot) (hP : va_P D vwCl [(q, oC11 q_thrown q_tape_ q_length q_size q_p q_limit q_s_ q_h_ q_read_ q_names_ q_reserved_ q_token q_at q_span q_number q_fault q_faultAt q_word q_got q_lines q_onces q_webs q_one q_two q_seed q_undone_ q_before_ q_undoMany q_far_ q_wayRow_ q_wayMany q_keptRow_ q_askedRow_ q_rares_ q_trial_ q_keptMany q_askedMany q_hangs_ q_paths_ q_tornSteps q_hasTorn q_turnOne q_hasTurn q_text_ q_textMany q_toldMany q_toldAt_ q_hasTold q_stack_ q_codes q_ones q_top q_deep q_isWhole q_truths_ q_imaged_ q_namesKept_ q_areKept_), (q_s_, aC1 cy 383 q_s), (q_trial_, aC1 cy 8 q_trial)] H) (hD : va_D A [(q, oC11 q_thrown q_tape_ q_length q_size q_p q_limit q_s_ q_h_ q_read_ q_names_ q_reserved_ q_token q_at q_span q_number q_fault q_faultAt q_word q_got q_lines q_onces q_webs q_one q_two q_seed q_undone_ q_before_ q_undoMany q_far_ q_wayRow_ q_wayMany q_keptRow_ q_askedRow_ q_rares_ q_trial_ q_keptMany q_askedMany q_hangs_ q_paths_ q_tornSteps q_hasTorn q_turnOne q_hasTurn q_text_ q_textMany q_toldMany q_toldAt_ q_hasTold q_stack_ q_codes q_ones q_top q_deep q_isWhole q_truths_ q_imaged_ q_namesKept_ q_areKept_), (q_s_, aC1 cy 383 q_s), (q_trial_, aC1 cy 8 q_trial)]) (hS : va_S A s.heap H locs) (hl : lv_has ls 2 [(0, .ref q)]) : W p l e (Rm 0 0 0 0) s m args below meth c H locs cells slots Q (F0 m 0 ls []) := by
  have hx := C.1
  have hb := C.2.1
  refine lv_iconst (v := 0) hx hb dX11_beginsTrial_0 (by decide) ?_
  refine lv_istore_n (lv' := [(1, .int 0), (0, .ref q)]) hx hb dX11_beginsTrial_1 rfl hl (by decide) rfl (fun ls hl => ?_)
  have lp_2_2 : ∀ (n_3 : Nat) (x_1 : Int32) (g_2 : Nat → Int32) (H : Heap) (locs : List Loc) (ls : Array Slot), (-1) * x_1.toInt + 8 < (n_3 : Int) → (0 ≤ x_1.toInt ∧ x_1.toInt ≤ 8) → va_P D vwCl [(q, oC11 q_thrown q_tape_ q_length q_size q_p q_limit q_s_ q_h_ q_read_ q_names_ q_reserved_ q_token q_at q_span q_number q_fault q_faultAt q_word q_got q_lines q_onces q_webs q_one q_two q_seed q_undone_ q_before_ q_undoMany q_far_ q_wayRow_ q_wayMany q_keptRow_ q_askedRow_ q_rares_ q_trial_ q_keptMany q_askedMany q_hangs_ q_paths_ q_tornSteps q_hasTorn q_turnOne q_hasTurn q_text_ q_textMany q_toldMany q_toldAt_ q_hasTold q_stack_ q_codes q_ones q_top q_deep q_isWhole q_truths_ q_imaged_ q_namesKept_ q_areKept_), (q_s_, aC1 cy 383 q_s), (q_trial_, aC1 cy 8 g_2)] H → va_D A [(q, oC11 q_thrown q_tape_ q_length q_size q_p q_limit q_s_ q_h_ q_read_ q_names_ q_reserved_ q_token q_at q_span q_number q_fault q_faultAt q_word q_got q_lines q_onces q_webs q_one q_two q_seed q_undone_ q_before_ q_undoMany q_far_ q_wayRow_ q_wayMany q_keptRow_ q_askedRow_ q_rares_ q_trial_ q_keptMany q_askedMany q_hangs_ q_paths_ q_tornSteps q_hasTorn q_turnOne q_hasTurn q_text_ q_textMany q_toldMany q_toldAt_ q_hasTold q_stack_ q_codes q_ones q_top q_deep q_isWhole q_truths_ q_imaged_ q_namesKept_ q_areKept_), (q_s_, aC1 cy 383 q_s), (q_trial_, aC1 cy 8 g_2)] → va_S A s.heap H locs → lv_has ls 2 [(0, .ref q), (1, .int x_1)] → W p l e (Rm 0 0 0 0) s m args below meth c H locs cells slots Q (F0 m 2 ls []) := by
    intro n_3
    induction n_3 with
    | zero =>
      intro x_1 g_2 H locs ls hm_5 hf_4 hP hD hS hl
      exact absurd hm_5 (by omega)
    | succ n_3 ih_6 =>
      intro x_1 g_2 H locs ls hm_5 hf_4 hP hD hS hl
      refine lv_iload_n hx hb dX11_beginsTrial_2 rfl (lv_at hl 1 rfl) ?_
      refine lv_bipush (v := 8) hx hb dX11_beginsTrial_3 (by decide) ?_
      refine lv_icmp_ge (tgt := 29) hx hb dX11_beginsTrial_5 (by decide) (fun c_8 => ?_) (fun c_8 => ?_)
      · have hc_8 := o_le (by decide : (8 : Int32).toInt = 8) (rfl : x_1.toInt = x_1.toInt) c_8
        refine o_wq hQ ?_
        exact q_vret (rm := (Rm 0 0 0 0)) C hS g_2 trivial (q_subP hP [0, 1, 2] rfl) (hD.sub [0, 1, 2] (by decide) rfl) hroom.1 hroom.2 dX11_beginsTrial_29
      · have hc_8 := o_nle (by decide : (8 : Int32).toInt = 8) (rfl : x_1.toInt = x_1.toInt) c_8
        refine lv_aload_n hx hb dX11_beginsTrial_8 rfl (lv_at hl 0 rfl) ?_
        refine q_get11 (v := .ref q_trial_) C hP 0 34 rfl fT_34 (by decide) kF_RX11_74 rfl dX11_beginsTrial_9 ?_
        refine lv_iload_n hx hb dX11_beginsTrial_12 rfl (lv_at hl 1 rfl) ?_
        refine lv_aload_n hx hb dX11_beginsTrial_13 rfl (lv_at hl 0 rfl) ?_
        refine q_get11 (v := .ref q_s_) C hP 0 6 rfl fT_6 (by decide) kF_RX11_33 rfl dX11_beginsTrial_14 ?_
        refine lv_bipush (v := 122) hx hb dX11_beginsTrial_17 (by decide) ?_
        refine lv_iload_n hx hb dX11_beginsTrial_19 rfl (lv_at hl 1 rfl) ?_
        refine lv_iadd hx hb dX11_beginsTrial_20 ?_
        refine lv_topi (fun z_9 hz_9 => ?_)
        have hz_9 := o_add hz_9 (by decide : (122 : Int32).toInt = 122) (rfl : x_1.toInt = x_1.toInt) (by omega) (by omega)
        refine q_iald (v := q_s z_9.toNatClampNeg) C hP 1 rfl (o_in (rfl : z_9.toInt = z_9.toInt) (by omega) (by omega)) rfl dX11_beginsTrial_21 ?_
        refine lv_topi (fun z_10 ez_10 => ?_)
        have hz_10 := Rg.at hR8 ez_10 (by have := o_cl (rfl : z_9.toInt = z_9.toInt) (by omega); omega) (by have := o_cl (rfl : z_9.toInt = z_9.toInt) (by omega); omega)
        refine q_iast (g := upd g_2 x_1.toNatClampNeg z_10) (w' := [(q, oC11 q_thrown q_tape_ q_length q_size q_p q_limit q_s_ q_h_ q_read_ q_names_ q_reserved_ q_token q_at q_span q_number q_fault q_faultAt q_word q_got q_lines q_onces q_webs q_one q_two q_seed q_undone_ q_before_ q_undoMany q_far_ q_wayRow_ q_wayMany q_keptRow_ q_askedRow_ q_rares_ q_trial_ q_keptMany q_askedMany q_hangs_ q_paths_ q_tornSteps q_hasTorn q_turnOne q_hasTurn q_text_ q_textMany q_toldMany q_toldAt_ q_hasTold q_stack_ q_codes q_ones q_top q_deep q_isWhole q_truths_ q_imaged_ q_namesKept_ q_areKept_), (q_s_, aC1 cy 383 q_s), (q_trial_, aC1 cy 8 (upd g_2 x_1.toNatClampNeg z_10))]) C hP hD hS 2 rfl (o_in (rfl : x_1.toInt = x_1.toInt) (by omega) (by omega)) rfl rfl dX11_beginsTrial_22 (fun H locs hP hD hS => ?_)
        generalize upd g_2 x_1.toNatClampNeg z_10 = g_11 at hP hD 
        have hP : va_P D vwCl [(q, oC11 q_thrown q_tape_ q_length q_size q_p q_limit q_s_ q_h_ q_read_ q_names_ q_reserved_ q_token q_at q_span q_number q_fault q_faultAt q_word q_got q_lines q_onces q_webs q_one q_two q_seed q_undone_ q_before_ q_undoMany q_far_ q_wayRow_ q_wayMany q_keptRow_ q_askedRow_ q_rares_ q_trial_ q_keptMany q_askedMany q_hangs_ q_paths_ q_tornSteps q_hasTorn q_turnOne q_hasTurn q_text_ q_textMany q_toldMany q_toldAt_ q_hasTold q_stack_ q_codes q_ones q_top q_deep q_isWhole q_truths_ q_imaged_ q_namesKept_ q_areKept_), (q_s_, aC1 cy 383 q_s), (q_trial_, aC1 cy 8 g_11)] H := hP
        have hD : va_D A [(q, oC11 q_thrown q_tape_ q_length q_size q_p q_limit q_s_ q_h_ q_read_ q_names_ q_reserved_ q_token q_at q_span q_number q_fault q_faultAt q_word q_got q_lines q_onces q_webs q_one q_two q_seed q_undone_ q_before_ q_undoMany q_far_ q_wayRow_ q_wayMany q_keptRow_ q_askedRow_ q_rares_ q_trial_ q_keptMany q_askedMany q_hangs_ q_paths_ q_tornSteps q_hasTorn q_turnOne q_hasTurn q_text_ q_textMany q_toldMany q_toldAt_ q_hasTold q_stack_ q_codes q_ones q_top q_deep q_isWhole q_truths_ q_imaged_ q_namesKept_ q_areKept_), (q_s_, aC1 cy 383 q_s), (q_trial_, aC1 cy 8 g_11)] := hD
        obtain ⟨z_12, hz_12⟩ : ∃ z : Int32, z = x_1 + 1 := ⟨_, rfl⟩
        refine lv_iinc (v := z_12) (lv' := [(1, .int z_12), (0, .ref q)]) hx hb dX11_beginsTrial_23 hl (k := 1) rfl hz_12.symm (by decide) rfl (fun ls hl => ?_)
        have hz_12 := o_add hz_12 (rfl : x_1.toInt = x_1.toInt) (by decide : (1 : Int32).toInt = 1) (by omega) (by omega)
        refine lv_goto (tgt := 2) hx hb dX11_beginsTrial_26 (by decide) ?_
        exact ih_6 z_12 g_11 H locs ls (by omega) (by omega) hP hD hS (lv_sub hl [1, 0] rfl)
  exact lp_2_2 9 (0 : Int32) q_trial H locs ls (by have e0 : (0 : Int32).toInt = 0 := (by decide); omega) (by have e0 : (0 : Int32).toInt = 0 := (by decide); omega) hP hD hS (lv_sub hl [1, 0] rfl)
theorem y_beginsTrial (l : Launch) (D : va_G) (cy : Nat → ClassId) (q : Nat) (q_thrown : Int32) (q_tape_ : Nat) (q_length : Int32) (q_size : Int32) (q_p : Int32) (q_limit : Int32) (q_s_ : Nat) (q_h_ : Nat) (q_read_ : Nat) (q_names_ : Nat) (q_reserved_ : Nat) (q_token : Int32) (q_at : Int32) (q_span : Int32) (q_number : Int32) (q_fault : Int32) (q_faultAt : Int32) (q_word : Int64) (q_got : Int32) (q_lines : Int32) (q_onces : Int32) (q_webs : Int32) (q_one : Int32) (q_two : Int32) (q_seed : Int32) (q_undone_ : Nat) (q_before_ : Nat) (q_undoMany : Int32) (q_far_ : Nat) (q_wayRow_ : Nat) (q_wayMany : Int32) (q_keptRow_ : Nat) (q_askedRow_ : Nat) (q_rares_ : Nat) (q_trial_ : Nat) (q_keptMany : Int32) (q_askedMany : Int32) (q_hangs_ : Nat) (q_paths_ : Nat) (q_tornSteps : Int32) (q_hasTorn : Int32) (q_turnOne : Int32) (q_hasTurn : Int32) (q_text_ : Nat) (q_textMany : Int32) (q_toldMany : Int32) (q_toldAt_ : Nat) (q_hasTold : Int32) (q_stack_ : Nat) (q_codes : Int32) (q_ones : Int32) (q_top : Int32) (q_deep : Int32) (q_isWhole : Int32) (q_truths_ : Nat) (q_imaged_ : Nat) (q_namesKept_ : Nat) (q_areKept_ : Nat) (q_s : Nat → Int32) (q_trial : Nat → Int32) (sz : Nat) (hb0 : 0 ≤ q_length.toInt ∧ q_length.toInt ≤ 940) (hb1 : 0 ≤ q_size.toInt ∧ q_size.toInt ≤ 940) (hb2 : 0 ≤ q_p.toInt ∧ q_p.toInt ≤ 940) (hb3 : 0 ≤ q_limit.toInt ∧ q_limit.toInt ≤ 940) (hb4 : 0 ≤ q_span.toInt ∧ q_span.toInt ≤ 940) (hb5 : 0 ≤ q_number.toInt ∧ q_number.toInt ≤ 8214) (hb6 : (-1) ≤ q_got.toInt ∧ q_got.toInt ≤ 8214) (hb7 : 0 ≤ q_one.toInt ∧ q_one.toInt ≤ 7) (hb8 : 0 ≤ q_two.toInt ∧ q_two.toInt ≤ 7) (hb9 : 0 ≤ q_undoMany.toInt ∧ q_undoMany.toInt ≤ 8) (hb10 : (-1) ≤ q_wayMany.toInt ∧ q_wayMany.toInt ≤ 8) (hb11 : (-1) ≤ q_keptMany.toInt ∧ q_keptMany.toInt ≤ 8) (hb12 : (-1) ≤ q_askedMany.toInt ∧ q_askedMany.toInt ≤ 3) (hb13 : 0 ≤ q_hasTorn.toInt ∧ q_hasTorn.toInt ≤ 1) (hb14 : 0 ≤ q_hasTurn.toInt ∧ q_hasTurn.toInt ≤ 1) (hb15 : 0 ≤ q_textMany.toInt ∧ q_textMany.toInt ≤ 48) (hb16 : 0 ≤ q_toldMany.toInt ∧ q_toldMany.toInt ≤ 40) (hb17 : 0 ≤ q_hasTold.toInt ∧ q_hasTold.toInt ≤ 1) (hb18 : 0 ≤ q_codes.toInt ∧ q_codes.toInt ≤ 40) (hb19 : 0 ≤ q_ones.toInt ∧ q_ones.toInt ≤ 20) (hb20 : 0 ≤ q_top.toInt ∧ q_top.toInt ≤ 40) (hb21 : 0 ≤ q_isWhole.toInt ∧ q_isWhole.toInt ≤ 1) (hR0 : Rg q_s 0 1 0 8) (hR1 : Rg q_s 1 3 0 6) (hR2 : Rg q_s 3 4 1 50) (hR3 : Rg q_s 4 5 1 5) (hR4 : Rg q_s 103 104 0 255) (hR5 : Rg q_s 7 23 0 5) (hR6 : Rg q_s 106 122 0 5) (hR7 : Rg q_s 23 31 0 99) (hR8 : Rg q_s 122 130 0 99) : MV l yX11_beginsTrial cX11_beginsTrial 2 (Rm 0 0 0 0) D cy [.ref q] sz [(q, oC11 q_thrown q_tape_ q_length q_size q_p q_limit q_s_ q_h_ q_read_ q_names_ q_reserved_ q_token q_at q_span q_number q_fault q_faultAt q_word q_got q_lines q_onces q_webs q_one q_two q_seed q_undone_ q_before_ q_undoMany q_far_ q_wayRow_ q_wayMany q_keptRow_ q_askedRow_ q_rares_ q_trial_ q_keptMany q_askedMany q_hangs_ q_paths_ q_tornSteps q_hasTorn q_turnOne q_hasTurn q_text_ q_textMany q_toldMany q_toldAt_ q_hasTold q_stack_ q_codes q_ones q_top q_deep q_isWhole q_truths_ q_imaged_ q_namesKept_ q_areKept_), (q_s_, aC1 cy 383 q_s), (q_trial_, aC1 cy 8 q_trial)] (fun u : (Nat → Int32) => True) (fun u : (Nat → Int32) => [(q, oC11 q_thrown q_tape_ q_length q_size q_p q_limit q_s_ q_h_ q_read_ q_names_ q_reserved_ q_token q_at q_span q_number q_fault q_faultAt q_word q_got q_lines q_onces q_webs q_one q_two q_seed q_undone_ q_before_ q_undoMany q_far_ q_wayRow_ q_wayMany q_keptRow_ q_askedRow_ q_rares_ q_trial_ q_keptMany q_askedMany q_hangs_ q_paths_ q_tornSteps q_hasTorn q_turnOne q_hasTurn q_text_ q_textMany q_toldMany q_toldAt_ q_hasTold q_stack_ q_codes q_ones q_top q_deep q_isWhole q_truths_ q_imaged_ q_namesKept_ q_areKept_), (q_s_, aC1 cy 383 q_s), (q_trial_, aC1 cy 8 u)]) := by
  refine MV.enter (by decide) (Nat.le_of_ble_eq_true rfl) ?_
  intro p e s m below meth c ls A hsz hAe C hP hD hS hl
  exact b_y_beginsTrial l D cy q q_thrown q_tape_ q_length q_size q_p q_limit q_s_ q_h_ q_read_ q_names_ q_reserved_ q_token q_at q_span q_number q_fault q_faultAt q_word q_got q_lines q_onces q_webs q_one q_two q_seed q_undone_ q_before_ q_undoMany q_far_ q_wayRow_ q_wayMany q_keptRow_ q_askedRow_ q_rares_ q_trial_ q_keptMany q_askedMany q_hangs_ q_paths_ q_tornSteps q_hasTorn q_turnOne q_hasTurn q_text_ q_textMany q_toldMany q_toldAt_ q_hasTold q_stack_ q_codes q_ones q_top q_deep q_isWhole q_truths_ q_imaged_ q_namesKept_ q_areKept_ q_s q_trial hb0 hb1 hb2 hb3 hb4 hb5 hb6 hb7 hb8 hb9 hb10 hb11 hb12 hb13 hb14 hb15 hb16 hb17 hb18 hb19 hb20 hb21 hR0 hR1 hR2 hR3 hR4 hR5 hR6 hR7 hR8 ⟨Nat.le_of_ble_eq_true rfl, Nat.le_of_ble_eq_true rfl⟩ C rfl _ _ ls hP hD hS hl
set_option maxHeartbeats 4000000 in
set_option maxRecDepth 100000 in
theorem b_y_askedBy (l : Launch) (D : va_G) (cy : Nat → ClassId) (q : Nat) (a : Int32) (n : Int32) (k : Int32) (q_thrown : Int32) (q_tape_ : Nat) (q_length : Int32) (q_size : Int32) (q_p : Int32) (q_limit : Int32) (q_s_ : Nat) (q_h_ : Nat) (q_read_ : Nat) (q_names_ : Nat) (q_reserved_ : Nat) (q_token : Int32) (q_at : Int32) (q_span : Int32) (q_number : Int32) (q_fault : Int32) (q_faultAt : Int32) (q_word : Int64) (q_got : Int32) (q_lines : Int32) (q_onces : Int32) (q_webs : Int32) (q_one : Int32) (q_two : Int32) (q_seed : Int32) (q_undone_ : Nat) (q_before_ : Nat) (q_undoMany : Int32) (q_far_ : Nat) (q_wayRow_ : Nat) (q_wayMany : Int32) (q_keptRow_ : Nat) (q_askedRow_ : Nat) (q_rares_ : Nat) (q_trial_ : Nat) (q_keptMany : Int32) (q_askedMany : Int32) (q_hangs_ : Nat) (q_paths_ : Nat) (q_tornSteps : Int32) (q_hasTorn : Int32) (q_turnOne : Int32) (q_hasTurn : Int32) (q_text_ : Nat) (q_textMany : Int32) (q_toldMany : Int32) (q_toldAt_ : Nat) (q_hasTold : Int32) (q_stack_ : Nat) (q_codes : Int32) (q_ones : Int32) (q_top : Int32) (q_deep : Int32) (q_isWhole : Int32) (q_truths_ : Nat) (q_imaged_ : Nat) (q_namesKept_ : Nat) (q_areKept_ : Nat) (q_s : Nat → Int32) (hb0 : 0 ≤ q_length.toInt ∧ q_length.toInt ≤ 940) (hb1 : 0 ≤ q_size.toInt ∧ q_size.toInt ≤ 940) (hb2 : 0 ≤ q_p.toInt ∧ q_p.toInt ≤ 940) (hb3 : 0 ≤ q_limit.toInt ∧ q_limit.toInt ≤ 940) (hb4 : 0 ≤ q_span.toInt ∧ q_span.toInt ≤ 940) (hb5 : 0 ≤ q_number.toInt ∧ q_number.toInt ≤ 8214) (hb6 : (-1) ≤ q_got.toInt ∧ q_got.toInt ≤ 8214) (hb7 : 0 ≤ q_one.toInt ∧ q_one.toInt ≤ 7) (hb8 : 0 ≤ q_two.toInt ∧ q_two.toInt ≤ 7) (hb9 : 0 ≤ q_undoMany.toInt ∧ q_undoMany.toInt ≤ 8) (hb10 : (-1) ≤ q_wayMany.toInt ∧ q_wayMany.toInt ≤ 8) (hb11 : (-1) ≤ q_keptMany.toInt ∧ q_keptMany.toInt ≤ 8) (hb12 : (-1) ≤ q_askedMany.toInt ∧ q_askedMany.toInt ≤ 3) (hb13 : 0 ≤ q_hasTorn.toInt ∧ q_hasTorn.toInt ≤ 1) (hb14 : 0 ≤ q_hasTurn.toInt ∧ q_hasTurn.toInt ≤ 1) (hb15 : 0 ≤ q_textMany.toInt ∧ q_textMany.toInt ≤ 48) (hb16 : 0 ≤ q_toldMany.toInt ∧ q_toldMany.toInt ≤ 40) (hb17 : 0 ≤ q_hasTold.toInt ∧ q_hasTold.toInt ≤ 1) (hb18 : 0 ≤ q_codes.toInt ∧ q_codes.toInt ≤ 40) (hb19 : 0 ≤ q_ones.toInt ∧ q_ones.toInt ≤ 20) (hb20 : 0 ≤ q_top.toInt ∧ q_top.toInt ≤ 40) (hb21 : 0 ≤ q_isWhole.toInt ∧ q_isWhole.toInt ≤ 1) (hb22 : 0 ≤ a.toInt) (hb23 : 0 ≤ n.toInt ∧ n.toInt ≤ 8) (hb24 : 0 ≤ k.toInt ∧ k.toInt ≤ 8) (hR0 : Rg q_s 0 1 0 8) (hR1 : Rg q_s 1 3 0 6) (hR2 : Rg q_s 3 4 1 50) (hR3 : Rg q_s 4 5 1 5) (hR4 : Rg q_s 103 104 0 255) (hR5 : Rg q_s 7 23 0 5) (hR6 : Rg q_s 106 122 0 5) (hR7 : Rg q_s 23 31 0 99) (hR8 : Rg q_s 122 130 0 99) {p : Program} {e : Env} {s : State} {m : MethodId} {args : Array Value} {below : List Frame} {meth : Method} {c : Code} {A : Nat → Prop} {Q : State → Prop} {cells slots : Nat} (hroom : cells ≤ ((Rm 2 42 0 0)).cells ∧ slots ≤ ((Rm 2 42 0 0)).slots) (C : Cx p s m args meth c cX11_askedBy 5 (some .int) RX11 "askedBy" D cy A) (hQ : Q = MQ below (va_Qi (fun (r : Int32) (u : Unit) => ((-2) ≤ r.toInt ∧ r.toInt ≤ 7)) (Bx D A (fun u : Unit => [(q, oC11 q_thrown q_tape_ q_length q_size q_p q_limit q_s_ q_h_ q_read_ q_names_ q_reserved_ q_token q_at q_span q_number q_fault q_faultAt q_word q_got q_lines q_onces q_webs q_one q_two q_seed q_undone_ q_before_ q_undoMany q_far_ q_wayRow_ q_wayMany q_keptRow_ q_askedRow_ q_rares_ q_trial_ q_keptMany q_askedMany q_hangs_ q_paths_ q_tornSteps q_hasTorn q_turnOne q_hasTurn q_text_ q_textMany q_toldMany q_toldAt_ q_hasTold q_stack_ q_codes q_ones q_top q_deep q_isWhole q_truths_ q_imaged_ q_namesKept_ q_areKept_), (q_s_, aC1 cy 383 q_s)])) A) args s ((Rm 2 42 0 0)).cells ((Rm 2 42 0 0)).slots A) (H : Heap) (locs : List Loc) (ls : Array Slot) (hP : va_P D vwCl [(q, oC11 q_thrown q_tape_ q_length q_size q_p q_limit q_s_ q_h_ q_read_ q_names_ q_reserved_ q_token q_at q_span q_number q_fault q_faultAt q_word q_got q_lines q_onces q_webs q_one q_two q_seed q_undone_ q_before_ q_undoMany q_far_ q_wayRow_ q_wayMany q_keptRow_ q_askedRow_ q_rares_ q_trial_ q_keptMany q_askedMany q_hangs_ q_paths_ q_tornSteps q_hasTorn q_turnOne q_hasTurn q_text_ q_textMany q_toldMany q_toldAt_ q_hasTold q_stack_ q_codes q_ones q_top q_deep q_isWhole q_truths_ q_imaged_ q_namesKept_ q_areKept_), (q_s_, aC1 cy 383 q_s)] H) (hD : va_D A [(q, oC11 q_thrown q_tape_ q_length q_size q_p q_limit q_s_ q_h_ q_read_ q_names_ q_reserved_ q_token q_at q_span q_number q_fault q_faultAt q_word q_got q_lines q_onces q_webs q_one q_two q_seed q_undone_ q_before_ q_undoMany q_far_ q_wayRow_ q_wayMany q_keptRow_ q_askedRow_ q_rares_ q_trial_ q_keptMany q_askedMany q_hangs_ q_paths_ q_tornSteps q_hasTorn q_turnOne q_hasTurn q_text_ q_textMany q_toldMany q_toldAt_ q_hasTold q_stack_ q_codes q_ones q_top q_deep q_isWhole q_truths_ q_imaged_ q_namesKept_ q_areKept_), (q_s_, aC1 cy 383 q_s)]) (hS : va_S A s.heap H locs) (hl : lv_has ls 5 [(0, .ref q), (1, .int a), (2, .int n), (3, .int k)]) : W p l e (Rm 2 42 0 0) s m args below meth c H locs cells slots Q (F0 m 0 ls []) := by
  have hx := C.1
  have hb := C.2.1
  refine lv_iload_n hx hb dX11_askedBy_0 rfl (lv_at hl 1 rfl) ?_
  refine lv_aload_n hx hb dX11_askedBy_1 rfl (lv_at hl 0 rfl) ?_
  refine q_get11 (v := .ref q_s_) C hP 0 6 rfl fT_6 (by decide) kF_RX11_33 rfl dX11_askedBy_2 ?_
  refine lv_iconst (v := 0) hx hb dX11_askedBy_5 (by decide) ?_
  refine q_iald (v := q_s 0) C hP 1 rfl (vin (by decide +kernel)) rfl dX11_askedBy_6 ?_
  refine lv_topi (fun z_1 ez_1 => ?_)
  have hz_1 : 0 ≤ z_1.toInt ∧ z_1.toInt ≤ 8 := (by rw [ez_1]; exact hR0 0 (by decide) (by decide))
  refine lv_iconst (v := 1) hx hb dX11_askedBy_7 (by decide) ?_
  refine lv_iadd hx hb dX11_askedBy_8 ?_
  refine lv_topi (fun z_2 hz_2 => ?_)
  have hz_2 := o_add hz_2 (rfl : z_1.toInt = z_1.toInt) (by decide : (1 : Int32).toInt = 1) (by omega) (by omega)
  refine lv_iload_n hx hb dX11_askedBy_9 rfl (lv_at hl 2 rfl) ?_
  refine lv_iload_n hx hb dX11_askedBy_10 rfl (lv_at hl 3 rfl) ?_
  refine q_ai (wr := [(q, oC11 q_thrown q_tape_ q_length q_size q_p q_limit q_s_ q_h_ q_read_ q_names_ q_reserved_ q_token q_at q_span q_number q_fault q_faultAt q_word q_got q_lines q_onces q_webs q_one q_two q_seed q_undone_ q_before_ q_undoMany q_far_ q_wayRow_ q_wayMany q_keptRow_ q_askedRow_ q_rares_ q_trial_ q_keptMany q_askedMany q_hangs_ q_paths_ q_tornSteps q_hasTorn q_turnOne q_hasTurn q_text_ q_textMany q_toldMany q_toldAt_ q_hasTold q_stack_ q_codes q_ones q_top q_deep q_isWhole q_truths_ q_imaged_ q_namesKept_ q_areKept_), (q_s_, aC1 cy 383 q_s)]) (r_S (rm := (Rm 0 0 0 0)) (As := [.int a, .int z_2, .int n, .int k]) (rest := []) (wc := []) C hS (q_subP hP [] rfl) (hD.sub [] (by decide) rfl) (y_digit l D cy a z_2 n k _ (by omega) (by omega) (by omega) (by omega)) kwS_X11_digit kM_RX11_379 ⟨Nat.le_of_ble_eq_true rfl, Nat.le_of_ble_eq_true rfl⟩ rfl hl.1 rfl (Nat.le_of_ble_eq_true rfl) dX11_askedBy_11 ⟨hroom.1, hroom.2⟩) C.2.2.2.2.2.2.1 hP hD hS [] [0, 1] rfl rfl (by decide) (by decide) (fun r_4 u_3 H locs hw_5 hP hD hS => ?_)
  have hp_5 : 0 ≤ r_4.toInt ∧ r_4.toInt ≤ 8 := hw_5.1
  have hp_6 : 0 ≤ r_4.toInt ∧ 0 ≤ z_2.toInt + (-1) * r_4.toInt + (-1) := hw_5.2
  clear hw_5
  refine lv_istore (lv' := [(4, .int r_4), (0, .ref q), (1, .int a), (2, .int n), (3, .int k)]) hx hb dX11_askedBy_14 hl (by decide) rfl (fun ls hl => ?_)
  refine lv_iload hx hb dX11_askedBy_16 (lv_at hl 0 rfl) ?_
  refine lv_aload_n hx hb dX11_askedBy_18 rfl (lv_at hl 1 rfl) ?_
  refine q_get11 (v := .ref q_s_) C hP 0 6 rfl fT_6 (by decide) kF_RX11_33 rfl dX11_askedBy_19 ?_
  refine lv_iconst (v := 0) hx hb dX11_askedBy_22 (by decide) ?_
  refine q_iald (v := z_1) C hP 1 rfl (vin (by decide +kernel)) ez_1.symm dX11_askedBy_23 ?_
  refine lv_icmp_ne (tgt := 29) hx hb dX11_askedBy_24 (by decide) (fun c_8 => ?_) (fun c_8 => ?_)
  · have hc_8 := o_ne (rfl : r_4.toInt = r_4.toInt) (rfl : z_1.toInt = z_1.toInt) c_8
    refine lv_iload_n hx hb dX11_askedBy_29 rfl (lv_at hl 4 rfl) ?_
    refine lv_if_ne (tgt := 47) hx hb dX11_askedBy_30 (by decide) (fun c_9 => ?_) (fun c_9 => ?_)
    · have hc_9 := o_ne (rfl : k.toInt = k.toInt) (by decide : (0 : Int32).toInt = 0) c_9
      refine lv_iload hx hb dX11_askedBy_47 (lv_at hl 0 rfl) ?_
      refine o_wq hQ ?_
      exact q_iret (rm := (Rm 2 42 0 0)) C hS () rfl (show (-2) ≤ r_4.toInt ∧ r_4.toInt ≤ 7 by omega) (q_subP hP [0, 1] rfl) (hD.sub [0, 1] (by decide) rfl) hroom.1 hroom.2 dX11_askedBy_49
    · have hc_9 := o_eq (rfl : k.toInt = k.toInt) (by decide : (0 : Int32).toInt = 0) c_9
      refine lv_aload_n hx hb dX11_askedBy_33 rfl (lv_at hl 1 rfl) ?_
      refine lv_iload hx hb dX11_askedBy_34 (lv_at hl 0 rfl) ?_
      refine q_ai (wr := []) (r_V (rm := (Rm 1 21 0 0)) (q0 := 0) (As := [.int r_4]) (rest := []) (wc := [(q, oC11 q_thrown q_tape_ q_length q_size q_p q_limit q_s_ q_h_ q_read_ q_names_ q_reserved_ q_token q_at q_span q_number q_fault q_faultAt q_word q_got q_lines q_onces q_webs q_one q_two q_seed q_undone_ q_before_ q_undoMany q_far_ q_wayRow_ q_wayMany q_keptRow_ q_askedRow_ q_rares_ q_trial_ q_keptMany q_askedMany q_hangs_ q_paths_ q_tornSteps q_hasTorn q_turnOne q_hasTurn q_text_ q_textMany q_toldMany q_toldAt_ q_hasTold q_stack_ q_codes q_ones q_top q_deep q_isWhole q_truths_ q_imaged_ q_namesKept_ q_areKept_), (q_s_, aC1 cy 383 q_s)]) C hS (q_subP hP [0, 1] rfl) (hD.sub [0, 1] (by decide) rfl) (y_isAsked l D cy q r_4 q_thrown q_tape_ q_length q_size q_p q_limit q_s_ q_h_ q_read_ q_names_ q_reserved_ q_token q_at q_span q_number q_fault q_faultAt q_word q_got q_lines q_onces q_webs q_one q_two q_seed q_undone_ q_before_ q_undoMany q_far_ q_wayRow_ q_wayMany q_keptRow_ q_askedRow_ q_rares_ q_trial_ q_keptMany q_askedMany q_hangs_ q_paths_ q_tornSteps q_hasTorn q_turnOne q_hasTurn q_text_ q_textMany q_toldMany q_toldAt_ q_hasTold q_stack_ q_codes q_ones q_top q_deep q_isWhole q_truths_ q_imaged_ q_namesKept_ q_areKept_ q_s _ (by omega) (by omega) (by omega) (by omega) (by omega) (by omega) (by omega) (by omega) (by omega) (by omega) (by omega) (by omega) (by omega) (by omega) (by omega) (by omega) (by omega) (by omega) (by omega) (by omega) (by omega) (by omega) hR0 hR1 hR2 hR3 hR4 hR5 hR6 hR7 hR8) kwV_X11_isAsked kM_RX11_338 rfl rfl ⟨Nat.le_of_ble_eq_true rfl, Nat.le_of_ble_eq_true rfl⟩ rfl hl.1 rfl (Nat.le_of_ble_eq_true rfl) dX11_askedBy_36 ⟨hroom.1, hroom.2⟩) C.2.2.2.2.2.2.1 hP hD hS [0, 1] [] rfl rfl (by decide) (by decide) (fun r_11 u_10 H locs hw_12 hP hD hS => ?_)
      have hp_12 : 0 ≤ r_11.toInt ∧ r_11.toInt ≤ 1 := hw_12
      clear hw_12
      refine lv_if_eq (tgt := 47) hx hb dX11_askedBy_39 (by decide) (fun c_14 => ?_) (fun c_14 => ?_)
      · have hc_14 := o_eq (rfl : r_11.toInt = r_11.toInt) (by decide : (0 : Int32).toInt = 0) c_14
        refine lv_iload hx hb dX11_askedBy_47 (lv_at hl 0 rfl) ?_
        refine o_wq hQ ?_
        exact q_iret (rm := (Rm 2 42 0 0)) C hS () rfl (show (-2) ≤ r_4.toInt ∧ r_4.toInt ≤ 7 by omega) (q_subP hP [0, 1] rfl) (hD.sub [0, 1] (by decide) rfl) hroom.1 hroom.2 dX11_askedBy_49
      · have hc_14 := o_ne (rfl : r_11.toInt = r_11.toInt) (by decide : (0 : Int32).toInt = 0) c_14
        refine lv_bipush (v := (-2)) hx hb dX11_askedBy_42 (by decide) ?_
        refine lv_goto (tgt := 49) hx hb dX11_askedBy_44 (by decide) ?_
        refine o_wq hQ ?_
        exact q_iret (rm := (Rm 2 42 0 0)) C hS () rfl (show (-2) ≤ ((-2) : Int32).toInt ∧ ((-2) : Int32).toInt ≤ 7 by decide) (q_subP hP [0, 1] rfl) (hD.sub [0, 1] (by decide) rfl) hroom.1 hroom.2 dX11_askedBy_49
  · have hc_8 := o_eq (rfl : r_4.toInt = r_4.toInt) (rfl : z_1.toInt = z_1.toInt) c_8
    refine lv_iconst (v := (-1)) hx hb dX11_askedBy_27 (by decide) ?_
    refine o_wq hQ ?_
    exact q_iret (rm := (Rm 2 42 0 0)) C hS () rfl (show (-2) ≤ ((-1) : Int32).toInt ∧ ((-1) : Int32).toInt ≤ 7 by decide) (q_subP hP [0, 1] rfl) (hD.sub [0, 1] (by decide) rfl) hroom.1 hroom.2 dX11_askedBy_28
theorem y_askedBy (l : Launch) (D : va_G) (cy : Nat → ClassId) (q : Nat) (a : Int32) (n : Int32) (k : Int32) (q_thrown : Int32) (q_tape_ : Nat) (q_length : Int32) (q_size : Int32) (q_p : Int32) (q_limit : Int32) (q_s_ : Nat) (q_h_ : Nat) (q_read_ : Nat) (q_names_ : Nat) (q_reserved_ : Nat) (q_token : Int32) (q_at : Int32) (q_span : Int32) (q_number : Int32) (q_fault : Int32) (q_faultAt : Int32) (q_word : Int64) (q_got : Int32) (q_lines : Int32) (q_onces : Int32) (q_webs : Int32) (q_one : Int32) (q_two : Int32) (q_seed : Int32) (q_undone_ : Nat) (q_before_ : Nat) (q_undoMany : Int32) (q_far_ : Nat) (q_wayRow_ : Nat) (q_wayMany : Int32) (q_keptRow_ : Nat) (q_askedRow_ : Nat) (q_rares_ : Nat) (q_trial_ : Nat) (q_keptMany : Int32) (q_askedMany : Int32) (q_hangs_ : Nat) (q_paths_ : Nat) (q_tornSteps : Int32) (q_hasTorn : Int32) (q_turnOne : Int32) (q_hasTurn : Int32) (q_text_ : Nat) (q_textMany : Int32) (q_toldMany : Int32) (q_toldAt_ : Nat) (q_hasTold : Int32) (q_stack_ : Nat) (q_codes : Int32) (q_ones : Int32) (q_top : Int32) (q_deep : Int32) (q_isWhole : Int32) (q_truths_ : Nat) (q_imaged_ : Nat) (q_namesKept_ : Nat) (q_areKept_ : Nat) (q_s : Nat → Int32) (sz : Nat) (hb0 : 0 ≤ q_length.toInt ∧ q_length.toInt ≤ 940) (hb1 : 0 ≤ q_size.toInt ∧ q_size.toInt ≤ 940) (hb2 : 0 ≤ q_p.toInt ∧ q_p.toInt ≤ 940) (hb3 : 0 ≤ q_limit.toInt ∧ q_limit.toInt ≤ 940) (hb4 : 0 ≤ q_span.toInt ∧ q_span.toInt ≤ 940) (hb5 : 0 ≤ q_number.toInt ∧ q_number.toInt ≤ 8214) (hb6 : (-1) ≤ q_got.toInt ∧ q_got.toInt ≤ 8214) (hb7 : 0 ≤ q_one.toInt ∧ q_one.toInt ≤ 7) (hb8 : 0 ≤ q_two.toInt ∧ q_two.toInt ≤ 7) (hb9 : 0 ≤ q_undoMany.toInt ∧ q_undoMany.toInt ≤ 8) (hb10 : (-1) ≤ q_wayMany.toInt ∧ q_wayMany.toInt ≤ 8) (hb11 : (-1) ≤ q_keptMany.toInt ∧ q_keptMany.toInt ≤ 8) (hb12 : (-1) ≤ q_askedMany.toInt ∧ q_askedMany.toInt ≤ 3) (hb13 : 0 ≤ q_hasTorn.toInt ∧ q_hasTorn.toInt ≤ 1) (hb14 : 0 ≤ q_hasTurn.toInt ∧ q_hasTurn.toInt ≤ 1) (hb15 : 0 ≤ q_textMany.toInt ∧ q_textMany.toInt ≤ 48) (hb16 : 0 ≤ q_toldMany.toInt ∧ q_toldMany.toInt ≤ 40) (hb17 : 0 ≤ q_hasTold.toInt ∧ q_hasTold.toInt ≤ 1) (hb18 : 0 ≤ q_codes.toInt ∧ q_codes.toInt ≤ 40) (hb19 : 0 ≤ q_ones.toInt ∧ q_ones.toInt ≤ 20) (hb20 : 0 ≤ q_top.toInt ∧ q_top.toInt ≤ 40) (hb21 : 0 ≤ q_isWhole.toInt ∧ q_isWhole.toInt ≤ 1) (hb22 : 0 ≤ a.toInt) (hb23 : 0 ≤ n.toInt ∧ n.toInt ≤ 8) (hb24 : 0 ≤ k.toInt ∧ k.toInt ≤ 8) (hR0 : Rg q_s 0 1 0 8) (hR1 : Rg q_s 1 3 0 6) (hR2 : Rg q_s 3 4 1 50) (hR3 : Rg q_s 4 5 1 5) (hR4 : Rg q_s 103 104 0 255) (hR5 : Rg q_s 7 23 0 5) (hR6 : Rg q_s 106 122 0 5) (hR7 : Rg q_s 23 31 0 99) (hR8 : Rg q_s 122 130 0 99) : MI l yX11_askedBy cX11_askedBy 5 (some .int) (Rm 2 42 0 0) D cy [.ref q, .int a, .int n, .int k] sz [(q, oC11 q_thrown q_tape_ q_length q_size q_p q_limit q_s_ q_h_ q_read_ q_names_ q_reserved_ q_token q_at q_span q_number q_fault q_faultAt q_word q_got q_lines q_onces q_webs q_one q_two q_seed q_undone_ q_before_ q_undoMany q_far_ q_wayRow_ q_wayMany q_keptRow_ q_askedRow_ q_rares_ q_trial_ q_keptMany q_askedMany q_hangs_ q_paths_ q_tornSteps q_hasTorn q_turnOne q_hasTurn q_text_ q_textMany q_toldMany q_toldAt_ q_hasTold q_stack_ q_codes q_ones q_top q_deep q_isWhole q_truths_ q_imaged_ q_namesKept_ q_areKept_), (q_s_, aC1 cy 383 q_s)] (fun (r : Int32) (u : Unit) => ((-2) ≤ r.toInt ∧ r.toInt ≤ 7)) (fun u : Unit => [(q, oC11 q_thrown q_tape_ q_length q_size q_p q_limit q_s_ q_h_ q_read_ q_names_ q_reserved_ q_token q_at q_span q_number q_fault q_faultAt q_word q_got q_lines q_onces q_webs q_one q_two q_seed q_undone_ q_before_ q_undoMany q_far_ q_wayRow_ q_wayMany q_keptRow_ q_askedRow_ q_rares_ q_trial_ q_keptMany q_askedMany q_hangs_ q_paths_ q_tornSteps q_hasTorn q_turnOne q_hasTurn q_text_ q_textMany q_toldMany q_toldAt_ q_hasTold q_stack_ q_codes q_ones q_top q_deep q_isWhole q_truths_ q_imaged_ q_namesKept_ q_areKept_), (q_s_, aC1 cy 383 q_s)]) := by
  refine MI.enter (by decide) (Nat.le_of_ble_eq_true rfl) ?_
  intro p e s m below meth c ls A hsz hAe C hP hD hS hl
  exact b_y_askedBy l D cy q a n k q_thrown q_tape_ q_length q_size q_p q_limit q_s_ q_h_ q_read_ q_names_ q_reserved_ q_token q_at q_span q_number q_fault q_faultAt q_word q_got q_lines q_onces q_webs q_one q_two q_seed q_undone_ q_before_ q_undoMany q_far_ q_wayRow_ q_wayMany q_keptRow_ q_askedRow_ q_rares_ q_trial_ q_keptMany q_askedMany q_hangs_ q_paths_ q_tornSteps q_hasTorn q_turnOne q_hasTurn q_text_ q_textMany q_toldMany q_toldAt_ q_hasTold q_stack_ q_codes q_ones q_top q_deep q_isWhole q_truths_ q_imaged_ q_namesKept_ q_areKept_ q_s hb0 hb1 hb2 hb3 hb4 hb5 hb6 hb7 hb8 hb9 hb10 hb11 hb12 hb13 hb14 hb15 hb16 hb17 hb18 hb19 hb20 hb21 hb22 hb23 hb24 hR0 hR1 hR2 hR3 hR4 hR5 hR6 hR7 hR8 ⟨Nat.le_of_ble_eq_true rfl, Nat.le_of_ble_eq_true rfl⟩ C rfl _ _ ls hP hD hS hl
set_option maxHeartbeats 4000000 in
set_option maxRecDepth 100000 in
theorem b_y_spun (l : Launch) (D : va_G) (cy : Nat → ClassId) (q : Nat) (q_thrown : Int32) (q_tape_ : Nat) (q_length : Int32) (q_size : Int32) (q_p : Int32) (q_limit : Int32) (q_s_ : Nat) (q_h_ : Nat) (q_read_ : Nat) (q_names_ : Nat) (q_reserved_ : Nat) (q_token : Int32) (q_at : Int32) (q_span : Int32) (q_number : Int32) (q_fault : Int32) (q_faultAt : Int32) (q_word : Int64) (q_got : Int32) (q_lines : Int32) (q_onces : Int32) (q_webs : Int32) (q_one : Int32) (q_two : Int32) (q_seed : Int32) (q_undone_ : Nat) (q_before_ : Nat) (q_undoMany : Int32) (q_far_ : Nat) (q_wayRow_ : Nat) (q_wayMany : Int32) (q_keptRow_ : Nat) (q_askedRow_ : Nat) (q_rares_ : Nat) (q_trial_ : Nat) (q_keptMany : Int32) (q_askedMany : Int32) (q_hangs_ : Nat) (q_paths_ : Nat) (q_tornSteps : Int32) (q_hasTorn : Int32) (q_turnOne : Int32) (q_hasTurn : Int32) (q_text_ : Nat) (q_textMany : Int32) (q_toldMany : Int32) (q_toldAt_ : Nat) (q_hasTold : Int32) (q_stack_ : Nat) (q_codes : Int32) (q_ones : Int32) (q_top : Int32) (q_deep : Int32) (q_isWhole : Int32) (q_truths_ : Nat) (q_imaged_ : Nat) (q_namesKept_ : Nat) (q_areKept_ : Nat) (q_tape : Nat → Int32) (hb0 : 0 ≤ q_length.toInt ∧ q_length.toInt ≤ 940) (hb1 : 0 ≤ q_size.toInt ∧ q_size.toInt ≤ 940) (hb2 : 0 ≤ q_p.toInt ∧ q_p.toInt ≤ 940) (hb3 : 0 ≤ q_limit.toInt ∧ q_limit.toInt ≤ 940) (hb4 : 0 ≤ q_span.toInt ∧ q_span.toInt ≤ 940) (hb5 : 0 ≤ q_number.toInt ∧ q_number.toInt ≤ 8214) (hb6 : (-1) ≤ q_got.toInt ∧ q_got.toInt ≤ 8214) (hb7 : 0 ≤ q_one.toInt ∧ q_one.toInt ≤ 7) (hb8 : 0 ≤ q_two.toInt ∧ q_two.toInt ≤ 7) (hb9 : 0 ≤ q_undoMany.toInt ∧ q_undoMany.toInt ≤ 8) (hb10 : (-1) ≤ q_wayMany.toInt ∧ q_wayMany.toInt ≤ 8) (hb11 : (-1) ≤ q_keptMany.toInt ∧ q_keptMany.toInt ≤ 8) (hb12 : (-1) ≤ q_askedMany.toInt ∧ q_askedMany.toInt ≤ 3) (hb13 : 0 ≤ q_hasTorn.toInt ∧ q_hasTorn.toInt ≤ 1) (hb14 : 0 ≤ q_hasTurn.toInt ∧ q_hasTurn.toInt ≤ 1) (hb15 : 0 ≤ q_textMany.toInt ∧ q_textMany.toInt ≤ 48) (hb16 : 0 ≤ q_toldMany.toInt ∧ q_toldMany.toInt ≤ 40) (hb17 : 0 ≤ q_hasTold.toInt ∧ q_hasTold.toInt ≤ 1) (hb18 : 0 ≤ q_codes.toInt ∧ q_codes.toInt ≤ 40) (hb19 : 0 ≤ q_ones.toInt ∧ q_ones.toInt ≤ 20) (hb20 : 0 ≤ q_top.toInt ∧ q_top.toInt ≤ 40) (hb21 : 0 ≤ q_isWhole.toInt ∧ q_isWhole.toInt ≤ 1) {p : Program} {e : Env} {s : State} {m : MethodId} {args : Array Value} {below : List Frame} {meth : Method} {c : Code} {A : Nat → Prop} {Q : State → Prop} {cells slots : Nat} (hroom : cells ≤ ((Rm 1 22 0 0)).cells ∧ slots ≤ ((Rm 1 22 0 0)).slots) (C : Cx p s m args meth c cX11_spun 5 (some .int) RX11 "spun" D cy A) (hQ : Q = MQ below (va_Qi (fun (r : Int32) (u : Int32 × Int32 × Int32 × Int32 × Int32) => ((-1) ≤ r.toInt ∧ r.toInt ≤ 255) ∧ (0 ≤ u.2.1.toInt ∧ u.2.1.toInt ≤ 0) ∧ (0 ≤ u.2.2.1.toInt ∧ u.2.2.1.toInt ≤ 940) ∧ (0 ≤ u.2.2.2.1.toInt ∧ u.2.2.2.1.toInt ≤ 940) ∧ (0 ≤ u.2.2.2.2.toInt ∧ u.2.2.2.2.toInt ≤ 940) ∧ (r.toInt = spA q_tape q_length.toInt)) (Bx D A (fun u : Int32 × Int32 × Int32 × Int32 × Int32 => [(q, oC11 u.1 q_tape_ u.2.1 u.2.2.1 u.2.2.2.1 u.2.2.2.2 q_s_ q_h_ q_read_ q_names_ q_reserved_ q_token q_at q_span q_number q_fault q_faultAt q_word q_got q_lines q_onces q_webs q_one q_two q_seed q_undone_ q_before_ q_undoMany q_far_ q_wayRow_ q_wayMany q_keptRow_ q_askedRow_ q_rares_ q_trial_ q_keptMany q_askedMany q_hangs_ q_paths_ q_tornSteps q_hasTorn q_turnOne q_hasTurn q_text_ q_textMany q_toldMany q_toldAt_ q_hasTold q_stack_ q_codes q_ones q_top q_deep q_isWhole q_truths_ q_imaged_ q_namesKept_ q_areKept_), (q_tape_, aC0 cy 940 q_tape)])) A) args s ((Rm 1 22 0 0)).cells ((Rm 1 22 0 0)).slots A) (H : Heap) (locs : List Loc) (ls : Array Slot) (hP : va_P D vwCl [(q, oC11 q_thrown q_tape_ q_length q_size q_p q_limit q_s_ q_h_ q_read_ q_names_ q_reserved_ q_token q_at q_span q_number q_fault q_faultAt q_word q_got q_lines q_onces q_webs q_one q_two q_seed q_undone_ q_before_ q_undoMany q_far_ q_wayRow_ q_wayMany q_keptRow_ q_askedRow_ q_rares_ q_trial_ q_keptMany q_askedMany q_hangs_ q_paths_ q_tornSteps q_hasTorn q_turnOne q_hasTurn q_text_ q_textMany q_toldMany q_toldAt_ q_hasTold q_stack_ q_codes q_ones q_top q_deep q_isWhole q_truths_ q_imaged_ q_namesKept_ q_areKept_), (q_tape_, aC0 cy 940 q_tape)] H) (hD : va_D A [(q, oC11 q_thrown q_tape_ q_length q_size q_p q_limit q_s_ q_h_ q_read_ q_names_ q_reserved_ q_token q_at q_span q_number q_fault q_faultAt q_word q_got q_lines q_onces q_webs q_one q_two q_seed q_undone_ q_before_ q_undoMany q_far_ q_wayRow_ q_wayMany q_keptRow_ q_askedRow_ q_rares_ q_trial_ q_keptMany q_askedMany q_hangs_ q_paths_ q_tornSteps q_hasTorn q_turnOne q_hasTurn q_text_ q_textMany q_toldMany q_toldAt_ q_hasTold q_stack_ q_codes q_ones q_top q_deep q_isWhole q_truths_ q_imaged_ q_namesKept_ q_areKept_), (q_tape_, aC0 cy 940 q_tape)]) (hS : va_S A s.heap H locs) (hl : lv_has ls 5 [(0, .ref q)]) : W p l e (Rm 1 22 0 0) s m args below meth c H locs cells slots Q (F0 m 0 ls []) := by
  have hx := C.1
  have hb := C.2.1
  refine lv_aload_n hx hb dX11_spun_0 rfl (lv_at hl 0 rfl) ?_
  refine lv_iconst (v := 0) hx hb dX11_spun_1 (by decide) ?_
  refine q_put11 (v := .int 0) (w' := [(q, oC11 0 q_tape_ q_length q_size q_p q_limit q_s_ q_h_ q_read_ q_names_ q_reserved_ q_token q_at q_span q_number q_fault q_faultAt q_word q_got q_lines q_onces q_webs q_one q_two q_seed q_undone_ q_before_ q_undoMany q_far_ q_wayRow_ q_wayMany q_keptRow_ q_askedRow_ q_rares_ q_trial_ q_keptMany q_askedMany q_hangs_ q_paths_ q_tornSteps q_hasTorn q_turnOne q_hasTurn q_text_ q_textMany q_toldMany q_toldAt_ q_hasTold q_stack_ q_codes q_ones q_top q_deep q_isWhole q_truths_ q_imaged_ q_namesKept_ q_areKept_), (q_tape_, aC0 cy 940 q_tape)]) C hP hD hS 0 0 rfl fT_0 fy_0 (by decide) kF_RX11_1 rfl rfl (Nat.le_of_ble_eq_true rfl) rfl dX11_spun_2 (fun H locs hP hD hS => ?_)
  refine lv_aload_n hx hb dX11_spun_5 rfl (lv_at hl 0 rfl) ?_
  refine lv_sipush (v := 940) hx hb dX11_spun_6 (by decide) ?_
  refine q_av (wr := [(q_tape_, aC0 cy 940 q_tape)]) (r_V (rm := (Rm 0 0 0 0)) (q0 := 0) (As := [.int 940]) (rest := []) (wc := [(q, oC11 0 q_tape_ q_length q_size q_p q_limit q_s_ q_h_ q_read_ q_names_ q_reserved_ q_token q_at q_span q_number q_fault q_faultAt q_word q_got q_lines q_onces q_webs q_one q_two q_seed q_undone_ q_before_ q_undoMany q_far_ q_wayRow_ q_wayMany q_keptRow_ q_askedRow_ q_rares_ q_trial_ q_keptMany q_askedMany q_hangs_ q_paths_ q_tornSteps q_hasTorn q_turnOne q_hasTurn q_text_ q_textMany q_toldMany q_toldAt_ q_hasTold q_stack_ q_codes q_ones q_top q_deep q_isWhole q_truths_ q_imaged_ q_namesKept_ q_areKept_)]) C hS (q_subP hP [0] rfl) (hD.sub [0] (by decide) rfl) (y_taken l D cy q 940 0 q_tape_ q_length q_size q_p q_limit q_s_ q_h_ q_read_ q_names_ q_reserved_ q_token q_at q_span q_number q_fault q_faultAt q_word q_got q_lines q_onces q_webs q_one q_two q_seed q_undone_ q_before_ q_undoMany q_far_ q_wayRow_ q_wayMany q_keptRow_ q_askedRow_ q_rares_ q_trial_ q_keptMany q_askedMany q_hangs_ q_paths_ q_tornSteps q_hasTorn q_turnOne q_hasTurn q_text_ q_textMany q_toldMany q_toldAt_ q_hasTold q_stack_ q_codes q_ones q_top q_deep q_isWhole q_truths_ q_imaged_ q_namesKept_ q_areKept_ _ (by omega) (by omega) (by omega) (by omega) (by omega) (by omega) (by omega) (by omega) (by omega) (by omega) (by omega) (by omega) (by omega) (by omega) (by omega) (by omega) (by omega) (by omega) (by omega) (by omega) (by omega) (by omega) (by decide)) kwV_X11_taken kM_RX11_276 rfl rfl ⟨Nat.le_of_ble_eq_true rfl, Nat.le_of_ble_eq_true rfl⟩ rfl hl.1 rfl (Nat.le_of_ble_eq_true rfl) dX11_spun_9 ⟨hroom.1, hroom.2⟩) C.2.2.2.2.2.2.1 hP hD hS [0] [1] rfl rfl (by decide) (by decide) (fun u_1 H locs hw_3 hP hD hS => ?_)
  obtain ⟨x_4, x_5, x_6, x_7⟩ := u_1
  have hP : va_P D vwCl [(q_tape_, aC0 cy 940 q_tape), (q, oC11 0 q_tape_ x_4 x_5 x_6 x_7 q_s_ q_h_ q_read_ q_names_ q_reserved_ q_token q_at q_span q_number q_fault q_faultAt q_word q_got q_lines q_onces q_webs q_one q_two q_seed q_undone_ q_before_ q_undoMany q_far_ q_wayRow_ q_wayMany q_keptRow_ q_askedRow_ q_rares_ q_trial_ q_keptMany q_askedMany q_hangs_ q_paths_ q_tornSteps q_hasTorn q_turnOne q_hasTurn q_text_ q_textMany q_toldMany q_toldAt_ q_hasTold q_stack_ q_codes q_ones q_top q_deep q_isWhole q_truths_ q_imaged_ q_namesKept_ q_areKept_)] H := hP
  have hD : va_D A [(q_tape_, aC0 cy 940 q_tape), (q, oC11 0 q_tape_ x_4 x_5 x_6 x_7 q_s_ q_h_ q_read_ q_names_ q_reserved_ q_token q_at q_span q_number q_fault q_faultAt q_word q_got q_lines q_onces q_webs q_one q_two q_seed q_undone_ q_before_ q_undoMany q_far_ q_wayRow_ q_wayMany q_keptRow_ q_askedRow_ q_rares_ q_trial_ q_keptMany q_askedMany q_hangs_ q_paths_ q_tornSteps q_hasTorn q_turnOne q_hasTurn q_text_ q_textMany q_toldMany q_toldAt_ q_hasTold q_stack_ q_codes q_ones q_top q_deep q_isWhole q_truths_ q_imaged_ q_namesKept_ q_areKept_)] := hD
  have hp_7 : 0 ≤ x_4.toInt ∧ x_4.toInt ≤ 0 := hw_3.1
  have hp_8 : 0 ≤ x_5.toInt ∧ x_5.toInt ≤ 940 := hw_3.2.1
  have hp_9 : 0 ≤ x_6.toInt ∧ x_6.toInt ≤ 940 := hw_3.2.2.1
  have hp_10 : 0 ≤ x_7.toInt ∧ x_7.toInt ≤ 940 := hw_3.2.2.2.1
  have hp_11 : 0 ≤ x_5.toInt + (-1) * q_length.toInt ∧ 0 ≤ (-1) * x_5.toInt + q_length.toInt := by have e0 : (0 : Int32).toInt = 0 := (by decide); have e1 : (940 : Int32).toInt = 940 := (by decide); have h0 : 0 ≤ x_5.toInt + (-1) * q_length.toInt ∧ 0 ≤ (-1) * x_5.toInt + q_length.toInt := hw_3.2.2.2.2; omega
  clear hw_3
  refine lv_aload_n hx hb dX11_spun_12 rfl (lv_at hl 0 rfl) ?_
  refine q_get11 (v := .int x_5) C hP 1 3 rfl fT_3 (by decide) kF_RX11_18 rfl dX11_spun_13 ?_
  refine lv_iconst (v := 3) hx hb dX11_spun_16 (by decide) ?_
  refine lv_bipush (v := 18) hx hb dX11_spun_17 (by decide) ?_
  refine q_ai (wr := [(q_tape_, aC0 cy 940 q_tape), (q, oC11 0 q_tape_ x_4 x_5 x_6 x_7 q_s_ q_h_ q_read_ q_names_ q_reserved_ q_token q_at q_span q_number q_fault q_faultAt q_word q_got q_lines q_onces q_webs q_one q_two q_seed q_undone_ q_before_ q_undoMany q_far_ q_wayRow_ q_wayMany q_keptRow_ q_askedRow_ q_rares_ q_trial_ q_keptMany q_askedMany q_hangs_ q_paths_ q_tornSteps q_hasTorn q_turnOne q_hasTurn q_text_ q_textMany q_toldMany q_toldAt_ q_hasTold q_stack_ q_codes q_ones q_top q_deep q_isWhole q_truths_ q_imaged_ q_namesKept_ q_areKept_)]) (r_S (rm := (Rm 0 0 0 0)) (As := [.int x_5, .int 3, .int 18]) (rest := []) (wc := []) C hS (q_subP hP [] rfl) (hD.sub [] (by decide) rfl) (y_isIn l D cy x_5 3 18 _ ) kwS_X11_isIn kM_RX11_206 ⟨Nat.le_of_ble_eq_true rfl, Nat.le_of_ble_eq_true rfl⟩ rfl hl.1 rfl (Nat.le_of_ble_eq_true rfl) dX11_spun_19 ⟨hroom.1, hroom.2⟩) C.2.2.2.2.2.2.1 hP hD hS [] [0, 1] rfl rfl (by decide) (by decide) (fun r_14 u_13 H locs hw_15 hP hD hS => ?_)
  have hp_15 : 0 ≤ r_14.toInt ∧ r_14.toInt ≤ 1 := hw_15.1
  have hp_16 : (0 ≤ r_14.toInt + (-1)) → (0 ≤ x_5.toInt + (-3) ∧ 0 ≤ (-1) * x_5.toInt + 18) := by have e0 : (3 : Int32).toInt = 3 := (by decide); have e1 : (18 : Int32).toInt = 18 := (by decide); have h0 : (0 ≤ r_14.toInt + (-1)) → (0 ≤ x_5.toInt + (-1) * (3 : Int32).toInt ∧ 0 ≤ (18 : Int32).toInt + (-1) * x_5.toInt) := hw_15.2.1; omega
  have hp_17 : (0 ≤ x_5.toInt + (-3) ∧ 0 ≤ (-1) * x_5.toInt + 18) → (0 ≤ r_14.toInt + (-1)) := by have e0 : (3 : Int32).toInt = 3 := (by decide); have e1 : (18 : Int32).toInt = 18 := (by decide); have h0 : (0 ≤ x_5.toInt + (-1) * (3 : Int32).toInt ∧ 0 ≤ (18 : Int32).toInt + (-1) * x_5.toInt) → (0 ≤ r_14.toInt + (-1)) := hw_15.2.2; omega
  clear hw_15
  refine lv_if_eq (tgt := 34) hx hb dX11_spun_22 (by decide) (fun c_19 => ?_) (fun c_19 => ?_)
  · have hc_19 := o_eq (rfl : r_14.toInt = r_14.toInt) (by decide : (0 : Int32).toInt = 0) c_19
    clear hp_16
    refine lv_iconst (v := (-1)) hx hb dX11_spun_34 (by decide) ?_
    refine o_wq hQ ?_
    exact q_iret (rm := (Rm 1 22 0 0)) C hS (0, x_4, x_5, x_6, x_7) rfl ⟨(show (-1) ≤ ((-1) : Int32).toInt ∧ ((-1) : Int32).toInt ≤ 255 by decide), (show 0 ≤ x_4.toInt ∧ x_4.toInt ≤ 0 by omega), (show 0 ≤ x_5.toInt ∧ x_5.toInt ≤ 940 by omega), (show 0 ≤ x_6.toInt ∧ x_6.toInt ≤ 940 by omega), (show 0 ≤ x_7.toInt ∧ x_7.toInt ≤ 940 by omega), (sp_no (by decide) (by omega))⟩ (q_subP hP [1, 0] rfl) (hD.sub [1, 0] (by decide) rfl) hroom.1 hroom.2 dX11_spun_35
  · have hc_19 := o_ne (rfl : r_14.toInt = r_14.toInt) (by decide : (0 : Int32).toInt = 0) c_19
    have hp_16 := hp_16 (by omega)
    have hp_17 := hp_17 (by omega)
    refine lv_aload_n hx hb dX11_spun_25 rfl (lv_at hl 0 rfl) ?_
    refine q_get11 (v := .int x_5) C hP 1 3 rfl fT_3 (by decide) kF_RX11_18 rfl dX11_spun_26 ?_
    refine lv_iconst (v := 3) hx hb dX11_spun_29 (by decide) ?_
    refine lv_irem hx hb dX11_spun_30 (by decide) ?_
    refine lv_topi (fun z_20 hz_20 => ?_)
    have dz_20 := hz_20
    have hz_20 := o_rem hz_20 (rfl : x_5.toInt = x_5.toInt) (by decide : (3 : Int32).toInt = 3) (by omega) (by omega)
    have hq_20 : z_20.toInt = x_5.toInt % 3 := o_remx dz_20 rfl (by decide) (by omega) (by decide)
    refine lv_if_eq (tgt := 36) hx hb dX11_spun_31 (by decide) (fun c_22 => ?_) (fun c_22 => ?_)
    · have hc_22 := o_eq (rfl : z_20.toInt = z_20.toInt) (by decide : (0 : Int32).toInt = 0) c_22
      refine lv_iconst (v := 0) hx hb dX11_spun_36 (by decide) ?_
      have hq_22 : okU q_tape (0 : Int32).toInt := okU.zero (by decide)
      refine lv_istore_n (lv' := [(1, .int 0), (0, .ref q)]) hx hb dX11_spun_37 rfl hl (by decide) rfl (fun ls hl => ?_)
      have lp_38_24 : ∀ (n_25 : Nat) (x_24 : Int32) (H : Heap) (locs : List Loc) (ls : Array Slot), (-1) * x_24.toInt + 20 < (n_25 : Int) → (0 ≤ x_24.toInt ∧ x_24.toInt ≤ 20) → (0 ≤ x_5.toInt + (-1) * x_24.toInt + 2) → (okU q_tape x_24.toInt) → va_P D vwCl [(q_tape_, aC0 cy 940 q_tape), (q, oC11 0 q_tape_ x_4 x_5 x_6 x_7 q_s_ q_h_ q_read_ q_names_ q_reserved_ q_token q_at q_span q_number q_fault q_faultAt q_word q_got q_lines q_onces q_webs q_one q_two q_seed q_undone_ q_before_ q_undoMany q_far_ q_wayRow_ q_wayMany q_keptRow_ q_askedRow_ q_rares_ q_trial_ q_keptMany q_askedMany q_hangs_ q_paths_ q_tornSteps q_hasTorn q_turnOne q_hasTurn q_text_ q_textMany q_toldMany q_toldAt_ q_hasTold q_stack_ q_codes q_ones q_top q_deep q_isWhole q_truths_ q_imaged_ q_namesKept_ q_areKept_)] H → va_D A [(q_tape_, aC0 cy 940 q_tape), (q, oC11 0 q_tape_ x_4 x_5 x_6 x_7 q_s_ q_h_ q_read_ q_names_ q_reserved_ q_token q_at q_span q_number q_fault q_faultAt q_word q_got q_lines q_onces q_webs q_one q_two q_seed q_undone_ q_before_ q_undoMany q_far_ q_wayRow_ q_wayMany q_keptRow_ q_askedRow_ q_rares_ q_trial_ q_keptMany q_askedMany q_hangs_ q_paths_ q_tornSteps q_hasTorn q_turnOne q_hasTurn q_text_ q_textMany q_toldMany q_toldAt_ q_hasTold q_stack_ q_codes q_ones q_top q_deep q_isWhole q_truths_ q_imaged_ q_namesKept_ q_areKept_)] → va_S A s.heap H locs → lv_has ls 5 [(0, .ref q), (1, .int x_24)] → W p l e (Rm 1 22 0 0) s m args below meth c H locs cells slots Q (F0 m 38 ls []) := by
        intro n_25
        induction n_25 with
        | zero =>
          intro x_24 H locs ls hm_29 hf_26 hf_27 hf_28 hP hD hS hl
          exact absurd hm_29 (by omega)
        | succ n_25 ih_30 =>
          intro x_24 H locs ls hm_29 hf_26 hf_27 hf_28 hP hD hS hl
          refine lv_iload_n hx hb dX11_spun_38 rfl (lv_at hl 1 rfl) ?_
          refine lv_aload_n hx hb dX11_spun_39 rfl (lv_at hl 0 rfl) ?_
          refine q_get11 (v := .int x_5) C hP 1 3 rfl fT_3 (by decide) kF_RX11_18 rfl dX11_spun_40 ?_
          refine lv_icmp_ge (tgt := 92) hx hb dX11_spun_43 (by decide) (fun c_32 => ?_) (fun c_32 => ?_)
          · have hc_32 := o_le (rfl : x_5.toInt = x_5.toInt) (rfl : x_24.toInt = x_24.toInt) c_32
            have hq_32 := hf_28.1
            have hq_33 : okU q_tape x_5.toInt := okU.cast hf_28 (by omega)
            have hq_34 := hq_33.1
            refine lv_iconst (v := 0) hx hb dX11_spun_92 (by decide) ?_
            refine lv_istore_n (lv' := [(1, .int 0), (0, .ref q)]) hx hb dX11_spun_93 rfl hl (by decide) rfl (fun ls hl => ?_)
            refine lv_iconst (v := 1) hx hb dX11_spun_94 (by decide) ?_
            have hq_35 : (0 : Int32).toInt = svv (pn q_tape (x_5.toInt.toNat / 3) (1 : Int32).toNatClampNeg) := pn_one (by decide) (by decide)
            refine lv_istore_n (lv' := [(2, .int 1), (1, .int 0), (0, .ref q)]) hx hb dX11_spun_95 rfl hl (by decide) rfl (fun ls hl => ?_)
            have lp_96_38 : ∀ (n_39 : Nat) (x_37 : Int32) (x_38 : Int32) (H : Heap) (locs : List Loc) (ls : Array Slot), (-1) * x_38.toInt + 6 < (n_39 : Int) → (0 ≤ x_37.toInt ∧ x_37.toInt ≤ 255) → (1 ≤ x_38.toInt ∧ x_38.toInt ≤ 6) → (x_37.toInt = svv (pn q_tape (x_5.toInt.toNat / 3) x_38.toNatClampNeg)) → va_P D vwCl [(q_tape_, aC0 cy 940 q_tape), (q, oC11 0 q_tape_ x_4 x_5 x_6 x_7 q_s_ q_h_ q_read_ q_names_ q_reserved_ q_token q_at q_span q_number q_fault q_faultAt q_word q_got q_lines q_onces q_webs q_one q_two q_seed q_undone_ q_before_ q_undoMany q_far_ q_wayRow_ q_wayMany q_keptRow_ q_askedRow_ q_rares_ q_trial_ q_keptMany q_askedMany q_hangs_ q_paths_ q_tornSteps q_hasTorn q_turnOne q_hasTurn q_text_ q_textMany q_toldMany q_toldAt_ q_hasTold q_stack_ q_codes q_ones q_top q_deep q_isWhole q_truths_ q_imaged_ q_namesKept_ q_areKept_)] H → va_D A [(q_tape_, aC0 cy 940 q_tape), (q, oC11 0 q_tape_ x_4 x_5 x_6 x_7 q_s_ q_h_ q_read_ q_names_ q_reserved_ q_token q_at q_span q_number q_fault q_faultAt q_word q_got q_lines q_onces q_webs q_one q_two q_seed q_undone_ q_before_ q_undoMany q_far_ q_wayRow_ q_wayMany q_keptRow_ q_askedRow_ q_rares_ q_trial_ q_keptMany q_askedMany q_hangs_ q_paths_ q_tornSteps q_hasTorn q_turnOne q_hasTurn q_text_ q_textMany q_toldMany q_toldAt_ q_hasTold q_stack_ q_codes q_ones q_top q_deep q_isWhole q_truths_ q_imaged_ q_namesKept_ q_areKept_)] → va_S A s.heap H locs → lv_has ls 5 [(0, .ref q), (1, .int x_37), (2, .int x_38)] → W p l e (Rm 1 22 0 0) s m args below meth c H locs cells slots Q (F0 m 96 ls []) := by
              intro n_39
              induction n_39 with
              | zero =>
                intro x_37 x_38 H locs ls hm_43 hf_40 hf_41 hf_42 hP hD hS hl
                exact absurd hm_43 (by omega)
              | succ n_39 ih_44 =>
                intro x_37 x_38 H locs ls hm_43 hf_40 hf_41 hf_42 hP hD hS hl
                refine lv_iload_n hx hb dX11_spun_96 rfl (lv_at hl 2 rfl) ?_
                refine lv_bipush (v := 6) hx hb dX11_spun_97 (by decide) ?_
                refine lv_icmp_ge (tgt := 185) hx hb dX11_spun_99 (by decide) (fun c_46 => ?_) (fun c_46 => ?_)
                · have hc_46 := o_le (by decide : (6 : Int32).toInt = 6) (rfl : x_38.toInt = x_38.toInt) c_46
                  refine lv_iload_n hx hb dX11_spun_185 rfl (lv_at hl 1 rfl) ?_
                  refine o_wq hQ ?_
                  exact q_iret (rm := (Rm 1 22 0 0)) C hS (0, x_4, x_5, x_6, x_7) rfl ⟨(show (-1) ≤ x_37.toInt ∧ x_37.toInt ≤ 255 by omega), (show 0 ≤ x_4.toInt ∧ x_4.toInt ≤ 0 by omega), (show 0 ≤ x_5.toInt ∧ x_5.toInt ≤ 940 by omega), (show 0 ≤ x_6.toInt ∧ x_6.toInt ≤ 940 by omega), (show 0 ≤ x_7.toInt ∧ x_7.toInt ≤ 940 by omega), (sp_all hf_42 hq_33 (by omega) (by omega) (by omega) (by omega))⟩ (q_subP hP [1, 0] rfl) (hD.sub [1, 0] (by decide) rfl) hroom.1 hroom.2 dX11_spun_186
                · have hc_46 := o_nle (by decide : (6 : Int32).toInt = 6) (rfl : x_38.toInt = x_38.toInt) c_46
                  refine lv_iconst (v := 1) hx hb dX11_spun_102 (by decide) ?_
                  refine lv_istore_n (lv' := [(3, .int 1), (0, .ref q), (1, .int x_37), (2, .int x_38)]) hx hb dX11_spun_103 rfl hl (by decide) rfl (fun ls hl => ?_)
                  refine lv_iconst (v := 0) hx hb dX11_spun_104 (by decide) ?_
                  have hq_46 : isU q_tape x_38.toNatClampNeg (1 : Int32).toInt (0 : Int32).toInt := isU.zero (by decide) (by decide)
                  refine lv_istore (lv' := [(4, .int 0), (3, .int 1), (0, .ref q), (1, .int x_37), (2, .int x_38)]) hx hb dX11_spun_105 hl (by decide) rfl (fun ls hl => ?_)
                  have lp_107_49 : ∀ (n_50 : Nat) (x_48 : Int32) (x_49 : Int32) (H : Heap) (locs : List Loc) (ls : Array Slot), (-1) * x_49.toInt + 20 < (n_50 : Int) → (0 ≤ x_48.toInt ∧ x_48.toInt ≤ 1) → (0 ≤ x_49.toInt ∧ x_49.toInt ≤ 20) → (0 ≤ x_5.toInt + (-1) * x_49.toInt + 2) → (isU q_tape x_38.toNatClampNeg x_48.toInt x_49.toInt) → va_P D vwCl [(q_tape_, aC0 cy 940 q_tape), (q, oC11 0 q_tape_ x_4 x_5 x_6 x_7 q_s_ q_h_ q_read_ q_names_ q_reserved_ q_token q_at q_span q_number q_fault q_faultAt q_word q_got q_lines q_onces q_webs q_one q_two q_seed q_undone_ q_before_ q_undoMany q_far_ q_wayRow_ q_wayMany q_keptRow_ q_askedRow_ q_rares_ q_trial_ q_keptMany q_askedMany q_hangs_ q_paths_ q_tornSteps q_hasTorn q_turnOne q_hasTurn q_text_ q_textMany q_toldMany q_toldAt_ q_hasTold q_stack_ q_codes q_ones q_top q_deep q_isWhole q_truths_ q_imaged_ q_namesKept_ q_areKept_)] H → va_D A [(q_tape_, aC0 cy 940 q_tape), (q, oC11 0 q_tape_ x_4 x_5 x_6 x_7 q_s_ q_h_ q_read_ q_names_ q_reserved_ q_token q_at q_span q_number q_fault q_faultAt q_word q_got q_lines q_onces q_webs q_one q_two q_seed q_undone_ q_before_ q_undoMany q_far_ q_wayRow_ q_wayMany q_keptRow_ q_askedRow_ q_rares_ q_trial_ q_keptMany q_askedMany q_hangs_ q_paths_ q_tornSteps q_hasTorn q_turnOne q_hasTurn q_text_ q_textMany q_toldMany q_toldAt_ q_hasTold q_stack_ q_codes q_ones q_top q_deep q_isWhole q_truths_ q_imaged_ q_namesKept_ q_areKept_)] → va_S A s.heap H locs → lv_has ls 5 [(0, .ref q), (1, .int x_37), (2, .int x_38), (3, .int x_48), (4, .int x_49)] → W p l e (Rm 1 22 0 0) s m args below meth c H locs cells slots Q (F0 m 107 ls []) := by
                    intro n_50
                    induction n_50 with
                    | zero =>
                      intro x_48 x_49 H locs ls hm_55 hf_51 hf_52 hf_53 hf_54 hP hD hS hl
                      exact absurd hm_55 (by omega)
                    | succ n_50 ih_56 =>
                      intro x_48 x_49 H locs ls hm_55 hf_51 hf_52 hf_53 hf_54 hP hD hS hl
                      refine lv_iload hx hb dX11_spun_107 (lv_at hl 4 rfl) ?_
                      refine lv_aload_n hx hb dX11_spun_109 rfl (lv_at hl 0 rfl) ?_
                      refine q_get11 (v := .int x_5) C hP 1 3 rfl fT_3 (by decide) kF_RX11_18 rfl dX11_spun_110 ?_
                      refine lv_icmp_ge (tgt := 165) hx hb dX11_spun_113 (by decide) (fun c_58 => ?_) (fun c_58 => ?_)
                      · have hc_58 := o_le (rfl : x_5.toInt = x_5.toInt) (rfl : x_49.toInt = x_49.toInt) c_58
                        have hq_58 := hf_54.1
                        refine lv_iload_n hx hb dX11_spun_165 rfl (lv_at hl 1 rfl) ?_
                        refine lv_iload_n hx hb dX11_spun_166 rfl (lv_at hl 3 rfl) ?_
                        refine lv_if_eq (tgt := 176) hx hb dX11_spun_167 (by decide) (fun c_60 => ?_) (fun c_60 => ?_)
                        · have hc_60 := o_eq (rfl : x_48.toInt = x_48.toInt) (by decide : (0 : Int32).toInt = 0) c_60
                          refine lv_iconst (v := 0) hx hb dX11_spun_176 (by decide) ?_
                          refine lv_ior hx hb dX11_spun_177 ?_
                          refine lv_topi (fun z_61 hz_61 => ?_)
                          have dz_61 := hz_61
                          have ez_61 := hz_61
                          have hz_61 := o_or 8 256 hz_61 (rfl : x_37.toInt = x_37.toInt) (by decide : (0 : Int32).toInt = 0) (by omega) (by omega) (by omega) (by omega) (by decide) (by decide)
                          refine lv_istore_n (lv' := [(1, .int z_61), (0, .ref q), (2, .int x_38), (3, .int x_48), (4, .int x_49)]) hx hb dX11_spun_178 rfl hl (by decide) rfl (fun ls hl => ?_)
                          obtain ⟨z_62, hz_62⟩ : ∃ z : Int32, z = x_38 + 1 := ⟨_, rfl⟩
                          refine lv_iinc (v := z_62) (lv' := [(2, .int z_62), (1, .int z_61), (0, .ref q), (3, .int x_48), (4, .int x_49)]) hx hb dX11_spun_179 hl (k := 2) rfl hz_62.symm (by decide) rfl (fun ls hl => ?_)
                          have hz_62 := o_add hz_62 (rfl : x_38.toInt = x_38.toInt) (by decide : (1 : Int32).toInt = 1) (by omega) (by omega)
                          have hq_62 : z_61.toInt = svv (pn q_tape (x_5.toInt.toNat / 3) z_62.toNatClampNeg) := pn_no hf_42 (isU.none hf_54 (by omega) (by omega)) (by omega) (by omega) dz_61
                          refine lv_goto (tgt := 96) hx hb dX11_spun_182 (by decide) ?_
                          exact ih_44 z_61 z_62 H locs ls (by omega) (by omega) (by omega) hq_62 hP hD hS (lv_sub hl [2, 1, 0] rfl)
                        · have hc_60 := o_ne (rfl : x_48.toInt = x_48.toInt) (by decide : (0 : Int32).toInt = 0) c_60
                          refine lv_iconst (v := 1) hx hb dX11_spun_170 (by decide) ?_
                          refine lv_iload_n hx hb dX11_spun_171 rfl (lv_at hl 2 rfl) ?_
                          refine lv_ishl hx hb dX11_spun_172 ?_
                          refine lv_topi (fun z_64 hz_64 => ?_)
                          have dz_64 := hz_64
                          have ez_64 := hz_64
                          have hz_64 := o_shl1 hz_64 (rfl : x_38.toInt = x_38.toInt) (by omega) (by omega)
                          refine lv_goto (tgt := 177) hx hb dX11_spun_173 (by decide) ?_
                          refine lv_ior hx hb dX11_spun_177 ?_
                          refine lv_topi (fun z_65 hz_65 => ?_)
                          have dz_65 := hz_65
                          have ez_65 := hz_65
                          have hz_65 := o_or 8 256 hz_65 (rfl : x_37.toInt = x_37.toInt) (rfl : z_64.toInt = z_64.toInt) (by omega) (by omega) (by omega) (by omega) (by decide) (by decide)
                          refine lv_istore_n (lv' := [(1, .int z_65), (0, .ref q), (2, .int x_38), (3, .int x_48), (4, .int x_49)]) hx hb dX11_spun_178 rfl hl (by decide) rfl (fun ls hl => ?_)
                          obtain ⟨z_66, hz_66⟩ : ∃ z : Int32, z = x_38 + 1 := ⟨_, rfl⟩
                          refine lv_iinc (v := z_66) (lv' := [(2, .int z_66), (1, .int z_65), (0, .ref q), (3, .int x_48), (4, .int x_49)]) hx hb dX11_spun_179 hl (k := 2) rfl hz_66.symm (by decide) rfl (fun ls hl => ?_)
                          have hz_66 := o_add hz_66 (rfl : x_38.toInt = x_38.toInt) (by decide : (1 : Int32).toInt = 1) (by omega) (by omega)
                          have hq_66 : z_65.toInt = svv (pn q_tape (x_5.toInt.toNat / 3) z_66.toNatClampNeg) := pn_yes hf_42 (isU.all hf_54 (by omega) (by omega)) (by omega) (by omega) (by omega) dz_64 dz_65
                          refine lv_goto (tgt := 96) hx hb dX11_spun_182 (by decide) ?_
                          exact ih_44 z_65 z_66 H locs ls (by omega) (by omega) (by omega) hq_66 hP hD hS (lv_sub hl [2, 1, 0] rfl)
                      · have hc_58 := o_nle (rfl : x_5.toInt = x_5.toInt) (rfl : x_49.toInt = x_49.toInt) c_58
                        refine lv_iload_n hx hb dX11_spun_116 rfl (lv_at hl 3 rfl) ?_
                        refine lv_if_eq (tgt := 157) hx hb dX11_spun_117 (by decide) (fun c_68 => ?_) (fun c_68 => ?_)
                        · have hc_68 := o_eq (rfl : x_48.toInt = x_48.toInt) (by decide : (0 : Int32).toInt = 0) c_68
                          refine lv_iconst (v := 0) hx hb dX11_spun_157 (by decide) ?_
                          refine lv_istore_n (lv' := [(3, .int 0), (0, .ref q), (1, .int x_37), (2, .int x_38), (4, .int x_49)]) hx hb dX11_spun_158 rfl hl (by decide) rfl (fun ls hl => ?_)
                          obtain ⟨z_69, hz_69⟩ : ∃ z : Int32, z = x_49 + 3 := ⟨_, rfl⟩
                          refine lv_iinc (v := z_69) (lv' := [(4, .int z_69), (3, .int 0), (0, .ref q), (1, .int x_37), (2, .int x_38)]) hx hb dX11_spun_159 hl (k := 4) rfl hz_69.symm (by decide) rfl (fun ls hl => ?_)
                          have hz_69 := o_add hz_69 (rfl : x_49.toInt = x_49.toInt) (by decide : (3 : Int32).toInt = 3) (by omega) (by omega)
                          have hq_69 : isU q_tape x_38.toNatClampNeg (0 : Int32).toInt z_69.toInt := isU.stay hf_54 (by omega) (by omega) (by decide) (by omega)
                          refine lv_goto (tgt := 107) hx hb dX11_spun_162 (by decide) ?_
                          exact ih_56 (0 : Int32) z_69 H locs ls (by have e0 : (0 : Int32).toInt = 0 := (by decide); omega) (by have e0 : (0 : Int32).toInt = 0 := (by decide); omega) (by have e0 : (0 : Int32).toInt = 0 := (by decide); omega) (by have e0 : (0 : Int32).toInt = 0 := (by decide); omega) hq_69 hP hD hS (lv_sub hl [2, 3, 4, 1, 0] rfl)
                        · have hc_68 := o_ne (rfl : x_48.toInt = x_48.toInt) (by decide : (0 : Int32).toInt = 0) c_68
                          refine lv_bipush (v := 99) hx hb dX11_spun_120 (by decide) ?_
                          refine lv_aload_n hx hb dX11_spun_122 rfl (lv_at hl 0 rfl) ?_
                          refine lv_iload hx hb dX11_spun_123 (lv_at hl 4 rfl) ?_
                          refine q_ai (wr := []) (r_V (rm := (Rm 0 0 0 0)) (q0 := 0) (As := [.int x_49]) (rest := [.int 99]) (wc := [(q, oC11 0 q_tape_ x_4 x_5 x_6 x_7 q_s_ q_h_ q_read_ q_names_ q_reserved_ q_token q_at q_span q_number q_fault q_faultAt q_word q_got q_lines q_onces q_webs q_one q_two q_seed q_undone_ q_before_ q_undoMany q_far_ q_wayRow_ q_wayMany q_keptRow_ q_askedRow_ q_rares_ q_trial_ q_keptMany q_askedMany q_hangs_ q_paths_ q_tornSteps q_hasTorn q_turnOne q_hasTurn q_text_ q_textMany q_toldMany q_toldAt_ q_hasTold q_stack_ q_codes q_ones q_top q_deep q_isWhole q_truths_ q_imaged_ q_namesKept_ q_areKept_), (q_tape_, aC0 cy 940 q_tape)]) C hS (q_subP hP [1, 0] rfl) (hD.sub [1, 0] (by decide) rfl) (y_octet l D cy q x_49 0 q_tape_ x_4 x_5 x_6 x_7 q_s_ q_h_ q_read_ q_names_ q_reserved_ q_token q_at q_span q_number q_fault q_faultAt q_word q_got q_lines q_onces q_webs q_one q_two q_seed q_undone_ q_before_ q_undoMany q_far_ q_wayRow_ q_wayMany q_keptRow_ q_askedRow_ q_rares_ q_trial_ q_keptMany q_askedMany q_hangs_ q_paths_ q_tornSteps q_hasTorn q_turnOne q_hasTurn q_text_ q_textMany q_toldMany q_toldAt_ q_hasTold q_stack_ q_codes q_ones q_top q_deep q_isWhole q_truths_ q_imaged_ q_namesKept_ q_areKept_ q_tape _ (by omega) (by omega) (by omega) (by omega) (by omega) (by omega) (by omega) (by omega) (by omega) (by omega) (by omega) (by omega) (by omega) (by omega) (by omega) (by omega) (by omega) (by omega) (by omega) (by omega) (by omega) (by omega) (by omega)) kwV_X11_octet kM_RX11_397 rfl rfl ⟨Nat.le_of_ble_eq_true rfl, Nat.le_of_ble_eq_true rfl⟩ rfl hl.1 rfl (Nat.le_of_ble_eq_true rfl) dX11_spun_125 ⟨hroom.1, hroom.2⟩) C.2.2.2.2.2.2.1 hP hD hS [1, 0] [] rfl rfl (by decide) (by decide) (fun r_72 u_71 H locs hw_73 hP hD hS => ?_)
                          have hp_73 : 0 ≤ r_72.toInt ∧ r_72.toInt ≤ 255 := hw_73.1
                          have hp_74 : r_72 = oc q_tape x_49 := hw_73.2
                          clear hw_73
                          refine lv_iload_n hx hb dX11_spun_128 rfl (lv_at hl 2 rfl) ?_
                          refine lv_aload_n hx hb dX11_spun_129 rfl (lv_at hl 0 rfl) ?_
                          refine lv_iload hx hb dX11_spun_130 (lv_at hl 4 rfl) ?_
                          refine lv_iconst (v := 1) hx hb dX11_spun_132 (by decide) ?_
                          refine lv_iadd hx hb dX11_spun_133 ?_
                          refine lv_topi (fun z_76 hz_76 => ?_)
                          have dz_76 := hz_76
                          have hz_76 := o_add hz_76 (rfl : x_49.toInt = x_49.toInt) (by decide : (1 : Int32).toInt = 1) (by omega) (by omega)
                          refine q_ai (wr := []) (r_V (rm := (Rm 0 0 0 0)) (q0 := 0) (As := [.int z_76]) (rest := [.int x_38, .int r_72, .int 99]) (wc := [(q, oC11 0 q_tape_ x_4 x_5 x_6 x_7 q_s_ q_h_ q_read_ q_names_ q_reserved_ q_token q_at q_span q_number q_fault q_faultAt q_word q_got q_lines q_onces q_webs q_one q_two q_seed q_undone_ q_before_ q_undoMany q_far_ q_wayRow_ q_wayMany q_keptRow_ q_askedRow_ q_rares_ q_trial_ q_keptMany q_askedMany q_hangs_ q_paths_ q_tornSteps q_hasTorn q_turnOne q_hasTurn q_text_ q_textMany q_toldMany q_toldAt_ q_hasTold q_stack_ q_codes q_ones q_top q_deep q_isWhole q_truths_ q_imaged_ q_namesKept_ q_areKept_), (q_tape_, aC0 cy 940 q_tape)]) C hS (q_subP hP [0, 1] rfl) (hD.sub [0, 1] (by decide) rfl) (y_octet l D cy q z_76 0 q_tape_ x_4 x_5 x_6 x_7 q_s_ q_h_ q_read_ q_names_ q_reserved_ q_token q_at q_span q_number q_fault q_faultAt q_word q_got q_lines q_onces q_webs q_one q_two q_seed q_undone_ q_before_ q_undoMany q_far_ q_wayRow_ q_wayMany q_keptRow_ q_askedRow_ q_rares_ q_trial_ q_keptMany q_askedMany q_hangs_ q_paths_ q_tornSteps q_hasTorn q_turnOne q_hasTurn q_text_ q_textMany q_toldMany q_toldAt_ q_hasTold q_stack_ q_codes q_ones q_top q_deep q_isWhole q_truths_ q_imaged_ q_namesKept_ q_areKept_ q_tape _ (by omega) (by omega) (by omega) (by omega) (by omega) (by omega) (by omega) (by omega) (by omega) (by omega) (by omega) (by omega) (by omega) (by omega) (by omega) (by omega) (by omega) (by omega) (by omega) (by omega) (by omega) (by omega) (by omega)) kwV_X11_octet kM_RX11_397 rfl rfl ⟨Nat.le_of_ble_eq_true rfl, Nat.le_of_ble_eq_true rfl⟩ rfl hl.1 rfl (Nat.le_of_ble_eq_true rfl) dX11_spun_134 ⟨hroom.1, hroom.2⟩) C.2.2.2.2.2.2.1 hP hD hS [0, 1] [] rfl rfl (by decide) (by decide) (fun r_78 u_77 H locs hw_79 hP hD hS => ?_)
                          have hp_79 : 0 ≤ r_78.toInt ∧ r_78.toInt ≤ 255 := hw_79.1
                          have hp_80 : r_78 = oc q_tape z_76 := hw_79.2
                          clear hw_79
                          refine lv_imul hx hb dX11_spun_137 ?_
                          refine lv_topi (fun z_82 hz_82 => ?_)
                          have dz_82 := hz_82
                          have hz_82 := o_mulv 5 255 hz_82 (rfl : x_38.toInt = x_38.toInt) (rfl : r_78.toInt = r_78.toInt) (by omega) (by omega) (by omega) (by omega) (by decide)
                          refine lv_iadd hx hb dX11_spun_138 ?_
                          refine lv_topi (fun z_83 hz_83 => ?_)
                          have dz_83 := hz_83
                          have hz_83 := o_add hz_83 (rfl : r_72.toInt = r_72.toInt) (rfl : z_82.toInt = z_82.toInt) (by omega) (by omega)
                          refine q_ai (wr := [(q, oC11 0 q_tape_ x_4 x_5 x_6 x_7 q_s_ q_h_ q_read_ q_names_ q_reserved_ q_token q_at q_span q_number q_fault q_faultAt q_word q_got q_lines q_onces q_webs q_one q_two q_seed q_undone_ q_before_ q_undoMany q_far_ q_wayRow_ q_wayMany q_keptRow_ q_askedRow_ q_rares_ q_trial_ q_keptMany q_askedMany q_hangs_ q_paths_ q_tornSteps q_hasTorn q_turnOne q_hasTurn q_text_ q_textMany q_toldMany q_toldAt_ q_hasTold q_stack_ q_codes q_ones q_top q_deep q_isWhole q_truths_ q_imaged_ q_namesKept_ q_areKept_), (q_tape_, aC0 cy 940 q_tape)]) (r_S (rm := (Rm 0 0 0 0)) (As := [.int 99, .int z_83]) (rest := []) (wc := []) C hS (q_subP hP [] rfl) (hD.sub [] (by decide) rfl) (y_lesser l D cy 99 z_83 _ ) kwS_X11_lesser kM_RX11_294 ⟨Nat.le_of_ble_eq_true rfl, Nat.le_of_ble_eq_true rfl⟩ rfl hl.1 rfl (Nat.le_of_ble_eq_true rfl) dX11_spun_139 ⟨hroom.1, hroom.2⟩) C.2.2.2.2.2.2.1 hP hD hS [] [0, 1] rfl rfl (by decide) (by decide) (fun r_85 u_84 H locs hw_86 hP hD hS => ?_)
                          have hp_86 : 0 ≤ (-1) * r_85.toInt + 99 ∧ 0 ≤ z_83.toInt + (-1) * r_85.toInt := by have e0 : (99 : Int32).toInt = 99 := (by decide); have h0 : 0 ≤ (99 : Int32).toInt + (-1) * r_85.toInt ∧ 0 ≤ z_83.toInt + (-1) * r_85.toInt := hw_86.1; omega
                          have hp_87 : (r_85.toInt = (99 : Int32).toInt ∧ (99 : Int32).toInt ≤ z_83.toInt) ∨ (r_85.toInt = z_83.toInt ∧ z_83.toInt ≤ (99 : Int32).toInt) := hw_86.2.1
                          have hp_88 : (0 ≤ 99 ∧ 0 ≤ z_83.toInt) → (0 ≤ r_85.toInt) := by have e0 : (99 : Int32).toInt = 99 := (by decide); have h0 : (0 ≤ (99 : Int32).toInt ∧ 0 ≤ z_83.toInt) → (0 ≤ r_85.toInt) := hw_86.2.2; omega
                          have hp_88 := hp_88 (by omega)
                          clear hw_86
                          refine lv_aload_n hx hb dX11_spun_142 rfl (lv_at hl 0 rfl) ?_
                          refine lv_iload hx hb dX11_spun_143 (lv_at hl 4 rfl) ?_
                          refine lv_iconst (v := 2) hx hb dX11_spun_145 (by decide) ?_
                          refine lv_iadd hx hb dX11_spun_146 ?_
                          refine lv_topi (fun z_90 hz_90 => ?_)
                          have dz_90 := hz_90
                          have hz_90 := o_add hz_90 (rfl : x_49.toInt = x_49.toInt) (by decide : (2 : Int32).toInt = 2) (by omega) (by omega)
                          refine q_ai (wr := []) (r_V (rm := (Rm 0 0 0 0)) (q0 := 0) (As := [.int z_90]) (rest := [.int r_85]) (wc := [(q, oC11 0 q_tape_ x_4 x_5 x_6 x_7 q_s_ q_h_ q_read_ q_names_ q_reserved_ q_token q_at q_span q_number q_fault q_faultAt q_word q_got q_lines q_onces q_webs q_one q_two q_seed q_undone_ q_before_ q_undoMany q_far_ q_wayRow_ q_wayMany q_keptRow_ q_askedRow_ q_rares_ q_trial_ q_keptMany q_askedMany q_hangs_ q_paths_ q_tornSteps q_hasTorn q_turnOne q_hasTurn q_text_ q_textMany q_toldMany q_toldAt_ q_hasTold q_stack_ q_codes q_ones q_top q_deep q_isWhole q_truths_ q_imaged_ q_namesKept_ q_areKept_), (q_tape_, aC0 cy 940 q_tape)]) C hS (q_subP hP [0, 1] rfl) (hD.sub [0, 1] (by decide) rfl) (y_octet l D cy q z_90 0 q_tape_ x_4 x_5 x_6 x_7 q_s_ q_h_ q_read_ q_names_ q_reserved_ q_token q_at q_span q_number q_fault q_faultAt q_word q_got q_lines q_onces q_webs q_one q_two q_seed q_undone_ q_before_ q_undoMany q_far_ q_wayRow_ q_wayMany q_keptRow_ q_askedRow_ q_rares_ q_trial_ q_keptMany q_askedMany q_hangs_ q_paths_ q_tornSteps q_hasTorn q_turnOne q_hasTurn q_text_ q_textMany q_toldMany q_toldAt_ q_hasTold q_stack_ q_codes q_ones q_top q_deep q_isWhole q_truths_ q_imaged_ q_namesKept_ q_areKept_ q_tape _ (by omega) (by omega) (by omega) (by omega) (by omega) (by omega) (by omega) (by omega) (by omega) (by omega) (by omega) (by omega) (by omega) (by omega) (by omega) (by omega) (by omega) (by omega) (by omega) (by omega) (by omega) (by omega) (by omega)) kwV_X11_octet kM_RX11_397 rfl rfl ⟨Nat.le_of_ble_eq_true rfl, Nat.le_of_ble_eq_true rfl⟩ rfl hl.1 rfl (Nat.le_of_ble_eq_true rfl) dX11_spun_147 ⟨hroom.1, hroom.2⟩) C.2.2.2.2.2.2.1 hP hD hS [0, 1] [] rfl rfl (by decide) (by decide) (fun r_92 u_91 H locs hw_93 hP hD hS => ?_)
                          have hp_93 : 0 ≤ r_92.toInt ∧ r_92.toInt ≤ 255 := hw_93.1
                          have hp_94 : r_92 = oc q_tape z_90 := hw_93.2
                          clear hw_93
                          refine lv_icmp_ne (tgt := 157) hx hb dX11_spun_150 (by decide) (fun c_96 => ?_) (fun c_96 => ?_)
                          · have hc_96 := o_ne (rfl : r_85.toInt = r_85.toInt) (rfl : r_92.toInt = r_92.toInt) c_96
                            refine lv_iconst (v := 0) hx hb dX11_spun_157 (by decide) ?_
                            refine lv_istore_n (lv' := [(3, .int 0), (0, .ref q), (1, .int x_37), (2, .int x_38), (4, .int x_49)]) hx hb dX11_spun_158 rfl hl (by decide) rfl (fun ls hl => ?_)
                            obtain ⟨z_97, hz_97⟩ : ∃ z : Int32, z = x_49 + 3 := ⟨_, rfl⟩
                            refine lv_iinc (v := z_97) (lv' := [(4, .int z_97), (3, .int 0), (0, .ref q), (1, .int x_37), (2, .int x_38)]) hx hb dX11_spun_159 hl (k := 4) rfl hz_97.symm (by decide) rfl (fun ls hl => ?_)
                            have hz_97 := o_add hz_97 (rfl : x_49.toInt = x_49.toInt) (by decide : (3 : Int32).toInt = 3) (by omega) (by omega)
                            have hq_97 := o_mulx dz_82 (rfl : x_38.toInt = x_38.toInt) (rfl : r_78.toInt = r_78.toInt) (by omega) (by omega) (by omega) (by omega)
                            have hq_98 : isU q_tape x_38.toNatClampNeg (0 : Int32).toInt z_97.toInt := isU.step (z := z_82) (m := r_85) hf_54 (by omega) (by omega) (by omega) rfl hp_74 (by omega) hp_80 (by omega) hp_94 hq_97 (by have e9 : (99 : Int32).toInt = 99 := (by decide); omega) (Or.inr ⟨by omega, by decide⟩) (by omega)
                            refine lv_goto (tgt := 107) hx hb dX11_spun_162 (by decide) ?_
                            exact ih_56 (0 : Int32) z_97 H locs ls (by have e0 : (0 : Int32).toInt = 0 := (by decide); omega) (by have e0 : (0 : Int32).toInt = 0 := (by decide); omega) (by have e0 : (0 : Int32).toInt = 0 := (by decide); omega) (by have e0 : (0 : Int32).toInt = 0 := (by decide); omega) hq_98 (q_subP hP [1, 0] rfl) (hD.sub [1, 0] (by decide) rfl) hS (lv_sub hl [2, 3, 4, 1, 0] rfl)
                          · have hc_96 := o_eq (rfl : r_85.toInt = r_85.toInt) (rfl : r_92.toInt = r_92.toInt) c_96
                            refine lv_iconst (v := 1) hx hb dX11_spun_153 (by decide) ?_
                            refine lv_goto (tgt := 158) hx hb dX11_spun_154 (by decide) ?_
                            refine lv_istore_n (lv' := [(3, .int 1), (0, .ref q), (1, .int x_37), (2, .int x_38), (4, .int x_49)]) hx hb dX11_spun_158 rfl hl (by decide) rfl (fun ls hl => ?_)
                            obtain ⟨z_100, hz_100⟩ : ∃ z : Int32, z = x_49 + 3 := ⟨_, rfl⟩
                            refine lv_iinc (v := z_100) (lv' := [(4, .int z_100), (3, .int 1), (0, .ref q), (1, .int x_37), (2, .int x_38)]) hx hb dX11_spun_159 hl (k := 4) rfl hz_100.symm (by decide) rfl (fun ls hl => ?_)
                            have hz_100 := o_add hz_100 (rfl : x_49.toInt = x_49.toInt) (by decide : (3 : Int32).toInt = 3) (by omega) (by omega)
                            have hq_100 := o_mulx dz_82 (rfl : x_38.toInt = x_38.toInt) (rfl : r_78.toInt = r_78.toInt) (by omega) (by omega) (by omega) (by omega)
                            have hq_101 : isU q_tape x_38.toNatClampNeg (1 : Int32).toInt z_100.toInt := isU.step (z := z_82) (m := r_85) hf_54 (by omega) (by omega) (by omega) rfl hp_74 (by omega) hp_80 (by omega) hp_94 hq_100 (by have e9 : (99 : Int32).toInt = 99 := (by decide); omega) (Or.inl ⟨by omega, by decide⟩) (by omega)
                            refine lv_goto (tgt := 107) hx hb dX11_spun_162 (by decide) ?_
                            exact ih_56 (1 : Int32) z_100 H locs ls (by have e0 : (1 : Int32).toInt = 1 := (by decide); omega) (by have e0 : (1 : Int32).toInt = 1 := (by decide); omega) (by have e0 : (1 : Int32).toInt = 1 := (by decide); omega) (by have e0 : (1 : Int32).toInt = 1 := (by decide); omega) hq_101 (q_subP hP [1, 0] rfl) (hD.sub [1, 0] (by decide) rfl) hS (lv_sub hl [2, 3, 4, 1, 0] rfl)
                  exact lp_107_49 21 (1 : Int32) (0 : Int32) H locs ls (by have e0 : (0 : Int32).toInt = 0 := (by decide); have e1 : (1 : Int32).toInt = 1 := (by decide); omega) (by have e0 : (0 : Int32).toInt = 0 := (by decide); have e1 : (1 : Int32).toInt = 1 := (by decide); omega) (by have e0 : (0 : Int32).toInt = 0 := (by decide); have e1 : (1 : Int32).toInt = 1 := (by decide); omega) (by have e0 : (0 : Int32).toInt = 0 := (by decide); have e1 : (1 : Int32).toInt = 1 := (by decide); omega) hq_46 hP hD hS (lv_sub hl [2, 3, 4, 1, 0] rfl)
            exact lp_96_38 6 (0 : Int32) (1 : Int32) H locs ls (by have e0 : (0 : Int32).toInt = 0 := (by decide); have e1 : (1 : Int32).toInt = 1 := (by decide); omega) (by have e0 : (0 : Int32).toInt = 0 := (by decide); have e1 : (1 : Int32).toInt = 1 := (by decide); omega) (by have e0 : (0 : Int32).toInt = 0 := (by decide); have e1 : (1 : Int32).toInt = 1 := (by decide); omega) hq_35 hP hD hS (lv_sub hl [2, 1, 0] rfl)
          · have hc_32 := o_nle (rfl : x_5.toInt = x_5.toInt) (rfl : x_24.toInt = x_24.toInt) c_32
            have hq_102 := hf_28.1
            refine lv_aload_n hx hb dX11_spun_46 rfl (lv_at hl 0 rfl) ?_
            refine lv_iload_n hx hb dX11_spun_47 rfl (lv_at hl 1 rfl) ?_
            refine q_ai (wr := []) (r_V (rm := (Rm 0 0 0 0)) (q0 := 0) (As := [.int x_24]) (rest := []) (wc := [(q, oC11 0 q_tape_ x_4 x_5 x_6 x_7 q_s_ q_h_ q_read_ q_names_ q_reserved_ q_token q_at q_span q_number q_fault q_faultAt q_word q_got q_lines q_onces q_webs q_one q_two q_seed q_undone_ q_before_ q_undoMany q_far_ q_wayRow_ q_wayMany q_keptRow_ q_askedRow_ q_rares_ q_trial_ q_keptMany q_askedMany q_hangs_ q_paths_ q_tornSteps q_hasTorn q_turnOne q_hasTurn q_text_ q_textMany q_toldMany q_toldAt_ q_hasTold q_stack_ q_codes q_ones q_top q_deep q_isWhole q_truths_ q_imaged_ q_namesKept_ q_areKept_), (q_tape_, aC0 cy 940 q_tape)]) C hS (q_subP hP [1, 0] rfl) (hD.sub [1, 0] (by decide) rfl) (y_octet l D cy q x_24 0 q_tape_ x_4 x_5 x_6 x_7 q_s_ q_h_ q_read_ q_names_ q_reserved_ q_token q_at q_span q_number q_fault q_faultAt q_word q_got q_lines q_onces q_webs q_one q_two q_seed q_undone_ q_before_ q_undoMany q_far_ q_wayRow_ q_wayMany q_keptRow_ q_askedRow_ q_rares_ q_trial_ q_keptMany q_askedMany q_hangs_ q_paths_ q_tornSteps q_hasTorn q_turnOne q_hasTurn q_text_ q_textMany q_toldMany q_toldAt_ q_hasTold q_stack_ q_codes q_ones q_top q_deep q_isWhole q_truths_ q_imaged_ q_namesKept_ q_areKept_ q_tape _ (by omega) (by omega) (by omega) (by omega) (by omega) (by omega) (by omega) (by omega) (by omega) (by omega) (by omega) (by omega) (by omega) (by omega) (by omega) (by omega) (by omega) (by omega) (by omega) (by omega) (by omega) (by omega) (by omega)) kwV_X11_octet kM_RX11_397 rfl rfl ⟨Nat.le_of_ble_eq_true rfl, Nat.le_of_ble_eq_true rfl⟩ rfl hl.1 rfl (Nat.le_of_ble_eq_true rfl) dX11_spun_48 ⟨hroom.1, hroom.2⟩) C.2.2.2.2.2.2.1 hP hD hS [1, 0] [] rfl rfl (by decide) (by decide) (fun r_105 u_104 H locs hw_106 hP hD hS => ?_)
            have hp_106 : 0 ≤ r_105.toInt ∧ r_105.toInt ≤ 255 := hw_106.1
            have hp_107 : r_105 = oc q_tape x_24 := hw_106.2
            clear hw_106
            refine lv_bipush (v := 99) hx hb dX11_spun_51 (by decide) ?_
            refine lv_icmp_gt (tgt := 84) hx hb dX11_spun_53 (by decide) (fun c_109 => ?_) (fun c_109 => ?_)
            · have hc_109 := o_lt (by decide : (99 : Int32).toInt = 99) (rfl : r_105.toInt = r_105.toInt) c_109
              refine lv_iconst (v := (-1)) hx hb dX11_spun_84 (by decide) ?_
              refine o_wq hQ ?_
              exact q_iret (rm := (Rm 1 22 0 0)) C hS (0, x_4, x_5, x_6, x_7) rfl ⟨(show (-1) ≤ ((-1) : Int32).toInt ∧ ((-1) : Int32).toInt ≤ 255 by decide), (show 0 ≤ x_4.toInt ∧ x_4.toInt ≤ 0 by omega), (show 0 ≤ x_5.toInt ∧ x_5.toInt ≤ 940 by omega), (show 0 ≤ x_6.toInt ∧ x_6.toInt ≤ 940 by omega), (show 0 ≤ x_7.toInt ∧ x_7.toInt ≤ 940 by omega), (sp_bad (by decide) hf_28 (ok_no1 hf_28 (by omega) rfl hp_107 (by omega)) (by omega) (by omega) (by omega))⟩ (q_subP hP [0, 1] rfl) (hD.sub [0, 1] (by decide) rfl) hroom.1 hroom.2 dX11_spun_85
            · have hc_109 := o_nlt (by decide : (99 : Int32).toInt = 99) (rfl : r_105.toInt = r_105.toInt) c_109
              refine lv_aload_n hx hb dX11_spun_56 rfl (lv_at hl 0 rfl) ?_
              refine lv_iload_n hx hb dX11_spun_57 rfl (lv_at hl 1 rfl) ?_
              refine lv_iconst (v := 1) hx hb dX11_spun_58 (by decide) ?_
              refine lv_iadd hx hb dX11_spun_59 ?_
              refine lv_topi (fun z_110 hz_110 => ?_)
              have dz_110 := hz_110
              have hz_110 := o_add hz_110 (rfl : x_24.toInt = x_24.toInt) (by decide : (1 : Int32).toInt = 1) (by omega) (by omega)
              refine q_ai (wr := []) (r_V (rm := (Rm 0 0 0 0)) (q0 := 0) (As := [.int z_110]) (rest := []) (wc := [(q, oC11 0 q_tape_ x_4 x_5 x_6 x_7 q_s_ q_h_ q_read_ q_names_ q_reserved_ q_token q_at q_span q_number q_fault q_faultAt q_word q_got q_lines q_onces q_webs q_one q_two q_seed q_undone_ q_before_ q_undoMany q_far_ q_wayRow_ q_wayMany q_keptRow_ q_askedRow_ q_rares_ q_trial_ q_keptMany q_askedMany q_hangs_ q_paths_ q_tornSteps q_hasTorn q_turnOne q_hasTurn q_text_ q_textMany q_toldMany q_toldAt_ q_hasTold q_stack_ q_codes q_ones q_top q_deep q_isWhole q_truths_ q_imaged_ q_namesKept_ q_areKept_), (q_tape_, aC0 cy 940 q_tape)]) C hS (q_subP hP [0, 1] rfl) (hD.sub [0, 1] (by decide) rfl) (y_octet l D cy q z_110 0 q_tape_ x_4 x_5 x_6 x_7 q_s_ q_h_ q_read_ q_names_ q_reserved_ q_token q_at q_span q_number q_fault q_faultAt q_word q_got q_lines q_onces q_webs q_one q_two q_seed q_undone_ q_before_ q_undoMany q_far_ q_wayRow_ q_wayMany q_keptRow_ q_askedRow_ q_rares_ q_trial_ q_keptMany q_askedMany q_hangs_ q_paths_ q_tornSteps q_hasTorn q_turnOne q_hasTurn q_text_ q_textMany q_toldMany q_toldAt_ q_hasTold q_stack_ q_codes q_ones q_top q_deep q_isWhole q_truths_ q_imaged_ q_namesKept_ q_areKept_ q_tape _ (by omega) (by omega) (by omega) (by omega) (by omega) (by omega) (by omega) (by omega) (by omega) (by omega) (by omega) (by omega) (by omega) (by omega) (by omega) (by omega) (by omega) (by omega) (by omega) (by omega) (by omega) (by omega) (by omega)) kwV_X11_octet kM_RX11_397 rfl rfl ⟨Nat.le_of_ble_eq_true rfl, Nat.le_of_ble_eq_true rfl⟩ rfl hl.1 rfl (Nat.le_of_ble_eq_true rfl) dX11_spun_60 ⟨hroom.1, hroom.2⟩) C.2.2.2.2.2.2.1 hP hD hS [0, 1] [] rfl rfl (by decide) (by decide) (fun r_112 u_111 H locs hw_113 hP hD hS => ?_)
              have hp_113 : 0 ≤ r_112.toInt ∧ r_112.toInt ≤ 255 := hw_113.1
              have hp_114 : r_112 = oc q_tape z_110 := hw_113.2
              clear hw_113
              refine lv_iconst (v := 1) hx hb dX11_spun_63 (by decide) ?_
              refine lv_bipush (v := 99) hx hb dX11_spun_64 (by decide) ?_
              refine q_ai (wr := [(q, oC11 0 q_tape_ x_4 x_5 x_6 x_7 q_s_ q_h_ q_read_ q_names_ q_reserved_ q_token q_at q_span q_number q_fault q_faultAt q_word q_got q_lines q_onces q_webs q_one q_two q_seed q_undone_ q_before_ q_undoMany q_far_ q_wayRow_ q_wayMany q_keptRow_ q_askedRow_ q_rares_ q_trial_ q_keptMany q_askedMany q_hangs_ q_paths_ q_tornSteps q_hasTorn q_turnOne q_hasTurn q_text_ q_textMany q_toldMany q_toldAt_ q_hasTold q_stack_ q_codes q_ones q_top q_deep q_isWhole q_truths_ q_imaged_ q_namesKept_ q_areKept_), (q_tape_, aC0 cy 940 q_tape)]) (r_S (rm := (Rm 0 0 0 0)) (As := [.int r_112, .int 1, .int 99]) (rest := []) (wc := []) C hS (q_subP hP [] rfl) (hD.sub [] (by decide) rfl) (y_isIn l D cy r_112 1 99 _ ) kwS_X11_isIn kM_RX11_206 ⟨Nat.le_of_ble_eq_true rfl, Nat.le_of_ble_eq_true rfl⟩ rfl hl.1 rfl (Nat.le_of_ble_eq_true rfl) dX11_spun_66 ⟨hroom.1, hroom.2⟩) C.2.2.2.2.2.2.1 hP hD hS [] [0, 1] rfl rfl (by decide) (by decide) (fun r_117 u_116 H locs hw_118 hP hD hS => ?_)
              have hp_118 : 0 ≤ r_117.toInt ∧ r_117.toInt ≤ 1 := hw_118.1
              have hp_119 : (0 ≤ r_117.toInt + (-1)) → (0 ≤ r_112.toInt + (-1) ∧ 0 ≤ (-1) * r_112.toInt + 99) := by have e0 : (1 : Int32).toInt = 1 := (by decide); have e1 : (99 : Int32).toInt = 99 := (by decide); have h0 : (0 ≤ r_117.toInt + (-1)) → (0 ≤ r_112.toInt + (-1) * (1 : Int32).toInt ∧ 0 ≤ (99 : Int32).toInt + (-1) * r_112.toInt) := hw_118.2.1; omega
              have hp_120 : (0 ≤ r_112.toInt + (-1) ∧ 0 ≤ (-1) * r_112.toInt + 99) → (0 ≤ r_117.toInt + (-1)) := by have e0 : (1 : Int32).toInt = 1 := (by decide); have e1 : (99 : Int32).toInt = 99 := (by decide); have h0 : (0 ≤ r_112.toInt + (-1) * (1 : Int32).toInt ∧ 0 ≤ (99 : Int32).toInt + (-1) * r_112.toInt) → (0 ≤ r_117.toInt + (-1)) := hw_118.2.2; omega
              clear hw_118
              refine lv_if_eq (tgt := 84) hx hb dX11_spun_69 (by decide) (fun c_122 => ?_) (fun c_122 => ?_)
              · have hc_122 := o_eq (rfl : r_117.toInt = r_117.toInt) (by decide : (0 : Int32).toInt = 0) c_122
                clear hp_119
                refine lv_iconst (v := (-1)) hx hb dX11_spun_84 (by decide) ?_
                refine o_wq hQ ?_
                exact q_iret (rm := (Rm 1 22 0 0)) C hS (0, x_4, x_5, x_6, x_7) rfl ⟨(show (-1) ≤ ((-1) : Int32).toInt ∧ ((-1) : Int32).toInt ≤ 255 by decide), (show 0 ≤ x_4.toInt ∧ x_4.toInt ≤ 0 by omega), (show 0 ≤ x_5.toInt ∧ x_5.toInt ≤ 940 by omega), (show 0 ≤ x_6.toInt ∧ x_6.toInt ≤ 940 by omega), (show 0 ≤ x_7.toInt ∧ x_7.toInt ≤ 940 by omega), (sp_bad (by decide) hf_28 (ok_no2 hf_28 (by omega) (by omega) hp_114 (by omega)) (by omega) (by omega) (by omega))⟩ (q_subP hP [0, 1] rfl) (hD.sub [0, 1] (by decide) rfl) hroom.1 hroom.2 dX11_spun_85
              · have hc_122 := o_ne (rfl : r_117.toInt = r_117.toInt) (by decide : (0 : Int32).toInt = 0) c_122
                have hp_119 := hp_119 (by omega)
                have hp_120 := hp_120 (by omega)
                refine lv_aload_n hx hb dX11_spun_72 rfl (lv_at hl 0 rfl) ?_
                refine lv_iload_n hx hb dX11_spun_73 rfl (lv_at hl 1 rfl) ?_
                refine lv_iconst (v := 2) hx hb dX11_spun_74 (by decide) ?_
                refine lv_iadd hx hb dX11_spun_75 ?_
                refine lv_topi (fun z_123 hz_123 => ?_)
                have dz_123 := hz_123
                have hz_123 := o_add hz_123 (rfl : x_24.toInt = x_24.toInt) (by decide : (2 : Int32).toInt = 2) (by omega) (by omega)
                refine q_ai (wr := []) (r_V (rm := (Rm 0 0 0 0)) (q0 := 0) (As := [.int z_123]) (rest := []) (wc := [(q, oC11 0 q_tape_ x_4 x_5 x_6 x_7 q_s_ q_h_ q_read_ q_names_ q_reserved_ q_token q_at q_span q_number q_fault q_faultAt q_word q_got q_lines q_onces q_webs q_one q_two q_seed q_undone_ q_before_ q_undoMany q_far_ q_wayRow_ q_wayMany q_keptRow_ q_askedRow_ q_rares_ q_trial_ q_keptMany q_askedMany q_hangs_ q_paths_ q_tornSteps q_hasTorn q_turnOne q_hasTurn q_text_ q_textMany q_toldMany q_toldAt_ q_hasTold q_stack_ q_codes q_ones q_top q_deep q_isWhole q_truths_ q_imaged_ q_namesKept_ q_areKept_), (q_tape_, aC0 cy 940 q_tape)]) C hS (q_subP hP [0, 1] rfl) (hD.sub [0, 1] (by decide) rfl) (y_octet l D cy q z_123 0 q_tape_ x_4 x_5 x_6 x_7 q_s_ q_h_ q_read_ q_names_ q_reserved_ q_token q_at q_span q_number q_fault q_faultAt q_word q_got q_lines q_onces q_webs q_one q_two q_seed q_undone_ q_before_ q_undoMany q_far_ q_wayRow_ q_wayMany q_keptRow_ q_askedRow_ q_rares_ q_trial_ q_keptMany q_askedMany q_hangs_ q_paths_ q_tornSteps q_hasTorn q_turnOne q_hasTurn q_text_ q_textMany q_toldMany q_toldAt_ q_hasTold q_stack_ q_codes q_ones q_top q_deep q_isWhole q_truths_ q_imaged_ q_namesKept_ q_areKept_ q_tape _ (by omega) (by omega) (by omega) (by omega) (by omega) (by omega) (by omega) (by omega) (by omega) (by omega) (by omega) (by omega) (by omega) (by omega) (by omega) (by omega) (by omega) (by omega) (by omega) (by omega) (by omega) (by omega) (by omega)) kwV_X11_octet kM_RX11_397 rfl rfl ⟨Nat.le_of_ble_eq_true rfl, Nat.le_of_ble_eq_true rfl⟩ rfl hl.1 rfl (Nat.le_of_ble_eq_true rfl) dX11_spun_76 ⟨hroom.1, hroom.2⟩) C.2.2.2.2.2.2.1 hP hD hS [0, 1] [] rfl rfl (by decide) (by decide) (fun r_125 u_124 H locs hw_126 hP hD hS => ?_)
                have hp_126 : 0 ≤ r_125.toInt ∧ r_125.toInt ≤ 255 := hw_126.1
                have hp_127 : r_125 = oc q_tape z_123 := hw_126.2
                clear hw_126
                refine lv_bipush (v := 99) hx hb dX11_spun_79 (by decide) ?_
                refine lv_icmp_le (tgt := 86) hx hb dX11_spun_81 (by decide) (fun c_129 => ?_) (fun c_129 => ?_)
                · have hc_129 := o_le (rfl : r_125.toInt = r_125.toInt) (by decide : (99 : Int32).toInt = 99) c_129
                  obtain ⟨z_130, hz_130⟩ : ∃ z : Int32, z = x_24 + 3 := ⟨_, rfl⟩
                  refine lv_iinc (v := z_130) (lv' := [(1, .int z_130), (0, .ref q)]) hx hb dX11_spun_86 hl (k := 1) rfl hz_130.symm (by decide) rfl (fun ls hl => ?_)
                  have hz_130 := o_add hz_130 (rfl : x_24.toInt = x_24.toInt) (by decide : (3 : Int32).toInt = 3) (by omega) (by omega)
                  have hq_130 : okU q_tape z_130.toInt := okU.cast (okU.step hf_28 (by omega) rfl hp_107 (by omega) hp_114 (by omega) hp_127 (by omega)) (by omega)
                  refine lv_goto (tgt := 38) hx hb dX11_spun_89 (by decide) ?_
                  exact ih_30 z_130 H locs ls (by omega) (by omega) (by omega) hq_130 (q_subP hP [1, 0] rfl) (hD.sub [1, 0] (by decide) rfl) hS (lv_sub hl [1, 0] rfl)
                · have hc_129 := o_nle (rfl : r_125.toInt = r_125.toInt) (by decide : (99 : Int32).toInt = 99) c_129
                  refine lv_iconst (v := (-1)) hx hb dX11_spun_84 (by decide) ?_
                  refine o_wq hQ ?_
                  exact q_iret (rm := (Rm 1 22 0 0)) C hS (0, x_4, x_5, x_6, x_7) rfl ⟨(show (-1) ≤ ((-1) : Int32).toInt ∧ ((-1) : Int32).toInt ≤ 255 by decide), (show 0 ≤ x_4.toInt ∧ x_4.toInt ≤ 0 by omega), (show 0 ≤ x_5.toInt ∧ x_5.toInt ≤ 940 by omega), (show 0 ≤ x_6.toInt ∧ x_6.toInt ≤ 940 by omega), (show 0 ≤ x_7.toInt ∧ x_7.toInt ≤ 940 by omega), (sp_bad (by decide) hf_28 (ok_no3 hf_28 (by omega) (by omega) hp_127 (by omega)) (by omega) (by omega) (by omega))⟩ (q_subP hP [0, 1] rfl) (hD.sub [0, 1] (by decide) rfl) hroom.1 hroom.2 dX11_spun_85
      exact lp_38_24 21 (0 : Int32) H locs ls (by have e0 : (0 : Int32).toInt = 0 := (by decide); omega) (by have e0 : (0 : Int32).toInt = 0 := (by decide); omega) (by have e0 : (0 : Int32).toInt = 0 := (by decide); omega) hq_22 hP hD hS (lv_sub hl [1, 0] rfl)
    · have hc_22 := o_ne (rfl : z_20.toInt = z_20.toInt) (by decide : (0 : Int32).toInt = 0) c_22
      refine lv_iconst (v := (-1)) hx hb dX11_spun_34 (by decide) ?_
      refine o_wq hQ ?_
      exact q_iret (rm := (Rm 1 22 0 0)) C hS (0, x_4, x_5, x_6, x_7) rfl ⟨(show (-1) ≤ ((-1) : Int32).toInt ∧ ((-1) : Int32).toInt ≤ 255 by decide), (show 0 ≤ x_4.toInt ∧ x_4.toInt ≤ 0 by omega), (show 0 ≤ x_5.toInt ∧ x_5.toInt ≤ 940 by omega), (show 0 ≤ x_6.toInt ∧ x_6.toInt ≤ 940 by omega), (show 0 ≤ x_7.toInt ∧ x_7.toInt ≤ 940 by omega), (sp_no (by decide) (by omega))⟩ (q_subP hP [1, 0] rfl) (hD.sub [1, 0] (by decide) rfl) hroom.1 hroom.2 dX11_spun_35
theorem y_spun (l : Launch) (D : va_G) (cy : Nat → ClassId) (q : Nat) (q_thrown : Int32) (q_tape_ : Nat) (q_length : Int32) (q_size : Int32) (q_p : Int32) (q_limit : Int32) (q_s_ : Nat) (q_h_ : Nat) (q_read_ : Nat) (q_names_ : Nat) (q_reserved_ : Nat) (q_token : Int32) (q_at : Int32) (q_span : Int32) (q_number : Int32) (q_fault : Int32) (q_faultAt : Int32) (q_word : Int64) (q_got : Int32) (q_lines : Int32) (q_onces : Int32) (q_webs : Int32) (q_one : Int32) (q_two : Int32) (q_seed : Int32) (q_undone_ : Nat) (q_before_ : Nat) (q_undoMany : Int32) (q_far_ : Nat) (q_wayRow_ : Nat) (q_wayMany : Int32) (q_keptRow_ : Nat) (q_askedRow_ : Nat) (q_rares_ : Nat) (q_trial_ : Nat) (q_keptMany : Int32) (q_askedMany : Int32) (q_hangs_ : Nat) (q_paths_ : Nat) (q_tornSteps : Int32) (q_hasTorn : Int32) (q_turnOne : Int32) (q_hasTurn : Int32) (q_text_ : Nat) (q_textMany : Int32) (q_toldMany : Int32) (q_toldAt_ : Nat) (q_hasTold : Int32) (q_stack_ : Nat) (q_codes : Int32) (q_ones : Int32) (q_top : Int32) (q_deep : Int32) (q_isWhole : Int32) (q_truths_ : Nat) (q_imaged_ : Nat) (q_namesKept_ : Nat) (q_areKept_ : Nat) (q_tape : Nat → Int32) (sz : Nat) (hb0 : 0 ≤ q_length.toInt ∧ q_length.toInt ≤ 940) (hb1 : 0 ≤ q_size.toInt ∧ q_size.toInt ≤ 940) (hb2 : 0 ≤ q_p.toInt ∧ q_p.toInt ≤ 940) (hb3 : 0 ≤ q_limit.toInt ∧ q_limit.toInt ≤ 940) (hb4 : 0 ≤ q_span.toInt ∧ q_span.toInt ≤ 940) (hb5 : 0 ≤ q_number.toInt ∧ q_number.toInt ≤ 8214) (hb6 : (-1) ≤ q_got.toInt ∧ q_got.toInt ≤ 8214) (hb7 : 0 ≤ q_one.toInt ∧ q_one.toInt ≤ 7) (hb8 : 0 ≤ q_two.toInt ∧ q_two.toInt ≤ 7) (hb9 : 0 ≤ q_undoMany.toInt ∧ q_undoMany.toInt ≤ 8) (hb10 : (-1) ≤ q_wayMany.toInt ∧ q_wayMany.toInt ≤ 8) (hb11 : (-1) ≤ q_keptMany.toInt ∧ q_keptMany.toInt ≤ 8) (hb12 : (-1) ≤ q_askedMany.toInt ∧ q_askedMany.toInt ≤ 3) (hb13 : 0 ≤ q_hasTorn.toInt ∧ q_hasTorn.toInt ≤ 1) (hb14 : 0 ≤ q_hasTurn.toInt ∧ q_hasTurn.toInt ≤ 1) (hb15 : 0 ≤ q_textMany.toInt ∧ q_textMany.toInt ≤ 48) (hb16 : 0 ≤ q_toldMany.toInt ∧ q_toldMany.toInt ≤ 40) (hb17 : 0 ≤ q_hasTold.toInt ∧ q_hasTold.toInt ≤ 1) (hb18 : 0 ≤ q_codes.toInt ∧ q_codes.toInt ≤ 40) (hb19 : 0 ≤ q_ones.toInt ∧ q_ones.toInt ≤ 20) (hb20 : 0 ≤ q_top.toInt ∧ q_top.toInt ≤ 40) (hb21 : 0 ≤ q_isWhole.toInt ∧ q_isWhole.toInt ≤ 1) : MI l yX11_spun cX11_spun 5 (some .int) (Rm 1 22 0 0) D cy [.ref q] sz [(q, oC11 q_thrown q_tape_ q_length q_size q_p q_limit q_s_ q_h_ q_read_ q_names_ q_reserved_ q_token q_at q_span q_number q_fault q_faultAt q_word q_got q_lines q_onces q_webs q_one q_two q_seed q_undone_ q_before_ q_undoMany q_far_ q_wayRow_ q_wayMany q_keptRow_ q_askedRow_ q_rares_ q_trial_ q_keptMany q_askedMany q_hangs_ q_paths_ q_tornSteps q_hasTorn q_turnOne q_hasTurn q_text_ q_textMany q_toldMany q_toldAt_ q_hasTold q_stack_ q_codes q_ones q_top q_deep q_isWhole q_truths_ q_imaged_ q_namesKept_ q_areKept_), (q_tape_, aC0 cy 940 q_tape)] (fun (r : Int32) (u : Int32 × Int32 × Int32 × Int32 × Int32) => ((-1) ≤ r.toInt ∧ r.toInt ≤ 255) ∧ (0 ≤ u.2.1.toInt ∧ u.2.1.toInt ≤ 0) ∧ (0 ≤ u.2.2.1.toInt ∧ u.2.2.1.toInt ≤ 940) ∧ (0 ≤ u.2.2.2.1.toInt ∧ u.2.2.2.1.toInt ≤ 940) ∧ (0 ≤ u.2.2.2.2.toInt ∧ u.2.2.2.2.toInt ≤ 940) ∧ (r.toInt = spA q_tape q_length.toInt)) (fun u : Int32 × Int32 × Int32 × Int32 × Int32 => [(q, oC11 u.1 q_tape_ u.2.1 u.2.2.1 u.2.2.2.1 u.2.2.2.2 q_s_ q_h_ q_read_ q_names_ q_reserved_ q_token q_at q_span q_number q_fault q_faultAt q_word q_got q_lines q_onces q_webs q_one q_two q_seed q_undone_ q_before_ q_undoMany q_far_ q_wayRow_ q_wayMany q_keptRow_ q_askedRow_ q_rares_ q_trial_ q_keptMany q_askedMany q_hangs_ q_paths_ q_tornSteps q_hasTorn q_turnOne q_hasTurn q_text_ q_textMany q_toldMany q_toldAt_ q_hasTold q_stack_ q_codes q_ones q_top q_deep q_isWhole q_truths_ q_imaged_ q_namesKept_ q_areKept_), (q_tape_, aC0 cy 940 q_tape)]) := by
  refine MI.enter (by decide) (Nat.le_of_ble_eq_true rfl) ?_
  intro p e s m below meth c ls A hsz hAe C hP hD hS hl
  exact b_y_spun l D cy q q_thrown q_tape_ q_length q_size q_p q_limit q_s_ q_h_ q_read_ q_names_ q_reserved_ q_token q_at q_span q_number q_fault q_faultAt q_word q_got q_lines q_onces q_webs q_one q_two q_seed q_undone_ q_before_ q_undoMany q_far_ q_wayRow_ q_wayMany q_keptRow_ q_askedRow_ q_rares_ q_trial_ q_keptMany q_askedMany q_hangs_ q_paths_ q_tornSteps q_hasTorn q_turnOne q_hasTurn q_text_ q_textMany q_toldMany q_toldAt_ q_hasTold q_stack_ q_codes q_ones q_top q_deep q_isWhole q_truths_ q_imaged_ q_namesKept_ q_areKept_ q_tape hb0 hb1 hb2 hb3 hb4 hb5 hb6 hb7 hb8 hb9 hb10 hb11 hb12 hb13 hb14 hb15 hb16 hb17 hb18 hb19 hb20 hb21 ⟨Nat.le_of_ble_eq_true rfl, Nat.le_of_ble_eq_true rfl⟩ C rfl _ _ ls hP hD hS hl
set_option maxHeartbeats 4000000 in
set_option maxRecDepth 100000 in
theorem b_y_hangsOver (l : Launch) (D : va_G) (cy : Nat → ClassId) (q : Nat) (x : Int32) (y : Int32) (q_thrown : Int32) (q_tape_ : Nat) (q_length : Int32) (q_size : Int32) (q_p : Int32) (q_limit : Int32) (q_s_ : Nat) (q_h_ : Nat) (q_read_ : Nat) (q_names_ : Nat) (q_reserved_ : Nat) (q_token : Int32) (q_at : Int32) (q_span : Int32) (q_number : Int32) (q_fault : Int32) (q_faultAt : Int32) (q_word : Int64) (q_got : Int32) (q_lines : Int32) (q_onces : Int32) (q_webs : Int32) (q_one : Int32) (q_two : Int32) (q_seed : Int32) (q_undone_ : Nat) (q_before_ : Nat) (q_undoMany : Int32) (q_far_ : Nat) (q_wayRow_ : Nat) (q_wayMany : Int32) (q_keptRow_ : Nat) (q_askedRow_ : Nat) (q_rares_ : Nat) (q_trial_ : Nat) (q_keptMany : Int32) (q_askedMany : Int32) (q_hangs_ : Nat) (q_paths_ : Nat) (q_tornSteps : Int32) (q_hasTorn : Int32) (q_turnOne : Int32) (q_hasTurn : Int32) (q_text_ : Nat) (q_textMany : Int32) (q_toldMany : Int32) (q_toldAt_ : Nat) (q_hasTold : Int32) (q_stack_ : Nat) (q_codes : Int32) (q_ones : Int32) (q_top : Int32) (q_deep : Int32) (q_isWhole : Int32) (q_truths_ : Nat) (q_imaged_ : Nat) (q_namesKept_ : Nat) (q_areKept_ : Nat) (q_s : Nat → Int32) (hb0 : 0 ≤ q_length.toInt ∧ q_length.toInt ≤ 940) (hb1 : 0 ≤ q_size.toInt ∧ q_size.toInt ≤ 940) (hb2 : 0 ≤ q_p.toInt ∧ q_p.toInt ≤ 940) (hb3 : 0 ≤ q_limit.toInt ∧ q_limit.toInt ≤ 940) (hb4 : 0 ≤ q_span.toInt ∧ q_span.toInt ≤ 940) (hb5 : 0 ≤ q_number.toInt ∧ q_number.toInt ≤ 8214) (hb6 : (-1) ≤ q_got.toInt ∧ q_got.toInt ≤ 8214) (hb7 : 0 ≤ q_one.toInt ∧ q_one.toInt ≤ 7) (hb8 : 0 ≤ q_two.toInt ∧ q_two.toInt ≤ 7) (hb9 : 0 ≤ q_undoMany.toInt ∧ q_undoMany.toInt ≤ 8) (hb10 : (-1) ≤ q_wayMany.toInt ∧ q_wayMany.toInt ≤ 8) (hb11 : (-1) ≤ q_keptMany.toInt ∧ q_keptMany.toInt ≤ 8) (hb12 : (-1) ≤ q_askedMany.toInt ∧ q_askedMany.toInt ≤ 3) (hb13 : 0 ≤ q_hasTorn.toInt ∧ q_hasTorn.toInt ≤ 1) (hb14 : 0 ≤ q_hasTurn.toInt ∧ q_hasTurn.toInt ≤ 1) (hb15 : 0 ≤ q_textMany.toInt ∧ q_textMany.toInt ≤ 48) (hb16 : 0 ≤ q_toldMany.toInt ∧ q_toldMany.toInt ≤ 40) (hb17 : 0 ≤ q_hasTold.toInt ∧ q_hasTold.toInt ≤ 1) (hb18 : 0 ≤ q_codes.toInt ∧ q_codes.toInt ≤ 40) (hb19 : 0 ≤ q_ones.toInt ∧ q_ones.toInt ≤ 20) (hb20 : 0 ≤ q_top.toInt ∧ q_top.toInt ≤ 40) (hb21 : 0 ≤ q_isWhole.toInt ∧ q_isWhole.toInt ≤ 1) (hR0 : Rg q_s 0 1 0 8) (hR1 : Rg q_s 1 3 0 6) (hR2 : Rg q_s 3 4 1 50) (hR3 : Rg q_s 4 5 1 5) (hR4 : Rg q_s 103 104 0 255) (hR5 : Rg q_s 7 23 0 5) (hR6 : Rg q_s 106 122 0 5) (hR7 : Rg q_s 23 31 0 99) (hR8 : Rg q_s 122 130 0 99) {p : Program} {e : Env} {s : State} {m : MethodId} {args : Array Value} {below : List Frame} {meth : Method} {c : Code} {A : Nat → Prop} {Q : State → Prop} {cells slots : Nat} (hroom : cells ≤ ((Rm 2 46 0 0)).cells ∧ slots ≤ ((Rm 2 46 0 0)).slots) (C : Cx p s m args meth c cX11_hangsOver 6 (some .int) RX11 "hangsOver" D cy A) (hQ : Q = MQ below (va_Qi (fun (r : Int32) (u : Unit) => True) (Bx D A (fun u : Unit => [(q, oC11 q_thrown q_tape_ q_length q_size q_p q_limit q_s_ q_h_ q_read_ q_names_ q_reserved_ q_token q_at q_span q_number q_fault q_faultAt q_word q_got q_lines q_onces q_webs q_one q_two q_seed q_undone_ q_before_ q_undoMany q_far_ q_wayRow_ q_wayMany q_keptRow_ q_askedRow_ q_rares_ q_trial_ q_keptMany q_askedMany q_hangs_ q_paths_ q_tornSteps q_hasTorn q_turnOne q_hasTurn q_text_ q_textMany q_toldMany q_toldAt_ q_hasTold q_stack_ q_codes q_ones q_top q_deep q_isWhole q_truths_ q_imaged_ q_namesKept_ q_areKept_), (q_s_, aC1 cy 383 q_s)])) A) args s ((Rm 2 46 0 0)).cells ((Rm 2 46 0 0)).slots A) (H : Heap) (locs : List Loc) (ls : Array Slot) (hP : va_P D vwCl [(q, oC11 q_thrown q_tape_ q_length q_size q_p q_limit q_s_ q_h_ q_read_ q_names_ q_reserved_ q_token q_at q_span q_number q_fault q_faultAt q_word q_got q_lines q_onces q_webs q_one q_two q_seed q_undone_ q_before_ q_undoMany q_far_ q_wayRow_ q_wayMany q_keptRow_ q_askedRow_ q_rares_ q_trial_ q_keptMany q_askedMany q_hangs_ q_paths_ q_tornSteps q_hasTorn q_turnOne q_hasTurn q_text_ q_textMany q_toldMany q_toldAt_ q_hasTold q_stack_ q_codes q_ones q_top q_deep q_isWhole q_truths_ q_imaged_ q_namesKept_ q_areKept_), (q_s_, aC1 cy 383 q_s)] H) (hD : va_D A [(q, oC11 q_thrown q_tape_ q_length q_size q_p q_limit q_s_ q_h_ q_read_ q_names_ q_reserved_ q_token q_at q_span q_number q_fault q_faultAt q_word q_got q_lines q_onces q_webs q_one q_two q_seed q_undone_ q_before_ q_undoMany q_far_ q_wayRow_ q_wayMany q_keptRow_ q_askedRow_ q_rares_ q_trial_ q_keptMany q_askedMany q_hangs_ q_paths_ q_tornSteps q_hasTorn q_turnOne q_hasTurn q_text_ q_textMany q_toldMany q_toldAt_ q_hasTold q_stack_ q_codes q_ones q_top q_deep q_isWhole q_truths_ q_imaged_ q_namesKept_ q_areKept_), (q_s_, aC1 cy 383 q_s)]) (hS : va_S A s.heap H locs) (hl : lv_has ls 6 [(0, .ref q), (1, .int x), (2, .int y)]) : W p l e (Rm 2 46 0 0) s m args below meth c H locs cells slots Q (F0 m 0 ls []) := by
  have hx := C.1
  have hb := C.2.1
  have hqx := o_rng x
  have hqy := o_rng y
  refine lv_iconst (v := 0) hx hb dX11_hangsOver_0 (by decide) ?_
  refine lv_istore_n (lv' := [(3, .int 0), (0, .ref q), (1, .int x), (2, .int y)]) hx hb dX11_hangsOver_1 rfl hl (by decide) rfl (fun ls hl => ?_)
  refine lv_iconst (v := 0) hx hb dX11_hangsOver_2 (by decide) ?_
  refine lv_istore (lv' := [(4, .int 0), (3, .int 0), (0, .ref q), (1, .int x), (2, .int y)]) hx hb dX11_hangsOver_3 hl (by decide) rfl (fun ls hl => ?_)
  have lp_5_2 : ∀ (n_3 : Nat) (x_1 : Int32) (x_2 : Int32) (H : Heap) (locs : List Loc) (ls : Array Slot), (-1) * x_2.toInt + 8 < (n_3 : Int) → (0 ≤ x_2.toInt ∧ x_2.toInt ≤ 8) → va_P D vwCl [(q, oC11 q_thrown q_tape_ q_length q_size q_p q_limit q_s_ q_h_ q_read_ q_names_ q_reserved_ q_token q_at q_span q_number q_fault q_faultAt q_word q_got q_lines q_onces q_webs q_one q_two q_seed q_undone_ q_before_ q_undoMany q_far_ q_wayRow_ q_wayMany q_keptRow_ q_askedRow_ q_rares_ q_trial_ q_keptMany q_askedMany q_hangs_ q_paths_ q_tornSteps q_hasTorn q_turnOne q_hasTurn q_text_ q_textMany q_toldMany q_toldAt_ q_hasTold q_stack_ q_codes q_ones q_top q_deep q_isWhole q_truths_ q_imaged_ q_namesKept_ q_areKept_), (q_s_, aC1 cy 383 q_s)] H → va_D A [(q, oC11 q_thrown q_tape_ q_length q_size q_p q_limit q_s_ q_h_ q_read_ q_names_ q_reserved_ q_token q_at q_span q_number q_fault q_faultAt q_word q_got q_lines q_onces q_webs q_one q_two q_seed q_undone_ q_before_ q_undoMany q_far_ q_wayRow_ q_wayMany q_keptRow_ q_askedRow_ q_rares_ q_trial_ q_keptMany q_askedMany q_hangs_ q_paths_ q_tornSteps q_hasTorn q_turnOne q_hasTurn q_text_ q_textMany q_toldMany q_toldAt_ q_hasTold q_stack_ q_codes q_ones q_top q_deep q_isWhole q_truths_ q_imaged_ q_namesKept_ q_areKept_), (q_s_, aC1 cy 383 q_s)] → va_S A s.heap H locs → lv_has ls 6 [(0, .ref q), (1, .int x), (2, .int y), (3, .int x_1), (4, .int x_2)] → W p l e (Rm 2 46 0 0) s m args below meth c H locs cells slots Q (F0 m 5 ls []) := by
    intro n_3
    induction n_3 with
    | zero =>
      intro x_1 x_2 H locs ls hm_5 hf_4 hP hD hS hl
      exact absurd hm_5 (by omega)
    | succ n_3 ih_6 =>
      intro x_1 x_2 H locs ls hm_5 hf_4 hP hD hS hl
      refine lv_iload hx hb dX11_hangsOver_5 (lv_at hl 4 rfl) ?_
      refine lv_aload_n hx hb dX11_hangsOver_7 rfl (lv_at hl 0 rfl) ?_
      refine q_get11 (v := .ref q_s_) C hP 0 6 rfl fT_6 (by decide) kF_RX11_33 rfl dX11_hangsOver_8 ?_
      refine lv_iconst (v := 0) hx hb dX11_hangsOver_11 (by decide) ?_
      refine q_iald (v := q_s 0) C hP 1 rfl (vin (by decide +kernel)) rfl dX11_hangsOver_12 ?_
      refine lv_topi (fun z_8 ez_8 => ?_)
      have hz_8 : 0 ≤ z_8.toInt ∧ z_8.toInt ≤ 8 := (by rw [ez_8]; exact hR0 0 (by decide) (by decide))
      refine lv_icmp_ge (tgt := 73) hx hb dX11_hangsOver_13 (by decide) (fun c_9 => ?_) (fun c_9 => ?_)
      · have hc_9 := o_le (rfl : z_8.toInt = z_8.toInt) (rfl : x_2.toInt = x_2.toInt) c_9
        refine lv_iload_n hx hb dX11_hangsOver_73 rfl (lv_at hl 3 rfl) ?_
        refine o_wq hQ ?_
        exact q_iret (rm := (Rm 2 46 0 0)) C hS () rfl trivial (q_subP hP [0, 1] rfl) (hD.sub [0, 1] (by decide) rfl) hroom.1 hroom.2 dX11_hangsOver_74
      · have hc_9 := o_nle (rfl : z_8.toInt = z_8.toInt) (rfl : x_2.toInt = x_2.toInt) c_9
        refine lv_iload hx hb dX11_hangsOver_16 (lv_at hl 4 rfl) ?_
        refine lv_iconst (v := 1) hx hb dX11_hangsOver_18 (by decide) ?_
        refine lv_iadd hx hb dX11_hangsOver_19 ?_
        refine lv_topi (fun z_10 hz_10 => ?_)
        have hz_10 := o_add hz_10 (rfl : x_2.toInt = x_2.toInt) (by decide : (1 : Int32).toInt = 1) (by omega) (by omega)
        refine lv_istore (lv' := [(5, .int z_10), (0, .ref q), (1, .int x), (2, .int y), (3, .int x_1), (4, .int x_2)]) hx hb dX11_hangsOver_20 hl (by decide) rfl (fun ls hl => ?_)
        have lp_22_12 : ∀ (n_13 : Nat) (x_11 : Int32) (x_12 : Int32) (H : Heap) (locs : List Loc) (ls : Array Slot), (-1) * x_12.toInt + 8 < (n_13 : Int) → (1 ≤ x_12.toInt ∧ x_12.toInt ≤ 8) → va_P D vwCl [(q, oC11 q_thrown q_tape_ q_length q_size q_p q_limit q_s_ q_h_ q_read_ q_names_ q_reserved_ q_token q_at q_span q_number q_fault q_faultAt q_word q_got q_lines q_onces q_webs q_one q_two q_seed q_undone_ q_before_ q_undoMany q_far_ q_wayRow_ q_wayMany q_keptRow_ q_askedRow_ q_rares_ q_trial_ q_keptMany q_askedMany q_hangs_ q_paths_ q_tornSteps q_hasTorn q_turnOne q_hasTurn q_text_ q_textMany q_toldMany q_toldAt_ q_hasTold q_stack_ q_codes q_ones q_top q_deep q_isWhole q_truths_ q_imaged_ q_namesKept_ q_areKept_), (q_s_, aC1 cy 383 q_s)] H → va_D A [(q, oC11 q_thrown q_tape_ q_length q_size q_p q_limit q_s_ q_h_ q_read_ q_names_ q_reserved_ q_token q_at q_span q_number q_fault q_faultAt q_word q_got q_lines q_onces q_webs q_one q_two q_seed q_undone_ q_before_ q_undoMany q_far_ q_wayRow_ q_wayMany q_keptRow_ q_askedRow_ q_rares_ q_trial_ q_keptMany q_askedMany q_hangs_ q_paths_ q_tornSteps q_hasTorn q_turnOne q_hasTurn q_text_ q_textMany q_toldMany q_toldAt_ q_hasTold q_stack_ q_codes q_ones q_top q_deep q_isWhole q_truths_ q_imaged_ q_namesKept_ q_areKept_), (q_s_, aC1 cy 383 q_s)] → va_S A s.heap H locs → lv_has ls 6 [(0, .ref q), (1, .int x), (2, .int y), (3, .int x_11), (4, .int x_2), (5, .int x_12)] → W p l e (Rm 2 46 0 0) s m args below meth c H locs cells slots Q (F0 m 22 ls []) := by
          intro n_13
          induction n_13 with
          | zero =>
            intro x_11 x_12 H locs ls hm_15 hf_14 hP hD hS hl
            exact absurd hm_15 (by omega)
          | succ n_13 ih_16 =>
            intro x_11 x_12 H locs ls hm_15 hf_14 hP hD hS hl
            refine lv_iload hx hb dX11_hangsOver_22 (lv_at hl 5 rfl) ?_
            refine lv_aload_n hx hb dX11_hangsOver_24 rfl (lv_at hl 0 rfl) ?_
            refine q_get11 (v := .ref q_s_) C hP 0 6 rfl fT_6 (by decide) kF_RX11_33 rfl dX11_hangsOver_25 ?_
            refine lv_iconst (v := 0) hx hb dX11_hangsOver_28 (by decide) ?_
            refine q_iald (v := q_s 0) C hP 1 rfl (vin (by decide +kernel)) rfl dX11_hangsOver_29 ?_
            refine lv_topi (fun z_18 ez_18 => ?_)
            have hz_18 : 0 ≤ z_18.toInt ∧ z_18.toInt ≤ 8 := (by rw [ez_18]; exact hR0 0 (by decide) (by decide))
            refine lv_icmp_ge (tgt := 67) hx hb dX11_hangsOver_30 (by decide) (fun c_19 => ?_) (fun c_19 => ?_)
            · have hc_19 := o_le (rfl : z_18.toInt = z_18.toInt) (rfl : x_12.toInt = x_12.toInt) c_19
              obtain ⟨z_20, hz_20⟩ : ∃ z : Int32, z = x_2 + 1 := ⟨_, rfl⟩
              refine lv_iinc (v := z_20) (lv' := [(4, .int z_20), (0, .ref q), (1, .int x), (2, .int y), (3, .int x_11), (5, .int x_12)]) hx hb dX11_hangsOver_67 hl (k := 4) rfl hz_20.symm (by decide) rfl (fun ls hl => ?_)
              have hz_20 := o_add hz_20 (rfl : x_2.toInt = x_2.toInt) (by decide : (1 : Int32).toInt = 1) (by omega) (by omega)
              refine lv_goto (tgt := 5) hx hb dX11_hangsOver_70 (by decide) ?_
              exact ih_6 x_11 z_20 H locs ls (by omega) (by omega) hP hD hS (lv_sub hl [1, 2, 3, 4, 0] rfl)
            · have hc_19 := o_nle (rfl : z_18.toInt = z_18.toInt) (rfl : x_12.toInt = x_12.toInt) c_19
              refine lv_iload_n hx hb dX11_hangsOver_33 rfl (lv_at hl 3 rfl) ?_
              refine lv_aload_n hx hb dX11_hangsOver_34 rfl (lv_at hl 0 rfl) ?_
              refine lv_iload hx hb dX11_hangsOver_35 (lv_at hl 4 rfl) ?_
              refine lv_iload hx hb dX11_hangsOver_37 (lv_at hl 5 rfl) ?_
              refine lv_iload_n hx hb dX11_hangsOver_39 rfl (lv_at hl 1 rfl) ?_
              refine lv_iload_n hx hb dX11_hangsOver_40 rfl (lv_at hl 2 rfl) ?_
              refine q_ai (wr := []) (r_V (rm := (Rm 1 22 0 0)) (q0 := 0) (As := [.int x_2, .int x_12, .int x, .int y]) (rest := [.int x_11]) (wc := [(q, oC11 q_thrown q_tape_ q_length q_size q_p q_limit q_s_ q_h_ q_read_ q_names_ q_reserved_ q_token q_at q_span q_number q_fault q_faultAt q_word q_got q_lines q_onces q_webs q_one q_two q_seed q_undone_ q_before_ q_undoMany q_far_ q_wayRow_ q_wayMany q_keptRow_ q_askedRow_ q_rares_ q_trial_ q_keptMany q_askedMany q_hangs_ q_paths_ q_tornSteps q_hasTorn q_turnOne q_hasTurn q_text_ q_textMany q_toldMany q_toldAt_ q_hasTold q_stack_ q_codes q_ones q_top q_deep q_isWhole q_truths_ q_imaged_ q_namesKept_ q_areKept_), (q_s_, aC1 cy 383 q_s)]) C hS (q_subP hP [0, 1] rfl) (hD.sub [0, 1] (by decide) rfl) (y_isBetween l D cy q x_2 x_12 x y q_thrown q_tape_ q_length q_size q_p q_limit q_s_ q_h_ q_read_ q_names_ q_reserved_ q_token q_at q_span q_number q_fault q_faultAt q_word q_got q_lines q_onces q_webs q_one q_two q_seed q_undone_ q_before_ q_undoMany q_far_ q_wayRow_ q_wayMany q_keptRow_ q_askedRow_ q_rares_ q_trial_ q_keptMany q_askedMany q_hangs_ q_paths_ q_tornSteps q_hasTorn q_turnOne q_hasTurn q_text_ q_textMany q_toldMany q_toldAt_ q_hasTold q_stack_ q_codes q_ones q_top q_deep q_isWhole q_truths_ q_imaged_ q_namesKept_ q_areKept_ q_s _ (by omega) (by omega) (by omega) (by omega) (by omega) (by omega) (by omega) (by omega) (by omega) (by omega) (by omega) (by omega) (by omega) (by omega) (by omega) (by omega) (by omega) (by omega) (by omega) (by omega) (by omega) (by omega) (by omega) (by omega) hR0 hR1 hR2 hR3 hR4 hR5 hR6 hR7 hR8) kwV_X11_isBetween kM_RX11_300 rfl rfl ⟨Nat.le_of_ble_eq_true rfl, Nat.le_of_ble_eq_true rfl⟩ rfl hl.1 rfl (Nat.le_of_ble_eq_true rfl) dX11_hangsOver_41 ⟨hroom.1, hroom.2⟩) C.2.2.2.2.2.2.1 hP hD hS [0, 1] [] rfl rfl (by decide) (by decide) (fun r_22 u_21 H locs hw_23 hP hD hS => ?_)
              have hp_23 : 0 ≤ r_22.toInt ∧ r_22.toInt ≤ 1 := hw_23
              clear hw_23
              refine lv_if_eq (tgt := 58) hx hb dX11_hangsOver_44 (by decide) (fun c_25 => ?_) (fun c_25 => ?_)
              · have hc_25 := o_eq (rfl : r_22.toInt = r_22.toInt) (by decide : (0 : Int32).toInt = 0) c_25
                refine lv_iconst (v := 0) hx hb dX11_hangsOver_58 (by decide) ?_
                refine lv_iadd hx hb dX11_hangsOver_59 ?_
                refine lv_topi (fun z_26 hz_26 => ?_)
                clear hz_26
                refine lv_istore_n (lv' := [(3, .int z_26), (0, .ref q), (1, .int x), (2, .int y), (4, .int x_2), (5, .int x_12)]) hx hb dX11_hangsOver_60 rfl hl (by decide) rfl (fun ls hl => ?_)
                obtain ⟨z_27, hz_27⟩ : ∃ z : Int32, z = x_12 + 1 := ⟨_, rfl⟩
                refine lv_iinc (v := z_27) (lv' := [(5, .int z_27), (3, .int z_26), (0, .ref q), (1, .int x), (2, .int y), (4, .int x_2)]) hx hb dX11_hangsOver_61 hl (k := 5) rfl hz_27.symm (by decide) rfl (fun ls hl => ?_)
                have hz_27 := o_add hz_27 (rfl : x_12.toInt = x_12.toInt) (by decide : (1 : Int32).toInt = 1) (by omega) (by omega)
                refine lv_goto (tgt := 22) hx hb dX11_hangsOver_64 (by decide) ?_
                exact ih_16 z_26 z_27 H locs ls (by omega) (by omega) hP hD hS (lv_sub hl [2, 3, 4, 1, 5, 0] rfl)
              · have hc_25 := o_ne (rfl : r_22.toInt = r_22.toInt) (by decide : (0 : Int32).toInt = 0) c_25
                refine lv_aload_n hx hb dX11_hangsOver_47 rfl (lv_at hl 0 rfl) ?_
                refine lv_iload hx hb dX11_hangsOver_48 (lv_at hl 4 rfl) ?_
                refine lv_iload hx hb dX11_hangsOver_50 (lv_at hl 5 rfl) ?_
                refine q_ai (wr := []) (r_V (rm := (Rm 0 0 0 0)) (q0 := 0) (As := [.int x_2, .int x_12]) (rest := [.int x_11]) (wc := [(q, oC11 q_thrown q_tape_ q_length q_size q_p q_limit q_s_ q_h_ q_read_ q_names_ q_reserved_ q_token q_at q_span q_number q_fault q_faultAt q_word q_got q_lines q_onces q_webs q_one q_two q_seed q_undone_ q_before_ q_undoMany q_far_ q_wayRow_ q_wayMany q_keptRow_ q_askedRow_ q_rares_ q_trial_ q_keptMany q_askedMany q_hangs_ q_paths_ q_tornSteps q_hasTorn q_turnOne q_hasTurn q_text_ q_textMany q_toldMany q_toldAt_ q_hasTold q_stack_ q_codes q_ones q_top q_deep q_isWhole q_truths_ q_imaged_ q_namesKept_ q_areKept_), (q_s_, aC1 cy 383 q_s)]) C hS (q_subP hP [0, 1] rfl) (hD.sub [0, 1] (by decide) rfl) (y_threadOf l D cy q x_2 x_12 q_thrown q_tape_ q_length q_size q_p q_limit q_s_ q_h_ q_read_ q_names_ q_reserved_ q_token q_at q_span q_number q_fault q_faultAt q_word q_got q_lines q_onces q_webs q_one q_two q_seed q_undone_ q_before_ q_undoMany q_far_ q_wayRow_ q_wayMany q_keptRow_ q_askedRow_ q_rares_ q_trial_ q_keptMany q_askedMany q_hangs_ q_paths_ q_tornSteps q_hasTorn q_turnOne q_hasTurn q_text_ q_textMany q_toldMany q_toldAt_ q_hasTold q_stack_ q_codes q_ones q_top q_deep q_isWhole q_truths_ q_imaged_ q_namesKept_ q_areKept_ q_s _ (by omega) (by omega) (by omega) (by omega) (by omega) (by omega) (by omega) (by omega) (by omega) (by omega) (by omega) (by omega) (by omega) (by omega) (by omega) (by omega) (by omega) (by omega) (by omega) (by omega) (by omega) (by omega) (by omega) (by omega) hR0 hR1 hR2 hR3 hR4 hR5 hR6 hR7 hR8) kwV_X11_threadOf kM_RX11_291 rfl rfl ⟨Nat.le_of_ble_eq_true rfl, Nat.le_of_ble_eq_true rfl⟩ rfl hl.1 rfl (Nat.le_of_ble_eq_true rfl) dX11_hangsOver_52 ⟨hroom.1, hroom.2⟩) C.2.2.2.2.2.2.1 hP hD hS [0, 1] [] rfl rfl (by decide) (by decide) (fun r_29 u_28 H locs hw_30 hP hD hS => ?_)
                have hp_30 : r_29 = thr q_s x_2 x_12 := hw_30
                clear hw_30
                refine lv_goto (tgt := 59) hx hb dX11_hangsOver_55 (by decide) ?_
                refine lv_iadd hx hb dX11_hangsOver_59 ?_
                refine lv_topi (fun z_32 hz_32 => ?_)
                clear hz_32
                refine lv_istore_n (lv' := [(3, .int z_32), (0, .ref q), (1, .int x), (2, .int y), (4, .int x_2), (5, .int x_12)]) hx hb dX11_hangsOver_60 rfl hl (by decide) rfl (fun ls hl => ?_)
                obtain ⟨z_33, hz_33⟩ : ∃ z : Int32, z = x_12 + 1 := ⟨_, rfl⟩
                refine lv_iinc (v := z_33) (lv' := [(5, .int z_33), (3, .int z_32), (0, .ref q), (1, .int x), (2, .int y), (4, .int x_2)]) hx hb dX11_hangsOver_61 hl (k := 5) rfl hz_33.symm (by decide) rfl (fun ls hl => ?_)
                have hz_33 := o_add hz_33 (rfl : x_12.toInt = x_12.toInt) (by decide : (1 : Int32).toInt = 1) (by omega) (by omega)
                refine lv_goto (tgt := 22) hx hb dX11_hangsOver_64 (by decide) ?_
                exact ih_16 z_32 z_33 H locs ls (by omega) (by omega) hP hD hS (lv_sub hl [2, 3, 4, 1, 5, 0] rfl)
        exact lp_22_12 (((-1) * z_10.toInt + 8 : Int).toNat + 1) x_1 z_10 H locs ls (by omega) (by omega) hP hD hS (lv_sub hl [1, 2, 3, 4, 5, 0] rfl)
  exact lp_5_2 9 (0 : Int32) (0 : Int32) H locs ls (by have e0 : (0 : Int32).toInt = 0 := (by decide); omega) (by have e0 : (0 : Int32).toInt = 0 := (by decide); omega) hP hD hS (lv_sub hl [2, 3, 4, 1, 0] rfl)
theorem y_hangsOver (l : Launch) (D : va_G) (cy : Nat → ClassId) (q : Nat) (x : Int32) (y : Int32) (q_thrown : Int32) (q_tape_ : Nat) (q_length : Int32) (q_size : Int32) (q_p : Int32) (q_limit : Int32) (q_s_ : Nat) (q_h_ : Nat) (q_read_ : Nat) (q_names_ : Nat) (q_reserved_ : Nat) (q_token : Int32) (q_at : Int32) (q_span : Int32) (q_number : Int32) (q_fault : Int32) (q_faultAt : Int32) (q_word : Int64) (q_got : Int32) (q_lines : Int32) (q_onces : Int32) (q_webs : Int32) (q_one : Int32) (q_two : Int32) (q_seed : Int32) (q_undone_ : Nat) (q_before_ : Nat) (q_undoMany : Int32) (q_far_ : Nat) (q_wayRow_ : Nat) (q_wayMany : Int32) (q_keptRow_ : Nat) (q_askedRow_ : Nat) (q_rares_ : Nat) (q_trial_ : Nat) (q_keptMany : Int32) (q_askedMany : Int32) (q_hangs_ : Nat) (q_paths_ : Nat) (q_tornSteps : Int32) (q_hasTorn : Int32) (q_turnOne : Int32) (q_hasTurn : Int32) (q_text_ : Nat) (q_textMany : Int32) (q_toldMany : Int32) (q_toldAt_ : Nat) (q_hasTold : Int32) (q_stack_ : Nat) (q_codes : Int32) (q_ones : Int32) (q_top : Int32) (q_deep : Int32) (q_isWhole : Int32) (q_truths_ : Nat) (q_imaged_ : Nat) (q_namesKept_ : Nat) (q_areKept_ : Nat) (q_s : Nat → Int32) (sz : Nat) (hb0 : 0 ≤ q_length.toInt ∧ q_length.toInt ≤ 940) (hb1 : 0 ≤ q_size.toInt ∧ q_size.toInt ≤ 940) (hb2 : 0 ≤ q_p.toInt ∧ q_p.toInt ≤ 940) (hb3 : 0 ≤ q_limit.toInt ∧ q_limit.toInt ≤ 940) (hb4 : 0 ≤ q_span.toInt ∧ q_span.toInt ≤ 940) (hb5 : 0 ≤ q_number.toInt ∧ q_number.toInt ≤ 8214) (hb6 : (-1) ≤ q_got.toInt ∧ q_got.toInt ≤ 8214) (hb7 : 0 ≤ q_one.toInt ∧ q_one.toInt ≤ 7) (hb8 : 0 ≤ q_two.toInt ∧ q_two.toInt ≤ 7) (hb9 : 0 ≤ q_undoMany.toInt ∧ q_undoMany.toInt ≤ 8) (hb10 : (-1) ≤ q_wayMany.toInt ∧ q_wayMany.toInt ≤ 8) (hb11 : (-1) ≤ q_keptMany.toInt ∧ q_keptMany.toInt ≤ 8) (hb12 : (-1) ≤ q_askedMany.toInt ∧ q_askedMany.toInt ≤ 3) (hb13 : 0 ≤ q_hasTorn.toInt ∧ q_hasTorn.toInt ≤ 1) (hb14 : 0 ≤ q_hasTurn.toInt ∧ q_hasTurn.toInt ≤ 1) (hb15 : 0 ≤ q_textMany.toInt ∧ q_textMany.toInt ≤ 48) (hb16 : 0 ≤ q_toldMany.toInt ∧ q_toldMany.toInt ≤ 40) (hb17 : 0 ≤ q_hasTold.toInt ∧ q_hasTold.toInt ≤ 1) (hb18 : 0 ≤ q_codes.toInt ∧ q_codes.toInt ≤ 40) (hb19 : 0 ≤ q_ones.toInt ∧ q_ones.toInt ≤ 20) (hb20 : 0 ≤ q_top.toInt ∧ q_top.toInt ≤ 40) (hb21 : 0 ≤ q_isWhole.toInt ∧ q_isWhole.toInt ≤ 1) (hR0 : Rg q_s 0 1 0 8) (hR1 : Rg q_s 1 3 0 6) (hR2 : Rg q_s 3 4 1 50) (hR3 : Rg q_s 4 5 1 5) (hR4 : Rg q_s 103 104 0 255) (hR5 : Rg q_s 7 23 0 5) (hR6 : Rg q_s 106 122 0 5) (hR7 : Rg q_s 23 31 0 99) (hR8 : Rg q_s 122 130 0 99) : MI l yX11_hangsOver cX11_hangsOver 6 (some .int) (Rm 2 46 0 0) D cy [.ref q, .int x, .int y] sz [(q, oC11 q_thrown q_tape_ q_length q_size q_p q_limit q_s_ q_h_ q_read_ q_names_ q_reserved_ q_token q_at q_span q_number q_fault q_faultAt q_word q_got q_lines q_onces q_webs q_one q_two q_seed q_undone_ q_before_ q_undoMany q_far_ q_wayRow_ q_wayMany q_keptRow_ q_askedRow_ q_rares_ q_trial_ q_keptMany q_askedMany q_hangs_ q_paths_ q_tornSteps q_hasTorn q_turnOne q_hasTurn q_text_ q_textMany q_toldMany q_toldAt_ q_hasTold q_stack_ q_codes q_ones q_top q_deep q_isWhole q_truths_ q_imaged_ q_namesKept_ q_areKept_), (q_s_, aC1 cy 383 q_s)] (fun (r : Int32) (u : Unit) => True) (fun u : Unit => [(q, oC11 q_thrown q_tape_ q_length q_size q_p q_limit q_s_ q_h_ q_read_ q_names_ q_reserved_ q_token q_at q_span q_number q_fault q_faultAt q_word q_got q_lines q_onces q_webs q_one q_two q_seed q_undone_ q_before_ q_undoMany q_far_ q_wayRow_ q_wayMany q_keptRow_ q_askedRow_ q_rares_ q_trial_ q_keptMany q_askedMany q_hangs_ q_paths_ q_tornSteps q_hasTorn q_turnOne q_hasTurn q_text_ q_textMany q_toldMany q_toldAt_ q_hasTold q_stack_ q_codes q_ones q_top q_deep q_isWhole q_truths_ q_imaged_ q_namesKept_ q_areKept_), (q_s_, aC1 cy 383 q_s)]) := by
  refine MI.enter (by decide) (Nat.le_of_ble_eq_true rfl) ?_
  intro p e s m below meth c ls A hsz hAe C hP hD hS hl
  exact b_y_hangsOver l D cy q x y q_thrown q_tape_ q_length q_size q_p q_limit q_s_ q_h_ q_read_ q_names_ q_reserved_ q_token q_at q_span q_number q_fault q_faultAt q_word q_got q_lines q_onces q_webs q_one q_two q_seed q_undone_ q_before_ q_undoMany q_far_ q_wayRow_ q_wayMany q_keptRow_ q_askedRow_ q_rares_ q_trial_ q_keptMany q_askedMany q_hangs_ q_paths_ q_tornSteps q_hasTorn q_turnOne q_hasTurn q_text_ q_textMany q_toldMany q_toldAt_ q_hasTold q_stack_ q_codes q_ones q_top q_deep q_isWhole q_truths_ q_imaged_ q_namesKept_ q_areKept_ q_s hb0 hb1 hb2 hb3 hb4 hb5 hb6 hb7 hb8 hb9 hb10 hb11 hb12 hb13 hb14 hb15 hb16 hb17 hb18 hb19 hb20 hb21 hR0 hR1 hR2 hR3 hR4 hR5 hR6 hR7 hR8 ⟨Nat.le_of_ble_eq_true rfl, Nat.le_of_ble_eq_true rfl⟩ C rfl _ _ ls hP hD hS hl
