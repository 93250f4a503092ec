theorem dX11_power_0 : decode cX11_power 0 = .ok (.iconst 1, 1) := by decide +kernel
theorem dX11_power_1 : decode cX11_power 1 = .ok (.istore_n 2, 1) := by decide +kernel
theorem dX11_power_2 : decode cX11_power 2 = .ok (.iconst 0, 1) := by decide +kernel
theorem dX11_power_3 : decode cX11_power 3 = .ok (.istore_n 3, 1) := by decide +kernel
theorem dX11_power_4 : decode cX11_power 4 = .ok (.iload_n 3, 1) := by decide +kernel
theorem dX11_power_5 : decode cX11_power 5 = .ok (.iload_n 1, 1) := by decide +kernel
theorem dX11_power_6 : decode cX11_power 6 = .ok (.if_icmp .ge 13, 3) := by decide +kernel
theorem dX11_power_19 : decode cX11_power 19 = .ok (.iload_n 2, 1) := by decide +kernel
theorem dX11_power_20 : decode cX11_power 20 = .ok (.ireturn, 1) := by decide +kernel
theorem dX11_power_9 : decode cX11_power 9 = .ok (.iload_n 2, 1) := by decide +kernel
theorem dX11_power_10 : decode cX11_power 10 = .ok (.iload_n 0, 1) := by decide +kernel
theorem dX11_power_11 : decode cX11_power 11 = .ok (.imul, 1) := by decide +kernel
theorem dX11_power_12 : decode cX11_power 12 = .ok (.istore_n 2, 1) := by decide +kernel
theorem dX11_power_13 : decode cX11_power 13 = .ok (.iinc 3 1, 3) := by decide +kernel
theorem dX11_power_16 : decode cX11_power 16 = .ok (.goto (-12), 3) := by decide +kernel
theorem dX11_spins_0 : decode cX11_spins 0 = .ok (.iload_n 2, 1) := by decide +kernel
theorem dX11_spins_1 : decode cX11_spins 1 = .ok (.ifCond .lt 10, 3) := by decide +kernel
theorem dX11_spins_11 : decode cX11_spins 11 = .ok (.iconst 0, 1) := by decide +kernel
theorem dX11_spins_12 : decode cX11_spins 12 = .ok (.istore_n 3, 1) := by decide +kernel
theorem dX11_spins_13 : decode cX11_spins 13 = .ok (.iload_n 3, 1) := by decide +kernel
theorem dX11_spins_14 : decode cX11_spins 14 = .ok (.aload_n 0, 1) := by decide +kernel
theorem dX11_spins_15 : decode cX11_spins 15 = .ok (.getfield 33, 3) := by decide +kernel
theorem dX11_spins_18 : decode cX11_spins 18 = .ok (.iconst 0, 1) := by decide +kernel
theorem dX11_spins_19 : decode cX11_spins 19 = .ok (.iaload, 1) := by decide +kernel
theorem dX11_spins_20 : decode cX11_spins 20 = .ok (.if_icmp .ge 50, 3) := by decide +kernel
theorem dX11_spins_70 : decode cX11_spins 70 = .ok (.return_, 1) := by decide +kernel
theorem dX11_spins_23 : decode cX11_spins 23 = .ok (.iload_n 3, 1) := by decide +kernel
theorem dX11_spins_24 : decode cX11_spins 24 = .ok (.iload_n 2, 1) := by decide +kernel
theorem dX11_spins_25 : decode cX11_spins 25 = .ok (.if_icmp .eq 39, 3) := by decide +kernel
theorem dX11_spins_28 : decode cX11_spins 28 = .ok (.iload_n 1, 1) := by decide +kernel
theorem dX11_spins_40 : decode cX11_spins 40 = .ok (.aload_n 0, 1) := by decide +kernel
theorem dX11_spins_41 : decode cX11_spins 41 = .ok (.getfield 74, 3) := by decide +kernel
theorem kF_RX11_74 : Cond.fieldLink RX11 74 "CobwebLibraryModel" "trial" "[I" ∈ gT := List.mem_filter.mpr ⟨List.mem_of_getElem? (i := 1539) (by decide +kernel), by decide +kernel⟩
theorem dX11_spins_44 : decode cX11_spins 44 = .ok (.iload_n 3, 1) := by decide +kernel
theorem dX11_spins_45 : decode cX11_spins 45 = .ok (.bipush 99, 2) := by decide +kernel
theorem dX11_spins_47 : decode cX11_spins 47 = .ok (.aload_n 0, 1) := by decide +kernel
theorem dX11_spins_48 : decode cX11_spins 48 = .ok (.getfield 74, 3) := by decide +kernel
theorem dX11_spins_51 : decode cX11_spins 51 = .ok (.iload_n 3, 1) := by decide +kernel
theorem dX11_spins_52 : decode cX11_spins 52 = .ok (.iaload, 1) := by decide +kernel
theorem dX11_spins_53 : decode cX11_spins 53 = .ok (.aload_n 0, 1) := by decide +kernel
theorem dX11_spins_54 : decode cX11_spins 54 = .ok (.getfield 33, 3) := by decide +kernel
theorem dX11_spins_57 : decode cX11_spins 57 = .ok (.iconst 4, 1) := by decide +kernel
theorem dX11_spins_58 : decode cX11_spins 58 = .ok (.iaload, 1) := by decide +kernel
theorem dX11_spins_59 : decode cX11_spins 59 = .ok (.iadd, 1) := by decide +kernel
theorem dX11_spins_60 : decode cX11_spins 60 = .ok (.invokestatic 294, 3) := by decide +kernel
theorem dX11_spins_63 : decode cX11_spins 63 = .ok (.iastore, 1) := by decide +kernel
theorem dX11_spins_64 : decode cX11_spins 64 = .ok (.iinc 3 1, 3) := by decide +kernel
theorem dX11_spins_67 : decode cX11_spins 67 = .ok (.goto (-54), 3) := by decide +kernel
theorem dX11_spins_29 : decode cX11_spins 29 = .ok (.ifCond .ne 11, 3) := by decide +kernel
theorem dX11_spins_32 : decode cX11_spins 32 = .ok (.aload_n 0, 1) := by decide +kernel
theorem dX11_spins_33 : decode cX11_spins 33 = .ok (.iload_n 3, 1) := by decide +kernel
theorem dX11_spins_34 : decode cX11_spins 34 = .ok (.invokevirtual 338, 3) := by decide +kernel
theorem dX11_spins_37 : decode cX11_spins 37 = .ok (.ifCond .ne 27, 3) := by decide +kernel
theorem dX11_spins_4 : decode cX11_spins 4 = .ok (.aload_n 0, 1) := by decide +kernel
theorem dX11_spins_5 : decode cX11_spins 5 = .ok (.getfield 74, 3) := by decide +kernel
theorem dX11_spins_8 : decode cX11_spins 8 = .ok (.iload_n 2, 1) := by decide +kernel
theorem dX11_spins_9 : decode cX11_spins 9 = .ok (.iconst 0, 1) := by decide +kernel
theorem dX11_spins_10 : decode cX11_spins 10 = .ok (.iastore, 1) := by decide +kernel
theorem dX11_beginsTrial_0 : decode cX11_beginsTrial 0 = .ok (.iconst 0, 1) := by decide +kernel
theorem dX11_beginsTrial_1 : decode cX11_beginsTrial 1 = .ok (.istore_n 1, 1) := by decide +kernel
theorem dX11_beginsTrial_2 : decode cX11_beginsTrial 2 = .ok (.iload_n 1, 1) := by decide +kernel
theorem dX11_beginsTrial_3 : decode cX11_beginsTrial 3 = .ok (.bipush 8, 2) := by decide +kernel
theorem dX11_beginsTrial_5 : decode cX11_beginsTrial 5 = .ok (.if_icmp .ge 24, 3) := by decide +kernel
theorem dX11_beginsTrial_29 : decode cX11_beginsTrial 29 = .ok (.return_, 1) := by decide +kernel
theorem dX11_beginsTrial_8 : decode cX11_beginsTrial 8 = .ok (.aload_n 0, 1) := by decide +kernel
theorem dX11_beginsTrial_9 : decode cX11_beginsTrial 9 = .ok (.getfield 74, 3) := by decide +kernel
theorem dX11_beginsTrial_12 : decode cX11_beginsTrial 12 = .ok (.iload_n 1, 1) := by decide +kernel
theorem dX11_beginsTrial_13 : decode cX11_beginsTrial 13 = .ok (.aload_n 0, 1) := by decide +kernel
theorem dX11_beginsTrial_14 : decode cX11_beginsTrial 14 = .ok (.getfield 33, 3) := by decide +kernel
theorem dX11_beginsTrial_17 : decode cX11_beginsTrial 17 = .ok (.bipush 122, 2) := by decide +kernel
theorem dX11_beginsTrial_19 : decode cX11_beginsTrial 19 = .ok (.iload_n 1, 1) := by decide +kernel
theorem dX11_beginsTrial_20 : decode cX11_beginsTrial 20 = .ok (.iadd, 1) := by decide +kernel
theorem dX11_beginsTrial_21 : decode cX11_beginsTrial 21 = .ok (.iaload, 1) := by decide +kernel
theorem dX11_beginsTrial_22 : decode cX11_beginsTrial 22 = .ok (.iastore, 1) := by decide +kernel
theorem dX11_beginsTrial_23 : decode cX11_beginsTrial 23 = .ok (.iinc 1 1, 3) := by decide +kernel
theorem dX11_beginsTrial_26 : decode cX11_beginsTrial 26 = .ok (.goto (-24), 3) := by decide +kernel
theorem dX11_askedBy_0 : decode cX11_askedBy 0 = .ok (.iload_n 1, 1) := by decide +kernel
theorem dX11_askedBy_1 : decode cX11_askedBy 1 = .ok (.aload_n 0, 1) := by decide +kernel
theorem dX11_askedBy_2 : decode cX11_askedBy 2 = .ok (.getfield 33, 3) := by decide +kernel
theorem dX11_askedBy_5 : decode cX11_askedBy 5 = .ok (.iconst 0, 1) := by decide +kernel
theorem dX11_askedBy_6 : decode cX11_askedBy 6 = .ok (.iaload, 1) := by decide +kernel
theorem dX11_askedBy_7 : decode cX11_askedBy 7 = .ok (.iconst 1, 1) := by decide +kernel
theorem dX11_askedBy_8 : decode cX11_askedBy 8 = .ok (.iadd, 1) := by decide +kernel
theorem dX11_askedBy_9 : decode cX11_askedBy 9 = .ok (.iload_n 2, 1) := by decide +kernel
theorem dX11_askedBy_10 : decode cX11_askedBy 10 = .ok (.iload_n 3, 1) := by decide +kernel
theorem dX11_askedBy_11 : decode cX11_askedBy 11 = .ok (.invokestatic 379, 3) := by decide +kernel
theorem kwS_X11_digit : MwS yX11_digit cX11_digit 6 (some .int) 4 := ⟨List.mem_filter.mpr ⟨List.mem_of_getElem? (i := 1970) (by decide +kernel), by decide +kernel⟩, List.mem_filter.mpr ⟨List.mem_of_getElem? (i := 1969) (by decide +kernel), by decide +kernel⟩, List.mem_filter.mpr ⟨List.mem_of_getElem? (i := 139) (by decide +kernel), by decide +kernel⟩, by decide +kernel⟩
theorem kM_RX11_379 : Cond.methodLink RX11 379 yX11_digit ∈ gT := List.mem_filter.mpr ⟨List.mem_of_getElem? (i := 1968) (by decide +kernel), by decide +kernel⟩
theorem dX11_askedBy_14 : decode cX11_askedBy 14 = .ok (.istore 4, 2) := by decide +kernel
theorem dX11_askedBy_16 : decode cX11_askedBy 16 = .ok (.iload 4, 2) := by decide +kernel
theorem dX11_askedBy_18 : decode cX11_askedBy 18 = .ok (.aload_n 0, 1) := by decide +kernel
theorem dX11_askedBy_19 : decode cX11_askedBy 19 = .ok (.getfield 33, 3) := by decide +kernel
theorem dX11_askedBy_22 : decode cX11_askedBy 22 = .ok (.iconst 0, 1) := by decide +kernel
theorem dX11_askedBy_23 : decode cX11_askedBy 23 = .ok (.iaload, 1) := by decide +kernel
theorem dX11_askedBy_24 : decode cX11_askedBy 24 = .ok (.if_icmp .ne 5, 3) := by decide +kernel
theorem dX11_askedBy_29 : decode cX11_askedBy 29 = .ok (.iload_n 3, 1) := by decide +kernel
theorem dX11_askedBy_30 : decode cX11_askedBy 30 = .ok (.ifCond .ne 17, 3) := by decide +kernel
theorem dX11_askedBy_47 : decode cX11_askedBy 47 = .ok (.iload 4, 2) := by decide +kernel
theorem dX11_askedBy_49 : decode cX11_askedBy 49 = .ok (.ireturn, 1) := by decide +kernel
theorem dX11_askedBy_33 : decode cX11_askedBy 33 = .ok (.aload_n 0, 1) := by decide +kernel
theorem dX11_askedBy_34 : decode cX11_askedBy 34 = .ok (.iload 4, 2) := by decide +kernel
theorem dX11_askedBy_36 : decode cX11_askedBy 36 = .ok (.invokevirtual 338, 3) := by decide +kernel
theorem dX11_askedBy_39 : decode cX11_askedBy 39 = .ok (.ifCond .eq 8, 3) := by decide +kernel
theorem dX11_askedBy_42 : decode cX11_askedBy 42 = .ok (.bipush (-2), 2) := by decide +kernel
theorem dX11_askedBy_44 : decode cX11_askedBy 44 = .ok (.goto 5, 3) := by decide +kernel
theorem dX11_askedBy_27 : decode cX11_askedBy 27 = .ok (.iconst (-1), 1) := by decide +kernel
theorem dX11_askedBy_28 : decode cX11_askedBy 28 = .ok (.ireturn, 1) := by decide +kernel
theorem dX11_spun_0 : decode cX11_spun 0 = .ok (.aload_n 0, 1) := by decide +kernel
theorem dX11_spun_1 : decode cX11_spun 1 = .ok (.iconst 0, 1) := by decide +kernel
theorem dX11_spun_2 : decode cX11_spun 2 = .ok (.putfield 1, 3) := by decide +kernel
theorem dX11_spun_5 : decode cX11_spun 5 = .ok (.aload_n 0, 1) := by decide +kernel
theorem dX11_spun_6 : decode cX11_spun 6 = .ok (.sipush 940, 3) := by decide +kernel
theorem dX11_spun_9 : decode cX11_spun 9 = .ok (.invokevirtual 276, 3) := by decide +kernel
theorem dX11_spun_12 : decode cX11_spun 12 = .ok (.aload_n 0, 1) := by decide +kernel
theorem dX11_spun_13 : decode cX11_spun 13 = .ok (.getfield 18, 3) := by decide +kernel
theorem dX11_spun_16 : decode cX11_spun 16 = .ok (.iconst 3, 1) := by decide +kernel
theorem dX11_spun_17 : decode cX11_spun 17 = .ok (.bipush 18, 2) := by decide +kernel
theorem dX11_spun_19 : decode cX11_spun 19 = .ok (.invokestatic 206, 3) := by decide +kernel
theorem dX11_spun_22 : decode cX11_spun 22 = .ok (.ifCond .eq 12, 3) := by decide +kernel
theorem dX11_spun_34 : decode cX11_spun 34 = .ok (.iconst (-1), 1) := by decide +kernel
theorem dX11_spun_35 : decode cX11_spun 35 = .ok (.ireturn, 1) := by decide +kernel
theorem dX11_spun_25 : decode cX11_spun 25 = .ok (.aload_n 0, 1) := by decide +kernel
theorem dX11_spun_26 : decode cX11_spun 26 = .ok (.getfield 18, 3) := by decide +kernel
theorem dX11_spun_29 : decode cX11_spun 29 = .ok (.iconst 3, 1) := by decide +kernel
theorem dX11_spun_30 : decode cX11_spun 30 = .ok (.irem, 1) := by decide +kernel
theorem dX11_spun_31 : decode cX11_spun 31 = .ok (.ifCond .eq 5, 3) := by decide +kernel
theorem dX11_spun_36 : decode cX11_spun 36 = .ok (.iconst 0, 1) := by decide +kernel
theorem dX11_spun_37 : decode cX11_spun 37 = .ok (.istore_n 1, 1) := by decide +kernel
theorem dX11_spun_38 : decode cX11_spun 38 = .ok (.iload_n 1, 1) := by decide +kernel
theorem dX11_spun_39 : decode cX11_spun 39 = .ok (.aload_n 0, 1) := by decide +kernel
theorem dX11_spun_40 : decode cX11_spun 40 = .ok (.getfield 18, 3) := by decide +kernel
theorem dX11_spun_43 : decode cX11_spun 43 = .ok (.if_icmp .ge 49, 3) := by decide +kernel
theorem dX11_spun_92 : decode cX11_spun 92 = .ok (.iconst 0, 1) := by decide +kernel
theorem dX11_spun_93 : decode cX11_spun 93 = .ok (.istore_n 1, 1) := by decide +kernel
theorem dX11_spun_94 : decode cX11_spun 94 = .ok (.iconst 1, 1) := by decide +kernel
theorem dX11_spun_95 : decode cX11_spun 95 = .ok (.istore_n 2, 1) := by decide +kernel
theorem dX11_spun_96 : decode cX11_spun 96 = .ok (.iload_n 2, 1) := by decide +kernel
theorem dX11_spun_97 : decode cX11_spun 97 = .ok (.bipush 6, 2) := by decide +kernel
theorem dX11_spun_99 : decode cX11_spun 99 = .ok (.if_icmp .ge 86, 3) := by decide +kernel
theorem dX11_spun_185 : decode cX11_spun 185 = .ok (.iload_n 1, 1) := by decide +kernel
theorem dX11_spun_186 : decode cX11_spun 186 = .ok (.ireturn, 1) := by decide +kernel
theorem dX11_spun_102 : decode cX11_spun 102 = .ok (.iconst 1, 1) := by decide +kernel
theorem dX11_spun_103 : decode cX11_spun 103 = .ok (.istore_n 3, 1) := by decide +kernel
theorem dX11_spun_104 : decode cX11_spun 104 = .ok (.iconst 0, 1) := by decide +kernel
theorem dX11_spun_105 : decode cX11_spun 105 = .ok (.istore 4, 2) := by decide +kernel
theorem dX11_spun_107 : decode cX11_spun 107 = .ok (.iload 4, 2) := by decide +kernel
theorem dX11_spun_109 : decode cX11_spun 109 = .ok (.aload_n 0, 1) := by decide +kernel
theorem dX11_spun_110 : decode cX11_spun 110 = .ok (.getfield 18, 3) := by decide +kernel
theorem dX11_spun_113 : decode cX11_spun 113 = .ok (.if_icmp .ge 52, 3) := by decide +kernel
theorem dX11_spun_165 : decode cX11_spun 165 = .ok (.iload_n 1, 1) := by decide +kernel
theorem dX11_spun_166 : decode cX11_spun 166 = .ok (.iload_n 3, 1) := by decide +kernel
theorem dX11_spun_167 : decode cX11_spun 167 = .ok (.ifCond .eq 9, 3) := by decide +kernel
theorem dX11_spun_176 : decode cX11_spun 176 = .ok (.iconst 0, 1) := by decide +kernel
theorem dX11_spun_177 : decode cX11_spun 177 = .ok (.ior, 1) := by decide +kernel
theorem dX11_spun_178 : decode cX11_spun 178 = .ok (.istore_n 1, 1) := by decide +kernel
theorem dX11_spun_179 : decode cX11_spun 179 = .ok (.iinc 2 1, 3) := by decide +kernel
theorem dX11_spun_182 : decode cX11_spun 182 = .ok (.goto (-86), 3) := by decide +kernel
theorem dX11_spun_170 : decode cX11_spun 170 = .ok (.iconst 1, 1) := by decide +kernel
theorem dX11_spun_171 : decode cX11_spun 171 = .ok (.iload_n 2, 1) := by decide +kernel
theorem dX11_spun_172 : decode cX11_spun 172 = .ok (.ishl, 1) := by decide +kernel
theorem dX11_spun_173 : decode cX11_spun 173 = .ok (.goto 4, 3) := by decide +kernel
theorem dX11_spun_116 : decode cX11_spun 116 = .ok (.iload_n 3, 1) := by decide +kernel
theorem dX11_spun_117 : decode cX11_spun 117 = .ok (.ifCond .eq 40, 3) := by decide +kernel
theorem dX11_spun_157 : decode cX11_spun 157 = .ok (.iconst 0, 1) := by decide +kernel
theorem dX11_spun_158 : decode cX11_spun 158 = .ok (.istore_n 3, 1) := by decide +kernel
theorem dX11_spun_159 : decode cX11_spun 159 = .ok (.iinc 4 3, 3) := by decide +kernel
theorem dX11_spun_162 : decode cX11_spun 162 = .ok (.goto (-55), 3) := by decide +kernel
theorem dX11_spun_120 : decode cX11_spun 120 = .ok (.bipush 99, 2) := by decide +kernel
theorem dX11_spun_122 : decode cX11_spun 122 = .ok (.aload_n 0, 1) := by decide +kernel
theorem dX11_spun_123 : decode cX11_spun 123 = .ok (.iload 4, 2) := by decide +kernel
theorem dX11_spun_125 : decode cX11_spun 125 = .ok (.invokevirtual 397, 3) := by decide +kernel
theorem kwV_X11_octet : MwV RX11 yX11_octet cX11_octet 2 (some .int) 1 := ⟨List.mem_filter.mpr ⟨List.mem_of_getElem? (i := 1986) (by decide +kernel), by decide +kernel⟩, List.mem_filter.mpr ⟨List.mem_of_getElem? (i := 1985) (by decide +kernel), by decide +kernel⟩, List.mem_filter.mpr ⟨List.mem_of_getElem? (i := 103) (by decide +kernel), by decide +kernel⟩, List.mem_filter.mpr ⟨List.mem_of_getElem? (i := 139) (by decide +kernel), by decide +kernel⟩, by decide +kernel⟩
theorem kM_RX11_397 : Cond.methodLink RX11 397 yX11_octet ∈ gT := List.mem_filter.mpr ⟨List.mem_of_getElem? (i := 1983) (by decide +kernel), by decide +kernel⟩
theorem dX11_spun_128 : decode cX11_spun 128 = .ok (.iload_n 2, 1) := by decide +kernel
theorem dX11_spun_129 : decode cX11_spun 129 = .ok (.aload_n 0, 1) := by decide +kernel
theorem dX11_spun_130 : decode cX11_spun 130 = .ok (.iload 4, 2) := by decide +kernel
theorem dX11_spun_132 : decode cX11_spun 132 = .ok (.iconst 1, 1) := by decide +kernel
theorem dX11_spun_133 : decode cX11_spun 133 = .ok (.iadd, 1) := by decide +kernel
theorem dX11_spun_134 : decode cX11_spun 134 = .ok (.invokevirtual 397, 3) := by decide +kernel
theorem dX11_spun_137 : decode cX11_spun 137 = .ok (.imul, 1) := by decide +kernel
theorem dX11_spun_138 : decode cX11_spun 138 = .ok (.iadd, 1) := by decide +kernel
theorem dX11_spun_139 : decode cX11_spun 139 = .ok (.invokestatic 294, 3) := by decide +kernel
theorem dX11_spun_142 : decode cX11_spun 142 = .ok (.aload_n 0, 1) := by decide +kernel
theorem dX11_spun_143 : decode cX11_spun 143 = .ok (.iload 4, 2) := by decide +kernel
theorem dX11_spun_145 : decode cX11_spun 145 = .ok (.iconst 2, 1) := by decide +kernel
theorem dX11_spun_146 : decode cX11_spun 146 = .ok (.iadd, 1) := by decide +kernel
theorem dX11_spun_147 : decode cX11_spun 147 = .ok (.invokevirtual 397, 3) := by decide +kernel
theorem dX11_spun_150 : decode cX11_spun 150 = .ok (.if_icmp .ne 7, 3) := by decide +kernel
theorem dX11_spun_153 : decode cX11_spun 153 = .ok (.iconst 1, 1) := by decide +kernel
theorem dX11_spun_154 : decode cX11_spun 154 = .ok (.goto 4, 3) := by decide +kernel
theorem dX11_spun_46 : decode cX11_spun 46 = .ok (.aload_n 0, 1) := by decide +kernel
theorem dX11_spun_47 : decode cX11_spun 47 = .ok (.iload_n 1, 1) := by decide +kernel
theorem dX11_spun_48 : decode cX11_spun 48 = .ok (.invokevirtual 397, 3) := by decide +kernel
theorem dX11_spun_51 : decode cX11_spun 51 = .ok (.bipush 99, 2) := by decide +kernel
theorem dX11_spun_53 : decode cX11_spun 53 = .ok (.if_icmp .gt 31, 3) := by decide +kernel
theorem dX11_spun_84 : decode cX11_spun 84 = .ok (.iconst (-1), 1) := by decide +kernel
theorem dX11_spun_85 : decode cX11_spun 85 = .ok (.ireturn, 1) := by decide +kernel
theorem dX11_spun_56 : decode cX11_spun 56 = .ok (.aload_n 0, 1) := by decide +kernel
theorem dX11_spun_57 : decode cX11_spun 57 = .ok (.iload_n 1, 1) := by decide +kernel
theorem dX11_spun_58 : decode cX11_spun 58 = .ok (.iconst 1, 1) := by decide +kernel
theorem dX11_spun_59 : decode cX11_spun 59 = .ok (.iadd, 1) := by decide +kernel
theorem dX11_spun_60 : decode cX11_spun 60 = .ok (.invokevirtual 397, 3) := by decide +kernel
theorem dX11_spun_63 : decode cX11_spun 63 = .ok (.iconst 1, 1) := by decide +kernel
theorem dX11_spun_64 : decode cX11_spun 64 = .ok (.bipush 99, 2) := by decide +kernel
theorem dX11_spun_66 : decode cX11_spun 66 = .ok (.invokestatic 206, 3) := by decide +kernel
theorem dX11_spun_69 : decode cX11_spun 69 = .ok (.ifCond .eq 15, 3) := by decide +kernel
theorem dX11_spun_72 : decode cX11_spun 72 = .ok (.aload_n 0, 1) := by decide +kernel
theorem dX11_spun_73 : decode cX11_spun 73 = .ok (.iload_n 1, 1) := by decide +kernel
theorem dX11_spun_74 : decode cX11_spun 74 = .ok (.iconst 2, 1) := by decide +kernel
theorem dX11_spun_75 : decode cX11_spun 75 = .ok (.iadd, 1) := by decide +kernel
theorem dX11_spun_76 : decode cX11_spun 76 = .ok (.invokevirtual 397, 3) := by decide +kernel
theorem dX11_spun_79 : decode cX11_spun 79 = .ok (.bipush 99, 2) := by decide +kernel
theorem dX11_spun_81 : decode cX11_spun 81 = .ok (.if_icmp .le 5, 3) := by decide +kernel
theorem dX11_spun_86 : decode cX11_spun 86 = .ok (.iinc 1 3, 3) := by decide +kernel
theorem dX11_spun_89 : decode cX11_spun 89 = .ok (.goto (-51), 3) := by decide +kernel
theorem dX11_hangsOver_0 : decode cX11_hangsOver 0 = .ok (.iconst 0, 1) := by decide +kernel
theorem dX11_hangsOver_1 : decode cX11_hangsOver 1 = .ok (.istore_n 3, 1) := by decide +kernel
theorem dX11_hangsOver_2 : decode cX11_hangsOver 2 = .ok (.iconst 0, 1) := by decide +kernel
theorem dX11_hangsOver_3 : decode cX11_hangsOver 3 = .ok (.istore 4, 2) := by decide +kernel
theorem dX11_hangsOver_5 : decode cX11_hangsOver 5 = .ok (.iload 4, 2) := by decide +kernel
theorem dX11_hangsOver_7 : decode cX11_hangsOver 7 = .ok (.aload_n 0, 1) := by decide +kernel
theorem dX11_hangsOver_8 : decode cX11_hangsOver 8 = .ok (.getfield 33, 3) := by decide +kernel
theorem dX11_hangsOver_11 : decode cX11_hangsOver 11 = .ok (.iconst 0, 1) := by decide +kernel
theorem dX11_hangsOver_12 : decode cX11_hangsOver 12 = .ok (.iaload, 1) := by decide +kernel
theorem dX11_hangsOver_13 : decode cX11_hangsOver 13 = .ok (.if_icmp .ge 60, 3) := by decide +kernel
theorem dX11_hangsOver_73 : decode cX11_hangsOver 73 = .ok (.iload_n 3, 1) := by decide +kernel
theorem dX11_hangsOver_74 : decode cX11_hangsOver 74 = .ok (.ireturn, 1) := by decide +kernel
theorem dX11_hangsOver_16 : decode cX11_hangsOver 16 = .ok (.iload 4, 2) := by decide +kernel
theorem dX11_hangsOver_18 : decode cX11_hangsOver 18 = .ok (.iconst 1, 1) := by decide +kernel
theorem dX11_hangsOver_19 : decode cX11_hangsOver 19 = .ok (.iadd, 1) := by decide +kernel
theorem dX11_hangsOver_20 : decode cX11_hangsOver 20 = .ok (.istore 5, 2) := by decide +kernel
theorem dX11_hangsOver_22 : decode cX11_hangsOver 22 = .ok (.iload 5, 2) := by decide +kernel
theorem dX11_hangsOver_24 : decode cX11_hangsOver 24 = .ok (.aload_n 0, 1) := by decide +kernel
theorem dX11_hangsOver_25 : decode cX11_hangsOver 25 = .ok (.getfield 33, 3) := by decide +kernel
theorem dX11_hangsOver_28 : decode cX11_hangsOver 28 = .ok (.iconst 0, 1) := by decide +kernel
theorem dX11_hangsOver_29 : decode cX11_hangsOver 29 = .ok (.iaload, 1) := by decide +kernel
theorem dX11_hangsOver_30 : decode cX11_hangsOver 30 = .ok (.if_icmp .ge 37, 3) := by decide +kernel
theorem dX11_hangsOver_67 : decode cX11_hangsOver 67 = .ok (.iinc 4 1, 3) := by decide +kernel
theorem dX11_hangsOver_70 : decode cX11_hangsOver 70 = .ok (.goto (-65), 3) := by decide +kernel
theorem dX11_hangsOver_33 : decode cX11_hangsOver 33 = .ok (.iload_n 3, 1) := by decide +kernel
theorem dX11_hangsOver_34 : decode cX11_hangsOver 34 = .ok (.aload_n 0, 1) := by decide +kernel
theorem dX11_hangsOver_35 : decode cX11_hangsOver 35 = .ok (.iload 4, 2) := by decide +kernel
theorem dX11_hangsOver_37 : decode cX11_hangsOver 37 = .ok (.iload 5, 2) := by decide +kernel
theorem dX11_hangsOver_39 : decode cX11_hangsOver 39 = .ok (.iload_n 1, 1) := by decide +kernel
theorem dX11_hangsOver_40 : decode cX11_hangsOver 40 = .ok (.iload_n 2, 1) := by decide +kernel
theorem dX11_hangsOver_41 : decode cX11_hangsOver 41 = .ok (.invokevirtual 300, 3) := by decide +kernel
theorem dX11_hangsOver_44 : decode cX11_hangsOver 44 = .ok (.ifCond .eq 14, 3) := by decide +kernel
theorem dX11_hangsOver_58 : decode cX11_hangsOver 58 = .ok (.iconst 0, 1) := by decide +kernel
theorem dX11_hangsOver_59 : decode cX11_hangsOver 59 = .ok (.iadd, 1) := by decide +kernel
theorem dX11_hangsOver_60 : decode cX11_hangsOver 60 = .ok (.istore_n 3, 1) := by decide +kernel
theorem dX11_hangsOver_61 : decode cX11_hangsOver 61 = .ok (.iinc 5 1, 3) := by decide +kernel
theorem dX11_hangsOver_64 : decode cX11_hangsOver 64 = .ok (.goto (-42), 3) := by decide +kernel
theorem dX11_hangsOver_47 : decode cX11_hangsOver 47 = .ok (.aload_n 0, 1) := by decide +kernel
theorem dX11_hangsOver_48 : decode cX11_hangsOver 48 = .ok (.iload 4, 2) := by decide +kernel
theorem dX11_hangsOver_50 : decode cX11_hangsOver 50 = .ok (.iload 5, 2) := by decide +kernel
theorem dX11_hangsOver_52 : decode cX11_hangsOver 52 = .ok (.invokevirtual 291, 3) := by decide +kernel
theorem dX11_hangsOver_55 : decode cX11_hangsOver 55 = .ok (.goto 4, 3) := by decide +kernel
set_option maxHeartbeats 4000000 in
set_option maxRecDepth 100000 in
theorem b_y_power (l : Launch) (D : va_G) (cy : Nat → ClassId) (a : Int32) (n : Int32)  {p : Program} {e : Env} {s : State} {m : MethodId} {args : Array Value} {below : List Frame} {meth : Method} {c : Code} {A : Nat → Prop} {Q : State → Prop} {cells slots : Nat} (hroom : cells ≤ ((Rm 0 0 0 0)).cells ∧ slots ≤ ((Rm 0 0 0 0)).slots) (C : Cx p s m args meth c cX11_power 4 (some .int) RX11 "power" D cy A) (hQ : Q = MQ below (va_Qi (fun (r : Int32) (u : Unit) => True) (Bx D A (fun u : Unit => [])) A) args s ((Rm 0 0 0 0)).cells ((Rm 0 0 0 0)).slots A) (H : Heap) (locs : List Loc) (ls : Array Slot) (hP : va_P D vwCl [] H) (hD : va_D A []) (hS : va_S A s.heap H locs) (hl : lv_has ls 4 [(0, .int a), (1, .int n)]) : W p l e (Rm 0 0 0 0) s m args below meth c H locs cells slots Q (F0 m 0 ls []) := by
  have hx := C.1
  have hb := C.2.1
  have hqa := o_rng a
  have hqn := o_rng n
  refine lv_iconst (v := 1) hx hb dX11_power_0 (by decide) ?_
  refine lv_istore_n (lv' := [(2, .int 1), (0, .int a), (1, .int n)]) hx hb dX11_power_1 rfl hl (by decide) rfl (fun ls hl => ?_)
  refine lv_iconst (v := 0) hx hb dX11_power_2 (by decide) ?_
  refine lv_istore_n (lv' := [(3, .int 0), (2, .int 1), (0, .int a), (1, .int n)]) hx hb dX11_power_3 rfl hl (by decide) rfl (fun ls hl => ?_)
  have lp_4_2 : ∀ (n_3 : Nat) (x_1 : Int32) (x_2 : Int32) (H : Heap) (locs : List Loc) (ls : Array Slot), (-1) * x_2.toInt + 2147483647 < (n_3 : Int) → (0 ≤ x_2.toInt) → (x_2.toInt ≤ 2147483647) → va_P D vwCl [] H → va_D A [] → va_S A s.heap H locs → lv_has ls 4 [(0, .int a), (1, .int n), (2, .int x_1), (3, .int x_2)] → W p l e (Rm 0 0 0 0) s m args below meth c H locs cells slots Q (F0 m 4 ls []) := by
    intro n_3
    induction n_3 with
    | zero =>
      intro x_1 x_2 H locs ls hm_6 hf_4 hf_5 hP hD hS hl
      exact absurd hm_6 (by omega)
    | succ n_3 ih_7 =>
      intro x_1 x_2 H locs ls hm_6 hf_4 hf_5 hP hD hS hl
      refine lv_iload_n hx hb dX11_power_4 rfl (lv_at hl 3 rfl) ?_
      refine lv_iload_n hx hb dX11_power_5 rfl (lv_at hl 1 rfl) ?_
      refine lv_icmp_ge (tgt := 19) hx hb dX11_power_6 (by decide) (fun c_9 => ?_) (fun c_9 => ?_)
      · have hc_9 := o_le (rfl : n.toInt = n.toInt) (rfl : x_2.toInt = x_2.toInt) c_9
        refine lv_iload_n hx hb dX11_power_19 rfl (lv_at hl 2 rfl) ?_
        refine o_wq hQ ?_
        exact q_iret (rm := (Rm 0 0 0 0)) C hS () rfl trivial (q_subP hP [] rfl) (hD.sub [] (by decide) rfl) hroom.1 hroom.2 dX11_power_20
      · have hc_9 := o_nle (rfl : n.toInt = n.toInt) (rfl : x_2.toInt = x_2.toInt) c_9
        refine lv_iload_n hx hb dX11_power_9 rfl (lv_at hl 2 rfl) ?_
        refine lv_iload_n hx hb dX11_power_10 rfl (lv_at hl 0 rfl) ?_
        refine lv_imul hx hb dX11_power_11 ?_
        refine lv_topi (fun z_10 hz_10 => ?_)
        clear hz_10
        refine lv_istore_n (lv' := [(2, .int z_10), (0, .int a), (1, .int n), (3, .int x_2)]) hx hb dX11_power_12 rfl hl (by decide) rfl (fun ls hl => ?_)
        obtain ⟨z_11, hz_11⟩ : ∃ z : Int32, z = x_2 + 1 := ⟨_, rfl⟩
        refine lv_iinc (v := z_11) (lv' := [(3, .int z_11), (2, .int z_10), (0, .int a), (1, .int n)]) hx hb dX11_power_13 hl (k := 3) rfl hz_11.symm (by decide) rfl (fun ls hl => ?_)
        have hz_11 := o_add hz_11 (rfl : x_2.toInt = x_2.toInt) (by decide : (1 : Int32).toInt = 1) (by omega) (by omega)
        refine lv_goto (tgt := 4) hx hb dX11_power_16 (by decide) ?_
        exact ih_7 z_10 z_11 H locs ls (by omega) (by omega) (by omega) hP hD hS (lv_sub hl [2, 3, 1, 0] rfl)
  exact lp_4_2 2147483648 (1 : Int32) (0 : Int32) H locs ls (by have e0 : (0 : Int32).toInt = 0 := (by decide); have e1 : (1 : Int32).toInt = 1 := (by decide); omega) (by have e0 : (0 : Int32).toInt = 0 := (by decide); have e1 : (1 : Int32).toInt = 1 := (by decide); omega) (by have e0 : (0 : Int32).toInt = 0 := (by decide); have e1 : (1 : Int32).toInt = 1 := (by decide); omega) hP hD hS (lv_sub hl [2, 3, 1, 0] rfl)
theorem y_power (l : Launch) (D : va_G) (cy : Nat → ClassId) (a : Int32) (n : Int32) (sz : Nat)  : MI l yX11_power cX11_power 4 (some .int) (Rm 0 0 0 0) D cy [.int a, .int n] sz [] (fun (r : Int32) (u : Unit) => True) (fun u : Unit => []) := by
  refine MI.enter (by decide) (Nat.le_of_ble_eq_true rfl) ?_
  intro p e s m below meth c ls A hsz hAe C hP hD hS hl
  exact b_y_power l D cy a n  ⟨Nat.le_of_ble_eq_true rfl, Nat.le_of_ble_eq_true rfl⟩ C rfl _ _ ls hP hD hS hl
set_option maxHeartbeats 4000000 in
set_option maxRecDepth 100000 in
theorem b_y_spins (l : Launch) (D : va_G) (cy : Nat → ClassId) (q : Nat) (d : Int32) (a : Int32) (q_thrown : Int32) (q_tape_ : Nat) (q_length : Int32) (q_size : Int32) (q_p : Int32) (q_limit : Int32) (q_s_ : Nat) (q_h_ : Nat) (q_read_ : Nat) (q_names_ : Nat) (q_reserved_ : Nat) (q_token : Int32) (q_at : Int32) (q_span : Int32) (q_number : Int32) (q_fault : Int32) (q_faultAt : Int32) (q_word : Int64) (q_got : Int32) (q_lines : Int32) (q_onces : Int32) (q_webs : Int32) (q_one : Int32) (q_two : Int32) (q_seed : Int32) (q_undone_ : Nat) (q_before_ : Nat) (q_undoMany : Int32) (q_far_ : Nat) (q_wayRow_ : Nat) (q_wayMany : Int32) (q_keptRow_ : Nat) (q_askedRow_ : Nat) (q_rares_ : Nat) (q_trial_ : Nat) (q_keptMany : Int32) (q_askedMany : Int32) (q_hangs_ : Nat) (q_paths_ : Nat) (q_tornSteps : Int32) (q_hasTorn : Int32) (q_turnOne : Int32) (q_hasTurn : Int32) (q_text_ : Nat) (q_textMany : Int32) (q_toldMany : Int32) (q_toldAt_ : Nat) (q_hasTold : Int32) (q_stack_ : Nat) (q_codes : Int32) (q_ones : Int32) (q_top : Int32) (q_deep : Int32) (q_isWhole : Int32) (q_truths_ : Nat) (q_imaged_ : Nat) (q_namesKept_ : Nat) (q_areKept_ : Nat) (q_s : Nat → Int32) (q_trial : Nat → Int32) (hb0 : 0 ≤ q_length.toInt ∧ q_length.toInt ≤ 940) (hb1 : 0 ≤ q_size.toInt ∧ q_size.toInt ≤ 940) (hb2 : 0 ≤ q_p.toInt ∧ q_p.toInt ≤ 940) (hb3 : 0 ≤ q_limit.toInt ∧ q_limit.toInt ≤ 940) (hb4 : 0 ≤ q_span.toInt ∧ q_span.toInt ≤ 940) (hb5 : 0 ≤ q_number.toInt ∧ q_number.toInt ≤ 8214) (hb6 : (-1) ≤ q_got.toInt ∧ q_got.toInt ≤ 8214) (hb7 : 0 ≤ q_one.toInt ∧ q_one.toInt ≤ 7) (hb8 : 0 ≤ q_two.toInt ∧ q_two.toInt ≤ 7) (hb9 : 0 ≤ q_undoMany.toInt ∧ q_undoMany.toInt ≤ 8) (hb10 : (-1) ≤ q_wayMany.toInt ∧ q_wayMany.toInt ≤ 8) (hb11 : (-1) ≤ q_keptMany.toInt ∧ q_keptMany.toInt ≤ 8) (hb12 : (-1) ≤ q_askedMany.toInt ∧ q_askedMany.toInt ≤ 3) (hb13 : 0 ≤ q_hasTorn.toInt ∧ q_hasTorn.toInt ≤ 1) (hb14 : 0 ≤ q_hasTurn.toInt ∧ q_hasTurn.toInt ≤ 1) (hb15 : 0 ≤ q_textMany.toInt ∧ q_textMany.toInt ≤ 48) (hb16 : 0 ≤ q_toldMany.toInt ∧ q_toldMany.toInt ≤ 40) (hb17 : 0 ≤ q_hasTold.toInt ∧ q_hasTold.toInt ≤ 1) (hb18 : 0 ≤ q_codes.toInt ∧ q_codes.toInt ≤ 40) (hb19 : 0 ≤ q_ones.toInt ∧ q_ones.toInt ≤ 20) (hb20 : 0 ≤ q_top.toInt ∧ q_top.toInt ≤ 40) (hb21 : 0 ≤ q_isWhole.toInt ∧ q_isWhole.toInt ≤ 1) (hb22 : a.toInt ≤ 7) (hR0 : Rg q_s 0 1 0 8) (hR1 : Rg q_s 1 3 0 6) (hR2 : Rg q_s 3 4 1 50) (hR3 : Rg q_s 4 5 1 5) (hR4 : Rg q_s 103 104 0 255) (hR5 : Rg q_s 7 23 0 5) (hR6 : Rg q_s 106 122 0 5) (hR7 : Rg q_s 23 31 0 99) (hR8 : Rg q_s 122 130 0 99) {p : Program} {e : Env} {s : State} {m : MethodId} {args : Array Value} {below : List Frame} {meth : Method} {c : Code} {A : Nat → Prop} {Q : State → Prop} {cells slots : Nat} (hroom : cells ≤ ((Rm 2 42 0 0)).cells ∧ slots ≤ ((Rm 2 42 0 0)).slots) (C : Cx p s m args meth c cX11_spins 4 none RX11 "spins" D cy A) (hQ : Q = MQ below (va_Qv (fun u : (Nat → Int32) => True) (Bx D A (fun u : (Nat → Int32) => [(q, oC11 q_thrown q_tape_ q_length q_size q_p q_limit q_s_ q_h_ q_read_ q_names_ q_reserved_ q_token q_at q_span q_number q_fault q_faultAt q_word q_got q_lines q_onces q_webs q_one q_two q_seed q_undone_ q_before_ q_undoMany q_far_ q_wayRow_ q_wayMany q_keptRow_ q_askedRow_ q_rares_ q_trial_ q_keptMany q_askedMany q_hangs_ q_paths_ q_tornSteps q_hasTorn q_turnOne q_hasTurn q_text_ q_textMany q_toldMany q_toldAt_ q_hasTold q_stack_ q_codes q_ones q_top q_deep q_isWhole q_truths_ q_imaged_ q_namesKept_ q_areKept_), (q_s_, aC1 cy 383 q_s), (q_trial_, aC1 cy 8 u)])) A) args s ((Rm 2 42 0 0)).cells ((Rm 2 42 0 0)).slots A) (H : Heap) (locs : List Loc) (ls : Array Slot) (hP : va_P D vwCl [(q, oC11 q_thrown q_tape_ q_length q_size q_p q_limit q_s_ q_h_ q_read_ q_names_ q_reserved_ q_token q_at q_span q_number q_fault q_faultAt q_word q_got q_lines q_onces q_webs q_one q_two q_seed q_undone_ q_before_ q_undoMany q_far_ q_wayRow_ q_wayMany q_keptRow_ q_askedRow_ q_rares_ q_trial_ q_keptMany q_askedMany q_hangs_ q_paths_ q_tornSteps q_hasTorn q_turnOne q_hasTurn q_text_ q_textMany q_toldMany q_toldAt_ q_hasTold q_stack_ q_codes q_ones q_top q_deep q_isWhole q_truths_ q_imaged_ q_namesKept_ q_areKept_), (q_s_, aC1 cy 383 q_s), (q_trial_, aC1 cy 8 q_trial)] H) (hD : va_D A [(q, oC11 q_thrown q_tape_ q_length q_size q_p q_limit q_s_ q_h_ q_read_ q_names_ q_reserved_ q_token q_at q_span q_number q_fault q_faultAt q_word q_got q_lines q_onces q_webs q_one q_two q_seed q_undone_ q_before_ q_undoMany q_far_ q_wayRow_ q_wayMany q_keptRow_ q_askedRow_ q_rares_ q_trial_ q_keptMany q_askedMany q_hangs_ q_paths_ q_tornSteps q_hasTorn q_turnOne q_hasTurn q_text_ q_textMany q_toldMany q_toldAt_ q_hasTold q_stack_ q_codes q_ones q_top q_deep q_isWhole q_truths_ q_imaged_ q_namesKept_ q_areKept_), (q_s_, aC1 cy 383 q_s), (q_trial_, aC1 cy 8 q_trial)]) (hS : va_S A s.heap H locs) (hl : lv_has ls 4 [(0, .ref q), (1, .int d), (2, .int a)]) : W p l e (Rm 2 42 0 0) s m args below meth c H locs cells slots Q (F0 m 0 ls []) := by
  have hx := C.1
  have hb := C.2.1
  have hqd := o_rng d
  refine lv_iload_n hx hb dX11_spins_0 rfl (lv_at hl 2 rfl) ?_
  refine lv_if_lt (tgt := 11) hx hb dX11_spins_1 (by decide) (fun c_1 => ?_) (fun c_1 => ?_)
  · have hc_1 := o_lt (rfl : a.toInt = a.toInt) (by decide : (0 : Int32).toInt = 0) c_1
    refine lv_iconst (v := 0) hx hb dX11_spins_11 (by decide) ?_
    refine lv_istore_n (lv' := [(3, .int 0), (0, .ref q), (1, .int d), (2, .int a)]) hx hb dX11_spins_12 rfl hl (by decide) rfl (fun ls hl => ?_)
    have lp_13_3 : ∀ (n_4 : Nat) (x_2 : Int32) (g_3 : Nat → Int32) (H : Heap) (locs : List Loc) (ls : Array Slot), (-1) * x_2.toInt + 8 < (n_4 : Int) → (0 ≤ x_2.toInt ∧ x_2.toInt ≤ 8) → va_P D vwCl [(q, oC11 q_thrown q_tape_ q_length q_size q_p q_limit q_s_ q_h_ q_read_ q_names_ q_reserved_ q_token q_at q_span q_number q_fault q_faultAt q_word q_got q_lines q_onces q_webs q_one q_two q_seed q_undone_ q_before_ q_undoMany q_far_ q_wayRow_ q_wayMany q_keptRow_ q_askedRow_ q_rares_ q_trial_ q_keptMany q_askedMany q_hangs_ q_paths_ q_tornSteps q_hasTorn q_turnOne q_hasTurn q_text_ q_textMany q_toldMany q_toldAt_ q_hasTold q_stack_ q_codes q_ones q_top q_deep q_isWhole q_truths_ q_imaged_ q_namesKept_ q_areKept_), (q_s_, aC1 cy 383 q_s), (q_trial_, aC1 cy 8 g_3)] H → va_D A [(q, oC11 q_thrown q_tape_ q_length q_size q_p q_limit q_s_ q_h_ q_read_ q_names_ q_reserved_ q_token q_at q_span q_number q_fault q_faultAt q_word q_got q_lines q_onces q_webs q_one q_two q_seed q_undone_ q_before_ q_undoMany q_far_ q_wayRow_ q_wayMany q_keptRow_ q_askedRow_ q_rares_ q_trial_ q_keptMany q_askedMany q_hangs_ q_paths_ q_tornSteps q_hasTorn q_turnOne q_hasTurn q_text_ q_textMany q_toldMany q_toldAt_ q_hasTold q_stack_ q_codes q_ones q_top q_deep q_isWhole q_truths_ q_imaged_ q_namesKept_ q_areKept_), (q_s_, aC1 cy 383 q_s), (q_trial_, aC1 cy 8 g_3)] → va_S A s.heap H locs → lv_has ls 4 [(0, .ref q), (1, .int d), (2, .int a), (3, .int x_2)] → W p l e (Rm 2 42 0 0) s m args below meth c H locs cells slots Q (F0 m 13 ls []) := by
      intro n_4
      induction n_4 with
      | zero =>
        intro x_2 g_3 H locs ls hm_6 hf_5 hP hD hS hl
        exact absurd hm_6 (by omega)
      | succ n_4 ih_7 =>
        intro x_2 g_3 H locs ls hm_6 hf_5 hP hD hS hl
        refine lv_iload_n hx hb dX11_spins_13 rfl (lv_at hl 3 rfl) ?_
        refine lv_aload_n hx hb dX11_spins_14 rfl (lv_at hl 0 rfl) ?_
        refine q_get11 (v := .ref q_s_) C hP 0 6 rfl fT_6 (by decide) kF_RX11_33 rfl dX11_spins_15 ?_
        refine lv_iconst (v := 0) hx hb dX11_spins_18 (by decide) ?_
        refine q_iald (v := q_s 0) C hP 1 rfl (vin (by decide +kernel)) rfl dX11_spins_19 ?_
        refine lv_topi (fun z_9 ez_9 => ?_)
        have hz_9 : 0 ≤ z_9.toInt ∧ z_9.toInt ≤ 8 := (by rw [ez_9]; exact hR0 0 (by decide) (by decide))
        refine lv_icmp_ge (tgt := 70) hx hb dX11_spins_20 (by decide) (fun c_10 => ?_) (fun c_10 => ?_)
        · have hc_10 := o_le (rfl : z_9.toInt = z_9.toInt) (rfl : x_2.toInt = x_2.toInt) c_10
          refine o_wq hQ ?_
          exact q_vret (rm := (Rm 2 42 0 0)) C hS g_3 trivial (q_subP hP [0, 1, 2] rfl) (hD.sub [0, 1, 2] (by decide) rfl) hroom.1 hroom.2 dX11_spins_70
        · have hc_10 := o_nle (rfl : z_9.toInt = z_9.toInt) (rfl : x_2.toInt = x_2.toInt) c_10
          refine lv_iload_n hx hb dX11_spins_23 rfl (lv_at hl 3 rfl) ?_
          refine lv_iload_n hx hb dX11_spins_24 rfl (lv_at hl 2 rfl) ?_
          refine lv_icmp_eq (tgt := 64) hx hb dX11_spins_25 (by decide) (fun c_0 => absurd c_0 (o_mne (rfl : x_2.toInt = x_2.toInt) (rfl : a.toInt = a.toInt) (by omega))) (fun _ => ?_)
          refine lv_iload_n hx hb dX11_spins_28 rfl (lv_at hl 1 rfl) ?_
          have cut_40_10 : ∀  (H : Heap) (locs : List Loc) (ls : Array Slot), va_P D vwCl [(q, oC11 q_thrown q_tape_ q_length q_size q_p q_limit q_s_ q_h_ q_read_ q_names_ q_reserved_ q_token q_at q_span q_number q_fault q_faultAt q_word q_got q_lines q_onces q_webs q_one q_two q_seed q_undone_ q_before_ q_undoMany q_far_ q_wayRow_ q_wayMany q_keptRow_ q_askedRow_ q_rares_ q_trial_ q_keptMany q_askedMany q_hangs_ q_paths_ q_tornSteps q_hasTorn q_turnOne q_hasTurn q_text_ q_textMany q_toldMany q_toldAt_ q_hasTold q_stack_ q_codes q_ones q_top q_deep q_isWhole q_truths_ q_imaged_ q_namesKept_ q_areKept_), (q_s_, aC1 cy 383 q_s), (q_trial_, aC1 cy 8 g_3)] H → va_D A [(q, oC11 q_thrown q_tape_ q_length q_size q_p q_limit q_s_ q_h_ q_read_ q_names_ q_reserved_ q_token q_at q_span q_number q_fault q_faultAt q_word q_got q_lines q_onces q_webs q_one q_two q_seed q_undone_ q_before_ q_undoMany q_far_ q_wayRow_ q_wayMany q_keptRow_ q_askedRow_ q_rares_ q_trial_ q_keptMany q_askedMany q_hangs_ q_paths_ q_tornSteps q_hasTorn q_turnOne q_hasTurn q_text_ q_textMany q_toldMany q_toldAt_ q_hasTold q_stack_ q_codes q_ones q_top q_deep q_isWhole q_truths_ q_imaged_ q_namesKept_ q_areKept_), (q_s_, aC1 cy 383 q_s), (q_trial_, aC1 cy 8 g_3)] → va_S A s.heap H locs → lv_has ls 4 [(0, .ref q), (1, .int d), (2, .int a), (3, .int x_2)] → W p l e (Rm 2 42 0 0) s m args below meth c H locs cells slots Q (F0 m 40 ls []) := by
            intro  H locs ls  hP hD hS hl
            refine lv_aload_n hx hb dX11_spins_40 rfl (lv_at hl 0 rfl) ?_
            refine q_get11 (v := .ref q_trial_) C hP 0 34 rfl fT_34 (by decide) kF_RX11_74 rfl dX11_spins_41 ?_
            refine lv_iload_n hx hb dX11_spins_44 rfl (lv_at hl 3 rfl) ?_
            refine lv_bipush (v := 99) hx hb dX11_spins_45 (by decide) ?_
            refine lv_aload_n hx hb dX11_spins_47 rfl (lv_at hl 0 rfl) ?_
            refine q_get11 (v := .ref q_trial_) C hP 0 34 rfl fT_34 (by decide) kF_RX11_74 rfl dX11_spins_48 ?_
            refine lv_iload_n hx hb dX11_spins_51 rfl (lv_at hl 3 rfl) ?_
            refine q_iald (v := g_3 x_2.toNatClampNeg) C hP 2 rfl (o_in (rfl : x_2.toInt = x_2.toInt) (by omega) (by omega)) rfl dX11_spins_52 ?_
            refine lv_topi (fun z_12 ez_12 => ?_)
            refine lv_aload_n hx hb dX11_spins_53 rfl (lv_at hl 0 rfl) ?_
            refine q_get11 (v := .ref q_s_) C hP 0 6 rfl fT_6 (by decide) kF_RX11_33 rfl dX11_spins_54 ?_
            refine lv_iconst (v := 4) hx hb dX11_spins_57 (by decide) ?_
            refine q_iald (v := q_s 4) C hP 1 rfl (vin (by decide +kernel)) rfl dX11_spins_58 ?_
            refine lv_topi (fun z_13 ez_13 => ?_)
            have hz_13 : 1 ≤ z_13.toInt ∧ z_13.toInt ≤ 5 := (by rw [ez_13]; exact hR3 4 (by decide) (by decide))
            refine lv_iadd hx hb dX11_spins_59 ?_
            refine lv_topi (fun z_14 hz_14 => ?_)
            clear hz_14
            refine q_ai (wr := [(q, oC11 q_thrown q_tape_ q_length q_size q_p q_limit q_s_ q_h_ q_read_ q_names_ q_reserved_ q_token q_at q_span q_number q_fault q_faultAt q_word q_got q_lines q_onces q_webs q_one q_two q_seed q_undone_ q_before_ q_undoMany q_far_ q_wayRow_ q_wayMany q_keptRow_ q_askedRow_ q_rares_ q_trial_ q_keptMany q_askedMany q_hangs_ q_paths_ q_tornSteps q_hasTorn q_turnOne q_hasTurn q_text_ q_textMany q_toldMany q_toldAt_ q_hasTold q_stack_ q_codes q_ones q_top q_deep q_isWhole q_truths_ q_imaged_ q_namesKept_ q_areKept_), (q_s_, aC1 cy 383 q_s), (q_trial_, aC1 cy 8 g_3)]) (r_S (rm := (Rm 0 0 0 0)) (As := [.int 99, .int z_14]) (rest := [.int x_2, .ref q_trial_]) (wc := []) C hS (q_subP hP [] rfl) (hD.sub [] (by decide) rfl) (y_lesser l D cy 99 z_14 _ ) kwS_X11_lesser kM_RX11_294 ⟨Nat.le_of_ble_eq_true rfl, Nat.le_of_ble_eq_true rfl⟩ rfl hl.1 rfl (Nat.le_of_ble_eq_true rfl) dX11_spins_60 ⟨hroom.1, hroom.2⟩) C.2.2.2.2.2.2.1 hP hD hS [] [0, 1, 2] rfl rfl (by decide) (by decide) (fun r_16 u_15 H locs hw_17 hP hD hS => ?_)
            have hp_17 : 0 ≤ (-1) * r_16.toInt + 99 ∧ 0 ≤ z_14.toInt + (-1) * r_16.toInt := by have e0 : (99 : Int32).toInt = 99 := (by decide); have h0 : 0 ≤ (99 : Int32).toInt + (-1) * r_16.toInt ∧ 0 ≤ z_14.toInt + (-1) * r_16.toInt := hw_17.1; omega
            have hp_18 : Hd ((r_16.toInt = (99 : Int32).toInt ∧ (99 : Int32).toInt ≤ z_14.toInt) ∨ (r_16.toInt = z_14.toInt ∧ z_14.toInt ≤ (99 : Int32).toInt)) := hw_17.2.1
            have hp_19 : (0 ≤ 99 ∧ 0 ≤ z_14.toInt) → (0 ≤ r_16.toInt) := by have e0 : (99 : Int32).toInt = 99 := (by decide); have h0 : (0 ≤ (99 : Int32).toInt ∧ 0 ≤ z_14.toInt) → (0 ≤ r_16.toInt) := hw_17.2.2; omega
            clear hw_17
            refine q_iast (g := upd g_3 x_2.toNatClampNeg r_16) (w' := [(q, oC11 q_thrown q_tape_ q_length q_size q_p q_limit q_s_ q_h_ q_read_ q_names_ q_reserved_ q_token q_at q_span q_number q_fault q_faultAt q_word q_got q_lines q_onces q_webs q_one q_two q_seed q_undone_ q_before_ q_undoMany q_far_ q_wayRow_ q_wayMany q_keptRow_ q_askedRow_ q_rares_ q_trial_ q_keptMany q_askedMany q_hangs_ q_paths_ q_tornSteps q_hasTorn q_turnOne q_hasTurn q_text_ q_textMany q_toldMany q_toldAt_ q_hasTold q_stack_ q_codes q_ones q_top q_deep q_isWhole q_truths_ q_imaged_ q_namesKept_ q_areKept_), (q_s_, aC1 cy 383 q_s), (q_trial_, aC1 cy 8 (upd g_3 x_2.toNatClampNeg r_16))]) C hP hD hS 2 rfl (o_in (rfl : x_2.toInt = x_2.toInt) (by omega) (by omega)) rfl rfl dX11_spins_63 (fun H locs hP hD hS => ?_)
            generalize upd g_3 x_2.toNatClampNeg r_16 = g_21 at hP hD 
            have hP : va_P D vwCl [(q, oC11 q_thrown q_tape_ q_length q_size q_p q_limit q_s_ q_h_ q_read_ q_names_ q_reserved_ q_token q_at q_span q_number q_fault q_faultAt q_word q_got q_lines q_onces q_webs q_one q_two q_seed q_undone_ q_before_ q_undoMany q_far_ q_wayRow_ q_wayMany q_keptRow_ q_askedRow_ q_rares_ q_trial_ q_keptMany q_askedMany q_hangs_ q_paths_ q_tornSteps q_hasTorn q_turnOne q_hasTurn q_text_ q_textMany q_toldMany q_toldAt_ q_hasTold q_stack_ q_codes q_ones q_top q_deep q_isWhole q_truths_ q_imaged_ q_namesKept_ q_areKept_), (q_s_, aC1 cy 383 q_s), (q_trial_, aC1 cy 8 g_21)] H := hP
            have hD : va_D A [(q, oC11 q_thrown q_tape_ q_length q_size q_p q_limit q_s_ q_h_ q_read_ q_names_ q_reserved_ q_token q_at q_span q_number q_fault q_faultAt q_word q_got q_lines q_onces q_webs q_one q_two q_seed q_undone_ q_before_ q_undoMany q_far_ q_wayRow_ q_wayMany q_keptRow_ q_askedRow_ q_rares_ q_trial_ q_keptMany q_askedMany q_hangs_ q_paths_ q_tornSteps q_hasTorn q_turnOne q_hasTurn q_text_ q_textMany q_toldMany q_toldAt_ q_hasTold q_stack_ q_codes q_ones q_top q_deep q_isWhole q_truths_ q_imaged_ q_namesKept_ q_areKept_), (q_s_, aC1 cy 383 q_s), (q_trial_, aC1 cy 8 g_21)] := hD
            obtain ⟨z_22, hz_22⟩ : ∃ z : Int32, z = x_2 + 1 := ⟨_, rfl⟩
            refine lv_iinc (v := z_22) (lv' := [(3, .int z_22), (0, .ref q), (1, .int d), (2, .int a)]) hx hb dX11_spins_64 hl (k := 3) rfl hz_22.symm (by decide) rfl (fun ls hl => ?_)
            have hz_22 := o_add hz_22 (rfl : x_2.toInt = x_2.toInt) (by decide : (1 : Int32).toInt = 1) (by omega) (by omega)
            refine lv_goto (tgt := 13) hx hb dX11_spins_67 (by decide) ?_
            exact ih_7 z_22 g_21 H locs ls (by omega) (by omega) hP hD hS (lv_sub hl [1, 2, 3, 0] rfl)
          refine lv_if_ne (tgt := 40) hx hb dX11_spins_29 (by decide) (fun c_23 => ?_) (fun c_23 => ?_)
          · have hc_23 := o_ne (rfl : d.toInt = d.toInt) (by decide : (0 : Int32).toInt = 0) c_23
            exact cut_40_10  H locs ls   hP hD hS (lv_sub hl [0, 1, 2, 3] rfl)
          · have hc_23 := o_eq (rfl : d.toInt = d.toInt) (by decide : (0 : Int32).toInt = 0) c_23
            refine lv_aload_n hx hb dX11_spins_32 rfl (lv_at hl 0 rfl) ?_
            refine lv_iload_n hx hb dX11_spins_33 rfl (lv_at hl 3 rfl) ?_
            refine q_ai (wr := [(q_trial_, aC1 cy 8 g_3)]) (r_V (rm := (Rm 1 21 0 0)) (q0 := 0) (As := [.int x_2]) (rest := []) (wc := [(q, oC11 q_thrown q_tape_ q_length q_size q_p q_limit q_s_ q_h_ q_read_ q_names_ q_reserved_ q_token q_at q_span q_number q_fault q_faultAt q_word q_got q_lines q_onces q_webs q_one q_two q_seed q_undone_ q_before_ q_undoMany q_far_ q_wayRow_ q_wayMany q_keptRow_ q_askedRow_ q_rares_ q_trial_ q_keptMany q_askedMany q_hangs_ q_paths_ q_tornSteps q_hasTorn q_turnOne q_hasTurn q_text_ q_textMany q_toldMany q_toldAt_ q_hasTold q_stack_ q_codes q_ones q_top q_deep q_isWhole q_truths_ q_imaged_ q_namesKept_ q_areKept_), (q_s_, aC1 cy 383 q_s)]) C hS (q_subP hP [0, 1] rfl) (hD.sub [0, 1] (by decide) rfl) (y_isAsked l D cy q x_2 q_thrown q_tape_ q_length q_size q_p q_limit q_s_ q_h_ q_read_ q_names_ q_reserved_ q_token q_at q_span q_number q_fault q_faultAt q_word q_got q_lines q_onces q_webs q_one q_two q_seed q_undone_ q_before_ q_undoMany q_far_ q_wayRow_ q_wayMany q_keptRow_ q_askedRow_ q_rares_ q_trial_ q_keptMany q_askedMany q_hangs_ q_paths_ q_tornSteps q_hasTorn q_turnOne q_hasTurn q_text_ q_textMany q_toldMany q_toldAt_ q_hasTold q_stack_ q_codes q_ones q_top q_deep q_isWhole q_truths_ q_imaged_ q_namesKept_ q_areKept_ q_s _ (by omega) (by omega) (by omega) (by omega) (by omega) (by omega) (by omega) (by omega) (by omega) (by omega) (by omega) (by omega) (by omega) (by omega) (by omega) (by omega) (by omega) (by omega) (by omega) (by omega) (by omega) (by omega) hR0 hR1 hR2 hR3 hR4 hR5 hR6 hR7 hR8) kwV_X11_isAsked kM_RX11_338 rfl rfl ⟨Nat.le_of_ble_eq_true rfl, Nat.le_of_ble_eq_true rfl⟩ rfl hl.1 rfl (Nat.le_of_ble_eq_true rfl) dX11_spins_34 ⟨hroom.1, hroom.2⟩) C.2.2.2.2.2.2.1 hP hD hS [0, 1] [2] rfl rfl (by decide) (by decide) (fun r_25 u_24 H locs hw_26 hP hD hS => ?_)
            have hp_26 : 0 ≤ r_25.toInt ∧ r_25.toInt ≤ 1 := hw_26
            clear hw_26
            refine lv_if_ne (tgt := 64) hx hb dX11_spins_37 (by decide) (fun c_28 => ?_) (fun c_28 => ?_)
            · have hc_28 := o_ne (rfl : r_25.toInt = r_25.toInt) (by decide : (0 : Int32).toInt = 0) c_28
              have hnc_28 : 0 ≤ r_25.toInt + (-1) := by rcases Int.lt_or_gt_of_ne hc_28 with h9 | h9 <;> omega
              obtain ⟨z_29, hz_29⟩ : ∃ z : Int32, z = x_2 + 1 := ⟨_, rfl⟩
              refine lv_iinc (v := z_29) (lv' := [(3, .int z_29), (0, .ref q), (1, .int d), (2, .int a)]) hx hb dX11_spins_64 hl (k := 3) rfl hz_29.symm (by decide) rfl (fun ls hl => ?_)
              have hz_29 := o_add hz_29 (rfl : x_2.toInt = x_2.toInt) (by decide : (1 : Int32).toInt = 1) (by omega) (by omega)
              refine lv_goto (tgt := 13) hx hb dX11_spins_67 (by decide) ?_
              exact ih_7 z_29 g_3 H locs ls (by omega) (by omega) (q_subP hP [1, 2, 0] rfl) (hD.sub [1, 2, 0] (by decide) rfl) hS (lv_sub hl [1, 2, 3, 0] rfl)
            · have hc_28 := o_eq (rfl : r_25.toInt = r_25.toInt) (by decide : (0 : Int32).toInt = 0) c_28
              exact cut_40_10  H locs ls   (q_subP hP [1, 2, 0] rfl) (hD.sub [1, 2, 0] (by decide) rfl) hS (lv_sub hl [0, 1, 2, 3] rfl)
    exact lp_13_3 9 (0 : Int32) q_trial H locs ls (by have e0 : (0 : Int32).toInt = 0 := (by decide); omega) (by have e0 : (0 : Int32).toInt = 0 := (by decide); omega) hP hD hS (lv_sub hl [1, 2, 3, 0] rfl)
  · have hc_1 := o_nlt (rfl : a.toInt = a.toInt) (by decide : (0 : Int32).toInt = 0) c_1
    refine lv_aload_n hx hb dX11_spins_4 rfl (lv_at hl 0 rfl) ?_
    refine q_get11 (v := .ref q_trial_) C hP 0 34 rfl fT_34 (by decide) kF_RX11_74 rfl dX11_spins_5 ?_
    refine lv_iload_n hx hb dX11_spins_8 rfl (lv_at hl 2 rfl) ?_
    refine lv_iconst (v := 0) hx hb dX11_spins_9 (by decide) ?_
    refine q_iast (g := upd q_trial a.toNatClampNeg 0) (w' := [(q, oC11 q_thrown q_tape_ q_length q_size q_p q_limit q_s_ q_h_ q_read_ q_names_ q_reserved_ q_token q_at q_span q_number q_fault q_faultAt q_word q_got q_lines q_onces q_webs q_one q_two q_seed q_undone_ q_before_ q_undoMany q_far_ q_wayRow_ q_wayMany q_keptRow_ q_askedRow_ q_rares_ q_trial_ q_keptMany q_askedMany q_hangs_ q_paths_ q_tornSteps q_hasTorn q_turnOne q_hasTurn q_text_ q_textMany q_toldMany q_toldAt_ q_hasTold q_stack_ q_codes q_ones q_top q_deep q_isWhole q_truths_ q_imaged_ q_namesKept_ q_areKept_), (q_s_, aC1 cy 383 q_s), (q_trial_, aC1 cy 8 (upd q_trial a.toNatClampNeg 0))]) C hP hD hS 2 rfl (o_in (rfl : a.toInt = a.toInt) (by omega) (by omega)) rfl rfl dX11_spins_10 (fun H locs hP hD hS => ?_)
    generalize upd q_trial a.toNatClampNeg 0 = g_30 at hP hD 
    have hP : va_P D vwCl [(q, oC11 q_thrown q_tape_ q_length q_size q_p q_limit q_s_ q_h_ q_read_ q_names_ q_reserved_ q_token q_at q_span q_number q_fault q_faultAt q_word q_got q_lines q_onces q_webs q_one q_two q_seed q_undone_ q_before_ q_undoMany q_far_ q_wayRow_ q_wayMany q_keptRow_ q_askedRow_ q_rares_ q_trial_ q_keptMany q_askedMany q_hangs_ q_paths_ q_tornSteps q_hasTorn q_turnOne q_hasTurn q_text_ q_textMany q_toldMany q_toldAt_ q_hasTold q_stack_ q_codes q_ones q_top q_deep q_isWhole q_truths_ q_imaged_ q_namesKept_ q_areKept_), (q_s_, aC1 cy 383 q_s), (q_trial_, aC1 cy 8 g_30)] H := hP
    have hD : va_D A [(q, oC11 q_thrown q_tape_ q_length q_size q_p q_limit q_s_ q_h_ q_read_ q_names_ q_reserved_ q_token q_at q_span q_number q_fault q_faultAt q_word q_got q_lines q_onces q_webs q_one q_two q_seed q_undone_ q_before_ q_undoMany q_far_ q_wayRow_ q_wayMany q_keptRow_ q_askedRow_ q_rares_ q_trial_ q_keptMany q_askedMany q_hangs_ q_paths_ q_tornSteps q_hasTorn q_turnOne q_hasTurn q_text_ q_textMany q_toldMany q_toldAt_ q_hasTold q_stack_ q_codes q_ones q_top q_deep q_isWhole q_truths_ q_imaged_ q_namesKept_ q_areKept_), (q_s_, aC1 cy 383 q_s), (q_trial_, aC1 cy 8 g_30)] := hD
    refine lv_iconst (v := 0) hx hb dX11_spins_11 (by decide) ?_
    refine lv_istore_n (lv' := [(3, .int 0), (0, .ref q), (1, .int d), (2, .int a)]) hx hb dX11_spins_12 rfl hl (by decide) rfl (fun ls hl => ?_)
    have lp_13_32 : ∀ (n_33 : Nat) (x_31 : Int32) (g_32 : Nat → Int32) (H : Heap) (locs : List Loc) (ls : Array Slot), (-1) * x_31.toInt + 8 < (n_33 : Int) → (0 ≤ x_31.toInt ∧ x_31.toInt ≤ 8) → va_P D vwCl [(q, oC11 q_thrown q_tape_ q_length q_size q_p q_limit q_s_ q_h_ q_read_ q_names_ q_reserved_ q_token q_at q_span q_number q_fault q_faultAt q_word q_got q_lines q_onces q_webs q_one q_two q_seed q_undone_ q_before_ q_undoMany q_far_ q_wayRow_ q_wayMany q_keptRow_ q_askedRow_ q_rares_ q_trial_ q_keptMany q_askedMany q_hangs_ q_paths_ q_tornSteps q_hasTorn q_turnOne q_hasTurn q_text_ q_textMany q_toldMany q_toldAt_ q_hasTold q_stack_ q_codes q_ones q_top q_deep q_isWhole q_truths_ q_imaged_ q_namesKept_ q_areKept_), (q_s_, aC1 cy 383 q_s), (q_trial_, aC1 cy 8 g_32)] H → va_D A [(q, oC11 q_thrown q_tape_ q_length q_size q_p q_limit q_s_ q_h_ q_read_ q_names_ q_reserved_ q_token q_at q_span q_number q_fault q_faultAt q_word q_got q_lines q_onces q_webs q_one q_two q_seed q_undone_ q_before_ q_undoMany q_far_ q_wayRow_ q_wayMany q_keptRow_ q_askedRow_ q_rares_ q_trial_ q_keptMany q_askedMany q_hangs_ q_paths_ q_tornSteps q_hasTorn q_turnOne q_hasTurn q_text_ q_textMany q_toldMany q_toldAt_ q_hasTold q_stack_ q_codes q_ones q_top q_deep q_isWhole q_truths_ q_imaged_ q_namesKept_ q_areKept_), (q_s_, aC1 cy 383 q_s), (q_trial_, aC1 cy 8 g_32)] → va_S A s.heap H locs → lv_has ls 4 [(0, .ref q), (1, .int d), (2, .int a), (3, .int x_31)] → W p l e (Rm 2 42 0 0) s m args below meth c H locs cells slots Q (F0 m 13 ls []) := by
      intro n_33
      induction n_33 with
      | zero =>
        intro x_31 g_32 H locs ls hm_35 hf_34 hP hD hS hl
        exact absurd hm_35 (by omega)
      | succ n_33 ih_36 =>
        intro x_31 g_32 H locs ls hm_35 hf_34 hP hD hS hl
        refine lv_iload_n hx hb dX11_spins_13 rfl (lv_at hl 3 rfl) ?_
        refine lv_aload_n hx hb dX11_spins_14 rfl (lv_at hl 0 rfl) ?_
        refine q_get11 (v := .ref q_s_) C hP 0 6 rfl fT_6 (by decide) kF_RX11_33 rfl dX11_spins_15 ?_
        refine lv_iconst (v := 0) hx hb dX11_spins_18 (by decide) ?_
        refine q_iald (v := q_s 0) C hP 1 rfl (vin (by decide +kernel)) rfl dX11_spins_19 ?_
        refine lv_topi (fun z_38 ez_38 => ?_)
        have hz_38 : 0 ≤ z_38.toInt ∧ z_38.toInt ≤ 8 := (by rw [ez_38]; exact hR0 0 (by decide) (by decide))
        refine lv_icmp_ge (tgt := 70) hx hb dX11_spins_20 (by decide) (fun c_39 => ?_) (fun c_39 => ?_)
        · have hc_39 := o_le (rfl : z_38.toInt = z_38.toInt) (rfl : x_31.toInt = x_31.toInt) c_39
          refine o_wq hQ ?_
          exact q_vret (rm := (Rm 2 42 0 0)) C hS g_32 trivial (q_subP hP [0, 1, 2] rfl) (hD.sub [0, 1, 2] (by decide) rfl) hroom.1 hroom.2 dX11_spins_70
        · have hc_39 := o_nle (rfl : z_38.toInt = z_38.toInt) (rfl : x_31.toInt = x_31.toInt) c_39
          refine lv_iload_n hx hb dX11_spins_23 rfl (lv_at hl 3 rfl) ?_
          refine lv_iload_n hx hb dX11_spins_24 rfl (lv_at hl 2 rfl) ?_
          refine lv_icmp_eq (tgt := 64) hx hb dX11_spins_25 (by decide) (fun c_40 => ?_) (fun c_40 => ?_)
          · have hc_40 := o_eq (rfl : x_31.toInt = x_31.toInt) (rfl : a.toInt = a.toInt) c_40
            obtain ⟨z_41, hz_41⟩ : ∃ z : Int32, z = x_31 + 1 := ⟨_, rfl⟩
            refine lv_iinc (v := z_41) (lv' := [(3, .int z_41), (0, .ref q), (1, .int d), (2, .int a)]) hx hb dX11_spins_64 hl (k := 3) rfl hz_41.symm (by decide) rfl (fun ls hl => ?_)
            have hz_41 := o_add hz_41 (rfl : x_31.toInt = x_31.toInt) (by decide : (1 : Int32).toInt = 1) (by omega) (by omega)
            refine lv_goto (tgt := 13) hx hb dX11_spins_67 (by decide) ?_
            exact ih_36 z_41 g_32 H locs ls (by omega) (by omega) hP hD hS (lv_sub hl [1, 2, 3, 0] rfl)
          · have hc_40 := o_ne (rfl : x_31.toInt = x_31.toInt) (rfl : a.toInt = a.toInt) c_40
            refine lv_iload_n hx hb dX11_spins_28 rfl (lv_at hl 1 rfl) ?_
            have cut_40_41 : ∀  (H : Heap) (locs : List Loc) (ls : Array Slot), va_P D vwCl [(q, oC11 q_thrown q_tape_ q_length q_size q_p q_limit q_s_ q_h_ q_read_ q_names_ q_reserved_ q_token q_at q_span q_number q_fault q_faultAt q_word q_got q_lines q_onces q_webs q_one q_two q_seed q_undone_ q_before_ q_undoMany q_far_ q_wayRow_ q_wayMany q_keptRow_ q_askedRow_ q_rares_ q_trial_ q_keptMany q_askedMany q_hangs_ q_paths_ q_tornSteps q_hasTorn q_turnOne q_hasTurn q_text_ q_textMany q_toldMany q_toldAt_ q_hasTold q_stack_ q_codes q_ones q_top q_deep q_isWhole q_truths_ q_imaged_ q_namesKept_ q_areKept_), (q_s_, aC1 cy 383 q_s), (q_trial_, aC1 cy 8 g_32)] H → va_D A [(q, oC11 q_thrown q_tape_ q_length q_size q_p q_limit q_s_ q_h_ q_read_ q_names_ q_reserved_ q_token q_at q_span q_number q_fault q_faultAt q_word q_got q_lines q_onces q_webs q_one q_two q_seed q_undone_ q_before_ q_undoMany q_far_ q_wayRow_ q_wayMany q_keptRow_ q_askedRow_ q_rares_ q_trial_ q_keptMany q_askedMany q_hangs_ q_paths_ q_tornSteps q_hasTorn q_turnOne q_hasTurn q_text_ q_textMany q_toldMany q_toldAt_ q_hasTold q_stack_ q_codes q_ones q_top q_deep q_isWhole q_truths_ q_imaged_ q_namesKept_ q_areKept_), (q_s_, aC1 cy 383 q_s), (q_trial_, aC1 cy 8 g_32)] → va_S A s.heap H locs → lv_has ls 4 [(0, .ref q), (1, .int d), (2, .int a), (3, .int x_31)] → W p l e (Rm 2 42 0 0) s m args below meth c H locs cells slots Q (F0 m 40 ls []) := by
              intro  H locs ls  hP hD hS hl
              refine lv_aload_n hx hb dX11_spins_40 rfl (lv_at hl 0 rfl) ?_
              refine q_get11 (v := .ref q_trial_) C hP 0 34 rfl fT_34 (by decide) kF_RX11_74 rfl dX11_spins_41 ?_
              refine lv_iload_n hx hb dX11_spins_44 rfl (lv_at hl 3 rfl) ?_
              refine lv_bipush (v := 99) hx hb dX11_spins_45 (by decide) ?_
              refine lv_aload_n hx hb dX11_spins_47 rfl (lv_at hl 0 rfl) ?_
              refine q_get11 (v := .ref q_trial_) C hP 0 34 rfl fT_34 (by decide) kF_RX11_74 rfl dX11_spins_48 ?_
              refine lv_iload_n hx hb dX11_spins_51 rfl (lv_at hl 3 rfl) ?_
              refine q_iald (v := g_32 x_31.toNatClampNeg) C hP 2 rfl (o_in (rfl : x_31.toInt = x_31.toInt) (by omega) (by omega)) rfl dX11_spins_52 ?_
              refine lv_topi (fun z_43 ez_43 => ?_)
              refine lv_aload_n hx hb dX11_spins_53 rfl (lv_at hl 0 rfl) ?_
              refine q_get11 (v := .ref q_s_) C hP 0 6 rfl fT_6 (by decide) kF_RX11_33 rfl dX11_spins_54 ?_
              refine lv_iconst (v := 4) hx hb dX11_spins_57 (by decide) ?_
              refine q_iald (v := q_s 4) C hP 1 rfl (vin (by decide +kernel)) rfl dX11_spins_58 ?_
              refine lv_topi (fun z_44 ez_44 => ?_)
              have hz_44 : 1 ≤ z_44.toInt ∧ z_44.toInt ≤ 5 := (by rw [ez_44]; exact hR3 4 (by decide) (by decide))
              refine lv_iadd hx hb dX11_spins_59 ?_
              refine lv_topi (fun z_45 hz_45 => ?_)
              clear hz_45
              refine q_ai (wr := [(q, oC11 q_thrown q_tape_ q_length q_size q_p q_limit q_s_ q_h_ q_read_ q_names_ q_reserved_ q_token q_at q_span q_number q_fault q_faultAt q_word q_got q_lines q_onces q_webs q_one q_two q_seed q_undone_ q_before_ q_undoMany q_far_ q_wayRow_ q_wayMany q_keptRow_ q_askedRow_ q_rares_ q_trial_ q_keptMany q_askedMany q_hangs_ q_paths_ q_tornSteps q_hasTorn q_turnOne q_hasTurn q_text_ q_textMany q_toldMany q_toldAt_ q_hasTold q_stack_ q_codes q_ones q_top q_deep q_isWhole q_truths_ q_imaged_ q_namesKept_ q_areKept_), (q_s_, aC1 cy 383 q_s), (q_trial_, aC1 cy 8 g_32)]) (r_S (rm := (Rm 0 0 0 0)) (As := [.int 99, .int z_45]) (rest := [.int x_31, .ref q_trial_]) (wc := []) C hS (q_subP hP [] rfl) (hD.sub [] (by decide) rfl) (y_lesser l D cy 99 z_45 _ ) kwS_X11_lesser kM_RX11_294 ⟨Nat.le_of_ble_eq_true rfl, Nat.le_of_ble_eq_true rfl⟩ rfl hl.1 rfl (Nat.le_of_ble_eq_true rfl) dX11_spins_60 ⟨hroom.1, hroom.2⟩) C.2.2.2.2.2.2.1 hP hD hS [] [0, 1, 2] rfl rfl (by decide) (by decide) (fun r_47 u_46 H locs hw_48 hP hD hS => ?_)
              have hp_48 : 0 ≤ (-1) * r_47.toInt + 99 ∧ 0 ≤ z_45.toInt + (-1) * r_47.toInt := by have e0 : (99 : Int32).toInt = 99 := (by decide); have h0 : 0 ≤ (99 : Int32).toInt + (-1) * r_47.toInt ∧ 0 ≤ z_45.toInt + (-1) * r_47.toInt := hw_48.1; omega
              have hp_49 : Hd ((r_47.toInt = (99 : Int32).toInt ∧ (99 : Int32).toInt ≤ z_45.toInt) ∨ (r_47.toInt = z_45.toInt ∧ z_45.toInt ≤ (99 : Int32).toInt)) := hw_48.2.1
              have hp_50 : (0 ≤ 99 ∧ 0 ≤ z_45.toInt) → (0 ≤ r_47.toInt) := by have e0 : (99 : Int32).toInt = 99 := (by decide); have h0 : (0 ≤ (99 : Int32).toInt ∧ 0 ≤ z_45.toInt) → (0 ≤ r_47.toInt) := hw_48.2.2; omega
              clear hw_48
              refine q_iast (g := upd g_32 x_31.toNatClampNeg r_47) (w' := [(q, oC11 q_thrown q_tape_ q_length q_size q_p q_limit q_s_ q_h_ q_read_ q_names_ q_reserved_ q_token q_at q_span q_number q_fault q_faultAt q_word q_got q_lines q_onces q_webs q_one q_two q_seed q_undone_ q_before_ q_undoMany q_far_ q_wayRow_ q_wayMany q_keptRow_ q_askedRow_ q_rares_ q_trial_ q_keptMany q_askedMany q_hangs_ q_paths_ q_tornSteps q_hasTorn q_turnOne q_hasTurn q_text_ q_textMany q_toldMany q_toldAt_ q_hasTold q_stack_ q_codes q_ones q_top q_deep q_isWhole q_truths_ q_imaged_ q_namesKept_ q_areKept_), (q_s_, aC1 cy 383 q_s), (q_trial_, aC1 cy 8 (upd g_32 x_31.toNatClampNeg r_47))]) C hP hD hS 2 rfl (o_in (rfl : x_31.toInt = x_31.toInt) (by omega) (by omega)) rfl rfl dX11_spins_63 (fun H locs hP hD hS => ?_)
              generalize upd g_32 x_31.toNatClampNeg r_47 = g_52 at hP hD 
              have hP : va_P D vwCl [(q, oC11 q_thrown q_tape_ q_length q_size q_p q_limit q_s_ q_h_ q_read_ q_names_ q_reserved_ q_token q_at q_span q_number q_fault q_faultAt q_word q_got q_lines q_onces q_webs q_one q_two q_seed q_undone_ q_before_ q_undoMany q_far_ q_wayRow_ q_wayMany q_keptRow_ q_askedRow_ q_rares_ q_trial_ q_keptMany q_askedMany q_hangs_ q_paths_ q_tornSteps q_hasTorn q_turnOne q_hasTurn q_text_ q_textMany q_toldMany q_toldAt_ q_hasTold q_stack_ q_codes q_ones q_top q_deep q_isWhole q_truths_ q_imaged_ q_namesKept_ q_areKept_), (q_s_, aC1 cy 383 q_s), (q_trial_, aC1 cy 8 g_52)] H := hP
              have hD : va_D A [(q, oC11 q_thrown q_tape_ q_length q_size q_p q_limit q_s_ q_h_ q_read_ q_names_ q_reserved_ q_token q_at q_span q_number q_fault q_faultAt q_word q_got q_lines q_onces q_webs q_one q_two q_seed q_undone_ q_before_ q_undoMany q_far_ q_wayRow_ q_wayMany q_keptRow_ q_askedRow_ q_rares_ q_trial_ q_keptMany q_askedMany q_hangs_ q_paths_ q_tornSteps q_hasTorn q_turnOne q_hasTurn q_text_ q_textMany q_toldMany q_toldAt_ q_hasTold q_stack_ q_codes q_ones q_top q_deep q_isWhole q_truths_ q_imaged_ q_namesKept_ q_areKept_), (q_s_, aC1 cy 383 q_s), (q_trial_, aC1 cy 8 g_52)] := hD
              obtain ⟨z_53, hz_53⟩ : ∃ z : Int32, z = x_31 + 1 := ⟨_, rfl⟩
              refine lv_iinc (v := z_53) (lv' := [(3, .int z_53), (0, .ref q), (1, .int d), (2, .int a)]) hx hb dX11_spins_64 hl (k := 3) rfl hz_53.symm (by decide) rfl (fun ls hl => ?_)
              have hz_53 := o_add hz_53 (rfl : x_31.toInt = x_31.toInt) (by decide : (1 : Int32).toInt = 1) (by omega) (by omega)
              refine lv_goto (tgt := 13) hx hb dX11_spins_67 (by decide) ?_
              exact ih_36 z_53 g_52 H locs ls (by omega) (by omega) hP hD hS (lv_sub hl [1, 2, 3, 0] rfl)
            refine lv_if_ne (tgt := 40) hx hb dX11_spins_29 (by decide) (fun c_54 => ?_) (fun c_54 => ?_)
            · have hc_54 := o_ne (rfl : d.toInt = d.toInt) (by decide : (0 : Int32).toInt = 0) c_54
              exact cut_40_41  H locs ls   hP hD hS (lv_sub hl [0, 1, 2, 3] rfl)
            · have hc_54 := o_eq (rfl : d.toInt = d.toInt) (by decide : (0 : Int32).toInt = 0) c_54
              refine lv_aload_n hx hb dX11_spins_32 rfl (lv_at hl 0 rfl) ?_
              refine lv_iload_n hx hb dX11_spins_33 rfl (lv_at hl 3 rfl) ?_
              refine q_ai (wr := [(q_trial_, aC1 cy 8 g_32)]) (r_V (rm := (Rm 1 21 0 0)) (q0 := 0) (As := [.int x_31]) (rest := []) (wc := [(q, oC11 q_thrown q_tape_ q_length q_size q_p q_limit q_s_ q_h_ q_read_ q_names_ q_reserved_ q_token q_at q_span q_number q_fault q_faultAt q_word q_got q_lines q_onces q_webs q_one q_two q_seed q_undone_ q_before_ q_undoMany q_far_ q_wayRow_ q_wayMany q_keptRow_ q_askedRow_ q_rares_ q_trial_ q_keptMany q_askedMany q_hangs_ q_paths_ q_tornSteps q_hasTorn q_turnOne q_hasTurn q_text_ q_textMany q_toldMany q_toldAt_ q_hasTold q_stack_ q_codes q_ones q_top q_deep q_isWhole q_truths_ q_imaged_ q_namesKept_ q_areKept_), (q_s_, aC1 cy 383 q_s)]) C hS (q_subP hP [0, 1] rfl) (hD.sub [0, 1] (by decide) rfl) (y_isAsked l D cy q x_31 q_thrown q_tape_ q_length q_size q_p q_limit q_s_ q_h_ q_read_ q_names_ q_reserved_ q_token q_at q_span q_number q_fault q_faultAt q_word q_got q_lines q_onces q_webs q_one q_two q_seed q_undone_ q_before_ q_undoMany q_far_ q_wayRow_ q_wayMany q_keptRow_ q_askedRow_ q_rares_ q_trial_ q_keptMany q_askedMany q_hangs_ q_paths_ q_tornSteps q_hasTorn q_turnOne q_hasTurn q_text_ q_textMany q_toldMany q_toldAt_ q_hasTold q_stack_ q_codes q_ones q_top q_deep q_isWhole q_truths_ q_imaged_ q_namesKept_ q_areKept_ q_s _ (by omega) (by omega) (by omega) (by omega) (by omega) (by omega) (by omega) (by omega) (by omega) (by omega) (by omega) (by omega) (by omega) (by omega) (by omega) (by omega) (by omega) (by omega) (by omega) (by omega) (by omega) (by omega) hR0 hR1 hR2 hR3 hR4 hR5 hR6 hR7 hR8) kwV_X11_isAsked kM_RX11_338 rfl rfl ⟨Nat.le_of_ble_eq_true rfl, Nat.le_of_ble_eq_true rfl⟩ rfl hl.1 rfl (Nat.le_of_ble_eq_true rfl) dX11_spins_34 ⟨hroom.1, hroom.2⟩) C.2.2.2.2.2.2.1 hP hD hS [0, 1] [2] rfl rfl (by decide) (by decide) (fun r_56 u_55 H locs hw_57 hP hD hS => ?_)
              have hp_57 : 0 ≤ r_56.toInt ∧ r_56.toInt ≤ 1 := hw_57
              clear hw_57
              refine lv_if_ne (tgt := 64) hx hb dX11_spins_37 (by decide) (fun c_59 => ?_) (fun c_59 => ?_)
              · have hc_59 := o_ne (rfl : r_56.toInt = r_56.toInt) (by decide : (0 : Int32).toInt = 0) c_59
                have hnc_59 : 0 ≤ r_56.toInt + (-1) := by rcases Int.lt_or_gt_of_ne hc_59 with h9 | h9 <;> omega
                obtain ⟨z_60, hz_60⟩ : ∃ z : Int32, z = x_31 + 1 := ⟨_, rfl⟩
                refine lv_iinc (v := z_60) (lv' := [(3, .int z_60), (0, .ref q), (1, .int d), (2, .int a)]) hx hb dX11_spins_64 hl (k := 3) rfl hz_60.symm (by decide) rfl (fun ls hl => ?_)
                have hz_60 := o_add hz_60 (rfl : x_31.toInt = x_31.toInt) (by decide : (1 : Int32).toInt = 1) (by omega) (by omega)
                refine lv_goto (tgt := 13) hx hb dX11_spins_67 (by decide) ?_
                exact ih_36 z_60 g_32 H locs ls (by omega) (by omega) (q_subP hP [1, 2, 0] rfl) (hD.sub [1, 2, 0] (by decide) rfl) hS (lv_sub hl [1, 2, 3, 0] rfl)
              · have hc_59 := o_eq (rfl : r_56.toInt = r_56.toInt) (by decide : (0 : Int32).toInt = 0) c_59
                exact cut_40_41  H locs ls   (q_subP hP [1, 2, 0] rfl) (hD.sub [1, 2, 0] (by decide) rfl) hS (lv_sub hl [0, 1, 2, 3] rfl)
    exact lp_13_32 9 (0 : Int32) g_30 H locs ls (by have e0 : (0 : Int32).toInt = 0 := (by decide); omega) (by have e0 : (0 : Int32).toInt = 0 := (by decide); omega) hP hD hS (lv_sub hl [1, 2, 3, 0] rfl)
theorem y_spins (l : Launch) (D : va_G) (cy : Nat → ClassId) (q : Nat) (d : Int32) (a : Int32) (q_thrown : Int32) (q_tape_ : Nat) (q_length : Int32) (q_size : Int32) (q_p : Int32) (q_limit : Int32) (q_s_ : Nat) (q_h_ : Nat) (q_read_ : Nat) (q_names_ : Nat) (q_reserved_ : Nat) (q_token : Int32) (q_at : Int32) (q_span : Int32) (q_number : Int32) (q_fault : Int32) (q_faultAt : Int32) (q_word : Int64) (q_got : Int32) (q_lines : Int32) (q_onces : Int32) (q_webs : Int32) (q_one : Int32) (q_two : Int32) (q_seed : Int32) (q_undone_ : Nat) (q_before_ : Nat) (q_undoMany : Int32) (q_far_ : Nat) (q_wayRow_ : Nat) (q_wayMany : Int32) (q_keptRow_ : Nat) (q_askedRow_ : Nat) (q_rares_ : Nat) (q_trial_ : Nat) (q_keptMany : Int32) (q_askedMany : Int32) (q_hangs_ : Nat) (q_paths_ : Nat) (q_tornSteps : Int32) (q_hasTorn : Int32) (q_turnOne : Int32) (q_hasTurn : Int32) (q_text_ : Nat) (q_textMany : Int32) (q_toldMany : Int32) (q_toldAt_ : Nat) (q_hasTold : Int32) (q_stack_ : Nat) (q_codes : Int32) (q_ones : Int32) (q_top : Int32) (q_deep : Int32) (q_isWhole : Int32) (q_truths_ : Nat) (q_imaged_ : Nat) (q_namesKept_ : Nat) (q_areKept_ : Nat) (q_s : Nat → Int32) (q_trial : Nat → Int32) (sz : Nat) (hb0 : 0 ≤ q_length.toInt ∧ q_length.toInt ≤ 940) (hb1 : 0 ≤ q_size.toInt ∧ q_size.toInt ≤ 940) (hb2 : 0 ≤ q_p.toInt ∧ q_p.toInt ≤ 940) (hb3 : 0 ≤ q_limit.toInt ∧ q_limit.toInt ≤ 940) (hb4 : 0 ≤ q_span.toInt ∧ q_span.toInt ≤ 940) (hb5 : 0 ≤ q_number.toInt ∧ q_number.toInt ≤ 8214) (hb6 : (-1) ≤ q_got.toInt ∧ q_got.toInt ≤ 8214) (hb7 : 0 ≤ q_one.toInt ∧ q_one.toInt ≤ 7) (hb8 : 0 ≤ q_two.toInt ∧ q_two.toInt ≤ 7) (hb9 : 0 ≤ q_undoMany.toInt ∧ q_undoMany.toInt ≤ 8) (hb10 : (-1) ≤ q_wayMany.toInt ∧ q_wayMany.toInt ≤ 8) (hb11 : (-1) ≤ q_keptMany.toInt ∧ q_keptMany.toInt ≤ 8) (hb12 : (-1) ≤ q_askedMany.toInt ∧ q_askedMany.toInt ≤ 3) (hb13 : 0 ≤ q_hasTorn.toInt ∧ q_hasTorn.toInt ≤ 1) (hb14 : 0 ≤ q_hasTurn.toInt ∧ q_hasTurn.toInt ≤ 1) (hb15 : 0 ≤ q_textMany.toInt ∧ q_textMany.toInt ≤ 48) (hb16 : 0 ≤ q_toldMany.toInt ∧ q_toldMany.toInt ≤ 40) (hb17 : 0 ≤ q_hasTold.toInt ∧ q_hasTold.toInt ≤ 1) (hb18 : 0 ≤ q_codes.toInt ∧ q_codes.toInt ≤ 40) (hb19 : 0 ≤ q_ones.toInt ∧ q_ones.toInt ≤ 20) (hb20 : 0 ≤ q_top.toInt ∧ q_top.toInt ≤ 40) (hb21 : 0 ≤ q_isWhole.toInt ∧ q_isWhole.toInt ≤ 1) (hb22 : a.toInt ≤ 7) (hR0 : Rg q_s 0 1 0 8) (hR1 : Rg q_s 1 3 0 6) (hR2 : Rg q_s 3 4 1 50) (hR3 : Rg q_s 4 5 1 5) (hR4 : Rg q_s 103 104 0 255) (hR5 : Rg q_s 7 23 0 5) (hR6 : Rg q_s 106 122 0 5) (hR7 : Rg q_s 23 31 0 99) (hR8 : Rg q_s 122 130 0 99) : MV l yX11_spins cX11_spins 4 (Rm 2 42 0 0) D cy [.ref q, .int d, .int a] sz [(q, oC11 q_thrown q_tape_ q_length q_size q_p q_limit q_s_ q_h_ q_read_ q_names_ q_reserved_ q_token q_at q_span q_number q_fault q_faultAt q_word q_got q_lines q_onces q_webs q_one q_two q_seed q_undone_ q_before_ q_undoMany q_far_ q_wayRow_ q_wayMany q_keptRow_ q_askedRow_ q_rares_ q_trial_ q_keptMany q_askedMany q_hangs_ q_paths_ q_tornSteps q_hasTorn q_turnOne q_hasTurn q_text_ q_textMany q_toldMany q_toldAt_ q_hasTold q_stack_ q_codes q_ones q_top q_deep q_isWhole q_truths_ q_imaged_ q_namesKept_ q_areKept_), (q_s_, aC1 cy 383 q_s), (q_trial_, aC1 cy 8 q_trial)] (fun u : (Nat → Int32) => True) (fun u : (Nat → Int32) => [(q, oC11 q_thrown q_tape_ q_length q_size q_p q_limit q_s_ q_h_ q_read_ q_names_ q_reserved_ q_token q_at q_span q_number q_fault q_faultAt q_word q_got q_lines q_onces q_webs q_one q_two q_seed q_undone_ q_before_ q_undoMany q_far_ q_wayRow_ q_wayMany q_keptRow_ q_askedRow_ q_rares_ q_trial_ q_keptMany q_askedMany q_hangs_ q_paths_ q_tornSteps q_hasTorn q_turnOne q_hasTurn q_text_ q_textMany q_toldMany q_toldAt_ q_hasTold q_stack_ q_codes q_ones q_top q_deep q_isWhole q_truths_ q_imaged_ q_namesKept_ q_areKept_), (q_s_, aC1 cy 383 q_s), (q_trial_, aC1 cy 8 u)]) := by
  refine MV.enter (by decide) (Nat.le_of_ble_eq_true rfl) ?_
  intro p e s m below meth c ls A hsz hAe C hP hD hS hl
  exact b_y_spins l D cy q d a q_thrown q_tape_ q_length q_size q_p q_limit q_s_ q_h_ q_read_ q_names_ q_reserved_ q_token q_at q_span q_number q_fault q_faultAt q_word q_got q_lines q_onces q_webs q_one q_two q_seed q_undone_ q_before_ q_undoMany q_far_ q_wayRow_ q_wayMany q_keptRow_ q_askedRow_ q_rares_ q_trial_ q_keptMany q_askedMany q_hangs_ q_paths_ q_tornSteps q_hasTorn q_turnOne q_hasTurn q_text_ q_textMany q_toldMany q_toldAt_ q_hasTold q_stack_ q_codes q_ones q_top q_deep q_isWhole q_truths_ q_imaged_ q_namesKept_ q_areKept_ q_s q_trial hb0 hb1 hb2 hb3 hb4 hb5 hb6 hb7 hb8 hb9 hb10 hb11 hb12 hb13 hb14 hb15 hb16 hb17 hb18 hb19 hb20 hb21 hb22 hR0 hR1 hR2 hR3 hR4 hR5 hR6 hR7 hR8 ⟨Nat.le_of_ble_eq_true rfl, Nat.le_of_ble_eq_true rfl⟩ C rfl _ _ ls hP hD hS hl
set_option maxHeartbeats 4000000 in
set_option maxRecDepth 100000 in
theorem b_y_beginsTrial (l : Launch) (D : va_G) (cy : Nat → ClassId) (q : Nat) (q_thrown : Int32) (q_tape_ : Nat) (q_length : Int32) (q_size : Int32) (q_p : Int32) (q_limit : Int32) (q_s_ : Nat) (q_h_ : Nat) (q_read_ : Nat) (q_names_ : Nat) (q_reserved_ : Nat) (q_token : Int32) (q_at : Int32) (q_span : Int32) (q_number : Int32) (q_fault : Int32) (q_faultAt : Int32) (q_word : Int64) (q_got : Int32) (q_lines : Int32) (q_onces : Int32) (q_webs : Int32) (q_one : Int32) (q_two : Int32) (q_seed : Int32) (q_undone_ : Nat) (q_before_ : Nat) (q_undoMany : Int32) (q_far_ : Nat) (q_wayRow_ : Nat) (q_wayMany : Int32) (q_keptRow_ : Nat) (q_askedRow_ : Nat) (q_rares_ : Nat) (q_trial_ : Nat) (q_keptMany : Int32) (q_askedMany : Int32) (q_hangs_ : Nat) (q_paths_ : Nat) (q_tornSteps : Int32) (q_hasTorn : Int32) (q_turnOne : Int32) (q_hasTurn : Int32) (q_text_ : Nat) (q_textMany : Int32) (q_toldMany : Int32) (q_toldAt_ : Nat) (q_hasTold : Int32) (q_stack_ : Nat) (q_codes : Int32) (q_ones : Int32) (q_top : Int32) (q_deep : Int32) (q_isWhole : Int32) (q_truths_ : Nat) (q_imaged_ : Nat) (q_namesKept_ : Nat) (q_areKept_ : Nat) (q_s : Nat → Int32) (q_trial : Nat → Int32) (hb0 : 0 ≤ q_length.toInt ∧ q_length.toInt ≤ 940) (hb1 : 0 ≤ q_size.toInt ∧ q_size.toInt ≤ 940) (hb2 : 0 ≤ q_p.toInt ∧ q_p.toInt ≤ 940) (hb3 : 0 ≤ q_limit.toInt ∧ q_limit.toInt ≤ 940) (hb4 : 0 ≤ q_span.toInt ∧ q_span.toInt ≤ 940) (hb5 : 0 ≤ q_number.toInt ∧ q_number.toInt ≤ 8214) (hb6 : (-1) ≤ q_got.toInt ∧ q_got.toInt ≤ 8214) (hb7 : 0 ≤ q_one.toInt ∧ q_one.toInt ≤ 7) (hb8 : 0 ≤ q_two.toInt ∧ q_two.toInt ≤ 7) (hb9 : 0 ≤ q_undoMany.toInt ∧ q_undoMany.toInt ≤ 8) (hb10 : (-1) ≤ q_wayMany.toInt ∧ q_wayMany.toInt ≤ 8) (hb11 : (-1) ≤ q_keptMany.toInt ∧ q_keptMany.toInt ≤ 8) (hb12 : (-1) ≤ q_askedMany.toInt ∧ q_askedMany.toInt ≤ 3) (hb13 : 0 ≤ q_hasTorn.toInt ∧ q_hasTorn.toInt ≤ 1) (hb14 : 0 ≤ q_hasTurn.toInt ∧ q_hasTurn.toInt ≤ 1) (hb15 : 0 ≤ q_textMany.toInt ∧ q_textMany.toInt ≤ 48) (hb16 : 0 ≤ q_toldMany.toInt ∧ q_toldMany.toInt ≤ 40) (hb17 : 0 ≤ q_hasTold.toInt ∧ q_hasTold.toInt ≤ 1) (hb18 : 0 ≤ q_codes.toInt ∧ q_codes.toInt ≤ 40) (hb19 : 0 ≤ q_ones.toInt ∧ q_ones.toInt ≤ 20) (hb20 : 0 ≤ q_top.toInt ∧ q_top.toInt ≤ 40) (hb21 : 0 ≤ q_isWhole.toInt ∧ q_isWhole.toInt ≤ 1) (hR0 : Rg q_s 0 1 0 8) (hR1 : Rg q_s 1 3 0 6) (hR2 : Rg q_s 3 4 1 50) (hR3 : Rg q_s 4 5 1 5) (hR4 : Rg q_s 103 104 0 255) (hR5 : Rg q_s 7 23 0 5) (hR6 : Rg q_s 106 122 0 5) (hR7 : Rg q_s 23 31 0 99) (hR8 : Rg q_s 122 130 0 99) {p : Program} {e : Env} {s : State} {m : MethodId} {args : Array Value} {below : List Frame} {meth : Method} {c : Code} {A : Nat → Prop} {Q : State → Prop} {cells slots : Nat} (hroom : cells ≤ ((Rm 0 0 0 0)).cells ∧ slots ≤ ((Rm 0 0 0 0)).slots) (C : Cx p s m args meth c cX11_beginsTrial 2 none RX11 "beginsTrial" D cy A) (hQ : Q = MQ below (va_Qv (fun u : (Nat → Int32) => True) (Bx D A (fun u : (Nat → Int32) => [(q, oC11 q_thrown q_tape_ q_length q_size q_p q_limit q_s_ q_h_ q_read_ q_names_ q_reserved_ q_token q_at q_span q_number q_fault q_faultAt q_word q_got q_lines q_onces q_webs q_one q_two q_seed q_undone_ q_before_ q_undoMany q_far_ q_wayRow_ q_wayMany q_keptRow_ q_askedRow_ q_rares_ q_trial_ q_keptMany q_askedMany q_hangs_ q_paths_ q_tornSteps q_hasTorn q_turnOne q_hasTurn q_text_ q_textMany q_toldMany q_toldAt_ q_hasTold q_stack_ q_codes q_ones q_top q_deep q_isWhole q_truths_ q_imaged_ q_namesKept_ q_areKept_), (q_s_, aC1 cy 383 q_s), (q_trial_, aC1 cy 8 u)])) A) args s ((Rm 0 0 0 0)).cells ((Rm 0 0 0 0)).slots A) (H : Heap) (locs : List Loc) (ls : Array Slot) (hP : va_P D vwCl [(q, oC11 q_thrown q_tape_ q_length q_size q_p q_limit q_s_ q_h_ q_read_ q_names_ q_reserved_ q_token q_at q_span q_number q_fault q_faultAt q_word q_got q_lines q_onces q_webs q_one q_two q_seed q_undone_ q_before_ q_undoMany q_far_ q_wayRow_ q_wayMany q_keptRow_ q_askedRow_ q_rares_ q_trial_ q_keptMany q_askedMany q_hangs_ q_paths_ q_tornSteps q_hasTorn q_turnOne q_hasTurn q_text_ q_textMany q_toldMany q_toldAt_ q_hasTold q_stack_ q_codes q_ones q_top q_deep q_isWhole q_truths_ q_imaged_ q_namesKept_ q_areKept_), (q_s_, aC1 cy 383 q_s), (q_trial_, aC1 cy 8 q_trial)] H) (hD : va_D A [(q, oC11 q_thrown q_tape_ q_length q_size q_p q_limit q_s_ q_h_ q_read_ q_names_ q_reserved_ q_token q_at q_span q_number q_fault q_faultAt q_word q_got q_lines q_onces q_webs q_one q_two q_seed q_undone_ q_before_ q_undoMany q_far_ q_wayRow_ q_wayMany q_keptRow_ q_askedRow_ q_rares_ q_trial_ q_keptMany q_askedMany q_hangs_ q_paths_ q_tornSteps q_hasTorn q_turnOne q_hasTurn q_text_ q_textMany q_toldMany q_toldAt_ q_hasTold q_stack_ q_codes q_ones q_top q_deep q_isWhole q_truths_ q_imaged_ q_namesKept_ q_areKept_), (q_s_, aC1 cy 383 q_s), (q_trial_, aC1 cy 8 q_trial)]) (hS : va_S A s.heap H locs) (hl : lv_has ls 2 [(0, .ref q)]) : W p l e (Rm 0 0 0 0) s m args below meth c H locs cells slots Q (F0 m 0 ls []) := by
  have hx := C.1
  have hb := C.2.1
  refine lv_iconst (v := 0) hx hb dX11_beginsTrial_0 (by decide) ?_
  refine lv_istore_n (lv' := [(1, .int 0), (0, .ref q)]) hx hb dX11_beginsTrial_1 rfl hl (by decide) rfl (fun ls hl => ?_)
  have lp_2_2 : ∀ (n_3 : Nat) (x_1 : Int32) (g_2 : Nat → Int32) (H : Heap) (locs : List Loc) (ls : Array Slot), (-1) * x_1.toInt + 8 < (n_3 : Int) → (0 ≤ x_1.toInt ∧ x_1.toInt ≤ 8) → va_P D vwCl [(q, oC11 q_thrown q_tape_ q_length q_size q_p q_limit q_s_ q_h_ q_read_ q_names_ q_reserved_ q_token q_at q_span q_number q_fault q_faultAt q_word q_got q_lines q_onces q_webs q_one q_two q_seed q_undone_ q_before_ q_undoMany q_far_ q_wayRow_ q_wayMany q_keptRow_ q_askedRow_ q_rares_ q_trial_ q_keptMany q_askedMany q_hangs_ q_paths_ q_tornSteps q_hasTorn q_turnOne q_hasTurn q_text_ q_textMany q_toldMany q_toldAt_ q_hasTold q_stack_ q_codes q_ones q_top q_deep q_isWhole q_truths_ q_imaged_ q_namesKept_ q_areKept_), (q_s_, aC1 cy 383 q_s), (q_trial_, aC1 cy 8 g_2)] H → va_D A [(q, oC11 q_thrown q_tape_ q_length q_size q_p q_limit q_s_ q_h_ q_read_ q_names_ q_reserved_ q_token q_at q_span q_number q_fault q_faultAt q_word q_got q_lines q_onces q_webs q_one q_two q_seed q_undone_ q_before_ q_undoMany q_far_ q_wayRow_ q_wayMany q_keptRow_ q_askedRow_ q_rares_ q_trial_ q_keptMany q_askedMany q_hangs_ q_paths_ q_tornSteps q_hasTorn q_turnOne q_hasTurn q_text_ q_textMany q_toldMany q_toldAt_ q_hasTold q_stack_ q_codes q_ones q_top q_deep q_isWhole q_truths_ q_imaged_ q_namesKept_ q_areKept_), (q_s_, aC1 cy 383 q_s), (q_trial_, aC1 cy 8 g_2)] → va_S A s.heap H locs → lv_has ls 2 [(0, .ref q), (1, .int x_1)] → W p l e (Rm 0 0 0 0) s m args below meth c H locs cells slots Q (F0 m 2 ls []) := by
    intro n_3
    induction n_3 with
    | zero =>
      intro x_1 g_2 H locs ls hm_5 hf_4 hP hD hS hl
      exact absurd hm_5 (by omega)
    | succ n_3 ih_6 =>
      intro x_1 g_2 H locs ls hm_5 hf_4 hP hD hS hl
      refine lv_iload_n hx hb dX11_beginsTrial_2 rfl (lv_at hl 1 rfl) ?_
      refine lv_bipush (v := 8) hx hb dX11_beginsTrial_3 (by decide) ?_
      refine lv_icmp_ge (tgt := 29) hx hb dX11_beginsTrial_5 (by decide) (fun c_8 => ?_) (fun c_8 => ?_)
      · have hc_8 := o_le (by decide : (8 : Int32).toInt = 8) (rfl : x_1.toInt = x_1.toInt) c_8
        refine o_wq hQ ?_
        exact q_vret (rm := (Rm 0 0 0 0)) C hS g_2 trivial (q_subP hP [0, 1, 2] rfl) (hD.sub [0, 1, 2] (by decide) rfl) hroom.1 hroom.2 dX11_beginsTrial_29
      · have hc_8 := o_nle (by decide : (8 : Int32).toInt = 8) (rfl : x_1.toInt = x_1.toInt) c_8
        refine lv_aload_n hx hb dX11_beginsTrial_8 rfl (lv_at hl 0 rfl) ?_
        refine q_get11 (v := .ref q_trial_) C hP 0 34 rfl fT_34 (by decide) kF_RX11_74 rfl dX11_beginsTrial_9 ?_
        refine lv_iload_n hx hb dX11_beginsTrial_12 rfl (lv_at hl 1 rfl) ?_
        refine lv_aload_n hx hb dX11_beginsTrial_13 rfl (lv_at hl 0 rfl) ?_
        refine q_get11 (v := .ref q_s_) C hP 0 6 rfl fT_6 (by decide) kF_RX11_33 rfl dX11_beginsTrial_14 ?_
        refine lv_bipush (v := 122) hx hb dX11_beginsTrial_17 (by decide) ?_
        refine lv_iload_n hx hb dX11_beginsTrial_19 rfl (lv_at hl 1 rfl) ?_
        refine lv_iadd hx hb dX11_beginsTrial_20 ?_
        refine lv_topi (fun z_9 hz_9 => ?_)
        have hz_9 := o_add hz_9 (by decide : (122 : Int32).toInt = 122) (rfl : x_1.toInt = x_1.toInt) (by omega) (by omega)
        refine q_iald (v := q_s z_9.toNatClampNeg) C hP 1 rfl (o_in (rfl : z_9.toInt = z_9.toInt) (by omega) (by omega)) rfl dX11_beginsTrial_21 ?_
        refine lv_topi (fun z_10 ez_10 => ?_)
        have hz_10 := Rg.at hR8 ez_10 (by have := o_cl (rfl : z_9.toInt = z_9.toInt) (by omega); omega) (by have := o_cl (rfl : z_9.toInt = z_9.toInt) (by omega); omega)
        refine q_iast (g := upd g_2 x_1.toNatClampNeg z_10) (w' := [(q, oC11 q_thrown q_tape_ q_length q_size q_p q_limit q_s_ q_h_ q_read_ q_names_ q_reserved_ q_token q_at q_span q_number q_fault q_faultAt q_word q_got q_lines q_onces q_webs q_one q_two q_seed q_undone_ q_before_ q_undoMany q_far_ q_wayRow_ q_wayMany q_keptRow_ q_askedRow_ q_rares_ q_trial_ q_keptMany q_askedMany q_hangs_ q_paths_ q_tornSteps q_hasTorn q_turnOne q_hasTurn q_text_ q_textMany q_toldMany q_toldAt_ q_hasTold q_stack_ q_codes q_ones q_top q_deep q_isWhole q_truths_ q_imaged_ q_namesKept_ q_areKept_), (q_s_, aC1 cy 383 q_s), (q_trial_, aC1 cy 8 (upd g_2 x_1.toNatClampNeg z_10))]) C hP hD hS 2 rfl (o_in (rfl : x_1.toInt = x_1.toInt) (by omega) (by omega)) rfl rfl dX11_beginsTrial_22 (fun H locs hP hD hS => ?_)
        generalize upd g_2 x_1.toNatClampNeg z_10 = g_11 at hP hD 
        have hP : va_P D vwCl [(q, oC11 q_thrown q_tape_ q_length q_size q_p q_limit q_s_ q_h_ q_read_ q_names_ q_reserved_ q_token q_at q_span q_number q_fault q_faultAt q_word q_got q_lines q_onces q_webs q_one q_two q_seed q_undone_ q_before_ q_undoMany q_far_ q_wayRow_ q_wayMany q_keptRow_ q_askedRow_ q_rares_ q_trial_ q_keptMany q_askedMany q_hangs_ q_paths_ q_tornSteps q_hasTorn q_turnOne q_hasTurn q_text_ q_textMany q_toldMany q_toldAt_ q_hasTold q_stack_ q_codes q_ones q_top q_deep q_isWhole q_truths_ q_imaged_ q_namesKept_ q_areKept_), (q_s_, aC1 cy 383 q_s), (q_trial_, aC1 cy 8 g_11)] H := hP
        have hD : va_D A [(q, oC11 q_thrown q_tape_ q_length q_size q_p q_limit q_s_ q_h_ q_read_ q_names_ q_reserved_ q_token q_at q_span q_number q_fault q_faultAt q_word q_got q_lines q_onces q_webs q_one q_two q_seed q_undone_ q_before_ q_undoMany q_far_ q_wayRow_ q_wayMany q_keptRow_ q_askedRow_ q_rares_ q_trial_ q_keptMany q_askedMany q_hangs_ q_paths_ q_tornSteps q_hasTorn q_turnOne q_hasTurn q_text_ q_textMany q_toldMany q_toldAt_ q_hasTold q_stack_ q_codes q_ones q_top q_deep q_isWhole q_truths_ q_imaged_ q_namesKept_ q_areKept_), (q_s_, aC1 cy 383 q_s), (q_trial_, aC1 cy 8 g_11)] := hD
        obtain ⟨z_12, hz_12⟩ : ∃ z : Int32, z = x_1 + 1 := ⟨_, rfl⟩
        refine lv_iinc (v := z_12) (lv' := [(1, .int z_12), (0, .ref q)]) hx hb dX11_beginsTrial_23 hl (k := 1) rfl hz_12.symm (by decide) rfl (fun ls hl => ?_)
        have hz_12 := o_add hz_12 (rfl : x_1.toInt = x_1.toInt) (by decide : (1 : Int32).toInt = 1) (by omega) (by omega)
        refine lv_goto (tgt := 2) hx hb dX11_beginsTrial_26 (by decide) ?_
        exact ih_6 z_12 g_11 H locs ls (by omega) (by omega) hP hD hS (lv_sub hl [1, 0] rfl)
  exact lp_2_2 9 (0 : Int32) q_trial H locs ls (by have e0 : (0 : Int32).toInt = 0 := (by decide); omega) (by have e0 : (0 : Int32).toInt = 0 := (by decide); omega) hP hD hS (lv_sub hl [1, 0] rfl)
theorem y_beginsTrial (l : Launch) (D : va_G) (cy : Nat → ClassId) (q : Nat) (q_thrown : Int32) (q_tape_ : Nat) (q_length : Int32) (q_size : Int32) (q_p : Int32) (q_limit : Int32) (q_s_ : Nat) (q_h_ : Nat) (q_read_ : Nat) (q_names_ : Nat) (q_reserved_ : Nat) (q_token : Int32) (q_at : Int32) (q_span : Int32) (q_number : Int32) (q_fault : Int32) (q_faultAt : Int32) (q_word : Int64) (q_got : Int32) (q_lines : Int32) (q_onces : Int32) (q_webs : Int32) (q_one : Int32) (q_two : Int32) (q_seed : Int32) (q_undone_ : Nat) (q_before_ : Nat) (q_undoMany : Int32) (q_far_ : Nat) (q_wayRow_ : Nat) (q_wayMany : Int32) (q_keptRow_ : Nat) (q_askedRow_ : Nat) (q_rares_ : Nat) (q_trial_ : Nat) (q_keptMany : Int32) (q_askedMany : Int32) (q_hangs_ : Nat) (q_paths_ : Nat) (q_tornSteps : Int32) (q_hasTorn : Int32) (q_turnOne : Int32) (q_hasTurn : Int32) (q_text_ : Nat) (q_textMany : Int32) (q_toldMany : Int32) (q_toldAt_ : Nat) (q_hasTold : Int32) (q_stack_ : Nat) (q_codes : Int32) (q_ones : Int32) (q_top : Int32) (q_deep : Int32) (q_isWhole : Int32) (q_truths_ : Nat) (q_imaged_ : Nat) (q_namesKept_ : Nat) (q_areKept_ : Nat) (q_s : Nat → Int32) (q_trial : Nat → Int32) (sz : Nat) (hb0 : 0 ≤ q_length.toInt ∧ q_length.toInt ≤ 940) (hb1 : 0 ≤ q_size.toInt ∧ q_size.toInt ≤ 940) (hb2 : 0 ≤ q_p.toInt ∧ q_p.toInt ≤ 940) (hb3 : 0 ≤ q_limit.toInt ∧ q_limit.toInt ≤ 940) (hb4 : 0 ≤ q_span.toInt ∧ q_span.toInt ≤ 940) (hb5 : 0 ≤ q_number.toInt ∧ q_number.toInt ≤ 8214) (hb6 : (-1) ≤ q_got.toInt ∧ q_got.toInt ≤ 8214) (hb7 : 0 ≤ q_one.toInt ∧ q_one.toInt ≤ 7) (hb8 : 0 ≤ q_two.toInt ∧ q_two.toInt ≤ 7) (hb9 : 0 ≤ q_undoMany.toInt ∧ q_undoMany.toInt ≤ 8) (hb10 : (-1) ≤ q_wayMany.toInt ∧ q_wayMany.toInt ≤ 8) (hb11 : (-1) ≤ q_keptMany.toInt ∧ q_keptMany.toInt ≤ 8) (hb12 : (-1) ≤ q_askedMany.toInt ∧ q_askedMany.toInt ≤ 3) (hb13 : 0 ≤ q_hasTorn.toInt ∧ q_hasTorn.toInt ≤ 1) (hb14 : 0 ≤ q_hasTurn.toInt ∧ q_hasTurn.toInt ≤ 1) (hb15 : 0 ≤ q_textMany.toInt ∧ q_textMany.toInt ≤ 48) (hb16 : 0 ≤ q_toldMany.toInt ∧ q_toldMany.toInt ≤ 40) (hb17 : 0 ≤ q_hasTold.toInt ∧ q_hasTold.toInt ≤ 1) (hb18 : 0 ≤ q_codes.toInt ∧ q_codes.toInt ≤ 40) (hb19 : 0 ≤ q_ones.toInt ∧ q_ones.toInt ≤ 20) (hb20 : 0 ≤ q_top.toInt ∧ q_top.toInt ≤ 40) (hb21 : 0 ≤ q_isWhole.toInt ∧ q_isWhole.toInt ≤ 1) (hR0 : Rg q_s 0 1 0 8) (hR1 : Rg q_s 1 3 0 6) (hR2 : Rg q_s 3 4 1 50) (hR3 : Rg q_s 4 5 1 5) (hR4 : Rg q_s 103 104 0 255) (hR5 : Rg q_s 7 23 0 5) (hR6 : Rg q_s 106 122 0 5) (hR7 : Rg q_s 23 31 0 99) (hR8 : Rg q_s 122 130 0 99) : MV l yX11_beginsTrial cX11_beginsTrial 2 (Rm 0 0 0 0) D cy [.ref q] sz [(q, oC11 q_thrown q_tape_ q_length q_size q_p q_limit q_s_ q_h_ q_read_ q_names_ q_reserved_ q_token q_at q_span q_number q_fault q_faultAt q_word q_got q_lines q_onces q_webs q_one q_two q_seed q_undone_ q_before_ q_undoMany q_far_ q_wayRow_ q_wayMany q_keptRow_ q_askedRow_ q_rares_ q_trial_ q_keptMany q_askedMany q_hangs_ q_paths_ q_tornSteps q_hasTorn q_turnOne q_hasTurn q_text_ q_textMany q_toldMany q_toldAt_ q_hasTold q_stack_ q_codes q_ones q_top q_deep q_isWhole q_truths_ q_imaged_ q_namesKept_ q_areKept_), (q_s_, aC1 cy 383 q_s), (q_trial_, aC1 cy 8 q_trial)] (fun u : (Nat → Int32) => True) (fun u : (Nat → Int32) => [(q, oC11 q_thrown q_tape_ q_length q_size q_p q_limit q_s_ q_h_ q_read_ q_names_ q_reserved_ q_token q_at q_span q_number q_fault q_faultAt q_word q_got q_lines q_onces q_webs q_one q_two q_seed q_undone_ q_before_ q_undoMany q_far_ q_wayRow_ q_wayMany q_keptRow_ q_askedRow_ q_rares_ q_trial_ q_keptMany q_askedMany q_hangs_ q_paths_ q_tornSteps q_hasTorn q_turnOne q_hasTurn q_text_ q_textMany q_toldMany q_toldAt_ q_hasTold q_stack_ q_codes q_ones q_top q_deep q_isWhole q_truths_ q_imaged_ q_namesKept_ q_areKept_), (q_s_, aC1 cy 383 q_s), (q_trial_, aC1 cy 8 u)]) := by
  refine MV.enter (by decide) (Nat.le_of_ble_eq_true rfl) ?_
  intro p e s m below meth c ls A hsz hAe C hP hD hS hl
  exact b_y_beginsTrial l D cy q q_thrown q_tape_ q_length q_size q_p q_limit q_s_ q_h_ q_read_ q_names_ q_reserved_ q_token q_at q_span q_number q_fault q_faultAt q_word q_got q_lines q_onces q_webs q_one q_two q_seed q_undone_ q_before_ q_undoMany q_far_ q_wayRow_ q_wayMany q_keptRow_ q_askedRow_ q_rares_ q_trial_ q_keptMany q_askedMany q_hangs_ q_paths_ q_tornSteps q_hasTorn q_turnOne q_hasTurn q_text_ q_textMany q_toldMany q_toldAt_ q_hasTold q_stack_ q_codes q_ones q_top q_deep q_isWhole q_truths_ q_imaged_ q_namesKept_ q_areKept_ q_s q_trial hb0 hb1 hb2 hb3 hb4 hb5 hb6 hb7 hb8 hb9 hb10 hb11 hb12 hb13 hb14 hb15 hb16 hb17 hb18 hb19 hb20 hb21 hR0 hR1 hR2 hR3 hR4 hR5 hR6 hR7 hR8 ⟨Nat.le_of_ble_eq_true rfl, Nat.le_of_ble_eq_true rfl⟩ C rfl _ _ ls hP hD hS hl
set_option maxHeartbeats 4000000 in
set_option maxRecDepth 100000 in
theorem b_y_askedBy (l : Launch) (D : va_G) (cy : Nat → ClassId) (q : Nat) (a : Int32) (n : Int32) (k : Int32) (q_thrown : Int32) (q_tape_ : Nat) (q_length : Int32) (q_size : Int32) (q_p : Int32) (q_limit : Int32) (q_s_ : Nat) (q_h_ : Nat) (q_read_ : Nat) (q_names_ : Nat) (q_reserved_ : Nat) (q_token : Int32) (q_at : Int32) (q_span : Int32) (q_number : Int32) (q_fault : Int32) (q_faultAt : Int32) (q_word : Int64) (q_got : Int32) (q_lines : Int32) (q_onces : Int32) (q_webs : Int32) (q_one : Int32) (q_two : Int32) (q_seed : Int32) (q_undone_ : Nat) (q_before_ : Nat) (q_undoMany : Int32) (q_far_ : Nat) (q_wayRow_ : Nat) (q_wayMany : Int32) (q_keptRow_ : Nat) (q_askedRow_ : Nat) (q_rares_ : Nat) (q_trial_ : Nat) (q_keptMany : Int32) (q_askedMany : Int32) (q_hangs_ : Nat) (q_paths_ : Nat) (q_tornSteps : Int32) (q_hasTorn : Int32) (q_turnOne : Int32) (q_hasTurn : Int32) (q_text_ : Nat) (q_textMany : Int32) (q_toldMany : Int32) (q_toldAt_ : Nat) (q_hasTold : Int32) (q_stack_ : Nat) (q_codes : Int32) (q_ones : Int32) (q_top : Int32) (q_deep : Int32) (q_isWhole : Int32) (q_truths_ : Nat) (q_imaged_ : Nat) (q_namesKept_ : Nat) (q_areKept_ : Nat) (q_s : Nat → Int32) (hb0 : 0 ≤ q_length.toInt ∧ q_length.toInt ≤ 940) (hb1 : 0 ≤ q_size.toInt ∧ q_size.toInt ≤ 940) (hb2 : 0 ≤ q_p.toInt ∧ q_p.toInt ≤ 940) (hb3 : 0 ≤ q_limit.toInt ∧ q_limit.toInt ≤ 940) (hb4 : 0 ≤ q_span.toInt ∧ q_span.toInt ≤ 940) (hb5 : 0 ≤ q_number.toInt ∧ q_number.toInt ≤ 8214) (hb6 : (-1) ≤ q_got.toInt ∧ q_got.toInt ≤ 8214) (hb7 : 0 ≤ q_one.toInt ∧ q_one.toInt ≤ 7) (hb8 : 0 ≤ q_two.toInt ∧ q_two.toInt ≤ 7) (hb9 : 0 ≤ q_undoMany.toInt ∧ q_undoMany.toInt ≤ 8) (hb10 : (-1) ≤ q_wayMany.toInt ∧ q_wayMany.toInt ≤ 8) (hb11 : (-1) ≤ q_keptMany.toInt ∧ q_keptMany.toInt ≤ 8) (hb12 : (-1) ≤ q_askedMany.toInt ∧ q_askedMany.toInt ≤ 3) (hb13 : 0 ≤ q_hasTorn.toInt ∧ q_hasTorn.toInt ≤ 1) (hb14 : 0 ≤ q_hasTurn.toInt ∧ q_hasTurn.toInt ≤ 1) (hb15 : 0 ≤ q_textMany.toInt ∧ q_textMany.toInt ≤ 48) (hb16 : 0 ≤ q_toldMany.toInt ∧ q_toldMany.toInt ≤ 40) (hb17 : 0 ≤ q_hasTold.toInt ∧ q_hasTold.toInt ≤ 1) (hb18 : 0 ≤ q_codes.toInt ∧ q_codes.toInt ≤ 40) (hb19 : 0 ≤ q_ones.toInt ∧ q_ones.toInt ≤ 20) (hb20 : 0 ≤ q_top.toInt ∧ q_top.toInt ≤ 40) (hb21 : 0 ≤ q_isWhole.toInt ∧ q_isWhole.toInt ≤ 1) (hb22 : 0 ≤ a.toInt) (hb23 : 0 ≤ n.toInt ∧ n.toInt ≤ 8) (hb24 : 0 ≤ k.toInt ∧ k.toInt ≤ 8) (hR0 : Rg q_s 0 1 0 8) (hR1 : Rg q_s 1 3 0 6) (hR2 : Rg q_s 3 4 1 50) (hR3 : Rg q_s 4 5 1 5) (hR4 : Rg q_s 103 104 0 255) (hR5 : Rg q_s 7 23 0 5) (hR6 : Rg q_s 106 122 0 5) (hR7 : Rg q_s 23 31 0 99) (hR8 : Rg q_s 122 130 0 99) {p : Program} {e : Env} {s : State} {m : MethodId} {args : Array Value} {below : List Frame} {meth : Method} {c : Code} {A : Nat → Prop} {Q : State → Prop} {cells slots : Nat} (hroom : cells ≤ ((Rm 2 42 0 0)).cells ∧ slots ≤ ((Rm 2 42 0 0)).slots) (C : Cx p s m args meth c cX11_askedBy 5 (some .int) RX11 "askedBy" D cy A) (hQ : Q = MQ below (va_Qi (fun (r : Int32) (u : Unit) => ((-2) ≤ r.toInt ∧ r.toInt ≤ 7)) (Bx D A (fun u : Unit => [(q, oC11 q_thrown q_tape_ q_length q_size q_p q_limit q_s_ q_h_ q_read_ q_names_ q_reserved_ q_token q_at q_span q_number q_fault q_faultAt q_word q_got q_lines q_onces q_webs q_one q_two q_seed q_undone_ q_before_ q_undoMany q_far_ q_wayRow_ q_wayMany q_keptRow_ q_askedRow_ q_rares_ q_trial_ q_keptMany q_askedMany q_hangs_ q_paths_ q_tornSteps q_hasTorn q_turnOne q_hasTurn q_text_ q_textMany q_toldMany q_toldAt_ q_hasTold q_stack_ q_codes q_ones q_top q_deep q_isWhole q_truths_ q_imaged_ q_namesKept_ q_areKept_), (q_s_, aC1 cy 383 q_s)])) A) args s ((Rm 2 42 0 0)).cells ((Rm 2 42 0 0)).slots A) (H : Heap) (locs : List Loc) (ls : Array Slot) (hP : va_P D vwCl [(q, oC11 q_thrown q_tape_ q_length q_size q_p q_limit q_s_ q_h_ q_read_ q_names_ q_reserved_ q_token q_at q_span q_number q_fault q_faultAt q_word q_got q_lines q_onces q_webs q_one q_two q_seed q_undone_ q_before_ q_undoMany q_far_ q_wayRow_ q_wayMany q_keptRow_ q_askedRow_ q_rares_ q_trial_ q_keptMany q_askedMany q_hangs_ q_paths_ q_tornSteps q_hasTorn q_turnOne q_hasTurn q_text_ q_textMany q_toldMany q_toldAt_ q_hasTold q_stack_ q_codes q_ones q_top q_deep q_isWhole q_truths_ q_imaged_ q_namesKept_ q_areKept_), (q_s_, aC1 cy 383 q_s)] H) (hD : va_D A [(q, oC11 q_thrown q_tape_ q_length q_size q_p q_limit q_s_ q_h_ q_read_ q_names_ q_reserved_ q_token q_at q_span q_number q_fault q_faultAt q_word q_got q_lines q_onces q_webs q_one q_two q_seed q_undone_ q_before_ q_undoMany q_far_ q_wayRow_ q_wayMany q_keptRow_ q_askedRow_ q_rares_ q_trial_ q_keptMany q_askedMany q_hangs_ q_paths_ q_tornSteps q_hasTorn q_turnOne q_hasTurn q_text_ q_textMany q_toldMany q_toldAt_ q_hasTold q_stack_ q_codes q_ones q_top q_deep q_isWhole q_truths_ q_imaged_ q_namesKept_ q_areKept_), (q_s_, aC1 cy 383 q_s)]) (hS : va_S A s.heap H locs) (hl : lv_has ls 5 [(0, .ref q), (1, .int a), (2, .int n), (3, .int k)]) : W p l e (Rm 2 42 0 0) s m args below meth c H locs cells slots Q (F0 m 0 ls []) := by
  have hx := C.1
  have hb := C.2.1
  refine lv_iload_n hx hb dX11_askedBy_0 rfl (lv_at hl 1 rfl) ?_
  refine lv_aload_n hx hb dX11_askedBy_1 rfl (lv_at hl 0 rfl) ?_
  refine q_get11 (v := .ref q_s_) C hP 0 6 rfl fT_6 (by decide) kF_RX11_33 rfl dX11_askedBy_2 ?_
  refine lv_iconst (v := 0) hx hb dX11_askedBy_5 (by decide) ?_
  refine q_iald (v := q_s 0) C hP 1 rfl (vin (by decide +kernel)) rfl dX11_askedBy_6 ?_
  refine lv_topi (fun z_1 ez_1 => ?_)
  have hz_1 : 0 ≤ z_1.toInt ∧ z_1.toInt ≤ 8 := (by rw [ez_1]; exact hR0 0 (by decide) (by decide))
  refine lv_iconst (v := 1) hx hb dX11_askedBy_7 (by decide) ?_
  refine lv_iadd hx hb dX11_askedBy_8 ?_
  refine lv_topi (fun z_2 hz_2 => ?_)
  have hz_2 := o_add hz_2 (rfl : z_1.toInt = z_1.toInt) (by decide : (1 : Int32).toInt = 1) (by omega) (by omega)
  refine lv_iload_n hx hb dX11_askedBy_9 rfl (lv_at hl 2 rfl) ?_
  refine lv_iload_n hx hb dX11_askedBy_10 rfl (lv_at hl 3 rfl) ?_
  refine q_ai (wr := [(q, oC11 q_thrown q_tape_ q_length q_size q_p q_limit q_s_ q_h_ q_read_ q_names_ q_reserved_ q_token q_at q_span q_number q_fault q_faultAt q_word q_got q_lines q_onces q_webs q_one q_two q_seed q_undone_ q_before_ q_undoMany q_far_ q_wayRow_ q_wayMany q_keptRow_ q_askedRow_ q_rares_ q_trial_ q_keptMany q_askedMany q_hangs_ q_paths_ q_tornSteps q_hasTorn q_turnOne q_hasTurn q_text_ q_textMany q_toldMany q_toldAt_ q_hasTold q_stack_ q_codes q_ones q_top q_deep q_isWhole q_truths_ q_imaged_ q_namesKept_ q_areKept_), (q_s_, aC1 cy 383 q_s)]) (r_S (rm := (Rm 0 0 0 0)) (As := [.int a, .int z_2, .int n, .int k]) (rest := []) (wc := []) C hS (q_subP hP [] rfl) (hD.sub [] (by decide) rfl) (y_digit l D cy a z_2 n k _ (by omega) (by omega) (by omega) (by omega)) kwS_X11_digit kM_RX11_379 ⟨Nat.le_of_ble_eq_true rfl, Nat.le_of_ble_eq_true rfl⟩ rfl hl.1 rfl (Nat.le_of_ble_eq_true rfl) dX11_askedBy_11 ⟨hroom.1, hroom.2⟩) C.2.2.2.2.2.2.1 hP hD hS [] [0, 1] rfl rfl (by decide) (by decide) (fun r_4 u_3 H locs hw_5 hP hD hS => ?_)
  have hp_5 : 0 ≤ r_4.toInt ∧ r_4.toInt ≤ 8 := hw_5.1
  have hp_6 : 0 ≤ r_4.toInt ∧ 0 ≤ z_2.toInt + (-1) * r_4.toInt + (-1) := hw_5.2
  clear hw_5
  refine lv_istore (lv' := [(4, .int r_4), (0, .ref q), (1, .int a), (2, .int n), (3, .int k)]) hx hb dX11_askedBy_14 hl (by decide) rfl (fun ls hl => ?_)
  refine lv_iload hx hb dX11_askedBy_16 (lv_at hl 0 rfl) ?_
  refine lv_aload_n hx hb dX11_askedBy_18 rfl (lv_at hl 1 rfl) ?_
  refine q_get11 (v := .ref q_s_) C hP 0 6 rfl fT_6 (by decide) kF_RX11_33 rfl dX11_askedBy_19 ?_
  refine lv_iconst (v := 0) hx hb dX11_askedBy_22 (by decide) ?_
  refine q_iald (v := z_1) C hP 1 rfl (vin (by decide +kernel)) ez_1.symm dX11_askedBy_23 ?_
  refine lv_icmp_ne (tgt := 29) hx hb dX11_askedBy_24 (by decide) (fun c_8 => ?_) (fun c_8 => ?_)
  · have hc_8 := o_ne (rfl : r_4.toInt = r_4.toInt) (rfl : z_1.toInt = z_1.toInt) c_8
    have hnc_8 : 0 ≤ z_1.toInt + (-1) * r_4.toInt + (-1) := by rcases Int.lt_or_gt_of_ne hc_8 with h9 | h9 <;> omega
    refine lv_iload_n hx hb dX11_askedBy_29 rfl (lv_at hl 4 rfl) ?_
    refine lv_if_ne (tgt := 47) hx hb dX11_askedBy_30 (by decide) (fun c_9 => ?_) (fun c_9 => ?_)
    · have hc_9 := o_ne (rfl : k.toInt = k.toInt) (by decide : (0 : Int32).toInt = 0) c_9
      have hnc_9 : 0 ≤ k.toInt + (-1) := by rcases Int.lt_or_gt_of_ne hc_9 with h9 | h9 <;> omega
      refine lv_iload hx hb dX11_askedBy_47 (lv_at hl 0 rfl) ?_
      refine o_wq hQ ?_
      exact q_iret (rm := (Rm 2 42 0 0)) C hS () rfl (show (-2) ≤ r_4.toInt ∧ r_4.toInt ≤ 7 by omega) (q_subP hP [0, 1] rfl) (hD.sub [0, 1] (by decide) rfl) hroom.1 hroom.2 dX11_askedBy_49
    · have hc_9 := o_eq (rfl : k.toInt = k.toInt) (by decide : (0 : Int32).toInt = 0) c_9
      refine lv_aload_n hx hb dX11_askedBy_33 rfl (lv_at hl 1 rfl) ?_
      refine lv_iload hx hb dX11_askedBy_34 (lv_at hl 0 rfl) ?_
      refine q_ai (wr := []) (r_V (rm := (Rm 1 21 0 0)) (q0 := 0) (As := [.int r_4]) (rest := []) (wc := [(q, oC11 q_thrown q_tape_ q_length q_size q_p q_limit q_s_ q_h_ q_read_ q_names_ q_reserved_ q_token q_at q_span q_number q_fault q_faultAt q_word q_got q_lines q_onces q_webs q_one q_two q_seed q_undone_ q_before_ q_undoMany q_far_ q_wayRow_ q_wayMany q_keptRow_ q_askedRow_ q_rares_ q_trial_ q_keptMany q_askedMany q_hangs_ q_paths_ q_tornSteps q_hasTorn q_turnOne q_hasTurn q_text_ q_textMany q_toldMany q_toldAt_ q_hasTold q_stack_ q_codes q_ones q_top q_deep q_isWhole q_truths_ q_imaged_ q_namesKept_ q_areKept_), (q_s_, aC1 cy 383 q_s)]) C hS (q_subP hP [0, 1] rfl) (hD.sub [0, 1] (by decide) rfl) (y_isAsked l D cy q r_4 q_thrown q_tape_ q_length q_size q_p q_limit q_s_ q_h_ q_read_ q_names_ q_reserved_ q_token q_at q_span q_number q_fault q_faultAt q_word q_got q_lines q_onces q_webs q_one q_two q_seed q_undone_ q_before_ q_undoMany q_far_ q_wayRow_ q_wayMany q_keptRow_ q_askedRow_ q_rares_ q_trial_ q_keptMany q_askedMany q_hangs_ q_paths_ q_tornSteps q_hasTorn q_turnOne q_hasTurn q_text_ q_textMany q_toldMany q_toldAt_ q_hasTold q_stack_ q_codes q_ones q_top q_deep q_isWhole q_truths_ q_imaged_ q_namesKept_ q_areKept_ q_s _ (by omega) (by omega) (by omega) (by omega) (by omega) (by omega) (by omega) (by omega) (by omega) (by omega) (by omega) (by omega) (by omega) (by omega) (by omega) (by omega) (by omega) (by omega) (by omega) (by omega) (by omega) (by omega) hR0 hR1 hR2 hR3 hR4 hR5 hR6 hR7 hR8) kwV_X11_isAsked kM_RX11_338 rfl rfl ⟨Nat.le_of_ble_eq_true rfl, Nat.le_of_ble_eq_true rfl⟩ rfl hl.1 rfl (Nat.le_of_ble_eq_true rfl) dX11_askedBy_36 ⟨hroom.1, hroom.2⟩) C.2.2.2.2.2.2.1 hP hD hS [0, 1] [] rfl rfl (by decide) (by decide) (fun r_11 u_10 H locs hw_12 hP hD hS => ?_)
      have hp_12 : 0 ≤ r_11.toInt ∧ r_11.toInt ≤ 1 := hw_12
      clear hw_12
      refine lv_if_eq (tgt := 47) hx hb dX11_askedBy_39 (by decide) (fun c_14 => ?_) (fun c_14 => ?_)
      · have hc_14 := o_eq (rfl : r_11.toInt = r_11.toInt) (by decide : (0 : Int32).toInt = 0) c_14
        refine lv_iload hx hb dX11_askedBy_47 (lv_at hl 0 rfl) ?_
        refine o_wq hQ ?_
        exact q_iret (rm := (Rm 2 42 0 0)) C hS () rfl (show (-2) ≤ r_4.toInt ∧ r_4.toInt ≤ 7 by omega) (q_subP hP [0, 1] rfl) (hD.sub [0, 1] (by decide) rfl) hroom.1 hroom.2 dX11_askedBy_49
      · have hc_14 := o_ne (rfl : r_11.toInt = r_11.toInt) (by decide : (0 : Int32).toInt = 0) c_14
        have hnc_14 : 0 ≤ r_11.toInt + (-1) := by rcases Int.lt_or_gt_of_ne hc_14 with h9 | h9 <;> omega
        refine lv_bipush (v := (-2)) hx hb dX11_askedBy_42 (by decide) ?_
        refine lv_goto (tgt := 49) hx hb dX11_askedBy_44 (by decide) ?_
        refine o_wq hQ ?_
        exact q_iret (rm := (Rm 2 42 0 0)) C hS () rfl (show (-2) ≤ ((-2) : Int32).toInt ∧ ((-2) : Int32).toInt ≤ 7 by decide) (q_subP hP [0, 1] rfl) (hD.sub [0, 1] (by decide) rfl) hroom.1 hroom.2 dX11_askedBy_49
  · have hc_8 := o_eq (rfl : r_4.toInt = r_4.toInt) (rfl : z_1.toInt = z_1.toInt) c_8
    refine lv_iconst (v := (-1)) hx hb dX11_askedBy_27 (by decide) ?_
    refine o_wq hQ ?_
    exact q_iret (rm := (Rm 2 42 0 0)) C hS () rfl (show (-2) ≤ ((-1) : Int32).toInt ∧ ((-1) : Int32).toInt ≤ 7 by decide) (q_subP hP [0, 1] rfl) (hD.sub [0, 1] (by decide) rfl) hroom.1 hroom.2 dX11_askedBy_28
theorem y_askedBy (l : Launch) (D : va_G) (cy : Nat → ClassId) (q : Nat) (a : Int32) (n : Int32) (k : Int32) (q_thrown : Int32) (q_tape_ : Nat) (q_length : Int32) (q_size : Int32) (q_p : Int32) (q_limit : Int32) (q_s_ : Nat) (q_h_ : Nat) (q_read_ : Nat) (q_names_ : Nat) (q_reserved_ : Nat) (q_token : Int32) (q_at : Int32) (q_span : Int32) (q_number : Int32) (q_fault : Int32) (q_faultAt : Int32) (q_word : Int64) (q_got : Int32) (q_lines : Int32) (q_onces : Int32) (q_webs : Int32) (q_one : Int32) (q_two : Int32) (q_seed : Int32) (q_undone_ : Nat) (q_before_ : Nat) (q_undoMany : Int32) (q_far_ : Nat) (q_wayRow_ : Nat) (q_wayMany : Int32) (q_keptRow_ : Nat) (q_askedRow_ : Nat) (q_rares_ : Nat) (q_trial_ : Nat) (q_keptMany : Int32) (q_askedMany : Int32) (q_hangs_ : Nat) (q_paths_ : Nat) (q_tornSteps : Int32) (q_hasTorn : Int32) (q_turnOne : Int32) (q_hasTurn : Int32) (q_text_ : Nat) (q_textMany : Int32) (q_toldMany : Int32) (q_toldAt_ : Nat) (q_hasTold : Int32) (q_stack_ : Nat) (q_codes : Int32) (q_ones : Int32) (q_top : Int32) (q_deep : Int32) (q_isWhole : Int32) (q_truths_ : Nat) (q_imaged_ : Nat) (q_namesKept_ : Nat) (q_areKept_ : Nat) (q_s : Nat → Int32) (sz : Nat) (hb0 : 0 ≤ q_length.toInt ∧ q_length.toInt ≤ 940) (hb1 : 0 ≤ q_size.toInt ∧ q_size.toInt ≤ 940) (hb2 : 0 ≤ q_p.toInt ∧ q_p.toInt ≤ 940) (hb3 : 0 ≤ q_limit.toInt ∧ q_limit.toInt ≤ 940) (hb4 : 0 ≤ q_span.toInt ∧ q_span.toInt ≤ 940) (hb5 : 0 ≤ q_number.toInt ∧ q_number.toInt ≤ 8214) (hb6 : (-1) ≤ q_got.toInt ∧ q_got.toInt ≤ 8214) (hb7 : 0 ≤ q_one.toInt ∧ q_one.toInt ≤ 7) (hb8 : 0 ≤ q_two.toInt ∧ q_two.toInt ≤ 7) (hb9 : 0 ≤ q_undoMany.toInt ∧ q_undoMany.toInt ≤ 8) (hb10 : (-1) ≤ q_wayMany.toInt ∧ q_wayMany.toInt ≤ 8) (hb11 : (-1) ≤ q_keptMany.toInt ∧ q_keptMany.toInt ≤ 8) (hb12 : (-1) ≤ q_askedMany.toInt ∧ q_askedMany.toInt ≤ 3) (hb13 : 0 ≤ q_hasTorn.toInt ∧ q_hasTorn.toInt ≤ 1) (hb14 : 0 ≤ q_hasTurn.toInt ∧ q_hasTurn.toInt ≤ 1) (hb15 : 0 ≤ q_textMany.toInt ∧ q_textMany.toInt ≤ 48) (hb16 : 0 ≤ q_toldMany.toInt ∧ q_toldMany.toInt ≤ 40) (hb17 : 0 ≤ q_hasTold.toInt ∧ q_hasTold.toInt ≤ 1) (hb18 : 0 ≤ q_codes.toInt ∧ q_codes.toInt ≤ 40) (hb19 : 0 ≤ q_ones.toInt ∧ q_ones.toInt ≤ 20) (hb20 : 0 ≤ q_top.toInt ∧ q_top.toInt ≤ 40) (hb21 : 0 ≤ q_isWhole.toInt ∧ q_isWhole.toInt ≤ 1) (hb22 : 0 ≤ a.toInt) (hb23 : 0 ≤ n.toInt ∧ n.toInt ≤ 8) (hb24 : 0 ≤ k.toInt ∧ k.toInt ≤ 8) (hR0 : Rg q_s 0 1 0 8) (hR1 : Rg q_s 1 3 0 6) (hR2 : Rg q_s 3 4 1 50) (hR3 : Rg q_s 4 5 1 5) (hR4 : Rg q_s 103 104 0 255) (hR5 : Rg q_s 7 23 0 5) (hR6 : Rg q_s 106 122 0 5) (hR7 : Rg q_s 23 31 0 99) (hR8 : Rg q_s 122 130 0 99) : MI l yX11_askedBy cX11_askedBy 5 (some .int) (Rm 2 42 0 0) D cy [.ref q, .int a, .int n, .int k] sz [(q, oC11 q_thrown q_tape_ q_length q_size q_p q_limit q_s_ q_h_ q_read_ q_names_ q_reserved_ q_token q_at q_span q_number q_fault q_faultAt q_word q_got q_lines q_onces q_webs q_one q_two q_seed q_undone_ q_before_ q_undoMany q_far_ q_wayRow_ q_wayMany q_keptRow_ q_askedRow_ q_rares_ q_trial_ q_keptMany q_askedMany q_hangs_ q_paths_ q_tornSteps q_hasTorn q_turnOne q_hasTurn q_text_ q_textMany q_toldMany q_toldAt_ q_hasTold q_stack_ q_codes q_ones q_top q_deep q_isWhole q_truths_ q_imaged_ q_namesKept_ q_areKept_), (q_s_, aC1 cy 383 q_s)] (fun (r : Int32) (u : Unit) => ((-2) ≤ r.toInt ∧ r.toInt ≤ 7)) (fun u : Unit => [(q, oC11 q_thrown q_tape_ q_length q_size q_p q_limit q_s_ q_h_ q_read_ q_names_ q_reserved_ q_token q_at q_span q_number q_fault q_faultAt q_word q_got q_lines q_onces q_webs q_one q_two q_seed q_undone_ q_before_ q_undoMany q_far_ q_wayRow_ q_wayMany q_keptRow_ q_askedRow_ q_rares_ q_trial_ q_keptMany q_askedMany q_hangs_ q_paths_ q_tornSteps q_hasTorn q_turnOne q_hasTurn q_text_ q_textMany q_toldMany q_toldAt_ q_hasTold q_stack_ q_codes q_ones q_top q_deep q_isWhole q_truths_ q_imaged_ q_namesKept_ q_areKept_), (q_s_, aC1 cy 383 q_s)]) := by
  refine MI.enter (by decide) (Nat.le_of_ble_eq_true rfl) ?_
  intro p e s m below meth c ls A hsz hAe C hP hD hS hl
  exact b_y_askedBy l D cy q a n k q_thrown q_tape_ q_length q_size q_p q_limit q_s_ q_h_ q_read_ q_names_ q_reserved_ q_token q_at q_span q_number q_fault q_faultAt q_word q_got q_lines q_onces q_webs q_one q_two q_seed q_undone_ q_before_ q_undoMany q_far_ q_wayRow_ q_wayMany q_keptRow_ q_askedRow_ q_rares_ q_trial_ q_keptMany q_askedMany q_hangs_ q_paths_ q_tornSteps q_hasTorn q_turnOne q_hasTurn q_text_ q_textMany q_toldMany q_toldAt_ q_hasTold q_stack_ q_codes q_ones q_top q_deep q_isWhole q_truths_ q_imaged_ q_namesKept_ q_areKept_ q_s hb0 hb1 hb2 hb3 hb4 hb5 hb6 hb7 hb8 hb9 hb10 hb11 hb12 hb13 hb14 hb15 hb16 hb17 hb18 hb19 hb20 hb21 hb22 hb23 hb24 hR0 hR1 hR2 hR3 hR4 hR5 hR6 hR7 hR8 ⟨Nat.le_of_ble_eq_true rfl, Nat.le_of_ble_eq_true rfl⟩ C rfl _ _ ls hP hD hS hl
set_option maxHeartbeats 4000000 in
set_option maxRecDepth 100000 in
theorem b_y_spun (l : Launch) (D : va_G) (cy : Nat → ClassId) (q : Nat) (q_thrown : Int32) (q_tape_ : Nat) (q_length : Int32) (q_size : Int32) (q_p : Int32) (q_limit : Int32) (q_s_ : Nat) (q_h_ : Nat) (q_read_ : Nat) (q_names_ : Nat) (q_reserved_ : Nat) (q_token : Int32) (q_at : Int32) (q_span : Int32) (q_number : Int32) (q_fault : Int32) (q_faultAt : Int32) (q_word : Int64) (q_got : Int32) (q_lines : Int32) (q_onces : Int32) (q_webs : Int32) (q_one : Int32) (q_two : Int32) (q_seed : Int32) (q_undone_ : Nat) (q_before_ : Nat) (q_undoMany : Int32) (q_far_ : Nat) (q_wayRow_ : Nat) (q_wayMany : Int32) (q_keptRow_ : Nat) (q_askedRow_ : Nat) (q_rares_ : Nat) (q_trial_ : Nat) (q_keptMany : Int32) (q_askedMany : Int32) (q_hangs_ : Nat) (q_paths_ : Nat) (q_tornSteps : Int32) (q_hasTorn : Int32) (q_turnOne : Int32) (q_hasTurn : Int32) (q_text_ : Nat) (q_textMany : Int32) (q_toldMany : Int32) (q_toldAt_ : Nat) (q_hasTold : Int32) (q_stack_ : Nat) (q_codes : Int32) (q_ones : Int32) (q_top : Int32) (q_deep : Int32) (q_isWhole : Int32) (q_truths_ : Nat) (q_imaged_ : Nat) (q_namesKept_ : Nat) (q_areKept_ : Nat) (q_tape : Nat → Int32) (hb0 : 0 ≤ q_length.toInt ∧ q_length.toInt ≤ 940) (hb1 : 0 ≤ q_size.toInt ∧ q_size.toInt ≤ 940) (hb2 : 0 ≤ q_p.toInt ∧ q_p.toInt ≤ 940) (hb3 : 0 ≤ q_limit.toInt ∧ q_limit.toInt ≤ 940) (hb4 : 0 ≤ q_span.toInt ∧ q_span.toInt ≤ 940) (hb5 : 0 ≤ q_number.toInt ∧ q_number.toInt ≤ 8214) (hb6 : (-1) ≤ q_got.toInt ∧ q_got.toInt ≤ 8214) (hb7 : 0 ≤ q_one.toInt ∧ q_one.toInt ≤ 7) (hb8 : 0 ≤ q_two.toInt ∧ q_two.toInt ≤ 7) (hb9 : 0 ≤ q_undoMany.toInt ∧ q_undoMany.toInt ≤ 8) (hb10 : (-1) ≤ q_wayMany.toInt ∧ q_wayMany.toInt ≤ 8) (hb11 : (-1) ≤ q_keptMany.toInt ∧ q_keptMany.toInt ≤ 8) (hb12 : (-1) ≤ q_askedMany.toInt ∧ q_askedMany.toInt ≤ 3) (hb13 : 0 ≤ q_hasTorn.toInt ∧ q_hasTorn.toInt ≤ 1) (hb14 : 0 ≤ q_hasTurn.toInt ∧ q_hasTurn.toInt ≤ 1) (hb15 : 0 ≤ q_textMany.toInt ∧ q_textMany.toInt ≤ 48) (hb16 : 0 ≤ q_toldMany.toInt ∧ q_toldMany.toInt ≤ 40) (hb17 : 0 ≤ q_hasTold.toInt ∧ q_hasTold.toInt ≤ 1) (hb18 : 0 ≤ q_codes.toInt ∧ q_codes.toInt ≤ 40) (hb19 : 0 ≤ q_ones.toInt ∧ q_ones.toInt ≤ 20) (hb20 : 0 ≤ q_top.toInt ∧ q_top.toInt ≤ 40) (hb21 : 0 ≤ q_isWhole.toInt ∧ q_isWhole.toInt ≤ 1) {p : Program} {e : Env} {s : State} {m : MethodId} {args : Array Value} {below : List Frame} {meth : Method} {c : Code} {A : Nat → Prop} {Q : State → Prop} {cells slots : Nat} (hroom : cells ≤ ((Rm 1 22 0 0)).cells ∧ slots ≤ ((Rm 1 22 0 0)).slots) (C : Cx p s m args meth c cX11_spun 5 (some .int) RX11 "spun" D cy A) (hQ : Q = MQ below (va_Qi (fun (r : Int32) (u : Int32 × Int32 × Int32 × Int32 × Int32) => ((-1) ≤ r.toInt ∧ r.toInt ≤ 255) ∧ (0 ≤ u.2.1.toInt ∧ u.2.1.toInt ≤ 0) ∧ (0 ≤ u.2.2.1.toInt ∧ u.2.2.1.toInt ≤ 940) ∧ (0 ≤ u.2.2.2.1.toInt ∧ u.2.2.2.1.toInt ≤ 940) ∧ (0 ≤ u.2.2.2.2.toInt ∧ u.2.2.2.2.toInt ≤ 940) ∧ (r.toInt = spA q_tape q_length.toInt)) (Bx D A (fun u : Int32 × Int32 × Int32 × Int32 × Int32 => [(q, oC11 u.1 q_tape_ u.2.1 u.2.2.1 u.2.2.2.1 u.2.2.2.2 q_s_ q_h_ q_read_ q_names_ q_reserved_ q_token q_at q_span q_number q_fault q_faultAt q_word q_got q_lines q_onces q_webs q_one q_two q_seed q_undone_ q_before_ q_undoMany q_far_ q_wayRow_ q_wayMany q_keptRow_ q_askedRow_ q_rares_ q_trial_ q_keptMany q_askedMany q_hangs_ q_paths_ q_tornSteps q_hasTorn q_turnOne q_hasTurn q_text_ q_textMany q_toldMany q_toldAt_ q_hasTold q_stack_ q_codes q_ones q_top q_deep q_isWhole q_truths_ q_imaged_ q_namesKept_ q_areKept_), (q_tape_, aC0 cy 940 q_tape)])) A) args s ((Rm 1 22 0 0)).cells ((Rm 1 22 0 0)).slots A) (H : Heap) (locs : List Loc) (ls : Array Slot) (hP : va_P D vwCl [(q, oC11 q_thrown q_tape_ q_length q_size q_p q_limit q_s_ q_h_ q_read_ q_names_ q_reserved_ q_token q_at q_span q_number q_fault q_faultAt q_word q_got q_lines q_onces q_webs q_one q_two q_seed q_undone_ q_before_ q_undoMany q_far_ q_wayRow_ q_wayMany q_keptRow_ q_askedRow_ q_rares_ q_trial_ q_keptMany q_askedMany q_hangs_ q_paths_ q_tornSteps q_hasTorn q_turnOne q_hasTurn q_text_ q_textMany q_toldMany q_toldAt_ q_hasTold q_stack_ q_codes q_ones q_top q_deep q_isWhole q_truths_ q_imaged_ q_namesKept_ q_areKept_), (q_tape_, aC0 cy 940 q_tape)] H) (hD : va_D A [(q, oC11 q_thrown q_tape_ q_length q_size q_p q_limit q_s_ q_h_ q_read_ q_names_ q_reserved_ q_token q_at q_span q_number q_fault q_faultAt q_word q_got q_lines q_onces q_webs q_one q_two q_seed q_undone_ q_before_ q_undoMany q_far_ q_wayRow_ q_wayMany q_keptRow_ q_askedRow_ q_rares_ q_trial_ q_keptMany q_askedMany q_hangs_ q_paths_ q_tornSteps q_hasTorn q_turnOne q_hasTurn q_text_ q_textMany q_toldMany q_toldAt_ q_hasTold q_stack_ q_codes q_ones q_top q_deep q_isWhole q_truths_ q_imaged_ q_namesKept_ q_areKept_), (q_tape_, aC0 cy 940 q_tape)]) (hS : va_S A s.heap H locs) (hl : lv_has ls 5 [(0, .ref q)]) : W p l e (Rm 1 22 0 0) s m args below meth c H locs cells slots Q (F0 m 0 ls []) := by
  have hx := C.1
  have hb := C.2.1
  refine lv_aload_n hx hb dX11_spun_0 rfl (lv_at hl 0 rfl) ?_
  refine lv_iconst (v := 0) hx hb dX11_spun_1 (by decide) ?_
  refine q_put11 (v := .int 0) (w' := [(q, oC11 0 q_tape_ q_length q_size q_p q_limit q_s_ q_h_ q_read_ q_names_ q_reserved_ q_token q_at q_span q_number q_fault q_faultAt q_word q_got q_lines q_onces q_webs q_one q_two q_seed q_undone_ q_before_ q_undoMany q_far_ q_wayRow_ q_wayMany q_keptRow_ q_askedRow_ q_rares_ q_trial_ q_keptMany q_askedMany q_hangs_ q_paths_ q_tornSteps q_hasTorn q_turnOne q_hasTurn q_text_ q_textMany q_toldMany q_toldAt_ q_hasTold q_stack_ q_codes q_ones q_top q_deep q_isWhole q_truths_ q_imaged_ q_namesKept_ q_areKept_), (q_tape_, aC0 cy 940 q_tape)]) C hP hD hS 0 0 rfl fT_0 fy_0 (by decide) kF_RX11_1 rfl rfl (Nat.le_of_ble_eq_true rfl) rfl dX11_spun_2 (fun H locs hP hD hS => ?_)
  refine lv_aload_n hx hb dX11_spun_5 rfl (lv_at hl 0 rfl) ?_
  refine lv_sipush (v := 940) hx hb dX11_spun_6 (by decide) ?_
  refine q_av (wr := [(q_tape_, aC0 cy 940 q_tape)]) (r_V (rm := (Rm 0 0 0 0)) (q0 := 0) (As := [.int 940]) (rest := []) (wc := [(q, oC11 0 q_tape_ q_length q_size q_p q_limit q_s_ q_h_ q_read_ q_names_ q_reserved_ q_token q_at q_span q_number q_fault q_faultAt q_word q_got q_lines q_onces q_webs q_one q_two q_seed q_undone_ q_before_ q_undoMany q_far_ q_wayRow_ q_wayMany q_keptRow_ q_askedRow_ q_rares_ q_trial_ q_keptMany q_askedMany q_hangs_ q_paths_ q_tornSteps q_hasTorn q_turnOne q_hasTurn q_text_ q_textMany q_toldMany q_toldAt_ q_hasTold q_stack_ q_codes q_ones q_top q_deep q_isWhole q_truths_ q_imaged_ q_namesKept_ q_areKept_)]) C hS (q_subP hP [0] rfl) (hD.sub [0] (by decide) rfl) (y_taken l D cy q 940 0 q_tape_ q_length q_size q_p q_limit q_s_ q_h_ q_read_ q_names_ q_reserved_ q_token q_at q_span q_number q_fault q_faultAt q_word q_got q_lines q_onces q_webs q_one q_two q_seed q_undone_ q_before_ q_undoMany q_far_ q_wayRow_ q_wayMany q_keptRow_ q_askedRow_ q_rares_ q_trial_ q_keptMany q_askedMany q_hangs_ q_paths_ q_tornSteps q_hasTorn q_turnOne q_hasTurn q_text_ q_textMany q_toldMany q_toldAt_ q_hasTold q_stack_ q_codes q_ones q_top q_deep q_isWhole q_truths_ q_imaged_ q_namesKept_ q_areKept_ _ (by omega) (by omega) (by omega) (by omega) (by omega) (by omega) (by omega) (by omega) (by omega) (by omega) (by omega) (by omega) (by omega) (by omega) (by omega) (by omega) (by omega) (by omega) (by omega) (by omega) (by omega) (by omega) (by decide)) kwV_X11_taken kM_RX11_276 rfl rfl ⟨Nat.le_of_ble_eq_true rfl, Nat.le_of_ble_eq_true rfl⟩ rfl hl.1 rfl (Nat.le_of_ble_eq_true rfl) dX11_spun_9 ⟨hroom.1, hroom.2⟩) C.2.2.2.2.2.2.1 hP hD hS [0] [1] rfl rfl (by decide) (by decide) (fun u_1 H locs hw_3 hP hD hS => ?_)
  obtain ⟨x_4, x_5, x_6, x_7⟩ := u_1
  have hP : va_P D vwCl [(q_tape_, aC0 cy 940 q_tape), (q, oC11 0 q_tape_ x_4 x_5 x_6 x_7 q_s_ q_h_ q_read_ q_names_ q_reserved_ q_token q_at q_span q_number q_fault q_faultAt q_word q_got q_lines q_onces q_webs q_one q_two q_seed q_undone_ q_before_ q_undoMany q_far_ q_wayRow_ q_wayMany q_keptRow_ q_askedRow_ q_rares_ q_trial_ q_keptMany q_askedMany q_hangs_ q_paths_ q_tornSteps q_hasTorn q_turnOne q_hasTurn q_text_ q_textMany q_toldMany q_toldAt_ q_hasTold q_stack_ q_codes q_ones q_top q_deep q_isWhole q_truths_ q_imaged_ q_namesKept_ q_areKept_)] H := hP
  have hD : va_D A [(q_tape_, aC0 cy 940 q_tape), (q, oC11 0 q_tape_ x_4 x_5 x_6 x_7 q_s_ q_h_ q_read_ q_names_ q_reserved_ q_token q_at q_span q_number q_fault q_faultAt q_word q_got q_lines q_onces q_webs q_one q_two q_seed q_undone_ q_before_ q_undoMany q_far_ q_wayRow_ q_wayMany q_keptRow_ q_askedRow_ q_rares_ q_trial_ q_keptMany q_askedMany q_hangs_ q_paths_ q_tornSteps q_hasTorn q_turnOne q_hasTurn q_text_ q_textMany q_toldMany q_toldAt_ q_hasTold q_stack_ q_codes q_ones q_top q_deep q_isWhole q_truths_ q_imaged_ q_namesKept_ q_areKept_)] := hD
  have hp_7 : 0 ≤ x_4.toInt ∧ x_4.toInt ≤ 0 := hw_3.1
  have hp_8 : 0 ≤ x_5.toInt ∧ x_5.toInt ≤ 940 := hw_3.2.1
  have hp_9 : 0 ≤ x_6.toInt ∧ x_6.toInt ≤ 940 := hw_3.2.2.1
  have hp_10 : 0 ≤ x_7.toInt ∧ x_7.toInt ≤ 940 := hw_3.2.2.2.1
  have hp_11 : 0 ≤ x_5.toInt + (-1) * q_length.toInt ∧ 0 ≤ (-1) * x_5.toInt + q_length.toInt := by have e0 : (0 : Int32).toInt = 0 := (by decide); have e1 : (940 : Int32).toInt = 940 := (by decide); have h0 : 0 ≤ x_5.toInt + (-1) * q_length.toInt ∧ 0 ≤ (-1) * x_5.toInt + q_length.toInt := hw_3.2.2.2.2.1; omega
  have hp_12 : 0 ≤ x_6.toInt ∧ 0 ≤ (-1) * x_6.toInt ∧ 0 ≤ x_7.toInt + (-940) ∧ 0 ≤ (-1) * x_7.toInt + 940 := by have e0 : (0 : Int32).toInt = 0 := (by decide); have e1 : (940 : Int32).toInt = 940 := (by decide); have h0 : 0 ≤ x_6.toInt ∧ 0 ≤ (-1) * x_6.toInt ∧ 0 ≤ x_7.toInt + (-1) * (940 : Int32).toInt ∧ 0 ≤ (-1) * x_7.toInt + (940 : Int32).toInt := hw_3.2.2.2.2.2; omega
  clear hw_3
  refine lv_aload_n hx hb dX11_spun_12 rfl (lv_at hl 0 rfl) ?_
  refine q_get11 (v := .int x_5) C hP 1 3 rfl fT_3 (by decide) kF_RX11_18 rfl dX11_spun_13 ?_
  refine lv_iconst (v := 3) hx hb dX11_spun_16 (by decide) ?_
  refine lv_bipush (v := 18) hx hb dX11_spun_17 (by decide) ?_
  refine q_ai (wr := [(q_tape_, aC0 cy 940 q_tape), (q, oC11 0 q_tape_ x_4 x_5 x_6 x_7 q_s_ q_h_ q_read_ q_names_ q_reserved_ q_token q_at q_span q_number q_fault q_faultAt q_word q_got q_lines q_onces q_webs q_one q_two q_seed q_undone_ q_before_ q_undoMany q_far_ q_wayRow_ q_wayMany q_keptRow_ q_askedRow_ q_rares_ q_trial_ q_keptMany q_askedMany q_hangs_ q_paths_ q_tornSteps q_hasTorn q_turnOne q_hasTurn q_text_ q_textMany q_toldMany q_toldAt_ q_hasTold q_stack_ q_codes q_ones q_top q_deep q_isWhole q_truths_ q_imaged_ q_namesKept_ q_areKept_)]) (r_S (rm := (Rm 0 0 0 0)) (As := [.int x_5, .int 3, .int 18]) (rest := []) (wc := []) C hS (q_subP hP [] rfl) (hD.sub [] (by decide) rfl) (y_isIn l D cy x_5 3 18 _ ) kwS_X11_isIn kM_RX11_206 ⟨Nat.le_of_ble_eq_true rfl, Nat.le_of_ble_eq_true rfl⟩ rfl hl.1 rfl (Nat.le_of_ble_eq_true rfl) dX11_spun_19 ⟨hroom.1, hroom.2⟩) C.2.2.2.2.2.2.1 hP hD hS [] [0, 1] rfl rfl (by decide) (by decide) (fun r_15 u_14 H locs hw_16 hP hD hS => ?_)
  have hp_16 : 0 ≤ r_15.toInt ∧ r_15.toInt ≤ 1 := hw_16.1
  have hp_17 : (0 ≤ r_15.toInt + (-1)) → (0 ≤ x_5.toInt + (-3) ∧ 0 ≤ (-1) * x_5.toInt + 18) := by have e0 : (3 : Int32).toInt = 3 := (by decide); have e1 : (18 : Int32).toInt = 18 := (by decide); have h0 : (0 ≤ r_15.toInt + (-1)) → (0 ≤ x_5.toInt + (-1) * (3 : Int32).toInt ∧ 0 ≤ (18 : Int32).toInt + (-1) * x_5.toInt) := hw_16.2.1; omega
  have hp_18 : (0 ≤ x_5.toInt + (-3) ∧ 0 ≤ (-1) * x_5.toInt + 18) → (0 ≤ r_15.toInt + (-1)) := by have e0 : (3 : Int32).toInt = 3 := (by decide); have e1 : (18 : Int32).toInt = 18 := (by decide); have h0 : (0 ≤ x_5.toInt + (-1) * (3 : Int32).toInt ∧ 0 ≤ (18 : Int32).toInt + (-1) * x_5.toInt) → (0 ≤ r_15.toInt + (-1)) := hw_16.2.2; omega
  clear hw_16
  refine lv_if_eq (tgt := 34) hx hb dX11_spun_22 (by decide) (fun c_20 => ?_) (fun c_20 => ?_)
  · have hc_20 := o_eq (rfl : r_15.toInt = r_15.toInt) (by decide : (0 : Int32).toInt = 0) c_20
    clear hp_17
    refine lv_iconst (v := (-1)) hx hb dX11_spun_34 (by decide) ?_
    refine o_wq hQ ?_
    exact q_iret (rm := (Rm 1 22 0 0)) C hS (0, x_4, x_5, x_6, x_7) rfl ⟨(show (-1) ≤ ((-1) : Int32).toInt ∧ ((-1) : Int32).toInt ≤ 255 by decide), (show 0 ≤ x_4.toInt ∧ x_4.toInt ≤ 0 by omega), (show 0 ≤ x_5.toInt ∧ x_5.toInt ≤ 940 by omega), (show 0 ≤ x_6.toInt ∧ x_6.toInt ≤ 940 by omega), (show 0 ≤ x_7.toInt ∧ x_7.toInt ≤ 940 by omega), (show ((-1) : Int32).toInt = spA q_tape q_length.toInt from (sp_no (by decide) (by omega)))⟩ (q_subP hP [1, 0] rfl) (hD.sub [1, 0] (by decide) rfl) hroom.1 hroom.2 dX11_spun_35
  · have hc_20 := o_ne (rfl : r_15.toInt = r_15.toInt) (by decide : (0 : Int32).toInt = 0) c_20
    have hnc_20 : 0 ≤ r_15.toInt + (-1) := by rcases Int.lt_or_gt_of_ne hc_20 with h9 | h9 <;> omega
    have hp_17 := hp_17 (by omega)
    have hp_18 := hp_18 (by omega)
    refine lv_aload_n hx hb dX11_spun_25 rfl (lv_at hl 0 rfl) ?_
    refine q_get11 (v := .int x_5) C hP 1 3 rfl fT_3 (by decide) kF_RX11_18 rfl dX11_spun_26 ?_
    refine lv_iconst (v := 3) hx hb dX11_spun_29 (by decide) ?_
    refine lv_irem hx hb dX11_spun_30 (by decide) ?_
    refine lv_topi (fun z_21 hz_21 => ?_)
    have dz_21 := hz_21
    have hz_21 := o_rem hz_21 (rfl : x_5.toInt = x_5.toInt) (by decide : (3 : Int32).toInt = 3) (by omega) (by omega)
    have hq_21 : z_21.toInt = x_5.toInt % 3 := o_remx dz_21 rfl (by decide) (by omega) (by decide)
    refine lv_if_eq (tgt := 36) hx hb dX11_spun_31 (by decide) (fun c_23 => ?_) (fun c_23 => ?_)
    · have hc_23 := o_eq (rfl : z_21.toInt = z_21.toInt) (by decide : (0 : Int32).toInt = 0) c_23
      refine lv_iconst (v := 0) hx hb dX11_spun_36 (by decide) ?_
      have hq_23 : okU q_tape (0 : Int32).toInt := okU.zero (by decide)
      refine lv_istore_n (lv' := [(1, .int 0), (0, .ref q)]) hx hb dX11_spun_37 rfl hl (by decide) rfl (fun ls hl => ?_)
      have lp_38_25 : ∀ (n_26 : Nat) (x_25 : Int32) (H : Heap) (locs : List Loc) (ls : Array Slot), (-1) * x_25.toInt + 20 < (n_26 : Int) → (0 ≤ x_25.toInt ∧ x_25.toInt ≤ 20) → (0 ≤ x_5.toInt + (-1) * x_25.toInt + 2) → (okU q_tape x_25.toInt) → va_P D vwCl [(q_tape_, aC0 cy 940 q_tape), (q, oC11 0 q_tape_ x_4 x_5 x_6 x_7 q_s_ q_h_ q_read_ q_names_ q_reserved_ q_token q_at q_span q_number q_fault q_faultAt q_word q_got q_lines q_onces q_webs q_one q_two q_seed q_undone_ q_before_ q_undoMany q_far_ q_wayRow_ q_wayMany q_keptRow_ q_askedRow_ q_rares_ q_trial_ q_keptMany q_askedMany q_hangs_ q_paths_ q_tornSteps q_hasTorn q_turnOne q_hasTurn q_text_ q_textMany q_toldMany q_toldAt_ q_hasTold q_stack_ q_codes q_ones q_top q_deep q_isWhole q_truths_ q_imaged_ q_namesKept_ q_areKept_)] H → va_D A [(q_tape_, aC0 cy 940 q_tape), (q, oC11 0 q_tape_ x_4 x_5 x_6 x_7 q_s_ q_h_ q_read_ q_names_ q_reserved_ q_token q_at q_span q_number q_fault q_faultAt q_word q_got q_lines q_onces q_webs q_one q_two q_seed q_undone_ q_before_ q_undoMany q_far_ q_wayRow_ q_wayMany q_keptRow_ q_askedRow_ q_rares_ q_trial_ q_keptMany q_askedMany q_hangs_ q_paths_ q_tornSteps q_hasTorn q_turnOne q_hasTurn q_text_ q_textMany q_toldMany q_toldAt_ q_hasTold q_stack_ q_codes q_ones q_top q_deep q_isWhole q_truths_ q_imaged_ q_namesKept_ q_areKept_)] → va_S A s.heap H locs → lv_has ls 5 [(0, .ref q), (1, .int x_25)] → W p l e (Rm 1 22 0 0) s m args below meth c H locs cells slots Q (F0 m 38 ls []) := by
        intro n_26
        induction n_26 with
        | zero =>
          intro x_25 H locs ls hm_30 hf_27 hf_28 hf_29 hP hD hS hl
          exact absurd hm_30 (by omega)
        | succ n_26 ih_31 =>
          intro x_25 H locs ls hm_30 hf_27 hf_28 hf_29 hP hD hS hl
          refine lv_iload_n hx hb dX11_spun_38 rfl (lv_at hl 1 rfl) ?_
          refine lv_aload_n hx hb dX11_spun_39 rfl (lv_at hl 0 rfl) ?_
          refine q_get11 (v := .int x_5) C hP 1 3 rfl fT_3 (by decide) kF_RX11_18 rfl dX11_spun_40 ?_
          refine lv_icmp_ge (tgt := 92) hx hb dX11_spun_43 (by decide) (fun c_33 => ?_) (fun c_33 => ?_)
          · have hc_33 := o_le (rfl : x_5.toInt = x_5.toInt) (rfl : x_25.toInt = x_25.toInt) c_33
            have hq_33 := hf_29.1
            have hq_34 : okU q_tape x_5.toInt := okU.cast hf_29 (by omega)
            have hq_35 := hq_34.1
            refine lv_iconst (v := 0) hx hb dX11_spun_92 (by decide) ?_
            refine lv_istore_n (lv' := [(1, .int 0), (0, .ref q)]) hx hb dX11_spun_93 rfl hl (by decide) rfl (fun ls hl => ?_)
            refine lv_iconst (v := 1) hx hb dX11_spun_94 (by decide) ?_
            have hq_36 : (0 : Int32).toInt = svv (pn q_tape (x_5.toInt.toNat / 3) (1 : Int32).toNatClampNeg) := pn_one (by decide) (by decide)
            refine lv_istore_n (lv' := [(2, .int 1), (1, .int 0), (0, .ref q)]) hx hb dX11_spun_95 rfl hl (by decide) rfl (fun ls hl => ?_)
            have lp_96_39 : ∀ (n_40 : Nat) (x_38 : Int32) (x_39 : Int32) (H : Heap) (locs : List Loc) (ls : Array Slot), (-1) * x_39.toInt + 6 < (n_40 : Int) → (0 ≤ x_38.toInt ∧ x_38.toInt ≤ 255) → (1 ≤ x_39.toInt ∧ x_39.toInt ≤ 6) → (x_38.toInt = svv (pn q_tape (x_5.toInt.toNat / 3) x_39.toNatClampNeg)) → va_P D vwCl [(q_tape_, aC0 cy 940 q_tape), (q, oC11 0 q_tape_ x_4 x_5 x_6 x_7 q_s_ q_h_ q_read_ q_names_ q_reserved_ q_token q_at q_span q_number q_fault q_faultAt q_word q_got q_lines q_onces q_webs q_one q_two q_seed q_undone_ q_before_ q_undoMany q_far_ q_wayRow_ q_wayMany q_keptRow_ q_askedRow_ q_rares_ q_trial_ q_keptMany q_askedMany q_hangs_ q_paths_ q_tornSteps q_hasTorn q_turnOne q_hasTurn q_text_ q_textMany q_toldMany q_toldAt_ q_hasTold q_stack_ q_codes q_ones q_top q_deep q_isWhole q_truths_ q_imaged_ q_namesKept_ q_areKept_)] H → va_D A [(q_tape_, aC0 cy 940 q_tape), (q, oC11 0 q_tape_ x_4 x_5 x_6 x_7 q_s_ q_h_ q_read_ q_names_ q_reserved_ q_token q_at q_span q_number q_fault q_faultAt q_word q_got q_lines q_onces q_webs q_one q_two q_seed q_undone_ q_before_ q_undoMany q_far_ q_wayRow_ q_wayMany q_keptRow_ q_askedRow_ q_rares_ q_trial_ q_keptMany q_askedMany q_hangs_ q_paths_ q_tornSteps q_hasTorn q_turnOne q_hasTurn q_text_ q_textMany q_toldMany q_toldAt_ q_hasTold q_stack_ q_codes q_ones q_top q_deep q_isWhole q_truths_ q_imaged_ q_namesKept_ q_areKept_)] → va_S A s.heap H locs → lv_has ls 5 [(0, .ref q), (1, .int x_38), (2, .int x_39)] → W p l e (Rm 1 22 0 0) s m args below meth c H locs cells slots Q (F0 m 96 ls []) := by
              intro n_40
              induction n_40 with
              | zero =>
                intro x_38 x_39 H locs ls hm_44 hf_41 hf_42 hf_43 hP hD hS hl
                exact absurd hm_44 (by omega)
              | succ n_40 ih_45 =>
                intro x_38 x_39 H locs ls hm_44 hf_41 hf_42 hf_43 hP hD hS hl
                refine lv_iload_n hx hb dX11_spun_96 rfl (lv_at hl 2 rfl) ?_
                refine lv_bipush (v := 6) hx hb dX11_spun_97 (by decide) ?_
                refine lv_icmp_ge (tgt := 185) hx hb dX11_spun_99 (by decide) (fun c_47 => ?_) (fun c_47 => ?_)
                · have hc_47 := o_le (by decide : (6 : Int32).toInt = 6) (rfl : x_39.toInt = x_39.toInt) c_47
                  refine lv_iload_n hx hb dX11_spun_185 rfl (lv_at hl 1 rfl) ?_
                  refine o_wq hQ ?_
                  exact q_iret (rm := (Rm 1 22 0 0)) C hS (0, x_4, x_5, x_6, x_7) rfl ⟨(show (-1) ≤ x_38.toInt ∧ x_38.toInt ≤ 255 by omega), (show 0 ≤ x_4.toInt ∧ x_4.toInt ≤ 0 by omega), (show 0 ≤ x_5.toInt ∧ x_5.toInt ≤ 940 by omega), (show 0 ≤ x_6.toInt ∧ x_6.toInt ≤ 940 by omega), (show 0 ≤ x_7.toInt ∧ x_7.toInt ≤ 940 by omega), (show x_38.toInt = spA q_tape q_length.toInt from (sp_all hf_43 hq_34 (by omega) (by omega) (by omega) (by omega)))⟩ (q_subP hP [1, 0] rfl) (hD.sub [1, 0] (by decide) rfl) hroom.1 hroom.2 dX11_spun_186
                · have hc_47 := o_nle (by decide : (6 : Int32).toInt = 6) (rfl : x_39.toInt = x_39.toInt) c_47
                  refine lv_iconst (v := 1) hx hb dX11_spun_102 (by decide) ?_
                  refine lv_istore_n (lv' := [(3, .int 1), (0, .ref q), (1, .int x_38), (2, .int x_39)]) hx hb dX11_spun_103 rfl hl (by decide) rfl (fun ls hl => ?_)
                  refine lv_iconst (v := 0) hx hb dX11_spun_104 (by decide) ?_
                  have hq_47 : isU q_tape x_39.toNatClampNeg (1 : Int32).toInt (0 : Int32).toInt := isU.zero (by decide) (by decide)
                  refine lv_istore (lv' := [(4, .int 0), (3, .int 1), (0, .ref q), (1, .int x_38), (2, .int x_39)]) hx hb dX11_spun_105 hl (by decide) rfl (fun ls hl => ?_)
                  have lp_107_50 : ∀ (n_51 : Nat) (x_49 : Int32) (x_50 : Int32) (H : Heap) (locs : List Loc) (ls : Array Slot), (-1) * x_50.toInt + 20 < (n_51 : Int) → (0 ≤ x_49.toInt ∧ x_49.toInt ≤ 1) → (0 ≤ x_50.toInt ∧ x_50.toInt ≤ 20) → (0 ≤ x_5.toInt + (-1) * x_50.toInt + 2) → (isU q_tape x_39.toNatClampNeg x_49.toInt x_50.toInt) → va_P D vwCl [(q_tape_, aC0 cy 940 q_tape), (q, oC11 0 q_tape_ x_4 x_5 x_6 x_7 q_s_ q_h_ q_read_ q_names_ q_reserved_ q_token q_at q_span q_number q_fault q_faultAt q_word q_got q_lines q_onces q_webs q_one q_two q_seed q_undone_ q_before_ q_undoMany q_far_ q_wayRow_ q_wayMany q_keptRow_ q_askedRow_ q_rares_ q_trial_ q_keptMany q_askedMany q_hangs_ q_paths_ q_tornSteps q_hasTorn q_turnOne q_hasTurn q_text_ q_textMany q_toldMany q_toldAt_ q_hasTold q_stack_ q_codes q_ones q_top q_deep q_isWhole q_truths_ q_imaged_ q_namesKept_ q_areKept_)] H → va_D A [(q_tape_, aC0 cy 940 q_tape), (q, oC11 0 q_tape_ x_4 x_5 x_6 x_7 q_s_ q_h_ q_read_ q_names_ q_reserved_ q_token q_at q_span q_number q_fault q_faultAt q_word q_got q_lines q_onces q_webs q_one q_two q_seed q_undone_ q_before_ q_undoMany q_far_ q_wayRow_ q_wayMany q_keptRow_ q_askedRow_ q_rares_ q_trial_ q_keptMany q_askedMany q_hangs_ q_paths_ q_tornSteps q_hasTorn q_turnOne q_hasTurn q_text_ q_textMany q_toldMany q_toldAt_ q_hasTold q_stack_ q_codes q_ones q_top q_deep q_isWhole q_truths_ q_imaged_ q_namesKept_ q_areKept_)] → va_S A s.heap H locs → lv_has ls 5 [(0, .ref q), (1, .int x_38), (2, .int x_39), (3, .int x_49), (4, .int x_50)] → W p l e (Rm 1 22 0 0) s m args below meth c H locs cells slots Q (F0 m 107 ls []) := by
                    intro n_51
                    induction n_51 with
                    | zero =>
                      intro x_49 x_50 H locs ls hm_56 hf_52 hf_53 hf_54 hf_55 hP hD hS hl
                      exact absurd hm_56 (by omega)
                    | succ n_51 ih_57 =>
                      intro x_49 x_50 H locs ls hm_56 hf_52 hf_53 hf_54 hf_55 hP hD hS hl
                      refine lv_iload hx hb dX11_spun_107 (lv_at hl 4 rfl) ?_
                      refine lv_aload_n hx hb dX11_spun_109 rfl (lv_at hl 0 rfl) ?_
                      refine q_get11 (v := .int x_5) C hP 1 3 rfl fT_3 (by decide) kF_RX11_18 rfl dX11_spun_110 ?_
                      refine lv_icmp_ge (tgt := 165) hx hb dX11_spun_113 (by decide) (fun c_59 => ?_) (fun c_59 => ?_)
                      · have hc_59 := o_le (rfl : x_5.toInt = x_5.toInt) (rfl : x_50.toInt = x_50.toInt) c_59
                        have hq_59 := hf_55.1
                        refine lv_iload_n hx hb dX11_spun_165 rfl (lv_at hl 1 rfl) ?_
                        refine lv_iload_n hx hb dX11_spun_166 rfl (lv_at hl 3 rfl) ?_
                        refine lv_if_eq (tgt := 176) hx hb dX11_spun_167 (by decide) (fun c_61 => ?_) (fun c_61 => ?_)
                        · have hc_61 := o_eq (rfl : x_49.toInt = x_49.toInt) (by decide : (0 : Int32).toInt = 0) c_61
                          refine lv_iconst (v := 0) hx hb dX11_spun_176 (by decide) ?_
                          refine lv_ior hx hb dX11_spun_177 ?_
                          refine lv_topi (fun z_62 hz_62 => ?_)
                          have dz_62 := hz_62
                          have ez_62 := hz_62
                          have hz_62 := o_or 8 256 hz_62 (rfl : x_38.toInt = x_38.toInt) (by decide : (0 : Int32).toInt = 0) (by omega) (by omega) (by omega) (by omega) (by decide) (by decide)
                          refine lv_istore_n (lv' := [(1, .int z_62), (0, .ref q), (2, .int x_39), (3, .int x_49), (4, .int x_50)]) hx hb dX11_spun_178 rfl hl (by decide) rfl (fun ls hl => ?_)
                          obtain ⟨z_63, hz_63⟩ : ∃ z : Int32, z = x_39 + 1 := ⟨_, rfl⟩
                          refine lv_iinc (v := z_63) (lv' := [(2, .int z_63), (1, .int z_62), (0, .ref q), (3, .int x_49), (4, .int x_50)]) hx hb dX11_spun_179 hl (k := 2) rfl hz_63.symm (by decide) rfl (fun ls hl => ?_)
                          have hz_63 := o_add hz_63 (rfl : x_39.toInt = x_39.toInt) (by decide : (1 : Int32).toInt = 1) (by omega) (by omega)
                          have hq_63 : z_62.toInt = svv (pn q_tape (x_5.toInt.toNat / 3) z_63.toNatClampNeg) := pn_no hf_43 (isU.none hf_55 (by omega) (by omega)) (by omega) (by omega) dz_62
                          refine lv_goto (tgt := 96) hx hb dX11_spun_182 (by decide) ?_
                          exact ih_45 z_62 z_63 H locs ls (by omega) (by omega) (by omega) hq_63 hP hD hS (lv_sub hl [2, 1, 0] rfl)
                        · have hc_61 := o_ne (rfl : x_49.toInt = x_49.toInt) (by decide : (0 : Int32).toInt = 0) c_61
                          have hnc_61 : 0 ≤ x_49.toInt + (-1) := by rcases Int.lt_or_gt_of_ne hc_61 with h9 | h9 <;> omega
                          refine lv_iconst (v := 1) hx hb dX11_spun_170 (by decide) ?_
                          refine lv_iload_n hx hb dX11_spun_171 rfl (lv_at hl 2 rfl) ?_
                          refine lv_ishl hx hb dX11_spun_172 ?_
                          refine lv_topi (fun z_65 hz_65 => ?_)
                          have dz_65 := hz_65
                          have ez_65 := hz_65
                          have hz_65 := o_shl1 hz_65 (rfl : x_39.toInt = x_39.toInt) (by omega) (by omega)
                          refine lv_goto (tgt := 177) hx hb dX11_spun_173 (by decide) ?_
                          refine lv_ior hx hb dX11_spun_177 ?_
                          refine lv_topi (fun z_66 hz_66 => ?_)
                          have dz_66 := hz_66
                          have ez_66 := hz_66
                          have hz_66 := o_or 8 256 hz_66 (rfl : x_38.toInt = x_38.toInt) (rfl : z_65.toInt = z_65.toInt) (by omega) (by omega) (by omega) (by omega) (by decide) (by decide)
                          refine lv_istore_n (lv' := [(1, .int z_66), (0, .ref q), (2, .int x_39), (3, .int x_49), (4, .int x_50)]) hx hb dX11_spun_178 rfl hl (by decide) rfl (fun ls hl => ?_)
                          obtain ⟨z_67, hz_67⟩ : ∃ z : Int32, z = x_39 + 1 := ⟨_, rfl⟩
                          refine lv_iinc (v := z_67) (lv' := [(2, .int z_67), (1, .int z_66), (0, .ref q), (3, .int x_49), (4, .int x_50)]) hx hb dX11_spun_179 hl (k := 2) rfl hz_67.symm (by decide) rfl (fun ls hl => ?_)
                          have hz_67 := o_add hz_67 (rfl : x_39.toInt = x_39.toInt) (by decide : (1 : Int32).toInt = 1) (by omega) (by omega)
                          have hq_67 : z_66.toInt = svv (pn q_tape (x_5.toInt.toNat / 3) z_67.toNatClampNeg) := pn_yes hf_43 (isU.all hf_55 (by omega) (by omega)) (by omega) (by omega) (by omega) dz_65 dz_66
                          refine lv_goto (tgt := 96) hx hb dX11_spun_182 (by decide) ?_
                          exact ih_45 z_66 z_67 H locs ls (by omega) (by omega) (by omega) hq_67 hP hD hS (lv_sub hl [2, 1, 0] rfl)
                      · have hc_59 := o_nle (rfl : x_5.toInt = x_5.toInt) (rfl : x_50.toInt = x_50.toInt) c_59
                        refine lv_iload_n hx hb dX11_spun_116 rfl (lv_at hl 3 rfl) ?_
                        refine lv_if_eq (tgt := 157) hx hb dX11_spun_117 (by decide) (fun c_69 => ?_) (fun c_69 => ?_)
                        · have hc_69 := o_eq (rfl : x_49.toInt = x_49.toInt) (by decide : (0 : Int32).toInt = 0) c_69
                          refine lv_iconst (v := 0) hx hb dX11_spun_157 (by decide) ?_
                          refine lv_istore_n (lv' := [(3, .int 0), (0, .ref q), (1, .int x_38), (2, .int x_39), (4, .int x_50)]) hx hb dX11_spun_158 rfl hl (by decide) rfl (fun ls hl => ?_)
                          obtain ⟨z_70, hz_70⟩ : ∃ z : Int32, z = x_50 + 3 := ⟨_, rfl⟩
                          refine lv_iinc (v := z_70) (lv' := [(4, .int z_70), (3, .int 0), (0, .ref q), (1, .int x_38), (2, .int x_39)]) hx hb dX11_spun_159 hl (k := 4) rfl hz_70.symm (by decide) rfl (fun ls hl => ?_)
                          have hz_70 := o_add hz_70 (rfl : x_50.toInt = x_50.toInt) (by decide : (3 : Int32).toInt = 3) (by omega) (by omega)
                          have hq_70 : isU q_tape x_39.toNatClampNeg (0 : Int32).toInt z_70.toInt := isU.stay hf_55 (by omega) (by omega) (by decide) (by omega)
                          refine lv_goto (tgt := 107) hx hb dX11_spun_162 (by decide) ?_
                          exact ih_57 (0 : Int32) z_70 H locs ls (by have e0 : (0 : Int32).toInt = 0 := (by decide); omega) (by have e0 : (0 : Int32).toInt = 0 := (by decide); omega) (by have e0 : (0 : Int32).toInt = 0 := (by decide); omega) (by have e0 : (0 : Int32).toInt = 0 := (by decide); omega) hq_70 hP hD hS (lv_sub hl [2, 3, 4, 1, 0] rfl)
                        · have hc_69 := o_ne (rfl : x_49.toInt = x_49.toInt) (by decide : (0 : Int32).toInt = 0) c_69
                          have hnc_69 : 0 ≤ x_49.toInt + (-1) := by rcases Int.lt_or_gt_of_ne hc_69 with h9 | h9 <;> omega
                          refine lv_bipush (v := 99) hx hb dX11_spun_120 (by decide) ?_
                          refine lv_aload_n hx hb dX11_spun_122 rfl (lv_at hl 0 rfl) ?_
                          refine lv_iload hx hb dX11_spun_123 (lv_at hl 4 rfl) ?_
                          refine q_ai (wr := []) (r_V (rm := (Rm 0 0 0 0)) (q0 := 0) (As := [.int x_50]) (rest := [.int 99]) (wc := [(q, oC11 0 q_tape_ x_4 x_5 x_6 x_7 q_s_ q_h_ q_read_ q_names_ q_reserved_ q_token q_at q_span q_number q_fault q_faultAt q_word q_got q_lines q_onces q_webs q_one q_two q_seed q_undone_ q_before_ q_undoMany q_far_ q_wayRow_ q_wayMany q_keptRow_ q_askedRow_ q_rares_ q_trial_ q_keptMany q_askedMany q_hangs_ q_paths_ q_tornSteps q_hasTorn q_turnOne q_hasTurn q_text_ q_textMany q_toldMany q_toldAt_ q_hasTold q_stack_ q_codes q_ones q_top q_deep q_isWhole q_truths_ q_imaged_ q_namesKept_ q_areKept_), (q_tape_, aC0 cy 940 q_tape)]) C hS (q_subP hP [1, 0] rfl) (hD.sub [1, 0] (by decide) rfl) (y_octet l D cy q x_50 0 q_tape_ x_4 x_5 x_6 x_7 q_s_ q_h_ q_read_ q_names_ q_reserved_ q_token q_at q_span q_number q_fault q_faultAt q_word q_got q_lines q_onces q_webs q_one q_two q_seed q_undone_ q_before_ q_undoMany q_far_ q_wayRow_ q_wayMany q_keptRow_ q_askedRow_ q_rares_ q_trial_ q_keptMany q_askedMany q_hangs_ q_paths_ q_tornSteps q_hasTorn q_turnOne q_hasTurn q_text_ q_textMany q_toldMany q_toldAt_ q_hasTold q_stack_ q_codes q_ones q_top q_deep q_isWhole q_truths_ q_imaged_ q_namesKept_ q_areKept_ q_tape _ (by omega) (by omega) (by omega) (by omega) (by omega) (by omega) (by omega) (by omega) (by omega) (by omega) (by omega) (by omega) (by omega) (by omega) (by omega) (by omega) (by omega) (by omega) (by omega) (by omega) (by omega) (by omega) (by omega)) kwV_X11_octet kM_RX11_397 rfl rfl ⟨Nat.le_of_ble_eq_true rfl, Nat.le_of_ble_eq_true rfl⟩ rfl hl.1 rfl (Nat.le_of_ble_eq_true rfl) dX11_spun_125 ⟨hroom.1, hroom.2⟩) C.2.2.2.2.2.2.1 hP hD hS [1, 0] [] rfl rfl (by decide) (by decide) (fun r_73 u_72 H locs hw_74 hP hD hS => ?_)
                          have hp_74 : 0 ≤ r_73.toInt ∧ r_73.toInt ≤ 255 := hw_74.1
                          have hp_75 : r_73 = oc q_tape x_50 := hw_74.2
                          clear hw_74
                          refine lv_iload_n hx hb dX11_spun_128 rfl (lv_at hl 2 rfl) ?_
                          refine lv_aload_n hx hb dX11_spun_129 rfl (lv_at hl 0 rfl) ?_
                          refine lv_iload hx hb dX11_spun_130 (lv_at hl 4 rfl) ?_
                          refine lv_iconst (v := 1) hx hb dX11_spun_132 (by decide) ?_
                          refine lv_iadd hx hb dX11_spun_133 ?_
                          refine lv_topi (fun z_77 hz_77 => ?_)
                          have dz_77 := hz_77
                          have hz_77 := o_add hz_77 (rfl : x_50.toInt = x_50.toInt) (by decide : (1 : Int32).toInt = 1) (by omega) (by omega)
                          refine q_ai (wr := []) (r_V (rm := (Rm 0 0 0 0)) (q0 := 0) (As := [.int z_77]) (rest := [.int x_39, .int r_73, .int 99]) (wc := [(q, oC11 0 q_tape_ x_4 x_5 x_6 x_7 q_s_ q_h_ q_read_ q_names_ q_reserved_ q_token q_at q_span q_number q_fault q_faultAt q_word q_got q_lines q_onces q_webs q_one q_two q_seed q_undone_ q_before_ q_undoMany q_far_ q_wayRow_ q_wayMany q_keptRow_ q_askedRow_ q_rares_ q_trial_ q_keptMany q_askedMany q_hangs_ q_paths_ q_tornSteps q_hasTorn q_turnOne q_hasTurn q_text_ q_textMany q_toldMany q_toldAt_ q_hasTold q_stack_ q_codes q_ones q_top q_deep q_isWhole q_truths_ q_imaged_ q_namesKept_ q_areKept_), (q_tape_, aC0 cy 940 q_tape)]) C hS (q_subP hP [0, 1] rfl) (hD.sub [0, 1] (by decide) rfl) (y_octet l D cy q z_77 0 q_tape_ x_4 x_5 x_6 x_7 q_s_ q_h_ q_read_ q_names_ q_reserved_ q_token q_at q_span q_number q_fault q_faultAt q_word q_got q_lines q_onces q_webs q_one q_two q_seed q_undone_ q_before_ q_undoMany q_far_ q_wayRow_ q_wayMany q_keptRow_ q_askedRow_ q_rares_ q_trial_ q_keptMany q_askedMany q_hangs_ q_paths_ q_tornSteps q_hasTorn q_turnOne q_hasTurn q_text_ q_textMany q_toldMany q_toldAt_ q_hasTold q_stack_ q_codes q_ones q_top q_deep q_isWhole q_truths_ q_imaged_ q_namesKept_ q_areKept_ q_tape _ (by omega) (by omega) (by omega) (by omega) (by omega) (by omega) (by omega) (by omega) (by omega) (by omega) (by omega) (by omega) (by omega) (by omega) (by omega) (by omega) (by omega) (by omega) (by omega) (by omega) (by omega) (by omega) (by omega)) kwV_X11_octet kM_RX11_397 rfl rfl ⟨Nat.le_of_ble_eq_true rfl, Nat.le_of_ble_eq_true rfl⟩ rfl hl.1 rfl (Nat.le_of_ble_eq_true rfl) dX11_spun_134 ⟨hroom.1, hroom.2⟩) C.2.2.2.2.2.2.1 hP hD hS [0, 1] [] rfl rfl (by decide) (by decide) (fun r_79 u_78 H locs hw_80 hP hD hS => ?_)
                          have hp_80 : 0 ≤ r_79.toInt ∧ r_79.toInt ≤ 255 := hw_80.1
                          have hp_81 : r_79 = oc q_tape z_77 := hw_80.2
                          clear hw_80
                          refine lv_imul hx hb dX11_spun_137 ?_
                          refine lv_topi (fun z_83 hz_83 => ?_)
                          have dz_83 := hz_83
                          have hz_83 := o_mulv 5 255 hz_83 (rfl : x_39.toInt = x_39.toInt) (rfl : r_79.toInt = r_79.toInt) (by omega) (by omega) (by omega) (by omega) (by decide)
                          refine lv_iadd hx hb dX11_spun_138 ?_
                          refine lv_topi (fun z_84 hz_84 => ?_)
                          have dz_84 := hz_84
                          have hz_84 := o_add hz_84 (rfl : r_73.toInt = r_73.toInt) (rfl : z_83.toInt = z_83.toInt) (by omega) (by omega)
                          refine q_ai (wr := [(q, oC11 0 q_tape_ x_4 x_5 x_6 x_7 q_s_ q_h_ q_read_ q_names_ q_reserved_ q_token q_at q_span q_number q_fault q_faultAt q_word q_got q_lines q_onces q_webs q_one q_two q_seed q_undone_ q_before_ q_undoMany q_far_ q_wayRow_ q_wayMany q_keptRow_ q_askedRow_ q_rares_ q_trial_ q_keptMany q_askedMany q_hangs_ q_paths_ q_tornSteps q_hasTorn q_turnOne q_hasTurn q_text_ q_textMany q_toldMany q_toldAt_ q_hasTold q_stack_ q_codes q_ones q_top q_deep q_isWhole q_truths_ q_imaged_ q_namesKept_ q_areKept_), (q_tape_, aC0 cy 940 q_tape)]) (r_S (rm := (Rm 0 0 0 0)) (As := [.int 99, .int z_84]) (rest := []) (wc := []) C hS (q_subP hP [] rfl) (hD.sub [] (by decide) rfl) (y_lesser l D cy 99 z_84 _ ) kwS_X11_lesser kM_RX11_294 ⟨Nat.le_of_ble_eq_true rfl, Nat.le_of_ble_eq_true rfl⟩ rfl hl.1 rfl (Nat.le_of_ble_eq_true rfl) dX11_spun_139 ⟨hroom.1, hroom.2⟩) C.2.2.2.2.2.2.1 hP hD hS [] [0, 1] rfl rfl (by decide) (by decide) (fun r_86 u_85 H locs hw_87 hP hD hS => ?_)
                          have hp_87 : 0 ≤ (-1) * r_86.toInt + 99 ∧ 0 ≤ z_84.toInt + (-1) * r_86.toInt := by have e0 : (99 : Int32).toInt = 99 := (by decide); have h0 : 0 ≤ (99 : Int32).toInt + (-1) * r_86.toInt ∧ 0 ≤ z_84.toInt + (-1) * r_86.toInt := hw_87.1; omega
                          have hp_88 : Hd ((r_86.toInt = (99 : Int32).toInt ∧ (99 : Int32).toInt ≤ z_84.toInt) ∨ (r_86.toInt = z_84.toInt ∧ z_84.toInt ≤ (99 : Int32).toInt)) := hw_87.2.1
                          have hp_89 : (0 ≤ 99 ∧ 0 ≤ z_84.toInt) → (0 ≤ r_86.toInt) := by have e0 : (99 : Int32).toInt = 99 := (by decide); have h0 : (0 ≤ (99 : Int32).toInt ∧ 0 ≤ z_84.toInt) → (0 ≤ r_86.toInt) := hw_87.2.2; omega
                          have hp_89 := hp_89 (by omega)
                          clear hw_87
                          refine lv_aload_n hx hb dX11_spun_142 rfl (lv_at hl 0 rfl) ?_
                          refine lv_iload hx hb dX11_spun_143 (lv_at hl 4 rfl) ?_
                          refine lv_iconst (v := 2) hx hb dX11_spun_145 (by decide) ?_
                          refine lv_iadd hx hb dX11_spun_146 ?_
                          refine lv_topi (fun z_91 hz_91 => ?_)
                          have dz_91 := hz_91
                          have hz_91 := o_add hz_91 (rfl : x_50.toInt = x_50.toInt) (by decide : (2 : Int32).toInt = 2) (by omega) (by omega)
                          refine q_ai (wr := []) (r_V (rm := (Rm 0 0 0 0)) (q0 := 0) (As := [.int z_91]) (rest := [.int r_86]) (wc := [(q, oC11 0 q_tape_ x_4 x_5 x_6 x_7 q_s_ q_h_ q_read_ q_names_ q_reserved_ q_token q_at q_span q_number q_fault q_faultAt q_word q_got q_lines q_onces q_webs q_one q_two q_seed q_undone_ q_before_ q_undoMany q_far_ q_wayRow_ q_wayMany q_keptRow_ q_askedRow_ q_rares_ q_trial_ q_keptMany q_askedMany q_hangs_ q_paths_ q_tornSteps q_hasTorn q_turnOne q_hasTurn q_text_ q_textMany q_toldMany q_toldAt_ q_hasTold q_stack_ q_codes q_ones q_top q_deep q_isWhole q_truths_ q_imaged_ q_namesKept_ q_areKept_), (q_tape_, aC0 cy 940 q_tape)]) C hS (q_subP hP [0, 1] rfl) (hD.sub [0, 1] (by decide) rfl) (y_octet l D cy q z_91 0 q_tape_ x_4 x_5 x_6 x_7 q_s_ q_h_ q_read_ q_names_ q_reserved_ q_token q_at q_span q_number q_fault q_faultAt q_word q_got q_lines q_onces q_webs q_one q_two q_seed q_undone_ q_before_ q_undoMany q_far_ q_wayRow_ q_wayMany q_keptRow_ q_askedRow_ q_rares_ q_trial_ q_keptMany q_askedMany q_hangs_ q_paths_ q_tornSteps q_hasTorn q_turnOne q_hasTurn q_text_ q_textMany q_toldMany q_toldAt_ q_hasTold q_stack_ q_codes q_ones q_top q_deep q_isWhole q_truths_ q_imaged_ q_namesKept_ q_areKept_ q_tape _ (by omega) (by omega) (by omega) (by omega) (by omega) (by omega) (by omega) (by omega) (by omega) (by omega) (by omega) (by omega) (by omega) (by omega) (by omega) (by omega) (by omega) (by omega) (by omega) (by omega) (by omega) (by omega) (by omega)) kwV_X11_octet kM_RX11_397 rfl rfl ⟨Nat.le_of_ble_eq_true rfl, Nat.le_of_ble_eq_true rfl⟩ rfl hl.1 rfl (Nat.le_of_ble_eq_true rfl) dX11_spun_147 ⟨hroom.1, hroom.2⟩) C.2.2.2.2.2.2.1 hP hD hS [0, 1] [] rfl rfl (by decide) (by decide) (fun r_93 u_92 H locs hw_94 hP hD hS => ?_)
                          have hp_94 : 0 ≤ r_93.toInt ∧ r_93.toInt ≤ 255 := hw_94.1
                          have hp_95 : r_93 = oc q_tape z_91 := hw_94.2
                          clear hw_94
                          refine lv_icmp_ne (tgt := 157) hx hb dX11_spun_150 (by decide) (fun c_97 => ?_) (fun c_97 => ?_)
                          · have hc_97 := o_ne (rfl : r_86.toInt = r_86.toInt) (rfl : r_93.toInt = r_93.toInt) c_97
                            refine lv_iconst (v := 0) hx hb dX11_spun_157 (by decide) ?_
                            refine lv_istore_n (lv' := [(3, .int 0), (0, .ref q), (1, .int x_38), (2, .int x_39), (4, .int x_50)]) hx hb dX11_spun_158 rfl hl (by decide) rfl (fun ls hl => ?_)
                            obtain ⟨z_98, hz_98⟩ : ∃ z : Int32, z = x_50 + 3 := ⟨_, rfl⟩
                            refine lv_iinc (v := z_98) (lv' := [(4, .int z_98), (3, .int 0), (0, .ref q), (1, .int x_38), (2, .int x_39)]) hx hb dX11_spun_159 hl (k := 4) rfl hz_98.symm (by decide) rfl (fun ls hl => ?_)
                            have hz_98 := o_add hz_98 (rfl : x_50.toInt = x_50.toInt) (by decide : (3 : Int32).toInt = 3) (by omega) (by omega)
                            have hq_98 := o_mulx dz_83 (rfl : x_39.toInt = x_39.toInt) (rfl : r_79.toInt = r_79.toInt) (by omega) (by omega) (by omega) (by omega)
                            have hq_99 : isU q_tape x_39.toNatClampNeg (0 : Int32).toInt z_98.toInt := isU.step (z := z_83) (m := r_86) hf_55 (by omega) (by omega) (by omega) rfl hp_75 (by omega) hp_81 (by omega) hp_95 hq_98 (by have e9 : (99 : Int32).toInt = 99 := (by decide); have q9 := Hd.un hp_88; omega) (Or.inr ⟨by omega, by decide⟩) (by omega)
                            refine lv_goto (tgt := 107) hx hb dX11_spun_162 (by decide) ?_
                            exact ih_57 (0 : Int32) z_98 H locs ls (by have e0 : (0 : Int32).toInt = 0 := (by decide); omega) (by have e0 : (0 : Int32).toInt = 0 := (by decide); omega) (by have e0 : (0 : Int32).toInt = 0 := (by decide); omega) (by have e0 : (0 : Int32).toInt = 0 := (by decide); omega) hq_99 (q_subP hP [1, 0] rfl) (hD.sub [1, 0] (by decide) rfl) hS (lv_sub hl [2, 3, 4, 1, 0] rfl)
                          · have hc_97 := o_eq (rfl : r_86.toInt = r_86.toInt) (rfl : r_93.toInt = r_93.toInt) c_97
                            refine lv_iconst (v := 1) hx hb dX11_spun_153 (by decide) ?_
                            refine lv_goto (tgt := 158) hx hb dX11_spun_154 (by decide) ?_
                            refine lv_istore_n (lv' := [(3, .int 1), (0, .ref q), (1, .int x_38), (2, .int x_39), (4, .int x_50)]) hx hb dX11_spun_158 rfl hl (by decide) rfl (fun ls hl => ?_)
                            obtain ⟨z_101, hz_101⟩ : ∃ z : Int32, z = x_50 + 3 := ⟨_, rfl⟩
                            refine lv_iinc (v := z_101) (lv' := [(4, .int z_101), (3, .int 1), (0, .ref q), (1, .int x_38), (2, .int x_39)]) hx hb dX11_spun_159 hl (k := 4) rfl hz_101.symm (by decide) rfl (fun ls hl => ?_)
                            have hz_101 := o_add hz_101 (rfl : x_50.toInt = x_50.toInt) (by decide : (3 : Int32).toInt = 3) (by omega) (by omega)
                            have hq_101 := o_mulx dz_83 (rfl : x_39.toInt = x_39.toInt) (rfl : r_79.toInt = r_79.toInt) (by omega) (by omega) (by omega) (by omega)
                            have hq_102 : isU q_tape x_39.toNatClampNeg (1 : Int32).toInt z_101.toInt := isU.step (z := z_83) (m := r_86) hf_55 (by omega) (by omega) (by omega) rfl hp_75 (by omega) hp_81 (by omega) hp_95 hq_101 (by have e9 : (99 : Int32).toInt = 99 := (by decide); have q9 := Hd.un hp_88; omega) (Or.inl ⟨by omega, by decide⟩) (by omega)
                            refine lv_goto (tgt := 107) hx hb dX11_spun_162 (by decide) ?_
                            exact ih_57 (1 : Int32) z_101 H locs ls (by have e0 : (1 : Int32).toInt = 1 := (by decide); omega) (by have e0 : (1 : Int32).toInt = 1 := (by decide); omega) (by have e0 : (1 : Int32).toInt = 1 := (by decide); omega) (by have e0 : (1 : Int32).toInt = 1 := (by decide); omega) hq_102 (q_subP hP [1, 0] rfl) (hD.sub [1, 0] (by decide) rfl) hS (lv_sub hl [2, 3, 4, 1, 0] rfl)
                  exact lp_107_50 21 (1 : Int32) (0 : Int32) H locs ls (by have e0 : (0 : Int32).toInt = 0 := (by decide); have e1 : (1 : Int32).toInt = 1 := (by decide); omega) (by have e0 : (0 : Int32).toInt = 0 := (by decide); have e1 : (1 : Int32).toInt = 1 := (by decide); omega) (by have e0 : (0 : Int32).toInt = 0 := (by decide); have e1 : (1 : Int32).toInt = 1 := (by decide); omega) (by have e0 : (0 : Int32).toInt = 0 := (by decide); have e1 : (1 : Int32).toInt = 1 := (by decide); omega) hq_47 hP hD hS (lv_sub hl [2, 3, 4, 1, 0] rfl)
            exact lp_96_39 6 (0 : Int32) (1 : Int32) H locs ls (by have e0 : (0 : Int32).toInt = 0 := (by decide); have e1 : (1 : Int32).toInt = 1 := (by decide); omega) (by have e0 : (0 : Int32).toInt = 0 := (by decide); have e1 : (1 : Int32).toInt = 1 := (by decide); omega) (by have e0 : (0 : Int32).toInt = 0 := (by decide); have e1 : (1 : Int32).toInt = 1 := (by decide); omega) hq_36 hP hD hS (lv_sub hl [2, 1, 0] rfl)
          · have hc_33 := o_nle (rfl : x_5.toInt = x_5.toInt) (rfl : x_25.toInt = x_25.toInt) c_33
            have hq_103 := hf_29.1
            refine lv_aload_n hx hb dX11_spun_46 rfl (lv_at hl 0 rfl) ?_
            refine lv_iload_n hx hb dX11_spun_47 rfl (lv_at hl 1 rfl) ?_
            refine q_ai (wr := []) (r_V (rm := (Rm 0 0 0 0)) (q0 := 0) (As := [.int x_25]) (rest := []) (wc := [(q, oC11 0 q_tape_ x_4 x_5 x_6 x_7 q_s_ q_h_ q_read_ q_names_ q_reserved_ q_token q_at q_span q_number q_fault q_faultAt q_word q_got q_lines q_onces q_webs q_one q_two q_seed q_undone_ q_before_ q_undoMany q_far_ q_wayRow_ q_wayMany q_keptRow_ q_askedRow_ q_rares_ q_trial_ q_keptMany q_askedMany q_hangs_ q_paths_ q_tornSteps q_hasTorn q_turnOne q_hasTurn q_text_ q_textMany q_toldMany q_toldAt_ q_hasTold q_stack_ q_codes q_ones q_top q_deep q_isWhole q_truths_ q_imaged_ q_namesKept_ q_areKept_), (q_tape_, aC0 cy 940 q_tape)]) C hS (q_subP hP [1, 0] rfl) (hD.sub [1, 0] (by decide) rfl) (y_octet l D cy q x_25 0 q_tape_ x_4 x_5 x_6 x_7 q_s_ q_h_ q_read_ q_names_ q_reserved_ q_token q_at q_span q_number q_fault q_faultAt q_word q_got q_lines q_onces q_webs q_one q_two q_seed q_undone_ q_before_ q_undoMany q_far_ q_wayRow_ q_wayMany q_keptRow_ q_askedRow_ q_rares_ q_trial_ q_keptMany q_askedMany q_hangs_ q_paths_ q_tornSteps q_hasTorn q_turnOne q_hasTurn q_text_ q_textMany q_toldMany q_toldAt_ q_hasTold q_stack_ q_codes q_ones q_top q_deep q_isWhole q_truths_ q_imaged_ q_namesKept_ q_areKept_ q_tape _ (by omega) (by omega) (by omega) (by omega) (by omega) (by omega) (by omega) (by omega) (by omega) (by omega) (by omega) (by omega) (by omega) (by omega) (by omega) (by omega) (by omega) (by omega) (by omega) (by omega) (by omega) (by omega) (by omega)) kwV_X11_octet kM_RX11_397 rfl rfl ⟨Nat.le_of_ble_eq_true rfl, Nat.le_of_ble_eq_true rfl⟩ rfl hl.1 rfl (Nat.le_of_ble_eq_true rfl) dX11_spun_48 ⟨hroom.1, hroom.2⟩) C.2.2.2.2.2.2.1 hP hD hS [1, 0] [] rfl rfl (by decide) (by decide) (fun r_106 u_105 H locs hw_107 hP hD hS => ?_)
            have hp_107 : 0 ≤ r_106.toInt ∧ r_106.toInt ≤ 255 := hw_107.1
            have hp_108 : r_106 = oc q_tape x_25 := hw_107.2
            clear hw_107
            refine lv_bipush (v := 99) hx hb dX11_spun_51 (by decide) ?_
            refine lv_icmp_gt (tgt := 84) hx hb dX11_spun_53 (by decide) (fun c_110 => ?_) (fun c_110 => ?_)
            · have hc_110 := o_lt (by decide : (99 : Int32).toInt = 99) (rfl : r_106.toInt = r_106.toInt) c_110
              refine lv_iconst (v := (-1)) hx hb dX11_spun_84 (by decide) ?_
              refine o_wq hQ ?_
              exact q_iret (rm := (Rm 1 22 0 0)) C hS (0, x_4, x_5, x_6, x_7) rfl ⟨(show (-1) ≤ ((-1) : Int32).toInt ∧ ((-1) : Int32).toInt ≤ 255 by decide), (show 0 ≤ x_4.toInt ∧ x_4.toInt ≤ 0 by omega), (show 0 ≤ x_5.toInt ∧ x_5.toInt ≤ 940 by omega), (show 0 ≤ x_6.toInt ∧ x_6.toInt ≤ 940 by omega), (show 0 ≤ x_7.toInt ∧ x_7.toInt ≤ 940 by omega), (show ((-1) : Int32).toInt = spA q_tape q_length.toInt from (sp_bad (by decide) hf_29 (ok_no1 hf_29 (by omega) rfl hp_108 (by omega)) (by omega) (by omega) (by omega)))⟩ (q_subP hP [0, 1] rfl) (hD.sub [0, 1] (by decide) rfl) hroom.1 hroom.2 dX11_spun_85
            · have hc_110 := o_nlt (by decide : (99 : Int32).toInt = 99) (rfl : r_106.toInt = r_106.toInt) c_110
              refine lv_aload_n hx hb dX11_spun_56 rfl (lv_at hl 0 rfl) ?_
              refine lv_iload_n hx hb dX11_spun_57 rfl (lv_at hl 1 rfl) ?_
              refine lv_iconst (v := 1) hx hb dX11_spun_58 (by decide) ?_
              refine lv_iadd hx hb dX11_spun_59 ?_
              refine lv_topi (fun z_111 hz_111 => ?_)
              have dz_111 := hz_111
              have hz_111 := o_add hz_111 (rfl : x_25.toInt = x_25.toInt) (by decide : (1 : Int32).toInt = 1) (by omega) (by omega)
              refine q_ai (wr := []) (r_V (rm := (Rm 0 0 0 0)) (q0 := 0) (As := [.int z_111]) (rest := []) (wc := [(q, oC11 0 q_tape_ x_4 x_5 x_6 x_7 q_s_ q_h_ q_read_ q_names_ q_reserved_ q_token q_at q_span q_number q_fault q_faultAt q_word q_got q_lines q_onces q_webs q_one q_two q_seed q_undone_ q_before_ q_undoMany q_far_ q_wayRow_ q_wayMany q_keptRow_ q_askedRow_ q_rares_ q_trial_ q_keptMany q_askedMany q_hangs_ q_paths_ q_tornSteps q_hasTorn q_turnOne q_hasTurn q_text_ q_textMany q_toldMany q_toldAt_ q_hasTold q_stack_ q_codes q_ones q_top q_deep q_isWhole q_truths_ q_imaged_ q_namesKept_ q_areKept_), (q_tape_, aC0 cy 940 q_tape)]) C hS (q_subP hP [0, 1] rfl) (hD.sub [0, 1] (by decide) rfl) (y_octet l D cy q z_111 0 q_tape_ x_4 x_5 x_6 x_7 q_s_ q_h_ q_read_ q_names_ q_reserved_ q_token q_at q_span q_number q_fault q_faultAt q_word q_got q_lines q_onces q_webs q_one q_two q_seed q_undone_ q_before_ q_undoMany q_far_ q_wayRow_ q_wayMany q_keptRow_ q_askedRow_ q_rares_ q_trial_ q_keptMany q_askedMany q_hangs_ q_paths_ q_tornSteps q_hasTorn q_turnOne q_hasTurn q_text_ q_textMany q_toldMany q_toldAt_ q_hasTold q_stack_ q_codes q_ones q_top q_deep q_isWhole q_truths_ q_imaged_ q_namesKept_ q_areKept_ q_tape _ (by omega) (by omega) (by omega) (by omega) (by omega) (by omega) (by omega) (by omega) (by omega) (by omega) (by omega) (by omega) (by omega) (by omega) (by omega) (by omega) (by omega) (by omega) (by omega) (by omega) (by omega) (by omega) (by omega)) kwV_X11_octet kM_RX11_397 rfl rfl ⟨Nat.le_of_ble_eq_true rfl, Nat.le_of_ble_eq_true rfl⟩ rfl hl.1 rfl (Nat.le_of_ble_eq_true rfl) dX11_spun_60 ⟨hroom.1, hroom.2⟩) C.2.2.2.2.2.2.1 hP hD hS [0, 1] [] rfl rfl (by decide) (by decide) (fun r_113 u_112 H locs hw_114 hP hD hS => ?_)
              have hp_114 : 0 ≤ r_113.toInt ∧ r_113.toInt ≤ 255 := hw_114.1
              have hp_115 : r_113 = oc q_tape z_111 := hw_114.2
              clear hw_114
              refine lv_iconst (v := 1) hx hb dX11_spun_63 (by decide) ?_
              refine lv_bipush (v := 99) hx hb dX11_spun_64 (by decide) ?_
              refine q_ai (wr := [(q, oC11 0 q_tape_ x_4 x_5 x_6 x_7 q_s_ q_h_ q_read_ q_names_ q_reserved_ q_token q_at q_span q_number q_fault q_faultAt q_word q_got q_lines q_onces q_webs q_one q_two q_seed q_undone_ q_before_ q_undoMany q_far_ q_wayRow_ q_wayMany q_keptRow_ q_askedRow_ q_rares_ q_trial_ q_keptMany q_askedMany q_hangs_ q_paths_ q_tornSteps q_hasTorn q_turnOne q_hasTurn q_text_ q_textMany q_toldMany q_toldAt_ q_hasTold q_stack_ q_codes q_ones q_top q_deep q_isWhole q_truths_ q_imaged_ q_namesKept_ q_areKept_), (q_tape_, aC0 cy 940 q_tape)]) (r_S (rm := (Rm 0 0 0 0)) (As := [.int r_113, .int 1, .int 99]) (rest := []) (wc := []) C hS (q_subP hP [] rfl) (hD.sub [] (by decide) rfl) (y_isIn l D cy r_113 1 99 _ ) kwS_X11_isIn kM_RX11_206 ⟨Nat.le_of_ble_eq_true rfl, Nat.le_of_ble_eq_true rfl⟩ rfl hl.1 rfl (Nat.le_of_ble_eq_true rfl) dX11_spun_66 ⟨hroom.1, hroom.2⟩) C.2.2.2.2.2.2.1 hP hD hS [] [0, 1] rfl rfl (by decide) (by decide) (fun r_118 u_117 H locs hw_119 hP hD hS => ?_)
              have hp_119 : 0 ≤ r_118.toInt ∧ r_118.toInt ≤ 1 := hw_119.1
              have hp_120 : (0 ≤ r_118.toInt + (-1)) → (0 ≤ r_113.toInt + (-1) ∧ 0 ≤ (-1) * r_113.toInt + 99) := by have e0 : (1 : Int32).toInt = 1 := (by decide); have e1 : (99 : Int32).toInt = 99 := (by decide); have h0 : (0 ≤ r_118.toInt + (-1)) → (0 ≤ r_113.toInt + (-1) * (1 : Int32).toInt ∧ 0 ≤ (99 : Int32).toInt + (-1) * r_113.toInt) := hw_119.2.1; omega
              have hp_121 : (0 ≤ r_113.toInt + (-1) ∧ 0 ≤ (-1) * r_113.toInt + 99) → (0 ≤ r_118.toInt + (-1)) := by have e0 : (1 : Int32).toInt = 1 := (by decide); have e1 : (99 : Int32).toInt = 99 := (by decide); have h0 : (0 ≤ r_113.toInt + (-1) * (1 : Int32).toInt ∧ 0 ≤ (99 : Int32).toInt + (-1) * r_113.toInt) → (0 ≤ r_118.toInt + (-1)) := hw_119.2.2; omega
              clear hw_119
              refine lv_if_eq (tgt := 84) hx hb dX11_spun_69 (by decide) (fun c_123 => ?_) (fun c_123 => ?_)
              · have hc_123 := o_eq (rfl : r_118.toInt = r_118.toInt) (by decide : (0 : Int32).toInt = 0) c_123
                clear hp_120
                refine lv_iconst (v := (-1)) hx hb dX11_spun_84 (by decide) ?_
                refine o_wq hQ ?_
                exact q_iret (rm := (Rm 1 22 0 0)) C hS (0, x_4, x_5, x_6, x_7) rfl ⟨(show (-1) ≤ ((-1) : Int32).toInt ∧ ((-1) : Int32).toInt ≤ 255 by decide), (show 0 ≤ x_4.toInt ∧ x_4.toInt ≤ 0 by omega), (show 0 ≤ x_5.toInt ∧ x_5.toInt ≤ 940 by omega), (show 0 ≤ x_6.toInt ∧ x_6.toInt ≤ 940 by omega), (show 0 ≤ x_7.toInt ∧ x_7.toInt ≤ 940 by omega), (show ((-1) : Int32).toInt = spA q_tape q_length.toInt from (sp_bad (by decide) hf_29 (ok_no2 hf_29 (by omega) (by omega) hp_115 (by omega)) (by omega) (by omega) (by omega)))⟩ (q_subP hP [0, 1] rfl) (hD.sub [0, 1] (by decide) rfl) hroom.1 hroom.2 dX11_spun_85
              · have hc_123 := o_ne (rfl : r_118.toInt = r_118.toInt) (by decide : (0 : Int32).toInt = 0) c_123
                have hnc_123 : 0 ≤ r_118.toInt + (-1) := by rcases Int.lt_or_gt_of_ne hc_123 with h9 | h9 <;> omega
                have hp_120 := hp_120 (by omega)
                have hp_121 := hp_121 (by omega)
                refine lv_aload_n hx hb dX11_spun_72 rfl (lv_at hl 0 rfl) ?_
                refine lv_iload_n hx hb dX11_spun_73 rfl (lv_at hl 1 rfl) ?_
                refine lv_iconst (v := 2) hx hb dX11_spun_74 (by decide) ?_
                refine lv_iadd hx hb dX11_spun_75 ?_
                refine lv_topi (fun z_124 hz_124 => ?_)
                have dz_124 := hz_124
                have hz_124 := o_add hz_124 (rfl : x_25.toInt = x_25.toInt) (by decide : (2 : Int32).toInt = 2) (by omega) (by omega)
                refine q_ai (wr := []) (r_V (rm := (Rm 0 0 0 0)) (q0 := 0) (As := [.int z_124]) (rest := []) (wc := [(q, oC11 0 q_tape_ x_4 x_5 x_6 x_7 q_s_ q_h_ q_read_ q_names_ q_reserved_ q_token q_at q_span q_number q_fault q_faultAt q_word q_got q_lines q_onces q_webs q_one q_two q_seed q_undone_ q_before_ q_undoMany q_far_ q_wayRow_ q_wayMany q_keptRow_ q_askedRow_ q_rares_ q_trial_ q_keptMany q_askedMany q_hangs_ q_paths_ q_tornSteps q_hasTorn q_turnOne q_hasTurn q_text_ q_textMany q_toldMany q_toldAt_ q_hasTold q_stack_ q_codes q_ones q_top q_deep q_isWhole q_truths_ q_imaged_ q_namesKept_ q_areKept_), (q_tape_, aC0 cy 940 q_tape)]) C hS (q_subP hP [0, 1] rfl) (hD.sub [0, 1] (by decide) rfl) (y_octet l D cy q z_124 0 q_tape_ x_4 x_5 x_6 x_7 q_s_ q_h_ q_read_ q_names_ q_reserved_ q_token q_at q_span q_number q_fault q_faultAt q_word q_got q_lines q_onces q_webs q_one q_two q_seed q_undone_ q_before_ q_undoMany q_far_ q_wayRow_ q_wayMany q_keptRow_ q_askedRow_ q_rares_ q_trial_ q_keptMany q_askedMany q_hangs_ q_paths_ q_tornSteps q_hasTorn q_turnOne q_hasTurn q_text_ q_textMany q_toldMany q_toldAt_ q_hasTold q_stack_ q_codes q_ones q_top q_deep q_isWhole q_truths_ q_imaged_ q_namesKept_ q_areKept_ q_tape _ (by omega) (by omega) (by omega) (by omega) (by omega) (by omega) (by omega) (by omega) (by omega) (by omega) (by omega) (by omega) (by omega) (by omega) (by omega) (by omega) (by omega) (by omega) (by omega) (by omega) (by omega) (by omega) (by omega)) kwV_X11_octet kM_RX11_397 rfl rfl ⟨Nat.le_of_ble_eq_true rfl, Nat.le_of_ble_eq_true rfl⟩ rfl hl.1 rfl (Nat.le_of_ble_eq_true rfl) dX11_spun_76 ⟨hroom.1, hroom.2⟩) C.2.2.2.2.2.2.1 hP hD hS [0, 1] [] rfl rfl (by decide) (by decide) (fun r_126 u_125 H locs hw_127 hP hD hS => ?_)
                have hp_127 : 0 ≤ r_126.toInt ∧ r_126.toInt ≤ 255 := hw_127.1
                have hp_128 : r_126 = oc q_tape z_124 := hw_127.2
                clear hw_127
                refine lv_bipush (v := 99) hx hb dX11_spun_79 (by decide) ?_
                refine lv_icmp_le (tgt := 86) hx hb dX11_spun_81 (by decide) (fun c_130 => ?_) (fun c_130 => ?_)
                · have hc_130 := o_le (rfl : r_126.toInt = r_126.toInt) (by decide : (99 : Int32).toInt = 99) c_130
                  obtain ⟨z_131, hz_131⟩ : ∃ z : Int32, z = x_25 + 3 := ⟨_, rfl⟩
                  refine lv_iinc (v := z_131) (lv' := [(1, .int z_131), (0, .ref q)]) hx hb dX11_spun_86 hl (k := 1) rfl hz_131.symm (by decide) rfl (fun ls hl => ?_)
                  have hz_131 := o_add hz_131 (rfl : x_25.toInt = x_25.toInt) (by decide : (3 : Int32).toInt = 3) (by omega) (by omega)
                  have hq_131 : okU q_tape z_131.toInt := okU.cast (okU.step hf_29 (by omega) rfl hp_108 (by omega) hp_115 (by omega) hp_128 (by omega)) (by omega)
                  refine lv_goto (tgt := 38) hx hb dX11_spun_89 (by decide) ?_
                  exact ih_31 z_131 H locs ls (by omega) (by omega) (by omega) hq_131 (q_subP hP [1, 0] rfl) (hD.sub [1, 0] (by decide) rfl) hS (lv_sub hl [1, 0] rfl)
                · have hc_130 := o_nle (rfl : r_126.toInt = r_126.toInt) (by decide : (99 : Int32).toInt = 99) c_130
                  refine lv_iconst (v := (-1)) hx hb dX11_spun_84 (by decide) ?_
                  refine o_wq hQ ?_
                  exact q_iret (rm := (Rm 1 22 0 0)) C hS (0, x_4, x_5, x_6, x_7) rfl ⟨(show (-1) ≤ ((-1) : Int32).toInt ∧ ((-1) : Int32).toInt ≤ 255 by decide), (show 0 ≤ x_4.toInt ∧ x_4.toInt ≤ 0 by omega), (show 0 ≤ x_5.toInt ∧ x_5.toInt ≤ 940 by omega), (show 0 ≤ x_6.toInt ∧ x_6.toInt ≤ 940 by omega), (show 0 ≤ x_7.toInt ∧ x_7.toInt ≤ 940 by omega), (show ((-1) : Int32).toInt = spA q_tape q_length.toInt from (sp_bad (by decide) hf_29 (ok_no3 hf_29 (by omega) (by omega) hp_128 (by omega)) (by omega) (by omega) (by omega)))⟩ (q_subP hP [0, 1] rfl) (hD.sub [0, 1] (by decide) rfl) hroom.1 hroom.2 dX11_spun_85
      exact lp_38_25 21 (0 : Int32) H locs ls (by have e0 : (0 : Int32).toInt = 0 := (by decide); omega) (by have e0 : (0 : Int32).toInt = 0 := (by decide); omega) (by have e0 : (0 : Int32).toInt = 0 := (by decide); omega) hq_23 hP hD hS (lv_sub hl [1, 0] rfl)
    · have hc_23 := o_ne (rfl : z_21.toInt = z_21.toInt) (by decide : (0 : Int32).toInt = 0) c_23
      have hnc_23 : 0 ≤ z_21.toInt + (-1) := by rcases Int.lt_or_gt_of_ne hc_23 with h9 | h9 <;> omega
      refine lv_iconst (v := (-1)) hx hb dX11_spun_34 (by decide) ?_
      refine o_wq hQ ?_
      exact q_iret (rm := (Rm 1 22 0 0)) C hS (0, x_4, x_5, x_6, x_7) rfl ⟨(show (-1) ≤ ((-1) : Int32).toInt ∧ ((-1) : Int32).toInt ≤ 255 by decide), (show 0 ≤ x_4.toInt ∧ x_4.toInt ≤ 0 by omega), (show 0 ≤ x_5.toInt ∧ x_5.toInt ≤ 940 by omega), (show 0 ≤ x_6.toInt ∧ x_6.toInt ≤ 940 by omega), (show 0 ≤ x_7.toInt ∧ x_7.toInt ≤ 940 by omega), (show ((-1) : Int32).toInt = spA q_tape q_length.toInt from (sp_no (by decide) (by omega)))⟩ (q_subP hP [1, 0] rfl) (hD.sub [1, 0] (by decide) rfl) hroom.1 hroom.2 dX11_spun_35
theorem y_spun (l : Launch) (D : va_G) (cy : Nat → ClassId) (q : Nat) (q_thrown : Int32) (q_tape_ : Nat) (q_length : Int32) (q_size : Int32) (q_p : Int32) (q_limit : Int32) (q_s_ : Nat) (q_h_ : Nat) (q_read_ : Nat) (q_names_ : Nat) (q_reserved_ : Nat) (q_token : Int32) (q_at : Int32) (q_span : Int32) (q_number : Int32) (q_fault : Int32) (q_faultAt : Int32) (q_word : Int64) (q_got : Int32) (q_lines : Int32) (q_onces : Int32) (q_webs : Int32) (q_one : Int32) (q_two : Int32) (q_seed : Int32) (q_undone_ : Nat) (q_before_ : Nat) (q_undoMany : Int32) (q_far_ : Nat) (q_wayRow_ : Nat) (q_wayMany : Int32) (q_keptRow_ : Nat) (q_askedRow_ : Nat) (q_rares_ : Nat) (q_trial_ : Nat) (q_keptMany : Int32) (q_askedMany : Int32) (q_hangs_ : Nat) (q_paths_ : Nat) (q_tornSteps : Int32) (q_hasTorn : Int32) (q_turnOne : Int32) (q_hasTurn : Int32) (q_text_ : Nat) (q_textMany : Int32) (q_toldMany : Int32) (q_toldAt_ : Nat) (q_hasTold : Int32) (q_stack_ : Nat) (q_codes : Int32) (q_ones : Int32) (q_top : Int32) (q_deep : Int32) (q_isWhole : Int32) (q_truths_ : Nat) (q_imaged_ : Nat) (q_namesKept_ : Nat) (q_areKept_ : Nat) (q_tape : Nat → Int32) (sz : Nat) (hb0 : 0 ≤ q_length.toInt ∧ q_length.toInt ≤ 940) (hb1 : 0 ≤ q_size.toInt ∧ q_size.toInt ≤ 940) (hb2 : 0 ≤ q_p.toInt ∧ q_p.toInt ≤ 940) (hb3 : 0 ≤ q_limit.toInt ∧ q_limit.toInt ≤ 940) (hb4 : 0 ≤ q_span.toInt ∧ q_span.toInt ≤ 940) (hb5 : 0 ≤ q_number.toInt ∧ q_number.toInt ≤ 8214) (hb6 : (-1) ≤ q_got.toInt ∧ q_got.toInt ≤ 8214) (hb7 : 0 ≤ q_one.toInt ∧ q_one.toInt ≤ 7) (hb8 : 0 ≤ q_two.toInt ∧ q_two.toInt ≤ 7) (hb9 : 0 ≤ q_undoMany.toInt ∧ q_undoMany.toInt ≤ 8) (hb10 : (-1) ≤ q_wayMany.toInt ∧ q_wayMany.toInt ≤ 8) (hb11 : (-1) ≤ q_keptMany.toInt ∧ q_keptMany.toInt ≤ 8) (hb12 : (-1) ≤ q_askedMany.toInt ∧ q_askedMany.toInt ≤ 3) (hb13 : 0 ≤ q_hasTorn.toInt ∧ q_hasTorn.toInt ≤ 1) (hb14 : 0 ≤ q_hasTurn.toInt ∧ q_hasTurn.toInt ≤ 1) (hb15 : 0 ≤ q_textMany.toInt ∧ q_textMany.toInt ≤ 48) (hb16 : 0 ≤ q_toldMany.toInt ∧ q_toldMany.toInt ≤ 40) (hb17 : 0 ≤ q_hasTold.toInt ∧ q_hasTold.toInt ≤ 1) (hb18 : 0 ≤ q_codes.toInt ∧ q_codes.toInt ≤ 40) (hb19 : 0 ≤ q_ones.toInt ∧ q_ones.toInt ≤ 20) (hb20 : 0 ≤ q_top.toInt ∧ q_top.toInt ≤ 40) (hb21 : 0 ≤ q_isWhole.toInt ∧ q_isWhole.toInt ≤ 1) : MI l yX11_spun cX11_spun 5 (some .int) (Rm 1 22 0 0) D cy [.ref q] sz [(q, oC11 q_thrown q_tape_ q_length q_size q_p q_limit q_s_ q_h_ q_read_ q_names_ q_reserved_ q_token q_at q_span q_number q_fault q_faultAt q_word q_got q_lines q_onces q_webs q_one q_two q_seed q_undone_ q_before_ q_undoMany q_far_ q_wayRow_ q_wayMany q_keptRow_ q_askedRow_ q_rares_ q_trial_ q_keptMany q_askedMany q_hangs_ q_paths_ q_tornSteps q_hasTorn q_turnOne q_hasTurn q_text_ q_textMany q_toldMany q_toldAt_ q_hasTold q_stack_ q_codes q_ones q_top q_deep q_isWhole q_truths_ q_imaged_ q_namesKept_ q_areKept_), (q_tape_, aC0 cy 940 q_tape)] (fun (r : Int32) (u : Int32 × Int32 × Int32 × Int32 × Int32) => ((-1) ≤ r.toInt ∧ r.toInt ≤ 255) ∧ (0 ≤ u.2.1.toInt ∧ u.2.1.toInt ≤ 0) ∧ (0 ≤ u.2.2.1.toInt ∧ u.2.2.1.toInt ≤ 940) ∧ (0 ≤ u.2.2.2.1.toInt ∧ u.2.2.2.1.toInt ≤ 940) ∧ (0 ≤ u.2.2.2.2.toInt ∧ u.2.2.2.2.toInt ≤ 940) ∧ (r.toInt = spA q_tape q_length.toInt)) (fun u : Int32 × Int32 × Int32 × Int32 × Int32 => [(q, oC11 u.1 q_tape_ u.2.1 u.2.2.1 u.2.2.2.1 u.2.2.2.2 q_s_ q_h_ q_read_ q_names_ q_reserved_ q_token q_at q_span q_number q_fault q_faultAt q_word q_got q_lines q_onces q_webs q_one q_two q_seed q_undone_ q_before_ q_undoMany q_far_ q_wayRow_ q_wayMany q_keptRow_ q_askedRow_ q_rares_ q_trial_ q_keptMany q_askedMany q_hangs_ q_paths_ q_tornSteps q_hasTorn q_turnOne q_hasTurn q_text_ q_textMany q_toldMany q_toldAt_ q_hasTold q_stack_ q_codes q_ones q_top q_deep q_isWhole q_truths_ q_imaged_ q_namesKept_ q_areKept_), (q_tape_, aC0 cy 940 q_tape)]) := by
  refine MI.enter (by decide) (Nat.le_of_ble_eq_true rfl) ?_
  intro p e s m below meth c ls A hsz hAe C hP hD hS hl
  exact b_y_spun l D cy q q_thrown q_tape_ q_length q_size q_p q_limit q_s_ q_h_ q_read_ q_names_ q_reserved_ q_token q_at q_span q_number q_fault q_faultAt q_word q_got q_lines q_onces q_webs q_one q_two q_seed q_undone_ q_before_ q_undoMany q_far_ q_wayRow_ q_wayMany q_keptRow_ q_askedRow_ q_rares_ q_trial_ q_keptMany q_askedMany q_hangs_ q_paths_ q_tornSteps q_hasTorn q_turnOne q_hasTurn q_text_ q_textMany q_toldMany q_toldAt_ q_hasTold q_stack_ q_codes q_ones q_top q_deep q_isWhole q_truths_ q_imaged_ q_namesKept_ q_areKept_ q_tape hb0 hb1 hb2 hb3 hb4 hb5 hb6 hb7 hb8 hb9 hb10 hb11 hb12 hb13 hb14 hb15 hb16 hb17 hb18 hb19 hb20 hb21 ⟨Nat.le_of_ble_eq_true rfl, Nat.le_of_ble_eq_true rfl⟩ C rfl _ _ ls hP hD hS hl
set_option maxHeartbeats 4000000 in
set_option maxRecDepth 100000 in
theorem b_y_hangsOver (l : Launch) (D : va_G) (cy : Nat → ClassId) (q : Nat) (x : Int32) (y : Int32) (q_thrown : Int32) (q_tape_ : Nat) (q_length : Int32) (q_size : Int32) (q_p : Int32) (q_limit : Int32) (q_s_ : Nat) (q_h_ : Nat) (q_read_ : Nat) (q_names_ : Nat) (q_reserved_ : Nat) (q_token : Int32) (q_at : Int32) (q_span : Int32) (q_number : Int32) (q_fault : Int32) (q_faultAt : Int32) (q_word : Int64) (q_got : Int32) (q_lines : Int32) (q_onces : Int32) (q_webs : Int32) (q_one : Int32) (q_two : Int32) (q_seed : Int32) (q_undone_ : Nat) (q_before_ : Nat) (q_undoMany : Int32) (q_far_ : Nat) (q_wayRow_ : Nat) (q_wayMany : Int32) (q_keptRow_ : Nat) (q_askedRow_ : Nat) (q_rares_ : Nat) (q_trial_ : Nat) (q_keptMany : Int32) (q_askedMany : Int32) (q_hangs_ : Nat) (q_paths_ : Nat) (q_tornSteps : Int32) (q_hasTorn : Int32) (q_turnOne : Int32) (q_hasTurn : Int32) (q_text_ : Nat) (q_textMany : Int32) (q_toldMany : Int32) (q_toldAt_ : Nat) (q_hasTold : Int32) (q_stack_ : Nat) (q_codes : Int32) (q_ones : Int32) (q_top : Int32) (q_deep : Int32) (q_isWhole : Int32) (q_truths_ : Nat) (q_imaged_ : Nat) (q_namesKept_ : Nat) (q_areKept_ : Nat) (q_s : Nat → Int32) (hb0 : 0 ≤ q_length.toInt ∧ q_length.toInt ≤ 940) (hb1 : 0 ≤ q_size.toInt ∧ q_size.toInt ≤ 940) (hb2 : 0 ≤ q_p.toInt ∧ q_p.toInt ≤ 940) (hb3 : 0 ≤ q_limit.toInt ∧ q_limit.toInt ≤ 940) (hb4 : 0 ≤ q_span.toInt ∧ q_span.toInt ≤ 940) (hb5 : 0 ≤ q_number.toInt ∧ q_number.toInt ≤ 8214) (hb6 : (-1) ≤ q_got.toInt ∧ q_got.toInt ≤ 8214) (hb7 : 0 ≤ q_one.toInt ∧ q_one.toInt ≤ 7) (hb8 : 0 ≤ q_two.toInt ∧ q_two.toInt ≤ 7) (hb9 : 0 ≤ q_undoMany.toInt ∧ q_undoMany.toInt ≤ 8) (hb10 : (-1) ≤ q_wayMany.toInt ∧ q_wayMany.toInt ≤ 8) (hb11 : (-1) ≤ q_keptMany.toInt ∧ q_keptMany.toInt ≤ 8) (hb12 : (-1) ≤ q_askedMany.toInt ∧ q_askedMany.toInt ≤ 3) (hb13 : 0 ≤ q_hasTorn.toInt ∧ q_hasTorn.toInt ≤ 1) (hb14 : 0 ≤ q_hasTurn.toInt ∧ q_hasTurn.toInt ≤ 1) (hb15 : 0 ≤ q_textMany.toInt ∧ q_textMany.toInt ≤ 48) (hb16 : 0 ≤ q_toldMany.toInt ∧ q_toldMany.toInt ≤ 40) (hb17 : 0 ≤ q_hasTold.toInt ∧ q_hasTold.toInt ≤ 1) (hb18 : 0 ≤ q_codes.toInt ∧ q_codes.toInt ≤ 40) (hb19 : 0 ≤ q_ones.toInt ∧ q_ones.toInt ≤ 20) (hb20 : 0 ≤ q_top.toInt ∧ q_top.toInt ≤ 40) (hb21 : 0 ≤ q_isWhole.toInt ∧ q_isWhole.toInt ≤ 1) (hR0 : Rg q_s 0 1 0 8) (hR1 : Rg q_s 1 3 0 6) (hR2 : Rg q_s 3 4 1 50) (hR3 : Rg q_s 4 5 1 5) (hR4 : Rg q_s 103 104 0 255) (hR5 : Rg q_s 7 23 0 5) (hR6 : Rg q_s 106 122 0 5) (hR7 : Rg q_s 23 31 0 99) (hR8 : Rg q_s 122 130 0 99) {p : Program} {e : Env} {s : State} {m : MethodId} {args : Array Value} {below : List Frame} {meth : Method} {c : Code} {A : Nat → Prop} {Q : State → Prop} {cells slots : Nat} (hroom : cells ≤ ((Rm 2 46 0 0)).cells ∧ slots ≤ ((Rm 2 46 0 0)).slots) (C : Cx p s m args meth c cX11_hangsOver 6 (some .int) RX11 "hangsOver" D cy A) (hQ : Q = MQ below (va_Qi (fun (r : Int32) (u : Unit) => True) (Bx D A (fun u : Unit => [(q, oC11 q_thrown q_tape_ q_length q_size q_p q_limit q_s_ q_h_ q_read_ q_names_ q_reserved_ q_token q_at q_span q_number q_fault q_faultAt q_word q_got q_lines q_onces q_webs q_one q_two q_seed q_undone_ q_before_ q_undoMany q_far_ q_wayRow_ q_wayMany q_keptRow_ q_askedRow_ q_rares_ q_trial_ q_keptMany q_askedMany q_hangs_ q_paths_ q_tornSteps q_hasTorn q_turnOne q_hasTurn q_text_ q_textMany q_toldMany q_toldAt_ q_hasTold q_stack_ q_codes q_ones q_top q_deep q_isWhole q_truths_ q_imaged_ q_namesKept_ q_areKept_), (q_s_, aC1 cy 383 q_s)])) A) args s ((Rm 2 46 0 0)).cells ((Rm 2 46 0 0)).slots A) (H : Heap) (locs : List Loc) (ls : Array Slot) (hP : va_P D vwCl [(q, oC11 q_thrown q_tape_ q_length q_size q_p q_limit q_s_ q_h_ q_read_ q_names_ q_reserved_ q_token q_at q_span q_number q_fault q_faultAt q_word q_got q_lines q_onces q_webs q_one q_two q_seed q_undone_ q_before_ q_undoMany q_far_ q_wayRow_ q_wayMany q_keptRow_ q_askedRow_ q_rares_ q_trial_ q_keptMany q_askedMany q_hangs_ q_paths_ q_tornSteps q_hasTorn q_turnOne q_hasTurn q_text_ q_textMany q_toldMany q_toldAt_ q_hasTold q_stack_ q_codes q_ones q_top q_deep q_isWhole q_truths_ q_imaged_ q_namesKept_ q_areKept_), (q_s_, aC1 cy 383 q_s)] H) (hD : va_D A [(q, oC11 q_thrown q_tape_ q_length q_size q_p q_limit q_s_ q_h_ q_read_ q_names_ q_reserved_ q_token q_at q_span q_number q_fault q_faultAt q_word q_got q_lines q_onces q_webs q_one q_two q_seed q_undone_ q_before_ q_undoMany q_far_ q_wayRow_ q_wayMany q_keptRow_ q_askedRow_ q_rares_ q_trial_ q_keptMany q_askedMany q_hangs_ q_paths_ q_tornSteps q_hasTorn q_turnOne q_hasTurn q_text_ q_textMany q_toldMany q_toldAt_ q_hasTold q_stack_ q_codes q_ones q_top q_deep q_isWhole q_truths_ q_imaged_ q_namesKept_ q_areKept_), (q_s_, aC1 cy 383 q_s)]) (hS : va_S A s.heap H locs) (hl : lv_has ls 6 [(0, .ref q), (1, .int x), (2, .int y)]) : W p l e (Rm 2 46 0 0) s m args below meth c H locs cells slots Q (F0 m 0 ls []) := by
  have hx := C.1
  have hb := C.2.1
  have hqx := o_rng x
  have hqy := o_rng y
  refine lv_iconst (v := 0) hx hb dX11_hangsOver_0 (by decide) ?_
  refine lv_istore_n (lv' := [(3, .int 0), (0, .ref q), (1, .int x), (2, .int y)]) hx hb dX11_hangsOver_1 rfl hl (by decide) rfl (fun ls hl => ?_)
  refine lv_iconst (v := 0) hx hb dX11_hangsOver_2 (by decide) ?_
  refine lv_istore (lv' := [(4, .int 0), (3, .int 0), (0, .ref q), (1, .int x), (2, .int y)]) hx hb dX11_hangsOver_3 hl (by decide) rfl (fun ls hl => ?_)
  have lp_5_2 : ∀ (n_3 : Nat) (x_1 : Int32) (x_2 : Int32) (H : Heap) (locs : List Loc) (ls : Array Slot), (-1) * x_2.toInt + 8 < (n_3 : Int) → (0 ≤ x_2.toInt ∧ x_2.toInt ≤ 8) → va_P D vwCl [(q, oC11 q_thrown q_tape_ q_length q_size q_p q_limit q_s_ q_h_ q_read_ q_names_ q_reserved_ q_token q_at q_span q_number q_fault q_faultAt q_word q_got q_lines q_onces q_webs q_one q_two q_seed q_undone_ q_before_ q_undoMany q_far_ q_wayRow_ q_wayMany q_keptRow_ q_askedRow_ q_rares_ q_trial_ q_keptMany q_askedMany q_hangs_ q_paths_ q_tornSteps q_hasTorn q_turnOne q_hasTurn q_text_ q_textMany q_toldMany q_toldAt_ q_hasTold q_stack_ q_codes q_ones q_top q_deep q_isWhole q_truths_ q_imaged_ q_namesKept_ q_areKept_), (q_s_, aC1 cy 383 q_s)] H → va_D A [(q, oC11 q_thrown q_tape_ q_length q_size q_p q_limit q_s_ q_h_ q_read_ q_names_ q_reserved_ q_token q_at q_span q_number q_fault q_faultAt q_word q_got q_lines q_onces q_webs q_one q_two q_seed q_undone_ q_before_ q_undoMany q_far_ q_wayRow_ q_wayMany q_keptRow_ q_askedRow_ q_rares_ q_trial_ q_keptMany q_askedMany q_hangs_ q_paths_ q_tornSteps q_hasTorn q_turnOne q_hasTurn q_text_ q_textMany q_toldMany q_toldAt_ q_hasTold q_stack_ q_codes q_ones q_top q_deep q_isWhole q_truths_ q_imaged_ q_namesKept_ q_areKept_), (q_s_, aC1 cy 383 q_s)] → va_S A s.heap H locs → lv_has ls 6 [(0, .ref q), (1, .int x), (2, .int y), (3, .int x_1), (4, .int x_2)] → W p l e (Rm 2 46 0 0) s m args below meth c H locs cells slots Q (F0 m 5 ls []) := by
    intro n_3
    induction n_3 with
    | zero =>
      intro x_1 x_2 H locs ls hm_5 hf_4 hP hD hS hl
      exact absurd hm_5 (by omega)
    | succ n_3 ih_6 =>
      intro x_1 x_2 H locs ls hm_5 hf_4 hP hD hS hl
      refine lv_iload hx hb dX11_hangsOver_5 (lv_at hl 4 rfl) ?_
      refine lv_aload_n hx hb dX11_hangsOver_7 rfl (lv_at hl 0 rfl) ?_
      refine q_get11 (v := .ref q_s_) C hP 0 6 rfl fT_6 (by decide) kF_RX11_33 rfl dX11_hangsOver_8 ?_
      refine lv_iconst (v := 0) hx hb dX11_hangsOver_11 (by decide) ?_
      refine q_iald (v := q_s 0) C hP 1 rfl (vin (by decide +kernel)) rfl dX11_hangsOver_12 ?_
      refine lv_topi (fun z_8 ez_8 => ?_)
      have hz_8 : 0 ≤ z_8.toInt ∧ z_8.toInt ≤ 8 := (by rw [ez_8]; exact hR0 0 (by decide) (by decide))
      refine lv_icmp_ge (tgt := 73) hx hb dX11_hangsOver_13 (by decide) (fun c_9 => ?_) (fun c_9 => ?_)
      · have hc_9 := o_le (rfl : z_8.toInt = z_8.toInt) (rfl : x_2.toInt = x_2.toInt) c_9
        refine lv_iload_n hx hb dX11_hangsOver_73 rfl (lv_at hl 3 rfl) ?_
        refine o_wq hQ ?_
        exact q_iret (rm := (Rm 2 46 0 0)) C hS () rfl trivial (q_subP hP [0, 1] rfl) (hD.sub [0, 1] (by decide) rfl) hroom.1 hroom.2 dX11_hangsOver_74
      · have hc_9 := o_nle (rfl : z_8.toInt = z_8.toInt) (rfl : x_2.toInt = x_2.toInt) c_9
        refine lv_iload hx hb dX11_hangsOver_16 (lv_at hl 4 rfl) ?_
        refine lv_iconst (v := 1) hx hb dX11_hangsOver_18 (by decide) ?_
        refine lv_iadd hx hb dX11_hangsOver_19 ?_
        refine lv_topi (fun z_10 hz_10 => ?_)
        have hz_10 := o_add hz_10 (rfl : x_2.toInt = x_2.toInt) (by decide : (1 : Int32).toInt = 1) (by omega) (by omega)
        refine lv_istore (lv' := [(5, .int z_10), (0, .ref q), (1, .int x), (2, .int y), (3, .int x_1), (4, .int x_2)]) hx hb dX11_hangsOver_20 hl (by decide) rfl (fun ls hl => ?_)
        have lp_22_12 : ∀ (n_13 : Nat) (x_11 : Int32) (x_12 : Int32) (H : Heap) (locs : List Loc) (ls : Array Slot), (-1) * x_12.toInt + 8 < (n_13 : Int) → (1 ≤ x_12.toInt ∧ x_12.toInt ≤ 8) → va_P D vwCl [(q, oC11 q_thrown q_tape_ q_length q_size q_p q_limit q_s_ q_h_ q_read_ q_names_ q_reserved_ q_token q_at q_span q_number q_fault q_faultAt q_word q_got q_lines q_onces q_webs q_one q_two q_seed q_undone_ q_before_ q_undoMany q_far_ q_wayRow_ q_wayMany q_keptRow_ q_askedRow_ q_rares_ q_trial_ q_keptMany q_askedMany q_hangs_ q_paths_ q_tornSteps q_hasTorn q_turnOne q_hasTurn q_text_ q_textMany q_toldMany q_toldAt_ q_hasTold q_stack_ q_codes q_ones q_top q_deep q_isWhole q_truths_ q_imaged_ q_namesKept_ q_areKept_), (q_s_, aC1 cy 383 q_s)] H → va_D A [(q, oC11 q_thrown q_tape_ q_length q_size q_p q_limit q_s_ q_h_ q_read_ q_names_ q_reserved_ q_token q_at q_span q_number q_fault q_faultAt q_word q_got q_lines q_onces q_webs q_one q_two q_seed q_undone_ q_before_ q_undoMany q_far_ q_wayRow_ q_wayMany q_keptRow_ q_askedRow_ q_rares_ q_trial_ q_keptMany q_askedMany q_hangs_ q_paths_ q_tornSteps q_hasTorn q_turnOne q_hasTurn q_text_ q_textMany q_toldMany q_toldAt_ q_hasTold q_stack_ q_codes q_ones q_top q_deep q_isWhole q_truths_ q_imaged_ q_namesKept_ q_areKept_), (q_s_, aC1 cy 383 q_s)] → va_S A s.heap H locs → lv_has ls 6 [(0, .ref q), (1, .int x), (2, .int y), (3, .int x_11), (4, .int x_2), (5, .int x_12)] → W p l e (Rm 2 46 0 0) s m args below meth c H locs cells slots Q (F0 m 22 ls []) := by
          intro n_13
          induction n_13 with
          | zero =>
            intro x_11 x_12 H locs ls hm_15 hf_14 hP hD hS hl
            exact absurd hm_15 (by omega)
          | succ n_13 ih_16 =>
            intro x_11 x_12 H locs ls hm_15 hf_14 hP hD hS hl
            refine lv_iload hx hb dX11_hangsOver_22 (lv_at hl 5 rfl) ?_
            refine lv_aload_n hx hb dX11_hangsOver_24 rfl (lv_at hl 0 rfl) ?_
            refine q_get11 (v := .ref q_s_) C hP 0 6 rfl fT_6 (by decide) kF_RX11_33 rfl dX11_hangsOver_25 ?_
            refine lv_iconst (v := 0) hx hb dX11_hangsOver_28 (by decide) ?_
            refine q_iald (v := q_s 0) C hP 1 rfl (vin (by decide +kernel)) rfl dX11_hangsOver_29 ?_
            refine lv_topi (fun z_18 ez_18 => ?_)
            have hz_18 : 0 ≤ z_18.toInt ∧ z_18.toInt ≤ 8 := (by rw [ez_18]; exact hR0 0 (by decide) (by decide))
            refine lv_icmp_ge (tgt := 67) hx hb dX11_hangsOver_30 (by decide) (fun c_19 => ?_) (fun c_19 => ?_)
            · have hc_19 := o_le (rfl : z_18.toInt = z_18.toInt) (rfl : x_12.toInt = x_12.toInt) c_19
              obtain ⟨z_20, hz_20⟩ : ∃ z : Int32, z = x_2 + 1 := ⟨_, rfl⟩
              refine lv_iinc (v := z_20) (lv' := [(4, .int z_20), (0, .ref q), (1, .int x), (2, .int y), (3, .int x_11), (5, .int x_12)]) hx hb dX11_hangsOver_67 hl (k := 4) rfl hz_20.symm (by decide) rfl (fun ls hl => ?_)
              have hz_20 := o_add hz_20 (rfl : x_2.toInt = x_2.toInt) (by decide : (1 : Int32).toInt = 1) (by omega) (by omega)
              refine lv_goto (tgt := 5) hx hb dX11_hangsOver_70 (by decide) ?_
              exact ih_6 x_11 z_20 H locs ls (by omega) (by omega) hP hD hS (lv_sub hl [1, 2, 3, 4, 0] rfl)
            · have hc_19 := o_nle (rfl : z_18.toInt = z_18.toInt) (rfl : x_12.toInt = x_12.toInt) c_19
              refine lv_iload_n hx hb dX11_hangsOver_33 rfl (lv_at hl 3 rfl) ?_
              refine lv_aload_n hx hb dX11_hangsOver_34 rfl (lv_at hl 0 rfl) ?_
              refine lv_iload hx hb dX11_hangsOver_35 (lv_at hl 4 rfl) ?_
              refine lv_iload hx hb dX11_hangsOver_37 (lv_at hl 5 rfl) ?_
              refine lv_iload_n hx hb dX11_hangsOver_39 rfl (lv_at hl 1 rfl) ?_
              refine lv_iload_n hx hb dX11_hangsOver_40 rfl (lv_at hl 2 rfl) ?_
              refine q_ai (wr := []) (r_V (rm := (Rm 1 22 0 0)) (q0 := 0) (As := [.int x_2, .int x_12, .int x, .int y]) (rest := [.int x_11]) (wc := [(q, oC11 q_thrown q_tape_ q_length q_size q_p q_limit q_s_ q_h_ q_read_ q_names_ q_reserved_ q_token q_at q_span q_number q_fault q_faultAt q_word q_got q_lines q_onces q_webs q_one q_two q_seed q_undone_ q_before_ q_undoMany q_far_ q_wayRow_ q_wayMany q_keptRow_ q_askedRow_ q_rares_ q_trial_ q_keptMany q_askedMany q_hangs_ q_paths_ q_tornSteps q_hasTorn q_turnOne q_hasTurn q_text_ q_textMany q_toldMany q_toldAt_ q_hasTold q_stack_ q_codes q_ones q_top q_deep q_isWhole q_truths_ q_imaged_ q_namesKept_ q_areKept_), (q_s_, aC1 cy 383 q_s)]) C hS (q_subP hP [0, 1] rfl) (hD.sub [0, 1] (by decide) rfl) (y_isBetween l D cy q x_2 x_12 x y q_thrown q_tape_ q_length q_size q_p q_limit q_s_ q_h_ q_read_ q_names_ q_reserved_ q_token q_at q_span q_number q_fault q_faultAt q_word q_got q_lines q_onces q_webs q_one q_two q_seed q_undone_ q_before_ q_undoMany q_far_ q_wayRow_ q_wayMany q_keptRow_ q_askedRow_ q_rares_ q_trial_ q_keptMany q_askedMany q_hangs_ q_paths_ q_tornSteps q_hasTorn q_turnOne q_hasTurn q_text_ q_textMany q_toldMany q_toldAt_ q_hasTold q_stack_ q_codes q_ones q_top q_deep q_isWhole q_truths_ q_imaged_ q_namesKept_ q_areKept_ q_s _ (by omega) (by omega) (by omega) (by omega) (by omega) (by omega) (by omega) (by omega) (by omega) (by omega) (by omega) (by omega) (by omega) (by omega) (by omega) (by omega) (by omega) (by omega) (by omega) (by omega) (by omega) (by omega) (by omega) (by omega) hR0 hR1 hR2 hR3 hR4 hR5 hR6 hR7 hR8) kwV_X11_isBetween kM_RX11_300 rfl rfl ⟨Nat.le_of_ble_eq_true rfl, Nat.le_of_ble_eq_true rfl⟩ rfl hl.1 rfl (Nat.le_of_ble_eq_true rfl) dX11_hangsOver_41 ⟨hroom.1, hroom.2⟩) C.2.2.2.2.2.2.1 hP hD hS [0, 1] [] rfl rfl (by decide) (by decide) (fun r_22 u_21 H locs hw_23 hP hD hS => ?_)
              have hp_23 : 0 ≤ r_22.toInt ∧ r_22.toInt ≤ 1 := hw_23
              clear hw_23
              refine lv_if_eq (tgt := 58) hx hb dX11_hangsOver_44 (by decide) (fun c_25 => ?_) (fun c_25 => ?_)
              · have hc_25 := o_eq (rfl : r_22.toInt = r_22.toInt) (by decide : (0 : Int32).toInt = 0) c_25
                refine lv_iconst (v := 0) hx hb dX11_hangsOver_58 (by decide) ?_
                refine lv_iadd hx hb dX11_hangsOver_59 ?_
                refine lv_topi (fun z_26 hz_26 => ?_)
                clear hz_26
                refine lv_istore_n (lv' := [(3, .int z_26), (0, .ref q), (1, .int x), (2, .int y), (4, .int x_2), (5, .int x_12)]) hx hb dX11_hangsOver_60 rfl hl (by decide) rfl (fun ls hl => ?_)
                obtain ⟨z_27, hz_27⟩ : ∃ z : Int32, z = x_12 + 1 := ⟨_, rfl⟩
                refine lv_iinc (v := z_27) (lv' := [(5, .int z_27), (3, .int z_26), (0, .ref q), (1, .int x), (2, .int y), (4, .int x_2)]) hx hb dX11_hangsOver_61 hl (k := 5) rfl hz_27.symm (by decide) rfl (fun ls hl => ?_)
                have hz_27 := o_add hz_27 (rfl : x_12.toInt = x_12.toInt) (by decide : (1 : Int32).toInt = 1) (by omega) (by omega)
                refine lv_goto (tgt := 22) hx hb dX11_hangsOver_64 (by decide) ?_
                exact ih_16 z_26 z_27 H locs ls (by omega) (by omega) hP hD hS (lv_sub hl [2, 3, 4, 1, 5, 0] rfl)
              · have hc_25 := o_ne (rfl : r_22.toInt = r_22.toInt) (by decide : (0 : Int32).toInt = 0) c_25
                have hnc_25 : 0 ≤ r_22.toInt + (-1) := by rcases Int.lt_or_gt_of_ne hc_25 with h9 | h9 <;> omega
                refine lv_aload_n hx hb dX11_hangsOver_47 rfl (lv_at hl 0 rfl) ?_
                refine lv_iload hx hb dX11_hangsOver_48 (lv_at hl 4 rfl) ?_
                refine lv_iload hx hb dX11_hangsOver_50 (lv_at hl 5 rfl) ?_
                refine q_ai (wr := []) (r_V (rm := (Rm 0 0 0 0)) (q0 := 0) (As := [.int x_2, .int x_12]) (rest := [.int x_11]) (wc := [(q, oC11 q_thrown q_tape_ q_length q_size q_p q_limit q_s_ q_h_ q_read_ q_names_ q_reserved_ q_token q_at q_span q_number q_fault q_faultAt q_word q_got q_lines q_onces q_webs q_one q_two q_seed q_undone_ q_before_ q_undoMany q_far_ q_wayRow_ q_wayMany q_keptRow_ q_askedRow_ q_rares_ q_trial_ q_keptMany q_askedMany q_hangs_ q_paths_ q_tornSteps q_hasTorn q_turnOne q_hasTurn q_text_ q_textMany q_toldMany q_toldAt_ q_hasTold q_stack_ q_codes q_ones q_top q_deep q_isWhole q_truths_ q_imaged_ q_namesKept_ q_areKept_), (q_s_, aC1 cy 383 q_s)]) C hS (q_subP hP [0, 1] rfl) (hD.sub [0, 1] (by decide) rfl) (y_threadOf l D cy q x_2 x_12 q_thrown q_tape_ q_length q_size q_p q_limit q_s_ q_h_ q_read_ q_names_ q_reserved_ q_token q_at q_span q_number q_fault q_faultAt q_word q_got q_lines q_onces q_webs q_one q_two q_seed q_undone_ q_before_ q_undoMany q_far_ q_wayRow_ q_wayMany q_keptRow_ q_askedRow_ q_rares_ q_trial_ q_keptMany q_askedMany q_hangs_ q_paths_ q_tornSteps q_hasTorn q_turnOne q_hasTurn q_text_ q_textMany q_toldMany q_toldAt_ q_hasTold q_stack_ q_codes q_ones q_top q_deep q_isWhole q_truths_ q_imaged_ q_namesKept_ q_areKept_ q_s _ (by omega) (by omega) (by omega) (by omega) (by omega) (by omega) (by omega) (by omega) (by omega) (by omega) (by omega) (by omega) (by omega) (by omega) (by omega) (by omega) (by omega) (by omega) (by omega) (by omega) (by omega) (by omega) (by omega) (by omega) hR0 hR1 hR2 hR3 hR4 hR5 hR6 hR7 hR8) kwV_X11_threadOf kM_RX11_291 rfl rfl ⟨Nat.le_of_ble_eq_true rfl, Nat.le_of_ble_eq_true rfl⟩ rfl hl.1 rfl (Nat.le_of_ble_eq_true rfl) dX11_hangsOver_52 ⟨hroom.1, hroom.2⟩) C.2.2.2.2.2.2.1 hP hD hS [0, 1] [] rfl rfl (by decide) (by decide) (fun r_29 u_28 H locs hw_30 hP hD hS => ?_)
                have hp_30 : r_29 = thr q_s x_2 x_12 := hw_30
                clear hw_30
                refine lv_goto (tgt := 59) hx hb dX11_hangsOver_55 (by decide) ?_
                refine lv_iadd hx hb dX11_hangsOver_59 ?_
                refine lv_topi (fun z_32 hz_32 => ?_)
                clear hz_32
                refine lv_istore_n (lv' := [(3, .int z_32), (0, .ref q), (1, .int x), (2, .int y), (4, .int x_2), (5, .int x_12)]) hx hb dX11_hangsOver_60 rfl hl (by decide) rfl (fun ls hl => ?_)
                obtain ⟨z_33, hz_33⟩ : ∃ z : Int32, z = x_12 + 1 := ⟨_, rfl⟩
                refine lv_iinc (v := z_33) (lv' := [(5, .int z_33), (3, .int z_32), (0, .ref q), (1, .int x), (2, .int y), (4, .int x_2)]) hx hb dX11_hangsOver_61 hl (k := 5) rfl hz_33.symm (by decide) rfl (fun ls hl => ?_)
                have hz_33 := o_add hz_33 (rfl : x_12.toInt = x_12.toInt) (by decide : (1 : Int32).toInt = 1) (by omega) (by omega)
                refine lv_goto (tgt := 22) hx hb dX11_hangsOver_64 (by decide) ?_
                exact ih_16 z_32 z_33 H locs ls (by omega) (by omega) hP hD hS (lv_sub hl [2, 3, 4, 1, 5, 0] rfl)
        exact lp_22_12 (((-1) * z_10.toInt + 8 : Int).toNat + 1) x_1 z_10 H locs ls (by omega) (by omega) hP hD hS (lv_sub hl [1, 2, 3, 4, 5, 0] rfl)
  exact lp_5_2 9 (0 : Int32) (0 : Int32) H locs ls (by have e0 : (0 : Int32).toInt = 0 := (by decide); omega) (by have e0 : (0 : Int32).toInt = 0 := (by decide); omega) hP hD hS (lv_sub hl [2, 3, 4, 1, 0] rfl)
theorem y_hangsOver (l : Launch) (D : va_G) (cy : Nat → ClassId) (q : Nat) (x : Int32) (y : Int32) (q_thrown : Int32) (q_tape_ : Nat) (q_length : Int32) (q_size : Int32) (q_p : Int32) (q_limit : Int32) (q_s_ : Nat) (q_h_ : Nat) (q_read_ : Nat) (q_names_ : Nat) (q_reserved_ : Nat) (q_token : Int32) (q_at : Int32) (q_span : Int32) (q_number : Int32) (q_fault : Int32) (q_faultAt : Int32) (q_word : Int64) (q_got : Int32) (q_lines : Int32) (q_onces : Int32) (q_webs : Int32) (q_one : Int32) (q_two : Int32) (q_seed : Int32) (q_undone_ : Nat) (q_before_ : Nat) (q_undoMany : Int32) (q_far_ : Nat) (q_wayRow_ : Nat) (q_wayMany : Int32) (q_keptRow_ : Nat) (q_askedRow_ : Nat) (q_rares_ : Nat) (q_trial_ : Nat) (q_keptMany : Int32) (q_askedMany : Int32) (q_hangs_ : Nat) (q_paths_ : Nat) (q_tornSteps : Int32) (q_hasTorn : Int32) (q_turnOne : Int32) (q_hasTurn : Int32) (q_text_ : Nat) (q_textMany : Int32) (q_toldMany : Int32) (q_toldAt_ : Nat) (q_hasTold : Int32) (q_stack_ : Nat) (q_codes : Int32) (q_ones : Int32) (q_top : Int32) (q_deep : Int32) (q_isWhole : Int32) (q_truths_ : Nat) (q_imaged_ : Nat) (q_namesKept_ : Nat) (q_areKept_ : Nat) (q_s : Nat → Int32) (sz : Nat) (hb0 : 0 ≤ q_length.toInt ∧ q_length.toInt ≤ 940) (hb1 : 0 ≤ q_size.toInt ∧ q_size.toInt ≤ 940) (hb2 : 0 ≤ q_p.toInt ∧ q_p.toInt ≤ 940) (hb3 : 0 ≤ q_limit.toInt ∧ q_limit.toInt ≤ 940) (hb4 : 0 ≤ q_span.toInt ∧ q_span.toInt ≤ 940) (hb5 : 0 ≤ q_number.toInt ∧ q_number.toInt ≤ 8214) (hb6 : (-1) ≤ q_got.toInt ∧ q_got.toInt ≤ 8214) (hb7 : 0 ≤ q_one.toInt ∧ q_one.toInt ≤ 7) (hb8 : 0 ≤ q_two.toInt ∧ q_two.toInt ≤ 7) (hb9 : 0 ≤ q_undoMany.toInt ∧ q_undoMany.toInt ≤ 8) (hb10 : (-1) ≤ q_wayMany.toInt ∧ q_wayMany.toInt ≤ 8) (hb11 : (-1) ≤ q_keptMany.toInt ∧ q_keptMany.toInt ≤ 8) (hb12 : (-1) ≤ q_askedMany.toInt ∧ q_askedMany.toInt ≤ 3) (hb13 : 0 ≤ q_hasTorn.toInt ∧ q_hasTorn.toInt ≤ 1) (hb14 : 0 ≤ q_hasTurn.toInt ∧ q_hasTurn.toInt ≤ 1) (hb15 : 0 ≤ q_textMany.toInt ∧ q_textMany.toInt ≤ 48) (hb16 : 0 ≤ q_toldMany.toInt ∧ q_toldMany.toInt ≤ 40) (hb17 : 0 ≤ q_hasTold.toInt ∧ q_hasTold.toInt ≤ 1) (hb18 : 0 ≤ q_codes.toInt ∧ q_codes.toInt ≤ 40) (hb19 : 0 ≤ q_ones.toInt ∧ q_ones.toInt ≤ 20) (hb20 : 0 ≤ q_top.toInt ∧ q_top.toInt ≤ 40) (hb21 : 0 ≤ q_isWhole.toInt ∧ q_isWhole.toInt ≤ 1) (hR0 : Rg q_s 0 1 0 8) (hR1 : Rg q_s 1 3 0 6) (hR2 : Rg q_s 3 4 1 50) (hR3 : Rg q_s 4 5 1 5) (hR4 : Rg q_s 103 104 0 255) (hR5 : Rg q_s 7 23 0 5) (hR6 : Rg q_s 106 122 0 5) (hR7 : Rg q_s 23 31 0 99) (hR8 : Rg q_s 122 130 0 99) : MI l yX11_hangsOver cX11_hangsOver 6 (some .int) (Rm 2 46 0 0) D cy [.ref q, .int x, .int y] sz [(q, oC11 q_thrown q_tape_ q_length q_size q_p q_limit q_s_ q_h_ q_read_ q_names_ q_reserved_ q_token q_at q_span q_number q_fault q_faultAt q_word q_got q_lines q_onces q_webs q_one q_two q_seed q_undone_ q_before_ q_undoMany q_far_ q_wayRow_ q_wayMany q_keptRow_ q_askedRow_ q_rares_ q_trial_ q_keptMany q_askedMany q_hangs_ q_paths_ q_tornSteps q_hasTorn q_turnOne q_hasTurn q_text_ q_textMany q_toldMany q_toldAt_ q_hasTold q_stack_ q_codes q_ones q_top q_deep q_isWhole q_truths_ q_imaged_ q_namesKept_ q_areKept_), (q_s_, aC1 cy 383 q_s)] (fun (r : Int32) (u : Unit) => True) (fun u : Unit => [(q, oC11 q_thrown q_tape_ q_length q_size q_p q_limit q_s_ q_h_ q_read_ q_names_ q_reserved_ q_token q_at q_span q_number q_fault q_faultAt q_word q_got q_lines q_onces q_webs q_one q_two q_seed q_undone_ q_before_ q_undoMany q_far_ q_wayRow_ q_wayMany q_keptRow_ q_askedRow_ q_rares_ q_trial_ q_keptMany q_askedMany q_hangs_ q_paths_ q_tornSteps q_hasTorn q_turnOne q_hasTurn q_text_ q_textMany q_toldMany q_toldAt_ q_hasTold q_stack_ q_codes q_ones q_top q_deep q_isWhole q_truths_ q_imaged_ q_namesKept_ q_areKept_), (q_s_, aC1 cy 383 q_s)]) := by
  refine MI.enter (by decide) (Nat.le_of_ble_eq_true rfl) ?_
  intro p e s m below meth c ls A hsz hAe C hP hD hS hl
  exact b_y_hangsOver l D cy q x y q_thrown q_tape_ q_length q_size q_p q_limit q_s_ q_h_ q_read_ q_names_ q_reserved_ q_token q_at q_span q_number q_fault q_faultAt q_word q_got q_lines q_onces q_webs q_one q_two q_seed q_undone_ q_before_ q_undoMany q_far_ q_wayRow_ q_wayMany q_keptRow_ q_askedRow_ q_rares_ q_trial_ q_keptMany q_askedMany q_hangs_ q_paths_ q_tornSteps q_hasTorn q_turnOne q_hasTurn q_text_ q_textMany q_toldMany q_toldAt_ q_hasTold q_stack_ q_codes q_ones q_top q_deep q_isWhole q_truths_ q_imaged_ q_namesKept_ q_areKept_ q_s hb0 hb1 hb2 hb3 hb4 hb5 hb6 hb7 hb8 hb9 hb10 hb11 hb12 hb13 hb14 hb15 hb16 hb17 hb18 hb19 hb20 hb21 hR0 hR1 hR2 hR3 hR4 hR5 hR6 hR7 hR8 ⟨Nat.le_of_ble_eq_true rfl, Nat.le_of_ble_eq_true rfl⟩ C rfl _ _ ls hP hD hS hl
