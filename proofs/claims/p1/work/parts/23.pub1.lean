def rJn (v : Int32) (lo hi : Int) : Int32 := if lo ≤ v.toInt ∧ v.toInt ≤ hi then 1 else 0
theorem rJn_c {v r : Int32} {lo hi : Int} (h : r = rJn v lo hi) : (r = 1 ∧ lo ≤ v.toInt ∧ v.toInt ≤ hi) ∨ (r = 0 ∧ ¬ (lo ≤ v.toInt ∧ v.toInt ≤ hi)) := by
  unfold rJn at h
  split at h
  · rename_i q; exact Or.inl ⟨h, q⟩
  · rename_i q; exact Or.inr ⟨h, q⟩
theorem rJn_no {v r : Int32} {lo hi : Int} (h : r = rJn v lo hi) (h2 : hi < lo) : r = 0 := by
  rcases rJn_c h with ⟨_, q⟩ | ⟨q, _⟩
  · omega
  · exact q
theorem rJn_y {v r : Int32} {lo hi : Int} (h : r = rJn v lo hi) (h1 : lo ≤ v.toInt) (h2 : v.toInt ≤ hi) : r = 1 := by
  rcases rJn_c h with ⟨q, _⟩ | ⟨_, q⟩
  · exact q
  · omega
def rEnd (n : Int32) : Int32 := if n.toInt = 0 then 1 else 0
def rNow (n : Int32) : Int32 := if 0 ≤ n.toInt ∧ n.toInt ≤ 6 then 0 else -1
def rCount (n : Int32) : Int32 := if n.toInt = 1 then 4 else if n.toInt = 2 then 4 else if n.toInt = 3 then 10 else if n.toInt = 4 then 1 else if n.toInt = 5 then 3 else if 0 ≤ n.toInt ∧ n.toInt ≤ 7 then 0 else -1
def rBroom (n : Int32) : Int32 := if 0 ≤ n.toInt ∧ n.toInt ≤ 3 then 1 else -1
def rDays (n : Int32) : Int32 := if 1 ≤ n.toInt ∧ n.toInt ≤ 30 then n else -1
def rKeep (n : Int32) : Int32 := if 1 ≤ n.toInt ∧ n.toInt ≤ 8 then 0 else -1
def rTurns (n : Int32) : Int32 := if 1 ≤ n.toInt ∧ n.toInt ≤ 3 then 0 else -1
def rLife (n : Int32) : Int32 := if 0 ≤ n.toInt ∧ n.toInt ≤ 1 then -1 else -1000
def rImage (n : Int32) : Int32 := if 0 ≤ n.toInt ∧ n.toInt ≤ 1 then 1 else 0
theorem dX10_feed_0 : decode cX10_feed 0 = .ok (.aload_n 0, 1) := by decide +kernel
theorem dX10_feed_1 : decode cX10_feed 1 = .ok (.getfield 10, 3) := by decide +kernel
theorem dX10_feed_4 : decode cX10_feed 4 = .ok (.getfield 96, 3) := by decide +kernel
theorem kF_RX10_96 : Cond.fieldLink RX10 96 "CobwebLibrary$Tape" "length" "I" ∈ gT := List.mem_filter.mpr ⟨List.mem_of_getElem? (i := 169) (by decide +kernel), by decide +kernel⟩
theorem dX10_feed_7 : decode cX10_feed 7 = .ok (.sipush 920, 3) := by decide +kernel
theorem dX10_feed_10 : decode cX10_feed 10 = .ok (.if_icmp .le 5, 3) := by decide +kernel
theorem dX10_feed_15 : decode cX10_feed 15 = .ok (.aload_n 0, 1) := by decide +kernel
theorem dX10_feed_16 : decode cX10_feed 16 = .ok (.getfield 10, 3) := by decide +kernel
theorem dX10_feed_19 : decode cX10_feed 19 = .ok (.iload_n 1, 1) := by decide +kernel
theorem dX10_feed_20 : decode cX10_feed 20 = .ok (.invokevirtual 99, 3) := by decide +kernel
theorem kwV_X9_addNumber : MwV RX9 yX9_addNumber cX9_addNumber 3 none 1 := ⟨List.mem_filter.mpr ⟨List.mem_of_getElem? (i := 630) (by decide +kernel), by decide +kernel⟩, List.mem_filter.mpr ⟨List.mem_of_getElem? (i := 628) (by decide +kernel), by decide +kernel⟩, List.mem_filter.mpr ⟨List.mem_of_getElem? (i := 629) (by decide +kernel), by decide +kernel⟩, List.mem_filter.mpr ⟨List.mem_of_getElem? (i := 129) (by decide +kernel), by decide +kernel⟩, by decide +kernel⟩
theorem kM_RX10_99 : Cond.methodLink RX10 99 yX9_addNumber ∈ gT := List.mem_filter.mpr ⟨List.mem_of_getElem? (i := 627) (by decide +kernel), by decide +kernel⟩
theorem dX10_feed_23 : decode cX10_feed 23 = .ok (.aload_n 0, 1) := by decide +kernel
theorem dX10_feed_24 : decode cX10_feed 24 = .ok (.getfield 10, 3) := by decide +kernel
theorem dX10_feed_27 : decode cX10_feed 27 = .ok (.iload_n 2, 1) := by decide +kernel
theorem dX10_feed_28 : decode cX10_feed 28 = .ok (.invokevirtual 99, 3) := by decide +kernel
theorem dX10_feed_31 : decode cX10_feed 31 = .ok (.aload_n 0, 1) := by decide +kernel
theorem dX10_feed_32 : decode cX10_feed 32 = .ok (.getfield 10, 3) := by decide +kernel
theorem dX10_feed_35 : decode cX10_feed 35 = .ok (.iload_n 3, 1) := by decide +kernel
theorem dX10_feed_36 : decode cX10_feed 36 = .ok (.invokevirtual 99, 3) := by decide +kernel
theorem dX10_feed_39 : decode cX10_feed 39 = .ok (.aload_n 0, 1) := by decide +kernel
theorem dX10_feed_40 : decode cX10_feed 40 = .ok (.getfield 10, 3) := by decide +kernel
theorem dX10_feed_43 : decode cX10_feed 43 = .ok (.iload 4, 2) := by decide +kernel
theorem dX10_feed_45 : decode cX10_feed 45 = .ok (.invokevirtual 99, 3) := by decide +kernel
theorem dX10_feed_48 : decode cX10_feed 48 = .ok (.aload_n 0, 1) := by decide +kernel
theorem dX10_feed_49 : decode cX10_feed 49 = .ok (.getfield 10, 3) := by decide +kernel
theorem dX10_feed_52 : decode cX10_feed 52 = .ok (.iload 5, 2) := by decide +kernel
theorem dX10_feed_54 : decode cX10_feed 54 = .ok (.invokevirtual 99, 3) := by decide +kernel
theorem dX10_feed_57 : decode cX10_feed 57 = .ok (.aload_n 0, 1) := by decide +kernel
theorem dX10_feed_58 : decode cX10_feed 58 = .ok (.getfield 10, 3) := by decide +kernel
theorem dX10_feed_61 : decode cX10_feed 61 = .ok (.getfield 96, 3) := by decide +kernel
theorem dX10_feed_64 : decode cX10_feed 64 = .ok (.ireturn, 1) := by decide +kernel
theorem dX10_end_0 : decode cX10_end 0 = .ok (.iload_n 1, 1) := by decide +kernel
theorem dX10_end_1 : decode cX10_end 1 = .ok (.ifCond .lt 14, 3) := by decide +kernel
theorem dX10_end_15 : decode cX10_end 15 = .ok (.iconst 0, 1) := by decide +kernel
theorem dX10_end_16 : decode cX10_end 16 = .ok (.ireturn, 1) := by decide +kernel
theorem dX10_end_4 : decode cX10_end 4 = .ok (.iload_n 1, 1) := by decide +kernel
theorem dX10_end_5 : decode cX10_end 5 = .ok (.aload_n 0, 1) := by decide +kernel
theorem dX10_end_6 : decode cX10_end 6 = .ok (.getfield 10, 3) := by decide +kernel
theorem dX10_end_9 : decode cX10_end 9 = .ok (.getfield 96, 3) := by decide +kernel
theorem dX10_end_12 : decode cX10_end 12 = .ok (.if_icmp .le 5, 3) := by decide +kernel
theorem dX10_end_17 : decode cX10_end 17 = .ok (.aload_n 0, 1) := by decide +kernel
theorem dX10_end_18 : decode cX10_end 18 = .ok (.getfield 10, 3) := by decide +kernel
theorem dX10_end_21 : decode cX10_end 21 = .ok (.iload_n 1, 1) := by decide +kernel
theorem dX10_end_22 : decode cX10_end 22 = .ok (.putfield 96, 3) := by decide +kernel
theorem dX10_end_25 : decode cX10_end 25 = .ok (.iconst 1, 1) := by decide +kernel
theorem dX10_end_26 : decode cX10_end 26 = .ok (.ireturn, 1) := by decide +kernel
theorem dX10_library_0 : decode cX10_library 0 = .ok (.aload_n 0, 1) := by decide +kernel
theorem dX10_library_1 : decode cX10_library 1 = .ok (.getfield 36, 3) := by decide +kernel
theorem dX10_library_4 : decode cX10_library 4 = .ok (.aload_n 0, 1) := by decide +kernel
theorem dX10_library_5 : decode cX10_library 5 = .ok (.getfield 10, 3) := by decide +kernel
theorem dX10_library_8 : decode cX10_library 8 = .ok (.invokevirtual 103, 3) := by decide +kernel
theorem kwV_X1_readFrom : MwV RX1 yX1_readFrom cX1_readFrom 3 (some .int) 1 := ⟨List.mem_filter.mpr ⟨List.mem_of_getElem? (i := 642) (by decide +kernel), by decide +kernel⟩, List.mem_filter.mpr ⟨List.mem_of_getElem? (i := 640) (by decide +kernel), by decide +kernel⟩, List.mem_filter.mpr ⟨List.mem_of_getElem? (i := 641) (by decide +kernel), by decide +kernel⟩, List.mem_filter.mpr ⟨List.mem_of_getElem? (i := 132) (by decide +kernel), by decide +kernel⟩, by decide +kernel⟩
theorem kM_RX10_103 : Cond.methodLink RX10 103 yX1_readFrom ∈ gT := List.mem_filter.mpr ⟨List.mem_of_getElem? (i := 639) (by decide +kernel), by decide +kernel⟩
theorem dX10_library_11 : decode cX10_library 11 = .ok (.istore_n 1, 1) := by decide +kernel
theorem dX10_library_12 : decode cX10_library 12 = .ok (.aload_n 0, 1) := by decide +kernel
theorem dX10_library_13 : decode cX10_library 13 = .ok (.getfield 10, 3) := by decide +kernel
theorem dX10_library_16 : decode cX10_library 16 = .ok (.iconst 0, 1) := by decide +kernel
theorem dX10_library_17 : decode cX10_library 17 = .ok (.putfield 96, 3) := by decide +kernel
theorem dX10_library_20 : decode cX10_library 20 = .ok (.aload_n 0, 1) := by decide +kernel
theorem dX10_library_21 : decode cX10_library 21 = .ok (.aload_n 0, 1) := by decide +kernel
theorem dX10_library_22 : decode cX10_library 22 = .ok (.getfield 10, 3) := by decide +kernel
theorem dX10_library_25 : decode cX10_library 25 = .ok (.getfield 107, 3) := by decide +kernel
theorem kF_RX10_107 : Cond.fieldLink RX10 107 "CobwebLibrary$Tape" "faultKind" "I" ∈ gT := List.mem_filter.mpr ⟨List.mem_of_getElem? (i := 188) (by decide +kernel), by decide +kernel⟩
theorem dX10_library_28 : decode cX10_library 28 = .ok (.putfield 92, 3) := by decide +kernel
theorem dX10_library_31 : decode cX10_library 31 = .ok (.aload_n 0, 1) := by decide +kernel
theorem dX10_library_32 : decode cX10_library 32 = .ok (.getfield 92, 3) := by decide +kernel
theorem dX10_library_35 : decode cX10_library 35 = .ok (.ifCond .eq 13, 3) := by decide +kernel
theorem dX10_library_48 : decode cX10_library 48 = .ok (.aload_n 0, 1) := by decide +kernel
theorem dX10_library_49 : decode cX10_library 49 = .ok (.getfield 19, 3) := by decide +kernel
theorem dX10_library_52 : decode cX10_library 52 = .ok (.aload_n 0, 1) := by decide +kernel
theorem dX10_library_53 : decode cX10_library 53 = .ok (.getfield 36, 3) := by decide +kernel
theorem dX10_library_56 : decode cX10_library 56 = .ok (.getfield 111, 3) := by decide +kernel
theorem kF_RX10_111 : Cond.fieldLink RX10 111 "CobwebLibrary$Founding" "plan" "LCobwebLibrary$Plan;" ∈ gT := List.mem_filter.mpr ⟨List.mem_of_getElem? (i := 347) (by decide +kernel), by decide +kernel⟩
theorem dX10_library_59 : decode cX10_library 59 = .ok (.invokevirtual 112, 3) := by decide +kernel
theorem kwV_X6_copyFrom : MwV RX6 yX6_copyFrom cX6_copyFrom 2 none 1 := ⟨List.mem_filter.mpr ⟨List.mem_of_getElem? (i := 839) (by decide +kernel), by decide +kernel⟩, List.mem_filter.mpr ⟨List.mem_of_getElem? (i := 837) (by decide +kernel), by decide +kernel⟩, List.mem_filter.mpr ⟨List.mem_of_getElem? (i := 838) (by decide +kernel), by decide +kernel⟩, List.mem_filter.mpr ⟨List.mem_of_getElem? (i := 130) (by decide +kernel), by decide +kernel⟩, by decide +kernel⟩
theorem kM_RX10_112 : Cond.methodLink RX10 112 yX6_copyFrom ∈ gT := List.mem_filter.mpr ⟨List.mem_of_getElem? (i := 836) (by decide +kernel), by decide +kernel⟩
theorem dX10_library_62 : decode cX10_library 62 = .ok (.aload_n 0, 1) := by decide +kernel
theorem dX10_library_63 : decode cX10_library 63 = .ok (.getfield 26, 3) := by decide +kernel
theorem dX10_library_66 : decode cX10_library 66 = .ok (.aload_n 0, 1) := by decide +kernel
theorem dX10_library_67 : decode cX10_library 67 = .ok (.getfield 36, 3) := by decide +kernel
theorem dX10_library_70 : decode cX10_library 70 = .ok (.getfield 116, 3) := by decide +kernel
theorem kF_RX10_116 : Cond.fieldLink RX10 116 "CobwebLibrary$Founding" "shelves" "LCobwebLibrary$Shelves;" ∈ gT := List.mem_filter.mpr ⟨List.mem_of_getElem? (i := 349) (by decide +kernel), by decide +kernel⟩
theorem dX10_library_73 : decode cX10_library 73 = .ok (.invokevirtual 117, 3) := by decide +kernel
theorem dX10_library_76 : decode cX10_library 76 = .ok (.aload_n 0, 1) := by decide +kernel
theorem dX10_library_77 : decode cX10_library 77 = .ok (.getfield 50, 3) := by decide +kernel
theorem dX10_library_80 : decode cX10_library 80 = .ok (.invokevirtual 120, 3) := by decide +kernel
theorem kM_RX10_120 : Cond.methodLink RX10 120 yX7_forget ∈ gT := List.mem_filter.mpr ⟨List.mem_of_getElem? (i := 848) (by decide +kernel), by decide +kernel⟩
theorem dX10_library_83 : decode cX10_library 83 = .ok (.aload_n 0, 1) := by decide +kernel
theorem dX10_library_84 : decode cX10_library 84 = .ok (.getfield 60, 3) := by decide +kernel
theorem dX10_library_87 : decode cX10_library 87 = .ok (.invokevirtual 123, 3) := by decide +kernel
theorem kwV_X4_forget : MwV RX4 yX4_forget cX4_forget 1 none 0 := ⟨List.mem_filter.mpr ⟨List.mem_of_getElem? (i := 855) (by decide +kernel), by decide +kernel⟩, List.mem_filter.mpr ⟨List.mem_of_getElem? (i := 853) (by decide +kernel), by decide +kernel⟩, List.mem_filter.mpr ⟨List.mem_of_getElem? (i := 854) (by decide +kernel), by decide +kernel⟩, List.mem_filter.mpr ⟨List.mem_of_getElem? (i := 135) (by decide +kernel), by decide +kernel⟩, by decide +kernel⟩
theorem kM_RX10_123 : Cond.methodLink RX10 123 yX4_forget ∈ gT := List.mem_filter.mpr ⟨List.mem_of_getElem? (i := 852) (by decide +kernel), by decide +kernel⟩
theorem dX10_library_90 : decode cX10_library 90 = .ok (.iload_n 1, 1) := by decide +kernel
theorem dX10_library_91 : decode cX10_library 91 = .ok (.ireturn, 1) := by decide +kernel
theorem dX10_fault_0 : decode cX10_fault 0 = .ok (.aload_n 0, 1) := by decide +kernel
theorem dX10_fault_1 : decode cX10_fault 1 = .ok (.getfield 92, 3) := by decide +kernel
theorem dX10_fault_4 : decode cX10_fault 4 = .ok (.ireturn, 1) := by decide +kernel
theorem dX10_sentence_0 : decode cX10_sentence 0 = .ok (.aload_n 0, 1) := by decide +kernel
theorem dX10_sentence_1 : decode cX10_sentence 1 = .ok (.getfield 54, 3) := by decide +kernel
theorem dX10_sentence_4 : decode cX10_sentence 4 = .ok (.aload_n 0, 1) := by decide +kernel
theorem dX10_sentence_5 : decode cX10_sentence 5 = .ok (.getfield 10, 3) := by decide +kernel
theorem dX10_sentence_8 : decode cX10_sentence 8 = .ok (.aload_n 0, 1) := by decide +kernel
theorem dX10_sentence_9 : decode cX10_sentence 9 = .ok (.getfield 19, 3) := by decide +kernel
theorem dX10_sentence_12 : decode cX10_sentence 12 = .ok (.invokevirtual 124, 3) := by decide +kernel
theorem kwV_X7_readFrom : MwV RX7 yX7_readFrom cX7_readFrom 3 none 2 := ⟨List.mem_filter.mpr ⟨List.mem_of_getElem? (i := 868) (by decide +kernel), by decide +kernel⟩, List.mem_filter.mpr ⟨List.mem_of_getElem? (i := 866) (by decide +kernel), by decide +kernel⟩, List.mem_filter.mpr ⟨List.mem_of_getElem? (i := 867) (by decide +kernel), by decide +kernel⟩, List.mem_filter.mpr ⟨List.mem_of_getElem? (i := 134) (by decide +kernel), by decide +kernel⟩, by decide +kernel⟩
theorem kM_RX10_124 : Cond.methodLink RX10 124 yX7_readFrom ∈ gT := List.mem_filter.mpr ⟨List.mem_of_getElem? (i := 865) (by decide +kernel), by decide +kernel⟩
theorem dX10_sentence_15 : decode cX10_sentence 15 = .ok (.aload_n 0, 1) := by decide +kernel
theorem dX10_sentence_16 : decode cX10_sentence 16 = .ok (.getfield 10, 3) := by decide +kernel
theorem dX10_sentence_19 : decode cX10_sentence 19 = .ok (.iconst 0, 1) := by decide +kernel
theorem dX10_sentence_20 : decode cX10_sentence 20 = .ok (.putfield 96, 3) := by decide +kernel
theorem dX10_sentence_23 : decode cX10_sentence 23 = .ok (.aload_n 0, 1) := by decide +kernel
theorem dX10_sentence_24 : decode cX10_sentence 24 = .ok (.aload_n 0, 1) := by decide +kernel
theorem dX10_sentence_25 : decode cX10_sentence 25 = .ok (.getfield 10, 3) := by decide +kernel
theorem dX10_sentence_28 : decode cX10_sentence 28 = .ok (.getfield 107, 3) := by decide +kernel
theorem dX10_sentence_31 : decode cX10_sentence 31 = .ok (.putfield 92, 3) := by decide +kernel
theorem dX10_sentence_34 : decode cX10_sentence 34 = .ok (.aload_n 0, 1) := by decide +kernel
theorem dX10_sentence_35 : decode cX10_sentence 35 = .ok (.getfield 92, 3) := by decide +kernel
theorem dX10_sentence_38 : decode cX10_sentence 38 = .ok (.ifCond .eq 13, 3) := by decide +kernel
theorem dX10_sentence_41 : decode cX10_sentence 41 = .ok (.iconst (-1), 1) := by decide +kernel
theorem dX10_sentence_42 : decode cX10_sentence 42 = .ok (.aload_n 0, 1) := by decide +kernel
theorem dX10_sentence_43 : decode cX10_sentence 43 = .ok (.getfield 10, 3) := by decide +kernel
theorem dX10_sentence_46 : decode cX10_sentence 46 = .ok (.getfield 108, 3) := by decide +kernel
theorem kF_RX10_108 : Cond.fieldLink RX10 108 "CobwebLibrary$Tape" "faultPlace" "I" ∈ gT := List.mem_filter.mpr ⟨List.mem_of_getElem? (i := 190) (by decide +kernel), by decide +kernel⟩
theorem dX10_sentence_49 : decode cX10_sentence 49 = .ok (.isub, 1) := by decide +kernel
theorem dX10_sentence_50 : decode cX10_sentence 50 = .ok (.ireturn, 1) := by decide +kernel
theorem dX10_said_0 : decode cX10_said 0 = .ok (.aload_n 0, 1) := by decide +kernel
theorem dX10_said_1 : decode cX10_said 1 = .ok (.getfield 50, 3) := by decide +kernel
theorem dX10_said_4 : decode cX10_said 4 = .ok (.getfield 133, 3) := by decide +kernel
theorem kF_RX10_133 : Cond.fieldLink RX10 133 "CobwebLibrary$Sentence" "isTold" "Z" ∈ gT := List.mem_filter.mpr ⟨List.mem_of_getElem? (i := 419) (by decide +kernel), by decide +kernel⟩
theorem dX10_said_7 : decode cX10_said 7 = .ok (.ifCond .ne 5, 3) := by decide +kernel
theorem dX10_said_10 : decode cX10_said 10 = .ok (.iconst (-1), 1) := by decide +kernel
theorem dX10_said_11 : decode cX10_said 11 = .ok (.ireturn, 1) := by decide +kernel
theorem dX10_told_0 : decode cX10_told 0 = .ok (.aload_n 0, 1) := by decide +kernel
theorem dX10_told_1 : decode cX10_told 1 = .ok (.getfield 43, 3) := by decide +kernel
theorem dX10_told_4 : decode cX10_told 4 = .ok (.getfield 163, 3) := by decide +kernel
theorem kF_RX10_163 : Cond.fieldLink RX10 163 "CobwebLibrary$Life" "isTold" "Z" ∈ gT := List.mem_filter.mpr ⟨List.mem_of_getElem? (i := 377) (by decide +kernel), by decide +kernel⟩
theorem dX10_told_7 : decode cX10_told 7 = .ok (.ifCond .ne 5, 3) := by decide +kernel
theorem dX10_told_10 : decode cX10_told 10 = .ok (.iconst (-1), 1) := by decide +kernel
theorem dX10_told_11 : decode cX10_told 11 = .ok (.ireturn, 1) := by decide +kernel
theorem dX10_thread_0 : decode cX10_thread 0 = .ok (.iload_n 1, 1) := by decide +kernel
theorem dX10_thread_1 : decode cX10_thread 1 = .ok (.iload_n 2, 1) := by decide +kernel
theorem dX10_thread_2 : decode cX10_thread 2 = .ok (.if_icmp .eq 25, 3) := by decide +kernel
theorem dX10_thread_27 : decode cX10_thread 27 = .ok (.iconst (-1), 1) := by decide +kernel
theorem dX10_thread_28 : decode cX10_thread 28 = .ok (.ireturn, 1) := by decide +kernel
theorem dX10_thread_5 : decode cX10_thread 5 = .ok (.aload_n 0, 1) := by decide +kernel
theorem dX10_thread_6 : decode cX10_thread 6 = .ok (.getfield 19, 3) := by decide +kernel
theorem dX10_thread_9 : decode cX10_thread 9 = .ok (.iload_n 1, 1) := by decide +kernel
theorem dX10_thread_10 : decode cX10_thread 10 = .ok (.invokevirtual 170, 3) := by decide +kernel
theorem kwV_X6_hasBook : MwV RX6 yX6_hasBook cX6_hasBook 2 (some .boolean) 1 := ⟨List.mem_filter.mpr ⟨List.mem_of_getElem? (i := 928) (by decide +kernel), by decide +kernel⟩, List.mem_filter.mpr ⟨List.mem_of_getElem? (i := 926) (by decide +kernel), by decide +kernel⟩, List.mem_filter.mpr ⟨List.mem_of_getElem? (i := 927) (by decide +kernel), by decide +kernel⟩, List.mem_filter.mpr ⟨List.mem_of_getElem? (i := 130) (by decide +kernel), by decide +kernel⟩, by decide +kernel⟩
theorem kM_RX10_170 : Cond.methodLink RX10 170 yX6_hasBook ∈ gT := List.mem_filter.mpr ⟨List.mem_of_getElem? (i := 1087) (by decide +kernel), by decide +kernel⟩
theorem dX10_thread_13 : decode cX10_thread 13 = .ok (.ifCond .eq 14, 3) := by decide +kernel
theorem dX10_sight_0 : decode cX10_sight 0 = .ok (.aload_n 0, 1) := by decide +kernel
theorem dX10_sight_1 : decode cX10_sight 1 = .ok (.getfield 19, 3) := by decide +kernel
theorem dX10_sight_4 : decode cX10_sight 4 = .ok (.iload_n 1, 1) := by decide +kernel
theorem dX10_sight_5 : decode cX10_sight 5 = .ok (.invokevirtual 170, 3) := by decide +kernel
theorem dX10_sight_8 : decode cX10_sight 8 = .ok (.ifCond .eq 21, 3) := by decide +kernel
theorem dX10_sight_29 : decode cX10_sight 29 = .ok (.iconst (-1), 1) := by decide +kernel
theorem dX10_sight_30 : decode cX10_sight 30 = .ok (.ireturn, 1) := by decide +kernel
theorem dX8_bookIn_0 : decode cX8_bookIn 0 = .ok (.iconst 0, 1) := by decide +kernel
theorem dX8_bookIn_1 : decode cX8_bookIn 1 = .ok (.istore 4, 2) := by decide +kernel
theorem dX8_bookIn_3 : decode cX8_bookIn 3 = .ok (.iload 4, 2) := by decide +kernel
theorem dX8_bookIn_5 : decode cX8_bookIn 5 = .ok (.iload_n 1, 1) := by decide +kernel
theorem dX8_bookIn_6 : decode cX8_bookIn 6 = .ok (.if_icmp .ge 34, 3) := by decide +kernel
theorem dX8_bookIn_40 : decode cX8_bookIn 40 = .ok (.iconst (-1), 1) := by decide +kernel
theorem dX8_bookIn_41 : decode cX8_bookIn 41 = .ok (.ireturn, 1) := by decide +kernel
theorem dX10_at_0 : decode cX10_at 0 = .ok (.aload_n 0, 1) := by decide +kernel
theorem dX10_at_1 : decode cX10_at 1 = .ok (.getfield 26, 3) := by decide +kernel
theorem dX10_at_4 : decode cX10_at 4 = .ok (.aload_n 0, 1) := by decide +kernel
theorem dX10_at_5 : decode cX10_at 5 = .ok (.getfield 19, 3) := by decide +kernel
theorem dX10_at_8 : decode cX10_at 8 = .ok (.getfield 211, 3) := by decide +kernel
theorem kF_RX10_211 : Cond.fieldLink RX10 211 "CobwebLibrary$Plan" "books" "I" ∈ gT := List.mem_filter.mpr ⟨List.mem_of_getElem? (i := 251) (by decide +kernel), by decide +kernel⟩
theorem dX10_at_11 : decode cX10_at 11 = .ok (.iload_n 1, 1) := by decide +kernel
theorem dX10_at_12 : decode cX10_at 12 = .ok (.iload_n 2, 1) := by decide +kernel
theorem dX10_at_13 : decode cX10_at 13 = .ok (.invokevirtual 217, 3) := by decide +kernel
theorem kwV_X8_bookIn : MwV RX8 yX8_bookIn cX8_bookIn 5 (some .int) 3 := ⟨List.mem_filter.mpr ⟨List.mem_of_getElem? (i := 784) (by decide +kernel), by decide +kernel⟩, List.mem_filter.mpr ⟨List.mem_of_getElem? (i := 782) (by decide +kernel), by decide +kernel⟩, List.mem_filter.mpr ⟨List.mem_of_getElem? (i := 783) (by decide +kernel), by decide +kernel⟩, List.mem_filter.mpr ⟨List.mem_of_getElem? (i := 131) (by decide +kernel), by decide +kernel⟩, by decide +kernel⟩
theorem kM_RX10_217 : Cond.methodLink RX10 217 yX8_bookIn ∈ gT := List.mem_filter.mpr ⟨List.mem_of_getElem? (i := 1098) (by decide +kernel), by decide +kernel⟩
theorem dX10_at_16 : decode cX10_at 16 = .ok (.ireturn, 1) := by decide +kernel
theorem dX10_sumOf_0 : decode cX10_sumOf 0 = .ok (.iconst 0, 1) := by decide +kernel
theorem dX10_sumOf_1 : decode cX10_sumOf 1 = .ok (.istore_n 1, 1) := by decide +kernel
theorem dX10_sumOf_2 : decode cX10_sumOf 2 = .ok (.iconst 0, 1) := by decide +kernel
theorem dX10_sumOf_3 : decode cX10_sumOf 3 = .ok (.istore_n 2, 1) := by decide +kernel
theorem dX10_sumOf_4 : decode cX10_sumOf 4 = .ok (.iload_n 2, 1) := by decide +kernel
theorem dX10_sumOf_5 : decode cX10_sumOf 5 = .ok (.aload_n 0, 1) := by decide +kernel
theorem dX10_sumOf_6 : decode cX10_sumOf 6 = .ok (.arraylength, 1) := by decide +kernel
theorem dX10_sumOf_7 : decode cX10_sumOf 7 = .ok (.if_icmp .ge 15, 3) := by decide +kernel
theorem dX10_sumOf_10 : decode cX10_sumOf 10 = .ok (.iload_n 1, 1) := by decide +kernel
theorem dX10_sumOf_11 : decode cX10_sumOf 11 = .ok (.aload_n 0, 1) := by decide +kernel
theorem dX10_sumOf_12 : decode cX10_sumOf 12 = .ok (.iload_n 2, 1) := by decide +kernel
theorem dX10_sumOf_13 : decode cX10_sumOf 13 = .ok (.iaload, 1) := by decide +kernel
theorem dX10_sumOf_14 : decode cX10_sumOf 14 = .ok (.iadd, 1) := by decide +kernel
theorem dX10_sumOf_15 : decode cX10_sumOf 15 = .ok (.istore_n 1, 1) := by decide +kernel
theorem dX10_sumOf_16 : decode cX10_sumOf 16 = .ok (.iinc 2 1, 3) := by decide +kernel
theorem dX10_sumOf_19 : decode cX10_sumOf 19 = .ok (.goto (-15), 3) := by decide +kernel
theorem dX10_sumOf_22 : decode cX10_sumOf 22 = .ok (.iload_n 1, 1) := by decide +kernel
theorem dX10_sumOf_23 : decode cX10_sumOf 23 = .ok (.ireturn, 1) := by decide +kernel
theorem dX10_now_0 : decode cX10_now 0 = .ok (.iload_n 1, 1) := by decide +kernel
theorem dX10_now_1 : decode cX10_now 1 = .ok (.tableswitch 120 0 6 #[43, 51, 64, 77, 85, 96, 109], 43) := by decide +kernel
set_option maxRecDepth 10000 in
theorem sw_0_6 (x : Int32) : x = 0 ∨ x = 1 ∨ x = 2 ∨ x = 3 ∨ x = 4 ∨ x = 5 ∨ x = 6 ∨ (x.toInt < 0 ∨ 6 < x.toInt) := by
  by_cases h0 : x.toInt < 0 ∨ 6 < x.toInt
  · simp only [h0, or_true]
  · obtain ⟨j, h1, h2, rfl⟩ := nat_of (x := x) (a := 0) (b := 6) (by omega) (by omega) (by decide) (by decide)
    have h3 : j < 7 := by omega
    have h4 : 0 ≤ j := by omega
    clear h0 h1 h2
    revert j; decide +kernel
theorem dX10_now_44 : decode cX10_now 44 = .ok (.aload_n 0, 1) := by decide +kernel
theorem dX10_now_45 : decode cX10_now 45 = .ok (.getfield 26, 3) := by decide +kernel
theorem dX10_now_48 : decode cX10_now 48 = .ok (.getfield 221, 3) := by decide +kernel
theorem kF_RX10_221 : Cond.fieldLink RX10 221 "CobwebLibrary$Shelves" "day" "I" ∈ gT := List.mem_filter.mpr ⟨List.mem_of_getElem? (i := 317) (by decide +kernel), by decide +kernel⟩
theorem dX10_now_51 : decode cX10_now 51 = .ok (.ireturn, 1) := by decide +kernel
theorem dX10_now_52 : decode cX10_now 52 = .ok (.aload_n 0, 1) := by decide +kernel
theorem dX10_now_53 : decode cX10_now 53 = .ok (.getfield 26, 3) := by decide +kernel
theorem dX10_now_56 : decode cX10_now 56 = .ok (.aload_n 0, 1) := by decide +kernel
theorem dX10_now_57 : decode cX10_now 57 = .ok (.getfield 19, 3) := by decide +kernel
theorem dX10_now_60 : decode cX10_now 60 = .ok (.iconst 1, 1) := by decide +kernel
theorem dX10_now_61 : decode cX10_now 61 = .ok (.invokevirtual 224, 3) := by decide +kernel
theorem kM_RX10_224 : Cond.methodLink RX10 224 yX8_booksReading ∈ gT := List.mem_filter.mpr ⟨List.mem_of_getElem? (i := 1103) (by decide +kernel), by decide +kernel⟩
theorem dX10_now_64 : decode cX10_now 64 = .ok (.ireturn, 1) := by decide +kernel
theorem dX10_now_65 : decode cX10_now 65 = .ok (.aload_n 0, 1) := by decide +kernel
theorem dX10_now_66 : decode cX10_now 66 = .ok (.getfield 26, 3) := by decide +kernel
theorem dX10_now_69 : decode cX10_now 69 = .ok (.aload_n 0, 1) := by decide +kernel
theorem dX10_now_70 : decode cX10_now 70 = .ok (.getfield 19, 3) := by decide +kernel
theorem dX10_now_73 : decode cX10_now 73 = .ok (.iconst 2, 1) := by decide +kernel
theorem dX10_now_74 : decode cX10_now 74 = .ok (.invokevirtual 224, 3) := by decide +kernel
theorem dX10_now_77 : decode cX10_now 77 = .ok (.ireturn, 1) := by decide +kernel
theorem dX10_now_78 : decode cX10_now 78 = .ok (.aload_n 0, 1) := by decide +kernel
theorem dX10_now_79 : decode cX10_now 79 = .ok (.getfield 26, 3) := by decide +kernel
theorem dX10_now_82 : decode cX10_now 82 = .ok (.getfield 195, 3) := by decide +kernel
theorem kF_RX10_195 : Cond.fieldLink RX10 195 "CobwebLibrary$Shelves" "today" "I" ∈ gT := List.mem_filter.mpr ⟨List.mem_of_getElem? (i := 313) (by decide +kernel), by decide +kernel⟩
theorem dX10_now_85 : decode cX10_now 85 = .ok (.ireturn, 1) := by decide +kernel
theorem dX10_now_86 : decode cX10_now 86 = .ok (.aload_n 0, 1) := by decide +kernel
theorem dX10_now_87 : decode cX10_now 87 = .ok (.getfield 26, 3) := by decide +kernel
theorem dX10_now_90 : decode cX10_now 90 = .ok (.getfield 183, 3) := by decide +kernel
theorem kF_RX10_183 : Cond.fieldLink RX10 183 "CobwebLibrary$Shelves" "web" "[I" ∈ gT := List.mem_filter.mpr ⟨List.mem_of_getElem? (i := 304) (by decide +kernel), by decide +kernel⟩
theorem dX10_now_93 : decode cX10_now 93 = .ok (.invokestatic 227, 3) := by decide +kernel
theorem kwS_X10_sumOf : MwS yX10_sumOf cX10_sumOf 3 (some .int) 1 := ⟨List.mem_filter.mpr ⟨List.mem_of_getElem? (i := 1106) (by decide +kernel), by decide +kernel⟩, List.mem_filter.mpr ⟨List.mem_of_getElem? (i := 1105) (by decide +kernel), by decide +kernel⟩, List.mem_filter.mpr ⟨List.mem_of_getElem? (i := 128) (by decide +kernel), by decide +kernel⟩, by decide +kernel⟩
theorem kM_RX10_227 : Cond.methodLink RX10 227 yX10_sumOf ∈ gT := List.mem_filter.mpr ⟨List.mem_of_getElem? (i := 1104) (by decide +kernel), by decide +kernel⟩
theorem dX10_now_96 : decode cX10_now 96 = .ok (.ireturn, 1) := by decide +kernel
theorem dX10_now_97 : decode cX10_now 97 = .ok (.aload_n 0, 1) := by decide +kernel
theorem dX10_now_98 : decode cX10_now 98 = .ok (.getfield 26, 3) := by decide +kernel
theorem dX10_now_101 : decode cX10_now 101 = .ok (.getfield 205, 3) := by decide +kernel
theorem kF_RX10_205 : Cond.fieldLink RX10 205 "CobwebLibrary$Shelves" "threads" "[I" ∈ gT := List.mem_filter.mpr ⟨List.mem_of_getElem? (i := 310) (by decide +kernel), by decide +kernel⟩
theorem dX10_now_104 : decode cX10_now 104 = .ok (.invokestatic 227, 3) := by decide +kernel
theorem dX10_now_107 : decode cX10_now 107 = .ok (.iconst 2, 1) := by decide +kernel
theorem dX10_now_108 : decode cX10_now 108 = .ok (.idiv, 1) := by decide +kernel
theorem dX10_now_109 : decode cX10_now 109 = .ok (.ireturn, 1) := by decide +kernel
theorem dX10_now_110 : decode cX10_now 110 = .ok (.aload_n 0, 1) := by decide +kernel
theorem dX10_now_111 : decode cX10_now 111 = .ok (.getfield 26, 3) := by decide +kernel
theorem dX10_now_114 : decode cX10_now 114 = .ok (.getfield 198, 3) := by decide +kernel
theorem kF_RX10_198 : Cond.fieldLink RX10 198 "CobwebLibrary$Shelves" "asks" "[I" ∈ gT := List.mem_filter.mpr ⟨List.mem_of_getElem? (i := 307) (by decide +kernel), by decide +kernel⟩
theorem dX10_now_117 : decode cX10_now 117 = .ok (.invokestatic 227, 3) := by decide +kernel
theorem dX10_now_120 : decode cX10_now 120 = .ok (.ireturn, 1) := by decide +kernel
theorem dX10_now_121 : decode cX10_now 121 = .ok (.iconst (-1), 1) := by decide +kernel
theorem dX10_now_122 : decode cX10_now 122 = .ok (.ireturn, 1) := by decide +kernel
theorem dX10_count_0 : decode cX10_count 0 = .ok (.iload_n 1, 1) := by decide +kernel
theorem dX10_count_1 : decode cX10_count 1 = .ok (.tableswitch 111 0 7 #[47, 55, 63, 71, 79, 87, 95, 103], 47) := by decide +kernel
set_option maxRecDepth 10000 in
theorem sw_0_7 (x : Int32) : x = 0 ∨ x = 1 ∨ x = 2 ∨ x = 3 ∨ x = 4 ∨ x = 5 ∨ x = 6 ∨ x = 7 ∨ (x.toInt < 0 ∨ 7 < x.toInt) := by
  by_cases h0 : x.toInt < 0 ∨ 7 < x.toInt
  · simp only [h0, or_true]
  · obtain ⟨j, h1, h2, rfl⟩ := nat_of (x := x) (a := 0) (b := 7) (by omega) (by omega) (by decide) (by decide)
    have h3 : j < 8 := by omega
    have h4 : 0 ≤ j := by omega
    clear h0 h1 h2
    revert j; decide +kernel
theorem dX10_count_48 : decode cX10_count 48 = .ok (.aload_n 0, 1) := by decide +kernel
theorem dX10_count_49 : decode cX10_count 49 = .ok (.getfield 19, 3) := by decide +kernel
theorem dX10_count_52 : decode cX10_count 52 = .ok (.getfield 211, 3) := by decide +kernel
theorem dX10_count_55 : decode cX10_count 55 = .ok (.ireturn, 1) := by decide +kernel
theorem dX10_count_56 : decode cX10_count 56 = .ok (.aload_n 0, 1) := by decide +kernel
theorem dX10_count_57 : decode cX10_count 57 = .ok (.getfield 19, 3) := by decide +kernel
theorem dX10_count_60 : decode cX10_count 60 = .ok (.getfield 231, 3) := by decide +kernel
theorem kF_RX10_231 : Cond.fieldLink RX10 231 "CobwebLibrary$Plan" "wide" "I" ∈ gT := List.mem_filter.mpr ⟨List.mem_of_getElem? (i := 226) (by decide +kernel), by decide +kernel⟩
theorem dX10_count_63 : decode cX10_count 63 = .ok (.ireturn, 1) := by decide +kernel
theorem dX10_count_64 : decode cX10_count 64 = .ok (.aload_n 0, 1) := by decide +kernel
theorem dX10_count_65 : decode cX10_count 65 = .ok (.getfield 19, 3) := by decide +kernel
theorem dX10_count_68 : decode cX10_count 68 = .ok (.getfield 234, 3) := by decide +kernel
theorem kF_RX10_234 : Cond.fieldLink RX10 234 "CobwebLibrary$Plan" "high" "I" ∈ gT := List.mem_filter.mpr ⟨List.mem_of_getElem? (i := 230) (by decide +kernel), by decide +kernel⟩
theorem dX10_count_71 : decode cX10_count 71 = .ok (.ireturn, 1) := by decide +kernel
theorem dX10_count_72 : decode cX10_count 72 = .ok (.aload_n 0, 1) := by decide +kernel
theorem dX10_count_73 : decode cX10_count 73 = .ok (.getfield 19, 3) := by decide +kernel
theorem dX10_count_76 : decode cX10_count 76 = .ok (.getfield 237, 3) := by decide +kernel
theorem kF_RX10_237 : Cond.fieldLink RX10 237 "CobwebLibrary$Plan" "law" "I" ∈ gT := List.mem_filter.mpr ⟨List.mem_of_getElem? (i := 233) (by decide +kernel), by decide +kernel⟩
theorem dX10_count_79 : decode cX10_count 79 = .ok (.ireturn, 1) := by decide +kernel
theorem dX10_count_80 : decode cX10_count 80 = .ok (.aload_n 0, 1) := by decide +kernel
theorem dX10_count_81 : decode cX10_count 81 = .ok (.getfield 19, 3) := by decide +kernel
theorem dX10_count_84 : decode cX10_count 84 = .ok (.getfield 240, 3) := by decide +kernel
theorem kF_RX10_240 : Cond.fieldLink RX10 240 "CobwebLibrary$Plan" "spin" "I" ∈ gT := List.mem_filter.mpr ⟨List.mem_of_getElem? (i := 236) (by decide +kernel), by decide +kernel⟩
theorem dX10_count_87 : decode cX10_count 87 = .ok (.ireturn, 1) := by decide +kernel
theorem dX10_count_88 : decode cX10_count 88 = .ok (.aload_n 0, 1) := by decide +kernel
theorem dX10_count_89 : decode cX10_count 89 = .ok (.getfield 19, 3) := by decide +kernel
theorem dX10_count_92 : decode cX10_count 92 = .ok (.getfield 243, 3) := by decide +kernel
theorem kF_RX10_243 : Cond.fieldLink RX10 243 "CobwebLibrary$Plan" "line" "I" ∈ gT := List.mem_filter.mpr ⟨List.mem_of_getElem? (i := 240) (by decide +kernel), by decide +kernel⟩
theorem dX10_count_95 : decode cX10_count 95 = .ok (.ireturn, 1) := by decide +kernel
theorem dX10_count_96 : decode cX10_count 96 = .ok (.aload_n 0, 1) := by decide +kernel
theorem dX10_count_97 : decode cX10_count 97 = .ok (.getfield 19, 3) := by decide +kernel
theorem dX10_count_100 : decode cX10_count 100 = .ok (.getfield 246, 3) := by decide +kernel
theorem kF_RX10_246 : Cond.fieldLink RX10 246 "CobwebLibrary$Plan" "draught" "I" ∈ gT := List.mem_filter.mpr ⟨List.mem_of_getElem? (i := 242) (by decide +kernel), by decide +kernel⟩
theorem dX10_count_103 : decode cX10_count 103 = .ok (.ireturn, 1) := by decide +kernel
theorem dX10_count_104 : decode cX10_count 104 = .ok (.aload_n 0, 1) := by decide +kernel
theorem dX10_count_105 : decode cX10_count 105 = .ok (.getfield 10, 3) := by decide +kernel
theorem dX10_count_108 : decode cX10_count 108 = .ok (.getfield 96, 3) := by decide +kernel
theorem dX10_count_111 : decode cX10_count 111 = .ok (.ireturn, 1) := by decide +kernel
theorem dX10_count_112 : decode cX10_count 112 = .ok (.iconst (-1), 1) := by decide +kernel
theorem dX10_count_113 : decode cX10_count 113 = .ok (.ireturn, 1) := by decide +kernel
theorem dX10_quarrels_0 : decode cX10_quarrels 0 = .ok (.iconst 0, 1) := by decide +kernel
theorem dX10_quarrels_1 : decode cX10_quarrels 1 = .ok (.istore_n 1, 1) := by decide +kernel
theorem dX10_quarrels_2 : decode cX10_quarrels 2 = .ok (.iconst 0, 1) := by decide +kernel
theorem dX10_quarrels_3 : decode cX10_quarrels 3 = .ok (.istore_n 2, 1) := by decide +kernel
theorem dX10_quarrels_4 : decode cX10_quarrels 4 = .ok (.iload_n 2, 1) := by decide +kernel
theorem dX10_quarrels_5 : decode cX10_quarrels 5 = .ok (.aload_n 0, 1) := by decide +kernel
theorem dX10_quarrels_6 : decode cX10_quarrels 6 = .ok (.getfield 19, 3) := by decide +kernel
theorem dX10_quarrels_9 : decode cX10_quarrels 9 = .ok (.getfield 211, 3) := by decide +kernel
theorem dX10_quarrels_12 : decode cX10_quarrels 12 = .ok (.if_icmp .ge 20, 3) := by decide +kernel
theorem dX10_quarrels_32 : decode cX10_quarrels 32 = .ok (.iload_n 1, 1) := by decide +kernel
theorem dX10_quarrels_33 : decode cX10_quarrels 33 = .ok (.ireturn, 1) := by decide +kernel
theorem dX10_catalogue_0 : decode cX10_catalogue 0 = .ok (.aload_n 0, 1) := by decide +kernel
theorem dX10_catalogue_1 : decode cX10_catalogue 1 = .ok (.getfield 19, 3) := by decide +kernel
theorem dX10_catalogue_4 : decode cX10_catalogue 4 = .ok (.iload_n 1, 1) := by decide +kernel
theorem dX10_catalogue_5 : decode cX10_catalogue 5 = .ok (.invokevirtual 170, 3) := by decide +kernel
theorem dX10_catalogue_8 : decode cX10_catalogue 8 = .ok (.ifCond .ne 5, 3) := by decide +kernel
theorem dX10_catalogue_11 : decode cX10_catalogue 11 = .ok (.iconst (-1), 1) := by decide +kernel
theorem dX10_catalogue_12 : decode cX10_catalogue 12 = .ok (.ireturn, 1) := by decide +kernel
theorem dX10_byteAt_0 : decode cX10_byteAt 0 = .ok (.iload_n 1, 1) := by decide +kernel
theorem dX10_byteAt_1 : decode cX10_byteAt 1 = .ok (.ifCond .lt 20, 3) := by decide +kernel
theorem dX10_byteAt_21 : decode cX10_byteAt 21 = .ok (.iconst (-1), 1) := by decide +kernel
theorem dX10_byteAt_22 : decode cX10_byteAt 22 = .ok (.ireturn, 1) := by decide +kernel
theorem dX10_byteAt_4 : decode cX10_byteAt 4 = .ok (.iload_n 1, 1) := by decide +kernel
theorem dX10_byteAt_5 : decode cX10_byteAt 5 = .ok (.aload_n 0, 1) := by decide +kernel
theorem dX10_byteAt_6 : decode cX10_byteAt 6 = .ok (.getfield 88, 3) := by decide +kernel
theorem dX10_byteAt_9 : decode cX10_byteAt 9 = .ok (.if_icmp .ge 12, 3) := by decide +kernel
theorem dX10_ask_0 : decode cX10_ask 0 = .ok (.aload_n 0, 1) := by decide +kernel
theorem dX10_ask_1 : decode cX10_ask 1 = .ok (.getfield 19, 3) := by decide +kernel
theorem dX10_ask_4 : decode cX10_ask 4 = .ok (.iload_n 1, 1) := by decide +kernel
theorem dX10_ask_5 : decode cX10_ask 5 = .ok (.invokevirtual 170, 3) := by decide +kernel
theorem dX10_ask_8 : decode cX10_ask 8 = .ok (.ifCond .ne 5, 3) := by decide +kernel
theorem dX10_ask_11 : decode cX10_ask 11 = .ok (.iconst (-1), 1) := by decide +kernel
theorem dX10_ask_12 : decode cX10_ask 12 = .ok (.ireturn, 1) := by decide +kernel
set_option maxHeartbeats 4000000 in
set_option maxRecDepth 100000 in
theorem x_feed (l : Launch) (D : va_G) (cy : Nat → ClassId) (h : Nat) (v1 : Int32) (v2 : Int32) (v3 : Int32) (v4 : Int32) (v5 : Int32) (ta : Nat) (pl : Nat) (sh : Nat) (tr : Nat) (fo : Nat) (li : Nat) (sp : Nat) (dr : Nat) (pa : Nat) (im : Nat) (fs : Nat) (ph : Nat) (cd : Nat) (ta0 : Nat) (sz : Nat)  : MI l yX10_feed cX10_feed 6 (some .int) (Rm 1 22 0 0) D cy [.ref h, .int v1, .int v2, .int v3, .int v4, .int v5] sz [(h, .inr (10, [.ref ta, .ref pl, .ref sh, .ref tr, .ref fo, .ref li, .ref sp, .ref dr, .ref pa, .ref im, .ref fs, .ref ph, .ref cd, .int 0, .int 0])), (ta, .inr (9, [.ref ta0, .int 0, .int 0, .int 0, .int 0, .int 0, .int 0, .int 0, .int 0, .int 0, .int 0])), (ta0, .inl (cy 1, 940, .inl (fun _ => 0)))] (fun (r : Int32) (u : Unit) => r = 20) (fun u : Unit => []) := by
  refine MI.enter (by decide) (Nat.le_of_ble_eq_true rfl) ?_
  intro p e s m below meth c ls A hsz hAe C hP hD hS hl
  have C : Cx p s m _ meth c cX10_feed 6 (some .int) RX10 "feed" D cy A := C
  have hx := C.1
  have hb := C.2.1
  have hl : lv_has ls 6 [(0, .ref h), (1, .int v1), (2, .int v2), (3, .int v3), (4, .int v4), (5, .int v5)] := hl
  refine lv_aload_n hx hb dX10_feed_0 rfl (lv_at hl 0 rfl) ?_
  refine q_get (v := .ref ta) C hP 0 0 rfl rfl inX10 (by decide) kF_RX10_10 rfl rfl dX10_feed_1 ?_
  refine q_get (v := .int 0) C hP 1 1 rfl rfl inX9 (by decide) kF_RX10_96 rfl rfl dX10_feed_4 ?_
  refine lv_sipush (v := 920) hx hb dX10_feed_7 (by decide) ?_
  refine lv_icmp_le (tgt := 15) hx hb dX10_feed_10 (by decide) (fun _ => ?_) (fun c_0 => absurd (by decide) c_0)
  refine lv_aload_n hx hb dX10_feed_15 rfl (lv_at hl 0 rfl) ?_
  refine q_get (v := .ref ta) C hP 0 0 rfl rfl inX10 (by decide) kF_RX10_10 rfl rfl dX10_feed_16 ?_
  refine lv_iload_n hx hb dX10_feed_19 rfl (lv_at hl 1 rfl) ?_
  refine q_av (wr := [(h, .inr (10, [.ref ta, .ref pl, .ref sh, .ref tr, .ref fo, .ref li, .ref sp, .ref dr, .ref pa, .ref im, .ref fs, .ref ph, .ref cd, .int 0, .int 0]))]) (r_V (q0 := 0) (As := [.int v1]) (rest := []) (wc := [(ta, .inr (9, [.ref ta0, .int 0, .int 0, .int 0, .int 0, .int 0, .int 0, .int 0, .int 0, .int 0, .int 0])), (ta0, .inl (cy 1, 940, .inl (fun _ => 0)))]) C (q_subP hP [1, 2] rfl) (hD.sub [1, 2] (by decide) rfl) (c_addNumber l D cy ta v1 ta0 0 (fun _ => 0) _ (by omega)) kwV_X9_addNumber kM_RX10_99 rfl rfl ⟨Nat.le_of_ble_eq_true rfl, Nat.le_of_ble_eq_true rfl⟩ rfl hl.1 rfl (Nat.le_of_ble_eq_true rfl) dX10_feed_20 ⟨Nat.le_of_ble_eq_true rfl, Nat.le_of_ble_eq_true rfl⟩) C.2.2.2.2.2.2.1 hP hD hS [1, 2] [0] rfl rfl (by decide) (by decide) (fun u_1 H locs hw_3 hP hD hS => ?_)
  have hP : va_P D vwCl [(h, .inr (10, [.ref ta, .ref pl, .ref sh, .ref tr, .ref fo, .ref li, .ref sp, .ref dr, .ref pa, .ref im, .ref fs, .ref ph, .ref cd, .int 0, .int 0])), (ta, .inr (9, [.ref ta0, .int 4, .int 0, .int 0, .int 0, .int 0, .int 0, .int 0, .int 0, .int 0, .int 0])), (ta0, .inl (cy 1, 940, .inl u_1))] H := hP
  have hD : va_D A [(h, .inr (10, [.ref ta, .ref pl, .ref sh, .ref tr, .ref fo, .ref li, .ref sp, .ref dr, .ref pa, .ref im, .ref fs, .ref ph, .ref cd, .int 0, .int 0])), (ta, .inr (9, [.ref ta0, .int 4, .int 0, .int 0, .int 0, .int 0, .int 0, .int 0, .int 0, .int 0, .int 0])), (ta0, .inl (cy 1, 940, .inl u_1))] := hD
  refine lv_aload_n hx hb dX10_feed_23 rfl (lv_at hl 0 rfl) ?_
  refine q_get (v := .ref ta) C hP 0 0 rfl rfl inX10 (by decide) kF_RX10_10 rfl rfl dX10_feed_24 ?_
  refine lv_iload_n hx hb dX10_feed_27 rfl (lv_at hl 2 rfl) ?_
  refine q_av (wr := [(h, .inr (10, [.ref ta, .ref pl, .ref sh, .ref tr, .ref fo, .ref li, .ref sp, .ref dr, .ref pa, .ref im, .ref fs, .ref ph, .ref cd, .int 0, .int 0]))]) (r_V (q0 := 0) (As := [.int v2]) (rest := []) (wc := [(ta, .inr (9, [.ref ta0, .int 4, .int 0, .int 0, .int 0, .int 0, .int 0, .int 0, .int 0, .int 0, .int 0])), (ta0, .inl (cy 1, 940, .inl u_1))]) C (q_subP hP [1, 2] rfl) (hD.sub [1, 2] (by decide) rfl) (c_addNumber l D cy ta v2 ta0 4 u_1 _ (by omega)) kwV_X9_addNumber kM_RX10_99 rfl rfl ⟨Nat.le_of_ble_eq_true rfl, Nat.le_of_ble_eq_true rfl⟩ rfl hl.1 rfl (Nat.le_of_ble_eq_true rfl) dX10_feed_28 ⟨Nat.le_of_ble_eq_true rfl, Nat.le_of_ble_eq_true rfl⟩) C.2.2.2.2.2.2.1 hP hD hS [1, 2] [0] rfl rfl (by decide) (by decide) (fun u_4 H locs hw_6 hP hD hS => ?_)
  have hP : va_P D vwCl [(h, .inr (10, [.ref ta, .ref pl, .ref sh, .ref tr, .ref fo, .ref li, .ref sp, .ref dr, .ref pa, .ref im, .ref fs, .ref ph, .ref cd, .int 0, .int 0])), (ta, .inr (9, [.ref ta0, .int 8, .int 0, .int 0, .int 0, .int 0, .int 0, .int 0, .int 0, .int 0, .int 0])), (ta0, .inl (cy 1, 940, .inl u_4))] H := hP
  have hD : va_D A [(h, .inr (10, [.ref ta, .ref pl, .ref sh, .ref tr, .ref fo, .ref li, .ref sp, .ref dr, .ref pa, .ref im, .ref fs, .ref ph, .ref cd, .int 0, .int 0])), (ta, .inr (9, [.ref ta0, .int 8, .int 0, .int 0, .int 0, .int 0, .int 0, .int 0, .int 0, .int 0, .int 0])), (ta0, .inl (cy 1, 940, .inl u_4))] := hD
  refine lv_aload_n hx hb dX10_feed_31 rfl (lv_at hl 0 rfl) ?_
  refine q_get (v := .ref ta) C hP 0 0 rfl rfl inX10 (by decide) kF_RX10_10 rfl rfl dX10_feed_32 ?_
  refine lv_iload_n hx hb dX10_feed_35 rfl (lv_at hl 3 rfl) ?_
  refine q_av (wr := [(h, .inr (10, [.ref ta, .ref pl, .ref sh, .ref tr, .ref fo, .ref li, .ref sp, .ref dr, .ref pa, .ref im, .ref fs, .ref ph, .ref cd, .int 0, .int 0]))]) (r_V (q0 := 0) (As := [.int v3]) (rest := []) (wc := [(ta, .inr (9, [.ref ta0, .int 8, .int 0, .int 0, .int 0, .int 0, .int 0, .int 0, .int 0, .int 0, .int 0])), (ta0, .inl (cy 1, 940, .inl u_4))]) C (q_subP hP [1, 2] rfl) (hD.sub [1, 2] (by decide) rfl) (c_addNumber l D cy ta v3 ta0 8 u_4 _ (by omega)) kwV_X9_addNumber kM_RX10_99 rfl rfl ⟨Nat.le_of_ble_eq_true rfl, Nat.le_of_ble_eq_true rfl⟩ rfl hl.1 rfl (Nat.le_of_ble_eq_true rfl) dX10_feed_36 ⟨Nat.le_of_ble_eq_true rfl, Nat.le_of_ble_eq_true rfl⟩) C.2.2.2.2.2.2.1 hP hD hS [1, 2] [0] rfl rfl (by decide) (by decide) (fun u_7 H locs hw_9 hP hD hS => ?_)
  have hP : va_P D vwCl [(h, .inr (10, [.ref ta, .ref pl, .ref sh, .ref tr, .ref fo, .ref li, .ref sp, .ref dr, .ref pa, .ref im, .ref fs, .ref ph, .ref cd, .int 0, .int 0])), (ta, .inr (9, [.ref ta0, .int 12, .int 0, .int 0, .int 0, .int 0, .int 0, .int 0, .int 0, .int 0, .int 0])), (ta0, .inl (cy 1, 940, .inl u_7))] H := hP
  have hD : va_D A [(h, .inr (10, [.ref ta, .ref pl, .ref sh, .ref tr, .ref fo, .ref li, .ref sp, .ref dr, .ref pa, .ref im, .ref fs, .ref ph, .ref cd, .int 0, .int 0])), (ta, .inr (9, [.ref ta0, .int 12, .int 0, .int 0, .int 0, .int 0, .int 0, .int 0, .int 0, .int 0, .int 0])), (ta0, .inl (cy 1, 940, .inl u_7))] := hD
  refine lv_aload_n hx hb dX10_feed_39 rfl (lv_at hl 0 rfl) ?_
  refine q_get (v := .ref ta) C hP 0 0 rfl rfl inX10 (by decide) kF_RX10_10 rfl rfl dX10_feed_40 ?_
  refine lv_iload hx hb dX10_feed_43 (lv_at hl 4 rfl) ?_
  refine q_av (wr := [(h, .inr (10, [.ref ta, .ref pl, .ref sh, .ref tr, .ref fo, .ref li, .ref sp, .ref dr, .ref pa, .ref im, .ref fs, .ref ph, .ref cd, .int 0, .int 0]))]) (r_V (q0 := 0) (As := [.int v4]) (rest := []) (wc := [(ta, .inr (9, [.ref ta0, .int 12, .int 0, .int 0, .int 0, .int 0, .int 0, .int 0, .int 0, .int 0, .int 0])), (ta0, .inl (cy 1, 940, .inl u_7))]) C (q_subP hP [1, 2] rfl) (hD.sub [1, 2] (by decide) rfl) (c_addNumber l D cy ta v4 ta0 12 u_7 _ (by omega)) kwV_X9_addNumber kM_RX10_99 rfl rfl ⟨Nat.le_of_ble_eq_true rfl, Nat.le_of_ble_eq_true rfl⟩ rfl hl.1 rfl (Nat.le_of_ble_eq_true rfl) dX10_feed_45 ⟨Nat.le_of_ble_eq_true rfl, Nat.le_of_ble_eq_true rfl⟩) C.2.2.2.2.2.2.1 hP hD hS [1, 2] [0] rfl rfl (by decide) (by decide) (fun u_10 H locs hw_12 hP hD hS => ?_)
  have hP : va_P D vwCl [(h, .inr (10, [.ref ta, .ref pl, .ref sh, .ref tr, .ref fo, .ref li, .ref sp, .ref dr, .ref pa, .ref im, .ref fs, .ref ph, .ref cd, .int 0, .int 0])), (ta, .inr (9, [.ref ta0, .int 16, .int 0, .int 0, .int 0, .int 0, .int 0, .int 0, .int 0, .int 0, .int 0])), (ta0, .inl (cy 1, 940, .inl u_10))] H := hP
  have hD : va_D A [(h, .inr (10, [.ref ta, .ref pl, .ref sh, .ref tr, .ref fo, .ref li, .ref sp, .ref dr, .ref pa, .ref im, .ref fs, .ref ph, .ref cd, .int 0, .int 0])), (ta, .inr (9, [.ref ta0, .int 16, .int 0, .int 0, .int 0, .int 0, .int 0, .int 0, .int 0, .int 0, .int 0])), (ta0, .inl (cy 1, 940, .inl u_10))] := hD
  refine lv_aload_n hx hb dX10_feed_48 rfl (lv_at hl 0 rfl) ?_
  refine q_get (v := .ref ta) C hP 0 0 rfl rfl inX10 (by decide) kF_RX10_10 rfl rfl dX10_feed_49 ?_
  refine lv_iload hx hb dX10_feed_52 (lv_at hl 5 rfl) ?_
  refine q_av (wr := [(h, .inr (10, [.ref ta, .ref pl, .ref sh, .ref tr, .ref fo, .ref li, .ref sp, .ref dr, .ref pa, .ref im, .ref fs, .ref ph, .ref cd, .int 0, .int 0]))]) (r_V (q0 := 0) (As := [.int v5]) (rest := []) (wc := [(ta, .inr (9, [.ref ta0, .int 16, .int 0, .int 0, .int 0, .int 0, .int 0, .int 0, .int 0, .int 0, .int 0])), (ta0, .inl (cy 1, 940, .inl u_10))]) C (q_subP hP [1, 2] rfl) (hD.sub [1, 2] (by decide) rfl) (c_addNumber l D cy ta v5 ta0 16 u_10 _ (by omega)) kwV_X9_addNumber kM_RX10_99 rfl rfl ⟨Nat.le_of_ble_eq_true rfl, Nat.le_of_ble_eq_true rfl⟩ rfl hl.1 rfl (Nat.le_of_ble_eq_true rfl) dX10_feed_54 ⟨Nat.le_of_ble_eq_true rfl, Nat.le_of_ble_eq_true rfl⟩) C.2.2.2.2.2.2.1 hP hD hS [1, 2] [0] rfl rfl (by decide) (by decide) (fun u_13 H locs hw_15 hP hD hS => ?_)
  have hP : va_P D vwCl [(h, .inr (10, [.ref ta, .ref pl, .ref sh, .ref tr, .ref fo, .ref li, .ref sp, .ref dr, .ref pa, .ref im, .ref fs, .ref ph, .ref cd, .int 0, .int 0])), (ta, .inr (9, [.ref ta0, .int 20, .int 0, .int 0, .int 0, .int 0, .int 0, .int 0, .int 0, .int 0, .int 0])), (ta0, .inl (cy 1, 940, .inl u_13))] H := hP
  have hD : va_D A [(h, .inr (10, [.ref ta, .ref pl, .ref sh, .ref tr, .ref fo, .ref li, .ref sp, .ref dr, .ref pa, .ref im, .ref fs, .ref ph, .ref cd, .int 0, .int 0])), (ta, .inr (9, [.ref ta0, .int 20, .int 0, .int 0, .int 0, .int 0, .int 0, .int 0, .int 0, .int 0, .int 0])), (ta0, .inl (cy 1, 940, .inl u_13))] := hD
  refine lv_aload_n hx hb dX10_feed_57 rfl (lv_at hl 0 rfl) ?_
  refine q_get (v := .ref ta) C hP 0 0 rfl rfl inX10 (by decide) kF_RX10_10 rfl rfl dX10_feed_58 ?_
  refine q_get (v := .int 20) C hP 1 1 rfl rfl inX9 (by decide) kF_RX10_96 rfl rfl dX10_feed_61 ?_
  exact q_iret (rm := (Rm 1 22 0 0)) C hS () rfl rfl (q_subP hP [] rfl) (hD.sub [] (by decide) rfl) (Nat.le_of_ble_eq_true rfl) (Nat.le_of_ble_eq_true rfl) dX10_feed_64
set_option maxHeartbeats 4000000 in
set_option maxRecDepth 100000 in
theorem x_end (l : Launch) (D : va_G) (cy : Nat → ClassId) (h : Nat) (n : Int32) (ta : Nat) (pl : Nat) (sh : Nat) (tr : Nat) (fo : Nat) (li : Nat) (sp : Nat) (dr : Nat) (pa : Nat) (im : Nat) (fs : Nat) (ph : Nat) (cd : Nat) (ta0 : Nat) (sz : Nat)  : MI l yX10_end cX10_end 2 (some .boolean) (Rm 0 0 0 0) D cy [.ref h, .int n] sz [(h, .inr (10, [.ref ta, .ref pl, .ref sh, .ref tr, .ref fo, .ref li, .ref sp, .ref dr, .ref pa, .ref im, .ref fs, .ref ph, .ref cd, .int 0, .int 0])), (ta, .inr (9, [.ref ta0, .int 0, .int 0, .int 0, .int 0, .int 0, .int 0, .int 0, .int 0, .int 0, .int 0]))] (fun (r : Int32) (u : Unit) => r = (rEnd n)) (fun u : Unit => []) := by
  refine MI.enter (by decide) (Nat.le_of_ble_eq_true rfl) ?_
  intro p e s m below meth c ls A hsz hAe C hP hD hS hl
  have C : Cx p s m _ meth c cX10_end 2 (some .boolean) RX10 "end" D cy A := C
  have hx := C.1
  have hb := C.2.1
  have hl : lv_has ls 2 [(0, .ref h), (1, .int n)] := hl
  refine lv_iload_n hx hb dX10_end_0 rfl (lv_at hl 1 rfl) ?_
  refine lv_if_lt (tgt := 15) hx hb dX10_end_1 (by decide) (fun c_1 => ?_) (fun c_1 => ?_)
  · refine lv_iconst (v := 0) hx hb dX10_end_15 (by decide) ?_
    exact q_iret (rm := (Rm 0 0 0 0)) C hS () rfl (by have z0 := (Int32.lt_iff_toInt_lt).mp c_1; have e0 : (0 : Int32).toInt = 0 := (by decide); show _ = if n.toInt = 0 then 1 else 0; repeat (first | rfl | rw [if_pos (by omega)] | rw [if_neg (by omega)])) (q_subP hP [] rfl) (hD.sub [] (by decide) rfl) (Nat.le_of_ble_eq_true rfl) (Nat.le_of_ble_eq_true rfl) dX10_end_16
  · refine lv_iload_n hx hb dX10_end_4 rfl (lv_at hl 1 rfl) ?_
    refine lv_aload_n hx hb dX10_end_5 rfl (lv_at hl 0 rfl) ?_
    refine q_get (v := .ref ta) C hP 0 0 rfl rfl inX10 (by decide) kF_RX10_10 rfl rfl dX10_end_6 ?_
    refine q_get (v := .int 0) C hP 1 1 rfl rfl inX9 (by decide) kF_RX10_96 rfl rfl dX10_end_9 ?_
    refine lv_icmp_le (tgt := 17) hx hb dX10_end_12 (by decide) (fun c_2 => ?_) (fun c_2 => ?_)
    · refine lv_aload_n hx hb dX10_end_17 rfl (lv_at hl 0 rfl) ?_
      refine q_get (v := .ref ta) C hP 0 0 rfl rfl inX10 (by decide) kF_RX10_10 rfl rfl dX10_end_18 ?_
      refine lv_iload_n hx hb dX10_end_21 rfl (lv_at hl 1 rfl) ?_
      refine q_put (v := .int n) (w' := [(h, .inr (10, [.ref ta, .ref pl, .ref sh, .ref tr, .ref fo, .ref li, .ref sp, .ref dr, .ref pa, .ref im, .ref fs, .ref ph, .ref cd, .int 0, .int 0])), (ta, .inr (9, [.ref ta0, .int n, .int 0, .int 0, .int 0, .int 0, .int 0, .int 0, .int 0, .int 0, .int 0]))]) (ty := .int) C hP hD hS 1 1 rfl rfl inX9 tyX9 tyX9_ok nmX9 (by decide) kF_RX10_96 rfl rfl rfl rfl rfl (Nat.le_of_ble_eq_true rfl) rfl dX10_end_22 (fun H locs hP hD hS => ?_)
      refine lv_iconst (v := 1) hx hb dX10_end_25 (by decide) ?_
      exact q_iret (rm := (Rm 0 0 0 0)) C hS () rfl (by have z0 := (not_congr Int32.lt_iff_toInt_lt).mp c_1; have z1 := (Int32.le_iff_toInt_le).mp c_2; have e0 : (0 : Int32).toInt = 0 := (by decide); show _ = if n.toInt = 0 then 1 else 0; repeat (first | rfl | rw [if_pos (by omega)] | rw [if_neg (by omega)])) (q_subP hP [] rfl) (hD.sub [] (by decide) rfl) (Nat.le_of_ble_eq_true rfl) (Nat.le_of_ble_eq_true rfl) dX10_end_26
    · refine lv_iconst (v := 0) hx hb dX10_end_15 (by decide) ?_
      exact q_iret (rm := (Rm 0 0 0 0)) C hS () rfl (by have z0 := (not_congr Int32.lt_iff_toInt_lt).mp c_1; have z1 := (not_congr Int32.le_iff_toInt_le).mp c_2; have e0 : (0 : Int32).toInt = 0 := (by decide); show _ = if n.toInt = 0 then 1 else 0; repeat (first | rfl | rw [if_pos (by omega)] | rw [if_neg (by omega)])) (q_subP hP [] rfl) (hD.sub [] (by decide) rfl) (Nat.le_of_ble_eq_true rfl) (Nat.le_of_ble_eq_true rfl) dX10_end_16
set_option maxHeartbeats 4000000 in
set_option maxRecDepth 100000 in
theorem x_library (l : Launch) (D : va_G) (cy : Nat → ClassId) (h : Nat) (ta : Nat) (pl : Nat) (sh : Nat) (tr : Nat) (fo : Nat) (li : Nat) (sp : Nat) (dr : Nat) (pa : Nat) (im : Nat) (fs : Nat) (ph : Nat) (cd : Nat) (ta0 : Nat) (fp : Nat) (fq : Nat) (fo0 : Nat) (fp0 : Nat) (fp1 : Nat) (fp2 : Nat) (fq0 : Nat) (fq1 : Nat) (fq2 : Nat) (fq3 : Nat) (fq4 : Nat) (fq5 : Nat) (pl0 : Nat) (pl1 : Nat) (pl2 : Nat) (sh0 : Nat) (sh1 : Nat) (sh2 : Nat) (sh3 : Nat) (sh4 : Nat) (sh5 : Nat) (sp0 : Nat) (sp1 : Nat) (sp2 : Nat) (sp3 : Nat) (pa0 : Nat) (sz : Nat)  : MI l yX10_library cX10_library 2 (some .int) (Rm 3 81 0 0) D cy [.ref h] sz [(h, .inr (10, [.ref ta, .ref pl, .ref sh, .ref tr, .ref fo, .ref li, .ref sp, .ref dr, .ref pa, .ref im, .ref fs, .ref ph, .ref cd, .int 0, .int 0])), (ta, .inr (9, [.ref ta0, .int 0, .int 0, .int 0, .int 0, .int 0, .int 0, .int 0, .int 0, .int 0, .int 0])), (fo, .inr (1, [.ref fp, .ref fq, .ref fo0, .int 0, .int 0, .int 0, .int 0])), (fo0, .inl (cy 1, 8, .inl (fun _ => 0))), (fp, .inr (6, [.int 4, .int 4, .int 10, .int 1, .int 3, .int 0, .int 0, .int 0, .ref fp0, .ref fp1, .ref fp2])), (fp0, .inl (cy 1, 8, .inl (fun _ => 0))), (fp1, .inl (cy 1, 8, .inl (fun _ => 0))), (fp2, .inl (cy 1, 56, .inl (fun _ => 0))), (fq, .inr (8, [.ref fq0, .ref fq1, .ref fq2, .ref fq3, .ref fq4, .int 0, .int 0, .ref fq5])), (fq0, .inl (cy 1, 8, .inl (fun _ => 0))), (fq1, .inl (cy 1, 8, .inl (fun _ => 0))), (fq2, .inl (cy 1, 8, .inl (fun _ => 0))), (fq3, .inl (cy 1, 8, .inl (fun _ => 0))), (fq4, .inl (cy 1, 64, .inl (fun _ => 0))), (pl, .inr (6, [.int 4, .int 4, .int 10, .int 1, .int 3, .int 0, .int 0, .int 0, .ref pl0, .ref pl1, .ref pl2])), (pl0, .inl (cy 1, 8, .inl (fun _ => 0))), (pl1, .inl (cy 1, 8, .inl (fun _ => 0))), (pl2, .inl (cy 1, 56, .inl (fun _ => 0))), (sh, .inr (8, [.ref sh0, .ref sh1, .ref sh2, .ref sh3, .ref sh4, .int 0, .int 0, .ref sh5])), (sh0, .inl (cy 1, 8, .inl (fun _ => 0))), (sh1, .inl (cy 1, 8, .inl (fun _ => 0))), (sh2, .inl (cy 1, 8, .inl (fun _ => 0))), (sh3, .inl (cy 1, 8, .inl (fun _ => 0))), (sh4, .inl (cy 1, 64, .inl (fun _ => 0))), (sp, .inr (7, [.int 0, .int 0, .int 0, .ref sp0, .ref sp1, .ref sp2, .ref sp3])), (pa, .inr (4, [.int 0, .int 0, .ref pa0]))] (fun (r : Int32) (u : Unit) => r = 0) (fun u : Unit => []) := by
  refine MI.enter (by decide) (Nat.le_of_ble_eq_true rfl) ?_
  intro p e s m below meth c ls A hsz hAe C hP hD hS hl
  have C : Cx p s m _ meth c cX10_library 2 (some .int) RX10 "library" D cy A := C
  have hx := C.1
  have hb := C.2.1
  have hl : lv_has ls 2 [(0, .ref h)] := hl
  refine lv_aload_n hx hb dX10_library_0 rfl (lv_at hl 0 rfl) ?_
  refine q_get (v := .ref fo) C hP 0 4 rfl rfl inX10 (by decide) kF_RX10_36 rfl rfl dX10_library_1 ?_
  refine lv_aload_n hx hb dX10_library_4 rfl (lv_at hl 0 rfl) ?_
  refine q_get (v := .ref ta) C hP 0 0 rfl rfl inX10 (by decide) kF_RX10_10 rfl rfl dX10_library_5 ?_
  refine q_ai (wr := [(h, .inr (10, [.ref ta, .ref pl, .ref sh, .ref tr, .ref fo, .ref li, .ref sp, .ref dr, .ref pa, .ref im, .ref fs, .ref ph, .ref cd, .int 0, .int 0])), (pl, .inr (6, [.int 4, .int 4, .int 10, .int 1, .int 3, .int 0, .int 0, .int 0, .ref pl0, .ref pl1, .ref pl2])), (pl0, .inl (cy 1, 8, .inl (fun _ => 0))), (pl1, .inl (cy 1, 8, .inl (fun _ => 0))), (pl2, .inl (cy 1, 56, .inl (fun _ => 0))), (sh, .inr (8, [.ref sh0, .ref sh1, .ref sh2, .ref sh3, .ref sh4, .int 0, .int 0, .ref sh5])), (sh0, .inl (cy 1, 8, .inl (fun _ => 0))), (sh1, .inl (cy 1, 8, .inl (fun _ => 0))), (sh2, .inl (cy 1, 8, .inl (fun _ => 0))), (sh3, .inl (cy 1, 8, .inl (fun _ => 0))), (sh4, .inl (cy 1, 64, .inl (fun _ => 0))), (sp, .inr (7, [.int 0, .int 0, .int 0, .ref sp0, .ref sp1, .ref sp2, .ref sp3])), (pa, .inr (4, [.int 0, .int 0, .ref pa0]))]) (r_V (q0 := 0) (As := [.ref ta]) (rest := []) (wc := [(fo, .inr (1, [.ref fp, .ref fq, .ref fo0, .int 0, .int 0, .int 0, .int 0])), (fo0, .inl (cy 1, 8, .inl (fun _ => 0))), (fp, .inr (6, [.int 4, .int 4, .int 10, .int 1, .int 3, .int 0, .int 0, .int 0, .ref fp0, .ref fp1, .ref fp2])), (fp0, .inl (cy 1, 8, .inl (fun _ => 0))), (fp1, .inl (cy 1, 8, .inl (fun _ => 0))), (fp2, .inl (cy 1, 56, .inl (fun _ => 0))), (fq, .inr (8, [.ref fq0, .ref fq1, .ref fq2, .ref fq3, .ref fq4, .int 0, .int 0, .ref fq5])), (fq0, .inl (cy 1, 8, .inl (fun _ => 0))), (fq1, .inl (cy 1, 8, .inl (fun _ => 0))), (fq2, .inl (cy 1, 8, .inl (fun _ => 0))), (fq3, .inl (cy 1, 8, .inl (fun _ => 0))), (fq4, .inl (cy 1, 64, .inl (fun _ => 0))), (ta, .inr (9, [.ref ta0, .int 0, .int 0, .int 0, .int 0, .int 0, .int 0, .int 0, .int 0, .int 0, .int 0]))]) C (q_subP hP [2, 3, 4, 5, 6, 7, 8, 9, 10, 11, 12, 13, 1] rfl) (hD.sub [2, 3, 4, 5, 6, 7, 8, 9, 10, 11, 12, 13, 1] (by decide) rfl) (c_readFrom l D cy fo ta fp fq fo0 fp0 fp1 fp2 fq0 fq1 fq2 fq3 fq4 fq5 ta0 _ ) kwV_X1_readFrom kM_RX10_103 rfl rfl ⟨Nat.le_of_ble_eq_true rfl, Nat.le_of_ble_eq_true rfl⟩ rfl hl.1 rfl (Nat.le_of_ble_eq_true rfl) dX10_library_8 ⟨Nat.le_of_ble_eq_true rfl, Nat.le_of_ble_eq_true rfl⟩) C.2.2.2.2.2.2.1 hP hD hS [2, 3, 4, 5, 6, 7, 8, 9, 10, 11, 12, 13, 1] [0, 14, 15, 16, 17, 18, 19, 20, 21, 22, 23, 24, 25] rfl rfl (by decide) (by decide) (fun r_2 u_1 H locs hw_3 hP hD hS => ?_)
  have hP : va_P D vwCl [(h, .inr (10, [.ref ta, .ref pl, .ref sh, .ref tr, .ref fo, .ref li, .ref sp, .ref dr, .ref pa, .ref im, .ref fs, .ref ph, .ref cd, .int 0, .int 0])), (pl, .inr (6, [.int 4, .int 4, .int 10, .int 1, .int 3, .int 0, .int 0, .int 0, .ref pl0, .ref pl1, .ref pl2])), (pl0, .inl (cy 1, 8, .inl (fun _ => 0))), (pl1, .inl (cy 1, 8, .inl (fun _ => 0))), (pl2, .inl (cy 1, 56, .inl (fun _ => 0))), (sh, .inr (8, [.ref sh0, .ref sh1, .ref sh2, .ref sh3, .ref sh4, .int 0, .int 0, .ref sh5])), (sh0, .inl (cy 1, 8, .inl (fun _ => 0))), (sh1, .inl (cy 1, 8, .inl (fun _ => 0))), (sh2, .inl (cy 1, 8, .inl (fun _ => 0))), (sh3, .inl (cy 1, 8, .inl (fun _ => 0))), (sh4, .inl (cy 1, 64, .inl (fun _ => 0))), (sp, .inr (7, [.int 0, .int 0, .int 0, .ref sp0, .ref sp1, .ref sp2, .ref sp3])), (pa, .inr (4, [.int 0, .int 0, .ref pa0])), (fo, .inr (1, [.ref fp, .ref fq, .ref fo0, .int 0, .int 0, .int 0, .int 0])), (fo0, .inl (cy 1, 8, .inl (fun _ => 0))), (fp, .inr (6, [.int 4, .int 4, .int 10, .int 1, .int 3, .int 0, .int 0, .int 0, .ref fp0, .ref fp1, .ref fp2])), (fp0, .inl (cy 1, 8, .inl (fun _ => 0))), (fp1, .inl (cy 1, 8, .inl (fun _ => 0))), (fp2, .inl (cy 1, 56, .inl (fun _ => 0))), (fq, .inr (8, [.ref fq0, .ref fq1, .ref fq2, .ref fq3, .ref fq4, .int 0, .int 0, .ref fq5])), (fq0, .inl (cy 1, 8, .inl (fun _ => 0))), (fq1, .inl (cy 1, 8, .inl (fun _ => 0))), (fq2, .inl (cy 1, 8, .inl (fun _ => 0))), (fq3, .inl (cy 1, 8, .inl (fun _ => 0))), (fq4, .inl (cy 1, 64, .inl (fun _ => 0))), (ta, .inr (9, [.ref ta0, .int 0, .int 0, .int 0, .int 0, .int 0, .int 0, .int 0, .int 0, .int 0, .int 0]))] H := hP
  have hD : va_D A [(h, .inr (10, [.ref ta, .ref pl, .ref sh, .ref tr, .ref fo, .ref li, .ref sp, .ref dr, .ref pa, .ref im, .ref fs, .ref ph, .ref cd, .int 0, .int 0])), (pl, .inr (6, [.int 4, .int 4, .int 10, .int 1, .int 3, .int 0, .int 0, .int 0, .ref pl0, .ref pl1, .ref pl2])), (pl0, .inl (cy 1, 8, .inl (fun _ => 0))), (pl1, .inl (cy 1, 8, .inl (fun _ => 0))), (pl2, .inl (cy 1, 56, .inl (fun _ => 0))), (sh, .inr (8, [.ref sh0, .ref sh1, .ref sh2, .ref sh3, .ref sh4, .int 0, .int 0, .ref sh5])), (sh0, .inl (cy 1, 8, .inl (fun _ => 0))), (sh1, .inl (cy 1, 8, .inl (fun _ => 0))), (sh2, .inl (cy 1, 8, .inl (fun _ => 0))), (sh3, .inl (cy 1, 8, .inl (fun _ => 0))), (sh4, .inl (cy 1, 64, .inl (fun _ => 0))), (sp, .inr (7, [.int 0, .int 0, .int 0, .ref sp0, .ref sp1, .ref sp2, .ref sp3])), (pa, .inr (4, [.int 0, .int 0, .ref pa0])), (fo, .inr (1, [.ref fp, .ref fq, .ref fo0, .int 0, .int 0, .int 0, .int 0])), (fo0, .inl (cy 1, 8, .inl (fun _ => 0))), (fp, .inr (6, [.int 4, .int 4, .int 10, .int 1, .int 3, .int 0, .int 0, .int 0, .ref fp0, .ref fp1, .ref fp2])), (fp0, .inl (cy 1, 8, .inl (fun _ => 0))), (fp1, .inl (cy 1, 8, .inl (fun _ => 0))), (fp2, .inl (cy 1, 56, .inl (fun _ => 0))), (fq, .inr (8, [.ref fq0, .ref fq1, .ref fq2, .ref fq3, .ref fq4, .int 0, .int 0, .ref fq5])), (fq0, .inl (cy 1, 8, .inl (fun _ => 0))), (fq1, .inl (cy 1, 8, .inl (fun _ => 0))), (fq2, .inl (cy 1, 8, .inl (fun _ => 0))), (fq3, .inl (cy 1, 8, .inl (fun _ => 0))), (fq4, .inl (cy 1, 64, .inl (fun _ => 0))), (ta, .inr (9, [.ref ta0, .int 0, .int 0, .int 0, .int 0, .int 0, .int 0, .int 0, .int 0, .int 0, .int 0]))] := hD
  obtain rfl : r_2 = 0 := hw_3
  refine lv_istore_n (lv' := [(1, .int 0), (0, .ref h)]) hx hb dX10_library_11 rfl hl (by decide) rfl (fun ls hl => ?_)
  refine lv_aload_n hx hb dX10_library_12 rfl (lv_at hl 1 rfl) ?_
  refine q_get (v := .ref ta) C hP 0 0 rfl rfl inX10 (by decide) kF_RX10_10 rfl rfl dX10_library_13 ?_
  refine lv_iconst (v := 0) hx hb dX10_library_16 (by decide) ?_
  refine q_put (v := .int 0) (w' := [(h, .inr (10, [.ref ta, .ref pl, .ref sh, .ref tr, .ref fo, .ref li, .ref sp, .ref dr, .ref pa, .ref im, .ref fs, .ref ph, .ref cd, .int 0, .int 0])), (pl, .inr (6, [.int 4, .int 4, .int 10, .int 1, .int 3, .int 0, .int 0, .int 0, .ref pl0, .ref pl1, .ref pl2])), (pl0, .inl (cy 1, 8, .inl (fun _ => 0))), (pl1, .inl (cy 1, 8, .inl (fun _ => 0))), (pl2, .inl (cy 1, 56, .inl (fun _ => 0))), (sh, .inr (8, [.ref sh0, .ref sh1, .ref sh2, .ref sh3, .ref sh4, .int 0, .int 0, .ref sh5])), (sh0, .inl (cy 1, 8, .inl (fun _ => 0))), (sh1, .inl (cy 1, 8, .inl (fun _ => 0))), (sh2, .inl (cy 1, 8, .inl (fun _ => 0))), (sh3, .inl (cy 1, 8, .inl (fun _ => 0))), (sh4, .inl (cy 1, 64, .inl (fun _ => 0))), (sp, .inr (7, [.int 0, .int 0, .int 0, .ref sp0, .ref sp1, .ref sp2, .ref sp3])), (pa, .inr (4, [.int 0, .int 0, .ref pa0])), (fo, .inr (1, [.ref fp, .ref fq, .ref fo0, .int 0, .int 0, .int 0, .int 0])), (fo0, .inl (cy 1, 8, .inl (fun _ => 0))), (fp, .inr (6, [.int 4, .int 4, .int 10, .int 1, .int 3, .int 0, .int 0, .int 0, .ref fp0, .ref fp1, .ref fp2])), (fp0, .inl (cy 1, 8, .inl (fun _ => 0))), (fp1, .inl (cy 1, 8, .inl (fun _ => 0))), (fp2, .inl (cy 1, 56, .inl (fun _ => 0))), (fq, .inr (8, [.ref fq0, .ref fq1, .ref fq2, .ref fq3, .ref fq4, .int 0, .int 0, .ref fq5])), (fq0, .inl (cy 1, 8, .inl (fun _ => 0))), (fq1, .inl (cy 1, 8, .inl (fun _ => 0))), (fq2, .inl (cy 1, 8, .inl (fun _ => 0))), (fq3, .inl (cy 1, 8, .inl (fun _ => 0))), (fq4, .inl (cy 1, 64, .inl (fun _ => 0))), (ta, .inr (9, [.ref ta0, .int 0, .int 0, .int 0, .int 0, .int 0, .int 0, .int 0, .int 0, .int 0, .int 0]))]) (ty := .int) C hP hD hS 25 1 rfl rfl inX9 tyX9 tyX9_ok nmX9 (by decide) kF_RX10_96 rfl rfl rfl rfl rfl (Nat.le_of_ble_eq_true rfl) rfl dX10_library_17 (fun H locs hP hD hS => ?_)
  refine lv_aload_n hx hb dX10_library_20 rfl (lv_at hl 1 rfl) ?_
  refine lv_aload_n hx hb dX10_library_21 rfl (lv_at hl 1 rfl) ?_
  refine q_get (v := .ref ta) C hP 0 0 rfl rfl inX10 (by decide) kF_RX10_10 rfl rfl dX10_library_22 ?_
  refine q_get (v := .int 0) C hP 25 7 rfl rfl inX9 (by decide) kF_RX10_107 rfl rfl dX10_library_25 ?_
  refine q_put (v := .int 0) (w' := [(h, .inr (10, [.ref ta, .ref pl, .ref sh, .ref tr, .ref fo, .ref li, .ref sp, .ref dr, .ref pa, .ref im, .ref fs, .ref ph, .ref cd, .int 0, .int 0])), (pl, .inr (6, [.int 4, .int 4, .int 10, .int 1, .int 3, .int 0, .int 0, .int 0, .ref pl0, .ref pl1, .ref pl2])), (pl0, .inl (cy 1, 8, .inl (fun _ => 0))), (pl1, .inl (cy 1, 8, .inl (fun _ => 0))), (pl2, .inl (cy 1, 56, .inl (fun _ => 0))), (sh, .inr (8, [.ref sh0, .ref sh1, .ref sh2, .ref sh3, .ref sh4, .int 0, .int 0, .ref sh5])), (sh0, .inl (cy 1, 8, .inl (fun _ => 0))), (sh1, .inl (cy 1, 8, .inl (fun _ => 0))), (sh2, .inl (cy 1, 8, .inl (fun _ => 0))), (sh3, .inl (cy 1, 8, .inl (fun _ => 0))), (sh4, .inl (cy 1, 64, .inl (fun _ => 0))), (sp, .inr (7, [.int 0, .int 0, .int 0, .ref sp0, .ref sp1, .ref sp2, .ref sp3])), (pa, .inr (4, [.int 0, .int 0, .ref pa0])), (fo, .inr (1, [.ref fp, .ref fq, .ref fo0, .int 0, .int 0, .int 0, .int 0])), (fo0, .inl (cy 1, 8, .inl (fun _ => 0))), (fp, .inr (6, [.int 4, .int 4, .int 10, .int 1, .int 3, .int 0, .int 0, .int 0, .ref fp0, .ref fp1, .ref fp2])), (fp0, .inl (cy 1, 8, .inl (fun _ => 0))), (fp1, .inl (cy 1, 8, .inl (fun _ => 0))), (fp2, .inl (cy 1, 56, .inl (fun _ => 0))), (fq, .inr (8, [.ref fq0, .ref fq1, .ref fq2, .ref fq3, .ref fq4, .int 0, .int 0, .ref fq5])), (fq0, .inl (cy 1, 8, .inl (fun _ => 0))), (fq1, .inl (cy 1, 8, .inl (fun _ => 0))), (fq2, .inl (cy 1, 8, .inl (fun _ => 0))), (fq3, .inl (cy 1, 8, .inl (fun _ => 0))), (fq4, .inl (cy 1, 64, .inl (fun _ => 0))), (ta, .inr (9, [.ref ta0, .int 0, .int 0, .int 0, .int 0, .int 0, .int 0, .int 0, .int 0, .int 0, .int 0]))]) (ty := .int) C hP hD hS 0 14 rfl rfl inX10 tyX10 tyX10_ok nmX10 (by decide) kF_RX10_92 rfl rfl rfl rfl rfl (Nat.le_of_ble_eq_true rfl) rfl dX10_library_28 (fun H locs hP hD hS => ?_)
  refine lv_aload_n hx hb dX10_library_31 rfl (lv_at hl 1 rfl) ?_
  refine q_get (v := .int 0) C hP 0 14 rfl rfl inX10 (by decide) kF_RX10_92 rfl rfl dX10_library_32 ?_
  refine lv_if_eq (tgt := 48) hx hb dX10_library_35 (by decide) (fun _ => ?_) (fun c_0 => absurd (by decide) c_0)
  refine lv_aload_n hx hb dX10_library_48 rfl (lv_at hl 1 rfl) ?_
  refine q_get (v := .ref pl) C hP 0 1 rfl rfl inX10 (by decide) kF_RX10_19 rfl rfl dX10_library_49 ?_
  refine lv_aload_n hx hb dX10_library_52 rfl (lv_at hl 1 rfl) ?_
  refine q_get (v := .ref fo) C hP 0 4 rfl rfl inX10 (by decide) kF_RX10_36 rfl rfl dX10_library_53 ?_
  refine q_get (v := .ref fp) C hP 13 0 rfl rfl inX1 (by decide) kF_RX10_111 rfl rfl dX10_library_56 ?_
  refine q_av (wr := [(h, .inr (10, [.ref ta, .ref pl, .ref sh, .ref tr, .ref fo, .ref li, .ref sp, .ref dr, .ref pa, .ref im, .ref fs, .ref ph, .ref cd, .int 0, .int 0])), (sh, .inr (8, [.ref sh0, .ref sh1, .ref sh2, .ref sh3, .ref sh4, .int 0, .int 0, .ref sh5])), (sh0, .inl (cy 1, 8, .inl (fun _ => 0))), (sh1, .inl (cy 1, 8, .inl (fun _ => 0))), (sh2, .inl (cy 1, 8, .inl (fun _ => 0))), (sh3, .inl (cy 1, 8, .inl (fun _ => 0))), (sh4, .inl (cy 1, 64, .inl (fun _ => 0))), (sp, .inr (7, [.int 0, .int 0, .int 0, .ref sp0, .ref sp1, .ref sp2, .ref sp3])), (pa, .inr (4, [.int 0, .int 0, .ref pa0])), (fo, .inr (1, [.ref fp, .ref fq, .ref fo0, .int 0, .int 0, .int 0, .int 0])), (fo0, .inl (cy 1, 8, .inl (fun _ => 0))), (fq, .inr (8, [.ref fq0, .ref fq1, .ref fq2, .ref fq3, .ref fq4, .int 0, .int 0, .ref fq5])), (fq0, .inl (cy 1, 8, .inl (fun _ => 0))), (fq1, .inl (cy 1, 8, .inl (fun _ => 0))), (fq2, .inl (cy 1, 8, .inl (fun _ => 0))), (fq3, .inl (cy 1, 8, .inl (fun _ => 0))), (fq4, .inl (cy 1, 64, .inl (fun _ => 0))), (ta, .inr (9, [.ref ta0, .int 0, .int 0, .int 0, .int 0, .int 0, .int 0, .int 0, .int 0, .int 0, .int 0]))]) (r_V (q0 := 0) (As := [.ref fp]) (rest := []) (wc := [(pl, .inr (6, [.int 4, .int 4, .int 10, .int 1, .int 3, .int 0, .int 0, .int 0, .ref pl0, .ref pl1, .ref pl2])), (pl0, .inl (cy 1, 8, .inl (fun _ => 0))), (pl1, .inl (cy 1, 8, .inl (fun _ => 0))), (pl2, .inl (cy 1, 56, .inl (fun _ => 0))), (fp, .inr (6, [.int 4, .int 4, .int 10, .int 1, .int 3, .int 0, .int 0, .int 0, .ref fp0, .ref fp1, .ref fp2])), (fp0, .inl (cy 1, 8, .inl (fun _ => 0))), (fp1, .inl (cy 1, 8, .inl (fun _ => 0))), (fp2, .inl (cy 1, 56, .inl (fun _ => 0)))]) C (q_subP hP [1, 2, 3, 4, 15, 16, 17, 18] rfl) (hD.sub [1, 2, 3, 4, 15, 16, 17, 18] (by decide) rfl) (c_Pcopy l D cy pl fp pl0 pl1 pl2 fp0 fp1 fp2 _ ) kwV_X6_copyFrom kM_RX10_112 rfl rfl ⟨Nat.le_of_ble_eq_true rfl, Nat.le_of_ble_eq_true rfl⟩ rfl hl.1 rfl (Nat.le_of_ble_eq_true rfl) dX10_library_59 ⟨Nat.le_of_ble_eq_true rfl, Nat.le_of_ble_eq_true rfl⟩) C.2.2.2.2.2.2.1 hP hD hS [1, 2, 3, 4, 15, 16, 17, 18] [0, 5, 6, 7, 8, 9, 10, 11, 12, 13, 14, 19, 20, 21, 22, 23, 24, 25] rfl rfl (by decide) (by decide) (fun u_4 H locs hw_6 hP hD hS => ?_)
  have hP : va_P D vwCl [(h, .inr (10, [.ref ta, .ref pl, .ref sh, .ref tr, .ref fo, .ref li, .ref sp, .ref dr, .ref pa, .ref im, .ref fs, .ref ph, .ref cd, .int 0, .int 0])), (sh, .inr (8, [.ref sh0, .ref sh1, .ref sh2, .ref sh3, .ref sh4, .int 0, .int 0, .ref sh5])), (sh0, .inl (cy 1, 8, .inl (fun _ => 0))), (sh1, .inl (cy 1, 8, .inl (fun _ => 0))), (sh2, .inl (cy 1, 8, .inl (fun _ => 0))), (sh3, .inl (cy 1, 8, .inl (fun _ => 0))), (sh4, .inl (cy 1, 64, .inl (fun _ => 0))), (sp, .inr (7, [.int 0, .int 0, .int 0, .ref sp0, .ref sp1, .ref sp2, .ref sp3])), (pa, .inr (4, [.int 0, .int 0, .ref pa0])), (fo, .inr (1, [.ref fp, .ref fq, .ref fo0, .int 0, .int 0, .int 0, .int 0])), (fo0, .inl (cy 1, 8, .inl (fun _ => 0))), (fq, .inr (8, [.ref fq0, .ref fq1, .ref fq2, .ref fq3, .ref fq4, .int 0, .int 0, .ref fq5])), (fq0, .inl (cy 1, 8, .inl (fun _ => 0))), (fq1, .inl (cy 1, 8, .inl (fun _ => 0))), (fq2, .inl (cy 1, 8, .inl (fun _ => 0))), (fq3, .inl (cy 1, 8, .inl (fun _ => 0))), (fq4, .inl (cy 1, 64, .inl (fun _ => 0))), (ta, .inr (9, [.ref ta0, .int 0, .int 0, .int 0, .int 0, .int 0, .int 0, .int 0, .int 0, .int 0, .int 0])), (pl, .inr (6, [.int 4, .int 4, .int 10, .int 1, .int 3, .int 0, .int 0, .int 0, .ref pl0, .ref pl1, .ref pl2])), (pl0, .inl (cy 1, 8, .inl (fun _ => 0))), (pl1, .inl (cy 1, 8, .inl (fun _ => 0))), (pl2, .inl (cy 1, 56, .inl (fun _ => 0))), (fp, .inr (6, [.int 4, .int 4, .int 10, .int 1, .int 3, .int 0, .int 0, .int 0, .ref fp0, .ref fp1, .ref fp2])), (fp0, .inl (cy 1, 8, .inl (fun _ => 0))), (fp1, .inl (cy 1, 8, .inl (fun _ => 0))), (fp2, .inl (cy 1, 56, .inl (fun _ => 0)))] H := hP
  have hD : va_D A [(h, .inr (10, [.ref ta, .ref pl, .ref sh, .ref tr, .ref fo, .ref li, .ref sp, .ref dr, .ref pa, .ref im, .ref fs, .ref ph, .ref cd, .int 0, .int 0])), (sh, .inr (8, [.ref sh0, .ref sh1, .ref sh2, .ref sh3, .ref sh4, .int 0, .int 0, .ref sh5])), (sh0, .inl (cy 1, 8, .inl (fun _ => 0))), (sh1, .inl (cy 1, 8, .inl (fun _ => 0))), (sh2, .inl (cy 1, 8, .inl (fun _ => 0))), (sh3, .inl (cy 1, 8, .inl (fun _ => 0))), (sh4, .inl (cy 1, 64, .inl (fun _ => 0))), (sp, .inr (7, [.int 0, .int 0, .int 0, .ref sp0, .ref sp1, .ref sp2, .ref sp3])), (pa, .inr (4, [.int 0, .int 0, .ref pa0])), (fo, .inr (1, [.ref fp, .ref fq, .ref fo0, .int 0, .int 0, .int 0, .int 0])), (fo0, .inl (cy 1, 8, .inl (fun _ => 0))), (fq, .inr (8, [.ref fq0, .ref fq1, .ref fq2, .ref fq3, .ref fq4, .int 0, .int 0, .ref fq5])), (fq0, .inl (cy 1, 8, .inl (fun _ => 0))), (fq1, .inl (cy 1, 8, .inl (fun _ => 0))), (fq2, .inl (cy 1, 8, .inl (fun _ => 0))), (fq3, .inl (cy 1, 8, .inl (fun _ => 0))), (fq4, .inl (cy 1, 64, .inl (fun _ => 0))), (ta, .inr (9, [.ref ta0, .int 0, .int 0, .int 0, .int 0, .int 0, .int 0, .int 0, .int 0, .int 0, .int 0])), (pl, .inr (6, [.int 4, .int 4, .int 10, .int 1, .int 3, .int 0, .int 0, .int 0, .ref pl0, .ref pl1, .ref pl2])), (pl0, .inl (cy 1, 8, .inl (fun _ => 0))), (pl1, .inl (cy 1, 8, .inl (fun _ => 0))), (pl2, .inl (cy 1, 56, .inl (fun _ => 0))), (fp, .inr (6, [.int 4, .int 4, .int 10, .int 1, .int 3, .int 0, .int 0, .int 0, .ref fp0, .ref fp1, .ref fp2])), (fp0, .inl (cy 1, 8, .inl (fun _ => 0))), (fp1, .inl (cy 1, 8, .inl (fun _ => 0))), (fp2, .inl (cy 1, 56, .inl (fun _ => 0)))] := hD
  refine lv_aload_n hx hb dX10_library_62 rfl (lv_at hl 1 rfl) ?_
  refine q_get (v := .ref sh) C hP 0 2 rfl rfl inX10 (by decide) kF_RX10_26 rfl rfl dX10_library_63 ?_
  refine lv_aload_n hx hb dX10_library_66 rfl (lv_at hl 1 rfl) ?_
  refine q_get (v := .ref fo) C hP 0 4 rfl rfl inX10 (by decide) kF_RX10_36 rfl rfl dX10_library_67 ?_
  refine q_get (v := .ref fq) C hP 9 1 rfl rfl inX1 (by decide) kF_RX10_116 rfl rfl dX10_library_70 ?_
  refine q_av (wr := [(h, .inr (10, [.ref ta, .ref pl, .ref sh, .ref tr, .ref fo, .ref li, .ref sp, .ref dr, .ref pa, .ref im, .ref fs, .ref ph, .ref cd, .int 0, .int 0])), (sp, .inr (7, [.int 0, .int 0, .int 0, .ref sp0, .ref sp1, .ref sp2, .ref sp3])), (pa, .inr (4, [.int 0, .int 0, .ref pa0])), (fo, .inr (1, [.ref fp, .ref fq, .ref fo0, .int 0, .int 0, .int 0, .int 0])), (fo0, .inl (cy 1, 8, .inl (fun _ => 0))), (ta, .inr (9, [.ref ta0, .int 0, .int 0, .int 0, .int 0, .int 0, .int 0, .int 0, .int 0, .int 0, .int 0])), (pl, .inr (6, [.int 4, .int 4, .int 10, .int 1, .int 3, .int 0, .int 0, .int 0, .ref pl0, .ref pl1, .ref pl2])), (pl0, .inl (cy 1, 8, .inl (fun _ => 0))), (pl1, .inl (cy 1, 8, .inl (fun _ => 0))), (pl2, .inl (cy 1, 56, .inl (fun _ => 0))), (fp, .inr (6, [.int 4, .int 4, .int 10, .int 1, .int 3, .int 0, .int 0, .int 0, .ref fp0, .ref fp1, .ref fp2])), (fp0, .inl (cy 1, 8, .inl (fun _ => 0))), (fp1, .inl (cy 1, 8, .inl (fun _ => 0))), (fp2, .inl (cy 1, 56, .inl (fun _ => 0)))]) (r_V (q0 := 0) (As := [.ref fq]) (rest := []) (wc := [(sh, .inr (8, [.ref sh0, .ref sh1, .ref sh2, .ref sh3, .ref sh4, .int 0, .int 0, .ref sh5])), (sh0, .inl (cy 1, 8, .inl (fun _ => 0))), (sh1, .inl (cy 1, 8, .inl (fun _ => 0))), (sh2, .inl (cy 1, 8, .inl (fun _ => 0))), (sh3, .inl (cy 1, 8, .inl (fun _ => 0))), (sh4, .inl (cy 1, 64, .inl (fun _ => 0))), (fq, .inr (8, [.ref fq0, .ref fq1, .ref fq2, .ref fq3, .ref fq4, .int 0, .int 0, .ref fq5])), (fq0, .inl (cy 1, 8, .inl (fun _ => 0))), (fq1, .inl (cy 1, 8, .inl (fun _ => 0))), (fq2, .inl (cy 1, 8, .inl (fun _ => 0))), (fq3, .inl (cy 1, 8, .inl (fun _ => 0))), (fq4, .inl (cy 1, 64, .inl (fun _ => 0)))]) C (q_subP hP [1, 2, 3, 4, 5, 6, 11, 12, 13, 14, 15, 16] rfl) (hD.sub [1, 2, 3, 4, 5, 6, 11, 12, 13, 14, 15, 16] (by decide) rfl) (c_Scopy l D cy sh fq sh0 sh1 sh2 sh3 sh4 0 0 sh5 fq0 fq1 fq2 fq3 fq4 0 0 fq5 _ ) kwV_X8_copyFrom kM_RX10_117 rfl rfl ⟨Nat.le_of_ble_eq_true rfl, Nat.le_of_ble_eq_true rfl⟩ rfl hl.1 rfl (Nat.le_of_ble_eq_true rfl) dX10_library_73 ⟨Nat.le_of_ble_eq_true rfl, Nat.le_of_ble_eq_true rfl⟩) C.2.2.2.2.2.2.1 hP hD hS [1, 2, 3, 4, 5, 6, 11, 12, 13, 14, 15, 16] [0, 7, 8, 9, 10, 17, 18, 19, 20, 21, 22, 23, 24, 25] rfl rfl (by decide) (by decide) (fun u_7 H locs hw_9 hP hD hS => ?_)
  have hP : va_P D vwCl [(h, .inr (10, [.ref ta, .ref pl, .ref sh, .ref tr, .ref fo, .ref li, .ref sp, .ref dr, .ref pa, .ref im, .ref fs, .ref ph, .ref cd, .int 0, .int 0])), (sp, .inr (7, [.int 0, .int 0, .int 0, .ref sp0, .ref sp1, .ref sp2, .ref sp3])), (pa, .inr (4, [.int 0, .int 0, .ref pa0])), (fo, .inr (1, [.ref fp, .ref fq, .ref fo0, .int 0, .int 0, .int 0, .int 0])), (fo0, .inl (cy 1, 8, .inl (fun _ => 0))), (ta, .inr (9, [.ref ta0, .int 0, .int 0, .int 0, .int 0, .int 0, .int 0, .int 0, .int 0, .int 0, .int 0])), (pl, .inr (6, [.int 4, .int 4, .int 10, .int 1, .int 3, .int 0, .int 0, .int 0, .ref pl0, .ref pl1, .ref pl2])), (pl0, .inl (cy 1, 8, .inl (fun _ => 0))), (pl1, .inl (cy 1, 8, .inl (fun _ => 0))), (pl2, .inl (cy 1, 56, .inl (fun _ => 0))), (fp, .inr (6, [.int 4, .int 4, .int 10, .int 1, .int 3, .int 0, .int 0, .int 0, .ref fp0, .ref fp1, .ref fp2])), (fp0, .inl (cy 1, 8, .inl (fun _ => 0))), (fp1, .inl (cy 1, 8, .inl (fun _ => 0))), (fp2, .inl (cy 1, 56, .inl (fun _ => 0))), (sh, .inr (8, [.ref sh0, .ref sh1, .ref sh2, .ref sh3, .ref sh4, .int 0, .int 0, .ref sh5])), (sh0, .inl (cy 1, 8, .inl (fun _ => 0))), (sh1, .inl (cy 1, 8, .inl (fun _ => 0))), (sh2, .inl (cy 1, 8, .inl (fun _ => 0))), (sh3, .inl (cy 1, 8, .inl (fun _ => 0))), (sh4, .inl (cy 1, 64, .inl (fun _ => 0))), (fq, .inr (8, [.ref fq0, .ref fq1, .ref fq2, .ref fq3, .ref fq4, .int 0, .int 0, .ref fq5])), (fq0, .inl (cy 1, 8, .inl (fun _ => 0))), (fq1, .inl (cy 1, 8, .inl (fun _ => 0))), (fq2, .inl (cy 1, 8, .inl (fun _ => 0))), (fq3, .inl (cy 1, 8, .inl (fun _ => 0))), (fq4, .inl (cy 1, 64, .inl (fun _ => 0)))] H := hP
  have hD : va_D A [(h, .inr (10, [.ref ta, .ref pl, .ref sh, .ref tr, .ref fo, .ref li, .ref sp, .ref dr, .ref pa, .ref im, .ref fs, .ref ph, .ref cd, .int 0, .int 0])), (sp, .inr (7, [.int 0, .int 0, .int 0, .ref sp0, .ref sp1, .ref sp2, .ref sp3])), (pa, .inr (4, [.int 0, .int 0, .ref pa0])), (fo, .inr (1, [.ref fp, .ref fq, .ref fo0, .int 0, .int 0, .int 0, .int 0])), (fo0, .inl (cy 1, 8, .inl (fun _ => 0))), (ta, .inr (9, [.ref ta0, .int 0, .int 0, .int 0, .int 0, .int 0, .int 0, .int 0, .int 0, .int 0, .int 0])), (pl, .inr (6, [.int 4, .int 4, .int 10, .int 1, .int 3, .int 0, .int 0, .int 0, .ref pl0, .ref pl1, .ref pl2])), (pl0, .inl (cy 1, 8, .inl (fun _ => 0))), (pl1, .inl (cy 1, 8, .inl (fun _ => 0))), (pl2, .inl (cy 1, 56, .inl (fun _ => 0))), (fp, .inr (6, [.int 4, .int 4, .int 10, .int 1, .int 3, .int 0, .int 0, .int 0, .ref fp0, .ref fp1, .ref fp2])), (fp0, .inl (cy 1, 8, .inl (fun _ => 0))), (fp1, .inl (cy 1, 8, .inl (fun _ => 0))), (fp2, .inl (cy 1, 56, .inl (fun _ => 0))), (sh, .inr (8, [.ref sh0, .ref sh1, .ref sh2, .ref sh3, .ref sh4, .int 0, .int 0, .ref sh5])), (sh0, .inl (cy 1, 8, .inl (fun _ => 0))), (sh1, .inl (cy 1, 8, .inl (fun _ => 0))), (sh2, .inl (cy 1, 8, .inl (fun _ => 0))), (sh3, .inl (cy 1, 8, .inl (fun _ => 0))), (sh4, .inl (cy 1, 64, .inl (fun _ => 0))), (fq, .inr (8, [.ref fq0, .ref fq1, .ref fq2, .ref fq3, .ref fq4, .int 0, .int 0, .ref fq5])), (fq0, .inl (cy 1, 8, .inl (fun _ => 0))), (fq1, .inl (cy 1, 8, .inl (fun _ => 0))), (fq2, .inl (cy 1, 8, .inl (fun _ => 0))), (fq3, .inl (cy 1, 8, .inl (fun _ => 0))), (fq4, .inl (cy 1, 64, .inl (fun _ => 0)))] := hD
  refine lv_aload_n hx hb dX10_library_76 rfl (lv_at hl 1 rfl) ?_
  refine q_get (v := .ref sp) C hP 0 6 rfl rfl inX10 (by decide) kF_RX10_50 rfl rfl dX10_library_77 ?_
  refine q_av (wr := [(h, .inr (10, [.ref ta, .ref pl, .ref sh, .ref tr, .ref fo, .ref li, .ref sp, .ref dr, .ref pa, .ref im, .ref fs, .ref ph, .ref cd, .int 0, .int 0])), (pa, .inr (4, [.int 0, .int 0, .ref pa0])), (fo, .inr (1, [.ref fp, .ref fq, .ref fo0, .int 0, .int 0, .int 0, .int 0])), (fo0, .inl (cy 1, 8, .inl (fun _ => 0))), (ta, .inr (9, [.ref ta0, .int 0, .int 0, .int 0, .int 0, .int 0, .int 0, .int 0, .int 0, .int 0, .int 0])), (pl, .inr (6, [.int 4, .int 4, .int 10, .int 1, .int 3, .int 0, .int 0, .int 0, .ref pl0, .ref pl1, .ref pl2])), (pl0, .inl (cy 1, 8, .inl (fun _ => 0))), (pl1, .inl (cy 1, 8, .inl (fun _ => 0))), (pl2, .inl (cy 1, 56, .inl (fun _ => 0))), (fp, .inr (6, [.int 4, .int 4, .int 10, .int 1, .int 3, .int 0, .int 0, .int 0, .ref fp0, .ref fp1, .ref fp2])), (fp0, .inl (cy 1, 8, .inl (fun _ => 0))), (fp1, .inl (cy 1, 8, .inl (fun _ => 0))), (fp2, .inl (cy 1, 56, .inl (fun _ => 0))), (sh, .inr (8, [.ref sh0, .ref sh1, .ref sh2, .ref sh3, .ref sh4, .int 0, .int 0, .ref sh5])), (sh0, .inl (cy 1, 8, .inl (fun _ => 0))), (sh1, .inl (cy 1, 8, .inl (fun _ => 0))), (sh2, .inl (cy 1, 8, .inl (fun _ => 0))), (sh3, .inl (cy 1, 8, .inl (fun _ => 0))), (sh4, .inl (cy 1, 64, .inl (fun _ => 0))), (fq, .inr (8, [.ref fq0, .ref fq1, .ref fq2, .ref fq3, .ref fq4, .int 0, .int 0, .ref fq5])), (fq0, .inl (cy 1, 8, .inl (fun _ => 0))), (fq1, .inl (cy 1, 8, .inl (fun _ => 0))), (fq2, .inl (cy 1, 8, .inl (fun _ => 0))), (fq3, .inl (cy 1, 8, .inl (fun _ => 0))), (fq4, .inl (cy 1, 64, .inl (fun _ => 0)))]) (r_V (q0 := 0) (As := []) (rest := []) (wc := [(sp, .inr (7, [.int 0, .int 0, .int 0, .ref sp0, .ref sp1, .ref sp2, .ref sp3]))]) C (q_subP hP [1] rfl) (hD.sub [1] (by decide) rfl) (c_Tforget l D cy sp sp0 sp1 sp2 sp3 _ ) kwV_X7_forget kM_RX10_120 rfl rfl ⟨Nat.le_of_ble_eq_true rfl, Nat.le_of_ble_eq_true rfl⟩ rfl hl.1 rfl (Nat.le_of_ble_eq_true rfl) dX10_library_80 ⟨Nat.le_of_ble_eq_true rfl, Nat.le_of_ble_eq_true rfl⟩) C.2.2.2.2.2.2.1 hP hD hS [1] [0, 2, 3, 4, 5, 6, 7, 8, 9, 10, 11, 12, 13, 14, 15, 16, 17, 18, 19, 20, 21, 22, 23, 24, 25] rfl rfl (by decide) (by decide) (fun u_10 H locs hw_12 hP hD hS => ?_)
  have hP : va_P D vwCl [(h, .inr (10, [.ref ta, .ref pl, .ref sh, .ref tr, .ref fo, .ref li, .ref sp, .ref dr, .ref pa, .ref im, .ref fs, .ref ph, .ref cd, .int 0, .int 0])), (pa, .inr (4, [.int 0, .int 0, .ref pa0])), (fo, .inr (1, [.ref fp, .ref fq, .ref fo0, .int 0, .int 0, .int 0, .int 0])), (fo0, .inl (cy 1, 8, .inl (fun _ => 0))), (ta, .inr (9, [.ref ta0, .int 0, .int 0, .int 0, .int 0, .int 0, .int 0, .int 0, .int 0, .int 0, .int 0])), (pl, .inr (6, [.int 4, .int 4, .int 10, .int 1, .int 3, .int 0, .int 0, .int 0, .ref pl0, .ref pl1, .ref pl2])), (pl0, .inl (cy 1, 8, .inl (fun _ => 0))), (pl1, .inl (cy 1, 8, .inl (fun _ => 0))), (pl2, .inl (cy 1, 56, .inl (fun _ => 0))), (fp, .inr (6, [.int 4, .int 4, .int 10, .int 1, .int 3, .int 0, .int 0, .int 0, .ref fp0, .ref fp1, .ref fp2])), (fp0, .inl (cy 1, 8, .inl (fun _ => 0))), (fp1, .inl (cy 1, 8, .inl (fun _ => 0))), (fp2, .inl (cy 1, 56, .inl (fun _ => 0))), (sh, .inr (8, [.ref sh0, .ref sh1, .ref sh2, .ref sh3, .ref sh4, .int 0, .int 0, .ref sh5])), (sh0, .inl (cy 1, 8, .inl (fun _ => 0))), (sh1, .inl (cy 1, 8, .inl (fun _ => 0))), (sh2, .inl (cy 1, 8, .inl (fun _ => 0))), (sh3, .inl (cy 1, 8, .inl (fun _ => 0))), (sh4, .inl (cy 1, 64, .inl (fun _ => 0))), (fq, .inr (8, [.ref fq0, .ref fq1, .ref fq2, .ref fq3, .ref fq4, .int 0, .int 0, .ref fq5])), (fq0, .inl (cy 1, 8, .inl (fun _ => 0))), (fq1, .inl (cy 1, 8, .inl (fun _ => 0))), (fq2, .inl (cy 1, 8, .inl (fun _ => 0))), (fq3, .inl (cy 1, 8, .inl (fun _ => 0))), (fq4, .inl (cy 1, 64, .inl (fun _ => 0))), (sp, .inr (7, [.int 0, .int 0, .int 0, .ref sp0, .ref sp1, .ref sp2, .ref sp3]))] H := hP
  have hD : va_D A [(h, .inr (10, [.ref ta, .ref pl, .ref sh, .ref tr, .ref fo, .ref li, .ref sp, .ref dr, .ref pa, .ref im, .ref fs, .ref ph, .ref cd, .int 0, .int 0])), (pa, .inr (4, [.int 0, .int 0, .ref pa0])), (fo, .inr (1, [.ref fp, .ref fq, .ref fo0, .int 0, .int 0, .int 0, .int 0])), (fo0, .inl (cy 1, 8, .inl (fun _ => 0))), (ta, .inr (9, [.ref ta0, .int 0, .int 0, .int 0, .int 0, .int 0, .int 0, .int 0, .int 0, .int 0, .int 0])), (pl, .inr (6, [.int 4, .int 4, .int 10, .int 1, .int 3, .int 0, .int 0, .int 0, .ref pl0, .ref pl1, .ref pl2])), (pl0, .inl (cy 1, 8, .inl (fun _ => 0))), (pl1, .inl (cy 1, 8, .inl (fun _ => 0))), (pl2, .inl (cy 1, 56, .inl (fun _ => 0))), (fp, .inr (6, [.int 4, .int 4, .int 10, .int 1, .int 3, .int 0, .int 0, .int 0, .ref fp0, .ref fp1, .ref fp2])), (fp0, .inl (cy 1, 8, .inl (fun _ => 0))), (fp1, .inl (cy 1, 8, .inl (fun _ => 0))), (fp2, .inl (cy 1, 56, .inl (fun _ => 0))), (sh, .inr (8, [.ref sh0, .ref sh1, .ref sh2, .ref sh3, .ref sh4, .int 0, .int 0, .ref sh5])), (sh0, .inl (cy 1, 8, .inl (fun _ => 0))), (sh1, .inl (cy 1, 8, .inl (fun _ => 0))), (sh2, .inl (cy 1, 8, .inl (fun _ => 0))), (sh3, .inl (cy 1, 8, .inl (fun _ => 0))), (sh4, .inl (cy 1, 64, .inl (fun _ => 0))), (fq, .inr (8, [.ref fq0, .ref fq1, .ref fq2, .ref fq3, .ref fq4, .int 0, .int 0, .ref fq5])), (fq0, .inl (cy 1, 8, .inl (fun _ => 0))), (fq1, .inl (cy 1, 8, .inl (fun _ => 0))), (fq2, .inl (cy 1, 8, .inl (fun _ => 0))), (fq3, .inl (cy 1, 8, .inl (fun _ => 0))), (fq4, .inl (cy 1, 64, .inl (fun _ => 0))), (sp, .inr (7, [.int 0, .int 0, .int 0, .ref sp0, .ref sp1, .ref sp2, .ref sp3]))] := hD
  refine lv_aload_n hx hb dX10_library_83 rfl (lv_at hl 1 rfl) ?_
  refine q_get (v := .ref pa) C hP 0 8 rfl rfl inX10 (by decide) kF_RX10_60 rfl rfl dX10_library_84 ?_
  refine q_av (wr := [(h, .inr (10, [.ref ta, .ref pl, .ref sh, .ref tr, .ref fo, .ref li, .ref sp, .ref dr, .ref pa, .ref im, .ref fs, .ref ph, .ref cd, .int 0, .int 0])), (fo, .inr (1, [.ref fp, .ref fq, .ref fo0, .int 0, .int 0, .int 0, .int 0])), (fo0, .inl (cy 1, 8, .inl (fun _ => 0))), (ta, .inr (9, [.ref ta0, .int 0, .int 0, .int 0, .int 0, .int 0, .int 0, .int 0, .int 0, .int 0, .int 0])), (pl, .inr (6, [.int 4, .int 4, .int 10, .int 1, .int 3, .int 0, .int 0, .int 0, .ref pl0, .ref pl1, .ref pl2])), (pl0, .inl (cy 1, 8, .inl (fun _ => 0))), (pl1, .inl (cy 1, 8, .inl (fun _ => 0))), (pl2, .inl (cy 1, 56, .inl (fun _ => 0))), (fp, .inr (6, [.int 4, .int 4, .int 10, .int 1, .int 3, .int 0, .int 0, .int 0, .ref fp0, .ref fp1, .ref fp2])), (fp0, .inl (cy 1, 8, .inl (fun _ => 0))), (fp1, .inl (cy 1, 8, .inl (fun _ => 0))), (fp2, .inl (cy 1, 56, .inl (fun _ => 0))), (sh, .inr (8, [.ref sh0, .ref sh1, .ref sh2, .ref sh3, .ref sh4, .int 0, .int 0, .ref sh5])), (sh0, .inl (cy 1, 8, .inl (fun _ => 0))), (sh1, .inl (cy 1, 8, .inl (fun _ => 0))), (sh2, .inl (cy 1, 8, .inl (fun _ => 0))), (sh3, .inl (cy 1, 8, .inl (fun _ => 0))), (sh4, .inl (cy 1, 64, .inl (fun _ => 0))), (fq, .inr (8, [.ref fq0, .ref fq1, .ref fq2, .ref fq3, .ref fq4, .int 0, .int 0, .ref fq5])), (fq0, .inl (cy 1, 8, .inl (fun _ => 0))), (fq1, .inl (cy 1, 8, .inl (fun _ => 0))), (fq2, .inl (cy 1, 8, .inl (fun _ => 0))), (fq3, .inl (cy 1, 8, .inl (fun _ => 0))), (fq4, .inl (cy 1, 64, .inl (fun _ => 0))), (sp, .inr (7, [.int 0, .int 0, .int 0, .ref sp0, .ref sp1, .ref sp2, .ref sp3]))]) (r_V (q0 := 0) (As := []) (rest := []) (wc := [(pa, .inr (4, [.int 0, .int 0, .ref pa0]))]) C (q_subP hP [1] rfl) (hD.sub [1] (by decide) rfl) (c_Aforget l D cy pa pa0 _ ) kwV_X4_forget kM_RX10_123 rfl rfl ⟨Nat.le_of_ble_eq_true rfl, Nat.le_of_ble_eq_true rfl⟩ rfl hl.1 rfl (Nat.le_of_ble_eq_true rfl) dX10_library_87 ⟨Nat.le_of_ble_eq_true rfl, Nat.le_of_ble_eq_true rfl⟩) C.2.2.2.2.2.2.1 hP hD hS [1] [0, 2, 3, 4, 5, 6, 7, 8, 9, 10, 11, 12, 13, 14, 15, 16, 17, 18, 19, 20, 21, 22, 23, 24, 25] rfl rfl (by decide) (by decide) (fun u_13 H locs hw_15 hP hD hS => ?_)
  have hP : va_P D vwCl [(h, .inr (10, [.ref ta, .ref pl, .ref sh, .ref tr, .ref fo, .ref li, .ref sp, .ref dr, .ref pa, .ref im, .ref fs, .ref ph, .ref cd, .int 0, .int 0])), (fo, .inr (1, [.ref fp, .ref fq, .ref fo0, .int 0, .int 0, .int 0, .int 0])), (fo0, .inl (cy 1, 8, .inl (fun _ => 0))), (ta, .inr (9, [.ref ta0, .int 0, .int 0, .int 0, .int 0, .int 0, .int 0, .int 0, .int 0, .int 0, .int 0])), (pl, .inr (6, [.int 4, .int 4, .int 10, .int 1, .int 3, .int 0, .int 0, .int 0, .ref pl0, .ref pl1, .ref pl2])), (pl0, .inl (cy 1, 8, .inl (fun _ => 0))), (pl1, .inl (cy 1, 8, .inl (fun _ => 0))), (pl2, .inl (cy 1, 56, .inl (fun _ => 0))), (fp, .inr (6, [.int 4, .int 4, .int 10, .int 1, .int 3, .int 0, .int 0, .int 0, .ref fp0, .ref fp1, .ref fp2])), (fp0, .inl (cy 1, 8, .inl (fun _ => 0))), (fp1, .inl (cy 1, 8, .inl (fun _ => 0))), (fp2, .inl (cy 1, 56, .inl (fun _ => 0))), (sh, .inr (8, [.ref sh0, .ref sh1, .ref sh2, .ref sh3, .ref sh4, .int 0, .int 0, .ref sh5])), (sh0, .inl (cy 1, 8, .inl (fun _ => 0))), (sh1, .inl (cy 1, 8, .inl (fun _ => 0))), (sh2, .inl (cy 1, 8, .inl (fun _ => 0))), (sh3, .inl (cy 1, 8, .inl (fun _ => 0))), (sh4, .inl (cy 1, 64, .inl (fun _ => 0))), (fq, .inr (8, [.ref fq0, .ref fq1, .ref fq2, .ref fq3, .ref fq4, .int 0, .int 0, .ref fq5])), (fq0, .inl (cy 1, 8, .inl (fun _ => 0))), (fq1, .inl (cy 1, 8, .inl (fun _ => 0))), (fq2, .inl (cy 1, 8, .inl (fun _ => 0))), (fq3, .inl (cy 1, 8, .inl (fun _ => 0))), (fq4, .inl (cy 1, 64, .inl (fun _ => 0))), (sp, .inr (7, [.int 0, .int 0, .int 0, .ref sp0, .ref sp1, .ref sp2, .ref sp3])), (pa, .inr (4, [.int 0, .int 0, .ref pa0]))] H := hP
  have hD : va_D A [(h, .inr (10, [.ref ta, .ref pl, .ref sh, .ref tr, .ref fo, .ref li, .ref sp, .ref dr, .ref pa, .ref im, .ref fs, .ref ph, .ref cd, .int 0, .int 0])), (fo, .inr (1, [.ref fp, .ref fq, .ref fo0, .int 0, .int 0, .int 0, .int 0])), (fo0, .inl (cy 1, 8, .inl (fun _ => 0))), (ta, .inr (9, [.ref ta0, .int 0, .int 0, .int 0, .int 0, .int 0, .int 0, .int 0, .int 0, .int 0, .int 0])), (pl, .inr (6, [.int 4, .int 4, .int 10, .int 1, .int 3, .int 0, .int 0, .int 0, .ref pl0, .ref pl1, .ref pl2])), (pl0, .inl (cy 1, 8, .inl (fun _ => 0))), (pl1, .inl (cy 1, 8, .inl (fun _ => 0))), (pl2, .inl (cy 1, 56, .inl (fun _ => 0))), (fp, .inr (6, [.int 4, .int 4, .int 10, .int 1, .int 3, .int 0, .int 0, .int 0, .ref fp0, .ref fp1, .ref fp2])), (fp0, .inl (cy 1, 8, .inl (fun _ => 0))), (fp1, .inl (cy 1, 8, .inl (fun _ => 0))), (fp2, .inl (cy 1, 56, .inl (fun _ => 0))), (sh, .inr (8, [.ref sh0, .ref sh1, .ref sh2, .ref sh3, .ref sh4, .int 0, .int 0, .ref sh5])), (sh0, .inl (cy 1, 8, .inl (fun _ => 0))), (sh1, .inl (cy 1, 8, .inl (fun _ => 0))), (sh2, .inl (cy 1, 8, .inl (fun _ => 0))), (sh3, .inl (cy 1, 8, .inl (fun _ => 0))), (sh4, .inl (cy 1, 64, .inl (fun _ => 0))), (fq, .inr (8, [.ref fq0, .ref fq1, .ref fq2, .ref fq3, .ref fq4, .int 0, .int 0, .ref fq5])), (fq0, .inl (cy 1, 8, .inl (fun _ => 0))), (fq1, .inl (cy 1, 8, .inl (fun _ => 0))), (fq2, .inl (cy 1, 8, .inl (fun _ => 0))), (fq3, .inl (cy 1, 8, .inl (fun _ => 0))), (fq4, .inl (cy 1, 64, .inl (fun _ => 0))), (sp, .inr (7, [.int 0, .int 0, .int 0, .ref sp0, .ref sp1, .ref sp2, .ref sp3])), (pa, .inr (4, [.int 0, .int 0, .ref pa0]))] := hD
  refine lv_iload_n hx hb dX10_library_90 rfl (lv_at hl 0 rfl) ?_
  exact q_iret (rm := (Rm 3 81 0 0)) C hS () rfl rfl (q_subP hP [] rfl) (hD.sub [] (by decide) rfl) (Nat.le_of_ble_eq_true rfl) (Nat.le_of_ble_eq_true rfl) dX10_library_91
set_option maxHeartbeats 4000000 in
set_option maxRecDepth 100000 in
theorem x_fault (l : Launch) (D : va_G) (cy : Nat → ClassId) (h : Nat) (ta : Nat) (pl : Nat) (sh : Nat) (tr : Nat) (fo : Nat) (li : Nat) (sp : Nat) (dr : Nat) (pa : Nat) (im : Nat) (fs : Nat) (ph : Nat) (cd : Nat) (sz : Nat)  : MI l yX10_fault cX10_fault 1 (some .int) (Rm 0 0 0 0) D cy [.ref h] sz [(h, .inr (10, [.ref ta, .ref pl, .ref sh, .ref tr, .ref fo, .ref li, .ref sp, .ref dr, .ref pa, .ref im, .ref fs, .ref ph, .ref cd, .int 0, .int 0]))] (fun (r : Int32) (u : Unit) => r = 0) (fun u : Unit => []) := by
  refine MI.enter (by decide) (Nat.le_of_ble_eq_true rfl) ?_
  intro p e s m below meth c ls A hsz hAe C hP hD hS hl
  have C : Cx p s m _ meth c cX10_fault 1 (some .int) RX10 "fault" D cy A := C
  have hx := C.1
  have hb := C.2.1
  have hl : lv_has ls 1 [(0, .ref h)] := hl
  refine lv_aload_n hx hb dX10_fault_0 rfl (lv_at hl 0 rfl) ?_
  refine q_get (v := .int 0) C hP 0 14 rfl rfl inX10 (by decide) kF_RX10_92 rfl rfl dX10_fault_1 ?_
  exact q_iret (rm := (Rm 0 0 0 0)) C hS () rfl rfl (q_subP hP [] rfl) (hD.sub [] (by decide) rfl) (Nat.le_of_ble_eq_true rfl) (Nat.le_of_ble_eq_true rfl) dX10_fault_4
set_option maxHeartbeats 4000000 in
set_option maxRecDepth 100000 in
theorem x_sentence (l : Launch) (D : va_G) (cy : Nat → ClassId) (h : Nat) (ta : Nat) (pl : Nat) (sh : Nat) (tr : Nat) (fo : Nat) (li : Nat) (sp : Nat) (dr : Nat) (pa : Nat) (im : Nat) (fs : Nat) (ph : Nat) (cd : Nat) (dr0 : Nat) (dr1 : Nat) (dr2 : Nat) (dr3 : Nat) (ta0 : Nat) (sz : Nat)  : MI l yX10_sentence cX10_sentence 1 (some .int) (Rm 5 116 0 0) D cy [.ref h] sz [(h, .inr (10, [.ref ta, .ref pl, .ref sh, .ref tr, .ref fo, .ref li, .ref sp, .ref dr, .ref pa, .ref im, .ref fs, .ref ph, .ref cd, .int 0, .int 0])), (dr, .inr (7, [.int 0, .int 0, .int 0, .ref dr0, .ref dr1, .ref dr2, .ref dr3])), (ta, .inr (9, [.ref ta0, .int 0, .int 0, .int 0, .int 0, .int 0, .int 0, .int 0, .int 0, .int 0, .int 0]))] (fun (r : Int32) (u : Unit) => r = (-1)) (fun u : Unit => []) := by
  refine MI.enter (by decide) (Nat.le_of_ble_eq_true rfl) ?_
  intro p e s m below meth c ls A hsz hAe C hP hD hS hl
  have C : Cx p s m _ meth c cX10_sentence 1 (some .int) RX10 "sentence" D cy A := C
  have hx := C.1
  have hb := C.2.1
  have hl : lv_has ls 1 [(0, .ref h)] := hl
  refine lv_aload_n hx hb dX10_sentence_0 rfl (lv_at hl 0 rfl) ?_
  refine q_get (v := .ref dr) C hP 0 7 rfl rfl inX10 (by decide) kF_RX10_54 rfl rfl dX10_sentence_1 ?_
  refine lv_aload_n hx hb dX10_sentence_4 rfl (lv_at hl 0 rfl) ?_
  refine q_get (v := .ref ta) C hP 0 0 rfl rfl inX10 (by decide) kF_RX10_10 rfl rfl dX10_sentence_5 ?_
  refine lv_aload_n hx hb dX10_sentence_8 rfl (lv_at hl 0 rfl) ?_
  refine q_get (v := .ref pl) C hP 0 1 rfl rfl inX10 (by decide) kF_RX10_19 rfl rfl dX10_sentence_9 ?_
  refine q_av (wr := [(h, .inr (10, [.ref ta, .ref pl, .ref sh, .ref tr, .ref fo, .ref li, .ref sp, .ref dr, .ref pa, .ref im, .ref fs, .ref ph, .ref cd, .int 0, .int 0]))]) (r_V (q0 := 0) (As := [.ref ta, .ref pl]) (rest := []) (wc := [(dr, .inr (7, [.int 0, .int 0, .int 0, .ref dr0, .ref dr1, .ref dr2, .ref dr3])), (ta, .inr (9, [.ref ta0, .int 0, .int 0, .int 0, .int 0, .int 0, .int 0, .int 0, .int 0, .int 0, .int 0]))]) C (q_subP hP [1, 2] rfl) (hD.sub [1, 2] (by decide) rfl) (c_TreadFrom l D cy dr ta pl dr0 dr1 dr2 dr3 ta0 _ ) kwV_X7_readFrom kM_RX10_124 rfl rfl ⟨Nat.le_of_ble_eq_true rfl, Nat.le_of_ble_eq_true rfl⟩ rfl hl.1 rfl (Nat.le_of_ble_eq_true rfl) dX10_sentence_12 ⟨Nat.le_of_ble_eq_true rfl, Nat.le_of_ble_eq_true rfl⟩) C.2.2.2.2.2.2.1 hP hD hS [1, 2] [0] rfl rfl (by decide) (by decide) (fun u_1 H locs hw_3 hP hD hS => ?_)
  have hP : va_P D vwCl [(h, .inr (10, [.ref ta, .ref pl, .ref sh, .ref tr, .ref fo, .ref li, .ref sp, .ref dr, .ref pa, .ref im, .ref fs, .ref ph, .ref cd, .int 0, .int 0])), (dr, .inr (7, [.int 0, .int 0, .int 0, .ref dr0, .ref dr1, .ref dr2, .ref dr3])), (ta, .inr (9, [.ref ta0, .int 0, .int 0, .int 0, .int 0, .int 0, .int 0, .int 1, .int 0, .int 0, .int 0]))] H := hP
  have hD : va_D A [(h, .inr (10, [.ref ta, .ref pl, .ref sh, .ref tr, .ref fo, .ref li, .ref sp, .ref dr, .ref pa, .ref im, .ref fs, .ref ph, .ref cd, .int 0, .int 0])), (dr, .inr (7, [.int 0, .int 0, .int 0, .ref dr0, .ref dr1, .ref dr2, .ref dr3])), (ta, .inr (9, [.ref ta0, .int 0, .int 0, .int 0, .int 0, .int 0, .int 0, .int 1, .int 0, .int 0, .int 0]))] := hD
  refine lv_aload_n hx hb dX10_sentence_15 rfl (lv_at hl 0 rfl) ?_
  refine q_get (v := .ref ta) C hP 0 0 rfl rfl inX10 (by decide) kF_RX10_10 rfl rfl dX10_sentence_16 ?_
  refine lv_iconst (v := 0) hx hb dX10_sentence_19 (by decide) ?_
  refine q_put (v := .int 0) (w' := [(h, .inr (10, [.ref ta, .ref pl, .ref sh, .ref tr, .ref fo, .ref li, .ref sp, .ref dr, .ref pa, .ref im, .ref fs, .ref ph, .ref cd, .int 0, .int 0])), (dr, .inr (7, [.int 0, .int 0, .int 0, .ref dr0, .ref dr1, .ref dr2, .ref dr3])), (ta, .inr (9, [.ref ta0, .int 0, .int 0, .int 0, .int 0, .int 0, .int 0, .int 1, .int 0, .int 0, .int 0]))]) (ty := .int) C hP hD hS 2 1 rfl rfl inX9 tyX9 tyX9_ok nmX9 (by decide) kF_RX10_96 rfl rfl rfl rfl rfl (Nat.le_of_ble_eq_true rfl) rfl dX10_sentence_20 (fun H locs hP hD hS => ?_)
  refine lv_aload_n hx hb dX10_sentence_23 rfl (lv_at hl 0 rfl) ?_
  refine lv_aload_n hx hb dX10_sentence_24 rfl (lv_at hl 0 rfl) ?_
  refine q_get (v := .ref ta) C hP 0 0 rfl rfl inX10 (by decide) kF_RX10_10 rfl rfl dX10_sentence_25 ?_
  refine q_get (v := .int 1) C hP 2 7 rfl rfl inX9 (by decide) kF_RX10_107 rfl rfl dX10_sentence_28 ?_
  refine q_put (v := .int 1) (w' := [(h, .inr (10, [.ref ta, .ref pl, .ref sh, .ref tr, .ref fo, .ref li, .ref sp, .ref dr, .ref pa, .ref im, .ref fs, .ref ph, .ref cd, .int 0, .int 1])), (dr, .inr (7, [.int 0, .int 0, .int 0, .ref dr0, .ref dr1, .ref dr2, .ref dr3])), (ta, .inr (9, [.ref ta0, .int 0, .int 0, .int 0, .int 0, .int 0, .int 0, .int 1, .int 0, .int 0, .int 0]))]) (ty := .int) C hP hD hS 0 14 rfl rfl inX10 tyX10 tyX10_ok nmX10 (by decide) kF_RX10_92 rfl rfl rfl rfl rfl (Nat.le_of_ble_eq_true rfl) rfl dX10_sentence_31 (fun H locs hP hD hS => ?_)
  refine lv_aload_n hx hb dX10_sentence_34 rfl (lv_at hl 0 rfl) ?_
  refine q_get (v := .int 1) C hP 0 14 rfl rfl inX10 (by decide) kF_RX10_92 rfl rfl dX10_sentence_35 ?_
  refine lv_if_eq (tgt := 51) hx hb dX10_sentence_38 (by decide) (fun c_0 => absurd c_0 (by decide)) (fun _ => ?_)
  refine lv_iconst (v := (-1)) hx hb dX10_sentence_41 (by decide) ?_
  refine lv_aload_n hx hb dX10_sentence_42 rfl (lv_at hl 0 rfl) ?_
  refine q_get (v := .ref ta) C hP 0 0 rfl rfl inX10 (by decide) kF_RX10_10 rfl rfl dX10_sentence_43 ?_
  refine q_get (v := .int 0) C hP 2 8 rfl rfl inX9 (by decide) kF_RX10_108 rfl rfl dX10_sentence_46 ?_
  refine lv_isub hx hb dX10_sentence_49 ?_
  refine q_val (v := (-1)) (by decide) ?_
  exact q_iret (rm := (Rm 5 116 0 0)) C hS () rfl rfl (q_subP hP [] rfl) (hD.sub [] (by decide) rfl) (Nat.le_of_ble_eq_true rfl) (Nat.le_of_ble_eq_true rfl) dX10_sentence_50
set_option maxHeartbeats 4000000 in
set_option maxRecDepth 100000 in
theorem x_said (l : Launch) (D : va_G) (cy : Nat → ClassId) (h : Nat) (n : Int32) (ta : Nat) (pl : Nat) (sh : Nat) (tr : Nat) (fo : Nat) (li : Nat) (sp : Nat) (dr : Nat) (pa : Nat) (im : Nat) (fs : Nat) (ph : Nat) (cd : Nat) (sp0 : Nat) (sp1 : Nat) (sp2 : Nat) (sp3 : Nat) (sz : Nat)  : MI l yX10_said cX10_said 3 (some .int) (Rm 0 0 0 0) D cy [.ref h, .int n] sz [(h, .inr (10, [.ref ta, .ref pl, .ref sh, .ref tr, .ref fo, .ref li, .ref sp, .ref dr, .ref pa, .ref im, .ref fs, .ref ph, .ref cd, .int 0, .int 0])), (sp, .inr (7, [.int 0, .int 0, .int 0, .ref sp0, .ref sp1, .ref sp2, .ref sp3]))] (fun (r : Int32) (u : Unit) => r = (-1)) (fun u : Unit => []) := by
  refine MI.enter (by decide) (Nat.le_of_ble_eq_true rfl) ?_
  intro p e s m below meth c ls A hsz hAe C hP hD hS hl
  have C : Cx p s m _ meth c cX10_said 3 (some .int) RX10 "said" D cy A := C
  have hx := C.1
  have hb := C.2.1
  have hl : lv_has ls 3 [(0, .ref h), (1, .int n)] := hl
  refine lv_aload_n hx hb dX10_said_0 rfl (lv_at hl 0 rfl) ?_
  refine q_get (v := .ref sp) C hP 0 6 rfl rfl inX10 (by decide) kF_RX10_50 rfl rfl dX10_said_1 ?_
  refine q_get (v := .int 0) C hP 1 0 rfl rfl inX7 (by decide) kF_RX10_133 rfl rfl dX10_said_4 ?_
  refine lv_if_ne (tgt := 12) hx hb dX10_said_7 (by decide) (fun c_0 => absurd (by decide) c_0) (fun _ => ?_)
  refine lv_iconst (v := (-1)) hx hb dX10_said_10 (by decide) ?_
  exact q_iret (rm := (Rm 0 0 0 0)) C hS () rfl rfl (q_subP hP [] rfl) (hD.sub [] (by decide) rfl) (Nat.le_of_ble_eq_true rfl) (Nat.le_of_ble_eq_true rfl) dX10_said_11
set_option maxHeartbeats 4000000 in
set_option maxRecDepth 100000 in
theorem x_told (l : Launch) (D : va_G) (cy : Nat → ClassId) (h : Nat) (n : Int32) (ta : Nat) (pl : Nat) (sh : Nat) (tr : Nat) (fo : Nat) (li : Nat) (sp : Nat) (dr : Nat) (pa : Nat) (im : Nat) (fs : Nat) (ph : Nat) (cd : Nat) (li0 : Nat) (li1 : Nat) (li2 : Nat) (li3 : Nat) (sz : Nat)  : MI l yX10_told cX10_told 2 (some .int) (Rm 0 0 0 0) D cy [.ref h, .int n] sz [(h, .inr (10, [.ref ta, .ref pl, .ref sh, .ref tr, .ref fo, .ref li, .ref sp, .ref dr, .ref pa, .ref im, .ref fs, .ref ph, .ref cd, .int 0, .int 0])), (li, .inr (3, [.int 0, .int 0, .int 0, .int 0, .int 0, .int 0, .ref li0, .ref li1, .ref li2, .ref li3]))] (fun (r : Int32) (u : Unit) => r = (-1)) (fun u : Unit => []) := by
  refine MI.enter (by decide) (Nat.le_of_ble_eq_true rfl) ?_
  intro p e s m below meth c ls A hsz hAe C hP hD hS hl
  have C : Cx p s m _ meth c cX10_told 2 (some .int) RX10 "told" D cy A := C
  have hx := C.1
  have hb := C.2.1
  have hl : lv_has ls 2 [(0, .ref h), (1, .int n)] := hl
  refine lv_aload_n hx hb dX10_told_0 rfl (lv_at hl 0 rfl) ?_
  refine q_get (v := .ref li) C hP 0 5 rfl rfl inX10 (by decide) kF_RX10_43 rfl rfl dX10_told_1 ?_
  refine q_get (v := .int 0) C hP 1 0 rfl rfl inX3 (by decide) kF_RX10_163 rfl rfl dX10_told_4 ?_
  refine lv_if_ne (tgt := 12) hx hb dX10_told_7 (by decide) (fun c_0 => absurd (by decide) c_0) (fun _ => ?_)
  refine lv_iconst (v := (-1)) hx hb dX10_told_10 (by decide) ?_
  exact q_iret (rm := (Rm 0 0 0 0)) C hS () rfl rfl (q_subP hP [] rfl) (hD.sub [] (by decide) rfl) (Nat.le_of_ble_eq_true rfl) (Nat.le_of_ble_eq_true rfl) dX10_told_11
set_option maxHeartbeats 4000000 in
set_option maxRecDepth 100000 in
theorem x_thread (l : Launch) (D : va_G) (cy : Nat → ClassId) (h : Nat) (a1 : Int32) (n : Int32) (ta : Nat) (pl : Nat) (sh : Nat) (tr : Nat) (fo : Nat) (li : Nat) (sp : Nat) (dr : Nat) (pa : Nat) (im : Nat) (fs : Nat) (ph : Nat) (cd : Nat) (pl0 : Nat) (pl1 : Nat) (pl2 : Nat) (sz : Nat)  : MI l yX10_thread cX10_thread 3 (some .int) (Rm 1 21 0 0) D cy [.ref h, .int a1, .int n] sz [(h, .inr (10, [.ref ta, .ref pl, .ref sh, .ref tr, .ref fo, .ref li, .ref sp, .ref dr, .ref pa, .ref im, .ref fs, .ref ph, .ref cd, .int 0, .int 0])), (pl, .inr (6, [.int 4, .int 4, .int 10, .int 1, .int 3, .int 0, .int 0, .int 0, .ref pl0, .ref pl1, .ref pl2]))] (fun (r : Int32) (u : Unit) => r = (-1)) (fun u : Unit => []) := by
  refine MI.enter (by decide) (Nat.le_of_ble_eq_true rfl) ?_
  intro p e s m below meth c ls A hsz hAe C hP hD hS hl
  have C : Cx p s m _ meth c cX10_thread 3 (some .int) RX10 "thread" D cy A := C
  have hx := C.1
  have hb := C.2.1
  have hl : lv_has ls 3 [(0, .ref h), (1, .int a1), (2, .int n)] := hl
  refine lv_iload_n hx hb dX10_thread_0 rfl (lv_at hl 1 rfl) ?_
  refine lv_iload_n hx hb dX10_thread_1 rfl (lv_at hl 2 rfl) ?_
  refine lv_icmp_eq (tgt := 27) hx hb dX10_thread_2 (by decide) (fun c_1 => ?_) (fun c_1 => ?_)
  · refine lv_iconst (v := (-1)) hx hb dX10_thread_27 (by decide) ?_
    exact q_iret (rm := (Rm 1 21 0 0)) C hS () rfl rfl (q_subP hP [] rfl) (hD.sub [] (by decide) rfl) (Nat.le_of_ble_eq_true rfl) (Nat.le_of_ble_eq_true rfl) dX10_thread_28
  · refine lv_aload_n hx hb dX10_thread_5 rfl (lv_at hl 0 rfl) ?_
    refine q_get (v := .ref pl) C hP 0 1 rfl rfl inX10 (by decide) kF_RX10_19 rfl rfl dX10_thread_6 ?_
    refine lv_iload_n hx hb dX10_thread_9 rfl (lv_at hl 1 rfl) ?_
    refine q_ai (wr := [(h, .inr (10, [.ref ta, .ref pl, .ref sh, .ref tr, .ref fo, .ref li, .ref sp, .ref dr, .ref pa, .ref im, .ref fs, .ref ph, .ref cd, .int 0, .int 0]))]) (r_V (q0 := 0) (As := [.int a1]) (rest := []) (wc := [(pl, .inr (6, [.int 4, .int 4, .int 10, .int 1, .int 3, .int 0, .int 0, .int 0, .ref pl0, .ref pl1, .ref pl2]))]) C (q_subP hP [1] rfl) (hD.sub [1] (by decide) rfl) (c_hasBook l D cy pl a1 pl0 pl1 pl2 _ ) kwV_X6_hasBook kM_RX10_170 rfl rfl ⟨Nat.le_of_ble_eq_true rfl, Nat.le_of_ble_eq_true rfl⟩ rfl hl.1 rfl (Nat.le_of_ble_eq_true rfl) dX10_thread_10 ⟨Nat.le_of_ble_eq_true rfl, Nat.le_of_ble_eq_true rfl⟩) C.2.2.2.2.2.2.1 hP hD hS [1] [0] rfl rfl (by decide) (by decide) (fun r_3 u_2 H locs hw_4 hP hD hS => ?_)
    have hP : va_P D vwCl [(h, .inr (10, [.ref ta, .ref pl, .ref sh, .ref tr, .ref fo, .ref li, .ref sp, .ref dr, .ref pa, .ref im, .ref fs, .ref ph, .ref cd, .int 0, .int 0])), (pl, .inr (6, [.int 4, .int 4, .int 10, .int 1, .int 3, .int 0, .int 0, .int 0, .ref pl0, .ref pl1, .ref pl2]))] H := hP
    have hD : va_D A [(h, .inr (10, [.ref ta, .ref pl, .ref sh, .ref tr, .ref fo, .ref li, .ref sp, .ref dr, .ref pa, .ref im, .ref fs, .ref ph, .ref cd, .int 0, .int 0])), (pl, .inr (6, [.int 4, .int 4, .int 10, .int 1, .int 3, .int 0, .int 0, .int 0, .ref pl0, .ref pl1, .ref pl2]))] := hD
    obtain rfl : r_3 = 0 := hw_4
    refine lv_if_eq (tgt := 27) hx hb dX10_thread_13 (by decide) (fun _ => ?_) (fun c_0 => absurd (by decide) c_0)
    refine lv_iconst (v := (-1)) hx hb dX10_thread_27 (by decide) ?_
    exact q_iret (rm := (Rm 1 21 0 0)) C hS () rfl rfl (q_subP hP [] rfl) (hD.sub [] (by decide) rfl) (Nat.le_of_ble_eq_true rfl) (Nat.le_of_ble_eq_true rfl) dX10_thread_28
set_option maxHeartbeats 4000000 in
set_option maxRecDepth 100000 in
theorem x_sight (l : Launch) (D : va_G) (cy : Nat → ClassId) (h : Nat) (n : Int32) (ta : Nat) (pl : Nat) (sh : Nat) (tr : Nat) (fo : Nat) (li : Nat) (sp : Nat) (dr : Nat) (pa : Nat) (im : Nat) (fs : Nat) (ph : Nat) (cd : Nat) (pl0 : Nat) (pl1 : Nat) (pl2 : Nat) (sz : Nat)  : MI l yX10_sight cX10_sight 2 (some .int) (Rm 1 21 0 0) D cy [.ref h, .int n] sz [(h, .inr (10, [.ref ta, .ref pl, .ref sh, .ref tr, .ref fo, .ref li, .ref sp, .ref dr, .ref pa, .ref im, .ref fs, .ref ph, .ref cd, .int 0, .int 0])), (pl, .inr (6, [.int 4, .int 4, .int 10, .int 1, .int 3, .int 0, .int 0, .int 0, .ref pl0, .ref pl1, .ref pl2]))] (fun (r : Int32) (u : Unit) => r = (-1)) (fun u : Unit => []) := by
  refine MI.enter (by decide) (Nat.le_of_ble_eq_true rfl) ?_
  intro p e s m below meth c ls A hsz hAe C hP hD hS hl
  have C : Cx p s m _ meth c cX10_sight 2 (some .int) RX10 "sight" D cy A := C
  have hx := C.1
  have hb := C.2.1
  have hl : lv_has ls 2 [(0, .ref h), (1, .int n)] := hl
  refine lv_aload_n hx hb dX10_sight_0 rfl (lv_at hl 0 rfl) ?_
  refine q_get (v := .ref pl) C hP 0 1 rfl rfl inX10 (by decide) kF_RX10_19 rfl rfl dX10_sight_1 ?_
  refine lv_iload_n hx hb dX10_sight_4 rfl (lv_at hl 1 rfl) ?_
  refine q_ai (wr := [(h, .inr (10, [.ref ta, .ref pl, .ref sh, .ref tr, .ref fo, .ref li, .ref sp, .ref dr, .ref pa, .ref im, .ref fs, .ref ph, .ref cd, .int 0, .int 0]))]) (r_V (q0 := 0) (As := [.int n]) (rest := []) (wc := [(pl, .inr (6, [.int 4, .int 4, .int 10, .int 1, .int 3, .int 0, .int 0, .int 0, .ref pl0, .ref pl1, .ref pl2]))]) C (q_subP hP [1] rfl) (hD.sub [1] (by decide) rfl) (c_hasBook l D cy pl n pl0 pl1 pl2 _ ) kwV_X6_hasBook kM_RX10_170 rfl rfl ⟨Nat.le_of_ble_eq_true rfl, Nat.le_of_ble_eq_true rfl⟩ rfl hl.1 rfl (Nat.le_of_ble_eq_true rfl) dX10_sight_5 ⟨Nat.le_of_ble_eq_true rfl, Nat.le_of_ble_eq_true rfl⟩) C.2.2.2.2.2.2.1 hP hD hS [1] [0] rfl rfl (by decide) (by decide) (fun r_2 u_1 H locs hw_3 hP hD hS => ?_)
  have hP : va_P D vwCl [(h, .inr (10, [.ref ta, .ref pl, .ref sh, .ref tr, .ref fo, .ref li, .ref sp, .ref dr, .ref pa, .ref im, .ref fs, .ref ph, .ref cd, .int 0, .int 0])), (pl, .inr (6, [.int 4, .int 4, .int 10, .int 1, .int 3, .int 0, .int 0, .int 0, .ref pl0, .ref pl1, .ref pl2]))] H := hP
  have hD : va_D A [(h, .inr (10, [.ref ta, .ref pl, .ref sh, .ref tr, .ref fo, .ref li, .ref sp, .ref dr, .ref pa, .ref im, .ref fs, .ref ph, .ref cd, .int 0, .int 0])), (pl, .inr (6, [.int 4, .int 4, .int 10, .int 1, .int 3, .int 0, .int 0, .int 0, .ref pl0, .ref pl1, .ref pl2]))] := hD
  obtain rfl : r_2 = 0 := hw_3
  refine lv_if_eq (tgt := 29) hx hb dX10_sight_8 (by decide) (fun _ => ?_) (fun c_0 => absurd (by decide) c_0)
  refine lv_iconst (v := (-1)) hx hb dX10_sight_29 (by decide) ?_
  exact q_iret (rm := (Rm 1 21 0 0)) C hS () rfl rfl (q_subP hP [] rfl) (hD.sub [] (by decide) rfl) (Nat.le_of_ble_eq_true rfl) (Nat.le_of_ble_eq_true rfl) dX10_sight_30
set_option maxHeartbeats 4000000 in
set_option maxRecDepth 100000 in
theorem c_bookIn (l : Launch) (D : va_G) (cy : Nat → ClassId) (h : Nat) (v1 : Int32) (v2 : Int32) (h0 : Nat) (h1 : Nat) (h2 : Nat) (h3 : Nat) (h4 : Nat) (h5 : Nat) (sz : Nat)  : MI l yX8_bookIn cX8_bookIn 5 (some .int) (Rm 0 0 0 0) D cy [.ref h, .int 0, .int v1, .int v2] sz [(h, .inr (8, [.ref h0, .ref h1, .ref h2, .ref h3, .ref h4, .int 0, .int 0, .ref h5]))] (fun (r : Int32) (u : Unit) => r = (-1)) (fun u : Unit => [(h, .inr (8, [.ref h0, .ref h1, .ref h2, .ref h3, .ref h4, .int 0, .int 0, .ref h5]))]) := by
  refine MI.enter (by decide) (Nat.le_of_ble_eq_true rfl) ?_
  intro p e s m below meth c ls A hsz hAe C hP hD hS hl
  have C : Cx p s m _ meth c cX8_bookIn 5 (some .int) RX8 "bookIn" D cy A := C
  have hx := C.1
  have hb := C.2.1
  have hl : lv_has ls 5 [(0, .ref h), (1, .int 0), (2, .int v1), (3, .int v2)] := hl
  refine lv_iconst (v := 0) hx hb dX8_bookIn_0 (by decide) ?_
  refine lv_istore (lv' := [(4, .int 0), (0, .ref h), (1, .int 0), (2, .int v1), (3, .int v2)]) hx hb dX8_bookIn_1 hl (by decide) rfl (fun ls hl => ?_)
  refine lv_iload hx hb dX8_bookIn_3 (lv_at hl 0 rfl) ?_
  refine lv_iload_n hx hb dX8_bookIn_5 rfl (lv_at hl 2 rfl) ?_
  refine lv_icmp_ge (tgt := 40) hx hb dX8_bookIn_6 (by decide) (fun _ => ?_) (fun c_0 => absurd (by decide) c_0)
  refine lv_iconst (v := (-1)) hx hb dX8_bookIn_40 (by decide) ?_
  exact q_iret (rm := (Rm 0 0 0 0)) C hS () rfl rfl (q_subP hP [0] rfl) (hD.sub [0] (by decide) rfl) (Nat.le_of_ble_eq_true rfl) (Nat.le_of_ble_eq_true rfl) dX8_bookIn_41
set_option maxHeartbeats 4000000 in
set_option maxRecDepth 100000 in
theorem x_at (l : Launch) (D : va_G) (cy : Nat → ClassId) (h : Nat) (v1 : Int32) (v2 : Int32) (ta : Nat) (pl : Nat) (sh : Nat) (tr : Nat) (fo : Nat) (li : Nat) (sp : Nat) (dr : Nat) (pa : Nat) (im : Nat) (fs : Nat) (ph : Nat) (cd : Nat) (pl0 : Nat) (pl1 : Nat) (pl2 : Nat) (sh0 : Nat) (sh1 : Nat) (sh2 : Nat) (sh3 : Nat) (sh4 : Nat) (sh5 : Nat) (sz : Nat)  : MI l yX10_at cX10_at 3 (some .int) (Rm 1 24 0 0) D cy [.ref h, .int v1, .int v2] sz [(h, .inr (10, [.ref ta, .ref pl, .ref sh, .ref tr, .ref fo, .ref li, .ref sp, .ref dr, .ref pa, .ref im, .ref fs, .ref ph, .ref cd, .int 0, .int 0])), (pl, .inr (6, [.int 4, .int 4, .int 10, .int 1, .int 3, .int 0, .int 0, .int 0, .ref pl0, .ref pl1, .ref pl2])), (sh, .inr (8, [.ref sh0, .ref sh1, .ref sh2, .ref sh3, .ref sh4, .int 0, .int 0, .ref sh5]))] (fun (r : Int32) (u : Unit) => r = (-1)) (fun u : Unit => []) := by
  refine MI.enter (by decide) (Nat.le_of_ble_eq_true rfl) ?_
  intro p e s m below meth c ls A hsz hAe C hP hD hS hl
  have C : Cx p s m _ meth c cX10_at 3 (some .int) RX10 "at" D cy A := C
  have hx := C.1
  have hb := C.2.1
  have hl : lv_has ls 3 [(0, .ref h), (1, .int v1), (2, .int v2)] := hl
  refine lv_aload_n hx hb dX10_at_0 rfl (lv_at hl 0 rfl) ?_
  refine q_get (v := .ref sh) C hP 0 2 rfl rfl inX10 (by decide) kF_RX10_26 rfl rfl dX10_at_1 ?_
  refine lv_aload_n hx hb dX10_at_4 rfl (lv_at hl 0 rfl) ?_
  refine q_get (v := .ref pl) C hP 0 1 rfl rfl inX10 (by decide) kF_RX10_19 rfl rfl dX10_at_5 ?_
  refine q_get (v := .int 0) C hP 1 6 rfl rfl inX6 (by decide) kF_RX10_211 rfl rfl dX10_at_8 ?_
  refine lv_iload_n hx hb dX10_at_11 rfl (lv_at hl 1 rfl) ?_
  refine lv_iload_n hx hb dX10_at_12 rfl (lv_at hl 2 rfl) ?_
  refine q_ai (wr := [(h, .inr (10, [.ref ta, .ref pl, .ref sh, .ref tr, .ref fo, .ref li, .ref sp, .ref dr, .ref pa, .ref im, .ref fs, .ref ph, .ref cd, .int 0, .int 0])), (pl, .inr (6, [.int 4, .int 4, .int 10, .int 1, .int 3, .int 0, .int 0, .int 0, .ref pl0, .ref pl1, .ref pl2]))]) (r_V (q0 := 0) (As := [.int 0, .int v1, .int v2]) (rest := []) (wc := [(sh, .inr (8, [.ref sh0, .ref sh1, .ref sh2, .ref sh3, .ref sh4, .int 0, .int 0, .ref sh5]))]) C (q_subP hP [2] rfl) (hD.sub [2] (by decide) rfl) (c_bookIn l D cy sh v1 v2 sh0 sh1 sh2 sh3 sh4 sh5 _ ) kwV_X8_bookIn kM_RX10_217 rfl rfl ⟨Nat.le_of_ble_eq_true rfl, Nat.le_of_ble_eq_true rfl⟩ rfl hl.1 rfl (Nat.le_of_ble_eq_true rfl) dX10_at_13 ⟨Nat.le_of_ble_eq_true rfl, Nat.le_of_ble_eq_true rfl⟩) C.2.2.2.2.2.2.1 hP hD hS [2] [0, 1] rfl rfl (by decide) (by decide) (fun r_2 u_1 H locs hw_3 hP hD hS => ?_)
  have hP : va_P D vwCl [(h, .inr (10, [.ref ta, .ref pl, .ref sh, .ref tr, .ref fo, .ref li, .ref sp, .ref dr, .ref pa, .ref im, .ref fs, .ref ph, .ref cd, .int 0, .int 0])), (pl, .inr (6, [.int 4, .int 4, .int 10, .int 1, .int 3, .int 0, .int 0, .int 0, .ref pl0, .ref pl1, .ref pl2])), (sh, .inr (8, [.ref sh0, .ref sh1, .ref sh2, .ref sh3, .ref sh4, .int 0, .int 0, .ref sh5]))] H := hP
  have hD : va_D A [(h, .inr (10, [.ref ta, .ref pl, .ref sh, .ref tr, .ref fo, .ref li, .ref sp, .ref dr, .ref pa, .ref im, .ref fs, .ref ph, .ref cd, .int 0, .int 0])), (pl, .inr (6, [.int 4, .int 4, .int 10, .int 1, .int 3, .int 0, .int 0, .int 0, .ref pl0, .ref pl1, .ref pl2])), (sh, .inr (8, [.ref sh0, .ref sh1, .ref sh2, .ref sh3, .ref sh4, .int 0, .int 0, .ref sh5]))] := hD
  obtain rfl : r_2 = (-1) := hw_3
  exact q_iret (rm := (Rm 1 24 0 0)) C hS () rfl rfl (q_subP hP [] rfl) (hD.sub [] (by decide) rfl) (Nat.le_of_ble_eq_true rfl) (Nat.le_of_ble_eq_true rfl) dX10_at_16
set_option maxHeartbeats 4000000 in
set_option maxRecDepth 100000 in
theorem lp_c_sumOf_8_4 (l : Launch) (D : va_G) (cy : Nat → ClassId) (o : Nat)   {p : Program} {e : Env} {s : State} {m : MethodId} {args : Array Value} {below : List Frame} {meth : Method} {c : Code} {A : Nat → Prop} {Q : State → Prop} {cells slots : Nat} (hroom : cells ≤ ((Rm 0 0 0 0)).cells ∧ slots ≤ ((Rm 0 0 0 0)).slots) (C : Cx p s m args meth c cX10_sumOf 3 (some .int) RX10 "sumOf" D cy A)
    (cont : ∀  (H : Heap) (locs : List Loc) (ls : Array Slot), va_P D vwCl [(o, .inl (cy 1, 8, .inl (fun _ => 0)))] H → va_D A [(o, .inl (cy 1, 8, .inl (fun _ => 0)))] → va_S A s.heap H locs → lv_has ls 3 [(2, .int 8), (1, .int 0), (0, .ref o)] → W p l e (Rm 0 0 0 0) s m args below meth c H locs cells slots Q (F0 m 22 ls [])) :
    ∀ (k i_1 : Nat)  (H : Heap) (locs : List Loc) (ls : Array Slot), i_1 + k = 8 → va_P D vwCl [(o, .inl (cy 1, 8, .inl (fun _ => 0)))] H → va_D A [(o, .inl (cy 1, 8, .inl (fun _ => 0)))] → va_S A s.heap H locs → lv_has ls 3 [(2, .int (nI i_1)), (1, .int 0), (0, .ref o)] → W p l e (Rm 0 0 0 0) s m args below meth c H locs cells slots Q (F0 m 4 ls []) := by
  have hx := C.1
  have hb := C.2.1
  intro k
  induction k with
  | zero =>
    intro i_1  H locs ls hik hP hD hS hl
    obtain rfl : i_1 = 8 := by omega
    have hl : lv_has ls 3 [(2, .int 8), (1, .int 0), (0, .ref o)] := hl
    have hP : va_P D vwCl [(o, .inl (cy 1, 8, .inl (fun _ => 0)))] H := hP
    have hD : va_D A [(o, .inl (cy 1, 8, .inl (fun _ => 0)))] := hD
    refine lv_iload_n hx hb dX10_sumOf_4 rfl (lv_at hl 0 rfl) ?_
    refine lv_aload_n hx hb dX10_sumOf_5 rfl (lv_at hl 2 rfl) ?_
    refine q_alen (v := 8) C hP 0 1 rfl rfl rfl dX10_sumOf_6 ?_
    refine lv_icmp_ge (tgt := 22) hx hb dX10_sumOf_7 (by decide) (fun _ => ?_) (fun c_0 => absurd (by decide) c_0)
    exact cont  H locs ls hP hD hS hl
  | succ k ih =>
    intro i_1  H locs ls hik hP hD hS hl
    refine lv_iload_n hx hb dX10_sumOf_4 rfl (lv_at hl 0 rfl) ?_
    refine lv_aload_n hx hb dX10_sumOf_5 rfl (lv_at hl 2 rfl) ?_
    refine q_alen (v := 8) C hP 0 1 rfl rfl rfl dX10_sumOf_6 ?_
    refine lv_icmp_ge (tgt := 22) hx hb dX10_sumOf_7 (by decide) (fun c_0 => absurd c_0 (nI_ge (b := 8) (by omega) (by decide))) (fun _ => ?_)
    refine lv_iload_n hx hb dX10_sumOf_10 rfl (lv_at hl 1 rfl) ?_
    refine lv_aload_n hx hb dX10_sumOf_11 rfl (lv_at hl 2 rfl) ?_
    refine lv_iload_n hx hb dX10_sumOf_12 rfl (lv_at hl 0 rfl) ?_
    refine q_iald (v := 0) C hP 0 rfl (vp_in_nI (by omega) (by decide)) rfl dX10_sumOf_13 ?_
    refine lv_iadd hx hb dX10_sumOf_14 ?_
    refine q_val (v := 0) (by decide) ?_
    refine lv_istore_n (lv' := [(1, .int 0), (2, .int (nI i_1)), (0, .ref o)]) hx hb dX10_sumOf_15 rfl hl (by decide) rfl (fun ls hl => ?_)
    refine lv_iinc (v := (nI (i_1 + 1))) (lv' := [(2, .int (nI (i_1 + 1))), (1, .int 0), (0, .ref o)]) hx hb dX10_sumOf_16 hl (k := 1) rfl (nI_1 _) (by decide) rfl (fun ls hl => ?_)
    refine lv_goto (tgt := 4) hx hb dX10_sumOf_19 (by decide) ?_
    exact ih (i_1 + 1)  H locs ls (by omega) hP hD hS (lv_sub hl [0, 1, 2] rfl)
set_option maxHeartbeats 4000000 in
set_option maxRecDepth 100000 in
theorem c_sumOf_8 (l : Launch) (D : va_G) (cy : Nat → ClassId) (o : Nat) (sz : Nat)  : MI l yX10_sumOf cX10_sumOf 3 (some .int) (Rm 0 0 0 0) D cy [.ref o] sz [(o, .inl (cy 1, 8, .inl (fun _ => 0)))] (fun (r : Int32) (u : Unit) => r = 0) (fun u : Unit => [(o, .inl (cy 1, 8, .inl (fun _ => 0)))]) := by
  refine MI.enter (by decide) (Nat.le_of_ble_eq_true rfl) ?_
  intro p e s m below meth c ls A hsz hAe C hP hD hS hl
  have C : Cx p s m _ meth c cX10_sumOf 3 (some .int) RX10 "sumOf" D cy A := C
  have hx := C.1
  have hb := C.2.1
  have hl : lv_has ls 3 [(0, .ref o)] := hl
  refine lv_iconst (v := 0) hx hb dX10_sumOf_0 (by decide) ?_
  refine lv_istore_n (lv' := [(1, .int 0), (0, .ref o)]) hx hb dX10_sumOf_1 rfl hl (by decide) rfl (fun ls hl => ?_)
  refine lv_iconst (v := 0) hx hb dX10_sumOf_2 (by decide) ?_
  refine lv_istore_n (lv' := [(2, .int 0), (1, .int 0), (0, .ref o)]) hx hb dX10_sumOf_3 rfl hl (by decide) rfl (fun ls hl => ?_)
  refine lp_c_sumOf_8_4 l D cy o   ⟨Nat.le_of_ble_eq_true rfl, Nat.le_of_ble_eq_true rfl⟩ C (fun  H locs ls hP hD hS hl => ?_) 8 0  _ _ ls (by omega) hP hD hS (lv_sub hl [0, 1, 2] rfl)
  refine lv_iload_n hx hb dX10_sumOf_22 rfl (lv_at hl 1 rfl) ?_
  exact q_iret (rm := (Rm 0 0 0 0)) C hS () rfl rfl (q_subP hP [0] rfl) (hD.sub [0] (by decide) rfl) (Nat.le_of_ble_eq_true rfl) (Nat.le_of_ble_eq_true rfl) dX10_sumOf_23
set_option maxHeartbeats 4000000 in
set_option maxRecDepth 100000 in
theorem lp_c_sumOf_64_4 (l : Launch) (D : va_G) (cy : Nat → ClassId) (o : Nat)   {p : Program} {e : Env} {s : State} {m : MethodId} {args : Array Value} {below : List Frame} {meth : Method} {c : Code} {A : Nat → Prop} {Q : State → Prop} {cells slots : Nat} (hroom : cells ≤ ((Rm 0 0 0 0)).cells ∧ slots ≤ ((Rm 0 0 0 0)).slots) (C : Cx p s m args meth c cX10_sumOf 3 (some .int) RX10 "sumOf" D cy A)
    (cont : ∀  (H : Heap) (locs : List Loc) (ls : Array Slot), va_P D vwCl [(o, .inl (cy 1, 64, .inl (fun _ => 0)))] H → va_D A [(o, .inl (cy 1, 64, .inl (fun _ => 0)))] → va_S A s.heap H locs → lv_has ls 3 [(2, .int 64), (1, .int 0), (0, .ref o)] → W p l e (Rm 0 0 0 0) s m args below meth c H locs cells slots Q (F0 m 22 ls [])) :
    ∀ (k i_1 : Nat)  (H : Heap) (locs : List Loc) (ls : Array Slot), i_1 + k = 64 → va_P D vwCl [(o, .inl (cy 1, 64, .inl (fun _ => 0)))] H → va_D A [(o, .inl (cy 1, 64, .inl (fun _ => 0)))] → va_S A s.heap H locs → lv_has ls 3 [(2, .int (nI i_1)), (1, .int 0), (0, .ref o)] → W p l e (Rm 0 0 0 0) s m args below meth c H locs cells slots Q (F0 m 4 ls []) := by
  have hx := C.1
  have hb := C.2.1
  intro k
  induction k with
  | zero =>
    intro i_1  H locs ls hik hP hD hS hl
    obtain rfl : i_1 = 64 := by omega
    have hl : lv_has ls 3 [(2, .int 64), (1, .int 0), (0, .ref o)] := hl
    have hP : va_P D vwCl [(o, .inl (cy 1, 64, .inl (fun _ => 0)))] H := hP
    have hD : va_D A [(o, .inl (cy 1, 64, .inl (fun _ => 0)))] := hD
    refine lv_iload_n hx hb dX10_sumOf_4 rfl (lv_at hl 0 rfl) ?_
    refine lv_aload_n hx hb dX10_sumOf_5 rfl (lv_at hl 2 rfl) ?_
    refine q_alen (v := 64) C hP 0 1 rfl rfl rfl dX10_sumOf_6 ?_
    refine lv_icmp_ge (tgt := 22) hx hb dX10_sumOf_7 (by decide) (fun _ => ?_) (fun c_0 => absurd (by decide) c_0)
    exact cont  H locs ls hP hD hS hl
  | succ k ih =>
    intro i_1  H locs ls hik hP hD hS hl
    refine lv_iload_n hx hb dX10_sumOf_4 rfl (lv_at hl 0 rfl) ?_
    refine lv_aload_n hx hb dX10_sumOf_5 rfl (lv_at hl 2 rfl) ?_
    refine q_alen (v := 64) C hP 0 1 rfl rfl rfl dX10_sumOf_6 ?_
    refine lv_icmp_ge (tgt := 22) hx hb dX10_sumOf_7 (by decide) (fun c_0 => absurd c_0 (nI_ge (b := 64) (by omega) (by decide))) (fun _ => ?_)
    refine lv_iload_n hx hb dX10_sumOf_10 rfl (lv_at hl 1 rfl) ?_
    refine lv_aload_n hx hb dX10_sumOf_11 rfl (lv_at hl 2 rfl) ?_
    refine lv_iload_n hx hb dX10_sumOf_12 rfl (lv_at hl 0 rfl) ?_
    refine q_iald (v := 0) C hP 0 rfl (vp_in_nI (by omega) (by decide)) rfl dX10_sumOf_13 ?_
    refine lv_iadd hx hb dX10_sumOf_14 ?_
    refine q_val (v := 0) (by decide) ?_
    refine lv_istore_n (lv' := [(1, .int 0), (2, .int (nI i_1)), (0, .ref o)]) hx hb dX10_sumOf_15 rfl hl (by decide) rfl (fun ls hl => ?_)
    refine lv_iinc (v := (nI (i_1 + 1))) (lv' := [(2, .int (nI (i_1 + 1))), (1, .int 0), (0, .ref o)]) hx hb dX10_sumOf_16 hl (k := 1) rfl (nI_1 _) (by decide) rfl (fun ls hl => ?_)
    refine lv_goto (tgt := 4) hx hb dX10_sumOf_19 (by decide) ?_
    exact ih (i_1 + 1)  H locs ls (by omega) hP hD hS (lv_sub hl [0, 1, 2] rfl)
set_option maxHeartbeats 4000000 in
set_option maxRecDepth 100000 in
theorem c_sumOf_64 (l : Launch) (D : va_G) (cy : Nat → ClassId) (o : Nat) (sz : Nat)  : MI l yX10_sumOf cX10_sumOf 3 (some .int) (Rm 0 0 0 0) D cy [.ref o] sz [(o, .inl (cy 1, 64, .inl (fun _ => 0)))] (fun (r : Int32) (u : Unit) => r = 0) (fun u : Unit => [(o, .inl (cy 1, 64, .inl (fun _ => 0)))]) := by
  refine MI.enter (by decide) (Nat.le_of_ble_eq_true rfl) ?_
  intro p e s m below meth c ls A hsz hAe C hP hD hS hl
  have C : Cx p s m _ meth c cX10_sumOf 3 (some .int) RX10 "sumOf" D cy A := C
  have hx := C.1
  have hb := C.2.1
  have hl : lv_has ls 3 [(0, .ref o)] := hl
  refine lv_iconst (v := 0) hx hb dX10_sumOf_0 (by decide) ?_
  refine lv_istore_n (lv' := [(1, .int 0), (0, .ref o)]) hx hb dX10_sumOf_1 rfl hl (by decide) rfl (fun ls hl => ?_)
  refine lv_iconst (v := 0) hx hb dX10_sumOf_2 (by decide) ?_
  refine lv_istore_n (lv' := [(2, .int 0), (1, .int 0), (0, .ref o)]) hx hb dX10_sumOf_3 rfl hl (by decide) rfl (fun ls hl => ?_)
  refine lp_c_sumOf_64_4 l D cy o   ⟨Nat.le_of_ble_eq_true rfl, Nat.le_of_ble_eq_true rfl⟩ C (fun  H locs ls hP hD hS hl => ?_) 64 0  _ _ ls (by omega) hP hD hS (lv_sub hl [0, 1, 2] rfl)
  refine lv_iload_n hx hb dX10_sumOf_22 rfl (lv_at hl 1 rfl) ?_
  exact q_iret (rm := (Rm 0 0 0 0)) C hS () rfl rfl (q_subP hP [0] rfl) (hD.sub [0] (by decide) rfl) (Nat.le_of_ble_eq_true rfl) (Nat.le_of_ble_eq_true rfl) dX10_sumOf_23
set_option maxHeartbeats 4000000 in
set_option maxRecDepth 100000 in
theorem x_now (l : Launch) (D : va_G) (cy : Nat → ClassId) (h : Nat) (n : Int32) (ta : Nat) (pl : Nat) (sh : Nat) (tr : Nat) (fo : Nat) (li : Nat) (sp : Nat) (dr : Nat) (pa : Nat) (im : Nat) (fs : Nat) (ph : Nat) (cd : Nat) (pl0 : Nat) (pl1 : Nat) (pl2 : Nat) (sh0 : Nat) (sh1 : Nat) (sh2 : Nat) (sh3 : Nat) (sh4 : Nat) (sh5 : Nat) (sz : Nat)  : MI l yX10_now cX10_now 2 (some .int) (Rm 1 24 0 0) D cy [.ref h, .int n] sz [(h, .inr (10, [.ref ta, .ref pl, .ref sh, .ref tr, .ref fo, .ref li, .ref sp, .ref dr, .ref pa, .ref im, .ref fs, .ref ph, .ref cd, .int 0, .int 0])), (pl, .inr (6, [.int 4, .int 4, .int 10, .int 1, .int 3, .int 0, .int 0, .int 0, .ref pl0, .ref pl1, .ref pl2])), (sh, .inr (8, [.ref sh0, .ref sh1, .ref sh2, .ref sh3, .ref sh4, .int 0, .int 0, .ref sh5])), (sh0, .inl (cy 1, 8, .inl (fun _ => 0))), (sh1, .inl (cy 1, 8, .inl (fun _ => 0))), (sh2, .inl (cy 1, 8, .inl (fun _ => 0))), (sh3, .inl (cy 1, 8, .inl (fun _ => 0))), (sh4, .inl (cy 1, 64, .inl (fun _ => 0)))] (fun (r : Int32) (u : Unit) => r = (rNow n)) (fun u : Unit => []) := by
  refine MI.enter (by decide) (Nat.le_of_ble_eq_true rfl) ?_
  intro p e s m below meth c ls A hsz hAe C hP hD hS hl
  have C : Cx p s m _ meth c cX10_now 2 (some .int) RX10 "now" D cy A := C
  have hx := C.1
  have hb := C.2.1
  have hl : lv_has ls 2 [(0, .ref h), (1, .int n)] := hl
  refine lv_iload_n hx hb dX10_now_0 rfl (lv_at hl 1 rfl) ?_
  rcases sw_0_6 n with rfl | rfl | rfl | rfl | rfl | rfl | rfl | h9
  · refine lv_tableIn (off := 43) (tgt := 44) hx hb dX10_now_1 (by decide) (by decide) (by decide) (by decide) ?_
    refine lv_aload_n hx hb dX10_now_44 rfl (lv_at hl 0 rfl) ?_
    refine q_get (v := .ref sh) C hP 0 2 rfl rfl inX10 (by decide) kF_RX10_26 rfl rfl dX10_now_45 ?_
    refine q_get (v := .int 0) C hP 2 6 rfl rfl inX8 (by decide) kF_RX10_221 rfl rfl dX10_now_48 ?_
    exact q_iret (rm := (Rm 1 24 0 0)) C hS () rfl (by show (0 : Int32) = (rNow (0 : Int32)); decide +kernel) (q_subP hP [] rfl) (hD.sub [] (by decide) rfl) (Nat.le_of_ble_eq_true rfl) (Nat.le_of_ble_eq_true rfl) dX10_now_51
  · refine lv_tableIn (off := 51) (tgt := 52) hx hb dX10_now_1 (by decide) (by decide) (by decide) (by decide) ?_
    refine lv_aload_n hx hb dX10_now_52 rfl (lv_at hl 0 rfl) ?_
    refine q_get (v := .ref sh) C hP 0 2 rfl rfl inX10 (by decide) kF_RX10_26 rfl rfl dX10_now_53 ?_
    refine lv_aload_n hx hb dX10_now_56 rfl (lv_at hl 0 rfl) ?_
    refine q_get (v := .ref pl) C hP 0 1 rfl rfl inX10 (by decide) kF_RX10_19 rfl rfl dX10_now_57 ?_
    refine lv_iconst (v := 1) hx hb dX10_now_60 (by decide) ?_
    refine q_ai (wr := [(h, .inr (10, [.ref ta, .ref pl, .ref sh, .ref tr, .ref fo, .ref li, .ref sp, .ref dr, .ref pa, .ref im, .ref fs, .ref ph, .ref cd, .int 0, .int 0])), (sh0, .inl (cy 1, 8, .inl (fun _ => 0))), (sh1, .inl (cy 1, 8, .inl (fun _ => 0))), (sh2, .inl (cy 1, 8, .inl (fun _ => 0))), (sh3, .inl (cy 1, 8, .inl (fun _ => 0))), (sh4, .inl (cy 1, 64, .inl (fun _ => 0)))]) (r_V (q0 := 0) (As := [.ref pl, .int 1]) (rest := []) (wc := [(sh, .inr (8, [.ref sh0, .ref sh1, .ref sh2, .ref sh3, .ref sh4, .int 0, .int 0, .ref sh5])), (pl, .inr (6, [.int 4, .int 4, .int 10, .int 1, .int 3, .int 0, .int 0, .int 0, .ref pl0, .ref pl1, .ref pl2]))]) C (q_subP hP [2, 1] rfl) (hD.sub [2, 1] (by decide) rfl) (c_booksReading l D cy sh pl 1 sh0 sh1 sh2 sh3 sh4 0 0 sh5 pl0 pl1 pl2 _ ) kwV_X8_booksReading kM_RX10_224 rfl rfl ⟨Nat.le_of_ble_eq_true rfl, Nat.le_of_ble_eq_true rfl⟩ rfl hl.1 rfl (Nat.le_of_ble_eq_true rfl) dX10_now_61 ⟨Nat.le_of_ble_eq_true rfl, Nat.le_of_ble_eq_true rfl⟩) C.2.2.2.2.2.2.1 hP hD hS [2, 1] [0, 3, 4, 5, 6, 7] rfl rfl (by decide) (by decide) (fun r_2 u_1 H locs hw_3 hP hD hS => ?_)
    have hP : va_P D vwCl [(h, .inr (10, [.ref ta, .ref pl, .ref sh, .ref tr, .ref fo, .ref li, .ref sp, .ref dr, .ref pa, .ref im, .ref fs, .ref ph, .ref cd, .int 0, .int 0])), (sh0, .inl (cy 1, 8, .inl (fun _ => 0))), (sh1, .inl (cy 1, 8, .inl (fun _ => 0))), (sh2, .inl (cy 1, 8, .inl (fun _ => 0))), (sh3, .inl (cy 1, 8, .inl (fun _ => 0))), (sh4, .inl (cy 1, 64, .inl (fun _ => 0))), (sh, .inr (8, [.ref sh0, .ref sh1, .ref sh2, .ref sh3, .ref sh4, .int 0, .int 0, .ref sh5])), (pl, .inr (6, [.int 4, .int 4, .int 10, .int 1, .int 3, .int 0, .int 0, .int 0, .ref pl0, .ref pl1, .ref pl2]))] H := hP
    have hD : va_D A [(h, .inr (10, [.ref ta, .ref pl, .ref sh, .ref tr, .ref fo, .ref li, .ref sp, .ref dr, .ref pa, .ref im, .ref fs, .ref ph, .ref cd, .int 0, .int 0])), (sh0, .inl (cy 1, 8, .inl (fun _ => 0))), (sh1, .inl (cy 1, 8, .inl (fun _ => 0))), (sh2, .inl (cy 1, 8, .inl (fun _ => 0))), (sh3, .inl (cy 1, 8, .inl (fun _ => 0))), (sh4, .inl (cy 1, 64, .inl (fun _ => 0))), (sh, .inr (8, [.ref sh0, .ref sh1, .ref sh2, .ref sh3, .ref sh4, .int 0, .int 0, .ref sh5])), (pl, .inr (6, [.int 4, .int 4, .int 10, .int 1, .int 3, .int 0, .int 0, .int 0, .ref pl0, .ref pl1, .ref pl2]))] := hD
    obtain rfl : r_2 = 0 := hw_3
    exact q_iret (rm := (Rm 1 24 0 0)) C hS () rfl (by show (0 : Int32) = (rNow (1 : Int32)); decide +kernel) (q_subP hP [] rfl) (hD.sub [] (by decide) rfl) (Nat.le_of_ble_eq_true rfl) (Nat.le_of_ble_eq_true rfl) dX10_now_64
  · refine lv_tableIn (off := 64) (tgt := 65) hx hb dX10_now_1 (by decide) (by decide) (by decide) (by decide) ?_
    refine lv_aload_n hx hb dX10_now_65 rfl (lv_at hl 0 rfl) ?_
    refine q_get (v := .ref sh) C hP 0 2 rfl rfl inX10 (by decide) kF_RX10_26 rfl rfl dX10_now_66 ?_
    refine lv_aload_n hx hb dX10_now_69 rfl (lv_at hl 0 rfl) ?_
    refine q_get (v := .ref pl) C hP 0 1 rfl rfl inX10 (by decide) kF_RX10_19 rfl rfl dX10_now_70 ?_
    refine lv_iconst (v := 2) hx hb dX10_now_73 (by decide) ?_
    refine q_ai (wr := [(h, .inr (10, [.ref ta, .ref pl, .ref sh, .ref tr, .ref fo, .ref li, .ref sp, .ref dr, .ref pa, .ref im, .ref fs, .ref ph, .ref cd, .int 0, .int 0])), (sh0, .inl (cy 1, 8, .inl (fun _ => 0))), (sh1, .inl (cy 1, 8, .inl (fun _ => 0))), (sh2, .inl (cy 1, 8, .inl (fun _ => 0))), (sh3, .inl (cy 1, 8, .inl (fun _ => 0))), (sh4, .inl (cy 1, 64, .inl (fun _ => 0)))]) (r_V (q0 := 0) (As := [.ref pl, .int 2]) (rest := []) (wc := [(sh, .inr (8, [.ref sh0, .ref sh1, .ref sh2, .ref sh3, .ref sh4, .int 0, .int 0, .ref sh5])), (pl, .inr (6, [.int 4, .int 4, .int 10, .int 1, .int 3, .int 0, .int 0, .int 0, .ref pl0, .ref pl1, .ref pl2]))]) C (q_subP hP [2, 1] rfl) (hD.sub [2, 1] (by decide) rfl) (c_booksReading l D cy sh pl 2 sh0 sh1 sh2 sh3 sh4 0 0 sh5 pl0 pl1 pl2 _ ) kwV_X8_booksReading kM_RX10_224 rfl rfl ⟨Nat.le_of_ble_eq_true rfl, Nat.le_of_ble_eq_true rfl⟩ rfl hl.1 rfl (Nat.le_of_ble_eq_true rfl) dX10_now_74 ⟨Nat.le_of_ble_eq_true rfl, Nat.le_of_ble_eq_true rfl⟩) C.2.2.2.2.2.2.1 hP hD hS [2, 1] [0, 3, 4, 5, 6, 7] rfl rfl (by decide) (by decide) (fun r_5 u_4 H locs hw_6 hP hD hS => ?_)
    have hP : va_P D vwCl [(h, .inr (10, [.ref ta, .ref pl, .ref sh, .ref tr, .ref fo, .ref li, .ref sp, .ref dr, .ref pa, .ref im, .ref fs, .ref ph, .ref cd, .int 0, .int 0])), (sh0, .inl (cy 1, 8, .inl (fun _ => 0))), (sh1, .inl (cy 1, 8, .inl (fun _ => 0))), (sh2, .inl (cy 1, 8, .inl (fun _ => 0))), (sh3, .inl (cy 1, 8, .inl (fun _ => 0))), (sh4, .inl (cy 1, 64, .inl (fun _ => 0))), (sh, .inr (8, [.ref sh0, .ref sh1, .ref sh2, .ref sh3, .ref sh4, .int 0, .int 0, .ref sh5])), (pl, .inr (6, [.int 4, .int 4, .int 10, .int 1, .int 3, .int 0, .int 0, .int 0, .ref pl0, .ref pl1, .ref pl2]))] H := hP
    have hD : va_D A [(h, .inr (10, [.ref ta, .ref pl, .ref sh, .ref tr, .ref fo, .ref li, .ref sp, .ref dr, .ref pa, .ref im, .ref fs, .ref ph, .ref cd, .int 0, .int 0])), (sh0, .inl (cy 1, 8, .inl (fun _ => 0))), (sh1, .inl (cy 1, 8, .inl (fun _ => 0))), (sh2, .inl (cy 1, 8, .inl (fun _ => 0))), (sh3, .inl (cy 1, 8, .inl (fun _ => 0))), (sh4, .inl (cy 1, 64, .inl (fun _ => 0))), (sh, .inr (8, [.ref sh0, .ref sh1, .ref sh2, .ref sh3, .ref sh4, .int 0, .int 0, .ref sh5])), (pl, .inr (6, [.int 4, .int 4, .int 10, .int 1, .int 3, .int 0, .int 0, .int 0, .ref pl0, .ref pl1, .ref pl2]))] := hD
    obtain rfl : r_5 = 0 := hw_6
    exact q_iret (rm := (Rm 1 24 0 0)) C hS () rfl (by show (0 : Int32) = (rNow (2 : Int32)); decide +kernel) (q_subP hP [] rfl) (hD.sub [] (by decide) rfl) (Nat.le_of_ble_eq_true rfl) (Nat.le_of_ble_eq_true rfl) dX10_now_77
  · refine lv_tableIn (off := 77) (tgt := 78) hx hb dX10_now_1 (by decide) (by decide) (by decide) (by decide) ?_
    refine lv_aload_n hx hb dX10_now_78 rfl (lv_at hl 0 rfl) ?_
    refine q_get (v := .ref sh) C hP 0 2 rfl rfl inX10 (by decide) kF_RX10_26 rfl rfl dX10_now_79 ?_
    refine q_get (v := .int 0) C hP 2 5 rfl rfl inX8 (by decide) kF_RX10_195 rfl rfl dX10_now_82 ?_
    exact q_iret (rm := (Rm 1 24 0 0)) C hS () rfl (by show (0 : Int32) = (rNow (3 : Int32)); decide +kernel) (q_subP hP [] rfl) (hD.sub [] (by decide) rfl) (Nat.le_of_ble_eq_true rfl) (Nat.le_of_ble_eq_true rfl) dX10_now_85
  · refine lv_tableIn (off := 85) (tgt := 86) hx hb dX10_now_1 (by decide) (by decide) (by decide) (by decide) ?_
    refine lv_aload_n hx hb dX10_now_86 rfl (lv_at hl 0 rfl) ?_
    refine q_get (v := .ref sh) C hP 0 2 rfl rfl inX10 (by decide) kF_RX10_26 rfl rfl dX10_now_87 ?_
    refine q_get (v := .ref sh2) C hP 2 2 rfl rfl inX8 (by decide) kF_RX10_183 rfl rfl dX10_now_90 ?_
    refine q_ai (wr := [(h, .inr (10, [.ref ta, .ref pl, .ref sh, .ref tr, .ref fo, .ref li, .ref sp, .ref dr, .ref pa, .ref im, .ref fs, .ref ph, .ref cd, .int 0, .int 0])), (pl, .inr (6, [.int 4, .int 4, .int 10, .int 1, .int 3, .int 0, .int 0, .int 0, .ref pl0, .ref pl1, .ref pl2])), (sh, .inr (8, [.ref sh0, .ref sh1, .ref sh2, .ref sh3, .ref sh4, .int 0, .int 0, .ref sh5])), (sh0, .inl (cy 1, 8, .inl (fun _ => 0))), (sh1, .inl (cy 1, 8, .inl (fun _ => 0))), (sh3, .inl (cy 1, 8, .inl (fun _ => 0))), (sh4, .inl (cy 1, 64, .inl (fun _ => 0)))]) (r_S (As := [.ref sh2]) (rest := []) (wc := [(sh2, .inl (cy 1, 8, .inl (fun _ => 0)))]) C (q_subP hP [5] rfl) (hD.sub [5] (by decide) rfl) (c_sumOf_8 l D cy sh2 _ ) kwS_X10_sumOf kM_RX10_227 ⟨Nat.le_of_ble_eq_true rfl, Nat.le_of_ble_eq_true rfl⟩ rfl hl.1 rfl (Nat.le_of_ble_eq_true rfl) dX10_now_93 ⟨Nat.le_of_ble_eq_true rfl, Nat.le_of_ble_eq_true rfl⟩) C.2.2.2.2.2.2.1 hP hD hS [5] [0, 1, 2, 3, 4, 6, 7] rfl rfl (by decide) (by decide) (fun r_8 u_7 H locs hw_9 hP hD hS => ?_)
    have hP : va_P D vwCl [(h, .inr (10, [.ref ta, .ref pl, .ref sh, .ref tr, .ref fo, .ref li, .ref sp, .ref dr, .ref pa, .ref im, .ref fs, .ref ph, .ref cd, .int 0, .int 0])), (pl, .inr (6, [.int 4, .int 4, .int 10, .int 1, .int 3, .int 0, .int 0, .int 0, .ref pl0, .ref pl1, .ref pl2])), (sh, .inr (8, [.ref sh0, .ref sh1, .ref sh2, .ref sh3, .ref sh4, .int 0, .int 0, .ref sh5])), (sh0, .inl (cy 1, 8, .inl (fun _ => 0))), (sh1, .inl (cy 1, 8, .inl (fun _ => 0))), (sh3, .inl (cy 1, 8, .inl (fun _ => 0))), (sh4, .inl (cy 1, 64, .inl (fun _ => 0))), (sh2, .inl (cy 1, 8, .inl (fun _ => 0)))] H := hP
    have hD : va_D A [(h, .inr (10, [.ref ta, .ref pl, .ref sh, .ref tr, .ref fo, .ref li, .ref sp, .ref dr, .ref pa, .ref im, .ref fs, .ref ph, .ref cd, .int 0, .int 0])), (pl, .inr (6, [.int 4, .int 4, .int 10, .int 1, .int 3, .int 0, .int 0, .int 0, .ref pl0, .ref pl1, .ref pl2])), (sh, .inr (8, [.ref sh0, .ref sh1, .ref sh2, .ref sh3, .ref sh4, .int 0, .int 0, .ref sh5])), (sh0, .inl (cy 1, 8, .inl (fun _ => 0))), (sh1, .inl (cy 1, 8, .inl (fun _ => 0))), (sh3, .inl (cy 1, 8, .inl (fun _ => 0))), (sh4, .inl (cy 1, 64, .inl (fun _ => 0))), (sh2, .inl (cy 1, 8, .inl (fun _ => 0)))] := hD
    obtain rfl : r_8 = 0 := hw_9
    exact q_iret (rm := (Rm 1 24 0 0)) C hS () rfl (by show (0 : Int32) = (rNow (4 : Int32)); decide +kernel) (q_subP hP [] rfl) (hD.sub [] (by decide) rfl) (Nat.le_of_ble_eq_true rfl) (Nat.le_of_ble_eq_true rfl) dX10_now_96
  · refine lv_tableIn (off := 96) (tgt := 97) hx hb dX10_now_1 (by decide) (by decide) (by decide) (by decide) ?_
    refine lv_aload_n hx hb dX10_now_97 rfl (lv_at hl 0 rfl) ?_
    refine q_get (v := .ref sh) C hP 0 2 rfl rfl inX10 (by decide) kF_RX10_26 rfl rfl dX10_now_98 ?_
    refine q_get (v := .ref sh4) C hP 2 4 rfl rfl inX8 (by decide) kF_RX10_205 rfl rfl dX10_now_101 ?_
    refine q_ai (wr := [(h, .inr (10, [.ref ta, .ref pl, .ref sh, .ref tr, .ref fo, .ref li, .ref sp, .ref dr, .ref pa, .ref im, .ref fs, .ref ph, .ref cd, .int 0, .int 0])), (pl, .inr (6, [.int 4, .int 4, .int 10, .int 1, .int 3, .int 0, .int 0, .int 0, .ref pl0, .ref pl1, .ref pl2])), (sh, .inr (8, [.ref sh0, .ref sh1, .ref sh2, .ref sh3, .ref sh4, .int 0, .int 0, .ref sh5])), (sh0, .inl (cy 1, 8, .inl (fun _ => 0))), (sh1, .inl (cy 1, 8, .inl (fun _ => 0))), (sh2, .inl (cy 1, 8, .inl (fun _ => 0))), (sh3, .inl (cy 1, 8, .inl (fun _ => 0)))]) (r_S (As := [.ref sh4]) (rest := []) (wc := [(sh4, .inl (cy 1, 64, .inl (fun _ => 0)))]) C (q_subP hP [7] rfl) (hD.sub [7] (by decide) rfl) (c_sumOf_64 l D cy sh4 _ ) kwS_X10_sumOf kM_RX10_227 ⟨Nat.le_of_ble_eq_true rfl, Nat.le_of_ble_eq_true rfl⟩ rfl hl.1 rfl (Nat.le_of_ble_eq_true rfl) dX10_now_104 ⟨Nat.le_of_ble_eq_true rfl, Nat.le_of_ble_eq_true rfl⟩) C.2.2.2.2.2.2.1 hP hD hS [7] [0, 1, 2, 3, 4, 5, 6] rfl rfl (by decide) (by decide) (fun r_11 u_10 H locs hw_12 hP hD hS => ?_)
    have hP : va_P D vwCl [(h, .inr (10, [.ref ta, .ref pl, .ref sh, .ref tr, .ref fo, .ref li, .ref sp, .ref dr, .ref pa, .ref im, .ref fs, .ref ph, .ref cd, .int 0, .int 0])), (pl, .inr (6, [.int 4, .int 4, .int 10, .int 1, .int 3, .int 0, .int 0, .int 0, .ref pl0, .ref pl1, .ref pl2])), (sh, .inr (8, [.ref sh0, .ref sh1, .ref sh2, .ref sh3, .ref sh4, .int 0, .int 0, .ref sh5])), (sh0, .inl (cy 1, 8, .inl (fun _ => 0))), (sh1, .inl (cy 1, 8, .inl (fun _ => 0))), (sh2, .inl (cy 1, 8, .inl (fun _ => 0))), (sh3, .inl (cy 1, 8, .inl (fun _ => 0))), (sh4, .inl (cy 1, 64, .inl (fun _ => 0)))] H := hP
    have hD : va_D A [(h, .inr (10, [.ref ta, .ref pl, .ref sh, .ref tr, .ref fo, .ref li, .ref sp, .ref dr, .ref pa, .ref im, .ref fs, .ref ph, .ref cd, .int 0, .int 0])), (pl, .inr (6, [.int 4, .int 4, .int 10, .int 1, .int 3, .int 0, .int 0, .int 0, .ref pl0, .ref pl1, .ref pl2])), (sh, .inr (8, [.ref sh0, .ref sh1, .ref sh2, .ref sh3, .ref sh4, .int 0, .int 0, .ref sh5])), (sh0, .inl (cy 1, 8, .inl (fun _ => 0))), (sh1, .inl (cy 1, 8, .inl (fun _ => 0))), (sh2, .inl (cy 1, 8, .inl (fun _ => 0))), (sh3, .inl (cy 1, 8, .inl (fun _ => 0))), (sh4, .inl (cy 1, 64, .inl (fun _ => 0)))] := hD
    obtain rfl : r_11 = 0 := hw_12
    refine lv_iconst (v := 2) hx hb dX10_now_107 (by decide) ?_
    refine lv_idiv hx hb dX10_now_108 (by decide) ?_
    refine q_val (v := 0) (by decide) ?_
    exact q_iret (rm := (Rm 1 24 0 0)) C hS () rfl (by show (0 : Int32) = (rNow (5 : Int32)); decide +kernel) (q_subP hP [] rfl) (hD.sub [] (by decide) rfl) (Nat.le_of_ble_eq_true rfl) (Nat.le_of_ble_eq_true rfl) dX10_now_109
  · refine lv_tableIn (off := 109) (tgt := 110) hx hb dX10_now_1 (by decide) (by decide) (by decide) (by decide) ?_
    refine lv_aload_n hx hb dX10_now_110 rfl (lv_at hl 0 rfl) ?_
    refine q_get (v := .ref sh) C hP 0 2 rfl rfl inX10 (by decide) kF_RX10_26 rfl rfl dX10_now_111 ?_
    refine q_get (v := .ref sh3) C hP 2 3 rfl rfl inX8 (by decide) kF_RX10_198 rfl rfl dX10_now_114 ?_
    refine q_ai (wr := [(h, .inr (10, [.ref ta, .ref pl, .ref sh, .ref tr, .ref fo, .ref li, .ref sp, .ref dr, .ref pa, .ref im, .ref fs, .ref ph, .ref cd, .int 0, .int 0])), (pl, .inr (6, [.int 4, .int 4, .int 10, .int 1, .int 3, .int 0, .int 0, .int 0, .ref pl0, .ref pl1, .ref pl2])), (sh, .inr (8, [.ref sh0, .ref sh1, .ref sh2, .ref sh3, .ref sh4, .int 0, .int 0, .ref sh5])), (sh0, .inl (cy 1, 8, .inl (fun _ => 0))), (sh1, .inl (cy 1, 8, .inl (fun _ => 0))), (sh2, .inl (cy 1, 8, .inl (fun _ => 0))), (sh4, .inl (cy 1, 64, .inl (fun _ => 0)))]) (r_S (As := [.ref sh3]) (rest := []) (wc := [(sh3, .inl (cy 1, 8, .inl (fun _ => 0)))]) C (q_subP hP [6] rfl) (hD.sub [6] (by decide) rfl) (c_sumOf_8 l D cy sh3 _ ) kwS_X10_sumOf kM_RX10_227 ⟨Nat.le_of_ble_eq_true rfl, Nat.le_of_ble_eq_true rfl⟩ rfl hl.1 rfl (Nat.le_of_ble_eq_true rfl) dX10_now_117 ⟨Nat.le_of_ble_eq_true rfl, Nat.le_of_ble_eq_true rfl⟩) C.2.2.2.2.2.2.1 hP hD hS [6] [0, 1, 2, 3, 4, 5, 7] rfl rfl (by decide) (by decide) (fun r_14 u_13 H locs hw_15 hP hD hS => ?_)
    have hP : va_P D vwCl [(h, .inr (10, [.ref ta, .ref pl, .ref sh, .ref tr, .ref fo, .ref li, .ref sp, .ref dr, .ref pa, .ref im, .ref fs, .ref ph, .ref cd, .int 0, .int 0])), (pl, .inr (6, [.int 4, .int 4, .int 10, .int 1, .int 3, .int 0, .int 0, .int 0, .ref pl0, .ref pl1, .ref pl2])), (sh, .inr (8, [.ref sh0, .ref sh1, .ref sh2, .ref sh3, .ref sh4, .int 0, .int 0, .ref sh5])), (sh0, .inl (cy 1, 8, .inl (fun _ => 0))), (sh1, .inl (cy 1, 8, .inl (fun _ => 0))), (sh2, .inl (cy 1, 8, .inl (fun _ => 0))), (sh4, .inl (cy 1, 64, .inl (fun _ => 0))), (sh3, .inl (cy 1, 8, .inl (fun _ => 0)))] H := hP
    have hD : va_D A [(h, .inr (10, [.ref ta, .ref pl, .ref sh, .ref tr, .ref fo, .ref li, .ref sp, .ref dr, .ref pa, .ref im, .ref fs, .ref ph, .ref cd, .int 0, .int 0])), (pl, .inr (6, [.int 4, .int 4, .int 10, .int 1, .int 3, .int 0, .int 0, .int 0, .ref pl0, .ref pl1, .ref pl2])), (sh, .inr (8, [.ref sh0, .ref sh1, .ref sh2, .ref sh3, .ref sh4, .int 0, .int 0, .ref sh5])), (sh0, .inl (cy 1, 8, .inl (fun _ => 0))), (sh1, .inl (cy 1, 8, .inl (fun _ => 0))), (sh2, .inl (cy 1, 8, .inl (fun _ => 0))), (sh4, .inl (cy 1, 64, .inl (fun _ => 0))), (sh3, .inl (cy 1, 8, .inl (fun _ => 0)))] := hD
    obtain rfl : r_14 = 0 := hw_15
    exact q_iret (rm := (Rm 1 24 0 0)) C hS () rfl (by show (0 : Int32) = (rNow (6 : Int32)); decide +kernel) (q_subP hP [] rfl) (hD.sub [] (by decide) rfl) (Nat.le_of_ble_eq_true rfl) (Nat.le_of_ble_eq_true rfl) dX10_now_120
  · refine lv_tableOut (tgt := 121) hx hb dX10_now_1 h9 (by decide) ?_
    refine lv_iconst (v := (-1)) hx hb dX10_now_121 (by decide) ?_
    exact q_iret (rm := (Rm 1 24 0 0)) C hS () rfl (by show _ = if 0 ≤ n.toInt ∧ n.toInt ≤ 6 then 0 else -1; repeat (first | rfl | rw [if_pos (by omega)] | rw [if_neg (by omega)])) (q_subP hP [] rfl) (hD.sub [] (by decide) rfl) (Nat.le_of_ble_eq_true rfl) (Nat.le_of_ble_eq_true rfl) dX10_now_122
set_option maxHeartbeats 4000000 in
set_option maxRecDepth 100000 in
theorem x_count (l : Launch) (D : va_G) (cy : Nat → ClassId) (h : Nat) (n : Int32) (ta : Nat) (pl : Nat) (sh : Nat) (tr : Nat) (fo : Nat) (li : Nat) (sp : Nat) (dr : Nat) (pa : Nat) (im : Nat) (fs : Nat) (ph : Nat) (cd : Nat) (pl0 : Nat) (pl1 : Nat) (pl2 : Nat) (ta0 : Nat) (sz : Nat)  : MI l yX10_count cX10_count 2 (some .int) (Rm 0 0 0 0) D cy [.ref h, .int n] sz [(h, .inr (10, [.ref ta, .ref pl, .ref sh, .ref tr, .ref fo, .ref li, .ref sp, .ref dr, .ref pa, .ref im, .ref fs, .ref ph, .ref cd, .int 0, .int 0])), (pl, .inr (6, [.int 4, .int 4, .int 10, .int 1, .int 3, .int 0, .int 0, .int 0, .ref pl0, .ref pl1, .ref pl2])), (ta, .inr (9, [.ref ta0, .int 0, .int 0, .int 0, .int 0, .int 0, .int 0, .int 0, .int 0, .int 0, .int 0]))] (fun (r : Int32) (u : Unit) => r = (rCount n)) (fun u : Unit => []) := by
  refine MI.enter (by decide) (Nat.le_of_ble_eq_true rfl) ?_
  intro p e s m below meth c ls A hsz hAe C hP hD hS hl
  have C : Cx p s m _ meth c cX10_count 2 (some .int) RX10 "count" D cy A := C
  have hx := C.1
  have hb := C.2.1
  have hl : lv_has ls 2 [(0, .ref h), (1, .int n)] := hl
  refine lv_iload_n hx hb dX10_count_0 rfl (lv_at hl 1 rfl) ?_
  rcases sw_0_7 n with rfl | rfl | rfl | rfl | rfl | rfl | rfl | rfl | h9
  · refine lv_tableIn (off := 47) (tgt := 48) hx hb dX10_count_1 (by decide) (by decide) (by decide) (by decide) ?_
    refine lv_aload_n hx hb dX10_count_48 rfl (lv_at hl 0 rfl) ?_
    refine q_get (v := .ref pl) C hP 0 1 rfl rfl inX10 (by decide) kF_RX10_19 rfl rfl dX10_count_49 ?_
    refine q_get (v := .int 0) C hP 1 6 rfl rfl inX6 (by decide) kF_RX10_211 rfl rfl dX10_count_52 ?_
    exact q_iret (rm := (Rm 0 0 0 0)) C hS () rfl (by show (0 : Int32) = (rCount (0 : Int32)); decide +kernel) (q_subP hP [] rfl) (hD.sub [] (by decide) rfl) (Nat.le_of_ble_eq_true rfl) (Nat.le_of_ble_eq_true rfl) dX10_count_55
  · refine lv_tableIn (off := 55) (tgt := 56) hx hb dX10_count_1 (by decide) (by decide) (by decide) (by decide) ?_
    refine lv_aload_n hx hb dX10_count_56 rfl (lv_at hl 0 rfl) ?_
    refine q_get (v := .ref pl) C hP 0 1 rfl rfl inX10 (by decide) kF_RX10_19 rfl rfl dX10_count_57 ?_
    refine q_get (v := .int 4) C hP 1 0 rfl rfl inX6 (by decide) kF_RX10_231 rfl rfl dX10_count_60 ?_
    exact q_iret (rm := (Rm 0 0 0 0)) C hS () rfl (by show (4 : Int32) = (rCount (1 : Int32)); decide +kernel) (q_subP hP [] rfl) (hD.sub [] (by decide) rfl) (Nat.le_of_ble_eq_true rfl) (Nat.le_of_ble_eq_true rfl) dX10_count_63
  · refine lv_tableIn (off := 63) (tgt := 64) hx hb dX10_count_1 (by decide) (by decide) (by decide) (by decide) ?_
    refine lv_aload_n hx hb dX10_count_64 rfl (lv_at hl 0 rfl) ?_
    refine q_get (v := .ref pl) C hP 0 1 rfl rfl inX10 (by decide) kF_RX10_19 rfl rfl dX10_count_65 ?_
    refine q_get (v := .int 4) C hP 1 1 rfl rfl inX6 (by decide) kF_RX10_234 rfl rfl dX10_count_68 ?_
    exact q_iret (rm := (Rm 0 0 0 0)) C hS () rfl (by show (4 : Int32) = (rCount (2 : Int32)); decide +kernel) (q_subP hP [] rfl) (hD.sub [] (by decide) rfl) (Nat.le_of_ble_eq_true rfl) (Nat.le_of_ble_eq_true rfl) dX10_count_71
  · refine lv_tableIn (off := 71) (tgt := 72) hx hb dX10_count_1 (by decide) (by decide) (by decide) (by decide) ?_
    refine lv_aload_n hx hb dX10_count_72 rfl (lv_at hl 0 rfl) ?_
    refine q_get (v := .ref pl) C hP 0 1 rfl rfl inX10 (by decide) kF_RX10_19 rfl rfl dX10_count_73 ?_
    refine q_get (v := .int 10) C hP 1 2 rfl rfl inX6 (by decide) kF_RX10_237 rfl rfl dX10_count_76 ?_
    exact q_iret (rm := (Rm 0 0 0 0)) C hS () rfl (by show (10 : Int32) = (rCount (3 : Int32)); decide +kernel) (q_subP hP [] rfl) (hD.sub [] (by decide) rfl) (Nat.le_of_ble_eq_true rfl) (Nat.le_of_ble_eq_true rfl) dX10_count_79
  · refine lv_tableIn (off := 79) (tgt := 80) hx hb dX10_count_1 (by decide) (by decide) (by decide) (by decide) ?_
    refine lv_aload_n hx hb dX10_count_80 rfl (lv_at hl 0 rfl) ?_
    refine q_get (v := .ref pl) C hP 0 1 rfl rfl inX10 (by decide) kF_RX10_19 rfl rfl dX10_count_81 ?_
    refine q_get (v := .int 1) C hP 1 3 rfl rfl inX6 (by decide) kF_RX10_240 rfl rfl dX10_count_84 ?_
    exact q_iret (rm := (Rm 0 0 0 0)) C hS () rfl (by show (1 : Int32) = (rCount (4 : Int32)); decide +kernel) (q_subP hP [] rfl) (hD.sub [] (by decide) rfl) (Nat.le_of_ble_eq_true rfl) (Nat.le_of_ble_eq_true rfl) dX10_count_87
  · refine lv_tableIn (off := 87) (tgt := 88) hx hb dX10_count_1 (by decide) (by decide) (by decide) (by decide) ?_
    refine lv_aload_n hx hb dX10_count_88 rfl (lv_at hl 0 rfl) ?_
    refine q_get (v := .ref pl) C hP 0 1 rfl rfl inX10 (by decide) kF_RX10_19 rfl rfl dX10_count_89 ?_
    refine q_get (v := .int 3) C hP 1 4 rfl rfl inX6 (by decide) kF_RX10_243 rfl rfl dX10_count_92 ?_
    exact q_iret (rm := (Rm 0 0 0 0)) C hS () rfl (by show (3 : Int32) = (rCount (5 : Int32)); decide +kernel) (q_subP hP [] rfl) (hD.sub [] (by decide) rfl) (Nat.le_of_ble_eq_true rfl) (Nat.le_of_ble_eq_true rfl) dX10_count_95
  · refine lv_tableIn (off := 95) (tgt := 96) hx hb dX10_count_1 (by decide) (by decide) (by decide) (by decide) ?_
    refine lv_aload_n hx hb dX10_count_96 rfl (lv_at hl 0 rfl) ?_
    refine q_get (v := .ref pl) C hP 0 1 rfl rfl inX10 (by decide) kF_RX10_19 rfl rfl dX10_count_97 ?_
    refine q_get (v := .int 0) C hP 1 5 rfl rfl inX6 (by decide) kF_RX10_246 rfl rfl dX10_count_100 ?_
    exact q_iret (rm := (Rm 0 0 0 0)) C hS () rfl (by show (0 : Int32) = (rCount (6 : Int32)); decide +kernel) (q_subP hP [] rfl) (hD.sub [] (by decide) rfl) (Nat.le_of_ble_eq_true rfl) (Nat.le_of_ble_eq_true rfl) dX10_count_103
  · refine lv_tableIn (off := 103) (tgt := 104) hx hb dX10_count_1 (by decide) (by decide) (by decide) (by decide) ?_
    refine lv_aload_n hx hb dX10_count_104 rfl (lv_at hl 0 rfl) ?_
    refine q_get (v := .ref ta) C hP 0 0 rfl rfl inX10 (by decide) kF_RX10_10 rfl rfl dX10_count_105 ?_
    refine q_get (v := .int 0) C hP 2 1 rfl rfl inX9 (by decide) kF_RX10_96 rfl rfl dX10_count_108 ?_
    exact q_iret (rm := (Rm 0 0 0 0)) C hS () rfl (by show (0 : Int32) = (rCount (7 : Int32)); decide +kernel) (q_subP hP [] rfl) (hD.sub [] (by decide) rfl) (Nat.le_of_ble_eq_true rfl) (Nat.le_of_ble_eq_true rfl) dX10_count_111
  · refine lv_tableOut (tgt := 112) hx hb dX10_count_1 h9 (by decide) ?_
    refine lv_iconst (v := (-1)) hx hb dX10_count_112 (by decide) ?_
    exact q_iret (rm := (Rm 0 0 0 0)) C hS () rfl (by show _ = if n.toInt = 1 then 4 else if n.toInt = 2 then 4 else if n.toInt = 3 then 10 else if n.toInt = 4 then 1 else if n.toInt = 5 then 3 else if 0 ≤ n.toInt ∧ n.toInt ≤ 7 then 0 else -1; repeat (first | rfl | rw [if_pos (by omega)] | rw [if_neg (by omega)])) (q_subP hP [] rfl) (hD.sub [] (by decide) rfl) (Nat.le_of_ble_eq_true rfl) (Nat.le_of_ble_eq_true rfl) dX10_count_113
set_option maxHeartbeats 4000000 in
set_option maxRecDepth 100000 in
theorem x_quarrels (l : Launch) (D : va_G) (cy : Nat → ClassId) (h : Nat) (ta : Nat) (pl : Nat) (sh : Nat) (tr : Nat) (fo : Nat) (li : Nat) (sp : Nat) (dr : Nat) (pa : Nat) (im : Nat) (fs : Nat) (ph : Nat) (cd : Nat) (pl0 : Nat) (pl1 : Nat) (pl2 : Nat) (sz : Nat)  : MI l yX10_quarrels cX10_quarrels 3 (some .int) (Rm 0 0 0 0) D cy [.ref h] sz [(h, .inr (10, [.ref ta, .ref pl, .ref sh, .ref tr, .ref fo, .ref li, .ref sp, .ref dr, .ref pa, .ref im, .ref fs, .ref ph, .ref cd, .int 0, .int 0])), (pl, .inr (6, [.int 4, .int 4, .int 10, .int 1, .int 3, .int 0, .int 0, .int 0, .ref pl0, .ref pl1, .ref pl2]))] (fun (r : Int32) (u : Unit) => r = 0) (fun u : Unit => []) := by
  refine MI.enter (by decide) (Nat.le_of_ble_eq_true rfl) ?_
  intro p e s m below meth c ls A hsz hAe C hP hD hS hl
  have C : Cx p s m _ meth c cX10_quarrels 3 (some .int) RX10 "quarrels" D cy A := C
  have hx := C.1
  have hb := C.2.1
  have hl : lv_has ls 3 [(0, .ref h)] := hl
  refine lv_iconst (v := 0) hx hb dX10_quarrels_0 (by decide) ?_
  refine lv_istore_n (lv' := [(1, .int 0), (0, .ref h)]) hx hb dX10_quarrels_1 rfl hl (by decide) rfl (fun ls hl => ?_)
  refine lv_iconst (v := 0) hx hb dX10_quarrels_2 (by decide) ?_
  refine lv_istore_n (lv' := [(2, .int 0), (1, .int 0), (0, .ref h)]) hx hb dX10_quarrels_3 rfl hl (by decide) rfl (fun ls hl => ?_)
  refine lv_iload_n hx hb dX10_quarrels_4 rfl (lv_at hl 0 rfl) ?_
  refine lv_aload_n hx hb dX10_quarrels_5 rfl (lv_at hl 2 rfl) ?_
  refine q_get (v := .ref pl) C hP 0 1 rfl rfl inX10 (by decide) kF_RX10_19 rfl rfl dX10_quarrels_6 ?_
  refine q_get (v := .int 0) C hP 1 6 rfl rfl inX6 (by decide) kF_RX10_211 rfl rfl dX10_quarrels_9 ?_
  refine lv_icmp_ge (tgt := 32) hx hb dX10_quarrels_12 (by decide) (fun _ => ?_) (fun c_0 => absurd (by decide) c_0)
  refine lv_iload_n hx hb dX10_quarrels_32 rfl (lv_at hl 1 rfl) ?_
  exact q_iret (rm := (Rm 0 0 0 0)) C hS () rfl rfl (q_subP hP [] rfl) (hD.sub [] (by decide) rfl) (Nat.le_of_ble_eq_true rfl) (Nat.le_of_ble_eq_true rfl) dX10_quarrels_33
set_option maxHeartbeats 4000000 in
set_option maxRecDepth 100000 in
theorem x_catalogue (l : Launch) (D : va_G) (cy : Nat → ClassId) (h : Nat) (n : Int32) (ta : Nat) (pl : Nat) (sh : Nat) (tr : Nat) (fo : Nat) (li : Nat) (sp : Nat) (dr : Nat) (pa : Nat) (im : Nat) (fs : Nat) (ph : Nat) (cd : Nat) (pl0 : Nat) (pl1 : Nat) (pl2 : Nat) (sz : Nat)  : MI l yX10_catalogue cX10_catalogue 3 (some .int) (Rm 1 21 0 0) D cy [.ref h, .int n] sz [(h, .inr (10, [.ref ta, .ref pl, .ref sh, .ref tr, .ref fo, .ref li, .ref sp, .ref dr, .ref pa, .ref im, .ref fs, .ref ph, .ref cd, .int 0, .int 0])), (pl, .inr (6, [.int 4, .int 4, .int 10, .int 1, .int 3, .int 0, .int 0, .int 0, .ref pl0, .ref pl1, .ref pl2]))] (fun (r : Int32) (u : Unit) => r = (-1)) (fun u : Unit => []) := by
  refine MI.enter (by decide) (Nat.le_of_ble_eq_true rfl) ?_
  intro p e s m below meth c ls A hsz hAe C hP hD hS hl
  have C : Cx p s m _ meth c cX10_catalogue 3 (some .int) RX10 "catalogue" D cy A := C
  have hx := C.1
  have hb := C.2.1
  have hl : lv_has ls 3 [(0, .ref h), (1, .int n)] := hl
  refine lv_aload_n hx hb dX10_catalogue_0 rfl (lv_at hl 0 rfl) ?_
  refine q_get (v := .ref pl) C hP 0 1 rfl rfl inX10 (by decide) kF_RX10_19 rfl rfl dX10_catalogue_1 ?_
  refine lv_iload_n hx hb dX10_catalogue_4 rfl (lv_at hl 1 rfl) ?_
  refine q_ai (wr := [(h, .inr (10, [.ref ta, .ref pl, .ref sh, .ref tr, .ref fo, .ref li, .ref sp, .ref dr, .ref pa, .ref im, .ref fs, .ref ph, .ref cd, .int 0, .int 0]))]) (r_V (q0 := 0) (As := [.int n]) (rest := []) (wc := [(pl, .inr (6, [.int 4, .int 4, .int 10, .int 1, .int 3, .int 0, .int 0, .int 0, .ref pl0, .ref pl1, .ref pl2]))]) C (q_subP hP [1] rfl) (hD.sub [1] (by decide) rfl) (c_hasBook l D cy pl n pl0 pl1 pl2 _ ) kwV_X6_hasBook kM_RX10_170 rfl rfl ⟨Nat.le_of_ble_eq_true rfl, Nat.le_of_ble_eq_true rfl⟩ rfl hl.1 rfl (Nat.le_of_ble_eq_true rfl) dX10_catalogue_5 ⟨Nat.le_of_ble_eq_true rfl, Nat.le_of_ble_eq_true rfl⟩) C.2.2.2.2.2.2.1 hP hD hS [1] [0] rfl rfl (by decide) (by decide) (fun r_2 u_1 H locs hw_3 hP hD hS => ?_)
  have hP : va_P D vwCl [(h, .inr (10, [.ref ta, .ref pl, .ref sh, .ref tr, .ref fo, .ref li, .ref sp, .ref dr, .ref pa, .ref im, .ref fs, .ref ph, .ref cd, .int 0, .int 0])), (pl, .inr (6, [.int 4, .int 4, .int 10, .int 1, .int 3, .int 0, .int 0, .int 0, .ref pl0, .ref pl1, .ref pl2]))] H := hP
  have hD : va_D A [(h, .inr (10, [.ref ta, .ref pl, .ref sh, .ref tr, .ref fo, .ref li, .ref sp, .ref dr, .ref pa, .ref im, .ref fs, .ref ph, .ref cd, .int 0, .int 0])), (pl, .inr (6, [.int 4, .int 4, .int 10, .int 1, .int 3, .int 0, .int 0, .int 0, .ref pl0, .ref pl1, .ref pl2]))] := hD
  obtain rfl : r_2 = 0 := hw_3
  refine lv_if_ne (tgt := 13) hx hb dX10_catalogue_8 (by decide) (fun c_0 => absurd (by decide) c_0) (fun _ => ?_)
  refine lv_iconst (v := (-1)) hx hb dX10_catalogue_11 (by decide) ?_
  exact q_iret (rm := (Rm 1 21 0 0)) C hS () rfl rfl (q_subP hP [] rfl) (hD.sub [] (by decide) rfl) (Nat.le_of_ble_eq_true rfl) (Nat.le_of_ble_eq_true rfl) dX10_catalogue_12
set_option maxHeartbeats 4000000 in
set_option maxRecDepth 100000 in
theorem x_byteAt (l : Launch) (D : va_G) (cy : Nat → ClassId) (h : Nat) (n : Int32) (ta : Nat) (pl : Nat) (sh : Nat) (tr : Nat) (fo : Nat) (li : Nat) (sp : Nat) (dr : Nat) (pa : Nat) (im : Nat) (fs : Nat) (ph : Nat) (cd : Nat) (sz : Nat)  : MI l yX10_byteAt cX10_byteAt 2 (some .int) (Rm 0 0 0 0) D cy [.ref h, .int n] sz [(h, .inr (10, [.ref ta, .ref pl, .ref sh, .ref tr, .ref fo, .ref li, .ref sp, .ref dr, .ref pa, .ref im, .ref fs, .ref ph, .ref cd, .int 0, .int 0]))] (fun (r : Int32) (u : Unit) => r = (-1)) (fun u : Unit => []) := by
  refine MI.enter (by decide) (Nat.le_of_ble_eq_true rfl) ?_
  intro p e s m below meth c ls A hsz hAe C hP hD hS hl
  have C : Cx p s m _ meth c cX10_byteAt 2 (some .int) RX10 "byteAt" D cy A := C
  have hx := C.1
  have hb := C.2.1
  have hl : lv_has ls 2 [(0, .ref h), (1, .int n)] := hl
  refine lv_iload_n hx hb dX10_byteAt_0 rfl (lv_at hl 1 rfl) ?_
  refine lv_if_lt (tgt := 21) hx hb dX10_byteAt_1 (by decide) (fun c_1 => ?_) (fun c_1 => ?_)
  · refine lv_iconst (v := (-1)) hx hb dX10_byteAt_21 (by decide) ?_
    exact q_iret (rm := (Rm 0 0 0 0)) C hS () rfl rfl (q_subP hP [] rfl) (hD.sub [] (by decide) rfl) (Nat.le_of_ble_eq_true rfl) (Nat.le_of_ble_eq_true rfl) dX10_byteAt_22
  · refine lv_iload_n hx hb dX10_byteAt_4 rfl (lv_at hl 1 rfl) ?_
    refine lv_aload_n hx hb dX10_byteAt_5 rfl (lv_at hl 0 rfl) ?_
    refine q_get (v := .int 0) C hP 0 13 rfl rfl inX10 (by decide) kF_RX10_88 rfl rfl dX10_byteAt_6 ?_
    refine lv_icmp_ge (tgt := 21) hx hb dX10_byteAt_9 (by decide) (fun _ => ?_) (fun c_0 => absurd ((Int32.le_iff_toInt_le).mpr (by have z0 := (not_congr Int32.lt_iff_toInt_lt).mp c_1; have e0 : (0 : Int32).toInt = 0 := (by decide); omega)) c_0)
    refine lv_iconst (v := (-1)) hx hb dX10_byteAt_21 (by decide) ?_
    exact q_iret (rm := (Rm 0 0 0 0)) C hS () rfl rfl (q_subP hP [] rfl) (hD.sub [] (by decide) rfl) (Nat.le_of_ble_eq_true rfl) (Nat.le_of_ble_eq_true rfl) dX10_byteAt_22
set_option maxHeartbeats 4000000 in
set_option maxRecDepth 100000 in
theorem x_ask (l : Launch) (D : va_G) (cy : Nat → ClassId) (h : Nat) (n : Int32) (ta : Nat) (pl : Nat) (sh : Nat) (tr : Nat) (fo : Nat) (li : Nat) (sp : Nat) (dr : Nat) (pa : Nat) (im : Nat) (fs : Nat) (ph : Nat) (cd : Nat) (pl0 : Nat) (pl1 : Nat) (pl2 : Nat) (sz : Nat)  : MI l yX10_ask cX10_ask 2 (some .int) (Rm 1 21 0 0) D cy [.ref h, .int n] sz [(h, .inr (10, [.ref ta, .ref pl, .ref sh, .ref tr, .ref fo, .ref li, .ref sp, .ref dr, .ref pa, .ref im, .ref fs, .ref ph, .ref cd, .int 0, .int 0])), (pl, .inr (6, [.int 4, .int 4, .int 10, .int 1, .int 3, .int 0, .int 0, .int 0, .ref pl0, .ref pl1, .ref pl2]))] (fun (r : Int32) (u : Unit) => r = (-1)) (fun u : Unit => []) := by
  refine MI.enter (by decide) (Nat.le_of_ble_eq_true rfl) ?_
  intro p e s m below meth c ls A hsz hAe C hP hD hS hl
  have C : Cx p s m _ meth c cX10_ask 2 (some .int) RX10 "ask" D cy A := C
  have hx := C.1
  have hb := C.2.1
  have hl : lv_has ls 2 [(0, .ref h), (1, .int n)] := hl
  refine lv_aload_n hx hb dX10_ask_0 rfl (lv_at hl 0 rfl) ?_
  refine q_get (v := .ref pl) C hP 0 1 rfl rfl inX10 (by decide) kF_RX10_19 rfl rfl dX10_ask_1 ?_
  refine lv_iload_n hx hb dX10_ask_4 rfl (lv_at hl 1 rfl) ?_
  refine q_ai (wr := [(h, .inr (10, [.ref ta, .ref pl, .ref sh, .ref tr, .ref fo, .ref li, .ref sp, .ref dr, .ref pa, .ref im, .ref fs, .ref ph, .ref cd, .int 0, .int 0]))]) (r_V (q0 := 0) (As := [.int n]) (rest := []) (wc := [(pl, .inr (6, [.int 4, .int 4, .int 10, .int 1, .int 3, .int 0, .int 0, .int 0, .ref pl0, .ref pl1, .ref pl2]))]) C (q_subP hP [1] rfl) (hD.sub [1] (by decide) rfl) (c_hasBook l D cy pl n pl0 pl1 pl2 _ ) kwV_X6_hasBook kM_RX10_170 rfl rfl ⟨Nat.le_of_ble_eq_true rfl, Nat.le_of_ble_eq_true rfl⟩ rfl hl.1 rfl (Nat.le_of_ble_eq_true rfl) dX10_ask_5 ⟨Nat.le_of_ble_eq_true rfl, Nat.le_of_ble_eq_true rfl⟩) C.2.2.2.2.2.2.1 hP hD hS [1] [0] rfl rfl (by decide) (by decide) (fun r_2 u_1 H locs hw_3 hP hD hS => ?_)
  have hP : va_P D vwCl [(h, .inr (10, [.ref ta, .ref pl, .ref sh, .ref tr, .ref fo, .ref li, .ref sp, .ref dr, .ref pa, .ref im, .ref fs, .ref ph, .ref cd, .int 0, .int 0])), (pl, .inr (6, [.int 4, .int 4, .int 10, .int 1, .int 3, .int 0, .int 0, .int 0, .ref pl0, .ref pl1, .ref pl2]))] H := hP
  have hD : va_D A [(h, .inr (10, [.ref ta, .ref pl, .ref sh, .ref tr, .ref fo, .ref li, .ref sp, .ref dr, .ref pa, .ref im, .ref fs, .ref ph, .ref cd, .int 0, .int 0])), (pl, .inr (6, [.int 4, .int 4, .int 10, .int 1, .int 3, .int 0, .int 0, .int 0, .ref pl0, .ref pl1, .ref pl2]))] := hD
  obtain rfl : r_2 = 0 := hw_3
  refine lv_if_ne (tgt := 13) hx hb dX10_ask_8 (by decide) (fun c_0 => absurd (by decide) c_0) (fun _ => ?_)
  refine lv_iconst (v := (-1)) hx hb dX10_ask_11 (by decide) ?_
  exact q_iret (rm := (Rm 1 21 0 0)) C hS () rfl rfl (q_subP hP [] rfl) (hD.sub [] (by decide) rfl) (Nat.le_of_ble_eq_true rfl) (Nat.le_of_ble_eq_true rfl) dX10_ask_12
