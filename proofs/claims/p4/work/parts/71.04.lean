theorem dX11_bits_0 : decode cX11_bits 0 = .ok (.iconst 0, 1) := by decide +kernel
theorem dX11_bits_1 : decode cX11_bits 1 = .ok (.istore_n 1, 1) := by decide +kernel
theorem dX11_bits_2 : decode cX11_bits 2 = .ok (.iload_n 0, 1) := by decide +kernel
theorem dX11_bits_3 : decode cX11_bits 3 = .ok (.istore_n 2, 1) := by decide +kernel
theorem dX11_bits_4 : decode cX11_bits 4 = .ok (.iload_n 2, 1) := by decide +kernel
theorem dX11_bits_5 : decode cX11_bits 5 = .ok (.ifCond .eq 15, 3) := by decide +kernel
theorem dX11_bits_20 : decode cX11_bits 20 = .ok (.iload_n 1, 1) := by decide +kernel
theorem dX11_bits_21 : decode cX11_bits 21 = .ok (.ireturn, 1) := by decide +kernel
theorem dX11_bits_8 : decode cX11_bits 8 = .ok (.iinc 1 1, 3) := by decide +kernel
theorem dX11_bits_11 : decode cX11_bits 11 = .ok (.iload_n 2, 1) := by decide +kernel
theorem dX11_bits_12 : decode cX11_bits 12 = .ok (.iload_n 2, 1) := by decide +kernel
theorem dX11_bits_13 : decode cX11_bits 13 = .ok (.iconst 1, 1) := by decide +kernel
theorem dX11_bits_14 : decode cX11_bits 14 = .ok (.isub, 1) := by decide +kernel
theorem dX11_bits_15 : decode cX11_bits 15 = .ok (.iand, 1) := by decide +kernel
theorem dX11_bits_16 : decode cX11_bits 16 = .ok (.istore_n 2, 1) := by decide +kernel
theorem dX11_bits_17 : decode cX11_bits 17 = .ok (.goto (-13), 3) := by decide +kernel
set_option maxHeartbeats 4000000 in
set_option maxRecDepth 100000 in
theorem b_y_bits (l : Launch) (D : va_G) (cy : Nat → ClassId) (v : Int32) (hb0 : 0 ≤ v.toInt ∧ v.toInt ≤ 255) {p : Program} {e : Env} {s : State} {m : MethodId} {args : Array Value} {below : List Frame} {meth : Method} {c : Code} {A : Nat → Prop} {Q : State → Prop} {cells slots : Nat} (hroom : cells ≤ ((Rm 0 0 0 0)).cells ∧ slots ≤ ((Rm 0 0 0 0)).slots) (C : Cx p s m args meth c cX11_bits 3 (some .int) RX11 "bits" D cy A) (hQ : Q = MQ below (va_Qi (fun (r : Int32) (u : Unit) => (0 ≤ r.toInt ∧ r.toInt ≤ 8) ∧ (r.toInt = bc v.toInt)) (Bx D A (fun u : Unit => [])) A) args s ((Rm 0 0 0 0)).cells ((Rm 0 0 0 0)).slots A) (H : Heap) (locs : List Loc) (ls : Array Slot) (hP : va_P D vwCl [] H) (hD : va_D A []) (hS : va_S A s.heap H locs) (hl : lv_has ls 3 [(0, .int v)]) : W p l e (Rm 0 0 0 0) s m args below meth c H locs cells slots Q (F0 m 0 ls []) := by
  have hx := C.1
  have hb := C.2.1
  refine lv_iconst (v := 0) hx hb dX11_bits_0 (by decide) ?_
  refine lv_istore_n (lv' := [(1, .int 0), (0, .int v)]) hx hb dX11_bits_1 rfl hl (by decide) rfl (fun ls hl => ?_)
  have hq_0 : (0 : Int32).toInt + bc v.toInt = bc v.toInt := by have e0 : (0 : Int32).toInt = 0 := (by decide); rw [e0]; exact Int.zero_add _
  refine lv_iload_n hx hb dX11_bits_2 rfl (lv_at hl 1 rfl) ?_
  refine lv_istore_n (lv' := [(2, .int v), (1, .int 0), (0, .int v)]) hx hb dX11_bits_3 rfl hl (by decide) rfl (fun ls hl => ?_)
  have lp_4_3 : ∀ (n_4 : Nat) (x_2 : Int32) (x_3 : Int32) (H : Heap) (locs : List Loc) (ls : Array Slot), x_3.toInt < (n_4 : Int) → (0 ≤ x_2.toInt ∧ x_2.toInt ≤ 8) → (0 ≤ x_3.toInt ∧ x_3.toInt ≤ 255) → (x_2.toInt + bc x_3.toInt = bc v.toInt) → va_P D vwCl [] H → va_D A [] → va_S A s.heap H locs → lv_has ls 3 [(1, .int x_2), (2, .int x_3)] → W p l e (Rm 0 0 0 0) s m args below meth c H locs cells slots Q (F0 m 4 ls []) := by
    intro n_4
    induction n_4 with
    | zero =>
      intro x_2 x_3 H locs ls hm_8 hf_5 hf_6 hf_7 hP hD hS hl
      exact absurd hm_8 (by omega)
    | succ n_4 ih_9 =>
      intro x_2 x_3 H locs ls hm_8 hf_5 hf_6 hf_7 hP hD hS hl
      refine lv_iload_n hx hb dX11_bits_4 rfl (lv_at hl 1 rfl) ?_
      refine lv_if_eq (tgt := 20) hx hb dX11_bits_5 (by decide) (fun c_11 => ?_) (fun c_11 => ?_)
      · have hc_11 := o_eq (rfl : x_3.toInt = x_3.toInt) (by decide : (0 : Int32).toInt = 0) c_11
        have hq_11 := bits_end hf_7 (by omega)
        refine lv_iload_n hx hb dX11_bits_20 rfl (lv_at hl 0 rfl) ?_
        refine o_wq hQ ?_
        exact q_iret (rm := (Rm 0 0 0 0)) C hS () rfl ⟨(show 0 ≤ x_2.toInt ∧ x_2.toInt ≤ 8 by omega), hq_11⟩ (q_subP hP [] rfl) (hD.sub [] (by decide) rfl) hroom.1 hroom.2 dX11_bits_21
      · have hc_11 := o_ne (rfl : x_3.toInt = x_3.toInt) (by decide : (0 : Int32).toInt = 0) c_11
        have hnc_11 : 0 ≤ x_3.toInt + (-1) := by rcases Int.lt_or_gt_of_ne hc_11 with h9 | h9 <;> omega
        have hq_12 := bits_lim hf_7 (by omega) (by omega)
        obtain ⟨z_14, hz_14⟩ : ∃ z : Int32, z = x_2 + 1 := ⟨_, rfl⟩
        refine lv_iinc (v := z_14) (lv' := [(1, .int z_14), (2, .int x_3)]) hx hb dX11_bits_8 hl (k := 0) rfl hz_14.symm (by decide) rfl (fun ls hl => ?_)
        have hz_14 := o_add hz_14 (rfl : x_2.toInt = x_2.toInt) (by decide : (1 : Int32).toInt = 1) (by omega) (by omega)
        refine lv_iload_n hx hb dX11_bits_11 rfl (lv_at hl 1 rfl) ?_
        refine lv_iload_n hx hb dX11_bits_12 rfl (lv_at hl 1 rfl) ?_
        refine lv_iconst (v := 1) hx hb dX11_bits_13 (by decide) ?_
        refine lv_isub hx hb dX11_bits_14 ?_
        refine lv_topi (fun z_15 hz_15 => ?_)
        have hz_15 := o_sub hz_15 (rfl : x_3.toInt = x_3.toInt) (by decide : (1 : Int32).toInt = 1) (by omega) (by omega)
        refine lv_iand hx hb dX11_bits_15 ?_
        refine lv_topi (fun z_16 hz_16 => ?_)
        have ez_16 := hz_16
        have hz_16 := o_and hz_16 (rfl : z_15.toInt = z_15.toInt) (by omega)
        refine lv_istore_n (lv' := [(2, .int z_16), (1, .int z_14)]) hx hb dX11_bits_16 rfl hl (by decide) rfl (fun ls hl => ?_)
        have hq_16 : z_14.toInt + bc z_16.toInt = bc v.toInt := bits_step (x := x_3) hf_7 hz_15 ez_16 (by omega) (by omega) (by omega)
        refine lv_goto (tgt := 4) hx hb dX11_bits_17 (by decide) ?_
        exact ih_9 z_14 z_16 H locs ls (by omega) (by omega) (by omega) hq_16 hP hD hS (lv_sub hl [1, 0] rfl)
  exact lp_4_3 ((v.toInt : Int).toNat + 1) (0 : Int32) v H locs ls (by have e0 : (0 : Int32).toInt = 0 := (by decide); omega) (by have e0 : (0 : Int32).toInt = 0 := (by decide); omega) (by have e0 : (0 : Int32).toInt = 0 := (by decide); omega) hq_0 hP hD hS (lv_sub hl [1, 0] rfl)
theorem y_bits (l : Launch) (D : va_G) (cy : Nat → ClassId) (v : Int32) (sz : Nat) (hb0 : 0 ≤ v.toInt ∧ v.toInt ≤ 255) : MI l yX11_bits cX11_bits 3 (some .int) (Rm 0 0 0 0) D cy [.int v] sz [] (fun (r : Int32) (u : Unit) => (0 ≤ r.toInt ∧ r.toInt ≤ 8) ∧ (r.toInt = bc v.toInt)) (fun u : Unit => []) := by
  refine MI.enter (by decide) (Nat.le_of_ble_eq_true rfl) ?_
  intro p e s m below meth c ls A hsz hAe C hP hD hS hl
  exact b_y_bits l D cy v hb0 ⟨Nat.le_of_ble_eq_true rfl, Nat.le_of_ble_eq_true rfl⟩ C rfl _ _ ls hP hD hS hl
