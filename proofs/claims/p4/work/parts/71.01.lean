theorem dX11_bitOf_0 : decode cX11_bitOf 0 = .ok (.iload_n 0, 1) := by decide +kernel
theorem dX11_bitOf_1 : decode cX11_bitOf 1 = .ok (.iload_n 1, 1) := by decide +kernel
theorem dX11_bitOf_2 : decode cX11_bitOf 2 = .ok (.ishr, 1) := by decide +kernel
theorem dX11_bitOf_3 : decode cX11_bitOf 3 = .ok (.iconst 1, 1) := by decide +kernel
theorem dX11_bitOf_4 : decode cX11_bitOf 4 = .ok (.iand, 1) := by decide +kernel
theorem dX11_bitOf_5 : decode cX11_bitOf 5 = .ok (.iconst 1, 1) := by decide +kernel
theorem dX11_bitOf_6 : decode cX11_bitOf 6 = .ok (.if_icmp .ne 7, 3) := by decide +kernel
theorem dX11_bitOf_13 : decode cX11_bitOf 13 = .ok (.iconst 0, 1) := by decide +kernel
theorem dX11_bitOf_14 : decode cX11_bitOf 14 = .ok (.ireturn, 1) := by decide +kernel
theorem dX11_bitOf_9 : decode cX11_bitOf 9 = .ok (.iconst 1, 1) := by decide +kernel
theorem dX11_bitOf_10 : decode cX11_bitOf 10 = .ok (.goto 4, 3) := by decide +kernel
set_option maxHeartbeats 4000000 in
set_option maxRecDepth 100000 in
theorem b_y_bitOf (l : Launch) (D : va_G) (cy : Nat → ClassId) (v : Int32) (w : Int32)  {p : Program} {e : Env} {s : State} {m : MethodId} {args : Array Value} {below : List Frame} {meth : Method} {c : Code} {A : Nat → Prop} {Q : State → Prop} {cells slots : Nat} (hroom : cells ≤ ((Rm 0 0 0 0)).cells ∧ slots ≤ ((Rm 0 0 0 0)).slots) (C : Cx p s m args meth c cX11_bitOf 2 (some .boolean) RX11 "bitOf" D cy A) (hQ : Q = MQ below (va_Qi (fun (r : Int32) (u : Unit) => (0 ≤ r.toInt ∧ r.toInt ≤ 1) ∧ (r = bt v w)) (Bx D A (fun u : Unit => [])) A) args s ((Rm 0 0 0 0)).cells ((Rm 0 0 0 0)).slots A) (H : Heap) (locs : List Loc) (ls : Array Slot) (hP : va_P D vwCl [] H) (hD : va_D A []) (hS : va_S A s.heap H locs) (hl : lv_has ls 2 [(0, .int v), (1, .int w)]) : W p l e (Rm 0 0 0 0) s m args below meth c H locs cells slots Q (F0 m 0 ls []) := by
  have hx := C.1
  have hb := C.2.1
  have hqv := o_rng v
  have hqw := o_rng w
  refine lv_iload_n hx hb dX11_bitOf_0 rfl (lv_at hl 0 rfl) ?_
  refine lv_iload_n hx hb dX11_bitOf_1 rfl (lv_at hl 1 rfl) ?_
  refine lv_ishr hx hb dX11_bitOf_2 ?_
  refine lv_topi (fun z_1 hz_1 => ?_)
  have ez_1 := hz_1
  refine lv_iconst (v := 1) hx hb dX11_bitOf_3 (by decide) ?_
  refine lv_iand hx hb dX11_bitOf_4 ?_
  refine lv_topi (fun z_2 hz_2 => ?_)
  have ez_2 := hz_2
  have hz_2 := o_and hz_2 (b := 1) (by decide) (by decide)
  refine lv_iconst (v := 1) hx hb dX11_bitOf_5 (by decide) ?_
  refine lv_icmp_ne (tgt := 13) hx hb dX11_bitOf_6 (by decide) (fun c_3 => ?_) (fun c_3 => ?_)
  · have hc_3 := o_ne (rfl : z_2.toInt = z_2.toInt) (by decide : (1 : Int32).toInt = 1) c_3
    have hnc_3 : 0 ≤ (-1) * z_2.toInt := by rcases Int.lt_or_gt_of_ne hc_3 with h9 | h9 <;> omega
    refine lv_iconst (v := 0) hx hb dX11_bitOf_13 (by decide) ?_
    refine o_wq hQ ?_
    exact q_iret (rm := (Rm 0 0 0 0)) C hS () rfl ⟨(show 0 ≤ (0 : Int32).toInt ∧ (0 : Int32).toInt ≤ 1 by decide), (show (0 : Int32) = bt v w from (bt_no ez_1 ez_2 (by omega)))⟩ (q_subP hP [] rfl) (hD.sub [] (by decide) rfl) hroom.1 hroom.2 dX11_bitOf_14
  · have hc_3 := o_eq (rfl : z_2.toInt = z_2.toInt) (by decide : (1 : Int32).toInt = 1) c_3
    refine lv_iconst (v := 1) hx hb dX11_bitOf_9 (by decide) ?_
    refine lv_goto (tgt := 14) hx hb dX11_bitOf_10 (by decide) ?_
    refine o_wq hQ ?_
    exact q_iret (rm := (Rm 0 0 0 0)) C hS () rfl ⟨(show 0 ≤ (1 : Int32).toInt ∧ (1 : Int32).toInt ≤ 1 by decide), (show (1 : Int32) = bt v w from (bt_yes ez_1 ez_2 (by omega)))⟩ (q_subP hP [] rfl) (hD.sub [] (by decide) rfl) hroom.1 hroom.2 dX11_bitOf_14
theorem y_bitOf (l : Launch) (D : va_G) (cy : Nat → ClassId) (v : Int32) (w : Int32) (sz : Nat)  : MI l yX11_bitOf cX11_bitOf 2 (some .boolean) (Rm 0 0 0 0) D cy [.int v, .int w] sz [] (fun (r : Int32) (u : Unit) => (0 ≤ r.toInt ∧ r.toInt ≤ 1) ∧ (r = bt v w)) (fun u : Unit => []) := by
  refine MI.enter (by decide) (Nat.le_of_ble_eq_true rfl) ?_
  intro p e s m below meth c ls A hsz hAe C hP hD hS hl
  exact b_y_bitOf l D cy v w  ⟨Nat.le_of_ble_eq_true rfl, Nat.le_of_ble_eq_true rfl⟩ C rfl _ _ ls hP hD hS hl
