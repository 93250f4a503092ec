theorem dX11_isIn_0 : decode cX11_isIn 0 = .ok (.iload_n 0, 1) := by decide +kernel
theorem dX11_isIn_1 : decode cX11_isIn 1 = .ok (.iload_n 1, 1) := by decide +kernel
theorem dX11_isIn_2 : decode cX11_isIn 2 = .ok (.if_icmp .lt 12, 3) := by decide +kernel
theorem dX11_isIn_14 : decode cX11_isIn 14 = .ok (.iconst 0, 1) := by decide +kernel
theorem dX11_isIn_15 : decode cX11_isIn 15 = .ok (.ireturn, 1) := by decide +kernel
theorem dX11_isIn_5 : decode cX11_isIn 5 = .ok (.iload_n 0, 1) := by decide +kernel
theorem dX11_isIn_6 : decode cX11_isIn 6 = .ok (.iload_n 2, 1) := by decide +kernel
theorem dX11_isIn_7 : decode cX11_isIn 7 = .ok (.if_icmp .gt 7, 3) := by decide +kernel
theorem dX11_isIn_10 : decode cX11_isIn 10 = .ok (.iconst 1, 1) := by decide +kernel
theorem dX11_isIn_11 : decode cX11_isIn 11 = .ok (.goto 4, 3) := by decide +kernel
set_option maxHeartbeats 4000000 in
set_option maxRecDepth 100000 in
theorem b_y_isIn (l : Launch) (D : va_G) (cy : Nat → ClassId) (v : Int32) (lo : Int32) (hi : Int32)  {p : Program} {e : Env} {s : State} {m : MethodId} {args : Array Value} {below : List Frame} {meth : Method} {c : Code} {A : Nat → Prop} {Q : State → Prop} {cells slots : Nat} (hroom : cells ≤ ((Rm 0 0 0 0)).cells ∧ slots ≤ ((Rm 0 0 0 0)).slots) (C : Cx p s m args meth c cX11_isIn 3 (some .boolean) RX11 "isIn" D cy A) (hQ : Q = MQ below (va_Qi (fun (r : Int32) (u : Unit) => (0 ≤ r.toInt ∧ r.toInt ≤ 1) ∧ ((0 ≤ r.toInt + (-1)) → (0 ≤ v.toInt + (-1) * lo.toInt ∧ 0 ≤ hi.toInt + (-1) * v.toInt)) ∧ ((0 ≤ v.toInt + (-1) * lo.toInt ∧ 0 ≤ hi.toInt + (-1) * v.toInt) → (0 ≤ r.toInt + (-1)))) (Bx D A (fun u : Unit => [])) A) args s ((Rm 0 0 0 0)).cells ((Rm 0 0 0 0)).slots A) (H : Heap) (locs : List Loc) (ls : Array Slot) (hP : va_P D vwCl [] H) (hD : va_D A []) (hS : va_S A s.heap H locs) (hl : lv_has ls 3 [(0, .int v), (1, .int lo), (2, .int hi)]) : W p l e (Rm 0 0 0 0) s m args below meth c H locs cells slots Q (F0 m 0 ls []) := by
  have hx := C.1
  have hb := C.2.1
  have hqv := o_rng v
  have hqlo := o_rng lo
  have hqhi := o_rng hi
  refine lv_iload_n hx hb dX11_isIn_0 rfl (lv_at hl 0 rfl) ?_
  refine lv_iload_n hx hb dX11_isIn_1 rfl (lv_at hl 1 rfl) ?_
  refine lv_icmp_lt (tgt := 14) hx hb dX11_isIn_2 (by decide) (fun c_1 => ?_) (fun c_1 => ?_)
  · have hc_1 := o_lt (rfl : v.toInt = v.toInt) (rfl : lo.toInt = lo.toInt) c_1
    refine lv_iconst (v := 0) hx hb dX11_isIn_14 (by decide) ?_
    refine o_wq hQ ?_
    exact q_iret (rm := (Rm 0 0 0 0)) C hS () rfl ⟨(show 0 ≤ (0 : Int32).toInt ∧ (0 : Int32).toInt ≤ 1 by decide), (show (0 ≤ (0 : Int32).toInt + (-1)) → (0 ≤ v.toInt + (-1) * lo.toInt ∧ 0 ≤ hi.toInt + (-1) * v.toInt) by have e0 : (0 : Int32).toInt = 0 := (by decide); omega), (show (0 ≤ v.toInt + (-1) * lo.toInt ∧ 0 ≤ hi.toInt + (-1) * v.toInt) → (0 ≤ (0 : Int32).toInt + (-1)) by have e0 : (0 : Int32).toInt = 0 := (by decide); omega)⟩ (q_subP hP [] rfl) (hD.sub [] (by decide) rfl) hroom.1 hroom.2 dX11_isIn_15
  · have hc_1 := o_nlt (rfl : v.toInt = v.toInt) (rfl : lo.toInt = lo.toInt) c_1
    refine lv_iload_n hx hb dX11_isIn_5 rfl (lv_at hl 0 rfl) ?_
    refine lv_iload_n hx hb dX11_isIn_6 rfl (lv_at hl 2 rfl) ?_
    refine lv_icmp_gt (tgt := 14) hx hb dX11_isIn_7 (by decide) (fun c_2 => ?_) (fun c_2 => ?_)
    · have hc_2 := o_lt (rfl : hi.toInt = hi.toInt) (rfl : v.toInt = v.toInt) c_2
      refine lv_iconst (v := 0) hx hb dX11_isIn_14 (by decide) ?_
      refine o_wq hQ ?_
      exact q_iret (rm := (Rm 0 0 0 0)) C hS () rfl ⟨(show 0 ≤ (0 : Int32).toInt ∧ (0 : Int32).toInt ≤ 1 by decide), (show (0 ≤ (0 : Int32).toInt + (-1)) → (0 ≤ v.toInt + (-1) * lo.toInt ∧ 0 ≤ hi.toInt + (-1) * v.toInt) by have e0 : (0 : Int32).toInt = 0 := (by decide); omega), (show (0 ≤ v.toInt + (-1) * lo.toInt ∧ 0 ≤ hi.toInt + (-1) * v.toInt) → (0 ≤ (0 : Int32).toInt + (-1)) by have e0 : (0 : Int32).toInt = 0 := (by decide); omega)⟩ (q_subP hP [] rfl) (hD.sub [] (by decide) rfl) hroom.1 hroom.2 dX11_isIn_15
    · have hc_2 := o_nlt (rfl : hi.toInt = hi.toInt) (rfl : v.toInt = v.toInt) c_2
      refine lv_iconst (v := 1) hx hb dX11_isIn_10 (by decide) ?_
      refine lv_goto (tgt := 15) hx hb dX11_isIn_11 (by decide) ?_
      refine o_wq hQ ?_
      exact q_iret (rm := (Rm 0 0 0 0)) C hS () rfl ⟨(show 0 ≤ (1 : Int32).toInt ∧ (1 : Int32).toInt ≤ 1 by decide), (show (0 ≤ (1 : Int32).toInt + (-1)) → (0 ≤ v.toInt + (-1) * lo.toInt ∧ 0 ≤ hi.toInt + (-1) * v.toInt) by have e0 : (1 : Int32).toInt = 1 := (by decide); omega), (show (0 ≤ v.toInt + (-1) * lo.toInt ∧ 0 ≤ hi.toInt + (-1) * v.toInt) → (0 ≤ (1 : Int32).toInt + (-1)) by have e0 : (1 : Int32).toInt = 1 := (by decide); omega)⟩ (q_subP hP [] rfl) (hD.sub [] (by decide) rfl) hroom.1 hroom.2 dX11_isIn_15
theorem y_isIn (l : Launch) (D : va_G) (cy : Nat → ClassId) (v : Int32) (lo : Int32) (hi : Int32) (sz : Nat)  : MI l yX11_isIn cX11_isIn 3 (some .boolean) (Rm 0 0 0 0) D cy [.int v, .int lo, .int hi] sz [] (fun (r : Int32) (u : Unit) => (0 ≤ r.toInt ∧ r.toInt ≤ 1) ∧ ((0 ≤ r.toInt + (-1)) → (0 ≤ v.toInt + (-1) * lo.toInt ∧ 0 ≤ hi.toInt + (-1) * v.toInt)) ∧ ((0 ≤ v.toInt + (-1) * lo.toInt ∧ 0 ≤ hi.toInt + (-1) * v.toInt) → (0 ≤ r.toInt + (-1)))) (fun u : Unit => []) := by
  refine MI.enter (by decide) (Nat.le_of_ble_eq_true rfl) ?_
  intro p e s m below meth c ls A hsz hAe C hP hD hS hl
  exact b_y_isIn l D cy v lo hi  ⟨Nat.le_of_ble_eq_true rfl, Nat.le_of_ble_eq_true rfl⟩ C rfl _ _ ls hP hD hS hl
