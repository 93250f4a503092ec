theorem dX11_isDigit_0 : decode cX11_isDigit 0 = .ok (.iload_n 0, 1) := by decide +kernel
theorem dX11_isDigit_1 : decode cX11_isDigit 1 = .ok (.bipush 48, 2) := by decide +kernel
theorem dX11_isDigit_3 : decode cX11_isDigit 3 = .ok (.if_icmp .lt 13, 3) := by decide +kernel
theorem dX11_isDigit_16 : decode cX11_isDigit 16 = .ok (.iconst 0, 1) := by decide +kernel
theorem dX11_isDigit_17 : decode cX11_isDigit 17 = .ok (.ireturn, 1) := by decide +kernel
theorem dX11_isDigit_6 : decode cX11_isDigit 6 = .ok (.iload_n 0, 1) := by decide +kernel
theorem dX11_isDigit_7 : decode cX11_isDigit 7 = .ok (.bipush 57, 2) := by decide +kernel
theorem dX11_isDigit_9 : decode cX11_isDigit 9 = .ok (.if_icmp .gt 7, 3) := by decide +kernel
theorem dX11_isDigit_12 : decode cX11_isDigit 12 = .ok (.iconst 1, 1) := by decide +kernel
theorem dX11_isDigit_13 : decode cX11_isDigit 13 = .ok (.goto 4, 3) := by decide +kernel
set_option maxHeartbeats 4000000 in
set_option maxRecDepth 100000 in
theorem b_y_isDigit (l : Launch) (D : va_G) (cy : Nat → ClassId) (v : Int32)  {p : Program} {e : Env} {s : State} {m : MethodId} {args : Array Value} {below : List Frame} {meth : Method} {c : Code} {A : Nat → Prop} {Q : State → Prop} {cells slots : Nat} (hroom : cells ≤ ((Rm 0 0 0 0)).cells ∧ slots ≤ ((Rm 0 0 0 0)).slots) (C : Cx p s m args meth c cX11_isDigit 1 (some .boolean) RX11 "isDigit" D cy A) (hQ : Q = MQ below (va_Qi (fun (r : Int32) (u : Unit) => (0 ≤ r.toInt ∧ r.toInt ≤ 1) ∧ ((0 ≤ r.toInt + (-1)) → (0 ≤ v.toInt + (-48) ∧ 0 ≤ (-1) * v.toInt + 57)) ∧ ((0 ≤ v.toInt + (-48) ∧ 0 ≤ (-1) * v.toInt + 57) → (0 ≤ r.toInt + (-1)))) (Bx D A (fun u : Unit => [])) A) args s ((Rm 0 0 0 0)).cells ((Rm 0 0 0 0)).slots A) (H : Heap) (locs : List Loc) (ls : Array Slot) (hP : va_P D vwCl [] H) (hD : va_D A []) (hS : va_S A s.heap H locs) (hl : lv_has ls 1 [(0, .int v)]) : W p l e (Rm 0 0 0 0) s m args below meth c H locs cells slots Q (F0 m 0 ls []) := by
  have hx := C.1
  have hb := C.2.1
  have hqv := o_rng v
  refine lv_iload_n hx hb dX11_isDigit_0 rfl (lv_at hl 0 rfl) ?_
  refine lv_bipush (v := 48) hx hb dX11_isDigit_1 (by decide) ?_
  refine lv_icmp_lt (tgt := 16) hx hb dX11_isDigit_3 (by decide) (fun c_1 => ?_) (fun c_1 => ?_)
  · have hc_1 := o_lt (rfl : v.toInt = v.toInt) (by decide : (48 : Int32).toInt = 48) c_1
    refine lv_iconst (v := 0) hx hb dX11_isDigit_16 (by decide) ?_
    refine o_wq hQ ?_
    exact q_iret (rm := (Rm 0 0 0 0)) C hS () rfl ⟨(show 0 ≤ (0 : Int32).toInt ∧ (0 : Int32).toInt ≤ 1 by decide), (show (0 ≤ (0 : Int32).toInt + (-1)) → (0 ≤ v.toInt + (-48) ∧ 0 ≤ (-1) * v.toInt + 57) by have e0 : (0 : Int32).toInt = 0 := (by decide); omega), (show (0 ≤ v.toInt + (-48) ∧ 0 ≤ (-1) * v.toInt + 57) → (0 ≤ (0 : Int32).toInt + (-1)) by have e0 : (0 : Int32).toInt = 0 := (by decide); omega)⟩ (q_subP hP [] rfl) (hD.sub [] (by decide) rfl) hroom.1 hroom.2 dX11_isDigit_17
  · have hc_1 := o_nlt (rfl : v.toInt = v.toInt) (by decide : (48 : Int32).toInt = 48) c_1
    refine lv_iload_n hx hb dX11_isDigit_6 rfl (lv_at hl 0 rfl) ?_
    refine lv_bipush (v := 57) hx hb dX11_isDigit_7 (by decide) ?_
    refine lv_icmp_gt (tgt := 16) hx hb dX11_isDigit_9 (by decide) (fun c_2 => ?_) (fun c_2 => ?_)
    · have hc_2 := o_lt (by decide : (57 : Int32).toInt = 57) (rfl : v.toInt = v.toInt) c_2
      refine lv_iconst (v := 0) hx hb dX11_isDigit_16 (by decide) ?_
      refine o_wq hQ ?_
      exact q_iret (rm := (Rm 0 0 0 0)) C hS () rfl ⟨(show 0 ≤ (0 : Int32).toInt ∧ (0 : Int32).toInt ≤ 1 by decide), (show (0 ≤ (0 : Int32).toInt + (-1)) → (0 ≤ v.toInt + (-48) ∧ 0 ≤ (-1) * v.toInt + 57) by have e0 : (0 : Int32).toInt = 0 := (by decide); omega), (show (0 ≤ v.toInt + (-48) ∧ 0 ≤ (-1) * v.toInt + 57) → (0 ≤ (0 : Int32).toInt + (-1)) by have e0 : (0 : Int32).toInt = 0 := (by decide); omega)⟩ (q_subP hP [] rfl) (hD.sub [] (by decide) rfl) hroom.1 hroom.2 dX11_isDigit_17
    · have hc_2 := o_nlt (by decide : (57 : Int32).toInt = 57) (rfl : v.toInt = v.toInt) c_2
      refine lv_iconst (v := 1) hx hb dX11_isDigit_12 (by decide) ?_
      refine lv_goto (tgt := 17) hx hb dX11_isDigit_13 (by decide) ?_
      refine o_wq hQ ?_
      exact q_iret (rm := (Rm 0 0 0 0)) C hS () rfl ⟨(show 0 ≤ (1 : Int32).toInt ∧ (1 : Int32).toInt ≤ 1 by decide), (show (0 ≤ (1 : Int32).toInt + (-1)) → (0 ≤ v.toInt + (-48) ∧ 0 ≤ (-1) * v.toInt + 57) by have e0 : (1 : Int32).toInt = 1 := (by decide); omega), (show (0 ≤ v.toInt + (-48) ∧ 0 ≤ (-1) * v.toInt + 57) → (0 ≤ (1 : Int32).toInt + (-1)) by have e0 : (1 : Int32).toInt = 1 := (by decide); omega)⟩ (q_subP hP [] rfl) (hD.sub [] (by decide) rfl) hroom.1 hroom.2 dX11_isDigit_17
theorem y_isDigit (l : Launch) (D : va_G) (cy : Nat → ClassId) (v : Int32) (sz : Nat)  : MI l yX11_isDigit cX11_isDigit 1 (some .boolean) (Rm 0 0 0 0) D cy [.int v] sz [] (fun (r : Int32) (u : Unit) => (0 ≤ r.toInt ∧ r.toInt ≤ 1) ∧ ((0 ≤ r.toInt + (-1)) → (0 ≤ v.toInt + (-48) ∧ 0 ≤ (-1) * v.toInt + 57)) ∧ ((0 ≤ v.toInt + (-48) ∧ 0 ≤ (-1) * v.toInt + 57) → (0 ≤ r.toInt + (-1)))) (fun u : Unit => []) := by
  refine MI.enter (by decide) (Nat.le_of_ble_eq_true rfl) ?_
  intro p e s m below meth c ls A hsz hAe C hP hD hS hl
  exact b_y_isDigit l D cy v  ⟨Nat.le_of_ble_eq_true rfl, Nat.le_of_ble_eq_true rfl⟩ C rfl _ _ ls hP hD hS hl
