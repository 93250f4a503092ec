theorem dX11_lesser_0 : decode cX11_lesser 0 = .ok (.iload_n 0, 1) := by decide +kernel
theorem dX11_lesser_1 : decode cX11_lesser 1 = .ok (.iload_n 1, 1) := by decide +kernel
theorem dX11_lesser_2 : decode cX11_lesser 2 = .ok (.if_icmp .ge 7, 3) := by decide +kernel
theorem dX11_lesser_9 : decode cX11_lesser 9 = .ok (.iload_n 1, 1) := by decide +kernel
theorem dX11_lesser_10 : decode cX11_lesser 10 = .ok (.ireturn, 1) := by decide +kernel
theorem dX11_lesser_5 : decode cX11_lesser 5 = .ok (.iload_n 0, 1) := by decide +kernel
theorem dX11_lesser_6 : decode cX11_lesser 6 = .ok (.goto 4, 3) := by decide +kernel
set_option maxHeartbeats 4000000 in
set_option maxRecDepth 100000 in
theorem b_y_lesser (l : Launch) (D : va_G) (cy : Nat → ClassId) (v : Int32) (w : Int32)  {p : Program} {e : Env} {s : State} {m : MethodId} {args : Array Value} {below : List Frame} {meth : Method} {c : Code} {A : Nat → Prop} {Q : State → Prop} {cells slots : Nat} (hroom : cells ≤ ((Rm 0 0 0 0)).cells ∧ slots ≤ ((Rm 0 0 0 0)).slots) (C : Cx p s m args meth c cX11_lesser 2 (some .int) RX11 "lesser" D cy A) (hQ : Q = MQ below (va_Qi (fun (r : Int32) (u : Unit) => (0 ≤ v.toInt + (-1) * r.toInt ∧ 0 ≤ w.toInt + (-1) * r.toInt) ∧ ((r.toInt = v.toInt ∧ v.toInt ≤ w.toInt) ∨ (r.toInt = w.toInt ∧ w.toInt ≤ v.toInt)) ∧ ((0 ≤ v.toInt ∧ 0 ≤ w.toInt) → (0 ≤ r.toInt))) (Bx D A (fun u : Unit => [])) A) args s ((Rm 0 0 0 0)).cells ((Rm 0 0 0 0)).slots A) (H : Heap) (locs : List Loc) (ls : Array Slot) (hP : va_P D vwCl [] H) (hD : va_D A []) (hS : va_S A s.heap H locs) (hl : lv_has ls 2 [(0, .int v), (1, .int w)]) : W p l e (Rm 0 0 0 0) s m args below meth c H locs cells slots Q (F0 m 0 ls []) := by
  have hx := C.1
  have hb := C.2.1
  have hqv := o_rng v
  have hqw := o_rng w
  refine lv_iload_n hx hb dX11_lesser_0 rfl (lv_at hl 0 rfl) ?_
  refine lv_iload_n hx hb dX11_lesser_1 rfl (lv_at hl 1 rfl) ?_
  refine lv_icmp_ge (tgt := 9) hx hb dX11_lesser_2 (by decide) (fun c_1 => ?_) (fun c_1 => ?_)
  · have hc_1 := o_le (rfl : w.toInt = w.toInt) (rfl : v.toInt = v.toInt) c_1
    refine lv_iload_n hx hb dX11_lesser_9 rfl (lv_at hl 1 rfl) ?_
    refine o_wq hQ ?_
    exact q_iret (rm := (Rm 0 0 0 0)) C hS () rfl ⟨(show 0 ≤ v.toInt + (-1) * w.toInt ∧ 0 ≤ w.toInt + (-1) * w.toInt by omega), (show (w.toInt = v.toInt ∧ v.toInt ≤ w.toInt) ∨ (w.toInt = w.toInt ∧ w.toInt ≤ v.toInt) from (by omega)), (show (0 ≤ v.toInt ∧ 0 ≤ w.toInt) → (0 ≤ w.toInt) by omega)⟩ (q_subP hP [] rfl) (hD.sub [] (by decide) rfl) hroom.1 hroom.2 dX11_lesser_10
  · have hc_1 := o_nle (rfl : w.toInt = w.toInt) (rfl : v.toInt = v.toInt) c_1
    refine lv_iload_n hx hb dX11_lesser_5 rfl (lv_at hl 0 rfl) ?_
    refine lv_goto (tgt := 10) hx hb dX11_lesser_6 (by decide) ?_
    refine o_wq hQ ?_
    exact q_iret (rm := (Rm 0 0 0 0)) C hS () rfl ⟨(show 0 ≤ v.toInt + (-1) * v.toInt ∧ 0 ≤ w.toInt + (-1) * v.toInt by omega), (show (v.toInt = v.toInt ∧ v.toInt ≤ w.toInt) ∨ (v.toInt = w.toInt ∧ w.toInt ≤ v.toInt) from (by omega)), (show (0 ≤ v.toInt ∧ 0 ≤ w.toInt) → (0 ≤ v.toInt) by omega)⟩ (q_subP hP [] rfl) (hD.sub [] (by decide) rfl) hroom.1 hroom.2 dX11_lesser_10
theorem y_lesser (l : Launch) (D : va_G) (cy : Nat → ClassId) (v : Int32) (w : Int32) (sz : Nat)  : MI l yX11_lesser cX11_lesser 2 (some .int) (Rm 0 0 0 0) D cy [.int v, .int w] sz [] (fun (r : Int32) (u : Unit) => (0 ≤ v.toInt + (-1) * r.toInt ∧ 0 ≤ w.toInt + (-1) * r.toInt) ∧ ((r.toInt = v.toInt ∧ v.toInt ≤ w.toInt) ∨ (r.toInt = w.toInt ∧ w.toInt ≤ v.toInt)) ∧ ((0 ≤ v.toInt ∧ 0 ≤ w.toInt) → (0 ≤ r.toInt))) (fun u : Unit => []) := by
  refine MI.enter (by decide) (Nat.le_of_ble_eq_true rfl) ?_
  intro p e s m below meth c ls A hsz hAe C hP hD hS hl
  exact b_y_lesser l D cy v w  ⟨Nat.le_of_ble_eq_true rfl, Nat.le_of_ble_eq_true rfl⟩ C rfl _ _ ls hP hD hS hl
