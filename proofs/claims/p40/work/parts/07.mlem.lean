/-! the model: bits, bytes, the rows of its state -/
theorem o_or {x y z : Int32} {a b : Int} (n : Nat) (m : Int) (hz : z = x ||| y) (hx : x.toInt = a) (hy : y.toInt = b) (h1 : 0 ≤ a) (h2 : a < m) (h3 : 0 ≤ b) (h4 : b < m) (hm : ((2 ^ n : Nat) : Int) = m) (hn : n ≤ 30) : 0 ≤ z.toInt ∧ z.toInt ≤ m - 1 := by
  subst hz; subst hx; subst hy; subst hm
  have e1 := o_pos h1
  have e2 := o_pos h3
  have h : (x ||| y).toBitVec.toNat = x.toBitVec.toNat ||| y.toBitVec.toNat := BitVec.toNat_or ..
  have l : x.toBitVec.toNat ||| y.toBitVec.toNat < 2 ^ n := Nat.or_lt_two_pow (by omega) (by omega)
  have l2 : 2 ^ n ≤ 2 ^ 30 := Nat.pow_le_pow_right (by decide) hn
  have h9 := o_small (z := x ||| y) h (by omega)
  omega
theorem o_shl1 {y z : Int32} {b : Int} (hz : z = (1 : Int32) <<< (y &&& 31)) (hy : y.toInt = b) (h0 : 0 ≤ b) (h1 : b ≤ 7) : 1 ≤ z.toInt ∧ z.toInt ≤ 128 := by
  obtain ⟨j, hj, eb, rfl⟩ := o_nat hy h0
  subst hz
  have h2 : j < 8 := by omega
  clear hj eb hy h0 h1
  revert j; decide +kernel
def pk (f : Nat → Int32) (p n : Int32) : Int32 := if p.toInt < n.toInt then f p.toNatClampNeg &&& 255 else -1
theorem pk_no {f : Nat → Int32} {p n : Int32} (h : n.toInt ≤ p.toInt) : (-1 : Int32) = pk f p n := by
  unfold pk; rw [if_neg (by omega)]
theorem pk_yes {f : Nat → Int32} {p n z v : Int32} (h : p.toInt < n.toInt) (_h0 : 0 ≤ p.toInt) (ez : z = f p.toNatClampNeg) (ev : v = z &&& 255) : v = pk f p n := by
  unfold pk; rw [if_pos h, ← ez]; exact ev
/-- how many bits of a byte are set -/
def bc (n : Int) : Int := n % 2 + n / 2 % 2 + n / 4 % 2 + n / 8 % 2 + n / 16 % 2 + n / 32 % 2 + n / 64 % 2 + n / 128 % 2
theorem bc_b (n : Int) : 0 ≤ bc n ∧ bc n ≤ 8 := by unfold bc; omega
theorem bcP : ∀ n : Nat, n < 256 → 0 < n → 1 ≤ bc (n : Int) := by decide +kernel
theorem bc_p {n : Int} (h : 0 < n) (h2 : n ≤ 255) : 1 ≤ bc n := by
  have e : ((n.toNat : Nat) : Int) = n := by omega
  rw [← e]; exact bcP n.toNat (by omega) (by omega)
theorem bcN : ∀ n : Nat, n < 256 → 0 < n → bc ((n &&& (n - 1) : Nat) : Int) = bc (n : Int) - 1 := by decide +kernel
theorem bcO : ∀ n : Nat, n < 256 → ∀ j : Nat, j < 8 → bc ((n ||| 2 ^ j : Nat) : Int) ≤ bc (n : Int) + 1 := by decide +kernel
theorem bits_step {x y z n n' : Int32} {b : Int} (hT : n.toInt + bc x.toInt = b) (hy : y.toInt = x.toInt - 1) (hz : z = x &&& y) (h1 : 0 < x.toInt) (h2 : x.toInt ≤ 255) (hn : n'.toInt = n.toInt + 1) : n'.toInt + bc z.toInt = b := by
  have e1 := o_pos (y := x) (by omega)
  have e2 := o_pos (y := y) (by omega)
  have h : z.toBitVec.toNat = x.toBitVec.toNat &&& y.toBitVec.toNat := by rw [hz]; exact BitVec.toNat_and ..
  have e3 : y.toBitVec.toNat = x.toBitVec.toNat - 1 := by omega
  rw [e3] at h
  have l := Nat.and_le_left (n := x.toBitVec.toNat) (m := x.toBitVec.toNat - 1)
  have h9 := o_small h (by omega)
  have hb := bcN x.toBitVec.toNat (by omega) (by omega)
  rw [h9, hb, e1]; omega
theorem bits_lim {n x : Int32} {w : Int} (hT : n.toInt + bc x.toInt = bc w) (h1 : 0 < x.toInt) (h2 : x.toInt ≤ 255) : n.toInt ≤ 7 := by
  have := bc_b w
  have := bc_p h1 h2
  omega
theorem bits_end {n x : Int32} {w : Int} (hT : n.toInt + bc x.toInt = bc w) (h1 : x.toInt = 0) : n.toInt = bc w := by
  rw [h1] at hT
  have : bc 0 = 0 := by decide
  omega
/-- at most three rare ones -/
def Pb (f : Nat → Int32) : Prop := bc (f 103).toInt ≤ 3
theorem Pb.put {f : Nat → Int32} {k : Nat} {v : Int32} (h : Pb f) (hk : k ≠ 103) : Pb (upd f k v) := by
  have e : 103 ≠ k := fun q => hk q.symm
  unfold Pb; simp only [upd, if_neg e]; exact h
theorem Pb.set {f : Nat → Int32} {x w y v r : Int32} (h : Pb f) (ex : x = f 103) (hr : r.toInt = bc x.toInt) (hne : r.toInt ≠ 3) (hx0 : 0 ≤ x.toInt) (hx1 : x.toInt ≤ 255) (ew : w = (1 : Int32) <<< (y &&& 31)) (hy0 : 0 ≤ y.toInt) (hy1 : y.toInt ≤ 7) (ev : v = x ||| w) : Pb (upd f 103 v) := by
  have e1 := o_pos hx0
  obtain ⟨j, hj, eb, rfl⟩ := o_nat (x := y) rfl hy0
  have h2 : j < 8 := by omega
  have hw : w.toBitVec.toNat = 2 ^ j := by
    rw [ew]; clear hj eb hy0 hy1 ew; revert j; decide +kernel
  have h3 : v.toBitVec.toNat = x.toBitVec.toNat ||| 2 ^ j := by
    rw [ev, ← hw]; exact BitVec.toNat_or ..
  have l : x.toBitVec.toNat ||| 2 ^ j < 2 ^ 8 := Nat.or_lt_two_pow (by omega) (Nat.pow_lt_pow_right (by decide) h2)
  have h9 := o_small h3 (by omega)
  have hb := bcO x.toBitVec.toNat (by omega) j h2
  unfold Pb at h ⊢
  simp only [upd, if_pos]
  rw [← ex] at h
  rw [h9]
  rw [e1] at hb
  omega
theorem Pb.like {f g : Nat → Int32} (h : Pb f) (e : g 103 = f 103) : Pb g := by unfold Pb; rw [e]; exact h
theorem Rg.one {f : Nat → Int32} {v : Int32} {a : Nat} {lo hi : Int} (e : v = f a) (h1 : lo ≤ v.toInt) (h2 : v.toInt ≤ hi) : Rg f a (a + 1) lo hi := by
  intro k h3 h4
  have ek : k = a := by omega
  subst ek; rw [← e]; exact ⟨h1, h2⟩
theorem Rg.fresh {f : Nat → Int32} {k : Nat} {v : Int32} {lo hi : Int} (h1 : lo ≤ v.toInt) (h2 : v.toInt ≤ hi) : Rg (upd f k v) k (k + 1) lo hi := by
  intro j h3 h4
  have e : j = k := by omega
  subst e; simp only [upd, if_pos]; exact ⟨h1, h2⟩
theorem Pb.zero {f : Nat → Int32} {k : Nat} (h : Pb f) : Pb (upd f k 0) := by
  by_cases e : k = 103
  · subst e; unfold Pb; simp only [upd, if_pos]; decide
  · exact h.put e
/-! a sentence as codes: what stands on the stack ahead of each of them -/
def dl (w : Int) : Int := if w = 20 then 0 else if w = 21 ∨ w = 22 then -1 else 1
def dp (f : Nat → Int32) (b : Nat) : Nat → Int
  | 0 => 0
  | i + 1 => dp f b i + dl (f (b + 3 * i)).toInt
def PQ (f : Nat → Int32) (b : Nat) (n : Int) : Prop := ∀ i : Nat, (i : Int) < n → dp f b i ≤ 40 ∧ ((f (b + 3 * i)).toInt = 20 → 1 ≤ dp f b i) ∧ ((f (b + 3 * i)).toInt = 21 ∨ (f (b + 3 * i)).toInt = 22 → 2 ≤ dp f b i) ∧ 0 ≤ dp f b i
def PF (f : Nat → Int32) : Prop := 0 ≤ (f 202).toInt ∧ (f 202).toInt ≤ 40 ∧ PQ f 203 (f 202).toInt
theorem dp_like {f g : Nat → Int32} {b c : Nat} : ∀ n : Nat, (∀ i : Nat, i < n → g (c + 3 * i) = f (b + 3 * i)) → dp g c n = dp f b n := by
  intro n
  induction n with
  | zero => intro _; rfl
  | succ n ih => intro h; unfold dp; rw [ih (fun i hi => h i (by omega)), h n (by omega)]
theorem PQ.like {f g : Nat → Int32} {b c : Nat} {n : Int} (h : PQ f b n) (e : ∀ i : Nat, (i : Int) < n → g (c + 3 * i) = f (b + 3 * i)) : PQ g c n := by
  intro i hi
  have e1 : dp g c i = dp f b i := dp_like i (fun j hj => e j (by omega))
  rw [e1, e i hi]; exact h i hi
def Sv (f : Nat → Int32) : Prop := Pb f ∧ PF f
theorem Sv.like {f g : Nat → Int32} (h : Sv f) (e1 : g 103 = f 103) (e2 : ∀ k : Nat, 202 ≤ k → k < 383 → g k = f k) : Sv g := by
  refine ⟨h.1.like e1, ?_⟩
  obtain ⟨h1, h2, h3⟩ := h.2
  have e3 := e2 202 (by decide) (by decide)
  refine ⟨by rw [e3]; exact h1, by rw [e3]; exact h2, ?_⟩
  rw [e3]
  exact h3.like (fun i hi => e2 _ (by omega) (by omega))
theorem Sv.put {f : Nat → Int32} {k : Nat} {v : Int32} (h : Sv f) (hk : 104 ≤ k ∧ k ≤ 201) : Sv (upd f k v) := by
  refine h.like ?_ (fun j h1 h2 => ?_)
  · have e : 103 ≠ k := by omega
    simp only [upd, if_neg e]
  · have e : j ≠ k := by omega
    simp only [upd, if_neg e]
def Lb (f h : Nat → Int32) (n : Int) : Prop := (103 < n → f 103 = h 103) ∧ (202 < n → f 202 = 0)
theorem Lb.zero {f h : Nat → Int32} {n : Int} (e : n ≤ 0) : Lb f h n := ⟨fun q => absurd q (by omega), fun q => absurd q (by omega)⟩
theorem Lb.cast {f h : Nat → Int32} {n m : Int} (q : Lb f h n) (e : m = n) : Lb f h m := e ▸ q
theorem Lb.stepA {f h : Nat → Int32} {k v : Int32} (q : Lb f h k.toInt) (ev : v = h k.toNatClampNeg) (h0 : 0 ≤ k.toInt) (h1 : k.toInt < 104) : Lb (upd f k.toNatClampNeg v) h (k.toInt + 1) := by
  have hc := o_cl (x := k) rfl h0
  refine ⟨fun z => ?_, fun z => absurd z (by omega)⟩
  by_cases e : 103 = k.toNatClampNeg
  · rw [← e] at ev ⊢; simp only [upd, if_pos]; exact ev
  · simp only [upd, if_neg e]; exact q.1 (by omega)
theorem Lb.stepB {f h : Nat → Int32} {k : Int32} (q : Lb f h k.toInt) (h0 : 104 ≤ k.toInt) : Lb (upd f k.toNatClampNeg 0) h (k.toInt + 1) := by
  have hc := o_cl (x := k) rfl (by omega)
  refine ⟨fun _ => ?_, fun z => ?_⟩
  · have e : 103 ≠ k.toNatClampNeg := by omega
    simp only [upd, if_neg e]; exact q.1 (by omega)
  · by_cases e : 202 = k.toNatClampNeg
    · rw [← e]; simp only [upd, if_pos]
    · simp only [upd, if_neg e]; exact q.2 (by omega)
theorem Sv.of_lib {f h : Nat → Int32} {n : Int} (q : Lb f h n) (hn : 383 ≤ n) (hb : Pb h) : Sv f := by
  have e := q.2 (by omega)
  refine ⟨hb.like (q.1 (by omega)), ?_⟩
  have e0 : (f 202).toInt = 0 := by rw [e]; decide
  exact ⟨by omega, by omega, fun i hi => absurd hi (by omega)⟩
theorem o_divv {x y z : Int32} {a b : Int} (hz : z = x / y) (hx : x.toInt = a) (hy : y.toInt = b) (h1 : 0 ≤ a) (h2 : 1 ≤ b) : 0 ≤ z.toInt ∧ z.toInt ≤ a := by
  have h := o_div hz hx hy h1 (by omega)
  have h3 : 0 ≤ a / b := Int.ediv_nonneg h1 (by omega)
  have h4 : a / b ≤ a := Int.ediv_le_self b h1
  omega
theorem o_mulv {x y z : Int32} {a b : Int} (A B : Int) (hz : z = x * y) (hx : x.toInt = a) (hy : y.toInt = b) (h1 : 0 ≤ a) (h2 : a ≤ A) (h3 : 0 ≤ b) (h4 : b ≤ B) (h5 : A * B < 2147483648) : 0 ≤ z.toInt ∧ z.toInt ≤ A * B := by
  have h6 : 0 ≤ a * b := Int.mul_nonneg h1 h3
  have h7 : a * b ≤ A * B := Int.mul_le_mul h2 h4 h3 (Int.le_trans h1 h2)
  have h := o_mul hz hx hy (by omega) (by omega)
  omega
def Rp (f : Nat → Int32) : Prop := ∀ k : Nat, k < 784 → 2 ≤ k % 98 → k % 98 ≤ 17 → 0 ≤ (f k).toInt ∧ (f k).toInt ≤ 5
theorem Rp.put {f : Nat → Int32} {k : Nat} {v : Int32} (h : Rp f) (hv : k < 784 → 2 ≤ k % 98 → k % 98 ≤ 17 → 0 ≤ v.toInt ∧ v.toInt ≤ 5) : Rp (upd f k v) := by
  intro j h1 h2 h3
  by_cases e : j = k
  · subst e; simp only [upd, if_pos]; exact hv h1 h2 h3
  · simp only [upd, if_neg e]; exact h j h1 h2 h3
def Rw (f : Nat → Int32) : Prop := ∀ k : Nat, k < 784 → 18 ≤ k % 98 → k % 98 ≤ 25 → 0 ≤ (f k).toInt ∧ (f k).toInt ≤ 99
theorem Rw.put {f : Nat → Int32} {k : Nat} {v : Int32} (h : Rw f) (hv : k < 784 → 18 ≤ k % 98 → k % 98 ≤ 25 → 0 ≤ v.toInt ∧ v.toInt ≤ 99) : Rw (upd f k v) := by
  intro j h1 h2 h3
  by_cases e : j = k
  · subst e; simp only [upd, if_pos]; exact hv h1 h2 h3
  · simp only [upd, if_neg e]; exact h j h1 h2 h3
