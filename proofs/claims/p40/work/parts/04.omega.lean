/-! ints by their linear facts -/
theorem o_rng (x : Int32) : -2147483648 ≤ x.toInt ∧ x.toInt < 2147483648 := ⟨Int32.le_toInt x, Int32.toInt_lt x⟩
theorem o_bm {z : Int} (h1 : -2147483648 ≤ z) (h2 : z < 2147483648) : z.bmod (2 ^ 32) = z := by
  rw [Int.bmod_def]; split <;> omega
theorem o_add {x y z : Int32} {a b : Int} (hz : z = x + y) (hx : x.toInt = a) (hy : y.toInt = b) (h1 : -2147483648 ≤ a + b) (h2 : a + b < 2147483648) : z.toInt = a + b := by
  subst hz; subst hx; subst hy
  rw [Int32.toInt_add]; exact o_bm h1 h2
theorem o_sub {x y z : Int32} {a b : Int} (hz : z = x - y) (hx : x.toInt = a) (hy : y.toInt = b) (h1 : -2147483648 ≤ a - b) (h2 : a - b < 2147483648) : z.toInt = a - b := by
  subst hz; subst hx; subst hy
  rw [Int32.toInt_sub]; exact o_bm h1 h2
theorem o_mul {x y z : Int32} {a b : Int} (hz : z = x * y) (hx : x.toInt = a) (hy : y.toInt = b) (h1 : -2147483648 ≤ a * b) (h2 : a * b < 2147483648) : z.toInt = a * b := by
  subst hz; subst hx; subst hy
  rw [Int32.toInt_mul]; exact o_bm h1 h2
theorem o_lt {x y : Int32} {a b : Int} (hx : x.toInt = a) (hy : y.toInt = b) (c : x < y) : a < b := by subst hx; subst hy; exact Int32.lt_iff_toInt_lt.mp c
theorem o_nlt {x y : Int32} {a b : Int} (hx : x.toInt = a) (hy : y.toInt = b) (c : ¬ x < y) : b ≤ a := by subst hx; subst hy; exact Int.not_lt.mp (fun h => c (Int32.lt_iff_toInt_lt.mpr h))
theorem o_le {x y : Int32} {a b : Int} (hx : x.toInt = a) (hy : y.toInt = b) (c : x ≤ y) : a ≤ b := by subst hx; subst hy; exact Int32.le_iff_toInt_le.mp c
theorem o_nle {x y : Int32} {a b : Int} (hx : x.toInt = a) (hy : y.toInt = b) (c : ¬ x ≤ y) : b < a := by subst hx; subst hy; exact Int.not_le.mp (fun h => c (Int32.le_iff_toInt_le.mpr h))
theorem o_eq {x y : Int32} {a b : Int} (hx : x.toInt = a) (hy : y.toInt = b) (c : x = y) : a = b := by subst hx; subst hy; rw [c]
theorem o_ne {x y : Int32} {a b : Int} (hx : x.toInt = a) (hy : y.toInt = b) (c : ¬ x = y) : a ≠ b := by subst hx; subst hy; exact fun h => c (Int32.toInt_inj.mp h)
theorem o_mlt {x y : Int32} {a b : Int} (hx : x.toInt = a) (hy : y.toInt = b) (c : a < b) : x < y := by subst hx; subst hy; exact Int32.lt_iff_toInt_lt.mpr c
theorem o_mnlt {x y : Int32} {a b : Int} (hx : x.toInt = a) (hy : y.toInt = b) (c : b ≤ a) : ¬ x < y := fun h => absurd (o_lt hx hy h) (Int.not_lt.mpr c)
theorem o_mle {x y : Int32} {a b : Int} (hx : x.toInt = a) (hy : y.toInt = b) (c : a ≤ b) : x ≤ y := by subst hx; subst hy; exact Int32.le_iff_toInt_le.mpr c
theorem o_mnle {x y : Int32} {a b : Int} (hx : x.toInt = a) (hy : y.toInt = b) (c : b < a) : ¬ x ≤ y := fun h => absurd (o_le hx hy h) (Int.not_le.mpr c)
theorem o_meq {x y : Int32} {a b : Int} (hx : x.toInt = a) (hy : y.toInt = b) (c : a = b) : x = y := by subst hx; subst hy; exact Int32.toInt_inj.mp c
theorem o_mne {x y : Int32} {a b : Int} (hx : x.toInt = a) (hy : y.toInt = b) (c : a ≠ b) : ¬ x = y := fun h => c (o_eq hx hy h)
theorem o_in {x : Int32} {n : Nat} {a : Int} (hx : x.toInt = a) (h0 : 0 ≤ a) (h1 : a < n) : vp_in x n := vp_in_iff.mpr (by subst hx; exact ⟨h0, h1⟩)
theorem o_cl {x : Int32} {a : Int} (hx : x.toInt = a) (h0 : 0 ≤ a) : ((x.toNatClampNeg : Nat) : Int) = a := by
  subst hx
  have h : x.toNatClampNeg = x.toInt.toNat := rfl
  rw [h]; omega
/-- a stretch of a row lies between two numbers -/
def Rg (f : Nat → Int32) (a b : Nat) (lo hi : Int) : Prop := ∀ k : Nat, a ≤ k → k < b → lo ≤ (f k).toInt ∧ (f k).toInt ≤ hi
theorem upd_self (f : Nat → Int32) (k : Nat) (v : Int32) : upd f k v k = v := by simp [upd]
theorem Rg.upd_in {f : Nat → Int32} {a b k : Nat} {lo hi : Int} {v : Int32} (h : Rg f a b lo hi) (h1 : lo ≤ v.toInt) (h2 : v.toInt ≤ hi) : Rg (upd f k v) a b lo hi := by
  intro j hj1 hj2
  by_cases e : j = k
  · subst e; simp only [upd, if_pos]; exact ⟨h1, h2⟩
  · simp only [upd, if_neg e]; exact h j hj1 hj2
theorem Rg.upd_out {f : Nat → Int32} {a b k : Nat} {lo hi : Int} {v : Int32} (h : Rg f a b lo hi) (hk : k < a ∨ b ≤ k) : Rg (upd f k v) a b lo hi := by
  intro j hj1 hj2
  have e : j ≠ k := by omega
  simp only [upd, if_neg e]; exact h j hj1 hj2
theorem Rg.at {f : Nat → Int32} {a b : Nat} {lo hi : Int} {z x : Int32} (h : Rg f a b lo hi) (hz : z = f x.toNatClampNeg) (h1 : a ≤ x.toNatClampNeg) (h2 : x.toNatClampNeg < b) : lo ≤ z.toInt ∧ z.toInt ≤ hi := by subst hz; exact h _ h1 h2
theorem Rg.weak {f : Nat → Int32} {a b a' b' : Nat} {lo hi lo' hi' : Int} (h : Rg f a b lo hi) (h1 : a ≤ a') (h2 : b' ≤ b) (h3 : lo' ≤ lo) (h4 : hi ≤ hi') : Rg f a' b' lo' hi' := fun k hk1 hk2 => by
  have := h k (Nat.le_trans h1 hk1) (Nat.lt_of_lt_of_le hk2 h2)
  exact ⟨Int.le_trans h3 this.1, Int.le_trans this.2 h4⟩
theorem Rg.zero {a b : Nat} {lo hi : Int} (h1 : lo ≤ 0) (h2 : 0 ≤ hi) : Rg (fun _ => 0) a b lo hi := fun _ _ _ => ⟨h1, h2⟩
theorem Rg.cpy {f g : Nat → Int32} {a b sp dp n : Nat} {lo hi : Int} (hf : Rg f sp (sp + n) lo hi) (hg : Rg g a b lo hi) : Rg (va_cpy f g sp dp n) a b lo hi := by
  intro k h1 h2
  by_cases e : dp ≤ k ∧ k < dp + n
  · simp only [va_cpy, if_pos e]; exact hf _ (by omega) (by omega)
  · simp only [va_cpy, if_neg e]; exact hg k h1 h2
theorem o_bool {v : Int32} {a : Int} (hv : v.toInt = a) (h1 : 0 ≤ a) (h2 : a ≤ 1) : narrow .boolean (.int v) = .int v ∧ fits .boolean (.int v) = true := by
  have h : v = 0 ∨ v = 1 := by
    rcases (show a = 0 ∨ a = 1 by omega) with e | e
    · exact Or.inl (o_meq (b := 0) hv (by decide) e)
    · exact Or.inr (o_meq (b := 1) hv (by decide) e)
  rcases h with rfl | rfl <;> exact ⟨rfl, rfl⟩
theorem o_min {x y z : Int32} {a b : Int} (hz : z = if y < x then y else x) (hx : x.toInt = a) (hy : y.toInt = b) : (z.toInt = a ∧ a ≤ b) ∨ (z.toInt = b ∧ b ≤ a) := by
  subst hz
  by_cases h : y < x
  · rw [if_pos h]; exact Or.inr ⟨hy, Int.le_of_lt (o_lt hy hx h)⟩
  · rw [if_neg h]; exact Or.inl ⟨hx, o_nlt hy hx h⟩
theorem o_max {x y z : Int32} {a b : Int} (hz : z = if x < y then y else x) (hx : x.toInt = a) (hy : y.toInt = b) : (z.toInt = a ∧ b ≤ a) ∨ (z.toInt = b ∧ a ≤ b) := by
  subst hz
  by_cases h : x < y
  · rw [if_pos h]; exact Or.inr ⟨hy, Int.le_of_lt (o_lt hx hy h)⟩
  · rw [if_neg h]; exact Or.inl ⟨hx, o_nlt hx hy h⟩
theorem o_nat {x : Int32} {a : Int} (hx : x.toInt = a) (h : 0 ≤ a) : ∃ j : Nat, j < 2 ^ 31 ∧ a = (j : Int) ∧ x = nI j := by
  obtain ⟨j, h3, h4, e⟩ := nat_of (x := x) (a := 0) (b := 2147483647) (by omega) (by have := o_rng x; omega) (by decide) (by decide)
  subst e
  have hj : j < 2 ^ 31 := by omega
  exact ⟨j, hj, by rw [← hx, nI_toInt hj], rfl⟩
theorem o_div {x y z : Int32} {a b : Int} (hz : z = x / y) (hx : x.toInt = a) (hy : y.toInt = b) (h1 : 0 ≤ a) (h2 : 0 < b) : z.toInt = a / b := by
  obtain ⟨j, hj, ea, rfl⟩ := o_nat hx h1
  obtain ⟨k, hk, eb, rfl⟩ := o_nat hy (Int.le_of_lt h2)
  subst hz; subst ea; subst eb
  rw [pk_div hj (by omega) hk, nI_toInt (Nat.lt_of_le_of_lt (Nat.div_le_self j k) hj)]
  exact Int.natCast_ediv j k
theorem o_rem {x y z : Int32} {a b : Int} (hz : z = x - x / y * y) (hx : x.toInt = a) (hy : y.toInt = b) (h1 : 0 ≤ a) (h2 : 0 < b) : 0 ≤ z.toInt ∧ z.toInt < b ∧ z.toInt ≤ a := by
  obtain ⟨j, hj, ea, rfl⟩ := o_nat hx h1
  obtain ⟨k, hk, eb, rfl⟩ := o_nat hy (Int.le_of_lt h2)
  subst hz; subst ea; subst eb
  have hm := Nat.mod_le j k
  have hl := Nat.mod_lt j (show k > 0 by omega)
  rw [pk_rem hj (by omega) hk, nI_toInt (Nat.lt_of_le_of_lt hm hj)]
  exact ⟨by omega, by omega, by omega⟩
theorem o_small {z : Int32} {n : Nat} (h : z.toBitVec.toNat = n) (hn : n < 2147483648) : z.toInt = (n : Int) := by
  have h1 : z.toInt = z.toBitVec.toInt := rfl
  rw [h1, BitVec.toInt_eq_toNat_cond, h]
  rw [if_pos (by omega)]
theorem o_ushr {x y z : Int32} (k : Nat) (n : Int) (hz : z = (x.toUInt32 >>> (y.toUInt32 &&& Int32.toUInt32 31)).toInt32) (hk : ((y.toUInt32 &&& Int32.toUInt32 31).toBitVec % 32).toNat = k) (h1 : 1 ≤ k ∧ k ≤ 31 ∧ ((2 ^ (32 - k) - 1 : Nat) : Int) = n) : 0 ≤ z.toInt ∧ z.toInt ≤ n := by
  have h2 := pk_ushr x y k hk
  rw [← hz] at h2
  have h3 : x.toBitVec.toNat < 2 ^ 32 := x.toBitVec.isLt
  have e : (2 : Nat) ^ 32 = 2 ^ (32 - k) * 2 ^ k := by rw [← Nat.pow_add]; congr 1; omega
  have h5 : x.toBitVec.toNat / 2 ^ k < 2 ^ (32 - k) := by
    apply Nat.div_lt_of_lt_mul
    rw [Nat.mul_comm, ← e]; exact h3
  have h7 : (2 : Nat) ^ (32 - k) ≤ 2 ^ 31 := Nat.pow_le_pow_right (by decide) (by omega)
  have h6 := o_small h2 (by omega)
  obtain ⟨-, -, h8⟩ := h1
  rw [h6, ← h8]
  omega
theorem o_pos {y : Int32} (h : 0 ≤ y.toInt) : (y.toBitVec.toNat : Int) = y.toInt := by
  have h1 : y.toInt = y.toBitVec.toInt := rfl
  have h2 : y.toBitVec.toNat < 2 ^ 32 := y.toBitVec.isLt
  rw [h1] at h ⊢
  rw [BitVec.toInt_eq_toNat_cond] at h ⊢
  split at h <;> split <;> omega
theorem o_and {x y z : Int32} {b : Int} (hz : z = x &&& y) (hy : y.toInt = b) (h0 : 0 ≤ b) : 0 ≤ z.toInt ∧ z.toInt ≤ b := by
  subst hz; subst hy
  have e := o_pos h0
  have h : (x &&& y).toBitVec.toNat = x.toBitVec.toNat &&& y.toBitVec.toNat := BitVec.toNat_and ..
  have l := Nat.and_le_right (n := x.toBitVec.toNat) (m := y.toBitVec.toNat)
  have hlt := Int32.toInt_lt y
  have h9 := o_small (z := x &&& y) h (by omega)
  omega
theorem o_andl {x y z : Int32} {b : Int} (hz : z = x &&& y) (hx : x.toInt = b) (h0 : 0 ≤ b) : 0 ≤ z.toInt ∧ z.toInt ≤ b := by
  subst hz; subst hx
  have e := o_pos h0
  have h : (x &&& y).toBitVec.toNat = x.toBitVec.toNat &&& y.toBitVec.toNat := BitVec.toNat_and ..
  have l := Nat.and_le_left (n := x.toBitVec.toNat) (m := y.toBitVec.toNat)
  have hlt := Int32.toInt_lt x
  have h9 := o_small (z := x &&& y) h (by omega)
  omega
theorem o_i2b {x z : Int32} (h : z = x.toInt8.toInt32) : -128 ≤ z.toInt ∧ z.toInt ≤ 127 := by
  subst h
  rw [Int8.toInt_toInt32]
  have h1 := Int8.le_toInt x.toInt8
  have h2 := Int8.toInt_lt x.toInt8
  constructor <;> omega
theorem o_nb (x : Int32) : -128 ≤ (vp_nar .byte x).toInt ∧ (vp_nar .byte x).toInt ≤ 127 := o_i2b (x := x) rfl
theorem o_nz (x : Int32) : 0 ≤ (vp_nar .boolean x).toInt ∧ (vp_nar .boolean x).toInt ≤ 1 := o_and (x := x) (y := 1) (b := 1) rfl (by decide) (by decide)
theorem o_wq {p : Program} {l : Launch} {e : Env} {R : Room} {s : State} {m : MethodId} {args : Array Value} {below : List Frame} {meth : Method} {c : Code} {H : Heap} {locs : List Loc} {cells slots : Nat} {Q Q' : State → Prop} {g : JFrame} (h : Q = Q') (k : W p l e R s m args below meth c H locs cells slots Q' g) : W p l e R s m args below meth c H locs cells slots Q g := h ▸ k
theorem Rg.upd_if {f : Nat → Int32} {a b k : Nat} {lo hi : Int} {v : Int32} (h : Rg f a b lo hi) (hk : a ≤ k ∧ k < b → lo ≤ v.toInt ∧ v.toInt ≤ hi) : Rg (upd f k v) a b lo hi := by
  intro j hj1 hj2
  by_cases e : j = k
  · subst e; simp only [upd, if_pos]; exact hk ⟨hj1, hj2⟩
  · simp only [upd, if_neg e]; exact h j hj1 hj2
section OmegaA
variable {p : Program} {l : Launch} {e : Env} {R : Room} {s : State} {m : MethodId} {args : Array Value} {below : List Frame} {meth : Method} {c : Code} {H : Heap} {locs : List Loc} {cells slots : Nat} {Q : State → Prop}
variable {cc : ByteArray} {pc nL : Nat} {ls : Array Slot} {rest : List Value} {own nm : String} {ret0 : Option FieldType} {D : va_G} {cy : Nat → ClassId} {A : Nat → Prop} {ws : va_W}
theorem o_lcmp {x y : Int64} (C : Cx p s m args meth c cc nL ret0 own nm D cy A) (hdg : decode cc pc = .ok (.lcmp, 1))
    (k : W p l e R s m args below meth c H locs cells slots Q (F0 m (pc + 1) ls (.int (if x > y then 1 else if x == y then 0 else -1) :: rest))) : W p l e R s m args below meth c H locs cells slots Q (F0 m pc ls (.long y :: .long x :: rest)) := by
  have hexec := C.1
  have hb := C.2.1
  intro T hT X
  obtain ⟨t, a, b⟩ := k T hT X
  refine ⟨t, ?_, b⟩
  by_cases h1 : x > y
  · rw [if_pos h1] at a
    jvm_step X.here [X.here.top, hexec, hb, hdg, if_pos h1]
    exact a
  · by_cases h2 : x = y
    · subst h2
      rw [if_neg h1, if_pos (by simp)] at a
      jvm_step X.here [X.here.top, hexec, hb, hdg, if_neg h1]
      exact a
    · rw [if_neg h1, if_neg (by simpa using h2)] at a
      jvm_step X.here [X.here.top, hexec, hb, hdg, if_neg h1, if_neg h2]
      exact a
theorem Cx.sx (C : Cx p s m args meth c cc nL ret0 own nm D cy A) : Sx cy A s s.heap := C.2.2.2.2.2.2.2.2.2.2
theorem Cx.lit (C : Cx p s m args meth c cc nL ret0 own nm D cy A) {q : String × Nat × String × Nat} (h : q ∈ strQ) : vk_R q.1 q.2.1 q.2.2.1 (cy q.2.2.2) s := C.2.2.2.2.2.1.2.2.2.2 q h
theorem q_ldcS {index j : Nat} {tx : String} (C : Cx p s m args meth c cc nL ret0 own nm D cy A) (h : (own, index, tx, j) ∈ strQ) (hdg : decode cc pc = .ok (.ldc index, 2))
    (k : W p l e R s m args below meth c H locs cells slots Q (F0 m (pc + 2) ls (.ref (cy j) :: rest))) : W p l e R s m args below meth c H locs cells slots Q (F0 m pc ls rest) := va_ldcS C.1 C.2.1 C.2.2.2.1 (C.lit h) hdg k
theorem q_ldcSw {index j : Nat} {tx : String} (C : Cx p s m args meth c cc nL ret0 own nm D cy A) (h : (own, index, tx, j) ∈ strQ) (hdg : decode cc pc = .ok (.ldc_w index, 3))
    (k : W p l e R s m args below meth c H locs cells slots Q (F0 m (pc + 3) ls (.ref (cy j) :: rest))) : W p l e R s m args below meth c H locs cells slots Q (F0 m pc ls rest) := by
  have hexec := C.1
  have hb := C.2.1
  have hZ := C.lit h
  obtain ⟨k1, cf, i, a', hk, hcf, hcp, -, hr, hev'⟩ := Cond.stringRef_spec (args := #[]) C.2.2.2.1 hZ.1
  have e1 := hZ.2.symm.trans hev'
  intro T hT X
  obtain ⟨t, a1, b1⟩ := k T hT X
  refine ⟨t, ?_, b1⟩
  obtain ⟨k', hk', he⟩ := X.warmed.alike.2.2 _ _ hk
  have hr' : k'.resolved[index]? = some (some (.string a')) := by
    rcases X.warmed.entry hk hk' index with h | ⟨h, -⟩
    · rw [h]; exact hr
    · rw [hr] at h; cases h
  cases e1
  jvm_step X.here [hexec, hb, hdg, ldc_w.wp_string (e := e) (s := T) (f := F0 m pc ls rest) X.here.top hk' (by rw [he]; exact hcf) hcp hr']
  exact a1
theorem o_char {v : Int32} (h1 : 0 ≤ v.toInt) (h2 : v.toInt ≤ 65535) : narrow .char (.int v) = .int v := by
  have e := o_pos h1
  refine congrArg Value.int ?_
  apply Int32.toBitVec_inj.mp
  apply BitVec.eq_of_toNat_eq
  have h3 : v.toBitVec.toNat < 65536 := by omega
  simp
  omega
theorem o_i2c {x z : Int32} (h : z = (x.toUInt32 % 65536).toInt32) : 0 ≤ z.toInt ∧ z.toInt ≤ 65535 := by
  have h1 : z.toBitVec.toNat = x.toBitVec.toNat % 65536 := by
    subst h
    simp
  have h3 := Nat.mod_lt x.toBitVec.toNat (show 65536 > 0 by decide)
  have h2 := o_small h1 (by omega)
  omega
end OmegaA
section OmegaB
variable {p : Program} {l : Launch} {e : Env} {R : Room} {s : State} {m : MethodId} {args : Array Value} {below : List Frame} {meth : Method} {c : Code} {H : Heap} {locs : List Loc} {cells slots : Nat} {Q : State → Prop}
variable {cc : ByteArray} {pc nL : Nat} {ls : Array Slot} {rest st0 : List Value} {own nm : String} {ret0 : Option FieldType} {D : va_G} {cy : Nat → ClassId} {A : Nat → Prop} {ws wc wr : va_W}
variable {y : MethodName} {bytes : ByteArray} {maxL : Nat} {ret : Option FieldType} {rm : Room} {As : List Value} {n index : Nat}
/-- a call on a literal -/
theorem r_VS {j : Nat} {hj : j < 5} {Qc : Array Value → State → Outcome → State → Prop} (C : Cx p s m args meth c cc nL ret0 own nm D cy A) (hS : va_S A s.heap H locs) (hPc : va_P D vwCl wc H) (hDc : va_D A wc) (hM : Met l y (.code y bytes maxL ret :: gT) rm (va_Pc (.ref (cy (100 + j)) :: As) (Px D cy H.size wc)) Qc rm.cells rm.slots (va_A wc H.size))
    (hw : MwV "java/lang/String" y bytes maxL ret n) (hl : Cond.methodLink own index y ∈ gT) (hR : rm.frames + 1 ≤ R.frames ∧ 8 + (maxL + 11) + rm.locals ≤ R.locals) (hn : As.length = n) (hls : ls.size = nL) (hst : st0 = As.reverse ++ .ref (cy (100 + j)) :: rest) (h8 : (rest.map fun v => v.category).sum ≤ 8) (hdg : decode cc pc = .ok (.invokevirtual index, 3)) (hcs : cells + rm.cells ≤ R.cells ∧ slots + rm.slots ≤ R.slots) :
    va_Run p l e R s m args below meth c H locs cells slots rm.cells rm.slots (F0 m pc ls st0) rest (Qc (Value.ref (cy (100 + j)) :: As).toArray) (va_A wc H.size) := by
  obtain ⟨hx, hb, hml, hown, hts, hK, hA, hr, hlocks, -, hSx⟩ := C
  obtain ⟨k1, k2, k3, k4, k5⟩ := hw
  refine va_runV (As := As) (rest := rest) ⟨hx, hb, hml, hown, hts⟩ hM (cwV n hts (gIn (fun w h => ?_)) rfl rfl rfl k5 hR) ⟨Px.blind, vk_recv (adK := fun i => cy (100 + i)) (i := j) hSx.1 hj hS, fun U hU hW => ⟨rfl, by rw [hU], by rw [hU]; exact hPc, hK.warm hW, hDc.weaken (fun _ _ _ _ => trivial), hSx.call hA hS hDc hU hW⟩⟩ rfl hn hls hst (lv_room h8) hdg hcs
  rcases List.mem_append.mp h with h | h
  · simp only [List.mem_cons, List.not_mem_nil, or_false] at h
    rcases h with rfl | rfl | rfl | rfl
    · exact hl
    · exact k2
    · exact k3
    · exact k4
  · rcases List.mem_cons.mp h with rfl | h
    · exact k1
    · exact h
end OmegaB
/-! a life's lines: who is asked for or moved is a book -/
def Rt (f g : Nat → Int32) (n : Int) : Prop := ∀ k : Nat, (k : Int) < n → ((f k).toInt = 11 ∨ (f k).toInt = 13) → 0 ≤ (g k).toInt ∧ (g k).toInt ≤ 7
theorem Rt.zero {f g : Nat → Int32} {n : Int} (h : n ≤ 0) : Rt f g n := fun k hk _ => absurd hk (by omega)
theorem Rt.out1 {f g : Nat → Int32} {n : Int} {k : Nat} {v : Int32} (h : Rt f g n) (hk : n ≤ (k : Int)) : Rt (upd f k v) g n := by
  intro j hj
  have e : j ≠ k := by omega
  simp only [upd, if_neg e]; exact h j hj
theorem Rt.out2 {f g : Nat → Int32} {n : Int} {k : Nat} {v : Int32} (h : Rt f g n) (hk : n ≤ (k : Int)) : Rt f (upd g k v) n := by
  intro j hj
  have e : j ≠ k := by omega
  simp only [upd, if_neg e]; exact h j hj
theorem Rt.step {f g : Nat → Int32} {a x y : Int32} (h : Rt f g x.toInt) (ea : a = f x.toNatClampNeg) (h0 : 0 ≤ x.toInt) (ht : (a.toInt = 11 ∨ a.toInt = 13) → 0 ≤ (g x.toNatClampNeg).toInt ∧ (g x.toNatClampNeg).toInt ≤ 7) (hy : y.toInt = x.toInt + 1) : Rt f g y.toInt := by
  intro k hk
  have hc := o_cl (x := x) rfl h0
  by_cases e : k = x.toNatClampNeg
  · subst e; rw [← ea]; exact ht
  · exact h k (by omega)
theorem Rt.at {f g : Nat → Int32} {n : Int} {a t k : Int32} (h : Rt f g n) (ea : a = f k.toNatClampNeg) (et : t = g k.toNatClampNeg) (h0 : 0 ≤ k.toInt) (h1 : k.toInt < n) (ha : a.toInt = 11 ∨ a.toInt = 13) : 0 ≤ t.toInt ∧ t.toInt ≤ 7 := by
  have hc := o_cl (x := k) rfl h0
  rw [et]; exact h _ (by omega) (by rw [← ea]; exact ha)
/-! the first n of a row are books -/
def Rn (f : Nat → Int32) (n : Int) : Prop := ∀ k : Nat, (k : Int) < n → 0 ≤ (f k).toInt ∧ (f k).toInt ≤ 7
theorem Rn.zero {f : Nat → Int32} {n : Int} (h : n ≤ 0) : Rn f n := fun k hk => absurd hk (by omega)
theorem Rn.out {f : Nat → Int32} {n : Int} {k : Nat} {v : Int32} (h : Rn f n) (hk : n ≤ (k : Int)) : Rn (upd f k v) n := by
  intro j hj
  have e : j ≠ k := by omega
  simp only [upd, if_neg e]; exact h j hj
theorem Rn.step {f : Nat → Int32} {v x y : Int32} (h : Rn f x.toInt) (ev : v = f x.toNatClampNeg) (h0 : 0 ≤ x.toInt) (hv : 0 ≤ v.toInt ∧ v.toInt ≤ 7) (hy : y.toInt = x.toInt + 1) : Rn f y.toInt := by
  intro k hk
  have hc := o_cl (x := x) rfl h0
  by_cases e : k = x.toNatClampNeg
  · subst e; rw [← ev]; exact hv
  · exact h k (by omega)
theorem Rn.weak {f : Nat → Int32} {n m : Int} (h : Rn f n) (hm : m ≤ n) : Rn f m := fun k hk => h k (by omega)
theorem Rn.at {f : Nat → Int32} {n : Int} {v x : Int32} (h : Rn f n) (ev : v = f x.toNatClampNeg) (h0 : 0 ≤ x.toInt) (h1 : x.toInt < n) : 0 ≤ v.toInt ∧ v.toInt ≤ 7 := by
  have hc := o_cl (x := x) rfl h0
  rw [ev]; exact h _ (by omega)
/-! rows of shelves and of images -/
def kF (a0 a1 a2 a3 a4 a5 a6 a7 : Nat) : Nat → Option Nat := fun k => match k with
  | 0 => some a0
  | 1 => some a1
  | 2 => some a2
  | 3 => some a3
  | 4 => some a4
  | 5 => some a5
  | 6 => some a6
  | 7 => some a7
  | _ => none
def iF (a0 a1 : Nat) : Nat → Option Nat := fun k => match k with
  | 0 => some a0
  | 1 => some a1
  | _ => none
