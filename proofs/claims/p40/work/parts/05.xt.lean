/-- an octet of a content, whatever its sign -/
def ob (f : Nat → Int32) (k : Nat) : Int := (f k).toInt % 256
/-- the first n octets are alike -/
def Tp (f g : Nat → Int32) (n : Int) : Prop := ∀ k : Nat, (k : Int) < n → ob f k = ob g k
theorem Tp.le {f g : Nat → Int32} {n m : Int} (h : Tp f g n) (e : m ≤ n) : Tp f g m := fun k hk => h k (by omega)
/-- g is f with the octets of v at n and behind it, those ahead of m -/
def Pw (f g : Nat → Int32) (n m : Int) (v : Int32) : Prop := (∀ k : Nat, (k : Int) < n → g k = f k) ∧ ∀ k : Nat, n ≤ (k : Int) → (k : Int) < m → ob g k = (v.toInt / (2 : Int) ^ ((24 - 8 * ((k : Int) - n)).toNat)) % 256
theorem Pw.zero {f : Nat → Int32} {n m : Int} {v : Int32} (h : m ≤ n) : Pw f f n m v := ⟨fun _ _ => rfl, fun _ h1 h2 => absurd h2 (by omega)⟩
theorem Pw.cast {f g : Nat → Int32} {n m n' m' : Int} {v : Int32} (h : Pw f g n m v) (e1 : n' = n) (e2 : m' = m) : Pw f g n' m' v := by
  subst e1; subst e2; exact h
theorem Pw.put {f g : Nat → Int32} {n m : Int} {v x w sh : Int32} (h : Pw f g n m v) (h0 : 0 ≤ n) (h1 : n ≤ m) (hx : x.toInt = m) (hs : sh.toInt = 24 - 8 * (m - n)) (hw : w.toInt % 256 = (v.toInt / (2 : Int) ^ sh.toInt.toNat) % 256) : Pw f (upd g x.toNatClampNeg w) n (m + 1) v := by
  have c := o_cl hx (by omega)
  refine ⟨fun k hk => ?_, fun k h2 h3 => ?_⟩
  · have e : k ≠ x.toNatClampNeg := by omega
    simp only [upd, if_neg e]; exact h.1 k hk
  · by_cases e : k = x.toNatClampNeg
    · have e2 : (24 - 8 * ((k : Int) - n)) = sh.toInt := by omega
      rw [e2]
      show (upd g x.toNatClampNeg w k).toInt % 256 = _
      simp only [upd, if_pos e]; exact hw
    · have e2 := h.2 k h2 (by omega)
      show (upd g x.toNatClampNeg w k).toInt % 256 = _
      simp only [upd, if_neg e]; exact e2
theorem Tp.pw {f f' g g' : Nat → Int32} {n m : Int} {v : Int32} (h : Tp f f' n) (a : Pw f g n m v) (b : Pw f' g' n m v) : Tp g g' m := by
  intro k hk
  by_cases e : (k : Int) < n
  · have h1 := h k e
    unfold ob at h1 ⊢
    rw [a.1 k e, b.1 k e]; exact h1
  · rw [a.2 k (by omega) hk, b.2 k (by omega) hk]
/-- what feed does to the octets -/
def Fdd (f g : Nat → Int32) (n : Int) (a1 a2 a3 a4 a5 : Int32) : Prop := (920 < n → g = f) ∧ (n ≤ 920 → ∃ g1 g2 g3 g4 : Nat → Int32, Pw f g1 n (n + 4) a1 ∧ Pw g1 g2 (n + 4) (n + 8) a2 ∧ Pw g2 g3 (n + 8) (n + 12) a3 ∧ Pw g3 g4 (n + 12) (n + 16) a4 ∧ Pw g4 g (n + 16) (n + 20) a5)
theorem Fdd.no {f : Nat → Int32} {n : Int} {a1 a2 a3 a4 a5 : Int32} (h : 920 < n) : Fdd f f n a1 a2 a3 a4 a5 := ⟨fun _ => rfl, fun q => absurd q (by omega)⟩
theorem Fdd.yes {f g g1 g2 g3 g4 : Nat → Int32} {n n1 n2 n3 n4 n5 : Int} {a1 a2 a3 a4 a5 : Int32} (h : n ≤ 920) (p1 : Pw f g1 n n1 a1) (p2 : Pw g1 g2 n1 n2 a2) (p3 : Pw g2 g3 n2 n3 a3) (p4 : Pw g3 g4 n3 n4 a4) (p5 : Pw g4 g n4 n5 a5) (e1 : n1 = n + 4) (e2 : n2 = n1 + 4) (e3 : n3 = n2 + 4) (e4 : n4 = n3 + 4) (e5 : n5 = n4 + 4) : Fdd f g n a1 a2 a3 a4 a5 :=
  ⟨fun q => absurd q (by omega), fun _ => ⟨g1, g2, g3, g4, p1.cast rfl (by omega), p2.cast (by omega) (by omega), p3.cast (by omega) (by omega), p4.cast (by omega) (by omega), p5.cast (by omega) (by omega)⟩⟩
theorem Tp.feed {f f' g g' : Nat → Int32} {n n' m : Int} {a1 a2 a3 a4 a5 : Int32} (h : Tp f f' n) (a : Fdd f g n a1 a2 a3 a4 a5) (b : Fdd f' g' n' a1 a2 a3 a4 a5) (e : n' = n) (hm : (n ≤ 920 ∧ m = n + 20) ∨ (920 < n ∧ m = n)) : Tp g g' m := by
  subst e
  rcases hm with ⟨h1, h2⟩ | ⟨h1, h2⟩
  · subst h2
    obtain ⟨g1, g2, g3, g4, p1, p2, p3, p4, p5⟩ := a.2 h1
    obtain ⟨k1, k2, k3, k4, q1, q2, q3, q4, q5⟩ := b.2 h1
    exact ((((h.pw p1 q1).pw p2 q2).pw p3 q3).pw p4 q4).pw p5 q5
  · subst h2
    rw [a.1 h1, b.1 h1]; exact h
theorem and255 (x : Int32) : (x &&& 255).toInt = x.toInt % 256 := by
  have h : x.toBitVec.toNat < 2 ^ 32 := x.toBitVec.isLt
  have h1 : x.toInt = x.toBitVec.toInt := rfl
  rw [BitVec.toInt_eq_toNat_cond] at h1
  rw [pk_and x 8 (by decide), nI_toInt (by omega), h1]
  split <;> omega
theorem p24 : (2 : Int) ^ (24 : Int).toNat = 16777216 := by decide
theorem p16 : (2 : Int) ^ (16 : Int).toNat = 65536 := by decide
theorem p8_ : (2 : Int) ^ (8 : Int).toNat = 256 := by decide
theorem p0_ : (2 : Int) ^ (0 : Int).toNat = 1 := by decide
theorem c_oct {v sh z w : Int32} (hs : sh.toInt = 24 ∨ sh.toInt = 16 ∨ sh.toInt = 8 ∨ sh.toInt = 0) (hz : z = (v.toUInt32 >>> (sh.toUInt32 &&& Int32.toUInt32 31)).toInt32) (hw : w = z &&& 255) : w.toInt % 256 = (v.toInt / (2 : Int) ^ sh.toInt.toNat) % 256 := by
  have hl : v.toBitVec.toNat < 2 ^ 32 := v.toBitVec.isLt
  have hv : v.toInt = v.toBitVec.toInt := rfl
  rw [BitVec.toInt_eq_toNat_cond] at hv
  have e0 : w.toInt = ((z.toBitVec.toNat % 2 ^ 8 : Nat) : Int) := by rw [hw, pk_and z 8 (by decide), nI_toInt (by omega)]
  rcases hs with h | h | h | h
  · obtain rfl : sh = 24 := o_meq (b := 24) rfl (by decide) h
    have h2 := pk_ushr v 24 24 (by decide)
    rw [← hz] at h2
    rw [e0, h2, h, p24]
    split at hv <;> omega
  · obtain rfl : sh = 16 := o_meq (b := 16) rfl (by decide) h
    have h2 := pk_ushr v 16 16 (by decide)
    rw [← hz] at h2
    rw [e0, h2, h, p16]
    split at hv <;> omega
  · obtain rfl : sh = 8 := o_meq (b := 8) rfl (by decide) h
    have h2 := pk_ushr v 8 8 (by decide)
    rw [← hz] at h2
    rw [e0, h2, h, p8_]
    split at hv <;> omega
  · obtain rfl : sh = 0 := o_meq (b := 0) rfl (by decide) h
    have h2 := pk_ushr v 0 0 (by decide)
    rw [← hz] at h2
    rw [e0, h2, h, p0_]
    split at hv <;> omega
theorem m_oct {v sh z y w : Int32} (hs : sh.toInt = 24 ∨ sh.toInt = 16 ∨ sh.toInt = 8 ∨ sh.toInt = 0) (hz : z = v >>> (sh &&& 31)) (hy : y = z.toInt8.toInt32) (hw : w = vp_nar .byte y) : w.toInt % 256 = (v.toInt / (2 : Int) ^ sh.toInt.toNat) % 256 := by
  have hw2 : w = z.toInt8.toInt32 := by rw [hw, hy]; exact pk_vb z
  have e1 : w.toInt = z.toInt.bmod (2 ^ 8) := by rw [hw2, Int8.toInt_toInt32, Int32.toInt_toInt8]
  have e2 : w.toInt % 256 = z.toInt % 256 := by rw [e1, Int.bmod_def]; split <;> omega
  rcases hs with h | h | h | h
  · obtain rfl : sh = 24 := o_meq (b := 24) rfl (by decide) h
    have h2 := pk_shr v (24 &&& 31) 24 (by decide)
    rw [← hz, Int.shiftRight_eq_div_pow] at h2
    rw [e2, h2, h, p24]; rfl
  · obtain rfl : sh = 16 := o_meq (b := 16) rfl (by decide) h
    have h2 := pk_shr v (16 &&& 31) 16 (by decide)
    rw [← hz, Int.shiftRight_eq_div_pow] at h2
    rw [e2, h2, h, p16]; rfl
  · obtain rfl : sh = 8 := o_meq (b := 8) rfl (by decide) h
    have h2 := pk_shr v (8 &&& 31) 8 (by decide)
    rw [← hz, Int.shiftRight_eq_div_pow] at h2
    rw [e2, h2, h, p8_]; rfl
  · obtain rfl : sh = 0 := o_meq (b := 0) rfl (by decide) h
    have h2 := pk_shr v (0 &&& 31) 0 (by decide)
    rw [← hz, Int.shiftRight_eq_div_pow] at h2
    rw [e2, h2, h, p0_]; rfl
/-- spun: a triple is as it may be, spins fit to it -/
def okT (f : Nat → Int32) (k : Nat) : Bool := decide (ob f (3 * k) ≤ 99 ∧ 1 ≤ ob f (3 * k + 1) ∧ ob f (3 * k + 1) ≤ 99 ∧ ob f (3 * k + 2) ≤ 99)
def fitT (f : Nat → Int32) (e k : Nat) : Bool := decide ((99 ≤ ob f (3 * k) + (e : Int) * ob f (3 * k + 1) ∧ ob f (3 * k + 2) = 99) ∨ (ob f (3 * k) + (e : Int) * ob f (3 * k + 1) < 99 ∧ ob f (3 * k + 2) = ob f (3 * k) + (e : Int) * ob f (3 * k + 1)))
def allB (p : Nat → Bool) : Nat → Bool
  | 0 => true
  | n + 1 => allB p n && p n
theorem allB_succ (p : Nat → Bool) (n : Nat) : allB p (n + 1) = (allB p n && p n) := rfl
theorem allB_eq {p q : Nat → Bool} : ∀ {n : Nat}, (∀ k, k < n → p k = q k) → allB p n = allB q n
  | 0, _ => rfl
  | n + 1, h => by rw [allB_succ, allB_succ, allB_eq (fun k hk => h k (by omega)), h n (by omega)]
theorem allB_no {p : Nat → Bool} {k : Nat} (hp : p k = false) : ∀ {n : Nat}, k < n → allB p n = false
  | 0, h => absurd h (by omega)
  | n + 1, h => by
    rw [allB_succ]
    by_cases e : k = n
    · rw [← e, hp, Bool.and_false]
    · rw [allB_no hp (show k < n by omega), Bool.false_and]
def sv5 (b1 b2 b3 b4 b5 : Bool) : Int := (if b1 then 2 else 0) + (if b2 then 4 else 0) + (if b3 then 8 else 0) + (if b4 then 16 else 0) + (if b5 then 32 else 0)
def svv (p : Nat → Bool) : Int := sv5 (p 1) (p 2) (p 3) (p 4) (p 5)
theorem svv_eq {p q : Nat → Bool} (h : ∀ e, 1 ≤ e → e ≤ 5 → p e = q e) : svv p = svv q := by
  unfold svv
  rw [h 1 (by decide) (by decide), h 2 (by decide) (by decide), h 3 (by decide) (by decide), h 4 (by decide) (by decide), h 5 (by decide) (by decide)]
def spB (f : Nat → Int32) (k : Nat) : Int := if allB (okT f) k = true then svv (fun e => allB (fitT f e) k) else -1
def spA (f : Nat → Int32) (n : Int) : Int := if 3 ≤ n ∧ n ≤ 18 ∧ n % 3 = 0 then spB f (n.toNat / 3) else -1
theorem okT_eq {f g : Nat → Int32} {n : Int} {k : Nat} (h : Tp f g n) (hk : 3 * (k : Int) + 2 < n) : okT f k = okT g k := by
  unfold okT; rw [h (3 * k) (by omega), h (3 * k + 1) (by omega), h (3 * k + 2) (by omega)]
theorem fitT_eq {f g : Nat → Int32} {n : Int} {e k : Nat} (h : Tp f g n) (hk : 3 * (k : Int) + 2 < n) : fitT f e k = fitT g e k := by
  unfold fitT; rw [h (3 * k) (by omega), h (3 * k + 1) (by omega), h (3 * k + 2) (by omega)]
theorem spA_eq {f g : Nat → Int32} {n : Int} (h : Tp f g n) : spA f n = spA g n := by
  unfold spA
  by_cases c : 3 ≤ n ∧ n ≤ 18 ∧ n % 3 = 0
  · rw [if_pos c, if_pos c]
    have e1 : allB (okT f) (n.toNat / 3) = allB (okT g) (n.toNat / 3) := allB_eq (fun k hk => okT_eq h (by omega))
    have e2 : ∀ e, allB (fitT f e) (n.toNat / 3) = allB (fitT g e) (n.toNat / 3) := fun e => allB_eq (fun k hk => fitT_eq h (by omega))
    unfold spB
    rw [e1]
    simp only [e2]
  · rw [if_neg c, if_neg c]
theorem spun_same {f g : Nat → Int32} {n m : Int} {r r' : Int32} (h : Tp f g n) (e : m = n) (a : r.toInt = spA f n) (b : r'.toInt = spA g m) : r'.toInt = r.toInt := by
  subst e; rw [a, b, spA_eq h]
theorem sp_no {f : Nat → Int32} {n : Int} {r : Int32} (hr : r.toInt = -1) (h : ¬ (3 ≤ n ∧ n ≤ 18 ∧ n % 3 = 0)) : r.toInt = spA f n := by
  unfold spA; rw [if_neg h]; exact hr
theorem sp_yes {f : Nat → Int32} {n : Int} {r k : Int32} (h : r.toInt = spB f k.toNatClampNeg) (h1 : 1 ≤ k.toInt) (h2 : k.toInt ≤ 6) (hn : n = 3 * k.toInt) : r.toInt = spA f n := by
  have c := o_cl (x := k) rfl (by omega)
  unfold spA
  rw [if_pos (by omega), h]
  congr 1; omega
/-- the class: triple by triple -/
theorem ob_of {f : Nat → Int32} {a i k : Int32} (j : Nat) (ea : a = f i.toNatClampNeg) (hi : i.toInt = 3 * k.toInt + (j : Int)) (hk : 0 ≤ k.toInt) (h0 : 0 ≤ a.toInt) (h1 : a.toInt ≤ 255) : ob f (3 * k.toNatClampNeg + j) = a.toInt := by
  have c := o_cl (x := k) rfl hk
  have c2 := o_cl (x := i) rfl (by omega)
  have e : 3 * k.toNatClampNeg + j = i.toNatClampNeg := by omega
  unfold ob; rw [e, ← ea]; omega
theorem sb_no {f : Nat → Int32} {r k v : Int32} {a b c : Int} (hr : r.toInt = -1) (ha : ob f (3 * k.toNatClampNeg + 0) = a) (hb : ob f (3 * k.toNatClampNeg + 1) = b) (hc : ob f (3 * k.toNatClampNeg + 2) = c) (h : 99 < a ∨ b < 1 ∨ 99 < b ∨ 99 < c) (hk : 0 ≤ k.toInt) (hv : k.toInt < v.toInt) : r.toInt = spB f v.toNatClampNeg := by
  have c1 := o_cl (x := k) rfl hk
  have c2 := o_cl (x := v) rfl (by omega)
  have e : okT f k.toNatClampNeg = false := by
    unfold okT
    rw [Nat.add_zero] at ha
    rw [ha, hb, hc]
    exact decide_eq_false (by omega)
  unfold spB
  rw [allB_no e (show k.toNatClampNeg < v.toNatClampNeg by omega)]
  rw [if_neg (by decide)]; exact hr
theorem ok_yes {f : Nat → Int32} {k : Nat} {a b c : Int} (ha : ob f (3 * k + 0) = a) (hb : ob f (3 * k + 1) = b) (hc : ob f (3 * k + 2) = c) (h : a ≤ 99 ∧ 1 ≤ b ∧ b ≤ 99 ∧ c ≤ 99) : okT f k = true := by
  unfold okT
  rw [Nat.add_zero] at ha
  rw [ha, hb, hc]; exact decide_eq_true h
theorem fit_is {f : Nat → Int32} {k : Nat} {e : Nat} {a b c : Int} (ha : ob f (3 * k + 0) = a) (hb : ob f (3 * k + 1) = b) (hc : ob f (3 * k + 2) = c) : fitT f e k = decide ((99 ≤ a + (e : Int) * b ∧ c = 99) ∨ (a + (e : Int) * b < 99 ∧ c = a + (e : Int) * b)) := by
  unfold fitT
  rw [Nat.add_zero] at ha
  rw [ha, hb, hc]
/-- while one triple is gone through: spins ahead of c are done with it -/
def pm (f : Nat → Int32) (k c e : Nat) : Bool := if e < c then allB (fitT f e) (k + 1) else allB (fitT f e) k
theorem sb_zero {f : Nat → Int32} {x k : Int32} (hx : x.toInt = 62) (hk : k.toInt = 0) : x.toInt = svv (fun e => allB (fitT f e) k.toNatClampNeg) := by
  have c := o_cl (x := k) rfl (by omega)
  rw [show k.toNatClampNeg = 0 by omega, hx]; rfl
theorem sa_zero {f : Nat → Int32} {k : Int32} (hk : k.toInt = 0) : allB (okT f) k.toNatClampNeg = true := by
  have c := o_cl (x := k) rfl (by omega)
  rw [show k.toNatClampNeg = 0 by omega]; rfl
theorem pm_one {f : Nat → Int32} {x k c : Int32} (h : x.toInt = svv (fun e => allB (fitT f e) k.toNatClampNeg)) (hc : c.toInt = 1) : x.toInt = svv (pm f k.toNatClampNeg c.toNatClampNeg) := by
  have c1 := o_cl (x := c) rfl (by omega)
  rw [h]
  apply svv_eq
  intro e h1 h2
  unfold pm; rw [if_neg (by omega)]
theorem pm_six {f : Nat → Int32} {x k k' c : Int32} (h : x.toInt = svv (pm f k.toNatClampNeg c.toNatClampNeg)) (hc : 6 ≤ c.toInt) (hk : 0 ≤ k.toInt) (e' : k'.toInt = k.toInt + 1) : x.toInt = svv (fun e => allB (fitT f e) k'.toNatClampNeg) := by
  have c1 := o_cl (x := c) rfl (by omega)
  have c2 := o_cl (x := k) rfl hk
  have c3 := o_cl (x := k') rfl (by omega)
  rw [h, show k'.toNatClampNeg = k.toNatClampNeg + 1 by omega]
  apply svv_eq
  intro e h1 h2
  unfold pm; rw [if_pos (by omega)]
theorem sa_step {f : Nat → Int32} {k k' : Int32} (h : allB (okT f) k.toNatClampNeg = true) (ho : okT f k.toNatClampNeg = true) (hk : 0 ≤ k.toInt) (e' : k'.toInt = k.toInt + 1) : allB (okT f) k'.toNatClampNeg = true := by
  have c2 := o_cl (x := k) rfl hk
  have c3 := o_cl (x := k') rfl (by omega)
  rw [show k'.toNatClampNeg = k.toNatClampNeg + 1 by omega, allB_succ, h, ho]; rfl
theorem pm_fit {f : Nat → Int32} {x c c' : Int32} {k : Nat} (h : x.toInt = svv (pm f k c.toNatClampNeg)) (hf : fitT f c.toNatClampNeg k = true) (hc : 0 ≤ c.toInt) (e' : c'.toInt = c.toInt + 1) : x.toInt = svv (pm f k c'.toNatClampNeg) := by
  have c1 := o_cl (x := c) rfl hc
  have c2 := o_cl (x := c') rfl (by omega)
  rw [h]
  apply svv_eq
  intro e h1 h2
  unfold pm
  by_cases q : e < c.toNatClampNeg
  · rw [if_pos q, if_pos (by omega)]
  · rw [if_neg q]
    by_cases q2 : e = c.toNatClampNeg
    · rw [if_pos (by omega), allB_succ, q2, hf, Bool.and_true]
    · rw [if_neg (by omega)]
theorem sv_rng (b1 b2 b3 b4 b5 : Bool) : 0 ≤ sv5 b1 b2 b3 b4 b5 ∧ sv5 b1 b2 b3 b4 b5 ≤ 62 := by
  cases b1 <;> cases b2 <;> cases b3 <;> cases b4 <;> cases b5 <;> decide
def off5 (c : Nat) (b1 b2 b3 b4 b5 : Bool) : Int := sv5 (b1 && decide (c ≠ 1)) (b2 && decide (c ≠ 2)) (b3 && decide (c ≠ 3)) (b4 && decide (c ≠ 4)) (b5 && decide (c ≠ 5))
def on5 (c : Nat) (b1 b2 b3 b4 b5 : Bool) : Int := sv5 (b1 || decide (c = 1)) (b2 || decide (c = 2)) (b3 || decide (c = 3)) (b4 || decide (c = 4)) (b5 || decide (c = 5))
theorem off_dec : ∀ c : Fin 6, 1 ≤ c.val → ∀ b1 b2 b3 b4 b5 : Bool, ((Int32.ofInt (sv5 b1 b2 b3 b4 b5)) &&& (((1 : Int32) <<< (nI c.val &&& 31)) ^^^ -1)).toInt = off5 c.val b1 b2 b3 b4 b5 := by decide +kernel
theorem on_dec : ∀ c : Fin 6, 1 ≤ c.val → ∀ b1 b2 b3 b4 b5 : Bool, ((Int32.ofInt (sv5 b1 b2 b3 b4 b5)) ||| ((1 : Int32) <<< (nI c.val &&& 31))).toInt = on5 c.val b1 b2 b3 b4 b5 := by decide +kernel
theorem or_zero {x y : Int32} (h : y = x ||| 0) : y.toInt = x.toInt := by
  have e : x ||| 0 = x := Int32.toBitVec_inj.mp (by rw [Int32.toBitVec_or]; exact BitVec.or_zero)
  rw [h, e]
theorem of_int {x : Int32} {v : Int} (h : x.toInt = v) : x = Int32.ofInt v := by
  rw [← h, Int32.ofInt_toInt]
theorem svv_off {p q : Nat → Bool} {c : Nat} (h : ∀ e, 1 ≤ e → e ≤ 5 → q e = (p e && decide (c ≠ e))) : svv q = off5 c (p 1) (p 2) (p 3) (p 4) (p 5) := by
  unfold svv off5
  rw [h 1 (by decide) (by decide), h 2 (by decide) (by decide), h 3 (by decide) (by decide), h 4 (by decide) (by decide), h 5 (by decide) (by decide)]
theorem svv_on {p q : Nat → Bool} {c : Nat} (h : ∀ e, 1 ≤ e → e ≤ 5 → q e = (p e || decide (c = e))) : svv q = on5 c (p 1) (p 2) (p 3) (p 4) (p 5) := by
  unfold svv on5
  rw [h 1 (by decide) (by decide), h 2 (by decide) (by decide), h 3 (by decide) (by decide), h 4 (by decide) (by decide), h 5 (by decide) (by decide)]
theorem pm_not {f : Nat → Int32} {x c c' z1 z2 z3 : Int32} {k : Nat} (h : x.toInt = svv (pm f k c.toNatClampNeg)) (hf : fitT f c.toNatClampNeg k = false) (hc : 1 ≤ c.toInt) (hc5 : c.toInt ≤ 5) (e' : c'.toInt = c.toInt + 1) (d1 : z1 = (1 : Int32) <<< (c &&& 31)) (d2 : z2 = z1 ^^^ -1) (d3 : z3 = x &&& z2) : z3.toInt = svv (pm f k c'.toNatClampNeg) := by
  have c1 := o_cl (x := c) rfl (by omega)
  have c2 := o_cl (x := c') rfl (by omega)
  have hx := of_int h
  have hcc : c = nI c.toNatClampNeg := o_meq (b := c.toInt) rfl (by rw [nI_toInt (by omega)]; exact c1) rfl
  have e1 : (Int32.ofInt (sv5 (pm f k c.toNatClampNeg 1) (pm f k c.toNatClampNeg 2) (pm f k c.toNatClampNeg 3) (pm f k c.toNatClampNeg 4) (pm f k c.toNatClampNeg 5)) &&& (((1 : Int32) <<< (nI c.toNatClampNeg &&& 31)) ^^^ -1)).toInt = off5 c.toNatClampNeg (pm f k c.toNatClampNeg 1) (pm f k c.toNatClampNeg 2) (pm f k c.toNatClampNeg 3) (pm f k c.toNatClampNeg 4) (pm f k c.toNatClampNeg 5) := off_dec ⟨c.toNatClampNeg, by omega⟩ (by show 1 ≤ c.toNatClampNeg; omega) (pm f k c.toNatClampNeg 1) (pm f k c.toNatClampNeg 2) (pm f k c.toNatClampNeg 3) (pm f k c.toNatClampNeg 4) (pm f k c.toNatClampNeg 5)
  rw [← hcc] at e1
  rw [d3, d2, d1, hx]
  rw [svv_off (p := pm f k c.toNatClampNeg) (q := pm f k c'.toNatClampNeg) (c := c.toNatClampNeg)]
  · exact e1
  · intro e h1 h2
    unfold pm
    by_cases q : e < c.toNatClampNeg
    · rw [if_pos q, if_pos (by omega), decide_eq_true (show c.toNatClampNeg ≠ e by omega), Bool.and_true]
    · rw [if_neg q]
      by_cases q2 : e = c.toNatClampNeg
      · rw [if_pos (by omega), allB_succ, decide_eq_false (show ¬ c.toNatClampNeg ≠ e by omega), q2, hf, Bool.and_false]
      · rw [if_neg (by omega), decide_eq_true (show c.toNatClampNeg ≠ e by omega), Bool.and_true]
theorem sb_yes {f : Nat → Int32} {x k v : Int32} (ha : allB (okT f) k.toNatClampNeg = true) (hb : x.toInt = svv (fun e => allB (fitT f e) k.toNatClampNeg)) (e : k.toInt = v.toInt) : x.toInt = spB f v.toNatClampNeg := by
  have e2 : k = v := o_meq rfl rfl e
  subst e2
  unfold spB; rw [if_pos ha]; exact hb
theorem o_mulx {x y z : Int32} {a b : Int} (hz : z = x * y) (hx : x.toInt = a) (hy : y.toInt = b) (h1 : 0 ≤ a) (h2 : a ≤ 5) (h3 : 0 ≤ b) (h4 : b ≤ 255) : z.toInt = a * b := by
  have h6 : 0 ≤ a * b := Int.mul_nonneg h1 h3
  have h7 : a * b ≤ 5 * 255 := Int.mul_le_mul h2 h4 h3 (by decide)
  exact o_mul hz hx hy (by omega) (by omega)
theorem fit_cls {f : Nat → Int32} {k : Nat} {e z m : Int32} {a b c : Int} (ha : ob f (3 * k + 0) = a) (hb : ob f (3 * k + 1) = b) (hc : ob f (3 * k + 2) = c) (he : 0 ≤ e.toInt) (hz : z.toInt = e.toInt * b) (hm : (m.toInt = 99 ∧ 99 ≤ a + z.toInt) ∨ (m.toInt = a + z.toInt ∧ a + z.toInt ≤ 99)) : fitT f e.toNatClampNeg k = decide (m.toInt = c) := by
  have c1 := o_cl (x := e) rfl he
  rw [fit_is ha hb hc, c1, ← hz]
  apply decide_eq_decide.mpr
  constructor <;> intro h <;> omega
