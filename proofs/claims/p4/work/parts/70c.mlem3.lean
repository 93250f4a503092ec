/-! a life's lines in the model -/
def Rl (f : Nat → Int32) (n : Int) : Prop := ∀ k : Nat, (k : Int) < n → ((f (4 * k)).toInt = 0 ∨ (f (4 * k)).toInt = 2) → 0 ≤ (f (4 * k + 1)).toInt ∧ (f (4 * k + 1)).toInt ≤ 7
def Tl (f : Nat → Int32) (t : Int32) : Prop := ((f (4 * t.toNatClampNeg)).toInt = 0 ∨ (f (4 * t.toNatClampNeg)).toInt = 2) → 0 ≤ (f (4 * t.toNatClampNeg + 1)).toInt ∧ (f (4 * t.toNatClampNeg + 1)).toInt ≤ 7
theorem Rl.zero {f : Nat → Int32} {n : Int} (h : n ≤ 0) : Rl f n := fun k hk => absurd hk (by omega)
theorem Rl.out {f : Nat → Int32} {n : Int} {x v : Int32} (h : Rl f n) (h0 : 0 ≤ x.toInt) (hx : 4 * n ≤ x.toInt) : Rl (upd f x.toNatClampNeg v) n := by
  intro k hk
  have c := o_cl (x := x) rfl h0
  have e1 : 4 * k ≠ x.toNatClampNeg := by omega
  have e2 : 4 * k + 1 ≠ x.toNatClampNeg := by omega
  simp only [upd, if_neg e1, if_neg e2]; exact h k hk
theorem Tl.mk {f : Nat → Int32} {t w x y v : Int32} (ew : w = f x.toNatClampNeg) (ht : 0 ≤ t.toInt) (hx : x.toInt = 4 * t.toInt) (hy : y.toInt = x.toInt + 1) (h : (w.toInt = 0 ∨ w.toInt = 2) → 0 ≤ v.toInt ∧ v.toInt ≤ 7) : Tl (upd f y.toNatClampNeg v) t := by
  have c1 := o_cl (x := t) rfl ht
  have c2 := o_cl (x := x) rfl (by omega)
  have c3 := o_cl (x := y) rfl (by omega)
  have e1 : 4 * t.toNatClampNeg ≠ y.toNatClampNeg := by omega
  have e2 : 4 * t.toNatClampNeg + 1 = y.toNatClampNeg := by omega
  have e3 : 4 * t.toNatClampNeg = x.toNatClampNeg := by omega
  unfold Tl
  simp only [upd, if_neg e1, if_pos e2]
  rw [e3, ← ew]; exact h
theorem Tl.out {f : Nat → Int32} {t x v : Int32} (h : Tl f t) (ht : 0 ≤ t.toInt) (hx : 4 * t.toInt + 2 ≤ x.toInt) : Tl (upd f x.toNatClampNeg v) t := by
  have c1 := o_cl (x := t) rfl ht
  have c2 := o_cl (x := x) rfl (by omega)
  have e1 : 4 * t.toNatClampNeg ≠ x.toNatClampNeg := by omega
  have e2 : 4 * t.toNatClampNeg + 1 ≠ x.toNatClampNeg := by omega
  unfold Tl
  simp only [upd, if_neg e1, if_neg e2]; exact h
theorem Rl.step {f : Nat → Int32} {t y : Int32} (h : Rl f t.toInt) (hT : Tl f t) (ht : 0 ≤ t.toInt) (hy : y.toInt = t.toInt + 1) : Rl f y.toInt := by
  intro k hk
  have c := o_cl (x := t) rfl ht
  by_cases e : k = t.toNatClampNeg
  · subst e; exact hT
  · exact h k (by omega)
theorem Rl.at {f : Nat → Int32} {n : Int} {i x y w a : Int32} (h : Rl f n) (h0 : 0 ≤ i.toInt) (h1 : i.toInt < n) (ew : w = f x.toNatClampNeg) (ea : a = f y.toNatClampNeg) (hx : x.toInt = 4 * i.toInt) (hy : y.toInt = 4 * i.toInt + 1) : (w.toInt = 0 ∨ w.toInt = 2) → 0 ≤ a.toInt ∧ a.toInt ≤ 7 := by
  have c1 := o_cl (x := i) rfl h0
  have c2 := o_cl (x := x) rfl (by omega)
  have c3 := o_cl (x := y) rfl (by omega)
  have e1 : x.toNatClampNeg = 4 * i.toNatClampNeg := by omega
  have e2 : y.toNatClampNeg = 4 * i.toNatClampNeg + 1 := by omega
  rw [ew, ea, e1, e2]; exact h _ (by omega)
/-! a sentence's codes -/
def Cd (f g : Nat → Int32) (c w : Int32) : Prop := (∀ k : Nat, (k : Int) < 3 * c.toInt → g k = f k) ∧ g (3 * c.toNatClampNeg) = w
theorem Cd.mk {f : Nat → Int32} {c w x : Int32} (h0 : 0 ≤ c.toInt) (hx : x.toInt = 3 * c.toInt) : Cd f (upd f x.toNatClampNeg w) c w := by
  have c1 := o_cl (x := c) rfl h0
  have c2 := o_cl (x := x) rfl (by omega)
  refine ⟨fun k hk => ?_, ?_⟩
  · have e : k ≠ x.toNatClampNeg := by omega
    simp only [upd, if_neg e]
  · have e : 3 * c.toNatClampNeg = x.toNatClampNeg := by omega
    simp only [upd, if_pos e]
theorem Cd.out {f g : Nat → Int32} {c w x v : Int32} (h : Cd f g c w) (h0 : 0 ≤ c.toInt) (hx : 3 * c.toInt < x.toInt) : Cd f (upd g x.toNatClampNeg v) c w := by
  have c1 := o_cl (x := c) rfl h0
  have c2 := o_cl (x := x) rfl (by omega)
  refine ⟨fun k hk => ?_, ?_⟩
  · have e : k ≠ x.toNatClampNeg := by omega
    simp only [upd, if_neg e]; exact h.1 k hk
  · have e : 3 * c.toNatClampNeg ≠ x.toNatClampNeg := by omega
    simp only [upd, if_neg e]; exact h.2
/-- how many 'and' and 'or' wait on the stack -/
def bn (s : Nat → Int32) : Nat → Int
  | 0 => 0
  | n + 1 => bn s n + (if (s n).toInt = 21 ∨ (s n).toInt = 22 then 1 else 0)
theorem bn_pos (s : Nat → Int32) : ∀ n : Nat, 0 ≤ bn s n := by
  intro n
  induction n with
  | zero => exact Int.le_refl _
  | succ n ih => unfold bn; split <;> omega
theorem bn_like {s t : Nat → Int32} : ∀ n : Nat, (∀ k : Nat, k < n → t k = s k) → bn t n = bn s n := by
  intro n
  induction n with
  | zero => intro _; rfl
  | succ n ih => intro h; unfold bn; rw [ih (fun k hk => h k (by omega)), h n (by omega)]
theorem dl_le (w : Int) : dl w ≤ 1 := by unfold dl; split <;> (try split) <;> omega
theorem dp_le (f : Nat → Int32) (b : Nat) : ∀ n : Nat, dp f b n ≤ (n : Int) := by
  intro n
  induction n with
  | zero => exact Int.le_refl _
  | succ n ih => unfold dp; have := dl_le (f (b + 3 * n)).toInt; omega
def Se (f s : Nat → Int32) (c t w : Int) : Prop := PQ f 0 c ∧ dp f 0 c.toNat = bn s t.toNat + w
theorem Se.zero {f s : Nat → Int32} {c t w : Int} (hc : c = 0) (ht : t = 0) (hw : w = 0) : Se f s c t w := by
  subst hc; subst ht; subst hw
  exact ⟨fun i hi => absurd hi (by omega), rfl⟩
theorem Se.cast {f s : Nat → Int32} {c t w c' t' w' : Int} (h : Se f s c t w) (hc : c' = c) (ht : t' = t) (hw : w' = w) : Se f s c' t' w' := by subst hc; subst ht; subst hw; exact h
theorem Se.code {f g s : Nat → Int32} {t w t' w' : Int} {c c' z : Int32} (h : Se f s c.toInt t w) (hd : Cd f g c z) (h0 : 0 ≤ c.toInt) (h1 : c.toInt ≤ 39) (hc : c'.toInt = c.toInt + 1) (hw : w = 0 ∨ w = 1)
    (h20 : z.toInt = 20 → 1 ≤ bn s t.toNat + w) (h21 : z.toInt = 21 ∨ z.toInt = 22 → 2 ≤ bn s t.toNat + w) (he : bn s t.toNat + w + dl z.toInt = bn s t'.toNat + w') : Se g s c'.toInt t' w' := by
  have c1 := o_cl (x := c) rfl h0
  have e1 : c.toInt.toNat = c.toNatClampNeg := by omega
  have e2 : c'.toInt.toNat = c.toNatClampNeg + 1 := by omega
  obtain ⟨p1, p2⟩ := h
  rw [e1] at p2
  have hl : ∀ n : Nat, n ≤ c.toNatClampNeg → dp g 0 n = dp f 0 n := fun n hn => dp_like n (fun i hi => hd.1 _ (by omega))
  have hz : g (0 + 3 * c.toNatClampNeg) = z := by rw [Nat.zero_add]; exact hd.2
  have hb := bn_pos s t.toNat
  have hle := dp_le f 0 c.toNatClampNeg
  refine ⟨fun i hi => ?_, ?_⟩
  · by_cases e : i = c.toNatClampNeg
    · subst e
      rw [hl _ (Nat.le_refl _), hz, p2]
      rw [p2] at hle
      exact ⟨by omega, h20, h21, by omega⟩
    · have q := p1 i (by omega)
      have ei : g (0 + 3 * i) = f (0 + 3 * i) := hd.1 _ (by omega)
      rw [hl i (by omega), ei]; exact q
  · rw [e2]
    show dp g 0 c.toNatClampNeg + dl (g (0 + 3 * c.toNatClampNeg)).toInt = _
    rw [hl _ (Nat.le_refl _), hz, p2]; exact he
theorem Se.not {f g s : Nat → Int32} {w : Int} {c c' t t' x z y : Int32} (h : Se f s c.toInt t.toInt w) (hd : Cd f g c z) (hz : z.toInt = 20) (h0 : 0 ≤ c.toInt) (h1 : c.toInt ≤ 39) (hc : c'.toInt = c.toInt + 1) (hw : w = 1) (ey : y = s x.toNatClampNeg) (hx : x.toInt = t.toInt - 1) (ht0 : 1 ≤ t.toInt) (hy : y.toInt = 20) (ht : t'.toInt = t.toInt - 1) : Se g s c'.toInt t'.toInt w := by
  have c2 := o_cl (x := x) rfl (by omega)
  have e3 : t.toInt.toNat = x.toNatClampNeg + 1 := by omega
  have e4 : t'.toInt.toNat = x.toNatClampNeg := by omega
  have hb : bn s t.toInt.toNat = bn s t'.toInt.toNat := by
    rw [e3, e4]; show bn s x.toNatClampNeg + (if (s x.toNatClampNeg).toInt = 21 ∨ (s x.toNatClampNeg).toInt = 22 then 1 else 0) = _
    rw [← ey, if_neg (by omega)]; omega
  have hp := bn_pos s t.toInt.toNat
  have hdl : dl z.toInt = 0 := by rw [hz]; rfl
  exact h.code hd h0 h1 hc (Or.inr hw) (fun _ => by omega) (fun q => by omega) (by rw [hdl, hb]; omega)
theorem Se.bin {f g s : Nat → Int32} {w : Int} {c c' t t' x y : Int32} (h : Se f s c.toInt t.toInt w) (hd : Cd f g c y) (h0 : 0 ≤ c.toInt) (h1 : c.toInt ≤ 39) (hc : c'.toInt = c.toInt + 1) (hw : w = 1) (ey : y = s x.toNatClampNeg) (hx : x.toInt = t.toInt - 1) (ht0 : 1 ≤ t.toInt) (hy : y.toInt = 21 ∨ y.toInt = 22) (ht : t'.toInt = t.toInt - 1) : Se g s c'.toInt t'.toInt w := by
  have c2 := o_cl (x := x) rfl (by omega)
  have e3 : t.toInt.toNat = x.toNatClampNeg + 1 := by omega
  have e4 : t'.toInt.toNat = x.toNatClampNeg := by omega
  have hb : bn s t.toInt.toNat = bn s t'.toInt.toNat + 1 := by
    rw [e3, e4]; show bn s x.toNatClampNeg + (if (s x.toNatClampNeg).toInt = 21 ∨ (s x.toNatClampNeg).toInt = 22 then 1 else 0) = _
    rw [← ey, if_pos hy]
  have hp := bn_pos s t'.toInt.toNat
  have hdl : dl y.toInt = -1 := by rcases hy with q | q <;> rw [q] <;> rfl
  exact h.code hd h0 h1 hc (Or.inr hw) (fun _ => by omega) (fun _ => by omega) (by rw [hdl, hb]; omega)
theorem Se.leaf {f g s : Nat → Int32} {t w w' : Int} {c c' z : Int32} (h : Se f s c.toInt t w) (hd : Cd f g c z) (h0 : 0 ≤ c.toInt) (h1 : c.toInt ≤ 39) (hc : c'.toInt = c.toInt + 1) (hw : w = 0) (hw' : w' = 1) (hz : z.toInt ≤ 19) : Se g s c'.toInt t w' := by
  have hdl : dl z.toInt = 1 := by unfold dl; rw [if_neg (by omega), if_neg (by omega)]
  exact h.code hd h0 h1 hc (Or.inl hw) (fun q => by omega) (fun q => by omega) (by rw [hdl]; omega)
theorem Se.push {f s : Nat → Int32} {c w w' t1 : Int} {t v : Int32} (h : Se f s c t.toInt w) (h0 : 0 ≤ t.toInt) (ht : t1 = t.toInt + 1) (hv : w = w' + (if v.toInt = 21 ∨ v.toInt = 22 then 1 else 0)) : Se f (upd s t.toNatClampNeg v) c t1 w' := by
  have c2 := o_cl (x := t) rfl h0
  have e3 : t.toInt.toNat = t.toNatClampNeg := by omega
  have e4 : t1.toNat = t.toNatClampNeg + 1 := by omega
  refine ⟨h.1, ?_⟩
  have q := h.2
  rw [e3] at q
  rw [q, e4]
  show _ = bn (upd s t.toNatClampNeg v) t.toNatClampNeg + (if (upd s t.toNatClampNeg v t.toNatClampNeg).toInt = 21 ∨ (upd s t.toNatClampNeg v t.toNatClampNeg).toInt = 22 then 1 else 0) + w'
  rw [bn_like (t := upd s t.toNatClampNeg v) (s := s) t.toNatClampNeg (fun k hk => by
    have e : k ≠ t.toNatClampNeg := by omega
    simp only [upd, if_neg e]), upd_self]
  omega
def Tx (s : Nat → Int32) (t : Int32) : Prop := 0 < t.toInt → (s (t.toNatClampNeg - 1)).toInt ≠ 21 ∧ (s (t.toNatClampNeg - 1)).toInt ≠ 22
theorem Tx.zero {s : Nat → Int32} {t : Int32} (h : t.toInt ≤ 0) : Tx s t := fun q => absurd q (by omega)
theorem Tx.mk {s : Nat → Int32} {t x z : Int32} (ez : z = s x.toNatClampNeg) (hx : x.toInt = t.toInt - 1) (ht : 1 ≤ t.toInt) (h1 : z.toInt ≠ 21) (h2 : z.toInt ≠ 22) : Tx s t := by
  intro _
  have c1 := o_cl (x := t) rfl (by omega)
  have c2 := o_cl (x := x) rfl (by omega)
  have e : t.toNatClampNeg - 1 = x.toNatClampNeg := by omega
  rw [e, ← ez]; exact ⟨h1, h2⟩
theorem Se.pop {f s : Nat → Int32} {c w t1 : Int} {t : Int32} (h : Se f s c t.toInt w) (hx : Tx s t) (h0 : 1 ≤ t.toInt) (ht : t1 = t.toInt - 1) : Se f s c t1 w := by
  have c2 := o_cl (x := t) rfl (by omega)
  have e3 : t.toInt.toNat = (t.toNatClampNeg - 1) + 1 := by omega
  have e4 : t1.toNat = t.toNatClampNeg - 1 := by omega
  refine ⟨h.1, ?_⟩
  have q := h.2
  have hx := hx (by omega)
  rw [e3] at q
  rw [q, e4]
  show bn s (t.toNatClampNeg - 1) + (if (s (t.toNatClampNeg - 1)).toInt = 21 ∨ (s (t.toNatClampNeg - 1)).toInt = 22 then 1 else 0) + w = _
  rw [if_neg (by omega)]; omega
/-- the state while a sentence is copied into it -/
def Sn (g r : Nat → Int32) (c i : Int) : Prop := Pb g ∧ (g 202).toInt = c ∧ ∀ k : Nat, (k : Int) < i → g (203 + k) = r k
theorem Sn.start {g r : Nat → Int32} {v : Int32} {i : Int} (h : Sv g) (hi : i ≤ 0) : Sn (upd g 202 v) r v.toInt i :=
  ⟨h.1.put (by decide), by simp only [upd, if_pos], fun k hk => absurd hk (by omega)⟩
theorem Sn.step {g r : Nat → Int32} {c i' : Int} {i x v : Int32} (h : Sn g r c i.toInt) (h0 : 0 ≤ i.toInt) (ev : v = r i.toNatClampNeg) (hx : x.toInt = 203 + i.toInt) (hi : i' = i.toInt + 1) : Sn (upd g x.toNatClampNeg v) r c i' := by
  have c1 := o_cl (x := i) rfl h0
  have c2 := o_cl (x := x) rfl (by omega)
  have e1 : (103 : Nat) ≠ x.toNatClampNeg := by omega
  have e2 : (202 : Nat) ≠ x.toNatClampNeg := by omega
  refine ⟨h.1.put (fun q => e1 q.symm), ?_, fun k hk => ?_⟩
  · simp only [upd, if_neg e2]; exact h.2.1
  · by_cases e : 203 + k = x.toNatClampNeg
    · simp only [upd, if_pos e]
      have e3 : k = i.toNatClampNeg := by omega
      rw [ev, e3]
    · simp only [upd, if_neg e]; exact h.2.2 k (by omega)
theorem Sn.cast {g r : Nat → Int32} {c i i' : Int} (h : Sn g r c i) (e : i' = i) : Sn g r c i' := e ▸ h
theorem Sv.of_sn {g r : Nat → Int32} {c i : Int} (h : Sn g r c i) (hi : 3 * c ≤ i) (h0 : 0 ≤ c) (h1 : c ≤ 40) (hq : PQ r 0 c) : Sv g := by
  refine ⟨h.1, by rw [h.2.1]; exact h0, by rw [h.2.1]; exact h1, ?_⟩
  rw [h.2.1]
  refine hq.like (fun k hk => ?_)
  rw [h.2.2 (3 * k) (by omega), Nat.zero_add]
/-! a sentence said of a book -/
theorem said_at {f : Nat → Int32} {n i c to z : Int32} (h : Sv f) (hn : n.toInt = dp f 203 i.toNatClampNeg) (ec : c = f 202) (h0 : 0 ≤ i.toInt) (h1 : i.toInt < c.toInt) (ht : to.toInt = 203 + 3 * i.toInt) (ez : z = f to.toNatClampNeg) : (0 ≤ n.toInt ∧ n.toInt ≤ 40) ∧ (z.toInt = 20 → 1 ≤ n.toInt) ∧ (z.toInt = 21 ∨ z.toInt = 22 → 2 ≤ n.toInt) := by
  have c1 := o_cl (x := i) rfl h0
  have c2 := o_cl (x := to) rfl (by omega)
  have e : to.toNatClampNeg = 203 + 3 * i.toNatClampNeg := by omega
  have q := h.2.2.2 i.toNatClampNeg (by rw [← ec]; omega)
  rw [← e, ← ez, ← hn] at q
  exact ⟨⟨q.2.2.2, q.1⟩, q.2.1, q.2.2.1⟩
theorem said_step {f : Nat → Int32} {n n' i i' to z : Int32} {d : Int} (hn : n.toInt = dp f 203 i.toNatClampNeg) (h0 : 0 ≤ i.toInt) (ht : to.toInt = 203 + 3 * i.toInt) (ez : z = f to.toNatClampNeg) (hd : dl z.toInt = d) (hi : i'.toInt = i.toInt + 1) (hn' : n'.toInt = n.toInt + d) : n'.toInt = dp f 203 i'.toNatClampNeg := by
  have c1 := o_cl (x := i) rfl h0
  have c2 := o_cl (x := to) rfl (by omega)
  have c3 := o_cl (x := i') rfl (by omega)
  have e : to.toNatClampNeg = 203 + 3 * i.toNatClampNeg := by omega
  have e2 : i'.toNatClampNeg = i.toNatClampNeg + 1 := by omega
  rw [e2]; show _ = dp f 203 i.toNatClampNeg + dl (f (203 + 3 * i.toNatClampNeg)).toInt
  rw [← hn, ← e, ← ez, hd]; exact hn'
theorem dl_n {w : Int} (h : w = 20) : dl w = 0 := by rw [h]; rfl
theorem dl_b {w : Int} (h : w = 21 ∨ w = 22) : dl w = -1 := by rcases h with q | q <;> rw [q] <;> rfl
theorem dl_l {w : Int} (h1 : w ≠ 20) (h2 : w ≠ 21) (h3 : w ≠ 22) : dl w = 1 := by unfold dl; rw [if_neg h1, if_neg (by omega)]
theorem dp_zero {f : Nat → Int32} : (0 : Int32).toInt = dp f 203 (0 : Int32).toNatClampNeg := by
  have e : (0 : Int32).toNatClampNeg = 0 := by decide
  rw [e]; rfl
/-! images -/
def sh (f : Nat → Int32) (o : Nat) : Nat → Int32 := fun k => f (o + k)
theorem Rg.unsh {f : Nat → Int32} {o a b : Nat} {lo hi : Int} (h : Rg (sh f o) a b lo hi) : Rg f (o + a) (o + b) lo hi := by
  intro k h1 h2
  have q := h (k - o) (by omega) (by omega)
  unfold sh at q
  rw [show o + (k - o) = k by omega] at q; exact q
theorem Rg.eq {f g : Nat → Int32} {a b : Nat} {lo hi : Int} (h : Rg f a b lo hi) (e : ∀ k : Nat, k < b → g k = f k) : Rg g a b lo hi := by
  intro k h1 h2; rw [e k h2]; exact h k h1 h2
def Cp (f g g0 : Nat → Int32) (o : Nat) (i : Int) : Prop := (∀ k : Nat, (k : Int) < i → g (o + k) = f k) ∧ (∀ k : Nat, k < o ∨ o + 383 ≤ k → g k = g0 k)
theorem Cp.zero {f g : Nat → Int32} {o : Nat} {i : Int} (h : i ≤ 0) : Cp f g g o i := ⟨fun k hk => absurd hk (by omega), fun _ _ => rfl⟩
theorem Cp.step {f g g0 : Nat → Int32} {o : Nat} {i' : Int} {i x v : Int32} (h : Cp f g g0 o i.toInt) (h0 : 0 ≤ i.toInt) (h1 : i.toInt ≤ 382) (ev : v = f i.toNatClampNeg) (hx : x.toInt = (o : Int) + i.toInt) (hi : i' = i.toInt + 1) : Cp f (upd g x.toNatClampNeg v) g0 o i' := by
  have c1 := o_cl (x := i) rfl h0
  have c2 := o_cl (x := x) rfl (by omega)
  refine ⟨fun k hk => ?_, fun k hk => ?_⟩
  · by_cases e : o + k = x.toNatClampNeg
    · simp only [upd, if_pos e]
      rw [ev, show k = i.toNatClampNeg by omega]
    · simp only [upd, if_neg e]; exact h.1 k (by omega)
  · have e : k ≠ x.toNatClampNeg := by omega
    simp only [upd, if_neg e]; exact h.2 k hk
theorem Cp.cast {f g g0 : Nat → Int32} {o : Nat} {i i' : Int} (h : Cp f g g0 o i) (e : i' = i) : Cp f g g0 o i' := e ▸ h
def Cr (f g : Nat → Int32) (o : Nat) (i : Int) : Prop := ∀ k : Nat, (k : Int) < i → g k = f (o + k)
theorem Cr.zero {f g : Nat → Int32} {o : Nat} {i : Int} (h : i ≤ 0) : Cr f g o i := fun k hk => absurd hk (by omega)
theorem Cr.step {f g : Nat → Int32} {o : Nat} {i' : Int} {i x v : Int32} (h : Cr f g o i.toInt) (h0 : 0 ≤ i.toInt) (ev : v = f x.toNatClampNeg) (hx : x.toInt = (o : Int) + i.toInt) (hi : i' = i.toInt + 1) : Cr f (upd g i.toNatClampNeg v) o i' := by
  have c1 := o_cl (x := i) rfl h0
  have c2 := o_cl (x := x) rfl (by omega)
  intro k hk
  by_cases e : k = i.toNatClampNeg
  · simp only [upd, if_pos e]
    rw [ev, show x.toNatClampNeg = o + k by omega]
  · simp only [upd, if_neg e]; exact h k (by omega)
theorem Cr.cast {f g : Nat → Int32} {o : Nat} {i i' : Int} (h : Cr f g o i) (e : i' = i) : Cr f g o i' := e ▸ h
theorem Sv.of_cr {f g : Nat → Int32} {o : Nat} {i : Int} (h : Cr f g o i) (hi : 383 ≤ i) (hs : Sv (sh f o)) : Sv g := hs.like (h 103 (by omega)) (fun k _ h2 => h k (by omega))
