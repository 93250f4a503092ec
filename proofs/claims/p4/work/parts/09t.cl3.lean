theorem RlC.she {wide high law spin line draught books rare : Int} {qu sizes names x y told : Nat → Int32} {wt wo wo' w v1 v2 : Int32} {h : Nat → Int32} {nm : Nat → Int64} {on we : Int32} (R : RlC wide high law spin line draught books rare qu sizes names x y told wt wo h nm on we) (hb : books ≤ 0) (hw : w.toInt = 1) (ew : wo' = wo ||| ((1 : Int32) <<< (w &&& 31))) : RlC v1.toInt v2.toInt law spin line draught books rare qu sizes names x y told wt wo' (upd (upd h 1 v1) 2 v2) nm (on ||| ((1 : Int32) <<< ((0 : Int32) &&& 31))) we := by
  obtain ⟨⟨a1, a2, a3, a4, a5, a6, a7, a8⟩, b, c, d, e, ⟨f1, f2, f3, f4, f5⟩, g⟩ := R
  have W : ∀ i : Int32, 0 ≤ i.toInt → i.toInt < 32 → (bt wo' i = 1 ↔ (bt wo i = 1 ∨ i.toInt = w.toInt)) := fun i h1 h2 => by rw [ew]; exact bt_set (by omega) (by omega) h1 h2
  have O : ∀ i : Int32, 0 ≤ i.toInt → i.toInt < 32 → (bt (on ||| ((1 : Int32) <<< ((0 : Int32) &&& 31))) i = 1 ↔ (bt on i = 1 ∨ i.toInt = (0 : Int32).toInt)) := fun i h1 h2 => bt_set (by decide) (by decide) h1 h2
  have w7 := W 7 (by decide) (by decide); have w8 := W 8 (by decide) (by decide); have w9 := W 9 (by decide) (by decide); have w10 := W 10 (by decide) (by decide); have w1 := W 1 (by decide) (by decide)
  have o0 := O 0 (by decide) (by decide); have o1 := O 1 (by decide) (by decide); have o2 := O 2 (by decide) (by decide); have o3 := O 3 (by decide) (by decide); have o4 := O 4 (by decide) (by decide)
  rw [hw] at w7 w8 w9 w10 w1
  have n7 : ¬ ((7 : Int32).toInt = 1) := by decide
  have n8 : ¬ ((8 : Int32).toInt = 1) := by decide
  have n9 : ¬ ((9 : Int32).toInt = 1) := by decide
  have n10 : ¬ ((10 : Int32).toInt = 1) := by decide
  have m1 : ¬ ((1 : Int32).toInt = (0 : Int32).toInt) := by decide
  have m2 : ¬ ((2 : Int32).toInt = (0 : Int32).toInt) := by decide
  have m3 : ¬ ((3 : Int32).toInt = (0 : Int32).toInt) := by decide
  have m4 : ¬ ((4 : Int32).toInt = (0 : Int32).toInt) := by decide
  have ne : ∀ i : Nat, i ≠ 1 → i ≠ 2 → upd (upd h 1 v1) 2 v2 i = h i := fun i h1 h2 => by rw [upd_ne h2, upd_ne h1]
  refine ⟨⟨?_, ?_, ?_, ?_, ?_, ?_, ?_, ?_⟩, b, ?_, ?_, ?_, ⟨?_, ?_, ?_, ?_, ?_⟩, g⟩
  · rw [upd_ne (by decide), upd_at rfl]
  · rw [upd_at rfl]
  · rw [ne 3 (by decide) (by decide)]; exact a3
  · rw [ne 4 (by decide) (by decide)]; exact a4
  · rw [ne 5 (by decide) (by decide)]; exact a5
  · rw [ne 6 (by decide) (by decide)]; exact a6
  · rw [ne 0 (by decide) (by decide)]; exact a7
  · rw [ne 103 (by decide) (by decide)]; exact a8
  · intro i hi; rw [ne _ (by omega) (by omega)]; exact c i hi
  · intro i hi; rw [ne _ (by omega) (by omega), ne _ (by omega) (by omega)]; exact d i hi
  · intro p q hp hq; rw [ne _ (by omega) (by omega)]; exact e p q hp hq
  · rw [w7, o1, f1]; exact ⟨fun z => z.elim Or.inl (fun z => absurd z n7), fun z => z.elim Or.inl (fun z => absurd z m1)⟩
  · rw [w8, o2, f2]; exact ⟨fun z => z.elim Or.inl (fun z => absurd z n8), fun z => z.elim Or.inl (fun z => absurd z m2)⟩
  · rw [w9, o3, f3]; exact ⟨fun z => z.elim Or.inl (fun z => absurd z n9), fun z => z.elim Or.inl (fun z => absurd z m3)⟩
  · rw [w10, o4, f4]; exact ⟨fun z => z.elim Or.inl (fun z => absurd z n10), fun z => z.elim Or.inl (fun z => absurd z m4)⟩
  · rw [o0, w1]; exact ⟨fun _ => Or.inl (Or.inr (by decide)), fun _ => Or.inr rfl⟩
theorem RlC.k0 {wide high law spin line draught books rare : Int} {qu sizes names x y told : Nat → Int32} {wt wo : Int32} {h : Nat → Int32} {nm : Nat → Int64} {on we : Int32} (R : RlC wide high law spin line draught books rare qu sizes names x y told wt wo h nm on we) {w : Int32} (hw : w.toInt = 1) : bt on 0 = 1 ↔ (bt wo w = 1 ∨ 0 < books) := by
  rw [o_meq (x := w) (y := 1) (b := 1) rfl (by decide) hw]; exact R.2.2.2.2.2.1.2.2.2.2
/-- the first of m books in a cell -/
def binF (x y : Nat → Int32) (v w : Int) : Nat → Nat → Int
  | 0, _ => -1
  | f + 1, i => if (x i).toInt = v ∧ (y i).toInt = w then (i : Int) else binF x y v w f (i + 1)
def binT (x y : Nat → Int32) (v w : Int) (m i : Nat) : Int := binF x y v w (m - i) i
theorem binT_end {x y : Nat → Int32} {v w : Int} {m i : Nat} (h : m ≤ i) : binT x y v w m i = -1 := by unfold binT; rw [show m - i = 0 by omega]; rfl
theorem binT_yes {x y : Nat → Int32} {v w : Int} {m i : Nat} (h : i < m) (e : (x i).toInt = v ∧ (y i).toInt = w) : binT x y v w m i = (i : Int) := by
  unfold binT; rw [show m - i = (m - (i + 1)) + 1 by omega]
  show (if _ then _ else _) = _
  rw [if_pos e]
theorem binT_no {x y : Nat → Int32} {v w : Int} {m i : Nat} (h : i < m) (e : ¬ ((x i).toInt = v ∧ (y i).toInt = w)) : binT x y v w m i = binT x y v w m (i + 1) := by
  unfold binT; rw [show m - i = (m - (i + 1)) + 1 by omega]
  show (if _ then _ else _) = _
  rw [if_neg e]
theorem bn_no {x y : Nat → Int32} {v w b : Int} {m : Nat} {i i' a c : Int32} (hb : b = binT x y v w m i.toInt.toNat) (h0 : 0 ≤ i.toInt) (h1 : i.toInt < (m : Int)) (ea : a = x i.toNatClampNeg) (hd : a.toInt ≠ v ∨ (c = y i.toNatClampNeg ∧ c.toInt ≠ w)) (e : i'.toInt = i.toInt + 1) : b = binT x y v w m i'.toInt.toNat := by
  have c1 := o_cl (x := i) rfl h0
  rw [hb, binT_no (by omega), show i'.toInt.toNat = i.toInt.toNat + 1 by omega]
  rw [show i.toInt.toNat = i.toNatClampNeg by omega, ← ea]
  rcases hd with q | ⟨q1, q2⟩
  · exact fun p => q p.1
  · rw [← q1]; exact fun p => q2 p.2
theorem bn_yes {x y : Nat → Int32} {v w b : Int} {m : Nat} {i a c : Int32} (hb : b = binT x y v w m i.toInt.toNat) (h0 : 0 ≤ i.toInt) (h1 : i.toInt < (m : Int)) (ea : a = x i.toNatClampNeg) (ec : c = y i.toNatClampNeg) (e1 : a.toInt = v) (e2 : c.toInt = w) : b = i.toInt := by
  have c1 := o_cl (x := i) rfl h0
  rw [hb, binT_yes (by omega) (by rw [show i.toInt.toNat = i.toNatClampNeg by omega, ← ea, ← ec]; exact ⟨e1, e2⟩)]; omega
theorem bin_cl {x y h : Nat → Int32} {K : Nat} {u v : Int} (hu : u = (h (7 + K)).toInt) (H : ∀ j : Nat, j < K → (x j).toInt = (h (7 + j)).toInt ∧ (y j).toInt = (h (15 + j)).toInt) : ∀ (f i : Nat), i + f = K → (clF h K v f i = true ↔ binF x y u v f i ≠ -1)
  | 0, i, _ => by
    show (false = true) ↔ ((-1 : Int) ≠ -1)
    exact ⟨fun z => absurd z (by decide), fun z => absurd rfl z⟩
  | f + 1, i, e => by
    have hi := H i (by omega)
    have ih := bin_cl (v := v) hu H f (i + 1) (by omega)
    show ((if (h (7 + i)).toInt = (h (7 + K)).toInt ∧ (h (15 + i)).toInt = v then true else clF h K v f (i + 1)) = true) ↔ ((if (x i).toInt = u ∧ (y i).toInt = v then (i : Int) else binF x y u v f (i + 1)) ≠ -1)
    by_cases c : (x i).toInt = u ∧ (y i).toInt = v
    · rw [if_pos c, if_pos (by omega)]; exact ⟨fun _ => by omega, fun _ => rfl⟩
    · rw [if_neg c, if_neg (by omega)]; exact ih
/-- a cell told, by the class -/
def RCl (P : Int → Int) (n L q r fk fp fk0 wide high : Int) (x y x' y' : Nat → Int32) (b m : Nat) (K : Int → Prop) : Prop := (∃ v1 v2 : Int32, r = 1 ∧ fk = fk0 ∧ sTak P n L 0 (wide - 1) q = .inr (av P n L q) ∧ v1.toInt = nuq P n q ∧ sTak P n L 0 (high - 1) (av P n L q) = .inr (av P n L (av P n L q)) ∧ v2.toInt = nuq P n (av P n L q) ∧ binT (upd x b v1) (upd y b v2) v1.toInt v2.toInt m 0 = -1 ∧ x' = upd x b v1 ∧ y' = upd y b v2 ∧ K (av P n L (av P n L q))) ∨ (r = 0 ∧ 1 ≤ fk ∧ sTak P n L 0 (wide - 1) q = .inl (fk, fp)) ∨ (∃ v1 : Int32, r = 0 ∧ 1 ≤ fk ∧ sTak P n L 0 (wide - 1) q = .inr (av P n L q) ∧ v1.toInt = nuq P n q ∧ sTak P n L 0 (high - 1) (av P n L q) = .inl (fk, fp) ∧ (tkq P n L (av P n L q) = 2 → 0 ≤ nuq P n (av P n L q))) ∨ (∃ v1 v2 : Int32, r = 0 ∧ fk = 3 ∧ fp = plq n L (av P n L q) ∧ sTak P n L 0 (wide - 1) q = .inr (av P n L q) ∧ v1.toInt = nuq P n q ∧ sTak P n L 0 (high - 1) (av P n L q) = .inr (av P n L (av P n L q)) ∧ v2.toInt = nuq P n (av P n L q) ∧ binT (upd x b v1) (upd y b v2) v1.toInt v2.toInt m 0 ≠ -1)
/-- a name noted behind the others -/
def Cn (names g : Nat → Int32) (P : Int → Int) (b : Nat) (q l : Int) : Prop := Ns g P b q l ∧ ∀ j : Nat, (j < 7 * b ∨ 7 * b + 7 ≤ j) → g j = names j
theorem Cn.zero {names : Nat → Int32} {P : Int → Int} {b : Nat} {q l : Int} (h : l ≤ 0) : Cn names names P b q l := ⟨Ns.zero h, fun _ _ => rfl⟩
theorem Cn.step {names g : Nat → Int32} {P : Int → Int} {b : Nat} {q l l' : Int} {x v : Int32} (h : Cn names g P b q l) (h0 : 0 ≤ l) (h7 : l < 7) (hx : x.toInt = 7 * (b : Int) + l) (e : P (q + l) = v.toInt) (hl : l' = l + 1) : Cn names (upd g x.toNatClampNeg v) P b q l' := by
  have c := o_cl hx (by omega)
  refine ⟨fun i hi => ?_, fun j hj => ?_⟩
  · unfold nmF
    by_cases z : (i : Int) = l
    · rw [upd_at (by omega), z, e]
    · rw [upd_ne (by omega)]; exact h.1 i (by omega)
  · rw [upd_ne (by omega)]; exact h.2 j hj
theorem Cn.cast {names g : Nat → Int32} {P : Int → Int} {b : Nat} {q l l' : Int} (h : Cn names g P b q l) (e : l' = l) : Cn names g P b q l' := e ▸ h
theorem updL_at {f : Nat → Int64} {k j : Nat} {v : Int64} (h : j = k) : vp_updL f k v j = v := by simp only [vp_updL, if_pos h]
theorem updL_ne {f : Nat → Int64} {k j : Nat} {v : Int64} (h : j ≠ k) : vp_updL f k v j = f j := by simp only [vp_updL, if_neg h]
theorem Nms.add {P : Int → Int} {n L q kind place size value word next books l : Int} {sizes sizes' names names' : Nat → Int32} {nm : Nat → Int64} {a : Nat} {b z : Int32} (t : Tc P n L q kind place size value word next) (hk : tkq P n L q = 1) (hN : Nms books sizes names nm a) (h0 : 0 ≤ b.toInt) (hb : b.toInt = books) (es : upd sizes b.toNatClampNeg z = sizes') (hz : z.toInt = size) (hC : Cn names names' P b.toInt.toNat place l) (hl : size ≤ l) : Nms (books + 1) sizes' names' (vp_updL nm (a + b.toInt.toNat) (lN (wcq P n q).toNat)) a := by
  have c := o_cl (x := b) rfl h0
  have s := t.siz hk
  obtain ⟨g1, g2⟩ := tk1_let hk
  intro i hi
  by_cases e : i = b.toInt.toNat
  · subst e
    rw [updL_at rfl, ← es, upd_at (by omega)]
    have hN' : ∀ j : Nat, (j : Int) < size → nmF names' b.toInt.toNat j = P (q + j) := fun j hj => by rw [hC.1 j (by omega), s.2.2.2.2]
    refine ⟨by omega, by omega, fun j hj => ?_, ?_⟩
    · rw [show (0 : Int) + (j : Int) = (j : Int) by omega, hN' j (by omega)]; exact g1 j (by omega)
    · have e3 : cod (nmF names' b.toInt.toNat) 0 z.toInt.toNat = cod P q z.toInt.toNat := cod_eq _ (fun j hj => by rw [show (0 : Int) + (j : Int) = (j : Int) by omega]; exact hN' j (by omega))
      have : wcq P n q = cod P q (rl P n q) := rfl
      rw [e3, this, show z.toInt.toNat = rl P n q by omega]
  · have h1 := hN i (by omega)
    rw [updL_ne (by omega), ← es, upd_ne (by omega)]
    obtain ⟨k1, k2, k3, k4⟩ := h1
    have hN' : ∀ j : Nat, j < 7 → nmF names' i j = nmF names i j := fun j hj => by
      unfold nmF
      rw [hC.2 _ (by omega)]
    refine ⟨k1, k2, fun j hj => ?_, ?_⟩
    · rw [show (0 : Int) + (j : Int) = (j : Int) by omega, hN' j (by omega)]
      have := k3 j hj
      rw [show (0 : Int) + (j : Int) = (j : Int) by omega] at this
      exact this
    · rw [k4]
      congr 2
      exact cod_eq _ (fun j hj => by rw [show (0 : Int) + (j : Int) = (j : Int) by omega]; exact (hN' j (by omega)).symm)
theorem Nms.le {books m : Int} {sizes names : Nat → Int32} {nm : Nat → Int64} {a : Nat} (h : Nms books sizes names nm a) (e : m ≤ books) : Nms m sizes names nm a := fun b hb => h b (by omega)
/-- Integer.bitCount, below 256 -/
def us (x k : Int32) : Int32 := (x.toUInt32 >>> (k.toUInt32 &&& Int32.toUInt32 31)).toInt32
def bcF (v : Int32) : Int32 := (fun a : Int32 => (fun b : Int32 => (fun c : Int32 => (fun d : Int32 => (d + us d 16) &&& 63) (c + us c 8)) ((b + us b 4) &&& 252645135)) ((a &&& 858993459) + (us a 2 &&& 858993459))) (v - (us v 1 &&& 1431655765))
theorem bcF_ok : ∀ k : Nat, k < 256 → (bcF (nI k)).toInt = bc (k : Int) := by decide +kernel
theorem bcx {v z1 z2 z3 z4 z5 z6 z7 z8 z9 z10 z11 z12 z13 z14 r : Int32} (h0 : 0 ≤ v.toInt) (h1 : v.toInt ≤ 255) (d1 : z1 = us v 1) (d2 : z2 = z1 &&& 1431655765) (d3 : z3 = v - z2) (d4 : z4 = z3 &&& 858993459) (d5 : z5 = us z3 2) (d6 : z6 = z5 &&& 858993459) (d7 : z7 = z4 + z6) (d8 : z8 = us z7 4) (d9 : z9 = z7 + z8) (d10 : z10 = z9 &&& 252645135) (d11 : z11 = us z10 8) (d12 : z12 = z10 + z11) (d13 : z13 = us z12 16) (d14 : z14 = z12 + z13) (d15 : r = z14 &&& 63) : r.toInt = bc v.toInt := by
  obtain ⟨k, hk, ek, rfl⟩ := o_nat (x := v) rfl h0
  have h := bcF_ok k (by omega)
  rw [ek, ← h]
  subst d15; subst d14; subst d13; subst d12; subst d11; subst d10; subst d9; subst d8; subst d7; subst d6; subst d5; subst d4; subst d3; subst d2; subst d1
  rfl
section
variable {wide high law spin line draught books rare : Int} {qu sizes names x y told : Nat → Int32} {wt wo : Int32} {h : Nat → Int32} {nm : Nat → Int64} {on we : Int32}
theorem RlC.bk (R : RlC wide high law spin line draught books rare qu sizes names x y told wt wo h nm on we) : books = (h 0).toInt ∧ wide = (h 1).toInt ∧ high = (h 2).toInt ∧ rare = (h 103).toInt ∧ 0 ≤ rare ∧ rare ≤ 255 ∧ bc rare ≤ 3 := by
  obtain ⟨⟨a1, a2, a3, a4, a5, a6, a7, a8, a9, a10, a11⟩, -⟩ := R
  exact ⟨a7, a1, a2, a8, a9, a10, a11⟩
theorem sBok_c4 {P : Int → Int} {n L q kind place size value word next fk fp : Int} (R : RlC wide high law spin line draught books rare qu sizes names x y told wt wo h nm on we) (t : Tc P n L q kind place size value word next) (hb : books = 8) (hf : fk = 4) (hp : fp = place) : sBok P n L q h nm on we = .inl (fk, fp) := by
  have r := R.bk
  unfold sBok; rw [if_pos (by omega), hf, hp, t.pl]
theorem sBok_c1 {f : Nat → Int32} {n L q kind place size value word next fk fp : Int} (R : RlC wide high law spin line draught books rare qu sizes names x y told wt wo h nm on we) (hb : books ≠ 8) (t : Tc (Pk f n) n L (av (Pk f n) n L q) kind place size value word next) (hn : ¬ (kind = 1 ∧ word = 0)) (hf : fk = 1) (hp : fp = place) : sBok (Pk f n) n L q h nm on we = .inl (fk, fp) := by
  have r := R.bk
  have hk := t.kinds
  have hw := t.wrd
  have hl := t.pl
  unfold sBok
  rw [if_neg (by omega), if_neg (fun z => by
    unfold wq at hw; rw [if_pos z.1] at hw
    omega), hf, hp, hl]
theorem sBok_c3 {f : Nat → Int32} {n L q kind place size value word next fk fp g : Int} {m : Nat} (R : RlC wide high law spin line draught books rare qu sizes names x y told wt wo h nm on we) (hb : books ≠ 8) (t : Tc (Pk f n) n L (av (Pk f n) n L q) kind place size value word next) (h1 : kind = 1) (h2 : word = 0) (hm : (m : Int) = books) (hg : g = fnd nm (lN (wcq (Pk f n) n (av (Pk f n) n L q)).toNat) 8 m) (hg0 : 0 ≤ g) (hf : fk = 3) (hp : fp = place) : sBok (Pk f n) n L q h nm on we = .inl (fk, fp) := by
  have r := R.bk
  have e := nam_c t h1 h2
  have hl := t.pl
  unfold sBok
  rw [if_neg (by omega), if_pos e, show (h 0).toInt.toNat = m by omega, if_pos (by omega), hf, hp, hl]
theorem sBok_cgo {f : Nat → Int32} {n L q kind place size value word next g : Int} {m : Nat} {X : SR5} (R : RlC wide high law spin line draught books rare qu sizes names x y told wt wo h nm on we) (hb : books ≠ 8) (t : Tc (Pk f n) n L (av (Pk f n) n L q) kind place size value word next) (h1 : kind = 1) (h2 : word = 0) (hm : (m : Int) = books) (hg : g = fnd nm (lN (wcq (Pk f n) n (av (Pk f n) n L q)).toNat) 8 m) (hg0 : g < 0) (ex : sb5 (sPut (Pk f n) n L (7 + m) 0 (wide - 1) (av (Pk f n) n L (av (Pk f n) n L q)) h (vp_updL nm (8 + m) (lN (wcq (Pk f n) n (av (Pk f n) n L q)).toNat)) (on ||| 1) we) (fun q3 h1 nm1 on1 we1 => sBo2 (Pk f n) n L m q3 h1 nm1 on1 we1) = X) : sBok (Pk f n) n L q h nm on we = X := by
  have r := R.bk
  have e := nam_c t h1 h2
  unfold sBok
  rw [if_neg (by omega), if_pos e, show (h 0).toInt.toNat = m by omega, if_neg (by omega), show (h 1).toInt - 1 = wide - 1 by omega]
  exact ex
end
theorem sBo2_cno {P : Int → Int} {n L q hi : Int} {K : Nat} {h : Nat → Int32} {nm : Nat → Int64} {on we : Int32} {a : Int × Int} (hh : hi = (h 2).toInt) (e : sTak P n L 0 (hi - 1) q = .inl a) (hp : tkq P n L q = 2 → 0 ≤ nuq P n q) : sBo2 P n L K q h nm on we = .inl a := by
  unfold sTak at e
  unfold sBo2
  by_cases c : tkq P n L q = 2
  · rw [if_pos c] at e ⊢
    have := hp c
    by_cases d : (h 2).toInt ≤ nuq P n q
    · rw [if_pos d]; rw [if_neg (by omega)] at e
      injection e with e; rw [← e]
    · rw [if_pos (by omega)] at e; cases e
  · rw [if_neg c] at e ⊢
    injection e with e; rw [← e]
theorem sTak_is {P : Int → Int} {n L lo hi q q' : Int} (e : sTak P n L lo hi q = .inr q') : tkq P n L q = 2 ∧ lo ≤ nuq P n q ∧ nuq P n q ≤ hi := by
  unfold sTak at e
  by_cases c : tkq P n L q = 2
  · rw [if_pos c] at e
    by_cases d : lo ≤ nuq P n q ∧ nuq P n q ≤ hi
    · exact ⟨c, d⟩
    · rw [if_neg d] at e; cases e
  · rw [if_neg c] at e; cases e
theorem sBo2_c3 {P : Int → Int} {n L q hi fk fp : Int} {K : Nat} {h : Nat → Int32} {nm : Nat → Int64} {on we : Int32} (hh : hi = (h 2).toInt) (e : sTak P n L 0 (hi - 1) q = .inr (av P n L q)) (hc : clT h K (nuq P n q) 0 = true) (hf : fk = 3) (hp : fp = plq n L q) : sBo2 P n L K q h nm on we = .inl (fk, fp) := by
  obtain ⟨a, b, c⟩ := sTak_is e
  unfold sBo2; rw [if_pos a, if_neg (by omega), if_pos hc, hf, hp]
theorem sBo2_cgo {P : Int → Int} {n L q hi : Int} {K : Nat} {h : Nat → Int32} {nm : Nat → Int64} {on we v : Int32} {X : SR5} (hh : hi = (h 2).toInt) (e : sTak P n L 0 (hi - 1) q = .inr (av P n L q)) (hc : clT h K (nuq P n q) 0 = false) (hv : v.toInt = nuq P n q) (ex : sBo3 P n L K (av P n L q) (upd h (15 + K) v) nm on we = X) : sBo2 P n L K q h nm on we = X := by
  obtain ⟨a, b, c⟩ := sTak_is e
  unfold sBo2; rw [if_pos a, if_neg (by omega), if_neg (by rw [hc]; decide), ← of_int hv]; exact ex
theorem cell_is {x y h : Nat → Int32} {v1 v2 : Int32} {K : Nat} {books : Int} (hK : (K : Int) = books) (hK8 : K < 8) (H : ∀ b : Nat, (b : Int) < books → x b = h (7 + b) ∧ y b = h (15 + b)) : clT (upd h (7 + K) v1) K v2.toInt 0 = true ↔ binT (upd x K v1) (upd y K v2) v1.toInt v2.toInt K 0 ≠ -1 := by
  have h9 := bin_cl (x := upd x K v1) (y := upd y K v2) (h := upd h (7 + K) v1) (K := K) (u := v1.toInt) (v := v2.toInt) (by rw [upd_at rfl]) (fun j hj => by
    have := H j (by omega)
    rw [upd_ne (show j ≠ K by omega), upd_ne (show j ≠ K by omega), upd_ne (show 7 + j ≠ 7 + K by omega), upd_ne (show 15 + j ≠ 7 + K by omega), this.1, this.2]
    exact ⟨rfl, rfl⟩) K 0 (by omega)
  exact h9
theorem one_shl : ((1 : Int32) <<< ((0 : Int32) &&& 31)) = 1 := by decide
theorem bt_low {on : Int32} {i : Int32} (h0 : 1 ≤ i.toInt) (h1 : i.toInt < 32) : bt (on ||| 1) i = 1 ↔ bt on i = 1 := by
  have h9 := bt_set (v := on) (w := 0) (j := i) (by decide) (by decide) (by omega) h1
  have z : (0 : Int32).toInt = 0 := by decide
  rw [one_shl, z] at h9
  exact ⟨fun q => (h9.mp q).elim id (fun q => absurd q (by omega)), fun q => h9.mpr (Or.inl q)⟩
theorem bt_low0 {on : Int32} : bt (on ||| 1) 0 = 1 := by
  have h9 := bt_set (v := on) (w := 0) (j := 0) (by decide) (by decide) (by decide) (by decide)
  rw [one_shl] at h9
  exact h9.mpr (Or.inr rfl)
theorem RlC.book {wide high law spin line draught books books' rare rare' : Int} {qu sizes names x y told sizes' names' : Nat → Int32} {wt wo v1 v2 : Int32} {h h4 : Nat → Int32} {nm nm' : Nat → Int64} {on we : Int32} {K : Nat} (R : RlC wide high law spin line draught books rare qu sizes names x y told wt wo h nm on we) (hK : (K : Int) = books) (hK8 : K < 8) (hN : Nms (books + 1) sizes' names' nm' 8) (hb : books' = books + 1) (hr : rare' = (h4 103).toInt ∧ 0 ≤ rare' ∧ rare' ≤ 255 ∧ bc rare' ≤ 3) (e0 : (h4 0).toInt = books + 1) (e7 : h4 (7 + K) = v1) (e15 : h4 (15 + K) = v2) (ne : ∀ i : Nat, i ≠ 0 → i ≠ 7 + K → i ≠ 15 + K → i ≠ 103 → h4 i = h i) : RlC wide high law spin line draught books' rare' qu sizes' names' (upd x K v1) (upd y K v2) told wt wo h4 nm' (on ||| 1) we := by
  obtain ⟨⟨a1, a2, a3, a4, a5, a6, a7, a8⟩, b, c, d, e, ⟨f1, f2, f3, f4, f5⟩, g⟩ := R
  refine ⟨⟨?_, ?_, ?_, ?_, ?_, ?_, ?_, hr⟩, b, ?_, ?_, ?_, ⟨?_, ?_, ?_, ?_, ?_⟩, ?_⟩
  · rw [ne 1 (by omega) (by omega) (by omega) (by omega)]; exact a1
  · rw [ne 2 (by omega) (by omega) (by omega) (by omega)]; exact a2
  · rw [ne 3 (by omega) (by omega) (by omega) (by omega)]; exact a3
  · rw [ne 4 (by omega) (by omega) (by omega) (by omega)]; exact a4
  · rw [ne 5 (by omega) (by omega) (by omega) (by omega)]; exact a5
  · rw [ne 6 (by omega) (by omega) (by omega) (by omega)]; exact a6
  · omega
  · intro i hi; rw [ne _ (by omega) (by omega) (by omega) (by omega)]; exact c i hi
  · intro i hi
    by_cases z : i = K
    · rw [z, upd_at rfl, upd_at rfl, e7, e15]; exact ⟨rfl, rfl⟩
    · rw [upd_ne z, upd_ne z, ne _ (by omega) (by omega) (by omega) (by omega), ne _ (by omega) (by omega) (by omega) (by omega)]; exact d i (by omega)
  · intro p q hp hq; rw [ne _ (by omega) (by omega) (by omega) (by omega)]; exact e p q hp hq
  · rw [bt_low (by decide) (by decide)]; exact f1
  · rw [bt_low (by decide) (by decide)]; exact f2
  · rw [bt_low (by decide) (by decide)]; exact f3
  · rw [bt_low (by decide) (by decide)]; exact f4
  · exact ⟨fun _ => Or.inr (by omega), fun _ => bt_low0⟩
  · rw [hb]; exact hN
theorem RlC.bookP {wide high law spin line draught books books' rare : Int} {qu sizes names x y told sizes' names' : Nat → Int32} {wt wo v1 v2 : Int32} {h : Nat → Int32} {nm nm' : Nat → Int64} {on we : Int32} {K : Nat} (R : RlC wide high law spin line draught books rare qu sizes names x y told wt wo h nm on we) (hK : (K : Int) = books) (hK8 : K < 8) (hN : Nms (books + 1) sizes' names' nm' 8) (hb : books' = books + 1) : RlC wide high law spin line draught books' rare qu sizes' names' (upd x K v1) (upd y K v2) told wt wo (upd (upd (upd h (7 + K) v1) (15 + K) v2) 0 ((upd (upd h (7 + K) v1) (15 + K) v2) 0 + 1)) nm' (on ||| 1) we := by
  have r := R.bk
  have e1 : (upd (upd h (7 + K) v1) (15 + K) v2) 0 = h 0 := by rw [upd_ne (by omega), upd_ne (by omega)]
  refine R.book hK hK8 hN hb ?_ ?_ ?_ ?_ ?_
  · rw [upd_ne (by decide), upd_ne (by omega), upd_ne (by omega)]; exact ⟨r.2.2.2.1, r.2.2.2.2.1, r.2.2.2.2.2.1, r.2.2.2.2.2.2⟩
  · rw [upd_at rfl, e1]
    have := o_add (x := h 0) (y := 1) (z := h 0 + 1) rfl rfl (by decide : (1 : Int32).toInt = 1) (by omega) (by omega)
    omega
  · rw [upd_ne (by omega), upd_ne (by omega), upd_at rfl]
  · rw [upd_ne (by omega), upd_at rfl]
  · intro i h0 h7 h15 _; rw [upd_ne h0, upd_ne h15, upd_ne h7]
theorem RlC.bookR {wide high law spin line draught books books' : Int} {rare rare' y1 k r : Int32} {qu sizes names x y told sizes' names' : Nat → Int32} {wt wo v1 v2 : Int32} {h : Nat → Int32} {nm nm' : Nat → Int64} {on we : Int32} {K : Nat} (R : RlC wide high law spin line draught books rare.toInt qu sizes names x y told wt wo h nm on we) (hK : (K : Int) = books) (hK8 : K < 8) (hN : Nms (books + 1) sizes' names' nm' 8) (hb : books' = books + 1) (hk : k.toInt = (K : Int)) (dy : y1 = (1 : Int32) <<< (k &&& 31)) (dr : rare' = rare ||| y1) (hc : r.toInt = bc rare.toInt) (h3 : r.toInt ≠ 3) : RlC wide high law spin line draught books' rare'.toInt qu sizes' names' (upd x K v1) (upd y K v2) told wt wo (upd (upd (upd (upd h (7 + K) v1) (15 + K) v2) 103 ((upd (upd h (7 + K) v1) (15 + K) v2) 103 ||| ((1 : Int32) <<< (nI K &&& 31)))) 0 ((upd (upd (upd h (7 + K) v1) (15 + K) v2) 103 ((upd (upd h (7 + K) v1) (15 + K) v2) 103 ||| ((1 : Int32) <<< (nI K &&& 31)))) 0 + 1)) nm' (on ||| 1) we := by
  have rr := R.bk
  have e1 : (upd (upd h (7 + K) v1) (15 + K) v2) 0 = h 0 := by rw [upd_ne (by omega), upd_ne (by omega)]
  have e103 : (upd (upd h (7 + K) v1) (15 + K) v2) 103 = rare := by
    rw [upd_ne (by omega), upd_ne (by omega)]; exact o_meq rfl rfl rr.2.2.2.1.symm
  have ek : nI K = k := o_meq (b := (K : Int)) (nI_toInt (by omega)) hk rfl
  rw [e103, ek, ← dy, ← dr]
  have hy := o_shl1 dy rfl (by omega) (by omega)
  have hb8 := o_or 8 256 dr rfl rfl rr.2.2.2.2.1 (by omega) (by omega) (by omega) (by decide) (by decide)
  have hp : Pb h := by unfold Pb; rw [← rr.2.2.2.1]; exact rr.2.2.2.2.2.2
  have hp2 := Pb.set (f := h) (x := rare) (v := rare') hp (o_meq rfl rfl rr.2.2.2.1) hc h3 rr.2.2.2.2.1 rr.2.2.2.2.2.1 dy (by omega) (by omega) dr
  unfold Pb at hp2
  rw [upd_at rfl] at hp2
  have e2 : (upd (upd (upd h (7 + K) v1) (15 + K) v2) 103 rare') 0 = h 0 := by rw [upd_ne (by decide)]; exact e1
  refine R.book hK hK8 hN hb ?_ ?_ ?_ ?_ ?_
  · rw [upd_ne (by decide), upd_at rfl]; exact ⟨rfl, hb8.1, by omega, hp2⟩
  · rw [upd_at rfl, e2]
    have := o_add (x := h 0) (y := 1) (z := h 0 + 1) rfl rfl (by decide : (1 : Int32).toInt = 1) (by omega) (by omega)
    omega
  · rw [upd_ne (by omega), upd_ne (by omega), upd_ne (by omega), upd_at rfl]
  · rw [upd_ne (by omega), upd_ne (by omega), upd_at rfl]
  · intro i h0 h7 h15 h103; rw [upd_ne h0, upd_ne h103, upd_ne h15, upd_ne h7]
theorem sBo3_c4 {P : Int → Int} {n L q kind place size value word next fk fp : Int} {K : Nat} {h2 : Nat → Int32} {nm : Nat → Int64} {on we v r : Int32} (t : Tc P n L q kind place size value word next) (hw : word = 3) (ev : v = h2 103) (hr : r.toInt = bc v.toInt) (h3 : 3 ≤ r.toInt) (hb : bc v.toInt ≤ 3) (hf : fk = 4) (hp : fp = place) : sBo3 P n L K q h2 nm on we = .inl (fk, fp) := by
  subst ev
  unfold sBo3; rw [if_pos (by rw [← t.wrd]; exact hw), if_pos (by omega), hf, hp, t.pl]
theorem sBo3_cr {P : Int → Int} {n L q kind place size value word next : Int} {K : Nat} {h2 : Nat → Int32} {nm : Nat → Int64} {on we v r : Int32} (t : Tc P n L q kind place size value word next) (hw : word = 3) (ev : v = h2 103) (hr : r.toInt = bc v.toInt) (h3 : r.toInt < 3) : sBo3 P n L K q h2 nm on we = .inr (av P n L q, upd (upd h2 103 (h2 103 ||| ((1 : Int32) <<< (nI K &&& 31)))) 0 ((upd h2 103 (h2 103 ||| ((1 : Int32) <<< (nI K &&& 31)))) 0 + 1), nm, on, we) := by
  subst ev
  unfold sBo3; rw [if_pos (by rw [← t.wrd]; exact hw), if_neg (by omega)]
theorem sBo3_cp {P : Int → Int} {n L q kind place size value word next : Int} {K : Nat} {h2 : Nat → Int32} {nm : Nat → Int64} {on we : Int32} (t : Tc P n L q kind place size value word next) (hw : word ≠ 3) : sBo3 P n L K q h2 nm on we = .inr (q, upd h2 0 (h2 0 + 1), nm, on, we) := by
  unfold sBo3; rw [if_neg (by rw [← t.wrd]; exact hw)]
