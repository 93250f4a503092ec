/-- the model: octets by their places -/
theorem oc_ob {f : Nat → Int32} {r i : Int32} {j : Nat} (h : r = oc f i) (hi : i.toInt = (j : Int)) : r.toInt = ob f j := by
  have c := o_cl (x := i) rfl (by omega)
  rw [h]
  unfold oc ob
  rw [and255, show i.toNatClampNeg = j by omega]
theorem o_remx {x y z : Int32} {a b : Int} (hz : z = x - x / y * y) (hx : x.toInt = a) (hy : y.toInt = b) (h1 : 0 ≤ a) (h2 : 0 < b) : z.toInt = a % b := by
  obtain ⟨j, hj, ea, rfl⟩ := o_nat hx h1
  obtain ⟨k, hk, eb, rfl⟩ := o_nat hy (Int.le_of_lt h2)
  subst hz; subst ea; subst eb
  have hm := Nat.mod_le j k
  rw [pk_rem hj (by omega) hk, nI_toInt (Nat.lt_of_le_of_lt hm hj)]
  exact Int.natCast_emod j k
/-- the first i octets are sound triples -/
def okU (f : Nat → Int32) (i : Int) : Prop := i % 3 = 0 ∧ allB (okT f) (i.toNat / 3) = true
theorem okU.zero {f : Nat → Int32} {i : Int} (h : i = 0) : okU f i := by subst h; exact ⟨rfl, rfl⟩
theorem okU.step {f : Nat → Int32} {i : Int} {a b c : Int32} (h : okU f i) (h0 : 0 ≤ i) {x y : Int32} {i0 : Int32} (ei : i0.toInt = i) (ha : a = oc f i0) (hx : x.toInt = i + 1) (hb : b = oc f x) (hy : y.toInt = i + 2) (hc : c = oc f y) (hk : a.toInt ≤ 99 ∧ 1 ≤ b.toInt ∧ b.toInt ≤ 99 ∧ c.toInt ≤ 99) : okU f (i + 3) := by
  have m := h.1
  have a1 := oc_ob (j := 3 * (i.toNat / 3) + 0) ha (by omega)
  have b1 := oc_ob (j := 3 * (i.toNat / 3) + 1) hb (by omega)
  have c1 := oc_ob (j := 3 * (i.toNat / 3) + 2) hc (by omega)
  refine ⟨by omega, ?_⟩
  rw [show (i + 3).toNat / 3 = i.toNat / 3 + 1 by omega, allB_succ, h.2, ok_yes a1.symm b1.symm c1.symm hk]; rfl
theorem okU.cast {f : Nat → Int32} {i j : Int} (h : okU f i) (e : j = i) : okU f j := e ▸ h
theorem ok_noA {f : Nat → Int32} {n i : Int} {k : Nat} (h : okU f i) (hk : okT f (i.toNat / 3) = false) (h0 : 0 ≤ i) (hi : i < n) (hn : n % 3 = 0) : allB (okT f) (n.toNat / 3) = false := by
  have m := h.1
  exact allB_no hk (by omega)
theorem sp_bad {f : Nat → Int32} {n i : Int} {r : Int32} (hr : r.toInt = -1) (h : okU f i) (hk : okT f (i.toNat / 3) = false) (h0 : 0 ≤ i) (hi : i < n) (hn : n % 3 = 0) : r.toInt = spA f n := by
  have e := ok_noA (k := 0) h hk h0 hi hn
  unfold spA spB
  rw [e]
  split
  · rw [if_neg (by decide)]; exact hr
  · exact hr
theorem ok_no1 {f : Nat → Int32} {i : Int} {a i0 : Int32} (h : okU f i) (h0 : 0 ≤ i) (ei : i0.toInt = i) (ha : a = oc f i0) (hk : 99 < a.toInt) : okT f (i.toNat / 3) = false := by
  have m := h.1
  have a1 := oc_ob (j := 3 * (i.toNat / 3)) ha (by omega)
  unfold okT; exact decide_eq_false (by omega)
theorem ok_no2 {f : Nat → Int32} {i : Int} {b x : Int32} (h : okU f i) (h0 : 0 ≤ i) (ex : x.toInt = i + 1) (hb : b = oc f x) (hk : b.toInt < 1 ∨ 99 < b.toInt) : okT f (i.toNat / 3) = false := by
  have m := h.1
  have a1 := oc_ob (j := 3 * (i.toNat / 3) + 1) hb (by omega)
  unfold okT; exact decide_eq_false (by omega)
theorem ok_no3 {f : Nat → Int32} {i : Int} {c y : Int32} (h : okU f i) (h0 : 0 ≤ i) (ey : y.toInt = i + 2) (hc : c = oc f y) (hk : 99 < c.toInt) : okT f (i.toNat / 3) = false := by
  have m := h.1
  have a1 := oc_ob (j := 3 * (i.toNat / 3) + 2) hc (by omega)
  unfold okT; exact decide_eq_false (by omega)
def pn (f : Nat → Int32) (k c e : Nat) : Bool := decide (e < c) && allB (fitT f e) k
theorem pn_one {f : Nat → Int32} {x c : Int32} {k : Nat} (hx : x.toInt = 0) (hc : c.toInt = 1) : x.toInt = svv (pn f k c.toNatClampNeg) := by
  have c1 := o_cl (x := c) rfl (by omega)
  rw [hx, show c.toNatClampNeg = 1 by omega]
  have e : svv (pn f k 1) = svv (fun _ => false) := svv_eq (fun e h1 h2 => by unfold pn; rw [decide_eq_false (by omega), Bool.false_and])
  rw [e]; rfl
theorem pn_no {f : Nat → Int32} {x c c' y : Int32} {k : Nat} (h : x.toInt = svv (pn f k c.toNatClampNeg)) (ha : allB (fitT f c.toNatClampNeg) k = false) (hc : 0 ≤ c.toInt) (e' : c'.toInt = c.toInt + 1) (d : y = x ||| 0) : y.toInt = svv (pn f k c'.toNatClampNeg) := by
  have c1 := o_cl (x := c) rfl hc
  have c2 := o_cl (x := c') rfl (by omega)
  rw [or_zero d, h]
  apply svv_eq
  intro e h1 h2
  unfold pn
  by_cases q : e < c.toNatClampNeg
  · rw [decide_eq_true q, decide_eq_true (show e < c'.toNatClampNeg by omega)]
  · by_cases q2 : e = c.toNatClampNeg
    · rw [q2, ha, Bool.and_false, Bool.and_false]
    · rw [decide_eq_false q, decide_eq_false (show ¬ e < c'.toNatClampNeg by omega)]
theorem pn_yes {f : Nat → Int32} {x c c' y z : Int32} {k : Nat} (h : x.toInt = svv (pn f k c.toNatClampNeg)) (ha : allB (fitT f c.toNatClampNeg) k = true) (hc : 1 ≤ c.toInt) (hc5 : c.toInt ≤ 5) (e' : c'.toInt = c.toInt + 1) (dz : z = (1 : Int32) <<< (c &&& 31)) (d : y = x ||| z) : y.toInt = svv (pn f k c'.toNatClampNeg) := by
  have c1 := o_cl (x := c) rfl (by omega)
  have c2 := o_cl (x := c') rfl (by omega)
  have hx := of_int h
  have hcc : c = nI c.toNatClampNeg := o_meq (b := c.toInt) rfl (by rw [nI_toInt (by omega)]; exact c1) rfl
  have e1 : (Int32.ofInt (sv5 (pn f k c.toNatClampNeg 1) (pn f k c.toNatClampNeg 2) (pn f k c.toNatClampNeg 3) (pn f k c.toNatClampNeg 4) (pn f k c.toNatClampNeg 5)) ||| ((1 : Int32) <<< (nI c.toNatClampNeg &&& 31))).toInt = on5 c.toNatClampNeg (pn f k c.toNatClampNeg 1) (pn f k c.toNatClampNeg 2) (pn f k c.toNatClampNeg 3) (pn f k c.toNatClampNeg 4) (pn f k c.toNatClampNeg 5) := on_dec ⟨c.toNatClampNeg, by omega⟩ (by show 1 ≤ c.toNatClampNeg; omega) (pn f k c.toNatClampNeg 1) (pn f k c.toNatClampNeg 2) (pn f k c.toNatClampNeg 3) (pn f k c.toNatClampNeg 4) (pn f k c.toNatClampNeg 5)
  rw [← hcc] at e1
  rw [d, dz, hx]
  rw [svv_on (p := pn f k c.toNatClampNeg) (q := pn f k c'.toNatClampNeg) (c := c.toNatClampNeg)]
  · exact e1
  · intro e h1 h2
    unfold pn
    by_cases q : e < c.toNatClampNeg
    · rw [decide_eq_true q, decide_eq_true (show e < c'.toNatClampNeg by omega), decide_eq_false (show ¬ c.toNatClampNeg = e by omega), Bool.or_false]
    · by_cases q2 : e = c.toNatClampNeg
      · rw [q2, ha, decide_eq_true (show c.toNatClampNeg < c'.toNatClampNeg by omega), decide_eq_true rfl, Bool.or_true]; rfl
      · rw [decide_eq_false q, decide_eq_false (show ¬ e < c'.toNatClampNeg by omega), decide_eq_false (show ¬ c.toNatClampNeg = e by omega), Bool.or_false]
/-- one spin over the triples: is so far -/
def isU (f : Nat → Int32) (c : Nat) (x i : Int) : Prop := i % 3 = 0 ∧ x = (if allB (fitT f c) (i.toNat / 3) = true then 1 else 0)
theorem isU.zero {f : Nat → Int32} {c : Nat} {x i : Int} (hx : x = 1) (hi : i = 0) : isU f c x i := by subst hx; subst hi; exact ⟨rfl, rfl⟩
theorem isU.stay {f : Nat → Int32} {c : Nat} {x x' i i' : Int} (h : isU f c x i) (h0 : 0 ≤ i) (hx : x = 0) (hx' : x' = 0) (hi : i' = i + 3) : isU f c x' i' := by
  have m := h.1
  have e : allB (fitT f c) (i.toNat / 3) = false := by
    have q := h.2
    rw [hx] at q
    cases hq : allB (fitT f c) (i.toNat / 3) with
    | false => rfl
    | true => rw [hq, if_pos rfl] at q; exact absurd q (by decide)
  subst hi
  refine ⟨by omega, ?_⟩
  rw [show (i + 3).toNat / 3 = i.toNat / 3 + 1 by omega, allB_succ, e, Bool.false_and, if_neg (by decide)]; exact hx'
theorem isU.step {f : Nat → Int32} {c : Int32} {x x' i i' : Int} {i0 j1 j2 a b d z m : Int32} (h : isU f c.toNatClampNeg x i) (h0 : 0 ≤ i) (hc : 0 ≤ c.toInt) (hx : x ≠ 0) (e0 : i0.toInt = i) (ha : a = oc f i0) (e1 : j1.toInt = i + 1) (hb : b = oc f j1) (e2 : j2.toInt = i + 2) (hd : d = oc f j2) (hz : z.toInt = c.toInt * b.toInt) (hm : (m.toInt = 99 ∧ 99 ≤ a.toInt + z.toInt) ∨ (m.toInt = a.toInt + z.toInt ∧ a.toInt + z.toInt ≤ 99)) (hx' : (m.toInt = d.toInt ∧ x' = 1) ∨ (m.toInt ≠ d.toInt ∧ x' = 0)) (hi : i' = i + 3) : isU f c.toNatClampNeg x' i' := by
  have q := h.1
  have a1 := oc_ob (j := 3 * (i.toNat / 3) + 0) ha (by omega)
  have b1 := oc_ob (j := 3 * (i.toNat / 3) + 1) hb (by omega)
  have c1 := oc_ob (j := 3 * (i.toNat / 3) + 2) hd (by omega)
  have ft := fit_cls (k := i.toNat / 3) (e := c) (z := z) (m := m) a1.symm b1.symm c1.symm hc hz hm
  have e : allB (fitT f c.toNatClampNeg) (i.toNat / 3) = true := by
    have q := h.2
    cases hq : allB (fitT f c.toNatClampNeg) (i.toNat / 3) with
    | true => rfl
    | false => rw [hq, if_neg (by decide)] at q; exact absurd q hx
  subst hi
  refine ⟨by omega, ?_⟩
  rw [show (i + 3).toNat / 3 = i.toNat / 3 + 1 by omega, allB_succ, e, ft, Bool.true_and]
  rcases hx' with ⟨p1, p2⟩ | ⟨p1, p2⟩
  · rw [decide_eq_true p1, if_pos rfl]; exact p2
  · rw [decide_eq_false p1, if_neg (by decide)]; exact p2
theorem isU.all {f : Nat → Int32} {c : Nat} {x i n : Int} (h : isU f c x i) (hx : x ≠ 0) (e : i = n) : allB (fitT f c) (n.toNat / 3) = true := by
  subst e
  have q := h.2
  cases hq : allB (fitT f c) (i.toNat / 3) with
  | true => rfl
  | false => rw [hq, if_neg (by decide)] at q; exact absurd q hx
theorem isU.none {f : Nat → Int32} {c : Nat} {x i n : Int} (h : isU f c x i) (hx : x = 0) (e : i = n) : allB (fitT f c) (n.toNat / 3) = false := by
  subst e
  have q := h.2
  rw [hx] at q
  cases hq : allB (fitT f c) (i.toNat / 3) with
  | false => rfl
  | true => rw [hq, if_pos rfl] at q; exact absurd q (by decide)
theorem sp_all {f : Nat → Int32} {x c : Int32} {n m : Int} (h : x.toInt = svv (pn f (n.toNat / 3) c.toNatClampNeg)) (ho : okU f n) (hc : 6 ≤ c.toInt) (h1 : 3 ≤ n) (h2 : n ≤ 18) (e : m = n) : x.toInt = spA f m := by
  subst e
  have c1 := o_cl (x := c) rfl (by omega)
  unfold spA spB
  rw [if_pos ⟨h1, h2, ho.1⟩, if_pos ho.2, h]
  apply svv_eq
  intro e h3 h4
  unfold pn; rw [decide_eq_true (show e < c.toNatClampNeg by omega), Bool.true_and]
