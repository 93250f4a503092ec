theorem sBok_no4 {P : Int → Int} {n L q tok at_ num p f fa : Int} {w : Int64} {h : Nat → Int32} {nm : Nat → Int64} {on we k : Int32} (t : Tm P n L q tok at_ num w p) (e0 : k = h 0) (hk : k.toInt = 8) (hf : f = 4) (ha : fa = at_) : sBok P n L q h nm on we = .inl (f, fa) := by
  subst e0; unfold sBok; rw [if_pos hk, hf, ha, t.2.1]
theorem sBok_no1 {P : Int → Int} {n L q tok at_ num p f fa x : Int} {w : Int64} {h : Nat → Int32} {nm rs : Nat → Int64} {on we k : Int32} (e0 : k = h 0) (hk : k.toInt ≠ 8) (t : Tm P n L (av P n L q) tok at_ num w p) (hR : Rsv rs) (hN : NnA x tok w rs 25) (hx : x = 0) (hf : f = 1) (ha : fa = at_) : sBok P n L q h nm on we = .inl (f, fa) := by
  subst e0; unfold sBok
  rcases hN with ⟨c, d⟩ | ⟨c, d⟩
  · omega
  · rw [if_neg hk, if_neg (fun z => d ((nn_iff t hR).mpr z)), hf, ha, t.2.1]
theorem sBok_no3 {P : Int → Int} {n L q tok at_ num p f fa x g : Int} {w : Int64} {h : Nat → Int32} {nm rs : Nat → Int64} {on we k : Int32} (e0 : k = h 0) (hk : k.toInt ≠ 8) (t : Tm P n L (av P n L q) tok at_ num w p) (hR : Rsv rs) (hN : NnA x tok w rs 25) (hx : x ≠ 0) (hg : g = fnd nm w 8 k.toInt.toNat) (hg0 : 0 ≤ g) (hf : f = 3) (ha : fa = at_) : sBok P n L q h nm on we = .inl (f, fa) := by
  subst e0; unfold sBok
  rcases hN with ⟨c, d⟩ | ⟨c, d⟩
  · have e := (nn_iff t hR).mp d
    have ew := t.2.2.2.2 d.1
    rw [if_neg hk, if_pos e, ← ew, if_pos (by rw [← hg]; exact hg0), hf, ha, t.2.1]
  · omega
theorem sBok_go {P : Int → Int} {n L q tok at_ num p x g : Int} {w : Int64} {h : Nat → Int32} {nm nm' rs : Nat → Int64} {on on' we k y z i v1 : Int32} {X : SR5} (e0 : k = h 0) (hk0 : 0 ≤ k.toInt) (hk : k.toInt ≠ 8) (t : Tm P n L (av P n L q) tok at_ num w p) (hR : Rsv rs) (hN : NnA x tok w rs 25) (hx : x ≠ 0) (hg : g = fnd nm w 8 k.toInt.toNat) (hg0 : g < 0) (hi : i.toInt = 8 + k.toInt) (en : vp_updL nm i.toNatClampNeg w = nm') (eo : on' = on ||| 1) (hy : y.toInt = 7 + k.toInt) (e1 : v1 = h 1) (hz : z.toInt = v1.toInt - 1) (ex : sb5 (sPut P n L y.toNatClampNeg 0 z.toInt (av P n L (av P n L q)) h nm' on' we) (fun q3 h1 nm1 on1 we1 => sBo2 P n L k.toInt.toNat q3 h1 nm1 on1 we1) = X) : sBok P n L q h nm on we = X := by
  have c1 := o_cl hi (by omega)
  have c2 := o_cl hy (by omega)
  subst e0; subst e1; unfold sBok
  rcases hN with ⟨c, d⟩ | ⟨c, d⟩
  · have e := (nn_iff t hR).mp d
    have ew := t.2.2.2.2 d.1
    rw [if_neg hk, if_pos e, ← ew, if_neg (by rw [← hg]; omega), show 8 + (h 0).toInt.toNat = i.toNatClampNeg by omega, show 7 + (h 0).toInt.toNat = y.toNatClampNeg by omega, en, ← eo, ← hz]
    exact ex
  · omega
theorem sBo2_no1 {P : Int → Int} {n L q tok at_ num p f fa : Int} {w : Int64} {K : Nat} {h : Nat → Int32} {nm : Nat → Int64} {on we : Int32} (t : Tm P n L q tok at_ num w p) (e : tok ≠ 2) (hf : f = 1) (ha : fa = at_) : sBo2 P n L K q h nm on we = .inl (f, fa) := by
  unfold sBo2; rw [if_neg (by rw [← t.1]; exact e), hf, ha, t.2.1]
theorem sBo2_no2 {P : Int → Int} {n L q tok at_ num p f fa : Int} {w : Int64} {K : Nat} {h : Nat → Int32} {nm : Nat → Int64} {on we v : Int32} (t : Tm P n L q tok at_ num w p) (e : tok = 2) (e2 : v = h 2) (h1 : v.toInt ≤ num) (hf : f = 2) (ha : fa = at_) : sBo2 P n L K q h nm on we = .inl (f, fa) := by
  have h3 := t.2.2.2.1 (Or.inl e)
  subst e2
  unfold sBo2; rw [if_pos (by rw [← t.1]; exact e), if_pos (by rw [← h3]; exact h1), hf, ha, t.2.1]
theorem sBo2_no3 {P : Int → Int} {n L q tok at_ num p f fa : Int} {w : Int64} {K : Nat} {h : Nat → Int32} {nm : Nat → Int64} {on we v : Int32} (t : Tm P n L q tok at_ num w p) (e : tok = 2) (e2 : v = h 2) (h1 : num < v.toInt) (hc : clT h K num 0 = true) (hf : f = 3) (ha : fa = at_) : sBo2 P n L K q h nm on we = .inl (f, fa) := by
  have h3 := t.2.2.2.1 (Or.inl e)
  subst e2
  unfold sBo2; rw [if_pos (by rw [← t.1]; exact e), ← h3, if_neg (by omega), if_pos hc, hf, ha, t.2.1]
theorem sBo2_go {P : Int → Int} {n L q tok at_ num p : Int} {w : Int64} {k : Int32} {h h2 : Nat → Int32} {nm : Nat → Int64} {on we v nv y : Int32} {X : SR5} (t : Tm P n L q tok at_ num w p) (e : tok = 2) (e2 : v = h 2) (h1 : num < v.toInt) (hc : clT h k.toInt.toNat num 0 = false) (hn : nv.toInt = num) (hk0 : 0 ≤ k.toInt) (hy : y.toInt = 15 + k.toInt) (eh : upd h y.toNatClampNeg nv = h2) (ex : sBo3 P n L k.toInt.toNat (av P n L q) h2 nm on we = X) : sBo2 P n L k.toInt.toNat q h nm on we = X := by
  have c1 := o_cl hy (by omega)
  have h3 := t.2.2.2.1 (Or.inl e)
  subst e2
  unfold sBo2
  rw [if_pos (by rw [← t.1]; exact e), ← h3, if_neg (by omega), if_neg (by rw [hc]; decide), ← of_int hn, show 15 + k.toInt.toNat = y.toNatClampNeg by omega, eh]
  exact ex
theorem cl_no {h : Nat → Int32} {K : Nat} {v : Int} {b : Bool} {k i i' x y a c d : Int32} (hb : b = clT h K v i.toInt.toNat) (hK : (K : Int) = k.toInt) (h0 : 0 ≤ i.toInt) (h1 : i.toInt < k.toInt) (hx : x.toInt = 7 + i.toInt) (ea : a = h x.toNatClampNeg) (hy : y.toInt = 7 + k.toInt) (ec : c = h y.toNatClampNeg) (hd : a.toInt ≠ c.toInt ∨ ∃ z : Int32, z.toInt = 15 + i.toInt ∧ d = h z.toNatClampNeg ∧ d.toInt ≠ v) (e : i'.toInt = i.toInt + 1) : b = clT h K v i'.toInt.toNat := by
  have c1 := o_cl hx (by omega)
  have c2 := o_cl hy (by omega)
  rw [hb, clT_no (by omega), show i'.toInt.toNat = i.toInt.toNat + 1 by omega]
  rw [show 7 + i.toInt.toNat = x.toNatClampNeg by omega, show 7 + K = y.toNatClampNeg by omega, ← ea, ← ec]
  rcases hd with q | ⟨z, z1, z2, z3⟩
  · exact fun p => q p.1
  · have c3 := o_cl z1 (by omega)
    rw [show 15 + i.toInt.toNat = z.toNatClampNeg by omega, ← z2]
    exact fun p => z3 p.2
theorem cl_yes {h : Nat → Int32} {K : Nat} {v : Int} {b : Bool} {k i x y z a c d : Int32} (hb : b = clT h K v i.toInt.toNat) (hK : (K : Int) = k.toInt) (h0 : 0 ≤ i.toInt) (h1 : i.toInt < k.toInt) (hx : x.toInt = 7 + i.toInt) (ea : a = h x.toNatClampNeg) (hy : y.toInt = 7 + k.toInt) (ec : c = h y.toNatClampNeg) (hz : z.toInt = 15 + i.toInt) (ed : d = h z.toNatClampNeg) (e1 : a.toInt = c.toInt) (e2 : d.toInt = v) : b = true := by
  have c1 := o_cl hx (by omega)
  have c2 := o_cl hy (by omega)
  have c3 := o_cl hz (by omega)
  rw [hb, clT_yes (by omega)]
  rw [show 7 + i.toInt.toNat = x.toNatClampNeg by omega, show 7 + K = y.toNatClampNeg by omega, show 15 + i.toInt.toNat = z.toNatClampNeg by omega, ← ea, ← ec, ← ed]
  exact ⟨e1, e2⟩
theorem sBo3_no {P : Int → Int} {n L q tok at_ num p f fa : Int} {w : Int64} {K : Nat} {h2 : Nat → Int32} {nm : Nat → Int64} {on we v r : Int32} (t : Tm P n L q tok at_ num w p) (hw : wq P n L q = 3) (ev : v = h2 103) (hr : r.toInt = bc v.toInt) (h3 : r.toInt = 3) (hf : f = 4) (ha : fa = at_) : sBo3 P n L K q h2 nm on we = .inl (f, fa) := by
  subst ev
  unfold sBo3; rw [if_pos hw, if_pos (by rw [← hr]; exact h3), hf, ha, t.2.1]
theorem sBo3_rare {P : Int → Int} {n L q : Int} {k : Int32} {h2 h3 h4 : Nat → Int32} {nm : Nat → Int64} {on we v r y z b c : Int32} (hw : wq P n L q = 3) (hk0 : 0 ≤ k.toInt) (ev : v = h2 103) (hr : r.toInt = bc v.toInt) (h3n : r.toInt ≠ 3) (dy : y = (1 : Int32) <<< (k &&& 31)) (dz : z = v ||| y) (e3 : upd h2 103 z = h3) (eb : b = h3 0) (dc : c = b + 1) (e4 : upd h3 0 c = h4) : sBo3 P n L k.toInt.toNat q h2 nm on we = .inr (av P n L q, h4, nm, on, we) := by
  subst ev
  have hk : nI k.toInt.toNat = k := o_meq (b := k.toInt) (by rw [nI_toInt (by have := o_rng k; omega)]; omega) rfl rfl
  unfold sBo3; rw [if_pos hw, if_neg (by rw [← hr]; exact h3n), hk, ← dy, ← dz, e3]
  show (Sum.inr (av P n L q, upd h3 0 (h3 0 + 1), nm, on, we) : SR5) = _
  rw [← eb, ← dc, e4]
theorem sBo3_plain {P : Int → Int} {n L q : Int} {K : Nat} {h2 h4 : Nat → Int32} {nm : Nat → Int64} {on we b c : Int32} (hw : wq P n L q ≠ 3) (eb : b = h2 0) (dc : c = b + 1) (e4 : upd h2 0 c = h4) : sBo3 P n L K q h2 nm on we = .inr (q, h4, nm, on, we) := by
  unfold sBo3; rw [if_neg hw, ← eb, ← dc, e4]
/-- a line -/
def sLin (P : Int → Int) (n L q : Int) (h : Nat → Int32) (nm : Nat → Int64) (on we : Int32) : SR5 := if wq P n L q = 1 then sb5 (sOnc P n L 0 1 2 6 q h nm on we) (fun q h nm on we => sPut P n L 2 2 6 q h nm on we) else if wq P n L q = 2 then sBok P n L q h nm on we else if wq P n L q = 4 then sWeb P n L q h nm on we else if wq P n L q = 5 then sThr P n L q h nm on we else if wq P n L q = 6 then sQua P n L q h nm on we else if wq P n L q = 7 then sOnc P n L 1 3 1 50 q h nm on we else if wq P n L q = 8 then sOnc P n L 2 4 1 5 q h nm on we else if wq P n L q = 9 then sOnc P n L 3 5 1 50 q h nm on we else if wq P n L q = 10 then sOnc P n L 4 6 0 12 q h nm on we else .inl (1, plq n L q)
section
variable {P : Int → Int} {n L q : Int} {h : Nat → Int32} {nm : Nat → Int64} {on we : Int32} {X : SR5}
theorem sLin_1 (e : wq P n L q = 1) (x : sb5 (sOnc P n L 0 1 2 6 q h nm on we) (fun q h nm on we => sPut P n L 2 2 6 q h nm on we) = X) : sLin P n L q h nm on we = X := by unfold sLin; rw [if_pos e]; exact x
theorem sLin_2 (e : wq P n L q = 2) (x : sBok P n L q h nm on we = X) : sLin P n L q h nm on we = X := by unfold sLin; rw [if_neg (by omega), if_pos e]; exact x
theorem sLin_4 (e : wq P n L q = 4) (x : sWeb P n L q h nm on we = X) : sLin P n L q h nm on we = X := by unfold sLin; rw [if_neg (by omega), if_neg (by omega), if_pos e]; exact x
theorem sLin_5 (e : wq P n L q = 5) (x : sThr P n L q h nm on we = X) : sLin P n L q h nm on we = X := by unfold sLin; rw [if_neg (by omega), if_neg (by omega), if_neg (by omega), if_pos e]; exact x
theorem sLin_6 (e : wq P n L q = 6) (x : sQua P n L q h nm on we = X) : sLin P n L q h nm on we = X := by unfold sLin; rw [if_neg (by omega), if_neg (by omega), if_neg (by omega), if_neg (by omega), if_pos e]; exact x
theorem sLin_7 (e : wq P n L q = 7) (x : sOnc P n L 1 3 1 50 q h nm on we = X) : sLin P n L q h nm on we = X := by unfold sLin; rw [if_neg (by omega), if_neg (by omega), if_neg (by omega), if_neg (by omega), if_neg (by omega), if_pos e]; exact x
theorem sLin_8 (e : wq P n L q = 8) (x : sOnc P n L 2 4 1 5 q h nm on we = X) : sLin P n L q h nm on we = X := by unfold sLin; rw [if_neg (by omega), if_neg (by omega), if_neg (by omega), if_neg (by omega), if_neg (by omega), if_neg (by omega), if_pos e]; exact x
theorem sLin_9 (e : wq P n L q = 9) (x : sOnc P n L 3 5 1 50 q h nm on we = X) : sLin P n L q h nm on we = X := by unfold sLin; rw [if_neg (by omega), if_neg (by omega), if_neg (by omega), if_neg (by omega), if_neg (by omega), if_neg (by omega), if_neg (by omega), if_pos e]; exact x
theorem sLin_10 (e : wq P n L q = 10) (x : sOnc P n L 4 6 0 12 q h nm on we = X) : sLin P n L q h nm on we = X := by unfold sLin; rw [if_neg (by omega), if_neg (by omega), if_neg (by omega), if_neg (by omega), if_neg (by omega), if_neg (by omega), if_neg (by omega), if_neg (by omega), if_pos e]; exact x
theorem sLin_no {tok at_ num p f fa : Int} {w : Int64} (t : Tm P n L q tok at_ num w p) (e : wq P n L q ≠ 1 ∧ wq P n L q ≠ 2 ∧ wq P n L q ≠ 4 ∧ wq P n L q ≠ 5 ∧ wq P n L q ≠ 6 ∧ wq P n L q ≠ 7 ∧ wq P n L q ≠ 8 ∧ wq P n L q ≠ 9 ∧ wq P n L q ≠ 10) (hf : f = 1) (ha : fa = at_) : sLin P n L q h nm on we = .inl (f, fa) := by
  obtain ⟨a, b, c, d, e, g, i, j, k⟩ := e
  unfold sLin; rw [if_neg a, if_neg b, if_neg c, if_neg d, if_neg e, if_neg g, if_neg i, if_neg j, if_neg k, hf, ha, t.2.1]
end
/-- a library: fault, or how many lines and what they told -/
abbrev LR := (Int × Int) ⊕ (Int × (Nat → Int32) × (Nat → Int64))
def libF (P : Int → Int) (n L : Int) : Nat → Int → Int → (Nat → Int32) → (Nat → Int64) → Int32 → Int32 → LR
  | 0, _, _, _, _, _, _ => .inl (0, 0)
  | f + 1, ln, q, h, nm, on, we => if tkq P n L q = 0 then .inr (ln, h, nm) else match sLin P n L q h nm on we with
    | .inl e => .inl e
    | .inr (q1, h1, nm1, on1, we1) => match sSgn P n L 59 q1 with
      | .inl e => .inl e
      | .inr q2 => libF P n L f (ln + 1) q2 h1 nm1 on1 we1
def libT (P : Int → Int) (n L ln q : Int) (h : Nat → Int32) (nm : Nat → Int64) (on we : Int32) : LR := libF P n L (1000 - ln).toNat ln q h nm on we
section
variable {P : Int → Int} {n L ln q : Int} {h : Nat → Int32} {nm : Nat → Int64} {on we : Int32}
theorem libT_end (h0 : ln < 1000) (e : tkq P n L q = 0) : libT P n L ln q h nm on we = .inr (ln, h, nm) := by
  unfold libT; rw [show (1000 - ln).toNat = (1000 - (ln + 1)).toNat + 1 by omega]
  show (if tkq P n L q = 0 then _ else _) = _
  rw [if_pos e]
theorem libT_no1 {a : Int × Int} (h0 : ln < 1000) (e : tkq P n L q ≠ 0) (x : sLin P n L q h nm on we = .inl a) : libT P n L ln q h nm on we = .inl a := by
  unfold libT; rw [show (1000 - ln).toNat = (1000 - (ln + 1)).toNat + 1 by omega]
  show (if tkq P n L q = 0 then _ else _) = _
  rw [if_neg e, x]
theorem libT_no2 {a : Int × Int} {q1 : Int} {h1 : Nat → Int32} {nm1 : Nat → Int64} {on1 we1 : Int32} (h0 : ln < 1000) (e : tkq P n L q ≠ 0) (x : sLin P n L q h nm on we = .inr (q1, h1, nm1, on1, we1)) (y : sSgn P n L 59 q1 = .inl a) : libT P n L ln q h nm on we = .inl a := by
  unfold libT; rw [show (1000 - ln).toNat = (1000 - (ln + 1)).toNat + 1 by omega]
  show (if tkq P n L q = 0 then _ else _) = _
  rw [if_neg e, x]
  show (match sSgn P n L 59 q1 with | .inl e => _ | .inr q2 => _) = _
  rw [y]
theorem libT_go {q1 q2 ln' : Int} {h1 : Nat → Int32} {nm1 : Nat → Int64} {on1 we1 : Int32} (h0 : ln < 1000) (e : tkq P n L q ≠ 0) (x : sLin P n L q h nm on we = .inr (q1, h1, nm1, on1, we1)) (y : sSgn P n L 59 q1 = .inr q2) (el : ln' = ln + 1) : libT P n L ln q h nm on we = libT P n L ln' q2 h1 nm1 on1 we1 := by
  subst el
  unfold libT; rw [show (1000 - ln).toNat = (1000 - (ln + 1)).toNat + 1 by omega]
  show (if tkq P n L q = 0 then _ else _) = _
  rw [if_neg e, x]
  show (match sSgn P n L 59 q1 with | .inl e => _ | .inr q2 => _) = _
  rw [y]
end
def ansL (x : LR) : Int := match x with
  | .inl a => -1 - a.2
  | .inr a => a.1
/-- the kind of its fault -/
def fltL (x : LR) : Int := match x with
  | .inl a => a.1
  | .inr _ => 0
/-- h as it is cleared -/
def hC (f : Nat → Int32) (k : Nat) : Int32 := if k < 104 then (if k = 1 then 4 else if k = 2 then 4 else if k = 3 then 10 else if k = 4 then 1 else if k = 5 then 3 else 0) else f k
def zr (f : Nat → Int32) (i : Nat) (k : Nat) : Int32 := if k < i then 0 else f k
theorem zr_zero (f : Nat → Int32) : zr f 0 = f := by funext k; unfold zr; rw [if_neg (by omega)]
theorem zr_step {f g : Nat → Int32} {i i' : Int32} (h : g = zr f i.toInt.toNat) (h0 : 0 ≤ i.toInt) (e : i'.toInt = i.toInt + 1) : upd g i.toNatClampNeg 0 = zr f i'.toInt.toNat := by
  have c := o_cl (x := i) rfl h0
  funext k
  rw [h]
  unfold zr
  by_cases q : k = i.toNatClampNeg
  · simp only [upd, if_pos q]; rw [if_pos (by omega)]
  · simp only [upd, if_neg q]
    by_cases q2 : k < i.toInt.toNat
    · rw [if_pos q2, if_pos (by omega)]
    · rw [if_neg q2, if_neg (by omega)]
theorem hC_of {f g0 g1 g2 g3 g4 g5 : Nat → Int32} {i : Int} (h : g0 = zr f i.toNat) (hi : i = 104) (e1 : upd g0 1 4 = g1) (e2 : upd g1 2 4 = g2) (e3 : upd g2 3 10 = g3) (e4 : upd g3 4 1 = g4) (e5 : upd g4 5 3 = g5) : g5 = hC f := by
  subst hi; subst e5; subst e4; subst e3; subst e2; subst e1; subst h
  funext k
  unfold hC zr
  simp only [upd]
  by_cases q5 : k = 5
  · subst q5; rfl
  · rw [if_neg q5]
    by_cases q4 : k = 4
    · subst q4; rfl
    · rw [if_neg q4]
      by_cases q3 : k = 3
      · subst q3; rfl
      · rw [if_neg q3]
        by_cases q2 : k = 2
        · subst q2; rfl
        · rw [if_neg q2]
          by_cases q1 : k = 1
          · subst q1; rfl
          · rw [if_neg q1]
            by_cases q0 : k < 104
            · rw [if_pos (show k < (104 : Int).toNat by omega), if_pos q0, if_neg q1, if_neg q2, if_neg q3, if_neg q4, if_neg q5]
            · rw [if_neg (show ¬ k < (104 : Int).toNat by omega), if_neg q0]
