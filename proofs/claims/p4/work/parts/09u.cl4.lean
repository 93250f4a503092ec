theorem nxq_ge {P : Int → Int} {n L q : Int} : q ≤ nxq P n L q := by
  unfold nxq
  split
  · omega
  · split
    · omega
    · split
      · exact wh_ge
      · omega
theorem av_ge {P : Int → Int} {n L q : Int} : q ≤ av P n L q := Int.le_trans nxq_ge wh_ge
theorem sgn_lt {P : Int → Int} {n L c q q' : Int} (h : sSgn P n L c q = .inr q') : q + 1 ≤ av P n L q := by
  unfold sSgn at h
  split at h
  · rename_i e
    have ht := e.1
    have hr := rk_rng P q (rl P n q)
    have h2 : nxq P n L q = q + 1 := by
      unfold tkq at ht
      unfold nxq
      split at ht
      · omega
      · rename_i c1
        rw [if_neg c1]
        split at ht
        · omega
        · rename_i c2
          rw [if_neg c2]
          split at ht
          · omega
          · rename_i c3
            rw [if_neg c3]
    unfold av; rw [h2]; exact wh_ge
  · cases h
section
variable {wide high law spin line draught books rare : Int} {qu sizes names x y told : Nat → Int32} {wt wo : Int32} {h : Nat → Int32} {nm : Nat → Int64} {on we : Int32}
theorem sWeb_cno {P : Int → Int} {n L q : Int} {m : Nat} {a : Int × Int} (R : RlC wide high law spin line draught books rare qu sizes names x y told wt wo h nm on we) (hm : (m : Int) = books) (e : sLok P n L nm 8 m (av P n L q) = .inl a) : sWeb P n L q h nm on we = .inl a := by
  have r := R.bk
  unfold sWeb; rw [show (h 0).toInt.toNat = m by omega, q5_no e]
theorem sWeb_c3 {P : Int → Int} {n L q kind place size value word next fk fp : Int} {m : Nat} {k : Int32} (R : RlC wide high law spin line draught books rare qu sizes names x y told wt wo h nm on we) (hm : (m : Int) = books) (e : sLok P n L nm 8 m (av P n L q) = .inr (av P n L q)) (t : Tc P n L (av P n L q) kind place size value word next) (hk : k.toInt = fnd nm (lN (wcq P n (av P n L q)).toNat) 8 m) (hb : bt wt k = 1) (hf : fk = 3) (hp : fp = place) : sWeb P n L q h nm on we = .inl (fk, fp) := by
  have r := R.bk
  have hw := R.2.1
  unfold sWeb bkN
  rw [show (h 0).toInt.toNat = m by omega, q5_ok e]
  show (if bt we (Int32.ofInt (fnd nm (lN (wcq P n (av P n L q)).toNat) 8 m)) = 1 then _ else _) = _
  rw [← of_int hk, ← hw, if_pos hb, hf, hp, t.pl]
theorem sWeb_cgo {P : Int → Int} {n L q : Int} {m : Nat} {k : Int32} {X : SR5} (R : RlC wide high law spin line draught books rare qu sizes names x y told wt wo h nm on we) (hm : (m : Int) = books) (e : sLok P n L nm 8 m (av P n L q) = .inr (av P n L q)) (hk : k.toInt = fnd nm (lN (wcq P n (av P n L q)).toNat) 8 m) (hb : bt wt k ≠ 1) (ex : sPut P n L (23 + k.toInt.toNat) 1 99 (av P n L (av P n L q)) h nm on (we ||| ((1 : Int32) <<< (k &&& 31))) = X) : sWeb P n L q h nm on we = X := by
  have r := R.bk
  have hw := R.2.1
  unfold sWeb bkN
  rw [show (h 0).toInt.toNat = m by omega, q5_ok e]
  show (if bt we (Int32.ofInt (fnd nm (lN (wcq P n (av P n L q)).toNat) 8 m)) = 1 then _ else _) = _
  rw [← of_int hk, ← hk, if_neg (by rw [← hw]; exact hb)]
  exact ex
theorem RlC.far8 {wt' we' : Int32} {h' : Nat → Int32} (R : RlC wide high law spin line draught books rare qu sizes names x y told wt wo h nm on we) (hb8 : books ≤ 8) (hw : wt' = we') (ne : ∀ i : Nat, i < 23 ∨ 31 ≤ i → h' i = h i) : RlC wide high law spin line draught books rare qu sizes names x y told wt' wo h' nm on we' := by
  obtain ⟨⟨a1, a2, a3, a4, a5, a6, a7, a8⟩, b, c, d, e, f, g⟩ := R
  refine ⟨⟨?_, ?_, ?_, ?_, ?_, ?_, ?_, ?_⟩, hw, ?_, ?_, ?_, f, g⟩
  · rw [ne 1 (by omega)]; exact a1
  · rw [ne 2 (by omega)]; exact a2
  · rw [ne 3 (by omega)]; exact a3
  · rw [ne 4 (by omega)]; exact a4
  · rw [ne 5 (by omega)]; exact a5
  · rw [ne 6 (by omega)]; exact a6
  · rw [ne 0 (by omega)]; exact a7
  · rw [ne 103 (by omega)]; exact a8
  · intro i hi; rw [ne _ (by omega)]; exact c i hi
  · intro i hi
    have := d i hi
    rw [ne _ (by omega), ne _ (by omega)]; exact this
  · intro p q hp hq; rw [ne _ (by omega)]; exact e p q hp hq
theorem RlC.web {wt' k s1 v : Int32} (R : RlC wide high law spin line draught books rare qu sizes names x y told wt wo h nm on we) (hb8 : books ≤ 8) (hk0 : 0 ≤ k.toInt) (hk7 : k.toInt ≤ 7) (ds : s1 = (1 : Int32) <<< (k &&& 31)) (dw : wt' = wt ||| s1) : RlC wide high law spin line draught books rare qu sizes names x y told wt' wo (upd h (23 + k.toInt.toNat) v) nm on (we ||| ((1 : Int32) <<< (k &&& 31))) := by
  refine R.far8 hb8 ?_ ?_
  · rw [dw, ds, R.2.1]
  · intro i hi; exact upd_ne (by omega)
end
theorem sTkn_ok {P : Int → Int} {n L q : Int} {nm : Nat → Int64} {a m : Nat} (e : sLok P n L nm a m q = .inr q) : sTkn P n L nm a m q = .inr (av P n L q) := by unfold sTkn; exact qb_ok e
theorem sTkn_no {P : Int → Int} {n L q : Int} {nm : Nat → Int64} {a m : Nat} {b : Int × Int} (e : sLok P n L nm a m q = .inl b) : sTkn P n L nm a m q = .inl b := by unfold sTkn; exact qb_no e
theorem sPai_c3 {P : Int → Int} {n L q kind place size value word next fk fp : Int} {nm : Nat → Int64} {m : Nat} {x y : Int32} (e : sTkn P n L nm 8 m (av P n L q) = .inr (av P n L (av P n L q))) (e2 : sLok P n L nm 8 m (av P n L (av P n L q)) = .inr (av P n L (av P n L q))) (t : Tc P n L (av P n L (av P n L q)) kind place size value word next) (hx : x.toInt = fnd nm (lN (wcq P n (av P n L q)).toNat) 8 m) (hy : y.toInt = fnd nm (lN (wcq P n (av P n L (av P n L q))).toNat) 8 m) (h : x.toInt = y.toInt) (hf : fk = 3) (hp : fp = place) : sPai P n L nm m q = .inl (fk, fp) := by
  unfold sPai bkN; rw [qb_ok e, qb_ok e2, ← hx, ← hy, if_pos h, hf, hp, t.pl]
/-- two books that are told together: by the class -/
def PPr (P : Int → Int) (n L q r fk fp fk0 : Int) (nm : Nat → Int64) (m : Nat) (told told' : Nat → Int32) (fi se : Int32) (K : Int → Prop) : Prop := (r = 1 ∧ fk = fk0 ∧ sPai P n L nm m q = .inr (av P n L (av P n L q)) ∧ fi.toInt = fnd nm (lN (wcq P n (av P n L q)).toNat) 8 m ∧ se.toInt = fnd nm (lN (wcq P n (av P n L (av P n L q))).toNat) 8 m ∧ (0 ≤ fi.toInt ∧ fi.toInt ≤ 7 ∧ 0 ≤ se.toInt ∧ se.toInt ≤ 7 ∧ fi.toInt ≠ se.toInt) ∧ bt (told fi.toInt.toNat) se ≠ 1 ∧ told' = upd (upd told fi.toInt.toNat (told fi.toInt.toNat ||| ((1 : Int32) <<< (se &&& 31)))) se.toInt.toNat (told se.toInt.toNat ||| ((1 : Int32) <<< (fi &&& 31))) ∧ K (av P n L (av P n L (av P n L q)))) ∨ (r = 0 ∧ 1 ≤ fk ∧ sPai P n L nm m q = .inl (fk, fp)) ∨ (∃ a b : Int32, r = 0 ∧ fk = 3 ∧ fp = plq n L (av P n L (av P n L q)) ∧ sPai P n L nm m q = .inr (av P n L (av P n L q)) ∧ a.toInt = fnd nm (lN (wcq P n (av P n L q)).toNat) 8 m ∧ b.toInt = fnd nm (lN (wcq P n (av P n L (av P n L q))).toNat) 8 m ∧ (0 ≤ a.toInt ∧ a.toInt ≤ 7 ∧ 0 ≤ b.toInt ∧ b.toInt ≤ 7) ∧ bt (told a.toInt.toNat) b = 1)
theorem told_eq {told g1 g2 : Nat → Int32} {a b v s1 z1 v2 s2 z2 : Int32} (ha : 0 ≤ a.toInt) (hb : 0 ≤ b.toInt) (hne : a.toInt ≠ b.toInt) (ev : v = told a.toNatClampNeg) (d1 : s1 = (1 : Int32) <<< (b &&& 31)) (d2 : z1 = v ||| s1) (e1 : upd told a.toNatClampNeg z1 = g1) (ev2 : v2 = g1 b.toNatClampNeg) (d3 : s2 = (1 : Int32) <<< (a &&& 31)) (d4 : z2 = v2 ||| s2) (e2 : upd g1 b.toNatClampNeg z2 = g2) : g2 = upd (upd told a.toInt.toNat (told a.toInt.toNat ||| ((1 : Int32) <<< (b &&& 31)))) b.toInt.toNat (told b.toInt.toNat ||| ((1 : Int32) <<< (a &&& 31))) := by
  have c := o_cl (x := a) rfl ha
  have d := o_cl (x := b) rfl hb
  have ea : a.toInt.toNat = a.toNatClampNeg := by omega
  have eb : b.toInt.toNat = b.toNatClampNeg := by omega
  rw [ea, eb, ← e2, d4, d3, ev2, ← e1, upd_ne (show b.toNatClampNeg ≠ a.toNatClampNeg by omega), d2, d1, ev]
section
variable {wide high law spin line draught books rare : Int} {qu sizes names x y told : Nat → Int32} {wt wo : Int32} {h : Nat → Int32} {nm : Nat → Int64} {on we : Int32}
theorem sQua_cno {P : Int → Int} {n L q : Int} {m : Nat} {a : Int × Int} (R : RlC wide high law spin line draught books rare qu sizes names x y told wt wo h nm on we) (hm : (m : Int) = books) (e : sPai P n L nm m q = .inl a) : sQua P n L q h nm on we = .inl a := by
  have r := R.bk
  unfold sQua; rw [show (h 0).toInt.toNat = m by omega, q5_no e]
theorem sQua_c3 {P : Int → Int} {n L q fk fp : Int} {m : Nat} {a b : Int32} (R : RlC wide high law spin line draught books rare qu sizes names x y told wt wo h nm on we) (hm : (m : Int) = books) (e : sPai P n L nm m q = .inr (av P n L (av P n L q))) (ha : a.toInt = fnd nm (lN (wcq P n (av P n L q)).toNat) 8 m) (hb : b.toInt = fnd nm (lN (wcq P n (av P n L (av P n L q))).toNat) 8 m) (ha0 : 0 ≤ a.toInt) (ha7 : a.toInt ≤ 7) (hbt : bt (qu a.toInt.toNat) b = 1) (hf : fk = 3) (hp : fp = plq n L (av P n L (av P n L q))) : sQua P n L q h nm on we = .inl (fk, fp) := by
  have r := R.bk
  have hq := R.2.2.1 a.toInt.toNat (by omega)
  unfold sQua bkN
  rw [show (h 0).toInt.toNat = m by omega, q5_ok e, ← ha, ← hb]
  show (if bt (h (95 + a.toInt.toNat)) (Int32.ofInt b.toInt) = 1 then _ else _) = _
  rw [Int32.ofInt_toInt, ← hq, if_pos hbt, hf, hp]
theorem sQua_cok {P : Int → Int} {n L q : Int} {m : Nat} {a b : Int32} (R : RlC wide high law spin line draught books rare qu sizes names x y told wt wo h nm on we) (hm : (m : Int) = books) (e : sPai P n L nm m q = .inr (av P n L (av P n L q))) (ha : a.toInt = fnd nm (lN (wcq P n (av P n L q)).toNat) 8 m) (hb : b.toInt = fnd nm (lN (wcq P n (av P n L (av P n L q))).toNat) 8 m) (ha0 : 0 ≤ a.toInt) (ha7 : a.toInt ≤ 7) (hbt : bt (qu a.toInt.toNat) b ≠ 1) : sQua P n L q h nm on we = .inr (av P n L (av P n L (av P n L q)), upd (upd h (95 + a.toInt.toNat) (h (95 + a.toInt.toNat) ||| ((1 : Int32) <<< (b &&& 31)))) (95 + b.toInt.toNat) ((upd h (95 + a.toInt.toNat) (h (95 + a.toInt.toNat) ||| ((1 : Int32) <<< (b &&& 31)))) (95 + b.toInt.toNat) ||| ((1 : Int32) <<< (a &&& 31))), nm, on, we) := by
  have r := R.bk
  have hq := R.2.2.1 a.toInt.toNat (by omega)
  unfold sQua bkN
  rw [show (h 0).toInt.toNat = m by omega, q5_ok e, ← ha, ← hb]
  show (if bt (h (95 + a.toInt.toNat)) (Int32.ofInt b.toInt) = 1 then _ else _) = _
  rw [Int32.ofInt_toInt, Int32.ofInt_toInt, if_neg (by rw [← hq]; exact hbt)]
theorem RlC.qua {a b : Int32} {qu' : Nat → Int32} (R : RlC wide high law spin line draught books rare qu sizes names x y told wt wo h nm on we) (hb8 : books ≤ 8) (ha0 : 0 ≤ a.toInt) (ha7 : a.toInt ≤ 7) (hb0 : 0 ≤ b.toInt) (hb7 : b.toInt ≤ 7) (hne : a.toInt ≠ b.toInt) (eq : qu' = upd (upd qu a.toInt.toNat (qu a.toInt.toNat ||| ((1 : Int32) <<< (b &&& 31)))) b.toInt.toNat (qu b.toInt.toNat ||| ((1 : Int32) <<< (a &&& 31)))) : RlC wide high law spin line draught books rare qu' sizes names x y told wt wo (upd (upd h (95 + a.toInt.toNat) (h (95 + a.toInt.toNat) ||| ((1 : Int32) <<< (b &&& 31)))) (95 + b.toInt.toNat) ((upd h (95 + a.toInt.toNat) (h (95 + a.toInt.toNat) ||| ((1 : Int32) <<< (b &&& 31)))) (95 + b.toInt.toNat) ||| ((1 : Int32) <<< (a &&& 31)))) nm on we := by
  subst eq
  obtain ⟨⟨a1, a2, a3, a4, a5, a6, a7, a8⟩, b', c, d, e, f, g⟩ := R
  have ca := c a.toInt.toNat (by omega)
  have cb := c b.toInt.toNat (by omega)
  have e95 : (upd h (95 + a.toInt.toNat) (h (95 + a.toInt.toNat) ||| ((1 : Int32) <<< (b &&& 31)))) (95 + b.toInt.toNat) = h (95 + b.toInt.toNat) := upd_ne (by omega)
  rw [e95]
  have ne : ∀ i : Nat, i ≠ 95 + a.toInt.toNat → i ≠ 95 + b.toInt.toNat → (upd (upd h (95 + a.toInt.toNat) (h (95 + a.toInt.toNat) ||| ((1 : Int32) <<< (b &&& 31)))) (95 + b.toInt.toNat) (h (95 + b.toInt.toNat) ||| ((1 : Int32) <<< (a &&& 31)))) i = h i := fun i h1 h2 => by rw [upd_ne h2, upd_ne h1]
  refine ⟨⟨?_, ?_, ?_, ?_, ?_, ?_, ?_, ?_⟩, b', ?_, ?_, ?_, f, g⟩
  · rw [ne 1 (by omega) (by omega)]; exact a1
  · rw [ne 2 (by omega) (by omega)]; exact a2
  · rw [ne 3 (by omega) (by omega)]; exact a3
  · rw [ne 4 (by omega) (by omega)]; exact a4
  · rw [ne 5 (by omega) (by omega)]; exact a5
  · rw [ne 6 (by omega) (by omega)]; exact a6
  · rw [ne 0 (by omega) (by omega)]; exact a7
  · rw [ne 103 (by omega) (by omega)]; exact a8
  · intro i hi
    by_cases z : i = b.toInt.toNat
    · rw [z, upd_at rfl, upd_at rfl, cb]
    · by_cases z2 : i = a.toInt.toNat
      · rw [z2, upd_ne (show a.toInt.toNat ≠ b.toInt.toNat by omega), upd_at rfl, upd_ne (show 95 + a.toInt.toNat ≠ 95 + b.toInt.toNat by omega), upd_at rfl, ca]
      · rw [upd_ne z, upd_ne z2, ne _ (by omega) (by omega)]; exact c i hi
  · intro i hi; rw [ne _ (by omega) (by omega), ne _ (by omega) (by omega)]; exact d i hi
  · intro p q hp hq; rw [ne _ (by omega) (by omega)]; exact e p q hp hq
theorem sThr_cno {P : Int → Int} {n L q : Int} {m : Nat} {a : Int × Int} (R : RlC wide high law spin line draught books rare qu sizes names x y told wt wo h nm on we) (hm : (m : Int) = books) (e : sPai P n L nm m q = .inl a) : sThr P n L q h nm on we = .inl a := by
  have r := R.bk
  unfold sThr; rw [show (h 0).toInt.toNat = m by omega, q5_no e]
theorem RlC.tld {a b : Int32} (R : RlC wide high law spin line draught books rare qu sizes names x y told wt wo h nm on we) (ha0 : 0 ≤ a.toInt) (ha7 : a.toInt ≤ 7) (hb0 : 0 ≤ b.toInt) (hb7 : b.toInt ≤ 7) : bt (told a.toInt.toNat) b = 1 ↔ 0 < (h (31 + 8 * a.toInt.toNat + b.toInt.toNat)).toInt := by
  have h9 := R.2.2.2.2.1 a.toInt.toNat b.toInt.toNat (by omega) (by omega)
  rw [← nI_is hb0] at h9; exact h9
theorem sThr_c3 {P : Int → Int} {n L q fk fp : Int} {m : Nat} {a b : Int32} (R : RlC wide high law spin line draught books rare qu sizes names x y told wt wo h nm on we) (hm : (m : Int) = books) (e : sPai P n L nm m q = .inr (av P n L (av P n L q))) (ha : a.toInt = fnd nm (lN (wcq P n (av P n L q)).toNat) 8 m) (hb : b.toInt = fnd nm (lN (wcq P n (av P n L (av P n L q))).toNat) 8 m) (ha0 : 0 ≤ a.toInt) (ha7 : a.toInt ≤ 7) (hb0 : 0 ≤ b.toInt) (hb7 : b.toInt ≤ 7) (hbt : bt (told a.toInt.toNat) b = 1) (hf : fk = 3) (hp : fp = plq n L (av P n L (av P n L q))) : sThr P n L q h nm on we = .inl (fk, fp) := by
  have r := R.bk
  have ht := (R.tld ha0 ha7 hb0 hb7).mp hbt
  unfold sThr bkN
  rw [show (h 0).toInt.toNat = m by omega, q5_ok e]
  show (if 0 < (h (31 + 8 * (fnd nm (lN (wcq P n (av P n L q)).toNat) 8 m).toNat + (fnd nm (lN (wcq P n (av P n L (av P n L q))).toNat) 8 m).toNat)).toInt then _ else _) = _
  rw [← ha, ← hb, if_pos ht, hf, hp]
theorem sThr_cgo {P : Int → Int} {n L q : Int} {m : Nat} {a b : Int32} {X : SR5} (R : RlC wide high law spin line draught books rare qu sizes names x y told wt wo h nm on we) (hm : (m : Int) = books) (e : sPai P n L nm m q = .inr (av P n L (av P n L q))) (ha : a.toInt = fnd nm (lN (wcq P n (av P n L q)).toNat) 8 m) (hb : b.toInt = fnd nm (lN (wcq P n (av P n L (av P n L q))).toNat) 8 m) (ha0 : 0 ≤ a.toInt) (ha7 : a.toInt ≤ 7) (hb0 : 0 ≤ b.toInt) (hb7 : b.toInt ≤ 7) (hbt : bt (told a.toInt.toNat) b ≠ 1) (ex : q5 (sTak P n L 1 99 (av P n L (av P n L (av P n L q)))) (fun q4 => .inr (q4, upd (upd h (31 + 8 * a.toInt.toNat + b.toInt.toNat) (Int32.ofInt (nuq P n (av P n L (av P n L (av P n L q)))))) (31 + 8 * b.toInt.toNat + a.toInt.toNat) (Int32.ofInt (nuq P n (av P n L (av P n L (av P n L q))))), nm, on, we)) = X) : sThr P n L q h nm on we = X := by
  have r := R.bk
  have ht : ¬ (0 < (h (31 + 8 * a.toInt.toNat + b.toInt.toNat)).toInt) := fun z => hbt ((R.tld ha0 ha7 hb0 hb7).mpr z)
  unfold sThr bkN
  rw [show (h 0).toInt.toNat = m by omega, q5_ok e]
  show (if 0 < (h (31 + 8 * (fnd nm (lN (wcq P n (av P n L q)).toNat) 8 m).toNat + (fnd nm (lN (wcq P n (av P n L (av P n L q))).toNat) 8 m).toNat)).toInt then _ else _) = _
  rw [← ha, ← hb, if_neg ht]; exact ex
theorem RlC.thr {a b V : Int32} {told' : Nat → Int32} (R : RlC wide high law spin line draught books rare qu sizes names x y told wt wo h nm on we) (hb8 : books ≤ 8) (ha0 : 0 ≤ a.toInt) (ha7 : a.toInt ≤ 7) (hb0 : 0 ≤ b.toInt) (hb7 : b.toInt ≤ 7) (hne : a.toInt ≠ b.toInt) (hV : 0 < V.toInt) (eq : told' = upd (upd told a.toInt.toNat (told a.toInt.toNat ||| ((1 : Int32) <<< (b &&& 31)))) b.toInt.toNat (told b.toInt.toNat ||| ((1 : Int32) <<< (a &&& 31)))) : RlC wide high law spin line draught books rare qu sizes names x y told' wt wo (upd (upd h (31 + 8 * a.toInt.toNat + b.toInt.toNat) V) (31 + 8 * b.toInt.toNat + a.toInt.toNat) V) nm on we := by
  subst eq
  obtain ⟨⟨a1, a2, a3, a4, a5, a6, a7, a8⟩, b', c, d, e, f, g⟩ := R
  have ne : ∀ i : Nat, i ≠ 31 + 8 * a.toInt.toNat + b.toInt.toNat → i ≠ 31 + 8 * b.toInt.toNat + a.toInt.toNat → (upd (upd h (31 + 8 * a.toInt.toNat + b.toInt.toNat) V) (31 + 8 * b.toInt.toNat + a.toInt.toNat) V) i = h i := fun i h1 h2 => by rw [upd_ne h2, upd_ne h1]
  refine ⟨⟨?_, ?_, ?_, ?_, ?_, ?_, ?_, ?_⟩, b', ?_, ?_, ?_, f, g⟩
  · rw [ne 1 (by omega) (by omega)]; exact a1
  · rw [ne 2 (by omega) (by omega)]; exact a2
  · rw [ne 3 (by omega) (by omega)]; exact a3
  · rw [ne 4 (by omega) (by omega)]; exact a4
  · rw [ne 5 (by omega) (by omega)]; exact a5
  · rw [ne 6 (by omega) (by omega)]; exact a6
  · rw [ne 0 (by omega) (by omega)]; exact a7
  · rw [ne 103 (by omega) (by omega)]; exact a8
  · intro i hi; rw [ne _ (by omega) (by omega)]; exact c i hi
  · intro i hi; rw [ne _ (by omega) (by omega), ne _ (by omega) (by omega)]; exact d i hi
  · intro p q hp hq
    have hq0 : (nI q).toInt = (q : Int) := nI_toInt (by omega)
    by_cases zb : p = b.toInt.toNat
    · rw [zb, upd_at rfl, bt_set (by omega) (by omega) (by omega) (by omega), hq0]
      by_cases z : q = a.toInt.toNat
      · rw [z, upd_at rfl]; exact ⟨fun _ => hV, fun _ => Or.inr (by omega)⟩
      · rw [ne _ (by omega) (by omega), e b.toInt.toNat q (by omega) hq]
        exact ⟨fun w => w.elim id (fun w => absurd w (by omega)), Or.inl⟩
    · rw [upd_ne zb]
      by_cases za : p = a.toInt.toNat
      · rw [za, upd_at rfl, bt_set (by omega) (by omega) (by omega) (by omega), hq0]
        by_cases z : q = b.toInt.toNat
        · rw [z, upd_ne (by omega), upd_at rfl]; exact ⟨fun _ => hV, fun _ => Or.inr (by omega)⟩
        · rw [ne _ (by omega) (by omega), e a.toInt.toNat q (by omega) hq]
          exact ⟨fun w => w.elim id (fun w => absurd w (by omega)), Or.inl⟩
      · rw [upd_ne za, ne _ (by omega) (by omega)]; exact e p q hp hq
theorem sLin_cno {f : Nat → Int32} {n L q kind place size value word next fk fp : Int} (t : Tc (Pk f n) n L q kind place size value word next) (hw : word ≠ 1 ∧ word ≠ 2 ∧ word ≠ 4 ∧ word ≠ 5 ∧ word ≠ 6 ∧ word ≠ 7 ∧ word ≠ 8 ∧ word ≠ 9 ∧ word ≠ 10) (hf : fk = 1) (hp : fp = place) : sLin (Pk f n) n L q h nm on we = .inl (fk, fp) := by
  have e := t.wrd
  rw [e] at hw
  obtain ⟨a, b, c, d, e, g, i, j, k⟩ := hw
  unfold sLin; rw [if_neg a, if_neg b, if_neg c, if_neg d, if_neg e, if_neg g, if_neg i, if_neg j, if_neg k, hf, hp, t.pl]
end
theorem th_pos {P : Int → Int} {n L q q' : Int} (e : sTak P n L 1 99 q = .inr q') : 0 < (Int32.ofInt (nuq P n q)).toInt := by
  obtain ⟨-, b, c⟩ := sTak_is e
  have h : (Int32.ofInt (nuq P n q)).toInt = nuq P n q := Int32.toInt_ofInt_of_le (by omega) (by omega)
  omega
def Zb (g : Nat → Int32) (i : Int) : Prop := ∀ b : Nat, (b : Int) < i → g b = 0
theorem Zb.zero {g : Nat → Int32} {i : Int} (h : i ≤ 0) : Zb g i := fun b hb => absurd hb (by omega)
theorem Zb.step {g : Nat → Int32} {x : Int32} {i' : Int} (h : Zb g x.toInt) (h0 : 0 ≤ x.toInt) (e : i' = x.toInt + 1) : Zb (upd g x.toNatClampNeg 0) i' := by
  have c := o_cl (x := x) rfl h0
  intro b hb
  by_cases z : b = x.toNatClampNeg
  · rw [upd_at z]
  · rw [upd_ne z]; exact h b (by omega)
theorem Zb.cast {g : Nat → Int32} {i i' : Int} (h : Zb g i) (e : i' = i) : Zb g i' := e ▸ h
/-- h as it is ahead of a text -/
def Hc (h : Nat → Int32) : Prop := ∀ k : Nat, k < 104 → h k = hC (fun _ => 0) k
theorem Hc.of (f : Nat → Int32) : Hc (hC f) := fun k hk => by unfold hC; rw [if_pos hk, if_pos hk]
theorem hC0 : (hC (fun _ => 0) 0).toInt = 0 ∧ (hC (fun _ => 0) 1).toInt = 4 ∧ (hC (fun _ => 0) 2).toInt = 4 ∧ (hC (fun _ => 0) 3).toInt = 10 ∧ (hC (fun _ => 0) 4).toInt = 1 ∧ (hC (fun _ => 0) 5).toInt = 3 ∧ (hC (fun _ => 0) 6).toInt = 0 ∧ (hC (fun _ => 0) 103).toInt = 0 := by decide
theorem hCz : ∀ k : Nat, k < 104 → 6 ≤ k → hC (fun _ => 0) k = 0 := by decide
theorem RlC.ini {wide high law spin line draught books rare : Int} {qu sizes names x y told : Nat → Int32} {wt wo : Int32} {h : Nat → Int32} {nm : Nat → Int64} (H : Hc h) (h1 : wide = 4 ∧ high = 4 ∧ law = 10 ∧ spin = 1 ∧ line = 3 ∧ draught = 0 ∧ books = 0 ∧ rare = 0) (hw : wt = 0) (ho : wo = 0) (hq : Zb qu 8) (ht : Zb told 8) : RlC wide high law spin line draught books rare qu sizes names x y told wt wo h nm 0 0 := by
  obtain ⟨c0, c1, c2, c3, c4, c5, c6, c103⟩ := hC0
  obtain ⟨w1, w2, w3, w4, w5, w6, w7, w8⟩ := h1
  have z : ∀ k : Nat, k < 104 → 6 ≤ k → h k = 0 := fun k h1 h2 => by rw [H k h1]; exact hCz k h1 h2
  refine ⟨⟨?_, ?_, ?_, ?_, ?_, ?_, ?_, ?_, by omega, by omega, by rw [w8]; decide⟩, hw, ?_, ?_, ?_, ⟨?_, ?_, ?_, ?_, ?_⟩, ?_⟩
  · rw [H 1 (by decide), c1]; exact w1
  · rw [H 2 (by decide), c2]; exact w2
  · rw [H 3 (by decide), c3]; exact w3
  · rw [H 4 (by decide), c4]; exact w4
  · rw [H 5 (by decide), c5]; exact w5
  · rw [H 6 (by decide), c6]; exact w6
  · rw [H 0 (by decide), c0]; exact w7
  · rw [H 103 (by decide), c103]; exact w8
  · intro b hb; rw [hq b (by omega), z (95 + b) (by omega) (by omega)]
  · intro b hb; omega
  · intro a b ha hb
    rw [ht a (by omega), z (31 + 8 * a + b) (by omega) (by omega), bt_gb _ (by omega)]
    have e : gb 0 b = false := by unfold gb; exact BitVec.getLsbD_zero
    rw [e]
    exact ⟨fun q => absurd q (by decide), fun q => absurd q (by decide)⟩
  · rw [ho]; decide
  · rw [ho]; decide
  · rw [ho]; decide
  · rw [ho]; decide
  · rw [ho, w7]; decide
  · intro b hb; omega
def RFm (res : LR) (r fk fp : Int) (K : (Nat → Int32) → (Nat → Int64) → Prop) : Prop := (∃ h nm, res = .inr (r, h, nm) ∧ fk = 0 ∧ K h nm) ∨ (res = .inl (fk, fp) ∧ 1 ≤ fk)
theorem tk0 {f : Nat → Int32} {n L q : Int} (h : tkq (Pk f n) n L q = 0) (h0 : 0 ≤ q) : n ≤ q := by
  have hr := rk_rng (Pk f n) q (rl (Pk f n) n q)
  unfold tkq at h
  split at h
  · exact absurd h (by decide)
  · split at h
    · rename_i c
      by_cases z : q < n
      · exfalso
        rw [Pk_in h0 z] at c
        unfold ob at c; omega
      · omega
    · split at h
      · omega
      · split at h
        · exact absurd h (by decide)
        · exact absurd h (by decide)
section
variable {f : Nat → Int32} {n L q kind place size value word next ln fk fp : Int} {h : Nat → Int32} {nm : Nat → Int64} {on we : Int32} {T : LR}
theorem rf_end (t : Tc (Pk f n) n L q kind place size value word next) (e : T = libT (Pk f n) n L ln q h nm on we) (hl : ln < 1000) (hk : kind = 0) (hn : n ≤ L) : T = .inr (ln, h, nm) := by
  have k := t.kinds
  rw [e, libT_end hl (by omega)]
theorem rf_over (t : Tc (Pk f n) n L q kind place size value word next) (e : T = libT (Pk f n) n L ln q h nm on we) (hl : ln < 1000) (h0 : 0 ≤ q) (hk : kind = 0) (hn : L < n) (hf : fk = 1) (hp : fp = place) : T = .inl (fk, fp) := by
  have k := t.kinds
  have e4 : tkq (Pk f n) n L q = 4 := by
    rcases k with k | k | k | k | k | k
    · omega
    · omega
    · omega
    · have := tk0 k.1 h0; have := t.2.1; omega
    · exact k.1
    · omega
  have hw : word = 0 := t.2.2.2.2.2.2.2.2.2.2 (by rw [e4]; decide)
  rw [e, libT_no1 hl (by rw [e4]; decide) (sLin_cno t (by omega) hf hp)]
theorem rf_tk (t : Tc (Pk f n) n L q kind place size value word next) (hk : kind ≠ 0) : tkq (Pk f n) n L q ≠ 0 := by
  have k := t.kinds
  omega
end
theorem lib_same {f g : Nat → Int32} {n m : Int} {h : Nat → Int32} {nm : Nat → Int64} {r r' : Int32} (t : Tp f g n) (e : m = n) (a : r.toInt = ansL (libT (Pk f n) n (lm n 900) 0 (wh blk (Pk f n) n 0) h nm 0 0)) (b : r'.toInt = ansL (libT (Pk g m) m (lm m 900) 0 (wh blk (Pk g m) m 0) h nm 0 0)) : r'.toInt = r.toInt := by
  subst e; rw [a, b, Pk_tp t]
