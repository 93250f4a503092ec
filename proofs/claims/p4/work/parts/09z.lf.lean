/-! a life, line by line -/
section
variable (P : Int → Int) (n L : Int) (nm : Nat → Int64) (m : Nat)
def sLif (cnt q : Int) : QR :=
  if 11 ≤ wq P n L q ∧ wq P n L q ≤ 14 then
    (if cnt = 40 then .inl (4, plq n L q)
    else if wq P n L q = 12 then sTak P n L 0 5 (av P n L q)
    else if wq P n L q = 14 then sTak P n L 1 30 (av P n L q)
    else if wq P n L q = 11 then sTkn P n L nm 0 m (av P n L q)
    else qb (sTkn P n L nm 0 m (av P n L q)) (fun q2 => qb (sTak P n L 0 5 q2) (fun q3 => sTak P n L 0 5 q3)))
  else .inl (1, plq n L q)
def lifF : Nat → Int → Int → SnA
  | 0, _, _ => .inl (0, 0)
  | f + 1, c, q => if tkq P n L q = 0 then .inr c else match sLif P n L nm m c q with
    | .inl e => .inl e
    | .inr q1 => match sSgn P n L 59 q1 with
      | .inl e => .inl e
      | .inr q2 => lifF f (c + 1) q2
def lifT (c q : Int) : SnA := lifF P n L nm m (1000 - c).toNat c q
end
section
variable {P : Int → Int} {n L : Int} {nm : Nat → Int64} {m : Nat} {c c' q q1 q2 f fa : Int} {X : QR}
theorem sLif_no1 (h : ¬ (11 ≤ wq P n L q ∧ wq P n L q ≤ 14)) (hf : f = 1) (ha : fa = plq n L q) : sLif P n L nm m c q = .inl (f, fa) := by
  unfold sLif; rw [if_neg h, hf, ha]
theorem sLif_no4 (h : 11 ≤ wq P n L q ∧ wq P n L q ≤ 14) (h4 : c = 40) (hf : f = 4) (ha : fa = plq n L q) : sLif P n L nm m c q = .inl (f, fa) := by
  unfold sLif; rw [if_pos h, if_pos h4, hf, ha]
theorem sLif_br (h : wq P n L q = 12) (h4 : c ≠ 40) (e : sTak P n L 0 5 (av P n L q) = X) : sLif P n L nm m c q = X := by
  unfold sLif; rw [if_pos (by omega), if_neg h4, if_pos h]; exact e
theorem sLif_dy (h : wq P n L q = 14) (h4 : c ≠ 40) (e : sTak P n L 1 30 (av P n L q) = X) : sLif P n L nm m c q = X := by
  unfold sLif; rw [if_pos (by omega), if_neg h4, if_neg (by omega), if_pos h]; exact e
theorem sLif_as (h : wq P n L q = 11) (h4 : c ≠ 40) (e : sTkn P n L nm 0 m (av P n L q) = X) : sLif P n L nm m c q = X := by
  unfold sLif; rw [if_pos (by omega), if_neg h4, if_neg (by omega), if_neg (by omega), if_pos h]; exact e
theorem sLif_mv (h : wq P n L q = 13) (h4 : c ≠ 40) (e : qb (sTkn P n L nm 0 m (av P n L q)) (fun q2 => qb (sTak P n L 0 5 q2) (fun q3 => sTak P n L 0 5 q3)) = X) : sLif P n L nm m c q = X := by
  unfold sLif; rw [if_pos (by omega), if_neg h4, if_neg (by omega), if_neg (by omega), if_neg (by omega)]; exact e
theorem lifT_end (h0 : c < 1000) (e : tkq P n L q = 0) : lifT P n L nm m c q = .inr c := by
  unfold lifT; rw [show (1000 - c).toNat = (1000 - (c + 1)).toNat + 1 by omega]
  show (if tkq P n L q = 0 then _ else _) = _
  rw [if_pos e]
theorem lifT_no1 {a : Int × Int} (h0 : c < 1000) (e : tkq P n L q ≠ 0) (x : sLif P n L nm m c q = .inl a) : lifT P n L nm m c q = .inl a := by
  unfold lifT; rw [show (1000 - c).toNat = (1000 - (c + 1)).toNat + 1 by omega]
  show (if tkq P n L q = 0 then _ else _) = _
  rw [if_neg e, x]
theorem lifT_no2 {a : Int × Int} (h0 : c < 1000) (e : tkq P n L q ≠ 0) (x : sLif P n L nm m c q = .inr q1) (y : sSgn P n L 59 q1 = .inl a) : lifT P n L nm m c q = .inl a := by
  unfold lifT; rw [show (1000 - c).toNat = (1000 - (c + 1)).toNat + 1 by omega]
  show (if tkq P n L q = 0 then _ else _) = _
  rw [if_neg e, x]
  show (match sSgn P n L 59 q1 with | .inl e => _ | .inr q2 => _) = _
  rw [y]
theorem lifT_go (h0 : c < 1000) (e : tkq P n L q ≠ 0) (x : sLif P n L nm m c q = .inr q1) (y : sSgn P n L 59 q1 = .inr q2) (ec : c' = c + 1) : lifT P n L nm m c q = lifT P n L nm m c' q2 := by
  subst ec
  unfold lifT; rw [show (1000 - c).toNat = (1000 - (c + 1)).toNat + 1 by omega]
  show (if tkq P n L q = 0 then _ else _) = _
  rw [if_neg e, x]
  show (match sSgn P n L 59 q1 with | .inl e => _ | .inr q2 => _) = _
  rw [y]
/-- a line's second place, as the class reads it -/
def LiT (P : Int → Int) (n L : Int) (nm : Nat → Int64) (m : Nat) (q act r fk fp fk0 : Int) : Prop := (r = 1 ∧ fk = fk0 ∧ (((act = 11 ∨ act = 13) ∧ sLok P n L nm 0 m q = .inr q) ∨ (act = 12 ∧ sTak P n L 0 5 q = .inr (av P n L q)) ∨ (act = 14 ∧ sTak P n L 1 30 q = .inr (av P n L q)))) ∨ (r = 0 ∧ 1 ≤ fk ∧ (((act = 11 ∨ act = 13) ∧ sLok P n L nm 0 m q = .inl (fk, fp)) ∨ (act = 12 ∧ sTak P n L 0 5 q = .inl (fk, fp)) ∨ (act = 14 ∧ sTak P n L 1 30 q = .inl (fk, fp))))
def PLi (r fk fp fk0 : Int) (res : QR) (K : Int → Prop) : Prop := (r = 1 ∧ fk = fk0 ∧ ∃ q, res = .inr q ∧ K q) ∨ (r = 0 ∧ 1 ≤ fk ∧ res = .inl (fk, fp))
theorem PLi.ok {r fk fp fk0 q : Int} {res : QR} {K : Int → Prop} (hr : r = 1) (hf : fk = fk0) (e : res = .inr q) (k : K q) : PLi r fk fp fk0 res K := Or.inl ⟨hr, hf, q, e, k⟩
theorem PLi.bad {r fk fp fk0 : Int} {res : QR} {K : Int → Prop} (hr : r = 0) (hf : 1 ≤ fk) (e : res = .inl (fk, fp)) : PLi r fk fp fk0 res K := Or.inr ⟨hr, hf, e⟩
/-- a line of the class, by its word -/
theorem LiT.ok {act r fk fp fk0 : Int} (t : LiT P n L nm m (av P n L q) act r fk fp fk0) (hr : r = 1) (h4 : c ≠ 40) (hw : wq P n L q = act) (h3 : act ≠ 13) : sLif P n L nm m c q = .inr (av P n L (av P n L q)) := by
  rcases t with ⟨_, _, ⟨a, e⟩ | ⟨a, e⟩ | ⟨a, e⟩⟩ | ⟨z, _⟩
  · exact sLif_as (by omega) h4 (sTkn_ok e)
  · exact sLif_br (by omega) h4 e
  · exact sLif_dy (by omega) h4 e
  · omega
theorem LiT.mv {act r fk fp fk0 : Int} (t : LiT P n L nm m (av P n L q) act r fk fp fk0) (hr : r = 1) (h4 : c ≠ 40) (hw : wq P n L q = act) (h3 : act = 13) (e : qb (sTak P n L 0 5 (av P n L (av P n L q))) (fun q3 => sTak P n L 0 5 q3) = X) : sLif P n L nm m c q = X := by
  rcases t with ⟨_, _, ⟨a, x⟩ | ⟨a, x⟩ | ⟨a, x⟩⟩ | ⟨z, _⟩
  · exact sLif_mv (by omega) h4 ((qb_ok (sTkn_ok x)).trans e)
  · omega
  · omega
  · omega
theorem LiT.no {act r fk fp fk0 : Int} (t : LiT P n L nm m (av P n L q) act r fk fp fk0) (hr : r = 0) (h4 : c ≠ 40) (hw : wq P n L q = act) : sLif P n L nm m c q = .inl (fk, fp) := by
  rcases t with ⟨z, _⟩ | ⟨_, _, ⟨a, e⟩ | ⟨a, e⟩ | ⟨a, e⟩⟩
  · omega
  · by_cases h : act = 11
    · exact sLif_as (by omega) h4 (sTkn_no e)
    · exact sLif_mv (by omega) h4 (qb_no (sTkn_no e))
  · exact sLif_br (by omega) h4 e
  · exact sLif_dy (by omega) h4 e
end
section
variable {f : Nat → Int32} {n L q kind place size value word next c fk fp : Int} {nm : Nat → Int64} {m : Nat} {T : SnA}
theorem lf_over (t : Tc (Pk f n) n L q kind place size value word next) (e : T = lifT (Pk f n) n L nm m c q) (hl : c < 1000) (hk : ¬ (kind = 0 ∧ n ≤ L)) (h0 : kind = 0) (hf : fk = 1) (hp : fp = place) : T = .inl (fk, fp) := by
  have hw : wq (Pk f n) n L q = 0 := by
    rw [← t.wrd]
    have k := t.kinds
    refine t.2.2.2.2.2.2.2.2.2.2 ?_
    omega
  rw [e, lifT_no1 hl (t.nfin hk) (sLif_no1 (f := fk) (fa := fp) (by omega) hf (by rw [hp]; exact t.pl))]
theorem lf_end (t : Tc (Pk f n) n L q kind place size value word next) (e : T = lifT (Pk f n) n L nm m c q) (hl : c < 1000) (hk : kind = 0) (hn : n ≤ L) : T = .inr c := by
  rw [e, lifT_end hl (t.fin hk hn)]
end
/-- the fault's kind, both ways -/
theorem fl_lib {f g : Nat → Int32} {n m a b : Int} {h : Nat → Int32} {nm : Nat → Int64} (t : Tp f g n) (e : m = n) (x : a = fltL (libT (Pk f n) n (lm n 900) 0 (wh blk (Pk f n) n 0) h nm 0 0)) (y : b = fltL (libT (Pk g m) m (lm m 900) 0 (wh blk (Pk g m) m 0) h nm 0 0)) : a = b := by
  subst e; rw [x, y, Pk_tp t]
theorem fl_sen {f g : Nat → Int32} {n m a c b w h l p i d : Int} {s : Nat → Int32} {nm : Nat → Int64} (tp : Tp f g n) (e : m = n) (t : Ts w h l p i d b s) (x : a = fltS (mach (Pk f n) n (lm n 200) nm b.toNat false [] (wh blk (Pk f n) n 0) 0)) (y : c = fltS (mach (Pk g m) m (lm m 200) nm (s 0).toInt.toNat false [] (wh blk (Pk g m) m 0) 0)) : a = c := by
  subst e; rw [x, y, t.2.2.2.2.2.2, Pk_tp tp]
theorem fl_lif {f g : Nat → Int32} {n m a c a0 c0 b w h l p i d v : Int} {s : Nat → Int32} {nm : Nat → Int64} (tp : Tp f g n) (e : m = n) (t : Ts w h l p i d b s) (e0 : a0 = c0) (x : (0 ≤ v ∧ v ≤ 1 ∧ a = fltS (lifT (Pk f n) n (lm n 400) nm b.toNat 0 (wh blk (Pk f n) n 0))) ∨ ((v < 0 ∨ 1 < v) ∧ a = a0)) (y : (0 ≤ v ∧ v ≤ 1 ∧ c = fltS (lifT (Pk g m) m (lm m 400) nm (s 0).toInt.toNat 0 (wh blk (Pk g m) m 0))) ∨ ((v < 0 ∨ 1 < v) ∧ c = c0)) : a = c := by
  subst e
  rcases x with ⟨x1, x2, x3⟩ | ⟨x1, x3⟩
  · rcases y with ⟨_, _, y3⟩ | ⟨y1, _⟩
    · rw [x3, y3, t.2.2.2.2.2.2, Pk_tp tp]
    · omega
  · rcases y with ⟨_, _, _⟩ | ⟨_, y3⟩
    · omega
    · omega
