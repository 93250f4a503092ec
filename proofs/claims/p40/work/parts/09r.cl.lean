theorem Tc.end_of {f : Nat → Int32} {n L q kind place size value word next : Int} (h : Tc (Pk f n) n L q kind place size value word next) (h1 : L ≤ q) : kind = 0 ∧ place = L ∧ word = 0 ∧ L ≤ next ∧ next ≤ n := by
  obtain ⟨a1, a2, a3, a4, a5, a6, a7, a8, a9, a10, a11⟩ := h
  by_cases c : L < n
  · have e1 : tkq (Pk f n) n L q = 4 := by unfold tkq; rw [if_pos ⟨c, h1⟩]
    have e2 : nxq (Pk f n) n L q = q := by unfold nxq; rw [if_pos ⟨c, h1⟩]
    have e3 : plq n L q = L := by unfold plq; rw [if_pos ⟨c, h1⟩]
    rw [e1, if_neg (show ¬ ((4 : Int) = 3) by decide), if_pos ⟨c, h1⟩] at a7
    rw [e2] at a8
    exact ⟨a7, by omega, a11 (by rw [e1]; decide), by omega, a3⟩
  · have d : ¬ (L < n ∧ L ≤ q) := by omega
    have hneg : Pk f n q < 0 := by rw [Pk_out (by omega)]; decide
    have e1 : tkq (Pk f n) n L q = 0 := by unfold tkq; rw [if_neg d, if_pos hneg]
    have e2 : nxq (Pk f n) n L q = q := by unfold nxq; rw [if_neg d, if_pos hneg]
    have e3 : plq n L q = q := by unfold plq; rw [if_neg d]
    rw [e1, if_neg (show ¬ ((0 : Int) = 3) by decide), if_neg d] at a7
    rw [e2] at a8
    exact ⟨a7, by omega, a11 (by rw [e1]; decide), by omega, a3⟩
theorem nxq_le {f : Nat → Int32} {n L q : Int} (hq : q ≤ n) : nxq (Pk f n) n L q ≤ n := by
  unfold nxq
  split
  · exact hq
  · split
    · exact hq
    · split
      · exact wh_le hq
      · rename_i h _
        have := Pk_pos (f := f) (n := n) (k := q) (by omega)
        omega
theorem Tc.adv {f : Nat → Int32} {n L q kind place size value word next kind' place' size' value' word' next' : Int} (h : Tc (Pk f n) n L q kind place size value word next) (h' : Tc (Pk f n) n L (wh blk (Pk f n) n next) kind' place' size' value' word' next') : Tc (Pk f n) n L (av (Pk f n) n L q) kind' place' size' value' word' next' := by
  rcases h.2.2.2.2.2.2.2.1 with e | ⟨e1, e2⟩
  · unfold av; rw [← e]; exact h'
  · obtain ⟨b1, b2, b3, b4, b5⟩ := Tc.end_of h' (Int.le_trans e1 wh_ge)
    have hn : nxq (Pk f n) n L q ≤ n := nxq_le h.2.1
    have h0 := h'.2.2.2.1
    unfold av
    exact Tc.done h.1 (wh_le hn) (by omega) (Int.le_trans e2 wh_ge) b5 b4 b1 b2 b3
theorem tkq_rng (P : Int → Int) (n L q : Int) : tkq P n L q = 0 ∨ tkq P n L q = 1 ∨ tkq P n L q = 2 ∨ tkq P n L q = 3 ∨ tkq P n L q = 4 := by
  have h := rk_rng P q (rl P n q)
  unfold tkq
  split
  · omega
  · split
    · omega
    · split
      · omega
      · split <;> omega
theorem tk3 {P : Int → Int} {n L q : Int} (h : tkq P n L q = 3) : (P q = 59 ∨ P q = 40 ∨ P q = 41 ∨ (60 ≤ P q ∧ P q ≤ 62)) ∧ nuq P n q = P q := by
  have hr := rk_rng P q (rl P n q)
  unfold tkq at h
  split at h
  · exact absurd h (by decide)
  · split at h
    · exact absurd h (by decide)
    · split at h
      · omega
      · rename_i ha
        split at h
        · rename_i hs
          refine ⟨of_decide_eq_true hs, ?_⟩
          unfold nuq; rw [if_neg ha]
        · exact absurd h (by decide)
/-- what the class's kind of token says -/
theorem Tc.kinds {f : Nat → Int32} {n L q kind place size value word next : Int} (h : Tc (Pk f n) n L q kind place size value word next) : (tkq (Pk f n) n L q = 3 ∧ kind = nuq (Pk f n) n q ∧ 40 ≤ kind) ∨ (tkq (Pk f n) n L q = 2 ∧ kind = 2) ∨ (tkq (Pk f n) n L q = 1 ∧ kind = 1) ∨ (tkq (Pk f n) n L q = 0 ∧ kind = 0 ∧ (n ≤ L ∨ q < L)) ∨ (tkq (Pk f n) n L q = 4 ∧ kind = 0 ∧ L < n ∧ L ≤ q) ∨ (tkq (Pk f n) n L q = 4 ∧ kind = -1) := by
  have h7 := h.2.2.2.2.2.2.1
  have hr := tkq_rng (Pk f n) n L q
  have hov : (L < n ∧ L ≤ q) → tkq (Pk f n) n L q = 4 := fun c => by unfold tkq; rw [if_pos c]
  by_cases c3 : tkq (Pk f n) n L q = 3
  · have h3 := tk3 c3
    rw [if_pos c3] at h7
    left; omega
  · rw [if_neg c3] at h7
    by_cases c : L < n ∧ L ≤ q
    · rw [if_pos c] at h7
      have := hov c; omega
    · rw [if_neg c] at h7
      unfold kc at h7
      split at h7 <;> omega
theorem Tc.lin {P : Int → Int} {n L q kind place size value word next : Int} (h : Tc P n L q kind place size value word next) : L ≤ n ∧ next ≤ n ∧ 0 ≤ place ∧ place ≤ n := ⟨h.1, h.2.2.1, h.2.2.2.1, h.2.2.2.2.1⟩
theorem Tc.pl {P : Int → Int} {n L q kind place size value word next : Int} (h : Tc P n L q kind place size value word next) : place = plq n L q := h.2.2.2.2.2.1
theorem Tc.val {P : Int → Int} {n L q kind place size value word next : Int} (h : Tc P n L q kind place size value word next) (e : tkq P n L q = 2) : value = nuq P n q := (h.2.2.2.2.2.2.2.2.1 e).1
theorem Tc.pos {P : Int → Int} {n L q kind place size value word next : Int} (h : Tc P n L q kind place size value word next) (e : tkq P n L q = 2) : 0 ≤ nuq P n q := by
  have h2 := h.2.2.2.2.2.2.2.2.1 e
  omega
theorem Tc.wrd {P : Int → Int} {n L q kind place size value word next : Int} (h : Tc P n L q kind place size value word next) : word = wq P n L q := by
  unfold wq
  by_cases e : tkq P n L q = 1
  · rw [if_pos e]; exact (h.2.2.2.2.2.2.2.2.2.1 e).1
  · rw [if_neg e]; exact h.2.2.2.2.2.2.2.2.2.2 e
theorem Tc.siz {P : Int → Int} {n L q kind place size value word next : Int} (h : Tc P n L q kind place size value word next) (e : tkq P n L q = 1) : size = (rl P n q : Int) ∧ place + size ≤ n ∧ 1 ≤ size ∧ size ≤ 7 ∧ place = q := by
  obtain ⟨h1, h2, h3⟩ := h.2.2.2.2.2.2.2.2.2.1 e
  have hl := tk1_let e
  have hr := tk1_run e
  have hp := h.pl
  have hno : ¬ (L < n ∧ L ≤ q) := by
    intro c
    have : tkq P n L q = 4 := by unfold tkq; rw [if_pos c]
    omega
  have hpos : rl P n q ≠ 0 := by
    intro z
    rw [z] at hr
    exact absurd hr (by unfold rk; rw [if_pos ⟨rfl, by decide⟩]; decide)
  unfold plq at hp
  rw [if_neg hno] at hp
  omega
/-- a number, asked for by the class -/
theorem sTak_c {f : Nat → Int32} {n L q kind place size value word next r lo hi fk fp fk0 : Int} (h : Tc (Pk f n) n L q kind place size value word next) (x : (r = 1 ∧ kind = 2 ∧ lo ≤ value ∧ value ≤ hi ∧ fk = fk0) ∨ (r = 0 ∧ kind ≠ 2 ∧ fk = 1 ∧ fp = place) ∨ (r = 0 ∧ kind = 2 ∧ (value < lo ∨ hi < value) ∧ fk = 2 ∧ fp = place)) : (r = 1 ∧ sTak (Pk f n) n L lo hi q = .inr (av (Pk f n) n L q) ∧ value = nuq (Pk f n) n q ∧ lo ≤ value ∧ value ≤ hi ∧ fk = fk0) ∨ (r = 0 ∧ sTak (Pk f n) n L lo hi q = .inl (fk, fp) ∧ 1 ≤ fk) := by
  have hk := h.kinds
  have hp := h.pl
  by_cases e : tkq (Pk f n) n L q = 2
  · have hv := h.val e
    rcases x with ⟨x1, x2, x3, x4, x6⟩ | ⟨x1, x2, x3, x4⟩ | ⟨x1, x2, x3, x4, x5⟩
    · refine Or.inl ⟨x1, ?_, hv, x3, x4, x6⟩
      unfold sTak; rw [if_pos e, if_pos (by omega)]
    · omega
    · refine Or.inr ⟨x1, ?_, by omega⟩
      unfold sTak; rw [if_pos e, if_neg (by omega), x4, x5, hp]
  · rcases x with ⟨x1, x2, x3, x4, x6⟩ | ⟨x1, x2, x3, x4⟩ | ⟨x1, x2, x3, x4, x5⟩
    · omega
    · refine Or.inr ⟨x1, ?_, by omega⟩
      unfold sTak; rw [if_neg e, x3, x4, hp]
    · omega
theorem sSgn_cok {f : Nat → Int32} {n L q kind place size value word next c : Int} (h : Tc (Pk f n) n L q kind place size value word next) (e : kind = c) (hc : 40 ≤ c) : sSgn (Pk f n) n L c q = .inr (av (Pk f n) n L q) := by
  have hk := h.kinds
  unfold sSgn; rw [if_pos (by omega)]
theorem sSgn_cno {f : Nat → Int32} {n L q kind place size value word next c fk fp : Int} (h : Tc (Pk f n) n L q kind place size value word next) (e : kind ≠ c) (hf : fk = 1) (ha : fp = place) : sSgn (Pk f n) n L c q = .inl (fk, fp) := by
  have hk := h.kinds
  have hp := h.pl
  unfold sSgn; rw [if_neg (by omega), hf, ha, hp]
/-- names as the class keeps them -/
def Nm1 (sz : Int) (N : Int → Int) (w : Int64) : Prop := 1 ≤ sz ∧ sz ≤ 7 ∧ Lts N 0 sz.toNat ∧ w = lN (cod N 0 sz.toNat).toNat
def nmF (names : Nat → Int32) (b : Nat) (i : Int) : Int := (names (7 * b + i.toNat)).toInt
def Nms (books : Int) (sizes names : Nat → Int32) (nm : Nat → Int64) (a : Nat) : Prop := ∀ b : Nat, (b : Int) < books → Nm1 (sizes b).toInt (nmF names b) (nm (a + b))
theorem nm_iff {P : Int → Int} {n L q sz : Int} {N : Int → Int} {w : Int64} (hN : Nm1 sz N w) (hk : tkq P n L q = 1) : w = lN (wcq P n q).toNat ↔ (sz = (rl P n q : Int) ∧ ∀ i : Nat, (i : Int) < sz → N i = P (q + i)) := by
  obtain ⟨h1, h2, h3, h4⟩ := hN
  obtain ⟨g1, g2⟩ := tk1_let hk
  have r1 := wcq_rng hk
  have r2 := cod_lt (A := N) (a := 0) sz.toNat (fun i hi => by have := h3 i hi; omega)
  have r3 := pw8 sz.toNat (by omega)
  constructor
  · intro e
    rw [h4] at e
    have e2 := lN_inj (by omega) (by omega) e
    have e3 : cod N 0 sz.toNat = cod P q (rl P n q) := by
      have : wcq P n q = cod P q (rl P n q) := rfl
      omega
    obtain ⟨k1, k2⟩ := cod_inj sz.toNat (rl P n q) (fun i hi => by have := h3 i hi; omega) (fun i hi => by have := g1 i hi; omega) e3
    refine ⟨by omega, fun i hi => ?_⟩
    have := k2 i (by omega)
    rw [show (0 : Int) + (i : Int) = (i : Int) by omega] at this
    exact this
  · intro ⟨e1, e2⟩
    have e3 : cod N 0 sz.toNat = cod P q sz.toNat := cod_eq sz.toNat (fun i hi => by rw [show (0 : Int) + (i : Int) = (i : Int) by omega]; exact e2 i (by omega))
    have : wcq P n q = cod P q (rl P n q) := rfl
    rw [h4, e3, this, show sz.toNat = rl P n q by omega]
/-- names alike so far -/
def Ns (names : Nat → Int32) (P : Int → Int) (b : Nat) (q l : Int) : Prop := ∀ i : Nat, (i : Int) < l → nmF names b i = P (q + i)
theorem Ns.zero {names : Nat → Int32} {P : Int → Int} {b : Nat} {q l : Int} (h : l ≤ 0) : Ns names P b q l := fun i hi => absurd hi (by omega)
theorem Ns.step {names : Nat → Int32} {P : Int → Int} {b : Nat} {q l l' : Int} {x v : Int32} (h : Ns names P b q l) (h0 : 0 ≤ l) (hx : x.toInt = 7 * (b : Int) + l) (ev : v = names x.toNatClampNeg) (e : P (q + l) = v.toInt) (hl : l' = l + 1) : Ns names P b q l' := by
  have c := o_cl hx (by omega)
  intro i hi
  by_cases z : (i : Int) = l
  · unfold nmF
    rw [show 7 * b + ((i : Int)).toNat = x.toNatClampNeg by omega, ← ev, z, e]
  · exact h i (by omega)
theorem isn_no1 {P : Int → Int} {n L q kind place size value word next v : Int} {sizes names : Nat → Int32} {nm : Nat → Int64} {books : Int} {a : Nat} {b z : Int32} (t : Tc P n L q kind place size value word next) (hk : tkq P n L q = 1) (hN : Nms books sizes names nm a) (h0 : 0 ≤ b.toInt) (hb : b.toInt < books) (ez : z = sizes b.toNatClampNeg) (e : z.toInt ≠ size) : nm (a + b.toInt.toNat) ≠ lN (wcq P n q).toNat := by
  have c := o_cl (x := b) rfl h0
  have h := hN b.toInt.toNat (by omega)
  have s := t.siz hk
  intro w
  have := ((nm_iff h hk).mp w).1
  rw [show b.toInt.toNat = b.toNatClampNeg by omega, ← ez] at this
  omega
theorem isn_no2 {P : Int → Int} {n L q kind place size value word next l y : Int} {sizes names : Nat → Int32} {nm : Nat → Int64} {books : Int} {a : Nat} {b z x v : Int32} (t : Tc P n L q kind place size value word next) (hk : tkq P n L q = 1) (hN : Nms books sizes names nm a) (h0 : 0 ≤ b.toInt) (hb : b.toInt < books) (ez : z = sizes b.toNatClampNeg) (h1 : 0 ≤ l) (hl : l < z.toInt) (hx : x.toInt = 7 * b.toInt + l) (ev : v = names x.toNatClampNeg) (hy : y = place + l) (e : P y ≠ v.toInt) : nm (a + b.toInt.toNat) ≠ lN (wcq P n q).toNat := by
  have c := o_cl (x := b) rfl h0
  have c2 := o_cl hx (by omega)
  have h := hN b.toInt.toNat (by omega)
  have s := t.siz hk
  intro w
  have h2 := ((nm_iff h hk).mp w).2 l.toNat (by rw [show b.toInt.toNat = b.toNatClampNeg by omega, ← ez]; omega)
  apply e
  unfold nmF at h2
  rw [show 7 * b.toInt.toNat + ((l.toNat : Nat) : Int).toNat = x.toNatClampNeg by omega, ← ev] at h2
  rw [hy, s.2.2.2.2, h2, show ((l.toNat : Nat) : Int) = l by omega]
theorem isn_yes {P : Int → Int} {n L q kind place size value word next l : Int} {sizes names : Nat → Int32} {nm : Nat → Int64} {books : Int} {a : Nat} {b z : Int32} (t : Tc P n L q kind place size value word next) (hk : tkq P n L q = 1) (hN : Nms books sizes names nm a) (h0 : 0 ≤ b.toInt) (hb : b.toInt < books) (ez : z = sizes b.toNatClampNeg) (e : z.toInt = size) (hs : Ns names P b.toInt.toNat place l) (hl : z.toInt ≤ l) : nm (a + b.toInt.toNat) = lN (wcq P n q).toNat := by
  have c := o_cl (x := b) rfl h0
  have h := hN b.toInt.toNat (by omega)
  have s := t.siz hk
  rw [show b.toInt.toNat = b.toNatClampNeg by omega] at h hs ⊢
  refine (nm_iff h hk).mpr ⟨by rw [← ez]; omega, fun i hi => ?_⟩
  rw [← ez] at hi
  rw [hs i (by omega), s.2.2.2.2]
/-- a book by its name, asked for by the class -/
def BkT (P : Int → Int) (n L : Int) (nm : Nat → Int64) (a m : Nat) (q r fk fp fk0 : Int) : Prop := (0 ≤ r ∧ sLok P n L nm a m q = .inr q ∧ r = fnd nm (lN (wcq P n q).toNat) a m ∧ fk = fk0) ∨ (r = -1 ∧ sLok P n L nm a m q = .inl (fk, fp) ∧ 1 ≤ fk)
theorem BkT.no1 {f : Nat → Int32} {n L q kind place size value word next r fk fp fk0 : Int} {nm : Nat → Int64} {a m : Nat} (t : Tc (Pk f n) n L q kind place size value word next) (h : ¬ (kind = 1 ∧ word = 0)) (hr : r = -1) (hf : fk = 1) (hp : fp = place) : BkT (Pk f n) n L nm a m q r fk fp fk0 := by
  refine Or.inr ⟨hr, ?_, by omega⟩
  have hk := t.kinds
  have hw := t.wrd
  have hl := t.pl
  unfold sLok
  rw [if_neg (fun z => by
    unfold wq at hw; rw [if_pos z.1] at hw
    omega), hf, hp, hl]
theorem nam_c {f : Nat → Int32} {n L q kind place size value word next : Int} (t : Tc (Pk f n) n L q kind place size value word next) (h1 : kind = 1) (h2 : word = 0) : tkq (Pk f n) n L q = 1 ∧ wi (wcq (Pk f n) n q) = 0 := by
  have hk := t.kinds
  have hw := t.wrd
  have e : tkq (Pk f n) n L q = 1 := by omega
  unfold wq at hw; rw [if_pos e] at hw
  exact ⟨e, by omega⟩
theorem BkT.of {f : Nat → Int32} {n L q kind place size value word next r fk fp fk0 : Int} {nm : Nat → Int64} {a m : Nat} (t : Tc (Pk f n) n L q kind place size value word next) (h1 : kind = 1) (h2 : word = 0) (hr : r = fnd nm (lN (wcq (Pk f n) n q).toNat) a m) (hf : (r = -1 ∧ fk = 3 ∧ fp = place) ∨ (r ≠ -1 ∧ fk = fk0)) : BkT (Pk f n) n L nm a m q r fk fp fk0 := by
  have e := nam_c t h1 h2
  have hl := t.pl
  have hg := fnd_rng (nm := nm) (w := lN (wcq (Pk f n) n q).toNat) (a := a) (m - 0) 0
  have hg2 : fnd nm (lN (wcq (Pk f n) n q).toNat) a m = fndF nm (lN (wcq (Pk f n) n q).toNat) a (m - 0) 0 := rfl
  by_cases z : r = -1
  · obtain ⟨z1, z2⟩ : fk = 3 ∧ fp = place := by omega
    refine Or.inr ⟨z, ?_, by omega⟩
    unfold sLok; rw [if_pos e, if_pos (by omega), z1, z2, hl]
  · refine Or.inl ⟨by omega, ?_, hr, by omega⟩
    unfold sLok; rw [if_pos e, if_neg (by omega)]
