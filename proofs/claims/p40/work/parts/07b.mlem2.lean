/-! one bit; a byte of the tape; threads and lines, as the model reads them -/
def bt (v w : Int32) : Int32 := if (v >>> (w &&& 31)) &&& 1 = 1 then 1 else 0
theorem bt_yes {v w y z : Int32} (ey : y = v >>> (w &&& 31)) (ez : z = y &&& 1) (h : z.toInt = 1) : (1 : Int32) = bt v w := by
  unfold bt; rw [← ey, ← ez, if_pos (o_meq (b := 1) rfl (by decide) h)]
theorem bt_no {v w y z : Int32} (ey : y = v >>> (w &&& 31)) (ez : z = y &&& 1) (h : z.toInt ≠ 1) : (0 : Int32) = bt v w := by
  unfold bt; rw [← ey, ← ez, if_neg (o_mne (b := 1) rfl (by decide) h)]
def oc (f : Nat → Int32) (a : Int32) : Int32 := f a.toNatClampNeg &&& 255
theorem oc_of {f : Nat → Int32} {a z v : Int32} (ez : z = f a.toNatClampNeg) (ev : v = z &&& 255) : v = oc f a := by unfold oc; rw [← ez]; exact ev
def thr (f : Nat → Int32) (a b : Int32) : Int32 := f (138 + 8 * a.toNatClampNeg + b.toNatClampNeg)
theorem thr_of {f : Nat → Int32} {a b x z : Int32} (ez : z = f x.toNatClampNeg) (h0 : 0 ≤ a.toInt) (h1 : 0 ≤ b.toInt) (hx : x.toInt = 138 + 8 * a.toInt + b.toInt) : z = thr f a b := by
  have c1 := o_cl (x := a) rfl h0
  have c2 := o_cl (x := b) rfl h1
  have c3 := o_cl (x := x) rfl (by omega)
  have e : x.toNatClampNeg = 138 + 8 * a.toNatClampNeg + b.toNatClampNeg := by omega
  unfold thr; rw [← e]; exact ez
def lnF (f : Nat → Int32) (b : Int32) : Nat → Int32
  | 0 => 0
  | n + 1 => lnF f b n ||| (if (f 5).toInt ≤ (thr f b (nI n)).toInt then (1 : Int32) <<< (nI n &&& 31) else 0)
theorem lnF_zero {f : Nat → Int32} {b : Int32} : (0 : Int32) = lnF f b (0 : Int32).toNatClampNeg := by
  have e : (0 : Int32).toNatClampNeg = 0 := by decide
  rw [e]; rfl
theorem lnF_a {f : Nat → Int32} {b k k' v v' z t l : Int32} (h : v = lnF f b k.toNatClampNeg) (h0 : 0 ≤ k.toInt) (et : t = thr f b k) (el : l = f 5) (hc : l.toInt ≤ t.toInt) (ez : z = (1 : Int32) <<< (k &&& 31)) (ev : v' = v ||| z) (hk : k'.toInt = k.toInt + 1) : v' = lnF f b k'.toNatClampNeg := by
  obtain ⟨j, hj, eb, ek⟩ := o_nat (x := k) rfl h0
  have c1 := o_cl (x := k) rfl h0
  have c2 := o_cl (x := k') rfl (by omega)
  have e1 : k.toNatClampNeg = j := by omega
  have e2 : k'.toNatClampNeg = j + 1 := by omega
  rw [e2]; unfold lnF
  rw [← ek, ← et, ← el, if_pos hc, ← ez, ev, h, e1]
theorem lnF_b {f : Nat → Int32} {b k k' v v' t l : Int32} (h : v = lnF f b k.toNatClampNeg) (h0 : 0 ≤ k.toInt) (et : t = thr f b k) (el : l = f 5) (hc : t.toInt < l.toInt) (ev : v' = v ||| 0) (hk : k'.toInt = k.toInt + 1) : v' = lnF f b k'.toNatClampNeg := by
  obtain ⟨j, hj, eb, ek⟩ := o_nat (x := k) rfl h0
  have c1 := o_cl (x := k) rfl h0
  have c2 := o_cl (x := k') rfl (by omega)
  have e1 : k.toNatClampNeg = j := by omega
  have e2 : k'.toNatClampNeg = j + 1 := by omega
  rw [e2]; unfold lnF
  rw [← ek, ← et, ← el, if_neg (by omega), ev, h, e1]
theorem lnF_end {f : Nat → Int32} {b k n v : Int32} (h : v = lnF f b k.toNatClampNeg) (en : n = f 0) (h1 : k.toInt = n.toInt) : v = lnF f b (f 0).toNatClampNeg := by
  have e : k = n := o_meq rfl rfl h1
  rw [← en, ← e]; exact h
/-! how far the books are -/
def Ed (f : Nat → Int32) (k i : Nat) : Prop := bt (lnF f (nI k) (f 0).toNatClampNeg) (nI i) = 1
def Fb (f g : Nat → Int32) : Prop := ∀ k : Nat, k < 8 → (g k).toInt < 1000000000 → 1 ≤ (g k).toInt → ∃ i : Nat, i < 8 ∧ (i : Int) < (f 0).toInt ∧ Ed f k i ∧ (g i).toInt + 1 ≤ (g k).toInt
def Fc (f g : Nat → Int32) (r : Int) : Prop := ∀ k i : Nat, k < 8 → i < 8 → (k : Int) < (f 0).toInt → (i : Int) < (f 0).toInt → Ed f k i → (g i).toInt + 1 ≤ r → (g k).toInt ≤ (g i).toInt + 1
def Fj (f g : Nat → Int32) (r k i : Int) : Prop := Fb f g ∧ ∃ g0 : Nat → Int32, Fc f g0 r ∧ (∀ j : Nat, j < 8 → (g j).toInt ≤ (g0 j).toInt ∧ ((g j).toInt = (g0 j).toInt ∨ r + 1 ≤ (g j).toInt)) ∧ (∀ a b : Nat, a < 8 → b < 8 → (a : Int) < (f 0).toInt → (b : Int) < (f 0).toInt → ((a : Int) < k ∨ ((a : Int) = k ∧ (b : Int) < i)) → Ed f a b → (g0 b).toInt ≤ r → (g a).toInt ≤ (g0 b).toInt + 1)
def Fi (f g : Nat → Int32) (r : Int) : Prop := Fb f g ∧ Fc f g r
def Fz (g : Nat → Int32) (n : Int) : Prop := ∀ k : Nat, (k : Int) < n → (g k).toInt = 0 ∨ (g k).toInt = 1000000000
theorem Fz.zero {g : Nat → Int32} {n : Int} (h : n ≤ 0) : Fz g n := fun k hk => absurd hk (by omega)
theorem Fz.step {g : Nat → Int32} {x y v : Int32} (h : Fz g x.toInt) (h0 : 0 ≤ x.toInt) (hv : v.toInt = 0 ∨ v.toInt = 1000000000) (hy : y.toInt = x.toInt + 1) : Fz (upd g x.toNatClampNeg v) y.toInt := by
  intro k hk
  have hc := o_cl (x := x) rfl h0
  by_cases e : k = x.toNatClampNeg
  · subst e; simp only [upd, if_pos]; exact hv
  · simp only [upd, if_neg e]; exact h k (by omega)
theorem Fi.start {f g : Nat → Int32} {n : Int} (h : Fz g n) (hn : 8 ≤ n) (hr : Rg g 0 8 0 1000000000) : Fi f g 0 := by
  refine ⟨fun k h1 h2 h3 => ?_, fun k i h1 h2 _ _ _ h5 => ?_⟩
  · have := h k (by omega); omega
  · have := hr i (by omega) h2; omega
theorem Fj.start {f g : Nat → Int32} {r : Int} (h : Fi f g r) : Fj f g r 0 0 :=
  ⟨h.1, g, h.2, fun j _ => ⟨Int.le_refl _, Or.inl rfl⟩, fun a b _ _ _ _ h => absurd h (by omega)⟩
theorem Fj.row {f g : Nat → Int32} {r k i k' : Int} (h : Fj f g r k i) (hi : (f 0).toInt ≤ i) (hk : k' = k + 1) : Fj f g r k' 0 := by
  obtain ⟨h1, g0, h2, h3, h4⟩ := h
  refine ⟨h1, g0, h2, h3, fun a b a8 b8 an bn hab => h4 a b a8 b8 an bn ?_⟩
  omega
theorem Fj.fin {f g : Nat → Int32} {r k i r' : Int} (h : Fj f g r k i) (hk : (f 0).toInt ≤ k) (hr : r' = r + 1) : Fi f g r' := by
  obtain ⟨h1, g0, h2, h3, h4⟩ := h
  refine ⟨h1, fun a b a8 b8 an bn hab hb => ?_⟩
  have q := h3 b b8
  have e : (g b).toInt = (g0 b).toInt := by omega
  have := h4 a b a8 b8 an bn (Or.inl (by omega)) hab (by omega)
  omega
theorem Fj.skip {f g : Nat → Int32} {r k i i' : Int} (h : Fj f g r k i) (hi : i' = i + 1) (hs : ∀ a b : Nat, (a : Int) = k → (b : Int) = i → Ed f a b → (g a).toInt ≤ (g b).toInt + 1) : Fj f g r k i' := by
  obtain ⟨h1, g0, h2, h3, h4⟩ := h
  refine ⟨h1, g0, h2, h3, fun a b a8 b8 an bn hab hE hb => ?_⟩
  by_cases e : (a : Int) < k ∨ ((a : Int) = k ∧ (b : Int) < i)
  · exact h4 a b a8 b8 an bn e hE hb
  · have q := h3 b b8
    have := hs a b (by omega) (by omega) hE
    omega
theorem Fj.noE {f g : Nat → Int32} {r i' : Int} {k i b x : Int32} (h : Fj f g r k.toInt i.toInt) (h0 : 0 ≤ k.toInt) (h1 : 0 ≤ i.toInt) (el : x = lnF f k (f 0).toNatClampNeg) (eb : b = bt x i) (hb : b.toInt = 0) (hi : i' = i.toInt + 1) : Fj f g r k.toInt i' := by
  refine h.skip hi (fun a c ea ec hE => ?_)
  obtain ⟨j, hj, e1, e2⟩ := o_nat (x := k) rfl h0
  obtain ⟨j', hj', e3, e4⟩ := o_nat (x := i) rfl h1
  have q1 : a = j := by omega
  have q2 : c = j' := by omega
  unfold Ed at hE
  rw [q1, q2, ← e2, ← e4, ← el, ← eb] at hE
  rw [hE] at hb
  exact absurd hb (by decide)
theorem Fj.noC {f g : Nat → Int32} {r i' : Int} {k i u v : Int32} (h : Fj f g r k.toInt i.toInt) (h0 : 0 ≤ k.toInt) (h1 : 0 ≤ i.toInt) (eu : u = g i.toNatClampNeg) (ev : v = g k.toNatClampNeg) (hc : v.toInt ≤ u.toInt + 1) (hi : i' = i.toInt + 1) : Fj f g r k.toInt i' := by
  refine h.skip hi (fun a c ea ec _ => ?_)
  have c1 := o_cl (x := k) rfl h0
  have c2 := o_cl (x := i) rfl h1
  have q1 : a = k.toNatClampNeg := by omega
  have q2 : c = i.toNatClampNeg := by omega
  rw [q1, q2, ← eu, ← ev]; exact hc
theorem Fj.step {f g : Nat → Int32} {r i' : Int} {k i u v w b x : Int32} (h : Fj f g r k.toInt i.toInt) (hr : 0 ≤ r) (hg : Rg g 0 8 0 1000000000) (h0 : 0 ≤ k.toInt) (h1 : 0 ≤ i.toInt) (k8 : k.toInt ≤ 7) (i8 : i.toInt ≤ 7) (kn : k.toInt < (f 0).toInt) (i_n : i.toInt < (f 0).toInt) (el : x = lnF f k (f 0).toNatClampNeg) (eb : b = bt x i) (hb : b.toInt = 1) (eu : u = g i.toNatClampNeg) (ev : v = g k.toNatClampNeg) (hw : w.toInt = u.toInt + 1) (hc : w.toInt < v.toInt) (hi : i' = i.toInt + 1) : Fj f (upd g k.toNatClampNeg w) r k.toInt i' := by
  obtain ⟨p1, g0, p2, p3, p4⟩ := h
  have c1 := o_cl (x := k) rfl h0
  have c2 := o_cl (x := i) rfl h1
  obtain ⟨j, hj, e1, e2⟩ := o_nat (x := k) rfl h0
  obtain ⟨j', hj', e3, e4⟩ := o_nat (x := i) rfl h1
  have q1 : k.toNatClampNeg = j := by omega
  have q2 : i.toNatClampNeg = j' := by omega
  rw [q2] at eu; rw [q1] at ev ⊢
  have hE : Ed f j j' := by unfold Ed; rw [← e2, ← e4, ← el, ← eb]; exact o_meq (b := 1) rfl (by decide) hb
  have hne : j' ≠ j := by intro e; rw [e, ← ev] at eu; rw [eu] at hw; omega
  have z0 := p3 j (by omega)
  have z1 := p3 j' (by omega)
  have hge := hg j' (by omega) (by omega)
  rw [← eu] at hge
  have hlo : r + 1 ≤ w.toInt := by
    refine Classical.byContradiction (fun hx => ?_)
    rw [← eu] at z1; rw [← ev] at z0
    have e5 : u.toInt = (g0 j').toInt := by omega
    have := p2 j j' (by omega) (by omega) (by omega) (by omega) hE (by omega)
    omega
  have hup : ∀ a : Nat, (upd g j w a).toInt ≤ (g a).toInt := by
    intro a
    by_cases e : a = j
    · subst e; simp only [upd, if_pos]; rw [← ev]; omega
    · simp only [upd, if_neg e]; exact Int.le_refl _
  refine ⟨fun a a8 h2 h3 => ?_, g0, p2, fun a a8 => ?_, fun a c a8 c8 an cn hab hE2 hb2 => ?_⟩
  · by_cases e : a = j
    · subst e
      refine ⟨j', by omega, by omega, hE, ?_⟩
      simp only [upd, if_neg hne, if_pos]; rw [← eu]; omega
    · simp only [upd, if_neg e] at h2 h3 ⊢
      obtain ⟨i2, i3, i4, i5, i6⟩ := p1 a a8 h2 h3
      refine ⟨i2, i3, i4, i5, ?_⟩
      have := hup i2
      simp only [upd] at this
      omega
  · by_cases e : a = j
    · subst e; simp only [upd, if_pos]; rw [← ev] at z0; omega
    · simp only [upd, if_neg e]; exact p3 a a8
  · by_cases e : (a : Int) < k.toInt ∨ ((a : Int) = k.toInt ∧ (c : Int) < i.toInt)
    · have := p4 a c a8 c8 an cn e hE2 hb2
      have := hup a
      omega
    · have q3 : a = j := by omega
      have q4 : c = j' := by omega
      subst q3; subst q4
      simp only [upd, if_pos]
      rw [← eu] at z1
      omega
/-- eight books have not nine distances -/
theorem nine : ∀ (m : Nat) (f : Nat → Int), ¬ ∀ v : Nat, v ≤ m → ∃ k : Nat, k < m ∧ f k = (v : Int) := by
  intro m
  induction m with
  | zero => intro f h; obtain ⟨k, hk, _⟩ := h 0 (by omega); omega
  | succ m ih =>
    intro f h
    refine ih (fun k => if f m < f k then f k - 1 else f k) (fun v hv => ?_)
    by_cases e : (v : Int) < f m
    · obtain ⟨k, hk, e2⟩ := h v (by omega)
      have hne : k ≠ m := by intro q; subst q; omega
      refine ⟨k, by omega, ?_⟩
      show (if f m < f k then f k - 1 else f k) = (v : Int)
      rw [if_neg (by omega)]; exact e2
    · obtain ⟨k, hk, e2⟩ := h (v + 1) (by omega)
      have hne : k ≠ m := by intro q; subst q; omega
      refine ⟨k, by omega, ?_⟩
      show (if f m < f k then f k - 1 else f k) = (v : Int)
      rw [if_pos (by omega)]; omega
theorem Fi.chain {f g : Nat → Int32} (h : Fi f g 8) (hr : Rg g 0 8 0 1000000000) : ∀ (n k : Nat), k < 8 → (k : Int) < (f 0).toInt → (g k).toInt = (n : Int) → n ≤ 8 → ∀ v : Nat, v ≤ n → ∃ j : Nat, j < 8 ∧ (g j).toInt = (v : Int) := by
  intro n
  induction n with
  | zero => intro k h1 _ h3 _ v hv; exact ⟨k, h1, by omega⟩
  | succ n ih =>
    intro k h1 hn h3 h4 v hv
    by_cases e : v = n + 1
    · exact ⟨k, h1, by rw [h3, e]⟩
    · obtain ⟨i, i1, i2, i3, i4⟩ := h.1 k h1 (by omega) (by omega)
      have hp := hr i (by omega) i1
      have q := h.2 k i h1 i1 hn i2 i3 (by omega)
      exact ih i i1 i2 (by omega) (by omega) v (by omega)
theorem Fi.eight {f g : Nat → Int32} (h : Fi f g 8) (hr : Rg g 0 8 0 1000000000) {k : Nat} (k8 : k < 8) (kn : (k : Int) < (f 0).toInt) : (g k).toInt ≠ 8 := by
  intro e
  exact nine 8 (fun j => (g j).toInt) (h.chain hr 8 k k8 kn e (by omega))
theorem Fi.low {f g : Nat → Int32} (h : Fi f g 8) (hr : Rg g 0 8 0 1000000000) : ∀ (n k : Nat), k < 8 → (k : Int) < (f 0).toInt → (g k).toInt ≤ (n : Int) → (g k).toInt < 1000000000 → (g k).toInt ≤ 7 := by
  intro n
  induction n with
  | zero => intro k h1 h2 h3 h4; omega
  | succ n ih =>
    intro k h1 h2 h3 h4
    by_cases e : (g k).toInt ≤ 7
    · exact e
    · obtain ⟨i, i1, i2, i3, i4⟩ := h.1 k h1 h4 (by omega)
      have hp := hr i (by omega) i1
      have q1 := ih i i1 i2 (by omega) (by omega)
      have q := h.2 k i h1 i1 h2 i2 i3 (by omega)
      have := h.eight hr h1 h2
      omega
theorem Fi.top {f g : Nat → Int32} {a z : Int32} (h : Fi f g 8) (hr : Rg g 0 8 0 1000000000) (h0 : 0 ≤ a.toInt) (h1 : a.toInt ≤ 7) (hn : a.toInt < (f 0).toInt) (ez : z = g a.toNatClampNeg) (hz : z.toInt ≠ 1000000000) : 0 ≤ z.toInt ∧ z.toInt ≤ 7 := by
  have c := o_cl (x := a) rfl h0
  have q := hr a.toNatClampNeg (by omega) (by omega)
  have q2 := h.low hr (g a.toNatClampNeg).toInt.toNat a.toNatClampNeg (by omega) (by omega) (by omega)
  rw [← ez] at q q2
  omega
/-- the next book of a way -/
def Nx (f g : Nat → Int32) (k w : Int32) : Prop := 0 ≤ w.toInt ∧ w.toInt ≤ 7 ∧ w.toInt < (f 0).toInt ∧ bt (lnF f k (f 0).toNatClampNeg) w = 1 ∧ (g w.toNatClampNeg).toInt = (g k.toNatClampNeg).toInt - 1
theorem Fi.next {f g : Nat → Int32} {a z : Int32} (h : Fi f g 8) (hr : Rg g 0 8 0 1000000000) (h0 : 0 ≤ a.toInt) (h1 : a.toInt ≤ 7) (hn : a.toInt < (f 0).toInt) (ez : z = g a.toNatClampNeg) (hz : 1 ≤ z.toInt) (hz2 : z.toInt ≤ 7) : ∃ w : Int32, Nx f g a w := by
  have c := o_cl (x := a) rfl h0
  obtain ⟨j, hj, e1, e2⟩ := o_nat (x := a) rfl h0
  have ej : a.toNatClampNeg = j := by omega
  rw [ej] at ez
  obtain ⟨i, i1, i2, i3, i4⟩ := h.1 j (by omega) (by rw [← ez]; omega) (by rw [← ez]; omega)
  have hp := hr i (by omega) i1
  have q := h.2 j i (by omega) i1 (by omega) i2 i3 (by rw [← ez] at i4; omega)
  have e3 : (nI i).toInt = (i : Int) := nI_toInt (by omega)
  have c2 := o_cl (x := nI i) rfl (by omega)
  have e4 : (nI i).toNatClampNeg = i := by omega
  refine ⟨nI i, by omega, by omega, by omega, ?_, ?_⟩
  · rw [e2]; exact i3
  · rw [e4, ej]; omega
theorem Nx.neE {f g : Nat → Int32} {k w i b x : Int32} (h : Nx f g k w) (el : x = lnF f k (f 0).toNatClampNeg) (eb : b = bt x i) (hb : b.toInt = 0) (hi : i.toInt ≤ w.toInt) : i.toInt + 1 ≤ w.toInt := by
  have hne : i.toInt ≠ w.toInt := by
    intro e
    have e2 : i = w := o_meq rfl rfl e
    rw [e2, el] at eb
    rw [eb, h.2.2.2.1] at hb
    exact absurd hb (by decide)
  omega
theorem Nx.neC {f g : Nat → Int32} {k w i u v : Int32} (h : Nx f g k w) (eu : u = g i.toNatClampNeg) (ev : v = g k.toNatClampNeg) (hc : u.toInt ≠ v.toInt - 1) (hi : i.toInt ≤ w.toInt) : i.toInt + 1 ≤ w.toInt := by
  have hne : i.toInt ≠ w.toInt := by
    intro e
    have e2 : i = w := o_meq rfl rfl e
    have e3 := h.2.2.2.2
    rw [← e2, ← eu, ← ev] at e3
    exact hc e3
  omega
/-! the sum of all paths -/
def ps (f : Nat → Int32) : Nat → Int
  | 0 => 0
  | n + 1 => ps f n + (f n).toInt
def psum (f : Nat → Int32) : Int := ps f 36
theorem ps_lo (f : Nat → Int32) : ∀ n : Nat, -(2147483648 * (n : Int)) ≤ ps f n := by
  intro n
  induction n with
  | zero => unfold ps; omega
  | succ n ih => unfold ps; have := o_rng (f n); omega
theorem psum_lo (f : Nat → Int32) : 0 ≤ psum f + 77309411328 := by
  have := ps_lo f 36; unfold psum; omega
theorem ps_upd (f : Nat → Int32) (k : Nat) (v : Int32) : ∀ n : Nat, ps (upd f k v) n = ps f n + (if k < n then v.toInt - (f k).toInt else 0) := by
  intro n
  induction n with
  | zero => unfold ps; rw [if_neg (by omega)]; rfl
  | succ n ih =>
    unfold ps; rw [ih]
    by_cases e : n = k
    · subst e; simp only [upd, if_pos]; rw [if_neg (by omega), if_pos (by omega)]; omega
    · simp only [upd, if_neg e]
      by_cases q : k < n
      · rw [if_pos q, if_pos (by omega)]; omega
      · rw [if_neg q, if_neg (by omega)]; omega
theorem psum_upd {f : Nat → Int32} {k v z : Int32} (ez : z = f k.toNatClampNeg) (h0 : 0 ≤ k.toInt) (h1 : k.toInt ≤ 35) : psum (upd f k.toNatClampNeg v) = psum f + v.toInt - z.toInt := by
  have c := o_cl (x := k) rfl h0
  unfold psum
  rw [ps_upd, if_pos (by omega), ez]; omega
/-! rare ones below a book -/
def bcl (n b : Int) : Int := (if 0 < b then n % 2 else 0) + (if 1 < b then n / 2 % 2 else 0) + (if 2 < b then n / 4 % 2 else 0) + (if 3 < b then n / 8 % 2 else 0) + (if 4 < b then n / 16 % 2 else 0) + (if 5 < b then n / 32 % 2 else 0) + (if 6 < b then n / 64 % 2 else 0) + (if 7 < b then n / 128 % 2 else 0)
theorem bclT : ∀ b : Nat, b < 8 → ∀ n : Nat, n < 256 → bcl (n : Int) ((b : Int) + 1) = bcl (n : Int) (b : Int) + (bt (nI n) (nI b)).toInt ∧ bcl (n : Int) (b : Int) + (bt (nI n) (nI b)).toInt ≤ bc (n : Int) := by decide +kernel
theorem bcl_step {x b r : Int32} (hx0 : 0 ≤ x.toInt) (hx1 : x.toInt ≤ 255) (hb0 : 0 ≤ b.toInt) (hb1 : b.toInt ≤ 7) (er : r = bt x b) : bcl x.toInt (b.toInt + 1) = bcl x.toInt b.toInt + r.toInt ∧ bcl x.toInt b.toInt + r.toInt ≤ bc x.toInt := by
  obtain ⟨j, hj, e1, e2⟩ := o_nat (x := x) rfl hx0
  obtain ⟨k, hk, e3, e4⟩ := o_nat (x := b) rfl hb0
  have h := bclT k (by omega) j (by omega)
  rw [e1, e3, er]
  rw [e2, e4]; exact h
theorem bcl_zero (n : Int) : bcl n 0 = 0 := by unfold bcl; rfl
/-! bytes at even places are books -/
def Ro (f : Nat → Int32) (n : Int) : Prop := ∀ k : Nat, k % 2 = 0 → (k : Int) < n → 0 ≤ (f k &&& 255).toInt ∧ (f k &&& 255).toInt ≤ 7
theorem Ro.zero {f : Nat → Int32} {n : Int} (h : n ≤ 0) : Ro f n := fun k _ hk => absurd hk (by omega)
theorem Ro.step {f : Nat → Int32} {x y r : Int32} (h : Ro f x.toInt) (h0 : 0 ≤ x.toInt) (er : r = oc f x) (hr : 0 ≤ r.toInt ∧ r.toInt ≤ 7) (hy : y.toInt = x.toInt + 2) (he : x.toInt % 2 = 0) : Ro f y.toInt := by
  intro k k2 hk
  have c := o_cl (x := x) rfl h0
  by_cases e : k = x.toNatClampNeg
  · subst e; unfold oc at er; rw [← er]; exact hr
  · exact h k k2 (by omega)
theorem Ro.weak {f : Nat → Int32} {n m : Int} (h : Ro f n) (hm : m ≤ n) : Ro f m := fun k k2 hk => h k k2 (by omega)
theorem Ro.at {f : Nat → Int32} {n : Int} {x r : Int32} (h : Ro f n) (h0 : 0 ≤ x.toInt) (hx : x.toInt < n) (he : x.toInt % 2 = 0) (er : r = oc f x) : 0 ≤ r.toInt ∧ r.toInt ≤ 7 := by
  have c := o_cl (x := x) rfl h0
  unfold oc at er; rw [er]; exact h _ (by omega) (by omega)
theorem bclU : ∀ b : Nat, b < 9 → ∀ n : Nat, n < 256 → 0 ≤ bcl (n : Int) (b : Int) ∧ bcl (n : Int) (b : Int) ≤ bc (n : Int) := by decide +kernel
theorem bcl_hi {x b : Int32} (hx0 : 0 ≤ x.toInt) (hx1 : x.toInt ≤ 255) (hb0 : 0 ≤ b.toInt) (hb1 : b.toInt ≤ 8) : 0 ≤ bcl x.toInt b.toInt ∧ bcl x.toInt b.toInt ≤ bc x.toInt := by
  obtain ⟨j, hj, e1, e2⟩ := o_nat (x := x) rfl hx0
  obtain ⟨k, hk, e3, e4⟩ := o_nat (x := b) rfl hb0
  rw [e1, e3]; exact bclU k (by omega) j (by omega)
theorem keep0 (n : Int) : (1 : Int32).toInt = 1 + bcl n (0 : Int32).toInt := by
  have e : (0 : Int32).toInt = 0 := by decide
  rw [e, bcl_zero]; decide
theorem keep1 {x b b' r a a' : Int32} (hT : a.toInt = 1 + bcl x.toInt b.toInt) (hs : bcl x.toInt (b.toInt + 1) = bcl x.toInt b.toInt + r.toInt) (ha : a'.toInt = a.toInt + r.toInt) (hb : b'.toInt = b.toInt + 1) : a'.toInt = 1 + bcl x.toInt b'.toInt := by
  rw [hb, hs]; omega
theorem Sv.rare {f : Nat → Int32} {x : Int32} (h : Sv f) (ex : x = f 103) : bc x.toInt ≤ 3 := by rw [ex]; exact h.1
theorem way_at {g : Nat → Int32} {i v : Int32} {n : Int} (h : (g i.toNatClampNeg).toInt = n) (ev : v = g i.toNatClampNeg) : v.toInt = n := by rw [ev]; exact h
theorem way_of {g : Nat → Int32} {i v : Int32} {n : Int} (ev : v = g i.toNatClampNeg) (h : v.toInt = n) : (g i.toNatClampNeg).toInt = n := by rw [← ev]; exact h
