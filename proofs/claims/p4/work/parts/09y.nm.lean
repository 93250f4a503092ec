/-! names: the class's over the model's, wherever these lie -/
def Ca (g f : Nat → Int32) (n : Nat) : Prop := ∀ k : Nat, k < n → g k = f k
theorem Ca.refl (f : Nat → Int32) (n : Nat) : Ca f f n := fun _ _ => rfl
theorem Ca.cpy {f g h : Nat → Int32} {n : Nat} (e : va_cpy f g 0 0 n = h) : Ca h f n := by
  intro k hk
  rw [← e]
  have c : 0 ≤ k ∧ k < 0 + n := by omega
  simp only [va_cpy, if_pos c]
  exact congrArg f (by omega)
def N8 (g f : Nat → Int64) : Prop := ∀ k : Nat, k < 8 → g k = f k
theorem N8.refl (f : Nat → Int64) : N8 f f := fun _ _ => rfl
theorem N8.put {f g : Nat → Int64} {i : Nat} {v : Int64} (e : vp_updL f i v = g) (hi : 8 ≤ i) : N8 g f := by
  intro k hk
  rw [← e]
  have c : ¬ k = i := by omega
  simp only [vp_updL, if_neg c]
theorem N8.trans {f g h : Nat → Int64} (a : N8 h g) (b : N8 g f) : N8 h f := fun k hk => (a k hk).trans (b k hk)
theorem Nms.like {books books' : Int} {sz sz' nm nm' : Nat → Int32} {ln ln' : Nat → Int64} {a a' : Nat} (h : Nms books sz nm ln a) (eb : books' = books) (hb : books ≤ 8) (e1 : Ca sz' sz 8) (e2 : Ca nm' nm 56) (e3 : ∀ k : Nat, k < 8 → ln' (a' + k) = ln (a + k)) : Nms books' sz' nm' ln' a' := by
  subst eb
  intro b hb'
  have hb8 : b < 8 := by omega
  obtain ⟨h1, h2, h3, h4⟩ := h b hb'
  rw [e1 b hb8, e3 b hb8]
  have en : ∀ i : Nat, i < (sz b).toInt.toNat → nmF nm' b (0 + (i : Int)) = nmF nm b (0 + (i : Int)) := by
    intro i hi
    unfold nmF
    rw [e2 _ (by omega)]
  refine ⟨h1, h2, fun i hi => ?_, ?_⟩
  · rw [en i hi]; exact h3 i hi
  · rw [h4, cod_eq (A := nmF nm b) (B := nmF nm' b) (a := 0) (b := 0) _ (fun i hi => (en i hi).symm)]
/-- behind a library: the model's -/
def NbS (x : LR) (g f : Nat → Int64) : Prop := match x with
  | .inl _ => N8 g f
  | .inr a => ∀ k : Nat, k < 8 → g k = a.2.2 (8 + k)
theorem NbS.ok {x : LR} {n : Int} {h : Nat → Int32} {m g f : Nat → Int64} (e : x = .inr (n, h, m)) (t : ∀ k : Nat, k < 8 → g k = m (8 + k)) : NbS x g f := by subst e; exact t
theorem NbS.no {x : LR} {a : Int × Int} {g f : Nat → Int64} (e : x = .inl a) (t : N8 g f) : NbS x g f := by subst e; exact t
/-- the class's -/
def ZnS (x : LR) (b' : Int) (sz' nm' : Nat → Int32) (b : Int) (sz nm : Nat → Int32) : Prop := match x with
  | .inl _ => b' = b ∧ sz' = sz ∧ nm' = nm
  | .inr a => Nms b' sz' nm' a.2.2 8
theorem ZnS.ok {x : LR} {n b b' : Int} {h sz nm sz' nm' : Nat → Int32} {m : Nat → Int64} (e : x = .inr (n, h, m)) (t : Nms b' sz' nm' m 8) : ZnS x b' sz' nm' b sz nm := by subst e; exact t
theorem ZnS.no {x : LR} {a : Int × Int} {b b' : Int} {sz nm sz' nm' : Nat → Int32} (e : x = .inl a) (t : b' = b ∧ sz' = sz ∧ nm' = nm) : ZnS x b' sz' nm' b sz nm := by subst e; exact t
theorem Nms.lib {x : LR} {b b' : Int} {sz nm sz' nm' : Nat → Int32} {g f : Nat → Int64} (t : Nms b sz nm f 0) (h1 : b ≤ 8) (h2 : b' ≤ 8) (z : ZnS x b' sz' nm' b sz nm) (y : NbS x g f) : Nms b' sz' nm' g 0 := by
  cases x with
  | inl a =>
    obtain ⟨rfl, rfl, rfl⟩ := z
    refine t.like rfl h1 (Ca.refl _ _) (Ca.refl _ _) (fun k hk => ?_)
    rw [show 0 + k = k by omega]
    exact y k hk
  | inr a =>
    have z' : Nms b' sz' nm' a.2.2 8 := z
    refine z'.like rfl h2 (Ca.refl _ _) (Ca.refl _ _) (fun k hk => ?_)
    rw [show 0 + k = k by omega]
    exact y k hk
theorem Nms.libs {f g : Nat → Int32} {n m : Int} {hh : Nat → Int32} {nn : Nat → Int64} {b b' : Int} {sz nm sz' nm' : Nat → Int32} {gl fl : Nat → Int64} (tp : Tp f g n) (e : m = n) (t : Nms b sz nm fl 0) (h1 : b ≤ 8) (h2 : b' ≤ 8) (z : ZnS (libT (Pk f n) n (lm n 900) 0 (wh blk (Pk f n) n 0) hh nn 0 0) b' sz' nm' b sz nm) (y : NbS (libT (Pk g m) m (lm m 900) 0 (wh blk (Pk g m) m 0) hh nn 0 0) gl fl) : Nms b' sz' nm' gl 0 := by
  subst e
  have e9 := Pk_tp tp
  first
    | (rw [e9] at z; exact t.lib h1 h2 z y)
    | (rw [e9] at y; exact t.lib h1 h2 z y)
/-- the first k names are taken over -/
def Nc (g f : Nat → Int64) (k : Int) : Prop := (∀ j : Nat, j < 8 → (j : Int) < k → g j = f (8 + j)) ∧ (∀ j : Nat, 8 ≤ j → g j = f j)
theorem Nc.zero {f : Nat → Int64} {k : Int} (h : k ≤ 0) : Nc f f k := ⟨fun j _ q => absurd q (by omega), fun _ _ => rfl⟩
theorem Nc.cast {g f : Nat → Int64} {k k' : Int} (h : Nc g f k) (e : k' = k) : Nc g f k' := e ▸ h
theorem Nc.step {g g' f : Nat → Int64} {k i : Int32} {w : Int64} {k' : Int} (h : Nc g f k.toInt) (h0 : 0 ≤ k.toInt) (h1 : k.toInt < 8) (hi : i.toInt = 8 + k.toInt) (ew : w = g i.toNatClampNeg) (e : vp_updL g k.toNatClampNeg w = g') (hk : k' = k.toInt + 1) : Nc g' f k' := by
  have c1 := o_cl (x := k) rfl h0
  have c2 := o_cl (x := i) rfl (by omega)
  subst e
  refine ⟨fun j hj hn => ?_, fun j hj => ?_⟩
  · by_cases z : j = k.toNatClampNeg
    · simp only [vp_updL, if_pos z]
      rw [ew, h.2 _ (by omega), show i.toNatClampNeg = 8 + j by omega]
    · simp only [vp_updL, if_neg z]
      exact h.1 j hj (by omega)
  · have z : ¬ j = k.toNatClampNeg := by omega
    simp only [vp_updL, if_neg z]
    exact h.2 j hj
/-- into an image, out of it -/
def Cq (f g g0 : Nat → Int64) (o : Nat) (i : Int) : Prop := (∀ k : Nat, k < 8 → (k : Int) < i → g (o + k) = f k) ∧ (∀ k : Nat, k < o ∨ o + 8 ≤ k → g k = g0 k)
theorem Cq.zero {f g : Nat → Int64} {o : Nat} {i : Int} (h : i ≤ 0) : Cq f g g o i := ⟨fun k _ q => absurd q (by omega), fun _ _ => rfl⟩
theorem Cq.cast {f g g0 : Nat → Int64} {o : Nat} {i i' : Int} (h : Cq f g g0 o i) (e : i' = i) : Cq f g g0 o i' := e ▸ h
theorem Cq.step {f g g' g0 : Nat → Int64} {o : Nat} {i x : Int32} {v : Int64} {i' : Int} (h : Cq f g g0 o i.toInt) (h0 : 0 ≤ i.toInt) (h1 : i.toInt < 8) (ev : v = f i.toNatClampNeg) (hx : x.toInt = (o : Int) + i.toInt) (e : vp_updL g x.toNatClampNeg v = g') (hi : i' = i.toInt + 1) : Cq f g' g0 o i' := by
  have c1 := o_cl (x := i) rfl h0
  have c2 := o_cl (x := x) rfl (by omega)
  subst e
  refine ⟨fun k h8 hk => ?_, fun k hk => ?_⟩
  · by_cases z : o + k = x.toNatClampNeg
    · simp only [vp_updL, if_pos z]
      rw [ev, show i.toNatClampNeg = k by omega]
    · simp only [vp_updL, if_neg z]
      exact h.1 k h8 (by omega)
  · have z : ¬ k = x.toNatClampNeg := by omega
    simp only [vp_updL, if_neg z]
    exact h.2 k hk
def Cz (f g : Nat → Int64) (o : Nat) (i : Int) : Prop := ∀ k : Nat, k < 8 → (k : Int) < i → g k = f (o + k)
theorem Cz.zero {f g : Nat → Int64} {o : Nat} {i : Int} (h : i ≤ 0) : Cz f g o i := fun k _ q => absurd q (by omega)
theorem Cz.cast {f g : Nat → Int64} {o : Nat} {i i' : Int} (h : Cz f g o i) (e : i' = i) : Cz f g o i' := e ▸ h
theorem Cz.step {f g g' : Nat → Int64} {o : Nat} {i x : Int32} {v : Int64} {i' : Int} (h : Cz f g o i.toInt) (h0 : 0 ≤ i.toInt) (ev : v = f x.toNatClampNeg) (hx : x.toInt = (o : Int) + i.toInt) (e : vp_updL g i.toNatClampNeg v = g') (hi : i' = i.toInt + 1) : Cz f g' o i' := by
  have c1 := o_cl (x := i) rfl h0
  have c2 := o_cl (x := x) rfl (by omega)
  subst e
  intro k h8 hk
  by_cases z : k = i.toNatClampNeg
  · simp only [vp_updL, if_pos z]
    rw [ev, show x.toNatClampNeg = o + k by omega]
  · simp only [vp_updL, if_neg z]
    exact h k h8 (by omega)
section
variable {b b' ib r1 r2 kp : Int} {sz nm sz' nm' isz inm : Nat → Int32} {ln ln' f f' : Nat → Int64} {o o' : Nat}
theorem Nms.res (t : Nms b sz nm ln 0) (ti : kp = 1 → Nms ib isz inm f o) (h8 : ib ≤ 8) (hk : r2 = kp) (hr : r2 = r1) (m : (r2 = 1 ∧ Cz f ln' o 8) ∨ (r2 = 0 ∧ ln' = ln)) (eb : (r1 = 1 ∧ b' = ib) ∨ (r1 = 0 ∧ b' = b)) (c : (r1 = 1 ∧ Ca sz' isz 8 ∧ Ca nm' inm 56) ∨ (r1 = 0 ∧ sz' = sz ∧ nm' = nm)) : Nms b' sz' nm' ln' 0 := by
  rcases m with ⟨m1, m2⟩ | ⟨m1, m2⟩
  · rcases c with ⟨c0, c1, c2⟩ | ⟨c0, _⟩
    · refine (ti (by omega)).like (by omega) h8 c1 c2 (fun k hk => ?_)
      rw [show 0 + k = k by omega]
      exact m2 k hk (by omega)
    · omega
  · rcases c with ⟨c0, _⟩ | ⟨c0, c1, c2⟩
    · omega
    · rw [m2, c1, c2, show b' = b by omega]; exact t
theorem Nms.img (t : Nms b sz nm ln 0) (h8 : b ≤ 8) (eb : ib = b) (c : Ca isz sz 8 ∧ Ca inm nm 56) (q : Cq ln f' f o 8) : Nms ib isz inm f' o := by
  refine t.like eb h8 c.1 c.2 (fun k hk => ?_)
  rw [show 0 + k = k by omega]
  exact q.1 k hk (by omega)
theorem Nms.oth (t : Nms ib isz inm f o') (h8 : ib ≤ 8) (q : Cq ln f' f o 8) (e : o' + 8 ≤ o ∨ o + 8 ≤ o') : Nms ib isz inm f' o' :=
  t.like rfl h8 (Ca.refl _ _) (Ca.refl _ _) (fun k hk => q.2 (o' + k) (by omega))
end
