/-! what a library counts: seven numbers -/
def F7 (f g : Nat → Int32) : Prop := ∀ k : Nat, k < 7 → f k = g k
theorem F7.refl (f : Nat → Int32) : F7 f f := fun _ _ => rfl
theorem F7.put {f g : Nat → Int32} {i : Nat} {v : Int32} (h : F7 f g) (hi : 7 ≤ i) : F7 (upd f i v) g := by
  intro k hk
  have e : ¬ k = i := by omega
  simp only [upd, if_neg e]
  exact h k hk
/-- the first n of seven are taken over -/
def L7 (f h : Nat → Int32) (n : Int) : Prop := ∀ k : Nat, k < 7 → (k : Int) < n → f k = h k
theorem L7.zero {f h : Nat → Int32} {n : Int} (e : n ≤ 0) : L7 f h n := fun k _ q => absurd q (by omega)
theorem L7.cast {f h : Nat → Int32} {n m : Int} (q : L7 f h n) (e : m = n) : L7 f h m := e ▸ q
theorem L7.stepA {f h : Nat → Int32} {k v : Int32} (q : L7 f h k.toInt) (ev : v = h k.toNatClampNeg) (h0 : 0 ≤ k.toInt) : L7 (upd f k.toNatClampNeg v) h (k.toInt + 1) := by
  have c := o_cl (x := k) rfl h0
  intro j hj hn
  by_cases e : j = k.toNatClampNeg
  · simp only [upd, if_pos e]; rw [ev, e]
  · simp only [upd, if_neg e]; exact q j hj (by omega)
theorem L7.stepB {f h : Nat → Int32} {k v : Int32} (q : L7 f h k.toInt) (h0 : 104 ≤ k.toInt) : L7 (upd f k.toNatClampNeg v) h (k.toInt + 1) := by
  have c := o_cl (x := k) rfl (by omega)
  intro j hj _
  have e : ¬ j = k.toNatClampNeg := by omega
  simp only [upd, if_neg e]; exact q j hj (by omega)
theorem L7.f7 {f h : Nat → Int32} {n : Int} (q : L7 f h n) (e : 7 ≤ n) : F7 f h := fun k hk => q k hk (by omega)
/-- wide, high, law, spin, line, draught, books of the class over the state of the model -/
def Ts (w h l p i d b : Int) (s : Nat → Int32) : Prop := w = (s 1).toInt ∧ h = (s 2).toInt ∧ l = (s 3).toInt ∧ p = (s 4).toInt ∧ i = (s 5).toInt ∧ d = (s 6).toInt ∧ b = (s 0).toInt
section
variable {w h l p i d b w' h' l' p' i' d' b' : Int} {s s' g : Nat → Int32}
theorem Ts.fr (t : Ts w h l p i d b s) (f : F7 s' s) : Ts w h l p i d b s' := by
  unfold Ts at t ⊢
  rw [f 0 (by decide), f 1 (by decide), f 2 (by decide), f 3 (by decide), f 4 (by decide), f 5 (by decide), f 6 (by decide)]
  exact t
theorem Ts.fr2 (t : Ts w h l p i d b s) (e : g = s) (f : F7 s' g) : Ts w h l p i d b s' := by
  subst e; exact t.fr f
/-- behind a library: the model's -/
def LbS (x : LR) (s' s : Nat → Int32) : Prop := match x with
  | .inl _ => F7 s' s
  | .inr a => F7 s' a.2.1
theorem LbS.ok {x : LR} {n : Int} {f : Nat → Int32} {m : Nat → Int64} (e : x = .inr (n, f, m)) (t : F7 s' f) : LbS x s' s := by subst e; exact t
theorem LbS.no {x : LR} {a : Int × Int} (e : x = .inl a) (t : F7 s' s) : LbS x s' s := by subst e; exact t
/-- the class's -/
def ZbS (x : LR) (w' h' l' p' i' d' b' w h l p i d b : Int) : Prop := match x with
  | .inl _ => w' = w ∧ h' = h ∧ l' = l ∧ p' = p ∧ i' = i ∧ d' = d ∧ b' = b
  | .inr a => Ts w' h' l' p' i' d' b' a.2.1
theorem ZbS.ok {x : LR} {n : Int} {f : Nat → Int32} {m : Nat → Int64} (e : x = .inr (n, f, m)) (t : Ts w' h' l' p' i' d' b' f) : ZbS x w' h' l' p' i' d' b' w h l p i d b := by subst e; exact t
theorem ZbS.no {x : LR} {a : Int × Int} (e : x = .inl a) (t : w' = w ∧ h' = h ∧ l' = l ∧ p' = p ∧ i' = i ∧ d' = d ∧ b' = b) : ZbS x w' h' l' p' i' d' b' w h l p i d b := by subst e; exact t
theorem Ts.lib {x : LR} (t : Ts w h l p i d b s) (z : ZbS x w' h' l' p' i' d' b' w h l p i d b) (y : LbS x s' s) : Ts w' h' l' p' i' d' b' s' := by
  cases x with
  | inl a =>
    obtain ⟨rfl, rfl, rfl, rfl, rfl, rfl, rfl⟩ := z
    exact t.fr y
  | inr a =>
    have z' : Ts w' h' l' p' i' d' b' a.2.1 := z
    exact z'.fr y
theorem Ts.libs {f g : Nat → Int32} {n m : Int} {hh : Nat → Int32} {nm : Nat → Int64} (tp : Tp f g n) (e : m = n) (t : Ts w h l p i d b s) (z : ZbS (libT (Pk f n) n (lm n 900) 0 (wh blk (Pk f n) n 0) hh nm 0 0) w' h' l' p' i' d' b' w h l p i d b) (y : LbS (libT (Pk g m) m (lm m 900) 0 (wh blk (Pk g m) m 0) hh nm 0 0) s' s) : Ts w' h' l' p' i' d' b' s' := by
  subst e
  have e9 := Pk_tp tp
  first
    | (rw [e9] at z; exact t.lib z y)
    | (rw [e9] at y; exact t.lib z y)
theorem RlC.ts {wide high law spin line draught books rare : Int} {qu sizes names x y told : Nat → Int32} {wt wo : Int32} {f : Nat → Int32} {nm : Nat → Int64} {on we : Int32} (R : RlC wide high law spin line draught books rare qu sizes names x y told wt wo f nm on we) (e1 : w = wide) (e2 : h = high) (e3 : l = law) (e4 : p = spin) (e5 : i = line) (e6 : d = draught) (e0 : b = books) : Ts w h l p i d b f := by
  obtain ⟨⟨a1, a2, a3, a4, a5, a6, a0, -⟩, -⟩ := R
  exact ⟨e1.trans a1, e2.trans a2, e3.trans a3, e4.trans a4, e5.trans a5, e6.trans a6, e0.trans a0⟩
end
/-- what count answers: the class -/
def CnC (a r w h l p i d b n : Int) : Prop := (a = 0 ∧ r = b) ∨ (a = 1 ∧ r = w) ∨ (a = 2 ∧ r = h) ∨ (a = 3 ∧ r = l) ∨ (a = 4 ∧ r = p) ∨ (a = 5 ∧ r = i) ∨ (a = 6 ∧ r = d) ∨ (a = 7 ∧ r = n) ∨ ((a < 0 ∨ 7 < a) ∧ r = -1)
/-- the model -/
def CnM (a r : Int32) (s : Nat → Int32) (n : Int) : Prop := (a.toInt = 7 ∧ r.toInt = n) ∨ (0 ≤ a.toInt ∧ a.toInt ≤ 6 ∧ r = s a.toNatClampNeg) ∨ ((a.toInt < 0 ∨ 7 < a.toInt) ∧ r.toInt = -1)
theorem cnt_same {a r : Int32} {q w h l p i d b n m : Int} {s : Nat → Int32} (t : Ts w h l p i d b s) (e : n = m) (c : CnC a.toInt q w h l p i d b n) (y : CnM a r s m) : r.toInt = q := by
  obtain ⟨t1, t2, t3, t4, t5, t6, t0⟩ := t
  unfold CnC at c
  rcases y with ⟨ya, yr⟩ | ⟨y0, y6, yr⟩ | ⟨ya, yr⟩
  · omega
  · have cl := o_cl (x := a) rfl y0
    rcases c with ⟨ca, cr⟩ | ⟨ca, cr⟩ | ⟨ca, cr⟩ | ⟨ca, cr⟩ | ⟨ca, cr⟩ | ⟨ca, cr⟩ | ⟨ca, cr⟩ | ⟨ca, cr⟩ | ⟨ca, cr⟩
    · rw [yr, show a.toNatClampNeg = 0 by omega, cr, t0]
    · rw [yr, show a.toNatClampNeg = 1 by omega, cr, t1]
    · rw [yr, show a.toNatClampNeg = 2 by omega, cr, t2]
    · rw [yr, show a.toNatClampNeg = 3 by omega, cr, t3]
    · rw [yr, show a.toNatClampNeg = 4 by omega, cr, t4]
    · rw [yr, show a.toNatClampNeg = 5 by omega, cr, t5]
    · rw [yr, show a.toNatClampNeg = 6 by omega, cr, t6]
    · omega
    · omega
  · omega
