/-- the token behind the one at q -/
def av (P : Int → Int) (n L q : Int) : Int := wh blk P n (nxq P n L q)
theorem Tm.adv {P : Int → Int} {n L q tok at_ num p tok' at' num' p' : Int} {w w' : Int64} (h : Tm P n L q tok at_ num w p) (h' : Tm P n L (wh blk P n p) tok' at' num' w' p') : Tm P n L (av P n L q) tok' at' num' w' p' := by
  unfold av; rw [← h.2.2.1]; exact h'
/-- a fault (its kind, its place), or where the next token begins -/
abbrev QR := (Int × Int) ⊕ Int
def PT (P : Int → Int) (n L : Int) (res : QR) (r f fa tok at_ num : Int) (w : Int64) (p : Int) : Prop := (r = 1 ∧ ∃ q, res = .inr q ∧ Tm P n L q tok at_ num w p) ∨ (r = 0 ∧ res = .inl (f, fa))
theorem PT.ok {P : Int → Int} {n L : Int} {res : QR} {r f fa tok at_ num p q : Int} {w : Int64} (h : Tm P n L q tok at_ num w p) (e : res = .inr q) (hr : r = 1) : PT P n L res r f fa tok at_ num w p := Or.inl ⟨hr, q, e, h⟩
theorem PT.bad {P : Int → Int} {n L : Int} {res : QR} {r f fa tok at_ num p : Int} {w : Int64} (e : res = .inl (f, fa)) (hr : r = 0) : PT P n L res r f fa tok at_ num w p := Or.inr ⟨hr, e⟩
theorem inl_eq {a b f fa : Int} (h1 : a = f) (h2 : b = fa) : (.inl (a, b) : QR) = .inl (f, fa) := by rw [h1, h2]
def sSgn (P : Int → Int) (n L c q : Int) : QR := if tkq P n L q = 3 ∧ nuq P n q = c then .inr (av P n L q) else .inl (1, plq n L q)
theorem sSgn_ok {P : Int → Int} {n L c q tok at_ num p : Int} {w : Int64} (h : Tm P n L q tok at_ num w p) (e : tok = 3) (e2 : num = c) : sSgn P n L c q = .inr (av P n L q) := by
  unfold sSgn; rw [if_pos ⟨by rw [← h.1]; exact e, by rw [← h.2.2.2.1 (Or.inr e)]; exact e2⟩]
theorem sSgn_no {P : Int → Int} {n L c q tok at_ num p f fa : Int} {w : Int64} (h : Tm P n L q tok at_ num w p) (e : tok ≠ 3 ∨ num ≠ c) (hf : f = 1) (ha : fa = at_) : sSgn P n L c q = .inl (f, fa) := by
  unfold sSgn
  rw [if_neg (fun z => by
    rw [← h.1] at z
    have := h.2.2.2.1 (Or.inr z.1)
    omega), ha, hf, h.2.1]
def sTak (P : Int → Int) (n L lo hi q : Int) : QR := if tkq P n L q = 2 then (if lo ≤ nuq P n q ∧ nuq P n q ≤ hi then .inr (av P n L q) else .inl (2, plq n L q)) else .inl (1, plq n L q)
theorem sTak_ok {P : Int → Int} {n L lo hi q tok at_ num p : Int} {w : Int64} (h : Tm P n L q tok at_ num w p) (e : tok = 2) (h1 : lo ≤ num) (h2 : num ≤ hi) : sTak P n L lo hi q = .inr (av P n L q) := by
  have h3 := h.2.2.2.1 (Or.inl e)
  unfold sTak; rw [if_pos (by rw [← h.1]; exact e), if_pos (by omega)]
theorem sTak_no1 {P : Int → Int} {n L lo hi q tok at_ num p f fa : Int} {w : Int64} (h : Tm P n L q tok at_ num w p) (e : tok ≠ 2) (hf : f = 1) (ha : fa = at_) : sTak P n L lo hi q = .inl (f, fa) := by
  unfold sTak; rw [if_neg (by rw [← h.1]; exact e), ha, hf, h.2.1]
theorem sTak_no2 {P : Int → Int} {n L lo hi q tok at_ num p f fa : Int} {w : Int64} (h : Tm P n L q tok at_ num w p) (e : tok = 2) (h1 : num < lo ∨ hi < num) (hf : f = 2) (ha : fa = at_) : sTak P n L lo hi q = .inl (f, fa) := by
  have h3 := h.2.2.2.1 (Or.inl e)
  unfold sTak; rw [if_pos (by rw [← h.1]; exact e), if_neg (by omega), ha, hf, h.2.1]
theorem sTak_got {P : Int → Int} {n L q tok at_ num p : Int} {w : Int64} (h : Tm P n L q tok at_ num w p) (e : tok = 2) : num = nuq P n q := h.2.2.2.1 (Or.inl e)
/-- what stands in state: the library as it is read -/
abbrev SR5 := (Int × Int) ⊕ (Int × (Nat → Int32) × (Nat → Int64) × Int32 × Int32)
def PM (P : Int → Int) (n L : Int) (res : SR5) (r f fa tok at_ num : Int) (w : Int64) (p : Int) (h : Nat → Int32) (nm : Nat → Int64) (on we : Int32) : Prop := (r = 1 ∧ ∃ q, res = .inr (q, h, nm, on, we) ∧ Tm P n L q tok at_ num w p) ∨ (r = 0 ∧ res = .inl (f, fa))
def sb5 (x : SR5) (g : Int → (Nat → Int32) → (Nat → Int64) → Int32 → Int32 → SR5) : SR5 := match x with
  | .inl e => .inl e
  | .inr (q, h, nm, on, we) => g q h nm on we
theorem sb5_ok {x : SR5} {g : Int → (Nat → Int32) → (Nat → Int64) → Int32 → Int32 → SR5} {q : Int} {h : Nat → Int32} {nm : Nat → Int64} {on we : Int32} (e : x = .inr (q, h, nm, on, we)) : sb5 x g = g q h nm on we := by rw [e]; rfl
theorem sb5_no {x : SR5} {g : Int → (Nat → Int32) → (Nat → Int64) → Int32 → Int32 → SR5} {a : Int × Int} (e : x = .inl a) : sb5 x g = .inl a := by rw [e]; rfl
def q5 (x : QR) (g : Int → SR5) : SR5 := match x with
  | .inl e => .inl e
  | .inr q => g q
theorem q5_ok {x : QR} {g : Int → SR5} {q : Int} (e : x = .inr q) : q5 x g = g q := by rw [e]; rfl
theorem q5_no {x : QR} {g : Int → SR5} {a : Int × Int} (e : x = .inl a) : q5 x g = .inl a := by rw [e]; rfl
/-- a number into h -/
def sPut (P : Int → Int) (n L : Int) (to : Nat) (lo hi q : Int) (h : Nat → Int32) (nm : Nat → Int64) (on we : Int32) : SR5 := q5 (sTak P n L lo hi q) (fun q' => .inr (q', upd h to (Int32.ofInt (nuq P n q)), nm, on, we))
theorem sPut_ok {P : Int → Int} {n L lo hi q q' : Int} {to : Nat} {h h' : Nat → Int32} {nm : Nat → Int64} {on we v : Int32} (e : sTak P n L lo hi q = .inr q') (hv : v.toInt = nuq P n q) (eh : upd h to v = h') : sPut P n L to lo hi q h nm on we = .inr (q', h', nm, on, we) := by
  unfold sPut; rw [q5_ok e, ← of_int hv, eh]
theorem sPut_no {P : Int → Int} {n L lo hi q : Int} {to : Nat} {h : Nat → Int32} {nm : Nat → Int64} {on we : Int32} {a : Int × Int} (e : sTak P n L lo hi q = .inl a) : sPut P n L to lo hi q h nm on we = .inl a := by
  unfold sPut; rw [q5_no e]
theorem PM.ok {P : Int → Int} {n L : Int} {res : SR5} {r f fa tok at_ num p q : Int} {w : Int64} {h : Nat → Int32} {nm : Nat → Int64} {on we : Int32} (t : Tm P n L q tok at_ num w p) (e : res = .inr (q, h, nm, on, we)) (hr : r = 1) : PM P n L res r f fa tok at_ num w p h nm on we := Or.inl ⟨hr, q, e, t⟩
theorem PM.bad {P : Int → Int} {n L : Int} {res : SR5} {r f fa tok at_ num p : Int} {w : Int64} {h : Nat → Int32} {nm : Nat → Int64} {on we : Int32} (e : res = .inl (f, fa)) (hr : r = 0) : PM P n L res r f fa tok at_ num w p h nm on we := Or.inr ⟨hr, e⟩
/-- told once alone -/
def sOnc (P : Int → Int) (n L : Int) (k : Int32) (to : Nat) (lo hi q : Int) (h : Nat → Int32) (nm : Nat → Int64) (on we : Int32) : SR5 := if bt on k = 1 then .inl (3, plq n L q) else sPut P n L to lo hi (av P n L q) h nm (on ||| ((1 : Int32) <<< (k &&& 31))) we
theorem sOnc_no {P : Int → Int} {n L lo hi q f fa tok at_ num p : Int} {w : Int64} {k : Int32} {to : Nat} {h : Nat → Int32} {nm : Nat → Int64} {on we : Int32} (t : Tm P n L q tok at_ num w p) {r : Int32} (e : r = bt on k) (hr : r.toInt = 1) (hf : f = 3) (ha : fa = at_) : sOnc P n L k to lo hi q h nm on we = .inl (f, fa) := by
  unfold sOnc; rw [← e, if_pos (o_meq (b := 1) rfl (by decide) hr), hf, ha, t.2.1]
theorem sOnc_go {P : Int → Int} {n L lo hi q : Int} {k : Int32} {to : Nat} {h : Nat → Int32} {nm : Nat → Int64} {on we on' y : Int32} {x : SR5} {r : Int32} (e : r = bt on k) (hr : r.toInt ≠ 1) (ey : y = (1 : Int32) <<< (k &&& 31)) (eo : on' = on ||| y) (ex : sPut P n L to lo hi (av P n L q) h nm on' we = x) : sOnc P n L k to lo hi q h nm on we = x := by
  unfold sOnc; rw [← e, if_neg (o_mne (b := 1) rfl (by decide) hr), ← ey, ← eo]; exact ex
theorem lcmp_eq {x y : Int64} {z : Int32} (e : z = if x > y then 1 else if x == y then 0 else -1) : (z.toInt = 0 ∧ x = y) ∨ (z.toInt ≠ 0 ∧ x ≠ y) := by
  by_cases h : x > y
  · rw [if_pos h] at e
    refine Or.inr ⟨by rw [e]; decide, fun q => ?_⟩
    subst q
    have h2 := Int64.lt_iff_toInt_lt.mp h
    omega
  · rw [if_neg h] at e
    by_cases q : x = y
    · rw [if_pos (by rw [q]; exact beq_self_eq_true y)] at e
      exact Or.inl ⟨by rw [e]; decide, q⟩
    · rw [if_neg (fun z => q (eq_of_beq z))] at e
      exact Or.inr ⟨by rw [e]; decide, q⟩
theorem lN_inj {a b : Nat} (ha : a < 2 ^ 63) (hb : b < 2 ^ 63) (h : lN a = lN b) : a = b := by
  have h1 := congrArg (fun z : Int64 => z.toBitVec.toNat) h
  have e1 : (lN a).toBitVec.toNat = a := wb_tn (by omega)
  have e2 : (lN b).toBitVec.toNat = b := wb_tn (by omega)
  simp only [e1, e2] at h1
  exact h1
theorem cod_lt {A : Int → Int} {a : Int} : ∀ s : Nat, (∀ i : Nat, i < s → 0 ≤ A (a + i) ∧ A (a + i) ≤ 255) → 0 ≤ cod A a s ∧ cod A a s < 256 ^ s
  | 0, _ => ⟨Int.le_refl 0, (by show (0 : Int) < 256 ^ 0; decide)⟩
  | s + 1, h => by
    have h1 := cod_lt s (fun i hi => h i (by omega))
    have h2 := h s (by omega)
    rw [cod_succ, Int.pow_succ]
    generalize (256 : Int) ^ s = X at *
    omega
theorem pw8 : ∀ k : Nat, k < 8 → (256 : Int) ^ k ≤ 72057594037927936 := by decide
theorem tk1_run {P : Int → Int} {n L q : Int} (h : tkq P n L q = 1) : rk P q (rl P n q) = 1 := by
  unfold tkq at h
  split at h
  · exact absurd h (by decide)
  · split at h
    · exact absurd h (by decide)
    · split at h
      · exact h
      · split at h
        · exact absurd h (by decide)
        · exact absurd h (by decide)
theorem tk1_let {P : Int → Int} {n L q : Int} (h : tkq P n L q = 1) : Lts P q (rl P n q) ∧ rl P n q ≤ 7 := by
  have h1 := tk1_run h
  unfold rk at h1
  split at h1
  · exact absurd h1 (by decide)
  · split at h1
    · rename_i h2; exact ⟨ltr_all _ h2.1, h2.2⟩
    · exact absurd h1 (by decide)
theorem wcq_rng {P : Int → Int} {n L q : Int} (h : tkq P n L q = 1) : 0 ≤ wcq P n q ∧ wcq P n q < 72057594037927936 := by
  obtain ⟨h1, h2⟩ := tk1_let h
  have h3 := cod_lt (A := P) (a := q) (rl P n q) (fun i hi => by have := h1 i hi; omega)
  have h4 := pw8 (rl P n q) (by omega)
  unfold wcq; omega
theorem cw_rng : ∀ k : Nat, k < 25 → 0 ≤ cw k ∧ cw k < 72057594037927936 := by decide +kernel
theorem wi_cw : ∀ k : Nat, k < 25 → wi (cw k) = (k : Int) + 1 := by decide +kernel
theorem wiF_is {c : Int} : ∀ (f k : Nat) (j : Nat), wiF c f k = (j : Int) + 1 → cw j = c
  | 0, _, j, h => by have h : (0 : Int) = (j : Int) + 1 := h; omega
  | f + 1, k, j, h => by
    have h : (if cw k = c then (k : Int) + 1 else wiF c f (k + 1)) = (j : Int) + 1 := h
    split at h
    · rename_i e; rw [show j = k by omega]; exact e
    · exact wiF_is f (k + 1) j h
theorem wiF_none {c : Int} : ∀ (f k : Nat), wiF c f k = 0 → ∀ j : Nat, k ≤ j → j < k + f → cw j ≠ c
  | 0, _, _, j, h1, h2 => by omega
  | f + 1, k, h, j, h1, h2 => by
    have h : (if cw k = c then (k : Int) + 1 else wiF c f (k + 1)) = 0 := h
    split at h
    · omega
    · rename_i e
      by_cases q : j = k
      · rw [q]; exact e
      · exact wiF_none f (k + 1) h j (by omega) (by omega)
theorem wiF_rng {c : Int} : ∀ (f k : Nat), wiF c f k = 0 ∨ ((k : Int) + 1 ≤ wiF c f k ∧ wiF c f k ≤ (k : Int) + f)
  | 0, _ => Or.inl rfl
  | f + 1, k => by
    have h := wiF_rng (c := c) f (k + 1)
    show (if cw k = c then (k : Int) + 1 else wiF c f (k + 1)) = 0 ∨ ((k : Int) + 1 ≤ (if cw k = c then (k : Int) + 1 else wiF c f (k + 1)) ∧ (if cw k = c then (k : Int) + 1 else wiF c f (k + 1)) ≤ (k : Int) + ((f + 1 : Nat) : Int))
    split
    · right; omega
    · omega
theorem wi_rng (c : Int) : 0 ≤ wi c ∧ wi c ≤ 25 := by
  have h := wiF_rng (c := c) 25 0
  show 0 ≤ wiF c 25 0 ∧ wiF c 25 0 ≤ 25
  omega
theorem wi_iff {c : Int} {k : Nat} (hk : k < 25) : wi c = (k : Int) + 1 ↔ cw k = c := by
  constructor
  · intro h; exact wiF_is 25 0 k h
  · intro h; rw [← h]; exact wi_cw k hk
/-- the number of the word that the token is; 0: none -/
def wq (P : Int → Int) (n L q : Int) : Int := if tkq P n L q = 1 then wi (wcq P n q) else 0
theorem wq_rng (P : Int → Int) (n L q : Int) : 0 ≤ wq P n L q ∧ wq P n L q ≤ 25 := by
  unfold wq; split
  · exact wi_rng _
  · omega
theorem isw_yes {P : Int → Int} {n L q tok at_ num p : Int} {w W : Int64} {k : Nat} (t : Tm P n L q tok at_ num w p) (hk : k < 25) (hW : W = lN (cw k).toNat) (h : tok = 1) (e : w = W) : wq P n L q = (k : Int) + 1 := by
  have h1 : tkq P n L q = 1 := by rw [← t.1]; exact h
  have h2 := wcq_rng h1
  have h3 := cw_rng k hk
  have h4 := t.2.2.2.2 h
  have h5 : (wcq P n q).toNat = (cw k).toNat := lN_inj (by omega) (by omega) (by rw [← h4, ← hW]; exact e)
  unfold wq; rw [if_pos h1]
  exact (wi_iff hk).mpr (by omega)
theorem isw_no {P : Int → Int} {n L q tok at_ num p : Int} {w W : Int64} {k : Nat} (t : Tm P n L q tok at_ num w p) (hk : k < 25) (hW : W = lN (cw k).toNat) (h : ¬ (tok = 1 ∧ w = W)) : wq P n L q ≠ (k : Int) + 1 := by
  intro z
  unfold wq at z
  split at z
  · rename_i h1
    have e := (wi_iff hk).mp z
    have h4 := t.2.2.2.2 (by rw [t.1]; exact h1)
    exact h ⟨by rw [t.1]; exact h1, by rw [h4, hW, e]⟩
  · omega
/-- the model's own table of words -/
def Rsv (rs : Nat → Int64) : Prop := ∀ k : Nat, k < 25 → rs k = lN (cw k).toNat
def Nn (tok : Int) (w : Int64) (rs : Nat → Int64) (i : Int) : Prop := tok = 1 ∧ ∀ j : Nat, (j : Int) < i → w ≠ rs j
def NnA (x tok : Int) (w : Int64) (rs : Nat → Int64) (i : Int) : Prop := (x = 1 ∧ Nn tok w rs i) ∨ (x = 0 ∧ ¬ Nn tok w rs i)
theorem NnA.zero {x tok : Int} {w : Int64} {rs : Nat → Int64} {i : Int} (hi : i = 0) (h : (x = 1 ∧ tok = 1) ∨ (x = 0 ∧ tok ≠ 1)) : NnA x tok w rs i := by
  subst hi
  rcases h with ⟨a, b⟩ | ⟨a, b⟩
  · exact Or.inl ⟨a, b, fun j hj => absurd hj (by omega)⟩
  · exact Or.inr ⟨a, fun z => b z.1⟩
theorem NnA.stay {x x' tok : Int} {w : Int64} {rs : Nat → Int64} {i i' : Int} (h : NnA x tok w rs i) (hx : x = 0) (hx' : x' = 0) (hi : i' = i + 1) : NnA x' tok w rs i' := by
  rcases h with ⟨a, b⟩ | ⟨a, b⟩
  · omega
  · exact Or.inr ⟨hx', fun z => b ⟨z.1, fun j hj => z.2 j (by omega)⟩⟩
theorem NnA.step {x x' tok : Int} {w y : Int64} {rs : Nat → Int64} {i i' : Int} {z i0 : Int32} (h : NnA x tok w rs i) (h0 : 0 ≤ i) (hx : x ≠ 0) (ei : i0.toInt = i) (ey : y = rs i0.toNatClampNeg) (ez : z = if w > y then 1 else if w == y then 0 else -1) (hx' : (z.toInt = 0 ∧ x' = 0) ∨ (z.toInt ≠ 0 ∧ x' = 1)) (hi : i' = i + 1) : NnA x' tok w rs i' := by
  have c := o_cl ei h0
  rcases h with ⟨a, b⟩ | ⟨a, b⟩
  · rcases lcmp_eq ez with ⟨e1, e2⟩ | ⟨e1, e2⟩
    · exact Or.inr ⟨by omega, fun q => q.2 i0.toNatClampNeg (by omega) (by rw [← ey]; exact e2)⟩
    · refine Or.inl ⟨by omega, b.1, fun j hj => ?_⟩
      by_cases q : j = i0.toNatClampNeg
      · rw [q, ← ey]; exact e2
      · exact b.2 j (by omega)
  · omega
theorem NnA.cast {x tok : Int} {w : Int64} {rs : Nat → Int64} {i i' : Int} (h : NnA x tok w rs i) (e : i' = i) : NnA x tok w rs i' := e ▸ h
theorem nn_iff {P : Int → Int} {n L q tok at_ num p : Int} {w : Int64} {rs : Nat → Int64} (t : Tm P n L q tok at_ num w p) (hR : Rsv rs) : Nn tok w rs 25 ↔ (tkq P n L q = 1 ∧ wi (wcq P n q) = 0) := by
  constructor
  · intro ⟨h1, h2⟩
    have hk : tkq P n L q = 1 := by rw [← t.1]; exact h1
    refine ⟨hk, ?_⟩
    have hr := wi_rng (wcq P n q)
    by_cases z : wi (wcq P n q) = 0
    · exact z
    · exfalso
      have e := (wi_iff (c := wcq P n q) (k := (wi (wcq P n q) - 1).toNat) (by omega)).mp (by omega)
      apply h2 (wi (wcq P n q) - 1).toNat (by omega)
      rw [hR _ (by omega), e]; exact t.2.2.2.2 h1
  · intro ⟨h1, h2⟩
    have ht : tok = 1 := by rw [t.1]; exact h1
    refine ⟨ht, fun j hj z => ?_⟩
    have hj2 : j < 25 := by omega
    rw [hR j hj2, t.2.2.2.2 ht] at z
    have h3 := wcq_rng h1
    have h4 := cw_rng j hj2
    have h5 := lN_inj (by omega) (by omega) z
    have h6 := (wi_iff (c := wcq P n q) hj2).mpr (by omega)
    omega
/-- the first of m names from a on that is this word -/
def fndF (nm : Nat → Int64) (w : Int64) (a : Nat) : Nat → Nat → Int
  | 0, _ => -1
  | f + 1, k => if nm (a + k) = w then (k : Int) else fndF nm w a f (k + 1)
def fndT (nm : Nat → Int64) (w : Int64) (a m k : Nat) : Int := fndF nm w a (m - k) k
def fnd (nm : Nat → Int64) (w : Int64) (a m : Nat) : Int := fndT nm w a m 0
theorem fndT_end {nm : Nat → Int64} {w : Int64} {a m k : Nat} (h : m ≤ k) : fndT nm w a m k = -1 := by unfold fndT; rw [show m - k = 0 by omega]; rfl
theorem fndT_yes {nm : Nat → Int64} {w : Int64} {a m k : Nat} (h : k < m) (e : nm (a + k) = w) : fndT nm w a m k = (k : Int) := by
  unfold fndT; rw [show m - k = (m - (k + 1)) + 1 by omega]
  show (if nm (a + k) = w then _ else _) = _
  rw [if_pos e]
theorem fndT_no {nm : Nat → Int64} {w : Int64} {a m k : Nat} (h : k < m) (e : nm (a + k) ≠ w) : fndT nm w a m k = fndT nm w a m (k + 1) := by
  unfold fndT; rw [show m - k = (m - (k + 1)) + 1 by omega]
  show (if nm (a + k) = w then _ else _) = _
  rw [if_neg e]
theorem fd_yes {nm : Nat → Int64} {w y : Int64} {a m : Nat} {k i z : Int32} {b : Int} (h : b = fndT nm w a m k.toInt.toNat) (h0 : 0 ≤ k.toInt) (h1 : k.toInt < (m : Int)) (hi : i.toInt = (a : Int) + k.toInt) (ey : y = nm i.toNatClampNeg) (ez : z = if y > w then 1 else if y == w then 0 else -1) (hz : z.toInt = 0) : b = k.toInt := by
  have c := o_cl hi (by omega)
  rcases lcmp_eq ez with ⟨e1, e2⟩ | ⟨e1, e2⟩
  · rw [h, fndT_yes (by omega) (by rw [show a + k.toInt.toNat = i.toNatClampNeg by omega, ← ey]; exact e2)]; omega
  · exact absurd hz e1
theorem fd_no {nm : Nat → Int64} {w y : Int64} {a m : Nat} {k k' i z : Int32} {b : Int} (h : b = fndT nm w a m k.toInt.toNat) (h0 : 0 ≤ k.toInt) (h1 : k.toInt < (m : Int)) (hi : i.toInt = (a : Int) + k.toInt) (ey : y = nm i.toNatClampNeg) (ez : z = if y > w then 1 else if y == w then 0 else -1) (hz : z.toInt ≠ 0) (hk : k'.toInt = k.toInt + 1) : b = fndT nm w a m k'.toInt.toNat := by
  have c := o_cl hi (by omega)
  rcases lcmp_eq ez with ⟨e1, e2⟩ | ⟨e1, e2⟩
  · exact absurd e1 hz
  · rw [h, fndT_no (by omega) (by rw [show a + k.toInt.toNat = i.toNatClampNeg by omega, ← ey]; exact e2), show k'.toInt.toNat = k.toInt.toNat + 1 by omega]
theorem fnd_rng {nm : Nat → Int64} {w : Int64} {a : Nat} : ∀ (f k : Nat), fndF nm w a f k = -1 ∨ ((k : Int) ≤ fndF nm w a f k ∧ fndF nm w a f k < (k : Int) + f)
  | 0, _ => Or.inl rfl
  | f + 1, k => by
    have h := fnd_rng (nm := nm) (w := w) (a := a) f (k + 1)
    show (if nm (a + k) = w then (k : Int) else fndF nm w a f (k + 1)) = -1 ∨ ((k : Int) ≤ (if nm (a + k) = w then (k : Int) else fndF nm w a f (k + 1)) ∧ (if nm (a + k) = w then (k : Int) else fndF nm w a f (k + 1)) < (k : Int) + ((f + 1 : Nat) : Int))
    split
    · right; omega
    · omega
/-- a name that is told already: which -/
def sLok (P : Int → Int) (n L : Int) (nm : Nat → Int64) (a m : Nat) (q : Int) : QR := if tkq P n L q = 1 ∧ wi (wcq P n q) = 0 then (if fnd nm (lN (wcq P n q).toNat) a m = -1 then .inl (3, plq n L q) else .inr q) else .inl (1, plq n L q)
theorem sLok_no1 {P : Int → Int} {n L q tok at_ num p f fa : Int} {w : Int64} {rs nm : Nat → Int64} {a m : Nat} {x : Int} (t : Tm P n L q tok at_ num w p) (hR : Rsv rs) (h : NnA x tok w rs 25) (hx : x = 0) (hf : f = 1) (ha : fa = at_) : sLok P n L nm a m q = .inl (f, fa) := by
  rcases h with ⟨c, d⟩ | ⟨c, d⟩
  · omega
  · unfold sLok; rw [if_neg (fun z => d ((nn_iff t hR).mpr z)), hf, ha, t.2.1]
theorem sLok_no3 {P : Int → Int} {n L q tok at_ num p f fa : Int} {w : Int64} {rs nm : Nat → Int64} {a m : Nat} {x g : Int} (t : Tm P n L q tok at_ num w p) (hR : Rsv rs) (h : NnA x tok w rs 25) (hx : x ≠ 0) (hg : g = fnd nm w a m) (hg0 : g < 0) (hf : f = 3) (ha : fa = at_) : sLok P n L nm a m q = .inl (f, fa) := by
  rcases h with ⟨c, d⟩ | ⟨c, d⟩
  · have e := (nn_iff t hR).mp d
    have hr := fnd_rng (nm := nm) (w := w) (a := a) (m - 0) 0
    have hg2 : fnd nm w a m = -1 := by
      have h9 : fnd nm w a m = fndF nm w a (m - 0) 0 := rfl
      omega
    have ew := t.2.2.2.2 (by rw [t.1]; exact e.1)
    unfold sLok; rw [if_pos e, ← ew, if_pos hg2, hf, ha, t.2.1]
  · omega
theorem sLok_ok {P : Int → Int} {n L q tok at_ num p : Int} {w : Int64} {rs nm : Nat → Int64} {a m : Nat} {x g : Int} (t : Tm P n L q tok at_ num w p) (hR : Rsv rs) (h : NnA x tok w rs 25) (hx : x ≠ 0) (hg : g = fnd nm w a m) (hg0 : 0 ≤ g) : sLok P n L nm a m q = .inr q := by
  rcases h with ⟨c, d⟩ | ⟨c, d⟩
  · have e := (nn_iff t hR).mp d
    have ew := t.2.2.2.2 (by rw [t.1]; exact e.1)
    unfold sLok; rw [if_pos e, ← ew, if_neg (by omega)]
  · omega
theorem sLok_got {P : Int → Int} {n L q tok at_ num p : Int} {w : Int64} {rs nm : Nat → Int64} {a m : Nat} {x g : Int} (t : Tm P n L q tok at_ num w p) (h : NnA x tok w rs 25) (hx : x ≠ 0) (hg : g = fnd nm w a m) : g = fnd nm (lN (wcq P n q).toNat) a m := by
  rcases h with ⟨c, d⟩ | ⟨c, d⟩
  · rw [← t.2.2.2.2 d.1]; exact hg
  · omega
def qb (x : QR) (g : Int → QR) : QR := match x with
  | .inl e => .inl e
  | .inr q => g q
theorem qb_ok {x : QR} {g : Int → QR} {q : Int} (e : x = .inr q) : qb x g = g q := by rw [e]; rfl
theorem qb_no {x : QR} {g : Int → QR} {a : Int × Int} (e : x = .inl a) : qb x g = .inl a := by rw [e]; rfl
def sTkn (P : Int → Int) (n L : Int) (nm : Nat → Int64) (a m : Nat) (q : Int) : QR := qb (sLok P n L nm a m q) (fun q' => .inr (av P n L q'))
theorem sSgn_q {P : Int → Int} {n L c q q' : Int} (h : sSgn P n L c q = .inr q') : q' = av P n L q := by
  unfold sSgn at h
  split at h
  · injection h with h; exact h.symm
  · cases h
theorem sTak_q {P : Int → Int} {n L lo hi q q' : Int} (h : sTak P n L lo hi q = .inr q') : q' = av P n L q := by
  unfold sTak at h
  split at h
  · split at h
    · injection h with h; exact h.symm
    · cases h
  · cases h
theorem sLok_q {P : Int → Int} {n L q q' : Int} {nm : Nat → Int64} {a m : Nat} (h : sLok P n L nm a m q = .inr q') : q' = q := by
  unfold sLok at h
  split at h
  · split at h
    · cases h
    · injection h with h; exact h.symm
  · cases h
theorem sTkn_q {P : Int → Int} {n L q q' : Int} {nm : Nat → Int64} {a m : Nat} (h : sTkn P n L nm a m q = .inr q') : q' = av P n L q := by
  unfold sTkn at h
  cases e : sLok P n L nm a m q with
  | inl x => rw [qb_no e] at h; cases h
  | inr x =>
    rw [qb_ok e] at h
    injection h with h
    rw [← h, sLok_q e]
/-- which book the name at q is -/
def bkN (P : Int → Int) (n : Int) (nm : Nat → Int64) (m : Nat) (q : Int) : Int := fnd nm (lN (wcq P n q).toNat) 8 m
def sWeb (P : Int → Int) (n L q : Int) (h : Nat → Int32) (nm : Nat → Int64) (on we : Int32) : SR5 := q5 (sLok P n L nm 8 (h 0).toInt.toNat (av P n L q)) (fun q1 => if bt we (Int32.ofInt (bkN P n nm (h 0).toInt.toNat q1)) = 1 then .inl (3, plq n L q1) else sPut P n L (23 + (bkN P n nm (h 0).toInt.toNat q1).toNat) 1 99 (av P n L q1) h nm on (we ||| ((1 : Int32) <<< (Int32.ofInt (bkN P n nm (h 0).toInt.toNat q1) &&& 31))))
theorem sWeb_no {P : Int → Int} {n L q : Int} {h : Nat → Int32} {nm : Nat → Int64} {on we b0 : Int32} {a : Int × Int} (e0 : b0 = h 0) (e : sLok P n L nm 8 b0.toInt.toNat (av P n L q) = .inl a) : sWeb P n L q h nm on we = .inl a := by
  subst e0; unfold sWeb; rw [q5_no e]
theorem sWeb_no3 {P : Int → Int} {n L q tok at_ num p f fa : Int} {w : Int64} {h : Nat → Int32} {nm : Nat → Int64} {on we b0 k r : Int32} (e0 : b0 = h 0) (e : sLok P n L nm 8 b0.toInt.toNat (av P n L q) = .inr (av P n L q)) (t : Tm P n L (av P n L q) tok at_ num w p) (hk : k.toInt = fnd nm (lN (wcq P n (av P n L q)).toNat) 8 b0.toInt.toNat) (hb : r = bt we k) (hr : r.toInt = 1) (hf : f = 3) (ha : fa = at_) : sWeb P n L q h nm on we = .inl (f, fa) := by
  subst e0; unfold sWeb bkN
  rw [q5_ok e, ← of_int hk, ← hb, if_pos (o_meq (b := 1) rfl (by decide) hr), hf, ha, t.2.1]
theorem sWeb_go {P : Int → Int} {n L q : Int} {h : Nat → Int32} {nm : Nat → Int64} {on we we' b0 k r x y : Int32} {X : SR5} (e0 : b0 = h 0) (e : sLok P n L nm 8 b0.toInt.toNat (av P n L q) = .inr (av P n L q)) (hk : k.toInt = fnd nm (lN (wcq P n (av P n L q)).toNat) 8 b0.toInt.toNat) (hk0 : 0 ≤ k.toInt) (hb : r = bt we k) (hr : r.toInt ≠ 1) (ey : y = (1 : Int32) <<< (k &&& 31)) (eo : we' = we ||| y) (hx : x.toInt = 23 + k.toInt) (ex : sPut P n L x.toNatClampNeg 1 99 (av P n L (av P n L q)) h nm on we' = X) : sWeb P n L q h nm on we = X := by
  have c := o_cl hx (by omega)
  subst e0; unfold sWeb bkN
  rw [q5_ok e]
  show (if bt we (Int32.ofInt (fnd nm (lN (wcq P n (av P n L q)).toNat) 8 (h 0).toInt.toNat)) = 1 then _ else _) = _
  rw [← of_int hk, ← hb, if_neg (o_mne (b := 1) rfl (by decide) hr), ← hk, ← ey, ← eo, show 23 + k.toInt.toNat = x.toNatClampNeg by omega]; exact ex
/-- two unlike books -/
def sPai (P : Int → Int) (n L : Int) (nm : Nat → Int64) (m : Nat) (q : Int) : QR := qb (sTkn P n L nm 8 m (av P n L q)) (fun q2 => qb (sLok P n L nm 8 m q2) (fun q3 => if bkN P n nm m (av P n L q) = bkN P n nm m q3 then .inl (3, plq n L q3) else .inr q3))
theorem sPai_no1 {P : Int → Int} {n L q : Int} {nm : Nat → Int64} {m : Nat} {a : Int × Int} (e : sTkn P n L nm 8 m (av P n L q) = .inl a) : sPai P n L nm m q = .inl a := by unfold sPai; rw [qb_no e]
theorem sPai_no2 {P : Int → Int} {n L q : Int} {nm : Nat → Int64} {m : Nat} {a : Int × Int} (e : sTkn P n L nm 8 m (av P n L q) = .inr (av P n L (av P n L q))) (e2 : sLok P n L nm 8 m (av P n L (av P n L q)) = .inl a) : sPai P n L nm m q = .inl a := by unfold sPai; rw [qb_ok e, qb_no e2]
theorem sPai_no3 {P : Int → Int} {n L q tok at_ num p f fa : Int} {w : Int64} {nm : Nat → Int64} {m : Nat} {x y : Int32} (e : sTkn P n L nm 8 m (av P n L q) = .inr (av P n L (av P n L q))) (e2 : sLok P n L nm 8 m (av P n L (av P n L q)) = .inr (av P n L (av P n L q))) (t : Tm P n L (av P n L (av P n L q)) tok at_ num w p) (hx : x.toInt = fnd nm (lN (wcq P n (av P n L q)).toNat) 8 m) (hy : y.toInt = fnd nm (lN (wcq P n (av P n L (av P n L q))).toNat) 8 m) (h : x.toInt = y.toInt) (hf : f = 3) (ha : fa = at_) : sPai P n L nm m q = .inl (f, fa) := by
  unfold sPai bkN; rw [qb_ok e, qb_ok e2, ← hx, ← hy, if_pos h, hf, ha, t.2.1]
theorem sPai_ok {P : Int → Int} {n L q : Int} {nm : Nat → Int64} {m : Nat} {x y : Int32} (e : sTkn P n L nm 8 m (av P n L q) = .inr (av P n L (av P n L q))) (e2 : sLok P n L nm 8 m (av P n L (av P n L q)) = .inr (av P n L (av P n L q))) (hx : x.toInt = fnd nm (lN (wcq P n (av P n L q)).toNat) 8 m) (hy : y.toInt = fnd nm (lN (wcq P n (av P n L (av P n L q))).toNat) 8 m) (h : x.toInt ≠ y.toInt) : sPai P n L nm m q = .inr (av P n L (av P n L q)) := by
  unfold sPai bkN; rw [qb_ok e, qb_ok e2, ← hx, ← hy, if_neg h]
theorem sPai_q {P : Int → Int} {n L q q' : Int} {nm : Nat → Int64} {m : Nat} (h : sPai P n L nm m q = .inr q') : q' = av P n L (av P n L q) := by
  unfold sPai at h
  cases e : sTkn P n L nm 8 m (av P n L q) with
  | inl x => rw [qb_no e] at h; cases h
  | inr x =>
    rw [qb_ok e] at h
    have e1 := sTkn_q e
    subst e1
    cases e2 : sLok P n L nm 8 m (av P n L (av P n L q)) with
    | inl x => rw [qb_no e2] at h; cases h
    | inr x =>
      rw [qb_ok e2] at h
      have e3 := sLok_q e2
      subst e3
      split at h
      · cases h
      · injection h with h; exact h.symm
def sThr (P : Int → Int) (n L q : Int) (h : Nat → Int32) (nm : Nat → Int64) (on we : Int32) : SR5 := q5 (sPai P n L nm (h 0).toInt.toNat q) (fun q3 => if 0 < (h (31 + 8 * (bkN P n nm (h 0).toInt.toNat (av P n L q)).toNat + (bkN P n nm (h 0).toInt.toNat q3).toNat)).toInt then .inl (3, plq n L q3) else q5 (sTak P n L 1 99 (av P n L q3)) (fun q4 => .inr (q4, upd (upd h (31 + 8 * (bkN P n nm (h 0).toInt.toNat (av P n L q)).toNat + (bkN P n nm (h 0).toInt.toNat q3).toNat) (Int32.ofInt (nuq P n (av P n L q3)))) (31 + 8 * (bkN P n nm (h 0).toInt.toNat q3).toNat + (bkN P n nm (h 0).toInt.toNat (av P n L q)).toNat) (Int32.ofInt (nuq P n (av P n L q3))), nm, on, we)))
theorem sThr_no {P : Int → Int} {n L q : Int} {h : Nat → Int32} {nm : Nat → Int64} {on we : Int32} {a : Int × Int} (e : sPai P n L nm (h 0).toInt.toNat q = .inl a) : sThr P n L q h nm on we = .inl a := by
  unfold sThr; rw [q5_no e]
theorem sThr_no3 {P : Int → Int} {n L q tok at_ num p f fa : Int} {w : Int64} {h : Nat → Int32} {nm : Nat → Int64} {on we a b x v : Int32} (e : sPai P n L nm (h 0).toInt.toNat q = .inr (av P n L (av P n L q))) (t : Tm P n L (av P n L (av P n L q)) tok at_ num w p) (ha0 : 0 ≤ a.toInt) (hb0 : 0 ≤ b.toInt) (ha : a.toInt = fnd nm (lN (wcq P n (av P n L q)).toNat) 8 (h 0).toInt.toNat) (hb : b.toInt = fnd nm (lN (wcq P n (av P n L (av P n L q))).toNat) 8 (h 0).toInt.toNat) (hx : x.toInt = 31 + 8 * a.toInt + b.toInt) (hv : v = h x.toNatClampNeg) (h0 : 0 < v.toInt) (hf : f = 3) (hA : fa = at_) : sThr P n L q h nm on we = .inl (f, fa) := by
  have c := o_cl hx (by omega)
  unfold sThr bkN
  rw [q5_ok e]
  show (if 0 < (h (31 + 8 * (fnd nm (lN (wcq P n (av P n L q)).toNat) 8 (h 0).toInt.toNat).toNat + (fnd nm (lN (wcq P n (av P n L (av P n L q))).toNat) 8 (h 0).toInt.toNat).toNat)).toInt then _ else _) = _
  rw [← ha, ← hb, show 31 + 8 * a.toInt.toNat + b.toInt.toNat = x.toNatClampNeg by omega, ← hv, if_pos h0, hf, hA, t.2.1]
theorem sThr_go {P : Int → Int} {n L q : Int} {h : Nat → Int32} {nm : Nat → Int64} {on we a b x v : Int32} {X : SR5} (e : sPai P n L nm (h 0).toInt.toNat q = .inr (av P n L (av P n L q))) (ha0 : 0 ≤ a.toInt) (hb0 : 0 ≤ b.toInt) (ha : a.toInt = fnd nm (lN (wcq P n (av P n L q)).toNat) 8 (h 0).toInt.toNat) (hb : b.toInt = fnd nm (lN (wcq P n (av P n L (av P n L q))).toNat) 8 (h 0).toInt.toNat) (hx : x.toInt = 31 + 8 * a.toInt + b.toInt) (hv : v = h x.toNatClampNeg) (h0 : v.toInt ≤ 0) (ex : q5 (sTak P n L 1 99 (av P n L (av P n L (av P n L q)))) (fun q4 => .inr (q4, upd (upd h (31 + 8 * a.toInt.toNat + b.toInt.toNat) (Int32.ofInt (nuq P n (av P n L (av P n L (av P n L q)))))) (31 + 8 * b.toInt.toNat + a.toInt.toNat) (Int32.ofInt (nuq P n (av P n L (av P n L (av P n L q))))), nm, on, we)) = X) : sThr P n L q h nm on we = X := by
  have c := o_cl hx (by omega)
  unfold sThr bkN
  rw [q5_ok e]
  show (if 0 < (h (31 + 8 * (fnd nm (lN (wcq P n (av P n L q)).toNat) 8 (h 0).toInt.toNat).toNat + (fnd nm (lN (wcq P n (av P n L (av P n L q))).toNat) 8 (h 0).toInt.toNat).toNat)).toInt then _ else _) = _
  rw [← ha, ← hb]
  have e9 : 31 + 8 * a.toInt.toNat + b.toInt.toNat = x.toNatClampNeg := by omega
  rw [if_neg (by rw [e9, ← hv]; omega)]
  exact ex
theorem sThr_ok {P : Int → Int} {n L q q' : Int} {h g1 g2 : Nat → Int32} {nm : Nat → Int64} {on we a b x y v : Int32} (e : sTak P n L 1 99 q = .inr q') (hv : v.toInt = nuq P n q) (ha0 : 0 ≤ a.toInt) (hb0 : 0 ≤ b.toInt) (hx : x.toInt = 31 + 8 * a.toInt + b.toInt) (hy : y.toInt = 31 + 8 * b.toInt + a.toInt) (e1 : upd h x.toNatClampNeg v = g1) (e2 : upd g1 y.toNatClampNeg v = g2) : (q5 (sTak P n L 1 99 q) (fun q4 => .inr (q4, upd (upd h (31 + 8 * a.toInt.toNat + b.toInt.toNat) (Int32.ofInt (nuq P n q))) (31 + 8 * b.toInt.toNat + a.toInt.toNat) (Int32.ofInt (nuq P n q)), nm, on, we)) : SR5) = .inr (q', g2, nm, on, we) := by
  have c := o_cl hx (by omega)
  have d := o_cl hy (by omega)
  rw [q5_ok e, ← of_int hv, show 31 + 8 * a.toInt.toNat + b.toInt.toNat = x.toNatClampNeg by omega, show 31 + 8 * b.toInt.toNat + a.toInt.toNat = y.toNatClampNeg by omega, e1, e2]
def sQua (P : Int → Int) (n L q : Int) (h : Nat → Int32) (nm : Nat → Int64) (on we : Int32) : SR5 := q5 (sPai P n L nm (h 0).toInt.toNat q) (fun q3 => (fun A B : Int => if bt (h (95 + A.toNat)) (Int32.ofInt B) = 1 then (.inl (3, plq n L q3) : SR5) else .inr (av P n L q3, upd (upd h (95 + A.toNat) (h (95 + A.toNat) ||| ((1 : Int32) <<< (Int32.ofInt B &&& 31)))) (95 + B.toNat) ((upd h (95 + A.toNat) (h (95 + A.toNat) ||| ((1 : Int32) <<< (Int32.ofInt B &&& 31)))) (95 + B.toNat) ||| ((1 : Int32) <<< (Int32.ofInt A &&& 31))), nm, on, we)) (bkN P n nm (h 0).toInt.toNat (av P n L q)) (bkN P n nm (h 0).toInt.toNat q3))
theorem sQua_no {P : Int → Int} {n L q : Int} {h : Nat → Int32} {nm : Nat → Int64} {on we : Int32} {a : Int × Int} (e : sPai P n L nm (h 0).toInt.toNat q = .inl a) : sQua P n L q h nm on we = .inl a := by
  unfold sQua; rw [q5_no e]
theorem sQua_no3 {P : Int → Int} {n L q tok at_ num p f fa : Int} {w : Int64} {h : Nat → Int32} {nm : Nat → Int64} {on we a b x v r : Int32} (e : sPai P n L nm (h 0).toInt.toNat q = .inr (av P n L (av P n L q))) (t : Tm P n L (av P n L (av P n L q)) tok at_ num w p) (ha0 : 0 ≤ a.toInt) (ha : a.toInt = fnd nm (lN (wcq P n (av P n L q)).toNat) 8 (h 0).toInt.toNat) (hb : b.toInt = fnd nm (lN (wcq P n (av P n L (av P n L q))).toNat) 8 (h 0).toInt.toNat) (hx : x.toInt = 95 + a.toInt) (hv : v = h x.toNatClampNeg) (hr : r = bt v b) (h1 : r.toInt = 1) (hf : f = 3) (hA : fa = at_) : sQua P n L q h nm on we = .inl (f, fa) := by
  have c := o_cl hx (by omega)
  unfold sQua bkN
  rw [q5_ok e, ← ha, ← hb]
  show (if bt (h (95 + a.toInt.toNat)) (Int32.ofInt b.toInt) = 1 then _ else _) = _
  rw [show 95 + a.toInt.toNat = x.toNatClampNeg by omega, ← hv, Int32.ofInt_toInt, ← hr, if_pos (o_meq (b := 1) rfl (by decide) h1), hf, hA, t.2.1]
theorem sQua_ok {P : Int → Int} {n L q : Int} {h g1 g2 : Nat → Int32} {nm : Nat → Int64} {on we a b x y v v2 r s1 s2 z1 z2 : Int32} (e : sPai P n L nm (h 0).toInt.toNat q = .inr (av P n L (av P n L q))) (ha0 : 0 ≤ a.toInt) (hb0 : 0 ≤ b.toInt) (ha : a.toInt = fnd nm (lN (wcq P n (av P n L q)).toNat) 8 (h 0).toInt.toNat) (hb : b.toInt = fnd nm (lN (wcq P n (av P n L (av P n L q))).toNat) 8 (h 0).toInt.toNat) (hx : x.toInt = 95 + a.toInt) (hy : y.toInt = 95 + b.toInt) (hv : v = h x.toNatClampNeg) (hr : r = bt v b) (h1 : r.toInt ≠ 1) (d1 : s1 = (1 : Int32) <<< (b &&& 31)) (d2 : z1 = v ||| s1) (e1 : upd h x.toNatClampNeg z1 = g1) (hv2 : v2 = g1 y.toNatClampNeg) (d3 : s2 = (1 : Int32) <<< (a &&& 31)) (d4 : z2 = v2 ||| s2) (e2 : upd g1 y.toNatClampNeg z2 = g2) : sQua P n L q h nm on we = .inr (av P n L (av P n L (av P n L q)), g2, nm, on, we) := by
  have c := o_cl hx (by omega)
  have d := o_cl hy (by omega)
  unfold sQua bkN
  rw [q5_ok e, ← ha, ← hb]
  show (if bt (h (95 + a.toInt.toNat)) (Int32.ofInt b.toInt) = 1 then _ else _) = _
  rw [show 95 + a.toInt.toNat = x.toNatClampNeg by omega, show 95 + b.toInt.toNat = y.toNatClampNeg by omega, ← hv, Int32.ofInt_toInt, Int32.ofInt_toInt, ← hr, if_neg (o_mne (b := 1) rfl (by decide) h1), ← d1, ← d2, e1, ← hv2, ← d3, ← d4, e2]
/-- whether one of the books told ahead of K stands in the cell of K's column and row v -/
def clF (h : Nat → Int32) (K : Nat) (v : Int) : Nat → Nat → Bool
  | 0, _ => false
  | f + 1, i => if (h (7 + i)).toInt = (h (7 + K)).toInt ∧ (h (15 + i)).toInt = v then true else clF h K v f (i + 1)
def clT (h : Nat → Int32) (K : Nat) (v : Int) (i : Nat) : Bool := clF h K v (K - i) i
theorem clT_end {h : Nat → Int32} {K i : Nat} {v : Int} (e : K ≤ i) : clT h K v i = false := by unfold clT; rw [show K - i = 0 by omega]; rfl
theorem clT_yes {h : Nat → Int32} {K i : Nat} {v : Int} (e : i < K) (c : (h (7 + i)).toInt = (h (7 + K)).toInt ∧ (h (15 + i)).toInt = v) : clT h K v i = true := by
  unfold clT; rw [show K - i = (K - (i + 1)) + 1 by omega]
  show (if _ then _ else _) = _
  rw [if_pos c]
theorem clT_no {h : Nat → Int32} {K i : Nat} {v : Int} (e : i < K) (c : ¬ ((h (7 + i)).toInt = (h (7 + K)).toInt ∧ (h (15 + i)).toInt = v)) : clT h K v i = clT h K v (i + 1) := by
  unfold clT; rw [show K - i = (K - (i + 1)) + 1 by omega]
  show (if _ then _ else _) = _
  rw [if_neg c]
/-- a book's end: whether it is rare -/
def sBo3 (P : Int → Int) (n L : Int) (K : Nat) (q : Int) (h2 : Nat → Int32) (nm : Nat → Int64) (on we : Int32) : SR5 := if wq P n L q = 3 then (if bc (h2 103).toInt = 3 then (.inl (4, plq n L q) : SR5) else (fun h3 : Nat → Int32 => .inr (av P n L q, upd h3 0 (h3 0 + 1), nm, on, we)) (upd h2 103 (h2 103 ||| ((1 : Int32) <<< (nI K &&& 31))))) else .inr (q, upd h2 0 (h2 0 + 1), nm, on, we)
/-- a book: behind its cell's column -/
def sBo2 (P : Int → Int) (n L : Int) (K : Nat) (q : Int) (h : Nat → Int32) (nm : Nat → Int64) (on we : Int32) : SR5 := if tkq P n L q = 2 then (if (h 2).toInt ≤ nuq P n q then .inl (2, plq n L q) else if clT h K (nuq P n q) 0 = true then .inl (3, plq n L q) else sBo3 P n L K (av P n L q) (upd h (15 + K) (Int32.ofInt (nuq P n q))) nm on we) else .inl (1, plq n L q)
def sBok (P : Int → Int) (n L q : Int) (h : Nat → Int32) (nm : Nat → Int64) (on we : Int32) : SR5 := if (h 0).toInt = 8 then .inl (4, plq n L q) else if tkq P n L (av P n L q) = 1 ∧ wi (wcq P n (av P n L q)) = 0 then (if 0 ≤ fnd nm (lN (wcq P n (av P n L q)).toNat) 8 (h 0).toInt.toNat then .inl (3, plq n L (av P n L q)) else sb5 (sPut P n L (7 + (h 0).toInt.toNat) 0 ((h 1).toInt - 1) (av P n L (av P n L q)) h (vp_updL nm (8 + (h 0).toInt.toNat) (lN (wcq P n (av P n L q)).toNat)) (on ||| 1) we) (fun q3 h1 nm1 on1 we1 => sBo2 P n L (h 0).toInt.toNat q3 h1 nm1 on1 we1)) else .inl (1, plq n L (av P n L q))
