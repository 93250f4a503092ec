/-- what peek answers: the octet at k, -1 behind the last -/
def Pk (f : Nat → Int32) (n k : Int) : Int := if 0 ≤ k ∧ k < n then ob f k.toNat else -1
theorem Pk_tp {f g : Nat → Int32} {n : Int} (h : Tp f g n) : Pk f n = Pk g n := by
  funext k
  unfold Pk
  by_cases c : 0 ≤ k ∧ k < n
  · rw [if_pos c, if_pos c, h k.toNat (by omega)]
  · rw [if_neg c, if_neg c]
theorem Pk_in {f : Nat → Int32} {n k : Int} (h0 : 0 ≤ k) (h1 : k < n) : Pk f n k = ob f k.toNat := by unfold Pk; rw [if_pos ⟨h0, h1⟩]
theorem Pk_out {f : Nat → Int32} {n k : Int} (h : n ≤ k) : Pk f n k = -1 := by unfold Pk; rw [if_neg (by omega)]
theorem Pk_rng (f : Nat → Int32) (n k : Int) : -1 ≤ Pk f n k ∧ Pk f n k ≤ 255 := by
  unfold Pk ob
  split <;> omega
theorem Pk_pos {f : Nat → Int32} {n k : Int} (h : 0 ≤ Pk f n k) : k < n := by
  unfold Pk at h
  split at h <;> omega
/-- a load of the class -/
theorem ld_Pk {f : Nat → Int32} {i a : Int32} {n : Int} (e : a = f i.toNatClampNeg) (h0 : 0 ≤ i.toInt) (h1 : i.toInt < n) (a0 : 0 ≤ a.toInt) (a1 : a.toInt ≤ 255) : Pk f n i.toInt = a.toInt := by
  have c := o_cl (x := i) rfl h0
  rw [Pk_in h0 h1]
  unfold ob
  rw [show i.toInt.toNat = i.toNatClampNeg by omega, ← e]; omega
def blk (c : Int) : Bool := decide (c = 32 ∨ c = 10)
def sml (c : Int) : Bool := decide (97 ≤ c ∧ c ≤ 122)
def aln (c : Int) : Bool := decide ((97 ≤ c ∧ c ≤ 122) ∨ (48 ≤ c ∧ c ≤ 57))
def sgn (c : Int) : Bool := decide (c = 59 ∨ c = 40 ∨ c = 41 ∨ (60 ≤ c ∧ c ≤ 62))
/-- from p on as long as t, not beyond n -/
def whF (t : Int → Bool) (P : Int → Int) : Nat → Int → Int
  | 0, p => p
  | k + 1, p => if t (P p) = true then whF t P k (p + 1) else p
def wh (t : Int → Bool) (P : Int → Int) (n p : Int) : Int := whF t P (n - p).toNat p
theorem wh_step {t : Int → Bool} {P : Int → Int} {n p : Int} (h : p < n) (ht : t (P p) = true) : wh t P n p = wh t P n (p + 1) := by
  unfold wh
  rw [show (n - p).toNat = (n - (p + 1)).toNat + 1 by omega]
  show (if t (P p) = true then _ else _) = _
  rw [if_pos ht]
theorem wh_stop {t : Int → Bool} {P : Int → Int} {n p : Int} (ht : t (P p) = false) : wh t P n p = p := by
  unfold wh
  cases (n - p).toNat with
  | zero => rfl
  | succ k =>
    show (if t (P p) = true then _ else _) = _
    rw [if_neg (by rw [ht]; decide)]
theorem wh_end {t : Int → Bool} {P : Int → Int} {n p : Int} (h : n ≤ p) : wh t P n p = p := by
  unfold wh; rw [show (n - p).toNat = 0 by omega]; rfl
theorem whF_ge {t : Int → Bool} {P : Int → Int} : ∀ (k : Nat) (p : Int), p ≤ whF t P k p ∧ whF t P k p ≤ p + k
  | 0, p => by show p ≤ p ∧ p ≤ p + ((0 : Nat) : Int); omega
  | k + 1, p => by
    have h := whF_ge (t := t) (P := P) k (p + 1)
    show p ≤ (if t (P p) = true then whF t P k (p + 1) else p) ∧ (if t (P p) = true then whF t P k (p + 1) else p) ≤ p + ((k + 1 : Nat) : Int)
    split <;> omega
theorem wh_ge {t : Int → Bool} {P : Int → Int} {n p : Int} : p ≤ wh t P n p := (whF_ge _ _).1
theorem wh_le {t : Int → Bool} {P : Int → Int} {n p : Int} (h : p ≤ n) : wh t P n p ≤ n := by
  have h2 := (whF_ge (t := t) (P := P) (n - p).toNat p).2
  unfold wh; omega
/-- letters, number, code of the first k from q on -/
def ltr (P : Int → Int) (q : Int) : Nat → Int
  | 0 => 0
  | k + 1 => ltr P q k + (if sml (P (q + k)) = true then 1 else 0)
def vlu (P : Int → Int) (q : Int) : Nat → Int
  | 0 => 0
  | k + 1 => 10 * vlu P q k + P (q + k) - 48
def cod (P : Int → Int) (q : Int) : Nat → Int
  | 0 => 0
  | k + 1 => 256 * cod P q k + P (q + k)
theorem ltr_succ (P : Int → Int) (q : Int) (k : Nat) : ltr P q (k + 1) = ltr P q k + (if sml (P (q + k)) = true then 1 else 0) := rfl
theorem vlu_succ (P : Int → Int) (q : Int) (k : Nat) : vlu P q (k + 1) = 10 * vlu P q k + P (q + k) - 48 := rfl
theorem cod_succ (P : Int → Int) (q : Int) (k : Nat) : cod P q (k + 1) = 256 * cod P q k + P (q + k) := rfl
theorem ltr_rng (P : Int → Int) (q : Int) : ∀ k : Nat, 0 ≤ ltr P q k ∧ ltr P q k ≤ k
  | 0 => by show (0 : Int) ≤ 0 ∧ (0 : Int) ≤ ((0 : Nat) : Int); omega
  | k + 1 => by
    have h := ltr_rng P q k
    rw [ltr_succ]
    split <;> omega
theorem ltr_yes {P : Int → Int} {q : Int} (h : sml (P q) = true) : ∀ k : Nat, 1 ≤ k → 1 ≤ ltr P q k
  | 0, h1 => absurd h1 (by omega)
  | 1, _ => by
    rw [ltr_succ, show q + ((0 : Nat) : Int) = q by omega, if_pos h]
    show (1 : Int) ≤ 0 + 1; omega
  | k + 2, _ => by
    have h2 := ltr_yes h (k + 1) (by omega)
    rw [ltr_succ]
    split <;> omega
theorem ltr_no {P : Int → Int} {q : Int} (h : sml (P q) = false) : ∀ k : Nat, 1 ≤ k → ltr P q k ≤ (k : Int) - 1
  | 0, h1 => absurd h1 (by omega)
  | 1, _ => by
    rw [ltr_succ, show q + ((0 : Nat) : Int) = q by omega, if_neg (by rw [h]; decide)]
    show (0 : Int) + 0 ≤ ((1 : Nat) : Int) - 1; omega
  | k + 2, _ => by
    have h2 := ltr_no h (k + 1) (by omega)
    rw [ltr_succ]
    split <;> omega
/-- where tokens may begin no more -/
def lm (n m : Int) : Int := if n ≤ m then n else m
theorem lm_is (n m : Int) : (n ≤ m ∧ lm n m = n) ∨ (m < n ∧ lm n m = m) := by
  unfold lm; split <;> omega
/-- a token: by where it begins (blanks ahead of it are skipped), n octets, m at the most -/
def rk (P : Int → Int) (q : Int) (k : Nat) : Int := if ltr P q k = 0 ∧ k ≤ 3 then 2 else if ltr P q k = (k : Int) ∧ k ≤ 7 then 1 else 4
def rl (P : Int → Int) (n q : Int) : Nat := (wh aln P n q - q).toNat
def tkq (P : Int → Int) (n m q : Int) : Int := if m < n ∧ m ≤ q then 4 else if P q < 0 then 0 else if aln (P q) = true then rk P q (rl P n q) else if sgn (P q) = true then 3 else 4
def plq (n m q : Int) : Int := if m < n ∧ m ≤ q then m else q
def nxq (P : Int → Int) (n m q : Int) : Int := if m < n ∧ m ≤ q then q else if P q < 0 then q else if aln (P q) = true then wh aln P n q else q + 1
def nuq (P : Int → Int) (n q : Int) : Int := if aln (P q) = true then vlu P q (rl P n q) else P q
def wcq (P : Int → Int) (n q : Int) : Int := cod P q (rl P n q)
/-- the model's token fields -/
def Tm (P : Int → Int) (n m q tok at_ num : Int) (w : Int64) (p : Int) : Prop := tok = tkq P n m q ∧ at_ = plq n m q ∧ p = nxq P n m q ∧ (tok = 2 ∨ tok = 3 → num = nuq P n q) ∧ (tok = 1 → w = lN (wcq P n q).toNat)
theorem Tm.cast {P : Int → Int} {n m q q' tok at_ num p : Int} {w : Int64} (h : Tm P n m q tok at_ num w p) (e : q' = q) : Tm P n m q' tok at_ num w p := e ▸ h
theorem Tm.over {P : Int → Int} {n m q tok at_ num p : Int} {w : Int64} (h1 : m < n) (h2 : m ≤ q) (e1 : tok = 4) (e2 : at_ = m) (e3 : p = q) : Tm P n m q tok at_ num w p := by
  refine ⟨?_, ?_, ?_, fun h => by omega, fun h => by omega⟩
  · unfold tkq; rw [if_pos ⟨h1, h2⟩]; exact e1
  · unfold plq; rw [if_pos ⟨h1, h2⟩]; exact e2
  · unfold nxq; rw [if_pos ⟨h1, h2⟩]; exact e3
theorem Tm.stop {P : Int → Int} {n m q tok at_ num p : Int} {w : Int64} (h1 : n ≤ m ∨ q < m) (h2 : P q < 0) (e1 : tok = 0) (e2 : at_ = q) (e3 : p = q) : Tm P n m q tok at_ num w p := by
  have c : ¬ (m < n ∧ m ≤ q) := by omega
  refine ⟨?_, ?_, ?_, fun h => by omega, fun h => by omega⟩
  · unfold tkq; rw [if_neg c, if_pos h2]; exact e1
  · unfold plq; rw [if_neg c]; exact e2
  · unfold nxq; rw [if_neg c, if_pos h2]; exact e3
theorem Tm.sign {P : Int → Int} {n m q tok at_ num p c : Int} {w : Int64} (h1 : n ≤ m ∨ q < m) (hc : P q = c) (h2 : 0 ≤ c) (h3 : ¬ ((97 ≤ c ∧ c ≤ 122) ∨ (48 ≤ c ∧ c ≤ 57))) (e1 : ((c = 59 ∨ c = 40 ∨ c = 41 ∨ (60 ≤ c ∧ c ≤ 62)) ∧ tok = 3) ∨ (¬ (c = 59 ∨ c = 40 ∨ c = 41 ∨ (60 ≤ c ∧ c ≤ 62)) ∧ tok = 4)) (e2 : at_ = q) (e3 : p = q + 1) (e4 : num = c) : Tm P n m q tok at_ num w p := by
  have d : ¬ (m < n ∧ m ≤ q) := by omega
  have a : aln (P q) = false := by unfold aln; rw [hc]; exact decide_eq_false h3
  have a2 : ¬ (aln (P q) = true) := by rw [a]; decide
  refine ⟨?_, ?_, ?_, fun _ => ?_, fun h => by omega⟩
  · unfold tkq sgn; rw [if_neg d, if_neg (by omega), if_neg a2, hc]
    rcases e1 with ⟨e, e'⟩ | ⟨e, e'⟩
    · rw [decide_eq_true e, if_pos rfl]; exact e'
    · rw [decide_eq_false e, if_neg (by decide)]; exact e'
  · unfold plq; rw [if_neg d]; exact e2
  · unfold nxq; rw [if_neg d, if_neg (by omega), if_neg a2]; exact e3
  · unfold nuq; rw [if_neg a2, hc]; exact e4
/-- the model's run: so far -/
def k7 (sp : Int) : Nat := if sp ≤ 7 then sp.toNat else 7
def Ru (P : Int → Int) (q sp num : Int) (w : Int64) : Prop := num = vlu P q (if sp ≤ 3 then sp.toNat else 3) ∧ w = lN (cod P q (k7 sp)).toNat ∧ 0 ≤ cod P q (k7 sp) ∧ cod P q (k7 sp) < 256 ^ (k7 sp)
/-- whether all are alike so far: a is 1 or 0, sm says what the first is -/
def Al (P : Int → Int) (q sp sm a : Int) : Prop := a = (if (sm = 1 ∧ ltr P q sp.toNat = sp) ∨ (sm = 0 ∧ ltr P q sp.toNat = 0) then 1 else 0)
theorem Ru.zero {P : Int → Int} {q sp num : Int} {w : Int64} (h : sp = 0) (hn : num = 0) (hw : w = 0) : Ru P q sp num w := by
  subst h; subst hn; subst hw
  exact ⟨rfl, rfl, Int.le_refl _, (by show (0 : Int) < 256 ^ 0; decide)⟩
theorem Al.zero {P : Int → Int} {q sp sm a : Int} (h : sp = 0) (hs : sm = 1 ∨ sm = 0) (ha : a = 1) : Al P q sp sm a := by
  subst h; subst ha
  unfold Al
  rcases hs with e | e
  · rw [if_pos (Or.inl ⟨e, rfl⟩)]
  · rw [if_pos (Or.inr ⟨e, rfl⟩)]
theorem Al.step {P : Int → Int} {q p sp sm a a' c : Int} (h : Al P q sp sm a) (h0 : 0 ≤ sp) (hp : p = q + sp) (hc : P p = c) (hs : sm = 1 ∨ sm = 0) (e : (a ≠ 0 ∧ ((97 ≤ c ∧ c ≤ 122) ∧ sm = 1 ∨ ¬ (97 ≤ c ∧ c ≤ 122) ∧ sm = 0) ∧ a' = 1) ∨ (a ≠ 0 ∧ ((97 ≤ c ∧ c ≤ 122) ∧ sm = 0 ∨ ¬ (97 ≤ c ∧ c ≤ 122) ∧ sm = 1) ∧ a' = 0) ∨ (a = 0 ∧ a' = 0)) : Al P q (sp + 1) sm a' := by
  have r := ltr_rng P q sp.toNat
  have e1 : ltr P q (sp + 1).toNat = ltr P q sp.toNat + (if sml (P (q + sp.toNat)) = true then 1 else 0) := by
    rw [show (sp + 1).toNat = sp.toNat + 1 by omega, ltr_succ]
  have e2 : q + (sp.toNat : Int) = p := by omega
  rw [e2, hc] at e1
  unfold Al at h ⊢
  by_cases s : 97 ≤ c ∧ c ≤ 122
  · rw [show sml c = true from decide_eq_true s, if_pos rfl] at e1
    split at h <;> split <;> omega
  · rw [show sml c = false from decide_eq_false s, if_neg (by decide)] at e1
    split at h <;> split <;> omega
theorem Ru.num {P : Int → Int} {q p sp num num' c : Int} {w : Int64} (h : Ru P q sp num w) (h0 : 0 ≤ sp) (hp : p = q + sp) (hc : P p = c) (e : (sp < 3 ∧ num' = 10 * num + c - 48) ∨ (3 ≤ sp ∧ num' = num)) : num' = vlu P q (if sp + 1 ≤ 3 then (sp + 1).toNat else 3) := by
  have h1 := h.1
  rcases e with ⟨h2, h3⟩ | ⟨h2, h3⟩
  · rw [if_pos (by omega)] at h1
    rw [if_pos (by omega), show (sp + 1).toNat = sp.toNat + 1 by omega, vlu_succ, show q + (sp.toNat : Int) = p by omega, hc, ← h1]
    exact h3
  · rw [if_neg (by omega), h3, h1]
    by_cases q3 : sp ≤ 3
    · rw [if_pos q3, show sp.toNat = 3 by omega]
    · rw [if_neg q3]
theorem pw7 : ∀ k : Nat, k < 7 → (256 : Int) ^ (k + 1) ≤ 72057594037927936 := by decide
theorem Ru.word {P : Int → Int} {q p sp num : Int} {w w' y z : Int64} {c : Int32} (h : Ru P q sp num w) (h0 : 0 ≤ sp) (hp : p = q + sp) (hc : P p = c.toInt) (c0 : 0 ≤ c.toInt) (c1 : c.toInt ≤ 255) (h7 : sp < 7) (ey : y = w <<< ((8 : Int32).toInt64 &&& 63)) (ez : z = c.toInt64) (e : w' = y ||| z) : w' = lN (cod P q (k7 (sp + 1))).toNat ∧ 0 ≤ cod P q (k7 (sp + 1)) ∧ cod P q (k7 (sp + 1)) < 256 ^ (k7 (sp + 1)) := by
  obtain ⟨-, h1, h2, h3⟩ := h
  have k0 : k7 sp = sp.toNat := by unfold k7; rw [if_pos (by omega)]
  have k1 : k7 (sp + 1) = sp.toNat + 1 := by unfold k7; rw [if_pos (by omega)]; omega
  rw [k0] at h1 h2 h3
  rw [k1]
  have e1 : cod P q (sp.toNat + 1) = 256 * cod P q sp.toNat + c.toInt := by rw [cod_succ, show q + (sp.toNat : Int) = p by omega, hc]
  have hw := pw7 sp.toNat (by omega)
  have hs : (256 : Int) ^ (sp.toNat + 1) = 256 ^ sp.toNat * 256 := Int.pow_succ ..
  rw [hs] at hw ⊢
  rw [e1]
  generalize (256 : Int) ^ sp.toNat = X at *
  generalize cod P q sp.toNat = Y at *
  obtain ⟨j, hj, ej, rfl⟩ := o_nat (x := c) rfl c0
  refine ⟨?_, by omega, by omega⟩
  rw [e, ey, ez, h1, nI_l hj]
  have s1 : lN Y.toNat <<< ((8 : Int32).toInt64 &&& 63) = lN (Y.toNat * 2 ^ 8) := wb_shl Y.toNat (k := 8) (by decide)
  rw [s1, g_or (k := 8) (p := 2 ^ 8) rfl (show j < 2 ^ 8 by omega) (by omega)]
  congr 1; omega
theorem Ru.keep {P : Int → Int} {q sp num : Int} {w : Int64} (h : Ru P q sp num w) (h7 : 7 ≤ sp) : w = lN (cod P q (k7 (sp + 1))).toNat ∧ 0 ≤ cod P q (k7 (sp + 1)) ∧ cod P q (k7 (sp + 1)) < 256 ^ (k7 (sp + 1)) := by
  obtain ⟨-, h1, h2, h3⟩ := h
  have k0 : k7 sp = 7 := by unfold k7; split <;> omega
  have k1 : k7 (sp + 1) = 7 := by unfold k7; rw [if_neg (by omega)]
  rw [k0] at h1 h2 h3
  rw [k1]; exact ⟨h1, h2, h3⟩
/-- the run is over -/
theorem Tm.run {P : Int → Int} {n m q tok at_ num p sp sm a : Int} {w : Int64} (h1 : n ≤ m ∨ q < m) (hq : aln (P q) = true) (h0 : 0 ≤ P q) (hs : (sml (P q) = true ∧ sm = 1) ∨ (sml (P q) = false ∧ sm = 0)) (e : wh aln P n q = p) (hp : p = q + sp) (hsp : 1 ≤ sp) (hR : Ru P q sp num w) (hA : Al P q sp sm a) (e2 : at_ = q) (et : (a = 0 ∧ tok = 4) ∨ (a ≠ 0 ∧ sm = 1 ∧ 7 < sp ∧ tok = 4) ∨ (a ≠ 0 ∧ sm = 0 ∧ 3 < sp ∧ tok = 4) ∨ (a ≠ 0 ∧ sm = 1 ∧ sp ≤ 7 ∧ tok = 1) ∨ (a ≠ 0 ∧ sm = 0 ∧ sp ≤ 3 ∧ tok = 2)) : Tm P n m q tok at_ num w p := by
  have d : ¬ (m < n ∧ m ≤ q) := by omega
  have er : rl P n q = sp.toNat := by unfold rl; rw [e]; omega
  have r := ltr_rng P q sp.toNat
  have y : sml (P q) = true → 1 ≤ ltr P q sp.toNat := fun z => ltr_yes z _ (by omega)
  have z : sml (P q) = false → ltr P q sp.toNat ≤ (sp.toNat : Int) - 1 := fun z => ltr_no z _ (by omega)
  unfold Al at hA
  have ek : tok = rk P q sp.toNat := by
    unfold rk
    rcases hs with ⟨s1, s2⟩ | ⟨s1, s2⟩
    · have y := y s1
      split at hA <;> split <;> first | omega | (split <;> omega)
    · have z := z s1
      split at hA <;> split <;> first | omega | (split <;> omega)
  refine ⟨?_, ?_, ?_, fun h => ?_, fun h => ?_⟩
  · unfold tkq; rw [if_neg d, if_neg (by omega), if_pos hq, er]; exact ek
  · unfold plq; rw [if_neg d]; exact e2
  · unfold nxq; rw [if_neg d, if_neg (by omega), if_pos hq]; exact e.symm
  · unfold nuq; rw [if_pos hq, er, hR.1, if_pos (by omega)]
  · unfold wcq; rw [er, hR.2.1]; unfold k7; rw [if_pos (by omega)]
theorem wh_next {t : Int → Bool} {P : Int → Int} {n p p' a : Int} (h : a = wh t P n p) (h1 : p < n) (ht : t (P p) = true) (e : p' = p + 1) : a = wh t P n p' := by
  rw [h, wh_step h1 ht, e]
theorem Ru.step {P : Int → Int} {q sp sp' num' : Int} {w' : Int64} (hn : num' = vlu P q (if sp + 1 ≤ 3 then (sp + 1).toNat else 3)) (hw : w' = lN (cod P q (k7 (sp + 1))).toNat ∧ 0 ≤ cod P q (k7 (sp + 1)) ∧ cod P q (k7 (sp + 1)) < 256 ^ (k7 (sp + 1))) (e : sp' = sp + 1) : Ru P q sp' num' w' := by
  subst e; exact ⟨hn, hw⟩
theorem Al.cast {P : Int → Int} {q sp sp' sm a : Int} (h : Al P q sp sm a) (e : sp' = sp) : Al P q sp' sm a := e ▸ h
theorem sp_pos {P : Int → Int} {q p sp c c' : Int} (hc : P q = c) (hc' : P p = c') (hp : p = q + sp) (h0 : 0 ≤ sp) (h : c ≠ c') : 1 ≤ sp := by
  by_cases e : sp = 0
  · exfalso; apply h; rw [← hc, ← hc', hp, e, Int.add_zero]
  · omega
theorem sml_is {P : Int → Int} {q c sm : Int} (hc : P q = c) (h : ((97 ≤ c ∧ c ≤ 122) ∧ sm = 1) ∨ (¬ (97 ≤ c ∧ c ≤ 122) ∧ sm = 0)) : (sml (P q) = true ∧ sm = 1) ∨ (sml (P q) = false ∧ sm = 0) := by
  unfold sml; rw [hc]
  rcases h with ⟨a, b⟩ | ⟨a, b⟩
  · exact Or.inl ⟨decide_eq_true a, b⟩
  · exact Or.inr ⟨decide_eq_false a, b⟩
/-- codes of words: which letters they are of -/
theorem cod_pos {A : Int → Int} {a : Int} : ∀ s : Nat, (∀ i : Nat, i < s → 1 ≤ A (a + i) ∧ A (a + i) ≤ 255) → 0 ≤ cod A a s
  | 0, _ => Int.le_refl 0
  | s + 1, h => by
    have h1 := cod_pos s (fun i hi => h i (by omega))
    have h2 := h s (by omega)
    rw [cod_succ]; omega
theorem cod_inj {A B : Int → Int} {a b : Int} : ∀ s t : Nat, (∀ i : Nat, i < s → 1 ≤ A (a + i) ∧ A (a + i) ≤ 255) → (∀ i : Nat, i < t → 1 ≤ B (b + i) ∧ B (b + i) ≤ 255) → cod A a s = cod B b t → s = t ∧ ∀ i : Nat, i < s → A (a + i) = B (b + i)
  | 0, 0, _, _, _ => ⟨rfl, fun i hi => absurd hi (by omega)⟩
  | 0, t + 1, _, hB, e => by
    exfalso
    have h1 := cod_pos t (fun i hi => hB i (by omega))
    have h2 := hB t (by omega)
    rw [cod_succ] at e
    have e : (0 : Int) = 256 * cod B b t + B (b + t) := e
    omega
  | s + 1, 0, hA, _, e => by
    exfalso
    have h1 := cod_pos s (fun i hi => hA i (by omega))
    have h2 := hA s (by omega)
    rw [cod_succ] at e
    have e : 256 * cod A a s + A (a + s) = (0 : Int) := e
    omega
  | s + 1, t + 1, hA, hB, e => by
    have h2 := hA s (by omega)
    have h3 := hB t (by omega)
    rw [cod_succ, cod_succ] at e
    have e1 : cod A a s = cod B b t := by omega
    have e2 : A (a + s) = B (b + t) := by omega
    obtain ⟨h4, h5⟩ := cod_inj s t (fun i hi => hA i (by omega)) (fun i hi => hB i (by omega)) e1
    subst h4
    refine ⟨rfl, fun i hi => ?_⟩
    by_cases q : i = s
    · rw [q]; exact e2
    · exact h5 i (by omega)
theorem cod_eq {A B : Int → Int} {a b : Int} : ∀ s : Nat, (∀ i : Nat, i < s → A (a + i) = B (b + i)) → cod A a s = cod B b s
  | 0, _ => rfl
  | s + 1, h => by rw [cod_succ, cod_succ, cod_eq s (fun i hi => h i (by omega)), h s (by omega)]
/-- the class's own table of words -/
def Wj (j : Nat) (i : Int) : Int := ((bytS.getD j []).getD i.toNat 0).toInt
def lnW : List Nat := [7, 4, 4, 3, 6, 7, 3, 4, 4, 7, 3, 5, 4, 3, 2, 3, 3, 5, 6, 5, 5, 7, 4, 5, 6]
def cw (k : Nat) : Int := cod (Wj 0) (8 * (k : Int)) (lnW.getD k 0)
theorem lnW_rng : ∀ k : Nat, k < 25 → 1 ≤ lnW.getD k 0 ∧ lnW.getD k 0 ≤ 7 := by decide
theorem Ws_let : ∀ k : Nat, k < 25 → ∀ i : Nat, i < 8 → (i < lnW.getD k 0 → 97 ≤ Wj 0 (8 * (k : Int) + (i : Int)) ∧ Wj 0 (8 * (k : Int) + (i : Int)) ≤ 122) ∧ (lnW.getD k 0 ≤ i → Wj 0 (8 * (k : Int) + (i : Int)) = 32) := by decide +kernel
def wiF (c : Int) : Nat → Nat → Int
  | 0, _ => 0
  | f + 1, k => if cw k = c then (k : Int) + 1 else wiF c f (k + 1)
/-- the number of the word of this code; 0: no such word -/
def wiT (c : Int) (k : Nat) : Int := wiF c (25 - k) k
def wi (c : Int) : Int := wiT c 0
theorem wiT_end {c : Int} {k : Nat} (h : 25 ≤ k) : wiT c k = 0 := by unfold wiT; rw [show 25 - k = 0 by omega]; rfl
theorem wiT_yes {c : Int} {k : Nat} (h : k < 25) (e : cw k = c) : wiT c k = (k : Int) + 1 := by
  unfold wiT; rw [show 25 - k = (25 - (k + 1)) + 1 by omega]
  show (if cw k = c then _ else _) = _
  rw [if_pos e]
theorem wiT_no {c : Int} {k : Nat} (h : k < 25) (e : cw k ≠ c) : wiT c k = wiT c (k + 1) := by
  unfold wiT; rw [show 25 - k = (25 - (k + 1)) + 1 by omega]
  show (if cw k = c then _ else _) = _
  rw [if_neg e]
/-- all from q on, s of them, are letters -/
def Lts (P : Int → Int) (q : Int) (s : Nat) : Prop := ∀ i : Nat, i < s → 97 ≤ P (q + i) ∧ P (q + i) ≤ 122
theorem ltr_all {P : Int → Int} {q : Int} : ∀ s : Nat, ltr P q s = (s : Int) → Lts P q s
  | 0, _ => fun i hi => absurd hi (by omega)
  | s + 1, h => by
    have r := ltr_rng P q s
    rw [ltr_succ] at h
    by_cases e : sml (P (q + s)) = true
    · rw [if_pos e] at h
      intro i hi
      by_cases q2 : i = s
      · rw [q2]; unfold sml at e; exact of_decide_eq_true e
      · exact ltr_all s (by omega) i (by omega)
    · rw [if_neg e] at h; exfalso; omega
/-- alike so far -/
def Mp (P : Int → Int) (a q l : Int) : Prop := ∀ i : Nat, (i : Int) < l → Wj 0 (a + i) = P (q + i)
theorem Mp.zero {P : Int → Int} {a q l : Int} (h : l ≤ 0) : Mp P a q l := fun i hi => absurd hi (by omega)
theorem Mp.step {P : Int → Int} {a q l l' x y : Int} (h : Mp P a q l) (h0 : 0 ≤ l) (hx : x = a + l) (hy : y = q + l) (e : Wj 0 x = P y) (hl : l' = l + 1) : Mp P a q l' := by
  intro i hi
  by_cases q2 : (i : Int) = l
  · rw [q2, ← hx, ← hy]; exact e
  · exact h i (by omega)
theorem cw_iff {P : Int → Int} {q : Int} {k s : Nat} (hk : k < 25) (hL : Lts P q s) : cw k = cod P q s ↔ (lnW.getD k 0 = s ∧ ∀ i : Nat, i < s → Wj 0 (8 * (k : Int) + i) = P (q + i)) := by
  have hr := lnW_rng k hk
  have hw := Ws_let k hk
  constructor
  · intro e
    obtain ⟨h1, h2⟩ := cod_inj (lnW.getD k 0) s (fun i hi => by have := (hw i (by omega)).1 hi; omega) (fun i hi => by have := hL i hi; omega) e
    exact ⟨h1, fun i hi => h2 i (by omega)⟩
  · intro ⟨h1, h2⟩
    unfold cw
    rw [h1]; exact cod_eq s h2
theorem wt_yes {P : Int → Int} {q a l b : Int} {s : Nat} (hw : b = wiT (cod P q s) (a / 8).toNat) (h0 : 0 ≤ a) (h8 : a % 8 = 0) (ha : a ≤ 192) (hL : Lts P q s) (h1 : 1 ≤ s) (h7 : s ≤ 7) (hM : Mp P a q l) (hl : l = (s : Int)) {x : Int} (hx : x = a + l) (e : Wj 0 x = 32) : b = a / 8 + 1 := by
  have hk : (a / 8).toNat < 25 := by omega
  have e8 : 8 * (((a / 8).toNat : Nat) : Int) = a := by omega
  have hr := lnW_rng _ hk
  have hv := Ws_let _ hk
  rw [e8] at hv
  have es : lnW.getD (a / 8).toNat 0 = s := by
    rcases Nat.lt_trichotomy (lnW.getD (a / 8).toNat 0) s with q1 | q1 | q1
    · exfalso
      have h2 := (hv (lnW.getD (a / 8).toNat 0) (by omega)).2 (Nat.le_refl _)
      have h3 := hM (lnW.getD (a / 8).toNat 0) (by omega)
      have h4 := hL (lnW.getD (a / 8).toNat 0) q1
      omega
    · exact q1
    · exfalso
      have h2 := (hv s (by omega)).1 q1
      rw [hx, hl] at e
      omega
  have ec : cw (a / 8).toNat = cod P q s := (cw_iff hk hL).mpr ⟨es, fun i hi => by rw [e8]; exact hM i (by omega)⟩
  rw [hw, wiT_yes hk ec]; omega
theorem wt_no1 {P : Int → Int} {q a a' l b : Int} {s : Nat} (hw : b = wiT (cod P q s) (a / 8).toNat) (h0 : 0 ≤ a) (h8 : a % 8 = 0) (ha : a ≤ 192) (hL : Lts P q s) (h2 : 0 ≤ l) (hl : l < (s : Int)) {x y : Int} (hx : x = a + l) (hy : y = q + l) (e : Wj 0 x ≠ P y) (e' : a' = a + 8) : b = wiT (cod P q s) (a' / 8).toNat := by
  have hk : (a / 8).toNat < 25 := by omega
  have e8 : 8 * (((a / 8).toNat : Nat) : Int) = a := by omega
  have en : cw (a / 8).toNat ≠ cod P q s := by
    intro z
    have h3 := ((cw_iff hk hL).mp z).2 l.toNat (by omega)
    rw [e8, show ((l.toNat : Nat) : Int) = l by omega, ← hx, ← hy] at h3
    exact e h3
  rw [hw, wiT_no hk en, show (a' / 8).toNat = (a / 8).toNat + 1 by omega]
theorem wt_no2 {P : Int → Int} {q a a' l b : Int} {s : Nat} (hw : b = wiT (cod P q s) (a / 8).toNat) (h0 : 0 ≤ a) (h8 : a % 8 = 0) (ha : a ≤ 192) (hL : Lts P q s) (h7 : s ≤ 7) (hl : l = (s : Int)) {x : Int} (hx : x = a + l) (e : Wj 0 x ≠ 32) (e' : a' = a + 8) : b = wiT (cod P q s) (a' / 8).toNat := by
  have hk : (a / 8).toNat < 25 := by omega
  have e8 : 8 * (((a / 8).toNat : Nat) : Int) = a := by omega
  have hv := Ws_let _ hk
  rw [e8] at hv
  have en : cw (a / 8).toNat ≠ cod P q s := by
    intro z
    have h3 := ((cw_iff hk hL).mp z).1
    have h4 := (hv s (by omega)).2 (by omega)
    rw [hx, hl] at e
    exact e h4
  rw [hw, wiT_no hk en, show (a' / 8).toNat = (a / 8).toNat + 1 by omega]
theorem byt_rng : ∀ j : Nat, j < 5 → ∀ i : Nat, i < 200 → 0 ≤ ((bytS.getD j []).getD i 0).toInt ∧ ((bytS.getD j []).getD i 0).toInt ≤ 127 := by decide +kernel
theorem lat_char {j : Nat} {i z y r : Int32} (hj : j < 5) (h0 : 0 ≤ i.toInt) (h1 : i.toInt < 200) (hz : z = (bytS.getD j []).getD i.toNatClampNeg 0) (hy : y = z &&& 255) (hr : r = (y.toUInt32 % 65536).toInt32) : r.toInt = Wj j i.toInt := by
  have c := o_cl (x := i) rfl h0
  have b := byt_rng j hj i.toNatClampNeg (by omega)
  rw [← hz] at b
  have hy2 : y.toInt = z.toInt := by rw [hy, and255]; omega
  have hy3 : y = z := o_meq rfl rfl hy2
  have hrr : r.toInt = z.toInt := by
    obtain ⟨k, hk, ek, e2⟩ := o_nat (x := z) rfl b.1
    rw [hr, hy3, e2]
    have hk2 : k < 128 := by omega
    have hd : ∀ k : Nat, k < 128 → ((nI k).toUInt32 % 65536).toInt32 = nI k := by decide +kernel
    rw [hd k hk2]
  rw [hrr]
  unfold Wj
  rw [show i.toInt.toNat = i.toNatClampNeg by omega, ← hz]
/-- the class's run of letters and digits, read -/
def kc (k : Int) : Int := if k = 4 then -1 else k
def Tr (P : Int → Int) (n q kind size value word next : Int) : Prop := next = wh aln P n q ∧ size = next - q ∧ kind = kc (rk P q (rl P n q)) ∧ (kind = 2 → value = vlu P q (rl P n q) ∧ 0 ≤ value) ∧ (kind = 1 → word = wi (wcq P n q)) ∧ (kind ≠ 1 → word = 0)
def Vl (P : Int → Int) (q k letters value : Int) : Prop := letters = 0 → k ≤ 3 → value = vlu P q k.toNat ∧ 0 ≤ value ∧ value < 10 ^ k.toNat
theorem Vl.zero {P : Int → Int} {q k letters value : Int} (hk : k = 0) (hv : value = 0) : Vl P q k letters value := by
  subst hk; subst hv; exact fun _ _ => ⟨rfl, Int.le_refl 0, by decide⟩
theorem Vl.letter {P : Int → Int} {q k letters value : Int} (h : letters ≠ 0) : Vl P q k letters value := fun e => absurd e h
theorem Vl.digit {P : Int → Int} {q p k k' letters c : Int} {v b z1 z2 z3 : Int32} (h : Vl P q k letters v.toInt) (h0 : 0 ≤ k) (hp : p = q + k) (hc : P p = c) (hb : b.toInt = c) (c0 : 48 ≤ c) (c1 : c ≤ 57) (d1 : z1 = v * 10) (d2 : z2 = z1 + b) (d3 : z3 = z2 - 48) (e : k' = k + 1) : Vl P q k' letters z3.toInt := by
  intro hl hk
  obtain ⟨h1, h2, h3⟩ := h hl (by omega)
  have hk3 : k = 0 ∨ k = 1 ∨ k = 2 := by omega
  have h100 : v.toInt < 100 ∧ (10 : Int) ^ k'.toNat = 10 ^ k.toNat * 10 := by
    rw [show k'.toNat = k.toNat + 1 by omega]
    refine ⟨?_, Int.pow_succ ..⟩
    rcases hk3 with q1 | q1 | q1
    · rw [q1] at h3; have h3 : v.toInt < 1 := h3; omega
    · rw [q1] at h3; have h3 : v.toInt < 10 := h3; omega
    · rw [q1] at h3; have h3 : v.toInt < 100 := h3; omega
  have e1 := o_mul d1 rfl (by decide : (10 : Int32).toInt = 10) (by omega) (by omega)
  have e2 := o_add d2 e1 hb (by omega) (by omega)
  have e3 := o_sub d3 e2 (by decide : (48 : Int32).toInt = 48) (by omega) (by omega)
  rw [h100.2, show k'.toNat = k.toNat + 1 by omega, vlu_succ, show q + ((k.toNat : Nat) : Int) = p by omega, hc, ← h1]
  generalize (10 : Int) ^ k.toNat = X at *
  refine ⟨by omega, by omega, by omega⟩
theorem ltr_step {P : Int → Int} {q p k k' l l' c : Int} (h : l = ltr P q k.toNat) (h0 : 0 ≤ k) (hp : p = q + k) (hc : P p = c) (e : ((97 ≤ c ∧ c ≤ 122) ∧ l' = l + 1) ∨ (¬ (97 ≤ c ∧ c ≤ 122) ∧ l' = l)) (hk : k' = k + 1) : l' = ltr P q k'.toNat := by
  rw [show k'.toNat = k.toNat + 1 by omega, ltr_succ, show q + ((k.toNat : Nat) : Int) = p by omega, hc, ← h]
  unfold sml
  rcases e with ⟨a, b⟩ | ⟨a, b⟩
  · rw [decide_eq_true a, if_pos rfl]; exact b
  · rw [decide_eq_false a, if_neg (by decide), Int.add_zero]; exact b
theorem Tr.of {P : Int → Int} {n q kind size value word next letters : Int} (e : wh aln P n q = next) (hs : size = next - q) (h0 : 0 ≤ size) (hl : letters = ltr P q size.toNat) (hv : Vl P q size letters value) (hk : (letters = 0 ∧ size ≤ 3 ∧ kind = 2 ∧ word = 0) ∨ ((letters ≠ 0 ∨ 3 < size) ∧ letters = size ∧ size ≤ 7 ∧ kind = 1 ∧ word = wi (cod P q size.toNat)) ∨ ((letters ≠ 0 ∨ 3 < size) ∧ (letters ≠ size ∨ 7 < size) ∧ kind = -1 ∧ word = 0)) : Tr P n q kind size value word next := by
  have er : rl P n q = size.toNat := by unfold rl; rw [e]; omega
  have ek : kind = kc (rk P q size.toNat) := by
    unfold rk
    rw [← hl]
    rcases hk with ⟨a, b, c, d⟩ | ⟨a, b, c, d, f⟩ | ⟨a, b, c, d⟩
    · rw [if_pos (show letters = 0 ∧ size.toNat ≤ 3 from ⟨a, by omega⟩), c]; rfl
    · rw [if_neg (show ¬ (letters = 0 ∧ size.toNat ≤ 3) by omega), if_pos (show letters = ((size.toNat : Nat) : Int) ∧ size.toNat ≤ 7 from ⟨by omega, by omega⟩), d]; rfl
    · rw [if_neg (show ¬ (letters = 0 ∧ size.toNat ≤ 3) by omega), if_neg (show ¬ (letters = ((size.toNat : Nat) : Int) ∧ size.toNat ≤ 7) by omega), c]; rfl
  refine ⟨e.symm, hs, by rw [er]; exact ek, fun q2 => ?_, fun q2 => ?_, fun q2 => ?_⟩
  · rw [er]
    rcases hk with ⟨a, b, c, d⟩ | ⟨a, b, c, d, f⟩ | ⟨a, b, c, d⟩
    · exact ⟨(hv a b).1, (hv a b).2.1⟩
    · omega
    · omega
  · unfold wcq; rw [er]
    rcases hk with ⟨a, b, c, d⟩ | ⟨a, b, c, d, f⟩ | ⟨a, b, c, d⟩
    · omega
    · exact f
    · omega
  · rcases hk with ⟨a, b, c, d⟩ | ⟨a, b, c, d, f⟩ | ⟨a, b, c, d⟩
    · exact d
    · omega
    · exact d
/-- the class's token fields: by where it begins -/
def Tc (P : Int → Int) (n L q kind place size value word next : Int) : Prop := L ≤ n ∧ q ≤ n ∧ next ≤ n ∧ 0 ≤ place ∧ place ≤ n ∧ place = plq n L q ∧ kind = (if tkq P n L q = 3 then P q else if (L < n ∧ L ≤ q) then 0 else kc (tkq P n L q)) ∧ (next = nxq P n L q ∨ (L ≤ next ∧ L ≤ nxq P n L q)) ∧ (tkq P n L q = 2 → value = nuq P n q ∧ 0 ≤ value) ∧ (tkq P n L q = 1 → word = wi (wcq P n q) ∧ size = (rl P n q : Int) ∧ place + size ≤ n) ∧ (tkq P n L q ≠ 1 → word = 0)
theorem rk_rng (P : Int → Int) (q : Int) (k : Nat) : rk P q k = 2 ∨ rk P q k = 1 ∨ rk P q k = 4 := by
  unfold rk; split
  · exact Or.inl rfl
  · split
    · exact Or.inr (Or.inl rfl)
    · exact Or.inr (Or.inr rfl)
theorem Tc.cast {P : Int → Int} {n L q q' kind place size value word next : Int} (h : Tc P n L q kind place size value word next) (e : q' = q) : Tc P n L q' kind place size value word next := e ▸ h
theorem Tc.done {f : Nat → Int32} {n L q kind place size value word next : Int} (hL : L ≤ n) (hq : q ≤ n) (h0 : 0 ≤ L) (h1 : L ≤ q) (hn : next ≤ n) (h2 : L ≤ next) (ek : kind = 0) (ep : place = L) (ew : word = 0) : Tc (Pk f n) n L q kind place size value word next := by
  subst ek; subst ep; subst ew
  by_cases c : place < n
  · have e1 : tkq (Pk f n) n place q = 4 := by unfold tkq; rw [if_pos ⟨c, h1⟩]
    have e2 : nxq (Pk f n) n place q = q := by unfold nxq; rw [if_pos ⟨c, h1⟩]
    refine ⟨hL, hq, hn, h0, hL, ?_, ?_, Or.inr ⟨h2, by rw [e2]; exact h1⟩, fun h => ?_, fun h => ?_, fun _ => rfl⟩
    · unfold plq; rw [if_pos ⟨c, h1⟩]
    · rw [e1, if_neg (by decide), if_pos ⟨c, h1⟩]
    · rw [e1] at h; exact absurd h (by decide)
    · rw [e1] at h; exact absurd h (by decide)
  · have d : ¬ (place < n ∧ place ≤ q) := by omega
    have hneg : Pk f n q < 0 := by rw [Pk_out (by omega)]; decide
    have e1 : tkq (Pk f n) n place q = 0 := by unfold tkq; rw [if_neg d, if_pos hneg]
    have e2 : nxq (Pk f n) n place q = q := by unfold nxq; rw [if_neg d, if_pos hneg]
    refine ⟨hL, hq, hn, h0, hL, ?_, ?_, Or.inr ⟨h2, by rw [e2]; exact h1⟩, fun h => ?_, fun h => ?_, fun _ => rfl⟩
    · unfold plq; rw [if_neg d]; omega
    · rw [e1, if_neg (by decide), if_neg d]; rfl
    · rw [e1] at h; exact absurd h (by decide)
    · rw [e1] at h; exact absurd h (by decide)
theorem Tc.sign {P : Int → Int} {n L q kind place size value word next c : Int} (hL : L ≤ n) (h0 : 0 ≤ q) (hq : q < L) (hc : P q = c) (c0 : 0 ≤ c) (h3 : ¬ ((97 ≤ c ∧ c ≤ 122) ∨ (48 ≤ c ∧ c ≤ 57))) (ek : ((c = 59 ∨ c = 40 ∨ c = 41 ∨ (60 ≤ c ∧ c ≤ 62)) ∧ kind = c) ∨ (¬ (c = 59 ∨ c = 40 ∨ c = 41 ∨ (60 ≤ c ∧ c ≤ 62)) ∧ kind = -1)) (ep : place = q) (ew : word = 0) (en : next = q + 1) : Tc P n L q kind place size value word next := by
  subst ep; subst ew; subst en
  have d : ¬ (L < n ∧ L ≤ place) := by omega
  have a2 : ¬ (aln (P place) = true) := by unfold aln; rw [hc, decide_eq_false h3]; decide
  have e2 : nxq P n L place = place + 1 := by unfold nxq; rw [if_neg d, if_neg (by omega), if_neg a2]
  have e1 : tkq P n L place = if sgn c = true then 3 else 4 := by unfold tkq; rw [if_neg d, if_neg (by omega), if_neg a2, hc]
  have e3 : tkq P n L place = 3 ∨ tkq P n L place = 4 := by rw [e1]; split; exact Or.inl rfl; exact Or.inr rfl
  refine ⟨hL, by omega, by omega, h0, by omega, ?_, ?_, Or.inl e2.symm, fun h => by omega, fun h => by omega, fun _ => rfl⟩
  · unfold plq; rw [if_neg d]
  · rw [e1]
    unfold sgn
    rcases ek with ⟨a, b⟩ | ⟨a, b⟩
    · rw [decide_eq_true a, if_pos rfl, if_pos rfl, hc]; exact b
    · rw [decide_eq_false a, if_neg (show ¬ ((false : Bool) = true) by decide), if_neg (show ¬ ((4 : Int) = 3) by decide), if_neg d]; exact b
theorem Tc.run {P : Int → Int} {n L q kind place size value word next : Int} (hL : L ≤ n) (h0 : 0 ≤ q) (hq : q < L) (ha : aln (P q) = true) (c0 : 0 ≤ P q) (hT : Tr P n q kind size value word next) (ep : place = q) : Tc P n L q kind place size value word next := by
  subst ep
  have d : ¬ (L < n ∧ L ≤ place) := by omega
  have e2 : nxq P n L place = wh aln P n place := by unfold nxq; rw [if_neg d, if_neg (by omega), if_pos ha]
  have e1 : tkq P n L place = rk P place (rl P n place) := by unfold tkq; rw [if_neg d, if_neg (by omega), if_pos ha]
  obtain ⟨t1, t2, t3, t4, t5, t6⟩ := hT
  have hr := rk_rng P place (rl P n place)
  have hw : wh aln P n place ≤ n := wh_le (by omega)
  have hg : place ≤ wh aln P n place := wh_ge
  have hk2 : rk P place (rl P n place) = 2 → kind = 2 := fun h => by rw [t3, h]; rfl
  have hk1 : rk P place (rl P n place) = 1 → kind = 1 := fun h => by rw [t3, h]; rfl
  have hk4 : rk P place (rl P n place) ≠ 1 → kind ≠ 1 := fun h => by
    rw [t3]; unfold kc; split <;> omega
  refine ⟨hL, by omega, by omega, h0, by omega, ?_, ?_, Or.inl (by rw [e2]; exact t1), fun h => ?_, fun h => ?_, fun h => ?_⟩
  · unfold plq; rw [if_neg d]
  · rw [e1, if_neg (by omega), if_neg d]; exact t3
  · rw [e1] at h
    unfold nuq; rw [if_pos ha]; exact t4 (hk2 h)
  · rw [e1] at h
    refine ⟨t5 (hk1 h), ?_, by omega⟩
    unfold rl; omega
  · rw [e1] at h
    exact t6 (hk4 h)
theorem wh_pos {t : Int → Bool} {P : Int → Int} {n q e : Int} (h : wh t P n q = e) (hq : q < n) (ht : t (P q) = true) : q + 1 ≤ e := by
  rw [← h, wh_step hq ht]; exact wh_ge
