/-! the class's reading of a sentence -/
def PSn (r fk fp fk0 : Int) (res : SnA) (K : Int → Prop) : Prop := (r = 1 ∧ fk = fk0 ∧ ∃ q, K q) ∨ (r = 0 ∧ 1 ≤ fk ∧ res = .inl (fk, fp))
theorem PSn.ok {r fk fp fk0 q : Int} {res : SnA} {K : Int → Prop} (hr : r = 1) (hf : fk = fk0) (k : K q) : PSn r fk fp fk0 res K := Or.inl ⟨hr, hf, q, k⟩
theorem PSn.bad {r fk fp fk0 : Int} {res : SnA} {K : Int → Prop} (hr : r = 0) (hf : 1 ≤ fk) (e : res = .inl (fk, fp)) : PSn r fk fp fk0 res K := Or.inr ⟨hr, hf, e⟩
def RSm (res : SnA) (o fk fp : Int) : Prop := (res = .inr o ∧ fk = 0) ∨ (res = .inl (fk, fp) ∧ 1 ≤ fk)
section
variable {f : Nat → Int32} {n L q kind place size value word next : Int}
theorem Tc.qn (h : Tc (Pk f n) n L q kind place size value word next) : q ≤ n := h.2.1
theorem Tc.sg {c : Int} (h : Tc (Pk f n) n L q kind place size value word next) (e : kind = c) (hc : 40 ≤ c) : tkq (Pk f n) n L q = 3 ∧ nuq (Pk f n) n q = c := by
  have hk := h.kinds
  omega
theorem Tc.nsg {c : Int} (h : Tc (Pk f n) n L q kind place size value word next) (e : kind ≠ c) : ¬ (tkq (Pk f n) n L q = 3 ∧ nuq (Pk f n) n q = c) := by
  have hk := h.kinds
  omega
theorem Tc.sg3 (h : Tc (Pk f n) n L q kind place size value word next) (h1 : 60 ≤ kind) (h2 : kind ≤ 62) : tkq (Pk f n) n L q = 3 ∧ 60 ≤ nuq (Pk f n) n q ∧ nuq (Pk f n) n q ≤ 62 := by
  have hk := h.kinds
  omega
theorem Tc.nsg3 (h : Tc (Pk f n) n L q kind place size value word next) (e : kind < 60 ∨ 62 < kind) : ¬ (tkq (Pk f n) n L q = 3 ∧ 60 ≤ nuq (Pk f n) n q ∧ nuq (Pk f n) n q ≤ 62) := by
  have hk := h.kinds
  omega
theorem Tc.fin (h : Tc (Pk f n) n L q kind place size value word next) (e : kind = 0) (hn : n ≤ L) : tkq (Pk f n) n L q = 0 := by
  have hk := h.kinds
  omega
theorem Tc.nfin (h : Tc (Pk f n) n L q kind place size value word next) (e : ¬ (kind = 0 ∧ n ≤ L)) : tkq (Pk f n) n L q ≠ 0 := by
  have hk := h.kinds
  intro z
  have hp := h.pl
  have h4 := h.2.2.2.1
  have h2 := h.2.1
  have hno : ¬ (L < n ∧ L ≤ q) := by
    intro c
    have : tkq (Pk f n) n L q = 4 := by unfold tkq; rw [if_pos c]
    omega
  unfold plq at hp
  rw [if_neg hno] at hp
  have hz := tk0 z (by omega)
  omega
end
theorem whF_all {t : Int → Bool} {P : Int → Int} : ∀ (k : Nat) (p i : Int), p ≤ i → i < whF t P k p → t (P i) = true
  | 0, p, i, h1, h2 => by
    have e : whF t P 0 p = p := rfl
    omega
  | k + 1, p, i, h1, h2 => by
    have e : whF t P (k + 1) p = if t (P p) = true then whF t P k (p + 1) else p := rfl
    rw [e] at h2
    by_cases c : t (P p) = true
    · rw [if_pos c] at h2
      by_cases z : i = p
      · rw [z]; exact c
      · exact whF_all k (p + 1) i (by omega) h2
    · rw [if_neg c] at h2; omega
theorem ltr_none {P : Int → Int} {q : Int} : ∀ k : Nat, ltr P q k = 0 → ∀ i : Nat, i < k → sml (P (q + i)) = false
  | 0, _, i, hi => absurd hi (by omega)
  | k + 1, h, i, hi => by
    have h0 := ltr_rng P q k
    rw [ltr_succ] at h
    by_cases c : sml (P (q + k)) = true
    · rw [if_pos c] at h; omega
    · rw [if_neg c] at h
      by_cases z : i = k
      · rw [z]; exact eq_false_of_ne_true c
      · exact ltr_none k (by omega) i (by omega)
theorem nuq_999 {P : Int → Int} {n L q : Int} (h : tkq P n L q = 2) : 0 ≤ nuq P n q ∧ nuq P n q ≤ 999 := by
  have hr := rk_rng P q (rl P n q)
  unfold tkq at h
  split at h
  · exact absurd h (by decide)
  · split at h
    · exact absurd h (by decide)
    · split at h
      · rename_i ha
        have hk : ltr P q (rl P n q) = 0 ∧ rl P n q ≤ 3 := by
          unfold rk at h
          split at h
          · rename_i hc; exact hc
          · split at h
            · exact absurd h (by decide)
            · exact absurd h (by decide)
        have hd : ∀ i : Nat, i < rl P n q → 48 ≤ P (q + i) ∧ P (q + i) ≤ 57 := by
          intro i hi
          have h1 : aln (P (q + i)) = true := by
            have hw : q + (i : Int) < wh aln P n q := by
              have := wh_ge (t := aln) (P := P) (n := n) (p := q)
              unfold rl at hi; omega
            exact whF_all _ q (q + i) (by omega) hw
          have h2 := ltr_none _ hk.1 i hi
          have h3 := of_decide_eq_true h1
          have h4 := of_decide_eq_false h2
          omega
        unfold nuq
        rw [if_pos ha]
        obtain ⟨_, h3⟩ := hk
        generalize rl P n q = k at hd h3 ⊢
        match k, hd, h3 with
        | 0, _, _ =>
          have e : vlu P q 0 = 0 := rfl
          rw [e]; omega
        | 1, hd, _ =>
          have a := hd 0 (by decide)
          have e : vlu P q 1 = 10 * 0 + P (q + ((0 : Nat) : Int)) - 48 := rfl
          rw [e]; omega
        | 2, hd, _ =>
          have a := hd 0 (by decide)
          have b := hd 1 (by decide)
          have e : vlu P q 2 = 10 * (10 * 0 + P (q + ((0 : Nat) : Int)) - 48) + P (q + ((1 : Nat) : Int)) - 48 := rfl
          rw [e]; omega
        | 3, hd, _ =>
          have a := hd 0 (by decide)
          have b := hd 1 (by decide)
          have c := hd 2 (by decide)
          have e : vlu P q 3 = 10 * (10 * (10 * 0 + P (q + ((0 : Nat) : Int)) - 48) + P (q + ((1 : Nat) : Int)) - 48) + P (q + ((2 : Nat) : Int)) - 48 := rfl
          rw [e]; omega
        | k + 4, _, h3 => omega
      · split at h
        · exact absurd h (by decide)
        · exact absurd h (by decide)
theorem sTak_tk {P : Int → Int} {n L lo hi q q' : Int} (h : sTak P n L lo hi q = .inr q') : tkq P n L q = 2 := by
  unfold sTak at h
  split at h
  · assumption
  · cases h
theorem sTak_999 {P : Int → Int} {n L q fk fp : Int} (h : sTak P n L 0 999 q = .inl (fk, fp)) : tkq P n L q ≠ 2 ∧ fk = 1 ∧ fp = plq n L q := by
  unfold sTak at h
  split at h
  · rename_i e
    rw [if_pos (nuq_999 e)] at h
    cases h
  · rename_i e
    cases h
    exact ⟨e, rfl, rfl⟩
theorem sSgn_t {P : Int → Int} {n L c q q' : Int} (h : sSgn P n L c q = .inr q') : tkq P n L q = 3 ∧ nuq P n q = c := by
  unfold sSgn at h
  split at h
  · assumption
  · cases h
theorem sSgn_f {P : Int → Int} {n L c q fk fp : Int} (h : sSgn P n L c q = .inl (fk, fp)) : ¬ (tkq P n L q = 3 ∧ nuq P n q = c) ∧ fk = 1 ∧ fp = plq n L q := by
  unfold sSgn at h
  split at h
  · cases h
  · rename_i e
    cases h
    exact ⟨e, rfl, rfl⟩
theorem sLok_at {P : Int → Int} {n L : Int} {nm : Nat → Int64} {a m : Nat} {q q' : Int} (h : sLok P n L nm a m q = .inr q') : q' = q := sLok_q h
/-! the model's -/
def bw (x : Int) : Bool := decide (x = 1)
theorem bw_yes {x : Int} (h : x = 1) : bw x = true := decide_eq_true h
theorem bw_no {x : Int} (h : x ≠ 1) : bw x = false := decide_eq_false h
def PSm (r f fa : Int) (res : SnA) (K : Int → Prop) : Prop := (r = 1 ∧ ∃ q, K q) ∨ (r = 0 ∧ res = .inl (f, fa))
theorem PSm.ok {r f fa q : Int} {res : SnA} {K : Int → Prop} (hr : r = 1) (k : K q) : PSm r f fa res K := Or.inl ⟨hr, q, k⟩
theorem PSm.bad {r f fa : Int} {res : SnA} {K : Int → Prop} (hr : r = 0) (e : res = .inl (f, fa)) : PSm r f fa res K := Or.inr ⟨hr, e⟩
theorem dpt_rng (f : Nat → Int32) : ∀ k : Nat, 0 ≤ dpt (stL f k) ∧ dpt (stL f k) ≤ (k : Int)
  | 0 => ⟨Int.le_refl 0, Int.le_refl 0⟩
  | k + 1 => by
    have h := dpt_rng f k
    have e : stL f (k + 1) = (f k).toInt :: stL f k := rfl
    rw [e]
    by_cases c : (f k).toInt = 21 ∨ (f k).toInt = 22
    · rw [dpt_no c]; omega
    · rw [dpt_ct c]; omega
theorem jns_top {a : Int} {t : List Int} : ∀ l : List Int, a :: t = jns true l → ¬ (a = 21 ∨ a = 22)
  | [], h => by
    have e : jns true [] = [] := rfl
    rw [e] at h
    cases h
  | b :: l, h => by
    by_cases c : b = 21 ∨ (b = 22 ∧ true = true)
    · rw [jns_pop c] at h; exact jns_top l h
    · rw [jns_ne c] at h
      cases h
      intro z
      exact c (z.elim (fun y => Or.inl y) (fun y => Or.inr ⟨y, rfl⟩))
def LfR (r w : Int) : Prop := (w = 18 ∧ r = 0) ∨ (w = 19 ∧ r = 1) ∨ (w = 20 ∧ r = 2) ∨ (w = 3 ∧ r = 3) ∨ (w = 21 ∧ r = 4) ∨ (w = 22 ∧ r = 5) ∨ (w = 23 ∧ r = 6) ∨ (w = 24 ∧ r = 7) ∨ (w = 25 ∧ r = 8) ∨ (r = -1 ∧ ¬ (w = 3 ∨ (18 ≤ w ∧ w ≤ 25)))
section
variable {P : Int → Int} {n L q tok at_ num p : Int} {w : Int64}
theorem Tm.qp (t : Tm P n L q tok at_ num w p) : q ≤ p := by
  rw [t.2.2.1]; exact nxq_ge
theorem Tm.sg (t : Tm P n L q tok at_ num w p) : (tok = 3 ∧ tkq P n L q = 3 ∧ num = nuq P n q) ∨ (tok ≠ 3 ∧ tkq P n L q ≠ 3) := by
  have h1 := t.1
  by_cases c : tok = 3
  · exact Or.inl ⟨c, by omega, t.2.2.2.1 (Or.inr c)⟩
  · exact Or.inr ⟨c, by omega⟩
theorem Tm.tk (t : Tm P n L q tok at_ num w p) : tok = tkq P n L q := t.1
theorem Tm.pl (t : Tm P n L q tok at_ num w p) : at_ = plq n L q := t.2.1
end
theorem stL_cons {f : Nat → Int32} {t : Int32} {X : List Int} (h : 0 < t.toInt) (e : stL f t.toInt.toNat = X) : (f (t.toInt.toNat - 1)).toInt :: stL f (t.toInt.toNat - 1) = X := by
  rw [← e]
  obtain ⟨k, hk⟩ : ∃ k, t.toInt.toNat = k + 1 := ⟨t.toInt.toNat - 1, by omega⟩
  rw [hk]
  first
    | done
    | rfl
theorem sen_same {f g : Nat → Int32} {n m b : Int} {s : Nat → Int32} {nm : Nat → Int64} {w h l p i d : Int} {r r' : Int32} (tp : Tp f g n) (e : m = n) (t : Ts w h l p i d b s) (x : r.toInt = anSn (mach (Pk f n) n (lm n 200) nm b.toNat false [] (wh blk (Pk f n) n 0) 0)) (y : r'.toInt = anSn (mach (Pk g m) m (lm m 200) nm (s 0).toInt.toNat false [] (wh blk (Pk g m) m 0) 0)) : r'.toInt = r.toInt := by
  subst e
  rw [x, y, t.2.2.2.2.2.2, Pk_tp tp]
