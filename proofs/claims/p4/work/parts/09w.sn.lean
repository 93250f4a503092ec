/-! a sentence: over the tokens, with a stack (20 not, 21 and, 22 or, 23 a bracket) -/
def nts : List Int → List Int
  | [] => []
  | a :: t => if a = 20 then nts t else a :: t
def jns (o : Bool) : List Int → List Int
  | [] => []
  | a :: t => if a = 21 ∨ (a = 22 ∧ o = true) then jns o t else a :: t
def dpt : List Int → Int
  | [] => 0
  | a :: t => dpt t + (if a = 21 ∨ a = 22 then 0 else 1)
theorem nts_nt {t : List Int} : nts (20 :: t) = nts t := by rw [nts, if_pos rfl]
theorem nts_ne {a : Int} {t : List Int} (h : a ≠ 20) : nts (a :: t) = a :: t := by rw [nts, if_neg h]
theorem jns_pop {o : Bool} {a : Int} {t : List Int} (h : a = 21 ∨ (a = 22 ∧ o = true)) : jns o (a :: t) = jns o t := by rw [jns, if_pos h]
theorem jns_ne {o : Bool} {a : Int} {t : List Int} (h : ¬ (a = 21 ∨ (a = 22 ∧ o = true))) : jns o (a :: t) = a :: t := by rw [jns, if_neg h]
theorem dpt_ct {a : Int} {t : List Int} (h : ¬ (a = 21 ∨ a = 22)) : dpt (a :: t) = dpt t + 1 := by rw [dpt, if_neg h]
theorem dpt_no {a : Int} {t : List Int} (h : a = 21 ∨ a = 22) : dpt (a :: t) = dpt t := by
  have e : dpt (a :: t) = dpt t + (if a = 21 ∨ a = 22 then 0 else 1) := rfl
  rw [if_pos h] at e
  omega
theorem jns_len (o : Bool) : ∀ l : List Int, (jns o l).length ≤ l.length
  | [] => Nat.le_refl 0
  | a :: l => by
    have h := jns_len o l
    by_cases c : a = 21 ∨ (a = 22 ∧ o = true)
    · rw [jns_pop c]; exact Nat.le_succ_of_le h
    · rw [jns_ne c]; exact Nat.le_refl _
theorem jns_f : ∀ {l : List Int}, jns true l = l → jns false l = l
  | [], _ => rfl
  | a :: l, h => by
    by_cases c : a = 21 ∨ (a = 22 ∧ true = true)
    · rw [jns_pop c] at h
      have h1 := jns_len true l
      rw [h] at h1
      exact absurd h1 (Nat.not_succ_le_self _)
    · exact jns_ne (fun z => c (z.elim (fun y => Or.inl y) (fun y => absurd y.2 (by decide))))
abbrev SnC := Bool × List Int × Int × Int
abbrev SnS := (Int × Int) ⊕ (Int ⊕ SnC)
abbrev SnA := (Int × Int) ⊕ Int
section
variable (P : Int → Int) (n L : Int) (nm : Nat → Int64) (m : Nat)
def sOp (σ : List Int) (q o : Int) : SnS :=
  if wq P n L q = 17 ∨ (tkq P n L q = 3 ∧ nuq P n q = 40) ∨ wq P n L q = 3 ∨ (18 ≤ wq P n L q ∧ wq P n L q ≤ 25) then
    (if o = 20 ∨ 8 < 1 + dpt σ then .inl (4, plq n L q)
    else if wq P n L q = 17 then .inr (.inr (false, 20 :: σ, av P n L q, o + 1))
    else if tkq P n L q = 3 ∧ nuq P n q = 40 then .inr (.inr (false, 23 :: σ, av P n L q, o + 1))
    else if wq P n L q = 22 then (match sLok P n L nm 0 m (av P n L q) with
      | .inl e => .inl e
      | .inr q1 => .inr (.inr (true, σ, av P n L q1, o + 1)))
    else if wq P n L q < 22 then .inr (.inr (true, σ, av P n L q, o + 1))
    else if tkq P n L (av P n L q) = 3 ∧ 60 ≤ nuq P n (av P n L q) ∧ nuq P n (av P n L q) ≤ 62 then
      (if tkq P n L (av P n L (av P n L q)) = 2 then .inr (.inr (true, σ, av P n L (av P n L (av P n L q)), o + 1)) else .inl (1, plq n L (av P n L (av P n L q))))
    else .inl (1, plq n L (av P n L q)))
  else .inl (1, plq n L q)
def sBh (σ : List Int) (q o : Int) : SnS :=
  if tkq P n L q = 0 then (if jns true (nts σ) = [] then .inr (.inl o) else .inl (1, plq n L q))
  else if wq P n L q = 16 then .inr (.inr (false, 21 :: jns false (nts σ), av P n L q, o))
  else if wq P n L q = 15 then .inr (.inr (false, 22 :: jns true (nts σ), av P n L q, o))
  else if tkq P n L q = 3 ∧ nuq P n q = 41 ∧ jns true (nts σ) ≠ [] then .inr (.inr (true, (jns true (nts σ)).tail, av P n L q, o))
  else .inl (1, plq n L q)
def stp (w : Bool) (σ : List Int) (q o : Int) : SnS := if w = true then sBh P n L σ q o else sOp P n L nm m σ q o
def mach (w : Bool) (σ : List Int) (q o : Int) : SnA :=
  match stp P n L nm m w σ q o with
  | .inl e => .inl e
  | .inr (.inl o') => .inr o'
  | .inr (.inr (w', σ', q', o')) => if _h : q < q' ∧ q < 1000 then mach w' σ' q' o' else .inl (0, 0)
termination_by (1000 - q).toNat
decreasing_by omega
end
section
variable {P : Int → Int} {n L : Int} {nm : Nat → Int64} {m : Nat} {w w' : Bool} {σ σ' : List Int} {q q' q1 o o' : Int}
theorem mach_no {a : Int × Int} (e : stp P n L nm m w σ q o = .inl a) : mach P n L nm m w σ q o = .inl a := by
  rw [mach, e]
theorem mach_end {a : Int} (e : stp P n L nm m w σ q o = .inr (.inl a)) : mach P n L nm m w σ q o = .inr a := by
  rw [mach, e]
theorem mach_go (e : stp P n L nm m w σ q o = .inr (.inr (w', σ', q', o'))) (h1 : q < q') (h2 : q < 1000) : mach P n L nm m w σ q o = mach P n L nm m w' σ' q' o' := by
  rw [mach, e]
  exact dif_pos ⟨h1, h2⟩
theorem mach_bad (e : stp P n L nm m w σ q o = .inr (.inr (w', σ', q', o'))) (h : ¬ (q < q' ∧ q < 1000)) : mach P n L nm m w σ q o = .inl (0, 0) := by
  rw [mach, e]
  exact dif_neg h
theorem mach_same (h : sBh P n L σ q o = sBh P n L σ' q o) : mach P n L nm m true σ q o = mach P n L nm m true σ' q o := by
  have e : stp P n L nm m true σ q o = stp P n L nm m true σ' q o := h
  cases hs : stp P n L nm m true σ' q o with
  | inl a => rw [mach_no (e.trans hs), mach_no hs]
  | inr c =>
    cases c with
    | inl a => rw [mach_end (e.trans hs), mach_end hs]
    | inr c =>
      obtain ⟨w2, σ2, q2, o2⟩ := c
      by_cases hq : q < q2 ∧ q < 1000
      · rw [mach_go (e.trans hs) hq.1 hq.2, mach_go hs hq.1 hq.2]
      · rw [mach_bad (e.trans hs) hq, mach_bad hs hq]
theorem mach_nt : mach P n L nm m true (20 :: σ) q o = mach P n L nm m true σ q o := mach_same (by unfold sBh; rw [nts_nt])
theorem mach_an (h : nts σ = σ) : mach P n L nm m true (21 :: σ) q o = mach P n L nm m true σ q o :=
  mach_same (by unfold sBh; rw [nts_ne (a := 21) (by decide), jns_pop (o := true) (a := 21) (Or.inl rfl), jns_pop (o := false) (a := 21) (Or.inl rfl), h])
theorem mach_or (h : nts σ = σ) (hw : wq P n L q ≠ 16) : mach P n L nm m true (22 :: σ) q o = mach P n L nm m true σ q o :=
  mach_same (by unfold sBh; rw [nts_ne (a := 22) (by decide), jns_pop (o := true) (a := 22) (Or.inr ⟨rfl, rfl⟩), h, if_neg hw, if_neg hw])
theorem wq_tk (h : wq P n L q ≠ 0) : tkq P n L q = 1 := by
  unfold wq at h
  by_cases c : tkq P n L q = 1
  · exact c
  · rw [if_neg c] at h; exact absurd rfl h
theorem av_lt {f : Nat → Int32} (h : tkq (Pk f n) n L q ≠ 0) (h4 : tkq (Pk f n) n L q ≠ 4) : q < av (Pk f n) n L q := by
  have c1 : ¬ (L < n ∧ L ≤ q) := fun c => h4 (by unfold tkq; rw [if_pos c])
  have c2 : ¬ (Pk f n q < 0) := fun c => h (by unfold tkq; rw [if_neg c1, if_pos c])
  have hn : q < n := Pk_pos (f := f) (n := n) (k := q) (by omega)
  have h1 : q < nxq (Pk f n) n L q := by
    unfold nxq
    rw [if_neg c1, if_neg c2]
    by_cases ha : aln (Pk f n q) = true
    · rw [if_pos ha]; have := wh_pos (e := wh aln (Pk f n) n q) rfl hn ha; omega
    · rw [if_neg ha]; omega
  have h2 := wh_ge (t := blk) (P := Pk f n) (n := n) (p := nxq (Pk f n) n L q)
  unfold av
  omega
end
section
variable {f : Nat → Int32} {n L : Int} {nm : Nat → Int64} {m : Nat} {σ τ : List Int} {q q1 o o' fk fp : Int}
theorem mach_and (hw : wq (Pk f n) n L q = 16) (h1 : nts σ = σ) (h2 : jns false σ = σ) (h9 : q < 1000) : mach (Pk f n) n L nm m true σ q o = mach (Pk f n) n L nm m false (21 :: σ) (av (Pk f n) n L q) o := by
  have ht := wq_tk (P := Pk f n) (n := n) (L := L) (q := q) (by omega)
  refine mach_go (w' := false) (σ' := 21 :: σ) ?_ (av_lt (by omega) (by omega)) h9
  show sBh (Pk f n) n L σ q o = _
  unfold sBh; rw [if_neg (by omega), if_pos hw, h1, h2]
theorem mach_orr (hw : wq (Pk f n) n L q = 15) (h1 : nts σ = σ) (h2 : jns true σ = σ) (h9 : q < 1000) : mach (Pk f n) n L nm m true σ q o = mach (Pk f n) n L nm m false (22 :: σ) (av (Pk f n) n L q) o := by
  have ht := wq_tk (P := Pk f n) (n := n) (L := L) (q := q) (by omega)
  refine mach_go (w' := false) (σ' := 22 :: σ) ?_ (av_lt (by omega) (by omega)) h9
  show sBh (Pk f n) n L σ q o = _
  unfold sBh; rw [if_neg (by omega), if_neg (by omega), if_pos hw, h1, h2]
theorem mach_cls (ht : tkq (Pk f n) n L q = 3) (hn : nuq (Pk f n) n q = 41) (h9 : q < 1000) : mach (Pk f n) n L nm m true (23 :: σ) q o = mach (Pk f n) n L nm m true σ (av (Pk f n) n L q) o := by
  have hw : wq (Pk f n) n L q = 0 := by unfold wq; rw [if_neg (by omega)]
  refine mach_go (w' := true) (σ' := σ) ?_ (av_lt (by omega) (by omega)) h9
  show sBh (Pk f n) n L (23 :: σ) q o = _
  unfold sBh
  rw [nts_ne (a := 23) (by decide), jns_ne (o := true) (a := 23) (by decide), if_neg (by omega), if_neg (by omega), if_neg (by omega), if_pos ⟨ht, hn, List.cons_ne_nil _ _⟩]
  first
    | done
    | rfl
theorem mach_cno (h15 : wq (Pk f n) n L q ≠ 15) (h16 : wq (Pk f n) n L q ≠ 16) (h : ¬ (tkq (Pk f n) n L q = 3 ∧ nuq (Pk f n) n q = 41)) (hf : fk = 1) (hp : fp = plq n L q) : mach (Pk f n) n L nm m true (23 :: σ) q o = .inl (fk, fp) := by
  refine mach_no ?_
  show sBh (Pk f n) n L (23 :: σ) q o = _
  unfold sBh
  rw [nts_ne (a := 23) (by decide), jns_ne (o := true) (a := 23) (by decide), hf, hp]
  by_cases c : tkq (Pk f n) n L q = 0
  · rw [if_pos c, if_neg (List.cons_ne_nil _ _)]
  · have hz : ¬ (tkq (Pk f n) n L q = 3 ∧ nuq (Pk f n) n q = 41 ∧ (23 :: σ : List Int) ≠ []) := fun z => h ⟨z.1, z.2.1⟩
    rw [if_neg c, if_neg h16, if_neg h15, if_neg hz]
theorem mach_fin (h : tkq (Pk f n) n L q = 0) : mach (Pk f n) n L nm m true [] q o = .inr o := by
  refine mach_end ?_
  show sBh (Pk f n) n L [] q o = _
  unfold sBh
  exact (if_pos h).trans (if_pos (show jns true (nts []) = [] from rfl))
theorem mach_fno (h0 : tkq (Pk f n) n L q ≠ 0) (h15 : wq (Pk f n) n L q ≠ 15) (h16 : wq (Pk f n) n L q ≠ 16) (hf : fk = 1) (hp : fp = plq n L q) : mach (Pk f n) n L nm m true [] q o = .inl (fk, fp) := by
  refine mach_no ?_
  show sBh (Pk f n) n L [] q o = _
  unfold sBh
  have hz : ¬ (tkq (Pk f n) n L q = 3 ∧ nuq (Pk f n) n q = 41 ∧ jns true (nts []) ≠ []) := fun z => z.2.2 rfl
  rw [if_neg h0, if_neg h16, if_neg h15, if_neg hz, hf, hp]
theorem mach_o1 (hb : ¬ (wq (Pk f n) n L q = 17 ∨ (tkq (Pk f n) n L q = 3 ∧ nuq (Pk f n) n q = 40) ∨ wq (Pk f n) n L q = 3 ∨ (18 ≤ wq (Pk f n) n L q ∧ wq (Pk f n) n L q ≤ 25))) (hf : fk = 1) (hp : fp = plq n L q) : mach (Pk f n) n L nm m false σ q o = .inl (fk, fp) := by
  refine mach_no ?_
  show sOp (Pk f n) n L nm m σ q o = _
  unfold sOp
  rw [if_neg hb, hf, hp]
theorem mach_o4 (hb : wq (Pk f n) n L q = 17 ∨ (tkq (Pk f n) n L q = 3 ∧ nuq (Pk f n) n q = 40) ∨ wq (Pk f n) n L q = 3 ∨ (18 ≤ wq (Pk f n) n L q ∧ wq (Pk f n) n L q ≤ 25)) (h4 : o = 20 ∨ 8 < 1 + dpt σ) (hf : fk = 4) (hp : fp = plq n L q) : mach (Pk f n) n L nm m false σ q o = .inl (fk, fp) := by
  refine mach_no ?_
  show sOp (Pk f n) n L nm m σ q o = _
  unfold sOp
  rw [if_pos hb, if_pos h4, hf, hp]
theorem mach_on (hw : wq (Pk f n) n L q = 17) (ho : o ≠ 20) (hd : 1 + dpt σ ≤ 8) (e : o' = o + 1) (h9 : q < 1000) : mach (Pk f n) n L nm m false σ q o = mach (Pk f n) n L nm m false (20 :: σ) (av (Pk f n) n L q) o' := by
  subst e
  have ht := wq_tk (P := Pk f n) (n := n) (L := L) (q := q) (by omega)
  refine mach_go (w' := false) (σ' := 20 :: σ) ?_ (av_lt (by omega) (by omega)) h9
  show sOp (Pk f n) n L nm m σ q o = _
  unfold sOp
  rw [if_pos (Or.inl hw), if_neg (by omega), if_pos hw]
theorem mach_oo (ht : tkq (Pk f n) n L q = 3) (hn : nuq (Pk f n) n q = 40) (ho : o ≠ 20) (hd : 1 + dpt σ ≤ 8) (e : o' = o + 1) (h9 : q < 1000) : mach (Pk f n) n L nm m false σ q o = mach (Pk f n) n L nm m false (23 :: σ) (av (Pk f n) n L q) o' := by
  subst e
  have hw : wq (Pk f n) n L q = 0 := by unfold wq; rw [if_neg (by omega)]
  refine mach_go (w' := false) (σ' := 23 :: σ) ?_ (av_lt (by omega) (by omega)) h9
  show sOp (Pk f n) n L nm m σ q o = _
  unfold sOp
  rw [if_pos (Or.inr (Or.inl ⟨ht, hn⟩)), if_neg (by omega), if_neg (by omega), if_pos ⟨ht, hn⟩]
theorem mach_ol (hw : wq (Pk f n) n L q = 3 ∨ (18 ≤ wq (Pk f n) n L q ∧ wq (Pk f n) n L q ≤ 21)) (ho : o ≠ 20) (hd : 1 + dpt σ ≤ 8) (e : o' = o + 1) (h9 : q < 1000) : mach (Pk f n) n L nm m false σ q o = mach (Pk f n) n L nm m true σ (av (Pk f n) n L q) o' := by
  subst e
  have ht := wq_tk (P := Pk f n) (n := n) (L := L) (q := q) (by omega)
  refine mach_go (w' := true) (σ' := σ) ?_ (av_lt (by omega) (by omega)) h9
  show sOp (Pk f n) n L nm m σ q o = _
  unfold sOp
  rw [if_pos (by omega), if_neg (by omega), if_neg (by omega), if_neg (by omega), if_neg (by omega), if_pos (by omega)]
theorem mach_fe {a : Int × Int} (hw : wq (Pk f n) n L q = 22) (ho : o ≠ 20) (hd : 1 + dpt σ ≤ 8) (e : sLok (Pk f n) n L nm 0 m (av (Pk f n) n L q) = .inl a) : mach (Pk f n) n L nm m false σ q o = .inl a := by
  refine mach_no ?_
  have ht := wq_tk (P := Pk f n) (n := n) (L := L) (q := q) (by omega)
  show sOp (Pk f n) n L nm m σ q o = _
  unfold sOp
  rw [if_pos (by omega), if_neg (by omega), if_neg (by omega), if_neg (by omega), if_pos hw, e]
theorem mach_of (hw : wq (Pk f n) n L q = 22) (ho : o ≠ 20) (hd : 1 + dpt σ ≤ 8) (e : o' = o + 1) (h9 : q < 1000) (ex : sLok (Pk f n) n L nm 0 m (av (Pk f n) n L q) = .inr q1) (e1 : q1 = av (Pk f n) n L q) : mach (Pk f n) n L nm m false σ q o = mach (Pk f n) n L nm m true σ (av (Pk f n) n L q1) o' := by
  subst e
  have ht := wq_tk (P := Pk f n) (n := n) (L := L) (q := q) (by omega)
  have h1 := av_lt (f := f) (n := n) (L := L) (q := q) (by omega) (by omega)
  have h2 := av_ge (P := Pk f n) (n := n) (L := L) (q := q1)
  refine mach_go (w' := true) (σ' := σ) ?_ (by omega) h9
  show sOp (Pk f n) n L nm m σ q o = _
  unfold sOp
  rw [if_pos (by omega), if_neg (by omega), if_neg (by omega), if_neg (by omega), if_pos hw, ex]
theorem mach_os1 (hw : 23 ≤ wq (Pk f n) n L q) (ho : o ≠ 20) (hd : 1 + dpt σ ≤ 8) (h : ¬ (tkq (Pk f n) n L (av (Pk f n) n L q) = 3 ∧ 60 ≤ nuq (Pk f n) n (av (Pk f n) n L q) ∧ nuq (Pk f n) n (av (Pk f n) n L q) ≤ 62)) (hf : fk = 1) (hp : fp = plq n L (av (Pk f n) n L q)) : mach (Pk f n) n L nm m false σ q o = .inl (fk, fp) := by
  have hr := wq_rng (Pk f n) n L q
  have ht := wq_tk (P := Pk f n) (n := n) (L := L) (q := q) (by omega)
  refine mach_no ?_
  show sOp (Pk f n) n L nm m σ q o = _
  unfold sOp
  rw [if_pos (by omega), if_neg (by omega), if_neg (by omega), if_neg (by omega), if_neg (by omega), if_neg (by omega), if_neg h, hf, hp]
theorem mach_os2 (hw : 23 ≤ wq (Pk f n) n L q) (ho : o ≠ 20) (hd : 1 + dpt σ ≤ 8) (h : tkq (Pk f n) n L (av (Pk f n) n L q) = 3 ∧ 60 ≤ nuq (Pk f n) n (av (Pk f n) n L q) ∧ nuq (Pk f n) n (av (Pk f n) n L q) ≤ 62) (h2 : tkq (Pk f n) n L (av (Pk f n) n L (av (Pk f n) n L q)) ≠ 2) (hf : fk = 1) (hp : fp = plq n L (av (Pk f n) n L (av (Pk f n) n L q))) : mach (Pk f n) n L nm m false σ q o = .inl (fk, fp) := by
  have hr := wq_rng (Pk f n) n L q
  have ht := wq_tk (P := Pk f n) (n := n) (L := L) (q := q) (by omega)
  refine mach_no ?_
  show sOp (Pk f n) n L nm m σ q o = _
  unfold sOp
  rw [if_pos (by omega), if_neg (by omega), if_neg (by omega), if_neg (by omega), if_neg (by omega), if_neg (by omega), if_pos h, if_neg h2, hf, hp]
theorem mach_og (hw : 23 ≤ wq (Pk f n) n L q) (ho : o ≠ 20) (hd : 1 + dpt σ ≤ 8) (h : tkq (Pk f n) n L (av (Pk f n) n L q) = 3 ∧ 60 ≤ nuq (Pk f n) n (av (Pk f n) n L q) ∧ nuq (Pk f n) n (av (Pk f n) n L q) ≤ 62) (h2 : tkq (Pk f n) n L (av (Pk f n) n L (av (Pk f n) n L q)) = 2) (e : o' = o + 1) (h9 : q < 1000) : mach (Pk f n) n L nm m false σ q o = mach (Pk f n) n L nm m true σ (av (Pk f n) n L (av (Pk f n) n L (av (Pk f n) n L q))) o' := by
  subst e
  have hr := wq_rng (Pk f n) n L q
  have ht := wq_tk (P := Pk f n) (n := n) (L := L) (q := q) (by omega)
  have h1 := av_lt (f := f) (n := n) (L := L) (q := q) (by omega) (by omega)
  have h3 := av_ge (P := Pk f n) (n := n) (L := L) (q := av (Pk f n) n L q)
  have h4 := av_ge (P := Pk f n) (n := n) (L := L) (q := av (Pk f n) n L (av (Pk f n) n L q))
  refine mach_go (w' := true) (σ' := σ) ?_ (by omega) h9
  show sOp (Pk f n) n L nm m σ q o = _
  unfold sOp
  rw [if_pos (by omega), if_neg (by omega), if_neg (by omega), if_neg (by omega), if_neg (by omega), if_neg (by omega), if_pos h, if_pos h2]
/-- the model's own step behind an operand -/
theorem mach_mand {s1 : List Int} (hw : wq (Pk f n) n L q = 16) (e : s1 = jns false (nts σ)) (h9 : q < 1000) : mach (Pk f n) n L nm m true σ q o = mach (Pk f n) n L nm m false (21 :: s1) (av (Pk f n) n L q) o := by
  subst e
  have ht := wq_tk (P := Pk f n) (n := n) (L := L) (q := q) (by omega)
  refine mach_go (w' := false) (σ' := 21 :: jns false (nts σ)) ?_ (av_lt (by omega) (by omega)) h9
  show sBh (Pk f n) n L σ q o = _
  unfold sBh; rw [if_neg (by omega), if_pos hw]
theorem mach_mor {s1 : List Int} (hw : wq (Pk f n) n L q = 15) (e : s1 = jns true (nts σ)) (h9 : q < 1000) : mach (Pk f n) n L nm m true σ q o = mach (Pk f n) n L nm m false (22 :: s1) (av (Pk f n) n L q) o := by
  subst e
  have ht := wq_tk (P := Pk f n) (n := n) (L := L) (q := q) (by omega)
  refine mach_go (w' := false) (σ' := 22 :: jns true (nts σ)) ?_ (av_lt (by omega) (by omega)) h9
  show sBh (Pk f n) n L σ q o = _
  unfold sBh; rw [if_neg (by omega), if_neg (by omega), if_pos hw]
theorem mach_mcl {a : Int} {s1 : List Int} (ht : tkq (Pk f n) n L q = 3) (hn : nuq (Pk f n) n q = 41) (e : a :: s1 = jns true (nts σ)) (h9 : q < 1000) : mach (Pk f n) n L nm m true σ q o = mach (Pk f n) n L nm m true s1 (av (Pk f n) n L q) o := by
  have hw : wq (Pk f n) n L q = 0 := by unfold wq; rw [if_neg (by omega)]
  refine mach_go (w' := true) (σ' := s1) ?_ (av_lt (by omega) (by omega)) h9
  show sBh (Pk f n) n L σ q o = _
  unfold sBh
  rw [if_neg (by omega), if_neg (by omega), if_neg (by omega), ← e, if_pos ⟨ht, hn, List.cons_ne_nil _ _⟩]
  first
    | done
    | rfl
theorem mach_mno (h0 : tkq (Pk f n) n L q ≠ 0) (h15 : wq (Pk f n) n L q ≠ 15) (h16 : wq (Pk f n) n L q ≠ 16) (h : ¬ (tkq (Pk f n) n L q = 3 ∧ nuq (Pk f n) n q = 41) ∨ [] = jns true (nts σ)) (hf : fk = 1) (hp : fp = plq n L q) : mach (Pk f n) n L nm m true σ q o = .inl (fk, fp) := by
  refine mach_no ?_
  show sBh (Pk f n) n L σ q o = _
  unfold sBh
  have hz : ¬ (tkq (Pk f n) n L q = 3 ∧ nuq (Pk f n) n q = 41 ∧ jns true (nts σ) ≠ []) := fun z => h.elim (fun y => y ⟨z.1, z.2.1⟩) (fun y => z.2.2 y.symm)
  rw [if_neg h0, if_neg h16, if_neg h15, if_neg hz, hf, hp]
theorem mach_mfin (h0 : tkq (Pk f n) n L q = 0) (e : [] = jns true (nts σ)) : mach (Pk f n) n L nm m true σ q o = .inr o := by
  refine mach_end ?_
  show sBh (Pk f n) n L σ q o = _
  unfold sBh
  rw [if_pos h0, if_pos e.symm]
theorem mach_mfno {a : Int} {s1 : List Int} (h0 : tkq (Pk f n) n L q = 0) (e : a :: s1 = jns true (nts σ)) (hf : fk = 1) (hp : fp = plq n L q) : mach (Pk f n) n L nm m true σ q o = .inl (fk, fp) := by
  refine mach_no ?_
  show sBh (Pk f n) n L σ q o = _
  unfold sBh
  rw [if_pos h0, if_neg (by rw [← e]; exact List.cons_ne_nil _ _), hf, hp]
end
/-- the model's stack as a list -/
def stL (f : Nat → Int32) : Nat → List Int
  | 0 => []
  | k + 1 => (f k).toInt :: stL f k
theorem stL_upd {f : Nat → Int32} {i : Nat} {v : Int32} : ∀ k : Nat, k ≤ i → stL (upd f i v) k = stL f k
  | 0, _ => rfl
  | k + 1, h => by
    have e : ¬ k = i := by omega
    show (upd f i v k).toInt :: stL (upd f i v) k = (f k).toInt :: stL f k
    rw [stL_upd k (by omega)]
    simp only [upd, if_neg e]
theorem stL_put {f g : Nat → Int32} {t t' v : Int32} {a : Int} (h0 : 0 ≤ t.toInt) (e : upd f t.toNatClampNeg v = g) (ht : t'.toInt = t.toInt + 1) (hv : v.toInt = a) : stL g t'.toInt.toNat = a :: stL f t.toInt.toNat := by
  have c := o_cl (x := t) rfl h0
  subst e
  rw [show t'.toInt.toNat = t.toInt.toNat + 1 by omega]
  show (upd f t.toNatClampNeg v t.toInt.toNat).toInt :: stL (upd f t.toNatClampNeg v) t.toInt.toNat = _
  rw [stL_upd _ (by omega)]
  have e2 : t.toInt.toNat = t.toNatClampNeg := by omega
  simp only [upd, if_pos e2]
  rw [hv]
theorem stL_top {f : Nat → Int32} {t i x : Int32} (h0 : 0 ≤ i.toInt) (hi : t.toInt = i.toInt + 1) (ex : x = f i.toNatClampNeg) : stL f t.toInt.toNat = x.toInt :: stL f i.toInt.toNat := by
  have c := o_cl (x := i) rfl h0
  rw [show t.toInt.toNat = i.toInt.toNat + 1 by omega, ex, show i.toNatClampNeg = i.toInt.toNat by omega]
  first
    | done
    | rfl
theorem stL_nil {f : Nat → Int32} {t : Int32} (h : t.toInt ≤ 0) : stL f t.toInt.toNat = [] := by
  rw [show t.toInt.toNat = 0 by omega]
  first
    | done
    | rfl
def anSn (x : SnA) : Int := match x with
  | .inl a => -1 - a.2
  | .inr o => o
def fltS (x : SnA) : Int := match x with
  | .inl a => a.1
  | .inr _ => 0
