/-- bits -/
def gb (x : Int32) (i : Nat) : Bool := x.toBitVec.getLsbD i
theorem gb_or (x y : Int32) (i : Nat) : gb (x ||| y) i = (gb x i || gb y i) := by unfold gb; rw [Int32.toBitVec_or, BitVec.getLsbD_or]
theorem gb_and (x y : Int32) (i : Nat) : gb (x &&& y) i = (gb x i && gb y i) := by unfold gb; rw [Int32.toBitVec_and, BitVec.getLsbD_and]
theorem gb_ext {x y : Int32} (h : ∀ i, i < 32 → gb x i = gb y i) : x = y := Int32.toBitVec_inj.mp (BitVec.eq_of_getLsbD_eq (fun i hi => h i hi))
theorem gb_one : ∀ l : Nat, l < 32 → ∀ i : Nat, i < 32 → gb ((1 : Int32) <<< (nI l &&& 31)) i = decide (i = l) := by decide +kernel
theorem gb_1 : ∀ i : Nat, i < 32 → gb 1 i = decide (i = 0) := by decide +kernel
theorem gs_l : ∀ n : Nat, n < 32 → ((nI n &&& 31).toBitVec.smod 32).toNat = n := by decide +kernel
theorem gb_shr (n : Nat) (hn : n < 32) (x : Int32) {i : Nat} (hi : i < 32) : gb (x >>> (nI n &&& 31)) i = if n + i < 32 then gb x (n + i) else gb x 31 := by
  unfold gb
  rw [Int32.toBitVec_shiftRight]
  show (x.toBitVec.sshiftRight ((nI n &&& 31).toBitVec.smod 32).toNat).getLsbD i = _
  rw [gs_l n hn, BitVec.getLsbD_sshiftRight, BitVec.msb_eq_getLsbD_last]
  simp [hi]
theorem bt_gb (v : Int32) {j : Nat} (hj : j < 32) : bt v (nI j) = 1 ↔ gb v j = true := by
  have e0 : gb ((v >>> (nI j &&& 31)) &&& 1) 0 = gb v j := by
    rw [gb_and, gb_shr j hj v (by decide), if_pos (by omega), gb_1 0 (by decide)]
    simp
  have e1 : (v >>> (nI j &&& 31)) &&& 1 = 1 ↔ gb v j = true := by
    constructor
    · intro h; rw [← e0, h]; decide
    · intro h
      apply gb_ext
      intro i hi
      by_cases z : i = 0
      · rw [z, e0, h]; decide
      · rw [gb_and, gb_1 i hi, decide_eq_false z, Bool.and_false]
  unfold bt
  by_cases c : (v >>> (nI j &&& 31)) &&& 1 = 1
  · rw [if_pos c]; exact ⟨fun _ => e1.mp c, fun _ => rfl⟩
  · rw [if_neg c]
    exact ⟨fun h => absurd h (by decide), fun h => absurd (e1.mpr h) c⟩
theorem nI_is {w : Int32} (h0 : 0 ≤ w.toInt) : w = nI w.toInt.toNat := o_meq (b := w.toInt) rfl (by rw [nI_toInt (by have := o_rng w; omega)]; omega) rfl
/-- one bit set: the others stay -/
theorem bt_set {v w j : Int32} (hw0 : 0 ≤ w.toInt) (hw : w.toInt < 32) (hj0 : 0 ≤ j.toInt) (hj : j.toInt < 32) : bt (v ||| ((1 : Int32) <<< (w &&& 31))) j = 1 ↔ (bt v j = 1 ∨ j.toInt = w.toInt) := by
  have ew := nI_is hw0
  have ej := nI_is hj0
  generalize hwn : w.toInt.toNat = a at ew
  generalize hjn : j.toInt.toNat = b at ej
  rw [ew, ej, bt_gb _ (by omega), bt_gb _ (by omega), gb_or, gb_one a (by omega) b (by omega), ← ew, ← ej]
  by_cases e : b = a
  · rw [decide_eq_true e, Bool.or_true]; exact ⟨fun _ => Or.inr (by omega), fun _ => rfl⟩
  · rw [decide_eq_false e, Bool.or_false]
    exact ⟨fun h => Or.inl h, fun h => h.elim id (fun z => absurd z (by omega))⟩
theorem btc {v w y z : Int32} (ey : y = v >>> (w &&& 31)) (ez : z = y &&& 1) : (z.toInt = 1 ∧ bt v w = 1) ∨ (z.toInt = 0 ∧ bt v w ≠ 1) := by
  have h := o_and ez (by decide : (1 : Int32).toInt = 1) (by decide)
  by_cases c : z.toInt = 1
  · exact Or.inl ⟨c, (bt_yes ey ez c).symm⟩
  · refine Or.inr ⟨by omega, ?_⟩
    rw [← bt_no ey ez c]; decide
/-- where the class stands while it reads a library: over what is told so far -/
def RlC (wide high law spin line draught books rare : Int) (qu sizes names x y told : Nat → Int32) (wt wo : Int32) (h : Nat → Int32) (nm : Nat → Int64) (on we : Int32) : Prop :=
  (wide = (h 1).toInt ∧ high = (h 2).toInt ∧ law = (h 3).toInt ∧ spin = (h 4).toInt ∧ line = (h 5).toInt ∧ draught = (h 6).toInt ∧ books = (h 0).toInt ∧ rare = (h 103).toInt ∧ 0 ≤ rare ∧ rare ≤ 255 ∧ bc rare ≤ 3) ∧ wt = we ∧
  (∀ b : Nat, b < 8 → qu b = h (95 + b)) ∧ (∀ b : Nat, (b : Int) < books → x b = h (7 + b) ∧ y b = h (15 + b)) ∧
  (∀ a b : Nat, a < 8 → b < 8 → (bt (told a) (nI b) = 1 ↔ 0 < (h (31 + 8 * a + b)).toInt)) ∧
  ((bt wo 7 = 1 ↔ bt on 1 = 1) ∧ (bt wo 8 = 1 ↔ bt on 2 = 1) ∧ (bt wo 9 = 1 ↔ bt on 3 = 1) ∧ (bt wo 10 = 1 ↔ bt on 4 = 1) ∧ (bt on 0 = 1 ↔ (bt wo 1 = 1 ∨ 0 < books))) ∧
  Nms books sizes names nm 8
def PCk (r fk fp fk0 : Int) (res : SR5) (K : Int → (Nat → Int32) → (Nat → Int64) → Int32 → Int32 → Prop) : Prop := (r = 1 ∧ fk = fk0 ∧ ∃ q h nm on we, res = .inr (q, h, nm, on, we) ∧ K q h nm on we) ∨ (r = 0 ∧ 1 ≤ fk ∧ res = .inl (fk, fp))
theorem PCk.ok {r fk fp fk0 q : Int} {res : SR5} {K : Int → (Nat → Int32) → (Nat → Int64) → Int32 → Int32 → Prop} {h : Nat → Int32} {nm : Nat → Int64} {on we : Int32} (hr : r = 1) (hf : fk = fk0) (e : res = .inr (q, h, nm, on, we)) (k : K q h nm on we) : PCk r fk fp fk0 res K := Or.inl ⟨hr, hf, q, h, nm, on, we, e, k⟩
theorem PCk.bad {r fk fp fk0 : Int} {res : SR5} {K : Int → (Nat → Int32) → (Nat → Int64) → Int32 → Int32 → Prop} (hr : r = 0) (hf : 1 ≤ fk) (e : res = .inl (fk, fp)) : PCk r fk fp fk0 res K := Or.inr ⟨hr, hf, e⟩
theorem upd_at {f : Nat → Int32} {k j : Nat} {v : Int32} (h : j = k) : upd f k v j = v := by simp only [upd, if_pos h]
theorem upd_ne {f : Nat → Int32} {k j : Nat} {v : Int32} (h : j ≠ k) : upd f k v j = f j := by simp only [upd, if_neg h]
/-- a number of its own: law, spin, line, draught (which: 3 to 6) -/
theorem RlC.num {wide high law spin line draught books rare law' spin' line' draught' : Int} {qu sizes names x y told : Nat → Int32} {wt wo wo' v w k on' : Int32} {h : Nat → Int32} {nm : Nat → Int64} {on we : Int32} (R : RlC wide high law spin line draught books rare qu sizes names x y told wt wo h nm on we) (j : Nat) (hj : 3 ≤ j ∧ j ≤ 6) (hw : w.toInt = (j : Int) + 4) (hk : k.toInt = (j : Int) - 2) (ew : wo' = wo ||| ((1 : Int32) <<< (w &&& 31))) (eo : on' = on ||| ((1 : Int32) <<< (k &&& 31)))
    (hv : (j = 3 ∧ law' = v.toInt ∧ spin' = spin ∧ line' = line ∧ draught' = draught) ∨ (j = 4 ∧ law' = law ∧ spin' = v.toInt ∧ line' = line ∧ draught' = draught) ∨ (j = 5 ∧ law' = law ∧ spin' = spin ∧ line' = v.toInt ∧ draught' = draught) ∨ (j = 6 ∧ law' = law ∧ spin' = spin ∧ line' = line ∧ draught' = v.toInt)) : RlC wide high law' spin' line' draught' books rare qu sizes names x y told wt wo' (upd h j v) nm on' we := by
  have q3 : (j = 3 ∧ law' = v.toInt) ∨ (j ≠ 3 ∧ law' = law) := by omega
  have q4 : (j = 4 ∧ spin' = v.toInt) ∨ (j ≠ 4 ∧ spin' = spin) := by omega
  have q5 : (j = 5 ∧ line' = v.toInt) ∨ (j ≠ 5 ∧ line' = line) := by omega
  have q6 : (j = 6 ∧ draught' = v.toInt) ∨ (j ≠ 6 ∧ draught' = draught) := by omega
  clear hv
  obtain ⟨⟨a1, a2, a3, a4, a5, a6, a7, a8⟩, b, c, d, e, ⟨f1, f2, f3, f4, f5⟩, g⟩ := R
  have W : ∀ i : Int32, 0 ≤ i.toInt → i.toInt < 32 → (bt wo' i = 1 ↔ (bt wo i = 1 ∨ i.toInt = w.toInt)) := fun i h1 h2 => by rw [ew]; exact bt_set (by omega) (by omega) h1 h2
  have O : ∀ i : Int32, 0 ≤ i.toInt → i.toInt < 32 → (bt on' i = 1 ↔ (bt on i = 1 ∨ i.toInt = k.toInt)) := fun i h1 h2 => by rw [eo]; exact bt_set (by omega) (by omega) h1 h2
  have w7 := W 7 (by decide) (by decide); have w8 := W 8 (by decide) (by decide); have w9 := W 9 (by decide) (by decide); have w10 := W 10 (by decide) (by decide); have w1 := W 1 (by decide) (by decide)
  have o0 := O 0 (by decide) (by decide); have o1 := O 1 (by decide) (by decide); have o2 := O 2 (by decide) (by decide); have o3 := O 3 (by decide) (by decide); have o4 := O 4 (by decide) (by decide)
  have l0 : (0 : Int32).toInt = 0 := by decide
  have l1 : (1 : Int32).toInt = 1 := by decide
  have l2 : (2 : Int32).toInt = 2 := by decide
  have l3 : (3 : Int32).toInt = 3 := by decide
  have l4 : (4 : Int32).toInt = 4 := by decide
  have l7 : (7 : Int32).toInt = 7 := by decide
  have l8 : (8 : Int32).toInt = 8 := by decide
  have l9 : (9 : Int32).toInt = 9 := by decide
  have l10 : (10 : Int32).toInt = 10 := by decide
  rw [l0] at o0; rw [l1] at o1 w1; rw [l2] at o2; rw [l3] at o3; rw [l4] at o4; rw [l7] at w7; rw [l8] at w8; rw [l9] at w9; rw [l10] at w10
  have ne : ∀ i : Nat, i ≠ j → upd h j v i = h i := fun i hi => upd_ne hi
  refine ⟨⟨?_, ?_, ?_, ?_, ?_, ?_, ?_, ?_⟩, b, ?_, ?_, ?_, ⟨?_, ?_, ?_, ?_, ?_⟩, g⟩
  · rw [ne 1 (by omega)]; exact a1
  · rw [ne 2 (by omega)]; exact a2
  · rcases q3 with ⟨z, z2⟩ | ⟨z, z2⟩
    · rw [upd_at z.symm]; exact z2
    · rw [ne 3 (fun q => z q.symm)]; exact z2.trans a3
  · rcases q4 with ⟨z, z2⟩ | ⟨z, z2⟩
    · rw [upd_at z.symm]; exact z2
    · rw [ne 4 (fun q => z q.symm)]; exact z2.trans a4
  · rcases q5 with ⟨z, z2⟩ | ⟨z, z2⟩
    · rw [upd_at z.symm]; exact z2
    · rw [ne 5 (fun q => z q.symm)]; exact z2.trans a5
  · rcases q6 with ⟨z, z2⟩ | ⟨z, z2⟩
    · rw [upd_at z.symm]; exact z2
    · rw [ne 6 (fun q => z q.symm)]; exact z2.trans a6
  · rw [ne 0 (by omega)]; exact a7
  · rw [ne 103 (by omega)]; exact a8
  · intro i hi; rw [ne _ (by omega)]; exact c i hi
  · intro i hi
    rw [ne _ (by omega), ne _ (by omega)]; exact d i hi
  · intro p q hp hq
    rw [ne _ (by omega)]; exact e p q hp hq
  · rw [w7, o1, f1]; exact ⟨fun z => z.elim Or.inl (fun z => Or.inr (by clear w7 w8 w9 w10 w1 o0 o1 o2 o3 o4 f1 f2 f3 f4 f5; omega)), fun z => z.elim Or.inl (fun z => Or.inr (by clear w7 w8 w9 w10 w1 o0 o1 o2 o3 o4 f1 f2 f3 f4 f5; omega))⟩
  · rw [w8, o2, f2]; exact ⟨fun z => z.elim Or.inl (fun z => Or.inr (by clear w7 w8 w9 w10 w1 o0 o1 o2 o3 o4 f1 f2 f3 f4 f5; omega)), fun z => z.elim Or.inl (fun z => Or.inr (by clear w7 w8 w9 w10 w1 o0 o1 o2 o3 o4 f1 f2 f3 f4 f5; omega))⟩
  · rw [w9, o3, f3]; exact ⟨fun z => z.elim Or.inl (fun z => Or.inr (by clear w7 w8 w9 w10 w1 o0 o1 o2 o3 o4 f1 f2 f3 f4 f5; omega)), fun z => z.elim Or.inl (fun z => Or.inr (by clear w7 w8 w9 w10 w1 o0 o1 o2 o3 o4 f1 f2 f3 f4 f5; omega))⟩
  · rw [w10, o4, f4]; exact ⟨fun z => z.elim Or.inl (fun z => Or.inr (by clear w7 w8 w9 w10 w1 o0 o1 o2 o3 o4 f1 f2 f3 f4 f5; omega)), fun z => z.elim Or.inl (fun z => Or.inr (by clear w7 w8 w9 w10 w1 o0 o1 o2 o3 o4 f1 f2 f3 f4 f5; omega))⟩
  · rw [o0, w1, f5]
    exact ⟨fun z => z.elim (fun z => z.elim (fun z => Or.inl (Or.inl z)) Or.inr) (fun z => absurd z (by clear w7 w8 w9 w10 w1 o0 o1 o2 o3 o4 f1 f2 f3 f4 f5; omega)), fun z => z.elim (fun z => z.elim (fun z => Or.inl (Or.inl z)) (fun z => absurd z (by clear w7 w8 w9 w10 w1 o0 o1 o2 o3 o4 f1 f2 f3 f4 f5; omega))) (fun z => Or.inl (Or.inr z))⟩
/-- the class's own words told, and the model's: a number -/
theorem sOnc_c3 {P : Int → Int} {n L q lo hi fk fp : Int} {kind place size value word next : Int} {k : Int32} {to : Nat} {h : Nat → Int32} {nm : Nat → Int64} {on we : Int32} (t : Tc P n L q kind place size value word next) (e : bt on k = 1) (hf : fk = 3) (hp : fp = place) : sOnc P n L k to lo hi q h nm on we = .inl (fk, fp) := by
  unfold sOnc; rw [if_pos e, hf, hp, t.pl]
theorem sOnc_cgo {P : Int → Int} {n L q lo hi : Int} {k : Int32} {to : Nat} {h : Nat → Int32} {nm : Nat → Int64} {on we : Int32} {X : SR5} (e : bt on k ≠ 1) (x : sPut P n L to lo hi (av P n L q) h nm (on ||| ((1 : Int32) <<< (k &&& 31))) we = X) : sOnc P n L k to lo hi q h nm on we = X := by
  unfold sOnc; rw [if_neg e]; exact x
theorem sPut_cok {P : Int → Int} {n L lo hi q q' : Int} {to : Nat} {h : Nat → Int32} {nm : Nat → Int64} {on we v : Int32} (e : sTak P n L lo hi q = .inr q') (hv : v.toInt = nuq P n q) : sPut P n L to lo hi q h nm on we = .inr (q', upd h to v, nm, on, we) := sPut_ok e hv rfl
theorem RlC.k {wide high law spin line draught books rare : Int} {qu sizes names x y told : Nat → Int32} {wt wo : Int32} {h : Nat → Int32} {nm : Nat → Int64} {on we : Int32} (R : RlC wide high law spin line draught books rare qu sizes names x y told wt wo h nm on we) (j : Nat) (hj : 3 ≤ j ∧ j ≤ 6) {w k : Int32} (hw : w.toInt = (j : Int) + 4) (hk : k.toInt = (j : Int) - 2) : bt wo w = 1 ↔ bt on k = 1 := by
  obtain ⟨-, -, -, -, -, ⟨f1, f2, f3, f4, f5⟩, -⟩ := R
  rcases (show j = 3 ∨ j = 4 ∨ j = 5 ∨ j = 6 by omega) with z | z | z | z
  · subst z; rw [o_meq (y := 7) (b := 7) rfl (by decide) hw, o_meq (x := k) (y := 1) (b := 1) rfl (by decide) hk]; exact f1
  · subst z; rw [o_meq (y := 8) (b := 8) rfl (by decide) hw, o_meq (x := k) (y := 2) (b := 2) rfl (by decide) hk]; exact f2
  · subst z; rw [o_meq (y := 9) (b := 9) rfl (by decide) hw, o_meq (x := k) (y := 3) (b := 3) rfl (by decide) hk]; exact f3
  · subst z; rw [o_meq (y := 10) (b := 10) rfl (by decide) hw, o_meq (x := k) (y := 4) (b := 4) rfl (by decide) hk]; exact f4
theorem RlC.nms {wide high law spin line draught books rare : Int} {qu sizes names x y told : Nat → Int32} {wt wo : Int32} {h : Nat → Int32} {nm : Nat → Int64} {on we : Int32} (R : RlC wide high law spin line draught books rare qu sizes names x y told wt wo h nm on we) : Nms books sizes names nm 8 := R.2.2.2.2.2.2
