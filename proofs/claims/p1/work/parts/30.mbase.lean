theorem rJn_lit {v lo hi r : Int32} {a b : Int} (h : r = rJn v lo.toInt hi.toInt) (ha : lo.toInt = a) (hb : hi.toInt = b) : r = rJn v a b := by
  subst ha; subst hb; exact h
def hF : Nat → Int32 := upd (upd (upd (upd (upd (fun _ => 0) 1 4) 2 4) 3 10) 4 1) 5 3
def sF : Nat → Int32 := fillF hF (fun _ => 0) 104
def sD (i : Nat) : Nat → Int32 := upd (upd sF 105 0) 104 (nI i)
theorem sF_eq : fillF hF (fun _ => 0) 104 = sD 0 := by
  funext k
  by_cases h1 : k = 104
  · subst h1; decide +kernel
  · by_cases h2 : k = 105
    · subst h2; decide +kernel
    · simp [sD, upd, sF, h1, h2]
theorem sD_z (i : Nat) : upd (sD i) 105 0 = sD i := by
  funext k
  by_cases h2 : k = 105
  · subst h2; simp [sD, upd]
  · simp [upd, h2]
theorem sD_s (i : Nat) : upd (sD i) 104 (nI (i + 1)) = sD (i + 1) := by
  funext k
  by_cases h1 : k = 104
  · subst h1; simp [sD, upd]
  · simp [sD, upd, h1]
theorem fillF_zero (f g : Nat → Int32) : fillF f g 0 = g := by
  funext k; simp [fillF]
