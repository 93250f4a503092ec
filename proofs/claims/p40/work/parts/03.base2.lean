theorem kmath : Cond.initialized "java/lang/Math" ∈ gT := List.mem_filter.mpr ⟨List.mem_of_getElem? (i := 140) (by decide +kernel), by decide +kernel⟩
theorem kmin1 : Cond.static Lib.Math.min.name ∈ gT := List.mem_filter.mpr ⟨List.mem_of_getElem? (i := 656) (by decide +kernel), by decide +kernel⟩
theorem kmin2 : Cond.code Lib.Math.min.name Lib.Math.min.code 2 (some .int) ∈ gT := List.mem_filter.mpr ⟨List.mem_of_getElem? (i := 657) (by decide +kernel), by decide +kernel⟩
theorem kmax1 : Cond.static Lib.Math.max.name ∈ gT := List.mem_filter.mpr ⟨List.mem_of_getElem? (i := 1201) (by decide +kernel), by decide +kernel⟩
theorem kmax2 : Cond.code Lib.Math.max.name Lib.Math.max.code 2 (some .int) ∈ gT := List.mem_filter.mpr ⟨List.mem_of_getElem? (i := 1202) (by decide +kernel), by decide +kernel⟩
theorem kcopy1 : Cond.native arraycopyName ∈ gT := List.mem_filter.mpr ⟨List.mem_of_getElem? (i := 842) (by decide +kernel), by decide +kernel⟩
theorem kcopy2 : Cond.static arraycopyName ∈ gT := List.mem_filter.mpr ⟨List.mem_of_getElem? (i := 841) (by decide +kernel), by decide +kernel⟩
theorem kcopy3 : Cond.initialized "java/lang/System" ∈ gT := List.mem_filter.mpr ⟨List.mem_of_getElem? (i := 146) (by decide +kernel), by decide +kernel⟩
/-! more rows -/
theorem vin {i : Int32} {n : Nat} (h : (decide (¬ i < 0) && decide (i.toNatClampNeg < n)) = true) : vp_in i n := by
  simp only [Bool.and_eq_true, decide_eq_true_eq] at h
  exact fun q => q.elim h.1 (fun q => absurd h.2 (Nat.not_lt.mpr q))
section BaseD
variable {p : Program} {l : Launch} {e : Env} {R : Room} {s : State} {m : MethodId} {args : Array Value} {below : List Frame} {meth : Method} {c : Code} {H : Heap} {locs : List Loc} {cells slots : Nat} {Q : State → Prop}
variable {cc : ByteArray} {pc nL : Nat} {ls : Array Slot} {rest : List Value} {own nm : String} {ret0 : Option FieldType} {D : va_G} {cy : Nat → ClassId} {A : Nat → Prop} {ws : va_W}
theorem lv_room12 {st : List Value} {n : Nat} (h : (st.map fun v => v.category).sum + 12 ≤ n) : 2 * (F0 m pc ls rest).monitorRoom + (st.map fun v => v.category).sum + 12 ≤ n := by
  have e : (F0 m pc ls rest).monitorRoom = 0 := rfl
  rw [e]; omega
theorem q_ldc {index : Nat} {v : Int32} (C : Cx p s m args meth c cc nL ret0 own nm D cy A) (hw : Cond.constant own index v ∈ gT) (hdg : decode cc pc = .ok (.ldc index, 2)) (k : W p l e R s m args below meth c H locs cells slots Q (F0 m (pc + 2) ls (.int v :: rest))) : W p l e R s m args below meth c H locs cells slots Q (F0 m pc ls rest) := lv_ldc C.1 C.2.1 C.2.2.2.1 (C.2.2.2.2.1 _ hw) hdg k
theorem q_ldc_w {index : Nat} {v : Int32} (C : Cx p s m args meth c cc nL ret0 own nm D cy A) (hw : Cond.constant own index v ∈ gT) (hdg : decode cc pc = .ok (.ldc_w index, 3)) (k : W p l e R s m args below meth c H locs cells slots Q (F0 m (pc + 3) ls (.int v :: rest))) : W p l e R s m args below meth c H locs cells slots Q (F0 m pc ls rest) := lv_ldcw C.1 C.2.1 C.2.2.2.1 (C.2.2.2.2.1 _ hw) hdg k
theorem q_ldc2 {index : Nat} {v : Int64} (C : Cx p s m args meth c cc nL ret0 own nm D cy A) (hw : Cond.constantLong own index v ∈ gT) (hdg : decode cc pc = .ok (.ldc2_w index, 3)) (k : W p l e R s m args below meth c H locs cells slots Q (F0 m (pc + 3) ls (.long v :: rest))) : W p l e R s m args below meth c H locs cells slots Q (F0 m pc ls rest) := lv_ldc2 C.1 C.2.1 C.2.2.2.1 (C.2.2.2.2.1 _ hw) hdg k
theorem q_mmin {index : Nat} {x y : Int32} (C : Cx p s m args meth c cc nL ret0 own nm D cy A) (hls : ls.size = nL) (hl : Cond.methodLink own index Lib.Math.min.name ∈ gT) (hf : 1 ≤ R.frames) (hlo : (rest.map fun v => v.category).sum + 13 ≤ R.locals) (hc : cells ≤ R.cells) (hs : slots ≤ R.slots) (hdg : decode cc pc = .ok (.invokestatic index, 3))
    (kk : W p l e R s m args below meth c H locs cells slots Q (F0 m (pc + 3) ls (.int (if y < x then y else x) :: rest))) : W p l e R s m args below meth c H locs cells slots Q (F0 m pc ls (.int y :: .int x :: rest)) := by
  obtain ⟨hx, hb, hml, hown, hts, hK, hA, hr, hlocks, -⟩ := C
  exact va_mmin hx hb (hml.trans hls.symm) hown (hts _ hl) (hts _ kmin1) (hts _ kmath) (hts _ kmin2) hf hlo hc hs hdg kk
theorem q_mmax {index : Nat} {x y : Int32} (C : Cx p s m args meth c cc nL ret0 own nm D cy A) (hls : ls.size = nL) (hl : Cond.methodLink own index Lib.Math.max.name ∈ gT) (hf : 1 ≤ R.frames) (hlo : (rest.map fun v => v.category).sum + 13 ≤ R.locals) (hc : cells ≤ R.cells) (hs : slots ≤ R.slots) (hdg : decode cc pc = .ok (.invokestatic index, 3))
    (kk : W p l e R s m args below meth c H locs cells slots Q (F0 m (pc + 3) ls (.int (if x < y then y else x) :: rest))) : W p l e R s m args below meth c H locs cells slots Q (F0 m pc ls (.int y :: .int x :: rest)) := by
  obtain ⟨hx, hb, hml, hown, hts, hK, hA, hr, hlocks, -⟩ := C
  exact va_mmax hx hb (hml.trans hls.symm) hown (hts _ hl) (hts _ kmax1) (hts _ kmath) (hts _ kmax2) hf hlo hc hs hdg kk
theorem q_copy {index a a0 n0 n1 : Nat} {f g g' : Nat → Int32} {sp dp n : Int32} {w' : va_W} (C : Cx p s m args meth c cc nL ret0 own nm D cy A) (hls : ls.size = nL) (hP : va_P D vwCl ws H) (hD : va_D A ws) (hS : va_S A s.heap H locs) (q0 q1 : Nat) (ha0 : ws[q0]? = some (a0, .inl (cy 1, n0, .inl f))) (ha1 : ws[q1]? = some (a, .inl (cy 1, n1, .inl g))) (hl : Cond.methodLink own index arraycopyName ∈ gT)
    (h1 : ¬ sp < 0) (h2 : ¬ dp < 0) (h3 : ¬ n < 0) (h4 : sp.toNatClampNeg + n.toNatClampNeg ≤ n0) (h5 : dp.toNatClampNeg + n.toNatClampNeg ≤ n1) (hf : 1 ≤ R.frames) (hlo : (rest.map fun v => v.category).sum + (nativeFrameWords "java/lang/System" "arraycopy" 5 + 11) ≤ R.locals) (hg : va_cpy f g sp.toNatClampNeg dp.toNatClampNeg n.toNatClampNeg = g') (hw : ws.set q1 (a, .inl (cy 1, n1, .inl g')) = w') (hdg : decode cc pc = .ok (.invokestatic index, 3))
    (kk : ∀ (H1 : Heap) (locs1 : List Loc), va_P D vwCl w' H1 → va_D A w' → va_S A s.heap H1 locs1 → W p l e R s m args below meth c H1 locs1 cells slots Q (F0 m (pc + 3) ls rest)) : W p l e R s m args below meth c H locs cells slots Q (F0 m pc ls (.int n :: .int dp :: .ref a :: .int sp :: .ref a0 :: rest)) := by
  obtain ⟨hx, hb, hml, hown, hts, hK, hA, hr, hlocks, -⟩ := C
  subst hg; subst hw
  exact va_copyi hx hb (hml.trans hls.symm) hown (hts _ hl) (hts _ kcopy1) (hts _ kcopy2) (hts _ kcopy3) hK.1 hP hD hS q0 q1 1 1 ha0 ha1 rfl rfl rfl h1 h2 h3 h4 h5 (fun _ _ => rfl) hf hlo hdg kk
theorem q_newq {index : Nat} {Cn : String} (C : Cx p s m args meth c cc nL ret0 own nm D cy A) (hP : va_P D vwCl ws H) (hD : va_D A ws) (hS : va_S A s.heap H locs) (t0 : Nat) {cA : ClassId} (ht0 : (tyL cy)[t0]? = some (cA, .object Cn)) (hcl : Cond.classLink own index Cn ∈ gT) (hover : va_AO Cn s)
    {n : Int32} {N' : Nat} (hn : ¬ n < 0) (hN : n.toNatClampNeg = N') (hbytes : N' * 4 ≤ 536870912) (hcells : cells + 1 ≤ R.cells) (hslots : slots + N' ≤ R.slots) (hdg : decode cc pc = .ok (.anewarray index, 3))
    (kk : ∀ (q : Nat) (H1 : Heap), va_P D vwCl (ws ++ [(q, .inl (cA, N', .inr (.inr (.inr (.inr (fun _ => none))))))]) H1 → va_D A (ws ++ [(q, .inl (cA, N', .inr (.inr (.inr (.inr (fun _ => none))))))]) → va_S A s.heap H1 locs →
      W p l e R s m args below meth c H1 locs (cells + 1) (slots + N') Q (F0 m (pc + 3) ls (.ref q :: rest))) : W p l e R s m args below meth c H locs cells slots Q (F0 m pc ls (.int n :: rest)) := by
  obtain ⟨hx, hb, hml, hown, hts, hK, hA, hr, hlocks, -⟩ := C
  refine va_newq hx hb hown (hts _ hcl) hover hK.1 hP hD hS hA hn hN hbytes hcells hslots hdg (fun q c1 H1 hK1 hP1 hD1 hS1 => ?_)
  obtain ⟨-, -, -, -, -, e1⟩ := (hK.1.2 t0 _ ht0).2
  obtain ⟨-, -, -, -, -, e2⟩ := (hK1.2 (tyL cy).length (c1, .object Cn) (by simp)).2
  have e3 : cA = c1 := Option.some.inj (e1.symm.trans e2)
  subst e3
  exact kk q H1 hP1 hD1 hS1
theorem q_aald {Cn : String} (C : Cx p s m args meth c cc nL ret0 own nm D cy A) (hP : va_P D vwCl ws H) (q0 t0 : Nat) {a n : Nat} {cA : ClassId} {f : Nat → Option Nat} {i : Int32} {v : Value} (ha : ws[q0]? = some (a, .inl (cA, n, .inr (.inr (.inr (.inr f)))))) (ht0 : (tyL cy)[t0]? = some (cA, .object Cn)) (hin : vp_in i n) (hv : va_rf (f i.toNatClampNeg) = v) (hdg : decode cc pc = .ok (.aaload, 1))
    (kk : W p l e R s m args below meth c H locs cells slots Q (F0 m (pc + 1) ls (v :: rest))) : W p l e R s m args below meth c H locs cells slots Q (F0 m pc ls (.int i :: .ref a :: rest)) := by
  obtain ⟨hx, hb, hml, hown, hts, hK, hA, hr, hlocks, -⟩ := C
  subst hv
  exact va_aldq hx hb hK.1 hP q0 t0 ha ht0 hin hdg kk
theorem q_aast (C : Cx p s m args meth c cc nL ret0 own nm D cy A) (hP : va_P D vwCl ws H) (hD : va_D A ws) (hS : va_S A s.heap H locs) (q0 t0 qk : Nat) {ci a n v : Nat} {cA : ClassId} {r : vw_C} {vs : List Value} {f g : Nat → Option Nat} {i : Int32} {w' : va_W} (ha : ws[q0]? = some (a, .inl (cA, n, .inr (.inr (.inr (.inr f)))))) (hv : ws[qk]? = some (v, .inr (ci, vs))) (hc : vwCl[ci]? = some r) (ht0 : (tyL cy)[t0]? = some (cA, .object r.1)) (hin : vp_in i n) (hg : va_up f i.toNatClampNeg (some v) = g) (hw : ws.set q0 (a, .inl (cA, n, .inr (.inr (.inr (.inr g))))) = w') (hdg : decode cc pc = .ok (.aastore, 1))
    (kk : ∀ (H1 : Heap) (locs1 : List Loc), va_P D vwCl w' H1 → va_D A w' → va_S A s.heap H1 locs1 → W p l e R s m args below meth c H1 locs1 cells slots Q (F0 m (pc + 1) ls rest)) : W p l e R s m args below meth c H locs cells slots Q (F0 m pc ls (.ref v :: .int i :: .ref a :: rest)) := by
  obtain ⟨hx, hb, hml, hown, hts, hK, hA, hr, hlocks, -⟩ := C
  subst hg; subst hw
  exact va_astq hx hb hK.1 hP hD hS q0 t0 qk ci ha ht0 hv hc hin hdg kk
theorem q_bastZ (C : Cx p s m args meth c cc nL ret0 own nm D cy A) (hP : va_P D vwCl ws H) (hD : va_D A ws) (hS : va_S A s.heap H locs) (q0 : Nat) {a n : Nat} {f g : Nat → Int32} {i x : Int32} {w' : va_W} (ha : ws[q0]? = some (a, .inl (cy 3, n, .inl f))) (hin : vp_in i n) (hg : upd f i.toNatClampNeg (vp_nar .boolean x) = g) (hw : ws.set q0 (a, .inl (cy 3, n, .inl g)) = w') (hdg : decode cc pc = .ok (.bastore, 1))
    (kk : ∀ (H1 : Heap) (locs1 : List Loc), va_P D vwCl w' H1 → va_D A w' → va_S A s.heap H1 locs1 → W p l e R s m args below meth c H1 locs1 cells slots Q (F0 m (pc + 1) ls rest)) : W p l e R s m args below meth c H locs cells slots Q (F0 m pc ls (.int x :: .int i :: .ref a :: rest)) := by
  obtain ⟨hx, hb, hml, hown, hts, hK, hA, hr, hlocks, -⟩ := C
  subst hg; subst hw
  exact va_zast hx hb hK.1 hP hD hS q0 3 ha rfl hin hdg kk
theorem q_bastB (C : Cx p s m args meth c cc nL ret0 own nm D cy A) (hP : va_P D vwCl ws H) (hD : va_D A ws) (hS : va_S A s.heap H locs) (q0 : Nat) {a n : Nat} {f g : Nat → Int32} {i x : Int32} {w' : va_W} (ha : ws[q0]? = some (a, .inl (cy 0, n, .inl f))) (hin : vp_in i n) (hg : upd f i.toNatClampNeg (vp_nar .byte x) = g) (hw : ws.set q0 (a, .inl (cy 0, n, .inl g)) = w') (hdg : decode cc pc = .ok (.bastore, 1))
    (kk : ∀ (H1 : Heap) (locs1 : List Loc), va_P D vwCl w' H1 → va_D A w' → va_S A s.heap H1 locs1 → W p l e R s m args below meth c H1 locs1 cells slots Q (F0 m (pc + 1) ls rest)) : W p l e R s m args below meth c H locs cells slots Q (F0 m pc ls (.int x :: .int i :: .ref a :: rest)) := by
  obtain ⟨hx, hb, hml, hown, hts, hK, hA, hr, hlocks, -⟩ := C
  subst hg; subst hw
  exact va_bast hx hb hK.1 hP hD hS q0 0 ha rfl hin hdg kk
theorem q_baldZ (C : Cx p s m args meth c cc nL ret0 own nm D cy A) (hP : va_P D vwCl ws H) (q0 : Nat) {a n : Nat} {f : Nat → Int32} {i v : Int32} (ha : ws[q0]? = some (a, .inl (cy 3, n, .inl f))) (hin : vp_in i n) (hv : f i.toNatClampNeg = v) (hdg : decode cc pc = .ok (.baload, 1))
    (kk : W p l e R s m args below meth c H locs cells slots Q (F0 m (pc + 1) ls (.int v :: rest))) : W p l e R s m args below meth c H locs cells slots Q (F0 m pc ls (.int i :: .ref a :: rest)) := by
  obtain ⟨hx, hb, hml, hown, hts, hK, hA, hr, hlocks, -⟩ := C
  subst hv
  exact va_zald hx hb hK.1 hP q0 3 ha rfl hin hdg kk
end BaseD
theorem updz (k : Nat) : upd (fun _ => (0 : Int32)) k 0 = fun _ => 0 := by
  funext j; simp [upd]
theorem cpyz (a b n : Nat) : va_cpy (fun _ => (0 : Int32)) (fun _ => 0) a b n = fun _ => 0 := by
  funext j; simp [va_cpy]
def fillF (f g : Nat → Int32) (i : Nat) : Nat → Int32 := fun k => if k < i then f k else g k
theorem fillF_succ (f g : Nat → Int32) (i : Nat) : upd (fillF f g i) i (f i) = fillF f g (i + 1) := by
  funext k
  by_cases h : k = i
  · subst h; simp [upd, fillF]
  · have h2 : (k < i + 1) ↔ (k < i) := by omega
    simp [upd, fillF, h, h2]
def rIn (v lo hi : Int32) : Int32 := if lo.toInt ≤ v.toInt ∧ v.toInt ≤ hi.toInt then 1 else 0
theorem rIn_c {v lo hi r : Int32} (h : r = rIn v lo hi) : (r = 1 ∧ lo.toInt ≤ v.toInt ∧ v.toInt ≤ hi.toInt) ∨ (r = 0 ∧ ¬ (lo.toInt ≤ v.toInt ∧ v.toInt ≤ hi.toInt)) := by
  unfold rIn at h
  split at h
  · rename_i q; exact Or.inl ⟨h, q⟩
  · rename_i q; exact Or.inr ⟨h, q⟩
theorem rIn_no {v lo hi r : Int32} (h : r = rIn v lo hi) (h2 : hi.toInt < lo.toInt) : r = 0 := by
  rcases rIn_c h with ⟨_, q⟩ | ⟨q, _⟩
  · omega
  · exact q
theorem nat_of {x : Int32} {a b : Int} (h1 : a ≤ x.toInt) (h2 : x.toInt ≤ b) (ha : 0 ≤ a) (hb : b < 2 ^ 31) : ∃ j : Nat, a ≤ (j : Int) ∧ (j : Int) ≤ b ∧ x = nI j := by
  refine ⟨x.toInt.toNat, by omega, by omega, ?_⟩
  apply Int32.toInt_inj.mp
  rw [nI_toInt (by omega)]
  omega
