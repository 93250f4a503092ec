theorem kxcl : Cond.classLink RX10 174 "java/util/NoSuchElementException" ∈ gT := List.mem_filter.mpr ⟨List.mem_of_getElem? (i := 1389) (by decide +kernel), by decide +kernel⟩
theorem kxin : Cond.initialized "java/util/NoSuchElementException" ∈ gT := List.mem_filter.mpr ⟨List.mem_of_getElem? (i := 150) (by decide +kernel), by decide +kernel⟩
/-! book() and quarrel() of a fresh object throw; the law's helpers catch it -/
abbrev NSE : String := "java/util/NoSuchElementException"
abbrev nseUp : List String := ["java/lang/RuntimeException", "java/lang/Exception"]
def Xd (U : State) : Prop := va_Nw (.castable NSE NSE) U ∧ va_Nw (.declares ⟨"java/lang/RuntimeException", "<init>", "()V"⟩) U ∧ va_Nw (.declares ⟨"java/lang/Exception", "<init>", "()V"⟩) U ∧ va_Nw (.declares ⟨"java/lang/Throwable", "<init>", "()V"⟩) U
def Xz (A : Nat → Prop) (U : State) (H : Heap) : Prop := vx_Zq Bundle.tN "UNASSIGNED_STACK" Bundle.steD A U H ∧ vx_Zq Bundle.tN "SUPPRESSED_SENTINEL" Bundle.listD A U H
theorem Xd.warm {s U : State} (hW : s.WarmedH U.vm) (h : Xd s) : Xd U := ⟨va_Nw.warmC hW h.1, va_Nw.warmD hW h.2.1, va_Nw.warmD hW h.2.2.1, va_Nw.warmD hW h.2.2.2⟩
theorem Xd.calling {U : State} {g : JFrame} {mk : MethodId} {a : Array Value} (h : Xd U) : Xd (U.calling g mk a) := ⟨va_Nw.same (u := U) (U := U.calling g mk a) rfl rfl h.1, va_Nw.same (u := U) (U := U.calling g mk a) rfl rfl h.2.1, va_Nw.same (u := U) (U := U.calling g mk a) rfl rfl h.2.2.1, va_Nw.same (u := U) (U := U.calling g mk a) rfl rfl h.2.2.2⟩
theorem Xz.moved {A : Nat → Prop} {u U : State} {H : Heap} (hvm : u.vm.Alike U.vm) (h : Xz A u H) : Xz A U H := ⟨vx_Zq.moved hvm h.1, vx_Zq.moved hvm h.2⟩
theorem Xz.kept {A : Nat → Prop} {U : State} {H H1 : Heap} (h : Xz A U H) (hq : ∀ a : Nat, a < H.size → ¬ A a → H1[a]? = H[a]?) : Xz A U H1 := ⟨vx_Zq.kept h.1 hq, vx_Zq.kept h.2 hq⟩
theorem Xz.narrow {A B : Nat → Prop} {U : State} {H : Heap} (h : Xz A U H) (hAB : ∀ q, B q → A q) : Xz B U H := ⟨vx_Zq.narrow h.1 hAB, vx_Zq.narrow h.2 hAB⟩
abbrev PxX (D : va_G) (cy : Nat → ClassId) (sz : Nat) (ws : va_W) : State → Prop := fun U => Px D cy sz ws U ∧ Xd U ∧ Xz (va_A ws sz) U U.heap
theorem PxX.blind {D : va_G} {cy : Nat → ClassId} {sz : Nat} {ws : va_W} {av : List Value} : FrameBlind (va_Pc av (PxX D cy sz ws)) := fun a U g mk q => by
  obtain ⟨q0, ⟨q1, qP, qK, qD⟩, qd, qz⟩ := q
  exact ⟨q0, ⟨q1, qP, qK.calling, qD⟩, qd.calling, Xz.moved (u := U) (U := U.calling g mk a) (Vm.Alike.refl U.vm) qz⟩
abbrev MX (l : Launch) (y : MethodName) (bytes : ByteArray) (maxL : Nat) (rm : Room) (D : va_G) (cy : Nat → ClassId) (av : List Value) (sz : Nat) (ws : va_W) : Prop :=
  vx_Met l y (.code y bytes maxL (some .int) :: gT) rm (va_Pc av (PxX D cy sz ws)) (va_Qi (fun (_ : Int32) (_ : Unit) => False) (fun _ _ => True) (va_A ws sz)) (vx_X (fun _ : Unit => True) (fun E _ _ => E = NSE) (va_A ws sz)) rm.cells rm.slots (va_A ws sz)
theorem MX.enter {l : Launch} {y : MethodName} {bytes : ByteArray} {maxL : Nat} {rm : Room} {D : va_G} {cy : Nat → ClassId} {av : List Value} {sz : Nat} {ws : va_W} (hy : plainName y.cls = true) (hlen : (lg_sl av).length ≤ maxL)
    (body : ∀ (p : Program) (e : Env) (s : State) (m : MethodId) (below : List Frame) (meth : Method) (c : Code) (ls : Array Slot) (A : Nat → Prop), s.heap.size = sz → va_A ws sz = A → Cx p s m av.toArray meth c bytes maxL (some .int) y.cls y.name D cy A → (∀ x ∈ c.exceptionTable.toList, False) → Xd s → Xz A s s.heap → va_P D vwCl ws s.heap → va_D A ws → va_S A s.heap s.heap [] → lv_has ls maxL (lv_args 0 av) →
      W p l e rm s m av.toArray below meth c s.heap [] 0 0 (vx_MQ below (va_Qi (fun (_ : Int32) (_ : Unit) => False) (fun _ _ => True) A) (vx_X (fun _ : Unit => True) (fun E _ _ => E = NSE) A) av.toArray s rm.cells rm.slots A) (F0 m 0 ls [])) : MX l y bytes maxL rm D cy av sz ws := by
  refine vx_ofW (cc := bytes) (maxL := maxL) (ret := some .int) hy rfl ?_
  intro p e s m args below meth c s₁ B hml htab hv
  obtain ⟨rfl, ⟨hsz, hP, hK, hD0⟩, hd, hz⟩ := hv
  have hts := atoms_spec (ws := .code y bytes maxL (some .int) :: gT) B.pre
  have hown : s.vm.findClass y.cls = some m.cls := findClass_of_methodNamed B.named
  have hl := lv_entry av (n := maxL) hlen
  rw [lg_entry_eq]
  exact body p e s m below meth c _ (va_A ws sz) hsz rfl ⟨B.exec, B.bytes, hml, hown, fun w h => hts w (List.mem_cons_of_mem _ h), hK, fun q h => Or.inr (by rw [← hsz]; exact h), B.returns, B.notSynchronized, (name_of_methodNamed B.named B.method).1⟩ htab hd hz hP hD0.self va_S.rf hl
theorem xat_good : ∀ w ∈ (vx_at0 RX10 176 NSE nseUp).filter goodWord, w ∈ lw_tbl := by decide +kernel
theorem xat_bad : ∀ w ∈ (vx_at0 RX10 176 NSE nseUp).filter (fun w => !goodWord w), w ∈ ([.castable NSE NSE, .declares ⟨"java/lang/RuntimeException", "<init>", "()V"⟩, .declares ⟨"java/lang/Exception", "<init>", "()V"⟩, .declares ⟨"java/lang/Throwable", "<init>", "()V"⟩] : List Cond) := by decide +kernel
theorem xat_ot : ∀ w ∈ Cond.classLink RX10 174 NSE :: Cond.initialized NSE :: vx_at0 RX10 176 NSE nseUp, vx_ot w = true := by decide +kernel
/-- the throw itself -/
theorem q_throw {p : Program} {l : Launch} {e : Env} {s : State} {m : MethodId} {args : Array Value} {below : List Frame} {meth : Method} {c : Code} {H : Heap} {locs : List Loc} {cells slots : Nat} {cc : ByteArray} {pc nL : Nat} {ls : Array Slot} {nm : String} {ret0 : Option FieldType} {D : va_G} {cy : Nat → ClassId} {A : Nat → Prop} {rm : Room} {Qc : Array Value → State → Outcome → State → Prop}
    (hl : l.stackTraces = false) (C : Cx p s m args meth c cc nL ret0 RX10 nm D cy A) (htab : ∀ x ∈ c.exceptionTable.toList, False) (hd : Xd s) (hz : Xz A s s.heap) (hS : va_S A s.heap H locs) (hls : ls.size = nL)
    (d0 : decode cc pc = .ok (.new 174, 3)) (d3 : decode cc (pc + 3) = .ok (.dup, 1)) (d4 : decode cc (pc + 4) = .ok (.invokespecial 176, 3)) (d7 : decode cc (pc + 7) = .ok (.athrow, 1))
    (hf : 5 < rm.frames) (hlo : 81 ≤ rm.locals) (hc : cells + 1 ≤ rm.cells) (hs : slots + 6 ≤ rm.slots) :
    W p l e rm s m args below meth c H locs cells slots (vx_MQ below Qc (vx_X (fun _ : Unit => True) (fun E _ _ => E = NSE) A) args s rm.cells rm.slots A) (F0 m pc ls []) := by
  obtain ⟨hx, hb, hml, hown, hts, hK, hA, hr, hlocks, -⟩ := C
  have hat : ∀ w ∈ vx_at0 RX10 176 NSE nseUp, w.before args s = true := by
    refine vx_hat (fun w h => hts w (List.mem_filter.mpr ⟨xat_good w h, (List.mem_filter.mp h).2⟩)) xat_bad ?_
    exact vx_c (va_Nw.use rfl hd.1) (vx_c (va_Nw.use rfl hd.2.1) (vx_c (va_Nw.use rfl hd.2.2.1) (vx_c (va_Nw.use rfl hd.2.2.2) vx_n)))
  exact vx_throw0 (own := RX10) (cls := NSE) (names := nseUp) (ik := 174) (ic := 176) (A := A) hx hb hl hown (by decide +kernel) (by decide +kernel) (hts _ kxcl) (hts _ kxin) hat xat_ot hz.1 hz.2 hS (hls.trans hml.symm) d0 d3 d4 d7 (fun x h => (htab x h).elim) hf hlo hc hs hlocks
    (fun t hvm hsz hsame => ⟨(), trivial, rfl, Nat.le_trans hS.1 hsz, fun q h1 h2 => (hsame q (Nat.lt_of_lt_of_le h1 hS.1)).trans (hS.2.1 q h1 h2)⟩) hS.2.2 hc hs
/-- a method with a table of its own that returns -/
theorem Met.ofWT {l : Launch} {y : MethodName} {ws ws' : List Cond} {rm : Room} {Pc : Array Value → State → Prop} {Qc : Array Value → State → Outcome → State → Prop} {mc ms : Nat} {free : Addr → Prop} {cc : ByteArray} {maxL : Nat} {ret : Option FieldType} {hh : List (Nat × Nat × Nat × Nat)}
    (hy : plainName y.cls = true) (hw : ws = Cond.codeWith y cc maxL ret hh :: ws')
    (body : ∀ p e s m args below meth c s₁, BodyLoose p l y (headSpec ws rm) cc maxL ret e s m args below meth c s₁ → c.maxLocals = maxL → Pc args s →
      W p l e (headSpec ws rm).room s m args below meth c s.heap [] 0 0 (MQ below Qc args s mc ms free) (entryFrame m args maxL)) : Met l y ws rm Pc Qc mc ms free := by
  refine MetFree.of_bodyS (code := cc) (maxLocals := maxL) (ret := ret) hy ?_ ?_
  · intro args s m h hn
    obtain ⟨m9, meth, c, hn9, h1, h2, h3, h4, -, h5, h6, -⟩ := Cond.codeWith_spec (atoms_spec (ws := ws) h _ (by rw [hw]; exact List.mem_cons_self))
    cases hn.symm.trans hn9
    exact ⟨meth, c, h1, h2, h3, h4, h5, h6⟩
  · intro p e s m args below meth c s₁ B hml hP _
    have hh0 : s₁.heap = s.heap := by rw [B.state]; rfl
    obtain ⟨t, a1, o, b1, b2, b3⟩ := body p e s m args below meth c s₁ B hml hP s₁ hh0 (Stand.of_body B)
    exact ⟨t, o, a1, b1, b2, ⟨b3.1, b3.2⟩⟩
def MwT (y : MethodName) (bytes : ByteArray) (maxL : Nat) (hh : List (Nat × Nat × Nat × Nat)) (n : Nat) : Prop := Cond.codeWith y bytes maxL (some .int) hh ∈ gT ∧ Cond.static y ∈ gT ∧ Cond.initialized y.cls ∈ gT ∧ (y.cls ≠ "java/lang/invoke/MethodHandle" ∧ y.cls ≠ "java/lang/invoke/VarHandle" ∧ (parseMethodDescriptor y.desc).map (fun d => d.parameters.length) = some n)
abbrev MT (l : Launch) (y : MethodName) (bytes : ByteArray) (maxL : Nat) (hh : List (Nat × Nat × Nat × Nat)) (rm : Room) (D : va_G) (cy : Nat → ClassId) (av : List Value) (sz : Nat) (ws : va_W) : Prop :=
  Met l y (.codeWith y bytes maxL (some .int) hh :: gT) rm (va_Pc av (PxX D cy sz ws)) (va_Qi (fun (r : Int32) (_ : Unit) => r = 1) (Bx D (va_A ws sz) (fun _ : Unit => [])) (va_A ws sz)) rm.cells rm.slots (va_A ws sz)
section ExcC
variable {p : Program} {l : Launch} {e : Env} {R : Room} {s : State} {m : MethodId} {args : Array Value} {below : List Frame} {meth : Method} {c : Code} {H : Heap} {locs : List Loc} {cells slots : Nat} {Q : State → Prop}
variable {cc : ByteArray} {pc nL : Nat} {ls : Array Slot} {rest st0 : List Value} {own nm : String} {ret0 : Option FieldType} {D : va_G} {cy : Nat → ClassId} {A : Nat → Prop} {ws wc wr : va_W}
variable {y : MethodName} {bytes : ByteArray} {maxL : Nat} {ret : Option FieldType} {rm : Room} {As : List Value} {n index : Nat}
theorem r_VX {Cn : String} {T : u_T} {N ci q0 b : Nat} {fs : List Value} {Qc : Array Value → State → Outcome → State → Prop} {XC : String → State → State → Prop} (C : Cx p s m args meth c cc nL ret0 own nm D cy A) (hd : Xd s) (hz : Xz A s s.heap) (hS : va_S A s.heap H locs) (hFc : ∀ q, va_A wc H.size q → A q) (hPc : va_P D vwCl wc H) (hDc : va_D A wc) (hM : vx_Met l y (.code y bytes maxL ret :: gT) rm (va_Pc (.ref b :: As) (PxX D cy H.size wc)) Qc XC rm.cells rm.slots (va_A wc H.size))
    (hw : MwV Cn y bytes maxL ret n) (hl : Cond.methodLink own index y ∈ gT) (hc : vwCl[ci]? = some (Cn, T, N)) (he : wc[q0]? = some (b, .inr (ci, fs))) (hR : rm.frames + 1 ≤ R.frames ∧ 8 + (maxL + 11) + rm.locals ≤ R.locals) (hn : As.length = n) (hls : ls.size = nL) (hst : st0 = As.reverse ++ .ref b :: rest) (h8 : (rest.map fun v => v.category).sum ≤ 8) (hdg : decode cc pc = .ok (.invokevirtual index, 3)) (hcs : cells + rm.cells ≤ R.cells ∧ slots + rm.slots ≤ R.slots) :
    vx_Run p l e R s m args below meth c H locs cells slots rm.cells rm.slots (F0 m pc ls st0) rest (Qc (Value.ref b :: As).toArray) XC (va_A wc H.size) := by
  obtain ⟨hx, hb, hml, hown, hts, hK, hA, hr, hlocks, -⟩ := C
  obtain ⟨k1, k2, k3, k4, k5⟩ := hw
  refine vx_runV (As := As) (rest := rest) ⟨hx, hb, hml, hown, hts⟩ hM (cwV n hts (gIn (fun w h => ?_)) rfl rfl rfl k5 hR) ⟨PxX.blind, va_recv hK.1 hPc hc he, fun U hU hW => ⟨rfl, ⟨by rw [hU], by rw [hU]; exact hPc, hK.warm hW, hDc.weaken (fun _ _ _ _ => trivial)⟩, hd.warm hW, by rw [hU]; exact ((hz.kept (fun a h1 h2 => hS.2.1 a h1 h2)).narrow hFc).moved hW.alike⟩⟩ rfl hn hls hst (lv_room h8) hdg hcs
  rcases List.mem_append.mp h with h | h
  · simp only [List.mem_cons, List.not_mem_nil, or_false] at h
    rcases h with rfl | rfl | rfl | rfl
    · exact hl
    · exact k2
    · exact k3
    · exact k4
  · rcases List.mem_cons.mp h with rfl | h
    · exact k1
    · exact h
theorem r_SW {hh : List (Nat × Nat × Nat × Nat)} {Qc : Array Value → State → Outcome → State → Prop} (C : Cx p s m args meth c cc nL ret0 own nm D cy A) (hd : Xd s) (hz : Xz A s s.heap) (hS : va_S A s.heap H locs) (hFc : ∀ q, va_A wc H.size q → A q) (hPc : va_P D vwCl wc H) (hDc : va_D A wc) (hM : Met l y (.codeWith y bytes maxL (some .int) hh :: gT) rm (va_Pc As (PxX D cy H.size wc)) Qc rm.cells rm.slots (va_A wc H.size))
    (hw : MwT y bytes maxL hh n) (hl : Cond.methodLink own index y ∈ gT) (hR : rm.frames + 1 ≤ R.frames ∧ 8 + (maxL + 11) + rm.locals ≤ R.locals) (hn : As.length = n) (hls : ls.size = nL) (hst : st0 = As.reverse ++ rest) (h8 : (rest.map fun v => v.category).sum ≤ 8) (hdg : decode cc pc = .ok (.invokestatic index, 3)) (hcs : cells + rm.cells ≤ R.cells ∧ slots + rm.slots ≤ R.slots) :
    va_Run p l e R s m args below meth c H locs cells slots rm.cells rm.slots (F0 m pc ls st0) rest (Qc As.toArray) (va_A wc H.size) := by
  obtain ⟨hx, hb, hml, hown, hts, hK, hA, hr, hlocks, -⟩ := C
  obtain ⟨k1, k2, k3, k5⟩ := hw
  refine vx_runSW (As := As) (rest := rest) ⟨hx, hb, hml, hown, hts⟩ hM (vx_cwSW n hts (gIn (fun w h => ?_)) rfl rfl rfl k5 hR) ⟨PxX.blind, fun U hU hW => ⟨rfl, ⟨by rw [hU], by rw [hU]; exact hPc, hK.warm hW, hDc.weaken (fun _ _ _ _ => trivial)⟩, hd.warm hW, by rw [hU]; exact ((hz.kept (fun a h1 h2 => hS.2.1 a h1 h2)).narrow hFc).moved hW.alike⟩⟩ rfl hn hls hst (lv_room h8) hdg hcs
  rcases List.mem_append.mp h with h | h
  · simp only [List.mem_cons, List.not_mem_nil, or_false] at h
    rcases h with rfl | rfl | rfl
    · exact hl
    · exact k2
    · exact k3
  · rcases List.mem_cons.mp h with rfl | h
    · exact k1
    · exact h
end ExcC
theorem dX10_book_0 : decode cX10_book 0 = .ok (.aload_n 0, 1) := by decide +kernel
theorem dX10_book_1 : decode cX10_book 1 = .ok (.getfield 19, 3) := by decide +kernel
theorem dX10_book_4 : decode cX10_book 4 = .ok (.iload_n 1, 1) := by decide +kernel
theorem dX10_book_5 : decode cX10_book 5 = .ok (.invokevirtual 170, 3) := by decide +kernel
theorem dX10_book_8 : decode cX10_book 8 = .ok (.ifCond .eq 13, 3) := by decide +kernel
theorem dX10_book_21 : decode cX10_book 21 = .ok (.new 174, 3) := by decide +kernel
theorem dX10_book_24 : decode cX10_book 24 = .ok (.dup, 1) := by decide +kernel
theorem dX10_book_25 : decode cX10_book 25 = .ok (.invokespecial 176, 3) := by decide +kernel
theorem dX10_book_28 : decode cX10_book 28 = .ok (.athrow, 1) := by decide +kernel
theorem dX10_quarrel_0 : decode cX10_quarrel 0 = .ok (.iconst 0, 1) := by decide +kernel
theorem dX10_quarrel_1 : decode cX10_quarrel 1 = .ok (.istore_n 2, 1) := by decide +kernel
theorem dX10_quarrel_2 : decode cX10_quarrel 2 = .ok (.iload_n 2, 1) := by decide +kernel
theorem dX10_quarrel_3 : decode cX10_quarrel 3 = .ok (.aload_n 0, 1) := by decide +kernel
theorem dX10_quarrel_4 : decode cX10_quarrel 4 = .ok (.getfield 19, 3) := by decide +kernel
theorem dX10_quarrel_7 : decode cX10_quarrel 7 = .ok (.getfield 211, 3) := by decide +kernel
theorem dX10_quarrel_10 : decode cX10_quarrel 10 = .ok (.if_icmp .ge 17, 3) := by decide +kernel
theorem dX10_quarrel_27 : decode cX10_quarrel 27 = .ok (.iload_n 2, 1) := by decide +kernel
theorem dX10_quarrel_28 : decode cX10_quarrel 28 = .ok (.aload_n 0, 1) := by decide +kernel
theorem dX10_quarrel_29 : decode cX10_quarrel 29 = .ok (.getfield 19, 3) := by decide +kernel
theorem dX10_quarrel_32 : decode cX10_quarrel 32 = .ok (.getfield 211, 3) := by decide +kernel
theorem dX10_quarrel_35 : decode cX10_quarrel 35 = .ok (.if_icmp .ge 12, 3) := by decide +kernel
theorem dX10_quarrel_47 : decode cX10_quarrel 47 = .ok (.new 174, 3) := by decide +kernel
theorem dX10_quarrel_50 : decode cX10_quarrel 50 = .ok (.dup, 1) := by decide +kernel
theorem dX10_quarrel_51 : decode cX10_quarrel 51 = .ok (.invokespecial 176, 3) := by decide +kernel
theorem dX10_quarrel_54 : decode cX10_quarrel 54 = .ok (.athrow, 1) := by decide +kernel
theorem kM_RL_7 : Cond.methodLink RL 7 yX10_book ∈ gT := List.mem_filter.mpr ⟨List.mem_of_getElem? (i := 1385) (by decide +kernel), by decide +kernel⟩
theorem kwV_X10_book : MwV RX10 yX10_book cX10_book 3 (some .int) 2 := ⟨List.mem_filter.mpr ⟨List.mem_of_getElem? (i := 1388) (by decide +kernel), by decide +kernel⟩, List.mem_filter.mpr ⟨List.mem_of_getElem? (i := 1386) (by decide +kernel), by decide +kernel⟩, List.mem_filter.mpr ⟨List.mem_of_getElem? (i := 1387) (by decide +kernel), by decide +kernel⟩, List.mem_filter.mpr ⟨List.mem_of_getElem? (i := 128) (by decide +kernel), by decide +kernel⟩, by decide +kernel⟩
theorem kxlaw : Cond.classLink RL 13 "java/util/NoSuchElementException" ∈ gT := List.mem_filter.mpr ⟨List.mem_of_getElem? (i := 1384) (by decide +kernel), by decide +kernel⟩
theorem dL_book_0 : decode cL_book 0 = .ok (.aload_n 3, 1) := by decide +kernel
theorem dL_book_1 : decode cL_book 1 = .ok (.iconst 0, 1) := by decide +kernel
theorem dL_book_2 : decode cL_book 2 = .ok (.aload_n 0, 1) := by decide +kernel
theorem dL_book_3 : decode cL_book 3 = .ok (.iload_n 1, 1) := by decide +kernel
theorem dL_book_4 : decode cL_book 4 = .ok (.iload_n 2, 1) := by decide +kernel
theorem dL_book_5 : decode cL_book 5 = .ok (.invokevirtual 7, 3) := by decide +kernel
theorem dL_book_13 : decode cL_book 13 = .ok (.astore 4, 2) := by decide +kernel
theorem dL_book_15 : decode cL_book 15 = .ok (.iconst 1, 1) := by decide +kernel
theorem dL_book_16 : decode cL_book 16 = .ok (.ireturn, 1) := by decide +kernel
theorem kwT_L_book : MwT yL_book cL_book 5 [(0, 10, 13, 13)] 4 := ⟨List.mem_filter.mpr ⟨List.mem_of_getElem? (i := 1383) (by decide +kernel), by decide +kernel⟩, List.mem_filter.mpr ⟨List.mem_of_getElem? (i := 1382) (by decide +kernel), by decide +kernel⟩, List.mem_filter.mpr ⟨List.mem_of_getElem? (i := 127) (by decide +kernel), by decide +kernel⟩, by decide +kernel⟩
theorem kM_RL_15 : Cond.methodLink RL 15 yX10_quarrel ∈ gT := List.mem_filter.mpr ⟨List.mem_of_getElem? (i := 1454) (by decide +kernel), by decide +kernel⟩
theorem kwV_X10_quarrel : MwV RX10 yX10_quarrel cX10_quarrel 3 (some .int) 1 := ⟨List.mem_filter.mpr ⟨List.mem_of_getElem? (i := 1457) (by decide +kernel), by decide +kernel⟩, List.mem_filter.mpr ⟨List.mem_of_getElem? (i := 1455) (by decide +kernel), by decide +kernel⟩, List.mem_filter.mpr ⟨List.mem_of_getElem? (i := 1456) (by decide +kernel), by decide +kernel⟩, List.mem_filter.mpr ⟨List.mem_of_getElem? (i := 128) (by decide +kernel), by decide +kernel⟩, by decide +kernel⟩
theorem dL_quarrel_0 : decode cL_quarrel 0 = .ok (.aload_n 2, 1) := by decide +kernel
theorem dL_quarrel_1 : decode cL_quarrel 1 = .ok (.iconst 0, 1) := by decide +kernel
theorem dL_quarrel_2 : decode cL_quarrel 2 = .ok (.aload_n 0, 1) := by decide +kernel
theorem dL_quarrel_3 : decode cL_quarrel 3 = .ok (.iload_n 1, 1) := by decide +kernel
theorem dL_quarrel_4 : decode cL_quarrel 4 = .ok (.invokevirtual 15, 3) := by decide +kernel
theorem dL_quarrel_12 : decode cL_quarrel 12 = .ok (.astore_n 3, 1) := by decide +kernel
theorem dL_quarrel_13 : decode cL_quarrel 13 = .ok (.iconst 1, 1) := by decide +kernel
theorem dL_quarrel_14 : decode cL_quarrel 14 = .ok (.ireturn, 1) := by decide +kernel
theorem kwT_L_quarrel : MwT yL_quarrel cL_quarrel 4 [(0, 9, 12, 13)] 3 := ⟨List.mem_filter.mpr ⟨List.mem_of_getElem? (i := 1453) (by decide +kernel), by decide +kernel⟩, List.mem_filter.mpr ⟨List.mem_of_getElem? (i := 1452) (by decide +kernel), by decide +kernel⟩, List.mem_filter.mpr ⟨List.mem_of_getElem? (i := 127) (by decide +kernel), by decide +kernel⟩, by decide +kernel⟩
set_option maxHeartbeats 4000000 in
set_option maxRecDepth 100000 in
theorem cx_book (l : Launch) (D : va_G) (cy : Nat → ClassId) (h : Nat) (n : Int32) (v : Int32) (ta : Nat) (pl : Nat) (sh : Nat) (tr : Nat) (fo : Nat) (li : Nat) (sp : Nat) (dr : Nat) (pa : Nat) (im : Nat) (fs : Nat) (ph : Nat) (cd : Nat) (pl0 : Nat) (pl1 : Nat) (pl2 : Nat) (sz : Nat) (hst : l.stackTraces = false) : MX l yX10_book cX10_book 3 (Rm 6 81 1 6) D cy [.ref h, .int n, .int v] sz [(h, .inr (10, [.ref ta, .ref pl, .ref sh, .ref tr, .ref fo, .ref li, .ref sp, .ref dr, .ref pa, .ref im, .ref fs, .ref ph, .ref cd, .int 0, .int 0])), (pl, .inr (6, [.int 4, .int 4, .int 10, .int 1, .int 3, .int 0, .int 0, .int 0, .ref pl0, .ref pl1, .ref pl2]))] := by
  refine MX.enter (by decide) (Nat.le_of_ble_eq_true rfl) ?_
  intro p e s m below meth c ls A hsz hAe C htab hd hz hP hD hS hl
  have C : Cx p s m _ meth c cX10_book 3 (some .int) RX10 "book" D cy A := C
  have hx := C.1
  have hb := C.2.1
  have hl : lv_has ls 3 [(0, .ref h), (1, .int n), (2, .int v)] := hl
  refine lv_aload_n hx hb dX10_book_0 rfl (lv_at hl 0 rfl) ?_
  refine q_get (v := .ref pl) C hP 0 1 rfl rfl inX10 (by decide) kF_RX10_19 rfl rfl dX10_book_1 ?_
  refine lv_iload_n hx hb dX10_book_4 rfl (lv_at hl 1 rfl) ?_
  refine q_ai (wr := [(h, .inr (10, [.ref ta, .ref pl, .ref sh, .ref tr, .ref fo, .ref li, .ref sp, .ref dr, .ref pa, .ref im, .ref fs, .ref ph, .ref cd, .int 0, .int 0]))]) (r_V (q0 := 0) (As := [.int n]) (rest := []) (wc := [(pl, .inr (6, [.int 4, .int 4, .int 10, .int 1, .int 3, .int 0, .int 0, .int 0, .ref pl0, .ref pl1, .ref pl2]))]) C (q_subP hP [1] rfl) (hD.sub [1] (by decide) rfl) (c_hasBook l D cy pl n pl0 pl1 pl2 _ ) kwV_X6_hasBook kM_RX10_170 rfl rfl ⟨Nat.le_of_ble_eq_true rfl, Nat.le_of_ble_eq_true rfl⟩ rfl hl.1 rfl (Nat.le_of_ble_eq_true rfl) dX10_book_5 ⟨Nat.le_of_ble_eq_true rfl, Nat.le_of_ble_eq_true rfl⟩) C.2.2.2.2.2.2.1 hP hD hS [1] [0] rfl rfl (by decide) (by decide) (fun r_2 u_1 H locs hw_3 hP hD hS => ?_)
  have hP : va_P D vwCl [(h, .inr (10, [.ref ta, .ref pl, .ref sh, .ref tr, .ref fo, .ref li, .ref sp, .ref dr, .ref pa, .ref im, .ref fs, .ref ph, .ref cd, .int 0, .int 0])), (pl, .inr (6, [.int 4, .int 4, .int 10, .int 1, .int 3, .int 0, .int 0, .int 0, .ref pl0, .ref pl1, .ref pl2]))] H := hP
  have hD : va_D A [(h, .inr (10, [.ref ta, .ref pl, .ref sh, .ref tr, .ref fo, .ref li, .ref sp, .ref dr, .ref pa, .ref im, .ref fs, .ref ph, .ref cd, .int 0, .int 0])), (pl, .inr (6, [.int 4, .int 4, .int 10, .int 1, .int 3, .int 0, .int 0, .int 0, .ref pl0, .ref pl1, .ref pl2]))] := hD
  obtain rfl : r_2 = 0 := hw_3
  refine lv_if_eq (tgt := 21) hx hb dX10_book_8 (by decide) (fun _ => ?_) (fun c_0 => absurd (by decide) c_0)
  exact q_throw hst C htab hd hz hS hl.1 dX10_book_21 dX10_book_24 dX10_book_25 dX10_book_28 (Nat.le_of_ble_eq_true rfl) (Nat.le_of_ble_eq_true rfl) (Nat.le_of_ble_eq_true rfl) (Nat.le_of_ble_eq_true rfl)
set_option maxHeartbeats 4000000 in
set_option maxRecDepth 100000 in
theorem cx_quarrel (l : Launch) (D : va_G) (cy : Nat → ClassId) (h : Nat) (n : Int32) (ta : Nat) (pl : Nat) (sh : Nat) (tr : Nat) (fo : Nat) (li : Nat) (sp : Nat) (dr : Nat) (pa : Nat) (im : Nat) (fs : Nat) (ph : Nat) (cd : Nat) (pl0 : Nat) (pl1 : Nat) (pl2 : Nat) (sz : Nat) (hst : l.stackTraces = false) : MX l yX10_quarrel cX10_quarrel 3 (Rm 6 81 1 6) D cy [.ref h, .int n] sz [(h, .inr (10, [.ref ta, .ref pl, .ref sh, .ref tr, .ref fo, .ref li, .ref sp, .ref dr, .ref pa, .ref im, .ref fs, .ref ph, .ref cd, .int 0, .int 0])), (pl, .inr (6, [.int 4, .int 4, .int 10, .int 1, .int 3, .int 0, .int 0, .int 0, .ref pl0, .ref pl1, .ref pl2]))] := by
  refine MX.enter (by decide) (Nat.le_of_ble_eq_true rfl) ?_
  intro p e s m below meth c ls A hsz hAe C htab hd hz hP hD hS hl
  have C : Cx p s m _ meth c cX10_quarrel 3 (some .int) RX10 "quarrel" D cy A := C
  have hx := C.1
  have hb := C.2.1
  have hl : lv_has ls 3 [(0, .ref h), (1, .int n)] := hl
  refine lv_iconst (v := 0) hx hb dX10_quarrel_0 (by decide) ?_
  refine lv_istore_n (lv' := [(2, .int 0), (0, .ref h), (1, .int n)]) hx hb dX10_quarrel_1 rfl hl (by decide) rfl (fun ls hl => ?_)
  refine lv_iload_n hx hb dX10_quarrel_2 rfl (lv_at hl 0 rfl) ?_
  refine lv_aload_n hx hb dX10_quarrel_3 rfl (lv_at hl 1 rfl) ?_
  refine q_get (v := .ref pl) C hP 0 1 rfl rfl inX10 (by decide) kF_RX10_19 rfl rfl dX10_quarrel_4 ?_
  refine q_get (v := .int 0) C hP 1 6 rfl rfl inX6 (by decide) kF_RX10_211 rfl rfl dX10_quarrel_7 ?_
  refine lv_icmp_ge (tgt := 27) hx hb dX10_quarrel_10 (by decide) (fun _ => ?_) (fun c_0 => absurd (by decide) c_0)
  refine lv_iload_n hx hb dX10_quarrel_27 rfl (lv_at hl 0 rfl) ?_
  refine lv_aload_n hx hb dX10_quarrel_28 rfl (lv_at hl 1 rfl) ?_
  refine q_get (v := .ref pl) C hP 0 1 rfl rfl inX10 (by decide) kF_RX10_19 rfl rfl dX10_quarrel_29 ?_
  refine q_get (v := .int 0) C hP 1 6 rfl rfl inX6 (by decide) kF_RX10_211 rfl rfl dX10_quarrel_32 ?_
  refine lv_icmp_ge (tgt := 47) hx hb dX10_quarrel_35 (by decide) (fun _ => ?_) (fun c_0 => absurd (by decide) c_0)
  exact q_throw hst C htab hd hz hS hl.1 dX10_quarrel_47 dX10_quarrel_50 dX10_quarrel_51 dX10_quarrel_54 (Nat.le_of_ble_eq_true rfl) (Nat.le_of_ble_eq_true rfl) (Nat.le_of_ble_eq_true rfl) (Nat.le_of_ble_eq_true rfl)
set_option maxHeartbeats 4000000 in
set_option maxRecDepth 100000 in
theorem cL_book_c (l : Launch) (D : va_G) (cy : Nat → ClassId) (h : Nat) (ta : Nat) (pl : Nat) (sh : Nat) (tr : Nat) (fo : Nat) (li : Nat) (sp : Nat) (dr : Nat) (pa : Nat) (im : Nat) (fs : Nat) (ph : Nat) (cd : Nat) (pl0 : Nat) (pl1 : Nat) (pl2 : Nat) (v1 : Int32) (v2 : Int32) (qo : Nat) (sz : Nat) (hst : l.stackTraces = false) : MT l yL_book cL_book 5 [(0, 10, 13, 13)] (Rm 7 103 1 6) D cy [.ref h, .int v1, .int v2, .ref qo] sz [(h, .inr (10, [.ref ta, .ref pl, .ref sh, .ref tr, .ref fo, .ref li, .ref sp, .ref dr, .ref pa, .ref im, .ref fs, .ref ph, .ref cd, .int 0, .int 0])), (pl, .inr (6, [.int 4, .int 4, .int 10, .int 1, .int 3, .int 0, .int 0, .int 0, .ref pl0, .ref pl1, .ref pl2]))] := by
  refine Met.ofWT (cc := cL_book) (maxL := 5) (ret := some .int) (by decide) rfl ?_
  intro p e s m args below meth c s₁ B hml hv
  obtain ⟨rfl, ⟨hsz, hP, hK, hD0⟩, hd, hz⟩ := hv
  have hts := atoms_spec (ws := .codeWith yL_book cL_book 5 (some .int) [(0, 10, 13, 13)] :: gT) B.pre
  have htab := vx_table (x := yL_book) B (hts _ List.mem_cons_self)
  have hown : s.vm.findClass RL = some m.cls := findClass_of_methodNamed B.named
  have hl := lv_entry [.ref h, .int v1, .int v2, .ref qo] (n := 5) (Nat.le_of_ble_eq_true rfl)
  rw [lg_entry_eq]
  generalize (lg_sl [.ref h, .int v1, .int v2, .ref qo] ++ List.replicate (5 - (lg_sl [.ref h, .int v1, .int v2, .ref qo]).length) Slot.unset).toArray = ls at hl ⊢
  have hl : lv_has ls 5 [(0, .ref h), (1, .int v1), (2, .int v2), (3, .ref qo)] := hl
  have hD := hD0.self (sz := sz)
  generalize hAe : va_A [(h, .inr (10, [.ref ta, .ref pl, .ref sh, .ref tr, .ref fo, .ref li, .ref sp, .ref dr, .ref pa, .ref im, .ref fs, .ref ph, .ref cd, .int 0, .int 0])), (pl, .inr (6, [.int 4, .int 4, .int 10, .int 1, .int 3, .int 0, .int 0, .int 0, .ref pl0, .ref pl1, .ref pl2]))] sz = A at hD hz ⊢
  have hA : ∀ q, s.heap.size ≤ q → A q := fun q h => (by rw [← hAe]; exact Or.inr (by rw [← hsz]; exact h))
  have hS : va_S A s.heap s.heap [] := va_S.rf
  have C : Cx p s m _ meth c cL_book 5 (some .int) RL "book" D cy A := ⟨B.exec, B.bytes, hml, hown, fun w h => hts w (List.mem_cons_of_mem _ h), hK, hA, B.returns, B.notSynchronized, (name_of_methodNamed B.named B.method).1⟩
  have hx := C.1
  have hb := C.2.1
  refine lv_aload_n hx hb dL_book_0 rfl (lv_at hl 3 rfl) ?_
  refine lv_iconst (v := 0) hx hb dL_book_1 (by decide) ?_
  refine lv_aload_n hx hb dL_book_2 rfl (lv_at hl 0 rfl) ?_
  refine lv_iload_n hx hb dL_book_3 rfl (lv_at hl 1 rfl) ?_
  refine lv_iload_n hx hb dL_book_4 rfl (lv_at hl 2 rfl) ?_
  have hFc := va_free (wc := [(h, .inr (10, [.ref ta, .ref pl, .ref sh, .ref tr, .ref fo, .ref li, .ref sp, .ref dr, .ref pa, .ref im, .ref fs, .ref ph, .ref cd, .int 0, .int 0])), (pl, .inr (6, [.int 4, .int 4, .int 10, .int 1, .int 3, .int 0, .int 0, .int 0, .ref pl0, .ref pl1, .ref pl2]))]) hD hS hA [0, 1] rfl
  refine vx_calli (r_VX (q0 := 0) (As := [.int v1, .int v2]) (rest := [.int 0, .ref qo]) (wc := [(h, .inr (10, [.ref ta, .ref pl, .ref sh, .ref tr, .ref fo, .ref li, .ref sp, .ref dr, .ref pa, .ref im, .ref fs, .ref ph, .ref cd, .int 0, .int 0])), (pl, .inr (6, [.int 4, .int 4, .int 10, .int 1, .int 3, .int 0, .int 0, .int 0, .ref pl0, .ref pl1, .ref pl2]))]) C hd hz hS hFc (q_subP hP [0, 1] rfl) (hD.sub [0, 1] (by decide) rfl) (cx_book l D cy h v1 v2 ta pl sh tr fo li sp dr pa im fs ph cd pl0 pl1 pl2 _ hst) kwV_X10_book kM_RL_7 rfl rfl ⟨Nat.le_of_ble_eq_true rfl, Nat.le_of_ble_eq_true rfl⟩ rfl hl.1 rfl (Nat.le_of_ble_eq_true rfl) dL_book_5 ⟨Nat.le_of_ble_eq_true rfl, Nat.le_of_ble_eq_true rfl⟩) hS (fun q _ h => hFc q h) hFc (fun q _ h => hFc q h) (fun E ce q9 u t H1 locs1 ht hvm hpx hB hz1 hk1 hS1 hce hcv hcl => ?_) (fun r u t H1 locs1 ht hvm hw => hw.elim)
  have hE : E = NSE := hB
  subst hE
  refine ct_catch (name := NSE) hown _ _ htab (by decide) (by decide) (C.2.2.2.2.1 _ kxlaw) (va_Nw.use rfl hd.1) hce hcv hcl ?_
  refine lv_astore (lv' := [(4, .ref q9), (0, .ref h), (1, .int v1), (2, .int v2), (3, .ref qo)]) hx hb dL_book_13 hl (by decide) rfl (fun ls hl => ?_)
  refine lv_iconst (v := 1) hx hb dL_book_15 (by decide) ?_
  exact q_iret (rm := (Rm 7 103 1 6)) C hS1 () rfl rfl (fun k q h => (by simp at h)) ⟨fun i j p q h => (by simp at h), fun k q h => (by simp at h)⟩ (Nat.le_of_ble_eq_true rfl) (Nat.le_of_ble_eq_true rfl) dL_book_16
set_option maxHeartbeats 4000000 in
set_option maxRecDepth 100000 in
theorem cL_quarrel_c (l : Launch) (D : va_G) (cy : Nat → ClassId) (h : Nat) (ta : Nat) (pl : Nat) (sh : Nat) (tr : Nat) (fo : Nat) (li : Nat) (sp : Nat) (dr : Nat) (pa : Nat) (im : Nat) (fs : Nat) (ph : Nat) (cd : Nat) (pl0 : Nat) (pl1 : Nat) (pl2 : Nat) (v1 : Int32) (qo : Nat) (sz : Nat) (hst : l.stackTraces = false) : MT l yL_quarrel cL_quarrel 4 [(0, 9, 12, 13)] (Rm 7 103 1 6) D cy [.ref h, .int v1, .ref qo] sz [(h, .inr (10, [.ref ta, .ref pl, .ref sh, .ref tr, .ref fo, .ref li, .ref sp, .ref dr, .ref pa, .ref im, .ref fs, .ref ph, .ref cd, .int 0, .int 0])), (pl, .inr (6, [.int 4, .int 4, .int 10, .int 1, .int 3, .int 0, .int 0, .int 0, .ref pl0, .ref pl1, .ref pl2]))] := by
  refine Met.ofWT (cc := cL_quarrel) (maxL := 4) (ret := some .int) (by decide) rfl ?_
  intro p e s m args below meth c s₁ B hml hv
  obtain ⟨rfl, ⟨hsz, hP, hK, hD0⟩, hd, hz⟩ := hv
  have hts := atoms_spec (ws := .codeWith yL_quarrel cL_quarrel 4 (some .int) [(0, 9, 12, 13)] :: gT) B.pre
  have htab := vx_table (x := yL_quarrel) B (hts _ List.mem_cons_self)
  have hown : s.vm.findClass RL = some m.cls := findClass_of_methodNamed B.named
  have hl := lv_entry [.ref h, .int v1, .ref qo] (n := 4) (Nat.le_of_ble_eq_true rfl)
  rw [lg_entry_eq]
  generalize (lg_sl [.ref h, .int v1, .ref qo] ++ List.replicate (4 - (lg_sl [.ref h, .int v1, .ref qo]).length) Slot.unset).toArray = ls at hl ⊢
  have hl : lv_has ls 4 [(0, .ref h), (1, .int v1), (2, .ref qo)] := hl
  have hD := hD0.self (sz := sz)
  generalize hAe : va_A [(h, .inr (10, [.ref ta, .ref pl, .ref sh, .ref tr, .ref fo, .ref li, .ref sp, .ref dr, .ref pa, .ref im, .ref fs, .ref ph, .ref cd, .int 0, .int 0])), (pl, .inr (6, [.int 4, .int 4, .int 10, .int 1, .int 3, .int 0, .int 0, .int 0, .ref pl0, .ref pl1, .ref pl2]))] sz = A at hD hz ⊢
  have hA : ∀ q, s.heap.size ≤ q → A q := fun q h => (by rw [← hAe]; exact Or.inr (by rw [← hsz]; exact h))
  have hS : va_S A s.heap s.heap [] := va_S.rf
  have C : Cx p s m _ meth c cL_quarrel 4 (some .int) RL "quarrel" D cy A := ⟨B.exec, B.bytes, hml, hown, fun w h => hts w (List.mem_cons_of_mem _ h), hK, hA, B.returns, B.notSynchronized, (name_of_methodNamed B.named B.method).1⟩
  have hx := C.1
  have hb := C.2.1
  refine lv_aload_n hx hb dL_quarrel_0 rfl (lv_at hl 2 rfl) ?_
  refine lv_iconst (v := 0) hx hb dL_quarrel_1 (by decide) ?_
  refine lv_aload_n hx hb dL_quarrel_2 rfl (lv_at hl 0 rfl) ?_
  refine lv_iload_n hx hb dL_quarrel_3 rfl (lv_at hl 1 rfl) ?_
  have hFc := va_free (wc := [(h, .inr (10, [.ref ta, .ref pl, .ref sh, .ref tr, .ref fo, .ref li, .ref sp, .ref dr, .ref pa, .ref im, .ref fs, .ref ph, .ref cd, .int 0, .int 0])), (pl, .inr (6, [.int 4, .int 4, .int 10, .int 1, .int 3, .int 0, .int 0, .int 0, .ref pl0, .ref pl1, .ref pl2]))]) hD hS hA [0, 1] rfl
  refine vx_calli (r_VX (q0 := 0) (As := [.int v1]) (rest := [.int 0, .ref qo]) (wc := [(h, .inr (10, [.ref ta, .ref pl, .ref sh, .ref tr, .ref fo, .ref li, .ref sp, .ref dr, .ref pa, .ref im, .ref fs, .ref ph, .ref cd, .int 0, .int 0])), (pl, .inr (6, [.int 4, .int 4, .int 10, .int 1, .int 3, .int 0, .int 0, .int 0, .ref pl0, .ref pl1, .ref pl2]))]) C hd hz hS hFc (q_subP hP [0, 1] rfl) (hD.sub [0, 1] (by decide) rfl) (cx_quarrel l D cy h v1 ta pl sh tr fo li sp dr pa im fs ph cd pl0 pl1 pl2 _ hst) kwV_X10_quarrel kM_RL_15 rfl rfl ⟨Nat.le_of_ble_eq_true rfl, Nat.le_of_ble_eq_true rfl⟩ rfl hl.1 rfl (Nat.le_of_ble_eq_true rfl) dL_quarrel_4 ⟨Nat.le_of_ble_eq_true rfl, Nat.le_of_ble_eq_true rfl⟩) hS (fun q _ h => hFc q h) hFc (fun q _ h => hFc q h) (fun E ce q9 u t H1 locs1 ht hvm hpx hB hz1 hk1 hS1 hce hcv hcl => ?_) (fun r u t H1 locs1 ht hvm hw => hw.elim)
  have hE : E = NSE := hB
  subst hE
  refine ct_catch (name := NSE) hown _ _ htab (by decide) (by decide) (C.2.2.2.2.1 _ kxlaw) (va_Nw.use rfl hd.1) hce hcv hcl ?_
  refine lv_astore_n (lv' := [(3, .ref q9), (0, .ref h), (1, .int v1), (2, .ref qo)]) hx hb dL_quarrel_12 rfl hl (by decide) rfl (fun ls hl => ?_)
  refine lv_iconst (v := 1) hx hb dL_quarrel_13 (by decide) ?_
  exact q_iret (rm := (Rm 7 103 1 6)) C hS1 () rfl rfl (fun k q h => (by simp at h)) ⟨fun i j p q h => (by simp at h), fun k q h => (by simp at h)⟩ (Nat.le_of_ble_eq_true rfl) (Nat.le_of_ble_eq_true rfl) dL_quarrel_14
