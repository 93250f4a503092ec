abbrev oC0 (a0 : Int32) (a1 : Int32) (a2 : Int32) (a3 : Nat) (a4 : Nat) (a5 : Nat) (a6 : Nat) (a7 : Nat) (a8 : Int32) (a9 : Nat) (a10 : Int32) (a11 : Int32) (a12 : Int32) (a13 : Int32) (a14 : Int32) (a15 : Int32) : va_E := .inr (0, [.int a0, .int a1, .int a2, .ref a3, .ref a4, .ref a5, .ref a6, .ref a7, .int a8, .ref a9, .int a10, .int a11, .int a12, .int a13, .int a14, .int a15])
abbrev oC1 (a0 : Nat) (a1 : Nat) (a2 : Nat) (a3 : Int32) (a4 : Int32) (a5 : Int32) (a6 : Int32) : va_E := .inr (1, [.ref a0, .ref a1, .ref a2, .int a3, .int a4, .int a5, .int a6])
abbrev oC2 (a0 : Int32) (a1 : Nat) (a2 : Nat) (a3 : Nat) : va_E := .inr (2, [.int a0, .ref a1, .ref a2, .ref a3])
abbrev oC3 (a0 : Int32) (a1 : Int32) (a2 : Int32) (a3 : Int32) (a4 : Int32) (a5 : Int32) (a6 : Nat) (a7 : Nat) (a8 : Nat) (a9 : Nat) : va_E := .inr (3, [.int a0, .int a1, .int a2, .int a3, .int a4, .int a5, .ref a6, .ref a7, .ref a8, .ref a9])
abbrev oC4 (a0 : Int32) (a1 : Int32) (a2 : Nat) : va_E := .inr (4, [.int a0, .int a1, .ref a2])
abbrev oC5 (a0 : Nat) (a1 : Int32) (a2 : Int32) (a3 : Nat) (a4 : Nat) (a5 : Nat) : va_E := .inr (5, [.ref a0, .int a1, .int a2, .ref a3, .ref a4, .ref a5])
abbrev oC6 (a0 : Int32) (a1 : Int32) (a2 : Int32) (a3 : Int32) (a4 : Int32) (a5 : Int32) (a6 : Int32) (a7 : Int32) (a8 : Nat) (a9 : Nat) (a10 : Nat) : va_E := .inr (6, [.int a0, .int a1, .int a2, .int a3, .int a4, .int a5, .int a6, .int a7, .ref a8, .ref a9, .ref a10])
abbrev oC7 (a0 : Int32) (a1 : Int32) (a2 : Int32) (a3 : Nat) (a4 : Nat) (a5 : Nat) (a6 : Nat) : va_E := .inr (7, [.int a0, .int a1, .int a2, .ref a3, .ref a4, .ref a5, .ref a6])
abbrev oC8 (a0 : Nat) (a1 : Nat) (a2 : Nat) (a3 : Nat) (a4 : Nat) (a5 : Int32) (a6 : Int32) (a7 : Nat) : va_E := .inr (8, [.ref a0, .ref a1, .ref a2, .ref a3, .ref a4, .int a5, .int a6, .ref a7])
abbrev oC9 (a0 : Nat) (a1 : Int32) (a2 : Int32) (a3 : Int32) (a4 : Int32) (a5 : Int32) (a6 : Int32) (a7 : Int32) (a8 : Int32) (a9 : Int32) (a10 : Int32) : va_E := .inr (9, [.ref a0, .int a1, .int a2, .int a3, .int a4, .int a5, .int a6, .int a7, .int a8, .int a9, .int a10])
abbrev oC10 (a0 : Nat) (a1 : Nat) (a2 : Nat) (a3 : Nat) (a4 : Nat) (a5 : Nat) (a6 : Nat) (a7 : Nat) (a8 : Nat) (a9 : Nat) (a10 : Nat) (a11 : Nat) (a12 : Nat) (a13 : Int32) (a14 : Int32) : va_E := .inr (10, [.ref a0, .ref a1, .ref a2, .ref a3, .ref a4, .ref a5, .ref a6, .ref a7, .ref a8, .ref a9, .ref a10, .ref a11, .ref a12, .int a13, .int a14])
abbrev oC11 (a0 : Int32) (a1 : Nat) (a2 : Int32) (a3 : Int32) (a4 : Int32) (a5 : Int32) (a6 : Nat) (a7 : Nat) (a8 : Nat) (a9 : Nat) (a10 : Nat) (a11 : Int32) (a12 : Int32) (a13 : Int32) (a14 : Int32) (a15 : Int32) (a16 : Int32) (a17 : Int64) (a18 : Int32) (a19 : Int32) (a20 : Int32) (a21 : Int32) (a22 : Int32) (a23 : Int32) (a24 : Int32) (a25 : Nat) (a26 : Nat) (a27 : Int32) (a28 : Nat) (a29 : Nat) (a30 : Int32) (a31 : Nat) (a32 : Nat) (a33 : Nat) (a34 : Nat) (a35 : Int32) (a36 : Int32) (a37 : Nat) (a38 : Nat) (a39 : Int32) (a40 : Int32) (a41 : Int32) (a42 : Int32) (a43 : Nat) (a44 : Int32) (a45 : Int32) (a46 : Nat) (a47 : Int32) (a48 : Nat) (a49 : Int32) (a50 : Int32) (a51 : Int32) (a52 : Int32) (a53 : Int32) (a54 : Nat) (a55 : Nat) (a56 : Nat) (a57 : Nat) : va_E := .inr (11, [.int a0, .ref a1, .int a2, .int a3, .int a4, .int a5, .ref a6, .ref a7, .ref a8, .ref a9, .ref a10, .int a11, .int a12, .int a13, .int a14, .int a15, .int a16, .long a17, .int a18, .int a19, .int a20, .int a21, .int a22, .int a23, .int a24, .ref a25, .ref a26, .int a27, .ref a28, .ref a29, .int a30, .ref a31, .ref a32, .ref a33, .ref a34, .int a35, .int a36, .ref a37, .ref a38, .int a39, .int a40, .int a41, .int a42, .ref a43, .int a44, .int a45, .ref a46, .int a47, .ref a48, .int a49, .int a50, .int a51, .int a52, .int a53, .ref a54, .ref a55, .ref a56, .ref a57])
abbrev aC0 (cy : Nat → ClassId) (n : Nat) (f : Nat → Int32) : va_E := .inl (cy 0, n, .inl f)
abbrev aC1 (cy : Nat → ClassId) (n : Nat) (f : Nat → Int32) : va_E := .inl (cy 1, n, .inl f)
abbrev aC2 (cy : Nat → ClassId) (n : Nat) (f : Nat → Int64) : va_E := .inl (cy 2, n, .inr (.inl f))
abbrev aC3 (cy : Nat → ClassId) (n : Nat) (f : Nat → Int32) : va_E := .inl (cy 3, n, .inl f)
abbrev aC4 (cy : Nat → ClassId) (n : Nat) (f : Nat → Option Nat) : va_E := .inl (cy 4, n, .inr (.inr (.inr (.inr f))))
abbrev aC5 (cy : Nat → ClassId) (n : Nat) (f : Nat → Option Nat) : va_E := .inl (cy 5, n, .inr (.inr (.inr (.inr f))))
section BaseE
variable {p : Program} {l : Launch} {e : Env} {R : Room} {s : State} {m : MethodId} {args : Array Value} {below : List Frame} {meth : Method} {c : Code} {H : Heap} {locs : List Loc} {cells slots : Nat} {Q : State → Prop}
variable {cc : ByteArray} {pc nL : Nat} {ls : Array Slot} {rest : List Value} {own nm : String} {ret0 : Option FieldType} {D : va_G} {cy : Nat → ClassId} {A : Nat → Prop} {ws : va_W}
theorem q_baldB (C : Cx p s m args meth c cc nL ret0 own nm D cy A) (hP : va_P D vwCl ws H) (q0 : Nat) {a n : Nat} {f : Nat → Int32} {i v : Int32} (ha : ws[q0]? = some (a, .inl (cy 0, n, .inl f))) (hin : vp_in i n) (hv : f i.toNatClampNeg = v) (hdg : decode cc pc = .ok (.baload, 1))
    (kk : W p l e R s m args below meth c H locs cells slots Q (F0 m (pc + 1) ls (.int v :: rest))) : W p l e R s m args below meth c H locs cells slots Q (F0 m pc ls (.int i :: .ref a :: rest)) := by
  obtain ⟨hx, hb, hml, hown, hts, hK, hA, hr, hlocks, -⟩ := C
  subst hv
  exact va_bald hx hb hK.1 hP q0 0 ha rfl hin hdg kk
theorem q_get11 {ref nm0 ds : String} {fin : Bool} {index : Nat} (C : Cx p s m args meth c cc nL ret0 own nm D cy A) (hP : va_P D vwCl ws H) (q0 k : Nat) {a : Nat} {fs : List Value} {v : Value} (he : ws[q0]? = some (a, .inr (11, fs))) (hT : TX11 k = (ref, nm0, ds, fin)) (hk : k < 58) (hlink : Cond.fieldLink own index ref nm0 ds ∈ gT) (hv : fs[k]? = some v) (hdg : decode cc pc = .ok (.getfield index, 3))
    (kk : W p l e R s m args below meth c H locs cells slots Q (F0 m (pc + 3) ls (v :: rest))) : W p l e R s m args below meth c H locs cells slots Q (F0 m pc ls (.ref a :: rest)) :=
  q_get (T := TX11) (N := 58) C hP q0 k he rfl inX11 hk (by rw [hT]; exact hlink) (by rw [hT]) hv hdg kk
theorem q_put11 {ref nm0 ds : String} {index : Nat} (C : Cx p s m args meth c cc nL ret0 own nm D cy A) (hP : va_P D vwCl ws H) (hD : va_D A ws) (hS : va_S A s.heap H locs) (q0 k : Nat) {a : Nat} {fs : List Value} {v : Value} {w' : va_W} {ty : FieldType} (he : ws[q0]? = some (a, .inr (11, fs))) (hT : TX11 k = (ref, nm0, ds, false)) (hd : tyX11 k = ty) (hk : k < 58) (hlink : Cond.fieldLink own index ref nm0 ds ∈ gT) (hn : narrow ty v = v) (hfit : fits ty v = true) (hl : k < fs.length) (hw : ws.set q0 (a, .inr (11, fs.set k v)) = w') (hdg : decode cc pc = .ok (.putfield index, 3))
    (kk : ∀ (H1 : Heap) (locs1 : List Loc), va_P D vwCl w' H1 → va_D A w' → va_S A s.heap H1 locs1 → W p l e R s m args below meth c H1 locs1 cells slots Q (F0 m (pc + 3) ls rest)) : W p l e R s m args below meth c H locs cells slots Q (F0 m pc ls (v :: .ref a :: rest)) :=
  q_put (T := TX11) (N := 58) C hP hD hS q0 k he rfl inX11 tyX11 tyX11_ok nmX11 hk (by rw [hT]; exact hlink) (by rw [hT]) (by rw [hT]) hd hn hfit hl hw hdg kk
end BaseE
theorem fT_0 : TX11 0 = ("CobwebLibraryModel", "thrown", "I", false) := by decide +kernel
theorem fy_0 : tyX11 0 = .int := by decide +kernel
theorem fT_1 : TX11 1 = ("CobwebLibraryModel", "tape", "[B", true) := by decide +kernel
theorem fy_1 : tyX11 1 = .array .byte := by decide +kernel
theorem fT_2 : TX11 2 = ("CobwebLibraryModel", "length", "I", false) := by decide +kernel
theorem fy_2 : tyX11 2 = .int := by decide +kernel
theorem fT_3 : TX11 3 = ("CobwebLibraryModel", "size", "I", false) := by decide +kernel
theorem fy_3 : tyX11 3 = .int := by decide +kernel
theorem fT_4 : TX11 4 = ("CobwebLibraryModel", "p", "I", false) := by decide +kernel
theorem fy_4 : tyX11 4 = .int := by decide +kernel
theorem fT_5 : TX11 5 = ("CobwebLibraryModel", "limit", "I", false) := by decide +kernel
theorem fy_5 : tyX11 5 = .int := by decide +kernel
theorem fT_6 : TX11 6 = ("CobwebLibraryModel", "s", "[I", true) := by decide +kernel
theorem fy_6 : tyX11 6 = .array .int := by decide +kernel
theorem fT_7 : TX11 7 = ("CobwebLibraryModel", "h", "[I", true) := by decide +kernel
theorem fy_7 : tyX11 7 = .array .int := by decide +kernel
theorem fT_8 : TX11 8 = ("CobwebLibraryModel", "read", "[I", true) := by decide +kernel
theorem fy_8 : tyX11 8 = .array .int := by decide +kernel
theorem fT_9 : TX11 9 = ("CobwebLibraryModel", "names", "[J", true) := by decide +kernel
theorem fy_9 : tyX11 9 = .array .long := by decide +kernel
theorem fT_10 : TX11 10 = ("CobwebLibraryModel", "reserved", "[J", true) := by decide +kernel
theorem fy_10 : tyX11 10 = .array .long := by decide +kernel
theorem fT_11 : TX11 11 = ("CobwebLibraryModel", "token", "I", false) := by decide +kernel
theorem fy_11 : tyX11 11 = .int := by decide +kernel
theorem fT_12 : TX11 12 = ("CobwebLibraryModel", "at", "I", false) := by decide +kernel
theorem fy_12 : tyX11 12 = .int := by decide +kernel
theorem fT_13 : TX11 13 = ("CobwebLibraryModel", "span", "I", false) := by decide +kernel
theorem fy_13 : tyX11 13 = .int := by decide +kernel
theorem fT_14 : TX11 14 = ("CobwebLibraryModel", "number", "I", false) := by decide +kernel
theorem fy_14 : tyX11 14 = .int := by decide +kernel
theorem fT_15 : TX11 15 = ("CobwebLibraryModel", "fault", "I", false) := by decide +kernel
theorem fy_15 : tyX11 15 = .int := by decide +kernel
theorem fT_16 : TX11 16 = ("CobwebLibraryModel", "faultAt", "I", false) := by decide +kernel
theorem fy_16 : tyX11 16 = .int := by decide +kernel
theorem fT_17 : TX11 17 = ("CobwebLibraryModel", "word", "J", false) := by decide +kernel
theorem fy_17 : tyX11 17 = .long := by decide +kernel
theorem fT_18 : TX11 18 = ("CobwebLibraryModel", "got", "I", false) := by decide +kernel
theorem fy_18 : tyX11 18 = .int := by decide +kernel
theorem fT_19 : TX11 19 = ("CobwebLibraryModel", "lines", "I", false) := by decide +kernel
theorem fy_19 : tyX11 19 = .int := by decide +kernel
theorem fT_20 : TX11 20 = ("CobwebLibraryModel", "onces", "I", false) := by decide +kernel
theorem fy_20 : tyX11 20 = .int := by decide +kernel
theorem fT_21 : TX11 21 = ("CobwebLibraryModel", "webs", "I", false) := by decide +kernel
theorem fy_21 : tyX11 21 = .int := by decide +kernel
theorem fT_22 : TX11 22 = ("CobwebLibraryModel", "one", "I", false) := by decide +kernel
theorem fy_22 : tyX11 22 = .int := by decide +kernel
theorem fT_23 : TX11 23 = ("CobwebLibraryModel", "two", "I", false) := by decide +kernel
theorem fy_23 : tyX11 23 = .int := by decide +kernel
theorem fT_24 : TX11 24 = ("CobwebLibraryModel", "seed", "I", false) := by decide +kernel
theorem fy_24 : tyX11 24 = .int := by decide +kernel
theorem fT_25 : TX11 25 = ("CobwebLibraryModel", "undone", "[I", true) := by decide +kernel
theorem fy_25 : tyX11 25 = .array .int := by decide +kernel
theorem fT_26 : TX11 26 = ("CobwebLibraryModel", "before", "[I", true) := by decide +kernel
theorem fy_26 : tyX11 26 = .array .int := by decide +kernel
theorem fT_27 : TX11 27 = ("CobwebLibraryModel", "undoMany", "I", false) := by decide +kernel
theorem fy_27 : tyX11 27 = .int := by decide +kernel
theorem fT_28 : TX11 28 = ("CobwebLibraryModel", "far", "[I", true) := by decide +kernel
theorem fy_28 : tyX11 28 = .array .int := by decide +kernel
theorem fT_29 : TX11 29 = ("CobwebLibraryModel", "wayRow", "[I", true) := by decide +kernel
theorem fy_29 : tyX11 29 = .array .int := by decide +kernel
theorem fT_30 : TX11 30 = ("CobwebLibraryModel", "wayMany", "I", false) := by decide +kernel
theorem fy_30 : tyX11 30 = .int := by decide +kernel
theorem fT_31 : TX11 31 = ("CobwebLibraryModel", "keptRow", "[I", true) := by decide +kernel
theorem fy_31 : tyX11 31 = .array .int := by decide +kernel
theorem fT_32 : TX11 32 = ("CobwebLibraryModel", "askedRow", "[I", true) := by decide +kernel
theorem fy_32 : tyX11 32 = .array .int := by decide +kernel
theorem fT_33 : TX11 33 = ("CobwebLibraryModel", "rares", "[I", true) := by decide +kernel
theorem fy_33 : tyX11 33 = .array .int := by decide +kernel
theorem fT_34 : TX11 34 = ("CobwebLibraryModel", "trial", "[I", true) := by decide +kernel
theorem fy_34 : tyX11 34 = .array .int := by decide +kernel
theorem fT_35 : TX11 35 = ("CobwebLibraryModel", "keptMany", "I", false) := by decide +kernel
theorem fy_35 : tyX11 35 = .int := by decide +kernel
theorem fT_36 : TX11 36 = ("CobwebLibraryModel", "askedMany", "I", false) := by decide +kernel
theorem fy_36 : tyX11 36 = .int := by decide +kernel
theorem fT_37 : TX11 37 = ("CobwebLibraryModel", "hangs", "[I", true) := by decide +kernel
theorem fy_37 : tyX11 37 = .array .int := by decide +kernel
theorem fT_38 : TX11 38 = ("CobwebLibraryModel", "paths", "[I", true) := by decide +kernel
theorem fy_38 : tyX11 38 = .array .int := by decide +kernel
theorem fT_39 : TX11 39 = ("CobwebLibraryModel", "tornSteps", "I", false) := by decide +kernel
theorem fy_39 : tyX11 39 = .int := by decide +kernel
theorem fT_40 : TX11 40 = ("CobwebLibraryModel", "hasTorn", "Z", false) := by decide +kernel
theorem fy_40 : tyX11 40 = .boolean := by decide +kernel
theorem fT_41 : TX11 41 = ("CobwebLibraryModel", "turnOne", "I", false) := by decide +kernel
theorem fy_41 : tyX11 41 = .int := by decide +kernel
theorem fT_42 : TX11 42 = ("CobwebLibraryModel", "hasTurn", "Z", false) := by decide +kernel
theorem fy_42 : tyX11 42 = .boolean := by decide +kernel
theorem fT_43 : TX11 43 = ("CobwebLibraryModel", "text", "[B", true) := by decide +kernel
theorem fy_43 : tyX11 43 = .array .byte := by decide +kernel
theorem fT_44 : TX11 44 = ("CobwebLibraryModel", "textMany", "I", false) := by decide +kernel
theorem fy_44 : tyX11 44 = .int := by decide +kernel
theorem fT_45 : TX11 45 = ("CobwebLibraryModel", "toldMany", "I", false) := by decide +kernel
theorem fy_45 : tyX11 45 = .int := by decide +kernel
theorem fT_46 : TX11 46 = ("CobwebLibraryModel", "toldAt", "[I", true) := by decide +kernel
theorem fy_46 : tyX11 46 = .array .int := by decide +kernel
theorem fT_47 : TX11 47 = ("CobwebLibraryModel", "hasTold", "Z", false) := by decide +kernel
theorem fy_47 : tyX11 47 = .boolean := by decide +kernel
theorem fT_48 : TX11 48 = ("CobwebLibraryModel", "stack", "[I", true) := by decide +kernel
theorem fy_48 : tyX11 48 = .array .int := by decide +kernel
theorem fT_49 : TX11 49 = ("CobwebLibraryModel", "codes", "I", false) := by decide +kernel
theorem fy_49 : tyX11 49 = .int := by decide +kernel
theorem fT_50 : TX11 50 = ("CobwebLibraryModel", "ones", "I", false) := by decide +kernel
theorem fy_50 : tyX11 50 = .int := by decide +kernel
theorem fT_51 : TX11 51 = ("CobwebLibraryModel", "top", "I", false) := by decide +kernel
theorem fy_51 : tyX11 51 = .int := by decide +kernel
theorem fT_52 : TX11 52 = ("CobwebLibraryModel", "deep", "I", false) := by decide +kernel
theorem fy_52 : tyX11 52 = .int := by decide +kernel
theorem fT_53 : TX11 53 = ("CobwebLibraryModel", "isWhole", "Z", false) := by decide +kernel
theorem fy_53 : tyX11 53 = .boolean := by decide +kernel
theorem fT_54 : TX11 54 = ("CobwebLibraryModel", "truths", "[Z", true) := by decide +kernel
theorem fy_54 : tyX11 54 = .array .boolean := by decide +kernel
theorem fT_55 : TX11 55 = ("CobwebLibraryModel", "imaged", "[I", true) := by decide +kernel
theorem fy_55 : tyX11 55 = .array .int := by decide +kernel
theorem fT_56 : TX11 56 = ("CobwebLibraryModel", "namesKept", "[J", true) := by decide +kernel
theorem fy_56 : tyX11 56 = .array .long := by decide +kernel
theorem fT_57 : TX11 57 = ("CobwebLibraryModel", "areKept", "[Z", true) := by decide +kernel
theorem fy_57 : tyX11 57 = .array .boolean := by decide +kernel
