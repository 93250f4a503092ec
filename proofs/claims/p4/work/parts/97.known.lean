theorem kIn_10 : Cond.instantiable RX10 15 ∈ gT := List.mem_filter.mpr ⟨List.mem_of_getElem? (i := 152) (by decide +kernel), by decide +kernel⟩
theorem kIn_11 : Cond.instantiable RX11 58 ∈ gT := List.mem_filter.mpr ⟨List.mem_of_getElem? (i := 1465) (by decide +kernel), by decide +kernel⟩
theorem arrK {ty : FieldType} {args : Array Value} {s : State} (h : (Cond.arrayClass ty).before args s = true) (hty : ∀ C, ty ≠ .object C) : ∃ cA : ClassId, ArrOfT s cA ty ∧ va_RA s cA ty := by
  obtain ⟨cA, kA, comp, h1, h2, h3⟩ := Cond.arrayClass_spec h
  refine ⟨cA, fun n z => ⟨fun k h => (by cases h), kA, h2, comp, h3⟩, ?_⟩
  cases ty with
  | object C => exact absurd rfl (hty C)
  | _ => exact h1
theorem arrO {C : String} {s : State} (h : va_AO C s) : ∃ cA : ClassId, ArrOfT s cA (.object C) ∧ va_RA s cA (.object C) := by
  obtain ⟨comp, c, k, h1, h2, h3, h4, h5⟩ := Cond.arrayOver_spec h
  exact ⟨c, fun n z => ⟨fun k h => (by cases h), k, h3, comp, h4⟩, k, comp, h3, h4, h1, h5⟩
theorem kAOl2 : Cond.arrayOver (.object RX2) ∈ lw_tbl := List.mem_of_getElem? (i := 463) (by decide +kernel)
theorem kAOl8 : Cond.arrayOver (.object RX8) ∈ lw_tbl := List.mem_of_getElem? (i := 449) (by decide +kernel)
set_option maxRecDepth 20000 in
theorem nestM : nestQ.map (fun q => Cond.methodLinkNest q.1 q.2.1 q.2.2.1 q.2.2.2) = [161, 219, 289, 338, 372, 414, 466, 526, 553, 1252, 343, 345, 747, 785, 558, 560, 562, 450, 1223, 1221, 1329, 1334, 943, 1041, 817, 933, 1057, 1061].filterMap (fun i => lw_tbl[i]?) := by decide +kernel
theorem nestI : ∀ q ∈ nestQ, Cond.methodLinkNest q.1 q.2.1 q.2.2.1 q.2.2.2 ∈ lw_tbl := by
  intro q hq
  have h1 := List.mem_map_of_mem (f := fun q : String × Nat × MethodName × String => Cond.methodLinkNest q.1 q.2.1 q.2.2.1 q.2.2.2) hq
  rw [nestM] at h1
  obtain ⟨i, -, hi⟩ := List.mem_filterMap.mp h1
  exact List.mem_of_getElem? hi
set_option maxRecDepth 20000 in
theorem strI : ∀ q ∈ strQ, Cond.stringRef q.1 q.2.1 q.2.2.1 ∈ lw_tbl := by decide +kernel
def tmS (i : Nat) : Term := Jvm.Term.string (strQ.getD i ("", 0, "", 0)).1 (strQ.getD i ("", 0, "", 0)).2.1
theorem sw1 : ∀ i : Nat, i < 5 → Cond.exactly (tmS i) "java/lang/String" ∈ flatC (Jvm.Cond.and given_1 narrow_1) := by decide +kernel
theorem sw2 : ∀ i : Nat, i < 5 → Cond.eq (.field (tmS i) "java/lang/String" "coder" "B") (.int 0) ∈ flatC (Jvm.Cond.and given_1 narrow_1) := by decide +kernel
theorem sw3 : ∀ i : Nat, i < 5 → Cond.arrayOf (.field (tmS i) "java/lang/String" "value" "[B") .byte ∈ flatC (Jvm.Cond.and given_1 narrow_1) := by decide +kernel
theorem sw4 : ∀ i : Nat, i < 5 → Cond.eq (.length (.field (tmS i) "java/lang/String" "value" "[B")) (.int (Int32.ofNat (lenS.getD i 0))) ∈ flatC (Jvm.Cond.and given_1 narrow_1) := by decide +kernel
def wd5 (i j : Nat) : Cond := Cond.eq (.elem (.field (tmS i) "java/lang/String" "value" "[B") (.int (Int32.ofNat j))) (.int ((bytS.getD i []).getD j 0))
theorem sw5_0_0 : ∀ j : Nat, j < 25 → (flatC (Jvm.Cond.and given_1 narrow_1))[55 + j]? = some (wd5 0 (0 + j)) := by decide +kernel
theorem sw5_0_25 : ∀ j : Nat, j < 25 → (flatC (Jvm.Cond.and given_1 narrow_1))[80 + j]? = some (wd5 0 (25 + j)) := by decide +kernel
theorem sw5_0_50 : ∀ j : Nat, j < 25 → (flatC (Jvm.Cond.and given_1 narrow_1))[105 + j]? = some (wd5 0 (50 + j)) := by decide +kernel
theorem sw5_0_75 : ∀ j : Nat, j < 25 → (flatC (Jvm.Cond.and given_1 narrow_1))[130 + j]? = some (wd5 0 (75 + j)) := by decide +kernel
theorem sw5_0_100 : ∀ j : Nat, j < 25 → (flatC (Jvm.Cond.and given_1 narrow_1))[155 + j]? = some (wd5 0 (100 + j)) := by decide +kernel
theorem sw5_0_125 : ∀ j : Nat, j < 25 → (flatC (Jvm.Cond.and given_1 narrow_1))[180 + j]? = some (wd5 0 (125 + j)) := by decide +kernel
theorem sw5_0_150 : ∀ j : Nat, j < 25 → (flatC (Jvm.Cond.and given_1 narrow_1))[205 + j]? = some (wd5 0 (150 + j)) := by decide +kernel
theorem sw5_0_175 : ∀ j : Nat, j < 25 → (flatC (Jvm.Cond.and given_1 narrow_1))[230 + j]? = some (wd5 0 (175 + j)) := by decide +kernel
theorem sw5_1_0 : ∀ j : Nat, j < 12 → (flatC (Jvm.Cond.and given_1 narrow_1))[259 + j]? = some (wd5 1 (0 + j)) := by decide +kernel
theorem sw5_2_0 : ∀ j : Nat, j < 7 → (flatC (Jvm.Cond.and given_1 narrow_1))[276 + j]? = some (wd5 2 (0 + j)) := by decide +kernel
theorem sw5_3_0 : ∀ j : Nat, j < 9 → (flatC (Jvm.Cond.and given_1 narrow_1))[289 + j]? = some (wd5 3 (0 + j)) := by decide +kernel
theorem sw5_4_0 : ∀ j : Nat, j < 4 → (flatC (Jvm.Cond.and given_1 narrow_1))[305 + j]? = some (wd5 4 (0 + j)) := by decide +kernel
theorem sw5 : ∀ i : Nat, i < 5 → ∀ j : Nat, j < lenS.getD i 0 → wd5 i j ∈ flatC (Jvm.Cond.and given_1 narrow_1) := by
  intro i hi j hj
  match i, hi, hj with
  | 0, _, hj =>
    have hj : j < 200 := hj
    by_cases h0 : j < 25
    · have h := sw5_0_0 (j - 0) (by omega); rw [show 0 + (j - 0) = j by omega] at h; exact List.mem_of_getElem? h
    by_cases h25 : j < 50
    · have h := sw5_0_25 (j - 25) (by omega); rw [show 25 + (j - 25) = j by omega] at h; exact List.mem_of_getElem? h
    by_cases h50 : j < 75
    · have h := sw5_0_50 (j - 50) (by omega); rw [show 50 + (j - 50) = j by omega] at h; exact List.mem_of_getElem? h
    by_cases h75 : j < 100
    · have h := sw5_0_75 (j - 75) (by omega); rw [show 75 + (j - 75) = j by omega] at h; exact List.mem_of_getElem? h
    by_cases h100 : j < 125
    · have h := sw5_0_100 (j - 100) (by omega); rw [show 100 + (j - 100) = j by omega] at h; exact List.mem_of_getElem? h
    by_cases h125 : j < 150
    · have h := sw5_0_125 (j - 125) (by omega); rw [show 125 + (j - 125) = j by omega] at h; exact List.mem_of_getElem? h
    by_cases h150 : j < 175
    · have h := sw5_0_150 (j - 150) (by omega); rw [show 150 + (j - 150) = j by omega] at h; exact List.mem_of_getElem? h
    have h := sw5_0_175 (j - 175) (by omega); rw [show 175 + (j - 175) = j by omega] at h; exact List.mem_of_getElem? h
  | 1, _, hj =>
    have hj : j < 12 := hj
    have h := sw5_1_0 (j - 0) (by omega); rw [show 0 + (j - 0) = j by omega] at h; exact List.mem_of_getElem? h
  | 2, _, hj =>
    have hj : j < 7 := hj
    have h := sw5_2_0 (j - 0) (by omega); rw [show 0 + (j - 0) = j by omega] at h; exact List.mem_of_getElem? h
  | 3, _, hj =>
    have hj : j < 9 := hj
    have h := sw5_3_0 (j - 0) (by omega); rw [show 0 + (j - 0) = j by omega] at h; exact List.mem_of_getElem? h
  | 4, _, hj =>
    have hj : j < 4 := hj
    have h := sw5_4_0 (j - 0) (by omega); rw [show 0 + (j - 0) = j by omega] at h; exact List.mem_of_getElem? h
  | n + 5, hi, _ => exact absurd hi (by omega)
theorem sw6 : ∀ i : Nat, i < 5 → ∀ j : Nat, j < 5 → i ≠ j → Cond.not (Cond.eq (tmS i) (tmS j)) ∈ flatC (Jvm.Cond.and given_1 narrow_1) ∨ Cond.not (Cond.eq (tmS j) (tmS i)) ∈ flatC (Jvm.Cond.and given_1 narrow_1) := by decide +kernel
theorem sw7 : Cond.eq (.static "java/lang/String" "COMPACT_STRINGS" "Z") (.int 1) ∈ flatC (Jvm.Cond.and given_1 narrow_1) := by decide +kernel
theorem sw8 : Cond.isRef (.static "jdk/internal/util/Preconditions" "SIOOBE_FORMATTER" "Ljava/util/function/BiFunction;") ∈ flatC (Jvm.Cond.and given_1 narrow_1) := by decide +kernel
theorem sw9 : ∀ i : Nat, i < 5 → lenS.getD i 0 < 2 ^ 31 := by decide +kernel
theorem law_str {args : Array Value} {s : State} {A : Nat → Prop} (hgv : (Jvm.Cond.and given_1 narrow_1).before args s = true) (hA : ∀ a : Nat, a < s.heap.size → ¬ A a) : ∃ adK adV : Nat → Nat, vk_S 5 lenS bytS adK adV A s s.heap ∧ ∀ i : Nat, i < 5 → (tmS i).eval args s none [] s = some (.ref (adK i)) :=
  vk_Sof sw9 (fun i hi => flat_of_before _ hgv _ (sw1 i hi)) (fun i hi => flat_of_before _ hgv _ (sw2 i hi)) (fun i hi => flat_of_before _ hgv _ (sw3 i hi)) (fun i hi => flat_of_before _ hgv _ (sw4 i hi)) (fun i hi j hj => flat_of_before _ hgv _ (sw5 i hi j hj))
    (fun i j hi hj hij => (sw6 i hi j hj hij).elim (fun h => Or.inl (flat_of_before _ hgv _ h)) (fun h => Or.inr (flat_of_before _ hgv _ h))) hA
def cyF (y k v : Nat → Nat) : Nat → Nat := fun n => if n < 6 then y n else if n < 150 then k (n - 100) else v (n - 200)
theorem cyK {y k v : Nat → Nat} {i : Nat} (h : i < 5) : cyF y k v (100 + i) = k i := by
  unfold cyF; rw [if_neg (by omega), if_pos (by omega), show 100 + i - 100 = i by omega]
theorem cyV {y k v : Nat → Nat} {i : Nat} (_h : i < 5) : cyF y k v (200 + i) = v i := by
  unfold cyF; rw [if_neg (by omega), if_neg (by omega), show 200 + i - 200 = i by omega]
theorem vk_S.cast5 {len : List Nat} {byt : List (List Int32)} {adK adV adK' adV' : Nat → Nat} {A : Nat → Prop} {U : State} {H : Heap} (h : vk_S 5 len byt adK adV A U H) (e1 : ∀ i : Nat, i < 5 → adK' i = adK i) (e2 : ∀ i : Nat, i < 5 → adV' i = adV i) : vk_S 5 len byt adK' adV' A U H :=
  ⟨fun i hi => by rw [e1 i hi, e2 i hi]; exact h.1 i hi, fun i j hi hj q => h.2 i j hi hj (by rw [← e1 i hi, ← e1 j hj]; exact q)⟩
theorem strE : ∀ q ∈ strQ, ∃ i : Nat, i < 5 ∧ q.2.2.2 = 100 + i ∧ Jvm.Term.string q.1 q.2.1 = tmS i := by
  intro q hq
  simp only [strQ, List.mem_cons, List.not_mem_nil, or_false] at hq
  rcases hq with rfl | rfl | rfl | rfl | rfl
  · exact ⟨0, by decide, rfl, rfl⟩
  · exact ⟨1, by decide, rfl, rfl⟩
  · exact ⟨2, by decide, rfl, rfl⟩
  · exact ⟨3, by decide, rfl, rfl⟩
  · exact ⟨4, by decide, rfl, rfl⟩
set_option maxHeartbeats 4000000 in
theorem law_known {args : Array Value} {s : State} {adK adV : Nat → Nat} (hts0 : ∀ w ∈ lw_tbl, w.before args s = true) (hev : ∀ i : Nat, i < 5 → (tmS i).eval args s none [] s = some (.ref (adK i))) : ∃ (D : va_G) (y : Nat → Nat), Kx D (cyF y adK adV) s := by
  have hts : ∀ w ∈ gT, w.before args s = true := fun w h => hts0 w (List.mem_filter.mp h).1
  obtain ⟨c0, i0, h0⟩ := u_known (C := RX0) (T := TX0) (N := 16) (n := 16) hts inX0 (hts _ kIn_0)
  obtain ⟨c1, i1, h1⟩ := u_known (C := RX1) (T := TX1) (N := 7) (n := 7) hts inX1 (hts _ kIn_1)
  obtain ⟨c2, i2, h2⟩ := u_known (C := RX2) (T := TX2) (N := 4) (n := 4) hts inX2 (hts _ kIn_2)
  obtain ⟨c3, i3, h3⟩ := u_known (C := RX3) (T := TX3) (N := 10) (n := 10) hts inX3 (hts _ kIn_3)
  obtain ⟨c4, i4, h4⟩ := u_known (C := RX4) (T := TX4) (N := 3) (n := 3) hts inX4 (hts _ kIn_4)
  obtain ⟨c5, i5, h5⟩ := u_known (C := RX5) (T := TX5) (N := 6) (n := 6) hts inX5 (hts _ kIn_5)
  obtain ⟨c6, i6, h6⟩ := u_known (C := RX6) (T := TX6) (N := 11) (n := 11) hts inX6 (hts _ kIn_6)
  obtain ⟨c7, i7, h7⟩ := u_known (C := RX7) (T := TX7) (N := 7) (n := 7) hts inX7 (hts _ kIn_7)
  obtain ⟨c8, i8, h8⟩ := u_known (C := RX8) (T := TX8) (N := 8) (n := 8) hts inX8 (hts _ kIn_8)
  obtain ⟨c9, i9, h9⟩ := u_known (C := RX9) (T := TX9) (N := 11) (n := 11) hts inX9 (hts _ kIn_9)
  obtain ⟨c10, i10, h10⟩ := u_known (C := RX10) (T := TX10) (N := 15) (n := 15) hts inX10 (hts _ kIn_10)
  obtain ⟨c11, i11, h11⟩ := u_known (C := RX11) (T := TX11) (N := 58) (n := 58) hts inX11 (hts _ kIn_11)
  obtain ⟨y0, g0⟩ := arrK (hts _ kA_byte) (fun C h => by cases h)
  obtain ⟨y1, g1⟩ := arrK (hts _ kA_int) (fun C h => by cases h)
  obtain ⟨y2, g2⟩ := arrK (hts _ kA_long) (fun C h => by cases h)
  obtain ⟨y3, g3⟩ := arrK (hts _ kA_boolean) (fun C h => by cases h)
  have o2 : va_AO RX2 s := va_AO.of (hts0 _ kAOl2)
  have o8 : va_AO RX8 s := va_AO.of (hts0 _ kAOl8)
  obtain ⟨y4, g4⟩ := arrO o2
  obtain ⟨y5, g5⟩ := arrO o8
  refine ⟨(fun k => if k = 0 then c0 else if k = 1 then c1 else if k = 2 then c2 else if k = 3 then c3 else if k = 4 then c4 else if k = 5 then c5 else if k = 6 then c6 else if k = 7 then c7 else if k = 8 then c8 else if k = 9 then c9 else if k = 10 then c10 else c11, fun k => if k = 0 then i0 else if k = 1 then i1 else if k = 2 then i2 else if k = 3 then i3 else if k = 4 then i4 else if k = 5 then i5 else if k = 6 then i6 else if k = 7 then i7 else if k = 8 then i8 else if k = 9 then i9 else if k = 10 then i10 else i11), fun k => if k = 0 then y0 else if k = 1 then y1 else if k = 2 then y2 else if k = 3 then y3 else if k = 4 then y4 else y5, ⟨fun k q hq => ?_, fun k q hq => ?_⟩, fun q hq => va_Nw.of rfl (hts0 _ (nestI q hq)), o2, o8, fun q hq => ?_⟩
  · match k, hq with
    | 0, hq => cases hq; exact h0
    | 1, hq => cases hq; exact h1
    | 2, hq => cases hq; exact h2
    | 3, hq => cases hq; exact h3
    | 4, hq => cases hq; exact h4
    | 5, hq => cases hq; exact h5
    | 6, hq => cases hq; exact h6
    | 7, hq => cases hq; exact h7
    | 8, hq => cases hq; exact h8
    | 9, hq => cases hq; exact h9
    | 10, hq => cases hq; exact h10
    | 11, hq => cases hq; exact h11
    | k + 12, hq => simp [vwCl] at hq
  · match k, hq with
    | 0, hq => cases hq; exact g0
    | 1, hq => cases hq; exact g1
    | 2, hq => cases hq; exact g2
    | 3, hq => cases hq; exact g3
    | 4, hq => cases hq; exact g4
    | 5, hq => cases hq; exact g5
    | k + 6, hq => simp [tyL] at hq
  · obtain ⟨i, hi, e1, e2⟩ := strE q hq
    rw [e1, cyK hi]
    exact vk_R.of (A := args) (hts0 _ (strI q hq)) (by rw [e2]; exact hev i hi)
theorem kxd0 : Cond.castable NSE NSE ∈ lw_tbl := List.mem_of_getElem? (i := 1391) (by decide +kernel)
theorem kxd1 : Cond.declares ⟨"java/lang/RuntimeException", "<init>", "()V"⟩ ∈ lw_tbl := List.mem_of_getElem? (i := 1392) (by decide +kernel)
theorem kxd2 : Cond.declares ⟨"java/lang/Exception", "<init>", "()V"⟩ ∈ lw_tbl := List.mem_of_getElem? (i := 1394) (by decide +kernel)
theorem kxd3 : Cond.declares ⟨"java/lang/Throwable", "<init>", "()V"⟩ ∈ lw_tbl := List.mem_of_getElem? (i := 1396) (by decide +kernel)
theorem law_xd {args : Array Value} {s : State} (hts0 : ∀ w ∈ lw_tbl, w.before args s = true) : Xd s := ⟨va_Nw.of rfl (hts0 _ kxd0), va_Nw.of rfl (hts0 _ kxd1), va_Nw.of rfl (hts0 _ kxd2), va_Nw.of rfl (hts0 _ kxd3)⟩
theorem kxz0 : Cond.laysStatic Bundle.tN "UNASSIGNED_STACK" Bundle.steD ∈ lw_tbl := List.mem_of_getElem? (i := 1416) (by decide +kernel)
theorem kxz1 : Cond.laysStatic Bundle.tN "SUPPRESSED_SENTINEL" Bundle.listD ∈ lw_tbl := List.mem_of_getElem? (i := 1418) (by decide +kernel)
theorem kxzi : Cond.initialized Bundle.tN ∈ lw_tbl := List.mem_of_getElem? (i := 147) (by decide +kernel)
theorem law_xz {args : Array Value} {s : State} {A : Nat → Prop} (hts0 : ∀ w ∈ lw_tbl, w.before args s = true) (hgv : (Jvm.Cond.and given_1 narrow_1).before args s = true) (hA : ∀ a : Nat, a < s.heap.size → ¬ A a) : Xz A s s.heap :=
  ⟨vx_Zqof (hts0 _ kxz0) (hts0 _ kxzi) (flat_of_before _ hgv _ (by decide +kernel)) hA, vx_Zqof (hts0 _ kxz1) (hts0 _ kxzi) (flat_of_before _ hgv _ (by decide +kernel)) hA⟩
theorem kxs1 : Cond.laysStatic "java/lang/String" "COMPACT_STRINGS" "Z" ∈ lw_tbl := List.mem_of_getElem? (i := 689) (by decide +kernel)
theorem kxs2 : Cond.initialized "java/lang/String" ∈ lw_tbl := List.mem_of_getElem? (i := 141) (by decide +kernel)
theorem kxs3 : Cond.laysStatic "jdk/internal/util/Preconditions" "SIOOBE_FORMATTER" "Ljava/util/function/BiFunction;" ∈ lw_tbl := List.mem_of_getElem? (i := 705) (by decide +kernel)
theorem kxs4 : Cond.initialized "jdk/internal/util/Preconditions" ∈ lw_tbl := List.mem_of_getElem? (i := 143) (by decide +kernel)
