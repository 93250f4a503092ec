def SR (f : Nat → Int32) : Prop := Rg f 0 1 0 8 ∧ Rg f 1 3 0 6 ∧ Rg f 3 4 1 50 ∧ Rg f 4 5 1 5 ∧ Rg f 103 104 0 255 ∧ Rg f 7 23 0 5 ∧ Rg f 106 122 0 5 ∧ Rg f 23 31 0 99 ∧ Rg f 122 130 0 99 ∧ Sv f
def Im (f k : Nat → Int32) : Prop := ((k 0).toInt ≠ 0 → SR (sh f 0)) ∧ ((k 1).toInt ≠ 0 → SR (sh f 383))
theorem SR.eq {f g : Nat → Int32} (h : SR f) (e : ∀ k : Nat, k < 383 → g k = f k) : SR g := by
  obtain ⟨h0, h1, h2, h3, h4, h5, h6, h7, h8, h9⟩ := h
  exact ⟨h0.eq (fun k hk => e k (by omega)), h1.eq (fun k hk => e k (by omega)), h2.eq (fun k hk => e k (by omega)), h3.eq (fun k hk => e k (by omega)), h4.eq (fun k hk => e k (by omega)), h5.eq (fun k hk => e k (by omega)), h6.eq (fun k hk => e k (by omega)), h7.eq (fun k hk => e k (by omega)), h8.eq (fun k hk => e k (by omega)), h9.like (e 103 (by decide)) (fun k _ h2 => e k h2)⟩
theorem Im.put0 {f g k k' s : Nat → Int32} {i : Int} (h : Im f k) (hs : SR s) (hc : Cp s g f 0 i) (hi : 383 ≤ i) (hk : k' 1 = k 1) : Im g k' :=
  ⟨fun _ => hs.eq (fun j hj => hc.1 j (by omega)), fun q => (h.2 (by rw [← hk]; exact q)).eq (fun j hj => hc.2 (383 + j) (by omega))⟩
theorem Im.put1 {f g k k' s : Nat → Int32} {i : Int} (h : Im f k) (hs : SR s) (hc : Cp s g f 383 i) (hi : 383 ≤ i) (hk : k' 0 = k 0) : Im g k' :=
  ⟨fun q => (h.1 (by rw [← hk]; exact q)).eq (fun j hj => hc.2 (0 + j) (by omega)), fun _ => hs.eq (fun j hj => hc.1 j (by omega))⟩
theorem nar1 : (vp_nar .boolean 1).toInt = 1 := by decide
theorem Im.zero {f k : Nat → Int32} (h0 : k 0 = 0) (h1 : k 1 = 0) : Im f k := ⟨fun q => absurd (by rw [h0]; decide) q, fun q => absurd (by rw [h1]; decide) q⟩
