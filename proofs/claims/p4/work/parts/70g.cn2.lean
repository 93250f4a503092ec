section
variable {w h l p i d b w' h' l' p' i' d' b' iw ih il ip ii id' ib r1 r2 kp : Int} {s s' f f' : Nat → Int32} {o o' : Nat}
theorem Ts.res (t : Ts w h l p i d b s) (ti : kp = 1 → Ts iw ih il ip ii id' ib (sh f o)) (hk : r2 = kp) (hr : r2 = r1) (m : (r2 = 1 ∧ Cr f s' o 383) ∨ (r2 = 0 ∧ s' = s)) (c : (r1 = 1 ∧ w' = iw ∧ h' = ih ∧ l' = il ∧ p' = ip ∧ i' = ii ∧ d' = id' ∧ b' = ib) ∨ (r1 = 0 ∧ w' = w ∧ h' = h ∧ l' = l ∧ p' = p ∧ i' = i ∧ d' = d ∧ b' = b)) : Ts w' h' l' p' i' d' b' s' := by
  rcases m with ⟨m1, m2⟩ | ⟨m1, m2⟩
  · rcases c with ⟨c0, rfl, rfl, rfl, rfl, rfl, rfl, rfl⟩ | ⟨c0, _⟩
    · exact (ti (by omega)).fr (fun k hk => m2 k (by omega))
    · omega
  · rcases c with ⟨c0, _⟩ | ⟨c0, rfl, rfl, rfl, rfl, rfl, rfl, rfl⟩
    · omega
    · rw [m2]; exact t
theorem Ts.img (t : Ts w h l p i d b s) (c : iw = w ∧ ih = h ∧ il = l ∧ ip = p ∧ ii = i ∧ id' = d ∧ ib = b) (q : Cp s f' f o 383) : Ts iw ih il ip ii id' ib (sh f' o) := by
  obtain ⟨rfl, rfl, rfl, rfl, rfl, rfl, rfl⟩ := c
  exact t.fr (fun k hk => q.1 k (by omega))
theorem Ts.oth (t : Ts w h l p i d b (sh f o')) (q : Cp s f' f o 383) (e : o' + 7 ≤ o ∨ o + 383 ≤ o') : Ts w h l p i d b (sh f' o') :=
  t.fr (fun k hk => q.2 (o' + k) (by omega))
end
