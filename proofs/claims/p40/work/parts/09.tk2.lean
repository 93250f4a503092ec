/-- the model's peek -/
theorem pk_Pk {f : Nat → Int32} {p n r : Int32} (h : r = pk f p n) (h0 : 0 ≤ p.toInt) : Pk f n.toInt p.toInt = r.toInt := by
  have c := o_cl (x := p) rfl h0
  rw [h]
  unfold pk Pk ob
  by_cases q : p.toInt < n.toInt
  · rw [if_pos q, if_pos ⟨h0, q⟩, and255, show p.toInt.toNat = p.toNatClampNeg by omega]
  · rw [if_neg q, if_neg (by omega)]; decide
