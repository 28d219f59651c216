theorem i_b01 {v : Int32} {X : Int} (hv : v.toInt = X) (h0 : 0 ≤ X) (h1 : X ≤ 1) : v = 0 ∨ v = 1 := by
  have h : X = 0 ∨ X = 1 := by omega
  rcases h with h | h
  · exact Or.inl (i32_eq.mpr (by rw [hv, h]; rfl))
  · exact Or.inr (i32_eq.mpr (by rw [hv, h]; rfl))
