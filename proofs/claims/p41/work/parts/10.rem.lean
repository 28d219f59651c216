theorem i_remj {x y : Int32} {X : Int} (hx : x.toInt = X) {d : Int} (hy : y.toInt = d) (h0 : 0 ≤ X) (hd : 0 < d) : (x - x / y * y).toInt = X % d := by
  have h1 := i_div hx hy h0 hd
  have h2 : X / d * d ≤ X := Int.ediv_mul_le _ (by omega)
  have h3 : 0 ≤ X / d := Int.ediv_nonneg h0 (by omega)
  have h4 : 0 ≤ X / d * d := Int.mul_nonneg h3 (by omega)
  have h5 : X ≤ 2147483647 := by
    rw [← hx]
    have := Int32.toInt_lt x
    omega
  have h6 := i_mul h1 hy (by omega)
  rw [i_sub hx h6 (by omega), Int.emod_def, Int.mul_comm d]
