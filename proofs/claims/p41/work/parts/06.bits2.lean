/-! shifts, / and % -/
theorem i_rem {x y : Int32} {X : Int} (hx : x.toInt = X) {d : Int} (hy : y.toInt = d) (h0 : 0 ≤ X) (hd : 0 < d) : (x % y).toInt = X % d := by
  rw [Int32.toInt_mod, hx, hy, Int.tmod_eq_emod_of_nonneg h0]
theorem i_div {x y : Int32} {X : Int} (hx : x.toInt = X) {d : Int} (hy : y.toInt = d) (h0 : 0 ≤ X) (hd : 0 < d) : (x / y).toInt = X / d := by
  have h1 : x ≠ Int32.minValue := by
    intro h
    rw [h] at hx
    have h2 : Int32.minValue.toInt = -2147483648 := by decide
    omega
  rw [Int32.toInt_div_of_ne_left _ _ h1, hx, hy, Int.tdiv_eq_ediv_of_nonneg h0]
theorem i_shrr {x y : Int32} {X : Int} (hx : x.toInt = X) (h : 0 ≤ X) : 0 ≤ (x >>> y).toInt ∧ (x >>> y).toInt ≤ X := by
  have h1 : ∃ n : Nat, (x >>> y).toInt = x.toInt >>> n := ⟨(y.toBitVec.smod 32).toNat, by
    show (x >>> y).toBitVec.toInt = _
    rw [Int32.toBitVec_shiftRight, BitVec.sshiftRight_eq', BitVec.toInt_sshiftRight]
    rfl⟩
  obtain ⟨n, h2⟩ := h1
  rw [h2, Int.shiftRight_eq_div_pow, hx]
  exact ⟨Int.ediv_nonneg h (Int.natCast_nonneg _), Int.ediv_le_self _ h⟩
theorem i_ofI {y : Int32} {n : Nat} (hn : n < 2147483648) (h : y.toInt = (n : Int)) : y = Int32.ofNat n := by
  apply i32_eq.mpr
  rw [h, Int32.toInt_ofNat_of_lt (by omega)]
theorem i_sh1 : ∀ n : Fin 31, ((1 : Int32) <<< (Int32.ofNat n.val &&& 31)).toInt = 2 ^ n.val := by decide +kernel
theorem i_pow {n k : Nat} (h : n ≤ k) : (2 : Int) ^ n ≤ 2 ^ k := by
  have h1 : (2 : Nat) ^ n ≤ 2 ^ k := Nat.pow_le_pow_right (by decide) h
  exact_mod_cast h1
theorem i_shl1 {y : Int32} {Y : Int} {k : Nat} (hy : y.toInt = Y) (h0 : 0 ≤ Y) (h1 : Y ≤ (k : Int)) (hk : k ≤ 29) : 0 ≤ ((1 : Int32) <<< (y &&& 31)).toInt ∧ ((1 : Int32) <<< (y &&& 31)).toInt ≤ 2 ^ k := by
  obtain ⟨n, hn⟩ := Int.eq_ofNat_of_zero_le h0
  have e1 : y = Int32.ofNat n := i_ofI (by omega) (by omega)
  have e2 := i_sh1 ⟨n, by omega⟩
  rw [e1, e2]
  show 0 ≤ (2 : Int) ^ n ∧ (2 : Int) ^ n ≤ 2 ^ k
  refine ⟨?_, i_pow (by omega)⟩
  have : (0 : Int) ≤ ((2 ^ n : Nat) : Int) := Int.natCast_nonneg _
  exact_mod_cast this
