/-! ranges of bit operations, of / and of % -/
theorem i_ofN {y : Int32} (h : y.toBitVec.toNat < 2147483648) : y.toInt = (y.toBitVec.toNat : Int) := by
  show y.toBitVec.toInt = _
  rw [BitVec.toInt_eq_toNat_cond, if_pos (by omega)]
theorem i_nn {y : Int32} (h : 0 ≤ y.toInt) : y.toBitVec.toNat < 2147483648 := by
  have h1 : y.toInt = y.toBitVec.toInt := rfl
  rw [h1, BitVec.toInt_eq_toNat_cond] at h
  have h2 := y.toBitVec.isLt
  by_cases h3 : 2 * y.toBitVec.toNat < 2 ^ 32
  · omega
  · rw [if_neg h3] at h
    omega
theorem i_andr {x y : Int32} {Y : Int} (hy : y.toInt = Y) (h : 0 ≤ Y) : 0 ≤ (x &&& y).toInt ∧ (x &&& y).toInt ≤ Y := by
  subst hy
  have h1 := i_nn h
  have h2 : (x &&& y).toBitVec.toNat ≤ y.toBitVec.toNat := by
    rw [Int32.toBitVec_and, BitVec.toNat_and]
    exact Nat.and_le_right
  rw [i_ofN (y := x &&& y) (by omega), i_ofN h1]
  omega
theorem i_andl {x y : Int32} {X : Int} (hx : x.toInt = X) (h : 0 ≤ X) : 0 ≤ (x &&& y).toInt ∧ (x &&& y).toInt ≤ X := by
  subst hx
  have h1 := i_nn h
  have h2 : (x &&& y).toBitVec.toNat ≤ x.toBitVec.toNat := by
    rw [Int32.toBitVec_and, BitVec.toNat_and]
    exact Nat.and_le_left
  rw [i_ofN (y := x &&& y) (by omega), i_ofN h1]
  omega
theorem i_or {x y : Int32} {X Y : Int} {k : Nat} (hx : x.toInt = X) (hy : y.toInt = Y) (h : 0 ≤ X ∧ X < 2 ^ k) (h2 : 0 ≤ Y ∧ Y < 2 ^ k) (hk : k ≤ 30) : 0 ≤ (x ||| y).toInt ∧ (x ||| y).toInt < 2 ^ k := by
  subst hx
  subst hy
  have a1 := i_nn h.1
  have a2 := i_nn h2.1
  have b1 := i_ofN a1
  have b2 := i_ofN a2
  have c1 : x.toBitVec.toNat < 2 ^ k := by
    have := h.2
    rw [b1] at this
    exact_mod_cast this
  have c2 : y.toBitVec.toNat < 2 ^ k := by
    have := h2.2
    rw [b2] at this
    exact_mod_cast this
  have c3 : (x ||| y).toBitVec.toNat < 2 ^ k := by
    rw [Int32.toBitVec_or, BitVec.toNat_or]
    exact Nat.or_lt_two_pow c1 c2
  have c4 : (2 : Nat) ^ k ≤ 2 ^ 30 := Nat.pow_le_pow_right (by decide) hk
  rw [i_ofN (y := x ||| y) (by omega)]
  constructor
  · omega
  · exact_mod_cast c3
theorem sA_self (u : St) (q : Nat) : sA u q (fA u q) = u := by
  have h : va_up u.2.2.1 q (u.2.2.1 q) = u.2.2.1 := by
    funext j
    by_cases e : j = q
    · subst e; rw [va_up_self]
    · rw [va_up_ne _ _ e]
  show (u.1, u.2.1, va_up u.2.2.1 q (u.2.2.1 q), u.2.2.2) = u
  rw [h]
theorem sB_self (u : St) (q : Nat) : sB u q (fB u q) = u := by
  have h : va_up u.2.2.2.2.1 q (u.2.2.2.2.1 q) = u.2.2.2.2.1 := by
    funext j
    by_cases e : j = q
    · subst e; rw [va_up_self]
    · rw [va_up_ne _ _ e]
  show (u.1, u.2.1, u.2.2.1, u.2.2.2.1, va_up u.2.2.2.2.1 q (u.2.2.2.2.1 q), u.2.2.2.2.2) = u
  rw [h]
theorem sA_sA (u : St) (q : Nat) (f g : Nat → Int32) : sA (sA u q f) q g = sA u q g := by
  show (u.1, u.2.1, va_up (va_up u.2.2.1 q f) q g, u.2.2.2) = (u.1, u.2.1, va_up u.2.2.1 q g, u.2.2.2)
  rw [bx_uu]
theorem sB_sB (u : St) (q : Nat) (f g : Nat → Int32) : sB (sB u q f) q g = sB u q g := by
  show (u.1, u.2.1, u.2.2.1, u.2.2.2.1, va_up (va_up u.2.2.2.2.1 q f) q g, u.2.2.2.2.2) = (u.1, u.2.1, u.2.2.1, u.2.2.2.1, va_up u.2.2.2.2.1 q g, u.2.2.2.2.2)
  rw [bx_uu]
