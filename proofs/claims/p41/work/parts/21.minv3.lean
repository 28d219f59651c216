theorem MBs_47 {a : Nat → Nat} {u : St} {v : Int32} (h : MB a u) (g1 : 0 ≤ v.toInt) (g2 : v.toInt ≤ (fI u 0 47).toInt) : MB a (sI u 0 47 v) := by
  have z1 := MB_47 h
  have z2 := MB_acts h
  obtain ⟨h0, h1, h2, h3, h4, h5, h6, h7, h8, h9, h10, h11, h12, h13, h14, h15, h16, h17, h18, h19, h20, h21, h22, h23, h24, h25, h26, h27, h28⟩ := h
  exact ⟨h0, h1, h2, h3, h4, h5, h6, h7, h8, (show 0 ≤ v.toInt ∧ v.toInt ≤ 40 from ⟨g1, by omega⟩), h10, h11, h12, h13, h14, h15, h16, h17, h18, h19, h20, h21, h22, h23, h24, h25, (show v.toInt + (fI u 0 48).toInt ≤ 40 from by omega), h27, h28⟩
theorem MBs_48 {a : Nat → Nat} {u : St} {v : Int32} (h : MB a u) (g1 : 0 ≤ v.toInt) (g2 : v.toInt ≤ (fI u 0 48).toInt) : MB a (sI u 0 48 v) := by
  have z1 := MB_48 h
  have z2 := MB_acts h
  obtain ⟨h0, h1, h2, h3, h4, h5, h6, h7, h8, h9, h10, h11, h12, h13, h14, h15, h16, h17, h18, h19, h20, h21, h22, h23, h24, h25, h26, h27, h28⟩ := h
  exact ⟨h0, h1, h2, h3, h4, h5, h6, h7, h8, h9, (show 0 ≤ v.toInt ∧ v.toInt ≤ 40 from ⟨g1, by omega⟩), h11, h12, h13, h14, h15, h16, h17, h18, h19, h20, h21, h22, h23, h24, h25, (show (fI u 0 47).toInt + v.toInt ≤ 40 from by omega), h27, h28⟩
theorem kN_eq {u v : St} (h3 : fA v 3 = fA u 3) (h36 : fI v 0 36 = fI u 0 36) : kN v = kN u := by
  unfold kN
  rw [h3, h36]
theorem ShA_ne {u : St} {K : Int32} {i : Nat} {v : Int32} (hi : ¬ 24 = i) (h : Sh K (fA u 28 24)) : Sh K (fA (sA u 28 (upd (fA u 28) i v)) 28 24) := by
  show Sh K (upd (fA u 28) i v 24)
  rw [upd_ne hi]
  exact h
theorem ShA_at {u : St} {K v : Int32} (h : Sh K v) : Sh K (fA (sA u 28 (upd (fA u 28) 24 v)) 28 24) := by
  show Sh K (upd (fA u 28) 24 v 24)
  rw [upd_at]
  exact h
theorem Sh.no {K : Int32} (h : K.toInt = 0) : Sh K (-1) := ⟨by decide, by decide, Or.inl (by omega)⟩
theorem i_cadd {k y : Int32} {c : Nat} (e : y.toInt = k.toInt + c) (h : 0 ≤ k.toInt) : y.toNatClampNeg = k.toNatClampNeg + c := by
  have h1 : k.toNatClampNeg = k.toInt.toNat := rfl
  have h2 : y.toNatClampNeg = y.toInt.toNat := rfl
  omega
theorem kp1 {P : Int32 → Prop} {f : Nat → Int32} {k v : Int32} (h1 : ∀ j : Nat, j < 39 → P (f (29 * j + 24))) (h2 : k.toInt ≤ 1155 → P (f 1155)) (hk0 : 0 ≤ k.toInt) (hk : k.toInt < 1160) (hv : v = f (k.toNatClampNeg + 29)) : (∀ j : Nat, j < 39 → P (upd f k.toNatClampNeg v (29 * j + 24))) ∧ (k.toInt + 1 ≤ 1155 → P (upd f k.toNatClampNeg v 1155)) := by
  have c := i_cnz hk0
  refine ⟨fun j hj => ?_, fun h => ?_⟩
  · by_cases e : 29 * j + 24 = k.toNatClampNeg
    · rw [e, upd_at, hv, ← e, show 29 * j + 24 + 29 = 29 * (j + 1) + 24 by omega]
      by_cases q : j + 1 < 39
      · exact h1 (j + 1) q
      · have q2 : j = 38 := by omega
        subst q2
        exact h2 (by omega)
    · rw [upd_ne e]
      exact h1 j hj
  · rw [upd_ne (by omega)]
    exact h2 (by omega)
theorem kp2 {P : Int32 → Prop} {f : Nat → Int32} {A k v : Int32} {i : Nat} (h1 : ∀ j : Nat, (j : Int) < A.toInt → P (f (29 * j + 24))) (h2 : 25 ≤ k.toInt → P (f (29 * A.toNatClampNeg + 24))) (hA : 0 ≤ A.toInt) (hk0 : 0 ≤ k.toInt) (hk : k.toInt < 29) (hi : i = 29 * A.toNatClampNeg + k.toNatClampNeg) (hv : k.toInt = 24 → P v) : (∀ j : Nat, (j : Int) < A.toInt → P (upd f i v (29 * j + 24))) ∧ (25 ≤ k.toInt + 1 → P (upd f i v (29 * A.toNatClampNeg + 24))) := by
  have c := i_cnz hk0
  have d := i_cnz hA
  refine ⟨fun j hj => ?_, fun h => ?_⟩
  · rw [upd_ne (by omega)]
    exact h1 j hj
  · by_cases q : k.toInt = 24
    · rw [show 29 * A.toNatClampNeg + 24 = i by omega, upd_at]
      exact hv q
    · rw [upd_ne (by omega)]
      exact h2 (by omega)
theorem kp3 {P : Int32 → Prop} {f : Nat → Int32} {A k v : Int32} {i : Nat} (h2 : 25 ≤ k.toInt → P (f (29 * A.toNatClampNeg + 24))) (hA : 0 ≤ A.toInt) (hk0 : 0 ≤ k.toInt) (hk : k.toInt < 29) (hi : i = 29 * A.toNatClampNeg + k.toNatClampNeg) (hv : k.toInt = 24 → P v) : 25 ≤ k.toInt + 1 → P (upd f i v (29 * A.toNatClampNeg + 24)) := by
  have c := i_cnz hk0
  have d := i_cnz hA
  intro h
  by_cases q : k.toInt = 24
  · rw [show 29 * A.toNatClampNeg + 24 = i by omega, upd_at]
    exact hv q
  · rw [upd_ne (by omega)]
    exact h2 (by omega)
theorem kp4 {P : Int32 → Prop} {f : Nat → Int32} {k v : Int32} (h2 : 25 ≤ k.toInt → P (f 24)) (hk0 : 0 ≤ k.toInt) (hk : k.toInt < 29) (hv : k.toInt = 24 → P v) : 25 ≤ k.toInt + 1 → P (upd f k.toNatClampNeg v 24) := by
  have c := i_cnz hk0
  intro h
  by_cases q : k.toInt = 24
  · rw [i_cn (n := 24) q, upd_at]
    exact hv q
  · rw [upd_ne (by omega)]
    exact h2 (by omega)
theorem zr1 {f : Nat → Int32} {k : Int32} (h : ∀ b : Nat, (b : Int) < k.toInt → f b = 0) (hk : 0 ≤ k.toInt) : ∀ b : Nat, (b : Int) < k.toInt + 1 → upd f k.toNatClampNeg (vp_nar .boolean 0) b = 0 := by
  have c := i_cnz hk
  intro b hb
  by_cases e : b = k.toNatClampNeg
  · rw [e, upd_at]
    rfl
  · rw [upd_ne e]
    exact h b (by omega)
theorem i_row {A k y : Int32} (e : y.toInt = 29 * A.toInt + k.toInt) (hA : 0 ≤ A.toInt) (hk : 0 ≤ k.toInt) : y.toNatClampNeg = 29 * A.toNatClampNeg + k.toNatClampNeg := by
  have h1 : k.toNatClampNeg = k.toInt.toNat := rfl
  have h2 : y.toNatClampNeg = y.toInt.toNat := rfl
  have h3 : A.toNatClampNeg = A.toInt.toNat := rfl
  omega
theorem keep_end {a : Nat → Nat} {u v : St} (h0 : MI a u) (hB : MB a v) (e3 : kN v = kN u) (e28 : fA v 28 = fA u 28) (e41 : fA v 41 = fA u 41) (e42 : fA v 42 = fA u 42) (hr : ∀ j : Nat, (j : Int) < (fI v 0 47).toInt + (fI v 0 48).toInt → Sh (kN u) (fA v 29 (29 * j + 24))) : MI a v := by
  refine hB.i ?_ ?_ ?_
  · rw [e3, e28]
    exact MI_she h0
  · intro j hj
    rw [e3]
    exact hr j hj
  · intro b hb hx
    rw [e3, e41]
    rw [e42] at hx
    exact MI_box h0 b hb hx
theorem relay {a : Nat → Nat} {u v : St} (h0 : MI a u) (hB : MB a v) (e3 : kN v = kN u) (hs : Sh (kN v) (fA v 28 24)) (e29 : fA v 29 = fA u 29) (e41 : fA v 41 = fA u 41) (e42 : fA v 42 = fA u 42) (e47 : fI v 0 47 = fI u 0 47) (e48 : fI v 0 48 = fI u 0 48) : MI a v := by
  refine hB.i hs ?_ ?_
  · intro j hj
    rw [e3, e29]
    rw [e47, e48] at hj
    exact MI_rows h0 j hj
  · intro b hb hx
    rw [e3, e41]
    rw [e42] at hx
    exact MI_box h0 b hb hx
theorem she_at {a : Nat → Nat} {u : St} {K k w : Int32} (h : MI a u) (e3 : kN u = K) (hk : k.toInt = 24) (e : fA u 28 k.toNatClampNeg = w) : Sh K w := by
  rw [i_cn (n := 24) hk] at e
  rw [← e, ← e3]
  exact MI_she h
theorem row_at {a : Nat → Nat} {u : St} {K A k y w : Int32} (h : MI a u) (e3 : kN u = K) (hk : k.toInt = 24) (ey : y.toInt = 29 * A.toInt + k.toInt) (hA : 0 ≤ A.toInt) (hA2 : A.toInt < (fI u 0 47).toInt + (fI u 0 48).toInt) (e : fA u 29 y.toNatClampNeg = w) : Sh K w := by
  rw [i_row ey hA (by omega), i_cn (n := 24) hk] at e
  rw [← e, ← e3]
  exact MI_rows h _ (by rw [i_cnz hA]; exact hA2)
theorem box_at {a : Nat → Nat} {u : St} {K A k y w b : Int32} (h : MI a u) (e3 : kN u = K) (hk : k.toInt = 24) (ey : y.toInt = 29 * A.toInt + k.toInt) (hA : 0 ≤ A.toInt) (hA2 : A.toInt ≤ 2) (hb : fA u 42 A.toNatClampNeg = b) (hb0 : ¬ b.toInt = 0) (e : fA u 41 y.toNatClampNeg = w) : Sh K w := by
  have c := i_cnz hA
  rw [i_row ey hA (by omega), i_cn (n := 24) hk] at e
  rw [← e, ← e3]
  refine MI_box h _ (by omega) ?_
  rw [hb]
  intro q
  rw [q] at hb0
  exact hb0 rfl
theorem no_row {A k y : Int32} {j : Nat} (e : y.toInt = 29 * A.toInt + k.toInt) (hA : 0 ≤ A.toInt) (hk : 0 ≤ k.toInt) (hk2 : k.toInt < 29) (h : y.toNatClampNeg = 29 * j + 24) : k.toInt = 24 := by
  have h1 := i_row e hA hk
  have c := i_cnz hA
  have d := i_cnz hk
  omega
/-! what fits -/
def okF (u : St) (v k : Int32) (n : Nat) : Prop := k.toInt < (fA u 37 n).toInt ∨ (0 ≤ (fA u 38 n).toInt ∧ (fA u 38 n).toInt ≤ k.toInt) ∨ ((fA u 35 n).toInt ≤ (fA u 33 (6 * v + fA u 34 n).toNatClampNeg).toInt ∧ (fA u 36 n).toInt = 1) ∨ ((fA u 33 (6 * v + fA u 34 n).toNatClampNeg).toInt < (fA u 35 n).toInt ∧ (fA u 36 n).toInt = 0)
def fitF (u : St) (v k : Int32) : Prop := ∀ n : Nat, (n : Int) < (fI u 0 61).toInt → okF u v k n
