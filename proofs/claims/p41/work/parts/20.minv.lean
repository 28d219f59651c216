theorem upd_at {f : Nat → Int32} {i : Nat} {v : Int32} : upd f i v i = v := by simp [upd]
theorem upd_ne {f : Nat → Int32} {i j : Nat} {v : Int32} (h : ¬ j = i) : upd f i v j = f j := by simp [upd, h]
theorem i_ck {x : Int32} {X : Int} {n : Nat} (hx : x.toInt = X) (h0 : 0 ≤ X) (h : ¬ X = n) : x.toNatClampNeg ≠ n := by
  intro e
  have h1 : x.toNatClampNeg = x.toInt.toNat := rfl
  omega
theorem i_cn {x : Int32} {n : Nat} (h : x.toInt = (n : Int)) : x.toNatClampNeg = n := by
  have h1 : x.toNatClampNeg = x.toInt.toNat := rfl
  omega
theorem i_cnz {x : Int32} (h : 0 ≤ x.toInt) : (x.toNatClampNeg : Int) = x.toInt := by
  have h1 : x.toNatClampNeg = x.toInt.toNat := rfl
  omega
theorem i_remr {x y : Int32} {X Y : Int} (hx : x.toInt = X) (hy : y.toInt = Y) (h0 : 0 ≤ X) (hd : 0 < Y) : 0 ≤ (x - x / y * y).toInt ∧ (x - x / y * y).toInt < Y := by
  rw [i_remj hx hy h0 hd]
  exact ⟨Int.emod_nonneg _ (by omega), Int.emod_lt_of_pos _ hd⟩
theorem i_divr {x y : Int32} {X Y : Int} (hx : x.toInt = X) (hy : y.toInt = Y) (h0 : 0 ≤ X) (hd : 0 < Y) : 0 ≤ (x / y).toInt ∧ (x / y).toInt ≤ X := by
  rw [i_div hx hy h0 hd]
  exact ⟨Int.ediv_nonneg h0 (by omega), Int.ediv_le_self _ h0⟩
def pc8 (x : Int) : Int := (x % 2 + x / 2 % 2 + x / 4 % 2 + x / 8 % 2 + x / 16 % 2 + x / 32 % 2 + x / 64 % 2 + x / 128 % 2)
theorem pc_all : ∀ n : Fin 256, n.val = 0 ∨ (((Int32.ofNat n.val) &&& (Int32.ofNat n.val - 1)).toInt ≥ 0 ∧ ((Int32.ofNat n.val) &&& (Int32.ofNat n.val - 1)).toInt < n.val ∧ pc8 ((Int32.ofNat n.val) &&& (Int32.ofNat n.val - 1)).toInt + 1 = pc8 (n.val : Int)) := by decide +kernel
theorem pc_le : ∀ n : Fin 256, 0 ≤ pc8 (n.val : Int) ∧ pc8 (n.val : Int) ≤ 8 ∧ (n.val < 64 → pc8 (n.val : Int) ≤ 6) ∧ (pc8 (n.val : Int) = 0 → n.val = 0) := by decide +kernel
theorem pc8_z {x : Int} (h : x = 0) : pc8 x = 0 := by
  rw [h]
  rfl
theorem pc8_b {x : Int} (h0 : 0 ≤ x) (h1 : x ≤ 255) : 0 ≤ pc8 x ∧ pc8 x ≤ 8 ∧ (64 ≤ x ∨ pc8 x ≤ 6) ∧ (x = 0 ∨ 1 ≤ pc8 x) := by
  obtain ⟨n, hn⟩ := Int.eq_ofNat_of_zero_le h0
  have h := pc_le ⟨n, by omega⟩
  rw [hn]
  obtain ⟨a1, a2, a3, a4⟩ := h
  refine ⟨a1, a2, ?_, ?_⟩
  · by_cases q : n < 64
    · exact Or.inr (a3 q)
    · exact Or.inl (by omega)
  · by_cases q : n = 0
    · exact Or.inl (by omega)
    · have a5 : ¬ pc8 (n : Int) = 0 := fun z => q (a4 z)
      have a6 : 0 ≤ pc8 (n : Int) := a1
      exact Or.inr (by omega)
theorem i_pc {k z : Int32} (e : z = k &&& (k - 1)) (h1 : 1 ≤ k.toInt) (h2 : k.toInt ≤ 255) : 0 ≤ z.toInt ∧ z.toInt < k.toInt ∧ pc8 z.toInt + 1 = pc8 k.toInt := by
  obtain ⟨n, hn⟩ := Int.eq_ofNat_of_zero_le (show 0 ≤ k.toInt by omega)
  have e1 : k = Int32.ofNat n := i_ofI (by omega) hn
  have h3 := pc_all ⟨n, by omega⟩
  rcases h3 with h3 | ⟨h3, h4, h5⟩
  · have h6 : n = 0 := h3
    omega
  · have e2 : z = (Int32.ofNat n) &&& (Int32.ofNat n - 1) := by rw [e, e1]
    rw [hn, e2]
    exact ⟨h3, h4, h5⟩
theorem i_dec {k z : Int32} (e : z = k &&& (k - 1)) (h : ¬ k.toInt = 0) : z.toBitVec.toNat < k.toBitVec.toNat := by
  have h0 : ¬ k.toBitVec.toNat = 0 := by
    intro q
    apply h
    show k.toBitVec.toInt = 0
    rw [BitVec.toInt_eq_toNat_cond, q]
    rfl
  have h1 : (k - 1).toBitVec.toNat = k.toBitVec.toNat - 1 := by
    rw [Int32.toBitVec_sub, BitVec.toNat_sub]
    have h2 := k.toBitVec.isLt
    have h3 : (1 : Int32).toBitVec.toNat = 1 := rfl
    rw [h3]
    omega
  have h2 : z.toBitVec.toNat ≤ (k - 1).toBitVec.toNat := by
    rw [e, Int32.toBitVec_and, BitVec.toNat_and]
    exact Nat.and_le_right
  omega
theorem lc_eq {x y : Int64} {z : Int32} (e : z = lg_cmp x y) (h : z.toInt = 0) : x = y := by
  unfold lg_cmp at e
  by_cases h1 : x > y
  · rw [if_pos h1] at e
    rw [e] at h
    exact absurd h (by decide)
  · rw [if_neg h1] at e
    by_cases h2 : x = y
    · exact h2
    · rw [if_neg h2] at e
      rw [e] at h
      exact absurd h (by decide)
theorem lc_ne {x y : Int64} {z : Int32} (e : z = lg_cmp x y) (h : ¬ z.toInt = 0) : ¬ x = y := by
  intro q
  apply h
  rw [e, q]
  unfold lg_cmp
  rw [if_neg (by simp), if_pos rfl]
  rfl
def rM (u : St) (k : Nat) (lo hi : Int) : Prop := lo ≤ (fI u 0 k).toInt ∧ (fI u 0 k).toInt ≤ hi
def rA (u : St) (q : Nat) (lo hi : Int) : Prop := ∀ j : Nat, lo ≤ (fA u q j).toInt ∧ (fA u q j).toInt ≤ hi
/-- a knot at which SHE may be, in a web of K knots -/
def Sh (K x : Int32) : Prop := -1 ≤ x.toInt ∧ x.toInt ≤ 7 ∧ (K.toInt ≤ 0 ∨ 0 ≤ x.toInt)
def kN (u : St) : Int32 := fA u 3 (fI u 0 36).toNatClampNeg
def cN (u : St) : Int32 := fA u 6 (fI u 0 36).toNatClampNeg
/-- as the Java has it -/
def bitF (s k : Int32) : Int32 := if ((s >>> (k &&& 31)) &&& 1) = 1 then 1 else 0
/-- how many numbers lie on the pile, and whether each step finds what it wants -/
def isLt (c : Int32) : Prop := 97 ≤ c.toInt ∧ c.toInt ≤ 122
noncomputable def dpt (f : Nat → Int32) (F : Nat) : Nat → Int
  | 0 => 0
  | j + 1 => dpt f F j + (if f (F + j) = 126 then 0 else @ite _ (isLt (f (F + j))) (Classical.propDecidable _) 1 (-1))
def WFc (f : Nat → Int32) (F L : Nat) : Prop := ∀ j : Nat, j < L → ((f (F + j) = 126 → 1 ≤ dpt f F j) ∧ (isLt (f (F + j)) → dpt f F j ≤ 59) ∧ (¬ f (F + j) = 126 → ¬ isLt (f (F + j)) → 2 ≤ dpt f F j))
/-- the law of bank b is well formed -/
def WFR (u : St) (b : Int32) : Prop := ∃ L : Nat, (fA u 18 b.toNatClampNeg).toInt = 560 * b.toInt ∧ (fA u 19 b.toNatClampNeg).toInt = 560 * b.toInt + L ∧ L ≤ 560 ∧ WFc (fA u 23) (560 * b.toNatClampNeg) L
def LawOk (u : St) (b : Int32) : Prop := bitF (fA u 11 b.toNatClampNeg) 0 = 0 ∨ WFR u b
def ShR (u : St) (n : Int) : Prop := ∀ j : Nat, (j : Int) < n → Sh (kN u) (fA u 29 (29 * j + 24))
def ShB (u : St) : Prop := ∀ b : Nat, b < 3 → ¬ fA u 42 b = 0 → Sh (kN u) (fA u 41 (29 * b + 24))
theorem rA_up {u : St} {q : Nat} {lo hi : Int} {i : Nat} {v : Int32} (h : rA u q lo hi) (hv : lo ≤ v.toInt ∧ v.toInt ≤ hi) : rA (sA u q (upd (fA u q) i v)) q lo hi := by
  intro j
  have e : fA (sA u q (upd (fA u q) i v)) q j = upd (fA u q) i v j := by
    show va_up u.2.2.1 q (upd (fA u q) i v) q j = _
    rw [va_up_self]
  rw [e]
  by_cases hj : j = i
  · rw [hj, upd_at]
    exact hv
  · rw [upd_ne hj]
    exact h j
def MB (a : Nat → Nat) (u : St) : Prop := rM u 2 0 1600 ∧ rM u 3 0 1600 ∧ rM u 4 0 5 ∧ rM u 6 0 1600 ∧ rM u 7 0 1601 ∧ rM u 8 0 5 ∧ rM u 36 0 1 ∧ rM u 37 0 1 ∧ rM u 42 0 5 ∧ rM u 47 0 40 ∧ rM u 48 0 40 ∧ rM u 50 0 8 ∧ rM u 61 0 30 ∧ rM u 62 0 100000 ∧ rA u 3 0 8 ∧ rA u 4 0 14 ∧ rA u 5 0 8 ∧ rA u 6 0 6 ∧ rA u 7 0 60 ∧ rA u 8 0 7 ∧ rA u 13 0 7 ∧ rA u 14 0 7 ∧ rA u 16 0 7 ∧ rA u 17 0 255 ∧ rA u 32 0 1000 ∧ rA u 34 0 5 ∧ (fI u 0 47).toInt + (fI u 0 48).toInt ≤ 40 ∧ LawOk u (fI u 0 36) ∧ ((cN u).toInt ≤ 0 ∨ 0 < (kN u).toInt)
section
variable {a : Nat → Nat} {u : St}
theorem MB_2 (h : MB a u) : 0 ≤ (fI u 0 2).toInt ∧ (fI u 0 2).toInt ≤ 1600 := h.1
theorem MB_3 (h : MB a u) : 0 ≤ (fI u 0 3).toInt ∧ (fI u 0 3).toInt ≤ 1600 := h.2.1
theorem MB_4 (h : MB a u) : 0 ≤ (fI u 0 4).toInt ∧ (fI u 0 4).toInt ≤ 5 := h.2.2.1
theorem MB_6 (h : MB a u) : 0 ≤ (fI u 0 6).toInt ∧ (fI u 0 6).toInt ≤ 1600 := h.2.2.2.1
theorem MB_7 (h : MB a u) : 0 ≤ (fI u 0 7).toInt ∧ (fI u 0 7).toInt ≤ 1601 := h.2.2.2.2.1
theorem MB_8 (h : MB a u) : 0 ≤ (fI u 0 8).toInt ∧ (fI u 0 8).toInt ≤ 5 := h.2.2.2.2.2.1
theorem MB_36 (h : MB a u) : 0 ≤ (fI u 0 36).toInt ∧ (fI u 0 36).toInt ≤ 1 := h.2.2.2.2.2.2.1
theorem MB_37 (h : MB a u) : 0 ≤ (fI u 0 37).toInt ∧ (fI u 0 37).toInt ≤ 1 := h.2.2.2.2.2.2.2.1
theorem MB_42 (h : MB a u) : 0 ≤ (fI u 0 42).toInt ∧ (fI u 0 42).toInt ≤ 5 := h.2.2.2.2.2.2.2.2.1
theorem MB_47 (h : MB a u) : 0 ≤ (fI u 0 47).toInt ∧ (fI u 0 47).toInt ≤ 40 := h.2.2.2.2.2.2.2.2.2.1
theorem MB_48 (h : MB a u) : 0 ≤ (fI u 0 48).toInt ∧ (fI u 0 48).toInt ≤ 40 := h.2.2.2.2.2.2.2.2.2.2.1
theorem MB_50 (h : MB a u) : 0 ≤ (fI u 0 50).toInt ∧ (fI u 0 50).toInt ≤ 8 := h.2.2.2.2.2.2.2.2.2.2.2.1
theorem MB_61 (h : MB a u) : 0 ≤ (fI u 0 61).toInt ∧ (fI u 0 61).toInt ≤ 30 := h.2.2.2.2.2.2.2.2.2.2.2.2.1
theorem MB_62 (h : MB a u) : 0 ≤ (fI u 0 62).toInt ∧ (fI u 0 62).toInt ≤ 100000 := h.2.2.2.2.2.2.2.2.2.2.2.2.2.1
theorem MB_A3 (h : MB a u) (j : Nat) : 0 ≤ (fA u 3 j).toInt ∧ (fA u 3 j).toInt ≤ 8 := h.2.2.2.2.2.2.2.2.2.2.2.2.2.2.1 j
theorem MB_A4 (h : MB a u) (j : Nat) : 0 ≤ (fA u 4 j).toInt ∧ (fA u 4 j).toInt ≤ 14 := h.2.2.2.2.2.2.2.2.2.2.2.2.2.2.2.1 j
theorem MB_A5 (h : MB a u) (j : Nat) : 0 ≤ (fA u 5 j).toInt ∧ (fA u 5 j).toInt ≤ 8 := h.2.2.2.2.2.2.2.2.2.2.2.2.2.2.2.2.1 j
theorem MB_A6 (h : MB a u) (j : Nat) : 0 ≤ (fA u 6 j).toInt ∧ (fA u 6 j).toInt ≤ 6 := h.2.2.2.2.2.2.2.2.2.2.2.2.2.2.2.2.2.1 j
theorem MB_A7 (h : MB a u) (j : Nat) : 0 ≤ (fA u 7 j).toInt ∧ (fA u 7 j).toInt ≤ 60 := h.2.2.2.2.2.2.2.2.2.2.2.2.2.2.2.2.2.2.1 j
theorem MB_A8 (h : MB a u) (j : Nat) : 0 ≤ (fA u 8 j).toInt ∧ (fA u 8 j).toInt ≤ 7 := h.2.2.2.2.2.2.2.2.2.2.2.2.2.2.2.2.2.2.2.1 j
theorem MB_A13 (h : MB a u) (j : Nat) : 0 ≤ (fA u 13 j).toInt ∧ (fA u 13 j).toInt ≤ 7 := h.2.2.2.2.2.2.2.2.2.2.2.2.2.2.2.2.2.2.2.2.1 j
theorem MB_A14 (h : MB a u) (j : Nat) : 0 ≤ (fA u 14 j).toInt ∧ (fA u 14 j).toInt ≤ 7 := h.2.2.2.2.2.2.2.2.2.2.2.2.2.2.2.2.2.2.2.2.2.1 j
theorem MB_A16 (h : MB a u) (j : Nat) : 0 ≤ (fA u 16 j).toInt ∧ (fA u 16 j).toInt ≤ 7 := h.2.2.2.2.2.2.2.2.2.2.2.2.2.2.2.2.2.2.2.2.2.2.1 j
theorem MB_A17 (h : MB a u) (j : Nat) : 0 ≤ (fA u 17 j).toInt ∧ (fA u 17 j).toInt ≤ 255 := h.2.2.2.2.2.2.2.2.2.2.2.2.2.2.2.2.2.2.2.2.2.2.2.1 j
theorem MB_A32 (h : MB a u) (j : Nat) : 0 ≤ (fA u 32 j).toInt ∧ (fA u 32 j).toInt ≤ 1000 := h.2.2.2.2.2.2.2.2.2.2.2.2.2.2.2.2.2.2.2.2.2.2.2.2.1 j
theorem MB_A34 (h : MB a u) (j : Nat) : 0 ≤ (fA u 34 j).toInt ∧ (fA u 34 j).toInt ≤ 5 := h.2.2.2.2.2.2.2.2.2.2.2.2.2.2.2.2.2.2.2.2.2.2.2.2.2.1 j
theorem MB_acts (h : MB a u) : (fI u 0 47).toInt + (fI u 0 48).toInt ≤ 40 := h.2.2.2.2.2.2.2.2.2.2.2.2.2.2.2.2.2.2.2.2.2.2.2.2.2.2.1
theorem MB_law (h : MB a u) : LawOk u (fI u 0 36) := h.2.2.2.2.2.2.2.2.2.2.2.2.2.2.2.2.2.2.2.2.2.2.2.2.2.2.2.1
theorem MB_ck (h : MB a u) : ((cN u).toInt ≤ 0 ∨ 0 < (kN u).toInt) := h.2.2.2.2.2.2.2.2.2.2.2.2.2.2.2.2.2.2.2.2.2.2.2.2.2.2.2.2
theorem MBs_2 {v : Int32} (h : MB a u) (hv : 0 ≤ v.toInt ∧ v.toInt ≤ 1600) : MB a (sI u 0 2 v) := by
  obtain ⟨h0, h1, h2, h3, h4, h5, h6, h7, h8, h9, h10, h11, h12, h13, h14, h15, h16, h17, h18, h19, h20, h21, h22, h23, h24, h25, h26, h27, h28⟩ := h
  exact ⟨hv, h1, h2, h3, h4, h5, h6, h7, h8, h9, h10, h11, h12, h13, h14, h15, h16, h17, h18, h19, h20, h21, h22, h23, h24, h25, h26, h27, h28⟩
theorem MBs_3 {v : Int32} (h : MB a u) (hv : 0 ≤ v.toInt ∧ v.toInt ≤ 1600) : MB a (sI u 0 3 v) := by
  obtain ⟨h0, h1, h2, h3, h4, h5, h6, h7, h8, h9, h10, h11, h12, h13, h14, h15, h16, h17, h18, h19, h20, h21, h22, h23, h24, h25, h26, h27, h28⟩ := h
  exact ⟨h0, hv, h2, h3, h4, h5, h6, h7, h8, h9, h10, h11, h12, h13, h14, h15, h16, h17, h18, h19, h20, h21, h22, h23, h24, h25, h26, h27, h28⟩
theorem MBs_4 {v : Int32} (h : MB a u) (hv : 0 ≤ v.toInt ∧ v.toInt ≤ 5) : MB a (sI u 0 4 v) := by
  obtain ⟨h0, h1, h2, h3, h4, h5, h6, h7, h8, h9, h10, h11, h12, h13, h14, h15, h16, h17, h18, h19, h20, h21, h22, h23, h24, h25, h26, h27, h28⟩ := h
  exact ⟨h0, h1, hv, h3, h4, h5, h6, h7, h8, h9, h10, h11, h12, h13, h14, h15, h16, h17, h18, h19, h20, h21, h22, h23, h24, h25, h26, h27, h28⟩
theorem MBs_5 {v : Int32} (h : MB a u) : MB a (sI u 0 5 v) := h
theorem MBs_6 {v : Int32} (h : MB a u) (hv : 0 ≤ v.toInt ∧ v.toInt ≤ 1600) : MB a (sI u 0 6 v) := by
  obtain ⟨h0, h1, h2, h3, h4, h5, h6, h7, h8, h9, h10, h11, h12, h13, h14, h15, h16, h17, h18, h19, h20, h21, h22, h23, h24, h25, h26, h27, h28⟩ := h
  exact ⟨h0, h1, h2, hv, h4, h5, h6, h7, h8, h9, h10, h11, h12, h13, h14, h15, h16, h17, h18, h19, h20, h21, h22, h23, h24, h25, h26, h27, h28⟩
theorem MBs_7 {v : Int32} (h : MB a u) (hv : 0 ≤ v.toInt ∧ v.toInt ≤ 1601) : MB a (sI u 0 7 v) := by
  obtain ⟨h0, h1, h2, h3, h4, h5, h6, h7, h8, h9, h10, h11, h12, h13, h14, h15, h16, h17, h18, h19, h20, h21, h22, h23, h24, h25, h26, h27, h28⟩ := h
  exact ⟨h0, h1, h2, h3, hv, h5, h6, h7, h8, h9, h10, h11, h12, h13, h14, h15, h16, h17, h18, h19, h20, h21, h22, h23, h24, h25, h26, h27, h28⟩
theorem MBs_8 {v : Int32} (h : MB a u) (hv : 0 ≤ v.toInt ∧ v.toInt ≤ 5) : MB a (sI u 0 8 v) := by
  obtain ⟨h0, h1, h2, h3, h4, h5, h6, h7, h8, h9, h10, h11, h12, h13, h14, h15, h16, h17, h18, h19, h20, h21, h22, h23, h24, h25, h26, h27, h28⟩ := h
  exact ⟨h0, h1, h2, h3, h4, hv, h6, h7, h8, h9, h10, h11, h12, h13, h14, h15, h16, h17, h18, h19, h20, h21, h22, h23, h24, h25, h26, h27, h28⟩
theorem MBs_9 {v : Int32} (h : MB a u) : MB a (sI u 0 9 v) := h
theorem MBs_10 {v : Int64} (h : MB a u) : MB a (sL u 0 10 v) := h
theorem MBs_37 {v : Int32} (h : MB a u) (hv : 0 ≤ v.toInt ∧ v.toInt ≤ 1) : MB a (sI u 0 37 v) := by
  obtain ⟨h0, h1, h2, h3, h4, h5, h6, h7, h8, h9, h10, h11, h12, h13, h14, h15, h16, h17, h18, h19, h20, h21, h22, h23, h24, h25, h26, h27, h28⟩ := h
  exact ⟨h0, h1, h2, h3, h4, h5, h6, hv, h8, h9, h10, h11, h12, h13, h14, h15, h16, h17, h18, h19, h20, h21, h22, h23, h24, h25, h26, h27, h28⟩
theorem MBs_38 {v : Int32} (h : MB a u) : MB a (sI u 0 38 v) := h
theorem MBs_39 {v : Int32} (h : MB a u) : MB a (sI u 0 39 v) := h
theorem MBs_40 {v : Int32} (h : MB a u) : MB a (sI u 0 40 v) := h
theorem MBs_41 {v : Int32} (h : MB a u) : MB a (sI u 0 41 v) := h
theorem MBs_42 {v : Int32} (h : MB a u) (hv : 0 ≤ v.toInt ∧ v.toInt ≤ 5) : MB a (sI u 0 42 v) := by
  obtain ⟨h0, h1, h2, h3, h4, h5, h6, h7, h8, h9, h10, h11, h12, h13, h14, h15, h16, h17, h18, h19, h20, h21, h22, h23, h24, h25, h26, h27, h28⟩ := h
  exact ⟨h0, h1, h2, h3, h4, h5, h6, h7, hv, h9, h10, h11, h12, h13, h14, h15, h16, h17, h18, h19, h20, h21, h22, h23, h24, h25, h26, h27, h28⟩
theorem MBs_43 {v : Int32} (h : MB a u) : MB a (sI u 0 43 v) := h
theorem MBs_45 {v : Int32} (h : MB a u) : MB a (sI u 0 45 v) := h
theorem MBs_50 {v : Int32} (h : MB a u) (hv : 0 ≤ v.toInt ∧ v.toInt ≤ 8) : MB a (sI u 0 50 v) := by
  obtain ⟨h0, h1, h2, h3, h4, h5, h6, h7, h8, h9, h10, h11, h12, h13, h14, h15, h16, h17, h18, h19, h20, h21, h22, h23, h24, h25, h26, h27, h28⟩ := h
  exact ⟨h0, h1, h2, h3, h4, h5, h6, h7, h8, h9, h10, hv, h12, h13, h14, h15, h16, h17, h18, h19, h20, h21, h22, h23, h24, h25, h26, h27, h28⟩
theorem MBs_61 {v : Int32} (h : MB a u) (hv : 0 ≤ v.toInt ∧ v.toInt ≤ 30) : MB a (sI u 0 61 v) := by
  obtain ⟨h0, h1, h2, h3, h4, h5, h6, h7, h8, h9, h10, h11, h12, h13, h14, h15, h16, h17, h18, h19, h20, h21, h22, h23, h24, h25, h26, h27, h28⟩ := h
  exact ⟨h0, h1, h2, h3, h4, h5, h6, h7, h8, h9, h10, h11, hv, h13, h14, h15, h16, h17, h18, h19, h20, h21, h22, h23, h24, h25, h26, h27, h28⟩
theorem MBs_62 {v : Int32} (h : MB a u) (hv : 0 ≤ v.toInt ∧ v.toInt ≤ 100000) : MB a (sI u 0 62 v) := by
  obtain ⟨h0, h1, h2, h3, h4, h5, h6, h7, h8, h9, h10, h11, h12, h13, h14, h15, h16, h17, h18, h19, h20, h21, h22, h23, h24, h25, h26, h27, h28⟩ := h
  exact ⟨h0, h1, h2, h3, h4, h5, h6, h7, h8, h9, h10, h11, h12, hv, h14, h15, h16, h17, h18, h19, h20, h21, h22, h23, h24, h25, h26, h27, h28⟩
theorem MBsA_1 {D : va_G} {A : Nat → Prop} {cy : Nat → ClassId} {hp H : Heap} {locs : List Loc} {f : Nat → Int32} (_ : Wo D A (mW cy a (sA u 1 f)) hp H locs) (h : MB a u) : MB a (sA u 1 f) := h
theorem MBsA_2 {D : va_G} {A : Nat → Prop} {cy : Nat → ClassId} {hp H : Heap} {locs : List Loc} {f : Nat → Int32} (_ : Wo D A (mW cy a (sA u 2 f)) hp H locs) (h : MB a u) : MB a (sA u 2 f) := h
theorem MBsA_4 {D : va_G} {A : Nat → Prop} {cy : Nat → ClassId} {hp H : Heap} {locs : List Loc} {i : Nat} {v : Int32} (_ : Wo D A (mW cy a (sA u 4 (upd (fA u 4) i v))) hp H locs) (h : MB a u) (hv : 0 ≤ v.toInt ∧ v.toInt ≤ 14) : MB a (sA u 4 (upd (fA u 4) i v)) := by
  obtain ⟨h0, h1, h2, h3, h4, h5, h6, h7, h8, h9, h10, h11, h12, h13, h14, h15, h16, h17, h18, h19, h20, h21, h22, h23, h24, h25, h26, h27, h28⟩ := h
  exact ⟨h0, h1, h2, h3, h4, h5, h6, h7, h8, h9, h10, h11, h12, h13, h14, (rA_up h15 hv), h16, h17, h18, h19, h20, h21, h22, h23, h24, h25, h26, h27, h28⟩
theorem MBsA_5 {D : va_G} {A : Nat → Prop} {cy : Nat → ClassId} {hp H : Heap} {locs : List Loc} {i : Nat} {v : Int32} (_ : Wo D A (mW cy a (sA u 5 (upd (fA u 5) i v))) hp H locs) (h : MB a u) (hv : 0 ≤ v.toInt ∧ v.toInt ≤ 8) : MB a (sA u 5 (upd (fA u 5) i v)) := by
  obtain ⟨h0, h1, h2, h3, h4, h5, h6, h7, h8, h9, h10, h11, h12, h13, h14, h15, h16, h17, h18, h19, h20, h21, h22, h23, h24, h25, h26, h27, h28⟩ := h
  exact ⟨h0, h1, h2, h3, h4, h5, h6, h7, h8, h9, h10, h11, h12, h13, h14, h15, (rA_up h16 hv), h17, h18, h19, h20, h21, h22, h23, h24, h25, h26, h27, h28⟩
theorem MBsA_7 {D : va_G} {A : Nat → Prop} {cy : Nat → ClassId} {hp H : Heap} {locs : List Loc} {i : Nat} {v : Int32} (_ : Wo D A (mW cy a (sA u 7 (upd (fA u 7) i v))) hp H locs) (h : MB a u) (hv : 0 ≤ v.toInt ∧ v.toInt ≤ 60) : MB a (sA u 7 (upd (fA u 7) i v)) := by
  obtain ⟨h0, h1, h2, h3, h4, h5, h6, h7, h8, h9, h10, h11, h12, h13, h14, h15, h16, h17, h18, h19, h20, h21, h22, h23, h24, h25, h26, h27, h28⟩ := h
  exact ⟨h0, h1, h2, h3, h4, h5, h6, h7, h8, h9, h10, h11, h12, h13, h14, h15, h16, h17, (rA_up h18 hv), h19, h20, h21, h22, h23, h24, h25, h26, h27, h28⟩
theorem MBsA_8 {D : va_G} {A : Nat → Prop} {cy : Nat → ClassId} {hp H : Heap} {locs : List Loc} {i : Nat} {v : Int32} (_ : Wo D A (mW cy a (sA u 8 (upd (fA u 8) i v))) hp H locs) (h : MB a u) (hv : 0 ≤ v.toInt ∧ v.toInt ≤ 7) : MB a (sA u 8 (upd (fA u 8) i v)) := by
  obtain ⟨h0, h1, h2, h3, h4, h5, h6, h7, h8, h9, h10, h11, h12, h13, h14, h15, h16, h17, h18, h19, h20, h21, h22, h23, h24, h25, h26, h27, h28⟩ := h
  exact ⟨h0, h1, h2, h3, h4, h5, h6, h7, h8, h9, h10, h11, h12, h13, h14, h15, h16, h17, h18, (rA_up h19 hv), h20, h21, h22, h23, h24, h25, h26, h27, h28⟩
theorem MBsA_9 {D : va_G} {A : Nat → Prop} {cy : Nat → ClassId} {hp H : Heap} {locs : List Loc} {f : Nat → Int32} (_ : Wo D A (mW cy a (sA u 9 f)) hp H locs) (h : MB a u) : MB a (sA u 9 f) := h
theorem MBsA_10 {D : va_G} {A : Nat → Prop} {cy : Nat → ClassId} {hp H : Heap} {locs : List Loc} {f : Nat → Int32} (_ : Wo D A (mW cy a (sA u 10 f)) hp H locs) (h : MB a u) : MB a (sA u 10 f) := h
theorem MBsA_12 {D : va_G} {A : Nat → Prop} {cy : Nat → ClassId} {hp H : Heap} {locs : List Loc} {f : Nat → Int32} (_ : Wo D A (mW cy a (sA u 12 f)) hp H locs) (h : MB a u) : MB a (sA u 12 f) := h
theorem MBsA_13 {D : va_G} {A : Nat → Prop} {cy : Nat → ClassId} {hp H : Heap} {locs : List Loc} {i : Nat} {v : Int32} (_ : Wo D A (mW cy a (sA u 13 (upd (fA u 13) i v))) hp H locs) (h : MB a u) (hv : 0 ≤ v.toInt ∧ v.toInt ≤ 7) : MB a (sA u 13 (upd (fA u 13) i v)) := by
  obtain ⟨h0, h1, h2, h3, h4, h5, h6, h7, h8, h9, h10, h11, h12, h13, h14, h15, h16, h17, h18, h19, h20, h21, h22, h23, h24, h25, h26, h27, h28⟩ := h
  exact ⟨h0, h1, h2, h3, h4, h5, h6, h7, h8, h9, h10, h11, h12, h13, h14, h15, h16, h17, h18, h19, (rA_up h20 hv), h21, h22, h23, h24, h25, h26, h27, h28⟩
theorem MBsA_14 {D : va_G} {A : Nat → Prop} {cy : Nat → ClassId} {hp H : Heap} {locs : List Loc} {i : Nat} {v : Int32} (_ : Wo D A (mW cy a (sA u 14 (upd (fA u 14) i v))) hp H locs) (h : MB a u) (hv : 0 ≤ v.toInt ∧ v.toInt ≤ 7) : MB a (sA u 14 (upd (fA u 14) i v)) := by
  obtain ⟨h0, h1, h2, h3, h4, h5, h6, h7, h8, h9, h10, h11, h12, h13, h14, h15, h16, h17, h18, h19, h20, h21, h22, h23, h24, h25, h26, h27, h28⟩ := h
  exact ⟨h0, h1, h2, h3, h4, h5, h6, h7, h8, h9, h10, h11, h12, h13, h14, h15, h16, h17, h18, h19, h20, (rA_up h21 hv), h22, h23, h24, h25, h26, h27, h28⟩
theorem MBsA_15 {D : va_G} {A : Nat → Prop} {cy : Nat → ClassId} {hp H : Heap} {locs : List Loc} {f : Nat → Int32} (_ : Wo D A (mW cy a (sA u 15 f)) hp H locs) (h : MB a u) : MB a (sA u 15 f) := h
theorem MBsA_16 {D : va_G} {A : Nat → Prop} {cy : Nat → ClassId} {hp H : Heap} {locs : List Loc} {i : Nat} {v : Int32} (_ : Wo D A (mW cy a (sA u 16 (upd (fA u 16) i v))) hp H locs) (h : MB a u) (hv : 0 ≤ v.toInt ∧ v.toInt ≤ 7) : MB a (sA u 16 (upd (fA u 16) i v)) := by
  obtain ⟨h0, h1, h2, h3, h4, h5, h6, h7, h8, h9, h10, h11, h12, h13, h14, h15, h16, h17, h18, h19, h20, h21, h22, h23, h24, h25, h26, h27, h28⟩ := h
  exact ⟨h0, h1, h2, h3, h4, h5, h6, h7, h8, h9, h10, h11, h12, h13, h14, h15, h16, h17, h18, h19, h20, h21, (rA_up h22 hv), h23, h24, h25, h26, h27, h28⟩
theorem MBsA_17 {D : va_G} {A : Nat → Prop} {cy : Nat → ClassId} {hp H : Heap} {locs : List Loc} {i : Nat} {v : Int32} (_ : Wo D A (mW cy a (sA u 17 (upd (fA u 17) i v))) hp H locs) (h : MB a u) (hv : 0 ≤ v.toInt ∧ v.toInt ≤ 255) : MB a (sA u 17 (upd (fA u 17) i v)) := by
  obtain ⟨h0, h1, h2, h3, h4, h5, h6, h7, h8, h9, h10, h11, h12, h13, h14, h15, h16, h17, h18, h19, h20, h21, h22, h23, h24, h25, h26, h27, h28⟩ := h
  exact ⟨h0, h1, h2, h3, h4, h5, h6, h7, h8, h9, h10, h11, h12, h13, h14, h15, h16, h17, h18, h19, h20, h21, h22, (rA_up h23 hv), h24, h25, h26, h27, h28⟩
theorem MBsJ_20 {D : va_G} {A : Nat → Prop} {cy : Nat → ClassId} {hp H : Heap} {locs : List Loc} {f : Nat → Int64} (_ : Wo D A (mW cy a (sJ u 20 f)) hp H locs) (h : MB a u) : MB a (sJ u 20 f) := h
theorem MBsJ_21 {D : va_G} {A : Nat → Prop} {cy : Nat → ClassId} {hp H : Heap} {locs : List Loc} {f : Nat → Int64} (_ : Wo D A (mW cy a (sJ u 21 f)) hp H locs) (h : MB a u) : MB a (sJ u 21 f) := h
theorem MBsJ_22 {D : va_G} {A : Nat → Prop} {cy : Nat → ClassId} {hp H : Heap} {locs : List Loc} {f : Nat → Int64} (_ : Wo D A (mW cy a (sJ u 22 f)) hp H locs) (h : MB a u) : MB a (sJ u 22 f) := h
theorem MBsA_24 {D : va_G} {A : Nat → Prop} {cy : Nat → ClassId} {hp H : Heap} {locs : List Loc} {f : Nat → Int32} (_ : Wo D A (mW cy a (sA u 24 f)) hp H locs) (h : MB a u) : MB a (sA u 24 f) := h
theorem MBsA_25 {D : va_G} {A : Nat → Prop} {cy : Nat → ClassId} {hp H : Heap} {locs : List Loc} {f : Nat → Int32} (_ : Wo D A (mW cy a (sA u 25 f)) hp H locs) (h : MB a u) : MB a (sA u 25 f) := h
theorem MBsA_26 {D : va_G} {A : Nat → Prop} {cy : Nat → ClassId} {hp H : Heap} {locs : List Loc} {f : Nat → Int32} (_ : Wo D A (mW cy a (sA u 26 f)) hp H locs) (h : MB a u) : MB a (sA u 26 f) := h
theorem MBsA_27 {D : va_G} {A : Nat → Prop} {cy : Nat → ClassId} {hp H : Heap} {locs : List Loc} {f : Nat → Int32} (_ : Wo D A (mW cy a (sA u 27 f)) hp H locs) (h : MB a u) : MB a (sA u 27 f) := h
theorem MBsA_28 {D : va_G} {A : Nat → Prop} {cy : Nat → ClassId} {hp H : Heap} {locs : List Loc} {f : Nat → Int32} (_ : Wo D A (mW cy a (sA u 28 f)) hp H locs) (h : MB a u) : MB a (sA u 28 f) := h
theorem MBsA_29 {D : va_G} {A : Nat → Prop} {cy : Nat → ClassId} {hp H : Heap} {locs : List Loc} {f : Nat → Int32} (_ : Wo D A (mW cy a (sA u 29 f)) hp H locs) (h : MB a u) : MB a (sA u 29 f) := h
theorem MBsA_30 {D : va_G} {A : Nat → Prop} {cy : Nat → ClassId} {hp H : Heap} {locs : List Loc} {f : Nat → Int32} (_ : Wo D A (mW cy a (sA u 30 f)) hp H locs) (h : MB a u) : MB a (sA u 30 f) := h
theorem MBsA_31 {D : va_G} {A : Nat → Prop} {cy : Nat → ClassId} {hp H : Heap} {locs : List Loc} {f : Nat → Int32} (_ : Wo D A (mW cy a (sA u 31 f)) hp H locs) (h : MB a u) : MB a (sA u 31 f) := h
theorem MBsA_32 {D : va_G} {A : Nat → Prop} {cy : Nat → ClassId} {hp H : Heap} {locs : List Loc} {i : Nat} {v : Int32} (_ : Wo D A (mW cy a (sA u 32 (upd (fA u 32) i v))) hp H locs) (h : MB a u) (hv : 0 ≤ v.toInt ∧ v.toInt ≤ 1000) : MB a (sA u 32 (upd (fA u 32) i v)) := by
  obtain ⟨h0, h1, h2, h3, h4, h5, h6, h7, h8, h9, h10, h11, h12, h13, h14, h15, h16, h17, h18, h19, h20, h21, h22, h23, h24, h25, h26, h27, h28⟩ := h
  exact ⟨h0, h1, h2, h3, h4, h5, h6, h7, h8, h9, h10, h11, h12, h13, h14, h15, h16, h17, h18, h19, h20, h21, h22, h23, (rA_up h24 hv), h25, h26, h27, h28⟩
theorem MBsA_33 {D : va_G} {A : Nat → Prop} {cy : Nat → ClassId} {hp H : Heap} {locs : List Loc} {f : Nat → Int32} (_ : Wo D A (mW cy a (sA u 33 f)) hp H locs) (h : MB a u) : MB a (sA u 33 f) := h
theorem MBsA_34 {D : va_G} {A : Nat → Prop} {cy : Nat → ClassId} {hp H : Heap} {locs : List Loc} {i : Nat} {v : Int32} (_ : Wo D A (mW cy a (sA u 34 (upd (fA u 34) i v))) hp H locs) (h : MB a u) (hv : 0 ≤ v.toInt ∧ v.toInt ≤ 5) : MB a (sA u 34 (upd (fA u 34) i v)) := by
  obtain ⟨h0, h1, h2, h3, h4, h5, h6, h7, h8, h9, h10, h11, h12, h13, h14, h15, h16, h17, h18, h19, h20, h21, h22, h23, h24, h25, h26, h27, h28⟩ := h
  exact ⟨h0, h1, h2, h3, h4, h5, h6, h7, h8, h9, h10, h11, h12, h13, h14, h15, h16, h17, h18, h19, h20, h21, h22, h23, h24, (rA_up h25 hv), h26, h27, h28⟩
theorem MBsA_35 {D : va_G} {A : Nat → Prop} {cy : Nat → ClassId} {hp H : Heap} {locs : List Loc} {f : Nat → Int32} (_ : Wo D A (mW cy a (sA u 35 f)) hp H locs) (h : MB a u) : MB a (sA u 35 f) := h
theorem MBsA_36 {D : va_G} {A : Nat → Prop} {cy : Nat → ClassId} {hp H : Heap} {locs : List Loc} {f : Nat → Int32} (_ : Wo D A (mW cy a (sA u 36 f)) hp H locs) (h : MB a u) : MB a (sA u 36 f) := h
theorem MBsA_37 {D : va_G} {A : Nat → Prop} {cy : Nat → ClassId} {hp H : Heap} {locs : List Loc} {f : Nat → Int32} (_ : Wo D A (mW cy a (sA u 37 f)) hp H locs) (h : MB a u) : MB a (sA u 37 f) := h
theorem MBsA_38 {D : va_G} {A : Nat → Prop} {cy : Nat → ClassId} {hp H : Heap} {locs : List Loc} {f : Nat → Int32} (_ : Wo D A (mW cy a (sA u 38 f)) hp H locs) (h : MB a u) : MB a (sA u 38 f) := h
theorem MBsA_39 {D : va_G} {A : Nat → Prop} {cy : Nat → ClassId} {hp H : Heap} {locs : List Loc} {f : Nat → Int32} (_ : Wo D A (mW cy a (sA u 39 f)) hp H locs) (h : MB a u) : MB a (sA u 39 f) := h
theorem MBsA_40 {D : va_G} {A : Nat → Prop} {cy : Nat → ClassId} {hp H : Heap} {locs : List Loc} {f : Nat → Int32} (_ : Wo D A (mW cy a (sA u 40 f)) hp H locs) (h : MB a u) : MB a (sA u 40 f) := h
theorem MBsA_41 {D : va_G} {A : Nat → Prop} {cy : Nat → ClassId} {hp H : Heap} {locs : List Loc} {f : Nat → Int32} (_ : Wo D A (mW cy a (sA u 41 f)) hp H locs) (h : MB a u) : MB a (sA u 41 f) := h
theorem MBsA_42 {D : va_G} {A : Nat → Prop} {cy : Nat → ClassId} {hp H : Heap} {locs : List Loc} {f : Nat → Int32} (_ : Wo D A (mW cy a (sA u 42 f)) hp H locs) (h : MB a u) : MB a (sA u 42 f) := h
end
def MI (a : Nat → Nat) (u : St) : Prop := rM u 2 0 1600 ∧ rM u 3 0 1600 ∧ rM u 4 0 5 ∧ rM u 6 0 1600 ∧ rM u 7 0 1601 ∧ rM u 8 0 5 ∧ rM u 36 0 1 ∧ rM u 37 0 1 ∧ rM u 42 0 5 ∧ rM u 47 0 40 ∧ rM u 48 0 40 ∧ rM u 50 0 8 ∧ rM u 61 0 30 ∧ rM u 62 0 100000 ∧ rA u 3 0 8 ∧ rA u 4 0 14 ∧ rA u 5 0 8 ∧ rA u 6 0 6 ∧ rA u 7 0 60 ∧ rA u 8 0 7 ∧ rA u 13 0 7 ∧ rA u 14 0 7 ∧ rA u 16 0 7 ∧ rA u 17 0 255 ∧ rA u 32 0 1000 ∧ rA u 34 0 5 ∧ (fI u 0 47).toInt + (fI u 0 48).toInt ≤ 40 ∧ LawOk u (fI u 0 36) ∧ ((cN u).toInt ≤ 0 ∨ 0 < (kN u).toInt) ∧ Sh (kN u) (fA u 28 24) ∧ ShR u ((fI u 0 47).toInt + (fI u 0 48).toInt) ∧ ShB u
section
variable {a : Nat → Nat} {u : St}
theorem MI_2 (h : MI a u) : 0 ≤ (fI u 0 2).toInt ∧ (fI u 0 2).toInt ≤ 1600 := h.1
theorem MI_3 (h : MI a u) : 0 ≤ (fI u 0 3).toInt ∧ (fI u 0 3).toInt ≤ 1600 := h.2.1
theorem MI_4 (h : MI a u) : 0 ≤ (fI u 0 4).toInt ∧ (fI u 0 4).toInt ≤ 5 := h.2.2.1
theorem MI_6 (h : MI a u) : 0 ≤ (fI u 0 6).toInt ∧ (fI u 0 6).toInt ≤ 1600 := h.2.2.2.1
theorem MI_7 (h : MI a u) : 0 ≤ (fI u 0 7).toInt ∧ (fI u 0 7).toInt ≤ 1601 := h.2.2.2.2.1
theorem MI_8 (h : MI a u) : 0 ≤ (fI u 0 8).toInt ∧ (fI u 0 8).toInt ≤ 5 := h.2.2.2.2.2.1
theorem MI_36 (h : MI a u) : 0 ≤ (fI u 0 36).toInt ∧ (fI u 0 36).toInt ≤ 1 := h.2.2.2.2.2.2.1
theorem MI_37 (h : MI a u) : 0 ≤ (fI u 0 37).toInt ∧ (fI u 0 37).toInt ≤ 1 := h.2.2.2.2.2.2.2.1
theorem MI_42 (h : MI a u) : 0 ≤ (fI u 0 42).toInt ∧ (fI u 0 42).toInt ≤ 5 := h.2.2.2.2.2.2.2.2.1
theorem MI_47 (h : MI a u) : 0 ≤ (fI u 0 47).toInt ∧ (fI u 0 47).toInt ≤ 40 := h.2.2.2.2.2.2.2.2.2.1
theorem MI_48 (h : MI a u) : 0 ≤ (fI u 0 48).toInt ∧ (fI u 0 48).toInt ≤ 40 := h.2.2.2.2.2.2.2.2.2.2.1
theorem MI_50 (h : MI a u) : 0 ≤ (fI u 0 50).toInt ∧ (fI u 0 50).toInt ≤ 8 := h.2.2.2.2.2.2.2.2.2.2.2.1
theorem MI_61 (h : MI a u) : 0 ≤ (fI u 0 61).toInt ∧ (fI u 0 61).toInt ≤ 30 := h.2.2.2.2.2.2.2.2.2.2.2.2.1
theorem MI_62 (h : MI a u) : 0 ≤ (fI u 0 62).toInt ∧ (fI u 0 62).toInt ≤ 100000 := h.2.2.2.2.2.2.2.2.2.2.2.2.2.1
theorem MI_A3 (h : MI a u) (j : Nat) : 0 ≤ (fA u 3 j).toInt ∧ (fA u 3 j).toInt ≤ 8 := h.2.2.2.2.2.2.2.2.2.2.2.2.2.2.1 j
theorem MI_A4 (h : MI a u) (j : Nat) : 0 ≤ (fA u 4 j).toInt ∧ (fA u 4 j).toInt ≤ 14 := h.2.2.2.2.2.2.2.2.2.2.2.2.2.2.2.1 j
theorem MI_A5 (h : MI a u) (j : Nat) : 0 ≤ (fA u 5 j).toInt ∧ (fA u 5 j).toInt ≤ 8 := h.2.2.2.2.2.2.2.2.2.2.2.2.2.2.2.2.1 j
theorem MI_A6 (h : MI a u) (j : Nat) : 0 ≤ (fA u 6 j).toInt ∧ (fA u 6 j).toInt ≤ 6 := h.2.2.2.2.2.2.2.2.2.2.2.2.2.2.2.2.2.1 j
theorem MI_A7 (h : MI a u) (j : Nat) : 0 ≤ (fA u 7 j).toInt ∧ (fA u 7 j).toInt ≤ 60 := h.2.2.2.2.2.2.2.2.2.2.2.2.2.2.2.2.2.2.1 j
theorem MI_A8 (h : MI a u) (j : Nat) : 0 ≤ (fA u 8 j).toInt ∧ (fA u 8 j).toInt ≤ 7 := h.2.2.2.2.2.2.2.2.2.2.2.2.2.2.2.2.2.2.2.1 j
theorem MI_A13 (h : MI a u) (j : Nat) : 0 ≤ (fA u 13 j).toInt ∧ (fA u 13 j).toInt ≤ 7 := h.2.2.2.2.2.2.2.2.2.2.2.2.2.2.2.2.2.2.2.2.1 j
theorem MI_A14 (h : MI a u) (j : Nat) : 0 ≤ (fA u 14 j).toInt ∧ (fA u 14 j).toInt ≤ 7 := h.2.2.2.2.2.2.2.2.2.2.2.2.2.2.2.2.2.2.2.2.2.1 j
theorem MI_A16 (h : MI a u) (j : Nat) : 0 ≤ (fA u 16 j).toInt ∧ (fA u 16 j).toInt ≤ 7 := h.2.2.2.2.2.2.2.2.2.2.2.2.2.2.2.2.2.2.2.2.2.2.1 j
theorem MI_A17 (h : MI a u) (j : Nat) : 0 ≤ (fA u 17 j).toInt ∧ (fA u 17 j).toInt ≤ 255 := h.2.2.2.2.2.2.2.2.2.2.2.2.2.2.2.2.2.2.2.2.2.2.2.1 j
theorem MI_A32 (h : MI a u) (j : Nat) : 0 ≤ (fA u 32 j).toInt ∧ (fA u 32 j).toInt ≤ 1000 := h.2.2.2.2.2.2.2.2.2.2.2.2.2.2.2.2.2.2.2.2.2.2.2.2.1 j
theorem MI_A34 (h : MI a u) (j : Nat) : 0 ≤ (fA u 34 j).toInt ∧ (fA u 34 j).toInt ≤ 5 := h.2.2.2.2.2.2.2.2.2.2.2.2.2.2.2.2.2.2.2.2.2.2.2.2.2.1 j
theorem MI_acts (h : MI a u) : (fI u 0 47).toInt + (fI u 0 48).toInt ≤ 40 := h.2.2.2.2.2.2.2.2.2.2.2.2.2.2.2.2.2.2.2.2.2.2.2.2.2.2.1
theorem MI_law (h : MI a u) : LawOk u (fI u 0 36) := h.2.2.2.2.2.2.2.2.2.2.2.2.2.2.2.2.2.2.2.2.2.2.2.2.2.2.2.1
theorem MI_ck (h : MI a u) : ((cN u).toInt ≤ 0 ∨ 0 < (kN u).toInt) := h.2.2.2.2.2.2.2.2.2.2.2.2.2.2.2.2.2.2.2.2.2.2.2.2.2.2.2.2.1
theorem MI_she (h : MI a u) : Sh (kN u) (fA u 28 24) := h.2.2.2.2.2.2.2.2.2.2.2.2.2.2.2.2.2.2.2.2.2.2.2.2.2.2.2.2.2.1
theorem MI_rows (h : MI a u) : ShR u ((fI u 0 47).toInt + (fI u 0 48).toInt) := h.2.2.2.2.2.2.2.2.2.2.2.2.2.2.2.2.2.2.2.2.2.2.2.2.2.2.2.2.2.2.1
theorem MI_box (h : MI a u) : ShB u := h.2.2.2.2.2.2.2.2.2.2.2.2.2.2.2.2.2.2.2.2.2.2.2.2.2.2.2.2.2.2.2
theorem MIs_2 {v : Int32} (h : MI a u) (hv : 0 ≤ v.toInt ∧ v.toInt ≤ 1600) : MI a (sI u 0 2 v) := by
  obtain ⟨h0, h1, h2, h3, h4, h5, h6, h7, h8, h9, h10, h11, h12, h13, h14, h15, h16, h17, h18, h19, h20, h21, h22, h23, h24, h25, h26, h27, h28, h29, h30, h31⟩ := h
  exact ⟨hv, h1, h2, h3, h4, h5, h6, h7, h8, h9, h10, h11, h12, h13, h14, h15, h16, h17, h18, h19, h20, h21, h22, h23, h24, h25, h26, h27, h28, h29, h30, h31⟩
theorem MIs_3 {v : Int32} (h : MI a u) (hv : 0 ≤ v.toInt ∧ v.toInt ≤ 1600) : MI a (sI u 0 3 v) := by
  obtain ⟨h0, h1, h2, h3, h4, h5, h6, h7, h8, h9, h10, h11, h12, h13, h14, h15, h16, h17, h18, h19, h20, h21, h22, h23, h24, h25, h26, h27, h28, h29, h30, h31⟩ := h
  exact ⟨h0, hv, h2, h3, h4, h5, h6, h7, h8, h9, h10, h11, h12, h13, h14, h15, h16, h17, h18, h19, h20, h21, h22, h23, h24, h25, h26, h27, h28, h29, h30, h31⟩
theorem MIs_4 {v : Int32} (h : MI a u) (hv : 0 ≤ v.toInt ∧ v.toInt ≤ 5) : MI a (sI u 0 4 v) := by
  obtain ⟨h0, h1, h2, h3, h4, h5, h6, h7, h8, h9, h10, h11, h12, h13, h14, h15, h16, h17, h18, h19, h20, h21, h22, h23, h24, h25, h26, h27, h28, h29, h30, h31⟩ := h
  exact ⟨h0, h1, hv, h3, h4, h5, h6, h7, h8, h9, h10, h11, h12, h13, h14, h15, h16, h17, h18, h19, h20, h21, h22, h23, h24, h25, h26, h27, h28, h29, h30, h31⟩
theorem MIs_5 {v : Int32} (h : MI a u) : MI a (sI u 0 5 v) := h
theorem MIs_6 {v : Int32} (h : MI a u) (hv : 0 ≤ v.toInt ∧ v.toInt ≤ 1600) : MI a (sI u 0 6 v) := by
  obtain ⟨h0, h1, h2, h3, h4, h5, h6, h7, h8, h9, h10, h11, h12, h13, h14, h15, h16, h17, h18, h19, h20, h21, h22, h23, h24, h25, h26, h27, h28, h29, h30, h31⟩ := h
  exact ⟨h0, h1, h2, hv, h4, h5, h6, h7, h8, h9, h10, h11, h12, h13, h14, h15, h16, h17, h18, h19, h20, h21, h22, h23, h24, h25, h26, h27, h28, h29, h30, h31⟩
theorem MIs_7 {v : Int32} (h : MI a u) (hv : 0 ≤ v.toInt ∧ v.toInt ≤ 1601) : MI a (sI u 0 7 v) := by
  obtain ⟨h0, h1, h2, h3, h4, h5, h6, h7, h8, h9, h10, h11, h12, h13, h14, h15, h16, h17, h18, h19, h20, h21, h22, h23, h24, h25, h26, h27, h28, h29, h30, h31⟩ := h
  exact ⟨h0, h1, h2, h3, hv, h5, h6, h7, h8, h9, h10, h11, h12, h13, h14, h15, h16, h17, h18, h19, h20, h21, h22, h23, h24, h25, h26, h27, h28, h29, h30, h31⟩
theorem MIs_8 {v : Int32} (h : MI a u) (hv : 0 ≤ v.toInt ∧ v.toInt ≤ 5) : MI a (sI u 0 8 v) := by
  obtain ⟨h0, h1, h2, h3, h4, h5, h6, h7, h8, h9, h10, h11, h12, h13, h14, h15, h16, h17, h18, h19, h20, h21, h22, h23, h24, h25, h26, h27, h28, h29, h30, h31⟩ := h
  exact ⟨h0, h1, h2, h3, h4, hv, h6, h7, h8, h9, h10, h11, h12, h13, h14, h15, h16, h17, h18, h19, h20, h21, h22, h23, h24, h25, h26, h27, h28, h29, h30, h31⟩
theorem MIs_9 {v : Int32} (h : MI a u) : MI a (sI u 0 9 v) := h
theorem MIs_10 {v : Int64} (h : MI a u) : MI a (sL u 0 10 v) := h
theorem MIs_37 {v : Int32} (h : MI a u) (hv : 0 ≤ v.toInt ∧ v.toInt ≤ 1) : MI a (sI u 0 37 v) := by
  obtain ⟨h0, h1, h2, h3, h4, h5, h6, h7, h8, h9, h10, h11, h12, h13, h14, h15, h16, h17, h18, h19, h20, h21, h22, h23, h24, h25, h26, h27, h28, h29, h30, h31⟩ := h
  exact ⟨h0, h1, h2, h3, h4, h5, h6, hv, h8, h9, h10, h11, h12, h13, h14, h15, h16, h17, h18, h19, h20, h21, h22, h23, h24, h25, h26, h27, h28, h29, h30, h31⟩
theorem MIs_38 {v : Int32} (h : MI a u) : MI a (sI u 0 38 v) := h
theorem MIs_39 {v : Int32} (h : MI a u) : MI a (sI u 0 39 v) := h
theorem MIs_40 {v : Int32} (h : MI a u) : MI a (sI u 0 40 v) := h
theorem MIs_41 {v : Int32} (h : MI a u) : MI a (sI u 0 41 v) := h
theorem MIs_42 {v : Int32} (h : MI a u) (hv : 0 ≤ v.toInt ∧ v.toInt ≤ 5) : MI a (sI u 0 42 v) := by
  obtain ⟨h0, h1, h2, h3, h4, h5, h6, h7, h8, h9, h10, h11, h12, h13, h14, h15, h16, h17, h18, h19, h20, h21, h22, h23, h24, h25, h26, h27, h28, h29, h30, h31⟩ := h
  exact ⟨h0, h1, h2, h3, h4, h5, h6, h7, hv, h9, h10, h11, h12, h13, h14, h15, h16, h17, h18, h19, h20, h21, h22, h23, h24, h25, h26, h27, h28, h29, h30, h31⟩
theorem MIs_43 {v : Int32} (h : MI a u) : MI a (sI u 0 43 v) := h
theorem MIs_45 {v : Int32} (h : MI a u) : MI a (sI u 0 45 v) := h
theorem MIs_50 {v : Int32} (h : MI a u) (hv : 0 ≤ v.toInt ∧ v.toInt ≤ 8) : MI a (sI u 0 50 v) := by
  obtain ⟨h0, h1, h2, h3, h4, h5, h6, h7, h8, h9, h10, h11, h12, h13, h14, h15, h16, h17, h18, h19, h20, h21, h22, h23, h24, h25, h26, h27, h28, h29, h30, h31⟩ := h
  exact ⟨h0, h1, h2, h3, h4, h5, h6, h7, h8, h9, h10, hv, h12, h13, h14, h15, h16, h17, h18, h19, h20, h21, h22, h23, h24, h25, h26, h27, h28, h29, h30, h31⟩
theorem MIs_61 {v : Int32} (h : MI a u) (hv : 0 ≤ v.toInt ∧ v.toInt ≤ 30) : MI a (sI u 0 61 v) := by
  obtain ⟨h0, h1, h2, h3, h4, h5, h6, h7, h8, h9, h10, h11, h12, h13, h14, h15, h16, h17, h18, h19, h20, h21, h22, h23, h24, h25, h26, h27, h28, h29, h30, h31⟩ := h
  exact ⟨h0, h1, h2, h3, h4, h5, h6, h7, h8, h9, h10, h11, hv, h13, h14, h15, h16, h17, h18, h19, h20, h21, h22, h23, h24, h25, h26, h27, h28, h29, h30, h31⟩
theorem MIs_62 {v : Int32} (h : MI a u) (hv : 0 ≤ v.toInt ∧ v.toInt ≤ 100000) : MI a (sI u 0 62 v) := by
  obtain ⟨h0, h1, h2, h3, h4, h5, h6, h7, h8, h9, h10, h11, h12, h13, h14, h15, h16, h17, h18, h19, h20, h21, h22, h23, h24, h25, h26, h27, h28, h29, h30, h31⟩ := h
  exact ⟨h0, h1, h2, h3, h4, h5, h6, h7, h8, h9, h10, h11, h12, hv, h14, h15, h16, h17, h18, h19, h20, h21, h22, h23, h24, h25, h26, h27, h28, h29, h30, h31⟩
theorem MIsA_1 {D : va_G} {A : Nat → Prop} {cy : Nat → ClassId} {hp H : Heap} {locs : List Loc} {f : Nat → Int32} (_ : Wo D A (mW cy a (sA u 1 f)) hp H locs) (h : MI a u) : MI a (sA u 1 f) := h
theorem MIsA_2 {D : va_G} {A : Nat → Prop} {cy : Nat → ClassId} {hp H : Heap} {locs : List Loc} {f : Nat → Int32} (_ : Wo D A (mW cy a (sA u 2 f)) hp H locs) (h : MI a u) : MI a (sA u 2 f) := h
theorem MIsA_4 {D : va_G} {A : Nat → Prop} {cy : Nat → ClassId} {hp H : Heap} {locs : List Loc} {i : Nat} {v : Int32} (_ : Wo D A (mW cy a (sA u 4 (upd (fA u 4) i v))) hp H locs) (h : MI a u) (hv : 0 ≤ v.toInt ∧ v.toInt ≤ 14) : MI a (sA u 4 (upd (fA u 4) i v)) := by
  obtain ⟨h0, h1, h2, h3, h4, h5, h6, h7, h8, h9, h10, h11, h12, h13, h14, h15, h16, h17, h18, h19, h20, h21, h22, h23, h24, h25, h26, h27, h28, h29, h30, h31⟩ := h
  exact ⟨h0, h1, h2, h3, h4, h5, h6, h7, h8, h9, h10, h11, h12, h13, h14, (rA_up h15 hv), h16, h17, h18, h19, h20, h21, h22, h23, h24, h25, h26, h27, h28, h29, h30, h31⟩
theorem MIsA_5 {D : va_G} {A : Nat → Prop} {cy : Nat → ClassId} {hp H : Heap} {locs : List Loc} {i : Nat} {v : Int32} (_ : Wo D A (mW cy a (sA u 5 (upd (fA u 5) i v))) hp H locs) (h : MI a u) (hv : 0 ≤ v.toInt ∧ v.toInt ≤ 8) : MI a (sA u 5 (upd (fA u 5) i v)) := by
  obtain ⟨h0, h1, h2, h3, h4, h5, h6, h7, h8, h9, h10, h11, h12, h13, h14, h15, h16, h17, h18, h19, h20, h21, h22, h23, h24, h25, h26, h27, h28, h29, h30, h31⟩ := h
  exact ⟨h0, h1, h2, h3, h4, h5, h6, h7, h8, h9, h10, h11, h12, h13, h14, h15, (rA_up h16 hv), h17, h18, h19, h20, h21, h22, h23, h24, h25, h26, h27, h28, h29, h30, h31⟩
theorem MIsA_7 {D : va_G} {A : Nat → Prop} {cy : Nat → ClassId} {hp H : Heap} {locs : List Loc} {i : Nat} {v : Int32} (_ : Wo D A (mW cy a (sA u 7 (upd (fA u 7) i v))) hp H locs) (h : MI a u) (hv : 0 ≤ v.toInt ∧ v.toInt ≤ 60) : MI a (sA u 7 (upd (fA u 7) i v)) := by
  obtain ⟨h0, h1, h2, h3, h4, h5, h6, h7, h8, h9, h10, h11, h12, h13, h14, h15, h16, h17, h18, h19, h20, h21, h22, h23, h24, h25, h26, h27, h28, h29, h30, h31⟩ := h
  exact ⟨h0, h1, h2, h3, h4, h5, h6, h7, h8, h9, h10, h11, h12, h13, h14, h15, h16, h17, (rA_up h18 hv), h19, h20, h21, h22, h23, h24, h25, h26, h27, h28, h29, h30, h31⟩
theorem MIsA_8 {D : va_G} {A : Nat → Prop} {cy : Nat → ClassId} {hp H : Heap} {locs : List Loc} {i : Nat} {v : Int32} (_ : Wo D A (mW cy a (sA u 8 (upd (fA u 8) i v))) hp H locs) (h : MI a u) (hv : 0 ≤ v.toInt ∧ v.toInt ≤ 7) : MI a (sA u 8 (upd (fA u 8) i v)) := by
  obtain ⟨h0, h1, h2, h3, h4, h5, h6, h7, h8, h9, h10, h11, h12, h13, h14, h15, h16, h17, h18, h19, h20, h21, h22, h23, h24, h25, h26, h27, h28, h29, h30, h31⟩ := h
  exact ⟨h0, h1, h2, h3, h4, h5, h6, h7, h8, h9, h10, h11, h12, h13, h14, h15, h16, h17, h18, (rA_up h19 hv), h20, h21, h22, h23, h24, h25, h26, h27, h28, h29, h30, h31⟩
theorem MIsA_9 {D : va_G} {A : Nat → Prop} {cy : Nat → ClassId} {hp H : Heap} {locs : List Loc} {f : Nat → Int32} (_ : Wo D A (mW cy a (sA u 9 f)) hp H locs) (h : MI a u) : MI a (sA u 9 f) := h
theorem MIsA_10 {D : va_G} {A : Nat → Prop} {cy : Nat → ClassId} {hp H : Heap} {locs : List Loc} {f : Nat → Int32} (_ : Wo D A (mW cy a (sA u 10 f)) hp H locs) (h : MI a u) : MI a (sA u 10 f) := h
theorem MIsA_12 {D : va_G} {A : Nat → Prop} {cy : Nat → ClassId} {hp H : Heap} {locs : List Loc} {f : Nat → Int32} (_ : Wo D A (mW cy a (sA u 12 f)) hp H locs) (h : MI a u) : MI a (sA u 12 f) := h
theorem MIsA_13 {D : va_G} {A : Nat → Prop} {cy : Nat → ClassId} {hp H : Heap} {locs : List Loc} {i : Nat} {v : Int32} (_ : Wo D A (mW cy a (sA u 13 (upd (fA u 13) i v))) hp H locs) (h : MI a u) (hv : 0 ≤ v.toInt ∧ v.toInt ≤ 7) : MI a (sA u 13 (upd (fA u 13) i v)) := by
  obtain ⟨h0, h1, h2, h3, h4, h5, h6, h7, h8, h9, h10, h11, h12, h13, h14, h15, h16, h17, h18, h19, h20, h21, h22, h23, h24, h25, h26, h27, h28, h29, h30, h31⟩ := h
  exact ⟨h0, h1, h2, h3, h4, h5, h6, h7, h8, h9, h10, h11, h12, h13, h14, h15, h16, h17, h18, h19, (rA_up h20 hv), h21, h22, h23, h24, h25, h26, h27, h28, h29, h30, h31⟩
theorem MIsA_14 {D : va_G} {A : Nat → Prop} {cy : Nat → ClassId} {hp H : Heap} {locs : List Loc} {i : Nat} {v : Int32} (_ : Wo D A (mW cy a (sA u 14 (upd (fA u 14) i v))) hp H locs) (h : MI a u) (hv : 0 ≤ v.toInt ∧ v.toInt ≤ 7) : MI a (sA u 14 (upd (fA u 14) i v)) := by
  obtain ⟨h0, h1, h2, h3, h4, h5, h6, h7, h8, h9, h10, h11, h12, h13, h14, h15, h16, h17, h18, h19, h20, h21, h22, h23, h24, h25, h26, h27, h28, h29, h30, h31⟩ := h
  exact ⟨h0, h1, h2, h3, h4, h5, h6, h7, h8, h9, h10, h11, h12, h13, h14, h15, h16, h17, h18, h19, h20, (rA_up h21 hv), h22, h23, h24, h25, h26, h27, h28, h29, h30, h31⟩
theorem MIsA_15 {D : va_G} {A : Nat → Prop} {cy : Nat → ClassId} {hp H : Heap} {locs : List Loc} {f : Nat → Int32} (_ : Wo D A (mW cy a (sA u 15 f)) hp H locs) (h : MI a u) : MI a (sA u 15 f) := h
theorem MIsA_16 {D : va_G} {A : Nat → Prop} {cy : Nat → ClassId} {hp H : Heap} {locs : List Loc} {i : Nat} {v : Int32} (_ : Wo D A (mW cy a (sA u 16 (upd (fA u 16) i v))) hp H locs) (h : MI a u) (hv : 0 ≤ v.toInt ∧ v.toInt ≤ 7) : MI a (sA u 16 (upd (fA u 16) i v)) := by
  obtain ⟨h0, h1, h2, h3, h4, h5, h6, h7, h8, h9, h10, h11, h12, h13, h14, h15, h16, h17, h18, h19, h20, h21, h22, h23, h24, h25, h26, h27, h28, h29, h30, h31⟩ := h
  exact ⟨h0, h1, h2, h3, h4, h5, h6, h7, h8, h9, h10, h11, h12, h13, h14, h15, h16, h17, h18, h19, h20, h21, (rA_up h22 hv), h23, h24, h25, h26, h27, h28, h29, h30, h31⟩
theorem MIsA_17 {D : va_G} {A : Nat → Prop} {cy : Nat → ClassId} {hp H : Heap} {locs : List Loc} {i : Nat} {v : Int32} (_ : Wo D A (mW cy a (sA u 17 (upd (fA u 17) i v))) hp H locs) (h : MI a u) (hv : 0 ≤ v.toInt ∧ v.toInt ≤ 255) : MI a (sA u 17 (upd (fA u 17) i v)) := by
  obtain ⟨h0, h1, h2, h3, h4, h5, h6, h7, h8, h9, h10, h11, h12, h13, h14, h15, h16, h17, h18, h19, h20, h21, h22, h23, h24, h25, h26, h27, h28, h29, h30, h31⟩ := h
  exact ⟨h0, h1, h2, h3, h4, h5, h6, h7, h8, h9, h10, h11, h12, h13, h14, h15, h16, h17, h18, h19, h20, h21, h22, (rA_up h23 hv), h24, h25, h26, h27, h28, h29, h30, h31⟩
theorem MIsJ_20 {D : va_G} {A : Nat → Prop} {cy : Nat → ClassId} {hp H : Heap} {locs : List Loc} {f : Nat → Int64} (_ : Wo D A (mW cy a (sJ u 20 f)) hp H locs) (h : MI a u) : MI a (sJ u 20 f) := h
theorem MIsJ_21 {D : va_G} {A : Nat → Prop} {cy : Nat → ClassId} {hp H : Heap} {locs : List Loc} {f : Nat → Int64} (_ : Wo D A (mW cy a (sJ u 21 f)) hp H locs) (h : MI a u) : MI a (sJ u 21 f) := h
theorem MIsJ_22 {D : va_G} {A : Nat → Prop} {cy : Nat → ClassId} {hp H : Heap} {locs : List Loc} {f : Nat → Int64} (_ : Wo D A (mW cy a (sJ u 22 f)) hp H locs) (h : MI a u) : MI a (sJ u 22 f) := h
theorem MIsA_24 {D : va_G} {A : Nat → Prop} {cy : Nat → ClassId} {hp H : Heap} {locs : List Loc} {f : Nat → Int32} (_ : Wo D A (mW cy a (sA u 24 f)) hp H locs) (h : MI a u) : MI a (sA u 24 f) := h
theorem MIsA_25 {D : va_G} {A : Nat → Prop} {cy : Nat → ClassId} {hp H : Heap} {locs : List Loc} {f : Nat → Int32} (_ : Wo D A (mW cy a (sA u 25 f)) hp H locs) (h : MI a u) : MI a (sA u 25 f) := h
theorem MIsA_26 {D : va_G} {A : Nat → Prop} {cy : Nat → ClassId} {hp H : Heap} {locs : List Loc} {f : Nat → Int32} (_ : Wo D A (mW cy a (sA u 26 f)) hp H locs) (h : MI a u) : MI a (sA u 26 f) := h
theorem MIsA_27 {D : va_G} {A : Nat → Prop} {cy : Nat → ClassId} {hp H : Heap} {locs : List Loc} {f : Nat → Int32} (_ : Wo D A (mW cy a (sA u 27 f)) hp H locs) (h : MI a u) : MI a (sA u 27 f) := h
theorem MIsA_30 {D : va_G} {A : Nat → Prop} {cy : Nat → ClassId} {hp H : Heap} {locs : List Loc} {f : Nat → Int32} (_ : Wo D A (mW cy a (sA u 30 f)) hp H locs) (h : MI a u) : MI a (sA u 30 f) := h
theorem MIsA_31 {D : va_G} {A : Nat → Prop} {cy : Nat → ClassId} {hp H : Heap} {locs : List Loc} {f : Nat → Int32} (_ : Wo D A (mW cy a (sA u 31 f)) hp H locs) (h : MI a u) : MI a (sA u 31 f) := h
theorem MIsA_32 {D : va_G} {A : Nat → Prop} {cy : Nat → ClassId} {hp H : Heap} {locs : List Loc} {i : Nat} {v : Int32} (_ : Wo D A (mW cy a (sA u 32 (upd (fA u 32) i v))) hp H locs) (h : MI a u) (hv : 0 ≤ v.toInt ∧ v.toInt ≤ 1000) : MI a (sA u 32 (upd (fA u 32) i v)) := by
  obtain ⟨h0, h1, h2, h3, h4, h5, h6, h7, h8, h9, h10, h11, h12, h13, h14, h15, h16, h17, h18, h19, h20, h21, h22, h23, h24, h25, h26, h27, h28, h29, h30, h31⟩ := h
  exact ⟨h0, h1, h2, h3, h4, h5, h6, h7, h8, h9, h10, h11, h12, h13, h14, h15, h16, h17, h18, h19, h20, h21, h22, h23, (rA_up h24 hv), h25, h26, h27, h28, h29, h30, h31⟩
theorem MIsA_33 {D : va_G} {A : Nat → Prop} {cy : Nat → ClassId} {hp H : Heap} {locs : List Loc} {f : Nat → Int32} (_ : Wo D A (mW cy a (sA u 33 f)) hp H locs) (h : MI a u) : MI a (sA u 33 f) := h
theorem MIsA_34 {D : va_G} {A : Nat → Prop} {cy : Nat → ClassId} {hp H : Heap} {locs : List Loc} {i : Nat} {v : Int32} (_ : Wo D A (mW cy a (sA u 34 (upd (fA u 34) i v))) hp H locs) (h : MI a u) (hv : 0 ≤ v.toInt ∧ v.toInt ≤ 5) : MI a (sA u 34 (upd (fA u 34) i v)) := by
  obtain ⟨h0, h1, h2, h3, h4, h5, h6, h7, h8, h9, h10, h11, h12, h13, h14, h15, h16, h17, h18, h19, h20, h21, h22, h23, h24, h25, h26, h27, h28, h29, h30, h31⟩ := h
  exact ⟨h0, h1, h2, h3, h4, h5, h6, h7, h8, h9, h10, h11, h12, h13, h14, h15, h16, h17, h18, h19, h20, h21, h22, h23, h24, (rA_up h25 hv), h26, h27, h28, h29, h30, h31⟩
theorem MIsA_35 {D : va_G} {A : Nat → Prop} {cy : Nat → ClassId} {hp H : Heap} {locs : List Loc} {f : Nat → Int32} (_ : Wo D A (mW cy a (sA u 35 f)) hp H locs) (h : MI a u) : MI a (sA u 35 f) := h
theorem MIsA_36 {D : va_G} {A : Nat → Prop} {cy : Nat → ClassId} {hp H : Heap} {locs : List Loc} {f : Nat → Int32} (_ : Wo D A (mW cy a (sA u 36 f)) hp H locs) (h : MI a u) : MI a (sA u 36 f) := h
theorem MIsA_37 {D : va_G} {A : Nat → Prop} {cy : Nat → ClassId} {hp H : Heap} {locs : List Loc} {f : Nat → Int32} (_ : Wo D A (mW cy a (sA u 37 f)) hp H locs) (h : MI a u) : MI a (sA u 37 f) := h
theorem MIsA_38 {D : va_G} {A : Nat → Prop} {cy : Nat → ClassId} {hp H : Heap} {locs : List Loc} {f : Nat → Int32} (_ : Wo D A (mW cy a (sA u 38 f)) hp H locs) (h : MI a u) : MI a (sA u 38 f) := h
theorem MIsA_39 {D : va_G} {A : Nat → Prop} {cy : Nat → ClassId} {hp H : Heap} {locs : List Loc} {f : Nat → Int32} (_ : Wo D A (mW cy a (sA u 39 f)) hp H locs) (h : MI a u) : MI a (sA u 39 f) := h
theorem MIsA_40 {D : va_G} {A : Nat → Prop} {cy : Nat → ClassId} {hp H : Heap} {locs : List Loc} {f : Nat → Int32} (_ : Wo D A (mW cy a (sA u 40 f)) hp H locs) (h : MI a u) : MI a (sA u 40 f) := h
end
theorem MI.b {a : Nat → Nat} {u : St} (h : MI a u) : MB a u := by
  obtain ⟨h0, h1, h2, h3, h4, h5, h6, h7, h8, h9, h10, h11, h12, h13, h14, h15, h16, h17, h18, h19, h20, h21, h22, h23, h24, h25, h26, h27, h28, s1, s2, s3⟩ := h
  exact ⟨h0, h1, h2, h3, h4, h5, h6, h7, h8, h9, h10, h11, h12, h13, h14, h15, h16, h17, h18, h19, h20, h21, h22, h23, h24, h25, h26, h27, h28⟩
theorem MB.i {a : Nat → Nat} {u : St} (h : MB a u) (s1 : Sh (kN u) (fA u 28 24)) (s2 : ShR u ((fI u 0 47).toInt + (fI u 0 48).toInt)) (s3 : ShB u) : MI a u := by
  obtain ⟨h0, h1, h2, h3, h4, h5, h6, h7, h8, h9, h10, h11, h12, h13, h14, h15, h16, h17, h18, h19, h20, h21, h22, h23, h24, h25, h26, h27, h28⟩ := h
  exact ⟨h0, h1, h2, h3, h4, h5, h6, h7, h8, h9, h10, h11, h12, h13, h14, h15, h16, h17, h18, h19, h20, h21, h22, h23, h24, h25, h26, h27, h28, s1, s2, s3⟩
theorem dpt_t {f : Nat → Int32} {F j : Nat} {c : Int32} (e : f (F + j) = c) (h : c.toInt = 126) : dpt f F (j + 1) = dpt f F j := by
  have h1 : c = 126 := i32_eq.mpr h
  show dpt f F j + _ = _
  rw [e, if_pos h1]
  omega
theorem dpt_l {f : Nat → Int32} {F j : Nat} {c : Int32} (e : f (F + j) = c) (h : 97 ≤ c.toInt ∧ c.toInt ≤ 122) : dpt f F (j + 1) = dpt f F j + 1 := by
  have h1 : ¬ c = 126 := by
    intro q
    rw [q] at h
    exact absurd h (by decide)
  show dpt f F j + _ = _
  rw [e, if_neg h1, if_pos (show isLt c from h)]
theorem dpt_o {f : Nat → Int32} {F j : Nat} {c : Int32} (e : f (F + j) = c) (h : ¬ c.toInt = 126 ∧ ¬ (97 ≤ c.toInt ∧ c.toInt ≤ 122)) : dpt f F (j + 1) = dpt f F j - 1 := by
  have h1 : ¬ c = 126 := by
    intro q
    apply h.1
    rw [q]
    rfl
  show dpt f F j + _ = _
  rw [e, if_neg h1, if_neg (show ¬ isLt c from h.2)]
  omega
def isD (f : Nat → Int32) (F j : Nat) (n : Int) : Prop := n = dpt f F j
theorem isD_t {f : Nat → Int32} {F j : Nat} {c : Int32} {n m : Int} (e : f (F + j) = c) (h : c.toInt = 126) (hd : isD f F j n) (hm : m = n) : isD f F (j + 1) m := by
  have h1 := dpt_t e h
  show m = _
  rw [h1, hm]
  exact hd
theorem isD_l {f : Nat → Int32} {F j : Nat} {c : Int32} {n m : Int} (e : f (F + j) = c) (h : 97 ≤ c.toInt ∧ c.toInt ≤ 122) (hd : isD f F j n) (hm : m = n + 1) : isD f F (j + 1) m := by
  have h1 := dpt_l e h
  show m = _
  rw [h1, hm, show n = dpt f F j from hd]
theorem isD_o {f : Nat → Int32} {F j : Nat} {c : Int32} {n m : Int} (e : f (F + j) = c) (h : ¬ c.toInt = 126 ∧ ¬ (97 ≤ c.toInt ∧ c.toInt ≤ 122)) (hd : isD f F j n) (hm : m = n - 1) : isD f F (j + 1) m := by
  have h1 := dpt_o e h
  show m = _
  rw [h1, hm, show n = dpt f F j from hd]
theorem code_at {f : Nat → Int32} {r k : Int32} {j : Nat} (h : k.toInt = 560 * r.toInt + (j : Int)) (h0 : 0 ≤ r.toInt) : f (560 * r.toNatClampNeg + j) = f k.toNatClampNeg := by
  have c := i_cnz h0
  have d := i_cnz (x := k) (by omega)
  rw [show 560 * r.toNatClampNeg + j = k.toNatClampNeg by omega]
theorem cstep {f : Nat → Int32} {F j L : Nat} {c n : Int32} (hw : WFc f F L) (hj : j < L) (e : f (F + j) = c) (hn : isD f F j n.toInt) : (c.toInt = 126 ∧ 1 ≤ n.toInt) ∨ (97 ≤ c.toInt ∧ c.toInt ≤ 122 ∧ n.toInt ≤ 59) ∨ (¬ c.toInt = 126 ∧ ¬ (97 ≤ c.toInt ∧ c.toInt ≤ 122) ∧ 2 ≤ n.toInt) := by
  have h := hw j hj
  rw [e, ← (show n.toInt = dpt f F j from hn)] at h
  obtain ⟨h1, h2, h3⟩ := h
  by_cases q1 : c = 126
  · refine Or.inl ⟨by rw [q1]; rfl, h1 q1⟩
  · have q2 : ¬ c.toInt = 126 := fun z => q1 (i32_eq.mpr z)
    by_cases q3 : isLt c
    · exact Or.inr (Or.inl ⟨q3.1, q3.2, h2 q3⟩)
    · exact Or.inr (Or.inr ⟨q2, q3, h3 q1 q3⟩)
theorem bitF_1 {s k z1 z2 : Int32} (e1 : z1 = s >>> (k &&& 31)) (e2 : z2 = z1 &&& 1) (h : z2.toInt = 1) : bitF s k = 1 := by
  have h1 : z2 = 1 := i32_eq.mpr h
  unfold bitF
  rw [if_pos (by rw [← e1, ← e2, h1])]
theorem bitF_0 {s k z1 z2 : Int32} (e1 : z1 = s >>> (k &&& 31)) (e2 : z2 = z1 &&& 1) (h : ¬ z2.toInt = 1) : bitF s k = 0 := by
  unfold bitF
  rw [if_neg]
  intro q
  apply h
  rw [e2, e1, q]
  rfl
theorem law_of {u : St} {b r : Int32} (h : LawOk u b) (e : r = bitF (fA u 11 b.toNatClampNeg) 0) (hr : ¬ r.toInt = 0) : WFR u b := by
  rcases h with h | h
  · rw [h] at e
    rw [e] at hr
    exact absurd rfl hr
  · exact h
theorem MI_sheK {a : Nat → Nat} {u : St} (h : MI a u) {K : Int32} (e : kN u = K) (hK : 0 < K.toInt) : 0 ≤ (fA u 28 24).toInt ∧ (fA u 28 24).toInt ≤ 7 := by
  have h1 := MI_she h
  rw [e] at h1
  obtain ⟨h2, h3, h4⟩ := h1
  omega
theorem MI_she2 {a : Nat → Nat} {u : St} (h : MI a u) : -1 ≤ (fA u 28 24).toInt ∧ (fA u 28 24).toInt ≤ 7 := ⟨(MI_she h).1, (MI_she h).2.1⟩
theorem Sh.ok {K x : Int32} (h1 : 0 ≤ x.toInt) (h2 : x.toInt ≤ 7) : Sh K x := ⟨by omega, h2, Or.inr h1⟩
theorem MIsA_28 {D : va_G} {A : Nat → Prop} {cy : Nat → ClassId} {hp H : Heap} {locs : List Loc} {a : Nat → Nat} {u : St} {i : Nat} {v : Int32} (hO : Wo D A (mW cy a (sA u 28 (upd (fA u 28) i v))) hp H locs) (h : MI a u) (hv : i ≠ 24 ∨ Sh (kN u) v) : MI a (sA u 28 (upd (fA u 28) i v)) := by
  refine MB.i (MBsA_28 hO h.b) ?_ (by have q := MI_rows h; exact q) (by have q := MI_box h; exact q)
  show Sh (kN u) (upd (fA u 28) i v 24)
  by_cases e : 24 = i
  · rw [← e, upd_at]
    rcases hv with hv | hv
    · exact absurd e.symm hv
    · exact hv
  · rw [upd_ne e]
    exact MI_she h
theorem MIsA_29 {D : va_G} {A : Nat → Prop} {cy : Nat → ClassId} {hp H : Heap} {locs : List Loc} {a : Nat → Nat} {u : St} {i : Nat} {v : Int32} (hO : Wo D A (mW cy a (sA u 29 (upd (fA u 29) i v))) hp H locs) (h : MI a u) (hv : ∀ j : Nat, (j : Int) < (fI u 0 47).toInt + (fI u 0 48).toInt → i = 29 * j + 24 → Sh (kN u) v) : MI a (sA u 29 (upd (fA u 29) i v)) := by
  refine MB.i (MBsA_29 hO h.b) (by have q := MI_she h; exact q) ?_ (by have q := MI_box h; exact q)
  intro j hj
  show Sh (kN u) (upd (fA u 29) i v (29 * j + 24))
  by_cases e : 29 * j + 24 = i
  · rw [e, upd_at]
    exact hv j hj e.symm
  · rw [upd_ne e]
    exact MI_rows h j hj
theorem MIsA_41 {D : va_G} {A : Nat → Prop} {cy : Nat → ClassId} {hp H : Heap} {locs : List Loc} {a : Nat → Nat} {u : St} {i : Nat} {v : Int32} (hO : Wo D A (mW cy a (sA u 41 (upd (fA u 41) i v))) hp H locs) (h : MI a u) (hv : ∀ b : Nat, b < 3 → i = 29 * b + 24 → Sh (kN u) v) : MI a (sA u 41 (upd (fA u 41) i v)) := by
  refine MB.i (MBsA_41 hO h.b) (by have q := MI_she h; exact q) (by have q := MI_rows h; exact q) ?_
  intro b hb hx
  show Sh (kN u) (upd (fA u 41) i v (29 * b + 24))
  by_cases e : 29 * b + 24 = i
  · rw [e, upd_at]
    exact hv b hb e.symm
  · rw [upd_ne e]
    exact MI_box h b hb hx
theorem MIsA_42 {D : va_G} {A : Nat → Prop} {cy : Nat → ClassId} {hp H : Heap} {locs : List Loc} {a : Nat → Nat} {u : St} {i : Nat} {v : Int32} (hO : Wo D A (mW cy a (sA u 42 (upd (fA u 42) i v))) hp H locs) (h : MI a u) (hv : ¬ v = 0 → i < 3 → Sh (kN u) (fA u 41 (29 * i + 24))) : MI a (sA u 42 (upd (fA u 42) i v)) := by
  refine MB.i (MBsA_42 hO h.b) (by have q := MI_she h; exact q) (by have q := MI_rows h; exact q) ?_
  intro b hb hx
  have hx2 : ¬ upd (fA u 42) i v b = 0 := hx
  show Sh (kN u) (fA u 41 (29 * b + 24))
  by_cases e : b = i
  · subst e
    rw [upd_at] at hx2
    exact hv hx2 hb
  · rw [upd_ne e] at hx2
    exact MI_box h b hb hx2
theorem LawOk.t {u : St} {b : Int32} {i : Nat} {v : Int32} (hi : ¬ b.toNatClampNeg = i) (h : LawOk u b) : LawOk (sA u 11 (upd (fA u 11) i v)) b := by
  rcases h with h | h
  · refine Or.inl ?_
    show bitF (upd (fA u 11) i v b.toNatClampNeg) 0 = 0
    rw [upd_ne hi]
    exact h
  · exact Or.inr h
theorem LawOk.r18 {u : St} {b : Int32} {i : Nat} {v : Int32} (hi : ¬ b.toNatClampNeg = i) (h : LawOk u b) : LawOk (sA u 18 (upd (fA u 18) i v)) b := by
  rcases h with h | ⟨L, h1, h2, h3, h4⟩
  · exact Or.inl h
  · refine Or.inr ⟨L, ?_, h2, h3, h4⟩
    show (upd (fA u 18) i v b.toNatClampNeg).toInt = _
    rw [upd_ne hi]
    exact h1
theorem LawOk.r19 {u : St} {b : Int32} {i : Nat} {v : Int32} (hi : ¬ b.toNatClampNeg = i) (h : LawOk u b) : LawOk (sA u 19 (upd (fA u 19) i v)) b := by
  rcases h with h | ⟨L, h1, h2, h3, h4⟩
  · exact Or.inl h
  · refine Or.inr ⟨L, h1, ?_, h3, h4⟩
    show (upd (fA u 19) i v b.toNatClampNeg).toInt = _
    rw [upd_ne hi]
    exact h2
theorem dpt_congr {f g : Nat → Int32} {F : Nat} : ∀ {j : Nat}, (∀ x, x < j → f (F + x) = g (F + x)) → dpt f F j = dpt g F j
  | 0, _ => rfl
  | j + 1, h => by
    unfold dpt
    rw [dpt_congr (j := j) (fun x hx => h x (by omega)), h j (by omega)]
theorem WFc_congr {f g : Nat → Int32} {F L : Nat} (e : ∀ x, x < L → f (F + x) = g (F + x)) (h : WFc f F L) : WFc g F L := by
  intro j hj
  have h1 := h j hj
  rw [e j hj, dpt_congr (fun x hx => e x (by omega))] at h1
  exact h1
theorem LawOk.c {u : St} {b : Int32} {i : Nat} {v : Int32} (hi : ¬ (560 * b.toNatClampNeg ≤ i ∧ i < 560 * b.toNatClampNeg + 560)) (h : LawOk u b) : LawOk (sA u 23 (upd (fA u 23) i v)) b := by
  rcases h with h | ⟨L, h1, h2, h3, h4⟩
  · exact Or.inl h
  · refine Or.inr ⟨L, h1, h2, h3, ?_⟩
    refine WFc_congr (f := fA u 23) (fun x hx => ?_) h4
    show _ = upd (fA u 23) i v _
    rw [upd_ne (by omega)]
theorem MBs_4748 {a : Nat → Nat} {u : St} {v w : Int32} (h : MB a u) (h1_ : 0 ≤ v.toInt) (h2_ : 0 ≤ w.toInt) (h3_ : v.toInt + w.toInt ≤ 40) : MB a (sI (sI u 0 47 v) 0 48 w) := by
  obtain ⟨h0, h1, h2, h3, h4, h5, h6, h7, h8, h9, h10, h11, h12, h13, h14, h15, h16, h17, h18, h19, h20, h21, h22, h23, h24, h25, h26, h27, h28⟩ := h
  exact ⟨h0, h1, h2, h3, h4, h5, h6, h7, h8, (show 0 ≤ v.toInt ∧ v.toInt ≤ 40 from ⟨h1_, by omega⟩), (show 0 ≤ w.toInt ∧ w.toInt ≤ 40 from ⟨h2_, by omega⟩), h11, h12, h13, h14, h15, h16, h17, h18, h19, h20, h21, h22, h23, h24, h25, (show v.toInt + w.toInt ≤ 40 from h3_), h27, h28⟩
theorem MBsA_3 {D : va_G} {A : Nat → Prop} {cy : Nat → ClassId} {hp H : Heap} {locs : List Loc} {a : Nat → Nat} {u : St} {i : Nat} {v : Int32} (_ : Wo D A (mW cy a (sA u 3 (upd (fA u 3) i v))) hp H locs) (h : MB a u) (hv : 0 ≤ v.toInt ∧ v.toInt ≤ 8) (hi : ¬ (fI u 0 36).toNatClampNeg = i) : MB a (sA u 3 (upd (fA u 3) i v)) := by
  have e : kN (sA u 3 (upd (fA u 3) i v)) = kN u := by
    show upd (fA u 3) i v (fI u 0 36).toNatClampNeg = _
    rw [upd_ne hi]
    rfl
  obtain ⟨h0, h1, h2, h3, h4, h5, h6, h7, h8, h9, h10, h11, h12, h13, h14, h15, h16, h17, h18, h19, h20, h21, h22, h23, h24, h25, h26, h27, h28⟩ := h
  exact ⟨h0, h1, h2, h3, h4, h5, h6, h7, h8, h9, h10, h11, h12, h13, (rA_up h14 hv), h15, h16, h17, h18, h19, h20, h21, h22, h23, h24, h25, h26, h27, (by rw [e]; exact h28)⟩
theorem MBsA_6 {D : va_G} {A : Nat → Prop} {cy : Nat → ClassId} {hp H : Heap} {locs : List Loc} {a : Nat → Nat} {u : St} {i : Nat} {v : Int32} (_ : Wo D A (mW cy a (sA u 6 (upd (fA u 6) i v))) hp H locs) (h : MB a u) (hv : 0 ≤ v.toInt ∧ v.toInt ≤ 6) (hi : ¬ (fI u 0 36).toNatClampNeg = i) : MB a (sA u 6 (upd (fA u 6) i v)) := by
  have e : cN (sA u 6 (upd (fA u 6) i v)) = cN u := by
    show upd (fA u 6) i v (fI u 0 36).toNatClampNeg = _
    rw [upd_ne hi]
    rfl
  obtain ⟨h0, h1, h2, h3, h4, h5, h6, h7, h8, h9, h10, h11, h12, h13, h14, h15, h16, h17, h18, h19, h20, h21, h22, h23, h24, h25, h26, h27, h28⟩ := h
  exact ⟨h0, h1, h2, h3, h4, h5, h6, h7, h8, h9, h10, h11, h12, h13, h14, h15, h16, (rA_up h17 hv), h18, h19, h20, h21, h22, h23, h24, h25, h26, h27, (by rw [e]; exact h28)⟩
theorem MBsA_11 {D : va_G} {A : Nat → Prop} {cy : Nat → ClassId} {hp H : Heap} {locs : List Loc} {a : Nat → Nat} {u : St} {i : Nat} {v : Int32} (_ : Wo D A (mW cy a (sA u 11 (upd (fA u 11) i v))) hp H locs) (h : MB a u) (hi : ¬ (fI u 0 36).toNatClampNeg = i) : MB a (sA u 11 (upd (fA u 11) i v)) := by
  obtain ⟨h0, h1, h2, h3, h4, h5, h6, h7, h8, h9, h10, h11, h12, h13, h14, h15, h16, h17, h18, h19, h20, h21, h22, h23, h24, h25, h26, h27, h28⟩ := h
  exact ⟨h0, h1, h2, h3, h4, h5, h6, h7, h8, h9, h10, h11, h12, h13, h14, h15, h16, h17, h18, h19, h20, h21, h22, h23, h24, h25, h26, (LawOk.t hi h27), h28⟩
theorem MBsA_18 {D : va_G} {A : Nat → Prop} {cy : Nat → ClassId} {hp H : Heap} {locs : List Loc} {a : Nat → Nat} {u : St} {i : Nat} {v : Int32} (_ : Wo D A (mW cy a (sA u 18 (upd (fA u 18) i v))) hp H locs) (h : MB a u) (hi : ¬ (fI u 0 36).toNatClampNeg = i) : MB a (sA u 18 (upd (fA u 18) i v)) := by
  obtain ⟨h0, h1, h2, h3, h4, h5, h6, h7, h8, h9, h10, h11, h12, h13, h14, h15, h16, h17, h18, h19, h20, h21, h22, h23, h24, h25, h26, h27, h28⟩ := h
  exact ⟨h0, h1, h2, h3, h4, h5, h6, h7, h8, h9, h10, h11, h12, h13, h14, h15, h16, h17, h18, h19, h20, h21, h22, h23, h24, h25, h26, (LawOk.r18 hi h27), h28⟩
theorem MBsA_19 {D : va_G} {A : Nat → Prop} {cy : Nat → ClassId} {hp H : Heap} {locs : List Loc} {a : Nat → Nat} {u : St} {i : Nat} {v : Int32} (_ : Wo D A (mW cy a (sA u 19 (upd (fA u 19) i v))) hp H locs) (h : MB a u) (hi : ¬ (fI u 0 36).toNatClampNeg = i) : MB a (sA u 19 (upd (fA u 19) i v)) := by
  obtain ⟨h0, h1, h2, h3, h4, h5, h6, h7, h8, h9, h10, h11, h12, h13, h14, h15, h16, h17, h18, h19, h20, h21, h22, h23, h24, h25, h26, h27, h28⟩ := h
  exact ⟨h0, h1, h2, h3, h4, h5, h6, h7, h8, h9, h10, h11, h12, h13, h14, h15, h16, h17, h18, h19, h20, h21, h22, h23, h24, h25, h26, (LawOk.r19 hi h27), h28⟩
theorem MBsA_23 {D : va_G} {A : Nat → Prop} {cy : Nat → ClassId} {hp H : Heap} {locs : List Loc} {a : Nat → Nat} {u : St} {i : Nat} {v : Int32} (_ : Wo D A (mW cy a (sA u 23 (upd (fA u 23) i v))) hp H locs) (h : MB a u) (hi : ¬ (560 * (fI u 0 36).toNatClampNeg ≤ i ∧ i < 560 * (fI u 0 36).toNatClampNeg + 560)) : MB a (sA u 23 (upd (fA u 23) i v)) := by
  obtain ⟨h0, h1, h2, h3, h4, h5, h6, h7, h8, h9, h10, h11, h12, h13, h14, h15, h16, h17, h18, h19, h20, h21, h22, h23, h24, h25, h26, h27, h28⟩ := h
  exact ⟨h0, h1, h2, h3, h4, h5, h6, h7, h8, h9, h10, h11, h12, h13, h14, h15, h16, h17, h18, h19, h20, h21, h22, h23, h24, h25, h26, (LawOk.c hi h27), h28⟩
theorem MIs_4748 {a : Nat → Nat} {u : St} {v w : Int32} (h : MI a u) (h1_ : 0 ≤ v.toInt) (h2_ : 0 ≤ w.toInt) (h3_ : v.toInt + w.toInt ≤ 40) (h4_ : v.toInt + w.toInt ≤ (fI u 0 47).toInt + (fI u 0 48).toInt) : MI a (sI (sI u 0 47 v) 0 48 w) := by
  obtain ⟨h0, h1, h2, h3, h4, h5, h6, h7, h8, h9, h10, h11, h12, h13, h14, h15, h16, h17, h18, h19, h20, h21, h22, h23, h24, h25, h26, h27, h28, h29, h30, h31⟩ := h
  exact ⟨h0, h1, h2, h3, h4, h5, h6, h7, h8, (show 0 ≤ v.toInt ∧ v.toInt ≤ 40 from ⟨h1_, by omega⟩), (show 0 ≤ w.toInt ∧ w.toInt ≤ 40 from ⟨h2_, by omega⟩), h11, h12, h13, h14, h15, h16, h17, h18, h19, h20, h21, h22, h23, h24, h25, (show v.toInt + w.toInt ≤ 40 from h3_), h27, h28, h29, (fun j hj => h30 j (by have q : (j : Int) < v.toInt + w.toInt := hj; omega)), h31⟩
theorem MIsA_3 {D : va_G} {A : Nat → Prop} {cy : Nat → ClassId} {hp H : Heap} {locs : List Loc} {a : Nat → Nat} {u : St} {i : Nat} {v : Int32} (_ : Wo D A (mW cy a (sA u 3 (upd (fA u 3) i v))) hp H locs) (h : MI a u) (hv : 0 ≤ v.toInt ∧ v.toInt ≤ 8) (hi : ¬ (fI u 0 36).toNatClampNeg = i) : MI a (sA u 3 (upd (fA u 3) i v)) := by
  have e : kN (sA u 3 (upd (fA u 3) i v)) = kN u := by
    show upd (fA u 3) i v (fI u 0 36).toNatClampNeg = _
    rw [upd_ne hi]
    rfl
  obtain ⟨h0, h1, h2, h3, h4, h5, h6, h7, h8, h9, h10, h11, h12, h13, h14, h15, h16, h17, h18, h19, h20, h21, h22, h23, h24, h25, h26, h27, h28, h29, h30, h31⟩ := h
  exact ⟨h0, h1, h2, h3, h4, h5, h6, h7, h8, h9, h10, h11, h12, h13, (rA_up h14 hv), h15, h16, h17, h18, h19, h20, h21, h22, h23, h24, h25, h26, h27, (by rw [e]; exact h28), (by rw [e]; exact h29), (fun j hj => by rw [e]; exact h30 j hj), (fun z hz hx => by rw [e]; exact h31 z hz hx)⟩
theorem MIsA_6 {D : va_G} {A : Nat → Prop} {cy : Nat → ClassId} {hp H : Heap} {locs : List Loc} {a : Nat → Nat} {u : St} {i : Nat} {v : Int32} (_ : Wo D A (mW cy a (sA u 6 (upd (fA u 6) i v))) hp H locs) (h : MI a u) (hv : 0 ≤ v.toInt ∧ v.toInt ≤ 6) (hi : ¬ (fI u 0 36).toNatClampNeg = i) : MI a (sA u 6 (upd (fA u 6) i v)) := by
  have e : cN (sA u 6 (upd (fA u 6) i v)) = cN u := by
    show upd (fA u 6) i v (fI u 0 36).toNatClampNeg = _
    rw [upd_ne hi]
    rfl
  obtain ⟨h0, h1, h2, h3, h4, h5, h6, h7, h8, h9, h10, h11, h12, h13, h14, h15, h16, h17, h18, h19, h20, h21, h22, h23, h24, h25, h26, h27, h28, h29, h30, h31⟩ := h
  exact ⟨h0, h1, h2, h3, h4, h5, h6, h7, h8, h9, h10, h11, h12, h13, h14, h15, h16, (rA_up h17 hv), h18, h19, h20, h21, h22, h23, h24, h25, h26, h27, (by rw [e]; exact h28), h29, h30, h31⟩
theorem MIsA_11 {D : va_G} {A : Nat → Prop} {cy : Nat → ClassId} {hp H : Heap} {locs : List Loc} {a : Nat → Nat} {u : St} {i : Nat} {v : Int32} (_ : Wo D A (mW cy a (sA u 11 (upd (fA u 11) i v))) hp H locs) (h : MI a u) (hi : ¬ (fI u 0 36).toNatClampNeg = i) : MI a (sA u 11 (upd (fA u 11) i v)) := by
  obtain ⟨h0, h1, h2, h3, h4, h5, h6, h7, h8, h9, h10, h11, h12, h13, h14, h15, h16, h17, h18, h19, h20, h21, h22, h23, h24, h25, h26, h27, h28, h29, h30, h31⟩ := h
  exact ⟨h0, h1, h2, h3, h4, h5, h6, h7, h8, h9, h10, h11, h12, h13, h14, h15, h16, h17, h18, h19, h20, h21, h22, h23, h24, h25, h26, (LawOk.t hi h27), h28, h29, h30, h31⟩
theorem MIsA_18 {D : va_G} {A : Nat → Prop} {cy : Nat → ClassId} {hp H : Heap} {locs : List Loc} {a : Nat → Nat} {u : St} {i : Nat} {v : Int32} (_ : Wo D A (mW cy a (sA u 18 (upd (fA u 18) i v))) hp H locs) (h : MI a u) (hi : ¬ (fI u 0 36).toNatClampNeg = i) : MI a (sA u 18 (upd (fA u 18) i v)) := by
  obtain ⟨h0, h1, h2, h3, h4, h5, h6, h7, h8, h9, h10, h11, h12, h13, h14, h15, h16, h17, h18, h19, h20, h21, h22, h23, h24, h25, h26, h27, h28, h29, h30, h31⟩ := h
  exact ⟨h0, h1, h2, h3, h4, h5, h6, h7, h8, h9, h10, h11, h12, h13, h14, h15, h16, h17, h18, h19, h20, h21, h22, h23, h24, h25, h26, (LawOk.r18 hi h27), h28, h29, h30, h31⟩
theorem MIsA_19 {D : va_G} {A : Nat → Prop} {cy : Nat → ClassId} {hp H : Heap} {locs : List Loc} {a : Nat → Nat} {u : St} {i : Nat} {v : Int32} (_ : Wo D A (mW cy a (sA u 19 (upd (fA u 19) i v))) hp H locs) (h : MI a u) (hi : ¬ (fI u 0 36).toNatClampNeg = i) : MI a (sA u 19 (upd (fA u 19) i v)) := by
  obtain ⟨h0, h1, h2, h3, h4, h5, h6, h7, h8, h9, h10, h11, h12, h13, h14, h15, h16, h17, h18, h19, h20, h21, h22, h23, h24, h25, h26, h27, h28, h29, h30, h31⟩ := h
  exact ⟨h0, h1, h2, h3, h4, h5, h6, h7, h8, h9, h10, h11, h12, h13, h14, h15, h16, h17, h18, h19, h20, h21, h22, h23, h24, h25, h26, (LawOk.r19 hi h27), h28, h29, h30, h31⟩
theorem MIsA_23 {D : va_G} {A : Nat → Prop} {cy : Nat → ClassId} {hp H : Heap} {locs : List Loc} {a : Nat → Nat} {u : St} {i : Nat} {v : Int32} (_ : Wo D A (mW cy a (sA u 23 (upd (fA u 23) i v))) hp H locs) (h : MI a u) (hi : ¬ (560 * (fI u 0 36).toNatClampNeg ≤ i ∧ i < 560 * (fI u 0 36).toNatClampNeg + 560)) : MI a (sA u 23 (upd (fA u 23) i v)) := by
  obtain ⟨h0, h1, h2, h3, h4, h5, h6, h7, h8, h9, h10, h11, h12, h13, h14, h15, h16, h17, h18, h19, h20, h21, h22, h23, h24, h25, h26, h27, h28, h29, h30, h31⟩ := h
  exact ⟨h0, h1, h2, h3, h4, h5, h6, h7, h8, h9, h10, h11, h12, h13, h14, h15, h16, h17, h18, h19, h20, h21, h22, h23, h24, h25, h26, (LawOk.c hi h27), h28, h29, h30, h31⟩
