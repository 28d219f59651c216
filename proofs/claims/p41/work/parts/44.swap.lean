/-! the two Webs, exchanged -/
def sgm (q : Nat) : Nat := if q < 3 then q else if q < 15 then q + 12 else if q < 27 then q - 12 else q
def swA (a : Nat → Nat) : Nat → Nat := fun q => a (sgm q)
def swU (u : St) : St := (fun q => u.1 (sgm q), fun q => u.2.1 (sgm q), fun q => u.2.2.1 (sgm q), fun q => u.2.2.2.1 (sgm q), u.2.2.2.2.1, u.2.2.2.2.2)
theorem sgm_hi {q : Nat} (h : 27 ≤ q) : sgm q = q := by
  unfold sgm
  rw [if_neg (by omega), if_neg (by omega), if_neg (by omega)]
theorem sw47 {a : Nat → Nat} {i : Nat} : swA a (47 + i) = a (47 + i) := by
  unfold swA
  rw [sgm_hi (by omega)]
theorem sw88 {a : Nat → Nat} {i : Nat} : swA a (88 + i) = a (88 + i) := by
  unfold swA
  rw [sgm_hi (by omega)]
theorem CI_sw {a : Nat → Nat} {u : St} (h : CJ a u) (r0 : fR u 0 = a 15) (r1 : fR u 1 = a 3) : CI (swA a) (swU u) := by
  obtain ⟨h0, h1, h2, h3, h4, h5, h6, h7, h8, h9, h10, h11, h12, h13, h14, h15, h16, h17, h18, h19, h20⟩ := h
  exact ⟨h0, h1, h2, h9, h10, h11, h12, h13, h14, h3, h4, h5, h6, h7, h8, h15, h16, h17, h18, h19, h20, r0, r1⟩
set_option maxRecDepth 100000 in
set_option maxHeartbeats 4000000 in
theorem Wo_sw {D : va_G} {A : Nat → Prop} {cy : Nat → ClassId} {a : Nat → Nat} {u : St} {pl : va_W} {H0 H : Heap} {locs : List Loc} (h : Wo D A (cW cy a u ++ pl) H0 H locs) : Wo D A (cW cy (swA a) (swU u) ++ pl) H0 H locs := by
  have e1 : (fun i : Nat => if i < 41 then some (swA a (47 + i)) else none) = (fun i => if i < 41 then some (a (47 + i)) else none) := by
    funext i
    rw [sw47]
  have e2 : (fun i : Nat => if i < 3 then some (swA a (88 + i)) else none) = (fun i => if i < 3 then some (a (88 + i)) else none) := by
    funext i
    rw [sw88]
  unfold cW at h ⊢
  rw [e1, e2]
  simp only [sw47]
  rw [List.append_assoc] at h ⊢
  exact h.perm [0, 1, 2, 15, 16, 17, 18, 19, 20, 21, 22, 23, 24, 25, 26, 3, 4, 5, 6, 7, 8, 9, 10, 11, 12, 13, 14, 27, 28, 29, 30, 31, 32, 33, 34, 35, 36, 37, 38, 39, 40, 41, 42, 43, 44, 45, 46] (by decide) rfl
theorem norm_web {D : va_G} {A : Nat → Prop} {cy : Nat → ClassId} {a : Nat → Nat} {u : St} {pl : va_W} {H0 H : Heap} {locs : List Loc} (hJ : CJ a u) (hr : (fR u 0 = a 3 ∧ fR u 1 = a 15) ∨ (fR u 0 = a 15 ∧ fR u 1 = a 3)) (h : Wo D A (cW cy a u ++ pl) H0 H locs) : ∃ (b : Nat → Nat) (v : St), b 0 = a 0 ∧ CI b v ∧ fI v 39 6 = fI u 39 6 ∧ Wo D A (cW cy b v ++ pl) H0 H locs := by
  rcases hr with ⟨r0, r1⟩ | ⟨r0, r1⟩
  · exact ⟨a, u, rfl, hJ.i r0 r1, rfl, h⟩
  · exact ⟨swA a, swU u, rfl, CI_sw hJ r0 r1, rfl, Wo_sw h⟩
