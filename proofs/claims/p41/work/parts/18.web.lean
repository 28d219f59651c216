def CJ (a : Nat → Nat) (u : St) : Prop := rI u 0 10 0 8 ∧ rI u 1 1 0 1600 ∧ rI u 1 2 0 1600 ∧ rI u 3 9 0 8 ∧ rI u 3 10 0 14 ∧ rI u 3 11 0 8 ∧ rI u 3 12 0 6 ∧ rI u 12 2 0 300 ∧ rI u 12 3 0 31 ∧ rI u 15 9 0 8 ∧ rI u 15 10 0 14 ∧ rI u 15 11 0 8 ∧ rI u 15 12 0 6 ∧ rI u 24 2 0 300 ∧ rI u 24 3 0 31 ∧ rI u 30 1 0 40 ∧ rI u 30 2 0 40 ∧ rI u 30 3 0 40 ∧ rI u 39 5 0 30 ∧ rI u 39 6 0 100000 ∧ (fI u 30 2).toInt + (fI u 30 3).toInt ≤ 40
section
variable {a : Nat → Nat} {u : St}
theorem CJ_0_10 (h : CJ a u) : 0 ≤ (fI u 0 10).toInt ∧ (fI u 0 10).toInt ≤ 8 := h.1
theorem CJ_1_1 (h : CJ a u) : 0 ≤ (fI u 1 1).toInt ∧ (fI u 1 1).toInt ≤ 1600 := h.2.1
theorem CJ_1_2 (h : CJ a u) : 0 ≤ (fI u 1 2).toInt ∧ (fI u 1 2).toInt ≤ 1600 := h.2.2.1
theorem CJ_3_9 (h : CJ a u) : 0 ≤ (fI u 3 9).toInt ∧ (fI u 3 9).toInt ≤ 8 := h.2.2.2.1
theorem CJ_3_10 (h : CJ a u) : 0 ≤ (fI u 3 10).toInt ∧ (fI u 3 10).toInt ≤ 14 := h.2.2.2.2.1
theorem CJ_3_11 (h : CJ a u) : 0 ≤ (fI u 3 11).toInt ∧ (fI u 3 11).toInt ≤ 8 := h.2.2.2.2.2.1
theorem CJ_3_12 (h : CJ a u) : 0 ≤ (fI u 3 12).toInt ∧ (fI u 3 12).toInt ≤ 6 := h.2.2.2.2.2.2.1
theorem CJ_12_2 (h : CJ a u) : 0 ≤ (fI u 12 2).toInt ∧ (fI u 12 2).toInt ≤ 300 := h.2.2.2.2.2.2.2.1
theorem CJ_12_3 (h : CJ a u) : 0 ≤ (fI u 12 3).toInt ∧ (fI u 12 3).toInt ≤ 31 := h.2.2.2.2.2.2.2.2.1
theorem CJ_15_9 (h : CJ a u) : 0 ≤ (fI u 15 9).toInt ∧ (fI u 15 9).toInt ≤ 8 := h.2.2.2.2.2.2.2.2.2.1
theorem CJ_15_10 (h : CJ a u) : 0 ≤ (fI u 15 10).toInt ∧ (fI u 15 10).toInt ≤ 14 := h.2.2.2.2.2.2.2.2.2.2.1
theorem CJ_15_11 (h : CJ a u) : 0 ≤ (fI u 15 11).toInt ∧ (fI u 15 11).toInt ≤ 8 := h.2.2.2.2.2.2.2.2.2.2.2.1
theorem CJ_15_12 (h : CJ a u) : 0 ≤ (fI u 15 12).toInt ∧ (fI u 15 12).toInt ≤ 6 := h.2.2.2.2.2.2.2.2.2.2.2.2.1
theorem CJ_24_2 (h : CJ a u) : 0 ≤ (fI u 24 2).toInt ∧ (fI u 24 2).toInt ≤ 300 := h.2.2.2.2.2.2.2.2.2.2.2.2.2.1
theorem CJ_24_3 (h : CJ a u) : 0 ≤ (fI u 24 3).toInt ∧ (fI u 24 3).toInt ≤ 31 := h.2.2.2.2.2.2.2.2.2.2.2.2.2.2.1
theorem CJ_30_1 (h : CJ a u) : 0 ≤ (fI u 30 1).toInt ∧ (fI u 30 1).toInt ≤ 40 := h.2.2.2.2.2.2.2.2.2.2.2.2.2.2.2.1
theorem CJ_30_2 (h : CJ a u) : 0 ≤ (fI u 30 2).toInt ∧ (fI u 30 2).toInt ≤ 40 := h.2.2.2.2.2.2.2.2.2.2.2.2.2.2.2.2.1
theorem CJ_30_3 (h : CJ a u) : 0 ≤ (fI u 30 3).toInt ∧ (fI u 30 3).toInt ≤ 40 := h.2.2.2.2.2.2.2.2.2.2.2.2.2.2.2.2.2.1
theorem CJ_39_5 (h : CJ a u) : 0 ≤ (fI u 39 5).toInt ∧ (fI u 39 5).toInt ≤ 30 := h.2.2.2.2.2.2.2.2.2.2.2.2.2.2.2.2.2.2.1
theorem CJ_39_6 (h : CJ a u) : 0 ≤ (fI u 39 6).toInt ∧ (fI u 39 6).toInt ≤ 100000 := h.2.2.2.2.2.2.2.2.2.2.2.2.2.2.2.2.2.2.2.1
theorem CJ_acts (h : CJ a u) : (fI u 30 2).toInt + (fI u 30 3).toInt ≤ 40 := h.2.2.2.2.2.2.2.2.2.2.2.2.2.2.2.2.2.2.2.2
theorem CJs_0_10 {v : Int32} (h : CJ a u) (hv : 0 ≤ v.toInt ∧ v.toInt ≤ 8) : CJ a (sI u 0 10 v) := by
  obtain ⟨h0, h1, h2, h3, h4, h5, h6, h7, h8, h9, h10, h11, h12, h13, h14, h15, h16, h17, h18, h19, h20⟩ := h
  exact ⟨hv, h1, h2, h3, h4, h5, h6, h7, h8, h9, h10, h11, h12, h13, h14, h15, h16, h17, h18, h19, h20⟩
theorem CJs_0_11 {v : Int32} (h : CJ a u) : CJ a (sI u 0 11 v) := h
theorem CJs_1_1 {v : Int32} (h : CJ a u) (hv : 0 ≤ v.toInt ∧ v.toInt ≤ 1600) : CJ a (sI u 1 1 v) := by
  obtain ⟨h0, h1, h2, h3, h4, h5, h6, h7, h8, h9, h10, h11, h12, h13, h14, h15, h16, h17, h18, h19, h20⟩ := h
  exact ⟨h0, hv, h2, h3, h4, h5, h6, h7, h8, h9, h10, h11, h12, h13, h14, h15, h16, h17, h18, h19, h20⟩
theorem CJs_1_2 {v : Int32} (h : CJ a u) (hv : 0 ≤ v.toInt ∧ v.toInt ≤ 1600) : CJ a (sI u 1 2 v) := by
  obtain ⟨h0, h1, h2, h3, h4, h5, h6, h7, h8, h9, h10, h11, h12, h13, h14, h15, h16, h17, h18, h19, h20⟩ := h
  exact ⟨h0, h1, hv, h3, h4, h5, h6, h7, h8, h9, h10, h11, h12, h13, h14, h15, h16, h17, h18, h19, h20⟩
theorem CJs_1_3 {v : Int32} (h : CJ a u) : CJ a (sI u 1 3 v) := h
theorem CJs_1_4 {v : Int32} (h : CJ a u) : CJ a (sI u 1 4 v) := h
theorem CJs_1_5 {v : Int64} (h : CJ a u) : CJ a (sL u 1 5 v) := h
theorem CJs_1_6 {v : Int32} (h : CJ a u) : CJ a (sI u 1 6 v) := h
theorem CJs_3_9 {v : Int32} (h : CJ a u) (hv : 0 ≤ v.toInt ∧ v.toInt ≤ 8) : CJ a (sI u 3 9 v) := by
  obtain ⟨h0, h1, h2, h3, h4, h5, h6, h7, h8, h9, h10, h11, h12, h13, h14, h15, h16, h17, h18, h19, h20⟩ := h
  exact ⟨h0, h1, h2, hv, h4, h5, h6, h7, h8, h9, h10, h11, h12, h13, h14, h15, h16, h17, h18, h19, h20⟩
theorem CJs_3_10 {v : Int32} (h : CJ a u) (hv : 0 ≤ v.toInt ∧ v.toInt ≤ 14) : CJ a (sI u 3 10 v) := by
  obtain ⟨h0, h1, h2, h3, h4, h5, h6, h7, h8, h9, h10, h11, h12, h13, h14, h15, h16, h17, h18, h19, h20⟩ := h
  exact ⟨h0, h1, h2, h3, hv, h5, h6, h7, h8, h9, h10, h11, h12, h13, h14, h15, h16, h17, h18, h19, h20⟩
theorem CJs_3_11 {v : Int32} (h : CJ a u) (hv : 0 ≤ v.toInt ∧ v.toInt ≤ 8) : CJ a (sI u 3 11 v) := by
  obtain ⟨h0, h1, h2, h3, h4, h5, h6, h7, h8, h9, h10, h11, h12, h13, h14, h15, h16, h17, h18, h19, h20⟩ := h
  exact ⟨h0, h1, h2, h3, h4, hv, h6, h7, h8, h9, h10, h11, h12, h13, h14, h15, h16, h17, h18, h19, h20⟩
theorem CJs_3_12 {v : Int32} (h : CJ a u) (hv : 0 ≤ v.toInt ∧ v.toInt ≤ 6) : CJ a (sI u 3 12 v) := by
  obtain ⟨h0, h1, h2, h3, h4, h5, h6, h7, h8, h9, h10, h11, h12, h13, h14, h15, h16, h17, h18, h19, h20⟩ := h
  exact ⟨h0, h1, h2, h3, h4, h5, hv, h7, h8, h9, h10, h11, h12, h13, h14, h15, h16, h17, h18, h19, h20⟩
theorem CJs_3_13 {v : Int32} (h : CJ a u) : CJ a (sI u 3 13 v) := h
theorem CJs_3_14 {v : Int32} (h : CJ a u) : CJ a (sI u 3 14 v) := h
theorem CJs_3_15 {v : Int32} (h : CJ a u) : CJ a (sI u 3 15 v) := h
theorem CJs_3_16 {v : Int32} (h : CJ a u) : CJ a (sI u 3 16 v) := h
theorem CJs_3_17 {v : Int32} (h : CJ a u) : CJ a (sI u 3 17 v) := h
theorem CJs_12_2 {v : Int32} (h : CJ a u) (hv : 0 ≤ v.toInt ∧ v.toInt ≤ 300) : CJ a (sI u 12 2 v) := by
  obtain ⟨h0, h1, h2, h3, h4, h5, h6, h7, h8, h9, h10, h11, h12, h13, h14, h15, h16, h17, h18, h19, h20⟩ := h
  exact ⟨h0, h1, h2, h3, h4, h5, h6, hv, h8, h9, h10, h11, h12, h13, h14, h15, h16, h17, h18, h19, h20⟩
theorem CJs_12_3 {v : Int32} (h : CJ a u) (hv : 0 ≤ v.toInt ∧ v.toInt ≤ 31) : CJ a (sI u 12 3 v) := by
  obtain ⟨h0, h1, h2, h3, h4, h5, h6, h7, h8, h9, h10, h11, h12, h13, h14, h15, h16, h17, h18, h19, h20⟩ := h
  exact ⟨h0, h1, h2, h3, h4, h5, h6, h7, hv, h9, h10, h11, h12, h13, h14, h15, h16, h17, h18, h19, h20⟩
theorem CJs_12_4 {v : Int32} (h : CJ a u) : CJ a (sI u 12 4 v) := h
theorem CJs_12_5 {v : Int32} (h : CJ a u) : CJ a (sI u 12 5 v) := h
theorem CJs_12_6 {v : Int32} (h : CJ a u) : CJ a (sI u 12 6 v) := h
theorem CJs_12_7 {v : Int32} (h : CJ a u) : CJ a (sI u 12 7 v) := h
theorem CJs_12_8 {v : Int32} (h : CJ a u) : CJ a (sI u 12 8 v) := h
theorem CJs_12_9 {v : Int32} (h : CJ a u) : CJ a (sI u 12 9 v) := h
theorem CJs_12_10 {v : Int32} (h : CJ a u) : CJ a (sI u 12 10 v) := h
theorem CJs_15_9 {v : Int32} (h : CJ a u) (hv : 0 ≤ v.toInt ∧ v.toInt ≤ 8) : CJ a (sI u 15 9 v) := by
  obtain ⟨h0, h1, h2, h3, h4, h5, h6, h7, h8, h9, h10, h11, h12, h13, h14, h15, h16, h17, h18, h19, h20⟩ := h
  exact ⟨h0, h1, h2, h3, h4, h5, h6, h7, h8, hv, h10, h11, h12, h13, h14, h15, h16, h17, h18, h19, h20⟩
theorem CJs_15_10 {v : Int32} (h : CJ a u) (hv : 0 ≤ v.toInt ∧ v.toInt ≤ 14) : CJ a (sI u 15 10 v) := by
  obtain ⟨h0, h1, h2, h3, h4, h5, h6, h7, h8, h9, h10, h11, h12, h13, h14, h15, h16, h17, h18, h19, h20⟩ := h
  exact ⟨h0, h1, h2, h3, h4, h5, h6, h7, h8, h9, hv, h11, h12, h13, h14, h15, h16, h17, h18, h19, h20⟩
theorem CJs_15_11 {v : Int32} (h : CJ a u) (hv : 0 ≤ v.toInt ∧ v.toInt ≤ 8) : CJ a (sI u 15 11 v) := by
  obtain ⟨h0, h1, h2, h3, h4, h5, h6, h7, h8, h9, h10, h11, h12, h13, h14, h15, h16, h17, h18, h19, h20⟩ := h
  exact ⟨h0, h1, h2, h3, h4, h5, h6, h7, h8, h9, h10, hv, h12, h13, h14, h15, h16, h17, h18, h19, h20⟩
theorem CJs_15_12 {v : Int32} (h : CJ a u) (hv : 0 ≤ v.toInt ∧ v.toInt ≤ 6) : CJ a (sI u 15 12 v) := by
  obtain ⟨h0, h1, h2, h3, h4, h5, h6, h7, h8, h9, h10, h11, h12, h13, h14, h15, h16, h17, h18, h19, h20⟩ := h
  exact ⟨h0, h1, h2, h3, h4, h5, h6, h7, h8, h9, h10, h11, hv, h13, h14, h15, h16, h17, h18, h19, h20⟩
theorem CJs_15_13 {v : Int32} (h : CJ a u) : CJ a (sI u 15 13 v) := h
theorem CJs_15_14 {v : Int32} (h : CJ a u) : CJ a (sI u 15 14 v) := h
theorem CJs_15_15 {v : Int32} (h : CJ a u) : CJ a (sI u 15 15 v) := h
theorem CJs_15_16 {v : Int32} (h : CJ a u) : CJ a (sI u 15 16 v) := h
theorem CJs_15_17 {v : Int32} (h : CJ a u) : CJ a (sI u 15 17 v) := h
theorem CJs_24_2 {v : Int32} (h : CJ a u) (hv : 0 ≤ v.toInt ∧ v.toInt ≤ 300) : CJ a (sI u 24 2 v) := by
  obtain ⟨h0, h1, h2, h3, h4, h5, h6, h7, h8, h9, h10, h11, h12, h13, h14, h15, h16, h17, h18, h19, h20⟩ := h
  exact ⟨h0, h1, h2, h3, h4, h5, h6, h7, h8, h9, h10, h11, h12, hv, h14, h15, h16, h17, h18, h19, h20⟩
theorem CJs_24_3 {v : Int32} (h : CJ a u) (hv : 0 ≤ v.toInt ∧ v.toInt ≤ 31) : CJ a (sI u 24 3 v) := by
  obtain ⟨h0, h1, h2, h3, h4, h5, h6, h7, h8, h9, h10, h11, h12, h13, h14, h15, h16, h17, h18, h19, h20⟩ := h
  exact ⟨h0, h1, h2, h3, h4, h5, h6, h7, h8, h9, h10, h11, h12, h13, hv, h15, h16, h17, h18, h19, h20⟩
theorem CJs_24_4 {v : Int32} (h : CJ a u) : CJ a (sI u 24 4 v) := h
theorem CJs_24_5 {v : Int32} (h : CJ a u) : CJ a (sI u 24 5 v) := h
theorem CJs_24_6 {v : Int32} (h : CJ a u) : CJ a (sI u 24 6 v) := h
theorem CJs_24_7 {v : Int32} (h : CJ a u) : CJ a (sI u 24 7 v) := h
theorem CJs_24_8 {v : Int32} (h : CJ a u) : CJ a (sI u 24 8 v) := h
theorem CJs_24_9 {v : Int32} (h : CJ a u) : CJ a (sI u 24 9 v) := h
theorem CJs_24_10 {v : Int32} (h : CJ a u) : CJ a (sI u 24 10 v) := h
theorem CJs_27_2 {v : Int32} (h : CJ a u) : CJ a (sI u 27 2 v) := h
theorem CJs_27_3 {v : Int32} (h : CJ a u) : CJ a (sI u 27 3 v) := h
theorem CJs_30_1 {v : Int32} (h : CJ a u) (hv : 0 ≤ v.toInt ∧ v.toInt ≤ 40) : CJ a (sI u 30 1 v) := by
  obtain ⟨h0, h1, h2, h3, h4, h5, h6, h7, h8, h9, h10, h11, h12, h13, h14, h15, h16, h17, h18, h19, h20⟩ := h
  exact ⟨h0, h1, h2, h3, h4, h5, h6, h7, h8, h9, h10, h11, h12, h13, h14, hv, h16, h17, h18, h19, h20⟩
theorem CJs_30_2 {v : Int32} (h : CJ a u) (hv : 0 ≤ v.toInt ∧ v.toInt + (fI u 30 3).toInt ≤ 40) : CJ a (sI u 30 2 v) := by
  have b1 := CJ_30_2 h
  have b2 := CJ_30_3 h
  obtain ⟨h0, h1, h2, h3, h4, h5, h6, h7, h8, h9, h10, h11, h12, h13, h14, h15, h16, h17, h18, h19, h20⟩ := h
  exact ⟨h0, h1, h2, h3, h4, h5, h6, h7, h8, h9, h10, h11, h12, h13, h14, h15, (show 0 ≤ v.toInt ∧ v.toInt ≤ 40 from ⟨hv.1, by omega⟩), h17, h18, h19, (show v.toInt + (fI u 30 3).toInt ≤ 40 from by omega)⟩
theorem CJs_30_3 {v : Int32} (h : CJ a u) (hv : 0 ≤ v.toInt ∧ v.toInt + (fI u 30 2).toInt ≤ 40) : CJ a (sI u 30 3 v) := by
  have b1 := CJ_30_2 h
  have b2 := CJ_30_3 h
  obtain ⟨h0, h1, h2, h3, h4, h5, h6, h7, h8, h9, h10, h11, h12, h13, h14, h15, h16, h17, h18, h19, h20⟩ := h
  exact ⟨h0, h1, h2, h3, h4, h5, h6, h7, h8, h9, h10, h11, h12, h13, h14, h15, h16, (show 0 ≤ v.toInt ∧ v.toInt ≤ 40 from ⟨hv.1, by omega⟩), h18, h19, (show (fI u 30 2).toInt + v.toInt ≤ 40 from by omega)⟩
theorem CJs_39_5 {v : Int32} (h : CJ a u) (hv : 0 ≤ v.toInt ∧ v.toInt ≤ 30) : CJ a (sI u 39 5 v) := by
  obtain ⟨h0, h1, h2, h3, h4, h5, h6, h7, h8, h9, h10, h11, h12, h13, h14, h15, h16, h17, h18, h19, h20⟩ := h
  exact ⟨h0, h1, h2, h3, h4, h5, h6, h7, h8, h9, h10, h11, h12, h13, h14, h15, h16, h17, hv, h19, h20⟩
theorem CJs_39_6 {v : Int32} (h : CJ a u) (hv : 0 ≤ v.toInt ∧ v.toInt ≤ 100000) : CJ a (sI u 39 6 v) := by
  obtain ⟨h0, h1, h2, h3, h4, h5, h6, h7, h8, h9, h10, h11, h12, h13, h14, h15, h16, h17, h18, h19, h20⟩ := h
  exact ⟨h0, h1, h2, h3, h4, h5, h6, h7, h8, h9, h10, h11, h12, h13, h14, h15, h16, h17, h18, hv, h20⟩
theorem CJsA {D : va_G} {A : Nat → Prop} {cy : Nat → ClassId} {hp H : Heap} {locs : List Loc} {q : Nat} {f : Nat → Int32} (_ : Wo D A (cW cy a (sA u q f)) hp H locs) (h : CJ a u) : CJ a (sA u q f) := h
theorem CJsJ {D : va_G} {A : Nat → Prop} {cy : Nat → ClassId} {hp H : Heap} {locs : List Loc} {q : Nat} {f : Nat → Int64} (_ : Wo D A (cW cy a (sJ u q f)) hp H locs) (h : CJ a u) : CJ a (sJ u q f) := h
theorem CJsB {D : va_G} {A : Nat → Prop} {cy : Nat → ClassId} {hp H : Heap} {locs : List Loc} {q : Nat} {f : Nat → Int32} (_ : Wo D A (cW cy a (sB u q f)) hp H locs) (h : CJ a u) : CJ a (sB u q f) := h
theorem CJsR {k v : Nat} (h : CJ a u) : CJ a (sR u k v) := h
theorem CJs_30_23 {v w : Int32} (h : CJ a u) (h1 : 0 ≤ v.toInt) (h2 : 0 ≤ w.toInt) (h3 : v.toInt + w.toInt ≤ 40) : CJ a (sI (sI u 30 2 v) 30 3 w) := by
  obtain ⟨h0_, h1_, h2_, h3_, h4_, h5_, h6_, h7_, h8_, h9_, h10_, h11_, h12_, h13_, h14_, h15_, h16_, h17_, h18_, h19_, h20_⟩ := h
  exact ⟨h0_, h1_, h2_, h3_, h4_, h5_, h6_, h7_, h8_, h9_, h10_, h11_, h12_, h13_, h14_, h15_, (show 0 ≤ v.toInt ∧ v.toInt ≤ 40 from ⟨h1, by omega⟩), (show 0 ≤ w.toInt ∧ w.toInt ≤ 40 from ⟨h2, by omega⟩), h18_, h19_, (show v.toInt + w.toInt ≤ 40 from h3)⟩
end
theorem CI.j {a : Nat → Nat} {u : St} (h : CI a u) : CJ a u := by
  obtain ⟨h0, h1, h2, h3, h4, h5, h6, h7, h8, h9, h10, h11, h12, h13, h14, h15, h16, h17, h18, h19, h20, hr0, hr1⟩ := h
  exact ⟨h0, h1, h2, h3, h4, h5, h6, h7, h8, h9, h10, h11, h12, h13, h14, h15, h16, h17, h18, h19, h20⟩
theorem CJ.i {a : Nat → Nat} {u : St} (h : CJ a u) (hr0 : fR u 0 = a 3) (hr1 : fR u 1 = a 15) : CI a u := by
  obtain ⟨h0, h1, h2, h3, h4, h5, h6, h7, h8, h9, h10, h11, h12, h13, h14, h15, h16, h17, h18, h19, h20⟩ := h
  exact ⟨h0, h1, h2, h3, h4, h5, h6, h7, h8, h9, h10, h11, h12, h13, h14, h15, h16, h17, h18, h19, h20, hr0, hr1⟩
theorem dX2_open_0 : decode cX2_open 0 = .ok (.aload_n 0, 1) := by decide +kernel
theorem dX2_open_1 : decode cX2_open 1 = .ok (.aload_n 1, 1) := by decide +kernel
theorem dX2_open_2 : decode cX2_open 2 = .ok (.putfield 15, 3) := by decide +kernel
theorem dX2_open_5 : decode cX2_open 5 = .ok (.aload_n 0, 1) := by decide +kernel
theorem dX2_open_6 : decode cX2_open 6 = .ok (.getfield 9, 3) := by decide +kernel
theorem dX2_open_9 : decode cX2_open 9 = .ok (.iconst 0, 1) := by decide +kernel
theorem dX2_open_10 : decode cX2_open 10 = .ok (.aload_n 1, 1) := by decide +kernel
theorem dX2_open_11 : decode cX2_open 11 = .ok (.getfield 19, 3) := by decide +kernel
theorem dX2_open_14 : decode cX2_open 14 = .ok (.ifCond .le 10, 3) := by decide +kernel
theorem dX2_open_17 : decode cX2_open 17 = .ok (.aload_n 1, 1) := by decide +kernel
theorem dX2_open_18 : decode cX2_open 18 = .ok (.getfield 25, 3) := by decide +kernel
theorem dX2_open_21 : decode cX2_open 21 = .ok (.goto 4, 3) := by decide +kernel
theorem dX2_open_24 : decode cX2_open 24 = .ok (.iconst (-1), 1) := by decide +kernel
theorem dX2_open_25 : decode cX2_open 25 = .ok (.iastore, 1) := by decide +kernel
theorem dX2_open_26 : decode cX2_open 26 = .ok (.aload_n 0, 1) := by decide +kernel
theorem dX2_open_27 : decode cX2_open 27 = .ok (.getfield 9, 3) := by decide +kernel
theorem dX2_open_30 : decode cX2_open 30 = .ok (.iconst 1, 1) := by decide +kernel
theorem dX2_open_31 : decode cX2_open 31 = .ok (.iconst 0, 1) := by decide +kernel
theorem dX2_open_32 : decode cX2_open 32 = .ok (.iastore, 1) := by decide +kernel
theorem dX2_open_33 : decode cX2_open 33 = .ok (.aload_n 0, 1) := by decide +kernel
theorem dX2_open_34 : decode cX2_open 34 = .ok (.getfield 9, 3) := by decide +kernel
theorem dX2_open_37 : decode cX2_open 37 = .ok (.iconst 2, 1) := by decide +kernel
theorem dX2_open_38 : decode cX2_open 38 = .ok (.iconst 0, 1) := by decide +kernel
theorem dX2_open_39 : decode cX2_open 39 = .ok (.iastore, 1) := by decide +kernel
theorem dX2_open_40 : decode cX2_open 40 = .ok (.aload_n 0, 1) := by decide +kernel
theorem dX2_open_41 : decode cX2_open 41 = .ok (.getfield 9, 3) := by decide +kernel
theorem dX2_open_44 : decode cX2_open 44 = .ok (.iconst 3, 1) := by decide +kernel
theorem dX2_open_45 : decode cX2_open 45 = .ok (.aload_n 1, 1) := by decide +kernel
theorem dX2_open_46 : decode cX2_open 46 = .ok (.getfield 28, 3) := by decide +kernel
theorem dX2_open_49 : decode cX2_open 49 = .ok (.iastore, 1) := by decide +kernel
theorem dX2_open_50 : decode cX2_open 50 = .ok (.aload_n 0, 1) := by decide +kernel
theorem dX2_open_51 : decode cX2_open 51 = .ok (.getfield 9, 3) := by decide +kernel
theorem dX2_open_54 : decode cX2_open 54 = .ok (.iconst 4, 1) := by decide +kernel
theorem dX2_open_55 : decode cX2_open 55 = .ok (.aload_n 1, 1) := by decide +kernel
theorem dX2_open_56 : decode cX2_open 56 = .ok (.getfield 31, 3) := by decide +kernel
theorem dX2_open_59 : decode cX2_open 59 = .ok (.iastore, 1) := by decide +kernel
theorem dX2_open_60 : decode cX2_open 60 = .ok (.iconst 0, 1) := by decide +kernel
theorem dX2_open_61 : decode cX2_open 61 = .ok (.istore_n 2, 1) := by decide +kernel
theorem dX2_open_62 : decode cX2_open 62 = .ok (.iload_n 2, 1) := by decide +kernel
theorem dX2_open_63 : decode cX2_open 63 = .ok (.bipush 6, 2) := by decide +kernel
theorem dX2_open_65 : decode cX2_open 65 = .ok (.if_icmp .ge 65, 3) := by decide +kernel
theorem dX2_open_68 : decode cX2_open 68 = .ok (.aload_n 0, 1) := by decide +kernel
theorem dX2_open_69 : decode cX2_open 69 = .ok (.getfield 9, 3) := by decide +kernel
theorem dX2_open_72 : decode cX2_open 72 = .ok (.iconst 5, 1) := by decide +kernel
theorem dX2_open_73 : decode cX2_open 73 = .ok (.iload_n 2, 1) := by decide +kernel
theorem dX2_open_74 : decode cX2_open 74 = .ok (.iadd, 1) := by decide +kernel
theorem dX2_open_75 : decode cX2_open 75 = .ok (.iconst 0, 1) := by decide +kernel
theorem dX2_open_76 : decode cX2_open 76 = .ok (.iastore, 1) := by decide +kernel
theorem dX2_open_77 : decode cX2_open 77 = .ok (.aload_n 0, 1) := by decide +kernel
theorem dX2_open_78 : decode cX2_open 78 = .ok (.getfield 9, 3) := by decide +kernel
theorem dX2_open_81 : decode cX2_open 81 = .ok (.bipush 11, 2) := by decide +kernel
theorem dX2_open_83 : decode cX2_open 83 = .ok (.iload_n 2, 1) := by decide +kernel
theorem dX2_open_84 : decode cX2_open 84 = .ok (.iadd, 1) := by decide +kernel
theorem dX2_open_85 : decode cX2_open 85 = .ok (.iload_n 2, 1) := by decide +kernel
theorem dX2_open_86 : decode cX2_open 86 = .ok (.aload_n 1, 1) := by decide +kernel
theorem dX2_open_87 : decode cX2_open 87 = .ok (.getfield 34, 3) := by decide +kernel
theorem dX2_open_90 : decode cX2_open 90 = .ok (.if_icmp .ge 12, 3) := by decide +kernel
theorem dX2_open_93 : decode cX2_open 93 = .ok (.aload_n 1, 1) := by decide +kernel
theorem dX2_open_94 : decode cX2_open 94 = .ok (.getfield 37, 3) := by decide +kernel
theorem dX2_open_97 : decode cX2_open 97 = .ok (.iload_n 2, 1) := by decide +kernel
theorem dX2_open_98 : decode cX2_open 98 = .ok (.iaload, 1) := by decide +kernel
theorem dX2_open_99 : decode cX2_open 99 = .ok (.goto 4, 3) := by decide +kernel
theorem dX2_open_102 : decode cX2_open 102 = .ok (.iconst 0, 1) := by decide +kernel
theorem dX2_open_103 : decode cX2_open 103 = .ok (.iastore, 1) := by decide +kernel
theorem dX2_open_104 : decode cX2_open 104 = .ok (.aload_n 0, 1) := by decide +kernel
theorem dX2_open_105 : decode cX2_open 105 = .ok (.getfield 9, 3) := by decide +kernel
theorem dX2_open_108 : decode cX2_open 108 = .ok (.bipush 17, 2) := by decide +kernel
theorem dX2_open_110 : decode cX2_open 110 = .ok (.iload_n 2, 1) := by decide +kernel
theorem dX2_open_111 : decode cX2_open 111 = .ok (.iadd, 1) := by decide +kernel
theorem dX2_open_112 : decode cX2_open 112 = .ok (.iconst 0, 1) := by decide +kernel
theorem dX2_open_113 : decode cX2_open 113 = .ok (.iastore, 1) := by decide +kernel
theorem dX2_open_114 : decode cX2_open 114 = .ok (.aload_n 0, 1) := by decide +kernel
theorem dX2_open_115 : decode cX2_open 115 = .ok (.getfield 9, 3) := by decide +kernel
theorem dX2_open_118 : decode cX2_open 118 = .ok (.bipush 23, 2) := by decide +kernel
theorem dX2_open_120 : decode cX2_open 120 = .ok (.iload_n 2, 1) := by decide +kernel
theorem dX2_open_121 : decode cX2_open 121 = .ok (.iadd, 1) := by decide +kernel
theorem dX2_open_122 : decode cX2_open 122 = .ok (.iconst 0, 1) := by decide +kernel
theorem dX2_open_123 : decode cX2_open 123 = .ok (.iastore, 1) := by decide +kernel
theorem dX2_open_124 : decode cX2_open 124 = .ok (.iinc 2 1, 3) := by decide +kernel
theorem dX2_open_127 : decode cX2_open 127 = .ok (.goto (-65), 3) := by decide +kernel
theorem dX2_open_130 : decode cX2_open 130 = .ok (.return_, 1) := by decide +kernel
theorem wd_800 : (Cond.code ⟨"WebCourt$Court", "open", "(LWebCourt$Web;)V"⟩ prog_4_method_2_code (3 : Nat) (Option.none : Option FieldType)) ∈ gtb := gtb_c3 211 (by decide +kernel) rfl
theorem pf_RX2_15 {p : Program} {l : Launch} {e : Env} {R : Room} {s : State} {m : MethodId} {args : Array Value} {below : List Frame} {meth : Method} {c : Code} {H : Heap} {locs : List Loc} {cells slots : Nat} {Q : State → Prop} {cc : ByteArray} {pc nL : Nat} {ls : Array Slot} {rest : List Value} {D : va_G} {cy : Nat → ClassId} {A : Nat → Prop} {ws : va_W} {b : Nat} {fs : List Value} {v : Nat} {ws' : va_W} (C : Cx p s m args c cc nL RX2 D cy A) (hO : Wo D A ws s.heap H locs) (q0 : Nat) (he : ws[q0]? = some (b, .inr (2, fs))) (hlen : 1 < fs.length) (hw : ws.set q0 (b, .inr (2, fs.set 1 (.ref v))) = ws') (hdg : decode cc pc = .ok (.putfield 15, 3)) (kk : ∀ (H : Heap) (locs : List Loc), Wo D A ws' s.heap H locs → W p l e R s m args below meth c H locs cells slots Q (F0 m (pc + 3) ls rest)) : W p l e R s m args below meth c H locs cells slots Q (F0 m pc ls (.ref v :: .ref b :: rest)) := pF (k := 1) (ty := .object "WebCourt$Web") C hO q0 he rfl inFX2 (by decide) wd_358 rfl tyX2 tyX2_ok nmX2 rfl (by decide +kernel) rfl rfl hlen hw hdg kk
theorem wd_285 : (Cond.fieldLink "WebCourt$Court" (28 : Nat) "WebCourt$Web" "draw" "I") ∈ gtb := gtb_c1 176 (by decide +kernel) rfl
theorem gf_RX2_28 {p : Program} {l : Launch} {e : Env} {R : Room} {s : State} {m : MethodId} {args : Array Value} {below : List Frame} {meth : Method} {c : Code} {H : Heap} {locs : List Loc} {cells slots : Nat} {Q : State → Prop} {cc : ByteArray} {pc nL : Nat} {ls : Array Slot} {rest : List Value} {D : va_G} {cy : Nat → ClassId} {A : Nat → Prop} {ws : va_W} {b : Nat} {fs : List Value} {v : Value} (C : Cx p s m args c cc nL RX2 D cy A) (hO : Wo D A ws s.heap H locs) (q0 : Nat) (he : ws[q0]? = some (b, .inr (9, fs))) (hv : fs[16]? = some v) (hdg : decode cc pc = .ok (.getfield 28, 3)) (kk : W p l e R s m args below meth c H locs cells slots Q (F0 m (pc + 3) ls (v :: rest))) : W p l e R s m args below meth c H locs cells slots Q (F0 m pc ls (.ref b :: rest)) := gF (k := 16) C hO q0 he rfl inFX9 (by decide) wd_285 rfl hv hdg kk
theorem wd_275 : (Cond.fieldLink "WebCourt$Court" (31 : Nat) "WebCourt$Web" "sticky" "I") ∈ gtb := gtb_c1 166 (by decide +kernel) rfl
theorem gf_RX2_31 {p : Program} {l : Launch} {e : Env} {R : Room} {s : State} {m : MethodId} {args : Array Value} {below : List Frame} {meth : Method} {c : Code} {H : Heap} {locs : List Loc} {cells slots : Nat} {Q : State → Prop} {cc : ByteArray} {pc nL : Nat} {ls : Array Slot} {rest : List Value} {D : va_G} {cy : Nat → ClassId} {A : Nat → Prop} {ws : va_W} {b : Nat} {fs : List Value} {v : Value} (C : Cx p s m args c cc nL RX2 D cy A) (hO : Wo D A ws s.heap H locs) (q0 : Nat) (he : ws[q0]? = some (b, .inr (9, fs))) (hv : fs[13]? = some v) (hdg : decode cc pc = .ok (.getfield 31, 3)) (kk : W p l e R s m args below meth c H locs cells slots Q (F0 m (pc + 3) ls (v :: rest))) : W p l e R s m args below meth c H locs cells slots Q (F0 m pc ls (.ref b :: rest)) := gF (k := 13) C hO q0 he rfl inFX9 (by decide) wd_275 rfl hv hdg kk
theorem wd_244 : (Cond.fieldLink "WebCourt$Court" (37 : Nat) "WebCourt$Web" "casePleas" "[I") ∈ gtb := gtb_c1 135 (by decide +kernel) rfl
theorem gf_RX2_37 {p : Program} {l : Launch} {e : Env} {R : Room} {s : State} {m : MethodId} {args : Array Value} {below : List Frame} {meth : Method} {c : Code} {H : Heap} {locs : List Loc} {cells slots : Nat} {Q : State → Prop} {cc : ByteArray} {pc nL : Nat} {ls : Array Slot} {rest : List Value} {D : va_G} {cy : Nat → ClassId} {A : Nat → Prop} {ws : va_W} {b : Nat} {fs : List Value} {v : Value} (C : Cx p s m args c cc nL RX2 D cy A) (hO : Wo D A ws s.heap H locs) (q0 : Nat) (he : ws[q0]? = some (b, .inr (9, fs))) (hv : fs[7]? = some v) (hdg : decode cc pc = .ok (.getfield 37, 3)) (kk : W p l e R s m args below meth c H locs cells slots Q (F0 m (pc + 3) ls (v :: rest))) : W p l e R s m args below meth c H locs cells slots Q (F0 m pc ls (.ref b :: rest)) := gF (k := 7) C hO q0 he rfl inFX9 (by decide) wd_244 rfl hv hdg kk
theorem wd_277 : (Cond.fieldLink "WebCourt$Court" (25 : Nat) "WebCourt$Web" "bench" "I") ∈ gtb := gtb_c1 168 (by decide +kernel) rfl
theorem gf_RX2_25 {p : Program} {l : Launch} {e : Env} {R : Room} {s : State} {m : MethodId} {args : Array Value} {below : List Frame} {meth : Method} {c : Code} {H : Heap} {locs : List Loc} {cells slots : Nat} {Q : State → Prop} {cc : ByteArray} {pc nL : Nat} {ls : Array Slot} {rest : List Value} {D : va_G} {cy : Nat → ClassId} {A : Nat → Prop} {ws : va_W} {b : Nat} {fs : List Value} {v : Value} (C : Cx p s m args c cc nL RX2 D cy A) (hO : Wo D A ws s.heap H locs) (q0 : Nat) (he : ws[q0]? = some (b, .inr (9, fs))) (hv : fs[14]? = some v) (hdg : decode cc pc = .ok (.getfield 25, 3)) (kk : W p l e R s m args below meth c H locs cells slots Q (F0 m (pc + 3) ls (v :: rest))) : W p l e R s m args below meth c H locs cells slots Q (F0 m pc ls (.ref b :: rest)) := gF (k := 14) C hO q0 he rfl inFX9 (by decide) wd_277 rfl hv hdg kk
set_option maxHeartbeats 4000000 in
set_option maxRecDepth 100000 in
theorem T_X2_open (l : Launch) (D : va_G) (cy : Nat → ClassId) (a : Nat → Nat) (u : St) (hJ : CJ a u)   : Mv l D cy (cW cy a) yX2_open (.code yX2_open cX2_open 3 none) (rmo 0 0) [.ref (a 28), .ref (a 15)] u (fun (u' : St) => (CJ a u') ∧ (KT1 u u') ∧ (fR u' 0 = a 15)) := by
  refine Mv.of (own := RX2) rfl (by decide) (Nat.le_of_ble_eq_true rfl) ?_
  have hT : KT1 u u := KT1.rf
  intro p e s m below meth c A Q ls C hret hO hl
  obtain ⟨hx, hb, hml, hown, ht, hK, hA⟩ := id C
  have hl : lv_has ls 3 [(0, .ref (a 28)), (1, .ref (a 15))] := hl
  refine lv_aload_n hx hb dX2_open_0 rfl (lv_at hl 0 rfl) ?_
  refine lv_aload_n hx hb dX2_open_1 rfl (lv_at hl 1 rfl) ?_
  refine pf_RX2_15 C hO 28 cW_28 (Nat.le_of_ble_eq_true rfl) cW_s28_1 dX2_open_2 (fun H locs hO => ?_)
  have hJ := CJsR (k := 0) (v := (a 15)) hJ
  obtain ⟨u1, hO, hJ, hT, hW⟩ : ∃ z : St, Wo D A (cW cy a z) s.heap H locs ∧ CJ a z ∧ KT1 u z ∧ fR z 0 = a 15 := ⟨_, hO, hJ, hT, rfl⟩
  refine lv_aload_n hx hb dX2_open_5 rfl (lv_at hl 0 rfl) ?_
  refine gf_RX2_9 (v := .ref (a 29)) C hO 28 cW_28 rfl dX2_open_6 ?_
  refine lv_iconst (v := 0) hx hb dX2_open_9 (by decide) ?_
  refine lv_aload_n hx hb dX2_open_10 rfl (lv_at hl 1 rfl) ?_
  have g2 : 0 ≤ (fI u1 15 9).toInt ∧ (fI u1 15 9).toInt ≤ 8 := by have h := CJ_15_9 hJ; exact h
  refine gf_RX2_19 (v := .int (fI u1 15 9)) C hO 15 cW_15 rfl dX2_open_11 ?_
  refine bs_le (tgt := 24) (X := ((fI u1 15 9)).toInt) hx hb dX2_open_14 (by decide) rfl (fun c3 => ?_) (fun c3 => ?_)
  · refine lv_iconst (v := (-1)) hx hb dX2_open_24 (by decide) ?_
    refine aIs C hO 29 cW_29 (i_in (X := 0) rfl (by omega) (by omega)) cW_s29 dX2_open_25 (fun H locs hO => ?_)
    have hJ := CJsA hO hJ
    refine lv_aload_n hx hb dX2_open_26 rfl (lv_at hl 0 rfl) ?_
    refine gf_RX2_9 (v := .ref (a 29)) C hO 28 cW_28 rfl dX2_open_27 ?_
    refine lv_iconst (v := 1) hx hb dX2_open_30 (by decide) ?_
    refine lv_iconst (v := 0) hx hb dX2_open_31 (by decide) ?_
    refine aIs C hO 29 cW_29 (i_in (X := 1) rfl (by omega) (by omega)) cW_s29 dX2_open_32 (fun H locs hO => ?_)
    have hJ := CJsA hO hJ
    refine lv_aload_n hx hb dX2_open_33 rfl (lv_at hl 0 rfl) ?_
    refine gf_RX2_9 (v := .ref (a 29)) C hO 28 cW_28 rfl dX2_open_34 ?_
    refine lv_iconst (v := 2) hx hb dX2_open_37 (by decide) ?_
    refine lv_iconst (v := 0) hx hb dX2_open_38 (by decide) ?_
    refine aIs C hO 29 cW_29 (i_in (X := 2) rfl (by omega) (by omega)) cW_s29 dX2_open_39 (fun H locs hO => ?_)
    have hJ := CJsA hO hJ
    refine lv_aload_n hx hb dX2_open_40 rfl (lv_at hl 0 rfl) ?_
    refine gf_RX2_9 (v := .ref (a 29)) C hO 28 cW_28 rfl dX2_open_41 ?_
    refine lv_iconst (v := 3) hx hb dX2_open_44 (by decide) ?_
    refine lv_aload_n hx hb dX2_open_45 rfl (lv_at hl 1 rfl) ?_
    refine gf_RX2_28 (v := .int (fI u1 15 16)) C hO 15 cW_15 rfl dX2_open_46 ?_
    refine aIs C hO 29 cW_29 (i_in (X := 3) rfl (by omega) (by omega)) cW_s29 dX2_open_49 (fun H locs hO => ?_)
    have hJ := CJsA hO hJ
    refine lv_aload_n hx hb dX2_open_50 rfl (lv_at hl 0 rfl) ?_
    refine gf_RX2_9 (v := .ref (a 29)) C hO 28 cW_28 rfl dX2_open_51 ?_
    refine lv_iconst (v := 4) hx hb dX2_open_54 (by decide) ?_
    refine lv_aload_n hx hb dX2_open_55 rfl (lv_at hl 1 rfl) ?_
    refine gf_RX2_31 (v := .int (fI u1 15 13)) C hO 15 cW_15 rfl dX2_open_56 ?_
    refine aIs C hO 29 cW_29 (i_in (X := 4) rfl (by omega) (by omega)) cW_s29 dX2_open_59 (fun H locs hO => ?_)
    have hJ := CJsA hO hJ
    refine lv_iconst (v := 0) hx hb dX2_open_60 (by decide) ?_
    refine lv_istore_n (lv' := [(2, .int 0), (0, .ref (a 28)), (1, .ref (a 15))]) hx hb dX2_open_61 rfl hl (by decide) rfl (fun ls hl => ?_)
    have LP_62_k5 : ∀ (n : Nat) (u4 : St) (H : Heap) (locs : List Loc) (ls : Array Slot) (i_k5 : Int32), Wo D A (cW cy a u4) s.heap H locs → lv_has ls 3 [(2, .int i_k5), (0, .ref (a 28)), (1, .ref (a 15))] → CJ a u4 → KT1 u u4 → fR u4 0 = a 15 → 0 ≤ i_k5.toInt ∧ i_k5.toInt ≤ 6 → 6 - i_k5.toInt < (n : Int) → W p l e (rmo 0 0) s m [.ref (a 28), .ref (a 15)].toArray below meth c H locs 0 0 Q (F0 m 62 ls []) := by
      intro n
      induction n with
      | zero =>
        intro u4 H locs ls i_k5 hO hl hJ hT hW iv0_k5 hm_k5
        exact absurd hm_k5 (by omega)
      | succ n ih_k5 =>
        intro u4 H locs ls i_k5 hO hl hJ hT hW iv0_k5 hm_k5
        refine lv_iload_n hx hb dX2_open_62 rfl (lv_at hl 0 rfl) ?_
        refine lv_bipush (v := 6) hx hb dX2_open_63 (by decide) ?_
        refine cs_ge (tgt := 130) (X := (i_k5).toInt) (Y := 6) hx hb dX2_open_65 (by decide) rfl rfl (fun c6 => ?_) (fun c6 => ?_)
        · refine hret _ _ _ _ _ dX2_open_130 ?_ hO
          exact ⟨hJ, hT, hW⟩
        · refine lv_aload_n hx hb dX2_open_68 rfl (lv_at hl 1 rfl) ?_
          refine gf_RX2_9 (v := .ref (a 29)) C hO 28 cW_28 rfl dX2_open_69 ?_
          refine lv_iconst (v := 5) hx hb dX2_open_72 (by decide) ?_
          refine lv_iload_n hx hb dX2_open_73 rfl (lv_at hl 0 rfl) ?_
          have e7 : ((5 + i_k5)).toInt = 5 + (i_k5).toInt := i_add rfl rfl (by omega)
          refine lv_iadd hx hb dX2_open_74 ?_
          refine lv_iconst (v := 0) hx hb dX2_open_75 (by decide) ?_
          refine aIs C hO 29 cW_29 (i_in (X := (5 + (i_k5).toInt)) e7 (by omega) (by omega)) cW_s29 dX2_open_76 (fun H locs hO => ?_)
          have hJ := CJsA hO hJ
          refine lv_aload_n hx hb dX2_open_77 rfl (lv_at hl 1 rfl) ?_
          refine gf_RX2_9 (v := .ref (a 29)) C hO 28 cW_28 rfl dX2_open_78 ?_
          refine lv_bipush (v := 11) hx hb dX2_open_81 (by decide) ?_
          refine lv_iload_n hx hb dX2_open_83 rfl (lv_at hl 0 rfl) ?_
          have e8 : ((11 + i_k5)).toInt = 11 + (i_k5).toInt := i_add rfl rfl (by omega)
          refine lv_iadd hx hb dX2_open_84 ?_
          refine lv_iload_n hx hb dX2_open_85 rfl (lv_at hl 0 rfl) ?_
          refine lv_aload_n hx hb dX2_open_86 rfl (lv_at hl 2 rfl) ?_
          have g9 : 0 ≤ (fI u4 15 12).toInt ∧ (fI u4 15 12).toInt ≤ 6 := by have h := CJ_15_12 hJ; exact h
          refine gf_RX2_34 (v := .int (fI u4 15 12)) C hO 15 cW_15 rfl dX2_open_87 ?_
          refine cs_ge (tgt := 102) (X := (i_k5).toInt) (Y := ((fI u4 15 12)).toInt) hx hb dX2_open_90 (by decide) rfl rfl (fun c10 => ?_) (fun c10 => ?_)
          · refine lv_iconst (v := 0) hx hb dX2_open_102 (by decide) ?_
            refine aIs C hO 29 cW_29 (i_in (X := (11 + (i_k5).toInt)) e8 (by omega) (by omega)) cW_s29 dX2_open_103 (fun H locs hO => ?_)
            have hJ := CJsA hO hJ
            refine lv_aload_n hx hb dX2_open_104 rfl (lv_at hl 1 rfl) ?_
            refine gf_RX2_9 (v := .ref (a 29)) C hO 28 cW_28 rfl dX2_open_105 ?_
            refine lv_bipush (v := 17) hx hb dX2_open_108 (by decide) ?_
            refine lv_iload_n hx hb dX2_open_110 rfl (lv_at hl 0 rfl) ?_
            have e11 : ((17 + i_k5)).toInt = 17 + (i_k5).toInt := i_add rfl rfl (by omega)
            refine lv_iadd hx hb dX2_open_111 ?_
            refine lv_iconst (v := 0) hx hb dX2_open_112 (by decide) ?_
            refine aIs C hO 29 cW_29 (i_in (X := (17 + (i_k5).toInt)) e11 (by omega) (by omega)) cW_s29 dX2_open_113 (fun H locs hO => ?_)
            have hJ := CJsA hO hJ
            refine lv_aload_n hx hb dX2_open_114 rfl (lv_at hl 1 rfl) ?_
            refine gf_RX2_9 (v := .ref (a 29)) C hO 28 cW_28 rfl dX2_open_115 ?_
            refine lv_bipush (v := 23) hx hb dX2_open_118 (by decide) ?_
            refine lv_iload_n hx hb dX2_open_120 rfl (lv_at hl 0 rfl) ?_
            have e12 : ((23 + i_k5)).toInt = 23 + (i_k5).toInt := i_add rfl rfl (by omega)
            refine lv_iadd hx hb dX2_open_121 ?_
            refine lv_iconst (v := 0) hx hb dX2_open_122 (by decide) ?_
            refine aIs C hO 29 cW_29 (i_in (X := (23 + (i_k5).toInt)) e12 (by omega) (by omega)) cW_s29 dX2_open_123 (fun H locs hO => ?_)
            have hJ := CJsA hO hJ
            have e13 : ((i_k5 + 1)).toInt = (i_k5).toInt + 1 := i_add rfl rfl (by omega)
            refine lv_iinc (v := (i_k5 + 1)) (lv' := [(2, .int (i_k5 + 1)), (0, .ref (a 28)), (1, .ref (a 15))]) hx hb dX2_open_124 hl (k := 0) rfl rfl (by decide) rfl (fun ls hl => ?_)
            refine lv_goto (tgt := 62) hx hb dX2_open_127 (by decide) ?_
            exact ih_k5 _ _ _ _ ((i_k5 + 1)) hO (lv_sub hl [0, 1, 2] rfl) (by exact hJ) (by exact hT) (by exact hW) (by first | decide | omega) (by first | decide | omega)
          · refine lv_aload_n hx hb dX2_open_93 rfl (lv_at hl 2 rfl) ?_
            refine gf_RX2_37 (v := .ref (a 23)) C hO 15 cW_15 rfl dX2_open_94 ?_
            refine lv_iload_n hx hb dX2_open_97 rfl (lv_at hl 0 rfl) ?_
            refine aI C hO 23 cW_23 (i_in (X := (i_k5).toInt) rfl (by omega) (by omega)) dX2_open_98 ?_
            refine lv_topi (fun w14 ew14 => ?_)
            refine lv_goto (tgt := 103) hx hb dX2_open_99 (by decide) ?_
            refine aIs C hO 29 cW_29 (i_in (X := (11 + (i_k5).toInt)) e8 (by omega) (by omega)) cW_s29 dX2_open_103 (fun H locs hO => ?_)
            have hJ := CJsA hO hJ
            refine lv_aload_n hx hb dX2_open_104 rfl (lv_at hl 1 rfl) ?_
            refine gf_RX2_9 (v := .ref (a 29)) C hO 28 cW_28 rfl dX2_open_105 ?_
            refine lv_bipush (v := 17) hx hb dX2_open_108 (by decide) ?_
            refine lv_iload_n hx hb dX2_open_110 rfl (lv_at hl 0 rfl) ?_
            have e15 : ((17 + i_k5)).toInt = 17 + (i_k5).toInt := i_add rfl rfl (by omega)
            refine lv_iadd hx hb dX2_open_111 ?_
            refine lv_iconst (v := 0) hx hb dX2_open_112 (by decide) ?_
            refine aIs C hO 29 cW_29 (i_in (X := (17 + (i_k5).toInt)) e15 (by omega) (by omega)) cW_s29 dX2_open_113 (fun H locs hO => ?_)
            have hJ := CJsA hO hJ
            refine lv_aload_n hx hb dX2_open_114 rfl (lv_at hl 1 rfl) ?_
            refine gf_RX2_9 (v := .ref (a 29)) C hO 28 cW_28 rfl dX2_open_115 ?_
            refine lv_bipush (v := 23) hx hb dX2_open_118 (by decide) ?_
            refine lv_iload_n hx hb dX2_open_120 rfl (lv_at hl 0 rfl) ?_
            have e16 : ((23 + i_k5)).toInt = 23 + (i_k5).toInt := i_add rfl rfl (by omega)
            refine lv_iadd hx hb dX2_open_121 ?_
            refine lv_iconst (v := 0) hx hb dX2_open_122 (by decide) ?_
            refine aIs C hO 29 cW_29 (i_in (X := (23 + (i_k5).toInt)) e16 (by omega) (by omega)) cW_s29 dX2_open_123 (fun H locs hO => ?_)
            have hJ := CJsA hO hJ
            have e17 : ((i_k5 + 1)).toInt = (i_k5).toInt + 1 := i_add rfl rfl (by omega)
            refine lv_iinc (v := (i_k5 + 1)) (lv' := [(2, .int (i_k5 + 1)), (0, .ref (a 28)), (1, .ref (a 15))]) hx hb dX2_open_124 hl (k := 0) rfl rfl (by decide) rfl (fun ls hl => ?_)
            refine lv_goto (tgt := 62) hx hb dX2_open_127 (by decide) ?_
            exact ih_k5 _ _ _ _ ((i_k5 + 1)) hO (lv_sub hl [0, 1, 2] rfl) (by exact hJ) (by exact hT) (by exact hW) (by first | decide | omega) (by first | decide | omega)
    exact LP_62_k5 4000 _ _ _ _ (0) hO (lv_sub hl [0, 1, 2] rfl) (by exact hJ) (by exact hT) (by exact hW) (by first | decide | omega) (by first | decide | omega)
  · refine lv_aload_n hx hb dX2_open_17 rfl (lv_at hl 1 rfl) ?_
    refine gf_RX2_25 (v := .int (fI u1 15 14)) C hO 15 cW_15 rfl dX2_open_18 ?_
    refine lv_goto (tgt := 25) hx hb dX2_open_21 (by decide) ?_
    refine aIs C hO 29 cW_29 (i_in (X := 0) rfl (by omega) (by omega)) cW_s29 dX2_open_25 (fun H locs hO => ?_)
    have hJ := CJsA hO hJ
    refine lv_aload_n hx hb dX2_open_26 rfl (lv_at hl 0 rfl) ?_
    refine gf_RX2_9 (v := .ref (a 29)) C hO 28 cW_28 rfl dX2_open_27 ?_
    refine lv_iconst (v := 1) hx hb dX2_open_30 (by decide) ?_
    refine lv_iconst (v := 0) hx hb dX2_open_31 (by decide) ?_
    refine aIs C hO 29 cW_29 (i_in (X := 1) rfl (by omega) (by omega)) cW_s29 dX2_open_32 (fun H locs hO => ?_)
    have hJ := CJsA hO hJ
    refine lv_aload_n hx hb dX2_open_33 rfl (lv_at hl 0 rfl) ?_
    refine gf_RX2_9 (v := .ref (a 29)) C hO 28 cW_28 rfl dX2_open_34 ?_
    refine lv_iconst (v := 2) hx hb dX2_open_37 (by decide) ?_
    refine lv_iconst (v := 0) hx hb dX2_open_38 (by decide) ?_
    refine aIs C hO 29 cW_29 (i_in (X := 2) rfl (by omega) (by omega)) cW_s29 dX2_open_39 (fun H locs hO => ?_)
    have hJ := CJsA hO hJ
    refine lv_aload_n hx hb dX2_open_40 rfl (lv_at hl 0 rfl) ?_
    refine gf_RX2_9 (v := .ref (a 29)) C hO 28 cW_28 rfl dX2_open_41 ?_
    refine lv_iconst (v := 3) hx hb dX2_open_44 (by decide) ?_
    refine lv_aload_n hx hb dX2_open_45 rfl (lv_at hl 1 rfl) ?_
    refine gf_RX2_28 (v := .int (fI u1 15 16)) C hO 15 cW_15 rfl dX2_open_46 ?_
    refine aIs C hO 29 cW_29 (i_in (X := 3) rfl (by omega) (by omega)) cW_s29 dX2_open_49 (fun H locs hO => ?_)
    have hJ := CJsA hO hJ
    refine lv_aload_n hx hb dX2_open_50 rfl (lv_at hl 0 rfl) ?_
    refine gf_RX2_9 (v := .ref (a 29)) C hO 28 cW_28 rfl dX2_open_51 ?_
    refine lv_iconst (v := 4) hx hb dX2_open_54 (by decide) ?_
    refine lv_aload_n hx hb dX2_open_55 rfl (lv_at hl 1 rfl) ?_
    refine gf_RX2_31 (v := .int (fI u1 15 13)) C hO 15 cW_15 rfl dX2_open_56 ?_
    refine aIs C hO 29 cW_29 (i_in (X := 4) rfl (by omega) (by omega)) cW_s29 dX2_open_59 (fun H locs hO => ?_)
    have hJ := CJsA hO hJ
    refine lv_iconst (v := 0) hx hb dX2_open_60 (by decide) ?_
    refine lv_istore_n (lv' := [(2, .int 0), (0, .ref (a 28)), (1, .ref (a 15))]) hx hb dX2_open_61 rfl hl (by decide) rfl (fun ls hl => ?_)
    have LP_62_k19 : ∀ (n : Nat) (u18 : St) (H : Heap) (locs : List Loc) (ls : Array Slot) (i_k19 : Int32), Wo D A (cW cy a u18) s.heap H locs → lv_has ls 3 [(2, .int i_k19), (0, .ref (a 28)), (1, .ref (a 15))] → CJ a u18 → KT1 u u18 → fR u18 0 = a 15 → 0 ≤ i_k19.toInt ∧ i_k19.toInt ≤ 6 → 6 - i_k19.toInt < (n : Int) → W p l e (rmo 0 0) s m [.ref (a 28), .ref (a 15)].toArray below meth c H locs 0 0 Q (F0 m 62 ls []) := by
      intro n
      induction n with
      | zero =>
        intro u18 H locs ls i_k19 hO hl hJ hT hW iv0_k19 hm_k19
        exact absurd hm_k19 (by omega)
      | succ n ih_k19 =>
        intro u18 H locs ls i_k19 hO hl hJ hT hW iv0_k19 hm_k19
        refine lv_iload_n hx hb dX2_open_62 rfl (lv_at hl 0 rfl) ?_
        refine lv_bipush (v := 6) hx hb dX2_open_63 (by decide) ?_
        refine cs_ge (tgt := 130) (X := (i_k19).toInt) (Y := 6) hx hb dX2_open_65 (by decide) rfl rfl (fun c20 => ?_) (fun c20 => ?_)
        · refine hret _ _ _ _ _ dX2_open_130 ?_ hO
          exact ⟨hJ, hT, hW⟩
        · refine lv_aload_n hx hb dX2_open_68 rfl (lv_at hl 1 rfl) ?_
          refine gf_RX2_9 (v := .ref (a 29)) C hO 28 cW_28 rfl dX2_open_69 ?_
          refine lv_iconst (v := 5) hx hb dX2_open_72 (by decide) ?_
          refine lv_iload_n hx hb dX2_open_73 rfl (lv_at hl 0 rfl) ?_
          have e21 : ((5 + i_k19)).toInt = 5 + (i_k19).toInt := i_add rfl rfl (by omega)
          refine lv_iadd hx hb dX2_open_74 ?_
          refine lv_iconst (v := 0) hx hb dX2_open_75 (by decide) ?_
          refine aIs C hO 29 cW_29 (i_in (X := (5 + (i_k19).toInt)) e21 (by omega) (by omega)) cW_s29 dX2_open_76 (fun H locs hO => ?_)
          have hJ := CJsA hO hJ
          refine lv_aload_n hx hb dX2_open_77 rfl (lv_at hl 1 rfl) ?_
          refine gf_RX2_9 (v := .ref (a 29)) C hO 28 cW_28 rfl dX2_open_78 ?_
          refine lv_bipush (v := 11) hx hb dX2_open_81 (by decide) ?_
          refine lv_iload_n hx hb dX2_open_83 rfl (lv_at hl 0 rfl) ?_
          have e22 : ((11 + i_k19)).toInt = 11 + (i_k19).toInt := i_add rfl rfl (by omega)
          refine lv_iadd hx hb dX2_open_84 ?_
          refine lv_iload_n hx hb dX2_open_85 rfl (lv_at hl 0 rfl) ?_
          refine lv_aload_n hx hb dX2_open_86 rfl (lv_at hl 2 rfl) ?_
          have g23 : 0 ≤ (fI u18 15 12).toInt ∧ (fI u18 15 12).toInt ≤ 6 := by have h := CJ_15_12 hJ; exact h
          refine gf_RX2_34 (v := .int (fI u18 15 12)) C hO 15 cW_15 rfl dX2_open_87 ?_
          refine cs_ge (tgt := 102) (X := (i_k19).toInt) (Y := ((fI u18 15 12)).toInt) hx hb dX2_open_90 (by decide) rfl rfl (fun c24 => ?_) (fun c24 => ?_)
          · refine lv_iconst (v := 0) hx hb dX2_open_102 (by decide) ?_
            refine aIs C hO 29 cW_29 (i_in (X := (11 + (i_k19).toInt)) e22 (by omega) (by omega)) cW_s29 dX2_open_103 (fun H locs hO => ?_)
            have hJ := CJsA hO hJ
            refine lv_aload_n hx hb dX2_open_104 rfl (lv_at hl 1 rfl) ?_
            refine gf_RX2_9 (v := .ref (a 29)) C hO 28 cW_28 rfl dX2_open_105 ?_
            refine lv_bipush (v := 17) hx hb dX2_open_108 (by decide) ?_
            refine lv_iload_n hx hb dX2_open_110 rfl (lv_at hl 0 rfl) ?_
            have e25 : ((17 + i_k19)).toInt = 17 + (i_k19).toInt := i_add rfl rfl (by omega)
            refine lv_iadd hx hb dX2_open_111 ?_
            refine lv_iconst (v := 0) hx hb dX2_open_112 (by decide) ?_
            refine aIs C hO 29 cW_29 (i_in (X := (17 + (i_k19).toInt)) e25 (by omega) (by omega)) cW_s29 dX2_open_113 (fun H locs hO => ?_)
            have hJ := CJsA hO hJ
            refine lv_aload_n hx hb dX2_open_114 rfl (lv_at hl 1 rfl) ?_
            refine gf_RX2_9 (v := .ref (a 29)) C hO 28 cW_28 rfl dX2_open_115 ?_
            refine lv_bipush (v := 23) hx hb dX2_open_118 (by decide) ?_
            refine lv_iload_n hx hb dX2_open_120 rfl (lv_at hl 0 rfl) ?_
            have e26 : ((23 + i_k19)).toInt = 23 + (i_k19).toInt := i_add rfl rfl (by omega)
            refine lv_iadd hx hb dX2_open_121 ?_
            refine lv_iconst (v := 0) hx hb dX2_open_122 (by decide) ?_
            refine aIs C hO 29 cW_29 (i_in (X := (23 + (i_k19).toInt)) e26 (by omega) (by omega)) cW_s29 dX2_open_123 (fun H locs hO => ?_)
            have hJ := CJsA hO hJ
            have e27 : ((i_k19 + 1)).toInt = (i_k19).toInt + 1 := i_add rfl rfl (by omega)
            refine lv_iinc (v := (i_k19 + 1)) (lv' := [(2, .int (i_k19 + 1)), (0, .ref (a 28)), (1, .ref (a 15))]) hx hb dX2_open_124 hl (k := 0) rfl rfl (by decide) rfl (fun ls hl => ?_)
            refine lv_goto (tgt := 62) hx hb dX2_open_127 (by decide) ?_
            exact ih_k19 _ _ _ _ ((i_k19 + 1)) hO (lv_sub hl [0, 1, 2] rfl) (by exact hJ) (by exact hT) (by exact hW) (by first | decide | omega) (by first | decide | omega)
          · refine lv_aload_n hx hb dX2_open_93 rfl (lv_at hl 2 rfl) ?_
            refine gf_RX2_37 (v := .ref (a 23)) C hO 15 cW_15 rfl dX2_open_94 ?_
            refine lv_iload_n hx hb dX2_open_97 rfl (lv_at hl 0 rfl) ?_
            refine aI C hO 23 cW_23 (i_in (X := (i_k19).toInt) rfl (by omega) (by omega)) dX2_open_98 ?_
            refine lv_topi (fun w28 ew28 => ?_)
            refine lv_goto (tgt := 103) hx hb dX2_open_99 (by decide) ?_
            refine aIs C hO 29 cW_29 (i_in (X := (11 + (i_k19).toInt)) e22 (by omega) (by omega)) cW_s29 dX2_open_103 (fun H locs hO => ?_)
            have hJ := CJsA hO hJ
            refine lv_aload_n hx hb dX2_open_104 rfl (lv_at hl 1 rfl) ?_
            refine gf_RX2_9 (v := .ref (a 29)) C hO 28 cW_28 rfl dX2_open_105 ?_
            refine lv_bipush (v := 17) hx hb dX2_open_108 (by decide) ?_
            refine lv_iload_n hx hb dX2_open_110 rfl (lv_at hl 0 rfl) ?_
            have e29 : ((17 + i_k19)).toInt = 17 + (i_k19).toInt := i_add rfl rfl (by omega)
            refine lv_iadd hx hb dX2_open_111 ?_
            refine lv_iconst (v := 0) hx hb dX2_open_112 (by decide) ?_
            refine aIs C hO 29 cW_29 (i_in (X := (17 + (i_k19).toInt)) e29 (by omega) (by omega)) cW_s29 dX2_open_113 (fun H locs hO => ?_)
            have hJ := CJsA hO hJ
            refine lv_aload_n hx hb dX2_open_114 rfl (lv_at hl 1 rfl) ?_
            refine gf_RX2_9 (v := .ref (a 29)) C hO 28 cW_28 rfl dX2_open_115 ?_
            refine lv_bipush (v := 23) hx hb dX2_open_118 (by decide) ?_
            refine lv_iload_n hx hb dX2_open_120 rfl (lv_at hl 0 rfl) ?_
            have e30 : ((23 + i_k19)).toInt = 23 + (i_k19).toInt := i_add rfl rfl (by omega)
            refine lv_iadd hx hb dX2_open_121 ?_
            refine lv_iconst (v := 0) hx hb dX2_open_122 (by decide) ?_
            refine aIs C hO 29 cW_29 (i_in (X := (23 + (i_k19).toInt)) e30 (by omega) (by omega)) cW_s29 dX2_open_123 (fun H locs hO => ?_)
            have hJ := CJsA hO hJ
            have e31 : ((i_k19 + 1)).toInt = (i_k19).toInt + 1 := i_add rfl rfl (by omega)
            refine lv_iinc (v := (i_k19 + 1)) (lv' := [(2, .int (i_k19 + 1)), (0, .ref (a 28)), (1, .ref (a 15))]) hx hb dX2_open_124 hl (k := 0) rfl rfl (by decide) rfl (fun ls hl => ?_)
            refine lv_goto (tgt := 62) hx hb dX2_open_127 (by decide) ?_
            exact ih_k19 _ _ _ _ ((i_k19 + 1)) hO (lv_sub hl [0, 1, 2] rfl) (by exact hJ) (by exact hT) (by exact hW) (by first | decide | omega) (by first | decide | omega)
    exact LP_62_k19 4000 _ _ _ _ (0) hO (lv_sub hl [0, 1, 2] rfl) (by exact hJ) (by exact hT) (by exact hW) (by first | decide | omega) (by first | decide | omega)
set_option maxHeartbeats 4000000 in
set_option maxRecDepth 100000 in
theorem T_X0_clear_j (l : Launch) (D : va_G) (cy : Nat → ClassId) (a : Nat → Nat) (u : St) (hJ : CJ a u)   : Mv l D cy (cW cy a) yX0_clear (.code yX0_clear cX0_clear 1 none) (rmo 0 0) [.ref (a 30)] u (fun (u' : St) => (CJ a u') ∧ (KTR u u')) := by
  refine Mv.of (own := RX0) rfl (by decide) (Nat.le_of_ble_eq_true rfl) ?_
  have hT : KTR u u := KTR.rf
  intro p e s m below meth c A Q ls C hret hO hl
  obtain ⟨hx, hb, hml, hown, ht, hK, hA⟩ := id C
  have hl : lv_has ls 1 [(0, .ref (a 30))] := hl
  refine lv_aload_n hx hb dX0_clear_0 rfl (lv_at hl 0 rfl) ?_
  refine lv_iconst (v := 0) hx hb dX0_clear_1 (by decide) ?_
  refine pf_RX0_16 C hO 30 cW_30 (Nat.le_of_ble_eq_true rfl) cW_s30_2 dX0_clear_2 (fun H locs hO => ?_)
  have g1 : 0 ≤ (fI u 30 3).toInt ∧ (fI u 30 3).toInt ≤ 40 := by have h := CJ_30_3 hJ; exact h
  have hJ := CJs_30_2 (v := 0) hJ ((show 0 ≤ (0 : Int32).toInt ∧ (0 : Int32).toInt + ((fI u 30 3) : Int32).toInt ≤ 40 from by first | decide | omega | (have z0 : (0 : Int32).toInt = 0 := rfl; omega)))
  refine lv_aload_n hx hb dX0_clear_5 rfl (lv_at hl 0 rfl) ?_
  refine lv_iconst (v := 0) hx hb dX0_clear_6 (by decide) ?_
  refine pf_RX0_20 C hO 30 cW_30 (Nat.le_of_ble_eq_true rfl) cW_s30_3 dX0_clear_7 (fun H locs hO => ?_)
  have hJ := CJs_30_3 (v := 0) hJ ((show 0 ≤ (0 : Int32).toInt ∧ (0 : Int32).toInt + (0 : Int32).toInt ≤ 40 from by first | decide | omega | (have z0 : (0 : Int32).toInt = 0 := rfl; omega)))
  refine hret _ _ _ _ _ dX0_clear_10 ?_ hO
  exact ⟨hJ, hT⟩
set_option maxHeartbeats 4000000 in
set_option maxRecDepth 100000 in
theorem T_X3_clear_j (l : Launch) (D : va_G) (cy : Nat → ClassId) (a : Nat → Nat) (u : St) (hJ : CJ a u)   : Mv l D cy (cW cy a) yX3_clear (.code yX3_clear cX3_clear 1 none) (rmo 0 0) [.ref (a 39)] u (fun (u' : St) => (CJ a u') ∧ (KTR u u')) := by
  refine Mv.of (own := RX3) rfl (by decide) (Nat.le_of_ble_eq_true rfl) ?_
  have hT : KTR u u := KTR.rf
  intro p e s m below meth c A Q ls C hret hO hl
  obtain ⟨hx, hb, hml, hown, ht, hK, hA⟩ := id C
  have hl : lv_has ls 1 [(0, .ref (a 39))] := hl
  refine lv_aload_n hx hb dX3_clear_0 rfl (lv_at hl 0 rfl) ?_
  refine lv_iconst (v := 0) hx hb dX3_clear_1 (by decide) ?_
  refine pf_RX3_28 C hO 39 cW_39 (Nat.le_of_ble_eq_true rfl) cW_s39_5 dX3_clear_2 (fun H locs hO => ?_)
  have hJ := CJs_39_5 (v := 0) hJ (by first | decide | omega)
  refine hret _ _ _ _ _ dX3_clear_5 ?_ hO
  exact ⟨hJ, hT⟩
theorem dX10_web_0 : decode cX10_web 0 = .ok (.aload_n 0, 1) := by decide +kernel
theorem dX10_web_1 : decode cX10_web 1 = .ok (.getfield 28, 3) := by decide +kernel
theorem dX10_web_4 : decode cX10_web 4 = .ok (.aload_n 0, 1) := by decide +kernel
theorem dX10_web_5 : decode cX10_web 5 = .ok (.getfield 19, 3) := by decide +kernel
theorem dX10_web_8 : decode cX10_web 8 = .ok (.invokevirtual 97, 3) := by decide +kernel
theorem dX10_web_11 : decode cX10_web 11 = .ok (.ifCond .ne 5, 3) := by decide +kernel
theorem dX10_web_14 : decode cX10_web 14 = .ok (.iconst (-1), 1) := by decide +kernel
theorem dX10_web_15 : decode cX10_web 15 = .ok (.ireturn, 1) := by decide +kernel
theorem dX10_web_16 : decode cX10_web 16 = .ok (.aload_n 0, 1) := by decide +kernel
theorem dX10_web_17 : decode cX10_web 17 = .ok (.getfield 37, 3) := by decide +kernel
theorem dX10_web_20 : decode cX10_web 20 = .ok (.getfield 101, 3) := by decide +kernel
theorem dX10_web_23 : decode cX10_web 23 = .ok (.astore_n 1, 1) := by decide +kernel
theorem dX10_web_24 : decode cX10_web 24 = .ok (.aload_n 0, 1) := by decide +kernel
theorem dX10_web_25 : decode cX10_web 25 = .ok (.getfield 37, 3) := by decide +kernel
theorem dX10_web_28 : decode cX10_web 28 = .ok (.aload_n 0, 1) := by decide +kernel
theorem dX10_web_29 : decode cX10_web 29 = .ok (.getfield 19, 3) := by decide +kernel
theorem dX10_web_32 : decode cX10_web 32 = .ok (.invokevirtual 104, 3) := by decide +kernel
theorem dX10_web_35 : decode cX10_web 35 = .ok (.aload_n 0, 1) := by decide +kernel
theorem dX10_web_36 : decode cX10_web 36 = .ok (.aload_n 1, 1) := by decide +kernel
theorem dX10_web_37 : decode cX10_web 37 = .ok (.putfield 19, 3) := by decide +kernel
theorem dX10_web_40 : decode cX10_web 40 = .ok (.aload_n 0, 1) := by decide +kernel
theorem dX10_web_41 : decode cX10_web 41 = .ok (.getfield 12, 3) := by decide +kernel
theorem dX10_web_44 : decode cX10_web 44 = .ok (.iconst 0, 1) := by decide +kernel
theorem dX10_web_45 : decode cX10_web 45 = .ok (.putfield 89, 3) := by decide +kernel
theorem dX10_web_48 : decode cX10_web 48 = .ok (.aload_n 0, 1) := by decide +kernel
theorem dX10_web_49 : decode cX10_web 49 = .ok (.getfield 44, 3) := by decide +kernel
theorem dX10_web_52 : decode cX10_web 52 = .ok (.invokevirtual 107, 3) := by decide +kernel
theorem dX10_web_55 : decode cX10_web 55 = .ok (.aload_n 0, 1) := by decide +kernel
theorem dX10_web_56 : decode cX10_web 56 = .ok (.getfield 76, 3) := by decide +kernel
theorem dX10_web_59 : decode cX10_web 59 = .ok (.invokevirtual 110, 3) := by decide +kernel
theorem dX10_web_62 : decode cX10_web 62 = .ok (.aload_n 0, 1) := by decide +kernel
theorem dX10_web_63 : decode cX10_web 63 = .ok (.iconst 0, 1) := by decide +kernel
theorem dX10_web_64 : decode cX10_web 64 = .ok (.putfield 111, 3) := by decide +kernel
theorem dX10_web_67 : decode cX10_web 67 = .ok (.aload_n 0, 1) := by decide +kernel
theorem dX10_web_68 : decode cX10_web 68 = .ok (.iconst 0, 1) := by decide +kernel
theorem dX10_web_69 : decode cX10_web 69 = .ok (.putfield 114, 3) := by decide +kernel
theorem dX10_web_72 : decode cX10_web 72 = .ok (.aload_n 0, 1) := by decide +kernel
theorem dX10_web_73 : decode cX10_web 73 = .ok (.getfield 37, 3) := by decide +kernel
theorem dX10_web_76 : decode cX10_web 76 = .ok (.getfield 101, 3) := by decide +kernel
theorem dX10_web_79 : decode cX10_web 79 = .ok (.getfield 117, 3) := by decide +kernel
theorem dX10_web_82 : decode cX10_web 82 = .ok (.ireturn, 1) := by decide +kernel
theorem wd_523 : (Cond.code ⟨"WebCourt", "web", "()I"⟩ prog_1_method_4_code (2 : Nat) (Option.some FieldType.int)) ∈ gtb := gtb_c2 174 (by decide +kernel) rfl
theorem wd_480 : (Cond.fieldLink "WebCourt" (19 : Nat) "WebCourt" "draft" "LWebCourt$Web;") ∈ gtb := gtb_c2 131 (by decide +kernel) rfl
theorem gf_RX10_19 {p : Program} {l : Launch} {e : Env} {R : Room} {s : State} {m : MethodId} {args : Array Value} {below : List Frame} {meth : Method} {c : Code} {H : Heap} {locs : List Loc} {cells slots : Nat} {Q : State → Prop} {cc : ByteArray} {pc nL : Nat} {ls : Array Slot} {rest : List Value} {D : va_G} {cy : Nat → ClassId} {A : Nat → Prop} {ws : va_W} {b : Nat} {fs : List Value} {v : Value} (C : Cx p s m args c cc nL RX10 D cy A) (hO : Wo D A ws s.heap H locs) (q0 : Nat) (he : ws[q0]? = some (b, .inr (10, fs))) (hv : fs[12]? = some v) (hdg : decode cc pc = .ok (.getfield 19, 3)) (kk : W p l e R s m args below meth c H locs cells slots Q (F0 m (pc + 3) ls (v :: rest))) : W p l e R s m args below meth c H locs cells slots Q (F0 m pc ls (.ref b :: rest)) := gF (k := 12) C hO q0 he rfl inFX10 (by decide) wd_480 rfl hv hdg kk
theorem wd_524 : (Cond.methodLink "WebCourt" (97 : Nat) ⟨"WebCourt$Reader", "read", "(LWebCourt$Web;)Z"⟩) ∈ gtb := gtb_c2 175 (by decide +kernel) rfl
theorem wd_525 : (Cond.instanceMethod ⟨"WebCourt$Reader", "read", "(LWebCourt$Web;)Z"⟩) ∈ gtb := gtb_c2 176 (by decide +kernel) rfl
theorem wd_526 : (Cond.selects "WebCourt$Reader" ⟨"WebCourt$Reader", "read", "(LWebCourt$Web;)Z"⟩ ⟨"WebCourt$Reader", "read", "(LWebCourt$Web;)Z"⟩) ∈ gtb := gtb_c2 177 (by decide +kernel) rfl
theorem hd_yX5_read : yX5_read.cls = RX5 ∧ yX5_read.cls ≠ "java/lang/invoke/MethodHandle" ∧ yX5_read.cls ≠ "java/lang/invoke/VarHandle" ∧ (parseMethodDescriptor yX5_read.desc).map (fun d => d.parameters.length) = some 1 := by decide +kernel
theorem wd_797 : (Cond.methodLink "WebCourt" (104 : Nat) ⟨"WebCourt$Court", "open", "(LWebCourt$Web;)V"⟩) ∈ gtb := gtb_c3 208 (by decide +kernel) rfl
theorem wd_798 : (Cond.instanceMethod ⟨"WebCourt$Court", "open", "(LWebCourt$Web;)V"⟩) ∈ gtb := gtb_c3 209 (by decide +kernel) rfl
theorem wd_799 : (Cond.selects "WebCourt$Court" ⟨"WebCourt$Court", "open", "(LWebCourt$Web;)V"⟩ ⟨"WebCourt$Court", "open", "(LWebCourt$Web;)V"⟩) ∈ gtb := gtb_c3 210 (by decide +kernel) rfl
theorem hd_yX2_open : yX2_open.cls = RX2 ∧ yX2_open.cls ≠ "java/lang/invoke/MethodHandle" ∧ yX2_open.cls ≠ "java/lang/invoke/VarHandle" ∧ (parseMethodDescriptor yX2_open.desc).map (fun d => d.parameters.length) = some 1 := by decide +kernel
theorem pf_RX10_19 {p : Program} {l : Launch} {e : Env} {R : Room} {s : State} {m : MethodId} {args : Array Value} {below : List Frame} {meth : Method} {c : Code} {H : Heap} {locs : List Loc} {cells slots : Nat} {Q : State → Prop} {cc : ByteArray} {pc nL : Nat} {ls : Array Slot} {rest : List Value} {D : va_G} {cy : Nat → ClassId} {A : Nat → Prop} {ws : va_W} {b : Nat} {fs : List Value} {v : Nat} {ws' : va_W} (C : Cx p s m args c cc nL RX10 D cy A) (hO : Wo D A ws s.heap H locs) (q0 : Nat) (he : ws[q0]? = some (b, .inr (10, fs))) (hlen : 12 < fs.length) (hw : ws.set q0 (b, .inr (10, fs.set 12 (.ref v))) = ws') (hdg : decode cc pc = .ok (.putfield 19, 3)) (kk : ∀ (H : Heap) (locs : List Loc), Wo D A ws' s.heap H locs → W p l e R s m args below meth c H locs cells slots Q (F0 m (pc + 3) ls rest)) : W p l e R s m args below meth c H locs cells slots Q (F0 m pc ls (.ref v :: .ref b :: rest)) := pF (k := 12) (ty := .object "WebCourt$Web") C hO q0 he rfl inFX10 (by decide) wd_480 rfl tyX10 tyX10_ok nmX10 rfl (by decide +kernel) rfl rfl hlen hw hdg kk
theorem wd_805 : (Cond.methodLink "WebCourt" (110 : Nat) ⟨"WebCourt$Hearsay", "clear", "()V"⟩) ∈ gtb := gtb_c3 216 (by decide +kernel) rfl
theorem wd_806 : (Cond.instanceMethod ⟨"WebCourt$Hearsay", "clear", "()V"⟩) ∈ gtb := gtb_c3 217 (by decide +kernel) rfl
theorem wd_807 : (Cond.selects "WebCourt$Hearsay" ⟨"WebCourt$Hearsay", "clear", "()V"⟩ ⟨"WebCourt$Hearsay", "clear", "()V"⟩) ∈ gtb := gtb_c3 218 (by decide +kernel) rfl
theorem hd_yX3_clear : yX3_clear.cls = RX3 ∧ yX3_clear.cls ≠ "java/lang/invoke/MethodHandle" ∧ yX3_clear.cls ≠ "java/lang/invoke/VarHandle" ∧ (parseMethodDescriptor yX3_clear.desc).map (fun d => d.parameters.length) = some 0 := by decide +kernel
set_option maxHeartbeats 4000000 in
set_option maxRecDepth 100000 in
theorem T_X10_web (l : Launch) (D : va_G) (cy : Nat → ClassId) (a : Nat → Nat) (u : St) (hJ : CI a u)   : Mi l D cy (cW cy a) yX10_web (.code yX10_web cX10_web 2 (some .int)) (rmo 63 1433) [.ref (a 0)] u (fun (r : Int32) (u' : St) => (CJ a u') ∧ (KT u u') ∧ ((fR u' 0 = a 3 ∧ fR u' 1 = a 15) ∨ (fR u' 0 = a 15 ∧ fR u' 1 = a 3))) := by
  refine Mi.of (own := RX10) rfl (by decide) (Nat.le_of_ble_eq_true rfl) ?_
  have hT : KT u u := KT.rf
  intro p e s m below meth c A Q ls C hret hO hl
  obtain ⟨hx, hb, hml, hown, ht, hK, hA⟩ := id C
  have hl : lv_has ls 2 [(0, .ref (a 0))] := hl
  refine lv_aload_n hx hb dX10_web_0 rfl (lv_at hl 0 rfl) ?_
  refine gf_RX10_28 (v := .ref (a 27)) C hO 0 cW_0 rfl dX10_web_1 ?_
  refine lv_aload_n hx hb dX10_web_4 rfl (lv_at hl 0 rfl) ?_
  refine gf_RX10_19 (v := .ref (a 15)) C hO 0 cW_0 (congrArg (fun z : Nat => some (Value.ref z)) (CI_R1 hJ)) dX10_web_5 ?_
  refine cVi (w := cW cy a) (As := [.ref (a 15)]) (rest := []) C hO (T_X5_read l D cy a _ (by exact hJ)) (cwV 1 ht (gV wd_524 wd_525 wd_526 wd_114 wd_527) rfl rfl rfl hd_yX5_read ⟨Nat.le_of_ble_eq_true rfl, Nat.le_of_ble_eq_true rfl⟩) 27 rfl cW_27 rfl rfl hl.1 (Nat.le_of_ble_eq_true rfl) dX10_web_8 rfl ⟨Nat.zero_le _, Nat.zero_le _⟩ (fun r1 u2 H locs hp3 hO => ?_)
  obtain ⟨hr1, hJ, hTu2⟩ := hp3
  have gr1 : 0 ≤ r1.toInt ∧ r1.toInt ≤ 1 := by rcases hr1 with h | h <;> rw [h] <;> decide
  have hT : KT u u2 := KT.tr (by exact hT) hTu2
  refine bs_ne (tgt := 16) (X := (r1).toInt) hx hb dX10_web_11 (by decide) rfl (fun c4 => ?_) (fun c4 => ?_)
  · refine lv_aload_n hx hb dX10_web_16 rfl (lv_at hl 0 rfl) ?_
    refine gf_RX10_37 (v := .ref (a 28)) C hO 0 cW_0 rfl dX10_web_17 ?_
    refine gf_RX10_101 (v := .ref (a 3)) C hO 28 cW_28 (congrArg (fun z : Nat => some (Value.ref z)) (CI_R0 hJ)) dX10_web_20 ?_
    refine lv_astore_n (lv' := [(1, .ref (a 3)), (0, .ref (a 0))]) hx hb dX10_web_23 rfl hl (by decide) rfl (fun ls hl => ?_)
    refine lv_aload_n hx hb dX10_web_24 rfl (lv_at hl 1 rfl) ?_
    refine gf_RX10_37 (v := .ref (a 28)) C hO 0 cW_0 rfl dX10_web_25 ?_
    refine lv_aload_n hx hb dX10_web_28 rfl (lv_at hl 1 rfl) ?_
    refine gf_RX10_19 (v := .ref (a 15)) C hO 0 cW_0 (congrArg (fun z : Nat => some (Value.ref z)) (CI_R1 hJ)) dX10_web_29 ?_
    refine cVv (w := cW cy a) (As := [.ref (a 15)]) (rest := []) C hO (T_X2_open l D cy a _ (by exact CI.j hJ)) (cwV 1 ht (gV wd_797 wd_798 wd_799 wd_115 wd_800) rfl rfl rfl hd_yX2_open ⟨Nat.le_of_ble_eq_true rfl, Nat.le_of_ble_eq_true rfl⟩) 28 rfl cW_28 rfl rfl hl.1 (Nat.le_of_ble_eq_true rfl) dX10_web_32 rfl ⟨Nat.zero_le _, Nat.zero_le _⟩ (fun u6 H locs hp7 hO => ?_)
    have hq1_u6 := (CI_R1 hJ)
    obtain ⟨hJ, hTu6, hx0u6⟩ := hp7
    have hT : KT u u6 := KT.tr (by exact hT) hTu6.1
    have hR1_u6 : fR u6 1 = a 15 := Eq.trans (hTu6.2) (hq1_u6)
    refine lv_aload_n hx hb dX10_web_35 rfl (lv_at hl 1 rfl) ?_
    refine lv_aload_n hx hb dX10_web_36 rfl (lv_at hl 0 rfl) ?_
    refine pf_RX10_19 C hO 0 cW_0 (Nat.le_of_ble_eq_true rfl) cW_s0_12 dX10_web_37 (fun H locs hO => ?_)
    have hJ := CJsR (k := 1) (v := (a 3)) hJ
    refine lv_aload_n hx hb dX10_web_40 rfl (lv_at hl 1 rfl) ?_
    refine gf_RX10_12 (v := .ref (a 1)) C hO 0 cW_0 rfl dX10_web_41 ?_
    refine lv_iconst (v := 0) hx hb dX10_web_44 (by decide) ?_
    refine pf_RX10_89 C hO 1 cW_1 (Nat.le_of_ble_eq_true rfl) cW_s1_1 dX10_web_45 (fun H locs hO => ?_)
    have hJ := CJs_1_1 (v := 0) hJ (by first | decide | omega)
    refine lv_aload_n hx hb dX10_web_48 rfl (lv_at hl 1 rfl) ?_
    refine gf_RX10_44 (v := .ref (a 30)) C hO 0 cW_0 rfl dX10_web_49 ?_
    refine cVv (w := cW cy a) (As := []) (rest := []) C hO (T_X0_clear_j l D cy a _ (by exact hJ)) (cwV 0 ht (gV wd_801 wd_802 wd_803 wd_116 wd_804) rfl rfl rfl hd_yX0_clear ⟨Nat.le_of_ble_eq_true rfl, Nat.le_of_ble_eq_true rfl⟩) 30 rfl cW_30 rfl rfl hl.1 (Nat.le_of_ble_eq_true rfl) dX10_web_52 rfl ⟨Nat.zero_le _, Nat.zero_le _⟩ (fun u9 H locs hp10 hO => ?_)
    have hq0_u9 := hx0u6
    obtain ⟨hJ, hTu9⟩ := hp10
    have hT : KT u u9 := KT.tr (by exact hT) hTu9.1
    have hR0_u9 : fR u9 0 = a 15 := Eq.trans (hTu9.2.1) (hq0_u9)
    have hR1_u9 : fR u9 1 = a 3 := Eq.trans (hTu9.2.2) (rfl)
    refine lv_aload_n hx hb dX10_web_55 rfl (lv_at hl 1 rfl) ?_
    refine gf_RX10_76 (v := .ref (a 39)) C hO 0 cW_0 rfl dX10_web_56 ?_
    refine cVv (w := cW cy a) (As := []) (rest := []) C hO (T_X3_clear_j l D cy a _ (by exact hJ)) (cwV 0 ht (gV wd_805 wd_806 wd_807 wd_120 wd_808) rfl rfl rfl hd_yX3_clear ⟨Nat.le_of_ble_eq_true rfl, Nat.le_of_ble_eq_true rfl⟩) 39 rfl cW_39 rfl rfl hl.1 (Nat.le_of_ble_eq_true rfl) dX10_web_59 rfl ⟨Nat.zero_le _, Nat.zero_le _⟩ (fun u12 H locs hp13 hO => ?_)
    have hq0_u12 := hR0_u9
    have hq1_u12 := hR1_u9
    obtain ⟨hJ, hTu12⟩ := hp13
    have hT : KT u u12 := KT.tr (by exact hT) hTu12.1
    have hR0_u12 : fR u12 0 = a 15 := Eq.trans (hTu12.2.1) (hq0_u12)
    have hR1_u12 : fR u12 1 = a 3 := Eq.trans (hTu12.2.2) (hq1_u12)
    refine lv_aload_n hx hb dX10_web_62 rfl (lv_at hl 1 rfl) ?_
    refine lv_iconst (v := 0) hx hb dX10_web_63 (by decide) ?_
    refine pf_RX10_111 C hO 0 cW_0 (Nat.le_of_ble_eq_true rfl) cW_s0_10 dX10_web_64 (fun H locs hO => ?_)
    have hJ := CJs_0_10 (v := 0) hJ (by first | decide | omega)
    refine lv_aload_n hx hb dX10_web_67 rfl (lv_at hl 1 rfl) ?_
    refine lv_iconst (v := 0) hx hb dX10_web_68 (by decide) ?_
    refine pf_RX10_114 C hO 0 cW_0 (Nat.le_of_ble_eq_true rfl) cW_s0_11 dX10_web_69 (fun H locs hO => ?_)
    have hJ := CJs_0_11 (v := 0) hJ
    refine lv_aload_n hx hb dX10_web_72 rfl (lv_at hl 1 rfl) ?_
    refine gf_RX10_37 (v := .ref (a 28)) C hO 0 cW_0 rfl dX10_web_73 ?_
    refine gf_RX10_101 (v := .ref (a 15)) C hO 28 cW_28 (congrArg (fun z : Nat => some (Value.ref z)) hR0_u12) dX10_web_76 ?_
    have g14 : 0 ≤ (fI u12 15 12).toInt ∧ (fI u12 15 12).toInt ≤ 6 := by have h := CJ_15_12 hJ; exact h
    refine gf_RX10_117 (v := .int (fI u12 15 12)) C hO 15 cW_15 rfl dX10_web_79 ?_
    refine hret _ _ _ _ _ _ dX10_web_82 rfl ?_ hO
    exact ⟨hJ, hT, Or.inr ⟨hR0_u12, hR1_u12⟩⟩
  · refine lv_iconst (v := (-1)) hx hb dX10_web_14 (by decide) ?_
    have hr0 := CI_R0 hJ
    have hr1 := CI_R1 hJ
    have hJ := CI.j hJ
    refine hret _ _ _ _ _ _ dX10_web_15 rfl ?_ hO
    exact ⟨hJ, hT, Or.inl ⟨hr0, hr1⟩⟩
