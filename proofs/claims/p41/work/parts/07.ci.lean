def rI (u : St) (q k : Nat) (lo hi : Int) : Prop := lo ≤ (fI u q k).toInt ∧ (fI u q k).toInt ≤ hi
def CI (a : Nat → Nat) (u : St) : Prop := rI u 0 10 0 8 ∧ rI u 1 1 0 1600 ∧ rI u 1 2 0 1600 ∧ rI u 3 9 0 8 ∧ rI u 3 10 0 14 ∧ rI u 3 11 0 8 ∧ rI u 3 12 0 6 ∧ rI u 12 2 0 300 ∧ rI u 12 3 0 31 ∧ rI u 15 9 0 8 ∧ rI u 15 10 0 14 ∧ rI u 15 11 0 8 ∧ rI u 15 12 0 6 ∧ rI u 24 2 0 300 ∧ rI u 24 3 0 31 ∧ rI u 30 1 0 40 ∧ rI u 30 2 0 40 ∧ rI u 30 3 0 40 ∧ rI u 39 5 0 30 ∧ rI u 39 6 0 100000 ∧ (fI u 30 2).toInt + (fI u 30 3).toInt ≤ 40 ∧ fR u 0 = a 3 ∧ fR u 1 = a 15
section
variable {a : Nat → Nat} {u : St}
theorem CI_0_10 (h : CI a u) : 0 ≤ (fI u 0 10).toInt ∧ (fI u 0 10).toInt ≤ 8 := h.1
theorem CI_1_1 (h : CI a u) : 0 ≤ (fI u 1 1).toInt ∧ (fI u 1 1).toInt ≤ 1600 := h.2.1
theorem CI_1_2 (h : CI a u) : 0 ≤ (fI u 1 2).toInt ∧ (fI u 1 2).toInt ≤ 1600 := h.2.2.1
theorem CI_3_9 (h : CI a u) : 0 ≤ (fI u 3 9).toInt ∧ (fI u 3 9).toInt ≤ 8 := h.2.2.2.1
theorem CI_3_10 (h : CI a u) : 0 ≤ (fI u 3 10).toInt ∧ (fI u 3 10).toInt ≤ 14 := h.2.2.2.2.1
theorem CI_3_11 (h : CI a u) : 0 ≤ (fI u 3 11).toInt ∧ (fI u 3 11).toInt ≤ 8 := h.2.2.2.2.2.1
theorem CI_3_12 (h : CI a u) : 0 ≤ (fI u 3 12).toInt ∧ (fI u 3 12).toInt ≤ 6 := h.2.2.2.2.2.2.1
theorem CI_12_2 (h : CI a u) : 0 ≤ (fI u 12 2).toInt ∧ (fI u 12 2).toInt ≤ 300 := h.2.2.2.2.2.2.2.1
theorem CI_12_3 (h : CI a u) : 0 ≤ (fI u 12 3).toInt ∧ (fI u 12 3).toInt ≤ 31 := h.2.2.2.2.2.2.2.2.1
theorem CI_15_9 (h : CI a u) : 0 ≤ (fI u 15 9).toInt ∧ (fI u 15 9).toInt ≤ 8 := h.2.2.2.2.2.2.2.2.2.1
theorem CI_15_10 (h : CI a u) : 0 ≤ (fI u 15 10).toInt ∧ (fI u 15 10).toInt ≤ 14 := h.2.2.2.2.2.2.2.2.2.2.1
theorem CI_15_11 (h : CI a u) : 0 ≤ (fI u 15 11).toInt ∧ (fI u 15 11).toInt ≤ 8 := h.2.2.2.2.2.2.2.2.2.2.2.1
theorem CI_15_12 (h : CI a u) : 0 ≤ (fI u 15 12).toInt ∧ (fI u 15 12).toInt ≤ 6 := h.2.2.2.2.2.2.2.2.2.2.2.2.1
theorem CI_24_2 (h : CI a u) : 0 ≤ (fI u 24 2).toInt ∧ (fI u 24 2).toInt ≤ 300 := h.2.2.2.2.2.2.2.2.2.2.2.2.2.1
theorem CI_24_3 (h : CI a u) : 0 ≤ (fI u 24 3).toInt ∧ (fI u 24 3).toInt ≤ 31 := h.2.2.2.2.2.2.2.2.2.2.2.2.2.2.1
theorem CI_30_1 (h : CI a u) : 0 ≤ (fI u 30 1).toInt ∧ (fI u 30 1).toInt ≤ 40 := h.2.2.2.2.2.2.2.2.2.2.2.2.2.2.2.1
theorem CI_30_2 (h : CI a u) : 0 ≤ (fI u 30 2).toInt ∧ (fI u 30 2).toInt ≤ 40 := h.2.2.2.2.2.2.2.2.2.2.2.2.2.2.2.2.1
theorem CI_30_3 (h : CI a u) : 0 ≤ (fI u 30 3).toInt ∧ (fI u 30 3).toInt ≤ 40 := h.2.2.2.2.2.2.2.2.2.2.2.2.2.2.2.2.2.1
theorem CI_39_5 (h : CI a u) : 0 ≤ (fI u 39 5).toInt ∧ (fI u 39 5).toInt ≤ 30 := h.2.2.2.2.2.2.2.2.2.2.2.2.2.2.2.2.2.2.1
theorem CI_39_6 (h : CI a u) : 0 ≤ (fI u 39 6).toInt ∧ (fI u 39 6).toInt ≤ 100000 := h.2.2.2.2.2.2.2.2.2.2.2.2.2.2.2.2.2.2.2.1
theorem CI_acts (h : CI a u) : (fI u 30 2).toInt + (fI u 30 3).toInt ≤ 40 := h.2.2.2.2.2.2.2.2.2.2.2.2.2.2.2.2.2.2.2.2.1
theorem CI_R0 (h : CI a u) : fR u 0 = a 3 := h.2.2.2.2.2.2.2.2.2.2.2.2.2.2.2.2.2.2.2.2.2.1
theorem CI_R1 (h : CI a u) : fR u 1 = a 15 := h.2.2.2.2.2.2.2.2.2.2.2.2.2.2.2.2.2.2.2.2.2.2
theorem CIs_0_10 {v : Int32} (h : CI a u) (hv : 0 ≤ v.toInt ∧ v.toInt ≤ 8) : CI a (sI u 0 10 v) := by
  obtain ⟨h0, h1, h2, h3, h4, h5, h6, h7, h8, h9, h10, h11, h12, h13, h14, h15, h16, h17, h18, h19, h20, h21, h22⟩ := h
  exact ⟨hv, h1, h2, h3, h4, h5, h6, h7, h8, h9, h10, h11, h12, h13, h14, h15, h16, h17, h18, h19, h20, h21, h22⟩
theorem CIs_0_11 {v : Int32} (h : CI a u) : CI a (sI u 0 11 v) := h
theorem CIs_1_1 {v : Int32} (h : CI a u) (hv : 0 ≤ v.toInt ∧ v.toInt ≤ 1600) : CI a (sI u 1 1 v) := by
  obtain ⟨h0, h1, h2, h3, h4, h5, h6, h7, h8, h9, h10, h11, h12, h13, h14, h15, h16, h17, h18, h19, h20, h21, h22⟩ := h
  exact ⟨h0, hv, h2, h3, h4, h5, h6, h7, h8, h9, h10, h11, h12, h13, h14, h15, h16, h17, h18, h19, h20, h21, h22⟩
theorem CIs_1_2 {v : Int32} (h : CI a u) (hv : 0 ≤ v.toInt ∧ v.toInt ≤ 1600) : CI a (sI u 1 2 v) := by
  obtain ⟨h0, h1, h2, h3, h4, h5, h6, h7, h8, h9, h10, h11, h12, h13, h14, h15, h16, h17, h18, h19, h20, h21, h22⟩ := h
  exact ⟨h0, h1, hv, h3, h4, h5, h6, h7, h8, h9, h10, h11, h12, h13, h14, h15, h16, h17, h18, h19, h20, h21, h22⟩
theorem CIs_1_3 {v : Int32} (h : CI a u) : CI a (sI u 1 3 v) := h
theorem CIs_1_4 {v : Int32} (h : CI a u) : CI a (sI u 1 4 v) := h
theorem CIs_1_5 {v : Int64} (h : CI a u) : CI a (sL u 1 5 v) := h
theorem CIs_1_6 {v : Int32} (h : CI a u) : CI a (sI u 1 6 v) := h
theorem CIs_3_9 {v : Int32} (h : CI a u) (hv : 0 ≤ v.toInt ∧ v.toInt ≤ 8) : CI a (sI u 3 9 v) := by
  obtain ⟨h0, h1, h2, h3, h4, h5, h6, h7, h8, h9, h10, h11, h12, h13, h14, h15, h16, h17, h18, h19, h20, h21, h22⟩ := h
  exact ⟨h0, h1, h2, hv, h4, h5, h6, h7, h8, h9, h10, h11, h12, h13, h14, h15, h16, h17, h18, h19, h20, h21, h22⟩
theorem CIs_3_10 {v : Int32} (h : CI a u) (hv : 0 ≤ v.toInt ∧ v.toInt ≤ 14) : CI a (sI u 3 10 v) := by
  obtain ⟨h0, h1, h2, h3, h4, h5, h6, h7, h8, h9, h10, h11, h12, h13, h14, h15, h16, h17, h18, h19, h20, h21, h22⟩ := h
  exact ⟨h0, h1, h2, h3, hv, h5, h6, h7, h8, h9, h10, h11, h12, h13, h14, h15, h16, h17, h18, h19, h20, h21, h22⟩
theorem CIs_3_11 {v : Int32} (h : CI a u) (hv : 0 ≤ v.toInt ∧ v.toInt ≤ 8) : CI a (sI u 3 11 v) := by
  obtain ⟨h0, h1, h2, h3, h4, h5, h6, h7, h8, h9, h10, h11, h12, h13, h14, h15, h16, h17, h18, h19, h20, h21, h22⟩ := h
  exact ⟨h0, h1, h2, h3, h4, hv, h6, h7, h8, h9, h10, h11, h12, h13, h14, h15, h16, h17, h18, h19, h20, h21, h22⟩
theorem CIs_3_12 {v : Int32} (h : CI a u) (hv : 0 ≤ v.toInt ∧ v.toInt ≤ 6) : CI a (sI u 3 12 v) := by
  obtain ⟨h0, h1, h2, h3, h4, h5, h6, h7, h8, h9, h10, h11, h12, h13, h14, h15, h16, h17, h18, h19, h20, h21, h22⟩ := h
  exact ⟨h0, h1, h2, h3, h4, h5, hv, h7, h8, h9, h10, h11, h12, h13, h14, h15, h16, h17, h18, h19, h20, h21, h22⟩
theorem CIs_3_13 {v : Int32} (h : CI a u) : CI a (sI u 3 13 v) := h
theorem CIs_3_14 {v : Int32} (h : CI a u) : CI a (sI u 3 14 v) := h
theorem CIs_3_15 {v : Int32} (h : CI a u) : CI a (sI u 3 15 v) := h
theorem CIs_3_16 {v : Int32} (h : CI a u) : CI a (sI u 3 16 v) := h
theorem CIs_3_17 {v : Int32} (h : CI a u) : CI a (sI u 3 17 v) := h
theorem CIs_12_2 {v : Int32} (h : CI a u) (hv : 0 ≤ v.toInt ∧ v.toInt ≤ 300) : CI a (sI u 12 2 v) := by
  obtain ⟨h0, h1, h2, h3, h4, h5, h6, h7, h8, h9, h10, h11, h12, h13, h14, h15, h16, h17, h18, h19, h20, h21, h22⟩ := h
  exact ⟨h0, h1, h2, h3, h4, h5, h6, hv, h8, h9, h10, h11, h12, h13, h14, h15, h16, h17, h18, h19, h20, h21, h22⟩
theorem CIs_12_3 {v : Int32} (h : CI a u) (hv : 0 ≤ v.toInt ∧ v.toInt ≤ 31) : CI a (sI u 12 3 v) := by
  obtain ⟨h0, h1, h2, h3, h4, h5, h6, h7, h8, h9, h10, h11, h12, h13, h14, h15, h16, h17, h18, h19, h20, h21, h22⟩ := h
  exact ⟨h0, h1, h2, h3, h4, h5, h6, h7, hv, h9, h10, h11, h12, h13, h14, h15, h16, h17, h18, h19, h20, h21, h22⟩
theorem CIs_12_4 {v : Int32} (h : CI a u) : CI a (sI u 12 4 v) := h
theorem CIs_12_5 {v : Int32} (h : CI a u) : CI a (sI u 12 5 v) := h
theorem CIs_12_6 {v : Int32} (h : CI a u) : CI a (sI u 12 6 v) := h
theorem CIs_12_7 {v : Int32} (h : CI a u) : CI a (sI u 12 7 v) := h
theorem CIs_12_8 {v : Int32} (h : CI a u) : CI a (sI u 12 8 v) := h
theorem CIs_12_9 {v : Int32} (h : CI a u) : CI a (sI u 12 9 v) := h
theorem CIs_12_10 {v : Int32} (h : CI a u) : CI a (sI u 12 10 v) := h
theorem CIs_15_9 {v : Int32} (h : CI a u) (hv : 0 ≤ v.toInt ∧ v.toInt ≤ 8) : CI a (sI u 15 9 v) := by
  obtain ⟨h0, h1, h2, h3, h4, h5, h6, h7, h8, h9, h10, h11, h12, h13, h14, h15, h16, h17, h18, h19, h20, h21, h22⟩ := h
  exact ⟨h0, h1, h2, h3, h4, h5, h6, h7, h8, hv, h10, h11, h12, h13, h14, h15, h16, h17, h18, h19, h20, h21, h22⟩
theorem CIs_15_10 {v : Int32} (h : CI a u) (hv : 0 ≤ v.toInt ∧ v.toInt ≤ 14) : CI a (sI u 15 10 v) := by
  obtain ⟨h0, h1, h2, h3, h4, h5, h6, h7, h8, h9, h10, h11, h12, h13, h14, h15, h16, h17, h18, h19, h20, h21, h22⟩ := h
  exact ⟨h0, h1, h2, h3, h4, h5, h6, h7, h8, h9, hv, h11, h12, h13, h14, h15, h16, h17, h18, h19, h20, h21, h22⟩
theorem CIs_15_11 {v : Int32} (h : CI a u) (hv : 0 ≤ v.toInt ∧ v.toInt ≤ 8) : CI a (sI u 15 11 v) := by
  obtain ⟨h0, h1, h2, h3, h4, h5, h6, h7, h8, h9, h10, h11, h12, h13, h14, h15, h16, h17, h18, h19, h20, h21, h22⟩ := h
  exact ⟨h0, h1, h2, h3, h4, h5, h6, h7, h8, h9, h10, hv, h12, h13, h14, h15, h16, h17, h18, h19, h20, h21, h22⟩
theorem CIs_15_12 {v : Int32} (h : CI a u) (hv : 0 ≤ v.toInt ∧ v.toInt ≤ 6) : CI a (sI u 15 12 v) := by
  obtain ⟨h0, h1, h2, h3, h4, h5, h6, h7, h8, h9, h10, h11, h12, h13, h14, h15, h16, h17, h18, h19, h20, h21, h22⟩ := h
  exact ⟨h0, h1, h2, h3, h4, h5, h6, h7, h8, h9, h10, h11, hv, h13, h14, h15, h16, h17, h18, h19, h20, h21, h22⟩
theorem CIs_15_13 {v : Int32} (h : CI a u) : CI a (sI u 15 13 v) := h
theorem CIs_15_14 {v : Int32} (h : CI a u) : CI a (sI u 15 14 v) := h
theorem CIs_15_15 {v : Int32} (h : CI a u) : CI a (sI u 15 15 v) := h
theorem CIs_15_16 {v : Int32} (h : CI a u) : CI a (sI u 15 16 v) := h
theorem CIs_15_17 {v : Int32} (h : CI a u) : CI a (sI u 15 17 v) := h
theorem CIs_24_2 {v : Int32} (h : CI a u) (hv : 0 ≤ v.toInt ∧ v.toInt ≤ 300) : CI a (sI u 24 2 v) := by
  obtain ⟨h0, h1, h2, h3, h4, h5, h6, h7, h8, h9, h10, h11, h12, h13, h14, h15, h16, h17, h18, h19, h20, h21, h22⟩ := h
  exact ⟨h0, h1, h2, h3, h4, h5, h6, h7, h8, h9, h10, h11, h12, hv, h14, h15, h16, h17, h18, h19, h20, h21, h22⟩
theorem CIs_24_3 {v : Int32} (h : CI a u) (hv : 0 ≤ v.toInt ∧ v.toInt ≤ 31) : CI a (sI u 24 3 v) := by
  obtain ⟨h0, h1, h2, h3, h4, h5, h6, h7, h8, h9, h10, h11, h12, h13, h14, h15, h16, h17, h18, h19, h20, h21, h22⟩ := h
  exact ⟨h0, h1, h2, h3, h4, h5, h6, h7, h8, h9, h10, h11, h12, h13, hv, h15, h16, h17, h18, h19, h20, h21, h22⟩
theorem CIs_24_4 {v : Int32} (h : CI a u) : CI a (sI u 24 4 v) := h
theorem CIs_24_5 {v : Int32} (h : CI a u) : CI a (sI u 24 5 v) := h
theorem CIs_24_6 {v : Int32} (h : CI a u) : CI a (sI u 24 6 v) := h
theorem CIs_24_7 {v : Int32} (h : CI a u) : CI a (sI u 24 7 v) := h
theorem CIs_24_8 {v : Int32} (h : CI a u) : CI a (sI u 24 8 v) := h
theorem CIs_24_9 {v : Int32} (h : CI a u) : CI a (sI u 24 9 v) := h
theorem CIs_24_10 {v : Int32} (h : CI a u) : CI a (sI u 24 10 v) := h
theorem CIs_27_2 {v : Int32} (h : CI a u) : CI a (sI u 27 2 v) := h
theorem CIs_27_3 {v : Int32} (h : CI a u) : CI a (sI u 27 3 v) := h
theorem CIs_30_1 {v : Int32} (h : CI a u) (hv : 0 ≤ v.toInt ∧ v.toInt ≤ 40) : CI a (sI u 30 1 v) := by
  obtain ⟨h0, h1, h2, h3, h4, h5, h6, h7, h8, h9, h10, h11, h12, h13, h14, h15, h16, h17, h18, h19, h20, h21, h22⟩ := h
  exact ⟨h0, h1, h2, h3, h4, h5, h6, h7, h8, h9, h10, h11, h12, h13, h14, hv, h16, h17, h18, h19, h20, h21, h22⟩
theorem CIs_30_2 {v : Int32} (h : CI a u) (hv : 0 ≤ v.toInt ∧ v.toInt + (fI u 30 3).toInt ≤ 40) : CI a (sI u 30 2 v) := by
  have b1 := CI_30_2 h
  have b2 := CI_30_3 h
  obtain ⟨h0, h1, h2, h3, h4, h5, h6, h7, h8, h9, h10, h11, h12, h13, h14, h15, h16, h17, h18, h19, h20, h21, h22⟩ := h
  exact ⟨h0, h1, h2, h3, h4, h5, h6, h7, h8, h9, h10, h11, h12, h13, h14, h15, (show 0 ≤ v.toInt ∧ v.toInt ≤ 40 from ⟨hv.1, by omega⟩), h17, h18, h19, (show v.toInt + (fI u 30 3).toInt ≤ 40 from by omega), h21, h22⟩
theorem CIs_30_3 {v : Int32} (h : CI a u) (hv : 0 ≤ v.toInt ∧ v.toInt + (fI u 30 2).toInt ≤ 40) : CI a (sI u 30 3 v) := by
  have b1 := CI_30_2 h
  have b2 := CI_30_3 h
  obtain ⟨h0, h1, h2, h3, h4, h5, h6, h7, h8, h9, h10, h11, h12, h13, h14, h15, h16, h17, h18, h19, h20, h21, h22⟩ := h
  exact ⟨h0, h1, h2, h3, h4, h5, h6, h7, h8, h9, h10, h11, h12, h13, h14, h15, h16, (show 0 ≤ v.toInt ∧ v.toInt ≤ 40 from ⟨hv.1, by omega⟩), h18, h19, (show (fI u 30 2).toInt + v.toInt ≤ 40 from by omega), h21, h22⟩
theorem CIs_39_5 {v : Int32} (h : CI a u) (hv : 0 ≤ v.toInt ∧ v.toInt ≤ 30) : CI a (sI u 39 5 v) := by
  obtain ⟨h0, h1, h2, h3, h4, h5, h6, h7, h8, h9, h10, h11, h12, h13, h14, h15, h16, h17, h18, h19, h20, h21, h22⟩ := h
  exact ⟨h0, h1, h2, h3, h4, h5, h6, h7, h8, h9, h10, h11, h12, h13, h14, h15, h16, h17, hv, h19, h20, h21, h22⟩
theorem CIs_39_6 {v : Int32} (h : CI a u) (hv : 0 ≤ v.toInt ∧ v.toInt ≤ 100000) : CI a (sI u 39 6 v) := by
  obtain ⟨h0, h1, h2, h3, h4, h5, h6, h7, h8, h9, h10, h11, h12, h13, h14, h15, h16, h17, h18, h19, h20, h21, h22⟩ := h
  exact ⟨h0, h1, h2, h3, h4, h5, h6, h7, h8, h9, h10, h11, h12, h13, h14, h15, h16, h17, h18, hv, h20, h21, h22⟩
theorem CIsA {D : va_G} {A : Nat → Prop} {cy : Nat → ClassId} {hp H : Heap} {locs : List Loc} {q : Nat} {f : Nat → Int32} (_ : Wo D A (cW cy a (sA u q f)) hp H locs) (h : CI a u) : CI a (sA u q f) := h
theorem CIsJ {D : va_G} {A : Nat → Prop} {cy : Nat → ClassId} {hp H : Heap} {locs : List Loc} {q : Nat} {f : Nat → Int64} (_ : Wo D A (cW cy a (sJ u q f)) hp H locs) (h : CI a u) : CI a (sJ u q f) := h
theorem CIsB {D : va_G} {A : Nat → Prop} {cy : Nat → ClassId} {hp H : Heap} {locs : List Loc} {q : Nat} {f : Nat → Int32} (_ : Wo D A (cW cy a (sB u q f)) hp H locs) (h : CI a u) : CI a (sB u q f) := h
theorem CIsR2 {v : Nat} (h : CI a u) : CI a (sR u 2 v) := h
theorem CIs_30_23 {v w : Int32} (h : CI a u) (h1 : 0 ≤ v.toInt) (h2 : 0 ≤ w.toInt) (h3 : v.toInt + w.toInt ≤ 40) : CI a (sI (sI u 30 2 v) 30 3 w) := by
  obtain ⟨h0_, h1_, h2_, h3_, h4_, h5_, h6_, h7_, h8_, h9_, h10_, h11_, h12_, h13_, h14_, h15_, h16_, h17_, h18_, h19_, h20_, h21_, h22_⟩ := h
  exact ⟨h0_, h1_, h2_, h3_, h4_, h5_, h6_, h7_, h8_, h9_, h10_, h11_, h12_, h13_, h14_, h15_, (show 0 ≤ v.toInt ∧ v.toInt ≤ 40 from ⟨h1, by omega⟩), (show 0 ≤ w.toInt ∧ w.toInt ≤ 40 from ⟨h2, by omega⟩), h18_, h19_, (show v.toInt + w.toInt ≤ 40 from h3), h21_, h22_⟩
end
def KT (u v : St) : Prop := fI v 39 6 = fI u 39 6
theorem KT.rf {u : St} : KT u u := rfl
theorem KT.tr {u v w : St} (h1 : KT u v) (h2 : KT v w) : KT u w := Eq.trans h2 h1
def KA (u v : St) : Prop := fI v 39 6 = fI u 39 6 ∧ fI v 30 1 = fI u 30 1 ∧ fI v 30 2 = fI u 30 2 ∧ fI v 30 3 = fI u 30 3
theorem KA.rf {u : St} : KA u u := ⟨rfl, rfl, rfl, rfl⟩
theorem KA.tr {u v w : St} (h1 : KA u v) (h2 : KA v w) : KA u w := ⟨(h2.1).trans h1.1, (h2.2.1).trans h1.2.1, (h2.2.2.1).trans h1.2.2.1, (h2.2.2.2).trans h1.2.2.2⟩
