theorem i_maxr {z x y : Int32} {Y : Int} (h : z = if x < y then y else x) (hy : y.toInt = Y) : Y ≤ z.toInt := by
  subst hy
  rw [h]
  by_cases q : x < y
  · rw [if_pos q]
    exact Int.le_refl _
  · rw [if_neg q]
    exact Int32.le_iff_toInt_le.mp (Int32.not_lt.mp q)
/-- what later answers, and the time then -/
def ltOk (t x : Int32) : Prop := 0 ≤ x.toInt ∧ x.toInt ≤ 1000 ∧ t.toInt + x.toInt ≤ 100000
noncomputable def ltR (t x : Int32) : Int32 := @ite _ (ltOk t x) (Classical.propDecidable _) (t + x) (-1)
noncomputable def ltT (t x : Int32) : Int32 := @ite _ (ltOk t x) (Classical.propDecidable _) (t + x) t
theorem ltR_y {t x : Int32} (h : ltOk t x) : ltR t x = t + x := if_pos h
theorem ltR_n {t x : Int32} (h : ¬ ltOk t x) : ltR t x = -1 := if_neg h
theorem ltT_y {t x : Int32} (h : ltOk t x) : ltT t x = t + x := if_pos h
theorem ltT_n {t x : Int32} (h : ¬ ltOk t x) : ltT t x = t := if_neg h
def KR (u v : St) : Prop := fI v 39 6 = fI u 39 6 ∧ fI v 15 9 = fI u 15 9 ∧ fI v 15 10 = fI u 15 10 ∧ fI v 15 11 = fI u 15 11 ∧ fI v 15 12 = fI u 15 12
theorem KR.rf {u : St} : KR u u := ⟨rfl, rfl, rfl, rfl, rfl⟩
theorem KR.tr {u v w : St} (h1 : KR u v) (h2 : KR v w) : KR u w := ⟨(h2.1).trans h1.1, (h2.2.1).trans h1.2.1, (h2.2.2.1).trans h1.2.2.1, (h2.2.2.2.1).trans h1.2.2.2.1, (h2.2.2.2.2).trans h1.2.2.2.2⟩
def KN (u v : St) : Prop := fI v 30 1 = fI u 30 1 ∧ fI v 30 2 = fI u 30 2
theorem KN.rf {u : St} : KN u u := ⟨rfl, rfl⟩
theorem KN.tr {u v w : St} (h1 : KN u v) (h2 : KN v w) : KN u w := ⟨(h2.1).trans h1.1, (h2.2).trans h1.2⟩
def KTR (u v : St) : Prop := fI v 39 6 = fI u 39 6 ∧ fR v 0 = fR u 0 ∧ fR v 1 = fR u 1
theorem KTR.rf {u : St} : KTR u u := ⟨rfl, rfl, rfl⟩
theorem KTR.tr {u v w : St} (h1 : KTR u v) (h2 : KTR v w) : KTR u w := ⟨(h2.1).trans h1.1, (h2.2.1).trans h1.2.1, (h2.2.2).trans h1.2.2⟩
def KT1 (u v : St) : Prop := fI v 39 6 = fI u 39 6 ∧ fR v 1 = fR u 1
theorem KT1.rf {u : St} : KT1 u u := ⟨rfl, rfl⟩
theorem KT1.tr {u v w : St} (h1 : KT1 u v) (h2 : KT1 v w) : KT1 u w := ⟨(h2.1).trans h1.1, (h2.2).trans h1.2⟩
