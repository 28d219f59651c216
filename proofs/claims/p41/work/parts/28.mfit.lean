def Km22 (u v : St) : Prop := fI v 0 2 = fI u 0 2 ∧ fI v 0 3 = fI u 0 3 ∧ fI v 0 4 = fI u 0 4 ∧ fI v 0 5 = fI u 0 5 ∧ fI v 0 6 = fI u 0 6 ∧ fI v 0 7 = fI u 0 7 ∧ fI v 0 8 = fI u 0 8 ∧ fI v 0 9 = fI u 0 9 ∧ fL v 0 10 = fL u 0 10 ∧ fI v 0 36 = fI u 0 36 ∧ fI v 0 37 = fI u 0 37 ∧ fI v 0 38 = fI u 0 38 ∧ fI v 0 39 = fI u 0 39 ∧ fI v 0 40 = fI u 0 40 ∧ fI v 0 41 = fI u 0 41 ∧ fI v 0 47 = fI u 0 47 ∧ fI v 0 48 = fI u 0 48 ∧ fI v 0 50 = fI u 0 50 ∧ fI v 0 61 = fI u 0 61 ∧ fI v 0 62 = fI u 0 62 ∧ fA v 1 = fA u 1 ∧ fA v 2 = fA u 2 ∧ fA v 3 = fA u 3 ∧ fA v 4 = fA u 4 ∧ fA v 5 = fA u 5 ∧ fA v 6 = fA u 6 ∧ fA v 7 = fA u 7 ∧ fA v 8 = fA u 8 ∧ fA v 9 = fA u 9 ∧ fA v 10 = fA u 10 ∧ fA v 11 = fA u 11 ∧ fA v 12 = fA u 12 ∧ fA v 13 = fA u 13 ∧ fA v 14 = fA u 14 ∧ fA v 15 = fA u 15 ∧ fA v 16 = fA u 16 ∧ fA v 17 = fA u 17 ∧ fA v 18 = fA u 18 ∧ fA v 19 = fA u 19 ∧ fJ v 20 = fJ u 20 ∧ fJ v 21 = fJ u 21 ∧ fJ v 22 = fJ u 22 ∧ fA v 23 = fA u 23 ∧ fA v 24 = fA u 24 ∧ fA v 25 = fA u 25 ∧ fA v 26 = fA u 26 ∧ fA v 29 = fA u 29 ∧ fA v 30 = fA u 30 ∧ fA v 31 = fA u 31 ∧ fA v 32 = fA u 32 ∧ fA v 34 = fA u 34 ∧ fA v 35 = fA u 35 ∧ fA v 36 = fA u 36 ∧ fA v 37 = fA u 37 ∧ fA v 38 = fA u 38 ∧ fA v 39 = fA u 39 ∧ fA v 41 = fA u 41 ∧ fA v 42 = fA u 42
theorem Km22.rf {u : St} : Km22 u u := ⟨rfl, rfl, rfl, rfl, rfl, rfl, rfl, rfl, rfl, rfl, rfl, rfl, rfl, rfl, rfl, rfl, rfl, rfl, rfl, rfl, rfl, rfl, rfl, rfl, rfl, rfl, rfl, rfl, rfl, rfl, rfl, rfl, rfl, rfl, rfl, rfl, rfl, rfl, rfl, rfl, rfl, rfl, rfl, rfl, rfl, rfl, rfl, rfl, rfl, rfl, rfl, rfl, rfl, rfl, rfl, rfl, rfl, rfl⟩
theorem Km22.tr {u v w : St} (h1 : Km22 u v) (h2 : Km22 v w) : Km22 u w := ⟨(h2.1).trans h1.1, (h2.2.1).trans h1.2.1, (h2.2.2.1).trans h1.2.2.1, (h2.2.2.2.1).trans h1.2.2.2.1, (h2.2.2.2.2.1).trans h1.2.2.2.2.1, (h2.2.2.2.2.2.1).trans h1.2.2.2.2.2.1, (h2.2.2.2.2.2.2.1).trans h1.2.2.2.2.2.2.1, (h2.2.2.2.2.2.2.2.1).trans h1.2.2.2.2.2.2.2.1, (h2.2.2.2.2.2.2.2.2.1).trans h1.2.2.2.2.2.2.2.2.1, (h2.2.2.2.2.2.2.2.2.2.1).trans h1.2.2.2.2.2.2.2.2.2.1, (h2.2.2.2.2.2.2.2.2.2.2.1).trans h1.2.2.2.2.2.2.2.2.2.2.1, (h2.2.2.2.2.2.2.2.2.2.2.2.1).trans h1.2.2.2.2.2.2.2.2.2.2.2.1, (h2.2.2.2.2.2.2.2.2.2.2.2.2.1).trans h1.2.2.2.2.2.2.2.2.2.2.2.2.1, (h2.2.2.2.2.2.2.2.2.2.2.2.2.2.1).trans h1.2.2.2.2.2.2.2.2.2.2.2.2.2.1, (h2.2.2.2.2.2.2.2.2.2.2.2.2.2.2.1).trans h1.2.2.2.2.2.2.2.2.2.2.2.2.2.2.1, (h2.2.2.2.2.2.2.2.2.2.2.2.2.2.2.2.1).trans h1.2.2.2.2.2.2.2.2.2.2.2.2.2.2.2.1, (h2.2.2.2.2.2.2.2.2.2.2.2.2.2.2.2.2.1).trans h1.2.2.2.2.2.2.2.2.2.2.2.2.2.2.2.2.1, (h2.2.2.2.2.2.2.2.2.2.2.2.2.2.2.2.2.2.1).trans h1.2.2.2.2.2.2.2.2.2.2.2.2.2.2.2.2.2.1, (h2.2.2.2.2.2.2.2.2.2.2.2.2.2.2.2.2.2.2.1).trans h1.2.2.2.2.2.2.2.2.2.2.2.2.2.2.2.2.2.2.1, (h2.2.2.2.2.2.2.2.2.2.2.2.2.2.2.2.2.2.2.2.1).trans h1.2.2.2.2.2.2.2.2.2.2.2.2.2.2.2.2.2.2.2.1, (h2.2.2.2.2.2.2.2.2.2.2.2.2.2.2.2.2.2.2.2.2.1).trans h1.2.2.2.2.2.2.2.2.2.2.2.2.2.2.2.2.2.2.2.2.1, (h2.2.2.2.2.2.2.2.2.2.2.2.2.2.2.2.2.2.2.2.2.2.1).trans h1.2.2.2.2.2.2.2.2.2.2.2.2.2.2.2.2.2.2.2.2.2.1, (h2.2.2.2.2.2.2.2.2.2.2.2.2.2.2.2.2.2.2.2.2.2.2.1).trans h1.2.2.2.2.2.2.2.2.2.2.2.2.2.2.2.2.2.2.2.2.2.2.1, (h2.2.2.2.2.2.2.2.2.2.2.2.2.2.2.2.2.2.2.2.2.2.2.2.1).trans h1.2.2.2.2.2.2.2.2.2.2.2.2.2.2.2.2.2.2.2.2.2.2.2.1, (h2.2.2.2.2.2.2.2.2.2.2.2.2.2.2.2.2.2.2.2.2.2.2.2.2.1).trans h1.2.2.2.2.2.2.2.2.2.2.2.2.2.2.2.2.2.2.2.2.2.2.2.2.1, (h2.2.2.2.2.2.2.2.2.2.2.2.2.2.2.2.2.2.2.2.2.2.2.2.2.2.1).trans h1.2.2.2.2.2.2.2.2.2.2.2.2.2.2.2.2.2.2.2.2.2.2.2.2.2.1, (h2.2.2.2.2.2.2.2.2.2.2.2.2.2.2.2.2.2.2.2.2.2.2.2.2.2.2.1).trans h1.2.2.2.2.2.2.2.2.2.2.2.2.2.2.2.2.2.2.2.2.2.2.2.2.2.2.1, (h2.2.2.2.2.2.2.2.2.2.2.2.2.2.2.2.2.2.2.2.2.2.2.2.2.2.2.2.1).trans h1.2.2.2.2.2.2.2.2.2.2.2.2.2.2.2.2.2.2.2.2.2.2.2.2.2.2.2.1, (h2.2.2.2.2.2.2.2.2.2.2.2.2.2.2.2.2.2.2.2.2.2.2.2.2.2.2.2.2.1).trans h1.2.2.2.2.2.2.2.2.2.2.2.2.2.2.2.2.2.2.2.2.2.2.2.2.2.2.2.2.1, (h2.2.2.2.2.2.2.2.2.2.2.2.2.2.2.2.2.2.2.2.2.2.2.2.2.2.2.2.2.2.1).trans h1.2.2.2.2.2.2.2.2.2.2.2.2.2.2.2.2.2.2.2.2.2.2.2.2.2.2.2.2.2.1, (h2.2.2.2.2.2.2.2.2.2.2.2.2.2.2.2.2.2.2.2.2.2.2.2.2.2.2.2.2.2.2.1).trans h1.2.2.2.2.2.2.2.2.2.2.2.2.2.2.2.2.2.2.2.2.2.2.2.2.2.2.2.2.2.2.1, (h2.2.2.2.2.2.2.2.2.2.2.2.2.2.2.2.2.2.2.2.2.2.2.2.2.2.2.2.2.2.2.2.1).trans h1.2.2.2.2.2.2.2.2.2.2.2.2.2.2.2.2.2.2.2.2.2.2.2.2.2.2.2.2.2.2.2.1, (h2.2.2.2.2.2.2.2.2.2.2.2.2.2.2.2.2.2.2.2.2.2.2.2.2.2.2.2.2.2.2.2.2.1).trans h1.2.2.2.2.2.2.2.2.2.2.2.2.2.2.2.2.2.2.2.2.2.2.2.2.2.2.2.2.2.2.2.2.1, (h2.2.2.2.2.2.2.2.2.2.2.2.2.2.2.2.2.2.2.2.2.2.2.2.2.2.2.2.2.2.2.2.2.2.1).trans h1.2.2.2.2.2.2.2.2.2.2.2.2.2.2.2.2.2.2.2.2.2.2.2.2.2.2.2.2.2.2.2.2.2.1, (h2.2.2.2.2.2.2.2.2.2.2.2.2.2.2.2.2.2.2.2.2.2.2.2.2.2.2.2.2.2.2.2.2.2.2.1).trans h1.2.2.2.2.2.2.2.2.2.2.2.2.2.2.2.2.2.2.2.2.2.2.2.2.2.2.2.2.2.2.2.2.2.2.1, (h2.2.2.2.2.2.2.2.2.2.2.2.2.2.2.2.2.2.2.2.2.2.2.2.2.2.2.2.2.2.2.2.2.2.2.2.1).trans h1.2.2.2.2.2.2.2.2.2.2.2.2.2.2.2.2.2.2.2.2.2.2.2.2.2.2.2.2.2.2.2.2.2.2.2.1, (h2.2.2.2.2.2.2.2.2.2.2.2.2.2.2.2.2.2.2.2.2.2.2.2.2.2.2.2.2.2.2.2.2.2.2.2.2.1).trans h1.2.2.2.2.2.2.2.2.2.2.2.2.2.2.2.2.2.2.2.2.2.2.2.2.2.2.2.2.2.2.2.2.2.2.2.2.1, (h2.2.2.2.2.2.2.2.2.2.2.2.2.2.2.2.2.2.2.2.2.2.2.2.2.2.2.2.2.2.2.2.2.2.2.2.2.2.1).trans h1.2.2.2.2.2.2.2.2.2.2.2.2.2.2.2.2.2.2.2.2.2.2.2.2.2.2.2.2.2.2.2.2.2.2.2.2.2.1, (h2.2.2.2.2.2.2.2.2.2.2.2.2.2.2.2.2.2.2.2.2.2.2.2.2.2.2.2.2.2.2.2.2.2.2.2.2.2.2.1).trans h1.2.2.2.2.2.2.2.2.2.2.2.2.2.2.2.2.2.2.2.2.2.2.2.2.2.2.2.2.2.2.2.2.2.2.2.2.2.2.1, (h2.2.2.2.2.2.2.2.2.2.2.2.2.2.2.2.2.2.2.2.2.2.2.2.2.2.2.2.2.2.2.2.2.2.2.2.2.2.2.2.1).trans h1.2.2.2.2.2.2.2.2.2.2.2.2.2.2.2.2.2.2.2.2.2.2.2.2.2.2.2.2.2.2.2.2.2.2.2.2.2.2.2.1, (h2.2.2.2.2.2.2.2.2.2.2.2.2.2.2.2.2.2.2.2.2.2.2.2.2.2.2.2.2.2.2.2.2.2.2.2.2.2.2.2.2.1).trans h1.2.2.2.2.2.2.2.2.2.2.2.2.2.2.2.2.2.2.2.2.2.2.2.2.2.2.2.2.2.2.2.2.2.2.2.2.2.2.2.2.1, (h2.2.2.2.2.2.2.2.2.2.2.2.2.2.2.2.2.2.2.2.2.2.2.2.2.2.2.2.2.2.2.2.2.2.2.2.2.2.2.2.2.2.1).trans h1.2.2.2.2.2.2.2.2.2.2.2.2.2.2.2.2.2.2.2.2.2.2.2.2.2.2.2.2.2.2.2.2.2.2.2.2.2.2.2.2.2.1, (h2.2.2.2.2.2.2.2.2.2.2.2.2.2.2.2.2.2.2.2.2.2.2.2.2.2.2.2.2.2.2.2.2.2.2.2.2.2.2.2.2.2.2.1).trans h1.2.2.2.2.2.2.2.2.2.2.2.2.2.2.2.2.2.2.2.2.2.2.2.2.2.2.2.2.2.2.2.2.2.2.2.2.2.2.2.2.2.2.1, (h2.2.2.2.2.2.2.2.2.2.2.2.2.2.2.2.2.2.2.2.2.2.2.2.2.2.2.2.2.2.2.2.2.2.2.2.2.2.2.2.2.2.2.2.1).trans h1.2.2.2.2.2.2.2.2.2.2.2.2.2.2.2.2.2.2.2.2.2.2.2.2.2.2.2.2.2.2.2.2.2.2.2.2.2.2.2.2.2.2.2.1, (h2.2.2.2.2.2.2.2.2.2.2.2.2.2.2.2.2.2.2.2.2.2.2.2.2.2.2.2.2.2.2.2.2.2.2.2.2.2.2.2.2.2.2.2.2.1).trans h1.2.2.2.2.2.2.2.2.2.2.2.2.2.2.2.2.2.2.2.2.2.2.2.2.2.2.2.2.2.2.2.2.2.2.2.2.2.2.2.2.2.2.2.2.1, (h2.2.2.2.2.2.2.2.2.2.2.2.2.2.2.2.2.2.2.2.2.2.2.2.2.2.2.2.2.2.2.2.2.2.2.2.2.2.2.2.2.2.2.2.2.2.1).trans h1.2.2.2.2.2.2.2.2.2.2.2.2.2.2.2.2.2.2.2.2.2.2.2.2.2.2.2.2.2.2.2.2.2.2.2.2.2.2.2.2.2.2.2.2.2.1, (h2.2.2.2.2.2.2.2.2.2.2.2.2.2.2.2.2.2.2.2.2.2.2.2.2.2.2.2.2.2.2.2.2.2.2.2.2.2.2.2.2.2.2.2.2.2.2.1).trans h1.2.2.2.2.2.2.2.2.2.2.2.2.2.2.2.2.2.2.2.2.2.2.2.2.2.2.2.2.2.2.2.2.2.2.2.2.2.2.2.2.2.2.2.2.2.2.1, (h2.2.2.2.2.2.2.2.2.2.2.2.2.2.2.2.2.2.2.2.2.2.2.2.2.2.2.2.2.2.2.2.2.2.2.2.2.2.2.2.2.2.2.2.2.2.2.2.1).trans h1.2.2.2.2.2.2.2.2.2.2.2.2.2.2.2.2.2.2.2.2.2.2.2.2.2.2.2.2.2.2.2.2.2.2.2.2.2.2.2.2.2.2.2.2.2.2.2.1, (h2.2.2.2.2.2.2.2.2.2.2.2.2.2.2.2.2.2.2.2.2.2.2.2.2.2.2.2.2.2.2.2.2.2.2.2.2.2.2.2.2.2.2.2.2.2.2.2.2.1).trans h1.2.2.2.2.2.2.2.2.2.2.2.2.2.2.2.2.2.2.2.2.2.2.2.2.2.2.2.2.2.2.2.2.2.2.2.2.2.2.2.2.2.2.2.2.2.2.2.2.1, (h2.2.2.2.2.2.2.2.2.2.2.2.2.2.2.2.2.2.2.2.2.2.2.2.2.2.2.2.2.2.2.2.2.2.2.2.2.2.2.2.2.2.2.2.2.2.2.2.2.2.1).trans h1.2.2.2.2.2.2.2.2.2.2.2.2.2.2.2.2.2.2.2.2.2.2.2.2.2.2.2.2.2.2.2.2.2.2.2.2.2.2.2.2.2.2.2.2.2.2.2.2.2.1, (h2.2.2.2.2.2.2.2.2.2.2.2.2.2.2.2.2.2.2.2.2.2.2.2.2.2.2.2.2.2.2.2.2.2.2.2.2.2.2.2.2.2.2.2.2.2.2.2.2.2.2.1).trans h1.2.2.2.2.2.2.2.2.2.2.2.2.2.2.2.2.2.2.2.2.2.2.2.2.2.2.2.2.2.2.2.2.2.2.2.2.2.2.2.2.2.2.2.2.2.2.2.2.2.2.1, (h2.2.2.2.2.2.2.2.2.2.2.2.2.2.2.2.2.2.2.2.2.2.2.2.2.2.2.2.2.2.2.2.2.2.2.2.2.2.2.2.2.2.2.2.2.2.2.2.2.2.2.2.1).trans h1.2.2.2.2.2.2.2.2.2.2.2.2.2.2.2.2.2.2.2.2.2.2.2.2.2.2.2.2.2.2.2.2.2.2.2.2.2.2.2.2.2.2.2.2.2.2.2.2.2.2.2.1, (h2.2.2.2.2.2.2.2.2.2.2.2.2.2.2.2.2.2.2.2.2.2.2.2.2.2.2.2.2.2.2.2.2.2.2.2.2.2.2.2.2.2.2.2.2.2.2.2.2.2.2.2.2.1).trans h1.2.2.2.2.2.2.2.2.2.2.2.2.2.2.2.2.2.2.2.2.2.2.2.2.2.2.2.2.2.2.2.2.2.2.2.2.2.2.2.2.2.2.2.2.2.2.2.2.2.2.2.2.1, (h2.2.2.2.2.2.2.2.2.2.2.2.2.2.2.2.2.2.2.2.2.2.2.2.2.2.2.2.2.2.2.2.2.2.2.2.2.2.2.2.2.2.2.2.2.2.2.2.2.2.2.2.2.2.1).trans h1.2.2.2.2.2.2.2.2.2.2.2.2.2.2.2.2.2.2.2.2.2.2.2.2.2.2.2.2.2.2.2.2.2.2.2.2.2.2.2.2.2.2.2.2.2.2.2.2.2.2.2.2.2.1, (h2.2.2.2.2.2.2.2.2.2.2.2.2.2.2.2.2.2.2.2.2.2.2.2.2.2.2.2.2.2.2.2.2.2.2.2.2.2.2.2.2.2.2.2.2.2.2.2.2.2.2.2.2.2.2.1).trans h1.2.2.2.2.2.2.2.2.2.2.2.2.2.2.2.2.2.2.2.2.2.2.2.2.2.2.2.2.2.2.2.2.2.2.2.2.2.2.2.2.2.2.2.2.2.2.2.2.2.2.2.2.2.2.1, (h2.2.2.2.2.2.2.2.2.2.2.2.2.2.2.2.2.2.2.2.2.2.2.2.2.2.2.2.2.2.2.2.2.2.2.2.2.2.2.2.2.2.2.2.2.2.2.2.2.2.2.2.2.2.2.2.1).trans h1.2.2.2.2.2.2.2.2.2.2.2.2.2.2.2.2.2.2.2.2.2.2.2.2.2.2.2.2.2.2.2.2.2.2.2.2.2.2.2.2.2.2.2.2.2.2.2.2.2.2.2.2.2.2.2.1, (h2.2.2.2.2.2.2.2.2.2.2.2.2.2.2.2.2.2.2.2.2.2.2.2.2.2.2.2.2.2.2.2.2.2.2.2.2.2.2.2.2.2.2.2.2.2.2.2.2.2.2.2.2.2.2.2.2.1).trans h1.2.2.2.2.2.2.2.2.2.2.2.2.2.2.2.2.2.2.2.2.2.2.2.2.2.2.2.2.2.2.2.2.2.2.2.2.2.2.2.2.2.2.2.2.2.2.2.2.2.2.2.2.2.2.2.2.1, (h2.2.2.2.2.2.2.2.2.2.2.2.2.2.2.2.2.2.2.2.2.2.2.2.2.2.2.2.2.2.2.2.2.2.2.2.2.2.2.2.2.2.2.2.2.2.2.2.2.2.2.2.2.2.2.2.2.2).trans h1.2.2.2.2.2.2.2.2.2.2.2.2.2.2.2.2.2.2.2.2.2.2.2.2.2.2.2.2.2.2.2.2.2.2.2.2.2.2.2.2.2.2.2.2.2.2.2.2.2.2.2.2.2.2.2.2.2⟩
theorem dX11_layThought_0 : decode cX11_layThought 0 = .ok (.iconst 0, 1) := by decide +kernel
theorem dX11_layThought_1 : decode cX11_layThought 1 = .ok (.istore_n 1, 1) := by decide +kernel
theorem dX11_layThought_2 : decode cX11_layThought 2 = .ok (.iload_n 1, 1) := by decide +kernel
theorem dX11_layThought_3 : decode cX11_layThought 3 = .ok (.bipush 29, 2) := by decide +kernel
theorem dX11_layThought_5 : decode cX11_layThought 5 = .ok (.if_icmp .ge 21, 3) := by decide +kernel
theorem dX11_layThought_8 : decode cX11_layThought 8 = .ok (.aload_n 0, 1) := by decide +kernel
theorem dX11_layThought_9 : decode cX11_layThought 9 = .ok (.getfield 136, 3) := by decide +kernel
theorem dX11_layThought_12 : decode cX11_layThought 12 = .ok (.iload_n 1, 1) := by decide +kernel
theorem dX11_layThought_13 : decode cX11_layThought 13 = .ok (.aload_n 0, 1) := by decide +kernel
theorem dX11_layThought_14 : decode cX11_layThought 14 = .ok (.getfield 97, 3) := by decide +kernel
theorem dX11_layThought_17 : decode cX11_layThought 17 = .ok (.iload_n 1, 1) := by decide +kernel
theorem dX11_layThought_18 : decode cX11_layThought 18 = .ok (.iaload, 1) := by decide +kernel
theorem dX11_layThought_19 : decode cX11_layThought 19 = .ok (.iastore, 1) := by decide +kernel
theorem dX11_layThought_20 : decode cX11_layThought 20 = .ok (.iinc 1 1, 3) := by decide +kernel
theorem dX11_layThought_23 : decode cX11_layThought 23 = .ok (.goto (-21), 3) := by decide +kernel
theorem dX11_layThought_26 : decode cX11_layThought 26 = .ok (.aload_n 0, 1) := by decide +kernel
theorem dX11_layThought_27 : decode cX11_layThought 27 = .ok (.invokevirtual 386, 3) := by decide +kernel
theorem dX11_layThought_30 : decode cX11_layThought 30 = .ok (.iconst 0, 1) := by decide +kernel
theorem dX11_layThought_31 : decode cX11_layThought 31 = .ok (.istore_n 1, 1) := by decide +kernel
theorem dX11_layThought_32 : decode cX11_layThought 32 = .ok (.iload_n 1, 1) := by decide +kernel
theorem dX11_layThought_33 : decode cX11_layThought 33 = .ok (.bipush 30, 2) := by decide +kernel
theorem dX11_layThought_35 : decode cX11_layThought 35 = .ok (.if_icmp .gt 46, 3) := by decide +kernel
theorem dX11_layThought_38 : decode cX11_layThought 38 = .ok (.aload_n 0, 1) := by decide +kernel
theorem dX11_layThought_39 : decode cX11_layThought 39 = .ok (.iload_n 1, 1) := by decide +kernel
theorem dX11_layThought_40 : decode cX11_layThought 40 = .ok (.putfield 100, 3) := by decide +kernel
theorem dX11_layThought_43 : decode cX11_layThought 43 = .ok (.iconst 0, 1) := by decide +kernel
theorem dX11_layThought_44 : decode cX11_layThought 44 = .ok (.istore_n 2, 1) := by decide +kernel
theorem dX11_layThought_45 : decode cX11_layThought 45 = .ok (.iload_n 2, 1) := by decide +kernel
theorem dX11_layThought_46 : decode cX11_layThought 46 = .ok (.aload_n 0, 1) := by decide +kernel
theorem dX11_layThought_47 : decode cX11_layThought 47 = .ok (.invokevirtual 371, 3) := by decide +kernel
theorem dX11_layThought_50 : decode cX11_layThought 50 = .ok (.if_icmp .ge 25, 3) := by decide +kernel
theorem dX11_layThought_53 : decode cX11_layThought 53 = .ok (.aload_n 0, 1) := by decide +kernel
theorem dX11_layThought_54 : decode cX11_layThought 54 = .ok (.getfield 115, 3) := by decide +kernel
theorem dX11_layThought_57 : decode cX11_layThought 57 = .ok (.bipush 6, 2) := by decide +kernel
theorem dX11_layThought_59 : decode cX11_layThought 59 = .ok (.iload_n 1, 1) := by decide +kernel
theorem dX11_layThought_60 : decode cX11_layThought 60 = .ok (.imul, 1) := by decide +kernel
theorem dX11_layThought_61 : decode cX11_layThought 61 = .ok (.iload_n 2, 1) := by decide +kernel
theorem dX11_layThought_62 : decode cX11_layThought 62 = .ok (.iadd, 1) := by decide +kernel
theorem dX11_layThought_63 : decode cX11_layThought 63 = .ok (.aload_n 0, 1) := by decide +kernel
theorem dX11_layThought_64 : decode cX11_layThought 64 = .ok (.iload_n 2, 1) := by decide +kernel
theorem dX11_layThought_65 : decode cX11_layThought 65 = .ok (.invokevirtual 416, 3) := by decide +kernel
theorem dX11_layThought_68 : decode cX11_layThought 68 = .ok (.iastore, 1) := by decide +kernel
theorem dX11_layThought_69 : decode cX11_layThought 69 = .ok (.iinc 2 1, 3) := by decide +kernel
theorem dX11_layThought_72 : decode cX11_layThought 72 = .ok (.goto (-27), 3) := by decide +kernel
theorem dX11_layThought_75 : decode cX11_layThought 75 = .ok (.iinc 1 1, 3) := by decide +kernel
theorem dX11_layThought_78 : decode cX11_layThought 78 = .ok (.goto (-46), 3) := by decide +kernel
theorem dX11_layThought_81 : decode cX11_layThought 81 = .ok (.aload_n 0, 1) := by decide +kernel
theorem dX11_layThought_82 : decode cX11_layThought 82 = .ok (.iconst (-1), 1) := by decide +kernel
theorem dX11_layThought_83 : decode cX11_layThought 83 = .ok (.putfield 100, 3) := by decide +kernel
theorem dX11_layThought_86 : decode cX11_layThought 86 = .ok (.iconst 0, 1) := by decide +kernel
theorem dX11_layThought_87 : decode cX11_layThought 87 = .ok (.istore_n 1, 1) := by decide +kernel
theorem dX11_layThought_88 : decode cX11_layThought 88 = .ok (.iload_n 1, 1) := by decide +kernel
theorem dX11_layThought_89 : decode cX11_layThought 89 = .ok (.bipush 29, 2) := by decide +kernel
theorem dX11_layThought_91 : decode cX11_layThought 91 = .ok (.if_icmp .ge 21, 3) := by decide +kernel
theorem dX11_layThought_94 : decode cX11_layThought 94 = .ok (.aload_n 0, 1) := by decide +kernel
theorem dX11_layThought_95 : decode cX11_layThought 95 = .ok (.getfield 97, 3) := by decide +kernel
theorem dX11_layThought_98 : decode cX11_layThought 98 = .ok (.iload_n 1, 1) := by decide +kernel
theorem dX11_layThought_99 : decode cX11_layThought 99 = .ok (.aload_n 0, 1) := by decide +kernel
theorem dX11_layThought_100 : decode cX11_layThought 100 = .ok (.getfield 136, 3) := by decide +kernel
theorem dX11_layThought_103 : decode cX11_layThought 103 = .ok (.iload_n 1, 1) := by decide +kernel
theorem dX11_layThought_104 : decode cX11_layThought 104 = .ok (.iaload, 1) := by decide +kernel
theorem dX11_layThought_105 : decode cX11_layThought 105 = .ok (.iastore, 1) := by decide +kernel
theorem dX11_layThought_106 : decode cX11_layThought 106 = .ok (.iinc 1 1, 3) := by decide +kernel
theorem dX11_layThought_109 : decode cX11_layThought 109 = .ok (.goto (-21), 3) := by decide +kernel
theorem dX11_layThought_112 : decode cX11_layThought 112 = .ok (.return_, 1) := by decide +kernel
theorem wd_1998 : (Cond.code ⟨"WebCourtModel", "layThought", "()V"⟩ prog_13_method_114_code (3 : Nat) (Option.none : Option FieldType)) ∈ gtb := gtb_c8 209 (by decide +kernel) rfl
theorem Km22_I36 {u v : St} (h : Km22 u v) : fI v 0 36 = fI u 0 36 := h.2.2.2.2.2.2.2.2.2.1
theorem Km22_A3 {u v : St} (h : Km22 u v) : fA v 3 = fA u 3 := h.2.2.2.2.2.2.2.2.2.2.2.2.2.2.2.2.2.2.2.2.2.2.1
theorem Km14_to_Km22 {u v : St} (h : Km14 u v) : Km22 u v := ⟨h.1, h.2.1, h.2.2.1, h.2.2.2.1, h.2.2.2.2.1, h.2.2.2.2.2.1, h.2.2.2.2.2.2.1, h.2.2.2.2.2.2.2.1, h.2.2.2.2.2.2.2.2.1, h.2.2.2.2.2.2.2.2.2.1, h.2.2.2.2.2.2.2.2.2.2.1, h.2.2.2.2.2.2.2.2.2.2.2.1, h.2.2.2.2.2.2.2.2.2.2.2.2.1, h.2.2.2.2.2.2.2.2.2.2.2.2.2.1, h.2.2.2.2.2.2.2.2.2.2.2.2.2.2.1, h.2.2.2.2.2.2.2.2.2.2.2.2.2.2.2.2.2.2.1, h.2.2.2.2.2.2.2.2.2.2.2.2.2.2.2.2.2.2.2.1, h.2.2.2.2.2.2.2.2.2.2.2.2.2.2.2.2.2.2.2.2.1, h.2.2.2.2.2.2.2.2.2.2.2.2.2.2.2.2.2.2.2.2.2.1, h.2.2.2.2.2.2.2.2.2.2.2.2.2.2.2.2.2.2.2.2.2.2.1, h.2.2.2.2.2.2.2.2.2.2.2.2.2.2.2.2.2.2.2.2.2.2.2.1, h.2.2.2.2.2.2.2.2.2.2.2.2.2.2.2.2.2.2.2.2.2.2.2.2.1, h.2.2.2.2.2.2.2.2.2.2.2.2.2.2.2.2.2.2.2.2.2.2.2.2.2.1, h.2.2.2.2.2.2.2.2.2.2.2.2.2.2.2.2.2.2.2.2.2.2.2.2.2.2.1, h.2.2.2.2.2.2.2.2.2.2.2.2.2.2.2.2.2.2.2.2.2.2.2.2.2.2.2.1, h.2.2.2.2.2.2.2.2.2.2.2.2.2.2.2.2.2.2.2.2.2.2.2.2.2.2.2.2.1, h.2.2.2.2.2.2.2.2.2.2.2.2.2.2.2.2.2.2.2.2.2.2.2.2.2.2.2.2.2.1, h.2.2.2.2.2.2.2.2.2.2.2.2.2.2.2.2.2.2.2.2.2.2.2.2.2.2.2.2.2.2.1, h.2.2.2.2.2.2.2.2.2.2.2.2.2.2.2.2.2.2.2.2.2.2.2.2.2.2.2.2.2.2.2.1, h.2.2.2.2.2.2.2.2.2.2.2.2.2.2.2.2.2.2.2.2.2.2.2.2.2.2.2.2.2.2.2.2.1, h.2.2.2.2.2.2.2.2.2.2.2.2.2.2.2.2.2.2.2.2.2.2.2.2.2.2.2.2.2.2.2.2.2.1, h.2.2.2.2.2.2.2.2.2.2.2.2.2.2.2.2.2.2.2.2.2.2.2.2.2.2.2.2.2.2.2.2.2.2.1, h.2.2.2.2.2.2.2.2.2.2.2.2.2.2.2.2.2.2.2.2.2.2.2.2.2.2.2.2.2.2.2.2.2.2.2.1, h.2.2.2.2.2.2.2.2.2.2.2.2.2.2.2.2.2.2.2.2.2.2.2.2.2.2.2.2.2.2.2.2.2.2.2.2.1, h.2.2.2.2.2.2.2.2.2.2.2.2.2.2.2.2.2.2.2.2.2.2.2.2.2.2.2.2.2.2.2.2.2.2.2.2.2.1, h.2.2.2.2.2.2.2.2.2.2.2.2.2.2.2.2.2.2.2.2.2.2.2.2.2.2.2.2.2.2.2.2.2.2.2.2.2.2.1, h.2.2.2.2.2.2.2.2.2.2.2.2.2.2.2.2.2.2.2.2.2.2.2.2.2.2.2.2.2.2.2.2.2.2.2.2.2.2.2.1, h.2.2.2.2.2.2.2.2.2.2.2.2.2.2.2.2.2.2.2.2.2.2.2.2.2.2.2.2.2.2.2.2.2.2.2.2.2.2.2.2.1, h.2.2.2.2.2.2.2.2.2.2.2.2.2.2.2.2.2.2.2.2.2.2.2.2.2.2.2.2.2.2.2.2.2.2.2.2.2.2.2.2.2.1, h.2.2.2.2.2.2.2.2.2.2.2.2.2.2.2.2.2.2.2.2.2.2.2.2.2.2.2.2.2.2.2.2.2.2.2.2.2.2.2.2.2.2.1, h.2.2.2.2.2.2.2.2.2.2.2.2.2.2.2.2.2.2.2.2.2.2.2.2.2.2.2.2.2.2.2.2.2.2.2.2.2.2.2.2.2.2.2.1, h.2.2.2.2.2.2.2.2.2.2.2.2.2.2.2.2.2.2.2.2.2.2.2.2.2.2.2.2.2.2.2.2.2.2.2.2.2.2.2.2.2.2.2.2.1, h.2.2.2.2.2.2.2.2.2.2.2.2.2.2.2.2.2.2.2.2.2.2.2.2.2.2.2.2.2.2.2.2.2.2.2.2.2.2.2.2.2.2.2.2.2.1, h.2.2.2.2.2.2.2.2.2.2.2.2.2.2.2.2.2.2.2.2.2.2.2.2.2.2.2.2.2.2.2.2.2.2.2.2.2.2.2.2.2.2.2.2.2.2.1, h.2.2.2.2.2.2.2.2.2.2.2.2.2.2.2.2.2.2.2.2.2.2.2.2.2.2.2.2.2.2.2.2.2.2.2.2.2.2.2.2.2.2.2.2.2.2.2.1, h.2.2.2.2.2.2.2.2.2.2.2.2.2.2.2.2.2.2.2.2.2.2.2.2.2.2.2.2.2.2.2.2.2.2.2.2.2.2.2.2.2.2.2.2.2.2.2.2.1, h.2.2.2.2.2.2.2.2.2.2.2.2.2.2.2.2.2.2.2.2.2.2.2.2.2.2.2.2.2.2.2.2.2.2.2.2.2.2.2.2.2.2.2.2.2.2.2.2.2.2.1, h.2.2.2.2.2.2.2.2.2.2.2.2.2.2.2.2.2.2.2.2.2.2.2.2.2.2.2.2.2.2.2.2.2.2.2.2.2.2.2.2.2.2.2.2.2.2.2.2.2.2.2.1, h.2.2.2.2.2.2.2.2.2.2.2.2.2.2.2.2.2.2.2.2.2.2.2.2.2.2.2.2.2.2.2.2.2.2.2.2.2.2.2.2.2.2.2.2.2.2.2.2.2.2.2.2.1, h.2.2.2.2.2.2.2.2.2.2.2.2.2.2.2.2.2.2.2.2.2.2.2.2.2.2.2.2.2.2.2.2.2.2.2.2.2.2.2.2.2.2.2.2.2.2.2.2.2.2.2.2.2.1, h.2.2.2.2.2.2.2.2.2.2.2.2.2.2.2.2.2.2.2.2.2.2.2.2.2.2.2.2.2.2.2.2.2.2.2.2.2.2.2.2.2.2.2.2.2.2.2.2.2.2.2.2.2.2.2.1, h.2.2.2.2.2.2.2.2.2.2.2.2.2.2.2.2.2.2.2.2.2.2.2.2.2.2.2.2.2.2.2.2.2.2.2.2.2.2.2.2.2.2.2.2.2.2.2.2.2.2.2.2.2.2.2.2.1, h.2.2.2.2.2.2.2.2.2.2.2.2.2.2.2.2.2.2.2.2.2.2.2.2.2.2.2.2.2.2.2.2.2.2.2.2.2.2.2.2.2.2.2.2.2.2.2.2.2.2.2.2.2.2.2.2.2.1, h.2.2.2.2.2.2.2.2.2.2.2.2.2.2.2.2.2.2.2.2.2.2.2.2.2.2.2.2.2.2.2.2.2.2.2.2.2.2.2.2.2.2.2.2.2.2.2.2.2.2.2.2.2.2.2.2.2.2.1, h.2.2.2.2.2.2.2.2.2.2.2.2.2.2.2.2.2.2.2.2.2.2.2.2.2.2.2.2.2.2.2.2.2.2.2.2.2.2.2.2.2.2.2.2.2.2.2.2.2.2.2.2.2.2.2.2.2.2.2.1, h.2.2.2.2.2.2.2.2.2.2.2.2.2.2.2.2.2.2.2.2.2.2.2.2.2.2.2.2.2.2.2.2.2.2.2.2.2.2.2.2.2.2.2.2.2.2.2.2.2.2.2.2.2.2.2.2.2.2.2.2.1, h.2.2.2.2.2.2.2.2.2.2.2.2.2.2.2.2.2.2.2.2.2.2.2.2.2.2.2.2.2.2.2.2.2.2.2.2.2.2.2.2.2.2.2.2.2.2.2.2.2.2.2.2.2.2.2.2.2.2.2.2.2.2.1, h.2.2.2.2.2.2.2.2.2.2.2.2.2.2.2.2.2.2.2.2.2.2.2.2.2.2.2.2.2.2.2.2.2.2.2.2.2.2.2.2.2.2.2.2.2.2.2.2.2.2.2.2.2.2.2.2.2.2.2.2.2.2.2⟩
theorem Km22_I3 {u v : St} (h : Km22 u v) : fI v 0 3 = fI u 0 3 := h.2.1
theorem Km22_I4 {u v : St} (h : Km22 u v) : fI v 0 4 = fI u 0 4 := h.2.2.1
theorem Km22_I6 {u v : St} (h : Km22 u v) : fI v 0 6 = fI u 0 6 := h.2.2.2.2.1
theorem Km22_I7 {u v : St} (h : Km22 u v) : fI v 0 7 = fI u 0 7 := h.2.2.2.2.2.1
theorem Km22_I8 {u v : St} (h : Km22 u v) : fI v 0 8 = fI u 0 8 := h.2.2.2.2.2.2.1
theorem Km22_I37 {u v : St} (h : Km22 u v) : fI v 0 37 = fI u 0 37 := h.2.2.2.2.2.2.2.2.2.2.1
theorem Km22_I47 {u v : St} (h : Km22 u v) : fI v 0 47 = fI u 0 47 := h.2.2.2.2.2.2.2.2.2.2.2.2.2.2.2.1
theorem Km22_I48 {u v : St} (h : Km22 u v) : fI v 0 48 = fI u 0 48 := h.2.2.2.2.2.2.2.2.2.2.2.2.2.2.2.2.1
theorem Km22_I50 {u v : St} (h : Km22 u v) : fI v 0 50 = fI u 0 50 := h.2.2.2.2.2.2.2.2.2.2.2.2.2.2.2.2.2.1
theorem Km22_I61 {u v : St} (h : Km22 u v) : fI v 0 61 = fI u 0 61 := h.2.2.2.2.2.2.2.2.2.2.2.2.2.2.2.2.2.2.1
theorem Km22_I62 {u v : St} (h : Km22 u v) : fI v 0 62 = fI u 0 62 := h.2.2.2.2.2.2.2.2.2.2.2.2.2.2.2.2.2.2.2.1
theorem Km14_A29 {u v : St} (h : Km14 u v) : fA v 29 = fA u 29 := h.2.2.2.2.2.2.2.2.2.2.2.2.2.2.2.2.2.2.2.2.2.2.2.2.2.2.2.2.2.2.2.2.2.2.2.2.2.2.2.2.2.2.2.2.2.2.2.2.2.2.1
theorem Km14_A41 {u v : St} (h : Km14 u v) : fA v 41 = fA u 41 := h.2.2.2.2.2.2.2.2.2.2.2.2.2.2.2.2.2.2.2.2.2.2.2.2.2.2.2.2.2.2.2.2.2.2.2.2.2.2.2.2.2.2.2.2.2.2.2.2.2.2.2.2.2.2.2.2.2.2.2.2.2.2.1
theorem Km14_A42 {u v : St} (h : Km14 u v) : fA v 42 = fA u 42 := h.2.2.2.2.2.2.2.2.2.2.2.2.2.2.2.2.2.2.2.2.2.2.2.2.2.2.2.2.2.2.2.2.2.2.2.2.2.2.2.2.2.2.2.2.2.2.2.2.2.2.2.2.2.2.2.2.2.2.2.2.2.2.2
theorem Km14_I47 {u v : St} (h : Km14 u v) : fI v 0 47 = fI u 0 47 := h.2.2.2.2.2.2.2.2.2.2.2.2.2.2.2.2.2.2.1
theorem Km14_I48 {u v : St} (h : Km14 u v) : fI v 0 48 = fI u 0 48 := h.2.2.2.2.2.2.2.2.2.2.2.2.2.2.2.2.2.2.2.1
theorem Km14_A40 {u v : St} (h : Km14 u v) : fA v 40 = fA u 40 := h.2.2.2.2.2.2.2.2.2.2.2.2.2.2.2.2.2.2.2.2.2.2.2.2.2.2.2.2.2.2.2.2.2.2.2.2.2.2.2.2.2.2.2.2.2.2.2.2.2.2.2.2.2.2.2.2.2.2.2.2.2.1
theorem pf_RX11_100 {p : Program} {l : Launch} {e : Env} {R : Room} {s : State} {m : MethodId} {args : Array Value} {below : List Frame} {meth : Method} {c : Code} {H : Heap} {locs : List Loc} {cells slots : Nat} {Q : State → Prop} {cc : ByteArray} {pc nL : Nat} {ls : Array Slot} {rest : List Value} {D : va_G} {cy : Nat → ClassId} {A : Nat → Prop} {ws : va_W} {b : Nat} {fs : List Value} {v : Int32} {ws' : va_W} (C : Cx p s m args c cc nL RX11 D cy A) (hO : Wo D A ws s.heap H locs) (q0 : Nat) (he : ws[q0]? = some (b, .inr (11, fs))) (hlen : 45 < fs.length) (hw : ws.set q0 (b, .inr (11, fs.set 45 (.int v))) = ws') (hdg : decode cc pc = .ok (.putfield 100, 3)) (kk : ∀ (H : Heap) (locs : List Loc), Wo D A ws' s.heap H locs → W p l e R s m args below meth c H locs cells slots Q (F0 m (pc + 3) ls rest)) : W p l e R s m args below meth c H locs cells slots Q (F0 m pc ls (.int v :: .ref b :: rest)) := pF (k := 45) (ty := .int) C hO q0 he rfl inFX11 (by decide) wd_1401 rfl tyX11 tyX11_ok nmX11 rfl (by decide +kernel) rfl rfl hlen hw hdg kk
theorem wd_1416 : (Cond.fieldLink "WebCourtModel" (136 : Nat) "WebCourtModel" "kept" "[I") ∈ gtb := gtb_c6 107 (by decide +kernel) rfl
theorem gf_RX11_136 {p : Program} {l : Launch} {e : Env} {R : Room} {s : State} {m : MethodId} {args : Array Value} {below : List Frame} {meth : Method} {c : Code} {H : Heap} {locs : List Loc} {cells slots : Nat} {Q : State → Prop} {cc : ByteArray} {pc nL : Nat} {ls : Array Slot} {rest : List Value} {D : va_G} {cy : Nat → ClassId} {A : Nat → Prop} {ws : va_W} {b : Nat} {fs : List Value} {v : Value} (C : Cx p s m args c cc nL RX11 D cy A) (hO : Wo D A ws s.heap H locs) (q0 : Nat) (he : ws[q0]? = some (b, .inr (11, fs))) (hv : fs[60]? = some v) (hdg : decode cc pc = .ok (.getfield 136, 3)) (kk : W p l e R s m args below meth c H locs cells slots Q (F0 m (pc + 3) ls (v :: rest))) : W p l e R s m args below meth c H locs cells slots Q (F0 m pc ls (.ref b :: rest)) := gF (k := 60) C hO q0 he rfl inFX11 (by decide) wd_1416 rfl hv hdg kk
theorem Km22_A6 {u v : St} (h : Km22 u v) : fA v 6 = fA u 6 := h.2.2.2.2.2.2.2.2.2.2.2.2.2.2.2.2.2.2.2.2.2.2.2.2.2.1
theorem wd_1409 : (Cond.fieldLink "WebCourtModel" (115 : Nat) "WebCourtModel" "verdictIf" "[I") ∈ gtb := gtb_c6 100 (by decide +kernel) rfl
theorem gf_RX11_115 {p : Program} {l : Launch} {e : Env} {R : Room} {s : State} {m : MethodId} {args : Array Value} {below : List Frame} {meth : Method} {c : Code} {H : Heap} {locs : List Loc} {cells slots : Nat} {Q : State → Prop} {cc : ByteArray} {pc nL : Nat} {ls : Array Slot} {rest : List Value} {D : va_G} {cy : Nat → ClassId} {A : Nat → Prop} {ws : va_W} {b : Nat} {fs : List Value} {v : Value} (C : Cx p s m args c cc nL RX11 D cy A) (hO : Wo D A ws s.heap H locs) (q0 : Nat) (he : ws[q0]? = some (b, .inr (11, fs))) (hv : fs[53]? = some v) (hdg : decode cc pc = .ok (.getfield 115, 3)) (kk : W p l e R s m args below meth c H locs cells slots Q (F0 m (pc + 3) ls (v :: rest))) : W p l e R s m args below meth c H locs cells slots Q (F0 m pc ls (.ref b :: rest)) := gF (k := 53) C hO q0 he rfl inFX11 (by decide) wd_1409 rfl hv hdg kk
theorem Km2_to_Km22 {u v : St} (h : Km2 u v) : Km22 u v := ⟨h.1, h.2.1, h.2.2.1, h.2.2.2.1, h.2.2.2.2.1, h.2.2.2.2.2.1, h.2.2.2.2.2.2.1, h.2.2.2.2.2.2.2.1, h.2.2.2.2.2.2.2.2.1, h.2.2.2.2.2.2.2.2.2.1, h.2.2.2.2.2.2.2.2.2.2.1, h.2.2.2.2.2.2.2.2.2.2.2.1, h.2.2.2.2.2.2.2.2.2.2.2.2.1, h.2.2.2.2.2.2.2.2.2.2.2.2.2.1, h.2.2.2.2.2.2.2.2.2.2.2.2.2.2.1, h.2.2.2.2.2.2.2.2.2.2.2.2.2.2.2.2.1, h.2.2.2.2.2.2.2.2.2.2.2.2.2.2.2.2.2.1, h.2.2.2.2.2.2.2.2.2.2.2.2.2.2.2.2.2.2.1, h.2.2.2.2.2.2.2.2.2.2.2.2.2.2.2.2.2.2.2.1, h.2.2.2.2.2.2.2.2.2.2.2.2.2.2.2.2.2.2.2.2.1, h.2.2.2.2.2.2.2.2.2.2.2.2.2.2.2.2.2.2.2.2.2.1, h.2.2.2.2.2.2.2.2.2.2.2.2.2.2.2.2.2.2.2.2.2.2.1, h.2.2.2.2.2.2.2.2.2.2.2.2.2.2.2.2.2.2.2.2.2.2.2.1, h.2.2.2.2.2.2.2.2.2.2.2.2.2.2.2.2.2.2.2.2.2.2.2.2.1, h.2.2.2.2.2.2.2.2.2.2.2.2.2.2.2.2.2.2.2.2.2.2.2.2.2.1, h.2.2.2.2.2.2.2.2.2.2.2.2.2.2.2.2.2.2.2.2.2.2.2.2.2.2.1, h.2.2.2.2.2.2.2.2.2.2.2.2.2.2.2.2.2.2.2.2.2.2.2.2.2.2.2.1, h.2.2.2.2.2.2.2.2.2.2.2.2.2.2.2.2.2.2.2.2.2.2.2.2.2.2.2.2.1, h.2.2.2.2.2.2.2.2.2.2.2.2.2.2.2.2.2.2.2.2.2.2.2.2.2.2.2.2.2.1, h.2.2.2.2.2.2.2.2.2.2.2.2.2.2.2.2.2.2.2.2.2.2.2.2.2.2.2.2.2.2.1, h.2.2.2.2.2.2.2.2.2.2.2.2.2.2.2.2.2.2.2.2.2.2.2.2.2.2.2.2.2.2.2.1, h.2.2.2.2.2.2.2.2.2.2.2.2.2.2.2.2.2.2.2.2.2.2.2.2.2.2.2.2.2.2.2.2.1, h.2.2.2.2.2.2.2.2.2.2.2.2.2.2.2.2.2.2.2.2.2.2.2.2.2.2.2.2.2.2.2.2.2.1, h.2.2.2.2.2.2.2.2.2.2.2.2.2.2.2.2.2.2.2.2.2.2.2.2.2.2.2.2.2.2.2.2.2.2.1, h.2.2.2.2.2.2.2.2.2.2.2.2.2.2.2.2.2.2.2.2.2.2.2.2.2.2.2.2.2.2.2.2.2.2.2.1, h.2.2.2.2.2.2.2.2.2.2.2.2.2.2.2.2.2.2.2.2.2.2.2.2.2.2.2.2.2.2.2.2.2.2.2.2.1, h.2.2.2.2.2.2.2.2.2.2.2.2.2.2.2.2.2.2.2.2.2.2.2.2.2.2.2.2.2.2.2.2.2.2.2.2.2.1, h.2.2.2.2.2.2.2.2.2.2.2.2.2.2.2.2.2.2.2.2.2.2.2.2.2.2.2.2.2.2.2.2.2.2.2.2.2.2.1, h.2.2.2.2.2.2.2.2.2.2.2.2.2.2.2.2.2.2.2.2.2.2.2.2.2.2.2.2.2.2.2.2.2.2.2.2.2.2.2.1, h.2.2.2.2.2.2.2.2.2.2.2.2.2.2.2.2.2.2.2.2.2.2.2.2.2.2.2.2.2.2.2.2.2.2.2.2.2.2.2.2.1, h.2.2.2.2.2.2.2.2.2.2.2.2.2.2.2.2.2.2.2.2.2.2.2.2.2.2.2.2.2.2.2.2.2.2.2.2.2.2.2.2.2.1, h.2.2.2.2.2.2.2.2.2.2.2.2.2.2.2.2.2.2.2.2.2.2.2.2.2.2.2.2.2.2.2.2.2.2.2.2.2.2.2.2.2.2.1, h.2.2.2.2.2.2.2.2.2.2.2.2.2.2.2.2.2.2.2.2.2.2.2.2.2.2.2.2.2.2.2.2.2.2.2.2.2.2.2.2.2.2.2.1, h.2.2.2.2.2.2.2.2.2.2.2.2.2.2.2.2.2.2.2.2.2.2.2.2.2.2.2.2.2.2.2.2.2.2.2.2.2.2.2.2.2.2.2.2.1, h.2.2.2.2.2.2.2.2.2.2.2.2.2.2.2.2.2.2.2.2.2.2.2.2.2.2.2.2.2.2.2.2.2.2.2.2.2.2.2.2.2.2.2.2.2.1, h.2.2.2.2.2.2.2.2.2.2.2.2.2.2.2.2.2.2.2.2.2.2.2.2.2.2.2.2.2.2.2.2.2.2.2.2.2.2.2.2.2.2.2.2.2.2.1, h.2.2.2.2.2.2.2.2.2.2.2.2.2.2.2.2.2.2.2.2.2.2.2.2.2.2.2.2.2.2.2.2.2.2.2.2.2.2.2.2.2.2.2.2.2.2.2.2.1, h.2.2.2.2.2.2.2.2.2.2.2.2.2.2.2.2.2.2.2.2.2.2.2.2.2.2.2.2.2.2.2.2.2.2.2.2.2.2.2.2.2.2.2.2.2.2.2.2.2.1, h.2.2.2.2.2.2.2.2.2.2.2.2.2.2.2.2.2.2.2.2.2.2.2.2.2.2.2.2.2.2.2.2.2.2.2.2.2.2.2.2.2.2.2.2.2.2.2.2.2.2.1, h.2.2.2.2.2.2.2.2.2.2.2.2.2.2.2.2.2.2.2.2.2.2.2.2.2.2.2.2.2.2.2.2.2.2.2.2.2.2.2.2.2.2.2.2.2.2.2.2.2.2.2.1, h.2.2.2.2.2.2.2.2.2.2.2.2.2.2.2.2.2.2.2.2.2.2.2.2.2.2.2.2.2.2.2.2.2.2.2.2.2.2.2.2.2.2.2.2.2.2.2.2.2.2.2.2.2.1, h.2.2.2.2.2.2.2.2.2.2.2.2.2.2.2.2.2.2.2.2.2.2.2.2.2.2.2.2.2.2.2.2.2.2.2.2.2.2.2.2.2.2.2.2.2.2.2.2.2.2.2.2.2.2.1, h.2.2.2.2.2.2.2.2.2.2.2.2.2.2.2.2.2.2.2.2.2.2.2.2.2.2.2.2.2.2.2.2.2.2.2.2.2.2.2.2.2.2.2.2.2.2.2.2.2.2.2.2.2.2.2.1, h.2.2.2.2.2.2.2.2.2.2.2.2.2.2.2.2.2.2.2.2.2.2.2.2.2.2.2.2.2.2.2.2.2.2.2.2.2.2.2.2.2.2.2.2.2.2.2.2.2.2.2.2.2.2.2.2.1, h.2.2.2.2.2.2.2.2.2.2.2.2.2.2.2.2.2.2.2.2.2.2.2.2.2.2.2.2.2.2.2.2.2.2.2.2.2.2.2.2.2.2.2.2.2.2.2.2.2.2.2.2.2.2.2.2.2.1, h.2.2.2.2.2.2.2.2.2.2.2.2.2.2.2.2.2.2.2.2.2.2.2.2.2.2.2.2.2.2.2.2.2.2.2.2.2.2.2.2.2.2.2.2.2.2.2.2.2.2.2.2.2.2.2.2.2.2.1, h.2.2.2.2.2.2.2.2.2.2.2.2.2.2.2.2.2.2.2.2.2.2.2.2.2.2.2.2.2.2.2.2.2.2.2.2.2.2.2.2.2.2.2.2.2.2.2.2.2.2.2.2.2.2.2.2.2.2.2.2.1, h.2.2.2.2.2.2.2.2.2.2.2.2.2.2.2.2.2.2.2.2.2.2.2.2.2.2.2.2.2.2.2.2.2.2.2.2.2.2.2.2.2.2.2.2.2.2.2.2.2.2.2.2.2.2.2.2.2.2.2.2.2⟩
theorem Km2_A40 {u v : St} (h : Km2 u v) : fA v 40 = fA u 40 := h.2.2.2.2.2.2.2.2.2.2.2.2.2.2.2.2.2.2.2.2.2.2.2.2.2.2.2.2.2.2.2.2.2.2.2.2.2.2.2.2.2.2.2.2.2.2.2.2.2.2.2.2.2.2.2.2.2.2.2.1
set_option maxHeartbeats 4000000 in
set_option maxRecDepth 100000 in
theorem T_X11_layThought (l : Launch) (D : va_G) (cy : Nat → ClassId) (a : Nat → Nat) (u : St) (hJ : MI a u)   : Mv l D cy (mW cy a) yX11_layThought (.code yX11_layThought cX11_layThought 3 none) (rmo 7 153) [.ref (a 0)] u (fun (u' : St) => (MI a u') ∧ (Km22 u u')) := by
  refine Mv.of (own := RX11) rfl (by decide) (Nat.le_of_ble_eq_true rfl) ?_
  have hT : Km22 u u := Km22.rf
  have hJ0 := hJ
  intro p e s m below meth c A Q ls C hret hO hl
  obtain ⟨hx, hb, hml, hown, ht, hK, hA⟩ := id C
  have hl : lv_has ls 3 [(0, .ref (a 0))] := hl
  refine lv_iconst (v := 0) hx hb dX11_layThought_0 (by decide) ?_
  refine lv_istore_n (lv' := [(1, .int 0), (0, .ref (a 0))]) hx hb dX11_layThought_1 rfl hl (by decide) rfl (fun ls hl => ?_)
  have LP_2_k2 : ∀ (n : Nat) (u1 : St) (H : Heap) (locs : List Loc) (ls : Array Slot) (i_k2 : Int32), Wo D A (mW cy a u1) s.heap H locs → lv_has ls 3 [(1, .int i_k2), (0, .ref (a 0))] → MI a u1 → Km22 u u1 → 0 ≤ i_k2.toInt ∧ i_k2.toInt ≤ 29 → (25 ≤ i_k2.toInt → Sh (kN u) (fA u1 40 24)) → 29 - i_k2.toInt < (n : Int) → W p l e (rmo 7 153) s m [.ref (a 0)].toArray below meth c H locs 0 0 Q (F0 m 2 ls []) := by
    intro n
    induction n with
    | zero =>
      intro u1 H locs ls i_k2 hO hl hJ hT iv0_k2 cv0_k2 hm_k2
      exact absurd hm_k2 (by omega)
    | succ n ih_k2 =>
      intro u1 H locs ls i_k2 hO hl hJ hT iv0_k2 cv0_k2 hm_k2
      refine lv_iload_n hx hb dX11_layThought_2 rfl (lv_at hl 0 rfl) ?_
      refine lv_bipush (v := 29) hx hb dX11_layThought_3 (by decide) ?_
      refine cs_ge (tgt := 26) (X := (i_k2).toInt) (Y := 29) hx hb dX11_layThought_5 (by decide) rfl rfl (fun c3 => ?_) (fun c3 => ?_)
      · have hk40 : Sh (kN u) (fA u1 40 24) := cv0_k2 (by omega)
        refine lv_aload_n hx hb dX11_layThought_26 rfl (lv_at hl 1 rfl) ?_
        have g4 : 0 ≤ (fI u 0 36).toInt ∧ (fI u 0 36).toInt ≤ 1 := by have h := MI_36 hJ0; exact h
        have g5 : 0 ≤ (fA u 3 ((fI u 0 36)).toNatClampNeg).toInt ∧ (fA u 3 ((fI u 0 36)).toNatClampNeg).toInt ≤ 8 := by have h := MI_A3 hJ0 ((fI u 0 36)).toNatClampNeg; exact h
        refine cVv (w := mW cy a) (As := []) (rest := []) C hO (T_X11_layTold l D cy a _ (by exact MI.b hJ) ((fA u 3 ((fI u 0 36)).toNatClampNeg)) (by exact (Eq.trans (congrArg (fun z : Int32 => fA _ 3 z.toNatClampNeg) (Km22_I36 hT)) (congrFun (Km22_A3 hT) _)))) (cwV 0 ht (gV wd_1344 wd_1346 wd_45 wd_121 wd_1347) rfl rfl rfl hd_yX11_layTold ⟨Nat.le_of_ble_eq_true rfl, Nat.le_of_ble_eq_true rfl⟩) 0 rfl mW_0 rfl rfl hl.1 (Nat.le_of_ble_eq_true rfl) dX11_layThought_27 rfl ⟨Nat.zero_le _, Nat.zero_le _⟩ (fun u7 H locs hp8 hO => ?_)
        have hkp : kN u1 = (fA u 3 ((fI u 0 36)).toNatClampNeg) := by exact (Eq.trans (congrArg (fun z : Int32 => fA _ 3 z.toNatClampNeg) (Km22_I36 hT)) (congrFun (Km22_A3 hT) _))
        have hJp : MI a u1 := hJ
        have g9 : 0 ≤ (fI u 0 3).toInt ∧ (fI u 0 3).toInt ≤ 1600 := by have h := MI_3 hJ0; exact h
        have g10 : 0 ≤ (fI u 0 4).toInt ∧ (fI u 0 4).toInt ≤ 5 := by have h := MI_4 hJ0; exact h
        have g11 : 0 ≤ (fI u 0 6).toInt ∧ (fI u 0 6).toInt ≤ 1600 := by have h := MI_6 hJ0; exact h
        have g12 : 0 ≤ (fI u 0 7).toInt ∧ (fI u 0 7).toInt ≤ 1601 := by have h := MI_7 hJ0; exact h
        have g13 : 0 ≤ (fI u 0 8).toInt ∧ (fI u 0 8).toInt ≤ 5 := by have h := MI_8 hJ0; exact h
        have g14 : 0 ≤ (fI u 0 37).toInt ∧ (fI u 0 37).toInt ≤ 1 := by have h := MI_37 hJ0; exact h
        have g15 : 0 ≤ (fI u1 0 42).toInt ∧ (fI u1 0 42).toInt ≤ 5 := by have h := MI_42 hJ; exact h
        have g16 : 0 ≤ (fI u 0 47).toInt ∧ (fI u 0 47).toInt ≤ 40 := by have h := MI_47 hJ0; exact h
        have g17 : 0 ≤ (fI u 0 48).toInt ∧ (fI u 0 48).toInt ≤ 40 := by have h := MI_48 hJ0; exact h
        have g18 : 0 ≤ (fI u 0 50).toInt ∧ (fI u 0 50).toInt ≤ 8 := by have h := MI_50 hJ0; exact h
        have g19 : 0 ≤ (fI u 0 61).toInt ∧ (fI u 0 61).toInt ≤ 30 := by have h := MI_61 hJ0; exact h
        have g20 : 0 ≤ (fI u 0 62).toInt ∧ (fI u 0 62).toInt ≤ 100000 := by have h := MI_62 hJ0; exact h
        obtain ⟨hJ, hTu7, hx0u7⟩ := hp8
        have hT : Km22 u u7 := Km22.tr (by exact hT) (Km14_to_Km22 hTu7)
        have hI_0_3_u7 : fI u7 0 3 = (fI u 0 3) := Eq.trans (hTu7.2.1) ((Km22_I3 hT))
        have hI_0_4_u7 : fI u7 0 4 = (fI u 0 4) := Eq.trans (hTu7.2.2.1) ((Km22_I4 hT))
        have hI_0_6_u7 : fI u7 0 6 = (fI u 0 6) := Eq.trans (hTu7.2.2.2.2.1) ((Km22_I6 hT))
        have hI_0_7_u7 : fI u7 0 7 = (fI u 0 7) := Eq.trans (hTu7.2.2.2.2.2.1) ((Km22_I7 hT))
        have hI_0_8_u7 : fI u7 0 8 = (fI u 0 8) := Eq.trans (hTu7.2.2.2.2.2.2.1) ((Km22_I8 hT))
        have hI_0_36_u7 : fI u7 0 36 = (fI u 0 36) := Eq.trans (hTu7.2.2.2.2.2.2.2.2.2.1) ((Km22_I36 hT))
        have hI_0_37_u7 : fI u7 0 37 = (fI u 0 37) := Eq.trans (hTu7.2.2.2.2.2.2.2.2.2.2.1) ((Km22_I37 hT))
        have hI_0_42_u7 : fI u7 0 42 = (fI u1 0 42) := hTu7.2.2.2.2.2.2.2.2.2.2.2.2.2.2.2.1
        have hI_0_47_u7 : fI u7 0 47 = (fI u 0 47) := Eq.trans (hTu7.2.2.2.2.2.2.2.2.2.2.2.2.2.2.2.2.2.2.1) ((Km22_I47 hT))
        have hI_0_48_u7 : fI u7 0 48 = (fI u 0 48) := Eq.trans (hTu7.2.2.2.2.2.2.2.2.2.2.2.2.2.2.2.2.2.2.2.1) ((Km22_I48 hT))
        have hI_0_50_u7 : fI u7 0 50 = (fI u 0 50) := Eq.trans (hTu7.2.2.2.2.2.2.2.2.2.2.2.2.2.2.2.2.2.2.2.2.1) ((Km22_I50 hT))
        have hI_0_61_u7 : fI u7 0 61 = (fI u 0 61) := Eq.trans (hTu7.2.2.2.2.2.2.2.2.2.2.2.2.2.2.2.2.2.2.2.2.2.1) ((Km22_I61 hT))
        have hI_0_62_u7 : fI u7 0 62 = (fI u 0 62) := Eq.trans (hTu7.2.2.2.2.2.2.2.2.2.2.2.2.2.2.2.2.2.2.2.2.2.2.1) ((Km22_I62 hT))
        have hJ := relay hJp hJ (kN_eq (Km14_A3 hTu7) (Km14_I36 hTu7)) (by rw [(kN_eq (Km14_A3 hTu7) (Km14_I36 hTu7)).trans hkp]; exact hx0u7) (Km14_A29 hTu7) (Km14_A41 hTu7) (Km14_A42 hTu7) (Km14_I47 hTu7) (Km14_I48 hTu7)
        have hk40 : Sh (kN u) (fA u7 40 24) := by rw [Km14_A40 hTu7]; exact hk40
        refine lv_iconst (v := 0) hx hb dX11_layThought_30 (by decide) ?_
        refine lv_istore_n (lv' := [(1, .int 0), (0, .ref (a 0))]) hx hb dX11_layThought_31 rfl hl (by decide) rfl (fun ls hl => ?_)
        have LP_32_k22 : ∀ (n : Nat) (u21 : St) (H : Heap) (locs : List Loc) (ls : Array Slot) (v_k22 : Int32), Wo D A (mW cy a u21) s.heap H locs → lv_has ls 3 [(1, .int v_k22), (0, .ref (a 0))] → MI a u21 → Km22 u u21 → 0 ≤ v_k22.toInt ∧ v_k22.toInt ≤ 31 → (Sh (kN u) (fA u21 40 24)) → 31 - v_k22.toInt < (n : Int) → W p l e (rmo 7 153) s m [.ref (a 0)].toArray below meth c H locs 0 0 Q (F0 m 32 ls []) := by
          intro n
          induction n with
          | zero =>
            intro u21 H locs ls v_k22 hO hl hJ hT iv0_k22 cv0_k22 hm_k22
            exact absurd hm_k22 (by omega)
          | succ n ih_k22 =>
            intro u21 H locs ls v_k22 hO hl hJ hT iv0_k22 cv0_k22 hm_k22
            have hk40 := cv0_k22
            refine lv_iload_n hx hb dX11_layThought_32 rfl (lv_at hl 0 rfl) ?_
            refine lv_bipush (v := 30) hx hb dX11_layThought_33 (by decide) ?_
            refine cs_gt (tgt := 81) (X := (v_k22).toInt) (Y := 30) hx hb dX11_layThought_35 (by decide) rfl rfl (fun c23 => ?_) (fun c23 => ?_)
            · refine lv_aload_n hx hb dX11_layThought_81 rfl (lv_at hl 1 rfl) ?_
              refine lv_iconst (v := (-1)) hx hb dX11_layThought_82 (by decide) ?_
              refine pf_RX11_100 C hO 0 mW_0 (Nat.le_of_ble_eq_true rfl) mW_s0_45 dX11_layThought_83 (fun H locs hO => ?_)
              have hJ := MIs_45 (v := (-1)) hJ
              refine lv_iconst (v := 0) hx hb dX11_layThought_86 (by decide) ?_
              refine lv_istore_n (lv' := [(1, .int 0), (0, .ref (a 0))]) hx hb dX11_layThought_87 rfl hl (by decide) rfl (fun ls hl => ?_)
              have LP_88_k25 : ∀ (n : Nat) (u24 : St) (H : Heap) (locs : List Loc) (ls : Array Slot) (i_k25 : Int32), Wo D A (mW cy a u24) s.heap H locs → lv_has ls 3 [(1, .int i_k25), (0, .ref (a 0))] → MI a u24 → Km22 u u24 → 0 ≤ i_k25.toInt ∧ i_k25.toInt ≤ 29 → (Sh (kN u) (fA u24 40 24)) → 29 - i_k25.toInt < (n : Int) → W p l e (rmo 7 153) s m [.ref (a 0)].toArray below meth c H locs 0 0 Q (F0 m 88 ls []) := by
                intro n
                induction n with
                | zero =>
                  intro u24 H locs ls i_k25 hO hl hJ hT iv0_k25 cv0_k25 hm_k25
                  exact absurd hm_k25 (by omega)
                | succ n ih_k25 =>
                  intro u24 H locs ls i_k25 hO hl hJ hT iv0_k25 cv0_k25 hm_k25
                  have hk40 := cv0_k25
                  refine lv_iload_n hx hb dX11_layThought_88 rfl (lv_at hl 0 rfl) ?_
                  refine lv_bipush (v := 29) hx hb dX11_layThought_89 (by decide) ?_
                  refine cs_ge (tgt := 112) (X := (i_k25).toInt) (Y := 29) hx hb dX11_layThought_91 (by decide) rfl rfl (fun c26 => ?_) (fun c26 => ?_)
                  · refine hret _ _ _ _ _ dX11_layThought_112 ?_ hO
                    exact ⟨hJ, hT⟩
                  · refine lv_aload_n hx hb dX11_layThought_94 rfl (lv_at hl 1 rfl) ?_
                    refine gf_RX11_97 (v := .ref (a 28)) C hO 0 mW_0 rfl dX11_layThought_95 ?_
                    refine lv_iload_n hx hb dX11_layThought_98 rfl (lv_at hl 0 rfl) ?_
                    refine lv_aload_n hx hb dX11_layThought_99 rfl (lv_at hl 1 rfl) ?_
                    refine gf_RX11_136 (v := .ref (a 40)) C hO 0 mW_0 rfl dX11_layThought_100 ?_
                    refine lv_iload_n hx hb dX11_layThought_103 rfl (lv_at hl 0 rfl) ?_
                    refine aI C hO 40 mW_40 (i_in (X := (i_k25).toInt) rfl (by omega) (by omega)) dX11_layThought_104 ?_
                    refine tE (y := (fA u24 40 (i_k25).toNatClampNeg)) (by exact rfl) ?_
                    refine aIs C hO 28 mW_28 (i_in (X := (i_k25).toInt) rfl (by omega) (by omega)) mW_s28 dX11_layThought_105 (fun H locs hO => ?_)
                    have hJ := MIsA_28 hO hJ (by rw [show kN _ = kN u from (kN_eq (Km22_A3 hT) (Km22_I36 hT))]; by_cases q : i_k25.toInt = 24; · exact Or.inr (by rw [i_cn (n := 24) q]; exact hk40); · exact Or.inl (i_ck rfl (by omega) (by omega)))
                    have e27 : ((i_k25 + 1)).toInt = (i_k25).toInt + 1 := i_add rfl rfl (by omega)
                    refine lv_iinc (v := (i_k25 + 1)) (lv' := [(1, .int (i_k25 + 1)), (0, .ref (a 0))]) hx hb dX11_layThought_106 hl (k := 0) rfl rfl (by decide) rfl (fun ls hl => ?_)
                    refine lv_goto (tgt := 88) hx hb dX11_layThought_109 (by decide) ?_
                    exact ih_k25 _ _ _ _ ((i_k25 + 1)) hO (lv_sub hl [0, 1] rfl) (by exact hJ) (by exact hT) (by first | decide | omega) (by exact hk40) (by first | decide | omega)
              have zc28 : (0 : Int32).toInt = 0 := rfl
              exact LP_88_k25 4000 _ _ _ _ (0) hO (lv_sub hl [0, 1] rfl) (by exact hJ) (by exact hT) (by first | decide | omega) (by exact hk40) (by first | decide | omega)
            · refine lv_aload_n hx hb dX11_layThought_38 rfl (lv_at hl 1 rfl) ?_
              refine lv_iload_n hx hb dX11_layThought_39 rfl (lv_at hl 0 rfl) ?_
              refine pf_RX11_100 C hO 0 mW_0 (Nat.le_of_ble_eq_true rfl) mW_s0_45 dX11_layThought_40 (fun H locs hO => ?_)
              have hJ := MIs_45 (v := v_k22) hJ
              refine lv_iconst (v := 0) hx hb dX11_layThought_43 (by decide) ?_
              refine lv_istore_n (lv' := [(2, .int 0), (1, .int v_k22), (0, .ref (a 0))]) hx hb dX11_layThought_44 rfl hl (by decide) rfl (fun ls hl => ?_)
              have LP_45_k30 : ∀ (n : Nat) (u29 : St) (H : Heap) (locs : List Loc) (ls : Array Slot) (i_k30 : Int32), Wo D A (mW cy a u29) s.heap H locs → lv_has ls 3 [(2, .int i_k30), (1, .int v_k22), (0, .ref (a 0))] → MI a u29 → Km22 u u29 → 0 ≤ i_k30.toInt ∧ i_k30.toInt ≤ 6 → (Sh (kN u) (fA u29 40 24)) → 6 - i_k30.toInt < (n : Int) → W p l e (rmo 7 153) s m [.ref (a 0)].toArray below meth c H locs 0 0 Q (F0 m 45 ls []) := by
                intro n
                induction n with
                | zero =>
                  intro u29 H locs ls i_k30 hO hl hJ hT iv0_k30 cv0_k30 hm_k30
                  exact absurd hm_k30 (by omega)
                | succ n ih_k30 =>
                  intro u29 H locs ls i_k30 hO hl hJ hT iv0_k30 cv0_k30 hm_k30
                  have hk40 := cv0_k30
                  refine lv_iload_n hx hb dX11_layThought_45 rfl (lv_at hl 0 rfl) ?_
                  refine lv_aload_n hx hb dX11_layThought_46 rfl (lv_at hl 2 rfl) ?_
                  have g31 : 0 ≤ (fI u 0 36).toInt ∧ (fI u 0 36).toInt ≤ 1 := by have h := MI_36 hJ0; exact h
                  have g32 : 0 ≤ (fA u 6 ((fI u 0 36)).toNatClampNeg).toInt ∧ (fA u 6 ((fI u 0 36)).toNatClampNeg).toInt ≤ 6 := by have h := MI_A6 hJ0 ((fI u 0 36)).toNatClampNeg; exact h
                  refine cVi (w := mW cy a) (As := []) (rest := [.int i_k30]) C hO (T_X11_many l D cy a _ (by exact hJ) ((fA u 6 ((fI u 0 36)).toNatClampNeg)) (by exact (Eq.trans (congrArg (fun z : Int32 => fA _ 6 z.toNatClampNeg) (Km22_I36 hT)) (congrFun (Km22_A6 hT) _)))) (cwV 0 ht (gV wd_1348 wd_1350 wd_46 wd_121 wd_1351) rfl rfl rfl hd_yX11_many ⟨Nat.le_of_ble_eq_true rfl, Nat.le_of_ble_eq_true rfl⟩) 0 rfl mW_0 rfl rfl hl.1 (Nat.le_of_ble_eq_true rfl) dX11_layThought_47 rfl ⟨Nat.zero_le _, Nat.zero_le _⟩ (fun r33 u34 H locs hp35 hO => ?_)
                  obtain ⟨hr33, hu34⟩ := hp35
                  refine tE hr33 ?_
                  rw [hu34] at hO
                  refine cs_ge (tgt := 75) (X := (i_k30).toInt) (Y := ((fA u 6 ((fI u 0 36)).toNatClampNeg)).toInt) hx hb dX11_layThought_50 (by decide) rfl rfl (fun c36 => ?_) (fun c36 => ?_)
                  · have e37 : ((v_k22 + 1)).toInt = (v_k22).toInt + 1 := i_add rfl rfl (by omega)
                    refine lv_iinc (v := (v_k22 + 1)) (lv' := [(1, .int (v_k22 + 1)), (2, .int i_k30), (0, .ref (a 0))]) hx hb dX11_layThought_75 hl (k := 1) rfl rfl (by decide) rfl (fun ls hl => ?_)
                    refine lv_goto (tgt := 32) hx hb dX11_layThought_78 (by decide) ?_
                    exact ih_k22 _ _ _ _ ((v_k22 + 1)) hO (lv_sub hl [0, 2] rfl) (by exact hJ) (by exact hT) (by first | decide | omega) (by exact hk40) (by first | decide | omega)
                  · refine lv_aload_n hx hb dX11_layThought_53 rfl (lv_at hl 2 rfl) ?_
                    refine gf_RX11_115 (v := .ref (a 33)) C hO 0 mW_0 rfl dX11_layThought_54 ?_
                    refine lv_bipush (v := 6) hx hb dX11_layThought_57 (by decide) ?_
                    refine lv_iload_n hx hb dX11_layThought_59 rfl (lv_at hl 1 rfl) ?_
                    have e38 : ((6 * v_k22)).toInt = 6 * (v_k22).toInt := i_mul rfl rfl (by omega)
                    refine lv_imul hx hb dX11_layThought_60 ?_
                    refine lv_iload_n hx hb dX11_layThought_61 rfl (lv_at hl 0 rfl) ?_
                    have e39 : (((6 * v_k22) + i_k30)).toInt = (6 * (v_k22).toInt) + (i_k30).toInt := i_add e38 rfl (by omega)
                    refine lv_iadd hx hb dX11_layThought_62 ?_
                    refine lv_aload_n hx hb dX11_layThought_63 rfl (lv_at hl 2 rfl) ?_
                    refine lv_iload_n hx hb dX11_layThought_64 rfl (lv_at hl 0 rfl) ?_
                    refine cVi (w := mW cy a) (As := [.int i_k30]) (rest := [.int ((6 * v_k22) + i_k30), .ref (a 33)]) C hO (T_X11_verdictOf l D cy a _ (by exact hJ) (i_k30) (by first | omega | decide)) (cwV 1 ht (gV wd_1761 wd_1763 wd_84 wd_121 wd_1764) rfl rfl rfl hd_yX11_verdictOf ⟨Nat.le_of_ble_eq_true rfl, Nat.le_of_ble_eq_true rfl⟩) 0 rfl mW_0 rfl rfl hl.1 (Nat.le_of_ble_eq_true rfl) dX11_layThought_65 rfl ⟨Nat.zero_le _, Nat.zero_le _⟩ (fun r40 u41 H locs hp42 hO => ?_)
                    have g43 : 0 ≤ (fI u 0 3).toInt ∧ (fI u 0 3).toInt ≤ 1600 := by have h := MI_3 hJ0; exact h
                    have g44 : 0 ≤ (fI u 0 4).toInt ∧ (fI u 0 4).toInt ≤ 5 := by have h := MI_4 hJ0; exact h
                    have g45 : 0 ≤ (fI u 0 6).toInt ∧ (fI u 0 6).toInt ≤ 1600 := by have h := MI_6 hJ0; exact h
                    have g46 : 0 ≤ (fI u 0 7).toInt ∧ (fI u 0 7).toInt ≤ 1601 := by have h := MI_7 hJ0; exact h
                    have g47 : 0 ≤ (fI u 0 8).toInt ∧ (fI u 0 8).toInt ≤ 5 := by have h := MI_8 hJ0; exact h
                    have g48 : 0 ≤ (fI u 0 37).toInt ∧ (fI u 0 37).toInt ≤ 1 := by have h := MI_37 hJ0; exact h
                    have g49 : 0 ≤ (fI u 0 47).toInt ∧ (fI u 0 47).toInt ≤ 40 := by have h := MI_47 hJ0; exact h
                    have g50 : 0 ≤ (fI u 0 48).toInt ∧ (fI u 0 48).toInt ≤ 40 := by have h := MI_48 hJ0; exact h
                    have g51 : 0 ≤ (fI u 0 50).toInt ∧ (fI u 0 50).toInt ≤ 8 := by have h := MI_50 hJ0; exact h
                    have g52 : 0 ≤ (fI u 0 61).toInt ∧ (fI u 0 61).toInt ≤ 30 := by have h := MI_61 hJ0; exact h
                    have g53 : 0 ≤ (fI u 0 62).toInt ∧ (fI u 0 62).toInt ≤ 100000 := by have h := MI_62 hJ0; exact h
                    obtain ⟨hJ, hTu41⟩ := hp42
                    have hT : Km22 u u41 := Km22.tr (by exact hT) (Km2_to_Km22 hTu41)
                    have hI_0_3_u41 : fI u41 0 3 = (fI u 0 3) := Eq.trans (hTu41.2.1) ((Km22_I3 hT))
                    have hI_0_4_u41 : fI u41 0 4 = (fI u 0 4) := Eq.trans (hTu41.2.2.1) ((Km22_I4 hT))
                    have hI_0_6_u41 : fI u41 0 6 = (fI u 0 6) := Eq.trans (hTu41.2.2.2.2.1) ((Km22_I6 hT))
                    have hI_0_7_u41 : fI u41 0 7 = (fI u 0 7) := Eq.trans (hTu41.2.2.2.2.2.1) ((Km22_I7 hT))
                    have hI_0_8_u41 : fI u41 0 8 = (fI u 0 8) := Eq.trans (hTu41.2.2.2.2.2.2.1) ((Km22_I8 hT))
                    have hI_0_36_u41 : fI u41 0 36 = (fI u 0 36) := Eq.trans (hTu41.2.2.2.2.2.2.2.2.2.1) ((Km22_I36 hT))
                    have hI_0_37_u41 : fI u41 0 37 = (fI u 0 37) := Eq.trans (hTu41.2.2.2.2.2.2.2.2.2.2.1) ((Km22_I37 hT))
                    have hI_0_47_u41 : fI u41 0 47 = (fI u 0 47) := Eq.trans (hTu41.2.2.2.2.2.2.2.2.2.2.2.2.2.2.2.2.1) ((Km22_I47 hT))
                    have hI_0_48_u41 : fI u41 0 48 = (fI u 0 48) := Eq.trans (hTu41.2.2.2.2.2.2.2.2.2.2.2.2.2.2.2.2.2.1) ((Km22_I48 hT))
                    have hI_0_50_u41 : fI u41 0 50 = (fI u 0 50) := Eq.trans (hTu41.2.2.2.2.2.2.2.2.2.2.2.2.2.2.2.2.2.2.1) ((Km22_I50 hT))
                    have hI_0_61_u41 : fI u41 0 61 = (fI u 0 61) := Eq.trans (hTu41.2.2.2.2.2.2.2.2.2.2.2.2.2.2.2.2.2.2.2.1) ((Km22_I61 hT))
                    have hI_0_62_u41 : fI u41 0 62 = (fI u 0 62) := Eq.trans (hTu41.2.2.2.2.2.2.2.2.2.2.2.2.2.2.2.2.2.2.2.2.1) ((Km22_I62 hT))
                    have hk40 : Sh (kN u) (fA u41 40 24) := by rw [Km2_A40 hTu41]; exact hk40
                    refine aIs C hO 33 mW_33 (i_in (X := ((6 * (v_k22).toInt) + (i_k30).toInt)) e39 (by omega) (by omega)) mW_s33 dX11_layThought_68 (fun H locs hO => ?_)
                    have hJ := MIsA_33 hO hJ
                    have e54 : ((i_k30 + 1)).toInt = (i_k30).toInt + 1 := i_add rfl rfl (by omega)
                    refine lv_iinc (v := (i_k30 + 1)) (lv' := [(2, .int (i_k30 + 1)), (1, .int v_k22), (0, .ref (a 0))]) hx hb dX11_layThought_69 hl (k := 0) rfl rfl (by decide) rfl (fun ls hl => ?_)
                    refine lv_goto (tgt := 45) hx hb dX11_layThought_72 (by decide) ?_
                    exact ih_k30 _ _ _ _ ((i_k30 + 1)) hO (lv_sub hl [0, 1, 2] rfl) (by exact hJ) (by exact hT) (by first | decide | omega) (by exact hk40) (by first | decide | omega)
              have zc55 : (0 : Int32).toInt = 0 := rfl
              exact LP_45_k30 4000 _ _ _ _ (0) hO (lv_sub hl [0, 1, 2] rfl) (by exact hJ) (by exact hT) (by first | decide | omega) (by exact hk40) (by first | decide | omega)
        have zc56 : (0 : Int32).toInt = 0 := rfl
        exact LP_32_k22 4000 _ _ _ _ (0) hO (lv_sub hl [0, 1] rfl) (by exact hJ) (by exact hT) (by first | decide | omega) (by exact hk40) (by first | decide | omega)
      · refine lv_aload_n hx hb dX11_layThought_8 rfl (lv_at hl 1 rfl) ?_
        refine gf_RX11_136 (v := .ref (a 40)) C hO 0 mW_0 rfl dX11_layThought_9 ?_
        refine lv_iload_n hx hb dX11_layThought_12 rfl (lv_at hl 0 rfl) ?_
        refine lv_aload_n hx hb dX11_layThought_13 rfl (lv_at hl 1 rfl) ?_
        refine gf_RX11_97 (v := .ref (a 28)) C hO 0 mW_0 rfl dX11_layThought_14 ?_
        refine lv_iload_n hx hb dX11_layThought_17 rfl (lv_at hl 0 rfl) ?_
        refine aI C hO 28 mW_28 (i_in (X := (i_k2).toInt) rfl (by omega) (by omega)) dX11_layThought_18 ?_
        refine tE (y := (fA u1 28 (i_k2).toNatClampNeg)) (by exact rfl) ?_
        refine aIs C hO 40 mW_40 (i_in (X := (i_k2).toInt) rfl (by omega) (by omega)) mW_s40 dX11_layThought_19 (fun H locs hO => ?_)
        have hJ := MIsA_40 hO hJ
        have hq := kp4 (P := Sh (kN u)) (k := i_k2) (v := (fA u1 28 (i_k2).toNatClampNeg)) cv0_k2 (by omega) (by omega) (fun h => she_at hJ (kN_eq (Km22_A3 hT) (Km22_I36 hT)) h rfl)
        have e57 : ((i_k2 + 1)).toInt = (i_k2).toInt + 1 := i_add rfl rfl (by omega)
        refine lv_iinc (v := (i_k2 + 1)) (lv' := [(1, .int (i_k2 + 1)), (0, .ref (a 0))]) hx hb dX11_layThought_20 hl (k := 0) rfl rfl (by decide) rfl (fun ls hl => ?_)
        refine lv_goto (tgt := 2) hx hb dX11_layThought_23 (by decide) ?_
        exact ih_k2 _ _ _ _ ((i_k2 + 1)) hO (lv_sub hl [0, 1] rfl) (by exact hJ) (by exact hT) (by first | decide | omega) (by exact fun h => hq (by omega)) (by first | decide | omega)
  have zc58 : (0 : Int32).toInt = 0 := rfl
  exact LP_2_k2 4000 _ _ _ _ (0) hO (lv_sub hl [0, 1] rfl) (by exact hJ) (by exact hT) (by first | decide | omega) (by exact fun h => absurd h (by decide)) (by first | decide | omega)
theorem dX11_doesFit_0 : decode cX11_doesFit 0 = .ok (.iconst 0, 1) := by decide +kernel
theorem dX11_doesFit_1 : decode cX11_doesFit 1 = .ok (.istore_n 3, 1) := by decide +kernel
theorem dX11_doesFit_2 : decode cX11_doesFit 2 = .ok (.iload_n 3, 1) := by decide +kernel
theorem dX11_doesFit_3 : decode cX11_doesFit 3 = .ok (.aload_n 0, 1) := by decide +kernel
theorem dX11_doesFit_4 : decode cX11_doesFit 4 = .ok (.getfield 395, 3) := by decide +kernel
theorem dX11_doesFit_7 : decode cX11_doesFit 7 = .ok (.if_icmp .ge 86, 3) := by decide +kernel
theorem dX11_doesFit_10 : decode cX11_doesFit 10 = .ok (.aload_n 0, 1) := by decide +kernel
theorem dX11_doesFit_11 : decode cX11_doesFit 11 = .ok (.getfield 127, 3) := by decide +kernel
theorem dX11_doesFit_14 : decode cX11_doesFit 14 = .ok (.iload_n 3, 1) := by decide +kernel
theorem dX11_doesFit_15 : decode cX11_doesFit 15 = .ok (.iaload, 1) := by decide +kernel
theorem dX11_doesFit_16 : decode cX11_doesFit 16 = .ok (.iload_n 2, 1) := by decide +kernel
theorem dX11_doesFit_17 : decode cX11_doesFit 17 = .ok (.if_icmp .gt 70, 3) := by decide +kernel
theorem dX11_doesFit_20 : decode cX11_doesFit 20 = .ok (.aload_n 0, 1) := by decide +kernel
theorem dX11_doesFit_21 : decode cX11_doesFit 21 = .ok (.getfield 130, 3) := by decide +kernel
theorem dX11_doesFit_24 : decode cX11_doesFit 24 = .ok (.iload_n 3, 1) := by decide +kernel
theorem dX11_doesFit_25 : decode cX11_doesFit 25 = .ok (.iaload, 1) := by decide +kernel
theorem dX11_doesFit_26 : decode cX11_doesFit 26 = .ok (.ifCond .lt 16, 3) := by decide +kernel
theorem dX11_doesFit_29 : decode cX11_doesFit 29 = .ok (.aload_n 0, 1) := by decide +kernel
theorem dX11_doesFit_30 : decode cX11_doesFit 30 = .ok (.getfield 130, 3) := by decide +kernel
theorem dX11_doesFit_33 : decode cX11_doesFit 33 = .ok (.iload_n 3, 1) := by decide +kernel
theorem dX11_doesFit_34 : decode cX11_doesFit 34 = .ok (.iaload, 1) := by decide +kernel
theorem dX11_doesFit_35 : decode cX11_doesFit 35 = .ok (.iload_n 2, 1) := by decide +kernel
theorem dX11_doesFit_36 : decode cX11_doesFit 36 = .ok (.if_icmp .gt 6, 3) := by decide +kernel
theorem dX11_doesFit_39 : decode cX11_doesFit 39 = .ok (.goto 48, 3) := by decide +kernel
theorem dX11_doesFit_42 : decode cX11_doesFit 42 = .ok (.aload_n 0, 1) := by decide +kernel
theorem dX11_doesFit_43 : decode cX11_doesFit 43 = .ok (.getfield 115, 3) := by decide +kernel
theorem dX11_doesFit_46 : decode cX11_doesFit 46 = .ok (.bipush 6, 2) := by decide +kernel
theorem dX11_doesFit_48 : decode cX11_doesFit 48 = .ok (.iload_n 1, 1) := by decide +kernel
theorem dX11_doesFit_49 : decode cX11_doesFit 49 = .ok (.imul, 1) := by decide +kernel
theorem dX11_doesFit_50 : decode cX11_doesFit 50 = .ok (.aload_n 0, 1) := by decide +kernel
theorem dX11_doesFit_51 : decode cX11_doesFit 51 = .ok (.getfield 118, 3) := by decide +kernel
theorem dX11_doesFit_54 : decode cX11_doesFit 54 = .ok (.iload_n 3, 1) := by decide +kernel
theorem dX11_doesFit_55 : decode cX11_doesFit 55 = .ok (.iaload, 1) := by decide +kernel
theorem dX11_doesFit_56 : decode cX11_doesFit 56 = .ok (.iadd, 1) := by decide +kernel
theorem dX11_doesFit_57 : decode cX11_doesFit 57 = .ok (.iaload, 1) := by decide +kernel
theorem dX11_doesFit_58 : decode cX11_doesFit 58 = .ok (.aload_n 0, 1) := by decide +kernel
theorem dX11_doesFit_59 : decode cX11_doesFit 59 = .ok (.getfield 121, 3) := by decide +kernel
theorem dX11_doesFit_62 : decode cX11_doesFit 62 = .ok (.iload_n 3, 1) := by decide +kernel
theorem dX11_doesFit_63 : decode cX11_doesFit 63 = .ok (.iaload, 1) := by decide +kernel
theorem dX11_doesFit_64 : decode cX11_doesFit 64 = .ok (.if_icmp .lt 7, 3) := by decide +kernel
theorem dX11_doesFit_67 : decode cX11_doesFit 67 = .ok (.iconst 1, 1) := by decide +kernel
theorem dX11_doesFit_68 : decode cX11_doesFit 68 = .ok (.goto 4, 3) := by decide +kernel
theorem dX11_doesFit_71 : decode cX11_doesFit 71 = .ok (.iconst 0, 1) := by decide +kernel
theorem dX11_doesFit_72 : decode cX11_doesFit 72 = .ok (.istore 4, 2) := by decide +kernel
theorem dX11_doesFit_74 : decode cX11_doesFit 74 = .ok (.iload 4, 2) := by decide +kernel
theorem dX11_doesFit_76 : decode cX11_doesFit 76 = .ok (.aload_n 0, 1) := by decide +kernel
theorem dX11_doesFit_77 : decode cX11_doesFit 77 = .ok (.getfield 124, 3) := by decide +kernel
theorem dX11_doesFit_80 : decode cX11_doesFit 80 = .ok (.iload_n 3, 1) := by decide +kernel
theorem dX11_doesFit_81 : decode cX11_doesFit 81 = .ok (.iaload, 1) := by decide +kernel
theorem dX11_doesFit_82 : decode cX11_doesFit 82 = .ok (.if_icmp .eq 5, 3) := by decide +kernel
theorem dX11_doesFit_85 : decode cX11_doesFit 85 = .ok (.iconst 0, 1) := by decide +kernel
theorem dX11_doesFit_86 : decode cX11_doesFit 86 = .ok (.ireturn, 1) := by decide +kernel
theorem dX11_doesFit_87 : decode cX11_doesFit 87 = .ok (.iinc 3 1, 3) := by decide +kernel
theorem dX11_doesFit_90 : decode cX11_doesFit 90 = .ok (.goto (-88), 3) := by decide +kernel
theorem dX11_doesFit_93 : decode cX11_doesFit 93 = .ok (.iconst 1, 1) := by decide +kernel
theorem dX11_doesFit_94 : decode cX11_doesFit 94 = .ok (.ireturn, 1) := by decide +kernel
theorem wd_2002 : (Cond.code ⟨"WebCourtModel", "doesFit", "(II)Z"⟩ prog_13_method_115_code (5 : Nat) (Option.some FieldType.boolean)) ∈ gtb := gtb_c8 213 (by decide +kernel) rfl
set_option maxHeartbeats 4000000 in
set_option maxRecDepth 100000 in
theorem T_X11_doesFit (l : Launch) (D : va_G) (cy : Nat → ClassId) (a : Nat → Nat) (u : St) (hJ : MI a u) (x1 : Int32) (x2 : Int32) (hx_x1 : 0 ≤ x1.toInt ∧ x1.toInt ≤ 30) : Mi l D cy (mW cy a) yX11_doesFit (.code yX11_doesFit cX11_doesFit 5 (some .boolean)) (rmo 0 0) [.ref (a 0), .int x1, .int x2] u (fun (r : Int32) (u' : St) => ((fitF u x1 x2 ∧ r = 1) ∨ (¬ fitF u x1 x2 ∧ r = 0)) ∧ (u' = u)) := by
  refine Mi.of (own := RX11) rfl (by decide) (Nat.le_of_ble_eq_true rfl) ?_
  have hT : Km0 u u := Km0.rf
  have hJ0 := hJ
  intro p e s m below meth c A Q ls C hret hO hl
  obtain ⟨hx, hb, hml, hown, ht, hK, hA⟩ := id C
  have hl : lv_has ls 5 [(0, .ref (a 0)), (1, .int x1), (2, .int x2)] := hl
  refine lv_iconst (v := 0) hx hb dX11_doesFit_0 (by decide) ?_
  refine lv_istore_n (lv' := [(3, .int 0), (0, .ref (a 0)), (1, .int x1), (2, .int x2)]) hx hb dX11_doesFit_1 rfl hl (by decide) rfl (fun ls hl => ?_)
  have LP_2_k1 : ∀ (n : Nat) (H : Heap) (locs : List Loc) (ls : Array Slot) (i_k1 : Int32), Wo D A (mW cy a u) s.heap H locs → lv_has ls 5 [(3, .int i_k1), (0, .ref (a 0)), (1, .int x1), (2, .int x2)] → 0 ≤ i_k1.toInt ∧ i_k1.toInt ≤ 30 → (∀ n : Nat, (n : Int) < i_k1.toInt → okF u x1 x2 n) → 30 - i_k1.toInt < (n : Int) → W p l e (rmo 0 0) s m [.ref (a 0), .int x1, .int x2].toArray below meth c H locs 0 0 Q (F0 m 2 ls []) := by
    intro n
    induction n with
    | zero =>
      intro H locs ls i_k1 hO hl iv0_k1 cv0_k1 hm_k1
      exact absurd hm_k1 (by omega)
    | succ n ih_k1 =>
      intro H locs ls i_k1 hO hl iv0_k1 cv0_k1 hm_k1
      have hci := i_cnz (x := i_k1) (by omega)
      refine lv_iload_n hx hb dX11_doesFit_2 rfl (lv_at hl 0 rfl) ?_
      refine lv_aload_n hx hb dX11_doesFit_3 rfl (lv_at hl 1 rfl) ?_
      have g2 : 0 ≤ (fI u 0 61).toInt ∧ (fI u 0 61).toInt ≤ 30 := by have h := MI_61 hJ0; exact h
      refine gf_RX11_395 (v := .int (fI u 0 61)) C hO 0 mW_0 rfl dX11_doesFit_4 ?_
      refine cs_ge (tgt := 93) (X := (i_k1).toInt) (Y := ((fI u 0 61)).toInt) hx hb dX11_doesFit_7 (by decide) rfl rfl (fun c3 => ?_) (fun c3 => ?_)
      · refine lv_iconst (v := 1) hx hb dX11_doesFit_93 (by decide) ?_
        refine hret _ _ _ _ _ _ dX11_doesFit_94 rfl ?_ hO
        exact ⟨Or.inl ⟨fun n hn => cv0_k1 n (by omega), rfl⟩, rfl⟩
      · refine lv_aload_n hx hb dX11_doesFit_10 rfl (lv_at hl 1 rfl) ?_
        refine gf_RX11_127 (v := .ref (a 37)) C hO 0 mW_0 rfl dX11_doesFit_11 ?_
        refine lv_iload_n hx hb dX11_doesFit_14 rfl (lv_at hl 0 rfl) ?_
        refine aI C hO 37 mW_37 (i_in (X := (i_k1).toInt) rfl (by omega) (by omega)) dX11_doesFit_15 ?_
        refine tE (y := (fA u 37 (i_k1).toNatClampNeg)) (by exact rfl) ?_
        refine lv_iload_n hx hb dX11_doesFit_16 rfl (lv_at hl 3 rfl) ?_
        refine cs_gt (tgt := 87) (X := ((fA u 37 (i_k1).toNatClampNeg)).toInt) (Y := (x2).toInt) hx hb dX11_doesFit_17 (by decide) rfl rfl (fun c4 => ?_) (fun c4 => ?_)
        · have e5 : ((i_k1 + 1)).toInt = (i_k1).toInt + 1 := i_add rfl rfl (by omega)
          refine lv_iinc (v := (i_k1 + 1)) (lv' := [(3, .int (i_k1 + 1)), (0, .ref (a 0)), (1, .int x1), (2, .int x2)]) hx hb dX11_doesFit_87 hl (k := 0) rfl rfl (by decide) rfl (fun ls hl => ?_)
          refine lv_goto (tgt := 2) hx hb dX11_doesFit_90 (by decide) ?_
          exact ih_k1 _ _ _ ((i_k1 + 1)) hO (lv_sub hl [0, 1, 2, 3] rfl) (by first | decide | omega) (by exact fun n hn => by by_cases q : (n : Int) < i_k1.toInt; · exact cv0_k1 n q; · rw [show n = (i_k1).toNatClampNeg by omega]; unfold okF; omega) (by first | decide | omega)
        · refine lv_aload_n hx hb dX11_doesFit_20 rfl (lv_at hl 1 rfl) ?_
          refine gf_RX11_130 (v := .ref (a 38)) C hO 0 mW_0 rfl dX11_doesFit_21 ?_
          refine lv_iload_n hx hb dX11_doesFit_24 rfl (lv_at hl 0 rfl) ?_
          refine aI C hO 38 mW_38 (i_in (X := (i_k1).toInt) rfl (by omega) (by omega)) dX11_doesFit_25 ?_
          refine tE (y := (fA u 38 (i_k1).toNatClampNeg)) (by exact rfl) ?_
          refine bs_lt (tgt := 42) (X := ((fA u 38 (i_k1).toNatClampNeg)).toInt) hx hb dX11_doesFit_26 (by decide) rfl (fun c6 => ?_) (fun c6 => ?_)
          · refine lv_aload_n hx hb dX11_doesFit_42 rfl (lv_at hl 1 rfl) ?_
            refine gf_RX11_115 (v := .ref (a 33)) C hO 0 mW_0 rfl dX11_doesFit_43 ?_
            refine lv_bipush (v := 6) hx hb dX11_doesFit_46 (by decide) ?_
            refine lv_iload_n hx hb dX11_doesFit_48 rfl (lv_at hl 2 rfl) ?_
            have e7 : ((6 * x1)).toInt = 6 * (x1).toInt := i_mul rfl rfl (by omega)
            refine lv_imul hx hb dX11_doesFit_49 ?_
            refine lv_aload_n hx hb dX11_doesFit_50 rfl (lv_at hl 1 rfl) ?_
            refine gf_RX11_118 (v := .ref (a 34)) C hO 0 mW_0 rfl dX11_doesFit_51 ?_
            refine lv_iload_n hx hb dX11_doesFit_54 rfl (lv_at hl 0 rfl) ?_
            refine aI C hO 34 mW_34 (i_in (X := (i_k1).toInt) rfl (by omega) (by omega)) dX11_doesFit_55 ?_
            have g8 : 0 ≤ (fA u 34 (i_k1).toNatClampNeg).toInt ∧ (fA u 34 (i_k1).toNatClampNeg).toInt ≤ 5 := by have h := MI_A34 hJ0 (i_k1).toNatClampNeg; exact h
            refine tE (y := (fA u 34 (i_k1).toNatClampNeg)) (by exact rfl) ?_
            have e9 : (((6 * x1) + (fA u 34 (i_k1).toNatClampNeg))).toInt = (6 * (x1).toInt) + ((fA u 34 (i_k1).toNatClampNeg)).toInt := i_add e7 rfl (by omega)
            refine lv_iadd hx hb dX11_doesFit_56 ?_
            refine aI C hO 33 mW_33 (i_in (X := ((6 * (x1).toInt) + ((fA u 34 (i_k1).toNatClampNeg)).toInt)) e9 (by omega) (by omega)) dX11_doesFit_57 ?_
            refine tE (y := (fA u 33 (((6 * x1) + (fA u 34 (i_k1).toNatClampNeg))).toNatClampNeg)) (by exact rfl) ?_
            refine lv_aload_n hx hb dX11_doesFit_58 rfl (lv_at hl 1 rfl) ?_
            refine gf_RX11_121 (v := .ref (a 35)) C hO 0 mW_0 rfl dX11_doesFit_59 ?_
            refine lv_iload_n hx hb dX11_doesFit_62 rfl (lv_at hl 0 rfl) ?_
            refine aI C hO 35 mW_35 (i_in (X := (i_k1).toInt) rfl (by omega) (by omega)) dX11_doesFit_63 ?_
            refine tE (y := (fA u 35 (i_k1).toNatClampNeg)) (by exact rfl) ?_
            refine cs_lt (tgt := 71) (X := ((fA u 33 (((6 * x1) + (fA u 34 (i_k1).toNatClampNeg))).toNatClampNeg)).toInt) (Y := ((fA u 35 (i_k1).toNatClampNeg)).toInt) hx hb dX11_doesFit_64 (by decide) rfl rfl (fun c10 => ?_) (fun c10 => ?_)
            · refine lv_iconst (v := 0) hx hb dX11_doesFit_71 (by decide) ?_
              refine lv_istore (lv' := [(4, .int 0), (3, .int i_k1), (0, .ref (a 0)), (1, .int x1), (2, .int x2)]) hx hb dX11_doesFit_72 hl (by decide) rfl (fun ls hl => ?_)
              refine lv_iload hx hb dX11_doesFit_74 (lv_at hl 0 rfl) ?_
              refine lv_aload_n hx hb dX11_doesFit_76 rfl (lv_at hl 2 rfl) ?_
              refine gf_RX11_124 (v := .ref (a 36)) C hO 0 mW_0 rfl dX11_doesFit_77 ?_
              refine lv_iload_n hx hb dX11_doesFit_80 rfl (lv_at hl 1 rfl) ?_
              refine aI C hO 36 mW_36 (i_in (X := (i_k1).toInt) rfl (by omega) (by omega)) dX11_doesFit_81 ?_
              refine tE (y := (fA u 36 (i_k1).toNatClampNeg)) (by exact rfl) ?_
              refine cs_eq (tgt := 87) (X := 0) (Y := ((fA u 36 (i_k1).toNatClampNeg)).toInt) hx hb dX11_doesFit_82 (by decide) rfl rfl (fun c11 => ?_) (fun c11 => ?_)
              · have e12 : ((i_k1 + 1)).toInt = (i_k1).toInt + 1 := i_add rfl rfl (by omega)
                refine lv_iinc (v := (i_k1 + 1)) (lv' := [(3, .int (i_k1 + 1)), (4, .int 0), (0, .ref (a 0)), (1, .int x1), (2, .int x2)]) hx hb dX11_doesFit_87 hl (k := 1) rfl rfl (by decide) rfl (fun ls hl => ?_)
                refine lv_goto (tgt := 2) hx hb dX11_doesFit_90 (by decide) ?_
                exact ih_k1 _ _ _ ((i_k1 + 1)) hO (lv_sub hl [0, 2, 3, 4] rfl) (by first | decide | omega) (by exact fun n hn => by by_cases q : (n : Int) < i_k1.toInt; · exact cv0_k1 n q; · rw [show n = (i_k1).toNatClampNeg by omega]; unfold okF; omega) (by first | decide | omega)
              · refine lv_iconst (v := 0) hx hb dX11_doesFit_85 (by decide) ?_
                refine hret _ _ _ _ _ _ dX11_doesFit_86 rfl ?_ hO
                exact ⟨Or.inr ⟨fun h => absurd (h (i_k1).toNatClampNeg (by omega)) (by unfold okF; omega), rfl⟩, rfl⟩
            · refine lv_iconst (v := 1) hx hb dX11_doesFit_67 (by decide) ?_
              refine lv_goto (tgt := 72) hx hb dX11_doesFit_68 (by decide) ?_
              refine lv_istore (lv' := [(4, .int 1), (3, .int i_k1), (0, .ref (a 0)), (1, .int x1), (2, .int x2)]) hx hb dX11_doesFit_72 hl (by decide) rfl (fun ls hl => ?_)
              refine lv_iload hx hb dX11_doesFit_74 (lv_at hl 0 rfl) ?_
              refine lv_aload_n hx hb dX11_doesFit_76 rfl (lv_at hl 2 rfl) ?_
              refine gf_RX11_124 (v := .ref (a 36)) C hO 0 mW_0 rfl dX11_doesFit_77 ?_
              refine lv_iload_n hx hb dX11_doesFit_80 rfl (lv_at hl 1 rfl) ?_
              refine aI C hO 36 mW_36 (i_in (X := (i_k1).toInt) rfl (by omega) (by omega)) dX11_doesFit_81 ?_
              refine tE (y := (fA u 36 (i_k1).toNatClampNeg)) (by exact rfl) ?_
              refine cs_eq (tgt := 87) (X := 1) (Y := ((fA u 36 (i_k1).toNatClampNeg)).toInt) hx hb dX11_doesFit_82 (by decide) rfl rfl (fun c13 => ?_) (fun c13 => ?_)
              · have e14 : ((i_k1 + 1)).toInt = (i_k1).toInt + 1 := i_add rfl rfl (by omega)
                refine lv_iinc (v := (i_k1 + 1)) (lv' := [(3, .int (i_k1 + 1)), (4, .int 1), (0, .ref (a 0)), (1, .int x1), (2, .int x2)]) hx hb dX11_doesFit_87 hl (k := 1) rfl rfl (by decide) rfl (fun ls hl => ?_)
                refine lv_goto (tgt := 2) hx hb dX11_doesFit_90 (by decide) ?_
                exact ih_k1 _ _ _ ((i_k1 + 1)) hO (lv_sub hl [0, 2, 3, 4] rfl) (by first | decide | omega) (by exact fun n hn => by by_cases q : (n : Int) < i_k1.toInt; · exact cv0_k1 n q; · rw [show n = (i_k1).toNatClampNeg by omega]; unfold okF; omega) (by first | decide | omega)
              · refine lv_iconst (v := 0) hx hb dX11_doesFit_85 (by decide) ?_
                refine hret _ _ _ _ _ _ dX11_doesFit_86 rfl ?_ hO
                exact ⟨Or.inr ⟨fun h => absurd (h (i_k1).toNatClampNeg (by omega)) (by unfold okF; omega), rfl⟩, rfl⟩
          · refine lv_aload_n hx hb dX11_doesFit_29 rfl (lv_at hl 1 rfl) ?_
            refine gf_RX11_130 (v := .ref (a 38)) C hO 0 mW_0 rfl dX11_doesFit_30 ?_
            refine lv_iload_n hx hb dX11_doesFit_33 rfl (lv_at hl 0 rfl) ?_
            refine aI C hO 38 mW_38 (i_in (X := (i_k1).toInt) rfl (by omega) (by omega)) dX11_doesFit_34 ?_
            refine tE (y := (fA u 38 (i_k1).toNatClampNeg)) (by exact rfl) ?_
            refine lv_iload_n hx hb dX11_doesFit_35 rfl (lv_at hl 3 rfl) ?_
            refine cs_gt (tgt := 42) (X := ((fA u 38 (i_k1).toNatClampNeg)).toInt) (Y := (x2).toInt) hx hb dX11_doesFit_36 (by decide) rfl rfl (fun c15 => ?_) (fun c15 => ?_)
            · refine lv_aload_n hx hb dX11_doesFit_42 rfl (lv_at hl 1 rfl) ?_
              refine gf_RX11_115 (v := .ref (a 33)) C hO 0 mW_0 rfl dX11_doesFit_43 ?_
              refine lv_bipush (v := 6) hx hb dX11_doesFit_46 (by decide) ?_
              refine lv_iload_n hx hb dX11_doesFit_48 rfl (lv_at hl 2 rfl) ?_
              have e16 : ((6 * x1)).toInt = 6 * (x1).toInt := i_mul rfl rfl (by omega)
              refine lv_imul hx hb dX11_doesFit_49 ?_
              refine lv_aload_n hx hb dX11_doesFit_50 rfl (lv_at hl 1 rfl) ?_
              refine gf_RX11_118 (v := .ref (a 34)) C hO 0 mW_0 rfl dX11_doesFit_51 ?_
              refine lv_iload_n hx hb dX11_doesFit_54 rfl (lv_at hl 0 rfl) ?_
              refine aI C hO 34 mW_34 (i_in (X := (i_k1).toInt) rfl (by omega) (by omega)) dX11_doesFit_55 ?_
              have g17 : 0 ≤ (fA u 34 (i_k1).toNatClampNeg).toInt ∧ (fA u 34 (i_k1).toNatClampNeg).toInt ≤ 5 := by have h := MI_A34 hJ0 (i_k1).toNatClampNeg; exact h
              refine tE (y := (fA u 34 (i_k1).toNatClampNeg)) (by exact rfl) ?_
              have e18 : (((6 * x1) + (fA u 34 (i_k1).toNatClampNeg))).toInt = (6 * (x1).toInt) + ((fA u 34 (i_k1).toNatClampNeg)).toInt := i_add e16 rfl (by omega)
              refine lv_iadd hx hb dX11_doesFit_56 ?_
              refine aI C hO 33 mW_33 (i_in (X := ((6 * (x1).toInt) + ((fA u 34 (i_k1).toNatClampNeg)).toInt)) e18 (by omega) (by omega)) dX11_doesFit_57 ?_
              refine tE (y := (fA u 33 (((6 * x1) + (fA u 34 (i_k1).toNatClampNeg))).toNatClampNeg)) (by exact rfl) ?_
              refine lv_aload_n hx hb dX11_doesFit_58 rfl (lv_at hl 1 rfl) ?_
              refine gf_RX11_121 (v := .ref (a 35)) C hO 0 mW_0 rfl dX11_doesFit_59 ?_
              refine lv_iload_n hx hb dX11_doesFit_62 rfl (lv_at hl 0 rfl) ?_
              refine aI C hO 35 mW_35 (i_in (X := (i_k1).toInt) rfl (by omega) (by omega)) dX11_doesFit_63 ?_
              refine tE (y := (fA u 35 (i_k1).toNatClampNeg)) (by exact rfl) ?_
              refine cs_lt (tgt := 71) (X := ((fA u 33 (((6 * x1) + (fA u 34 (i_k1).toNatClampNeg))).toNatClampNeg)).toInt) (Y := ((fA u 35 (i_k1).toNatClampNeg)).toInt) hx hb dX11_doesFit_64 (by decide) rfl rfl (fun c19 => ?_) (fun c19 => ?_)
              · refine lv_iconst (v := 0) hx hb dX11_doesFit_71 (by decide) ?_
                refine lv_istore (lv' := [(4, .int 0), (3, .int i_k1), (0, .ref (a 0)), (1, .int x1), (2, .int x2)]) hx hb dX11_doesFit_72 hl (by decide) rfl (fun ls hl => ?_)
                refine lv_iload hx hb dX11_doesFit_74 (lv_at hl 0 rfl) ?_
                refine lv_aload_n hx hb dX11_doesFit_76 rfl (lv_at hl 2 rfl) ?_
                refine gf_RX11_124 (v := .ref (a 36)) C hO 0 mW_0 rfl dX11_doesFit_77 ?_
                refine lv_iload_n hx hb dX11_doesFit_80 rfl (lv_at hl 1 rfl) ?_
                refine aI C hO 36 mW_36 (i_in (X := (i_k1).toInt) rfl (by omega) (by omega)) dX11_doesFit_81 ?_
                refine tE (y := (fA u 36 (i_k1).toNatClampNeg)) (by exact rfl) ?_
                refine cs_eq (tgt := 87) (X := 0) (Y := ((fA u 36 (i_k1).toNatClampNeg)).toInt) hx hb dX11_doesFit_82 (by decide) rfl rfl (fun c20 => ?_) (fun c20 => ?_)
                · have e21 : ((i_k1 + 1)).toInt = (i_k1).toInt + 1 := i_add rfl rfl (by omega)
                  refine lv_iinc (v := (i_k1 + 1)) (lv' := [(3, .int (i_k1 + 1)), (4, .int 0), (0, .ref (a 0)), (1, .int x1), (2, .int x2)]) hx hb dX11_doesFit_87 hl (k := 1) rfl rfl (by decide) rfl (fun ls hl => ?_)
                  refine lv_goto (tgt := 2) hx hb dX11_doesFit_90 (by decide) ?_
                  exact ih_k1 _ _ _ ((i_k1 + 1)) hO (lv_sub hl [0, 2, 3, 4] rfl) (by first | decide | omega) (by exact fun n hn => by by_cases q : (n : Int) < i_k1.toInt; · exact cv0_k1 n q; · rw [show n = (i_k1).toNatClampNeg by omega]; unfold okF; omega) (by first | decide | omega)
                · refine lv_iconst (v := 0) hx hb dX11_doesFit_85 (by decide) ?_
                  refine hret _ _ _ _ _ _ dX11_doesFit_86 rfl ?_ hO
                  exact ⟨Or.inr ⟨fun h => absurd (h (i_k1).toNatClampNeg (by omega)) (by unfold okF; omega), rfl⟩, rfl⟩
              · refine lv_iconst (v := 1) hx hb dX11_doesFit_67 (by decide) ?_
                refine lv_goto (tgt := 72) hx hb dX11_doesFit_68 (by decide) ?_
                refine lv_istore (lv' := [(4, .int 1), (3, .int i_k1), (0, .ref (a 0)), (1, .int x1), (2, .int x2)]) hx hb dX11_doesFit_72 hl (by decide) rfl (fun ls hl => ?_)
                refine lv_iload hx hb dX11_doesFit_74 (lv_at hl 0 rfl) ?_
                refine lv_aload_n hx hb dX11_doesFit_76 rfl (lv_at hl 2 rfl) ?_
                refine gf_RX11_124 (v := .ref (a 36)) C hO 0 mW_0 rfl dX11_doesFit_77 ?_
                refine lv_iload_n hx hb dX11_doesFit_80 rfl (lv_at hl 1 rfl) ?_
                refine aI C hO 36 mW_36 (i_in (X := (i_k1).toInt) rfl (by omega) (by omega)) dX11_doesFit_81 ?_
                refine tE (y := (fA u 36 (i_k1).toNatClampNeg)) (by exact rfl) ?_
                refine cs_eq (tgt := 87) (X := 1) (Y := ((fA u 36 (i_k1).toNatClampNeg)).toInt) hx hb dX11_doesFit_82 (by decide) rfl rfl (fun c22 => ?_) (fun c22 => ?_)
                · have e23 : ((i_k1 + 1)).toInt = (i_k1).toInt + 1 := i_add rfl rfl (by omega)
                  refine lv_iinc (v := (i_k1 + 1)) (lv' := [(3, .int (i_k1 + 1)), (4, .int 1), (0, .ref (a 0)), (1, .int x1), (2, .int x2)]) hx hb dX11_doesFit_87 hl (k := 1) rfl rfl (by decide) rfl (fun ls hl => ?_)
                  refine lv_goto (tgt := 2) hx hb dX11_doesFit_90 (by decide) ?_
                  exact ih_k1 _ _ _ ((i_k1 + 1)) hO (lv_sub hl [0, 2, 3, 4] rfl) (by first | decide | omega) (by exact fun n hn => by by_cases q : (n : Int) < i_k1.toInt; · exact cv0_k1 n q; · rw [show n = (i_k1).toNatClampNeg by omega]; unfold okF; omega) (by first | decide | omega)
                · refine lv_iconst (v := 0) hx hb dX11_doesFit_85 (by decide) ?_
                  refine hret _ _ _ _ _ _ dX11_doesFit_86 rfl ?_ hO
                  exact ⟨Or.inr ⟨fun h => absurd (h (i_k1).toNatClampNeg (by omega)) (by unfold okF; omega), rfl⟩, rfl⟩
            · refine lv_goto (tgt := 87) hx hb dX11_doesFit_39 (by decide) ?_
              have e24 : ((i_k1 + 1)).toInt = (i_k1).toInt + 1 := i_add rfl rfl (by omega)
              refine lv_iinc (v := (i_k1 + 1)) (lv' := [(3, .int (i_k1 + 1)), (0, .ref (a 0)), (1, .int x1), (2, .int x2)]) hx hb dX11_doesFit_87 hl (k := 0) rfl rfl (by decide) rfl (fun ls hl => ?_)
              refine lv_goto (tgt := 2) hx hb dX11_doesFit_90 (by decide) ?_
              exact ih_k1 _ _ _ ((i_k1 + 1)) hO (lv_sub hl [0, 1, 2, 3] rfl) (by first | decide | omega) (by exact fun n hn => by by_cases q : (n : Int) < i_k1.toInt; · exact cv0_k1 n q; · rw [show n = (i_k1).toNatClampNeg by omega]; unfold okF; omega) (by first | decide | omega)
  have zc25 : (0 : Int32).toInt = 0 := rfl
  exact LP_2_k1 4000 _ _ _ (0) hO (lv_sub hl [0, 1, 2, 3] rfl) (by first | decide | omega) (by exact fun n hn => absurd hn (by have z0 : (0 : Int32).toInt = 0 := rfl; omega)) (by first | decide | omega)
theorem dX11_fits_0 : decode cX11_fits 0 = .ok (.aload_n 0, 1) := by decide +kernel
theorem dX11_fits_1 : decode cX11_fits 1 = .ok (.invokevirtual 377, 3) := by decide +kernel
theorem dX11_fits_4 : decode cX11_fits 4 = .ok (.ifCond .ne 5, 3) := by decide +kernel
theorem dX11_fits_7 : decode cX11_fits 7 = .ok (.iconst 0, 1) := by decide +kernel
theorem dX11_fits_8 : decode cX11_fits 8 = .ok (.ireturn, 1) := by decide +kernel
theorem dX11_fits_9 : decode cX11_fits 9 = .ok (.aload_n 0, 1) := by decide +kernel
theorem dX11_fits_10 : decode cX11_fits 10 = .ok (.invokevirtual 488, 3) := by decide +kernel
theorem dX11_fits_13 : decode cX11_fits 13 = .ok (.iconst 0, 1) := by decide +kernel
theorem dX11_fits_14 : decode cX11_fits 14 = .ok (.istore_n 2, 1) := by decide +kernel
theorem dX11_fits_15 : decode cX11_fits 15 = .ok (.iconst 0, 1) := by decide +kernel
theorem dX11_fits_16 : decode cX11_fits 16 = .ok (.istore_n 3, 1) := by decide +kernel
theorem dX11_fits_17 : decode cX11_fits 17 = .ok (.iload_n 3, 1) := by decide +kernel
theorem dX11_fits_18 : decode cX11_fits 18 = .ok (.bipush 30, 2) := by decide +kernel
theorem dX11_fits_20 : decode cX11_fits 20 = .ok (.if_icmp .gt 26, 3) := by decide +kernel
theorem dX11_fits_23 : decode cX11_fits 23 = .ok (.iload_n 2, 1) := by decide +kernel
theorem dX11_fits_24 : decode cX11_fits 24 = .ok (.aload_n 0, 1) := by decide +kernel
theorem dX11_fits_25 : decode cX11_fits 25 = .ok (.iload_n 3, 1) := by decide +kernel
theorem dX11_fits_26 : decode cX11_fits 26 = .ok (.iload_n 1, 1) := by decide +kernel
theorem dX11_fits_27 : decode cX11_fits 27 = .ok (.invokevirtual 491, 3) := by decide +kernel
theorem dX11_fits_30 : decode cX11_fits 30 = .ok (.ifCond .eq 7, 3) := by decide +kernel
theorem dX11_fits_33 : decode cX11_fits 33 = .ok (.iconst 1, 1) := by decide +kernel
theorem dX11_fits_34 : decode cX11_fits 34 = .ok (.goto 4, 3) := by decide +kernel
theorem dX11_fits_37 : decode cX11_fits 37 = .ok (.iconst 0, 1) := by decide +kernel
theorem dX11_fits_38 : decode cX11_fits 38 = .ok (.iadd, 1) := by decide +kernel
theorem dX11_fits_39 : decode cX11_fits 39 = .ok (.istore_n 2, 1) := by decide +kernel
theorem dX11_fits_40 : decode cX11_fits 40 = .ok (.iinc 3 1, 3) := by decide +kernel
theorem dX11_fits_43 : decode cX11_fits 43 = .ok (.goto (-26), 3) := by decide +kernel
theorem dX11_fits_46 : decode cX11_fits 46 = .ok (.iload_n 2, 1) := by decide +kernel
theorem dX11_fits_47 : decode cX11_fits 47 = .ok (.ireturn, 1) := by decide +kernel
theorem wd_1994 : (Cond.code ⟨"WebCourtModel", "fits", "(I)I"⟩ prog_13_method_116_code (4 : Nat) (Option.some FieldType.int)) ∈ gtb := gtb_c8 205 (by decide +kernel) rfl
theorem wd_1995 : (Cond.methodLink "WebCourtModel" (488 : Nat) ⟨"WebCourtModel", "layThought", "()V"⟩) ∈ gtb := gtb_c8 206 (by decide +kernel) rfl
theorem wd_1997 : (Cond.instanceMethod ⟨"WebCourtModel", "layThought", "()V"⟩) ∈ gtb := gtb_c8 208 (by decide +kernel) rfl
theorem wd_106 : (Cond.selects "WebCourtModel" ⟨"WebCourtModel", "layThought", "()V"⟩ ⟨"WebCourtModel", "layThought", "()V"⟩) ∈ gtb := gtb_p 106 (by decide +kernel) rfl
theorem hd_yX11_layThought : yX11_layThought.cls = RX11 ∧ yX11_layThought.cls ≠ "java/lang/invoke/MethodHandle" ∧ yX11_layThought.cls ≠ "java/lang/invoke/VarHandle" ∧ (parseMethodDescriptor yX11_layThought.desc).map (fun d => d.parameters.length) = some 0 := by decide +kernel
theorem wd_1999 : (Cond.methodLink "WebCourtModel" (491 : Nat) ⟨"WebCourtModel", "doesFit", "(II)Z"⟩) ∈ gtb := gtb_c8 210 (by decide +kernel) rfl
theorem wd_2001 : (Cond.instanceMethod ⟨"WebCourtModel", "doesFit", "(II)Z"⟩) ∈ gtb := gtb_c8 212 (by decide +kernel) rfl
theorem wd_107 : (Cond.selects "WebCourtModel" ⟨"WebCourtModel", "doesFit", "(II)Z"⟩ ⟨"WebCourtModel", "doesFit", "(II)Z"⟩) ∈ gtb := gtb_p 107 (by decide +kernel) rfl
theorem hd_yX11_doesFit : yX11_doesFit.cls = RX11 ∧ yX11_doesFit.cls ≠ "java/lang/invoke/MethodHandle" ∧ yX11_doesFit.cls ≠ "java/lang/invoke/VarHandle" ∧ (parseMethodDescriptor yX11_doesFit.desc).map (fun d => d.parameters.length) = some 2 := by decide +kernel
set_option maxHeartbeats 4000000 in
set_option maxRecDepth 100000 in
theorem T_X11_fits (l : Launch) (D : va_G) (cy : Nat → ClassId) (a : Nat → Nat) (u : St) (hJ : MI a u) (x1 : Int32)  : Mi l D cy (mW cy a) yX11_fits (.code yX11_fits cX11_fits 4 (some .int)) (rmo 8 175) [.ref (a 0), .int x1] u (fun (r : Int32) (u' : St) => (MI a u') ∧ (Km22 u u') ∧ (r.toInt = 0 ∨ ∃ v : Int32, 0 ≤ v.toInt ∧ v.toInt ≤ 30 ∧ fitF u' v x1)) := by
  refine Mi.of (own := RX11) rfl (by decide) (Nat.le_of_ble_eq_true rfl) ?_
  have hT : Km22 u u := Km22.rf
  have hJ0 := hJ
  intro p e s m below meth c A Q ls C hret hO hl
  obtain ⟨hx, hb, hml, hown, ht, hK, hA⟩ := id C
  have hl : lv_has ls 4 [(0, .ref (a 0)), (1, .int x1)] := hl
  refine lv_aload_n hx hb dX11_fits_0 rfl (lv_at hl 0 rfl) ?_
  have g1 : 0 ≤ (fI u 0 36).toInt ∧ (fI u 0 36).toInt ≤ 1 := by have h := MI_36 hJ0; exact h
  have g2 : 0 ≤ (fA u 5 ((fI u 0 36)).toNatClampNeg).toInt ∧ (fA u 5 ((fI u 0 36)).toNatClampNeg).toInt ≤ 8 := by have h := MI_A5 hJ0 ((fI u 0 36)).toNatClampNeg; exact h
  refine cVi (w := mW cy a) (As := []) (rest := []) C hO (T_X11_pleads l D cy a _ (by exact hJ) ((fA u 5 ((fI u 0 36)).toNatClampNeg)) (by exact rfl)) (cwV 0 ht (gV wd_1745 wd_1747 wd_82 wd_121 wd_1748) rfl rfl rfl hd_yX11_pleads ⟨Nat.le_of_ble_eq_true rfl, Nat.le_of_ble_eq_true rfl⟩) 0 rfl mW_0 rfl rfl hl.1 (Nat.le_of_ble_eq_true rfl) dX11_fits_1 rfl ⟨Nat.zero_le _, Nat.zero_le _⟩ (fun r3 u4 H locs hp5 hO => ?_)
  obtain ⟨hr3, hu4⟩ := hp5
  refine tE hr3 ?_
  rw [hu4] at hO
  refine bs_ne (tgt := 9) (X := ((fA u 5 ((fI u 0 36)).toNatClampNeg)).toInt) hx hb dX11_fits_4 (by decide) rfl (fun c6 => ?_) (fun c6 => ?_)
  · refine lv_aload_n hx hb dX11_fits_9 rfl (lv_at hl 0 rfl) ?_
    refine cVv (w := mW cy a) (As := []) (rest := []) C hO (T_X11_layThought l D cy a _ (by exact hJ)) (cwV 0 ht (gV wd_1995 wd_1997 wd_106 wd_121 wd_1998) rfl rfl rfl hd_yX11_layThought ⟨Nat.le_of_ble_eq_true rfl, Nat.le_of_ble_eq_true rfl⟩) 0 rfl mW_0 rfl rfl hl.1 (Nat.le_of_ble_eq_true rfl) dX11_fits_10 rfl ⟨Nat.zero_le _, Nat.zero_le _⟩ (fun u8 H locs hp9 hO => ?_)
    have g10 : 0 ≤ (fI u 0 3).toInt ∧ (fI u 0 3).toInt ≤ 1600 := by have h := MI_3 hJ0; exact h
    have g11 : 0 ≤ (fI u 0 4).toInt ∧ (fI u 0 4).toInt ≤ 5 := by have h := MI_4 hJ0; exact h
    have g12 : 0 ≤ (fI u 0 6).toInt ∧ (fI u 0 6).toInt ≤ 1600 := by have h := MI_6 hJ0; exact h
    have g13 : 0 ≤ (fI u 0 7).toInt ∧ (fI u 0 7).toInt ≤ 1601 := by have h := MI_7 hJ0; exact h
    have g14 : 0 ≤ (fI u 0 8).toInt ∧ (fI u 0 8).toInt ≤ 5 := by have h := MI_8 hJ0; exact h
    have g15 : 0 ≤ (fI u 0 37).toInt ∧ (fI u 0 37).toInt ≤ 1 := by have h := MI_37 hJ0; exact h
    have g16 : 0 ≤ (fI u 0 47).toInt ∧ (fI u 0 47).toInt ≤ 40 := by have h := MI_47 hJ0; exact h
    have g17 : 0 ≤ (fI u 0 48).toInt ∧ (fI u 0 48).toInt ≤ 40 := by have h := MI_48 hJ0; exact h
    have g18 : 0 ≤ (fI u 0 50).toInt ∧ (fI u 0 50).toInt ≤ 8 := by have h := MI_50 hJ0; exact h
    have g19 : 0 ≤ (fI u 0 61).toInt ∧ (fI u 0 61).toInt ≤ 30 := by have h := MI_61 hJ0; exact h
    have g20 : 0 ≤ (fI u 0 62).toInt ∧ (fI u 0 62).toInt ≤ 100000 := by have h := MI_62 hJ0; exact h
    obtain ⟨hJ, hTu8⟩ := hp9
    have hT : Km22 u u8 := Km22.tr (by exact hT) hTu8
    have hI_0_3_u8 : fI u8 0 3 = (fI u 0 3) := hTu8.2.1
    have hI_0_4_u8 : fI u8 0 4 = (fI u 0 4) := hTu8.2.2.1
    have hI_0_6_u8 : fI u8 0 6 = (fI u 0 6) := hTu8.2.2.2.2.1
    have hI_0_7_u8 : fI u8 0 7 = (fI u 0 7) := hTu8.2.2.2.2.2.1
    have hI_0_8_u8 : fI u8 0 8 = (fI u 0 8) := hTu8.2.2.2.2.2.2.1
    have hI_0_36_u8 : fI u8 0 36 = (fI u 0 36) := hTu8.2.2.2.2.2.2.2.2.2.1
    have hI_0_37_u8 : fI u8 0 37 = (fI u 0 37) := hTu8.2.2.2.2.2.2.2.2.2.2.1
    have hI_0_47_u8 : fI u8 0 47 = (fI u 0 47) := hTu8.2.2.2.2.2.2.2.2.2.2.2.2.2.2.2.1
    have hI_0_48_u8 : fI u8 0 48 = (fI u 0 48) := hTu8.2.2.2.2.2.2.2.2.2.2.2.2.2.2.2.2.1
    have hI_0_50_u8 : fI u8 0 50 = (fI u 0 50) := hTu8.2.2.2.2.2.2.2.2.2.2.2.2.2.2.2.2.2.1
    have hI_0_61_u8 : fI u8 0 61 = (fI u 0 61) := hTu8.2.2.2.2.2.2.2.2.2.2.2.2.2.2.2.2.2.2.1
    have hI_0_62_u8 : fI u8 0 62 = (fI u 0 62) := hTu8.2.2.2.2.2.2.2.2.2.2.2.2.2.2.2.2.2.2.2.1
    refine lv_iconst (v := 0) hx hb dX11_fits_13 (by decide) ?_
    refine lv_istore_n (lv' := [(2, .int 0), (0, .ref (a 0)), (1, .int x1)]) hx hb dX11_fits_14 rfl hl (by decide) rfl (fun ls hl => ?_)
    refine lv_iconst (v := 0) hx hb dX11_fits_15 (by decide) ?_
    refine lv_istore_n (lv' := [(3, .int 0), (2, .int 0), (0, .ref (a 0)), (1, .int x1)]) hx hb dX11_fits_16 rfl hl (by decide) rfl (fun ls hl => ?_)
    have LP_17_k21 : ∀ (n : Nat) (H : Heap) (locs : List Loc) (ls : Array Slot) (v_k21 : Int32) (n_k21 : Int32), Wo D A (mW cy a u8) s.heap H locs → lv_has ls 4 [(3, .int v_k21), (2, .int n_k21), (0, .ref (a 0)), (1, .int x1)] → n_k21.toInt ≤ v_k21.toInt → 0 ≤ v_k21.toInt ∧ v_k21.toInt ≤ 31 → 0 ≤ n_k21.toInt ∧ n_k21.toInt ≤ 31 → (n_k21.toInt = 0 ∨ ∃ v : Int32, 0 ≤ v.toInt ∧ v.toInt ≤ 30 ∧ fitF u8 v x1) → 31 - v_k21.toInt < (n : Int) → W p l e (rmo 8 175) s m [.ref (a 0), .int x1].toArray below meth c H locs 0 0 Q (F0 m 17 ls []) := by
      intro n
      induction n with
      | zero =>
        intro H locs ls v_k21 n_k21 hO hl iv0_k21 iv1_k21 iv2_k21 cv0_k21 hm_k21
        exact absurd hm_k21 (by omega)
      | succ n ih_k21 =>
        intro H locs ls v_k21 n_k21 hO hl iv0_k21 iv1_k21 iv2_k21 cv0_k21 hm_k21
        refine lv_iload_n hx hb dX11_fits_17 rfl (lv_at hl 0 rfl) ?_
        refine lv_bipush (v := 30) hx hb dX11_fits_18 (by decide) ?_
        refine cs_gt (tgt := 46) (X := (v_k21).toInt) (Y := 30) hx hb dX11_fits_20 (by decide) rfl rfl (fun c22 => ?_) (fun c22 => ?_)
        · refine lv_iload_n hx hb dX11_fits_46 rfl (lv_at hl 1 rfl) ?_
          refine hret _ _ _ _ _ _ dX11_fits_47 rfl ?_ hO
          exact ⟨hJ, hT, cv0_k21⟩
        · refine lv_iload_n hx hb dX11_fits_23 rfl (lv_at hl 1 rfl) ?_
          refine lv_aload_n hx hb dX11_fits_24 rfl (lv_at hl 2 rfl) ?_
          refine lv_iload_n hx hb dX11_fits_25 rfl (lv_at hl 0 rfl) ?_
          refine lv_iload_n hx hb dX11_fits_26 rfl (lv_at hl 3 rfl) ?_
          refine cVi (w := mW cy a) (As := [.int v_k21, .int x1]) (rest := [.int n_k21]) C hO (T_X11_doesFit l D cy a _ (by exact hJ) (v_k21) (x1) (by first | omega | decide)) (cwV 2 ht (gV wd_1999 wd_2001 wd_107 wd_121 wd_2002) rfl rfl rfl hd_yX11_doesFit ⟨Nat.le_of_ble_eq_true rfl, Nat.le_of_ble_eq_true rfl⟩) 0 rfl mW_0 rfl rfl hl.1 (Nat.le_of_ble_eq_true rfl) dX11_fits_27 rfl ⟨Nat.zero_le _, Nat.zero_le _⟩ (fun r23 u24 H locs hp25 hO => ?_)
          obtain ⟨hr23, hu24⟩ := hp25
          rw [hu24] at hO
          rcases hr23 with ⟨hcr23, hvr23⟩ | ⟨hcr23, hvr23⟩
          · subst hvr23
            refine bn_eq (X := 1) hx hb dX11_fits_30 rfl (by omega) ?_ (tgt := 37) (by decide)
            refine lv_iconst (v := 1) hx hb dX11_fits_33 (by decide) ?_
            refine lv_goto (tgt := 38) hx hb dX11_fits_34 (by decide) ?_
            have e26 : ((n_k21 + 1)).toInt = (n_k21).toInt + 1 := i_add rfl rfl (by omega)
            refine lv_iadd hx hb dX11_fits_38 ?_
            refine lv_istore_n (lv' := [(2, .int (n_k21 + 1)), (3, .int v_k21), (0, .ref (a 0)), (1, .int x1)]) hx hb dX11_fits_39 rfl hl (by decide) rfl (fun ls hl => ?_)
            have e27 : ((v_k21 + 1)).toInt = (v_k21).toInt + 1 := i_add rfl rfl (by omega)
            refine lv_iinc (v := (v_k21 + 1)) (lv' := [(3, .int (v_k21 + 1)), (2, .int (n_k21 + 1)), (0, .ref (a 0)), (1, .int x1)]) hx hb dX11_fits_40 hl (k := 1) rfl rfl (by decide) rfl (fun ls hl => ?_)
            refine lv_goto (tgt := 17) hx hb dX11_fits_43 (by decide) ?_
            exact ih_k21 _ _ _ ((v_k21 + 1)) ((n_k21 + 1)) hO (lv_sub hl [0, 1, 2, 3] rfl) (by first | decide | omega) (by first | decide | omega) (by first | decide | omega) (by exact Or.inr ⟨v_k21, by omega, by omega, hcr23⟩) (by first | decide | omega)
          · subst hvr23
            refine bt_eq (tgt := 37) (X := 0) hx hb dX11_fits_30 (by decide) rfl (by omega) ?_
            refine lv_iconst (v := 0) hx hb dX11_fits_37 (by decide) ?_
            have e28 : ((n_k21 + 0)).toInt = (n_k21).toInt + 0 := i_add rfl rfl (by omega)
            refine lv_iadd hx hb dX11_fits_38 ?_
            refine lv_istore_n (lv' := [(2, .int (n_k21 + 0)), (3, .int v_k21), (0, .ref (a 0)), (1, .int x1)]) hx hb dX11_fits_39 rfl hl (by decide) rfl (fun ls hl => ?_)
            have e29 : ((v_k21 + 1)).toInt = (v_k21).toInt + 1 := i_add rfl rfl (by omega)
            refine lv_iinc (v := (v_k21 + 1)) (lv' := [(3, .int (v_k21 + 1)), (2, .int (n_k21 + 0)), (0, .ref (a 0)), (1, .int x1)]) hx hb dX11_fits_40 hl (k := 1) rfl rfl (by decide) rfl (fun ls hl => ?_)
            refine lv_goto (tgt := 17) hx hb dX11_fits_43 (by decide) ?_
            exact ih_k21 _ _ _ ((v_k21 + 1)) ((n_k21 + 0)) hO (lv_sub hl [0, 1, 2, 3] rfl) (by first | decide | omega) (by first | decide | omega) (by first | decide | omega) (by exact (by rcases cv0_k21 with h | h; · exact Or.inl (by omega); · exact Or.inr h)) (by first | decide | omega)
    have zc30 : (0 : Int32).toInt = 0 := rfl
    exact LP_17_k21 4000 _ _ _ (0) (0) hO (lv_sub hl [0, 1, 2, 3] rfl) (by first | decide | omega) (by first | decide | omega) (by first | decide | omega) (by exact Or.inl rfl) (by first | decide | omega)
  · refine lv_iconst (v := 0) hx hb dX11_fits_7 (by decide) ?_
    refine hret _ _ _ _ _ _ dX11_fits_8 rfl ?_ hO
    exact ⟨hJ, hT, Or.inl rfl⟩
theorem dX11_sure_0 : decode cX11_sure 0 = .ok (.iload_n 1, 1) := by decide +kernel
theorem dX11_sure_1 : decode cX11_sure 1 = .ok (.iconst 0, 1) := by decide +kernel
theorem dX11_sure_2 : decode cX11_sure 2 = .ok (.iconst 1, 1) := by decide +kernel
theorem dX11_sure_3 : decode cX11_sure 3 = .ok (.invokestatic 374, 3) := by decide +kernel
theorem dX11_sure_6 : decode cX11_sure 6 = .ok (.ifCond .eq 11, 3) := by decide +kernel
theorem dX11_sure_9 : decode cX11_sure 9 = .ok (.aload_n 0, 1) := by decide +kernel
theorem dX11_sure_10 : decode cX11_sure 10 = .ok (.iload_n 2, 1) := by decide +kernel
theorem dX11_sure_11 : decode cX11_sure 11 = .ok (.invokevirtual 494, 3) := by decide +kernel
theorem dX11_sure_14 : decode cX11_sure 14 = .ok (.ifCond .ne 5, 3) := by decide +kernel
theorem dX11_sure_17 : decode cX11_sure 17 = .ok (.iconst (-1), 1) := by decide +kernel
theorem dX11_sure_18 : decode cX11_sure 18 = .ok (.ireturn, 1) := by decide +kernel
theorem dX11_sure_19 : decode cX11_sure 19 = .ok (.iload_n 1, 1) := by decide +kernel
theorem dX11_sure_20 : decode cX11_sure 20 = .ok (.ifCond .ne 7, 3) := by decide +kernel
theorem dX11_sure_23 : decode cX11_sure 23 = .ok (.iconst 0, 1) := by decide +kernel
theorem dX11_sure_24 : decode cX11_sure 24 = .ok (.goto 5, 3) := by decide +kernel
theorem dX11_sure_27 : decode cX11_sure 27 = .ok (.bipush 30, 2) := by decide +kernel
theorem dX11_sure_29 : decode cX11_sure 29 = .ok (.istore_n 3, 1) := by decide +kernel
theorem dX11_sure_30 : decode cX11_sure 30 = .ok (.aload_n 0, 1) := by decide +kernel
theorem dX11_sure_31 : decode cX11_sure 31 = .ok (.iload_n 3, 1) := by decide +kernel
theorem dX11_sure_32 : decode cX11_sure 32 = .ok (.iload_n 2, 1) := by decide +kernel
theorem dX11_sure_33 : decode cX11_sure 33 = .ok (.invokevirtual 491, 3) := by decide +kernel
theorem dX11_sure_36 : decode cX11_sure 36 = .ok (.ifCond .ne 18, 3) := by decide +kernel
theorem dX11_sure_39 : decode cX11_sure 39 = .ok (.iload_n 3, 1) := by decide +kernel
theorem dX11_sure_40 : decode cX11_sure 40 = .ok (.iload_n 1, 1) := by decide +kernel
theorem dX11_sure_41 : decode cX11_sure 41 = .ok (.ifCond .ne 7, 3) := by decide +kernel
theorem dX11_sure_44 : decode cX11_sure 44 = .ok (.iconst 1, 1) := by decide +kernel
theorem dX11_sure_45 : decode cX11_sure 45 = .ok (.goto 4, 3) := by decide +kernel
theorem dX11_sure_48 : decode cX11_sure 48 = .ok (.iconst (-1), 1) := by decide +kernel
theorem dX11_sure_49 : decode cX11_sure 49 = .ok (.iadd, 1) := by decide +kernel
theorem dX11_sure_50 : decode cX11_sure 50 = .ok (.istore_n 3, 1) := by decide +kernel
theorem dX11_sure_51 : decode cX11_sure 51 = .ok (.goto (-21), 3) := by decide +kernel
theorem dX11_sure_54 : decode cX11_sure 54 = .ok (.iload_n 3, 1) := by decide +kernel
theorem dX11_sure_55 : decode cX11_sure 55 = .ok (.ireturn, 1) := by decide +kernel
theorem wd_2006 : (Cond.code ⟨"WebCourtModel", "sure", "(II)I"⟩ prog_13_method_117_code (4 : Nat) (Option.some FieldType.int)) ∈ gtb := gtb_c8 217 (by decide +kernel) rfl
theorem wd_2007 : (Cond.methodLink "WebCourtModel" (494 : Nat) ⟨"WebCourtModel", "fits", "(I)I"⟩) ∈ gtb := gtb_c8 218 (by decide +kernel) rfl
theorem wd_1992 : (Cond.instanceMethod ⟨"WebCourtModel", "fits", "(I)I"⟩) ∈ gtb := gtb_c8 203 (by decide +kernel) rfl
theorem wd_1993 : (Cond.selects "WebCourtModel" ⟨"WebCourtModel", "fits", "(I)I"⟩ ⟨"WebCourtModel", "fits", "(I)I"⟩) ∈ gtb := gtb_c8 204 (by decide +kernel) rfl
theorem hd_yX11_fits : yX11_fits.cls = RX11 ∧ yX11_fits.cls ≠ "java/lang/invoke/MethodHandle" ∧ yX11_fits.cls ≠ "java/lang/invoke/VarHandle" ∧ (parseMethodDescriptor yX11_fits.desc).map (fun d => d.parameters.length) = some 1 := by decide +kernel
set_option maxHeartbeats 4000000 in
set_option maxRecDepth 100000 in
theorem T_X11_sure (l : Launch) (D : va_G) (cy : Nat → ClassId) (a : Nat → Nat) (u : St) (hJ : MI a u) (x1 : Int32) (x2 : Int32)  : Mi l D cy (mW cy a) yX11_sure (.code yX11_sure cX11_sure 4 (some .int)) (rmo 9 198) [.ref (a 0), .int x1, .int x2] u (fun (r : Int32) (u' : St) => (MI a u') ∧ (Km22 u u')) := by
  refine Mi.of (own := RX11) rfl (by decide) (Nat.le_of_ble_eq_true rfl) ?_
  have hT : Km22 u u := Km22.rf
  have hJ0 := hJ
  intro p e s m below meth c A Q ls C hret hO hl
  obtain ⟨hx, hb, hml, hown, ht, hK, hA⟩ := id C
  have hl : lv_has ls 4 [(0, .ref (a 0)), (1, .int x1), (2, .int x2)] := hl
  refine lv_iload_n hx hb dX11_sure_0 rfl (lv_at hl 1 rfl) ?_
  refine lv_iconst (v := 0) hx hb dX11_sure_1 (by decide) ?_
  refine lv_iconst (v := 1) hx hb dX11_sure_2 (by decide) ?_
  refine cSi (w := mW cy a) (As := [.int x1, .int 0, .int 1]) (rest := []) C hO (T_X11_isIn l D cy a _ (by exact hJ) (x1) (0) (1)) (va_cwS 3 ht (gSS wd_1722 wd_1723 wd_121 wd_1724) rfl rfl rfl hd_yX11_isIn ⟨Nat.le_of_ble_eq_true rfl, Nat.le_of_ble_eq_true rfl⟩)  rfl hl.1 (Nat.le_of_ble_eq_true rfl) dX11_sure_3 rfl ⟨Nat.zero_le _, Nat.zero_le _⟩ (fun r1 u2 H locs hp3 hO => ?_)
  obtain ⟨hr1, hu2⟩ := hp3
  rw [hu2] at hO
  have zz4 : (0 : Int32).toInt = 0 := rfl
  have zz5 : (1 : Int32).toInt = 1 := rfl
  rcases hr1 with ⟨hcr1, hvr1⟩ | ⟨hcr1, hvr1⟩
  · subst hvr1
    refine bn_eq (X := 1) hx hb dX11_sure_6 rfl (by omega) ?_ (tgt := 17) (by decide)
    refine lv_aload_n hx hb dX11_sure_9 rfl (lv_at hl 0 rfl) ?_
    refine lv_iload_n hx hb dX11_sure_10 rfl (lv_at hl 2 rfl) ?_
    refine cVi (w := mW cy a) (As := [.int x2]) (rest := []) C hO (T_X11_fits l D cy a _ (by exact hJ) (x2)) (cwV 1 ht (gV wd_2007 wd_1992 wd_1993 wd_121 wd_1994) rfl rfl rfl hd_yX11_fits ⟨Nat.le_of_ble_eq_true rfl, Nat.le_of_ble_eq_true rfl⟩) 0 rfl mW_0 rfl rfl hl.1 (Nat.le_of_ble_eq_true rfl) dX11_sure_11 rfl ⟨Nat.zero_le _, Nat.zero_le _⟩ (fun r6 u7 H locs hp8 hO => ?_)
    have g9 : 0 ≤ (fI u 0 3).toInt ∧ (fI u 0 3).toInt ≤ 1600 := by have h := MI_3 hJ0; exact h
    have g10 : 0 ≤ (fI u 0 4).toInt ∧ (fI u 0 4).toInt ≤ 5 := by have h := MI_4 hJ0; exact h
    have g11 : 0 ≤ (fI u 0 6).toInt ∧ (fI u 0 6).toInt ≤ 1600 := by have h := MI_6 hJ0; exact h
    have g12 : 0 ≤ (fI u 0 7).toInt ∧ (fI u 0 7).toInt ≤ 1601 := by have h := MI_7 hJ0; exact h
    have g13 : 0 ≤ (fI u 0 8).toInt ∧ (fI u 0 8).toInt ≤ 5 := by have h := MI_8 hJ0; exact h
    have g14 : 0 ≤ (fI u 0 36).toInt ∧ (fI u 0 36).toInt ≤ 1 := by have h := MI_36 hJ0; exact h
    have g15 : 0 ≤ (fI u 0 37).toInt ∧ (fI u 0 37).toInt ≤ 1 := by have h := MI_37 hJ0; exact h
    have g16 : 0 ≤ (fI u 0 47).toInt ∧ (fI u 0 47).toInt ≤ 40 := by have h := MI_47 hJ0; exact h
    have g17 : 0 ≤ (fI u 0 48).toInt ∧ (fI u 0 48).toInt ≤ 40 := by have h := MI_48 hJ0; exact h
    have g18 : 0 ≤ (fI u 0 50).toInt ∧ (fI u 0 50).toInt ≤ 8 := by have h := MI_50 hJ0; exact h
    have g19 : 0 ≤ (fI u 0 61).toInt ∧ (fI u 0 61).toInt ≤ 30 := by have h := MI_61 hJ0; exact h
    have g20 : 0 ≤ (fI u 0 62).toInt ∧ (fI u 0 62).toInt ≤ 100000 := by have h := MI_62 hJ0; exact h
    obtain ⟨hJ, hTu7, hx0u7⟩ := hp8
    have hT : Km22 u u7 := Km22.tr (by exact hT) hTu7
    have hI_0_3_u7 : fI u7 0 3 = (fI u 0 3) := hTu7.2.1
    have hI_0_4_u7 : fI u7 0 4 = (fI u 0 4) := hTu7.2.2.1
    have hI_0_6_u7 : fI u7 0 6 = (fI u 0 6) := hTu7.2.2.2.2.1
    have hI_0_7_u7 : fI u7 0 7 = (fI u 0 7) := hTu7.2.2.2.2.2.1
    have hI_0_8_u7 : fI u7 0 8 = (fI u 0 8) := hTu7.2.2.2.2.2.2.1
    have hI_0_36_u7 : fI u7 0 36 = (fI u 0 36) := hTu7.2.2.2.2.2.2.2.2.2.1
    have hI_0_37_u7 : fI u7 0 37 = (fI u 0 37) := hTu7.2.2.2.2.2.2.2.2.2.2.1
    have hI_0_47_u7 : fI u7 0 47 = (fI u 0 47) := hTu7.2.2.2.2.2.2.2.2.2.2.2.2.2.2.2.1
    have hI_0_48_u7 : fI u7 0 48 = (fI u 0 48) := hTu7.2.2.2.2.2.2.2.2.2.2.2.2.2.2.2.2.1
    have hI_0_50_u7 : fI u7 0 50 = (fI u 0 50) := hTu7.2.2.2.2.2.2.2.2.2.2.2.2.2.2.2.2.2.1
    have hI_0_61_u7 : fI u7 0 61 = (fI u 0 61) := hTu7.2.2.2.2.2.2.2.2.2.2.2.2.2.2.2.2.2.2.1
    have hI_0_62_u7 : fI u7 0 62 = (fI u 0 62) := hTu7.2.2.2.2.2.2.2.2.2.2.2.2.2.2.2.2.2.2.2.1
    refine bs_ne (tgt := 19) (X := (r6).toInt) hx hb dX11_sure_14 (by decide) rfl (fun c21 => ?_) (fun c21 => ?_)
    · obtain ⟨v0, hv0, hv1, hv2⟩ : ∃ v : Int32, 0 ≤ v.toInt ∧ v.toInt ≤ 30 ∧ fitF u7 v x2 := by rcases hx0u7 with h | h; · exact absurd h (by omega); · exact h
      refine lv_iload_n hx hb dX11_sure_19 rfl (lv_at hl 1 rfl) ?_
      refine bs_ne (tgt := 27) (X := (x1).toInt) hx hb dX11_sure_20 (by decide) rfl (fun c22 => ?_) (fun c22 => ?_)
      · refine lv_bipush (v := 30) hx hb dX11_sure_27 (by decide) ?_
        refine lv_istore_n (lv' := [(3, .int 30), (0, .ref (a 0)), (1, .int x1), (2, .int x2)]) hx hb dX11_sure_29 rfl hl (by decide) rfl (fun ls hl => ?_)
        have LP_30_k23 : ∀ (n : Nat) (H : Heap) (locs : List Loc) (ls : Array Slot) (i_k23 : Int32), Wo D A (mW cy a u7) s.heap H locs → lv_has ls 4 [(3, .int i_k23), (0, .ref (a 0)), (1, .int x1), (2, .int x2)] → v0.toInt ≤ i_k23.toInt → 0 ≤ i_k23.toInt ∧ i_k23.toInt ≤ 30 → i_k23.toInt < (n : Int) → W p l e (rmo 9 198) s m [.ref (a 0), .int x1, .int x2].toArray below meth c H locs 0 0 Q (F0 m 30 ls []) := by
          intro n
          induction n with
          | zero =>
            intro H locs ls i_k23 hO hl iv0_k23 iv1_k23 hm_k23
            exact absurd hm_k23 (by omega)
          | succ n ih_k23 =>
            intro H locs ls i_k23 hO hl iv0_k23 iv1_k23 hm_k23
            refine lv_aload_n hx hb dX11_sure_30 rfl (lv_at hl 1 rfl) ?_
            refine lv_iload_n hx hb dX11_sure_31 rfl (lv_at hl 0 rfl) ?_
            refine lv_iload_n hx hb dX11_sure_32 rfl (lv_at hl 3 rfl) ?_
            refine cVi (w := mW cy a) (As := [.int i_k23, .int x2]) (rest := []) C hO (T_X11_doesFit l D cy a _ (by exact hJ) (i_k23) (x2) (by first | omega | decide)) (cwV 2 ht (gV wd_1999 wd_2001 wd_107 wd_121 wd_2002) rfl rfl rfl hd_yX11_doesFit ⟨Nat.le_of_ble_eq_true rfl, Nat.le_of_ble_eq_true rfl⟩) 0 rfl mW_0 rfl rfl hl.1 (Nat.le_of_ble_eq_true rfl) dX11_sure_33 rfl ⟨Nat.zero_le _, Nat.zero_le _⟩ (fun r24 u25 H locs hp26 hO => ?_)
            obtain ⟨hr24, hu25⟩ := hp26
            rw [hu25] at hO
            rcases hr24 with ⟨hcr24, hvr24⟩ | ⟨hcr24, hvr24⟩
            · subst hvr24
              refine bt_ne (tgt := 54) (X := 1) hx hb dX11_sure_36 (by decide) rfl (by omega) ?_
              refine lv_iload_n hx hb dX11_sure_54 rfl (lv_at hl 0 rfl) ?_
              refine hret _ _ _ _ _ _ dX11_sure_55 rfl ?_ hO
              exact ⟨hJ, hT⟩
            · subst hvr24
              have hn27 : ¬ i_k23.toInt = v0.toInt := fun h => hcr24 (by rw [show i_k23 = v0 from i32_eq.mpr h]; exact hv2)
              refine bn_ne (X := 0) hx hb dX11_sure_36 rfl (by omega) ?_ (tgt := 54) (by decide)
              refine lv_iload_n hx hb dX11_sure_39 rfl (lv_at hl 0 rfl) ?_
              refine lv_iload_n hx hb dX11_sure_40 rfl (lv_at hl 2 rfl) ?_
              refine bt_ne (tgt := 48) (X := (x1).toInt) hx hb dX11_sure_41 (by decide) rfl (by omega) ?_
              refine lv_iconst (v := (-1)) hx hb dX11_sure_48 (by decide) ?_
              have e28 : ((i_k23 + (-1))).toInt = (i_k23).toInt + (-1) := i_add rfl rfl (by omega)
              refine lv_iadd hx hb dX11_sure_49 ?_
              refine lv_istore_n (lv' := [(3, .int (i_k23 + (-1))), (0, .ref (a 0)), (1, .int x1), (2, .int x2)]) hx hb dX11_sure_50 rfl hl (by decide) rfl (fun ls hl => ?_)
              refine lv_goto (tgt := 30) hx hb dX11_sure_51 (by decide) ?_
              exact ih_k23 _ _ _ ((i_k23 + (-1))) hO (lv_sub hl [0, 1, 2, 3] rfl) (by first | decide | omega) (by first | decide | omega) (by first | decide | omega)
        have zc29 : (30 : Int32).toInt = 30 := rfl
        exact LP_30_k23 4000 _ _ _ (30) hO (lv_sub hl [0, 1, 2, 3] rfl) (by first | decide | omega) (by first | decide | omega) (by first | decide | omega)
      · refine lv_iconst (v := 0) hx hb dX11_sure_23 (by decide) ?_
        refine lv_goto (tgt := 29) hx hb dX11_sure_24 (by decide) ?_
        refine lv_istore_n (lv' := [(3, .int 0), (0, .ref (a 0)), (1, .int x1), (2, .int x2)]) hx hb dX11_sure_29 rfl hl (by decide) rfl (fun ls hl => ?_)
        have LP_30_k30 : ∀ (n : Nat) (H : Heap) (locs : List Loc) (ls : Array Slot) (i_k30 : Int32), Wo D A (mW cy a u7) s.heap H locs → lv_has ls 4 [(3, .int i_k30), (0, .ref (a 0)), (1, .int x1), (2, .int x2)] → i_k30.toInt ≤ v0.toInt → 0 ≤ i_k30.toInt ∧ i_k30.toInt ≤ 30 → 30 - i_k30.toInt < (n : Int) → W p l e (rmo 9 198) s m [.ref (a 0), .int x1, .int x2].toArray below meth c H locs 0 0 Q (F0 m 30 ls []) := by
          intro n
          induction n with
          | zero =>
            intro H locs ls i_k30 hO hl iv0_k30 iv1_k30 hm_k30
            exact absurd hm_k30 (by omega)
          | succ n ih_k30 =>
            intro H locs ls i_k30 hO hl iv0_k30 iv1_k30 hm_k30
            refine lv_aload_n hx hb dX11_sure_30 rfl (lv_at hl 1 rfl) ?_
            refine lv_iload_n hx hb dX11_sure_31 rfl (lv_at hl 0 rfl) ?_
            refine lv_iload_n hx hb dX11_sure_32 rfl (lv_at hl 3 rfl) ?_
            refine cVi (w := mW cy a) (As := [.int i_k30, .int x2]) (rest := []) C hO (T_X11_doesFit l D cy a _ (by exact hJ) (i_k30) (x2) (by first | omega | decide)) (cwV 2 ht (gV wd_1999 wd_2001 wd_107 wd_121 wd_2002) rfl rfl rfl hd_yX11_doesFit ⟨Nat.le_of_ble_eq_true rfl, Nat.le_of_ble_eq_true rfl⟩) 0 rfl mW_0 rfl rfl hl.1 (Nat.le_of_ble_eq_true rfl) dX11_sure_33 rfl ⟨Nat.zero_le _, Nat.zero_le _⟩ (fun r31 u32 H locs hp33 hO => ?_)
            obtain ⟨hr31, hu32⟩ := hp33
            rw [hu32] at hO
            rcases hr31 with ⟨hcr31, hvr31⟩ | ⟨hcr31, hvr31⟩
            · subst hvr31
              refine bt_ne (tgt := 54) (X := 1) hx hb dX11_sure_36 (by decide) rfl (by omega) ?_
              refine lv_iload_n hx hb dX11_sure_54 rfl (lv_at hl 0 rfl) ?_
              refine hret _ _ _ _ _ _ dX11_sure_55 rfl ?_ hO
              exact ⟨hJ, hT⟩
            · subst hvr31
              have hn34 : ¬ i_k30.toInt = v0.toInt := fun h => hcr31 (by rw [show i_k30 = v0 from i32_eq.mpr h]; exact hv2)
              refine bn_ne (X := 0) hx hb dX11_sure_36 rfl (by omega) ?_ (tgt := 54) (by decide)
              refine lv_iload_n hx hb dX11_sure_39 rfl (lv_at hl 0 rfl) ?_
              refine lv_iload_n hx hb dX11_sure_40 rfl (lv_at hl 2 rfl) ?_
              refine bn_ne (X := (x1).toInt) hx hb dX11_sure_41 rfl (by omega) ?_ (tgt := 48) (by decide)
              refine lv_iconst (v := 1) hx hb dX11_sure_44 (by decide) ?_
              refine lv_goto (tgt := 49) hx hb dX11_sure_45 (by decide) ?_
              have e35 : ((i_k30 + 1)).toInt = (i_k30).toInt + 1 := i_add rfl rfl (by omega)
              refine lv_iadd hx hb dX11_sure_49 ?_
              refine lv_istore_n (lv' := [(3, .int (i_k30 + 1)), (0, .ref (a 0)), (1, .int x1), (2, .int x2)]) hx hb dX11_sure_50 rfl hl (by decide) rfl (fun ls hl => ?_)
              refine lv_goto (tgt := 30) hx hb dX11_sure_51 (by decide) ?_
              exact ih_k30 _ _ _ ((i_k30 + 1)) hO (lv_sub hl [0, 1, 2, 3] rfl) (by first | decide | omega) (by first | decide | omega) (by first | decide | omega)
        have zc36 : (0 : Int32).toInt = 0 := rfl
        exact LP_30_k30 4000 _ _ _ (0) hO (lv_sub hl [0, 1, 2, 3] rfl) (by first | decide | omega) (by first | decide | omega) (by first | decide | omega)
    · refine lv_iconst (v := (-1)) hx hb dX11_sure_17 (by decide) ?_
      refine hret _ _ _ _ _ _ dX11_sure_18 rfl ?_ hO
      exact ⟨hJ, hT⟩
  · subst hvr1
    refine bt_eq (tgt := 17) (X := 0) hx hb dX11_sure_6 (by decide) rfl (by omega) ?_
    refine lv_iconst (v := (-1)) hx hb dX11_sure_17 (by decide) ?_
    refine hret _ _ _ _ _ _ dX11_sure_18 rfl ?_ hO
    exact ⟨hJ, hT⟩
def Km23 (u v : St) : Prop := fI v 0 2 = fI u 0 2 ∧ fI v 0 3 = fI u 0 3 ∧ fI v 0 4 = fI u 0 4 ∧ fI v 0 5 = fI u 0 5 ∧ fI v 0 6 = fI u 0 6 ∧ fI v 0 7 = fI u 0 7 ∧ fI v 0 8 = fI u 0 8 ∧ fI v 0 9 = fI u 0 9 ∧ fL v 0 10 = fL u 0 10 ∧ fI v 0 36 = fI u 0 36 ∧ fI v 0 37 = fI u 0 37 ∧ fI v 0 38 = fI u 0 38 ∧ fI v 0 39 = fI u 0 39 ∧ fI v 0 40 = fI u 0 40 ∧ fI v 0 41 = fI u 0 41 ∧ fI v 0 42 = fI u 0 42 ∧ fI v 0 43 = fI u 0 43 ∧ fI v 0 45 = fI u 0 45 ∧ fI v 0 47 = fI u 0 47 ∧ fI v 0 48 = fI u 0 48 ∧ fI v 0 50 = fI u 0 50 ∧ fI v 0 61 = fI u 0 61 ∧ fI v 0 62 = fI u 0 62 ∧ fA v 1 = fA u 1 ∧ fA v 2 = fA u 2 ∧ fA v 3 = fA u 3 ∧ fA v 4 = fA u 4 ∧ fA v 5 = fA u 5 ∧ fA v 6 = fA u 6 ∧ fA v 7 = fA u 7 ∧ fA v 8 = fA u 8 ∧ fA v 9 = fA u 9 ∧ fA v 10 = fA u 10 ∧ fA v 11 = fA u 11 ∧ fA v 12 = fA u 12 ∧ fA v 13 = fA u 13 ∧ fA v 14 = fA u 14 ∧ fA v 15 = fA u 15 ∧ fA v 16 = fA u 16 ∧ fA v 17 = fA u 17 ∧ fA v 18 = fA u 18 ∧ fA v 19 = fA u 19 ∧ fJ v 20 = fJ u 20 ∧ fJ v 21 = fJ u 21 ∧ fJ v 22 = fJ u 22 ∧ fA v 23 = fA u 23 ∧ fA v 24 = fA u 24 ∧ fA v 25 = fA u 25 ∧ fA v 26 = fA u 26 ∧ fA v 27 = fA u 27 ∧ fA v 28 = fA u 28 ∧ fA v 29 = fA u 29 ∧ fA v 30 = fA u 30 ∧ fA v 31 = fA u 31 ∧ fA v 32 = fA u 32 ∧ fA v 33 = fA u 33 ∧ fA v 34 = fA u 34 ∧ fA v 35 = fA u 35 ∧ fA v 36 = fA u 36 ∧ fA v 37 = fA u 37 ∧ fA v 38 = fA u 38 ∧ fA v 40 = fA u 40 ∧ fA v 41 = fA u 41 ∧ fA v 42 = fA u 42
theorem Km23.rf {u : St} : Km23 u u := ⟨rfl, rfl, rfl, rfl, rfl, rfl, rfl, rfl, rfl, rfl, rfl, rfl, rfl, rfl, rfl, rfl, rfl, rfl, rfl, rfl, rfl, rfl, rfl, rfl, rfl, rfl, rfl, rfl, rfl, rfl, rfl, rfl, rfl, rfl, rfl, rfl, rfl, rfl, rfl, rfl, rfl, rfl, rfl, rfl, rfl, rfl, rfl, rfl, rfl, rfl, rfl, rfl, rfl, rfl, rfl, rfl, rfl, rfl, rfl, rfl, rfl, rfl, rfl, rfl⟩
theorem Km23.tr {u v w : St} (h1 : Km23 u v) (h2 : Km23 v w) : Km23 u w := ⟨(h2.1).trans h1.1, (h2.2.1).trans h1.2.1, (h2.2.2.1).trans h1.2.2.1, (h2.2.2.2.1).trans h1.2.2.2.1, (h2.2.2.2.2.1).trans h1.2.2.2.2.1, (h2.2.2.2.2.2.1).trans h1.2.2.2.2.2.1, (h2.2.2.2.2.2.2.1).trans h1.2.2.2.2.2.2.1, (h2.2.2.2.2.2.2.2.1).trans h1.2.2.2.2.2.2.2.1, (h2.2.2.2.2.2.2.2.2.1).trans h1.2.2.2.2.2.2.2.2.1, (h2.2.2.2.2.2.2.2.2.2.1).trans h1.2.2.2.2.2.2.2.2.2.1, (h2.2.2.2.2.2.2.2.2.2.2.1).trans h1.2.2.2.2.2.2.2.2.2.2.1, (h2.2.2.2.2.2.2.2.2.2.2.2.1).trans h1.2.2.2.2.2.2.2.2.2.2.2.1, (h2.2.2.2.2.2.2.2.2.2.2.2.2.1).trans h1.2.2.2.2.2.2.2.2.2.2.2.2.1, (h2.2.2.2.2.2.2.2.2.2.2.2.2.2.1).trans h1.2.2.2.2.2.2.2.2.2.2.2.2.2.1, (h2.2.2.2.2.2.2.2.2.2.2.2.2.2.2.1).trans h1.2.2.2.2.2.2.2.2.2.2.2.2.2.2.1, (h2.2.2.2.2.2.2.2.2.2.2.2.2.2.2.2.1).trans h1.2.2.2.2.2.2.2.2.2.2.2.2.2.2.2.1, (h2.2.2.2.2.2.2.2.2.2.2.2.2.2.2.2.2.1).trans h1.2.2.2.2.2.2.2.2.2.2.2.2.2.2.2.2.1, (h2.2.2.2.2.2.2.2.2.2.2.2.2.2.2.2.2.2.1).trans h1.2.2.2.2.2.2.2.2.2.2.2.2.2.2.2.2.2.1, (h2.2.2.2.2.2.2.2.2.2.2.2.2.2.2.2.2.2.2.1).trans h1.2.2.2.2.2.2.2.2.2.2.2.2.2.2.2.2.2.2.1, (h2.2.2.2.2.2.2.2.2.2.2.2.2.2.2.2.2.2.2.2.1).trans h1.2.2.2.2.2.2.2.2.2.2.2.2.2.2.2.2.2.2.2.1, (h2.2.2.2.2.2.2.2.2.2.2.2.2.2.2.2.2.2.2.2.2.1).trans h1.2.2.2.2.2.2.2.2.2.2.2.2.2.2.2.2.2.2.2.2.1, (h2.2.2.2.2.2.2.2.2.2.2.2.2.2.2.2.2.2.2.2.2.2.1).trans h1.2.2.2.2.2.2.2.2.2.2.2.2.2.2.2.2.2.2.2.2.2.1, (h2.2.2.2.2.2.2.2.2.2.2.2.2.2.2.2.2.2.2.2.2.2.2.1).trans h1.2.2.2.2.2.2.2.2.2.2.2.2.2.2.2.2.2.2.2.2.2.2.1, (h2.2.2.2.2.2.2.2.2.2.2.2.2.2.2.2.2.2.2.2.2.2.2.2.1).trans h1.2.2.2.2.2.2.2.2.2.2.2.2.2.2.2.2.2.2.2.2.2.2.2.1, (h2.2.2.2.2.2.2.2.2.2.2.2.2.2.2.2.2.2.2.2.2.2.2.2.2.1).trans h1.2.2.2.2.2.2.2.2.2.2.2.2.2.2.2.2.2.2.2.2.2.2.2.2.1, (h2.2.2.2.2.2.2.2.2.2.2.2.2.2.2.2.2.2.2.2.2.2.2.2.2.2.1).trans h1.2.2.2.2.2.2.2.2.2.2.2.2.2.2.2.2.2.2.2.2.2.2.2.2.2.1, (h2.2.2.2.2.2.2.2.2.2.2.2.2.2.2.2.2.2.2.2.2.2.2.2.2.2.2.1).trans h1.2.2.2.2.2.2.2.2.2.2.2.2.2.2.2.2.2.2.2.2.2.2.2.2.2.2.1, (h2.2.2.2.2.2.2.2.2.2.2.2.2.2.2.2.2.2.2.2.2.2.2.2.2.2.2.2.1).trans h1.2.2.2.2.2.2.2.2.2.2.2.2.2.2.2.2.2.2.2.2.2.2.2.2.2.2.2.1, (h2.2.2.2.2.2.2.2.2.2.2.2.2.2.2.2.2.2.2.2.2.2.2.2.2.2.2.2.2.1).trans h1.2.2.2.2.2.2.2.2.2.2.2.2.2.2.2.2.2.2.2.2.2.2.2.2.2.2.2.2.1, (h2.2.2.2.2.2.2.2.2.2.2.2.2.2.2.2.2.2.2.2.2.2.2.2.2.2.2.2.2.2.1).trans h1.2.2.2.2.2.2.2.2.2.2.2.2.2.2.2.2.2.2.2.2.2.2.2.2.2.2.2.2.2.1, (h2.2.2.2.2.2.2.2.2.2.2.2.2.2.2.2.2.2.2.2.2.2.2.2.2.2.2.2.2.2.2.1).trans h1.2.2.2.2.2.2.2.2.2.2.2.2.2.2.2.2.2.2.2.2.2.2.2.2.2.2.2.2.2.2.1, (h2.2.2.2.2.2.2.2.2.2.2.2.2.2.2.2.2.2.2.2.2.2.2.2.2.2.2.2.2.2.2.2.1).trans h1.2.2.2.2.2.2.2.2.2.2.2.2.2.2.2.2.2.2.2.2.2.2.2.2.2.2.2.2.2.2.2.1, (h2.2.2.2.2.2.2.2.2.2.2.2.2.2.2.2.2.2.2.2.2.2.2.2.2.2.2.2.2.2.2.2.2.1).trans h1.2.2.2.2.2.2.2.2.2.2.2.2.2.2.2.2.2.2.2.2.2.2.2.2.2.2.2.2.2.2.2.2.1, (h2.2.2.2.2.2.2.2.2.2.2.2.2.2.2.2.2.2.2.2.2.2.2.2.2.2.2.2.2.2.2.2.2.2.1).trans h1.2.2.2.2.2.2.2.2.2.2.2.2.2.2.2.2.2.2.2.2.2.2.2.2.2.2.2.2.2.2.2.2.2.1, (h2.2.2.2.2.2.2.2.2.2.2.2.2.2.2.2.2.2.2.2.2.2.2.2.2.2.2.2.2.2.2.2.2.2.2.1).trans h1.2.2.2.2.2.2.2.2.2.2.2.2.2.2.2.2.2.2.2.2.2.2.2.2.2.2.2.2.2.2.2.2.2.2.1, (h2.2.2.2.2.2.2.2.2.2.2.2.2.2.2.2.2.2.2.2.2.2.2.2.2.2.2.2.2.2.2.2.2.2.2.2.1).trans h1.2.2.2.2.2.2.2.2.2.2.2.2.2.2.2.2.2.2.2.2.2.2.2.2.2.2.2.2.2.2.2.2.2.2.2.1, (h2.2.2.2.2.2.2.2.2.2.2.2.2.2.2.2.2.2.2.2.2.2.2.2.2.2.2.2.2.2.2.2.2.2.2.2.2.1).trans h1.2.2.2.2.2.2.2.2.2.2.2.2.2.2.2.2.2.2.2.2.2.2.2.2.2.2.2.2.2.2.2.2.2.2.2.2.1, (h2.2.2.2.2.2.2.2.2.2.2.2.2.2.2.2.2.2.2.2.2.2.2.2.2.2.2.2.2.2.2.2.2.2.2.2.2.2.1).trans h1.2.2.2.2.2.2.2.2.2.2.2.2.2.2.2.2.2.2.2.2.2.2.2.2.2.2.2.2.2.2.2.2.2.2.2.2.2.1, (h2.2.2.2.2.2.2.2.2.2.2.2.2.2.2.2.2.2.2.2.2.2.2.2.2.2.2.2.2.2.2.2.2.2.2.2.2.2.2.1).trans h1.2.2.2.2.2.2.2.2.2.2.2.2.2.2.2.2.2.2.2.2.2.2.2.2.2.2.2.2.2.2.2.2.2.2.2.2.2.2.1, (h2.2.2.2.2.2.2.2.2.2.2.2.2.2.2.2.2.2.2.2.2.2.2.2.2.2.2.2.2.2.2.2.2.2.2.2.2.2.2.2.1).trans h1.2.2.2.2.2.2.2.2.2.2.2.2.2.2.2.2.2.2.2.2.2.2.2.2.2.2.2.2.2.2.2.2.2.2.2.2.2.2.2.1, (h2.2.2.2.2.2.2.2.2.2.2.2.2.2.2.2.2.2.2.2.2.2.2.2.2.2.2.2.2.2.2.2.2.2.2.2.2.2.2.2.2.1).trans h1.2.2.2.2.2.2.2.2.2.2.2.2.2.2.2.2.2.2.2.2.2.2.2.2.2.2.2.2.2.2.2.2.2.2.2.2.2.2.2.2.1, (h2.2.2.2.2.2.2.2.2.2.2.2.2.2.2.2.2.2.2.2.2.2.2.2.2.2.2.2.2.2.2.2.2.2.2.2.2.2.2.2.2.2.1).trans h1.2.2.2.2.2.2.2.2.2.2.2.2.2.2.2.2.2.2.2.2.2.2.2.2.2.2.2.2.2.2.2.2.2.2.2.2.2.2.2.2.2.1, (h2.2.2.2.2.2.2.2.2.2.2.2.2.2.2.2.2.2.2.2.2.2.2.2.2.2.2.2.2.2.2.2.2.2.2.2.2.2.2.2.2.2.2.1).trans h1.2.2.2.2.2.2.2.2.2.2.2.2.2.2.2.2.2.2.2.2.2.2.2.2.2.2.2.2.2.2.2.2.2.2.2.2.2.2.2.2.2.2.1, (h2.2.2.2.2.2.2.2.2.2.2.2.2.2.2.2.2.2.2.2.2.2.2.2.2.2.2.2.2.2.2.2.2.2.2.2.2.2.2.2.2.2.2.2.1).trans h1.2.2.2.2.2.2.2.2.2.2.2.2.2.2.2.2.2.2.2.2.2.2.2.2.2.2.2.2.2.2.2.2.2.2.2.2.2.2.2.2.2.2.2.1, (h2.2.2.2.2.2.2.2.2.2.2.2.2.2.2.2.2.2.2.2.2.2.2.2.2.2.2.2.2.2.2.2.2.2.2.2.2.2.2.2.2.2.2.2.2.1).trans h1.2.2.2.2.2.2.2.2.2.2.2.2.2.2.2.2.2.2.2.2.2.2.2.2.2.2.2.2.2.2.2.2.2.2.2.2.2.2.2.2.2.2.2.2.1, (h2.2.2.2.2.2.2.2.2.2.2.2.2.2.2.2.2.2.2.2.2.2.2.2.2.2.2.2.2.2.2.2.2.2.2.2.2.2.2.2.2.2.2.2.2.2.1).trans h1.2.2.2.2.2.2.2.2.2.2.2.2.2.2.2.2.2.2.2.2.2.2.2.2.2.2.2.2.2.2.2.2.2.2.2.2.2.2.2.2.2.2.2.2.2.1, (h2.2.2.2.2.2.2.2.2.2.2.2.2.2.2.2.2.2.2.2.2.2.2.2.2.2.2.2.2.2.2.2.2.2.2.2.2.2.2.2.2.2.2.2.2.2.2.1).trans h1.2.2.2.2.2.2.2.2.2.2.2.2.2.2.2.2.2.2.2.2.2.2.2.2.2.2.2.2.2.2.2.2.2.2.2.2.2.2.2.2.2.2.2.2.2.2.1, (h2.2.2.2.2.2.2.2.2.2.2.2.2.2.2.2.2.2.2.2.2.2.2.2.2.2.2.2.2.2.2.2.2.2.2.2.2.2.2.2.2.2.2.2.2.2.2.2.1).trans h1.2.2.2.2.2.2.2.2.2.2.2.2.2.2.2.2.2.2.2.2.2.2.2.2.2.2.2.2.2.2.2.2.2.2.2.2.2.2.2.2.2.2.2.2.2.2.2.1, (h2.2.2.2.2.2.2.2.2.2.2.2.2.2.2.2.2.2.2.2.2.2.2.2.2.2.2.2.2.2.2.2.2.2.2.2.2.2.2.2.2.2.2.2.2.2.2.2.2.1).trans h1.2.2.2.2.2.2.2.2.2.2.2.2.2.2.2.2.2.2.2.2.2.2.2.2.2.2.2.2.2.2.2.2.2.2.2.2.2.2.2.2.2.2.2.2.2.2.2.2.1, (h2.2.2.2.2.2.2.2.2.2.2.2.2.2.2.2.2.2.2.2.2.2.2.2.2.2.2.2.2.2.2.2.2.2.2.2.2.2.2.2.2.2.2.2.2.2.2.2.2.2.1).trans h1.2.2.2.2.2.2.2.2.2.2.2.2.2.2.2.2.2.2.2.2.2.2.2.2.2.2.2.2.2.2.2.2.2.2.2.2.2.2.2.2.2.2.2.2.2.2.2.2.2.1, (h2.2.2.2.2.2.2.2.2.2.2.2.2.2.2.2.2.2.2.2.2.2.2.2.2.2.2.2.2.2.2.2.2.2.2.2.2.2.2.2.2.2.2.2.2.2.2.2.2.2.2.1).trans h1.2.2.2.2.2.2.2.2.2.2.2.2.2.2.2.2.2.2.2.2.2.2.2.2.2.2.2.2.2.2.2.2.2.2.2.2.2.2.2.2.2.2.2.2.2.2.2.2.2.2.1, (h2.2.2.2.2.2.2.2.2.2.2.2.2.2.2.2.2.2.2.2.2.2.2.2.2.2.2.2.2.2.2.2.2.2.2.2.2.2.2.2.2.2.2.2.2.2.2.2.2.2.2.2.1).trans h1.2.2.2.2.2.2.2.2.2.2.2.2.2.2.2.2.2.2.2.2.2.2.2.2.2.2.2.2.2.2.2.2.2.2.2.2.2.2.2.2.2.2.2.2.2.2.2.2.2.2.2.1, (h2.2.2.2.2.2.2.2.2.2.2.2.2.2.2.2.2.2.2.2.2.2.2.2.2.2.2.2.2.2.2.2.2.2.2.2.2.2.2.2.2.2.2.2.2.2.2.2.2.2.2.2.2.1).trans h1.2.2.2.2.2.2.2.2.2.2.2.2.2.2.2.2.2.2.2.2.2.2.2.2.2.2.2.2.2.2.2.2.2.2.2.2.2.2.2.2.2.2.2.2.2.2.2.2.2.2.2.2.1, (h2.2.2.2.2.2.2.2.2.2.2.2.2.2.2.2.2.2.2.2.2.2.2.2.2.2.2.2.2.2.2.2.2.2.2.2.2.2.2.2.2.2.2.2.2.2.2.2.2.2.2.2.2.2.1).trans h1.2.2.2.2.2.2.2.2.2.2.2.2.2.2.2.2.2.2.2.2.2.2.2.2.2.2.2.2.2.2.2.2.2.2.2.2.2.2.2.2.2.2.2.2.2.2.2.2.2.2.2.2.2.1, (h2.2.2.2.2.2.2.2.2.2.2.2.2.2.2.2.2.2.2.2.2.2.2.2.2.2.2.2.2.2.2.2.2.2.2.2.2.2.2.2.2.2.2.2.2.2.2.2.2.2.2.2.2.2.2.1).trans h1.2.2.2.2.2.2.2.2.2.2.2.2.2.2.2.2.2.2.2.2.2.2.2.2.2.2.2.2.2.2.2.2.2.2.2.2.2.2.2.2.2.2.2.2.2.2.2.2.2.2.2.2.2.2.1, (h2.2.2.2.2.2.2.2.2.2.2.2.2.2.2.2.2.2.2.2.2.2.2.2.2.2.2.2.2.2.2.2.2.2.2.2.2.2.2.2.2.2.2.2.2.2.2.2.2.2.2.2.2.2.2.2.1).trans h1.2.2.2.2.2.2.2.2.2.2.2.2.2.2.2.2.2.2.2.2.2.2.2.2.2.2.2.2.2.2.2.2.2.2.2.2.2.2.2.2.2.2.2.2.2.2.2.2.2.2.2.2.2.2.2.1, (h2.2.2.2.2.2.2.2.2.2.2.2.2.2.2.2.2.2.2.2.2.2.2.2.2.2.2.2.2.2.2.2.2.2.2.2.2.2.2.2.2.2.2.2.2.2.2.2.2.2.2.2.2.2.2.2.2.1).trans h1.2.2.2.2.2.2.2.2.2.2.2.2.2.2.2.2.2.2.2.2.2.2.2.2.2.2.2.2.2.2.2.2.2.2.2.2.2.2.2.2.2.2.2.2.2.2.2.2.2.2.2.2.2.2.2.2.1, (h2.2.2.2.2.2.2.2.2.2.2.2.2.2.2.2.2.2.2.2.2.2.2.2.2.2.2.2.2.2.2.2.2.2.2.2.2.2.2.2.2.2.2.2.2.2.2.2.2.2.2.2.2.2.2.2.2.2.1).trans h1.2.2.2.2.2.2.2.2.2.2.2.2.2.2.2.2.2.2.2.2.2.2.2.2.2.2.2.2.2.2.2.2.2.2.2.2.2.2.2.2.2.2.2.2.2.2.2.2.2.2.2.2.2.2.2.2.2.1, (h2.2.2.2.2.2.2.2.2.2.2.2.2.2.2.2.2.2.2.2.2.2.2.2.2.2.2.2.2.2.2.2.2.2.2.2.2.2.2.2.2.2.2.2.2.2.2.2.2.2.2.2.2.2.2.2.2.2.2.1).trans h1.2.2.2.2.2.2.2.2.2.2.2.2.2.2.2.2.2.2.2.2.2.2.2.2.2.2.2.2.2.2.2.2.2.2.2.2.2.2.2.2.2.2.2.2.2.2.2.2.2.2.2.2.2.2.2.2.2.2.1, (h2.2.2.2.2.2.2.2.2.2.2.2.2.2.2.2.2.2.2.2.2.2.2.2.2.2.2.2.2.2.2.2.2.2.2.2.2.2.2.2.2.2.2.2.2.2.2.2.2.2.2.2.2.2.2.2.2.2.2.2.1).trans h1.2.2.2.2.2.2.2.2.2.2.2.2.2.2.2.2.2.2.2.2.2.2.2.2.2.2.2.2.2.2.2.2.2.2.2.2.2.2.2.2.2.2.2.2.2.2.2.2.2.2.2.2.2.2.2.2.2.2.2.1, (h2.2.2.2.2.2.2.2.2.2.2.2.2.2.2.2.2.2.2.2.2.2.2.2.2.2.2.2.2.2.2.2.2.2.2.2.2.2.2.2.2.2.2.2.2.2.2.2.2.2.2.2.2.2.2.2.2.2.2.2.2.1).trans h1.2.2.2.2.2.2.2.2.2.2.2.2.2.2.2.2.2.2.2.2.2.2.2.2.2.2.2.2.2.2.2.2.2.2.2.2.2.2.2.2.2.2.2.2.2.2.2.2.2.2.2.2.2.2.2.2.2.2.2.2.1, (h2.2.2.2.2.2.2.2.2.2.2.2.2.2.2.2.2.2.2.2.2.2.2.2.2.2.2.2.2.2.2.2.2.2.2.2.2.2.2.2.2.2.2.2.2.2.2.2.2.2.2.2.2.2.2.2.2.2.2.2.2.2.1).trans h1.2.2.2.2.2.2.2.2.2.2.2.2.2.2.2.2.2.2.2.2.2.2.2.2.2.2.2.2.2.2.2.2.2.2.2.2.2.2.2.2.2.2.2.2.2.2.2.2.2.2.2.2.2.2.2.2.2.2.2.2.2.1, (h2.2.2.2.2.2.2.2.2.2.2.2.2.2.2.2.2.2.2.2.2.2.2.2.2.2.2.2.2.2.2.2.2.2.2.2.2.2.2.2.2.2.2.2.2.2.2.2.2.2.2.2.2.2.2.2.2.2.2.2.2.2.2.1).trans h1.2.2.2.2.2.2.2.2.2.2.2.2.2.2.2.2.2.2.2.2.2.2.2.2.2.2.2.2.2.2.2.2.2.2.2.2.2.2.2.2.2.2.2.2.2.2.2.2.2.2.2.2.2.2.2.2.2.2.2.2.2.2.1, (h2.2.2.2.2.2.2.2.2.2.2.2.2.2.2.2.2.2.2.2.2.2.2.2.2.2.2.2.2.2.2.2.2.2.2.2.2.2.2.2.2.2.2.2.2.2.2.2.2.2.2.2.2.2.2.2.2.2.2.2.2.2.2.2).trans h1.2.2.2.2.2.2.2.2.2.2.2.2.2.2.2.2.2.2.2.2.2.2.2.2.2.2.2.2.2.2.2.2.2.2.2.2.2.2.2.2.2.2.2.2.2.2.2.2.2.2.2.2.2.2.2.2.2.2.2.2.2.2.2⟩
theorem dX11_mostOf_0 : decode cX11_mostOf 0 = .ok (.iconst 0, 1) := by decide +kernel
theorem dX11_mostOf_1 : decode cX11_mostOf 1 = .ok (.istore_n 3, 1) := by decide +kernel
theorem dX11_mostOf_2 : decode cX11_mostOf 2 = .ok (.iload_n 3, 1) := by decide +kernel
theorem dX11_mostOf_3 : decode cX11_mostOf 3 = .ok (.iconst 3, 1) := by decide +kernel
theorem dX11_mostOf_4 : decode cX11_mostOf 4 = .ok (.if_icmp .ge 16, 3) := by decide +kernel
theorem dX11_mostOf_7 : decode cX11_mostOf 7 = .ok (.aload_n 0, 1) := by decide +kernel
theorem dX11_mostOf_8 : decode cX11_mostOf 8 = .ok (.getfield 133, 3) := by decide +kernel
theorem dX11_mostOf_11 : decode cX11_mostOf 11 = .ok (.iload_n 3, 1) := by decide +kernel
theorem dX11_mostOf_12 : decode cX11_mostOf 12 = .ok (.iconst 0, 1) := by decide +kernel
theorem dX11_mostOf_13 : decode cX11_mostOf 13 = .ok (.iastore, 1) := by decide +kernel
theorem dX11_mostOf_14 : decode cX11_mostOf 14 = .ok (.iinc 3 1, 3) := by decide +kernel
theorem dX11_mostOf_17 : decode cX11_mostOf 17 = .ok (.goto (-15), 3) := by decide +kernel
theorem dX11_mostOf_20 : decode cX11_mostOf 20 = .ok (.iconst 0, 1) := by decide +kernel
theorem dX11_mostOf_21 : decode cX11_mostOf 21 = .ok (.istore_n 3, 1) := by decide +kernel
theorem dX11_mostOf_22 : decode cX11_mostOf 22 = .ok (.iconst 0, 1) := by decide +kernel
theorem dX11_mostOf_23 : decode cX11_mostOf 23 = .ok (.istore 4, 2) := by decide +kernel
theorem dX11_mostOf_25 : decode cX11_mostOf 25 = .ok (.iload 4, 2) := by decide +kernel
theorem dX11_mostOf_27 : decode cX11_mostOf 27 = .ok (.bipush 30, 2) := by decide +kernel
theorem dX11_mostOf_29 : decode cX11_mostOf 29 = .ok (.if_icmp .gt 69, 3) := by decide +kernel
theorem dX11_mostOf_32 : decode cX11_mostOf 32 = .ok (.aload_n 0, 1) := by decide +kernel
theorem dX11_mostOf_33 : decode cX11_mostOf 33 = .ok (.iload 4, 2) := by decide +kernel
theorem dX11_mostOf_35 : decode cX11_mostOf 35 = .ok (.iload_n 2, 1) := by decide +kernel
theorem dX11_mostOf_36 : decode cX11_mostOf 36 = .ok (.invokevirtual 491, 3) := by decide +kernel
theorem dX11_mostOf_39 : decode cX11_mostOf 39 = .ok (.ifCond .ne 6, 3) := by decide +kernel
theorem dX11_mostOf_42 : decode cX11_mostOf 42 = .ok (.goto 50, 3) := by decide +kernel
theorem dX11_mostOf_45 : decode cX11_mostOf 45 = .ok (.aload_n 0, 1) := by decide +kernel
theorem dX11_mostOf_46 : decode cX11_mostOf 46 = .ok (.getfield 115, 3) := by decide +kernel
theorem dX11_mostOf_49 : decode cX11_mostOf 49 = .ok (.bipush 6, 2) := by decide +kernel
theorem dX11_mostOf_51 : decode cX11_mostOf 51 = .ok (.iload 4, 2) := by decide +kernel
theorem dX11_mostOf_53 : decode cX11_mostOf 53 = .ok (.imul, 1) := by decide +kernel
theorem dX11_mostOf_54 : decode cX11_mostOf 54 = .ok (.iload_n 1, 1) := by decide +kernel
theorem dX11_mostOf_55 : decode cX11_mostOf 55 = .ok (.iadd, 1) := by decide +kernel
theorem dX11_mostOf_56 : decode cX11_mostOf 56 = .ok (.iaload, 1) := by decide +kernel
theorem dX11_mostOf_57 : decode cX11_mostOf 57 = .ok (.invokestatic 439, 3) := by decide +kernel
theorem dX11_mostOf_60 : decode cX11_mostOf 60 = .ok (.istore 5, 2) := by decide +kernel
theorem dX11_mostOf_62 : decode cX11_mostOf 62 = .ok (.aload_n 0, 1) := by decide +kernel
theorem dX11_mostOf_63 : decode cX11_mostOf 63 = .ok (.getfield 133, 3) := by decide +kernel
theorem dX11_mostOf_66 : decode cX11_mostOf 66 = .ok (.iload 5, 2) := by decide +kernel
theorem dX11_mostOf_68 : decode cX11_mostOf 68 = .ok (.dup2, 1) := by decide +kernel
theorem dX11_mostOf_69 : decode cX11_mostOf 69 = .ok (.iaload, 1) := by decide +kernel
theorem dX11_mostOf_70 : decode cX11_mostOf 70 = .ok (.iconst 1, 1) := by decide +kernel
theorem dX11_mostOf_71 : decode cX11_mostOf 71 = .ok (.iadd, 1) := by decide +kernel
theorem dX11_mostOf_72 : decode cX11_mostOf 72 = .ok (.iastore, 1) := by decide +kernel
theorem dX11_mostOf_73 : decode cX11_mostOf 73 = .ok (.aload_n 0, 1) := by decide +kernel
theorem dX11_mostOf_74 : decode cX11_mostOf 74 = .ok (.getfield 133, 3) := by decide +kernel
theorem dX11_mostOf_77 : decode cX11_mostOf 77 = .ok (.iload 5, 2) := by decide +kernel
theorem dX11_mostOf_79 : decode cX11_mostOf 79 = .ok (.iaload, 1) := by decide +kernel
theorem dX11_mostOf_80 : decode cX11_mostOf 80 = .ok (.iload_n 3, 1) := by decide +kernel
theorem dX11_mostOf_81 : decode cX11_mostOf 81 = .ok (.if_icmp .le 11, 3) := by decide +kernel
theorem dX11_mostOf_84 : decode cX11_mostOf 84 = .ok (.aload_n 0, 1) := by decide +kernel
theorem dX11_mostOf_85 : decode cX11_mostOf 85 = .ok (.getfield 133, 3) := by decide +kernel
theorem dX11_mostOf_88 : decode cX11_mostOf 88 = .ok (.iload 5, 2) := by decide +kernel
theorem dX11_mostOf_90 : decode cX11_mostOf 90 = .ok (.iaload, 1) := by decide +kernel
theorem dX11_mostOf_91 : decode cX11_mostOf 91 = .ok (.istore_n 3, 1) := by decide +kernel
theorem dX11_mostOf_92 : decode cX11_mostOf 92 = .ok (.iinc 4 1, 3) := by decide +kernel
theorem dX11_mostOf_95 : decode cX11_mostOf 95 = .ok (.goto (-70), 3) := by decide +kernel
theorem dX11_mostOf_98 : decode cX11_mostOf 98 = .ok (.iload_n 3, 1) := by decide +kernel
theorem dX11_mostOf_99 : decode cX11_mostOf 99 = .ok (.ireturn, 1) := by decide +kernel
theorem wd_2015 : (Cond.code ⟨"WebCourtModel", "mostOf", "(II)I"⟩ prog_13_method_118_code (6 : Nat) (Option.some FieldType.int)) ∈ gtb := gtb_c8 226 (by decide +kernel) rfl
theorem Km23_A33 {u v : St} (h : Km23 u v) : fA v 33 = fA u 33 := h.2.2.2.2.2.2.2.2.2.2.2.2.2.2.2.2.2.2.2.2.2.2.2.2.2.2.2.2.2.2.2.2.2.2.2.2.2.2.2.2.2.2.2.2.2.2.2.2.2.2.2.2.2.2.2.1
theorem wd_1415 : (Cond.fieldLink "WebCourtModel" (133 : Nat) "WebCourtModel" "parts" "[I") ∈ gtb := gtb_c6 106 (by decide +kernel) rfl
theorem gf_RX11_133 {p : Program} {l : Launch} {e : Env} {R : Room} {s : State} {m : MethodId} {args : Array Value} {below : List Frame} {meth : Method} {c : Code} {H : Heap} {locs : List Loc} {cells slots : Nat} {Q : State → Prop} {cc : ByteArray} {pc nL : Nat} {ls : Array Slot} {rest : List Value} {D : va_G} {cy : Nat → ClassId} {A : Nat → Prop} {ws : va_W} {b : Nat} {fs : List Value} {v : Value} (C : Cx p s m args c cc nL RX11 D cy A) (hO : Wo D A ws s.heap H locs) (q0 : Nat) (he : ws[q0]? = some (b, .inr (11, fs))) (hv : fs[59]? = some v) (hdg : decode cc pc = .ok (.getfield 133, 3)) (kk : W p l e R s m args below meth c H locs cells slots Q (F0 m (pc + 3) ls (v :: rest))) : W p l e R s m args below meth c H locs cells slots Q (F0 m pc ls (.ref b :: rest)) := gF (k := 59) C hO q0 he rfl inFX11 (by decide) wd_1415 rfl hv hdg kk
set_option maxHeartbeats 4000000 in
set_option maxRecDepth 100000 in
theorem T_X11_mostOf (l : Launch) (D : va_G) (cy : Nat → ClassId) (a : Nat → Nat) (u : St) (hJ : MI a u) (x1 : Int32) (x2 : Int32) (hx_x1 : 0 ≤ x1.toInt ∧ x1.toInt ≤ 5) : Mi l D cy (mW cy a) yX11_mostOf (.code yX11_mostOf cX11_mostOf 6 (some .int)) (rmo 1 24) [.ref (a 0), .int x1, .int x2] u (fun (r : Int32) (u' : St) => (MI a u') ∧ (Km23 u u')) := by
  refine Mi.of (own := RX11) rfl (by decide) (Nat.le_of_ble_eq_true rfl) ?_
  have hT : Km23 u u := Km23.rf
  have hJ0 := hJ
  intro p e s m below meth c A Q ls C hret hO hl
  obtain ⟨hx, hb, hml, hown, ht, hK, hA⟩ := id C
  have hl : lv_has ls 6 [(0, .ref (a 0)), (1, .int x1), (2, .int x2)] := hl
  refine lv_iconst (v := 0) hx hb dX11_mostOf_0 (by decide) ?_
  refine lv_istore_n (lv' := [(3, .int 0), (0, .ref (a 0)), (1, .int x1), (2, .int x2)]) hx hb dX11_mostOf_1 rfl hl (by decide) rfl (fun ls hl => ?_)
  have LP_2_k2 : ∀ (n : Nat) (u1 : St) (H : Heap) (locs : List Loc) (ls : Array Slot) (i_k2 : Int32), Wo D A (mW cy a u1) s.heap H locs → lv_has ls 6 [(3, .int i_k2), (0, .ref (a 0)), (1, .int x1), (2, .int x2)] → MI a u1 → Km23 u u1 → 0 ≤ i_k2.toInt ∧ i_k2.toInt ≤ 3 → 3 - i_k2.toInt < (n : Int) → W p l e (rmo 1 24) s m [.ref (a 0), .int x1, .int x2].toArray below meth c H locs 0 0 Q (F0 m 2 ls []) := by
    intro n
    induction n with
    | zero =>
      intro u1 H locs ls i_k2 hO hl hJ hT iv0_k2 hm_k2
      exact absurd hm_k2 (by omega)
    | succ n ih_k2 =>
      intro u1 H locs ls i_k2 hO hl hJ hT iv0_k2 hm_k2
      refine lv_iload_n hx hb dX11_mostOf_2 rfl (lv_at hl 0 rfl) ?_
      refine lv_iconst (v := 3) hx hb dX11_mostOf_3 (by decide) ?_
      refine cs_ge (tgt := 20) (X := (i_k2).toInt) (Y := 3) hx hb dX11_mostOf_4 (by decide) rfl rfl (fun c3 => ?_) (fun c3 => ?_)
      · refine lv_iconst (v := 0) hx hb dX11_mostOf_20 (by decide) ?_
        refine lv_istore_n (lv' := [(3, .int 0), (0, .ref (a 0)), (1, .int x1), (2, .int x2)]) hx hb dX11_mostOf_21 rfl hl (by decide) rfl (fun ls hl => ?_)
        refine lv_iconst (v := 0) hx hb dX11_mostOf_22 (by decide) ?_
        refine lv_istore (lv' := [(4, .int 0), (3, .int 0), (0, .ref (a 0)), (1, .int x1), (2, .int x2)]) hx hb dX11_mostOf_23 hl (by decide) rfl (fun ls hl => ?_)
        have LP_25_k5 : ∀ (n : Nat) (u4 : St) (H : Heap) (locs : List Loc) (ls : Array Slot) (v_k5 : Int32) (w3_k5 : Int32), Wo D A (mW cy a u4) s.heap H locs → lv_has ls 6 [(4, .int v_k5), (3, .int w3_k5), (0, .ref (a 0)), (1, .int x1), (2, .int x2)] → MI a u4 → Km23 u u4 → 0 ≤ v_k5.toInt ∧ v_k5.toInt ≤ 31 → 31 - v_k5.toInt < (n : Int) → W p l e (rmo 1 24) s m [.ref (a 0), .int x1, .int x2].toArray below meth c H locs 0 0 Q (F0 m 25 ls []) := by
          intro n
          induction n with
          | zero =>
            intro u4 H locs ls v_k5 w3_k5 hO hl hJ hT iv0_k5 hm_k5
            exact absurd hm_k5 (by omega)
          | succ n ih_k5 =>
            intro u4 H locs ls v_k5 w3_k5 hO hl hJ hT iv0_k5 hm_k5
            refine lv_iload hx hb dX11_mostOf_25 (lv_at hl 0 rfl) ?_
            refine lv_bipush (v := 30) hx hb dX11_mostOf_27 (by decide) ?_
            refine cs_gt (tgt := 98) (X := (v_k5).toInt) (Y := 30) hx hb dX11_mostOf_29 (by decide) rfl rfl (fun c6 => ?_) (fun c6 => ?_)
            · refine lv_iload_n hx hb dX11_mostOf_98 rfl (lv_at hl 1 rfl) ?_
              refine hret _ _ _ _ _ _ dX11_mostOf_99 rfl ?_ hO
              exact ⟨hJ, hT⟩
            · refine lv_aload_n hx hb dX11_mostOf_32 rfl (lv_at hl 2 rfl) ?_
              refine lv_iload hx hb dX11_mostOf_33 (lv_at hl 0 rfl) ?_
              refine lv_iload_n hx hb dX11_mostOf_35 rfl (lv_at hl 4 rfl) ?_
              refine cVi (w := mW cy a) (As := [.int v_k5, .int x2]) (rest := []) C hO (T_X11_doesFit l D cy a _ (by exact hJ) (v_k5) (x2) (by first | omega | decide)) (cwV 2 ht (gV wd_1999 wd_2001 wd_107 wd_121 wd_2002) rfl rfl rfl hd_yX11_doesFit ⟨Nat.le_of_ble_eq_true rfl, Nat.le_of_ble_eq_true rfl⟩) 0 rfl mW_0 rfl rfl hl.1 (Nat.le_of_ble_eq_true rfl) dX11_mostOf_36 rfl ⟨Nat.zero_le _, Nat.zero_le _⟩ (fun r7 u8 H locs hp9 hO => ?_)
              obtain ⟨hr7, hu8⟩ := hp9
              rw [hu8] at hO
              rcases hr7 with ⟨hcr7, hvr7⟩ | ⟨hcr7, hvr7⟩
              · subst hvr7
                refine bt_ne (tgt := 45) (X := 1) hx hb dX11_mostOf_39 (by decide) rfl (by omega) ?_
                refine lv_aload_n hx hb dX11_mostOf_45 rfl (lv_at hl 2 rfl) ?_
                refine gf_RX11_115 (v := .ref (a 33)) C hO 0 mW_0 rfl dX11_mostOf_46 ?_
                refine lv_bipush (v := 6) hx hb dX11_mostOf_49 (by decide) ?_
                refine lv_iload hx hb dX11_mostOf_51 (lv_at hl 0 rfl) ?_
                have e10 : ((6 * v_k5)).toInt = 6 * (v_k5).toInt := i_mul rfl rfl (by omega)
                refine lv_imul hx hb dX11_mostOf_53 ?_
                refine lv_iload_n hx hb dX11_mostOf_54 rfl (lv_at hl 3 rfl) ?_
                have e11 : (((6 * v_k5) + x1)).toInt = (6 * (v_k5).toInt) + (x1).toInt := i_add e10 rfl (by omega)
                refine lv_iadd hx hb dX11_mostOf_55 ?_
                refine aI C hO 33 mW_33 (i_in (X := ((6 * (v_k5).toInt) + (x1).toInt)) e11 (by omega) (by omega)) dX11_mostOf_56 ?_
                refine tE (y := (fA u 33 (((6 * v_k5) + x1)).toNatClampNeg)) (by exact (congrFun (Km23_A33 hT) _)) ?_
                refine cSi (w := mW cy a) (As := [.int (fA u 33 (((6 * v_k5) + x1)).toNatClampNeg)]) (rest := []) C hO (T_X11_outcome l D cy a _ (by exact hJ) ((fA u 33 (((6 * v_k5) + x1)).toNatClampNeg))) (va_cwS 1 ht (gSS wd_1825 wd_1826 wd_121 wd_1827) rfl rfl rfl hd_yX11_outcome ⟨Nat.le_of_ble_eq_true rfl, Nat.le_of_ble_eq_true rfl⟩)  rfl hl.1 (Nat.le_of_ble_eq_true rfl) dX11_mostOf_57 rfl ⟨Nat.zero_le _, Nat.zero_le _⟩ (fun r12 u13 H locs hp14 hO => ?_)
                obtain ⟨hr12, hu13⟩ := hp14
                rw [hu13] at hO
                refine lv_istore (lv' := [(5, .int r12), (4, .int v_k5), (3, .int w3_k5), (0, .ref (a 0)), (1, .int x1), (2, .int x2)]) hx hb dX11_mostOf_60 hl (by decide) rfl (fun ls hl => ?_)
                refine lv_aload_n hx hb dX11_mostOf_62 rfl (lv_at hl 3 rfl) ?_
                refine gf_RX11_133 (v := .ref (a 39)) C hO 0 mW_0 rfl dX11_mostOf_63 ?_
                refine lv_iload hx hb dX11_mostOf_66 (lv_at hl 0 rfl) ?_
                refine lv_dup2_11 hx hb dX11_mostOf_68 rfl rfl ?_
                refine aI C hO 39 mW_39 (i_in (X := (r12).toInt) rfl (by omega) (by omega)) dX11_mostOf_69 ?_
                refine tE (y := (fA u4 39 (r12).toNatClampNeg)) (by exact rfl) ?_
                refine lv_iconst (v := 1) hx hb dX11_mostOf_70 (by decide) ?_
                refine lv_iadd hx hb dX11_mostOf_71 ?_
                refine aIs C hO 39 mW_39 (i_in (X := (r12).toInt) rfl (by omega) (by omega)) mW_s39 dX11_mostOf_72 (fun H locs hO => ?_)
                have hJ := MIsA_39 hO hJ
                refine lv_aload_n hx hb dX11_mostOf_73 rfl (lv_at hl 3 rfl) ?_
                refine gf_RX11_133 (v := .ref (a 39)) C hO 0 mW_0 rfl dX11_mostOf_74 ?_
                refine lv_iload hx hb dX11_mostOf_77 (lv_at hl 0 rfl) ?_
                refine aI C hO 39 mW_39 (i_in (X := (r12).toInt) rfl (by omega) (by omega)) dX11_mostOf_79 ?_
                refine lv_topi (fun w15 ew15 => ?_)
                refine lv_iload_n hx hb dX11_mostOf_80 rfl (lv_at hl 2 rfl) ?_
                refine cs_le (tgt := 92) (X := (w15).toInt) (Y := (w3_k5).toInt) hx hb dX11_mostOf_81 (by decide) rfl rfl (fun c16 => ?_) (fun c16 => ?_)
                · have e17 : ((v_k5 + 1)).toInt = (v_k5).toInt + 1 := i_add rfl rfl (by omega)
                  refine lv_iinc (v := (v_k5 + 1)) (lv' := [(4, .int (v_k5 + 1)), (5, .int r12), (3, .int w3_k5), (0, .ref (a 0)), (1, .int x1), (2, .int x2)]) hx hb dX11_mostOf_92 hl (k := 1) rfl rfl (by decide) rfl (fun ls hl => ?_)
                  refine lv_goto (tgt := 25) hx hb dX11_mostOf_95 (by decide) ?_
                  exact ih_k5 _ _ _ _ ((v_k5 + 1)) (w3_k5) hO (lv_sub hl [0, 2, 3, 4, 5] rfl) (by exact hJ) (by exact hT) (by first | decide | omega) (by first | decide | omega)
                · refine lv_aload_n hx hb dX11_mostOf_84 rfl (lv_at hl 3 rfl) ?_
                  refine gf_RX11_133 (v := .ref (a 39)) C hO 0 mW_0 rfl dX11_mostOf_85 ?_
                  refine lv_iload hx hb dX11_mostOf_88 (lv_at hl 0 rfl) ?_
                  refine aI C hO 39 mW_39 (i_in (X := (r12).toInt) rfl (by omega) (by omega)) dX11_mostOf_90 ?_
                  refine lv_topi (fun w18 ew18 => ?_)
                  refine lv_istore_n (lv' := [(3, .int w18), (5, .int r12), (4, .int v_k5), (0, .ref (a 0)), (1, .int x1), (2, .int x2)]) hx hb dX11_mostOf_91 rfl hl (by decide) rfl (fun ls hl => ?_)
                  have e19 : ((v_k5 + 1)).toInt = (v_k5).toInt + 1 := i_add rfl rfl (by omega)
                  refine lv_iinc (v := (v_k5 + 1)) (lv' := [(4, .int (v_k5 + 1)), (3, .int w18), (5, .int r12), (0, .ref (a 0)), (1, .int x1), (2, .int x2)]) hx hb dX11_mostOf_92 hl (k := 2) rfl rfl (by decide) rfl (fun ls hl => ?_)
                  refine lv_goto (tgt := 25) hx hb dX11_mostOf_95 (by decide) ?_
                  exact ih_k5 _ _ _ _ ((v_k5 + 1)) (w18) hO (lv_sub hl [0, 1, 3, 4, 5] rfl) (by exact hJ) (by exact hT) (by first | decide | omega) (by first | decide | omega)
              · subst hvr7
                refine bn_ne (X := 0) hx hb dX11_mostOf_39 rfl (by omega) ?_ (tgt := 45) (by decide)
                refine lv_goto (tgt := 92) hx hb dX11_mostOf_42 (by decide) ?_
                have e20 : ((v_k5 + 1)).toInt = (v_k5).toInt + 1 := i_add rfl rfl (by omega)
                refine lv_iinc (v := (v_k5 + 1)) (lv' := [(4, .int (v_k5 + 1)), (3, .int w3_k5), (0, .ref (a 0)), (1, .int x1), (2, .int x2)]) hx hb dX11_mostOf_92 hl (k := 0) rfl rfl (by decide) rfl (fun ls hl => ?_)
                refine lv_goto (tgt := 25) hx hb dX11_mostOf_95 (by decide) ?_
                exact ih_k5 _ _ _ _ ((v_k5 + 1)) (w3_k5) hO (lv_sub hl [0, 1, 2, 3, 4] rfl) (by exact hJ) (by exact hT) (by first | decide | omega) (by first | decide | omega)
        have zc21 : (0 : Int32).toInt = 0 := rfl
        exact LP_25_k5 4000 _ _ _ _ (0) (0) hO (lv_sub hl [0, 1, 2, 3, 4] rfl) (by exact hJ) (by exact hT) (by first | decide | omega) (by first | decide | omega)
      · refine lv_aload_n hx hb dX11_mostOf_7 rfl (lv_at hl 1 rfl) ?_
        refine gf_RX11_133 (v := .ref (a 39)) C hO 0 mW_0 rfl dX11_mostOf_8 ?_
        refine lv_iload_n hx hb dX11_mostOf_11 rfl (lv_at hl 0 rfl) ?_
        refine lv_iconst (v := 0) hx hb dX11_mostOf_12 (by decide) ?_
        refine aIs C hO 39 mW_39 (i_in (X := (i_k2).toInt) rfl (by omega) (by omega)) mW_s39 dX11_mostOf_13 (fun H locs hO => ?_)
        have hJ := MIsA_39 hO hJ
        have e22 : ((i_k2 + 1)).toInt = (i_k2).toInt + 1 := i_add rfl rfl (by omega)
        refine lv_iinc (v := (i_k2 + 1)) (lv' := [(3, .int (i_k2 + 1)), (0, .ref (a 0)), (1, .int x1), (2, .int x2)]) hx hb dX11_mostOf_14 hl (k := 0) rfl rfl (by decide) rfl (fun ls hl => ?_)
        refine lv_goto (tgt := 2) hx hb dX11_mostOf_17 (by decide) ?_
        exact ih_k2 _ _ _ _ ((i_k2 + 1)) hO (lv_sub hl [0, 1, 2, 3] rfl) (by exact hJ) (by exact hT) (by first | decide | omega) (by first | decide | omega)
  have zc23 : (0 : Int32).toInt = 0 := rfl
  exact LP_2_k2 4000 _ _ _ _ (0) hO (lv_sub hl [0, 1, 2, 3] rfl) (by exact hJ) (by exact hT) (by first | decide | omega) (by first | decide | omega)
def Km24 (u v : St) : Prop := fI v 0 2 = fI u 0 2 ∧ fI v 0 3 = fI u 0 3 ∧ fI v 0 4 = fI u 0 4 ∧ fI v 0 5 = fI u 0 5 ∧ fI v 0 6 = fI u 0 6 ∧ fI v 0 7 = fI u 0 7 ∧ fI v 0 8 = fI u 0 8 ∧ fI v 0 9 = fI u 0 9 ∧ fL v 0 10 = fL u 0 10 ∧ fI v 0 36 = fI u 0 36 ∧ fI v 0 37 = fI u 0 37 ∧ fI v 0 38 = fI u 0 38 ∧ fI v 0 39 = fI u 0 39 ∧ fI v 0 40 = fI u 0 40 ∧ fI v 0 41 = fI u 0 41 ∧ fI v 0 47 = fI u 0 47 ∧ fI v 0 48 = fI u 0 48 ∧ fI v 0 50 = fI u 0 50 ∧ fI v 0 61 = fI u 0 61 ∧ fI v 0 62 = fI u 0 62 ∧ fA v 1 = fA u 1 ∧ fA v 2 = fA u 2 ∧ fA v 3 = fA u 3 ∧ fA v 4 = fA u 4 ∧ fA v 5 = fA u 5 ∧ fA v 6 = fA u 6 ∧ fA v 7 = fA u 7 ∧ fA v 8 = fA u 8 ∧ fA v 9 = fA u 9 ∧ fA v 10 = fA u 10 ∧ fA v 11 = fA u 11 ∧ fA v 12 = fA u 12 ∧ fA v 13 = fA u 13 ∧ fA v 14 = fA u 14 ∧ fA v 15 = fA u 15 ∧ fA v 16 = fA u 16 ∧ fA v 17 = fA u 17 ∧ fA v 18 = fA u 18 ∧ fA v 19 = fA u 19 ∧ fJ v 20 = fJ u 20 ∧ fJ v 21 = fJ u 21 ∧ fJ v 22 = fJ u 22 ∧ fA v 23 = fA u 23 ∧ fA v 24 = fA u 24 ∧ fA v 25 = fA u 25 ∧ fA v 26 = fA u 26 ∧ fA v 29 = fA u 29 ∧ fA v 30 = fA u 30 ∧ fA v 31 = fA u 31 ∧ fA v 32 = fA u 32 ∧ fA v 34 = fA u 34 ∧ fA v 35 = fA u 35 ∧ fA v 36 = fA u 36 ∧ fA v 37 = fA u 37 ∧ fA v 38 = fA u 38 ∧ fA v 41 = fA u 41 ∧ fA v 42 = fA u 42
theorem Km24.rf {u : St} : Km24 u u := ⟨rfl, rfl, rfl, rfl, rfl, rfl, rfl, rfl, rfl, rfl, rfl, rfl, rfl, rfl, rfl, rfl, rfl, rfl, rfl, rfl, rfl, rfl, rfl, rfl, rfl, rfl, rfl, rfl, rfl, rfl, rfl, rfl, rfl, rfl, rfl, rfl, rfl, rfl, rfl, rfl, rfl, rfl, rfl, rfl, rfl, rfl, rfl, rfl, rfl, rfl, rfl, rfl, rfl, rfl, rfl, rfl, rfl⟩
theorem Km24.tr {u v w : St} (h1 : Km24 u v) (h2 : Km24 v w) : Km24 u w := ⟨(h2.1).trans h1.1, (h2.2.1).trans h1.2.1, (h2.2.2.1).trans h1.2.2.1, (h2.2.2.2.1).trans h1.2.2.2.1, (h2.2.2.2.2.1).trans h1.2.2.2.2.1, (h2.2.2.2.2.2.1).trans h1.2.2.2.2.2.1, (h2.2.2.2.2.2.2.1).trans h1.2.2.2.2.2.2.1, (h2.2.2.2.2.2.2.2.1).trans h1.2.2.2.2.2.2.2.1, (h2.2.2.2.2.2.2.2.2.1).trans h1.2.2.2.2.2.2.2.2.1, (h2.2.2.2.2.2.2.2.2.2.1).trans h1.2.2.2.2.2.2.2.2.2.1, (h2.2.2.2.2.2.2.2.2.2.2.1).trans h1.2.2.2.2.2.2.2.2.2.2.1, (h2.2.2.2.2.2.2.2.2.2.2.2.1).trans h1.2.2.2.2.2.2.2.2.2.2.2.1, (h2.2.2.2.2.2.2.2.2.2.2.2.2.1).trans h1.2.2.2.2.2.2.2.2.2.2.2.2.1, (h2.2.2.2.2.2.2.2.2.2.2.2.2.2.1).trans h1.2.2.2.2.2.2.2.2.2.2.2.2.2.1, (h2.2.2.2.2.2.2.2.2.2.2.2.2.2.2.1).trans h1.2.2.2.2.2.2.2.2.2.2.2.2.2.2.1, (h2.2.2.2.2.2.2.2.2.2.2.2.2.2.2.2.1).trans h1.2.2.2.2.2.2.2.2.2.2.2.2.2.2.2.1, (h2.2.2.2.2.2.2.2.2.2.2.2.2.2.2.2.2.1).trans h1.2.2.2.2.2.2.2.2.2.2.2.2.2.2.2.2.1, (h2.2.2.2.2.2.2.2.2.2.2.2.2.2.2.2.2.2.1).trans h1.2.2.2.2.2.2.2.2.2.2.2.2.2.2.2.2.2.1, (h2.2.2.2.2.2.2.2.2.2.2.2.2.2.2.2.2.2.2.1).trans h1.2.2.2.2.2.2.2.2.2.2.2.2.2.2.2.2.2.2.1, (h2.2.2.2.2.2.2.2.2.2.2.2.2.2.2.2.2.2.2.2.1).trans h1.2.2.2.2.2.2.2.2.2.2.2.2.2.2.2.2.2.2.2.1, (h2.2.2.2.2.2.2.2.2.2.2.2.2.2.2.2.2.2.2.2.2.1).trans h1.2.2.2.2.2.2.2.2.2.2.2.2.2.2.2.2.2.2.2.2.1, (h2.2.2.2.2.2.2.2.2.2.2.2.2.2.2.2.2.2.2.2.2.2.1).trans h1.2.2.2.2.2.2.2.2.2.2.2.2.2.2.2.2.2.2.2.2.2.1, (h2.2.2.2.2.2.2.2.2.2.2.2.2.2.2.2.2.2.2.2.2.2.2.1).trans h1.2.2.2.2.2.2.2.2.2.2.2.2.2.2.2.2.2.2.2.2.2.2.1, (h2.2.2.2.2.2.2.2.2.2.2.2.2.2.2.2.2.2.2.2.2.2.2.2.1).trans h1.2.2.2.2.2.2.2.2.2.2.2.2.2.2.2.2.2.2.2.2.2.2.2.1, (h2.2.2.2.2.2.2.2.2.2.2.2.2.2.2.2.2.2.2.2.2.2.2.2.2.1).trans h1.2.2.2.2.2.2.2.2.2.2.2.2.2.2.2.2.2.2.2.2.2.2.2.2.1, (h2.2.2.2.2.2.2.2.2.2.2.2.2.2.2.2.2.2.2.2.2.2.2.2.2.2.1).trans h1.2.2.2.2.2.2.2.2.2.2.2.2.2.2.2.2.2.2.2.2.2.2.2.2.2.1, (h2.2.2.2.2.2.2.2.2.2.2.2.2.2.2.2.2.2.2.2.2.2.2.2.2.2.2.1).trans h1.2.2.2.2.2.2.2.2.2.2.2.2.2.2.2.2.2.2.2.2.2.2.2.2.2.2.1, (h2.2.2.2.2.2.2.2.2.2.2.2.2.2.2.2.2.2.2.2.2.2.2.2.2.2.2.2.1).trans h1.2.2.2.2.2.2.2.2.2.2.2.2.2.2.2.2.2.2.2.2.2.2.2.2.2.2.2.1, (h2.2.2.2.2.2.2.2.2.2.2.2.2.2.2.2.2.2.2.2.2.2.2.2.2.2.2.2.2.1).trans h1.2.2.2.2.2.2.2.2.2.2.2.2.2.2.2.2.2.2.2.2.2.2.2.2.2.2.2.2.1, (h2.2.2.2.2.2.2.2.2.2.2.2.2.2.2.2.2.2.2.2.2.2.2.2.2.2.2.2.2.2.1).trans h1.2.2.2.2.2.2.2.2.2.2.2.2.2.2.2.2.2.2.2.2.2.2.2.2.2.2.2.2.2.1, (h2.2.2.2.2.2.2.2.2.2.2.2.2.2.2.2.2.2.2.2.2.2.2.2.2.2.2.2.2.2.2.1).trans h1.2.2.2.2.2.2.2.2.2.2.2.2.2.2.2.2.2.2.2.2.2.2.2.2.2.2.2.2.2.2.1, (h2.2.2.2.2.2.2.2.2.2.2.2.2.2.2.2.2.2.2.2.2.2.2.2.2.2.2.2.2.2.2.2.1).trans h1.2.2.2.2.2.2.2.2.2.2.2.2.2.2.2.2.2.2.2.2.2.2.2.2.2.2.2.2.2.2.2.1, (h2.2.2.2.2.2.2.2.2.2.2.2.2.2.2.2.2.2.2.2.2.2.2.2.2.2.2.2.2.2.2.2.2.1).trans h1.2.2.2.2.2.2.2.2.2.2.2.2.2.2.2.2.2.2.2.2.2.2.2.2.2.2.2.2.2.2.2.2.1, (h2.2.2.2.2.2.2.2.2.2.2.2.2.2.2.2.2.2.2.2.2.2.2.2.2.2.2.2.2.2.2.2.2.2.1).trans h1.2.2.2.2.2.2.2.2.2.2.2.2.2.2.2.2.2.2.2.2.2.2.2.2.2.2.2.2.2.2.2.2.2.1, (h2.2.2.2.2.2.2.2.2.2.2.2.2.2.2.2.2.2.2.2.2.2.2.2.2.2.2.2.2.2.2.2.2.2.2.1).trans h1.2.2.2.2.2.2.2.2.2.2.2.2.2.2.2.2.2.2.2.2.2.2.2.2.2.2.2.2.2.2.2.2.2.2.1, (h2.2.2.2.2.2.2.2.2.2.2.2.2.2.2.2.2.2.2.2.2.2.2.2.2.2.2.2.2.2.2.2.2.2.2.2.1).trans h1.2.2.2.2.2.2.2.2.2.2.2.2.2.2.2.2.2.2.2.2.2.2.2.2.2.2.2.2.2.2.2.2.2.2.2.1, (h2.2.2.2.2.2.2.2.2.2.2.2.2.2.2.2.2.2.2.2.2.2.2.2.2.2.2.2.2.2.2.2.2.2.2.2.2.1).trans h1.2.2.2.2.2.2.2.2.2.2.2.2.2.2.2.2.2.2.2.2.2.2.2.2.2.2.2.2.2.2.2.2.2.2.2.2.1, (h2.2.2.2.2.2.2.2.2.2.2.2.2.2.2.2.2.2.2.2.2.2.2.2.2.2.2.2.2.2.2.2.2.2.2.2.2.2.1).trans h1.2.2.2.2.2.2.2.2.2.2.2.2.2.2.2.2.2.2.2.2.2.2.2.2.2.2.2.2.2.2.2.2.2.2.2.2.2.1, (h2.2.2.2.2.2.2.2.2.2.2.2.2.2.2.2.2.2.2.2.2.2.2.2.2.2.2.2.2.2.2.2.2.2.2.2.2.2.2.1).trans h1.2.2.2.2.2.2.2.2.2.2.2.2.2.2.2.2.2.2.2.2.2.2.2.2.2.2.2.2.2.2.2.2.2.2.2.2.2.2.1, (h2.2.2.2.2.2.2.2.2.2.2.2.2.2.2.2.2.2.2.2.2.2.2.2.2.2.2.2.2.2.2.2.2.2.2.2.2.2.2.2.1).trans h1.2.2.2.2.2.2.2.2.2.2.2.2.2.2.2.2.2.2.2.2.2.2.2.2.2.2.2.2.2.2.2.2.2.2.2.2.2.2.2.1, (h2.2.2.2.2.2.2.2.2.2.2.2.2.2.2.2.2.2.2.2.2.2.2.2.2.2.2.2.2.2.2.2.2.2.2.2.2.2.2.2.2.1).trans h1.2.2.2.2.2.2.2.2.2.2.2.2.2.2.2.2.2.2.2.2.2.2.2.2.2.2.2.2.2.2.2.2.2.2.2.2.2.2.2.2.1, (h2.2.2.2.2.2.2.2.2.2.2.2.2.2.2.2.2.2.2.2.2.2.2.2.2.2.2.2.2.2.2.2.2.2.2.2.2.2.2.2.2.2.1).trans h1.2.2.2.2.2.2.2.2.2.2.2.2.2.2.2.2.2.2.2.2.2.2.2.2.2.2.2.2.2.2.2.2.2.2.2.2.2.2.2.2.2.1, (h2.2.2.2.2.2.2.2.2.2.2.2.2.2.2.2.2.2.2.2.2.2.2.2.2.2.2.2.2.2.2.2.2.2.2.2.2.2.2.2.2.2.2.1).trans h1.2.2.2.2.2.2.2.2.2.2.2.2.2.2.2.2.2.2.2.2.2.2.2.2.2.2.2.2.2.2.2.2.2.2.2.2.2.2.2.2.2.2.1, (h2.2.2.2.2.2.2.2.2.2.2.2.2.2.2.2.2.2.2.2.2.2.2.2.2.2.2.2.2.2.2.2.2.2.2.2.2.2.2.2.2.2.2.2.1).trans h1.2.2.2.2.2.2.2.2.2.2.2.2.2.2.2.2.2.2.2.2.2.2.2.2.2.2.2.2.2.2.2.2.2.2.2.2.2.2.2.2.2.2.2.1, (h2.2.2.2.2.2.2.2.2.2.2.2.2.2.2.2.2.2.2.2.2.2.2.2.2.2.2.2.2.2.2.2.2.2.2.2.2.2.2.2.2.2.2.2.2.1).trans h1.2.2.2.2.2.2.2.2.2.2.2.2.2.2.2.2.2.2.2.2.2.2.2.2.2.2.2.2.2.2.2.2.2.2.2.2.2.2.2.2.2.2.2.2.1, (h2.2.2.2.2.2.2.2.2.2.2.2.2.2.2.2.2.2.2.2.2.2.2.2.2.2.2.2.2.2.2.2.2.2.2.2.2.2.2.2.2.2.2.2.2.2.1).trans h1.2.2.2.2.2.2.2.2.2.2.2.2.2.2.2.2.2.2.2.2.2.2.2.2.2.2.2.2.2.2.2.2.2.2.2.2.2.2.2.2.2.2.2.2.2.1, (h2.2.2.2.2.2.2.2.2.2.2.2.2.2.2.2.2.2.2.2.2.2.2.2.2.2.2.2.2.2.2.2.2.2.2.2.2.2.2.2.2.2.2.2.2.2.2.1).trans h1.2.2.2.2.2.2.2.2.2.2.2.2.2.2.2.2.2.2.2.2.2.2.2.2.2.2.2.2.2.2.2.2.2.2.2.2.2.2.2.2.2.2.2.2.2.2.1, (h2.2.2.2.2.2.2.2.2.2.2.2.2.2.2.2.2.2.2.2.2.2.2.2.2.2.2.2.2.2.2.2.2.2.2.2.2.2.2.2.2.2.2.2.2.2.2.2.1).trans h1.2.2.2.2.2.2.2.2.2.2.2.2.2.2.2.2.2.2.2.2.2.2.2.2.2.2.2.2.2.2.2.2.2.2.2.2.2.2.2.2.2.2.2.2.2.2.2.1, (h2.2.2.2.2.2.2.2.2.2.2.2.2.2.2.2.2.2.2.2.2.2.2.2.2.2.2.2.2.2.2.2.2.2.2.2.2.2.2.2.2.2.2.2.2.2.2.2.2.1).trans h1.2.2.2.2.2.2.2.2.2.2.2.2.2.2.2.2.2.2.2.2.2.2.2.2.2.2.2.2.2.2.2.2.2.2.2.2.2.2.2.2.2.2.2.2.2.2.2.2.1, (h2.2.2.2.2.2.2.2.2.2.2.2.2.2.2.2.2.2.2.2.2.2.2.2.2.2.2.2.2.2.2.2.2.2.2.2.2.2.2.2.2.2.2.2.2.2.2.2.2.2.1).trans h1.2.2.2.2.2.2.2.2.2.2.2.2.2.2.2.2.2.2.2.2.2.2.2.2.2.2.2.2.2.2.2.2.2.2.2.2.2.2.2.2.2.2.2.2.2.2.2.2.2.1, (h2.2.2.2.2.2.2.2.2.2.2.2.2.2.2.2.2.2.2.2.2.2.2.2.2.2.2.2.2.2.2.2.2.2.2.2.2.2.2.2.2.2.2.2.2.2.2.2.2.2.2.1).trans h1.2.2.2.2.2.2.2.2.2.2.2.2.2.2.2.2.2.2.2.2.2.2.2.2.2.2.2.2.2.2.2.2.2.2.2.2.2.2.2.2.2.2.2.2.2.2.2.2.2.2.1, (h2.2.2.2.2.2.2.2.2.2.2.2.2.2.2.2.2.2.2.2.2.2.2.2.2.2.2.2.2.2.2.2.2.2.2.2.2.2.2.2.2.2.2.2.2.2.2.2.2.2.2.2.1).trans h1.2.2.2.2.2.2.2.2.2.2.2.2.2.2.2.2.2.2.2.2.2.2.2.2.2.2.2.2.2.2.2.2.2.2.2.2.2.2.2.2.2.2.2.2.2.2.2.2.2.2.2.1, (h2.2.2.2.2.2.2.2.2.2.2.2.2.2.2.2.2.2.2.2.2.2.2.2.2.2.2.2.2.2.2.2.2.2.2.2.2.2.2.2.2.2.2.2.2.2.2.2.2.2.2.2.2.1).trans h1.2.2.2.2.2.2.2.2.2.2.2.2.2.2.2.2.2.2.2.2.2.2.2.2.2.2.2.2.2.2.2.2.2.2.2.2.2.2.2.2.2.2.2.2.2.2.2.2.2.2.2.2.1, (h2.2.2.2.2.2.2.2.2.2.2.2.2.2.2.2.2.2.2.2.2.2.2.2.2.2.2.2.2.2.2.2.2.2.2.2.2.2.2.2.2.2.2.2.2.2.2.2.2.2.2.2.2.2.1).trans h1.2.2.2.2.2.2.2.2.2.2.2.2.2.2.2.2.2.2.2.2.2.2.2.2.2.2.2.2.2.2.2.2.2.2.2.2.2.2.2.2.2.2.2.2.2.2.2.2.2.2.2.2.2.1, (h2.2.2.2.2.2.2.2.2.2.2.2.2.2.2.2.2.2.2.2.2.2.2.2.2.2.2.2.2.2.2.2.2.2.2.2.2.2.2.2.2.2.2.2.2.2.2.2.2.2.2.2.2.2.2.1).trans h1.2.2.2.2.2.2.2.2.2.2.2.2.2.2.2.2.2.2.2.2.2.2.2.2.2.2.2.2.2.2.2.2.2.2.2.2.2.2.2.2.2.2.2.2.2.2.2.2.2.2.2.2.2.2.1, (h2.2.2.2.2.2.2.2.2.2.2.2.2.2.2.2.2.2.2.2.2.2.2.2.2.2.2.2.2.2.2.2.2.2.2.2.2.2.2.2.2.2.2.2.2.2.2.2.2.2.2.2.2.2.2.2.1).trans h1.2.2.2.2.2.2.2.2.2.2.2.2.2.2.2.2.2.2.2.2.2.2.2.2.2.2.2.2.2.2.2.2.2.2.2.2.2.2.2.2.2.2.2.2.2.2.2.2.2.2.2.2.2.2.2.1, (h2.2.2.2.2.2.2.2.2.2.2.2.2.2.2.2.2.2.2.2.2.2.2.2.2.2.2.2.2.2.2.2.2.2.2.2.2.2.2.2.2.2.2.2.2.2.2.2.2.2.2.2.2.2.2.2.2).trans h1.2.2.2.2.2.2.2.2.2.2.2.2.2.2.2.2.2.2.2.2.2.2.2.2.2.2.2.2.2.2.2.2.2.2.2.2.2.2.2.2.2.2.2.2.2.2.2.2.2.2.2.2.2.2.2.2⟩
theorem dX11_ask_0 : decode cX11_ask 0 = .ok (.iload_n 1, 1) := by decide +kernel
theorem dX11_ask_1 : decode cX11_ask 1 = .ok (.iconst 0, 1) := by decide +kernel
theorem dX11_ask_2 : decode cX11_ask 2 = .ok (.iconst 1, 1) := by decide +kernel
theorem dX11_ask_3 : decode cX11_ask 3 = .ok (.invokestatic 374, 3) := by decide +kernel
theorem dX11_ask_6 : decode cX11_ask 6 = .ok (.ifCond .eq 18, 3) := by decide +kernel
theorem dX11_ask_9 : decode cX11_ask 9 = .ok (.aload_n 0, 1) := by decide +kernel
theorem dX11_ask_10 : decode cX11_ask 10 = .ok (.invokevirtual 371, 3) := by decide +kernel
theorem dX11_ask_13 : decode cX11_ask 13 = .ok (.ifCond .eq 11, 3) := by decide +kernel
theorem dX11_ask_16 : decode cX11_ask 16 = .ok (.aload_n 0, 1) := by decide +kernel
theorem dX11_ask_17 : decode cX11_ask 17 = .ok (.iload_n 2, 1) := by decide +kernel
theorem dX11_ask_18 : decode cX11_ask 18 = .ok (.invokevirtual 494, 3) := by decide +kernel
theorem dX11_ask_21 : decode cX11_ask 21 = .ok (.ifCond .ne 5, 3) := by decide +kernel
theorem dX11_ask_24 : decode cX11_ask 24 = .ok (.iconst (-1), 1) := by decide +kernel
theorem dX11_ask_25 : decode cX11_ask 25 = .ok (.ireturn, 1) := by decide +kernel
theorem dX11_ask_26 : decode cX11_ask 26 = .ok (.iconst 0, 1) := by decide +kernel
theorem dX11_ask_27 : decode cX11_ask 27 = .ok (.istore_n 3, 1) := by decide +kernel
theorem dX11_ask_28 : decode cX11_ask 28 = .ok (.iconst 1, 1) := by decide +kernel
theorem dX11_ask_29 : decode cX11_ask 29 = .ok (.istore 4, 2) := by decide +kernel
theorem dX11_ask_31 : decode cX11_ask 31 = .ok (.iload 4, 2) := by decide +kernel
theorem dX11_ask_33 : decode cX11_ask 33 = .ok (.aload_n 0, 1) := by decide +kernel
theorem dX11_ask_34 : decode cX11_ask 34 = .ok (.invokevirtual 371, 3) := by decide +kernel
theorem dX11_ask_37 : decode cX11_ask 37 = .ok (.if_icmp .ge 28, 3) := by decide +kernel
theorem dX11_ask_40 : decode cX11_ask 40 = .ok (.aload_n 0, 1) := by decide +kernel
theorem dX11_ask_41 : decode cX11_ask 41 = .ok (.iload 4, 2) := by decide +kernel
theorem dX11_ask_43 : decode cX11_ask 43 = .ok (.iload_n 2, 1) := by decide +kernel
theorem dX11_ask_44 : decode cX11_ask 44 = .ok (.invokevirtual 497, 3) := by decide +kernel
theorem dX11_ask_47 : decode cX11_ask 47 = .ok (.aload_n 0, 1) := by decide +kernel
theorem dX11_ask_48 : decode cX11_ask 48 = .ok (.iload_n 3, 1) := by decide +kernel
theorem dX11_ask_49 : decode cX11_ask 49 = .ok (.iload_n 2, 1) := by decide +kernel
theorem dX11_ask_50 : decode cX11_ask 50 = .ok (.invokevirtual 497, 3) := by decide +kernel
theorem dX11_ask_53 : decode cX11_ask 53 = .ok (.if_icmp .ge 6, 3) := by decide +kernel
theorem dX11_ask_56 : decode cX11_ask 56 = .ok (.iload 4, 2) := by decide +kernel
theorem dX11_ask_58 : decode cX11_ask 58 = .ok (.istore_n 3, 1) := by decide +kernel
theorem dX11_ask_59 : decode cX11_ask 59 = .ok (.iinc 4 1, 3) := by decide +kernel
theorem dX11_ask_62 : decode cX11_ask 62 = .ok (.goto (-31), 3) := by decide +kernel
theorem dX11_ask_65 : decode cX11_ask 65 = .ok (.iload_n 1, 1) := by decide +kernel
theorem dX11_ask_66 : decode cX11_ask 66 = .ok (.ifCond .ne 7, 3) := by decide +kernel
theorem dX11_ask_69 : decode cX11_ask 69 = .ok (.iload_n 3, 1) := by decide +kernel
theorem dX11_ask_70 : decode cX11_ask 70 = .ok (.goto 9, 3) := by decide +kernel
theorem dX11_ask_73 : decode cX11_ask 73 = .ok (.aload_n 0, 1) := by decide +kernel
theorem dX11_ask_74 : decode cX11_ask 74 = .ok (.iload_n 3, 1) := by decide +kernel
theorem dX11_ask_75 : decode cX11_ask 75 = .ok (.iload_n 2, 1) := by decide +kernel
theorem dX11_ask_76 : decode cX11_ask 76 = .ok (.invokevirtual 497, 3) := by decide +kernel
theorem dX11_ask_79 : decode cX11_ask 79 = .ok (.ireturn, 1) := by decide +kernel
theorem wd_2011 : (Cond.code ⟨"WebCourtModel", "ask", "(II)I"⟩ prog_13_method_119_code (5 : Nat) (Option.some FieldType.int)) ∈ gtb := gtb_c8 222 (by decide +kernel) rfl
theorem Km22_to_Km24 {u v : St} (h : Km22 u v) : Km24 u v := ⟨h.1, h.2.1, h.2.2.1, h.2.2.2.1, h.2.2.2.2.1, h.2.2.2.2.2.1, h.2.2.2.2.2.2.1, h.2.2.2.2.2.2.2.1, h.2.2.2.2.2.2.2.2.1, h.2.2.2.2.2.2.2.2.2.1, h.2.2.2.2.2.2.2.2.2.2.1, h.2.2.2.2.2.2.2.2.2.2.2.1, h.2.2.2.2.2.2.2.2.2.2.2.2.1, h.2.2.2.2.2.2.2.2.2.2.2.2.2.1, h.2.2.2.2.2.2.2.2.2.2.2.2.2.2.1, h.2.2.2.2.2.2.2.2.2.2.2.2.2.2.2.1, h.2.2.2.2.2.2.2.2.2.2.2.2.2.2.2.2.1, h.2.2.2.2.2.2.2.2.2.2.2.2.2.2.2.2.2.1, h.2.2.2.2.2.2.2.2.2.2.2.2.2.2.2.2.2.2.1, h.2.2.2.2.2.2.2.2.2.2.2.2.2.2.2.2.2.2.2.1, h.2.2.2.2.2.2.2.2.2.2.2.2.2.2.2.2.2.2.2.2.1, h.2.2.2.2.2.2.2.2.2.2.2.2.2.2.2.2.2.2.2.2.2.1, h.2.2.2.2.2.2.2.2.2.2.2.2.2.2.2.2.2.2.2.2.2.2.1, h.2.2.2.2.2.2.2.2.2.2.2.2.2.2.2.2.2.2.2.2.2.2.2.1, h.2.2.2.2.2.2.2.2.2.2.2.2.2.2.2.2.2.2.2.2.2.2.2.2.1, h.2.2.2.2.2.2.2.2.2.2.2.2.2.2.2.2.2.2.2.2.2.2.2.2.2.1, h.2.2.2.2.2.2.2.2.2.2.2.2.2.2.2.2.2.2.2.2.2.2.2.2.2.2.1, h.2.2.2.2.2.2.2.2.2.2.2.2.2.2.2.2.2.2.2.2.2.2.2.2.2.2.2.1, h.2.2.2.2.2.2.2.2.2.2.2.2.2.2.2.2.2.2.2.2.2.2.2.2.2.2.2.2.1, h.2.2.2.2.2.2.2.2.2.2.2.2.2.2.2.2.2.2.2.2.2.2.2.2.2.2.2.2.2.1, h.2.2.2.2.2.2.2.2.2.2.2.2.2.2.2.2.2.2.2.2.2.2.2.2.2.2.2.2.2.2.1, h.2.2.2.2.2.2.2.2.2.2.2.2.2.2.2.2.2.2.2.2.2.2.2.2.2.2.2.2.2.2.2.1, h.2.2.2.2.2.2.2.2.2.2.2.2.2.2.2.2.2.2.2.2.2.2.2.2.2.2.2.2.2.2.2.2.1, h.2.2.2.2.2.2.2.2.2.2.2.2.2.2.2.2.2.2.2.2.2.2.2.2.2.2.2.2.2.2.2.2.2.1, h.2.2.2.2.2.2.2.2.2.2.2.2.2.2.2.2.2.2.2.2.2.2.2.2.2.2.2.2.2.2.2.2.2.2.1, h.2.2.2.2.2.2.2.2.2.2.2.2.2.2.2.2.2.2.2.2.2.2.2.2.2.2.2.2.2.2.2.2.2.2.2.1, h.2.2.2.2.2.2.2.2.2.2.2.2.2.2.2.2.2.2.2.2.2.2.2.2.2.2.2.2.2.2.2.2.2.2.2.2.1, h.2.2.2.2.2.2.2.2.2.2.2.2.2.2.2.2.2.2.2.2.2.2.2.2.2.2.2.2.2.2.2.2.2.2.2.2.2.1, h.2.2.2.2.2.2.2.2.2.2.2.2.2.2.2.2.2.2.2.2.2.2.2.2.2.2.2.2.2.2.2.2.2.2.2.2.2.2.1, h.2.2.2.2.2.2.2.2.2.2.2.2.2.2.2.2.2.2.2.2.2.2.2.2.2.2.2.2.2.2.2.2.2.2.2.2.2.2.2.1, h.2.2.2.2.2.2.2.2.2.2.2.2.2.2.2.2.2.2.2.2.2.2.2.2.2.2.2.2.2.2.2.2.2.2.2.2.2.2.2.2.1, h.2.2.2.2.2.2.2.2.2.2.2.2.2.2.2.2.2.2.2.2.2.2.2.2.2.2.2.2.2.2.2.2.2.2.2.2.2.2.2.2.2.1, h.2.2.2.2.2.2.2.2.2.2.2.2.2.2.2.2.2.2.2.2.2.2.2.2.2.2.2.2.2.2.2.2.2.2.2.2.2.2.2.2.2.2.1, h.2.2.2.2.2.2.2.2.2.2.2.2.2.2.2.2.2.2.2.2.2.2.2.2.2.2.2.2.2.2.2.2.2.2.2.2.2.2.2.2.2.2.2.1, h.2.2.2.2.2.2.2.2.2.2.2.2.2.2.2.2.2.2.2.2.2.2.2.2.2.2.2.2.2.2.2.2.2.2.2.2.2.2.2.2.2.2.2.2.1, h.2.2.2.2.2.2.2.2.2.2.2.2.2.2.2.2.2.2.2.2.2.2.2.2.2.2.2.2.2.2.2.2.2.2.2.2.2.2.2.2.2.2.2.2.2.1, h.2.2.2.2.2.2.2.2.2.2.2.2.2.2.2.2.2.2.2.2.2.2.2.2.2.2.2.2.2.2.2.2.2.2.2.2.2.2.2.2.2.2.2.2.2.2.1, h.2.2.2.2.2.2.2.2.2.2.2.2.2.2.2.2.2.2.2.2.2.2.2.2.2.2.2.2.2.2.2.2.2.2.2.2.2.2.2.2.2.2.2.2.2.2.2.1, h.2.2.2.2.2.2.2.2.2.2.2.2.2.2.2.2.2.2.2.2.2.2.2.2.2.2.2.2.2.2.2.2.2.2.2.2.2.2.2.2.2.2.2.2.2.2.2.2.1, h.2.2.2.2.2.2.2.2.2.2.2.2.2.2.2.2.2.2.2.2.2.2.2.2.2.2.2.2.2.2.2.2.2.2.2.2.2.2.2.2.2.2.2.2.2.2.2.2.2.1, h.2.2.2.2.2.2.2.2.2.2.2.2.2.2.2.2.2.2.2.2.2.2.2.2.2.2.2.2.2.2.2.2.2.2.2.2.2.2.2.2.2.2.2.2.2.2.2.2.2.2.1, h.2.2.2.2.2.2.2.2.2.2.2.2.2.2.2.2.2.2.2.2.2.2.2.2.2.2.2.2.2.2.2.2.2.2.2.2.2.2.2.2.2.2.2.2.2.2.2.2.2.2.2.1, h.2.2.2.2.2.2.2.2.2.2.2.2.2.2.2.2.2.2.2.2.2.2.2.2.2.2.2.2.2.2.2.2.2.2.2.2.2.2.2.2.2.2.2.2.2.2.2.2.2.2.2.2.1, h.2.2.2.2.2.2.2.2.2.2.2.2.2.2.2.2.2.2.2.2.2.2.2.2.2.2.2.2.2.2.2.2.2.2.2.2.2.2.2.2.2.2.2.2.2.2.2.2.2.2.2.2.2.1, h.2.2.2.2.2.2.2.2.2.2.2.2.2.2.2.2.2.2.2.2.2.2.2.2.2.2.2.2.2.2.2.2.2.2.2.2.2.2.2.2.2.2.2.2.2.2.2.2.2.2.2.2.2.2.1, h.2.2.2.2.2.2.2.2.2.2.2.2.2.2.2.2.2.2.2.2.2.2.2.2.2.2.2.2.2.2.2.2.2.2.2.2.2.2.2.2.2.2.2.2.2.2.2.2.2.2.2.2.2.2.2.2.1, h.2.2.2.2.2.2.2.2.2.2.2.2.2.2.2.2.2.2.2.2.2.2.2.2.2.2.2.2.2.2.2.2.2.2.2.2.2.2.2.2.2.2.2.2.2.2.2.2.2.2.2.2.2.2.2.2.2⟩
theorem Km24_I36 {u v : St} (h : Km24 u v) : fI v 0 36 = fI u 0 36 := h.2.2.2.2.2.2.2.2.2.1
theorem Km24_A6 {u v : St} (h : Km24 u v) : fA v 6 = fA u 6 := h.2.2.2.2.2.2.2.2.2.2.2.2.2.2.2.2.2.2.2.2.2.2.2.2.2.1
theorem wd_2012 : (Cond.methodLink "WebCourtModel" (497 : Nat) ⟨"WebCourtModel", "mostOf", "(II)I"⟩) ∈ gtb := gtb_c8 223 (by decide +kernel) rfl
theorem wd_2014 : (Cond.instanceMethod ⟨"WebCourtModel", "mostOf", "(II)I"⟩) ∈ gtb := gtb_c8 225 (by decide +kernel) rfl
theorem wd_108 : (Cond.selects "WebCourtModel" ⟨"WebCourtModel", "mostOf", "(II)I"⟩ ⟨"WebCourtModel", "mostOf", "(II)I"⟩) ∈ gtb := gtb_p 108 (by decide +kernel) rfl
theorem hd_yX11_mostOf : yX11_mostOf.cls = RX11 ∧ yX11_mostOf.cls ≠ "java/lang/invoke/MethodHandle" ∧ yX11_mostOf.cls ≠ "java/lang/invoke/VarHandle" ∧ (parseMethodDescriptor yX11_mostOf.desc).map (fun d => d.parameters.length) = some 2 := by decide +kernel
theorem Km23_to_Km24 {u v : St} (h : Km23 u v) : Km24 u v := ⟨h.1, h.2.1, h.2.2.1, h.2.2.2.1, h.2.2.2.2.1, h.2.2.2.2.2.1, h.2.2.2.2.2.2.1, h.2.2.2.2.2.2.2.1, h.2.2.2.2.2.2.2.2.1, h.2.2.2.2.2.2.2.2.2.1, h.2.2.2.2.2.2.2.2.2.2.1, h.2.2.2.2.2.2.2.2.2.2.2.1, h.2.2.2.2.2.2.2.2.2.2.2.2.1, h.2.2.2.2.2.2.2.2.2.2.2.2.2.1, h.2.2.2.2.2.2.2.2.2.2.2.2.2.2.1, h.2.2.2.2.2.2.2.2.2.2.2.2.2.2.2.2.2.2.1, h.2.2.2.2.2.2.2.2.2.2.2.2.2.2.2.2.2.2.2.1, h.2.2.2.2.2.2.2.2.2.2.2.2.2.2.2.2.2.2.2.2.1, h.2.2.2.2.2.2.2.2.2.2.2.2.2.2.2.2.2.2.2.2.2.1, h.2.2.2.2.2.2.2.2.2.2.2.2.2.2.2.2.2.2.2.2.2.2.1, h.2.2.2.2.2.2.2.2.2.2.2.2.2.2.2.2.2.2.2.2.2.2.2.1, h.2.2.2.2.2.2.2.2.2.2.2.2.2.2.2.2.2.2.2.2.2.2.2.2.1, h.2.2.2.2.2.2.2.2.2.2.2.2.2.2.2.2.2.2.2.2.2.2.2.2.2.1, h.2.2.2.2.2.2.2.2.2.2.2.2.2.2.2.2.2.2.2.2.2.2.2.2.2.2.1, h.2.2.2.2.2.2.2.2.2.2.2.2.2.2.2.2.2.2.2.2.2.2.2.2.2.2.2.1, h.2.2.2.2.2.2.2.2.2.2.2.2.2.2.2.2.2.2.2.2.2.2.2.2.2.2.2.2.1, h.2.2.2.2.2.2.2.2.2.2.2.2.2.2.2.2.2.2.2.2.2.2.2.2.2.2.2.2.2.1, h.2.2.2.2.2.2.2.2.2.2.2.2.2.2.2.2.2.2.2.2.2.2.2.2.2.2.2.2.2.2.1, h.2.2.2.2.2.2.2.2.2.2.2.2.2.2.2.2.2.2.2.2.2.2.2.2.2.2.2.2.2.2.2.1, h.2.2.2.2.2.2.2.2.2.2.2.2.2.2.2.2.2.2.2.2.2.2.2.2.2.2.2.2.2.2.2.2.1, h.2.2.2.2.2.2.2.2.2.2.2.2.2.2.2.2.2.2.2.2.2.2.2.2.2.2.2.2.2.2.2.2.2.1, h.2.2.2.2.2.2.2.2.2.2.2.2.2.2.2.2.2.2.2.2.2.2.2.2.2.2.2.2.2.2.2.2.2.2.1, h.2.2.2.2.2.2.2.2.2.2.2.2.2.2.2.2.2.2.2.2.2.2.2.2.2.2.2.2.2.2.2.2.2.2.2.1, h.2.2.2.2.2.2.2.2.2.2.2.2.2.2.2.2.2.2.2.2.2.2.2.2.2.2.2.2.2.2.2.2.2.2.2.2.1, h.2.2.2.2.2.2.2.2.2.2.2.2.2.2.2.2.2.2.2.2.2.2.2.2.2.2.2.2.2.2.2.2.2.2.2.2.2.1, h.2.2.2.2.2.2.2.2.2.2.2.2.2.2.2.2.2.2.2.2.2.2.2.2.2.2.2.2.2.2.2.2.2.2.2.2.2.2.1, h.2.2.2.2.2.2.2.2.2.2.2.2.2.2.2.2.2.2.2.2.2.2.2.2.2.2.2.2.2.2.2.2.2.2.2.2.2.2.2.1, h.2.2.2.2.2.2.2.2.2.2.2.2.2.2.2.2.2.2.2.2.2.2.2.2.2.2.2.2.2.2.2.2.2.2.2.2.2.2.2.2.1, h.2.2.2.2.2.2.2.2.2.2.2.2.2.2.2.2.2.2.2.2.2.2.2.2.2.2.2.2.2.2.2.2.2.2.2.2.2.2.2.2.2.1, h.2.2.2.2.2.2.2.2.2.2.2.2.2.2.2.2.2.2.2.2.2.2.2.2.2.2.2.2.2.2.2.2.2.2.2.2.2.2.2.2.2.2.1, h.2.2.2.2.2.2.2.2.2.2.2.2.2.2.2.2.2.2.2.2.2.2.2.2.2.2.2.2.2.2.2.2.2.2.2.2.2.2.2.2.2.2.2.1, h.2.2.2.2.2.2.2.2.2.2.2.2.2.2.2.2.2.2.2.2.2.2.2.2.2.2.2.2.2.2.2.2.2.2.2.2.2.2.2.2.2.2.2.2.1, h.2.2.2.2.2.2.2.2.2.2.2.2.2.2.2.2.2.2.2.2.2.2.2.2.2.2.2.2.2.2.2.2.2.2.2.2.2.2.2.2.2.2.2.2.2.1, h.2.2.2.2.2.2.2.2.2.2.2.2.2.2.2.2.2.2.2.2.2.2.2.2.2.2.2.2.2.2.2.2.2.2.2.2.2.2.2.2.2.2.2.2.2.2.1, h.2.2.2.2.2.2.2.2.2.2.2.2.2.2.2.2.2.2.2.2.2.2.2.2.2.2.2.2.2.2.2.2.2.2.2.2.2.2.2.2.2.2.2.2.2.2.2.1, h.2.2.2.2.2.2.2.2.2.2.2.2.2.2.2.2.2.2.2.2.2.2.2.2.2.2.2.2.2.2.2.2.2.2.2.2.2.2.2.2.2.2.2.2.2.2.2.2.1, h.2.2.2.2.2.2.2.2.2.2.2.2.2.2.2.2.2.2.2.2.2.2.2.2.2.2.2.2.2.2.2.2.2.2.2.2.2.2.2.2.2.2.2.2.2.2.2.2.2.2.2.1, h.2.2.2.2.2.2.2.2.2.2.2.2.2.2.2.2.2.2.2.2.2.2.2.2.2.2.2.2.2.2.2.2.2.2.2.2.2.2.2.2.2.2.2.2.2.2.2.2.2.2.2.2.1, h.2.2.2.2.2.2.2.2.2.2.2.2.2.2.2.2.2.2.2.2.2.2.2.2.2.2.2.2.2.2.2.2.2.2.2.2.2.2.2.2.2.2.2.2.2.2.2.2.2.2.2.2.2.1, h.2.2.2.2.2.2.2.2.2.2.2.2.2.2.2.2.2.2.2.2.2.2.2.2.2.2.2.2.2.2.2.2.2.2.2.2.2.2.2.2.2.2.2.2.2.2.2.2.2.2.2.2.2.2.1, h.2.2.2.2.2.2.2.2.2.2.2.2.2.2.2.2.2.2.2.2.2.2.2.2.2.2.2.2.2.2.2.2.2.2.2.2.2.2.2.2.2.2.2.2.2.2.2.2.2.2.2.2.2.2.2.2.1, h.2.2.2.2.2.2.2.2.2.2.2.2.2.2.2.2.2.2.2.2.2.2.2.2.2.2.2.2.2.2.2.2.2.2.2.2.2.2.2.2.2.2.2.2.2.2.2.2.2.2.2.2.2.2.2.2.2.1, h.2.2.2.2.2.2.2.2.2.2.2.2.2.2.2.2.2.2.2.2.2.2.2.2.2.2.2.2.2.2.2.2.2.2.2.2.2.2.2.2.2.2.2.2.2.2.2.2.2.2.2.2.2.2.2.2.2.2.1, h.2.2.2.2.2.2.2.2.2.2.2.2.2.2.2.2.2.2.2.2.2.2.2.2.2.2.2.2.2.2.2.2.2.2.2.2.2.2.2.2.2.2.2.2.2.2.2.2.2.2.2.2.2.2.2.2.2.2.2.1, h.2.2.2.2.2.2.2.2.2.2.2.2.2.2.2.2.2.2.2.2.2.2.2.2.2.2.2.2.2.2.2.2.2.2.2.2.2.2.2.2.2.2.2.2.2.2.2.2.2.2.2.2.2.2.2.2.2.2.2.2.1, h.2.2.2.2.2.2.2.2.2.2.2.2.2.2.2.2.2.2.2.2.2.2.2.2.2.2.2.2.2.2.2.2.2.2.2.2.2.2.2.2.2.2.2.2.2.2.2.2.2.2.2.2.2.2.2.2.2.2.2.2.2.2.1, h.2.2.2.2.2.2.2.2.2.2.2.2.2.2.2.2.2.2.2.2.2.2.2.2.2.2.2.2.2.2.2.2.2.2.2.2.2.2.2.2.2.2.2.2.2.2.2.2.2.2.2.2.2.2.2.2.2.2.2.2.2.2.2⟩
theorem Km24_I3 {u v : St} (h : Km24 u v) : fI v 0 3 = fI u 0 3 := h.2.1
theorem Km24_I4 {u v : St} (h : Km24 u v) : fI v 0 4 = fI u 0 4 := h.2.2.1
theorem Km24_I6 {u v : St} (h : Km24 u v) : fI v 0 6 = fI u 0 6 := h.2.2.2.2.1
theorem Km24_I7 {u v : St} (h : Km24 u v) : fI v 0 7 = fI u 0 7 := h.2.2.2.2.2.1
theorem Km24_I8 {u v : St} (h : Km24 u v) : fI v 0 8 = fI u 0 8 := h.2.2.2.2.2.2.1
theorem Km24_I37 {u v : St} (h : Km24 u v) : fI v 0 37 = fI u 0 37 := h.2.2.2.2.2.2.2.2.2.2.1
theorem Km24_I47 {u v : St} (h : Km24 u v) : fI v 0 47 = fI u 0 47 := h.2.2.2.2.2.2.2.2.2.2.2.2.2.2.2.1
theorem Km24_I48 {u v : St} (h : Km24 u v) : fI v 0 48 = fI u 0 48 := h.2.2.2.2.2.2.2.2.2.2.2.2.2.2.2.2.1
theorem Km24_I50 {u v : St} (h : Km24 u v) : fI v 0 50 = fI u 0 50 := h.2.2.2.2.2.2.2.2.2.2.2.2.2.2.2.2.2.1
theorem Km24_I61 {u v : St} (h : Km24 u v) : fI v 0 61 = fI u 0 61 := h.2.2.2.2.2.2.2.2.2.2.2.2.2.2.2.2.2.2.1
theorem Km24_I62 {u v : St} (h : Km24 u v) : fI v 0 62 = fI u 0 62 := h.2.2.2.2.2.2.2.2.2.2.2.2.2.2.2.2.2.2.2.1
set_option maxHeartbeats 4000000 in
set_option maxRecDepth 100000 in
theorem T_X11_ask (l : Launch) (D : va_G) (cy : Nat → ClassId) (a : Nat → Nat) (u : St) (hJ : MI a u) (x1 : Int32) (x2 : Int32)  : Mi l D cy (mW cy a) yX11_ask (.code yX11_ask cX11_ask 5 (some .int)) (rmo 9 198) [.ref (a 0), .int x1, .int x2] u (fun (r : Int32) (u' : St) => (MI a u') ∧ (Km24 u u')) := by
  refine Mi.of (own := RX11) rfl (by decide) (Nat.le_of_ble_eq_true rfl) ?_
  have hT : Km24 u u := Km24.rf
  have hJ0 := hJ
  intro p e s m below meth c A Q ls C hret hO hl
  obtain ⟨hx, hb, hml, hown, ht, hK, hA⟩ := id C
  have hl : lv_has ls 5 [(0, .ref (a 0)), (1, .int x1), (2, .int x2)] := hl
  refine lv_iload_n hx hb dX11_ask_0 rfl (lv_at hl 1 rfl) ?_
  refine lv_iconst (v := 0) hx hb dX11_ask_1 (by decide) ?_
  refine lv_iconst (v := 1) hx hb dX11_ask_2 (by decide) ?_
  refine cSi (w := mW cy a) (As := [.int x1, .int 0, .int 1]) (rest := []) C hO (T_X11_isIn l D cy a _ (by exact hJ) (x1) (0) (1)) (va_cwS 3 ht (gSS wd_1722 wd_1723 wd_121 wd_1724) rfl rfl rfl hd_yX11_isIn ⟨Nat.le_of_ble_eq_true rfl, Nat.le_of_ble_eq_true rfl⟩)  rfl hl.1 (Nat.le_of_ble_eq_true rfl) dX11_ask_3 rfl ⟨Nat.zero_le _, Nat.zero_le _⟩ (fun r1 u2 H locs hp3 hO => ?_)
  obtain ⟨hr1, hu2⟩ := hp3
  rw [hu2] at hO
  have zz4 : (0 : Int32).toInt = 0 := rfl
  have zz5 : (1 : Int32).toInt = 1 := rfl
  rcases hr1 with ⟨hcr1, hvr1⟩ | ⟨hcr1, hvr1⟩
  · subst hvr1
    refine bn_eq (X := 1) hx hb dX11_ask_6 rfl (by omega) ?_ (tgt := 24) (by decide)
    refine lv_aload_n hx hb dX11_ask_9 rfl (lv_at hl 0 rfl) ?_
    have g6 : 0 ≤ (fI u 0 36).toInt ∧ (fI u 0 36).toInt ≤ 1 := by have h := MI_36 hJ0; exact h
    have g7 : 0 ≤ (fA u 6 ((fI u 0 36)).toNatClampNeg).toInt ∧ (fA u 6 ((fI u 0 36)).toNatClampNeg).toInt ≤ 6 := by have h := MI_A6 hJ0 ((fI u 0 36)).toNatClampNeg; exact h
    refine cVi (w := mW cy a) (As := []) (rest := []) C hO (T_X11_many l D cy a _ (by exact hJ) ((fA u 6 ((fI u 0 36)).toNatClampNeg)) (by exact rfl)) (cwV 0 ht (gV wd_1348 wd_1350 wd_46 wd_121 wd_1351) rfl rfl rfl hd_yX11_many ⟨Nat.le_of_ble_eq_true rfl, Nat.le_of_ble_eq_true rfl⟩) 0 rfl mW_0 rfl rfl hl.1 (Nat.le_of_ble_eq_true rfl) dX11_ask_10 rfl ⟨Nat.zero_le _, Nat.zero_le _⟩ (fun r8 u9 H locs hp10 hO => ?_)
    obtain ⟨hr8, hu9⟩ := hp10
    refine tE hr8 ?_
    rw [hu9] at hO
    refine bs_eq (tgt := 24) (X := ((fA u 6 ((fI u 0 36)).toNatClampNeg)).toInt) hx hb dX11_ask_13 (by decide) rfl (fun c11 => ?_) (fun c11 => ?_)
    · refine lv_iconst (v := (-1)) hx hb dX11_ask_24 (by decide) ?_
      refine hret _ _ _ _ _ _ dX11_ask_25 rfl ?_ hO
      exact ⟨hJ, hT⟩
    · refine lv_aload_n hx hb dX11_ask_16 rfl (lv_at hl 0 rfl) ?_
      refine lv_iload_n hx hb dX11_ask_17 rfl (lv_at hl 2 rfl) ?_
      refine cVi (w := mW cy a) (As := [.int x2]) (rest := []) C hO (T_X11_fits l D cy a _ (by exact hJ) (x2)) (cwV 1 ht (gV wd_2007 wd_1992 wd_1993 wd_121 wd_1994) rfl rfl rfl hd_yX11_fits ⟨Nat.le_of_ble_eq_true rfl, Nat.le_of_ble_eq_true rfl⟩) 0 rfl mW_0 rfl rfl hl.1 (Nat.le_of_ble_eq_true rfl) dX11_ask_18 rfl ⟨Nat.zero_le _, Nat.zero_le _⟩ (fun r12 u13 H locs hp14 hO => ?_)
      have g15 : 0 ≤ (fI u 0 3).toInt ∧ (fI u 0 3).toInt ≤ 1600 := by have h := MI_3 hJ0; exact h
      have g16 : 0 ≤ (fI u 0 4).toInt ∧ (fI u 0 4).toInt ≤ 5 := by have h := MI_4 hJ0; exact h
      have g17 : 0 ≤ (fI u 0 6).toInt ∧ (fI u 0 6).toInt ≤ 1600 := by have h := MI_6 hJ0; exact h
      have g18 : 0 ≤ (fI u 0 7).toInt ∧ (fI u 0 7).toInt ≤ 1601 := by have h := MI_7 hJ0; exact h
      have g19 : 0 ≤ (fI u 0 8).toInt ∧ (fI u 0 8).toInt ≤ 5 := by have h := MI_8 hJ0; exact h
      have g20 : 0 ≤ (fI u 0 37).toInt ∧ (fI u 0 37).toInt ≤ 1 := by have h := MI_37 hJ0; exact h
      have g21 : 0 ≤ (fI u 0 47).toInt ∧ (fI u 0 47).toInt ≤ 40 := by have h := MI_47 hJ0; exact h
      have g22 : 0 ≤ (fI u 0 48).toInt ∧ (fI u 0 48).toInt ≤ 40 := by have h := MI_48 hJ0; exact h
      have g23 : 0 ≤ (fI u 0 50).toInt ∧ (fI u 0 50).toInt ≤ 8 := by have h := MI_50 hJ0; exact h
      have g24 : 0 ≤ (fI u 0 61).toInt ∧ (fI u 0 61).toInt ≤ 30 := by have h := MI_61 hJ0; exact h
      have g25 : 0 ≤ (fI u 0 62).toInt ∧ (fI u 0 62).toInt ≤ 100000 := by have h := MI_62 hJ0; exact h
      obtain ⟨hJ, hTu13, hx0u13⟩ := hp14
      have hT : Km24 u u13 := Km24.tr (by exact hT) (Km22_to_Km24 hTu13)
      have hI_0_3_u13 : fI u13 0 3 = (fI u 0 3) := hTu13.2.1
      have hI_0_4_u13 : fI u13 0 4 = (fI u 0 4) := hTu13.2.2.1
      have hI_0_6_u13 : fI u13 0 6 = (fI u 0 6) := hTu13.2.2.2.2.1
      have hI_0_7_u13 : fI u13 0 7 = (fI u 0 7) := hTu13.2.2.2.2.2.1
      have hI_0_8_u13 : fI u13 0 8 = (fI u 0 8) := hTu13.2.2.2.2.2.2.1
      have hI_0_36_u13 : fI u13 0 36 = (fI u 0 36) := hTu13.2.2.2.2.2.2.2.2.2.1
      have hI_0_37_u13 : fI u13 0 37 = (fI u 0 37) := hTu13.2.2.2.2.2.2.2.2.2.2.1
      have hI_0_47_u13 : fI u13 0 47 = (fI u 0 47) := hTu13.2.2.2.2.2.2.2.2.2.2.2.2.2.2.2.1
      have hI_0_48_u13 : fI u13 0 48 = (fI u 0 48) := hTu13.2.2.2.2.2.2.2.2.2.2.2.2.2.2.2.2.1
      have hI_0_50_u13 : fI u13 0 50 = (fI u 0 50) := hTu13.2.2.2.2.2.2.2.2.2.2.2.2.2.2.2.2.2.1
      have hI_0_61_u13 : fI u13 0 61 = (fI u 0 61) := hTu13.2.2.2.2.2.2.2.2.2.2.2.2.2.2.2.2.2.2.1
      have hI_0_62_u13 : fI u13 0 62 = (fI u 0 62) := hTu13.2.2.2.2.2.2.2.2.2.2.2.2.2.2.2.2.2.2.2.1
      refine bs_ne (tgt := 26) (X := (r12).toInt) hx hb dX11_ask_21 (by decide) rfl (fun c26 => ?_) (fun c26 => ?_)
      · refine lv_iconst (v := 0) hx hb dX11_ask_26 (by decide) ?_
        refine lv_istore_n (lv' := [(3, .int 0), (0, .ref (a 0)), (1, .int x1), (2, .int x2)]) hx hb dX11_ask_27 rfl hl (by decide) rfl (fun ls hl => ?_)
        refine lv_iconst (v := 1) hx hb dX11_ask_28 (by decide) ?_
        refine lv_istore (lv' := [(4, .int 1), (3, .int 0), (0, .ref (a 0)), (1, .int x1), (2, .int x2)]) hx hb dX11_ask_29 hl (by decide) rfl (fun ls hl => ?_)
        have LP_31_k28 : ∀ (n : Nat) (u27 : St) (H : Heap) (locs : List Loc) (ls : Array Slot) (i_k28 : Int32) (w3_k28 : Int32), Wo D A (mW cy a u27) s.heap H locs → lv_has ls 5 [(4, .int i_k28), (3, .int w3_k28), (0, .ref (a 0)), (1, .int x1), (2, .int x2)] → MI a u27 → Km24 u u27 → 1 ≤ i_k28.toInt ∧ i_k28.toInt ≤ 6 → 0 ≤ w3_k28.toInt ∧ w3_k28.toInt ≤ 5 → 6 - i_k28.toInt < (n : Int) → W p l e (rmo 9 198) s m [.ref (a 0), .int x1, .int x2].toArray below meth c H locs 0 0 Q (F0 m 31 ls []) := by
          intro n
          induction n with
          | zero =>
            intro u27 H locs ls i_k28 w3_k28 hO hl hJ hT iv0_k28 iv1_k28 hm_k28
            exact absurd hm_k28 (by omega)
          | succ n ih_k28 =>
            intro u27 H locs ls i_k28 w3_k28 hO hl hJ hT iv0_k28 iv1_k28 hm_k28
            refine lv_iload hx hb dX11_ask_31 (lv_at hl 0 rfl) ?_
            refine lv_aload_n hx hb dX11_ask_33 rfl (lv_at hl 2 rfl) ?_
            have g29 : 0 ≤ (fI u 0 36).toInt ∧ (fI u 0 36).toInt ≤ 1 := by have h := MI_36 hJ0; exact h
            have g30 : 0 ≤ (fA u 6 ((fI u 0 36)).toNatClampNeg).toInt ∧ (fA u 6 ((fI u 0 36)).toNatClampNeg).toInt ≤ 6 := by have h := MI_A6 hJ0 ((fI u 0 36)).toNatClampNeg; exact h
            refine cVi (w := mW cy a) (As := []) (rest := [.int i_k28]) C hO (T_X11_many l D cy a _ (by exact hJ) ((fA u 6 ((fI u 0 36)).toNatClampNeg)) (by exact (Eq.trans (congrArg (fun z : Int32 => fA _ 6 z.toNatClampNeg) (Km24_I36 hT)) (congrFun (Km24_A6 hT) _)))) (cwV 0 ht (gV wd_1348 wd_1350 wd_46 wd_121 wd_1351) rfl rfl rfl hd_yX11_many ⟨Nat.le_of_ble_eq_true rfl, Nat.le_of_ble_eq_true rfl⟩) 0 rfl mW_0 rfl rfl hl.1 (Nat.le_of_ble_eq_true rfl) dX11_ask_34 rfl ⟨Nat.zero_le _, Nat.zero_le _⟩ (fun r31 u32 H locs hp33 hO => ?_)
            obtain ⟨hr31, hu32⟩ := hp33
            refine tE hr31 ?_
            rw [hu32] at hO
            refine cs_ge (tgt := 65) (X := (i_k28).toInt) (Y := ((fA u 6 ((fI u 0 36)).toNatClampNeg)).toInt) hx hb dX11_ask_37 (by decide) rfl rfl (fun c34 => ?_) (fun c34 => ?_)
            · refine lv_iload_n hx hb dX11_ask_65 rfl (lv_at hl 3 rfl) ?_
              refine bs_ne (tgt := 73) (X := (x1).toInt) hx hb dX11_ask_66 (by decide) rfl (fun c35 => ?_) (fun c35 => ?_)
              · refine lv_aload_n hx hb dX11_ask_73 rfl (lv_at hl 2 rfl) ?_
                refine lv_iload_n hx hb dX11_ask_74 rfl (lv_at hl 1 rfl) ?_
                refine lv_iload_n hx hb dX11_ask_75 rfl (lv_at hl 4 rfl) ?_
                refine cVi (w := mW cy a) (As := [.int w3_k28, .int x2]) (rest := []) C hO (T_X11_mostOf l D cy a _ (by exact hJ) (w3_k28) (x2) (by first | omega | decide)) (cwV 2 ht (gV wd_2012 wd_2014 wd_108 wd_121 wd_2015) rfl rfl rfl hd_yX11_mostOf ⟨Nat.le_of_ble_eq_true rfl, Nat.le_of_ble_eq_true rfl⟩) 0 rfl mW_0 rfl rfl hl.1 (Nat.le_of_ble_eq_true rfl) dX11_ask_76 rfl ⟨Nat.zero_le _, Nat.zero_le _⟩ (fun r36 u37 H locs hp38 hO => ?_)
                have g39 : 0 ≤ (fI u 0 3).toInt ∧ (fI u 0 3).toInt ≤ 1600 := by have h := MI_3 hJ0; exact h
                have g40 : 0 ≤ (fI u 0 4).toInt ∧ (fI u 0 4).toInt ≤ 5 := by have h := MI_4 hJ0; exact h
                have g41 : 0 ≤ (fI u 0 6).toInt ∧ (fI u 0 6).toInt ≤ 1600 := by have h := MI_6 hJ0; exact h
                have g42 : 0 ≤ (fI u 0 7).toInt ∧ (fI u 0 7).toInt ≤ 1601 := by have h := MI_7 hJ0; exact h
                have g43 : 0 ≤ (fI u 0 8).toInt ∧ (fI u 0 8).toInt ≤ 5 := by have h := MI_8 hJ0; exact h
                have g44 : 0 ≤ (fI u 0 37).toInt ∧ (fI u 0 37).toInt ≤ 1 := by have h := MI_37 hJ0; exact h
                have g45 : 0 ≤ (fI u27 0 42).toInt ∧ (fI u27 0 42).toInt ≤ 5 := by have h := MI_42 hJ; exact h
                have g46 : 0 ≤ (fI u 0 47).toInt ∧ (fI u 0 47).toInt ≤ 40 := by have h := MI_47 hJ0; exact h
                have g47 : 0 ≤ (fI u 0 48).toInt ∧ (fI u 0 48).toInt ≤ 40 := by have h := MI_48 hJ0; exact h
                have g48 : 0 ≤ (fI u 0 50).toInt ∧ (fI u 0 50).toInt ≤ 8 := by have h := MI_50 hJ0; exact h
                have g49 : 0 ≤ (fI u 0 61).toInt ∧ (fI u 0 61).toInt ≤ 30 := by have h := MI_61 hJ0; exact h
                have g50 : 0 ≤ (fI u 0 62).toInt ∧ (fI u 0 62).toInt ≤ 100000 := by have h := MI_62 hJ0; exact h
                obtain ⟨hJ, hTu37⟩ := hp38
                have hT : Km24 u u37 := Km24.tr (by exact hT) (Km23_to_Km24 hTu37)
                have hI_0_3_u37 : fI u37 0 3 = (fI u 0 3) := Eq.trans (hTu37.2.1) ((Km24_I3 hT))
                have hI_0_4_u37 : fI u37 0 4 = (fI u 0 4) := Eq.trans (hTu37.2.2.1) ((Km24_I4 hT))
                have hI_0_6_u37 : fI u37 0 6 = (fI u 0 6) := Eq.trans (hTu37.2.2.2.2.1) ((Km24_I6 hT))
                have hI_0_7_u37 : fI u37 0 7 = (fI u 0 7) := Eq.trans (hTu37.2.2.2.2.2.1) ((Km24_I7 hT))
                have hI_0_8_u37 : fI u37 0 8 = (fI u 0 8) := Eq.trans (hTu37.2.2.2.2.2.2.1) ((Km24_I8 hT))
                have hI_0_36_u37 : fI u37 0 36 = (fI u 0 36) := Eq.trans (hTu37.2.2.2.2.2.2.2.2.2.1) ((Km24_I36 hT))
                have hI_0_37_u37 : fI u37 0 37 = (fI u 0 37) := Eq.trans (hTu37.2.2.2.2.2.2.2.2.2.2.1) ((Km24_I37 hT))
                have hI_0_42_u37 : fI u37 0 42 = (fI u27 0 42) := hTu37.2.2.2.2.2.2.2.2.2.2.2.2.2.2.2.1
                have hI_0_47_u37 : fI u37 0 47 = (fI u 0 47) := Eq.trans (hTu37.2.2.2.2.2.2.2.2.2.2.2.2.2.2.2.2.2.2.1) ((Km24_I47 hT))
                have hI_0_48_u37 : fI u37 0 48 = (fI u 0 48) := Eq.trans (hTu37.2.2.2.2.2.2.2.2.2.2.2.2.2.2.2.2.2.2.2.1) ((Km24_I48 hT))
                have hI_0_50_u37 : fI u37 0 50 = (fI u 0 50) := Eq.trans (hTu37.2.2.2.2.2.2.2.2.2.2.2.2.2.2.2.2.2.2.2.2.1) ((Km24_I50 hT))
                have hI_0_61_u37 : fI u37 0 61 = (fI u 0 61) := Eq.trans (hTu37.2.2.2.2.2.2.2.2.2.2.2.2.2.2.2.2.2.2.2.2.2.1) ((Km24_I61 hT))
                have hI_0_62_u37 : fI u37 0 62 = (fI u 0 62) := Eq.trans (hTu37.2.2.2.2.2.2.2.2.2.2.2.2.2.2.2.2.2.2.2.2.2.2.1) ((Km24_I62 hT))
                refine hret _ _ _ _ _ _ dX11_ask_79 rfl ?_ hO
                exact ⟨hJ, hT⟩
              · refine lv_iload_n hx hb dX11_ask_69 rfl (lv_at hl 1 rfl) ?_
                refine lv_goto (tgt := 79) hx hb dX11_ask_70 (by decide) ?_
                refine hret _ _ _ _ _ _ dX11_ask_79 rfl ?_ hO
                exact ⟨hJ, hT⟩
            · refine lv_aload_n hx hb dX11_ask_40 rfl (lv_at hl 2 rfl) ?_
              refine lv_iload hx hb dX11_ask_41 (lv_at hl 0 rfl) ?_
              refine lv_iload_n hx hb dX11_ask_43 rfl (lv_at hl 4 rfl) ?_
              refine cVi (w := mW cy a) (As := [.int i_k28, .int x2]) (rest := []) C hO (T_X11_mostOf l D cy a _ (by exact hJ) (i_k28) (x2) (by first | omega | decide)) (cwV 2 ht (gV wd_2012 wd_2014 wd_108 wd_121 wd_2015) rfl rfl rfl hd_yX11_mostOf ⟨Nat.le_of_ble_eq_true rfl, Nat.le_of_ble_eq_true rfl⟩) 0 rfl mW_0 rfl rfl hl.1 (Nat.le_of_ble_eq_true rfl) dX11_ask_44 rfl ⟨Nat.zero_le _, Nat.zero_le _⟩ (fun r51 u52 H locs hp53 hO => ?_)
              have g54 : 0 ≤ (fI u 0 3).toInt ∧ (fI u 0 3).toInt ≤ 1600 := by have h := MI_3 hJ0; exact h
              have g55 : 0 ≤ (fI u 0 4).toInt ∧ (fI u 0 4).toInt ≤ 5 := by have h := MI_4 hJ0; exact h
              have g56 : 0 ≤ (fI u 0 6).toInt ∧ (fI u 0 6).toInt ≤ 1600 := by have h := MI_6 hJ0; exact h
              have g57 : 0 ≤ (fI u 0 7).toInt ∧ (fI u 0 7).toInt ≤ 1601 := by have h := MI_7 hJ0; exact h
              have g58 : 0 ≤ (fI u 0 8).toInt ∧ (fI u 0 8).toInt ≤ 5 := by have h := MI_8 hJ0; exact h
              have g59 : 0 ≤ (fI u 0 37).toInt ∧ (fI u 0 37).toInt ≤ 1 := by have h := MI_37 hJ0; exact h
              have g60 : 0 ≤ (fI u27 0 42).toInt ∧ (fI u27 0 42).toInt ≤ 5 := by have h := MI_42 hJ; exact h
              have g61 : 0 ≤ (fI u 0 47).toInt ∧ (fI u 0 47).toInt ≤ 40 := by have h := MI_47 hJ0; exact h
              have g62 : 0 ≤ (fI u 0 48).toInt ∧ (fI u 0 48).toInt ≤ 40 := by have h := MI_48 hJ0; exact h
              have g63 : 0 ≤ (fI u 0 50).toInt ∧ (fI u 0 50).toInt ≤ 8 := by have h := MI_50 hJ0; exact h
              have g64 : 0 ≤ (fI u 0 61).toInt ∧ (fI u 0 61).toInt ≤ 30 := by have h := MI_61 hJ0; exact h
              have g65 : 0 ≤ (fI u 0 62).toInt ∧ (fI u 0 62).toInt ≤ 100000 := by have h := MI_62 hJ0; exact h
              obtain ⟨hJ, hTu52⟩ := hp53
              have hT : Km24 u u52 := Km24.tr (by exact hT) (Km23_to_Km24 hTu52)
              have hI_0_3_u52 : fI u52 0 3 = (fI u 0 3) := Eq.trans (hTu52.2.1) ((Km24_I3 hT))
              have hI_0_4_u52 : fI u52 0 4 = (fI u 0 4) := Eq.trans (hTu52.2.2.1) ((Km24_I4 hT))
              have hI_0_6_u52 : fI u52 0 6 = (fI u 0 6) := Eq.trans (hTu52.2.2.2.2.1) ((Km24_I6 hT))
              have hI_0_7_u52 : fI u52 0 7 = (fI u 0 7) := Eq.trans (hTu52.2.2.2.2.2.1) ((Km24_I7 hT))
              have hI_0_8_u52 : fI u52 0 8 = (fI u 0 8) := Eq.trans (hTu52.2.2.2.2.2.2.1) ((Km24_I8 hT))
              have hI_0_36_u52 : fI u52 0 36 = (fI u 0 36) := Eq.trans (hTu52.2.2.2.2.2.2.2.2.2.1) ((Km24_I36 hT))
              have hI_0_37_u52 : fI u52 0 37 = (fI u 0 37) := Eq.trans (hTu52.2.2.2.2.2.2.2.2.2.2.1) ((Km24_I37 hT))
              have hI_0_42_u52 : fI u52 0 42 = (fI u27 0 42) := hTu52.2.2.2.2.2.2.2.2.2.2.2.2.2.2.2.1
              have hI_0_47_u52 : fI u52 0 47 = (fI u 0 47) := Eq.trans (hTu52.2.2.2.2.2.2.2.2.2.2.2.2.2.2.2.2.2.2.1) ((Km24_I47 hT))
              have hI_0_48_u52 : fI u52 0 48 = (fI u 0 48) := Eq.trans (hTu52.2.2.2.2.2.2.2.2.2.2.2.2.2.2.2.2.2.2.2.1) ((Km24_I48 hT))
              have hI_0_50_u52 : fI u52 0 50 = (fI u 0 50) := Eq.trans (hTu52.2.2.2.2.2.2.2.2.2.2.2.2.2.2.2.2.2.2.2.2.1) ((Km24_I50 hT))
              have hI_0_61_u52 : fI u52 0 61 = (fI u 0 61) := Eq.trans (hTu52.2.2.2.2.2.2.2.2.2.2.2.2.2.2.2.2.2.2.2.2.2.1) ((Km24_I61 hT))
              have hI_0_62_u52 : fI u52 0 62 = (fI u 0 62) := Eq.trans (hTu52.2.2.2.2.2.2.2.2.2.2.2.2.2.2.2.2.2.2.2.2.2.2.1) ((Km24_I62 hT))
              refine lv_aload_n hx hb dX11_ask_47 rfl (lv_at hl 2 rfl) ?_
              refine lv_iload_n hx hb dX11_ask_48 rfl (lv_at hl 1 rfl) ?_
              refine lv_iload_n hx hb dX11_ask_49 rfl (lv_at hl 4 rfl) ?_
              refine cVi (w := mW cy a) (As := [.int w3_k28, .int x2]) (rest := [.int r51]) C hO (T_X11_mostOf l D cy a _ (by exact hJ) (w3_k28) (x2) (by first | omega | decide)) (cwV 2 ht (gV wd_2012 wd_2014 wd_108 wd_121 wd_2015) rfl rfl rfl hd_yX11_mostOf ⟨Nat.le_of_ble_eq_true rfl, Nat.le_of_ble_eq_true rfl⟩) 0 rfl mW_0 rfl rfl hl.1 (Nat.le_of_ble_eq_true rfl) dX11_ask_50 rfl ⟨Nat.zero_le _, Nat.zero_le _⟩ (fun r66 u67 H locs hp68 hO => ?_)
              obtain ⟨hJ, hTu67⟩ := hp68
              have hT : Km24 u u67 := Km24.tr (by exact hT) (Km23_to_Km24 hTu67)
              have hI_0_3_u67 : fI u67 0 3 = (fI u 0 3) := Eq.trans (hTu67.2.1) (hI_0_3_u52)
              have hI_0_4_u67 : fI u67 0 4 = (fI u 0 4) := Eq.trans (hTu67.2.2.1) (hI_0_4_u52)
              have hI_0_6_u67 : fI u67 0 6 = (fI u 0 6) := Eq.trans (hTu67.2.2.2.2.1) (hI_0_6_u52)
              have hI_0_7_u67 : fI u67 0 7 = (fI u 0 7) := Eq.trans (hTu67.2.2.2.2.2.1) (hI_0_7_u52)
              have hI_0_8_u67 : fI u67 0 8 = (fI u 0 8) := Eq.trans (hTu67.2.2.2.2.2.2.1) (hI_0_8_u52)
              have hI_0_36_u67 : fI u67 0 36 = (fI u 0 36) := Eq.trans (hTu67.2.2.2.2.2.2.2.2.2.1) (hI_0_36_u52)
              have hI_0_37_u67 : fI u67 0 37 = (fI u 0 37) := Eq.trans (hTu67.2.2.2.2.2.2.2.2.2.2.1) (hI_0_37_u52)
              have hI_0_42_u67 : fI u67 0 42 = (fI u27 0 42) := Eq.trans (hTu67.2.2.2.2.2.2.2.2.2.2.2.2.2.2.2.1) (hI_0_42_u52)
              have hI_0_47_u67 : fI u67 0 47 = (fI u 0 47) := Eq.trans (hTu67.2.2.2.2.2.2.2.2.2.2.2.2.2.2.2.2.2.2.1) (hI_0_47_u52)
              have hI_0_48_u67 : fI u67 0 48 = (fI u 0 48) := Eq.trans (hTu67.2.2.2.2.2.2.2.2.2.2.2.2.2.2.2.2.2.2.2.1) (hI_0_48_u52)
              have hI_0_50_u67 : fI u67 0 50 = (fI u 0 50) := Eq.trans (hTu67.2.2.2.2.2.2.2.2.2.2.2.2.2.2.2.2.2.2.2.2.1) (hI_0_50_u52)
              have hI_0_61_u67 : fI u67 0 61 = (fI u 0 61) := Eq.trans (hTu67.2.2.2.2.2.2.2.2.2.2.2.2.2.2.2.2.2.2.2.2.2.1) (hI_0_61_u52)
              have hI_0_62_u67 : fI u67 0 62 = (fI u 0 62) := Eq.trans (hTu67.2.2.2.2.2.2.2.2.2.2.2.2.2.2.2.2.2.2.2.2.2.2.1) (hI_0_62_u52)
              refine cs_ge (tgt := 59) (X := (r51).toInt) (Y := (r66).toInt) hx hb dX11_ask_53 (by decide) rfl rfl (fun c69 => ?_) (fun c69 => ?_)
              · have e70 : ((i_k28 + 1)).toInt = (i_k28).toInt + 1 := i_add rfl rfl (by omega)
                refine lv_iinc (v := (i_k28 + 1)) (lv' := [(4, .int (i_k28 + 1)), (3, .int w3_k28), (0, .ref (a 0)), (1, .int x1), (2, .int x2)]) hx hb dX11_ask_59 hl (k := 0) rfl rfl (by decide) rfl (fun ls hl => ?_)
                refine lv_goto (tgt := 31) hx hb dX11_ask_62 (by decide) ?_
                exact ih_k28 _ _ _ _ ((i_k28 + 1)) (w3_k28) hO (lv_sub hl [0, 1, 2, 3, 4] rfl) (by exact hJ) (by exact hT) (by first | decide | omega) (by first | decide | omega) (by first | decide | omega)
              · refine lv_iload hx hb dX11_ask_56 (lv_at hl 0 rfl) ?_
                refine lv_istore_n (lv' := [(3, .int i_k28), (4, .int i_k28), (0, .ref (a 0)), (1, .int x1), (2, .int x2)]) hx hb dX11_ask_58 rfl hl (by decide) rfl (fun ls hl => ?_)
                have e71 : ((i_k28 + 1)).toInt = (i_k28).toInt + 1 := i_add rfl rfl (by omega)
                refine lv_iinc (v := (i_k28 + 1)) (lv' := [(4, .int (i_k28 + 1)), (3, .int i_k28), (0, .ref (a 0)), (1, .int x1), (2, .int x2)]) hx hb dX11_ask_59 hl (k := 1) rfl rfl (by decide) rfl (fun ls hl => ?_)
                refine lv_goto (tgt := 31) hx hb dX11_ask_62 (by decide) ?_
                exact ih_k28 _ _ _ _ ((i_k28 + 1)) (i_k28) hO (lv_sub hl [0, 1, 2, 3, 4] rfl) (by exact hJ) (by exact hT) (by first | decide | omega) (by first | decide | omega) (by first | decide | omega)
        have zc72 : (0 : Int32).toInt = 0 := rfl
        have zc73 : (1 : Int32).toInt = 1 := rfl
        exact LP_31_k28 4000 _ _ _ _ (1) (0) hO (lv_sub hl [0, 1, 2, 3, 4] rfl) (by exact hJ) (by exact hT) (by first | decide | omega) (by first | decide | omega) (by first | decide | omega)
      · refine lv_iconst (v := (-1)) hx hb dX11_ask_24 (by decide) ?_
        refine hret _ _ _ _ _ _ dX11_ask_25 rfl ?_ hO
        exact ⟨hJ, hT⟩
  · subst hvr1
    refine bt_eq (tgt := 24) (X := 0) hx hb dX11_ask_6 (by decide) rfl (by omega) ?_
    refine lv_iconst (v := (-1)) hx hb dX11_ask_24 (by decide) ?_
    refine hret _ _ _ _ _ _ dX11_ask_25 rfl ?_ hO
    exact ⟨hJ, hT⟩
