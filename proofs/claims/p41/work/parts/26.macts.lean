def Km9 (u v : St) : Prop := fI v 0 2 = fI u 0 2 ∧ fI v 0 3 = fI u 0 3 ∧ fI v 0 4 = fI u 0 4 ∧ fI v 0 5 = fI u 0 5 ∧ fI v 0 6 = fI u 0 6 ∧ fI v 0 7 = fI u 0 7 ∧ fI v 0 8 = fI u 0 8 ∧ fI v 0 9 = fI u 0 9 ∧ fL v 0 10 = fL u 0 10 ∧ fI v 0 36 = fI u 0 36 ∧ fI v 0 37 = fI u 0 37 ∧ fI v 0 38 = fI u 0 38 ∧ fI v 0 39 = fI u 0 39 ∧ fI v 0 40 = fI u 0 40 ∧ fI v 0 41 = fI u 0 41 ∧ fI v 0 42 = fI u 0 42 ∧ fI v 0 43 = fI u 0 43 ∧ fI v 0 45 = fI u 0 45 ∧ fI v 0 50 = fI u 0 50 ∧ fI v 0 61 = fI u 0 61 ∧ fI v 0 62 = fI u 0 62 ∧ fA v 1 = fA u 1 ∧ fA v 2 = fA u 2 ∧ fA v 3 = fA u 3 ∧ fA v 4 = fA u 4 ∧ fA v 5 = fA u 5 ∧ fA v 6 = fA u 6 ∧ fA v 7 = fA u 7 ∧ fA v 8 = fA u 8 ∧ fA v 9 = fA u 9 ∧ fA v 10 = fA u 10 ∧ fA v 11 = fA u 11 ∧ fA v 12 = fA u 12 ∧ fA v 13 = fA u 13 ∧ fA v 14 = fA u 14 ∧ fA v 15 = fA u 15 ∧ fA v 16 = fA u 16 ∧ fA v 17 = fA u 17 ∧ fA v 18 = fA u 18 ∧ fA v 19 = fA u 19 ∧ fJ v 20 = fJ u 20 ∧ fJ v 21 = fJ u 21 ∧ fJ v 22 = fJ u 22 ∧ fA v 23 = fA u 23 ∧ fA v 24 = fA u 24 ∧ fA v 25 = fA u 25 ∧ fA v 26 = fA u 26 ∧ fA v 27 = fA u 27 ∧ fA v 28 = fA u 28 ∧ fA v 30 = fA u 30 ∧ fA v 31 = fA u 31 ∧ fA v 32 = fA u 32 ∧ fA v 33 = fA u 33 ∧ fA v 34 = fA u 34 ∧ fA v 35 = fA u 35 ∧ fA v 36 = fA u 36 ∧ fA v 37 = fA u 37 ∧ fA v 38 = fA u 38 ∧ fA v 39 = fA u 39 ∧ fA v 40 = fA u 40 ∧ fA v 41 = fA u 41 ∧ fA v 42 = fA u 42
theorem Km9.rf {u : St} : Km9 u u := ⟨rfl, rfl, rfl, rfl, rfl, rfl, rfl, rfl, rfl, rfl, rfl, rfl, rfl, rfl, rfl, rfl, rfl, rfl, rfl, rfl, rfl, rfl, rfl, rfl, rfl, rfl, rfl, rfl, rfl, rfl, rfl, rfl, rfl, rfl, rfl, rfl, rfl, rfl, rfl, rfl, rfl, rfl, rfl, rfl, rfl, rfl, rfl, rfl, rfl, rfl, rfl, rfl, rfl, rfl, rfl, rfl, rfl, rfl, rfl, rfl, rfl, rfl⟩
theorem Km9.tr {u v w : St} (h1 : Km9 u v) (h2 : Km9 v w) : Km9 u w := ⟨(h2.1).trans h1.1, (h2.2.1).trans h1.2.1, (h2.2.2.1).trans h1.2.2.1, (h2.2.2.2.1).trans h1.2.2.2.1, (h2.2.2.2.2.1).trans h1.2.2.2.2.1, (h2.2.2.2.2.2.1).trans h1.2.2.2.2.2.1, (h2.2.2.2.2.2.2.1).trans h1.2.2.2.2.2.2.1, (h2.2.2.2.2.2.2.2.1).trans h1.2.2.2.2.2.2.2.1, (h2.2.2.2.2.2.2.2.2.1).trans h1.2.2.2.2.2.2.2.2.1, (h2.2.2.2.2.2.2.2.2.2.1).trans h1.2.2.2.2.2.2.2.2.2.1, (h2.2.2.2.2.2.2.2.2.2.2.1).trans h1.2.2.2.2.2.2.2.2.2.2.1, (h2.2.2.2.2.2.2.2.2.2.2.2.1).trans h1.2.2.2.2.2.2.2.2.2.2.2.1, (h2.2.2.2.2.2.2.2.2.2.2.2.2.1).trans h1.2.2.2.2.2.2.2.2.2.2.2.2.1, (h2.2.2.2.2.2.2.2.2.2.2.2.2.2.1).trans h1.2.2.2.2.2.2.2.2.2.2.2.2.2.1, (h2.2.2.2.2.2.2.2.2.2.2.2.2.2.2.1).trans h1.2.2.2.2.2.2.2.2.2.2.2.2.2.2.1, (h2.2.2.2.2.2.2.2.2.2.2.2.2.2.2.2.1).trans h1.2.2.2.2.2.2.2.2.2.2.2.2.2.2.2.1, (h2.2.2.2.2.2.2.2.2.2.2.2.2.2.2.2.2.1).trans h1.2.2.2.2.2.2.2.2.2.2.2.2.2.2.2.2.1, (h2.2.2.2.2.2.2.2.2.2.2.2.2.2.2.2.2.2.1).trans h1.2.2.2.2.2.2.2.2.2.2.2.2.2.2.2.2.2.1, (h2.2.2.2.2.2.2.2.2.2.2.2.2.2.2.2.2.2.2.1).trans h1.2.2.2.2.2.2.2.2.2.2.2.2.2.2.2.2.2.2.1, (h2.2.2.2.2.2.2.2.2.2.2.2.2.2.2.2.2.2.2.2.1).trans h1.2.2.2.2.2.2.2.2.2.2.2.2.2.2.2.2.2.2.2.1, (h2.2.2.2.2.2.2.2.2.2.2.2.2.2.2.2.2.2.2.2.2.1).trans h1.2.2.2.2.2.2.2.2.2.2.2.2.2.2.2.2.2.2.2.2.1, (h2.2.2.2.2.2.2.2.2.2.2.2.2.2.2.2.2.2.2.2.2.2.1).trans h1.2.2.2.2.2.2.2.2.2.2.2.2.2.2.2.2.2.2.2.2.2.1, (h2.2.2.2.2.2.2.2.2.2.2.2.2.2.2.2.2.2.2.2.2.2.2.1).trans h1.2.2.2.2.2.2.2.2.2.2.2.2.2.2.2.2.2.2.2.2.2.2.1, (h2.2.2.2.2.2.2.2.2.2.2.2.2.2.2.2.2.2.2.2.2.2.2.2.1).trans h1.2.2.2.2.2.2.2.2.2.2.2.2.2.2.2.2.2.2.2.2.2.2.2.1, (h2.2.2.2.2.2.2.2.2.2.2.2.2.2.2.2.2.2.2.2.2.2.2.2.2.1).trans h1.2.2.2.2.2.2.2.2.2.2.2.2.2.2.2.2.2.2.2.2.2.2.2.2.1, (h2.2.2.2.2.2.2.2.2.2.2.2.2.2.2.2.2.2.2.2.2.2.2.2.2.2.1).trans h1.2.2.2.2.2.2.2.2.2.2.2.2.2.2.2.2.2.2.2.2.2.2.2.2.2.1, (h2.2.2.2.2.2.2.2.2.2.2.2.2.2.2.2.2.2.2.2.2.2.2.2.2.2.2.1).trans h1.2.2.2.2.2.2.2.2.2.2.2.2.2.2.2.2.2.2.2.2.2.2.2.2.2.2.1, (h2.2.2.2.2.2.2.2.2.2.2.2.2.2.2.2.2.2.2.2.2.2.2.2.2.2.2.2.1).trans h1.2.2.2.2.2.2.2.2.2.2.2.2.2.2.2.2.2.2.2.2.2.2.2.2.2.2.2.1, (h2.2.2.2.2.2.2.2.2.2.2.2.2.2.2.2.2.2.2.2.2.2.2.2.2.2.2.2.2.1).trans h1.2.2.2.2.2.2.2.2.2.2.2.2.2.2.2.2.2.2.2.2.2.2.2.2.2.2.2.2.1, (h2.2.2.2.2.2.2.2.2.2.2.2.2.2.2.2.2.2.2.2.2.2.2.2.2.2.2.2.2.2.1).trans h1.2.2.2.2.2.2.2.2.2.2.2.2.2.2.2.2.2.2.2.2.2.2.2.2.2.2.2.2.2.1, (h2.2.2.2.2.2.2.2.2.2.2.2.2.2.2.2.2.2.2.2.2.2.2.2.2.2.2.2.2.2.2.1).trans h1.2.2.2.2.2.2.2.2.2.2.2.2.2.2.2.2.2.2.2.2.2.2.2.2.2.2.2.2.2.2.1, (h2.2.2.2.2.2.2.2.2.2.2.2.2.2.2.2.2.2.2.2.2.2.2.2.2.2.2.2.2.2.2.2.1).trans h1.2.2.2.2.2.2.2.2.2.2.2.2.2.2.2.2.2.2.2.2.2.2.2.2.2.2.2.2.2.2.2.1, (h2.2.2.2.2.2.2.2.2.2.2.2.2.2.2.2.2.2.2.2.2.2.2.2.2.2.2.2.2.2.2.2.2.1).trans h1.2.2.2.2.2.2.2.2.2.2.2.2.2.2.2.2.2.2.2.2.2.2.2.2.2.2.2.2.2.2.2.2.1, (h2.2.2.2.2.2.2.2.2.2.2.2.2.2.2.2.2.2.2.2.2.2.2.2.2.2.2.2.2.2.2.2.2.2.1).trans h1.2.2.2.2.2.2.2.2.2.2.2.2.2.2.2.2.2.2.2.2.2.2.2.2.2.2.2.2.2.2.2.2.2.1, (h2.2.2.2.2.2.2.2.2.2.2.2.2.2.2.2.2.2.2.2.2.2.2.2.2.2.2.2.2.2.2.2.2.2.2.1).trans h1.2.2.2.2.2.2.2.2.2.2.2.2.2.2.2.2.2.2.2.2.2.2.2.2.2.2.2.2.2.2.2.2.2.2.1, (h2.2.2.2.2.2.2.2.2.2.2.2.2.2.2.2.2.2.2.2.2.2.2.2.2.2.2.2.2.2.2.2.2.2.2.2.1).trans h1.2.2.2.2.2.2.2.2.2.2.2.2.2.2.2.2.2.2.2.2.2.2.2.2.2.2.2.2.2.2.2.2.2.2.2.1, (h2.2.2.2.2.2.2.2.2.2.2.2.2.2.2.2.2.2.2.2.2.2.2.2.2.2.2.2.2.2.2.2.2.2.2.2.2.1).trans h1.2.2.2.2.2.2.2.2.2.2.2.2.2.2.2.2.2.2.2.2.2.2.2.2.2.2.2.2.2.2.2.2.2.2.2.2.1, (h2.2.2.2.2.2.2.2.2.2.2.2.2.2.2.2.2.2.2.2.2.2.2.2.2.2.2.2.2.2.2.2.2.2.2.2.2.2.1).trans h1.2.2.2.2.2.2.2.2.2.2.2.2.2.2.2.2.2.2.2.2.2.2.2.2.2.2.2.2.2.2.2.2.2.2.2.2.2.1, (h2.2.2.2.2.2.2.2.2.2.2.2.2.2.2.2.2.2.2.2.2.2.2.2.2.2.2.2.2.2.2.2.2.2.2.2.2.2.2.1).trans h1.2.2.2.2.2.2.2.2.2.2.2.2.2.2.2.2.2.2.2.2.2.2.2.2.2.2.2.2.2.2.2.2.2.2.2.2.2.2.1, (h2.2.2.2.2.2.2.2.2.2.2.2.2.2.2.2.2.2.2.2.2.2.2.2.2.2.2.2.2.2.2.2.2.2.2.2.2.2.2.2.1).trans h1.2.2.2.2.2.2.2.2.2.2.2.2.2.2.2.2.2.2.2.2.2.2.2.2.2.2.2.2.2.2.2.2.2.2.2.2.2.2.2.1, (h2.2.2.2.2.2.2.2.2.2.2.2.2.2.2.2.2.2.2.2.2.2.2.2.2.2.2.2.2.2.2.2.2.2.2.2.2.2.2.2.2.1).trans h1.2.2.2.2.2.2.2.2.2.2.2.2.2.2.2.2.2.2.2.2.2.2.2.2.2.2.2.2.2.2.2.2.2.2.2.2.2.2.2.2.1, (h2.2.2.2.2.2.2.2.2.2.2.2.2.2.2.2.2.2.2.2.2.2.2.2.2.2.2.2.2.2.2.2.2.2.2.2.2.2.2.2.2.2.1).trans h1.2.2.2.2.2.2.2.2.2.2.2.2.2.2.2.2.2.2.2.2.2.2.2.2.2.2.2.2.2.2.2.2.2.2.2.2.2.2.2.2.2.1, (h2.2.2.2.2.2.2.2.2.2.2.2.2.2.2.2.2.2.2.2.2.2.2.2.2.2.2.2.2.2.2.2.2.2.2.2.2.2.2.2.2.2.2.1).trans h1.2.2.2.2.2.2.2.2.2.2.2.2.2.2.2.2.2.2.2.2.2.2.2.2.2.2.2.2.2.2.2.2.2.2.2.2.2.2.2.2.2.2.1, (h2.2.2.2.2.2.2.2.2.2.2.2.2.2.2.2.2.2.2.2.2.2.2.2.2.2.2.2.2.2.2.2.2.2.2.2.2.2.2.2.2.2.2.2.1).trans h1.2.2.2.2.2.2.2.2.2.2.2.2.2.2.2.2.2.2.2.2.2.2.2.2.2.2.2.2.2.2.2.2.2.2.2.2.2.2.2.2.2.2.2.1, (h2.2.2.2.2.2.2.2.2.2.2.2.2.2.2.2.2.2.2.2.2.2.2.2.2.2.2.2.2.2.2.2.2.2.2.2.2.2.2.2.2.2.2.2.2.1).trans h1.2.2.2.2.2.2.2.2.2.2.2.2.2.2.2.2.2.2.2.2.2.2.2.2.2.2.2.2.2.2.2.2.2.2.2.2.2.2.2.2.2.2.2.2.1, (h2.2.2.2.2.2.2.2.2.2.2.2.2.2.2.2.2.2.2.2.2.2.2.2.2.2.2.2.2.2.2.2.2.2.2.2.2.2.2.2.2.2.2.2.2.2.1).trans h1.2.2.2.2.2.2.2.2.2.2.2.2.2.2.2.2.2.2.2.2.2.2.2.2.2.2.2.2.2.2.2.2.2.2.2.2.2.2.2.2.2.2.2.2.2.1, (h2.2.2.2.2.2.2.2.2.2.2.2.2.2.2.2.2.2.2.2.2.2.2.2.2.2.2.2.2.2.2.2.2.2.2.2.2.2.2.2.2.2.2.2.2.2.2.1).trans h1.2.2.2.2.2.2.2.2.2.2.2.2.2.2.2.2.2.2.2.2.2.2.2.2.2.2.2.2.2.2.2.2.2.2.2.2.2.2.2.2.2.2.2.2.2.2.1, (h2.2.2.2.2.2.2.2.2.2.2.2.2.2.2.2.2.2.2.2.2.2.2.2.2.2.2.2.2.2.2.2.2.2.2.2.2.2.2.2.2.2.2.2.2.2.2.2.1).trans h1.2.2.2.2.2.2.2.2.2.2.2.2.2.2.2.2.2.2.2.2.2.2.2.2.2.2.2.2.2.2.2.2.2.2.2.2.2.2.2.2.2.2.2.2.2.2.2.1, (h2.2.2.2.2.2.2.2.2.2.2.2.2.2.2.2.2.2.2.2.2.2.2.2.2.2.2.2.2.2.2.2.2.2.2.2.2.2.2.2.2.2.2.2.2.2.2.2.2.1).trans h1.2.2.2.2.2.2.2.2.2.2.2.2.2.2.2.2.2.2.2.2.2.2.2.2.2.2.2.2.2.2.2.2.2.2.2.2.2.2.2.2.2.2.2.2.2.2.2.2.1, (h2.2.2.2.2.2.2.2.2.2.2.2.2.2.2.2.2.2.2.2.2.2.2.2.2.2.2.2.2.2.2.2.2.2.2.2.2.2.2.2.2.2.2.2.2.2.2.2.2.2.1).trans h1.2.2.2.2.2.2.2.2.2.2.2.2.2.2.2.2.2.2.2.2.2.2.2.2.2.2.2.2.2.2.2.2.2.2.2.2.2.2.2.2.2.2.2.2.2.2.2.2.2.1, (h2.2.2.2.2.2.2.2.2.2.2.2.2.2.2.2.2.2.2.2.2.2.2.2.2.2.2.2.2.2.2.2.2.2.2.2.2.2.2.2.2.2.2.2.2.2.2.2.2.2.2.1).trans h1.2.2.2.2.2.2.2.2.2.2.2.2.2.2.2.2.2.2.2.2.2.2.2.2.2.2.2.2.2.2.2.2.2.2.2.2.2.2.2.2.2.2.2.2.2.2.2.2.2.2.1, (h2.2.2.2.2.2.2.2.2.2.2.2.2.2.2.2.2.2.2.2.2.2.2.2.2.2.2.2.2.2.2.2.2.2.2.2.2.2.2.2.2.2.2.2.2.2.2.2.2.2.2.2.1).trans h1.2.2.2.2.2.2.2.2.2.2.2.2.2.2.2.2.2.2.2.2.2.2.2.2.2.2.2.2.2.2.2.2.2.2.2.2.2.2.2.2.2.2.2.2.2.2.2.2.2.2.2.1, (h2.2.2.2.2.2.2.2.2.2.2.2.2.2.2.2.2.2.2.2.2.2.2.2.2.2.2.2.2.2.2.2.2.2.2.2.2.2.2.2.2.2.2.2.2.2.2.2.2.2.2.2.2.1).trans h1.2.2.2.2.2.2.2.2.2.2.2.2.2.2.2.2.2.2.2.2.2.2.2.2.2.2.2.2.2.2.2.2.2.2.2.2.2.2.2.2.2.2.2.2.2.2.2.2.2.2.2.2.1, (h2.2.2.2.2.2.2.2.2.2.2.2.2.2.2.2.2.2.2.2.2.2.2.2.2.2.2.2.2.2.2.2.2.2.2.2.2.2.2.2.2.2.2.2.2.2.2.2.2.2.2.2.2.2.1).trans h1.2.2.2.2.2.2.2.2.2.2.2.2.2.2.2.2.2.2.2.2.2.2.2.2.2.2.2.2.2.2.2.2.2.2.2.2.2.2.2.2.2.2.2.2.2.2.2.2.2.2.2.2.2.1, (h2.2.2.2.2.2.2.2.2.2.2.2.2.2.2.2.2.2.2.2.2.2.2.2.2.2.2.2.2.2.2.2.2.2.2.2.2.2.2.2.2.2.2.2.2.2.2.2.2.2.2.2.2.2.2.1).trans h1.2.2.2.2.2.2.2.2.2.2.2.2.2.2.2.2.2.2.2.2.2.2.2.2.2.2.2.2.2.2.2.2.2.2.2.2.2.2.2.2.2.2.2.2.2.2.2.2.2.2.2.2.2.2.1, (h2.2.2.2.2.2.2.2.2.2.2.2.2.2.2.2.2.2.2.2.2.2.2.2.2.2.2.2.2.2.2.2.2.2.2.2.2.2.2.2.2.2.2.2.2.2.2.2.2.2.2.2.2.2.2.2.1).trans h1.2.2.2.2.2.2.2.2.2.2.2.2.2.2.2.2.2.2.2.2.2.2.2.2.2.2.2.2.2.2.2.2.2.2.2.2.2.2.2.2.2.2.2.2.2.2.2.2.2.2.2.2.2.2.2.1, (h2.2.2.2.2.2.2.2.2.2.2.2.2.2.2.2.2.2.2.2.2.2.2.2.2.2.2.2.2.2.2.2.2.2.2.2.2.2.2.2.2.2.2.2.2.2.2.2.2.2.2.2.2.2.2.2.2.1).trans h1.2.2.2.2.2.2.2.2.2.2.2.2.2.2.2.2.2.2.2.2.2.2.2.2.2.2.2.2.2.2.2.2.2.2.2.2.2.2.2.2.2.2.2.2.2.2.2.2.2.2.2.2.2.2.2.2.1, (h2.2.2.2.2.2.2.2.2.2.2.2.2.2.2.2.2.2.2.2.2.2.2.2.2.2.2.2.2.2.2.2.2.2.2.2.2.2.2.2.2.2.2.2.2.2.2.2.2.2.2.2.2.2.2.2.2.2.1).trans h1.2.2.2.2.2.2.2.2.2.2.2.2.2.2.2.2.2.2.2.2.2.2.2.2.2.2.2.2.2.2.2.2.2.2.2.2.2.2.2.2.2.2.2.2.2.2.2.2.2.2.2.2.2.2.2.2.2.1, (h2.2.2.2.2.2.2.2.2.2.2.2.2.2.2.2.2.2.2.2.2.2.2.2.2.2.2.2.2.2.2.2.2.2.2.2.2.2.2.2.2.2.2.2.2.2.2.2.2.2.2.2.2.2.2.2.2.2.2.1).trans h1.2.2.2.2.2.2.2.2.2.2.2.2.2.2.2.2.2.2.2.2.2.2.2.2.2.2.2.2.2.2.2.2.2.2.2.2.2.2.2.2.2.2.2.2.2.2.2.2.2.2.2.2.2.2.2.2.2.2.1, (h2.2.2.2.2.2.2.2.2.2.2.2.2.2.2.2.2.2.2.2.2.2.2.2.2.2.2.2.2.2.2.2.2.2.2.2.2.2.2.2.2.2.2.2.2.2.2.2.2.2.2.2.2.2.2.2.2.2.2.2.1).trans h1.2.2.2.2.2.2.2.2.2.2.2.2.2.2.2.2.2.2.2.2.2.2.2.2.2.2.2.2.2.2.2.2.2.2.2.2.2.2.2.2.2.2.2.2.2.2.2.2.2.2.2.2.2.2.2.2.2.2.2.1, (h2.2.2.2.2.2.2.2.2.2.2.2.2.2.2.2.2.2.2.2.2.2.2.2.2.2.2.2.2.2.2.2.2.2.2.2.2.2.2.2.2.2.2.2.2.2.2.2.2.2.2.2.2.2.2.2.2.2.2.2.2.1).trans h1.2.2.2.2.2.2.2.2.2.2.2.2.2.2.2.2.2.2.2.2.2.2.2.2.2.2.2.2.2.2.2.2.2.2.2.2.2.2.2.2.2.2.2.2.2.2.2.2.2.2.2.2.2.2.2.2.2.2.2.2.1, (h2.2.2.2.2.2.2.2.2.2.2.2.2.2.2.2.2.2.2.2.2.2.2.2.2.2.2.2.2.2.2.2.2.2.2.2.2.2.2.2.2.2.2.2.2.2.2.2.2.2.2.2.2.2.2.2.2.2.2.2.2.2).trans h1.2.2.2.2.2.2.2.2.2.2.2.2.2.2.2.2.2.2.2.2.2.2.2.2.2.2.2.2.2.2.2.2.2.2.2.2.2.2.2.2.2.2.2.2.2.2.2.2.2.2.2.2.2.2.2.2.2.2.2.2.2⟩
theorem dX11_keepAct_0 : decode cX11_keepAct 0 = .ok (.aload_n 0, 1) := by decide +kernel
theorem dX11_keepAct_1 : decode cX11_keepAct 1 = .ok (.getfield 389, 3) := by decide +kernel
theorem dX11_keepAct_4 : decode cX11_keepAct 4 = .ok (.bipush 40, 2) := by decide +kernel
theorem dX11_keepAct_6 : decode cX11_keepAct 6 = .ok (.if_icmp .ne 43, 3) := by decide +kernel
theorem dX11_keepAct_9 : decode cX11_keepAct 9 = .ok (.iconst 0, 1) := by decide +kernel
theorem dX11_keepAct_10 : decode cX11_keepAct 10 = .ok (.istore_n 1, 1) := by decide +kernel
theorem dX11_keepAct_11 : decode cX11_keepAct 11 = .ok (.iload_n 1, 1) := by decide +kernel
theorem dX11_keepAct_12 : decode cX11_keepAct 12 = .ok (.sipush 1160, 3) := by decide +kernel
theorem dX11_keepAct_15 : decode cX11_keepAct 15 = .ok (.if_icmp .ge 24, 3) := by decide +kernel
theorem dX11_keepAct_18 : decode cX11_keepAct 18 = .ok (.aload_n 0, 1) := by decide +kernel
theorem dX11_keepAct_19 : decode cX11_keepAct 19 = .ok (.getfield 103, 3) := by decide +kernel
theorem dX11_keepAct_22 : decode cX11_keepAct 22 = .ok (.iload_n 1, 1) := by decide +kernel
theorem dX11_keepAct_23 : decode cX11_keepAct 23 = .ok (.aload_n 0, 1) := by decide +kernel
theorem dX11_keepAct_24 : decode cX11_keepAct 24 = .ok (.getfield 103, 3) := by decide +kernel
theorem dX11_keepAct_27 : decode cX11_keepAct 27 = .ok (.iload_n 1, 1) := by decide +kernel
theorem dX11_keepAct_28 : decode cX11_keepAct 28 = .ok (.bipush 29, 2) := by decide +kernel
theorem dX11_keepAct_30 : decode cX11_keepAct 30 = .ok (.iadd, 1) := by decide +kernel
theorem dX11_keepAct_31 : decode cX11_keepAct 31 = .ok (.iaload, 1) := by decide +kernel
theorem dX11_keepAct_32 : decode cX11_keepAct 32 = .ok (.iastore, 1) := by decide +kernel
theorem dX11_keepAct_33 : decode cX11_keepAct 33 = .ok (.iinc 1 1, 3) := by decide +kernel
theorem dX11_keepAct_36 : decode cX11_keepAct 36 = .ok (.goto (-25), 3) := by decide +kernel
theorem dX11_keepAct_39 : decode cX11_keepAct 39 = .ok (.aload_n 0, 1) := by decide +kernel
theorem dX11_keepAct_40 : decode cX11_keepAct 40 = .ok (.dup, 1) := by decide +kernel
theorem dX11_keepAct_41 : decode cX11_keepAct 41 = .ok (.getfield 389, 3) := by decide +kernel
theorem dX11_keepAct_44 : decode cX11_keepAct 44 = .ok (.iconst 1, 1) := by decide +kernel
theorem dX11_keepAct_45 : decode cX11_keepAct 45 = .ok (.isub, 1) := by decide +kernel
theorem dX11_keepAct_46 : decode cX11_keepAct 46 = .ok (.putfield 389, 3) := by decide +kernel
theorem dX11_keepAct_49 : decode cX11_keepAct 49 = .ok (.iconst 0, 1) := by decide +kernel
theorem dX11_keepAct_50 : decode cX11_keepAct 50 = .ok (.istore_n 1, 1) := by decide +kernel
theorem dX11_keepAct_51 : decode cX11_keepAct 51 = .ok (.iload_n 1, 1) := by decide +kernel
theorem dX11_keepAct_52 : decode cX11_keepAct 52 = .ok (.bipush 29, 2) := by decide +kernel
theorem dX11_keepAct_54 : decode cX11_keepAct 54 = .ok (.if_icmp .ge 29, 3) := by decide +kernel
theorem dX11_keepAct_57 : decode cX11_keepAct 57 = .ok (.aload_n 0, 1) := by decide +kernel
theorem dX11_keepAct_58 : decode cX11_keepAct 58 = .ok (.getfield 103, 3) := by decide +kernel
theorem dX11_keepAct_61 : decode cX11_keepAct 61 = .ok (.bipush 29, 2) := by decide +kernel
theorem dX11_keepAct_63 : decode cX11_keepAct 63 = .ok (.aload_n 0, 1) := by decide +kernel
theorem dX11_keepAct_64 : decode cX11_keepAct 64 = .ok (.getfield 389, 3) := by decide +kernel
theorem dX11_keepAct_67 : decode cX11_keepAct 67 = .ok (.imul, 1) := by decide +kernel
theorem dX11_keepAct_68 : decode cX11_keepAct 68 = .ok (.iload_n 1, 1) := by decide +kernel
theorem dX11_keepAct_69 : decode cX11_keepAct 69 = .ok (.iadd, 1) := by decide +kernel
theorem dX11_keepAct_70 : decode cX11_keepAct 70 = .ok (.aload_n 0, 1) := by decide +kernel
theorem dX11_keepAct_71 : decode cX11_keepAct 71 = .ok (.getfield 97, 3) := by decide +kernel
theorem dX11_keepAct_74 : decode cX11_keepAct 74 = .ok (.iload_n 1, 1) := by decide +kernel
theorem dX11_keepAct_75 : decode cX11_keepAct 75 = .ok (.iaload, 1) := by decide +kernel
theorem dX11_keepAct_76 : decode cX11_keepAct 76 = .ok (.iastore, 1) := by decide +kernel
theorem dX11_keepAct_77 : decode cX11_keepAct 77 = .ok (.iinc 1 1, 3) := by decide +kernel
theorem dX11_keepAct_80 : decode cX11_keepAct 80 = .ok (.goto (-29), 3) := by decide +kernel
theorem dX11_keepAct_83 : decode cX11_keepAct 83 = .ok (.aload_n 0, 1) := by decide +kernel
theorem dX11_keepAct_84 : decode cX11_keepAct 84 = .ok (.dup, 1) := by decide +kernel
theorem dX11_keepAct_85 : decode cX11_keepAct 85 = .ok (.getfield 389, 3) := by decide +kernel
theorem dX11_keepAct_88 : decode cX11_keepAct 88 = .ok (.iconst 1, 1) := by decide +kernel
theorem dX11_keepAct_89 : decode cX11_keepAct 89 = .ok (.iadd, 1) := by decide +kernel
theorem dX11_keepAct_90 : decode cX11_keepAct 90 = .ok (.putfield 389, 3) := by decide +kernel
theorem dX11_keepAct_93 : decode cX11_keepAct 93 = .ok (.aload_n 0, 1) := by decide +kernel
theorem dX11_keepAct_94 : decode cX11_keepAct 94 = .ok (.iconst 0, 1) := by decide +kernel
theorem dX11_keepAct_95 : decode cX11_keepAct 95 = .ok (.putfield 392, 3) := by decide +kernel
theorem dX11_keepAct_98 : decode cX11_keepAct 98 = .ok (.return_, 1) := by decide +kernel
theorem wd_1820 : (Cond.code ⟨"WebCourtModel", "keepAct", "()V"⟩ prog_13_method_73_code (2 : Nat) (Option.none : Option FieldType)) ∈ gtb := gtb_c8 31 (by decide +kernel) rfl
theorem wd_1403 : (Cond.fieldLink "WebCourtModel" (389 : Nat) "WebCourtModel" "acts" "I") ∈ gtb := gtb_c6 94 (by decide +kernel) rfl
theorem gf_RX11_389 {p : Program} {l : Launch} {e : Env} {R : Room} {s : State} {m : MethodId} {args : Array Value} {below : List Frame} {meth : Method} {c : Code} {H : Heap} {locs : List Loc} {cells slots : Nat} {Q : State → Prop} {cc : ByteArray} {pc nL : Nat} {ls : Array Slot} {rest : List Value} {D : va_G} {cy : Nat → ClassId} {A : Nat → Prop} {ws : va_W} {b : Nat} {fs : List Value} {v : Value} (C : Cx p s m args c cc nL RX11 D cy A) (hO : Wo D A ws s.heap H locs) (q0 : Nat) (he : ws[q0]? = some (b, .inr (11, fs))) (hv : fs[47]? = some v) (hdg : decode cc pc = .ok (.getfield 389, 3)) (kk : W p l e R s m args below meth c H locs cells slots Q (F0 m (pc + 3) ls (v :: rest))) : W p l e R s m args below meth c H locs cells slots Q (F0 m pc ls (.ref b :: rest)) := gF (k := 47) C hO q0 he rfl inFX11 (by decide) wd_1403 rfl hv hdg kk
theorem pf_RX11_389 {p : Program} {l : Launch} {e : Env} {R : Room} {s : State} {m : MethodId} {args : Array Value} {below : List Frame} {meth : Method} {c : Code} {H : Heap} {locs : List Loc} {cells slots : Nat} {Q : State → Prop} {cc : ByteArray} {pc nL : Nat} {ls : Array Slot} {rest : List Value} {D : va_G} {cy : Nat → ClassId} {A : Nat → Prop} {ws : va_W} {b : Nat} {fs : List Value} {v : Int32} {ws' : va_W} (C : Cx p s m args c cc nL RX11 D cy A) (hO : Wo D A ws s.heap H locs) (q0 : Nat) (he : ws[q0]? = some (b, .inr (11, fs))) (hlen : 47 < fs.length) (hw : ws.set q0 (b, .inr (11, fs.set 47 (.int v))) = ws') (hdg : decode cc pc = .ok (.putfield 389, 3)) (kk : ∀ (H : Heap) (locs : List Loc), Wo D A ws' s.heap H locs → W p l e R s m args below meth c H locs cells slots Q (F0 m (pc + 3) ls rest)) : W p l e R s m args below meth c H locs cells slots Q (F0 m pc ls (.int v :: .ref b :: rest)) := pF (k := 47) (ty := .int) C hO q0 he rfl inFX11 (by decide) wd_1403 rfl tyX11 tyX11_ok nmX11 rfl (by decide +kernel) rfl rfl hlen hw hdg kk
theorem wd_1404 : (Cond.fieldLink "WebCourtModel" (392 : Nat) "WebCourtModel" "undone" "I") ∈ gtb := gtb_c6 95 (by decide +kernel) rfl
theorem pf_RX11_392 {p : Program} {l : Launch} {e : Env} {R : Room} {s : State} {m : MethodId} {args : Array Value} {below : List Frame} {meth : Method} {c : Code} {H : Heap} {locs : List Loc} {cells slots : Nat} {Q : State → Prop} {cc : ByteArray} {pc nL : Nat} {ls : Array Slot} {rest : List Value} {D : va_G} {cy : Nat → ClassId} {A : Nat → Prop} {ws : va_W} {b : Nat} {fs : List Value} {v : Int32} {ws' : va_W} (C : Cx p s m args c cc nL RX11 D cy A) (hO : Wo D A ws s.heap H locs) (q0 : Nat) (he : ws[q0]? = some (b, .inr (11, fs))) (hlen : 48 < fs.length) (hw : ws.set q0 (b, .inr (11, fs.set 48 (.int v))) = ws') (hdg : decode cc pc = .ok (.putfield 392, 3)) (kk : ∀ (H : Heap) (locs : List Loc), Wo D A ws' s.heap H locs → W p l e R s m args below meth c H locs cells slots Q (F0 m (pc + 3) ls rest)) : W p l e R s m args below meth c H locs cells slots Q (F0 m pc ls (.int v :: .ref b :: rest)) := pF (k := 48) (ty := .int) C hO q0 he rfl inFX11 (by decide) wd_1404 rfl tyX11 tyX11_ok nmX11 rfl (by decide +kernel) rfl rfl hlen hw hdg kk
theorem Km9_A3 {u v : St} (h : Km9 u v) : fA v 3 = fA u 3 := h.2.2.2.2.2.2.2.2.2.2.2.2.2.2.2.2.2.2.2.2.2.2.2.1
theorem Km9_I36 {u v : St} (h : Km9 u v) : fI v 0 36 = fI u 0 36 := h.2.2.2.2.2.2.2.2.2.1
theorem Km9_A28 {u v : St} (h : Km9 u v) : fA v 28 = fA u 28 := h.2.2.2.2.2.2.2.2.2.2.2.2.2.2.2.2.2.2.2.2.2.2.2.2.2.2.2.2.2.2.2.2.2.2.2.2.2.2.2.2.2.2.2.2.2.2.2.2.1
theorem Km9_A41 {u v : St} (h : Km9 u v) : fA v 41 = fA u 41 := h.2.2.2.2.2.2.2.2.2.2.2.2.2.2.2.2.2.2.2.2.2.2.2.2.2.2.2.2.2.2.2.2.2.2.2.2.2.2.2.2.2.2.2.2.2.2.2.2.2.2.2.2.2.2.2.2.2.2.2.2.1
theorem Km9_A42 {u v : St} (h : Km9 u v) : fA v 42 = fA u 42 := h.2.2.2.2.2.2.2.2.2.2.2.2.2.2.2.2.2.2.2.2.2.2.2.2.2.2.2.2.2.2.2.2.2.2.2.2.2.2.2.2.2.2.2.2.2.2.2.2.2.2.2.2.2.2.2.2.2.2.2.2.2
theorem wd_1402 : (Cond.fieldLink "WebCourtModel" (103 : Nat) "WebCourtModel" "was" "[I") ∈ gtb := gtb_c6 93 (by decide +kernel) rfl
theorem gf_RX11_103 {p : Program} {l : Launch} {e : Env} {R : Room} {s : State} {m : MethodId} {args : Array Value} {below : List Frame} {meth : Method} {c : Code} {H : Heap} {locs : List Loc} {cells slots : Nat} {Q : State → Prop} {cc : ByteArray} {pc nL : Nat} {ls : Array Slot} {rest : List Value} {D : va_G} {cy : Nat → ClassId} {A : Nat → Prop} {ws : va_W} {b : Nat} {fs : List Value} {v : Value} (C : Cx p s m args c cc nL RX11 D cy A) (hO : Wo D A ws s.heap H locs) (q0 : Nat) (he : ws[q0]? = some (b, .inr (11, fs))) (hv : fs[46]? = some v) (hdg : decode cc pc = .ok (.getfield 103, 3)) (kk : W p l e R s m args below meth c H locs cells slots Q (F0 m (pc + 3) ls (v :: rest))) : W p l e R s m args below meth c H locs cells slots Q (F0 m pc ls (.ref b :: rest)) := gF (k := 46) C hO q0 he rfl inFX11 (by decide) wd_1402 rfl hv hdg kk
set_option maxHeartbeats 4000000 in
set_option maxRecDepth 100000 in
theorem T_X11_keepAct (l : Launch) (D : va_G) (cy : Nat → ClassId) (a : Nat → Nat) (u : St) (hJ : MI a u)   : Mv l D cy (mW cy a) yX11_keepAct (.code yX11_keepAct cX11_keepAct 2 none) (rmo 0 0) [.ref (a 0)] u (fun (u' : St) => (MI a u') ∧ (Km9 u u')) := by
  refine Mv.of (own := RX11) rfl (by decide) (Nat.le_of_ble_eq_true rfl) ?_
  have hT : Km9 u u := Km9.rf
  have hJ0 := hJ
  have hJ := MI.b hJ
  intro p e s m below meth c A Q ls C hret hO hl
  obtain ⟨hx, hb, hml, hown, ht, hK, hA⟩ := id C
  have hl : lv_has ls 2 [(0, .ref (a 0))] := hl
  refine lv_aload_n hx hb dX11_keepAct_0 rfl (lv_at hl 0 rfl) ?_
  have g1 : 0 ≤ (fI u 0 47).toInt ∧ (fI u 0 47).toInt ≤ 40 := by have h := MI_47 hJ0; exact h
  refine gf_RX11_389 (v := .int (fI u 0 47)) C hO 0 mW_0 rfl dX11_keepAct_1 ?_
  refine lv_bipush (v := 40) hx hb dX11_keepAct_4 (by decide) ?_
  refine cs_ne (tgt := 49) (X := ((fI u 0 47)).toInt) (Y := 40) hx hb dX11_keepAct_6 (by decide) rfl rfl (fun c2 => ?_) (fun c2 => ?_)
  · refine lv_iconst (v := 0) hx hb dX11_keepAct_49 (by decide) ?_
    refine lv_istore_n (lv' := [(1, .int 0), (0, .ref (a 0))]) hx hb dX11_keepAct_50 rfl hl (by decide) rfl (fun ls hl => ?_)
    have LP_51_k4 : ∀ (n : Nat) (u3 : St) (H : Heap) (locs : List Loc) (ls : Array Slot) (k_k4 : Int32) (ac_k4 : Int32), Wo D A (mW cy a u3) s.heap H locs → lv_has ls 2 [(1, .int k_k4), (0, .ref (a 0))] → MB a u3 → Km9 u u3 → fI u3 0 47 = ac_k4 → 0 ≤ ac_k4.toInt ∧ ac_k4.toInt ≤ 39 → 0 ≤ k_k4.toInt ∧ k_k4.toInt ≤ 29 → 0 ≤ ac_k4.toInt ∧ ac_k4.toInt ≤ 40 → ((∀ j : Nat, (j : Int) < ac_k4.toInt → Sh (kN u) (fA u3 29 (29 * j + 24))) ∧ (25 ≤ k_k4.toInt → Sh (kN u) (fA u3 29 (29 * ac_k4.toNatClampNeg + 24)))) → 29 - k_k4.toInt < (n : Int) → W p l e (rmo 0 0) s m [.ref (a 0)].toArray below meth c H locs 0 0 Q (F0 m 51 ls []) := by
      intro n
      induction n with
      | zero =>
        intro u3 H locs ls k_k4 ac_k4 hO hl hJ hT hac_k4 iv0_k4 iv1_k4 iv2_k4 cv0_k4 hm_k4
        exact absurd hm_k4 (by omega)
      | succ n ih_k4 =>
        intro u3 H locs ls k_k4 ac_k4 hO hl hJ hT hac_k4 iv0_k4 iv1_k4 iv2_k4 cv0_k4 hm_k4
        refine lv_iload_n hx hb dX11_keepAct_51 rfl (lv_at hl 0 rfl) ?_
        refine lv_bipush (v := 29) hx hb dX11_keepAct_52 (by decide) ?_
        refine cs_ge (tgt := 83) (X := (k_k4).toInt) (Y := 29) hx hb dX11_keepAct_54 (by decide) rfl rfl (fun c5 => ?_) (fun c5 => ?_)
        · refine lv_aload_n hx hb dX11_keepAct_83 rfl (lv_at hl 1 rfl) ?_
          refine lv_dup hx hb dX11_keepAct_84 rfl ?_
          refine gf_RX11_389 (v := .int ac_k4) C hO 0 mW_0 (congrArg (fun z : Int32 => some (Value.int z)) hac_k4) dX11_keepAct_85 ?_
          refine lv_iconst (v := 1) hx hb dX11_keepAct_88 (by decide) ?_
          have e6 : ((ac_k4 + 1)).toInt = (ac_k4).toInt + 1 := i_add rfl rfl (by omega)
          refine lv_iadd hx hb dX11_keepAct_89 ?_
          refine pf_RX11_389 C hO 0 mW_0 (Nat.le_of_ble_eq_true rfl) mW_s0_47 dX11_keepAct_90 (fun H locs hO => ?_)
          refine lv_aload_n hx hb dX11_keepAct_93 rfl (lv_at hl 1 rfl) ?_
          refine lv_iconst (v := 0) hx hb dX11_keepAct_94 (by decide) ?_
          refine pf_RX11_392 C hO 0 mW_0 (Nat.le_of_ble_eq_true rfl) mW_s0_48 dX11_keepAct_95 (fun H locs hO => ?_)
          have hJ := MBs_4748 (v := (ac_k4 + 1)) (w := 0) hJ (by omega) (by decide) (by have z0 : (0 : Int32).toInt = 0 := rfl; omega)
          have hJ := keep_end hJ0 hJ (kN_eq (Km9_A3 hT) (Km9_I36 hT)) (Km9_A28 hT) (Km9_A41 hT) (Km9_A42 hT) (fun j hj => by
              have hj2 : (j : Int) < ((ac_k4 + 1) : Int32).toInt + (0 : Int32).toInt := hj
              have z0 : (0 : Int32).toInt = 0 := rfl
              have hc := i_cnz (x := ac_k4) (by omega)
              by_cases q : (j : Int) < (ac_k4 : Int32).toInt
              · exact (cv0_k4).1 j q
              · rw [show j = (ac_k4 : Int32).toNatClampNeg by omega]
                exact (cv0_k4).2 (by omega))
          refine hret _ _ _ _ _ dX11_keepAct_98 ?_ hO
          exact ⟨hJ, hT⟩
        · refine lv_aload_n hx hb dX11_keepAct_57 rfl (lv_at hl 1 rfl) ?_
          refine gf_RX11_103 (v := .ref (a 29)) C hO 0 mW_0 rfl dX11_keepAct_58 ?_
          refine lv_bipush (v := 29) hx hb dX11_keepAct_61 (by decide) ?_
          refine lv_aload_n hx hb dX11_keepAct_63 rfl (lv_at hl 1 rfl) ?_
          refine gf_RX11_389 (v := .int ac_k4) C hO 0 mW_0 (congrArg (fun z : Int32 => some (Value.int z)) hac_k4) dX11_keepAct_64 ?_
          have e7 : ((29 * ac_k4)).toInt = 29 * (ac_k4).toInt := i_mul rfl rfl (by omega)
          refine lv_imul hx hb dX11_keepAct_67 ?_
          refine lv_iload_n hx hb dX11_keepAct_68 rfl (lv_at hl 0 rfl) ?_
          have e8 : (((29 * ac_k4) + k_k4)).toInt = (29 * (ac_k4).toInt) + (k_k4).toInt := i_add e7 rfl (by omega)
          refine lv_iadd hx hb dX11_keepAct_69 ?_
          refine lv_aload_n hx hb dX11_keepAct_70 rfl (lv_at hl 1 rfl) ?_
          refine gf_RX11_97 (v := .ref (a 28)) C hO 0 mW_0 rfl dX11_keepAct_71 ?_
          refine lv_iload_n hx hb dX11_keepAct_74 rfl (lv_at hl 0 rfl) ?_
          refine aI C hO 28 mW_28 (i_in (X := (k_k4).toInt) rfl (by omega) (by omega)) dX11_keepAct_75 ?_
          refine tE (y := (fA u 28 (k_k4).toNatClampNeg)) (by exact (congrFun (Km9_A28 hT) _)) ?_
          refine aIs C hO 29 mW_29 (i_in (X := ((29 * (ac_k4).toInt) + (k_k4).toInt)) e8 (by omega) (by omega)) mW_s29 dX11_keepAct_76 (fun H locs hO => ?_)
          have hJ := MBsA_29 hO hJ
          have hq := kp2 (P := Sh (kN u)) (A := ac_k4) (k := k_k4) (v := (fA u 28 (k_k4).toNatClampNeg)) (i := (((29 * ac_k4) + k_k4)).toNatClampNeg) (cv0_k4).1 (cv0_k4).2 (by omega) (by omega) (by omega) (i_row (by omega) (by omega) (by omega)) (fun h => she_at hJ0 rfl h rfl)
          have e9 : ((k_k4 + 1)).toInt = (k_k4).toInt + 1 := i_add rfl rfl (by omega)
          refine lv_iinc (v := (k_k4 + 1)) (lv' := [(1, .int (k_k4 + 1)), (0, .ref (a 0))]) hx hb dX11_keepAct_77 hl (k := 0) rfl rfl (by decide) rfl (fun ls hl => ?_)
          refine lv_goto (tgt := 51) hx hb dX11_keepAct_80 (by decide) ?_
          exact ih_k4 _ _ _ _ ((k_k4 + 1)) (ac_k4) hO (lv_sub hl [0, 1] rfl) (by exact hJ) (by exact hT) (by exact hac_k4) (by first | decide | omega) (by first | decide | omega) (by first | decide | omega) (by exact ⟨hq.1, fun h => hq.2 (by omega)⟩) (by first | decide | omega)
    have zc10 : (0 : Int32).toInt = 0 := rfl
    exact LP_51_k4 4000 _ _ _ _ (0) ((fI u 0 47)) hO (lv_sub hl [0, 1] rfl) (by exact hJ) (by exact hT) (by exact rfl) (by first | decide | omega) (by first | decide | omega) (by first | decide | omega) (by exact ⟨fun j hj => MI_rows hJ0 j (by have h48 := MI_48 hJ0; omega), fun h => absurd h (by decide)⟩) (by first | decide | omega)
  · refine lv_iconst (v := 0) hx hb dX11_keepAct_9 (by decide) ?_
    refine lv_istore_n (lv' := [(1, .int 0), (0, .ref (a 0))]) hx hb dX11_keepAct_10 rfl hl (by decide) rfl (fun ls hl => ?_)
    have LP_11_k12 : ∀ (n : Nat) (u11 : St) (H : Heap) (locs : List Loc) (ls : Array Slot) (k_k12 : Int32) (ac_k12 : Int32), Wo D A (mW cy a u11) s.heap H locs → lv_has ls 2 [(1, .int k_k12), (0, .ref (a 0))] → MB a u11 → Km9 u u11 → fI u11 0 47 = ac_k12 → ac_k12.toInt = 40 → 0 ≤ k_k12.toInt ∧ k_k12.toInt ≤ 1160 → 0 ≤ ac_k12.toInt ∧ ac_k12.toInt ≤ 40 → ((∀ j : Nat, j < 39 → Sh (kN u) (fA u11 29 (29 * j + 24))) ∧ (k_k12.toInt ≤ 1155 → Sh (kN u) (fA u11 29 1155))) → 1160 - k_k12.toInt < (n : Int) → W p l e (rmo 0 0) s m [.ref (a 0)].toArray below meth c H locs 0 0 Q (F0 m 11 ls []) := by
      intro n
      induction n with
      | zero =>
        intro u11 H locs ls k_k12 ac_k12 hO hl hJ hT hac_k12 iv0_k12 iv1_k12 iv2_k12 cv0_k12 hm_k12
        exact absurd hm_k12 (by omega)
      | succ n ih_k12 =>
        intro u11 H locs ls k_k12 ac_k12 hO hl hJ hT hac_k12 iv0_k12 iv1_k12 iv2_k12 cv0_k12 hm_k12
        refine lv_iload_n hx hb dX11_keepAct_11 rfl (lv_at hl 0 rfl) ?_
        refine lv_sipush (v := 1160) hx hb dX11_keepAct_12 (by decide) ?_
        refine cs_ge (tgt := 39) (X := (k_k12).toInt) (Y := 1160) hx hb dX11_keepAct_15 (by decide) rfl rfl (fun c13 => ?_) (fun c13 => ?_)
        · refine lv_aload_n hx hb dX11_keepAct_39 rfl (lv_at hl 1 rfl) ?_
          refine lv_dup hx hb dX11_keepAct_40 rfl ?_
          refine gf_RX11_389 (v := .int ac_k12) C hO 0 mW_0 (congrArg (fun z : Int32 => some (Value.int z)) hac_k12) dX11_keepAct_41 ?_
          refine lv_iconst (v := 1) hx hb dX11_keepAct_44 (by decide) ?_
          have e14 : ((ac_k12 - 1)).toInt = (ac_k12).toInt - 1 := i_sub rfl rfl (by omega)
          refine lv_isub hx hb dX11_keepAct_45 ?_
          refine pf_RX11_389 C hO 0 mW_0 (Nat.le_of_ble_eq_true rfl) mW_s0_47 dX11_keepAct_46 (fun H locs hO => ?_)
          have hJ := MBs_47 (v := (ac_k12 - 1)) hJ (by omega) (by rw [show fI _ 0 47 = ac_k12 from hac_k12]; omega)
          refine lv_iconst (v := 0) hx hb dX11_keepAct_49 (by decide) ?_
          refine lv_istore_n (lv' := [(1, .int 0), (0, .ref (a 0))]) hx hb dX11_keepAct_50 rfl hl (by decide) rfl (fun ls hl => ?_)
          have LP_51_k16 : ∀ (n : Nat) (u15 : St) (H : Heap) (locs : List Loc) (ls : Array Slot) (k_k16 : Int32) (ac_k16 : Int32), Wo D A (mW cy a u15) s.heap H locs → lv_has ls 2 [(1, .int k_k16), (0, .ref (a 0))] → MB a u15 → Km9 u u15 → fI u15 0 47 = ac_k16 → 0 ≤ ac_k16.toInt ∧ ac_k16.toInt ≤ 39 → 0 ≤ k_k16.toInt ∧ k_k16.toInt ≤ 29 → 0 ≤ ac_k16.toInt ∧ ac_k16.toInt ≤ 40 → ((∀ j : Nat, (j : Int) < ac_k16.toInt → Sh (kN u) (fA u15 29 (29 * j + 24))) ∧ (25 ≤ k_k16.toInt → Sh (kN u) (fA u15 29 (29 * ac_k16.toNatClampNeg + 24)))) → 29 - k_k16.toInt < (n : Int) → W p l e (rmo 0 0) s m [.ref (a 0)].toArray below meth c H locs 0 0 Q (F0 m 51 ls []) := by
            intro n
            induction n with
            | zero =>
              intro u15 H locs ls k_k16 ac_k16 hO hl hJ hT hac_k16 iv0_k16 iv1_k16 iv2_k16 cv0_k16 hm_k16
              exact absurd hm_k16 (by omega)
            | succ n ih_k16 =>
              intro u15 H locs ls k_k16 ac_k16 hO hl hJ hT hac_k16 iv0_k16 iv1_k16 iv2_k16 cv0_k16 hm_k16
              refine lv_iload_n hx hb dX11_keepAct_51 rfl (lv_at hl 0 rfl) ?_
              refine lv_bipush (v := 29) hx hb dX11_keepAct_52 (by decide) ?_
              refine cs_ge (tgt := 83) (X := (k_k16).toInt) (Y := 29) hx hb dX11_keepAct_54 (by decide) rfl rfl (fun c17 => ?_) (fun c17 => ?_)
              · refine lv_aload_n hx hb dX11_keepAct_83 rfl (lv_at hl 1 rfl) ?_
                refine lv_dup hx hb dX11_keepAct_84 rfl ?_
                refine gf_RX11_389 (v := .int ac_k16) C hO 0 mW_0 (congrArg (fun z : Int32 => some (Value.int z)) hac_k16) dX11_keepAct_85 ?_
                refine lv_iconst (v := 1) hx hb dX11_keepAct_88 (by decide) ?_
                have e18 : ((ac_k16 + 1)).toInt = (ac_k16).toInt + 1 := i_add rfl rfl (by omega)
                refine lv_iadd hx hb dX11_keepAct_89 ?_
                refine pf_RX11_389 C hO 0 mW_0 (Nat.le_of_ble_eq_true rfl) mW_s0_47 dX11_keepAct_90 (fun H locs hO => ?_)
                refine lv_aload_n hx hb dX11_keepAct_93 rfl (lv_at hl 1 rfl) ?_
                refine lv_iconst (v := 0) hx hb dX11_keepAct_94 (by decide) ?_
                refine pf_RX11_392 C hO 0 mW_0 (Nat.le_of_ble_eq_true rfl) mW_s0_48 dX11_keepAct_95 (fun H locs hO => ?_)
                have hJ := MBs_4748 (v := (ac_k16 + 1)) (w := 0) hJ (by omega) (by decide) (by have z0 : (0 : Int32).toInt = 0 := rfl; omega)
                have hJ := keep_end hJ0 hJ (kN_eq (Km9_A3 hT) (Km9_I36 hT)) (Km9_A28 hT) (Km9_A41 hT) (Km9_A42 hT) (fun j hj => by
                    have hj2 : (j : Int) < ((ac_k16 + 1) : Int32).toInt + (0 : Int32).toInt := hj
                    have z0 : (0 : Int32).toInt = 0 := rfl
                    have hc := i_cnz (x := ac_k16) (by omega)
                    by_cases q : (j : Int) < (ac_k16 : Int32).toInt
                    · exact (cv0_k16).1 j q
                    · rw [show j = (ac_k16 : Int32).toNatClampNeg by omega]
                      exact (cv0_k16).2 (by omega))
                refine hret _ _ _ _ _ dX11_keepAct_98 ?_ hO
                exact ⟨hJ, hT⟩
              · refine lv_aload_n hx hb dX11_keepAct_57 rfl (lv_at hl 1 rfl) ?_
                refine gf_RX11_103 (v := .ref (a 29)) C hO 0 mW_0 rfl dX11_keepAct_58 ?_
                refine lv_bipush (v := 29) hx hb dX11_keepAct_61 (by decide) ?_
                refine lv_aload_n hx hb dX11_keepAct_63 rfl (lv_at hl 1 rfl) ?_
                refine gf_RX11_389 (v := .int ac_k16) C hO 0 mW_0 (congrArg (fun z : Int32 => some (Value.int z)) hac_k16) dX11_keepAct_64 ?_
                have e19 : ((29 * ac_k16)).toInt = 29 * (ac_k16).toInt := i_mul rfl rfl (by omega)
                refine lv_imul hx hb dX11_keepAct_67 ?_
                refine lv_iload_n hx hb dX11_keepAct_68 rfl (lv_at hl 0 rfl) ?_
                have e20 : (((29 * ac_k16) + k_k16)).toInt = (29 * (ac_k16).toInt) + (k_k16).toInt := i_add e19 rfl (by omega)
                refine lv_iadd hx hb dX11_keepAct_69 ?_
                refine lv_aload_n hx hb dX11_keepAct_70 rfl (lv_at hl 1 rfl) ?_
                refine gf_RX11_97 (v := .ref (a 28)) C hO 0 mW_0 rfl dX11_keepAct_71 ?_
                refine lv_iload_n hx hb dX11_keepAct_74 rfl (lv_at hl 0 rfl) ?_
                refine aI C hO 28 mW_28 (i_in (X := (k_k16).toInt) rfl (by omega) (by omega)) dX11_keepAct_75 ?_
                refine tE (y := (fA u 28 (k_k16).toNatClampNeg)) (by exact (congrFun (Km9_A28 hT) _)) ?_
                refine aIs C hO 29 mW_29 (i_in (X := ((29 * (ac_k16).toInt) + (k_k16).toInt)) e20 (by omega) (by omega)) mW_s29 dX11_keepAct_76 (fun H locs hO => ?_)
                have hJ := MBsA_29 hO hJ
                have hq := kp1 (P := Sh (kN u)) (k := k_k16) (v := (fA u 28 (k_k16).toNatClampNeg)) (cv0_k12).1 (cv0_k12).2 (by omega) (by omega) (by rw [i_cadd (y := k_k16 + 29) (k := k_k16) (c := 29) (by exact i_add rfl rfl (by omega)) (by omega)])
                have e21 : ((k_k16 + 1)).toInt = (k_k16).toInt + 1 := i_add rfl rfl (by omega)
                refine lv_iinc (v := (k_k16 + 1)) (lv' := [(1, .int (k_k16 + 1)), (0, .ref (a 0))]) hx hb dX11_keepAct_77 hl (k := 0) rfl rfl (by decide) rfl (fun ls hl => ?_)
                refine lv_goto (tgt := 51) hx hb dX11_keepAct_80 (by decide) ?_
                exact ih_k16 _ _ _ _ ((k_k16 + 1)) (ac_k16) hO (lv_sub hl [0, 1] rfl) (by exact hJ) (by exact hT) (by exact hac_k16) (by first | decide | omega) (by first | decide | omega) (by first | decide | omega) (by exact ⟨hq.1, fun h => hq.2 (by omega)⟩) (by first | decide | omega)
          have zc22 : (0 : Int32).toInt = 0 := rfl
          exact LP_51_k16 4000 _ _ _ _ (0) ((ac_k12 - 1)) hO (lv_sub hl [0, 1] rfl) (by exact hJ) (by exact hT) (by exact rfl) (by first | decide | omega) (by first | decide | omega) (by first | decide | omega) (by exact ⟨fun j hj => (cv0_k12).1 j (by omega), fun h => absurd h (by decide)⟩) (by first | decide | omega)
        · refine lv_aload_n hx hb dX11_keepAct_18 rfl (lv_at hl 1 rfl) ?_
          refine gf_RX11_103 (v := .ref (a 29)) C hO 0 mW_0 rfl dX11_keepAct_19 ?_
          refine lv_iload_n hx hb dX11_keepAct_22 rfl (lv_at hl 0 rfl) ?_
          refine lv_aload_n hx hb dX11_keepAct_23 rfl (lv_at hl 1 rfl) ?_
          refine gf_RX11_103 (v := .ref (a 29)) C hO 0 mW_0 rfl dX11_keepAct_24 ?_
          refine lv_iload_n hx hb dX11_keepAct_27 rfl (lv_at hl 0 rfl) ?_
          refine lv_bipush (v := 29) hx hb dX11_keepAct_28 (by decide) ?_
          have e23 : ((k_k12 + 29)).toInt = (k_k12).toInt + 29 := i_add rfl rfl (by omega)
          refine lv_iadd hx hb dX11_keepAct_30 ?_
          refine aI C hO 29 mW_29 (i_in (X := ((k_k12).toInt + 29)) e23 (by omega) (by omega)) dX11_keepAct_31 ?_
          refine tE (y := (fA u11 29 ((k_k12 + 29)).toNatClampNeg)) (by exact rfl) ?_
          refine aIs C hO 29 mW_29 (i_in (X := (k_k12).toInt) rfl (by omega) (by omega)) mW_s29 dX11_keepAct_32 (fun H locs hO => ?_)
          have hJ := MBsA_29 hO hJ
          have hq := kp1 (P := Sh (kN u)) (k := k_k12) (v := (fA u11 29 ((k_k12 + 29)).toNatClampNeg)) (cv0_k12).1 (cv0_k12).2 (by omega) (by omega) (by rw [i_cadd (y := k_k12 + 29) (k := k_k12) (c := 29) (by exact i_add rfl rfl (by omega)) (by omega)])
          have e24 : ((k_k12 + 1)).toInt = (k_k12).toInt + 1 := i_add rfl rfl (by omega)
          refine lv_iinc (v := (k_k12 + 1)) (lv' := [(1, .int (k_k12 + 1)), (0, .ref (a 0))]) hx hb dX11_keepAct_33 hl (k := 0) rfl rfl (by decide) rfl (fun ls hl => ?_)
          refine lv_goto (tgt := 11) hx hb dX11_keepAct_36 (by decide) ?_
          exact ih_k12 _ _ _ _ ((k_k12 + 1)) (ac_k12) hO (lv_sub hl [0, 1] rfl) (by exact hJ) (by exact hT) (by exact hac_k12) (by first | decide | omega) (by first | decide | omega) (by first | decide | omega) (by exact ⟨hq.1, fun h => hq.2 (by omega)⟩) (by first | decide | omega)
    have zc25 : (0 : Int32).toInt = 0 := rfl
    exact LP_11_k12 4000 _ _ _ _ (0) ((fI u 0 47)) hO (lv_sub hl [0, 1] rfl) (by exact hJ) (by exact hT) (by exact rfl) (by first | decide | omega) (by first | decide | omega) (by first | decide | omega) (by exact ⟨fun j hj => MI_rows hJ0 j (by have h48 := MI_48 hJ0; omega), fun _ => MI_rows hJ0 39 (by have h48 := MI_48 hJ0; omega)⟩) (by first | decide | omega)
def Km10 (u v : St) : Prop := fI v 0 2 = fI u 0 2 ∧ fI v 0 3 = fI u 0 3 ∧ fI v 0 4 = fI u 0 4 ∧ fI v 0 5 = fI u 0 5 ∧ fI v 0 6 = fI u 0 6 ∧ fI v 0 7 = fI u 0 7 ∧ fI v 0 8 = fI u 0 8 ∧ fI v 0 9 = fI u 0 9 ∧ fL v 0 10 = fL u 0 10 ∧ fI v 0 36 = fI u 0 36 ∧ fI v 0 37 = fI u 0 37 ∧ fI v 0 38 = fI u 0 38 ∧ fI v 0 39 = fI u 0 39 ∧ fI v 0 40 = fI u 0 40 ∧ fI v 0 41 = fI u 0 41 ∧ fI v 0 42 = fI u 0 42 ∧ fI v 0 43 = fI u 0 43 ∧ fI v 0 45 = fI u 0 45 ∧ fI v 0 47 = fI u 0 47 ∧ fI v 0 48 = fI u 0 48 ∧ fI v 0 50 = fI u 0 50 ∧ fI v 0 61 = fI u 0 61 ∧ fI v 0 62 = fI u 0 62 ∧ fA v 1 = fA u 1 ∧ fA v 2 = fA u 2 ∧ fA v 3 = fA u 3 ∧ fA v 4 = fA u 4 ∧ fA v 5 = fA u 5 ∧ fA v 6 = fA u 6 ∧ fA v 7 = fA u 7 ∧ fA v 8 = fA u 8 ∧ fA v 9 = fA u 9 ∧ fA v 10 = fA u 10 ∧ fA v 11 = fA u 11 ∧ fA v 12 = fA u 12 ∧ fA v 13 = fA u 13 ∧ fA v 14 = fA u 14 ∧ fA v 15 = fA u 15 ∧ fA v 16 = fA u 16 ∧ fA v 17 = fA u 17 ∧ fA v 18 = fA u 18 ∧ fA v 19 = fA u 19 ∧ fJ v 20 = fJ u 20 ∧ fJ v 21 = fJ u 21 ∧ fJ v 22 = fJ u 22 ∧ fA v 23 = fA u 23 ∧ fA v 24 = fA u 24 ∧ fA v 25 = fA u 25 ∧ fA v 26 = fA u 26 ∧ fA v 27 = fA u 27 ∧ fA v 30 = fA u 30 ∧ fA v 31 = fA u 31 ∧ fA v 32 = fA u 32 ∧ fA v 33 = fA u 33 ∧ fA v 34 = fA u 34 ∧ fA v 35 = fA u 35 ∧ fA v 36 = fA u 36 ∧ fA v 37 = fA u 37 ∧ fA v 38 = fA u 38 ∧ fA v 39 = fA u 39 ∧ fA v 40 = fA u 40 ∧ fA v 41 = fA u 41 ∧ fA v 42 = fA u 42
theorem Km10.rf {u : St} : Km10 u u := ⟨rfl, rfl, rfl, rfl, rfl, rfl, rfl, rfl, rfl, rfl, rfl, rfl, rfl, rfl, rfl, rfl, rfl, rfl, rfl, rfl, rfl, rfl, rfl, rfl, rfl, rfl, rfl, rfl, rfl, rfl, rfl, rfl, rfl, rfl, rfl, rfl, rfl, rfl, rfl, rfl, rfl, rfl, rfl, rfl, rfl, rfl, rfl, rfl, rfl, rfl, rfl, rfl, rfl, rfl, rfl, rfl, rfl, rfl, rfl, rfl, rfl, rfl, rfl⟩
theorem Km10.tr {u v w : St} (h1 : Km10 u v) (h2 : Km10 v w) : Km10 u w := ⟨(h2.1).trans h1.1, (h2.2.1).trans h1.2.1, (h2.2.2.1).trans h1.2.2.1, (h2.2.2.2.1).trans h1.2.2.2.1, (h2.2.2.2.2.1).trans h1.2.2.2.2.1, (h2.2.2.2.2.2.1).trans h1.2.2.2.2.2.1, (h2.2.2.2.2.2.2.1).trans h1.2.2.2.2.2.2.1, (h2.2.2.2.2.2.2.2.1).trans h1.2.2.2.2.2.2.2.1, (h2.2.2.2.2.2.2.2.2.1).trans h1.2.2.2.2.2.2.2.2.1, (h2.2.2.2.2.2.2.2.2.2.1).trans h1.2.2.2.2.2.2.2.2.2.1, (h2.2.2.2.2.2.2.2.2.2.2.1).trans h1.2.2.2.2.2.2.2.2.2.2.1, (h2.2.2.2.2.2.2.2.2.2.2.2.1).trans h1.2.2.2.2.2.2.2.2.2.2.2.1, (h2.2.2.2.2.2.2.2.2.2.2.2.2.1).trans h1.2.2.2.2.2.2.2.2.2.2.2.2.1, (h2.2.2.2.2.2.2.2.2.2.2.2.2.2.1).trans h1.2.2.2.2.2.2.2.2.2.2.2.2.2.1, (h2.2.2.2.2.2.2.2.2.2.2.2.2.2.2.1).trans h1.2.2.2.2.2.2.2.2.2.2.2.2.2.2.1, (h2.2.2.2.2.2.2.2.2.2.2.2.2.2.2.2.1).trans h1.2.2.2.2.2.2.2.2.2.2.2.2.2.2.2.1, (h2.2.2.2.2.2.2.2.2.2.2.2.2.2.2.2.2.1).trans h1.2.2.2.2.2.2.2.2.2.2.2.2.2.2.2.2.1, (h2.2.2.2.2.2.2.2.2.2.2.2.2.2.2.2.2.2.1).trans h1.2.2.2.2.2.2.2.2.2.2.2.2.2.2.2.2.2.1, (h2.2.2.2.2.2.2.2.2.2.2.2.2.2.2.2.2.2.2.1).trans h1.2.2.2.2.2.2.2.2.2.2.2.2.2.2.2.2.2.2.1, (h2.2.2.2.2.2.2.2.2.2.2.2.2.2.2.2.2.2.2.2.1).trans h1.2.2.2.2.2.2.2.2.2.2.2.2.2.2.2.2.2.2.2.1, (h2.2.2.2.2.2.2.2.2.2.2.2.2.2.2.2.2.2.2.2.2.1).trans h1.2.2.2.2.2.2.2.2.2.2.2.2.2.2.2.2.2.2.2.2.1, (h2.2.2.2.2.2.2.2.2.2.2.2.2.2.2.2.2.2.2.2.2.2.1).trans h1.2.2.2.2.2.2.2.2.2.2.2.2.2.2.2.2.2.2.2.2.2.1, (h2.2.2.2.2.2.2.2.2.2.2.2.2.2.2.2.2.2.2.2.2.2.2.1).trans h1.2.2.2.2.2.2.2.2.2.2.2.2.2.2.2.2.2.2.2.2.2.2.1, (h2.2.2.2.2.2.2.2.2.2.2.2.2.2.2.2.2.2.2.2.2.2.2.2.1).trans h1.2.2.2.2.2.2.2.2.2.2.2.2.2.2.2.2.2.2.2.2.2.2.2.1, (h2.2.2.2.2.2.2.2.2.2.2.2.2.2.2.2.2.2.2.2.2.2.2.2.2.1).trans h1.2.2.2.2.2.2.2.2.2.2.2.2.2.2.2.2.2.2.2.2.2.2.2.2.1, (h2.2.2.2.2.2.2.2.2.2.2.2.2.2.2.2.2.2.2.2.2.2.2.2.2.2.1).trans h1.2.2.2.2.2.2.2.2.2.2.2.2.2.2.2.2.2.2.2.2.2.2.2.2.2.1, (h2.2.2.2.2.2.2.2.2.2.2.2.2.2.2.2.2.2.2.2.2.2.2.2.2.2.2.1).trans h1.2.2.2.2.2.2.2.2.2.2.2.2.2.2.2.2.2.2.2.2.2.2.2.2.2.2.1, (h2.2.2.2.2.2.2.2.2.2.2.2.2.2.2.2.2.2.2.2.2.2.2.2.2.2.2.2.1).trans h1.2.2.2.2.2.2.2.2.2.2.2.2.2.2.2.2.2.2.2.2.2.2.2.2.2.2.2.1, (h2.2.2.2.2.2.2.2.2.2.2.2.2.2.2.2.2.2.2.2.2.2.2.2.2.2.2.2.2.1).trans h1.2.2.2.2.2.2.2.2.2.2.2.2.2.2.2.2.2.2.2.2.2.2.2.2.2.2.2.2.1, (h2.2.2.2.2.2.2.2.2.2.2.2.2.2.2.2.2.2.2.2.2.2.2.2.2.2.2.2.2.2.1).trans h1.2.2.2.2.2.2.2.2.2.2.2.2.2.2.2.2.2.2.2.2.2.2.2.2.2.2.2.2.2.1, (h2.2.2.2.2.2.2.2.2.2.2.2.2.2.2.2.2.2.2.2.2.2.2.2.2.2.2.2.2.2.2.1).trans h1.2.2.2.2.2.2.2.2.2.2.2.2.2.2.2.2.2.2.2.2.2.2.2.2.2.2.2.2.2.2.1, (h2.2.2.2.2.2.2.2.2.2.2.2.2.2.2.2.2.2.2.2.2.2.2.2.2.2.2.2.2.2.2.2.1).trans h1.2.2.2.2.2.2.2.2.2.2.2.2.2.2.2.2.2.2.2.2.2.2.2.2.2.2.2.2.2.2.2.1, (h2.2.2.2.2.2.2.2.2.2.2.2.2.2.2.2.2.2.2.2.2.2.2.2.2.2.2.2.2.2.2.2.2.1).trans h1.2.2.2.2.2.2.2.2.2.2.2.2.2.2.2.2.2.2.2.2.2.2.2.2.2.2.2.2.2.2.2.2.1, (h2.2.2.2.2.2.2.2.2.2.2.2.2.2.2.2.2.2.2.2.2.2.2.2.2.2.2.2.2.2.2.2.2.2.1).trans h1.2.2.2.2.2.2.2.2.2.2.2.2.2.2.2.2.2.2.2.2.2.2.2.2.2.2.2.2.2.2.2.2.2.1, (h2.2.2.2.2.2.2.2.2.2.2.2.2.2.2.2.2.2.2.2.2.2.2.2.2.2.2.2.2.2.2.2.2.2.2.1).trans h1.2.2.2.2.2.2.2.2.2.2.2.2.2.2.2.2.2.2.2.2.2.2.2.2.2.2.2.2.2.2.2.2.2.2.1, (h2.2.2.2.2.2.2.2.2.2.2.2.2.2.2.2.2.2.2.2.2.2.2.2.2.2.2.2.2.2.2.2.2.2.2.2.1).trans h1.2.2.2.2.2.2.2.2.2.2.2.2.2.2.2.2.2.2.2.2.2.2.2.2.2.2.2.2.2.2.2.2.2.2.2.1, (h2.2.2.2.2.2.2.2.2.2.2.2.2.2.2.2.2.2.2.2.2.2.2.2.2.2.2.2.2.2.2.2.2.2.2.2.2.1).trans h1.2.2.2.2.2.2.2.2.2.2.2.2.2.2.2.2.2.2.2.2.2.2.2.2.2.2.2.2.2.2.2.2.2.2.2.2.1, (h2.2.2.2.2.2.2.2.2.2.2.2.2.2.2.2.2.2.2.2.2.2.2.2.2.2.2.2.2.2.2.2.2.2.2.2.2.2.1).trans h1.2.2.2.2.2.2.2.2.2.2.2.2.2.2.2.2.2.2.2.2.2.2.2.2.2.2.2.2.2.2.2.2.2.2.2.2.2.1, (h2.2.2.2.2.2.2.2.2.2.2.2.2.2.2.2.2.2.2.2.2.2.2.2.2.2.2.2.2.2.2.2.2.2.2.2.2.2.2.1).trans h1.2.2.2.2.2.2.2.2.2.2.2.2.2.2.2.2.2.2.2.2.2.2.2.2.2.2.2.2.2.2.2.2.2.2.2.2.2.2.1, (h2.2.2.2.2.2.2.2.2.2.2.2.2.2.2.2.2.2.2.2.2.2.2.2.2.2.2.2.2.2.2.2.2.2.2.2.2.2.2.2.1).trans h1.2.2.2.2.2.2.2.2.2.2.2.2.2.2.2.2.2.2.2.2.2.2.2.2.2.2.2.2.2.2.2.2.2.2.2.2.2.2.2.1, (h2.2.2.2.2.2.2.2.2.2.2.2.2.2.2.2.2.2.2.2.2.2.2.2.2.2.2.2.2.2.2.2.2.2.2.2.2.2.2.2.2.1).trans h1.2.2.2.2.2.2.2.2.2.2.2.2.2.2.2.2.2.2.2.2.2.2.2.2.2.2.2.2.2.2.2.2.2.2.2.2.2.2.2.2.1, (h2.2.2.2.2.2.2.2.2.2.2.2.2.2.2.2.2.2.2.2.2.2.2.2.2.2.2.2.2.2.2.2.2.2.2.2.2.2.2.2.2.2.1).trans h1.2.2.2.2.2.2.2.2.2.2.2.2.2.2.2.2.2.2.2.2.2.2.2.2.2.2.2.2.2.2.2.2.2.2.2.2.2.2.2.2.2.1, (h2.2.2.2.2.2.2.2.2.2.2.2.2.2.2.2.2.2.2.2.2.2.2.2.2.2.2.2.2.2.2.2.2.2.2.2.2.2.2.2.2.2.2.1).trans h1.2.2.2.2.2.2.2.2.2.2.2.2.2.2.2.2.2.2.2.2.2.2.2.2.2.2.2.2.2.2.2.2.2.2.2.2.2.2.2.2.2.2.1, (h2.2.2.2.2.2.2.2.2.2.2.2.2.2.2.2.2.2.2.2.2.2.2.2.2.2.2.2.2.2.2.2.2.2.2.2.2.2.2.2.2.2.2.2.1).trans h1.2.2.2.2.2.2.2.2.2.2.2.2.2.2.2.2.2.2.2.2.2.2.2.2.2.2.2.2.2.2.2.2.2.2.2.2.2.2.2.2.2.2.2.1, (h2.2.2.2.2.2.2.2.2.2.2.2.2.2.2.2.2.2.2.2.2.2.2.2.2.2.2.2.2.2.2.2.2.2.2.2.2.2.2.2.2.2.2.2.2.1).trans h1.2.2.2.2.2.2.2.2.2.2.2.2.2.2.2.2.2.2.2.2.2.2.2.2.2.2.2.2.2.2.2.2.2.2.2.2.2.2.2.2.2.2.2.2.1, (h2.2.2.2.2.2.2.2.2.2.2.2.2.2.2.2.2.2.2.2.2.2.2.2.2.2.2.2.2.2.2.2.2.2.2.2.2.2.2.2.2.2.2.2.2.2.1).trans h1.2.2.2.2.2.2.2.2.2.2.2.2.2.2.2.2.2.2.2.2.2.2.2.2.2.2.2.2.2.2.2.2.2.2.2.2.2.2.2.2.2.2.2.2.2.1, (h2.2.2.2.2.2.2.2.2.2.2.2.2.2.2.2.2.2.2.2.2.2.2.2.2.2.2.2.2.2.2.2.2.2.2.2.2.2.2.2.2.2.2.2.2.2.2.1).trans h1.2.2.2.2.2.2.2.2.2.2.2.2.2.2.2.2.2.2.2.2.2.2.2.2.2.2.2.2.2.2.2.2.2.2.2.2.2.2.2.2.2.2.2.2.2.2.1, (h2.2.2.2.2.2.2.2.2.2.2.2.2.2.2.2.2.2.2.2.2.2.2.2.2.2.2.2.2.2.2.2.2.2.2.2.2.2.2.2.2.2.2.2.2.2.2.2.1).trans h1.2.2.2.2.2.2.2.2.2.2.2.2.2.2.2.2.2.2.2.2.2.2.2.2.2.2.2.2.2.2.2.2.2.2.2.2.2.2.2.2.2.2.2.2.2.2.2.1, (h2.2.2.2.2.2.2.2.2.2.2.2.2.2.2.2.2.2.2.2.2.2.2.2.2.2.2.2.2.2.2.2.2.2.2.2.2.2.2.2.2.2.2.2.2.2.2.2.2.1).trans h1.2.2.2.2.2.2.2.2.2.2.2.2.2.2.2.2.2.2.2.2.2.2.2.2.2.2.2.2.2.2.2.2.2.2.2.2.2.2.2.2.2.2.2.2.2.2.2.2.1, (h2.2.2.2.2.2.2.2.2.2.2.2.2.2.2.2.2.2.2.2.2.2.2.2.2.2.2.2.2.2.2.2.2.2.2.2.2.2.2.2.2.2.2.2.2.2.2.2.2.2.1).trans h1.2.2.2.2.2.2.2.2.2.2.2.2.2.2.2.2.2.2.2.2.2.2.2.2.2.2.2.2.2.2.2.2.2.2.2.2.2.2.2.2.2.2.2.2.2.2.2.2.2.1, (h2.2.2.2.2.2.2.2.2.2.2.2.2.2.2.2.2.2.2.2.2.2.2.2.2.2.2.2.2.2.2.2.2.2.2.2.2.2.2.2.2.2.2.2.2.2.2.2.2.2.2.1).trans h1.2.2.2.2.2.2.2.2.2.2.2.2.2.2.2.2.2.2.2.2.2.2.2.2.2.2.2.2.2.2.2.2.2.2.2.2.2.2.2.2.2.2.2.2.2.2.2.2.2.2.1, (h2.2.2.2.2.2.2.2.2.2.2.2.2.2.2.2.2.2.2.2.2.2.2.2.2.2.2.2.2.2.2.2.2.2.2.2.2.2.2.2.2.2.2.2.2.2.2.2.2.2.2.2.1).trans h1.2.2.2.2.2.2.2.2.2.2.2.2.2.2.2.2.2.2.2.2.2.2.2.2.2.2.2.2.2.2.2.2.2.2.2.2.2.2.2.2.2.2.2.2.2.2.2.2.2.2.2.1, (h2.2.2.2.2.2.2.2.2.2.2.2.2.2.2.2.2.2.2.2.2.2.2.2.2.2.2.2.2.2.2.2.2.2.2.2.2.2.2.2.2.2.2.2.2.2.2.2.2.2.2.2.2.1).trans h1.2.2.2.2.2.2.2.2.2.2.2.2.2.2.2.2.2.2.2.2.2.2.2.2.2.2.2.2.2.2.2.2.2.2.2.2.2.2.2.2.2.2.2.2.2.2.2.2.2.2.2.2.1, (h2.2.2.2.2.2.2.2.2.2.2.2.2.2.2.2.2.2.2.2.2.2.2.2.2.2.2.2.2.2.2.2.2.2.2.2.2.2.2.2.2.2.2.2.2.2.2.2.2.2.2.2.2.2.1).trans h1.2.2.2.2.2.2.2.2.2.2.2.2.2.2.2.2.2.2.2.2.2.2.2.2.2.2.2.2.2.2.2.2.2.2.2.2.2.2.2.2.2.2.2.2.2.2.2.2.2.2.2.2.2.1, (h2.2.2.2.2.2.2.2.2.2.2.2.2.2.2.2.2.2.2.2.2.2.2.2.2.2.2.2.2.2.2.2.2.2.2.2.2.2.2.2.2.2.2.2.2.2.2.2.2.2.2.2.2.2.2.1).trans h1.2.2.2.2.2.2.2.2.2.2.2.2.2.2.2.2.2.2.2.2.2.2.2.2.2.2.2.2.2.2.2.2.2.2.2.2.2.2.2.2.2.2.2.2.2.2.2.2.2.2.2.2.2.2.1, (h2.2.2.2.2.2.2.2.2.2.2.2.2.2.2.2.2.2.2.2.2.2.2.2.2.2.2.2.2.2.2.2.2.2.2.2.2.2.2.2.2.2.2.2.2.2.2.2.2.2.2.2.2.2.2.2.1).trans h1.2.2.2.2.2.2.2.2.2.2.2.2.2.2.2.2.2.2.2.2.2.2.2.2.2.2.2.2.2.2.2.2.2.2.2.2.2.2.2.2.2.2.2.2.2.2.2.2.2.2.2.2.2.2.2.1, (h2.2.2.2.2.2.2.2.2.2.2.2.2.2.2.2.2.2.2.2.2.2.2.2.2.2.2.2.2.2.2.2.2.2.2.2.2.2.2.2.2.2.2.2.2.2.2.2.2.2.2.2.2.2.2.2.2.1).trans h1.2.2.2.2.2.2.2.2.2.2.2.2.2.2.2.2.2.2.2.2.2.2.2.2.2.2.2.2.2.2.2.2.2.2.2.2.2.2.2.2.2.2.2.2.2.2.2.2.2.2.2.2.2.2.2.2.1, (h2.2.2.2.2.2.2.2.2.2.2.2.2.2.2.2.2.2.2.2.2.2.2.2.2.2.2.2.2.2.2.2.2.2.2.2.2.2.2.2.2.2.2.2.2.2.2.2.2.2.2.2.2.2.2.2.2.2.1).trans h1.2.2.2.2.2.2.2.2.2.2.2.2.2.2.2.2.2.2.2.2.2.2.2.2.2.2.2.2.2.2.2.2.2.2.2.2.2.2.2.2.2.2.2.2.2.2.2.2.2.2.2.2.2.2.2.2.2.1, (h2.2.2.2.2.2.2.2.2.2.2.2.2.2.2.2.2.2.2.2.2.2.2.2.2.2.2.2.2.2.2.2.2.2.2.2.2.2.2.2.2.2.2.2.2.2.2.2.2.2.2.2.2.2.2.2.2.2.2.1).trans h1.2.2.2.2.2.2.2.2.2.2.2.2.2.2.2.2.2.2.2.2.2.2.2.2.2.2.2.2.2.2.2.2.2.2.2.2.2.2.2.2.2.2.2.2.2.2.2.2.2.2.2.2.2.2.2.2.2.2.1, (h2.2.2.2.2.2.2.2.2.2.2.2.2.2.2.2.2.2.2.2.2.2.2.2.2.2.2.2.2.2.2.2.2.2.2.2.2.2.2.2.2.2.2.2.2.2.2.2.2.2.2.2.2.2.2.2.2.2.2.2.1).trans h1.2.2.2.2.2.2.2.2.2.2.2.2.2.2.2.2.2.2.2.2.2.2.2.2.2.2.2.2.2.2.2.2.2.2.2.2.2.2.2.2.2.2.2.2.2.2.2.2.2.2.2.2.2.2.2.2.2.2.2.1, (h2.2.2.2.2.2.2.2.2.2.2.2.2.2.2.2.2.2.2.2.2.2.2.2.2.2.2.2.2.2.2.2.2.2.2.2.2.2.2.2.2.2.2.2.2.2.2.2.2.2.2.2.2.2.2.2.2.2.2.2.2.1).trans h1.2.2.2.2.2.2.2.2.2.2.2.2.2.2.2.2.2.2.2.2.2.2.2.2.2.2.2.2.2.2.2.2.2.2.2.2.2.2.2.2.2.2.2.2.2.2.2.2.2.2.2.2.2.2.2.2.2.2.2.2.1, (h2.2.2.2.2.2.2.2.2.2.2.2.2.2.2.2.2.2.2.2.2.2.2.2.2.2.2.2.2.2.2.2.2.2.2.2.2.2.2.2.2.2.2.2.2.2.2.2.2.2.2.2.2.2.2.2.2.2.2.2.2.2.1).trans h1.2.2.2.2.2.2.2.2.2.2.2.2.2.2.2.2.2.2.2.2.2.2.2.2.2.2.2.2.2.2.2.2.2.2.2.2.2.2.2.2.2.2.2.2.2.2.2.2.2.2.2.2.2.2.2.2.2.2.2.2.2.1, (h2.2.2.2.2.2.2.2.2.2.2.2.2.2.2.2.2.2.2.2.2.2.2.2.2.2.2.2.2.2.2.2.2.2.2.2.2.2.2.2.2.2.2.2.2.2.2.2.2.2.2.2.2.2.2.2.2.2.2.2.2.2.2).trans h1.2.2.2.2.2.2.2.2.2.2.2.2.2.2.2.2.2.2.2.2.2.2.2.2.2.2.2.2.2.2.2.2.2.2.2.2.2.2.2.2.2.2.2.2.2.2.2.2.2.2.2.2.2.2.2.2.2.2.2.2.2.2⟩
theorem dX11_swapAll_0 : decode cX11_swapAll 0 = .ok (.iconst 0, 1) := by decide +kernel
theorem dX11_swapAll_1 : decode cX11_swapAll 1 = .ok (.istore_n 1, 1) := by decide +kernel
theorem dX11_swapAll_2 : decode cX11_swapAll 2 = .ok (.iload_n 1, 1) := by decide +kernel
theorem dX11_swapAll_3 : decode cX11_swapAll 3 = .ok (.bipush 29, 2) := by decide +kernel
theorem dX11_swapAll_5 : decode cX11_swapAll 5 = .ok (.if_icmp .ge 51, 3) := by decide +kernel
theorem dX11_swapAll_8 : decode cX11_swapAll 8 = .ok (.aload_n 0, 1) := by decide +kernel
theorem dX11_swapAll_9 : decode cX11_swapAll 9 = .ok (.getfield 103, 3) := by decide +kernel
theorem dX11_swapAll_12 : decode cX11_swapAll 12 = .ok (.bipush 29, 2) := by decide +kernel
theorem dX11_swapAll_14 : decode cX11_swapAll 14 = .ok (.aload_n 0, 1) := by decide +kernel
theorem dX11_swapAll_15 : decode cX11_swapAll 15 = .ok (.getfield 389, 3) := by decide +kernel
theorem dX11_swapAll_18 : decode cX11_swapAll 18 = .ok (.imul, 1) := by decide +kernel
theorem dX11_swapAll_19 : decode cX11_swapAll 19 = .ok (.iload_n 1, 1) := by decide +kernel
theorem dX11_swapAll_20 : decode cX11_swapAll 20 = .ok (.iadd, 1) := by decide +kernel
theorem dX11_swapAll_21 : decode cX11_swapAll 21 = .ok (.iaload, 1) := by decide +kernel
theorem dX11_swapAll_22 : decode cX11_swapAll 22 = .ok (.istore_n 2, 1) := by decide +kernel
theorem dX11_swapAll_23 : decode cX11_swapAll 23 = .ok (.aload_n 0, 1) := by decide +kernel
theorem dX11_swapAll_24 : decode cX11_swapAll 24 = .ok (.getfield 103, 3) := by decide +kernel
theorem dX11_swapAll_27 : decode cX11_swapAll 27 = .ok (.bipush 29, 2) := by decide +kernel
theorem dX11_swapAll_29 : decode cX11_swapAll 29 = .ok (.aload_n 0, 1) := by decide +kernel
theorem dX11_swapAll_30 : decode cX11_swapAll 30 = .ok (.getfield 389, 3) := by decide +kernel
theorem dX11_swapAll_33 : decode cX11_swapAll 33 = .ok (.imul, 1) := by decide +kernel
theorem dX11_swapAll_34 : decode cX11_swapAll 34 = .ok (.iload_n 1, 1) := by decide +kernel
theorem dX11_swapAll_35 : decode cX11_swapAll 35 = .ok (.iadd, 1) := by decide +kernel
theorem dX11_swapAll_36 : decode cX11_swapAll 36 = .ok (.aload_n 0, 1) := by decide +kernel
theorem dX11_swapAll_37 : decode cX11_swapAll 37 = .ok (.getfield 97, 3) := by decide +kernel
theorem dX11_swapAll_40 : decode cX11_swapAll 40 = .ok (.iload_n 1, 1) := by decide +kernel
theorem dX11_swapAll_41 : decode cX11_swapAll 41 = .ok (.iaload, 1) := by decide +kernel
theorem dX11_swapAll_42 : decode cX11_swapAll 42 = .ok (.iastore, 1) := by decide +kernel
theorem dX11_swapAll_43 : decode cX11_swapAll 43 = .ok (.aload_n 0, 1) := by decide +kernel
theorem dX11_swapAll_44 : decode cX11_swapAll 44 = .ok (.getfield 97, 3) := by decide +kernel
theorem dX11_swapAll_47 : decode cX11_swapAll 47 = .ok (.iload_n 1, 1) := by decide +kernel
theorem dX11_swapAll_48 : decode cX11_swapAll 48 = .ok (.iload_n 2, 1) := by decide +kernel
theorem dX11_swapAll_49 : decode cX11_swapAll 49 = .ok (.iastore, 1) := by decide +kernel
theorem dX11_swapAll_50 : decode cX11_swapAll 50 = .ok (.iinc 1 1, 3) := by decide +kernel
theorem dX11_swapAll_53 : decode cX11_swapAll 53 = .ok (.goto (-51), 3) := by decide +kernel
theorem dX11_swapAll_56 : decode cX11_swapAll 56 = .ok (.return_, 1) := by decide +kernel
theorem wd_1855 : (Cond.code ⟨"WebCourtModel", "swapAll", "()V"⟩ prog_13_method_74_code (3 : Nat) (Option.none : Option FieldType)) ∈ gtb := gtb_c8 66 (by decide +kernel) rfl
theorem Km10_I47 {u v : St} (h : Km10 u v) : fI v 0 47 = fI u 0 47 := h.2.2.2.2.2.2.2.2.2.2.2.2.2.2.2.2.2.2.1
theorem Km10_I48 {u v : St} (h : Km10 u v) : fI v 0 48 = fI u 0 48 := h.2.2.2.2.2.2.2.2.2.2.2.2.2.2.2.2.2.2.2.1
theorem Km10_A3 {u v : St} (h : Km10 u v) : fA v 3 = fA u 3 := h.2.2.2.2.2.2.2.2.2.2.2.2.2.2.2.2.2.2.2.2.2.2.2.2.2.1
theorem Km10_I36 {u v : St} (h : Km10 u v) : fI v 0 36 = fI u 0 36 := h.2.2.2.2.2.2.2.2.2.1
set_option maxHeartbeats 4000000 in
set_option maxRecDepth 100000 in
theorem T_X11_swapAll (l : Launch) (D : va_G) (cy : Nat → ClassId) (a : Nat → Nat) (u : St) (hJ : MI a u) (hp0 : 1 ≤ (fI u 0 48).toInt)   : Mv l D cy (mW cy a) yX11_swapAll (.code yX11_swapAll cX11_swapAll 3 none) (rmo 0 0) [.ref (a 0)] u (fun (u' : St) => (MI a u') ∧ (Km10 u u')) := by
  refine Mv.of (own := RX11) rfl (by decide) (Nat.le_of_ble_eq_true rfl) ?_
  have hT : Km10 u u := Km10.rf
  have hJ0 := hJ
  intro p e s m below meth c A Q ls C hret hO hl
  obtain ⟨hx, hb, hml, hown, ht, hK, hA⟩ := id C
  have hl : lv_has ls 3 [(0, .ref (a 0))] := hl
  refine lv_iconst (v := 0) hx hb dX11_swapAll_0 (by decide) ?_
  refine lv_istore_n (lv' := [(1, .int 0), (0, .ref (a 0))]) hx hb dX11_swapAll_1 rfl hl (by decide) rfl (fun ls hl => ?_)
  have LP_2_k2 : ∀ (n : Nat) (u1 : St) (H : Heap) (locs : List Loc) (ls : Array Slot) (i_k2 : Int32), Wo D A (mW cy a u1) s.heap H locs → lv_has ls 3 [(1, .int i_k2), (0, .ref (a 0))] → MI a u1 → Km10 u u1 → 0 ≤ i_k2.toInt ∧ i_k2.toInt ≤ 29 → 29 - i_k2.toInt < (n : Int) → W p l e (rmo 0 0) s m [.ref (a 0)].toArray below meth c H locs 0 0 Q (F0 m 2 ls []) := by
    intro n
    induction n with
    | zero =>
      intro u1 H locs ls i_k2 hO hl hJ hT iv0_k2 hm_k2
      exact absurd hm_k2 (by omega)
    | succ n ih_k2 =>
      intro u1 H locs ls i_k2 hO hl hJ hT iv0_k2 hm_k2
      refine lv_iload_n hx hb dX11_swapAll_2 rfl (lv_at hl 0 rfl) ?_
      refine lv_bipush (v := 29) hx hb dX11_swapAll_3 (by decide) ?_
      refine cs_ge (tgt := 56) (X := (i_k2).toInt) (Y := 29) hx hb dX11_swapAll_5 (by decide) rfl rfl (fun c3 => ?_) (fun c3 => ?_)
      · refine hret _ _ _ _ _ dX11_swapAll_56 ?_ hO
        exact ⟨hJ, hT⟩
      · refine lv_aload_n hx hb dX11_swapAll_8 rfl (lv_at hl 1 rfl) ?_
        refine gf_RX11_103 (v := .ref (a 29)) C hO 0 mW_0 rfl dX11_swapAll_9 ?_
        refine lv_bipush (v := 29) hx hb dX11_swapAll_12 (by decide) ?_
        refine lv_aload_n hx hb dX11_swapAll_14 rfl (lv_at hl 1 rfl) ?_
        have g4 : 0 ≤ (fI u 0 47).toInt ∧ (fI u 0 47).toInt ≤ 40 := by have h := MI_47 hJ0; exact h
        refine gf_RX11_389 (v := .int (fI u 0 47)) C hO 0 mW_0 (congrArg (fun z : Int32 => some (Value.int z)) (Km10_I47 hT)) dX11_swapAll_15 ?_
        have e5 : ((29 * (fI u 0 47))).toInt = 29 * ((fI u 0 47)).toInt := i_mul rfl rfl (by omega)
        refine lv_imul hx hb dX11_swapAll_18 ?_
        refine lv_iload_n hx hb dX11_swapAll_19 rfl (lv_at hl 0 rfl) ?_
        have e6 : (((29 * (fI u 0 47)) + i_k2)).toInt = (29 * ((fI u 0 47)).toInt) + (i_k2).toInt := i_add e5 rfl (by omega)
        refine lv_iadd hx hb dX11_swapAll_20 ?_
        refine aI C hO 29 mW_29 (i_in (X := ((29 * ((fI u 0 47)).toInt) + (i_k2).toInt)) e6 (by omega) (by omega)) dX11_swapAll_21 ?_
        refine tE (y := (fA u1 29 (((29 * (fI u 0 47)) + i_k2)).toNatClampNeg)) (by exact rfl) ?_
        have g7 : 0 ≤ (fI u 0 48).toInt ∧ (fI u 0 48).toInt ≤ 40 := by have h := MI_48 hJ0; exact h
        have hs : i_k2.toInt = 24 → Sh (kN u) (fA u1 29 (((29 * (fI u 0 47)) + i_k2)).toNatClampNeg) := fun h => row_at hJ (kN_eq (Km10_A3 hT) (Km10_I36 hT)) h (A := (fI u 0 47)) (y := ((29 * (fI u 0 47)) + i_k2)) (by omega) (by omega) (by have z7 : fI _ 0 47 = (fI u 0 47) := (Km10_I47 hT); have z8 : fI _ 0 48 = (fI u 0 48) := (Km10_I48 hT); rw [z7, z8]; omega) rfl
        refine lv_istore_n (lv' := [(2, .int (fA u1 29 (((29 * (fI u 0 47)) + i_k2)).toNatClampNeg)), (1, .int i_k2), (0, .ref (a 0))]) hx hb dX11_swapAll_22 rfl hl (by decide) rfl (fun ls hl => ?_)
        refine lv_aload_n hx hb dX11_swapAll_23 rfl (lv_at hl 2 rfl) ?_
        refine gf_RX11_103 (v := .ref (a 29)) C hO 0 mW_0 rfl dX11_swapAll_24 ?_
        refine lv_bipush (v := 29) hx hb dX11_swapAll_27 (by decide) ?_
        refine lv_aload_n hx hb dX11_swapAll_29 rfl (lv_at hl 2 rfl) ?_
        refine gf_RX11_389 (v := .int (fI u 0 47)) C hO 0 mW_0 (congrArg (fun z : Int32 => some (Value.int z)) (Km10_I47 hT)) dX11_swapAll_30 ?_
        have e8 : ((29 * (fI u 0 47))).toInt = 29 * ((fI u 0 47)).toInt := i_mul rfl rfl (by omega)
        refine lv_imul hx hb dX11_swapAll_33 ?_
        refine lv_iload_n hx hb dX11_swapAll_34 rfl (lv_at hl 1 rfl) ?_
        have e9 : (((29 * (fI u 0 47)) + i_k2)).toInt = (29 * ((fI u 0 47)).toInt) + (i_k2).toInt := i_add e8 rfl (by omega)
        refine lv_iadd hx hb dX11_swapAll_35 ?_
        refine lv_aload_n hx hb dX11_swapAll_36 rfl (lv_at hl 2 rfl) ?_
        refine gf_RX11_97 (v := .ref (a 28)) C hO 0 mW_0 rfl dX11_swapAll_37 ?_
        refine lv_iload_n hx hb dX11_swapAll_40 rfl (lv_at hl 1 rfl) ?_
        refine aI C hO 28 mW_28 (i_in (X := (i_k2).toInt) rfl (by omega) (by omega)) dX11_swapAll_41 ?_
        refine tE (y := (fA u1 28 (i_k2).toNatClampNeg)) (by exact rfl) ?_
        refine aIs C hO 29 mW_29 (i_in (X := ((29 * ((fI u 0 47)).toInt) + (i_k2).toInt)) e9 (by omega) (by omega)) mW_s29 dX11_swapAll_42 (fun H locs hO => ?_)
        have hJ := MIsA_29 hO hJ (fun j _ hi => by rw [show kN _ = kN u from (kN_eq (Km10_A3 hT) (Km10_I36 hT))]; exact she_at hJ (kN_eq (Km10_A3 hT) (Km10_I36 hT)) (no_row (A := (fI u 0 47)) (k := i_k2) (y := ((29 * (fI u 0 47)) + i_k2)) (by omega) (by omega) (by omega) (by omega) hi) rfl)
        refine lv_aload_n hx hb dX11_swapAll_43 rfl (lv_at hl 2 rfl) ?_
        refine gf_RX11_97 (v := .ref (a 28)) C hO 0 mW_0 rfl dX11_swapAll_44 ?_
        refine lv_iload_n hx hb dX11_swapAll_47 rfl (lv_at hl 1 rfl) ?_
        refine lv_iload_n hx hb dX11_swapAll_48 rfl (lv_at hl 0 rfl) ?_
        refine aIs C hO 28 mW_28 (i_in (X := (i_k2).toInt) rfl (by omega) (by omega)) mW_s28 dX11_swapAll_49 (fun H locs hO => ?_)
        have hJ := MIsA_28 hO hJ (by rw [show kN _ = kN u from (kN_eq (Km10_A3 hT) (Km10_I36 hT))]; by_cases q : i_k2.toInt = 24; · exact Or.inr (hs q); · exact Or.inl (i_ck rfl (by omega) (by omega)))
        have e10 : ((i_k2 + 1)).toInt = (i_k2).toInt + 1 := i_add rfl rfl (by omega)
        refine lv_iinc (v := (i_k2 + 1)) (lv' := [(1, .int (i_k2 + 1)), (2, .int (fA u1 29 (((29 * (fI u 0 47)) + i_k2)).toNatClampNeg)), (0, .ref (a 0))]) hx hb dX11_swapAll_50 hl (k := 1) rfl rfl (by decide) rfl (fun ls hl => ?_)
        refine lv_goto (tgt := 2) hx hb dX11_swapAll_53 (by decide) ?_
        exact ih_k2 _ _ _ _ ((i_k2 + 1)) hO (lv_sub hl [0, 2] rfl) (by exact hJ) (by exact hT) (by first | decide | omega) (by first | decide | omega)
  have zc11 : (0 : Int32).toInt = 0 := rfl
  exact LP_2_k2 4000 _ _ _ _ (0) hO (lv_sub hl [0, 1] rfl) (by exact hJ) (by exact hT) (by first | decide | omega) (by first | decide | omega)
def Km11 (u v : St) : Prop := fI v 0 2 = fI u 0 2 ∧ fI v 0 3 = fI u 0 3 ∧ fI v 0 4 = fI u 0 4 ∧ fI v 0 5 = fI u 0 5 ∧ fI v 0 6 = fI u 0 6 ∧ fI v 0 7 = fI u 0 7 ∧ fI v 0 8 = fI u 0 8 ∧ fI v 0 9 = fI u 0 9 ∧ fL v 0 10 = fL u 0 10 ∧ fI v 0 36 = fI u 0 36 ∧ fI v 0 37 = fI u 0 37 ∧ fI v 0 38 = fI u 0 38 ∧ fI v 0 39 = fI u 0 39 ∧ fI v 0 40 = fI u 0 40 ∧ fI v 0 41 = fI u 0 41 ∧ fI v 0 42 = fI u 0 42 ∧ fI v 0 43 = fI u 0 43 ∧ fI v 0 45 = fI u 0 45 ∧ fI v 0 50 = fI u 0 50 ∧ fI v 0 61 = fI u 0 61 ∧ fI v 0 62 = fI u 0 62 ∧ fA v 1 = fA u 1 ∧ fA v 2 = fA u 2 ∧ fA v 3 = fA u 3 ∧ fA v 4 = fA u 4 ∧ fA v 5 = fA u 5 ∧ fA v 6 = fA u 6 ∧ fA v 7 = fA u 7 ∧ fA v 8 = fA u 8 ∧ fA v 9 = fA u 9 ∧ fA v 10 = fA u 10 ∧ fA v 11 = fA u 11 ∧ fA v 12 = fA u 12 ∧ fA v 13 = fA u 13 ∧ fA v 14 = fA u 14 ∧ fA v 15 = fA u 15 ∧ fA v 16 = fA u 16 ∧ fA v 17 = fA u 17 ∧ fA v 18 = fA u 18 ∧ fA v 19 = fA u 19 ∧ fJ v 20 = fJ u 20 ∧ fJ v 21 = fJ u 21 ∧ fJ v 22 = fJ u 22 ∧ fA v 23 = fA u 23 ∧ fA v 24 = fA u 24 ∧ fA v 25 = fA u 25 ∧ fA v 26 = fA u 26 ∧ fA v 27 = fA u 27 ∧ fA v 30 = fA u 30 ∧ fA v 31 = fA u 31 ∧ fA v 32 = fA u 32 ∧ fA v 33 = fA u 33 ∧ fA v 34 = fA u 34 ∧ fA v 35 = fA u 35 ∧ fA v 36 = fA u 36 ∧ fA v 37 = fA u 37 ∧ fA v 38 = fA u 38 ∧ fA v 39 = fA u 39 ∧ fA v 40 = fA u 40 ∧ fA v 41 = fA u 41 ∧ fA v 42 = fA u 42
theorem Km11.rf {u : St} : Km11 u u := ⟨rfl, rfl, rfl, rfl, rfl, rfl, rfl, rfl, rfl, rfl, rfl, rfl, rfl, rfl, rfl, rfl, rfl, rfl, rfl, rfl, rfl, rfl, rfl, rfl, rfl, rfl, rfl, rfl, rfl, rfl, rfl, rfl, rfl, rfl, rfl, rfl, rfl, rfl, rfl, rfl, rfl, rfl, rfl, rfl, rfl, rfl, rfl, rfl, rfl, rfl, rfl, rfl, rfl, rfl, rfl, rfl, rfl, rfl, rfl, rfl, rfl⟩
theorem Km11.tr {u v w : St} (h1 : Km11 u v) (h2 : Km11 v w) : Km11 u w := ⟨(h2.1).trans h1.1, (h2.2.1).trans h1.2.1, (h2.2.2.1).trans h1.2.2.1, (h2.2.2.2.1).trans h1.2.2.2.1, (h2.2.2.2.2.1).trans h1.2.2.2.2.1, (h2.2.2.2.2.2.1).trans h1.2.2.2.2.2.1, (h2.2.2.2.2.2.2.1).trans h1.2.2.2.2.2.2.1, (h2.2.2.2.2.2.2.2.1).trans h1.2.2.2.2.2.2.2.1, (h2.2.2.2.2.2.2.2.2.1).trans h1.2.2.2.2.2.2.2.2.1, (h2.2.2.2.2.2.2.2.2.2.1).trans h1.2.2.2.2.2.2.2.2.2.1, (h2.2.2.2.2.2.2.2.2.2.2.1).trans h1.2.2.2.2.2.2.2.2.2.2.1, (h2.2.2.2.2.2.2.2.2.2.2.2.1).trans h1.2.2.2.2.2.2.2.2.2.2.2.1, (h2.2.2.2.2.2.2.2.2.2.2.2.2.1).trans h1.2.2.2.2.2.2.2.2.2.2.2.2.1, (h2.2.2.2.2.2.2.2.2.2.2.2.2.2.1).trans h1.2.2.2.2.2.2.2.2.2.2.2.2.2.1, (h2.2.2.2.2.2.2.2.2.2.2.2.2.2.2.1).trans h1.2.2.2.2.2.2.2.2.2.2.2.2.2.2.1, (h2.2.2.2.2.2.2.2.2.2.2.2.2.2.2.2.1).trans h1.2.2.2.2.2.2.2.2.2.2.2.2.2.2.2.1, (h2.2.2.2.2.2.2.2.2.2.2.2.2.2.2.2.2.1).trans h1.2.2.2.2.2.2.2.2.2.2.2.2.2.2.2.2.1, (h2.2.2.2.2.2.2.2.2.2.2.2.2.2.2.2.2.2.1).trans h1.2.2.2.2.2.2.2.2.2.2.2.2.2.2.2.2.2.1, (h2.2.2.2.2.2.2.2.2.2.2.2.2.2.2.2.2.2.2.1).trans h1.2.2.2.2.2.2.2.2.2.2.2.2.2.2.2.2.2.2.1, (h2.2.2.2.2.2.2.2.2.2.2.2.2.2.2.2.2.2.2.2.1).trans h1.2.2.2.2.2.2.2.2.2.2.2.2.2.2.2.2.2.2.2.1, (h2.2.2.2.2.2.2.2.2.2.2.2.2.2.2.2.2.2.2.2.2.1).trans h1.2.2.2.2.2.2.2.2.2.2.2.2.2.2.2.2.2.2.2.2.1, (h2.2.2.2.2.2.2.2.2.2.2.2.2.2.2.2.2.2.2.2.2.2.1).trans h1.2.2.2.2.2.2.2.2.2.2.2.2.2.2.2.2.2.2.2.2.2.1, (h2.2.2.2.2.2.2.2.2.2.2.2.2.2.2.2.2.2.2.2.2.2.2.1).trans h1.2.2.2.2.2.2.2.2.2.2.2.2.2.2.2.2.2.2.2.2.2.2.1, (h2.2.2.2.2.2.2.2.2.2.2.2.2.2.2.2.2.2.2.2.2.2.2.2.1).trans h1.2.2.2.2.2.2.2.2.2.2.2.2.2.2.2.2.2.2.2.2.2.2.2.1, (h2.2.2.2.2.2.2.2.2.2.2.2.2.2.2.2.2.2.2.2.2.2.2.2.2.1).trans h1.2.2.2.2.2.2.2.2.2.2.2.2.2.2.2.2.2.2.2.2.2.2.2.2.1, (h2.2.2.2.2.2.2.2.2.2.2.2.2.2.2.2.2.2.2.2.2.2.2.2.2.2.1).trans h1.2.2.2.2.2.2.2.2.2.2.2.2.2.2.2.2.2.2.2.2.2.2.2.2.2.1, (h2.2.2.2.2.2.2.2.2.2.2.2.2.2.2.2.2.2.2.2.2.2.2.2.2.2.2.1).trans h1.2.2.2.2.2.2.2.2.2.2.2.2.2.2.2.2.2.2.2.2.2.2.2.2.2.2.1, (h2.2.2.2.2.2.2.2.2.2.2.2.2.2.2.2.2.2.2.2.2.2.2.2.2.2.2.2.1).trans h1.2.2.2.2.2.2.2.2.2.2.2.2.2.2.2.2.2.2.2.2.2.2.2.2.2.2.2.1, (h2.2.2.2.2.2.2.2.2.2.2.2.2.2.2.2.2.2.2.2.2.2.2.2.2.2.2.2.2.1).trans h1.2.2.2.2.2.2.2.2.2.2.2.2.2.2.2.2.2.2.2.2.2.2.2.2.2.2.2.2.1, (h2.2.2.2.2.2.2.2.2.2.2.2.2.2.2.2.2.2.2.2.2.2.2.2.2.2.2.2.2.2.1).trans h1.2.2.2.2.2.2.2.2.2.2.2.2.2.2.2.2.2.2.2.2.2.2.2.2.2.2.2.2.2.1, (h2.2.2.2.2.2.2.2.2.2.2.2.2.2.2.2.2.2.2.2.2.2.2.2.2.2.2.2.2.2.2.1).trans h1.2.2.2.2.2.2.2.2.2.2.2.2.2.2.2.2.2.2.2.2.2.2.2.2.2.2.2.2.2.2.1, (h2.2.2.2.2.2.2.2.2.2.2.2.2.2.2.2.2.2.2.2.2.2.2.2.2.2.2.2.2.2.2.2.1).trans h1.2.2.2.2.2.2.2.2.2.2.2.2.2.2.2.2.2.2.2.2.2.2.2.2.2.2.2.2.2.2.2.1, (h2.2.2.2.2.2.2.2.2.2.2.2.2.2.2.2.2.2.2.2.2.2.2.2.2.2.2.2.2.2.2.2.2.1).trans h1.2.2.2.2.2.2.2.2.2.2.2.2.2.2.2.2.2.2.2.2.2.2.2.2.2.2.2.2.2.2.2.2.1, (h2.2.2.2.2.2.2.2.2.2.2.2.2.2.2.2.2.2.2.2.2.2.2.2.2.2.2.2.2.2.2.2.2.2.1).trans h1.2.2.2.2.2.2.2.2.2.2.2.2.2.2.2.2.2.2.2.2.2.2.2.2.2.2.2.2.2.2.2.2.2.1, (h2.2.2.2.2.2.2.2.2.2.2.2.2.2.2.2.2.2.2.2.2.2.2.2.2.2.2.2.2.2.2.2.2.2.2.1).trans h1.2.2.2.2.2.2.2.2.2.2.2.2.2.2.2.2.2.2.2.2.2.2.2.2.2.2.2.2.2.2.2.2.2.2.1, (h2.2.2.2.2.2.2.2.2.2.2.2.2.2.2.2.2.2.2.2.2.2.2.2.2.2.2.2.2.2.2.2.2.2.2.2.1).trans h1.2.2.2.2.2.2.2.2.2.2.2.2.2.2.2.2.2.2.2.2.2.2.2.2.2.2.2.2.2.2.2.2.2.2.2.1, (h2.2.2.2.2.2.2.2.2.2.2.2.2.2.2.2.2.2.2.2.2.2.2.2.2.2.2.2.2.2.2.2.2.2.2.2.2.1).trans h1.2.2.2.2.2.2.2.2.2.2.2.2.2.2.2.2.2.2.2.2.2.2.2.2.2.2.2.2.2.2.2.2.2.2.2.2.1, (h2.2.2.2.2.2.2.2.2.2.2.2.2.2.2.2.2.2.2.2.2.2.2.2.2.2.2.2.2.2.2.2.2.2.2.2.2.2.1).trans h1.2.2.2.2.2.2.2.2.2.2.2.2.2.2.2.2.2.2.2.2.2.2.2.2.2.2.2.2.2.2.2.2.2.2.2.2.2.1, (h2.2.2.2.2.2.2.2.2.2.2.2.2.2.2.2.2.2.2.2.2.2.2.2.2.2.2.2.2.2.2.2.2.2.2.2.2.2.2.1).trans h1.2.2.2.2.2.2.2.2.2.2.2.2.2.2.2.2.2.2.2.2.2.2.2.2.2.2.2.2.2.2.2.2.2.2.2.2.2.2.1, (h2.2.2.2.2.2.2.2.2.2.2.2.2.2.2.2.2.2.2.2.2.2.2.2.2.2.2.2.2.2.2.2.2.2.2.2.2.2.2.2.1).trans h1.2.2.2.2.2.2.2.2.2.2.2.2.2.2.2.2.2.2.2.2.2.2.2.2.2.2.2.2.2.2.2.2.2.2.2.2.2.2.2.1, (h2.2.2.2.2.2.2.2.2.2.2.2.2.2.2.2.2.2.2.2.2.2.2.2.2.2.2.2.2.2.2.2.2.2.2.2.2.2.2.2.2.1).trans h1.2.2.2.2.2.2.2.2.2.2.2.2.2.2.2.2.2.2.2.2.2.2.2.2.2.2.2.2.2.2.2.2.2.2.2.2.2.2.2.2.1, (h2.2.2.2.2.2.2.2.2.2.2.2.2.2.2.2.2.2.2.2.2.2.2.2.2.2.2.2.2.2.2.2.2.2.2.2.2.2.2.2.2.2.1).trans h1.2.2.2.2.2.2.2.2.2.2.2.2.2.2.2.2.2.2.2.2.2.2.2.2.2.2.2.2.2.2.2.2.2.2.2.2.2.2.2.2.2.1, (h2.2.2.2.2.2.2.2.2.2.2.2.2.2.2.2.2.2.2.2.2.2.2.2.2.2.2.2.2.2.2.2.2.2.2.2.2.2.2.2.2.2.2.1).trans h1.2.2.2.2.2.2.2.2.2.2.2.2.2.2.2.2.2.2.2.2.2.2.2.2.2.2.2.2.2.2.2.2.2.2.2.2.2.2.2.2.2.2.1, (h2.2.2.2.2.2.2.2.2.2.2.2.2.2.2.2.2.2.2.2.2.2.2.2.2.2.2.2.2.2.2.2.2.2.2.2.2.2.2.2.2.2.2.2.1).trans h1.2.2.2.2.2.2.2.2.2.2.2.2.2.2.2.2.2.2.2.2.2.2.2.2.2.2.2.2.2.2.2.2.2.2.2.2.2.2.2.2.2.2.2.1, (h2.2.2.2.2.2.2.2.2.2.2.2.2.2.2.2.2.2.2.2.2.2.2.2.2.2.2.2.2.2.2.2.2.2.2.2.2.2.2.2.2.2.2.2.2.1).trans h1.2.2.2.2.2.2.2.2.2.2.2.2.2.2.2.2.2.2.2.2.2.2.2.2.2.2.2.2.2.2.2.2.2.2.2.2.2.2.2.2.2.2.2.2.1, (h2.2.2.2.2.2.2.2.2.2.2.2.2.2.2.2.2.2.2.2.2.2.2.2.2.2.2.2.2.2.2.2.2.2.2.2.2.2.2.2.2.2.2.2.2.2.1).trans h1.2.2.2.2.2.2.2.2.2.2.2.2.2.2.2.2.2.2.2.2.2.2.2.2.2.2.2.2.2.2.2.2.2.2.2.2.2.2.2.2.2.2.2.2.2.1, (h2.2.2.2.2.2.2.2.2.2.2.2.2.2.2.2.2.2.2.2.2.2.2.2.2.2.2.2.2.2.2.2.2.2.2.2.2.2.2.2.2.2.2.2.2.2.2.1).trans h1.2.2.2.2.2.2.2.2.2.2.2.2.2.2.2.2.2.2.2.2.2.2.2.2.2.2.2.2.2.2.2.2.2.2.2.2.2.2.2.2.2.2.2.2.2.2.1, (h2.2.2.2.2.2.2.2.2.2.2.2.2.2.2.2.2.2.2.2.2.2.2.2.2.2.2.2.2.2.2.2.2.2.2.2.2.2.2.2.2.2.2.2.2.2.2.2.1).trans h1.2.2.2.2.2.2.2.2.2.2.2.2.2.2.2.2.2.2.2.2.2.2.2.2.2.2.2.2.2.2.2.2.2.2.2.2.2.2.2.2.2.2.2.2.2.2.2.1, (h2.2.2.2.2.2.2.2.2.2.2.2.2.2.2.2.2.2.2.2.2.2.2.2.2.2.2.2.2.2.2.2.2.2.2.2.2.2.2.2.2.2.2.2.2.2.2.2.2.1).trans h1.2.2.2.2.2.2.2.2.2.2.2.2.2.2.2.2.2.2.2.2.2.2.2.2.2.2.2.2.2.2.2.2.2.2.2.2.2.2.2.2.2.2.2.2.2.2.2.2.1, (h2.2.2.2.2.2.2.2.2.2.2.2.2.2.2.2.2.2.2.2.2.2.2.2.2.2.2.2.2.2.2.2.2.2.2.2.2.2.2.2.2.2.2.2.2.2.2.2.2.2.1).trans h1.2.2.2.2.2.2.2.2.2.2.2.2.2.2.2.2.2.2.2.2.2.2.2.2.2.2.2.2.2.2.2.2.2.2.2.2.2.2.2.2.2.2.2.2.2.2.2.2.2.1, (h2.2.2.2.2.2.2.2.2.2.2.2.2.2.2.2.2.2.2.2.2.2.2.2.2.2.2.2.2.2.2.2.2.2.2.2.2.2.2.2.2.2.2.2.2.2.2.2.2.2.2.1).trans h1.2.2.2.2.2.2.2.2.2.2.2.2.2.2.2.2.2.2.2.2.2.2.2.2.2.2.2.2.2.2.2.2.2.2.2.2.2.2.2.2.2.2.2.2.2.2.2.2.2.2.1, (h2.2.2.2.2.2.2.2.2.2.2.2.2.2.2.2.2.2.2.2.2.2.2.2.2.2.2.2.2.2.2.2.2.2.2.2.2.2.2.2.2.2.2.2.2.2.2.2.2.2.2.2.1).trans h1.2.2.2.2.2.2.2.2.2.2.2.2.2.2.2.2.2.2.2.2.2.2.2.2.2.2.2.2.2.2.2.2.2.2.2.2.2.2.2.2.2.2.2.2.2.2.2.2.2.2.2.1, (h2.2.2.2.2.2.2.2.2.2.2.2.2.2.2.2.2.2.2.2.2.2.2.2.2.2.2.2.2.2.2.2.2.2.2.2.2.2.2.2.2.2.2.2.2.2.2.2.2.2.2.2.2.1).trans h1.2.2.2.2.2.2.2.2.2.2.2.2.2.2.2.2.2.2.2.2.2.2.2.2.2.2.2.2.2.2.2.2.2.2.2.2.2.2.2.2.2.2.2.2.2.2.2.2.2.2.2.2.1, (h2.2.2.2.2.2.2.2.2.2.2.2.2.2.2.2.2.2.2.2.2.2.2.2.2.2.2.2.2.2.2.2.2.2.2.2.2.2.2.2.2.2.2.2.2.2.2.2.2.2.2.2.2.2.1).trans h1.2.2.2.2.2.2.2.2.2.2.2.2.2.2.2.2.2.2.2.2.2.2.2.2.2.2.2.2.2.2.2.2.2.2.2.2.2.2.2.2.2.2.2.2.2.2.2.2.2.2.2.2.2.1, (h2.2.2.2.2.2.2.2.2.2.2.2.2.2.2.2.2.2.2.2.2.2.2.2.2.2.2.2.2.2.2.2.2.2.2.2.2.2.2.2.2.2.2.2.2.2.2.2.2.2.2.2.2.2.2.1).trans h1.2.2.2.2.2.2.2.2.2.2.2.2.2.2.2.2.2.2.2.2.2.2.2.2.2.2.2.2.2.2.2.2.2.2.2.2.2.2.2.2.2.2.2.2.2.2.2.2.2.2.2.2.2.2.1, (h2.2.2.2.2.2.2.2.2.2.2.2.2.2.2.2.2.2.2.2.2.2.2.2.2.2.2.2.2.2.2.2.2.2.2.2.2.2.2.2.2.2.2.2.2.2.2.2.2.2.2.2.2.2.2.2.1).trans h1.2.2.2.2.2.2.2.2.2.2.2.2.2.2.2.2.2.2.2.2.2.2.2.2.2.2.2.2.2.2.2.2.2.2.2.2.2.2.2.2.2.2.2.2.2.2.2.2.2.2.2.2.2.2.2.1, (h2.2.2.2.2.2.2.2.2.2.2.2.2.2.2.2.2.2.2.2.2.2.2.2.2.2.2.2.2.2.2.2.2.2.2.2.2.2.2.2.2.2.2.2.2.2.2.2.2.2.2.2.2.2.2.2.2.1).trans h1.2.2.2.2.2.2.2.2.2.2.2.2.2.2.2.2.2.2.2.2.2.2.2.2.2.2.2.2.2.2.2.2.2.2.2.2.2.2.2.2.2.2.2.2.2.2.2.2.2.2.2.2.2.2.2.2.1, (h2.2.2.2.2.2.2.2.2.2.2.2.2.2.2.2.2.2.2.2.2.2.2.2.2.2.2.2.2.2.2.2.2.2.2.2.2.2.2.2.2.2.2.2.2.2.2.2.2.2.2.2.2.2.2.2.2.2.1).trans h1.2.2.2.2.2.2.2.2.2.2.2.2.2.2.2.2.2.2.2.2.2.2.2.2.2.2.2.2.2.2.2.2.2.2.2.2.2.2.2.2.2.2.2.2.2.2.2.2.2.2.2.2.2.2.2.2.2.1, (h2.2.2.2.2.2.2.2.2.2.2.2.2.2.2.2.2.2.2.2.2.2.2.2.2.2.2.2.2.2.2.2.2.2.2.2.2.2.2.2.2.2.2.2.2.2.2.2.2.2.2.2.2.2.2.2.2.2.2.1).trans h1.2.2.2.2.2.2.2.2.2.2.2.2.2.2.2.2.2.2.2.2.2.2.2.2.2.2.2.2.2.2.2.2.2.2.2.2.2.2.2.2.2.2.2.2.2.2.2.2.2.2.2.2.2.2.2.2.2.2.1, (h2.2.2.2.2.2.2.2.2.2.2.2.2.2.2.2.2.2.2.2.2.2.2.2.2.2.2.2.2.2.2.2.2.2.2.2.2.2.2.2.2.2.2.2.2.2.2.2.2.2.2.2.2.2.2.2.2.2.2.2.1).trans h1.2.2.2.2.2.2.2.2.2.2.2.2.2.2.2.2.2.2.2.2.2.2.2.2.2.2.2.2.2.2.2.2.2.2.2.2.2.2.2.2.2.2.2.2.2.2.2.2.2.2.2.2.2.2.2.2.2.2.2.1, (h2.2.2.2.2.2.2.2.2.2.2.2.2.2.2.2.2.2.2.2.2.2.2.2.2.2.2.2.2.2.2.2.2.2.2.2.2.2.2.2.2.2.2.2.2.2.2.2.2.2.2.2.2.2.2.2.2.2.2.2.2).trans h1.2.2.2.2.2.2.2.2.2.2.2.2.2.2.2.2.2.2.2.2.2.2.2.2.2.2.2.2.2.2.2.2.2.2.2.2.2.2.2.2.2.2.2.2.2.2.2.2.2.2.2.2.2.2.2.2.2.2.2.2⟩
theorem dX11_undo_0 : decode cX11_undo 0 = .ok (.aload_n 0, 1) := by decide +kernel
theorem dX11_undo_1 : decode cX11_undo 1 = .ok (.getfield 389, 3) := by decide +kernel
theorem dX11_undo_4 : decode cX11_undo 4 = .ok (.ifCond .ne 5, 3) := by decide +kernel
theorem dX11_undo_7 : decode cX11_undo 7 = .ok (.iconst 0, 1) := by decide +kernel
theorem dX11_undo_8 : decode cX11_undo 8 = .ok (.ireturn, 1) := by decide +kernel
theorem dX11_undo_9 : decode cX11_undo 9 = .ok (.aload_n 0, 1) := by decide +kernel
theorem dX11_undo_10 : decode cX11_undo 10 = .ok (.dup, 1) := by decide +kernel
theorem dX11_undo_11 : decode cX11_undo 11 = .ok (.getfield 389, 3) := by decide +kernel
theorem dX11_undo_14 : decode cX11_undo 14 = .ok (.iconst 1, 1) := by decide +kernel
theorem dX11_undo_15 : decode cX11_undo 15 = .ok (.isub, 1) := by decide +kernel
theorem dX11_undo_16 : decode cX11_undo 16 = .ok (.putfield 389, 3) := by decide +kernel
theorem dX11_undo_19 : decode cX11_undo 19 = .ok (.aload_n 0, 1) := by decide +kernel
theorem dX11_undo_20 : decode cX11_undo 20 = .ok (.dup, 1) := by decide +kernel
theorem dX11_undo_21 : decode cX11_undo 21 = .ok (.getfield 392, 3) := by decide +kernel
theorem dX11_undo_24 : decode cX11_undo 24 = .ok (.iconst 1, 1) := by decide +kernel
theorem dX11_undo_25 : decode cX11_undo 25 = .ok (.iadd, 1) := by decide +kernel
theorem dX11_undo_26 : decode cX11_undo 26 = .ok (.putfield 392, 3) := by decide +kernel
theorem dX11_undo_29 : decode cX11_undo 29 = .ok (.aload_n 0, 1) := by decide +kernel
theorem dX11_undo_30 : decode cX11_undo 30 = .ok (.invokevirtual 445, 3) := by decide +kernel
theorem dX11_undo_33 : decode cX11_undo 33 = .ok (.iconst 1, 1) := by decide +kernel
theorem dX11_undo_34 : decode cX11_undo 34 = .ok (.ireturn, 1) := by decide +kernel
theorem wd_1851 : (Cond.code ⟨"WebCourtModel", "undo", "()Z"⟩ prog_13_method_81_code (1 : Nat) (Option.some FieldType.boolean)) ∈ gtb := gtb_c8 62 (by decide +kernel) rfl
theorem gf_RX11_392 {p : Program} {l : Launch} {e : Env} {R : Room} {s : State} {m : MethodId} {args : Array Value} {below : List Frame} {meth : Method} {c : Code} {H : Heap} {locs : List Loc} {cells slots : Nat} {Q : State → Prop} {cc : ByteArray} {pc nL : Nat} {ls : Array Slot} {rest : List Value} {D : va_G} {cy : Nat → ClassId} {A : Nat → Prop} {ws : va_W} {b : Nat} {fs : List Value} {v : Value} (C : Cx p s m args c cc nL RX11 D cy A) (hO : Wo D A ws s.heap H locs) (q0 : Nat) (he : ws[q0]? = some (b, .inr (11, fs))) (hv : fs[48]? = some v) (hdg : decode cc pc = .ok (.getfield 392, 3)) (kk : W p l e R s m args below meth c H locs cells slots Q (F0 m (pc + 3) ls (v :: rest))) : W p l e R s m args below meth c H locs cells slots Q (F0 m pc ls (.ref b :: rest)) := gF (k := 48) C hO q0 he rfl inFX11 (by decide) wd_1404 rfl hv hdg kk
theorem wd_1852 : (Cond.methodLink "WebCourtModel" (445 : Nat) ⟨"WebCourtModel", "swapAll", "()V"⟩) ∈ gtb := gtb_c8 63 (by decide +kernel) rfl
theorem wd_1854 : (Cond.instanceMethod ⟨"WebCourtModel", "swapAll", "()V"⟩) ∈ gtb := gtb_c8 65 (by decide +kernel) rfl
theorem wd_95 : (Cond.selects "WebCourtModel" ⟨"WebCourtModel", "swapAll", "()V"⟩ ⟨"WebCourtModel", "swapAll", "()V"⟩) ∈ gtb := gtb_p 95 (by decide +kernel) rfl
theorem hd_yX11_swapAll : yX11_swapAll.cls = RX11 ∧ yX11_swapAll.cls ≠ "java/lang/invoke/MethodHandle" ∧ yX11_swapAll.cls ≠ "java/lang/invoke/VarHandle" ∧ (parseMethodDescriptor yX11_swapAll.desc).map (fun d => d.parameters.length) = some 0 := by decide +kernel
theorem Km10_to_Km11 {u v : St} (h : Km10 u v) : Km11 u v := ⟨h.1, h.2.1, h.2.2.1, h.2.2.2.1, h.2.2.2.2.1, h.2.2.2.2.2.1, h.2.2.2.2.2.2.1, h.2.2.2.2.2.2.2.1, h.2.2.2.2.2.2.2.2.1, h.2.2.2.2.2.2.2.2.2.1, h.2.2.2.2.2.2.2.2.2.2.1, h.2.2.2.2.2.2.2.2.2.2.2.1, h.2.2.2.2.2.2.2.2.2.2.2.2.1, h.2.2.2.2.2.2.2.2.2.2.2.2.2.1, h.2.2.2.2.2.2.2.2.2.2.2.2.2.2.1, h.2.2.2.2.2.2.2.2.2.2.2.2.2.2.2.1, h.2.2.2.2.2.2.2.2.2.2.2.2.2.2.2.2.1, h.2.2.2.2.2.2.2.2.2.2.2.2.2.2.2.2.2.1, h.2.2.2.2.2.2.2.2.2.2.2.2.2.2.2.2.2.2.2.2.1, h.2.2.2.2.2.2.2.2.2.2.2.2.2.2.2.2.2.2.2.2.2.1, h.2.2.2.2.2.2.2.2.2.2.2.2.2.2.2.2.2.2.2.2.2.2.1, h.2.2.2.2.2.2.2.2.2.2.2.2.2.2.2.2.2.2.2.2.2.2.2.1, h.2.2.2.2.2.2.2.2.2.2.2.2.2.2.2.2.2.2.2.2.2.2.2.2.1, h.2.2.2.2.2.2.2.2.2.2.2.2.2.2.2.2.2.2.2.2.2.2.2.2.2.1, h.2.2.2.2.2.2.2.2.2.2.2.2.2.2.2.2.2.2.2.2.2.2.2.2.2.2.1, h.2.2.2.2.2.2.2.2.2.2.2.2.2.2.2.2.2.2.2.2.2.2.2.2.2.2.2.1, h.2.2.2.2.2.2.2.2.2.2.2.2.2.2.2.2.2.2.2.2.2.2.2.2.2.2.2.2.1, h.2.2.2.2.2.2.2.2.2.2.2.2.2.2.2.2.2.2.2.2.2.2.2.2.2.2.2.2.2.1, h.2.2.2.2.2.2.2.2.2.2.2.2.2.2.2.2.2.2.2.2.2.2.2.2.2.2.2.2.2.2.1, h.2.2.2.2.2.2.2.2.2.2.2.2.2.2.2.2.2.2.2.2.2.2.2.2.2.2.2.2.2.2.2.1, h.2.2.2.2.2.2.2.2.2.2.2.2.2.2.2.2.2.2.2.2.2.2.2.2.2.2.2.2.2.2.2.2.1, h.2.2.2.2.2.2.2.2.2.2.2.2.2.2.2.2.2.2.2.2.2.2.2.2.2.2.2.2.2.2.2.2.2.1, h.2.2.2.2.2.2.2.2.2.2.2.2.2.2.2.2.2.2.2.2.2.2.2.2.2.2.2.2.2.2.2.2.2.2.1, h.2.2.2.2.2.2.2.2.2.2.2.2.2.2.2.2.2.2.2.2.2.2.2.2.2.2.2.2.2.2.2.2.2.2.2.1, h.2.2.2.2.2.2.2.2.2.2.2.2.2.2.2.2.2.2.2.2.2.2.2.2.2.2.2.2.2.2.2.2.2.2.2.2.1, h.2.2.2.2.2.2.2.2.2.2.2.2.2.2.2.2.2.2.2.2.2.2.2.2.2.2.2.2.2.2.2.2.2.2.2.2.2.1, h.2.2.2.2.2.2.2.2.2.2.2.2.2.2.2.2.2.2.2.2.2.2.2.2.2.2.2.2.2.2.2.2.2.2.2.2.2.2.1, h.2.2.2.2.2.2.2.2.2.2.2.2.2.2.2.2.2.2.2.2.2.2.2.2.2.2.2.2.2.2.2.2.2.2.2.2.2.2.2.1, h.2.2.2.2.2.2.2.2.2.2.2.2.2.2.2.2.2.2.2.2.2.2.2.2.2.2.2.2.2.2.2.2.2.2.2.2.2.2.2.2.1, h.2.2.2.2.2.2.2.2.2.2.2.2.2.2.2.2.2.2.2.2.2.2.2.2.2.2.2.2.2.2.2.2.2.2.2.2.2.2.2.2.2.1, h.2.2.2.2.2.2.2.2.2.2.2.2.2.2.2.2.2.2.2.2.2.2.2.2.2.2.2.2.2.2.2.2.2.2.2.2.2.2.2.2.2.2.1, h.2.2.2.2.2.2.2.2.2.2.2.2.2.2.2.2.2.2.2.2.2.2.2.2.2.2.2.2.2.2.2.2.2.2.2.2.2.2.2.2.2.2.2.1, h.2.2.2.2.2.2.2.2.2.2.2.2.2.2.2.2.2.2.2.2.2.2.2.2.2.2.2.2.2.2.2.2.2.2.2.2.2.2.2.2.2.2.2.2.1, h.2.2.2.2.2.2.2.2.2.2.2.2.2.2.2.2.2.2.2.2.2.2.2.2.2.2.2.2.2.2.2.2.2.2.2.2.2.2.2.2.2.2.2.2.2.1, h.2.2.2.2.2.2.2.2.2.2.2.2.2.2.2.2.2.2.2.2.2.2.2.2.2.2.2.2.2.2.2.2.2.2.2.2.2.2.2.2.2.2.2.2.2.2.1, h.2.2.2.2.2.2.2.2.2.2.2.2.2.2.2.2.2.2.2.2.2.2.2.2.2.2.2.2.2.2.2.2.2.2.2.2.2.2.2.2.2.2.2.2.2.2.2.1, h.2.2.2.2.2.2.2.2.2.2.2.2.2.2.2.2.2.2.2.2.2.2.2.2.2.2.2.2.2.2.2.2.2.2.2.2.2.2.2.2.2.2.2.2.2.2.2.2.1, h.2.2.2.2.2.2.2.2.2.2.2.2.2.2.2.2.2.2.2.2.2.2.2.2.2.2.2.2.2.2.2.2.2.2.2.2.2.2.2.2.2.2.2.2.2.2.2.2.2.1, h.2.2.2.2.2.2.2.2.2.2.2.2.2.2.2.2.2.2.2.2.2.2.2.2.2.2.2.2.2.2.2.2.2.2.2.2.2.2.2.2.2.2.2.2.2.2.2.2.2.2.1, h.2.2.2.2.2.2.2.2.2.2.2.2.2.2.2.2.2.2.2.2.2.2.2.2.2.2.2.2.2.2.2.2.2.2.2.2.2.2.2.2.2.2.2.2.2.2.2.2.2.2.2.1, h.2.2.2.2.2.2.2.2.2.2.2.2.2.2.2.2.2.2.2.2.2.2.2.2.2.2.2.2.2.2.2.2.2.2.2.2.2.2.2.2.2.2.2.2.2.2.2.2.2.2.2.2.1, h.2.2.2.2.2.2.2.2.2.2.2.2.2.2.2.2.2.2.2.2.2.2.2.2.2.2.2.2.2.2.2.2.2.2.2.2.2.2.2.2.2.2.2.2.2.2.2.2.2.2.2.2.2.1, h.2.2.2.2.2.2.2.2.2.2.2.2.2.2.2.2.2.2.2.2.2.2.2.2.2.2.2.2.2.2.2.2.2.2.2.2.2.2.2.2.2.2.2.2.2.2.2.2.2.2.2.2.2.2.1, h.2.2.2.2.2.2.2.2.2.2.2.2.2.2.2.2.2.2.2.2.2.2.2.2.2.2.2.2.2.2.2.2.2.2.2.2.2.2.2.2.2.2.2.2.2.2.2.2.2.2.2.2.2.2.2.1, h.2.2.2.2.2.2.2.2.2.2.2.2.2.2.2.2.2.2.2.2.2.2.2.2.2.2.2.2.2.2.2.2.2.2.2.2.2.2.2.2.2.2.2.2.2.2.2.2.2.2.2.2.2.2.2.2.1, h.2.2.2.2.2.2.2.2.2.2.2.2.2.2.2.2.2.2.2.2.2.2.2.2.2.2.2.2.2.2.2.2.2.2.2.2.2.2.2.2.2.2.2.2.2.2.2.2.2.2.2.2.2.2.2.2.2.1, h.2.2.2.2.2.2.2.2.2.2.2.2.2.2.2.2.2.2.2.2.2.2.2.2.2.2.2.2.2.2.2.2.2.2.2.2.2.2.2.2.2.2.2.2.2.2.2.2.2.2.2.2.2.2.2.2.2.2.1, h.2.2.2.2.2.2.2.2.2.2.2.2.2.2.2.2.2.2.2.2.2.2.2.2.2.2.2.2.2.2.2.2.2.2.2.2.2.2.2.2.2.2.2.2.2.2.2.2.2.2.2.2.2.2.2.2.2.2.2.1, h.2.2.2.2.2.2.2.2.2.2.2.2.2.2.2.2.2.2.2.2.2.2.2.2.2.2.2.2.2.2.2.2.2.2.2.2.2.2.2.2.2.2.2.2.2.2.2.2.2.2.2.2.2.2.2.2.2.2.2.2.1, h.2.2.2.2.2.2.2.2.2.2.2.2.2.2.2.2.2.2.2.2.2.2.2.2.2.2.2.2.2.2.2.2.2.2.2.2.2.2.2.2.2.2.2.2.2.2.2.2.2.2.2.2.2.2.2.2.2.2.2.2.2.1, h.2.2.2.2.2.2.2.2.2.2.2.2.2.2.2.2.2.2.2.2.2.2.2.2.2.2.2.2.2.2.2.2.2.2.2.2.2.2.2.2.2.2.2.2.2.2.2.2.2.2.2.2.2.2.2.2.2.2.2.2.2.2⟩
set_option maxHeartbeats 4000000 in
set_option maxRecDepth 100000 in
theorem T_X11_undo (l : Launch) (D : va_G) (cy : Nat → ClassId) (a : Nat → Nat) (u : St) (hJ : MI a u)   : Mi l D cy (mW cy a) yX11_undo (.code yX11_undo cX11_undo 1 (some .boolean)) (rmo 1 22) [.ref (a 0)] u (fun (r : Int32) (u' : St) => (r = 0 ∨ r = 1) ∧ (MI a u') ∧ (Km11 u u')) := by
  refine Mi.of (own := RX11) rfl (by decide) (Nat.le_of_ble_eq_true rfl) ?_
  have hT : Km11 u u := Km11.rf
  have hJ0 := hJ
  have hact := MI_acts hJ
  intro p e s m below meth c A Q ls C hret hO hl
  obtain ⟨hx, hb, hml, hown, ht, hK, hA⟩ := id C
  have hl : lv_has ls 1 [(0, .ref (a 0))] := hl
  refine lv_aload_n hx hb dX11_undo_0 rfl (lv_at hl 0 rfl) ?_
  have g1 : 0 ≤ (fI u 0 47).toInt ∧ (fI u 0 47).toInt ≤ 40 := by have h := MI_47 hJ0; exact h
  refine gf_RX11_389 (v := .int (fI u 0 47)) C hO 0 mW_0 rfl dX11_undo_1 ?_
  refine bs_ne (tgt := 9) (X := ((fI u 0 47)).toInt) hx hb dX11_undo_4 (by decide) rfl (fun c2 => ?_) (fun c2 => ?_)
  · refine lv_aload_n hx hb dX11_undo_9 rfl (lv_at hl 0 rfl) ?_
    refine lv_dup hx hb dX11_undo_10 rfl ?_
    refine gf_RX11_389 (v := .int (fI u 0 47)) C hO 0 mW_0 rfl dX11_undo_11 ?_
    refine lv_iconst (v := 1) hx hb dX11_undo_14 (by decide) ?_
    have e3 : (((fI u 0 47) - 1)).toInt = ((fI u 0 47)).toInt - 1 := i_sub rfl rfl (by omega)
    refine lv_isub hx hb dX11_undo_15 ?_
    refine pf_RX11_389 C hO 0 mW_0 (Nat.le_of_ble_eq_true rfl) mW_s0_47 dX11_undo_16 (fun H locs hO => ?_)
    refine lv_aload_n hx hb dX11_undo_19 rfl (lv_at hl 0 rfl) ?_
    refine lv_dup hx hb dX11_undo_20 rfl ?_
    have g4 : 0 ≤ (fI u 0 48).toInt ∧ (fI u 0 48).toInt ≤ 40 := by have h := MI_48 hJ0; exact h
    refine gf_RX11_392 (v := .int (fI u 0 48)) C hO 0 mW_0 rfl dX11_undo_21 ?_
    refine lv_iconst (v := 1) hx hb dX11_undo_24 (by decide) ?_
    have e5 : (((fI u 0 48) + 1)).toInt = ((fI u 0 48)).toInt + 1 := i_add rfl rfl (by omega)
    refine lv_iadd hx hb dX11_undo_25 ?_
    refine pf_RX11_392 C hO 0 mW_0 (Nat.le_of_ble_eq_true rfl) mW_s0_48 dX11_undo_26 (fun H locs hO => ?_)
    have hJ := MIs_4748 (v := ((fI u 0 47) - 1)) (w := ((fI u 0 48) + 1)) hJ (by omega) (by omega) (by have h := MI_acts hJ; omega) (by omega)
    refine lv_aload_n hx hb dX11_undo_29 rfl (lv_at hl 0 rfl) ?_
    refine cVv (w := mW cy a) (As := []) (rest := []) C hO (T_X11_swapAll l D cy a _ (by exact hJ) (by exact (show 1 ≤ (((fI u 0 48) + 1) : Int32).toInt from by first | omega | decide))) (cwV 0 ht (gV wd_1852 wd_1854 wd_95 wd_121 wd_1855) rfl rfl rfl hd_yX11_swapAll ⟨Nat.le_of_ble_eq_true rfl, Nat.le_of_ble_eq_true rfl⟩) 0 rfl mW_0 rfl rfl hl.1 (Nat.le_of_ble_eq_true rfl) dX11_undo_30 rfl ⟨Nat.zero_le _, Nat.zero_le _⟩ (fun u7 H locs hp8 hO => ?_)
    have g9 : 0 ≤ (fI u 0 3).toInt ∧ (fI u 0 3).toInt ≤ 1600 := by have h := MI_3 hJ0; exact h
    have g10 : 0 ≤ (fI u 0 4).toInt ∧ (fI u 0 4).toInt ≤ 5 := by have h := MI_4 hJ0; exact h
    have g11 : 0 ≤ (fI u 0 6).toInt ∧ (fI u 0 6).toInt ≤ 1600 := by have h := MI_6 hJ0; exact h
    have g12 : 0 ≤ (fI u 0 7).toInt ∧ (fI u 0 7).toInt ≤ 1601 := by have h := MI_7 hJ0; exact h
    have g13 : 0 ≤ (fI u 0 8).toInt ∧ (fI u 0 8).toInt ≤ 5 := by have h := MI_8 hJ0; exact h
    have g14 : 0 ≤ (fI u 0 36).toInt ∧ (fI u 0 36).toInt ≤ 1 := by have h := MI_36 hJ0; exact h
    have g15 : 0 ≤ (fI u 0 37).toInt ∧ (fI u 0 37).toInt ≤ 1 := by have h := MI_37 hJ0; exact h
    have g16 : 0 ≤ (fI u 0 42).toInt ∧ (fI u 0 42).toInt ≤ 5 := by have h := MI_42 hJ0; exact h
    have g17 : 0 ≤ (fI u 0 50).toInt ∧ (fI u 0 50).toInt ≤ 8 := by have h := MI_50 hJ0; exact h
    have g18 : 0 ≤ (fI u 0 61).toInt ∧ (fI u 0 61).toInt ≤ 30 := by have h := MI_61 hJ0; exact h
    have g19 : 0 ≤ (fI u 0 62).toInt ∧ (fI u 0 62).toInt ≤ 100000 := by have h := MI_62 hJ0; exact h
    obtain ⟨hJ, hTu7⟩ := hp8
    have hT : Km11 u u7 := Km11.tr (by exact hT) (Km10_to_Km11 hTu7)
    have hI_0_3_u7 : fI u7 0 3 = (fI u 0 3) := hTu7.2.1
    have hI_0_4_u7 : fI u7 0 4 = (fI u 0 4) := hTu7.2.2.1
    have hI_0_6_u7 : fI u7 0 6 = (fI u 0 6) := hTu7.2.2.2.2.1
    have hI_0_7_u7 : fI u7 0 7 = (fI u 0 7) := hTu7.2.2.2.2.2.1
    have hI_0_8_u7 : fI u7 0 8 = (fI u 0 8) := hTu7.2.2.2.2.2.2.1
    have hI_0_36_u7 : fI u7 0 36 = (fI u 0 36) := hTu7.2.2.2.2.2.2.2.2.2.1
    have hI_0_37_u7 : fI u7 0 37 = (fI u 0 37) := hTu7.2.2.2.2.2.2.2.2.2.2.1
    have hI_0_42_u7 : fI u7 0 42 = (fI u 0 42) := hTu7.2.2.2.2.2.2.2.2.2.2.2.2.2.2.2.1
    have hI_0_47_u7 : fI u7 0 47 = ((fI u 0 47) - 1) := hTu7.2.2.2.2.2.2.2.2.2.2.2.2.2.2.2.2.2.2.1
    have hI_0_48_u7 : fI u7 0 48 = ((fI u 0 48) + 1) := hTu7.2.2.2.2.2.2.2.2.2.2.2.2.2.2.2.2.2.2.2.1
    have hI_0_50_u7 : fI u7 0 50 = (fI u 0 50) := hTu7.2.2.2.2.2.2.2.2.2.2.2.2.2.2.2.2.2.2.2.2.1
    have hI_0_61_u7 : fI u7 0 61 = (fI u 0 61) := hTu7.2.2.2.2.2.2.2.2.2.2.2.2.2.2.2.2.2.2.2.2.2.1
    have hI_0_62_u7 : fI u7 0 62 = (fI u 0 62) := hTu7.2.2.2.2.2.2.2.2.2.2.2.2.2.2.2.2.2.2.2.2.2.2.1
    refine lv_iconst (v := 1) hx hb dX11_undo_33 (by decide) ?_
    refine hret _ _ _ _ _ _ dX11_undo_34 rfl ?_ hO
    exact ⟨Or.inr rfl, hJ, hT⟩
  · refine lv_iconst (v := 0) hx hb dX11_undo_7 (by decide) ?_
    refine hret _ _ _ _ _ _ dX11_undo_8 rfl ?_ hO
    exact ⟨Or.inl rfl, hJ, hT⟩
theorem dX11_redo_0 : decode cX11_redo 0 = .ok (.aload_n 0, 1) := by decide +kernel
theorem dX11_redo_1 : decode cX11_redo 1 = .ok (.getfield 392, 3) := by decide +kernel
theorem dX11_redo_4 : decode cX11_redo 4 = .ok (.ifCond .ne 5, 3) := by decide +kernel
theorem dX11_redo_7 : decode cX11_redo 7 = .ok (.iconst 0, 1) := by decide +kernel
theorem dX11_redo_8 : decode cX11_redo 8 = .ok (.ireturn, 1) := by decide +kernel
theorem dX11_redo_9 : decode cX11_redo 9 = .ok (.aload_n 0, 1) := by decide +kernel
theorem dX11_redo_10 : decode cX11_redo 10 = .ok (.invokevirtual 445, 3) := by decide +kernel
theorem dX11_redo_13 : decode cX11_redo 13 = .ok (.aload_n 0, 1) := by decide +kernel
theorem dX11_redo_14 : decode cX11_redo 14 = .ok (.dup, 1) := by decide +kernel
theorem dX11_redo_15 : decode cX11_redo 15 = .ok (.getfield 389, 3) := by decide +kernel
theorem dX11_redo_18 : decode cX11_redo 18 = .ok (.iconst 1, 1) := by decide +kernel
theorem dX11_redo_19 : decode cX11_redo 19 = .ok (.iadd, 1) := by decide +kernel
theorem dX11_redo_20 : decode cX11_redo 20 = .ok (.putfield 389, 3) := by decide +kernel
theorem dX11_redo_23 : decode cX11_redo 23 = .ok (.aload_n 0, 1) := by decide +kernel
theorem dX11_redo_24 : decode cX11_redo 24 = .ok (.dup, 1) := by decide +kernel
theorem dX11_redo_25 : decode cX11_redo 25 = .ok (.getfield 392, 3) := by decide +kernel
theorem dX11_redo_28 : decode cX11_redo 28 = .ok (.iconst 1, 1) := by decide +kernel
theorem dX11_redo_29 : decode cX11_redo 29 = .ok (.isub, 1) := by decide +kernel
theorem dX11_redo_30 : decode cX11_redo 30 = .ok (.putfield 392, 3) := by decide +kernel
theorem dX11_redo_33 : decode cX11_redo 33 = .ok (.iconst 1, 1) := by decide +kernel
theorem dX11_redo_34 : decode cX11_redo 34 = .ok (.ireturn, 1) := by decide +kernel
theorem wd_1859 : (Cond.code ⟨"WebCourtModel", "redo", "()Z"⟩ prog_13_method_82_code (1 : Nat) (Option.some FieldType.boolean)) ∈ gtb := gtb_c8 70 (by decide +kernel) rfl
set_option maxHeartbeats 4000000 in
set_option maxRecDepth 100000 in
theorem T_X11_redo (l : Launch) (D : va_G) (cy : Nat → ClassId) (a : Nat → Nat) (u : St) (hJ : MI a u)   : Mi l D cy (mW cy a) yX11_redo (.code yX11_redo cX11_redo 1 (some .boolean)) (rmo 1 22) [.ref (a 0)] u (fun (r : Int32) (u' : St) => (r = 0 ∨ r = 1) ∧ (MI a u') ∧ (Km11 u u')) := by
  refine Mi.of (own := RX11) rfl (by decide) (Nat.le_of_ble_eq_true rfl) ?_
  have hT : Km11 u u := Km11.rf
  have hJ0 := hJ
  have hact := MI_acts hJ
  intro p e s m below meth c A Q ls C hret hO hl
  obtain ⟨hx, hb, hml, hown, ht, hK, hA⟩ := id C
  have hl : lv_has ls 1 [(0, .ref (a 0))] := hl
  refine lv_aload_n hx hb dX11_redo_0 rfl (lv_at hl 0 rfl) ?_
  have g1 : 0 ≤ (fI u 0 48).toInt ∧ (fI u 0 48).toInt ≤ 40 := by have h := MI_48 hJ0; exact h
  refine gf_RX11_392 (v := .int (fI u 0 48)) C hO 0 mW_0 rfl dX11_redo_1 ?_
  refine bs_ne (tgt := 9) (X := ((fI u 0 48)).toInt) hx hb dX11_redo_4 (by decide) rfl (fun c2 => ?_) (fun c2 => ?_)
  · refine lv_aload_n hx hb dX11_redo_9 rfl (lv_at hl 0 rfl) ?_
    refine cVv (w := mW cy a) (As := []) (rest := []) C hO (T_X11_swapAll l D cy a _ (by exact hJ) (by exact (show 1 ≤ ((fI u 0 48) : Int32).toInt from by first | omega | decide))) (cwV 0 ht (gV wd_1852 wd_1854 wd_95 wd_121 wd_1855) rfl rfl rfl hd_yX11_swapAll ⟨Nat.le_of_ble_eq_true rfl, Nat.le_of_ble_eq_true rfl⟩) 0 rfl mW_0 rfl rfl hl.1 (Nat.le_of_ble_eq_true rfl) dX11_redo_10 rfl ⟨Nat.zero_le _, Nat.zero_le _⟩ (fun u4 H locs hp5 hO => ?_)
    have g6 : 0 ≤ (fI u 0 3).toInt ∧ (fI u 0 3).toInt ≤ 1600 := by have h := MI_3 hJ0; exact h
    have g7 : 0 ≤ (fI u 0 4).toInt ∧ (fI u 0 4).toInt ≤ 5 := by have h := MI_4 hJ0; exact h
    have g8 : 0 ≤ (fI u 0 6).toInt ∧ (fI u 0 6).toInt ≤ 1600 := by have h := MI_6 hJ0; exact h
    have g9 : 0 ≤ (fI u 0 7).toInt ∧ (fI u 0 7).toInt ≤ 1601 := by have h := MI_7 hJ0; exact h
    have g10 : 0 ≤ (fI u 0 8).toInt ∧ (fI u 0 8).toInt ≤ 5 := by have h := MI_8 hJ0; exact h
    have g11 : 0 ≤ (fI u 0 36).toInt ∧ (fI u 0 36).toInt ≤ 1 := by have h := MI_36 hJ0; exact h
    have g12 : 0 ≤ (fI u 0 37).toInt ∧ (fI u 0 37).toInt ≤ 1 := by have h := MI_37 hJ0; exact h
    have g13 : 0 ≤ (fI u 0 42).toInt ∧ (fI u 0 42).toInt ≤ 5 := by have h := MI_42 hJ0; exact h
    have g14 : 0 ≤ (fI u 0 47).toInt ∧ (fI u 0 47).toInt ≤ 40 := by have h := MI_47 hJ0; exact h
    have g15 : 0 ≤ (fI u 0 50).toInt ∧ (fI u 0 50).toInt ≤ 8 := by have h := MI_50 hJ0; exact h
    have g16 : 0 ≤ (fI u 0 61).toInt ∧ (fI u 0 61).toInt ≤ 30 := by have h := MI_61 hJ0; exact h
    have g17 : 0 ≤ (fI u 0 62).toInt ∧ (fI u 0 62).toInt ≤ 100000 := by have h := MI_62 hJ0; exact h
    obtain ⟨hJ, hTu4⟩ := hp5
    have hT : Km11 u u4 := Km11.tr (by exact hT) (Km10_to_Km11 hTu4)
    have hI_0_3_u4 : fI u4 0 3 = (fI u 0 3) := hTu4.2.1
    have hI_0_4_u4 : fI u4 0 4 = (fI u 0 4) := hTu4.2.2.1
    have hI_0_6_u4 : fI u4 0 6 = (fI u 0 6) := hTu4.2.2.2.2.1
    have hI_0_7_u4 : fI u4 0 7 = (fI u 0 7) := hTu4.2.2.2.2.2.1
    have hI_0_8_u4 : fI u4 0 8 = (fI u 0 8) := hTu4.2.2.2.2.2.2.1
    have hI_0_36_u4 : fI u4 0 36 = (fI u 0 36) := hTu4.2.2.2.2.2.2.2.2.2.1
    have hI_0_37_u4 : fI u4 0 37 = (fI u 0 37) := hTu4.2.2.2.2.2.2.2.2.2.2.1
    have hI_0_42_u4 : fI u4 0 42 = (fI u 0 42) := hTu4.2.2.2.2.2.2.2.2.2.2.2.2.2.2.2.1
    have hI_0_47_u4 : fI u4 0 47 = (fI u 0 47) := hTu4.2.2.2.2.2.2.2.2.2.2.2.2.2.2.2.2.2.2.1
    have hI_0_48_u4 : fI u4 0 48 = (fI u 0 48) := hTu4.2.2.2.2.2.2.2.2.2.2.2.2.2.2.2.2.2.2.2.1
    have hI_0_50_u4 : fI u4 0 50 = (fI u 0 50) := hTu4.2.2.2.2.2.2.2.2.2.2.2.2.2.2.2.2.2.2.2.2.1
    have hI_0_61_u4 : fI u4 0 61 = (fI u 0 61) := hTu4.2.2.2.2.2.2.2.2.2.2.2.2.2.2.2.2.2.2.2.2.2.1
    have hI_0_62_u4 : fI u4 0 62 = (fI u 0 62) := hTu4.2.2.2.2.2.2.2.2.2.2.2.2.2.2.2.2.2.2.2.2.2.2.1
    refine lv_aload_n hx hb dX11_redo_13 rfl (lv_at hl 0 rfl) ?_
    refine lv_dup hx hb dX11_redo_14 rfl ?_
    refine gf_RX11_389 (v := .int (fI u 0 47)) C hO 0 mW_0 (congrArg (fun z : Int32 => some (Value.int z)) hI_0_47_u4) dX11_redo_15 ?_
    refine lv_iconst (v := 1) hx hb dX11_redo_18 (by decide) ?_
    have e18 : (((fI u 0 47) + 1)).toInt = ((fI u 0 47)).toInt + 1 := i_add rfl rfl (by omega)
    refine lv_iadd hx hb dX11_redo_19 ?_
    refine pf_RX11_389 C hO 0 mW_0 (Nat.le_of_ble_eq_true rfl) mW_s0_47 dX11_redo_20 (fun H locs hO => ?_)
    refine lv_aload_n hx hb dX11_redo_23 rfl (lv_at hl 0 rfl) ?_
    refine lv_dup hx hb dX11_redo_24 rfl ?_
    refine gf_RX11_392 (v := .int (fI u 0 48)) C hO 0 mW_0 (congrArg (fun z : Int32 => some (Value.int z)) hI_0_48_u4) dX11_redo_25 ?_
    refine lv_iconst (v := 1) hx hb dX11_redo_28 (by decide) ?_
    have e19 : (((fI u 0 48) - 1)).toInt = ((fI u 0 48)).toInt - 1 := i_sub rfl rfl (by omega)
    refine lv_isub hx hb dX11_redo_29 ?_
    refine pf_RX11_392 C hO 0 mW_0 (Nat.le_of_ble_eq_true rfl) mW_s0_48 dX11_redo_30 (fun H locs hO => ?_)
    have hJ := MIs_4748 (v := ((fI u 0 47) + 1)) (w := ((fI u 0 48) - 1)) hJ (by omega) (by omega) (by have h := MI_acts hJ; omega) (by omega)
    refine lv_iconst (v := 1) hx hb dX11_redo_33 (by decide) ?_
    refine hret _ _ _ _ _ _ dX11_redo_34 rfl ?_ hO
    exact ⟨Or.inr rfl, hJ, hT⟩
  · refine lv_iconst (v := 0) hx hb dX11_redo_7 (by decide) ?_
    refine hret _ _ _ _ _ _ dX11_redo_8 rfl ?_ hO
    exact ⟨Or.inl rfl, hJ, hT⟩
def Km12 (u v : St) : Prop := fI v 0 2 = fI u 0 2 ∧ fI v 0 3 = fI u 0 3 ∧ fI v 0 4 = fI u 0 4 ∧ fI v 0 5 = fI u 0 5 ∧ fI v 0 6 = fI u 0 6 ∧ fI v 0 7 = fI u 0 7 ∧ fI v 0 8 = fI u 0 8 ∧ fI v 0 9 = fI u 0 9 ∧ fL v 0 10 = fL u 0 10 ∧ fI v 0 36 = fI u 0 36 ∧ fI v 0 37 = fI u 0 37 ∧ fI v 0 38 = fI u 0 38 ∧ fI v 0 39 = fI u 0 39 ∧ fI v 0 40 = fI u 0 40 ∧ fI v 0 41 = fI u 0 41 ∧ fI v 0 42 = fI u 0 42 ∧ fI v 0 43 = fI u 0 43 ∧ fI v 0 45 = fI u 0 45 ∧ fI v 0 47 = fI u 0 47 ∧ fI v 0 48 = fI u 0 48 ∧ fI v 0 50 = fI u 0 50 ∧ fI v 0 61 = fI u 0 61 ∧ fI v 0 62 = fI u 0 62 ∧ fA v 1 = fA u 1 ∧ fA v 2 = fA u 2 ∧ fA v 3 = fA u 3 ∧ fA v 4 = fA u 4 ∧ fA v 5 = fA u 5 ∧ fA v 6 = fA u 6 ∧ fA v 7 = fA u 7 ∧ fA v 8 = fA u 8 ∧ fA v 9 = fA u 9 ∧ fA v 10 = fA u 10 ∧ fA v 11 = fA u 11 ∧ fA v 12 = fA u 12 ∧ fA v 13 = fA u 13 ∧ fA v 14 = fA u 14 ∧ fA v 15 = fA u 15 ∧ fA v 16 = fA u 16 ∧ fA v 17 = fA u 17 ∧ fA v 18 = fA u 18 ∧ fA v 19 = fA u 19 ∧ fJ v 20 = fJ u 20 ∧ fJ v 21 = fJ u 21 ∧ fJ v 22 = fJ u 22 ∧ fA v 23 = fA u 23 ∧ fA v 24 = fA u 24 ∧ fA v 25 = fA u 25 ∧ fA v 26 = fA u 26 ∧ fA v 27 = fA u 27 ∧ fA v 28 = fA u 28 ∧ fA v 29 = fA u 29 ∧ fA v 30 = fA u 30 ∧ fA v 31 = fA u 31 ∧ fA v 32 = fA u 32 ∧ fA v 33 = fA u 33 ∧ fA v 34 = fA u 34 ∧ fA v 35 = fA u 35 ∧ fA v 36 = fA u 36 ∧ fA v 37 = fA u 37 ∧ fA v 38 = fA u 38 ∧ fA v 39 = fA u 39 ∧ fA v 40 = fA u 40
theorem Km12.rf {u : St} : Km12 u u := ⟨rfl, rfl, rfl, rfl, rfl, rfl, rfl, rfl, rfl, rfl, rfl, rfl, rfl, rfl, rfl, rfl, rfl, rfl, rfl, rfl, rfl, rfl, rfl, rfl, rfl, rfl, rfl, rfl, rfl, rfl, rfl, rfl, rfl, rfl, rfl, rfl, rfl, rfl, rfl, rfl, rfl, rfl, rfl, rfl, rfl, rfl, rfl, rfl, rfl, rfl, rfl, rfl, rfl, rfl, rfl, rfl, rfl, rfl, rfl, rfl, rfl, rfl, rfl⟩
theorem Km12.tr {u v w : St} (h1 : Km12 u v) (h2 : Km12 v w) : Km12 u w := ⟨(h2.1).trans h1.1, (h2.2.1).trans h1.2.1, (h2.2.2.1).trans h1.2.2.1, (h2.2.2.2.1).trans h1.2.2.2.1, (h2.2.2.2.2.1).trans h1.2.2.2.2.1, (h2.2.2.2.2.2.1).trans h1.2.2.2.2.2.1, (h2.2.2.2.2.2.2.1).trans h1.2.2.2.2.2.2.1, (h2.2.2.2.2.2.2.2.1).trans h1.2.2.2.2.2.2.2.1, (h2.2.2.2.2.2.2.2.2.1).trans h1.2.2.2.2.2.2.2.2.1, (h2.2.2.2.2.2.2.2.2.2.1).trans h1.2.2.2.2.2.2.2.2.2.1, (h2.2.2.2.2.2.2.2.2.2.2.1).trans h1.2.2.2.2.2.2.2.2.2.2.1, (h2.2.2.2.2.2.2.2.2.2.2.2.1).trans h1.2.2.2.2.2.2.2.2.2.2.2.1, (h2.2.2.2.2.2.2.2.2.2.2.2.2.1).trans h1.2.2.2.2.2.2.2.2.2.2.2.2.1, (h2.2.2.2.2.2.2.2.2.2.2.2.2.2.1).trans h1.2.2.2.2.2.2.2.2.2.2.2.2.2.1, (h2.2.2.2.2.2.2.2.2.2.2.2.2.2.2.1).trans h1.2.2.2.2.2.2.2.2.2.2.2.2.2.2.1, (h2.2.2.2.2.2.2.2.2.2.2.2.2.2.2.2.1).trans h1.2.2.2.2.2.2.2.2.2.2.2.2.2.2.2.1, (h2.2.2.2.2.2.2.2.2.2.2.2.2.2.2.2.2.1).trans h1.2.2.2.2.2.2.2.2.2.2.2.2.2.2.2.2.1, (h2.2.2.2.2.2.2.2.2.2.2.2.2.2.2.2.2.2.1).trans h1.2.2.2.2.2.2.2.2.2.2.2.2.2.2.2.2.2.1, (h2.2.2.2.2.2.2.2.2.2.2.2.2.2.2.2.2.2.2.1).trans h1.2.2.2.2.2.2.2.2.2.2.2.2.2.2.2.2.2.2.1, (h2.2.2.2.2.2.2.2.2.2.2.2.2.2.2.2.2.2.2.2.1).trans h1.2.2.2.2.2.2.2.2.2.2.2.2.2.2.2.2.2.2.2.1, (h2.2.2.2.2.2.2.2.2.2.2.2.2.2.2.2.2.2.2.2.2.1).trans h1.2.2.2.2.2.2.2.2.2.2.2.2.2.2.2.2.2.2.2.2.1, (h2.2.2.2.2.2.2.2.2.2.2.2.2.2.2.2.2.2.2.2.2.2.1).trans h1.2.2.2.2.2.2.2.2.2.2.2.2.2.2.2.2.2.2.2.2.2.1, (h2.2.2.2.2.2.2.2.2.2.2.2.2.2.2.2.2.2.2.2.2.2.2.1).trans h1.2.2.2.2.2.2.2.2.2.2.2.2.2.2.2.2.2.2.2.2.2.2.1, (h2.2.2.2.2.2.2.2.2.2.2.2.2.2.2.2.2.2.2.2.2.2.2.2.1).trans h1.2.2.2.2.2.2.2.2.2.2.2.2.2.2.2.2.2.2.2.2.2.2.2.1, (h2.2.2.2.2.2.2.2.2.2.2.2.2.2.2.2.2.2.2.2.2.2.2.2.2.1).trans h1.2.2.2.2.2.2.2.2.2.2.2.2.2.2.2.2.2.2.2.2.2.2.2.2.1, (h2.2.2.2.2.2.2.2.2.2.2.2.2.2.2.2.2.2.2.2.2.2.2.2.2.2.1).trans h1.2.2.2.2.2.2.2.2.2.2.2.2.2.2.2.2.2.2.2.2.2.2.2.2.2.1, (h2.2.2.2.2.2.2.2.2.2.2.2.2.2.2.2.2.2.2.2.2.2.2.2.2.2.2.1).trans h1.2.2.2.2.2.2.2.2.2.2.2.2.2.2.2.2.2.2.2.2.2.2.2.2.2.2.1, (h2.2.2.2.2.2.2.2.2.2.2.2.2.2.2.2.2.2.2.2.2.2.2.2.2.2.2.2.1).trans h1.2.2.2.2.2.2.2.2.2.2.2.2.2.2.2.2.2.2.2.2.2.2.2.2.2.2.2.1, (h2.2.2.2.2.2.2.2.2.2.2.2.2.2.2.2.2.2.2.2.2.2.2.2.2.2.2.2.2.1).trans h1.2.2.2.2.2.2.2.2.2.2.2.2.2.2.2.2.2.2.2.2.2.2.2.2.2.2.2.2.1, (h2.2.2.2.2.2.2.2.2.2.2.2.2.2.2.2.2.2.2.2.2.2.2.2.2.2.2.2.2.2.1).trans h1.2.2.2.2.2.2.2.2.2.2.2.2.2.2.2.2.2.2.2.2.2.2.2.2.2.2.2.2.2.1, (h2.2.2.2.2.2.2.2.2.2.2.2.2.2.2.2.2.2.2.2.2.2.2.2.2.2.2.2.2.2.2.1).trans h1.2.2.2.2.2.2.2.2.2.2.2.2.2.2.2.2.2.2.2.2.2.2.2.2.2.2.2.2.2.2.1, (h2.2.2.2.2.2.2.2.2.2.2.2.2.2.2.2.2.2.2.2.2.2.2.2.2.2.2.2.2.2.2.2.1).trans h1.2.2.2.2.2.2.2.2.2.2.2.2.2.2.2.2.2.2.2.2.2.2.2.2.2.2.2.2.2.2.2.1, (h2.2.2.2.2.2.2.2.2.2.2.2.2.2.2.2.2.2.2.2.2.2.2.2.2.2.2.2.2.2.2.2.2.1).trans h1.2.2.2.2.2.2.2.2.2.2.2.2.2.2.2.2.2.2.2.2.2.2.2.2.2.2.2.2.2.2.2.2.1, (h2.2.2.2.2.2.2.2.2.2.2.2.2.2.2.2.2.2.2.2.2.2.2.2.2.2.2.2.2.2.2.2.2.2.1).trans h1.2.2.2.2.2.2.2.2.2.2.2.2.2.2.2.2.2.2.2.2.2.2.2.2.2.2.2.2.2.2.2.2.2.1, (h2.2.2.2.2.2.2.2.2.2.2.2.2.2.2.2.2.2.2.2.2.2.2.2.2.2.2.2.2.2.2.2.2.2.2.1).trans h1.2.2.2.2.2.2.2.2.2.2.2.2.2.2.2.2.2.2.2.2.2.2.2.2.2.2.2.2.2.2.2.2.2.2.1, (h2.2.2.2.2.2.2.2.2.2.2.2.2.2.2.2.2.2.2.2.2.2.2.2.2.2.2.2.2.2.2.2.2.2.2.2.1).trans h1.2.2.2.2.2.2.2.2.2.2.2.2.2.2.2.2.2.2.2.2.2.2.2.2.2.2.2.2.2.2.2.2.2.2.2.1, (h2.2.2.2.2.2.2.2.2.2.2.2.2.2.2.2.2.2.2.2.2.2.2.2.2.2.2.2.2.2.2.2.2.2.2.2.2.1).trans h1.2.2.2.2.2.2.2.2.2.2.2.2.2.2.2.2.2.2.2.2.2.2.2.2.2.2.2.2.2.2.2.2.2.2.2.2.1, (h2.2.2.2.2.2.2.2.2.2.2.2.2.2.2.2.2.2.2.2.2.2.2.2.2.2.2.2.2.2.2.2.2.2.2.2.2.2.1).trans h1.2.2.2.2.2.2.2.2.2.2.2.2.2.2.2.2.2.2.2.2.2.2.2.2.2.2.2.2.2.2.2.2.2.2.2.2.2.1, (h2.2.2.2.2.2.2.2.2.2.2.2.2.2.2.2.2.2.2.2.2.2.2.2.2.2.2.2.2.2.2.2.2.2.2.2.2.2.2.1).trans h1.2.2.2.2.2.2.2.2.2.2.2.2.2.2.2.2.2.2.2.2.2.2.2.2.2.2.2.2.2.2.2.2.2.2.2.2.2.2.1, (h2.2.2.2.2.2.2.2.2.2.2.2.2.2.2.2.2.2.2.2.2.2.2.2.2.2.2.2.2.2.2.2.2.2.2.2.2.2.2.2.1).trans h1.2.2.2.2.2.2.2.2.2.2.2.2.2.2.2.2.2.2.2.2.2.2.2.2.2.2.2.2.2.2.2.2.2.2.2.2.2.2.2.1, (h2.2.2.2.2.2.2.2.2.2.2.2.2.2.2.2.2.2.2.2.2.2.2.2.2.2.2.2.2.2.2.2.2.2.2.2.2.2.2.2.2.1).trans h1.2.2.2.2.2.2.2.2.2.2.2.2.2.2.2.2.2.2.2.2.2.2.2.2.2.2.2.2.2.2.2.2.2.2.2.2.2.2.2.2.1, (h2.2.2.2.2.2.2.2.2.2.2.2.2.2.2.2.2.2.2.2.2.2.2.2.2.2.2.2.2.2.2.2.2.2.2.2.2.2.2.2.2.2.1).trans h1.2.2.2.2.2.2.2.2.2.2.2.2.2.2.2.2.2.2.2.2.2.2.2.2.2.2.2.2.2.2.2.2.2.2.2.2.2.2.2.2.2.1, (h2.2.2.2.2.2.2.2.2.2.2.2.2.2.2.2.2.2.2.2.2.2.2.2.2.2.2.2.2.2.2.2.2.2.2.2.2.2.2.2.2.2.2.1).trans h1.2.2.2.2.2.2.2.2.2.2.2.2.2.2.2.2.2.2.2.2.2.2.2.2.2.2.2.2.2.2.2.2.2.2.2.2.2.2.2.2.2.2.1, (h2.2.2.2.2.2.2.2.2.2.2.2.2.2.2.2.2.2.2.2.2.2.2.2.2.2.2.2.2.2.2.2.2.2.2.2.2.2.2.2.2.2.2.2.1).trans h1.2.2.2.2.2.2.2.2.2.2.2.2.2.2.2.2.2.2.2.2.2.2.2.2.2.2.2.2.2.2.2.2.2.2.2.2.2.2.2.2.2.2.2.1, (h2.2.2.2.2.2.2.2.2.2.2.2.2.2.2.2.2.2.2.2.2.2.2.2.2.2.2.2.2.2.2.2.2.2.2.2.2.2.2.2.2.2.2.2.2.1).trans h1.2.2.2.2.2.2.2.2.2.2.2.2.2.2.2.2.2.2.2.2.2.2.2.2.2.2.2.2.2.2.2.2.2.2.2.2.2.2.2.2.2.2.2.2.1, (h2.2.2.2.2.2.2.2.2.2.2.2.2.2.2.2.2.2.2.2.2.2.2.2.2.2.2.2.2.2.2.2.2.2.2.2.2.2.2.2.2.2.2.2.2.2.1).trans h1.2.2.2.2.2.2.2.2.2.2.2.2.2.2.2.2.2.2.2.2.2.2.2.2.2.2.2.2.2.2.2.2.2.2.2.2.2.2.2.2.2.2.2.2.2.1, (h2.2.2.2.2.2.2.2.2.2.2.2.2.2.2.2.2.2.2.2.2.2.2.2.2.2.2.2.2.2.2.2.2.2.2.2.2.2.2.2.2.2.2.2.2.2.2.1).trans h1.2.2.2.2.2.2.2.2.2.2.2.2.2.2.2.2.2.2.2.2.2.2.2.2.2.2.2.2.2.2.2.2.2.2.2.2.2.2.2.2.2.2.2.2.2.2.1, (h2.2.2.2.2.2.2.2.2.2.2.2.2.2.2.2.2.2.2.2.2.2.2.2.2.2.2.2.2.2.2.2.2.2.2.2.2.2.2.2.2.2.2.2.2.2.2.2.1).trans h1.2.2.2.2.2.2.2.2.2.2.2.2.2.2.2.2.2.2.2.2.2.2.2.2.2.2.2.2.2.2.2.2.2.2.2.2.2.2.2.2.2.2.2.2.2.2.2.1, (h2.2.2.2.2.2.2.2.2.2.2.2.2.2.2.2.2.2.2.2.2.2.2.2.2.2.2.2.2.2.2.2.2.2.2.2.2.2.2.2.2.2.2.2.2.2.2.2.2.1).trans h1.2.2.2.2.2.2.2.2.2.2.2.2.2.2.2.2.2.2.2.2.2.2.2.2.2.2.2.2.2.2.2.2.2.2.2.2.2.2.2.2.2.2.2.2.2.2.2.2.1, (h2.2.2.2.2.2.2.2.2.2.2.2.2.2.2.2.2.2.2.2.2.2.2.2.2.2.2.2.2.2.2.2.2.2.2.2.2.2.2.2.2.2.2.2.2.2.2.2.2.2.1).trans h1.2.2.2.2.2.2.2.2.2.2.2.2.2.2.2.2.2.2.2.2.2.2.2.2.2.2.2.2.2.2.2.2.2.2.2.2.2.2.2.2.2.2.2.2.2.2.2.2.2.1, (h2.2.2.2.2.2.2.2.2.2.2.2.2.2.2.2.2.2.2.2.2.2.2.2.2.2.2.2.2.2.2.2.2.2.2.2.2.2.2.2.2.2.2.2.2.2.2.2.2.2.2.1).trans h1.2.2.2.2.2.2.2.2.2.2.2.2.2.2.2.2.2.2.2.2.2.2.2.2.2.2.2.2.2.2.2.2.2.2.2.2.2.2.2.2.2.2.2.2.2.2.2.2.2.2.1, (h2.2.2.2.2.2.2.2.2.2.2.2.2.2.2.2.2.2.2.2.2.2.2.2.2.2.2.2.2.2.2.2.2.2.2.2.2.2.2.2.2.2.2.2.2.2.2.2.2.2.2.2.1).trans h1.2.2.2.2.2.2.2.2.2.2.2.2.2.2.2.2.2.2.2.2.2.2.2.2.2.2.2.2.2.2.2.2.2.2.2.2.2.2.2.2.2.2.2.2.2.2.2.2.2.2.2.1, (h2.2.2.2.2.2.2.2.2.2.2.2.2.2.2.2.2.2.2.2.2.2.2.2.2.2.2.2.2.2.2.2.2.2.2.2.2.2.2.2.2.2.2.2.2.2.2.2.2.2.2.2.2.1).trans h1.2.2.2.2.2.2.2.2.2.2.2.2.2.2.2.2.2.2.2.2.2.2.2.2.2.2.2.2.2.2.2.2.2.2.2.2.2.2.2.2.2.2.2.2.2.2.2.2.2.2.2.2.1, (h2.2.2.2.2.2.2.2.2.2.2.2.2.2.2.2.2.2.2.2.2.2.2.2.2.2.2.2.2.2.2.2.2.2.2.2.2.2.2.2.2.2.2.2.2.2.2.2.2.2.2.2.2.2.1).trans h1.2.2.2.2.2.2.2.2.2.2.2.2.2.2.2.2.2.2.2.2.2.2.2.2.2.2.2.2.2.2.2.2.2.2.2.2.2.2.2.2.2.2.2.2.2.2.2.2.2.2.2.2.2.1, (h2.2.2.2.2.2.2.2.2.2.2.2.2.2.2.2.2.2.2.2.2.2.2.2.2.2.2.2.2.2.2.2.2.2.2.2.2.2.2.2.2.2.2.2.2.2.2.2.2.2.2.2.2.2.2.1).trans h1.2.2.2.2.2.2.2.2.2.2.2.2.2.2.2.2.2.2.2.2.2.2.2.2.2.2.2.2.2.2.2.2.2.2.2.2.2.2.2.2.2.2.2.2.2.2.2.2.2.2.2.2.2.2.1, (h2.2.2.2.2.2.2.2.2.2.2.2.2.2.2.2.2.2.2.2.2.2.2.2.2.2.2.2.2.2.2.2.2.2.2.2.2.2.2.2.2.2.2.2.2.2.2.2.2.2.2.2.2.2.2.2.1).trans h1.2.2.2.2.2.2.2.2.2.2.2.2.2.2.2.2.2.2.2.2.2.2.2.2.2.2.2.2.2.2.2.2.2.2.2.2.2.2.2.2.2.2.2.2.2.2.2.2.2.2.2.2.2.2.2.1, (h2.2.2.2.2.2.2.2.2.2.2.2.2.2.2.2.2.2.2.2.2.2.2.2.2.2.2.2.2.2.2.2.2.2.2.2.2.2.2.2.2.2.2.2.2.2.2.2.2.2.2.2.2.2.2.2.2.1).trans h1.2.2.2.2.2.2.2.2.2.2.2.2.2.2.2.2.2.2.2.2.2.2.2.2.2.2.2.2.2.2.2.2.2.2.2.2.2.2.2.2.2.2.2.2.2.2.2.2.2.2.2.2.2.2.2.2.1, (h2.2.2.2.2.2.2.2.2.2.2.2.2.2.2.2.2.2.2.2.2.2.2.2.2.2.2.2.2.2.2.2.2.2.2.2.2.2.2.2.2.2.2.2.2.2.2.2.2.2.2.2.2.2.2.2.2.2.1).trans h1.2.2.2.2.2.2.2.2.2.2.2.2.2.2.2.2.2.2.2.2.2.2.2.2.2.2.2.2.2.2.2.2.2.2.2.2.2.2.2.2.2.2.2.2.2.2.2.2.2.2.2.2.2.2.2.2.2.1, (h2.2.2.2.2.2.2.2.2.2.2.2.2.2.2.2.2.2.2.2.2.2.2.2.2.2.2.2.2.2.2.2.2.2.2.2.2.2.2.2.2.2.2.2.2.2.2.2.2.2.2.2.2.2.2.2.2.2.2.1).trans h1.2.2.2.2.2.2.2.2.2.2.2.2.2.2.2.2.2.2.2.2.2.2.2.2.2.2.2.2.2.2.2.2.2.2.2.2.2.2.2.2.2.2.2.2.2.2.2.2.2.2.2.2.2.2.2.2.2.2.1, (h2.2.2.2.2.2.2.2.2.2.2.2.2.2.2.2.2.2.2.2.2.2.2.2.2.2.2.2.2.2.2.2.2.2.2.2.2.2.2.2.2.2.2.2.2.2.2.2.2.2.2.2.2.2.2.2.2.2.2.2.1).trans h1.2.2.2.2.2.2.2.2.2.2.2.2.2.2.2.2.2.2.2.2.2.2.2.2.2.2.2.2.2.2.2.2.2.2.2.2.2.2.2.2.2.2.2.2.2.2.2.2.2.2.2.2.2.2.2.2.2.2.2.1, (h2.2.2.2.2.2.2.2.2.2.2.2.2.2.2.2.2.2.2.2.2.2.2.2.2.2.2.2.2.2.2.2.2.2.2.2.2.2.2.2.2.2.2.2.2.2.2.2.2.2.2.2.2.2.2.2.2.2.2.2.2.1).trans h1.2.2.2.2.2.2.2.2.2.2.2.2.2.2.2.2.2.2.2.2.2.2.2.2.2.2.2.2.2.2.2.2.2.2.2.2.2.2.2.2.2.2.2.2.2.2.2.2.2.2.2.2.2.2.2.2.2.2.2.2.1, (h2.2.2.2.2.2.2.2.2.2.2.2.2.2.2.2.2.2.2.2.2.2.2.2.2.2.2.2.2.2.2.2.2.2.2.2.2.2.2.2.2.2.2.2.2.2.2.2.2.2.2.2.2.2.2.2.2.2.2.2.2.2.1).trans h1.2.2.2.2.2.2.2.2.2.2.2.2.2.2.2.2.2.2.2.2.2.2.2.2.2.2.2.2.2.2.2.2.2.2.2.2.2.2.2.2.2.2.2.2.2.2.2.2.2.2.2.2.2.2.2.2.2.2.2.2.2.1, (h2.2.2.2.2.2.2.2.2.2.2.2.2.2.2.2.2.2.2.2.2.2.2.2.2.2.2.2.2.2.2.2.2.2.2.2.2.2.2.2.2.2.2.2.2.2.2.2.2.2.2.2.2.2.2.2.2.2.2.2.2.2.2).trans h1.2.2.2.2.2.2.2.2.2.2.2.2.2.2.2.2.2.2.2.2.2.2.2.2.2.2.2.2.2.2.2.2.2.2.2.2.2.2.2.2.2.2.2.2.2.2.2.2.2.2.2.2.2.2.2.2.2.2.2.2.2.2⟩
theorem dX11_image_0 : decode cX11_image 0 = .ok (.iload_n 1, 1) := by decide +kernel
theorem dX11_image_1 : decode cX11_image 1 = .ok (.iconst 0, 1) := by decide +kernel
theorem dX11_image_2 : decode cX11_image 2 = .ok (.iconst 2, 1) := by decide +kernel
theorem dX11_image_3 : decode cX11_image 3 = .ok (.invokestatic 374, 3) := by decide +kernel
theorem dX11_image_6 : decode cX11_image 6 = .ok (.ifCond .ne 5, 3) := by decide +kernel
theorem dX11_image_9 : decode cX11_image 9 = .ok (.iconst (-1), 1) := by decide +kernel
theorem dX11_image_10 : decode cX11_image 10 = .ok (.ireturn, 1) := by decide +kernel
theorem dX11_image_11 : decode cX11_image 11 = .ok (.iconst 0, 1) := by decide +kernel
theorem dX11_image_12 : decode cX11_image 12 = .ok (.istore_n 2, 1) := by decide +kernel
theorem dX11_image_13 : decode cX11_image 13 = .ok (.iload_n 2, 1) := by decide +kernel
theorem dX11_image_14 : decode cX11_image 14 = .ok (.bipush 29, 2) := by decide +kernel
theorem dX11_image_16 : decode cX11_image 16 = .ok (.if_icmp .ge 26, 3) := by decide +kernel
theorem dX11_image_19 : decode cX11_image 19 = .ok (.aload_n 0, 1) := by decide +kernel
theorem dX11_image_20 : decode cX11_image 20 = .ok (.getfield 139, 3) := by decide +kernel
theorem dX11_image_23 : decode cX11_image 23 = .ok (.bipush 29, 2) := by decide +kernel
theorem dX11_image_25 : decode cX11_image 25 = .ok (.iload_n 1, 1) := by decide +kernel
theorem dX11_image_26 : decode cX11_image 26 = .ok (.imul, 1) := by decide +kernel
theorem dX11_image_27 : decode cX11_image 27 = .ok (.iload_n 2, 1) := by decide +kernel
theorem dX11_image_28 : decode cX11_image 28 = .ok (.iadd, 1) := by decide +kernel
theorem dX11_image_29 : decode cX11_image 29 = .ok (.aload_n 0, 1) := by decide +kernel
theorem dX11_image_30 : decode cX11_image 30 = .ok (.getfield 97, 3) := by decide +kernel
theorem dX11_image_33 : decode cX11_image 33 = .ok (.iload_n 2, 1) := by decide +kernel
theorem dX11_image_34 : decode cX11_image 34 = .ok (.iaload, 1) := by decide +kernel
theorem dX11_image_35 : decode cX11_image 35 = .ok (.iastore, 1) := by decide +kernel
theorem dX11_image_36 : decode cX11_image 36 = .ok (.iinc 2 1, 3) := by decide +kernel
theorem dX11_image_39 : decode cX11_image 39 = .ok (.goto (-26), 3) := by decide +kernel
theorem dX11_image_42 : decode cX11_image 42 = .ok (.aload_n 0, 1) := by decide +kernel
theorem dX11_image_43 : decode cX11_image 43 = .ok (.getfield 142, 3) := by decide +kernel
theorem dX11_image_46 : decode cX11_image 46 = .ok (.iload_n 1, 1) := by decide +kernel
theorem dX11_image_47 : decode cX11_image 47 = .ok (.iconst 1, 1) := by decide +kernel
theorem dX11_image_48 : decode cX11_image 48 = .ok (.bastore, 1) := by decide +kernel
theorem dX11_image_49 : decode cX11_image 49 = .ok (.aload_n 0, 1) := by decide +kernel
theorem dX11_image_50 : decode cX11_image 50 = .ok (.getfield 97, 3) := by decide +kernel
theorem dX11_image_53 : decode cX11_image 53 = .ok (.bipush 25, 2) := by decide +kernel
theorem dX11_image_55 : decode cX11_image 55 = .ok (.iaload, 1) := by decide +kernel
theorem dX11_image_56 : decode cX11_image 56 = .ok (.ireturn, 1) := by decide +kernel
theorem wd_2019 : (Cond.code ⟨"WebCourtModel", "image", "(I)I"⟩ prog_13_method_120_code (3 : Nat) (Option.some FieldType.int)) ∈ gtb := gtb_c8 230 (by decide +kernel) rfl
theorem wd_1420 : (Cond.fieldLink "WebCourtModel" (142 : Nat) "WebCourtModel" "isBoxed" "[Z") ∈ gtb := gtb_c6 111 (by decide +kernel) rfl
theorem gf_RX11_142 {p : Program} {l : Launch} {e : Env} {R : Room} {s : State} {m : MethodId} {args : Array Value} {below : List Frame} {meth : Method} {c : Code} {H : Heap} {locs : List Loc} {cells slots : Nat} {Q : State → Prop} {cc : ByteArray} {pc nL : Nat} {ls : Array Slot} {rest : List Value} {D : va_G} {cy : Nat → ClassId} {A : Nat → Prop} {ws : va_W} {b : Nat} {fs : List Value} {v : Value} (C : Cx p s m args c cc nL RX11 D cy A) (hO : Wo D A ws s.heap H locs) (q0 : Nat) (he : ws[q0]? = some (b, .inr (11, fs))) (hv : fs[64]? = some v) (hdg : decode cc pc = .ok (.getfield 142, 3)) (kk : W p l e R s m args below meth c H locs cells slots Q (F0 m (pc + 3) ls (v :: rest))) : W p l e R s m args below meth c H locs cells slots Q (F0 m pc ls (.ref b :: rest)) := gF (k := 64) C hO q0 he rfl inFX11 (by decide) wd_1420 rfl hv hdg kk
theorem Km12_A3 {u v : St} (h : Km12 u v) : fA v 3 = fA u 3 := h.2.2.2.2.2.2.2.2.2.2.2.2.2.2.2.2.2.2.2.2.2.2.2.2.2.1
theorem Km12_I36 {u v : St} (h : Km12 u v) : fI v 0 36 = fI u 0 36 := h.2.2.2.2.2.2.2.2.2.1
theorem Km12_A28 {u v : St} (h : Km12 u v) : fA v 28 = fA u 28 := h.2.2.2.2.2.2.2.2.2.2.2.2.2.2.2.2.2.2.2.2.2.2.2.2.2.2.2.2.2.2.2.2.2.2.2.2.2.2.2.2.2.2.2.2.2.2.2.2.2.2.1
theorem wd_1419 : (Cond.fieldLink "WebCourtModel" (139 : Nat) "WebCourtModel" "boxAll" "[I") ∈ gtb := gtb_c6 110 (by decide +kernel) rfl
theorem gf_RX11_139 {p : Program} {l : Launch} {e : Env} {R : Room} {s : State} {m : MethodId} {args : Array Value} {below : List Frame} {meth : Method} {c : Code} {H : Heap} {locs : List Loc} {cells slots : Nat} {Q : State → Prop} {cc : ByteArray} {pc nL : Nat} {ls : Array Slot} {rest : List Value} {D : va_G} {cy : Nat → ClassId} {A : Nat → Prop} {ws : va_W} {b : Nat} {fs : List Value} {v : Value} (C : Cx p s m args c cc nL RX11 D cy A) (hO : Wo D A ws s.heap H locs) (q0 : Nat) (he : ws[q0]? = some (b, .inr (11, fs))) (hv : fs[63]? = some v) (hdg : decode cc pc = .ok (.getfield 139, 3)) (kk : W p l e R s m args below meth c H locs cells slots Q (F0 m (pc + 3) ls (v :: rest))) : W p l e R s m args below meth c H locs cells slots Q (F0 m pc ls (.ref b :: rest)) := gF (k := 63) C hO q0 he rfl inFX11 (by decide) wd_1419 rfl hv hdg kk
set_option maxHeartbeats 4000000 in
set_option maxRecDepth 100000 in
theorem T_X11_image (l : Launch) (D : va_G) (cy : Nat → ClassId) (a : Nat → Nat) (u : St) (hJ : MI a u) (x1 : Int32)  : Mi l D cy (mW cy a) yX11_image (.code yX11_image cX11_image 3 (some .int)) (rmo 1 22) [.ref (a 0), .int x1] u (fun (r : Int32) (u' : St) => (MI a u') ∧ (Km12 u u')) := by
  refine Mi.of (own := RX11) rfl (by decide) (Nat.le_of_ble_eq_true rfl) ?_
  have hT : Km12 u u := Km12.rf
  have hJ0 := hJ
  intro p e s m below meth c A Q ls C hret hO hl
  obtain ⟨hx, hb, hml, hown, ht, hK, hA⟩ := id C
  have hl : lv_has ls 3 [(0, .ref (a 0)), (1, .int x1)] := hl
  refine lv_iload_n hx hb dX11_image_0 rfl (lv_at hl 1 rfl) ?_
  refine lv_iconst (v := 0) hx hb dX11_image_1 (by decide) ?_
  refine lv_iconst (v := 2) hx hb dX11_image_2 (by decide) ?_
  refine cSi (w := mW cy a) (As := [.int x1, .int 0, .int 2]) (rest := []) C hO (T_X11_isIn l D cy a _ (by exact hJ) (x1) (0) (2)) (va_cwS 3 ht (gSS wd_1722 wd_1723 wd_121 wd_1724) rfl rfl rfl hd_yX11_isIn ⟨Nat.le_of_ble_eq_true rfl, Nat.le_of_ble_eq_true rfl⟩)  rfl hl.1 (Nat.le_of_ble_eq_true rfl) dX11_image_3 rfl ⟨Nat.zero_le _, Nat.zero_le _⟩ (fun r1 u2 H locs hp3 hO => ?_)
  obtain ⟨hr1, hu2⟩ := hp3
  rw [hu2] at hO
  have zz4 : (0 : Int32).toInt = 0 := rfl
  have zz5 : (2 : Int32).toInt = 2 := rfl
  rcases hr1 with ⟨hcr1, hvr1⟩ | ⟨hcr1, hvr1⟩
  · subst hvr1
    refine bt_ne (tgt := 11) (X := 1) hx hb dX11_image_6 (by decide) rfl (by omega) ?_
    refine lv_iconst (v := 0) hx hb dX11_image_11 (by decide) ?_
    refine lv_istore_n (lv' := [(2, .int 0), (0, .ref (a 0)), (1, .int x1)]) hx hb dX11_image_12 rfl hl (by decide) rfl (fun ls hl => ?_)
    have LP_13_k7 : ∀ (n : Nat) (u6 : St) (H : Heap) (locs : List Loc) (ls : Array Slot) (i_k7 : Int32), Wo D A (mW cy a u6) s.heap H locs → lv_has ls 3 [(2, .int i_k7), (0, .ref (a 0)), (1, .int x1)] → MI a u6 → Km12 u u6 → 0 ≤ i_k7.toInt ∧ i_k7.toInt ≤ 29 → (25 ≤ i_k7.toInt → Sh (kN u) (fA u6 41 (29 * x1.toNatClampNeg + 24))) → 29 - i_k7.toInt < (n : Int) → W p l e (rmo 1 22) s m [.ref (a 0), .int x1].toArray below meth c H locs 0 0 Q (F0 m 13 ls []) := by
      intro n
      induction n with
      | zero =>
        intro u6 H locs ls i_k7 hO hl hJ hT iv0_k7 cv0_k7 hm_k7
        exact absurd hm_k7 (by omega)
      | succ n ih_k7 =>
        intro u6 H locs ls i_k7 hO hl hJ hT iv0_k7 cv0_k7 hm_k7
        refine lv_iload_n hx hb dX11_image_13 rfl (lv_at hl 0 rfl) ?_
        refine lv_bipush (v := 29) hx hb dX11_image_14 (by decide) ?_
        refine cs_ge (tgt := 42) (X := (i_k7).toInt) (Y := 29) hx hb dX11_image_16 (by decide) rfl rfl (fun c8 => ?_) (fun c8 => ?_)
        · refine lv_aload_n hx hb dX11_image_42 rfl (lv_at hl 1 rfl) ?_
          refine gf_RX11_142 (v := .ref (a 42)) C hO 0 mW_0 rfl dX11_image_43 ?_
          refine lv_iload_n hx hb dX11_image_46 rfl (lv_at hl 2 rfl) ?_
          refine lv_iconst (v := 1) hx hb dX11_image_47 (by decide) ?_
          refine aZs C hO 42 mW_42 (i_in (X := (x1).toInt) rfl (by omega) (by omega)) mW_s42 dX11_image_48 (fun H locs hO => ?_)
          have hJ := MIsA_42 hO hJ (fun _ _ => by rw [show kN _ = kN u from (kN_eq (Km12_A3 hT) (Km12_I36 hT))]; exact cv0_k7 (by omega))
          refine lv_aload_n hx hb dX11_image_49 rfl (lv_at hl 1 rfl) ?_
          refine gf_RX11_97 (v := .ref (a 28)) C hO 0 mW_0 rfl dX11_image_50 ?_
          refine lv_bipush (v := 25) hx hb dX11_image_53 (by decide) ?_
          refine aI C hO 28 mW_28 (i_in (X := 25) rfl (by omega) (by omega)) dX11_image_55 ?_
          refine tE (y := (fA u 28 25)) (by exact (congrFun (Km12_A28 hT) _)) ?_
          refine hret _ _ _ _ _ _ dX11_image_56 rfl ?_ hO
          exact ⟨hJ, hT⟩
        · refine lv_aload_n hx hb dX11_image_19 rfl (lv_at hl 1 rfl) ?_
          refine gf_RX11_139 (v := .ref (a 41)) C hO 0 mW_0 rfl dX11_image_20 ?_
          refine lv_bipush (v := 29) hx hb dX11_image_23 (by decide) ?_
          refine lv_iload_n hx hb dX11_image_25 rfl (lv_at hl 2 rfl) ?_
          have e9 : ((29 * x1)).toInt = 29 * (x1).toInt := i_mul rfl rfl (by omega)
          refine lv_imul hx hb dX11_image_26 ?_
          refine lv_iload_n hx hb dX11_image_27 rfl (lv_at hl 0 rfl) ?_
          have e10 : (((29 * x1) + i_k7)).toInt = (29 * (x1).toInt) + (i_k7).toInt := i_add e9 rfl (by omega)
          refine lv_iadd hx hb dX11_image_28 ?_
          refine lv_aload_n hx hb dX11_image_29 rfl (lv_at hl 1 rfl) ?_
          refine gf_RX11_97 (v := .ref (a 28)) C hO 0 mW_0 rfl dX11_image_30 ?_
          refine lv_iload_n hx hb dX11_image_33 rfl (lv_at hl 0 rfl) ?_
          refine aI C hO 28 mW_28 (i_in (X := (i_k7).toInt) rfl (by omega) (by omega)) dX11_image_34 ?_
          refine tE (y := (fA u 28 (i_k7).toNatClampNeg)) (by exact (congrFun (Km12_A28 hT) _)) ?_
          refine aIs C hO 41 mW_41 (i_in (X := ((29 * (x1).toInt) + (i_k7).toInt)) e10 (by omega) (by omega)) mW_s41 dX11_image_35 (fun H locs hO => ?_)
          have hsv : i_k7.toInt = 24 → Sh (kN u) (fA u 28 (i_k7).toNatClampNeg) := fun h => she_at hJ0 rfl h rfl
          have hJ := MIsA_41 hO hJ (fun b _ hi => by rw [show kN _ = kN u from (kN_eq (Km12_A3 hT) (Km12_I36 hT))]; exact hsv (no_row (A := x1) (k := i_k7) (y := ((29 * x1) + i_k7)) (by omega) (by omega) (by omega) (by omega) hi))
          have hq := kp3 (P := Sh (kN u)) (A := x1) (k := i_k7) (v := (fA u 28 (i_k7).toNatClampNeg)) (i := (((29 * x1) + i_k7)).toNatClampNeg) cv0_k7 (by omega) (by omega) (by omega) (i_row (by omega) (by omega) (by omega)) hsv
          have e11 : ((i_k7 + 1)).toInt = (i_k7).toInt + 1 := i_add rfl rfl (by omega)
          refine lv_iinc (v := (i_k7 + 1)) (lv' := [(2, .int (i_k7 + 1)), (0, .ref (a 0)), (1, .int x1)]) hx hb dX11_image_36 hl (k := 0) rfl rfl (by decide) rfl (fun ls hl => ?_)
          refine lv_goto (tgt := 13) hx hb dX11_image_39 (by decide) ?_
          exact ih_k7 _ _ _ _ ((i_k7 + 1)) hO (lv_sub hl [0, 1, 2] rfl) (by exact hJ) (by exact hT) (by first | decide | omega) (by exact fun h => hq (by omega)) (by first | decide | omega)
    have zc12 : (0 : Int32).toInt = 0 := rfl
    exact LP_13_k7 4000 _ _ _ _ (0) hO (lv_sub hl [0, 1, 2] rfl) (by exact hJ) (by exact hT) (by first | decide | omega) (by exact fun h => absurd h (by decide)) (by first | decide | omega)
  · subst hvr1
    refine bn_ne (X := 0) hx hb dX11_image_6 rfl (by omega) ?_ (tgt := 11) (by decide)
    refine lv_iconst (v := (-1)) hx hb dX11_image_9 (by decide) ?_
    refine hret _ _ _ _ _ _ dX11_image_10 rfl ?_ hO
    exact ⟨hJ, hT⟩
def Km13 (u v : St) : Prop := fI v 0 2 = fI u 0 2 ∧ fI v 0 3 = fI u 0 3 ∧ fI v 0 4 = fI u 0 4 ∧ fI v 0 5 = fI u 0 5 ∧ fI v 0 6 = fI u 0 6 ∧ fI v 0 7 = fI u 0 7 ∧ fI v 0 8 = fI u 0 8 ∧ fI v 0 9 = fI u 0 9 ∧ fL v 0 10 = fL u 0 10 ∧ fI v 0 36 = fI u 0 36 ∧ fI v 0 37 = fI u 0 37 ∧ fI v 0 38 = fI u 0 38 ∧ fI v 0 39 = fI u 0 39 ∧ fI v 0 40 = fI u 0 40 ∧ fI v 0 41 = fI u 0 41 ∧ fI v 0 42 = fI u 0 42 ∧ fI v 0 43 = fI u 0 43 ∧ fI v 0 45 = fI u 0 45 ∧ fI v 0 50 = fI u 0 50 ∧ fI v 0 61 = fI u 0 61 ∧ fI v 0 62 = fI u 0 62 ∧ fA v 1 = fA u 1 ∧ fA v 2 = fA u 2 ∧ fA v 3 = fA u 3 ∧ fA v 4 = fA u 4 ∧ fA v 5 = fA u 5 ∧ fA v 6 = fA u 6 ∧ fA v 7 = fA u 7 ∧ fA v 8 = fA u 8 ∧ fA v 9 = fA u 9 ∧ fA v 10 = fA u 10 ∧ fA v 11 = fA u 11 ∧ fA v 12 = fA u 12 ∧ fA v 13 = fA u 13 ∧ fA v 14 = fA u 14 ∧ fA v 15 = fA u 15 ∧ fA v 16 = fA u 16 ∧ fA v 17 = fA u 17 ∧ fA v 18 = fA u 18 ∧ fA v 19 = fA u 19 ∧ fJ v 20 = fJ u 20 ∧ fJ v 21 = fJ u 21 ∧ fJ v 22 = fJ u 22 ∧ fA v 23 = fA u 23 ∧ fA v 24 = fA u 24 ∧ fA v 25 = fA u 25 ∧ fA v 26 = fA u 26 ∧ fA v 27 = fA u 27 ∧ fA v 29 = fA u 29 ∧ fA v 30 = fA u 30 ∧ fA v 31 = fA u 31 ∧ fA v 32 = fA u 32 ∧ fA v 33 = fA u 33 ∧ fA v 34 = fA u 34 ∧ fA v 35 = fA u 35 ∧ fA v 36 = fA u 36 ∧ fA v 37 = fA u 37 ∧ fA v 38 = fA u 38 ∧ fA v 39 = fA u 39 ∧ fA v 40 = fA u 40 ∧ fA v 41 = fA u 41 ∧ fA v 42 = fA u 42
theorem Km13.rf {u : St} : Km13 u u := ⟨rfl, rfl, rfl, rfl, rfl, rfl, rfl, rfl, rfl, rfl, rfl, rfl, rfl, rfl, rfl, rfl, rfl, rfl, rfl, rfl, rfl, rfl, rfl, rfl, rfl, rfl, rfl, rfl, rfl, rfl, rfl, rfl, rfl, rfl, rfl, rfl, rfl, rfl, rfl, rfl, rfl, rfl, rfl, rfl, rfl, rfl, rfl, rfl, rfl, rfl, rfl, rfl, rfl, rfl, rfl, rfl, rfl, rfl, rfl, rfl, rfl, rfl⟩
theorem Km13.tr {u v w : St} (h1 : Km13 u v) (h2 : Km13 v w) : Km13 u w := ⟨(h2.1).trans h1.1, (h2.2.1).trans h1.2.1, (h2.2.2.1).trans h1.2.2.1, (h2.2.2.2.1).trans h1.2.2.2.1, (h2.2.2.2.2.1).trans h1.2.2.2.2.1, (h2.2.2.2.2.2.1).trans h1.2.2.2.2.2.1, (h2.2.2.2.2.2.2.1).trans h1.2.2.2.2.2.2.1, (h2.2.2.2.2.2.2.2.1).trans h1.2.2.2.2.2.2.2.1, (h2.2.2.2.2.2.2.2.2.1).trans h1.2.2.2.2.2.2.2.2.1, (h2.2.2.2.2.2.2.2.2.2.1).trans h1.2.2.2.2.2.2.2.2.2.1, (h2.2.2.2.2.2.2.2.2.2.2.1).trans h1.2.2.2.2.2.2.2.2.2.2.1, (h2.2.2.2.2.2.2.2.2.2.2.2.1).trans h1.2.2.2.2.2.2.2.2.2.2.2.1, (h2.2.2.2.2.2.2.2.2.2.2.2.2.1).trans h1.2.2.2.2.2.2.2.2.2.2.2.2.1, (h2.2.2.2.2.2.2.2.2.2.2.2.2.2.1).trans h1.2.2.2.2.2.2.2.2.2.2.2.2.2.1, (h2.2.2.2.2.2.2.2.2.2.2.2.2.2.2.1).trans h1.2.2.2.2.2.2.2.2.2.2.2.2.2.2.1, (h2.2.2.2.2.2.2.2.2.2.2.2.2.2.2.2.1).trans h1.2.2.2.2.2.2.2.2.2.2.2.2.2.2.2.1, (h2.2.2.2.2.2.2.2.2.2.2.2.2.2.2.2.2.1).trans h1.2.2.2.2.2.2.2.2.2.2.2.2.2.2.2.2.1, (h2.2.2.2.2.2.2.2.2.2.2.2.2.2.2.2.2.2.1).trans h1.2.2.2.2.2.2.2.2.2.2.2.2.2.2.2.2.2.1, (h2.2.2.2.2.2.2.2.2.2.2.2.2.2.2.2.2.2.2.1).trans h1.2.2.2.2.2.2.2.2.2.2.2.2.2.2.2.2.2.2.1, (h2.2.2.2.2.2.2.2.2.2.2.2.2.2.2.2.2.2.2.2.1).trans h1.2.2.2.2.2.2.2.2.2.2.2.2.2.2.2.2.2.2.2.1, (h2.2.2.2.2.2.2.2.2.2.2.2.2.2.2.2.2.2.2.2.2.1).trans h1.2.2.2.2.2.2.2.2.2.2.2.2.2.2.2.2.2.2.2.2.1, (h2.2.2.2.2.2.2.2.2.2.2.2.2.2.2.2.2.2.2.2.2.2.1).trans h1.2.2.2.2.2.2.2.2.2.2.2.2.2.2.2.2.2.2.2.2.2.1, (h2.2.2.2.2.2.2.2.2.2.2.2.2.2.2.2.2.2.2.2.2.2.2.1).trans h1.2.2.2.2.2.2.2.2.2.2.2.2.2.2.2.2.2.2.2.2.2.2.1, (h2.2.2.2.2.2.2.2.2.2.2.2.2.2.2.2.2.2.2.2.2.2.2.2.1).trans h1.2.2.2.2.2.2.2.2.2.2.2.2.2.2.2.2.2.2.2.2.2.2.2.1, (h2.2.2.2.2.2.2.2.2.2.2.2.2.2.2.2.2.2.2.2.2.2.2.2.2.1).trans h1.2.2.2.2.2.2.2.2.2.2.2.2.2.2.2.2.2.2.2.2.2.2.2.2.1, (h2.2.2.2.2.2.2.2.2.2.2.2.2.2.2.2.2.2.2.2.2.2.2.2.2.2.1).trans h1.2.2.2.2.2.2.2.2.2.2.2.2.2.2.2.2.2.2.2.2.2.2.2.2.2.1, (h2.2.2.2.2.2.2.2.2.2.2.2.2.2.2.2.2.2.2.2.2.2.2.2.2.2.2.1).trans h1.2.2.2.2.2.2.2.2.2.2.2.2.2.2.2.2.2.2.2.2.2.2.2.2.2.2.1, (h2.2.2.2.2.2.2.2.2.2.2.2.2.2.2.2.2.2.2.2.2.2.2.2.2.2.2.2.1).trans h1.2.2.2.2.2.2.2.2.2.2.2.2.2.2.2.2.2.2.2.2.2.2.2.2.2.2.2.1, (h2.2.2.2.2.2.2.2.2.2.2.2.2.2.2.2.2.2.2.2.2.2.2.2.2.2.2.2.2.1).trans h1.2.2.2.2.2.2.2.2.2.2.2.2.2.2.2.2.2.2.2.2.2.2.2.2.2.2.2.2.1, (h2.2.2.2.2.2.2.2.2.2.2.2.2.2.2.2.2.2.2.2.2.2.2.2.2.2.2.2.2.2.1).trans h1.2.2.2.2.2.2.2.2.2.2.2.2.2.2.2.2.2.2.2.2.2.2.2.2.2.2.2.2.2.1, (h2.2.2.2.2.2.2.2.2.2.2.2.2.2.2.2.2.2.2.2.2.2.2.2.2.2.2.2.2.2.2.1).trans h1.2.2.2.2.2.2.2.2.2.2.2.2.2.2.2.2.2.2.2.2.2.2.2.2.2.2.2.2.2.2.1, (h2.2.2.2.2.2.2.2.2.2.2.2.2.2.2.2.2.2.2.2.2.2.2.2.2.2.2.2.2.2.2.2.1).trans h1.2.2.2.2.2.2.2.2.2.2.2.2.2.2.2.2.2.2.2.2.2.2.2.2.2.2.2.2.2.2.2.1, (h2.2.2.2.2.2.2.2.2.2.2.2.2.2.2.2.2.2.2.2.2.2.2.2.2.2.2.2.2.2.2.2.2.1).trans h1.2.2.2.2.2.2.2.2.2.2.2.2.2.2.2.2.2.2.2.2.2.2.2.2.2.2.2.2.2.2.2.2.1, (h2.2.2.2.2.2.2.2.2.2.2.2.2.2.2.2.2.2.2.2.2.2.2.2.2.2.2.2.2.2.2.2.2.2.1).trans h1.2.2.2.2.2.2.2.2.2.2.2.2.2.2.2.2.2.2.2.2.2.2.2.2.2.2.2.2.2.2.2.2.2.1, (h2.2.2.2.2.2.2.2.2.2.2.2.2.2.2.2.2.2.2.2.2.2.2.2.2.2.2.2.2.2.2.2.2.2.2.1).trans h1.2.2.2.2.2.2.2.2.2.2.2.2.2.2.2.2.2.2.2.2.2.2.2.2.2.2.2.2.2.2.2.2.2.2.1, (h2.2.2.2.2.2.2.2.2.2.2.2.2.2.2.2.2.2.2.2.2.2.2.2.2.2.2.2.2.2.2.2.2.2.2.2.1).trans h1.2.2.2.2.2.2.2.2.2.2.2.2.2.2.2.2.2.2.2.2.2.2.2.2.2.2.2.2.2.2.2.2.2.2.2.1, (h2.2.2.2.2.2.2.2.2.2.2.2.2.2.2.2.2.2.2.2.2.2.2.2.2.2.2.2.2.2.2.2.2.2.2.2.2.1).trans h1.2.2.2.2.2.2.2.2.2.2.2.2.2.2.2.2.2.2.2.2.2.2.2.2.2.2.2.2.2.2.2.2.2.2.2.2.1, (h2.2.2.2.2.2.2.2.2.2.2.2.2.2.2.2.2.2.2.2.2.2.2.2.2.2.2.2.2.2.2.2.2.2.2.2.2.2.1).trans h1.2.2.2.2.2.2.2.2.2.2.2.2.2.2.2.2.2.2.2.2.2.2.2.2.2.2.2.2.2.2.2.2.2.2.2.2.2.1, (h2.2.2.2.2.2.2.2.2.2.2.2.2.2.2.2.2.2.2.2.2.2.2.2.2.2.2.2.2.2.2.2.2.2.2.2.2.2.2.1).trans h1.2.2.2.2.2.2.2.2.2.2.2.2.2.2.2.2.2.2.2.2.2.2.2.2.2.2.2.2.2.2.2.2.2.2.2.2.2.2.1, (h2.2.2.2.2.2.2.2.2.2.2.2.2.2.2.2.2.2.2.2.2.2.2.2.2.2.2.2.2.2.2.2.2.2.2.2.2.2.2.2.1).trans h1.2.2.2.2.2.2.2.2.2.2.2.2.2.2.2.2.2.2.2.2.2.2.2.2.2.2.2.2.2.2.2.2.2.2.2.2.2.2.2.1, (h2.2.2.2.2.2.2.2.2.2.2.2.2.2.2.2.2.2.2.2.2.2.2.2.2.2.2.2.2.2.2.2.2.2.2.2.2.2.2.2.2.1).trans h1.2.2.2.2.2.2.2.2.2.2.2.2.2.2.2.2.2.2.2.2.2.2.2.2.2.2.2.2.2.2.2.2.2.2.2.2.2.2.2.2.1, (h2.2.2.2.2.2.2.2.2.2.2.2.2.2.2.2.2.2.2.2.2.2.2.2.2.2.2.2.2.2.2.2.2.2.2.2.2.2.2.2.2.2.1).trans h1.2.2.2.2.2.2.2.2.2.2.2.2.2.2.2.2.2.2.2.2.2.2.2.2.2.2.2.2.2.2.2.2.2.2.2.2.2.2.2.2.2.1, (h2.2.2.2.2.2.2.2.2.2.2.2.2.2.2.2.2.2.2.2.2.2.2.2.2.2.2.2.2.2.2.2.2.2.2.2.2.2.2.2.2.2.2.1).trans h1.2.2.2.2.2.2.2.2.2.2.2.2.2.2.2.2.2.2.2.2.2.2.2.2.2.2.2.2.2.2.2.2.2.2.2.2.2.2.2.2.2.2.1, (h2.2.2.2.2.2.2.2.2.2.2.2.2.2.2.2.2.2.2.2.2.2.2.2.2.2.2.2.2.2.2.2.2.2.2.2.2.2.2.2.2.2.2.2.1).trans h1.2.2.2.2.2.2.2.2.2.2.2.2.2.2.2.2.2.2.2.2.2.2.2.2.2.2.2.2.2.2.2.2.2.2.2.2.2.2.2.2.2.2.2.1, (h2.2.2.2.2.2.2.2.2.2.2.2.2.2.2.2.2.2.2.2.2.2.2.2.2.2.2.2.2.2.2.2.2.2.2.2.2.2.2.2.2.2.2.2.2.1).trans h1.2.2.2.2.2.2.2.2.2.2.2.2.2.2.2.2.2.2.2.2.2.2.2.2.2.2.2.2.2.2.2.2.2.2.2.2.2.2.2.2.2.2.2.2.1, (h2.2.2.2.2.2.2.2.2.2.2.2.2.2.2.2.2.2.2.2.2.2.2.2.2.2.2.2.2.2.2.2.2.2.2.2.2.2.2.2.2.2.2.2.2.2.1).trans h1.2.2.2.2.2.2.2.2.2.2.2.2.2.2.2.2.2.2.2.2.2.2.2.2.2.2.2.2.2.2.2.2.2.2.2.2.2.2.2.2.2.2.2.2.2.1, (h2.2.2.2.2.2.2.2.2.2.2.2.2.2.2.2.2.2.2.2.2.2.2.2.2.2.2.2.2.2.2.2.2.2.2.2.2.2.2.2.2.2.2.2.2.2.2.1).trans h1.2.2.2.2.2.2.2.2.2.2.2.2.2.2.2.2.2.2.2.2.2.2.2.2.2.2.2.2.2.2.2.2.2.2.2.2.2.2.2.2.2.2.2.2.2.2.1, (h2.2.2.2.2.2.2.2.2.2.2.2.2.2.2.2.2.2.2.2.2.2.2.2.2.2.2.2.2.2.2.2.2.2.2.2.2.2.2.2.2.2.2.2.2.2.2.2.1).trans h1.2.2.2.2.2.2.2.2.2.2.2.2.2.2.2.2.2.2.2.2.2.2.2.2.2.2.2.2.2.2.2.2.2.2.2.2.2.2.2.2.2.2.2.2.2.2.2.1, (h2.2.2.2.2.2.2.2.2.2.2.2.2.2.2.2.2.2.2.2.2.2.2.2.2.2.2.2.2.2.2.2.2.2.2.2.2.2.2.2.2.2.2.2.2.2.2.2.2.1).trans h1.2.2.2.2.2.2.2.2.2.2.2.2.2.2.2.2.2.2.2.2.2.2.2.2.2.2.2.2.2.2.2.2.2.2.2.2.2.2.2.2.2.2.2.2.2.2.2.2.1, (h2.2.2.2.2.2.2.2.2.2.2.2.2.2.2.2.2.2.2.2.2.2.2.2.2.2.2.2.2.2.2.2.2.2.2.2.2.2.2.2.2.2.2.2.2.2.2.2.2.2.1).trans h1.2.2.2.2.2.2.2.2.2.2.2.2.2.2.2.2.2.2.2.2.2.2.2.2.2.2.2.2.2.2.2.2.2.2.2.2.2.2.2.2.2.2.2.2.2.2.2.2.2.1, (h2.2.2.2.2.2.2.2.2.2.2.2.2.2.2.2.2.2.2.2.2.2.2.2.2.2.2.2.2.2.2.2.2.2.2.2.2.2.2.2.2.2.2.2.2.2.2.2.2.2.2.1).trans h1.2.2.2.2.2.2.2.2.2.2.2.2.2.2.2.2.2.2.2.2.2.2.2.2.2.2.2.2.2.2.2.2.2.2.2.2.2.2.2.2.2.2.2.2.2.2.2.2.2.2.1, (h2.2.2.2.2.2.2.2.2.2.2.2.2.2.2.2.2.2.2.2.2.2.2.2.2.2.2.2.2.2.2.2.2.2.2.2.2.2.2.2.2.2.2.2.2.2.2.2.2.2.2.2.1).trans h1.2.2.2.2.2.2.2.2.2.2.2.2.2.2.2.2.2.2.2.2.2.2.2.2.2.2.2.2.2.2.2.2.2.2.2.2.2.2.2.2.2.2.2.2.2.2.2.2.2.2.2.1, (h2.2.2.2.2.2.2.2.2.2.2.2.2.2.2.2.2.2.2.2.2.2.2.2.2.2.2.2.2.2.2.2.2.2.2.2.2.2.2.2.2.2.2.2.2.2.2.2.2.2.2.2.2.1).trans h1.2.2.2.2.2.2.2.2.2.2.2.2.2.2.2.2.2.2.2.2.2.2.2.2.2.2.2.2.2.2.2.2.2.2.2.2.2.2.2.2.2.2.2.2.2.2.2.2.2.2.2.2.1, (h2.2.2.2.2.2.2.2.2.2.2.2.2.2.2.2.2.2.2.2.2.2.2.2.2.2.2.2.2.2.2.2.2.2.2.2.2.2.2.2.2.2.2.2.2.2.2.2.2.2.2.2.2.2.1).trans h1.2.2.2.2.2.2.2.2.2.2.2.2.2.2.2.2.2.2.2.2.2.2.2.2.2.2.2.2.2.2.2.2.2.2.2.2.2.2.2.2.2.2.2.2.2.2.2.2.2.2.2.2.2.1, (h2.2.2.2.2.2.2.2.2.2.2.2.2.2.2.2.2.2.2.2.2.2.2.2.2.2.2.2.2.2.2.2.2.2.2.2.2.2.2.2.2.2.2.2.2.2.2.2.2.2.2.2.2.2.2.1).trans h1.2.2.2.2.2.2.2.2.2.2.2.2.2.2.2.2.2.2.2.2.2.2.2.2.2.2.2.2.2.2.2.2.2.2.2.2.2.2.2.2.2.2.2.2.2.2.2.2.2.2.2.2.2.2.1, (h2.2.2.2.2.2.2.2.2.2.2.2.2.2.2.2.2.2.2.2.2.2.2.2.2.2.2.2.2.2.2.2.2.2.2.2.2.2.2.2.2.2.2.2.2.2.2.2.2.2.2.2.2.2.2.2.1).trans h1.2.2.2.2.2.2.2.2.2.2.2.2.2.2.2.2.2.2.2.2.2.2.2.2.2.2.2.2.2.2.2.2.2.2.2.2.2.2.2.2.2.2.2.2.2.2.2.2.2.2.2.2.2.2.2.1, (h2.2.2.2.2.2.2.2.2.2.2.2.2.2.2.2.2.2.2.2.2.2.2.2.2.2.2.2.2.2.2.2.2.2.2.2.2.2.2.2.2.2.2.2.2.2.2.2.2.2.2.2.2.2.2.2.2.1).trans h1.2.2.2.2.2.2.2.2.2.2.2.2.2.2.2.2.2.2.2.2.2.2.2.2.2.2.2.2.2.2.2.2.2.2.2.2.2.2.2.2.2.2.2.2.2.2.2.2.2.2.2.2.2.2.2.2.1, (h2.2.2.2.2.2.2.2.2.2.2.2.2.2.2.2.2.2.2.2.2.2.2.2.2.2.2.2.2.2.2.2.2.2.2.2.2.2.2.2.2.2.2.2.2.2.2.2.2.2.2.2.2.2.2.2.2.2.1).trans h1.2.2.2.2.2.2.2.2.2.2.2.2.2.2.2.2.2.2.2.2.2.2.2.2.2.2.2.2.2.2.2.2.2.2.2.2.2.2.2.2.2.2.2.2.2.2.2.2.2.2.2.2.2.2.2.2.2.1, (h2.2.2.2.2.2.2.2.2.2.2.2.2.2.2.2.2.2.2.2.2.2.2.2.2.2.2.2.2.2.2.2.2.2.2.2.2.2.2.2.2.2.2.2.2.2.2.2.2.2.2.2.2.2.2.2.2.2.2.1).trans h1.2.2.2.2.2.2.2.2.2.2.2.2.2.2.2.2.2.2.2.2.2.2.2.2.2.2.2.2.2.2.2.2.2.2.2.2.2.2.2.2.2.2.2.2.2.2.2.2.2.2.2.2.2.2.2.2.2.2.1, (h2.2.2.2.2.2.2.2.2.2.2.2.2.2.2.2.2.2.2.2.2.2.2.2.2.2.2.2.2.2.2.2.2.2.2.2.2.2.2.2.2.2.2.2.2.2.2.2.2.2.2.2.2.2.2.2.2.2.2.2.1).trans h1.2.2.2.2.2.2.2.2.2.2.2.2.2.2.2.2.2.2.2.2.2.2.2.2.2.2.2.2.2.2.2.2.2.2.2.2.2.2.2.2.2.2.2.2.2.2.2.2.2.2.2.2.2.2.2.2.2.2.2.1, (h2.2.2.2.2.2.2.2.2.2.2.2.2.2.2.2.2.2.2.2.2.2.2.2.2.2.2.2.2.2.2.2.2.2.2.2.2.2.2.2.2.2.2.2.2.2.2.2.2.2.2.2.2.2.2.2.2.2.2.2.2.1).trans h1.2.2.2.2.2.2.2.2.2.2.2.2.2.2.2.2.2.2.2.2.2.2.2.2.2.2.2.2.2.2.2.2.2.2.2.2.2.2.2.2.2.2.2.2.2.2.2.2.2.2.2.2.2.2.2.2.2.2.2.2.1, (h2.2.2.2.2.2.2.2.2.2.2.2.2.2.2.2.2.2.2.2.2.2.2.2.2.2.2.2.2.2.2.2.2.2.2.2.2.2.2.2.2.2.2.2.2.2.2.2.2.2.2.2.2.2.2.2.2.2.2.2.2.2).trans h1.2.2.2.2.2.2.2.2.2.2.2.2.2.2.2.2.2.2.2.2.2.2.2.2.2.2.2.2.2.2.2.2.2.2.2.2.2.2.2.2.2.2.2.2.2.2.2.2.2.2.2.2.2.2.2.2.2.2.2.2.2⟩
theorem dX11_restore_0 : decode cX11_restore 0 = .ok (.iload_n 1, 1) := by decide +kernel
theorem dX11_restore_1 : decode cX11_restore 1 = .ok (.iconst 0, 1) := by decide +kernel
theorem dX11_restore_2 : decode cX11_restore 2 = .ok (.iconst 2, 1) := by decide +kernel
theorem dX11_restore_3 : decode cX11_restore 3 = .ok (.invokestatic 374, 3) := by decide +kernel
theorem dX11_restore_6 : decode cX11_restore 6 = .ok (.ifCond .eq 12, 3) := by decide +kernel
theorem dX11_restore_9 : decode cX11_restore 9 = .ok (.aload_n 0, 1) := by decide +kernel
theorem dX11_restore_10 : decode cX11_restore 10 = .ok (.getfield 142, 3) := by decide +kernel
theorem dX11_restore_13 : decode cX11_restore 13 = .ok (.iload_n 1, 1) := by decide +kernel
theorem dX11_restore_14 : decode cX11_restore 14 = .ok (.baload, 1) := by decide +kernel
theorem dX11_restore_15 : decode cX11_restore 15 = .ok (.ifCond .ne 5, 3) := by decide +kernel
theorem dX11_restore_18 : decode cX11_restore 18 = .ok (.iconst (-1), 1) := by decide +kernel
theorem dX11_restore_19 : decode cX11_restore 19 = .ok (.ireturn, 1) := by decide +kernel
theorem dX11_restore_20 : decode cX11_restore 20 = .ok (.iconst 0, 1) := by decide +kernel
theorem dX11_restore_21 : decode cX11_restore 21 = .ok (.istore_n 2, 1) := by decide +kernel
theorem dX11_restore_22 : decode cX11_restore 22 = .ok (.iload_n 2, 1) := by decide +kernel
theorem dX11_restore_23 : decode cX11_restore 23 = .ok (.bipush 29, 2) := by decide +kernel
theorem dX11_restore_25 : decode cX11_restore 25 = .ok (.if_icmp .ge 26, 3) := by decide +kernel
theorem dX11_restore_28 : decode cX11_restore 28 = .ok (.aload_n 0, 1) := by decide +kernel
theorem dX11_restore_29 : decode cX11_restore 29 = .ok (.getfield 97, 3) := by decide +kernel
theorem dX11_restore_32 : decode cX11_restore 32 = .ok (.iload_n 2, 1) := by decide +kernel
theorem dX11_restore_33 : decode cX11_restore 33 = .ok (.aload_n 0, 1) := by decide +kernel
theorem dX11_restore_34 : decode cX11_restore 34 = .ok (.getfield 139, 3) := by decide +kernel
theorem dX11_restore_37 : decode cX11_restore 37 = .ok (.bipush 29, 2) := by decide +kernel
theorem dX11_restore_39 : decode cX11_restore 39 = .ok (.iload_n 1, 1) := by decide +kernel
theorem dX11_restore_40 : decode cX11_restore 40 = .ok (.imul, 1) := by decide +kernel
theorem dX11_restore_41 : decode cX11_restore 41 = .ok (.iload_n 2, 1) := by decide +kernel
theorem dX11_restore_42 : decode cX11_restore 42 = .ok (.iadd, 1) := by decide +kernel
theorem dX11_restore_43 : decode cX11_restore 43 = .ok (.iaload, 1) := by decide +kernel
theorem dX11_restore_44 : decode cX11_restore 44 = .ok (.iastore, 1) := by decide +kernel
theorem dX11_restore_45 : decode cX11_restore 45 = .ok (.iinc 2 1, 3) := by decide +kernel
theorem dX11_restore_48 : decode cX11_restore 48 = .ok (.goto (-26), 3) := by decide +kernel
theorem dX11_restore_51 : decode cX11_restore 51 = .ok (.aload_n 0, 1) := by decide +kernel
theorem dX11_restore_52 : decode cX11_restore 52 = .ok (.iconst 0, 1) := by decide +kernel
theorem dX11_restore_53 : decode cX11_restore 53 = .ok (.putfield 389, 3) := by decide +kernel
theorem dX11_restore_56 : decode cX11_restore 56 = .ok (.aload_n 0, 1) := by decide +kernel
theorem dX11_restore_57 : decode cX11_restore 57 = .ok (.iconst 0, 1) := by decide +kernel
theorem dX11_restore_58 : decode cX11_restore 58 = .ok (.putfield 392, 3) := by decide +kernel
theorem dX11_restore_61 : decode cX11_restore 61 = .ok (.aload_n 0, 1) := by decide +kernel
theorem dX11_restore_62 : decode cX11_restore 62 = .ok (.getfield 97, 3) := by decide +kernel
theorem dX11_restore_65 : decode cX11_restore 65 = .ok (.bipush 25, 2) := by decide +kernel
theorem dX11_restore_67 : decode cX11_restore 67 = .ok (.iaload, 1) := by decide +kernel
theorem dX11_restore_68 : decode cX11_restore 68 = .ok (.ireturn, 1) := by decide +kernel
theorem wd_2023 : (Cond.code ⟨"WebCourtModel", "restore", "(I)I"⟩ prog_13_method_121_code (3 : Nat) (Option.some FieldType.int)) ∈ gtb := gtb_c8 234 (by decide +kernel) rfl
theorem Km13_A41 {u v : St} (h : Km13 u v) : fA v 41 = fA u 41 := h.2.2.2.2.2.2.2.2.2.2.2.2.2.2.2.2.2.2.2.2.2.2.2.2.2.2.2.2.2.2.2.2.2.2.2.2.2.2.2.2.2.2.2.2.2.2.2.2.2.2.2.2.2.2.2.2.2.2.2.2.1
theorem Km13_A3 {u v : St} (h : Km13 u v) : fA v 3 = fA u 3 := h.2.2.2.2.2.2.2.2.2.2.2.2.2.2.2.2.2.2.2.2.2.2.2.1
theorem Km13_I36 {u v : St} (h : Km13 u v) : fI v 0 36 = fI u 0 36 := h.2.2.2.2.2.2.2.2.2.1
set_option maxHeartbeats 4000000 in
set_option maxRecDepth 100000 in
theorem T_X11_restore (l : Launch) (D : va_G) (cy : Nat → ClassId) (a : Nat → Nat) (u : St) (hJ : MI a u) (x1 : Int32)  : Mi l D cy (mW cy a) yX11_restore (.code yX11_restore cX11_restore 3 (some .int)) (rmo 1 22) [.ref (a 0), .int x1] u (fun (r : Int32) (u' : St) => (MI a u') ∧ (Km13 u u')) := by
  refine Mi.of (own := RX11) rfl (by decide) (Nat.le_of_ble_eq_true rfl) ?_
  have hT : Km13 u u := Km13.rf
  have hJ0 := hJ
  intro p e s m below meth c A Q ls C hret hO hl
  obtain ⟨hx, hb, hml, hown, ht, hK, hA⟩ := id C
  have hl : lv_has ls 3 [(0, .ref (a 0)), (1, .int x1)] := hl
  refine lv_iload_n hx hb dX11_restore_0 rfl (lv_at hl 1 rfl) ?_
  refine lv_iconst (v := 0) hx hb dX11_restore_1 (by decide) ?_
  refine lv_iconst (v := 2) hx hb dX11_restore_2 (by decide) ?_
  refine cSi (w := mW cy a) (As := [.int x1, .int 0, .int 2]) (rest := []) C hO (T_X11_isIn l D cy a _ (by exact hJ) (x1) (0) (2)) (va_cwS 3 ht (gSS wd_1722 wd_1723 wd_121 wd_1724) rfl rfl rfl hd_yX11_isIn ⟨Nat.le_of_ble_eq_true rfl, Nat.le_of_ble_eq_true rfl⟩)  rfl hl.1 (Nat.le_of_ble_eq_true rfl) dX11_restore_3 rfl ⟨Nat.zero_le _, Nat.zero_le _⟩ (fun r1 u2 H locs hp3 hO => ?_)
  obtain ⟨hr1, hu2⟩ := hp3
  rw [hu2] at hO
  have zz4 : (0 : Int32).toInt = 0 := rfl
  have zz5 : (2 : Int32).toInt = 2 := rfl
  rcases hr1 with ⟨hcr1, hvr1⟩ | ⟨hcr1, hvr1⟩
  · subst hvr1
    refine bn_eq (X := 1) hx hb dX11_restore_6 rfl (by omega) ?_ (tgt := 18) (by decide)
    refine lv_aload_n hx hb dX11_restore_9 rfl (lv_at hl 0 rfl) ?_
    refine gf_RX11_142 (v := .ref (a 42)) C hO 0 mW_0 rfl dX11_restore_10 ?_
    refine lv_iload_n hx hb dX11_restore_13 rfl (lv_at hl 1 rfl) ?_
    refine aZ C hO 42 mW_42 (i_in (X := (x1).toInt) rfl (by omega) (by omega)) dX11_restore_14 ?_
    refine tE (y := (fA u 42 (x1).toNatClampNeg)) (by exact rfl) ?_
    refine bs_ne (tgt := 20) (X := ((fA u 42 (x1).toNatClampNeg)).toInt) hx hb dX11_restore_15 (by decide) rfl (fun c6 => ?_) (fun c6 => ?_)
    · have hbx : ∀ (k w y : Int32), k.toInt = 24 → y.toInt = 29 * x1.toInt + k.toInt → fA u 41 y.toNatClampNeg = w → Sh (kN u) w := fun k w y hk hy e => box_at hJ0 rfl hk hy (by omega) (by omega) (b := (fA u 42 (x1).toNatClampNeg)) rfl (by omega) e
      refine lv_iconst (v := 0) hx hb dX11_restore_20 (by decide) ?_
      refine lv_istore_n (lv' := [(2, .int 0), (0, .ref (a 0)), (1, .int x1)]) hx hb dX11_restore_21 rfl hl (by decide) rfl (fun ls hl => ?_)
      have LP_22_k8 : ∀ (n : Nat) (u7 : St) (H : Heap) (locs : List Loc) (ls : Array Slot) (i_k8 : Int32), Wo D A (mW cy a u7) s.heap H locs → lv_has ls 3 [(2, .int i_k8), (0, .ref (a 0)), (1, .int x1)] → MI a u7 → Km13 u u7 → 0 ≤ i_k8.toInt ∧ i_k8.toInt ≤ 29 → 29 - i_k8.toInt < (n : Int) → W p l e (rmo 1 22) s m [.ref (a 0), .int x1].toArray below meth c H locs 0 0 Q (F0 m 22 ls []) := by
        intro n
        induction n with
        | zero =>
          intro u7 H locs ls i_k8 hO hl hJ hT iv0_k8 hm_k8
          exact absurd hm_k8 (by omega)
        | succ n ih_k8 =>
          intro u7 H locs ls i_k8 hO hl hJ hT iv0_k8 hm_k8
          refine lv_iload_n hx hb dX11_restore_22 rfl (lv_at hl 0 rfl) ?_
          refine lv_bipush (v := 29) hx hb dX11_restore_23 (by decide) ?_
          refine cs_ge (tgt := 51) (X := (i_k8).toInt) (Y := 29) hx hb dX11_restore_25 (by decide) rfl rfl (fun c9 => ?_) (fun c9 => ?_)
          · refine lv_aload_n hx hb dX11_restore_51 rfl (lv_at hl 1 rfl) ?_
            refine lv_iconst (v := 0) hx hb dX11_restore_52 (by decide) ?_
            refine pf_RX11_389 C hO 0 mW_0 (Nat.le_of_ble_eq_true rfl) mW_s0_47 dX11_restore_53 (fun H locs hO => ?_)
            refine lv_aload_n hx hb dX11_restore_56 rfl (lv_at hl 1 rfl) ?_
            refine lv_iconst (v := 0) hx hb dX11_restore_57 (by decide) ?_
            refine pf_RX11_392 C hO 0 mW_0 (Nat.le_of_ble_eq_true rfl) mW_s0_48 dX11_restore_58 (fun H locs hO => ?_)
            have hJ := MIs_4748 (v := 0) (w := 0) hJ (by omega) (by omega) (by have h := MI_acts hJ; omega) (by omega)
            refine lv_aload_n hx hb dX11_restore_61 rfl (lv_at hl 1 rfl) ?_
            refine gf_RX11_97 (v := .ref (a 28)) C hO 0 mW_0 rfl dX11_restore_62 ?_
            refine lv_bipush (v := 25) hx hb dX11_restore_65 (by decide) ?_
            refine aI C hO 28 mW_28 (i_in (X := 25) rfl (by omega) (by omega)) dX11_restore_67 ?_
            refine tE (y := (fA u7 28 25)) (by exact rfl) ?_
            refine hret _ _ _ _ _ _ dX11_restore_68 rfl ?_ hO
            exact ⟨hJ, hT⟩
          · refine lv_aload_n hx hb dX11_restore_28 rfl (lv_at hl 1 rfl) ?_
            refine gf_RX11_97 (v := .ref (a 28)) C hO 0 mW_0 rfl dX11_restore_29 ?_
            refine lv_iload_n hx hb dX11_restore_32 rfl (lv_at hl 0 rfl) ?_
            refine lv_aload_n hx hb dX11_restore_33 rfl (lv_at hl 1 rfl) ?_
            refine gf_RX11_139 (v := .ref (a 41)) C hO 0 mW_0 rfl dX11_restore_34 ?_
            refine lv_bipush (v := 29) hx hb dX11_restore_37 (by decide) ?_
            refine lv_iload_n hx hb dX11_restore_39 rfl (lv_at hl 2 rfl) ?_
            have e10 : ((29 * x1)).toInt = 29 * (x1).toInt := i_mul rfl rfl (by omega)
            refine lv_imul hx hb dX11_restore_40 ?_
            refine lv_iload_n hx hb dX11_restore_41 rfl (lv_at hl 0 rfl) ?_
            have e11 : (((29 * x1) + i_k8)).toInt = (29 * (x1).toInt) + (i_k8).toInt := i_add e10 rfl (by omega)
            refine lv_iadd hx hb dX11_restore_42 ?_
            refine aI C hO 41 mW_41 (i_in (X := ((29 * (x1).toInt) + (i_k8).toInt)) e11 (by omega) (by omega)) dX11_restore_43 ?_
            refine tE (y := (fA u 41 (((29 * x1) + i_k8)).toNatClampNeg)) (by exact (congrFun (Km13_A41 hT) _)) ?_
            refine aIs C hO 28 mW_28 (i_in (X := (i_k8).toInt) rfl (by omega) (by omega)) mW_s28 dX11_restore_44 (fun H locs hO => ?_)
            have hJ := MIsA_28 hO hJ (by rw [show kN _ = kN u from (kN_eq (Km13_A3 hT) (Km13_I36 hT))]; by_cases q : i_k8.toInt = 24; · exact Or.inr (hbx i_k8 (fA u 41 (((29 * x1) + i_k8)).toNatClampNeg) ((29 * x1) + i_k8) q (by omega) rfl); · exact Or.inl (i_ck rfl (by omega) (by omega)))
            have e12 : ((i_k8 + 1)).toInt = (i_k8).toInt + 1 := i_add rfl rfl (by omega)
            refine lv_iinc (v := (i_k8 + 1)) (lv' := [(2, .int (i_k8 + 1)), (0, .ref (a 0)), (1, .int x1)]) hx hb dX11_restore_45 hl (k := 0) rfl rfl (by decide) rfl (fun ls hl => ?_)
            refine lv_goto (tgt := 22) hx hb dX11_restore_48 (by decide) ?_
            exact ih_k8 _ _ _ _ ((i_k8 + 1)) hO (lv_sub hl [0, 1, 2] rfl) (by exact hJ) (by exact hT) (by first | decide | omega) (by first | decide | omega)
      have zc13 : (0 : Int32).toInt = 0 := rfl
      exact LP_22_k8 4000 _ _ _ _ (0) hO (lv_sub hl [0, 1, 2] rfl) (by exact hJ) (by exact hT) (by first | decide | omega) (by first | decide | omega)
    · refine lv_iconst (v := (-1)) hx hb dX11_restore_18 (by decide) ?_
      refine hret _ _ _ _ _ _ dX11_restore_19 rfl ?_ hO
      exact ⟨hJ, hT⟩
  · subst hvr1
    refine bt_eq (tgt := 18) (X := 0) hx hb dX11_restore_6 (by decide) rfl (by omega) ?_
    refine lv_iconst (v := (-1)) hx hb dX11_restore_18 (by decide) ?_
    refine hret _ _ _ _ _ _ dX11_restore_19 rfl ?_ hO
    exact ⟨hJ, hT⟩
set_option maxHeartbeats 4000000 in
set_option maxRecDepth 100000 in
theorem T_X11_many_b (l : Launch) (D : va_G) (cy : Nat → ClassId) (a : Nat → Nat) (u : St) (hJ : MB a u) (gm : Int32) (hgm : fA u 6 (fI u 0 36).toNatClampNeg = gm)   : Mi l D cy (mW cy a) yX11_many (.code yX11_many cX11_many 1 (some .int)) (rmo 0 0) [.ref (a 0)] u (fun (r : Int32) (u' : St) => (r = gm) ∧ (u' = u)) := by
  refine Mi.of (own := RX11) rfl (by decide) (Nat.le_of_ble_eq_true rfl) ?_
  have hT : Km0 u u := Km0.rf
  have hJ0 := hJ
  intro p e s m below meth c A Q ls C hret hO hl
  obtain ⟨hx, hb, hml, hown, ht, hK, hA⟩ := id C
  have hl : lv_has ls 1 [(0, .ref (a 0))] := hl
  refine lv_aload_n hx hb dX11_many_0 rfl (lv_at hl 0 rfl) ?_
  refine gf_RX11_30 (v := .ref (a 6)) C hO 0 mW_0 rfl dX11_many_1 ?_
  refine lv_aload_n hx hb dX11_many_4 rfl (lv_at hl 0 rfl) ?_
  have g1 : 0 ≤ (fI u 0 36).toInt ∧ (fI u 0 36).toInt ≤ 1 := by have h := MB_36 hJ0; exact h
  refine gf_RX11_255 (v := .int (fI u 0 36)) C hO 0 mW_0 rfl dX11_many_5 ?_
  refine aI C hO 6 mW_6 (i_in (X := ((fI u 0 36)).toInt) rfl (by omega) (by omega)) dX11_many_8 ?_
  have g2 : 0 ≤ gm.toInt ∧ gm.toInt ≤ 6 := by have h := MB_A6 hJ0 (fI u 0 36).toNatClampNeg; rw [hgm] at h; exact h
  refine tE (y := gm) (by exact hgm) ?_
  refine hret _ _ _ _ _ _ dX11_many_9 rfl ?_ hO
  exact ⟨rfl, rfl⟩
set_option maxHeartbeats 4000000 in
set_option maxRecDepth 100000 in
theorem T_X11_spots_b (l : Launch) (D : va_G) (cy : Nat → ClassId) (a : Nat → Nat) (u : St) (hJ : MB a u) (gk : Int32) (hgk : fA u 3 (fI u 0 36).toNatClampNeg = gk)   : Mi l D cy (mW cy a) yX11_spots (.code yX11_spots cX11_spots 1 (some .int)) (rmo 0 0) [.ref (a 0)] u (fun (r : Int32) (u' : St) => (r = gk) ∧ (u' = u)) := by
  refine Mi.of (own := RX11) rfl (by decide) (Nat.le_of_ble_eq_true rfl) ?_
  have hT : Km0 u u := Km0.rf
  have hJ0 := hJ
  intro p e s m below meth c A Q ls C hret hO hl
  obtain ⟨hx, hb, hml, hown, ht, hK, hA⟩ := id C
  have hl : lv_has ls 1 [(0, .ref (a 0))] := hl
  refine lv_aload_n hx hb dX11_spots_0 rfl (lv_at hl 0 rfl) ?_
  refine gf_RX11_20 (v := .ref (a 3)) C hO 0 mW_0 rfl dX11_spots_1 ?_
  refine lv_aload_n hx hb dX11_spots_4 rfl (lv_at hl 0 rfl) ?_
  have g1 : 0 ≤ (fI u 0 36).toInt ∧ (fI u 0 36).toInt ≤ 1 := by have h := MB_36 hJ0; exact h
  refine gf_RX11_255 (v := .int (fI u 0 36)) C hO 0 mW_0 rfl dX11_spots_5 ?_
  refine aI C hO 3 mW_3 (i_in (X := ((fI u 0 36)).toInt) rfl (by omega) (by omega)) dX11_spots_8 ?_
  have g2 : 0 ≤ gk.toInt ∧ gk.toInt ≤ 8 := by have h := MB_A3 hJ0 (fI u 0 36).toNatClampNeg; rw [hgk] at h; exact h
  refine tE (y := gk) (by exact hgk) ?_
  refine hret _ _ _ _ _ _ dX11_spots_9 rfl ?_ hO
  exact ⟨rfl, rfl⟩
def Km14 (u v : St) : Prop := fI v 0 2 = fI u 0 2 ∧ fI v 0 3 = fI u 0 3 ∧ fI v 0 4 = fI u 0 4 ∧ fI v 0 5 = fI u 0 5 ∧ fI v 0 6 = fI u 0 6 ∧ fI v 0 7 = fI u 0 7 ∧ fI v 0 8 = fI u 0 8 ∧ fI v 0 9 = fI u 0 9 ∧ fL v 0 10 = fL u 0 10 ∧ fI v 0 36 = fI u 0 36 ∧ fI v 0 37 = fI u 0 37 ∧ fI v 0 38 = fI u 0 38 ∧ fI v 0 39 = fI u 0 39 ∧ fI v 0 40 = fI u 0 40 ∧ fI v 0 41 = fI u 0 41 ∧ fI v 0 42 = fI u 0 42 ∧ fI v 0 43 = fI u 0 43 ∧ fI v 0 45 = fI u 0 45 ∧ fI v 0 47 = fI u 0 47 ∧ fI v 0 48 = fI u 0 48 ∧ fI v 0 50 = fI u 0 50 ∧ fI v 0 61 = fI u 0 61 ∧ fI v 0 62 = fI u 0 62 ∧ fA v 1 = fA u 1 ∧ fA v 2 = fA u 2 ∧ fA v 3 = fA u 3 ∧ fA v 4 = fA u 4 ∧ fA v 5 = fA u 5 ∧ fA v 6 = fA u 6 ∧ fA v 7 = fA u 7 ∧ fA v 8 = fA u 8 ∧ fA v 9 = fA u 9 ∧ fA v 10 = fA u 10 ∧ fA v 11 = fA u 11 ∧ fA v 12 = fA u 12 ∧ fA v 13 = fA u 13 ∧ fA v 14 = fA u 14 ∧ fA v 15 = fA u 15 ∧ fA v 16 = fA u 16 ∧ fA v 17 = fA u 17 ∧ fA v 18 = fA u 18 ∧ fA v 19 = fA u 19 ∧ fJ v 20 = fJ u 20 ∧ fJ v 21 = fJ u 21 ∧ fJ v 22 = fJ u 22 ∧ fA v 23 = fA u 23 ∧ fA v 24 = fA u 24 ∧ fA v 25 = fA u 25 ∧ fA v 26 = fA u 26 ∧ fA v 27 = fA u 27 ∧ fA v 29 = fA u 29 ∧ fA v 30 = fA u 30 ∧ fA v 31 = fA u 31 ∧ fA v 32 = fA u 32 ∧ fA v 33 = fA u 33 ∧ fA v 34 = fA u 34 ∧ fA v 35 = fA u 35 ∧ fA v 36 = fA u 36 ∧ fA v 37 = fA u 37 ∧ fA v 38 = fA u 38 ∧ fA v 39 = fA u 39 ∧ fA v 40 = fA u 40 ∧ fA v 41 = fA u 41 ∧ fA v 42 = fA u 42
theorem Km14.rf {u : St} : Km14 u u := ⟨rfl, rfl, rfl, rfl, rfl, rfl, rfl, rfl, rfl, rfl, rfl, rfl, rfl, rfl, rfl, rfl, rfl, rfl, rfl, rfl, rfl, rfl, rfl, rfl, rfl, rfl, rfl, rfl, rfl, rfl, rfl, rfl, rfl, rfl, rfl, rfl, rfl, rfl, rfl, rfl, rfl, rfl, rfl, rfl, rfl, rfl, rfl, rfl, rfl, rfl, rfl, rfl, rfl, rfl, rfl, rfl, rfl, rfl, rfl, rfl, rfl, rfl, rfl, rfl⟩
theorem Km14.tr {u v w : St} (h1 : Km14 u v) (h2 : Km14 v w) : Km14 u w := ⟨(h2.1).trans h1.1, (h2.2.1).trans h1.2.1, (h2.2.2.1).trans h1.2.2.1, (h2.2.2.2.1).trans h1.2.2.2.1, (h2.2.2.2.2.1).trans h1.2.2.2.2.1, (h2.2.2.2.2.2.1).trans h1.2.2.2.2.2.1, (h2.2.2.2.2.2.2.1).trans h1.2.2.2.2.2.2.1, (h2.2.2.2.2.2.2.2.1).trans h1.2.2.2.2.2.2.2.1, (h2.2.2.2.2.2.2.2.2.1).trans h1.2.2.2.2.2.2.2.2.1, (h2.2.2.2.2.2.2.2.2.2.1).trans h1.2.2.2.2.2.2.2.2.2.1, (h2.2.2.2.2.2.2.2.2.2.2.1).trans h1.2.2.2.2.2.2.2.2.2.2.1, (h2.2.2.2.2.2.2.2.2.2.2.2.1).trans h1.2.2.2.2.2.2.2.2.2.2.2.1, (h2.2.2.2.2.2.2.2.2.2.2.2.2.1).trans h1.2.2.2.2.2.2.2.2.2.2.2.2.1, (h2.2.2.2.2.2.2.2.2.2.2.2.2.2.1).trans h1.2.2.2.2.2.2.2.2.2.2.2.2.2.1, (h2.2.2.2.2.2.2.2.2.2.2.2.2.2.2.1).trans h1.2.2.2.2.2.2.2.2.2.2.2.2.2.2.1, (h2.2.2.2.2.2.2.2.2.2.2.2.2.2.2.2.1).trans h1.2.2.2.2.2.2.2.2.2.2.2.2.2.2.2.1, (h2.2.2.2.2.2.2.2.2.2.2.2.2.2.2.2.2.1).trans h1.2.2.2.2.2.2.2.2.2.2.2.2.2.2.2.2.1, (h2.2.2.2.2.2.2.2.2.2.2.2.2.2.2.2.2.2.1).trans h1.2.2.2.2.2.2.2.2.2.2.2.2.2.2.2.2.2.1, (h2.2.2.2.2.2.2.2.2.2.2.2.2.2.2.2.2.2.2.1).trans h1.2.2.2.2.2.2.2.2.2.2.2.2.2.2.2.2.2.2.1, (h2.2.2.2.2.2.2.2.2.2.2.2.2.2.2.2.2.2.2.2.1).trans h1.2.2.2.2.2.2.2.2.2.2.2.2.2.2.2.2.2.2.2.1, (h2.2.2.2.2.2.2.2.2.2.2.2.2.2.2.2.2.2.2.2.2.1).trans h1.2.2.2.2.2.2.2.2.2.2.2.2.2.2.2.2.2.2.2.2.1, (h2.2.2.2.2.2.2.2.2.2.2.2.2.2.2.2.2.2.2.2.2.2.1).trans h1.2.2.2.2.2.2.2.2.2.2.2.2.2.2.2.2.2.2.2.2.2.1, (h2.2.2.2.2.2.2.2.2.2.2.2.2.2.2.2.2.2.2.2.2.2.2.1).trans h1.2.2.2.2.2.2.2.2.2.2.2.2.2.2.2.2.2.2.2.2.2.2.1, (h2.2.2.2.2.2.2.2.2.2.2.2.2.2.2.2.2.2.2.2.2.2.2.2.1).trans h1.2.2.2.2.2.2.2.2.2.2.2.2.2.2.2.2.2.2.2.2.2.2.2.1, (h2.2.2.2.2.2.2.2.2.2.2.2.2.2.2.2.2.2.2.2.2.2.2.2.2.1).trans h1.2.2.2.2.2.2.2.2.2.2.2.2.2.2.2.2.2.2.2.2.2.2.2.2.1, (h2.2.2.2.2.2.2.2.2.2.2.2.2.2.2.2.2.2.2.2.2.2.2.2.2.2.1).trans h1.2.2.2.2.2.2.2.2.2.2.2.2.2.2.2.2.2.2.2.2.2.2.2.2.2.1, (h2.2.2.2.2.2.2.2.2.2.2.2.2.2.2.2.2.2.2.2.2.2.2.2.2.2.2.1).trans h1.2.2.2.2.2.2.2.2.2.2.2.2.2.2.2.2.2.2.2.2.2.2.2.2.2.2.1, (h2.2.2.2.2.2.2.2.2.2.2.2.2.2.2.2.2.2.2.2.2.2.2.2.2.2.2.2.1).trans h1.2.2.2.2.2.2.2.2.2.2.2.2.2.2.2.2.2.2.2.2.2.2.2.2.2.2.2.1, (h2.2.2.2.2.2.2.2.2.2.2.2.2.2.2.2.2.2.2.2.2.2.2.2.2.2.2.2.2.1).trans h1.2.2.2.2.2.2.2.2.2.2.2.2.2.2.2.2.2.2.2.2.2.2.2.2.2.2.2.2.1, (h2.2.2.2.2.2.2.2.2.2.2.2.2.2.2.2.2.2.2.2.2.2.2.2.2.2.2.2.2.2.1).trans h1.2.2.2.2.2.2.2.2.2.2.2.2.2.2.2.2.2.2.2.2.2.2.2.2.2.2.2.2.2.1, (h2.2.2.2.2.2.2.2.2.2.2.2.2.2.2.2.2.2.2.2.2.2.2.2.2.2.2.2.2.2.2.1).trans h1.2.2.2.2.2.2.2.2.2.2.2.2.2.2.2.2.2.2.2.2.2.2.2.2.2.2.2.2.2.2.1, (h2.2.2.2.2.2.2.2.2.2.2.2.2.2.2.2.2.2.2.2.2.2.2.2.2.2.2.2.2.2.2.2.1).trans h1.2.2.2.2.2.2.2.2.2.2.2.2.2.2.2.2.2.2.2.2.2.2.2.2.2.2.2.2.2.2.2.1, (h2.2.2.2.2.2.2.2.2.2.2.2.2.2.2.2.2.2.2.2.2.2.2.2.2.2.2.2.2.2.2.2.2.1).trans h1.2.2.2.2.2.2.2.2.2.2.2.2.2.2.2.2.2.2.2.2.2.2.2.2.2.2.2.2.2.2.2.2.1, (h2.2.2.2.2.2.2.2.2.2.2.2.2.2.2.2.2.2.2.2.2.2.2.2.2.2.2.2.2.2.2.2.2.2.1).trans h1.2.2.2.2.2.2.2.2.2.2.2.2.2.2.2.2.2.2.2.2.2.2.2.2.2.2.2.2.2.2.2.2.2.1, (h2.2.2.2.2.2.2.2.2.2.2.2.2.2.2.2.2.2.2.2.2.2.2.2.2.2.2.2.2.2.2.2.2.2.2.1).trans h1.2.2.2.2.2.2.2.2.2.2.2.2.2.2.2.2.2.2.2.2.2.2.2.2.2.2.2.2.2.2.2.2.2.2.1, (h2.2.2.2.2.2.2.2.2.2.2.2.2.2.2.2.2.2.2.2.2.2.2.2.2.2.2.2.2.2.2.2.2.2.2.2.1).trans h1.2.2.2.2.2.2.2.2.2.2.2.2.2.2.2.2.2.2.2.2.2.2.2.2.2.2.2.2.2.2.2.2.2.2.2.1, (h2.2.2.2.2.2.2.2.2.2.2.2.2.2.2.2.2.2.2.2.2.2.2.2.2.2.2.2.2.2.2.2.2.2.2.2.2.1).trans h1.2.2.2.2.2.2.2.2.2.2.2.2.2.2.2.2.2.2.2.2.2.2.2.2.2.2.2.2.2.2.2.2.2.2.2.2.1, (h2.2.2.2.2.2.2.2.2.2.2.2.2.2.2.2.2.2.2.2.2.2.2.2.2.2.2.2.2.2.2.2.2.2.2.2.2.2.1).trans h1.2.2.2.2.2.2.2.2.2.2.2.2.2.2.2.2.2.2.2.2.2.2.2.2.2.2.2.2.2.2.2.2.2.2.2.2.2.1, (h2.2.2.2.2.2.2.2.2.2.2.2.2.2.2.2.2.2.2.2.2.2.2.2.2.2.2.2.2.2.2.2.2.2.2.2.2.2.2.1).trans h1.2.2.2.2.2.2.2.2.2.2.2.2.2.2.2.2.2.2.2.2.2.2.2.2.2.2.2.2.2.2.2.2.2.2.2.2.2.2.1, (h2.2.2.2.2.2.2.2.2.2.2.2.2.2.2.2.2.2.2.2.2.2.2.2.2.2.2.2.2.2.2.2.2.2.2.2.2.2.2.2.1).trans h1.2.2.2.2.2.2.2.2.2.2.2.2.2.2.2.2.2.2.2.2.2.2.2.2.2.2.2.2.2.2.2.2.2.2.2.2.2.2.2.1, (h2.2.2.2.2.2.2.2.2.2.2.2.2.2.2.2.2.2.2.2.2.2.2.2.2.2.2.2.2.2.2.2.2.2.2.2.2.2.2.2.2.1).trans h1.2.2.2.2.2.2.2.2.2.2.2.2.2.2.2.2.2.2.2.2.2.2.2.2.2.2.2.2.2.2.2.2.2.2.2.2.2.2.2.2.1, (h2.2.2.2.2.2.2.2.2.2.2.2.2.2.2.2.2.2.2.2.2.2.2.2.2.2.2.2.2.2.2.2.2.2.2.2.2.2.2.2.2.2.1).trans h1.2.2.2.2.2.2.2.2.2.2.2.2.2.2.2.2.2.2.2.2.2.2.2.2.2.2.2.2.2.2.2.2.2.2.2.2.2.2.2.2.2.1, (h2.2.2.2.2.2.2.2.2.2.2.2.2.2.2.2.2.2.2.2.2.2.2.2.2.2.2.2.2.2.2.2.2.2.2.2.2.2.2.2.2.2.2.1).trans h1.2.2.2.2.2.2.2.2.2.2.2.2.2.2.2.2.2.2.2.2.2.2.2.2.2.2.2.2.2.2.2.2.2.2.2.2.2.2.2.2.2.2.1, (h2.2.2.2.2.2.2.2.2.2.2.2.2.2.2.2.2.2.2.2.2.2.2.2.2.2.2.2.2.2.2.2.2.2.2.2.2.2.2.2.2.2.2.2.1).trans h1.2.2.2.2.2.2.2.2.2.2.2.2.2.2.2.2.2.2.2.2.2.2.2.2.2.2.2.2.2.2.2.2.2.2.2.2.2.2.2.2.2.2.2.1, (h2.2.2.2.2.2.2.2.2.2.2.2.2.2.2.2.2.2.2.2.2.2.2.2.2.2.2.2.2.2.2.2.2.2.2.2.2.2.2.2.2.2.2.2.2.1).trans h1.2.2.2.2.2.2.2.2.2.2.2.2.2.2.2.2.2.2.2.2.2.2.2.2.2.2.2.2.2.2.2.2.2.2.2.2.2.2.2.2.2.2.2.2.1, (h2.2.2.2.2.2.2.2.2.2.2.2.2.2.2.2.2.2.2.2.2.2.2.2.2.2.2.2.2.2.2.2.2.2.2.2.2.2.2.2.2.2.2.2.2.2.1).trans h1.2.2.2.2.2.2.2.2.2.2.2.2.2.2.2.2.2.2.2.2.2.2.2.2.2.2.2.2.2.2.2.2.2.2.2.2.2.2.2.2.2.2.2.2.2.1, (h2.2.2.2.2.2.2.2.2.2.2.2.2.2.2.2.2.2.2.2.2.2.2.2.2.2.2.2.2.2.2.2.2.2.2.2.2.2.2.2.2.2.2.2.2.2.2.1).trans h1.2.2.2.2.2.2.2.2.2.2.2.2.2.2.2.2.2.2.2.2.2.2.2.2.2.2.2.2.2.2.2.2.2.2.2.2.2.2.2.2.2.2.2.2.2.2.1, (h2.2.2.2.2.2.2.2.2.2.2.2.2.2.2.2.2.2.2.2.2.2.2.2.2.2.2.2.2.2.2.2.2.2.2.2.2.2.2.2.2.2.2.2.2.2.2.2.1).trans h1.2.2.2.2.2.2.2.2.2.2.2.2.2.2.2.2.2.2.2.2.2.2.2.2.2.2.2.2.2.2.2.2.2.2.2.2.2.2.2.2.2.2.2.2.2.2.2.1, (h2.2.2.2.2.2.2.2.2.2.2.2.2.2.2.2.2.2.2.2.2.2.2.2.2.2.2.2.2.2.2.2.2.2.2.2.2.2.2.2.2.2.2.2.2.2.2.2.2.1).trans h1.2.2.2.2.2.2.2.2.2.2.2.2.2.2.2.2.2.2.2.2.2.2.2.2.2.2.2.2.2.2.2.2.2.2.2.2.2.2.2.2.2.2.2.2.2.2.2.2.1, (h2.2.2.2.2.2.2.2.2.2.2.2.2.2.2.2.2.2.2.2.2.2.2.2.2.2.2.2.2.2.2.2.2.2.2.2.2.2.2.2.2.2.2.2.2.2.2.2.2.2.1).trans h1.2.2.2.2.2.2.2.2.2.2.2.2.2.2.2.2.2.2.2.2.2.2.2.2.2.2.2.2.2.2.2.2.2.2.2.2.2.2.2.2.2.2.2.2.2.2.2.2.2.1, (h2.2.2.2.2.2.2.2.2.2.2.2.2.2.2.2.2.2.2.2.2.2.2.2.2.2.2.2.2.2.2.2.2.2.2.2.2.2.2.2.2.2.2.2.2.2.2.2.2.2.2.1).trans h1.2.2.2.2.2.2.2.2.2.2.2.2.2.2.2.2.2.2.2.2.2.2.2.2.2.2.2.2.2.2.2.2.2.2.2.2.2.2.2.2.2.2.2.2.2.2.2.2.2.2.1, (h2.2.2.2.2.2.2.2.2.2.2.2.2.2.2.2.2.2.2.2.2.2.2.2.2.2.2.2.2.2.2.2.2.2.2.2.2.2.2.2.2.2.2.2.2.2.2.2.2.2.2.2.1).trans h1.2.2.2.2.2.2.2.2.2.2.2.2.2.2.2.2.2.2.2.2.2.2.2.2.2.2.2.2.2.2.2.2.2.2.2.2.2.2.2.2.2.2.2.2.2.2.2.2.2.2.2.1, (h2.2.2.2.2.2.2.2.2.2.2.2.2.2.2.2.2.2.2.2.2.2.2.2.2.2.2.2.2.2.2.2.2.2.2.2.2.2.2.2.2.2.2.2.2.2.2.2.2.2.2.2.2.1).trans h1.2.2.2.2.2.2.2.2.2.2.2.2.2.2.2.2.2.2.2.2.2.2.2.2.2.2.2.2.2.2.2.2.2.2.2.2.2.2.2.2.2.2.2.2.2.2.2.2.2.2.2.2.1, (h2.2.2.2.2.2.2.2.2.2.2.2.2.2.2.2.2.2.2.2.2.2.2.2.2.2.2.2.2.2.2.2.2.2.2.2.2.2.2.2.2.2.2.2.2.2.2.2.2.2.2.2.2.2.1).trans h1.2.2.2.2.2.2.2.2.2.2.2.2.2.2.2.2.2.2.2.2.2.2.2.2.2.2.2.2.2.2.2.2.2.2.2.2.2.2.2.2.2.2.2.2.2.2.2.2.2.2.2.2.2.1, (h2.2.2.2.2.2.2.2.2.2.2.2.2.2.2.2.2.2.2.2.2.2.2.2.2.2.2.2.2.2.2.2.2.2.2.2.2.2.2.2.2.2.2.2.2.2.2.2.2.2.2.2.2.2.2.1).trans h1.2.2.2.2.2.2.2.2.2.2.2.2.2.2.2.2.2.2.2.2.2.2.2.2.2.2.2.2.2.2.2.2.2.2.2.2.2.2.2.2.2.2.2.2.2.2.2.2.2.2.2.2.2.2.1, (h2.2.2.2.2.2.2.2.2.2.2.2.2.2.2.2.2.2.2.2.2.2.2.2.2.2.2.2.2.2.2.2.2.2.2.2.2.2.2.2.2.2.2.2.2.2.2.2.2.2.2.2.2.2.2.2.1).trans h1.2.2.2.2.2.2.2.2.2.2.2.2.2.2.2.2.2.2.2.2.2.2.2.2.2.2.2.2.2.2.2.2.2.2.2.2.2.2.2.2.2.2.2.2.2.2.2.2.2.2.2.2.2.2.2.1, (h2.2.2.2.2.2.2.2.2.2.2.2.2.2.2.2.2.2.2.2.2.2.2.2.2.2.2.2.2.2.2.2.2.2.2.2.2.2.2.2.2.2.2.2.2.2.2.2.2.2.2.2.2.2.2.2.2.1).trans h1.2.2.2.2.2.2.2.2.2.2.2.2.2.2.2.2.2.2.2.2.2.2.2.2.2.2.2.2.2.2.2.2.2.2.2.2.2.2.2.2.2.2.2.2.2.2.2.2.2.2.2.2.2.2.2.2.1, (h2.2.2.2.2.2.2.2.2.2.2.2.2.2.2.2.2.2.2.2.2.2.2.2.2.2.2.2.2.2.2.2.2.2.2.2.2.2.2.2.2.2.2.2.2.2.2.2.2.2.2.2.2.2.2.2.2.2.1).trans h1.2.2.2.2.2.2.2.2.2.2.2.2.2.2.2.2.2.2.2.2.2.2.2.2.2.2.2.2.2.2.2.2.2.2.2.2.2.2.2.2.2.2.2.2.2.2.2.2.2.2.2.2.2.2.2.2.2.1, (h2.2.2.2.2.2.2.2.2.2.2.2.2.2.2.2.2.2.2.2.2.2.2.2.2.2.2.2.2.2.2.2.2.2.2.2.2.2.2.2.2.2.2.2.2.2.2.2.2.2.2.2.2.2.2.2.2.2.2.1).trans h1.2.2.2.2.2.2.2.2.2.2.2.2.2.2.2.2.2.2.2.2.2.2.2.2.2.2.2.2.2.2.2.2.2.2.2.2.2.2.2.2.2.2.2.2.2.2.2.2.2.2.2.2.2.2.2.2.2.2.1, (h2.2.2.2.2.2.2.2.2.2.2.2.2.2.2.2.2.2.2.2.2.2.2.2.2.2.2.2.2.2.2.2.2.2.2.2.2.2.2.2.2.2.2.2.2.2.2.2.2.2.2.2.2.2.2.2.2.2.2.2.1).trans h1.2.2.2.2.2.2.2.2.2.2.2.2.2.2.2.2.2.2.2.2.2.2.2.2.2.2.2.2.2.2.2.2.2.2.2.2.2.2.2.2.2.2.2.2.2.2.2.2.2.2.2.2.2.2.2.2.2.2.2.1, (h2.2.2.2.2.2.2.2.2.2.2.2.2.2.2.2.2.2.2.2.2.2.2.2.2.2.2.2.2.2.2.2.2.2.2.2.2.2.2.2.2.2.2.2.2.2.2.2.2.2.2.2.2.2.2.2.2.2.2.2.2.1).trans h1.2.2.2.2.2.2.2.2.2.2.2.2.2.2.2.2.2.2.2.2.2.2.2.2.2.2.2.2.2.2.2.2.2.2.2.2.2.2.2.2.2.2.2.2.2.2.2.2.2.2.2.2.2.2.2.2.2.2.2.2.1, (h2.2.2.2.2.2.2.2.2.2.2.2.2.2.2.2.2.2.2.2.2.2.2.2.2.2.2.2.2.2.2.2.2.2.2.2.2.2.2.2.2.2.2.2.2.2.2.2.2.2.2.2.2.2.2.2.2.2.2.2.2.2.1).trans h1.2.2.2.2.2.2.2.2.2.2.2.2.2.2.2.2.2.2.2.2.2.2.2.2.2.2.2.2.2.2.2.2.2.2.2.2.2.2.2.2.2.2.2.2.2.2.2.2.2.2.2.2.2.2.2.2.2.2.2.2.2.1, (h2.2.2.2.2.2.2.2.2.2.2.2.2.2.2.2.2.2.2.2.2.2.2.2.2.2.2.2.2.2.2.2.2.2.2.2.2.2.2.2.2.2.2.2.2.2.2.2.2.2.2.2.2.2.2.2.2.2.2.2.2.2.2.1).trans h1.2.2.2.2.2.2.2.2.2.2.2.2.2.2.2.2.2.2.2.2.2.2.2.2.2.2.2.2.2.2.2.2.2.2.2.2.2.2.2.2.2.2.2.2.2.2.2.2.2.2.2.2.2.2.2.2.2.2.2.2.2.2.1, (h2.2.2.2.2.2.2.2.2.2.2.2.2.2.2.2.2.2.2.2.2.2.2.2.2.2.2.2.2.2.2.2.2.2.2.2.2.2.2.2.2.2.2.2.2.2.2.2.2.2.2.2.2.2.2.2.2.2.2.2.2.2.2.2).trans h1.2.2.2.2.2.2.2.2.2.2.2.2.2.2.2.2.2.2.2.2.2.2.2.2.2.2.2.2.2.2.2.2.2.2.2.2.2.2.2.2.2.2.2.2.2.2.2.2.2.2.2.2.2.2.2.2.2.2.2.2.2.2.2⟩
theorem dX11_layTold_0 : decode cX11_layTold 0 = .ok (.iconst 0, 1) := by decide +kernel
theorem dX11_layTold_1 : decode cX11_layTold 1 = .ok (.istore_n 1, 1) := by decide +kernel
theorem dX11_layTold_2 : decode cX11_layTold 2 = .ok (.iload_n 1, 1) := by decide +kernel
theorem dX11_layTold_3 : decode cX11_layTold 3 = .ok (.bipush 29, 2) := by decide +kernel
theorem dX11_layTold_5 : decode cX11_layTold 5 = .ok (.if_icmp .ge 16, 3) := by decide +kernel
theorem dX11_layTold_8 : decode cX11_layTold 8 = .ok (.aload_n 0, 1) := by decide +kernel
theorem dX11_layTold_9 : decode cX11_layTold 9 = .ok (.getfield 97, 3) := by decide +kernel
theorem dX11_layTold_12 : decode cX11_layTold 12 = .ok (.iload_n 1, 1) := by decide +kernel
theorem dX11_layTold_13 : decode cX11_layTold 13 = .ok (.iconst 0, 1) := by decide +kernel
theorem dX11_layTold_14 : decode cX11_layTold 14 = .ok (.iastore, 1) := by decide +kernel
theorem dX11_layTold_15 : decode cX11_layTold 15 = .ok (.iinc 1 1, 3) := by decide +kernel
theorem dX11_layTold_18 : decode cX11_layTold 18 = .ok (.goto (-16), 3) := by decide +kernel
theorem dX11_layTold_21 : decode cX11_layTold 21 = .ok (.iconst 0, 1) := by decide +kernel
theorem dX11_layTold_22 : decode cX11_layTold 22 = .ok (.istore_n 1, 1) := by decide +kernel
theorem dX11_layTold_23 : decode cX11_layTold 23 = .ok (.iload_n 1, 1) := by decide +kernel
theorem dX11_layTold_24 : decode cX11_layTold 24 = .ok (.aload_n 0, 1) := by decide +kernel
theorem dX11_layTold_25 : decode cX11_layTold 25 = .ok (.invokevirtual 371, 3) := by decide +kernel
theorem dX11_layTold_28 : decode cX11_layTold 28 = .ok (.if_icmp .ge 32, 3) := by decide +kernel
theorem dX11_layTold_31 : decode cX11_layTold 31 = .ok (.aload_n 0, 1) := by decide +kernel
theorem dX11_layTold_32 : decode cX11_layTold 32 = .ok (.getfield 97, 3) := by decide +kernel
theorem dX11_layTold_35 : decode cX11_layTold 35 = .ok (.bipush 6, 2) := by decide +kernel
theorem dX11_layTold_37 : decode cX11_layTold 37 = .ok (.iload_n 1, 1) := by decide +kernel
theorem dX11_layTold_38 : decode cX11_layTold 38 = .ok (.iadd, 1) := by decide +kernel
theorem dX11_layTold_39 : decode cX11_layTold 39 = .ok (.aload_n 0, 1) := by decide +kernel
theorem dX11_layTold_40 : decode cX11_layTold 40 = .ok (.getfield 63, 3) := by decide +kernel
theorem dX11_layTold_43 : decode cX11_layTold 43 = .ok (.bipush 6, 2) := by decide +kernel
theorem dX11_layTold_45 : decode cX11_layTold 45 = .ok (.aload_n 0, 1) := by decide +kernel
theorem dX11_layTold_46 : decode cX11_layTold 46 = .ok (.getfield 255, 3) := by decide +kernel
theorem dX11_layTold_49 : decode cX11_layTold 49 = .ok (.imul, 1) := by decide +kernel
theorem dX11_layTold_50 : decode cX11_layTold 50 = .ok (.iload_n 1, 1) := by decide +kernel
theorem dX11_layTold_51 : decode cX11_layTold 51 = .ok (.iadd, 1) := by decide +kernel
theorem dX11_layTold_52 : decode cX11_layTold 52 = .ok (.iaload, 1) := by decide +kernel
theorem dX11_layTold_53 : decode cX11_layTold 53 = .ok (.iastore, 1) := by decide +kernel
theorem dX11_layTold_54 : decode cX11_layTold 54 = .ok (.iinc 1 1, 3) := by decide +kernel
theorem dX11_layTold_57 : decode cX11_layTold 57 = .ok (.goto (-34), 3) := by decide +kernel
theorem dX11_layTold_60 : decode cX11_layTold 60 = .ok (.aload_n 0, 1) := by decide +kernel
theorem dX11_layTold_61 : decode cX11_layTold 61 = .ok (.getfield 97, 3) := by decide +kernel
theorem dX11_layTold_64 : decode cX11_layTold 64 = .ok (.bipush 24, 2) := by decide +kernel
theorem dX11_layTold_66 : decode cX11_layTold 66 = .ok (.aload_n 0, 1) := by decide +kernel
theorem dX11_layTold_67 : decode cX11_layTold 67 = .ok (.invokevirtual 380, 3) := by decide +kernel
theorem dX11_layTold_70 : decode cX11_layTold 70 = .ok (.ifCond .ne 7, 3) := by decide +kernel
theorem dX11_layTold_73 : decode cX11_layTold 73 = .ok (.iconst (-1), 1) := by decide +kernel
theorem dX11_layTold_74 : decode cX11_layTold 74 = .ok (.goto 12, 3) := by decide +kernel
theorem dX11_layTold_77 : decode cX11_layTold 77 = .ok (.aload_n 0, 1) := by decide +kernel
theorem dX11_layTold_78 : decode cX11_layTold 78 = .ok (.getfield 36, 3) := by decide +kernel
theorem dX11_layTold_81 : decode cX11_layTold 81 = .ok (.aload_n 0, 1) := by decide +kernel
theorem dX11_layTold_82 : decode cX11_layTold 82 = .ok (.getfield 255, 3) := by decide +kernel
theorem dX11_layTold_85 : decode cX11_layTold 85 = .ok (.iaload, 1) := by decide +kernel
theorem dX11_layTold_86 : decode cX11_layTold 86 = .ok (.iastore, 1) := by decide +kernel
theorem dX11_layTold_87 : decode cX11_layTold 87 = .ok (.aload_n 0, 1) := by decide +kernel
theorem dX11_layTold_88 : decode cX11_layTold 88 = .ok (.getfield 97, 3) := by decide +kernel
theorem dX11_layTold_91 : decode cX11_layTold 91 = .ok (.bipush 27, 2) := by decide +kernel
theorem dX11_layTold_93 : decode cX11_layTold 93 = .ok (.aload_n 0, 1) := by decide +kernel
theorem dX11_layTold_94 : decode cX11_layTold 94 = .ok (.getfield 42, 3) := by decide +kernel
theorem dX11_layTold_97 : decode cX11_layTold 97 = .ok (.aload_n 0, 1) := by decide +kernel
theorem dX11_layTold_98 : decode cX11_layTold 98 = .ok (.getfield 255, 3) := by decide +kernel
theorem dX11_layTold_101 : decode cX11_layTold 101 = .ok (.iaload, 1) := by decide +kernel
theorem dX11_layTold_102 : decode cX11_layTold 102 = .ok (.iastore, 1) := by decide +kernel
theorem dX11_layTold_103 : decode cX11_layTold 103 = .ok (.aload_n 0, 1) := by decide +kernel
theorem dX11_layTold_104 : decode cX11_layTold 104 = .ok (.getfield 97, 3) := by decide +kernel
theorem dX11_layTold_107 : decode cX11_layTold 107 = .ok (.bipush 28, 2) := by decide +kernel
theorem dX11_layTold_109 : decode cX11_layTold 109 = .ok (.aload_n 0, 1) := by decide +kernel
theorem dX11_layTold_110 : decode cX11_layTold 110 = .ok (.getfield 48, 3) := by decide +kernel
theorem dX11_layTold_113 : decode cX11_layTold 113 = .ok (.aload_n 0, 1) := by decide +kernel
theorem dX11_layTold_114 : decode cX11_layTold 114 = .ok (.getfield 255, 3) := by decide +kernel
theorem dX11_layTold_117 : decode cX11_layTold 117 = .ok (.iaload, 1) := by decide +kernel
theorem dX11_layTold_118 : decode cX11_layTold 118 = .ok (.iastore, 1) := by decide +kernel
theorem dX11_layTold_119 : decode cX11_layTold 119 = .ok (.return_, 1) := by decide +kernel
theorem wd_1347 : (Cond.code ⟨"WebCourtModel", "layTold", "()V"⟩ prog_13_method_55_code (2 : Nat) (Option.none : Option FieldType)) ∈ gtb := gtb_c6 38 (by decide +kernel) rfl
theorem Km14_I36 {u v : St} (h : Km14 u v) : fI v 0 36 = fI u 0 36 := h.2.2.2.2.2.2.2.2.2.1
theorem Km14_A6 {u v : St} (h : Km14 u v) : fA v 6 = fA u 6 := h.2.2.2.2.2.2.2.2.2.2.2.2.2.2.2.2.2.2.2.2.2.2.2.2.2.2.2.2.1
theorem Km14_A3 {u v : St} (h : Km14 u v) : fA v 3 = fA u 3 := h.2.2.2.2.2.2.2.2.2.2.2.2.2.2.2.2.2.2.2.2.2.2.2.2.2.1
theorem wd_1372 : (Cond.fieldLink "WebCourtModel" (36 : Nat) "WebCourtModel" "bench" "[I") ∈ gtb := gtb_c6 63 (by decide +kernel) rfl
theorem gf_RX11_36 {p : Program} {l : Launch} {e : Env} {R : Room} {s : State} {m : MethodId} {args : Array Value} {below : List Frame} {meth : Method} {c : Code} {H : Heap} {locs : List Loc} {cells slots : Nat} {Q : State → Prop} {cc : ByteArray} {pc nL : Nat} {ls : Array Slot} {rest : List Value} {D : va_G} {cy : Nat → ClassId} {A : Nat → Prop} {ws : va_W} {b : Nat} {fs : List Value} {v : Value} (C : Cx p s m args c cc nL RX11 D cy A) (hO : Wo D A ws s.heap H locs) (q0 : Nat) (he : ws[q0]? = some (b, .inr (11, fs))) (hv : fs[16]? = some v) (hdg : decode cc pc = .ok (.getfield 36, 3)) (kk : W p l e R s m args below meth c H locs cells slots Q (F0 m (pc + 3) ls (v :: rest))) : W p l e R s m args below meth c H locs cells slots Q (F0 m pc ls (.ref b :: rest)) := gF (k := 16) C hO q0 he rfl inFX11 (by decide) wd_1372 rfl hv hdg kk
theorem Km14_A8 {u v : St} (h : Km14 u v) : fA v 8 = fA u 8 := h.2.2.2.2.2.2.2.2.2.2.2.2.2.2.2.2.2.2.2.2.2.2.2.2.2.2.2.2.2.2.1
theorem wd_1374 : (Cond.fieldLink "WebCourtModel" (42 : Nat) "WebCourtModel" "draw" "[I") ∈ gtb := gtb_c6 65 (by decide +kernel) rfl
theorem gf_RX11_42 {p : Program} {l : Launch} {e : Env} {R : Room} {s : State} {m : MethodId} {args : Array Value} {below : List Frame} {meth : Method} {c : Code} {H : Heap} {locs : List Loc} {cells slots : Nat} {Q : State → Prop} {cc : ByteArray} {pc nL : Nat} {ls : Array Slot} {rest : List Value} {D : va_G} {cy : Nat → ClassId} {A : Nat → Prop} {ws : va_W} {b : Nat} {fs : List Value} {v : Value} (C : Cx p s m args c cc nL RX11 D cy A) (hO : Wo D A ws s.heap H locs) (q0 : Nat) (he : ws[q0]? = some (b, .inr (11, fs))) (hv : fs[18]? = some v) (hdg : decode cc pc = .ok (.getfield 42, 3)) (kk : W p l e R s m args below meth c H locs cells slots Q (F0 m (pc + 3) ls (v :: rest))) : W p l e R s m args below meth c H locs cells slots Q (F0 m pc ls (.ref b :: rest)) := gF (k := 18) C hO q0 he rfl inFX11 (by decide) wd_1374 rfl hv hdg kk
theorem Km14_A10 {u v : St} (h : Km14 u v) : fA v 10 = fA u 10 := h.2.2.2.2.2.2.2.2.2.2.2.2.2.2.2.2.2.2.2.2.2.2.2.2.2.2.2.2.2.2.2.2.1
theorem wd_1376 : (Cond.fieldLink "WebCourtModel" (48 : Nat) "WebCourtModel" "stickyTold" "[I") ∈ gtb := gtb_c6 67 (by decide +kernel) rfl
theorem gf_RX11_48 {p : Program} {l : Launch} {e : Env} {R : Room} {s : State} {m : MethodId} {args : Array Value} {below : List Frame} {meth : Method} {c : Code} {H : Heap} {locs : List Loc} {cells slots : Nat} {Q : State → Prop} {cc : ByteArray} {pc nL : Nat} {ls : Array Slot} {rest : List Value} {D : va_G} {cy : Nat → ClassId} {A : Nat → Prop} {ws : va_W} {b : Nat} {fs : List Value} {v : Value} (C : Cx p s m args c cc nL RX11 D cy A) (hO : Wo D A ws s.heap H locs) (q0 : Nat) (he : ws[q0]? = some (b, .inr (11, fs))) (hv : fs[20]? = some v) (hdg : decode cc pc = .ok (.getfield 48, 3)) (kk : W p l e R s m args below meth c H locs cells slots Q (F0 m (pc + 3) ls (v :: rest))) : W p l e R s m args below meth c H locs cells slots Q (F0 m pc ls (.ref b :: rest)) := gF (k := 20) C hO q0 he rfl inFX11 (by decide) wd_1376 rfl hv hdg kk
theorem Km14_A12 {u v : St} (h : Km14 u v) : fA v 12 = fA u 12 := h.2.2.2.2.2.2.2.2.2.2.2.2.2.2.2.2.2.2.2.2.2.2.2.2.2.2.2.2.2.2.2.2.2.2.1
theorem Km14_A17 {u v : St} (h : Km14 u v) : fA v 17 = fA u 17 := h.2.2.2.2.2.2.2.2.2.2.2.2.2.2.2.2.2.2.2.2.2.2.2.2.2.2.2.2.2.2.2.2.2.2.2.2.2.2.2.1
set_option maxHeartbeats 4000000 in
set_option maxRecDepth 100000 in
theorem T_X11_layTold (l : Launch) (D : va_G) (cy : Nat → ClassId) (a : Nat → Nat) (u : St) (hJ : MB a u) (gk : Int32) (hgk : fA u 3 (fI u 0 36).toNatClampNeg = gk)   : Mv l D cy (mW cy a) yX11_layTold (.code yX11_layTold cX11_layTold 2 none) (rmo 1 20) [.ref (a 0)] u (fun (u' : St) => (MB a u') ∧ (Km14 u u') ∧ (Sh gk (fA u' 28 24))) := by
  refine Mv.of (own := RX11) rfl (by decide) (Nat.le_of_ble_eq_true rfl) ?_
  have hT : Km14 u u := Km14.rf
  have hJ0 := hJ
  intro p e s m below meth c A Q ls C hret hO hl
  obtain ⟨hx, hb, hml, hown, ht, hK, hA⟩ := id C
  have hl : lv_has ls 2 [(0, .ref (a 0))] := hl
  refine lv_iconst (v := 0) hx hb dX11_layTold_0 (by decide) ?_
  refine lv_istore_n (lv' := [(1, .int 0), (0, .ref (a 0))]) hx hb dX11_layTold_1 rfl hl (by decide) rfl (fun ls hl => ?_)
  have LP_2_k2 : ∀ (n : Nat) (u1 : St) (H : Heap) (locs : List Loc) (ls : Array Slot) (i_k2 : Int32), Wo D A (mW cy a u1) s.heap H locs → lv_has ls 2 [(1, .int i_k2), (0, .ref (a 0))] → MB a u1 → Km14 u u1 → 0 ≤ i_k2.toInt ∧ i_k2.toInt ≤ 29 → 29 - i_k2.toInt < (n : Int) → W p l e (rmo 1 20) s m [.ref (a 0)].toArray below meth c H locs 0 0 Q (F0 m 2 ls []) := by
    intro n
    induction n with
    | zero =>
      intro u1 H locs ls i_k2 hO hl hJ hT iv0_k2 hm_k2
      exact absurd hm_k2 (by omega)
    | succ n ih_k2 =>
      intro u1 H locs ls i_k2 hO hl hJ hT iv0_k2 hm_k2
      refine lv_iload_n hx hb dX11_layTold_2 rfl (lv_at hl 0 rfl) ?_
      refine lv_bipush (v := 29) hx hb dX11_layTold_3 (by decide) ?_
      refine cs_ge (tgt := 21) (X := (i_k2).toInt) (Y := 29) hx hb dX11_layTold_5 (by decide) rfl rfl (fun c3 => ?_) (fun c3 => ?_)
      · refine lv_iconst (v := 0) hx hb dX11_layTold_21 (by decide) ?_
        refine lv_istore_n (lv' := [(1, .int 0), (0, .ref (a 0))]) hx hb dX11_layTold_22 rfl hl (by decide) rfl (fun ls hl => ?_)
        have LP_23_k5 : ∀ (n : Nat) (u4 : St) (H : Heap) (locs : List Loc) (ls : Array Slot) (i_k5 : Int32), Wo D A (mW cy a u4) s.heap H locs → lv_has ls 2 [(1, .int i_k5), (0, .ref (a 0))] → MB a u4 → Km14 u u4 → 0 ≤ i_k5.toInt ∧ i_k5.toInt ≤ 6 → 6 - i_k5.toInt < (n : Int) → W p l e (rmo 1 20) s m [.ref (a 0)].toArray below meth c H locs 0 0 Q (F0 m 23 ls []) := by
          intro n
          induction n with
          | zero =>
            intro u4 H locs ls i_k5 hO hl hJ hT iv0_k5 hm_k5
            exact absurd hm_k5 (by omega)
          | succ n ih_k5 =>
            intro u4 H locs ls i_k5 hO hl hJ hT iv0_k5 hm_k5
            refine lv_iload_n hx hb dX11_layTold_23 rfl (lv_at hl 0 rfl) ?_
            refine lv_aload_n hx hb dX11_layTold_24 rfl (lv_at hl 1 rfl) ?_
            have g6 : 0 ≤ (fI u 0 36).toInt ∧ (fI u 0 36).toInt ≤ 1 := by have h := MB_36 hJ0; exact h
            have g7 : 0 ≤ (fA u 6 ((fI u 0 36)).toNatClampNeg).toInt ∧ (fA u 6 ((fI u 0 36)).toNatClampNeg).toInt ≤ 6 := by have h := MB_A6 hJ0 ((fI u 0 36)).toNatClampNeg; exact h
            refine cVi (w := mW cy a) (As := []) (rest := [.int i_k5]) C hO (T_X11_many_b l D cy a _ (by exact hJ) ((fA u 6 ((fI u 0 36)).toNatClampNeg)) (by exact (Eq.trans (congrArg (fun z : Int32 => fA _ 6 z.toNatClampNeg) (Km14_I36 hT)) (congrFun (Km14_A6 hT) _)))) (cwV 0 ht (gV wd_1348 wd_1350 wd_46 wd_121 wd_1351) rfl rfl rfl hd_yX11_many ⟨Nat.le_of_ble_eq_true rfl, Nat.le_of_ble_eq_true rfl⟩) 0 rfl mW_0 rfl rfl hl.1 (Nat.le_of_ble_eq_true rfl) dX11_layTold_25 rfl ⟨Nat.zero_le _, Nat.zero_le _⟩ (fun r8 u9 H locs hp10 hO => ?_)
            obtain ⟨hr8, hu9⟩ := hp10
            refine tE hr8 ?_
            rw [hu9] at hO
            refine cs_ge (tgt := 60) (X := (i_k5).toInt) (Y := ((fA u 6 ((fI u 0 36)).toNatClampNeg)).toInt) hx hb dX11_layTold_28 (by decide) rfl rfl (fun c11 => ?_) (fun c11 => ?_)
            · refine lv_aload_n hx hb dX11_layTold_60 rfl (lv_at hl 1 rfl) ?_
              refine gf_RX11_97 (v := .ref (a 28)) C hO 0 mW_0 rfl dX11_layTold_61 ?_
              refine lv_bipush (v := 24) hx hb dX11_layTold_64 (by decide) ?_
              refine lv_aload_n hx hb dX11_layTold_66 rfl (lv_at hl 1 rfl) ?_
              have g12 : 0 ≤ gk.toInt ∧ gk.toInt ≤ 8 := by have h := MB_A3 hJ0 (fI u 0 36).toNatClampNeg; rw [hgk] at h; exact h
              refine cVi (w := mW cy a) (As := []) (rest := [.int 24, .ref (a 28)]) C hO (T_X11_spots_b l D cy a _ (by exact hJ) (gk) (by exact (Eq.trans (congrArg (fun z : Int32 => fA _ 3 z.toNatClampNeg) (Km14_I36 hT)) (Eq.trans (congrFun (Km14_A3 hT) _) hgk)))) (cwV 0 ht (gV wd_1352 wd_1354 wd_47 wd_121 wd_1355) rfl rfl rfl hd_yX11_spots ⟨Nat.le_of_ble_eq_true rfl, Nat.le_of_ble_eq_true rfl⟩) 0 rfl mW_0 rfl rfl hl.1 (Nat.le_of_ble_eq_true rfl) dX11_layTold_67 rfl ⟨Nat.zero_le _, Nat.zero_le _⟩ (fun r13 u14 H locs hp15 hO => ?_)
              obtain ⟨hr13, hu14⟩ := hp15
              refine tE hr13 ?_
              rw [hu14] at hO
              refine bs_ne (tgt := 77) (X := (gk).toInt) hx hb dX11_layTold_70 (by decide) rfl (fun c16 => ?_) (fun c16 => ?_)
              · refine lv_aload_n hx hb dX11_layTold_77 rfl (lv_at hl 1 rfl) ?_
                refine gf_RX11_36 (v := .ref (a 8)) C hO 0 mW_0 rfl dX11_layTold_78 ?_
                refine lv_aload_n hx hb dX11_layTold_81 rfl (lv_at hl 1 rfl) ?_
                refine gf_RX11_255 (v := .int (fI u 0 36)) C hO 0 mW_0 (congrArg (fun z : Int32 => some (Value.int z)) (Km14_I36 hT)) dX11_layTold_82 ?_
                refine aI C hO 8 mW_8 (i_in (X := ((fI u 0 36)).toInt) rfl (by omega) (by omega)) dX11_layTold_85 ?_
                have g17 : 0 ≤ (fA u 8 ((fI u 0 36)).toNatClampNeg).toInt ∧ (fA u 8 ((fI u 0 36)).toNatClampNeg).toInt ≤ 7 := by have h := MB_A8 hJ0 ((fI u 0 36)).toNatClampNeg; exact h
                refine tE (y := (fA u 8 ((fI u 0 36)).toNatClampNeg)) (by exact (congrFun (Km14_A8 hT) _)) ?_
                refine aIs C hO 28 mW_28 (i_in (X := 24) rfl (by omega) (by omega)) mW_s28 dX11_layTold_86 (fun H locs hO => ?_)
                have hJ := MBsA_28 hO hJ
                have hs24 : Sh gk (fA (sA u4 28 (upd (fA u4 28) 24 (fA u 8 ((fI u 0 36)).toNatClampNeg))) 28 24) := ShA_at (Sh.ok (by omega) (by omega))
                refine lv_aload_n hx hb dX11_layTold_87 rfl (lv_at hl 1 rfl) ?_
                refine gf_RX11_97 (v := .ref (a 28)) C hO 0 mW_0 rfl dX11_layTold_88 ?_
                refine lv_bipush (v := 27) hx hb dX11_layTold_91 (by decide) ?_
                refine lv_aload_n hx hb dX11_layTold_93 rfl (lv_at hl 1 rfl) ?_
                refine gf_RX11_42 (v := .ref (a 10)) C hO 0 mW_0 rfl dX11_layTold_94 ?_
                refine lv_aload_n hx hb dX11_layTold_97 rfl (lv_at hl 1 rfl) ?_
                refine gf_RX11_255 (v := .int (fI u 0 36)) C hO 0 mW_0 (congrArg (fun z : Int32 => some (Value.int z)) (Km14_I36 hT)) dX11_layTold_98 ?_
                refine aI C hO 10 mW_10 (i_in (X := ((fI u 0 36)).toInt) rfl (by omega) (by omega)) dX11_layTold_101 ?_
                refine tE (y := (fA u 10 ((fI u 0 36)).toNatClampNeg)) (by exact (congrFun (Km14_A10 hT) _)) ?_
                refine aIs C hO 28 mW_28 (i_in (X := 27) rfl (by omega) (by omega)) mW_s28 dX11_layTold_102 (fun H locs hO => ?_)
                have hJ := MBsA_28 hO hJ
                have hs24 := ShA_ne (i := (27 : Int32).toNatClampNeg) (v := (fA u 10 ((fI u 0 36)).toNatClampNeg)) (by decide) hs24
                refine lv_aload_n hx hb dX11_layTold_103 rfl (lv_at hl 1 rfl) ?_
                refine gf_RX11_97 (v := .ref (a 28)) C hO 0 mW_0 rfl dX11_layTold_104 ?_
                refine lv_bipush (v := 28) hx hb dX11_layTold_107 (by decide) ?_
                refine lv_aload_n hx hb dX11_layTold_109 rfl (lv_at hl 1 rfl) ?_
                refine gf_RX11_48 (v := .ref (a 12)) C hO 0 mW_0 rfl dX11_layTold_110 ?_
                refine lv_aload_n hx hb dX11_layTold_113 rfl (lv_at hl 1 rfl) ?_
                refine gf_RX11_255 (v := .int (fI u 0 36)) C hO 0 mW_0 (congrArg (fun z : Int32 => some (Value.int z)) (Km14_I36 hT)) dX11_layTold_114 ?_
                refine aI C hO 12 mW_12 (i_in (X := ((fI u 0 36)).toInt) rfl (by omega) (by omega)) dX11_layTold_117 ?_
                refine tE (y := (fA u 12 ((fI u 0 36)).toNatClampNeg)) (by exact (congrFun (Km14_A12 hT) _)) ?_
                refine aIs C hO 28 mW_28 (i_in (X := 28) rfl (by omega) (by omega)) mW_s28 dX11_layTold_118 (fun H locs hO => ?_)
                have hJ := MBsA_28 hO hJ
                have hs24 := ShA_ne (i := (28 : Int32).toNatClampNeg) (v := (fA u 12 ((fI u 0 36)).toNatClampNeg)) (by decide) hs24
                refine hret _ _ _ _ _ dX11_layTold_119 ?_ hO
                exact ⟨hJ, hT, hs24⟩
              · refine lv_iconst (v := (-1)) hx hb dX11_layTold_73 (by decide) ?_
                refine lv_goto (tgt := 86) hx hb dX11_layTold_74 (by decide) ?_
                refine aIs C hO 28 mW_28 (i_in (X := 24) rfl (by omega) (by omega)) mW_s28 dX11_layTold_86 (fun H locs hO => ?_)
                have hJ := MBsA_28 hO hJ
                have hs24 : Sh gk (fA (sA u4 28 (upd (fA u4 28) 24 (-1))) 28 24) := ShA_at (Sh.no (by omega))
                refine lv_aload_n hx hb dX11_layTold_87 rfl (lv_at hl 1 rfl) ?_
                refine gf_RX11_97 (v := .ref (a 28)) C hO 0 mW_0 rfl dX11_layTold_88 ?_
                refine lv_bipush (v := 27) hx hb dX11_layTold_91 (by decide) ?_
                refine lv_aload_n hx hb dX11_layTold_93 rfl (lv_at hl 1 rfl) ?_
                refine gf_RX11_42 (v := .ref (a 10)) C hO 0 mW_0 rfl dX11_layTold_94 ?_
                refine lv_aload_n hx hb dX11_layTold_97 rfl (lv_at hl 1 rfl) ?_
                refine gf_RX11_255 (v := .int (fI u 0 36)) C hO 0 mW_0 (congrArg (fun z : Int32 => some (Value.int z)) (Km14_I36 hT)) dX11_layTold_98 ?_
                refine aI C hO 10 mW_10 (i_in (X := ((fI u 0 36)).toInt) rfl (by omega) (by omega)) dX11_layTold_101 ?_
                refine tE (y := (fA u 10 ((fI u 0 36)).toNatClampNeg)) (by exact (congrFun (Km14_A10 hT) _)) ?_
                refine aIs C hO 28 mW_28 (i_in (X := 27) rfl (by omega) (by omega)) mW_s28 dX11_layTold_102 (fun H locs hO => ?_)
                have hJ := MBsA_28 hO hJ
                have hs24 := ShA_ne (i := (27 : Int32).toNatClampNeg) (v := (fA u 10 ((fI u 0 36)).toNatClampNeg)) (by decide) hs24
                refine lv_aload_n hx hb dX11_layTold_103 rfl (lv_at hl 1 rfl) ?_
                refine gf_RX11_97 (v := .ref (a 28)) C hO 0 mW_0 rfl dX11_layTold_104 ?_
                refine lv_bipush (v := 28) hx hb dX11_layTold_107 (by decide) ?_
                refine lv_aload_n hx hb dX11_layTold_109 rfl (lv_at hl 1 rfl) ?_
                refine gf_RX11_48 (v := .ref (a 12)) C hO 0 mW_0 rfl dX11_layTold_110 ?_
                refine lv_aload_n hx hb dX11_layTold_113 rfl (lv_at hl 1 rfl) ?_
                refine gf_RX11_255 (v := .int (fI u 0 36)) C hO 0 mW_0 (congrArg (fun z : Int32 => some (Value.int z)) (Km14_I36 hT)) dX11_layTold_114 ?_
                refine aI C hO 12 mW_12 (i_in (X := ((fI u 0 36)).toInt) rfl (by omega) (by omega)) dX11_layTold_117 ?_
                refine tE (y := (fA u 12 ((fI u 0 36)).toNatClampNeg)) (by exact (congrFun (Km14_A12 hT) _)) ?_
                refine aIs C hO 28 mW_28 (i_in (X := 28) rfl (by omega) (by omega)) mW_s28 dX11_layTold_118 (fun H locs hO => ?_)
                have hJ := MBsA_28 hO hJ
                have hs24 := ShA_ne (i := (28 : Int32).toNatClampNeg) (v := (fA u 12 ((fI u 0 36)).toNatClampNeg)) (by decide) hs24
                refine hret _ _ _ _ _ dX11_layTold_119 ?_ hO
                exact ⟨hJ, hT, hs24⟩
            · refine lv_aload_n hx hb dX11_layTold_31 rfl (lv_at hl 1 rfl) ?_
              refine gf_RX11_97 (v := .ref (a 28)) C hO 0 mW_0 rfl dX11_layTold_32 ?_
              refine lv_bipush (v := 6) hx hb dX11_layTold_35 (by decide) ?_
              refine lv_iload_n hx hb dX11_layTold_37 rfl (lv_at hl 0 rfl) ?_
              have e18 : ((6 + i_k5)).toInt = 6 + (i_k5).toInt := i_add rfl rfl (by omega)
              refine lv_iadd hx hb dX11_layTold_38 ?_
              refine lv_aload_n hx hb dX11_layTold_39 rfl (lv_at hl 1 rfl) ?_
              refine gf_RX11_63 (v := .ref (a 17)) C hO 0 mW_0 rfl dX11_layTold_40 ?_
              refine lv_bipush (v := 6) hx hb dX11_layTold_43 (by decide) ?_
              refine lv_aload_n hx hb dX11_layTold_45 rfl (lv_at hl 1 rfl) ?_
              refine gf_RX11_255 (v := .int (fI u 0 36)) C hO 0 mW_0 (congrArg (fun z : Int32 => some (Value.int z)) (Km14_I36 hT)) dX11_layTold_46 ?_
              have e19 : ((6 * (fI u 0 36))).toInt = 6 * ((fI u 0 36)).toInt := i_mul rfl rfl (by omega)
              refine lv_imul hx hb dX11_layTold_49 ?_
              refine lv_iload_n hx hb dX11_layTold_50 rfl (lv_at hl 0 rfl) ?_
              have e20 : (((6 * (fI u 0 36)) + i_k5)).toInt = (6 * ((fI u 0 36)).toInt) + (i_k5).toInt := i_add e19 rfl (by omega)
              refine lv_iadd hx hb dX11_layTold_51 ?_
              refine aI C hO 17 mW_17 (i_in (X := ((6 * ((fI u 0 36)).toInt) + (i_k5).toInt)) e20 (by omega) (by omega)) dX11_layTold_52 ?_
              have g21 : 0 ≤ (fA u 17 (((6 * (fI u 0 36)) + i_k5)).toNatClampNeg).toInt ∧ (fA u 17 (((6 * (fI u 0 36)) + i_k5)).toNatClampNeg).toInt ≤ 255 := by have h := MB_A17 hJ0 (((6 * (fI u 0 36)) + i_k5)).toNatClampNeg; exact h
              refine tE (y := (fA u 17 (((6 * (fI u 0 36)) + i_k5)).toNatClampNeg)) (by exact (congrFun (Km14_A17 hT) _)) ?_
              refine aIs C hO 28 mW_28 (i_in (X := (6 + (i_k5).toInt)) e18 (by omega) (by omega)) mW_s28 dX11_layTold_53 (fun H locs hO => ?_)
              have hJ := MBsA_28 hO hJ
              have e22 : ((i_k5 + 1)).toInt = (i_k5).toInt + 1 := i_add rfl rfl (by omega)
              refine lv_iinc (v := (i_k5 + 1)) (lv' := [(1, .int (i_k5 + 1)), (0, .ref (a 0))]) hx hb dX11_layTold_54 hl (k := 0) rfl rfl (by decide) rfl (fun ls hl => ?_)
              refine lv_goto (tgt := 23) hx hb dX11_layTold_57 (by decide) ?_
              exact ih_k5 _ _ _ _ ((i_k5 + 1)) hO (lv_sub hl [0, 1] rfl) (by exact hJ) (by exact hT) (by first | decide | omega) (by first | decide | omega)
        have zc23 : (0 : Int32).toInt = 0 := rfl
        exact LP_23_k5 4000 _ _ _ _ (0) hO (lv_sub hl [0, 1] rfl) (by exact hJ) (by exact hT) (by first | decide | omega) (by first | decide | omega)
      · refine lv_aload_n hx hb dX11_layTold_8 rfl (lv_at hl 1 rfl) ?_
        refine gf_RX11_97 (v := .ref (a 28)) C hO 0 mW_0 rfl dX11_layTold_9 ?_
        refine lv_iload_n hx hb dX11_layTold_12 rfl (lv_at hl 0 rfl) ?_
        refine lv_iconst (v := 0) hx hb dX11_layTold_13 (by decide) ?_
        refine aIs C hO 28 mW_28 (i_in (X := (i_k2).toInt) rfl (by omega) (by omega)) mW_s28 dX11_layTold_14 (fun H locs hO => ?_)
        have hJ := MBsA_28 hO hJ
        have e24 : ((i_k2 + 1)).toInt = (i_k2).toInt + 1 := i_add rfl rfl (by omega)
        refine lv_iinc (v := (i_k2 + 1)) (lv' := [(1, .int (i_k2 + 1)), (0, .ref (a 0))]) hx hb dX11_layTold_15 hl (k := 0) rfl rfl (by decide) rfl (fun ls hl => ?_)
        refine lv_goto (tgt := 2) hx hb dX11_layTold_18 (by decide) ?_
        exact ih_k2 _ _ _ _ ((i_k2 + 1)) hO (lv_sub hl [0, 1] rfl) (by exact hJ) (by exact hT) (by first | decide | omega) (by first | decide | omega)
  have zc25 : (0 : Int32).toInt = 0 := rfl
  exact LP_2_k2 4000 _ _ _ _ (0) hO (lv_sub hl [0, 1] rfl) (by exact hJ) (by exact hT) (by first | decide | omega) (by first | decide | omega)
def Km15 (u v : St) : Prop := fI v 0 2 = fI u 0 2 ∧ fI v 0 3 = fI u 0 3 ∧ fI v 0 4 = fI u 0 4 ∧ fI v 0 5 = fI u 0 5 ∧ fI v 0 6 = fI u 0 6 ∧ fI v 0 7 = fI u 0 7 ∧ fI v 0 8 = fI u 0 8 ∧ fI v 0 9 = fI u 0 9 ∧ fL v 0 10 = fL u 0 10 ∧ fI v 0 36 = fI u 0 36 ∧ fI v 0 37 = fI u 0 37 ∧ fI v 0 38 = fI u 0 38 ∧ fI v 0 39 = fI u 0 39 ∧ fI v 0 40 = fI u 0 40 ∧ fI v 0 41 = fI u 0 41 ∧ fI v 0 42 = fI u 0 42 ∧ fI v 0 43 = fI u 0 43 ∧ fI v 0 45 = fI u 0 45 ∧ fI v 0 62 = fI u 0 62 ∧ fA v 1 = fA u 1 ∧ fA v 2 = fA u 2 ∧ fA v 3 = fA u 3 ∧ fA v 4 = fA u 4 ∧ fA v 5 = fA u 5 ∧ fA v 6 = fA u 6 ∧ fA v 7 = fA u 7 ∧ fA v 8 = fA u 8 ∧ fA v 9 = fA u 9 ∧ fA v 10 = fA u 10 ∧ fA v 11 = fA u 11 ∧ fA v 12 = fA u 12 ∧ fA v 13 = fA u 13 ∧ fA v 14 = fA u 14 ∧ fA v 15 = fA u 15 ∧ fA v 16 = fA u 16 ∧ fA v 17 = fA u 17 ∧ fA v 18 = fA u 18 ∧ fA v 19 = fA u 19 ∧ fJ v 20 = fJ u 20 ∧ fJ v 21 = fJ u 21 ∧ fJ v 22 = fJ u 22 ∧ fA v 23 = fA u 23 ∧ fA v 24 = fA u 24 ∧ fA v 25 = fA u 25 ∧ fA v 26 = fA u 26 ∧ fA v 27 = fA u 27 ∧ fA v 29 = fA u 29 ∧ fA v 30 = fA u 30 ∧ fA v 31 = fA u 31 ∧ fA v 32 = fA u 32 ∧ fA v 33 = fA u 33 ∧ fA v 34 = fA u 34 ∧ fA v 35 = fA u 35 ∧ fA v 36 = fA u 36 ∧ fA v 37 = fA u 37 ∧ fA v 38 = fA u 38 ∧ fA v 39 = fA u 39 ∧ fA v 40 = fA u 40 ∧ fA v 41 = fA u 41
theorem Km15.rf {u : St} : Km15 u u := ⟨rfl, rfl, rfl, rfl, rfl, rfl, rfl, rfl, rfl, rfl, rfl, rfl, rfl, rfl, rfl, rfl, rfl, rfl, rfl, rfl, rfl, rfl, rfl, rfl, rfl, rfl, rfl, rfl, rfl, rfl, rfl, rfl, rfl, rfl, rfl, rfl, rfl, rfl, rfl, rfl, rfl, rfl, rfl, rfl, rfl, rfl, rfl, rfl, rfl, rfl, rfl, rfl, rfl, rfl, rfl, rfl, rfl, rfl, rfl⟩
theorem Km15.tr {u v w : St} (h1 : Km15 u v) (h2 : Km15 v w) : Km15 u w := ⟨(h2.1).trans h1.1, (h2.2.1).trans h1.2.1, (h2.2.2.1).trans h1.2.2.1, (h2.2.2.2.1).trans h1.2.2.2.1, (h2.2.2.2.2.1).trans h1.2.2.2.2.1, (h2.2.2.2.2.2.1).trans h1.2.2.2.2.2.1, (h2.2.2.2.2.2.2.1).trans h1.2.2.2.2.2.2.1, (h2.2.2.2.2.2.2.2.1).trans h1.2.2.2.2.2.2.2.1, (h2.2.2.2.2.2.2.2.2.1).trans h1.2.2.2.2.2.2.2.2.1, (h2.2.2.2.2.2.2.2.2.2.1).trans h1.2.2.2.2.2.2.2.2.2.1, (h2.2.2.2.2.2.2.2.2.2.2.1).trans h1.2.2.2.2.2.2.2.2.2.2.1, (h2.2.2.2.2.2.2.2.2.2.2.2.1).trans h1.2.2.2.2.2.2.2.2.2.2.2.1, (h2.2.2.2.2.2.2.2.2.2.2.2.2.1).trans h1.2.2.2.2.2.2.2.2.2.2.2.2.1, (h2.2.2.2.2.2.2.2.2.2.2.2.2.2.1).trans h1.2.2.2.2.2.2.2.2.2.2.2.2.2.1, (h2.2.2.2.2.2.2.2.2.2.2.2.2.2.2.1).trans h1.2.2.2.2.2.2.2.2.2.2.2.2.2.2.1, (h2.2.2.2.2.2.2.2.2.2.2.2.2.2.2.2.1).trans h1.2.2.2.2.2.2.2.2.2.2.2.2.2.2.2.1, (h2.2.2.2.2.2.2.2.2.2.2.2.2.2.2.2.2.1).trans h1.2.2.2.2.2.2.2.2.2.2.2.2.2.2.2.2.1, (h2.2.2.2.2.2.2.2.2.2.2.2.2.2.2.2.2.2.1).trans h1.2.2.2.2.2.2.2.2.2.2.2.2.2.2.2.2.2.1, (h2.2.2.2.2.2.2.2.2.2.2.2.2.2.2.2.2.2.2.1).trans h1.2.2.2.2.2.2.2.2.2.2.2.2.2.2.2.2.2.2.1, (h2.2.2.2.2.2.2.2.2.2.2.2.2.2.2.2.2.2.2.2.1).trans h1.2.2.2.2.2.2.2.2.2.2.2.2.2.2.2.2.2.2.2.1, (h2.2.2.2.2.2.2.2.2.2.2.2.2.2.2.2.2.2.2.2.2.1).trans h1.2.2.2.2.2.2.2.2.2.2.2.2.2.2.2.2.2.2.2.2.1, (h2.2.2.2.2.2.2.2.2.2.2.2.2.2.2.2.2.2.2.2.2.2.1).trans h1.2.2.2.2.2.2.2.2.2.2.2.2.2.2.2.2.2.2.2.2.2.1, (h2.2.2.2.2.2.2.2.2.2.2.2.2.2.2.2.2.2.2.2.2.2.2.1).trans h1.2.2.2.2.2.2.2.2.2.2.2.2.2.2.2.2.2.2.2.2.2.2.1, (h2.2.2.2.2.2.2.2.2.2.2.2.2.2.2.2.2.2.2.2.2.2.2.2.1).trans h1.2.2.2.2.2.2.2.2.2.2.2.2.2.2.2.2.2.2.2.2.2.2.2.1, (h2.2.2.2.2.2.2.2.2.2.2.2.2.2.2.2.2.2.2.2.2.2.2.2.2.1).trans h1.2.2.2.2.2.2.2.2.2.2.2.2.2.2.2.2.2.2.2.2.2.2.2.2.1, (h2.2.2.2.2.2.2.2.2.2.2.2.2.2.2.2.2.2.2.2.2.2.2.2.2.2.1).trans h1.2.2.2.2.2.2.2.2.2.2.2.2.2.2.2.2.2.2.2.2.2.2.2.2.2.1, (h2.2.2.2.2.2.2.2.2.2.2.2.2.2.2.2.2.2.2.2.2.2.2.2.2.2.2.1).trans h1.2.2.2.2.2.2.2.2.2.2.2.2.2.2.2.2.2.2.2.2.2.2.2.2.2.2.1, (h2.2.2.2.2.2.2.2.2.2.2.2.2.2.2.2.2.2.2.2.2.2.2.2.2.2.2.2.1).trans h1.2.2.2.2.2.2.2.2.2.2.2.2.2.2.2.2.2.2.2.2.2.2.2.2.2.2.2.1, (h2.2.2.2.2.2.2.2.2.2.2.2.2.2.2.2.2.2.2.2.2.2.2.2.2.2.2.2.2.1).trans h1.2.2.2.2.2.2.2.2.2.2.2.2.2.2.2.2.2.2.2.2.2.2.2.2.2.2.2.2.1, (h2.2.2.2.2.2.2.2.2.2.2.2.2.2.2.2.2.2.2.2.2.2.2.2.2.2.2.2.2.2.1).trans h1.2.2.2.2.2.2.2.2.2.2.2.2.2.2.2.2.2.2.2.2.2.2.2.2.2.2.2.2.2.1, (h2.2.2.2.2.2.2.2.2.2.2.2.2.2.2.2.2.2.2.2.2.2.2.2.2.2.2.2.2.2.2.1).trans h1.2.2.2.2.2.2.2.2.2.2.2.2.2.2.2.2.2.2.2.2.2.2.2.2.2.2.2.2.2.2.1, (h2.2.2.2.2.2.2.2.2.2.2.2.2.2.2.2.2.2.2.2.2.2.2.2.2.2.2.2.2.2.2.2.1).trans h1.2.2.2.2.2.2.2.2.2.2.2.2.2.2.2.2.2.2.2.2.2.2.2.2.2.2.2.2.2.2.2.1, (h2.2.2.2.2.2.2.2.2.2.2.2.2.2.2.2.2.2.2.2.2.2.2.2.2.2.2.2.2.2.2.2.2.1).trans h1.2.2.2.2.2.2.2.2.2.2.2.2.2.2.2.2.2.2.2.2.2.2.2.2.2.2.2.2.2.2.2.2.1, (h2.2.2.2.2.2.2.2.2.2.2.2.2.2.2.2.2.2.2.2.2.2.2.2.2.2.2.2.2.2.2.2.2.2.1).trans h1.2.2.2.2.2.2.2.2.2.2.2.2.2.2.2.2.2.2.2.2.2.2.2.2.2.2.2.2.2.2.2.2.2.1, (h2.2.2.2.2.2.2.2.2.2.2.2.2.2.2.2.2.2.2.2.2.2.2.2.2.2.2.2.2.2.2.2.2.2.2.1).trans h1.2.2.2.2.2.2.2.2.2.2.2.2.2.2.2.2.2.2.2.2.2.2.2.2.2.2.2.2.2.2.2.2.2.2.1, (h2.2.2.2.2.2.2.2.2.2.2.2.2.2.2.2.2.2.2.2.2.2.2.2.2.2.2.2.2.2.2.2.2.2.2.2.1).trans h1.2.2.2.2.2.2.2.2.2.2.2.2.2.2.2.2.2.2.2.2.2.2.2.2.2.2.2.2.2.2.2.2.2.2.2.1, (h2.2.2.2.2.2.2.2.2.2.2.2.2.2.2.2.2.2.2.2.2.2.2.2.2.2.2.2.2.2.2.2.2.2.2.2.2.1).trans h1.2.2.2.2.2.2.2.2.2.2.2.2.2.2.2.2.2.2.2.2.2.2.2.2.2.2.2.2.2.2.2.2.2.2.2.2.1, (h2.2.2.2.2.2.2.2.2.2.2.2.2.2.2.2.2.2.2.2.2.2.2.2.2.2.2.2.2.2.2.2.2.2.2.2.2.2.1).trans h1.2.2.2.2.2.2.2.2.2.2.2.2.2.2.2.2.2.2.2.2.2.2.2.2.2.2.2.2.2.2.2.2.2.2.2.2.2.1, (h2.2.2.2.2.2.2.2.2.2.2.2.2.2.2.2.2.2.2.2.2.2.2.2.2.2.2.2.2.2.2.2.2.2.2.2.2.2.2.1).trans h1.2.2.2.2.2.2.2.2.2.2.2.2.2.2.2.2.2.2.2.2.2.2.2.2.2.2.2.2.2.2.2.2.2.2.2.2.2.2.1, (h2.2.2.2.2.2.2.2.2.2.2.2.2.2.2.2.2.2.2.2.2.2.2.2.2.2.2.2.2.2.2.2.2.2.2.2.2.2.2.2.1).trans h1.2.2.2.2.2.2.2.2.2.2.2.2.2.2.2.2.2.2.2.2.2.2.2.2.2.2.2.2.2.2.2.2.2.2.2.2.2.2.2.1, (h2.2.2.2.2.2.2.2.2.2.2.2.2.2.2.2.2.2.2.2.2.2.2.2.2.2.2.2.2.2.2.2.2.2.2.2.2.2.2.2.2.1).trans h1.2.2.2.2.2.2.2.2.2.2.2.2.2.2.2.2.2.2.2.2.2.2.2.2.2.2.2.2.2.2.2.2.2.2.2.2.2.2.2.2.1, (h2.2.2.2.2.2.2.2.2.2.2.2.2.2.2.2.2.2.2.2.2.2.2.2.2.2.2.2.2.2.2.2.2.2.2.2.2.2.2.2.2.2.1).trans h1.2.2.2.2.2.2.2.2.2.2.2.2.2.2.2.2.2.2.2.2.2.2.2.2.2.2.2.2.2.2.2.2.2.2.2.2.2.2.2.2.2.1, (h2.2.2.2.2.2.2.2.2.2.2.2.2.2.2.2.2.2.2.2.2.2.2.2.2.2.2.2.2.2.2.2.2.2.2.2.2.2.2.2.2.2.2.1).trans h1.2.2.2.2.2.2.2.2.2.2.2.2.2.2.2.2.2.2.2.2.2.2.2.2.2.2.2.2.2.2.2.2.2.2.2.2.2.2.2.2.2.2.1, (h2.2.2.2.2.2.2.2.2.2.2.2.2.2.2.2.2.2.2.2.2.2.2.2.2.2.2.2.2.2.2.2.2.2.2.2.2.2.2.2.2.2.2.2.1).trans h1.2.2.2.2.2.2.2.2.2.2.2.2.2.2.2.2.2.2.2.2.2.2.2.2.2.2.2.2.2.2.2.2.2.2.2.2.2.2.2.2.2.2.2.1, (h2.2.2.2.2.2.2.2.2.2.2.2.2.2.2.2.2.2.2.2.2.2.2.2.2.2.2.2.2.2.2.2.2.2.2.2.2.2.2.2.2.2.2.2.2.1).trans h1.2.2.2.2.2.2.2.2.2.2.2.2.2.2.2.2.2.2.2.2.2.2.2.2.2.2.2.2.2.2.2.2.2.2.2.2.2.2.2.2.2.2.2.2.1, (h2.2.2.2.2.2.2.2.2.2.2.2.2.2.2.2.2.2.2.2.2.2.2.2.2.2.2.2.2.2.2.2.2.2.2.2.2.2.2.2.2.2.2.2.2.2.1).trans h1.2.2.2.2.2.2.2.2.2.2.2.2.2.2.2.2.2.2.2.2.2.2.2.2.2.2.2.2.2.2.2.2.2.2.2.2.2.2.2.2.2.2.2.2.2.1, (h2.2.2.2.2.2.2.2.2.2.2.2.2.2.2.2.2.2.2.2.2.2.2.2.2.2.2.2.2.2.2.2.2.2.2.2.2.2.2.2.2.2.2.2.2.2.2.1).trans h1.2.2.2.2.2.2.2.2.2.2.2.2.2.2.2.2.2.2.2.2.2.2.2.2.2.2.2.2.2.2.2.2.2.2.2.2.2.2.2.2.2.2.2.2.2.2.1, (h2.2.2.2.2.2.2.2.2.2.2.2.2.2.2.2.2.2.2.2.2.2.2.2.2.2.2.2.2.2.2.2.2.2.2.2.2.2.2.2.2.2.2.2.2.2.2.2.1).trans h1.2.2.2.2.2.2.2.2.2.2.2.2.2.2.2.2.2.2.2.2.2.2.2.2.2.2.2.2.2.2.2.2.2.2.2.2.2.2.2.2.2.2.2.2.2.2.2.1, (h2.2.2.2.2.2.2.2.2.2.2.2.2.2.2.2.2.2.2.2.2.2.2.2.2.2.2.2.2.2.2.2.2.2.2.2.2.2.2.2.2.2.2.2.2.2.2.2.2.1).trans h1.2.2.2.2.2.2.2.2.2.2.2.2.2.2.2.2.2.2.2.2.2.2.2.2.2.2.2.2.2.2.2.2.2.2.2.2.2.2.2.2.2.2.2.2.2.2.2.2.1, (h2.2.2.2.2.2.2.2.2.2.2.2.2.2.2.2.2.2.2.2.2.2.2.2.2.2.2.2.2.2.2.2.2.2.2.2.2.2.2.2.2.2.2.2.2.2.2.2.2.2.1).trans h1.2.2.2.2.2.2.2.2.2.2.2.2.2.2.2.2.2.2.2.2.2.2.2.2.2.2.2.2.2.2.2.2.2.2.2.2.2.2.2.2.2.2.2.2.2.2.2.2.2.1, (h2.2.2.2.2.2.2.2.2.2.2.2.2.2.2.2.2.2.2.2.2.2.2.2.2.2.2.2.2.2.2.2.2.2.2.2.2.2.2.2.2.2.2.2.2.2.2.2.2.2.2.1).trans h1.2.2.2.2.2.2.2.2.2.2.2.2.2.2.2.2.2.2.2.2.2.2.2.2.2.2.2.2.2.2.2.2.2.2.2.2.2.2.2.2.2.2.2.2.2.2.2.2.2.2.1, (h2.2.2.2.2.2.2.2.2.2.2.2.2.2.2.2.2.2.2.2.2.2.2.2.2.2.2.2.2.2.2.2.2.2.2.2.2.2.2.2.2.2.2.2.2.2.2.2.2.2.2.2.1).trans h1.2.2.2.2.2.2.2.2.2.2.2.2.2.2.2.2.2.2.2.2.2.2.2.2.2.2.2.2.2.2.2.2.2.2.2.2.2.2.2.2.2.2.2.2.2.2.2.2.2.2.2.1, (h2.2.2.2.2.2.2.2.2.2.2.2.2.2.2.2.2.2.2.2.2.2.2.2.2.2.2.2.2.2.2.2.2.2.2.2.2.2.2.2.2.2.2.2.2.2.2.2.2.2.2.2.2.1).trans h1.2.2.2.2.2.2.2.2.2.2.2.2.2.2.2.2.2.2.2.2.2.2.2.2.2.2.2.2.2.2.2.2.2.2.2.2.2.2.2.2.2.2.2.2.2.2.2.2.2.2.2.2.1, (h2.2.2.2.2.2.2.2.2.2.2.2.2.2.2.2.2.2.2.2.2.2.2.2.2.2.2.2.2.2.2.2.2.2.2.2.2.2.2.2.2.2.2.2.2.2.2.2.2.2.2.2.2.2.1).trans h1.2.2.2.2.2.2.2.2.2.2.2.2.2.2.2.2.2.2.2.2.2.2.2.2.2.2.2.2.2.2.2.2.2.2.2.2.2.2.2.2.2.2.2.2.2.2.2.2.2.2.2.2.2.1, (h2.2.2.2.2.2.2.2.2.2.2.2.2.2.2.2.2.2.2.2.2.2.2.2.2.2.2.2.2.2.2.2.2.2.2.2.2.2.2.2.2.2.2.2.2.2.2.2.2.2.2.2.2.2.2.1).trans h1.2.2.2.2.2.2.2.2.2.2.2.2.2.2.2.2.2.2.2.2.2.2.2.2.2.2.2.2.2.2.2.2.2.2.2.2.2.2.2.2.2.2.2.2.2.2.2.2.2.2.2.2.2.2.1, (h2.2.2.2.2.2.2.2.2.2.2.2.2.2.2.2.2.2.2.2.2.2.2.2.2.2.2.2.2.2.2.2.2.2.2.2.2.2.2.2.2.2.2.2.2.2.2.2.2.2.2.2.2.2.2.2.1).trans h1.2.2.2.2.2.2.2.2.2.2.2.2.2.2.2.2.2.2.2.2.2.2.2.2.2.2.2.2.2.2.2.2.2.2.2.2.2.2.2.2.2.2.2.2.2.2.2.2.2.2.2.2.2.2.2.1, (h2.2.2.2.2.2.2.2.2.2.2.2.2.2.2.2.2.2.2.2.2.2.2.2.2.2.2.2.2.2.2.2.2.2.2.2.2.2.2.2.2.2.2.2.2.2.2.2.2.2.2.2.2.2.2.2.2.1).trans h1.2.2.2.2.2.2.2.2.2.2.2.2.2.2.2.2.2.2.2.2.2.2.2.2.2.2.2.2.2.2.2.2.2.2.2.2.2.2.2.2.2.2.2.2.2.2.2.2.2.2.2.2.2.2.2.2.1, (h2.2.2.2.2.2.2.2.2.2.2.2.2.2.2.2.2.2.2.2.2.2.2.2.2.2.2.2.2.2.2.2.2.2.2.2.2.2.2.2.2.2.2.2.2.2.2.2.2.2.2.2.2.2.2.2.2.2.1).trans h1.2.2.2.2.2.2.2.2.2.2.2.2.2.2.2.2.2.2.2.2.2.2.2.2.2.2.2.2.2.2.2.2.2.2.2.2.2.2.2.2.2.2.2.2.2.2.2.2.2.2.2.2.2.2.2.2.2.1, (h2.2.2.2.2.2.2.2.2.2.2.2.2.2.2.2.2.2.2.2.2.2.2.2.2.2.2.2.2.2.2.2.2.2.2.2.2.2.2.2.2.2.2.2.2.2.2.2.2.2.2.2.2.2.2.2.2.2.2).trans h1.2.2.2.2.2.2.2.2.2.2.2.2.2.2.2.2.2.2.2.2.2.2.2.2.2.2.2.2.2.2.2.2.2.2.2.2.2.2.2.2.2.2.2.2.2.2.2.2.2.2.2.2.2.2.2.2.2.2⟩
theorem dX11_startAnew_0 : decode cX11_startAnew 0 = .ok (.aload_n 0, 1) := by decide +kernel
theorem dX11_startAnew_1 : decode cX11_startAnew 1 = .ok (.invokevirtual 386, 3) := by decide +kernel
theorem dX11_startAnew_4 : decode cX11_startAnew 4 = .ok (.aload_n 0, 1) := by decide +kernel
theorem dX11_startAnew_5 : decode cX11_startAnew 5 = .ok (.iconst 0, 1) := by decide +kernel
theorem dX11_startAnew_6 : decode cX11_startAnew 6 = .ok (.putfield 389, 3) := by decide +kernel
theorem dX11_startAnew_9 : decode cX11_startAnew 9 = .ok (.aload_n 0, 1) := by decide +kernel
theorem dX11_startAnew_10 : decode cX11_startAnew 10 = .ok (.iconst 0, 1) := by decide +kernel
theorem dX11_startAnew_11 : decode cX11_startAnew 11 = .ok (.putfield 392, 3) := by decide +kernel
theorem dX11_startAnew_14 : decode cX11_startAnew 14 = .ok (.aload_n 0, 1) := by decide +kernel
theorem dX11_startAnew_15 : decode cX11_startAnew 15 = .ok (.iconst 0, 1) := by decide +kernel
theorem dX11_startAnew_16 : decode cX11_startAnew 16 = .ok (.putfield 395, 3) := by decide +kernel
theorem dX11_startAnew_19 : decode cX11_startAnew 19 = .ok (.aload_n 0, 1) := by decide +kernel
theorem dX11_startAnew_20 : decode cX11_startAnew 20 = .ok (.iconst 0, 1) := by decide +kernel
theorem dX11_startAnew_21 : decode cX11_startAnew 21 = .ok (.putfield 398, 3) := by decide +kernel
theorem dX11_startAnew_24 : decode cX11_startAnew 24 = .ok (.iconst 0, 1) := by decide +kernel
theorem dX11_startAnew_25 : decode cX11_startAnew 25 = .ok (.istore_n 1, 1) := by decide +kernel
theorem dX11_startAnew_26 : decode cX11_startAnew 26 = .ok (.iload_n 1, 1) := by decide +kernel
theorem dX11_startAnew_27 : decode cX11_startAnew 27 = .ok (.iconst 3, 1) := by decide +kernel
theorem dX11_startAnew_28 : decode cX11_startAnew 28 = .ok (.if_icmp .ge 16, 3) := by decide +kernel
theorem dX11_startAnew_31 : decode cX11_startAnew 31 = .ok (.aload_n 0, 1) := by decide +kernel
theorem dX11_startAnew_32 : decode cX11_startAnew 32 = .ok (.getfield 142, 3) := by decide +kernel
theorem dX11_startAnew_35 : decode cX11_startAnew 35 = .ok (.iload_n 1, 1) := by decide +kernel
theorem dX11_startAnew_36 : decode cX11_startAnew 36 = .ok (.iconst 0, 1) := by decide +kernel
theorem dX11_startAnew_37 : decode cX11_startAnew 37 = .ok (.bastore, 1) := by decide +kernel
theorem dX11_startAnew_38 : decode cX11_startAnew 38 = .ok (.iinc 1 1, 3) := by decide +kernel
theorem dX11_startAnew_41 : decode cX11_startAnew 41 = .ok (.goto (-15), 3) := by decide +kernel
theorem dX11_startAnew_44 : decode cX11_startAnew 44 = .ok (.return_, 1) := by decide +kernel
theorem wd_1343 : (Cond.code ⟨"WebCourtModel", "startAnew", "()V"⟩ prog_13_method_54_code (2 : Nat) (Option.none : Option FieldType)) ∈ gtb := gtb_c6 34 (by decide +kernel) rfl
theorem wd_1344 : (Cond.methodLink "WebCourtModel" (386 : Nat) ⟨"WebCourtModel", "layTold", "()V"⟩) ∈ gtb := gtb_c6 35 (by decide +kernel) rfl
theorem wd_1346 : (Cond.instanceMethod ⟨"WebCourtModel", "layTold", "()V"⟩) ∈ gtb := gtb_c6 37 (by decide +kernel) rfl
theorem wd_45 : (Cond.selects "WebCourtModel" ⟨"WebCourtModel", "layTold", "()V"⟩ ⟨"WebCourtModel", "layTold", "()V"⟩) ∈ gtb := gtb_p 45 (by decide +kernel) rfl
theorem hd_yX11_layTold : yX11_layTold.cls = RX11 ∧ yX11_layTold.cls ≠ "java/lang/invoke/MethodHandle" ∧ yX11_layTold.cls ≠ "java/lang/invoke/VarHandle" ∧ (parseMethodDescriptor yX11_layTold.desc).map (fun d => d.parameters.length) = some 0 := by decide +kernel
theorem Km14_to_Km15 {u v : St} (h : Km14 u v) : Km15 u v := ⟨h.1, h.2.1, h.2.2.1, h.2.2.2.1, h.2.2.2.2.1, h.2.2.2.2.2.1, h.2.2.2.2.2.2.1, h.2.2.2.2.2.2.2.1, h.2.2.2.2.2.2.2.2.1, h.2.2.2.2.2.2.2.2.2.1, h.2.2.2.2.2.2.2.2.2.2.1, h.2.2.2.2.2.2.2.2.2.2.2.1, h.2.2.2.2.2.2.2.2.2.2.2.2.1, h.2.2.2.2.2.2.2.2.2.2.2.2.2.1, h.2.2.2.2.2.2.2.2.2.2.2.2.2.2.1, h.2.2.2.2.2.2.2.2.2.2.2.2.2.2.2.1, h.2.2.2.2.2.2.2.2.2.2.2.2.2.2.2.2.1, h.2.2.2.2.2.2.2.2.2.2.2.2.2.2.2.2.2.1, h.2.2.2.2.2.2.2.2.2.2.2.2.2.2.2.2.2.2.2.2.2.2.1, h.2.2.2.2.2.2.2.2.2.2.2.2.2.2.2.2.2.2.2.2.2.2.2.1, h.2.2.2.2.2.2.2.2.2.2.2.2.2.2.2.2.2.2.2.2.2.2.2.2.1, h.2.2.2.2.2.2.2.2.2.2.2.2.2.2.2.2.2.2.2.2.2.2.2.2.2.1, h.2.2.2.2.2.2.2.2.2.2.2.2.2.2.2.2.2.2.2.2.2.2.2.2.2.2.1, h.2.2.2.2.2.2.2.2.2.2.2.2.2.2.2.2.2.2.2.2.2.2.2.2.2.2.2.1, h.2.2.2.2.2.2.2.2.2.2.2.2.2.2.2.2.2.2.2.2.2.2.2.2.2.2.2.2.1, h.2.2.2.2.2.2.2.2.2.2.2.2.2.2.2.2.2.2.2.2.2.2.2.2.2.2.2.2.2.1, h.2.2.2.2.2.2.2.2.2.2.2.2.2.2.2.2.2.2.2.2.2.2.2.2.2.2.2.2.2.2.1, h.2.2.2.2.2.2.2.2.2.2.2.2.2.2.2.2.2.2.2.2.2.2.2.2.2.2.2.2.2.2.2.1, h.2.2.2.2.2.2.2.2.2.2.2.2.2.2.2.2.2.2.2.2.2.2.2.2.2.2.2.2.2.2.2.2.1, h.2.2.2.2.2.2.2.2.2.2.2.2.2.2.2.2.2.2.2.2.2.2.2.2.2.2.2.2.2.2.2.2.2.1, h.2.2.2.2.2.2.2.2.2.2.2.2.2.2.2.2.2.2.2.2.2.2.2.2.2.2.2.2.2.2.2.2.2.2.1, h.2.2.2.2.2.2.2.2.2.2.2.2.2.2.2.2.2.2.2.2.2.2.2.2.2.2.2.2.2.2.2.2.2.2.2.1, h.2.2.2.2.2.2.2.2.2.2.2.2.2.2.2.2.2.2.2.2.2.2.2.2.2.2.2.2.2.2.2.2.2.2.2.2.1, h.2.2.2.2.2.2.2.2.2.2.2.2.2.2.2.2.2.2.2.2.2.2.2.2.2.2.2.2.2.2.2.2.2.2.2.2.2.1, h.2.2.2.2.2.2.2.2.2.2.2.2.2.2.2.2.2.2.2.2.2.2.2.2.2.2.2.2.2.2.2.2.2.2.2.2.2.2.1, h.2.2.2.2.2.2.2.2.2.2.2.2.2.2.2.2.2.2.2.2.2.2.2.2.2.2.2.2.2.2.2.2.2.2.2.2.2.2.2.1, h.2.2.2.2.2.2.2.2.2.2.2.2.2.2.2.2.2.2.2.2.2.2.2.2.2.2.2.2.2.2.2.2.2.2.2.2.2.2.2.2.1, h.2.2.2.2.2.2.2.2.2.2.2.2.2.2.2.2.2.2.2.2.2.2.2.2.2.2.2.2.2.2.2.2.2.2.2.2.2.2.2.2.2.1, h.2.2.2.2.2.2.2.2.2.2.2.2.2.2.2.2.2.2.2.2.2.2.2.2.2.2.2.2.2.2.2.2.2.2.2.2.2.2.2.2.2.2.1, h.2.2.2.2.2.2.2.2.2.2.2.2.2.2.2.2.2.2.2.2.2.2.2.2.2.2.2.2.2.2.2.2.2.2.2.2.2.2.2.2.2.2.2.1, h.2.2.2.2.2.2.2.2.2.2.2.2.2.2.2.2.2.2.2.2.2.2.2.2.2.2.2.2.2.2.2.2.2.2.2.2.2.2.2.2.2.2.2.2.1, h.2.2.2.2.2.2.2.2.2.2.2.2.2.2.2.2.2.2.2.2.2.2.2.2.2.2.2.2.2.2.2.2.2.2.2.2.2.2.2.2.2.2.2.2.2.1, h.2.2.2.2.2.2.2.2.2.2.2.2.2.2.2.2.2.2.2.2.2.2.2.2.2.2.2.2.2.2.2.2.2.2.2.2.2.2.2.2.2.2.2.2.2.2.1, h.2.2.2.2.2.2.2.2.2.2.2.2.2.2.2.2.2.2.2.2.2.2.2.2.2.2.2.2.2.2.2.2.2.2.2.2.2.2.2.2.2.2.2.2.2.2.2.1, h.2.2.2.2.2.2.2.2.2.2.2.2.2.2.2.2.2.2.2.2.2.2.2.2.2.2.2.2.2.2.2.2.2.2.2.2.2.2.2.2.2.2.2.2.2.2.2.2.1, h.2.2.2.2.2.2.2.2.2.2.2.2.2.2.2.2.2.2.2.2.2.2.2.2.2.2.2.2.2.2.2.2.2.2.2.2.2.2.2.2.2.2.2.2.2.2.2.2.2.1, h.2.2.2.2.2.2.2.2.2.2.2.2.2.2.2.2.2.2.2.2.2.2.2.2.2.2.2.2.2.2.2.2.2.2.2.2.2.2.2.2.2.2.2.2.2.2.2.2.2.2.1, h.2.2.2.2.2.2.2.2.2.2.2.2.2.2.2.2.2.2.2.2.2.2.2.2.2.2.2.2.2.2.2.2.2.2.2.2.2.2.2.2.2.2.2.2.2.2.2.2.2.2.2.1, h.2.2.2.2.2.2.2.2.2.2.2.2.2.2.2.2.2.2.2.2.2.2.2.2.2.2.2.2.2.2.2.2.2.2.2.2.2.2.2.2.2.2.2.2.2.2.2.2.2.2.2.2.1, h.2.2.2.2.2.2.2.2.2.2.2.2.2.2.2.2.2.2.2.2.2.2.2.2.2.2.2.2.2.2.2.2.2.2.2.2.2.2.2.2.2.2.2.2.2.2.2.2.2.2.2.2.2.1, h.2.2.2.2.2.2.2.2.2.2.2.2.2.2.2.2.2.2.2.2.2.2.2.2.2.2.2.2.2.2.2.2.2.2.2.2.2.2.2.2.2.2.2.2.2.2.2.2.2.2.2.2.2.2.1, h.2.2.2.2.2.2.2.2.2.2.2.2.2.2.2.2.2.2.2.2.2.2.2.2.2.2.2.2.2.2.2.2.2.2.2.2.2.2.2.2.2.2.2.2.2.2.2.2.2.2.2.2.2.2.2.1, h.2.2.2.2.2.2.2.2.2.2.2.2.2.2.2.2.2.2.2.2.2.2.2.2.2.2.2.2.2.2.2.2.2.2.2.2.2.2.2.2.2.2.2.2.2.2.2.2.2.2.2.2.2.2.2.2.1, h.2.2.2.2.2.2.2.2.2.2.2.2.2.2.2.2.2.2.2.2.2.2.2.2.2.2.2.2.2.2.2.2.2.2.2.2.2.2.2.2.2.2.2.2.2.2.2.2.2.2.2.2.2.2.2.2.2.1, h.2.2.2.2.2.2.2.2.2.2.2.2.2.2.2.2.2.2.2.2.2.2.2.2.2.2.2.2.2.2.2.2.2.2.2.2.2.2.2.2.2.2.2.2.2.2.2.2.2.2.2.2.2.2.2.2.2.2.1, h.2.2.2.2.2.2.2.2.2.2.2.2.2.2.2.2.2.2.2.2.2.2.2.2.2.2.2.2.2.2.2.2.2.2.2.2.2.2.2.2.2.2.2.2.2.2.2.2.2.2.2.2.2.2.2.2.2.2.2.1, h.2.2.2.2.2.2.2.2.2.2.2.2.2.2.2.2.2.2.2.2.2.2.2.2.2.2.2.2.2.2.2.2.2.2.2.2.2.2.2.2.2.2.2.2.2.2.2.2.2.2.2.2.2.2.2.2.2.2.2.2.1, h.2.2.2.2.2.2.2.2.2.2.2.2.2.2.2.2.2.2.2.2.2.2.2.2.2.2.2.2.2.2.2.2.2.2.2.2.2.2.2.2.2.2.2.2.2.2.2.2.2.2.2.2.2.2.2.2.2.2.2.2.2.1, h.2.2.2.2.2.2.2.2.2.2.2.2.2.2.2.2.2.2.2.2.2.2.2.2.2.2.2.2.2.2.2.2.2.2.2.2.2.2.2.2.2.2.2.2.2.2.2.2.2.2.2.2.2.2.2.2.2.2.2.2.2.2.1⟩
theorem wd_1417 : (Cond.fieldLink "WebCourtModel" (395 : Nat) "WebCourtModel" "heards" "I") ∈ gtb := gtb_c6 108 (by decide +kernel) rfl
theorem pf_RX11_395 {p : Program} {l : Launch} {e : Env} {R : Room} {s : State} {m : MethodId} {args : Array Value} {below : List Frame} {meth : Method} {c : Code} {H : Heap} {locs : List Loc} {cells slots : Nat} {Q : State → Prop} {cc : ByteArray} {pc nL : Nat} {ls : Array Slot} {rest : List Value} {D : va_G} {cy : Nat → ClassId} {A : Nat → Prop} {ws : va_W} {b : Nat} {fs : List Value} {v : Int32} {ws' : va_W} (C : Cx p s m args c cc nL RX11 D cy A) (hO : Wo D A ws s.heap H locs) (q0 : Nat) (he : ws[q0]? = some (b, .inr (11, fs))) (hlen : 61 < fs.length) (hw : ws.set q0 (b, .inr (11, fs.set 61 (.int v))) = ws') (hdg : decode cc pc = .ok (.putfield 395, 3)) (kk : ∀ (H : Heap) (locs : List Loc), Wo D A ws' s.heap H locs → W p l e R s m args below meth c H locs cells slots Q (F0 m (pc + 3) ls rest)) : W p l e R s m args below meth c H locs cells slots Q (F0 m pc ls (.int v :: .ref b :: rest)) := pF (k := 61) (ty := .int) C hO q0 he rfl inFX11 (by decide) wd_1417 rfl tyX11 tyX11_ok nmX11 rfl (by decide +kernel) rfl rfl hlen hw hdg kk
theorem Km15_A3 {u v : St} (h : Km15 u v) : fA v 3 = fA u 3 := h.2.2.2.2.2.2.2.2.2.2.2.2.2.2.2.2.2.2.2.2.2.1
theorem Km15_I36 {u v : St} (h : Km15 u v) : fI v 0 36 = fI u 0 36 := h.2.2.2.2.2.2.2.2.2.1
set_option maxHeartbeats 4000000 in
set_option maxRecDepth 100000 in
theorem T_X11_startAnew (l : Launch) (D : va_G) (cy : Nat → ClassId) (a : Nat → Nat) (u : St) (hJ : MB a u) (gk : Int32) (hgk : fA u 3 (fI u 0 36).toNatClampNeg = gk)   : Mv l D cy (mW cy a) yX11_startAnew (.code yX11_startAnew cX11_startAnew 2 none) (rmo 2 41) [.ref (a 0)] u (fun (u' : St) => (MI a u') ∧ (Km15 u u')) := by
  refine Mv.of (own := RX11) rfl (by decide) (Nat.le_of_ble_eq_true rfl) ?_
  have hT : Km15 u u := Km15.rf
  have hJ0 := hJ
  intro p e s m below meth c A Q ls C hret hO hl
  obtain ⟨hx, hb, hml, hown, ht, hK, hA⟩ := id C
  have hl : lv_has ls 2 [(0, .ref (a 0))] := hl
  refine lv_aload_n hx hb dX11_startAnew_0 rfl (lv_at hl 0 rfl) ?_
  have g1 : 0 ≤ (fI u 0 36).toInt ∧ (fI u 0 36).toInt ≤ 1 := by have h := MB_36 hJ0; exact h
  have g2 : 0 ≤ gk.toInt ∧ gk.toInt ≤ 8 := by have h := MB_A3 hJ0 (fI u 0 36).toNatClampNeg; rw [hgk] at h; exact h
  refine cVv (w := mW cy a) (As := []) (rest := []) C hO (T_X11_layTold l D cy a _ (by exact hJ) (gk) (by exact hgk)) (cwV 0 ht (gV wd_1344 wd_1346 wd_45 wd_121 wd_1347) rfl rfl rfl hd_yX11_layTold ⟨Nat.le_of_ble_eq_true rfl, Nat.le_of_ble_eq_true rfl⟩) 0 rfl mW_0 rfl rfl hl.1 (Nat.le_of_ble_eq_true rfl) dX11_startAnew_1 rfl ⟨Nat.zero_le _, Nat.zero_le _⟩ (fun u4 H locs hp5 hO => ?_)
  have g6 : 0 ≤ (fI u 0 3).toInt ∧ (fI u 0 3).toInt ≤ 1600 := by have h := MB_3 hJ0; exact h
  have g7 : 0 ≤ (fI u 0 4).toInt ∧ (fI u 0 4).toInt ≤ 5 := by have h := MB_4 hJ0; exact h
  have g8 : 0 ≤ (fI u 0 6).toInt ∧ (fI u 0 6).toInt ≤ 1600 := by have h := MB_6 hJ0; exact h
  have g9 : 0 ≤ (fI u 0 7).toInt ∧ (fI u 0 7).toInt ≤ 1601 := by have h := MB_7 hJ0; exact h
  have g10 : 0 ≤ (fI u 0 8).toInt ∧ (fI u 0 8).toInt ≤ 5 := by have h := MB_8 hJ0; exact h
  have g11 : 0 ≤ (fI u 0 37).toInt ∧ (fI u 0 37).toInt ≤ 1 := by have h := MB_37 hJ0; exact h
  have g12 : 0 ≤ (fI u 0 42).toInt ∧ (fI u 0 42).toInt ≤ 5 := by have h := MB_42 hJ0; exact h
  have g13 : 0 ≤ (fI u 0 47).toInt ∧ (fI u 0 47).toInt ≤ 40 := by have h := MB_47 hJ0; exact h
  have g14 : 0 ≤ (fI u 0 48).toInt ∧ (fI u 0 48).toInt ≤ 40 := by have h := MB_48 hJ0; exact h
  have g15 : 0 ≤ (fI u 0 50).toInt ∧ (fI u 0 50).toInt ≤ 8 := by have h := MB_50 hJ0; exact h
  have g16 : 0 ≤ (fI u 0 61).toInt ∧ (fI u 0 61).toInt ≤ 30 := by have h := MB_61 hJ0; exact h
  have g17 : 0 ≤ (fI u 0 62).toInt ∧ (fI u 0 62).toInt ≤ 100000 := by have h := MB_62 hJ0; exact h
  obtain ⟨hJ, hTu4, hx0u4⟩ := hp5
  have hT : Km15 u u4 := Km15.tr (by exact hT) (Km14_to_Km15 hTu4)
  have hI_0_3_u4 : fI u4 0 3 = (fI u 0 3) := hTu4.2.1
  have hI_0_4_u4 : fI u4 0 4 = (fI u 0 4) := hTu4.2.2.1
  have hI_0_6_u4 : fI u4 0 6 = (fI u 0 6) := hTu4.2.2.2.2.1
  have hI_0_7_u4 : fI u4 0 7 = (fI u 0 7) := hTu4.2.2.2.2.2.1
  have hI_0_8_u4 : fI u4 0 8 = (fI u 0 8) := hTu4.2.2.2.2.2.2.1
  have hI_0_36_u4 : fI u4 0 36 = (fI u 0 36) := hTu4.2.2.2.2.2.2.2.2.2.1
  have hI_0_37_u4 : fI u4 0 37 = (fI u 0 37) := hTu4.2.2.2.2.2.2.2.2.2.2.1
  have hI_0_42_u4 : fI u4 0 42 = (fI u 0 42) := hTu4.2.2.2.2.2.2.2.2.2.2.2.2.2.2.2.1
  have hI_0_47_u4 : fI u4 0 47 = (fI u 0 47) := hTu4.2.2.2.2.2.2.2.2.2.2.2.2.2.2.2.2.2.2.1
  have hI_0_48_u4 : fI u4 0 48 = (fI u 0 48) := hTu4.2.2.2.2.2.2.2.2.2.2.2.2.2.2.2.2.2.2.2.1
  have hI_0_50_u4 : fI u4 0 50 = (fI u 0 50) := hTu4.2.2.2.2.2.2.2.2.2.2.2.2.2.2.2.2.2.2.2.2.1
  have hI_0_61_u4 : fI u4 0 61 = (fI u 0 61) := hTu4.2.2.2.2.2.2.2.2.2.2.2.2.2.2.2.2.2.2.2.2.2.1
  have hI_0_62_u4 : fI u4 0 62 = (fI u 0 62) := hTu4.2.2.2.2.2.2.2.2.2.2.2.2.2.2.2.2.2.2.2.2.2.2.1
  refine lv_aload_n hx hb dX11_startAnew_4 rfl (lv_at hl 0 rfl) ?_
  refine lv_iconst (v := 0) hx hb dX11_startAnew_5 (by decide) ?_
  refine pf_RX11_389 C hO 0 mW_0 (Nat.le_of_ble_eq_true rfl) mW_s0_47 dX11_startAnew_6 (fun H locs hO => ?_)
  refine lv_aload_n hx hb dX11_startAnew_9 rfl (lv_at hl 0 rfl) ?_
  refine lv_iconst (v := 0) hx hb dX11_startAnew_10 (by decide) ?_
  refine pf_RX11_392 C hO 0 mW_0 (Nat.le_of_ble_eq_true rfl) mW_s0_48 dX11_startAnew_11 (fun H locs hO => ?_)
  have hJ := MBs_4748 (v := 0) (w := 0) hJ (by decide) (by decide) (by decide)
  refine lv_aload_n hx hb dX11_startAnew_14 rfl (lv_at hl 0 rfl) ?_
  refine lv_iconst (v := 0) hx hb dX11_startAnew_15 (by decide) ?_
  refine pf_RX11_395 C hO 0 mW_0 (Nat.le_of_ble_eq_true rfl) mW_s0_61 dX11_startAnew_16 (fun H locs hO => ?_)
  have hJ := MBs_61 (v := 0) hJ (by first | decide | omega)
  refine lv_aload_n hx hb dX11_startAnew_19 rfl (lv_at hl 0 rfl) ?_
  refine lv_iconst (v := 0) hx hb dX11_startAnew_20 (by decide) ?_
  refine pf_RX11_398 C hO 0 mW_0 (Nat.le_of_ble_eq_true rfl) mW_s0_50 dX11_startAnew_21 (fun H locs hO => ?_)
  have hJ := MBs_50 (v := 0) hJ (by first | decide | omega)
  refine lv_iconst (v := 0) hx hb dX11_startAnew_24 (by decide) ?_
  refine lv_istore_n (lv' := [(1, .int 0), (0, .ref (a 0))]) hx hb dX11_startAnew_25 rfl hl (by decide) rfl (fun ls hl => ?_)
  have LP_26_k19 : ∀ (n : Nat) (u18 : St) (H : Heap) (locs : List Loc) (ls : Array Slot) (i_k19 : Int32) (ac_k19 : Int32) (ud_k19 : Int32), Wo D A (mW cy a u18) s.heap H locs → lv_has ls 2 [(1, .int i_k19), (0, .ref (a 0))] → MB a u18 → Km15 u u18 → fI u18 0 47 = ac_k19 → fI u18 0 48 = ud_k19 → ac_k19.toInt = 0 → ud_k19.toInt = 0 → 0 ≤ i_k19.toInt ∧ i_k19.toInt ≤ 3 → 0 ≤ ac_k19.toInt ∧ ac_k19.toInt ≤ 40 → 0 ≤ ud_k19.toInt ∧ ud_k19.toInt ≤ 40 → (Sh gk (fA u18 28 24) ∧ (∀ b : Nat, (b : Int) < i_k19.toInt → fA u18 42 b = 0)) → 3 - i_k19.toInt < (n : Int) → W p l e (rmo 2 41) s m [.ref (a 0)].toArray below meth c H locs 0 0 Q (F0 m 26 ls []) := by
    intro n
    induction n with
    | zero =>
      intro u18 H locs ls i_k19 ac_k19 ud_k19 hO hl hJ hT hac_k19 hud_k19 iv0_k19 iv1_k19 iv2_k19 iv3_k19 iv4_k19 cv0_k19 hm_k19
      exact absurd hm_k19 (by omega)
    | succ n ih_k19 =>
      intro u18 H locs ls i_k19 ac_k19 ud_k19 hO hl hJ hT hac_k19 hud_k19 iv0_k19 iv1_k19 iv2_k19 iv3_k19 iv4_k19 cv0_k19 hm_k19
      refine lv_iload_n hx hb dX11_startAnew_26 rfl (lv_at hl 0 rfl) ?_
      refine lv_iconst (v := 3) hx hb dX11_startAnew_27 (by decide) ?_
      refine cs_ge (tgt := 44) (X := (i_k19).toInt) (Y := 3) hx hb dX11_startAnew_28 (by decide) rfl rfl (fun c20 => ?_) (fun c20 => ?_)
      · have hJ := hJ.i (by rw [show kN _ = gk from ((kN_eq (Km15_A3 hT) (Km15_I36 hT))).trans hgk]; exact (cv0_k19).1) (fun j hj => absurd hj (by rw [show fI _ 0 47 = ac_k19 from hac_k19, show fI _ 0 48 = ud_k19 from hud_k19]; have z0 : (0 : Int32).toInt = 0 := rfl; omega)) (fun b hb hx => absurd ((cv0_k19).2 b (by omega)) hx)
        refine hret _ _ _ _ _ dX11_startAnew_44 ?_ hO
        exact ⟨hJ, hT⟩
      · refine lv_aload_n hx hb dX11_startAnew_31 rfl (lv_at hl 1 rfl) ?_
        refine gf_RX11_142 (v := .ref (a 42)) C hO 0 mW_0 rfl dX11_startAnew_32 ?_
        refine lv_iload_n hx hb dX11_startAnew_35 rfl (lv_at hl 0 rfl) ?_
        refine lv_iconst (v := 0) hx hb dX11_startAnew_36 (by decide) ?_
        refine aZs C hO 42 mW_42 (i_in (X := (i_k19).toInt) rfl (by omega) (by omega)) mW_s42 dX11_startAnew_37 (fun H locs hO => ?_)
        have hJ := MBsA_42 hO hJ
        have hq := zr1 (k := i_k19) (cv0_k19).2 (by omega)
        have e21 : ((i_k19 + 1)).toInt = (i_k19).toInt + 1 := i_add rfl rfl (by omega)
        refine lv_iinc (v := (i_k19 + 1)) (lv' := [(1, .int (i_k19 + 1)), (0, .ref (a 0))]) hx hb dX11_startAnew_38 hl (k := 0) rfl rfl (by decide) rfl (fun ls hl => ?_)
        refine lv_goto (tgt := 26) hx hb dX11_startAnew_41 (by decide) ?_
        exact ih_k19 _ _ _ _ ((i_k19 + 1)) (ac_k19) (ud_k19) hO (lv_sub hl [0, 1] rfl) (by exact hJ) (by exact hT) (by exact hac_k19) (by exact hud_k19) (by first | decide | omega) (by first | decide | omega) (by first | decide | omega) (by first | decide | omega) (by first | decide | omega) (by exact ⟨(cv0_k19).1, fun b hb => hq b (by omega)⟩) (by first | decide | omega)
  have zc22 : (0 : Int32).toInt = 0 := rfl
  exact LP_26_k19 4000 _ _ _ _ (0) (0) (0) hO (lv_sub hl [0, 1] rfl) (by exact hJ) (by exact hT) (by exact rfl) (by exact rfl) (by first | decide | omega) (by first | decide | omega) (by first | decide | omega) (by first | decide | omega) (by first | decide | omega) (by exact ⟨hx0u4, fun b hb => absurd hb (by have z0 : (0 : Int32).toInt = 0 := rfl; omega)⟩) (by first | decide | omega)
