def Km1 (u v : St) : Prop := fI v 0 2 = fI u 0 2 ∧ fI v 0 3 = fI u 0 3 ∧ fI v 0 4 = fI u 0 4 ∧ fI v 0 5 = fI u 0 5 ∧ fI v 0 6 = fI u 0 6 ∧ fI v 0 7 = fI u 0 7 ∧ fI v 0 8 = fI u 0 8 ∧ fI v 0 9 = fI u 0 9 ∧ fL v 0 10 = fL u 0 10 ∧ fI v 0 36 = fI u 0 36 ∧ fI v 0 37 = fI u 0 37 ∧ fI v 0 38 = fI u 0 38 ∧ fI v 0 39 = fI u 0 39 ∧ fI v 0 40 = fI u 0 40 ∧ fI v 0 41 = fI u 0 41 ∧ fI v 0 42 = fI u 0 42 ∧ fI v 0 43 = fI u 0 43 ∧ fI v 0 45 = fI u 0 45 ∧ fI v 0 47 = fI u 0 47 ∧ fI v 0 48 = fI u 0 48 ∧ fI v 0 50 = fI u 0 50 ∧ fI v 0 61 = fI u 0 61 ∧ fI v 0 62 = fI u 0 62 ∧ fA v 1 = fA u 1 ∧ fA v 2 = fA u 2 ∧ fA v 3 = fA u 3 ∧ fA v 4 = fA u 4 ∧ fA v 5 = fA u 5 ∧ fA v 6 = fA u 6 ∧ fA v 7 = fA u 7 ∧ fA v 8 = fA u 8 ∧ fA v 9 = fA u 9 ∧ fA v 10 = fA u 10 ∧ fA v 11 = fA u 11 ∧ fA v 12 = fA u 12 ∧ fA v 13 = fA u 13 ∧ fA v 14 = fA u 14 ∧ fA v 15 = fA u 15 ∧ fA v 16 = fA u 16 ∧ fA v 17 = fA u 17 ∧ fA v 18 = fA u 18 ∧ fA v 19 = fA u 19 ∧ fJ v 20 = fJ u 20 ∧ fJ v 21 = fJ u 21 ∧ fJ v 22 = fJ u 22 ∧ fA v 23 = fA u 23 ∧ fA v 24 = fA u 24 ∧ fA v 25 = fA u 25 ∧ fA v 26 = fA u 26 ∧ fA v 28 = fA u 28 ∧ fA v 29 = fA u 29 ∧ fA v 30 = fA u 30 ∧ fA v 31 = fA u 31 ∧ fA v 32 = fA u 32 ∧ fA v 33 = fA u 33 ∧ fA v 34 = fA u 34 ∧ fA v 35 = fA u 35 ∧ fA v 36 = fA u 36 ∧ fA v 37 = fA u 37 ∧ fA v 38 = fA u 38 ∧ fA v 39 = fA u 39 ∧ fA v 40 = fA u 40 ∧ fA v 41 = fA u 41 ∧ fA v 42 = fA u 42
theorem Km1.rf {u : St} : Km1 u u := ⟨rfl, rfl, rfl, rfl, rfl, rfl, rfl, rfl, rfl, rfl, rfl, rfl, rfl, rfl, rfl, rfl, rfl, rfl, rfl, rfl, rfl, rfl, rfl, rfl, rfl, rfl, rfl, rfl, rfl, rfl, rfl, rfl, rfl, rfl, rfl, rfl, rfl, rfl, rfl, rfl, rfl, rfl, rfl, rfl, rfl, rfl, rfl, rfl, rfl, rfl, rfl, rfl, rfl, rfl, rfl, rfl, rfl, rfl, rfl, rfl, rfl, rfl, rfl, rfl⟩
theorem Km1.tr {u v w : St} (h1 : Km1 u v) (h2 : Km1 v w) : Km1 u w := ⟨(h2.1).trans h1.1, (h2.2.1).trans h1.2.1, (h2.2.2.1).trans h1.2.2.1, (h2.2.2.2.1).trans h1.2.2.2.1, (h2.2.2.2.2.1).trans h1.2.2.2.2.1, (h2.2.2.2.2.2.1).trans h1.2.2.2.2.2.1, (h2.2.2.2.2.2.2.1).trans h1.2.2.2.2.2.2.1, (h2.2.2.2.2.2.2.2.1).trans h1.2.2.2.2.2.2.2.1, (h2.2.2.2.2.2.2.2.2.1).trans h1.2.2.2.2.2.2.2.2.1, (h2.2.2.2.2.2.2.2.2.2.1).trans h1.2.2.2.2.2.2.2.2.2.1, (h2.2.2.2.2.2.2.2.2.2.2.1).trans h1.2.2.2.2.2.2.2.2.2.2.1, (h2.2.2.2.2.2.2.2.2.2.2.2.1).trans h1.2.2.2.2.2.2.2.2.2.2.2.1, (h2.2.2.2.2.2.2.2.2.2.2.2.2.1).trans h1.2.2.2.2.2.2.2.2.2.2.2.2.1, (h2.2.2.2.2.2.2.2.2.2.2.2.2.2.1).trans h1.2.2.2.2.2.2.2.2.2.2.2.2.2.1, (h2.2.2.2.2.2.2.2.2.2.2.2.2.2.2.1).trans h1.2.2.2.2.2.2.2.2.2.2.2.2.2.2.1, (h2.2.2.2.2.2.2.2.2.2.2.2.2.2.2.2.1).trans h1.2.2.2.2.2.2.2.2.2.2.2.2.2.2.2.1, (h2.2.2.2.2.2.2.2.2.2.2.2.2.2.2.2.2.1).trans h1.2.2.2.2.2.2.2.2.2.2.2.2.2.2.2.2.1, (h2.2.2.2.2.2.2.2.2.2.2.2.2.2.2.2.2.2.1).trans h1.2.2.2.2.2.2.2.2.2.2.2.2.2.2.2.2.2.1, (h2.2.2.2.2.2.2.2.2.2.2.2.2.2.2.2.2.2.2.1).trans h1.2.2.2.2.2.2.2.2.2.2.2.2.2.2.2.2.2.2.1, (h2.2.2.2.2.2.2.2.2.2.2.2.2.2.2.2.2.2.2.2.1).trans h1.2.2.2.2.2.2.2.2.2.2.2.2.2.2.2.2.2.2.2.1, (h2.2.2.2.2.2.2.2.2.2.2.2.2.2.2.2.2.2.2.2.2.1).trans h1.2.2.2.2.2.2.2.2.2.2.2.2.2.2.2.2.2.2.2.2.1, (h2.2.2.2.2.2.2.2.2.2.2.2.2.2.2.2.2.2.2.2.2.2.1).trans h1.2.2.2.2.2.2.2.2.2.2.2.2.2.2.2.2.2.2.2.2.2.1, (h2.2.2.2.2.2.2.2.2.2.2.2.2.2.2.2.2.2.2.2.2.2.2.1).trans h1.2.2.2.2.2.2.2.2.2.2.2.2.2.2.2.2.2.2.2.2.2.2.1, (h2.2.2.2.2.2.2.2.2.2.2.2.2.2.2.2.2.2.2.2.2.2.2.2.1).trans h1.2.2.2.2.2.2.2.2.2.2.2.2.2.2.2.2.2.2.2.2.2.2.2.1, (h2.2.2.2.2.2.2.2.2.2.2.2.2.2.2.2.2.2.2.2.2.2.2.2.2.1).trans h1.2.2.2.2.2.2.2.2.2.2.2.2.2.2.2.2.2.2.2.2.2.2.2.2.1, (h2.2.2.2.2.2.2.2.2.2.2.2.2.2.2.2.2.2.2.2.2.2.2.2.2.2.1).trans h1.2.2.2.2.2.2.2.2.2.2.2.2.2.2.2.2.2.2.2.2.2.2.2.2.2.1, (h2.2.2.2.2.2.2.2.2.2.2.2.2.2.2.2.2.2.2.2.2.2.2.2.2.2.2.1).trans h1.2.2.2.2.2.2.2.2.2.2.2.2.2.2.2.2.2.2.2.2.2.2.2.2.2.2.1, (h2.2.2.2.2.2.2.2.2.2.2.2.2.2.2.2.2.2.2.2.2.2.2.2.2.2.2.2.1).trans h1.2.2.2.2.2.2.2.2.2.2.2.2.2.2.2.2.2.2.2.2.2.2.2.2.2.2.2.1, (h2.2.2.2.2.2.2.2.2.2.2.2.2.2.2.2.2.2.2.2.2.2.2.2.2.2.2.2.2.1).trans h1.2.2.2.2.2.2.2.2.2.2.2.2.2.2.2.2.2.2.2.2.2.2.2.2.2.2.2.2.1, (h2.2.2.2.2.2.2.2.2.2.2.2.2.2.2.2.2.2.2.2.2.2.2.2.2.2.2.2.2.2.1).trans h1.2.2.2.2.2.2.2.2.2.2.2.2.2.2.2.2.2.2.2.2.2.2.2.2.2.2.2.2.2.1, (h2.2.2.2.2.2.2.2.2.2.2.2.2.2.2.2.2.2.2.2.2.2.2.2.2.2.2.2.2.2.2.1).trans h1.2.2.2.2.2.2.2.2.2.2.2.2.2.2.2.2.2.2.2.2.2.2.2.2.2.2.2.2.2.2.1, (h2.2.2.2.2.2.2.2.2.2.2.2.2.2.2.2.2.2.2.2.2.2.2.2.2.2.2.2.2.2.2.2.1).trans h1.2.2.2.2.2.2.2.2.2.2.2.2.2.2.2.2.2.2.2.2.2.2.2.2.2.2.2.2.2.2.2.1, (h2.2.2.2.2.2.2.2.2.2.2.2.2.2.2.2.2.2.2.2.2.2.2.2.2.2.2.2.2.2.2.2.2.1).trans h1.2.2.2.2.2.2.2.2.2.2.2.2.2.2.2.2.2.2.2.2.2.2.2.2.2.2.2.2.2.2.2.2.1, (h2.2.2.2.2.2.2.2.2.2.2.2.2.2.2.2.2.2.2.2.2.2.2.2.2.2.2.2.2.2.2.2.2.2.1).trans h1.2.2.2.2.2.2.2.2.2.2.2.2.2.2.2.2.2.2.2.2.2.2.2.2.2.2.2.2.2.2.2.2.2.1, (h2.2.2.2.2.2.2.2.2.2.2.2.2.2.2.2.2.2.2.2.2.2.2.2.2.2.2.2.2.2.2.2.2.2.2.1).trans h1.2.2.2.2.2.2.2.2.2.2.2.2.2.2.2.2.2.2.2.2.2.2.2.2.2.2.2.2.2.2.2.2.2.2.1, (h2.2.2.2.2.2.2.2.2.2.2.2.2.2.2.2.2.2.2.2.2.2.2.2.2.2.2.2.2.2.2.2.2.2.2.2.1).trans h1.2.2.2.2.2.2.2.2.2.2.2.2.2.2.2.2.2.2.2.2.2.2.2.2.2.2.2.2.2.2.2.2.2.2.2.1, (h2.2.2.2.2.2.2.2.2.2.2.2.2.2.2.2.2.2.2.2.2.2.2.2.2.2.2.2.2.2.2.2.2.2.2.2.2.1).trans h1.2.2.2.2.2.2.2.2.2.2.2.2.2.2.2.2.2.2.2.2.2.2.2.2.2.2.2.2.2.2.2.2.2.2.2.2.1, (h2.2.2.2.2.2.2.2.2.2.2.2.2.2.2.2.2.2.2.2.2.2.2.2.2.2.2.2.2.2.2.2.2.2.2.2.2.2.1).trans h1.2.2.2.2.2.2.2.2.2.2.2.2.2.2.2.2.2.2.2.2.2.2.2.2.2.2.2.2.2.2.2.2.2.2.2.2.2.1, (h2.2.2.2.2.2.2.2.2.2.2.2.2.2.2.2.2.2.2.2.2.2.2.2.2.2.2.2.2.2.2.2.2.2.2.2.2.2.2.1).trans h1.2.2.2.2.2.2.2.2.2.2.2.2.2.2.2.2.2.2.2.2.2.2.2.2.2.2.2.2.2.2.2.2.2.2.2.2.2.2.1, (h2.2.2.2.2.2.2.2.2.2.2.2.2.2.2.2.2.2.2.2.2.2.2.2.2.2.2.2.2.2.2.2.2.2.2.2.2.2.2.2.1).trans h1.2.2.2.2.2.2.2.2.2.2.2.2.2.2.2.2.2.2.2.2.2.2.2.2.2.2.2.2.2.2.2.2.2.2.2.2.2.2.2.1, (h2.2.2.2.2.2.2.2.2.2.2.2.2.2.2.2.2.2.2.2.2.2.2.2.2.2.2.2.2.2.2.2.2.2.2.2.2.2.2.2.2.1).trans h1.2.2.2.2.2.2.2.2.2.2.2.2.2.2.2.2.2.2.2.2.2.2.2.2.2.2.2.2.2.2.2.2.2.2.2.2.2.2.2.2.1, (h2.2.2.2.2.2.2.2.2.2.2.2.2.2.2.2.2.2.2.2.2.2.2.2.2.2.2.2.2.2.2.2.2.2.2.2.2.2.2.2.2.2.1).trans h1.2.2.2.2.2.2.2.2.2.2.2.2.2.2.2.2.2.2.2.2.2.2.2.2.2.2.2.2.2.2.2.2.2.2.2.2.2.2.2.2.2.1, (h2.2.2.2.2.2.2.2.2.2.2.2.2.2.2.2.2.2.2.2.2.2.2.2.2.2.2.2.2.2.2.2.2.2.2.2.2.2.2.2.2.2.2.1).trans h1.2.2.2.2.2.2.2.2.2.2.2.2.2.2.2.2.2.2.2.2.2.2.2.2.2.2.2.2.2.2.2.2.2.2.2.2.2.2.2.2.2.2.1, (h2.2.2.2.2.2.2.2.2.2.2.2.2.2.2.2.2.2.2.2.2.2.2.2.2.2.2.2.2.2.2.2.2.2.2.2.2.2.2.2.2.2.2.2.1).trans h1.2.2.2.2.2.2.2.2.2.2.2.2.2.2.2.2.2.2.2.2.2.2.2.2.2.2.2.2.2.2.2.2.2.2.2.2.2.2.2.2.2.2.2.1, (h2.2.2.2.2.2.2.2.2.2.2.2.2.2.2.2.2.2.2.2.2.2.2.2.2.2.2.2.2.2.2.2.2.2.2.2.2.2.2.2.2.2.2.2.2.1).trans h1.2.2.2.2.2.2.2.2.2.2.2.2.2.2.2.2.2.2.2.2.2.2.2.2.2.2.2.2.2.2.2.2.2.2.2.2.2.2.2.2.2.2.2.2.1, (h2.2.2.2.2.2.2.2.2.2.2.2.2.2.2.2.2.2.2.2.2.2.2.2.2.2.2.2.2.2.2.2.2.2.2.2.2.2.2.2.2.2.2.2.2.2.1).trans h1.2.2.2.2.2.2.2.2.2.2.2.2.2.2.2.2.2.2.2.2.2.2.2.2.2.2.2.2.2.2.2.2.2.2.2.2.2.2.2.2.2.2.2.2.2.1, (h2.2.2.2.2.2.2.2.2.2.2.2.2.2.2.2.2.2.2.2.2.2.2.2.2.2.2.2.2.2.2.2.2.2.2.2.2.2.2.2.2.2.2.2.2.2.2.1).trans h1.2.2.2.2.2.2.2.2.2.2.2.2.2.2.2.2.2.2.2.2.2.2.2.2.2.2.2.2.2.2.2.2.2.2.2.2.2.2.2.2.2.2.2.2.2.2.1, (h2.2.2.2.2.2.2.2.2.2.2.2.2.2.2.2.2.2.2.2.2.2.2.2.2.2.2.2.2.2.2.2.2.2.2.2.2.2.2.2.2.2.2.2.2.2.2.2.1).trans h1.2.2.2.2.2.2.2.2.2.2.2.2.2.2.2.2.2.2.2.2.2.2.2.2.2.2.2.2.2.2.2.2.2.2.2.2.2.2.2.2.2.2.2.2.2.2.2.1, (h2.2.2.2.2.2.2.2.2.2.2.2.2.2.2.2.2.2.2.2.2.2.2.2.2.2.2.2.2.2.2.2.2.2.2.2.2.2.2.2.2.2.2.2.2.2.2.2.2.1).trans h1.2.2.2.2.2.2.2.2.2.2.2.2.2.2.2.2.2.2.2.2.2.2.2.2.2.2.2.2.2.2.2.2.2.2.2.2.2.2.2.2.2.2.2.2.2.2.2.2.1, (h2.2.2.2.2.2.2.2.2.2.2.2.2.2.2.2.2.2.2.2.2.2.2.2.2.2.2.2.2.2.2.2.2.2.2.2.2.2.2.2.2.2.2.2.2.2.2.2.2.2.1).trans h1.2.2.2.2.2.2.2.2.2.2.2.2.2.2.2.2.2.2.2.2.2.2.2.2.2.2.2.2.2.2.2.2.2.2.2.2.2.2.2.2.2.2.2.2.2.2.2.2.2.1, (h2.2.2.2.2.2.2.2.2.2.2.2.2.2.2.2.2.2.2.2.2.2.2.2.2.2.2.2.2.2.2.2.2.2.2.2.2.2.2.2.2.2.2.2.2.2.2.2.2.2.2.1).trans h1.2.2.2.2.2.2.2.2.2.2.2.2.2.2.2.2.2.2.2.2.2.2.2.2.2.2.2.2.2.2.2.2.2.2.2.2.2.2.2.2.2.2.2.2.2.2.2.2.2.2.1, (h2.2.2.2.2.2.2.2.2.2.2.2.2.2.2.2.2.2.2.2.2.2.2.2.2.2.2.2.2.2.2.2.2.2.2.2.2.2.2.2.2.2.2.2.2.2.2.2.2.2.2.2.1).trans h1.2.2.2.2.2.2.2.2.2.2.2.2.2.2.2.2.2.2.2.2.2.2.2.2.2.2.2.2.2.2.2.2.2.2.2.2.2.2.2.2.2.2.2.2.2.2.2.2.2.2.2.1, (h2.2.2.2.2.2.2.2.2.2.2.2.2.2.2.2.2.2.2.2.2.2.2.2.2.2.2.2.2.2.2.2.2.2.2.2.2.2.2.2.2.2.2.2.2.2.2.2.2.2.2.2.2.1).trans h1.2.2.2.2.2.2.2.2.2.2.2.2.2.2.2.2.2.2.2.2.2.2.2.2.2.2.2.2.2.2.2.2.2.2.2.2.2.2.2.2.2.2.2.2.2.2.2.2.2.2.2.2.1, (h2.2.2.2.2.2.2.2.2.2.2.2.2.2.2.2.2.2.2.2.2.2.2.2.2.2.2.2.2.2.2.2.2.2.2.2.2.2.2.2.2.2.2.2.2.2.2.2.2.2.2.2.2.2.1).trans h1.2.2.2.2.2.2.2.2.2.2.2.2.2.2.2.2.2.2.2.2.2.2.2.2.2.2.2.2.2.2.2.2.2.2.2.2.2.2.2.2.2.2.2.2.2.2.2.2.2.2.2.2.2.1, (h2.2.2.2.2.2.2.2.2.2.2.2.2.2.2.2.2.2.2.2.2.2.2.2.2.2.2.2.2.2.2.2.2.2.2.2.2.2.2.2.2.2.2.2.2.2.2.2.2.2.2.2.2.2.2.1).trans h1.2.2.2.2.2.2.2.2.2.2.2.2.2.2.2.2.2.2.2.2.2.2.2.2.2.2.2.2.2.2.2.2.2.2.2.2.2.2.2.2.2.2.2.2.2.2.2.2.2.2.2.2.2.2.1, (h2.2.2.2.2.2.2.2.2.2.2.2.2.2.2.2.2.2.2.2.2.2.2.2.2.2.2.2.2.2.2.2.2.2.2.2.2.2.2.2.2.2.2.2.2.2.2.2.2.2.2.2.2.2.2.2.1).trans h1.2.2.2.2.2.2.2.2.2.2.2.2.2.2.2.2.2.2.2.2.2.2.2.2.2.2.2.2.2.2.2.2.2.2.2.2.2.2.2.2.2.2.2.2.2.2.2.2.2.2.2.2.2.2.2.1, (h2.2.2.2.2.2.2.2.2.2.2.2.2.2.2.2.2.2.2.2.2.2.2.2.2.2.2.2.2.2.2.2.2.2.2.2.2.2.2.2.2.2.2.2.2.2.2.2.2.2.2.2.2.2.2.2.2.1).trans h1.2.2.2.2.2.2.2.2.2.2.2.2.2.2.2.2.2.2.2.2.2.2.2.2.2.2.2.2.2.2.2.2.2.2.2.2.2.2.2.2.2.2.2.2.2.2.2.2.2.2.2.2.2.2.2.2.1, (h2.2.2.2.2.2.2.2.2.2.2.2.2.2.2.2.2.2.2.2.2.2.2.2.2.2.2.2.2.2.2.2.2.2.2.2.2.2.2.2.2.2.2.2.2.2.2.2.2.2.2.2.2.2.2.2.2.2.1).trans h1.2.2.2.2.2.2.2.2.2.2.2.2.2.2.2.2.2.2.2.2.2.2.2.2.2.2.2.2.2.2.2.2.2.2.2.2.2.2.2.2.2.2.2.2.2.2.2.2.2.2.2.2.2.2.2.2.2.1, (h2.2.2.2.2.2.2.2.2.2.2.2.2.2.2.2.2.2.2.2.2.2.2.2.2.2.2.2.2.2.2.2.2.2.2.2.2.2.2.2.2.2.2.2.2.2.2.2.2.2.2.2.2.2.2.2.2.2.2.1).trans h1.2.2.2.2.2.2.2.2.2.2.2.2.2.2.2.2.2.2.2.2.2.2.2.2.2.2.2.2.2.2.2.2.2.2.2.2.2.2.2.2.2.2.2.2.2.2.2.2.2.2.2.2.2.2.2.2.2.2.1, (h2.2.2.2.2.2.2.2.2.2.2.2.2.2.2.2.2.2.2.2.2.2.2.2.2.2.2.2.2.2.2.2.2.2.2.2.2.2.2.2.2.2.2.2.2.2.2.2.2.2.2.2.2.2.2.2.2.2.2.2.1).trans h1.2.2.2.2.2.2.2.2.2.2.2.2.2.2.2.2.2.2.2.2.2.2.2.2.2.2.2.2.2.2.2.2.2.2.2.2.2.2.2.2.2.2.2.2.2.2.2.2.2.2.2.2.2.2.2.2.2.2.2.1, (h2.2.2.2.2.2.2.2.2.2.2.2.2.2.2.2.2.2.2.2.2.2.2.2.2.2.2.2.2.2.2.2.2.2.2.2.2.2.2.2.2.2.2.2.2.2.2.2.2.2.2.2.2.2.2.2.2.2.2.2.2.1).trans h1.2.2.2.2.2.2.2.2.2.2.2.2.2.2.2.2.2.2.2.2.2.2.2.2.2.2.2.2.2.2.2.2.2.2.2.2.2.2.2.2.2.2.2.2.2.2.2.2.2.2.2.2.2.2.2.2.2.2.2.2.1, (h2.2.2.2.2.2.2.2.2.2.2.2.2.2.2.2.2.2.2.2.2.2.2.2.2.2.2.2.2.2.2.2.2.2.2.2.2.2.2.2.2.2.2.2.2.2.2.2.2.2.2.2.2.2.2.2.2.2.2.2.2.2.1).trans h1.2.2.2.2.2.2.2.2.2.2.2.2.2.2.2.2.2.2.2.2.2.2.2.2.2.2.2.2.2.2.2.2.2.2.2.2.2.2.2.2.2.2.2.2.2.2.2.2.2.2.2.2.2.2.2.2.2.2.2.2.2.1, (h2.2.2.2.2.2.2.2.2.2.2.2.2.2.2.2.2.2.2.2.2.2.2.2.2.2.2.2.2.2.2.2.2.2.2.2.2.2.2.2.2.2.2.2.2.2.2.2.2.2.2.2.2.2.2.2.2.2.2.2.2.2.2.1).trans h1.2.2.2.2.2.2.2.2.2.2.2.2.2.2.2.2.2.2.2.2.2.2.2.2.2.2.2.2.2.2.2.2.2.2.2.2.2.2.2.2.2.2.2.2.2.2.2.2.2.2.2.2.2.2.2.2.2.2.2.2.2.2.1, (h2.2.2.2.2.2.2.2.2.2.2.2.2.2.2.2.2.2.2.2.2.2.2.2.2.2.2.2.2.2.2.2.2.2.2.2.2.2.2.2.2.2.2.2.2.2.2.2.2.2.2.2.2.2.2.2.2.2.2.2.2.2.2.2).trans h1.2.2.2.2.2.2.2.2.2.2.2.2.2.2.2.2.2.2.2.2.2.2.2.2.2.2.2.2.2.2.2.2.2.2.2.2.2.2.2.2.2.2.2.2.2.2.2.2.2.2.2.2.2.2.2.2.2.2.2.2.2.2.2⟩
theorem dX11_comes_0 : decode cX11_comes 0 = .ok (.iconst 0, 1) := by decide +kernel
theorem dX11_comes_1 : decode cX11_comes 1 = .ok (.istore_n 1, 1) := by decide +kernel
theorem dX11_comes_2 : decode cX11_comes 2 = .ok (.aload_n 0, 1) := by decide +kernel
theorem dX11_comes_3 : decode cX11_comes 3 = .ok (.getfield 66, 3) := by decide +kernel
theorem dX11_comes_6 : decode cX11_comes 6 = .ok (.aload_n 0, 1) := by decide +kernel
theorem dX11_comes_7 : decode cX11_comes 7 = .ok (.getfield 255, 3) := by decide +kernel
theorem dX11_comes_10 : decode cX11_comes 10 = .ok (.iaload, 1) := by decide +kernel
theorem dX11_comes_11 : decode cX11_comes 11 = .ok (.istore_n 2, 1) := by decide +kernel
theorem dX11_comes_12 : decode cX11_comes 12 = .ok (.iload_n 2, 1) := by decide +kernel
theorem dX11_comes_13 : decode cX11_comes 13 = .ok (.aload_n 0, 1) := by decide +kernel
theorem dX11_comes_14 : decode cX11_comes 14 = .ok (.getfield 69, 3) := by decide +kernel
theorem dX11_comes_17 : decode cX11_comes 17 = .ok (.aload_n 0, 1) := by decide +kernel
theorem dX11_comes_18 : decode cX11_comes 18 = .ok (.getfield 255, 3) := by decide +kernel
theorem dX11_comes_21 : decode cX11_comes 21 = .ok (.iaload, 1) := by decide +kernel
theorem dX11_comes_22 : decode cX11_comes 22 = .ok (.if_icmp .ge 108, 3) := by decide +kernel
theorem dX11_comes_25 : decode cX11_comes 25 = .ok (.aload_n 0, 1) := by decide +kernel
theorem dX11_comes_26 : decode cX11_comes 26 = .ok (.getfield 82, 3) := by decide +kernel
theorem dX11_comes_29 : decode cX11_comes 29 = .ok (.iload_n 2, 1) := by decide +kernel
theorem dX11_comes_30 : decode cX11_comes 30 = .ok (.iaload, 1) := by decide +kernel
theorem dX11_comes_31 : decode cX11_comes 31 = .ok (.istore_n 3, 1) := by decide +kernel
theorem dX11_comes_32 : decode cX11_comes 32 = .ok (.iload_n 3, 1) := by decide +kernel
theorem dX11_comes_33 : decode cX11_comes 33 = .ok (.bipush 126, 2) := by decide +kernel
theorem dX11_comes_35 : decode cX11_comes 35 = .ok (.if_icmp .ne 30, 3) := by decide +kernel
theorem dX11_comes_38 : decode cX11_comes 38 = .ok (.aload_n 0, 1) := by decide +kernel
theorem dX11_comes_39 : decode cX11_comes 39 = .ok (.getfield 94, 3) := by decide +kernel
theorem dX11_comes_42 : decode cX11_comes 42 = .ok (.iload_n 1, 1) := by decide +kernel
theorem dX11_comes_43 : decode cX11_comes 43 = .ok (.iconst 1, 1) := by decide +kernel
theorem dX11_comes_44 : decode cX11_comes 44 = .ok (.isub, 1) := by decide +kernel
theorem dX11_comes_45 : decode cX11_comes 45 = .ok (.aload_n 0, 1) := by decide +kernel
theorem dX11_comes_46 : decode cX11_comes 46 = .ok (.getfield 94, 3) := by decide +kernel
theorem dX11_comes_49 : decode cX11_comes 49 = .ok (.iload_n 1, 1) := by decide +kernel
theorem dX11_comes_50 : decode cX11_comes 50 = .ok (.iconst 1, 1) := by decide +kernel
theorem dX11_comes_51 : decode cX11_comes 51 = .ok (.isub, 1) := by decide +kernel
theorem dX11_comes_52 : decode cX11_comes 52 = .ok (.iaload, 1) := by decide +kernel
theorem dX11_comes_53 : decode cX11_comes 53 = .ok (.ifCond .ne 7, 3) := by decide +kernel
theorem dX11_comes_56 : decode cX11_comes 56 = .ok (.iconst 1, 1) := by decide +kernel
theorem dX11_comes_57 : decode cX11_comes 57 = .ok (.goto 4, 3) := by decide +kernel
theorem dX11_comes_60 : decode cX11_comes 60 = .ok (.iconst 0, 1) := by decide +kernel
theorem dX11_comes_61 : decode cX11_comes 61 = .ok (.iastore, 1) := by decide +kernel
theorem dX11_comes_62 : decode cX11_comes 62 = .ok (.goto 62, 3) := by decide +kernel
theorem dX11_comes_65 : decode cX11_comes 65 = .ok (.iload_n 3, 1) := by decide +kernel
theorem dX11_comes_66 : decode cX11_comes 66 = .ok (.invokestatic 211, 3) := by decide +kernel
theorem dX11_comes_69 : decode cX11_comes 69 = .ok (.ifCond .eq 26, 3) := by decide +kernel
theorem dX11_comes_72 : decode cX11_comes 72 = .ok (.aload_n 0, 1) := by decide +kernel
theorem dX11_comes_73 : decode cX11_comes 73 = .ok (.getfield 94, 3) := by decide +kernel
theorem dX11_comes_76 : decode cX11_comes 76 = .ok (.iload_n 1, 1) := by decide +kernel
theorem dX11_comes_77 : decode cX11_comes 77 = .ok (.aload_n 0, 1) := by decide +kernel
theorem dX11_comes_78 : decode cX11_comes 78 = .ok (.iload_n 3, 1) := by decide +kernel
theorem dX11_comes_79 : decode cX11_comes 79 = .ok (.aload_n 0, 1) := by decide +kernel
theorem dX11_comes_80 : decode cX11_comes 80 = .ok (.getfield 85, 3) := by decide +kernel
theorem dX11_comes_83 : decode cX11_comes 83 = .ok (.iload_n 2, 1) := by decide +kernel
theorem dX11_comes_84 : decode cX11_comes 84 = .ok (.iaload, 1) := by decide +kernel
theorem dX11_comes_85 : decode cX11_comes 85 = .ok (.invokevirtual 364, 3) := by decide +kernel
theorem dX11_comes_88 : decode cX11_comes 88 = .ok (.iastore, 1) := by decide +kernel
theorem dX11_comes_89 : decode cX11_comes 89 = .ok (.iinc 1 1, 3) := by decide +kernel
theorem dX11_comes_92 : decode cX11_comes 92 = .ok (.goto 32, 3) := by decide +kernel
theorem dX11_comes_95 : decode cX11_comes 95 = .ok (.iinc 1 (-1), 3) := by decide +kernel
theorem dX11_comes_98 : decode cX11_comes 98 = .ok (.aload_n 0, 1) := by decide +kernel
theorem dX11_comes_99 : decode cX11_comes 99 = .ok (.getfield 94, 3) := by decide +kernel
theorem dX11_comes_102 : decode cX11_comes 102 = .ok (.iload_n 1, 1) := by decide +kernel
theorem dX11_comes_103 : decode cX11_comes 103 = .ok (.iconst 1, 1) := by decide +kernel
theorem dX11_comes_104 : decode cX11_comes 104 = .ok (.isub, 1) := by decide +kernel
theorem dX11_comes_105 : decode cX11_comes 105 = .ok (.iload_n 3, 1) := by decide +kernel
theorem dX11_comes_106 : decode cX11_comes 106 = .ok (.aload_n 0, 1) := by decide +kernel
theorem dX11_comes_107 : decode cX11_comes 107 = .ok (.getfield 94, 3) := by decide +kernel
theorem dX11_comes_110 : decode cX11_comes 110 = .ok (.iload_n 1, 1) := by decide +kernel
theorem dX11_comes_111 : decode cX11_comes 111 = .ok (.iconst 1, 1) := by decide +kernel
theorem dX11_comes_112 : decode cX11_comes 112 = .ok (.isub, 1) := by decide +kernel
theorem dX11_comes_113 : decode cX11_comes 113 = .ok (.iaload, 1) := by decide +kernel
theorem dX11_comes_114 : decode cX11_comes 114 = .ok (.aload_n 0, 1) := by decide +kernel
theorem dX11_comes_115 : decode cX11_comes 115 = .ok (.getfield 94, 3) := by decide +kernel
theorem dX11_comes_118 : decode cX11_comes 118 = .ok (.iload_n 1, 1) := by decide +kernel
theorem dX11_comes_119 : decode cX11_comes 119 = .ok (.iaload, 1) := by decide +kernel
theorem dX11_comes_120 : decode cX11_comes 120 = .ok (.invokestatic 367, 3) := by decide +kernel
theorem dX11_comes_123 : decode cX11_comes 123 = .ok (.iastore, 1) := by decide +kernel
theorem dX11_comes_124 : decode cX11_comes 124 = .ok (.iinc 2 1, 3) := by decide +kernel
theorem dX11_comes_127 : decode cX11_comes 127 = .ok (.goto (-115), 3) := by decide +kernel
theorem dX11_comes_130 : decode cX11_comes 130 = .ok (.aload_n 0, 1) := by decide +kernel
theorem dX11_comes_131 : decode cX11_comes 131 = .ok (.getfield 94, 3) := by decide +kernel
theorem dX11_comes_134 : decode cX11_comes 134 = .ok (.iconst 0, 1) := by decide +kernel
theorem dX11_comes_135 : decode cX11_comes 135 = .ok (.iaload, 1) := by decide +kernel
theorem dX11_comes_136 : decode cX11_comes 136 = .ok (.ireturn, 1) := by decide +kernel
theorem wd_1772 : (Cond.code ⟨"WebCourtModel", "comes", "()I"⟩ prog_13_method_39_code (4 : Nat) (Option.some FieldType.int)) ∈ gtb := gtb_c7 223 (by decide +kernel) rfl
theorem wd_1382 : (Cond.fieldLink "WebCourtModel" (66 : Nat) "WebCourtModel" "ruleFrom" "[I") ∈ gtb := gtb_c6 73 (by decide +kernel) rfl
theorem gf_RX11_66 {p : Program} {l : Launch} {e : Env} {R : Room} {s : State} {m : MethodId} {args : Array Value} {below : List Frame} {meth : Method} {c : Code} {H : Heap} {locs : List Loc} {cells slots : Nat} {Q : State → Prop} {cc : ByteArray} {pc nL : Nat} {ls : Array Slot} {rest : List Value} {D : va_G} {cy : Nat → ClassId} {A : Nat → Prop} {ws : va_W} {b : Nat} {fs : List Value} {v : Value} (C : Cx p s m args c cc nL RX11 D cy A) (hO : Wo D A ws s.heap H locs) (q0 : Nat) (he : ws[q0]? = some (b, .inr (11, fs))) (hv : fs[26]? = some v) (hdg : decode cc pc = .ok (.getfield 66, 3)) (kk : W p l e R s m args below meth c H locs cells slots Q (F0 m (pc + 3) ls (v :: rest))) : W p l e R s m args below meth c H locs cells slots Q (F0 m pc ls (.ref b :: rest)) := gF (k := 26) C hO q0 he rfl inFX11 (by decide) wd_1382 rfl hv hdg kk
theorem wd_1383 : (Cond.fieldLink "WebCourtModel" (69 : Nat) "WebCourtModel" "ruleTo" "[I") ∈ gtb := gtb_c6 74 (by decide +kernel) rfl
theorem gf_RX11_69 {p : Program} {l : Launch} {e : Env} {R : Room} {s : State} {m : MethodId} {args : Array Value} {below : List Frame} {meth : Method} {c : Code} {H : Heap} {locs : List Loc} {cells slots : Nat} {Q : State → Prop} {cc : ByteArray} {pc nL : Nat} {ls : Array Slot} {rest : List Value} {D : va_G} {cy : Nat → ClassId} {A : Nat → Prop} {ws : va_W} {b : Nat} {fs : List Value} {v : Value} (C : Cx p s m args c cc nL RX11 D cy A) (hO : Wo D A ws s.heap H locs) (q0 : Nat) (he : ws[q0]? = some (b, .inr (11, fs))) (hv : fs[27]? = some v) (hdg : decode cc pc = .ok (.getfield 69, 3)) (kk : W p l e R s m args below meth c H locs cells slots Q (F0 m (pc + 3) ls (v :: rest))) : W p l e R s m args below meth c H locs cells slots Q (F0 m pc ls (.ref b :: rest)) := gF (k := 27) C hO q0 he rfl inFX11 (by decide) wd_1383 rfl hv hdg kk
theorem Km1_I36 {u v : St} (h : Km1 u v) : fI v 0 36 = fI u 0 36 := h.2.2.2.2.2.2.2.2.2.1
theorem Km1_A19 {u v : St} (h : Km1 u v) : fA v 19 = fA u 19 := h.2.2.2.2.2.2.2.2.2.2.2.2.2.2.2.2.2.2.2.2.2.2.2.2.2.2.2.2.2.2.2.2.2.2.2.2.2.2.2.2.2.1
theorem wd_1391 : (Cond.fieldLink "WebCourtModel" (94 : Nat) "WebCourtModel" "pile" "[I") ∈ gtb := gtb_c6 82 (by decide +kernel) rfl
theorem gf_RX11_94 {p : Program} {l : Launch} {e : Env} {R : Room} {s : State} {m : MethodId} {args : Array Value} {below : List Frame} {meth : Method} {c : Code} {H : Heap} {locs : List Loc} {cells slots : Nat} {Q : State → Prop} {cc : ByteArray} {pc nL : Nat} {ls : Array Slot} {rest : List Value} {D : va_G} {cy : Nat → ClassId} {A : Nat → Prop} {ws : va_W} {b : Nat} {fs : List Value} {v : Value} (C : Cx p s m args c cc nL RX11 D cy A) (hO : Wo D A ws s.heap H locs) (q0 : Nat) (he : ws[q0]? = some (b, .inr (11, fs))) (hv : fs[35]? = some v) (hdg : decode cc pc = .ok (.getfield 94, 3)) (kk : W p l e R s m args below meth c H locs cells slots Q (F0 m (pc + 3) ls (v :: rest))) : W p l e R s m args below meth c H locs cells slots Q (F0 m pc ls (.ref b :: rest)) := gF (k := 35) C hO q0 he rfl inFX11 (by decide) wd_1391 rfl hv hdg kk
theorem wd_1387 : (Cond.fieldLink "WebCourtModel" (82 : Nat) "WebCourtModel" "code" "[I") ∈ gtb := gtb_c6 78 (by decide +kernel) rfl
theorem gf_RX11_82 {p : Program} {l : Launch} {e : Env} {R : Room} {s : State} {m : MethodId} {args : Array Value} {below : List Frame} {meth : Method} {c : Code} {H : Heap} {locs : List Loc} {cells slots : Nat} {Q : State → Prop} {cc : ByteArray} {pc nL : Nat} {ls : Array Slot} {rest : List Value} {D : va_G} {cy : Nat → ClassId} {A : Nat → Prop} {ws : va_W} {b : Nat} {fs : List Value} {v : Value} (C : Cx p s m args c cc nL RX11 D cy A) (hO : Wo D A ws s.heap H locs) (q0 : Nat) (he : ws[q0]? = some (b, .inr (11, fs))) (hv : fs[31]? = some v) (hdg : decode cc pc = .ok (.getfield 82, 3)) (kk : W p l e R s m args below meth c H locs cells slots Q (F0 m (pc + 3) ls (v :: rest))) : W p l e R s m args below meth c H locs cells slots Q (F0 m pc ls (.ref b :: rest)) := gF (k := 31) C hO q0 he rfl inFX11 (by decide) wd_1387 rfl hv hdg kk
theorem Km1_A23 {u v : St} (h : Km1 u v) : fA v 23 = fA u 23 := h.2.2.2.2.2.2.2.2.2.2.2.2.2.2.2.2.2.2.2.2.2.2.2.2.2.2.2.2.2.2.2.2.2.2.2.2.2.2.2.2.2.2.2.2.2.1
theorem wd_1564 : (Cond.methodLink "WebCourtModel" (211 : Nat) ⟨"WebCourtModel", "isLetter", "(I)Z"⟩) ∈ gtb := gtb_c7 15 (by decide +kernel) rfl
theorem wd_1565 : (Cond.static ⟨"WebCourtModel", "isLetter", "(I)Z"⟩) ∈ gtb := gtb_c7 16 (by decide +kernel) rfl
theorem hd_yX11_isLetter : yX11_isLetter.cls ≠ "java/lang/invoke/MethodHandle" ∧ yX11_isLetter.cls ≠ "java/lang/invoke/VarHandle" ∧ (parseMethodDescriptor yX11_isLetter.desc).map (fun d => d.parameters.length) = some 1 := by decide +kernel
theorem wd_1388 : (Cond.fieldLink "WebCourtModel" (85 : Nat) "WebCourtModel" "codeNumber" "[I") ∈ gtb := gtb_c6 79 (by decide +kernel) rfl
theorem gf_RX11_85 {p : Program} {l : Launch} {e : Env} {R : Room} {s : State} {m : MethodId} {args : Array Value} {below : List Frame} {meth : Method} {c : Code} {H : Heap} {locs : List Loc} {cells slots : Nat} {Q : State → Prop} {cc : ByteArray} {pc nL : Nat} {ls : Array Slot} {rest : List Value} {D : va_G} {cy : Nat → ClassId} {A : Nat → Prop} {ws : va_W} {b : Nat} {fs : List Value} {v : Value} (C : Cx p s m args c cc nL RX11 D cy A) (hO : Wo D A ws s.heap H locs) (q0 : Nat) (he : ws[q0]? = some (b, .inr (11, fs))) (hv : fs[32]? = some v) (hdg : decode cc pc = .ok (.getfield 85, 3)) (kk : W p l e R s m args below meth c H locs cells slots Q (F0 m (pc + 3) ls (v :: rest))) : W p l e R s m args below meth c H locs cells slots Q (F0 m pc ls (.ref b :: rest)) := gF (k := 32) C hO q0 he rfl inFX11 (by decide) wd_1388 rfl hv hdg kk
theorem Km1_A24 {u v : St} (h : Km1 u v) : fA v 24 = fA u 24 := h.2.2.2.2.2.2.2.2.2.2.2.2.2.2.2.2.2.2.2.2.2.2.2.2.2.2.2.2.2.2.2.2.2.2.2.2.2.2.2.2.2.2.2.2.2.2.1
theorem wd_1773 : (Cond.methodLink "WebCourtModel" (364 : Nat) ⟨"WebCourtModel", "asked", "(II)I"⟩) ∈ gtb := gtb_c7 224 (by decide +kernel) rfl
theorem wd_1775 : (Cond.instanceMethod ⟨"WebCourtModel", "asked", "(II)I"⟩) ∈ gtb := gtb_c7 226 (by decide +kernel) rfl
theorem wd_87 : (Cond.selects "WebCourtModel" ⟨"WebCourtModel", "asked", "(II)I"⟩ ⟨"WebCourtModel", "asked", "(II)I"⟩) ∈ gtb := gtb_p 87 (by decide +kernel) rfl
theorem hd_yX11_asked : yX11_asked.cls = RX11 ∧ yX11_asked.cls ≠ "java/lang/invoke/MethodHandle" ∧ yX11_asked.cls ≠ "java/lang/invoke/VarHandle" ∧ (parseMethodDescriptor yX11_asked.desc).map (fun d => d.parameters.length) = some 2 := by decide +kernel
theorem Km1_wA27 {u v : St} {D : va_G} {A : Nat → Prop} {cy : Nat → ClassId} {a : Nat → Nat} {hp H : Heap} {locs : List Loc} {f : Nat → Int32} (_ : Wo D A (mW cy a (sA v 27 f)) hp H locs) (h : Km1 u v) : Km1 u (sA v 27 f) := ⟨h.1, h.2.1, h.2.2.1, h.2.2.2.1, h.2.2.2.2.1, h.2.2.2.2.2.1, h.2.2.2.2.2.2.1, h.2.2.2.2.2.2.2.1, h.2.2.2.2.2.2.2.2.1, h.2.2.2.2.2.2.2.2.2.1, h.2.2.2.2.2.2.2.2.2.2.1, h.2.2.2.2.2.2.2.2.2.2.2.1, h.2.2.2.2.2.2.2.2.2.2.2.2.1, h.2.2.2.2.2.2.2.2.2.2.2.2.2.1, h.2.2.2.2.2.2.2.2.2.2.2.2.2.2.1, h.2.2.2.2.2.2.2.2.2.2.2.2.2.2.2.1, h.2.2.2.2.2.2.2.2.2.2.2.2.2.2.2.2.1, h.2.2.2.2.2.2.2.2.2.2.2.2.2.2.2.2.2.1, h.2.2.2.2.2.2.2.2.2.2.2.2.2.2.2.2.2.2.1, h.2.2.2.2.2.2.2.2.2.2.2.2.2.2.2.2.2.2.2.1, h.2.2.2.2.2.2.2.2.2.2.2.2.2.2.2.2.2.2.2.2.1, h.2.2.2.2.2.2.2.2.2.2.2.2.2.2.2.2.2.2.2.2.2.1, h.2.2.2.2.2.2.2.2.2.2.2.2.2.2.2.2.2.2.2.2.2.2.1, h.2.2.2.2.2.2.2.2.2.2.2.2.2.2.2.2.2.2.2.2.2.2.2.1, h.2.2.2.2.2.2.2.2.2.2.2.2.2.2.2.2.2.2.2.2.2.2.2.2.1, h.2.2.2.2.2.2.2.2.2.2.2.2.2.2.2.2.2.2.2.2.2.2.2.2.2.1, h.2.2.2.2.2.2.2.2.2.2.2.2.2.2.2.2.2.2.2.2.2.2.2.2.2.2.1, h.2.2.2.2.2.2.2.2.2.2.2.2.2.2.2.2.2.2.2.2.2.2.2.2.2.2.2.1, h.2.2.2.2.2.2.2.2.2.2.2.2.2.2.2.2.2.2.2.2.2.2.2.2.2.2.2.2.1, h.2.2.2.2.2.2.2.2.2.2.2.2.2.2.2.2.2.2.2.2.2.2.2.2.2.2.2.2.2.1, h.2.2.2.2.2.2.2.2.2.2.2.2.2.2.2.2.2.2.2.2.2.2.2.2.2.2.2.2.2.2.1, h.2.2.2.2.2.2.2.2.2.2.2.2.2.2.2.2.2.2.2.2.2.2.2.2.2.2.2.2.2.2.2.1, h.2.2.2.2.2.2.2.2.2.2.2.2.2.2.2.2.2.2.2.2.2.2.2.2.2.2.2.2.2.2.2.2.1, h.2.2.2.2.2.2.2.2.2.2.2.2.2.2.2.2.2.2.2.2.2.2.2.2.2.2.2.2.2.2.2.2.2.1, h.2.2.2.2.2.2.2.2.2.2.2.2.2.2.2.2.2.2.2.2.2.2.2.2.2.2.2.2.2.2.2.2.2.2.1, h.2.2.2.2.2.2.2.2.2.2.2.2.2.2.2.2.2.2.2.2.2.2.2.2.2.2.2.2.2.2.2.2.2.2.2.1, h.2.2.2.2.2.2.2.2.2.2.2.2.2.2.2.2.2.2.2.2.2.2.2.2.2.2.2.2.2.2.2.2.2.2.2.2.1, h.2.2.2.2.2.2.2.2.2.2.2.2.2.2.2.2.2.2.2.2.2.2.2.2.2.2.2.2.2.2.2.2.2.2.2.2.2.1, h.2.2.2.2.2.2.2.2.2.2.2.2.2.2.2.2.2.2.2.2.2.2.2.2.2.2.2.2.2.2.2.2.2.2.2.2.2.2.1, h.2.2.2.2.2.2.2.2.2.2.2.2.2.2.2.2.2.2.2.2.2.2.2.2.2.2.2.2.2.2.2.2.2.2.2.2.2.2.2.1, h.2.2.2.2.2.2.2.2.2.2.2.2.2.2.2.2.2.2.2.2.2.2.2.2.2.2.2.2.2.2.2.2.2.2.2.2.2.2.2.2.1, h.2.2.2.2.2.2.2.2.2.2.2.2.2.2.2.2.2.2.2.2.2.2.2.2.2.2.2.2.2.2.2.2.2.2.2.2.2.2.2.2.2.1, h.2.2.2.2.2.2.2.2.2.2.2.2.2.2.2.2.2.2.2.2.2.2.2.2.2.2.2.2.2.2.2.2.2.2.2.2.2.2.2.2.2.2.1, h.2.2.2.2.2.2.2.2.2.2.2.2.2.2.2.2.2.2.2.2.2.2.2.2.2.2.2.2.2.2.2.2.2.2.2.2.2.2.2.2.2.2.2.1, h.2.2.2.2.2.2.2.2.2.2.2.2.2.2.2.2.2.2.2.2.2.2.2.2.2.2.2.2.2.2.2.2.2.2.2.2.2.2.2.2.2.2.2.2.1, h.2.2.2.2.2.2.2.2.2.2.2.2.2.2.2.2.2.2.2.2.2.2.2.2.2.2.2.2.2.2.2.2.2.2.2.2.2.2.2.2.2.2.2.2.2.1, h.2.2.2.2.2.2.2.2.2.2.2.2.2.2.2.2.2.2.2.2.2.2.2.2.2.2.2.2.2.2.2.2.2.2.2.2.2.2.2.2.2.2.2.2.2.2.1, h.2.2.2.2.2.2.2.2.2.2.2.2.2.2.2.2.2.2.2.2.2.2.2.2.2.2.2.2.2.2.2.2.2.2.2.2.2.2.2.2.2.2.2.2.2.2.2.1, h.2.2.2.2.2.2.2.2.2.2.2.2.2.2.2.2.2.2.2.2.2.2.2.2.2.2.2.2.2.2.2.2.2.2.2.2.2.2.2.2.2.2.2.2.2.2.2.2.1, h.2.2.2.2.2.2.2.2.2.2.2.2.2.2.2.2.2.2.2.2.2.2.2.2.2.2.2.2.2.2.2.2.2.2.2.2.2.2.2.2.2.2.2.2.2.2.2.2.2.1, h.2.2.2.2.2.2.2.2.2.2.2.2.2.2.2.2.2.2.2.2.2.2.2.2.2.2.2.2.2.2.2.2.2.2.2.2.2.2.2.2.2.2.2.2.2.2.2.2.2.2.1, h.2.2.2.2.2.2.2.2.2.2.2.2.2.2.2.2.2.2.2.2.2.2.2.2.2.2.2.2.2.2.2.2.2.2.2.2.2.2.2.2.2.2.2.2.2.2.2.2.2.2.2.1, h.2.2.2.2.2.2.2.2.2.2.2.2.2.2.2.2.2.2.2.2.2.2.2.2.2.2.2.2.2.2.2.2.2.2.2.2.2.2.2.2.2.2.2.2.2.2.2.2.2.2.2.2.1, h.2.2.2.2.2.2.2.2.2.2.2.2.2.2.2.2.2.2.2.2.2.2.2.2.2.2.2.2.2.2.2.2.2.2.2.2.2.2.2.2.2.2.2.2.2.2.2.2.2.2.2.2.2.1, h.2.2.2.2.2.2.2.2.2.2.2.2.2.2.2.2.2.2.2.2.2.2.2.2.2.2.2.2.2.2.2.2.2.2.2.2.2.2.2.2.2.2.2.2.2.2.2.2.2.2.2.2.2.2.1, h.2.2.2.2.2.2.2.2.2.2.2.2.2.2.2.2.2.2.2.2.2.2.2.2.2.2.2.2.2.2.2.2.2.2.2.2.2.2.2.2.2.2.2.2.2.2.2.2.2.2.2.2.2.2.2.1, h.2.2.2.2.2.2.2.2.2.2.2.2.2.2.2.2.2.2.2.2.2.2.2.2.2.2.2.2.2.2.2.2.2.2.2.2.2.2.2.2.2.2.2.2.2.2.2.2.2.2.2.2.2.2.2.2.1, h.2.2.2.2.2.2.2.2.2.2.2.2.2.2.2.2.2.2.2.2.2.2.2.2.2.2.2.2.2.2.2.2.2.2.2.2.2.2.2.2.2.2.2.2.2.2.2.2.2.2.2.2.2.2.2.2.2.1, h.2.2.2.2.2.2.2.2.2.2.2.2.2.2.2.2.2.2.2.2.2.2.2.2.2.2.2.2.2.2.2.2.2.2.2.2.2.2.2.2.2.2.2.2.2.2.2.2.2.2.2.2.2.2.2.2.2.2.1, h.2.2.2.2.2.2.2.2.2.2.2.2.2.2.2.2.2.2.2.2.2.2.2.2.2.2.2.2.2.2.2.2.2.2.2.2.2.2.2.2.2.2.2.2.2.2.2.2.2.2.2.2.2.2.2.2.2.2.2.1, h.2.2.2.2.2.2.2.2.2.2.2.2.2.2.2.2.2.2.2.2.2.2.2.2.2.2.2.2.2.2.2.2.2.2.2.2.2.2.2.2.2.2.2.2.2.2.2.2.2.2.2.2.2.2.2.2.2.2.2.2.1, h.2.2.2.2.2.2.2.2.2.2.2.2.2.2.2.2.2.2.2.2.2.2.2.2.2.2.2.2.2.2.2.2.2.2.2.2.2.2.2.2.2.2.2.2.2.2.2.2.2.2.2.2.2.2.2.2.2.2.2.2.2.1, h.2.2.2.2.2.2.2.2.2.2.2.2.2.2.2.2.2.2.2.2.2.2.2.2.2.2.2.2.2.2.2.2.2.2.2.2.2.2.2.2.2.2.2.2.2.2.2.2.2.2.2.2.2.2.2.2.2.2.2.2.2.2.1, h.2.2.2.2.2.2.2.2.2.2.2.2.2.2.2.2.2.2.2.2.2.2.2.2.2.2.2.2.2.2.2.2.2.2.2.2.2.2.2.2.2.2.2.2.2.2.2.2.2.2.2.2.2.2.2.2.2.2.2.2.2.2.2⟩
theorem wd_1785 : (Cond.methodLink "WebCourtModel" (367 : Nat) ⟨"WebCourtModel", "two", "(III)I"⟩) ∈ gtb := gtb_c7 236 (by decide +kernel) rfl
theorem wd_1786 : (Cond.static ⟨"WebCourtModel", "two", "(III)I"⟩) ∈ gtb := gtb_c7 237 (by decide +kernel) rfl
theorem hd_yX11_two : yX11_two.cls ≠ "java/lang/invoke/MethodHandle" ∧ yX11_two.cls ≠ "java/lang/invoke/VarHandle" ∧ (parseMethodDescriptor yX11_two.desc).map (fun d => d.parameters.length) = some 3 := by decide +kernel
set_option maxHeartbeats 4000000 in
set_option maxRecDepth 100000 in
theorem T_X11_comes (l : Launch) (D : va_G) (cy : Nat → ClassId) (a : Nat → Nat) (u : St) (hJ : MI a u) (hw : WFR u (fI u 0 36))   : Mi l D cy (mW cy a) yX11_comes (.code yX11_comes cX11_comes 4 (some .int)) (rmo 4 87) [.ref (a 0)] u (fun (r : Int32) (u' : St) => (MI a u') ∧ (Km1 u u')) := by
  refine Mi.of (own := RX11) rfl (by decide) (Nat.le_of_ble_eq_true rfl) ?_
  have hT : Km1 u u := Km1.rf
  have hJ0 := hJ
  obtain ⟨L, hw1, hw2, hw3, hw4⟩ := hw
  intro p e s m below meth c A Q ls C hret hO hl
  obtain ⟨hx, hb, hml, hown, ht, hK, hA⟩ := id C
  have hl : lv_has ls 4 [(0, .ref (a 0))] := hl
  refine lv_iconst (v := 0) hx hb dX11_comes_0 (by decide) ?_
  refine lv_istore_n (lv' := [(1, .int 0), (0, .ref (a 0))]) hx hb dX11_comes_1 rfl hl (by decide) rfl (fun ls hl => ?_)
  refine lv_aload_n hx hb dX11_comes_2 rfl (lv_at hl 1 rfl) ?_
  refine gf_RX11_66 (v := .ref (a 18)) C hO 0 mW_0 rfl dX11_comes_3 ?_
  refine lv_aload_n hx hb dX11_comes_6 rfl (lv_at hl 1 rfl) ?_
  have g1 : 0 ≤ (fI u 0 36).toInt ∧ (fI u 0 36).toInt ≤ 1 := by have h := MI_36 hJ0; exact h
  refine gf_RX11_255 (v := .int (fI u 0 36)) C hO 0 mW_0 rfl dX11_comes_7 ?_
  refine aI C hO 18 mW_18 (i_in (X := ((fI u 0 36)).toInt) rfl (by omega) (by omega)) dX11_comes_10 ?_
  refine tE (y := (fA u 18 ((fI u 0 36)).toNatClampNeg)) (by exact rfl) ?_
  refine lv_istore_n (lv' := [(2, .int (fA u 18 ((fI u 0 36)).toNatClampNeg)), (1, .int 0), (0, .ref (a 0))]) hx hb dX11_comes_11 rfl hl (by decide) rfl (fun ls hl => ?_)
  have LP_12_k3 : ∀ (n : Nat) (u2 : St) (H : Heap) (locs : List Loc) (ls : Array Slot) (k_k3 : Int32) (n_k3 : Int32), Wo D A (mW cy a u2) s.heap H locs → lv_has ls 4 [(2, .int k_k3), (1, .int n_k3), (0, .ref (a 0))] → MI a u2 → Km1 u u2 → 0 ≤ k_k3.toInt ∧ k_k3.toInt ≤ 1120 → 0 ≤ n_k3.toInt ∧ n_k3.toInt ≤ 60 → (∃ j : Nat, k_k3.toInt = 560 * (fI u 0 36).toInt + (j : Int) ∧ j ≤ L ∧ isD (fA u 23) (560 * (fI u 0 36).toNatClampNeg) j n_k3.toInt) → 1120 - k_k3.toInt < (n : Int) → W p l e (rmo 4 87) s m [.ref (a 0)].toArray below meth c H locs 0 0 Q (F0 m 12 ls []) := by
    intro n
    induction n with
    | zero =>
      intro u2 H locs ls k_k3 n_k3 hO hl hJ hT iv0_k3 iv1_k3 cv0_k3 hm_k3
      exact absurd hm_k3 (by omega)
    | succ n ih_k3 =>
      intro u2 H locs ls k_k3 n_k3 hO hl hJ hT iv0_k3 iv1_k3 cv0_k3 hm_k3
      refine lv_iload_n hx hb dX11_comes_12 rfl (lv_at hl 0 rfl) ?_
      refine lv_aload_n hx hb dX11_comes_13 rfl (lv_at hl 2 rfl) ?_
      refine gf_RX11_69 (v := .ref (a 19)) C hO 0 mW_0 rfl dX11_comes_14 ?_
      refine lv_aload_n hx hb dX11_comes_17 rfl (lv_at hl 2 rfl) ?_
      have g4 : 0 ≤ (fI u 0 36).toInt ∧ (fI u 0 36).toInt ≤ 1 := by have h := MI_36 hJ0; exact h
      refine gf_RX11_255 (v := .int (fI u 0 36)) C hO 0 mW_0 (congrArg (fun z : Int32 => some (Value.int z)) (Km1_I36 hT)) dX11_comes_18 ?_
      refine aI C hO 19 mW_19 (i_in (X := ((fI u 0 36)).toInt) rfl (by omega) (by omega)) dX11_comes_21 ?_
      refine tE (y := (fA u 19 ((fI u 0 36)).toNatClampNeg)) (by exact (congrFun (Km1_A19 hT) _)) ?_
      refine cs_ge (tgt := 130) (X := (k_k3).toInt) (Y := ((fA u 19 ((fI u 0 36)).toNatClampNeg)).toInt) hx hb dX11_comes_22 (by decide) rfl rfl (fun c5 => ?_) (fun c5 => ?_)
      · refine lv_aload_n hx hb dX11_comes_130 rfl (lv_at hl 2 rfl) ?_
        refine gf_RX11_94 (v := .ref (a 27)) C hO 0 mW_0 rfl dX11_comes_131 ?_
        refine lv_iconst (v := 0) hx hb dX11_comes_134 (by decide) ?_
        refine aI C hO 27 mW_27 (i_in (X := 0) rfl (by omega) (by omega)) dX11_comes_135 ?_
        refine tE (y := (fA u2 27 0)) (by exact rfl) ?_
        refine hret _ _ _ _ _ _ dX11_comes_136 rfl ?_ hO
        exact ⟨hJ, hT⟩
      · refine lv_aload_n hx hb dX11_comes_25 rfl (lv_at hl 2 rfl) ?_
        refine gf_RX11_82 (v := .ref (a 23)) C hO 0 mW_0 rfl dX11_comes_26 ?_
        refine lv_iload_n hx hb dX11_comes_29 rfl (lv_at hl 0 rfl) ?_
        refine aI C hO 23 mW_23 (i_in (X := (k_k3).toInt) rfl (by omega) (by omega)) dX11_comes_30 ?_
        refine tE (y := (fA u 23 (k_k3).toNatClampNeg)) (by exact (congrFun (Km1_A23 hT) _)) ?_
        refine lv_istore_n (lv' := [(3, .int (fA u 23 (k_k3).toNatClampNeg)), (2, .int k_k3), (1, .int n_k3), (0, .ref (a 0))]) hx hb dX11_comes_31 rfl hl (by decide) rfl (fun ls hl => ?_)
        obtain ⟨j, hk, hjL, hn⟩ := cv0_k3
        have hj : j < L := by omega
        have hcj : fA u 23 ((560 * (fI u 0 36).toNatClampNeg) + j) = (fA u 23 (k_k3).toNatClampNeg) := code_at hk (by omega)
        have h3 := cstep hw4 hj hcj hn
        refine lv_iload_n hx hb dX11_comes_32 rfl (lv_at hl 0 rfl) ?_
        refine lv_bipush (v := 126) hx hb dX11_comes_33 (by decide) ?_
        refine cs_ne (tgt := 65) (X := ((fA u 23 (k_k3).toNatClampNeg)).toInt) (Y := 126) hx hb dX11_comes_35 (by decide) rfl rfl (fun c6 => ?_) (fun c6 => ?_)
        · refine lv_iload_n hx hb dX11_comes_65 rfl (lv_at hl 0 rfl) ?_
          refine cSi (w := mW cy a) (As := [.int (fA u 23 (k_k3).toNatClampNeg)]) (rest := []) C hO (T_X11_isLetter l D cy a _ (by exact hJ) ((fA u 23 (k_k3).toNatClampNeg))) (va_cwS 1 ht (gSS wd_1564 wd_1565 wd_121 wd_1566) rfl rfl rfl hd_yX11_isLetter ⟨Nat.le_of_ble_eq_true rfl, Nat.le_of_ble_eq_true rfl⟩)  rfl hl.1 (Nat.le_of_ble_eq_true rfl) dX11_comes_66 rfl ⟨Nat.zero_le _, Nat.zero_le _⟩ (fun r7 u8 H locs hp9 hO => ?_)
          obtain ⟨hr7, hu8⟩ := hp9
          rw [hu8] at hO
          rcases hr7 with ⟨hcr7, hvr7⟩ | ⟨hcr7, hvr7⟩
          · subst hvr7
            refine bn_eq (X := 1) hx hb dX11_comes_69 rfl (by omega) ?_ (tgt := 95) (by decide)
            refine lv_aload_n hx hb dX11_comes_72 rfl (lv_at hl 3 rfl) ?_
            refine gf_RX11_94 (v := .ref (a 27)) C hO 0 mW_0 rfl dX11_comes_73 ?_
            refine lv_iload_n hx hb dX11_comes_76 rfl (lv_at hl 2 rfl) ?_
            refine lv_aload_n hx hb dX11_comes_77 rfl (lv_at hl 3 rfl) ?_
            refine lv_iload_n hx hb dX11_comes_78 rfl (lv_at hl 0 rfl) ?_
            refine lv_aload_n hx hb dX11_comes_79 rfl (lv_at hl 3 rfl) ?_
            refine gf_RX11_85 (v := .ref (a 24)) C hO 0 mW_0 rfl dX11_comes_80 ?_
            refine lv_iload_n hx hb dX11_comes_83 rfl (lv_at hl 1 rfl) ?_
            refine aI C hO 24 mW_24 (i_in (X := (k_k3).toInt) rfl (by omega) (by omega)) dX11_comes_84 ?_
            refine tE (y := (fA u 24 (k_k3).toNatClampNeg)) (by exact (congrFun (Km1_A24 hT) _)) ?_
            refine cVi (w := mW cy a) (As := [.int (fA u 23 (k_k3).toNatClampNeg), .int (fA u 24 (k_k3).toNatClampNeg)]) (rest := [.int n_k3, .ref (a 27)]) C hO (T_X11_asked l D cy a _ (by exact hJ) ((fA u 23 (k_k3).toNatClampNeg)) ((fA u 24 (k_k3).toNatClampNeg))) (cwV 2 ht (gV wd_1773 wd_1775 wd_87 wd_121 wd_1776) rfl rfl rfl hd_yX11_asked ⟨Nat.le_of_ble_eq_true rfl, Nat.le_of_ble_eq_true rfl⟩) 0 rfl mW_0 rfl rfl hl.1 (Nat.le_of_ble_eq_true rfl) dX11_comes_85 rfl ⟨Nat.zero_le _, Nat.zero_le _⟩ (fun r10 u11 H locs hp12 hO => ?_)
            have hu11 := hp12
            rw [hu11] at hO
            refine aIs C hO 27 mW_27 (i_in (X := (n_k3).toInt) rfl (by omega) (by omega)) mW_s27 dX11_comes_88 (fun H locs hO => ?_)
            have hT := Km1_wA27 hO hT
            have hJ := MIsA_27 hO hJ
            obtain ⟨z13, ez13⟩ : ∃ z : Int32, z = n_k3 + Int32.ofInt 1 := ⟨_, rfl⟩
            have e14 : z13.toInt = (n_k3).toInt + 1 := by rw [ez13]; exact i_add rfl rfl (by omega)
            refine lv_iinc (v := z13) (lv' := [(1, .int z13), (3, .int (fA u 23 (k_k3).toNatClampNeg)), (2, .int k_k3), (0, .ref (a 0))]) hx hb dX11_comes_89 hl (k := 2) rfl ez13.symm (by decide) rfl (fun ls hl => ?_)
            refine lv_goto (tgt := 124) hx hb dX11_comes_92 (by decide) ?_
            obtain ⟨z15, ez15⟩ : ∃ z : Int32, z = k_k3 + Int32.ofInt 1 := ⟨_, rfl⟩
            have e16 : z15.toInt = (k_k3).toInt + 1 := by rw [ez15]; exact i_add rfl rfl (by omega)
            refine lv_iinc (v := z15) (lv' := [(2, .int z15), (1, .int z13), (3, .int (fA u 23 (k_k3).toNatClampNeg)), (0, .ref (a 0))]) hx hb dX11_comes_124 hl (k := 2) rfl ez15.symm (by decide) rfl (fun ls hl => ?_)
            refine lv_goto (tgt := 12) hx hb dX11_comes_127 (by decide) ?_
            exact ih_k3 _ _ _ _ (z15) (z13) hO (lv_sub hl [0, 1, 3] rfl) (by exact hJ) (by exact hT) (by first | decide | omega) (by first | decide | omega) (by exact ⟨j + 1, by omega, by omega, isD_l hcj (by omega) hn (by omega)⟩) (by first | decide | omega)
          · subst hvr7
            refine bt_eq (tgt := 95) (X := 0) hx hb dX11_comes_69 (by decide) rfl (by omega) ?_
            obtain ⟨z17, ez17⟩ : ∃ z : Int32, z = n_k3 + Int32.ofInt (-1) := ⟨_, rfl⟩
            have e18 : z17.toInt = (n_k3).toInt + (-1) := by rw [ez17]; exact i_add rfl rfl (by omega)
            refine lv_iinc (v := z17) (lv' := [(1, .int z17), (3, .int (fA u 23 (k_k3).toNatClampNeg)), (2, .int k_k3), (0, .ref (a 0))]) hx hb dX11_comes_95 hl (k := 2) rfl ez17.symm (by decide) rfl (fun ls hl => ?_)
            refine lv_aload_n hx hb dX11_comes_98 rfl (lv_at hl 3 rfl) ?_
            refine gf_RX11_94 (v := .ref (a 27)) C hO 0 mW_0 rfl dX11_comes_99 ?_
            refine lv_iload_n hx hb dX11_comes_102 rfl (lv_at hl 0 rfl) ?_
            refine lv_iconst (v := 1) hx hb dX11_comes_103 (by decide) ?_
            refine lv_isub hx hb dX11_comes_104 ?_
            refine lv_topi (fun z19 ez19 => ?_)
            have e20 : z19.toInt = ((n_k3).toInt + (-1)) - 1 := by rw [ez19]; exact i_sub e18 rfl (by omega)
            refine lv_iload_n hx hb dX11_comes_105 rfl (lv_at hl 1 rfl) ?_
            refine lv_aload_n hx hb dX11_comes_106 rfl (lv_at hl 3 rfl) ?_
            refine gf_RX11_94 (v := .ref (a 27)) C hO 0 mW_0 rfl dX11_comes_107 ?_
            refine lv_iload_n hx hb dX11_comes_110 rfl (lv_at hl 0 rfl) ?_
            refine lv_iconst (v := 1) hx hb dX11_comes_111 (by decide) ?_
            refine lv_isub hx hb dX11_comes_112 ?_
            refine lv_topi (fun z21 ez21 => ?_)
            have e22 : z21.toInt = ((n_k3).toInt + (-1)) - 1 := by rw [ez21]; exact i_sub e18 rfl (by omega)
            refine aI C hO 27 mW_27 (i_in (X := (((n_k3).toInt + (-1)) - 1)) e22 (by omega) (by omega)) dX11_comes_113 ?_
            refine tE (y := (fA u2 27 (z21).toNatClampNeg)) (by exact rfl) ?_
            refine lv_aload_n hx hb dX11_comes_114 rfl (lv_at hl 3 rfl) ?_
            refine gf_RX11_94 (v := .ref (a 27)) C hO 0 mW_0 rfl dX11_comes_115 ?_
            refine lv_iload_n hx hb dX11_comes_118 rfl (lv_at hl 0 rfl) ?_
            refine aI C hO 27 mW_27 (i_in (X := ((n_k3).toInt + (-1))) e18 (by omega) (by omega)) dX11_comes_119 ?_
            refine tE (y := (fA u2 27 (z17).toNatClampNeg)) (by exact rfl) ?_
            refine cSi (w := mW cy a) (As := [.int (fA u 23 (k_k3).toNatClampNeg), .int (fA u2 27 (z21).toNatClampNeg), .int (fA u2 27 (z17).toNatClampNeg)]) (rest := [.int z19, .ref (a 27)]) C hO (T_X11_two l D cy a _ (by exact hJ) ((fA u 23 (k_k3).toNatClampNeg)) ((fA u2 27 (z21).toNatClampNeg)) ((fA u2 27 (z17).toNatClampNeg))) (va_cwS 3 ht (gSS wd_1785 wd_1786 wd_121 wd_1787) rfl rfl rfl hd_yX11_two ⟨Nat.le_of_ble_eq_true rfl, Nat.le_of_ble_eq_true rfl⟩)  rfl hl.1 (Nat.le_of_ble_eq_true rfl) dX11_comes_120 rfl ⟨Nat.zero_le _, Nat.zero_le _⟩ (fun r23 u24 H locs hp25 hO => ?_)
            have hu24 := hp25
            rw [hu24] at hO
            refine aIs C hO 27 mW_27 (i_in (X := (((n_k3).toInt + (-1)) - 1)) e20 (by omega) (by omega)) mW_s27 dX11_comes_123 (fun H locs hO => ?_)
            have hT := Km1_wA27 hO hT
            have hJ := MIsA_27 hO hJ
            obtain ⟨z26, ez26⟩ : ∃ z : Int32, z = k_k3 + Int32.ofInt 1 := ⟨_, rfl⟩
            have e27 : z26.toInt = (k_k3).toInt + 1 := by rw [ez26]; exact i_add rfl rfl (by omega)
            refine lv_iinc (v := z26) (lv' := [(2, .int z26), (1, .int z17), (3, .int (fA u 23 (k_k3).toNatClampNeg)), (0, .ref (a 0))]) hx hb dX11_comes_124 hl (k := 2) rfl ez26.symm (by decide) rfl (fun ls hl => ?_)
            refine lv_goto (tgt := 12) hx hb dX11_comes_127 (by decide) ?_
            exact ih_k3 _ _ _ _ (z26) (z17) hO (lv_sub hl [0, 1, 3] rfl) (by exact hJ) (by exact hT) (by first | decide | omega) (by first | decide | omega) (by exact ⟨j + 1, by omega, by omega, isD_o hcj (by omega) hn (by omega)⟩) (by first | decide | omega)
        · refine lv_aload_n hx hb dX11_comes_38 rfl (lv_at hl 3 rfl) ?_
          refine gf_RX11_94 (v := .ref (a 27)) C hO 0 mW_0 rfl dX11_comes_39 ?_
          refine lv_iload_n hx hb dX11_comes_42 rfl (lv_at hl 2 rfl) ?_
          refine lv_iconst (v := 1) hx hb dX11_comes_43 (by decide) ?_
          refine lv_isub hx hb dX11_comes_44 ?_
          refine lv_topi (fun z28 ez28 => ?_)
          have e29 : z28.toInt = (n_k3).toInt - 1 := by rw [ez28]; exact i_sub rfl rfl (by omega)
          refine lv_aload_n hx hb dX11_comes_45 rfl (lv_at hl 3 rfl) ?_
          refine gf_RX11_94 (v := .ref (a 27)) C hO 0 mW_0 rfl dX11_comes_46 ?_
          refine lv_iload_n hx hb dX11_comes_49 rfl (lv_at hl 2 rfl) ?_
          refine lv_iconst (v := 1) hx hb dX11_comes_50 (by decide) ?_
          refine lv_isub hx hb dX11_comes_51 ?_
          refine lv_topi (fun z30 ez30 => ?_)
          have e31 : z30.toInt = (n_k3).toInt - 1 := by rw [ez30]; exact i_sub rfl rfl (by omega)
          refine aI C hO 27 mW_27 (i_in (X := ((n_k3).toInt - 1)) e31 (by omega) (by omega)) dX11_comes_52 ?_
          refine tE (y := (fA u2 27 (z30).toNatClampNeg)) (by exact rfl) ?_
          refine bs_ne (tgt := 60) (X := ((fA u2 27 (z30).toNatClampNeg)).toInt) hx hb dX11_comes_53 (by decide) rfl (fun c32 => ?_) (fun c32 => ?_)
          · refine lv_iconst (v := 0) hx hb dX11_comes_60 (by decide) ?_
            refine aIs C hO 27 mW_27 (i_in (X := ((n_k3).toInt - 1)) e29 (by omega) (by omega)) mW_s27 dX11_comes_61 (fun H locs hO => ?_)
            have hT := Km1_wA27 hO hT
            have hJ := MIsA_27 hO hJ
            refine lv_goto (tgt := 124) hx hb dX11_comes_62 (by decide) ?_
            obtain ⟨z33, ez33⟩ : ∃ z : Int32, z = k_k3 + Int32.ofInt 1 := ⟨_, rfl⟩
            have e34 : z33.toInt = (k_k3).toInt + 1 := by rw [ez33]; exact i_add rfl rfl (by omega)
            refine lv_iinc (v := z33) (lv' := [(2, .int z33), (3, .int (fA u 23 (k_k3).toNatClampNeg)), (1, .int n_k3), (0, .ref (a 0))]) hx hb dX11_comes_124 hl (k := 1) rfl ez33.symm (by decide) rfl (fun ls hl => ?_)
            refine lv_goto (tgt := 12) hx hb dX11_comes_127 (by decide) ?_
            exact ih_k3 _ _ _ _ (z33) (n_k3) hO (lv_sub hl [0, 2, 3] rfl) (by exact hJ) (by exact hT) (by first | decide | omega) (by first | decide | omega) (by exact ⟨j + 1, by omega, by omega, isD_t hcj (by omega) hn (by omega)⟩) (by first | decide | omega)
          · refine lv_iconst (v := 1) hx hb dX11_comes_56 (by decide) ?_
            refine lv_goto (tgt := 61) hx hb dX11_comes_57 (by decide) ?_
            refine aIs C hO 27 mW_27 (i_in (X := ((n_k3).toInt - 1)) e29 (by omega) (by omega)) mW_s27 dX11_comes_61 (fun H locs hO => ?_)
            have hT := Km1_wA27 hO hT
            have hJ := MIsA_27 hO hJ
            refine lv_goto (tgt := 124) hx hb dX11_comes_62 (by decide) ?_
            obtain ⟨z35, ez35⟩ : ∃ z : Int32, z = k_k3 + Int32.ofInt 1 := ⟨_, rfl⟩
            have e36 : z35.toInt = (k_k3).toInt + 1 := by rw [ez35]; exact i_add rfl rfl (by omega)
            refine lv_iinc (v := z35) (lv' := [(2, .int z35), (3, .int (fA u 23 (k_k3).toNatClampNeg)), (1, .int n_k3), (0, .ref (a 0))]) hx hb dX11_comes_124 hl (k := 1) rfl ez35.symm (by decide) rfl (fun ls hl => ?_)
            refine lv_goto (tgt := 12) hx hb dX11_comes_127 (by decide) ?_
            exact ih_k3 _ _ _ _ (z35) (n_k3) hO (lv_sub hl [0, 2, 3] rfl) (by exact hJ) (by exact hT) (by first | decide | omega) (by first | decide | omega) (by exact ⟨j + 1, by omega, by omega, isD_t hcj (by omega) hn (by omega)⟩) (by first | decide | omega)
  have zc37 : (0 : Int32).toInt = 0 := rfl
  exact LP_12_k3 4000 _ _ _ _ ((fA u 18 ((fI u 0 36)).toNatClampNeg)) (0) hO (lv_sub hl [0, 1, 2] rfl) (by exact hJ) (by exact hT) (by first | decide | omega) (by first | decide | omega) (by exact ⟨0, by omega, by omega, rfl⟩) (by first | decide | omega)
