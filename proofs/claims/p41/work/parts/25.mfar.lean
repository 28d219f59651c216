def Km6 (u v : St) : Prop := fI v 0 2 = fI u 0 2 ∧ fI v 0 3 = fI u 0 3 ∧ fI v 0 4 = fI u 0 4 ∧ fI v 0 5 = fI u 0 5 ∧ fI v 0 6 = fI u 0 6 ∧ fI v 0 7 = fI u 0 7 ∧ fI v 0 8 = fI u 0 8 ∧ fI v 0 9 = fI u 0 9 ∧ fL v 0 10 = fL u 0 10 ∧ fI v 0 36 = fI u 0 36 ∧ fI v 0 37 = fI u 0 37 ∧ fI v 0 38 = fI u 0 38 ∧ fI v 0 39 = fI u 0 39 ∧ fI v 0 40 = fI u 0 40 ∧ fI v 0 41 = fI u 0 41 ∧ fI v 0 42 = fI u 0 42 ∧ fI v 0 43 = fI u 0 43 ∧ fI v 0 45 = fI u 0 45 ∧ fI v 0 47 = fI u 0 47 ∧ fI v 0 48 = fI u 0 48 ∧ fI v 0 50 = fI u 0 50 ∧ fI v 0 61 = fI u 0 61 ∧ fI v 0 62 = fI u 0 62 ∧ fA v 1 = fA u 1 ∧ fA v 2 = fA u 2 ∧ fA v 3 = fA u 3 ∧ fA v 4 = fA u 4 ∧ fA v 5 = fA u 5 ∧ fA v 6 = fA u 6 ∧ fA v 7 = fA u 7 ∧ fA v 8 = fA u 8 ∧ fA v 9 = fA u 9 ∧ fA v 10 = fA u 10 ∧ fA v 11 = fA u 11 ∧ fA v 12 = fA u 12 ∧ fA v 13 = fA u 13 ∧ fA v 14 = fA u 14 ∧ fA v 15 = fA u 15 ∧ fA v 16 = fA u 16 ∧ fA v 17 = fA u 17 ∧ fA v 18 = fA u 18 ∧ fA v 19 = fA u 19 ∧ fJ v 20 = fJ u 20 ∧ fJ v 21 = fJ u 21 ∧ fJ v 22 = fJ u 22 ∧ fA v 23 = fA u 23 ∧ fA v 24 = fA u 24 ∧ fA v 25 = fA u 25 ∧ fA v 26 = fA u 26 ∧ fA v 27 = fA u 27 ∧ fA v 28 = fA u 28 ∧ fA v 29 = fA u 29 ∧ fA v 30 = fA u 30 ∧ fA v 31 = fA u 31 ∧ fA v 33 = fA u 33 ∧ fA v 34 = fA u 34 ∧ fA v 35 = fA u 35 ∧ fA v 36 = fA u 36 ∧ fA v 37 = fA u 37 ∧ fA v 38 = fA u 38 ∧ fA v 39 = fA u 39 ∧ fA v 40 = fA u 40 ∧ fA v 41 = fA u 41 ∧ fA v 42 = fA u 42
theorem Km6.rf {u : St} : Km6 u u := ⟨rfl, rfl, rfl, rfl, rfl, rfl, rfl, rfl, rfl, rfl, rfl, rfl, rfl, rfl, rfl, rfl, rfl, rfl, rfl, rfl, rfl, rfl, rfl, rfl, rfl, rfl, rfl, rfl, rfl, rfl, rfl, rfl, rfl, rfl, rfl, rfl, rfl, rfl, rfl, rfl, rfl, rfl, rfl, rfl, rfl, rfl, rfl, rfl, rfl, rfl, rfl, rfl, rfl, rfl, rfl, rfl, rfl, rfl, rfl, rfl, rfl, rfl, rfl, rfl⟩
theorem Km6.tr {u v w : St} (h1 : Km6 u v) (h2 : Km6 v w) : Km6 u w := ⟨(h2.1).trans h1.1, (h2.2.1).trans h1.2.1, (h2.2.2.1).trans h1.2.2.1, (h2.2.2.2.1).trans h1.2.2.2.1, (h2.2.2.2.2.1).trans h1.2.2.2.2.1, (h2.2.2.2.2.2.1).trans h1.2.2.2.2.2.1, (h2.2.2.2.2.2.2.1).trans h1.2.2.2.2.2.2.1, (h2.2.2.2.2.2.2.2.1).trans h1.2.2.2.2.2.2.2.1, (h2.2.2.2.2.2.2.2.2.1).trans h1.2.2.2.2.2.2.2.2.1, (h2.2.2.2.2.2.2.2.2.2.1).trans h1.2.2.2.2.2.2.2.2.2.1, (h2.2.2.2.2.2.2.2.2.2.2.1).trans h1.2.2.2.2.2.2.2.2.2.2.1, (h2.2.2.2.2.2.2.2.2.2.2.2.1).trans h1.2.2.2.2.2.2.2.2.2.2.2.1, (h2.2.2.2.2.2.2.2.2.2.2.2.2.1).trans h1.2.2.2.2.2.2.2.2.2.2.2.2.1, (h2.2.2.2.2.2.2.2.2.2.2.2.2.2.1).trans h1.2.2.2.2.2.2.2.2.2.2.2.2.2.1, (h2.2.2.2.2.2.2.2.2.2.2.2.2.2.2.1).trans h1.2.2.2.2.2.2.2.2.2.2.2.2.2.2.1, (h2.2.2.2.2.2.2.2.2.2.2.2.2.2.2.2.1).trans h1.2.2.2.2.2.2.2.2.2.2.2.2.2.2.2.1, (h2.2.2.2.2.2.2.2.2.2.2.2.2.2.2.2.2.1).trans h1.2.2.2.2.2.2.2.2.2.2.2.2.2.2.2.2.1, (h2.2.2.2.2.2.2.2.2.2.2.2.2.2.2.2.2.2.1).trans h1.2.2.2.2.2.2.2.2.2.2.2.2.2.2.2.2.2.1, (h2.2.2.2.2.2.2.2.2.2.2.2.2.2.2.2.2.2.2.1).trans h1.2.2.2.2.2.2.2.2.2.2.2.2.2.2.2.2.2.2.1, (h2.2.2.2.2.2.2.2.2.2.2.2.2.2.2.2.2.2.2.2.1).trans h1.2.2.2.2.2.2.2.2.2.2.2.2.2.2.2.2.2.2.2.1, (h2.2.2.2.2.2.2.2.2.2.2.2.2.2.2.2.2.2.2.2.2.1).trans h1.2.2.2.2.2.2.2.2.2.2.2.2.2.2.2.2.2.2.2.2.1, (h2.2.2.2.2.2.2.2.2.2.2.2.2.2.2.2.2.2.2.2.2.2.1).trans h1.2.2.2.2.2.2.2.2.2.2.2.2.2.2.2.2.2.2.2.2.2.1, (h2.2.2.2.2.2.2.2.2.2.2.2.2.2.2.2.2.2.2.2.2.2.2.1).trans h1.2.2.2.2.2.2.2.2.2.2.2.2.2.2.2.2.2.2.2.2.2.2.1, (h2.2.2.2.2.2.2.2.2.2.2.2.2.2.2.2.2.2.2.2.2.2.2.2.1).trans h1.2.2.2.2.2.2.2.2.2.2.2.2.2.2.2.2.2.2.2.2.2.2.2.1, (h2.2.2.2.2.2.2.2.2.2.2.2.2.2.2.2.2.2.2.2.2.2.2.2.2.1).trans h1.2.2.2.2.2.2.2.2.2.2.2.2.2.2.2.2.2.2.2.2.2.2.2.2.1, (h2.2.2.2.2.2.2.2.2.2.2.2.2.2.2.2.2.2.2.2.2.2.2.2.2.2.1).trans h1.2.2.2.2.2.2.2.2.2.2.2.2.2.2.2.2.2.2.2.2.2.2.2.2.2.1, (h2.2.2.2.2.2.2.2.2.2.2.2.2.2.2.2.2.2.2.2.2.2.2.2.2.2.2.1).trans h1.2.2.2.2.2.2.2.2.2.2.2.2.2.2.2.2.2.2.2.2.2.2.2.2.2.2.1, (h2.2.2.2.2.2.2.2.2.2.2.2.2.2.2.2.2.2.2.2.2.2.2.2.2.2.2.2.1).trans h1.2.2.2.2.2.2.2.2.2.2.2.2.2.2.2.2.2.2.2.2.2.2.2.2.2.2.2.1, (h2.2.2.2.2.2.2.2.2.2.2.2.2.2.2.2.2.2.2.2.2.2.2.2.2.2.2.2.2.1).trans h1.2.2.2.2.2.2.2.2.2.2.2.2.2.2.2.2.2.2.2.2.2.2.2.2.2.2.2.2.1, (h2.2.2.2.2.2.2.2.2.2.2.2.2.2.2.2.2.2.2.2.2.2.2.2.2.2.2.2.2.2.1).trans h1.2.2.2.2.2.2.2.2.2.2.2.2.2.2.2.2.2.2.2.2.2.2.2.2.2.2.2.2.2.1, (h2.2.2.2.2.2.2.2.2.2.2.2.2.2.2.2.2.2.2.2.2.2.2.2.2.2.2.2.2.2.2.1).trans h1.2.2.2.2.2.2.2.2.2.2.2.2.2.2.2.2.2.2.2.2.2.2.2.2.2.2.2.2.2.2.1, (h2.2.2.2.2.2.2.2.2.2.2.2.2.2.2.2.2.2.2.2.2.2.2.2.2.2.2.2.2.2.2.2.1).trans h1.2.2.2.2.2.2.2.2.2.2.2.2.2.2.2.2.2.2.2.2.2.2.2.2.2.2.2.2.2.2.2.1, (h2.2.2.2.2.2.2.2.2.2.2.2.2.2.2.2.2.2.2.2.2.2.2.2.2.2.2.2.2.2.2.2.2.1).trans h1.2.2.2.2.2.2.2.2.2.2.2.2.2.2.2.2.2.2.2.2.2.2.2.2.2.2.2.2.2.2.2.2.1, (h2.2.2.2.2.2.2.2.2.2.2.2.2.2.2.2.2.2.2.2.2.2.2.2.2.2.2.2.2.2.2.2.2.2.1).trans h1.2.2.2.2.2.2.2.2.2.2.2.2.2.2.2.2.2.2.2.2.2.2.2.2.2.2.2.2.2.2.2.2.2.1, (h2.2.2.2.2.2.2.2.2.2.2.2.2.2.2.2.2.2.2.2.2.2.2.2.2.2.2.2.2.2.2.2.2.2.2.1).trans h1.2.2.2.2.2.2.2.2.2.2.2.2.2.2.2.2.2.2.2.2.2.2.2.2.2.2.2.2.2.2.2.2.2.2.1, (h2.2.2.2.2.2.2.2.2.2.2.2.2.2.2.2.2.2.2.2.2.2.2.2.2.2.2.2.2.2.2.2.2.2.2.2.1).trans h1.2.2.2.2.2.2.2.2.2.2.2.2.2.2.2.2.2.2.2.2.2.2.2.2.2.2.2.2.2.2.2.2.2.2.2.1, (h2.2.2.2.2.2.2.2.2.2.2.2.2.2.2.2.2.2.2.2.2.2.2.2.2.2.2.2.2.2.2.2.2.2.2.2.2.1).trans h1.2.2.2.2.2.2.2.2.2.2.2.2.2.2.2.2.2.2.2.2.2.2.2.2.2.2.2.2.2.2.2.2.2.2.2.2.1, (h2.2.2.2.2.2.2.2.2.2.2.2.2.2.2.2.2.2.2.2.2.2.2.2.2.2.2.2.2.2.2.2.2.2.2.2.2.2.1).trans h1.2.2.2.2.2.2.2.2.2.2.2.2.2.2.2.2.2.2.2.2.2.2.2.2.2.2.2.2.2.2.2.2.2.2.2.2.2.1, (h2.2.2.2.2.2.2.2.2.2.2.2.2.2.2.2.2.2.2.2.2.2.2.2.2.2.2.2.2.2.2.2.2.2.2.2.2.2.2.1).trans h1.2.2.2.2.2.2.2.2.2.2.2.2.2.2.2.2.2.2.2.2.2.2.2.2.2.2.2.2.2.2.2.2.2.2.2.2.2.2.1, (h2.2.2.2.2.2.2.2.2.2.2.2.2.2.2.2.2.2.2.2.2.2.2.2.2.2.2.2.2.2.2.2.2.2.2.2.2.2.2.2.1).trans h1.2.2.2.2.2.2.2.2.2.2.2.2.2.2.2.2.2.2.2.2.2.2.2.2.2.2.2.2.2.2.2.2.2.2.2.2.2.2.2.1, (h2.2.2.2.2.2.2.2.2.2.2.2.2.2.2.2.2.2.2.2.2.2.2.2.2.2.2.2.2.2.2.2.2.2.2.2.2.2.2.2.2.1).trans h1.2.2.2.2.2.2.2.2.2.2.2.2.2.2.2.2.2.2.2.2.2.2.2.2.2.2.2.2.2.2.2.2.2.2.2.2.2.2.2.2.1, (h2.2.2.2.2.2.2.2.2.2.2.2.2.2.2.2.2.2.2.2.2.2.2.2.2.2.2.2.2.2.2.2.2.2.2.2.2.2.2.2.2.2.1).trans h1.2.2.2.2.2.2.2.2.2.2.2.2.2.2.2.2.2.2.2.2.2.2.2.2.2.2.2.2.2.2.2.2.2.2.2.2.2.2.2.2.2.1, (h2.2.2.2.2.2.2.2.2.2.2.2.2.2.2.2.2.2.2.2.2.2.2.2.2.2.2.2.2.2.2.2.2.2.2.2.2.2.2.2.2.2.2.1).trans h1.2.2.2.2.2.2.2.2.2.2.2.2.2.2.2.2.2.2.2.2.2.2.2.2.2.2.2.2.2.2.2.2.2.2.2.2.2.2.2.2.2.2.1, (h2.2.2.2.2.2.2.2.2.2.2.2.2.2.2.2.2.2.2.2.2.2.2.2.2.2.2.2.2.2.2.2.2.2.2.2.2.2.2.2.2.2.2.2.1).trans h1.2.2.2.2.2.2.2.2.2.2.2.2.2.2.2.2.2.2.2.2.2.2.2.2.2.2.2.2.2.2.2.2.2.2.2.2.2.2.2.2.2.2.2.1, (h2.2.2.2.2.2.2.2.2.2.2.2.2.2.2.2.2.2.2.2.2.2.2.2.2.2.2.2.2.2.2.2.2.2.2.2.2.2.2.2.2.2.2.2.2.1).trans h1.2.2.2.2.2.2.2.2.2.2.2.2.2.2.2.2.2.2.2.2.2.2.2.2.2.2.2.2.2.2.2.2.2.2.2.2.2.2.2.2.2.2.2.2.1, (h2.2.2.2.2.2.2.2.2.2.2.2.2.2.2.2.2.2.2.2.2.2.2.2.2.2.2.2.2.2.2.2.2.2.2.2.2.2.2.2.2.2.2.2.2.2.1).trans h1.2.2.2.2.2.2.2.2.2.2.2.2.2.2.2.2.2.2.2.2.2.2.2.2.2.2.2.2.2.2.2.2.2.2.2.2.2.2.2.2.2.2.2.2.2.1, (h2.2.2.2.2.2.2.2.2.2.2.2.2.2.2.2.2.2.2.2.2.2.2.2.2.2.2.2.2.2.2.2.2.2.2.2.2.2.2.2.2.2.2.2.2.2.2.1).trans h1.2.2.2.2.2.2.2.2.2.2.2.2.2.2.2.2.2.2.2.2.2.2.2.2.2.2.2.2.2.2.2.2.2.2.2.2.2.2.2.2.2.2.2.2.2.2.1, (h2.2.2.2.2.2.2.2.2.2.2.2.2.2.2.2.2.2.2.2.2.2.2.2.2.2.2.2.2.2.2.2.2.2.2.2.2.2.2.2.2.2.2.2.2.2.2.2.1).trans h1.2.2.2.2.2.2.2.2.2.2.2.2.2.2.2.2.2.2.2.2.2.2.2.2.2.2.2.2.2.2.2.2.2.2.2.2.2.2.2.2.2.2.2.2.2.2.2.1, (h2.2.2.2.2.2.2.2.2.2.2.2.2.2.2.2.2.2.2.2.2.2.2.2.2.2.2.2.2.2.2.2.2.2.2.2.2.2.2.2.2.2.2.2.2.2.2.2.2.1).trans h1.2.2.2.2.2.2.2.2.2.2.2.2.2.2.2.2.2.2.2.2.2.2.2.2.2.2.2.2.2.2.2.2.2.2.2.2.2.2.2.2.2.2.2.2.2.2.2.2.1, (h2.2.2.2.2.2.2.2.2.2.2.2.2.2.2.2.2.2.2.2.2.2.2.2.2.2.2.2.2.2.2.2.2.2.2.2.2.2.2.2.2.2.2.2.2.2.2.2.2.2.1).trans h1.2.2.2.2.2.2.2.2.2.2.2.2.2.2.2.2.2.2.2.2.2.2.2.2.2.2.2.2.2.2.2.2.2.2.2.2.2.2.2.2.2.2.2.2.2.2.2.2.2.1, (h2.2.2.2.2.2.2.2.2.2.2.2.2.2.2.2.2.2.2.2.2.2.2.2.2.2.2.2.2.2.2.2.2.2.2.2.2.2.2.2.2.2.2.2.2.2.2.2.2.2.2.1).trans h1.2.2.2.2.2.2.2.2.2.2.2.2.2.2.2.2.2.2.2.2.2.2.2.2.2.2.2.2.2.2.2.2.2.2.2.2.2.2.2.2.2.2.2.2.2.2.2.2.2.2.1, (h2.2.2.2.2.2.2.2.2.2.2.2.2.2.2.2.2.2.2.2.2.2.2.2.2.2.2.2.2.2.2.2.2.2.2.2.2.2.2.2.2.2.2.2.2.2.2.2.2.2.2.2.1).trans h1.2.2.2.2.2.2.2.2.2.2.2.2.2.2.2.2.2.2.2.2.2.2.2.2.2.2.2.2.2.2.2.2.2.2.2.2.2.2.2.2.2.2.2.2.2.2.2.2.2.2.2.1, (h2.2.2.2.2.2.2.2.2.2.2.2.2.2.2.2.2.2.2.2.2.2.2.2.2.2.2.2.2.2.2.2.2.2.2.2.2.2.2.2.2.2.2.2.2.2.2.2.2.2.2.2.2.1).trans h1.2.2.2.2.2.2.2.2.2.2.2.2.2.2.2.2.2.2.2.2.2.2.2.2.2.2.2.2.2.2.2.2.2.2.2.2.2.2.2.2.2.2.2.2.2.2.2.2.2.2.2.2.1, (h2.2.2.2.2.2.2.2.2.2.2.2.2.2.2.2.2.2.2.2.2.2.2.2.2.2.2.2.2.2.2.2.2.2.2.2.2.2.2.2.2.2.2.2.2.2.2.2.2.2.2.2.2.2.1).trans h1.2.2.2.2.2.2.2.2.2.2.2.2.2.2.2.2.2.2.2.2.2.2.2.2.2.2.2.2.2.2.2.2.2.2.2.2.2.2.2.2.2.2.2.2.2.2.2.2.2.2.2.2.2.1, (h2.2.2.2.2.2.2.2.2.2.2.2.2.2.2.2.2.2.2.2.2.2.2.2.2.2.2.2.2.2.2.2.2.2.2.2.2.2.2.2.2.2.2.2.2.2.2.2.2.2.2.2.2.2.2.1).trans h1.2.2.2.2.2.2.2.2.2.2.2.2.2.2.2.2.2.2.2.2.2.2.2.2.2.2.2.2.2.2.2.2.2.2.2.2.2.2.2.2.2.2.2.2.2.2.2.2.2.2.2.2.2.2.1, (h2.2.2.2.2.2.2.2.2.2.2.2.2.2.2.2.2.2.2.2.2.2.2.2.2.2.2.2.2.2.2.2.2.2.2.2.2.2.2.2.2.2.2.2.2.2.2.2.2.2.2.2.2.2.2.2.1).trans h1.2.2.2.2.2.2.2.2.2.2.2.2.2.2.2.2.2.2.2.2.2.2.2.2.2.2.2.2.2.2.2.2.2.2.2.2.2.2.2.2.2.2.2.2.2.2.2.2.2.2.2.2.2.2.2.1, (h2.2.2.2.2.2.2.2.2.2.2.2.2.2.2.2.2.2.2.2.2.2.2.2.2.2.2.2.2.2.2.2.2.2.2.2.2.2.2.2.2.2.2.2.2.2.2.2.2.2.2.2.2.2.2.2.2.1).trans h1.2.2.2.2.2.2.2.2.2.2.2.2.2.2.2.2.2.2.2.2.2.2.2.2.2.2.2.2.2.2.2.2.2.2.2.2.2.2.2.2.2.2.2.2.2.2.2.2.2.2.2.2.2.2.2.2.1, (h2.2.2.2.2.2.2.2.2.2.2.2.2.2.2.2.2.2.2.2.2.2.2.2.2.2.2.2.2.2.2.2.2.2.2.2.2.2.2.2.2.2.2.2.2.2.2.2.2.2.2.2.2.2.2.2.2.2.1).trans h1.2.2.2.2.2.2.2.2.2.2.2.2.2.2.2.2.2.2.2.2.2.2.2.2.2.2.2.2.2.2.2.2.2.2.2.2.2.2.2.2.2.2.2.2.2.2.2.2.2.2.2.2.2.2.2.2.2.1, (h2.2.2.2.2.2.2.2.2.2.2.2.2.2.2.2.2.2.2.2.2.2.2.2.2.2.2.2.2.2.2.2.2.2.2.2.2.2.2.2.2.2.2.2.2.2.2.2.2.2.2.2.2.2.2.2.2.2.2.1).trans h1.2.2.2.2.2.2.2.2.2.2.2.2.2.2.2.2.2.2.2.2.2.2.2.2.2.2.2.2.2.2.2.2.2.2.2.2.2.2.2.2.2.2.2.2.2.2.2.2.2.2.2.2.2.2.2.2.2.2.1, (h2.2.2.2.2.2.2.2.2.2.2.2.2.2.2.2.2.2.2.2.2.2.2.2.2.2.2.2.2.2.2.2.2.2.2.2.2.2.2.2.2.2.2.2.2.2.2.2.2.2.2.2.2.2.2.2.2.2.2.2.1).trans h1.2.2.2.2.2.2.2.2.2.2.2.2.2.2.2.2.2.2.2.2.2.2.2.2.2.2.2.2.2.2.2.2.2.2.2.2.2.2.2.2.2.2.2.2.2.2.2.2.2.2.2.2.2.2.2.2.2.2.2.1, (h2.2.2.2.2.2.2.2.2.2.2.2.2.2.2.2.2.2.2.2.2.2.2.2.2.2.2.2.2.2.2.2.2.2.2.2.2.2.2.2.2.2.2.2.2.2.2.2.2.2.2.2.2.2.2.2.2.2.2.2.2.1).trans h1.2.2.2.2.2.2.2.2.2.2.2.2.2.2.2.2.2.2.2.2.2.2.2.2.2.2.2.2.2.2.2.2.2.2.2.2.2.2.2.2.2.2.2.2.2.2.2.2.2.2.2.2.2.2.2.2.2.2.2.2.1, (h2.2.2.2.2.2.2.2.2.2.2.2.2.2.2.2.2.2.2.2.2.2.2.2.2.2.2.2.2.2.2.2.2.2.2.2.2.2.2.2.2.2.2.2.2.2.2.2.2.2.2.2.2.2.2.2.2.2.2.2.2.2.1).trans h1.2.2.2.2.2.2.2.2.2.2.2.2.2.2.2.2.2.2.2.2.2.2.2.2.2.2.2.2.2.2.2.2.2.2.2.2.2.2.2.2.2.2.2.2.2.2.2.2.2.2.2.2.2.2.2.2.2.2.2.2.2.1, (h2.2.2.2.2.2.2.2.2.2.2.2.2.2.2.2.2.2.2.2.2.2.2.2.2.2.2.2.2.2.2.2.2.2.2.2.2.2.2.2.2.2.2.2.2.2.2.2.2.2.2.2.2.2.2.2.2.2.2.2.2.2.2.1).trans h1.2.2.2.2.2.2.2.2.2.2.2.2.2.2.2.2.2.2.2.2.2.2.2.2.2.2.2.2.2.2.2.2.2.2.2.2.2.2.2.2.2.2.2.2.2.2.2.2.2.2.2.2.2.2.2.2.2.2.2.2.2.2.1, (h2.2.2.2.2.2.2.2.2.2.2.2.2.2.2.2.2.2.2.2.2.2.2.2.2.2.2.2.2.2.2.2.2.2.2.2.2.2.2.2.2.2.2.2.2.2.2.2.2.2.2.2.2.2.2.2.2.2.2.2.2.2.2.2).trans h1.2.2.2.2.2.2.2.2.2.2.2.2.2.2.2.2.2.2.2.2.2.2.2.2.2.2.2.2.2.2.2.2.2.2.2.2.2.2.2.2.2.2.2.2.2.2.2.2.2.2.2.2.2.2.2.2.2.2.2.2.2.2.2⟩
theorem dX11_layFar_0 : decode cX11_layFar 0 = .ok (.iconst 0, 1) := by decide +kernel
theorem dX11_layFar_1 : decode cX11_layFar 1 = .ok (.istore_n 1, 1) := by decide +kernel
theorem dX11_layFar_2 : decode cX11_layFar 2 = .ok (.iload_n 1, 1) := by decide +kernel
theorem dX11_layFar_3 : decode cX11_layFar 3 = .ok (.bipush 8, 2) := by decide +kernel
theorem dX11_layFar_5 : decode cX11_layFar 5 = .ok (.if_icmp .ge 166, 3) := by decide +kernel
theorem dX11_layFar_8 : decode cX11_layFar 8 = .ok (.iconst 0, 1) := by decide +kernel
theorem dX11_layFar_9 : decode cX11_layFar 9 = .ok (.istore_n 2, 1) := by decide +kernel
theorem dX11_layFar_10 : decode cX11_layFar 10 = .ok (.iload_n 2, 1) := by decide +kernel
theorem dX11_layFar_11 : decode cX11_layFar 11 = .ok (.bipush 8, 2) := by decide +kernel
theorem dX11_layFar_13 : decode cX11_layFar 13 = .ok (.if_icmp .ge 32, 3) := by decide +kernel
theorem dX11_layFar_16 : decode cX11_layFar 16 = .ok (.aload_n 0, 1) := by decide +kernel
theorem dX11_layFar_17 : decode cX11_layFar 17 = .ok (.getfield 112, 3) := by decide +kernel
theorem dX11_layFar_20 : decode cX11_layFar 20 = .ok (.bipush 8, 2) := by decide +kernel
theorem dX11_layFar_22 : decode cX11_layFar 22 = .ok (.iload_n 1, 1) := by decide +kernel
theorem dX11_layFar_23 : decode cX11_layFar 23 = .ok (.imul, 1) := by decide +kernel
theorem dX11_layFar_24 : decode cX11_layFar 24 = .ok (.iload_n 2, 1) := by decide +kernel
theorem dX11_layFar_25 : decode cX11_layFar 25 = .ok (.iadd, 1) := by decide +kernel
theorem dX11_layFar_26 : decode cX11_layFar 26 = .ok (.iload_n 1, 1) := by decide +kernel
theorem dX11_layFar_27 : decode cX11_layFar 27 = .ok (.iload_n 2, 1) := by decide +kernel
theorem dX11_layFar_28 : decode cX11_layFar 28 = .ok (.if_icmp .ne 7, 3) := by decide +kernel
theorem dX11_layFar_31 : decode cX11_layFar 31 = .ok (.iconst 0, 1) := by decide +kernel
theorem dX11_layFar_32 : decode cX11_layFar 32 = .ok (.goto 6, 3) := by decide +kernel
theorem dX11_layFar_35 : decode cX11_layFar 35 = .ok (.sipush 1000, 3) := by decide +kernel
theorem dX11_layFar_38 : decode cX11_layFar 38 = .ok (.iastore, 1) := by decide +kernel
theorem dX11_layFar_39 : decode cX11_layFar 39 = .ok (.iinc 2 1, 3) := by decide +kernel
theorem dX11_layFar_42 : decode cX11_layFar 42 = .ok (.goto (-32), 3) := by decide +kernel
theorem dX11_layFar_45 : decode cX11_layFar 45 = .ok (.iconst 0, 1) := by decide +kernel
theorem dX11_layFar_46 : decode cX11_layFar 46 = .ok (.istore_n 2, 1) := by decide +kernel
theorem dX11_layFar_47 : decode cX11_layFar 47 = .ok (.iload_n 2, 1) := by decide +kernel
theorem dX11_layFar_48 : decode cX11_layFar 48 = .ok (.aload_n 0, 1) := by decide +kernel
theorem dX11_layFar_49 : decode cX11_layFar 49 = .ok (.invokevirtual 380, 3) := by decide +kernel
theorem dX11_layFar_52 : decode cX11_layFar 52 = .ok (.if_icmp .ge 113, 3) := by decide +kernel
theorem dX11_layFar_55 : decode cX11_layFar 55 = .ok (.iconst 0, 1) := by decide +kernel
theorem dX11_layFar_56 : decode cX11_layFar 56 = .ok (.istore_n 3, 1) := by decide +kernel
theorem dX11_layFar_57 : decode cX11_layFar 57 = .ok (.iload_n 3, 1) := by decide +kernel
theorem dX11_layFar_58 : decode cX11_layFar 58 = .ok (.aload_n 0, 1) := by decide +kernel
theorem dX11_layFar_59 : decode cX11_layFar 59 = .ok (.invokevirtual 380, 3) := by decide +kernel
theorem dX11_layFar_62 : decode cX11_layFar 62 = .ok (.if_icmp .ge 97, 3) := by decide +kernel
theorem dX11_layFar_65 : decode cX11_layFar 65 = .ok (.aload_n 0, 1) := by decide +kernel
theorem dX11_layFar_66 : decode cX11_layFar 66 = .ok (.getfield 112, 3) := by decide +kernel
theorem dX11_layFar_69 : decode cX11_layFar 69 = .ok (.bipush 8, 2) := by decide +kernel
theorem dX11_layFar_71 : decode cX11_layFar 71 = .ok (.iload_n 1, 1) := by decide +kernel
theorem dX11_layFar_72 : decode cX11_layFar 72 = .ok (.imul, 1) := by decide +kernel
theorem dX11_layFar_73 : decode cX11_layFar 73 = .ok (.iload_n 3, 1) := by decide +kernel
theorem dX11_layFar_74 : decode cX11_layFar 74 = .ok (.iadd, 1) := by decide +kernel
theorem dX11_layFar_75 : decode cX11_layFar 75 = .ok (.iaload, 1) := by decide +kernel
theorem dX11_layFar_76 : decode cX11_layFar 76 = .ok (.iload_n 2, 1) := by decide +kernel
theorem dX11_layFar_77 : decode cX11_layFar 77 = .ok (.if_icmp .ne 12, 3) := by decide +kernel
theorem dX11_layFar_80 : decode cX11_layFar 80 = .ok (.aload_n 0, 1) := by decide +kernel
theorem dX11_layFar_81 : decode cX11_layFar 81 = .ok (.iload_n 3, 1) := by decide +kernel
theorem dX11_layFar_82 : decode cX11_layFar 82 = .ok (.iconst 0, 1) := by decide +kernel
theorem dX11_layFar_83 : decode cX11_layFar 83 = .ok (.invokevirtual 422, 3) := by decide +kernel
theorem dX11_layFar_86 : decode cX11_layFar 86 = .ok (.goto 4, 3) := by decide +kernel
theorem dX11_layFar_89 : decode cX11_layFar 89 = .ok (.iconst 0, 1) := by decide +kernel
theorem dX11_layFar_90 : decode cX11_layFar 90 = .ok (.istore 4, 2) := by decide +kernel
theorem dX11_layFar_92 : decode cX11_layFar 92 = .ok (.iconst 0, 1) := by decide +kernel
theorem dX11_layFar_93 : decode cX11_layFar 93 = .ok (.istore 5, 2) := by decide +kernel
theorem dX11_layFar_95 : decode cX11_layFar 95 = .ok (.iload 5, 2) := by decide +kernel
theorem dX11_layFar_97 : decode cX11_layFar 97 = .ok (.aload_n 0, 1) := by decide +kernel
theorem dX11_layFar_98 : decode cX11_layFar 98 = .ok (.invokevirtual 380, 3) := by decide +kernel
theorem dX11_layFar_101 : decode cX11_layFar 101 = .ok (.if_icmp .ge 52, 3) := by decide +kernel
theorem dX11_layFar_104 : decode cX11_layFar 104 = .ok (.iload 4, 2) := by decide +kernel
theorem dX11_layFar_106 : decode cX11_layFar 106 = .ok (.iload 5, 2) := by decide +kernel
theorem dX11_layFar_108 : decode cX11_layFar 108 = .ok (.invokestatic 264, 3) := by decide +kernel
theorem dX11_layFar_111 : decode cX11_layFar 111 = .ok (.ifCond .eq 36, 3) := by decide +kernel
theorem dX11_layFar_114 : decode cX11_layFar 114 = .ok (.aload_n 0, 1) := by decide +kernel
theorem dX11_layFar_115 : decode cX11_layFar 115 = .ok (.getfield 112, 3) := by decide +kernel
theorem dX11_layFar_118 : decode cX11_layFar 118 = .ok (.bipush 8, 2) := by decide +kernel
theorem dX11_layFar_120 : decode cX11_layFar 120 = .ok (.iload_n 1, 1) := by decide +kernel
theorem dX11_layFar_121 : decode cX11_layFar 121 = .ok (.imul, 1) := by decide +kernel
theorem dX11_layFar_122 : decode cX11_layFar 122 = .ok (.iload 5, 2) := by decide +kernel
theorem dX11_layFar_124 : decode cX11_layFar 124 = .ok (.iadd, 1) := by decide +kernel
theorem dX11_layFar_125 : decode cX11_layFar 125 = .ok (.iaload, 1) := by decide +kernel
theorem dX11_layFar_126 : decode cX11_layFar 126 = .ok (.sipush 1000, 3) := by decide +kernel
theorem dX11_layFar_129 : decode cX11_layFar 129 = .ok (.if_icmp .ne 18, 3) := by decide +kernel
theorem dX11_layFar_132 : decode cX11_layFar 132 = .ok (.aload_n 0, 1) := by decide +kernel
theorem dX11_layFar_133 : decode cX11_layFar 133 = .ok (.getfield 112, 3) := by decide +kernel
theorem dX11_layFar_136 : decode cX11_layFar 136 = .ok (.bipush 8, 2) := by decide +kernel
theorem dX11_layFar_138 : decode cX11_layFar 138 = .ok (.iload_n 1, 1) := by decide +kernel
theorem dX11_layFar_139 : decode cX11_layFar 139 = .ok (.imul, 1) := by decide +kernel
theorem dX11_layFar_140 : decode cX11_layFar 140 = .ok (.iload 5, 2) := by decide +kernel
theorem dX11_layFar_142 : decode cX11_layFar 142 = .ok (.iadd, 1) := by decide +kernel
theorem dX11_layFar_143 : decode cX11_layFar 143 = .ok (.iload_n 2, 1) := by decide +kernel
theorem dX11_layFar_144 : decode cX11_layFar 144 = .ok (.iconst 1, 1) := by decide +kernel
theorem dX11_layFar_145 : decode cX11_layFar 145 = .ok (.iadd, 1) := by decide +kernel
theorem dX11_layFar_146 : decode cX11_layFar 146 = .ok (.iastore, 1) := by decide +kernel
theorem dX11_layFar_147 : decode cX11_layFar 147 = .ok (.iinc 5 1, 3) := by decide +kernel
theorem dX11_layFar_150 : decode cX11_layFar 150 = .ok (.goto (-55), 3) := by decide +kernel
theorem dX11_layFar_153 : decode cX11_layFar 153 = .ok (.iinc 3 1, 3) := by decide +kernel
theorem dX11_layFar_156 : decode cX11_layFar 156 = .ok (.goto (-99), 3) := by decide +kernel
theorem dX11_layFar_159 : decode cX11_layFar 159 = .ok (.iinc 2 1, 3) := by decide +kernel
theorem dX11_layFar_162 : decode cX11_layFar 162 = .ok (.goto (-115), 3) := by decide +kernel
theorem dX11_layFar_165 : decode cX11_layFar 165 = .ok (.iinc 1 1, 3) := by decide +kernel
theorem dX11_layFar_168 : decode cX11_layFar 168 = .ok (.goto (-166), 3) := by decide +kernel
theorem dX11_layFar_171 : decode cX11_layFar 171 = .ok (.return_, 1) := by decide +kernel
theorem wd_1939 : (Cond.code ⟨"WebCourtModel", "layFar", "()V"⟩ prog_13_method_101_code (6 : Nat) (Option.none : Option FieldType)) ∈ gtb := gtb_c8 150 (by decide +kernel) rfl
theorem Km6_I36 {u v : St} (h : Km6 u v) : fI v 0 36 = fI u 0 36 := h.2.2.2.2.2.2.2.2.2.1
theorem Km6_A3 {u v : St} (h : Km6 u v) : fA v 3 = fA u 3 := h.2.2.2.2.2.2.2.2.2.2.2.2.2.2.2.2.2.2.2.2.2.2.2.2.2.1
theorem wd_1408 : (Cond.fieldLink "WebCourtModel" (112 : Nat) "WebCourtModel" "far" "[I") ∈ gtb := gtb_c6 99 (by decide +kernel) rfl
theorem gf_RX11_112 {p : Program} {l : Launch} {e : Env} {R : Room} {s : State} {m : MethodId} {args : Array Value} {below : List Frame} {meth : Method} {c : Code} {H : Heap} {locs : List Loc} {cells slots : Nat} {Q : State → Prop} {cc : ByteArray} {pc nL : Nat} {ls : Array Slot} {rest : List Value} {D : va_G} {cy : Nat → ClassId} {A : Nat → Prop} {ws : va_W} {b : Nat} {fs : List Value} {v : Value} (C : Cx p s m args c cc nL RX11 D cy A) (hO : Wo D A ws s.heap H locs) (q0 : Nat) (he : ws[q0]? = some (b, .inr (11, fs))) (hv : fs[52]? = some v) (hdg : decode cc pc = .ok (.getfield 112, 3)) (kk : W p l e R s m args below meth c H locs cells slots Q (F0 m (pc + 3) ls (v :: rest))) : W p l e R s m args below meth c H locs cells slots Q (F0 m pc ls (.ref b :: rest)) := gF (k := 52) C hO q0 he rfl inFX11 (by decide) wd_1408 rfl hv hdg kk
theorem Km6_wA32 {u v : St} {D : va_G} {A : Nat → Prop} {cy : Nat → ClassId} {a : Nat → Nat} {hp H : Heap} {locs : List Loc} {f : Nat → Int32} (_ : Wo D A (mW cy a (sA v 32 f)) hp H locs) (h : Km6 u v) : Km6 u (sA v 32 f) := ⟨h.1, h.2.1, h.2.2.1, h.2.2.2.1, h.2.2.2.2.1, h.2.2.2.2.2.1, h.2.2.2.2.2.2.1, h.2.2.2.2.2.2.2.1, h.2.2.2.2.2.2.2.2.1, h.2.2.2.2.2.2.2.2.2.1, h.2.2.2.2.2.2.2.2.2.2.1, h.2.2.2.2.2.2.2.2.2.2.2.1, h.2.2.2.2.2.2.2.2.2.2.2.2.1, h.2.2.2.2.2.2.2.2.2.2.2.2.2.1, h.2.2.2.2.2.2.2.2.2.2.2.2.2.2.1, h.2.2.2.2.2.2.2.2.2.2.2.2.2.2.2.1, h.2.2.2.2.2.2.2.2.2.2.2.2.2.2.2.2.1, h.2.2.2.2.2.2.2.2.2.2.2.2.2.2.2.2.2.1, h.2.2.2.2.2.2.2.2.2.2.2.2.2.2.2.2.2.2.1, h.2.2.2.2.2.2.2.2.2.2.2.2.2.2.2.2.2.2.2.1, h.2.2.2.2.2.2.2.2.2.2.2.2.2.2.2.2.2.2.2.2.1, h.2.2.2.2.2.2.2.2.2.2.2.2.2.2.2.2.2.2.2.2.2.1, h.2.2.2.2.2.2.2.2.2.2.2.2.2.2.2.2.2.2.2.2.2.2.1, h.2.2.2.2.2.2.2.2.2.2.2.2.2.2.2.2.2.2.2.2.2.2.2.1, h.2.2.2.2.2.2.2.2.2.2.2.2.2.2.2.2.2.2.2.2.2.2.2.2.1, h.2.2.2.2.2.2.2.2.2.2.2.2.2.2.2.2.2.2.2.2.2.2.2.2.2.1, h.2.2.2.2.2.2.2.2.2.2.2.2.2.2.2.2.2.2.2.2.2.2.2.2.2.2.1, h.2.2.2.2.2.2.2.2.2.2.2.2.2.2.2.2.2.2.2.2.2.2.2.2.2.2.2.1, h.2.2.2.2.2.2.2.2.2.2.2.2.2.2.2.2.2.2.2.2.2.2.2.2.2.2.2.2.1, h.2.2.2.2.2.2.2.2.2.2.2.2.2.2.2.2.2.2.2.2.2.2.2.2.2.2.2.2.2.1, h.2.2.2.2.2.2.2.2.2.2.2.2.2.2.2.2.2.2.2.2.2.2.2.2.2.2.2.2.2.2.1, h.2.2.2.2.2.2.2.2.2.2.2.2.2.2.2.2.2.2.2.2.2.2.2.2.2.2.2.2.2.2.2.1, h.2.2.2.2.2.2.2.2.2.2.2.2.2.2.2.2.2.2.2.2.2.2.2.2.2.2.2.2.2.2.2.2.1, h.2.2.2.2.2.2.2.2.2.2.2.2.2.2.2.2.2.2.2.2.2.2.2.2.2.2.2.2.2.2.2.2.2.1, h.2.2.2.2.2.2.2.2.2.2.2.2.2.2.2.2.2.2.2.2.2.2.2.2.2.2.2.2.2.2.2.2.2.2.1, h.2.2.2.2.2.2.2.2.2.2.2.2.2.2.2.2.2.2.2.2.2.2.2.2.2.2.2.2.2.2.2.2.2.2.2.1, h.2.2.2.2.2.2.2.2.2.2.2.2.2.2.2.2.2.2.2.2.2.2.2.2.2.2.2.2.2.2.2.2.2.2.2.2.1, h.2.2.2.2.2.2.2.2.2.2.2.2.2.2.2.2.2.2.2.2.2.2.2.2.2.2.2.2.2.2.2.2.2.2.2.2.2.1, h.2.2.2.2.2.2.2.2.2.2.2.2.2.2.2.2.2.2.2.2.2.2.2.2.2.2.2.2.2.2.2.2.2.2.2.2.2.2.1, h.2.2.2.2.2.2.2.2.2.2.2.2.2.2.2.2.2.2.2.2.2.2.2.2.2.2.2.2.2.2.2.2.2.2.2.2.2.2.2.1, h.2.2.2.2.2.2.2.2.2.2.2.2.2.2.2.2.2.2.2.2.2.2.2.2.2.2.2.2.2.2.2.2.2.2.2.2.2.2.2.2.1, h.2.2.2.2.2.2.2.2.2.2.2.2.2.2.2.2.2.2.2.2.2.2.2.2.2.2.2.2.2.2.2.2.2.2.2.2.2.2.2.2.2.1, h.2.2.2.2.2.2.2.2.2.2.2.2.2.2.2.2.2.2.2.2.2.2.2.2.2.2.2.2.2.2.2.2.2.2.2.2.2.2.2.2.2.2.1, h.2.2.2.2.2.2.2.2.2.2.2.2.2.2.2.2.2.2.2.2.2.2.2.2.2.2.2.2.2.2.2.2.2.2.2.2.2.2.2.2.2.2.2.1, h.2.2.2.2.2.2.2.2.2.2.2.2.2.2.2.2.2.2.2.2.2.2.2.2.2.2.2.2.2.2.2.2.2.2.2.2.2.2.2.2.2.2.2.2.1, h.2.2.2.2.2.2.2.2.2.2.2.2.2.2.2.2.2.2.2.2.2.2.2.2.2.2.2.2.2.2.2.2.2.2.2.2.2.2.2.2.2.2.2.2.2.1, h.2.2.2.2.2.2.2.2.2.2.2.2.2.2.2.2.2.2.2.2.2.2.2.2.2.2.2.2.2.2.2.2.2.2.2.2.2.2.2.2.2.2.2.2.2.2.1, h.2.2.2.2.2.2.2.2.2.2.2.2.2.2.2.2.2.2.2.2.2.2.2.2.2.2.2.2.2.2.2.2.2.2.2.2.2.2.2.2.2.2.2.2.2.2.2.1, h.2.2.2.2.2.2.2.2.2.2.2.2.2.2.2.2.2.2.2.2.2.2.2.2.2.2.2.2.2.2.2.2.2.2.2.2.2.2.2.2.2.2.2.2.2.2.2.2.1, h.2.2.2.2.2.2.2.2.2.2.2.2.2.2.2.2.2.2.2.2.2.2.2.2.2.2.2.2.2.2.2.2.2.2.2.2.2.2.2.2.2.2.2.2.2.2.2.2.2.1, h.2.2.2.2.2.2.2.2.2.2.2.2.2.2.2.2.2.2.2.2.2.2.2.2.2.2.2.2.2.2.2.2.2.2.2.2.2.2.2.2.2.2.2.2.2.2.2.2.2.2.1, h.2.2.2.2.2.2.2.2.2.2.2.2.2.2.2.2.2.2.2.2.2.2.2.2.2.2.2.2.2.2.2.2.2.2.2.2.2.2.2.2.2.2.2.2.2.2.2.2.2.2.2.1, h.2.2.2.2.2.2.2.2.2.2.2.2.2.2.2.2.2.2.2.2.2.2.2.2.2.2.2.2.2.2.2.2.2.2.2.2.2.2.2.2.2.2.2.2.2.2.2.2.2.2.2.2.1, h.2.2.2.2.2.2.2.2.2.2.2.2.2.2.2.2.2.2.2.2.2.2.2.2.2.2.2.2.2.2.2.2.2.2.2.2.2.2.2.2.2.2.2.2.2.2.2.2.2.2.2.2.2.1, h.2.2.2.2.2.2.2.2.2.2.2.2.2.2.2.2.2.2.2.2.2.2.2.2.2.2.2.2.2.2.2.2.2.2.2.2.2.2.2.2.2.2.2.2.2.2.2.2.2.2.2.2.2.2.1, h.2.2.2.2.2.2.2.2.2.2.2.2.2.2.2.2.2.2.2.2.2.2.2.2.2.2.2.2.2.2.2.2.2.2.2.2.2.2.2.2.2.2.2.2.2.2.2.2.2.2.2.2.2.2.2.1, h.2.2.2.2.2.2.2.2.2.2.2.2.2.2.2.2.2.2.2.2.2.2.2.2.2.2.2.2.2.2.2.2.2.2.2.2.2.2.2.2.2.2.2.2.2.2.2.2.2.2.2.2.2.2.2.2.1, h.2.2.2.2.2.2.2.2.2.2.2.2.2.2.2.2.2.2.2.2.2.2.2.2.2.2.2.2.2.2.2.2.2.2.2.2.2.2.2.2.2.2.2.2.2.2.2.2.2.2.2.2.2.2.2.2.2.1, h.2.2.2.2.2.2.2.2.2.2.2.2.2.2.2.2.2.2.2.2.2.2.2.2.2.2.2.2.2.2.2.2.2.2.2.2.2.2.2.2.2.2.2.2.2.2.2.2.2.2.2.2.2.2.2.2.2.2.1, h.2.2.2.2.2.2.2.2.2.2.2.2.2.2.2.2.2.2.2.2.2.2.2.2.2.2.2.2.2.2.2.2.2.2.2.2.2.2.2.2.2.2.2.2.2.2.2.2.2.2.2.2.2.2.2.2.2.2.2.1, h.2.2.2.2.2.2.2.2.2.2.2.2.2.2.2.2.2.2.2.2.2.2.2.2.2.2.2.2.2.2.2.2.2.2.2.2.2.2.2.2.2.2.2.2.2.2.2.2.2.2.2.2.2.2.2.2.2.2.2.2.1, h.2.2.2.2.2.2.2.2.2.2.2.2.2.2.2.2.2.2.2.2.2.2.2.2.2.2.2.2.2.2.2.2.2.2.2.2.2.2.2.2.2.2.2.2.2.2.2.2.2.2.2.2.2.2.2.2.2.2.2.2.2.1, h.2.2.2.2.2.2.2.2.2.2.2.2.2.2.2.2.2.2.2.2.2.2.2.2.2.2.2.2.2.2.2.2.2.2.2.2.2.2.2.2.2.2.2.2.2.2.2.2.2.2.2.2.2.2.2.2.2.2.2.2.2.2.1, h.2.2.2.2.2.2.2.2.2.2.2.2.2.2.2.2.2.2.2.2.2.2.2.2.2.2.2.2.2.2.2.2.2.2.2.2.2.2.2.2.2.2.2.2.2.2.2.2.2.2.2.2.2.2.2.2.2.2.2.2.2.2.2⟩
set_option maxHeartbeats 4000000 in
set_option maxRecDepth 100000 in
theorem T_X11_layFar (l : Launch) (D : va_G) (cy : Nat → ClassId) (a : Nat → Nat) (u : St) (hJ : MI a u) (gk : Int32) (hgk : fA u 3 (fI u 0 36).toNatClampNeg = gk)   : Mv l D cy (mW cy a) yX11_layFar (.code yX11_layFar cX11_layFar 6 none) (rmo 2 46) [.ref (a 0)] u (fun (u' : St) => (MI a u') ∧ (Km6 u u')) := by
  refine Mv.of (own := RX11) rfl (by decide) (Nat.le_of_ble_eq_true rfl) ?_
  have hT : Km6 u u := Km6.rf
  have hJ0 := hJ
  intro p e s m below meth c A Q ls C hret hO hl
  obtain ⟨hx, hb, hml, hown, ht, hK, hA⟩ := id C
  have hl : lv_has ls 6 [(0, .ref (a 0))] := hl
  refine lv_iconst (v := 0) hx hb dX11_layFar_0 (by decide) ?_
  refine lv_istore_n (lv' := [(1, .int 0), (0, .ref (a 0))]) hx hb dX11_layFar_1 rfl hl (by decide) rfl (fun ls hl => ?_)
  have LP_2_k2 : ∀ (n : Nat) (u1 : St) (H : Heap) (locs : List Loc) (ls : Array Slot) (i_k2 : Int32), Wo D A (mW cy a u1) s.heap H locs → lv_has ls 6 [(1, .int i_k2), (0, .ref (a 0))] → MI a u1 → Km6 u u1 → 0 ≤ i_k2.toInt ∧ i_k2.toInt ≤ 8 → 8 - i_k2.toInt < (n : Int) → W p l e (rmo 2 46) s m [.ref (a 0)].toArray below meth c H locs 0 0 Q (F0 m 2 ls []) := by
    intro n
    induction n with
    | zero =>
      intro u1 H locs ls i_k2 hO hl hJ hT iv0_k2 hm_k2
      exact absurd hm_k2 (by omega)
    | succ n ih_k2 =>
      intro u1 H locs ls i_k2 hO hl hJ hT iv0_k2 hm_k2
      refine lv_iload_n hx hb dX11_layFar_2 rfl (lv_at hl 0 rfl) ?_
      refine lv_bipush (v := 8) hx hb dX11_layFar_3 (by decide) ?_
      refine cs_ge (tgt := 171) (X := (i_k2).toInt) (Y := 8) hx hb dX11_layFar_5 (by decide) rfl rfl (fun c3 => ?_) (fun c3 => ?_)
      · refine hret _ _ _ _ _ dX11_layFar_171 ?_ hO
        exact ⟨hJ, hT⟩
      · refine lv_iconst (v := 0) hx hb dX11_layFar_8 (by decide) ?_
        refine lv_istore_n (lv' := [(2, .int 0), (1, .int i_k2), (0, .ref (a 0))]) hx hb dX11_layFar_9 rfl hl (by decide) rfl (fun ls hl => ?_)
        have LP_10_k5 : ∀ (n : Nat) (u4 : St) (H : Heap) (locs : List Loc) (ls : Array Slot) (i_k5 : Int32), Wo D A (mW cy a u4) s.heap H locs → lv_has ls 6 [(2, .int i_k5), (1, .int i_k2), (0, .ref (a 0))] → MI a u4 → Km6 u u4 → 0 ≤ i_k5.toInt ∧ i_k5.toInt ≤ 8 → 8 - i_k5.toInt < (n : Int) → W p l e (rmo 2 46) s m [.ref (a 0)].toArray below meth c H locs 0 0 Q (F0 m 10 ls []) := by
          intro n
          induction n with
          | zero =>
            intro u4 H locs ls i_k5 hO hl hJ hT iv0_k5 hm_k5
            exact absurd hm_k5 (by omega)
          | succ n ih_k5 =>
            intro u4 H locs ls i_k5 hO hl hJ hT iv0_k5 hm_k5
            refine lv_iload_n hx hb dX11_layFar_10 rfl (lv_at hl 0 rfl) ?_
            refine lv_bipush (v := 8) hx hb dX11_layFar_11 (by decide) ?_
            refine cs_ge (tgt := 45) (X := (i_k5).toInt) (Y := 8) hx hb dX11_layFar_13 (by decide) rfl rfl (fun c6 => ?_) (fun c6 => ?_)
            · refine lv_iconst (v := 0) hx hb dX11_layFar_45 (by decide) ?_
              refine lv_istore_n (lv' := [(2, .int 0), (1, .int i_k2), (0, .ref (a 0))]) hx hb dX11_layFar_46 rfl hl (by decide) rfl (fun ls hl => ?_)
              have LP_47_k8 : ∀ (n : Nat) (u7 : St) (H : Heap) (locs : List Loc) (ls : Array Slot) (i_k8 : Int32), Wo D A (mW cy a u7) s.heap H locs → lv_has ls 6 [(2, .int i_k8), (1, .int i_k2), (0, .ref (a 0))] → MI a u7 → Km6 u u7 → 0 ≤ i_k8.toInt ∧ i_k8.toInt ≤ 8 → 8 - i_k8.toInt < (n : Int) → W p l e (rmo 2 46) s m [.ref (a 0)].toArray below meth c H locs 0 0 Q (F0 m 47 ls []) := by
                intro n
                induction n with
                | zero =>
                  intro u7 H locs ls i_k8 hO hl hJ hT iv0_k8 hm_k8
                  exact absurd hm_k8 (by omega)
                | succ n ih_k8 =>
                  intro u7 H locs ls i_k8 hO hl hJ hT iv0_k8 hm_k8
                  refine lv_iload_n hx hb dX11_layFar_47 rfl (lv_at hl 0 rfl) ?_
                  refine lv_aload_n hx hb dX11_layFar_48 rfl (lv_at hl 2 rfl) ?_
                  have g9 : 0 ≤ (fI u 0 36).toInt ∧ (fI u 0 36).toInt ≤ 1 := by have h := MI_36 hJ0; exact h
                  have g10 : 0 ≤ gk.toInt ∧ gk.toInt ≤ 8 := by have h := MI_A3 hJ0 (fI u 0 36).toNatClampNeg; rw [hgk] at h; exact h
                  refine cVi (w := mW cy a) (As := []) (rest := [.int i_k8]) C hO (T_X11_spots l D cy a _ (by exact hJ) (gk) (by exact (Eq.trans (congrArg (fun z : Int32 => fA _ 3 z.toNatClampNeg) (Km6_I36 hT)) (Eq.trans (congrFun (Km6_A3 hT) _) hgk)))) (cwV 0 ht (gV wd_1352 wd_1354 wd_47 wd_121 wd_1355) rfl rfl rfl hd_yX11_spots ⟨Nat.le_of_ble_eq_true rfl, Nat.le_of_ble_eq_true rfl⟩) 0 rfl mW_0 rfl rfl hl.1 (Nat.le_of_ble_eq_true rfl) dX11_layFar_49 rfl ⟨Nat.zero_le _, Nat.zero_le _⟩ (fun r11 u12 H locs hp13 hO => ?_)
                  obtain ⟨hr11, hu12⟩ := hp13
                  refine tE hr11 ?_
                  rw [hu12] at hO
                  refine cs_ge (tgt := 165) (X := (i_k8).toInt) (Y := (gk).toInt) hx hb dX11_layFar_52 (by decide) rfl rfl (fun c14 => ?_) (fun c14 => ?_)
                  · obtain ⟨z15, ez15⟩ : ∃ z : Int32, z = i_k2 + Int32.ofInt 1 := ⟨_, rfl⟩
                    have e16 : z15.toInt = (i_k2).toInt + 1 := by rw [ez15]; exact i_add rfl rfl (by omega)
                    refine lv_iinc (v := z15) (lv' := [(1, .int z15), (2, .int i_k8), (0, .ref (a 0))]) hx hb dX11_layFar_165 hl (k := 1) rfl ez15.symm (by decide) rfl (fun ls hl => ?_)
                    refine lv_goto (tgt := 2) hx hb dX11_layFar_168 (by decide) ?_
                    exact ih_k2 _ _ _ _ (z15) hO (lv_sub hl [0, 2] rfl) (by exact hJ) (by exact hT) (by first | decide | omega) (by first | decide | omega)
                  · refine lv_iconst (v := 0) hx hb dX11_layFar_55 (by decide) ?_
                    refine lv_istore_n (lv' := [(3, .int 0), (2, .int i_k8), (1, .int i_k2), (0, .ref (a 0))]) hx hb dX11_layFar_56 rfl hl (by decide) rfl (fun ls hl => ?_)
                    have LP_57_k18 : ∀ (n : Nat) (u17 : St) (H : Heap) (locs : List Loc) (ls : Array Slot) (i_k18 : Int32), Wo D A (mW cy a u17) s.heap H locs → lv_has ls 6 [(3, .int i_k18), (2, .int i_k8), (1, .int i_k2), (0, .ref (a 0))] → MI a u17 → Km6 u u17 → 0 ≤ i_k18.toInt ∧ i_k18.toInt ≤ 8 → 8 - i_k18.toInt < (n : Int) → W p l e (rmo 2 46) s m [.ref (a 0)].toArray below meth c H locs 0 0 Q (F0 m 57 ls []) := by
                      intro n
                      induction n with
                      | zero =>
                        intro u17 H locs ls i_k18 hO hl hJ hT iv0_k18 hm_k18
                        exact absurd hm_k18 (by omega)
                      | succ n ih_k18 =>
                        intro u17 H locs ls i_k18 hO hl hJ hT iv0_k18 hm_k18
                        refine lv_iload_n hx hb dX11_layFar_57 rfl (lv_at hl 0 rfl) ?_
                        refine lv_aload_n hx hb dX11_layFar_58 rfl (lv_at hl 3 rfl) ?_
                        have g19 : 0 ≤ (fI u 0 36).toInt ∧ (fI u 0 36).toInt ≤ 1 := by have h := MI_36 hJ0; exact h
                        have g20 : 0 ≤ gk.toInt ∧ gk.toInt ≤ 8 := by have h := MI_A3 hJ0 (fI u 0 36).toNatClampNeg; rw [hgk] at h; exact h
                        refine cVi (w := mW cy a) (As := []) (rest := [.int i_k18]) C hO (T_X11_spots l D cy a _ (by exact hJ) (gk) (by exact (Eq.trans (congrArg (fun z : Int32 => fA _ 3 z.toNatClampNeg) (Km6_I36 hT)) (Eq.trans (congrFun (Km6_A3 hT) _) hgk)))) (cwV 0 ht (gV wd_1352 wd_1354 wd_47 wd_121 wd_1355) rfl rfl rfl hd_yX11_spots ⟨Nat.le_of_ble_eq_true rfl, Nat.le_of_ble_eq_true rfl⟩) 0 rfl mW_0 rfl rfl hl.1 (Nat.le_of_ble_eq_true rfl) dX11_layFar_59 rfl ⟨Nat.zero_le _, Nat.zero_le _⟩ (fun r21 u22 H locs hp23 hO => ?_)
                        obtain ⟨hr21, hu22⟩ := hp23
                        refine tE hr21 ?_
                        rw [hu22] at hO
                        refine cs_ge (tgt := 159) (X := (i_k18).toInt) (Y := (gk).toInt) hx hb dX11_layFar_62 (by decide) rfl rfl (fun c24 => ?_) (fun c24 => ?_)
                        · obtain ⟨z25, ez25⟩ : ∃ z : Int32, z = i_k8 + Int32.ofInt 1 := ⟨_, rfl⟩
                          have e26 : z25.toInt = (i_k8).toInt + 1 := by rw [ez25]; exact i_add rfl rfl (by omega)
                          refine lv_iinc (v := z25) (lv' := [(2, .int z25), (3, .int i_k18), (1, .int i_k2), (0, .ref (a 0))]) hx hb dX11_layFar_159 hl (k := 1) rfl ez25.symm (by decide) rfl (fun ls hl => ?_)
                          refine lv_goto (tgt := 47) hx hb dX11_layFar_162 (by decide) ?_
                          exact ih_k8 _ _ _ _ (z25) hO (lv_sub hl [0, 2, 3] rfl) (by exact hJ) (by exact hT) (by first | decide | omega) (by first | decide | omega)
                        · refine lv_aload_n hx hb dX11_layFar_65 rfl (lv_at hl 3 rfl) ?_
                          refine gf_RX11_112 (v := .ref (a 32)) C hO 0 mW_0 rfl dX11_layFar_66 ?_
                          refine lv_bipush (v := 8) hx hb dX11_layFar_69 (by decide) ?_
                          refine lv_iload_n hx hb dX11_layFar_71 rfl (lv_at hl 2 rfl) ?_
                          refine lv_imul hx hb dX11_layFar_72 ?_
                          refine lv_topi (fun z27 ez27 => ?_)
                          have e28 : z27.toInt = 8 * (i_k2).toInt := by rw [ez27]; exact i_mul rfl rfl (by omega)
                          refine lv_iload_n hx hb dX11_layFar_73 rfl (lv_at hl 0 rfl) ?_
                          refine lv_iadd hx hb dX11_layFar_74 ?_
                          refine lv_topi (fun z29 ez29 => ?_)
                          have e30 : z29.toInt = (8 * (i_k2).toInt) + (i_k18).toInt := by rw [ez29]; exact i_add e28 rfl (by omega)
                          refine aI C hO 32 mW_32 (i_in (X := ((8 * (i_k2).toInt) + (i_k18).toInt)) e30 (by omega) (by omega)) dX11_layFar_75 ?_
                          have g31 : 0 ≤ (fA u17 32 (z29).toNatClampNeg).toInt ∧ (fA u17 32 (z29).toNatClampNeg).toInt ≤ 1000 := by have h := MI_A32 hJ (z29).toNatClampNeg; exact h
                          refine tE (y := (fA u17 32 (z29).toNatClampNeg)) (by exact rfl) ?_
                          refine lv_iload_n hx hb dX11_layFar_76 rfl (lv_at hl 1 rfl) ?_
                          refine cs_ne (tgt := 89) (X := ((fA u17 32 (z29).toNatClampNeg)).toInt) (Y := (i_k8).toInt) hx hb dX11_layFar_77 (by decide) rfl rfl (fun c32 => ?_) (fun c32 => ?_)
                          · refine lv_iconst (v := 0) hx hb dX11_layFar_89 (by decide) ?_
                            refine lv_istore (lv' := [(4, .int 0), (3, .int i_k18), (2, .int i_k8), (1, .int i_k2), (0, .ref (a 0))]) hx hb dX11_layFar_90 hl (by decide) rfl (fun ls hl => ?_)
                            refine lv_iconst (v := 0) hx hb dX11_layFar_92 (by decide) ?_
                            refine lv_istore (lv' := [(5, .int 0), (4, .int 0), (3, .int i_k18), (2, .int i_k8), (1, .int i_k2), (0, .ref (a 0))]) hx hb dX11_layFar_93 hl (by decide) rfl (fun ls hl => ?_)
                            have LP_95_k34 : ∀ (n : Nat) (u33 : St) (H : Heap) (locs : List Loc) (ls : Array Slot) (i_k34 : Int32), Wo D A (mW cy a u33) s.heap H locs → lv_has ls 6 [(5, .int i_k34), (4, .int 0), (3, .int i_k18), (2, .int i_k8), (1, .int i_k2), (0, .ref (a 0))] → MI a u33 → Km6 u u33 → 0 ≤ i_k34.toInt ∧ i_k34.toInt ≤ 8 → 8 - i_k34.toInt < (n : Int) → W p l e (rmo 2 46) s m [.ref (a 0)].toArray below meth c H locs 0 0 Q (F0 m 95 ls []) := by
                              intro n
                              induction n with
                              | zero =>
                                intro u33 H locs ls i_k34 hO hl hJ hT iv0_k34 hm_k34
                                exact absurd hm_k34 (by omega)
                              | succ n ih_k34 =>
                                intro u33 H locs ls i_k34 hO hl hJ hT iv0_k34 hm_k34
                                refine lv_iload hx hb dX11_layFar_95 (lv_at hl 0 rfl) ?_
                                refine lv_aload_n hx hb dX11_layFar_97 rfl (lv_at hl 5 rfl) ?_
                                have g35 : 0 ≤ (fI u 0 36).toInt ∧ (fI u 0 36).toInt ≤ 1 := by have h := MI_36 hJ0; exact h
                                have g36 : 0 ≤ gk.toInt ∧ gk.toInt ≤ 8 := by have h := MI_A3 hJ0 (fI u 0 36).toNatClampNeg; rw [hgk] at h; exact h
                                refine cVi (w := mW cy a) (As := []) (rest := [.int i_k34]) C hO (T_X11_spots l D cy a _ (by exact hJ) (gk) (by exact (Eq.trans (congrArg (fun z : Int32 => fA _ 3 z.toNatClampNeg) (Km6_I36 hT)) (Eq.trans (congrFun (Km6_A3 hT) _) hgk)))) (cwV 0 ht (gV wd_1352 wd_1354 wd_47 wd_121 wd_1355) rfl rfl rfl hd_yX11_spots ⟨Nat.le_of_ble_eq_true rfl, Nat.le_of_ble_eq_true rfl⟩) 0 rfl mW_0 rfl rfl hl.1 (Nat.le_of_ble_eq_true rfl) dX11_layFar_98 rfl ⟨Nat.zero_le _, Nat.zero_le _⟩ (fun r37 u38 H locs hp39 hO => ?_)
                                obtain ⟨hr37, hu38⟩ := hp39
                                refine tE hr37 ?_
                                rw [hu38] at hO
                                refine cs_ge (tgt := 153) (X := (i_k34).toInt) (Y := (gk).toInt) hx hb dX11_layFar_101 (by decide) rfl rfl (fun c40 => ?_) (fun c40 => ?_)
                                · obtain ⟨z41, ez41⟩ : ∃ z : Int32, z = i_k18 + Int32.ofInt 1 := ⟨_, rfl⟩
                                  have e42 : z41.toInt = (i_k18).toInt + 1 := by rw [ez41]; exact i_add rfl rfl (by omega)
                                  refine lv_iinc (v := z41) (lv' := [(3, .int z41), (5, .int i_k34), (4, .int 0), (2, .int i_k8), (1, .int i_k2), (0, .ref (a 0))]) hx hb dX11_layFar_153 hl (k := 2) rfl ez41.symm (by decide) rfl (fun ls hl => ?_)
                                  refine lv_goto (tgt := 57) hx hb dX11_layFar_156 (by decide) ?_
                                  exact ih_k18 _ _ _ _ (z41) hO (lv_sub hl [0, 3, 4, 5] rfl) (by exact hJ) (by exact hT) (by first | decide | omega) (by first | decide | omega)
                                · refine lv_iload hx hb dX11_layFar_104 (lv_at hl 1 rfl) ?_
                                  refine lv_iload hx hb dX11_layFar_106 (lv_at hl 0 rfl) ?_
                                  refine cSi (w := mW cy a) (As := [.int 0, .int i_k34]) (rest := []) C hO (T_X11_bit l D cy a _ (by exact hJ) (0) (i_k34)) (va_cwS 2 ht (gSS wd_1612 wd_1613 wd_121 wd_1614) rfl rfl rfl hd_yX11_bit ⟨Nat.le_of_ble_eq_true rfl, Nat.le_of_ble_eq_true rfl⟩)  rfl hl.1 (Nat.le_of_ble_eq_true rfl) dX11_layFar_108 rfl ⟨Nat.zero_le _, Nat.zero_le _⟩ (fun r43 u44 H locs hp45 hO => ?_)
                                  obtain ⟨hr43, hu44⟩ := hp45
                                  rw [hu44] at hO
                                  obtain ⟨hr43, hbr43⟩ := hr43
                                  have gr43 : 0 ≤ r43.toInt ∧ r43.toInt ≤ 1 := by rcases hr43 with h | h <;> rw [h] <;> decide
                                  refine bs_eq (tgt := 147) (X := (r43).toInt) hx hb dX11_layFar_111 (by decide) rfl (fun c46 => ?_) (fun c46 => ?_)
                                  · obtain ⟨z47, ez47⟩ : ∃ z : Int32, z = i_k34 + Int32.ofInt 1 := ⟨_, rfl⟩
                                    have e48 : z47.toInt = (i_k34).toInt + 1 := by rw [ez47]; exact i_add rfl rfl (by omega)
                                    refine lv_iinc (v := z47) (lv' := [(5, .int z47), (4, .int 0), (3, .int i_k18), (2, .int i_k8), (1, .int i_k2), (0, .ref (a 0))]) hx hb dX11_layFar_147 hl (k := 0) rfl ez47.symm (by decide) rfl (fun ls hl => ?_)
                                    refine lv_goto (tgt := 95) hx hb dX11_layFar_150 (by decide) ?_
                                    exact ih_k34 _ _ _ _ (z47) hO (lv_sub hl [0, 1, 2, 3, 4, 5] rfl) (by exact hJ) (by exact hT) (by first | decide | omega) (by first | decide | omega)
                                  · refine lv_aload_n hx hb dX11_layFar_114 rfl (lv_at hl 5 rfl) ?_
                                    refine gf_RX11_112 (v := .ref (a 32)) C hO 0 mW_0 rfl dX11_layFar_115 ?_
                                    refine lv_bipush (v := 8) hx hb dX11_layFar_118 (by decide) ?_
                                    refine lv_iload_n hx hb dX11_layFar_120 rfl (lv_at hl 4 rfl) ?_
                                    refine lv_imul hx hb dX11_layFar_121 ?_
                                    refine lv_topi (fun z49 ez49 => ?_)
                                    have e50 : z49.toInt = 8 * (i_k2).toInt := by rw [ez49]; exact i_mul rfl rfl (by omega)
                                    refine lv_iload hx hb dX11_layFar_122 (lv_at hl 0 rfl) ?_
                                    refine lv_iadd hx hb dX11_layFar_124 ?_
                                    refine lv_topi (fun z51 ez51 => ?_)
                                    have e52 : z51.toInt = (8 * (i_k2).toInt) + (i_k34).toInt := by rw [ez51]; exact i_add e50 rfl (by omega)
                                    refine aI C hO 32 mW_32 (i_in (X := ((8 * (i_k2).toInt) + (i_k34).toInt)) e52 (by omega) (by omega)) dX11_layFar_125 ?_
                                    have g53 : 0 ≤ (fA u33 32 (z51).toNatClampNeg).toInt ∧ (fA u33 32 (z51).toNatClampNeg).toInt ≤ 1000 := by have h := MI_A32 hJ (z51).toNatClampNeg; exact h
                                    refine tE (y := (fA u33 32 (z51).toNatClampNeg)) (by exact rfl) ?_
                                    refine lv_sipush (v := 1000) hx hb dX11_layFar_126 (by decide) ?_
                                    refine cs_ne (tgt := 147) (X := ((fA u33 32 (z51).toNatClampNeg)).toInt) (Y := 1000) hx hb dX11_layFar_129 (by decide) rfl rfl (fun c54 => ?_) (fun c54 => ?_)
                                    · obtain ⟨z55, ez55⟩ : ∃ z : Int32, z = i_k34 + Int32.ofInt 1 := ⟨_, rfl⟩
                                      have e56 : z55.toInt = (i_k34).toInt + 1 := by rw [ez55]; exact i_add rfl rfl (by omega)
                                      refine lv_iinc (v := z55) (lv' := [(5, .int z55), (4, .int 0), (3, .int i_k18), (2, .int i_k8), (1, .int i_k2), (0, .ref (a 0))]) hx hb dX11_layFar_147 hl (k := 0) rfl ez55.symm (by decide) rfl (fun ls hl => ?_)
                                      refine lv_goto (tgt := 95) hx hb dX11_layFar_150 (by decide) ?_
                                      exact ih_k34 _ _ _ _ (z55) hO (lv_sub hl [0, 1, 2, 3, 4, 5] rfl) (by exact hJ) (by exact hT) (by first | decide | omega) (by first | decide | omega)
                                    · refine lv_aload_n hx hb dX11_layFar_132 rfl (lv_at hl 5 rfl) ?_
                                      refine gf_RX11_112 (v := .ref (a 32)) C hO 0 mW_0 rfl dX11_layFar_133 ?_
                                      refine lv_bipush (v := 8) hx hb dX11_layFar_136 (by decide) ?_
                                      refine lv_iload_n hx hb dX11_layFar_138 rfl (lv_at hl 4 rfl) ?_
                                      refine lv_imul hx hb dX11_layFar_139 ?_
                                      refine lv_topi (fun z57 ez57 => ?_)
                                      have e58 : z57.toInt = 8 * (i_k2).toInt := by rw [ez57]; exact i_mul rfl rfl (by omega)
                                      refine lv_iload hx hb dX11_layFar_140 (lv_at hl 0 rfl) ?_
                                      refine lv_iadd hx hb dX11_layFar_142 ?_
                                      refine lv_topi (fun z59 ez59 => ?_)
                                      have e60 : z59.toInt = (8 * (i_k2).toInt) + (i_k34).toInt := by rw [ez59]; exact i_add e58 rfl (by omega)
                                      refine lv_iload_n hx hb dX11_layFar_143 rfl (lv_at hl 3 rfl) ?_
                                      refine lv_iconst (v := 1) hx hb dX11_layFar_144 (by decide) ?_
                                      refine lv_iadd hx hb dX11_layFar_145 ?_
                                      refine lv_topi (fun z61 ez61 => ?_)
                                      have e62 : z61.toInt = (i_k8).toInt + 1 := by rw [ez61]; exact i_add rfl rfl (by omega)
                                      refine aIs C hO 32 mW_32 (i_in (X := ((8 * (i_k2).toInt) + (i_k34).toInt)) e60 (by omega) (by omega)) mW_s32 dX11_layFar_146 (fun H locs hO => ?_)
                                      have hT := Km6_wA32 hO hT
                                      have hJ := MIsA_32 hO hJ (by first | decide | omega)
                                      obtain ⟨z63, ez63⟩ : ∃ z : Int32, z = i_k34 + Int32.ofInt 1 := ⟨_, rfl⟩
                                      have e64 : z63.toInt = (i_k34).toInt + 1 := by rw [ez63]; exact i_add rfl rfl (by omega)
                                      refine lv_iinc (v := z63) (lv' := [(5, .int z63), (4, .int 0), (3, .int i_k18), (2, .int i_k8), (1, .int i_k2), (0, .ref (a 0))]) hx hb dX11_layFar_147 hl (k := 0) rfl ez63.symm (by decide) rfl (fun ls hl => ?_)
                                      refine lv_goto (tgt := 95) hx hb dX11_layFar_150 (by decide) ?_
                                      exact ih_k34 _ _ _ _ (z63) hO (lv_sub hl [0, 1, 2, 3, 4, 5] rfl) (by exact hJ) (by exact hT) (by first | decide | omega) (by first | decide | omega)
                            have zc65 : (0 : Int32).toInt = 0 := rfl
                            exact LP_95_k34 4000 _ _ _ _ (0) hO (lv_sub hl [0, 1, 2, 3, 4, 5] rfl) (by exact hJ) (by exact hT) (by first | decide | omega) (by first | decide | omega)
                          · refine lv_aload_n hx hb dX11_layFar_80 rfl (lv_at hl 3 rfl) ?_
                            refine lv_iload_n hx hb dX11_layFar_81 rfl (lv_at hl 0 rfl) ?_
                            refine lv_iconst (v := 0) hx hb dX11_layFar_82 (by decide) ?_
                            refine cVi (w := mW cy a) (As := [.int i_k18, .int 0]) (rest := []) C hO (T_X11_nextTo l D cy a _ (by exact hJ) (i_k18) (0)) (cwV 2 ht (gV wd_1725 wd_1727 wd_78 wd_121 wd_1728) rfl rfl rfl hd_yX11_nextTo ⟨Nat.le_of_ble_eq_true rfl, Nat.le_of_ble_eq_true rfl⟩) 0 rfl mW_0 rfl rfl hl.1 (Nat.le_of_ble_eq_true rfl) dX11_layFar_83 rfl ⟨Nat.zero_le _, Nat.zero_le _⟩ (fun r66 u67 H locs hp68 hO => ?_)
                            have hu67 := hp68
                            rw [hu67] at hO
                            refine lv_goto (tgt := 90) hx hb dX11_layFar_86 (by decide) ?_
                            refine lv_istore (lv' := [(4, .int r66), (3, .int i_k18), (2, .int i_k8), (1, .int i_k2), (0, .ref (a 0))]) hx hb dX11_layFar_90 hl (by decide) rfl (fun ls hl => ?_)
                            refine lv_iconst (v := 0) hx hb dX11_layFar_92 (by decide) ?_
                            refine lv_istore (lv' := [(5, .int 0), (4, .int r66), (3, .int i_k18), (2, .int i_k8), (1, .int i_k2), (0, .ref (a 0))]) hx hb dX11_layFar_93 hl (by decide) rfl (fun ls hl => ?_)
                            have LP_95_k70 : ∀ (n : Nat) (u69 : St) (H : Heap) (locs : List Loc) (ls : Array Slot) (i_k70 : Int32), Wo D A (mW cy a u69) s.heap H locs → lv_has ls 6 [(5, .int i_k70), (4, .int r66), (3, .int i_k18), (2, .int i_k8), (1, .int i_k2), (0, .ref (a 0))] → MI a u69 → Km6 u u69 → 0 ≤ i_k70.toInt ∧ i_k70.toInt ≤ 8 → 8 - i_k70.toInt < (n : Int) → W p l e (rmo 2 46) s m [.ref (a 0)].toArray below meth c H locs 0 0 Q (F0 m 95 ls []) := by
                              intro n
                              induction n with
                              | zero =>
                                intro u69 H locs ls i_k70 hO hl hJ hT iv0_k70 hm_k70
                                exact absurd hm_k70 (by omega)
                              | succ n ih_k70 =>
                                intro u69 H locs ls i_k70 hO hl hJ hT iv0_k70 hm_k70
                                refine lv_iload hx hb dX11_layFar_95 (lv_at hl 0 rfl) ?_
                                refine lv_aload_n hx hb dX11_layFar_97 rfl (lv_at hl 5 rfl) ?_
                                have g71 : 0 ≤ (fI u 0 36).toInt ∧ (fI u 0 36).toInt ≤ 1 := by have h := MI_36 hJ0; exact h
                                have g72 : 0 ≤ gk.toInt ∧ gk.toInt ≤ 8 := by have h := MI_A3 hJ0 (fI u 0 36).toNatClampNeg; rw [hgk] at h; exact h
                                refine cVi (w := mW cy a) (As := []) (rest := [.int i_k70]) C hO (T_X11_spots l D cy a _ (by exact hJ) (gk) (by exact (Eq.trans (congrArg (fun z : Int32 => fA _ 3 z.toNatClampNeg) (Km6_I36 hT)) (Eq.trans (congrFun (Km6_A3 hT) _) hgk)))) (cwV 0 ht (gV wd_1352 wd_1354 wd_47 wd_121 wd_1355) rfl rfl rfl hd_yX11_spots ⟨Nat.le_of_ble_eq_true rfl, Nat.le_of_ble_eq_true rfl⟩) 0 rfl mW_0 rfl rfl hl.1 (Nat.le_of_ble_eq_true rfl) dX11_layFar_98 rfl ⟨Nat.zero_le _, Nat.zero_le _⟩ (fun r73 u74 H locs hp75 hO => ?_)
                                obtain ⟨hr73, hu74⟩ := hp75
                                refine tE hr73 ?_
                                rw [hu74] at hO
                                refine cs_ge (tgt := 153) (X := (i_k70).toInt) (Y := (gk).toInt) hx hb dX11_layFar_101 (by decide) rfl rfl (fun c76 => ?_) (fun c76 => ?_)
                                · obtain ⟨z77, ez77⟩ : ∃ z : Int32, z = i_k18 + Int32.ofInt 1 := ⟨_, rfl⟩
                                  have e78 : z77.toInt = (i_k18).toInt + 1 := by rw [ez77]; exact i_add rfl rfl (by omega)
                                  refine lv_iinc (v := z77) (lv' := [(3, .int z77), (5, .int i_k70), (4, .int r66), (2, .int i_k8), (1, .int i_k2), (0, .ref (a 0))]) hx hb dX11_layFar_153 hl (k := 2) rfl ez77.symm (by decide) rfl (fun ls hl => ?_)
                                  refine lv_goto (tgt := 57) hx hb dX11_layFar_156 (by decide) ?_
                                  exact ih_k18 _ _ _ _ (z77) hO (lv_sub hl [0, 3, 4, 5] rfl) (by exact hJ) (by exact hT) (by first | decide | omega) (by first | decide | omega)
                                · refine lv_iload hx hb dX11_layFar_104 (lv_at hl 1 rfl) ?_
                                  refine lv_iload hx hb dX11_layFar_106 (lv_at hl 0 rfl) ?_
                                  refine cSi (w := mW cy a) (As := [.int r66, .int i_k70]) (rest := []) C hO (T_X11_bit l D cy a _ (by exact hJ) (r66) (i_k70)) (va_cwS 2 ht (gSS wd_1612 wd_1613 wd_121 wd_1614) rfl rfl rfl hd_yX11_bit ⟨Nat.le_of_ble_eq_true rfl, Nat.le_of_ble_eq_true rfl⟩)  rfl hl.1 (Nat.le_of_ble_eq_true rfl) dX11_layFar_108 rfl ⟨Nat.zero_le _, Nat.zero_le _⟩ (fun r79 u80 H locs hp81 hO => ?_)
                                  obtain ⟨hr79, hu80⟩ := hp81
                                  rw [hu80] at hO
                                  obtain ⟨hr79, hbr79⟩ := hr79
                                  have gr79 : 0 ≤ r79.toInt ∧ r79.toInt ≤ 1 := by rcases hr79 with h | h <;> rw [h] <;> decide
                                  refine bs_eq (tgt := 147) (X := (r79).toInt) hx hb dX11_layFar_111 (by decide) rfl (fun c82 => ?_) (fun c82 => ?_)
                                  · obtain ⟨z83, ez83⟩ : ∃ z : Int32, z = i_k70 + Int32.ofInt 1 := ⟨_, rfl⟩
                                    have e84 : z83.toInt = (i_k70).toInt + 1 := by rw [ez83]; exact i_add rfl rfl (by omega)
                                    refine lv_iinc (v := z83) (lv' := [(5, .int z83), (4, .int r66), (3, .int i_k18), (2, .int i_k8), (1, .int i_k2), (0, .ref (a 0))]) hx hb dX11_layFar_147 hl (k := 0) rfl ez83.symm (by decide) rfl (fun ls hl => ?_)
                                    refine lv_goto (tgt := 95) hx hb dX11_layFar_150 (by decide) ?_
                                    exact ih_k70 _ _ _ _ (z83) hO (lv_sub hl [0, 1, 2, 3, 4, 5] rfl) (by exact hJ) (by exact hT) (by first | decide | omega) (by first | decide | omega)
                                  · refine lv_aload_n hx hb dX11_layFar_114 rfl (lv_at hl 5 rfl) ?_
                                    refine gf_RX11_112 (v := .ref (a 32)) C hO 0 mW_0 rfl dX11_layFar_115 ?_
                                    refine lv_bipush (v := 8) hx hb dX11_layFar_118 (by decide) ?_
                                    refine lv_iload_n hx hb dX11_layFar_120 rfl (lv_at hl 4 rfl) ?_
                                    refine lv_imul hx hb dX11_layFar_121 ?_
                                    refine lv_topi (fun z85 ez85 => ?_)
                                    have e86 : z85.toInt = 8 * (i_k2).toInt := by rw [ez85]; exact i_mul rfl rfl (by omega)
                                    refine lv_iload hx hb dX11_layFar_122 (lv_at hl 0 rfl) ?_
                                    refine lv_iadd hx hb dX11_layFar_124 ?_
                                    refine lv_topi (fun z87 ez87 => ?_)
                                    have e88 : z87.toInt = (8 * (i_k2).toInt) + (i_k70).toInt := by rw [ez87]; exact i_add e86 rfl (by omega)
                                    refine aI C hO 32 mW_32 (i_in (X := ((8 * (i_k2).toInt) + (i_k70).toInt)) e88 (by omega) (by omega)) dX11_layFar_125 ?_
                                    have g89 : 0 ≤ (fA u69 32 (z87).toNatClampNeg).toInt ∧ (fA u69 32 (z87).toNatClampNeg).toInt ≤ 1000 := by have h := MI_A32 hJ (z87).toNatClampNeg; exact h
                                    refine tE (y := (fA u69 32 (z87).toNatClampNeg)) (by exact rfl) ?_
                                    refine lv_sipush (v := 1000) hx hb dX11_layFar_126 (by decide) ?_
                                    refine cs_ne (tgt := 147) (X := ((fA u69 32 (z87).toNatClampNeg)).toInt) (Y := 1000) hx hb dX11_layFar_129 (by decide) rfl rfl (fun c90 => ?_) (fun c90 => ?_)
                                    · obtain ⟨z91, ez91⟩ : ∃ z : Int32, z = i_k70 + Int32.ofInt 1 := ⟨_, rfl⟩
                                      have e92 : z91.toInt = (i_k70).toInt + 1 := by rw [ez91]; exact i_add rfl rfl (by omega)
                                      refine lv_iinc (v := z91) (lv' := [(5, .int z91), (4, .int r66), (3, .int i_k18), (2, .int i_k8), (1, .int i_k2), (0, .ref (a 0))]) hx hb dX11_layFar_147 hl (k := 0) rfl ez91.symm (by decide) rfl (fun ls hl => ?_)
                                      refine lv_goto (tgt := 95) hx hb dX11_layFar_150 (by decide) ?_
                                      exact ih_k70 _ _ _ _ (z91) hO (lv_sub hl [0, 1, 2, 3, 4, 5] rfl) (by exact hJ) (by exact hT) (by first | decide | omega) (by first | decide | omega)
                                    · refine lv_aload_n hx hb dX11_layFar_132 rfl (lv_at hl 5 rfl) ?_
                                      refine gf_RX11_112 (v := .ref (a 32)) C hO 0 mW_0 rfl dX11_layFar_133 ?_
                                      refine lv_bipush (v := 8) hx hb dX11_layFar_136 (by decide) ?_
                                      refine lv_iload_n hx hb dX11_layFar_138 rfl (lv_at hl 4 rfl) ?_
                                      refine lv_imul hx hb dX11_layFar_139 ?_
                                      refine lv_topi (fun z93 ez93 => ?_)
                                      have e94 : z93.toInt = 8 * (i_k2).toInt := by rw [ez93]; exact i_mul rfl rfl (by omega)
                                      refine lv_iload hx hb dX11_layFar_140 (lv_at hl 0 rfl) ?_
                                      refine lv_iadd hx hb dX11_layFar_142 ?_
                                      refine lv_topi (fun z95 ez95 => ?_)
                                      have e96 : z95.toInt = (8 * (i_k2).toInt) + (i_k70).toInt := by rw [ez95]; exact i_add e94 rfl (by omega)
                                      refine lv_iload_n hx hb dX11_layFar_143 rfl (lv_at hl 3 rfl) ?_
                                      refine lv_iconst (v := 1) hx hb dX11_layFar_144 (by decide) ?_
                                      refine lv_iadd hx hb dX11_layFar_145 ?_
                                      refine lv_topi (fun z97 ez97 => ?_)
                                      have e98 : z97.toInt = (i_k8).toInt + 1 := by rw [ez97]; exact i_add rfl rfl (by omega)
                                      refine aIs C hO 32 mW_32 (i_in (X := ((8 * (i_k2).toInt) + (i_k70).toInt)) e96 (by omega) (by omega)) mW_s32 dX11_layFar_146 (fun H locs hO => ?_)
                                      have hT := Km6_wA32 hO hT
                                      have hJ := MIsA_32 hO hJ (by first | decide | omega)
                                      obtain ⟨z99, ez99⟩ : ∃ z : Int32, z = i_k70 + Int32.ofInt 1 := ⟨_, rfl⟩
                                      have e100 : z99.toInt = (i_k70).toInt + 1 := by rw [ez99]; exact i_add rfl rfl (by omega)
                                      refine lv_iinc (v := z99) (lv' := [(5, .int z99), (4, .int r66), (3, .int i_k18), (2, .int i_k8), (1, .int i_k2), (0, .ref (a 0))]) hx hb dX11_layFar_147 hl (k := 0) rfl ez99.symm (by decide) rfl (fun ls hl => ?_)
                                      refine lv_goto (tgt := 95) hx hb dX11_layFar_150 (by decide) ?_
                                      exact ih_k70 _ _ _ _ (z99) hO (lv_sub hl [0, 1, 2, 3, 4, 5] rfl) (by exact hJ) (by exact hT) (by first | decide | omega) (by first | decide | omega)
                            have zc101 : (0 : Int32).toInt = 0 := rfl
                            exact LP_95_k70 4000 _ _ _ _ (0) hO (lv_sub hl [0, 1, 2, 3, 4, 5] rfl) (by exact hJ) (by exact hT) (by first | decide | omega) (by first | decide | omega)
                    have zc102 : (0 : Int32).toInt = 0 := rfl
                    exact LP_57_k18 4000 _ _ _ _ (0) hO (lv_sub hl [0, 1, 2, 3] rfl) (by exact hJ) (by exact hT) (by first | decide | omega) (by first | decide | omega)
              have zc103 : (0 : Int32).toInt = 0 := rfl
              exact LP_47_k8 4000 _ _ _ _ (0) hO (lv_sub hl [0, 1, 2] rfl) (by exact hJ) (by exact hT) (by first | decide | omega) (by first | decide | omega)
            · refine lv_aload_n hx hb dX11_layFar_16 rfl (lv_at hl 2 rfl) ?_
              refine gf_RX11_112 (v := .ref (a 32)) C hO 0 mW_0 rfl dX11_layFar_17 ?_
              refine lv_bipush (v := 8) hx hb dX11_layFar_20 (by decide) ?_
              refine lv_iload_n hx hb dX11_layFar_22 rfl (lv_at hl 1 rfl) ?_
              refine lv_imul hx hb dX11_layFar_23 ?_
              refine lv_topi (fun z104 ez104 => ?_)
              have e105 : z104.toInt = 8 * (i_k2).toInt := by rw [ez104]; exact i_mul rfl rfl (by omega)
              refine lv_iload_n hx hb dX11_layFar_24 rfl (lv_at hl 0 rfl) ?_
              refine lv_iadd hx hb dX11_layFar_25 ?_
              refine lv_topi (fun z106 ez106 => ?_)
              have e107 : z106.toInt = (8 * (i_k2).toInt) + (i_k5).toInt := by rw [ez106]; exact i_add e105 rfl (by omega)
              refine lv_iload_n hx hb dX11_layFar_26 rfl (lv_at hl 1 rfl) ?_
              refine lv_iload_n hx hb dX11_layFar_27 rfl (lv_at hl 0 rfl) ?_
              refine cs_ne (tgt := 35) (X := (i_k2).toInt) (Y := (i_k5).toInt) hx hb dX11_layFar_28 (by decide) rfl rfl (fun c108 => ?_) (fun c108 => ?_)
              · refine lv_sipush (v := 1000) hx hb dX11_layFar_35 (by decide) ?_
                refine aIs C hO 32 mW_32 (i_in (X := ((8 * (i_k2).toInt) + (i_k5).toInt)) e107 (by omega) (by omega)) mW_s32 dX11_layFar_38 (fun H locs hO => ?_)
                have hT := Km6_wA32 hO hT
                have hJ := MIsA_32 hO hJ (by first | decide | omega)
                obtain ⟨z109, ez109⟩ : ∃ z : Int32, z = i_k5 + Int32.ofInt 1 := ⟨_, rfl⟩
                have e110 : z109.toInt = (i_k5).toInt + 1 := by rw [ez109]; exact i_add rfl rfl (by omega)
                refine lv_iinc (v := z109) (lv' := [(2, .int z109), (1, .int i_k2), (0, .ref (a 0))]) hx hb dX11_layFar_39 hl (k := 0) rfl ez109.symm (by decide) rfl (fun ls hl => ?_)
                refine lv_goto (tgt := 10) hx hb dX11_layFar_42 (by decide) ?_
                exact ih_k5 _ _ _ _ (z109) hO (lv_sub hl [0, 1, 2] rfl) (by exact hJ) (by exact hT) (by first | decide | omega) (by first | decide | omega)
              · refine lv_iconst (v := 0) hx hb dX11_layFar_31 (by decide) ?_
                refine lv_goto (tgt := 38) hx hb dX11_layFar_32 (by decide) ?_
                refine aIs C hO 32 mW_32 (i_in (X := ((8 * (i_k2).toInt) + (i_k5).toInt)) e107 (by omega) (by omega)) mW_s32 dX11_layFar_38 (fun H locs hO => ?_)
                have hT := Km6_wA32 hO hT
                have hJ := MIsA_32 hO hJ (by first | decide | omega)
                obtain ⟨z111, ez111⟩ : ∃ z : Int32, z = i_k5 + Int32.ofInt 1 := ⟨_, rfl⟩
                have e112 : z111.toInt = (i_k5).toInt + 1 := by rw [ez111]; exact i_add rfl rfl (by omega)
                refine lv_iinc (v := z111) (lv' := [(2, .int z111), (1, .int i_k2), (0, .ref (a 0))]) hx hb dX11_layFar_39 hl (k := 0) rfl ez111.symm (by decide) rfl (fun ls hl => ?_)
                refine lv_goto (tgt := 10) hx hb dX11_layFar_42 (by decide) ?_
                exact ih_k5 _ _ _ _ (z111) hO (lv_sub hl [0, 1, 2] rfl) (by exact hJ) (by exact hT) (by first | decide | omega) (by first | decide | omega)
        have zc113 : (0 : Int32).toInt = 0 := rfl
        exact LP_10_k5 4000 _ _ _ _ (0) hO (lv_sub hl [0, 1, 2] rfl) (by exact hJ) (by exact hT) (by first | decide | omega) (by first | decide | omega)
  have zc114 : (0 : Int32).toInt = 0 := rfl
  exact LP_2_k2 4000 _ _ _ _ (0) hO (lv_sub hl [0, 1] rfl) (by exact hJ) (by exact hT) (by first | decide | omega) (by first | decide | omega)
theorem dX11_reached_0 : decode cX11_reached 0 = .ok (.iconst 0, 1) := by decide +kernel
theorem dX11_reached_1 : decode cX11_reached 1 = .ok (.istore_n 1, 1) := by decide +kernel
theorem dX11_reached_2 : decode cX11_reached 2 = .ok (.aload_n 0, 1) := by decide +kernel
theorem dX11_reached_3 : decode cX11_reached 3 = .ok (.invokevirtual 466, 3) := by decide +kernel
theorem dX11_reached_6 : decode cX11_reached 6 = .ok (.iconst 0, 1) := by decide +kernel
theorem dX11_reached_7 : decode cX11_reached 7 = .ok (.istore_n 2, 1) := by decide +kernel
theorem dX11_reached_8 : decode cX11_reached 8 = .ok (.iload_n 2, 1) := by decide +kernel
theorem dX11_reached_9 : decode cX11_reached 9 = .ok (.aload_n 0, 1) := by decide +kernel
theorem dX11_reached_10 : decode cX11_reached 10 = .ok (.invokevirtual 380, 3) := by decide +kernel
theorem dX11_reached_13 : decode cX11_reached 13 = .ok (.if_icmp .ge 38, 3) := by decide +kernel
theorem dX11_reached_16 : decode cX11_reached 16 = .ok (.aload_n 0, 1) := by decide +kernel
theorem dX11_reached_17 : decode cX11_reached 17 = .ok (.getfield 112, 3) := by decide +kernel
theorem dX11_reached_20 : decode cX11_reached 20 = .ok (.bipush 8, 2) := by decide +kernel
theorem dX11_reached_22 : decode cX11_reached 22 = .ok (.aload_n 0, 1) := by decide +kernel
theorem dX11_reached_23 : decode cX11_reached 23 = .ok (.getfield 97, 3) := by decide +kernel
theorem dX11_reached_26 : decode cX11_reached 26 = .ok (.bipush 24, 2) := by decide +kernel
theorem dX11_reached_28 : decode cX11_reached 28 = .ok (.iaload, 1) := by decide +kernel
theorem dX11_reached_29 : decode cX11_reached 29 = .ok (.imul, 1) := by decide +kernel
theorem dX11_reached_30 : decode cX11_reached 30 = .ok (.iload_n 2, 1) := by decide +kernel
theorem dX11_reached_31 : decode cX11_reached 31 = .ok (.iadd, 1) := by decide +kernel
theorem dX11_reached_32 : decode cX11_reached 32 = .ok (.iaload, 1) := by decide +kernel
theorem dX11_reached_33 : decode cX11_reached 33 = .ok (.sipush 1000, 3) := by decide +kernel
theorem dX11_reached_36 : decode cX11_reached 36 = .ok (.if_icmp .ge 9, 3) := by decide +kernel
theorem dX11_reached_39 : decode cX11_reached 39 = .ok (.iload_n 1, 1) := by decide +kernel
theorem dX11_reached_40 : decode cX11_reached 40 = .ok (.iconst 1, 1) := by decide +kernel
theorem dX11_reached_41 : decode cX11_reached 41 = .ok (.iload_n 2, 1) := by decide +kernel
theorem dX11_reached_42 : decode cX11_reached 42 = .ok (.ishl, 1) := by decide +kernel
theorem dX11_reached_43 : decode cX11_reached 43 = .ok (.ior, 1) := by decide +kernel
theorem dX11_reached_44 : decode cX11_reached 44 = .ok (.istore_n 1, 1) := by decide +kernel
theorem dX11_reached_45 : decode cX11_reached 45 = .ok (.iinc 2 1, 3) := by decide +kernel
theorem dX11_reached_48 : decode cX11_reached 48 = .ok (.goto (-40), 3) := by decide +kernel
theorem dX11_reached_51 : decode cX11_reached 51 = .ok (.iload_n 1, 1) := by decide +kernel
theorem dX11_reached_52 : decode cX11_reached 52 = .ok (.ireturn, 1) := by decide +kernel
theorem wd_1947 : (Cond.code ⟨"WebCourtModel", "reached", "()I"⟩ prog_13_method_103_code (3 : Nat) (Option.some FieldType.int)) ∈ gtb := gtb_c8 158 (by decide +kernel) rfl
theorem wd_1936 : (Cond.methodLink "WebCourtModel" (466 : Nat) ⟨"WebCourtModel", "layFar", "()V"⟩) ∈ gtb := gtb_c8 147 (by decide +kernel) rfl
theorem wd_1938 : (Cond.instanceMethod ⟨"WebCourtModel", "layFar", "()V"⟩) ∈ gtb := gtb_c8 149 (by decide +kernel) rfl
theorem wd_102 : (Cond.selects "WebCourtModel" ⟨"WebCourtModel", "layFar", "()V"⟩ ⟨"WebCourtModel", "layFar", "()V"⟩) ∈ gtb := gtb_p 102 (by decide +kernel) rfl
theorem hd_yX11_layFar : yX11_layFar.cls = RX11 ∧ yX11_layFar.cls ≠ "java/lang/invoke/MethodHandle" ∧ yX11_layFar.cls ≠ "java/lang/invoke/VarHandle" ∧ (parseMethodDescriptor yX11_layFar.desc).map (fun d => d.parameters.length) = some 0 := by decide +kernel
theorem Km6_A28 {u v : St} (h : Km6 u v) : fA v 28 = fA u 28 := h.2.2.2.2.2.2.2.2.2.2.2.2.2.2.2.2.2.2.2.2.2.2.2.2.2.2.2.2.2.2.2.2.2.2.2.2.2.2.2.2.2.2.2.2.2.2.2.2.2.2.1
set_option maxHeartbeats 4000000 in
set_option maxRecDepth 100000 in
theorem T_X11_reached (l : Launch) (D : va_G) (cy : Nat → ClassId) (a : Nat → Nat) (u : St) (hJ : MI a u) (gk : Int32) (hgk : fA u 3 (fI u 0 36).toNatClampNeg = gk)   : Mi l D cy (mW cy a) yX11_reached (.code yX11_reached cX11_reached 3 (some .int)) (rmo 3 71) [.ref (a 0)] u (fun (r : Int32) (u' : St) => (0 ≤ r.toInt ∧ r.toInt ≤ 255) ∧ (MI a u') ∧ (Km6 u u')) := by
  refine Mi.of (own := RX11) rfl (by decide) (Nat.le_of_ble_eq_true rfl) ?_
  have hT : Km6 u u := Km6.rf
  have hJ0 := hJ
  intro p e s m below meth c A Q ls C hret hO hl
  obtain ⟨hx, hb, hml, hown, ht, hK, hA⟩ := id C
  have hl : lv_has ls 3 [(0, .ref (a 0))] := hl
  refine lv_iconst (v := 0) hx hb dX11_reached_0 (by decide) ?_
  refine lv_istore_n (lv' := [(1, .int 0), (0, .ref (a 0))]) hx hb dX11_reached_1 rfl hl (by decide) rfl (fun ls hl => ?_)
  refine lv_aload_n hx hb dX11_reached_2 rfl (lv_at hl 1 rfl) ?_
  have g1 : 0 ≤ (fI u 0 36).toInt ∧ (fI u 0 36).toInt ≤ 1 := by have h := MI_36 hJ0; exact h
  have g2 : 0 ≤ gk.toInt ∧ gk.toInt ≤ 8 := by have h := MI_A3 hJ0 (fI u 0 36).toNatClampNeg; rw [hgk] at h; exact h
  refine cVv (w := mW cy a) (As := []) (rest := []) C hO (T_X11_layFar l D cy a _ (by exact hJ) (gk) (by exact hgk)) (cwV 0 ht (gV wd_1936 wd_1938 wd_102 wd_121 wd_1939) rfl rfl rfl hd_yX11_layFar ⟨Nat.le_of_ble_eq_true rfl, Nat.le_of_ble_eq_true rfl⟩) 0 rfl mW_0 rfl rfl hl.1 (Nat.le_of_ble_eq_true rfl) dX11_reached_3 rfl ⟨Nat.zero_le _, Nat.zero_le _⟩ (fun u4 H locs hp5 hO => ?_)
  obtain ⟨hJ, hTu4⟩ := hp5
  have hT : Km6 u u4 := Km6.tr (by exact hT) hTu4
  refine lv_iconst (v := 0) hx hb dX11_reached_6 (by decide) ?_
  refine lv_istore_n (lv' := [(2, .int 0), (1, .int 0), (0, .ref (a 0))]) hx hb dX11_reached_7 rfl hl (by decide) rfl (fun ls hl => ?_)
  have LP_8_k6 : ∀ (n : Nat) (H : Heap) (locs : List Loc) (ls : Array Slot) (i_k6 : Int32) (w1_k6 : Int32), Wo D A (mW cy a u4) s.heap H locs → lv_has ls 3 [(2, .int i_k6), (1, .int w1_k6), (0, .ref (a 0))] → 0 ≤ i_k6.toInt ∧ i_k6.toInt ≤ 8 → 0 ≤ w1_k6.toInt ∧ w1_k6.toInt ≤ 255 → 8 - i_k6.toInt < (n : Int) → W p l e (rmo 3 71) s m [.ref (a 0)].toArray below meth c H locs 0 0 Q (F0 m 8 ls []) := by
    intro n
    induction n with
    | zero =>
      intro H locs ls i_k6 w1_k6 hO hl iv0_k6 iv1_k6 hm_k6
      exact absurd hm_k6 (by omega)
    | succ n ih_k6 =>
      intro H locs ls i_k6 w1_k6 hO hl iv0_k6 iv1_k6 hm_k6
      refine lv_iload_n hx hb dX11_reached_8 rfl (lv_at hl 0 rfl) ?_
      refine lv_aload_n hx hb dX11_reached_9 rfl (lv_at hl 2 rfl) ?_
      refine cVi (w := mW cy a) (As := []) (rest := [.int i_k6]) C hO (T_X11_spots l D cy a _ (by exact hJ) (gk) (by exact (Eq.trans (congrArg (fun z : Int32 => fA _ 3 z.toNatClampNeg) (Km6_I36 hT)) (Eq.trans (congrFun (Km6_A3 hT) _) hgk)))) (cwV 0 ht (gV wd_1352 wd_1354 wd_47 wd_121 wd_1355) rfl rfl rfl hd_yX11_spots ⟨Nat.le_of_ble_eq_true rfl, Nat.le_of_ble_eq_true rfl⟩) 0 rfl mW_0 rfl rfl hl.1 (Nat.le_of_ble_eq_true rfl) dX11_reached_10 rfl ⟨Nat.zero_le _, Nat.zero_le _⟩ (fun r7 u8 H locs hp9 hO => ?_)
      obtain ⟨hr7, hu8⟩ := hp9
      refine tE hr7 ?_
      rw [hu8] at hO
      refine cs_ge (tgt := 51) (X := (i_k6).toInt) (Y := (gk).toInt) hx hb dX11_reached_13 (by decide) rfl rfl (fun c10 => ?_) (fun c10 => ?_)
      · refine lv_iload_n hx hb dX11_reached_51 rfl (lv_at hl 1 rfl) ?_
        refine hret _ _ _ _ _ _ dX11_reached_52 rfl ?_ hO
        exact ⟨(by first | decide | omega), hJ, hT⟩
      · refine lv_aload_n hx hb dX11_reached_16 rfl (lv_at hl 2 rfl) ?_
        refine gf_RX11_112 (v := .ref (a 32)) C hO 0 mW_0 rfl dX11_reached_17 ?_
        refine lv_bipush (v := 8) hx hb dX11_reached_20 (by decide) ?_
        refine lv_aload_n hx hb dX11_reached_22 rfl (lv_at hl 2 rfl) ?_
        refine gf_RX11_97 (v := .ref (a 28)) C hO 0 mW_0 rfl dX11_reached_23 ?_
        refine lv_bipush (v := 24) hx hb dX11_reached_26 (by decide) ?_
        refine aI C hO 28 mW_28 (i_in (X := 24) rfl (by omega) (by omega)) dX11_reached_28 ?_
        refine tE (y := (fA u 28 24)) (by exact (congrFun (Km6_A28 hT) _)) ?_
        have g11 : 0 ≤ (fA u 28 24).toInt ∧ (fA u 28 24).toInt ≤ 7 := by have h := MI_sheK hJ (K := gk) (by exact (Eq.trans (congrArg (fun z : Int32 => fA _ 3 z.toNatClampNeg) (Km6_I36 hT)) (Eq.trans (congrFun (Km6_A3 hT) _) hgk))) (by omega); rw [show fA _ 28 24 = (fA u 28 24) from (congrFun (Km6_A28 hT) _)] at h; exact h
        refine lv_imul hx hb dX11_reached_29 ?_
        refine lv_topi (fun z12 ez12 => ?_)
        have e13 : z12.toInt = 8 * ((fA u 28 24)).toInt := by rw [ez12]; exact i_mul rfl rfl (by omega)
        refine lv_iload_n hx hb dX11_reached_30 rfl (lv_at hl 0 rfl) ?_
        refine lv_iadd hx hb dX11_reached_31 ?_
        refine lv_topi (fun z14 ez14 => ?_)
        have e15 : z14.toInt = (8 * ((fA u 28 24)).toInt) + (i_k6).toInt := by rw [ez14]; exact i_add e13 rfl (by omega)
        refine aI C hO 32 mW_32 (i_in (X := ((8 * ((fA u 28 24)).toInt) + (i_k6).toInt)) e15 (by omega) (by omega)) dX11_reached_32 ?_
        have g16 : 0 ≤ (fA u4 32 (z14).toNatClampNeg).toInt ∧ (fA u4 32 (z14).toNatClampNeg).toInt ≤ 1000 := by have h := MI_A32 hJ (z14).toNatClampNeg; exact h
        refine tE (y := (fA u4 32 (z14).toNatClampNeg)) (by exact rfl) ?_
        refine lv_sipush (v := 1000) hx hb dX11_reached_33 (by decide) ?_
        refine cs_ge (tgt := 45) (X := ((fA u4 32 (z14).toNatClampNeg)).toInt) (Y := 1000) hx hb dX11_reached_36 (by decide) rfl rfl (fun c17 => ?_) (fun c17 => ?_)
        · obtain ⟨z18, ez18⟩ : ∃ z : Int32, z = i_k6 + Int32.ofInt 1 := ⟨_, rfl⟩
          have e19 : z18.toInt = (i_k6).toInt + 1 := by rw [ez18]; exact i_add rfl rfl (by omega)
          refine lv_iinc (v := z18) (lv' := [(2, .int z18), (1, .int w1_k6), (0, .ref (a 0))]) hx hb dX11_reached_45 hl (k := 0) rfl ez18.symm (by decide) rfl (fun ls hl => ?_)
          refine lv_goto (tgt := 8) hx hb dX11_reached_48 (by decide) ?_
          exact ih_k6 _ _ _ (z18) (w1_k6) hO (lv_sub hl [0, 1, 2] rfl) (by first | decide | omega) (by first | decide | omega) (by first | decide | omega)
        · refine lv_iload_n hx hb dX11_reached_39 rfl (lv_at hl 1 rfl) ?_
          refine lv_iconst (v := 1) hx hb dX11_reached_40 (by decide) ?_
          refine lv_iload_n hx hb dX11_reached_41 rfl (lv_at hl 0 rfl) ?_
          refine lv_ishl hx hb dX11_reached_42 ?_
          refine lv_topi (fun z20 ez20 => ?_)
          have g21 : 0 ≤ z20.toInt ∧ z20.toInt ≤ 2 ^ 7 := by rw [ez20]; exact i_shl1 rfl (by omega) (by omega) (by decide)
          refine lv_ior hx hb dX11_reached_43 ?_
          refine lv_topi (fun z22 ez22 => ?_)
          have g23 : 0 ≤ z22.toInt ∧ z22.toInt < 2 ^ 8 := by rw [ez22]; exact i_or rfl rfl (by omega) (by omega) (by decide)
          refine lv_istore_n (lv' := [(1, .int z22), (2, .int i_k6), (0, .ref (a 0))]) hx hb dX11_reached_44 rfl hl (by decide) rfl (fun ls hl => ?_)
          obtain ⟨z24, ez24⟩ : ∃ z : Int32, z = i_k6 + Int32.ofInt 1 := ⟨_, rfl⟩
          have e25 : z24.toInt = (i_k6).toInt + 1 := by rw [ez24]; exact i_add rfl rfl (by omega)
          refine lv_iinc (v := z24) (lv' := [(2, .int z24), (1, .int z22), (0, .ref (a 0))]) hx hb dX11_reached_45 hl (k := 1) rfl ez24.symm (by decide) rfl (fun ls hl => ?_)
          refine lv_goto (tgt := 8) hx hb dX11_reached_48 (by decide) ?_
          exact ih_k6 _ _ _ (z24) (z22) hO (lv_sub hl [0, 1, 2] rfl) (by first | decide | omega) (by first | decide | omega) (by first | decide | omega)
  have zc26 : (0 : Int32).toInt = 0 := rfl
  exact LP_8_k6 4000 _ _ _ (0) (0) hO (lv_sub hl [0, 1, 2] rfl) (by first | decide | omega) (by first | decide | omega) (by first | decide | omega)
theorem dX11_reach_0 : decode cX11_reach 0 = .ok (.aload_n 0, 1) := by decide +kernel
theorem dX11_reach_1 : decode cX11_reach 1 = .ok (.invokevirtual 469, 3) := by decide +kernel
theorem dX11_reach_4 : decode cX11_reach 4 = .ok (.ireturn, 1) := by decide +kernel
theorem wd_1943 : (Cond.code ⟨"WebCourtModel", "reach", "()I"⟩ prog_13_method_104_code (1 : Nat) (Option.some FieldType.int)) ∈ gtb := gtb_c8 154 (by decide +kernel) rfl
theorem wd_1944 : (Cond.methodLink "WebCourtModel" (469 : Nat) ⟨"WebCourtModel", "reached", "()I"⟩) ∈ gtb := gtb_c8 155 (by decide +kernel) rfl
theorem wd_1946 : (Cond.instanceMethod ⟨"WebCourtModel", "reached", "()I"⟩) ∈ gtb := gtb_c8 157 (by decide +kernel) rfl
theorem wd_103 : (Cond.selects "WebCourtModel" ⟨"WebCourtModel", "reached", "()I"⟩ ⟨"WebCourtModel", "reached", "()I"⟩) ∈ gtb := gtb_p 103 (by decide +kernel) rfl
theorem hd_yX11_reached : yX11_reached.cls = RX11 ∧ yX11_reached.cls ≠ "java/lang/invoke/MethodHandle" ∧ yX11_reached.cls ≠ "java/lang/invoke/VarHandle" ∧ (parseMethodDescriptor yX11_reached.desc).map (fun d => d.parameters.length) = some 0 := by decide +kernel
set_option maxHeartbeats 4000000 in
set_option maxRecDepth 100000 in
theorem T_X11_reach (l : Launch) (D : va_G) (cy : Nat → ClassId) (a : Nat → Nat) (u : St) (hJ : MI a u)   : Mi l D cy (mW cy a) yX11_reach (.code yX11_reach cX11_reach 1 (some .int)) (rmo 4 93) [.ref (a 0)] u (fun (r : Int32) (u' : St) => (MI a u') ∧ (Km6 u u')) := by
  refine Mi.of (own := RX11) rfl (by decide) (Nat.le_of_ble_eq_true rfl) ?_
  have hT : Km6 u u := Km6.rf
  have hJ0 := hJ
  intro p e s m below meth c A Q ls C hret hO hl
  obtain ⟨hx, hb, hml, hown, ht, hK, hA⟩ := id C
  have hl : lv_has ls 1 [(0, .ref (a 0))] := hl
  refine lv_aload_n hx hb dX11_reach_0 rfl (lv_at hl 0 rfl) ?_
  have g1 : 0 ≤ (fI u 0 36).toInt ∧ (fI u 0 36).toInt ≤ 1 := by have h := MI_36 hJ0; exact h
  have g2 : 0 ≤ (fA u 3 ((fI u 0 36)).toNatClampNeg).toInt ∧ (fA u 3 ((fI u 0 36)).toNatClampNeg).toInt ≤ 8 := by have h := MI_A3 hJ0 ((fI u 0 36)).toNatClampNeg; exact h
  refine cVi (w := mW cy a) (As := []) (rest := []) C hO (T_X11_reached l D cy a _ (by exact hJ) ((fA u 3 ((fI u 0 36)).toNatClampNeg)) (by exact rfl)) (cwV 0 ht (gV wd_1944 wd_1946 wd_103 wd_121 wd_1947) rfl rfl rfl hd_yX11_reached ⟨Nat.le_of_ble_eq_true rfl, Nat.le_of_ble_eq_true rfl⟩) 0 rfl mW_0 rfl rfl hl.1 (Nat.le_of_ble_eq_true rfl) dX11_reach_1 rfl ⟨Nat.zero_le _, Nat.zero_le _⟩ (fun r3 u4 H locs hp5 hO => ?_)
  obtain ⟨hr3, hJ, hTu4⟩ := hp5
  have hT : Km6 u u4 := Km6.tr (by exact hT) hTu4
  refine hret _ _ _ _ _ _ dX11_reach_4 rfl ?_ hO
  exact ⟨hJ, hT⟩
def Km7 (u v : St) : Prop := fI v 0 2 = fI u 0 2 ∧ fI v 0 3 = fI u 0 3 ∧ fI v 0 4 = fI u 0 4 ∧ fI v 0 5 = fI u 0 5 ∧ fI v 0 6 = fI u 0 6 ∧ fI v 0 7 = fI u 0 7 ∧ fI v 0 8 = fI u 0 8 ∧ fI v 0 9 = fI u 0 9 ∧ fL v 0 10 = fL u 0 10 ∧ fI v 0 36 = fI u 0 36 ∧ fI v 0 37 = fI u 0 37 ∧ fI v 0 38 = fI u 0 38 ∧ fI v 0 39 = fI u 0 39 ∧ fI v 0 40 = fI u 0 40 ∧ fI v 0 41 = fI u 0 41 ∧ fI v 0 42 = fI u 0 42 ∧ fI v 0 43 = fI u 0 43 ∧ fI v 0 45 = fI u 0 45 ∧ fI v 0 47 = fI u 0 47 ∧ fI v 0 48 = fI u 0 48 ∧ fI v 0 50 = fI u 0 50 ∧ fI v 0 61 = fI u 0 61 ∧ fI v 0 62 = fI u 0 62 ∧ fA v 1 = fA u 1 ∧ fA v 2 = fA u 2 ∧ fA v 3 = fA u 3 ∧ fA v 4 = fA u 4 ∧ fA v 5 = fA u 5 ∧ fA v 6 = fA u 6 ∧ fA v 7 = fA u 7 ∧ fA v 8 = fA u 8 ∧ fA v 9 = fA u 9 ∧ fA v 10 = fA u 10 ∧ fA v 11 = fA u 11 ∧ fA v 12 = fA u 12 ∧ fA v 13 = fA u 13 ∧ fA v 14 = fA u 14 ∧ fA v 15 = fA u 15 ∧ fA v 16 = fA u 16 ∧ fA v 17 = fA u 17 ∧ fA v 18 = fA u 18 ∧ fA v 19 = fA u 19 ∧ fJ v 20 = fJ u 20 ∧ fJ v 21 = fJ u 21 ∧ fJ v 22 = fJ u 22 ∧ fA v 23 = fA u 23 ∧ fA v 24 = fA u 24 ∧ fA v 25 = fA u 25 ∧ fA v 26 = fA u 26 ∧ fA v 27 = fA u 27 ∧ fA v 29 = fA u 29 ∧ fA v 30 = fA u 30 ∧ fA v 31 = fA u 31 ∧ fA v 33 = fA u 33 ∧ fA v 34 = fA u 34 ∧ fA v 35 = fA u 35 ∧ fA v 36 = fA u 36 ∧ fA v 37 = fA u 37 ∧ fA v 38 = fA u 38 ∧ fA v 39 = fA u 39 ∧ fA v 40 = fA u 40 ∧ fA v 41 = fA u 41 ∧ fA v 42 = fA u 42
theorem Km7.rf {u : St} : Km7 u u := ⟨rfl, rfl, rfl, rfl, rfl, rfl, rfl, rfl, rfl, rfl, rfl, rfl, rfl, rfl, rfl, rfl, rfl, rfl, rfl, rfl, rfl, rfl, rfl, rfl, rfl, rfl, rfl, rfl, rfl, rfl, rfl, rfl, rfl, rfl, rfl, rfl, rfl, rfl, rfl, rfl, rfl, rfl, rfl, rfl, rfl, rfl, rfl, rfl, rfl, rfl, rfl, rfl, rfl, rfl, rfl, rfl, rfl, rfl, rfl, rfl, rfl, rfl, rfl⟩
theorem Km7.tr {u v w : St} (h1 : Km7 u v) (h2 : Km7 v w) : Km7 u w := ⟨(h2.1).trans h1.1, (h2.2.1).trans h1.2.1, (h2.2.2.1).trans h1.2.2.1, (h2.2.2.2.1).trans h1.2.2.2.1, (h2.2.2.2.2.1).trans h1.2.2.2.2.1, (h2.2.2.2.2.2.1).trans h1.2.2.2.2.2.1, (h2.2.2.2.2.2.2.1).trans h1.2.2.2.2.2.2.1, (h2.2.2.2.2.2.2.2.1).trans h1.2.2.2.2.2.2.2.1, (h2.2.2.2.2.2.2.2.2.1).trans h1.2.2.2.2.2.2.2.2.1, (h2.2.2.2.2.2.2.2.2.2.1).trans h1.2.2.2.2.2.2.2.2.2.1, (h2.2.2.2.2.2.2.2.2.2.2.1).trans h1.2.2.2.2.2.2.2.2.2.2.1, (h2.2.2.2.2.2.2.2.2.2.2.2.1).trans h1.2.2.2.2.2.2.2.2.2.2.2.1, (h2.2.2.2.2.2.2.2.2.2.2.2.2.1).trans h1.2.2.2.2.2.2.2.2.2.2.2.2.1, (h2.2.2.2.2.2.2.2.2.2.2.2.2.2.1).trans h1.2.2.2.2.2.2.2.2.2.2.2.2.2.1, (h2.2.2.2.2.2.2.2.2.2.2.2.2.2.2.1).trans h1.2.2.2.2.2.2.2.2.2.2.2.2.2.2.1, (h2.2.2.2.2.2.2.2.2.2.2.2.2.2.2.2.1).trans h1.2.2.2.2.2.2.2.2.2.2.2.2.2.2.2.1, (h2.2.2.2.2.2.2.2.2.2.2.2.2.2.2.2.2.1).trans h1.2.2.2.2.2.2.2.2.2.2.2.2.2.2.2.2.1, (h2.2.2.2.2.2.2.2.2.2.2.2.2.2.2.2.2.2.1).trans h1.2.2.2.2.2.2.2.2.2.2.2.2.2.2.2.2.2.1, (h2.2.2.2.2.2.2.2.2.2.2.2.2.2.2.2.2.2.2.1).trans h1.2.2.2.2.2.2.2.2.2.2.2.2.2.2.2.2.2.2.1, (h2.2.2.2.2.2.2.2.2.2.2.2.2.2.2.2.2.2.2.2.1).trans h1.2.2.2.2.2.2.2.2.2.2.2.2.2.2.2.2.2.2.2.1, (h2.2.2.2.2.2.2.2.2.2.2.2.2.2.2.2.2.2.2.2.2.1).trans h1.2.2.2.2.2.2.2.2.2.2.2.2.2.2.2.2.2.2.2.2.1, (h2.2.2.2.2.2.2.2.2.2.2.2.2.2.2.2.2.2.2.2.2.2.1).trans h1.2.2.2.2.2.2.2.2.2.2.2.2.2.2.2.2.2.2.2.2.2.1, (h2.2.2.2.2.2.2.2.2.2.2.2.2.2.2.2.2.2.2.2.2.2.2.1).trans h1.2.2.2.2.2.2.2.2.2.2.2.2.2.2.2.2.2.2.2.2.2.2.1, (h2.2.2.2.2.2.2.2.2.2.2.2.2.2.2.2.2.2.2.2.2.2.2.2.1).trans h1.2.2.2.2.2.2.2.2.2.2.2.2.2.2.2.2.2.2.2.2.2.2.2.1, (h2.2.2.2.2.2.2.2.2.2.2.2.2.2.2.2.2.2.2.2.2.2.2.2.2.1).trans h1.2.2.2.2.2.2.2.2.2.2.2.2.2.2.2.2.2.2.2.2.2.2.2.2.1, (h2.2.2.2.2.2.2.2.2.2.2.2.2.2.2.2.2.2.2.2.2.2.2.2.2.2.1).trans h1.2.2.2.2.2.2.2.2.2.2.2.2.2.2.2.2.2.2.2.2.2.2.2.2.2.1, (h2.2.2.2.2.2.2.2.2.2.2.2.2.2.2.2.2.2.2.2.2.2.2.2.2.2.2.1).trans h1.2.2.2.2.2.2.2.2.2.2.2.2.2.2.2.2.2.2.2.2.2.2.2.2.2.2.1, (h2.2.2.2.2.2.2.2.2.2.2.2.2.2.2.2.2.2.2.2.2.2.2.2.2.2.2.2.1).trans h1.2.2.2.2.2.2.2.2.2.2.2.2.2.2.2.2.2.2.2.2.2.2.2.2.2.2.2.1, (h2.2.2.2.2.2.2.2.2.2.2.2.2.2.2.2.2.2.2.2.2.2.2.2.2.2.2.2.2.1).trans h1.2.2.2.2.2.2.2.2.2.2.2.2.2.2.2.2.2.2.2.2.2.2.2.2.2.2.2.2.1, (h2.2.2.2.2.2.2.2.2.2.2.2.2.2.2.2.2.2.2.2.2.2.2.2.2.2.2.2.2.2.1).trans h1.2.2.2.2.2.2.2.2.2.2.2.2.2.2.2.2.2.2.2.2.2.2.2.2.2.2.2.2.2.1, (h2.2.2.2.2.2.2.2.2.2.2.2.2.2.2.2.2.2.2.2.2.2.2.2.2.2.2.2.2.2.2.1).trans h1.2.2.2.2.2.2.2.2.2.2.2.2.2.2.2.2.2.2.2.2.2.2.2.2.2.2.2.2.2.2.1, (h2.2.2.2.2.2.2.2.2.2.2.2.2.2.2.2.2.2.2.2.2.2.2.2.2.2.2.2.2.2.2.2.1).trans h1.2.2.2.2.2.2.2.2.2.2.2.2.2.2.2.2.2.2.2.2.2.2.2.2.2.2.2.2.2.2.2.1, (h2.2.2.2.2.2.2.2.2.2.2.2.2.2.2.2.2.2.2.2.2.2.2.2.2.2.2.2.2.2.2.2.2.1).trans h1.2.2.2.2.2.2.2.2.2.2.2.2.2.2.2.2.2.2.2.2.2.2.2.2.2.2.2.2.2.2.2.2.1, (h2.2.2.2.2.2.2.2.2.2.2.2.2.2.2.2.2.2.2.2.2.2.2.2.2.2.2.2.2.2.2.2.2.2.1).trans h1.2.2.2.2.2.2.2.2.2.2.2.2.2.2.2.2.2.2.2.2.2.2.2.2.2.2.2.2.2.2.2.2.2.1, (h2.2.2.2.2.2.2.2.2.2.2.2.2.2.2.2.2.2.2.2.2.2.2.2.2.2.2.2.2.2.2.2.2.2.2.1).trans h1.2.2.2.2.2.2.2.2.2.2.2.2.2.2.2.2.2.2.2.2.2.2.2.2.2.2.2.2.2.2.2.2.2.2.1, (h2.2.2.2.2.2.2.2.2.2.2.2.2.2.2.2.2.2.2.2.2.2.2.2.2.2.2.2.2.2.2.2.2.2.2.2.1).trans h1.2.2.2.2.2.2.2.2.2.2.2.2.2.2.2.2.2.2.2.2.2.2.2.2.2.2.2.2.2.2.2.2.2.2.2.1, (h2.2.2.2.2.2.2.2.2.2.2.2.2.2.2.2.2.2.2.2.2.2.2.2.2.2.2.2.2.2.2.2.2.2.2.2.2.1).trans h1.2.2.2.2.2.2.2.2.2.2.2.2.2.2.2.2.2.2.2.2.2.2.2.2.2.2.2.2.2.2.2.2.2.2.2.2.1, (h2.2.2.2.2.2.2.2.2.2.2.2.2.2.2.2.2.2.2.2.2.2.2.2.2.2.2.2.2.2.2.2.2.2.2.2.2.2.1).trans h1.2.2.2.2.2.2.2.2.2.2.2.2.2.2.2.2.2.2.2.2.2.2.2.2.2.2.2.2.2.2.2.2.2.2.2.2.2.1, (h2.2.2.2.2.2.2.2.2.2.2.2.2.2.2.2.2.2.2.2.2.2.2.2.2.2.2.2.2.2.2.2.2.2.2.2.2.2.2.1).trans h1.2.2.2.2.2.2.2.2.2.2.2.2.2.2.2.2.2.2.2.2.2.2.2.2.2.2.2.2.2.2.2.2.2.2.2.2.2.2.1, (h2.2.2.2.2.2.2.2.2.2.2.2.2.2.2.2.2.2.2.2.2.2.2.2.2.2.2.2.2.2.2.2.2.2.2.2.2.2.2.2.1).trans h1.2.2.2.2.2.2.2.2.2.2.2.2.2.2.2.2.2.2.2.2.2.2.2.2.2.2.2.2.2.2.2.2.2.2.2.2.2.2.2.1, (h2.2.2.2.2.2.2.2.2.2.2.2.2.2.2.2.2.2.2.2.2.2.2.2.2.2.2.2.2.2.2.2.2.2.2.2.2.2.2.2.2.1).trans h1.2.2.2.2.2.2.2.2.2.2.2.2.2.2.2.2.2.2.2.2.2.2.2.2.2.2.2.2.2.2.2.2.2.2.2.2.2.2.2.2.1, (h2.2.2.2.2.2.2.2.2.2.2.2.2.2.2.2.2.2.2.2.2.2.2.2.2.2.2.2.2.2.2.2.2.2.2.2.2.2.2.2.2.2.1).trans h1.2.2.2.2.2.2.2.2.2.2.2.2.2.2.2.2.2.2.2.2.2.2.2.2.2.2.2.2.2.2.2.2.2.2.2.2.2.2.2.2.2.1, (h2.2.2.2.2.2.2.2.2.2.2.2.2.2.2.2.2.2.2.2.2.2.2.2.2.2.2.2.2.2.2.2.2.2.2.2.2.2.2.2.2.2.2.1).trans h1.2.2.2.2.2.2.2.2.2.2.2.2.2.2.2.2.2.2.2.2.2.2.2.2.2.2.2.2.2.2.2.2.2.2.2.2.2.2.2.2.2.2.1, (h2.2.2.2.2.2.2.2.2.2.2.2.2.2.2.2.2.2.2.2.2.2.2.2.2.2.2.2.2.2.2.2.2.2.2.2.2.2.2.2.2.2.2.2.1).trans h1.2.2.2.2.2.2.2.2.2.2.2.2.2.2.2.2.2.2.2.2.2.2.2.2.2.2.2.2.2.2.2.2.2.2.2.2.2.2.2.2.2.2.2.1, (h2.2.2.2.2.2.2.2.2.2.2.2.2.2.2.2.2.2.2.2.2.2.2.2.2.2.2.2.2.2.2.2.2.2.2.2.2.2.2.2.2.2.2.2.2.1).trans h1.2.2.2.2.2.2.2.2.2.2.2.2.2.2.2.2.2.2.2.2.2.2.2.2.2.2.2.2.2.2.2.2.2.2.2.2.2.2.2.2.2.2.2.2.1, (h2.2.2.2.2.2.2.2.2.2.2.2.2.2.2.2.2.2.2.2.2.2.2.2.2.2.2.2.2.2.2.2.2.2.2.2.2.2.2.2.2.2.2.2.2.2.1).trans h1.2.2.2.2.2.2.2.2.2.2.2.2.2.2.2.2.2.2.2.2.2.2.2.2.2.2.2.2.2.2.2.2.2.2.2.2.2.2.2.2.2.2.2.2.2.1, (h2.2.2.2.2.2.2.2.2.2.2.2.2.2.2.2.2.2.2.2.2.2.2.2.2.2.2.2.2.2.2.2.2.2.2.2.2.2.2.2.2.2.2.2.2.2.2.1).trans h1.2.2.2.2.2.2.2.2.2.2.2.2.2.2.2.2.2.2.2.2.2.2.2.2.2.2.2.2.2.2.2.2.2.2.2.2.2.2.2.2.2.2.2.2.2.2.1, (h2.2.2.2.2.2.2.2.2.2.2.2.2.2.2.2.2.2.2.2.2.2.2.2.2.2.2.2.2.2.2.2.2.2.2.2.2.2.2.2.2.2.2.2.2.2.2.2.1).trans h1.2.2.2.2.2.2.2.2.2.2.2.2.2.2.2.2.2.2.2.2.2.2.2.2.2.2.2.2.2.2.2.2.2.2.2.2.2.2.2.2.2.2.2.2.2.2.2.1, (h2.2.2.2.2.2.2.2.2.2.2.2.2.2.2.2.2.2.2.2.2.2.2.2.2.2.2.2.2.2.2.2.2.2.2.2.2.2.2.2.2.2.2.2.2.2.2.2.2.1).trans h1.2.2.2.2.2.2.2.2.2.2.2.2.2.2.2.2.2.2.2.2.2.2.2.2.2.2.2.2.2.2.2.2.2.2.2.2.2.2.2.2.2.2.2.2.2.2.2.2.1, (h2.2.2.2.2.2.2.2.2.2.2.2.2.2.2.2.2.2.2.2.2.2.2.2.2.2.2.2.2.2.2.2.2.2.2.2.2.2.2.2.2.2.2.2.2.2.2.2.2.2.1).trans h1.2.2.2.2.2.2.2.2.2.2.2.2.2.2.2.2.2.2.2.2.2.2.2.2.2.2.2.2.2.2.2.2.2.2.2.2.2.2.2.2.2.2.2.2.2.2.2.2.2.1, (h2.2.2.2.2.2.2.2.2.2.2.2.2.2.2.2.2.2.2.2.2.2.2.2.2.2.2.2.2.2.2.2.2.2.2.2.2.2.2.2.2.2.2.2.2.2.2.2.2.2.2.1).trans h1.2.2.2.2.2.2.2.2.2.2.2.2.2.2.2.2.2.2.2.2.2.2.2.2.2.2.2.2.2.2.2.2.2.2.2.2.2.2.2.2.2.2.2.2.2.2.2.2.2.2.1, (h2.2.2.2.2.2.2.2.2.2.2.2.2.2.2.2.2.2.2.2.2.2.2.2.2.2.2.2.2.2.2.2.2.2.2.2.2.2.2.2.2.2.2.2.2.2.2.2.2.2.2.2.1).trans h1.2.2.2.2.2.2.2.2.2.2.2.2.2.2.2.2.2.2.2.2.2.2.2.2.2.2.2.2.2.2.2.2.2.2.2.2.2.2.2.2.2.2.2.2.2.2.2.2.2.2.2.1, (h2.2.2.2.2.2.2.2.2.2.2.2.2.2.2.2.2.2.2.2.2.2.2.2.2.2.2.2.2.2.2.2.2.2.2.2.2.2.2.2.2.2.2.2.2.2.2.2.2.2.2.2.2.1).trans h1.2.2.2.2.2.2.2.2.2.2.2.2.2.2.2.2.2.2.2.2.2.2.2.2.2.2.2.2.2.2.2.2.2.2.2.2.2.2.2.2.2.2.2.2.2.2.2.2.2.2.2.2.1, (h2.2.2.2.2.2.2.2.2.2.2.2.2.2.2.2.2.2.2.2.2.2.2.2.2.2.2.2.2.2.2.2.2.2.2.2.2.2.2.2.2.2.2.2.2.2.2.2.2.2.2.2.2.2.1).trans h1.2.2.2.2.2.2.2.2.2.2.2.2.2.2.2.2.2.2.2.2.2.2.2.2.2.2.2.2.2.2.2.2.2.2.2.2.2.2.2.2.2.2.2.2.2.2.2.2.2.2.2.2.2.1, (h2.2.2.2.2.2.2.2.2.2.2.2.2.2.2.2.2.2.2.2.2.2.2.2.2.2.2.2.2.2.2.2.2.2.2.2.2.2.2.2.2.2.2.2.2.2.2.2.2.2.2.2.2.2.2.1).trans h1.2.2.2.2.2.2.2.2.2.2.2.2.2.2.2.2.2.2.2.2.2.2.2.2.2.2.2.2.2.2.2.2.2.2.2.2.2.2.2.2.2.2.2.2.2.2.2.2.2.2.2.2.2.2.1, (h2.2.2.2.2.2.2.2.2.2.2.2.2.2.2.2.2.2.2.2.2.2.2.2.2.2.2.2.2.2.2.2.2.2.2.2.2.2.2.2.2.2.2.2.2.2.2.2.2.2.2.2.2.2.2.2.1).trans h1.2.2.2.2.2.2.2.2.2.2.2.2.2.2.2.2.2.2.2.2.2.2.2.2.2.2.2.2.2.2.2.2.2.2.2.2.2.2.2.2.2.2.2.2.2.2.2.2.2.2.2.2.2.2.2.1, (h2.2.2.2.2.2.2.2.2.2.2.2.2.2.2.2.2.2.2.2.2.2.2.2.2.2.2.2.2.2.2.2.2.2.2.2.2.2.2.2.2.2.2.2.2.2.2.2.2.2.2.2.2.2.2.2.2.1).trans h1.2.2.2.2.2.2.2.2.2.2.2.2.2.2.2.2.2.2.2.2.2.2.2.2.2.2.2.2.2.2.2.2.2.2.2.2.2.2.2.2.2.2.2.2.2.2.2.2.2.2.2.2.2.2.2.2.1, (h2.2.2.2.2.2.2.2.2.2.2.2.2.2.2.2.2.2.2.2.2.2.2.2.2.2.2.2.2.2.2.2.2.2.2.2.2.2.2.2.2.2.2.2.2.2.2.2.2.2.2.2.2.2.2.2.2.2.1).trans h1.2.2.2.2.2.2.2.2.2.2.2.2.2.2.2.2.2.2.2.2.2.2.2.2.2.2.2.2.2.2.2.2.2.2.2.2.2.2.2.2.2.2.2.2.2.2.2.2.2.2.2.2.2.2.2.2.2.1, (h2.2.2.2.2.2.2.2.2.2.2.2.2.2.2.2.2.2.2.2.2.2.2.2.2.2.2.2.2.2.2.2.2.2.2.2.2.2.2.2.2.2.2.2.2.2.2.2.2.2.2.2.2.2.2.2.2.2.2.1).trans h1.2.2.2.2.2.2.2.2.2.2.2.2.2.2.2.2.2.2.2.2.2.2.2.2.2.2.2.2.2.2.2.2.2.2.2.2.2.2.2.2.2.2.2.2.2.2.2.2.2.2.2.2.2.2.2.2.2.2.1, (h2.2.2.2.2.2.2.2.2.2.2.2.2.2.2.2.2.2.2.2.2.2.2.2.2.2.2.2.2.2.2.2.2.2.2.2.2.2.2.2.2.2.2.2.2.2.2.2.2.2.2.2.2.2.2.2.2.2.2.2.1).trans h1.2.2.2.2.2.2.2.2.2.2.2.2.2.2.2.2.2.2.2.2.2.2.2.2.2.2.2.2.2.2.2.2.2.2.2.2.2.2.2.2.2.2.2.2.2.2.2.2.2.2.2.2.2.2.2.2.2.2.2.1, (h2.2.2.2.2.2.2.2.2.2.2.2.2.2.2.2.2.2.2.2.2.2.2.2.2.2.2.2.2.2.2.2.2.2.2.2.2.2.2.2.2.2.2.2.2.2.2.2.2.2.2.2.2.2.2.2.2.2.2.2.2.1).trans h1.2.2.2.2.2.2.2.2.2.2.2.2.2.2.2.2.2.2.2.2.2.2.2.2.2.2.2.2.2.2.2.2.2.2.2.2.2.2.2.2.2.2.2.2.2.2.2.2.2.2.2.2.2.2.2.2.2.2.2.2.1, (h2.2.2.2.2.2.2.2.2.2.2.2.2.2.2.2.2.2.2.2.2.2.2.2.2.2.2.2.2.2.2.2.2.2.2.2.2.2.2.2.2.2.2.2.2.2.2.2.2.2.2.2.2.2.2.2.2.2.2.2.2.2.1).trans h1.2.2.2.2.2.2.2.2.2.2.2.2.2.2.2.2.2.2.2.2.2.2.2.2.2.2.2.2.2.2.2.2.2.2.2.2.2.2.2.2.2.2.2.2.2.2.2.2.2.2.2.2.2.2.2.2.2.2.2.2.2.1, (h2.2.2.2.2.2.2.2.2.2.2.2.2.2.2.2.2.2.2.2.2.2.2.2.2.2.2.2.2.2.2.2.2.2.2.2.2.2.2.2.2.2.2.2.2.2.2.2.2.2.2.2.2.2.2.2.2.2.2.2.2.2.2).trans h1.2.2.2.2.2.2.2.2.2.2.2.2.2.2.2.2.2.2.2.2.2.2.2.2.2.2.2.2.2.2.2.2.2.2.2.2.2.2.2.2.2.2.2.2.2.2.2.2.2.2.2.2.2.2.2.2.2.2.2.2.2.2⟩
theorem dX11_bridge_0 : decode cX11_bridge 0 = .ok (.iload_n 1, 1) := by decide +kernel
theorem dX11_bridge_1 : decode cX11_bridge 1 = .ok (.iconst 0, 1) := by decide +kernel
theorem dX11_bridge_2 : decode cX11_bridge 2 = .ok (.iconst 1, 1) := by decide +kernel
theorem dX11_bridge_3 : decode cX11_bridge 3 = .ok (.invokestatic 374, 3) := by decide +kernel
theorem dX11_bridge_6 : decode cX11_bridge 6 = .ok (.ifCond .ne 5, 3) := by decide +kernel
theorem dX11_bridge_9 : decode cX11_bridge 9 = .ok (.iconst (-1), 1) := by decide +kernel
theorem dX11_bridge_10 : decode cX11_bridge 10 = .ok (.ireturn, 1) := by decide +kernel
theorem dX11_bridge_11 : decode cX11_bridge 11 = .ok (.iconst (-1), 1) := by decide +kernel
theorem dX11_bridge_12 : decode cX11_bridge 12 = .ok (.istore_n 2, 1) := by decide +kernel
theorem dX11_bridge_13 : decode cX11_bridge 13 = .ok (.sipush 1000, 3) := by decide +kernel
theorem dX11_bridge_16 : decode cX11_bridge 16 = .ok (.istore_n 3, 1) := by decide +kernel
theorem dX11_bridge_17 : decode cX11_bridge 17 = .ok (.iconst 0, 1) := by decide +kernel
theorem dX11_bridge_18 : decode cX11_bridge 18 = .ok (.istore 4, 2) := by decide +kernel
theorem dX11_bridge_20 : decode cX11_bridge 20 = .ok (.iload 4, 2) := by decide +kernel
theorem dX11_bridge_22 : decode cX11_bridge 22 = .ok (.aload_n 0, 1) := by decide +kernel
theorem dX11_bridge_23 : decode cX11_bridge 23 = .ok (.getfield 24, 3) := by decide +kernel
theorem dX11_bridge_26 : decode cX11_bridge 26 = .ok (.aload_n 0, 1) := by decide +kernel
theorem dX11_bridge_27 : decode cX11_bridge 27 = .ok (.getfield 255, 3) := by decide +kernel
theorem dX11_bridge_30 : decode cX11_bridge 30 = .ok (.iaload, 1) := by decide +kernel
theorem dX11_bridge_31 : decode cX11_bridge 31 = .ok (.if_icmp .ge 81, 3) := by decide +kernel
theorem dX11_bridge_34 : decode cX11_bridge 34 = .ok (.aload_n 0, 1) := by decide +kernel
theorem dX11_bridge_35 : decode cX11_bridge 35 = .ok (.getfield 97, 3) := by decide +kernel
theorem dX11_bridge_38 : decode cX11_bridge 38 = .ok (.bipush 28, 2) := by decide +kernel
theorem dX11_bridge_40 : decode cX11_bridge 40 = .ok (.iaload, 1) := by decide +kernel
theorem dX11_bridge_41 : decode cX11_bridge 41 = .ok (.iload 4, 2) := by decide +kernel
theorem dX11_bridge_43 : decode cX11_bridge 43 = .ok (.invokestatic 264, 3) := by decide +kernel
theorem dX11_bridge_46 : decode cX11_bridge 46 = .ok (.ifCond .eq 6, 3) := by decide +kernel
theorem dX11_bridge_49 : decode cX11_bridge 49 = .ok (.goto 57, 3) := by decide +kernel
theorem dX11_bridge_52 : decode cX11_bridge 52 = .ok (.aload_n 0, 1) := by decide +kernel
theorem dX11_bridge_53 : decode cX11_bridge 53 = .ok (.getfield 97, 3) := by decide +kernel
theorem dX11_bridge_56 : decode cX11_bridge 56 = .ok (.bipush 28, 2) := by decide +kernel
theorem dX11_bridge_58 : decode cX11_bridge 58 = .ok (.dup2, 1) := by decide +kernel
theorem dX11_bridge_59 : decode cX11_bridge 59 = .ok (.iaload, 1) := by decide +kernel
theorem dX11_bridge_60 : decode cX11_bridge 60 = .ok (.iconst 1, 1) := by decide +kernel
theorem dX11_bridge_61 : decode cX11_bridge 61 = .ok (.iload 4, 2) := by decide +kernel
theorem dX11_bridge_63 : decode cX11_bridge 63 = .ok (.ishl, 1) := by decide +kernel
theorem dX11_bridge_64 : decode cX11_bridge 64 = .ok (.ior, 1) := by decide +kernel
theorem dX11_bridge_65 : decode cX11_bridge 65 = .ok (.iastore, 1) := by decide +kernel
theorem dX11_bridge_66 : decode cX11_bridge 66 = .ok (.aload_n 0, 1) := by decide +kernel
theorem dX11_bridge_67 : decode cX11_bridge 67 = .ok (.invokevirtual 469, 3) := by decide +kernel
theorem dX11_bridge_70 : decode cX11_bridge 70 = .ok (.invokestatic 316, 3) := by decide +kernel
theorem dX11_bridge_73 : decode cX11_bridge 73 = .ok (.istore 5, 2) := by decide +kernel
theorem dX11_bridge_75 : decode cX11_bridge 75 = .ok (.aload_n 0, 1) := by decide +kernel
theorem dX11_bridge_76 : decode cX11_bridge 76 = .ok (.getfield 97, 3) := by decide +kernel
theorem dX11_bridge_79 : decode cX11_bridge 79 = .ok (.bipush 28, 2) := by decide +kernel
theorem dX11_bridge_81 : decode cX11_bridge 81 = .ok (.dup2, 1) := by decide +kernel
theorem dX11_bridge_82 : decode cX11_bridge 82 = .ok (.iaload, 1) := by decide +kernel
theorem dX11_bridge_83 : decode cX11_bridge 83 = .ok (.iconst 1, 1) := by decide +kernel
theorem dX11_bridge_84 : decode cX11_bridge 84 = .ok (.iload 4, 2) := by decide +kernel
theorem dX11_bridge_86 : decode cX11_bridge 86 = .ok (.ishl, 1) := by decide +kernel
theorem dX11_bridge_87 : decode cX11_bridge 87 = .ok (.iconst (-1), 1) := by decide +kernel
theorem dX11_bridge_88 : decode cX11_bridge 88 = .ok (.ixor, 1) := by decide +kernel
theorem dX11_bridge_89 : decode cX11_bridge 89 = .ok (.iand, 1) := by decide +kernel
theorem dX11_bridge_90 : decode cX11_bridge 90 = .ok (.iastore, 1) := by decide +kernel
theorem dX11_bridge_91 : decode cX11_bridge 91 = .ok (.iload 5, 2) := by decide +kernel
theorem dX11_bridge_93 : decode cX11_bridge 93 = .ok (.iload_n 3, 1) := by decide +kernel
theorem dX11_bridge_94 : decode cX11_bridge 94 = .ok (.if_icmp .lt 6, 3) := by decide +kernel
theorem dX11_bridge_97 : decode cX11_bridge 97 = .ok (.goto 9, 3) := by decide +kernel
theorem dX11_bridge_100 : decode cX11_bridge 100 = .ok (.iload 4, 2) := by decide +kernel
theorem dX11_bridge_102 : decode cX11_bridge 102 = .ok (.istore_n 2, 1) := by decide +kernel
theorem dX11_bridge_103 : decode cX11_bridge 103 = .ok (.iload 5, 2) := by decide +kernel
theorem dX11_bridge_105 : decode cX11_bridge 105 = .ok (.istore_n 3, 1) := by decide +kernel
theorem dX11_bridge_106 : decode cX11_bridge 106 = .ok (.iinc 4 1, 3) := by decide +kernel
theorem dX11_bridge_109 : decode cX11_bridge 109 = .ok (.goto (-89), 3) := by decide +kernel
theorem dX11_bridge_112 : decode cX11_bridge 112 = .ok (.iload_n 2, 1) := by decide +kernel
theorem dX11_bridge_113 : decode cX11_bridge 113 = .ok (.ifCond .ge 7, 3) := by decide +kernel
theorem dX11_bridge_116 : decode cX11_bridge 116 = .ok (.iconst (-1), 1) := by decide +kernel
theorem dX11_bridge_117 : decode cX11_bridge 117 = .ok (.goto 12, 3) := by decide +kernel
theorem dX11_bridge_120 : decode cX11_bridge 120 = .ok (.iload_n 1, 1) := by decide +kernel
theorem dX11_bridge_121 : decode cX11_bridge 121 = .ok (.ifCond .ne 7, 3) := by decide +kernel
theorem dX11_bridge_124 : decode cX11_bridge 124 = .ok (.iload_n 2, 1) := by decide +kernel
theorem dX11_bridge_125 : decode cX11_bridge 125 = .ok (.goto 4, 3) := by decide +kernel
theorem dX11_bridge_128 : decode cX11_bridge 128 = .ok (.iload_n 3, 1) := by decide +kernel
theorem dX11_bridge_129 : decode cX11_bridge 129 = .ok (.ireturn, 1) := by decide +kernel
theorem wd_1951 : (Cond.code ⟨"WebCourtModel", "bridge", "(I)I"⟩ prog_13_method_105_code (6 : Nat) (Option.some FieldType.int)) ∈ gtb := gtb_c8 162 (by decide +kernel) rfl
theorem Km7_I36 {u v : St} (h : Km7 u v) : fI v 0 36 = fI u 0 36 := h.2.2.2.2.2.2.2.2.2.1
theorem Km7_A4 {u v : St} (h : Km7 u v) : fA v 4 = fA u 4 := h.2.2.2.2.2.2.2.2.2.2.2.2.2.2.2.2.2.2.2.2.2.2.2.2.2.2.1
theorem Km7_wA28 {u v : St} {D : va_G} {A : Nat → Prop} {cy : Nat → ClassId} {a : Nat → Nat} {hp H : Heap} {locs : List Loc} {f : Nat → Int32} (_ : Wo D A (mW cy a (sA v 28 f)) hp H locs) (h : Km7 u v) : Km7 u (sA v 28 f) := ⟨h.1, h.2.1, h.2.2.1, h.2.2.2.1, h.2.2.2.2.1, h.2.2.2.2.2.1, h.2.2.2.2.2.2.1, h.2.2.2.2.2.2.2.1, h.2.2.2.2.2.2.2.2.1, h.2.2.2.2.2.2.2.2.2.1, h.2.2.2.2.2.2.2.2.2.2.1, h.2.2.2.2.2.2.2.2.2.2.2.1, h.2.2.2.2.2.2.2.2.2.2.2.2.1, h.2.2.2.2.2.2.2.2.2.2.2.2.2.1, h.2.2.2.2.2.2.2.2.2.2.2.2.2.2.1, h.2.2.2.2.2.2.2.2.2.2.2.2.2.2.2.1, h.2.2.2.2.2.2.2.2.2.2.2.2.2.2.2.2.1, h.2.2.2.2.2.2.2.2.2.2.2.2.2.2.2.2.2.1, h.2.2.2.2.2.2.2.2.2.2.2.2.2.2.2.2.2.2.1, h.2.2.2.2.2.2.2.2.2.2.2.2.2.2.2.2.2.2.2.1, h.2.2.2.2.2.2.2.2.2.2.2.2.2.2.2.2.2.2.2.2.1, h.2.2.2.2.2.2.2.2.2.2.2.2.2.2.2.2.2.2.2.2.2.1, h.2.2.2.2.2.2.2.2.2.2.2.2.2.2.2.2.2.2.2.2.2.2.1, h.2.2.2.2.2.2.2.2.2.2.2.2.2.2.2.2.2.2.2.2.2.2.2.1, h.2.2.2.2.2.2.2.2.2.2.2.2.2.2.2.2.2.2.2.2.2.2.2.2.1, h.2.2.2.2.2.2.2.2.2.2.2.2.2.2.2.2.2.2.2.2.2.2.2.2.2.1, h.2.2.2.2.2.2.2.2.2.2.2.2.2.2.2.2.2.2.2.2.2.2.2.2.2.2.1, h.2.2.2.2.2.2.2.2.2.2.2.2.2.2.2.2.2.2.2.2.2.2.2.2.2.2.2.1, h.2.2.2.2.2.2.2.2.2.2.2.2.2.2.2.2.2.2.2.2.2.2.2.2.2.2.2.2.1, h.2.2.2.2.2.2.2.2.2.2.2.2.2.2.2.2.2.2.2.2.2.2.2.2.2.2.2.2.2.1, h.2.2.2.2.2.2.2.2.2.2.2.2.2.2.2.2.2.2.2.2.2.2.2.2.2.2.2.2.2.2.1, h.2.2.2.2.2.2.2.2.2.2.2.2.2.2.2.2.2.2.2.2.2.2.2.2.2.2.2.2.2.2.2.1, h.2.2.2.2.2.2.2.2.2.2.2.2.2.2.2.2.2.2.2.2.2.2.2.2.2.2.2.2.2.2.2.2.1, h.2.2.2.2.2.2.2.2.2.2.2.2.2.2.2.2.2.2.2.2.2.2.2.2.2.2.2.2.2.2.2.2.2.1, h.2.2.2.2.2.2.2.2.2.2.2.2.2.2.2.2.2.2.2.2.2.2.2.2.2.2.2.2.2.2.2.2.2.2.1, h.2.2.2.2.2.2.2.2.2.2.2.2.2.2.2.2.2.2.2.2.2.2.2.2.2.2.2.2.2.2.2.2.2.2.2.1, h.2.2.2.2.2.2.2.2.2.2.2.2.2.2.2.2.2.2.2.2.2.2.2.2.2.2.2.2.2.2.2.2.2.2.2.2.1, h.2.2.2.2.2.2.2.2.2.2.2.2.2.2.2.2.2.2.2.2.2.2.2.2.2.2.2.2.2.2.2.2.2.2.2.2.2.1, h.2.2.2.2.2.2.2.2.2.2.2.2.2.2.2.2.2.2.2.2.2.2.2.2.2.2.2.2.2.2.2.2.2.2.2.2.2.2.1, h.2.2.2.2.2.2.2.2.2.2.2.2.2.2.2.2.2.2.2.2.2.2.2.2.2.2.2.2.2.2.2.2.2.2.2.2.2.2.2.1, h.2.2.2.2.2.2.2.2.2.2.2.2.2.2.2.2.2.2.2.2.2.2.2.2.2.2.2.2.2.2.2.2.2.2.2.2.2.2.2.2.1, h.2.2.2.2.2.2.2.2.2.2.2.2.2.2.2.2.2.2.2.2.2.2.2.2.2.2.2.2.2.2.2.2.2.2.2.2.2.2.2.2.2.1, h.2.2.2.2.2.2.2.2.2.2.2.2.2.2.2.2.2.2.2.2.2.2.2.2.2.2.2.2.2.2.2.2.2.2.2.2.2.2.2.2.2.2.1, h.2.2.2.2.2.2.2.2.2.2.2.2.2.2.2.2.2.2.2.2.2.2.2.2.2.2.2.2.2.2.2.2.2.2.2.2.2.2.2.2.2.2.2.1, h.2.2.2.2.2.2.2.2.2.2.2.2.2.2.2.2.2.2.2.2.2.2.2.2.2.2.2.2.2.2.2.2.2.2.2.2.2.2.2.2.2.2.2.2.1, h.2.2.2.2.2.2.2.2.2.2.2.2.2.2.2.2.2.2.2.2.2.2.2.2.2.2.2.2.2.2.2.2.2.2.2.2.2.2.2.2.2.2.2.2.2.1, h.2.2.2.2.2.2.2.2.2.2.2.2.2.2.2.2.2.2.2.2.2.2.2.2.2.2.2.2.2.2.2.2.2.2.2.2.2.2.2.2.2.2.2.2.2.2.1, h.2.2.2.2.2.2.2.2.2.2.2.2.2.2.2.2.2.2.2.2.2.2.2.2.2.2.2.2.2.2.2.2.2.2.2.2.2.2.2.2.2.2.2.2.2.2.2.1, h.2.2.2.2.2.2.2.2.2.2.2.2.2.2.2.2.2.2.2.2.2.2.2.2.2.2.2.2.2.2.2.2.2.2.2.2.2.2.2.2.2.2.2.2.2.2.2.2.1, h.2.2.2.2.2.2.2.2.2.2.2.2.2.2.2.2.2.2.2.2.2.2.2.2.2.2.2.2.2.2.2.2.2.2.2.2.2.2.2.2.2.2.2.2.2.2.2.2.2.1, h.2.2.2.2.2.2.2.2.2.2.2.2.2.2.2.2.2.2.2.2.2.2.2.2.2.2.2.2.2.2.2.2.2.2.2.2.2.2.2.2.2.2.2.2.2.2.2.2.2.2.1, h.2.2.2.2.2.2.2.2.2.2.2.2.2.2.2.2.2.2.2.2.2.2.2.2.2.2.2.2.2.2.2.2.2.2.2.2.2.2.2.2.2.2.2.2.2.2.2.2.2.2.2.1, h.2.2.2.2.2.2.2.2.2.2.2.2.2.2.2.2.2.2.2.2.2.2.2.2.2.2.2.2.2.2.2.2.2.2.2.2.2.2.2.2.2.2.2.2.2.2.2.2.2.2.2.2.1, h.2.2.2.2.2.2.2.2.2.2.2.2.2.2.2.2.2.2.2.2.2.2.2.2.2.2.2.2.2.2.2.2.2.2.2.2.2.2.2.2.2.2.2.2.2.2.2.2.2.2.2.2.2.1, h.2.2.2.2.2.2.2.2.2.2.2.2.2.2.2.2.2.2.2.2.2.2.2.2.2.2.2.2.2.2.2.2.2.2.2.2.2.2.2.2.2.2.2.2.2.2.2.2.2.2.2.2.2.2.1, h.2.2.2.2.2.2.2.2.2.2.2.2.2.2.2.2.2.2.2.2.2.2.2.2.2.2.2.2.2.2.2.2.2.2.2.2.2.2.2.2.2.2.2.2.2.2.2.2.2.2.2.2.2.2.2.1, h.2.2.2.2.2.2.2.2.2.2.2.2.2.2.2.2.2.2.2.2.2.2.2.2.2.2.2.2.2.2.2.2.2.2.2.2.2.2.2.2.2.2.2.2.2.2.2.2.2.2.2.2.2.2.2.2.1, h.2.2.2.2.2.2.2.2.2.2.2.2.2.2.2.2.2.2.2.2.2.2.2.2.2.2.2.2.2.2.2.2.2.2.2.2.2.2.2.2.2.2.2.2.2.2.2.2.2.2.2.2.2.2.2.2.2.1, h.2.2.2.2.2.2.2.2.2.2.2.2.2.2.2.2.2.2.2.2.2.2.2.2.2.2.2.2.2.2.2.2.2.2.2.2.2.2.2.2.2.2.2.2.2.2.2.2.2.2.2.2.2.2.2.2.2.2.1, h.2.2.2.2.2.2.2.2.2.2.2.2.2.2.2.2.2.2.2.2.2.2.2.2.2.2.2.2.2.2.2.2.2.2.2.2.2.2.2.2.2.2.2.2.2.2.2.2.2.2.2.2.2.2.2.2.2.2.2.1, h.2.2.2.2.2.2.2.2.2.2.2.2.2.2.2.2.2.2.2.2.2.2.2.2.2.2.2.2.2.2.2.2.2.2.2.2.2.2.2.2.2.2.2.2.2.2.2.2.2.2.2.2.2.2.2.2.2.2.2.2.1, h.2.2.2.2.2.2.2.2.2.2.2.2.2.2.2.2.2.2.2.2.2.2.2.2.2.2.2.2.2.2.2.2.2.2.2.2.2.2.2.2.2.2.2.2.2.2.2.2.2.2.2.2.2.2.2.2.2.2.2.2.2.1, h.2.2.2.2.2.2.2.2.2.2.2.2.2.2.2.2.2.2.2.2.2.2.2.2.2.2.2.2.2.2.2.2.2.2.2.2.2.2.2.2.2.2.2.2.2.2.2.2.2.2.2.2.2.2.2.2.2.2.2.2.2.2⟩
theorem Km7_A3 {u v : St} (h : Km7 u v) : fA v 3 = fA u 3 := h.2.2.2.2.2.2.2.2.2.2.2.2.2.2.2.2.2.2.2.2.2.2.2.2.2.1
theorem Km6_to_Km7 {u v : St} (h : Km6 u v) : Km7 u v := ⟨h.1, h.2.1, h.2.2.1, h.2.2.2.1, h.2.2.2.2.1, h.2.2.2.2.2.1, h.2.2.2.2.2.2.1, h.2.2.2.2.2.2.2.1, h.2.2.2.2.2.2.2.2.1, h.2.2.2.2.2.2.2.2.2.1, h.2.2.2.2.2.2.2.2.2.2.1, h.2.2.2.2.2.2.2.2.2.2.2.1, h.2.2.2.2.2.2.2.2.2.2.2.2.1, h.2.2.2.2.2.2.2.2.2.2.2.2.2.1, h.2.2.2.2.2.2.2.2.2.2.2.2.2.2.1, h.2.2.2.2.2.2.2.2.2.2.2.2.2.2.2.1, h.2.2.2.2.2.2.2.2.2.2.2.2.2.2.2.2.1, h.2.2.2.2.2.2.2.2.2.2.2.2.2.2.2.2.2.1, h.2.2.2.2.2.2.2.2.2.2.2.2.2.2.2.2.2.2.1, h.2.2.2.2.2.2.2.2.2.2.2.2.2.2.2.2.2.2.2.1, h.2.2.2.2.2.2.2.2.2.2.2.2.2.2.2.2.2.2.2.2.1, h.2.2.2.2.2.2.2.2.2.2.2.2.2.2.2.2.2.2.2.2.2.1, h.2.2.2.2.2.2.2.2.2.2.2.2.2.2.2.2.2.2.2.2.2.2.1, h.2.2.2.2.2.2.2.2.2.2.2.2.2.2.2.2.2.2.2.2.2.2.2.1, h.2.2.2.2.2.2.2.2.2.2.2.2.2.2.2.2.2.2.2.2.2.2.2.2.1, h.2.2.2.2.2.2.2.2.2.2.2.2.2.2.2.2.2.2.2.2.2.2.2.2.2.1, h.2.2.2.2.2.2.2.2.2.2.2.2.2.2.2.2.2.2.2.2.2.2.2.2.2.2.1, h.2.2.2.2.2.2.2.2.2.2.2.2.2.2.2.2.2.2.2.2.2.2.2.2.2.2.2.1, h.2.2.2.2.2.2.2.2.2.2.2.2.2.2.2.2.2.2.2.2.2.2.2.2.2.2.2.2.1, h.2.2.2.2.2.2.2.2.2.2.2.2.2.2.2.2.2.2.2.2.2.2.2.2.2.2.2.2.2.1, h.2.2.2.2.2.2.2.2.2.2.2.2.2.2.2.2.2.2.2.2.2.2.2.2.2.2.2.2.2.2.1, h.2.2.2.2.2.2.2.2.2.2.2.2.2.2.2.2.2.2.2.2.2.2.2.2.2.2.2.2.2.2.2.1, h.2.2.2.2.2.2.2.2.2.2.2.2.2.2.2.2.2.2.2.2.2.2.2.2.2.2.2.2.2.2.2.2.1, h.2.2.2.2.2.2.2.2.2.2.2.2.2.2.2.2.2.2.2.2.2.2.2.2.2.2.2.2.2.2.2.2.2.1, h.2.2.2.2.2.2.2.2.2.2.2.2.2.2.2.2.2.2.2.2.2.2.2.2.2.2.2.2.2.2.2.2.2.2.1, h.2.2.2.2.2.2.2.2.2.2.2.2.2.2.2.2.2.2.2.2.2.2.2.2.2.2.2.2.2.2.2.2.2.2.2.1, h.2.2.2.2.2.2.2.2.2.2.2.2.2.2.2.2.2.2.2.2.2.2.2.2.2.2.2.2.2.2.2.2.2.2.2.2.1, h.2.2.2.2.2.2.2.2.2.2.2.2.2.2.2.2.2.2.2.2.2.2.2.2.2.2.2.2.2.2.2.2.2.2.2.2.2.1, h.2.2.2.2.2.2.2.2.2.2.2.2.2.2.2.2.2.2.2.2.2.2.2.2.2.2.2.2.2.2.2.2.2.2.2.2.2.2.1, h.2.2.2.2.2.2.2.2.2.2.2.2.2.2.2.2.2.2.2.2.2.2.2.2.2.2.2.2.2.2.2.2.2.2.2.2.2.2.2.1, h.2.2.2.2.2.2.2.2.2.2.2.2.2.2.2.2.2.2.2.2.2.2.2.2.2.2.2.2.2.2.2.2.2.2.2.2.2.2.2.2.1, h.2.2.2.2.2.2.2.2.2.2.2.2.2.2.2.2.2.2.2.2.2.2.2.2.2.2.2.2.2.2.2.2.2.2.2.2.2.2.2.2.2.1, h.2.2.2.2.2.2.2.2.2.2.2.2.2.2.2.2.2.2.2.2.2.2.2.2.2.2.2.2.2.2.2.2.2.2.2.2.2.2.2.2.2.2.1, h.2.2.2.2.2.2.2.2.2.2.2.2.2.2.2.2.2.2.2.2.2.2.2.2.2.2.2.2.2.2.2.2.2.2.2.2.2.2.2.2.2.2.2.1, h.2.2.2.2.2.2.2.2.2.2.2.2.2.2.2.2.2.2.2.2.2.2.2.2.2.2.2.2.2.2.2.2.2.2.2.2.2.2.2.2.2.2.2.2.1, h.2.2.2.2.2.2.2.2.2.2.2.2.2.2.2.2.2.2.2.2.2.2.2.2.2.2.2.2.2.2.2.2.2.2.2.2.2.2.2.2.2.2.2.2.2.1, h.2.2.2.2.2.2.2.2.2.2.2.2.2.2.2.2.2.2.2.2.2.2.2.2.2.2.2.2.2.2.2.2.2.2.2.2.2.2.2.2.2.2.2.2.2.2.1, h.2.2.2.2.2.2.2.2.2.2.2.2.2.2.2.2.2.2.2.2.2.2.2.2.2.2.2.2.2.2.2.2.2.2.2.2.2.2.2.2.2.2.2.2.2.2.2.1, h.2.2.2.2.2.2.2.2.2.2.2.2.2.2.2.2.2.2.2.2.2.2.2.2.2.2.2.2.2.2.2.2.2.2.2.2.2.2.2.2.2.2.2.2.2.2.2.2.1, h.2.2.2.2.2.2.2.2.2.2.2.2.2.2.2.2.2.2.2.2.2.2.2.2.2.2.2.2.2.2.2.2.2.2.2.2.2.2.2.2.2.2.2.2.2.2.2.2.2.1, h.2.2.2.2.2.2.2.2.2.2.2.2.2.2.2.2.2.2.2.2.2.2.2.2.2.2.2.2.2.2.2.2.2.2.2.2.2.2.2.2.2.2.2.2.2.2.2.2.2.2.2.1, h.2.2.2.2.2.2.2.2.2.2.2.2.2.2.2.2.2.2.2.2.2.2.2.2.2.2.2.2.2.2.2.2.2.2.2.2.2.2.2.2.2.2.2.2.2.2.2.2.2.2.2.2.1, h.2.2.2.2.2.2.2.2.2.2.2.2.2.2.2.2.2.2.2.2.2.2.2.2.2.2.2.2.2.2.2.2.2.2.2.2.2.2.2.2.2.2.2.2.2.2.2.2.2.2.2.2.2.1, h.2.2.2.2.2.2.2.2.2.2.2.2.2.2.2.2.2.2.2.2.2.2.2.2.2.2.2.2.2.2.2.2.2.2.2.2.2.2.2.2.2.2.2.2.2.2.2.2.2.2.2.2.2.2.1, h.2.2.2.2.2.2.2.2.2.2.2.2.2.2.2.2.2.2.2.2.2.2.2.2.2.2.2.2.2.2.2.2.2.2.2.2.2.2.2.2.2.2.2.2.2.2.2.2.2.2.2.2.2.2.2.1, h.2.2.2.2.2.2.2.2.2.2.2.2.2.2.2.2.2.2.2.2.2.2.2.2.2.2.2.2.2.2.2.2.2.2.2.2.2.2.2.2.2.2.2.2.2.2.2.2.2.2.2.2.2.2.2.2.1, h.2.2.2.2.2.2.2.2.2.2.2.2.2.2.2.2.2.2.2.2.2.2.2.2.2.2.2.2.2.2.2.2.2.2.2.2.2.2.2.2.2.2.2.2.2.2.2.2.2.2.2.2.2.2.2.2.2.1, h.2.2.2.2.2.2.2.2.2.2.2.2.2.2.2.2.2.2.2.2.2.2.2.2.2.2.2.2.2.2.2.2.2.2.2.2.2.2.2.2.2.2.2.2.2.2.2.2.2.2.2.2.2.2.2.2.2.2.1, h.2.2.2.2.2.2.2.2.2.2.2.2.2.2.2.2.2.2.2.2.2.2.2.2.2.2.2.2.2.2.2.2.2.2.2.2.2.2.2.2.2.2.2.2.2.2.2.2.2.2.2.2.2.2.2.2.2.2.2.1, h.2.2.2.2.2.2.2.2.2.2.2.2.2.2.2.2.2.2.2.2.2.2.2.2.2.2.2.2.2.2.2.2.2.2.2.2.2.2.2.2.2.2.2.2.2.2.2.2.2.2.2.2.2.2.2.2.2.2.2.2.1, h.2.2.2.2.2.2.2.2.2.2.2.2.2.2.2.2.2.2.2.2.2.2.2.2.2.2.2.2.2.2.2.2.2.2.2.2.2.2.2.2.2.2.2.2.2.2.2.2.2.2.2.2.2.2.2.2.2.2.2.2.2.1, h.2.2.2.2.2.2.2.2.2.2.2.2.2.2.2.2.2.2.2.2.2.2.2.2.2.2.2.2.2.2.2.2.2.2.2.2.2.2.2.2.2.2.2.2.2.2.2.2.2.2.2.2.2.2.2.2.2.2.2.2.2.2.1, h.2.2.2.2.2.2.2.2.2.2.2.2.2.2.2.2.2.2.2.2.2.2.2.2.2.2.2.2.2.2.2.2.2.2.2.2.2.2.2.2.2.2.2.2.2.2.2.2.2.2.2.2.2.2.2.2.2.2.2.2.2.2.2⟩
set_option maxHeartbeats 4000000 in
set_option maxRecDepth 100000 in
theorem T_X11_bridge (l : Launch) (D : va_G) (cy : Nat → ClassId) (a : Nat → Nat) (u : St) (hJ : MI a u) (x1 : Int32)  : Mi l D cy (mW cy a) yX11_bridge (.code yX11_bridge cX11_bridge 6 (some .int)) (rmo 4 93) [.ref (a 0), .int x1] u (fun (r : Int32) (u' : St) => (MI a u') ∧ (Km7 u u')) := by
  refine Mi.of (own := RX11) rfl (by decide) (Nat.le_of_ble_eq_true rfl) ?_
  have hT : Km7 u u := Km7.rf
  have hJ0 := hJ
  intro p e s m below meth c A Q ls C hret hO hl
  obtain ⟨hx, hb, hml, hown, ht, hK, hA⟩ := id C
  have hl : lv_has ls 6 [(0, .ref (a 0)), (1, .int x1)] := hl
  refine lv_iload_n hx hb dX11_bridge_0 rfl (lv_at hl 1 rfl) ?_
  refine lv_iconst (v := 0) hx hb dX11_bridge_1 (by decide) ?_
  refine lv_iconst (v := 1) hx hb dX11_bridge_2 (by decide) ?_
  refine cSi (w := mW cy a) (As := [.int x1, .int 0, .int 1]) (rest := []) C hO (T_X11_isIn l D cy a _ (by exact hJ) (x1) (0) (1)) (va_cwS 3 ht (gSS wd_1722 wd_1723 wd_121 wd_1724) rfl rfl rfl hd_yX11_isIn ⟨Nat.le_of_ble_eq_true rfl, Nat.le_of_ble_eq_true rfl⟩)  rfl hl.1 (Nat.le_of_ble_eq_true rfl) dX11_bridge_3 rfl ⟨Nat.zero_le _, Nat.zero_le _⟩ (fun r1 u2 H locs hp3 hO => ?_)
  obtain ⟨hr1, hu2⟩ := hp3
  rw [hu2] at hO
  have zz4 : (0 : Int32).toInt = 0 := rfl
  have zz5 : (1 : Int32).toInt = 1 := rfl
  rcases hr1 with ⟨hcr1, hvr1⟩ | ⟨hcr1, hvr1⟩
  · subst hvr1
    refine bt_ne (tgt := 11) (X := 1) hx hb dX11_bridge_6 (by decide) rfl (by omega) ?_
    refine lv_iconst (v := (-1)) hx hb dX11_bridge_11 (by decide) ?_
    refine lv_istore_n (lv' := [(2, .int (-1)), (0, .ref (a 0)), (1, .int x1)]) hx hb dX11_bridge_12 rfl hl (by decide) rfl (fun ls hl => ?_)
    refine lv_sipush (v := 1000) hx hb dX11_bridge_13 (by decide) ?_
    refine lv_istore_n (lv' := [(3, .int 1000), (2, .int (-1)), (0, .ref (a 0)), (1, .int x1)]) hx hb dX11_bridge_16 rfl hl (by decide) rfl (fun ls hl => ?_)
    refine lv_iconst (v := 0) hx hb dX11_bridge_17 (by decide) ?_
    refine lv_istore (lv' := [(4, .int 0), (3, .int 1000), (2, .int (-1)), (0, .ref (a 0)), (1, .int x1)]) hx hb dX11_bridge_18 hl (by decide) rfl (fun ls hl => ?_)
    have LP_20_k7 : ∀ (n : Nat) (u6 : St) (H : Heap) (locs : List Loc) (ls : Array Slot) (i_k7 : Int32) (w3_k7 : Int32) (w2_k7 : Int32), Wo D A (mW cy a u6) s.heap H locs → lv_has ls 6 [(4, .int i_k7), (3, .int w3_k7), (2, .int w2_k7), (0, .ref (a 0)), (1, .int x1)] → MI a u6 → Km7 u u6 → 0 ≤ i_k7.toInt ∧ i_k7.toInt ≤ 14 → 14 - i_k7.toInt < (n : Int) → W p l e (rmo 4 93) s m [.ref (a 0), .int x1].toArray below meth c H locs 0 0 Q (F0 m 20 ls []) := by
      intro n
      induction n with
      | zero =>
        intro u6 H locs ls i_k7 w3_k7 w2_k7 hO hl hJ hT iv0_k7 hm_k7
        exact absurd hm_k7 (by omega)
      | succ n ih_k7 =>
        intro u6 H locs ls i_k7 w3_k7 w2_k7 hO hl hJ hT iv0_k7 hm_k7
        refine lv_iload hx hb dX11_bridge_20 (lv_at hl 0 rfl) ?_
        refine lv_aload_n hx hb dX11_bridge_22 rfl (lv_at hl 3 rfl) ?_
        refine gf_RX11_24 (v := .ref (a 4)) C hO 0 mW_0 rfl dX11_bridge_23 ?_
        refine lv_aload_n hx hb dX11_bridge_26 rfl (lv_at hl 3 rfl) ?_
        have g8 : 0 ≤ (fI u 0 36).toInt ∧ (fI u 0 36).toInt ≤ 1 := by have h := MI_36 hJ0; exact h
        refine gf_RX11_255 (v := .int (fI u 0 36)) C hO 0 mW_0 (congrArg (fun z : Int32 => some (Value.int z)) (Km7_I36 hT)) dX11_bridge_27 ?_
        refine aI C hO 4 mW_4 (i_in (X := ((fI u 0 36)).toInt) rfl (by omega) (by omega)) dX11_bridge_30 ?_
        have g9 : 0 ≤ (fA u 4 ((fI u 0 36)).toNatClampNeg).toInt ∧ (fA u 4 ((fI u 0 36)).toNatClampNeg).toInt ≤ 14 := by have h := MI_A4 hJ0 ((fI u 0 36)).toNatClampNeg; exact h
        refine tE (y := (fA u 4 ((fI u 0 36)).toNatClampNeg)) (by exact (congrFun (Km7_A4 hT) _)) ?_
        refine cs_ge (tgt := 112) (X := (i_k7).toInt) (Y := ((fA u 4 ((fI u 0 36)).toNatClampNeg)).toInt) hx hb dX11_bridge_31 (by decide) rfl rfl (fun c10 => ?_) (fun c10 => ?_)
        · refine lv_iload_n hx hb dX11_bridge_112 rfl (lv_at hl 2 rfl) ?_
          refine bs_ge (tgt := 120) (X := (w2_k7).toInt) hx hb dX11_bridge_113 (by decide) rfl (fun c11 => ?_) (fun c11 => ?_)
          · refine lv_iload_n hx hb dX11_bridge_120 rfl (lv_at hl 4 rfl) ?_
            refine bs_ne (tgt := 128) (X := (x1).toInt) hx hb dX11_bridge_121 (by decide) rfl (fun c12 => ?_) (fun c12 => ?_)
            · refine lv_iload_n hx hb dX11_bridge_128 rfl (lv_at hl 1 rfl) ?_
              refine hret _ _ _ _ _ _ dX11_bridge_129 rfl ?_ hO
              exact ⟨hJ, hT⟩
            · refine lv_iload_n hx hb dX11_bridge_124 rfl (lv_at hl 2 rfl) ?_
              refine lv_goto (tgt := 129) hx hb dX11_bridge_125 (by decide) ?_
              refine hret _ _ _ _ _ _ dX11_bridge_129 rfl ?_ hO
              exact ⟨hJ, hT⟩
          · refine lv_iconst (v := (-1)) hx hb dX11_bridge_116 (by decide) ?_
            refine lv_goto (tgt := 129) hx hb dX11_bridge_117 (by decide) ?_
            refine hret _ _ _ _ _ _ dX11_bridge_129 rfl ?_ hO
            exact ⟨hJ, hT⟩
        · refine lv_aload_n hx hb dX11_bridge_34 rfl (lv_at hl 3 rfl) ?_
          refine gf_RX11_97 (v := .ref (a 28)) C hO 0 mW_0 rfl dX11_bridge_35 ?_
          refine lv_bipush (v := 28) hx hb dX11_bridge_38 (by decide) ?_
          refine aI C hO 28 mW_28 (i_in (X := 28) rfl (by omega) (by omega)) dX11_bridge_40 ?_
          refine tE (y := (fA u6 28 28)) (by exact rfl) ?_
          refine lv_iload hx hb dX11_bridge_41 (lv_at hl 0 rfl) ?_
          refine cSi (w := mW cy a) (As := [.int (fA u6 28 28), .int i_k7]) (rest := []) C hO (T_X11_bit l D cy a _ (by exact hJ) ((fA u6 28 28)) (i_k7)) (va_cwS 2 ht (gSS wd_1612 wd_1613 wd_121 wd_1614) rfl rfl rfl hd_yX11_bit ⟨Nat.le_of_ble_eq_true rfl, Nat.le_of_ble_eq_true rfl⟩)  rfl hl.1 (Nat.le_of_ble_eq_true rfl) dX11_bridge_43 rfl ⟨Nat.zero_le _, Nat.zero_le _⟩ (fun r13 u14 H locs hp15 hO => ?_)
          obtain ⟨hr13, hu14⟩ := hp15
          rw [hu14] at hO
          obtain ⟨hr13, hbr13⟩ := hr13
          have gr13 : 0 ≤ r13.toInt ∧ r13.toInt ≤ 1 := by rcases hr13 with h | h <;> rw [h] <;> decide
          refine bs_eq (tgt := 52) (X := (r13).toInt) hx hb dX11_bridge_46 (by decide) rfl (fun c16 => ?_) (fun c16 => ?_)
          · refine lv_aload_n hx hb dX11_bridge_52 rfl (lv_at hl 3 rfl) ?_
            refine gf_RX11_97 (v := .ref (a 28)) C hO 0 mW_0 rfl dX11_bridge_53 ?_
            refine lv_bipush (v := 28) hx hb dX11_bridge_56 (by decide) ?_
            refine lv_dup2_11 hx hb dX11_bridge_58 rfl rfl ?_
            refine aI C hO 28 mW_28 (i_in (X := 28) rfl (by omega) (by omega)) dX11_bridge_59 ?_
            refine tE (y := (fA u6 28 28)) (by exact rfl) ?_
            refine lv_iconst (v := 1) hx hb dX11_bridge_60 (by decide) ?_
            refine lv_iload hx hb dX11_bridge_61 (lv_at hl 0 rfl) ?_
            refine lv_ishl hx hb dX11_bridge_63 ?_
            refine lv_topi (fun z17 ez17 => ?_)
            have g18 : 0 ≤ z17.toInt ∧ z17.toInt ≤ 2 ^ 13 := by rw [ez17]; exact i_shl1 rfl (by omega) (by omega) (by decide)
            refine lv_ior hx hb dX11_bridge_64 ?_
            refine lv_topi (fun z19 ez19 => ?_)
            refine aIs C hO 28 mW_28 (i_in (X := 28) rfl (by omega) (by omega)) mW_s28 dX11_bridge_65 (fun H locs hO => ?_)
            have hT := Km7_wA28 hO hT
            have hJ := MIsA_28 hO hJ (Or.inl (i_ck (X := 28) rfl (by omega) (by omega)))
            refine lv_aload_n hx hb dX11_bridge_66 rfl (lv_at hl 3 rfl) ?_
            have g20 : 0 ≤ (fA u 3 ((fI u 0 36)).toNatClampNeg).toInt ∧ (fA u 3 ((fI u 0 36)).toNatClampNeg).toInt ≤ 8 := by have h := MI_A3 hJ0 ((fI u 0 36)).toNatClampNeg; exact h
            refine cVi (w := mW cy a) (As := []) (rest := []) C hO (T_X11_reached l D cy a _ (by exact hJ) ((fA u 3 ((fI u 0 36)).toNatClampNeg)) (by exact (Eq.trans (congrArg (fun z : Int32 => fA _ 3 z.toNatClampNeg) (Km7_I36 hT)) (congrFun (Km7_A3 hT) _)))) (cwV 0 ht (gV wd_1944 wd_1946 wd_103 wd_121 wd_1947) rfl rfl rfl hd_yX11_reached ⟨Nat.le_of_ble_eq_true rfl, Nat.le_of_ble_eq_true rfl⟩) 0 rfl mW_0 rfl rfl hl.1 (Nat.le_of_ble_eq_true rfl) dX11_bridge_67 rfl ⟨Nat.zero_le _, Nat.zero_le _⟩ (fun r21 u22 H locs hp23 hO => ?_)
            obtain ⟨hr21, hJ, hTu22⟩ := hp23
            have hT : Km7 u u22 := Km7.tr (by exact hT) (Km6_to_Km7 hTu22)
            refine cSi (w := mW cy a) (As := [.int r21]) (rest := []) C hO (T_X11_bitsOf_8 l D cy a _ (by exact hJ) (r21) (by first | omega | decide)) (va_cwS 1 ht (gSS wd_1663 wd_1664 wd_121 wd_1665) rfl rfl rfl hd_yX11_bitsOf ⟨Nat.le_of_ble_eq_true rfl, Nat.le_of_ble_eq_true rfl⟩)  rfl hl.1 (Nat.le_of_ble_eq_true rfl) dX11_bridge_70 rfl ⟨Nat.zero_le _, Nat.zero_le _⟩ (fun r24 u25 H locs hp26 hO => ?_)
            obtain ⟨hr24, hu25⟩ := hp26
            rw [hu25] at hO
            have gpr24 := pc8_b (x := (r21 : Int32).toInt) (by omega) (by omega)
            have gr24 : 0 ≤ r24.toInt ∧ r24.toInt ≤ 8 := by omega
            refine lv_istore (lv' := [(5, .int r24), (4, .int i_k7), (3, .int w3_k7), (2, .int w2_k7), (0, .ref (a 0)), (1, .int x1)]) hx hb dX11_bridge_73 hl (by decide) rfl (fun ls hl => ?_)
            refine lv_aload_n hx hb dX11_bridge_75 rfl (lv_at hl 4 rfl) ?_
            refine gf_RX11_97 (v := .ref (a 28)) C hO 0 mW_0 rfl dX11_bridge_76 ?_
            refine lv_bipush (v := 28) hx hb dX11_bridge_79 (by decide) ?_
            refine lv_dup2_11 hx hb dX11_bridge_81 rfl rfl ?_
            refine aI C hO 28 mW_28 (i_in (X := 28) rfl (by omega) (by omega)) dX11_bridge_82 ?_
            refine tE (y := (fA u22 28 28)) (by exact rfl) ?_
            refine lv_iconst (v := 1) hx hb dX11_bridge_83 (by decide) ?_
            refine lv_iload hx hb dX11_bridge_84 (lv_at hl 1 rfl) ?_
            refine lv_ishl hx hb dX11_bridge_86 ?_
            refine lv_topi (fun z27 ez27 => ?_)
            have g28 : 0 ≤ z27.toInt ∧ z27.toInt ≤ 2 ^ 13 := by rw [ez27]; exact i_shl1 rfl (by omega) (by omega) (by decide)
            refine lv_iconst (v := (-1)) hx hb dX11_bridge_87 (by decide) ?_
            refine lv_ixor hx hb dX11_bridge_88 ?_
            refine lv_topi (fun z29 ez29 => ?_)
            refine lv_iand hx hb dX11_bridge_89 ?_
            refine lv_topi (fun z30 ez30 => ?_)
            refine aIs C hO 28 mW_28 (i_in (X := 28) rfl (by omega) (by omega)) mW_s28 dX11_bridge_90 (fun H locs hO => ?_)
            have hT := Km7_wA28 hO hT
            have hJ := MIsA_28 hO hJ (Or.inl (i_ck (X := 28) rfl (by omega) (by omega)))
            refine lv_iload hx hb dX11_bridge_91 (lv_at hl 0 rfl) ?_
            refine lv_iload_n hx hb dX11_bridge_93 rfl (lv_at hl 2 rfl) ?_
            refine cs_lt (tgt := 100) (X := (r24).toInt) (Y := (w3_k7).toInt) hx hb dX11_bridge_94 (by decide) rfl rfl (fun c31 => ?_) (fun c31 => ?_)
            · refine lv_iload hx hb dX11_bridge_100 (lv_at hl 1 rfl) ?_
              refine lv_istore_n (lv' := [(2, .int i_k7), (5, .int r24), (4, .int i_k7), (3, .int w3_k7), (0, .ref (a 0)), (1, .int x1)]) hx hb dX11_bridge_102 rfl hl (by decide) rfl (fun ls hl => ?_)
              refine lv_iload hx hb dX11_bridge_103 (lv_at hl 1 rfl) ?_
              refine lv_istore_n (lv' := [(3, .int r24), (2, .int i_k7), (5, .int r24), (4, .int i_k7), (0, .ref (a 0)), (1, .int x1)]) hx hb dX11_bridge_105 rfl hl (by decide) rfl (fun ls hl => ?_)
              obtain ⟨z32, ez32⟩ : ∃ z : Int32, z = i_k7 + Int32.ofInt 1 := ⟨_, rfl⟩
              have e33 : z32.toInt = (i_k7).toInt + 1 := by rw [ez32]; exact i_add rfl rfl (by omega)
              refine lv_iinc (v := z32) (lv' := [(4, .int z32), (3, .int r24), (2, .int i_k7), (5, .int r24), (0, .ref (a 0)), (1, .int x1)]) hx hb dX11_bridge_106 hl (k := 3) rfl ez32.symm (by decide) rfl (fun ls hl => ?_)
              refine lv_goto (tgt := 20) hx hb dX11_bridge_109 (by decide) ?_
              exact ih_k7 _ _ _ _ (z32) (r24) (i_k7) hO (lv_sub hl [0, 1, 2, 4, 5] rfl) (by exact hJ) (by exact hT) (by first | decide | omega) (by first | decide | omega)
            · refine lv_goto (tgt := 106) hx hb dX11_bridge_97 (by decide) ?_
              obtain ⟨z34, ez34⟩ : ∃ z : Int32, z = i_k7 + Int32.ofInt 1 := ⟨_, rfl⟩
              have e35 : z34.toInt = (i_k7).toInt + 1 := by rw [ez34]; exact i_add rfl rfl (by omega)
              refine lv_iinc (v := z34) (lv' := [(4, .int z34), (5, .int r24), (3, .int w3_k7), (2, .int w2_k7), (0, .ref (a 0)), (1, .int x1)]) hx hb dX11_bridge_106 hl (k := 1) rfl ez34.symm (by decide) rfl (fun ls hl => ?_)
              refine lv_goto (tgt := 20) hx hb dX11_bridge_109 (by decide) ?_
              exact ih_k7 _ _ _ _ (z34) (w3_k7) (w2_k7) hO (lv_sub hl [0, 2, 3, 4, 5] rfl) (by exact hJ) (by exact hT) (by first | decide | omega) (by first | decide | omega)
          · refine lv_goto (tgt := 106) hx hb dX11_bridge_49 (by decide) ?_
            obtain ⟨z36, ez36⟩ : ∃ z : Int32, z = i_k7 + Int32.ofInt 1 := ⟨_, rfl⟩
            have e37 : z36.toInt = (i_k7).toInt + 1 := by rw [ez36]; exact i_add rfl rfl (by omega)
            refine lv_iinc (v := z36) (lv' := [(4, .int z36), (3, .int w3_k7), (2, .int w2_k7), (0, .ref (a 0)), (1, .int x1)]) hx hb dX11_bridge_106 hl (k := 0) rfl ez36.symm (by decide) rfl (fun ls hl => ?_)
            refine lv_goto (tgt := 20) hx hb dX11_bridge_109 (by decide) ?_
            exact ih_k7 _ _ _ _ (z36) (w3_k7) (w2_k7) hO (lv_sub hl [0, 1, 2, 3, 4] rfl) (by exact hJ) (by exact hT) (by first | decide | omega) (by first | decide | omega)
    have zc38 : ((-1) : Int32).toInt = (-1) := rfl
    have zc39 : (0 : Int32).toInt = 0 := rfl
    have zc40 : (1000 : Int32).toInt = 1000 := rfl
    exact LP_20_k7 4000 _ _ _ _ (0) (1000) ((-1)) hO (lv_sub hl [0, 1, 2, 3, 4] rfl) (by exact hJ) (by exact hT) (by first | decide | omega) (by first | decide | omega)
  · subst hvr1
    refine bn_ne (X := 0) hx hb dX11_bridge_6 rfl (by omega) ?_ (tgt := 11) (by decide)
    refine lv_iconst (v := (-1)) hx hb dX11_bridge_9 (by decide) ?_
    refine hret _ _ _ _ _ _ dX11_bridge_10 rfl ?_ hO
    exact ⟨hJ, hT⟩
theorem dX11_inOrder_0 : decode cX11_inOrder 0 = .ok (.iload_n 1, 1) := by decide +kernel
theorem dX11_inOrder_1 : decode cX11_inOrder 1 = .ok (.aload_n 0, 1) := by decide +kernel
theorem dX11_inOrder_2 : decode cX11_inOrder 2 = .ok (.invokevirtual 371, 3) := by decide +kernel
theorem dX11_inOrder_5 : decode cX11_inOrder 5 = .ok (.iload_n 2, 1) := by decide +kernel
theorem dX11_inOrder_6 : decode cX11_inOrder 6 = .ok (.iconst 1, 1) := by decide +kernel
theorem dX11_inOrder_7 : decode cX11_inOrder 7 = .ok (.isub, 1) := by decide +kernel
theorem dX11_inOrder_8 : decode cX11_inOrder 8 = .ok (.iload_n 3, 1) := by decide +kernel
theorem dX11_inOrder_9 : decode cX11_inOrder 9 = .ok (.isub, 1) := by decide +kernel
theorem dX11_inOrder_10 : decode cX11_inOrder 10 = .ok (.invokestatic 472, 3) := by decide +kernel
theorem dX11_inOrder_13 : decode cX11_inOrder 13 = .ok (.idiv, 1) := by decide +kernel
theorem dX11_inOrder_14 : decode cX11_inOrder 14 = .ok (.aload_n 0, 1) := by decide +kernel
theorem dX11_inOrder_15 : decode cX11_inOrder 15 = .ok (.invokevirtual 371, 3) := by decide +kernel
theorem dX11_inOrder_18 : decode cX11_inOrder 18 = .ok (.irem, 1) := by decide +kernel
theorem dX11_inOrder_19 : decode cX11_inOrder 19 = .ok (.ireturn, 1) := by decide +kernel
theorem wd_1966 : (Cond.code ⟨"WebCourtModel", "inOrder", "(III)I"⟩ prog_13_method_106_code (4 : Nat) (Option.some FieldType.int)) ∈ gtb := gtb_c8 177 (by decide +kernel) rfl
theorem wd_1956 : (Cond.methodLink "WebCourtModel" (472 : Nat) ⟨"WebCourtModel", "power", "(II)I"⟩) ∈ gtb := gtb_c8 167 (by decide +kernel) rfl
theorem wd_1957 : (Cond.static ⟨"WebCourtModel", "power", "(II)I"⟩) ∈ gtb := gtb_c8 168 (by decide +kernel) rfl
theorem hd_yX11_power : yX11_power.cls ≠ "java/lang/invoke/MethodHandle" ∧ yX11_power.cls ≠ "java/lang/invoke/VarHandle" ∧ (parseMethodDescriptor yX11_power.desc).map (fun d => d.parameters.length) = some 2 := by decide +kernel
set_option maxHeartbeats 4000000 in
set_option maxRecDepth 100000 in
theorem T_X11_inOrder (l : Launch) (D : va_G) (cy : Nat → ClassId) (a : Nat → Nat) (u : St) (hJ : MI a u) (gm : Int32) (hgm : fA u 6 (fI u 0 36).toNatClampNeg = gm) (x1 : Int32) (x2 : Int32) (x3 : Int32) (hx_x1 : 0 ≤ x1.toInt ∧ x1.toInt ≤ 2147483647) (hx_x2 : 1 ≤ x2.toInt ∧ x2.toInt ≤ 6) (hx_x3 : 0 ≤ x3.toInt ∧ x3.toInt ≤ 5) (hrel : x3.toInt < x2.toInt) (hg : 1 ≤ gm.toInt) : Mi l D cy (mW cy a) yX11_inOrder (.code yX11_inOrder cX11_inOrder 4 (some .int)) (rmo 1 23) [.ref (a 0), .int x1, .int x2, .int x3] u (fun (r : Int32) (u' : St) => (0 ≤ r.toInt ∧ r.toInt ≤ 5) ∧ (u' = u)) := by
  refine Mi.of (own := RX11) rfl (by decide) (Nat.le_of_ble_eq_true rfl) ?_
  have hT : Km0 u u := Km0.rf
  have hJ0 := hJ
  intro p e s m below meth c A Q ls C hret hO hl
  obtain ⟨hx, hb, hml, hown, ht, hK, hA⟩ := id C
  have hl : lv_has ls 4 [(0, .ref (a 0)), (1, .int x1), (2, .int x2), (3, .int x3)] := hl
  refine lv_iload_n hx hb dX11_inOrder_0 rfl (lv_at hl 1 rfl) ?_
  refine lv_aload_n hx hb dX11_inOrder_1 rfl (lv_at hl 0 rfl) ?_
  have g1 : 0 ≤ (fI u 0 36).toInt ∧ (fI u 0 36).toInt ≤ 1 := by have h := MI_36 hJ0; exact h
  have g2 : 0 ≤ gm.toInt ∧ gm.toInt ≤ 6 := by have h := MI_A6 hJ0 (fI u 0 36).toNatClampNeg; rw [hgm] at h; exact h
  refine cVi (w := mW cy a) (As := []) (rest := [.int x1]) C hO (T_X11_many l D cy a _ (by exact hJ) (gm) (by exact hgm)) (cwV 0 ht (gV wd_1348 wd_1350 wd_46 wd_121 wd_1351) rfl rfl rfl hd_yX11_many ⟨Nat.le_of_ble_eq_true rfl, Nat.le_of_ble_eq_true rfl⟩) 0 rfl mW_0 rfl rfl hl.1 (Nat.le_of_ble_eq_true rfl) dX11_inOrder_2 rfl ⟨Nat.zero_le _, Nat.zero_le _⟩ (fun r3 u4 H locs hp5 hO => ?_)
  obtain ⟨hr3, hu4⟩ := hp5
  refine tE hr3 ?_
  rw [hu4] at hO
  refine lv_iload_n hx hb dX11_inOrder_5 rfl (lv_at hl 2 rfl) ?_
  refine lv_iconst (v := 1) hx hb dX11_inOrder_6 (by decide) ?_
  refine lv_isub hx hb dX11_inOrder_7 ?_
  refine lv_topi (fun z6 ez6 => ?_)
  have e7 : z6.toInt = (x2).toInt - 1 := by rw [ez6]; exact i_sub rfl rfl (by omega)
  refine lv_iload_n hx hb dX11_inOrder_8 rfl (lv_at hl 3 rfl) ?_
  refine lv_isub hx hb dX11_inOrder_9 ?_
  refine lv_topi (fun z8 ez8 => ?_)
  have e9 : z8.toInt = ((x2).toInt - 1) - (x3).toInt := by rw [ez8]; exact i_sub e7 rfl (by omega)
  refine cSi (w := mW cy a) (As := [.int gm, .int z8]) (rest := [.int x1]) C hO (T_X11_power_6 l D cy a _ (by exact hJ) (gm) (z8) (by first | omega | decide) (by first | omega | decide)) (va_cwS 2 ht (gSS wd_1956 wd_1957 wd_121 wd_1958) rfl rfl rfl hd_yX11_power ⟨Nat.le_of_ble_eq_true rfl, Nat.le_of_ble_eq_true rfl⟩)  rfl hl.1 (Nat.le_of_ble_eq_true rfl) dX11_inOrder_10 rfl ⟨Nat.zero_le _, Nat.zero_le _⟩ (fun r10 u11 H locs hp12 hO => ?_)
  obtain ⟨hr10, hu11⟩ := hp12
  rw [hu11] at hO
  refine lv_idiv hx hb dX11_inOrder_13 (i_ne0 (X := (r10).toInt) rfl (by omega)) ?_
  refine lv_topi (fun z13 ez13 => ?_)
  have d14 : 0 ≤ z13.toInt ∧ z13.toInt ≤ (x1).toInt := by rw [ez13]; exact i_divr rfl rfl (by omega) (by omega)
  refine lv_aload_n hx hb dX11_inOrder_14 rfl (lv_at hl 0 rfl) ?_
  refine cVi (w := mW cy a) (As := []) (rest := [.int z13]) C hO (T_X11_many l D cy a _ (by exact hJ) (gm) (by exact hgm)) (cwV 0 ht (gV wd_1348 wd_1350 wd_46 wd_121 wd_1351) rfl rfl rfl hd_yX11_many ⟨Nat.le_of_ble_eq_true rfl, Nat.le_of_ble_eq_true rfl⟩) 0 rfl mW_0 rfl rfl hl.1 (Nat.le_of_ble_eq_true rfl) dX11_inOrder_15 rfl ⟨Nat.zero_le _, Nat.zero_le _⟩ (fun r15 u16 H locs hp17 hO => ?_)
  obtain ⟨hr15, hu16⟩ := hp17
  refine tE hr15 ?_
  rw [hu16] at hO
  refine lv_irem hx hb dX11_inOrder_18 (i_ne0 (X := (gm).toInt) rfl (by omega)) ?_
  refine lv_topi (fun z18 ez18 => ?_)
  have d19 : 0 ≤ z18.toInt ∧ z18.toInt < (gm).toInt := by rw [ez18]; exact i_remr rfl rfl (by omega) (by omega)
  refine hret _ _ _ _ _ _ dX11_inOrder_19 rfl ?_ hO
  exact ⟨(by first | decide | omega), rfl⟩
theorem dX11_lastHeard_0 : decode cX11_lastHeard 0 = .ok (.iconst 0, 1) := by decide +kernel
theorem dX11_lastHeard_1 : decode cX11_lastHeard 1 = .ok (.istore_n 3, 1) := by decide +kernel
theorem dX11_lastHeard_2 : decode cX11_lastHeard 2 = .ok (.aload_n 0, 1) := by decide +kernel
theorem dX11_lastHeard_3 : decode cX11_lastHeard 3 = .ok (.getfield 97, 3) := by decide +kernel
theorem dX11_lastHeard_6 : decode cX11_lastHeard 6 = .ok (.bipush 24, 2) := by decide +kernel
theorem dX11_lastHeard_8 : decode cX11_lastHeard 8 = .ok (.iaload, 1) := by decide +kernel
theorem dX11_lastHeard_9 : decode cX11_lastHeard 9 = .ok (.istore 4, 2) := by decide +kernel
theorem dX11_lastHeard_11 : decode cX11_lastHeard 11 = .ok (.iconst 0, 1) := by decide +kernel
theorem dX11_lastHeard_12 : decode cX11_lastHeard 12 = .ok (.istore 5, 2) := by decide +kernel
theorem dX11_lastHeard_14 : decode cX11_lastHeard 14 = .ok (.iconst 0, 1) := by decide +kernel
theorem dX11_lastHeard_15 : decode cX11_lastHeard 15 = .ok (.istore 6, 2) := by decide +kernel
theorem dX11_lastHeard_17 : decode cX11_lastHeard 17 = .ok (.iload 6, 2) := by decide +kernel
theorem dX11_lastHeard_19 : decode cX11_lastHeard 19 = .ok (.iload_n 2, 1) := by decide +kernel
theorem dX11_lastHeard_20 : decode cX11_lastHeard 20 = .ok (.if_icmp .ge 131, 3) := by decide +kernel
theorem dX11_lastHeard_23 : decode cX11_lastHeard 23 = .ok (.aload_n 0, 1) := by decide +kernel
theorem dX11_lastHeard_24 : decode cX11_lastHeard 24 = .ok (.iload_n 1, 1) := by decide +kernel
theorem dX11_lastHeard_25 : decode cX11_lastHeard 25 = .ok (.iload_n 2, 1) := by decide +kernel
theorem dX11_lastHeard_26 : decode cX11_lastHeard 26 = .ok (.iload 6, 2) := by decide +kernel
theorem dX11_lastHeard_28 : decode cX11_lastHeard 28 = .ok (.invokevirtual 475, 3) := by decide +kernel
theorem dX11_lastHeard_31 : decode cX11_lastHeard 31 = .ok (.istore 7, 2) := by decide +kernel
theorem dX11_lastHeard_33 : decode cX11_lastHeard 33 = .ok (.iload_n 3, 1) := by decide +kernel
theorem dX11_lastHeard_34 : decode cX11_lastHeard 34 = .ok (.iload 7, 2) := by decide +kernel
theorem dX11_lastHeard_36 : decode cX11_lastHeard 36 = .ok (.invokestatic 264, 3) := by decide +kernel
theorem dX11_lastHeard_39 : decode cX11_lastHeard 39 = .ok (.ifCond .ne 12, 3) := by decide +kernel
theorem dX11_lastHeard_42 : decode cX11_lastHeard 42 = .ok (.aload_n 0, 1) := by decide +kernel
theorem dX11_lastHeard_43 : decode cX11_lastHeard 43 = .ok (.iload 7, 2) := by decide +kernel
theorem dX11_lastHeard_45 : decode cX11_lastHeard 45 = .ok (.invokevirtual 413, 3) := by decide +kernel
theorem dX11_lastHeard_48 : decode cX11_lastHeard 48 = .ok (.ifCond .ne 7, 3) := by decide +kernel
theorem dX11_lastHeard_51 : decode cX11_lastHeard 51 = .ok (.sipush 1000, 3) := by decide +kernel
theorem dX11_lastHeard_54 : decode cX11_lastHeard 54 = .ok (.ireturn, 1) := by decide +kernel
theorem dX11_lastHeard_55 : decode cX11_lastHeard 55 = .ok (.aload_n 0, 1) := by decide +kernel
theorem dX11_lastHeard_56 : decode cX11_lastHeard 56 = .ok (.getfield 112, 3) := by decide +kernel
theorem dX11_lastHeard_59 : decode cX11_lastHeard 59 = .ok (.bipush 8, 2) := by decide +kernel
theorem dX11_lastHeard_61 : decode cX11_lastHeard 61 = .ok (.iload 4, 2) := by decide +kernel
theorem dX11_lastHeard_63 : decode cX11_lastHeard 63 = .ok (.imul, 1) := by decide +kernel
theorem dX11_lastHeard_64 : decode cX11_lastHeard 64 = .ok (.aload_n 0, 1) := by decide +kernel
theorem dX11_lastHeard_65 : decode cX11_lastHeard 65 = .ok (.iload 7, 2) := by decide +kernel
theorem dX11_lastHeard_67 : decode cX11_lastHeard 67 = .ok (.invokevirtual 401, 3) := by decide +kernel
theorem dX11_lastHeard_70 : decode cX11_lastHeard 70 = .ok (.iadd, 1) := by decide +kernel
theorem dX11_lastHeard_71 : decode cX11_lastHeard 71 = .ok (.iaload, 1) := by decide +kernel
theorem dX11_lastHeard_72 : decode cX11_lastHeard 72 = .ok (.istore 8, 2) := by decide +kernel
theorem dX11_lastHeard_74 : decode cX11_lastHeard 74 = .ok (.iload 6, 2) := by decide +kernel
theorem dX11_lastHeard_76 : decode cX11_lastHeard 76 = .ok (.ifCond .gt 14, 3) := by decide +kernel
theorem dX11_lastHeard_79 : decode cX11_lastHeard 79 = .ok (.aload_n 0, 1) := by decide +kernel
theorem dX11_lastHeard_80 : decode cX11_lastHeard 80 = .ok (.getfield 97, 3) := by decide +kernel
theorem dX11_lastHeard_83 : decode cX11_lastHeard 83 = .ok (.bipush 26, 2) := by decide +kernel
theorem dX11_lastHeard_85 : decode cX11_lastHeard 85 = .ok (.iaload, 1) := by decide +kernel
theorem dX11_lastHeard_86 : decode cX11_lastHeard 86 = .ok (.iconst 1, 1) := by decide +kernel
theorem dX11_lastHeard_87 : decode cX11_lastHeard 87 = .ok (.if_icmp .ne 7, 3) := by decide +kernel
theorem dX11_lastHeard_90 : decode cX11_lastHeard 90 = .ok (.iconst 1, 1) := by decide +kernel
theorem dX11_lastHeard_91 : decode cX11_lastHeard 91 = .ok (.goto 4, 3) := by decide +kernel
theorem dX11_lastHeard_94 : decode cX11_lastHeard 94 = .ok (.iconst 0, 1) := by decide +kernel
theorem dX11_lastHeard_95 : decode cX11_lastHeard 95 = .ok (.istore 9, 2) := by decide +kernel
theorem dX11_lastHeard_97 : decode cX11_lastHeard 97 = .ok (.iload 5, 2) := by decide +kernel
theorem dX11_lastHeard_99 : decode cX11_lastHeard 99 = .ok (.iload 9, 2) := by decide +kernel
theorem dX11_lastHeard_101 : decode cX11_lastHeard 101 = .ok (.ifCond .eq 12, 3) := by decide +kernel
theorem dX11_lastHeard_104 : decode cX11_lastHeard 104 = .ok (.iload 8, 2) := by decide +kernel
theorem dX11_lastHeard_106 : decode cX11_lastHeard 106 = .ok (.ifCond .ne 7, 3) := by decide +kernel
theorem dX11_lastHeard_109 : decode cX11_lastHeard 109 = .ok (.iconst 1, 1) := by decide +kernel
theorem dX11_lastHeard_110 : decode cX11_lastHeard 110 = .ok (.goto 5, 3) := by decide +kernel
theorem dX11_lastHeard_113 : decode cX11_lastHeard 113 = .ok (.iload 8, 2) := by decide +kernel
theorem dX11_lastHeard_115 : decode cX11_lastHeard 115 = .ok (.iadd, 1) := by decide +kernel
theorem dX11_lastHeard_116 : decode cX11_lastHeard 116 = .ok (.istore 5, 2) := by decide +kernel
theorem dX11_lastHeard_118 : decode cX11_lastHeard 118 = .ok (.iload 8, 2) := by decide +kernel
theorem dX11_lastHeard_120 : decode cX11_lastHeard 120 = .ok (.sipush 1000, 3) := by decide +kernel
theorem dX11_lastHeard_123 : decode cX11_lastHeard 123 = .ok (.if_icmp .ne 7, 3) := by decide +kernel
theorem dX11_lastHeard_126 : decode cX11_lastHeard 126 = .ok (.sipush 1000, 3) := by decide +kernel
theorem dX11_lastHeard_129 : decode cX11_lastHeard 129 = .ok (.ireturn, 1) := by decide +kernel
theorem dX11_lastHeard_130 : decode cX11_lastHeard 130 = .ok (.aload_n 0, 1) := by decide +kernel
theorem dX11_lastHeard_131 : decode cX11_lastHeard 131 = .ok (.iload 7, 2) := by decide +kernel
theorem dX11_lastHeard_133 : decode cX11_lastHeard 133 = .ok (.invokevirtual 401, 3) := by decide +kernel
theorem dX11_lastHeard_136 : decode cX11_lastHeard 136 = .ok (.istore 4, 2) := by decide +kernel
theorem dX11_lastHeard_138 : decode cX11_lastHeard 138 = .ok (.iload_n 3, 1) := by decide +kernel
theorem dX11_lastHeard_139 : decode cX11_lastHeard 139 = .ok (.iconst 1, 1) := by decide +kernel
theorem dX11_lastHeard_140 : decode cX11_lastHeard 140 = .ok (.iload 7, 2) := by decide +kernel
theorem dX11_lastHeard_142 : decode cX11_lastHeard 142 = .ok (.ishl, 1) := by decide +kernel
theorem dX11_lastHeard_143 : decode cX11_lastHeard 143 = .ok (.ior, 1) := by decide +kernel
theorem dX11_lastHeard_144 : decode cX11_lastHeard 144 = .ok (.istore_n 3, 1) := by decide +kernel
theorem dX11_lastHeard_145 : decode cX11_lastHeard 145 = .ok (.iinc 6 1, 3) := by decide +kernel
theorem dX11_lastHeard_148 : decode cX11_lastHeard 148 = .ok (.goto (-131), 3) := by decide +kernel
theorem dX11_lastHeard_151 : decode cX11_lastHeard 151 = .ok (.iload 5, 2) := by decide +kernel
theorem dX11_lastHeard_153 : decode cX11_lastHeard 153 = .ok (.ireturn, 1) := by decide +kernel
theorem wd_1962 : (Cond.code ⟨"WebCourtModel", "lastHeard", "(II)I"⟩ prog_13_method_107_code (10 : Nat) (Option.some FieldType.int)) ∈ gtb := gtb_c8 173 (by decide +kernel) rfl
theorem wd_1963 : (Cond.methodLink "WebCourtModel" (475 : Nat) ⟨"WebCourtModel", "inOrder", "(III)I"⟩) ∈ gtb := gtb_c8 174 (by decide +kernel) rfl
theorem wd_1965 : (Cond.instanceMethod ⟨"WebCourtModel", "inOrder", "(III)I"⟩) ∈ gtb := gtb_c8 176 (by decide +kernel) rfl
theorem wd_105 : (Cond.selects "WebCourtModel" ⟨"WebCourtModel", "inOrder", "(III)I"⟩ ⟨"WebCourtModel", "inOrder", "(III)I"⟩) ∈ gtb := gtb_p 105 (by decide +kernel) rfl
theorem hd_yX11_inOrder : yX11_inOrder.cls = RX11 ∧ yX11_inOrder.cls ≠ "java/lang/invoke/MethodHandle" ∧ yX11_inOrder.cls ≠ "java/lang/invoke/VarHandle" ∧ (parseMethodDescriptor yX11_inOrder.desc).map (fun d => d.parameters.length) = some 3 := by decide +kernel
set_option maxHeartbeats 4000000 in
set_option maxRecDepth 100000 in
theorem T_X11_lastHeard (l : Launch) (D : va_G) (cy : Nat → ClassId) (a : Nat → Nat) (u : St) (hJ : MI a u) (gm : Int32) (hgm : fA u 6 (fI u 0 36).toNatClampNeg = gm) (gk : Int32) (hgk : fA u 3 (fI u 0 36).toNatClampNeg = gk) (x1 : Int32) (x2 : Int32) (hx_x1 : 0 ≤ x1.toInt ∧ x1.toInt ≤ 2147483647) (hx_x2 : 1 ≤ x2.toInt ∧ x2.toInt ≤ 6) (hg : 1 ≤ gm.toInt) : Mi l D cy (mW cy a) yX11_lastHeard (.code yX11_lastHeard cX11_lastHeard 10 (some .int)) (rmo 3 64) [.ref (a 0), .int x1, .int x2] u (fun (r : Int32) (u' : St) => u' = u) := by
  refine Mi.of (own := RX11) rfl (by decide) (Nat.le_of_ble_eq_true rfl) ?_
  have hT : Km0 u u := Km0.rf
  have hJ0 := hJ
  intro p e s m below meth c A Q ls C hret hO hl
  obtain ⟨hx, hb, hml, hown, ht, hK, hA⟩ := id C
  have hl : lv_has ls 10 [(0, .ref (a 0)), (1, .int x1), (2, .int x2)] := hl
  have g1 : 0 ≤ (fI u 0 36).toInt ∧ (fI u 0 36).toInt ≤ 1 := by have h := MI_36 hJ0; exact h
  have g2 : 0 ≤ gm.toInt ∧ gm.toInt ≤ 6 := by have h := MI_A6 hJ0 (fI u 0 36).toNatClampNeg; rw [hgm] at h; exact h
  have g3 : 0 ≤ gk.toInt ∧ gk.toInt ≤ 8 := by have h := MI_A3 hJ0 (fI u 0 36).toNatClampNeg; rw [hgk] at h; exact h
  have hkg : 0 < gk.toInt := by have h := MI_ck hJ0; rw [show cN u = gm from hgm, show kN u = gk from hgk] at h; omega
  refine lv_iconst (v := 0) hx hb dX11_lastHeard_0 (by decide) ?_
  refine lv_istore_n (lv' := [(3, .int 0), (0, .ref (a 0)), (1, .int x1), (2, .int x2)]) hx hb dX11_lastHeard_1 rfl hl (by decide) rfl (fun ls hl => ?_)
  refine lv_aload_n hx hb dX11_lastHeard_2 rfl (lv_at hl 1 rfl) ?_
  refine gf_RX11_97 (v := .ref (a 28)) C hO 0 mW_0 rfl dX11_lastHeard_3 ?_
  refine lv_bipush (v := 24) hx hb dX11_lastHeard_6 (by decide) ?_
  refine aI C hO 28 mW_28 (i_in (X := 24) rfl (by omega) (by omega)) dX11_lastHeard_8 ?_
  refine tE (y := (fA u 28 24)) (by exact rfl) ?_
  have g4 : 0 ≤ (fA u 28 24).toInt ∧ (fA u 28 24).toInt ≤ 7 := by have h := MI_sheK hJ (K := gk) (by exact hgk) (by omega); exact h
  refine lv_istore (lv' := [(4, .int (fA u 28 24)), (3, .int 0), (0, .ref (a 0)), (1, .int x1), (2, .int x2)]) hx hb dX11_lastHeard_9 hl (by decide) rfl (fun ls hl => ?_)
  refine lv_iconst (v := 0) hx hb dX11_lastHeard_11 (by decide) ?_
  refine lv_istore (lv' := [(5, .int 0), (4, .int (fA u 28 24)), (3, .int 0), (0, .ref (a 0)), (1, .int x1), (2, .int x2)]) hx hb dX11_lastHeard_12 hl (by decide) rfl (fun ls hl => ?_)
  refine lv_iconst (v := 0) hx hb dX11_lastHeard_14 (by decide) ?_
  refine lv_istore (lv' := [(6, .int 0), (5, .int 0), (4, .int (fA u 28 24)), (3, .int 0), (0, .ref (a 0)), (1, .int x1), (2, .int x2)]) hx hb dX11_lastHeard_15 hl (by decide) rfl (fun ls hl => ?_)
  have LP_17_k5 : ∀ (n : Nat) (H : Heap) (locs : List Loc) (ls : Array Slot) (i_k5 : Int32) (w5_k5 : Int32) (w4_k5 : Int32) (w3_k5 : Int32), Wo D A (mW cy a u) s.heap H locs → lv_has ls 10 [(6, .int i_k5), (5, .int w5_k5), (4, .int w4_k5), (3, .int w3_k5), (0, .ref (a 0)), (1, .int x1), (2, .int x2)] → 0 ≤ i_k5.toInt ∧ i_k5.toInt ≤ 6 → 0 ≤ w4_k5.toInt ∧ w4_k5.toInt ≤ 7 → 6 - i_k5.toInt < (n : Int) → W p l e (rmo 3 64) s m [.ref (a 0), .int x1, .int x2].toArray below meth c H locs 0 0 Q (F0 m 17 ls []) := by
    intro n
    induction n with
    | zero =>
      intro H locs ls i_k5 w5_k5 w4_k5 w3_k5 hO hl iv0_k5 iv1_k5 hm_k5
      exact absurd hm_k5 (by omega)
    | succ n ih_k5 =>
      intro H locs ls i_k5 w5_k5 w4_k5 w3_k5 hO hl iv0_k5 iv1_k5 hm_k5
      refine lv_iload hx hb dX11_lastHeard_17 (lv_at hl 0 rfl) ?_
      refine lv_iload_n hx hb dX11_lastHeard_19 rfl (lv_at hl 6 rfl) ?_
      refine cs_ge (tgt := 151) (X := (i_k5).toInt) (Y := (x2).toInt) hx hb dX11_lastHeard_20 (by decide) rfl rfl (fun c6 => ?_) (fun c6 => ?_)
      · refine lv_iload hx hb dX11_lastHeard_151 (lv_at hl 1 rfl) ?_
        refine hret _ _ _ _ _ _ dX11_lastHeard_153 rfl ?_ hO
        exact rfl
      · refine lv_aload_n hx hb dX11_lastHeard_23 rfl (lv_at hl 4 rfl) ?_
        refine lv_iload_n hx hb dX11_lastHeard_24 rfl (lv_at hl 5 rfl) ?_
        refine lv_iload_n hx hb dX11_lastHeard_25 rfl (lv_at hl 6 rfl) ?_
        refine lv_iload hx hb dX11_lastHeard_26 (lv_at hl 0 rfl) ?_
        refine cVi (w := mW cy a) (As := [.int x1, .int x2, .int i_k5]) (rest := []) C hO (T_X11_inOrder l D cy a _ (by exact hJ) (gm) (by exact hgm) (x1) (x2) (i_k5) (by first | omega | decide) (by first | omega | decide) (by first | omega | decide) (by first | omega | decide) (by first | omega | decide)) (cwV 3 ht (gV wd_1963 wd_1965 wd_105 wd_121 wd_1966) rfl rfl rfl hd_yX11_inOrder ⟨Nat.le_of_ble_eq_true rfl, Nat.le_of_ble_eq_true rfl⟩) 0 rfl mW_0 rfl rfl hl.1 (Nat.le_of_ble_eq_true rfl) dX11_lastHeard_28 rfl ⟨Nat.zero_le _, Nat.zero_le _⟩ (fun r7 u8 H locs hp9 hO => ?_)
        obtain ⟨hr7, hu8⟩ := hp9
        rw [hu8] at hO
        refine lv_istore (lv' := [(7, .int r7), (6, .int i_k5), (5, .int w5_k5), (4, .int w4_k5), (3, .int w3_k5), (0, .ref (a 0)), (1, .int x1), (2, .int x2)]) hx hb dX11_lastHeard_31 hl (by decide) rfl (fun ls hl => ?_)
        refine lv_iload_n hx hb dX11_lastHeard_33 rfl (lv_at hl 4 rfl) ?_
        refine lv_iload hx hb dX11_lastHeard_34 (lv_at hl 0 rfl) ?_
        refine cSi (w := mW cy a) (As := [.int w3_k5, .int r7]) (rest := []) C hO (T_X11_bit l D cy a _ (by exact hJ) (w3_k5) (r7)) (va_cwS 2 ht (gSS wd_1612 wd_1613 wd_121 wd_1614) rfl rfl rfl hd_yX11_bit ⟨Nat.le_of_ble_eq_true rfl, Nat.le_of_ble_eq_true rfl⟩)  rfl hl.1 (Nat.le_of_ble_eq_true rfl) dX11_lastHeard_36 rfl ⟨Nat.zero_le _, Nat.zero_le _⟩ (fun r10 u11 H locs hp12 hO => ?_)
        obtain ⟨hr10, hu11⟩ := hp12
        rw [hu11] at hO
        obtain ⟨hr10, hbr10⟩ := hr10
        have gr10 : 0 ≤ r10.toInt ∧ r10.toInt ≤ 1 := by rcases hr10 with h | h <;> rw [h] <;> decide
        refine bs_ne (tgt := 51) (X := (r10).toInt) hx hb dX11_lastHeard_39 (by decide) rfl (fun c13 => ?_) (fun c13 => ?_)
        · refine lv_sipush (v := 1000) hx hb dX11_lastHeard_51 (by decide) ?_
          refine hret _ _ _ _ _ _ dX11_lastHeard_54 rfl ?_ hO
          exact rfl
        · refine lv_aload_n hx hb dX11_lastHeard_42 rfl (lv_at hl 5 rfl) ?_
          refine lv_iload hx hb dX11_lastHeard_43 (lv_at hl 0 rfl) ?_
          refine cVi (w := mW cy a) (As := [.int r7]) (rest := []) C hO (T_X11_isHeld l D cy a _ (by exact hJ) (gm) (by exact hgm) (r7)) (cwV 1 ht (gV wd_1797 wd_1799 wd_91 wd_121 wd_1800) rfl rfl rfl hd_yX11_isHeld ⟨Nat.le_of_ble_eq_true rfl, Nat.le_of_ble_eq_true rfl⟩) 0 rfl mW_0 rfl rfl hl.1 (Nat.le_of_ble_eq_true rfl) dX11_lastHeard_45 rfl ⟨Nat.zero_le _, Nat.zero_le _⟩ (fun r14 u15 H locs hp16 hO => ?_)
          obtain ⟨hr14, hu15⟩ := hp16
          rw [hu15] at hO
          rcases hr14 with ⟨hcr14, hvr14⟩ | ⟨hcr14, hvr14⟩
          · subst hvr14
            refine bt_ne (tgt := 55) (X := 1) hx hb dX11_lastHeard_48 (by decide) rfl (by omega) ?_
            refine lv_aload_n hx hb dX11_lastHeard_55 rfl (lv_at hl 5 rfl) ?_
            refine gf_RX11_112 (v := .ref (a 32)) C hO 0 mW_0 rfl dX11_lastHeard_56 ?_
            refine lv_bipush (v := 8) hx hb dX11_lastHeard_59 (by decide) ?_
            refine lv_iload hx hb dX11_lastHeard_61 (lv_at hl 3 rfl) ?_
            refine lv_imul hx hb dX11_lastHeard_63 ?_
            refine lv_topi (fun z17 ez17 => ?_)
            have e18 : z17.toInt = 8 * (w4_k5).toInt := by rw [ez17]; exact i_mul rfl rfl (by omega)
            refine lv_aload_n hx hb dX11_lastHeard_64 rfl (lv_at hl 5 rfl) ?_
            refine lv_iload hx hb dX11_lastHeard_65 (lv_at hl 0 rfl) ?_
            refine cVi (w := mW cy a) (As := [.int r7]) (rest := [.int z17, .ref (a 32)]) C hO (T_X11_placeOf l D cy a _ (by exact hJ) (r7) (by first | omega | decide)) (cwV 1 ht (gV wd_1733 wd_1735 wd_80 wd_121 wd_1736) rfl rfl rfl hd_yX11_placeOf ⟨Nat.le_of_ble_eq_true rfl, Nat.le_of_ble_eq_true rfl⟩) 0 rfl mW_0 rfl rfl hl.1 (Nat.le_of_ble_eq_true rfl) dX11_lastHeard_67 rfl ⟨Nat.zero_le _, Nat.zero_le _⟩ (fun r19 u20 H locs hp21 hO => ?_)
            obtain ⟨hr19, hu20⟩ := hp21
            rw [hu20] at hO
            refine lv_iadd hx hb dX11_lastHeard_70 ?_
            refine lv_topi (fun z22 ez22 => ?_)
            have e23 : z22.toInt = (8 * (w4_k5).toInt) + (r19).toInt := by rw [ez22]; exact i_add e18 rfl (by omega)
            refine aI C hO 32 mW_32 (i_in (X := ((8 * (w4_k5).toInt) + (r19).toInt)) e23 (by omega) (by omega)) dX11_lastHeard_71 ?_
            have g24 : 0 ≤ (fA u 32 (z22).toNatClampNeg).toInt ∧ (fA u 32 (z22).toNatClampNeg).toInt ≤ 1000 := by have h := MI_A32 hJ0 (z22).toNatClampNeg; exact h
            refine tE (y := (fA u 32 (z22).toNatClampNeg)) (by exact rfl) ?_
            refine lv_istore (lv' := [(8, .int (fA u 32 (z22).toNatClampNeg)), (7, .int r7), (6, .int i_k5), (5, .int w5_k5), (4, .int w4_k5), (3, .int w3_k5), (0, .ref (a 0)), (1, .int x1), (2, .int x2)]) hx hb dX11_lastHeard_72 hl (by decide) rfl (fun ls hl => ?_)
            refine lv_iload hx hb dX11_lastHeard_74 (lv_at hl 2 rfl) ?_
            refine bs_gt (tgt := 90) (X := (i_k5).toInt) hx hb dX11_lastHeard_76 (by decide) rfl (fun c25 => ?_) (fun c25 => ?_)
            · refine lv_iconst (v := 1) hx hb dX11_lastHeard_90 (by decide) ?_
              refine lv_goto (tgt := 95) hx hb dX11_lastHeard_91 (by decide) ?_
              refine lv_istore (lv' := [(9, .int 1), (8, .int (fA u 32 (z22).toNatClampNeg)), (7, .int r7), (6, .int i_k5), (5, .int w5_k5), (4, .int w4_k5), (3, .int w3_k5), (0, .ref (a 0)), (1, .int x1), (2, .int x2)]) hx hb dX11_lastHeard_95 hl (by decide) rfl (fun ls hl => ?_)
              refine lv_iload hx hb dX11_lastHeard_97 (lv_at hl 4 rfl) ?_
              refine lv_iload hx hb dX11_lastHeard_99 (lv_at hl 0 rfl) ?_
              refine bn_eq (X := 1) hx hb dX11_lastHeard_101 rfl (by omega) ?_ (tgt := 113) (by decide)
              refine lv_iload hx hb dX11_lastHeard_104 (lv_at hl 1 rfl) ?_
              refine bs_ne (tgt := 113) (X := ((fA u 32 (z22).toNatClampNeg)).toInt) hx hb dX11_lastHeard_106 (by decide) rfl (fun c26 => ?_) (fun c26 => ?_)
              · refine lv_iload hx hb dX11_lastHeard_113 (lv_at hl 1 rfl) ?_
                refine lv_iadd hx hb dX11_lastHeard_115 ?_
                refine lv_topi (fun z27 ez27 => ?_)
                refine lv_istore (lv' := [(5, .int z27), (9, .int 1), (8, .int (fA u 32 (z22).toNatClampNeg)), (7, .int r7), (6, .int i_k5), (4, .int w4_k5), (3, .int w3_k5), (0, .ref (a 0)), (1, .int x1), (2, .int x2)]) hx hb dX11_lastHeard_116 hl (by decide) rfl (fun ls hl => ?_)
                refine lv_iload hx hb dX11_lastHeard_118 (lv_at hl 2 rfl) ?_
                refine lv_sipush (v := 1000) hx hb dX11_lastHeard_120 (by decide) ?_
                refine cs_ne (tgt := 130) (X := ((fA u 32 (z22).toNatClampNeg)).toInt) (Y := 1000) hx hb dX11_lastHeard_123 (by decide) rfl rfl (fun c28 => ?_) (fun c28 => ?_)
                · refine lv_aload_n hx hb dX11_lastHeard_130 rfl (lv_at hl 7 rfl) ?_
                  refine lv_iload hx hb dX11_lastHeard_131 (lv_at hl 3 rfl) ?_
                  refine cVi (w := mW cy a) (As := [.int r7]) (rest := []) C hO (T_X11_placeOf l D cy a _ (by exact hJ) (r7) (by first | omega | decide)) (cwV 1 ht (gV wd_1733 wd_1735 wd_80 wd_121 wd_1736) rfl rfl rfl hd_yX11_placeOf ⟨Nat.le_of_ble_eq_true rfl, Nat.le_of_ble_eq_true rfl⟩) 0 rfl mW_0 rfl rfl hl.1 (Nat.le_of_ble_eq_true rfl) dX11_lastHeard_133 rfl ⟨Nat.zero_le _, Nat.zero_le _⟩ (fun r29 u30 H locs hp31 hO => ?_)
                  obtain ⟨hr29, hu30⟩ := hp31
                  rw [hu30] at hO
                  refine lv_istore (lv' := [(4, .int r29), (5, .int z27), (9, .int 1), (8, .int (fA u 32 (z22).toNatClampNeg)), (7, .int r7), (6, .int i_k5), (3, .int w3_k5), (0, .ref (a 0)), (1, .int x1), (2, .int x2)]) hx hb dX11_lastHeard_136 hl (by decide) rfl (fun ls hl => ?_)
                  refine lv_iload_n hx hb dX11_lastHeard_138 rfl (lv_at hl 6 rfl) ?_
                  refine lv_iconst (v := 1) hx hb dX11_lastHeard_139 (by decide) ?_
                  refine lv_iload hx hb dX11_lastHeard_140 (lv_at hl 4 rfl) ?_
                  refine lv_ishl hx hb dX11_lastHeard_142 ?_
                  refine lv_topi (fun z32 ez32 => ?_)
                  have g33 : 0 ≤ z32.toInt ∧ z32.toInt ≤ 2 ^ 5 := by rw [ez32]; exact i_shl1 rfl (by omega) (by omega) (by decide)
                  refine lv_ior hx hb dX11_lastHeard_143 ?_
                  refine lv_topi (fun z34 ez34 => ?_)
                  refine lv_istore_n (lv' := [(3, .int z34), (4, .int r29), (5, .int z27), (9, .int 1), (8, .int (fA u 32 (z22).toNatClampNeg)), (7, .int r7), (6, .int i_k5), (0, .ref (a 0)), (1, .int x1), (2, .int x2)]) hx hb dX11_lastHeard_144 rfl hl (by decide) rfl (fun ls hl => ?_)
                  obtain ⟨z35, ez35⟩ : ∃ z : Int32, z = i_k5 + Int32.ofInt 1 := ⟨_, rfl⟩
                  have e36 : z35.toInt = (i_k5).toInt + 1 := by rw [ez35]; exact i_add rfl rfl (by omega)
                  refine lv_iinc (v := z35) (lv' := [(6, .int z35), (3, .int z34), (4, .int r29), (5, .int z27), (9, .int 1), (8, .int (fA u 32 (z22).toNatClampNeg)), (7, .int r7), (0, .ref (a 0)), (1, .int x1), (2, .int x2)]) hx hb dX11_lastHeard_145 hl (k := 6) rfl ez35.symm (by decide) rfl (fun ls hl => ?_)
                  refine lv_goto (tgt := 17) hx hb dX11_lastHeard_148 (by decide) ?_
                  exact ih_k5 _ _ _ (z35) (z27) (r29) (z34) hO (lv_sub hl [0, 3, 2, 1, 7, 8, 9] rfl) (by first | decide | omega) (by first | decide | omega) (by first | decide | omega)
                · refine lv_sipush (v := 1000) hx hb dX11_lastHeard_126 (by decide) ?_
                  refine hret _ _ _ _ _ _ dX11_lastHeard_129 rfl ?_ hO
                  exact rfl
              · refine lv_iconst (v := 1) hx hb dX11_lastHeard_109 (by decide) ?_
                refine lv_goto (tgt := 115) hx hb dX11_lastHeard_110 (by decide) ?_
                refine lv_iadd hx hb dX11_lastHeard_115 ?_
                refine lv_topi (fun z37 ez37 => ?_)
                refine lv_istore (lv' := [(5, .int z37), (9, .int 1), (8, .int (fA u 32 (z22).toNatClampNeg)), (7, .int r7), (6, .int i_k5), (4, .int w4_k5), (3, .int w3_k5), (0, .ref (a 0)), (1, .int x1), (2, .int x2)]) hx hb dX11_lastHeard_116 hl (by decide) rfl (fun ls hl => ?_)
                refine lv_iload hx hb dX11_lastHeard_118 (lv_at hl 2 rfl) ?_
                refine lv_sipush (v := 1000) hx hb dX11_lastHeard_120 (by decide) ?_
                refine ct_ne (tgt := 130) (X := ((fA u 32 (z22).toNatClampNeg)).toInt) (Y := 1000) hx hb dX11_lastHeard_123 (by decide) rfl rfl (by omega) ?_
                refine lv_aload_n hx hb dX11_lastHeard_130 rfl (lv_at hl 7 rfl) ?_
                refine lv_iload hx hb dX11_lastHeard_131 (lv_at hl 3 rfl) ?_
                refine cVi (w := mW cy a) (As := [.int r7]) (rest := []) C hO (T_X11_placeOf l D cy a _ (by exact hJ) (r7) (by first | omega | decide)) (cwV 1 ht (gV wd_1733 wd_1735 wd_80 wd_121 wd_1736) rfl rfl rfl hd_yX11_placeOf ⟨Nat.le_of_ble_eq_true rfl, Nat.le_of_ble_eq_true rfl⟩) 0 rfl mW_0 rfl rfl hl.1 (Nat.le_of_ble_eq_true rfl) dX11_lastHeard_133 rfl ⟨Nat.zero_le _, Nat.zero_le _⟩ (fun r38 u39 H locs hp40 hO => ?_)
                obtain ⟨hr38, hu39⟩ := hp40
                rw [hu39] at hO
                refine lv_istore (lv' := [(4, .int r38), (5, .int z37), (9, .int 1), (8, .int (fA u 32 (z22).toNatClampNeg)), (7, .int r7), (6, .int i_k5), (3, .int w3_k5), (0, .ref (a 0)), (1, .int x1), (2, .int x2)]) hx hb dX11_lastHeard_136 hl (by decide) rfl (fun ls hl => ?_)
                refine lv_iload_n hx hb dX11_lastHeard_138 rfl (lv_at hl 6 rfl) ?_
                refine lv_iconst (v := 1) hx hb dX11_lastHeard_139 (by decide) ?_
                refine lv_iload hx hb dX11_lastHeard_140 (lv_at hl 4 rfl) ?_
                refine lv_ishl hx hb dX11_lastHeard_142 ?_
                refine lv_topi (fun z41 ez41 => ?_)
                have g42 : 0 ≤ z41.toInt ∧ z41.toInt ≤ 2 ^ 5 := by rw [ez41]; exact i_shl1 rfl (by omega) (by omega) (by decide)
                refine lv_ior hx hb dX11_lastHeard_143 ?_
                refine lv_topi (fun z43 ez43 => ?_)
                refine lv_istore_n (lv' := [(3, .int z43), (4, .int r38), (5, .int z37), (9, .int 1), (8, .int (fA u 32 (z22).toNatClampNeg)), (7, .int r7), (6, .int i_k5), (0, .ref (a 0)), (1, .int x1), (2, .int x2)]) hx hb dX11_lastHeard_144 rfl hl (by decide) rfl (fun ls hl => ?_)
                obtain ⟨z44, ez44⟩ : ∃ z : Int32, z = i_k5 + Int32.ofInt 1 := ⟨_, rfl⟩
                have e45 : z44.toInt = (i_k5).toInt + 1 := by rw [ez44]; exact i_add rfl rfl (by omega)
                refine lv_iinc (v := z44) (lv' := [(6, .int z44), (3, .int z43), (4, .int r38), (5, .int z37), (9, .int 1), (8, .int (fA u 32 (z22).toNatClampNeg)), (7, .int r7), (0, .ref (a 0)), (1, .int x1), (2, .int x2)]) hx hb dX11_lastHeard_145 hl (k := 6) rfl ez44.symm (by decide) rfl (fun ls hl => ?_)
                refine lv_goto (tgt := 17) hx hb dX11_lastHeard_148 (by decide) ?_
                exact ih_k5 _ _ _ (z44) (z37) (r38) (z43) hO (lv_sub hl [0, 3, 2, 1, 7, 8, 9] rfl) (by first | decide | omega) (by first | decide | omega) (by first | decide | omega)
            · refine lv_aload_n hx hb dX11_lastHeard_79 rfl (lv_at hl 6 rfl) ?_
              refine gf_RX11_97 (v := .ref (a 28)) C hO 0 mW_0 rfl dX11_lastHeard_80 ?_
              refine lv_bipush (v := 26) hx hb dX11_lastHeard_83 (by decide) ?_
              refine aI C hO 28 mW_28 (i_in (X := 26) rfl (by omega) (by omega)) dX11_lastHeard_85 ?_
              refine tE (y := (fA u 28 26)) (by exact rfl) ?_
              refine lv_iconst (v := 1) hx hb dX11_lastHeard_86 (by decide) ?_
              refine cs_ne (tgt := 94) (X := ((fA u 28 26)).toInt) (Y := 1) hx hb dX11_lastHeard_87 (by decide) rfl rfl (fun c46 => ?_) (fun c46 => ?_)
              · refine lv_iconst (v := 0) hx hb dX11_lastHeard_94 (by decide) ?_
                refine lv_istore (lv' := [(9, .int 0), (8, .int (fA u 32 (z22).toNatClampNeg)), (7, .int r7), (6, .int i_k5), (5, .int w5_k5), (4, .int w4_k5), (3, .int w3_k5), (0, .ref (a 0)), (1, .int x1), (2, .int x2)]) hx hb dX11_lastHeard_95 hl (by decide) rfl (fun ls hl => ?_)
                refine lv_iload hx hb dX11_lastHeard_97 (lv_at hl 4 rfl) ?_
                refine lv_iload hx hb dX11_lastHeard_99 (lv_at hl 0 rfl) ?_
                refine bt_eq (tgt := 113) (X := 0) hx hb dX11_lastHeard_101 (by decide) rfl (by omega) ?_
                refine lv_iload hx hb dX11_lastHeard_113 (lv_at hl 1 rfl) ?_
                refine lv_iadd hx hb dX11_lastHeard_115 ?_
                refine lv_topi (fun z47 ez47 => ?_)
                refine lv_istore (lv' := [(5, .int z47), (9, .int 0), (8, .int (fA u 32 (z22).toNatClampNeg)), (7, .int r7), (6, .int i_k5), (4, .int w4_k5), (3, .int w3_k5), (0, .ref (a 0)), (1, .int x1), (2, .int x2)]) hx hb dX11_lastHeard_116 hl (by decide) rfl (fun ls hl => ?_)
                refine lv_iload hx hb dX11_lastHeard_118 (lv_at hl 2 rfl) ?_
                refine lv_sipush (v := 1000) hx hb dX11_lastHeard_120 (by decide) ?_
                refine cs_ne (tgt := 130) (X := ((fA u 32 (z22).toNatClampNeg)).toInt) (Y := 1000) hx hb dX11_lastHeard_123 (by decide) rfl rfl (fun c48 => ?_) (fun c48 => ?_)
                · refine lv_aload_n hx hb dX11_lastHeard_130 rfl (lv_at hl 7 rfl) ?_
                  refine lv_iload hx hb dX11_lastHeard_131 (lv_at hl 3 rfl) ?_
                  refine cVi (w := mW cy a) (As := [.int r7]) (rest := []) C hO (T_X11_placeOf l D cy a _ (by exact hJ) (r7) (by first | omega | decide)) (cwV 1 ht (gV wd_1733 wd_1735 wd_80 wd_121 wd_1736) rfl rfl rfl hd_yX11_placeOf ⟨Nat.le_of_ble_eq_true rfl, Nat.le_of_ble_eq_true rfl⟩) 0 rfl mW_0 rfl rfl hl.1 (Nat.le_of_ble_eq_true rfl) dX11_lastHeard_133 rfl ⟨Nat.zero_le _, Nat.zero_le _⟩ (fun r49 u50 H locs hp51 hO => ?_)
                  obtain ⟨hr49, hu50⟩ := hp51
                  rw [hu50] at hO
                  refine lv_istore (lv' := [(4, .int r49), (5, .int z47), (9, .int 0), (8, .int (fA u 32 (z22).toNatClampNeg)), (7, .int r7), (6, .int i_k5), (3, .int w3_k5), (0, .ref (a 0)), (1, .int x1), (2, .int x2)]) hx hb dX11_lastHeard_136 hl (by decide) rfl (fun ls hl => ?_)
                  refine lv_iload_n hx hb dX11_lastHeard_138 rfl (lv_at hl 6 rfl) ?_
                  refine lv_iconst (v := 1) hx hb dX11_lastHeard_139 (by decide) ?_
                  refine lv_iload hx hb dX11_lastHeard_140 (lv_at hl 4 rfl) ?_
                  refine lv_ishl hx hb dX11_lastHeard_142 ?_
                  refine lv_topi (fun z52 ez52 => ?_)
                  have g53 : 0 ≤ z52.toInt ∧ z52.toInt ≤ 2 ^ 5 := by rw [ez52]; exact i_shl1 rfl (by omega) (by omega) (by decide)
                  refine lv_ior hx hb dX11_lastHeard_143 ?_
                  refine lv_topi (fun z54 ez54 => ?_)
                  refine lv_istore_n (lv' := [(3, .int z54), (4, .int r49), (5, .int z47), (9, .int 0), (8, .int (fA u 32 (z22).toNatClampNeg)), (7, .int r7), (6, .int i_k5), (0, .ref (a 0)), (1, .int x1), (2, .int x2)]) hx hb dX11_lastHeard_144 rfl hl (by decide) rfl (fun ls hl => ?_)
                  obtain ⟨z55, ez55⟩ : ∃ z : Int32, z = i_k5 + Int32.ofInt 1 := ⟨_, rfl⟩
                  have e56 : z55.toInt = (i_k5).toInt + 1 := by rw [ez55]; exact i_add rfl rfl (by omega)
                  refine lv_iinc (v := z55) (lv' := [(6, .int z55), (3, .int z54), (4, .int r49), (5, .int z47), (9, .int 0), (8, .int (fA u 32 (z22).toNatClampNeg)), (7, .int r7), (0, .ref (a 0)), (1, .int x1), (2, .int x2)]) hx hb dX11_lastHeard_145 hl (k := 6) rfl ez55.symm (by decide) rfl (fun ls hl => ?_)
                  refine lv_goto (tgt := 17) hx hb dX11_lastHeard_148 (by decide) ?_
                  exact ih_k5 _ _ _ (z55) (z47) (r49) (z54) hO (lv_sub hl [0, 3, 2, 1, 7, 8, 9] rfl) (by first | decide | omega) (by first | decide | omega) (by first | decide | omega)
                · refine lv_sipush (v := 1000) hx hb dX11_lastHeard_126 (by decide) ?_
                  refine hret _ _ _ _ _ _ dX11_lastHeard_129 rfl ?_ hO
                  exact rfl
              · refine lv_iconst (v := 1) hx hb dX11_lastHeard_90 (by decide) ?_
                refine lv_goto (tgt := 95) hx hb dX11_lastHeard_91 (by decide) ?_
                refine lv_istore (lv' := [(9, .int 1), (8, .int (fA u 32 (z22).toNatClampNeg)), (7, .int r7), (6, .int i_k5), (5, .int w5_k5), (4, .int w4_k5), (3, .int w3_k5), (0, .ref (a 0)), (1, .int x1), (2, .int x2)]) hx hb dX11_lastHeard_95 hl (by decide) rfl (fun ls hl => ?_)
                refine lv_iload hx hb dX11_lastHeard_97 (lv_at hl 4 rfl) ?_
                refine lv_iload hx hb dX11_lastHeard_99 (lv_at hl 0 rfl) ?_
                refine bn_eq (X := 1) hx hb dX11_lastHeard_101 rfl (by omega) ?_ (tgt := 113) (by decide)
                refine lv_iload hx hb dX11_lastHeard_104 (lv_at hl 1 rfl) ?_
                refine bs_ne (tgt := 113) (X := ((fA u 32 (z22).toNatClampNeg)).toInt) hx hb dX11_lastHeard_106 (by decide) rfl (fun c57 => ?_) (fun c57 => ?_)
                · refine lv_iload hx hb dX11_lastHeard_113 (lv_at hl 1 rfl) ?_
                  refine lv_iadd hx hb dX11_lastHeard_115 ?_
                  refine lv_topi (fun z58 ez58 => ?_)
                  refine lv_istore (lv' := [(5, .int z58), (9, .int 1), (8, .int (fA u 32 (z22).toNatClampNeg)), (7, .int r7), (6, .int i_k5), (4, .int w4_k5), (3, .int w3_k5), (0, .ref (a 0)), (1, .int x1), (2, .int x2)]) hx hb dX11_lastHeard_116 hl (by decide) rfl (fun ls hl => ?_)
                  refine lv_iload hx hb dX11_lastHeard_118 (lv_at hl 2 rfl) ?_
                  refine lv_sipush (v := 1000) hx hb dX11_lastHeard_120 (by decide) ?_
                  refine cs_ne (tgt := 130) (X := ((fA u 32 (z22).toNatClampNeg)).toInt) (Y := 1000) hx hb dX11_lastHeard_123 (by decide) rfl rfl (fun c59 => ?_) (fun c59 => ?_)
                  · refine lv_aload_n hx hb dX11_lastHeard_130 rfl (lv_at hl 7 rfl) ?_
                    refine lv_iload hx hb dX11_lastHeard_131 (lv_at hl 3 rfl) ?_
                    refine cVi (w := mW cy a) (As := [.int r7]) (rest := []) C hO (T_X11_placeOf l D cy a _ (by exact hJ) (r7) (by first | omega | decide)) (cwV 1 ht (gV wd_1733 wd_1735 wd_80 wd_121 wd_1736) rfl rfl rfl hd_yX11_placeOf ⟨Nat.le_of_ble_eq_true rfl, Nat.le_of_ble_eq_true rfl⟩) 0 rfl mW_0 rfl rfl hl.1 (Nat.le_of_ble_eq_true rfl) dX11_lastHeard_133 rfl ⟨Nat.zero_le _, Nat.zero_le _⟩ (fun r60 u61 H locs hp62 hO => ?_)
                    obtain ⟨hr60, hu61⟩ := hp62
                    rw [hu61] at hO
                    refine lv_istore (lv' := [(4, .int r60), (5, .int z58), (9, .int 1), (8, .int (fA u 32 (z22).toNatClampNeg)), (7, .int r7), (6, .int i_k5), (3, .int w3_k5), (0, .ref (a 0)), (1, .int x1), (2, .int x2)]) hx hb dX11_lastHeard_136 hl (by decide) rfl (fun ls hl => ?_)
                    refine lv_iload_n hx hb dX11_lastHeard_138 rfl (lv_at hl 6 rfl) ?_
                    refine lv_iconst (v := 1) hx hb dX11_lastHeard_139 (by decide) ?_
                    refine lv_iload hx hb dX11_lastHeard_140 (lv_at hl 4 rfl) ?_
                    refine lv_ishl hx hb dX11_lastHeard_142 ?_
                    refine lv_topi (fun z63 ez63 => ?_)
                    have g64 : 0 ≤ z63.toInt ∧ z63.toInt ≤ 2 ^ 5 := by rw [ez63]; exact i_shl1 rfl (by omega) (by omega) (by decide)
                    refine lv_ior hx hb dX11_lastHeard_143 ?_
                    refine lv_topi (fun z65 ez65 => ?_)
                    refine lv_istore_n (lv' := [(3, .int z65), (4, .int r60), (5, .int z58), (9, .int 1), (8, .int (fA u 32 (z22).toNatClampNeg)), (7, .int r7), (6, .int i_k5), (0, .ref (a 0)), (1, .int x1), (2, .int x2)]) hx hb dX11_lastHeard_144 rfl hl (by decide) rfl (fun ls hl => ?_)
                    obtain ⟨z66, ez66⟩ : ∃ z : Int32, z = i_k5 + Int32.ofInt 1 := ⟨_, rfl⟩
                    have e67 : z66.toInt = (i_k5).toInt + 1 := by rw [ez66]; exact i_add rfl rfl (by omega)
                    refine lv_iinc (v := z66) (lv' := [(6, .int z66), (3, .int z65), (4, .int r60), (5, .int z58), (9, .int 1), (8, .int (fA u 32 (z22).toNatClampNeg)), (7, .int r7), (0, .ref (a 0)), (1, .int x1), (2, .int x2)]) hx hb dX11_lastHeard_145 hl (k := 6) rfl ez66.symm (by decide) rfl (fun ls hl => ?_)
                    refine lv_goto (tgt := 17) hx hb dX11_lastHeard_148 (by decide) ?_
                    exact ih_k5 _ _ _ (z66) (z58) (r60) (z65) hO (lv_sub hl [0, 3, 2, 1, 7, 8, 9] rfl) (by first | decide | omega) (by first | decide | omega) (by first | decide | omega)
                  · refine lv_sipush (v := 1000) hx hb dX11_lastHeard_126 (by decide) ?_
                    refine hret _ _ _ _ _ _ dX11_lastHeard_129 rfl ?_ hO
                    exact rfl
                · refine lv_iconst (v := 1) hx hb dX11_lastHeard_109 (by decide) ?_
                  refine lv_goto (tgt := 115) hx hb dX11_lastHeard_110 (by decide) ?_
                  refine lv_iadd hx hb dX11_lastHeard_115 ?_
                  refine lv_topi (fun z68 ez68 => ?_)
                  refine lv_istore (lv' := [(5, .int z68), (9, .int 1), (8, .int (fA u 32 (z22).toNatClampNeg)), (7, .int r7), (6, .int i_k5), (4, .int w4_k5), (3, .int w3_k5), (0, .ref (a 0)), (1, .int x1), (2, .int x2)]) hx hb dX11_lastHeard_116 hl (by decide) rfl (fun ls hl => ?_)
                  refine lv_iload hx hb dX11_lastHeard_118 (lv_at hl 2 rfl) ?_
                  refine lv_sipush (v := 1000) hx hb dX11_lastHeard_120 (by decide) ?_
                  refine ct_ne (tgt := 130) (X := ((fA u 32 (z22).toNatClampNeg)).toInt) (Y := 1000) hx hb dX11_lastHeard_123 (by decide) rfl rfl (by omega) ?_
                  refine lv_aload_n hx hb dX11_lastHeard_130 rfl (lv_at hl 7 rfl) ?_
                  refine lv_iload hx hb dX11_lastHeard_131 (lv_at hl 3 rfl) ?_
                  refine cVi (w := mW cy a) (As := [.int r7]) (rest := []) C hO (T_X11_placeOf l D cy a _ (by exact hJ) (r7) (by first | omega | decide)) (cwV 1 ht (gV wd_1733 wd_1735 wd_80 wd_121 wd_1736) rfl rfl rfl hd_yX11_placeOf ⟨Nat.le_of_ble_eq_true rfl, Nat.le_of_ble_eq_true rfl⟩) 0 rfl mW_0 rfl rfl hl.1 (Nat.le_of_ble_eq_true rfl) dX11_lastHeard_133 rfl ⟨Nat.zero_le _, Nat.zero_le _⟩ (fun r69 u70 H locs hp71 hO => ?_)
                  obtain ⟨hr69, hu70⟩ := hp71
                  rw [hu70] at hO
                  refine lv_istore (lv' := [(4, .int r69), (5, .int z68), (9, .int 1), (8, .int (fA u 32 (z22).toNatClampNeg)), (7, .int r7), (6, .int i_k5), (3, .int w3_k5), (0, .ref (a 0)), (1, .int x1), (2, .int x2)]) hx hb dX11_lastHeard_136 hl (by decide) rfl (fun ls hl => ?_)
                  refine lv_iload_n hx hb dX11_lastHeard_138 rfl (lv_at hl 6 rfl) ?_
                  refine lv_iconst (v := 1) hx hb dX11_lastHeard_139 (by decide) ?_
                  refine lv_iload hx hb dX11_lastHeard_140 (lv_at hl 4 rfl) ?_
                  refine lv_ishl hx hb dX11_lastHeard_142 ?_
                  refine lv_topi (fun z72 ez72 => ?_)
                  have g73 : 0 ≤ z72.toInt ∧ z72.toInt ≤ 2 ^ 5 := by rw [ez72]; exact i_shl1 rfl (by omega) (by omega) (by decide)
                  refine lv_ior hx hb dX11_lastHeard_143 ?_
                  refine lv_topi (fun z74 ez74 => ?_)
                  refine lv_istore_n (lv' := [(3, .int z74), (4, .int r69), (5, .int z68), (9, .int 1), (8, .int (fA u 32 (z22).toNatClampNeg)), (7, .int r7), (6, .int i_k5), (0, .ref (a 0)), (1, .int x1), (2, .int x2)]) hx hb dX11_lastHeard_144 rfl hl (by decide) rfl (fun ls hl => ?_)
                  obtain ⟨z75, ez75⟩ : ∃ z : Int32, z = i_k5 + Int32.ofInt 1 := ⟨_, rfl⟩
                  have e76 : z75.toInt = (i_k5).toInt + 1 := by rw [ez75]; exact i_add rfl rfl (by omega)
                  refine lv_iinc (v := z75) (lv' := [(6, .int z75), (3, .int z74), (4, .int r69), (5, .int z68), (9, .int 1), (8, .int (fA u 32 (z22).toNatClampNeg)), (7, .int r7), (0, .ref (a 0)), (1, .int x1), (2, .int x2)]) hx hb dX11_lastHeard_145 hl (k := 6) rfl ez75.symm (by decide) rfl (fun ls hl => ?_)
                  refine lv_goto (tgt := 17) hx hb dX11_lastHeard_148 (by decide) ?_
                  exact ih_k5 _ _ _ (z75) (z68) (r69) (z74) hO (lv_sub hl [0, 3, 2, 1, 7, 8, 9] rfl) (by first | decide | omega) (by first | decide | omega) (by first | decide | omega)
          · subst hvr14
            refine bn_ne (X := 0) hx hb dX11_lastHeard_48 rfl (by omega) ?_ (tgt := 55) (by decide)
            refine lv_sipush (v := 1000) hx hb dX11_lastHeard_51 (by decide) ?_
            refine hret _ _ _ _ _ _ dX11_lastHeard_54 rfl ?_ hO
            exact rfl
  have zc77 : (0 : Int32).toInt = 0 := rfl
  exact LP_17_k5 4000 _ _ _ (0) (0) ((fA u 28 24)) (0) hO (lv_sub hl [0, 1, 2, 3, 4, 5, 6] rfl) (by first | decide | omega) (by first | decide | omega) (by first | decide | omega)
def Km8 (u v : St) : Prop := fI v 0 2 = fI u 0 2 ∧ fI v 0 3 = fI u 0 3 ∧ fI v 0 4 = fI u 0 4 ∧ fI v 0 5 = fI u 0 5 ∧ fI v 0 6 = fI u 0 6 ∧ fI v 0 7 = fI u 0 7 ∧ fI v 0 8 = fI u 0 8 ∧ fI v 0 9 = fI u 0 9 ∧ fL v 0 10 = fL u 0 10 ∧ fI v 0 36 = fI u 0 36 ∧ fI v 0 37 = fI u 0 37 ∧ fI v 0 38 = fI u 0 38 ∧ fI v 0 39 = fI u 0 39 ∧ fI v 0 40 = fI u 0 40 ∧ fI v 0 41 = fI u 0 41 ∧ fI v 0 42 = fI u 0 42 ∧ fI v 0 43 = fI u 0 43 ∧ fI v 0 45 = fI u 0 45 ∧ fI v 0 47 = fI u 0 47 ∧ fI v 0 48 = fI u 0 48 ∧ fI v 0 61 = fI u 0 61 ∧ fI v 0 62 = fI u 0 62 ∧ fA v 1 = fA u 1 ∧ fA v 2 = fA u 2 ∧ fA v 3 = fA u 3 ∧ fA v 4 = fA u 4 ∧ fA v 5 = fA u 5 ∧ fA v 6 = fA u 6 ∧ fA v 7 = fA u 7 ∧ fA v 8 = fA u 8 ∧ fA v 9 = fA u 9 ∧ fA v 10 = fA u 10 ∧ fA v 11 = fA u 11 ∧ fA v 12 = fA u 12 ∧ fA v 13 = fA u 13 ∧ fA v 14 = fA u 14 ∧ fA v 15 = fA u 15 ∧ fA v 16 = fA u 16 ∧ fA v 17 = fA u 17 ∧ fA v 18 = fA u 18 ∧ fA v 19 = fA u 19 ∧ fJ v 20 = fJ u 20 ∧ fJ v 21 = fJ u 21 ∧ fJ v 22 = fJ u 22 ∧ fA v 23 = fA u 23 ∧ fA v 24 = fA u 24 ∧ fA v 25 = fA u 25 ∧ fA v 26 = fA u 26 ∧ fA v 27 = fA u 27 ∧ fA v 28 = fA u 28 ∧ fA v 29 = fA u 29 ∧ fA v 31 = fA u 31 ∧ fA v 33 = fA u 33 ∧ fA v 34 = fA u 34 ∧ fA v 35 = fA u 35 ∧ fA v 36 = fA u 36 ∧ fA v 37 = fA u 37 ∧ fA v 38 = fA u 38 ∧ fA v 39 = fA u 39 ∧ fA v 40 = fA u 40 ∧ fA v 41 = fA u 41 ∧ fA v 42 = fA u 42
theorem Km8.rf {u : St} : Km8 u u := ⟨rfl, rfl, rfl, rfl, rfl, rfl, rfl, rfl, rfl, rfl, rfl, rfl, rfl, rfl, rfl, rfl, rfl, rfl, rfl, rfl, rfl, rfl, rfl, rfl, rfl, rfl, rfl, rfl, rfl, rfl, rfl, rfl, rfl, rfl, rfl, rfl, rfl, rfl, rfl, rfl, rfl, rfl, rfl, rfl, rfl, rfl, rfl, rfl, rfl, rfl, rfl, rfl, rfl, rfl, rfl, rfl, rfl, rfl, rfl, rfl, rfl, rfl⟩
theorem Km8.tr {u v w : St} (h1 : Km8 u v) (h2 : Km8 v w) : Km8 u w := ⟨(h2.1).trans h1.1, (h2.2.1).trans h1.2.1, (h2.2.2.1).trans h1.2.2.1, (h2.2.2.2.1).trans h1.2.2.2.1, (h2.2.2.2.2.1).trans h1.2.2.2.2.1, (h2.2.2.2.2.2.1).trans h1.2.2.2.2.2.1, (h2.2.2.2.2.2.2.1).trans h1.2.2.2.2.2.2.1, (h2.2.2.2.2.2.2.2.1).trans h1.2.2.2.2.2.2.2.1, (h2.2.2.2.2.2.2.2.2.1).trans h1.2.2.2.2.2.2.2.2.1, (h2.2.2.2.2.2.2.2.2.2.1).trans h1.2.2.2.2.2.2.2.2.2.1, (h2.2.2.2.2.2.2.2.2.2.2.1).trans h1.2.2.2.2.2.2.2.2.2.2.1, (h2.2.2.2.2.2.2.2.2.2.2.2.1).trans h1.2.2.2.2.2.2.2.2.2.2.2.1, (h2.2.2.2.2.2.2.2.2.2.2.2.2.1).trans h1.2.2.2.2.2.2.2.2.2.2.2.2.1, (h2.2.2.2.2.2.2.2.2.2.2.2.2.2.1).trans h1.2.2.2.2.2.2.2.2.2.2.2.2.2.1, (h2.2.2.2.2.2.2.2.2.2.2.2.2.2.2.1).trans h1.2.2.2.2.2.2.2.2.2.2.2.2.2.2.1, (h2.2.2.2.2.2.2.2.2.2.2.2.2.2.2.2.1).trans h1.2.2.2.2.2.2.2.2.2.2.2.2.2.2.2.1, (h2.2.2.2.2.2.2.2.2.2.2.2.2.2.2.2.2.1).trans h1.2.2.2.2.2.2.2.2.2.2.2.2.2.2.2.2.1, (h2.2.2.2.2.2.2.2.2.2.2.2.2.2.2.2.2.2.1).trans h1.2.2.2.2.2.2.2.2.2.2.2.2.2.2.2.2.2.1, (h2.2.2.2.2.2.2.2.2.2.2.2.2.2.2.2.2.2.2.1).trans h1.2.2.2.2.2.2.2.2.2.2.2.2.2.2.2.2.2.2.1, (h2.2.2.2.2.2.2.2.2.2.2.2.2.2.2.2.2.2.2.2.1).trans h1.2.2.2.2.2.2.2.2.2.2.2.2.2.2.2.2.2.2.2.1, (h2.2.2.2.2.2.2.2.2.2.2.2.2.2.2.2.2.2.2.2.2.1).trans h1.2.2.2.2.2.2.2.2.2.2.2.2.2.2.2.2.2.2.2.2.1, (h2.2.2.2.2.2.2.2.2.2.2.2.2.2.2.2.2.2.2.2.2.2.1).trans h1.2.2.2.2.2.2.2.2.2.2.2.2.2.2.2.2.2.2.2.2.2.1, (h2.2.2.2.2.2.2.2.2.2.2.2.2.2.2.2.2.2.2.2.2.2.2.1).trans h1.2.2.2.2.2.2.2.2.2.2.2.2.2.2.2.2.2.2.2.2.2.2.1, (h2.2.2.2.2.2.2.2.2.2.2.2.2.2.2.2.2.2.2.2.2.2.2.2.1).trans h1.2.2.2.2.2.2.2.2.2.2.2.2.2.2.2.2.2.2.2.2.2.2.2.1, (h2.2.2.2.2.2.2.2.2.2.2.2.2.2.2.2.2.2.2.2.2.2.2.2.2.1).trans h1.2.2.2.2.2.2.2.2.2.2.2.2.2.2.2.2.2.2.2.2.2.2.2.2.1, (h2.2.2.2.2.2.2.2.2.2.2.2.2.2.2.2.2.2.2.2.2.2.2.2.2.2.1).trans h1.2.2.2.2.2.2.2.2.2.2.2.2.2.2.2.2.2.2.2.2.2.2.2.2.2.1, (h2.2.2.2.2.2.2.2.2.2.2.2.2.2.2.2.2.2.2.2.2.2.2.2.2.2.2.1).trans h1.2.2.2.2.2.2.2.2.2.2.2.2.2.2.2.2.2.2.2.2.2.2.2.2.2.2.1, (h2.2.2.2.2.2.2.2.2.2.2.2.2.2.2.2.2.2.2.2.2.2.2.2.2.2.2.2.1).trans h1.2.2.2.2.2.2.2.2.2.2.2.2.2.2.2.2.2.2.2.2.2.2.2.2.2.2.2.1, (h2.2.2.2.2.2.2.2.2.2.2.2.2.2.2.2.2.2.2.2.2.2.2.2.2.2.2.2.2.1).trans h1.2.2.2.2.2.2.2.2.2.2.2.2.2.2.2.2.2.2.2.2.2.2.2.2.2.2.2.2.1, (h2.2.2.2.2.2.2.2.2.2.2.2.2.2.2.2.2.2.2.2.2.2.2.2.2.2.2.2.2.2.1).trans h1.2.2.2.2.2.2.2.2.2.2.2.2.2.2.2.2.2.2.2.2.2.2.2.2.2.2.2.2.2.1, (h2.2.2.2.2.2.2.2.2.2.2.2.2.2.2.2.2.2.2.2.2.2.2.2.2.2.2.2.2.2.2.1).trans h1.2.2.2.2.2.2.2.2.2.2.2.2.2.2.2.2.2.2.2.2.2.2.2.2.2.2.2.2.2.2.1, (h2.2.2.2.2.2.2.2.2.2.2.2.2.2.2.2.2.2.2.2.2.2.2.2.2.2.2.2.2.2.2.2.1).trans h1.2.2.2.2.2.2.2.2.2.2.2.2.2.2.2.2.2.2.2.2.2.2.2.2.2.2.2.2.2.2.2.1, (h2.2.2.2.2.2.2.2.2.2.2.2.2.2.2.2.2.2.2.2.2.2.2.2.2.2.2.2.2.2.2.2.2.1).trans h1.2.2.2.2.2.2.2.2.2.2.2.2.2.2.2.2.2.2.2.2.2.2.2.2.2.2.2.2.2.2.2.2.1, (h2.2.2.2.2.2.2.2.2.2.2.2.2.2.2.2.2.2.2.2.2.2.2.2.2.2.2.2.2.2.2.2.2.2.1).trans h1.2.2.2.2.2.2.2.2.2.2.2.2.2.2.2.2.2.2.2.2.2.2.2.2.2.2.2.2.2.2.2.2.2.1, (h2.2.2.2.2.2.2.2.2.2.2.2.2.2.2.2.2.2.2.2.2.2.2.2.2.2.2.2.2.2.2.2.2.2.2.1).trans h1.2.2.2.2.2.2.2.2.2.2.2.2.2.2.2.2.2.2.2.2.2.2.2.2.2.2.2.2.2.2.2.2.2.2.1, (h2.2.2.2.2.2.2.2.2.2.2.2.2.2.2.2.2.2.2.2.2.2.2.2.2.2.2.2.2.2.2.2.2.2.2.2.1).trans h1.2.2.2.2.2.2.2.2.2.2.2.2.2.2.2.2.2.2.2.2.2.2.2.2.2.2.2.2.2.2.2.2.2.2.2.1, (h2.2.2.2.2.2.2.2.2.2.2.2.2.2.2.2.2.2.2.2.2.2.2.2.2.2.2.2.2.2.2.2.2.2.2.2.2.1).trans h1.2.2.2.2.2.2.2.2.2.2.2.2.2.2.2.2.2.2.2.2.2.2.2.2.2.2.2.2.2.2.2.2.2.2.2.2.1, (h2.2.2.2.2.2.2.2.2.2.2.2.2.2.2.2.2.2.2.2.2.2.2.2.2.2.2.2.2.2.2.2.2.2.2.2.2.2.1).trans h1.2.2.2.2.2.2.2.2.2.2.2.2.2.2.2.2.2.2.2.2.2.2.2.2.2.2.2.2.2.2.2.2.2.2.2.2.2.1, (h2.2.2.2.2.2.2.2.2.2.2.2.2.2.2.2.2.2.2.2.2.2.2.2.2.2.2.2.2.2.2.2.2.2.2.2.2.2.2.1).trans h1.2.2.2.2.2.2.2.2.2.2.2.2.2.2.2.2.2.2.2.2.2.2.2.2.2.2.2.2.2.2.2.2.2.2.2.2.2.2.1, (h2.2.2.2.2.2.2.2.2.2.2.2.2.2.2.2.2.2.2.2.2.2.2.2.2.2.2.2.2.2.2.2.2.2.2.2.2.2.2.2.1).trans h1.2.2.2.2.2.2.2.2.2.2.2.2.2.2.2.2.2.2.2.2.2.2.2.2.2.2.2.2.2.2.2.2.2.2.2.2.2.2.2.1, (h2.2.2.2.2.2.2.2.2.2.2.2.2.2.2.2.2.2.2.2.2.2.2.2.2.2.2.2.2.2.2.2.2.2.2.2.2.2.2.2.2.1).trans h1.2.2.2.2.2.2.2.2.2.2.2.2.2.2.2.2.2.2.2.2.2.2.2.2.2.2.2.2.2.2.2.2.2.2.2.2.2.2.2.2.1, (h2.2.2.2.2.2.2.2.2.2.2.2.2.2.2.2.2.2.2.2.2.2.2.2.2.2.2.2.2.2.2.2.2.2.2.2.2.2.2.2.2.2.1).trans h1.2.2.2.2.2.2.2.2.2.2.2.2.2.2.2.2.2.2.2.2.2.2.2.2.2.2.2.2.2.2.2.2.2.2.2.2.2.2.2.2.2.1, (h2.2.2.2.2.2.2.2.2.2.2.2.2.2.2.2.2.2.2.2.2.2.2.2.2.2.2.2.2.2.2.2.2.2.2.2.2.2.2.2.2.2.2.1).trans h1.2.2.2.2.2.2.2.2.2.2.2.2.2.2.2.2.2.2.2.2.2.2.2.2.2.2.2.2.2.2.2.2.2.2.2.2.2.2.2.2.2.2.1, (h2.2.2.2.2.2.2.2.2.2.2.2.2.2.2.2.2.2.2.2.2.2.2.2.2.2.2.2.2.2.2.2.2.2.2.2.2.2.2.2.2.2.2.2.1).trans h1.2.2.2.2.2.2.2.2.2.2.2.2.2.2.2.2.2.2.2.2.2.2.2.2.2.2.2.2.2.2.2.2.2.2.2.2.2.2.2.2.2.2.2.1, (h2.2.2.2.2.2.2.2.2.2.2.2.2.2.2.2.2.2.2.2.2.2.2.2.2.2.2.2.2.2.2.2.2.2.2.2.2.2.2.2.2.2.2.2.2.1).trans h1.2.2.2.2.2.2.2.2.2.2.2.2.2.2.2.2.2.2.2.2.2.2.2.2.2.2.2.2.2.2.2.2.2.2.2.2.2.2.2.2.2.2.2.2.1, (h2.2.2.2.2.2.2.2.2.2.2.2.2.2.2.2.2.2.2.2.2.2.2.2.2.2.2.2.2.2.2.2.2.2.2.2.2.2.2.2.2.2.2.2.2.2.1).trans h1.2.2.2.2.2.2.2.2.2.2.2.2.2.2.2.2.2.2.2.2.2.2.2.2.2.2.2.2.2.2.2.2.2.2.2.2.2.2.2.2.2.2.2.2.2.1, (h2.2.2.2.2.2.2.2.2.2.2.2.2.2.2.2.2.2.2.2.2.2.2.2.2.2.2.2.2.2.2.2.2.2.2.2.2.2.2.2.2.2.2.2.2.2.2.1).trans h1.2.2.2.2.2.2.2.2.2.2.2.2.2.2.2.2.2.2.2.2.2.2.2.2.2.2.2.2.2.2.2.2.2.2.2.2.2.2.2.2.2.2.2.2.2.2.1, (h2.2.2.2.2.2.2.2.2.2.2.2.2.2.2.2.2.2.2.2.2.2.2.2.2.2.2.2.2.2.2.2.2.2.2.2.2.2.2.2.2.2.2.2.2.2.2.2.1).trans h1.2.2.2.2.2.2.2.2.2.2.2.2.2.2.2.2.2.2.2.2.2.2.2.2.2.2.2.2.2.2.2.2.2.2.2.2.2.2.2.2.2.2.2.2.2.2.2.1, (h2.2.2.2.2.2.2.2.2.2.2.2.2.2.2.2.2.2.2.2.2.2.2.2.2.2.2.2.2.2.2.2.2.2.2.2.2.2.2.2.2.2.2.2.2.2.2.2.2.1).trans h1.2.2.2.2.2.2.2.2.2.2.2.2.2.2.2.2.2.2.2.2.2.2.2.2.2.2.2.2.2.2.2.2.2.2.2.2.2.2.2.2.2.2.2.2.2.2.2.2.1, (h2.2.2.2.2.2.2.2.2.2.2.2.2.2.2.2.2.2.2.2.2.2.2.2.2.2.2.2.2.2.2.2.2.2.2.2.2.2.2.2.2.2.2.2.2.2.2.2.2.2.1).trans h1.2.2.2.2.2.2.2.2.2.2.2.2.2.2.2.2.2.2.2.2.2.2.2.2.2.2.2.2.2.2.2.2.2.2.2.2.2.2.2.2.2.2.2.2.2.2.2.2.2.1, (h2.2.2.2.2.2.2.2.2.2.2.2.2.2.2.2.2.2.2.2.2.2.2.2.2.2.2.2.2.2.2.2.2.2.2.2.2.2.2.2.2.2.2.2.2.2.2.2.2.2.2.1).trans h1.2.2.2.2.2.2.2.2.2.2.2.2.2.2.2.2.2.2.2.2.2.2.2.2.2.2.2.2.2.2.2.2.2.2.2.2.2.2.2.2.2.2.2.2.2.2.2.2.2.2.1, (h2.2.2.2.2.2.2.2.2.2.2.2.2.2.2.2.2.2.2.2.2.2.2.2.2.2.2.2.2.2.2.2.2.2.2.2.2.2.2.2.2.2.2.2.2.2.2.2.2.2.2.2.1).trans h1.2.2.2.2.2.2.2.2.2.2.2.2.2.2.2.2.2.2.2.2.2.2.2.2.2.2.2.2.2.2.2.2.2.2.2.2.2.2.2.2.2.2.2.2.2.2.2.2.2.2.2.1, (h2.2.2.2.2.2.2.2.2.2.2.2.2.2.2.2.2.2.2.2.2.2.2.2.2.2.2.2.2.2.2.2.2.2.2.2.2.2.2.2.2.2.2.2.2.2.2.2.2.2.2.2.2.1).trans h1.2.2.2.2.2.2.2.2.2.2.2.2.2.2.2.2.2.2.2.2.2.2.2.2.2.2.2.2.2.2.2.2.2.2.2.2.2.2.2.2.2.2.2.2.2.2.2.2.2.2.2.2.1, (h2.2.2.2.2.2.2.2.2.2.2.2.2.2.2.2.2.2.2.2.2.2.2.2.2.2.2.2.2.2.2.2.2.2.2.2.2.2.2.2.2.2.2.2.2.2.2.2.2.2.2.2.2.2.1).trans h1.2.2.2.2.2.2.2.2.2.2.2.2.2.2.2.2.2.2.2.2.2.2.2.2.2.2.2.2.2.2.2.2.2.2.2.2.2.2.2.2.2.2.2.2.2.2.2.2.2.2.2.2.2.1, (h2.2.2.2.2.2.2.2.2.2.2.2.2.2.2.2.2.2.2.2.2.2.2.2.2.2.2.2.2.2.2.2.2.2.2.2.2.2.2.2.2.2.2.2.2.2.2.2.2.2.2.2.2.2.2.1).trans h1.2.2.2.2.2.2.2.2.2.2.2.2.2.2.2.2.2.2.2.2.2.2.2.2.2.2.2.2.2.2.2.2.2.2.2.2.2.2.2.2.2.2.2.2.2.2.2.2.2.2.2.2.2.2.1, (h2.2.2.2.2.2.2.2.2.2.2.2.2.2.2.2.2.2.2.2.2.2.2.2.2.2.2.2.2.2.2.2.2.2.2.2.2.2.2.2.2.2.2.2.2.2.2.2.2.2.2.2.2.2.2.2.1).trans h1.2.2.2.2.2.2.2.2.2.2.2.2.2.2.2.2.2.2.2.2.2.2.2.2.2.2.2.2.2.2.2.2.2.2.2.2.2.2.2.2.2.2.2.2.2.2.2.2.2.2.2.2.2.2.2.1, (h2.2.2.2.2.2.2.2.2.2.2.2.2.2.2.2.2.2.2.2.2.2.2.2.2.2.2.2.2.2.2.2.2.2.2.2.2.2.2.2.2.2.2.2.2.2.2.2.2.2.2.2.2.2.2.2.2.1).trans h1.2.2.2.2.2.2.2.2.2.2.2.2.2.2.2.2.2.2.2.2.2.2.2.2.2.2.2.2.2.2.2.2.2.2.2.2.2.2.2.2.2.2.2.2.2.2.2.2.2.2.2.2.2.2.2.2.1, (h2.2.2.2.2.2.2.2.2.2.2.2.2.2.2.2.2.2.2.2.2.2.2.2.2.2.2.2.2.2.2.2.2.2.2.2.2.2.2.2.2.2.2.2.2.2.2.2.2.2.2.2.2.2.2.2.2.2.1).trans h1.2.2.2.2.2.2.2.2.2.2.2.2.2.2.2.2.2.2.2.2.2.2.2.2.2.2.2.2.2.2.2.2.2.2.2.2.2.2.2.2.2.2.2.2.2.2.2.2.2.2.2.2.2.2.2.2.2.1, (h2.2.2.2.2.2.2.2.2.2.2.2.2.2.2.2.2.2.2.2.2.2.2.2.2.2.2.2.2.2.2.2.2.2.2.2.2.2.2.2.2.2.2.2.2.2.2.2.2.2.2.2.2.2.2.2.2.2.2.1).trans h1.2.2.2.2.2.2.2.2.2.2.2.2.2.2.2.2.2.2.2.2.2.2.2.2.2.2.2.2.2.2.2.2.2.2.2.2.2.2.2.2.2.2.2.2.2.2.2.2.2.2.2.2.2.2.2.2.2.2.1, (h2.2.2.2.2.2.2.2.2.2.2.2.2.2.2.2.2.2.2.2.2.2.2.2.2.2.2.2.2.2.2.2.2.2.2.2.2.2.2.2.2.2.2.2.2.2.2.2.2.2.2.2.2.2.2.2.2.2.2.2.1).trans h1.2.2.2.2.2.2.2.2.2.2.2.2.2.2.2.2.2.2.2.2.2.2.2.2.2.2.2.2.2.2.2.2.2.2.2.2.2.2.2.2.2.2.2.2.2.2.2.2.2.2.2.2.2.2.2.2.2.2.2.1, (h2.2.2.2.2.2.2.2.2.2.2.2.2.2.2.2.2.2.2.2.2.2.2.2.2.2.2.2.2.2.2.2.2.2.2.2.2.2.2.2.2.2.2.2.2.2.2.2.2.2.2.2.2.2.2.2.2.2.2.2.2.1).trans h1.2.2.2.2.2.2.2.2.2.2.2.2.2.2.2.2.2.2.2.2.2.2.2.2.2.2.2.2.2.2.2.2.2.2.2.2.2.2.2.2.2.2.2.2.2.2.2.2.2.2.2.2.2.2.2.2.2.2.2.2.1, (h2.2.2.2.2.2.2.2.2.2.2.2.2.2.2.2.2.2.2.2.2.2.2.2.2.2.2.2.2.2.2.2.2.2.2.2.2.2.2.2.2.2.2.2.2.2.2.2.2.2.2.2.2.2.2.2.2.2.2.2.2.2).trans h1.2.2.2.2.2.2.2.2.2.2.2.2.2.2.2.2.2.2.2.2.2.2.2.2.2.2.2.2.2.2.2.2.2.2.2.2.2.2.2.2.2.2.2.2.2.2.2.2.2.2.2.2.2.2.2.2.2.2.2.2.2⟩
theorem dX11_round_0 : decode cX11_round 0 = .ok (.aload_n 0, 1) := by decide +kernel
theorem dX11_round_1 : decode cX11_round 1 = .ok (.iconst 0, 1) := by decide +kernel
theorem dX11_round_2 : decode cX11_round 2 = .ok (.putfield 398, 3) := by decide +kernel
theorem dX11_round_5 : decode cX11_round 5 = .ok (.aload_n 0, 1) := by decide +kernel
theorem dX11_round_6 : decode cX11_round 6 = .ok (.invokevirtual 442, 3) := by decide +kernel
theorem dX11_round_9 : decode cX11_round 9 = .ok (.invokestatic 316, 3) := by decide +kernel
theorem dX11_round_12 : decode cX11_round 12 = .ok (.istore_n 1, 1) := by decide +kernel
theorem dX11_round_13 : decode cX11_round 13 = .ok (.iload_n 1, 1) := by decide +kernel
theorem dX11_round_14 : decode cX11_round 14 = .ok (.ifCond .ne 5, 3) := by decide +kernel
theorem dX11_round_17 : decode cX11_round 17 = .ok (.iconst (-1), 1) := by decide +kernel
theorem dX11_round_18 : decode cX11_round 18 = .ok (.ireturn, 1) := by decide +kernel
theorem dX11_round_19 : decode cX11_round 19 = .ok (.aload_n 0, 1) := by decide +kernel
theorem dX11_round_20 : decode cX11_round 20 = .ok (.invokevirtual 466, 3) := by decide +kernel
theorem dX11_round_23 : decode cX11_round 23 = .ok (.iconst (-1), 1) := by decide +kernel
theorem dX11_round_24 : decode cX11_round 24 = .ok (.istore_n 2, 1) := by decide +kernel
theorem dX11_round_25 : decode cX11_round 25 = .ok (.sipush 1000, 3) := by decide +kernel
theorem dX11_round_28 : decode cX11_round 28 = .ok (.istore_n 3, 1) := by decide +kernel
theorem dX11_round_29 : decode cX11_round 29 = .ok (.iconst 0, 1) := by decide +kernel
theorem dX11_round_30 : decode cX11_round 30 = .ok (.istore 4, 2) := by decide +kernel
theorem dX11_round_32 : decode cX11_round 32 = .ok (.iload 4, 2) := by decide +kernel
theorem dX11_round_34 : decode cX11_round 34 = .ok (.aload_n 0, 1) := by decide +kernel
theorem dX11_round_35 : decode cX11_round 35 = .ok (.invokevirtual 371, 3) := by decide +kernel
theorem dX11_round_38 : decode cX11_round 38 = .ok (.iload_n 1, 1) := by decide +kernel
theorem dX11_round_39 : decode cX11_round 39 = .ok (.invokestatic 472, 3) := by decide +kernel
theorem dX11_round_42 : decode cX11_round 42 = .ok (.if_icmp .ge 33, 3) := by decide +kernel
theorem dX11_round_45 : decode cX11_round 45 = .ok (.aload_n 0, 1) := by decide +kernel
theorem dX11_round_46 : decode cX11_round 46 = .ok (.iload 4, 2) := by decide +kernel
theorem dX11_round_48 : decode cX11_round 48 = .ok (.iload_n 1, 1) := by decide +kernel
theorem dX11_round_49 : decode cX11_round 49 = .ok (.invokevirtual 478, 3) := by decide +kernel
theorem dX11_round_52 : decode cX11_round 52 = .ok (.istore 5, 2) := by decide +kernel
theorem dX11_round_54 : decode cX11_round 54 = .ok (.iload 5, 2) := by decide +kernel
theorem dX11_round_56 : decode cX11_round 56 = .ok (.iload_n 3, 1) := by decide +kernel
theorem dX11_round_57 : decode cX11_round 57 = .ok (.if_icmp .lt 6, 3) := by decide +kernel
theorem dX11_round_60 : decode cX11_round 60 = .ok (.goto 9, 3) := by decide +kernel
theorem dX11_round_63 : decode cX11_round 63 = .ok (.iload 4, 2) := by decide +kernel
theorem dX11_round_65 : decode cX11_round 65 = .ok (.istore_n 2, 1) := by decide +kernel
theorem dX11_round_66 : decode cX11_round 66 = .ok (.iload 5, 2) := by decide +kernel
theorem dX11_round_68 : decode cX11_round 68 = .ok (.istore_n 3, 1) := by decide +kernel
theorem dX11_round_69 : decode cX11_round 69 = .ok (.iinc 4 1, 3) := by decide +kernel
theorem dX11_round_72 : decode cX11_round 72 = .ok (.goto (-40), 3) := by decide +kernel
theorem dX11_round_75 : decode cX11_round 75 = .ok (.iload_n 2, 1) := by decide +kernel
theorem dX11_round_76 : decode cX11_round 76 = .ok (.ifCond .ge 5, 3) := by decide +kernel
theorem dX11_round_79 : decode cX11_round 79 = .ok (.iconst (-1), 1) := by decide +kernel
theorem dX11_round_80 : decode cX11_round 80 = .ok (.ireturn, 1) := by decide +kernel
theorem dX11_round_81 : decode cX11_round 81 = .ok (.iconst 0, 1) := by decide +kernel
theorem dX11_round_82 : decode cX11_round 82 = .ok (.istore 4, 2) := by decide +kernel
theorem dX11_round_84 : decode cX11_round 84 = .ok (.iload 4, 2) := by decide +kernel
theorem dX11_round_86 : decode cX11_round 86 = .ok (.iload_n 1, 1) := by decide +kernel
theorem dX11_round_87 : decode cX11_round 87 = .ok (.if_icmp .ge 24, 3) := by decide +kernel
theorem dX11_round_90 : decode cX11_round 90 = .ok (.aload_n 0, 1) := by decide +kernel
theorem dX11_round_91 : decode cX11_round 91 = .ok (.getfield 106, 3) := by decide +kernel
theorem dX11_round_94 : decode cX11_round 94 = .ok (.iload 4, 2) := by decide +kernel
theorem dX11_round_96 : decode cX11_round 96 = .ok (.aload_n 0, 1) := by decide +kernel
theorem dX11_round_97 : decode cX11_round 97 = .ok (.iload_n 2, 1) := by decide +kernel
theorem dX11_round_98 : decode cX11_round 98 = .ok (.iload_n 1, 1) := by decide +kernel
theorem dX11_round_99 : decode cX11_round 99 = .ok (.iload 4, 2) := by decide +kernel
theorem dX11_round_101 : decode cX11_round 101 = .ok (.invokevirtual 475, 3) := by decide +kernel
theorem dX11_round_104 : decode cX11_round 104 = .ok (.iastore, 1) := by decide +kernel
theorem dX11_round_105 : decode cX11_round 105 = .ok (.iinc 4 1, 3) := by decide +kernel
theorem dX11_round_108 : decode cX11_round 108 = .ok (.goto (-24), 3) := by decide +kernel
theorem dX11_round_111 : decode cX11_round 111 = .ok (.aload_n 0, 1) := by decide +kernel
theorem dX11_round_112 : decode cX11_round 112 = .ok (.iload_n 1, 1) := by decide +kernel
theorem dX11_round_113 : decode cX11_round 113 = .ok (.putfield 398, 3) := by decide +kernel
theorem dX11_round_116 : decode cX11_round 116 = .ok (.iload_n 3, 1) := by decide +kernel
theorem dX11_round_117 : decode cX11_round 117 = .ok (.ireturn, 1) := by decide +kernel
theorem wd_1955 : (Cond.code ⟨"WebCourtModel", "round", "()I"⟩ prog_13_method_108_code (6 : Nat) (Option.some FieldType.int)) ∈ gtb := gtb_c8 166 (by decide +kernel) rfl
theorem Km8_wI50 {u v : St} {x : Int32} (h : Km8 u v) : Km8 u (sI v 0 50 x) := ⟨h.1, h.2.1, h.2.2.1, h.2.2.2.1, h.2.2.2.2.1, h.2.2.2.2.2.1, h.2.2.2.2.2.2.1, h.2.2.2.2.2.2.2.1, h.2.2.2.2.2.2.2.2.1, h.2.2.2.2.2.2.2.2.2.1, h.2.2.2.2.2.2.2.2.2.2.1, h.2.2.2.2.2.2.2.2.2.2.2.1, h.2.2.2.2.2.2.2.2.2.2.2.2.1, h.2.2.2.2.2.2.2.2.2.2.2.2.2.1, h.2.2.2.2.2.2.2.2.2.2.2.2.2.2.1, h.2.2.2.2.2.2.2.2.2.2.2.2.2.2.2.1, h.2.2.2.2.2.2.2.2.2.2.2.2.2.2.2.2.1, h.2.2.2.2.2.2.2.2.2.2.2.2.2.2.2.2.2.1, h.2.2.2.2.2.2.2.2.2.2.2.2.2.2.2.2.2.2.1, h.2.2.2.2.2.2.2.2.2.2.2.2.2.2.2.2.2.2.2.1, h.2.2.2.2.2.2.2.2.2.2.2.2.2.2.2.2.2.2.2.2.1, h.2.2.2.2.2.2.2.2.2.2.2.2.2.2.2.2.2.2.2.2.2.1, h.2.2.2.2.2.2.2.2.2.2.2.2.2.2.2.2.2.2.2.2.2.2.1, h.2.2.2.2.2.2.2.2.2.2.2.2.2.2.2.2.2.2.2.2.2.2.2.1, h.2.2.2.2.2.2.2.2.2.2.2.2.2.2.2.2.2.2.2.2.2.2.2.2.1, h.2.2.2.2.2.2.2.2.2.2.2.2.2.2.2.2.2.2.2.2.2.2.2.2.2.1, h.2.2.2.2.2.2.2.2.2.2.2.2.2.2.2.2.2.2.2.2.2.2.2.2.2.2.1, h.2.2.2.2.2.2.2.2.2.2.2.2.2.2.2.2.2.2.2.2.2.2.2.2.2.2.2.1, h.2.2.2.2.2.2.2.2.2.2.2.2.2.2.2.2.2.2.2.2.2.2.2.2.2.2.2.2.1, h.2.2.2.2.2.2.2.2.2.2.2.2.2.2.2.2.2.2.2.2.2.2.2.2.2.2.2.2.2.1, h.2.2.2.2.2.2.2.2.2.2.2.2.2.2.2.2.2.2.2.2.2.2.2.2.2.2.2.2.2.2.1, h.2.2.2.2.2.2.2.2.2.2.2.2.2.2.2.2.2.2.2.2.2.2.2.2.2.2.2.2.2.2.2.1, h.2.2.2.2.2.2.2.2.2.2.2.2.2.2.2.2.2.2.2.2.2.2.2.2.2.2.2.2.2.2.2.2.1, h.2.2.2.2.2.2.2.2.2.2.2.2.2.2.2.2.2.2.2.2.2.2.2.2.2.2.2.2.2.2.2.2.2.1, h.2.2.2.2.2.2.2.2.2.2.2.2.2.2.2.2.2.2.2.2.2.2.2.2.2.2.2.2.2.2.2.2.2.2.1, h.2.2.2.2.2.2.2.2.2.2.2.2.2.2.2.2.2.2.2.2.2.2.2.2.2.2.2.2.2.2.2.2.2.2.2.1, h.2.2.2.2.2.2.2.2.2.2.2.2.2.2.2.2.2.2.2.2.2.2.2.2.2.2.2.2.2.2.2.2.2.2.2.2.1, h.2.2.2.2.2.2.2.2.2.2.2.2.2.2.2.2.2.2.2.2.2.2.2.2.2.2.2.2.2.2.2.2.2.2.2.2.2.1, h.2.2.2.2.2.2.2.2.2.2.2.2.2.2.2.2.2.2.2.2.2.2.2.2.2.2.2.2.2.2.2.2.2.2.2.2.2.2.1, h.2.2.2.2.2.2.2.2.2.2.2.2.2.2.2.2.2.2.2.2.2.2.2.2.2.2.2.2.2.2.2.2.2.2.2.2.2.2.2.1, h.2.2.2.2.2.2.2.2.2.2.2.2.2.2.2.2.2.2.2.2.2.2.2.2.2.2.2.2.2.2.2.2.2.2.2.2.2.2.2.2.1, h.2.2.2.2.2.2.2.2.2.2.2.2.2.2.2.2.2.2.2.2.2.2.2.2.2.2.2.2.2.2.2.2.2.2.2.2.2.2.2.2.2.1, h.2.2.2.2.2.2.2.2.2.2.2.2.2.2.2.2.2.2.2.2.2.2.2.2.2.2.2.2.2.2.2.2.2.2.2.2.2.2.2.2.2.2.1, h.2.2.2.2.2.2.2.2.2.2.2.2.2.2.2.2.2.2.2.2.2.2.2.2.2.2.2.2.2.2.2.2.2.2.2.2.2.2.2.2.2.2.2.1, h.2.2.2.2.2.2.2.2.2.2.2.2.2.2.2.2.2.2.2.2.2.2.2.2.2.2.2.2.2.2.2.2.2.2.2.2.2.2.2.2.2.2.2.2.1, h.2.2.2.2.2.2.2.2.2.2.2.2.2.2.2.2.2.2.2.2.2.2.2.2.2.2.2.2.2.2.2.2.2.2.2.2.2.2.2.2.2.2.2.2.2.1, h.2.2.2.2.2.2.2.2.2.2.2.2.2.2.2.2.2.2.2.2.2.2.2.2.2.2.2.2.2.2.2.2.2.2.2.2.2.2.2.2.2.2.2.2.2.2.1, h.2.2.2.2.2.2.2.2.2.2.2.2.2.2.2.2.2.2.2.2.2.2.2.2.2.2.2.2.2.2.2.2.2.2.2.2.2.2.2.2.2.2.2.2.2.2.2.1, h.2.2.2.2.2.2.2.2.2.2.2.2.2.2.2.2.2.2.2.2.2.2.2.2.2.2.2.2.2.2.2.2.2.2.2.2.2.2.2.2.2.2.2.2.2.2.2.2.1, h.2.2.2.2.2.2.2.2.2.2.2.2.2.2.2.2.2.2.2.2.2.2.2.2.2.2.2.2.2.2.2.2.2.2.2.2.2.2.2.2.2.2.2.2.2.2.2.2.2.1, h.2.2.2.2.2.2.2.2.2.2.2.2.2.2.2.2.2.2.2.2.2.2.2.2.2.2.2.2.2.2.2.2.2.2.2.2.2.2.2.2.2.2.2.2.2.2.2.2.2.2.1, h.2.2.2.2.2.2.2.2.2.2.2.2.2.2.2.2.2.2.2.2.2.2.2.2.2.2.2.2.2.2.2.2.2.2.2.2.2.2.2.2.2.2.2.2.2.2.2.2.2.2.2.1, h.2.2.2.2.2.2.2.2.2.2.2.2.2.2.2.2.2.2.2.2.2.2.2.2.2.2.2.2.2.2.2.2.2.2.2.2.2.2.2.2.2.2.2.2.2.2.2.2.2.2.2.2.1, h.2.2.2.2.2.2.2.2.2.2.2.2.2.2.2.2.2.2.2.2.2.2.2.2.2.2.2.2.2.2.2.2.2.2.2.2.2.2.2.2.2.2.2.2.2.2.2.2.2.2.2.2.2.1, h.2.2.2.2.2.2.2.2.2.2.2.2.2.2.2.2.2.2.2.2.2.2.2.2.2.2.2.2.2.2.2.2.2.2.2.2.2.2.2.2.2.2.2.2.2.2.2.2.2.2.2.2.2.2.1, h.2.2.2.2.2.2.2.2.2.2.2.2.2.2.2.2.2.2.2.2.2.2.2.2.2.2.2.2.2.2.2.2.2.2.2.2.2.2.2.2.2.2.2.2.2.2.2.2.2.2.2.2.2.2.2.1, h.2.2.2.2.2.2.2.2.2.2.2.2.2.2.2.2.2.2.2.2.2.2.2.2.2.2.2.2.2.2.2.2.2.2.2.2.2.2.2.2.2.2.2.2.2.2.2.2.2.2.2.2.2.2.2.2.1, h.2.2.2.2.2.2.2.2.2.2.2.2.2.2.2.2.2.2.2.2.2.2.2.2.2.2.2.2.2.2.2.2.2.2.2.2.2.2.2.2.2.2.2.2.2.2.2.2.2.2.2.2.2.2.2.2.2.1, h.2.2.2.2.2.2.2.2.2.2.2.2.2.2.2.2.2.2.2.2.2.2.2.2.2.2.2.2.2.2.2.2.2.2.2.2.2.2.2.2.2.2.2.2.2.2.2.2.2.2.2.2.2.2.2.2.2.2.1, h.2.2.2.2.2.2.2.2.2.2.2.2.2.2.2.2.2.2.2.2.2.2.2.2.2.2.2.2.2.2.2.2.2.2.2.2.2.2.2.2.2.2.2.2.2.2.2.2.2.2.2.2.2.2.2.2.2.2.2.1, h.2.2.2.2.2.2.2.2.2.2.2.2.2.2.2.2.2.2.2.2.2.2.2.2.2.2.2.2.2.2.2.2.2.2.2.2.2.2.2.2.2.2.2.2.2.2.2.2.2.2.2.2.2.2.2.2.2.2.2.2.1, h.2.2.2.2.2.2.2.2.2.2.2.2.2.2.2.2.2.2.2.2.2.2.2.2.2.2.2.2.2.2.2.2.2.2.2.2.2.2.2.2.2.2.2.2.2.2.2.2.2.2.2.2.2.2.2.2.2.2.2.2.2⟩
theorem wd_1840 : (Cond.methodLink "WebCourtModel" (442 : Nat) ⟨"WebCourtModel", "heldNow", "()I"⟩) ∈ gtb := gtb_c8 51 (by decide +kernel) rfl
theorem wd_1842 : (Cond.instanceMethod ⟨"WebCourtModel", "heldNow", "()I"⟩) ∈ gtb := gtb_c8 53 (by decide +kernel) rfl
theorem wd_94 : (Cond.selects "WebCourtModel" ⟨"WebCourtModel", "heldNow", "()I"⟩ ⟨"WebCourtModel", "heldNow", "()I"⟩) ∈ gtb := gtb_p 94 (by decide +kernel) rfl
theorem hd_yX11_heldNow : yX11_heldNow.cls = RX11 ∧ yX11_heldNow.cls ≠ "java/lang/invoke/MethodHandle" ∧ yX11_heldNow.cls ≠ "java/lang/invoke/VarHandle" ∧ (parseMethodDescriptor yX11_heldNow.desc).map (fun d => d.parameters.length) = some 0 := by decide +kernel
theorem pc8_zz {x : Int} : ¬ x = 0 ∨ pc8 x = 0 := by
  by_cases h : x = 0
  · exact Or.inr (pc8_z h)
  · exact Or.inl h
theorem Km6_to_Km8 {u v : St} (h : Km6 u v) : Km8 u v := ⟨h.1, h.2.1, h.2.2.1, h.2.2.2.1, h.2.2.2.2.1, h.2.2.2.2.2.1, h.2.2.2.2.2.2.1, h.2.2.2.2.2.2.2.1, h.2.2.2.2.2.2.2.2.1, h.2.2.2.2.2.2.2.2.2.1, h.2.2.2.2.2.2.2.2.2.2.1, h.2.2.2.2.2.2.2.2.2.2.2.1, h.2.2.2.2.2.2.2.2.2.2.2.2.1, h.2.2.2.2.2.2.2.2.2.2.2.2.2.1, h.2.2.2.2.2.2.2.2.2.2.2.2.2.2.1, h.2.2.2.2.2.2.2.2.2.2.2.2.2.2.2.1, h.2.2.2.2.2.2.2.2.2.2.2.2.2.2.2.2.1, h.2.2.2.2.2.2.2.2.2.2.2.2.2.2.2.2.2.1, h.2.2.2.2.2.2.2.2.2.2.2.2.2.2.2.2.2.2.1, h.2.2.2.2.2.2.2.2.2.2.2.2.2.2.2.2.2.2.2.1, h.2.2.2.2.2.2.2.2.2.2.2.2.2.2.2.2.2.2.2.2.2.1, h.2.2.2.2.2.2.2.2.2.2.2.2.2.2.2.2.2.2.2.2.2.2.1, h.2.2.2.2.2.2.2.2.2.2.2.2.2.2.2.2.2.2.2.2.2.2.2.1, h.2.2.2.2.2.2.2.2.2.2.2.2.2.2.2.2.2.2.2.2.2.2.2.2.1, h.2.2.2.2.2.2.2.2.2.2.2.2.2.2.2.2.2.2.2.2.2.2.2.2.2.1, h.2.2.2.2.2.2.2.2.2.2.2.2.2.2.2.2.2.2.2.2.2.2.2.2.2.2.1, h.2.2.2.2.2.2.2.2.2.2.2.2.2.2.2.2.2.2.2.2.2.2.2.2.2.2.2.1, h.2.2.2.2.2.2.2.2.2.2.2.2.2.2.2.2.2.2.2.2.2.2.2.2.2.2.2.2.1, h.2.2.2.2.2.2.2.2.2.2.2.2.2.2.2.2.2.2.2.2.2.2.2.2.2.2.2.2.2.1, h.2.2.2.2.2.2.2.2.2.2.2.2.2.2.2.2.2.2.2.2.2.2.2.2.2.2.2.2.2.2.1, h.2.2.2.2.2.2.2.2.2.2.2.2.2.2.2.2.2.2.2.2.2.2.2.2.2.2.2.2.2.2.2.1, h.2.2.2.2.2.2.2.2.2.2.2.2.2.2.2.2.2.2.2.2.2.2.2.2.2.2.2.2.2.2.2.2.1, h.2.2.2.2.2.2.2.2.2.2.2.2.2.2.2.2.2.2.2.2.2.2.2.2.2.2.2.2.2.2.2.2.2.1, h.2.2.2.2.2.2.2.2.2.2.2.2.2.2.2.2.2.2.2.2.2.2.2.2.2.2.2.2.2.2.2.2.2.2.1, h.2.2.2.2.2.2.2.2.2.2.2.2.2.2.2.2.2.2.2.2.2.2.2.2.2.2.2.2.2.2.2.2.2.2.2.1, h.2.2.2.2.2.2.2.2.2.2.2.2.2.2.2.2.2.2.2.2.2.2.2.2.2.2.2.2.2.2.2.2.2.2.2.2.1, h.2.2.2.2.2.2.2.2.2.2.2.2.2.2.2.2.2.2.2.2.2.2.2.2.2.2.2.2.2.2.2.2.2.2.2.2.2.1, h.2.2.2.2.2.2.2.2.2.2.2.2.2.2.2.2.2.2.2.2.2.2.2.2.2.2.2.2.2.2.2.2.2.2.2.2.2.2.1, h.2.2.2.2.2.2.2.2.2.2.2.2.2.2.2.2.2.2.2.2.2.2.2.2.2.2.2.2.2.2.2.2.2.2.2.2.2.2.2.1, h.2.2.2.2.2.2.2.2.2.2.2.2.2.2.2.2.2.2.2.2.2.2.2.2.2.2.2.2.2.2.2.2.2.2.2.2.2.2.2.2.1, h.2.2.2.2.2.2.2.2.2.2.2.2.2.2.2.2.2.2.2.2.2.2.2.2.2.2.2.2.2.2.2.2.2.2.2.2.2.2.2.2.2.1, h.2.2.2.2.2.2.2.2.2.2.2.2.2.2.2.2.2.2.2.2.2.2.2.2.2.2.2.2.2.2.2.2.2.2.2.2.2.2.2.2.2.2.1, h.2.2.2.2.2.2.2.2.2.2.2.2.2.2.2.2.2.2.2.2.2.2.2.2.2.2.2.2.2.2.2.2.2.2.2.2.2.2.2.2.2.2.2.1, h.2.2.2.2.2.2.2.2.2.2.2.2.2.2.2.2.2.2.2.2.2.2.2.2.2.2.2.2.2.2.2.2.2.2.2.2.2.2.2.2.2.2.2.2.1, h.2.2.2.2.2.2.2.2.2.2.2.2.2.2.2.2.2.2.2.2.2.2.2.2.2.2.2.2.2.2.2.2.2.2.2.2.2.2.2.2.2.2.2.2.2.1, h.2.2.2.2.2.2.2.2.2.2.2.2.2.2.2.2.2.2.2.2.2.2.2.2.2.2.2.2.2.2.2.2.2.2.2.2.2.2.2.2.2.2.2.2.2.2.1, h.2.2.2.2.2.2.2.2.2.2.2.2.2.2.2.2.2.2.2.2.2.2.2.2.2.2.2.2.2.2.2.2.2.2.2.2.2.2.2.2.2.2.2.2.2.2.2.1, h.2.2.2.2.2.2.2.2.2.2.2.2.2.2.2.2.2.2.2.2.2.2.2.2.2.2.2.2.2.2.2.2.2.2.2.2.2.2.2.2.2.2.2.2.2.2.2.2.1, h.2.2.2.2.2.2.2.2.2.2.2.2.2.2.2.2.2.2.2.2.2.2.2.2.2.2.2.2.2.2.2.2.2.2.2.2.2.2.2.2.2.2.2.2.2.2.2.2.2.1, h.2.2.2.2.2.2.2.2.2.2.2.2.2.2.2.2.2.2.2.2.2.2.2.2.2.2.2.2.2.2.2.2.2.2.2.2.2.2.2.2.2.2.2.2.2.2.2.2.2.2.1, h.2.2.2.2.2.2.2.2.2.2.2.2.2.2.2.2.2.2.2.2.2.2.2.2.2.2.2.2.2.2.2.2.2.2.2.2.2.2.2.2.2.2.2.2.2.2.2.2.2.2.2.1, h.2.2.2.2.2.2.2.2.2.2.2.2.2.2.2.2.2.2.2.2.2.2.2.2.2.2.2.2.2.2.2.2.2.2.2.2.2.2.2.2.2.2.2.2.2.2.2.2.2.2.2.2.2.1, h.2.2.2.2.2.2.2.2.2.2.2.2.2.2.2.2.2.2.2.2.2.2.2.2.2.2.2.2.2.2.2.2.2.2.2.2.2.2.2.2.2.2.2.2.2.2.2.2.2.2.2.2.2.2.1, h.2.2.2.2.2.2.2.2.2.2.2.2.2.2.2.2.2.2.2.2.2.2.2.2.2.2.2.2.2.2.2.2.2.2.2.2.2.2.2.2.2.2.2.2.2.2.2.2.2.2.2.2.2.2.2.1, h.2.2.2.2.2.2.2.2.2.2.2.2.2.2.2.2.2.2.2.2.2.2.2.2.2.2.2.2.2.2.2.2.2.2.2.2.2.2.2.2.2.2.2.2.2.2.2.2.2.2.2.2.2.2.2.2.1, h.2.2.2.2.2.2.2.2.2.2.2.2.2.2.2.2.2.2.2.2.2.2.2.2.2.2.2.2.2.2.2.2.2.2.2.2.2.2.2.2.2.2.2.2.2.2.2.2.2.2.2.2.2.2.2.2.2.1, h.2.2.2.2.2.2.2.2.2.2.2.2.2.2.2.2.2.2.2.2.2.2.2.2.2.2.2.2.2.2.2.2.2.2.2.2.2.2.2.2.2.2.2.2.2.2.2.2.2.2.2.2.2.2.2.2.2.2.1, h.2.2.2.2.2.2.2.2.2.2.2.2.2.2.2.2.2.2.2.2.2.2.2.2.2.2.2.2.2.2.2.2.2.2.2.2.2.2.2.2.2.2.2.2.2.2.2.2.2.2.2.2.2.2.2.2.2.2.2.1, h.2.2.2.2.2.2.2.2.2.2.2.2.2.2.2.2.2.2.2.2.2.2.2.2.2.2.2.2.2.2.2.2.2.2.2.2.2.2.2.2.2.2.2.2.2.2.2.2.2.2.2.2.2.2.2.2.2.2.2.2.1, h.2.2.2.2.2.2.2.2.2.2.2.2.2.2.2.2.2.2.2.2.2.2.2.2.2.2.2.2.2.2.2.2.2.2.2.2.2.2.2.2.2.2.2.2.2.2.2.2.2.2.2.2.2.2.2.2.2.2.2.2.2.1, h.2.2.2.2.2.2.2.2.2.2.2.2.2.2.2.2.2.2.2.2.2.2.2.2.2.2.2.2.2.2.2.2.2.2.2.2.2.2.2.2.2.2.2.2.2.2.2.2.2.2.2.2.2.2.2.2.2.2.2.2.2.2.1, h.2.2.2.2.2.2.2.2.2.2.2.2.2.2.2.2.2.2.2.2.2.2.2.2.2.2.2.2.2.2.2.2.2.2.2.2.2.2.2.2.2.2.2.2.2.2.2.2.2.2.2.2.2.2.2.2.2.2.2.2.2.2.2⟩
theorem Km8_I36 {u v : St} (h : Km8 u v) : fI v 0 36 = fI u 0 36 := h.2.2.2.2.2.2.2.2.2.1
theorem Km8_A6 {u v : St} (h : Km8 u v) : fA v 6 = fA u 6 := h.2.2.2.2.2.2.2.2.2.2.2.2.2.2.2.2.2.2.2.2.2.2.2.2.2.2.2.1
theorem Km8_wA30 {u v : St} {D : va_G} {A : Nat → Prop} {cy : Nat → ClassId} {a : Nat → Nat} {hp H : Heap} {locs : List Loc} {f : Nat → Int32} (_ : Wo D A (mW cy a (sA v 30 f)) hp H locs) (h : Km8 u v) : Km8 u (sA v 30 f) := ⟨h.1, h.2.1, h.2.2.1, h.2.2.2.1, h.2.2.2.2.1, h.2.2.2.2.2.1, h.2.2.2.2.2.2.1, h.2.2.2.2.2.2.2.1, h.2.2.2.2.2.2.2.2.1, h.2.2.2.2.2.2.2.2.2.1, h.2.2.2.2.2.2.2.2.2.2.1, h.2.2.2.2.2.2.2.2.2.2.2.1, h.2.2.2.2.2.2.2.2.2.2.2.2.1, h.2.2.2.2.2.2.2.2.2.2.2.2.2.1, h.2.2.2.2.2.2.2.2.2.2.2.2.2.2.1, h.2.2.2.2.2.2.2.2.2.2.2.2.2.2.2.1, h.2.2.2.2.2.2.2.2.2.2.2.2.2.2.2.2.1, h.2.2.2.2.2.2.2.2.2.2.2.2.2.2.2.2.2.1, h.2.2.2.2.2.2.2.2.2.2.2.2.2.2.2.2.2.2.1, h.2.2.2.2.2.2.2.2.2.2.2.2.2.2.2.2.2.2.2.1, h.2.2.2.2.2.2.2.2.2.2.2.2.2.2.2.2.2.2.2.2.1, h.2.2.2.2.2.2.2.2.2.2.2.2.2.2.2.2.2.2.2.2.2.1, h.2.2.2.2.2.2.2.2.2.2.2.2.2.2.2.2.2.2.2.2.2.2.1, h.2.2.2.2.2.2.2.2.2.2.2.2.2.2.2.2.2.2.2.2.2.2.2.1, h.2.2.2.2.2.2.2.2.2.2.2.2.2.2.2.2.2.2.2.2.2.2.2.2.1, h.2.2.2.2.2.2.2.2.2.2.2.2.2.2.2.2.2.2.2.2.2.2.2.2.2.1, h.2.2.2.2.2.2.2.2.2.2.2.2.2.2.2.2.2.2.2.2.2.2.2.2.2.2.1, h.2.2.2.2.2.2.2.2.2.2.2.2.2.2.2.2.2.2.2.2.2.2.2.2.2.2.2.1, h.2.2.2.2.2.2.2.2.2.2.2.2.2.2.2.2.2.2.2.2.2.2.2.2.2.2.2.2.1, h.2.2.2.2.2.2.2.2.2.2.2.2.2.2.2.2.2.2.2.2.2.2.2.2.2.2.2.2.2.1, h.2.2.2.2.2.2.2.2.2.2.2.2.2.2.2.2.2.2.2.2.2.2.2.2.2.2.2.2.2.2.1, h.2.2.2.2.2.2.2.2.2.2.2.2.2.2.2.2.2.2.2.2.2.2.2.2.2.2.2.2.2.2.2.1, h.2.2.2.2.2.2.2.2.2.2.2.2.2.2.2.2.2.2.2.2.2.2.2.2.2.2.2.2.2.2.2.2.1, h.2.2.2.2.2.2.2.2.2.2.2.2.2.2.2.2.2.2.2.2.2.2.2.2.2.2.2.2.2.2.2.2.2.1, h.2.2.2.2.2.2.2.2.2.2.2.2.2.2.2.2.2.2.2.2.2.2.2.2.2.2.2.2.2.2.2.2.2.2.1, h.2.2.2.2.2.2.2.2.2.2.2.2.2.2.2.2.2.2.2.2.2.2.2.2.2.2.2.2.2.2.2.2.2.2.2.1, h.2.2.2.2.2.2.2.2.2.2.2.2.2.2.2.2.2.2.2.2.2.2.2.2.2.2.2.2.2.2.2.2.2.2.2.2.1, h.2.2.2.2.2.2.2.2.2.2.2.2.2.2.2.2.2.2.2.2.2.2.2.2.2.2.2.2.2.2.2.2.2.2.2.2.2.1, h.2.2.2.2.2.2.2.2.2.2.2.2.2.2.2.2.2.2.2.2.2.2.2.2.2.2.2.2.2.2.2.2.2.2.2.2.2.2.1, h.2.2.2.2.2.2.2.2.2.2.2.2.2.2.2.2.2.2.2.2.2.2.2.2.2.2.2.2.2.2.2.2.2.2.2.2.2.2.2.1, h.2.2.2.2.2.2.2.2.2.2.2.2.2.2.2.2.2.2.2.2.2.2.2.2.2.2.2.2.2.2.2.2.2.2.2.2.2.2.2.2.1, h.2.2.2.2.2.2.2.2.2.2.2.2.2.2.2.2.2.2.2.2.2.2.2.2.2.2.2.2.2.2.2.2.2.2.2.2.2.2.2.2.2.1, h.2.2.2.2.2.2.2.2.2.2.2.2.2.2.2.2.2.2.2.2.2.2.2.2.2.2.2.2.2.2.2.2.2.2.2.2.2.2.2.2.2.2.1, h.2.2.2.2.2.2.2.2.2.2.2.2.2.2.2.2.2.2.2.2.2.2.2.2.2.2.2.2.2.2.2.2.2.2.2.2.2.2.2.2.2.2.2.1, h.2.2.2.2.2.2.2.2.2.2.2.2.2.2.2.2.2.2.2.2.2.2.2.2.2.2.2.2.2.2.2.2.2.2.2.2.2.2.2.2.2.2.2.2.1, h.2.2.2.2.2.2.2.2.2.2.2.2.2.2.2.2.2.2.2.2.2.2.2.2.2.2.2.2.2.2.2.2.2.2.2.2.2.2.2.2.2.2.2.2.2.1, h.2.2.2.2.2.2.2.2.2.2.2.2.2.2.2.2.2.2.2.2.2.2.2.2.2.2.2.2.2.2.2.2.2.2.2.2.2.2.2.2.2.2.2.2.2.2.1, h.2.2.2.2.2.2.2.2.2.2.2.2.2.2.2.2.2.2.2.2.2.2.2.2.2.2.2.2.2.2.2.2.2.2.2.2.2.2.2.2.2.2.2.2.2.2.2.1, h.2.2.2.2.2.2.2.2.2.2.2.2.2.2.2.2.2.2.2.2.2.2.2.2.2.2.2.2.2.2.2.2.2.2.2.2.2.2.2.2.2.2.2.2.2.2.2.2.1, h.2.2.2.2.2.2.2.2.2.2.2.2.2.2.2.2.2.2.2.2.2.2.2.2.2.2.2.2.2.2.2.2.2.2.2.2.2.2.2.2.2.2.2.2.2.2.2.2.2.1, h.2.2.2.2.2.2.2.2.2.2.2.2.2.2.2.2.2.2.2.2.2.2.2.2.2.2.2.2.2.2.2.2.2.2.2.2.2.2.2.2.2.2.2.2.2.2.2.2.2.2.1, h.2.2.2.2.2.2.2.2.2.2.2.2.2.2.2.2.2.2.2.2.2.2.2.2.2.2.2.2.2.2.2.2.2.2.2.2.2.2.2.2.2.2.2.2.2.2.2.2.2.2.2.1, h.2.2.2.2.2.2.2.2.2.2.2.2.2.2.2.2.2.2.2.2.2.2.2.2.2.2.2.2.2.2.2.2.2.2.2.2.2.2.2.2.2.2.2.2.2.2.2.2.2.2.2.2.1, h.2.2.2.2.2.2.2.2.2.2.2.2.2.2.2.2.2.2.2.2.2.2.2.2.2.2.2.2.2.2.2.2.2.2.2.2.2.2.2.2.2.2.2.2.2.2.2.2.2.2.2.2.2.1, h.2.2.2.2.2.2.2.2.2.2.2.2.2.2.2.2.2.2.2.2.2.2.2.2.2.2.2.2.2.2.2.2.2.2.2.2.2.2.2.2.2.2.2.2.2.2.2.2.2.2.2.2.2.2.1, h.2.2.2.2.2.2.2.2.2.2.2.2.2.2.2.2.2.2.2.2.2.2.2.2.2.2.2.2.2.2.2.2.2.2.2.2.2.2.2.2.2.2.2.2.2.2.2.2.2.2.2.2.2.2.2.1, h.2.2.2.2.2.2.2.2.2.2.2.2.2.2.2.2.2.2.2.2.2.2.2.2.2.2.2.2.2.2.2.2.2.2.2.2.2.2.2.2.2.2.2.2.2.2.2.2.2.2.2.2.2.2.2.2.1, h.2.2.2.2.2.2.2.2.2.2.2.2.2.2.2.2.2.2.2.2.2.2.2.2.2.2.2.2.2.2.2.2.2.2.2.2.2.2.2.2.2.2.2.2.2.2.2.2.2.2.2.2.2.2.2.2.2.1, h.2.2.2.2.2.2.2.2.2.2.2.2.2.2.2.2.2.2.2.2.2.2.2.2.2.2.2.2.2.2.2.2.2.2.2.2.2.2.2.2.2.2.2.2.2.2.2.2.2.2.2.2.2.2.2.2.2.2.1, h.2.2.2.2.2.2.2.2.2.2.2.2.2.2.2.2.2.2.2.2.2.2.2.2.2.2.2.2.2.2.2.2.2.2.2.2.2.2.2.2.2.2.2.2.2.2.2.2.2.2.2.2.2.2.2.2.2.2.2.1, h.2.2.2.2.2.2.2.2.2.2.2.2.2.2.2.2.2.2.2.2.2.2.2.2.2.2.2.2.2.2.2.2.2.2.2.2.2.2.2.2.2.2.2.2.2.2.2.2.2.2.2.2.2.2.2.2.2.2.2.2.1, h.2.2.2.2.2.2.2.2.2.2.2.2.2.2.2.2.2.2.2.2.2.2.2.2.2.2.2.2.2.2.2.2.2.2.2.2.2.2.2.2.2.2.2.2.2.2.2.2.2.2.2.2.2.2.2.2.2.2.2.2.2⟩
theorem Km8_A3 {u v : St} (h : Km8 u v) : fA v 3 = fA u 3 := h.2.2.2.2.2.2.2.2.2.2.2.2.2.2.2.2.2.2.2.2.2.2.2.2.1
theorem wd_1959 : (Cond.methodLink "WebCourtModel" (478 : Nat) ⟨"WebCourtModel", "lastHeard", "(II)I"⟩) ∈ gtb := gtb_c8 170 (by decide +kernel) rfl
theorem wd_1961 : (Cond.instanceMethod ⟨"WebCourtModel", "lastHeard", "(II)I"⟩) ∈ gtb := gtb_c8 172 (by decide +kernel) rfl
theorem wd_104 : (Cond.selects "WebCourtModel" ⟨"WebCourtModel", "lastHeard", "(II)I"⟩ ⟨"WebCourtModel", "lastHeard", "(II)I"⟩) ∈ gtb := gtb_p 104 (by decide +kernel) rfl
theorem hd_yX11_lastHeard : yX11_lastHeard.cls = RX11 ∧ yX11_lastHeard.cls ≠ "java/lang/invoke/MethodHandle" ∧ yX11_lastHeard.cls ≠ "java/lang/invoke/VarHandle" ∧ (parseMethodDescriptor yX11_lastHeard.desc).map (fun d => d.parameters.length) = some 2 := by decide +kernel
set_option maxHeartbeats 4000000 in
set_option maxRecDepth 100000 in
theorem T_X11_round (l : Launch) (D : va_G) (cy : Nat → ClassId) (a : Nat → Nat) (u : St) (hJ : MI a u) (gm : Int32) (hgm : fA u 6 (fI u 0 36).toNatClampNeg = gm)   : Mi l D cy (mW cy a) yX11_round (.code yX11_round cX11_round 6 (some .int)) (rmo 4 93) [.ref (a 0)] u (fun (r : Int32) (u' : St) => (MI a u') ∧ (Km8 u u')) := by
  refine Mi.of (own := RX11) rfl (by decide) (Nat.le_of_ble_eq_true rfl) ?_
  have hT : Km8 u u := Km8.rf
  have hJ0 := hJ
  intro p e s m below meth c A Q ls C hret hO hl
  obtain ⟨hx, hb, hml, hown, ht, hK, hA⟩ := id C
  have hl : lv_has ls 6 [(0, .ref (a 0))] := hl
  refine lv_aload_n hx hb dX11_round_0 rfl (lv_at hl 0 rfl) ?_
  refine lv_iconst (v := 0) hx hb dX11_round_1 (by decide) ?_
  refine pf_RX11_398 C hO 0 mW_0 (Nat.le_of_ble_eq_true rfl) mW_s0_50 dX11_round_2 (fun H locs hO => ?_)
  have hT := Km8_wI50 (x := 0) hT
  have hJ := MIs_50 (v := 0) hJ (by first | decide | omega)
  refine lv_aload_n hx hb dX11_round_5 rfl (lv_at hl 0 rfl) ?_
  have g1 : 0 ≤ (fI u 0 36).toInt ∧ (fI u 0 36).toInt ≤ 1 := by have h := MI_36 hJ0; exact h
  have g2 : 0 ≤ gm.toInt ∧ gm.toInt ≤ 6 := by have h := MI_A6 hJ0 (fI u 0 36).toNatClampNeg; rw [hgm] at h; exact h
  refine cVi (w := mW cy a) (As := []) (rest := []) C hO (T_X11_heldNow l D cy a _ (by exact hJ) (gm) (by exact hgm)) (cwV 0 ht (gV wd_1840 wd_1842 wd_94 wd_121 wd_1843) rfl rfl rfl hd_yX11_heldNow ⟨Nat.le_of_ble_eq_true rfl, Nat.le_of_ble_eq_true rfl⟩) 0 rfl mW_0 rfl rfl hl.1 (Nat.le_of_ble_eq_true rfl) dX11_round_6 rfl ⟨Nat.zero_le _, Nat.zero_le _⟩ (fun r3 u4 H locs hp5 hO => ?_)
  obtain ⟨hr3, hu4⟩ := hp5
  rw [hu4] at hO
  obtain ⟨gr3, gmr3⟩ := hr3
  refine cSi (w := mW cy a) (As := [.int r3]) (rest := []) C hO (T_X11_bitsOf_8 l D cy a _ (by exact hJ) (r3) (by first | omega | decide)) (va_cwS 1 ht (gSS wd_1663 wd_1664 wd_121 wd_1665) rfl rfl rfl hd_yX11_bitsOf ⟨Nat.le_of_ble_eq_true rfl, Nat.le_of_ble_eq_true rfl⟩)  rfl hl.1 (Nat.le_of_ble_eq_true rfl) dX11_round_9 rfl ⟨Nat.zero_le _, Nat.zero_le _⟩ (fun r6 u7 H locs hp8 hO => ?_)
  obtain ⟨hr6, hu7⟩ := hp8
  rw [hu7] at hO
  have gpr6 := pc8_b (x := (r3 : Int32).toInt) (by omega) (by omega)
  have gr6 : 0 ≤ r6.toInt ∧ r6.toInt ≤ 6 := by omega
  refine lv_istore_n (lv' := [(1, .int r6), (0, .ref (a 0))]) hx hb dX11_round_12 rfl hl (by decide) rfl (fun ls hl => ?_)
  refine lv_iload_n hx hb dX11_round_13 rfl (lv_at hl 0 rfl) ?_
  refine bs_ne (tgt := 19) (X := (r6).toInt) hx hb dX11_round_14 (by decide) rfl (fun c9 => ?_) (fun c9 => ?_)
  · have hz10 := pc8_zz (x := (r3).toInt)
    have hg11 : 1 ≤ gm.toInt := by omega
    refine lv_aload_n hx hb dX11_round_19 rfl (lv_at hl 1 rfl) ?_
    have g12 : 0 ≤ (fA u 3 ((fI u 0 36)).toNatClampNeg).toInt ∧ (fA u 3 ((fI u 0 36)).toNatClampNeg).toInt ≤ 8 := by have h := MI_A3 hJ0 ((fI u 0 36)).toNatClampNeg; exact h
    refine cVv (w := mW cy a) (As := []) (rest := []) C hO (T_X11_layFar l D cy a _ (by exact hJ) ((fA u 3 ((fI u 0 36)).toNatClampNeg)) (by exact rfl)) (cwV 0 ht (gV wd_1936 wd_1938 wd_102 wd_121 wd_1939) rfl rfl rfl hd_yX11_layFar ⟨Nat.le_of_ble_eq_true rfl, Nat.le_of_ble_eq_true rfl⟩) 0 rfl mW_0 rfl rfl hl.1 (Nat.le_of_ble_eq_true rfl) dX11_round_20 rfl ⟨Nat.zero_le _, Nat.zero_le _⟩ (fun u14 H locs hp15 hO => ?_)
    obtain ⟨hJ, hTu14⟩ := hp15
    have hT : Km8 u u14 := Km8.tr (by exact hT) (Km6_to_Km8 hTu14)
    refine lv_iconst (v := (-1)) hx hb dX11_round_23 (by decide) ?_
    refine lv_istore_n (lv' := [(2, .int (-1)), (1, .int r6), (0, .ref (a 0))]) hx hb dX11_round_24 rfl hl (by decide) rfl (fun ls hl => ?_)
    refine lv_sipush (v := 1000) hx hb dX11_round_25 (by decide) ?_
    refine lv_istore_n (lv' := [(3, .int 1000), (2, .int (-1)), (1, .int r6), (0, .ref (a 0))]) hx hb dX11_round_28 rfl hl (by decide) rfl (fun ls hl => ?_)
    refine lv_iconst (v := 0) hx hb dX11_round_29 (by decide) ?_
    refine lv_istore (lv' := [(4, .int 0), (3, .int 1000), (2, .int (-1)), (1, .int r6), (0, .ref (a 0))]) hx hb dX11_round_30 hl (by decide) rfl (fun ls hl => ?_)
    have LP_32_k16 : ∀ (n : Nat) (H : Heap) (locs : List Loc) (ls : Array Slot) (i_k16 : Int32) (w3_k16 : Int32) (w2_k16 : Int32), Wo D A (mW cy a u14) s.heap H locs → lv_has ls 6 [(4, .int i_k16), (3, .int w3_k16), (2, .int w2_k16), (1, .int r6), (0, .ref (a 0))] → 0 ≤ i_k16.toInt ∧ i_k16.toInt ≤ 46656 → (-1) ≤ w2_k16.toInt ∧ w2_k16.toInt ≤ 46656 → 46656 - i_k16.toInt < (n : Int) → W p l e (rmo 4 93) s m [.ref (a 0)].toArray below meth c H locs 0 0 Q (F0 m 32 ls []) := by
      intro n
      induction n with
      | zero =>
        intro H locs ls i_k16 w3_k16 w2_k16 hO hl iv0_k16 iv1_k16 hm_k16
        exact absurd hm_k16 (by omega)
      | succ n ih_k16 =>
        intro H locs ls i_k16 w3_k16 w2_k16 hO hl iv0_k16 iv1_k16 hm_k16
        refine lv_iload hx hb dX11_round_32 (lv_at hl 0 rfl) ?_
        refine lv_aload_n hx hb dX11_round_34 rfl (lv_at hl 4 rfl) ?_
        refine cVi (w := mW cy a) (As := []) (rest := [.int i_k16]) C hO (T_X11_many l D cy a _ (by exact hJ) (gm) (by exact (Eq.trans (congrArg (fun z : Int32 => fA _ 6 z.toNatClampNeg) (Km8_I36 hT)) (Eq.trans (congrFun (Km8_A6 hT) _) hgm)))) (cwV 0 ht (gV wd_1348 wd_1350 wd_46 wd_121 wd_1351) rfl rfl rfl hd_yX11_many ⟨Nat.le_of_ble_eq_true rfl, Nat.le_of_ble_eq_true rfl⟩) 0 rfl mW_0 rfl rfl hl.1 (Nat.le_of_ble_eq_true rfl) dX11_round_35 rfl ⟨Nat.zero_le _, Nat.zero_le _⟩ (fun r17 u18 H locs hp19 hO => ?_)
        obtain ⟨hr17, hu18⟩ := hp19
        refine tE hr17 ?_
        rw [hu18] at hO
        refine lv_iload_n hx hb dX11_round_38 rfl (lv_at hl 3 rfl) ?_
        refine cSi (w := mW cy a) (As := [.int gm, .int r6]) (rest := [.int i_k16]) C hO (T_X11_power_6 l D cy a _ (by exact hJ) (gm) (r6) (by first | omega | decide) (by first | omega | decide)) (va_cwS 2 ht (gSS wd_1956 wd_1957 wd_121 wd_1958) rfl rfl rfl hd_yX11_power ⟨Nat.le_of_ble_eq_true rfl, Nat.le_of_ble_eq_true rfl⟩)  rfl hl.1 (Nat.le_of_ble_eq_true rfl) dX11_round_39 rfl ⟨Nat.zero_le _, Nat.zero_le _⟩ (fun r20 u21 H locs hp22 hO => ?_)
        obtain ⟨hr20, hu21⟩ := hp22
        rw [hu21] at hO
        refine cs_ge (tgt := 75) (X := (i_k16).toInt) (Y := (r20).toInt) hx hb dX11_round_42 (by decide) rfl rfl (fun c23 => ?_) (fun c23 => ?_)
        · refine lv_iload_n hx hb dX11_round_75 rfl (lv_at hl 2 rfl) ?_
          refine bs_ge (tgt := 81) (X := (w2_k16).toInt) hx hb dX11_round_76 (by decide) rfl (fun c24 => ?_) (fun c24 => ?_)
          · refine lv_iconst (v := 0) hx hb dX11_round_81 (by decide) ?_
            refine lv_istore (lv' := [(4, .int 0), (3, .int w3_k16), (2, .int w2_k16), (1, .int r6), (0, .ref (a 0))]) hx hb dX11_round_82 hl (by decide) rfl (fun ls hl => ?_)
            have LP_84_k26 : ∀ (n : Nat) (u25 : St) (H : Heap) (locs : List Loc) (ls : Array Slot) (i_k26 : Int32), Wo D A (mW cy a u25) s.heap H locs → lv_has ls 6 [(4, .int i_k26), (3, .int w3_k16), (2, .int w2_k16), (1, .int r6), (0, .ref (a 0))] → MI a u25 → Km8 u u25 → 0 ≤ i_k26.toInt ∧ i_k26.toInt ≤ 6 → 6 - i_k26.toInt < (n : Int) → W p l e (rmo 4 93) s m [.ref (a 0)].toArray below meth c H locs 0 0 Q (F0 m 84 ls []) := by
              intro n
              induction n with
              | zero =>
                intro u25 H locs ls i_k26 hO hl hJ hT iv0_k26 hm_k26
                exact absurd hm_k26 (by omega)
              | succ n ih_k26 =>
                intro u25 H locs ls i_k26 hO hl hJ hT iv0_k26 hm_k26
                refine lv_iload hx hb dX11_round_84 (lv_at hl 0 rfl) ?_
                refine lv_iload_n hx hb dX11_round_86 rfl (lv_at hl 3 rfl) ?_
                refine cs_ge (tgt := 111) (X := (i_k26).toInt) (Y := (r6).toInt) hx hb dX11_round_87 (by decide) rfl rfl (fun c27 => ?_) (fun c27 => ?_)
                · refine lv_aload_n hx hb dX11_round_111 rfl (lv_at hl 4 rfl) ?_
                  refine lv_iload_n hx hb dX11_round_112 rfl (lv_at hl 3 rfl) ?_
                  refine pf_RX11_398 C hO 0 mW_0 (Nat.le_of_ble_eq_true rfl) mW_s0_50 dX11_round_113 (fun H locs hO => ?_)
                  have hT := Km8_wI50 (x := r6) hT
                  have hJ := MIs_50 (v := r6) hJ (by first | decide | omega)
                  refine lv_iload_n hx hb dX11_round_116 rfl (lv_at hl 1 rfl) ?_
                  refine hret _ _ _ _ _ _ dX11_round_117 rfl ?_ hO
                  exact ⟨hJ, hT⟩
                · refine lv_aload_n hx hb dX11_round_90 rfl (lv_at hl 4 rfl) ?_
                  refine gf_RX11_106 (v := .ref (a 30)) C hO 0 mW_0 rfl dX11_round_91 ?_
                  refine lv_iload hx hb dX11_round_94 (lv_at hl 0 rfl) ?_
                  refine lv_aload_n hx hb dX11_round_96 rfl (lv_at hl 4 rfl) ?_
                  refine lv_iload_n hx hb dX11_round_97 rfl (lv_at hl 2 rfl) ?_
                  refine lv_iload_n hx hb dX11_round_98 rfl (lv_at hl 3 rfl) ?_
                  refine lv_iload hx hb dX11_round_99 (lv_at hl 0 rfl) ?_
                  have g28 : 0 ≤ (fI u 0 36).toInt ∧ (fI u 0 36).toInt ≤ 1 := by have h := MI_36 hJ0; exact h
                  have g29 : 0 ≤ gm.toInt ∧ gm.toInt ≤ 6 := by have h := MI_A6 hJ0 (fI u 0 36).toNatClampNeg; rw [hgm] at h; exact h
                  refine cVi (w := mW cy a) (As := [.int w2_k16, .int r6, .int i_k26]) (rest := [.int i_k26, .ref (a 30)]) C hO (T_X11_inOrder l D cy a _ (by exact hJ) (gm) (by exact (Eq.trans (congrArg (fun z : Int32 => fA _ 6 z.toNatClampNeg) (Km8_I36 hT)) (Eq.trans (congrFun (Km8_A6 hT) _) hgm))) (w2_k16) (r6) (i_k26) (by first | omega | decide) (by first | omega | decide) (by first | omega | decide) (by first | omega | decide) (by first | omega | decide)) (cwV 3 ht (gV wd_1963 wd_1965 wd_105 wd_121 wd_1966) rfl rfl rfl hd_yX11_inOrder ⟨Nat.le_of_ble_eq_true rfl, Nat.le_of_ble_eq_true rfl⟩) 0 rfl mW_0 rfl rfl hl.1 (Nat.le_of_ble_eq_true rfl) dX11_round_101 rfl ⟨Nat.zero_le _, Nat.zero_le _⟩ (fun r30 u31 H locs hp32 hO => ?_)
                  obtain ⟨hr30, hu31⟩ := hp32
                  rw [hu31] at hO
                  refine aIs C hO 30 mW_30 (i_in (X := (i_k26).toInt) rfl (by omega) (by omega)) mW_s30 dX11_round_104 (fun H locs hO => ?_)
                  have hT := Km8_wA30 hO hT
                  have hJ := MIsA_30 hO hJ
                  obtain ⟨z33, ez33⟩ : ∃ z : Int32, z = i_k26 + Int32.ofInt 1 := ⟨_, rfl⟩
                  have e34 : z33.toInt = (i_k26).toInt + 1 := by rw [ez33]; exact i_add rfl rfl (by omega)
                  refine lv_iinc (v := z33) (lv' := [(4, .int z33), (3, .int w3_k16), (2, .int w2_k16), (1, .int r6), (0, .ref (a 0))]) hx hb dX11_round_105 hl (k := 0) rfl ez33.symm (by decide) rfl (fun ls hl => ?_)
                  refine lv_goto (tgt := 84) hx hb dX11_round_108 (by decide) ?_
                  exact ih_k26 _ _ _ _ (z33) hO (lv_sub hl [0, 1, 2, 3, 4] rfl) (by exact hJ) (by exact hT) (by first | decide | omega) (by first | decide | omega)
            have zc35 : (0 : Int32).toInt = 0 := rfl
            exact LP_84_k26 4000 _ _ _ _ (0) hO (lv_sub hl [0, 1, 2, 3, 4] rfl) (by exact hJ) (by exact hT) (by first | decide | omega) (by first | decide | omega)
          · refine lv_iconst (v := (-1)) hx hb dX11_round_79 (by decide) ?_
            refine hret _ _ _ _ _ _ dX11_round_80 rfl ?_ hO
            exact ⟨hJ, hT⟩
        · refine lv_aload_n hx hb dX11_round_45 rfl (lv_at hl 4 rfl) ?_
          refine lv_iload hx hb dX11_round_46 (lv_at hl 0 rfl) ?_
          refine lv_iload_n hx hb dX11_round_48 rfl (lv_at hl 3 rfl) ?_
          refine cVi (w := mW cy a) (As := [.int i_k16, .int r6]) (rest := []) C hO (T_X11_lastHeard l D cy a _ (by exact hJ) (gm) (by exact (Eq.trans (congrArg (fun z : Int32 => fA _ 6 z.toNatClampNeg) (Km8_I36 hT)) (Eq.trans (congrFun (Km8_A6 hT) _) hgm))) ((fA u 3 ((fI u 0 36)).toNatClampNeg)) (by exact (Eq.trans (congrArg (fun z : Int32 => fA _ 3 z.toNatClampNeg) (Km8_I36 hT)) (congrFun (Km8_A3 hT) _))) (i_k16) (r6) (by first | omega | decide) (by first | omega | decide) (by first | omega | decide)) (cwV 2 ht (gV wd_1959 wd_1961 wd_104 wd_121 wd_1962) rfl rfl rfl hd_yX11_lastHeard ⟨Nat.le_of_ble_eq_true rfl, Nat.le_of_ble_eq_true rfl⟩) 0 rfl mW_0 rfl rfl hl.1 (Nat.le_of_ble_eq_true rfl) dX11_round_49 rfl ⟨Nat.zero_le _, Nat.zero_le _⟩ (fun r36 u37 H locs hp38 hO => ?_)
          have hu37 := hp38
          rw [hu37] at hO
          refine lv_istore (lv' := [(5, .int r36), (4, .int i_k16), (3, .int w3_k16), (2, .int w2_k16), (1, .int r6), (0, .ref (a 0))]) hx hb dX11_round_52 hl (by decide) rfl (fun ls hl => ?_)
          refine lv_iload hx hb dX11_round_54 (lv_at hl 0 rfl) ?_
          refine lv_iload_n hx hb dX11_round_56 rfl (lv_at hl 2 rfl) ?_
          refine cs_lt (tgt := 63) (X := (r36).toInt) (Y := (w3_k16).toInt) hx hb dX11_round_57 (by decide) rfl rfl (fun c39 => ?_) (fun c39 => ?_)
          · refine lv_iload hx hb dX11_round_63 (lv_at hl 1 rfl) ?_
            refine lv_istore_n (lv' := [(2, .int i_k16), (5, .int r36), (4, .int i_k16), (3, .int w3_k16), (1, .int r6), (0, .ref (a 0))]) hx hb dX11_round_65 rfl hl (by decide) rfl (fun ls hl => ?_)
            refine lv_iload hx hb dX11_round_66 (lv_at hl 1 rfl) ?_
            refine lv_istore_n (lv' := [(3, .int r36), (2, .int i_k16), (5, .int r36), (4, .int i_k16), (1, .int r6), (0, .ref (a 0))]) hx hb dX11_round_68 rfl hl (by decide) rfl (fun ls hl => ?_)
            obtain ⟨z40, ez40⟩ : ∃ z : Int32, z = i_k16 + Int32.ofInt 1 := ⟨_, rfl⟩
            have e41 : z40.toInt = (i_k16).toInt + 1 := by rw [ez40]; exact i_add rfl rfl (by omega)
            refine lv_iinc (v := z40) (lv' := [(4, .int z40), (3, .int r36), (2, .int i_k16), (5, .int r36), (1, .int r6), (0, .ref (a 0))]) hx hb dX11_round_69 hl (k := 3) rfl ez40.symm (by decide) rfl (fun ls hl => ?_)
            refine lv_goto (tgt := 32) hx hb dX11_round_72 (by decide) ?_
            exact ih_k16 _ _ _ (z40) (r36) (i_k16) hO (lv_sub hl [0, 1, 2, 4, 5] rfl) (by first | decide | omega) (by first | decide | omega) (by first | decide | omega)
          · refine lv_goto (tgt := 69) hx hb dX11_round_60 (by decide) ?_
            obtain ⟨z42, ez42⟩ : ∃ z : Int32, z = i_k16 + Int32.ofInt 1 := ⟨_, rfl⟩
            have e43 : z42.toInt = (i_k16).toInt + 1 := by rw [ez42]; exact i_add rfl rfl (by omega)
            refine lv_iinc (v := z42) (lv' := [(4, .int z42), (5, .int r36), (3, .int w3_k16), (2, .int w2_k16), (1, .int r6), (0, .ref (a 0))]) hx hb dX11_round_69 hl (k := 1) rfl ez42.symm (by decide) rfl (fun ls hl => ?_)
            refine lv_goto (tgt := 32) hx hb dX11_round_72 (by decide) ?_
            exact ih_k16 _ _ _ (z42) (w3_k16) (w2_k16) hO (lv_sub hl [0, 2, 3, 4, 5] rfl) (by first | decide | omega) (by first | decide | omega) (by first | decide | omega)
    have zc44 : ((-1) : Int32).toInt = (-1) := rfl
    have zc45 : (0 : Int32).toInt = 0 := rfl
    have zc46 : (1000 : Int32).toInt = 1000 := rfl
    exact LP_32_k16 46658 _ _ _ (0) (1000) ((-1)) hO (lv_sub hl [0, 1, 2, 3, 4] rfl) (by first | decide | omega) (by first | decide | omega) (by first | decide | omega)
  · refine lv_iconst (v := (-1)) hx hb dX11_round_17 (by decide) ?_
    refine hret _ _ _ _ _ _ dX11_round_18 rfl ?_ hO
    exact ⟨hJ, hT⟩
theorem dX11_term_0 : decode cX11_term 0 = .ok (.iload_n 1, 1) := by decide +kernel
theorem dX11_term_1 : decode cX11_term 1 = .ok (.iconst 0, 1) := by decide +kernel
theorem dX11_term_2 : decode cX11_term 2 = .ok (.bipush 30, 2) := by decide +kernel
theorem dX11_term_4 : decode cX11_term 4 = .ok (.invokestatic 374, 3) := by decide +kernel
theorem dX11_term_7 : decode cX11_term 7 = .ok (.ifCond .ne 5, 3) := by decide +kernel
theorem dX11_term_10 : decode cX11_term 10 = .ok (.iconst (-1), 1) := by decide +kernel
theorem dX11_term_11 : decode cX11_term 11 = .ok (.ireturn, 1) := by decide +kernel
theorem dX11_term_12 : decode cX11_term 12 = .ok (.aload_n 0, 1) := by decide +kernel
theorem dX11_term_13 : decode cX11_term 13 = .ok (.invokevirtual 371, 3) := by decide +kernel
theorem dX11_term_16 : decode cX11_term 16 = .ok (.ifCond .ne 5, 3) := by decide +kernel
theorem dX11_term_19 : decode cX11_term 19 = .ok (.iconst 0, 1) := by decide +kernel
theorem dX11_term_20 : decode cX11_term 20 = .ok (.ireturn, 1) := by decide +kernel
theorem dX11_term_21 : decode cX11_term 21 = .ok (.aload_n 0, 1) := by decide +kernel
theorem dX11_term_22 : decode cX11_term 22 = .ok (.invokevirtual 466, 3) := by decide +kernel
theorem dX11_term_25 : decode cX11_term 25 = .ok (.aload_n 0, 1) := by decide +kernel
theorem dX11_term_26 : decode cX11_term 26 = .ok (.invokevirtual 442, 3) := by decide +kernel
theorem dX11_term_29 : decode cX11_term 29 = .ok (.invokestatic 316, 3) := by decide +kernel
theorem dX11_term_32 : decode cX11_term 32 = .ok (.istore_n 2, 1) := by decide +kernel
theorem dX11_term_33 : decode cX11_term 33 = .ok (.iload_n 2, 1) := by decide +kernel
theorem dX11_term_34 : decode cX11_term 34 = .ok (.ifCond .le 41, 3) := by decide +kernel
theorem dX11_term_37 : decode cX11_term 37 = .ok (.iconst 0, 1) := by decide +kernel
theorem dX11_term_38 : decode cX11_term 38 = .ok (.istore_n 3, 1) := by decide +kernel
theorem dX11_term_39 : decode cX11_term 39 = .ok (.iload_n 3, 1) := by decide +kernel
theorem dX11_term_40 : decode cX11_term 40 = .ok (.aload_n 0, 1) := by decide +kernel
theorem dX11_term_41 : decode cX11_term 41 = .ok (.invokevirtual 371, 3) := by decide +kernel
theorem dX11_term_44 : decode cX11_term 44 = .ok (.iload_n 2, 1) := by decide +kernel
theorem dX11_term_45 : decode cX11_term 45 = .ok (.invokestatic 472, 3) := by decide +kernel
theorem dX11_term_48 : decode cX11_term 48 = .ok (.if_icmp .ge 21, 3) := by decide +kernel
theorem dX11_term_51 : decode cX11_term 51 = .ok (.aload_n 0, 1) := by decide +kernel
theorem dX11_term_52 : decode cX11_term 52 = .ok (.iload_n 3, 1) := by decide +kernel
theorem dX11_term_53 : decode cX11_term 53 = .ok (.iload_n 2, 1) := by decide +kernel
theorem dX11_term_54 : decode cX11_term 54 = .ok (.invokevirtual 478, 3) := by decide +kernel
theorem dX11_term_57 : decode cX11_term 57 = .ok (.iload_n 1, 1) := by decide +kernel
theorem dX11_term_58 : decode cX11_term 58 = .ok (.if_icmp .gt 5, 3) := by decide +kernel
theorem dX11_term_61 : decode cX11_term 61 = .ok (.iload_n 2, 1) := by decide +kernel
theorem dX11_term_62 : decode cX11_term 62 = .ok (.ireturn, 1) := by decide +kernel
theorem dX11_term_63 : decode cX11_term 63 = .ok (.iinc 3 1, 3) := by decide +kernel
theorem dX11_term_66 : decode cX11_term 66 = .ok (.goto (-27), 3) := by decide +kernel
theorem dX11_term_69 : decode cX11_term 69 = .ok (.iinc 2 (-1), 3) := by decide +kernel
theorem dX11_term_72 : decode cX11_term 72 = .ok (.goto (-39), 3) := by decide +kernel
theorem dX11_term_75 : decode cX11_term 75 = .ok (.iconst 0, 1) := by decide +kernel
theorem dX11_term_76 : decode cX11_term 76 = .ok (.ireturn, 1) := by decide +kernel
theorem wd_1970 : (Cond.code ⟨"WebCourtModel", "term", "(I)I"⟩ prog_13_method_109_code (4 : Nat) (Option.some FieldType.int)) ∈ gtb := gtb_c8 181 (by decide +kernel) rfl
theorem Km6_A6 {u v : St} (h : Km6 u v) : fA v 6 = fA u 6 := h.2.2.2.2.2.2.2.2.2.2.2.2.2.2.2.2.2.2.2.2.2.2.2.2.2.2.2.2.1
set_option maxHeartbeats 4000000 in
set_option maxRecDepth 100000 in
theorem T_X11_term (l : Launch) (D : va_G) (cy : Nat → ClassId) (a : Nat → Nat) (u : St) (hJ : MI a u) (gm : Int32) (hgm : fA u 6 (fI u 0 36).toNatClampNeg = gm) (x1 : Int32)  : Mi l D cy (mW cy a) yX11_term (.code yX11_term cX11_term 4 (some .int)) (rmo 4 93) [.ref (a 0), .int x1] u (fun (r : Int32) (u' : St) => (MI a u') ∧ (Km6 u u')) := by
  refine Mi.of (own := RX11) rfl (by decide) (Nat.le_of_ble_eq_true rfl) ?_
  have hT : Km6 u u := Km6.rf
  have hJ0 := hJ
  intro p e s m below meth c A Q ls C hret hO hl
  obtain ⟨hx, hb, hml, hown, ht, hK, hA⟩ := id C
  have hl : lv_has ls 4 [(0, .ref (a 0)), (1, .int x1)] := hl
  refine lv_iload_n hx hb dX11_term_0 rfl (lv_at hl 1 rfl) ?_
  refine lv_iconst (v := 0) hx hb dX11_term_1 (by decide) ?_
  refine lv_bipush (v := 30) hx hb dX11_term_2 (by decide) ?_
  refine cSi (w := mW cy a) (As := [.int x1, .int 0, .int 30]) (rest := []) C hO (T_X11_isIn l D cy a _ (by exact hJ) (x1) (0) (30)) (va_cwS 3 ht (gSS wd_1722 wd_1723 wd_121 wd_1724) rfl rfl rfl hd_yX11_isIn ⟨Nat.le_of_ble_eq_true rfl, Nat.le_of_ble_eq_true rfl⟩)  rfl hl.1 (Nat.le_of_ble_eq_true rfl) dX11_term_4 rfl ⟨Nat.zero_le _, Nat.zero_le _⟩ (fun r1 u2 H locs hp3 hO => ?_)
  obtain ⟨hr1, hu2⟩ := hp3
  rw [hu2] at hO
  have zz4 : (0 : Int32).toInt = 0 := rfl
  have zz5 : (30 : Int32).toInt = 30 := rfl
  rcases hr1 with ⟨hcr1, hvr1⟩ | ⟨hcr1, hvr1⟩
  · subst hvr1
    refine bt_ne (tgt := 12) (X := 1) hx hb dX11_term_7 (by decide) rfl (by omega) ?_
    refine lv_aload_n hx hb dX11_term_12 rfl (lv_at hl 0 rfl) ?_
    have g6 : 0 ≤ (fI u 0 36).toInt ∧ (fI u 0 36).toInt ≤ 1 := by have h := MI_36 hJ0; exact h
    have g7 : 0 ≤ gm.toInt ∧ gm.toInt ≤ 6 := by have h := MI_A6 hJ0 (fI u 0 36).toNatClampNeg; rw [hgm] at h; exact h
    refine cVi (w := mW cy a) (As := []) (rest := []) C hO (T_X11_many l D cy a _ (by exact hJ) (gm) (by exact hgm)) (cwV 0 ht (gV wd_1348 wd_1350 wd_46 wd_121 wd_1351) rfl rfl rfl hd_yX11_many ⟨Nat.le_of_ble_eq_true rfl, Nat.le_of_ble_eq_true rfl⟩) 0 rfl mW_0 rfl rfl hl.1 (Nat.le_of_ble_eq_true rfl) dX11_term_13 rfl ⟨Nat.zero_le _, Nat.zero_le _⟩ (fun r8 u9 H locs hp10 hO => ?_)
    obtain ⟨hr8, hu9⟩ := hp10
    refine tE hr8 ?_
    rw [hu9] at hO
    refine bs_ne (tgt := 21) (X := (gm).toInt) hx hb dX11_term_16 (by decide) rfl (fun c11 => ?_) (fun c11 => ?_)
    · refine lv_aload_n hx hb dX11_term_21 rfl (lv_at hl 0 rfl) ?_
      have g12 : 0 ≤ (fA u 3 ((fI u 0 36)).toNatClampNeg).toInt ∧ (fA u 3 ((fI u 0 36)).toNatClampNeg).toInt ≤ 8 := by have h := MI_A3 hJ0 ((fI u 0 36)).toNatClampNeg; exact h
      refine cVv (w := mW cy a) (As := []) (rest := []) C hO (T_X11_layFar l D cy a _ (by exact hJ) ((fA u 3 ((fI u 0 36)).toNatClampNeg)) (by exact rfl)) (cwV 0 ht (gV wd_1936 wd_1938 wd_102 wd_121 wd_1939) rfl rfl rfl hd_yX11_layFar ⟨Nat.le_of_ble_eq_true rfl, Nat.le_of_ble_eq_true rfl⟩) 0 rfl mW_0 rfl rfl hl.1 (Nat.le_of_ble_eq_true rfl) dX11_term_22 rfl ⟨Nat.zero_le _, Nat.zero_le _⟩ (fun u14 H locs hp15 hO => ?_)
      obtain ⟨hJ, hTu14⟩ := hp15
      have hT : Km6 u u14 := Km6.tr (by exact hT) hTu14
      refine lv_aload_n hx hb dX11_term_25 rfl (lv_at hl 0 rfl) ?_
      refine cVi (w := mW cy a) (As := []) (rest := []) C hO (T_X11_heldNow l D cy a _ (by exact hJ) (gm) (by exact (Eq.trans (congrArg (fun z : Int32 => fA _ 6 z.toNatClampNeg) (Km6_I36 hT)) (Eq.trans (congrFun (Km6_A6 hT) _) hgm)))) (cwV 0 ht (gV wd_1840 wd_1842 wd_94 wd_121 wd_1843) rfl rfl rfl hd_yX11_heldNow ⟨Nat.le_of_ble_eq_true rfl, Nat.le_of_ble_eq_true rfl⟩) 0 rfl mW_0 rfl rfl hl.1 (Nat.le_of_ble_eq_true rfl) dX11_term_26 rfl ⟨Nat.zero_le _, Nat.zero_le _⟩ (fun r16 u17 H locs hp18 hO => ?_)
      obtain ⟨hr16, hu17⟩ := hp18
      rw [hu17] at hO
      obtain ⟨gr16, gmr16⟩ := hr16
      refine cSi (w := mW cy a) (As := [.int r16]) (rest := []) C hO (T_X11_bitsOf_8 l D cy a _ (by exact hJ) (r16) (by first | omega | decide)) (va_cwS 1 ht (gSS wd_1663 wd_1664 wd_121 wd_1665) rfl rfl rfl hd_yX11_bitsOf ⟨Nat.le_of_ble_eq_true rfl, Nat.le_of_ble_eq_true rfl⟩)  rfl hl.1 (Nat.le_of_ble_eq_true rfl) dX11_term_29 rfl ⟨Nat.zero_le _, Nat.zero_le _⟩ (fun r19 u20 H locs hp21 hO => ?_)
      obtain ⟨hr19, hu20⟩ := hp21
      rw [hu20] at hO
      have gpr19 := pc8_b (x := (r16 : Int32).toInt) (by omega) (by omega)
      have gr19 : 0 ≤ r19.toInt ∧ r19.toInt ≤ 6 := by omega
      refine lv_istore_n (lv' := [(2, .int r19), (0, .ref (a 0)), (1, .int x1)]) hx hb dX11_term_32 rfl hl (by decide) rfl (fun ls hl => ?_)
      have LP_33_k22 : ∀ (n : Nat) (H : Heap) (locs : List Loc) (ls : Array Slot) (i_k22 : Int32), Wo D A (mW cy a u14) s.heap H locs → lv_has ls 4 [(2, .int i_k22), (0, .ref (a 0)), (1, .int x1)] → 0 ≤ i_k22.toInt ∧ i_k22.toInt ≤ 6 → i_k22.toInt < (n : Int) → W p l e (rmo 4 93) s m [.ref (a 0), .int x1].toArray below meth c H locs 0 0 Q (F0 m 33 ls []) := by
        intro n
        induction n with
        | zero =>
          intro H locs ls i_k22 hO hl iv0_k22 hm_k22
          exact absurd hm_k22 (by omega)
        | succ n ih_k22 =>
          intro H locs ls i_k22 hO hl iv0_k22 hm_k22
          refine lv_iload_n hx hb dX11_term_33 rfl (lv_at hl 0 rfl) ?_
          refine bs_le (tgt := 75) (X := (i_k22).toInt) hx hb dX11_term_34 (by decide) rfl (fun c23 => ?_) (fun c23 => ?_)
          · refine lv_iconst (v := 0) hx hb dX11_term_75 (by decide) ?_
            refine hret _ _ _ _ _ _ dX11_term_76 rfl ?_ hO
            exact ⟨hJ, hT⟩
          · refine lv_iconst (v := 0) hx hb dX11_term_37 (by decide) ?_
            refine lv_istore_n (lv' := [(3, .int 0), (2, .int i_k22), (0, .ref (a 0)), (1, .int x1)]) hx hb dX11_term_38 rfl hl (by decide) rfl (fun ls hl => ?_)
            have LP_39_k24 : ∀ (n : Nat) (H : Heap) (locs : List Loc) (ls : Array Slot) (i_k24 : Int32), Wo D A (mW cy a u14) s.heap H locs → lv_has ls 4 [(3, .int i_k24), (2, .int i_k22), (0, .ref (a 0)), (1, .int x1)] → 0 ≤ i_k24.toInt ∧ i_k24.toInt ≤ 46656 → 46656 - i_k24.toInt < (n : Int) → W p l e (rmo 4 93) s m [.ref (a 0), .int x1].toArray below meth c H locs 0 0 Q (F0 m 39 ls []) := by
              intro n
              induction n with
              | zero =>
                intro H locs ls i_k24 hO hl iv0_k24 hm_k24
                exact absurd hm_k24 (by omega)
              | succ n ih_k24 =>
                intro H locs ls i_k24 hO hl iv0_k24 hm_k24
                refine lv_iload_n hx hb dX11_term_39 rfl (lv_at hl 0 rfl) ?_
                refine lv_aload_n hx hb dX11_term_40 rfl (lv_at hl 2 rfl) ?_
                refine cVi (w := mW cy a) (As := []) (rest := [.int i_k24]) C hO (T_X11_many l D cy a _ (by exact hJ) (gm) (by exact (Eq.trans (congrArg (fun z : Int32 => fA _ 6 z.toNatClampNeg) (Km6_I36 hT)) (Eq.trans (congrFun (Km6_A6 hT) _) hgm)))) (cwV 0 ht (gV wd_1348 wd_1350 wd_46 wd_121 wd_1351) rfl rfl rfl hd_yX11_many ⟨Nat.le_of_ble_eq_true rfl, Nat.le_of_ble_eq_true rfl⟩) 0 rfl mW_0 rfl rfl hl.1 (Nat.le_of_ble_eq_true rfl) dX11_term_41 rfl ⟨Nat.zero_le _, Nat.zero_le _⟩ (fun r25 u26 H locs hp27 hO => ?_)
                obtain ⟨hr25, hu26⟩ := hp27
                refine tE hr25 ?_
                rw [hu26] at hO
                refine lv_iload_n hx hb dX11_term_44 rfl (lv_at hl 1 rfl) ?_
                refine cSi (w := mW cy a) (As := [.int gm, .int i_k22]) (rest := [.int i_k24]) C hO (T_X11_power_6 l D cy a _ (by exact hJ) (gm) (i_k22) (by first | omega | decide) (by first | omega | decide)) (va_cwS 2 ht (gSS wd_1956 wd_1957 wd_121 wd_1958) rfl rfl rfl hd_yX11_power ⟨Nat.le_of_ble_eq_true rfl, Nat.le_of_ble_eq_true rfl⟩)  rfl hl.1 (Nat.le_of_ble_eq_true rfl) dX11_term_45 rfl ⟨Nat.zero_le _, Nat.zero_le _⟩ (fun r28 u29 H locs hp30 hO => ?_)
                obtain ⟨hr28, hu29⟩ := hp30
                rw [hu29] at hO
                refine cs_ge (tgt := 69) (X := (i_k24).toInt) (Y := (r28).toInt) hx hb dX11_term_48 (by decide) rfl rfl (fun c31 => ?_) (fun c31 => ?_)
                · obtain ⟨z32, ez32⟩ : ∃ z : Int32, z = i_k22 + Int32.ofInt (-1) := ⟨_, rfl⟩
                  have e33 : z32.toInt = (i_k22).toInt + (-1) := by rw [ez32]; exact i_add rfl rfl (by omega)
                  refine lv_iinc (v := z32) (lv' := [(2, .int z32), (3, .int i_k24), (0, .ref (a 0)), (1, .int x1)]) hx hb dX11_term_69 hl (k := 1) rfl ez32.symm (by decide) rfl (fun ls hl => ?_)
                  refine lv_goto (tgt := 33) hx hb dX11_term_72 (by decide) ?_
                  exact ih_k22 _ _ _ (z32) hO (lv_sub hl [0, 2, 3] rfl) (by first | decide | omega) (by first | decide | omega)
                · refine lv_aload_n hx hb dX11_term_51 rfl (lv_at hl 2 rfl) ?_
                  refine lv_iload_n hx hb dX11_term_52 rfl (lv_at hl 0 rfl) ?_
                  refine lv_iload_n hx hb dX11_term_53 rfl (lv_at hl 1 rfl) ?_
                  refine cVi (w := mW cy a) (As := [.int i_k24, .int i_k22]) (rest := []) C hO (T_X11_lastHeard l D cy a _ (by exact hJ) (gm) (by exact (Eq.trans (congrArg (fun z : Int32 => fA _ 6 z.toNatClampNeg) (Km6_I36 hT)) (Eq.trans (congrFun (Km6_A6 hT) _) hgm))) ((fA u 3 ((fI u 0 36)).toNatClampNeg)) (by exact (Eq.trans (congrArg (fun z : Int32 => fA _ 3 z.toNatClampNeg) (Km6_I36 hT)) (congrFun (Km6_A3 hT) _))) (i_k24) (i_k22) (by first | omega | decide) (by first | omega | decide) (by first | omega | decide)) (cwV 2 ht (gV wd_1959 wd_1961 wd_104 wd_121 wd_1962) rfl rfl rfl hd_yX11_lastHeard ⟨Nat.le_of_ble_eq_true rfl, Nat.le_of_ble_eq_true rfl⟩) 0 rfl mW_0 rfl rfl hl.1 (Nat.le_of_ble_eq_true rfl) dX11_term_54 rfl ⟨Nat.zero_le _, Nat.zero_le _⟩ (fun r34 u35 H locs hp36 hO => ?_)
                  have hu35 := hp36
                  rw [hu35] at hO
                  refine lv_iload_n hx hb dX11_term_57 rfl (lv_at hl 3 rfl) ?_
                  refine cs_gt (tgt := 63) (X := (r34).toInt) (Y := (x1).toInt) hx hb dX11_term_58 (by decide) rfl rfl (fun c37 => ?_) (fun c37 => ?_)
                  · obtain ⟨z38, ez38⟩ : ∃ z : Int32, z = i_k24 + Int32.ofInt 1 := ⟨_, rfl⟩
                    have e39 : z38.toInt = (i_k24).toInt + 1 := by rw [ez38]; exact i_add rfl rfl (by omega)
                    refine lv_iinc (v := z38) (lv' := [(3, .int z38), (2, .int i_k22), (0, .ref (a 0)), (1, .int x1)]) hx hb dX11_term_63 hl (k := 0) rfl ez38.symm (by decide) rfl (fun ls hl => ?_)
                    refine lv_goto (tgt := 39) hx hb dX11_term_66 (by decide) ?_
                    exact ih_k24 _ _ _ (z38) hO (lv_sub hl [0, 1, 2, 3] rfl) (by first | decide | omega) (by first | decide | omega)
                  · refine lv_iload_n hx hb dX11_term_61 rfl (lv_at hl 1 rfl) ?_
                    refine hret _ _ _ _ _ _ dX11_term_62 rfl ?_ hO
                    exact ⟨hJ, hT⟩
            have zc40 : (0 : Int32).toInt = 0 := rfl
            exact LP_39_k24 46658 _ _ _ (0) hO (lv_sub hl [0, 1, 2, 3] rfl) (by first | decide | omega) (by first | decide | omega)
      exact LP_33_k22 4000 _ _ _ (r19) hO (lv_sub hl [0, 1, 2] rfl) (by first | decide | omega) (by first | decide | omega)
    · refine lv_iconst (v := 0) hx hb dX11_term_19 (by decide) ?_
      refine hret _ _ _ _ _ _ dX11_term_20 rfl ?_ hO
      exact ⟨hJ, hT⟩
  · subst hvr1
    refine bn_ne (X := 0) hx hb dX11_term_7 rfl (by omega) ?_ (tgt := 12) (by decide)
    refine lv_iconst (v := (-1)) hx hb dX11_term_10 (by decide) ?_
    refine hret _ _ _ _ _ _ dX11_term_11 rfl ?_ hO
    exact ⟨hJ, hT⟩
theorem dX11_odds_0 : decode cX11_odds 0 = .ok (.iload_n 1, 1) := by decide +kernel
theorem dX11_odds_1 : decode cX11_odds 1 = .ok (.iconst 0, 1) := by decide +kernel
theorem dX11_odds_2 : decode cX11_odds 2 = .ok (.iconst 4, 1) := by decide +kernel
theorem dX11_odds_3 : decode cX11_odds 3 = .ok (.invokestatic 374, 3) := by decide +kernel
theorem dX11_odds_6 : decode cX11_odds 6 = .ok (.ifCond .eq 12, 3) := by decide +kernel
theorem dX11_odds_9 : decode cX11_odds 9 = .ok (.iload_n 2, 1) := by decide +kernel
theorem dX11_odds_10 : decode cX11_odds 10 = .ok (.iconst 0, 1) := by decide +kernel
theorem dX11_odds_11 : decode cX11_odds 11 = .ok (.iconst 1, 1) := by decide +kernel
theorem dX11_odds_12 : decode cX11_odds 12 = .ok (.invokestatic 374, 3) := by decide +kernel
theorem dX11_odds_15 : decode cX11_odds 15 = .ok (.ifCond .ne 5, 3) := by decide +kernel
theorem dX11_odds_18 : decode cX11_odds 18 = .ok (.iconst (-1), 1) := by decide +kernel
theorem dX11_odds_19 : decode cX11_odds 19 = .ok (.ireturn, 1) := by decide +kernel
theorem dX11_odds_20 : decode cX11_odds 20 = .ok (.bipush 100, 2) := by decide +kernel
theorem dX11_odds_22 : decode cX11_odds 22 = .ok (.aload_n 0, 1) := by decide +kernel
theorem dX11_odds_23 : decode cX11_odds 23 = .ok (.getfield 39, 3) := by decide +kernel
theorem dX11_odds_26 : decode cX11_odds 26 = .ok (.aload_n 0, 1) := by decide +kernel
theorem dX11_odds_27 : decode cX11_odds 27 = .ok (.getfield 255, 3) := by decide +kernel
theorem dX11_odds_30 : decode cX11_odds 30 = .ok (.iaload, 1) := by decide +kernel
theorem dX11_odds_31 : decode cX11_odds 31 = .ok (.isub, 1) := by decide +kernel
theorem dX11_odds_32 : decode cX11_odds 32 = .ok (.iload_n 1, 1) := by decide +kernel
theorem dX11_odds_33 : decode cX11_odds 33 = .ok (.invokestatic 472, 3) := by decide +kernel
theorem dX11_odds_36 : decode cX11_odds 36 = .ok (.istore_n 3, 1) := by decide +kernel
theorem dX11_odds_37 : decode cX11_odds 37 = .ok (.bipush 100, 2) := by decide +kernel
theorem dX11_odds_39 : decode cX11_odds 39 = .ok (.iload_n 1, 1) := by decide +kernel
theorem dX11_odds_40 : decode cX11_odds 40 = .ok (.invokestatic 472, 3) := by decide +kernel
theorem dX11_odds_43 : decode cX11_odds 43 = .ok (.istore 4, 2) := by decide +kernel
theorem dX11_odds_45 : decode cX11_odds 45 = .ok (.iload_n 2, 1) := by decide +kernel
theorem dX11_odds_46 : decode cX11_odds 46 = .ok (.ifCond .ne 7, 3) := by decide +kernel
theorem dX11_odds_49 : decode cX11_odds 49 = .ok (.iload_n 3, 1) := by decide +kernel
theorem dX11_odds_50 : decode cX11_odds 50 = .ok (.goto 5, 3) := by decide +kernel
theorem dX11_odds_53 : decode cX11_odds 53 = .ok (.iload 4, 2) := by decide +kernel
theorem dX11_odds_55 : decode cX11_odds 55 = .ok (.iload 4, 2) := by decide +kernel
theorem dX11_odds_57 : decode cX11_odds 57 = .ok (.iload_n 3, 1) := by decide +kernel
theorem dX11_odds_58 : decode cX11_odds 58 = .ok (.invokestatic 481, 3) := by decide +kernel
theorem dX11_odds_61 : decode cX11_odds 61 = .ok (.idiv, 1) := by decide +kernel
theorem dX11_odds_62 : decode cX11_odds 62 = .ok (.ireturn, 1) := by decide +kernel
theorem wd_1974 : (Cond.code ⟨"WebCourtModel", "odds", "(II)I"⟩ prog_13_method_110_code (5 : Nat) (Option.some FieldType.int)) ∈ gtb := gtb_c8 185 (by decide +kernel) rfl
theorem wd_1373 : (Cond.fieldLink "WebCourtModel" (39 : Nat) "WebCourtModel" "back" "[I") ∈ gtb := gtb_c6 64 (by decide +kernel) rfl
theorem gf_RX11_39 {p : Program} {l : Launch} {e : Env} {R : Room} {s : State} {m : MethodId} {args : Array Value} {below : List Frame} {meth : Method} {c : Code} {H : Heap} {locs : List Loc} {cells slots : Nat} {Q : State → Prop} {cc : ByteArray} {pc nL : Nat} {ls : Array Slot} {rest : List Value} {D : va_G} {cy : Nat → ClassId} {A : Nat → Prop} {ws : va_W} {b : Nat} {fs : List Value} {v : Value} (C : Cx p s m args c cc nL RX11 D cy A) (hO : Wo D A ws s.heap H locs) (q0 : Nat) (he : ws[q0]? = some (b, .inr (11, fs))) (hv : fs[17]? = some v) (hdg : decode cc pc = .ok (.getfield 39, 3)) (kk : W p l e R s m args below meth c H locs cells slots Q (F0 m (pc + 3) ls (v :: rest))) : W p l e R s m args below meth c H locs cells slots Q (F0 m pc ls (.ref b :: rest)) := gF (k := 17) C hO q0 he rfl inFX11 (by decide) wd_1373 rfl hv hdg kk
theorem wd_1975 : (Cond.methodLink "WebCourtModel" (481 : Nat) ⟨"WebCourtModel", "divisor", "(II)I"⟩) ∈ gtb := gtb_c8 186 (by decide +kernel) rfl
theorem wd_1976 : (Cond.static ⟨"WebCourtModel", "divisor", "(II)I"⟩) ∈ gtb := gtb_c8 187 (by decide +kernel) rfl
theorem hd_yX11_divisor : yX11_divisor.cls ≠ "java/lang/invoke/MethodHandle" ∧ yX11_divisor.cls ≠ "java/lang/invoke/VarHandle" ∧ (parseMethodDescriptor yX11_divisor.desc).map (fun d => d.parameters.length) = some 2 := by decide +kernel
set_option maxHeartbeats 4000000 in
set_option maxRecDepth 100000 in
theorem T_X11_odds (l : Launch) (D : va_G) (cy : Nat → ClassId) (a : Nat → Nat) (u : St) (hJ : MI a u) (x1 : Int32) (x2 : Int32)  : Mi l D cy (mW cy a) yX11_odds (.code yX11_odds cX11_odds 5 (some .int)) (rmo 1 24) [.ref (a 0), .int x1, .int x2] u (fun (r : Int32) (u' : St) => u' = u) := by
  refine Mi.of (own := RX11) rfl (by decide) (Nat.le_of_ble_eq_true rfl) ?_
  have hT : Km0 u u := Km0.rf
  have hJ0 := hJ
  intro p e s m below meth c A Q ls C hret hO hl
  obtain ⟨hx, hb, hml, hown, ht, hK, hA⟩ := id C
  have hl : lv_has ls 5 [(0, .ref (a 0)), (1, .int x1), (2, .int x2)] := hl
  refine lv_iload_n hx hb dX11_odds_0 rfl (lv_at hl 1 rfl) ?_
  refine lv_iconst (v := 0) hx hb dX11_odds_1 (by decide) ?_
  refine lv_iconst (v := 4) hx hb dX11_odds_2 (by decide) ?_
  refine cSi (w := mW cy a) (As := [.int x1, .int 0, .int 4]) (rest := []) C hO (T_X11_isIn l D cy a _ (by exact hJ) (x1) (0) (4)) (va_cwS 3 ht (gSS wd_1722 wd_1723 wd_121 wd_1724) rfl rfl rfl hd_yX11_isIn ⟨Nat.le_of_ble_eq_true rfl, Nat.le_of_ble_eq_true rfl⟩)  rfl hl.1 (Nat.le_of_ble_eq_true rfl) dX11_odds_3 rfl ⟨Nat.zero_le _, Nat.zero_le _⟩ (fun r1 u2 H locs hp3 hO => ?_)
  obtain ⟨hr1, hu2⟩ := hp3
  rw [hu2] at hO
  have zz4 : (0 : Int32).toInt = 0 := rfl
  have zz5 : (4 : Int32).toInt = 4 := rfl
  rcases hr1 with ⟨hcr1, hvr1⟩ | ⟨hcr1, hvr1⟩
  · subst hvr1
    refine bn_eq (X := 1) hx hb dX11_odds_6 rfl (by omega) ?_ (tgt := 18) (by decide)
    refine lv_iload_n hx hb dX11_odds_9 rfl (lv_at hl 2 rfl) ?_
    refine lv_iconst (v := 0) hx hb dX11_odds_10 (by decide) ?_
    refine lv_iconst (v := 1) hx hb dX11_odds_11 (by decide) ?_
    refine cSi (w := mW cy a) (As := [.int x2, .int 0, .int 1]) (rest := []) C hO (T_X11_isIn l D cy a _ (by exact hJ) (x2) (0) (1)) (va_cwS 3 ht (gSS wd_1722 wd_1723 wd_121 wd_1724) rfl rfl rfl hd_yX11_isIn ⟨Nat.le_of_ble_eq_true rfl, Nat.le_of_ble_eq_true rfl⟩)  rfl hl.1 (Nat.le_of_ble_eq_true rfl) dX11_odds_12 rfl ⟨Nat.zero_le _, Nat.zero_le _⟩ (fun r6 u7 H locs hp8 hO => ?_)
    obtain ⟨hr6, hu7⟩ := hp8
    rw [hu7] at hO
    have zz9 : (0 : Int32).toInt = 0 := rfl
    have zz10 : (1 : Int32).toInt = 1 := rfl
    rcases hr6 with ⟨hcr6, hvr6⟩ | ⟨hcr6, hvr6⟩
    · subst hvr6
      refine bt_ne (tgt := 20) (X := 1) hx hb dX11_odds_15 (by decide) rfl (by omega) ?_
      refine lv_bipush (v := 100) hx hb dX11_odds_20 (by decide) ?_
      refine lv_aload_n hx hb dX11_odds_22 rfl (lv_at hl 0 rfl) ?_
      refine gf_RX11_39 (v := .ref (a 9)) C hO 0 mW_0 rfl dX11_odds_23 ?_
      refine lv_aload_n hx hb dX11_odds_26 rfl (lv_at hl 0 rfl) ?_
      have g11 : 0 ≤ (fI u 0 36).toInt ∧ (fI u 0 36).toInt ≤ 1 := by have h := MI_36 hJ0; exact h
      refine gf_RX11_255 (v := .int (fI u 0 36)) C hO 0 mW_0 rfl dX11_odds_27 ?_
      refine aI C hO 9 mW_9 (i_in (X := ((fI u 0 36)).toInt) rfl (by omega) (by omega)) dX11_odds_30 ?_
      refine tE (y := (fA u 9 ((fI u 0 36)).toNatClampNeg)) (by exact rfl) ?_
      refine lv_isub hx hb dX11_odds_31 ?_
      refine lv_topi (fun z12 ez12 => ?_)
      refine lv_iload_n hx hb dX11_odds_32 rfl (lv_at hl 1 rfl) ?_
      refine cSi (w := mW cy a) (As := [.int z12, .int x1]) (rest := []) C hO (T_X11_power l D cy a _ (by exact hJ) (z12) (x1) (by first | omega | decide)) (va_cwS 2 ht (gSS wd_1956 wd_1957 wd_121 wd_1958) rfl rfl rfl hd_yX11_power ⟨Nat.le_of_ble_eq_true rfl, Nat.le_of_ble_eq_true rfl⟩)  rfl hl.1 (Nat.le_of_ble_eq_true rfl) dX11_odds_33 rfl ⟨Nat.zero_le _, Nat.zero_le _⟩ (fun r13 u14 H locs hp15 hO => ?_)
      have hu14 := hp15
      rw [hu14] at hO
      refine lv_istore_n (lv' := [(3, .int r13), (0, .ref (a 0)), (1, .int x1), (2, .int x2)]) hx hb dX11_odds_36 rfl hl (by decide) rfl (fun ls hl => ?_)
      refine lv_bipush (v := 100) hx hb dX11_odds_37 (by decide) ?_
      refine lv_iload_n hx hb dX11_odds_39 rfl (lv_at hl 2 rfl) ?_
      refine cSi (w := mW cy a) (As := [.int 100, .int x1]) (rest := []) C hO (T_X11_power_100 l D cy a _ (by exact hJ) (x1) (by first | omega | decide)) (va_cwS 2 ht (gSS wd_1956 wd_1957 wd_121 wd_1958) rfl rfl rfl hd_yX11_power ⟨Nat.le_of_ble_eq_true rfl, Nat.le_of_ble_eq_true rfl⟩)  rfl hl.1 (Nat.le_of_ble_eq_true rfl) dX11_odds_40 rfl ⟨Nat.zero_le _, Nat.zero_le _⟩ (fun r16 u17 H locs hp18 hO => ?_)
      obtain ⟨hr16, hu17⟩ := hp18
      rw [hu17] at hO
      refine lv_istore (lv' := [(4, .int r16), (3, .int r13), (0, .ref (a 0)), (1, .int x1), (2, .int x2)]) hx hb dX11_odds_43 hl (by decide) rfl (fun ls hl => ?_)
      refine lv_iload_n hx hb dX11_odds_45 rfl (lv_at hl 4 rfl) ?_
      refine bs_ne (tgt := 53) (X := (x2).toInt) hx hb dX11_odds_46 (by decide) rfl (fun c19 => ?_) (fun c19 => ?_)
      · refine lv_iload hx hb dX11_odds_53 (lv_at hl 0 rfl) ?_
        refine lv_iload hx hb dX11_odds_55 (lv_at hl 0 rfl) ?_
        refine lv_iload_n hx hb dX11_odds_57 rfl (lv_at hl 1 rfl) ?_
        refine cSi (w := mW cy a) (As := [.int r16, .int r13]) (rest := [.int r16]) C hO (T_X11_divisor l D cy a _ (by exact hJ) (r16) (r13) (by first | omega | decide)) (va_cwS 2 ht (gSS wd_1975 wd_1976 wd_121 wd_1977) rfl rfl rfl hd_yX11_divisor ⟨Nat.le_of_ble_eq_true rfl, Nat.le_of_ble_eq_true rfl⟩)  rfl hl.1 (Nat.le_of_ble_eq_true rfl) dX11_odds_58 rfl ⟨Nat.zero_le _, Nat.zero_le _⟩ (fun r20 u21 H locs hp22 hO => ?_)
        obtain ⟨hr20, hu21⟩ := hp22
        rw [hu21] at hO
        refine lv_idiv hx hb dX11_odds_61 (i_ne0 (X := (r20).toInt) rfl (by omega)) ?_
        refine lv_topi (fun z23 ez23 => ?_)
        have d24 : 0 ≤ z23.toInt ∧ z23.toInt ≤ (r16).toInt := by rw [ez23]; exact i_divr rfl rfl (by omega) (by omega)
        refine hret _ _ _ _ _ _ dX11_odds_62 rfl ?_ hO
        exact rfl
      · refine lv_iload_n hx hb dX11_odds_49 rfl (lv_at hl 1 rfl) ?_
        refine lv_goto (tgt := 55) hx hb dX11_odds_50 (by decide) ?_
        refine lv_iload hx hb dX11_odds_55 (lv_at hl 0 rfl) ?_
        refine lv_iload_n hx hb dX11_odds_57 rfl (lv_at hl 1 rfl) ?_
        refine cSi (w := mW cy a) (As := [.int r16, .int r13]) (rest := [.int r13]) C hO (T_X11_divisor l D cy a _ (by exact hJ) (r16) (r13) (by first | omega | decide)) (va_cwS 2 ht (gSS wd_1975 wd_1976 wd_121 wd_1977) rfl rfl rfl hd_yX11_divisor ⟨Nat.le_of_ble_eq_true rfl, Nat.le_of_ble_eq_true rfl⟩)  rfl hl.1 (Nat.le_of_ble_eq_true rfl) dX11_odds_58 rfl ⟨Nat.zero_le _, Nat.zero_le _⟩ (fun r25 u26 H locs hp27 hO => ?_)
        obtain ⟨hr25, hu26⟩ := hp27
        rw [hu26] at hO
        refine lv_idiv hx hb dX11_odds_61 (i_ne0 (X := (r25).toInt) rfl (by omega)) ?_
        refine lv_topi (fun z28 ez28 => ?_)
        refine hret _ _ _ _ _ _ dX11_odds_62 rfl ?_ hO
        exact rfl
    · subst hvr6
      refine bn_ne (X := 0) hx hb dX11_odds_15 rfl (by omega) ?_ (tgt := 20) (by decide)
      refine lv_iconst (v := (-1)) hx hb dX11_odds_18 (by decide) ?_
      refine hret _ _ _ _ _ _ dX11_odds_19 rfl ?_ hO
      exact rfl
  · subst hvr1
    refine bt_eq (tgt := 18) (X := 0) hx hb dX11_odds_6 (by decide) rfl (by omega) ?_
    refine lv_iconst (v := (-1)) hx hb dX11_odds_18 (by decide) ?_
    refine hret _ _ _ _ _ _ dX11_odds_19 rfl ?_ hO
    exact rfl
