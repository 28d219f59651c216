def Km0 (u v : St) : Prop := fI v 0 2 = fI u 0 2 ∧ fI v 0 3 = fI u 0 3 ∧ fI v 0 4 = fI u 0 4 ∧ fI v 0 5 = fI u 0 5 ∧ fI v 0 6 = fI u 0 6 ∧ fI v 0 7 = fI u 0 7 ∧ fI v 0 8 = fI u 0 8 ∧ fI v 0 9 = fI u 0 9 ∧ fL v 0 10 = fL u 0 10 ∧ fI v 0 36 = fI u 0 36 ∧ fI v 0 37 = fI u 0 37 ∧ fI v 0 38 = fI u 0 38 ∧ fI v 0 39 = fI u 0 39 ∧ fI v 0 40 = fI u 0 40 ∧ fI v 0 41 = fI u 0 41 ∧ fI v 0 42 = fI u 0 42 ∧ fI v 0 43 = fI u 0 43 ∧ fI v 0 45 = fI u 0 45 ∧ fI v 0 47 = fI u 0 47 ∧ fI v 0 48 = fI u 0 48 ∧ fI v 0 50 = fI u 0 50 ∧ fI v 0 61 = fI u 0 61 ∧ fI v 0 62 = fI u 0 62 ∧ fA v 1 = fA u 1 ∧ fA v 2 = fA u 2 ∧ fA v 3 = fA u 3 ∧ fA v 4 = fA u 4 ∧ fA v 5 = fA u 5 ∧ fA v 6 = fA u 6 ∧ fA v 7 = fA u 7 ∧ fA v 8 = fA u 8 ∧ fA v 9 = fA u 9 ∧ fA v 10 = fA u 10 ∧ fA v 11 = fA u 11 ∧ fA v 12 = fA u 12 ∧ fA v 13 = fA u 13 ∧ fA v 14 = fA u 14 ∧ fA v 15 = fA u 15 ∧ fA v 16 = fA u 16 ∧ fA v 17 = fA u 17 ∧ fA v 18 = fA u 18 ∧ fA v 19 = fA u 19 ∧ fJ v 20 = fJ u 20 ∧ fJ v 21 = fJ u 21 ∧ fJ v 22 = fJ u 22 ∧ fA v 23 = fA u 23 ∧ fA v 24 = fA u 24 ∧ fA v 25 = fA u 25 ∧ fA v 26 = fA u 26 ∧ fA v 27 = fA u 27 ∧ fA v 28 = fA u 28 ∧ fA v 29 = fA u 29 ∧ fA v 30 = fA u 30 ∧ fA v 31 = fA u 31 ∧ fA v 32 = fA u 32 ∧ fA v 33 = fA u 33 ∧ fA v 34 = fA u 34 ∧ fA v 35 = fA u 35 ∧ fA v 36 = fA u 36 ∧ fA v 37 = fA u 37 ∧ fA v 38 = fA u 38 ∧ fA v 39 = fA u 39 ∧ fA v 40 = fA u 40 ∧ fA v 41 = fA u 41 ∧ fA v 42 = fA u 42
theorem Km0.rf {u : St} : Km0 u u := ⟨rfl, rfl, rfl, rfl, rfl, rfl, rfl, rfl, rfl, rfl, rfl, rfl, rfl, rfl, rfl, rfl, rfl, rfl, rfl, rfl, rfl, rfl, rfl, rfl, rfl, rfl, rfl, rfl, rfl, rfl, rfl, rfl, rfl, rfl, rfl, rfl, rfl, rfl, rfl, rfl, rfl, rfl, rfl, rfl, rfl, rfl, rfl, rfl, rfl, rfl, rfl, rfl, rfl, rfl, rfl, rfl, rfl, rfl, rfl, rfl, rfl, rfl, rfl, rfl, rfl⟩
theorem Km0.tr {u v w : St} (h1 : Km0 u v) (h2 : Km0 v w) : Km0 u w := ⟨(h2.1).trans h1.1, (h2.2.1).trans h1.2.1, (h2.2.2.1).trans h1.2.2.1, (h2.2.2.2.1).trans h1.2.2.2.1, (h2.2.2.2.2.1).trans h1.2.2.2.2.1, (h2.2.2.2.2.2.1).trans h1.2.2.2.2.2.1, (h2.2.2.2.2.2.2.1).trans h1.2.2.2.2.2.2.1, (h2.2.2.2.2.2.2.2.1).trans h1.2.2.2.2.2.2.2.1, (h2.2.2.2.2.2.2.2.2.1).trans h1.2.2.2.2.2.2.2.2.1, (h2.2.2.2.2.2.2.2.2.2.1).trans h1.2.2.2.2.2.2.2.2.2.1, (h2.2.2.2.2.2.2.2.2.2.2.1).trans h1.2.2.2.2.2.2.2.2.2.2.1, (h2.2.2.2.2.2.2.2.2.2.2.2.1).trans h1.2.2.2.2.2.2.2.2.2.2.2.1, (h2.2.2.2.2.2.2.2.2.2.2.2.2.1).trans h1.2.2.2.2.2.2.2.2.2.2.2.2.1, (h2.2.2.2.2.2.2.2.2.2.2.2.2.2.1).trans h1.2.2.2.2.2.2.2.2.2.2.2.2.2.1, (h2.2.2.2.2.2.2.2.2.2.2.2.2.2.2.1).trans h1.2.2.2.2.2.2.2.2.2.2.2.2.2.2.1, (h2.2.2.2.2.2.2.2.2.2.2.2.2.2.2.2.1).trans h1.2.2.2.2.2.2.2.2.2.2.2.2.2.2.2.1, (h2.2.2.2.2.2.2.2.2.2.2.2.2.2.2.2.2.1).trans h1.2.2.2.2.2.2.2.2.2.2.2.2.2.2.2.2.1, (h2.2.2.2.2.2.2.2.2.2.2.2.2.2.2.2.2.2.1).trans h1.2.2.2.2.2.2.2.2.2.2.2.2.2.2.2.2.2.1, (h2.2.2.2.2.2.2.2.2.2.2.2.2.2.2.2.2.2.2.1).trans h1.2.2.2.2.2.2.2.2.2.2.2.2.2.2.2.2.2.2.1, (h2.2.2.2.2.2.2.2.2.2.2.2.2.2.2.2.2.2.2.2.1).trans h1.2.2.2.2.2.2.2.2.2.2.2.2.2.2.2.2.2.2.2.1, (h2.2.2.2.2.2.2.2.2.2.2.2.2.2.2.2.2.2.2.2.2.1).trans h1.2.2.2.2.2.2.2.2.2.2.2.2.2.2.2.2.2.2.2.2.1, (h2.2.2.2.2.2.2.2.2.2.2.2.2.2.2.2.2.2.2.2.2.2.1).trans h1.2.2.2.2.2.2.2.2.2.2.2.2.2.2.2.2.2.2.2.2.2.1, (h2.2.2.2.2.2.2.2.2.2.2.2.2.2.2.2.2.2.2.2.2.2.2.1).trans h1.2.2.2.2.2.2.2.2.2.2.2.2.2.2.2.2.2.2.2.2.2.2.1, (h2.2.2.2.2.2.2.2.2.2.2.2.2.2.2.2.2.2.2.2.2.2.2.2.1).trans h1.2.2.2.2.2.2.2.2.2.2.2.2.2.2.2.2.2.2.2.2.2.2.2.1, (h2.2.2.2.2.2.2.2.2.2.2.2.2.2.2.2.2.2.2.2.2.2.2.2.2.1).trans h1.2.2.2.2.2.2.2.2.2.2.2.2.2.2.2.2.2.2.2.2.2.2.2.2.1, (h2.2.2.2.2.2.2.2.2.2.2.2.2.2.2.2.2.2.2.2.2.2.2.2.2.2.1).trans h1.2.2.2.2.2.2.2.2.2.2.2.2.2.2.2.2.2.2.2.2.2.2.2.2.2.1, (h2.2.2.2.2.2.2.2.2.2.2.2.2.2.2.2.2.2.2.2.2.2.2.2.2.2.2.1).trans h1.2.2.2.2.2.2.2.2.2.2.2.2.2.2.2.2.2.2.2.2.2.2.2.2.2.2.1, (h2.2.2.2.2.2.2.2.2.2.2.2.2.2.2.2.2.2.2.2.2.2.2.2.2.2.2.2.1).trans h1.2.2.2.2.2.2.2.2.2.2.2.2.2.2.2.2.2.2.2.2.2.2.2.2.2.2.2.1, (h2.2.2.2.2.2.2.2.2.2.2.2.2.2.2.2.2.2.2.2.2.2.2.2.2.2.2.2.2.1).trans h1.2.2.2.2.2.2.2.2.2.2.2.2.2.2.2.2.2.2.2.2.2.2.2.2.2.2.2.2.1, (h2.2.2.2.2.2.2.2.2.2.2.2.2.2.2.2.2.2.2.2.2.2.2.2.2.2.2.2.2.2.1).trans h1.2.2.2.2.2.2.2.2.2.2.2.2.2.2.2.2.2.2.2.2.2.2.2.2.2.2.2.2.2.1, (h2.2.2.2.2.2.2.2.2.2.2.2.2.2.2.2.2.2.2.2.2.2.2.2.2.2.2.2.2.2.2.1).trans h1.2.2.2.2.2.2.2.2.2.2.2.2.2.2.2.2.2.2.2.2.2.2.2.2.2.2.2.2.2.2.1, (h2.2.2.2.2.2.2.2.2.2.2.2.2.2.2.2.2.2.2.2.2.2.2.2.2.2.2.2.2.2.2.2.1).trans h1.2.2.2.2.2.2.2.2.2.2.2.2.2.2.2.2.2.2.2.2.2.2.2.2.2.2.2.2.2.2.2.1, (h2.2.2.2.2.2.2.2.2.2.2.2.2.2.2.2.2.2.2.2.2.2.2.2.2.2.2.2.2.2.2.2.2.1).trans h1.2.2.2.2.2.2.2.2.2.2.2.2.2.2.2.2.2.2.2.2.2.2.2.2.2.2.2.2.2.2.2.2.1, (h2.2.2.2.2.2.2.2.2.2.2.2.2.2.2.2.2.2.2.2.2.2.2.2.2.2.2.2.2.2.2.2.2.2.1).trans h1.2.2.2.2.2.2.2.2.2.2.2.2.2.2.2.2.2.2.2.2.2.2.2.2.2.2.2.2.2.2.2.2.2.1, (h2.2.2.2.2.2.2.2.2.2.2.2.2.2.2.2.2.2.2.2.2.2.2.2.2.2.2.2.2.2.2.2.2.2.2.1).trans h1.2.2.2.2.2.2.2.2.2.2.2.2.2.2.2.2.2.2.2.2.2.2.2.2.2.2.2.2.2.2.2.2.2.2.1, (h2.2.2.2.2.2.2.2.2.2.2.2.2.2.2.2.2.2.2.2.2.2.2.2.2.2.2.2.2.2.2.2.2.2.2.2.1).trans h1.2.2.2.2.2.2.2.2.2.2.2.2.2.2.2.2.2.2.2.2.2.2.2.2.2.2.2.2.2.2.2.2.2.2.2.1, (h2.2.2.2.2.2.2.2.2.2.2.2.2.2.2.2.2.2.2.2.2.2.2.2.2.2.2.2.2.2.2.2.2.2.2.2.2.1).trans h1.2.2.2.2.2.2.2.2.2.2.2.2.2.2.2.2.2.2.2.2.2.2.2.2.2.2.2.2.2.2.2.2.2.2.2.2.1, (h2.2.2.2.2.2.2.2.2.2.2.2.2.2.2.2.2.2.2.2.2.2.2.2.2.2.2.2.2.2.2.2.2.2.2.2.2.2.1).trans h1.2.2.2.2.2.2.2.2.2.2.2.2.2.2.2.2.2.2.2.2.2.2.2.2.2.2.2.2.2.2.2.2.2.2.2.2.2.1, (h2.2.2.2.2.2.2.2.2.2.2.2.2.2.2.2.2.2.2.2.2.2.2.2.2.2.2.2.2.2.2.2.2.2.2.2.2.2.2.1).trans h1.2.2.2.2.2.2.2.2.2.2.2.2.2.2.2.2.2.2.2.2.2.2.2.2.2.2.2.2.2.2.2.2.2.2.2.2.2.2.1, (h2.2.2.2.2.2.2.2.2.2.2.2.2.2.2.2.2.2.2.2.2.2.2.2.2.2.2.2.2.2.2.2.2.2.2.2.2.2.2.2.1).trans h1.2.2.2.2.2.2.2.2.2.2.2.2.2.2.2.2.2.2.2.2.2.2.2.2.2.2.2.2.2.2.2.2.2.2.2.2.2.2.2.1, (h2.2.2.2.2.2.2.2.2.2.2.2.2.2.2.2.2.2.2.2.2.2.2.2.2.2.2.2.2.2.2.2.2.2.2.2.2.2.2.2.2.1).trans h1.2.2.2.2.2.2.2.2.2.2.2.2.2.2.2.2.2.2.2.2.2.2.2.2.2.2.2.2.2.2.2.2.2.2.2.2.2.2.2.2.1, (h2.2.2.2.2.2.2.2.2.2.2.2.2.2.2.2.2.2.2.2.2.2.2.2.2.2.2.2.2.2.2.2.2.2.2.2.2.2.2.2.2.2.1).trans h1.2.2.2.2.2.2.2.2.2.2.2.2.2.2.2.2.2.2.2.2.2.2.2.2.2.2.2.2.2.2.2.2.2.2.2.2.2.2.2.2.2.1, (h2.2.2.2.2.2.2.2.2.2.2.2.2.2.2.2.2.2.2.2.2.2.2.2.2.2.2.2.2.2.2.2.2.2.2.2.2.2.2.2.2.2.2.1).trans h1.2.2.2.2.2.2.2.2.2.2.2.2.2.2.2.2.2.2.2.2.2.2.2.2.2.2.2.2.2.2.2.2.2.2.2.2.2.2.2.2.2.2.1, (h2.2.2.2.2.2.2.2.2.2.2.2.2.2.2.2.2.2.2.2.2.2.2.2.2.2.2.2.2.2.2.2.2.2.2.2.2.2.2.2.2.2.2.2.1).trans h1.2.2.2.2.2.2.2.2.2.2.2.2.2.2.2.2.2.2.2.2.2.2.2.2.2.2.2.2.2.2.2.2.2.2.2.2.2.2.2.2.2.2.2.1, (h2.2.2.2.2.2.2.2.2.2.2.2.2.2.2.2.2.2.2.2.2.2.2.2.2.2.2.2.2.2.2.2.2.2.2.2.2.2.2.2.2.2.2.2.2.1).trans h1.2.2.2.2.2.2.2.2.2.2.2.2.2.2.2.2.2.2.2.2.2.2.2.2.2.2.2.2.2.2.2.2.2.2.2.2.2.2.2.2.2.2.2.2.1, (h2.2.2.2.2.2.2.2.2.2.2.2.2.2.2.2.2.2.2.2.2.2.2.2.2.2.2.2.2.2.2.2.2.2.2.2.2.2.2.2.2.2.2.2.2.2.1).trans h1.2.2.2.2.2.2.2.2.2.2.2.2.2.2.2.2.2.2.2.2.2.2.2.2.2.2.2.2.2.2.2.2.2.2.2.2.2.2.2.2.2.2.2.2.2.1, (h2.2.2.2.2.2.2.2.2.2.2.2.2.2.2.2.2.2.2.2.2.2.2.2.2.2.2.2.2.2.2.2.2.2.2.2.2.2.2.2.2.2.2.2.2.2.2.1).trans h1.2.2.2.2.2.2.2.2.2.2.2.2.2.2.2.2.2.2.2.2.2.2.2.2.2.2.2.2.2.2.2.2.2.2.2.2.2.2.2.2.2.2.2.2.2.2.1, (h2.2.2.2.2.2.2.2.2.2.2.2.2.2.2.2.2.2.2.2.2.2.2.2.2.2.2.2.2.2.2.2.2.2.2.2.2.2.2.2.2.2.2.2.2.2.2.2.1).trans h1.2.2.2.2.2.2.2.2.2.2.2.2.2.2.2.2.2.2.2.2.2.2.2.2.2.2.2.2.2.2.2.2.2.2.2.2.2.2.2.2.2.2.2.2.2.2.2.1, (h2.2.2.2.2.2.2.2.2.2.2.2.2.2.2.2.2.2.2.2.2.2.2.2.2.2.2.2.2.2.2.2.2.2.2.2.2.2.2.2.2.2.2.2.2.2.2.2.2.1).trans h1.2.2.2.2.2.2.2.2.2.2.2.2.2.2.2.2.2.2.2.2.2.2.2.2.2.2.2.2.2.2.2.2.2.2.2.2.2.2.2.2.2.2.2.2.2.2.2.2.1, (h2.2.2.2.2.2.2.2.2.2.2.2.2.2.2.2.2.2.2.2.2.2.2.2.2.2.2.2.2.2.2.2.2.2.2.2.2.2.2.2.2.2.2.2.2.2.2.2.2.2.1).trans h1.2.2.2.2.2.2.2.2.2.2.2.2.2.2.2.2.2.2.2.2.2.2.2.2.2.2.2.2.2.2.2.2.2.2.2.2.2.2.2.2.2.2.2.2.2.2.2.2.2.1, (h2.2.2.2.2.2.2.2.2.2.2.2.2.2.2.2.2.2.2.2.2.2.2.2.2.2.2.2.2.2.2.2.2.2.2.2.2.2.2.2.2.2.2.2.2.2.2.2.2.2.2.1).trans h1.2.2.2.2.2.2.2.2.2.2.2.2.2.2.2.2.2.2.2.2.2.2.2.2.2.2.2.2.2.2.2.2.2.2.2.2.2.2.2.2.2.2.2.2.2.2.2.2.2.2.1, (h2.2.2.2.2.2.2.2.2.2.2.2.2.2.2.2.2.2.2.2.2.2.2.2.2.2.2.2.2.2.2.2.2.2.2.2.2.2.2.2.2.2.2.2.2.2.2.2.2.2.2.2.1).trans h1.2.2.2.2.2.2.2.2.2.2.2.2.2.2.2.2.2.2.2.2.2.2.2.2.2.2.2.2.2.2.2.2.2.2.2.2.2.2.2.2.2.2.2.2.2.2.2.2.2.2.2.1, (h2.2.2.2.2.2.2.2.2.2.2.2.2.2.2.2.2.2.2.2.2.2.2.2.2.2.2.2.2.2.2.2.2.2.2.2.2.2.2.2.2.2.2.2.2.2.2.2.2.2.2.2.2.1).trans h1.2.2.2.2.2.2.2.2.2.2.2.2.2.2.2.2.2.2.2.2.2.2.2.2.2.2.2.2.2.2.2.2.2.2.2.2.2.2.2.2.2.2.2.2.2.2.2.2.2.2.2.2.1, (h2.2.2.2.2.2.2.2.2.2.2.2.2.2.2.2.2.2.2.2.2.2.2.2.2.2.2.2.2.2.2.2.2.2.2.2.2.2.2.2.2.2.2.2.2.2.2.2.2.2.2.2.2.2.1).trans h1.2.2.2.2.2.2.2.2.2.2.2.2.2.2.2.2.2.2.2.2.2.2.2.2.2.2.2.2.2.2.2.2.2.2.2.2.2.2.2.2.2.2.2.2.2.2.2.2.2.2.2.2.2.1, (h2.2.2.2.2.2.2.2.2.2.2.2.2.2.2.2.2.2.2.2.2.2.2.2.2.2.2.2.2.2.2.2.2.2.2.2.2.2.2.2.2.2.2.2.2.2.2.2.2.2.2.2.2.2.2.1).trans h1.2.2.2.2.2.2.2.2.2.2.2.2.2.2.2.2.2.2.2.2.2.2.2.2.2.2.2.2.2.2.2.2.2.2.2.2.2.2.2.2.2.2.2.2.2.2.2.2.2.2.2.2.2.2.1, (h2.2.2.2.2.2.2.2.2.2.2.2.2.2.2.2.2.2.2.2.2.2.2.2.2.2.2.2.2.2.2.2.2.2.2.2.2.2.2.2.2.2.2.2.2.2.2.2.2.2.2.2.2.2.2.2.1).trans h1.2.2.2.2.2.2.2.2.2.2.2.2.2.2.2.2.2.2.2.2.2.2.2.2.2.2.2.2.2.2.2.2.2.2.2.2.2.2.2.2.2.2.2.2.2.2.2.2.2.2.2.2.2.2.2.1, (h2.2.2.2.2.2.2.2.2.2.2.2.2.2.2.2.2.2.2.2.2.2.2.2.2.2.2.2.2.2.2.2.2.2.2.2.2.2.2.2.2.2.2.2.2.2.2.2.2.2.2.2.2.2.2.2.2.1).trans h1.2.2.2.2.2.2.2.2.2.2.2.2.2.2.2.2.2.2.2.2.2.2.2.2.2.2.2.2.2.2.2.2.2.2.2.2.2.2.2.2.2.2.2.2.2.2.2.2.2.2.2.2.2.2.2.2.1, (h2.2.2.2.2.2.2.2.2.2.2.2.2.2.2.2.2.2.2.2.2.2.2.2.2.2.2.2.2.2.2.2.2.2.2.2.2.2.2.2.2.2.2.2.2.2.2.2.2.2.2.2.2.2.2.2.2.2.1).trans h1.2.2.2.2.2.2.2.2.2.2.2.2.2.2.2.2.2.2.2.2.2.2.2.2.2.2.2.2.2.2.2.2.2.2.2.2.2.2.2.2.2.2.2.2.2.2.2.2.2.2.2.2.2.2.2.2.2.1, (h2.2.2.2.2.2.2.2.2.2.2.2.2.2.2.2.2.2.2.2.2.2.2.2.2.2.2.2.2.2.2.2.2.2.2.2.2.2.2.2.2.2.2.2.2.2.2.2.2.2.2.2.2.2.2.2.2.2.2.1).trans h1.2.2.2.2.2.2.2.2.2.2.2.2.2.2.2.2.2.2.2.2.2.2.2.2.2.2.2.2.2.2.2.2.2.2.2.2.2.2.2.2.2.2.2.2.2.2.2.2.2.2.2.2.2.2.2.2.2.2.1, (h2.2.2.2.2.2.2.2.2.2.2.2.2.2.2.2.2.2.2.2.2.2.2.2.2.2.2.2.2.2.2.2.2.2.2.2.2.2.2.2.2.2.2.2.2.2.2.2.2.2.2.2.2.2.2.2.2.2.2.2.1).trans h1.2.2.2.2.2.2.2.2.2.2.2.2.2.2.2.2.2.2.2.2.2.2.2.2.2.2.2.2.2.2.2.2.2.2.2.2.2.2.2.2.2.2.2.2.2.2.2.2.2.2.2.2.2.2.2.2.2.2.2.1, (h2.2.2.2.2.2.2.2.2.2.2.2.2.2.2.2.2.2.2.2.2.2.2.2.2.2.2.2.2.2.2.2.2.2.2.2.2.2.2.2.2.2.2.2.2.2.2.2.2.2.2.2.2.2.2.2.2.2.2.2.2.1).trans h1.2.2.2.2.2.2.2.2.2.2.2.2.2.2.2.2.2.2.2.2.2.2.2.2.2.2.2.2.2.2.2.2.2.2.2.2.2.2.2.2.2.2.2.2.2.2.2.2.2.2.2.2.2.2.2.2.2.2.2.2.1, (h2.2.2.2.2.2.2.2.2.2.2.2.2.2.2.2.2.2.2.2.2.2.2.2.2.2.2.2.2.2.2.2.2.2.2.2.2.2.2.2.2.2.2.2.2.2.2.2.2.2.2.2.2.2.2.2.2.2.2.2.2.2.1).trans h1.2.2.2.2.2.2.2.2.2.2.2.2.2.2.2.2.2.2.2.2.2.2.2.2.2.2.2.2.2.2.2.2.2.2.2.2.2.2.2.2.2.2.2.2.2.2.2.2.2.2.2.2.2.2.2.2.2.2.2.2.2.1, (h2.2.2.2.2.2.2.2.2.2.2.2.2.2.2.2.2.2.2.2.2.2.2.2.2.2.2.2.2.2.2.2.2.2.2.2.2.2.2.2.2.2.2.2.2.2.2.2.2.2.2.2.2.2.2.2.2.2.2.2.2.2.2.1).trans h1.2.2.2.2.2.2.2.2.2.2.2.2.2.2.2.2.2.2.2.2.2.2.2.2.2.2.2.2.2.2.2.2.2.2.2.2.2.2.2.2.2.2.2.2.2.2.2.2.2.2.2.2.2.2.2.2.2.2.2.2.2.2.1, (h2.2.2.2.2.2.2.2.2.2.2.2.2.2.2.2.2.2.2.2.2.2.2.2.2.2.2.2.2.2.2.2.2.2.2.2.2.2.2.2.2.2.2.2.2.2.2.2.2.2.2.2.2.2.2.2.2.2.2.2.2.2.2.2.1).trans h1.2.2.2.2.2.2.2.2.2.2.2.2.2.2.2.2.2.2.2.2.2.2.2.2.2.2.2.2.2.2.2.2.2.2.2.2.2.2.2.2.2.2.2.2.2.2.2.2.2.2.2.2.2.2.2.2.2.2.2.2.2.2.2.1, (h2.2.2.2.2.2.2.2.2.2.2.2.2.2.2.2.2.2.2.2.2.2.2.2.2.2.2.2.2.2.2.2.2.2.2.2.2.2.2.2.2.2.2.2.2.2.2.2.2.2.2.2.2.2.2.2.2.2.2.2.2.2.2.2.2).trans h1.2.2.2.2.2.2.2.2.2.2.2.2.2.2.2.2.2.2.2.2.2.2.2.2.2.2.2.2.2.2.2.2.2.2.2.2.2.2.2.2.2.2.2.2.2.2.2.2.2.2.2.2.2.2.2.2.2.2.2.2.2.2.2.2⟩
theorem dX11_isLetter_0 : decode cX11_isLetter 0 = .ok (.iload_n 0, 1) := by decide +kernel
theorem dX11_isLetter_1 : decode cX11_isLetter 1 = .ok (.bipush 97, 2) := by decide +kernel
theorem dX11_isLetter_3 : decode cX11_isLetter 3 = .ok (.if_icmp .lt 13, 3) := by decide +kernel
theorem dX11_isLetter_6 : decode cX11_isLetter 6 = .ok (.iload_n 0, 1) := by decide +kernel
theorem dX11_isLetter_7 : decode cX11_isLetter 7 = .ok (.bipush 122, 2) := by decide +kernel
theorem dX11_isLetter_9 : decode cX11_isLetter 9 = .ok (.if_icmp .gt 7, 3) := by decide +kernel
theorem dX11_isLetter_12 : decode cX11_isLetter 12 = .ok (.iconst 1, 1) := by decide +kernel
theorem dX11_isLetter_13 : decode cX11_isLetter 13 = .ok (.goto 4, 3) := by decide +kernel
theorem dX11_isLetter_16 : decode cX11_isLetter 16 = .ok (.iconst 0, 1) := by decide +kernel
theorem dX11_isLetter_17 : decode cX11_isLetter 17 = .ok (.ireturn, 1) := by decide +kernel
theorem wd_1566 : (Cond.code ⟨"WebCourtModel", "isLetter", "(I)Z"⟩ prog_13_method_3_code (1 : Nat) (Option.some FieldType.boolean)) ∈ gtb := gtb_c7 17 (by decide +kernel) rfl
set_option maxHeartbeats 4000000 in
set_option maxRecDepth 100000 in
theorem T_X11_isLetter (l : Launch) (D : va_G) (cy : Nat → ClassId) (a : Nat → Nat) (u : St) (hJ : MI a u) (x1 : Int32)  : Mi l D cy (mW cy a) yX11_isLetter (.code yX11_isLetter cX11_isLetter 1 (some .boolean)) (rmo 0 0) [.int x1] u (fun (r : Int32) (u' : St) => (((97 ≤ x1.toInt ∧ x1.toInt ≤ 122) ∧ r = 1) ∨ ((x1.toInt < 97 ∨ 122 < x1.toInt) ∧ r = 0)) ∧ (u' = u)) := by
  refine Mi.of (own := RX11) rfl (by decide) (Nat.le_of_ble_eq_true rfl) ?_
  have hT : Km0 u u := Km0.rf
  have hJ0 := hJ
  intro p e s m below meth c A Q ls C hret hO hl
  obtain ⟨hx, hb, hml, hown, ht, hK, hA⟩ := id C
  have hl : lv_has ls 1 [(0, .int x1)] := hl
  refine lv_iload_n hx hb dX11_isLetter_0 rfl (lv_at hl 0 rfl) ?_
  refine lv_bipush (v := 97) hx hb dX11_isLetter_1 (by decide) ?_
  refine cs_lt (tgt := 16) (X := (x1).toInt) (Y := 97) hx hb dX11_isLetter_3 (by decide) rfl rfl (fun c1 => ?_) (fun c1 => ?_)
  · refine lv_iconst (v := 0) hx hb dX11_isLetter_16 (by decide) ?_
    refine hret _ _ _ _ _ _ dX11_isLetter_17 rfl ?_ hO
    exact ⟨Or.inr ⟨by first | trivial | omega, rfl⟩, rfl⟩
  · refine lv_iload_n hx hb dX11_isLetter_6 rfl (lv_at hl 0 rfl) ?_
    refine lv_bipush (v := 122) hx hb dX11_isLetter_7 (by decide) ?_
    refine cs_gt (tgt := 16) (X := (x1).toInt) (Y := 122) hx hb dX11_isLetter_9 (by decide) rfl rfl (fun c2 => ?_) (fun c2 => ?_)
    · refine lv_iconst (v := 0) hx hb dX11_isLetter_16 (by decide) ?_
      refine hret _ _ _ _ _ _ dX11_isLetter_17 rfl ?_ hO
      exact ⟨Or.inr ⟨by first | trivial | omega, rfl⟩, rfl⟩
    · refine lv_iconst (v := 1) hx hb dX11_isLetter_12 (by decide) ?_
      refine lv_goto (tgt := 17) hx hb dX11_isLetter_13 (by decide) ?_
      refine hret _ _ _ _ _ _ dX11_isLetter_17 rfl ?_ hO
      exact ⟨Or.inl ⟨by omega, rfl⟩, rfl⟩
theorem dX11_isDigit_0 : decode cX11_isDigit 0 = .ok (.iload_n 0, 1) := by decide +kernel
theorem dX11_isDigit_1 : decode cX11_isDigit 1 = .ok (.bipush 48, 2) := by decide +kernel
theorem dX11_isDigit_3 : decode cX11_isDigit 3 = .ok (.if_icmp .lt 13, 3) := by decide +kernel
theorem dX11_isDigit_6 : decode cX11_isDigit 6 = .ok (.iload_n 0, 1) := by decide +kernel
theorem dX11_isDigit_7 : decode cX11_isDigit 7 = .ok (.bipush 57, 2) := by decide +kernel
theorem dX11_isDigit_9 : decode cX11_isDigit 9 = .ok (.if_icmp .gt 7, 3) := by decide +kernel
theorem dX11_isDigit_12 : decode cX11_isDigit 12 = .ok (.iconst 1, 1) := by decide +kernel
theorem dX11_isDigit_13 : decode cX11_isDigit 13 = .ok (.goto 4, 3) := by decide +kernel
theorem dX11_isDigit_16 : decode cX11_isDigit 16 = .ok (.iconst 0, 1) := by decide +kernel
theorem dX11_isDigit_17 : decode cX11_isDigit 17 = .ok (.ireturn, 1) := by decide +kernel
theorem wd_1592 : (Cond.code ⟨"WebCourtModel", "isDigit", "(I)Z"⟩ prog_13_method_4_code (1 : Nat) (Option.some FieldType.boolean)) ∈ gtb := gtb_c7 43 (by decide +kernel) rfl
set_option maxHeartbeats 4000000 in
set_option maxRecDepth 100000 in
theorem T_X11_isDigit (l : Launch) (D : va_G) (cy : Nat → ClassId) (a : Nat → Nat) (u : St) (hJ : MI a u) (x1 : Int32)  : Mi l D cy (mW cy a) yX11_isDigit (.code yX11_isDigit cX11_isDigit 1 (some .boolean)) (rmo 0 0) [.int x1] u (fun (r : Int32) (u' : St) => (((48 ≤ x1.toInt ∧ x1.toInt ≤ 57) ∧ r = 1) ∨ ((x1.toInt < 48 ∨ 57 < x1.toInt) ∧ r = 0)) ∧ (u' = u)) := by
  refine Mi.of (own := RX11) rfl (by decide) (Nat.le_of_ble_eq_true rfl) ?_
  have hT : Km0 u u := Km0.rf
  have hJ0 := hJ
  intro p e s m below meth c A Q ls C hret hO hl
  obtain ⟨hx, hb, hml, hown, ht, hK, hA⟩ := id C
  have hl : lv_has ls 1 [(0, .int x1)] := hl
  refine lv_iload_n hx hb dX11_isDigit_0 rfl (lv_at hl 0 rfl) ?_
  refine lv_bipush (v := 48) hx hb dX11_isDigit_1 (by decide) ?_
  refine cs_lt (tgt := 16) (X := (x1).toInt) (Y := 48) hx hb dX11_isDigit_3 (by decide) rfl rfl (fun c1 => ?_) (fun c1 => ?_)
  · refine lv_iconst (v := 0) hx hb dX11_isDigit_16 (by decide) ?_
    refine hret _ _ _ _ _ _ dX11_isDigit_17 rfl ?_ hO
    exact ⟨Or.inr ⟨by first | trivial | omega, rfl⟩, rfl⟩
  · refine lv_iload_n hx hb dX11_isDigit_6 rfl (lv_at hl 0 rfl) ?_
    refine lv_bipush (v := 57) hx hb dX11_isDigit_7 (by decide) ?_
    refine cs_gt (tgt := 16) (X := (x1).toInt) (Y := 57) hx hb dX11_isDigit_9 (by decide) rfl rfl (fun c2 => ?_) (fun c2 => ?_)
    · refine lv_iconst (v := 0) hx hb dX11_isDigit_16 (by decide) ?_
      refine hret _ _ _ _ _ _ dX11_isDigit_17 rfl ?_ hO
      exact ⟨Or.inr ⟨by first | trivial | omega, rfl⟩, rfl⟩
    · refine lv_iconst (v := 1) hx hb dX11_isDigit_12 (by decide) ?_
      refine lv_goto (tgt := 17) hx hb dX11_isDigit_13 (by decide) ?_
      refine hret _ _ _ _ _ _ dX11_isDigit_17 rfl ?_ hO
      exact ⟨Or.inl ⟨by omega, rfl⟩, rfl⟩
theorem dX11_isIn_0 : decode cX11_isIn 0 = .ok (.iload_n 0, 1) := by decide +kernel
theorem dX11_isIn_1 : decode cX11_isIn 1 = .ok (.iload_n 1, 1) := by decide +kernel
theorem dX11_isIn_2 : decode cX11_isIn 2 = .ok (.if_icmp .lt 12, 3) := by decide +kernel
theorem dX11_isIn_5 : decode cX11_isIn 5 = .ok (.iload_n 0, 1) := by decide +kernel
theorem dX11_isIn_6 : decode cX11_isIn 6 = .ok (.iload_n 2, 1) := by decide +kernel
theorem dX11_isIn_7 : decode cX11_isIn 7 = .ok (.if_icmp .gt 7, 3) := by decide +kernel
theorem dX11_isIn_10 : decode cX11_isIn 10 = .ok (.iconst 1, 1) := by decide +kernel
theorem dX11_isIn_11 : decode cX11_isIn 11 = .ok (.goto 4, 3) := by decide +kernel
theorem dX11_isIn_14 : decode cX11_isIn 14 = .ok (.iconst 0, 1) := by decide +kernel
theorem dX11_isIn_15 : decode cX11_isIn 15 = .ok (.ireturn, 1) := by decide +kernel
theorem wd_1724 : (Cond.code ⟨"WebCourtModel", "isIn", "(III)Z"⟩ prog_13_method_41_code (3 : Nat) (Option.some FieldType.boolean)) ∈ gtb := gtb_c7 175 (by decide +kernel) rfl
set_option maxHeartbeats 4000000 in
set_option maxRecDepth 100000 in
theorem T_X11_isIn (l : Launch) (D : va_G) (cy : Nat → ClassId) (a : Nat → Nat) (u : St) (hJ : MI a u) (x1 : Int32) (x2 : Int32) (x3 : Int32)  : Mi l D cy (mW cy a) yX11_isIn (.code yX11_isIn cX11_isIn 3 (some .boolean)) (rmo 0 0) [.int x1, .int x2, .int x3] u (fun (r : Int32) (u' : St) => (((x2.toInt ≤ x1.toInt ∧ x1.toInt ≤ x3.toInt) ∧ r = 1) ∨ ((x1.toInt < x2.toInt ∨ x3.toInt < x1.toInt) ∧ r = 0)) ∧ (u' = u)) := by
  refine Mi.of (own := RX11) rfl (by decide) (Nat.le_of_ble_eq_true rfl) ?_
  have hT : Km0 u u := Km0.rf
  have hJ0 := hJ
  intro p e s m below meth c A Q ls C hret hO hl
  obtain ⟨hx, hb, hml, hown, ht, hK, hA⟩ := id C
  have hl : lv_has ls 3 [(0, .int x1), (1, .int x2), (2, .int x3)] := hl
  refine lv_iload_n hx hb dX11_isIn_0 rfl (lv_at hl 0 rfl) ?_
  refine lv_iload_n hx hb dX11_isIn_1 rfl (lv_at hl 1 rfl) ?_
  refine cs_lt (tgt := 14) (X := (x1).toInt) (Y := (x2).toInt) hx hb dX11_isIn_2 (by decide) rfl rfl (fun c1 => ?_) (fun c1 => ?_)
  · refine lv_iconst (v := 0) hx hb dX11_isIn_14 (by decide) ?_
    refine hret _ _ _ _ _ _ dX11_isIn_15 rfl ?_ hO
    exact ⟨Or.inr ⟨by first | trivial | omega, rfl⟩, rfl⟩
  · refine lv_iload_n hx hb dX11_isIn_5 rfl (lv_at hl 0 rfl) ?_
    refine lv_iload_n hx hb dX11_isIn_6 rfl (lv_at hl 2 rfl) ?_
    refine cs_gt (tgt := 14) (X := (x1).toInt) (Y := (x3).toInt) hx hb dX11_isIn_7 (by decide) rfl rfl (fun c2 => ?_) (fun c2 => ?_)
    · refine lv_iconst (v := 0) hx hb dX11_isIn_14 (by decide) ?_
      refine hret _ _ _ _ _ _ dX11_isIn_15 rfl ?_ hO
      exact ⟨Or.inr ⟨by first | trivial | omega, rfl⟩, rfl⟩
    · refine lv_iconst (v := 1) hx hb dX11_isIn_10 (by decide) ?_
      refine lv_goto (tgt := 15) hx hb dX11_isIn_11 (by decide) ?_
      refine hret _ _ _ _ _ _ dX11_isIn_15 rfl ?_ hO
      exact ⟨Or.inl ⟨by omega, rfl⟩, rfl⟩
theorem dX11_bit_0 : decode cX11_bit 0 = .ok (.iload_n 0, 1) := by decide +kernel
theorem dX11_bit_1 : decode cX11_bit 1 = .ok (.iload_n 1, 1) := by decide +kernel
theorem dX11_bit_2 : decode cX11_bit 2 = .ok (.ishr, 1) := by decide +kernel
theorem dX11_bit_3 : decode cX11_bit 3 = .ok (.iconst 1, 1) := by decide +kernel
theorem dX11_bit_4 : decode cX11_bit 4 = .ok (.iand, 1) := by decide +kernel
theorem dX11_bit_5 : decode cX11_bit 5 = .ok (.iconst 1, 1) := by decide +kernel
theorem dX11_bit_6 : decode cX11_bit 6 = .ok (.if_icmp .ne 7, 3) := by decide +kernel
theorem dX11_bit_9 : decode cX11_bit 9 = .ok (.iconst 1, 1) := by decide +kernel
theorem dX11_bit_10 : decode cX11_bit 10 = .ok (.goto 4, 3) := by decide +kernel
theorem dX11_bit_13 : decode cX11_bit 13 = .ok (.iconst 0, 1) := by decide +kernel
theorem dX11_bit_14 : decode cX11_bit 14 = .ok (.ireturn, 1) := by decide +kernel
theorem wd_1614 : (Cond.code ⟨"WebCourtModel", "bit", "(II)Z"⟩ prog_13_method_42_code (2 : Nat) (Option.some FieldType.boolean)) ∈ gtb := gtb_c7 65 (by decide +kernel) rfl
set_option maxHeartbeats 4000000 in
set_option maxRecDepth 100000 in
theorem T_X11_bit (l : Launch) (D : va_G) (cy : Nat → ClassId) (a : Nat → Nat) (u : St) (hJ : MI a u) (x1 : Int32) (x2 : Int32)  : Mi l D cy (mW cy a) yX11_bit (.code yX11_bit cX11_bit 2 (some .boolean)) (rmo 0 0) [.int x1, .int x2] u (fun (r : Int32) (u' : St) => ((r = 0 ∨ r = 1) ∧ r = bitF x1 x2) ∧ (u' = u)) := by
  refine Mi.of (own := RX11) rfl (by decide) (Nat.le_of_ble_eq_true rfl) ?_
  have hT : Km0 u u := Km0.rf
  have hJ0 := hJ
  intro p e s m below meth c A Q ls C hret hO hl
  obtain ⟨hx, hb, hml, hown, ht, hK, hA⟩ := id C
  have hl : lv_has ls 2 [(0, .int x1), (1, .int x2)] := hl
  refine lv_iload_n hx hb dX11_bit_0 rfl (lv_at hl 0 rfl) ?_
  refine lv_iload_n hx hb dX11_bit_1 rfl (lv_at hl 1 rfl) ?_
  refine lv_ishr hx hb dX11_bit_2 ?_
  refine lv_topi (fun z1 ez1 => ?_)
  refine lv_iconst (v := 1) hx hb dX11_bit_3 (by decide) ?_
  refine lv_iand hx hb dX11_bit_4 ?_
  refine lv_topi (fun z2 ez2 => ?_)
  have g3 : 0 ≤ z2.toInt ∧ z2.toInt ≤ 1 := by rw [ez2]; exact i_andr rfl (by omega)
  refine lv_iconst (v := 1) hx hb dX11_bit_5 (by decide) ?_
  refine cs_ne (tgt := 13) (X := (z2).toInt) (Y := 1) hx hb dX11_bit_6 (by decide) rfl rfl (fun c4 => ?_) (fun c4 => ?_)
  · refine lv_iconst (v := 0) hx hb dX11_bit_13 (by decide) ?_
    refine hret _ _ _ _ _ _ dX11_bit_14 rfl ?_ hO
    exact ⟨⟨Or.inl rfl, (bitF_0 ez1 ez2 (by omega)).symm⟩, rfl⟩
  · refine lv_iconst (v := 1) hx hb dX11_bit_9 (by decide) ?_
    refine lv_goto (tgt := 14) hx hb dX11_bit_10 (by decide) ?_
    refine hret _ _ _ _ _ _ dX11_bit_14 rfl ?_ hO
    exact ⟨⟨Or.inr rfl, (bitF_1 ez1 ez2 (by omega)).symm⟩, rfl⟩
theorem dX11_many_0 : decode cX11_many 0 = .ok (.aload_n 0, 1) := by decide +kernel
theorem dX11_many_1 : decode cX11_many 1 = .ok (.getfield 30, 3) := by decide +kernel
theorem dX11_many_4 : decode cX11_many 4 = .ok (.aload_n 0, 1) := by decide +kernel
theorem dX11_many_5 : decode cX11_many 5 = .ok (.getfield 255, 3) := by decide +kernel
theorem dX11_many_8 : decode cX11_many 8 = .ok (.iaload, 1) := by decide +kernel
theorem dX11_many_9 : decode cX11_many 9 = .ok (.ireturn, 1) := by decide +kernel
theorem wd_1351 : (Cond.code ⟨"WebCourtModel", "many", "()I"⟩ prog_13_method_46_code (1 : Nat) (Option.some FieldType.int)) ∈ gtb := gtb_c6 42 (by decide +kernel) rfl
theorem wd_1370 : (Cond.fieldLink "WebCourtModel" (30 : Nat) "WebCourtModel" "cases" "[I") ∈ gtb := gtb_c6 61 (by decide +kernel) rfl
theorem wd_1421 : (Cond.laysFinal "WebCourtModel" "WebCourtModel" "tape" "[B") ∈ gtb := gtb_c6 112 (by decide +kernel) rfl
theorem wd_1423 : (Cond.laysFinal "WebCourtModel" "WebCourtModel" "text" "[B") ∈ gtb := gtb_c6 114 (by decide +kernel) rfl
theorem wd_1425 : (Cond.lays "WebCourtModel" "WebCourtModel" "taped" "I") ∈ gtb := gtb_c6 116 (by decide +kernel) rfl
theorem wd_1427 : (Cond.lays "WebCourtModel" "WebCourtModel" "size" "I") ∈ gtb := gtb_c6 118 (by decide +kernel) rfl
theorem wd_1429 : (Cond.lays "WebCourtModel" "WebCourtModel" "faultKind" "I") ∈ gtb := gtb_c6 120 (by decide +kernel) rfl
theorem wd_1431 : (Cond.lays "WebCourtModel" "WebCourtModel" "faultPlace" "I") ∈ gtb := gtb_c6 122 (by decide +kernel) rfl
theorem wd_1433 : (Cond.lays "WebCourtModel" "WebCourtModel" "at" "I") ∈ gtb := gtb_c6 124 (by decide +kernel) rfl
theorem wd_1435 : (Cond.lays "WebCourtModel" "WebCourtModel" "end" "I") ∈ gtb := gtb_c6 126 (by decide +kernel) rfl
theorem wd_1437 : (Cond.lays "WebCourtModel" "WebCourtModel" "token" "I") ∈ gtb := gtb_c6 128 (by decide +kernel) rfl
theorem wd_1439 : (Cond.lays "WebCourtModel" "WebCourtModel" "number" "I") ∈ gtb := gtb_c6 130 (by decide +kernel) rfl
theorem wd_1441 : (Cond.lays "WebCourtModel" "WebCourtModel" "name" "J") ∈ gtb := gtb_c6 132 (by decide +kernel) rfl
theorem wd_1443 : (Cond.laysFinal "WebCourtModel" "WebCourtModel" "knots" "[I") ∈ gtb := gtb_c6 134 (by decide +kernel) rfl
theorem wd_1445 : (Cond.laysFinal "WebCourtModel" "WebCourtModel" "lines" "[I") ∈ gtb := gtb_c6 136 (by decide +kernel) rfl
theorem wd_1447 : (Cond.laysFinal "WebCourtModel" "WebCourtModel" "pleas" "[I") ∈ gtb := gtb_c6 138 (by decide +kernel) rfl
theorem wd_1449 : (Cond.laysFinal "WebCourtModel" "WebCourtModel" "cases" "[I") ∈ gtb := gtb_c6 140 (by decide +kernel) rfl
theorem wd_1451 : (Cond.laysFinal "WebCourtModel" "WebCourtModel" "units" "[I") ∈ gtb := gtb_c6 142 (by decide +kernel) rfl
theorem wd_1453 : (Cond.laysFinal "WebCourtModel" "WebCourtModel" "bench" "[I") ∈ gtb := gtb_c6 144 (by decide +kernel) rfl
theorem wd_1455 : (Cond.laysFinal "WebCourtModel" "WebCourtModel" "back" "[I") ∈ gtb := gtb_c6 146 (by decide +kernel) rfl
theorem wd_1457 : (Cond.laysFinal "WebCourtModel" "WebCourtModel" "draw" "[I") ∈ gtb := gtb_c6 148 (by decide +kernel) rfl
theorem wd_1459 : (Cond.laysFinal "WebCourtModel" "WebCourtModel" "told" "[I") ∈ gtb := gtb_c6 150 (by decide +kernel) rfl
theorem wd_1461 : (Cond.laysFinal "WebCourtModel" "WebCourtModel" "stickyTold" "[I") ∈ gtb := gtb_c6 152 (by decide +kernel) rfl
theorem wd_1463 : (Cond.laysFinal "WebCourtModel" "WebCourtModel" "oneEnd" "[I") ∈ gtb := gtb_c6 154 (by decide +kernel) rfl
theorem wd_1465 : (Cond.laysFinal "WebCourtModel" "WebCourtModel" "otherEnd" "[I") ∈ gtb := gtb_c6 156 (by decide +kernel) rfl
theorem wd_1467 : (Cond.laysFinal "WebCourtModel" "WebCourtModel" "strong" "[I") ∈ gtb := gtb_c6 158 (by decide +kernel) rfl
theorem wd_1469 : (Cond.laysFinal "WebCourtModel" "WebCourtModel" "knotOf" "[I") ∈ gtb := gtb_c6 160 (by decide +kernel) rfl
theorem wd_1471 : (Cond.laysFinal "WebCourtModel" "WebCourtModel" "pleaTold" "[I") ∈ gtb := gtb_c6 162 (by decide +kernel) rfl
theorem wd_1473 : (Cond.laysFinal "WebCourtModel" "WebCourtModel" "ruleFrom" "[I") ∈ gtb := gtb_c6 164 (by decide +kernel) rfl
theorem wd_1475 : (Cond.laysFinal "WebCourtModel" "WebCourtModel" "ruleTo" "[I") ∈ gtb := gtb_c6 166 (by decide +kernel) rfl
theorem wd_1477 : (Cond.laysFinal "WebCourtModel" "WebCourtModel" "kName" "[J") ∈ gtb := gtb_c6 168 (by decide +kernel) rfl
theorem wd_1479 : (Cond.laysFinal "WebCourtModel" "WebCourtModel" "pName" "[J") ∈ gtb := gtb_c6 170 (by decide +kernel) rfl
theorem wd_1481 : (Cond.laysFinal "WebCourtModel" "WebCourtModel" "cName" "[J") ∈ gtb := gtb_c6 172 (by decide +kernel) rfl
theorem wd_1483 : (Cond.laysFinal "WebCourtModel" "WebCourtModel" "code" "[I") ∈ gtb := gtb_c6 174 (by decide +kernel) rfl
theorem wd_1485 : (Cond.laysFinal "WebCourtModel" "WebCourtModel" "codeNumber" "[I") ∈ gtb := gtb_c6 176 (by decide +kernel) rfl
theorem wd_1487 : (Cond.laysFinal "WebCourtModel" "WebCourtModel" "eWhat" "[I") ∈ gtb := gtb_c6 178 (by decide +kernel) rfl
theorem wd_1489 : (Cond.laysFinal "WebCourtModel" "WebCourtModel" "eSign" "[I") ∈ gtb := gtb_c6 180 (by decide +kernel) rfl
theorem wd_1491 : (Cond.laysFinal "WebCourtModel" "WebCourtModel" "pile" "[I") ∈ gtb := gtb_c6 182 (by decide +kernel) rfl
theorem wd_1493 : (Cond.lays "WebCourtModel" "WebCourtModel" "bank" "I") ∈ gtb := gtb_c6 184 (by decide +kernel) rfl
theorem wd_1495 : (Cond.lays "WebCourtModel" "WebCourtModel" "rb" "I") ∈ gtb := gtb_c6 186 (by decide +kernel) rfl
theorem wd_1497 : (Cond.lays "WebCourtModel" "WebCourtModel" "codes" "I") ∈ gtb := gtb_c6 188 (by decide +kernel) rfl
theorem wd_1499 : (Cond.lays "WebCourtModel" "WebCourtModel" "within" "I") ∈ gtb := gtb_c6 190 (by decide +kernel) rfl
theorem wd_1501 : (Cond.lays "WebCourtModel" "WebCourtModel" "piled" "I") ∈ gtb := gtb_c6 192 (by decide +kernel) rfl
theorem wd_1503 : (Cond.lays "WebCourtModel" "WebCourtModel" "unitsInRule" "I") ∈ gtb := gtb_c6 194 (by decide +kernel) rfl
theorem wd_1505 : (Cond.lays "WebCourtModel" "WebCourtModel" "askCase" "I") ∈ gtb := gtb_c6 196 (by decide +kernel) rfl
theorem wd_1507 : (Cond.lays "WebCourtModel" "WebCourtModel" "askPleas" "I") ∈ gtb := gtb_c6 198 (by decide +kernel) rfl
theorem wd_1509 : (Cond.laysFinal "WebCourtModel" "WebCourtModel" "all" "[I") ∈ gtb := gtb_c6 200 (by decide +kernel) rfl
theorem wd_1511 : (Cond.lays "WebCourtModel" "WebCourtModel" "thought" "I") ∈ gtb := gtb_c6 202 (by decide +kernel) rfl
theorem wd_1513 : (Cond.laysFinal "WebCourtModel" "WebCourtModel" "was" "[I") ∈ gtb := gtb_c6 204 (by decide +kernel) rfl
theorem wd_1515 : (Cond.lays "WebCourtModel" "WebCourtModel" "acts" "I") ∈ gtb := gtb_c6 206 (by decide +kernel) rfl
theorem wd_1517 : (Cond.lays "WebCourtModel" "WebCourtModel" "undone" "I") ∈ gtb := gtb_c6 208 (by decide +kernel) rfl
theorem wd_1519 : (Cond.laysFinal "WebCourtModel" "WebCourtModel" "laidRow" "[I") ∈ gtb := gtb_c6 210 (by decide +kernel) rfl
theorem wd_1521 : (Cond.lays "WebCourtModel" "WebCourtModel" "laid" "I") ∈ gtb := gtb_c6 212 (by decide +kernel) rfl
theorem wd_1523 : (Cond.laysFinal "WebCourtModel" "WebCourtModel" "verdicts" "[I") ∈ gtb := gtb_c6 214 (by decide +kernel) rfl
theorem wd_1525 : (Cond.laysFinal "WebCourtModel" "WebCourtModel" "far" "[I") ∈ gtb := gtb_c6 216 (by decide +kernel) rfl
theorem wd_1527 : (Cond.laysFinal "WebCourtModel" "WebCourtModel" "verdictIf" "[I") ∈ gtb := gtb_c6 218 (by decide +kernel) rfl
theorem wd_1529 : (Cond.laysFinal "WebCourtModel" "WebCourtModel" "sCase" "[I") ∈ gtb := gtb_c6 220 (by decide +kernel) rfl
theorem wd_1531 : (Cond.laysFinal "WebCourtModel" "WebCourtModel" "sMuch" "[I") ∈ gtb := gtb_c6 222 (by decide +kernel) rfl
theorem wd_1533 : (Cond.laysFinal "WebCourtModel" "WebCourtModel" "sIs" "[I") ∈ gtb := gtb_c6 224 (by decide +kernel) rfl
theorem wd_1535 : (Cond.laysFinal "WebCourtModel" "WebCourtModel" "sTold" "[I") ∈ gtb := gtb_c6 226 (by decide +kernel) rfl
theorem wd_1537 : (Cond.laysFinal "WebCourtModel" "WebCourtModel" "sUntold" "[I") ∈ gtb := gtb_c6 228 (by decide +kernel) rfl
theorem wd_1539 : (Cond.laysFinal "WebCourtModel" "WebCourtModel" "parts" "[I") ∈ gtb := gtb_c6 230 (by decide +kernel) rfl
theorem wd_1541 : (Cond.laysFinal "WebCourtModel" "WebCourtModel" "kept" "[I") ∈ gtb := gtb_c6 232 (by decide +kernel) rfl
theorem wd_1543 : (Cond.lays "WebCourtModel" "WebCourtModel" "heards" "I") ∈ gtb := gtb_c6 234 (by decide +kernel) rfl
theorem wd_1545 : (Cond.lays "WebCourtModel" "WebCourtModel" "time" "I") ∈ gtb := gtb_c6 236 (by decide +kernel) rfl
theorem wd_1547 : (Cond.laysFinal "WebCourtModel" "WebCourtModel" "boxAll" "[I") ∈ gtb := gtb_c6 238 (by decide +kernel) rfl
theorem wd_1549 : (Cond.laysFinal "WebCourtModel" "WebCourtModel" "isBoxed" "[Z") ∈ gtb := gtb_c7 0 (by decide +kernel) rfl
theorem inFX11 : ∀ w ∈ u_ws RX11 TX11 65, w ∈ gtb := by
  show ∀ w ∈ [u_lay RX11 TX11 0, u_lay RX11 TX11 1, u_lay RX11 TX11 2, u_lay RX11 TX11 3, u_lay RX11 TX11 4, u_lay RX11 TX11 5, u_lay RX11 TX11 6, u_lay RX11 TX11 7, u_lay RX11 TX11 8, u_lay RX11 TX11 9, u_lay RX11 TX11 10, u_lay RX11 TX11 11, u_lay RX11 TX11 12, u_lay RX11 TX11 13, u_lay RX11 TX11 14, u_lay RX11 TX11 15, u_lay RX11 TX11 16, u_lay RX11 TX11 17, u_lay RX11 TX11 18, u_lay RX11 TX11 19, u_lay RX11 TX11 20, u_lay RX11 TX11 21, u_lay RX11 TX11 22, u_lay RX11 TX11 23, u_lay RX11 TX11 24, u_lay RX11 TX11 25, u_lay RX11 TX11 26, u_lay RX11 TX11 27, u_lay RX11 TX11 28, u_lay RX11 TX11 29, u_lay RX11 TX11 30, u_lay RX11 TX11 31, u_lay RX11 TX11 32, u_lay RX11 TX11 33, u_lay RX11 TX11 34, u_lay RX11 TX11 35, u_lay RX11 TX11 36, u_lay RX11 TX11 37, u_lay RX11 TX11 38, u_lay RX11 TX11 39, u_lay RX11 TX11 40, u_lay RX11 TX11 41, u_lay RX11 TX11 42, u_lay RX11 TX11 43, u_lay RX11 TX11 44, u_lay RX11 TX11 45, u_lay RX11 TX11 46, u_lay RX11 TX11 47, u_lay RX11 TX11 48, u_lay RX11 TX11 49, u_lay RX11 TX11 50, u_lay RX11 TX11 51, u_lay RX11 TX11 52, u_lay RX11 TX11 53, u_lay RX11 TX11 54, u_lay RX11 TX11 55, u_lay RX11 TX11 56, u_lay RX11 TX11 57, u_lay RX11 TX11 58, u_lay RX11 TX11 59, u_lay RX11 TX11 60, u_lay RX11 TX11 61, u_lay RX11 TX11 62, u_lay RX11 TX11 63, u_lay RX11 TX11 64], w ∈ gtb
  exact List.forall_mem_cons.mpr ⟨wd_1421, List.forall_mem_cons.mpr ⟨wd_1423, List.forall_mem_cons.mpr ⟨wd_1425, List.forall_mem_cons.mpr ⟨wd_1427, List.forall_mem_cons.mpr ⟨wd_1429, List.forall_mem_cons.mpr ⟨wd_1431, List.forall_mem_cons.mpr ⟨wd_1433, List.forall_mem_cons.mpr ⟨wd_1435, List.forall_mem_cons.mpr ⟨wd_1437, List.forall_mem_cons.mpr ⟨wd_1439, List.forall_mem_cons.mpr ⟨wd_1441, List.forall_mem_cons.mpr ⟨wd_1443, List.forall_mem_cons.mpr ⟨wd_1445, List.forall_mem_cons.mpr ⟨wd_1447, List.forall_mem_cons.mpr ⟨wd_1449, List.forall_mem_cons.mpr ⟨wd_1451, List.forall_mem_cons.mpr ⟨wd_1453, List.forall_mem_cons.mpr ⟨wd_1455, List.forall_mem_cons.mpr ⟨wd_1457, List.forall_mem_cons.mpr ⟨wd_1459, List.forall_mem_cons.mpr ⟨wd_1461, List.forall_mem_cons.mpr ⟨wd_1463, List.forall_mem_cons.mpr ⟨wd_1465, List.forall_mem_cons.mpr ⟨wd_1467, List.forall_mem_cons.mpr ⟨wd_1469, List.forall_mem_cons.mpr ⟨wd_1471, List.forall_mem_cons.mpr ⟨wd_1473, List.forall_mem_cons.mpr ⟨wd_1475, List.forall_mem_cons.mpr ⟨wd_1477, List.forall_mem_cons.mpr ⟨wd_1479, List.forall_mem_cons.mpr ⟨wd_1481, List.forall_mem_cons.mpr ⟨wd_1483, List.forall_mem_cons.mpr ⟨wd_1485, List.forall_mem_cons.mpr ⟨wd_1487, List.forall_mem_cons.mpr ⟨wd_1489, List.forall_mem_cons.mpr ⟨wd_1491, List.forall_mem_cons.mpr ⟨wd_1493, List.forall_mem_cons.mpr ⟨wd_1495, List.forall_mem_cons.mpr ⟨wd_1497, List.forall_mem_cons.mpr ⟨wd_1499, List.forall_mem_cons.mpr ⟨wd_1501, List.forall_mem_cons.mpr ⟨wd_1503, List.forall_mem_cons.mpr ⟨wd_1505, List.forall_mem_cons.mpr ⟨wd_1507, List.forall_mem_cons.mpr ⟨wd_1509, List.forall_mem_cons.mpr ⟨wd_1511, List.forall_mem_cons.mpr ⟨wd_1513, List.forall_mem_cons.mpr ⟨wd_1515, List.forall_mem_cons.mpr ⟨wd_1517, List.forall_mem_cons.mpr ⟨wd_1519, List.forall_mem_cons.mpr ⟨wd_1521, List.forall_mem_cons.mpr ⟨wd_1523, List.forall_mem_cons.mpr ⟨wd_1525, List.forall_mem_cons.mpr ⟨wd_1527, List.forall_mem_cons.mpr ⟨wd_1529, List.forall_mem_cons.mpr ⟨wd_1531, List.forall_mem_cons.mpr ⟨wd_1533, List.forall_mem_cons.mpr ⟨wd_1535, List.forall_mem_cons.mpr ⟨wd_1537, List.forall_mem_cons.mpr ⟨wd_1539, List.forall_mem_cons.mpr ⟨wd_1541, List.forall_mem_cons.mpr ⟨wd_1543, List.forall_mem_cons.mpr ⟨wd_1545, List.forall_mem_cons.mpr ⟨wd_1547, List.forall_mem_cons.mpr ⟨wd_1549, fun _ h => absurd h List.not_mem_nil⟩⟩⟩⟩⟩⟩⟩⟩⟩⟩⟩⟩⟩⟩⟩⟩⟩⟩⟩⟩⟩⟩⟩⟩⟩⟩⟩⟩⟩⟩⟩⟩⟩⟩⟩⟩⟩⟩⟩⟩⟩⟩⟩⟩⟩⟩⟩⟩⟩⟩⟩⟩⟩⟩⟩⟩⟩⟩⟩⟩⟩⟩⟩⟩⟩
theorem gf_RX11_30 {p : Program} {l : Launch} {e : Env} {R : Room} {s : State} {m : MethodId} {args : Array Value} {below : List Frame} {meth : Method} {c : Code} {H : Heap} {locs : List Loc} {cells slots : Nat} {Q : State → Prop} {cc : ByteArray} {pc nL : Nat} {ls : Array Slot} {rest : List Value} {D : va_G} {cy : Nat → ClassId} {A : Nat → Prop} {ws : va_W} {b : Nat} {fs : List Value} {v : Value} (C : Cx p s m args c cc nL RX11 D cy A) (hO : Wo D A ws s.heap H locs) (q0 : Nat) (he : ws[q0]? = some (b, .inr (11, fs))) (hv : fs[14]? = some v) (hdg : decode cc pc = .ok (.getfield 30, 3)) (kk : W p l e R s m args below meth c H locs cells slots Q (F0 m (pc + 3) ls (v :: rest))) : W p l e R s m args below meth c H locs cells slots Q (F0 m pc ls (.ref b :: rest)) := gF (k := 14) C hO q0 he rfl inFX11 (by decide) wd_1370 rfl hv hdg kk
theorem wd_1392 : (Cond.fieldLink "WebCourtModel" (255 : Nat) "WebCourtModel" "bank" "I") ∈ gtb := gtb_c6 83 (by decide +kernel) rfl
theorem gf_RX11_255 {p : Program} {l : Launch} {e : Env} {R : Room} {s : State} {m : MethodId} {args : Array Value} {below : List Frame} {meth : Method} {c : Code} {H : Heap} {locs : List Loc} {cells slots : Nat} {Q : State → Prop} {cc : ByteArray} {pc nL : Nat} {ls : Array Slot} {rest : List Value} {D : va_G} {cy : Nat → ClassId} {A : Nat → Prop} {ws : va_W} {b : Nat} {fs : List Value} {v : Value} (C : Cx p s m args c cc nL RX11 D cy A) (hO : Wo D A ws s.heap H locs) (q0 : Nat) (he : ws[q0]? = some (b, .inr (11, fs))) (hv : fs[36]? = some v) (hdg : decode cc pc = .ok (.getfield 255, 3)) (kk : W p l e R s m args below meth c H locs cells slots Q (F0 m (pc + 3) ls (v :: rest))) : W p l e R s m args below meth c H locs cells slots Q (F0 m pc ls (.ref b :: rest)) := gF (k := 36) C hO q0 he rfl inFX11 (by decide) wd_1392 rfl hv hdg kk
set_option maxHeartbeats 4000000 in
set_option maxRecDepth 100000 in
theorem T_X11_many (l : Launch) (D : va_G) (cy : Nat → ClassId) (a : Nat → Nat) (u : St) (hJ : MI a u) (gm : Int32) (hgm : fA u 6 (fI u 0 36).toNatClampNeg = gm)   : Mi l D cy (mW cy a) yX11_many (.code yX11_many cX11_many 1 (some .int)) (rmo 0 0) [.ref (a 0)] u (fun (r : Int32) (u' : St) => (r = gm) ∧ (u' = u)) := by
  refine Mi.of (own := RX11) rfl (by decide) (Nat.le_of_ble_eq_true rfl) ?_
  have hT : Km0 u u := Km0.rf
  have hJ0 := hJ
  intro p e s m below meth c A Q ls C hret hO hl
  obtain ⟨hx, hb, hml, hown, ht, hK, hA⟩ := id C
  have hl : lv_has ls 1 [(0, .ref (a 0))] := hl
  refine lv_aload_n hx hb dX11_many_0 rfl (lv_at hl 0 rfl) ?_
  refine gf_RX11_30 (v := .ref (a 6)) C hO 0 mW_0 rfl dX11_many_1 ?_
  refine lv_aload_n hx hb dX11_many_4 rfl (lv_at hl 0 rfl) ?_
  have g1 : 0 ≤ (fI u 0 36).toInt ∧ (fI u 0 36).toInt ≤ 1 := by have h := MI_36 hJ0; exact h
  refine gf_RX11_255 (v := .int (fI u 0 36)) C hO 0 mW_0 rfl dX11_many_5 ?_
  refine aI C hO 6 mW_6 (i_in (X := ((fI u 0 36)).toInt) rfl (by omega) (by omega)) dX11_many_8 ?_
  have g2 : 0 ≤ gm.toInt ∧ gm.toInt ≤ 6 := by have h := MI_A6 hJ0 (fI u 0 36).toNatClampNeg; rw [hgm] at h; exact h
  refine tE (y := gm) (by exact hgm) ?_
  refine hret _ _ _ _ _ _ dX11_many_9 rfl ?_ hO
  exact ⟨rfl, rfl⟩
theorem dX11_pleads_0 : decode cX11_pleads 0 = .ok (.aload_n 0, 1) := by decide +kernel
theorem dX11_pleads_1 : decode cX11_pleads 1 = .ok (.getfield 27, 3) := by decide +kernel
theorem dX11_pleads_4 : decode cX11_pleads 4 = .ok (.aload_n 0, 1) := by decide +kernel
theorem dX11_pleads_5 : decode cX11_pleads 5 = .ok (.getfield 255, 3) := by decide +kernel
theorem dX11_pleads_8 : decode cX11_pleads 8 = .ok (.iaload, 1) := by decide +kernel
theorem dX11_pleads_9 : decode cX11_pleads 9 = .ok (.ireturn, 1) := by decide +kernel
theorem wd_1748 : (Cond.code ⟨"WebCourtModel", "pleads", "()I"⟩ prog_13_method_47_code (1 : Nat) (Option.some FieldType.int)) ∈ gtb := gtb_c7 199 (by decide +kernel) rfl
theorem wd_1369 : (Cond.fieldLink "WebCourtModel" (27 : Nat) "WebCourtModel" "pleas" "[I") ∈ gtb := gtb_c6 60 (by decide +kernel) rfl
theorem gf_RX11_27 {p : Program} {l : Launch} {e : Env} {R : Room} {s : State} {m : MethodId} {args : Array Value} {below : List Frame} {meth : Method} {c : Code} {H : Heap} {locs : List Loc} {cells slots : Nat} {Q : State → Prop} {cc : ByteArray} {pc nL : Nat} {ls : Array Slot} {rest : List Value} {D : va_G} {cy : Nat → ClassId} {A : Nat → Prop} {ws : va_W} {b : Nat} {fs : List Value} {v : Value} (C : Cx p s m args c cc nL RX11 D cy A) (hO : Wo D A ws s.heap H locs) (q0 : Nat) (he : ws[q0]? = some (b, .inr (11, fs))) (hv : fs[13]? = some v) (hdg : decode cc pc = .ok (.getfield 27, 3)) (kk : W p l e R s m args below meth c H locs cells slots Q (F0 m (pc + 3) ls (v :: rest))) : W p l e R s m args below meth c H locs cells slots Q (F0 m pc ls (.ref b :: rest)) := gF (k := 13) C hO q0 he rfl inFX11 (by decide) wd_1369 rfl hv hdg kk
set_option maxHeartbeats 4000000 in
set_option maxRecDepth 100000 in
theorem T_X11_pleads (l : Launch) (D : va_G) (cy : Nat → ClassId) (a : Nat → Nat) (u : St) (hJ : MI a u) (gq : Int32) (hgq : fA u 5 (fI u 0 36).toNatClampNeg = gq)   : Mi l D cy (mW cy a) yX11_pleads (.code yX11_pleads cX11_pleads 1 (some .int)) (rmo 0 0) [.ref (a 0)] u (fun (r : Int32) (u' : St) => (r = gq) ∧ (u' = u)) := by
  refine Mi.of (own := RX11) rfl (by decide) (Nat.le_of_ble_eq_true rfl) ?_
  have hT : Km0 u u := Km0.rf
  have hJ0 := hJ
  intro p e s m below meth c A Q ls C hret hO hl
  obtain ⟨hx, hb, hml, hown, ht, hK, hA⟩ := id C
  have hl : lv_has ls 1 [(0, .ref (a 0))] := hl
  refine lv_aload_n hx hb dX11_pleads_0 rfl (lv_at hl 0 rfl) ?_
  refine gf_RX11_27 (v := .ref (a 5)) C hO 0 mW_0 rfl dX11_pleads_1 ?_
  refine lv_aload_n hx hb dX11_pleads_4 rfl (lv_at hl 0 rfl) ?_
  have g1 : 0 ≤ (fI u 0 36).toInt ∧ (fI u 0 36).toInt ≤ 1 := by have h := MI_36 hJ0; exact h
  refine gf_RX11_255 (v := .int (fI u 0 36)) C hO 0 mW_0 rfl dX11_pleads_5 ?_
  refine aI C hO 5 mW_5 (i_in (X := ((fI u 0 36)).toInt) rfl (by omega) (by omega)) dX11_pleads_8 ?_
  have g2 : 0 ≤ gq.toInt ∧ gq.toInt ≤ 8 := by have h := MI_A5 hJ0 (fI u 0 36).toNatClampNeg; rw [hgq] at h; exact h
  refine tE (y := gq) (by exact hgq) ?_
  refine hret _ _ _ _ _ _ dX11_pleads_9 rfl ?_ hO
  exact ⟨rfl, rfl⟩
theorem dX11_spots_0 : decode cX11_spots 0 = .ok (.aload_n 0, 1) := by decide +kernel
theorem dX11_spots_1 : decode cX11_spots 1 = .ok (.getfield 20, 3) := by decide +kernel
theorem dX11_spots_4 : decode cX11_spots 4 = .ok (.aload_n 0, 1) := by decide +kernel
theorem dX11_spots_5 : decode cX11_spots 5 = .ok (.getfield 255, 3) := by decide +kernel
theorem dX11_spots_8 : decode cX11_spots 8 = .ok (.iaload, 1) := by decide +kernel
theorem dX11_spots_9 : decode cX11_spots 9 = .ok (.ireturn, 1) := by decide +kernel
theorem wd_1355 : (Cond.code ⟨"WebCourtModel", "spots", "()I"⟩ prog_13_method_48_code (1 : Nat) (Option.some FieldType.int)) ∈ gtb := gtb_c6 46 (by decide +kernel) rfl
theorem wd_1367 : (Cond.fieldLink "WebCourtModel" (20 : Nat) "WebCourtModel" "knots" "[I") ∈ gtb := gtb_c6 58 (by decide +kernel) rfl
theorem gf_RX11_20 {p : Program} {l : Launch} {e : Env} {R : Room} {s : State} {m : MethodId} {args : Array Value} {below : List Frame} {meth : Method} {c : Code} {H : Heap} {locs : List Loc} {cells slots : Nat} {Q : State → Prop} {cc : ByteArray} {pc nL : Nat} {ls : Array Slot} {rest : List Value} {D : va_G} {cy : Nat → ClassId} {A : Nat → Prop} {ws : va_W} {b : Nat} {fs : List Value} {v : Value} (C : Cx p s m args c cc nL RX11 D cy A) (hO : Wo D A ws s.heap H locs) (q0 : Nat) (he : ws[q0]? = some (b, .inr (11, fs))) (hv : fs[11]? = some v) (hdg : decode cc pc = .ok (.getfield 20, 3)) (kk : W p l e R s m args below meth c H locs cells slots Q (F0 m (pc + 3) ls (v :: rest))) : W p l e R s m args below meth c H locs cells slots Q (F0 m pc ls (.ref b :: rest)) := gF (k := 11) C hO q0 he rfl inFX11 (by decide) wd_1367 rfl hv hdg kk
set_option maxHeartbeats 4000000 in
set_option maxRecDepth 100000 in
theorem T_X11_spots (l : Launch) (D : va_G) (cy : Nat → ClassId) (a : Nat → Nat) (u : St) (hJ : MI a u) (gk : Int32) (hgk : fA u 3 (fI u 0 36).toNatClampNeg = gk)   : Mi l D cy (mW cy a) yX11_spots (.code yX11_spots cX11_spots 1 (some .int)) (rmo 0 0) [.ref (a 0)] u (fun (r : Int32) (u' : St) => (r = gk) ∧ (u' = u)) := by
  refine Mi.of (own := RX11) rfl (by decide) (Nat.le_of_ble_eq_true rfl) ?_
  have hT : Km0 u u := Km0.rf
  have hJ0 := hJ
  intro p e s m below meth c A Q ls C hret hO hl
  obtain ⟨hx, hb, hml, hown, ht, hK, hA⟩ := id C
  have hl : lv_has ls 1 [(0, .ref (a 0))] := hl
  refine lv_aload_n hx hb dX11_spots_0 rfl (lv_at hl 0 rfl) ?_
  refine gf_RX11_20 (v := .ref (a 3)) C hO 0 mW_0 rfl dX11_spots_1 ?_
  refine lv_aload_n hx hb dX11_spots_4 rfl (lv_at hl 0 rfl) ?_
  have g1 : 0 ≤ (fI u 0 36).toInt ∧ (fI u 0 36).toInt ≤ 1 := by have h := MI_36 hJ0; exact h
  refine gf_RX11_255 (v := .int (fI u 0 36)) C hO 0 mW_0 rfl dX11_spots_5 ?_
  refine aI C hO 3 mW_3 (i_in (X := ((fI u 0 36)).toInt) rfl (by omega) (by omega)) dX11_spots_8 ?_
  have g2 : 0 ≤ gk.toInt ∧ gk.toInt ≤ 8 := by have h := MI_A3 hJ0 (fI u 0 36).toNatClampNeg; rw [hgk] at h; exact h
  refine tE (y := gk) (by exact hgk) ?_
  refine hret _ _ _ _ _ _ dX11_spots_9 rfl ?_ hO
  exact ⟨rfl, rfl⟩
theorem dX11_isCase_0 : decode cX11_isCase 0 = .ok (.iload_n 1, 1) := by decide +kernel
theorem dX11_isCase_1 : decode cX11_isCase 1 = .ok (.iconst 0, 1) := by decide +kernel
theorem dX11_isCase_2 : decode cX11_isCase 2 = .ok (.aload_n 0, 1) := by decide +kernel
theorem dX11_isCase_3 : decode cX11_isCase 3 = .ok (.invokevirtual 371, 3) := by decide +kernel
theorem dX11_isCase_6 : decode cX11_isCase 6 = .ok (.iconst 1, 1) := by decide +kernel
theorem dX11_isCase_7 : decode cX11_isCase 7 = .ok (.isub, 1) := by decide +kernel
theorem dX11_isCase_8 : decode cX11_isCase 8 = .ok (.invokestatic 374, 3) := by decide +kernel
theorem dX11_isCase_11 : decode cX11_isCase 11 = .ok (.ireturn, 1) := by decide +kernel
theorem wd_1756 : (Cond.code ⟨"WebCourtModel", "isCase", "(I)Z"⟩ prog_13_method_49_code (2 : Nat) (Option.some FieldType.boolean)) ∈ gtb := gtb_c7 207 (by decide +kernel) rfl
theorem wd_1348 : (Cond.methodLink "WebCourtModel" (371 : Nat) ⟨"WebCourtModel", "many", "()I"⟩) ∈ gtb := gtb_c6 39 (by decide +kernel) rfl
theorem wd_1350 : (Cond.instanceMethod ⟨"WebCourtModel", "many", "()I"⟩) ∈ gtb := gtb_c6 41 (by decide +kernel) rfl
theorem wd_46 : (Cond.selects "WebCourtModel" ⟨"WebCourtModel", "many", "()I"⟩ ⟨"WebCourtModel", "many", "()I"⟩) ∈ gtb := gtb_p 46 (by decide +kernel) rfl
theorem wd_121 : (Cond.initialized "WebCourtModel") ∈ gtb := gtb_c1 12 (by decide +kernel) rfl
theorem hd_yX11_many : yX11_many.cls = RX11 ∧ yX11_many.cls ≠ "java/lang/invoke/MethodHandle" ∧ yX11_many.cls ≠ "java/lang/invoke/VarHandle" ∧ (parseMethodDescriptor yX11_many.desc).map (fun d => d.parameters.length) = some 0 := by decide +kernel
theorem wd_1722 : (Cond.methodLink "WebCourtModel" (374 : Nat) ⟨"WebCourtModel", "isIn", "(III)Z"⟩) ∈ gtb := gtb_c7 173 (by decide +kernel) rfl
theorem wd_1723 : (Cond.static ⟨"WebCourtModel", "isIn", "(III)Z"⟩) ∈ gtb := gtb_c7 174 (by decide +kernel) rfl
theorem hd_yX11_isIn : yX11_isIn.cls ≠ "java/lang/invoke/MethodHandle" ∧ yX11_isIn.cls ≠ "java/lang/invoke/VarHandle" ∧ (parseMethodDescriptor yX11_isIn.desc).map (fun d => d.parameters.length) = some 3 := by decide +kernel
set_option maxHeartbeats 4000000 in
set_option maxRecDepth 100000 in
theorem T_X11_isCase (l : Launch) (D : va_G) (cy : Nat → ClassId) (a : Nat → Nat) (u : St) (hJ : MI a u) (gm : Int32) (hgm : fA u 6 (fI u 0 36).toNatClampNeg = gm) (x1 : Int32)  : Mi l D cy (mW cy a) yX11_isCase (.code yX11_isCase cX11_isCase 2 (some .boolean)) (rmo 1 22) [.ref (a 0), .int x1] u (fun (r : Int32) (u' : St) => (((0 ≤ x1.toInt ∧ x1.toInt < gm.toInt) ∧ r = 1) ∨ ((x1.toInt < 0 ∨ gm.toInt ≤ x1.toInt) ∧ r = 0)) ∧ (u' = u)) := by
  refine Mi.of (own := RX11) rfl (by decide) (Nat.le_of_ble_eq_true rfl) ?_
  have hT : Km0 u u := Km0.rf
  have hJ0 := hJ
  intro p e s m below meth c A Q ls C hret hO hl
  obtain ⟨hx, hb, hml, hown, ht, hK, hA⟩ := id C
  have hl : lv_has ls 2 [(0, .ref (a 0)), (1, .int x1)] := hl
  refine lv_iload_n hx hb dX11_isCase_0 rfl (lv_at hl 1 rfl) ?_
  refine lv_iconst (v := 0) hx hb dX11_isCase_1 (by decide) ?_
  refine lv_aload_n hx hb dX11_isCase_2 rfl (lv_at hl 0 rfl) ?_
  have g1 : 0 ≤ (fI u 0 36).toInt ∧ (fI u 0 36).toInt ≤ 1 := by have h := MI_36 hJ0; exact h
  have g2 : 0 ≤ gm.toInt ∧ gm.toInt ≤ 6 := by have h := MI_A6 hJ0 (fI u 0 36).toNatClampNeg; rw [hgm] at h; exact h
  refine cVi (w := mW cy a) (As := []) (rest := [.int 0, .int x1]) C hO (T_X11_many l D cy a _ (by exact hJ) (gm) (by exact hgm)) (cwV 0 ht (gV wd_1348 wd_1350 wd_46 wd_121 wd_1351) rfl rfl rfl hd_yX11_many ⟨Nat.le_of_ble_eq_true rfl, Nat.le_of_ble_eq_true rfl⟩) 0 rfl mW_0 rfl rfl hl.1 (Nat.le_of_ble_eq_true rfl) dX11_isCase_3 rfl ⟨Nat.zero_le _, Nat.zero_le _⟩ (fun r3 u4 H locs hp5 hO => ?_)
  obtain ⟨hr3, hu4⟩ := hp5
  refine tE hr3 ?_
  rw [hu4] at hO
  refine lv_iconst (v := 1) hx hb dX11_isCase_6 (by decide) ?_
  have e6 : ((gm - 1)).toInt = (gm).toInt - 1 := i_sub rfl rfl (by omega)
  refine lv_isub hx hb dX11_isCase_7 ?_
  refine cSi (w := mW cy a) (As := [.int x1, .int 0, .int (gm - 1)]) (rest := []) C hO (T_X11_isIn l D cy a _ (by exact hJ) (x1) (0) ((gm - 1))) (va_cwS 3 ht (gSS wd_1722 wd_1723 wd_121 wd_1724) rfl rfl rfl hd_yX11_isIn ⟨Nat.le_of_ble_eq_true rfl, Nat.le_of_ble_eq_true rfl⟩)  rfl hl.1 (Nat.le_of_ble_eq_true rfl) dX11_isCase_8 rfl ⟨Nat.zero_le _, Nat.zero_le _⟩ (fun r7 u8 H locs hp9 hO => ?_)
  obtain ⟨hr7, hu8⟩ := hp9
  rw [hu8] at hO
  have zz10 : (0 : Int32).toInt = 0 := rfl
  rcases hr7 with ⟨hcr7, hvr7⟩ | ⟨hcr7, hvr7⟩
  · subst hvr7
    refine hret _ _ _ _ _ _ dX11_isCase_11 rfl ?_ hO
    exact ⟨Or.inl ⟨by omega, rfl⟩, rfl⟩
  · subst hvr7
    refine hret _ _ _ _ _ _ dX11_isCase_11 rfl ?_ hO
    exact ⟨Or.inr ⟨by first | trivial | omega, rfl⟩, rfl⟩
theorem dX11_isPlea_0 : decode cX11_isPlea 0 = .ok (.iload_n 1, 1) := by decide +kernel
theorem dX11_isPlea_1 : decode cX11_isPlea 1 = .ok (.iconst 0, 1) := by decide +kernel
theorem dX11_isPlea_2 : decode cX11_isPlea 2 = .ok (.aload_n 0, 1) := by decide +kernel
theorem dX11_isPlea_3 : decode cX11_isPlea 3 = .ok (.invokevirtual 377, 3) := by decide +kernel
theorem dX11_isPlea_6 : decode cX11_isPlea 6 = .ok (.iconst 1, 1) := by decide +kernel
theorem dX11_isPlea_7 : decode cX11_isPlea 7 = .ok (.isub, 1) := by decide +kernel
theorem dX11_isPlea_8 : decode cX11_isPlea 8 = .ok (.invokestatic 374, 3) := by decide +kernel
theorem dX11_isPlea_11 : decode cX11_isPlea 11 = .ok (.ireturn, 1) := by decide +kernel
theorem wd_1744 : (Cond.code ⟨"WebCourtModel", "isPlea", "(I)Z"⟩ prog_13_method_50_code (2 : Nat) (Option.some FieldType.boolean)) ∈ gtb := gtb_c7 195 (by decide +kernel) rfl
theorem wd_1745 : (Cond.methodLink "WebCourtModel" (377 : Nat) ⟨"WebCourtModel", "pleads", "()I"⟩) ∈ gtb := gtb_c7 196 (by decide +kernel) rfl
theorem wd_1747 : (Cond.instanceMethod ⟨"WebCourtModel", "pleads", "()I"⟩) ∈ gtb := gtb_c7 198 (by decide +kernel) rfl
theorem wd_82 : (Cond.selects "WebCourtModel" ⟨"WebCourtModel", "pleads", "()I"⟩ ⟨"WebCourtModel", "pleads", "()I"⟩) ∈ gtb := gtb_p 82 (by decide +kernel) rfl
theorem hd_yX11_pleads : yX11_pleads.cls = RX11 ∧ yX11_pleads.cls ≠ "java/lang/invoke/MethodHandle" ∧ yX11_pleads.cls ≠ "java/lang/invoke/VarHandle" ∧ (parseMethodDescriptor yX11_pleads.desc).map (fun d => d.parameters.length) = some 0 := by decide +kernel
set_option maxHeartbeats 4000000 in
set_option maxRecDepth 100000 in
theorem T_X11_isPlea (l : Launch) (D : va_G) (cy : Nat → ClassId) (a : Nat → Nat) (u : St) (hJ : MI a u) (gq : Int32) (hgq : fA u 5 (fI u 0 36).toNatClampNeg = gq) (x1 : Int32)  : Mi l D cy (mW cy a) yX11_isPlea (.code yX11_isPlea cX11_isPlea 2 (some .boolean)) (rmo 1 22) [.ref (a 0), .int x1] u (fun (r : Int32) (u' : St) => (((0 ≤ x1.toInt ∧ x1.toInt < gq.toInt) ∧ r = 1) ∨ ((x1.toInt < 0 ∨ gq.toInt ≤ x1.toInt) ∧ r = 0)) ∧ (u' = u)) := by
  refine Mi.of (own := RX11) rfl (by decide) (Nat.le_of_ble_eq_true rfl) ?_
  have hT : Km0 u u := Km0.rf
  have hJ0 := hJ
  intro p e s m below meth c A Q ls C hret hO hl
  obtain ⟨hx, hb, hml, hown, ht, hK, hA⟩ := id C
  have hl : lv_has ls 2 [(0, .ref (a 0)), (1, .int x1)] := hl
  refine lv_iload_n hx hb dX11_isPlea_0 rfl (lv_at hl 1 rfl) ?_
  refine lv_iconst (v := 0) hx hb dX11_isPlea_1 (by decide) ?_
  refine lv_aload_n hx hb dX11_isPlea_2 rfl (lv_at hl 0 rfl) ?_
  have g1 : 0 ≤ (fI u 0 36).toInt ∧ (fI u 0 36).toInt ≤ 1 := by have h := MI_36 hJ0; exact h
  have g2 : 0 ≤ gq.toInt ∧ gq.toInt ≤ 8 := by have h := MI_A5 hJ0 (fI u 0 36).toNatClampNeg; rw [hgq] at h; exact h
  refine cVi (w := mW cy a) (As := []) (rest := [.int 0, .int x1]) C hO (T_X11_pleads l D cy a _ (by exact hJ) (gq) (by exact hgq)) (cwV 0 ht (gV wd_1745 wd_1747 wd_82 wd_121 wd_1748) rfl rfl rfl hd_yX11_pleads ⟨Nat.le_of_ble_eq_true rfl, Nat.le_of_ble_eq_true rfl⟩) 0 rfl mW_0 rfl rfl hl.1 (Nat.le_of_ble_eq_true rfl) dX11_isPlea_3 rfl ⟨Nat.zero_le _, Nat.zero_le _⟩ (fun r3 u4 H locs hp5 hO => ?_)
  obtain ⟨hr3, hu4⟩ := hp5
  refine tE hr3 ?_
  rw [hu4] at hO
  refine lv_iconst (v := 1) hx hb dX11_isPlea_6 (by decide) ?_
  have e6 : ((gq - 1)).toInt = (gq).toInt - 1 := i_sub rfl rfl (by omega)
  refine lv_isub hx hb dX11_isPlea_7 ?_
  refine cSi (w := mW cy a) (As := [.int x1, .int 0, .int (gq - 1)]) (rest := []) C hO (T_X11_isIn l D cy a _ (by exact hJ) (x1) (0) ((gq - 1))) (va_cwS 3 ht (gSS wd_1722 wd_1723 wd_121 wd_1724) rfl rfl rfl hd_yX11_isIn ⟨Nat.le_of_ble_eq_true rfl, Nat.le_of_ble_eq_true rfl⟩)  rfl hl.1 (Nat.le_of_ble_eq_true rfl) dX11_isPlea_8 rfl ⟨Nat.zero_le _, Nat.zero_le _⟩ (fun r7 u8 H locs hp9 hO => ?_)
  obtain ⟨hr7, hu8⟩ := hp9
  rw [hu8] at hO
  have zz10 : (0 : Int32).toInt = 0 := rfl
  rcases hr7 with ⟨hcr7, hvr7⟩ | ⟨hcr7, hvr7⟩
  · subst hvr7
    refine hret _ _ _ _ _ _ dX11_isPlea_11 rfl ?_ hO
    exact ⟨Or.inl ⟨by omega, rfl⟩, rfl⟩
  · subst hvr7
    refine hret _ _ _ _ _ _ dX11_isPlea_11 rfl ?_ hO
    exact ⟨Or.inr ⟨by first | trivial | omega, rfl⟩, rfl⟩
theorem dX11_isKnot_0 : decode cX11_isKnot 0 = .ok (.iload_n 1, 1) := by decide +kernel
theorem dX11_isKnot_1 : decode cX11_isKnot 1 = .ok (.iconst 0, 1) := by decide +kernel
theorem dX11_isKnot_2 : decode cX11_isKnot 2 = .ok (.aload_n 0, 1) := by decide +kernel
theorem dX11_isKnot_3 : decode cX11_isKnot 3 = .ok (.invokevirtual 380, 3) := by decide +kernel
theorem dX11_isKnot_6 : decode cX11_isKnot 6 = .ok (.iconst 1, 1) := by decide +kernel
theorem dX11_isKnot_7 : decode cX11_isKnot 7 = .ok (.isub, 1) := by decide +kernel
theorem dX11_isKnot_8 : decode cX11_isKnot 8 = .ok (.invokestatic 374, 3) := by decide +kernel
theorem dX11_isKnot_11 : decode cX11_isKnot 11 = .ok (.ireturn, 1) := by decide +kernel
theorem wd_1721 : (Cond.code ⟨"WebCourtModel", "isKnot", "(I)Z"⟩ prog_13_method_51_code (2 : Nat) (Option.some FieldType.boolean)) ∈ gtb := gtb_c7 172 (by decide +kernel) rfl
theorem wd_1352 : (Cond.methodLink "WebCourtModel" (380 : Nat) ⟨"WebCourtModel", "spots", "()I"⟩) ∈ gtb := gtb_c6 43 (by decide +kernel) rfl
theorem wd_1354 : (Cond.instanceMethod ⟨"WebCourtModel", "spots", "()I"⟩) ∈ gtb := gtb_c6 45 (by decide +kernel) rfl
theorem wd_47 : (Cond.selects "WebCourtModel" ⟨"WebCourtModel", "spots", "()I"⟩ ⟨"WebCourtModel", "spots", "()I"⟩) ∈ gtb := gtb_p 47 (by decide +kernel) rfl
theorem hd_yX11_spots : yX11_spots.cls = RX11 ∧ yX11_spots.cls ≠ "java/lang/invoke/MethodHandle" ∧ yX11_spots.cls ≠ "java/lang/invoke/VarHandle" ∧ (parseMethodDescriptor yX11_spots.desc).map (fun d => d.parameters.length) = some 0 := by decide +kernel
set_option maxHeartbeats 4000000 in
set_option maxRecDepth 100000 in
theorem T_X11_isKnot (l : Launch) (D : va_G) (cy : Nat → ClassId) (a : Nat → Nat) (u : St) (hJ : MI a u) (gk : Int32) (hgk : fA u 3 (fI u 0 36).toNatClampNeg = gk) (x1 : Int32)  : Mi l D cy (mW cy a) yX11_isKnot (.code yX11_isKnot cX11_isKnot 2 (some .boolean)) (rmo 1 22) [.ref (a 0), .int x1] u (fun (r : Int32) (u' : St) => (((0 ≤ x1.toInt ∧ x1.toInt < gk.toInt) ∧ r = 1) ∨ ((x1.toInt < 0 ∨ gk.toInt ≤ x1.toInt) ∧ r = 0)) ∧ (u' = u)) := by
  refine Mi.of (own := RX11) rfl (by decide) (Nat.le_of_ble_eq_true rfl) ?_
  have hT : Km0 u u := Km0.rf
  have hJ0 := hJ
  intro p e s m below meth c A Q ls C hret hO hl
  obtain ⟨hx, hb, hml, hown, ht, hK, hA⟩ := id C
  have hl : lv_has ls 2 [(0, .ref (a 0)), (1, .int x1)] := hl
  refine lv_iload_n hx hb dX11_isKnot_0 rfl (lv_at hl 1 rfl) ?_
  refine lv_iconst (v := 0) hx hb dX11_isKnot_1 (by decide) ?_
  refine lv_aload_n hx hb dX11_isKnot_2 rfl (lv_at hl 0 rfl) ?_
  have g1 : 0 ≤ (fI u 0 36).toInt ∧ (fI u 0 36).toInt ≤ 1 := by have h := MI_36 hJ0; exact h
  have g2 : 0 ≤ gk.toInt ∧ gk.toInt ≤ 8 := by have h := MI_A3 hJ0 (fI u 0 36).toNatClampNeg; rw [hgk] at h; exact h
  refine cVi (w := mW cy a) (As := []) (rest := [.int 0, .int x1]) C hO (T_X11_spots l D cy a _ (by exact hJ) (gk) (by exact hgk)) (cwV 0 ht (gV wd_1352 wd_1354 wd_47 wd_121 wd_1355) rfl rfl rfl hd_yX11_spots ⟨Nat.le_of_ble_eq_true rfl, Nat.le_of_ble_eq_true rfl⟩) 0 rfl mW_0 rfl rfl hl.1 (Nat.le_of_ble_eq_true rfl) dX11_isKnot_3 rfl ⟨Nat.zero_le _, Nat.zero_le _⟩ (fun r3 u4 H locs hp5 hO => ?_)
  obtain ⟨hr3, hu4⟩ := hp5
  refine tE hr3 ?_
  rw [hu4] at hO
  refine lv_iconst (v := 1) hx hb dX11_isKnot_6 (by decide) ?_
  have e6 : ((gk - 1)).toInt = (gk).toInt - 1 := i_sub rfl rfl (by omega)
  refine lv_isub hx hb dX11_isKnot_7 ?_
  refine cSi (w := mW cy a) (As := [.int x1, .int 0, .int (gk - 1)]) (rest := []) C hO (T_X11_isIn l D cy a _ (by exact hJ) (x1) (0) ((gk - 1))) (va_cwS 3 ht (gSS wd_1722 wd_1723 wd_121 wd_1724) rfl rfl rfl hd_yX11_isIn ⟨Nat.le_of_ble_eq_true rfl, Nat.le_of_ble_eq_true rfl⟩)  rfl hl.1 (Nat.le_of_ble_eq_true rfl) dX11_isKnot_8 rfl ⟨Nat.zero_le _, Nat.zero_le _⟩ (fun r7 u8 H locs hp9 hO => ?_)
  obtain ⟨hr7, hu8⟩ := hp9
  rw [hu8] at hO
  have zz10 : (0 : Int32).toInt = 0 := rfl
  rcases hr7 with ⟨hcr7, hvr7⟩ | ⟨hcr7, hvr7⟩
  · subst hvr7
    refine hret _ _ _ _ _ _ dX11_isKnot_11 rfl ?_ hO
    exact ⟨Or.inl ⟨by omega, rfl⟩, rfl⟩
  · subst hvr7
    refine hret _ _ _ _ _ _ dX11_isKnot_11 rfl ?_ hO
    exact ⟨Or.inr ⟨by first | trivial | omega, rfl⟩, rfl⟩
theorem dX11_isHeld_0 : decode cX11_isHeld 0 = .ok (.aload_n 0, 1) := by decide +kernel
theorem dX11_isHeld_1 : decode cX11_isHeld 1 = .ok (.iload_n 1, 1) := by decide +kernel
theorem dX11_isHeld_2 : decode cX11_isHeld 2 = .ok (.invokevirtual 383, 3) := by decide +kernel
theorem dX11_isHeld_5 : decode cX11_isHeld 5 = .ok (.ifCond .eq 18, 3) := by decide +kernel
theorem dX11_isHeld_8 : decode cX11_isHeld 8 = .ok (.aload_n 0, 1) := by decide +kernel
theorem dX11_isHeld_9 : decode cX11_isHeld 9 = .ok (.getfield 97, 3) := by decide +kernel
theorem dX11_isHeld_12 : decode cX11_isHeld 12 = .ok (.iconst 0, 1) := by decide +kernel
theorem dX11_isHeld_13 : decode cX11_isHeld 13 = .ok (.iload_n 1, 1) := by decide +kernel
theorem dX11_isHeld_14 : decode cX11_isHeld 14 = .ok (.iadd, 1) := by decide +kernel
theorem dX11_isHeld_15 : decode cX11_isHeld 15 = .ok (.iaload, 1) := by decide +kernel
theorem dX11_isHeld_16 : decode cX11_isHeld 16 = .ok (.ifCond .ne 7, 3) := by decide +kernel
theorem dX11_isHeld_19 : decode cX11_isHeld 19 = .ok (.iconst 1, 1) := by decide +kernel
theorem dX11_isHeld_20 : decode cX11_isHeld 20 = .ok (.goto 4, 3) := by decide +kernel
theorem dX11_isHeld_23 : decode cX11_isHeld 23 = .ok (.iconst 0, 1) := by decide +kernel
theorem dX11_isHeld_24 : decode cX11_isHeld 24 = .ok (.ireturn, 1) := by decide +kernel
theorem wd_1800 : (Cond.code ⟨"WebCourtModel", "isHeld", "(I)Z"⟩ prog_13_method_52_code (2 : Nat) (Option.some FieldType.boolean)) ∈ gtb := gtb_c8 11 (by decide +kernel) rfl
theorem wd_1753 : (Cond.methodLink "WebCourtModel" (383 : Nat) ⟨"WebCourtModel", "isCase", "(I)Z"⟩) ∈ gtb := gtb_c7 204 (by decide +kernel) rfl
theorem wd_1755 : (Cond.instanceMethod ⟨"WebCourtModel", "isCase", "(I)Z"⟩) ∈ gtb := gtb_c7 206 (by decide +kernel) rfl
theorem wd_83 : (Cond.selects "WebCourtModel" ⟨"WebCourtModel", "isCase", "(I)Z"⟩ ⟨"WebCourtModel", "isCase", "(I)Z"⟩) ∈ gtb := gtb_p 83 (by decide +kernel) rfl
theorem hd_yX11_isCase : yX11_isCase.cls = RX11 ∧ yX11_isCase.cls ≠ "java/lang/invoke/MethodHandle" ∧ yX11_isCase.cls ≠ "java/lang/invoke/VarHandle" ∧ (parseMethodDescriptor yX11_isCase.desc).map (fun d => d.parameters.length) = some 1 := by decide +kernel
theorem wd_1400 : (Cond.fieldLink "WebCourtModel" (97 : Nat) "WebCourtModel" "all" "[I") ∈ gtb := gtb_c6 91 (by decide +kernel) rfl
theorem gf_RX11_97 {p : Program} {l : Launch} {e : Env} {R : Room} {s : State} {m : MethodId} {args : Array Value} {below : List Frame} {meth : Method} {c : Code} {H : Heap} {locs : List Loc} {cells slots : Nat} {Q : State → Prop} {cc : ByteArray} {pc nL : Nat} {ls : Array Slot} {rest : List Value} {D : va_G} {cy : Nat → ClassId} {A : Nat → Prop} {ws : va_W} {b : Nat} {fs : List Value} {v : Value} (C : Cx p s m args c cc nL RX11 D cy A) (hO : Wo D A ws s.heap H locs) (q0 : Nat) (he : ws[q0]? = some (b, .inr (11, fs))) (hv : fs[44]? = some v) (hdg : decode cc pc = .ok (.getfield 97, 3)) (kk : W p l e R s m args below meth c H locs cells slots Q (F0 m (pc + 3) ls (v :: rest))) : W p l e R s m args below meth c H locs cells slots Q (F0 m pc ls (.ref b :: rest)) := gF (k := 44) C hO q0 he rfl inFX11 (by decide) wd_1400 rfl hv hdg kk
set_option maxHeartbeats 4000000 in
set_option maxRecDepth 100000 in
theorem T_X11_isHeld (l : Launch) (D : va_G) (cy : Nat → ClassId) (a : Nat → Nat) (u : St) (hJ : MI a u) (gm : Int32) (hgm : fA u 6 (fI u 0 36).toNatClampNeg = gm) (x1 : Int32)  : Mi l D cy (mW cy a) yX11_isHeld (.code yX11_isHeld cX11_isHeld 2 (some .boolean)) (rmo 2 43) [.ref (a 0), .int x1] u (fun (r : Int32) (u' : St) => (((0 ≤ x1.toInt ∧ x1.toInt < gm.toInt) ∧ r = 1) ∨ (True ∧ r = 0)) ∧ (u' = u)) := by
  refine Mi.of (own := RX11) rfl (by decide) (Nat.le_of_ble_eq_true rfl) ?_
  have hT : Km0 u u := Km0.rf
  have hJ0 := hJ
  intro p e s m below meth c A Q ls C hret hO hl
  obtain ⟨hx, hb, hml, hown, ht, hK, hA⟩ := id C
  have hl : lv_has ls 2 [(0, .ref (a 0)), (1, .int x1)] := hl
  refine lv_aload_n hx hb dX11_isHeld_0 rfl (lv_at hl 0 rfl) ?_
  refine lv_iload_n hx hb dX11_isHeld_1 rfl (lv_at hl 1 rfl) ?_
  have g1 : 0 ≤ (fI u 0 36).toInt ∧ (fI u 0 36).toInt ≤ 1 := by have h := MI_36 hJ0; exact h
  have g2 : 0 ≤ gm.toInt ∧ gm.toInt ≤ 6 := by have h := MI_A6 hJ0 (fI u 0 36).toNatClampNeg; rw [hgm] at h; exact h
  refine cVi (w := mW cy a) (As := [.int x1]) (rest := []) C hO (T_X11_isCase l D cy a _ (by exact hJ) (gm) (by exact hgm) (x1)) (cwV 1 ht (gV wd_1753 wd_1755 wd_83 wd_121 wd_1756) rfl rfl rfl hd_yX11_isCase ⟨Nat.le_of_ble_eq_true rfl, Nat.le_of_ble_eq_true rfl⟩) 0 rfl mW_0 rfl rfl hl.1 (Nat.le_of_ble_eq_true rfl) dX11_isHeld_2 rfl ⟨Nat.zero_le _, Nat.zero_le _⟩ (fun r3 u4 H locs hp5 hO => ?_)
  obtain ⟨hr3, hu4⟩ := hp5
  rw [hu4] at hO
  rcases hr3 with ⟨hcr3, hvr3⟩ | ⟨hcr3, hvr3⟩
  · subst hvr3
    refine bn_eq (X := 1) hx hb dX11_isHeld_5 rfl (by omega) ?_ (tgt := 23) (by decide)
    refine lv_aload_n hx hb dX11_isHeld_8 rfl (lv_at hl 0 rfl) ?_
    refine gf_RX11_97 (v := .ref (a 28)) C hO 0 mW_0 rfl dX11_isHeld_9 ?_
    refine lv_iconst (v := 0) hx hb dX11_isHeld_12 (by decide) ?_
    refine lv_iload_n hx hb dX11_isHeld_13 rfl (lv_at hl 1 rfl) ?_
    have e6 : ((0 + x1)).toInt = 0 + (x1).toInt := i_add rfl rfl (by omega)
    refine lv_iadd hx hb dX11_isHeld_14 ?_
    refine aI C hO 28 mW_28 (i_in (X := (0 + (x1).toInt)) e6 (by omega) (by omega)) dX11_isHeld_15 ?_
    refine tE (y := (fA u 28 ((0 + x1)).toNatClampNeg)) (by exact rfl) ?_
    refine bs_ne (tgt := 23) (X := ((fA u 28 ((0 + x1)).toNatClampNeg)).toInt) hx hb dX11_isHeld_16 (by decide) rfl (fun c7 => ?_) (fun c7 => ?_)
    · refine lv_iconst (v := 0) hx hb dX11_isHeld_23 (by decide) ?_
      refine hret _ _ _ _ _ _ dX11_isHeld_24 rfl ?_ hO
      exact ⟨Or.inr ⟨by first | trivial | omega, rfl⟩, rfl⟩
    · refine lv_iconst (v := 1) hx hb dX11_isHeld_19 (by decide) ?_
      refine lv_goto (tgt := 24) hx hb dX11_isHeld_20 (by decide) ?_
      refine hret _ _ _ _ _ _ dX11_isHeld_24 rfl ?_ hO
      exact ⟨Or.inl ⟨by omega, rfl⟩, rfl⟩
  · subst hvr3
    refine bt_eq (tgt := 23) (X := 0) hx hb dX11_isHeld_5 (by decide) rfl (by omega) ?_
    refine lv_iconst (v := 0) hx hb dX11_isHeld_23 (by decide) ?_
    refine hret _ _ _ _ _ _ dX11_isHeld_24 rfl ?_ hO
    exact ⟨Or.inr ⟨by first | trivial | omega, rfl⟩, rfl⟩
theorem dX11_placeOf_0 : decode cX11_placeOf 0 = .ok (.aload_n 0, 1) := by decide +kernel
theorem dX11_placeOf_1 : decode cX11_placeOf 1 = .ok (.getfield 60, 3) := by decide +kernel
theorem dX11_placeOf_4 : decode cX11_placeOf 4 = .ok (.bipush 6, 2) := by decide +kernel
theorem dX11_placeOf_6 : decode cX11_placeOf 6 = .ok (.aload_n 0, 1) := by decide +kernel
theorem dX11_placeOf_7 : decode cX11_placeOf 7 = .ok (.getfield 255, 3) := by decide +kernel
theorem dX11_placeOf_10 : decode cX11_placeOf 10 = .ok (.imul, 1) := by decide +kernel
theorem dX11_placeOf_11 : decode cX11_placeOf 11 = .ok (.iload_n 1, 1) := by decide +kernel
theorem dX11_placeOf_12 : decode cX11_placeOf 12 = .ok (.iadd, 1) := by decide +kernel
theorem dX11_placeOf_13 : decode cX11_placeOf 13 = .ok (.iaload, 1) := by decide +kernel
theorem dX11_placeOf_14 : decode cX11_placeOf 14 = .ok (.ireturn, 1) := by decide +kernel
theorem wd_1736 : (Cond.code ⟨"WebCourtModel", "placeOf", "(I)I"⟩ prog_13_method_53_code (2 : Nat) (Option.some FieldType.int)) ∈ gtb := gtb_c7 187 (by decide +kernel) rfl
theorem wd_1380 : (Cond.fieldLink "WebCourtModel" (60 : Nat) "WebCourtModel" "knotOf" "[I") ∈ gtb := gtb_c6 71 (by decide +kernel) rfl
theorem gf_RX11_60 {p : Program} {l : Launch} {e : Env} {R : Room} {s : State} {m : MethodId} {args : Array Value} {below : List Frame} {meth : Method} {c : Code} {H : Heap} {locs : List Loc} {cells slots : Nat} {Q : State → Prop} {cc : ByteArray} {pc nL : Nat} {ls : Array Slot} {rest : List Value} {D : va_G} {cy : Nat → ClassId} {A : Nat → Prop} {ws : va_W} {b : Nat} {fs : List Value} {v : Value} (C : Cx p s m args c cc nL RX11 D cy A) (hO : Wo D A ws s.heap H locs) (q0 : Nat) (he : ws[q0]? = some (b, .inr (11, fs))) (hv : fs[24]? = some v) (hdg : decode cc pc = .ok (.getfield 60, 3)) (kk : W p l e R s m args below meth c H locs cells slots Q (F0 m (pc + 3) ls (v :: rest))) : W p l e R s m args below meth c H locs cells slots Q (F0 m pc ls (.ref b :: rest)) := gF (k := 24) C hO q0 he rfl inFX11 (by decide) wd_1380 rfl hv hdg kk
set_option maxHeartbeats 4000000 in
set_option maxRecDepth 100000 in
theorem T_X11_placeOf (l : Launch) (D : va_G) (cy : Nat → ClassId) (a : Nat → Nat) (u : St) (hJ : MI a u) (x1 : Int32) (hx_x1 : 0 ≤ x1.toInt ∧ x1.toInt ≤ 5) : Mi l D cy (mW cy a) yX11_placeOf (.code yX11_placeOf cX11_placeOf 2 (some .int)) (rmo 0 0) [.ref (a 0), .int x1] u (fun (r : Int32) (u' : St) => (0 ≤ r.toInt ∧ r.toInt ≤ 7) ∧ (u' = u)) := by
  refine Mi.of (own := RX11) rfl (by decide) (Nat.le_of_ble_eq_true rfl) ?_
  have hT : Km0 u u := Km0.rf
  have hJ0 := hJ
  intro p e s m below meth c A Q ls C hret hO hl
  obtain ⟨hx, hb, hml, hown, ht, hK, hA⟩ := id C
  have hl : lv_has ls 2 [(0, .ref (a 0)), (1, .int x1)] := hl
  refine lv_aload_n hx hb dX11_placeOf_0 rfl (lv_at hl 0 rfl) ?_
  refine gf_RX11_60 (v := .ref (a 16)) C hO 0 mW_0 rfl dX11_placeOf_1 ?_
  refine lv_bipush (v := 6) hx hb dX11_placeOf_4 (by decide) ?_
  refine lv_aload_n hx hb dX11_placeOf_6 rfl (lv_at hl 0 rfl) ?_
  have g1 : 0 ≤ (fI u 0 36).toInt ∧ (fI u 0 36).toInt ≤ 1 := by have h := MI_36 hJ0; exact h
  refine gf_RX11_255 (v := .int (fI u 0 36)) C hO 0 mW_0 rfl dX11_placeOf_7 ?_
  have e2 : ((6 * (fI u 0 36))).toInt = 6 * ((fI u 0 36)).toInt := i_mul rfl rfl (by omega)
  refine lv_imul hx hb dX11_placeOf_10 ?_
  refine lv_iload_n hx hb dX11_placeOf_11 rfl (lv_at hl 1 rfl) ?_
  have e3 : (((6 * (fI u 0 36)) + x1)).toInt = (6 * ((fI u 0 36)).toInt) + (x1).toInt := i_add e2 rfl (by omega)
  refine lv_iadd hx hb dX11_placeOf_12 ?_
  refine aI C hO 16 mW_16 (i_in (X := ((6 * ((fI u 0 36)).toInt) + (x1).toInt)) e3 (by omega) (by omega)) dX11_placeOf_13 ?_
  have g4 : 0 ≤ (fA u 16 (((6 * (fI u 0 36)) + x1)).toNatClampNeg).toInt ∧ (fA u 16 (((6 * (fI u 0 36)) + x1)).toNatClampNeg).toInt ≤ 7 := by have h := MI_A16 hJ0 (((6 * (fI u 0 36)) + x1)).toNatClampNeg; exact h
  refine tE (y := (fA u 16 (((6 * (fI u 0 36)) + x1)).toNatClampNeg)) (by exact rfl) ?_
  refine hret _ _ _ _ _ _ dX11_placeOf_14 rfl ?_ hO
  exact ⟨(by first | decide | omega), rfl⟩
theorem dX11_bitsOf_0 : decode cX11_bitsOf 0 = .ok (.iconst 0, 1) := by decide +kernel
theorem dX11_bitsOf_1 : decode cX11_bitsOf 1 = .ok (.istore_n 1, 1) := by decide +kernel
theorem dX11_bitsOf_2 : decode cX11_bitsOf 2 = .ok (.iload_n 0, 1) := by decide +kernel
theorem dX11_bitsOf_3 : decode cX11_bitsOf 3 = .ok (.istore_n 2, 1) := by decide +kernel
theorem dX11_bitsOf_4 : decode cX11_bitsOf 4 = .ok (.iload_n 2, 1) := by decide +kernel
theorem dX11_bitsOf_5 : decode cX11_bitsOf 5 = .ok (.ifCond .eq 15, 3) := by decide +kernel
theorem dX11_bitsOf_8 : decode cX11_bitsOf 8 = .ok (.iinc 1 1, 3) := by decide +kernel
theorem dX11_bitsOf_11 : decode cX11_bitsOf 11 = .ok (.iload_n 2, 1) := by decide +kernel
theorem dX11_bitsOf_12 : decode cX11_bitsOf 12 = .ok (.iload_n 2, 1) := by decide +kernel
theorem dX11_bitsOf_13 : decode cX11_bitsOf 13 = .ok (.iconst 1, 1) := by decide +kernel
theorem dX11_bitsOf_14 : decode cX11_bitsOf 14 = .ok (.isub, 1) := by decide +kernel
theorem dX11_bitsOf_15 : decode cX11_bitsOf 15 = .ok (.iand, 1) := by decide +kernel
theorem dX11_bitsOf_16 : decode cX11_bitsOf 16 = .ok (.istore_n 2, 1) := by decide +kernel
theorem dX11_bitsOf_17 : decode cX11_bitsOf 17 = .ok (.goto (-13), 3) := by decide +kernel
theorem dX11_bitsOf_20 : decode cX11_bitsOf 20 = .ok (.iload_n 1, 1) := by decide +kernel
theorem dX11_bitsOf_21 : decode cX11_bitsOf 21 = .ok (.ireturn, 1) := by decide +kernel
theorem wd_1665 : (Cond.code ⟨"WebCourtModel", "bitsOf", "(I)I"⟩ prog_13_method_43_code (3 : Nat) (Option.some FieldType.int)) ∈ gtb := gtb_c7 116 (by decide +kernel) rfl
set_option maxHeartbeats 4000000 in
set_option maxRecDepth 100000 in
theorem T_X11_bitsOf_8 (l : Launch) (D : va_G) (cy : Nat → ClassId) (a : Nat → Nat) (u : St) (hJ : MI a u) (x1 : Int32) (hx_x1 : 0 ≤ x1.toInt ∧ x1.toInt ≤ 255) : Mi l D cy (mW cy a) yX11_bitsOf (.code yX11_bitsOf cX11_bitsOf 3 (some .int)) (rmo 0 0) [.int x1] u (fun (r : Int32) (u' : St) => (r.toInt = (x1.toInt % 2 + x1.toInt / 2 % 2 + x1.toInt / 4 % 2 + x1.toInt / 8 % 2 + x1.toInt / 16 % 2 + x1.toInt / 32 % 2 + x1.toInt / 64 % 2 + x1.toInt / 128 % 2)) ∧ (u' = u)) := by
  refine Mi.of (own := RX11) rfl (by decide) (Nat.le_of_ble_eq_true rfl) ?_
  have hT : Km0 u u := Km0.rf
  have hJ0 := hJ
  intro p e s m below meth c A Q ls C hret hO hl
  obtain ⟨hx, hb, hml, hown, ht, hK, hA⟩ := id C
  have hl : lv_has ls 3 [(0, .int x1)] := hl
  refine lv_iconst (v := 0) hx hb dX11_bitsOf_0 (by decide) ?_
  refine lv_istore_n (lv' := [(1, .int 0), (0, .int x1)]) hx hb dX11_bitsOf_1 rfl hl (by decide) rfl (fun ls hl => ?_)
  refine lv_iload_n hx hb dX11_bitsOf_2 rfl (lv_at hl 1 rfl) ?_
  refine lv_istore_n (lv' := [(2, .int x1), (1, .int 0), (0, .int x1)]) hx hb dX11_bitsOf_3 rfl hl (by decide) rfl (fun ls hl => ?_)
  have LP_4_k1 : ∀ (n : Nat) (H : Heap) (locs : List Loc) (ls : Array Slot) (k_k1 : Int32) (n_k1 : Int32), Wo D A (mW cy a u) s.heap H locs → lv_has ls 3 [(2, .int k_k1), (1, .int n_k1), (0, .int x1)] → n_k1.toInt + (k_k1.toInt % 2 + k_k1.toInt / 2 % 2 + k_k1.toInt / 4 % 2 + k_k1.toInt / 8 % 2 + k_k1.toInt / 16 % 2 + k_k1.toInt / 32 % 2 + k_k1.toInt / 64 % 2 + k_k1.toInt / 128 % 2) = (x1.toInt % 2 + x1.toInt / 2 % 2 + x1.toInt / 4 % 2 + x1.toInt / 8 % 2 + x1.toInt / 16 % 2 + x1.toInt / 32 % 2 + x1.toInt / 64 % 2 + x1.toInt / 128 % 2) → 0 ≤ k_k1.toInt ∧ k_k1.toInt ≤ 255 → 0 ≤ n_k1.toInt ∧ n_k1.toInt ≤ 8 → k_k1.toInt < (n : Int) → W p l e (rmo 0 0) s m [.int x1].toArray below meth c H locs 0 0 Q (F0 m 4 ls []) := by
    intro n
    induction n with
    | zero =>
      intro H locs ls k_k1 n_k1 hO hl iv0_k1 iv1_k1 iv2_k1 hm_k1
      exact absurd hm_k1 (by omega)
    | succ n ih_k1 =>
      intro H locs ls k_k1 n_k1 hO hl iv0_k1 iv1_k1 iv2_k1 hm_k1
      refine lv_iload_n hx hb dX11_bitsOf_4 rfl (lv_at hl 0 rfl) ?_
      refine bs_eq (tgt := 20) (X := (k_k1).toInt) hx hb dX11_bitsOf_5 (by decide) rfl (fun c2 => ?_) (fun c2 => ?_)
      · refine lv_iload_n hx hb dX11_bitsOf_20 rfl (lv_at hl 1 rfl) ?_
        refine hret _ _ _ _ _ _ dX11_bitsOf_21 rfl ?_ hO
        exact ⟨(by omega), rfl⟩
      · have e3 : ((n_k1 + 1)).toInt = (n_k1).toInt + 1 := i_add rfl rfl (by omega)
        refine lv_iinc (v := (n_k1 + 1)) (lv' := [(1, .int (n_k1 + 1)), (2, .int k_k1), (0, .int x1)]) hx hb dX11_bitsOf_8 hl (k := 1) rfl rfl (by decide) rfl (fun ls hl => ?_)
        refine lv_iload_n hx hb dX11_bitsOf_11 rfl (lv_at hl 1 rfl) ?_
        refine lv_iload_n hx hb dX11_bitsOf_12 rfl (lv_at hl 1 rfl) ?_
        refine lv_iconst (v := 1) hx hb dX11_bitsOf_13 (by decide) ?_
        have e4 : ((k_k1 - 1)).toInt = (k_k1).toInt - 1 := i_sub rfl rfl (by omega)
        refine lv_isub hx hb dX11_bitsOf_14 ?_
        refine lv_iand hx hb dX11_bitsOf_15 ?_
        refine lv_topi (fun z5 ez5 => ?_)
        have g6 : 0 ≤ z5.toInt ∧ z5.toInt ≤ (k_k1).toInt := by rw [ez5]; exact i_andl rfl (by omega)
        have h7 := i_pc ez5 (by omega) (by omega)
        refine lv_istore_n (lv' := [(2, .int z5), (1, .int (n_k1 + 1)), (0, .int x1)]) hx hb dX11_bitsOf_16 rfl hl (by decide) rfl (fun ls hl => ?_)
        refine lv_goto (tgt := 4) hx hb dX11_bitsOf_17 (by decide) ?_
        exact ih_k1 _ _ _ (z5) ((n_k1 + 1)) hO (lv_sub hl [0, 1, 2] rfl) (by first | decide | omega) (by first | decide | omega) (by first | decide | omega) (by first | decide | omega)
  exact LP_4_k1 4000 _ _ _ (x1) (0) hO (lv_sub hl [0, 1, 2] rfl) (by first | decide | omega) (by first | decide | omega) (by first | decide | omega) (by first | decide | omega)
set_option maxHeartbeats 4000000 in
set_option maxRecDepth 100000 in
theorem T_X11_bitsOf (l : Launch) (D : va_G) (cy : Nat → ClassId) (a : Nat → Nat) (u : St) (hJ : MI a u) (x1 : Int32)  : Mi l D cy (mW cy a) yX11_bitsOf (.code yX11_bitsOf cX11_bitsOf 3 (some .int)) (rmo 0 0) [.int x1] u (fun (r : Int32) (u' : St) => u' = u) := by
  refine Mi.of (own := RX11) rfl (by decide) (Nat.le_of_ble_eq_true rfl) ?_
  have hT : Km0 u u := Km0.rf
  have hJ0 := hJ
  intro p e s m below meth c A Q ls C hret hO hl
  obtain ⟨hx, hb, hml, hown, ht, hK, hA⟩ := id C
  have hl : lv_has ls 3 [(0, .int x1)] := hl
  refine lv_iconst (v := 0) hx hb dX11_bitsOf_0 (by decide) ?_
  refine lv_istore_n (lv' := [(1, .int 0), (0, .int x1)]) hx hb dX11_bitsOf_1 rfl hl (by decide) rfl (fun ls hl => ?_)
  refine lv_iload_n hx hb dX11_bitsOf_2 rfl (lv_at hl 1 rfl) ?_
  refine lv_istore_n (lv' := [(2, .int x1), (1, .int 0), (0, .int x1)]) hx hb dX11_bitsOf_3 rfl hl (by decide) rfl (fun ls hl => ?_)
  have LP_4_k1 : ∀ (n : Nat) (H : Heap) (locs : List Loc) (ls : Array Slot) (k_k1 : Int32) (n_k1 : Int32), Wo D A (mW cy a u) s.heap H locs → lv_has ls 3 [(2, .int k_k1), (1, .int n_k1), (0, .int x1)] → ((k_k1).toBitVec.toNat : Int) < (n : Int) → W p l e (rmo 0 0) s m [.int x1].toArray below meth c H locs 0 0 Q (F0 m 4 ls []) := by
    intro n
    induction n with
    | zero =>
      intro H locs ls k_k1 n_k1 hO hl hm_k1
      exact absurd hm_k1 (by omega)
    | succ n ih_k1 =>
      intro H locs ls k_k1 n_k1 hO hl hm_k1
      refine lv_iload_n hx hb dX11_bitsOf_4 rfl (lv_at hl 0 rfl) ?_
      refine bs_eq (tgt := 20) (X := (k_k1).toInt) hx hb dX11_bitsOf_5 (by decide) rfl (fun c2 => ?_) (fun c2 => ?_)
      · refine lv_iload_n hx hb dX11_bitsOf_20 rfl (lv_at hl 1 rfl) ?_
        refine hret _ _ _ _ _ _ dX11_bitsOf_21 rfl ?_ hO
        exact rfl
      · refine lv_iinc (v := (n_k1 + 1)) (lv' := [(1, .int (n_k1 + 1)), (2, .int k_k1), (0, .int x1)]) hx hb dX11_bitsOf_8 hl (k := 1) rfl rfl (by decide) rfl (fun ls hl => ?_)
        refine lv_iload_n hx hb dX11_bitsOf_11 rfl (lv_at hl 1 rfl) ?_
        refine lv_iload_n hx hb dX11_bitsOf_12 rfl (lv_at hl 1 rfl) ?_
        refine lv_iconst (v := 1) hx hb dX11_bitsOf_13 (by decide) ?_
        refine lv_isub hx hb dX11_bitsOf_14 ?_
        refine lv_iand hx hb dX11_bitsOf_15 ?_
        refine lv_topi (fun z3 ez3 => ?_)
        refine lv_istore_n (lv' := [(2, .int z3), (1, .int (n_k1 + 1)), (0, .int x1)]) hx hb dX11_bitsOf_16 rfl hl (by decide) rfl (fun ls hl => ?_)
        refine lv_goto (tgt := 4) hx hb dX11_bitsOf_17 (by decide) ?_
        exact ih_k1 _ _ _ (z3) ((n_k1 + 1)) hO (lv_sub hl [0, 1, 2] rfl) (by have h := i_dec ez3 (by omega); omega)
  exact LP_4_k1 4294967296 _ _ _ (x1) (0) hO (lv_sub hl [0, 1, 2] rfl) (by have h := (x1 : Int32).toBitVec.isLt; omega)
theorem dX11_divisor_0 : decode cX11_divisor 0 = .ok (.iload_n 0, 1) := by decide +kernel
theorem dX11_divisor_1 : decode cX11_divisor 1 = .ok (.istore_n 2, 1) := by decide +kernel
theorem dX11_divisor_2 : decode cX11_divisor 2 = .ok (.iload_n 1, 1) := by decide +kernel
theorem dX11_divisor_3 : decode cX11_divisor 3 = .ok (.istore_n 3, 1) := by decide +kernel
theorem dX11_divisor_4 : decode cX11_divisor 4 = .ok (.iload_n 3, 1) := by decide +kernel
theorem dX11_divisor_5 : decode cX11_divisor 5 = .ok (.ifCond .le 16, 3) := by decide +kernel
theorem dX11_divisor_8 : decode cX11_divisor 8 = .ok (.iload_n 2, 1) := by decide +kernel
theorem dX11_divisor_9 : decode cX11_divisor 9 = .ok (.iload_n 3, 1) := by decide +kernel
theorem dX11_divisor_10 : decode cX11_divisor 10 = .ok (.irem, 1) := by decide +kernel
theorem dX11_divisor_11 : decode cX11_divisor 11 = .ok (.istore 4, 2) := by decide +kernel
theorem dX11_divisor_13 : decode cX11_divisor 13 = .ok (.iload_n 3, 1) := by decide +kernel
theorem dX11_divisor_14 : decode cX11_divisor 14 = .ok (.istore_n 2, 1) := by decide +kernel
theorem dX11_divisor_15 : decode cX11_divisor 15 = .ok (.iload 4, 2) := by decide +kernel
theorem dX11_divisor_17 : decode cX11_divisor 17 = .ok (.istore_n 3, 1) := by decide +kernel
theorem dX11_divisor_18 : decode cX11_divisor 18 = .ok (.goto (-14), 3) := by decide +kernel
theorem dX11_divisor_21 : decode cX11_divisor 21 = .ok (.iload_n 2, 1) := by decide +kernel
theorem dX11_divisor_22 : decode cX11_divisor 22 = .ok (.ireturn, 1) := by decide +kernel
theorem wd_1977 : (Cond.code ⟨"WebCourtModel", "divisor", "(II)I"⟩ prog_13_method_44_code (5 : Nat) (Option.some FieldType.int)) ∈ gtb := gtb_c8 188 (by decide +kernel) rfl
set_option maxHeartbeats 4000000 in
set_option maxRecDepth 100000 in
theorem T_X11_divisor (l : Launch) (D : va_G) (cy : Nat → ClassId) (a : Nat → Nat) (u : St) (hJ : MI a u) (x1 : Int32) (x2 : Int32) (hx_x1 : 1 ≤ x1.toInt ∧ x1.toInt ≤ 2147483647) : Mi l D cy (mW cy a) yX11_divisor (.code yX11_divisor cX11_divisor 5 (some .int)) (rmo 0 0) [.int x1, .int x2] u (fun (r : Int32) (u' : St) => (1 ≤ r.toInt ∧ r.toInt ≤ 2147483647) ∧ (u' = u)) := by
  refine Mi.of (own := RX11) rfl (by decide) (Nat.le_of_ble_eq_true rfl) ?_
  have hT : Km0 u u := Km0.rf
  have hJ0 := hJ
  intro p e s m below meth c A Q ls C hret hO hl
  obtain ⟨hx, hb, hml, hown, ht, hK, hA⟩ := id C
  have hl : lv_has ls 5 [(0, .int x1), (1, .int x2)] := hl
  refine lv_iload_n hx hb dX11_divisor_0 rfl (lv_at hl 0 rfl) ?_
  refine lv_istore_n (lv' := [(2, .int x1), (0, .int x1), (1, .int x2)]) hx hb dX11_divisor_1 rfl hl (by decide) rfl (fun ls hl => ?_)
  refine lv_iload_n hx hb dX11_divisor_2 rfl (lv_at hl 2 rfl) ?_
  refine lv_istore_n (lv' := [(3, .int x2), (2, .int x1), (0, .int x1), (1, .int x2)]) hx hb dX11_divisor_3 rfl hl (by decide) rfl (fun ls hl => ?_)
  have LP_4_k1 : ∀ (n : Nat) (H : Heap) (locs : List Loc) (ls : Array Slot) (y_k1 : Int32) (x_k1 : Int32), Wo D A (mW cy a u) s.heap H locs → lv_has ls 5 [(3, .int y_k1), (2, .int x_k1), (0, .int x1), (1, .int x2)] → (-2147483648) ≤ y_k1.toInt ∧ y_k1.toInt ≤ 2147483647 → 1 ≤ x_k1.toInt ∧ x_k1.toInt ≤ 2147483647 → y_k1.toInt + 2147483648 < (n : Int) → W p l e (rmo 0 0) s m [.int x1, .int x2].toArray below meth c H locs 0 0 Q (F0 m 4 ls []) := by
    intro n
    induction n with
    | zero =>
      intro H locs ls y_k1 x_k1 hO hl iv0_k1 iv1_k1 hm_k1
      exact absurd hm_k1 (by omega)
    | succ n ih_k1 =>
      intro H locs ls y_k1 x_k1 hO hl iv0_k1 iv1_k1 hm_k1
      refine lv_iload_n hx hb dX11_divisor_4 rfl (lv_at hl 0 rfl) ?_
      refine bs_le (tgt := 21) (X := (y_k1).toInt) hx hb dX11_divisor_5 (by decide) rfl (fun c2 => ?_) (fun c2 => ?_)
      · refine lv_iload_n hx hb dX11_divisor_21 rfl (lv_at hl 1 rfl) ?_
        refine hret _ _ _ _ _ _ dX11_divisor_22 rfl ?_ hO
        exact ⟨(by first | decide | omega), rfl⟩
      · refine lv_iload_n hx hb dX11_divisor_8 rfl (lv_at hl 1 rfl) ?_
        refine lv_iload_n hx hb dX11_divisor_9 rfl (lv_at hl 0 rfl) ?_
        refine lv_irem hx hb dX11_divisor_10 (i_ne0 (X := (y_k1).toInt) rfl (by omega)) ?_
        refine lv_topi (fun z3 ez3 => ?_)
        refine lv_istore (lv' := [(4, .int z3), (3, .int y_k1), (2, .int x_k1), (0, .int x1), (1, .int x2)]) hx hb dX11_divisor_11 hl (by decide) rfl (fun ls hl => ?_)
        refine lv_iload_n hx hb dX11_divisor_13 rfl (lv_at hl 1 rfl) ?_
        refine lv_istore_n (lv' := [(2, .int y_k1), (4, .int z3), (3, .int y_k1), (0, .int x1), (1, .int x2)]) hx hb dX11_divisor_14 rfl hl (by decide) rfl (fun ls hl => ?_)
        refine lv_iload hx hb dX11_divisor_15 (lv_at hl 1 rfl) ?_
        refine lv_istore_n (lv' := [(3, .int z3), (2, .int y_k1), (4, .int z3), (0, .int x1), (1, .int x2)]) hx hb dX11_divisor_17 rfl hl (by decide) rfl (fun ls hl => ?_)
        refine lv_goto (tgt := 4) hx hb dX11_divisor_18 (by decide) ?_
        exact ih_k1 _ _ _ (z3) (y_k1) hO (lv_sub hl [0, 1, 3, 4] rfl) (by first | decide | omega) (by first | decide | omega) (by first | decide | omega)
  exact LP_4_k1 4294967296 _ _ _ (x2) (x1) hO (lv_sub hl [0, 1, 2, 3] rfl) (by first | decide | omega) (by first | decide | omega) (by first | decide | omega)
theorem dX11_power_0 : decode cX11_power 0 = .ok (.iconst 1, 1) := by decide +kernel
theorem dX11_power_1 : decode cX11_power 1 = .ok (.istore_n 2, 1) := by decide +kernel
theorem dX11_power_2 : decode cX11_power 2 = .ok (.iconst 0, 1) := by decide +kernel
theorem dX11_power_3 : decode cX11_power 3 = .ok (.istore_n 3, 1) := by decide +kernel
theorem dX11_power_4 : decode cX11_power 4 = .ok (.iload_n 3, 1) := by decide +kernel
theorem dX11_power_5 : decode cX11_power 5 = .ok (.iload_n 1, 1) := by decide +kernel
theorem dX11_power_6 : decode cX11_power 6 = .ok (.if_icmp .ge 13, 3) := by decide +kernel
theorem dX11_power_9 : decode cX11_power 9 = .ok (.iload_n 2, 1) := by decide +kernel
theorem dX11_power_10 : decode cX11_power 10 = .ok (.iload_n 0, 1) := by decide +kernel
theorem dX11_power_11 : decode cX11_power 11 = .ok (.imul, 1) := by decide +kernel
theorem dX11_power_12 : decode cX11_power 12 = .ok (.istore_n 2, 1) := by decide +kernel
theorem dX11_power_13 : decode cX11_power 13 = .ok (.iinc 3 1, 3) := by decide +kernel
theorem dX11_power_16 : decode cX11_power 16 = .ok (.goto (-12), 3) := by decide +kernel
theorem dX11_power_19 : decode cX11_power 19 = .ok (.iload_n 2, 1) := by decide +kernel
theorem dX11_power_20 : decode cX11_power 20 = .ok (.ireturn, 1) := by decide +kernel
theorem wd_1958 : (Cond.code ⟨"WebCourtModel", "power", "(II)I"⟩ prog_13_method_45_code (4 : Nat) (Option.some FieldType.int)) ∈ gtb := gtb_c8 169 (by decide +kernel) rfl
set_option maxHeartbeats 4000000 in
set_option maxRecDepth 100000 in
theorem T_X11_power_6 (l : Launch) (D : va_G) (cy : Nat → ClassId) (a : Nat → Nat) (u : St) (hJ : MI a u) (x1 : Int32) (x2 : Int32) (hx_x1 : 1 ≤ x1.toInt ∧ x1.toInt ≤ 6) (hx_x2 : 0 ≤ x2.toInt ∧ x2.toInt ≤ 6) : Mi l D cy (mW cy a) yX11_power (.code yX11_power cX11_power 4 (some .int)) (rmo 0 0) [.int x1, .int x2] u (fun (r : Int32) (u' : St) => (1 ≤ r.toInt ∧ r.toInt ≤ 46656) ∧ (u' = u)) := by
  refine Mi.of (own := RX11) rfl (by decide) (Nat.le_of_ble_eq_true rfl) ?_
  have hT : Km0 u u := Km0.rf
  have hJ0 := hJ
  intro p e s m below meth c A Q ls C hret hO hl
  obtain ⟨hx, hb, hml, hown, ht, hK, hA⟩ := id C
  have hl : lv_has ls 4 [(0, .int x1), (1, .int x2)] := hl
  have c1 : (x1).toInt = 1 ∨ (x1).toInt = 2 ∨ (x1).toInt = 3 ∨ (x1).toInt = 4 ∨ (x1).toInt = 5 ∨ (x1).toInt = 6 := by omega
  rcases c1 with c1 | c1 | c1 | c1 | c1 | c1
  · have ec1 : x1 = 1 := i32_eq.mpr (by rw [c1]; rfl)
    subst ec1
    refine lv_iconst (v := 1) hx hb dX11_power_0 (by decide) ?_
    refine lv_istore_n (lv' := [(2, .int 1), (0, .int 1), (1, .int x2)]) hx hb dX11_power_1 rfl hl (by decide) rfl (fun ls hl => ?_)
    refine lv_iconst (v := 0) hx hb dX11_power_2 (by decide) ?_
    refine lv_istore_n (lv' := [(3, .int 0), (2, .int 1), (0, .int 1), (1, .int x2)]) hx hb dX11_power_3 rfl hl (by decide) rfl (fun ls hl => ?_)
    have LP_4_k2 : ∀ (n : Nat) (H : Heap) (locs : List Loc) (ls : Array Slot) (k_k2 : Int32) (v_k2 : Int32), Wo D A (mW cy a u) s.heap H locs → lv_has ls 4 [(3, .int k_k2), (2, .int v_k2), (0, .int 1), (1, .int x2)] → ((k_k2.toInt = 0 ∧ 1 ≤ v_k2.toInt ∧ v_k2.toInt ≤ 1) ∨ (k_k2.toInt = 1 ∧ 1 ≤ v_k2.toInt ∧ v_k2.toInt ≤ 6) ∨ (k_k2.toInt = 2 ∧ 1 ≤ v_k2.toInt ∧ v_k2.toInt ≤ 36) ∨ (k_k2.toInt = 3 ∧ 1 ≤ v_k2.toInt ∧ v_k2.toInt ≤ 216) ∨ (k_k2.toInt = 4 ∧ 1 ≤ v_k2.toInt ∧ v_k2.toInt ≤ 1296) ∨ (k_k2.toInt = 5 ∧ 1 ≤ v_k2.toInt ∧ v_k2.toInt ≤ 7776) ∨ (k_k2.toInt = 6 ∧ 1 ≤ v_k2.toInt ∧ v_k2.toInt ≤ 46656)) → 0 ≤ k_k2.toInt ∧ k_k2.toInt ≤ 6 → 1 ≤ v_k2.toInt ∧ v_k2.toInt ≤ 46656 → 6 - k_k2.toInt < (n : Int) → W p l e (rmo 0 0) s m [.int x1, .int x2].toArray below meth c H locs 0 0 Q (F0 m 4 ls []) := by
      intro n
      induction n with
      | zero =>
        intro H locs ls k_k2 v_k2 hO hl iv0_k2 iv1_k2 iv2_k2 hm_k2
        exact absurd hm_k2 (by omega)
      | succ n ih_k2 =>
        intro H locs ls k_k2 v_k2 hO hl iv0_k2 iv1_k2 iv2_k2 hm_k2
        refine lv_iload_n hx hb dX11_power_4 rfl (lv_at hl 0 rfl) ?_
        refine lv_iload_n hx hb dX11_power_5 rfl (lv_at hl 3 rfl) ?_
        refine cs_ge (tgt := 19) (X := (k_k2).toInt) (Y := (x2).toInt) hx hb dX11_power_6 (by decide) rfl rfl (fun c3 => ?_) (fun c3 => ?_)
        · refine lv_iload_n hx hb dX11_power_19 rfl (lv_at hl 1 rfl) ?_
          refine hret _ _ _ _ _ _ dX11_power_20 rfl ?_ hO
          exact ⟨(by first | decide | omega), rfl⟩
        · refine lv_iload_n hx hb dX11_power_9 rfl (lv_at hl 1 rfl) ?_
          refine lv_iload_n hx hb dX11_power_10 rfl (lv_at hl 2 rfl) ?_
          have e4 : ((v_k2 * 1)).toInt = (v_k2).toInt * 1 := i_mul rfl rfl (by omega)
          refine lv_imul hx hb dX11_power_11 ?_
          refine lv_istore_n (lv' := [(2, .int (v_k2 * 1)), (3, .int k_k2), (0, .int 1), (1, .int x2)]) hx hb dX11_power_12 rfl hl (by decide) rfl (fun ls hl => ?_)
          have e5 : ((k_k2 + 1)).toInt = (k_k2).toInt + 1 := i_add rfl rfl (by omega)
          refine lv_iinc (v := (k_k2 + 1)) (lv' := [(3, .int (k_k2 + 1)), (2, .int (v_k2 * 1)), (0, .int 1), (1, .int x2)]) hx hb dX11_power_13 hl (k := 1) rfl rfl (by decide) rfl (fun ls hl => ?_)
          refine lv_goto (tgt := 4) hx hb dX11_power_16 (by decide) ?_
          exact ih_k2 _ _ _ ((k_k2 + 1)) ((v_k2 * 1)) hO (lv_sub hl [0, 1, 2, 3] rfl) (by first | decide | omega) (by first | decide | omega) (by first | decide | omega) (by first | decide | omega)
    exact LP_4_k2 4000 _ _ _ (0) (1) hO (lv_sub hl [0, 1, 2, 3] rfl) (by first | decide | omega) (by first | decide | omega) (by first | decide | omega) (by first | decide | omega)
  · have ec1 : x1 = 2 := i32_eq.mpr (by rw [c1]; rfl)
    subst ec1
    refine lv_iconst (v := 1) hx hb dX11_power_0 (by decide) ?_
    refine lv_istore_n (lv' := [(2, .int 1), (0, .int 2), (1, .int x2)]) hx hb dX11_power_1 rfl hl (by decide) rfl (fun ls hl => ?_)
    refine lv_iconst (v := 0) hx hb dX11_power_2 (by decide) ?_
    refine lv_istore_n (lv' := [(3, .int 0), (2, .int 1), (0, .int 2), (1, .int x2)]) hx hb dX11_power_3 rfl hl (by decide) rfl (fun ls hl => ?_)
    have LP_4_k6 : ∀ (n : Nat) (H : Heap) (locs : List Loc) (ls : Array Slot) (k_k6 : Int32) (v_k6 : Int32), Wo D A (mW cy a u) s.heap H locs → lv_has ls 4 [(3, .int k_k6), (2, .int v_k6), (0, .int 2), (1, .int x2)] → ((k_k6.toInt = 0 ∧ 1 ≤ v_k6.toInt ∧ v_k6.toInt ≤ 1) ∨ (k_k6.toInt = 1 ∧ 1 ≤ v_k6.toInt ∧ v_k6.toInt ≤ 6) ∨ (k_k6.toInt = 2 ∧ 1 ≤ v_k6.toInt ∧ v_k6.toInt ≤ 36) ∨ (k_k6.toInt = 3 ∧ 1 ≤ v_k6.toInt ∧ v_k6.toInt ≤ 216) ∨ (k_k6.toInt = 4 ∧ 1 ≤ v_k6.toInt ∧ v_k6.toInt ≤ 1296) ∨ (k_k6.toInt = 5 ∧ 1 ≤ v_k6.toInt ∧ v_k6.toInt ≤ 7776) ∨ (k_k6.toInt = 6 ∧ 1 ≤ v_k6.toInt ∧ v_k6.toInt ≤ 46656)) → 0 ≤ k_k6.toInt ∧ k_k6.toInt ≤ 6 → 1 ≤ v_k6.toInt ∧ v_k6.toInt ≤ 46656 → 6 - k_k6.toInt < (n : Int) → W p l e (rmo 0 0) s m [.int x1, .int x2].toArray below meth c H locs 0 0 Q (F0 m 4 ls []) := by
      intro n
      induction n with
      | zero =>
        intro H locs ls k_k6 v_k6 hO hl iv0_k6 iv1_k6 iv2_k6 hm_k6
        exact absurd hm_k6 (by omega)
      | succ n ih_k6 =>
        intro H locs ls k_k6 v_k6 hO hl iv0_k6 iv1_k6 iv2_k6 hm_k6
        refine lv_iload_n hx hb dX11_power_4 rfl (lv_at hl 0 rfl) ?_
        refine lv_iload_n hx hb dX11_power_5 rfl (lv_at hl 3 rfl) ?_
        refine cs_ge (tgt := 19) (X := (k_k6).toInt) (Y := (x2).toInt) hx hb dX11_power_6 (by decide) rfl rfl (fun c7 => ?_) (fun c7 => ?_)
        · refine lv_iload_n hx hb dX11_power_19 rfl (lv_at hl 1 rfl) ?_
          refine hret _ _ _ _ _ _ dX11_power_20 rfl ?_ hO
          exact ⟨(by first | decide | omega), rfl⟩
        · refine lv_iload_n hx hb dX11_power_9 rfl (lv_at hl 1 rfl) ?_
          refine lv_iload_n hx hb dX11_power_10 rfl (lv_at hl 2 rfl) ?_
          have e8 : ((v_k6 * 2)).toInt = (v_k6).toInt * 2 := i_mul rfl rfl (by omega)
          refine lv_imul hx hb dX11_power_11 ?_
          refine lv_istore_n (lv' := [(2, .int (v_k6 * 2)), (3, .int k_k6), (0, .int 2), (1, .int x2)]) hx hb dX11_power_12 rfl hl (by decide) rfl (fun ls hl => ?_)
          have e9 : ((k_k6 + 1)).toInt = (k_k6).toInt + 1 := i_add rfl rfl (by omega)
          refine lv_iinc (v := (k_k6 + 1)) (lv' := [(3, .int (k_k6 + 1)), (2, .int (v_k6 * 2)), (0, .int 2), (1, .int x2)]) hx hb dX11_power_13 hl (k := 1) rfl rfl (by decide) rfl (fun ls hl => ?_)
          refine lv_goto (tgt := 4) hx hb dX11_power_16 (by decide) ?_
          exact ih_k6 _ _ _ ((k_k6 + 1)) ((v_k6 * 2)) hO (lv_sub hl [0, 1, 2, 3] rfl) (by first | decide | omega) (by first | decide | omega) (by first | decide | omega) (by first | decide | omega)
    exact LP_4_k6 4000 _ _ _ (0) (1) hO (lv_sub hl [0, 1, 2, 3] rfl) (by first | decide | omega) (by first | decide | omega) (by first | decide | omega) (by first | decide | omega)
  · have ec1 : x1 = 3 := i32_eq.mpr (by rw [c1]; rfl)
    subst ec1
    refine lv_iconst (v := 1) hx hb dX11_power_0 (by decide) ?_
    refine lv_istore_n (lv' := [(2, .int 1), (0, .int 3), (1, .int x2)]) hx hb dX11_power_1 rfl hl (by decide) rfl (fun ls hl => ?_)
    refine lv_iconst (v := 0) hx hb dX11_power_2 (by decide) ?_
    refine lv_istore_n (lv' := [(3, .int 0), (2, .int 1), (0, .int 3), (1, .int x2)]) hx hb dX11_power_3 rfl hl (by decide) rfl (fun ls hl => ?_)
    have LP_4_k10 : ∀ (n : Nat) (H : Heap) (locs : List Loc) (ls : Array Slot) (k_k10 : Int32) (v_k10 : Int32), Wo D A (mW cy a u) s.heap H locs → lv_has ls 4 [(3, .int k_k10), (2, .int v_k10), (0, .int 3), (1, .int x2)] → ((k_k10.toInt = 0 ∧ 1 ≤ v_k10.toInt ∧ v_k10.toInt ≤ 1) ∨ (k_k10.toInt = 1 ∧ 1 ≤ v_k10.toInt ∧ v_k10.toInt ≤ 6) ∨ (k_k10.toInt = 2 ∧ 1 ≤ v_k10.toInt ∧ v_k10.toInt ≤ 36) ∨ (k_k10.toInt = 3 ∧ 1 ≤ v_k10.toInt ∧ v_k10.toInt ≤ 216) ∨ (k_k10.toInt = 4 ∧ 1 ≤ v_k10.toInt ∧ v_k10.toInt ≤ 1296) ∨ (k_k10.toInt = 5 ∧ 1 ≤ v_k10.toInt ∧ v_k10.toInt ≤ 7776) ∨ (k_k10.toInt = 6 ∧ 1 ≤ v_k10.toInt ∧ v_k10.toInt ≤ 46656)) → 0 ≤ k_k10.toInt ∧ k_k10.toInt ≤ 6 → 1 ≤ v_k10.toInt ∧ v_k10.toInt ≤ 46656 → 6 - k_k10.toInt < (n : Int) → W p l e (rmo 0 0) s m [.int x1, .int x2].toArray below meth c H locs 0 0 Q (F0 m 4 ls []) := by
      intro n
      induction n with
      | zero =>
        intro H locs ls k_k10 v_k10 hO hl iv0_k10 iv1_k10 iv2_k10 hm_k10
        exact absurd hm_k10 (by omega)
      | succ n ih_k10 =>
        intro H locs ls k_k10 v_k10 hO hl iv0_k10 iv1_k10 iv2_k10 hm_k10
        refine lv_iload_n hx hb dX11_power_4 rfl (lv_at hl 0 rfl) ?_
        refine lv_iload_n hx hb dX11_power_5 rfl (lv_at hl 3 rfl) ?_
        refine cs_ge (tgt := 19) (X := (k_k10).toInt) (Y := (x2).toInt) hx hb dX11_power_6 (by decide) rfl rfl (fun c11 => ?_) (fun c11 => ?_)
        · refine lv_iload_n hx hb dX11_power_19 rfl (lv_at hl 1 rfl) ?_
          refine hret _ _ _ _ _ _ dX11_power_20 rfl ?_ hO
          exact ⟨(by first | decide | omega), rfl⟩
        · refine lv_iload_n hx hb dX11_power_9 rfl (lv_at hl 1 rfl) ?_
          refine lv_iload_n hx hb dX11_power_10 rfl (lv_at hl 2 rfl) ?_
          have e12 : ((v_k10 * 3)).toInt = (v_k10).toInt * 3 := i_mul rfl rfl (by omega)
          refine lv_imul hx hb dX11_power_11 ?_
          refine lv_istore_n (lv' := [(2, .int (v_k10 * 3)), (3, .int k_k10), (0, .int 3), (1, .int x2)]) hx hb dX11_power_12 rfl hl (by decide) rfl (fun ls hl => ?_)
          have e13 : ((k_k10 + 1)).toInt = (k_k10).toInt + 1 := i_add rfl rfl (by omega)
          refine lv_iinc (v := (k_k10 + 1)) (lv' := [(3, .int (k_k10 + 1)), (2, .int (v_k10 * 3)), (0, .int 3), (1, .int x2)]) hx hb dX11_power_13 hl (k := 1) rfl rfl (by decide) rfl (fun ls hl => ?_)
          refine lv_goto (tgt := 4) hx hb dX11_power_16 (by decide) ?_
          exact ih_k10 _ _ _ ((k_k10 + 1)) ((v_k10 * 3)) hO (lv_sub hl [0, 1, 2, 3] rfl) (by first | decide | omega) (by first | decide | omega) (by first | decide | omega) (by first | decide | omega)
    exact LP_4_k10 4000 _ _ _ (0) (1) hO (lv_sub hl [0, 1, 2, 3] rfl) (by first | decide | omega) (by first | decide | omega) (by first | decide | omega) (by first | decide | omega)
  · have ec1 : x1 = 4 := i32_eq.mpr (by rw [c1]; rfl)
    subst ec1
    refine lv_iconst (v := 1) hx hb dX11_power_0 (by decide) ?_
    refine lv_istore_n (lv' := [(2, .int 1), (0, .int 4), (1, .int x2)]) hx hb dX11_power_1 rfl hl (by decide) rfl (fun ls hl => ?_)
    refine lv_iconst (v := 0) hx hb dX11_power_2 (by decide) ?_
    refine lv_istore_n (lv' := [(3, .int 0), (2, .int 1), (0, .int 4), (1, .int x2)]) hx hb dX11_power_3 rfl hl (by decide) rfl (fun ls hl => ?_)
    have LP_4_k14 : ∀ (n : Nat) (H : Heap) (locs : List Loc) (ls : Array Slot) (k_k14 : Int32) (v_k14 : Int32), Wo D A (mW cy a u) s.heap H locs → lv_has ls 4 [(3, .int k_k14), (2, .int v_k14), (0, .int 4), (1, .int x2)] → ((k_k14.toInt = 0 ∧ 1 ≤ v_k14.toInt ∧ v_k14.toInt ≤ 1) ∨ (k_k14.toInt = 1 ∧ 1 ≤ v_k14.toInt ∧ v_k14.toInt ≤ 6) ∨ (k_k14.toInt = 2 ∧ 1 ≤ v_k14.toInt ∧ v_k14.toInt ≤ 36) ∨ (k_k14.toInt = 3 ∧ 1 ≤ v_k14.toInt ∧ v_k14.toInt ≤ 216) ∨ (k_k14.toInt = 4 ∧ 1 ≤ v_k14.toInt ∧ v_k14.toInt ≤ 1296) ∨ (k_k14.toInt = 5 ∧ 1 ≤ v_k14.toInt ∧ v_k14.toInt ≤ 7776) ∨ (k_k14.toInt = 6 ∧ 1 ≤ v_k14.toInt ∧ v_k14.toInt ≤ 46656)) → 0 ≤ k_k14.toInt ∧ k_k14.toInt ≤ 6 → 1 ≤ v_k14.toInt ∧ v_k14.toInt ≤ 46656 → 6 - k_k14.toInt < (n : Int) → W p l e (rmo 0 0) s m [.int x1, .int x2].toArray below meth c H locs 0 0 Q (F0 m 4 ls []) := by
      intro n
      induction n with
      | zero =>
        intro H locs ls k_k14 v_k14 hO hl iv0_k14 iv1_k14 iv2_k14 hm_k14
        exact absurd hm_k14 (by omega)
      | succ n ih_k14 =>
        intro H locs ls k_k14 v_k14 hO hl iv0_k14 iv1_k14 iv2_k14 hm_k14
        refine lv_iload_n hx hb dX11_power_4 rfl (lv_at hl 0 rfl) ?_
        refine lv_iload_n hx hb dX11_power_5 rfl (lv_at hl 3 rfl) ?_
        refine cs_ge (tgt := 19) (X := (k_k14).toInt) (Y := (x2).toInt) hx hb dX11_power_6 (by decide) rfl rfl (fun c15 => ?_) (fun c15 => ?_)
        · refine lv_iload_n hx hb dX11_power_19 rfl (lv_at hl 1 rfl) ?_
          refine hret _ _ _ _ _ _ dX11_power_20 rfl ?_ hO
          exact ⟨(by first | decide | omega), rfl⟩
        · refine lv_iload_n hx hb dX11_power_9 rfl (lv_at hl 1 rfl) ?_
          refine lv_iload_n hx hb dX11_power_10 rfl (lv_at hl 2 rfl) ?_
          have e16 : ((v_k14 * 4)).toInt = (v_k14).toInt * 4 := i_mul rfl rfl (by omega)
          refine lv_imul hx hb dX11_power_11 ?_
          refine lv_istore_n (lv' := [(2, .int (v_k14 * 4)), (3, .int k_k14), (0, .int 4), (1, .int x2)]) hx hb dX11_power_12 rfl hl (by decide) rfl (fun ls hl => ?_)
          have e17 : ((k_k14 + 1)).toInt = (k_k14).toInt + 1 := i_add rfl rfl (by omega)
          refine lv_iinc (v := (k_k14 + 1)) (lv' := [(3, .int (k_k14 + 1)), (2, .int (v_k14 * 4)), (0, .int 4), (1, .int x2)]) hx hb dX11_power_13 hl (k := 1) rfl rfl (by decide) rfl (fun ls hl => ?_)
          refine lv_goto (tgt := 4) hx hb dX11_power_16 (by decide) ?_
          exact ih_k14 _ _ _ ((k_k14 + 1)) ((v_k14 * 4)) hO (lv_sub hl [0, 1, 2, 3] rfl) (by first | decide | omega) (by first | decide | omega) (by first | decide | omega) (by first | decide | omega)
    exact LP_4_k14 4000 _ _ _ (0) (1) hO (lv_sub hl [0, 1, 2, 3] rfl) (by first | decide | omega) (by first | decide | omega) (by first | decide | omega) (by first | decide | omega)
  · have ec1 : x1 = 5 := i32_eq.mpr (by rw [c1]; rfl)
    subst ec1
    refine lv_iconst (v := 1) hx hb dX11_power_0 (by decide) ?_
    refine lv_istore_n (lv' := [(2, .int 1), (0, .int 5), (1, .int x2)]) hx hb dX11_power_1 rfl hl (by decide) rfl (fun ls hl => ?_)
    refine lv_iconst (v := 0) hx hb dX11_power_2 (by decide) ?_
    refine lv_istore_n (lv' := [(3, .int 0), (2, .int 1), (0, .int 5), (1, .int x2)]) hx hb dX11_power_3 rfl hl (by decide) rfl (fun ls hl => ?_)
    have LP_4_k18 : ∀ (n : Nat) (H : Heap) (locs : List Loc) (ls : Array Slot) (k_k18 : Int32) (v_k18 : Int32), Wo D A (mW cy a u) s.heap H locs → lv_has ls 4 [(3, .int k_k18), (2, .int v_k18), (0, .int 5), (1, .int x2)] → ((k_k18.toInt = 0 ∧ 1 ≤ v_k18.toInt ∧ v_k18.toInt ≤ 1) ∨ (k_k18.toInt = 1 ∧ 1 ≤ v_k18.toInt ∧ v_k18.toInt ≤ 6) ∨ (k_k18.toInt = 2 ∧ 1 ≤ v_k18.toInt ∧ v_k18.toInt ≤ 36) ∨ (k_k18.toInt = 3 ∧ 1 ≤ v_k18.toInt ∧ v_k18.toInt ≤ 216) ∨ (k_k18.toInt = 4 ∧ 1 ≤ v_k18.toInt ∧ v_k18.toInt ≤ 1296) ∨ (k_k18.toInt = 5 ∧ 1 ≤ v_k18.toInt ∧ v_k18.toInt ≤ 7776) ∨ (k_k18.toInt = 6 ∧ 1 ≤ v_k18.toInt ∧ v_k18.toInt ≤ 46656)) → 0 ≤ k_k18.toInt ∧ k_k18.toInt ≤ 6 → 1 ≤ v_k18.toInt ∧ v_k18.toInt ≤ 46656 → 6 - k_k18.toInt < (n : Int) → W p l e (rmo 0 0) s m [.int x1, .int x2].toArray below meth c H locs 0 0 Q (F0 m 4 ls []) := by
      intro n
      induction n with
      | zero =>
        intro H locs ls k_k18 v_k18 hO hl iv0_k18 iv1_k18 iv2_k18 hm_k18
        exact absurd hm_k18 (by omega)
      | succ n ih_k18 =>
        intro H locs ls k_k18 v_k18 hO hl iv0_k18 iv1_k18 iv2_k18 hm_k18
        refine lv_iload_n hx hb dX11_power_4 rfl (lv_at hl 0 rfl) ?_
        refine lv_iload_n hx hb dX11_power_5 rfl (lv_at hl 3 rfl) ?_
        refine cs_ge (tgt := 19) (X := (k_k18).toInt) (Y := (x2).toInt) hx hb dX11_power_6 (by decide) rfl rfl (fun c19 => ?_) (fun c19 => ?_)
        · refine lv_iload_n hx hb dX11_power_19 rfl (lv_at hl 1 rfl) ?_
          refine hret _ _ _ _ _ _ dX11_power_20 rfl ?_ hO
          exact ⟨(by first | decide | omega), rfl⟩
        · refine lv_iload_n hx hb dX11_power_9 rfl (lv_at hl 1 rfl) ?_
          refine lv_iload_n hx hb dX11_power_10 rfl (lv_at hl 2 rfl) ?_
          have e20 : ((v_k18 * 5)).toInt = (v_k18).toInt * 5 := i_mul rfl rfl (by omega)
          refine lv_imul hx hb dX11_power_11 ?_
          refine lv_istore_n (lv' := [(2, .int (v_k18 * 5)), (3, .int k_k18), (0, .int 5), (1, .int x2)]) hx hb dX11_power_12 rfl hl (by decide) rfl (fun ls hl => ?_)
          have e21 : ((k_k18 + 1)).toInt = (k_k18).toInt + 1 := i_add rfl rfl (by omega)
          refine lv_iinc (v := (k_k18 + 1)) (lv' := [(3, .int (k_k18 + 1)), (2, .int (v_k18 * 5)), (0, .int 5), (1, .int x2)]) hx hb dX11_power_13 hl (k := 1) rfl rfl (by decide) rfl (fun ls hl => ?_)
          refine lv_goto (tgt := 4) hx hb dX11_power_16 (by decide) ?_
          exact ih_k18 _ _ _ ((k_k18 + 1)) ((v_k18 * 5)) hO (lv_sub hl [0, 1, 2, 3] rfl) (by first | decide | omega) (by first | decide | omega) (by first | decide | omega) (by first | decide | omega)
    exact LP_4_k18 4000 _ _ _ (0) (1) hO (lv_sub hl [0, 1, 2, 3] rfl) (by first | decide | omega) (by first | decide | omega) (by first | decide | omega) (by first | decide | omega)
  · have ec1 : x1 = 6 := i32_eq.mpr (by rw [c1]; rfl)
    subst ec1
    refine lv_iconst (v := 1) hx hb dX11_power_0 (by decide) ?_
    refine lv_istore_n (lv' := [(2, .int 1), (0, .int 6), (1, .int x2)]) hx hb dX11_power_1 rfl hl (by decide) rfl (fun ls hl => ?_)
    refine lv_iconst (v := 0) hx hb dX11_power_2 (by decide) ?_
    refine lv_istore_n (lv' := [(3, .int 0), (2, .int 1), (0, .int 6), (1, .int x2)]) hx hb dX11_power_3 rfl hl (by decide) rfl (fun ls hl => ?_)
    have LP_4_k22 : ∀ (n : Nat) (H : Heap) (locs : List Loc) (ls : Array Slot) (k_k22 : Int32) (v_k22 : Int32), Wo D A (mW cy a u) s.heap H locs → lv_has ls 4 [(3, .int k_k22), (2, .int v_k22), (0, .int 6), (1, .int x2)] → ((k_k22.toInt = 0 ∧ 1 ≤ v_k22.toInt ∧ v_k22.toInt ≤ 1) ∨ (k_k22.toInt = 1 ∧ 1 ≤ v_k22.toInt ∧ v_k22.toInt ≤ 6) ∨ (k_k22.toInt = 2 ∧ 1 ≤ v_k22.toInt ∧ v_k22.toInt ≤ 36) ∨ (k_k22.toInt = 3 ∧ 1 ≤ v_k22.toInt ∧ v_k22.toInt ≤ 216) ∨ (k_k22.toInt = 4 ∧ 1 ≤ v_k22.toInt ∧ v_k22.toInt ≤ 1296) ∨ (k_k22.toInt = 5 ∧ 1 ≤ v_k22.toInt ∧ v_k22.toInt ≤ 7776) ∨ (k_k22.toInt = 6 ∧ 1 ≤ v_k22.toInt ∧ v_k22.toInt ≤ 46656)) → 0 ≤ k_k22.toInt ∧ k_k22.toInt ≤ 6 → 1 ≤ v_k22.toInt ∧ v_k22.toInt ≤ 46656 → 6 - k_k22.toInt < (n : Int) → W p l e (rmo 0 0) s m [.int x1, .int x2].toArray below meth c H locs 0 0 Q (F0 m 4 ls []) := by
      intro n
      induction n with
      | zero =>
        intro H locs ls k_k22 v_k22 hO hl iv0_k22 iv1_k22 iv2_k22 hm_k22
        exact absurd hm_k22 (by omega)
      | succ n ih_k22 =>
        intro H locs ls k_k22 v_k22 hO hl iv0_k22 iv1_k22 iv2_k22 hm_k22
        refine lv_iload_n hx hb dX11_power_4 rfl (lv_at hl 0 rfl) ?_
        refine lv_iload_n hx hb dX11_power_5 rfl (lv_at hl 3 rfl) ?_
        refine cs_ge (tgt := 19) (X := (k_k22).toInt) (Y := (x2).toInt) hx hb dX11_power_6 (by decide) rfl rfl (fun c23 => ?_) (fun c23 => ?_)
        · refine lv_iload_n hx hb dX11_power_19 rfl (lv_at hl 1 rfl) ?_
          refine hret _ _ _ _ _ _ dX11_power_20 rfl ?_ hO
          exact ⟨(by first | decide | omega), rfl⟩
        · refine lv_iload_n hx hb dX11_power_9 rfl (lv_at hl 1 rfl) ?_
          refine lv_iload_n hx hb dX11_power_10 rfl (lv_at hl 2 rfl) ?_
          have e24 : ((v_k22 * 6)).toInt = (v_k22).toInt * 6 := i_mul rfl rfl (by omega)
          refine lv_imul hx hb dX11_power_11 ?_
          refine lv_istore_n (lv' := [(2, .int (v_k22 * 6)), (3, .int k_k22), (0, .int 6), (1, .int x2)]) hx hb dX11_power_12 rfl hl (by decide) rfl (fun ls hl => ?_)
          have e25 : ((k_k22 + 1)).toInt = (k_k22).toInt + 1 := i_add rfl rfl (by omega)
          refine lv_iinc (v := (k_k22 + 1)) (lv' := [(3, .int (k_k22 + 1)), (2, .int (v_k22 * 6)), (0, .int 6), (1, .int x2)]) hx hb dX11_power_13 hl (k := 1) rfl rfl (by decide) rfl (fun ls hl => ?_)
          refine lv_goto (tgt := 4) hx hb dX11_power_16 (by decide) ?_
          exact ih_k22 _ _ _ ((k_k22 + 1)) ((v_k22 * 6)) hO (lv_sub hl [0, 1, 2, 3] rfl) (by first | decide | omega) (by first | decide | omega) (by first | decide | omega) (by first | decide | omega)
    exact LP_4_k22 4000 _ _ _ (0) (1) hO (lv_sub hl [0, 1, 2, 3] rfl) (by first | decide | omega) (by first | decide | omega) (by first | decide | omega) (by first | decide | omega)
set_option maxHeartbeats 4000000 in
set_option maxRecDepth 100000 in
theorem T_X11_power_100 (l : Launch) (D : va_G) (cy : Nat → ClassId) (a : Nat → Nat) (u : St) (hJ : MI a u) (x2 : Int32) (hx_x2 : 0 ≤ x2.toInt ∧ x2.toInt ≤ 4) : Mi l D cy (mW cy a) yX11_power (.code yX11_power cX11_power 4 (some .int)) (rmo 0 0) [.int 100, .int x2] u (fun (r : Int32) (u' : St) => (1 ≤ r.toInt ∧ r.toInt ≤ 100000000) ∧ (u' = u)) := by
  refine Mi.of (own := RX11) rfl (by decide) (Nat.le_of_ble_eq_true rfl) ?_
  have hT : Km0 u u := Km0.rf
  have hJ0 := hJ
  intro p e s m below meth c A Q ls C hret hO hl
  obtain ⟨hx, hb, hml, hown, ht, hK, hA⟩ := id C
  have hl : lv_has ls 4 [(0, .int 100), (1, .int x2)] := hl
  have c1 : (x2).toInt = 0 ∨ (x2).toInt = 1 ∨ (x2).toInt = 2 ∨ (x2).toInt = 3 ∨ (x2).toInt = 4 := by omega
  rcases c1 with c1 | c1 | c1 | c1 | c1
  · have ec1 : x2 = 0 := i32_eq.mpr (by rw [c1]; rfl)
    subst ec1
    refine lv_iconst (v := 1) hx hb dX11_power_0 (by decide) ?_
    refine lv_istore_n (lv' := [(2, .int 1), (0, .int 100), (1, .int 0)]) hx hb dX11_power_1 rfl hl (by decide) rfl (fun ls hl => ?_)
    refine lv_iconst (v := 0) hx hb dX11_power_2 (by decide) ?_
    refine lv_istore_n (lv' := [(3, .int 0), (2, .int 1), (0, .int 100), (1, .int 0)]) hx hb dX11_power_3 rfl hl (by decide) rfl (fun ls hl => ?_)
    refine lv_iload_n hx hb dX11_power_4 rfl (lv_at hl 0 rfl) ?_
    refine lv_iload_n hx hb dX11_power_5 rfl (lv_at hl 3 rfl) ?_
    refine ct_ge (tgt := 19) (X := 0) (Y := 0) hx hb dX11_power_6 (by decide) rfl rfl (by omega) ?_
    refine lv_iload_n hx hb dX11_power_19 rfl (lv_at hl 1 rfl) ?_
    refine hret _ _ _ _ _ _ dX11_power_20 rfl ?_ hO
    exact ⟨(by first | decide | omega), rfl⟩
  · have ec1 : x2 = 1 := i32_eq.mpr (by rw [c1]; rfl)
    subst ec1
    refine lv_iconst (v := 1) hx hb dX11_power_0 (by decide) ?_
    refine lv_istore_n (lv' := [(2, .int 1), (0, .int 100), (1, .int 1)]) hx hb dX11_power_1 rfl hl (by decide) rfl (fun ls hl => ?_)
    refine lv_iconst (v := 0) hx hb dX11_power_2 (by decide) ?_
    refine lv_istore_n (lv' := [(3, .int 0), (2, .int 1), (0, .int 100), (1, .int 1)]) hx hb dX11_power_3 rfl hl (by decide) rfl (fun ls hl => ?_)
    refine lv_iload_n hx hb dX11_power_4 rfl (lv_at hl 0 rfl) ?_
    refine lv_iload_n hx hb dX11_power_5 rfl (lv_at hl 3 rfl) ?_
    refine cn_ge (X := 0) (Y := 1) hx hb dX11_power_6 rfl rfl (by omega) ?_ (tgt := 19) (by decide)
    refine lv_iload_n hx hb dX11_power_9 rfl (lv_at hl 1 rfl) ?_
    refine lv_iload_n hx hb dX11_power_10 rfl (lv_at hl 2 rfl) ?_
    refine lv_imul hx hb dX11_power_11 ?_
    refine tE (y := 100) rfl ?_
    refine lv_istore_n (lv' := [(2, .int 100), (3, .int 0), (0, .int 100), (1, .int 1)]) hx hb dX11_power_12 rfl hl (by decide) rfl (fun ls hl => ?_)
    refine lv_iinc (v := 1) (lv' := [(3, .int 1), (2, .int 100), (0, .int 100), (1, .int 1)]) hx hb dX11_power_13 hl (k := 1) rfl rfl (by decide) rfl (fun ls hl => ?_)
    refine lv_goto (tgt := 4) hx hb dX11_power_16 (by decide) ?_
    refine lv_iload_n hx hb dX11_power_4 rfl (lv_at hl 0 rfl) ?_
    refine lv_iload_n hx hb dX11_power_5 rfl (lv_at hl 3 rfl) ?_
    refine ct_ge (tgt := 19) (X := 1) (Y := 1) hx hb dX11_power_6 (by decide) rfl rfl (by omega) ?_
    refine lv_iload_n hx hb dX11_power_19 rfl (lv_at hl 1 rfl) ?_
    refine hret _ _ _ _ _ _ dX11_power_20 rfl ?_ hO
    exact ⟨(by first | decide | omega), rfl⟩
  · have ec1 : x2 = 2 := i32_eq.mpr (by rw [c1]; rfl)
    subst ec1
    refine lv_iconst (v := 1) hx hb dX11_power_0 (by decide) ?_
    refine lv_istore_n (lv' := [(2, .int 1), (0, .int 100), (1, .int 2)]) hx hb dX11_power_1 rfl hl (by decide) rfl (fun ls hl => ?_)
    refine lv_iconst (v := 0) hx hb dX11_power_2 (by decide) ?_
    refine lv_istore_n (lv' := [(3, .int 0), (2, .int 1), (0, .int 100), (1, .int 2)]) hx hb dX11_power_3 rfl hl (by decide) rfl (fun ls hl => ?_)
    refine lv_iload_n hx hb dX11_power_4 rfl (lv_at hl 0 rfl) ?_
    refine lv_iload_n hx hb dX11_power_5 rfl (lv_at hl 3 rfl) ?_
    refine cn_ge (X := 0) (Y := 2) hx hb dX11_power_6 rfl rfl (by omega) ?_ (tgt := 19) (by decide)
    refine lv_iload_n hx hb dX11_power_9 rfl (lv_at hl 1 rfl) ?_
    refine lv_iload_n hx hb dX11_power_10 rfl (lv_at hl 2 rfl) ?_
    refine lv_imul hx hb dX11_power_11 ?_
    refine tE (y := 100) rfl ?_
    refine lv_istore_n (lv' := [(2, .int 100), (3, .int 0), (0, .int 100), (1, .int 2)]) hx hb dX11_power_12 rfl hl (by decide) rfl (fun ls hl => ?_)
    refine lv_iinc (v := 1) (lv' := [(3, .int 1), (2, .int 100), (0, .int 100), (1, .int 2)]) hx hb dX11_power_13 hl (k := 1) rfl rfl (by decide) rfl (fun ls hl => ?_)
    refine lv_goto (tgt := 4) hx hb dX11_power_16 (by decide) ?_
    refine lv_iload_n hx hb dX11_power_4 rfl (lv_at hl 0 rfl) ?_
    refine lv_iload_n hx hb dX11_power_5 rfl (lv_at hl 3 rfl) ?_
    refine cn_ge (X := 1) (Y := 2) hx hb dX11_power_6 rfl rfl (by omega) ?_ (tgt := 19) (by decide)
    refine lv_iload_n hx hb dX11_power_9 rfl (lv_at hl 1 rfl) ?_
    refine lv_iload_n hx hb dX11_power_10 rfl (lv_at hl 2 rfl) ?_
    refine lv_imul hx hb dX11_power_11 ?_
    refine tE (y := 10000) rfl ?_
    refine lv_istore_n (lv' := [(2, .int 10000), (3, .int 1), (0, .int 100), (1, .int 2)]) hx hb dX11_power_12 rfl hl (by decide) rfl (fun ls hl => ?_)
    refine lv_iinc (v := 2) (lv' := [(3, .int 2), (2, .int 10000), (0, .int 100), (1, .int 2)]) hx hb dX11_power_13 hl (k := 1) rfl rfl (by decide) rfl (fun ls hl => ?_)
    refine lv_goto (tgt := 4) hx hb dX11_power_16 (by decide) ?_
    refine lv_iload_n hx hb dX11_power_4 rfl (lv_at hl 0 rfl) ?_
    refine lv_iload_n hx hb dX11_power_5 rfl (lv_at hl 3 rfl) ?_
    refine ct_ge (tgt := 19) (X := 2) (Y := 2) hx hb dX11_power_6 (by decide) rfl rfl (by omega) ?_
    refine lv_iload_n hx hb dX11_power_19 rfl (lv_at hl 1 rfl) ?_
    refine hret _ _ _ _ _ _ dX11_power_20 rfl ?_ hO
    exact ⟨(by first | decide | omega), rfl⟩
  · have ec1 : x2 = 3 := i32_eq.mpr (by rw [c1]; rfl)
    subst ec1
    refine lv_iconst (v := 1) hx hb dX11_power_0 (by decide) ?_
    refine lv_istore_n (lv' := [(2, .int 1), (0, .int 100), (1, .int 3)]) hx hb dX11_power_1 rfl hl (by decide) rfl (fun ls hl => ?_)
    refine lv_iconst (v := 0) hx hb dX11_power_2 (by decide) ?_
    refine lv_istore_n (lv' := [(3, .int 0), (2, .int 1), (0, .int 100), (1, .int 3)]) hx hb dX11_power_3 rfl hl (by decide) rfl (fun ls hl => ?_)
    refine lv_iload_n hx hb dX11_power_4 rfl (lv_at hl 0 rfl) ?_
    refine lv_iload_n hx hb dX11_power_5 rfl (lv_at hl 3 rfl) ?_
    refine cn_ge (X := 0) (Y := 3) hx hb dX11_power_6 rfl rfl (by omega) ?_ (tgt := 19) (by decide)
    refine lv_iload_n hx hb dX11_power_9 rfl (lv_at hl 1 rfl) ?_
    refine lv_iload_n hx hb dX11_power_10 rfl (lv_at hl 2 rfl) ?_
    refine lv_imul hx hb dX11_power_11 ?_
    refine tE (y := 100) rfl ?_
    refine lv_istore_n (lv' := [(2, .int 100), (3, .int 0), (0, .int 100), (1, .int 3)]) hx hb dX11_power_12 rfl hl (by decide) rfl (fun ls hl => ?_)
    refine lv_iinc (v := 1) (lv' := [(3, .int 1), (2, .int 100), (0, .int 100), (1, .int 3)]) hx hb dX11_power_13 hl (k := 1) rfl rfl (by decide) rfl (fun ls hl => ?_)
    refine lv_goto (tgt := 4) hx hb dX11_power_16 (by decide) ?_
    refine lv_iload_n hx hb dX11_power_4 rfl (lv_at hl 0 rfl) ?_
    refine lv_iload_n hx hb dX11_power_5 rfl (lv_at hl 3 rfl) ?_
    refine cn_ge (X := 1) (Y := 3) hx hb dX11_power_6 rfl rfl (by omega) ?_ (tgt := 19) (by decide)
    refine lv_iload_n hx hb dX11_power_9 rfl (lv_at hl 1 rfl) ?_
    refine lv_iload_n hx hb dX11_power_10 rfl (lv_at hl 2 rfl) ?_
    refine lv_imul hx hb dX11_power_11 ?_
    refine tE (y := 10000) rfl ?_
    refine lv_istore_n (lv' := [(2, .int 10000), (3, .int 1), (0, .int 100), (1, .int 3)]) hx hb dX11_power_12 rfl hl (by decide) rfl (fun ls hl => ?_)
    refine lv_iinc (v := 2) (lv' := [(3, .int 2), (2, .int 10000), (0, .int 100), (1, .int 3)]) hx hb dX11_power_13 hl (k := 1) rfl rfl (by decide) rfl (fun ls hl => ?_)
    refine lv_goto (tgt := 4) hx hb dX11_power_16 (by decide) ?_
    refine lv_iload_n hx hb dX11_power_4 rfl (lv_at hl 0 rfl) ?_
    refine lv_iload_n hx hb dX11_power_5 rfl (lv_at hl 3 rfl) ?_
    refine cn_ge (X := 2) (Y := 3) hx hb dX11_power_6 rfl rfl (by omega) ?_ (tgt := 19) (by decide)
    refine lv_iload_n hx hb dX11_power_9 rfl (lv_at hl 1 rfl) ?_
    refine lv_iload_n hx hb dX11_power_10 rfl (lv_at hl 2 rfl) ?_
    refine lv_imul hx hb dX11_power_11 ?_
    refine tE (y := 1000000) rfl ?_
    refine lv_istore_n (lv' := [(2, .int 1000000), (3, .int 2), (0, .int 100), (1, .int 3)]) hx hb dX11_power_12 rfl hl (by decide) rfl (fun ls hl => ?_)
    refine lv_iinc (v := 3) (lv' := [(3, .int 3), (2, .int 1000000), (0, .int 100), (1, .int 3)]) hx hb dX11_power_13 hl (k := 1) rfl rfl (by decide) rfl (fun ls hl => ?_)
    refine lv_goto (tgt := 4) hx hb dX11_power_16 (by decide) ?_
    refine lv_iload_n hx hb dX11_power_4 rfl (lv_at hl 0 rfl) ?_
    refine lv_iload_n hx hb dX11_power_5 rfl (lv_at hl 3 rfl) ?_
    refine ct_ge (tgt := 19) (X := 3) (Y := 3) hx hb dX11_power_6 (by decide) rfl rfl (by omega) ?_
    refine lv_iload_n hx hb dX11_power_19 rfl (lv_at hl 1 rfl) ?_
    refine hret _ _ _ _ _ _ dX11_power_20 rfl ?_ hO
    exact ⟨(by first | decide | omega), rfl⟩
  · have ec1 : x2 = 4 := i32_eq.mpr (by rw [c1]; rfl)
    subst ec1
    refine lv_iconst (v := 1) hx hb dX11_power_0 (by decide) ?_
    refine lv_istore_n (lv' := [(2, .int 1), (0, .int 100), (1, .int 4)]) hx hb dX11_power_1 rfl hl (by decide) rfl (fun ls hl => ?_)
    refine lv_iconst (v := 0) hx hb dX11_power_2 (by decide) ?_
    refine lv_istore_n (lv' := [(3, .int 0), (2, .int 1), (0, .int 100), (1, .int 4)]) hx hb dX11_power_3 rfl hl (by decide) rfl (fun ls hl => ?_)
    refine lv_iload_n hx hb dX11_power_4 rfl (lv_at hl 0 rfl) ?_
    refine lv_iload_n hx hb dX11_power_5 rfl (lv_at hl 3 rfl) ?_
    refine cn_ge (X := 0) (Y := 4) hx hb dX11_power_6 rfl rfl (by omega) ?_ (tgt := 19) (by decide)
    refine lv_iload_n hx hb dX11_power_9 rfl (lv_at hl 1 rfl) ?_
    refine lv_iload_n hx hb dX11_power_10 rfl (lv_at hl 2 rfl) ?_
    refine lv_imul hx hb dX11_power_11 ?_
    refine tE (y := 100) rfl ?_
    refine lv_istore_n (lv' := [(2, .int 100), (3, .int 0), (0, .int 100), (1, .int 4)]) hx hb dX11_power_12 rfl hl (by decide) rfl (fun ls hl => ?_)
    refine lv_iinc (v := 1) (lv' := [(3, .int 1), (2, .int 100), (0, .int 100), (1, .int 4)]) hx hb dX11_power_13 hl (k := 1) rfl rfl (by decide) rfl (fun ls hl => ?_)
    refine lv_goto (tgt := 4) hx hb dX11_power_16 (by decide) ?_
    refine lv_iload_n hx hb dX11_power_4 rfl (lv_at hl 0 rfl) ?_
    refine lv_iload_n hx hb dX11_power_5 rfl (lv_at hl 3 rfl) ?_
    refine cn_ge (X := 1) (Y := 4) hx hb dX11_power_6 rfl rfl (by omega) ?_ (tgt := 19) (by decide)
    refine lv_iload_n hx hb dX11_power_9 rfl (lv_at hl 1 rfl) ?_
    refine lv_iload_n hx hb dX11_power_10 rfl (lv_at hl 2 rfl) ?_
    refine lv_imul hx hb dX11_power_11 ?_
    refine tE (y := 10000) rfl ?_
    refine lv_istore_n (lv' := [(2, .int 10000), (3, .int 1), (0, .int 100), (1, .int 4)]) hx hb dX11_power_12 rfl hl (by decide) rfl (fun ls hl => ?_)
    refine lv_iinc (v := 2) (lv' := [(3, .int 2), (2, .int 10000), (0, .int 100), (1, .int 4)]) hx hb dX11_power_13 hl (k := 1) rfl rfl (by decide) rfl (fun ls hl => ?_)
    refine lv_goto (tgt := 4) hx hb dX11_power_16 (by decide) ?_
    refine lv_iload_n hx hb dX11_power_4 rfl (lv_at hl 0 rfl) ?_
    refine lv_iload_n hx hb dX11_power_5 rfl (lv_at hl 3 rfl) ?_
    refine cn_ge (X := 2) (Y := 4) hx hb dX11_power_6 rfl rfl (by omega) ?_ (tgt := 19) (by decide)
    refine lv_iload_n hx hb dX11_power_9 rfl (lv_at hl 1 rfl) ?_
    refine lv_iload_n hx hb dX11_power_10 rfl (lv_at hl 2 rfl) ?_
    refine lv_imul hx hb dX11_power_11 ?_
    refine tE (y := 1000000) rfl ?_
    refine lv_istore_n (lv' := [(2, .int 1000000), (3, .int 2), (0, .int 100), (1, .int 4)]) hx hb dX11_power_12 rfl hl (by decide) rfl (fun ls hl => ?_)
    refine lv_iinc (v := 3) (lv' := [(3, .int 3), (2, .int 1000000), (0, .int 100), (1, .int 4)]) hx hb dX11_power_13 hl (k := 1) rfl rfl (by decide) rfl (fun ls hl => ?_)
    refine lv_goto (tgt := 4) hx hb dX11_power_16 (by decide) ?_
    refine lv_iload_n hx hb dX11_power_4 rfl (lv_at hl 0 rfl) ?_
    refine lv_iload_n hx hb dX11_power_5 rfl (lv_at hl 3 rfl) ?_
    refine cn_ge (X := 3) (Y := 4) hx hb dX11_power_6 rfl rfl (by omega) ?_ (tgt := 19) (by decide)
    refine lv_iload_n hx hb dX11_power_9 rfl (lv_at hl 1 rfl) ?_
    refine lv_iload_n hx hb dX11_power_10 rfl (lv_at hl 2 rfl) ?_
    refine lv_imul hx hb dX11_power_11 ?_
    refine tE (y := 100000000) rfl ?_
    refine lv_istore_n (lv' := [(2, .int 100000000), (3, .int 3), (0, .int 100), (1, .int 4)]) hx hb dX11_power_12 rfl hl (by decide) rfl (fun ls hl => ?_)
    refine lv_iinc (v := 4) (lv' := [(3, .int 4), (2, .int 100000000), (0, .int 100), (1, .int 4)]) hx hb dX11_power_13 hl (k := 1) rfl rfl (by decide) rfl (fun ls hl => ?_)
    refine lv_goto (tgt := 4) hx hb dX11_power_16 (by decide) ?_
    refine lv_iload_n hx hb dX11_power_4 rfl (lv_at hl 0 rfl) ?_
    refine lv_iload_n hx hb dX11_power_5 rfl (lv_at hl 3 rfl) ?_
    refine ct_ge (tgt := 19) (X := 4) (Y := 4) hx hb dX11_power_6 (by decide) rfl rfl (by omega) ?_
    refine lv_iload_n hx hb dX11_power_19 rfl (lv_at hl 1 rfl) ?_
    refine hret _ _ _ _ _ _ dX11_power_20 rfl ?_ hO
    exact ⟨(by first | decide | omega), rfl⟩
set_option maxHeartbeats 4000000 in
set_option maxRecDepth 100000 in
theorem T_X11_power (l : Launch) (D : va_G) (cy : Nat → ClassId) (a : Nat → Nat) (u : St) (hJ : MI a u) (x1 : Int32) (x2 : Int32) (hx_x2 : 0 ≤ x2.toInt ∧ x2.toInt ≤ 6) : Mi l D cy (mW cy a) yX11_power (.code yX11_power cX11_power 4 (some .int)) (rmo 0 0) [.int x1, .int x2] u (fun (r : Int32) (u' : St) => u' = u) := by
  refine Mi.of (own := RX11) rfl (by decide) (Nat.le_of_ble_eq_true rfl) ?_
  have hT : Km0 u u := Km0.rf
  have hJ0 := hJ
  intro p e s m below meth c A Q ls C hret hO hl
  obtain ⟨hx, hb, hml, hown, ht, hK, hA⟩ := id C
  have hl : lv_has ls 4 [(0, .int x1), (1, .int x2)] := hl
  refine lv_iconst (v := 1) hx hb dX11_power_0 (by decide) ?_
  refine lv_istore_n (lv' := [(2, .int 1), (0, .int x1), (1, .int x2)]) hx hb dX11_power_1 rfl hl (by decide) rfl (fun ls hl => ?_)
  refine lv_iconst (v := 0) hx hb dX11_power_2 (by decide) ?_
  refine lv_istore_n (lv' := [(3, .int 0), (2, .int 1), (0, .int x1), (1, .int x2)]) hx hb dX11_power_3 rfl hl (by decide) rfl (fun ls hl => ?_)
  have LP_4_k1 : ∀ (n : Nat) (H : Heap) (locs : List Loc) (ls : Array Slot) (k_k1 : Int32) (v_k1 : Int32), Wo D A (mW cy a u) s.heap H locs → lv_has ls 4 [(3, .int k_k1), (2, .int v_k1), (0, .int x1), (1, .int x2)] → 0 ≤ k_k1.toInt ∧ k_k1.toInt ≤ 6 → 6 - k_k1.toInt < (n : Int) → W p l e (rmo 0 0) s m [.int x1, .int x2].toArray below meth c H locs 0 0 Q (F0 m 4 ls []) := by
    intro n
    induction n with
    | zero =>
      intro H locs ls k_k1 v_k1 hO hl iv0_k1 hm_k1
      exact absurd hm_k1 (by omega)
    | succ n ih_k1 =>
      intro H locs ls k_k1 v_k1 hO hl iv0_k1 hm_k1
      refine lv_iload_n hx hb dX11_power_4 rfl (lv_at hl 0 rfl) ?_
      refine lv_iload_n hx hb dX11_power_5 rfl (lv_at hl 3 rfl) ?_
      refine cs_ge (tgt := 19) (X := (k_k1).toInt) (Y := (x2).toInt) hx hb dX11_power_6 (by decide) rfl rfl (fun c2 => ?_) (fun c2 => ?_)
      · refine lv_iload_n hx hb dX11_power_19 rfl (lv_at hl 1 rfl) ?_
        refine hret _ _ _ _ _ _ dX11_power_20 rfl ?_ hO
        exact rfl
      · refine lv_iload_n hx hb dX11_power_9 rfl (lv_at hl 1 rfl) ?_
        refine lv_iload_n hx hb dX11_power_10 rfl (lv_at hl 2 rfl) ?_
        refine lv_imul hx hb dX11_power_11 ?_
        refine lv_istore_n (lv' := [(2, .int (v_k1 * x1)), (3, .int k_k1), (0, .int x1), (1, .int x2)]) hx hb dX11_power_12 rfl hl (by decide) rfl (fun ls hl => ?_)
        have e3 : ((k_k1 + 1)).toInt = (k_k1).toInt + 1 := i_add rfl rfl (by omega)
        refine lv_iinc (v := (k_k1 + 1)) (lv' := [(3, .int (k_k1 + 1)), (2, .int (v_k1 * x1)), (0, .int x1), (1, .int x2)]) hx hb dX11_power_13 hl (k := 1) rfl rfl (by decide) rfl (fun ls hl => ?_)
        refine lv_goto (tgt := 4) hx hb dX11_power_16 (by decide) ?_
        exact ih_k1 _ _ _ ((k_k1 + 1)) ((v_k1 * x1)) hO (lv_sub hl [0, 1, 2, 3] rfl) (by first | decide | omega) (by first | decide | omega)
  exact LP_4_k1 4000 _ _ _ (0) (1) hO (lv_sub hl [0, 1, 2, 3] rfl) (by first | decide | omega) (by first | decide | omega)
theorem dX11_outcome_0 : decode cX11_outcome 0 = .ok (.iload_n 0, 1) := by decide +kernel
theorem dX11_outcome_1 : decode cX11_outcome 1 = .ok (.ifCond .le 7, 3) := by decide +kernel
theorem dX11_outcome_4 : decode cX11_outcome 4 = .ok (.iconst 1, 1) := by decide +kernel
theorem dX11_outcome_5 : decode cX11_outcome 5 = .ok (.goto 12, 3) := by decide +kernel
theorem dX11_outcome_8 : decode cX11_outcome 8 = .ok (.iload_n 0, 1) := by decide +kernel
theorem dX11_outcome_9 : decode cX11_outcome 9 = .ok (.ifCond .ge 7, 3) := by decide +kernel
theorem dX11_outcome_12 : decode cX11_outcome 12 = .ok (.iconst 2, 1) := by decide +kernel
theorem dX11_outcome_13 : decode cX11_outcome 13 = .ok (.goto 4, 3) := by decide +kernel
theorem dX11_outcome_16 : decode cX11_outcome 16 = .ok (.iconst 0, 1) := by decide +kernel
theorem dX11_outcome_17 : decode cX11_outcome 17 = .ok (.ireturn, 1) := by decide +kernel
theorem wd_1827 : (Cond.code ⟨"WebCourtModel", "outcome", "(I)I"⟩ prog_13_method_62_code (1 : Nat) (Option.some FieldType.int)) ∈ gtb := gtb_c8 38 (by decide +kernel) rfl
set_option maxHeartbeats 4000000 in
set_option maxRecDepth 100000 in
theorem T_X11_outcome (l : Launch) (D : va_G) (cy : Nat → ClassId) (a : Nat → Nat) (u : St) (hJ : MI a u) (x1 : Int32)  : Mi l D cy (mW cy a) yX11_outcome (.code yX11_outcome cX11_outcome 1 (some .int)) (rmo 0 0) [.int x1] u (fun (r : Int32) (u' : St) => (0 ≤ r.toInt ∧ r.toInt ≤ 2) ∧ (u' = u)) := by
  refine Mi.of (own := RX11) rfl (by decide) (Nat.le_of_ble_eq_true rfl) ?_
  have hT : Km0 u u := Km0.rf
  have hJ0 := hJ
  intro p e s m below meth c A Q ls C hret hO hl
  obtain ⟨hx, hb, hml, hown, ht, hK, hA⟩ := id C
  have hl : lv_has ls 1 [(0, .int x1)] := hl
  refine lv_iload_n hx hb dX11_outcome_0 rfl (lv_at hl 0 rfl) ?_
  refine bs_le (tgt := 8) (X := (x1).toInt) hx hb dX11_outcome_1 (by decide) rfl (fun c1 => ?_) (fun c1 => ?_)
  · refine lv_iload_n hx hb dX11_outcome_8 rfl (lv_at hl 0 rfl) ?_
    refine bs_ge (tgt := 16) (X := (x1).toInt) hx hb dX11_outcome_9 (by decide) rfl (fun c2 => ?_) (fun c2 => ?_)
    · refine lv_iconst (v := 0) hx hb dX11_outcome_16 (by decide) ?_
      refine hret _ _ _ _ _ _ dX11_outcome_17 rfl ?_ hO
      exact ⟨(by first | decide | omega), rfl⟩
    · refine lv_iconst (v := 2) hx hb dX11_outcome_12 (by decide) ?_
      refine lv_goto (tgt := 17) hx hb dX11_outcome_13 (by decide) ?_
      refine hret _ _ _ _ _ _ dX11_outcome_17 rfl ?_ hO
      exact ⟨(by first | decide | omega), rfl⟩
  · refine lv_iconst (v := 1) hx hb dX11_outcome_4 (by decide) ?_
    refine lv_goto (tgt := 17) hx hb dX11_outcome_5 (by decide) ?_
    refine hret _ _ _ _ _ _ dX11_outcome_17 rfl ?_ hO
    exact ⟨(by first | decide | omega), rfl⟩
theorem dX11_strengthOf_0 : decode cX11_strengthOf 0 = .ok (.iconst 0, 1) := by decide +kernel
theorem dX11_strengthOf_1 : decode cX11_strengthOf 1 = .ok (.istore_n 2, 1) := by decide +kernel
theorem dX11_strengthOf_2 : decode cX11_strengthOf 2 = .ok (.iconst 0, 1) := by decide +kernel
theorem dX11_strengthOf_3 : decode cX11_strengthOf 3 = .ok (.istore_n 3, 1) := by decide +kernel
theorem dX11_strengthOf_4 : decode cX11_strengthOf 4 = .ok (.iload_n 3, 1) := by decide +kernel
theorem dX11_strengthOf_5 : decode cX11_strengthOf 5 = .ok (.aload_n 0, 1) := by decide +kernel
theorem dX11_strengthOf_6 : decode cX11_strengthOf 6 = .ok (.invokevirtual 377, 3) := by decide +kernel
theorem dX11_strengthOf_9 : decode cX11_strengthOf 9 = .ok (.if_icmp .ge 62, 3) := by decide +kernel
theorem dX11_strengthOf_12 : decode cX11_strengthOf 12 = .ok (.iload_n 2, 1) := by decide +kernel
theorem dX11_strengthOf_13 : decode cX11_strengthOf 13 = .ok (.iload_n 1, 1) := by decide +kernel
theorem dX11_strengthOf_14 : decode cX11_strengthOf 14 = .ok (.iload_n 3, 1) := by decide +kernel
theorem dX11_strengthOf_15 : decode cX11_strengthOf 15 = .ok (.invokestatic 264, 3) := by decide +kernel
theorem dX11_strengthOf_18 : decode cX11_strengthOf 18 = .ok (.ifCond .ne 7, 3) := by decide +kernel
theorem dX11_strengthOf_21 : decode cX11_strengthOf 21 = .ok (.iconst 0, 1) := by decide +kernel
theorem dX11_strengthOf_22 : decode cX11_strengthOf 22 = .ok (.goto 41, 3) := by decide +kernel
theorem dX11_strengthOf_25 : decode cX11_strengthOf 25 = .ok (.aload_n 0, 1) := by decide +kernel
theorem dX11_strengthOf_26 : decode cX11_strengthOf 26 = .ok (.getfield 100, 3) := by decide +kernel
theorem dX11_strengthOf_29 : decode cX11_strengthOf 29 = .ok (.ifCond .lt 20, 3) := by decide +kernel
theorem dX11_strengthOf_32 : decode cX11_strengthOf 32 = .ok (.iload_n 3, 1) := by decide +kernel
theorem dX11_strengthOf_33 : decode cX11_strengthOf 33 = .ok (.aload_n 0, 1) := by decide +kernel
theorem dX11_strengthOf_34 : decode cX11_strengthOf 34 = .ok (.invokevirtual 377, 3) := by decide +kernel
theorem dX11_strengthOf_37 : decode cX11_strengthOf 37 = .ok (.iconst 1, 1) := by decide +kernel
theorem dX11_strengthOf_38 : decode cX11_strengthOf 38 = .ok (.isub, 1) := by decide +kernel
theorem dX11_strengthOf_39 : decode cX11_strengthOf 39 = .ok (.if_icmp .ne 10, 3) := by decide +kernel
theorem dX11_strengthOf_42 : decode cX11_strengthOf 42 = .ok (.aload_n 0, 1) := by decide +kernel
theorem dX11_strengthOf_43 : decode cX11_strengthOf 43 = .ok (.getfield 100, 3) := by decide +kernel
theorem dX11_strengthOf_46 : decode cX11_strengthOf 46 = .ok (.goto 17, 3) := by decide +kernel
theorem dX11_strengthOf_49 : decode cX11_strengthOf 49 = .ok (.aload_n 0, 1) := by decide +kernel
theorem dX11_strengthOf_50 : decode cX11_strengthOf 50 = .ok (.getfield 57, 3) := by decide +kernel
theorem dX11_strengthOf_53 : decode cX11_strengthOf 53 = .ok (.bipush 8, 2) := by decide +kernel
theorem dX11_strengthOf_55 : decode cX11_strengthOf 55 = .ok (.aload_n 0, 1) := by decide +kernel
theorem dX11_strengthOf_56 : decode cX11_strengthOf 56 = .ok (.getfield 255, 3) := by decide +kernel
theorem dX11_strengthOf_59 : decode cX11_strengthOf 59 = .ok (.imul, 1) := by decide +kernel
theorem dX11_strengthOf_60 : decode cX11_strengthOf 60 = .ok (.iload_n 3, 1) := by decide +kernel
theorem dX11_strengthOf_61 : decode cX11_strengthOf 61 = .ok (.iadd, 1) := by decide +kernel
theorem dX11_strengthOf_62 : decode cX11_strengthOf 62 = .ok (.iaload, 1) := by decide +kernel
theorem dX11_strengthOf_63 : decode cX11_strengthOf 63 = .ok (.iadd, 1) := by decide +kernel
theorem dX11_strengthOf_64 : decode cX11_strengthOf 64 = .ok (.istore_n 2, 1) := by decide +kernel
theorem dX11_strengthOf_65 : decode cX11_strengthOf 65 = .ok (.iinc 3 1, 3) := by decide +kernel
theorem dX11_strengthOf_68 : decode cX11_strengthOf 68 = .ok (.goto (-64), 3) := by decide +kernel
theorem dX11_strengthOf_71 : decode cX11_strengthOf 71 = .ok (.iload_n 2, 1) := by decide +kernel
theorem dX11_strengthOf_72 : decode cX11_strengthOf 72 = .ok (.ireturn, 1) := by decide +kernel
theorem wd_1780 : (Cond.code ⟨"WebCourtModel", "strengthOf", "(I)I"⟩ prog_13_method_56_code (4 : Nat) (Option.some FieldType.int)) ∈ gtb := gtb_c7 231 (by decide +kernel) rfl
theorem wd_1612 : (Cond.methodLink "WebCourtModel" (264 : Nat) ⟨"WebCourtModel", "bit", "(II)Z"⟩) ∈ gtb := gtb_c7 63 (by decide +kernel) rfl
theorem wd_1613 : (Cond.static ⟨"WebCourtModel", "bit", "(II)Z"⟩) ∈ gtb := gtb_c7 64 (by decide +kernel) rfl
theorem hd_yX11_bit : yX11_bit.cls ≠ "java/lang/invoke/MethodHandle" ∧ yX11_bit.cls ≠ "java/lang/invoke/VarHandle" ∧ (parseMethodDescriptor yX11_bit.desc).map (fun d => d.parameters.length) = some 2 := by decide +kernel
theorem wd_1401 : (Cond.fieldLink "WebCourtModel" (100 : Nat) "WebCourtModel" "thought" "I") ∈ gtb := gtb_c6 92 (by decide +kernel) rfl
theorem gf_RX11_100 {p : Program} {l : Launch} {e : Env} {R : Room} {s : State} {m : MethodId} {args : Array Value} {below : List Frame} {meth : Method} {c : Code} {H : Heap} {locs : List Loc} {cells slots : Nat} {Q : State → Prop} {cc : ByteArray} {pc nL : Nat} {ls : Array Slot} {rest : List Value} {D : va_G} {cy : Nat → ClassId} {A : Nat → Prop} {ws : va_W} {b : Nat} {fs : List Value} {v : Value} (C : Cx p s m args c cc nL RX11 D cy A) (hO : Wo D A ws s.heap H locs) (q0 : Nat) (he : ws[q0]? = some (b, .inr (11, fs))) (hv : fs[45]? = some v) (hdg : decode cc pc = .ok (.getfield 100, 3)) (kk : W p l e R s m args below meth c H locs cells slots Q (F0 m (pc + 3) ls (v :: rest))) : W p l e R s m args below meth c H locs cells slots Q (F0 m pc ls (.ref b :: rest)) := gF (k := 45) C hO q0 he rfl inFX11 (by decide) wd_1401 rfl hv hdg kk
theorem wd_1379 : (Cond.fieldLink "WebCourtModel" (57 : Nat) "WebCourtModel" "strong" "[I") ∈ gtb := gtb_c6 70 (by decide +kernel) rfl
theorem gf_RX11_57 {p : Program} {l : Launch} {e : Env} {R : Room} {s : State} {m : MethodId} {args : Array Value} {below : List Frame} {meth : Method} {c : Code} {H : Heap} {locs : List Loc} {cells slots : Nat} {Q : State → Prop} {cc : ByteArray} {pc nL : Nat} {ls : Array Slot} {rest : List Value} {D : va_G} {cy : Nat → ClassId} {A : Nat → Prop} {ws : va_W} {b : Nat} {fs : List Value} {v : Value} (C : Cx p s m args c cc nL RX11 D cy A) (hO : Wo D A ws s.heap H locs) (q0 : Nat) (he : ws[q0]? = some (b, .inr (11, fs))) (hv : fs[23]? = some v) (hdg : decode cc pc = .ok (.getfield 57, 3)) (kk : W p l e R s m args below meth c H locs cells slots Q (F0 m (pc + 3) ls (v :: rest))) : W p l e R s m args below meth c H locs cells slots Q (F0 m pc ls (.ref b :: rest)) := gF (k := 23) C hO q0 he rfl inFX11 (by decide) wd_1379 rfl hv hdg kk
set_option maxHeartbeats 4000000 in
set_option maxRecDepth 100000 in
theorem T_X11_strengthOf (l : Launch) (D : va_G) (cy : Nat → ClassId) (a : Nat → Nat) (u : St) (hJ : MI a u) (gq : Int32) (hgq : fA u 5 (fI u 0 36).toNatClampNeg = gq) (x1 : Int32)  : Mi l D cy (mW cy a) yX11_strengthOf (.code yX11_strengthOf cX11_strengthOf 4 (some .int)) (rmo 1 21) [.ref (a 0), .int x1] u (fun (r : Int32) (u' : St) => u' = u) := by
  refine Mi.of (own := RX11) rfl (by decide) (Nat.le_of_ble_eq_true rfl) ?_
  have hT : Km0 u u := Km0.rf
  have hJ0 := hJ
  intro p e s m below meth c A Q ls C hret hO hl
  obtain ⟨hx, hb, hml, hown, ht, hK, hA⟩ := id C
  have hl : lv_has ls 4 [(0, .ref (a 0)), (1, .int x1)] := hl
  refine lv_iconst (v := 0) hx hb dX11_strengthOf_0 (by decide) ?_
  refine lv_istore_n (lv' := [(2, .int 0), (0, .ref (a 0)), (1, .int x1)]) hx hb dX11_strengthOf_1 rfl hl (by decide) rfl (fun ls hl => ?_)
  refine lv_iconst (v := 0) hx hb dX11_strengthOf_2 (by decide) ?_
  refine lv_istore_n (lv' := [(3, .int 0), (2, .int 0), (0, .ref (a 0)), (1, .int x1)]) hx hb dX11_strengthOf_3 rfl hl (by decide) rfl (fun ls hl => ?_)
  have LP_4_k1 : ∀ (n : Nat) (H : Heap) (locs : List Loc) (ls : Array Slot) (p_k1 : Int32) (w2_k1 : Int32), Wo D A (mW cy a u) s.heap H locs → lv_has ls 4 [(3, .int p_k1), (2, .int w2_k1), (0, .ref (a 0)), (1, .int x1)] → 0 ≤ p_k1.toInt ∧ p_k1.toInt ≤ 8 → 8 - p_k1.toInt < (n : Int) → W p l e (rmo 1 21) s m [.ref (a 0), .int x1].toArray below meth c H locs 0 0 Q (F0 m 4 ls []) := by
    intro n
    induction n with
    | zero =>
      intro H locs ls p_k1 w2_k1 hO hl iv0_k1 hm_k1
      exact absurd hm_k1 (by omega)
    | succ n ih_k1 =>
      intro H locs ls p_k1 w2_k1 hO hl iv0_k1 hm_k1
      refine lv_iload_n hx hb dX11_strengthOf_4 rfl (lv_at hl 0 rfl) ?_
      refine lv_aload_n hx hb dX11_strengthOf_5 rfl (lv_at hl 2 rfl) ?_
      have g2 : 0 ≤ (fI u 0 36).toInt ∧ (fI u 0 36).toInt ≤ 1 := by have h := MI_36 hJ0; exact h
      have g3 : 0 ≤ gq.toInt ∧ gq.toInt ≤ 8 := by have h := MI_A5 hJ0 (fI u 0 36).toNatClampNeg; rw [hgq] at h; exact h
      refine cVi (w := mW cy a) (As := []) (rest := [.int p_k1]) C hO (T_X11_pleads l D cy a _ (by exact hJ) (gq) (by exact hgq)) (cwV 0 ht (gV wd_1745 wd_1747 wd_82 wd_121 wd_1748) rfl rfl rfl hd_yX11_pleads ⟨Nat.le_of_ble_eq_true rfl, Nat.le_of_ble_eq_true rfl⟩) 0 rfl mW_0 rfl rfl hl.1 (Nat.le_of_ble_eq_true rfl) dX11_strengthOf_6 rfl ⟨Nat.zero_le _, Nat.zero_le _⟩ (fun r4 u5 H locs hp6 hO => ?_)
      obtain ⟨hr4, hu5⟩ := hp6
      refine tE hr4 ?_
      rw [hu5] at hO
      refine cs_ge (tgt := 71) (X := (p_k1).toInt) (Y := (gq).toInt) hx hb dX11_strengthOf_9 (by decide) rfl rfl (fun c7 => ?_) (fun c7 => ?_)
      · refine lv_iload_n hx hb dX11_strengthOf_71 rfl (lv_at hl 1 rfl) ?_
        refine hret _ _ _ _ _ _ dX11_strengthOf_72 rfl ?_ hO
        exact rfl
      · refine lv_iload_n hx hb dX11_strengthOf_12 rfl (lv_at hl 1 rfl) ?_
        refine lv_iload_n hx hb dX11_strengthOf_13 rfl (lv_at hl 3 rfl) ?_
        refine lv_iload_n hx hb dX11_strengthOf_14 rfl (lv_at hl 0 rfl) ?_
        refine cSi (w := mW cy a) (As := [.int x1, .int p_k1]) (rest := [.int w2_k1]) C hO (T_X11_bit l D cy a _ (by exact hJ) (x1) (p_k1)) (va_cwS 2 ht (gSS wd_1612 wd_1613 wd_121 wd_1614) rfl rfl rfl hd_yX11_bit ⟨Nat.le_of_ble_eq_true rfl, Nat.le_of_ble_eq_true rfl⟩)  rfl hl.1 (Nat.le_of_ble_eq_true rfl) dX11_strengthOf_15 rfl ⟨Nat.zero_le _, Nat.zero_le _⟩ (fun r8 u9 H locs hp10 hO => ?_)
        obtain ⟨hr8, hu9⟩ := hp10
        rw [hu9] at hO
        obtain ⟨hr8, hbr8⟩ := hr8
        have gr8 : 0 ≤ r8.toInt ∧ r8.toInt ≤ 1 := by rcases hr8 with h | h <;> rw [h] <;> decide
        refine bs_ne (tgt := 25) (X := (r8).toInt) hx hb dX11_strengthOf_18 (by decide) rfl (fun c11 => ?_) (fun c11 => ?_)
        · refine lv_aload_n hx hb dX11_strengthOf_25 rfl (lv_at hl 2 rfl) ?_
          refine gf_RX11_100 (v := .int (fI u 0 45)) C hO 0 mW_0 rfl dX11_strengthOf_26 ?_
          refine bs_lt (tgt := 49) (X := ((fI u 0 45)).toInt) hx hb dX11_strengthOf_29 (by decide) rfl (fun c12 => ?_) (fun c12 => ?_)
          · refine lv_aload_n hx hb dX11_strengthOf_49 rfl (lv_at hl 2 rfl) ?_
            refine gf_RX11_57 (v := .ref (a 15)) C hO 0 mW_0 rfl dX11_strengthOf_50 ?_
            refine lv_bipush (v := 8) hx hb dX11_strengthOf_53 (by decide) ?_
            refine lv_aload_n hx hb dX11_strengthOf_55 rfl (lv_at hl 2 rfl) ?_
            refine gf_RX11_255 (v := .int (fI u 0 36)) C hO 0 mW_0 rfl dX11_strengthOf_56 ?_
            have e13 : ((8 * (fI u 0 36))).toInt = 8 * ((fI u 0 36)).toInt := i_mul rfl rfl (by omega)
            refine lv_imul hx hb dX11_strengthOf_59 ?_
            refine lv_iload_n hx hb dX11_strengthOf_60 rfl (lv_at hl 0 rfl) ?_
            have e14 : (((8 * (fI u 0 36)) + p_k1)).toInt = (8 * ((fI u 0 36)).toInt) + (p_k1).toInt := i_add e13 rfl (by omega)
            refine lv_iadd hx hb dX11_strengthOf_61 ?_
            refine aI C hO 15 mW_15 (i_in (X := ((8 * ((fI u 0 36)).toInt) + (p_k1).toInt)) e14 (by omega) (by omega)) dX11_strengthOf_62 ?_
            refine tE (y := (fA u 15 (((8 * (fI u 0 36)) + p_k1)).toNatClampNeg)) (by exact rfl) ?_
            refine lv_iadd hx hb dX11_strengthOf_63 ?_
            refine lv_istore_n (lv' := [(2, .int (w2_k1 + (fA u 15 (((8 * (fI u 0 36)) + p_k1)).toNatClampNeg))), (3, .int p_k1), (0, .ref (a 0)), (1, .int x1)]) hx hb dX11_strengthOf_64 rfl hl (by decide) rfl (fun ls hl => ?_)
            have e15 : ((p_k1 + 1)).toInt = (p_k1).toInt + 1 := i_add rfl rfl (by omega)
            refine lv_iinc (v := (p_k1 + 1)) (lv' := [(3, .int (p_k1 + 1)), (2, .int (w2_k1 + (fA u 15 (((8 * (fI u 0 36)) + p_k1)).toNatClampNeg))), (0, .ref (a 0)), (1, .int x1)]) hx hb dX11_strengthOf_65 hl (k := 1) rfl rfl (by decide) rfl (fun ls hl => ?_)
            refine lv_goto (tgt := 4) hx hb dX11_strengthOf_68 (by decide) ?_
            exact ih_k1 _ _ _ ((p_k1 + 1)) ((w2_k1 + (fA u 15 (((8 * (fI u 0 36)) + p_k1)).toNatClampNeg))) hO (lv_sub hl [0, 1, 2, 3] rfl) (by first | decide | omega) (by first | decide | omega)
          · refine lv_iload_n hx hb dX11_strengthOf_32 rfl (lv_at hl 0 rfl) ?_
            refine lv_aload_n hx hb dX11_strengthOf_33 rfl (lv_at hl 2 rfl) ?_
            refine cVi (w := mW cy a) (As := []) (rest := [.int p_k1, .int w2_k1]) C hO (T_X11_pleads l D cy a _ (by exact hJ) (gq) (by exact hgq)) (cwV 0 ht (gV wd_1745 wd_1747 wd_82 wd_121 wd_1748) rfl rfl rfl hd_yX11_pleads ⟨Nat.le_of_ble_eq_true rfl, Nat.le_of_ble_eq_true rfl⟩) 0 rfl mW_0 rfl rfl hl.1 (Nat.le_of_ble_eq_true rfl) dX11_strengthOf_34 rfl ⟨Nat.zero_le _, Nat.zero_le _⟩ (fun r16 u17 H locs hp18 hO => ?_)
            obtain ⟨hr16, hu17⟩ := hp18
            refine tE hr16 ?_
            rw [hu17] at hO
            refine lv_iconst (v := 1) hx hb dX11_strengthOf_37 (by decide) ?_
            have e19 : ((gq - 1)).toInt = (gq).toInt - 1 := i_sub rfl rfl (by omega)
            refine lv_isub hx hb dX11_strengthOf_38 ?_
            refine cs_ne (tgt := 49) (X := (p_k1).toInt) (Y := ((gq).toInt - 1)) hx hb dX11_strengthOf_39 (by decide) rfl e19 (fun c20 => ?_) (fun c20 => ?_)
            · refine lv_aload_n hx hb dX11_strengthOf_49 rfl (lv_at hl 2 rfl) ?_
              refine gf_RX11_57 (v := .ref (a 15)) C hO 0 mW_0 rfl dX11_strengthOf_50 ?_
              refine lv_bipush (v := 8) hx hb dX11_strengthOf_53 (by decide) ?_
              refine lv_aload_n hx hb dX11_strengthOf_55 rfl (lv_at hl 2 rfl) ?_
              refine gf_RX11_255 (v := .int (fI u 0 36)) C hO 0 mW_0 rfl dX11_strengthOf_56 ?_
              have e21 : ((8 * (fI u 0 36))).toInt = 8 * ((fI u 0 36)).toInt := i_mul rfl rfl (by omega)
              refine lv_imul hx hb dX11_strengthOf_59 ?_
              refine lv_iload_n hx hb dX11_strengthOf_60 rfl (lv_at hl 0 rfl) ?_
              have e22 : (((8 * (fI u 0 36)) + p_k1)).toInt = (8 * ((fI u 0 36)).toInt) + (p_k1).toInt := i_add e21 rfl (by omega)
              refine lv_iadd hx hb dX11_strengthOf_61 ?_
              refine aI C hO 15 mW_15 (i_in (X := ((8 * ((fI u 0 36)).toInt) + (p_k1).toInt)) e22 (by omega) (by omega)) dX11_strengthOf_62 ?_
              refine tE (y := (fA u 15 (((8 * (fI u 0 36)) + p_k1)).toNatClampNeg)) (by exact rfl) ?_
              refine lv_iadd hx hb dX11_strengthOf_63 ?_
              refine lv_istore_n (lv' := [(2, .int (w2_k1 + (fA u 15 (((8 * (fI u 0 36)) + p_k1)).toNatClampNeg))), (3, .int p_k1), (0, .ref (a 0)), (1, .int x1)]) hx hb dX11_strengthOf_64 rfl hl (by decide) rfl (fun ls hl => ?_)
              have e23 : ((p_k1 + 1)).toInt = (p_k1).toInt + 1 := i_add rfl rfl (by omega)
              refine lv_iinc (v := (p_k1 + 1)) (lv' := [(3, .int (p_k1 + 1)), (2, .int (w2_k1 + (fA u 15 (((8 * (fI u 0 36)) + p_k1)).toNatClampNeg))), (0, .ref (a 0)), (1, .int x1)]) hx hb dX11_strengthOf_65 hl (k := 1) rfl rfl (by decide) rfl (fun ls hl => ?_)
              refine lv_goto (tgt := 4) hx hb dX11_strengthOf_68 (by decide) ?_
              exact ih_k1 _ _ _ ((p_k1 + 1)) ((w2_k1 + (fA u 15 (((8 * (fI u 0 36)) + p_k1)).toNatClampNeg))) hO (lv_sub hl [0, 1, 2, 3] rfl) (by first | decide | omega) (by first | decide | omega)
            · refine lv_aload_n hx hb dX11_strengthOf_42 rfl (lv_at hl 2 rfl) ?_
              refine gf_RX11_100 (v := .int (fI u 0 45)) C hO 0 mW_0 rfl dX11_strengthOf_43 ?_
              refine lv_goto (tgt := 63) hx hb dX11_strengthOf_46 (by decide) ?_
              refine lv_iadd hx hb dX11_strengthOf_63 ?_
              refine lv_istore_n (lv' := [(2, .int (w2_k1 + (fI u 0 45))), (3, .int p_k1), (0, .ref (a 0)), (1, .int x1)]) hx hb dX11_strengthOf_64 rfl hl (by decide) rfl (fun ls hl => ?_)
              have e24 : ((p_k1 + 1)).toInt = (p_k1).toInt + 1 := i_add rfl rfl (by omega)
              refine lv_iinc (v := (p_k1 + 1)) (lv' := [(3, .int (p_k1 + 1)), (2, .int (w2_k1 + (fI u 0 45))), (0, .ref (a 0)), (1, .int x1)]) hx hb dX11_strengthOf_65 hl (k := 1) rfl rfl (by decide) rfl (fun ls hl => ?_)
              refine lv_goto (tgt := 4) hx hb dX11_strengthOf_68 (by decide) ?_
              exact ih_k1 _ _ _ ((p_k1 + 1)) ((w2_k1 + (fI u 0 45))) hO (lv_sub hl [0, 1, 2, 3] rfl) (by first | decide | omega) (by first | decide | omega)
        · refine lv_iconst (v := 0) hx hb dX11_strengthOf_21 (by decide) ?_
          refine lv_goto (tgt := 63) hx hb dX11_strengthOf_22 (by decide) ?_
          have e25 : ((w2_k1 + 0)).toInt = (w2_k1).toInt + 0 := i_add rfl rfl (by omega)
          refine lv_iadd hx hb dX11_strengthOf_63 ?_
          refine lv_istore_n (lv' := [(2, .int (w2_k1 + 0)), (3, .int p_k1), (0, .ref (a 0)), (1, .int x1)]) hx hb dX11_strengthOf_64 rfl hl (by decide) rfl (fun ls hl => ?_)
          have e26 : ((p_k1 + 1)).toInt = (p_k1).toInt + 1 := i_add rfl rfl (by omega)
          refine lv_iinc (v := (p_k1 + 1)) (lv' := [(3, .int (p_k1 + 1)), (2, .int (w2_k1 + 0)), (0, .ref (a 0)), (1, .int x1)]) hx hb dX11_strengthOf_65 hl (k := 1) rfl rfl (by decide) rfl (fun ls hl => ?_)
          refine lv_goto (tgt := 4) hx hb dX11_strengthOf_68 (by decide) ?_
          exact ih_k1 _ _ _ ((p_k1 + 1)) ((w2_k1 + 0)) hO (lv_sub hl [0, 1, 2, 3] rfl) (by first | decide | omega) (by first | decide | omega)
  exact LP_4_k1 4000 _ _ _ (0) (0) hO (lv_sub hl [0, 1, 2, 3] rfl) (by first | decide | omega) (by first | decide | omega)
theorem dX11_heldNow_0 : decode cX11_heldNow 0 = .ok (.iconst 0, 1) := by decide +kernel
theorem dX11_heldNow_1 : decode cX11_heldNow 1 = .ok (.istore_n 1, 1) := by decide +kernel
theorem dX11_heldNow_2 : decode cX11_heldNow 2 = .ok (.iconst 0, 1) := by decide +kernel
theorem dX11_heldNow_3 : decode cX11_heldNow 3 = .ok (.istore_n 2, 1) := by decide +kernel
theorem dX11_heldNow_4 : decode cX11_heldNow 4 = .ok (.iload_n 2, 1) := by decide +kernel
theorem dX11_heldNow_5 : decode cX11_heldNow 5 = .ok (.aload_n 0, 1) := by decide +kernel
theorem dX11_heldNow_6 : decode cX11_heldNow 6 = .ok (.invokevirtual 371, 3) := by decide +kernel
theorem dX11_heldNow_9 : decode cX11_heldNow 9 = .ok (.if_icmp .ge 26, 3) := by decide +kernel
theorem dX11_heldNow_12 : decode cX11_heldNow 12 = .ok (.aload_n 0, 1) := by decide +kernel
theorem dX11_heldNow_13 : decode cX11_heldNow 13 = .ok (.getfield 97, 3) := by decide +kernel
theorem dX11_heldNow_16 : decode cX11_heldNow 16 = .ok (.iconst 0, 1) := by decide +kernel
theorem dX11_heldNow_17 : decode cX11_heldNow 17 = .ok (.iload_n 2, 1) := by decide +kernel
theorem dX11_heldNow_18 : decode cX11_heldNow 18 = .ok (.iadd, 1) := by decide +kernel
theorem dX11_heldNow_19 : decode cX11_heldNow 19 = .ok (.iaload, 1) := by decide +kernel
theorem dX11_heldNow_20 : decode cX11_heldNow 20 = .ok (.ifCond .ne 9, 3) := by decide +kernel
theorem dX11_heldNow_23 : decode cX11_heldNow 23 = .ok (.iload_n 1, 1) := by decide +kernel
theorem dX11_heldNow_24 : decode cX11_heldNow 24 = .ok (.iconst 1, 1) := by decide +kernel
theorem dX11_heldNow_25 : decode cX11_heldNow 25 = .ok (.iload_n 2, 1) := by decide +kernel
theorem dX11_heldNow_26 : decode cX11_heldNow 26 = .ok (.ishl, 1) := by decide +kernel
theorem dX11_heldNow_27 : decode cX11_heldNow 27 = .ok (.ior, 1) := by decide +kernel
theorem dX11_heldNow_28 : decode cX11_heldNow 28 = .ok (.istore_n 1, 1) := by decide +kernel
theorem dX11_heldNow_29 : decode cX11_heldNow 29 = .ok (.iinc 2 1, 3) := by decide +kernel
theorem dX11_heldNow_32 : decode cX11_heldNow 32 = .ok (.goto (-28), 3) := by decide +kernel
theorem dX11_heldNow_35 : decode cX11_heldNow 35 = .ok (.iload_n 1, 1) := by decide +kernel
theorem dX11_heldNow_36 : decode cX11_heldNow 36 = .ok (.ireturn, 1) := by decide +kernel
theorem wd_1843 : (Cond.code ⟨"WebCourtModel", "heldNow", "()I"⟩ prog_13_method_57_code (3 : Nat) (Option.some FieldType.int)) ∈ gtb := gtb_c8 54 (by decide +kernel) rfl
set_option maxHeartbeats 4000000 in
set_option maxRecDepth 100000 in
theorem T_X11_heldNow (l : Launch) (D : va_G) (cy : Nat → ClassId) (a : Nat → Nat) (u : St) (hJ : MI a u) (gm : Int32) (hgm : fA u 6 (fI u 0 36).toNatClampNeg = gm)   : Mi l D cy (mW cy a) yX11_heldNow (.code yX11_heldNow cX11_heldNow 3 (some .int)) (rmo 1 20) [.ref (a 0)] u (fun (r : Int32) (u' : St) => ((0 ≤ r.toInt ∧ r.toInt ≤ 63) ∧ (r.toInt = 0 ∨ 0 < gm.toInt)) ∧ (u' = u)) := by
  refine Mi.of (own := RX11) rfl (by decide) (Nat.le_of_ble_eq_true rfl) ?_
  have hT : Km0 u u := Km0.rf
  have hJ0 := hJ
  intro p e s m below meth c A Q ls C hret hO hl
  obtain ⟨hx, hb, hml, hown, ht, hK, hA⟩ := id C
  have hl : lv_has ls 3 [(0, .ref (a 0))] := hl
  refine lv_iconst (v := 0) hx hb dX11_heldNow_0 (by decide) ?_
  refine lv_istore_n (lv' := [(1, .int 0), (0, .ref (a 0))]) hx hb dX11_heldNow_1 rfl hl (by decide) rfl (fun ls hl => ?_)
  refine lv_iconst (v := 0) hx hb dX11_heldNow_2 (by decide) ?_
  refine lv_istore_n (lv' := [(2, .int 0), (1, .int 0), (0, .ref (a 0))]) hx hb dX11_heldNow_3 rfl hl (by decide) rfl (fun ls hl => ?_)
  have LP_4_k1 : ∀ (n : Nat) (H : Heap) (locs : List Loc) (ls : Array Slot) (c_k1 : Int32) (s_k1 : Int32), Wo D A (mW cy a u) s.heap H locs → lv_has ls 3 [(2, .int c_k1), (1, .int s_k1), (0, .ref (a 0))] → (s_k1.toInt = 0 ∨ 0 < gm.toInt) → 0 ≤ c_k1.toInt ∧ c_k1.toInt ≤ 6 → 0 ≤ s_k1.toInt ∧ s_k1.toInt ≤ 63 → 6 - c_k1.toInt < (n : Int) → W p l e (rmo 1 20) s m [.ref (a 0)].toArray below meth c H locs 0 0 Q (F0 m 4 ls []) := by
    intro n
    induction n with
    | zero =>
      intro H locs ls c_k1 s_k1 hO hl iv0_k1 iv1_k1 iv2_k1 hm_k1
      exact absurd hm_k1 (by omega)
    | succ n ih_k1 =>
      intro H locs ls c_k1 s_k1 hO hl iv0_k1 iv1_k1 iv2_k1 hm_k1
      refine lv_iload_n hx hb dX11_heldNow_4 rfl (lv_at hl 0 rfl) ?_
      refine lv_aload_n hx hb dX11_heldNow_5 rfl (lv_at hl 2 rfl) ?_
      have g2 : 0 ≤ (fI u 0 36).toInt ∧ (fI u 0 36).toInt ≤ 1 := by have h := MI_36 hJ0; exact h
      have g3 : 0 ≤ gm.toInt ∧ gm.toInt ≤ 6 := by have h := MI_A6 hJ0 (fI u 0 36).toNatClampNeg; rw [hgm] at h; exact h
      refine cVi (w := mW cy a) (As := []) (rest := [.int c_k1]) C hO (T_X11_many l D cy a _ (by exact hJ) (gm) (by exact hgm)) (cwV 0 ht (gV wd_1348 wd_1350 wd_46 wd_121 wd_1351) rfl rfl rfl hd_yX11_many ⟨Nat.le_of_ble_eq_true rfl, Nat.le_of_ble_eq_true rfl⟩) 0 rfl mW_0 rfl rfl hl.1 (Nat.le_of_ble_eq_true rfl) dX11_heldNow_6 rfl ⟨Nat.zero_le _, Nat.zero_le _⟩ (fun r4 u5 H locs hp6 hO => ?_)
      obtain ⟨hr4, hu5⟩ := hp6
      refine tE hr4 ?_
      rw [hu5] at hO
      refine cs_ge (tgt := 35) (X := (c_k1).toInt) (Y := (gm).toInt) hx hb dX11_heldNow_9 (by decide) rfl rfl (fun c7 => ?_) (fun c7 => ?_)
      · refine lv_iload_n hx hb dX11_heldNow_35 rfl (lv_at hl 1 rfl) ?_
        refine hret _ _ _ _ _ _ dX11_heldNow_36 rfl ?_ hO
        exact ⟨(by omega), rfl⟩
      · refine lv_aload_n hx hb dX11_heldNow_12 rfl (lv_at hl 2 rfl) ?_
        refine gf_RX11_97 (v := .ref (a 28)) C hO 0 mW_0 rfl dX11_heldNow_13 ?_
        refine lv_iconst (v := 0) hx hb dX11_heldNow_16 (by decide) ?_
        refine lv_iload_n hx hb dX11_heldNow_17 rfl (lv_at hl 0 rfl) ?_
        have e8 : ((0 + c_k1)).toInt = 0 + (c_k1).toInt := i_add rfl rfl (by omega)
        refine lv_iadd hx hb dX11_heldNow_18 ?_
        refine aI C hO 28 mW_28 (i_in (X := (0 + (c_k1).toInt)) e8 (by omega) (by omega)) dX11_heldNow_19 ?_
        refine tE (y := (fA u 28 ((0 + c_k1)).toNatClampNeg)) (by exact rfl) ?_
        refine bs_ne (tgt := 29) (X := ((fA u 28 ((0 + c_k1)).toNatClampNeg)).toInt) hx hb dX11_heldNow_20 (by decide) rfl (fun c9 => ?_) (fun c9 => ?_)
        · have e10 : ((c_k1 + 1)).toInt = (c_k1).toInt + 1 := i_add rfl rfl (by omega)
          refine lv_iinc (v := (c_k1 + 1)) (lv' := [(2, .int (c_k1 + 1)), (1, .int s_k1), (0, .ref (a 0))]) hx hb dX11_heldNow_29 hl (k := 0) rfl rfl (by decide) rfl (fun ls hl => ?_)
          refine lv_goto (tgt := 4) hx hb dX11_heldNow_32 (by decide) ?_
          exact ih_k1 _ _ _ ((c_k1 + 1)) (s_k1) hO (lv_sub hl [0, 1, 2] rfl) (by first | decide | omega) (by first | decide | omega) (by first | decide | omega) (by first | decide | omega)
        · refine lv_iload_n hx hb dX11_heldNow_23 rfl (lv_at hl 1 rfl) ?_
          refine lv_iconst (v := 1) hx hb dX11_heldNow_24 (by decide) ?_
          refine lv_iload_n hx hb dX11_heldNow_25 rfl (lv_at hl 0 rfl) ?_
          refine lv_ishl hx hb dX11_heldNow_26 ?_
          refine lv_topi (fun z11 ez11 => ?_)
          have g12 : 0 ≤ z11.toInt ∧ z11.toInt ≤ 2 ^ 5 := by rw [ez11]; exact i_shl1 rfl (by omega) (by omega) (by decide)
          refine lv_ior hx hb dX11_heldNow_27 ?_
          refine lv_topi (fun z13 ez13 => ?_)
          have g14 : 0 ≤ z13.toInt ∧ z13.toInt < 2 ^ 6 := by rw [ez13]; exact i_or rfl rfl (by omega) (by omega) (by decide)
          refine lv_istore_n (lv' := [(1, .int z13), (2, .int c_k1), (0, .ref (a 0))]) hx hb dX11_heldNow_28 rfl hl (by decide) rfl (fun ls hl => ?_)
          have e15 : ((c_k1 + 1)).toInt = (c_k1).toInt + 1 := i_add rfl rfl (by omega)
          refine lv_iinc (v := (c_k1 + 1)) (lv' := [(2, .int (c_k1 + 1)), (1, .int z13), (0, .ref (a 0))]) hx hb dX11_heldNow_29 hl (k := 1) rfl rfl (by decide) rfl (fun ls hl => ?_)
          refine lv_goto (tgt := 4) hx hb dX11_heldNow_32 (by decide) ?_
          exact ih_k1 _ _ _ ((c_k1 + 1)) (z13) hO (lv_sub hl [0, 1, 2] rfl) (by first | decide | omega) (by first | decide | omega) (by first | decide | omega) (by first | decide | omega)
  exact LP_4_k1 4000 _ _ _ (0) (0) hO (lv_sub hl [0, 1, 2] rfl) (by first | decide | omega) (by first | decide | omega) (by first | decide | omega) (by first | decide | omega)
theorem dX11_heldAt_0 : decode cX11_heldAt 0 = .ok (.iconst 0, 1) := by decide +kernel
theorem dX11_heldAt_1 : decode cX11_heldAt 1 = .ok (.istore_n 2, 1) := by decide +kernel
theorem dX11_heldAt_2 : decode cX11_heldAt 2 = .ok (.iconst 0, 1) := by decide +kernel
theorem dX11_heldAt_3 : decode cX11_heldAt 3 = .ok (.istore_n 3, 1) := by decide +kernel
theorem dX11_heldAt_4 : decode cX11_heldAt 4 = .ok (.iload_n 3, 1) := by decide +kernel
theorem dX11_heldAt_5 : decode cX11_heldAt 5 = .ok (.aload_n 0, 1) := by decide +kernel
theorem dX11_heldAt_6 : decode cX11_heldAt 6 = .ok (.invokevirtual 371, 3) := by decide +kernel
theorem dX11_heldAt_9 : decode cX11_heldAt 9 = .ok (.if_icmp .ge 35, 3) := by decide +kernel
theorem dX11_heldAt_12 : decode cX11_heldAt 12 = .ok (.aload_n 0, 1) := by decide +kernel
theorem dX11_heldAt_13 : decode cX11_heldAt 13 = .ok (.getfield 97, 3) := by decide +kernel
theorem dX11_heldAt_16 : decode cX11_heldAt 16 = .ok (.iconst 0, 1) := by decide +kernel
theorem dX11_heldAt_17 : decode cX11_heldAt 17 = .ok (.iload_n 3, 1) := by decide +kernel
theorem dX11_heldAt_18 : decode cX11_heldAt 18 = .ok (.iadd, 1) := by decide +kernel
theorem dX11_heldAt_19 : decode cX11_heldAt 19 = .ok (.iaload, 1) := by decide +kernel
theorem dX11_heldAt_20 : decode cX11_heldAt 20 = .ok (.ifCond .ne 18, 3) := by decide +kernel
theorem dX11_heldAt_23 : decode cX11_heldAt 23 = .ok (.aload_n 0, 1) := by decide +kernel
theorem dX11_heldAt_24 : decode cX11_heldAt 24 = .ok (.iload_n 3, 1) := by decide +kernel
theorem dX11_heldAt_25 : decode cX11_heldAt 25 = .ok (.invokevirtual 401, 3) := by decide +kernel
theorem dX11_heldAt_28 : decode cX11_heldAt 28 = .ok (.iload_n 1, 1) := by decide +kernel
theorem dX11_heldAt_29 : decode cX11_heldAt 29 = .ok (.if_icmp .ne 9, 3) := by decide +kernel
theorem dX11_heldAt_32 : decode cX11_heldAt 32 = .ok (.iload_n 2, 1) := by decide +kernel
theorem dX11_heldAt_33 : decode cX11_heldAt 33 = .ok (.iconst 1, 1) := by decide +kernel
theorem dX11_heldAt_34 : decode cX11_heldAt 34 = .ok (.iload_n 3, 1) := by decide +kernel
theorem dX11_heldAt_35 : decode cX11_heldAt 35 = .ok (.ishl, 1) := by decide +kernel
theorem dX11_heldAt_36 : decode cX11_heldAt 36 = .ok (.ior, 1) := by decide +kernel
theorem dX11_heldAt_37 : decode cX11_heldAt 37 = .ok (.istore_n 2, 1) := by decide +kernel
theorem dX11_heldAt_38 : decode cX11_heldAt 38 = .ok (.iinc 3 1, 3) := by decide +kernel
theorem dX11_heldAt_41 : decode cX11_heldAt 41 = .ok (.goto (-37), 3) := by decide +kernel
theorem dX11_heldAt_44 : decode cX11_heldAt 44 = .ok (.iload_n 2, 1) := by decide +kernel
theorem dX11_heldAt_45 : decode cX11_heldAt 45 = .ok (.ireturn, 1) := by decide +kernel
theorem wd_1732 : (Cond.code ⟨"WebCourtModel", "heldAt", "(I)I"⟩ prog_13_method_58_code (4 : Nat) (Option.some FieldType.int)) ∈ gtb := gtb_c7 183 (by decide +kernel) rfl
theorem wd_1733 : (Cond.methodLink "WebCourtModel" (401 : Nat) ⟨"WebCourtModel", "placeOf", "(I)I"⟩) ∈ gtb := gtb_c7 184 (by decide +kernel) rfl
theorem wd_1735 : (Cond.instanceMethod ⟨"WebCourtModel", "placeOf", "(I)I"⟩) ∈ gtb := gtb_c7 186 (by decide +kernel) rfl
theorem wd_80 : (Cond.selects "WebCourtModel" ⟨"WebCourtModel", "placeOf", "(I)I"⟩ ⟨"WebCourtModel", "placeOf", "(I)I"⟩) ∈ gtb := gtb_p 80 (by decide +kernel) rfl
theorem hd_yX11_placeOf : yX11_placeOf.cls = RX11 ∧ yX11_placeOf.cls ≠ "java/lang/invoke/MethodHandle" ∧ yX11_placeOf.cls ≠ "java/lang/invoke/VarHandle" ∧ (parseMethodDescriptor yX11_placeOf.desc).map (fun d => d.parameters.length) = some 1 := by decide +kernel
set_option maxHeartbeats 4000000 in
set_option maxRecDepth 100000 in
theorem T_X11_heldAt (l : Launch) (D : va_G) (cy : Nat → ClassId) (a : Nat → Nat) (u : St) (hJ : MI a u) (gm : Int32) (hgm : fA u 6 (fI u 0 36).toNatClampNeg = gm) (x1 : Int32)  : Mi l D cy (mW cy a) yX11_heldAt (.code yX11_heldAt cX11_heldAt 4 (some .int)) (rmo 1 21) [.ref (a 0), .int x1] u (fun (r : Int32) (u' : St) => (0 ≤ r.toInt ∧ r.toInt ≤ 63) ∧ (u' = u)) := by
  refine Mi.of (own := RX11) rfl (by decide) (Nat.le_of_ble_eq_true rfl) ?_
  have hT : Km0 u u := Km0.rf
  have hJ0 := hJ
  intro p e s m below meth c A Q ls C hret hO hl
  obtain ⟨hx, hb, hml, hown, ht, hK, hA⟩ := id C
  have hl : lv_has ls 4 [(0, .ref (a 0)), (1, .int x1)] := hl
  refine lv_iconst (v := 0) hx hb dX11_heldAt_0 (by decide) ?_
  refine lv_istore_n (lv' := [(2, .int 0), (0, .ref (a 0)), (1, .int x1)]) hx hb dX11_heldAt_1 rfl hl (by decide) rfl (fun ls hl => ?_)
  refine lv_iconst (v := 0) hx hb dX11_heldAt_2 (by decide) ?_
  refine lv_istore_n (lv' := [(3, .int 0), (2, .int 0), (0, .ref (a 0)), (1, .int x1)]) hx hb dX11_heldAt_3 rfl hl (by decide) rfl (fun ls hl => ?_)
  have LP_4_k1 : ∀ (n : Nat) (H : Heap) (locs : List Loc) (ls : Array Slot) (c_k1 : Int32) (s_k1 : Int32), Wo D A (mW cy a u) s.heap H locs → lv_has ls 4 [(3, .int c_k1), (2, .int s_k1), (0, .ref (a 0)), (1, .int x1)] → 0 ≤ c_k1.toInt ∧ c_k1.toInt ≤ 6 → 0 ≤ s_k1.toInt ∧ s_k1.toInt ≤ 63 → 6 - c_k1.toInt < (n : Int) → W p l e (rmo 1 21) s m [.ref (a 0), .int x1].toArray below meth c H locs 0 0 Q (F0 m 4 ls []) := by
    intro n
    induction n with
    | zero =>
      intro H locs ls c_k1 s_k1 hO hl iv0_k1 iv1_k1 hm_k1
      exact absurd hm_k1 (by omega)
    | succ n ih_k1 =>
      intro H locs ls c_k1 s_k1 hO hl iv0_k1 iv1_k1 hm_k1
      refine lv_iload_n hx hb dX11_heldAt_4 rfl (lv_at hl 0 rfl) ?_
      refine lv_aload_n hx hb dX11_heldAt_5 rfl (lv_at hl 2 rfl) ?_
      have g2 : 0 ≤ (fI u 0 36).toInt ∧ (fI u 0 36).toInt ≤ 1 := by have h := MI_36 hJ0; exact h
      have g3 : 0 ≤ gm.toInt ∧ gm.toInt ≤ 6 := by have h := MI_A6 hJ0 (fI u 0 36).toNatClampNeg; rw [hgm] at h; exact h
      refine cVi (w := mW cy a) (As := []) (rest := [.int c_k1]) C hO (T_X11_many l D cy a _ (by exact hJ) (gm) (by exact hgm)) (cwV 0 ht (gV wd_1348 wd_1350 wd_46 wd_121 wd_1351) rfl rfl rfl hd_yX11_many ⟨Nat.le_of_ble_eq_true rfl, Nat.le_of_ble_eq_true rfl⟩) 0 rfl mW_0 rfl rfl hl.1 (Nat.le_of_ble_eq_true rfl) dX11_heldAt_6 rfl ⟨Nat.zero_le _, Nat.zero_le _⟩ (fun r4 u5 H locs hp6 hO => ?_)
      obtain ⟨hr4, hu5⟩ := hp6
      refine tE hr4 ?_
      rw [hu5] at hO
      refine cs_ge (tgt := 44) (X := (c_k1).toInt) (Y := (gm).toInt) hx hb dX11_heldAt_9 (by decide) rfl rfl (fun c7 => ?_) (fun c7 => ?_)
      · refine lv_iload_n hx hb dX11_heldAt_44 rfl (lv_at hl 1 rfl) ?_
        refine hret _ _ _ _ _ _ dX11_heldAt_45 rfl ?_ hO
        exact ⟨(by first | decide | omega), rfl⟩
      · refine lv_aload_n hx hb dX11_heldAt_12 rfl (lv_at hl 2 rfl) ?_
        refine gf_RX11_97 (v := .ref (a 28)) C hO 0 mW_0 rfl dX11_heldAt_13 ?_
        refine lv_iconst (v := 0) hx hb dX11_heldAt_16 (by decide) ?_
        refine lv_iload_n hx hb dX11_heldAt_17 rfl (lv_at hl 0 rfl) ?_
        have e8 : ((0 + c_k1)).toInt = 0 + (c_k1).toInt := i_add rfl rfl (by omega)
        refine lv_iadd hx hb dX11_heldAt_18 ?_
        refine aI C hO 28 mW_28 (i_in (X := (0 + (c_k1).toInt)) e8 (by omega) (by omega)) dX11_heldAt_19 ?_
        refine tE (y := (fA u 28 ((0 + c_k1)).toNatClampNeg)) (by exact rfl) ?_
        refine bs_ne (tgt := 38) (X := ((fA u 28 ((0 + c_k1)).toNatClampNeg)).toInt) hx hb dX11_heldAt_20 (by decide) rfl (fun c9 => ?_) (fun c9 => ?_)
        · have e10 : ((c_k1 + 1)).toInt = (c_k1).toInt + 1 := i_add rfl rfl (by omega)
          refine lv_iinc (v := (c_k1 + 1)) (lv' := [(3, .int (c_k1 + 1)), (2, .int s_k1), (0, .ref (a 0)), (1, .int x1)]) hx hb dX11_heldAt_38 hl (k := 0) rfl rfl (by decide) rfl (fun ls hl => ?_)
          refine lv_goto (tgt := 4) hx hb dX11_heldAt_41 (by decide) ?_
          exact ih_k1 _ _ _ ((c_k1 + 1)) (s_k1) hO (lv_sub hl [0, 1, 2, 3] rfl) (by first | decide | omega) (by first | decide | omega) (by first | decide | omega)
        · refine lv_aload_n hx hb dX11_heldAt_23 rfl (lv_at hl 2 rfl) ?_
          refine lv_iload_n hx hb dX11_heldAt_24 rfl (lv_at hl 0 rfl) ?_
          refine cVi (w := mW cy a) (As := [.int c_k1]) (rest := []) C hO (T_X11_placeOf l D cy a _ (by exact hJ) (c_k1) (by first | omega | decide)) (cwV 1 ht (gV wd_1733 wd_1735 wd_80 wd_121 wd_1736) rfl rfl rfl hd_yX11_placeOf ⟨Nat.le_of_ble_eq_true rfl, Nat.le_of_ble_eq_true rfl⟩) 0 rfl mW_0 rfl rfl hl.1 (Nat.le_of_ble_eq_true rfl) dX11_heldAt_25 rfl ⟨Nat.zero_le _, Nat.zero_le _⟩ (fun r11 u12 H locs hp13 hO => ?_)
          obtain ⟨hr11, hu12⟩ := hp13
          rw [hu12] at hO
          refine lv_iload_n hx hb dX11_heldAt_28 rfl (lv_at hl 3 rfl) ?_
          refine cs_ne (tgt := 38) (X := (r11).toInt) (Y := (x1).toInt) hx hb dX11_heldAt_29 (by decide) rfl rfl (fun c14 => ?_) (fun c14 => ?_)
          · have e15 : ((c_k1 + 1)).toInt = (c_k1).toInt + 1 := i_add rfl rfl (by omega)
            refine lv_iinc (v := (c_k1 + 1)) (lv' := [(3, .int (c_k1 + 1)), (2, .int s_k1), (0, .ref (a 0)), (1, .int x1)]) hx hb dX11_heldAt_38 hl (k := 0) rfl rfl (by decide) rfl (fun ls hl => ?_)
            refine lv_goto (tgt := 4) hx hb dX11_heldAt_41 (by decide) ?_
            exact ih_k1 _ _ _ ((c_k1 + 1)) (s_k1) hO (lv_sub hl [0, 1, 2, 3] rfl) (by first | decide | omega) (by first | decide | omega) (by first | decide | omega)
          · refine lv_iload_n hx hb dX11_heldAt_32 rfl (lv_at hl 1 rfl) ?_
            refine lv_iconst (v := 1) hx hb dX11_heldAt_33 (by decide) ?_
            refine lv_iload_n hx hb dX11_heldAt_34 rfl (lv_at hl 0 rfl) ?_
            refine lv_ishl hx hb dX11_heldAt_35 ?_
            refine lv_topi (fun z16 ez16 => ?_)
            have g17 : 0 ≤ z16.toInt ∧ z16.toInt ≤ 2 ^ 5 := by rw [ez16]; exact i_shl1 rfl (by omega) (by omega) (by decide)
            refine lv_ior hx hb dX11_heldAt_36 ?_
            refine lv_topi (fun z18 ez18 => ?_)
            have g19 : 0 ≤ z18.toInt ∧ z18.toInt < 2 ^ 6 := by rw [ez18]; exact i_or rfl rfl (by omega) (by omega) (by decide)
            refine lv_istore_n (lv' := [(2, .int z18), (3, .int c_k1), (0, .ref (a 0)), (1, .int x1)]) hx hb dX11_heldAt_37 rfl hl (by decide) rfl (fun ls hl => ?_)
            have e20 : ((c_k1 + 1)).toInt = (c_k1).toInt + 1 := i_add rfl rfl (by omega)
            refine lv_iinc (v := (c_k1 + 1)) (lv' := [(3, .int (c_k1 + 1)), (2, .int z18), (0, .ref (a 0)), (1, .int x1)]) hx hb dX11_heldAt_38 hl (k := 1) rfl rfl (by decide) rfl (fun ls hl => ?_)
            refine lv_goto (tgt := 4) hx hb dX11_heldAt_41 (by decide) ?_
            exact ih_k1 _ _ _ ((c_k1 + 1)) (z18) hO (lv_sub hl [0, 1, 2, 3] rfl) (by first | decide | omega) (by first | decide | omega) (by first | decide | omega)
  exact LP_4_k1 4000 _ _ _ (0) (0) hO (lv_sub hl [0, 1, 2, 3] rfl) (by first | decide | omega) (by first | decide | omega) (by first | decide | omega)
theorem dX11_kinOf_0 : decode cX11_kinOf 0 = .ok (.aload_n 0, 1) := by decide +kernel
theorem dX11_kinOf_1 : decode cX11_kinOf 1 = .ok (.aload_n 0, 1) := by decide +kernel
theorem dX11_kinOf_2 : decode cX11_kinOf 2 = .ok (.iload_n 1, 1) := by decide +kernel
theorem dX11_kinOf_3 : decode cX11_kinOf 3 = .ok (.invokevirtual 401, 3) := by decide +kernel
theorem dX11_kinOf_6 : decode cX11_kinOf 6 = .ok (.invokevirtual 404, 3) := by decide +kernel
theorem dX11_kinOf_9 : decode cX11_kinOf 9 = .ok (.iconst 1, 1) := by decide +kernel
theorem dX11_kinOf_10 : decode cX11_kinOf 10 = .ok (.iload_n 1, 1) := by decide +kernel
theorem dX11_kinOf_11 : decode cX11_kinOf 11 = .ok (.ishl, 1) := by decide +kernel
theorem dX11_kinOf_12 : decode cX11_kinOf 12 = .ok (.iconst (-1), 1) := by decide +kernel
theorem dX11_kinOf_13 : decode cX11_kinOf 13 = .ok (.ixor, 1) := by decide +kernel
theorem dX11_kinOf_14 : decode cX11_kinOf 14 = .ok (.iand, 1) := by decide +kernel
theorem dX11_kinOf_15 : decode cX11_kinOf 15 = .ok (.invokestatic 316, 3) := by decide +kernel
theorem dX11_kinOf_18 : decode cX11_kinOf 18 = .ok (.ireturn, 1) := by decide +kernel
theorem wd_1784 : (Cond.code ⟨"WebCourtModel", "kinOf", "(I)I"⟩ prog_13_method_59_code (2 : Nat) (Option.some FieldType.int)) ∈ gtb := gtb_c7 235 (by decide +kernel) rfl
theorem wd_1729 : (Cond.methodLink "WebCourtModel" (404 : Nat) ⟨"WebCourtModel", "heldAt", "(I)I"⟩) ∈ gtb := gtb_c7 180 (by decide +kernel) rfl
theorem wd_1731 : (Cond.instanceMethod ⟨"WebCourtModel", "heldAt", "(I)I"⟩) ∈ gtb := gtb_c7 182 (by decide +kernel) rfl
theorem wd_79 : (Cond.selects "WebCourtModel" ⟨"WebCourtModel", "heldAt", "(I)I"⟩ ⟨"WebCourtModel", "heldAt", "(I)I"⟩) ∈ gtb := gtb_p 79 (by decide +kernel) rfl
theorem hd_yX11_heldAt : yX11_heldAt.cls = RX11 ∧ yX11_heldAt.cls ≠ "java/lang/invoke/MethodHandle" ∧ yX11_heldAt.cls ≠ "java/lang/invoke/VarHandle" ∧ (parseMethodDescriptor yX11_heldAt.desc).map (fun d => d.parameters.length) = some 1 := by decide +kernel
theorem wd_1663 : (Cond.methodLink "WebCourtModel" (316 : Nat) ⟨"WebCourtModel", "bitsOf", "(I)I"⟩) ∈ gtb := gtb_c7 114 (by decide +kernel) rfl
theorem wd_1664 : (Cond.static ⟨"WebCourtModel", "bitsOf", "(I)I"⟩) ∈ gtb := gtb_c7 115 (by decide +kernel) rfl
theorem hd_yX11_bitsOf : yX11_bitsOf.cls ≠ "java/lang/invoke/MethodHandle" ∧ yX11_bitsOf.cls ≠ "java/lang/invoke/VarHandle" ∧ (parseMethodDescriptor yX11_bitsOf.desc).map (fun d => d.parameters.length) = some 1 := by decide +kernel
set_option maxHeartbeats 4000000 in
set_option maxRecDepth 100000 in
theorem T_X11_kinOf (l : Launch) (D : va_G) (cy : Nat → ClassId) (a : Nat → Nat) (u : St) (hJ : MI a u) (x1 : Int32) (hx_x1 : 0 ≤ x1.toInt ∧ x1.toInt ≤ 5) : Mi l D cy (mW cy a) yX11_kinOf (.code yX11_kinOf cX11_kinOf 2 (some .int)) (rmo 2 44) [.ref (a 0), .int x1] u (fun (r : Int32) (u' : St) => u' = u) := by
  refine Mi.of (own := RX11) rfl (by decide) (Nat.le_of_ble_eq_true rfl) ?_
  have hT : Km0 u u := Km0.rf
  have hJ0 := hJ
  intro p e s m below meth c A Q ls C hret hO hl
  obtain ⟨hx, hb, hml, hown, ht, hK, hA⟩ := id C
  have hl : lv_has ls 2 [(0, .ref (a 0)), (1, .int x1)] := hl
  refine lv_aload_n hx hb dX11_kinOf_0 rfl (lv_at hl 0 rfl) ?_
  refine lv_aload_n hx hb dX11_kinOf_1 rfl (lv_at hl 0 rfl) ?_
  refine lv_iload_n hx hb dX11_kinOf_2 rfl (lv_at hl 1 rfl) ?_
  refine cVi (w := mW cy a) (As := [.int x1]) (rest := [.ref (a 0)]) C hO (T_X11_placeOf l D cy a _ (by exact hJ) (x1) (by first | omega | decide)) (cwV 1 ht (gV wd_1733 wd_1735 wd_80 wd_121 wd_1736) rfl rfl rfl hd_yX11_placeOf ⟨Nat.le_of_ble_eq_true rfl, Nat.le_of_ble_eq_true rfl⟩) 0 rfl mW_0 rfl rfl hl.1 (Nat.le_of_ble_eq_true rfl) dX11_kinOf_3 rfl ⟨Nat.zero_le _, Nat.zero_le _⟩ (fun r1 u2 H locs hp3 hO => ?_)
  obtain ⟨hr1, hu2⟩ := hp3
  rw [hu2] at hO
  have g4 : 0 ≤ (fI u 0 36).toInt ∧ (fI u 0 36).toInt ≤ 1 := by have h := MI_36 hJ0; exact h
  have g5 : 0 ≤ (fA u 6 ((fI u 0 36)).toNatClampNeg).toInt ∧ (fA u 6 ((fI u 0 36)).toNatClampNeg).toInt ≤ 6 := by have h := MI_A6 hJ0 ((fI u 0 36)).toNatClampNeg; exact h
  refine cVi (w := mW cy a) (As := [.int r1]) (rest := []) C hO (T_X11_heldAt l D cy a _ (by exact hJ) ((fA u 6 ((fI u 0 36)).toNatClampNeg)) (by exact rfl) (r1)) (cwV 1 ht (gV wd_1729 wd_1731 wd_79 wd_121 wd_1732) rfl rfl rfl hd_yX11_heldAt ⟨Nat.le_of_ble_eq_true rfl, Nat.le_of_ble_eq_true rfl⟩) 0 rfl mW_0 rfl rfl hl.1 (Nat.le_of_ble_eq_true rfl) dX11_kinOf_6 rfl ⟨Nat.zero_le _, Nat.zero_le _⟩ (fun r6 u7 H locs hp8 hO => ?_)
  obtain ⟨hr6, hu7⟩ := hp8
  rw [hu7] at hO
  refine lv_iconst (v := 1) hx hb dX11_kinOf_9 (by decide) ?_
  refine lv_iload_n hx hb dX11_kinOf_10 rfl (lv_at hl 1 rfl) ?_
  refine lv_ishl hx hb dX11_kinOf_11 ?_
  refine lv_topi (fun z9 ez9 => ?_)
  have g10 : 0 ≤ z9.toInt ∧ z9.toInt ≤ 2 ^ 5 := by rw [ez9]; exact i_shl1 rfl (by omega) (by omega) (by decide)
  refine lv_iconst (v := (-1)) hx hb dX11_kinOf_12 (by decide) ?_
  refine lv_ixor hx hb dX11_kinOf_13 ?_
  refine lv_topi (fun z11 ez11 => ?_)
  refine lv_iand hx hb dX11_kinOf_14 ?_
  refine lv_topi (fun z12 ez12 => ?_)
  have g13 : 0 ≤ z12.toInt ∧ z12.toInt ≤ (r6).toInt := by rw [ez12]; exact i_andl rfl (by omega)
  refine cSi (w := mW cy a) (As := [.int z12]) (rest := []) C hO (T_X11_bitsOf_8 l D cy a _ (by exact hJ) (z12) (by first | omega | decide)) (va_cwS 1 ht (gSS wd_1663 wd_1664 wd_121 wd_1665) rfl rfl rfl hd_yX11_bitsOf ⟨Nat.le_of_ble_eq_true rfl, Nat.le_of_ble_eq_true rfl⟩)  rfl hl.1 (Nat.le_of_ble_eq_true rfl) dX11_kinOf_15 rfl ⟨Nat.zero_le _, Nat.zero_le _⟩ (fun r14 u15 H locs hp16 hO => ?_)
  obtain ⟨hr14, hu15⟩ := hp16
  rw [hu15] at hO
  have gr14 : 0 ≤ r14.toInt ∧ r14.toInt ≤ 6 := by unfold pc8 at hr14; omega
  refine hret _ _ _ _ _ _ dX11_kinOf_18 rfl ?_ hO
  exact rfl
theorem dX11_nextTo_0 : decode cX11_nextTo 0 = .ok (.iconst 0, 1) := by decide +kernel
theorem dX11_nextTo_1 : decode cX11_nextTo 1 = .ok (.istore_n 3, 1) := by decide +kernel
theorem dX11_nextTo_2 : decode cX11_nextTo 2 = .ok (.iconst 0, 1) := by decide +kernel
theorem dX11_nextTo_3 : decode cX11_nextTo 3 = .ok (.istore 4, 2) := by decide +kernel
theorem dX11_nextTo_5 : decode cX11_nextTo 5 = .ok (.iload 4, 2) := by decide +kernel
theorem dX11_nextTo_7 : decode cX11_nextTo 7 = .ok (.aload_n 0, 1) := by decide +kernel
theorem dX11_nextTo_8 : decode cX11_nextTo 8 = .ok (.getfield 24, 3) := by decide +kernel
theorem dX11_nextTo_11 : decode cX11_nextTo 11 = .ok (.aload_n 0, 1) := by decide +kernel
theorem dX11_nextTo_12 : decode cX11_nextTo 12 = .ok (.getfield 255, 3) := by decide +kernel
theorem dX11_nextTo_15 : decode cX11_nextTo 15 = .ok (.iaload, 1) := by decide +kernel
theorem dX11_nextTo_16 : decode cX11_nextTo 16 = .ok (.if_icmp .ge 86, 3) := by decide +kernel
theorem dX11_nextTo_19 : decode cX11_nextTo 19 = .ok (.bipush 14, 2) := by decide +kernel
theorem dX11_nextTo_21 : decode cX11_nextTo 21 = .ok (.aload_n 0, 1) := by decide +kernel
theorem dX11_nextTo_22 : decode cX11_nextTo 22 = .ok (.getfield 255, 3) := by decide +kernel
theorem dX11_nextTo_25 : decode cX11_nextTo 25 = .ok (.imul, 1) := by decide +kernel
theorem dX11_nextTo_26 : decode cX11_nextTo 26 = .ok (.iload 4, 2) := by decide +kernel
theorem dX11_nextTo_28 : decode cX11_nextTo 28 = .ok (.iadd, 1) := by decide +kernel
theorem dX11_nextTo_29 : decode cX11_nextTo 29 = .ok (.istore 5, 2) := by decide +kernel
theorem dX11_nextTo_31 : decode cX11_nextTo 31 = .ok (.aload_n 0, 1) := by decide +kernel
theorem dX11_nextTo_32 : decode cX11_nextTo 32 = .ok (.getfield 97, 3) := by decide +kernel
theorem dX11_nextTo_35 : decode cX11_nextTo 35 = .ok (.bipush 28, 2) := by decide +kernel
theorem dX11_nextTo_37 : decode cX11_nextTo 37 = .ok (.iaload, 1) := by decide +kernel
theorem dX11_nextTo_38 : decode cX11_nextTo 38 = .ok (.iload 4, 2) := by decide +kernel
theorem dX11_nextTo_40 : decode cX11_nextTo 40 = .ok (.invokestatic 264, 3) := by decide +kernel
theorem dX11_nextTo_43 : decode cX11_nextTo 43 = .ok (.iload_n 2, 1) := by decide +kernel
theorem dX11_nextTo_44 : decode cX11_nextTo 44 = .ok (.if_icmp .eq 6, 3) := by decide +kernel
theorem dX11_nextTo_47 : decode cX11_nextTo 47 = .ok (.goto 49, 3) := by decide +kernel
theorem dX11_nextTo_50 : decode cX11_nextTo 50 = .ok (.aload_n 0, 1) := by decide +kernel
theorem dX11_nextTo_51 : decode cX11_nextTo 51 = .ok (.getfield 51, 3) := by decide +kernel
theorem dX11_nextTo_54 : decode cX11_nextTo 54 = .ok (.iload 5, 2) := by decide +kernel
theorem dX11_nextTo_56 : decode cX11_nextTo 56 = .ok (.iaload, 1) := by decide +kernel
theorem dX11_nextTo_57 : decode cX11_nextTo 57 = .ok (.iload_n 1, 1) := by decide +kernel
theorem dX11_nextTo_58 : decode cX11_nextTo 58 = .ok (.if_icmp .ne 15, 3) := by decide +kernel
theorem dX11_nextTo_61 : decode cX11_nextTo 61 = .ok (.iload_n 3, 1) := by decide +kernel
theorem dX11_nextTo_62 : decode cX11_nextTo 62 = .ok (.iconst 1, 1) := by decide +kernel
theorem dX11_nextTo_63 : decode cX11_nextTo 63 = .ok (.aload_n 0, 1) := by decide +kernel
theorem dX11_nextTo_64 : decode cX11_nextTo 64 = .ok (.getfield 54, 3) := by decide +kernel
theorem dX11_nextTo_67 : decode cX11_nextTo 67 = .ok (.iload 5, 2) := by decide +kernel
theorem dX11_nextTo_69 : decode cX11_nextTo 69 = .ok (.iaload, 1) := by decide +kernel
theorem dX11_nextTo_70 : decode cX11_nextTo 70 = .ok (.ishl, 1) := by decide +kernel
theorem dX11_nextTo_71 : decode cX11_nextTo 71 = .ok (.ior, 1) := by decide +kernel
theorem dX11_nextTo_72 : decode cX11_nextTo 72 = .ok (.istore_n 3, 1) := by decide +kernel
theorem dX11_nextTo_73 : decode cX11_nextTo 73 = .ok (.aload_n 0, 1) := by decide +kernel
theorem dX11_nextTo_74 : decode cX11_nextTo 74 = .ok (.getfield 54, 3) := by decide +kernel
theorem dX11_nextTo_77 : decode cX11_nextTo 77 = .ok (.iload 5, 2) := by decide +kernel
theorem dX11_nextTo_79 : decode cX11_nextTo 79 = .ok (.iaload, 1) := by decide +kernel
theorem dX11_nextTo_80 : decode cX11_nextTo 80 = .ok (.iload_n 1, 1) := by decide +kernel
theorem dX11_nextTo_81 : decode cX11_nextTo 81 = .ok (.if_icmp .ne 15, 3) := by decide +kernel
theorem dX11_nextTo_84 : decode cX11_nextTo 84 = .ok (.iload_n 3, 1) := by decide +kernel
theorem dX11_nextTo_85 : decode cX11_nextTo 85 = .ok (.iconst 1, 1) := by decide +kernel
theorem dX11_nextTo_86 : decode cX11_nextTo 86 = .ok (.aload_n 0, 1) := by decide +kernel
theorem dX11_nextTo_87 : decode cX11_nextTo 87 = .ok (.getfield 51, 3) := by decide +kernel
theorem dX11_nextTo_90 : decode cX11_nextTo 90 = .ok (.iload 5, 2) := by decide +kernel
theorem dX11_nextTo_92 : decode cX11_nextTo 92 = .ok (.iaload, 1) := by decide +kernel
theorem dX11_nextTo_93 : decode cX11_nextTo 93 = .ok (.ishl, 1) := by decide +kernel
theorem dX11_nextTo_94 : decode cX11_nextTo 94 = .ok (.ior, 1) := by decide +kernel
theorem dX11_nextTo_95 : decode cX11_nextTo 95 = .ok (.istore_n 3, 1) := by decide +kernel
theorem dX11_nextTo_96 : decode cX11_nextTo 96 = .ok (.iinc 4 1, 3) := by decide +kernel
theorem dX11_nextTo_99 : decode cX11_nextTo 99 = .ok (.goto (-94), 3) := by decide +kernel
theorem dX11_nextTo_102 : decode cX11_nextTo 102 = .ok (.iload_n 3, 1) := by decide +kernel
theorem dX11_nextTo_103 : decode cX11_nextTo 103 = .ok (.ireturn, 1) := by decide +kernel
theorem wd_1728 : (Cond.code ⟨"WebCourtModel", "nextTo", "(IZ)I"⟩ prog_13_method_64_code (6 : Nat) (Option.some FieldType.int)) ∈ gtb := gtb_c7 179 (by decide +kernel) rfl
theorem wd_1368 : (Cond.fieldLink "WebCourtModel" (24 : Nat) "WebCourtModel" "lines" "[I") ∈ gtb := gtb_c6 59 (by decide +kernel) rfl
theorem gf_RX11_24 {p : Program} {l : Launch} {e : Env} {R : Room} {s : State} {m : MethodId} {args : Array Value} {below : List Frame} {meth : Method} {c : Code} {H : Heap} {locs : List Loc} {cells slots : Nat} {Q : State → Prop} {cc : ByteArray} {pc nL : Nat} {ls : Array Slot} {rest : List Value} {D : va_G} {cy : Nat → ClassId} {A : Nat → Prop} {ws : va_W} {b : Nat} {fs : List Value} {v : Value} (C : Cx p s m args c cc nL RX11 D cy A) (hO : Wo D A ws s.heap H locs) (q0 : Nat) (he : ws[q0]? = some (b, .inr (11, fs))) (hv : fs[12]? = some v) (hdg : decode cc pc = .ok (.getfield 24, 3)) (kk : W p l e R s m args below meth c H locs cells slots Q (F0 m (pc + 3) ls (v :: rest))) : W p l e R s m args below meth c H locs cells slots Q (F0 m pc ls (.ref b :: rest)) := gF (k := 12) C hO q0 he rfl inFX11 (by decide) wd_1368 rfl hv hdg kk
theorem wd_1377 : (Cond.fieldLink "WebCourtModel" (51 : Nat) "WebCourtModel" "oneEnd" "[I") ∈ gtb := gtb_c6 68 (by decide +kernel) rfl
theorem gf_RX11_51 {p : Program} {l : Launch} {e : Env} {R : Room} {s : State} {m : MethodId} {args : Array Value} {below : List Frame} {meth : Method} {c : Code} {H : Heap} {locs : List Loc} {cells slots : Nat} {Q : State → Prop} {cc : ByteArray} {pc nL : Nat} {ls : Array Slot} {rest : List Value} {D : va_G} {cy : Nat → ClassId} {A : Nat → Prop} {ws : va_W} {b : Nat} {fs : List Value} {v : Value} (C : Cx p s m args c cc nL RX11 D cy A) (hO : Wo D A ws s.heap H locs) (q0 : Nat) (he : ws[q0]? = some (b, .inr (11, fs))) (hv : fs[21]? = some v) (hdg : decode cc pc = .ok (.getfield 51, 3)) (kk : W p l e R s m args below meth c H locs cells slots Q (F0 m (pc + 3) ls (v :: rest))) : W p l e R s m args below meth c H locs cells slots Q (F0 m pc ls (.ref b :: rest)) := gF (k := 21) C hO q0 he rfl inFX11 (by decide) wd_1377 rfl hv hdg kk
theorem wd_1378 : (Cond.fieldLink "WebCourtModel" (54 : Nat) "WebCourtModel" "otherEnd" "[I") ∈ gtb := gtb_c6 69 (by decide +kernel) rfl
theorem gf_RX11_54 {p : Program} {l : Launch} {e : Env} {R : Room} {s : State} {m : MethodId} {args : Array Value} {below : List Frame} {meth : Method} {c : Code} {H : Heap} {locs : List Loc} {cells slots : Nat} {Q : State → Prop} {cc : ByteArray} {pc nL : Nat} {ls : Array Slot} {rest : List Value} {D : va_G} {cy : Nat → ClassId} {A : Nat → Prop} {ws : va_W} {b : Nat} {fs : List Value} {v : Value} (C : Cx p s m args c cc nL RX11 D cy A) (hO : Wo D A ws s.heap H locs) (q0 : Nat) (he : ws[q0]? = some (b, .inr (11, fs))) (hv : fs[22]? = some v) (hdg : decode cc pc = .ok (.getfield 54, 3)) (kk : W p l e R s m args below meth c H locs cells slots Q (F0 m (pc + 3) ls (v :: rest))) : W p l e R s m args below meth c H locs cells slots Q (F0 m pc ls (.ref b :: rest)) := gF (k := 22) C hO q0 he rfl inFX11 (by decide) wd_1378 rfl hv hdg kk
set_option maxHeartbeats 4000000 in
set_option maxRecDepth 100000 in
theorem T_X11_nextTo (l : Launch) (D : va_G) (cy : Nat → ClassId) (a : Nat → Nat) (u : St) (hJ : MI a u) (x1 : Int32) (x2 : Int32)  : Mi l D cy (mW cy a) yX11_nextTo (.code yX11_nextTo cX11_nextTo 6 (some .int)) (rmo 1 21) [.ref (a 0), .int x1, .int x2] u (fun (r : Int32) (u' : St) => u' = u) := by
  refine Mi.of (own := RX11) rfl (by decide) (Nat.le_of_ble_eq_true rfl) ?_
  have hT : Km0 u u := Km0.rf
  have hJ0 := hJ
  intro p e s m below meth c A Q ls C hret hO hl
  obtain ⟨hx, hb, hml, hown, ht, hK, hA⟩ := id C
  have hl : lv_has ls 6 [(0, .ref (a 0)), (1, .int x1), (2, .int x2)] := hl
  refine lv_iconst (v := 0) hx hb dX11_nextTo_0 (by decide) ?_
  refine lv_istore_n (lv' := [(3, .int 0), (0, .ref (a 0)), (1, .int x1), (2, .int x2)]) hx hb dX11_nextTo_1 rfl hl (by decide) rfl (fun ls hl => ?_)
  refine lv_iconst (v := 0) hx hb dX11_nextTo_2 (by decide) ?_
  refine lv_istore (lv' := [(4, .int 0), (3, .int 0), (0, .ref (a 0)), (1, .int x1), (2, .int x2)]) hx hb dX11_nextTo_3 hl (by decide) rfl (fun ls hl => ?_)
  have LP_5_k1 : ∀ (n : Nat) (H : Heap) (locs : List Loc) (ls : Array Slot) (n_k1 : Int32) (s_k1 : Int32), Wo D A (mW cy a u) s.heap H locs → lv_has ls 6 [(4, .int n_k1), (3, .int s_k1), (0, .ref (a 0)), (1, .int x1), (2, .int x2)] → 0 ≤ n_k1.toInt ∧ n_k1.toInt ≤ 14 → 14 - n_k1.toInt < (n : Int) → W p l e (rmo 1 21) s m [.ref (a 0), .int x1, .int x2].toArray below meth c H locs 0 0 Q (F0 m 5 ls []) := by
    intro n
    induction n with
    | zero =>
      intro H locs ls n_k1 s_k1 hO hl iv0_k1 hm_k1
      exact absurd hm_k1 (by omega)
    | succ n ih_k1 =>
      intro H locs ls n_k1 s_k1 hO hl iv0_k1 hm_k1
      refine lv_iload hx hb dX11_nextTo_5 (lv_at hl 0 rfl) ?_
      refine lv_aload_n hx hb dX11_nextTo_7 rfl (lv_at hl 2 rfl) ?_
      refine gf_RX11_24 (v := .ref (a 4)) C hO 0 mW_0 rfl dX11_nextTo_8 ?_
      refine lv_aload_n hx hb dX11_nextTo_11 rfl (lv_at hl 2 rfl) ?_
      have g2 : 0 ≤ (fI u 0 36).toInt ∧ (fI u 0 36).toInt ≤ 1 := by have h := MI_36 hJ0; exact h
      refine gf_RX11_255 (v := .int (fI u 0 36)) C hO 0 mW_0 rfl dX11_nextTo_12 ?_
      refine aI C hO 4 mW_4 (i_in (X := ((fI u 0 36)).toInt) rfl (by omega) (by omega)) dX11_nextTo_15 ?_
      have g3 : 0 ≤ (fA u 4 ((fI u 0 36)).toNatClampNeg).toInt ∧ (fA u 4 ((fI u 0 36)).toNatClampNeg).toInt ≤ 14 := by have h := MI_A4 hJ0 ((fI u 0 36)).toNatClampNeg; exact h
      refine tE (y := (fA u 4 ((fI u 0 36)).toNatClampNeg)) (by exact rfl) ?_
      refine cs_ge (tgt := 102) (X := (n_k1).toInt) (Y := ((fA u 4 ((fI u 0 36)).toNatClampNeg)).toInt) hx hb dX11_nextTo_16 (by decide) rfl rfl (fun c4 => ?_) (fun c4 => ?_)
      · refine lv_iload_n hx hb dX11_nextTo_102 rfl (lv_at hl 1 rfl) ?_
        refine hret _ _ _ _ _ _ dX11_nextTo_103 rfl ?_ hO
        exact rfl
      · refine lv_bipush (v := 14) hx hb dX11_nextTo_19 (by decide) ?_
        refine lv_aload_n hx hb dX11_nextTo_21 rfl (lv_at hl 2 rfl) ?_
        refine gf_RX11_255 (v := .int (fI u 0 36)) C hO 0 mW_0 rfl dX11_nextTo_22 ?_
        have e5 : ((14 * (fI u 0 36))).toInt = 14 * ((fI u 0 36)).toInt := i_mul rfl rfl (by omega)
        refine lv_imul hx hb dX11_nextTo_25 ?_
        refine lv_iload hx hb dX11_nextTo_26 (lv_at hl 0 rfl) ?_
        have e6 : (((14 * (fI u 0 36)) + n_k1)).toInt = (14 * ((fI u 0 36)).toInt) + (n_k1).toInt := i_add e5 rfl (by omega)
        refine lv_iadd hx hb dX11_nextTo_28 ?_
        refine lv_istore (lv' := [(5, .int ((14 * (fI u 0 36)) + n_k1)), (4, .int n_k1), (3, .int s_k1), (0, .ref (a 0)), (1, .int x1), (2, .int x2)]) hx hb dX11_nextTo_29 hl (by decide) rfl (fun ls hl => ?_)
        refine lv_aload_n hx hb dX11_nextTo_31 rfl (lv_at hl 3 rfl) ?_
        refine gf_RX11_97 (v := .ref (a 28)) C hO 0 mW_0 rfl dX11_nextTo_32 ?_
        refine lv_bipush (v := 28) hx hb dX11_nextTo_35 (by decide) ?_
        refine aI C hO 28 mW_28 (i_in (X := 28) rfl (by omega) (by omega)) dX11_nextTo_37 ?_
        refine tE (y := (fA u 28 28)) (by exact rfl) ?_
        refine lv_iload hx hb dX11_nextTo_38 (lv_at hl 1 rfl) ?_
        refine cSi (w := mW cy a) (As := [.int (fA u 28 28), .int n_k1]) (rest := []) C hO (T_X11_bit l D cy a _ (by exact hJ) ((fA u 28 28)) (n_k1)) (va_cwS 2 ht (gSS wd_1612 wd_1613 wd_121 wd_1614) rfl rfl rfl hd_yX11_bit ⟨Nat.le_of_ble_eq_true rfl, Nat.le_of_ble_eq_true rfl⟩)  rfl hl.1 (Nat.le_of_ble_eq_true rfl) dX11_nextTo_40 rfl ⟨Nat.zero_le _, Nat.zero_le _⟩ (fun r7 u8 H locs hp9 hO => ?_)
        obtain ⟨hr7, hu8⟩ := hp9
        rw [hu8] at hO
        obtain ⟨hr7, hbr7⟩ := hr7
        have gr7 : 0 ≤ r7.toInt ∧ r7.toInt ≤ 1 := by rcases hr7 with h | h <;> rw [h] <;> decide
        refine lv_iload_n hx hb dX11_nextTo_43 rfl (lv_at hl 5 rfl) ?_
        refine cs_eq (tgt := 50) (X := (r7).toInt) (Y := (x2).toInt) hx hb dX11_nextTo_44 (by decide) rfl rfl (fun c10 => ?_) (fun c10 => ?_)
        · refine lv_aload_n hx hb dX11_nextTo_50 rfl (lv_at hl 3 rfl) ?_
          refine gf_RX11_51 (v := .ref (a 13)) C hO 0 mW_0 rfl dX11_nextTo_51 ?_
          refine lv_iload hx hb dX11_nextTo_54 (lv_at hl 0 rfl) ?_
          refine aI C hO 13 mW_13 (i_in (X := ((14 * ((fI u 0 36)).toInt) + (n_k1).toInt)) e6 (by omega) (by omega)) dX11_nextTo_56 ?_
          have g11 : 0 ≤ (fA u 13 (((14 * (fI u 0 36)) + n_k1)).toNatClampNeg).toInt ∧ (fA u 13 (((14 * (fI u 0 36)) + n_k1)).toNatClampNeg).toInt ≤ 7 := by have h := MI_A13 hJ0 (((14 * (fI u 0 36)) + n_k1)).toNatClampNeg; exact h
          refine tE (y := (fA u 13 (((14 * (fI u 0 36)) + n_k1)).toNatClampNeg)) (by exact rfl) ?_
          refine lv_iload_n hx hb dX11_nextTo_57 rfl (lv_at hl 4 rfl) ?_
          refine cs_ne (tgt := 73) (X := ((fA u 13 (((14 * (fI u 0 36)) + n_k1)).toNatClampNeg)).toInt) (Y := (x1).toInt) hx hb dX11_nextTo_58 (by decide) rfl rfl (fun c12 => ?_) (fun c12 => ?_)
          · refine lv_aload_n hx hb dX11_nextTo_73 rfl (lv_at hl 3 rfl) ?_
            refine gf_RX11_54 (v := .ref (a 14)) C hO 0 mW_0 rfl dX11_nextTo_74 ?_
            refine lv_iload hx hb dX11_nextTo_77 (lv_at hl 0 rfl) ?_
            refine aI C hO 14 mW_14 (i_in (X := ((14 * ((fI u 0 36)).toInt) + (n_k1).toInt)) e6 (by omega) (by omega)) dX11_nextTo_79 ?_
            have g13 : 0 ≤ (fA u 14 (((14 * (fI u 0 36)) + n_k1)).toNatClampNeg).toInt ∧ (fA u 14 (((14 * (fI u 0 36)) + n_k1)).toNatClampNeg).toInt ≤ 7 := by have h := MI_A14 hJ0 (((14 * (fI u 0 36)) + n_k1)).toNatClampNeg; exact h
            refine tE (y := (fA u 14 (((14 * (fI u 0 36)) + n_k1)).toNatClampNeg)) (by exact rfl) ?_
            refine lv_iload_n hx hb dX11_nextTo_80 rfl (lv_at hl 4 rfl) ?_
            refine cs_ne (tgt := 96) (X := ((fA u 14 (((14 * (fI u 0 36)) + n_k1)).toNatClampNeg)).toInt) (Y := (x1).toInt) hx hb dX11_nextTo_81 (by decide) rfl rfl (fun c14 => ?_) (fun c14 => ?_)
            · have e15 : ((n_k1 + 1)).toInt = (n_k1).toInt + 1 := i_add rfl rfl (by omega)
              refine lv_iinc (v := (n_k1 + 1)) (lv' := [(4, .int (n_k1 + 1)), (5, .int ((14 * (fI u 0 36)) + n_k1)), (3, .int s_k1), (0, .ref (a 0)), (1, .int x1), (2, .int x2)]) hx hb dX11_nextTo_96 hl (k := 1) rfl rfl (by decide) rfl (fun ls hl => ?_)
              refine lv_goto (tgt := 5) hx hb dX11_nextTo_99 (by decide) ?_
              exact ih_k1 _ _ _ ((n_k1 + 1)) (s_k1) hO (lv_sub hl [0, 2, 3, 4, 5] rfl) (by first | decide | omega) (by first | decide | omega)
            · refine lv_iload_n hx hb dX11_nextTo_84 rfl (lv_at hl 2 rfl) ?_
              refine lv_iconst (v := 1) hx hb dX11_nextTo_85 (by decide) ?_
              refine lv_aload_n hx hb dX11_nextTo_86 rfl (lv_at hl 3 rfl) ?_
              refine gf_RX11_51 (v := .ref (a 13)) C hO 0 mW_0 rfl dX11_nextTo_87 ?_
              refine lv_iload hx hb dX11_nextTo_90 (lv_at hl 0 rfl) ?_
              refine aI C hO 13 mW_13 (i_in (X := ((14 * ((fI u 0 36)).toInt) + (n_k1).toInt)) e6 (by omega) (by omega)) dX11_nextTo_92 ?_
              refine tE (y := (fA u 13 (((14 * (fI u 0 36)) + n_k1)).toNatClampNeg)) (by exact rfl) ?_
              refine lv_ishl hx hb dX11_nextTo_93 ?_
              refine lv_topi (fun z16 ez16 => ?_)
              have g17 : 0 ≤ z16.toInt ∧ z16.toInt ≤ 2 ^ 7 := by rw [ez16]; exact i_shl1 rfl (by omega) (by omega) (by decide)
              refine lv_ior hx hb dX11_nextTo_94 ?_
              refine lv_topi (fun z18 ez18 => ?_)
              refine lv_istore_n (lv' := [(3, .int z18), (5, .int ((14 * (fI u 0 36)) + n_k1)), (4, .int n_k1), (0, .ref (a 0)), (1, .int x1), (2, .int x2)]) hx hb dX11_nextTo_95 rfl hl (by decide) rfl (fun ls hl => ?_)
              have e19 : ((n_k1 + 1)).toInt = (n_k1).toInt + 1 := i_add rfl rfl (by omega)
              refine lv_iinc (v := (n_k1 + 1)) (lv' := [(4, .int (n_k1 + 1)), (3, .int z18), (5, .int ((14 * (fI u 0 36)) + n_k1)), (0, .ref (a 0)), (1, .int x1), (2, .int x2)]) hx hb dX11_nextTo_96 hl (k := 2) rfl rfl (by decide) rfl (fun ls hl => ?_)
              refine lv_goto (tgt := 5) hx hb dX11_nextTo_99 (by decide) ?_
              exact ih_k1 _ _ _ ((n_k1 + 1)) (z18) hO (lv_sub hl [0, 1, 3, 4, 5] rfl) (by first | decide | omega) (by first | decide | omega)
          · refine lv_iload_n hx hb dX11_nextTo_61 rfl (lv_at hl 2 rfl) ?_
            refine lv_iconst (v := 1) hx hb dX11_nextTo_62 (by decide) ?_
            refine lv_aload_n hx hb dX11_nextTo_63 rfl (lv_at hl 3 rfl) ?_
            refine gf_RX11_54 (v := .ref (a 14)) C hO 0 mW_0 rfl dX11_nextTo_64 ?_
            refine lv_iload hx hb dX11_nextTo_67 (lv_at hl 0 rfl) ?_
            refine aI C hO 14 mW_14 (i_in (X := ((14 * ((fI u 0 36)).toInt) + (n_k1).toInt)) e6 (by omega) (by omega)) dX11_nextTo_69 ?_
            have g20 : 0 ≤ (fA u 14 (((14 * (fI u 0 36)) + n_k1)).toNatClampNeg).toInt ∧ (fA u 14 (((14 * (fI u 0 36)) + n_k1)).toNatClampNeg).toInt ≤ 7 := by have h := MI_A14 hJ0 (((14 * (fI u 0 36)) + n_k1)).toNatClampNeg; exact h
            refine tE (y := (fA u 14 (((14 * (fI u 0 36)) + n_k1)).toNatClampNeg)) (by exact rfl) ?_
            refine lv_ishl hx hb dX11_nextTo_70 ?_
            refine lv_topi (fun z21 ez21 => ?_)
            have g22 : 0 ≤ z21.toInt ∧ z21.toInt ≤ 2 ^ 7 := by rw [ez21]; exact i_shl1 rfl (by omega) (by omega) (by decide)
            refine lv_ior hx hb dX11_nextTo_71 ?_
            refine lv_topi (fun z23 ez23 => ?_)
            refine lv_istore_n (lv' := [(3, .int z23), (5, .int ((14 * (fI u 0 36)) + n_k1)), (4, .int n_k1), (0, .ref (a 0)), (1, .int x1), (2, .int x2)]) hx hb dX11_nextTo_72 rfl hl (by decide) rfl (fun ls hl => ?_)
            refine lv_aload_n hx hb dX11_nextTo_73 rfl (lv_at hl 3 rfl) ?_
            refine gf_RX11_54 (v := .ref (a 14)) C hO 0 mW_0 rfl dX11_nextTo_74 ?_
            refine lv_iload hx hb dX11_nextTo_77 (lv_at hl 1 rfl) ?_
            refine aI C hO 14 mW_14 (i_in (X := ((14 * ((fI u 0 36)).toInt) + (n_k1).toInt)) e6 (by omega) (by omega)) dX11_nextTo_79 ?_
            refine tE (y := (fA u 14 (((14 * (fI u 0 36)) + n_k1)).toNatClampNeg)) (by exact rfl) ?_
            refine lv_iload_n hx hb dX11_nextTo_80 rfl (lv_at hl 4 rfl) ?_
            refine cs_ne (tgt := 96) (X := ((fA u 14 (((14 * (fI u 0 36)) + n_k1)).toNatClampNeg)).toInt) (Y := (x1).toInt) hx hb dX11_nextTo_81 (by decide) rfl rfl (fun c24 => ?_) (fun c24 => ?_)
            · have e25 : ((n_k1 + 1)).toInt = (n_k1).toInt + 1 := i_add rfl rfl (by omega)
              refine lv_iinc (v := (n_k1 + 1)) (lv' := [(4, .int (n_k1 + 1)), (3, .int z23), (5, .int ((14 * (fI u 0 36)) + n_k1)), (0, .ref (a 0)), (1, .int x1), (2, .int x2)]) hx hb dX11_nextTo_96 hl (k := 2) rfl rfl (by decide) rfl (fun ls hl => ?_)
              refine lv_goto (tgt := 5) hx hb dX11_nextTo_99 (by decide) ?_
              exact ih_k1 _ _ _ ((n_k1 + 1)) (z23) hO (lv_sub hl [0, 1, 3, 4, 5] rfl) (by first | decide | omega) (by first | decide | omega)
            · refine lv_iload_n hx hb dX11_nextTo_84 rfl (lv_at hl 0 rfl) ?_
              refine lv_iconst (v := 1) hx hb dX11_nextTo_85 (by decide) ?_
              refine lv_aload_n hx hb dX11_nextTo_86 rfl (lv_at hl 3 rfl) ?_
              refine gf_RX11_51 (v := .ref (a 13)) C hO 0 mW_0 rfl dX11_nextTo_87 ?_
              refine lv_iload hx hb dX11_nextTo_90 (lv_at hl 1 rfl) ?_
              refine aI C hO 13 mW_13 (i_in (X := ((14 * ((fI u 0 36)).toInt) + (n_k1).toInt)) e6 (by omega) (by omega)) dX11_nextTo_92 ?_
              refine tE (y := (fA u 13 (((14 * (fI u 0 36)) + n_k1)).toNatClampNeg)) (by exact rfl) ?_
              refine lv_ishl hx hb dX11_nextTo_93 ?_
              refine lv_topi (fun z26 ez26 => ?_)
              have g27 : 0 ≤ z26.toInt ∧ z26.toInt ≤ 2 ^ 7 := by rw [ez26]; exact i_shl1 rfl (by omega) (by omega) (by decide)
              refine lv_ior hx hb dX11_nextTo_94 ?_
              refine lv_topi (fun z28 ez28 => ?_)
              refine lv_istore_n (lv' := [(3, .int z28), (5, .int ((14 * (fI u 0 36)) + n_k1)), (4, .int n_k1), (0, .ref (a 0)), (1, .int x1), (2, .int x2)]) hx hb dX11_nextTo_95 rfl hl (by decide) rfl (fun ls hl => ?_)
              have e29 : ((n_k1 + 1)).toInt = (n_k1).toInt + 1 := i_add rfl rfl (by omega)
              refine lv_iinc (v := (n_k1 + 1)) (lv' := [(4, .int (n_k1 + 1)), (3, .int z28), (5, .int ((14 * (fI u 0 36)) + n_k1)), (0, .ref (a 0)), (1, .int x1), (2, .int x2)]) hx hb dX11_nextTo_96 hl (k := 2) rfl rfl (by decide) rfl (fun ls hl => ?_)
              refine lv_goto (tgt := 5) hx hb dX11_nextTo_99 (by decide) ?_
              exact ih_k1 _ _ _ ((n_k1 + 1)) (z28) hO (lv_sub hl [0, 1, 3, 4, 5] rfl) (by first | decide | omega) (by first | decide | omega)
        · refine lv_goto (tgt := 96) hx hb dX11_nextTo_47 (by decide) ?_
          have e30 : ((n_k1 + 1)).toInt = (n_k1).toInt + 1 := i_add rfl rfl (by omega)
          refine lv_iinc (v := (n_k1 + 1)) (lv' := [(4, .int (n_k1 + 1)), (5, .int ((14 * (fI u 0 36)) + n_k1)), (3, .int s_k1), (0, .ref (a 0)), (1, .int x1), (2, .int x2)]) hx hb dX11_nextTo_96 hl (k := 1) rfl rfl (by decide) rfl (fun ls hl => ?_)
          refine lv_goto (tgt := 5) hx hb dX11_nextTo_99 (by decide) ?_
          exact ih_k1 _ _ _ ((n_k1 + 1)) (s_k1) hO (lv_sub hl [0, 2, 3, 4, 5] rfl) (by first | decide | omega) (by first | decide | omega)
  exact LP_5_k1 4000 _ _ _ (0) (0) hO (lv_sub hl [0, 1, 2, 3, 4] rfl) (by first | decide | omega) (by first | decide | omega)
theorem dX11_two_0 : decode cX11_two 0 = .ok (.iload_n 0, 1) := by decide +kernel
theorem dX11_two_1 : decode cX11_two 1 = .ok (.tableswitch 202 37 62 #[143, 188, 202, 202, 202, 127, 119, 202, 123, 202, 131, 202, 202, 202, 202, 202, 202, 202, 202, 202, 202, 202, 202, 155, 177, 166], 119) := by decide +kernel
theorem dX11_two_120 : decode cX11_two 120 = .ok (.iload_n 1, 1) := by decide +kernel
theorem dX11_two_121 : decode cX11_two 121 = .ok (.iload_n 2, 1) := by decide +kernel
theorem dX11_two_122 : decode cX11_two 122 = .ok (.iadd, 1) := by decide +kernel
theorem dX11_two_123 : decode cX11_two 123 = .ok (.ireturn, 1) := by decide +kernel
theorem dX11_two_124 : decode cX11_two 124 = .ok (.iload_n 1, 1) := by decide +kernel
theorem dX11_two_125 : decode cX11_two 125 = .ok (.iload_n 2, 1) := by decide +kernel
theorem dX11_two_126 : decode cX11_two 126 = .ok (.isub, 1) := by decide +kernel
theorem dX11_two_127 : decode cX11_two 127 = .ok (.ireturn, 1) := by decide +kernel
theorem dX11_two_128 : decode cX11_two 128 = .ok (.iload_n 1, 1) := by decide +kernel
theorem dX11_two_129 : decode cX11_two 129 = .ok (.iload_n 2, 1) := by decide +kernel
theorem dX11_two_130 : decode cX11_two 130 = .ok (.imul, 1) := by decide +kernel
theorem dX11_two_131 : decode cX11_two 131 = .ok (.ireturn, 1) := by decide +kernel
theorem dX11_two_132 : decode cX11_two 132 = .ok (.iload_n 2, 1) := by decide +kernel
theorem dX11_two_133 : decode cX11_two 133 = .ok (.ifCond .ne 7, 3) := by decide +kernel
theorem dX11_two_136 : decode cX11_two 136 = .ok (.iconst 0, 1) := by decide +kernel
theorem dX11_two_137 : decode cX11_two 137 = .ok (.goto 6, 3) := by decide +kernel
theorem dX11_two_140 : decode cX11_two 140 = .ok (.iload_n 1, 1) := by decide +kernel
theorem dX11_two_141 : decode cX11_two 141 = .ok (.iload_n 2, 1) := by decide +kernel
theorem dX11_two_142 : decode cX11_two 142 = .ok (.idiv, 1) := by decide +kernel
theorem dX11_two_143 : decode cX11_two 143 = .ok (.ireturn, 1) := by decide +kernel
theorem dX11_two_144 : decode cX11_two 144 = .ok (.iload_n 2, 1) := by decide +kernel
theorem dX11_two_145 : decode cX11_two 145 = .ok (.ifCond .ne 7, 3) := by decide +kernel
theorem dX11_two_148 : decode cX11_two 148 = .ok (.iconst 0, 1) := by decide +kernel
theorem dX11_two_149 : decode cX11_two 149 = .ok (.goto 6, 3) := by decide +kernel
theorem dX11_two_152 : decode cX11_two 152 = .ok (.iload_n 1, 1) := by decide +kernel
theorem dX11_two_153 : decode cX11_two 153 = .ok (.iload_n 2, 1) := by decide +kernel
theorem dX11_two_154 : decode cX11_two 154 = .ok (.irem, 1) := by decide +kernel
theorem dX11_two_155 : decode cX11_two 155 = .ok (.ireturn, 1) := by decide +kernel
theorem dX11_two_156 : decode cX11_two 156 = .ok (.iload_n 1, 1) := by decide +kernel
theorem dX11_two_157 : decode cX11_two 157 = .ok (.iload_n 2, 1) := by decide +kernel
theorem dX11_two_158 : decode cX11_two 158 = .ok (.if_icmp .ge 7, 3) := by decide +kernel
theorem dX11_two_161 : decode cX11_two 161 = .ok (.iconst 1, 1) := by decide +kernel
theorem dX11_two_162 : decode cX11_two 162 = .ok (.goto 4, 3) := by decide +kernel
theorem dX11_two_165 : decode cX11_two 165 = .ok (.iconst 0, 1) := by decide +kernel
theorem dX11_two_166 : decode cX11_two 166 = .ok (.ireturn, 1) := by decide +kernel
theorem dX11_two_167 : decode cX11_two 167 = .ok (.iload_n 1, 1) := by decide +kernel
theorem dX11_two_168 : decode cX11_two 168 = .ok (.iload_n 2, 1) := by decide +kernel
theorem dX11_two_169 : decode cX11_two 169 = .ok (.if_icmp .le 7, 3) := by decide +kernel
theorem dX11_two_172 : decode cX11_two 172 = .ok (.iconst 1, 1) := by decide +kernel
theorem dX11_two_173 : decode cX11_two 173 = .ok (.goto 4, 3) := by decide +kernel
theorem dX11_two_176 : decode cX11_two 176 = .ok (.iconst 0, 1) := by decide +kernel
theorem dX11_two_177 : decode cX11_two 177 = .ok (.ireturn, 1) := by decide +kernel
theorem dX11_two_178 : decode cX11_two 178 = .ok (.iload_n 1, 1) := by decide +kernel
theorem dX11_two_179 : decode cX11_two 179 = .ok (.iload_n 2, 1) := by decide +kernel
theorem dX11_two_180 : decode cX11_two 180 = .ok (.if_icmp .ne 7, 3) := by decide +kernel
theorem dX11_two_183 : decode cX11_two 183 = .ok (.iconst 1, 1) := by decide +kernel
theorem dX11_two_184 : decode cX11_two 184 = .ok (.goto 4, 3) := by decide +kernel
theorem dX11_two_187 : decode cX11_two 187 = .ok (.iconst 0, 1) := by decide +kernel
theorem dX11_two_188 : decode cX11_two 188 = .ok (.ireturn, 1) := by decide +kernel
theorem dX11_two_189 : decode cX11_two 189 = .ok (.iload_n 1, 1) := by decide +kernel
theorem dX11_two_190 : decode cX11_two 190 = .ok (.ifCond .eq 11, 3) := by decide +kernel
theorem dX11_two_193 : decode cX11_two 193 = .ok (.iload_n 2, 1) := by decide +kernel
theorem dX11_two_194 : decode cX11_two 194 = .ok (.ifCond .eq 7, 3) := by decide +kernel
theorem dX11_two_197 : decode cX11_two 197 = .ok (.iconst 1, 1) := by decide +kernel
theorem dX11_two_198 : decode cX11_two 198 = .ok (.goto 4, 3) := by decide +kernel
theorem dX11_two_201 : decode cX11_two 201 = .ok (.iconst 0, 1) := by decide +kernel
theorem dX11_two_202 : decode cX11_two 202 = .ok (.ireturn, 1) := by decide +kernel
theorem dX11_two_203 : decode cX11_two 203 = .ok (.iload_n 1, 1) := by decide +kernel
theorem dX11_two_204 : decode cX11_two 204 = .ok (.ifCond .ne 7, 3) := by decide +kernel
theorem dX11_two_207 : decode cX11_two 207 = .ok (.iload_n 2, 1) := by decide +kernel
theorem dX11_two_208 : decode cX11_two 208 = .ok (.ifCond .eq 7, 3) := by decide +kernel
theorem dX11_two_211 : decode cX11_two 211 = .ok (.iconst 1, 1) := by decide +kernel
theorem dX11_two_212 : decode cX11_two 212 = .ok (.goto 4, 3) := by decide +kernel
theorem dX11_two_215 : decode cX11_two 215 = .ok (.iconst 0, 1) := by decide +kernel
theorem dX11_two_216 : decode cX11_two 216 = .ok (.ireturn, 1) := by decide +kernel
theorem wd_1787 : (Cond.code ⟨"WebCourtModel", "two", "(III)I"⟩ prog_13_method_37_code (3 : Nat) (Option.some FieldType.int)) ∈ gtb := gtb_c7 238 (by decide +kernel) rfl
set_option maxHeartbeats 4000000 in
set_option maxRecDepth 100000 in
theorem T_X11_two (l : Launch) (D : va_G) (cy : Nat → ClassId) (a : Nat → Nat) (u : St) (hJ : MI a u) (x1 : Int32) (x2 : Int32) (x3 : Int32)  : Mi l D cy (mW cy a) yX11_two (.code yX11_two cX11_two 3 (some .int)) (rmo 0 0) [.int x1, .int x2, .int x3] u (fun (r : Int32) (u' : St) => u' = u) := by
  refine Mi.of (own := RX11) rfl (by decide) (Nat.le_of_ble_eq_true rfl) ?_
  have hT : Km0 u u := Km0.rf
  have hJ0 := hJ
  intro p e s m below meth c A Q ls C hret hO hl
  obtain ⟨hx, hb, hml, hown, ht, hK, hA⟩ := id C
  have hl : lv_has ls 3 [(0, .int x1), (1, .int x2), (2, .int x3)] := hl
  refine lv_iload_n hx hb dX11_two_0 rfl (lv_at hl 0 rfl) ?_
  have c1 : ((x1).toInt < 37 ∨ 62 < (x1).toInt) ∨ (x1).toInt = 37 ∨ (x1).toInt = 38 ∨ (x1).toInt = 39 ∨ (x1).toInt = 40 ∨ (x1).toInt = 41 ∨ (x1).toInt = 42 ∨ (x1).toInt = 43 ∨ (x1).toInt = 44 ∨ (x1).toInt = 45 ∨ (x1).toInt = 46 ∨ (x1).toInt = 47 ∨ (x1).toInt = 48 ∨ (x1).toInt = 49 ∨ (x1).toInt = 50 ∨ (x1).toInt = 51 ∨ (x1).toInt = 52 ∨ (x1).toInt = 53 ∨ (x1).toInt = 54 ∨ (x1).toInt = 55 ∨ (x1).toInt = 56 ∨ (x1).toInt = 57 ∨ (x1).toInt = 58 ∨ (x1).toInt = 59 ∨ (x1).toInt = 60 ∨ (x1).toInt = 61 ∨ (x1).toInt = 62 := by omega
  rcases c1 with c1 | c1 | c1 | c1 | c1 | c1 | c1 | c1 | c1 | c1 | c1 | c1 | c1 | c1 | c1 | c1 | c1 | c1 | c1 | c1 | c1 | c1 | c1 | c1 | c1 | c1 | c1
  · refine lv_tableOut (tgt := 203) hx hb dX11_two_1 (by rw [show x1.toInt = (x1).toInt from rfl]; exact c1) (by decide) ?_
    refine lv_iload_n hx hb dX11_two_203 rfl (lv_at hl 1 rfl) ?_
    refine bs_ne (tgt := 211) (X := (x2).toInt) hx hb dX11_two_204 (by decide) rfl (fun c2 => ?_) (fun c2 => ?_)
    · refine lv_iconst (v := 1) hx hb dX11_two_211 (by decide) ?_
      refine lv_goto (tgt := 216) hx hb dX11_two_212 (by decide) ?_
      refine hret _ _ _ _ _ _ dX11_two_216 rfl ?_ hO
      exact rfl
    · refine lv_iload_n hx hb dX11_two_207 rfl (lv_at hl 2 rfl) ?_
      refine bs_eq (tgt := 215) (X := (x3).toInt) hx hb dX11_two_208 (by decide) rfl (fun c3 => ?_) (fun c3 => ?_)
      · refine lv_iconst (v := 0) hx hb dX11_two_215 (by decide) ?_
        refine hret _ _ _ _ _ _ dX11_two_216 rfl ?_ hO
        exact rfl
      · refine lv_iconst (v := 1) hx hb dX11_two_211 (by decide) ?_
        refine lv_goto (tgt := 216) hx hb dX11_two_212 (by decide) ?_
        refine hret _ _ _ _ _ _ dX11_two_216 rfl ?_ hO
        exact rfl
  · refine lv_tableIn (tgt := 144) hx hb dX11_two_1 (by rw [c1]; decide) (by rw [c1]; decide) (by rw [c1]; rfl) (by decide) ?_
    refine lv_iload_n hx hb dX11_two_144 rfl (lv_at hl 2 rfl) ?_
    refine bs_ne (tgt := 152) (X := (x3).toInt) hx hb dX11_two_145 (by decide) rfl (fun c4 => ?_) (fun c4 => ?_)
    · refine lv_iload_n hx hb dX11_two_152 rfl (lv_at hl 1 rfl) ?_
      refine lv_iload_n hx hb dX11_two_153 rfl (lv_at hl 2 rfl) ?_
      refine lv_irem hx hb dX11_two_154 (i_ne0 (X := (x3).toInt) rfl (by omega)) ?_
      refine lv_topi (fun z5 ez5 => ?_)
      refine hret _ _ _ _ _ _ dX11_two_155 rfl ?_ hO
      exact rfl
    · refine lv_iconst (v := 0) hx hb dX11_two_148 (by decide) ?_
      refine lv_goto (tgt := 155) hx hb dX11_two_149 (by decide) ?_
      refine hret _ _ _ _ _ _ dX11_two_155 rfl ?_ hO
      exact rfl
  · refine lv_tableIn (tgt := 189) hx hb dX11_two_1 (by rw [c1]; decide) (by rw [c1]; decide) (by rw [c1]; rfl) (by decide) ?_
    refine lv_iload_n hx hb dX11_two_189 rfl (lv_at hl 1 rfl) ?_
    refine bs_eq (tgt := 201) (X := (x2).toInt) hx hb dX11_two_190 (by decide) rfl (fun c6 => ?_) (fun c6 => ?_)
    · refine lv_iconst (v := 0) hx hb dX11_two_201 (by decide) ?_
      refine hret _ _ _ _ _ _ dX11_two_202 rfl ?_ hO
      exact rfl
    · refine lv_iload_n hx hb dX11_two_193 rfl (lv_at hl 2 rfl) ?_
      refine bs_eq (tgt := 201) (X := (x3).toInt) hx hb dX11_two_194 (by decide) rfl (fun c7 => ?_) (fun c7 => ?_)
      · refine lv_iconst (v := 0) hx hb dX11_two_201 (by decide) ?_
        refine hret _ _ _ _ _ _ dX11_two_202 rfl ?_ hO
        exact rfl
      · refine lv_iconst (v := 1) hx hb dX11_two_197 (by decide) ?_
        refine lv_goto (tgt := 202) hx hb dX11_two_198 (by decide) ?_
        refine hret _ _ _ _ _ _ dX11_two_202 rfl ?_ hO
        exact rfl
  · refine lv_tableIn (tgt := 203) hx hb dX11_two_1 (by rw [c1]; decide) (by rw [c1]; decide) (by rw [c1]; rfl) (by decide) ?_
    refine lv_iload_n hx hb dX11_two_203 rfl (lv_at hl 1 rfl) ?_
    refine bs_ne (tgt := 211) (X := (x2).toInt) hx hb dX11_two_204 (by decide) rfl (fun c8 => ?_) (fun c8 => ?_)
    · refine lv_iconst (v := 1) hx hb dX11_two_211 (by decide) ?_
      refine lv_goto (tgt := 216) hx hb dX11_two_212 (by decide) ?_
      refine hret _ _ _ _ _ _ dX11_two_216 rfl ?_ hO
      exact rfl
    · refine lv_iload_n hx hb dX11_two_207 rfl (lv_at hl 2 rfl) ?_
      refine bs_eq (tgt := 215) (X := (x3).toInt) hx hb dX11_two_208 (by decide) rfl (fun c9 => ?_) (fun c9 => ?_)
      · refine lv_iconst (v := 0) hx hb dX11_two_215 (by decide) ?_
        refine hret _ _ _ _ _ _ dX11_two_216 rfl ?_ hO
        exact rfl
      · refine lv_iconst (v := 1) hx hb dX11_two_211 (by decide) ?_
        refine lv_goto (tgt := 216) hx hb dX11_two_212 (by decide) ?_
        refine hret _ _ _ _ _ _ dX11_two_216 rfl ?_ hO
        exact rfl
  · refine lv_tableIn (tgt := 203) hx hb dX11_two_1 (by rw [c1]; decide) (by rw [c1]; decide) (by rw [c1]; rfl) (by decide) ?_
    refine lv_iload_n hx hb dX11_two_203 rfl (lv_at hl 1 rfl) ?_
    refine bs_ne (tgt := 211) (X := (x2).toInt) hx hb dX11_two_204 (by decide) rfl (fun c10 => ?_) (fun c10 => ?_)
    · refine lv_iconst (v := 1) hx hb dX11_two_211 (by decide) ?_
      refine lv_goto (tgt := 216) hx hb dX11_two_212 (by decide) ?_
      refine hret _ _ _ _ _ _ dX11_two_216 rfl ?_ hO
      exact rfl
    · refine lv_iload_n hx hb dX11_two_207 rfl (lv_at hl 2 rfl) ?_
      refine bs_eq (tgt := 215) (X := (x3).toInt) hx hb dX11_two_208 (by decide) rfl (fun c11 => ?_) (fun c11 => ?_)
      · refine lv_iconst (v := 0) hx hb dX11_two_215 (by decide) ?_
        refine hret _ _ _ _ _ _ dX11_two_216 rfl ?_ hO
        exact rfl
      · refine lv_iconst (v := 1) hx hb dX11_two_211 (by decide) ?_
        refine lv_goto (tgt := 216) hx hb dX11_two_212 (by decide) ?_
        refine hret _ _ _ _ _ _ dX11_two_216 rfl ?_ hO
        exact rfl
  · refine lv_tableIn (tgt := 203) hx hb dX11_two_1 (by rw [c1]; decide) (by rw [c1]; decide) (by rw [c1]; rfl) (by decide) ?_
    refine lv_iload_n hx hb dX11_two_203 rfl (lv_at hl 1 rfl) ?_
    refine bs_ne (tgt := 211) (X := (x2).toInt) hx hb dX11_two_204 (by decide) rfl (fun c12 => ?_) (fun c12 => ?_)
    · refine lv_iconst (v := 1) hx hb dX11_two_211 (by decide) ?_
      refine lv_goto (tgt := 216) hx hb dX11_two_212 (by decide) ?_
      refine hret _ _ _ _ _ _ dX11_two_216 rfl ?_ hO
      exact rfl
    · refine lv_iload_n hx hb dX11_two_207 rfl (lv_at hl 2 rfl) ?_
      refine bs_eq (tgt := 215) (X := (x3).toInt) hx hb dX11_two_208 (by decide) rfl (fun c13 => ?_) (fun c13 => ?_)
      · refine lv_iconst (v := 0) hx hb dX11_two_215 (by decide) ?_
        refine hret _ _ _ _ _ _ dX11_two_216 rfl ?_ hO
        exact rfl
      · refine lv_iconst (v := 1) hx hb dX11_two_211 (by decide) ?_
        refine lv_goto (tgt := 216) hx hb dX11_two_212 (by decide) ?_
        refine hret _ _ _ _ _ _ dX11_two_216 rfl ?_ hO
        exact rfl
  · refine lv_tableIn (tgt := 128) hx hb dX11_two_1 (by rw [c1]; decide) (by rw [c1]; decide) (by rw [c1]; rfl) (by decide) ?_
    refine lv_iload_n hx hb dX11_two_128 rfl (lv_at hl 1 rfl) ?_
    refine lv_iload_n hx hb dX11_two_129 rfl (lv_at hl 2 rfl) ?_
    refine lv_imul hx hb dX11_two_130 ?_
    refine hret _ _ _ _ _ _ dX11_two_131 rfl ?_ hO
    exact rfl
  · refine lv_tableIn (tgt := 120) hx hb dX11_two_1 (by rw [c1]; decide) (by rw [c1]; decide) (by rw [c1]; rfl) (by decide) ?_
    refine lv_iload_n hx hb dX11_two_120 rfl (lv_at hl 1 rfl) ?_
    refine lv_iload_n hx hb dX11_two_121 rfl (lv_at hl 2 rfl) ?_
    refine lv_iadd hx hb dX11_two_122 ?_
    refine hret _ _ _ _ _ _ dX11_two_123 rfl ?_ hO
    exact rfl
  · refine lv_tableIn (tgt := 203) hx hb dX11_two_1 (by rw [c1]; decide) (by rw [c1]; decide) (by rw [c1]; rfl) (by decide) ?_
    refine lv_iload_n hx hb dX11_two_203 rfl (lv_at hl 1 rfl) ?_
    refine bs_ne (tgt := 211) (X := (x2).toInt) hx hb dX11_two_204 (by decide) rfl (fun c14 => ?_) (fun c14 => ?_)
    · refine lv_iconst (v := 1) hx hb dX11_two_211 (by decide) ?_
      refine lv_goto (tgt := 216) hx hb dX11_two_212 (by decide) ?_
      refine hret _ _ _ _ _ _ dX11_two_216 rfl ?_ hO
      exact rfl
    · refine lv_iload_n hx hb dX11_two_207 rfl (lv_at hl 2 rfl) ?_
      refine bs_eq (tgt := 215) (X := (x3).toInt) hx hb dX11_two_208 (by decide) rfl (fun c15 => ?_) (fun c15 => ?_)
      · refine lv_iconst (v := 0) hx hb dX11_two_215 (by decide) ?_
        refine hret _ _ _ _ _ _ dX11_two_216 rfl ?_ hO
        exact rfl
      · refine lv_iconst (v := 1) hx hb dX11_two_211 (by decide) ?_
        refine lv_goto (tgt := 216) hx hb dX11_two_212 (by decide) ?_
        refine hret _ _ _ _ _ _ dX11_two_216 rfl ?_ hO
        exact rfl
  · refine lv_tableIn (tgt := 124) hx hb dX11_two_1 (by rw [c1]; decide) (by rw [c1]; decide) (by rw [c1]; rfl) (by decide) ?_
    refine lv_iload_n hx hb dX11_two_124 rfl (lv_at hl 1 rfl) ?_
    refine lv_iload_n hx hb dX11_two_125 rfl (lv_at hl 2 rfl) ?_
    refine lv_isub hx hb dX11_two_126 ?_
    refine hret _ _ _ _ _ _ dX11_two_127 rfl ?_ hO
    exact rfl
  · refine lv_tableIn (tgt := 203) hx hb dX11_two_1 (by rw [c1]; decide) (by rw [c1]; decide) (by rw [c1]; rfl) (by decide) ?_
    refine lv_iload_n hx hb dX11_two_203 rfl (lv_at hl 1 rfl) ?_
    refine bs_ne (tgt := 211) (X := (x2).toInt) hx hb dX11_two_204 (by decide) rfl (fun c16 => ?_) (fun c16 => ?_)
    · refine lv_iconst (v := 1) hx hb dX11_two_211 (by decide) ?_
      refine lv_goto (tgt := 216) hx hb dX11_two_212 (by decide) ?_
      refine hret _ _ _ _ _ _ dX11_two_216 rfl ?_ hO
      exact rfl
    · refine lv_iload_n hx hb dX11_two_207 rfl (lv_at hl 2 rfl) ?_
      refine bs_eq (tgt := 215) (X := (x3).toInt) hx hb dX11_two_208 (by decide) rfl (fun c17 => ?_) (fun c17 => ?_)
      · refine lv_iconst (v := 0) hx hb dX11_two_215 (by decide) ?_
        refine hret _ _ _ _ _ _ dX11_two_216 rfl ?_ hO
        exact rfl
      · refine lv_iconst (v := 1) hx hb dX11_two_211 (by decide) ?_
        refine lv_goto (tgt := 216) hx hb dX11_two_212 (by decide) ?_
        refine hret _ _ _ _ _ _ dX11_two_216 rfl ?_ hO
        exact rfl
  · refine lv_tableIn (tgt := 132) hx hb dX11_two_1 (by rw [c1]; decide) (by rw [c1]; decide) (by rw [c1]; rfl) (by decide) ?_
    refine lv_iload_n hx hb dX11_two_132 rfl (lv_at hl 2 rfl) ?_
    refine bs_ne (tgt := 140) (X := (x3).toInt) hx hb dX11_two_133 (by decide) rfl (fun c18 => ?_) (fun c18 => ?_)
    · refine lv_iload_n hx hb dX11_two_140 rfl (lv_at hl 1 rfl) ?_
      refine lv_iload_n hx hb dX11_two_141 rfl (lv_at hl 2 rfl) ?_
      refine lv_idiv hx hb dX11_two_142 (i_ne0 (X := (x3).toInt) rfl (by omega)) ?_
      refine lv_topi (fun z19 ez19 => ?_)
      refine hret _ _ _ _ _ _ dX11_two_143 rfl ?_ hO
      exact rfl
    · refine lv_iconst (v := 0) hx hb dX11_two_136 (by decide) ?_
      refine lv_goto (tgt := 143) hx hb dX11_two_137 (by decide) ?_
      refine hret _ _ _ _ _ _ dX11_two_143 rfl ?_ hO
      exact rfl
  · refine lv_tableIn (tgt := 203) hx hb dX11_two_1 (by rw [c1]; decide) (by rw [c1]; decide) (by rw [c1]; rfl) (by decide) ?_
    refine lv_iload_n hx hb dX11_two_203 rfl (lv_at hl 1 rfl) ?_
    refine bs_ne (tgt := 211) (X := (x2).toInt) hx hb dX11_two_204 (by decide) rfl (fun c20 => ?_) (fun c20 => ?_)
    · refine lv_iconst (v := 1) hx hb dX11_two_211 (by decide) ?_
      refine lv_goto (tgt := 216) hx hb dX11_two_212 (by decide) ?_
      refine hret _ _ _ _ _ _ dX11_two_216 rfl ?_ hO
      exact rfl
    · refine lv_iload_n hx hb dX11_two_207 rfl (lv_at hl 2 rfl) ?_
      refine bs_eq (tgt := 215) (X := (x3).toInt) hx hb dX11_two_208 (by decide) rfl (fun c21 => ?_) (fun c21 => ?_)
      · refine lv_iconst (v := 0) hx hb dX11_two_215 (by decide) ?_
        refine hret _ _ _ _ _ _ dX11_two_216 rfl ?_ hO
        exact rfl
      · refine lv_iconst (v := 1) hx hb dX11_two_211 (by decide) ?_
        refine lv_goto (tgt := 216) hx hb dX11_two_212 (by decide) ?_
        refine hret _ _ _ _ _ _ dX11_two_216 rfl ?_ hO
        exact rfl
  · refine lv_tableIn (tgt := 203) hx hb dX11_two_1 (by rw [c1]; decide) (by rw [c1]; decide) (by rw [c1]; rfl) (by decide) ?_
    refine lv_iload_n hx hb dX11_two_203 rfl (lv_at hl 1 rfl) ?_
    refine bs_ne (tgt := 211) (X := (x2).toInt) hx hb dX11_two_204 (by decide) rfl (fun c22 => ?_) (fun c22 => ?_)
    · refine lv_iconst (v := 1) hx hb dX11_two_211 (by decide) ?_
      refine lv_goto (tgt := 216) hx hb dX11_two_212 (by decide) ?_
      refine hret _ _ _ _ _ _ dX11_two_216 rfl ?_ hO
      exact rfl
    · refine lv_iload_n hx hb dX11_two_207 rfl (lv_at hl 2 rfl) ?_
      refine bs_eq (tgt := 215) (X := (x3).toInt) hx hb dX11_two_208 (by decide) rfl (fun c23 => ?_) (fun c23 => ?_)
      · refine lv_iconst (v := 0) hx hb dX11_two_215 (by decide) ?_
        refine hret _ _ _ _ _ _ dX11_two_216 rfl ?_ hO
        exact rfl
      · refine lv_iconst (v := 1) hx hb dX11_two_211 (by decide) ?_
        refine lv_goto (tgt := 216) hx hb dX11_two_212 (by decide) ?_
        refine hret _ _ _ _ _ _ dX11_two_216 rfl ?_ hO
        exact rfl
  · refine lv_tableIn (tgt := 203) hx hb dX11_two_1 (by rw [c1]; decide) (by rw [c1]; decide) (by rw [c1]; rfl) (by decide) ?_
    refine lv_iload_n hx hb dX11_two_203 rfl (lv_at hl 1 rfl) ?_
    refine bs_ne (tgt := 211) (X := (x2).toInt) hx hb dX11_two_204 (by decide) rfl (fun c24 => ?_) (fun c24 => ?_)
    · refine lv_iconst (v := 1) hx hb dX11_two_211 (by decide) ?_
      refine lv_goto (tgt := 216) hx hb dX11_two_212 (by decide) ?_
      refine hret _ _ _ _ _ _ dX11_two_216 rfl ?_ hO
      exact rfl
    · refine lv_iload_n hx hb dX11_two_207 rfl (lv_at hl 2 rfl) ?_
      refine bs_eq (tgt := 215) (X := (x3).toInt) hx hb dX11_two_208 (by decide) rfl (fun c25 => ?_) (fun c25 => ?_)
      · refine lv_iconst (v := 0) hx hb dX11_two_215 (by decide) ?_
        refine hret _ _ _ _ _ _ dX11_two_216 rfl ?_ hO
        exact rfl
      · refine lv_iconst (v := 1) hx hb dX11_two_211 (by decide) ?_
        refine lv_goto (tgt := 216) hx hb dX11_two_212 (by decide) ?_
        refine hret _ _ _ _ _ _ dX11_two_216 rfl ?_ hO
        exact rfl
  · refine lv_tableIn (tgt := 203) hx hb dX11_two_1 (by rw [c1]; decide) (by rw [c1]; decide) (by rw [c1]; rfl) (by decide) ?_
    refine lv_iload_n hx hb dX11_two_203 rfl (lv_at hl 1 rfl) ?_
    refine bs_ne (tgt := 211) (X := (x2).toInt) hx hb dX11_two_204 (by decide) rfl (fun c26 => ?_) (fun c26 => ?_)
    · refine lv_iconst (v := 1) hx hb dX11_two_211 (by decide) ?_
      refine lv_goto (tgt := 216) hx hb dX11_two_212 (by decide) ?_
      refine hret _ _ _ _ _ _ dX11_two_216 rfl ?_ hO
      exact rfl
    · refine lv_iload_n hx hb dX11_two_207 rfl (lv_at hl 2 rfl) ?_
      refine bs_eq (tgt := 215) (X := (x3).toInt) hx hb dX11_two_208 (by decide) rfl (fun c27 => ?_) (fun c27 => ?_)
      · refine lv_iconst (v := 0) hx hb dX11_two_215 (by decide) ?_
        refine hret _ _ _ _ _ _ dX11_two_216 rfl ?_ hO
        exact rfl
      · refine lv_iconst (v := 1) hx hb dX11_two_211 (by decide) ?_
        refine lv_goto (tgt := 216) hx hb dX11_two_212 (by decide) ?_
        refine hret _ _ _ _ _ _ dX11_two_216 rfl ?_ hO
        exact rfl
  · refine lv_tableIn (tgt := 203) hx hb dX11_two_1 (by rw [c1]; decide) (by rw [c1]; decide) (by rw [c1]; rfl) (by decide) ?_
    refine lv_iload_n hx hb dX11_two_203 rfl (lv_at hl 1 rfl) ?_
    refine bs_ne (tgt := 211) (X := (x2).toInt) hx hb dX11_two_204 (by decide) rfl (fun c28 => ?_) (fun c28 => ?_)
    · refine lv_iconst (v := 1) hx hb dX11_two_211 (by decide) ?_
      refine lv_goto (tgt := 216) hx hb dX11_two_212 (by decide) ?_
      refine hret _ _ _ _ _ _ dX11_two_216 rfl ?_ hO
      exact rfl
    · refine lv_iload_n hx hb dX11_two_207 rfl (lv_at hl 2 rfl) ?_
      refine bs_eq (tgt := 215) (X := (x3).toInt) hx hb dX11_two_208 (by decide) rfl (fun c29 => ?_) (fun c29 => ?_)
      · refine lv_iconst (v := 0) hx hb dX11_two_215 (by decide) ?_
        refine hret _ _ _ _ _ _ dX11_two_216 rfl ?_ hO
        exact rfl
      · refine lv_iconst (v := 1) hx hb dX11_two_211 (by decide) ?_
        refine lv_goto (tgt := 216) hx hb dX11_two_212 (by decide) ?_
        refine hret _ _ _ _ _ _ dX11_two_216 rfl ?_ hO
        exact rfl
  · refine lv_tableIn (tgt := 203) hx hb dX11_two_1 (by rw [c1]; decide) (by rw [c1]; decide) (by rw [c1]; rfl) (by decide) ?_
    refine lv_iload_n hx hb dX11_two_203 rfl (lv_at hl 1 rfl) ?_
    refine bs_ne (tgt := 211) (X := (x2).toInt) hx hb dX11_two_204 (by decide) rfl (fun c30 => ?_) (fun c30 => ?_)
    · refine lv_iconst (v := 1) hx hb dX11_two_211 (by decide) ?_
      refine lv_goto (tgt := 216) hx hb dX11_two_212 (by decide) ?_
      refine hret _ _ _ _ _ _ dX11_two_216 rfl ?_ hO
      exact rfl
    · refine lv_iload_n hx hb dX11_two_207 rfl (lv_at hl 2 rfl) ?_
      refine bs_eq (tgt := 215) (X := (x3).toInt) hx hb dX11_two_208 (by decide) rfl (fun c31 => ?_) (fun c31 => ?_)
      · refine lv_iconst (v := 0) hx hb dX11_two_215 (by decide) ?_
        refine hret _ _ _ _ _ _ dX11_two_216 rfl ?_ hO
        exact rfl
      · refine lv_iconst (v := 1) hx hb dX11_two_211 (by decide) ?_
        refine lv_goto (tgt := 216) hx hb dX11_two_212 (by decide) ?_
        refine hret _ _ _ _ _ _ dX11_two_216 rfl ?_ hO
        exact rfl
  · refine lv_tableIn (tgt := 203) hx hb dX11_two_1 (by rw [c1]; decide) (by rw [c1]; decide) (by rw [c1]; rfl) (by decide) ?_
    refine lv_iload_n hx hb dX11_two_203 rfl (lv_at hl 1 rfl) ?_
    refine bs_ne (tgt := 211) (X := (x2).toInt) hx hb dX11_two_204 (by decide) rfl (fun c32 => ?_) (fun c32 => ?_)
    · refine lv_iconst (v := 1) hx hb dX11_two_211 (by decide) ?_
      refine lv_goto (tgt := 216) hx hb dX11_two_212 (by decide) ?_
      refine hret _ _ _ _ _ _ dX11_two_216 rfl ?_ hO
      exact rfl
    · refine lv_iload_n hx hb dX11_two_207 rfl (lv_at hl 2 rfl) ?_
      refine bs_eq (tgt := 215) (X := (x3).toInt) hx hb dX11_two_208 (by decide) rfl (fun c33 => ?_) (fun c33 => ?_)
      · refine lv_iconst (v := 0) hx hb dX11_two_215 (by decide) ?_
        refine hret _ _ _ _ _ _ dX11_two_216 rfl ?_ hO
        exact rfl
      · refine lv_iconst (v := 1) hx hb dX11_two_211 (by decide) ?_
        refine lv_goto (tgt := 216) hx hb dX11_two_212 (by decide) ?_
        refine hret _ _ _ _ _ _ dX11_two_216 rfl ?_ hO
        exact rfl
  · refine lv_tableIn (tgt := 203) hx hb dX11_two_1 (by rw [c1]; decide) (by rw [c1]; decide) (by rw [c1]; rfl) (by decide) ?_
    refine lv_iload_n hx hb dX11_two_203 rfl (lv_at hl 1 rfl) ?_
    refine bs_ne (tgt := 211) (X := (x2).toInt) hx hb dX11_two_204 (by decide) rfl (fun c34 => ?_) (fun c34 => ?_)
    · refine lv_iconst (v := 1) hx hb dX11_two_211 (by decide) ?_
      refine lv_goto (tgt := 216) hx hb dX11_two_212 (by decide) ?_
      refine hret _ _ _ _ _ _ dX11_two_216 rfl ?_ hO
      exact rfl
    · refine lv_iload_n hx hb dX11_two_207 rfl (lv_at hl 2 rfl) ?_
      refine bs_eq (tgt := 215) (X := (x3).toInt) hx hb dX11_two_208 (by decide) rfl (fun c35 => ?_) (fun c35 => ?_)
      · refine lv_iconst (v := 0) hx hb dX11_two_215 (by decide) ?_
        refine hret _ _ _ _ _ _ dX11_two_216 rfl ?_ hO
        exact rfl
      · refine lv_iconst (v := 1) hx hb dX11_two_211 (by decide) ?_
        refine lv_goto (tgt := 216) hx hb dX11_two_212 (by decide) ?_
        refine hret _ _ _ _ _ _ dX11_two_216 rfl ?_ hO
        exact rfl
  · refine lv_tableIn (tgt := 203) hx hb dX11_two_1 (by rw [c1]; decide) (by rw [c1]; decide) (by rw [c1]; rfl) (by decide) ?_
    refine lv_iload_n hx hb dX11_two_203 rfl (lv_at hl 1 rfl) ?_
    refine bs_ne (tgt := 211) (X := (x2).toInt) hx hb dX11_two_204 (by decide) rfl (fun c36 => ?_) (fun c36 => ?_)
    · refine lv_iconst (v := 1) hx hb dX11_two_211 (by decide) ?_
      refine lv_goto (tgt := 216) hx hb dX11_two_212 (by decide) ?_
      refine hret _ _ _ _ _ _ dX11_two_216 rfl ?_ hO
      exact rfl
    · refine lv_iload_n hx hb dX11_two_207 rfl (lv_at hl 2 rfl) ?_
      refine bs_eq (tgt := 215) (X := (x3).toInt) hx hb dX11_two_208 (by decide) rfl (fun c37 => ?_) (fun c37 => ?_)
      · refine lv_iconst (v := 0) hx hb dX11_two_215 (by decide) ?_
        refine hret _ _ _ _ _ _ dX11_two_216 rfl ?_ hO
        exact rfl
      · refine lv_iconst (v := 1) hx hb dX11_two_211 (by decide) ?_
        refine lv_goto (tgt := 216) hx hb dX11_two_212 (by decide) ?_
        refine hret _ _ _ _ _ _ dX11_two_216 rfl ?_ hO
        exact rfl
  · refine lv_tableIn (tgt := 203) hx hb dX11_two_1 (by rw [c1]; decide) (by rw [c1]; decide) (by rw [c1]; rfl) (by decide) ?_
    refine lv_iload_n hx hb dX11_two_203 rfl (lv_at hl 1 rfl) ?_
    refine bs_ne (tgt := 211) (X := (x2).toInt) hx hb dX11_two_204 (by decide) rfl (fun c38 => ?_) (fun c38 => ?_)
    · refine lv_iconst (v := 1) hx hb dX11_two_211 (by decide) ?_
      refine lv_goto (tgt := 216) hx hb dX11_two_212 (by decide) ?_
      refine hret _ _ _ _ _ _ dX11_two_216 rfl ?_ hO
      exact rfl
    · refine lv_iload_n hx hb dX11_two_207 rfl (lv_at hl 2 rfl) ?_
      refine bs_eq (tgt := 215) (X := (x3).toInt) hx hb dX11_two_208 (by decide) rfl (fun c39 => ?_) (fun c39 => ?_)
      · refine lv_iconst (v := 0) hx hb dX11_two_215 (by decide) ?_
        refine hret _ _ _ _ _ _ dX11_two_216 rfl ?_ hO
        exact rfl
      · refine lv_iconst (v := 1) hx hb dX11_two_211 (by decide) ?_
        refine lv_goto (tgt := 216) hx hb dX11_two_212 (by decide) ?_
        refine hret _ _ _ _ _ _ dX11_two_216 rfl ?_ hO
        exact rfl
  · refine lv_tableIn (tgt := 203) hx hb dX11_two_1 (by rw [c1]; decide) (by rw [c1]; decide) (by rw [c1]; rfl) (by decide) ?_
    refine lv_iload_n hx hb dX11_two_203 rfl (lv_at hl 1 rfl) ?_
    refine bs_ne (tgt := 211) (X := (x2).toInt) hx hb dX11_two_204 (by decide) rfl (fun c40 => ?_) (fun c40 => ?_)
    · refine lv_iconst (v := 1) hx hb dX11_two_211 (by decide) ?_
      refine lv_goto (tgt := 216) hx hb dX11_two_212 (by decide) ?_
      refine hret _ _ _ _ _ _ dX11_two_216 rfl ?_ hO
      exact rfl
    · refine lv_iload_n hx hb dX11_two_207 rfl (lv_at hl 2 rfl) ?_
      refine bs_eq (tgt := 215) (X := (x3).toInt) hx hb dX11_two_208 (by decide) rfl (fun c41 => ?_) (fun c41 => ?_)
      · refine lv_iconst (v := 0) hx hb dX11_two_215 (by decide) ?_
        refine hret _ _ _ _ _ _ dX11_two_216 rfl ?_ hO
        exact rfl
      · refine lv_iconst (v := 1) hx hb dX11_two_211 (by decide) ?_
        refine lv_goto (tgt := 216) hx hb dX11_two_212 (by decide) ?_
        refine hret _ _ _ _ _ _ dX11_two_216 rfl ?_ hO
        exact rfl
  · refine lv_tableIn (tgt := 203) hx hb dX11_two_1 (by rw [c1]; decide) (by rw [c1]; decide) (by rw [c1]; rfl) (by decide) ?_
    refine lv_iload_n hx hb dX11_two_203 rfl (lv_at hl 1 rfl) ?_
    refine bs_ne (tgt := 211) (X := (x2).toInt) hx hb dX11_two_204 (by decide) rfl (fun c42 => ?_) (fun c42 => ?_)
    · refine lv_iconst (v := 1) hx hb dX11_two_211 (by decide) ?_
      refine lv_goto (tgt := 216) hx hb dX11_two_212 (by decide) ?_
      refine hret _ _ _ _ _ _ dX11_two_216 rfl ?_ hO
      exact rfl
    · refine lv_iload_n hx hb dX11_two_207 rfl (lv_at hl 2 rfl) ?_
      refine bs_eq (tgt := 215) (X := (x3).toInt) hx hb dX11_two_208 (by decide) rfl (fun c43 => ?_) (fun c43 => ?_)
      · refine lv_iconst (v := 0) hx hb dX11_two_215 (by decide) ?_
        refine hret _ _ _ _ _ _ dX11_two_216 rfl ?_ hO
        exact rfl
      · refine lv_iconst (v := 1) hx hb dX11_two_211 (by decide) ?_
        refine lv_goto (tgt := 216) hx hb dX11_two_212 (by decide) ?_
        refine hret _ _ _ _ _ _ dX11_two_216 rfl ?_ hO
        exact rfl
  · refine lv_tableIn (tgt := 156) hx hb dX11_two_1 (by rw [c1]; decide) (by rw [c1]; decide) (by rw [c1]; rfl) (by decide) ?_
    refine lv_iload_n hx hb dX11_two_156 rfl (lv_at hl 1 rfl) ?_
    refine lv_iload_n hx hb dX11_two_157 rfl (lv_at hl 2 rfl) ?_
    refine cs_ge (tgt := 165) (X := (x2).toInt) (Y := (x3).toInt) hx hb dX11_two_158 (by decide) rfl rfl (fun c44 => ?_) (fun c44 => ?_)
    · refine lv_iconst (v := 0) hx hb dX11_two_165 (by decide) ?_
      refine hret _ _ _ _ _ _ dX11_two_166 rfl ?_ hO
      exact rfl
    · refine lv_iconst (v := 1) hx hb dX11_two_161 (by decide) ?_
      refine lv_goto (tgt := 166) hx hb dX11_two_162 (by decide) ?_
      refine hret _ _ _ _ _ _ dX11_two_166 rfl ?_ hO
      exact rfl
  · refine lv_tableIn (tgt := 178) hx hb dX11_two_1 (by rw [c1]; decide) (by rw [c1]; decide) (by rw [c1]; rfl) (by decide) ?_
    refine lv_iload_n hx hb dX11_two_178 rfl (lv_at hl 1 rfl) ?_
    refine lv_iload_n hx hb dX11_two_179 rfl (lv_at hl 2 rfl) ?_
    refine cs_ne (tgt := 187) (X := (x2).toInt) (Y := (x3).toInt) hx hb dX11_two_180 (by decide) rfl rfl (fun c45 => ?_) (fun c45 => ?_)
    · refine lv_iconst (v := 0) hx hb dX11_two_187 (by decide) ?_
      refine hret _ _ _ _ _ _ dX11_two_188 rfl ?_ hO
      exact rfl
    · refine lv_iconst (v := 1) hx hb dX11_two_183 (by decide) ?_
      refine lv_goto (tgt := 188) hx hb dX11_two_184 (by decide) ?_
      refine hret _ _ _ _ _ _ dX11_two_188 rfl ?_ hO
      exact rfl
  · refine lv_tableIn (tgt := 167) hx hb dX11_two_1 (by rw [c1]; decide) (by rw [c1]; decide) (by rw [c1]; rfl) (by decide) ?_
    refine lv_iload_n hx hb dX11_two_167 rfl (lv_at hl 1 rfl) ?_
    refine lv_iload_n hx hb dX11_two_168 rfl (lv_at hl 2 rfl) ?_
    refine cs_le (tgt := 176) (X := (x2).toInt) (Y := (x3).toInt) hx hb dX11_two_169 (by decide) rfl rfl (fun c46 => ?_) (fun c46 => ?_)
    · refine lv_iconst (v := 0) hx hb dX11_two_176 (by decide) ?_
      refine hret _ _ _ _ _ _ dX11_two_177 rfl ?_ hO
      exact rfl
    · refine lv_iconst (v := 1) hx hb dX11_two_172 (by decide) ?_
      refine lv_goto (tgt := 177) hx hb dX11_two_173 (by decide) ?_
      refine hret _ _ _ _ _ _ dX11_two_177 rfl ?_ hO
      exact rfl
theorem dX11_asked_0 : decode cX11_asked 0 = .ok (.iload_n 1, 1) := by decide +kernel
theorem dX11_asked_1 : decode cX11_asked 1 = .ok (.tableswitch 147 98 115 #[104, 147, 147, 147, 147, 147, 139, 147, 147, 130, 147, 96, 147, 147, 87, 147, 147, 117], 87) := by decide +kernel
theorem dX11_asked_88 : decode cX11_asked 88 = .ok (.aload_n 0, 1) := by decide +kernel
theorem dX11_asked_89 : decode cX11_asked 89 = .ok (.aload_n 0, 1) := by decide +kernel
theorem dX11_asked_90 : decode cX11_asked 90 = .ok (.getfield 352, 3) := by decide +kernel
theorem dX11_asked_93 : decode cX11_asked 93 = .ok (.invokevirtual 355, 3) := by decide +kernel
theorem dX11_asked_96 : decode cX11_asked 96 = .ok (.ireturn, 1) := by decide +kernel
theorem dX11_asked_97 : decode cX11_asked 97 = .ok (.aload_n 0, 1) := by decide +kernel
theorem dX11_asked_98 : decode cX11_asked 98 = .ok (.getfield 352, 3) := by decide +kernel
theorem dX11_asked_101 : decode cX11_asked 101 = .ok (.invokestatic 316, 3) := by decide +kernel
theorem dX11_asked_104 : decode cX11_asked 104 = .ok (.ireturn, 1) := by decide +kernel
theorem dX11_asked_105 : decode cX11_asked 105 = .ok (.aload_n 0, 1) := by decide +kernel
theorem dX11_asked_106 : decode cX11_asked 106 = .ok (.getfield 97, 3) := by decide +kernel
theorem dX11_asked_109 : decode cX11_asked 109 = .ok (.bipush 12, 2) := by decide +kernel
theorem dX11_asked_111 : decode cX11_asked 111 = .ok (.aload_n 0, 1) := by decide +kernel
theorem dX11_asked_112 : decode cX11_asked 112 = .ok (.getfield 358, 3) := by decide +kernel
theorem dX11_asked_115 : decode cX11_asked 115 = .ok (.iadd, 1) := by decide +kernel
theorem dX11_asked_116 : decode cX11_asked 116 = .ok (.iaload, 1) := by decide +kernel
theorem dX11_asked_117 : decode cX11_asked 117 = .ok (.ireturn, 1) := by decide +kernel
theorem dX11_asked_118 : decode cX11_asked 118 = .ok (.aload_n 0, 1) := by decide +kernel
theorem dX11_asked_119 : decode cX11_asked 119 = .ok (.getfield 97, 3) := by decide +kernel
theorem dX11_asked_122 : decode cX11_asked 122 = .ok (.bipush 18, 2) := by decide +kernel
theorem dX11_asked_124 : decode cX11_asked 124 = .ok (.aload_n 0, 1) := by decide +kernel
theorem dX11_asked_125 : decode cX11_asked 125 = .ok (.getfield 358, 3) := by decide +kernel
theorem dX11_asked_128 : decode cX11_asked 128 = .ok (.iadd, 1) := by decide +kernel
theorem dX11_asked_129 : decode cX11_asked 129 = .ok (.iaload, 1) := by decide +kernel
theorem dX11_asked_130 : decode cX11_asked 130 = .ok (.ireturn, 1) := by decide +kernel
theorem dX11_asked_131 : decode cX11_asked 131 = .ok (.aload_n 0, 1) := by decide +kernel
theorem dX11_asked_132 : decode cX11_asked 132 = .ok (.aload_n 0, 1) := by decide +kernel
theorem dX11_asked_133 : decode cX11_asked 133 = .ok (.getfield 358, 3) := by decide +kernel
theorem dX11_asked_136 : decode cX11_asked 136 = .ok (.invokevirtual 361, 3) := by decide +kernel
theorem dX11_asked_139 : decode cX11_asked 139 = .ok (.ireturn, 1) := by decide +kernel
theorem dX11_asked_140 : decode cX11_asked 140 = .ok (.aload_n 0, 1) := by decide +kernel
theorem dX11_asked_141 : decode cX11_asked 141 = .ok (.getfield 97, 3) := by decide +kernel
theorem dX11_asked_144 : decode cX11_asked 144 = .ok (.bipush 25, 2) := by decide +kernel
theorem dX11_asked_146 : decode cX11_asked 146 = .ok (.iaload, 1) := by decide +kernel
theorem dX11_asked_147 : decode cX11_asked 147 = .ok (.ireturn, 1) := by decide +kernel
theorem dX11_asked_148 : decode cX11_asked 148 = .ok (.iload_n 2, 1) := by decide +kernel
theorem dX11_asked_149 : decode cX11_asked 149 = .ok (.ireturn, 1) := by decide +kernel
theorem wd_1776 : (Cond.code ⟨"WebCourtModel", "asked", "(II)I"⟩ prog_13_method_38_code (3 : Nat) (Option.some FieldType.int)) ∈ gtb := gtb_c7 227 (by decide +kernel) rfl
theorem wd_1398 : (Cond.fieldLink "WebCourtModel" (358 : Nat) "WebCourtModel" "askCase" "I") ∈ gtb := gtb_c6 89 (by decide +kernel) rfl
theorem gf_RX11_358 {p : Program} {l : Launch} {e : Env} {R : Room} {s : State} {m : MethodId} {args : Array Value} {below : List Frame} {meth : Method} {c : Code} {H : Heap} {locs : List Loc} {cells slots : Nat} {Q : State → Prop} {cc : ByteArray} {pc nL : Nat} {ls : Array Slot} {rest : List Value} {D : va_G} {cy : Nat → ClassId} {A : Nat → Prop} {ws : va_W} {b : Nat} {fs : List Value} {v : Value} (C : Cx p s m args c cc nL RX11 D cy A) (hO : Wo D A ws s.heap H locs) (q0 : Nat) (he : ws[q0]? = some (b, .inr (11, fs))) (hv : fs[42]? = some v) (hdg : decode cc pc = .ok (.getfield 358, 3)) (kk : W p l e R s m args below meth c H locs cells slots Q (F0 m (pc + 3) ls (v :: rest))) : W p l e R s m args below meth c H locs cells slots Q (F0 m pc ls (.ref b :: rest)) := gF (k := 42) C hO q0 he rfl inFX11 (by decide) wd_1398 rfl hv hdg kk
theorem wd_1781 : (Cond.methodLink "WebCourtModel" (361 : Nat) ⟨"WebCourtModel", "kinOf", "(I)I"⟩) ∈ gtb := gtb_c7 232 (by decide +kernel) rfl
theorem wd_1783 : (Cond.instanceMethod ⟨"WebCourtModel", "kinOf", "(I)I"⟩) ∈ gtb := gtb_c7 234 (by decide +kernel) rfl
theorem wd_89 : (Cond.selects "WebCourtModel" ⟨"WebCourtModel", "kinOf", "(I)I"⟩ ⟨"WebCourtModel", "kinOf", "(I)I"⟩) ∈ gtb := gtb_p 89 (by decide +kernel) rfl
theorem hd_yX11_kinOf : yX11_kinOf.cls = RX11 ∧ yX11_kinOf.cls ≠ "java/lang/invoke/MethodHandle" ∧ yX11_kinOf.cls ≠ "java/lang/invoke/VarHandle" ∧ (parseMethodDescriptor yX11_kinOf.desc).map (fun d => d.parameters.length) = some 1 := by decide +kernel
theorem wd_1399 : (Cond.fieldLink "WebCourtModel" (352 : Nat) "WebCourtModel" "askPleas" "I") ∈ gtb := gtb_c6 90 (by decide +kernel) rfl
theorem gf_RX11_352 {p : Program} {l : Launch} {e : Env} {R : Room} {s : State} {m : MethodId} {args : Array Value} {below : List Frame} {meth : Method} {c : Code} {H : Heap} {locs : List Loc} {cells slots : Nat} {Q : State → Prop} {cc : ByteArray} {pc nL : Nat} {ls : Array Slot} {rest : List Value} {D : va_G} {cy : Nat → ClassId} {A : Nat → Prop} {ws : va_W} {b : Nat} {fs : List Value} {v : Value} (C : Cx p s m args c cc nL RX11 D cy A) (hO : Wo D A ws s.heap H locs) (q0 : Nat) (he : ws[q0]? = some (b, .inr (11, fs))) (hv : fs[43]? = some v) (hdg : decode cc pc = .ok (.getfield 352, 3)) (kk : W p l e R s m args below meth c H locs cells slots Q (F0 m (pc + 3) ls (v :: rest))) : W p l e R s m args below meth c H locs cells slots Q (F0 m pc ls (.ref b :: rest)) := gF (k := 43) C hO q0 he rfl inFX11 (by decide) wd_1399 rfl hv hdg kk
theorem wd_1777 : (Cond.methodLink "WebCourtModel" (355 : Nat) ⟨"WebCourtModel", "strengthOf", "(I)I"⟩) ∈ gtb := gtb_c7 228 (by decide +kernel) rfl
theorem wd_1779 : (Cond.instanceMethod ⟨"WebCourtModel", "strengthOf", "(I)I"⟩) ∈ gtb := gtb_c7 230 (by decide +kernel) rfl
theorem wd_88 : (Cond.selects "WebCourtModel" ⟨"WebCourtModel", "strengthOf", "(I)I"⟩ ⟨"WebCourtModel", "strengthOf", "(I)I"⟩) ∈ gtb := gtb_p 88 (by decide +kernel) rfl
theorem hd_yX11_strengthOf : yX11_strengthOf.cls = RX11 ∧ yX11_strengthOf.cls ≠ "java/lang/invoke/MethodHandle" ∧ yX11_strengthOf.cls ≠ "java/lang/invoke/VarHandle" ∧ (parseMethodDescriptor yX11_strengthOf.desc).map (fun d => d.parameters.length) = some 1 := by decide +kernel
set_option maxHeartbeats 4000000 in
set_option maxRecDepth 100000 in
theorem T_X11_asked (l : Launch) (D : va_G) (cy : Nat → ClassId) (a : Nat → Nat) (u : St) (hJ : MI a u) (x1 : Int32) (x2 : Int32)  : Mi l D cy (mW cy a) yX11_asked (.code yX11_asked cX11_asked 3 (some .int)) (rmo 3 65) [.ref (a 0), .int x1, .int x2] u (fun (r : Int32) (u' : St) => u' = u) := by
  refine Mi.of (own := RX11) rfl (by decide) (Nat.le_of_ble_eq_true rfl) ?_
  have hT : Km0 u u := Km0.rf
  have hJ0 := hJ
  intro p e s m below meth c A Q ls C hret hO hl
  obtain ⟨hx, hb, hml, hown, ht, hK, hA⟩ := id C
  have hl : lv_has ls 3 [(0, .ref (a 0)), (1, .int x1), (2, .int x2)] := hl
  refine lv_iload_n hx hb dX11_asked_0 rfl (lv_at hl 1 rfl) ?_
  have c1 : ((x1).toInt < 98 ∨ 115 < (x1).toInt) ∨ (x1).toInt = 98 ∨ (x1).toInt = 99 ∨ (x1).toInt = 100 ∨ (x1).toInt = 101 ∨ (x1).toInt = 102 ∨ (x1).toInt = 103 ∨ (x1).toInt = 104 ∨ (x1).toInt = 105 ∨ (x1).toInt = 106 ∨ (x1).toInt = 107 ∨ (x1).toInt = 108 ∨ (x1).toInt = 109 ∨ (x1).toInt = 110 ∨ (x1).toInt = 111 ∨ (x1).toInt = 112 ∨ (x1).toInt = 113 ∨ (x1).toInt = 114 ∨ (x1).toInt = 115 := by omega
  rcases c1 with c1 | c1 | c1 | c1 | c1 | c1 | c1 | c1 | c1 | c1 | c1 | c1 | c1 | c1 | c1 | c1 | c1 | c1 | c1
  · refine lv_tableOut (tgt := 148) hx hb dX11_asked_1 (by rw [show x1.toInt = (x1).toInt from rfl]; exact c1) (by decide) ?_
    refine lv_iload_n hx hb dX11_asked_148 rfl (lv_at hl 2 rfl) ?_
    refine hret _ _ _ _ _ _ dX11_asked_149 rfl ?_ hO
    exact rfl
  · refine lv_tableIn (tgt := 105) hx hb dX11_asked_1 (by rw [c1]; decide) (by rw [c1]; decide) (by rw [c1]; rfl) (by decide) ?_
    refine lv_aload_n hx hb dX11_asked_105 rfl (lv_at hl 0 rfl) ?_
    refine gf_RX11_97 (v := .ref (a 28)) C hO 0 mW_0 rfl dX11_asked_106 ?_
    refine lv_bipush (v := 12) hx hb dX11_asked_109 (by decide) ?_
    refine lv_aload_n hx hb dX11_asked_111 rfl (lv_at hl 0 rfl) ?_
    have g2 : 0 ≤ (fI u 0 42).toInt ∧ (fI u 0 42).toInt ≤ 5 := by have h := MI_42 hJ0; exact h
    refine gf_RX11_358 (v := .int (fI u 0 42)) C hO 0 mW_0 rfl dX11_asked_112 ?_
    have e3 : ((12 + (fI u 0 42))).toInt = 12 + ((fI u 0 42)).toInt := i_add rfl rfl (by omega)
    refine lv_iadd hx hb dX11_asked_115 ?_
    refine aI C hO 28 mW_28 (i_in (X := (12 + ((fI u 0 42)).toInt)) e3 (by omega) (by omega)) dX11_asked_116 ?_
    refine tE (y := (fA u 28 ((12 + (fI u 0 42))).toNatClampNeg)) (by exact rfl) ?_
    refine hret _ _ _ _ _ _ dX11_asked_117 rfl ?_ hO
    exact rfl
  · refine lv_tableIn (tgt := 148) hx hb dX11_asked_1 (by rw [c1]; decide) (by rw [c1]; decide) (by rw [c1]; rfl) (by decide) ?_
    refine lv_iload_n hx hb dX11_asked_148 rfl (lv_at hl 2 rfl) ?_
    refine hret _ _ _ _ _ _ dX11_asked_149 rfl ?_ hO
    exact rfl
  · refine lv_tableIn (tgt := 148) hx hb dX11_asked_1 (by rw [c1]; decide) (by rw [c1]; decide) (by rw [c1]; rfl) (by decide) ?_
    refine lv_iload_n hx hb dX11_asked_148 rfl (lv_at hl 2 rfl) ?_
    refine hret _ _ _ _ _ _ dX11_asked_149 rfl ?_ hO
    exact rfl
  · refine lv_tableIn (tgt := 148) hx hb dX11_asked_1 (by rw [c1]; decide) (by rw [c1]; decide) (by rw [c1]; rfl) (by decide) ?_
    refine lv_iload_n hx hb dX11_asked_148 rfl (lv_at hl 2 rfl) ?_
    refine hret _ _ _ _ _ _ dX11_asked_149 rfl ?_ hO
    exact rfl
  · refine lv_tableIn (tgt := 148) hx hb dX11_asked_1 (by rw [c1]; decide) (by rw [c1]; decide) (by rw [c1]; rfl) (by decide) ?_
    refine lv_iload_n hx hb dX11_asked_148 rfl (lv_at hl 2 rfl) ?_
    refine hret _ _ _ _ _ _ dX11_asked_149 rfl ?_ hO
    exact rfl
  · refine lv_tableIn (tgt := 148) hx hb dX11_asked_1 (by rw [c1]; decide) (by rw [c1]; decide) (by rw [c1]; rfl) (by decide) ?_
    refine lv_iload_n hx hb dX11_asked_148 rfl (lv_at hl 2 rfl) ?_
    refine hret _ _ _ _ _ _ dX11_asked_149 rfl ?_ hO
    exact rfl
  · refine lv_tableIn (tgt := 140) hx hb dX11_asked_1 (by rw [c1]; decide) (by rw [c1]; decide) (by rw [c1]; rfl) (by decide) ?_
    refine lv_aload_n hx hb dX11_asked_140 rfl (lv_at hl 0 rfl) ?_
    refine gf_RX11_97 (v := .ref (a 28)) C hO 0 mW_0 rfl dX11_asked_141 ?_
    refine lv_bipush (v := 25) hx hb dX11_asked_144 (by decide) ?_
    refine aI C hO 28 mW_28 (i_in (X := 25) rfl (by omega) (by omega)) dX11_asked_146 ?_
    refine tE (y := (fA u 28 25)) (by exact rfl) ?_
    refine hret _ _ _ _ _ _ dX11_asked_147 rfl ?_ hO
    exact rfl
  · refine lv_tableIn (tgt := 148) hx hb dX11_asked_1 (by rw [c1]; decide) (by rw [c1]; decide) (by rw [c1]; rfl) (by decide) ?_
    refine lv_iload_n hx hb dX11_asked_148 rfl (lv_at hl 2 rfl) ?_
    refine hret _ _ _ _ _ _ dX11_asked_149 rfl ?_ hO
    exact rfl
  · refine lv_tableIn (tgt := 148) hx hb dX11_asked_1 (by rw [c1]; decide) (by rw [c1]; decide) (by rw [c1]; rfl) (by decide) ?_
    refine lv_iload_n hx hb dX11_asked_148 rfl (lv_at hl 2 rfl) ?_
    refine hret _ _ _ _ _ _ dX11_asked_149 rfl ?_ hO
    exact rfl
  · refine lv_tableIn (tgt := 131) hx hb dX11_asked_1 (by rw [c1]; decide) (by rw [c1]; decide) (by rw [c1]; rfl) (by decide) ?_
    refine lv_aload_n hx hb dX11_asked_131 rfl (lv_at hl 0 rfl) ?_
    refine lv_aload_n hx hb dX11_asked_132 rfl (lv_at hl 0 rfl) ?_
    have g4 : 0 ≤ (fI u 0 42).toInt ∧ (fI u 0 42).toInt ≤ 5 := by have h := MI_42 hJ0; exact h
    refine gf_RX11_358 (v := .int (fI u 0 42)) C hO 0 mW_0 rfl dX11_asked_133 ?_
    refine cVi (w := mW cy a) (As := [.int (fI u 0 42)]) (rest := []) C hO (T_X11_kinOf l D cy a _ (by exact hJ) ((fI u 0 42)) (by first | omega | decide)) (cwV 1 ht (gV wd_1781 wd_1783 wd_89 wd_121 wd_1784) rfl rfl rfl hd_yX11_kinOf ⟨Nat.le_of_ble_eq_true rfl, Nat.le_of_ble_eq_true rfl⟩) 0 rfl mW_0 rfl rfl hl.1 (Nat.le_of_ble_eq_true rfl) dX11_asked_136 rfl ⟨Nat.zero_le _, Nat.zero_le _⟩ (fun r5 u6 H locs hp7 hO => ?_)
    have hu6 := hp7
    rw [hu6] at hO
    refine hret _ _ _ _ _ _ dX11_asked_139 rfl ?_ hO
    exact rfl
  · refine lv_tableIn (tgt := 148) hx hb dX11_asked_1 (by rw [c1]; decide) (by rw [c1]; decide) (by rw [c1]; rfl) (by decide) ?_
    refine lv_iload_n hx hb dX11_asked_148 rfl (lv_at hl 2 rfl) ?_
    refine hret _ _ _ _ _ _ dX11_asked_149 rfl ?_ hO
    exact rfl
  · refine lv_tableIn (tgt := 97) hx hb dX11_asked_1 (by rw [c1]; decide) (by rw [c1]; decide) (by rw [c1]; rfl) (by decide) ?_
    refine lv_aload_n hx hb dX11_asked_97 rfl (lv_at hl 0 rfl) ?_
    refine gf_RX11_352 (v := .int (fI u 0 43)) C hO 0 mW_0 rfl dX11_asked_98 ?_
    refine cSi (w := mW cy a) (As := [.int (fI u 0 43)]) (rest := []) C hO (T_X11_bitsOf l D cy a _ (by exact hJ) ((fI u 0 43))) (va_cwS 1 ht (gSS wd_1663 wd_1664 wd_121 wd_1665) rfl rfl rfl hd_yX11_bitsOf ⟨Nat.le_of_ble_eq_true rfl, Nat.le_of_ble_eq_true rfl⟩)  rfl hl.1 (Nat.le_of_ble_eq_true rfl) dX11_asked_101 rfl ⟨Nat.zero_le _, Nat.zero_le _⟩ (fun r8 u9 H locs hp10 hO => ?_)
    have hu9 := hp10
    rw [hu9] at hO
    refine hret _ _ _ _ _ _ dX11_asked_104 rfl ?_ hO
    exact rfl
  · refine lv_tableIn (tgt := 148) hx hb dX11_asked_1 (by rw [c1]; decide) (by rw [c1]; decide) (by rw [c1]; rfl) (by decide) ?_
    refine lv_iload_n hx hb dX11_asked_148 rfl (lv_at hl 2 rfl) ?_
    refine hret _ _ _ _ _ _ dX11_asked_149 rfl ?_ hO
    exact rfl
  · refine lv_tableIn (tgt := 148) hx hb dX11_asked_1 (by rw [c1]; decide) (by rw [c1]; decide) (by rw [c1]; rfl) (by decide) ?_
    refine lv_iload_n hx hb dX11_asked_148 rfl (lv_at hl 2 rfl) ?_
    refine hret _ _ _ _ _ _ dX11_asked_149 rfl ?_ hO
    exact rfl
  · refine lv_tableIn (tgt := 88) hx hb dX11_asked_1 (by rw [c1]; decide) (by rw [c1]; decide) (by rw [c1]; rfl) (by decide) ?_
    refine lv_aload_n hx hb dX11_asked_88 rfl (lv_at hl 0 rfl) ?_
    refine lv_aload_n hx hb dX11_asked_89 rfl (lv_at hl 0 rfl) ?_
    refine gf_RX11_352 (v := .int (fI u 0 43)) C hO 0 mW_0 rfl dX11_asked_90 ?_
    have g11 : 0 ≤ (fI u 0 36).toInt ∧ (fI u 0 36).toInt ≤ 1 := by have h := MI_36 hJ0; exact h
    have g12 : 0 ≤ (fA u 5 ((fI u 0 36)).toNatClampNeg).toInt ∧ (fA u 5 ((fI u 0 36)).toNatClampNeg).toInt ≤ 8 := by have h := MI_A5 hJ0 ((fI u 0 36)).toNatClampNeg; exact h
    refine cVi (w := mW cy a) (As := [.int (fI u 0 43)]) (rest := []) C hO (T_X11_strengthOf l D cy a _ (by exact hJ) ((fA u 5 ((fI u 0 36)).toNatClampNeg)) (by exact rfl) ((fI u 0 43))) (cwV 1 ht (gV wd_1777 wd_1779 wd_88 wd_121 wd_1780) rfl rfl rfl hd_yX11_strengthOf ⟨Nat.le_of_ble_eq_true rfl, Nat.le_of_ble_eq_true rfl⟩) 0 rfl mW_0 rfl rfl hl.1 (Nat.le_of_ble_eq_true rfl) dX11_asked_93 rfl ⟨Nat.zero_le _, Nat.zero_le _⟩ (fun r13 u14 H locs hp15 hO => ?_)
    have hu14 := hp15
    rw [hu14] at hO
    refine hret _ _ _ _ _ _ dX11_asked_96 rfl ?_ hO
    exact rfl
  · refine lv_tableIn (tgt := 148) hx hb dX11_asked_1 (by rw [c1]; decide) (by rw [c1]; decide) (by rw [c1]; rfl) (by decide) ?_
    refine lv_iload_n hx hb dX11_asked_148 rfl (lv_at hl 2 rfl) ?_
    refine hret _ _ _ _ _ _ dX11_asked_149 rfl ?_ hO
    exact rfl
  · refine lv_tableIn (tgt := 148) hx hb dX11_asked_1 (by rw [c1]; decide) (by rw [c1]; decide) (by rw [c1]; rfl) (by decide) ?_
    refine lv_iload_n hx hb dX11_asked_148 rfl (lv_at hl 2 rfl) ?_
    refine hret _ _ _ _ _ _ dX11_asked_149 rfl ?_ hO
    exact rfl
  · refine lv_tableIn (tgt := 118) hx hb dX11_asked_1 (by rw [c1]; decide) (by rw [c1]; decide) (by rw [c1]; rfl) (by decide) ?_
    refine lv_aload_n hx hb dX11_asked_118 rfl (lv_at hl 0 rfl) ?_
    refine gf_RX11_97 (v := .ref (a 28)) C hO 0 mW_0 rfl dX11_asked_119 ?_
    refine lv_bipush (v := 18) hx hb dX11_asked_122 (by decide) ?_
    refine lv_aload_n hx hb dX11_asked_124 rfl (lv_at hl 0 rfl) ?_
    have g16 : 0 ≤ (fI u 0 42).toInt ∧ (fI u 0 42).toInt ≤ 5 := by have h := MI_42 hJ0; exact h
    refine gf_RX11_358 (v := .int (fI u 0 42)) C hO 0 mW_0 rfl dX11_asked_125 ?_
    have e17 : ((18 + (fI u 0 42))).toInt = 18 + ((fI u 0 42)).toInt := i_add rfl rfl (by omega)
    refine lv_iadd hx hb dX11_asked_128 ?_
    refine aI C hO 28 mW_28 (i_in (X := (18 + ((fI u 0 42)).toInt)) e17 (by omega) (by omega)) dX11_asked_129 ?_
    refine tE (y := (fA u 28 ((18 + (fI u 0 42))).toNatClampNeg)) (by exact rfl) ?_
    refine hret _ _ _ _ _ _ dX11_asked_130 rfl ?_ hO
    exact rfl
