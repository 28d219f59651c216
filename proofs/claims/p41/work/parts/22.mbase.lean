def Km0 (u v : St) : Prop := fI v 0 2 = fI u 0 2 ∧ fI v 0 3 = fI u 0 3 ∧ fI v 0 4 = fI u 0 4 ∧ fI v 0 5 = fI u 0 5 ∧ fI v 0 6 = fI u 0 6 ∧ fI v 0 7 = fI u 0 7 ∧ fI v 0 8 = fI u 0 8 ∧ fI v 0 9 = fI u 0 9 ∧ fL v 0 10 = fL u 0 10 ∧ fI v 0 36 = fI u 0 36 ∧ fI v 0 37 = fI u 0 37 ∧ fI v 0 38 = fI u 0 38 ∧ fI v 0 39 = fI u 0 39 ∧ fI v 0 40 = fI u 0 40 ∧ fI v 0 41 = fI u 0 41 ∧ fI v 0 42 = fI u 0 42 ∧ fI v 0 43 = fI u 0 43 ∧ fI v 0 45 = fI u 0 45 ∧ fI v 0 47 = fI u 0 47 ∧ fI v 0 48 = fI u 0 48 ∧ fI v 0 50 = fI u 0 50 ∧ fI v 0 61 = fI u 0 61 ∧ fI v 0 62 = fI u 0 62 ∧ fA v 1 = fA u 1 ∧ fA v 2 = fA u 2 ∧ fA v 3 = fA u 3 ∧ fA v 4 = fA u 4 ∧ fA v 5 = fA u 5 ∧ fA v 6 = fA u 6 ∧ fA v 7 = fA u 7 ∧ fA v 8 = fA u 8 ∧ fA v 9 = fA u 9 ∧ fA v 10 = fA u 10 ∧ fA v 11 = fA u 11 ∧ fA v 12 = fA u 12 ∧ fA v 13 = fA u 13 ∧ fA v 14 = fA u 14 ∧ fA v 15 = fA u 15 ∧ fA v 16 = fA u 16 ∧ fA v 17 = fA u 17 ∧ fA v 18 = fA u 18 ∧ fA v 19 = fA u 19 ∧ fJ v 20 = fJ u 20 ∧ fJ v 21 = fJ u 21 ∧ fJ v 22 = fJ u 22 ∧ fA v 23 = fA u 23 ∧ fA v 24 = fA u 24 ∧ fA v 25 = fA u 25 ∧ fA v 26 = fA u 26 ∧ fA v 27 = fA u 27 ∧ fA v 28 = fA u 28 ∧ fA v 29 = fA u 29 ∧ fA v 30 = fA u 30 ∧ fA v 31 = fA u 31 ∧ fA v 32 = fA u 32 ∧ fA v 33 = fA u 33 ∧ fA v 34 = fA u 34 ∧ fA v 35 = fA u 35 ∧ fA v 36 = fA u 36 ∧ fA v 37 = fA u 37 ∧ fA v 38 = fA u 38 ∧ fA v 39 = fA u 39 ∧ fA v 40 = fA u 40 ∧ fA v 41 = fA u 41 ∧ fA v 42 = fA u 42
theorem Km0.rf {u : St} : Km0 u u := ⟨rfl, rfl, rfl, rfl, rfl, rfl, rfl, rfl, rfl, rfl, rfl, rfl, rfl, rfl, rfl, rfl, rfl, rfl, rfl, rfl, rfl, rfl, rfl, rfl, rfl, rfl, rfl, rfl, rfl, rfl, rfl, rfl, rfl, rfl, rfl, rfl, rfl, rfl, rfl, rfl, rfl, rfl, rfl, rfl, rfl, rfl, rfl, rfl, rfl, rfl, rfl, rfl, rfl, rfl, rfl, rfl, rfl, rfl, rfl, rfl, rfl, rfl, rfl, rfl, rfl⟩
theorem Km0.tr {u v w : St} (h1 : Km0 u v) (h2 : Km0 v w) : Km0 u w := ⟨(h2.1).trans h1.1, (h2.2.1).trans h1.2.1, (h2.2.2.1).trans h1.2.2.1, (h2.2.2.2.1).trans h1.2.2.2.1, (h2.2.2.2.2.1).trans h1.2.2.2.2.1, (h2.2.2.2.2.2.1).trans h1.2.2.2.2.2.1, (h2.2.2.2.2.2.2.1).trans h1.2.2.2.2.2.2.1, (h2.2.2.2.2.2.2.2.1).trans h1.2.2.2.2.2.2.2.1, (h2.2.2.2.2.2.2.2.2.1).trans h1.2.2.2.2.2.2.2.2.1, (h2.2.2.2.2.2.2.2.2.2.1).trans h1.2.2.2.2.2.2.2.2.2.1, (h2.2.2.2.2.2.2.2.2.2.2.1).trans h1.2.2.2.2.2.2.2.2.2.2.1, (h2.2.2.2.2.2.2.2.2.2.2.2.1).trans h1.2.2.2.2.2.2.2.2.2.2.2.1, (h2.2.2.2.2.2.2.2.2.2.2.2.2.1).trans h1.2.2.2.2.2.2.2.2.2.2.2.2.1, (h2.2.2.2.2.2.2.2.2.2.2.2.2.2.1).trans h1.2.2.2.2.2.2.2.2.2.2.2.2.2.1, (h2.2.2.2.2.2.2.2.2.2.2.2.2.2.2.1).trans h1.2.2.2.2.2.2.2.2.2.2.2.2.2.2.1, (h2.2.2.2.2.2.2.2.2.2.2.2.2.2.2.2.1).trans h1.2.2.2.2.2.2.2.2.2.2.2.2.2.2.2.1, (h2.2.2.2.2.2.2.2.2.2.2.2.2.2.2.2.2.1).trans h1.2.2.2.2.2.2.2.2.2.2.2.2.2.2.2.2.1, (h2.2.2.2.2.2.2.2.2.2.2.2.2.2.2.2.2.2.1).trans h1.2.2.2.2.2.2.2.2.2.2.2.2.2.2.2.2.2.1, (h2.2.2.2.2.2.2.2.2.2.2.2.2.2.2.2.2.2.2.1).trans h1.2.2.2.2.2.2.2.2.2.2.2.2.2.2.2.2.2.2.1, (h2.2.2.2.2.2.2.2.2.2.2.2.2.2.2.2.2.2.2.2.1).trans h1.2.2.2.2.2.2.2.2.2.2.2.2.2.2.2.2.2.2.2.1, (h2.2.2.2.2.2.2.2.2.2.2.2.2.2.2.2.2.2.2.2.2.1).trans h1.2.2.2.2.2.2.2.2.2.2.2.2.2.2.2.2.2.2.2.2.1, (h2.2.2.2.2.2.2.2.2.2.2.2.2.2.2.2.2.2.2.2.2.2.1).trans h1.2.2.2.2.2.2.2.2.2.2.2.2.2.2.2.2.2.2.2.2.2.1, (h2.2.2.2.2.2.2.2.2.2.2.2.2.2.2.2.2.2.2.2.2.2.2.1).trans h1.2.2.2.2.2.2.2.2.2.2.2.2.2.2.2.2.2.2.2.2.2.2.1, (h2.2.2.2.2.2.2.2.2.2.2.2.2.2.2.2.2.2.2.2.2.2.2.2.1).trans h1.2.2.2.2.2.2.2.2.2.2.2.2.2.2.2.2.2.2.2.2.2.2.2.1, (h2.2.2.2.2.2.2.2.2.2.2.2.2.2.2.2.2.2.2.2.2.2.2.2.2.1).trans h1.2.2.2.2.2.2.2.2.2.2.2.2.2.2.2.2.2.2.2.2.2.2.2.2.1, (h2.2.2.2.2.2.2.2.2.2.2.2.2.2.2.2.2.2.2.2.2.2.2.2.2.2.1).trans h1.2.2.2.2.2.2.2.2.2.2.2.2.2.2.2.2.2.2.2.2.2.2.2.2.2.1, (h2.2.2.2.2.2.2.2.2.2.2.2.2.2.2.2.2.2.2.2.2.2.2.2.2.2.2.1).trans h1.2.2.2.2.2.2.2.2.2.2.2.2.2.2.2.2.2.2.2.2.2.2.2.2.2.2.1, (h2.2.2.2.2.2.2.2.2.2.2.2.2.2.2.2.2.2.2.2.2.2.2.2.2.2.2.2.1).trans h1.2.2.2.2.2.2.2.2.2.2.2.2.2.2.2.2.2.2.2.2.2.2.2.2.2.2.2.1, (h2.2.2.2.2.2.2.2.2.2.2.2.2.2.2.2.2.2.2.2.2.2.2.2.2.2.2.2.2.1).trans h1.2.2.2.2.2.2.2.2.2.2.2.2.2.2.2.2.2.2.2.2.2.2.2.2.2.2.2.2.1, (h2.2.2.2.2.2.2.2.2.2.2.2.2.2.2.2.2.2.2.2.2.2.2.2.2.2.2.2.2.2.1).trans h1.2.2.2.2.2.2.2.2.2.2.2.2.2.2.2.2.2.2.2.2.2.2.2.2.2.2.2.2.2.1, (h2.2.2.2.2.2.2.2.2.2.2.2.2.2.2.2.2.2.2.2.2.2.2.2.2.2.2.2.2.2.2.1).trans h1.2.2.2.2.2.2.2.2.2.2.2.2.2.2.2.2.2.2.2.2.2.2.2.2.2.2.2.2.2.2.1, (h2.2.2.2.2.2.2.2.2.2.2.2.2.2.2.2.2.2.2.2.2.2.2.2.2.2.2.2.2.2.2.2.1).trans h1.2.2.2.2.2.2.2.2.2.2.2.2.2.2.2.2.2.2.2.2.2.2.2.2.2.2.2.2.2.2.2.1, (h2.2.2.2.2.2.2.2.2.2.2.2.2.2.2.2.2.2.2.2.2.2.2.2.2.2.2.2.2.2.2.2.2.1).trans h1.2.2.2.2.2.2.2.2.2.2.2.2.2.2.2.2.2.2.2.2.2.2.2.2.2.2.2.2.2.2.2.2.1, (h2.2.2.2.2.2.2.2.2.2.2.2.2.2.2.2.2.2.2.2.2.2.2.2.2.2.2.2.2.2.2.2.2.2.1).trans h1.2.2.2.2.2.2.2.2.2.2.2.2.2.2.2.2.2.2.2.2.2.2.2.2.2.2.2.2.2.2.2.2.2.1, (h2.2.2.2.2.2.2.2.2.2.2.2.2.2.2.2.2.2.2.2.2.2.2.2.2.2.2.2.2.2.2.2.2.2.2.1).trans h1.2.2.2.2.2.2.2.2.2.2.2.2.2.2.2.2.2.2.2.2.2.2.2.2.2.2.2.2.2.2.2.2.2.2.1, (h2.2.2.2.2.2.2.2.2.2.2.2.2.2.2.2.2.2.2.2.2.2.2.2.2.2.2.2.2.2.2.2.2.2.2.2.1).trans h1.2.2.2.2.2.2.2.2.2.2.2.2.2.2.2.2.2.2.2.2.2.2.2.2.2.2.2.2.2.2.2.2.2.2.2.1, (h2.2.2.2.2.2.2.2.2.2.2.2.2.2.2.2.2.2.2.2.2.2.2.2.2.2.2.2.2.2.2.2.2.2.2.2.2.1).trans h1.2.2.2.2.2.2.2.2.2.2.2.2.2.2.2.2.2.2.2.2.2.2.2.2.2.2.2.2.2.2.2.2.2.2.2.2.1, (h2.2.2.2.2.2.2.2.2.2.2.2.2.2.2.2.2.2.2.2.2.2.2.2.2.2.2.2.2.2.2.2.2.2.2.2.2.2.1).trans h1.2.2.2.2.2.2.2.2.2.2.2.2.2.2.2.2.2.2.2.2.2.2.2.2.2.2.2.2.2.2.2.2.2.2.2.2.2.1, (h2.2.2.2.2.2.2.2.2.2.2.2.2.2.2.2.2.2.2.2.2.2.2.2.2.2.2.2.2.2.2.2.2.2.2.2.2.2.2.1).trans h1.2.2.2.2.2.2.2.2.2.2.2.2.2.2.2.2.2.2.2.2.2.2.2.2.2.2.2.2.2.2.2.2.2.2.2.2.2.2.1, (h2.2.2.2.2.2.2.2.2.2.2.2.2.2.2.2.2.2.2.2.2.2.2.2.2.2.2.2.2.2.2.2.2.2.2.2.2.2.2.2.1).trans h1.2.2.2.2.2.2.2.2.2.2.2.2.2.2.2.2.2.2.2.2.2.2.2.2.2.2.2.2.2.2.2.2.2.2.2.2.2.2.2.1, (h2.2.2.2.2.2.2.2.2.2.2.2.2.2.2.2.2.2.2.2.2.2.2.2.2.2.2.2.2.2.2.2.2.2.2.2.2.2.2.2.2.1).trans h1.2.2.2.2.2.2.2.2.2.2.2.2.2.2.2.2.2.2.2.2.2.2.2.2.2.2.2.2.2.2.2.2.2.2.2.2.2.2.2.2.1, (h2.2.2.2.2.2.2.2.2.2.2.2.2.2.2.2.2.2.2.2.2.2.2.2.2.2.2.2.2.2.2.2.2.2.2.2.2.2.2.2.2.2.1).trans h1.2.2.2.2.2.2.2.2.2.2.2.2.2.2.2.2.2.2.2.2.2.2.2.2.2.2.2.2.2.2.2.2.2.2.2.2.2.2.2.2.2.1, (h2.2.2.2.2.2.2.2.2.2.2.2.2.2.2.2.2.2.2.2.2.2.2.2.2.2.2.2.2.2.2.2.2.2.2.2.2.2.2.2.2.2.2.1).trans h1.2.2.2.2.2.2.2.2.2.2.2.2.2.2.2.2.2.2.2.2.2.2.2.2.2.2.2.2.2.2.2.2.2.2.2.2.2.2.2.2.2.2.1, (h2.2.2.2.2.2.2.2.2.2.2.2.2.2.2.2.2.2.2.2.2.2.2.2.2.2.2.2.2.2.2.2.2.2.2.2.2.2.2.2.2.2.2.2.1).trans h1.2.2.2.2.2.2.2.2.2.2.2.2.2.2.2.2.2.2.2.2.2.2.2.2.2.2.2.2.2.2.2.2.2.2.2.2.2.2.2.2.2.2.2.1, (h2.2.2.2.2.2.2.2.2.2.2.2.2.2.2.2.2.2.2.2.2.2.2.2.2.2.2.2.2.2.2.2.2.2.2.2.2.2.2.2.2.2.2.2.2.1).trans h1.2.2.2.2.2.2.2.2.2.2.2.2.2.2.2.2.2.2.2.2.2.2.2.2.2.2.2.2.2.2.2.2.2.2.2.2.2.2.2.2.2.2.2.2.1, (h2.2.2.2.2.2.2.2.2.2.2.2.2.2.2.2.2.2.2.2.2.2.2.2.2.2.2.2.2.2.2.2.2.2.2.2.2.2.2.2.2.2.2.2.2.2.1).trans h1.2.2.2.2.2.2.2.2.2.2.2.2.2.2.2.2.2.2.2.2.2.2.2.2.2.2.2.2.2.2.2.2.2.2.2.2.2.2.2.2.2.2.2.2.2.1, (h2.2.2.2.2.2.2.2.2.2.2.2.2.2.2.2.2.2.2.2.2.2.2.2.2.2.2.2.2.2.2.2.2.2.2.2.2.2.2.2.2.2.2.2.2.2.2.1).trans h1.2.2.2.2.2.2.2.2.2.2.2.2.2.2.2.2.2.2.2.2.2.2.2.2.2.2.2.2.2.2.2.2.2.2.2.2.2.2.2.2.2.2.2.2.2.2.1, (h2.2.2.2.2.2.2.2.2.2.2.2.2.2.2.2.2.2.2.2.2.2.2.2.2.2.2.2.2.2.2.2.2.2.2.2.2.2.2.2.2.2.2.2.2.2.2.2.1).trans h1.2.2.2.2.2.2.2.2.2.2.2.2.2.2.2.2.2.2.2.2.2.2.2.2.2.2.2.2.2.2.2.2.2.2.2.2.2.2.2.2.2.2.2.2.2.2.2.1, (h2.2.2.2.2.2.2.2.2.2.2.2.2.2.2.2.2.2.2.2.2.2.2.2.2.2.2.2.2.2.2.2.2.2.2.2.2.2.2.2.2.2.2.2.2.2.2.2.2.1).trans h1.2.2.2.2.2.2.2.2.2.2.2.2.2.2.2.2.2.2.2.2.2.2.2.2.2.2.2.2.2.2.2.2.2.2.2.2.2.2.2.2.2.2.2.2.2.2.2.2.1, (h2.2.2.2.2.2.2.2.2.2.2.2.2.2.2.2.2.2.2.2.2.2.2.2.2.2.2.2.2.2.2.2.2.2.2.2.2.2.2.2.2.2.2.2.2.2.2.2.2.2.1).trans h1.2.2.2.2.2.2.2.2.2.2.2.2.2.2.2.2.2.2.2.2.2.2.2.2.2.2.2.2.2.2.2.2.2.2.2.2.2.2.2.2.2.2.2.2.2.2.2.2.2.1, (h2.2.2.2.2.2.2.2.2.2.2.2.2.2.2.2.2.2.2.2.2.2.2.2.2.2.2.2.2.2.2.2.2.2.2.2.2.2.2.2.2.2.2.2.2.2.2.2.2.2.2.1).trans h1.2.2.2.2.2.2.2.2.2.2.2.2.2.2.2.2.2.2.2.2.2.2.2.2.2.2.2.2.2.2.2.2.2.2.2.2.2.2.2.2.2.2.2.2.2.2.2.2.2.2.1, (h2.2.2.2.2.2.2.2.2.2.2.2.2.2.2.2.2.2.2.2.2.2.2.2.2.2.2.2.2.2.2.2.2.2.2.2.2.2.2.2.2.2.2.2.2.2.2.2.2.2.2.2.1).trans h1.2.2.2.2.2.2.2.2.2.2.2.2.2.2.2.2.2.2.2.2.2.2.2.2.2.2.2.2.2.2.2.2.2.2.2.2.2.2.2.2.2.2.2.2.2.2.2.2.2.2.2.1, (h2.2.2.2.2.2.2.2.2.2.2.2.2.2.2.2.2.2.2.2.2.2.2.2.2.2.2.2.2.2.2.2.2.2.2.2.2.2.2.2.2.2.2.2.2.2.2.2.2.2.2.2.2.1).trans h1.2.2.2.2.2.2.2.2.2.2.2.2.2.2.2.2.2.2.2.2.2.2.2.2.2.2.2.2.2.2.2.2.2.2.2.2.2.2.2.2.2.2.2.2.2.2.2.2.2.2.2.2.1, (h2.2.2.2.2.2.2.2.2.2.2.2.2.2.2.2.2.2.2.2.2.2.2.2.2.2.2.2.2.2.2.2.2.2.2.2.2.2.2.2.2.2.2.2.2.2.2.2.2.2.2.2.2.2.1).trans h1.2.2.2.2.2.2.2.2.2.2.2.2.2.2.2.2.2.2.2.2.2.2.2.2.2.2.2.2.2.2.2.2.2.2.2.2.2.2.2.2.2.2.2.2.2.2.2.2.2.2.2.2.2.1, (h2.2.2.2.2.2.2.2.2.2.2.2.2.2.2.2.2.2.2.2.2.2.2.2.2.2.2.2.2.2.2.2.2.2.2.2.2.2.2.2.2.2.2.2.2.2.2.2.2.2.2.2.2.2.2.1).trans h1.2.2.2.2.2.2.2.2.2.2.2.2.2.2.2.2.2.2.2.2.2.2.2.2.2.2.2.2.2.2.2.2.2.2.2.2.2.2.2.2.2.2.2.2.2.2.2.2.2.2.2.2.2.2.1, (h2.2.2.2.2.2.2.2.2.2.2.2.2.2.2.2.2.2.2.2.2.2.2.2.2.2.2.2.2.2.2.2.2.2.2.2.2.2.2.2.2.2.2.2.2.2.2.2.2.2.2.2.2.2.2.2.1).trans h1.2.2.2.2.2.2.2.2.2.2.2.2.2.2.2.2.2.2.2.2.2.2.2.2.2.2.2.2.2.2.2.2.2.2.2.2.2.2.2.2.2.2.2.2.2.2.2.2.2.2.2.2.2.2.2.1, (h2.2.2.2.2.2.2.2.2.2.2.2.2.2.2.2.2.2.2.2.2.2.2.2.2.2.2.2.2.2.2.2.2.2.2.2.2.2.2.2.2.2.2.2.2.2.2.2.2.2.2.2.2.2.2.2.2.1).trans h1.2.2.2.2.2.2.2.2.2.2.2.2.2.2.2.2.2.2.2.2.2.2.2.2.2.2.2.2.2.2.2.2.2.2.2.2.2.2.2.2.2.2.2.2.2.2.2.2.2.2.2.2.2.2.2.2.1, (h2.2.2.2.2.2.2.2.2.2.2.2.2.2.2.2.2.2.2.2.2.2.2.2.2.2.2.2.2.2.2.2.2.2.2.2.2.2.2.2.2.2.2.2.2.2.2.2.2.2.2.2.2.2.2.2.2.2.1).trans h1.2.2.2.2.2.2.2.2.2.2.2.2.2.2.2.2.2.2.2.2.2.2.2.2.2.2.2.2.2.2.2.2.2.2.2.2.2.2.2.2.2.2.2.2.2.2.2.2.2.2.2.2.2.2.2.2.2.1, (h2.2.2.2.2.2.2.2.2.2.2.2.2.2.2.2.2.2.2.2.2.2.2.2.2.2.2.2.2.2.2.2.2.2.2.2.2.2.2.2.2.2.2.2.2.2.2.2.2.2.2.2.2.2.2.2.2.2.2.1).trans h1.2.2.2.2.2.2.2.2.2.2.2.2.2.2.2.2.2.2.2.2.2.2.2.2.2.2.2.2.2.2.2.2.2.2.2.2.2.2.2.2.2.2.2.2.2.2.2.2.2.2.2.2.2.2.2.2.2.2.1, (h2.2.2.2.2.2.2.2.2.2.2.2.2.2.2.2.2.2.2.2.2.2.2.2.2.2.2.2.2.2.2.2.2.2.2.2.2.2.2.2.2.2.2.2.2.2.2.2.2.2.2.2.2.2.2.2.2.2.2.2.1).trans h1.2.2.2.2.2.2.2.2.2.2.2.2.2.2.2.2.2.2.2.2.2.2.2.2.2.2.2.2.2.2.2.2.2.2.2.2.2.2.2.2.2.2.2.2.2.2.2.2.2.2.2.2.2.2.2.2.2.2.2.1, (h2.2.2.2.2.2.2.2.2.2.2.2.2.2.2.2.2.2.2.2.2.2.2.2.2.2.2.2.2.2.2.2.2.2.2.2.2.2.2.2.2.2.2.2.2.2.2.2.2.2.2.2.2.2.2.2.2.2.2.2.2.1).trans h1.2.2.2.2.2.2.2.2.2.2.2.2.2.2.2.2.2.2.2.2.2.2.2.2.2.2.2.2.2.2.2.2.2.2.2.2.2.2.2.2.2.2.2.2.2.2.2.2.2.2.2.2.2.2.2.2.2.2.2.2.1, (h2.2.2.2.2.2.2.2.2.2.2.2.2.2.2.2.2.2.2.2.2.2.2.2.2.2.2.2.2.2.2.2.2.2.2.2.2.2.2.2.2.2.2.2.2.2.2.2.2.2.2.2.2.2.2.2.2.2.2.2.2.2.1).trans h1.2.2.2.2.2.2.2.2.2.2.2.2.2.2.2.2.2.2.2.2.2.2.2.2.2.2.2.2.2.2.2.2.2.2.2.2.2.2.2.2.2.2.2.2.2.2.2.2.2.2.2.2.2.2.2.2.2.2.2.2.2.1, (h2.2.2.2.2.2.2.2.2.2.2.2.2.2.2.2.2.2.2.2.2.2.2.2.2.2.2.2.2.2.2.2.2.2.2.2.2.2.2.2.2.2.2.2.2.2.2.2.2.2.2.2.2.2.2.2.2.2.2.2.2.2.2.1).trans h1.2.2.2.2.2.2.2.2.2.2.2.2.2.2.2.2.2.2.2.2.2.2.2.2.2.2.2.2.2.2.2.2.2.2.2.2.2.2.2.2.2.2.2.2.2.2.2.2.2.2.2.2.2.2.2.2.2.2.2.2.2.2.1, (h2.2.2.2.2.2.2.2.2.2.2.2.2.2.2.2.2.2.2.2.2.2.2.2.2.2.2.2.2.2.2.2.2.2.2.2.2.2.2.2.2.2.2.2.2.2.2.2.2.2.2.2.2.2.2.2.2.2.2.2.2.2.2.2.1).trans h1.2.2.2.2.2.2.2.2.2.2.2.2.2.2.2.2.2.2.2.2.2.2.2.2.2.2.2.2.2.2.2.2.2.2.2.2.2.2.2.2.2.2.2.2.2.2.2.2.2.2.2.2.2.2.2.2.2.2.2.2.2.2.2.1, (h2.2.2.2.2.2.2.2.2.2.2.2.2.2.2.2.2.2.2.2.2.2.2.2.2.2.2.2.2.2.2.2.2.2.2.2.2.2.2.2.2.2.2.2.2.2.2.2.2.2.2.2.2.2.2.2.2.2.2.2.2.2.2.2.2).trans h1.2.2.2.2.2.2.2.2.2.2.2.2.2.2.2.2.2.2.2.2.2.2.2.2.2.2.2.2.2.2.2.2.2.2.2.2.2.2.2.2.2.2.2.2.2.2.2.2.2.2.2.2.2.2.2.2.2.2.2.2.2.2.2.2⟩
theorem dX11_isLetter_0 : decode cX11_isLetter 0 = .ok (.iload_n 0, 1) := by decide +kernel
theorem dX11_isLetter_1 : decode cX11_isLetter 1 = .ok (.bipush 97, 2) := by decide +kernel
theorem dX11_isLetter_3 : decode cX11_isLetter 3 = .ok (.if_icmp .lt 13, 3) := by decide +kernel
theorem dX11_isLetter_6 : decode cX11_isLetter 6 = .ok (.iload_n 0, 1) := by decide +kernel
theorem dX11_isLetter_7 : decode cX11_isLetter 7 = .ok (.bipush 122, 2) := by decide +kernel
theorem dX11_isLetter_9 : decode cX11_isLetter 9 = .ok (.if_icmp .gt 7, 3) := by decide +kernel
theorem dX11_isLetter_12 : decode cX11_isLetter 12 = .ok (.iconst 1, 1) := by decide +kernel
theorem dX11_isLetter_13 : decode cX11_isLetter 13 = .ok (.goto 4, 3) := by decide +kernel
theorem dX11_isLetter_16 : decode cX11_isLetter 16 = .ok (.iconst 0, 1) := by decide +kernel
theorem dX11_isLetter_17 : decode cX11_isLetter 17 = .ok (.ireturn, 1) := by decide +kernel
theorem wd_1566 : (Cond.code ⟨"WebCourtModel", "isLetter", "(I)Z"⟩ prog_13_method_3_code (1 : Nat) (Option.some FieldType.boolean)) ∈ gtb := gtb_c7 17 (by decide +kernel) rfl
set_option maxHeartbeats 4000000 in
set_option maxRecDepth 100000 in
theorem T_X11_isLetter (l : Launch) (D : va_G) (cy : Nat → ClassId) (a : Nat → Nat) (u : St) (hJ : MI a u) (x1 : Int32)  : Mi l D cy (mW cy a) yX11_isLetter (.code yX11_isLetter cX11_isLetter 1 (some .boolean)) (rmo 0 0) [.int x1] u (fun (r : Int32) (u' : St) => (((97 ≤ x1.toInt ∧ x1.toInt ≤ 122) ∧ r = 1) ∨ ((x1.toInt < 97 ∨ 122 < x1.toInt) ∧ r = 0)) ∧ (u' = u)) := by
  refine Mi.of (own := RX11) rfl (by decide) (Nat.le_of_ble_eq_true rfl) ?_
  have hT : Km0 u u := Km0.rf
  have hJ0 := hJ
  intro p e s m below meth c A Q ls C hret hO hl
  obtain ⟨hx, hb, hml, hown, ht, hK, hA⟩ := id C
  have hl : lv_has ls 1 [(0, .int x1)] := hl
  refine lv_iload_n hx hb dX11_isLetter_0 rfl (lv_at hl 0 rfl) ?_
  refine lv_bipush (v := 97) hx hb dX11_isLetter_1 (by decide) ?_
  refine cs_lt (tgt := 16) (X := (x1).toInt) (Y := 97) hx hb dX11_isLetter_3 (by decide) rfl rfl (fun c1 => ?_) (fun c1 => ?_)
  · refine lv_iconst (v := 0) hx hb dX11_isLetter_16 (by decide) ?_
    refine hret _ _ _ _ _ _ dX11_isLetter_17 rfl ?_ hO
    exact ⟨Or.inr ⟨by first | trivial | omega, rfl⟩, rfl⟩
  · refine lv_iload_n hx hb dX11_isLetter_6 rfl (lv_at hl 0 rfl) ?_
    refine lv_bipush (v := 122) hx hb dX11_isLetter_7 (by decide) ?_
    refine cs_gt (tgt := 16) (X := (x1).toInt) (Y := 122) hx hb dX11_isLetter_9 (by decide) rfl rfl (fun c2 => ?_) (fun c2 => ?_)
    · refine lv_iconst (v := 0) hx hb dX11_isLetter_16 (by decide) ?_
      refine hret _ _ _ _ _ _ dX11_isLetter_17 rfl ?_ hO
      exact ⟨Or.inr ⟨by first | trivial | omega, rfl⟩, rfl⟩
    · refine lv_iconst (v := 1) hx hb dX11_isLetter_12 (by decide) ?_
      refine lv_goto (tgt := 17) hx hb dX11_isLetter_13 (by decide) ?_
      refine hret _ _ _ _ _ _ dX11_isLetter_17 rfl ?_ hO
      exact ⟨Or.inl ⟨by omega, rfl⟩, rfl⟩
theorem dX11_isDigit_0 : decode cX11_isDigit 0 = .ok (.iload_n 0, 1) := by decide +kernel
theorem dX11_isDigit_1 : decode cX11_isDigit 1 = .ok (.bipush 48, 2) := by decide +kernel
theorem dX11_isDigit_3 : decode cX11_isDigit 3 = .ok (.if_icmp .lt 13, 3) := by decide +kernel
theorem dX11_isDigit_6 : decode cX11_isDigit 6 = .ok (.iload_n 0, 1) := by decide +kernel
theorem dX11_isDigit_7 : decode cX11_isDigit 7 = .ok (.bipush 57, 2) := by decide +kernel
theorem dX11_isDigit_9 : decode cX11_isDigit 9 = .ok (.if_icmp .gt 7, 3) := by decide +kernel
theorem dX11_isDigit_12 : decode cX11_isDigit 12 = .ok (.iconst 1, 1) := by decide +kernel
theorem dX11_isDigit_13 : decode cX11_isDigit 13 = .ok (.goto 4, 3) := by decide +kernel
theorem dX11_isDigit_16 : decode cX11_isDigit 16 = .ok (.iconst 0, 1) := by decide +kernel
theorem dX11_isDigit_17 : decode cX11_isDigit 17 = .ok (.ireturn, 1) := by decide +kernel
theorem wd_1592 : (Cond.code ⟨"WebCourtModel", "isDigit", "(I)Z"⟩ prog_13_method_4_code (1 : Nat) (Option.some FieldType.boolean)) ∈ gtb := gtb_c7 43 (by decide +kernel) rfl
set_option maxHeartbeats 4000000 in
set_option maxRecDepth 100000 in
theorem T_X11_isDigit (l : Launch) (D : va_G) (cy : Nat → ClassId) (a : Nat → Nat) (u : St) (hJ : MI a u) (x1 : Int32)  : Mi l D cy (mW cy a) yX11_isDigit (.code yX11_isDigit cX11_isDigit 1 (some .boolean)) (rmo 0 0) [.int x1] u (fun (r : Int32) (u' : St) => (((48 ≤ x1.toInt ∧ x1.toInt ≤ 57) ∧ r = 1) ∨ ((x1.toInt < 48 ∨ 57 < x1.toInt) ∧ r = 0)) ∧ (u' = u)) := by
  refine Mi.of (own := RX11) rfl (by decide) (Nat.le_of_ble_eq_true rfl) ?_
  have hT : Km0 u u := Km0.rf
  have hJ0 := hJ
  intro p e s m below meth c A Q ls C hret hO hl
  obtain ⟨hx, hb, hml, hown, ht, hK, hA⟩ := id C
  have hl : lv_has ls 1 [(0, .int x1)] := hl
  refine lv_iload_n hx hb dX11_isDigit_0 rfl (lv_at hl 0 rfl) ?_
  refine lv_bipush (v := 48) hx hb dX11_isDigit_1 (by decide) ?_
  refine cs_lt (tgt := 16) (X := (x1).toInt) (Y := 48) hx hb dX11_isDigit_3 (by decide) rfl rfl (fun c1 => ?_) (fun c1 => ?_)
  · refine lv_iconst (v := 0) hx hb dX11_isDigit_16 (by decide) ?_
    refine hret _ _ _ _ _ _ dX11_isDigit_17 rfl ?_ hO
    exact ⟨Or.inr ⟨by first | trivial | omega, rfl⟩, rfl⟩
  · refine lv_iload_n hx hb dX11_isDigit_6 rfl (lv_at hl 0 rfl) ?_
    refine lv_bipush (v := 57) hx hb dX11_isDigit_7 (by decide) ?_
    refine cs_gt (tgt := 16) (X := (x1).toInt) (Y := 57) hx hb dX11_isDigit_9 (by decide) rfl rfl (fun c2 => ?_) (fun c2 => ?_)
    · refine lv_iconst (v := 0) hx hb dX11_isDigit_16 (by decide) ?_
      refine hret _ _ _ _ _ _ dX11_isDigit_17 rfl ?_ hO
      exact ⟨Or.inr ⟨by first | trivial | omega, rfl⟩, rfl⟩
    · refine lv_iconst (v := 1) hx hb dX11_isDigit_12 (by decide) ?_
      refine lv_goto (tgt := 17) hx hb dX11_isDigit_13 (by decide) ?_
      refine hret _ _ _ _ _ _ dX11_isDigit_17 rfl ?_ hO
      exact ⟨Or.inl ⟨by omega, rfl⟩, rfl⟩
theorem dX11_isIn_0 : decode cX11_isIn 0 = .ok (.iload_n 0, 1) := by decide +kernel
theorem dX11_isIn_1 : decode cX11_isIn 1 = .ok (.iload_n 1, 1) := by decide +kernel
theorem dX11_isIn_2 : decode cX11_isIn 2 = .ok (.if_icmp .lt 12, 3) := by decide +kernel
theorem dX11_isIn_5 : decode cX11_isIn 5 = .ok (.iload_n 0, 1) := by decide +kernel
theorem dX11_isIn_6 : decode cX11_isIn 6 = .ok (.iload_n 2, 1) := by decide +kernel
theorem dX11_isIn_7 : decode cX11_isIn 7 = .ok (.if_icmp .gt 7, 3) := by decide +kernel
theorem dX11_isIn_10 : decode cX11_isIn 10 = .ok (.iconst 1, 1) := by decide +kernel
theorem dX11_isIn_11 : decode cX11_isIn 11 = .ok (.goto 4, 3) := by decide +kernel
theorem dX11_isIn_14 : decode cX11_isIn 14 = .ok (.iconst 0, 1) := by decide +kernel
theorem dX11_isIn_15 : decode cX11_isIn 15 = .ok (.ireturn, 1) := by decide +kernel
theorem wd_1724 : (Cond.code ⟨"WebCourtModel", "isIn", "(III)Z"⟩ prog_13_method_41_code (3 : Nat) (Option.some FieldType.boolean)) ∈ gtb := gtb_c7 175 (by decide +kernel) rfl
set_option maxHeartbeats 4000000 in
set_option maxRecDepth 100000 in
theorem T_X11_isIn (l : Launch) (D : va_G) (cy : Nat → ClassId) (a : Nat → Nat) (u : St) (hJ : MI a u) (x1 : Int32) (x2 : Int32) (x3 : Int32)  : Mi l D cy (mW cy a) yX11_isIn (.code yX11_isIn cX11_isIn 3 (some .boolean)) (rmo 0 0) [.int x1, .int x2, .int x3] u (fun (r : Int32) (u' : St) => (((x2.toInt ≤ x1.toInt ∧ x1.toInt ≤ x3.toInt) ∧ r = 1) ∨ ((x1.toInt < x2.toInt ∨ x3.toInt < x1.toInt) ∧ r = 0)) ∧ (u' = u)) := by
  refine Mi.of (own := RX11) rfl (by decide) (Nat.le_of_ble_eq_true rfl) ?_
  have hT : Km0 u u := Km0.rf
  have hJ0 := hJ
  intro p e s m below meth c A Q ls C hret hO hl
  obtain ⟨hx, hb, hml, hown, ht, hK, hA⟩ := id C
  have hl : lv_has ls 3 [(0, .int x1), (1, .int x2), (2, .int x3)] := hl
  refine lv_iload_n hx hb dX11_isIn_0 rfl (lv_at hl 0 rfl) ?_
  refine lv_iload_n hx hb dX11_isIn_1 rfl (lv_at hl 1 rfl) ?_
  refine cs_lt (tgt := 14) (X := (x1).toInt) (Y := (x2).toInt) hx hb dX11_isIn_2 (by decide) rfl rfl (fun c1 => ?_) (fun c1 => ?_)
  · refine lv_iconst (v := 0) hx hb dX11_isIn_14 (by decide) ?_
    refine hret _ _ _ _ _ _ dX11_isIn_15 rfl ?_ hO
    exact ⟨Or.inr ⟨by first | trivial | omega, rfl⟩, rfl⟩
  · refine lv_iload_n hx hb dX11_isIn_5 rfl (lv_at hl 0 rfl) ?_
    refine lv_iload_n hx hb dX11_isIn_6 rfl (lv_at hl 2 rfl) ?_
    refine cs_gt (tgt := 14) (X := (x1).toInt) (Y := (x3).toInt) hx hb dX11_isIn_7 (by decide) rfl rfl (fun c2 => ?_) (fun c2 => ?_)
    · refine lv_iconst (v := 0) hx hb dX11_isIn_14 (by decide) ?_
      refine hret _ _ _ _ _ _ dX11_isIn_15 rfl ?_ hO
      exact ⟨Or.inr ⟨by first | trivial | omega, rfl⟩, rfl⟩
    · refine lv_iconst (v := 1) hx hb dX11_isIn_10 (by decide) ?_
      refine lv_goto (tgt := 15) hx hb dX11_isIn_11 (by decide) ?_
      refine hret _ _ _ _ _ _ dX11_isIn_15 rfl ?_ hO
      exact ⟨Or.inl ⟨by omega, rfl⟩, rfl⟩
theorem dX11_bit_0 : decode cX11_bit 0 = .ok (.iload_n 0, 1) := by decide +kernel
theorem dX11_bit_1 : decode cX11_bit 1 = .ok (.iload_n 1, 1) := by decide +kernel
theorem dX11_bit_2 : decode cX11_bit 2 = .ok (.ishr, 1) := by decide +kernel
theorem dX11_bit_3 : decode cX11_bit 3 = .ok (.iconst 1, 1) := by decide +kernel
theorem dX11_bit_4 : decode cX11_bit 4 = .ok (.iand, 1) := by decide +kernel
theorem dX11_bit_5 : decode cX11_bit 5 = .ok (.iconst 1, 1) := by decide +kernel
theorem dX11_bit_6 : decode cX11_bit 6 = .ok (.if_icmp .ne 7, 3) := by decide +kernel
theorem dX11_bit_9 : decode cX11_bit 9 = .ok (.iconst 1, 1) := by decide +kernel
theorem dX11_bit_10 : decode cX11_bit 10 = .ok (.goto 4, 3) := by decide +kernel
theorem dX11_bit_13 : decode cX11_bit 13 = .ok (.iconst 0, 1) := by decide +kernel
theorem dX11_bit_14 : decode cX11_bit 14 = .ok (.ireturn, 1) := by decide +kernel
theorem wd_1614 : (Cond.code ⟨"WebCourtModel", "bit", "(II)Z"⟩ prog_13_method_42_code (2 : Nat) (Option.some FieldType.boolean)) ∈ gtb := gtb_c7 65 (by decide +kernel) rfl
set_option maxHeartbeats 4000000 in
set_option maxRecDepth 100000 in
theorem T_X11_bit (l : Launch) (D : va_G) (cy : Nat → ClassId) (a : Nat → Nat) (u : St) (hJ : MI a u) (x1 : Int32) (x2 : Int32)  : Mi l D cy (mW cy a) yX11_bit (.code yX11_bit cX11_bit 2 (some .boolean)) (rmo 0 0) [.int x1, .int x2] u (fun (r : Int32) (u' : St) => ((r = 0 ∨ r = 1) ∧ r = bitF x1 x2) ∧ (u' = u)) := by
  refine Mi.of (own := RX11) rfl (by decide) (Nat.le_of_ble_eq_true rfl) ?_
  have hT : Km0 u u := Km0.rf
  have hJ0 := hJ
  intro p e s m below meth c A Q ls C hret hO hl
  obtain ⟨hx, hb, hml, hown, ht, hK, hA⟩ := id C
  have hl : lv_has ls 2 [(0, .int x1), (1, .int x2)] := hl
  refine lv_iload_n hx hb dX11_bit_0 rfl (lv_at hl 0 rfl) ?_
  refine lv_iload_n hx hb dX11_bit_1 rfl (lv_at hl 1 rfl) ?_
  refine lv_ishr hx hb dX11_bit_2 ?_
  refine lv_topi (fun z1 ez1 => ?_)
  refine lv_iconst (v := 1) hx hb dX11_bit_3 (by decide) ?_
  refine lv_iand hx hb dX11_bit_4 ?_
  refine lv_topi (fun z2 ez2 => ?_)
  have g3 : 0 ≤ z2.toInt ∧ z2.toInt ≤ 1 := by rw [ez2]; exact i_andr rfl (by omega)
  refine lv_iconst (v := 1) hx hb dX11_bit_5 (by decide) ?_
  refine cs_ne (tgt := 13) (X := (z2).toInt) (Y := 1) hx hb dX11_bit_6 (by decide) rfl rfl (fun c4 => ?_) (fun c4 => ?_)
  · refine lv_iconst (v := 0) hx hb dX11_bit_13 (by decide) ?_
    refine hret _ _ _ _ _ _ dX11_bit_14 rfl ?_ hO
    exact ⟨⟨Or.inl rfl, (bitF_0 ez1 ez2 (by omega)).symm⟩, rfl⟩
  · refine lv_iconst (v := 1) hx hb dX11_bit_9 (by decide) ?_
    refine lv_goto (tgt := 14) hx hb dX11_bit_10 (by decide) ?_
    refine hret _ _ _ _ _ _ dX11_bit_14 rfl ?_ hO
    exact ⟨⟨Or.inr rfl, (bitF_1 ez1 ez2 (by omega)).symm⟩, rfl⟩
theorem dX11_many_0 : decode cX11_many 0 = .ok (.aload_n 0, 1) := by decide +kernel
theorem dX11_many_1 : decode cX11_many 1 = .ok (.getfield 30, 3) := by decide +kernel
theorem dX11_many_4 : decode cX11_many 4 = .ok (.aload_n 0, 1) := by decide +kernel
theorem dX11_many_5 : decode cX11_many 5 = .ok (.getfield 255, 3) := by decide +kernel
theorem dX11_many_8 : decode cX11_many 8 = .ok (.iaload, 1) := by decide +kernel
theorem dX11_many_9 : decode cX11_many 9 = .ok (.ireturn, 1) := by decide +kernel
theorem wd_1351 : (Cond.code ⟨"WebCourtModel", "many", "()I"⟩ prog_13_method_46_code (1 : Nat) (Option.some FieldType.int)) ∈ gtb := gtb_c6 42 (by decide +kernel) rfl
theorem wd_1370 : (Cond.fieldLink "WebCourtModel" (30 : Nat) "WebCourtModel" "cases" "[I") ∈ gtb := gtb_c6 61 (by decide +kernel) rfl
theorem wd_1421 : (Cond.laysFinal "WebCourtModel" "WebCourtModel" "tape" "[B") ∈ gtb := gtb_c6 112 (by decide +kernel) rfl
theorem wd_1423 : (Cond.laysFinal "WebCourtModel" "WebCourtModel" "text" "[B") ∈ gtb := gtb_c6 114 (by decide +kernel) rfl
theorem wd_1425 : (Cond.lays "WebCourtModel" "WebCourtModel" "taped" "I") ∈ gtb := gtb_c6 116 (by decide +kernel) rfl
theorem wd_1427 : (Cond.lays "WebCourtModel" "WebCourtModel" "size" "I") ∈ gtb := gtb_c6 118 (by decide +kernel) rfl
theorem wd_1429 : (Cond.lays "WebCourtModel" "WebCourtModel" "faultKind" "I") ∈ gtb := gtb_c6 120 (by decide +kernel) rfl
theorem wd_1431 : (Cond.lays "WebCourtModel" "WebCourtModel" "faultPlace" "I") ∈ gtb := gtb_c6 122 (by decide +kernel) rfl
theorem wd_1433 : (Cond.lays "WebCourtModel" "WebCourtModel" "at" "I") ∈ gtb := gtb_c6 124 (by decide +kernel) rfl
theorem wd_1435 : (Cond.lays "WebCourtModel" "WebCourtModel" "end" "I") ∈ gtb := gtb_c6 126 (by decide +kernel) rfl
theorem wd_1437 : (Cond.lays "WebCourtModel" "WebCourtModel" "token" "I") ∈ gtb := gtb_c6 128 (by decide +kernel) rfl
theorem wd_1439 : (Cond.lays "WebCourtModel" "WebCourtModel" "number" "I") ∈ gtb := gtb_c6 130 (by decide +kernel) rfl
theorem wd_1441 : (Cond.lays "WebCourtModel" "WebCourtModel" "name" "J") ∈ gtb := gtb_c6 132 (by decide +kernel) rfl
theorem wd_1443 : (Cond.laysFinal "WebCourtModel" "WebCourtModel" "knots" "[I") ∈ gtb := gtb_c6 134 (by decide +kernel) rfl
theorem wd_1445 : (Cond.laysFinal "WebCourtModel" "WebCourtModel" "lines" "[I") ∈ gtb := gtb_c6 136 (by decide +kernel) rfl
theorem wd_1447 : (Cond.laysFinal "WebCourtModel" "WebCourtModel" "pleas" "[I") ∈ gtb := gtb_c6 138 (by decide +kernel) rfl
theorem wd_1449 : (Cond.laysFinal "WebCourtModel" "WebCourtModel" "cases" "[I") ∈ gtb := gtb_c6 140 (by decide +kernel) rfl
theorem wd_1451 : (Cond.laysFinal "WebCourtModel" "WebCourtModel" "units" "[I") ∈ gtb := gtb_c6 142 (by decide +kernel) rfl
theorem wd_1453 : (Cond.laysFinal "WebCourtModel" "WebCourtModel" "bench" "[I") ∈ gtb := gtb_c6 144 (by decide +kernel) rfl
theorem wd_1455 : (Cond.laysFinal "WebCourtModel" "WebCourtModel" "back" "[I") ∈ gtb := gtb_c6 146 (by decide +kernel) rfl
theorem wd_1457 : (Cond.laysFinal "WebCourtModel" "WebCourtModel" "draw" "[I") ∈ gtb := gtb_c6 148 (by decide +kernel) rfl
theorem wd_1459 : (Cond.laysFinal "WebCourtModel" "WebCourtModel" "told" "[I") ∈ gtb := gtb_c6 150 (by decide +kernel) rfl
theorem wd_1461 : (Cond.laysFinal "WebCourtModel" "WebCourtModel" "stickyTold" "[I") ∈ gtb := gtb_c6 152 (by decide +kernel) rfl
theorem wd_1463 : (Cond.laysFinal "WebCourtModel" "WebCourtModel" "oneEnd" "[I") ∈ gtb := gtb_c6 154 (by decide +kernel) rfl
theorem wd_1465 : (Cond.laysFinal "WebCourtModel" "WebCourtModel" "otherEnd" "[I") ∈ gtb := gtb_c6 156 (by decide +kernel) rfl
theorem wd_1467 : (Cond.laysFinal "WebCourtModel" "WebCourtModel" "strong" "[I") ∈ gtb := gtb_c6 158 (by decide +kernel) rfl
theorem wd_1469 : (Cond.laysFinal "WebCourtModel" "WebCourtModel" "knotOf" "[I") ∈ gtb := gtb_c6 160 (by decide +kernel) rfl
theorem wd_1471 : (Cond.laysFinal "WebCourtModel" "WebCourtModel" "pleaTold" "[I") ∈ gtb := gtb_c6 162 (by decide +kernel) rfl
theorem wd_1473 : (Cond.laysFinal "WebCourtModel" "WebCourtModel" "ruleFrom" "[I") ∈ gtb := gtb_c6 164 (by decide +kernel) rfl
theorem wd_1475 : (Cond.laysFinal "WebCourtModel" "WebCourtModel" "ruleTo" "[I") ∈ gtb := gtb_c6 166 (by decide +kernel) rfl
theorem wd_1477 : (Cond.laysFinal "WebCourtModel" "WebCourtModel" "kName" "[J") ∈ gtb := gtb_c6 168 (by decide +kernel) rfl
theorem wd_1479 : (Cond.laysFinal "WebCourtModel" "WebCourtModel" "pName" "[J") ∈ gtb := gtb_c6 170 (by decide +kernel) rfl
theorem wd_1481 : (Cond.laysFinal "WebCourtModel" "WebCourtModel" "cName" "[J") ∈ gtb := gtb_c6 172 (by decide +kernel) rfl
theorem wd_1483 : (Cond.laysFinal "WebCourtModel" "WebCourtModel" "code" "[I") ∈ gtb := gtb_c6 174 (by decide +kernel) rfl
theorem wd_1485 : (Cond.laysFinal "WebCourtModel" "WebCourtModel" "codeNumber" "[I") ∈ gtb := gtb_c6 176 (by decide +kernel) rfl
theorem wd_1487 : (Cond.laysFinal "WebCourtModel" "WebCourtModel" "eWhat" "[I") ∈ gtb := gtb_c6 178 (by decide +kernel) rfl
theorem wd_1489 : (Cond.laysFinal "WebCourtModel" "WebCourtModel" "eSign" "[I") ∈ gtb := gtb_c6 180 (by decide +kernel) rfl
theorem wd_1491 : (Cond.laysFinal "WebCourtModel" "WebCourtModel" "pile" "[I") ∈ gtb := gtb_c6 182 (by decide +kernel) rfl
theorem wd_1493 : (Cond.lays "WebCourtModel" "WebCourtModel" "bank" "I") ∈ gtb := gtb_c6 184 (by decide +kernel) rfl
theorem wd_1495 : (Cond.lays "WebCourtModel" "WebCourtModel" "rb" "I") ∈ gtb := gtb_c6 186 (by decide +kernel) rfl
theorem wd_1497 : (Cond.lays "WebCourtModel" "WebCourtModel" "codes" "I") ∈ gtb := gtb_c6 188 (by decide +kernel) rfl
theorem wd_1499 : (Cond.lays "WebCourtModel" "WebCourtModel" "within" "I") ∈ gtb := gtb_c6 190 (by decide +kernel) rfl
theorem wd_1501 : (Cond.lays "WebCourtModel" "WebCourtModel" "piled" "I") ∈ gtb := gtb_c6 192 (by decide +kernel) rfl
theorem wd_1503 : (Cond.lays "WebCourtModel" "WebCourtModel" "unitsInRule" "I") ∈ gtb := gtb_c6 194 (by decide +kernel) rfl
theorem wd_1505 : (Cond.lays "WebCourtModel" "WebCourtModel" "askCase" "I") ∈ gtb := gtb_c6 196 (by decide +kernel) rfl
theorem wd_1507 : (Cond.lays "WebCourtModel" "WebCourtModel" "askPleas" "I") ∈ gtb := gtb_c6 198 (by decide +kernel) rfl
theorem wd_1509 : (Cond.laysFinal "WebCourtModel" "WebCourtModel" "all" "[I") ∈ gtb := gtb_c6 200 (by decide +kernel) rfl
theorem wd_1511 : (Cond.lays "WebCourtModel" "WebCourtModel" "thought" "I") ∈ gtb := gtb_c6 202 (by decide +kernel) rfl
theorem wd_1513 : (Cond.laysFinal "WebCourtModel" "WebCourtModel" "was" "[I") ∈ gtb := gtb_c6 204 (by decide +kernel) rfl
theorem wd_1515 : (Cond.lays "WebCourtModel" "WebCourtModel" "acts" "I") ∈ gtb := gtb_c6 206 (by decide +kernel) rfl
theorem wd_1517 : (Cond.lays "WebCourtModel" "WebCourtModel" "undone" "I") ∈ gtb := gtb_c6 208 (by decide +kernel) rfl
theorem wd_1519 : (Cond.laysFinal "WebCourtModel" "WebCourtModel" "laidRow" "[I") ∈ gtb := gtb_c6 210 (by decide +kernel) rfl
theorem wd_1521 : (Cond.lays "WebCourtModel" "WebCourtModel" "laid" "I") ∈ gtb := gtb_c6 212 (by decide +kernel) rfl
theorem wd_1523 : (Cond.laysFinal "WebCourtModel" "WebCourtModel" "verdicts" "[I") ∈ gtb := gtb_c6 214 (by decide +kernel) rfl
theorem wd_1525 : (Cond.laysFinal "WebCourtModel" "WebCourtModel" "far" "[I") ∈ gtb := gtb_c6 216 (by decide +kernel) rfl
theorem wd_1527 : (Cond.laysFinal "WebCourtModel" "WebCourtModel" "verdictIf" "[I") ∈ gtb := gtb_c6 218 (by decide +kernel) rfl
theorem wd_1529 : (Cond.laysFinal "WebCourtModel" "WebCourtModel" "sCase" "[I") ∈ gtb := gtb_c6 220 (by decide +kernel) rfl
theorem wd_1531 : (Cond.laysFinal "WebCourtModel" "WebCourtModel" "sMuch" "[I") ∈ gtb := gtb_c6 222 (by decide +kernel) rfl
theorem wd_1533 : (Cond.laysFinal "WebCourtModel" "WebCourtModel" "sIs" "[I") ∈ gtb := gtb_c6 224 (by decide +kernel) rfl
theorem wd_1535 : (Cond.laysFinal "WebCourtModel" "WebCourtModel" "sTold" "[I") ∈ gtb := gtb_c6 226 (by decide +kernel) rfl
theorem wd_1537 : (Cond.laysFinal "WebCourtModel" "WebCourtModel" "sUntold" "[I") ∈ gtb := gtb_c6 228 (by decide +kernel) rfl
theorem wd_1539 : (Cond.laysFinal "WebCourtModel" "WebCourtModel" "parts" "[I") ∈ gtb := gtb_c6 230 (by decide +kernel) rfl
theorem wd_1541 : (Cond.laysFinal "WebCourtModel" "WebCourtModel" "kept" "[I") ∈ gtb := gtb_c6 232 (by decide +kernel) rfl
theorem wd_1543 : (Cond.lays "WebCourtModel" "WebCourtModel" "heards" "I") ∈ gtb := gtb_c6 234 (by decide +kernel) rfl
theorem wd_1545 : (Cond.lays "WebCourtModel" "WebCourtModel" "time" "I") ∈ gtb := gtb_c6 236 (by decide +kernel) rfl
theorem wd_1547 : (Cond.laysFinal "WebCourtModel" "WebCourtModel" "boxAll" "[I") ∈ gtb := gtb_c6 238 (by decide +kernel) rfl
theorem wd_1549 : (Cond.laysFinal "WebCourtModel" "WebCourtModel" "isBoxed" "[Z") ∈ gtb := gtb_c7 0 (by decide +kernel) rfl
theorem inFX11 : ∀ w ∈ u_ws RX11 TX11 65, w ∈ gtb := by
  show ∀ w ∈ [u_lay RX11 TX11 0, u_lay RX11 TX11 1, u_lay RX11 TX11 2, u_lay RX11 TX11 3, u_lay RX11 TX11 4, u_lay RX11 TX11 5, u_lay RX11 TX11 6, u_lay RX11 TX11 7, u_lay RX11 TX11 8, u_lay RX11 TX11 9, u_lay RX11 TX11 10, u_lay RX11 TX11 11, u_lay RX11 TX11 12, u_lay RX11 TX11 13, u_lay RX11 TX11 14, u_lay RX11 TX11 15, u_lay RX11 TX11 16, u_lay RX11 TX11 17, u_lay RX11 TX11 18, u_lay RX11 TX11 19, u_lay RX11 TX11 20, u_lay RX11 TX11 21, u_lay RX11 TX11 22, u_lay RX11 TX11 23, u_lay RX11 TX11 24, u_lay RX11 TX11 25, u_lay RX11 TX11 26, u_lay RX11 TX11 27, u_lay RX11 TX11 28, u_lay RX11 TX11 29, u_lay RX11 TX11 30, u_lay RX11 TX11 31, u_lay RX11 TX11 32, u_lay RX11 TX11 33, u_lay RX11 TX11 34, u_lay RX11 TX11 35, u_lay RX11 TX11 36, u_lay RX11 TX11 37, u_lay RX11 TX11 38, u_lay RX11 TX11 39, u_lay RX11 TX11 40, u_lay RX11 TX11 41, u_lay RX11 TX11 42, u_lay RX11 TX11 43, u_lay RX11 TX11 44, u_lay RX11 TX11 45, u_lay RX11 TX11 46, u_lay RX11 TX11 47, u_lay RX11 TX11 48, u_lay RX11 TX11 49, u_lay RX11 TX11 50, u_lay RX11 TX11 51, u_lay RX11 TX11 52, u_lay RX11 TX11 53, u_lay RX11 TX11 54, u_lay RX11 TX11 55, u_lay RX11 TX11 56, u_lay RX11 TX11 57, u_lay RX11 TX11 58, u_lay RX11 TX11 59, u_lay RX11 TX11 60, u_lay RX11 TX11 61, u_lay RX11 TX11 62, u_lay RX11 TX11 63, u_lay RX11 TX11 64], w ∈ gtb
  exact List.forall_mem_cons.mpr ⟨wd_1421, List.forall_mem_cons.mpr ⟨wd_1423, List.forall_mem_cons.mpr ⟨wd_1425, List.forall_mem_cons.mpr ⟨wd_1427, List.forall_mem_cons.mpr ⟨wd_1429, List.forall_mem_cons.mpr ⟨wd_1431, List.forall_mem_cons.mpr ⟨wd_1433, List.forall_mem_cons.mpr ⟨wd_1435, List.forall_mem_cons.mpr ⟨wd_1437, List.forall_mem_cons.mpr ⟨wd_1439, List.forall_mem_cons.mpr ⟨wd_1441, List.forall_mem_cons.mpr ⟨wd_1443, List.forall_mem_cons.mpr ⟨wd_1445, List.forall_mem_cons.mpr ⟨wd_1447, List.forall_mem_cons.mpr ⟨wd_1449, List.forall_mem_cons.mpr ⟨wd_1451, List.forall_mem_cons.mpr ⟨wd_1453, List.forall_mem_cons.mpr ⟨wd_1455, List.forall_mem_cons.mpr ⟨wd_1457, List.forall_mem_cons.mpr ⟨wd_1459, List.forall_mem_cons.mpr ⟨wd_1461, List.forall_mem_cons.mpr ⟨wd_1463, List.forall_mem_cons.mpr ⟨wd_1465, List.forall_mem_cons.mpr ⟨wd_1467, List.forall_mem_cons.mpr ⟨wd_1469, List.forall_mem_cons.mpr ⟨wd_1471, List.forall_mem_cons.mpr ⟨wd_1473, List.forall_mem_cons.mpr ⟨wd_1475, List.forall_mem_cons.mpr ⟨wd_1477, List.forall_mem_cons.mpr ⟨wd_1479, List.forall_mem_cons.mpr ⟨wd_1481, List.forall_mem_cons.mpr ⟨wd_1483, List.forall_mem_cons.mpr ⟨wd_1485, List.forall_mem_cons.mpr ⟨wd_1487, List.forall_mem_cons.mpr ⟨wd_1489, List.forall_mem_cons.mpr ⟨wd_1491, List.forall_mem_cons.mpr ⟨wd_1493, List.forall_mem_cons.mpr ⟨wd_1495, List.forall_mem_cons.mpr ⟨wd_1497, List.forall_mem_cons.mpr ⟨wd_1499, List.forall_mem_cons.mpr ⟨wd_1501, List.forall_mem_cons.mpr ⟨wd_1503, List.forall_mem_cons.mpr ⟨wd_1505, List.forall_mem_cons.mpr ⟨wd_1507, List.forall_mem_cons.mpr ⟨wd_1509, List.forall_mem_cons.mpr ⟨wd_1511, List.forall_mem_cons.mpr ⟨wd_1513, List.forall_mem_cons.mpr ⟨wd_1515, List.forall_mem_cons.mpr ⟨wd_1517, List.forall_mem_cons.mpr ⟨wd_1519, List.forall_mem_cons.mpr ⟨wd_1521, List.forall_mem_cons.mpr ⟨wd_1523, List.forall_mem_cons.mpr ⟨wd_1525, List.forall_mem_cons.mpr ⟨wd_1527, List.forall_mem_cons.mpr ⟨wd_1529, List.forall_mem_cons.mpr ⟨wd_1531, List.forall_mem_cons.mpr ⟨wd_1533, List.forall_mem_cons.mpr ⟨wd_1535, List.forall_mem_cons.mpr ⟨wd_1537, List.forall_mem_cons.mpr ⟨wd_1539, List.forall_mem_cons.mpr ⟨wd_1541, List.forall_mem_cons.mpr ⟨wd_1543, List.forall_mem_cons.mpr ⟨wd_1545, List.forall_mem_cons.mpr ⟨wd_1547, List.forall_mem_cons.mpr ⟨wd_1549, fun _ h => absurd h List.not_mem_nil⟩⟩⟩⟩⟩⟩⟩⟩⟩⟩⟩⟩⟩⟩⟩⟩⟩⟩⟩⟩⟩⟩⟩⟩⟩⟩⟩⟩⟩⟩⟩⟩⟩⟩⟩⟩⟩⟩⟩⟩⟩⟩⟩⟩⟩⟩⟩⟩⟩⟩⟩⟩⟩⟩⟩⟩⟩⟩⟩⟩⟩⟩⟩⟩⟩
theorem gf_RX11_30 {p : Program} {l : Launch} {e : Env} {R : Room} {s : State} {m : MethodId} {args : Array Value} {below : List Frame} {meth : Method} {c : Code} {H : Heap} {locs : List Loc} {cells slots : Nat} {Q : State → Prop} {cc : ByteArray} {pc nL : Nat} {ls : Array Slot} {rest : List Value} {D : va_G} {cy : Nat → ClassId} {A : Nat → Prop} {ws : va_W} {b : Nat} {fs : List Value} {v : Value} (C : Cx p s m args c cc nL RX11 D cy A) (hO : Wo D A ws s.heap H locs) (q0 : Nat) (he : ws[q0]? = some (b, .inr (11, fs))) (hv : fs[14]? = some v) (hdg : decode cc pc = .ok (.getfield 30, 3)) (kk : W p l e R s m args below meth c H locs cells slots Q (F0 m (pc + 3) ls (v :: rest))) : W p l e R s m args below meth c H locs cells slots Q (F0 m pc ls (.ref b :: rest)) := gF (k := 14) C hO q0 he rfl inFX11 (by decide) wd_1370 rfl hv hdg kk
theorem wd_1392 : (Cond.fieldLink "WebCourtModel" (255 : Nat) "WebCourtModel" "bank" "I") ∈ gtb := gtb_c6 83 (by decide +kernel) rfl
theorem gf_RX11_255 {p : Program} {l : Launch} {e : Env} {R : Room} {s : State} {m : MethodId} {args : Array Value} {below : List Frame} {meth : Method} {c : Code} {H : Heap} {locs : List Loc} {cells slots : Nat} {Q : State → Prop} {cc : ByteArray} {pc nL : Nat} {ls : Array Slot} {rest : List Value} {D : va_G} {cy : Nat → ClassId} {A : Nat → Prop} {ws : va_W} {b : Nat} {fs : List Value} {v : Value} (C : Cx p s m args c cc nL RX11 D cy A) (hO : Wo D A ws s.heap H locs) (q0 : Nat) (he : ws[q0]? = some (b, .inr (11, fs))) (hv : fs[36]? = some v) (hdg : decode cc pc = .ok (.getfield 255, 3)) (kk : W p l e R s m args below meth c H locs cells slots Q (F0 m (pc + 3) ls (v :: rest))) : W p l e R s m args below meth c H locs cells slots Q (F0 m pc ls (.ref b :: rest)) := gF (k := 36) C hO q0 he rfl inFX11 (by decide) wd_1392 rfl hv hdg kk
set_option maxHeartbeats 4000000 in
set_option maxRecDepth 100000 in
theorem T_X11_many (l : Launch) (D : va_G) (cy : Nat → ClassId) (a : Nat → Nat) (u : St) (hJ : MI a u) (gm : Int32) (hgm : fA u 6 (fI u 0 36).toNatClampNeg = gm)   : Mi l D cy (mW cy a) yX11_many (.code yX11_many cX11_many 1 (some .int)) (rmo 0 0) [.ref (a 0)] u (fun (r : Int32) (u' : St) => (r = gm) ∧ (u' = u)) := by
  refine Mi.of (own := RX11) rfl (by decide) (Nat.le_of_ble_eq_true rfl) ?_
  have hT : Km0 u u := Km0.rf
  have hJ0 := hJ
  intro p e s m below meth c A Q ls C hret hO hl
  obtain ⟨hx, hb, hml, hown, ht, hK, hA⟩ := id C
  have hl : lv_has ls 1 [(0, .ref (a 0))] := hl
  refine lv_aload_n hx hb dX11_many_0 rfl (lv_at hl 0 rfl) ?_
  refine gf_RX11_30 (v := .ref (a 6)) C hO 0 mW_0 rfl dX11_many_1 ?_
  refine lv_aload_n hx hb dX11_many_4 rfl (lv_at hl 0 rfl) ?_
  have g1 : 0 ≤ (fI u 0 36).toInt ∧ (fI u 0 36).toInt ≤ 1 := by have h := MI_36 hJ0; exact h
  refine gf_RX11_255 (v := .int (fI u 0 36)) C hO 0 mW_0 rfl dX11_many_5 ?_
  refine aI C hO 6 mW_6 (i_in (X := ((fI u 0 36)).toInt) rfl (by omega) (by omega)) dX11_many_8 ?_
  have g2 : 0 ≤ gm.toInt ∧ gm.toInt ≤ 6 := by have h := MI_A6 hJ0 (fI u 0 36).toNatClampNeg; rw [hgm] at h; exact h
  refine tE (y := gm) (by exact hgm) ?_
  refine hret _ _ _ _ _ _ dX11_many_9 rfl ?_ hO
  exact ⟨rfl, rfl⟩
theorem dX11_pleads_0 : decode cX11_pleads 0 = .ok (.aload_n 0, 1) := by decide +kernel
theorem dX11_pleads_1 : decode cX11_pleads 1 = .ok (.getfield 27, 3) := by decide +kernel
theorem dX11_pleads_4 : decode cX11_pleads 4 = .ok (.aload_n 0, 1) := by decide +kernel
theorem dX11_pleads_5 : decode cX11_pleads 5 = .ok (.getfield 255, 3) := by decide +kernel
theorem dX11_pleads_8 : decode cX11_pleads 8 = .ok (.iaload, 1) := by decide +kernel
theorem dX11_pleads_9 : decode cX11_pleads 9 = .ok (.ireturn, 1) := by decide +kernel
theorem wd_1748 : (Cond.code ⟨"WebCourtModel", "pleads", "()I"⟩ prog_13_method_47_code (1 : Nat) (Option.some FieldType.int)) ∈ gtb := gtb_c7 199 (by decide +kernel) rfl
theorem wd_1369 : (Cond.fieldLink "WebCourtModel" (27 : Nat) "WebCourtModel" "pleas" "[I") ∈ gtb := gtb_c6 60 (by decide +kernel) rfl
theorem gf_RX11_27 {p : Program} {l : Launch} {e : Env} {R : Room} {s : State} {m : MethodId} {args : Array Value} {below : List Frame} {meth : Method} {c : Code} {H : Heap} {locs : List Loc} {cells slots : Nat} {Q : State → Prop} {cc : ByteArray} {pc nL : Nat} {ls : Array Slot} {rest : List Value} {D : va_G} {cy : Nat → ClassId} {A : Nat → Prop} {ws : va_W} {b : Nat} {fs : List Value} {v : Value} (C : Cx p s m args c cc nL RX11 D cy A) (hO : Wo D A ws s.heap H locs) (q0 : Nat) (he : ws[q0]? = some (b, .inr (11, fs))) (hv : fs[13]? = some v) (hdg : decode cc pc = .ok (.getfield 27, 3)) (kk : W p l e R s m args below meth c H locs cells slots Q (F0 m (pc + 3) ls (v :: rest))) : W p l e R s m args below meth c H locs cells slots Q (F0 m pc ls (.ref b :: rest)) := gF (k := 13) C hO q0 he rfl inFX11 (by decide) wd_1369 rfl hv hdg kk
set_option maxHeartbeats 4000000 in
set_option maxRecDepth 100000 in
theorem T_X11_pleads (l : Launch) (D : va_G) (cy : Nat → ClassId) (a : Nat → Nat) (u : St) (hJ : MI a u) (gq : Int32) (hgq : fA u 5 (fI u 0 36).toNatClampNeg = gq)   : Mi l D cy (mW cy a) yX11_pleads (.code yX11_pleads cX11_pleads 1 (some .int)) (rmo 0 0) [.ref (a 0)] u (fun (r : Int32) (u' : St) => (r = gq) ∧ (u' = u)) := by
  refine Mi.of (own := RX11) rfl (by decide) (Nat.le_of_ble_eq_true rfl) ?_
  have hT : Km0 u u := Km0.rf
  have hJ0 := hJ
  intro p e s m below meth c A Q ls C hret hO hl
  obtain ⟨hx, hb, hml, hown, ht, hK, hA⟩ := id C
  have hl : lv_has ls 1 [(0, .ref (a 0))] := hl
  refine lv_aload_n hx hb dX11_pleads_0 rfl (lv_at hl 0 rfl) ?_
  refine gf_RX11_27 (v := .ref (a 5)) C hO 0 mW_0 rfl dX11_pleads_1 ?_
  refine lv_aload_n hx hb dX11_pleads_4 rfl (lv_at hl 0 rfl) ?_
  have g1 : 0 ≤ (fI u 0 36).toInt ∧ (fI u 0 36).toInt ≤ 1 := by have h := MI_36 hJ0; exact h
  refine gf_RX11_255 (v := .int (fI u 0 36)) C hO 0 mW_0 rfl dX11_pleads_5 ?_
  refine aI C hO 5 mW_5 (i_in (X := ((fI u 0 36)).toInt) rfl (by omega) (by omega)) dX11_pleads_8 ?_
  have g2 : 0 ≤ gq.toInt ∧ gq.toInt ≤ 8 := by have h := MI_A5 hJ0 (fI u 0 36).toNatClampNeg; rw [hgq] at h; exact h
  refine tE (y := gq) (by exact hgq) ?_
  refine hret _ _ _ _ _ _ dX11_pleads_9 rfl ?_ hO
  exact ⟨rfl, rfl⟩
theorem dX11_spots_0 : decode cX11_spots 0 = .ok (.aload_n 0, 1) := by decide +kernel
theorem dX11_spots_1 : decode cX11_spots 1 = .ok (.getfield 20, 3) := by decide +kernel
theorem dX11_spots_4 : decode cX11_spots 4 = .ok (.aload_n 0, 1) := by decide +kernel
theorem dX11_spots_5 : decode cX11_spots 5 = .ok (.getfield 255, 3) := by decide +kernel
theorem dX11_spots_8 : decode cX11_spots 8 = .ok (.iaload, 1) := by decide +kernel
theorem dX11_spots_9 : decode cX11_spots 9 = .ok (.ireturn, 1) := by decide +kernel
theorem wd_1355 : (Cond.code ⟨"WebCourtModel", "spots", "()I"⟩ prog_13_method_48_code (1 : Nat) (Option.some FieldType.int)) ∈ gtb := gtb_c6 46 (by decide +kernel) rfl
theorem wd_1367 : (Cond.fieldLink "WebCourtModel" (20 : Nat) "WebCourtModel" "knots" "[I") ∈ gtb := gtb_c6 58 (by decide +kernel) rfl
theorem gf_RX11_20 {p : Program} {l : Launch} {e : Env} {R : Room} {s : State} {m : MethodId} {args : Array Value} {below : List Frame} {meth : Method} {c : Code} {H : Heap} {locs : List Loc} {cells slots : Nat} {Q : State → Prop} {cc : ByteArray} {pc nL : Nat} {ls : Array Slot} {rest : List Value} {D : va_G} {cy : Nat → ClassId} {A : Nat → Prop} {ws : va_W} {b : Nat} {fs : List Value} {v : Value} (C : Cx p s m args c cc nL RX11 D cy A) (hO : Wo D A ws s.heap H locs) (q0 : Nat) (he : ws[q0]? = some (b, .inr (11, fs))) (hv : fs[11]? = some v) (hdg : decode cc pc = .ok (.getfield 20, 3)) (kk : W p l e R s m args below meth c H locs cells slots Q (F0 m (pc + 3) ls (v :: rest))) : W p l e R s m args below meth c H locs cells slots Q (F0 m pc ls (.ref b :: rest)) := gF (k := 11) C hO q0 he rfl inFX11 (by decide) wd_1367 rfl hv hdg kk
set_option maxHeartbeats 4000000 in
set_option maxRecDepth 100000 in
theorem T_X11_spots (l : Launch) (D : va_G) (cy : Nat → ClassId) (a : Nat → Nat) (u : St) (hJ : MI a u) (gk : Int32) (hgk : fA u 3 (fI u 0 36).toNatClampNeg = gk)   : Mi l D cy (mW cy a) yX11_spots (.code yX11_spots cX11_spots 1 (some .int)) (rmo 0 0) [.ref (a 0)] u (fun (r : Int32) (u' : St) => (r = gk) ∧ (u' = u)) := by
  refine Mi.of (own := RX11) rfl (by decide) (Nat.le_of_ble_eq_true rfl) ?_
  have hT : Km0 u u := Km0.rf
  have hJ0 := hJ
  intro p e s m below meth c A Q ls C hret hO hl
  obtain ⟨hx, hb, hml, hown, ht, hK, hA⟩ := id C
  have hl : lv_has ls 1 [(0, .ref (a 0))] := hl
  refine lv_aload_n hx hb dX11_spots_0 rfl (lv_at hl 0 rfl) ?_
  refine gf_RX11_20 (v := .ref (a 3)) C hO 0 mW_0 rfl dX11_spots_1 ?_
  refine lv_aload_n hx hb dX11_spots_4 rfl (lv_at hl 0 rfl) ?_
  have g1 : 0 ≤ (fI u 0 36).toInt ∧ (fI u 0 36).toInt ≤ 1 := by have h := MI_36 hJ0; exact h
  refine gf_RX11_255 (v := .int (fI u 0 36)) C hO 0 mW_0 rfl dX11_spots_5 ?_
  refine aI C hO 3 mW_3 (i_in (X := ((fI u 0 36)).toInt) rfl (by omega) (by omega)) dX11_spots_8 ?_
  have g2 : 0 ≤ gk.toInt ∧ gk.toInt ≤ 8 := by have h := MI_A3 hJ0 (fI u 0 36).toNatClampNeg; rw [hgk] at h; exact h
  refine tE (y := gk) (by exact hgk) ?_
  refine hret _ _ _ _ _ _ dX11_spots_9 rfl ?_ hO
  exact ⟨rfl, rfl⟩
theorem dX11_isCase_0 : decode cX11_isCase 0 = .ok (.iload_n 1, 1) := by decide +kernel
theorem dX11_isCase_1 : decode cX11_isCase 1 = .ok (.iconst 0, 1) := by decide +kernel
theorem dX11_isCase_2 : decode cX11_isCase 2 = .ok (.aload_n 0, 1) := by decide +kernel
theorem dX11_isCase_3 : decode cX11_isCase 3 = .ok (.invokevirtual 371, 3) := by decide +kernel
theorem dX11_isCase_6 : decode cX11_isCase 6 = .ok (.iconst 1, 1) := by decide +kernel
theorem dX11_isCase_7 : decode cX11_isCase 7 = .ok (.isub, 1) := by decide +kernel
theorem dX11_isCase_8 : decode cX11_isCase 8 = .ok (.invokestatic 374, 3) := by decide +kernel
theorem dX11_isCase_11 : decode cX11_isCase 11 = .ok (.ireturn, 1) := by decide +kernel
theorem wd_1756 : (Cond.code ⟨"WebCourtModel", "isCase", "(I)Z"⟩ prog_13_method_49_code (2 : Nat) (Option.some FieldType.boolean)) ∈ gtb := gtb_c7 207 (by decide +kernel) rfl
theorem wd_1348 : (Cond.methodLink "WebCourtModel" (371 : Nat) ⟨"WebCourtModel", "many", "()I"⟩) ∈ gtb := gtb_c6 39 (by decide +kernel) rfl
theorem wd_1350 : (Cond.instanceMethod ⟨"WebCourtModel", "many", "()I"⟩) ∈ gtb := gtb_c6 41 (by decide +kernel) rfl
theorem wd_46 : (Cond.selects "WebCourtModel" ⟨"WebCourtModel", "many", "()I"⟩ ⟨"WebCourtModel", "many", "()I"⟩) ∈ gtb := gtb_p 46 (by decide +kernel) rfl
theorem wd_121 : (Cond.initialized "WebCourtModel") ∈ gtb := gtb_c1 12 (by decide +kernel) rfl
theorem hd_yX11_many : yX11_many.cls = RX11 ∧ yX11_many.cls ≠ "java/lang/invoke/MethodHandle" ∧ yX11_many.cls ≠ "java/lang/invoke/VarHandle" ∧ (parseMethodDescriptor yX11_many.desc).map (fun d => d.parameters.length) = some 0 := by decide +kernel
theorem wd_1722 : (Cond.methodLink "WebCourtModel" (374 : Nat) ⟨"WebCourtModel", "isIn", "(III)Z"⟩) ∈ gtb := gtb_c7 173 (by decide +kernel) rfl
theorem wd_1723 : (Cond.static ⟨"WebCourtModel", "isIn", "(III)Z"⟩) ∈ gtb := gtb_c7 174 (by decide +kernel) rfl
theorem hd_yX11_isIn : yX11_isIn.cls ≠ "java/lang/invoke/MethodHandle" ∧ yX11_isIn.cls ≠ "java/lang/invoke/VarHandle" ∧ (parseMethodDescriptor yX11_isIn.desc).map (fun d => d.parameters.length) = some 3 := by decide +kernel
set_option maxHeartbeats 4000000 in
set_option maxRecDepth 100000 in
theorem T_X11_isCase (l : Launch) (D : va_G) (cy : Nat → ClassId) (a : Nat → Nat) (u : St) (hJ : MI a u) (gm : Int32) (hgm : fA u 6 (fI u 0 36).toNatClampNeg = gm) (x1 : Int32)  : Mi l D cy (mW cy a) yX11_isCase (.code yX11_isCase cX11_isCase 2 (some .boolean)) (rmo 1 22) [.ref (a 0), .int x1] u (fun (r : Int32) (u' : St) => (((0 ≤ x1.toInt ∧ x1.toInt < gm.toInt) ∧ r = 1) ∨ ((x1.toInt < 0 ∨ gm.toInt ≤ x1.toInt) ∧ r = 0)) ∧ (u' = u)) := by
  refine Mi.of (own := RX11) rfl (by decide) (Nat.le_of_ble_eq_true rfl) ?_
  have hT : Km0 u u := Km0.rf
  have hJ0 := hJ
  intro p e s m below meth c A Q ls C hret hO hl
  obtain ⟨hx, hb, hml, hown, ht, hK, hA⟩ := id C
  have hl : lv_has ls 2 [(0, .ref (a 0)), (1, .int x1)] := hl
  refine lv_iload_n hx hb dX11_isCase_0 rfl (lv_at hl 1 rfl) ?_
  refine lv_iconst (v := 0) hx hb dX11_isCase_1 (by decide) ?_
  refine lv_aload_n hx hb dX11_isCase_2 rfl (lv_at hl 0 rfl) ?_
  have g1 : 0 ≤ (fI u 0 36).toInt ∧ (fI u 0 36).toInt ≤ 1 := by have h := MI_36 hJ0; exact h
  have g2 : 0 ≤ gm.toInt ∧ gm.toInt ≤ 6 := by have h := MI_A6 hJ0 (fI u 0 36).toNatClampNeg; rw [hgm] at h; exact h
  refine cVi (w := mW cy a) (As := []) (rest := [.int 0, .int x1]) C hO (T_X11_many l D cy a _ (by exact hJ) (gm) (by exact hgm)) (cwV 0 ht (gV wd_1348 wd_1350 wd_46 wd_121 wd_1351) rfl rfl rfl hd_yX11_many ⟨Nat.le_of_ble_eq_true rfl, Nat.le_of_ble_eq_true rfl⟩) 0 rfl mW_0 rfl rfl hl.1 (Nat.le_of_ble_eq_true rfl) dX11_isCase_3 rfl ⟨Nat.zero_le _, Nat.zero_le _⟩ (fun r3 u4 H locs hp5 hO => ?_)
  obtain ⟨hr3, hu4⟩ := hp5
  refine tE hr3 ?_
  rw [hu4] at hO
  refine lv_iconst (v := 1) hx hb dX11_isCase_6 (by decide) ?_
  refine lv_isub hx hb dX11_isCase_7 ?_
  refine lv_topi (fun z6 ez6 => ?_)
  have e7 : z6.toInt = (gm).toInt - 1 := by rw [ez6]; exact i_sub rfl rfl (by omega)
  refine cSi (w := mW cy a) (As := [.int x1, .int 0, .int z6]) (rest := []) C hO (T_X11_isIn l D cy a _ (by exact hJ) (x1) (0) (z6)) (va_cwS 3 ht (gSS wd_1722 wd_1723 wd_121 wd_1724) rfl rfl rfl hd_yX11_isIn ⟨Nat.le_of_ble_eq_true rfl, Nat.le_of_ble_eq_true rfl⟩)  rfl hl.1 (Nat.le_of_ble_eq_true rfl) dX11_isCase_8 rfl ⟨Nat.zero_le _, Nat.zero_le _⟩ (fun r8 u9 H locs hp10 hO => ?_)
  obtain ⟨hr8, hu9⟩ := hp10
  rw [hu9] at hO
  have zz11 : (0 : Int32).toInt = 0 := rfl
  rcases hr8 with ⟨hcr8, hvr8⟩ | ⟨hcr8, hvr8⟩
  · subst hvr8
    refine hret _ _ _ _ _ _ dX11_isCase_11 rfl ?_ hO
    exact ⟨Or.inl ⟨by omega, rfl⟩, rfl⟩
  · subst hvr8
    refine hret _ _ _ _ _ _ dX11_isCase_11 rfl ?_ hO
    exact ⟨Or.inr ⟨by first | trivial | omega, rfl⟩, rfl⟩
theorem dX11_isPlea_0 : decode cX11_isPlea 0 = .ok (.iload_n 1, 1) := by decide +kernel
theorem dX11_isPlea_1 : decode cX11_isPlea 1 = .ok (.iconst 0, 1) := by decide +kernel
theorem dX11_isPlea_2 : decode cX11_isPlea 2 = .ok (.aload_n 0, 1) := by decide +kernel
theorem dX11_isPlea_3 : decode cX11_isPlea 3 = .ok (.invokevirtual 377, 3) := by decide +kernel
theorem dX11_isPlea_6 : decode cX11_isPlea 6 = .ok (.iconst 1, 1) := by decide +kernel
theorem dX11_isPlea_7 : decode cX11_isPlea 7 = .ok (.isub, 1) := by decide +kernel
theorem dX11_isPlea_8 : decode cX11_isPlea 8 = .ok (.invokestatic 374, 3) := by decide +kernel
theorem dX11_isPlea_11 : decode cX11_isPlea 11 = .ok (.ireturn, 1) := by decide +kernel
theorem wd_1744 : (Cond.code ⟨"WebCourtModel", "isPlea", "(I)Z"⟩ prog_13_method_50_code (2 : Nat) (Option.some FieldType.boolean)) ∈ gtb := gtb_c7 195 (by decide +kernel) rfl
theorem wd_1745 : (Cond.methodLink "WebCourtModel" (377 : Nat) ⟨"WebCourtModel", "pleads", "()I"⟩) ∈ gtb := gtb_c7 196 (by decide +kernel) rfl
theorem wd_1747 : (Cond.instanceMethod ⟨"WebCourtModel", "pleads", "()I"⟩) ∈ gtb := gtb_c7 198 (by decide +kernel) rfl
theorem wd_82 : (Cond.selects "WebCourtModel" ⟨"WebCourtModel", "pleads", "()I"⟩ ⟨"WebCourtModel", "pleads", "()I"⟩) ∈ gtb := gtb_p 82 (by decide +kernel) rfl
theorem hd_yX11_pleads : yX11_pleads.cls = RX11 ∧ yX11_pleads.cls ≠ "java/lang/invoke/MethodHandle" ∧ yX11_pleads.cls ≠ "java/lang/invoke/VarHandle" ∧ (parseMethodDescriptor yX11_pleads.desc).map (fun d => d.parameters.length) = some 0 := by decide +kernel
set_option maxHeartbeats 4000000 in
set_option maxRecDepth 100000 in
theorem T_X11_isPlea (l : Launch) (D : va_G) (cy : Nat → ClassId) (a : Nat → Nat) (u : St) (hJ : MI a u) (gq : Int32) (hgq : fA u 5 (fI u 0 36).toNatClampNeg = gq) (x1 : Int32)  : Mi l D cy (mW cy a) yX11_isPlea (.code yX11_isPlea cX11_isPlea 2 (some .boolean)) (rmo 1 22) [.ref (a 0), .int x1] u (fun (r : Int32) (u' : St) => (((0 ≤ x1.toInt ∧ x1.toInt < gq.toInt) ∧ r = 1) ∨ ((x1.toInt < 0 ∨ gq.toInt ≤ x1.toInt) ∧ r = 0)) ∧ (u' = u)) := by
  refine Mi.of (own := RX11) rfl (by decide) (Nat.le_of_ble_eq_true rfl) ?_
  have hT : Km0 u u := Km0.rf
  have hJ0 := hJ
  intro p e s m below meth c A Q ls C hret hO hl
  obtain ⟨hx, hb, hml, hown, ht, hK, hA⟩ := id C
  have hl : lv_has ls 2 [(0, .ref (a 0)), (1, .int x1)] := hl
  refine lv_iload_n hx hb dX11_isPlea_0 rfl (lv_at hl 1 rfl) ?_
  refine lv_iconst (v := 0) hx hb dX11_isPlea_1 (by decide) ?_
  refine lv_aload_n hx hb dX11_isPlea_2 rfl (lv_at hl 0 rfl) ?_
  have g1 : 0 ≤ (fI u 0 36).toInt ∧ (fI u 0 36).toInt ≤ 1 := by have h := MI_36 hJ0; exact h
  have g2 : 0 ≤ gq.toInt ∧ gq.toInt ≤ 8 := by have h := MI_A5 hJ0 (fI u 0 36).toNatClampNeg; rw [hgq] at h; exact h
  refine cVi (w := mW cy a) (As := []) (rest := [.int 0, .int x1]) C hO (T_X11_pleads l D cy a _ (by exact hJ) (gq) (by exact hgq)) (cwV 0 ht (gV wd_1745 wd_1747 wd_82 wd_121 wd_1748) rfl rfl rfl hd_yX11_pleads ⟨Nat.le_of_ble_eq_true rfl, Nat.le_of_ble_eq_true rfl⟩) 0 rfl mW_0 rfl rfl hl.1 (Nat.le_of_ble_eq_true rfl) dX11_isPlea_3 rfl ⟨Nat.zero_le _, Nat.zero_le _⟩ (fun r3 u4 H locs hp5 hO => ?_)
  obtain ⟨hr3, hu4⟩ := hp5
  refine tE hr3 ?_
  rw [hu4] at hO
  refine lv_iconst (v := 1) hx hb dX11_isPlea_6 (by decide) ?_
  refine lv_isub hx hb dX11_isPlea_7 ?_
  refine lv_topi (fun z6 ez6 => ?_)
  have e7 : z6.toInt = (gq).toInt - 1 := by rw [ez6]; exact i_sub rfl rfl (by omega)
  refine cSi (w := mW cy a) (As := [.int x1, .int 0, .int z6]) (rest := []) C hO (T_X11_isIn l D cy a _ (by exact hJ) (x1) (0) (z6)) (va_cwS 3 ht (gSS wd_1722 wd_1723 wd_121 wd_1724) rfl rfl rfl hd_yX11_isIn ⟨Nat.le_of_ble_eq_true rfl, Nat.le_of_ble_eq_true rfl⟩)  rfl hl.1 (Nat.le_of_ble_eq_true rfl) dX11_isPlea_8 rfl ⟨Nat.zero_le _, Nat.zero_le _⟩ (fun r8 u9 H locs hp10 hO => ?_)
  obtain ⟨hr8, hu9⟩ := hp10
  rw [hu9] at hO
  have zz11 : (0 : Int32).toInt = 0 := rfl
  rcases hr8 with ⟨hcr8, hvr8⟩ | ⟨hcr8, hvr8⟩
  · subst hvr8
    refine hret _ _ _ _ _ _ dX11_isPlea_11 rfl ?_ hO
    exact ⟨Or.inl ⟨by omega, rfl⟩, rfl⟩
  · subst hvr8
    refine hret _ _ _ _ _ _ dX11_isPlea_11 rfl ?_ hO
    exact ⟨Or.inr ⟨by first | trivial | omega, rfl⟩, rfl⟩
theorem dX11_isKnot_0 : decode cX11_isKnot 0 = .ok (.iload_n 1, 1) := by decide +kernel
theorem dX11_isKnot_1 : decode cX11_isKnot 1 = .ok (.iconst 0, 1) := by decide +kernel
theorem dX11_isKnot_2 : decode cX11_isKnot 2 = .ok (.aload_n 0, 1) := by decide +kernel
theorem dX11_isKnot_3 : decode cX11_isKnot 3 = .ok (.invokevirtual 380, 3) := by decide +kernel
theorem dX11_isKnot_6 : decode cX11_isKnot 6 = .ok (.iconst 1, 1) := by decide +kernel
theorem dX11_isKnot_7 : decode cX11_isKnot 7 = .ok (.isub, 1) := by decide +kernel
theorem dX11_isKnot_8 : decode cX11_isKnot 8 = .ok (.invokestatic 374, 3) := by decide +kernel
theorem dX11_isKnot_11 : decode cX11_isKnot 11 = .ok (.ireturn, 1) := by decide +kernel
theorem wd_1721 : (Cond.code ⟨"WebCourtModel", "isKnot", "(I)Z"⟩ prog_13_method_51_code (2 : Nat) (Option.some FieldType.boolean)) ∈ gtb := gtb_c7 172 (by decide +kernel) rfl
theorem wd_1352 : (Cond.methodLink "WebCourtModel" (380 : Nat) ⟨"WebCourtModel", "spots", "()I"⟩) ∈ gtb := gtb_c6 43 (by decide +kernel) rfl
theorem wd_1354 : (Cond.instanceMethod ⟨"WebCourtModel", "spots", "()I"⟩) ∈ gtb := gtb_c6 45 (by decide +kernel) rfl
theorem wd_47 : (Cond.selects "WebCourtModel" ⟨"WebCourtModel", "spots", "()I"⟩ ⟨"WebCourtModel", "spots", "()I"⟩) ∈ gtb := gtb_p 47 (by decide +kernel) rfl
theorem hd_yX11_spots : yX11_spots.cls = RX11 ∧ yX11_spots.cls ≠ "java/lang/invoke/MethodHandle" ∧ yX11_spots.cls ≠ "java/lang/invoke/VarHandle" ∧ (parseMethodDescriptor yX11_spots.desc).map (fun d => d.parameters.length) = some 0 := by decide +kernel
set_option maxHeartbeats 4000000 in
set_option maxRecDepth 100000 in
theorem T_X11_isKnot (l : Launch) (D : va_G) (cy : Nat → ClassId) (a : Nat → Nat) (u : St) (hJ : MI a u) (gk : Int32) (hgk : fA u 3 (fI u 0 36).toNatClampNeg = gk) (x1 : Int32)  : Mi l D cy (mW cy a) yX11_isKnot (.code yX11_isKnot cX11_isKnot 2 (some .boolean)) (rmo 1 22) [.ref (a 0), .int x1] u (fun (r : Int32) (u' : St) => (((0 ≤ x1.toInt ∧ x1.toInt < gk.toInt) ∧ r = 1) ∨ ((x1.toInt < 0 ∨ gk.toInt ≤ x1.toInt) ∧ r = 0)) ∧ (u' = u)) := by
  refine Mi.of (own := RX11) rfl (by decide) (Nat.le_of_ble_eq_true rfl) ?_
  have hT : Km0 u u := Km0.rf
  have hJ0 := hJ
  intro p e s m below meth c A Q ls C hret hO hl
  obtain ⟨hx, hb, hml, hown, ht, hK, hA⟩ := id C
  have hl : lv_has ls 2 [(0, .ref (a 0)), (1, .int x1)] := hl
  refine lv_iload_n hx hb dX11_isKnot_0 rfl (lv_at hl 1 rfl) ?_
  refine lv_iconst (v := 0) hx hb dX11_isKnot_1 (by decide) ?_
  refine lv_aload_n hx hb dX11_isKnot_2 rfl (lv_at hl 0 rfl) ?_
  have g1 : 0 ≤ (fI u 0 36).toInt ∧ (fI u 0 36).toInt ≤ 1 := by have h := MI_36 hJ0; exact h
  have g2 : 0 ≤ gk.toInt ∧ gk.toInt ≤ 8 := by have h := MI_A3 hJ0 (fI u 0 36).toNatClampNeg; rw [hgk] at h; exact h
  refine cVi (w := mW cy a) (As := []) (rest := [.int 0, .int x1]) C hO (T_X11_spots l D cy a _ (by exact hJ) (gk) (by exact hgk)) (cwV 0 ht (gV wd_1352 wd_1354 wd_47 wd_121 wd_1355) rfl rfl rfl hd_yX11_spots ⟨Nat.le_of_ble_eq_true rfl, Nat.le_of_ble_eq_true rfl⟩) 0 rfl mW_0 rfl rfl hl.1 (Nat.le_of_ble_eq_true rfl) dX11_isKnot_3 rfl ⟨Nat.zero_le _, Nat.zero_le _⟩ (fun r3 u4 H locs hp5 hO => ?_)
  obtain ⟨hr3, hu4⟩ := hp5
  refine tE hr3 ?_
  rw [hu4] at hO
  refine lv_iconst (v := 1) hx hb dX11_isKnot_6 (by decide) ?_
  refine lv_isub hx hb dX11_isKnot_7 ?_
  refine lv_topi (fun z6 ez6 => ?_)
  have e7 : z6.toInt = (gk).toInt - 1 := by rw [ez6]; exact i_sub rfl rfl (by omega)
  refine cSi (w := mW cy a) (As := [.int x1, .int 0, .int z6]) (rest := []) C hO (T_X11_isIn l D cy a _ (by exact hJ) (x1) (0) (z6)) (va_cwS 3 ht (gSS wd_1722 wd_1723 wd_121 wd_1724) rfl rfl rfl hd_yX11_isIn ⟨Nat.le_of_ble_eq_true rfl, Nat.le_of_ble_eq_true rfl⟩)  rfl hl.1 (Nat.le_of_ble_eq_true rfl) dX11_isKnot_8 rfl ⟨Nat.zero_le _, Nat.zero_le _⟩ (fun r8 u9 H locs hp10 hO => ?_)
  obtain ⟨hr8, hu9⟩ := hp10
  rw [hu9] at hO
  have zz11 : (0 : Int32).toInt = 0 := rfl
  rcases hr8 with ⟨hcr8, hvr8⟩ | ⟨hcr8, hvr8⟩
  · subst hvr8
    refine hret _ _ _ _ _ _ dX11_isKnot_11 rfl ?_ hO
    exact ⟨Or.inl ⟨by omega, rfl⟩, rfl⟩
  · subst hvr8
    refine hret _ _ _ _ _ _ dX11_isKnot_11 rfl ?_ hO
    exact ⟨Or.inr ⟨by first | trivial | omega, rfl⟩, rfl⟩
theorem dX11_isHeld_0 : decode cX11_isHeld 0 = .ok (.aload_n 0, 1) := by decide +kernel
theorem dX11_isHeld_1 : decode cX11_isHeld 1 = .ok (.iload_n 1, 1) := by decide +kernel
theorem dX11_isHeld_2 : decode cX11_isHeld 2 = .ok (.invokevirtual 383, 3) := by decide +kernel
theorem dX11_isHeld_5 : decode cX11_isHeld 5 = .ok (.ifCond .eq 18, 3) := by decide +kernel
theorem dX11_isHeld_8 : decode cX11_isHeld 8 = .ok (.aload_n 0, 1) := by decide +kernel
theorem dX11_isHeld_9 : decode cX11_isHeld 9 = .ok (.getfield 97, 3) := by decide +kernel
theorem dX11_isHeld_12 : decode cX11_isHeld 12 = .ok (.iconst 0, 1) := by decide +kernel
theorem dX11_isHeld_13 : decode cX11_isHeld 13 = .ok (.iload_n 1, 1) := by decide +kernel
theorem dX11_isHeld_14 : decode cX11_isHeld 14 = .ok (.iadd, 1) := by decide +kernel
theorem dX11_isHeld_15 : decode cX11_isHeld 15 = .ok (.iaload, 1) := by decide +kernel
theorem dX11_isHeld_16 : decode cX11_isHeld 16 = .ok (.ifCond .ne 7, 3) := by decide +kernel
theorem dX11_isHeld_19 : decode cX11_isHeld 19 = .ok (.iconst 1, 1) := by decide +kernel
theorem dX11_isHeld_20 : decode cX11_isHeld 20 = .ok (.goto 4, 3) := by decide +kernel
theorem dX11_isHeld_23 : decode cX11_isHeld 23 = .ok (.iconst 0, 1) := by decide +kernel
theorem dX11_isHeld_24 : decode cX11_isHeld 24 = .ok (.ireturn, 1) := by decide +kernel
theorem wd_1800 : (Cond.code ⟨"WebCourtModel", "isHeld", "(I)Z"⟩ prog_13_method_52_code (2 : Nat) (Option.some FieldType.boolean)) ∈ gtb := gtb_c8 11 (by decide +kernel) rfl
theorem wd_1753 : (Cond.methodLink "WebCourtModel" (383 : Nat) ⟨"WebCourtModel", "isCase", "(I)Z"⟩) ∈ gtb := gtb_c7 204 (by decide +kernel) rfl
theorem wd_1755 : (Cond.instanceMethod ⟨"WebCourtModel", "isCase", "(I)Z"⟩) ∈ gtb := gtb_c7 206 (by decide +kernel) rfl
theorem wd_83 : (Cond.selects "WebCourtModel" ⟨"WebCourtModel", "isCase", "(I)Z"⟩ ⟨"WebCourtModel", "isCase", "(I)Z"⟩) ∈ gtb := gtb_p 83 (by decide +kernel) rfl
theorem hd_yX11_isCase : yX11_isCase.cls = RX11 ∧ yX11_isCase.cls ≠ "java/lang/invoke/MethodHandle" ∧ yX11_isCase.cls ≠ "java/lang/invoke/VarHandle" ∧ (parseMethodDescriptor yX11_isCase.desc).map (fun d => d.parameters.length) = some 1 := by decide +kernel
theorem wd_1400 : (Cond.fieldLink "WebCourtModel" (97 : Nat) "WebCourtModel" "all" "[I") ∈ gtb := gtb_c6 91 (by decide +kernel) rfl
theorem gf_RX11_97 {p : Program} {l : Launch} {e : Env} {R : Room} {s : State} {m : MethodId} {args : Array Value} {below : List Frame} {meth : Method} {c : Code} {H : Heap} {locs : List Loc} {cells slots : Nat} {Q : State → Prop} {cc : ByteArray} {pc nL : Nat} {ls : Array Slot} {rest : List Value} {D : va_G} {cy : Nat → ClassId} {A : Nat → Prop} {ws : va_W} {b : Nat} {fs : List Value} {v : Value} (C : Cx p s m args c cc nL RX11 D cy A) (hO : Wo D A ws s.heap H locs) (q0 : Nat) (he : ws[q0]? = some (b, .inr (11, fs))) (hv : fs[44]? = some v) (hdg : decode cc pc = .ok (.getfield 97, 3)) (kk : W p l e R s m args below meth c H locs cells slots Q (F0 m (pc + 3) ls (v :: rest))) : W p l e R s m args below meth c H locs cells slots Q (F0 m pc ls (.ref b :: rest)) := gF (k := 44) C hO q0 he rfl inFX11 (by decide) wd_1400 rfl hv hdg kk
set_option maxHeartbeats 4000000 in
set_option maxRecDepth 100000 in
theorem T_X11_isHeld (l : Launch) (D : va_G) (cy : Nat → ClassId) (a : Nat → Nat) (u : St) (hJ : MI a u) (gm : Int32) (hgm : fA u 6 (fI u 0 36).toNatClampNeg = gm) (x1 : Int32)  : Mi l D cy (mW cy a) yX11_isHeld (.code yX11_isHeld cX11_isHeld 2 (some .boolean)) (rmo 2 43) [.ref (a 0), .int x1] u (fun (r : Int32) (u' : St) => (((0 ≤ x1.toInt ∧ x1.toInt < gm.toInt) ∧ r = 1) ∨ (True ∧ r = 0)) ∧ (u' = u)) := by
  refine Mi.of (own := RX11) rfl (by decide) (Nat.le_of_ble_eq_true rfl) ?_
  have hT : Km0 u u := Km0.rf
  have hJ0 := hJ
  intro p e s m below meth c A Q ls C hret hO hl
  obtain ⟨hx, hb, hml, hown, ht, hK, hA⟩ := id C
  have hl : lv_has ls 2 [(0, .ref (a 0)), (1, .int x1)] := hl
  refine lv_aload_n hx hb dX11_isHeld_0 rfl (lv_at hl 0 rfl) ?_
  refine lv_iload_n hx hb dX11_isHeld_1 rfl (lv_at hl 1 rfl) ?_
  have g1 : 0 ≤ (fI u 0 36).toInt ∧ (fI u 0 36).toInt ≤ 1 := by have h := MI_36 hJ0; exact h
  have g2 : 0 ≤ gm.toInt ∧ gm.toInt ≤ 6 := by have h := MI_A6 hJ0 (fI u 0 36).toNatClampNeg; rw [hgm] at h; exact h
  refine cVi (w := mW cy a) (As := [.int x1]) (rest := []) C hO (T_X11_isCase l D cy a _ (by exact hJ) (gm) (by exact hgm) (x1)) (cwV 1 ht (gV wd_1753 wd_1755 wd_83 wd_121 wd_1756) rfl rfl rfl hd_yX11_isCase ⟨Nat.le_of_ble_eq_true rfl, Nat.le_of_ble_eq_true rfl⟩) 0 rfl mW_0 rfl rfl hl.1 (Nat.le_of_ble_eq_true rfl) dX11_isHeld_2 rfl ⟨Nat.zero_le _, Nat.zero_le _⟩ (fun r3 u4 H locs hp5 hO => ?_)
  obtain ⟨hr3, hu4⟩ := hp5
  rw [hu4] at hO
  rcases hr3 with ⟨hcr3, hvr3⟩ | ⟨hcr3, hvr3⟩
  · subst hvr3
    refine bn_eq (X := 1) hx hb dX11_isHeld_5 rfl (by omega) ?_ (tgt := 23) (by decide)
    refine lv_aload_n hx hb dX11_isHeld_8 rfl (lv_at hl 0 rfl) ?_
    refine gf_RX11_97 (v := .ref (a 28)) C hO 0 mW_0 rfl dX11_isHeld_9 ?_
    refine lv_iconst (v := 0) hx hb dX11_isHeld_12 (by decide) ?_
    refine lv_iload_n hx hb dX11_isHeld_13 rfl (lv_at hl 1 rfl) ?_
    refine lv_iadd hx hb dX11_isHeld_14 ?_
    refine lv_topi (fun z6 ez6 => ?_)
    have e7 : z6.toInt = 0 + (x1).toInt := by rw [ez6]; exact i_add rfl rfl (by omega)
    refine aI C hO 28 mW_28 (i_in (X := (0 + (x1).toInt)) e7 (by omega) (by omega)) dX11_isHeld_15 ?_
    refine tE (y := (fA u 28 (z6).toNatClampNeg)) (by exact rfl) ?_
    refine bs_ne (tgt := 23) (X := ((fA u 28 (z6).toNatClampNeg)).toInt) hx hb dX11_isHeld_16 (by decide) rfl (fun c8 => ?_) (fun c8 => ?_)
    · refine lv_iconst (v := 0) hx hb dX11_isHeld_23 (by decide) ?_
      refine hret _ _ _ _ _ _ dX11_isHeld_24 rfl ?_ hO
      exact ⟨Or.inr ⟨by first | trivial | omega, rfl⟩, rfl⟩
    · refine lv_iconst (v := 1) hx hb dX11_isHeld_19 (by decide) ?_
      refine lv_goto (tgt := 24) hx hb dX11_isHeld_20 (by decide) ?_
      refine hret _ _ _ _ _ _ dX11_isHeld_24 rfl ?_ hO
      exact ⟨Or.inl ⟨by omega, rfl⟩, rfl⟩
  · subst hvr3
    refine bt_eq (tgt := 23) (X := 0) hx hb dX11_isHeld_5 (by decide) rfl (by omega) ?_
    refine lv_iconst (v := 0) hx hb dX11_isHeld_23 (by decide) ?_
    refine hret _ _ _ _ _ _ dX11_isHeld_24 rfl ?_ hO
    exact ⟨Or.inr ⟨by first | trivial | omega, rfl⟩, rfl⟩
theorem dX11_placeOf_0 : decode cX11_placeOf 0 = .ok (.aload_n 0, 1) := by decide +kernel
theorem dX11_placeOf_1 : decode cX11_placeOf 1 = .ok (.getfield 60, 3) := by decide +kernel
theorem dX11_placeOf_4 : decode cX11_placeOf 4 = .ok (.bipush 6, 2) := by decide +kernel
theorem dX11_placeOf_6 : decode cX11_placeOf 6 = .ok (.aload_n 0, 1) := by decide +kernel
theorem dX11_placeOf_7 : decode cX11_placeOf 7 = .ok (.getfield 255, 3) := by decide +kernel
theorem dX11_placeOf_10 : decode cX11_placeOf 10 = .ok (.imul, 1) := by decide +kernel
theorem dX11_placeOf_11 : decode cX11_placeOf 11 = .ok (.iload_n 1, 1) := by decide +kernel
theorem dX11_placeOf_12 : decode cX11_placeOf 12 = .ok (.iadd, 1) := by decide +kernel
theorem dX11_placeOf_13 : decode cX11_placeOf 13 = .ok (.iaload, 1) := by decide +kernel
theorem dX11_placeOf_14 : decode cX11_placeOf 14 = .ok (.ireturn, 1) := by decide +kernel
theorem wd_1736 : (Cond.code ⟨"WebCourtModel", "placeOf", "(I)I"⟩ prog_13_method_53_code (2 : Nat) (Option.some FieldType.int)) ∈ gtb := gtb_c7 187 (by decide +kernel) rfl
theorem wd_1380 : (Cond.fieldLink "WebCourtModel" (60 : Nat) "WebCourtModel" "knotOf" "[I") ∈ gtb := gtb_c6 71 (by decide +kernel) rfl
theorem gf_RX11_60 {p : Program} {l : Launch} {e : Env} {R : Room} {s : State} {m : MethodId} {args : Array Value} {below : List Frame} {meth : Method} {c : Code} {H : Heap} {locs : List Loc} {cells slots : Nat} {Q : State → Prop} {cc : ByteArray} {pc nL : Nat} {ls : Array Slot} {rest : List Value} {D : va_G} {cy : Nat → ClassId} {A : Nat → Prop} {ws : va_W} {b : Nat} {fs : List Value} {v : Value} (C : Cx p s m args c cc nL RX11 D cy A) (hO : Wo D A ws s.heap H locs) (q0 : Nat) (he : ws[q0]? = some (b, .inr (11, fs))) (hv : fs[24]? = some v) (hdg : decode cc pc = .ok (.getfield 60, 3)) (kk : W p l e R s m args below meth c H locs cells slots Q (F0 m (pc + 3) ls (v :: rest))) : W p l e R s m args below meth c H locs cells slots Q (F0 m pc ls (.ref b :: rest)) := gF (k := 24) C hO q0 he rfl inFX11 (by decide) wd_1380 rfl hv hdg kk
set_option maxHeartbeats 4000000 in
set_option maxRecDepth 100000 in
theorem T_X11_placeOf (l : Launch) (D : va_G) (cy : Nat → ClassId) (a : Nat → Nat) (u : St) (hJ : MI a u) (x1 : Int32) (hx_x1 : 0 ≤ x1.toInt ∧ x1.toInt ≤ 5) : Mi l D cy (mW cy a) yX11_placeOf (.code yX11_placeOf cX11_placeOf 2 (some .int)) (rmo 0 0) [.ref (a 0), .int x1] u (fun (r : Int32) (u' : St) => (0 ≤ r.toInt ∧ r.toInt ≤ 7) ∧ (u' = u)) := by
  refine Mi.of (own := RX11) rfl (by decide) (Nat.le_of_ble_eq_true rfl) ?_
  have hT : Km0 u u := Km0.rf
  have hJ0 := hJ
  intro p e s m below meth c A Q ls C hret hO hl
  obtain ⟨hx, hb, hml, hown, ht, hK, hA⟩ := id C
  have hl : lv_has ls 2 [(0, .ref (a 0)), (1, .int x1)] := hl
  refine lv_aload_n hx hb dX11_placeOf_0 rfl (lv_at hl 0 rfl) ?_
  refine gf_RX11_60 (v := .ref (a 16)) C hO 0 mW_0 rfl dX11_placeOf_1 ?_
  refine lv_bipush (v := 6) hx hb dX11_placeOf_4 (by decide) ?_
  refine lv_aload_n hx hb dX11_placeOf_6 rfl (lv_at hl 0 rfl) ?_
  have g1 : 0 ≤ (fI u 0 36).toInt ∧ (fI u 0 36).toInt ≤ 1 := by have h := MI_36 hJ0; exact h
  refine gf_RX11_255 (v := .int (fI u 0 36)) C hO 0 mW_0 rfl dX11_placeOf_7 ?_
  refine lv_imul hx hb dX11_placeOf_10 ?_
  refine lv_topi (fun z2 ez2 => ?_)
  have e3 : z2.toInt = 6 * ((fI u 0 36)).toInt := by rw [ez2]; exact i_mul rfl rfl (by omega)
  refine lv_iload_n hx hb dX11_placeOf_11 rfl (lv_at hl 1 rfl) ?_
  refine lv_iadd hx hb dX11_placeOf_12 ?_
  refine lv_topi (fun z4 ez4 => ?_)
  have e5 : z4.toInt = (6 * ((fI u 0 36)).toInt) + (x1).toInt := by rw [ez4]; exact i_add e3 rfl (by omega)
  refine aI C hO 16 mW_16 (i_in (X := ((6 * ((fI u 0 36)).toInt) + (x1).toInt)) e5 (by omega) (by omega)) dX11_placeOf_13 ?_
  have g6 : 0 ≤ (fA u 16 (z4).toNatClampNeg).toInt ∧ (fA u 16 (z4).toNatClampNeg).toInt ≤ 7 := by have h := MI_A16 hJ0 (z4).toNatClampNeg; exact h
  refine tE (y := (fA u 16 (z4).toNatClampNeg)) (by exact rfl) ?_
  refine hret _ _ _ _ _ _ dX11_placeOf_14 rfl ?_ hO
  exact ⟨(by first | decide | omega), rfl⟩
theorem dX11_bitsOf_0 : decode cX11_bitsOf 0 = .ok (.iconst 0, 1) := by decide +kernel
theorem dX11_bitsOf_1 : decode cX11_bitsOf 1 = .ok (.istore_n 1, 1) := by decide +kernel
theorem dX11_bitsOf_2 : decode cX11_bitsOf 2 = .ok (.iload_n 0, 1) := by decide +kernel
theorem dX11_bitsOf_3 : decode cX11_bitsOf 3 = .ok (.istore_n 2, 1) := by decide +kernel
theorem dX11_bitsOf_4 : decode cX11_bitsOf 4 = .ok (.iload_n 2, 1) := by decide +kernel
theorem dX11_bitsOf_5 : decode cX11_bitsOf 5 = .ok (.ifCond .eq 15, 3) := by decide +kernel
theorem dX11_bitsOf_8 : decode cX11_bitsOf 8 = .ok (.iinc 1 1, 3) := by decide +kernel
theorem dX11_bitsOf_11 : decode cX11_bitsOf 11 = .ok (.iload_n 2, 1) := by decide +kernel
theorem dX11_bitsOf_12 : decode cX11_bitsOf 12 = .ok (.iload_n 2, 1) := by decide +kernel
theorem dX11_bitsOf_13 : decode cX11_bitsOf 13 = .ok (.iconst 1, 1) := by decide +kernel
theorem dX11_bitsOf_14 : decode cX11_bitsOf 14 = .ok (.isub, 1) := by decide +kernel
theorem dX11_bitsOf_15 : decode cX11_bitsOf 15 = .ok (.iand, 1) := by decide +kernel
theorem dX11_bitsOf_16 : decode cX11_bitsOf 16 = .ok (.istore_n 2, 1) := by decide +kernel
theorem dX11_bitsOf_17 : decode cX11_bitsOf 17 = .ok (.goto (-13), 3) := by decide +kernel
theorem dX11_bitsOf_20 : decode cX11_bitsOf 20 = .ok (.iload_n 1, 1) := by decide +kernel
theorem dX11_bitsOf_21 : decode cX11_bitsOf 21 = .ok (.ireturn, 1) := by decide +kernel
theorem wd_1665 : (Cond.code ⟨"WebCourtModel", "bitsOf", "(I)I"⟩ prog_13_method_43_code (3 : Nat) (Option.some FieldType.int)) ∈ gtb := gtb_c7 116 (by decide +kernel) rfl
set_option maxHeartbeats 4000000 in
set_option maxRecDepth 100000 in
theorem T_X11_bitsOf_8 (l : Launch) (D : va_G) (cy : Nat → ClassId) (a : Nat → Nat) (u : St) (hJ : MI a u) (x1 : Int32) (hx_x1 : 0 ≤ x1.toInt ∧ x1.toInt ≤ 255) : Mi l D cy (mW cy a) yX11_bitsOf (.code yX11_bitsOf cX11_bitsOf 3 (some .int)) (rmo 0 0) [.int x1] u (fun (r : Int32) (u' : St) => (r.toInt = pc8 x1.toInt) ∧ (u' = u)) := by
  refine Mi.of (own := RX11) rfl (by decide) (Nat.le_of_ble_eq_true rfl) ?_
  have hT : Km0 u u := Km0.rf
  have hJ0 := hJ
  have hpx := pc8_b (x := x1.toInt) (by omega) (by omega)
  intro p e s m below meth c A Q ls C hret hO hl
  obtain ⟨hx, hb, hml, hown, ht, hK, hA⟩ := id C
  have hl : lv_has ls 3 [(0, .int x1)] := hl
  refine lv_iconst (v := 0) hx hb dX11_bitsOf_0 (by decide) ?_
  refine lv_istore_n (lv' := [(1, .int 0), (0, .int x1)]) hx hb dX11_bitsOf_1 rfl hl (by decide) rfl (fun ls hl => ?_)
  refine lv_iload_n hx hb dX11_bitsOf_2 rfl (lv_at hl 1 rfl) ?_
  refine lv_istore_n (lv' := [(2, .int x1), (1, .int 0), (0, .int x1)]) hx hb dX11_bitsOf_3 rfl hl (by decide) rfl (fun ls hl => ?_)
  have LP_4_k1 : ∀ (n : Nat) (H : Heap) (locs : List Loc) (ls : Array Slot) (k_k1 : Int32) (n_k1 : Int32), Wo D A (mW cy a u) s.heap H locs → lv_has ls 3 [(2, .int k_k1), (1, .int n_k1), (0, .int x1)] → n_k1.toInt + pc8 k_k1.toInt = pc8 x1.toInt → 0 ≤ pc8 x1.toInt ∧ pc8 x1.toInt ≤ 8 → 0 ≤ k_k1.toInt ∧ k_k1.toInt ≤ 255 → 0 ≤ n_k1.toInt ∧ n_k1.toInt ≤ 8 → k_k1.toInt < (n : Int) → W p l e (rmo 0 0) s m [.int x1].toArray below meth c H locs 0 0 Q (F0 m 4 ls []) := by
    intro n
    induction n with
    | zero =>
      intro H locs ls k_k1 n_k1 hO hl iv0_k1 iv1_k1 iv2_k1 iv3_k1 hm_k1
      exact absurd hm_k1 (by omega)
    | succ n ih_k1 =>
      intro H locs ls k_k1 n_k1 hO hl iv0_k1 iv1_k1 iv2_k1 iv3_k1 hm_k1
      have h2 := pc8_b (x := k_k1.toInt) (by omega) (by omega)
      refine lv_iload_n hx hb dX11_bitsOf_4 rfl (lv_at hl 0 rfl) ?_
      refine bs_eq (tgt := 20) (X := (k_k1).toInt) hx hb dX11_bitsOf_5 (by decide) rfl (fun c3 => ?_) (fun c3 => ?_)
      · refine lv_iload_n hx hb dX11_bitsOf_20 rfl (lv_at hl 1 rfl) ?_
        refine hret _ _ _ _ _ _ dX11_bitsOf_21 rfl ?_ hO
        exact ⟨(by have h0 := pc8_z (x := k_k1.toInt) (by omega); omega), rfl⟩
      · have e4 : ((n_k1 + 1)).toInt = (n_k1).toInt + 1 := i_add rfl rfl (by omega)
        refine lv_iinc (v := (n_k1 + 1)) (lv' := [(1, .int (n_k1 + 1)), (2, .int k_k1), (0, .int x1)]) hx hb dX11_bitsOf_8 hl (k := 1) rfl rfl (by decide) rfl (fun ls hl => ?_)
        refine lv_iload_n hx hb dX11_bitsOf_11 rfl (lv_at hl 1 rfl) ?_
        refine lv_iload_n hx hb dX11_bitsOf_12 rfl (lv_at hl 1 rfl) ?_
        refine lv_iconst (v := 1) hx hb dX11_bitsOf_13 (by decide) ?_
        have e5 : ((k_k1 - 1)).toInt = (k_k1).toInt - 1 := i_sub rfl rfl (by omega)
        refine lv_isub hx hb dX11_bitsOf_14 ?_
        refine lv_iand hx hb dX11_bitsOf_15 ?_
        refine lv_topi (fun z6 ez6 => ?_)
        have g7 : 0 ≤ z6.toInt ∧ z6.toInt ≤ (k_k1).toInt := by rw [ez6]; exact i_andl rfl (by omega)
        have h8 := i_pc ez6 (by omega) (by omega)
        have h9 := pc8_b (x := z6.toInt) (by omega) (by omega)
        refine lv_istore_n (lv' := [(2, .int z6), (1, .int (n_k1 + 1)), (0, .int x1)]) hx hb dX11_bitsOf_16 rfl hl (by decide) rfl (fun ls hl => ?_)
        refine lv_goto (tgt := 4) hx hb dX11_bitsOf_17 (by decide) ?_
        exact ih_k1 _ _ _ (z6) ((n_k1 + 1)) hO (lv_sub hl [0, 1, 2] rfl) (by first | decide | omega) (by first | decide | omega) (by first | decide | omega) (by first | decide | omega) (by first | decide | omega)
  have zc10 : (0 : Int32).toInt = 0 := rfl
  exact LP_4_k1 4000 _ _ _ (x1) (0) hO (lv_sub hl [0, 1, 2] rfl) (by first | decide | omega) (by first | decide | omega) (by first | decide | omega) (by first | decide | omega) (by first | decide | omega)
set_option maxHeartbeats 4000000 in
set_option maxRecDepth 100000 in
theorem T_X11_bitsOf (l : Launch) (D : va_G) (cy : Nat → ClassId) (a : Nat → Nat) (u : St) (hJ : MI a u) (x1 : Int32)  : Mi l D cy (mW cy a) yX11_bitsOf (.code yX11_bitsOf cX11_bitsOf 3 (some .int)) (rmo 0 0) [.int x1] u (fun (r : Int32) (u' : St) => u' = u) := by
  refine Mi.of (own := RX11) rfl (by decide) (Nat.le_of_ble_eq_true rfl) ?_
  have hT : Km0 u u := Km0.rf
  have hJ0 := hJ
  intro p e s m below meth c A Q ls C hret hO hl
  obtain ⟨hx, hb, hml, hown, ht, hK, hA⟩ := id C
  have hl : lv_has ls 3 [(0, .int x1)] := hl
  refine lv_iconst (v := 0) hx hb dX11_bitsOf_0 (by decide) ?_
  refine lv_istore_n (lv' := [(1, .int 0), (0, .int x1)]) hx hb dX11_bitsOf_1 rfl hl (by decide) rfl (fun ls hl => ?_)
  refine lv_iload_n hx hb dX11_bitsOf_2 rfl (lv_at hl 1 rfl) ?_
  refine lv_istore_n (lv' := [(2, .int x1), (1, .int 0), (0, .int x1)]) hx hb dX11_bitsOf_3 rfl hl (by decide) rfl (fun ls hl => ?_)
  have LP_4_k1 : ∀ (n : Nat) (H : Heap) (locs : List Loc) (ls : Array Slot) (k_k1 : Int32) (n_k1 : Int32), Wo D A (mW cy a u) s.heap H locs → lv_has ls 3 [(2, .int k_k1), (1, .int n_k1), (0, .int x1)] → ((k_k1).toBitVec.toNat : Int) < (n : Int) → W p l e (rmo 0 0) s m [.int x1].toArray below meth c H locs 0 0 Q (F0 m 4 ls []) := by
    intro n
    induction n with
    | zero =>
      intro H locs ls k_k1 n_k1 hO hl hm_k1
      exact absurd hm_k1 (by omega)
    | succ n ih_k1 =>
      intro H locs ls k_k1 n_k1 hO hl hm_k1
      refine lv_iload_n hx hb dX11_bitsOf_4 rfl (lv_at hl 0 rfl) ?_
      refine bs_eq (tgt := 20) (X := (k_k1).toInt) hx hb dX11_bitsOf_5 (by decide) rfl (fun c2 => ?_) (fun c2 => ?_)
      · refine lv_iload_n hx hb dX11_bitsOf_20 rfl (lv_at hl 1 rfl) ?_
        refine hret _ _ _ _ _ _ dX11_bitsOf_21 rfl ?_ hO
        exact rfl
      · refine lv_iinc (v := (n_k1 + 1)) (lv' := [(1, .int (n_k1 + 1)), (2, .int k_k1), (0, .int x1)]) hx hb dX11_bitsOf_8 hl (k := 1) rfl rfl (by decide) rfl (fun ls hl => ?_)
        refine lv_iload_n hx hb dX11_bitsOf_11 rfl (lv_at hl 1 rfl) ?_
        refine lv_iload_n hx hb dX11_bitsOf_12 rfl (lv_at hl 1 rfl) ?_
        refine lv_iconst (v := 1) hx hb dX11_bitsOf_13 (by decide) ?_
        refine lv_isub hx hb dX11_bitsOf_14 ?_
        refine lv_iand hx hb dX11_bitsOf_15 ?_
        refine lv_topi (fun z3 ez3 => ?_)
        refine lv_istore_n (lv' := [(2, .int z3), (1, .int (n_k1 + 1)), (0, .int x1)]) hx hb dX11_bitsOf_16 rfl hl (by decide) rfl (fun ls hl => ?_)
        refine lv_goto (tgt := 4) hx hb dX11_bitsOf_17 (by decide) ?_
        exact ih_k1 _ _ _ (z3) ((n_k1 + 1)) hO (lv_sub hl [0, 1, 2] rfl) (by have h := i_dec ez3 (by omega); omega)
  have zc4 : (0 : Int32).toInt = 0 := rfl
  exact LP_4_k1 4294967296 _ _ _ (x1) (0) hO (lv_sub hl [0, 1, 2] rfl) (by have h := (x1 : Int32).toBitVec.isLt; omega)
theorem dX11_divisor_0 : decode cX11_divisor 0 = .ok (.iload_n 0, 1) := by decide +kernel
theorem dX11_divisor_1 : decode cX11_divisor 1 = .ok (.istore_n 2, 1) := by decide +kernel
theorem dX11_divisor_2 : decode cX11_divisor 2 = .ok (.iload_n 1, 1) := by decide +kernel
theorem dX11_divisor_3 : decode cX11_divisor 3 = .ok (.istore_n 3, 1) := by decide +kernel
theorem dX11_divisor_4 : decode cX11_divisor 4 = .ok (.iload_n 3, 1) := by decide +kernel
theorem dX11_divisor_5 : decode cX11_divisor 5 = .ok (.ifCond .le 16, 3) := by decide +kernel
theorem dX11_divisor_8 : decode cX11_divisor 8 = .ok (.iload_n 2, 1) := by decide +kernel
theorem dX11_divisor_9 : decode cX11_divisor 9 = .ok (.iload_n 3, 1) := by decide +kernel
theorem dX11_divisor_10 : decode cX11_divisor 10 = .ok (.irem, 1) := by decide +kernel
theorem dX11_divisor_11 : decode cX11_divisor 11 = .ok (.istore 4, 2) := by decide +kernel
theorem dX11_divisor_13 : decode cX11_divisor 13 = .ok (.iload_n 3, 1) := by decide +kernel
theorem dX11_divisor_14 : decode cX11_divisor 14 = .ok (.istore_n 2, 1) := by decide +kernel
theorem dX11_divisor_15 : decode cX11_divisor 15 = .ok (.iload 4, 2) := by decide +kernel
theorem dX11_divisor_17 : decode cX11_divisor 17 = .ok (.istore_n 3, 1) := by decide +kernel
theorem dX11_divisor_18 : decode cX11_divisor 18 = .ok (.goto (-14), 3) := by decide +kernel
theorem dX11_divisor_21 : decode cX11_divisor 21 = .ok (.iload_n 2, 1) := by decide +kernel
theorem dX11_divisor_22 : decode cX11_divisor 22 = .ok (.ireturn, 1) := by decide +kernel
theorem wd_1977 : (Cond.code ⟨"WebCourtModel", "divisor", "(II)I"⟩ prog_13_method_44_code (5 : Nat) (Option.some FieldType.int)) ∈ gtb := gtb_c8 188 (by decide +kernel) rfl
set_option maxHeartbeats 4000000 in
set_option maxRecDepth 100000 in
theorem T_X11_divisor (l : Launch) (D : va_G) (cy : Nat → ClassId) (a : Nat → Nat) (u : St) (hJ : MI a u) (x1 : Int32) (x2 : Int32) (hx_x1 : 1 ≤ x1.toInt ∧ x1.toInt ≤ 2147483647) : Mi l D cy (mW cy a) yX11_divisor (.code yX11_divisor cX11_divisor 5 (some .int)) (rmo 0 0) [.int x1, .int x2] u (fun (r : Int32) (u' : St) => (1 ≤ r.toInt ∧ r.toInt ≤ 2147483647) ∧ (u' = u)) := by
  refine Mi.of (own := RX11) rfl (by decide) (Nat.le_of_ble_eq_true rfl) ?_
  have hT : Km0 u u := Km0.rf
  have hJ0 := hJ
  have hy0 := Int32.le_toInt x2
  have hy1 := Int32.toInt_lt x2
  intro p e s m below meth c A Q ls C hret hO hl
  obtain ⟨hx, hb, hml, hown, ht, hK, hA⟩ := id C
  have hl : lv_has ls 5 [(0, .int x1), (1, .int x2)] := hl
  refine lv_iload_n hx hb dX11_divisor_0 rfl (lv_at hl 0 rfl) ?_
  refine lv_istore_n (lv' := [(2, .int x1), (0, .int x1), (1, .int x2)]) hx hb dX11_divisor_1 rfl hl (by decide) rfl (fun ls hl => ?_)
  refine lv_iload_n hx hb dX11_divisor_2 rfl (lv_at hl 2 rfl) ?_
  refine lv_istore_n (lv' := [(3, .int x2), (2, .int x1), (0, .int x1), (1, .int x2)]) hx hb dX11_divisor_3 rfl hl (by decide) rfl (fun ls hl => ?_)
  have LP_4_k1 : ∀ (n : Nat) (H : Heap) (locs : List Loc) (ls : Array Slot) (y_k1 : Int32) (x_k1 : Int32), Wo D A (mW cy a u) s.heap H locs → lv_has ls 5 [(3, .int y_k1), (2, .int x_k1), (0, .int x1), (1, .int x2)] → (-2147483648) ≤ y_k1.toInt ∧ y_k1.toInt ≤ 2147483647 → 1 ≤ x_k1.toInt ∧ x_k1.toInt ≤ 2147483647 → y_k1.toInt + 2147483648 < (n : Int) → W p l e (rmo 0 0) s m [.int x1, .int x2].toArray below meth c H locs 0 0 Q (F0 m 4 ls []) := by
    intro n
    induction n with
    | zero =>
      intro H locs ls y_k1 x_k1 hO hl iv0_k1 iv1_k1 hm_k1
      exact absurd hm_k1 (by omega)
    | succ n ih_k1 =>
      intro H locs ls y_k1 x_k1 hO hl iv0_k1 iv1_k1 hm_k1
      refine lv_iload_n hx hb dX11_divisor_4 rfl (lv_at hl 0 rfl) ?_
      refine bs_le (tgt := 21) (X := (y_k1).toInt) hx hb dX11_divisor_5 (by decide) rfl (fun c2 => ?_) (fun c2 => ?_)
      · refine lv_iload_n hx hb dX11_divisor_21 rfl (lv_at hl 1 rfl) ?_
        refine hret _ _ _ _ _ _ dX11_divisor_22 rfl ?_ hO
        exact ⟨(by first | decide | omega), rfl⟩
      · refine lv_iload_n hx hb dX11_divisor_8 rfl (lv_at hl 1 rfl) ?_
        refine lv_iload_n hx hb dX11_divisor_9 rfl (lv_at hl 0 rfl) ?_
        refine lv_irem hx hb dX11_divisor_10 (i_ne0 (X := (y_k1).toInt) rfl (by omega)) ?_
        refine lv_topi (fun z3 ez3 => ?_)
        have d4 : 0 ≤ z3.toInt ∧ z3.toInt < (y_k1).toInt := by rw [ez3]; exact i_remr rfl rfl (by omega) (by omega)
        refine lv_istore (lv' := [(4, .int z3), (3, .int y_k1), (2, .int x_k1), (0, .int x1), (1, .int x2)]) hx hb dX11_divisor_11 hl (by decide) rfl (fun ls hl => ?_)
        refine lv_iload_n hx hb dX11_divisor_13 rfl (lv_at hl 1 rfl) ?_
        refine lv_istore_n (lv' := [(2, .int y_k1), (4, .int z3), (3, .int y_k1), (0, .int x1), (1, .int x2)]) hx hb dX11_divisor_14 rfl hl (by decide) rfl (fun ls hl => ?_)
        refine lv_iload hx hb dX11_divisor_15 (lv_at hl 1 rfl) ?_
        refine lv_istore_n (lv' := [(3, .int z3), (2, .int y_k1), (4, .int z3), (0, .int x1), (1, .int x2)]) hx hb dX11_divisor_17 rfl hl (by decide) rfl (fun ls hl => ?_)
        refine lv_goto (tgt := 4) hx hb dX11_divisor_18 (by decide) ?_
        exact ih_k1 _ _ _ (z3) (y_k1) hO (lv_sub hl [0, 1, 3, 4] rfl) (by first | decide | omega) (by first | decide | omega) (by first | decide | omega)
  exact LP_4_k1 4294967296 _ _ _ (x2) (x1) hO (lv_sub hl [0, 1, 2, 3] rfl) (by first | decide | omega) (by first | decide | omega) (by first | decide | omega)
theorem dX11_power_0 : decode cX11_power 0 = .ok (.iconst 1, 1) := by decide +kernel
theorem dX11_power_1 : decode cX11_power 1 = .ok (.istore_n 2, 1) := by decide +kernel
theorem dX11_power_2 : decode cX11_power 2 = .ok (.iconst 0, 1) := by decide +kernel
theorem dX11_power_3 : decode cX11_power 3 = .ok (.istore_n 3, 1) := by decide +kernel
theorem dX11_power_4 : decode cX11_power 4 = .ok (.iload_n 3, 1) := by decide +kernel
theorem dX11_power_5 : decode cX11_power 5 = .ok (.iload_n 1, 1) := by decide +kernel
theorem dX11_power_6 : decode cX11_power 6 = .ok (.if_icmp .ge 13, 3) := by decide +kernel
theorem dX11_power_9 : decode cX11_power 9 = .ok (.iload_n 2, 1) := by decide +kernel
theorem dX11_power_10 : decode cX11_power 10 = .ok (.iload_n 0, 1) := by decide +kernel
theorem dX11_power_11 : decode cX11_power 11 = .ok (.imul, 1) := by decide +kernel
theorem dX11_power_12 : decode cX11_power 12 = .ok (.istore_n 2, 1) := by decide +kernel
theorem dX11_power_13 : decode cX11_power 13 = .ok (.iinc 3 1, 3) := by decide +kernel
theorem dX11_power_16 : decode cX11_power 16 = .ok (.goto (-12), 3) := by decide +kernel
theorem dX11_power_19 : decode cX11_power 19 = .ok (.iload_n 2, 1) := by decide +kernel
theorem dX11_power_20 : decode cX11_power 20 = .ok (.ireturn, 1) := by decide +kernel
theorem wd_1958 : (Cond.code ⟨"WebCourtModel", "power", "(II)I"⟩ prog_13_method_45_code (4 : Nat) (Option.some FieldType.int)) ∈ gtb := gtb_c8 169 (by decide +kernel) rfl
set_option maxHeartbeats 4000000 in
set_option maxRecDepth 100000 in
theorem T_X11_power_6 (l : Launch) (D : va_G) (cy : Nat → ClassId) (a : Nat → Nat) (u : St) (hJ : MI a u) (x1 : Int32) (x2 : Int32) (hx_x1 : 1 ≤ x1.toInt ∧ x1.toInt ≤ 6) (hx_x2 : 0 ≤ x2.toInt ∧ x2.toInt ≤ 6) : Mi l D cy (mW cy a) yX11_power (.code yX11_power cX11_power 4 (some .int)) (rmo 0 0) [.int x1, .int x2] u (fun (r : Int32) (u' : St) => (1 ≤ r.toInt ∧ r.toInt ≤ 46656) ∧ (u' = u)) := by
  refine Mi.of (own := RX11) rfl (by decide) (Nat.le_of_ble_eq_true rfl) ?_
  have hT : Km0 u u := Km0.rf
  have hJ0 := hJ
  intro p e s m below meth c A Q ls C hret hO hl
  obtain ⟨hx, hb, hml, hown, ht, hK, hA⟩ := id C
  have hl : lv_has ls 4 [(0, .int x1), (1, .int x2)] := hl
  have c1 : (x1).toInt = 1 ∨ (x1).toInt = 2 ∨ (x1).toInt = 3 ∨ (x1).toInt = 4 ∨ (x1).toInt = 5 ∨ (x1).toInt = 6 := by omega
  rcases c1 with c1 | c1 | c1 | c1 | c1 | c1
  · have ec1 : x1 = 1 := i32_eq.mpr (by rw [c1]; rfl)
    subst ec1
    refine lv_iconst (v := 1) hx hb dX11_power_0 (by decide) ?_
    refine lv_istore_n (lv' := [(2, .int 1), (0, .int 1), (1, .int x2)]) hx hb dX11_power_1 rfl hl (by decide) rfl (fun ls hl => ?_)
    have c2 : (x2).toInt = 0 ∨ (x2).toInt = 1 ∨ (x2).toInt = 2 ∨ (x2).toInt = 3 ∨ (x2).toInt = 4 ∨ (x2).toInt = 5 ∨ (x2).toInt = 6 := by omega
    rcases c2 with c2 | c2 | c2 | c2 | c2 | c2 | c2
    · have ec2 : x2 = 0 := i32_eq.mpr (by rw [c2]; rfl)
      subst ec2
      refine lv_iconst (v := 0) hx hb dX11_power_2 (by decide) ?_
      refine lv_istore_n (lv' := [(3, .int 0), (2, .int 1), (0, .int 1), (1, .int 0)]) hx hb dX11_power_3 rfl hl (by decide) rfl (fun ls hl => ?_)
      refine lv_iload_n hx hb dX11_power_4 rfl (lv_at hl 0 rfl) ?_
      refine lv_iload_n hx hb dX11_power_5 rfl (lv_at hl 3 rfl) ?_
      refine ct_ge (tgt := 19) (X := 0) (Y := 0) hx hb dX11_power_6 (by decide) rfl rfl (by omega) ?_
      refine lv_iload_n hx hb dX11_power_19 rfl (lv_at hl 1 rfl) ?_
      refine hret _ _ _ _ _ _ dX11_power_20 rfl ?_ hO
      exact ⟨(by first | decide | omega), rfl⟩
    · have ec2 : x2 = 1 := i32_eq.mpr (by rw [c2]; rfl)
      subst ec2
      refine lv_iconst (v := 0) hx hb dX11_power_2 (by decide) ?_
      refine lv_istore_n (lv' := [(3, .int 0), (2, .int 1), (0, .int 1), (1, .int 1)]) hx hb dX11_power_3 rfl hl (by decide) rfl (fun ls hl => ?_)
      refine lv_iload_n hx hb dX11_power_4 rfl (lv_at hl 0 rfl) ?_
      refine lv_iload_n hx hb dX11_power_5 rfl (lv_at hl 3 rfl) ?_
      refine cn_ge (X := 0) (Y := 1) hx hb dX11_power_6 rfl rfl (by omega) ?_ (tgt := 19) (by decide)
      refine lv_iload_n hx hb dX11_power_9 rfl (lv_at hl 1 rfl) ?_
      refine lv_iload_n hx hb dX11_power_10 rfl (lv_at hl 2 rfl) ?_
      refine lv_imul hx hb dX11_power_11 ?_
      refine tE (y := 1) rfl ?_
      refine lv_istore_n (lv' := [(2, .int 1), (3, .int 0), (0, .int 1), (1, .int 1)]) hx hb dX11_power_12 rfl hl (by decide) rfl (fun ls hl => ?_)
      refine lv_iinc (v := 1) (lv' := [(3, .int 1), (2, .int 1), (0, .int 1), (1, .int 1)]) hx hb dX11_power_13 hl (k := 1) rfl rfl (by decide) rfl (fun ls hl => ?_)
      refine lv_goto (tgt := 4) hx hb dX11_power_16 (by decide) ?_
      refine lv_iload_n hx hb dX11_power_4 rfl (lv_at hl 0 rfl) ?_
      refine lv_iload_n hx hb dX11_power_5 rfl (lv_at hl 3 rfl) ?_
      refine ct_ge (tgt := 19) (X := 1) (Y := 1) hx hb dX11_power_6 (by decide) rfl rfl (by omega) ?_
      refine lv_iload_n hx hb dX11_power_19 rfl (lv_at hl 1 rfl) ?_
      refine hret _ _ _ _ _ _ dX11_power_20 rfl ?_ hO
      exact ⟨(by first | decide | omega), rfl⟩
    · have ec2 : x2 = 2 := i32_eq.mpr (by rw [c2]; rfl)
      subst ec2
      refine lv_iconst (v := 0) hx hb dX11_power_2 (by decide) ?_
      refine lv_istore_n (lv' := [(3, .int 0), (2, .int 1), (0, .int 1), (1, .int 2)]) hx hb dX11_power_3 rfl hl (by decide) rfl (fun ls hl => ?_)
      refine lv_iload_n hx hb dX11_power_4 rfl (lv_at hl 0 rfl) ?_
      refine lv_iload_n hx hb dX11_power_5 rfl (lv_at hl 3 rfl) ?_
      refine cn_ge (X := 0) (Y := 2) hx hb dX11_power_6 rfl rfl (by omega) ?_ (tgt := 19) (by decide)
      refine lv_iload_n hx hb dX11_power_9 rfl (lv_at hl 1 rfl) ?_
      refine lv_iload_n hx hb dX11_power_10 rfl (lv_at hl 2 rfl) ?_
      refine lv_imul hx hb dX11_power_11 ?_
      refine tE (y := 1) rfl ?_
      refine lv_istore_n (lv' := [(2, .int 1), (3, .int 0), (0, .int 1), (1, .int 2)]) hx hb dX11_power_12 rfl hl (by decide) rfl (fun ls hl => ?_)
      refine lv_iinc (v := 1) (lv' := [(3, .int 1), (2, .int 1), (0, .int 1), (1, .int 2)]) hx hb dX11_power_13 hl (k := 1) rfl rfl (by decide) rfl (fun ls hl => ?_)
      refine lv_goto (tgt := 4) hx hb dX11_power_16 (by decide) ?_
      refine lv_iload_n hx hb dX11_power_4 rfl (lv_at hl 0 rfl) ?_
      refine lv_iload_n hx hb dX11_power_5 rfl (lv_at hl 3 rfl) ?_
      refine cn_ge (X := 1) (Y := 2) hx hb dX11_power_6 rfl rfl (by omega) ?_ (tgt := 19) (by decide)
      refine lv_iload_n hx hb dX11_power_9 rfl (lv_at hl 1 rfl) ?_
      refine lv_iload_n hx hb dX11_power_10 rfl (lv_at hl 2 rfl) ?_
      refine lv_imul hx hb dX11_power_11 ?_
      refine tE (y := 1) rfl ?_
      refine lv_istore_n (lv' := [(2, .int 1), (3, .int 1), (0, .int 1), (1, .int 2)]) hx hb dX11_power_12 rfl hl (by decide) rfl (fun ls hl => ?_)
      refine lv_iinc (v := 2) (lv' := [(3, .int 2), (2, .int 1), (0, .int 1), (1, .int 2)]) hx hb dX11_power_13 hl (k := 1) rfl rfl (by decide) rfl (fun ls hl => ?_)
      refine lv_goto (tgt := 4) hx hb dX11_power_16 (by decide) ?_
      refine lv_iload_n hx hb dX11_power_4 rfl (lv_at hl 0 rfl) ?_
      refine lv_iload_n hx hb dX11_power_5 rfl (lv_at hl 3 rfl) ?_
      refine ct_ge (tgt := 19) (X := 2) (Y := 2) hx hb dX11_power_6 (by decide) rfl rfl (by omega) ?_
      refine lv_iload_n hx hb dX11_power_19 rfl (lv_at hl 1 rfl) ?_
      refine hret _ _ _ _ _ _ dX11_power_20 rfl ?_ hO
      exact ⟨(by first | decide | omega), rfl⟩
    · have ec2 : x2 = 3 := i32_eq.mpr (by rw [c2]; rfl)
      subst ec2
      refine lv_iconst (v := 0) hx hb dX11_power_2 (by decide) ?_
      refine lv_istore_n (lv' := [(3, .int 0), (2, .int 1), (0, .int 1), (1, .int 3)]) hx hb dX11_power_3 rfl hl (by decide) rfl (fun ls hl => ?_)
      refine lv_iload_n hx hb dX11_power_4 rfl (lv_at hl 0 rfl) ?_
      refine lv_iload_n hx hb dX11_power_5 rfl (lv_at hl 3 rfl) ?_
      refine cn_ge (X := 0) (Y := 3) hx hb dX11_power_6 rfl rfl (by omega) ?_ (tgt := 19) (by decide)
      refine lv_iload_n hx hb dX11_power_9 rfl (lv_at hl 1 rfl) ?_
      refine lv_iload_n hx hb dX11_power_10 rfl (lv_at hl 2 rfl) ?_
      refine lv_imul hx hb dX11_power_11 ?_
      refine tE (y := 1) rfl ?_
      refine lv_istore_n (lv' := [(2, .int 1), (3, .int 0), (0, .int 1), (1, .int 3)]) hx hb dX11_power_12 rfl hl (by decide) rfl (fun ls hl => ?_)
      refine lv_iinc (v := 1) (lv' := [(3, .int 1), (2, .int 1), (0, .int 1), (1, .int 3)]) hx hb dX11_power_13 hl (k := 1) rfl rfl (by decide) rfl (fun ls hl => ?_)
      refine lv_goto (tgt := 4) hx hb dX11_power_16 (by decide) ?_
      refine lv_iload_n hx hb dX11_power_4 rfl (lv_at hl 0 rfl) ?_
      refine lv_iload_n hx hb dX11_power_5 rfl (lv_at hl 3 rfl) ?_
      refine cn_ge (X := 1) (Y := 3) hx hb dX11_power_6 rfl rfl (by omega) ?_ (tgt := 19) (by decide)
      refine lv_iload_n hx hb dX11_power_9 rfl (lv_at hl 1 rfl) ?_
      refine lv_iload_n hx hb dX11_power_10 rfl (lv_at hl 2 rfl) ?_
      refine lv_imul hx hb dX11_power_11 ?_
      refine tE (y := 1) rfl ?_
      refine lv_istore_n (lv' := [(2, .int 1), (3, .int 1), (0, .int 1), (1, .int 3)]) hx hb dX11_power_12 rfl hl (by decide) rfl (fun ls hl => ?_)
      refine lv_iinc (v := 2) (lv' := [(3, .int 2), (2, .int 1), (0, .int 1), (1, .int 3)]) hx hb dX11_power_13 hl (k := 1) rfl rfl (by decide) rfl (fun ls hl => ?_)
      refine lv_goto (tgt := 4) hx hb dX11_power_16 (by decide) ?_
      refine lv_iload_n hx hb dX11_power_4 rfl (lv_at hl 0 rfl) ?_
      refine lv_iload_n hx hb dX11_power_5 rfl (lv_at hl 3 rfl) ?_
      refine cn_ge (X := 2) (Y := 3) hx hb dX11_power_6 rfl rfl (by omega) ?_ (tgt := 19) (by decide)
      refine lv_iload_n hx hb dX11_power_9 rfl (lv_at hl 1 rfl) ?_
      refine lv_iload_n hx hb dX11_power_10 rfl (lv_at hl 2 rfl) ?_
      refine lv_imul hx hb dX11_power_11 ?_
      refine tE (y := 1) rfl ?_
      refine lv_istore_n (lv' := [(2, .int 1), (3, .int 2), (0, .int 1), (1, .int 3)]) hx hb dX11_power_12 rfl hl (by decide) rfl (fun ls hl => ?_)
      refine lv_iinc (v := 3) (lv' := [(3, .int 3), (2, .int 1), (0, .int 1), (1, .int 3)]) hx hb dX11_power_13 hl (k := 1) rfl rfl (by decide) rfl (fun ls hl => ?_)
      refine lv_goto (tgt := 4) hx hb dX11_power_16 (by decide) ?_
      refine lv_iload_n hx hb dX11_power_4 rfl (lv_at hl 0 rfl) ?_
      refine lv_iload_n hx hb dX11_power_5 rfl (lv_at hl 3 rfl) ?_
      refine ct_ge (tgt := 19) (X := 3) (Y := 3) hx hb dX11_power_6 (by decide) rfl rfl (by omega) ?_
      refine lv_iload_n hx hb dX11_power_19 rfl (lv_at hl 1 rfl) ?_
      refine hret _ _ _ _ _ _ dX11_power_20 rfl ?_ hO
      exact ⟨(by first | decide | omega), rfl⟩
    · have ec2 : x2 = 4 := i32_eq.mpr (by rw [c2]; rfl)
      subst ec2
      refine lv_iconst (v := 0) hx hb dX11_power_2 (by decide) ?_
      refine lv_istore_n (lv' := [(3, .int 0), (2, .int 1), (0, .int 1), (1, .int 4)]) hx hb dX11_power_3 rfl hl (by decide) rfl (fun ls hl => ?_)
      refine lv_iload_n hx hb dX11_power_4 rfl (lv_at hl 0 rfl) ?_
      refine lv_iload_n hx hb dX11_power_5 rfl (lv_at hl 3 rfl) ?_
      refine cn_ge (X := 0) (Y := 4) hx hb dX11_power_6 rfl rfl (by omega) ?_ (tgt := 19) (by decide)
      refine lv_iload_n hx hb dX11_power_9 rfl (lv_at hl 1 rfl) ?_
      refine lv_iload_n hx hb dX11_power_10 rfl (lv_at hl 2 rfl) ?_
      refine lv_imul hx hb dX11_power_11 ?_
      refine tE (y := 1) rfl ?_
      refine lv_istore_n (lv' := [(2, .int 1), (3, .int 0), (0, .int 1), (1, .int 4)]) hx hb dX11_power_12 rfl hl (by decide) rfl (fun ls hl => ?_)
      refine lv_iinc (v := 1) (lv' := [(3, .int 1), (2, .int 1), (0, .int 1), (1, .int 4)]) hx hb dX11_power_13 hl (k := 1) rfl rfl (by decide) rfl (fun ls hl => ?_)
      refine lv_goto (tgt := 4) hx hb dX11_power_16 (by decide) ?_
      refine lv_iload_n hx hb dX11_power_4 rfl (lv_at hl 0 rfl) ?_
      refine lv_iload_n hx hb dX11_power_5 rfl (lv_at hl 3 rfl) ?_
      refine cn_ge (X := 1) (Y := 4) hx hb dX11_power_6 rfl rfl (by omega) ?_ (tgt := 19) (by decide)
      refine lv_iload_n hx hb dX11_power_9 rfl (lv_at hl 1 rfl) ?_
      refine lv_iload_n hx hb dX11_power_10 rfl (lv_at hl 2 rfl) ?_
      refine lv_imul hx hb dX11_power_11 ?_
      refine tE (y := 1) rfl ?_
      refine lv_istore_n (lv' := [(2, .int 1), (3, .int 1), (0, .int 1), (1, .int 4)]) hx hb dX11_power_12 rfl hl (by decide) rfl (fun ls hl => ?_)
      refine lv_iinc (v := 2) (lv' := [(3, .int 2), (2, .int 1), (0, .int 1), (1, .int 4)]) hx hb dX11_power_13 hl (k := 1) rfl rfl (by decide) rfl (fun ls hl => ?_)
      refine lv_goto (tgt := 4) hx hb dX11_power_16 (by decide) ?_
      refine lv_iload_n hx hb dX11_power_4 rfl (lv_at hl 0 rfl) ?_
      refine lv_iload_n hx hb dX11_power_5 rfl (lv_at hl 3 rfl) ?_
      refine cn_ge (X := 2) (Y := 4) hx hb dX11_power_6 rfl rfl (by omega) ?_ (tgt := 19) (by decide)
      refine lv_iload_n hx hb dX11_power_9 rfl (lv_at hl 1 rfl) ?_
      refine lv_iload_n hx hb dX11_power_10 rfl (lv_at hl 2 rfl) ?_
      refine lv_imul hx hb dX11_power_11 ?_
      refine tE (y := 1) rfl ?_
      refine lv_istore_n (lv' := [(2, .int 1), (3, .int 2), (0, .int 1), (1, .int 4)]) hx hb dX11_power_12 rfl hl (by decide) rfl (fun ls hl => ?_)
      refine lv_iinc (v := 3) (lv' := [(3, .int 3), (2, .int 1), (0, .int 1), (1, .int 4)]) hx hb dX11_power_13 hl (k := 1) rfl rfl (by decide) rfl (fun ls hl => ?_)
      refine lv_goto (tgt := 4) hx hb dX11_power_16 (by decide) ?_
      refine lv_iload_n hx hb dX11_power_4 rfl (lv_at hl 0 rfl) ?_
      refine lv_iload_n hx hb dX11_power_5 rfl (lv_at hl 3 rfl) ?_
      refine cn_ge (X := 3) (Y := 4) hx hb dX11_power_6 rfl rfl (by omega) ?_ (tgt := 19) (by decide)
      refine lv_iload_n hx hb dX11_power_9 rfl (lv_at hl 1 rfl) ?_
      refine lv_iload_n hx hb dX11_power_10 rfl (lv_at hl 2 rfl) ?_
      refine lv_imul hx hb dX11_power_11 ?_
      refine tE (y := 1) rfl ?_
      refine lv_istore_n (lv' := [(2, .int 1), (3, .int 3), (0, .int 1), (1, .int 4)]) hx hb dX11_power_12 rfl hl (by decide) rfl (fun ls hl => ?_)
      refine lv_iinc (v := 4) (lv' := [(3, .int 4), (2, .int 1), (0, .int 1), (1, .int 4)]) hx hb dX11_power_13 hl (k := 1) rfl rfl (by decide) rfl (fun ls hl => ?_)
      refine lv_goto (tgt := 4) hx hb dX11_power_16 (by decide) ?_
      refine lv_iload_n hx hb dX11_power_4 rfl (lv_at hl 0 rfl) ?_
      refine lv_iload_n hx hb dX11_power_5 rfl (lv_at hl 3 rfl) ?_
      refine ct_ge (tgt := 19) (X := 4) (Y := 4) hx hb dX11_power_6 (by decide) rfl rfl (by omega) ?_
      refine lv_iload_n hx hb dX11_power_19 rfl (lv_at hl 1 rfl) ?_
      refine hret _ _ _ _ _ _ dX11_power_20 rfl ?_ hO
      exact ⟨(by first | decide | omega), rfl⟩
    · have ec2 : x2 = 5 := i32_eq.mpr (by rw [c2]; rfl)
      subst ec2
      refine lv_iconst (v := 0) hx hb dX11_power_2 (by decide) ?_
      refine lv_istore_n (lv' := [(3, .int 0), (2, .int 1), (0, .int 1), (1, .int 5)]) hx hb dX11_power_3 rfl hl (by decide) rfl (fun ls hl => ?_)
      refine lv_iload_n hx hb dX11_power_4 rfl (lv_at hl 0 rfl) ?_
      refine lv_iload_n hx hb dX11_power_5 rfl (lv_at hl 3 rfl) ?_
      refine cn_ge (X := 0) (Y := 5) hx hb dX11_power_6 rfl rfl (by omega) ?_ (tgt := 19) (by decide)
      refine lv_iload_n hx hb dX11_power_9 rfl (lv_at hl 1 rfl) ?_
      refine lv_iload_n hx hb dX11_power_10 rfl (lv_at hl 2 rfl) ?_
      refine lv_imul hx hb dX11_power_11 ?_
      refine tE (y := 1) rfl ?_
      refine lv_istore_n (lv' := [(2, .int 1), (3, .int 0), (0, .int 1), (1, .int 5)]) hx hb dX11_power_12 rfl hl (by decide) rfl (fun ls hl => ?_)
      refine lv_iinc (v := 1) (lv' := [(3, .int 1), (2, .int 1), (0, .int 1), (1, .int 5)]) hx hb dX11_power_13 hl (k := 1) rfl rfl (by decide) rfl (fun ls hl => ?_)
      refine lv_goto (tgt := 4) hx hb dX11_power_16 (by decide) ?_
      refine lv_iload_n hx hb dX11_power_4 rfl (lv_at hl 0 rfl) ?_
      refine lv_iload_n hx hb dX11_power_5 rfl (lv_at hl 3 rfl) ?_
      refine cn_ge (X := 1) (Y := 5) hx hb dX11_power_6 rfl rfl (by omega) ?_ (tgt := 19) (by decide)
      refine lv_iload_n hx hb dX11_power_9 rfl (lv_at hl 1 rfl) ?_
      refine lv_iload_n hx hb dX11_power_10 rfl (lv_at hl 2 rfl) ?_
      refine lv_imul hx hb dX11_power_11 ?_
      refine tE (y := 1) rfl ?_
      refine lv_istore_n (lv' := [(2, .int 1), (3, .int 1), (0, .int 1), (1, .int 5)]) hx hb dX11_power_12 rfl hl (by decide) rfl (fun ls hl => ?_)
      refine lv_iinc (v := 2) (lv' := [(3, .int 2), (2, .int 1), (0, .int 1), (1, .int 5)]) hx hb dX11_power_13 hl (k := 1) rfl rfl (by decide) rfl (fun ls hl => ?_)
      refine lv_goto (tgt := 4) hx hb dX11_power_16 (by decide) ?_
      refine lv_iload_n hx hb dX11_power_4 rfl (lv_at hl 0 rfl) ?_
      refine lv_iload_n hx hb dX11_power_5 rfl (lv_at hl 3 rfl) ?_
      refine cn_ge (X := 2) (Y := 5) hx hb dX11_power_6 rfl rfl (by omega) ?_ (tgt := 19) (by decide)
      refine lv_iload_n hx hb dX11_power_9 rfl (lv_at hl 1 rfl) ?_
      refine lv_iload_n hx hb dX11_power_10 rfl (lv_at hl 2 rfl) ?_
      refine lv_imul hx hb dX11_power_11 ?_
      refine tE (y := 1) rfl ?_
      refine lv_istore_n (lv' := [(2, .int 1), (3, .int 2), (0, .int 1), (1, .int 5)]) hx hb dX11_power_12 rfl hl (by decide) rfl (fun ls hl => ?_)
      refine lv_iinc (v := 3) (lv' := [(3, .int 3), (2, .int 1), (0, .int 1), (1, .int 5)]) hx hb dX11_power_13 hl (k := 1) rfl rfl (by decide) rfl (fun ls hl => ?_)
      refine lv_goto (tgt := 4) hx hb dX11_power_16 (by decide) ?_
      refine lv_iload_n hx hb dX11_power_4 rfl (lv_at hl 0 rfl) ?_
      refine lv_iload_n hx hb dX11_power_5 rfl (lv_at hl 3 rfl) ?_
      refine cn_ge (X := 3) (Y := 5) hx hb dX11_power_6 rfl rfl (by omega) ?_ (tgt := 19) (by decide)
      refine lv_iload_n hx hb dX11_power_9 rfl (lv_at hl 1 rfl) ?_
      refine lv_iload_n hx hb dX11_power_10 rfl (lv_at hl 2 rfl) ?_
      refine lv_imul hx hb dX11_power_11 ?_
      refine tE (y := 1) rfl ?_
      refine lv_istore_n (lv' := [(2, .int 1), (3, .int 3), (0, .int 1), (1, .int 5)]) hx hb dX11_power_12 rfl hl (by decide) rfl (fun ls hl => ?_)
      refine lv_iinc (v := 4) (lv' := [(3, .int 4), (2, .int 1), (0, .int 1), (1, .int 5)]) hx hb dX11_power_13 hl (k := 1) rfl rfl (by decide) rfl (fun ls hl => ?_)
      refine lv_goto (tgt := 4) hx hb dX11_power_16 (by decide) ?_
      refine lv_iload_n hx hb dX11_power_4 rfl (lv_at hl 0 rfl) ?_
      refine lv_iload_n hx hb dX11_power_5 rfl (lv_at hl 3 rfl) ?_
      refine cn_ge (X := 4) (Y := 5) hx hb dX11_power_6 rfl rfl (by omega) ?_ (tgt := 19) (by decide)
      refine lv_iload_n hx hb dX11_power_9 rfl (lv_at hl 1 rfl) ?_
      refine lv_iload_n hx hb dX11_power_10 rfl (lv_at hl 2 rfl) ?_
      refine lv_imul hx hb dX11_power_11 ?_
      refine tE (y := 1) rfl ?_
      refine lv_istore_n (lv' := [(2, .int 1), (3, .int 4), (0, .int 1), (1, .int 5)]) hx hb dX11_power_12 rfl hl (by decide) rfl (fun ls hl => ?_)
      refine lv_iinc (v := 5) (lv' := [(3, .int 5), (2, .int 1), (0, .int 1), (1, .int 5)]) hx hb dX11_power_13 hl (k := 1) rfl rfl (by decide) rfl (fun ls hl => ?_)
      refine lv_goto (tgt := 4) hx hb dX11_power_16 (by decide) ?_
      refine lv_iload_n hx hb dX11_power_4 rfl (lv_at hl 0 rfl) ?_
      refine lv_iload_n hx hb dX11_power_5 rfl (lv_at hl 3 rfl) ?_
      refine ct_ge (tgt := 19) (X := 5) (Y := 5) hx hb dX11_power_6 (by decide) rfl rfl (by omega) ?_
      refine lv_iload_n hx hb dX11_power_19 rfl (lv_at hl 1 rfl) ?_
      refine hret _ _ _ _ _ _ dX11_power_20 rfl ?_ hO
      exact ⟨(by first | decide | omega), rfl⟩
    · have ec2 : x2 = 6 := i32_eq.mpr (by rw [c2]; rfl)
      subst ec2
      refine lv_iconst (v := 0) hx hb dX11_power_2 (by decide) ?_
      refine lv_istore_n (lv' := [(3, .int 0), (2, .int 1), (0, .int 1), (1, .int 6)]) hx hb dX11_power_3 rfl hl (by decide) rfl (fun ls hl => ?_)
      refine lv_iload_n hx hb dX11_power_4 rfl (lv_at hl 0 rfl) ?_
      refine lv_iload_n hx hb dX11_power_5 rfl (lv_at hl 3 rfl) ?_
      refine cn_ge (X := 0) (Y := 6) hx hb dX11_power_6 rfl rfl (by omega) ?_ (tgt := 19) (by decide)
      refine lv_iload_n hx hb dX11_power_9 rfl (lv_at hl 1 rfl) ?_
      refine lv_iload_n hx hb dX11_power_10 rfl (lv_at hl 2 rfl) ?_
      refine lv_imul hx hb dX11_power_11 ?_
      refine tE (y := 1) rfl ?_
      refine lv_istore_n (lv' := [(2, .int 1), (3, .int 0), (0, .int 1), (1, .int 6)]) hx hb dX11_power_12 rfl hl (by decide) rfl (fun ls hl => ?_)
      refine lv_iinc (v := 1) (lv' := [(3, .int 1), (2, .int 1), (0, .int 1), (1, .int 6)]) hx hb dX11_power_13 hl (k := 1) rfl rfl (by decide) rfl (fun ls hl => ?_)
      refine lv_goto (tgt := 4) hx hb dX11_power_16 (by decide) ?_
      refine lv_iload_n hx hb dX11_power_4 rfl (lv_at hl 0 rfl) ?_
      refine lv_iload_n hx hb dX11_power_5 rfl (lv_at hl 3 rfl) ?_
      refine cn_ge (X := 1) (Y := 6) hx hb dX11_power_6 rfl rfl (by omega) ?_ (tgt := 19) (by decide)
      refine lv_iload_n hx hb dX11_power_9 rfl (lv_at hl 1 rfl) ?_
      refine lv_iload_n hx hb dX11_power_10 rfl (lv_at hl 2 rfl) ?_
      refine lv_imul hx hb dX11_power_11 ?_
      refine tE (y := 1) rfl ?_
      refine lv_istore_n (lv' := [(2, .int 1), (3, .int 1), (0, .int 1), (1, .int 6)]) hx hb dX11_power_12 rfl hl (by decide) rfl (fun ls hl => ?_)
      refine lv_iinc (v := 2) (lv' := [(3, .int 2), (2, .int 1), (0, .int 1), (1, .int 6)]) hx hb dX11_power_13 hl (k := 1) rfl rfl (by decide) rfl (fun ls hl => ?_)
      refine lv_goto (tgt := 4) hx hb dX11_power_16 (by decide) ?_
      refine lv_iload_n hx hb dX11_power_4 rfl (lv_at hl 0 rfl) ?_
      refine lv_iload_n hx hb dX11_power_5 rfl (lv_at hl 3 rfl) ?_
      refine cn_ge (X := 2) (Y := 6) hx hb dX11_power_6 rfl rfl (by omega) ?_ (tgt := 19) (by decide)
      refine lv_iload_n hx hb dX11_power_9 rfl (lv_at hl 1 rfl) ?_
      refine lv_iload_n hx hb dX11_power_10 rfl (lv_at hl 2 rfl) ?_
      refine lv_imul hx hb dX11_power_11 ?_
      refine tE (y := 1) rfl ?_
      refine lv_istore_n (lv' := [(2, .int 1), (3, .int 2), (0, .int 1), (1, .int 6)]) hx hb dX11_power_12 rfl hl (by decide) rfl (fun ls hl => ?_)
      refine lv_iinc (v := 3) (lv' := [(3, .int 3), (2, .int 1), (0, .int 1), (1, .int 6)]) hx hb dX11_power_13 hl (k := 1) rfl rfl (by decide) rfl (fun ls hl => ?_)
      refine lv_goto (tgt := 4) hx hb dX11_power_16 (by decide) ?_
      refine lv_iload_n hx hb dX11_power_4 rfl (lv_at hl 0 rfl) ?_
      refine lv_iload_n hx hb dX11_power_5 rfl (lv_at hl 3 rfl) ?_
      refine cn_ge (X := 3) (Y := 6) hx hb dX11_power_6 rfl rfl (by omega) ?_ (tgt := 19) (by decide)
      refine lv_iload_n hx hb dX11_power_9 rfl (lv_at hl 1 rfl) ?_
      refine lv_iload_n hx hb dX11_power_10 rfl (lv_at hl 2 rfl) ?_
      refine lv_imul hx hb dX11_power_11 ?_
      refine tE (y := 1) rfl ?_
      refine lv_istore_n (lv' := [(2, .int 1), (3, .int 3), (0, .int 1), (1, .int 6)]) hx hb dX11_power_12 rfl hl (by decide) rfl (fun ls hl => ?_)
      refine lv_iinc (v := 4) (lv' := [(3, .int 4), (2, .int 1), (0, .int 1), (1, .int 6)]) hx hb dX11_power_13 hl (k := 1) rfl rfl (by decide) rfl (fun ls hl => ?_)
      refine lv_goto (tgt := 4) hx hb dX11_power_16 (by decide) ?_
      refine lv_iload_n hx hb dX11_power_4 rfl (lv_at hl 0 rfl) ?_
      refine lv_iload_n hx hb dX11_power_5 rfl (lv_at hl 3 rfl) ?_
      refine cn_ge (X := 4) (Y := 6) hx hb dX11_power_6 rfl rfl (by omega) ?_ (tgt := 19) (by decide)
      refine lv_iload_n hx hb dX11_power_9 rfl (lv_at hl 1 rfl) ?_
      refine lv_iload_n hx hb dX11_power_10 rfl (lv_at hl 2 rfl) ?_
      refine lv_imul hx hb dX11_power_11 ?_
      refine tE (y := 1) rfl ?_
      refine lv_istore_n (lv' := [(2, .int 1), (3, .int 4), (0, .int 1), (1, .int 6)]) hx hb dX11_power_12 rfl hl (by decide) rfl (fun ls hl => ?_)
      refine lv_iinc (v := 5) (lv' := [(3, .int 5), (2, .int 1), (0, .int 1), (1, .int 6)]) hx hb dX11_power_13 hl (k := 1) rfl rfl (by decide) rfl (fun ls hl => ?_)
      refine lv_goto (tgt := 4) hx hb dX11_power_16 (by decide) ?_
      refine lv_iload_n hx hb dX11_power_4 rfl (lv_at hl 0 rfl) ?_
      refine lv_iload_n hx hb dX11_power_5 rfl (lv_at hl 3 rfl) ?_
      refine cn_ge (X := 5) (Y := 6) hx hb dX11_power_6 rfl rfl (by omega) ?_ (tgt := 19) (by decide)
      refine lv_iload_n hx hb dX11_power_9 rfl (lv_at hl 1 rfl) ?_
      refine lv_iload_n hx hb dX11_power_10 rfl (lv_at hl 2 rfl) ?_
      refine lv_imul hx hb dX11_power_11 ?_
      refine tE (y := 1) rfl ?_
      refine lv_istore_n (lv' := [(2, .int 1), (3, .int 5), (0, .int 1), (1, .int 6)]) hx hb dX11_power_12 rfl hl (by decide) rfl (fun ls hl => ?_)
      refine lv_iinc (v := 6) (lv' := [(3, .int 6), (2, .int 1), (0, .int 1), (1, .int 6)]) hx hb dX11_power_13 hl (k := 1) rfl rfl (by decide) rfl (fun ls hl => ?_)
      refine lv_goto (tgt := 4) hx hb dX11_power_16 (by decide) ?_
      refine lv_iload_n hx hb dX11_power_4 rfl (lv_at hl 0 rfl) ?_
      refine lv_iload_n hx hb dX11_power_5 rfl (lv_at hl 3 rfl) ?_
      refine ct_ge (tgt := 19) (X := 6) (Y := 6) hx hb dX11_power_6 (by decide) rfl rfl (by omega) ?_
      refine lv_iload_n hx hb dX11_power_19 rfl (lv_at hl 1 rfl) ?_
      refine hret _ _ _ _ _ _ dX11_power_20 rfl ?_ hO
      exact ⟨(by first | decide | omega), rfl⟩
  · have ec1 : x1 = 2 := i32_eq.mpr (by rw [c1]; rfl)
    subst ec1
    refine lv_iconst (v := 1) hx hb dX11_power_0 (by decide) ?_
    refine lv_istore_n (lv' := [(2, .int 1), (0, .int 2), (1, .int x2)]) hx hb dX11_power_1 rfl hl (by decide) rfl (fun ls hl => ?_)
    have c3 : (x2).toInt = 0 ∨ (x2).toInt = 1 ∨ (x2).toInt = 2 ∨ (x2).toInt = 3 ∨ (x2).toInt = 4 ∨ (x2).toInt = 5 ∨ (x2).toInt = 6 := by omega
    rcases c3 with c3 | c3 | c3 | c3 | c3 | c3 | c3
    · have ec3 : x2 = 0 := i32_eq.mpr (by rw [c3]; rfl)
      subst ec3
      refine lv_iconst (v := 0) hx hb dX11_power_2 (by decide) ?_
      refine lv_istore_n (lv' := [(3, .int 0), (2, .int 1), (0, .int 2), (1, .int 0)]) hx hb dX11_power_3 rfl hl (by decide) rfl (fun ls hl => ?_)
      refine lv_iload_n hx hb dX11_power_4 rfl (lv_at hl 0 rfl) ?_
      refine lv_iload_n hx hb dX11_power_5 rfl (lv_at hl 3 rfl) ?_
      refine ct_ge (tgt := 19) (X := 0) (Y := 0) hx hb dX11_power_6 (by decide) rfl rfl (by omega) ?_
      refine lv_iload_n hx hb dX11_power_19 rfl (lv_at hl 1 rfl) ?_
      refine hret _ _ _ _ _ _ dX11_power_20 rfl ?_ hO
      exact ⟨(by first | decide | omega), rfl⟩
    · have ec3 : x2 = 1 := i32_eq.mpr (by rw [c3]; rfl)
      subst ec3
      refine lv_iconst (v := 0) hx hb dX11_power_2 (by decide) ?_
      refine lv_istore_n (lv' := [(3, .int 0), (2, .int 1), (0, .int 2), (1, .int 1)]) hx hb dX11_power_3 rfl hl (by decide) rfl (fun ls hl => ?_)
      refine lv_iload_n hx hb dX11_power_4 rfl (lv_at hl 0 rfl) ?_
      refine lv_iload_n hx hb dX11_power_5 rfl (lv_at hl 3 rfl) ?_
      refine cn_ge (X := 0) (Y := 1) hx hb dX11_power_6 rfl rfl (by omega) ?_ (tgt := 19) (by decide)
      refine lv_iload_n hx hb dX11_power_9 rfl (lv_at hl 1 rfl) ?_
      refine lv_iload_n hx hb dX11_power_10 rfl (lv_at hl 2 rfl) ?_
      refine lv_imul hx hb dX11_power_11 ?_
      refine tE (y := 2) rfl ?_
      refine lv_istore_n (lv' := [(2, .int 2), (3, .int 0), (0, .int 2), (1, .int 1)]) hx hb dX11_power_12 rfl hl (by decide) rfl (fun ls hl => ?_)
      refine lv_iinc (v := 1) (lv' := [(3, .int 1), (2, .int 2), (0, .int 2), (1, .int 1)]) hx hb dX11_power_13 hl (k := 1) rfl rfl (by decide) rfl (fun ls hl => ?_)
      refine lv_goto (tgt := 4) hx hb dX11_power_16 (by decide) ?_
      refine lv_iload_n hx hb dX11_power_4 rfl (lv_at hl 0 rfl) ?_
      refine lv_iload_n hx hb dX11_power_5 rfl (lv_at hl 3 rfl) ?_
      refine ct_ge (tgt := 19) (X := 1) (Y := 1) hx hb dX11_power_6 (by decide) rfl rfl (by omega) ?_
      refine lv_iload_n hx hb dX11_power_19 rfl (lv_at hl 1 rfl) ?_
      refine hret _ _ _ _ _ _ dX11_power_20 rfl ?_ hO
      exact ⟨(by first | decide | omega), rfl⟩
    · have ec3 : x2 = 2 := i32_eq.mpr (by rw [c3]; rfl)
      subst ec3
      refine lv_iconst (v := 0) hx hb dX11_power_2 (by decide) ?_
      refine lv_istore_n (lv' := [(3, .int 0), (2, .int 1), (0, .int 2), (1, .int 2)]) hx hb dX11_power_3 rfl hl (by decide) rfl (fun ls hl => ?_)
      refine lv_iload_n hx hb dX11_power_4 rfl (lv_at hl 0 rfl) ?_
      refine lv_iload_n hx hb dX11_power_5 rfl (lv_at hl 3 rfl) ?_
      refine cn_ge (X := 0) (Y := 2) hx hb dX11_power_6 rfl rfl (by omega) ?_ (tgt := 19) (by decide)
      refine lv_iload_n hx hb dX11_power_9 rfl (lv_at hl 1 rfl) ?_
      refine lv_iload_n hx hb dX11_power_10 rfl (lv_at hl 2 rfl) ?_
      refine lv_imul hx hb dX11_power_11 ?_
      refine tE (y := 2) rfl ?_
      refine lv_istore_n (lv' := [(2, .int 2), (3, .int 0), (0, .int 2), (1, .int 2)]) hx hb dX11_power_12 rfl hl (by decide) rfl (fun ls hl => ?_)
      refine lv_iinc (v := 1) (lv' := [(3, .int 1), (2, .int 2), (0, .int 2), (1, .int 2)]) hx hb dX11_power_13 hl (k := 1) rfl rfl (by decide) rfl (fun ls hl => ?_)
      refine lv_goto (tgt := 4) hx hb dX11_power_16 (by decide) ?_
      refine lv_iload_n hx hb dX11_power_4 rfl (lv_at hl 0 rfl) ?_
      refine lv_iload_n hx hb dX11_power_5 rfl (lv_at hl 3 rfl) ?_
      refine cn_ge (X := 1) (Y := 2) hx hb dX11_power_6 rfl rfl (by omega) ?_ (tgt := 19) (by decide)
      refine lv_iload_n hx hb dX11_power_9 rfl (lv_at hl 1 rfl) ?_
      refine lv_iload_n hx hb dX11_power_10 rfl (lv_at hl 2 rfl) ?_
      refine lv_imul hx hb dX11_power_11 ?_
      refine tE (y := 4) rfl ?_
      refine lv_istore_n (lv' := [(2, .int 4), (3, .int 1), (0, .int 2), (1, .int 2)]) hx hb dX11_power_12 rfl hl (by decide) rfl (fun ls hl => ?_)
      refine lv_iinc (v := 2) (lv' := [(3, .int 2), (2, .int 4), (0, .int 2), (1, .int 2)]) hx hb dX11_power_13 hl (k := 1) rfl rfl (by decide) rfl (fun ls hl => ?_)
      refine lv_goto (tgt := 4) hx hb dX11_power_16 (by decide) ?_
      refine lv_iload_n hx hb dX11_power_4 rfl (lv_at hl 0 rfl) ?_
      refine lv_iload_n hx hb dX11_power_5 rfl (lv_at hl 3 rfl) ?_
      refine ct_ge (tgt := 19) (X := 2) (Y := 2) hx hb dX11_power_6 (by decide) rfl rfl (by omega) ?_
      refine lv_iload_n hx hb dX11_power_19 rfl (lv_at hl 1 rfl) ?_
      refine hret _ _ _ _ _ _ dX11_power_20 rfl ?_ hO
      exact ⟨(by first | decide | omega), rfl⟩
    · have ec3 : x2 = 3 := i32_eq.mpr (by rw [c3]; rfl)
      subst ec3
      refine lv_iconst (v := 0) hx hb dX11_power_2 (by decide) ?_
      refine lv_istore_n (lv' := [(3, .int 0), (2, .int 1), (0, .int 2), (1, .int 3)]) hx hb dX11_power_3 rfl hl (by decide) rfl (fun ls hl => ?_)
      refine lv_iload_n hx hb dX11_power_4 rfl (lv_at hl 0 rfl) ?_
      refine lv_iload_n hx hb dX11_power_5 rfl (lv_at hl 3 rfl) ?_
      refine cn_ge (X := 0) (Y := 3) hx hb dX11_power_6 rfl rfl (by omega) ?_ (tgt := 19) (by decide)
      refine lv_iload_n hx hb dX11_power_9 rfl (lv_at hl 1 rfl) ?_
      refine lv_iload_n hx hb dX11_power_10 rfl (lv_at hl 2 rfl) ?_
      refine lv_imul hx hb dX11_power_11 ?_
      refine tE (y := 2) rfl ?_
      refine lv_istore_n (lv' := [(2, .int 2), (3, .int 0), (0, .int 2), (1, .int 3)]) hx hb dX11_power_12 rfl hl (by decide) rfl (fun ls hl => ?_)
      refine lv_iinc (v := 1) (lv' := [(3, .int 1), (2, .int 2), (0, .int 2), (1, .int 3)]) hx hb dX11_power_13 hl (k := 1) rfl rfl (by decide) rfl (fun ls hl => ?_)
      refine lv_goto (tgt := 4) hx hb dX11_power_16 (by decide) ?_
      refine lv_iload_n hx hb dX11_power_4 rfl (lv_at hl 0 rfl) ?_
      refine lv_iload_n hx hb dX11_power_5 rfl (lv_at hl 3 rfl) ?_
      refine cn_ge (X := 1) (Y := 3) hx hb dX11_power_6 rfl rfl (by omega) ?_ (tgt := 19) (by decide)
      refine lv_iload_n hx hb dX11_power_9 rfl (lv_at hl 1 rfl) ?_
      refine lv_iload_n hx hb dX11_power_10 rfl (lv_at hl 2 rfl) ?_
      refine lv_imul hx hb dX11_power_11 ?_
      refine tE (y := 4) rfl ?_
      refine lv_istore_n (lv' := [(2, .int 4), (3, .int 1), (0, .int 2), (1, .int 3)]) hx hb dX11_power_12 rfl hl (by decide) rfl (fun ls hl => ?_)
      refine lv_iinc (v := 2) (lv' := [(3, .int 2), (2, .int 4), (0, .int 2), (1, .int 3)]) hx hb dX11_power_13 hl (k := 1) rfl rfl (by decide) rfl (fun ls hl => ?_)
      refine lv_goto (tgt := 4) hx hb dX11_power_16 (by decide) ?_
      refine lv_iload_n hx hb dX11_power_4 rfl (lv_at hl 0 rfl) ?_
      refine lv_iload_n hx hb dX11_power_5 rfl (lv_at hl 3 rfl) ?_
      refine cn_ge (X := 2) (Y := 3) hx hb dX11_power_6 rfl rfl (by omega) ?_ (tgt := 19) (by decide)
      refine lv_iload_n hx hb dX11_power_9 rfl (lv_at hl 1 rfl) ?_
      refine lv_iload_n hx hb dX11_power_10 rfl (lv_at hl 2 rfl) ?_
      refine lv_imul hx hb dX11_power_11 ?_
      refine tE (y := 8) rfl ?_
      refine lv_istore_n (lv' := [(2, .int 8), (3, .int 2), (0, .int 2), (1, .int 3)]) hx hb dX11_power_12 rfl hl (by decide) rfl (fun ls hl => ?_)
      refine lv_iinc (v := 3) (lv' := [(3, .int 3), (2, .int 8), (0, .int 2), (1, .int 3)]) hx hb dX11_power_13 hl (k := 1) rfl rfl (by decide) rfl (fun ls hl => ?_)
      refine lv_goto (tgt := 4) hx hb dX11_power_16 (by decide) ?_
      refine lv_iload_n hx hb dX11_power_4 rfl (lv_at hl 0 rfl) ?_
      refine lv_iload_n hx hb dX11_power_5 rfl (lv_at hl 3 rfl) ?_
      refine ct_ge (tgt := 19) (X := 3) (Y := 3) hx hb dX11_power_6 (by decide) rfl rfl (by omega) ?_
      refine lv_iload_n hx hb dX11_power_19 rfl (lv_at hl 1 rfl) ?_
      refine hret _ _ _ _ _ _ dX11_power_20 rfl ?_ hO
      exact ⟨(by first | decide | omega), rfl⟩
    · have ec3 : x2 = 4 := i32_eq.mpr (by rw [c3]; rfl)
      subst ec3
      refine lv_iconst (v := 0) hx hb dX11_power_2 (by decide) ?_
      refine lv_istore_n (lv' := [(3, .int 0), (2, .int 1), (0, .int 2), (1, .int 4)]) hx hb dX11_power_3 rfl hl (by decide) rfl (fun ls hl => ?_)
      refine lv_iload_n hx hb dX11_power_4 rfl (lv_at hl 0 rfl) ?_
      refine lv_iload_n hx hb dX11_power_5 rfl (lv_at hl 3 rfl) ?_
      refine cn_ge (X := 0) (Y := 4) hx hb dX11_power_6 rfl rfl (by omega) ?_ (tgt := 19) (by decide)
      refine lv_iload_n hx hb dX11_power_9 rfl (lv_at hl 1 rfl) ?_
      refine lv_iload_n hx hb dX11_power_10 rfl (lv_at hl 2 rfl) ?_
      refine lv_imul hx hb dX11_power_11 ?_
      refine tE (y := 2) rfl ?_
      refine lv_istore_n (lv' := [(2, .int 2), (3, .int 0), (0, .int 2), (1, .int 4)]) hx hb dX11_power_12 rfl hl (by decide) rfl (fun ls hl => ?_)
      refine lv_iinc (v := 1) (lv' := [(3, .int 1), (2, .int 2), (0, .int 2), (1, .int 4)]) hx hb dX11_power_13 hl (k := 1) rfl rfl (by decide) rfl (fun ls hl => ?_)
      refine lv_goto (tgt := 4) hx hb dX11_power_16 (by decide) ?_
      refine lv_iload_n hx hb dX11_power_4 rfl (lv_at hl 0 rfl) ?_
      refine lv_iload_n hx hb dX11_power_5 rfl (lv_at hl 3 rfl) ?_
      refine cn_ge (X := 1) (Y := 4) hx hb dX11_power_6 rfl rfl (by omega) ?_ (tgt := 19) (by decide)
      refine lv_iload_n hx hb dX11_power_9 rfl (lv_at hl 1 rfl) ?_
      refine lv_iload_n hx hb dX11_power_10 rfl (lv_at hl 2 rfl) ?_
      refine lv_imul hx hb dX11_power_11 ?_
      refine tE (y := 4) rfl ?_
      refine lv_istore_n (lv' := [(2, .int 4), (3, .int 1), (0, .int 2), (1, .int 4)]) hx hb dX11_power_12 rfl hl (by decide) rfl (fun ls hl => ?_)
      refine lv_iinc (v := 2) (lv' := [(3, .int 2), (2, .int 4), (0, .int 2), (1, .int 4)]) hx hb dX11_power_13 hl (k := 1) rfl rfl (by decide) rfl (fun ls hl => ?_)
      refine lv_goto (tgt := 4) hx hb dX11_power_16 (by decide) ?_
      refine lv_iload_n hx hb dX11_power_4 rfl (lv_at hl 0 rfl) ?_
      refine lv_iload_n hx hb dX11_power_5 rfl (lv_at hl 3 rfl) ?_
      refine cn_ge (X := 2) (Y := 4) hx hb dX11_power_6 rfl rfl (by omega) ?_ (tgt := 19) (by decide)
      refine lv_iload_n hx hb dX11_power_9 rfl (lv_at hl 1 rfl) ?_
      refine lv_iload_n hx hb dX11_power_10 rfl (lv_at hl 2 rfl) ?_
      refine lv_imul hx hb dX11_power_11 ?_
      refine tE (y := 8) rfl ?_
      refine lv_istore_n (lv' := [(2, .int 8), (3, .int 2), (0, .int 2), (1, .int 4)]) hx hb dX11_power_12 rfl hl (by decide) rfl (fun ls hl => ?_)
      refine lv_iinc (v := 3) (lv' := [(3, .int 3), (2, .int 8), (0, .int 2), (1, .int 4)]) hx hb dX11_power_13 hl (k := 1) rfl rfl (by decide) rfl (fun ls hl => ?_)
      refine lv_goto (tgt := 4) hx hb dX11_power_16 (by decide) ?_
      refine lv_iload_n hx hb dX11_power_4 rfl (lv_at hl 0 rfl) ?_
      refine lv_iload_n hx hb dX11_power_5 rfl (lv_at hl 3 rfl) ?_
      refine cn_ge (X := 3) (Y := 4) hx hb dX11_power_6 rfl rfl (by omega) ?_ (tgt := 19) (by decide)
      refine lv_iload_n hx hb dX11_power_9 rfl (lv_at hl 1 rfl) ?_
      refine lv_iload_n hx hb dX11_power_10 rfl (lv_at hl 2 rfl) ?_
      refine lv_imul hx hb dX11_power_11 ?_
      refine tE (y := 16) rfl ?_
      refine lv_istore_n (lv' := [(2, .int 16), (3, .int 3), (0, .int 2), (1, .int 4)]) hx hb dX11_power_12 rfl hl (by decide) rfl (fun ls hl => ?_)
      refine lv_iinc (v := 4) (lv' := [(3, .int 4), (2, .int 16), (0, .int 2), (1, .int 4)]) hx hb dX11_power_13 hl (k := 1) rfl rfl (by decide) rfl (fun ls hl => ?_)
      refine lv_goto (tgt := 4) hx hb dX11_power_16 (by decide) ?_
      refine lv_iload_n hx hb dX11_power_4 rfl (lv_at hl 0 rfl) ?_
      refine lv_iload_n hx hb dX11_power_5 rfl (lv_at hl 3 rfl) ?_
      refine ct_ge (tgt := 19) (X := 4) (Y := 4) hx hb dX11_power_6 (by decide) rfl rfl (by omega) ?_
      refine lv_iload_n hx hb dX11_power_19 rfl (lv_at hl 1 rfl) ?_
      refine hret _ _ _ _ _ _ dX11_power_20 rfl ?_ hO
      exact ⟨(by first | decide | omega), rfl⟩
    · have ec3 : x2 = 5 := i32_eq.mpr (by rw [c3]; rfl)
      subst ec3
      refine lv_iconst (v := 0) hx hb dX11_power_2 (by decide) ?_
      refine lv_istore_n (lv' := [(3, .int 0), (2, .int 1), (0, .int 2), (1, .int 5)]) hx hb dX11_power_3 rfl hl (by decide) rfl (fun ls hl => ?_)
      refine lv_iload_n hx hb dX11_power_4 rfl (lv_at hl 0 rfl) ?_
      refine lv_iload_n hx hb dX11_power_5 rfl (lv_at hl 3 rfl) ?_
      refine cn_ge (X := 0) (Y := 5) hx hb dX11_power_6 rfl rfl (by omega) ?_ (tgt := 19) (by decide)
      refine lv_iload_n hx hb dX11_power_9 rfl (lv_at hl 1 rfl) ?_
      refine lv_iload_n hx hb dX11_power_10 rfl (lv_at hl 2 rfl) ?_
      refine lv_imul hx hb dX11_power_11 ?_
      refine tE (y := 2) rfl ?_
      refine lv_istore_n (lv' := [(2, .int 2), (3, .int 0), (0, .int 2), (1, .int 5)]) hx hb dX11_power_12 rfl hl (by decide) rfl (fun ls hl => ?_)
      refine lv_iinc (v := 1) (lv' := [(3, .int 1), (2, .int 2), (0, .int 2), (1, .int 5)]) hx hb dX11_power_13 hl (k := 1) rfl rfl (by decide) rfl (fun ls hl => ?_)
      refine lv_goto (tgt := 4) hx hb dX11_power_16 (by decide) ?_
      refine lv_iload_n hx hb dX11_power_4 rfl (lv_at hl 0 rfl) ?_
      refine lv_iload_n hx hb dX11_power_5 rfl (lv_at hl 3 rfl) ?_
      refine cn_ge (X := 1) (Y := 5) hx hb dX11_power_6 rfl rfl (by omega) ?_ (tgt := 19) (by decide)
      refine lv_iload_n hx hb dX11_power_9 rfl (lv_at hl 1 rfl) ?_
      refine lv_iload_n hx hb dX11_power_10 rfl (lv_at hl 2 rfl) ?_
      refine lv_imul hx hb dX11_power_11 ?_
      refine tE (y := 4) rfl ?_
      refine lv_istore_n (lv' := [(2, .int 4), (3, .int 1), (0, .int 2), (1, .int 5)]) hx hb dX11_power_12 rfl hl (by decide) rfl (fun ls hl => ?_)
      refine lv_iinc (v := 2) (lv' := [(3, .int 2), (2, .int 4), (0, .int 2), (1, .int 5)]) hx hb dX11_power_13 hl (k := 1) rfl rfl (by decide) rfl (fun ls hl => ?_)
      refine lv_goto (tgt := 4) hx hb dX11_power_16 (by decide) ?_
      refine lv_iload_n hx hb dX11_power_4 rfl (lv_at hl 0 rfl) ?_
      refine lv_iload_n hx hb dX11_power_5 rfl (lv_at hl 3 rfl) ?_
      refine cn_ge (X := 2) (Y := 5) hx hb dX11_power_6 rfl rfl (by omega) ?_ (tgt := 19) (by decide)
      refine lv_iload_n hx hb dX11_power_9 rfl (lv_at hl 1 rfl) ?_
      refine lv_iload_n hx hb dX11_power_10 rfl (lv_at hl 2 rfl) ?_
      refine lv_imul hx hb dX11_power_11 ?_
      refine tE (y := 8) rfl ?_
      refine lv_istore_n (lv' := [(2, .int 8), (3, .int 2), (0, .int 2), (1, .int 5)]) hx hb dX11_power_12 rfl hl (by decide) rfl (fun ls hl => ?_)
      refine lv_iinc (v := 3) (lv' := [(3, .int 3), (2, .int 8), (0, .int 2), (1, .int 5)]) hx hb dX11_power_13 hl (k := 1) rfl rfl (by decide) rfl (fun ls hl => ?_)
      refine lv_goto (tgt := 4) hx hb dX11_power_16 (by decide) ?_
      refine lv_iload_n hx hb dX11_power_4 rfl (lv_at hl 0 rfl) ?_
      refine lv_iload_n hx hb dX11_power_5 rfl (lv_at hl 3 rfl) ?_
      refine cn_ge (X := 3) (Y := 5) hx hb dX11_power_6 rfl rfl (by omega) ?_ (tgt := 19) (by decide)
      refine lv_iload_n hx hb dX11_power_9 rfl (lv_at hl 1 rfl) ?_
      refine lv_iload_n hx hb dX11_power_10 rfl (lv_at hl 2 rfl) ?_
      refine lv_imul hx hb dX11_power_11 ?_
      refine tE (y := 16) rfl ?_
      refine lv_istore_n (lv' := [(2, .int 16), (3, .int 3), (0, .int 2), (1, .int 5)]) hx hb dX11_power_12 rfl hl (by decide) rfl (fun ls hl => ?_)
      refine lv_iinc (v := 4) (lv' := [(3, .int 4), (2, .int 16), (0, .int 2), (1, .int 5)]) hx hb dX11_power_13 hl (k := 1) rfl rfl (by decide) rfl (fun ls hl => ?_)
      refine lv_goto (tgt := 4) hx hb dX11_power_16 (by decide) ?_
      refine lv_iload_n hx hb dX11_power_4 rfl (lv_at hl 0 rfl) ?_
      refine lv_iload_n hx hb dX11_power_5 rfl (lv_at hl 3 rfl) ?_
      refine cn_ge (X := 4) (Y := 5) hx hb dX11_power_6 rfl rfl (by omega) ?_ (tgt := 19) (by decide)
      refine lv_iload_n hx hb dX11_power_9 rfl (lv_at hl 1 rfl) ?_
      refine lv_iload_n hx hb dX11_power_10 rfl (lv_at hl 2 rfl) ?_
      refine lv_imul hx hb dX11_power_11 ?_
      refine tE (y := 32) rfl ?_
      refine lv_istore_n (lv' := [(2, .int 32), (3, .int 4), (0, .int 2), (1, .int 5)]) hx hb dX11_power_12 rfl hl (by decide) rfl (fun ls hl => ?_)
      refine lv_iinc (v := 5) (lv' := [(3, .int 5), (2, .int 32), (0, .int 2), (1, .int 5)]) hx hb dX11_power_13 hl (k := 1) rfl rfl (by decide) rfl (fun ls hl => ?_)
      refine lv_goto (tgt := 4) hx hb dX11_power_16 (by decide) ?_
      refine lv_iload_n hx hb dX11_power_4 rfl (lv_at hl 0 rfl) ?_
      refine lv_iload_n hx hb dX11_power_5 rfl (lv_at hl 3 rfl) ?_
      refine ct_ge (tgt := 19) (X := 5) (Y := 5) hx hb dX11_power_6 (by decide) rfl rfl (by omega) ?_
      refine lv_iload_n hx hb dX11_power_19 rfl (lv_at hl 1 rfl) ?_
      refine hret _ _ _ _ _ _ dX11_power_20 rfl ?_ hO
      exact ⟨(by first | decide | omega), rfl⟩
    · have ec3 : x2 = 6 := i32_eq.mpr (by rw [c3]; rfl)
      subst ec3
      refine lv_iconst (v := 0) hx hb dX11_power_2 (by decide) ?_
      refine lv_istore_n (lv' := [(3, .int 0), (2, .int 1), (0, .int 2), (1, .int 6)]) hx hb dX11_power_3 rfl hl (by decide) rfl (fun ls hl => ?_)
      refine lv_iload_n hx hb dX11_power_4 rfl (lv_at hl 0 rfl) ?_
      refine lv_iload_n hx hb dX11_power_5 rfl (lv_at hl 3 rfl) ?_
      refine cn_ge (X := 0) (Y := 6) hx hb dX11_power_6 rfl rfl (by omega) ?_ (tgt := 19) (by decide)
      refine lv_iload_n hx hb dX11_power_9 rfl (lv_at hl 1 rfl) ?_
      refine lv_iload_n hx hb dX11_power_10 rfl (lv_at hl 2 rfl) ?_
      refine lv_imul hx hb dX11_power_11 ?_
      refine tE (y := 2) rfl ?_
      refine lv_istore_n (lv' := [(2, .int 2), (3, .int 0), (0, .int 2), (1, .int 6)]) hx hb dX11_power_12 rfl hl (by decide) rfl (fun ls hl => ?_)
      refine lv_iinc (v := 1) (lv' := [(3, .int 1), (2, .int 2), (0, .int 2), (1, .int 6)]) hx hb dX11_power_13 hl (k := 1) rfl rfl (by decide) rfl (fun ls hl => ?_)
      refine lv_goto (tgt := 4) hx hb dX11_power_16 (by decide) ?_
      refine lv_iload_n hx hb dX11_power_4 rfl (lv_at hl 0 rfl) ?_
      refine lv_iload_n hx hb dX11_power_5 rfl (lv_at hl 3 rfl) ?_
      refine cn_ge (X := 1) (Y := 6) hx hb dX11_power_6 rfl rfl (by omega) ?_ (tgt := 19) (by decide)
      refine lv_iload_n hx hb dX11_power_9 rfl (lv_at hl 1 rfl) ?_
      refine lv_iload_n hx hb dX11_power_10 rfl (lv_at hl 2 rfl) ?_
      refine lv_imul hx hb dX11_power_11 ?_
      refine tE (y := 4) rfl ?_
      refine lv_istore_n (lv' := [(2, .int 4), (3, .int 1), (0, .int 2), (1, .int 6)]) hx hb dX11_power_12 rfl hl (by decide) rfl (fun ls hl => ?_)
      refine lv_iinc (v := 2) (lv' := [(3, .int 2), (2, .int 4), (0, .int 2), (1, .int 6)]) hx hb dX11_power_13 hl (k := 1) rfl rfl (by decide) rfl (fun ls hl => ?_)
      refine lv_goto (tgt := 4) hx hb dX11_power_16 (by decide) ?_
      refine lv_iload_n hx hb dX11_power_4 rfl (lv_at hl 0 rfl) ?_
      refine lv_iload_n hx hb dX11_power_5 rfl (lv_at hl 3 rfl) ?_
      refine cn_ge (X := 2) (Y := 6) hx hb dX11_power_6 rfl rfl (by omega) ?_ (tgt := 19) (by decide)
      refine lv_iload_n hx hb dX11_power_9 rfl (lv_at hl 1 rfl) ?_
      refine lv_iload_n hx hb dX11_power_10 rfl (lv_at hl 2 rfl) ?_
      refine lv_imul hx hb dX11_power_11 ?_
      refine tE (y := 8) rfl ?_
      refine lv_istore_n (lv' := [(2, .int 8), (3, .int 2), (0, .int 2), (1, .int 6)]) hx hb dX11_power_12 rfl hl (by decide) rfl (fun ls hl => ?_)
      refine lv_iinc (v := 3) (lv' := [(3, .int 3), (2, .int 8), (0, .int 2), (1, .int 6)]) hx hb dX11_power_13 hl (k := 1) rfl rfl (by decide) rfl (fun ls hl => ?_)
      refine lv_goto (tgt := 4) hx hb dX11_power_16 (by decide) ?_
      refine lv_iload_n hx hb dX11_power_4 rfl (lv_at hl 0 rfl) ?_
      refine lv_iload_n hx hb dX11_power_5 rfl (lv_at hl 3 rfl) ?_
      refine cn_ge (X := 3) (Y := 6) hx hb dX11_power_6 rfl rfl (by omega) ?_ (tgt := 19) (by decide)
      refine lv_iload_n hx hb dX11_power_9 rfl (lv_at hl 1 rfl) ?_
      refine lv_iload_n hx hb dX11_power_10 rfl (lv_at hl 2 rfl) ?_
      refine lv_imul hx hb dX11_power_11 ?_
      refine tE (y := 16) rfl ?_
      refine lv_istore_n (lv' := [(2, .int 16), (3, .int 3), (0, .int 2), (1, .int 6)]) hx hb dX11_power_12 rfl hl (by decide) rfl (fun ls hl => ?_)
      refine lv_iinc (v := 4) (lv' := [(3, .int 4), (2, .int 16), (0, .int 2), (1, .int 6)]) hx hb dX11_power_13 hl (k := 1) rfl rfl (by decide) rfl (fun ls hl => ?_)
      refine lv_goto (tgt := 4) hx hb dX11_power_16 (by decide) ?_
      refine lv_iload_n hx hb dX11_power_4 rfl (lv_at hl 0 rfl) ?_
      refine lv_iload_n hx hb dX11_power_5 rfl (lv_at hl 3 rfl) ?_
      refine cn_ge (X := 4) (Y := 6) hx hb dX11_power_6 rfl rfl (by omega) ?_ (tgt := 19) (by decide)
      refine lv_iload_n hx hb dX11_power_9 rfl (lv_at hl 1 rfl) ?_
      refine lv_iload_n hx hb dX11_power_10 rfl (lv_at hl 2 rfl) ?_
      refine lv_imul hx hb dX11_power_11 ?_
      refine tE (y := 32) rfl ?_
      refine lv_istore_n (lv' := [(2, .int 32), (3, .int 4), (0, .int 2), (1, .int 6)]) hx hb dX11_power_12 rfl hl (by decide) rfl (fun ls hl => ?_)
      refine lv_iinc (v := 5) (lv' := [(3, .int 5), (2, .int 32), (0, .int 2), (1, .int 6)]) hx hb dX11_power_13 hl (k := 1) rfl rfl (by decide) rfl (fun ls hl => ?_)
      refine lv_goto (tgt := 4) hx hb dX11_power_16 (by decide) ?_
      refine lv_iload_n hx hb dX11_power_4 rfl (lv_at hl 0 rfl) ?_
      refine lv_iload_n hx hb dX11_power_5 rfl (lv_at hl 3 rfl) ?_
      refine cn_ge (X := 5) (Y := 6) hx hb dX11_power_6 rfl rfl (by omega) ?_ (tgt := 19) (by decide)
      refine lv_iload_n hx hb dX11_power_9 rfl (lv_at hl 1 rfl) ?_
      refine lv_iload_n hx hb dX11_power_10 rfl (lv_at hl 2 rfl) ?_
      refine lv_imul hx hb dX11_power_11 ?_
      refine tE (y := 64) rfl ?_
      refine lv_istore_n (lv' := [(2, .int 64), (3, .int 5), (0, .int 2), (1, .int 6)]) hx hb dX11_power_12 rfl hl (by decide) rfl (fun ls hl => ?_)
      refine lv_iinc (v := 6) (lv' := [(3, .int 6), (2, .int 64), (0, .int 2), (1, .int 6)]) hx hb dX11_power_13 hl (k := 1) rfl rfl (by decide) rfl (fun ls hl => ?_)
      refine lv_goto (tgt := 4) hx hb dX11_power_16 (by decide) ?_
      refine lv_iload_n hx hb dX11_power_4 rfl (lv_at hl 0 rfl) ?_
      refine lv_iload_n hx hb dX11_power_5 rfl (lv_at hl 3 rfl) ?_
      refine ct_ge (tgt := 19) (X := 6) (Y := 6) hx hb dX11_power_6 (by decide) rfl rfl (by omega) ?_
      refine lv_iload_n hx hb dX11_power_19 rfl (lv_at hl 1 rfl) ?_
      refine hret _ _ _ _ _ _ dX11_power_20 rfl ?_ hO
      exact ⟨(by first | decide | omega), rfl⟩
  · have ec1 : x1 = 3 := i32_eq.mpr (by rw [c1]; rfl)
    subst ec1
    refine lv_iconst (v := 1) hx hb dX11_power_0 (by decide) ?_
    refine lv_istore_n (lv' := [(2, .int 1), (0, .int 3), (1, .int x2)]) hx hb dX11_power_1 rfl hl (by decide) rfl (fun ls hl => ?_)
    have c4 : (x2).toInt = 0 ∨ (x2).toInt = 1 ∨ (x2).toInt = 2 ∨ (x2).toInt = 3 ∨ (x2).toInt = 4 ∨ (x2).toInt = 5 ∨ (x2).toInt = 6 := by omega
    rcases c4 with c4 | c4 | c4 | c4 | c4 | c4 | c4
    · have ec4 : x2 = 0 := i32_eq.mpr (by rw [c4]; rfl)
      subst ec4
      refine lv_iconst (v := 0) hx hb dX11_power_2 (by decide) ?_
      refine lv_istore_n (lv' := [(3, .int 0), (2, .int 1), (0, .int 3), (1, .int 0)]) hx hb dX11_power_3 rfl hl (by decide) rfl (fun ls hl => ?_)
      refine lv_iload_n hx hb dX11_power_4 rfl (lv_at hl 0 rfl) ?_
      refine lv_iload_n hx hb dX11_power_5 rfl (lv_at hl 3 rfl) ?_
      refine ct_ge (tgt := 19) (X := 0) (Y := 0) hx hb dX11_power_6 (by decide) rfl rfl (by omega) ?_
      refine lv_iload_n hx hb dX11_power_19 rfl (lv_at hl 1 rfl) ?_
      refine hret _ _ _ _ _ _ dX11_power_20 rfl ?_ hO
      exact ⟨(by first | decide | omega), rfl⟩
    · have ec4 : x2 = 1 := i32_eq.mpr (by rw [c4]; rfl)
      subst ec4
      refine lv_iconst (v := 0) hx hb dX11_power_2 (by decide) ?_
      refine lv_istore_n (lv' := [(3, .int 0), (2, .int 1), (0, .int 3), (1, .int 1)]) hx hb dX11_power_3 rfl hl (by decide) rfl (fun ls hl => ?_)
      refine lv_iload_n hx hb dX11_power_4 rfl (lv_at hl 0 rfl) ?_
      refine lv_iload_n hx hb dX11_power_5 rfl (lv_at hl 3 rfl) ?_
      refine cn_ge (X := 0) (Y := 1) hx hb dX11_power_6 rfl rfl (by omega) ?_ (tgt := 19) (by decide)
      refine lv_iload_n hx hb dX11_power_9 rfl (lv_at hl 1 rfl) ?_
      refine lv_iload_n hx hb dX11_power_10 rfl (lv_at hl 2 rfl) ?_
      refine lv_imul hx hb dX11_power_11 ?_
      refine tE (y := 3) rfl ?_
      refine lv_istore_n (lv' := [(2, .int 3), (3, .int 0), (0, .int 3), (1, .int 1)]) hx hb dX11_power_12 rfl hl (by decide) rfl (fun ls hl => ?_)
      refine lv_iinc (v := 1) (lv' := [(3, .int 1), (2, .int 3), (0, .int 3), (1, .int 1)]) hx hb dX11_power_13 hl (k := 1) rfl rfl (by decide) rfl (fun ls hl => ?_)
      refine lv_goto (tgt := 4) hx hb dX11_power_16 (by decide) ?_
      refine lv_iload_n hx hb dX11_power_4 rfl (lv_at hl 0 rfl) ?_
      refine lv_iload_n hx hb dX11_power_5 rfl (lv_at hl 3 rfl) ?_
      refine ct_ge (tgt := 19) (X := 1) (Y := 1) hx hb dX11_power_6 (by decide) rfl rfl (by omega) ?_
      refine lv_iload_n hx hb dX11_power_19 rfl (lv_at hl 1 rfl) ?_
      refine hret _ _ _ _ _ _ dX11_power_20 rfl ?_ hO
      exact ⟨(by first | decide | omega), rfl⟩
    · have ec4 : x2 = 2 := i32_eq.mpr (by rw [c4]; rfl)
      subst ec4
      refine lv_iconst (v := 0) hx hb dX11_power_2 (by decide) ?_
      refine lv_istore_n (lv' := [(3, .int 0), (2, .int 1), (0, .int 3), (1, .int 2)]) hx hb dX11_power_3 rfl hl (by decide) rfl (fun ls hl => ?_)
      refine lv_iload_n hx hb dX11_power_4 rfl (lv_at hl 0 rfl) ?_
      refine lv_iload_n hx hb dX11_power_5 rfl (lv_at hl 3 rfl) ?_
      refine cn_ge (X := 0) (Y := 2) hx hb dX11_power_6 rfl rfl (by omega) ?_ (tgt := 19) (by decide)
      refine lv_iload_n hx hb dX11_power_9 rfl (lv_at hl 1 rfl) ?_
      refine lv_iload_n hx hb dX11_power_10 rfl (lv_at hl 2 rfl) ?_
      refine lv_imul hx hb dX11_power_11 ?_
      refine tE (y := 3) rfl ?_
      refine lv_istore_n (lv' := [(2, .int 3), (3, .int 0), (0, .int 3), (1, .int 2)]) hx hb dX11_power_12 rfl hl (by decide) rfl (fun ls hl => ?_)
      refine lv_iinc (v := 1) (lv' := [(3, .int 1), (2, .int 3), (0, .int 3), (1, .int 2)]) hx hb dX11_power_13 hl (k := 1) rfl rfl (by decide) rfl (fun ls hl => ?_)
      refine lv_goto (tgt := 4) hx hb dX11_power_16 (by decide) ?_
      refine lv_iload_n hx hb dX11_power_4 rfl (lv_at hl 0 rfl) ?_
      refine lv_iload_n hx hb dX11_power_5 rfl (lv_at hl 3 rfl) ?_
      refine cn_ge (X := 1) (Y := 2) hx hb dX11_power_6 rfl rfl (by omega) ?_ (tgt := 19) (by decide)
      refine lv_iload_n hx hb dX11_power_9 rfl (lv_at hl 1 rfl) ?_
      refine lv_iload_n hx hb dX11_power_10 rfl (lv_at hl 2 rfl) ?_
      refine lv_imul hx hb dX11_power_11 ?_
      refine tE (y := 9) rfl ?_
      refine lv_istore_n (lv' := [(2, .int 9), (3, .int 1), (0, .int 3), (1, .int 2)]) hx hb dX11_power_12 rfl hl (by decide) rfl (fun ls hl => ?_)
      refine lv_iinc (v := 2) (lv' := [(3, .int 2), (2, .int 9), (0, .int 3), (1, .int 2)]) hx hb dX11_power_13 hl (k := 1) rfl rfl (by decide) rfl (fun ls hl => ?_)
      refine lv_goto (tgt := 4) hx hb dX11_power_16 (by decide) ?_
      refine lv_iload_n hx hb dX11_power_4 rfl (lv_at hl 0 rfl) ?_
      refine lv_iload_n hx hb dX11_power_5 rfl (lv_at hl 3 rfl) ?_
      refine ct_ge (tgt := 19) (X := 2) (Y := 2) hx hb dX11_power_6 (by decide) rfl rfl (by omega) ?_
      refine lv_iload_n hx hb dX11_power_19 rfl (lv_at hl 1 rfl) ?_
      refine hret _ _ _ _ _ _ dX11_power_20 rfl ?_ hO
      exact ⟨(by first | decide | omega), rfl⟩
    · have ec4 : x2 = 3 := i32_eq.mpr (by rw [c4]; rfl)
      subst ec4
      refine lv_iconst (v := 0) hx hb dX11_power_2 (by decide) ?_
      refine lv_istore_n (lv' := [(3, .int 0), (2, .int 1), (0, .int 3), (1, .int 3)]) hx hb dX11_power_3 rfl hl (by decide) rfl (fun ls hl => ?_)
      refine lv_iload_n hx hb dX11_power_4 rfl (lv_at hl 0 rfl) ?_
      refine lv_iload_n hx hb dX11_power_5 rfl (lv_at hl 3 rfl) ?_
      refine cn_ge (X := 0) (Y := 3) hx hb dX11_power_6 rfl rfl (by omega) ?_ (tgt := 19) (by decide)
      refine lv_iload_n hx hb dX11_power_9 rfl (lv_at hl 1 rfl) ?_
      refine lv_iload_n hx hb dX11_power_10 rfl (lv_at hl 2 rfl) ?_
      refine lv_imul hx hb dX11_power_11 ?_
      refine tE (y := 3) rfl ?_
      refine lv_istore_n (lv' := [(2, .int 3), (3, .int 0), (0, .int 3), (1, .int 3)]) hx hb dX11_power_12 rfl hl (by decide) rfl (fun ls hl => ?_)
      refine lv_iinc (v := 1) (lv' := [(3, .int 1), (2, .int 3), (0, .int 3), (1, .int 3)]) hx hb dX11_power_13 hl (k := 1) rfl rfl (by decide) rfl (fun ls hl => ?_)
      refine lv_goto (tgt := 4) hx hb dX11_power_16 (by decide) ?_
      refine lv_iload_n hx hb dX11_power_4 rfl (lv_at hl 0 rfl) ?_
      refine lv_iload_n hx hb dX11_power_5 rfl (lv_at hl 3 rfl) ?_
      refine cn_ge (X := 1) (Y := 3) hx hb dX11_power_6 rfl rfl (by omega) ?_ (tgt := 19) (by decide)
      refine lv_iload_n hx hb dX11_power_9 rfl (lv_at hl 1 rfl) ?_
      refine lv_iload_n hx hb dX11_power_10 rfl (lv_at hl 2 rfl) ?_
      refine lv_imul hx hb dX11_power_11 ?_
      refine tE (y := 9) rfl ?_
      refine lv_istore_n (lv' := [(2, .int 9), (3, .int 1), (0, .int 3), (1, .int 3)]) hx hb dX11_power_12 rfl hl (by decide) rfl (fun ls hl => ?_)
      refine lv_iinc (v := 2) (lv' := [(3, .int 2), (2, .int 9), (0, .int 3), (1, .int 3)]) hx hb dX11_power_13 hl (k := 1) rfl rfl (by decide) rfl (fun ls hl => ?_)
      refine lv_goto (tgt := 4) hx hb dX11_power_16 (by decide) ?_
      refine lv_iload_n hx hb dX11_power_4 rfl (lv_at hl 0 rfl) ?_
      refine lv_iload_n hx hb dX11_power_5 rfl (lv_at hl 3 rfl) ?_
      refine cn_ge (X := 2) (Y := 3) hx hb dX11_power_6 rfl rfl (by omega) ?_ (tgt := 19) (by decide)
      refine lv_iload_n hx hb dX11_power_9 rfl (lv_at hl 1 rfl) ?_
      refine lv_iload_n hx hb dX11_power_10 rfl (lv_at hl 2 rfl) ?_
      refine lv_imul hx hb dX11_power_11 ?_
      refine tE (y := 27) rfl ?_
      refine lv_istore_n (lv' := [(2, .int 27), (3, .int 2), (0, .int 3), (1, .int 3)]) hx hb dX11_power_12 rfl hl (by decide) rfl (fun ls hl => ?_)
      refine lv_iinc (v := 3) (lv' := [(3, .int 3), (2, .int 27), (0, .int 3), (1, .int 3)]) hx hb dX11_power_13 hl (k := 1) rfl rfl (by decide) rfl (fun ls hl => ?_)
      refine lv_goto (tgt := 4) hx hb dX11_power_16 (by decide) ?_
      refine lv_iload_n hx hb dX11_power_4 rfl (lv_at hl 0 rfl) ?_
      refine lv_iload_n hx hb dX11_power_5 rfl (lv_at hl 3 rfl) ?_
      refine ct_ge (tgt := 19) (X := 3) (Y := 3) hx hb dX11_power_6 (by decide) rfl rfl (by omega) ?_
      refine lv_iload_n hx hb dX11_power_19 rfl (lv_at hl 1 rfl) ?_
      refine hret _ _ _ _ _ _ dX11_power_20 rfl ?_ hO
      exact ⟨(by first | decide | omega), rfl⟩
    · have ec4 : x2 = 4 := i32_eq.mpr (by rw [c4]; rfl)
      subst ec4
      refine lv_iconst (v := 0) hx hb dX11_power_2 (by decide) ?_
      refine lv_istore_n (lv' := [(3, .int 0), (2, .int 1), (0, .int 3), (1, .int 4)]) hx hb dX11_power_3 rfl hl (by decide) rfl (fun ls hl => ?_)
      refine lv_iload_n hx hb dX11_power_4 rfl (lv_at hl 0 rfl) ?_
      refine lv_iload_n hx hb dX11_power_5 rfl (lv_at hl 3 rfl) ?_
      refine cn_ge (X := 0) (Y := 4) hx hb dX11_power_6 rfl rfl (by omega) ?_ (tgt := 19) (by decide)
      refine lv_iload_n hx hb dX11_power_9 rfl (lv_at hl 1 rfl) ?_
      refine lv_iload_n hx hb dX11_power_10 rfl (lv_at hl 2 rfl) ?_
      refine lv_imul hx hb dX11_power_11 ?_
      refine tE (y := 3) rfl ?_
      refine lv_istore_n (lv' := [(2, .int 3), (3, .int 0), (0, .int 3), (1, .int 4)]) hx hb dX11_power_12 rfl hl (by decide) rfl (fun ls hl => ?_)
      refine lv_iinc (v := 1) (lv' := [(3, .int 1), (2, .int 3), (0, .int 3), (1, .int 4)]) hx hb dX11_power_13 hl (k := 1) rfl rfl (by decide) rfl (fun ls hl => ?_)
      refine lv_goto (tgt := 4) hx hb dX11_power_16 (by decide) ?_
      refine lv_iload_n hx hb dX11_power_4 rfl (lv_at hl 0 rfl) ?_
      refine lv_iload_n hx hb dX11_power_5 rfl (lv_at hl 3 rfl) ?_
      refine cn_ge (X := 1) (Y := 4) hx hb dX11_power_6 rfl rfl (by omega) ?_ (tgt := 19) (by decide)
      refine lv_iload_n hx hb dX11_power_9 rfl (lv_at hl 1 rfl) ?_
      refine lv_iload_n hx hb dX11_power_10 rfl (lv_at hl 2 rfl) ?_
      refine lv_imul hx hb dX11_power_11 ?_
      refine tE (y := 9) rfl ?_
      refine lv_istore_n (lv' := [(2, .int 9), (3, .int 1), (0, .int 3), (1, .int 4)]) hx hb dX11_power_12 rfl hl (by decide) rfl (fun ls hl => ?_)
      refine lv_iinc (v := 2) (lv' := [(3, .int 2), (2, .int 9), (0, .int 3), (1, .int 4)]) hx hb dX11_power_13 hl (k := 1) rfl rfl (by decide) rfl (fun ls hl => ?_)
      refine lv_goto (tgt := 4) hx hb dX11_power_16 (by decide) ?_
      refine lv_iload_n hx hb dX11_power_4 rfl (lv_at hl 0 rfl) ?_
      refine lv_iload_n hx hb dX11_power_5 rfl (lv_at hl 3 rfl) ?_
      refine cn_ge (X := 2) (Y := 4) hx hb dX11_power_6 rfl rfl (by omega) ?_ (tgt := 19) (by decide)
      refine lv_iload_n hx hb dX11_power_9 rfl (lv_at hl 1 rfl) ?_
      refine lv_iload_n hx hb dX11_power_10 rfl (lv_at hl 2 rfl) ?_
      refine lv_imul hx hb dX11_power_11 ?_
      refine tE (y := 27) rfl ?_
      refine lv_istore_n (lv' := [(2, .int 27), (3, .int 2), (0, .int 3), (1, .int 4)]) hx hb dX11_power_12 rfl hl (by decide) rfl (fun ls hl => ?_)
      refine lv_iinc (v := 3) (lv' := [(3, .int 3), (2, .int 27), (0, .int 3), (1, .int 4)]) hx hb dX11_power_13 hl (k := 1) rfl rfl (by decide) rfl (fun ls hl => ?_)
      refine lv_goto (tgt := 4) hx hb dX11_power_16 (by decide) ?_
      refine lv_iload_n hx hb dX11_power_4 rfl (lv_at hl 0 rfl) ?_
      refine lv_iload_n hx hb dX11_power_5 rfl (lv_at hl 3 rfl) ?_
      refine cn_ge (X := 3) (Y := 4) hx hb dX11_power_6 rfl rfl (by omega) ?_ (tgt := 19) (by decide)
      refine lv_iload_n hx hb dX11_power_9 rfl (lv_at hl 1 rfl) ?_
      refine lv_iload_n hx hb dX11_power_10 rfl (lv_at hl 2 rfl) ?_
      refine lv_imul hx hb dX11_power_11 ?_
      refine tE (y := 81) rfl ?_
      refine lv_istore_n (lv' := [(2, .int 81), (3, .int 3), (0, .int 3), (1, .int 4)]) hx hb dX11_power_12 rfl hl (by decide) rfl (fun ls hl => ?_)
      refine lv_iinc (v := 4) (lv' := [(3, .int 4), (2, .int 81), (0, .int 3), (1, .int 4)]) hx hb dX11_power_13 hl (k := 1) rfl rfl (by decide) rfl (fun ls hl => ?_)
      refine lv_goto (tgt := 4) hx hb dX11_power_16 (by decide) ?_
      refine lv_iload_n hx hb dX11_power_4 rfl (lv_at hl 0 rfl) ?_
      refine lv_iload_n hx hb dX11_power_5 rfl (lv_at hl 3 rfl) ?_
      refine ct_ge (tgt := 19) (X := 4) (Y := 4) hx hb dX11_power_6 (by decide) rfl rfl (by omega) ?_
      refine lv_iload_n hx hb dX11_power_19 rfl (lv_at hl 1 rfl) ?_
      refine hret _ _ _ _ _ _ dX11_power_20 rfl ?_ hO
      exact ⟨(by first | decide | omega), rfl⟩
    · have ec4 : x2 = 5 := i32_eq.mpr (by rw [c4]; rfl)
      subst ec4
      refine lv_iconst (v := 0) hx hb dX11_power_2 (by decide) ?_
      refine lv_istore_n (lv' := [(3, .int 0), (2, .int 1), (0, .int 3), (1, .int 5)]) hx hb dX11_power_3 rfl hl (by decide) rfl (fun ls hl => ?_)
      refine lv_iload_n hx hb dX11_power_4 rfl (lv_at hl 0 rfl) ?_
      refine lv_iload_n hx hb dX11_power_5 rfl (lv_at hl 3 rfl) ?_
      refine cn_ge (X := 0) (Y := 5) hx hb dX11_power_6 rfl rfl (by omega) ?_ (tgt := 19) (by decide)
      refine lv_iload_n hx hb dX11_power_9 rfl (lv_at hl 1 rfl) ?_
      refine lv_iload_n hx hb dX11_power_10 rfl (lv_at hl 2 rfl) ?_
      refine lv_imul hx hb dX11_power_11 ?_
      refine tE (y := 3) rfl ?_
      refine lv_istore_n (lv' := [(2, .int 3), (3, .int 0), (0, .int 3), (1, .int 5)]) hx hb dX11_power_12 rfl hl (by decide) rfl (fun ls hl => ?_)
      refine lv_iinc (v := 1) (lv' := [(3, .int 1), (2, .int 3), (0, .int 3), (1, .int 5)]) hx hb dX11_power_13 hl (k := 1) rfl rfl (by decide) rfl (fun ls hl => ?_)
      refine lv_goto (tgt := 4) hx hb dX11_power_16 (by decide) ?_
      refine lv_iload_n hx hb dX11_power_4 rfl (lv_at hl 0 rfl) ?_
      refine lv_iload_n hx hb dX11_power_5 rfl (lv_at hl 3 rfl) ?_
      refine cn_ge (X := 1) (Y := 5) hx hb dX11_power_6 rfl rfl (by omega) ?_ (tgt := 19) (by decide)
      refine lv_iload_n hx hb dX11_power_9 rfl (lv_at hl 1 rfl) ?_
      refine lv_iload_n hx hb dX11_power_10 rfl (lv_at hl 2 rfl) ?_
      refine lv_imul hx hb dX11_power_11 ?_
      refine tE (y := 9) rfl ?_
      refine lv_istore_n (lv' := [(2, .int 9), (3, .int 1), (0, .int 3), (1, .int 5)]) hx hb dX11_power_12 rfl hl (by decide) rfl (fun ls hl => ?_)
      refine lv_iinc (v := 2) (lv' := [(3, .int 2), (2, .int 9), (0, .int 3), (1, .int 5)]) hx hb dX11_power_13 hl (k := 1) rfl rfl (by decide) rfl (fun ls hl => ?_)
      refine lv_goto (tgt := 4) hx hb dX11_power_16 (by decide) ?_
      refine lv_iload_n hx hb dX11_power_4 rfl (lv_at hl 0 rfl) ?_
      refine lv_iload_n hx hb dX11_power_5 rfl (lv_at hl 3 rfl) ?_
      refine cn_ge (X := 2) (Y := 5) hx hb dX11_power_6 rfl rfl (by omega) ?_ (tgt := 19) (by decide)
      refine lv_iload_n hx hb dX11_power_9 rfl (lv_at hl 1 rfl) ?_
      refine lv_iload_n hx hb dX11_power_10 rfl (lv_at hl 2 rfl) ?_
      refine lv_imul hx hb dX11_power_11 ?_
      refine tE (y := 27) rfl ?_
      refine lv_istore_n (lv' := [(2, .int 27), (3, .int 2), (0, .int 3), (1, .int 5)]) hx hb dX11_power_12 rfl hl (by decide) rfl (fun ls hl => ?_)
      refine lv_iinc (v := 3) (lv' := [(3, .int 3), (2, .int 27), (0, .int 3), (1, .int 5)]) hx hb dX11_power_13 hl (k := 1) rfl rfl (by decide) rfl (fun ls hl => ?_)
      refine lv_goto (tgt := 4) hx hb dX11_power_16 (by decide) ?_
      refine lv_iload_n hx hb dX11_power_4 rfl (lv_at hl 0 rfl) ?_
      refine lv_iload_n hx hb dX11_power_5 rfl (lv_at hl 3 rfl) ?_
      refine cn_ge (X := 3) (Y := 5) hx hb dX11_power_6 rfl rfl (by omega) ?_ (tgt := 19) (by decide)
      refine lv_iload_n hx hb dX11_power_9 rfl (lv_at hl 1 rfl) ?_
      refine lv_iload_n hx hb dX11_power_10 rfl (lv_at hl 2 rfl) ?_
      refine lv_imul hx hb dX11_power_11 ?_
      refine tE (y := 81) rfl ?_
      refine lv_istore_n (lv' := [(2, .int 81), (3, .int 3), (0, .int 3), (1, .int 5)]) hx hb dX11_power_12 rfl hl (by decide) rfl (fun ls hl => ?_)
      refine lv_iinc (v := 4) (lv' := [(3, .int 4), (2, .int 81), (0, .int 3), (1, .int 5)]) hx hb dX11_power_13 hl (k := 1) rfl rfl (by decide) rfl (fun ls hl => ?_)
      refine lv_goto (tgt := 4) hx hb dX11_power_16 (by decide) ?_
      refine lv_iload_n hx hb dX11_power_4 rfl (lv_at hl 0 rfl) ?_
      refine lv_iload_n hx hb dX11_power_5 rfl (lv_at hl 3 rfl) ?_
      refine cn_ge (X := 4) (Y := 5) hx hb dX11_power_6 rfl rfl (by omega) ?_ (tgt := 19) (by decide)
      refine lv_iload_n hx hb dX11_power_9 rfl (lv_at hl 1 rfl) ?_
      refine lv_iload_n hx hb dX11_power_10 rfl (lv_at hl 2 rfl) ?_
      refine lv_imul hx hb dX11_power_11 ?_
      refine tE (y := 243) rfl ?_
      refine lv_istore_n (lv' := [(2, .int 243), (3, .int 4), (0, .int 3), (1, .int 5)]) hx hb dX11_power_12 rfl hl (by decide) rfl (fun ls hl => ?_)
      refine lv_iinc (v := 5) (lv' := [(3, .int 5), (2, .int 243), (0, .int 3), (1, .int 5)]) hx hb dX11_power_13 hl (k := 1) rfl rfl (by decide) rfl (fun ls hl => ?_)
      refine lv_goto (tgt := 4) hx hb dX11_power_16 (by decide) ?_
      refine lv_iload_n hx hb dX11_power_4 rfl (lv_at hl 0 rfl) ?_
      refine lv_iload_n hx hb dX11_power_5 rfl (lv_at hl 3 rfl) ?_
      refine ct_ge (tgt := 19) (X := 5) (Y := 5) hx hb dX11_power_6 (by decide) rfl rfl (by omega) ?_
      refine lv_iload_n hx hb dX11_power_19 rfl (lv_at hl 1 rfl) ?_
      refine hret _ _ _ _ _ _ dX11_power_20 rfl ?_ hO
      exact ⟨(by first | decide | omega), rfl⟩
    · have ec4 : x2 = 6 := i32_eq.mpr (by rw [c4]; rfl)
      subst ec4
      refine lv_iconst (v := 0) hx hb dX11_power_2 (by decide) ?_
      refine lv_istore_n (lv' := [(3, .int 0), (2, .int 1), (0, .int 3), (1, .int 6)]) hx hb dX11_power_3 rfl hl (by decide) rfl (fun ls hl => ?_)
      refine lv_iload_n hx hb dX11_power_4 rfl (lv_at hl 0 rfl) ?_
      refine lv_iload_n hx hb dX11_power_5 rfl (lv_at hl 3 rfl) ?_
      refine cn_ge (X := 0) (Y := 6) hx hb dX11_power_6 rfl rfl (by omega) ?_ (tgt := 19) (by decide)
      refine lv_iload_n hx hb dX11_power_9 rfl (lv_at hl 1 rfl) ?_
      refine lv_iload_n hx hb dX11_power_10 rfl (lv_at hl 2 rfl) ?_
      refine lv_imul hx hb dX11_power_11 ?_
      refine tE (y := 3) rfl ?_
      refine lv_istore_n (lv' := [(2, .int 3), (3, .int 0), (0, .int 3), (1, .int 6)]) hx hb dX11_power_12 rfl hl (by decide) rfl (fun ls hl => ?_)
      refine lv_iinc (v := 1) (lv' := [(3, .int 1), (2, .int 3), (0, .int 3), (1, .int 6)]) hx hb dX11_power_13 hl (k := 1) rfl rfl (by decide) rfl (fun ls hl => ?_)
      refine lv_goto (tgt := 4) hx hb dX11_power_16 (by decide) ?_
      refine lv_iload_n hx hb dX11_power_4 rfl (lv_at hl 0 rfl) ?_
      refine lv_iload_n hx hb dX11_power_5 rfl (lv_at hl 3 rfl) ?_
      refine cn_ge (X := 1) (Y := 6) hx hb dX11_power_6 rfl rfl (by omega) ?_ (tgt := 19) (by decide)
      refine lv_iload_n hx hb dX11_power_9 rfl (lv_at hl 1 rfl) ?_
      refine lv_iload_n hx hb dX11_power_10 rfl (lv_at hl 2 rfl) ?_
      refine lv_imul hx hb dX11_power_11 ?_
      refine tE (y := 9) rfl ?_
      refine lv_istore_n (lv' := [(2, .int 9), (3, .int 1), (0, .int 3), (1, .int 6)]) hx hb dX11_power_12 rfl hl (by decide) rfl (fun ls hl => ?_)
      refine lv_iinc (v := 2) (lv' := [(3, .int 2), (2, .int 9), (0, .int 3), (1, .int 6)]) hx hb dX11_power_13 hl (k := 1) rfl rfl (by decide) rfl (fun ls hl => ?_)
      refine lv_goto (tgt := 4) hx hb dX11_power_16 (by decide) ?_
      refine lv_iload_n hx hb dX11_power_4 rfl (lv_at hl 0 rfl) ?_
      refine lv_iload_n hx hb dX11_power_5 rfl (lv_at hl 3 rfl) ?_
      refine cn_ge (X := 2) (Y := 6) hx hb dX11_power_6 rfl rfl (by omega) ?_ (tgt := 19) (by decide)
      refine lv_iload_n hx hb dX11_power_9 rfl (lv_at hl 1 rfl) ?_
      refine lv_iload_n hx hb dX11_power_10 rfl (lv_at hl 2 rfl) ?_
      refine lv_imul hx hb dX11_power_11 ?_
      refine tE (y := 27) rfl ?_
      refine lv_istore_n (lv' := [(2, .int 27), (3, .int 2), (0, .int 3), (1, .int 6)]) hx hb dX11_power_12 rfl hl (by decide) rfl (fun ls hl => ?_)
      refine lv_iinc (v := 3) (lv' := [(3, .int 3), (2, .int 27), (0, .int 3), (1, .int 6)]) hx hb dX11_power_13 hl (k := 1) rfl rfl (by decide) rfl (fun ls hl => ?_)
      refine lv_goto (tgt := 4) hx hb dX11_power_16 (by decide) ?_
      refine lv_iload_n hx hb dX11_power_4 rfl (lv_at hl 0 rfl) ?_
      refine lv_iload_n hx hb dX11_power_5 rfl (lv_at hl 3 rfl) ?_
      refine cn_ge (X := 3) (Y := 6) hx hb dX11_power_6 rfl rfl (by omega) ?_ (tgt := 19) (by decide)
      refine lv_iload_n hx hb dX11_power_9 rfl (lv_at hl 1 rfl) ?_
      refine lv_iload_n hx hb dX11_power_10 rfl (lv_at hl 2 rfl) ?_
      refine lv_imul hx hb dX11_power_11 ?_
      refine tE (y := 81) rfl ?_
      refine lv_istore_n (lv' := [(2, .int 81), (3, .int 3), (0, .int 3), (1, .int 6)]) hx hb dX11_power_12 rfl hl (by decide) rfl (fun ls hl => ?_)
      refine lv_iinc (v := 4) (lv' := [(3, .int 4), (2, .int 81), (0, .int 3), (1, .int 6)]) hx hb dX11_power_13 hl (k := 1) rfl rfl (by decide) rfl (fun ls hl => ?_)
      refine lv_goto (tgt := 4) hx hb dX11_power_16 (by decide) ?_
      refine lv_iload_n hx hb dX11_power_4 rfl (lv_at hl 0 rfl) ?_
      refine lv_iload_n hx hb dX11_power_5 rfl (lv_at hl 3 rfl) ?_
      refine cn_ge (X := 4) (Y := 6) hx hb dX11_power_6 rfl rfl (by omega) ?_ (tgt := 19) (by decide)
      refine lv_iload_n hx hb dX11_power_9 rfl (lv_at hl 1 rfl) ?_
      refine lv_iload_n hx hb dX11_power_10 rfl (lv_at hl 2 rfl) ?_
      refine lv_imul hx hb dX11_power_11 ?_
      refine tE (y := 243) rfl ?_
      refine lv_istore_n (lv' := [(2, .int 243), (3, .int 4), (0, .int 3), (1, .int 6)]) hx hb dX11_power_12 rfl hl (by decide) rfl (fun ls hl => ?_)
      refine lv_iinc (v := 5) (lv' := [(3, .int 5), (2, .int 243), (0, .int 3), (1, .int 6)]) hx hb dX11_power_13 hl (k := 1) rfl rfl (by decide) rfl (fun ls hl => ?_)
      refine lv_goto (tgt := 4) hx hb dX11_power_16 (by decide) ?_
      refine lv_iload_n hx hb dX11_power_4 rfl (lv_at hl 0 rfl) ?_
      refine lv_iload_n hx hb dX11_power_5 rfl (lv_at hl 3 rfl) ?_
      refine cn_ge (X := 5) (Y := 6) hx hb dX11_power_6 rfl rfl (by omega) ?_ (tgt := 19) (by decide)
      refine lv_iload_n hx hb dX11_power_9 rfl (lv_at hl 1 rfl) ?_
      refine lv_iload_n hx hb dX11_power_10 rfl (lv_at hl 2 rfl) ?_
      refine lv_imul hx hb dX11_power_11 ?_
      refine tE (y := 729) rfl ?_
      refine lv_istore_n (lv' := [(2, .int 729), (3, .int 5), (0, .int 3), (1, .int 6)]) hx hb dX11_power_12 rfl hl (by decide) rfl (fun ls hl => ?_)
      refine lv_iinc (v := 6) (lv' := [(3, .int 6), (2, .int 729), (0, .int 3), (1, .int 6)]) hx hb dX11_power_13 hl (k := 1) rfl rfl (by decide) rfl (fun ls hl => ?_)
      refine lv_goto (tgt := 4) hx hb dX11_power_16 (by decide) ?_
      refine lv_iload_n hx hb dX11_power_4 rfl (lv_at hl 0 rfl) ?_
      refine lv_iload_n hx hb dX11_power_5 rfl (lv_at hl 3 rfl) ?_
      refine ct_ge (tgt := 19) (X := 6) (Y := 6) hx hb dX11_power_6 (by decide) rfl rfl (by omega) ?_
      refine lv_iload_n hx hb dX11_power_19 rfl (lv_at hl 1 rfl) ?_
      refine hret _ _ _ _ _ _ dX11_power_20 rfl ?_ hO
      exact ⟨(by first | decide | omega), rfl⟩
  · have ec1 : x1 = 4 := i32_eq.mpr (by rw [c1]; rfl)
    subst ec1
    refine lv_iconst (v := 1) hx hb dX11_power_0 (by decide) ?_
    refine lv_istore_n (lv' := [(2, .int 1), (0, .int 4), (1, .int x2)]) hx hb dX11_power_1 rfl hl (by decide) rfl (fun ls hl => ?_)
    have c5 : (x2).toInt = 0 ∨ (x2).toInt = 1 ∨ (x2).toInt = 2 ∨ (x2).toInt = 3 ∨ (x2).toInt = 4 ∨ (x2).toInt = 5 ∨ (x2).toInt = 6 := by omega
    rcases c5 with c5 | c5 | c5 | c5 | c5 | c5 | c5
    · have ec5 : x2 = 0 := i32_eq.mpr (by rw [c5]; rfl)
      subst ec5
      refine lv_iconst (v := 0) hx hb dX11_power_2 (by decide) ?_
      refine lv_istore_n (lv' := [(3, .int 0), (2, .int 1), (0, .int 4), (1, .int 0)]) hx hb dX11_power_3 rfl hl (by decide) rfl (fun ls hl => ?_)
      refine lv_iload_n hx hb dX11_power_4 rfl (lv_at hl 0 rfl) ?_
      refine lv_iload_n hx hb dX11_power_5 rfl (lv_at hl 3 rfl) ?_
      refine ct_ge (tgt := 19) (X := 0) (Y := 0) hx hb dX11_power_6 (by decide) rfl rfl (by omega) ?_
      refine lv_iload_n hx hb dX11_power_19 rfl (lv_at hl 1 rfl) ?_
      refine hret _ _ _ _ _ _ dX11_power_20 rfl ?_ hO
      exact ⟨(by first | decide | omega), rfl⟩
    · have ec5 : x2 = 1 := i32_eq.mpr (by rw [c5]; rfl)
      subst ec5
      refine lv_iconst (v := 0) hx hb dX11_power_2 (by decide) ?_
      refine lv_istore_n (lv' := [(3, .int 0), (2, .int 1), (0, .int 4), (1, .int 1)]) hx hb dX11_power_3 rfl hl (by decide) rfl (fun ls hl => ?_)
      refine lv_iload_n hx hb dX11_power_4 rfl (lv_at hl 0 rfl) ?_
      refine lv_iload_n hx hb dX11_power_5 rfl (lv_at hl 3 rfl) ?_
      refine cn_ge (X := 0) (Y := 1) hx hb dX11_power_6 rfl rfl (by omega) ?_ (tgt := 19) (by decide)
      refine lv_iload_n hx hb dX11_power_9 rfl (lv_at hl 1 rfl) ?_
      refine lv_iload_n hx hb dX11_power_10 rfl (lv_at hl 2 rfl) ?_
      refine lv_imul hx hb dX11_power_11 ?_
      refine tE (y := 4) rfl ?_
      refine lv_istore_n (lv' := [(2, .int 4), (3, .int 0), (0, .int 4), (1, .int 1)]) hx hb dX11_power_12 rfl hl (by decide) rfl (fun ls hl => ?_)
      refine lv_iinc (v := 1) (lv' := [(3, .int 1), (2, .int 4), (0, .int 4), (1, .int 1)]) hx hb dX11_power_13 hl (k := 1) rfl rfl (by decide) rfl (fun ls hl => ?_)
      refine lv_goto (tgt := 4) hx hb dX11_power_16 (by decide) ?_
      refine lv_iload_n hx hb dX11_power_4 rfl (lv_at hl 0 rfl) ?_
      refine lv_iload_n hx hb dX11_power_5 rfl (lv_at hl 3 rfl) ?_
      refine ct_ge (tgt := 19) (X := 1) (Y := 1) hx hb dX11_power_6 (by decide) rfl rfl (by omega) ?_
      refine lv_iload_n hx hb dX11_power_19 rfl (lv_at hl 1 rfl) ?_
      refine hret _ _ _ _ _ _ dX11_power_20 rfl ?_ hO
      exact ⟨(by first | decide | omega), rfl⟩
    · have ec5 : x2 = 2 := i32_eq.mpr (by rw [c5]; rfl)
      subst ec5
      refine lv_iconst (v := 0) hx hb dX11_power_2 (by decide) ?_
      refine lv_istore_n (lv' := [(3, .int 0), (2, .int 1), (0, .int 4), (1, .int 2)]) hx hb dX11_power_3 rfl hl (by decide) rfl (fun ls hl => ?_)
      refine lv_iload_n hx hb dX11_power_4 rfl (lv_at hl 0 rfl) ?_
      refine lv_iload_n hx hb dX11_power_5 rfl (lv_at hl 3 rfl) ?_
      refine cn_ge (X := 0) (Y := 2) hx hb dX11_power_6 rfl rfl (by omega) ?_ (tgt := 19) (by decide)
      refine lv_iload_n hx hb dX11_power_9 rfl (lv_at hl 1 rfl) ?_
      refine lv_iload_n hx hb dX11_power_10 rfl (lv_at hl 2 rfl) ?_
      refine lv_imul hx hb dX11_power_11 ?_
      refine tE (y := 4) rfl ?_
      refine lv_istore_n (lv' := [(2, .int 4), (3, .int 0), (0, .int 4), (1, .int 2)]) hx hb dX11_power_12 rfl hl (by decide) rfl (fun ls hl => ?_)
      refine lv_iinc (v := 1) (lv' := [(3, .int 1), (2, .int 4), (0, .int 4), (1, .int 2)]) hx hb dX11_power_13 hl (k := 1) rfl rfl (by decide) rfl (fun ls hl => ?_)
      refine lv_goto (tgt := 4) hx hb dX11_power_16 (by decide) ?_
      refine lv_iload_n hx hb dX11_power_4 rfl (lv_at hl 0 rfl) ?_
      refine lv_iload_n hx hb dX11_power_5 rfl (lv_at hl 3 rfl) ?_
      refine cn_ge (X := 1) (Y := 2) hx hb dX11_power_6 rfl rfl (by omega) ?_ (tgt := 19) (by decide)
      refine lv_iload_n hx hb dX11_power_9 rfl (lv_at hl 1 rfl) ?_
      refine lv_iload_n hx hb dX11_power_10 rfl (lv_at hl 2 rfl) ?_
      refine lv_imul hx hb dX11_power_11 ?_
      refine tE (y := 16) rfl ?_
      refine lv_istore_n (lv' := [(2, .int 16), (3, .int 1), (0, .int 4), (1, .int 2)]) hx hb dX11_power_12 rfl hl (by decide) rfl (fun ls hl => ?_)
      refine lv_iinc (v := 2) (lv' := [(3, .int 2), (2, .int 16), (0, .int 4), (1, .int 2)]) hx hb dX11_power_13 hl (k := 1) rfl rfl (by decide) rfl (fun ls hl => ?_)
      refine lv_goto (tgt := 4) hx hb dX11_power_16 (by decide) ?_
      refine lv_iload_n hx hb dX11_power_4 rfl (lv_at hl 0 rfl) ?_
      refine lv_iload_n hx hb dX11_power_5 rfl (lv_at hl 3 rfl) ?_
      refine ct_ge (tgt := 19) (X := 2) (Y := 2) hx hb dX11_power_6 (by decide) rfl rfl (by omega) ?_
      refine lv_iload_n hx hb dX11_power_19 rfl (lv_at hl 1 rfl) ?_
      refine hret _ _ _ _ _ _ dX11_power_20 rfl ?_ hO
      exact ⟨(by first | decide | omega), rfl⟩
    · have ec5 : x2 = 3 := i32_eq.mpr (by rw [c5]; rfl)
      subst ec5
      refine lv_iconst (v := 0) hx hb dX11_power_2 (by decide) ?_
      refine lv_istore_n (lv' := [(3, .int 0), (2, .int 1), (0, .int 4), (1, .int 3)]) hx hb dX11_power_3 rfl hl (by decide) rfl (fun ls hl => ?_)
      refine lv_iload_n hx hb dX11_power_4 rfl (lv_at hl 0 rfl) ?_
      refine lv_iload_n hx hb dX11_power_5 rfl (lv_at hl 3 rfl) ?_
      refine cn_ge (X := 0) (Y := 3) hx hb dX11_power_6 rfl rfl (by omega) ?_ (tgt := 19) (by decide)
      refine lv_iload_n hx hb dX11_power_9 rfl (lv_at hl 1 rfl) ?_
      refine lv_iload_n hx hb dX11_power_10 rfl (lv_at hl 2 rfl) ?_
      refine lv_imul hx hb dX11_power_11 ?_
      refine tE (y := 4) rfl ?_
      refine lv_istore_n (lv' := [(2, .int 4), (3, .int 0), (0, .int 4), (1, .int 3)]) hx hb dX11_power_12 rfl hl (by decide) rfl (fun ls hl => ?_)
      refine lv_iinc (v := 1) (lv' := [(3, .int 1), (2, .int 4), (0, .int 4), (1, .int 3)]) hx hb dX11_power_13 hl (k := 1) rfl rfl (by decide) rfl (fun ls hl => ?_)
      refine lv_goto (tgt := 4) hx hb dX11_power_16 (by decide) ?_
      refine lv_iload_n hx hb dX11_power_4 rfl (lv_at hl 0 rfl) ?_
      refine lv_iload_n hx hb dX11_power_5 rfl (lv_at hl 3 rfl) ?_
      refine cn_ge (X := 1) (Y := 3) hx hb dX11_power_6 rfl rfl (by omega) ?_ (tgt := 19) (by decide)
      refine lv_iload_n hx hb dX11_power_9 rfl (lv_at hl 1 rfl) ?_
      refine lv_iload_n hx hb dX11_power_10 rfl (lv_at hl 2 rfl) ?_
      refine lv_imul hx hb dX11_power_11 ?_
      refine tE (y := 16) rfl ?_
      refine lv_istore_n (lv' := [(2, .int 16), (3, .int 1), (0, .int 4), (1, .int 3)]) hx hb dX11_power_12 rfl hl (by decide) rfl (fun ls hl => ?_)
      refine lv_iinc (v := 2) (lv' := [(3, .int 2), (2, .int 16), (0, .int 4), (1, .int 3)]) hx hb dX11_power_13 hl (k := 1) rfl rfl (by decide) rfl (fun ls hl => ?_)
      refine lv_goto (tgt := 4) hx hb dX11_power_16 (by decide) ?_
      refine lv_iload_n hx hb dX11_power_4 rfl (lv_at hl 0 rfl) ?_
      refine lv_iload_n hx hb dX11_power_5 rfl (lv_at hl 3 rfl) ?_
      refine cn_ge (X := 2) (Y := 3) hx hb dX11_power_6 rfl rfl (by omega) ?_ (tgt := 19) (by decide)
      refine lv_iload_n hx hb dX11_power_9 rfl (lv_at hl 1 rfl) ?_
      refine lv_iload_n hx hb dX11_power_10 rfl (lv_at hl 2 rfl) ?_
      refine lv_imul hx hb dX11_power_11 ?_
      refine tE (y := 64) rfl ?_
      refine lv_istore_n (lv' := [(2, .int 64), (3, .int 2), (0, .int 4), (1, .int 3)]) hx hb dX11_power_12 rfl hl (by decide) rfl (fun ls hl => ?_)
      refine lv_iinc (v := 3) (lv' := [(3, .int 3), (2, .int 64), (0, .int 4), (1, .int 3)]) hx hb dX11_power_13 hl (k := 1) rfl rfl (by decide) rfl (fun ls hl => ?_)
      refine lv_goto (tgt := 4) hx hb dX11_power_16 (by decide) ?_
      refine lv_iload_n hx hb dX11_power_4 rfl (lv_at hl 0 rfl) ?_
      refine lv_iload_n hx hb dX11_power_5 rfl (lv_at hl 3 rfl) ?_
      refine ct_ge (tgt := 19) (X := 3) (Y := 3) hx hb dX11_power_6 (by decide) rfl rfl (by omega) ?_
      refine lv_iload_n hx hb dX11_power_19 rfl (lv_at hl 1 rfl) ?_
      refine hret _ _ _ _ _ _ dX11_power_20 rfl ?_ hO
      exact ⟨(by first | decide | omega), rfl⟩
    · have ec5 : x2 = 4 := i32_eq.mpr (by rw [c5]; rfl)
      subst ec5
      refine lv_iconst (v := 0) hx hb dX11_power_2 (by decide) ?_
      refine lv_istore_n (lv' := [(3, .int 0), (2, .int 1), (0, .int 4), (1, .int 4)]) hx hb dX11_power_3 rfl hl (by decide) rfl (fun ls hl => ?_)
      refine lv_iload_n hx hb dX11_power_4 rfl (lv_at hl 0 rfl) ?_
      refine lv_iload_n hx hb dX11_power_5 rfl (lv_at hl 3 rfl) ?_
      refine cn_ge (X := 0) (Y := 4) hx hb dX11_power_6 rfl rfl (by omega) ?_ (tgt := 19) (by decide)
      refine lv_iload_n hx hb dX11_power_9 rfl (lv_at hl 1 rfl) ?_
      refine lv_iload_n hx hb dX11_power_10 rfl (lv_at hl 2 rfl) ?_
      refine lv_imul hx hb dX11_power_11 ?_
      refine tE (y := 4) rfl ?_
      refine lv_istore_n (lv' := [(2, .int 4), (3, .int 0), (0, .int 4), (1, .int 4)]) hx hb dX11_power_12 rfl hl (by decide) rfl (fun ls hl => ?_)
      refine lv_iinc (v := 1) (lv' := [(3, .int 1), (2, .int 4), (0, .int 4), (1, .int 4)]) hx hb dX11_power_13 hl (k := 1) rfl rfl (by decide) rfl (fun ls hl => ?_)
      refine lv_goto (tgt := 4) hx hb dX11_power_16 (by decide) ?_
      refine lv_iload_n hx hb dX11_power_4 rfl (lv_at hl 0 rfl) ?_
      refine lv_iload_n hx hb dX11_power_5 rfl (lv_at hl 3 rfl) ?_
      refine cn_ge (X := 1) (Y := 4) hx hb dX11_power_6 rfl rfl (by omega) ?_ (tgt := 19) (by decide)
      refine lv_iload_n hx hb dX11_power_9 rfl (lv_at hl 1 rfl) ?_
      refine lv_iload_n hx hb dX11_power_10 rfl (lv_at hl 2 rfl) ?_
      refine lv_imul hx hb dX11_power_11 ?_
      refine tE (y := 16) rfl ?_
      refine lv_istore_n (lv' := [(2, .int 16), (3, .int 1), (0, .int 4), (1, .int 4)]) hx hb dX11_power_12 rfl hl (by decide) rfl (fun ls hl => ?_)
      refine lv_iinc (v := 2) (lv' := [(3, .int 2), (2, .int 16), (0, .int 4), (1, .int 4)]) hx hb dX11_power_13 hl (k := 1) rfl rfl (by decide) rfl (fun ls hl => ?_)
      refine lv_goto (tgt := 4) hx hb dX11_power_16 (by decide) ?_
      refine lv_iload_n hx hb dX11_power_4 rfl (lv_at hl 0 rfl) ?_
      refine lv_iload_n hx hb dX11_power_5 rfl (lv_at hl 3 rfl) ?_
      refine cn_ge (X := 2) (Y := 4) hx hb dX11_power_6 rfl rfl (by omega) ?_ (tgt := 19) (by decide)
      refine lv_iload_n hx hb dX11_power_9 rfl (lv_at hl 1 rfl) ?_
      refine lv_iload_n hx hb dX11_power_10 rfl (lv_at hl 2 rfl) ?_
      refine lv_imul hx hb dX11_power_11 ?_
      refine tE (y := 64) rfl ?_
      refine lv_istore_n (lv' := [(2, .int 64), (3, .int 2), (0, .int 4), (1, .int 4)]) hx hb dX11_power_12 rfl hl (by decide) rfl (fun ls hl => ?_)
      refine lv_iinc (v := 3) (lv' := [(3, .int 3), (2, .int 64), (0, .int 4), (1, .int 4)]) hx hb dX11_power_13 hl (k := 1) rfl rfl (by decide) rfl (fun ls hl => ?_)
      refine lv_goto (tgt := 4) hx hb dX11_power_16 (by decide) ?_
      refine lv_iload_n hx hb dX11_power_4 rfl (lv_at hl 0 rfl) ?_
      refine lv_iload_n hx hb dX11_power_5 rfl (lv_at hl 3 rfl) ?_
      refine cn_ge (X := 3) (Y := 4) hx hb dX11_power_6 rfl rfl (by omega) ?_ (tgt := 19) (by decide)
      refine lv_iload_n hx hb dX11_power_9 rfl (lv_at hl 1 rfl) ?_
      refine lv_iload_n hx hb dX11_power_10 rfl (lv_at hl 2 rfl) ?_
      refine lv_imul hx hb dX11_power_11 ?_
      refine tE (y := 256) rfl ?_
      refine lv_istore_n (lv' := [(2, .int 256), (3, .int 3), (0, .int 4), (1, .int 4)]) hx hb dX11_power_12 rfl hl (by decide) rfl (fun ls hl => ?_)
      refine lv_iinc (v := 4) (lv' := [(3, .int 4), (2, .int 256), (0, .int 4), (1, .int 4)]) hx hb dX11_power_13 hl (k := 1) rfl rfl (by decide) rfl (fun ls hl => ?_)
      refine lv_goto (tgt := 4) hx hb dX11_power_16 (by decide) ?_
      refine lv_iload_n hx hb dX11_power_4 rfl (lv_at hl 0 rfl) ?_
      refine lv_iload_n hx hb dX11_power_5 rfl (lv_at hl 3 rfl) ?_
      refine ct_ge (tgt := 19) (X := 4) (Y := 4) hx hb dX11_power_6 (by decide) rfl rfl (by omega) ?_
      refine lv_iload_n hx hb dX11_power_19 rfl (lv_at hl 1 rfl) ?_
      refine hret _ _ _ _ _ _ dX11_power_20 rfl ?_ hO
      exact ⟨(by first | decide | omega), rfl⟩
    · have ec5 : x2 = 5 := i32_eq.mpr (by rw [c5]; rfl)
      subst ec5
      refine lv_iconst (v := 0) hx hb dX11_power_2 (by decide) ?_
      refine lv_istore_n (lv' := [(3, .int 0), (2, .int 1), (0, .int 4), (1, .int 5)]) hx hb dX11_power_3 rfl hl (by decide) rfl (fun ls hl => ?_)
      refine lv_iload_n hx hb dX11_power_4 rfl (lv_at hl 0 rfl) ?_
      refine lv_iload_n hx hb dX11_power_5 rfl (lv_at hl 3 rfl) ?_
      refine cn_ge (X := 0) (Y := 5) hx hb dX11_power_6 rfl rfl (by omega) ?_ (tgt := 19) (by decide)
      refine lv_iload_n hx hb dX11_power_9 rfl (lv_at hl 1 rfl) ?_
      refine lv_iload_n hx hb dX11_power_10 rfl (lv_at hl 2 rfl) ?_
      refine lv_imul hx hb dX11_power_11 ?_
      refine tE (y := 4) rfl ?_
      refine lv_istore_n (lv' := [(2, .int 4), (3, .int 0), (0, .int 4), (1, .int 5)]) hx hb dX11_power_12 rfl hl (by decide) rfl (fun ls hl => ?_)
      refine lv_iinc (v := 1) (lv' := [(3, .int 1), (2, .int 4), (0, .int 4), (1, .int 5)]) hx hb dX11_power_13 hl (k := 1) rfl rfl (by decide) rfl (fun ls hl => ?_)
      refine lv_goto (tgt := 4) hx hb dX11_power_16 (by decide) ?_
      refine lv_iload_n hx hb dX11_power_4 rfl (lv_at hl 0 rfl) ?_
      refine lv_iload_n hx hb dX11_power_5 rfl (lv_at hl 3 rfl) ?_
      refine cn_ge (X := 1) (Y := 5) hx hb dX11_power_6 rfl rfl (by omega) ?_ (tgt := 19) (by decide)
      refine lv_iload_n hx hb dX11_power_9 rfl (lv_at hl 1 rfl) ?_
      refine lv_iload_n hx hb dX11_power_10 rfl (lv_at hl 2 rfl) ?_
      refine lv_imul hx hb dX11_power_11 ?_
      refine tE (y := 16) rfl ?_
      refine lv_istore_n (lv' := [(2, .int 16), (3, .int 1), (0, .int 4), (1, .int 5)]) hx hb dX11_power_12 rfl hl (by decide) rfl (fun ls hl => ?_)
      refine lv_iinc (v := 2) (lv' := [(3, .int 2), (2, .int 16), (0, .int 4), (1, .int 5)]) hx hb dX11_power_13 hl (k := 1) rfl rfl (by decide) rfl (fun ls hl => ?_)
      refine lv_goto (tgt := 4) hx hb dX11_power_16 (by decide) ?_
      refine lv_iload_n hx hb dX11_power_4 rfl (lv_at hl 0 rfl) ?_
      refine lv_iload_n hx hb dX11_power_5 rfl (lv_at hl 3 rfl) ?_
      refine cn_ge (X := 2) (Y := 5) hx hb dX11_power_6 rfl rfl (by omega) ?_ (tgt := 19) (by decide)
      refine lv_iload_n hx hb dX11_power_9 rfl (lv_at hl 1 rfl) ?_
      refine lv_iload_n hx hb dX11_power_10 rfl (lv_at hl 2 rfl) ?_
      refine lv_imul hx hb dX11_power_11 ?_
      refine tE (y := 64) rfl ?_
      refine lv_istore_n (lv' := [(2, .int 64), (3, .int 2), (0, .int 4), (1, .int 5)]) hx hb dX11_power_12 rfl hl (by decide) rfl (fun ls hl => ?_)
      refine lv_iinc (v := 3) (lv' := [(3, .int 3), (2, .int 64), (0, .int 4), (1, .int 5)]) hx hb dX11_power_13 hl (k := 1) rfl rfl (by decide) rfl (fun ls hl => ?_)
      refine lv_goto (tgt := 4) hx hb dX11_power_16 (by decide) ?_
      refine lv_iload_n hx hb dX11_power_4 rfl (lv_at hl 0 rfl) ?_
      refine lv_iload_n hx hb dX11_power_5 rfl (lv_at hl 3 rfl) ?_
      refine cn_ge (X := 3) (Y := 5) hx hb dX11_power_6 rfl rfl (by omega) ?_ (tgt := 19) (by decide)
      refine lv_iload_n hx hb dX11_power_9 rfl (lv_at hl 1 rfl) ?_
      refine lv_iload_n hx hb dX11_power_10 rfl (lv_at hl 2 rfl) ?_
      refine lv_imul hx hb dX11_power_11 ?_
      refine tE (y := 256) rfl ?_
      refine lv_istore_n (lv' := [(2, .int 256), (3, .int 3), (0, .int 4), (1, .int 5)]) hx hb dX11_power_12 rfl hl (by decide) rfl (fun ls hl => ?_)
      refine lv_iinc (v := 4) (lv' := [(3, .int 4), (2, .int 256), (0, .int 4), (1, .int 5)]) hx hb dX11_power_13 hl (k := 1) rfl rfl (by decide) rfl (fun ls hl => ?_)
      refine lv_goto (tgt := 4) hx hb dX11_power_16 (by decide) ?_
      refine lv_iload_n hx hb dX11_power_4 rfl (lv_at hl 0 rfl) ?_
      refine lv_iload_n hx hb dX11_power_5 rfl (lv_at hl 3 rfl) ?_
      refine cn_ge (X := 4) (Y := 5) hx hb dX11_power_6 rfl rfl (by omega) ?_ (tgt := 19) (by decide)
      refine lv_iload_n hx hb dX11_power_9 rfl (lv_at hl 1 rfl) ?_
      refine lv_iload_n hx hb dX11_power_10 rfl (lv_at hl 2 rfl) ?_
      refine lv_imul hx hb dX11_power_11 ?_
      refine tE (y := 1024) rfl ?_
      refine lv_istore_n (lv' := [(2, .int 1024), (3, .int 4), (0, .int 4), (1, .int 5)]) hx hb dX11_power_12 rfl hl (by decide) rfl (fun ls hl => ?_)
      refine lv_iinc (v := 5) (lv' := [(3, .int 5), (2, .int 1024), (0, .int 4), (1, .int 5)]) hx hb dX11_power_13 hl (k := 1) rfl rfl (by decide) rfl (fun ls hl => ?_)
      refine lv_goto (tgt := 4) hx hb dX11_power_16 (by decide) ?_
      refine lv_iload_n hx hb dX11_power_4 rfl (lv_at hl 0 rfl) ?_
      refine lv_iload_n hx hb dX11_power_5 rfl (lv_at hl 3 rfl) ?_
      refine ct_ge (tgt := 19) (X := 5) (Y := 5) hx hb dX11_power_6 (by decide) rfl rfl (by omega) ?_
      refine lv_iload_n hx hb dX11_power_19 rfl (lv_at hl 1 rfl) ?_
      refine hret _ _ _ _ _ _ dX11_power_20 rfl ?_ hO
      exact ⟨(by first | decide | omega), rfl⟩
    · have ec5 : x2 = 6 := i32_eq.mpr (by rw [c5]; rfl)
      subst ec5
      refine lv_iconst (v := 0) hx hb dX11_power_2 (by decide) ?_
      refine lv_istore_n (lv' := [(3, .int 0), (2, .int 1), (0, .int 4), (1, .int 6)]) hx hb dX11_power_3 rfl hl (by decide) rfl (fun ls hl => ?_)
      refine lv_iload_n hx hb dX11_power_4 rfl (lv_at hl 0 rfl) ?_
      refine lv_iload_n hx hb dX11_power_5 rfl (lv_at hl 3 rfl) ?_
      refine cn_ge (X := 0) (Y := 6) hx hb dX11_power_6 rfl rfl (by omega) ?_ (tgt := 19) (by decide)
      refine lv_iload_n hx hb dX11_power_9 rfl (lv_at hl 1 rfl) ?_
      refine lv_iload_n hx hb dX11_power_10 rfl (lv_at hl 2 rfl) ?_
      refine lv_imul hx hb dX11_power_11 ?_
      refine tE (y := 4) rfl ?_
      refine lv_istore_n (lv' := [(2, .int 4), (3, .int 0), (0, .int 4), (1, .int 6)]) hx hb dX11_power_12 rfl hl (by decide) rfl (fun ls hl => ?_)
      refine lv_iinc (v := 1) (lv' := [(3, .int 1), (2, .int 4), (0, .int 4), (1, .int 6)]) hx hb dX11_power_13 hl (k := 1) rfl rfl (by decide) rfl (fun ls hl => ?_)
      refine lv_goto (tgt := 4) hx hb dX11_power_16 (by decide) ?_
      refine lv_iload_n hx hb dX11_power_4 rfl (lv_at hl 0 rfl) ?_
      refine lv_iload_n hx hb dX11_power_5 rfl (lv_at hl 3 rfl) ?_
      refine cn_ge (X := 1) (Y := 6) hx hb dX11_power_6 rfl rfl (by omega) ?_ (tgt := 19) (by decide)
      refine lv_iload_n hx hb dX11_power_9 rfl (lv_at hl 1 rfl) ?_
      refine lv_iload_n hx hb dX11_power_10 rfl (lv_at hl 2 rfl) ?_
      refine lv_imul hx hb dX11_power_11 ?_
      refine tE (y := 16) rfl ?_
      refine lv_istore_n (lv' := [(2, .int 16), (3, .int 1), (0, .int 4), (1, .int 6)]) hx hb dX11_power_12 rfl hl (by decide) rfl (fun ls hl => ?_)
      refine lv_iinc (v := 2) (lv' := [(3, .int 2), (2, .int 16), (0, .int 4), (1, .int 6)]) hx hb dX11_power_13 hl (k := 1) rfl rfl (by decide) rfl (fun ls hl => ?_)
      refine lv_goto (tgt := 4) hx hb dX11_power_16 (by decide) ?_
      refine lv_iload_n hx hb dX11_power_4 rfl (lv_at hl 0 rfl) ?_
      refine lv_iload_n hx hb dX11_power_5 rfl (lv_at hl 3 rfl) ?_
      refine cn_ge (X := 2) (Y := 6) hx hb dX11_power_6 rfl rfl (by omega) ?_ (tgt := 19) (by decide)
      refine lv_iload_n hx hb dX11_power_9 rfl (lv_at hl 1 rfl) ?_
      refine lv_iload_n hx hb dX11_power_10 rfl (lv_at hl 2 rfl) ?_
      refine lv_imul hx hb dX11_power_11 ?_
      refine tE (y := 64) rfl ?_
      refine lv_istore_n (lv' := [(2, .int 64), (3, .int 2), (0, .int 4), (1, .int 6)]) hx hb dX11_power_12 rfl hl (by decide) rfl (fun ls hl => ?_)
      refine lv_iinc (v := 3) (lv' := [(3, .int 3), (2, .int 64), (0, .int 4), (1, .int 6)]) hx hb dX11_power_13 hl (k := 1) rfl rfl (by decide) rfl (fun ls hl => ?_)
      refine lv_goto (tgt := 4) hx hb dX11_power_16 (by decide) ?_
      refine lv_iload_n hx hb dX11_power_4 rfl (lv_at hl 0 rfl) ?_
      refine lv_iload_n hx hb dX11_power_5 rfl (lv_at hl 3 rfl) ?_
      refine cn_ge (X := 3) (Y := 6) hx hb dX11_power_6 rfl rfl (by omega) ?_ (tgt := 19) (by decide)
      refine lv_iload_n hx hb dX11_power_9 rfl (lv_at hl 1 rfl) ?_
      refine lv_iload_n hx hb dX11_power_10 rfl (lv_at hl 2 rfl) ?_
      refine lv_imul hx hb dX11_power_11 ?_
      refine tE (y := 256) rfl ?_
      refine lv_istore_n (lv' := [(2, .int 256), (3, .int 3), (0, .int 4), (1, .int 6)]) hx hb dX11_power_12 rfl hl (by decide) rfl (fun ls hl => ?_)
      refine lv_iinc (v := 4) (lv' := [(3, .int 4), (2, .int 256), (0, .int 4), (1, .int 6)]) hx hb dX11_power_13 hl (k := 1) rfl rfl (by decide) rfl (fun ls hl => ?_)
      refine lv_goto (tgt := 4) hx hb dX11_power_16 (by decide) ?_
      refine lv_iload_n hx hb dX11_power_4 rfl (lv_at hl 0 rfl) ?_
      refine lv_iload_n hx hb dX11_power_5 rfl (lv_at hl 3 rfl) ?_
      refine cn_ge (X := 4) (Y := 6) hx hb dX11_power_6 rfl rfl (by omega) ?_ (tgt := 19) (by decide)
      refine lv_iload_n hx hb dX11_power_9 rfl (lv_at hl 1 rfl) ?_
      refine lv_iload_n hx hb dX11_power_10 rfl (lv_at hl 2 rfl) ?_
      refine lv_imul hx hb dX11_power_11 ?_
      refine tE (y := 1024) rfl ?_
      refine lv_istore_n (lv' := [(2, .int 1024), (3, .int 4), (0, .int 4), (1, .int 6)]) hx hb dX11_power_12 rfl hl (by decide) rfl (fun ls hl => ?_)
      refine lv_iinc (v := 5) (lv' := [(3, .int 5), (2, .int 1024), (0, .int 4), (1, .int 6)]) hx hb dX11_power_13 hl (k := 1) rfl rfl (by decide) rfl (fun ls hl => ?_)
      refine lv_goto (tgt := 4) hx hb dX11_power_16 (by decide) ?_
      refine lv_iload_n hx hb dX11_power_4 rfl (lv_at hl 0 rfl) ?_
      refine lv_iload_n hx hb dX11_power_5 rfl (lv_at hl 3 rfl) ?_
      refine cn_ge (X := 5) (Y := 6) hx hb dX11_power_6 rfl rfl (by omega) ?_ (tgt := 19) (by decide)
      refine lv_iload_n hx hb dX11_power_9 rfl (lv_at hl 1 rfl) ?_
      refine lv_iload_n hx hb dX11_power_10 rfl (lv_at hl 2 rfl) ?_
      refine lv_imul hx hb dX11_power_11 ?_
      refine tE (y := 4096) rfl ?_
      refine lv_istore_n (lv' := [(2, .int 4096), (3, .int 5), (0, .int 4), (1, .int 6)]) hx hb dX11_power_12 rfl hl (by decide) rfl (fun ls hl => ?_)
      refine lv_iinc (v := 6) (lv' := [(3, .int 6), (2, .int 4096), (0, .int 4), (1, .int 6)]) hx hb dX11_power_13 hl (k := 1) rfl rfl (by decide) rfl (fun ls hl => ?_)
      refine lv_goto (tgt := 4) hx hb dX11_power_16 (by decide) ?_
      refine lv_iload_n hx hb dX11_power_4 rfl (lv_at hl 0 rfl) ?_
      refine lv_iload_n hx hb dX11_power_5 rfl (lv_at hl 3 rfl) ?_
      refine ct_ge (tgt := 19) (X := 6) (Y := 6) hx hb dX11_power_6 (by decide) rfl rfl (by omega) ?_
      refine lv_iload_n hx hb dX11_power_19 rfl (lv_at hl 1 rfl) ?_
      refine hret _ _ _ _ _ _ dX11_power_20 rfl ?_ hO
      exact ⟨(by first | decide | omega), rfl⟩
  · have ec1 : x1 = 5 := i32_eq.mpr (by rw [c1]; rfl)
    subst ec1
    refine lv_iconst (v := 1) hx hb dX11_power_0 (by decide) ?_
    refine lv_istore_n (lv' := [(2, .int 1), (0, .int 5), (1, .int x2)]) hx hb dX11_power_1 rfl hl (by decide) rfl (fun ls hl => ?_)
    have c6 : (x2).toInt = 0 ∨ (x2).toInt = 1 ∨ (x2).toInt = 2 ∨ (x2).toInt = 3 ∨ (x2).toInt = 4 ∨ (x2).toInt = 5 ∨ (x2).toInt = 6 := by omega
    rcases c6 with c6 | c6 | c6 | c6 | c6 | c6 | c6
    · have ec6 : x2 = 0 := i32_eq.mpr (by rw [c6]; rfl)
      subst ec6
      refine lv_iconst (v := 0) hx hb dX11_power_2 (by decide) ?_
      refine lv_istore_n (lv' := [(3, .int 0), (2, .int 1), (0, .int 5), (1, .int 0)]) hx hb dX11_power_3 rfl hl (by decide) rfl (fun ls hl => ?_)
      refine lv_iload_n hx hb dX11_power_4 rfl (lv_at hl 0 rfl) ?_
      refine lv_iload_n hx hb dX11_power_5 rfl (lv_at hl 3 rfl) ?_
      refine ct_ge (tgt := 19) (X := 0) (Y := 0) hx hb dX11_power_6 (by decide) rfl rfl (by omega) ?_
      refine lv_iload_n hx hb dX11_power_19 rfl (lv_at hl 1 rfl) ?_
      refine hret _ _ _ _ _ _ dX11_power_20 rfl ?_ hO
      exact ⟨(by first | decide | omega), rfl⟩
    · have ec6 : x2 = 1 := i32_eq.mpr (by rw [c6]; rfl)
      subst ec6
      refine lv_iconst (v := 0) hx hb dX11_power_2 (by decide) ?_
      refine lv_istore_n (lv' := [(3, .int 0), (2, .int 1), (0, .int 5), (1, .int 1)]) hx hb dX11_power_3 rfl hl (by decide) rfl (fun ls hl => ?_)
      refine lv_iload_n hx hb dX11_power_4 rfl (lv_at hl 0 rfl) ?_
      refine lv_iload_n hx hb dX11_power_5 rfl (lv_at hl 3 rfl) ?_
      refine cn_ge (X := 0) (Y := 1) hx hb dX11_power_6 rfl rfl (by omega) ?_ (tgt := 19) (by decide)
      refine lv_iload_n hx hb dX11_power_9 rfl (lv_at hl 1 rfl) ?_
      refine lv_iload_n hx hb dX11_power_10 rfl (lv_at hl 2 rfl) ?_
      refine lv_imul hx hb dX11_power_11 ?_
      refine tE (y := 5) rfl ?_
      refine lv_istore_n (lv' := [(2, .int 5), (3, .int 0), (0, .int 5), (1, .int 1)]) hx hb dX11_power_12 rfl hl (by decide) rfl (fun ls hl => ?_)
      refine lv_iinc (v := 1) (lv' := [(3, .int 1), (2, .int 5), (0, .int 5), (1, .int 1)]) hx hb dX11_power_13 hl (k := 1) rfl rfl (by decide) rfl (fun ls hl => ?_)
      refine lv_goto (tgt := 4) hx hb dX11_power_16 (by decide) ?_
      refine lv_iload_n hx hb dX11_power_4 rfl (lv_at hl 0 rfl) ?_
      refine lv_iload_n hx hb dX11_power_5 rfl (lv_at hl 3 rfl) ?_
      refine ct_ge (tgt := 19) (X := 1) (Y := 1) hx hb dX11_power_6 (by decide) rfl rfl (by omega) ?_
      refine lv_iload_n hx hb dX11_power_19 rfl (lv_at hl 1 rfl) ?_
      refine hret _ _ _ _ _ _ dX11_power_20 rfl ?_ hO
      exact ⟨(by first | decide | omega), rfl⟩
    · have ec6 : x2 = 2 := i32_eq.mpr (by rw [c6]; rfl)
      subst ec6
      refine lv_iconst (v := 0) hx hb dX11_power_2 (by decide) ?_
      refine lv_istore_n (lv' := [(3, .int 0), (2, .int 1), (0, .int 5), (1, .int 2)]) hx hb dX11_power_3 rfl hl (by decide) rfl (fun ls hl => ?_)
      refine lv_iload_n hx hb dX11_power_4 rfl (lv_at hl 0 rfl) ?_
      refine lv_iload_n hx hb dX11_power_5 rfl (lv_at hl 3 rfl) ?_
      refine cn_ge (X := 0) (Y := 2) hx hb dX11_power_6 rfl rfl (by omega) ?_ (tgt := 19) (by decide)
      refine lv_iload_n hx hb dX11_power_9 rfl (lv_at hl 1 rfl) ?_
      refine lv_iload_n hx hb dX11_power_10 rfl (lv_at hl 2 rfl) ?_
      refine lv_imul hx hb dX11_power_11 ?_
      refine tE (y := 5) rfl ?_
      refine lv_istore_n (lv' := [(2, .int 5), (3, .int 0), (0, .int 5), (1, .int 2)]) hx hb dX11_power_12 rfl hl (by decide) rfl (fun ls hl => ?_)
      refine lv_iinc (v := 1) (lv' := [(3, .int 1), (2, .int 5), (0, .int 5), (1, .int 2)]) hx hb dX11_power_13 hl (k := 1) rfl rfl (by decide) rfl (fun ls hl => ?_)
      refine lv_goto (tgt := 4) hx hb dX11_power_16 (by decide) ?_
      refine lv_iload_n hx hb dX11_power_4 rfl (lv_at hl 0 rfl) ?_
      refine lv_iload_n hx hb dX11_power_5 rfl (lv_at hl 3 rfl) ?_
      refine cn_ge (X := 1) (Y := 2) hx hb dX11_power_6 rfl rfl (by omega) ?_ (tgt := 19) (by decide)
      refine lv_iload_n hx hb dX11_power_9 rfl (lv_at hl 1 rfl) ?_
      refine lv_iload_n hx hb dX11_power_10 rfl (lv_at hl 2 rfl) ?_
      refine lv_imul hx hb dX11_power_11 ?_
      refine tE (y := 25) rfl ?_
      refine lv_istore_n (lv' := [(2, .int 25), (3, .int 1), (0, .int 5), (1, .int 2)]) hx hb dX11_power_12 rfl hl (by decide) rfl (fun ls hl => ?_)
      refine lv_iinc (v := 2) (lv' := [(3, .int 2), (2, .int 25), (0, .int 5), (1, .int 2)]) hx hb dX11_power_13 hl (k := 1) rfl rfl (by decide) rfl (fun ls hl => ?_)
      refine lv_goto (tgt := 4) hx hb dX11_power_16 (by decide) ?_
      refine lv_iload_n hx hb dX11_power_4 rfl (lv_at hl 0 rfl) ?_
      refine lv_iload_n hx hb dX11_power_5 rfl (lv_at hl 3 rfl) ?_
      refine ct_ge (tgt := 19) (X := 2) (Y := 2) hx hb dX11_power_6 (by decide) rfl rfl (by omega) ?_
      refine lv_iload_n hx hb dX11_power_19 rfl (lv_at hl 1 rfl) ?_
      refine hret _ _ _ _ _ _ dX11_power_20 rfl ?_ hO
      exact ⟨(by first | decide | omega), rfl⟩
    · have ec6 : x2 = 3 := i32_eq.mpr (by rw [c6]; rfl)
      subst ec6
      refine lv_iconst (v := 0) hx hb dX11_power_2 (by decide) ?_
      refine lv_istore_n (lv' := [(3, .int 0), (2, .int 1), (0, .int 5), (1, .int 3)]) hx hb dX11_power_3 rfl hl (by decide) rfl (fun ls hl => ?_)
      refine lv_iload_n hx hb dX11_power_4 rfl (lv_at hl 0 rfl) ?_
      refine lv_iload_n hx hb dX11_power_5 rfl (lv_at hl 3 rfl) ?_
      refine cn_ge (X := 0) (Y := 3) hx hb dX11_power_6 rfl rfl (by omega) ?_ (tgt := 19) (by decide)
      refine lv_iload_n hx hb dX11_power_9 rfl (lv_at hl 1 rfl) ?_
      refine lv_iload_n hx hb dX11_power_10 rfl (lv_at hl 2 rfl) ?_
      refine lv_imul hx hb dX11_power_11 ?_
      refine tE (y := 5) rfl ?_
      refine lv_istore_n (lv' := [(2, .int 5), (3, .int 0), (0, .int 5), (1, .int 3)]) hx hb dX11_power_12 rfl hl (by decide) rfl (fun ls hl => ?_)
      refine lv_iinc (v := 1) (lv' := [(3, .int 1), (2, .int 5), (0, .int 5), (1, .int 3)]) hx hb dX11_power_13 hl (k := 1) rfl rfl (by decide) rfl (fun ls hl => ?_)
      refine lv_goto (tgt := 4) hx hb dX11_power_16 (by decide) ?_
      refine lv_iload_n hx hb dX11_power_4 rfl (lv_at hl 0 rfl) ?_
      refine lv_iload_n hx hb dX11_power_5 rfl (lv_at hl 3 rfl) ?_
      refine cn_ge (X := 1) (Y := 3) hx hb dX11_power_6 rfl rfl (by omega) ?_ (tgt := 19) (by decide)
      refine lv_iload_n hx hb dX11_power_9 rfl (lv_at hl 1 rfl) ?_
      refine lv_iload_n hx hb dX11_power_10 rfl (lv_at hl 2 rfl) ?_
      refine lv_imul hx hb dX11_power_11 ?_
      refine tE (y := 25) rfl ?_
      refine lv_istore_n (lv' := [(2, .int 25), (3, .int 1), (0, .int 5), (1, .int 3)]) hx hb dX11_power_12 rfl hl (by decide) rfl (fun ls hl => ?_)
      refine lv_iinc (v := 2) (lv' := [(3, .int 2), (2, .int 25), (0, .int 5), (1, .int 3)]) hx hb dX11_power_13 hl (k := 1) rfl rfl (by decide) rfl (fun ls hl => ?_)
      refine lv_goto (tgt := 4) hx hb dX11_power_16 (by decide) ?_
      refine lv_iload_n hx hb dX11_power_4 rfl (lv_at hl 0 rfl) ?_
      refine lv_iload_n hx hb dX11_power_5 rfl (lv_at hl 3 rfl) ?_
      refine cn_ge (X := 2) (Y := 3) hx hb dX11_power_6 rfl rfl (by omega) ?_ (tgt := 19) (by decide)
      refine lv_iload_n hx hb dX11_power_9 rfl (lv_at hl 1 rfl) ?_
      refine lv_iload_n hx hb dX11_power_10 rfl (lv_at hl 2 rfl) ?_
      refine lv_imul hx hb dX11_power_11 ?_
      refine tE (y := 125) rfl ?_
      refine lv_istore_n (lv' := [(2, .int 125), (3, .int 2), (0, .int 5), (1, .int 3)]) hx hb dX11_power_12 rfl hl (by decide) rfl (fun ls hl => ?_)
      refine lv_iinc (v := 3) (lv' := [(3, .int 3), (2, .int 125), (0, .int 5), (1, .int 3)]) hx hb dX11_power_13 hl (k := 1) rfl rfl (by decide) rfl (fun ls hl => ?_)
      refine lv_goto (tgt := 4) hx hb dX11_power_16 (by decide) ?_
      refine lv_iload_n hx hb dX11_power_4 rfl (lv_at hl 0 rfl) ?_
      refine lv_iload_n hx hb dX11_power_5 rfl (lv_at hl 3 rfl) ?_
      refine ct_ge (tgt := 19) (X := 3) (Y := 3) hx hb dX11_power_6 (by decide) rfl rfl (by omega) ?_
      refine lv_iload_n hx hb dX11_power_19 rfl (lv_at hl 1 rfl) ?_
      refine hret _ _ _ _ _ _ dX11_power_20 rfl ?_ hO
      exact ⟨(by first | decide | omega), rfl⟩
    · have ec6 : x2 = 4 := i32_eq.mpr (by rw [c6]; rfl)
      subst ec6
      refine lv_iconst (v := 0) hx hb dX11_power_2 (by decide) ?_
      refine lv_istore_n (lv' := [(3, .int 0), (2, .int 1), (0, .int 5), (1, .int 4)]) hx hb dX11_power_3 rfl hl (by decide) rfl (fun ls hl => ?_)
      refine lv_iload_n hx hb dX11_power_4 rfl (lv_at hl 0 rfl) ?_
      refine lv_iload_n hx hb dX11_power_5 rfl (lv_at hl 3 rfl) ?_
      refine cn_ge (X := 0) (Y := 4) hx hb dX11_power_6 rfl rfl (by omega) ?_ (tgt := 19) (by decide)
      refine lv_iload_n hx hb dX11_power_9 rfl (lv_at hl 1 rfl) ?_
      refine lv_iload_n hx hb dX11_power_10 rfl (lv_at hl 2 rfl) ?_
      refine lv_imul hx hb dX11_power_11 ?_
      refine tE (y := 5) rfl ?_
      refine lv_istore_n (lv' := [(2, .int 5), (3, .int 0), (0, .int 5), (1, .int 4)]) hx hb dX11_power_12 rfl hl (by decide) rfl (fun ls hl => ?_)
      refine lv_iinc (v := 1) (lv' := [(3, .int 1), (2, .int 5), (0, .int 5), (1, .int 4)]) hx hb dX11_power_13 hl (k := 1) rfl rfl (by decide) rfl (fun ls hl => ?_)
      refine lv_goto (tgt := 4) hx hb dX11_power_16 (by decide) ?_
      refine lv_iload_n hx hb dX11_power_4 rfl (lv_at hl 0 rfl) ?_
      refine lv_iload_n hx hb dX11_power_5 rfl (lv_at hl 3 rfl) ?_
      refine cn_ge (X := 1) (Y := 4) hx hb dX11_power_6 rfl rfl (by omega) ?_ (tgt := 19) (by decide)
      refine lv_iload_n hx hb dX11_power_9 rfl (lv_at hl 1 rfl) ?_
      refine lv_iload_n hx hb dX11_power_10 rfl (lv_at hl 2 rfl) ?_
      refine lv_imul hx hb dX11_power_11 ?_
      refine tE (y := 25) rfl ?_
      refine lv_istore_n (lv' := [(2, .int 25), (3, .int 1), (0, .int 5), (1, .int 4)]) hx hb dX11_power_12 rfl hl (by decide) rfl (fun ls hl => ?_)
      refine lv_iinc (v := 2) (lv' := [(3, .int 2), (2, .int 25), (0, .int 5), (1, .int 4)]) hx hb dX11_power_13 hl (k := 1) rfl rfl (by decide) rfl (fun ls hl => ?_)
      refine lv_goto (tgt := 4) hx hb dX11_power_16 (by decide) ?_
      refine lv_iload_n hx hb dX11_power_4 rfl (lv_at hl 0 rfl) ?_
      refine lv_iload_n hx hb dX11_power_5 rfl (lv_at hl 3 rfl) ?_
      refine cn_ge (X := 2) (Y := 4) hx hb dX11_power_6 rfl rfl (by omega) ?_ (tgt := 19) (by decide)
      refine lv_iload_n hx hb dX11_power_9 rfl (lv_at hl 1 rfl) ?_
      refine lv_iload_n hx hb dX11_power_10 rfl (lv_at hl 2 rfl) ?_
      refine lv_imul hx hb dX11_power_11 ?_
      refine tE (y := 125) rfl ?_
      refine lv_istore_n (lv' := [(2, .int 125), (3, .int 2), (0, .int 5), (1, .int 4)]) hx hb dX11_power_12 rfl hl (by decide) rfl (fun ls hl => ?_)
      refine lv_iinc (v := 3) (lv' := [(3, .int 3), (2, .int 125), (0, .int 5), (1, .int 4)]) hx hb dX11_power_13 hl (k := 1) rfl rfl (by decide) rfl (fun ls hl => ?_)
      refine lv_goto (tgt := 4) hx hb dX11_power_16 (by decide) ?_
      refine lv_iload_n hx hb dX11_power_4 rfl (lv_at hl 0 rfl) ?_
      refine lv_iload_n hx hb dX11_power_5 rfl (lv_at hl 3 rfl) ?_
      refine cn_ge (X := 3) (Y := 4) hx hb dX11_power_6 rfl rfl (by omega) ?_ (tgt := 19) (by decide)
      refine lv_iload_n hx hb dX11_power_9 rfl (lv_at hl 1 rfl) ?_
      refine lv_iload_n hx hb dX11_power_10 rfl (lv_at hl 2 rfl) ?_
      refine lv_imul hx hb dX11_power_11 ?_
      refine tE (y := 625) rfl ?_
      refine lv_istore_n (lv' := [(2, .int 625), (3, .int 3), (0, .int 5), (1, .int 4)]) hx hb dX11_power_12 rfl hl (by decide) rfl (fun ls hl => ?_)
      refine lv_iinc (v := 4) (lv' := [(3, .int 4), (2, .int 625), (0, .int 5), (1, .int 4)]) hx hb dX11_power_13 hl (k := 1) rfl rfl (by decide) rfl (fun ls hl => ?_)
      refine lv_goto (tgt := 4) hx hb dX11_power_16 (by decide) ?_
      refine lv_iload_n hx hb dX11_power_4 rfl (lv_at hl 0 rfl) ?_
      refine lv_iload_n hx hb dX11_power_5 rfl (lv_at hl 3 rfl) ?_
      refine ct_ge (tgt := 19) (X := 4) (Y := 4) hx hb dX11_power_6 (by decide) rfl rfl (by omega) ?_
      refine lv_iload_n hx hb dX11_power_19 rfl (lv_at hl 1 rfl) ?_
      refine hret _ _ _ _ _ _ dX11_power_20 rfl ?_ hO
      exact ⟨(by first | decide | omega), rfl⟩
    · have ec6 : x2 = 5 := i32_eq.mpr (by rw [c6]; rfl)
      subst ec6
      refine lv_iconst (v := 0) hx hb dX11_power_2 (by decide) ?_
      refine lv_istore_n (lv' := [(3, .int 0), (2, .int 1), (0, .int 5), (1, .int 5)]) hx hb dX11_power_3 rfl hl (by decide) rfl (fun ls hl => ?_)
      refine lv_iload_n hx hb dX11_power_4 rfl (lv_at hl 0 rfl) ?_
      refine lv_iload_n hx hb dX11_power_5 rfl (lv_at hl 3 rfl) ?_
      refine cn_ge (X := 0) (Y := 5) hx hb dX11_power_6 rfl rfl (by omega) ?_ (tgt := 19) (by decide)
      refine lv_iload_n hx hb dX11_power_9 rfl (lv_at hl 1 rfl) ?_
      refine lv_iload_n hx hb dX11_power_10 rfl (lv_at hl 2 rfl) ?_
      refine lv_imul hx hb dX11_power_11 ?_
      refine tE (y := 5) rfl ?_
      refine lv_istore_n (lv' := [(2, .int 5), (3, .int 0), (0, .int 5), (1, .int 5)]) hx hb dX11_power_12 rfl hl (by decide) rfl (fun ls hl => ?_)
      refine lv_iinc (v := 1) (lv' := [(3, .int 1), (2, .int 5), (0, .int 5), (1, .int 5)]) hx hb dX11_power_13 hl (k := 1) rfl rfl (by decide) rfl (fun ls hl => ?_)
      refine lv_goto (tgt := 4) hx hb dX11_power_16 (by decide) ?_
      refine lv_iload_n hx hb dX11_power_4 rfl (lv_at hl 0 rfl) ?_
      refine lv_iload_n hx hb dX11_power_5 rfl (lv_at hl 3 rfl) ?_
      refine cn_ge (X := 1) (Y := 5) hx hb dX11_power_6 rfl rfl (by omega) ?_ (tgt := 19) (by decide)
      refine lv_iload_n hx hb dX11_power_9 rfl (lv_at hl 1 rfl) ?_
      refine lv_iload_n hx hb dX11_power_10 rfl (lv_at hl 2 rfl) ?_
      refine lv_imul hx hb dX11_power_11 ?_
      refine tE (y := 25) rfl ?_
      refine lv_istore_n (lv' := [(2, .int 25), (3, .int 1), (0, .int 5), (1, .int 5)]) hx hb dX11_power_12 rfl hl (by decide) rfl (fun ls hl => ?_)
      refine lv_iinc (v := 2) (lv' := [(3, .int 2), (2, .int 25), (0, .int 5), (1, .int 5)]) hx hb dX11_power_13 hl (k := 1) rfl rfl (by decide) rfl (fun ls hl => ?_)
      refine lv_goto (tgt := 4) hx hb dX11_power_16 (by decide) ?_
      refine lv_iload_n hx hb dX11_power_4 rfl (lv_at hl 0 rfl) ?_
      refine lv_iload_n hx hb dX11_power_5 rfl (lv_at hl 3 rfl) ?_
      refine cn_ge (X := 2) (Y := 5) hx hb dX11_power_6 rfl rfl (by omega) ?_ (tgt := 19) (by decide)
      refine lv_iload_n hx hb dX11_power_9 rfl (lv_at hl 1 rfl) ?_
      refine lv_iload_n hx hb dX11_power_10 rfl (lv_at hl 2 rfl) ?_
      refine lv_imul hx hb dX11_power_11 ?_
      refine tE (y := 125) rfl ?_
      refine lv_istore_n (lv' := [(2, .int 125), (3, .int 2), (0, .int 5), (1, .int 5)]) hx hb dX11_power_12 rfl hl (by decide) rfl (fun ls hl => ?_)
      refine lv_iinc (v := 3) (lv' := [(3, .int 3), (2, .int 125), (0, .int 5), (1, .int 5)]) hx hb dX11_power_13 hl (k := 1) rfl rfl (by decide) rfl (fun ls hl => ?_)
      refine lv_goto (tgt := 4) hx hb dX11_power_16 (by decide) ?_
      refine lv_iload_n hx hb dX11_power_4 rfl (lv_at hl 0 rfl) ?_
      refine lv_iload_n hx hb dX11_power_5 rfl (lv_at hl 3 rfl) ?_
      refine cn_ge (X := 3) (Y := 5) hx hb dX11_power_6 rfl rfl (by omega) ?_ (tgt := 19) (by decide)
      refine lv_iload_n hx hb dX11_power_9 rfl (lv_at hl 1 rfl) ?_
      refine lv_iload_n hx hb dX11_power_10 rfl (lv_at hl 2 rfl) ?_
      refine lv_imul hx hb dX11_power_11 ?_
      refine tE (y := 625) rfl ?_
      refine lv_istore_n (lv' := [(2, .int 625), (3, .int 3), (0, .int 5), (1, .int 5)]) hx hb dX11_power_12 rfl hl (by decide) rfl (fun ls hl => ?_)
      refine lv_iinc (v := 4) (lv' := [(3, .int 4), (2, .int 625), (0, .int 5), (1, .int 5)]) hx hb dX11_power_13 hl (k := 1) rfl rfl (by decide) rfl (fun ls hl => ?_)
      refine lv_goto (tgt := 4) hx hb dX11_power_16 (by decide) ?_
      refine lv_iload_n hx hb dX11_power_4 rfl (lv_at hl 0 rfl) ?_
      refine lv_iload_n hx hb dX11_power_5 rfl (lv_at hl 3 rfl) ?_
      refine cn_ge (X := 4) (Y := 5) hx hb dX11_power_6 rfl rfl (by omega) ?_ (tgt := 19) (by decide)
      refine lv_iload_n hx hb dX11_power_9 rfl (lv_at hl 1 rfl) ?_
      refine lv_iload_n hx hb dX11_power_10 rfl (lv_at hl 2 rfl) ?_
      refine lv_imul hx hb dX11_power_11 ?_
      refine tE (y := 3125) rfl ?_
      refine lv_istore_n (lv' := [(2, .int 3125), (3, .int 4), (0, .int 5), (1, .int 5)]) hx hb dX11_power_12 rfl hl (by decide) rfl (fun ls hl => ?_)
      refine lv_iinc (v := 5) (lv' := [(3, .int 5), (2, .int 3125), (0, .int 5), (1, .int 5)]) hx hb dX11_power_13 hl (k := 1) rfl rfl (by decide) rfl (fun ls hl => ?_)
      refine lv_goto (tgt := 4) hx hb dX11_power_16 (by decide) ?_
      refine lv_iload_n hx hb dX11_power_4 rfl (lv_at hl 0 rfl) ?_
      refine lv_iload_n hx hb dX11_power_5 rfl (lv_at hl 3 rfl) ?_
      refine ct_ge (tgt := 19) (X := 5) (Y := 5) hx hb dX11_power_6 (by decide) rfl rfl (by omega) ?_
      refine lv_iload_n hx hb dX11_power_19 rfl (lv_at hl 1 rfl) ?_
      refine hret _ _ _ _ _ _ dX11_power_20 rfl ?_ hO
      exact ⟨(by first | decide | omega), rfl⟩
    · have ec6 : x2 = 6 := i32_eq.mpr (by rw [c6]; rfl)
      subst ec6
      refine lv_iconst (v := 0) hx hb dX11_power_2 (by decide) ?_
      refine lv_istore_n (lv' := [(3, .int 0), (2, .int 1), (0, .int 5), (1, .int 6)]) hx hb dX11_power_3 rfl hl (by decide) rfl (fun ls hl => ?_)
      refine lv_iload_n hx hb dX11_power_4 rfl (lv_at hl 0 rfl) ?_
      refine lv_iload_n hx hb dX11_power_5 rfl (lv_at hl 3 rfl) ?_
      refine cn_ge (X := 0) (Y := 6) hx hb dX11_power_6 rfl rfl (by omega) ?_ (tgt := 19) (by decide)
      refine lv_iload_n hx hb dX11_power_9 rfl (lv_at hl 1 rfl) ?_
      refine lv_iload_n hx hb dX11_power_10 rfl (lv_at hl 2 rfl) ?_
      refine lv_imul hx hb dX11_power_11 ?_
      refine tE (y := 5) rfl ?_
      refine lv_istore_n (lv' := [(2, .int 5), (3, .int 0), (0, .int 5), (1, .int 6)]) hx hb dX11_power_12 rfl hl (by decide) rfl (fun ls hl => ?_)
      refine lv_iinc (v := 1) (lv' := [(3, .int 1), (2, .int 5), (0, .int 5), (1, .int 6)]) hx hb dX11_power_13 hl (k := 1) rfl rfl (by decide) rfl (fun ls hl => ?_)
      refine lv_goto (tgt := 4) hx hb dX11_power_16 (by decide) ?_
      refine lv_iload_n hx hb dX11_power_4 rfl (lv_at hl 0 rfl) ?_
      refine lv_iload_n hx hb dX11_power_5 rfl (lv_at hl 3 rfl) ?_
      refine cn_ge (X := 1) (Y := 6) hx hb dX11_power_6 rfl rfl (by omega) ?_ (tgt := 19) (by decide)
      refine lv_iload_n hx hb dX11_power_9 rfl (lv_at hl 1 rfl) ?_
      refine lv_iload_n hx hb dX11_power_10 rfl (lv_at hl 2 rfl) ?_
      refine lv_imul hx hb dX11_power_11 ?_
      refine tE (y := 25) rfl ?_
      refine lv_istore_n (lv' := [(2, .int 25), (3, .int 1), (0, .int 5), (1, .int 6)]) hx hb dX11_power_12 rfl hl (by decide) rfl (fun ls hl => ?_)
      refine lv_iinc (v := 2) (lv' := [(3, .int 2), (2, .int 25), (0, .int 5), (1, .int 6)]) hx hb dX11_power_13 hl (k := 1) rfl rfl (by decide) rfl (fun ls hl => ?_)
      refine lv_goto (tgt := 4) hx hb dX11_power_16 (by decide) ?_
      refine lv_iload_n hx hb dX11_power_4 rfl (lv_at hl 0 rfl) ?_
      refine lv_iload_n hx hb dX11_power_5 rfl (lv_at hl 3 rfl) ?_
      refine cn_ge (X := 2) (Y := 6) hx hb dX11_power_6 rfl rfl (by omega) ?_ (tgt := 19) (by decide)
      refine lv_iload_n hx hb dX11_power_9 rfl (lv_at hl 1 rfl) ?_
      refine lv_iload_n hx hb dX11_power_10 rfl (lv_at hl 2 rfl) ?_
      refine lv_imul hx hb dX11_power_11 ?_
      refine tE (y := 125) rfl ?_
      refine lv_istore_n (lv' := [(2, .int 125), (3, .int 2), (0, .int 5), (1, .int 6)]) hx hb dX11_power_12 rfl hl (by decide) rfl (fun ls hl => ?_)
      refine lv_iinc (v := 3) (lv' := [(3, .int 3), (2, .int 125), (0, .int 5), (1, .int 6)]) hx hb dX11_power_13 hl (k := 1) rfl rfl (by decide) rfl (fun ls hl => ?_)
      refine lv_goto (tgt := 4) hx hb dX11_power_16 (by decide) ?_
      refine lv_iload_n hx hb dX11_power_4 rfl (lv_at hl 0 rfl) ?_
      refine lv_iload_n hx hb dX11_power_5 rfl (lv_at hl 3 rfl) ?_
      refine cn_ge (X := 3) (Y := 6) hx hb dX11_power_6 rfl rfl (by omega) ?_ (tgt := 19) (by decide)
      refine lv_iload_n hx hb dX11_power_9 rfl (lv_at hl 1 rfl) ?_
      refine lv_iload_n hx hb dX11_power_10 rfl (lv_at hl 2 rfl) ?_
      refine lv_imul hx hb dX11_power_11 ?_
      refine tE (y := 625) rfl ?_
      refine lv_istore_n (lv' := [(2, .int 625), (3, .int 3), (0, .int 5), (1, .int 6)]) hx hb dX11_power_12 rfl hl (by decide) rfl (fun ls hl => ?_)
      refine lv_iinc (v := 4) (lv' := [(3, .int 4), (2, .int 625), (0, .int 5), (1, .int 6)]) hx hb dX11_power_13 hl (k := 1) rfl rfl (by decide) rfl (fun ls hl => ?_)
      refine lv_goto (tgt := 4) hx hb dX11_power_16 (by decide) ?_
      refine lv_iload_n hx hb dX11_power_4 rfl (lv_at hl 0 rfl) ?_
      refine lv_iload_n hx hb dX11_power_5 rfl (lv_at hl 3 rfl) ?_
      refine cn_ge (X := 4) (Y := 6) hx hb dX11_power_6 rfl rfl (by omega) ?_ (tgt := 19) (by decide)
      refine lv_iload_n hx hb dX11_power_9 rfl (lv_at hl 1 rfl) ?_
      refine lv_iload_n hx hb dX11_power_10 rfl (lv_at hl 2 rfl) ?_
      refine lv_imul hx hb dX11_power_11 ?_
      refine tE (y := 3125) rfl ?_
      refine lv_istore_n (lv' := [(2, .int 3125), (3, .int 4), (0, .int 5), (1, .int 6)]) hx hb dX11_power_12 rfl hl (by decide) rfl (fun ls hl => ?_)
      refine lv_iinc (v := 5) (lv' := [(3, .int 5), (2, .int 3125), (0, .int 5), (1, .int 6)]) hx hb dX11_power_13 hl (k := 1) rfl rfl (by decide) rfl (fun ls hl => ?_)
      refine lv_goto (tgt := 4) hx hb dX11_power_16 (by decide) ?_
      refine lv_iload_n hx hb dX11_power_4 rfl (lv_at hl 0 rfl) ?_
      refine lv_iload_n hx hb dX11_power_5 rfl (lv_at hl 3 rfl) ?_
      refine cn_ge (X := 5) (Y := 6) hx hb dX11_power_6 rfl rfl (by omega) ?_ (tgt := 19) (by decide)
      refine lv_iload_n hx hb dX11_power_9 rfl (lv_at hl 1 rfl) ?_
      refine lv_iload_n hx hb dX11_power_10 rfl (lv_at hl 2 rfl) ?_
      refine lv_imul hx hb dX11_power_11 ?_
      refine tE (y := 15625) rfl ?_
      refine lv_istore_n (lv' := [(2, .int 15625), (3, .int 5), (0, .int 5), (1, .int 6)]) hx hb dX11_power_12 rfl hl (by decide) rfl (fun ls hl => ?_)
      refine lv_iinc (v := 6) (lv' := [(3, .int 6), (2, .int 15625), (0, .int 5), (1, .int 6)]) hx hb dX11_power_13 hl (k := 1) rfl rfl (by decide) rfl (fun ls hl => ?_)
      refine lv_goto (tgt := 4) hx hb dX11_power_16 (by decide) ?_
      refine lv_iload_n hx hb dX11_power_4 rfl (lv_at hl 0 rfl) ?_
      refine lv_iload_n hx hb dX11_power_5 rfl (lv_at hl 3 rfl) ?_
      refine ct_ge (tgt := 19) (X := 6) (Y := 6) hx hb dX11_power_6 (by decide) rfl rfl (by omega) ?_
      refine lv_iload_n hx hb dX11_power_19 rfl (lv_at hl 1 rfl) ?_
      refine hret _ _ _ _ _ _ dX11_power_20 rfl ?_ hO
      exact ⟨(by first | decide | omega), rfl⟩
  · have ec1 : x1 = 6 := i32_eq.mpr (by rw [c1]; rfl)
    subst ec1
    refine lv_iconst (v := 1) hx hb dX11_power_0 (by decide) ?_
    refine lv_istore_n (lv' := [(2, .int 1), (0, .int 6), (1, .int x2)]) hx hb dX11_power_1 rfl hl (by decide) rfl (fun ls hl => ?_)
    have c7 : (x2).toInt = 0 ∨ (x2).toInt = 1 ∨ (x2).toInt = 2 ∨ (x2).toInt = 3 ∨ (x2).toInt = 4 ∨ (x2).toInt = 5 ∨ (x2).toInt = 6 := by omega
    rcases c7 with c7 | c7 | c7 | c7 | c7 | c7 | c7
    · have ec7 : x2 = 0 := i32_eq.mpr (by rw [c7]; rfl)
      subst ec7
      refine lv_iconst (v := 0) hx hb dX11_power_2 (by decide) ?_
      refine lv_istore_n (lv' := [(3, .int 0), (2, .int 1), (0, .int 6), (1, .int 0)]) hx hb dX11_power_3 rfl hl (by decide) rfl (fun ls hl => ?_)
      refine lv_iload_n hx hb dX11_power_4 rfl (lv_at hl 0 rfl) ?_
      refine lv_iload_n hx hb dX11_power_5 rfl (lv_at hl 3 rfl) ?_
      refine ct_ge (tgt := 19) (X := 0) (Y := 0) hx hb dX11_power_6 (by decide) rfl rfl (by omega) ?_
      refine lv_iload_n hx hb dX11_power_19 rfl (lv_at hl 1 rfl) ?_
      refine hret _ _ _ _ _ _ dX11_power_20 rfl ?_ hO
      exact ⟨(by first | decide | omega), rfl⟩
    · have ec7 : x2 = 1 := i32_eq.mpr (by rw [c7]; rfl)
      subst ec7
      refine lv_iconst (v := 0) hx hb dX11_power_2 (by decide) ?_
      refine lv_istore_n (lv' := [(3, .int 0), (2, .int 1), (0, .int 6), (1, .int 1)]) hx hb dX11_power_3 rfl hl (by decide) rfl (fun ls hl => ?_)
      refine lv_iload_n hx hb dX11_power_4 rfl (lv_at hl 0 rfl) ?_
      refine lv_iload_n hx hb dX11_power_5 rfl (lv_at hl 3 rfl) ?_
      refine cn_ge (X := 0) (Y := 1) hx hb dX11_power_6 rfl rfl (by omega) ?_ (tgt := 19) (by decide)
      refine lv_iload_n hx hb dX11_power_9 rfl (lv_at hl 1 rfl) ?_
      refine lv_iload_n hx hb dX11_power_10 rfl (lv_at hl 2 rfl) ?_
      refine lv_imul hx hb dX11_power_11 ?_
      refine tE (y := 6) rfl ?_
      refine lv_istore_n (lv' := [(2, .int 6), (3, .int 0), (0, .int 6), (1, .int 1)]) hx hb dX11_power_12 rfl hl (by decide) rfl (fun ls hl => ?_)
      refine lv_iinc (v := 1) (lv' := [(3, .int 1), (2, .int 6), (0, .int 6), (1, .int 1)]) hx hb dX11_power_13 hl (k := 1) rfl rfl (by decide) rfl (fun ls hl => ?_)
      refine lv_goto (tgt := 4) hx hb dX11_power_16 (by decide) ?_
      refine lv_iload_n hx hb dX11_power_4 rfl (lv_at hl 0 rfl) ?_
      refine lv_iload_n hx hb dX11_power_5 rfl (lv_at hl 3 rfl) ?_
      refine ct_ge (tgt := 19) (X := 1) (Y := 1) hx hb dX11_power_6 (by decide) rfl rfl (by omega) ?_
      refine lv_iload_n hx hb dX11_power_19 rfl (lv_at hl 1 rfl) ?_
      refine hret _ _ _ _ _ _ dX11_power_20 rfl ?_ hO
      exact ⟨(by first | decide | omega), rfl⟩
    · have ec7 : x2 = 2 := i32_eq.mpr (by rw [c7]; rfl)
      subst ec7
      refine lv_iconst (v := 0) hx hb dX11_power_2 (by decide) ?_
      refine lv_istore_n (lv' := [(3, .int 0), (2, .int 1), (0, .int 6), (1, .int 2)]) hx hb dX11_power_3 rfl hl (by decide) rfl (fun ls hl => ?_)
      refine lv_iload_n hx hb dX11_power_4 rfl (lv_at hl 0 rfl) ?_
      refine lv_iload_n hx hb dX11_power_5 rfl (lv_at hl 3 rfl) ?_
      refine cn_ge (X := 0) (Y := 2) hx hb dX11_power_6 rfl rfl (by omega) ?_ (tgt := 19) (by decide)
      refine lv_iload_n hx hb dX11_power_9 rfl (lv_at hl 1 rfl) ?_
      refine lv_iload_n hx hb dX11_power_10 rfl (lv_at hl 2 rfl) ?_
      refine lv_imul hx hb dX11_power_11 ?_
      refine tE (y := 6) rfl ?_
      refine lv_istore_n (lv' := [(2, .int 6), (3, .int 0), (0, .int 6), (1, .int 2)]) hx hb dX11_power_12 rfl hl (by decide) rfl (fun ls hl => ?_)
      refine lv_iinc (v := 1) (lv' := [(3, .int 1), (2, .int 6), (0, .int 6), (1, .int 2)]) hx hb dX11_power_13 hl (k := 1) rfl rfl (by decide) rfl (fun ls hl => ?_)
      refine lv_goto (tgt := 4) hx hb dX11_power_16 (by decide) ?_
      refine lv_iload_n hx hb dX11_power_4 rfl (lv_at hl 0 rfl) ?_
      refine lv_iload_n hx hb dX11_power_5 rfl (lv_at hl 3 rfl) ?_
      refine cn_ge (X := 1) (Y := 2) hx hb dX11_power_6 rfl rfl (by omega) ?_ (tgt := 19) (by decide)
      refine lv_iload_n hx hb dX11_power_9 rfl (lv_at hl 1 rfl) ?_
      refine lv_iload_n hx hb dX11_power_10 rfl (lv_at hl 2 rfl) ?_
      refine lv_imul hx hb dX11_power_11 ?_
      refine tE (y := 36) rfl ?_
      refine lv_istore_n (lv' := [(2, .int 36), (3, .int 1), (0, .int 6), (1, .int 2)]) hx hb dX11_power_12 rfl hl (by decide) rfl (fun ls hl => ?_)
      refine lv_iinc (v := 2) (lv' := [(3, .int 2), (2, .int 36), (0, .int 6), (1, .int 2)]) hx hb dX11_power_13 hl (k := 1) rfl rfl (by decide) rfl (fun ls hl => ?_)
      refine lv_goto (tgt := 4) hx hb dX11_power_16 (by decide) ?_
      refine lv_iload_n hx hb dX11_power_4 rfl (lv_at hl 0 rfl) ?_
      refine lv_iload_n hx hb dX11_power_5 rfl (lv_at hl 3 rfl) ?_
      refine ct_ge (tgt := 19) (X := 2) (Y := 2) hx hb dX11_power_6 (by decide) rfl rfl (by omega) ?_
      refine lv_iload_n hx hb dX11_power_19 rfl (lv_at hl 1 rfl) ?_
      refine hret _ _ _ _ _ _ dX11_power_20 rfl ?_ hO
      exact ⟨(by first | decide | omega), rfl⟩
    · have ec7 : x2 = 3 := i32_eq.mpr (by rw [c7]; rfl)
      subst ec7
      refine lv_iconst (v := 0) hx hb dX11_power_2 (by decide) ?_
      refine lv_istore_n (lv' := [(3, .int 0), (2, .int 1), (0, .int 6), (1, .int 3)]) hx hb dX11_power_3 rfl hl (by decide) rfl (fun ls hl => ?_)
      refine lv_iload_n hx hb dX11_power_4 rfl (lv_at hl 0 rfl) ?_
      refine lv_iload_n hx hb dX11_power_5 rfl (lv_at hl 3 rfl) ?_
      refine cn_ge (X := 0) (Y := 3) hx hb dX11_power_6 rfl rfl (by omega) ?_ (tgt := 19) (by decide)
      refine lv_iload_n hx hb dX11_power_9 rfl (lv_at hl 1 rfl) ?_
      refine lv_iload_n hx hb dX11_power_10 rfl (lv_at hl 2 rfl) ?_
      refine lv_imul hx hb dX11_power_11 ?_
      refine tE (y := 6) rfl ?_
      refine lv_istore_n (lv' := [(2, .int 6), (3, .int 0), (0, .int 6), (1, .int 3)]) hx hb dX11_power_12 rfl hl (by decide) rfl (fun ls hl => ?_)
      refine lv_iinc (v := 1) (lv' := [(3, .int 1), (2, .int 6), (0, .int 6), (1, .int 3)]) hx hb dX11_power_13 hl (k := 1) rfl rfl (by decide) rfl (fun ls hl => ?_)
      refine lv_goto (tgt := 4) hx hb dX11_power_16 (by decide) ?_
      refine lv_iload_n hx hb dX11_power_4 rfl (lv_at hl 0 rfl) ?_
      refine lv_iload_n hx hb dX11_power_5 rfl (lv_at hl 3 rfl) ?_
      refine cn_ge (X := 1) (Y := 3) hx hb dX11_power_6 rfl rfl (by omega) ?_ (tgt := 19) (by decide)
      refine lv_iload_n hx hb dX11_power_9 rfl (lv_at hl 1 rfl) ?_
      refine lv_iload_n hx hb dX11_power_10 rfl (lv_at hl 2 rfl) ?_
      refine lv_imul hx hb dX11_power_11 ?_
      refine tE (y := 36) rfl ?_
      refine lv_istore_n (lv' := [(2, .int 36), (3, .int 1), (0, .int 6), (1, .int 3)]) hx hb dX11_power_12 rfl hl (by decide) rfl (fun ls hl => ?_)
      refine lv_iinc (v := 2) (lv' := [(3, .int 2), (2, .int 36), (0, .int 6), (1, .int 3)]) hx hb dX11_power_13 hl (k := 1) rfl rfl (by decide) rfl (fun ls hl => ?_)
      refine lv_goto (tgt := 4) hx hb dX11_power_16 (by decide) ?_
      refine lv_iload_n hx hb dX11_power_4 rfl (lv_at hl 0 rfl) ?_
      refine lv_iload_n hx hb dX11_power_5 rfl (lv_at hl 3 rfl) ?_
      refine cn_ge (X := 2) (Y := 3) hx hb dX11_power_6 rfl rfl (by omega) ?_ (tgt := 19) (by decide)
      refine lv_iload_n hx hb dX11_power_9 rfl (lv_at hl 1 rfl) ?_
      refine lv_iload_n hx hb dX11_power_10 rfl (lv_at hl 2 rfl) ?_
      refine lv_imul hx hb dX11_power_11 ?_
      refine tE (y := 216) rfl ?_
      refine lv_istore_n (lv' := [(2, .int 216), (3, .int 2), (0, .int 6), (1, .int 3)]) hx hb dX11_power_12 rfl hl (by decide) rfl (fun ls hl => ?_)
      refine lv_iinc (v := 3) (lv' := [(3, .int 3), (2, .int 216), (0, .int 6), (1, .int 3)]) hx hb dX11_power_13 hl (k := 1) rfl rfl (by decide) rfl (fun ls hl => ?_)
      refine lv_goto (tgt := 4) hx hb dX11_power_16 (by decide) ?_
      refine lv_iload_n hx hb dX11_power_4 rfl (lv_at hl 0 rfl) ?_
      refine lv_iload_n hx hb dX11_power_5 rfl (lv_at hl 3 rfl) ?_
      refine ct_ge (tgt := 19) (X := 3) (Y := 3) hx hb dX11_power_6 (by decide) rfl rfl (by omega) ?_
      refine lv_iload_n hx hb dX11_power_19 rfl (lv_at hl 1 rfl) ?_
      refine hret _ _ _ _ _ _ dX11_power_20 rfl ?_ hO
      exact ⟨(by first | decide | omega), rfl⟩
    · have ec7 : x2 = 4 := i32_eq.mpr (by rw [c7]; rfl)
      subst ec7
      refine lv_iconst (v := 0) hx hb dX11_power_2 (by decide) ?_
      refine lv_istore_n (lv' := [(3, .int 0), (2, .int 1), (0, .int 6), (1, .int 4)]) hx hb dX11_power_3 rfl hl (by decide) rfl (fun ls hl => ?_)
      refine lv_iload_n hx hb dX11_power_4 rfl (lv_at hl 0 rfl) ?_
      refine lv_iload_n hx hb dX11_power_5 rfl (lv_at hl 3 rfl) ?_
      refine cn_ge (X := 0) (Y := 4) hx hb dX11_power_6 rfl rfl (by omega) ?_ (tgt := 19) (by decide)
      refine lv_iload_n hx hb dX11_power_9 rfl (lv_at hl 1 rfl) ?_
      refine lv_iload_n hx hb dX11_power_10 rfl (lv_at hl 2 rfl) ?_
      refine lv_imul hx hb dX11_power_11 ?_
      refine tE (y := 6) rfl ?_
      refine lv_istore_n (lv' := [(2, .int 6), (3, .int 0), (0, .int 6), (1, .int 4)]) hx hb dX11_power_12 rfl hl (by decide) rfl (fun ls hl => ?_)
      refine lv_iinc (v := 1) (lv' := [(3, .int 1), (2, .int 6), (0, .int 6), (1, .int 4)]) hx hb dX11_power_13 hl (k := 1) rfl rfl (by decide) rfl (fun ls hl => ?_)
      refine lv_goto (tgt := 4) hx hb dX11_power_16 (by decide) ?_
      refine lv_iload_n hx hb dX11_power_4 rfl (lv_at hl 0 rfl) ?_
      refine lv_iload_n hx hb dX11_power_5 rfl (lv_at hl 3 rfl) ?_
      refine cn_ge (X := 1) (Y := 4) hx hb dX11_power_6 rfl rfl (by omega) ?_ (tgt := 19) (by decide)
      refine lv_iload_n hx hb dX11_power_9 rfl (lv_at hl 1 rfl) ?_
      refine lv_iload_n hx hb dX11_power_10 rfl (lv_at hl 2 rfl) ?_
      refine lv_imul hx hb dX11_power_11 ?_
      refine tE (y := 36) rfl ?_
      refine lv_istore_n (lv' := [(2, .int 36), (3, .int 1), (0, .int 6), (1, .int 4)]) hx hb dX11_power_12 rfl hl (by decide) rfl (fun ls hl => ?_)
      refine lv_iinc (v := 2) (lv' := [(3, .int 2), (2, .int 36), (0, .int 6), (1, .int 4)]) hx hb dX11_power_13 hl (k := 1) rfl rfl (by decide) rfl (fun ls hl => ?_)
      refine lv_goto (tgt := 4) hx hb dX11_power_16 (by decide) ?_
      refine lv_iload_n hx hb dX11_power_4 rfl (lv_at hl 0 rfl) ?_
      refine lv_iload_n hx hb dX11_power_5 rfl (lv_at hl 3 rfl) ?_
      refine cn_ge (X := 2) (Y := 4) hx hb dX11_power_6 rfl rfl (by omega) ?_ (tgt := 19) (by decide)
      refine lv_iload_n hx hb dX11_power_9 rfl (lv_at hl 1 rfl) ?_
      refine lv_iload_n hx hb dX11_power_10 rfl (lv_at hl 2 rfl) ?_
      refine lv_imul hx hb dX11_power_11 ?_
      refine tE (y := 216) rfl ?_
      refine lv_istore_n (lv' := [(2, .int 216), (3, .int 2), (0, .int 6), (1, .int 4)]) hx hb dX11_power_12 rfl hl (by decide) rfl (fun ls hl => ?_)
      refine lv_iinc (v := 3) (lv' := [(3, .int 3), (2, .int 216), (0, .int 6), (1, .int 4)]) hx hb dX11_power_13 hl (k := 1) rfl rfl (by decide) rfl (fun ls hl => ?_)
      refine lv_goto (tgt := 4) hx hb dX11_power_16 (by decide) ?_
      refine lv_iload_n hx hb dX11_power_4 rfl (lv_at hl 0 rfl) ?_
      refine lv_iload_n hx hb dX11_power_5 rfl (lv_at hl 3 rfl) ?_
      refine cn_ge (X := 3) (Y := 4) hx hb dX11_power_6 rfl rfl (by omega) ?_ (tgt := 19) (by decide)
      refine lv_iload_n hx hb dX11_power_9 rfl (lv_at hl 1 rfl) ?_
      refine lv_iload_n hx hb dX11_power_10 rfl (lv_at hl 2 rfl) ?_
      refine lv_imul hx hb dX11_power_11 ?_
      refine tE (y := 1296) rfl ?_
      refine lv_istore_n (lv' := [(2, .int 1296), (3, .int 3), (0, .int 6), (1, .int 4)]) hx hb dX11_power_12 rfl hl (by decide) rfl (fun ls hl => ?_)
      refine lv_iinc (v := 4) (lv' := [(3, .int 4), (2, .int 1296), (0, .int 6), (1, .int 4)]) hx hb dX11_power_13 hl (k := 1) rfl rfl (by decide) rfl (fun ls hl => ?_)
      refine lv_goto (tgt := 4) hx hb dX11_power_16 (by decide) ?_
      refine lv_iload_n hx hb dX11_power_4 rfl (lv_at hl 0 rfl) ?_
      refine lv_iload_n hx hb dX11_power_5 rfl (lv_at hl 3 rfl) ?_
      refine ct_ge (tgt := 19) (X := 4) (Y := 4) hx hb dX11_power_6 (by decide) rfl rfl (by omega) ?_
      refine lv_iload_n hx hb dX11_power_19 rfl (lv_at hl 1 rfl) ?_
      refine hret _ _ _ _ _ _ dX11_power_20 rfl ?_ hO
      exact ⟨(by first | decide | omega), rfl⟩
    · have ec7 : x2 = 5 := i32_eq.mpr (by rw [c7]; rfl)
      subst ec7
      refine lv_iconst (v := 0) hx hb dX11_power_2 (by decide) ?_
      refine lv_istore_n (lv' := [(3, .int 0), (2, .int 1), (0, .int 6), (1, .int 5)]) hx hb dX11_power_3 rfl hl (by decide) rfl (fun ls hl => ?_)
      refine lv_iload_n hx hb dX11_power_4 rfl (lv_at hl 0 rfl) ?_
      refine lv_iload_n hx hb dX11_power_5 rfl (lv_at hl 3 rfl) ?_
      refine cn_ge (X := 0) (Y := 5) hx hb dX11_power_6 rfl rfl (by omega) ?_ (tgt := 19) (by decide)
      refine lv_iload_n hx hb dX11_power_9 rfl (lv_at hl 1 rfl) ?_
      refine lv_iload_n hx hb dX11_power_10 rfl (lv_at hl 2 rfl) ?_
      refine lv_imul hx hb dX11_power_11 ?_
      refine tE (y := 6) rfl ?_
      refine lv_istore_n (lv' := [(2, .int 6), (3, .int 0), (0, .int 6), (1, .int 5)]) hx hb dX11_power_12 rfl hl (by decide) rfl (fun ls hl => ?_)
      refine lv_iinc (v := 1) (lv' := [(3, .int 1), (2, .int 6), (0, .int 6), (1, .int 5)]) hx hb dX11_power_13 hl (k := 1) rfl rfl (by decide) rfl (fun ls hl => ?_)
      refine lv_goto (tgt := 4) hx hb dX11_power_16 (by decide) ?_
      refine lv_iload_n hx hb dX11_power_4 rfl (lv_at hl 0 rfl) ?_
      refine lv_iload_n hx hb dX11_power_5 rfl (lv_at hl 3 rfl) ?_
      refine cn_ge (X := 1) (Y := 5) hx hb dX11_power_6 rfl rfl (by omega) ?_ (tgt := 19) (by decide)
      refine lv_iload_n hx hb dX11_power_9 rfl (lv_at hl 1 rfl) ?_
      refine lv_iload_n hx hb dX11_power_10 rfl (lv_at hl 2 rfl) ?_
      refine lv_imul hx hb dX11_power_11 ?_
      refine tE (y := 36) rfl ?_
      refine lv_istore_n (lv' := [(2, .int 36), (3, .int 1), (0, .int 6), (1, .int 5)]) hx hb dX11_power_12 rfl hl (by decide) rfl (fun ls hl => ?_)
      refine lv_iinc (v := 2) (lv' := [(3, .int 2), (2, .int 36), (0, .int 6), (1, .int 5)]) hx hb dX11_power_13 hl (k := 1) rfl rfl (by decide) rfl (fun ls hl => ?_)
      refine lv_goto (tgt := 4) hx hb dX11_power_16 (by decide) ?_
      refine lv_iload_n hx hb dX11_power_4 rfl (lv_at hl 0 rfl) ?_
      refine lv_iload_n hx hb dX11_power_5 rfl (lv_at hl 3 rfl) ?_
      refine cn_ge (X := 2) (Y := 5) hx hb dX11_power_6 rfl rfl (by omega) ?_ (tgt := 19) (by decide)
      refine lv_iload_n hx hb dX11_power_9 rfl (lv_at hl 1 rfl) ?_
      refine lv_iload_n hx hb dX11_power_10 rfl (lv_at hl 2 rfl) ?_
      refine lv_imul hx hb dX11_power_11 ?_
      refine tE (y := 216) rfl ?_
      refine lv_istore_n (lv' := [(2, .int 216), (3, .int 2), (0, .int 6), (1, .int 5)]) hx hb dX11_power_12 rfl hl (by decide) rfl (fun ls hl => ?_)
      refine lv_iinc (v := 3) (lv' := [(3, .int 3), (2, .int 216), (0, .int 6), (1, .int 5)]) hx hb dX11_power_13 hl (k := 1) rfl rfl (by decide) rfl (fun ls hl => ?_)
      refine lv_goto (tgt := 4) hx hb dX11_power_16 (by decide) ?_
      refine lv_iload_n hx hb dX11_power_4 rfl (lv_at hl 0 rfl) ?_
      refine lv_iload_n hx hb dX11_power_5 rfl (lv_at hl 3 rfl) ?_
      refine cn_ge (X := 3) (Y := 5) hx hb dX11_power_6 rfl rfl (by omega) ?_ (tgt := 19) (by decide)
      refine lv_iload_n hx hb dX11_power_9 rfl (lv_at hl 1 rfl) ?_
      refine lv_iload_n hx hb dX11_power_10 rfl (lv_at hl 2 rfl) ?_
      refine lv_imul hx hb dX11_power_11 ?_
      refine tE (y := 1296) rfl ?_
      refine lv_istore_n (lv' := [(2, .int 1296), (3, .int 3), (0, .int 6), (1, .int 5)]) hx hb dX11_power_12 rfl hl (by decide) rfl (fun ls hl => ?_)
      refine lv_iinc (v := 4) (lv' := [(3, .int 4), (2, .int 1296), (0, .int 6), (1, .int 5)]) hx hb dX11_power_13 hl (k := 1) rfl rfl (by decide) rfl (fun ls hl => ?_)
      refine lv_goto (tgt := 4) hx hb dX11_power_16 (by decide) ?_
      refine lv_iload_n hx hb dX11_power_4 rfl (lv_at hl 0 rfl) ?_
      refine lv_iload_n hx hb dX11_power_5 rfl (lv_at hl 3 rfl) ?_
      refine cn_ge (X := 4) (Y := 5) hx hb dX11_power_6 rfl rfl (by omega) ?_ (tgt := 19) (by decide)
      refine lv_iload_n hx hb dX11_power_9 rfl (lv_at hl 1 rfl) ?_
      refine lv_iload_n hx hb dX11_power_10 rfl (lv_at hl 2 rfl) ?_
      refine lv_imul hx hb dX11_power_11 ?_
      refine tE (y := 7776) rfl ?_
      refine lv_istore_n (lv' := [(2, .int 7776), (3, .int 4), (0, .int 6), (1, .int 5)]) hx hb dX11_power_12 rfl hl (by decide) rfl (fun ls hl => ?_)
      refine lv_iinc (v := 5) (lv' := [(3, .int 5), (2, .int 7776), (0, .int 6), (1, .int 5)]) hx hb dX11_power_13 hl (k := 1) rfl rfl (by decide) rfl (fun ls hl => ?_)
      refine lv_goto (tgt := 4) hx hb dX11_power_16 (by decide) ?_
      refine lv_iload_n hx hb dX11_power_4 rfl (lv_at hl 0 rfl) ?_
      refine lv_iload_n hx hb dX11_power_5 rfl (lv_at hl 3 rfl) ?_
      refine ct_ge (tgt := 19) (X := 5) (Y := 5) hx hb dX11_power_6 (by decide) rfl rfl (by omega) ?_
      refine lv_iload_n hx hb dX11_power_19 rfl (lv_at hl 1 rfl) ?_
      refine hret _ _ _ _ _ _ dX11_power_20 rfl ?_ hO
      exact ⟨(by first | decide | omega), rfl⟩
    · have ec7 : x2 = 6 := i32_eq.mpr (by rw [c7]; rfl)
      subst ec7
      refine lv_iconst (v := 0) hx hb dX11_power_2 (by decide) ?_
      refine lv_istore_n (lv' := [(3, .int 0), (2, .int 1), (0, .int 6), (1, .int 6)]) hx hb dX11_power_3 rfl hl (by decide) rfl (fun ls hl => ?_)
      refine lv_iload_n hx hb dX11_power_4 rfl (lv_at hl 0 rfl) ?_
      refine lv_iload_n hx hb dX11_power_5 rfl (lv_at hl 3 rfl) ?_
      refine cn_ge (X := 0) (Y := 6) hx hb dX11_power_6 rfl rfl (by omega) ?_ (tgt := 19) (by decide)
      refine lv_iload_n hx hb dX11_power_9 rfl (lv_at hl 1 rfl) ?_
      refine lv_iload_n hx hb dX11_power_10 rfl (lv_at hl 2 rfl) ?_
      refine lv_imul hx hb dX11_power_11 ?_
      refine tE (y := 6) rfl ?_
      refine lv_istore_n (lv' := [(2, .int 6), (3, .int 0), (0, .int 6), (1, .int 6)]) hx hb dX11_power_12 rfl hl (by decide) rfl (fun ls hl => ?_)
      refine lv_iinc (v := 1) (lv' := [(3, .int 1), (2, .int 6), (0, .int 6), (1, .int 6)]) hx hb dX11_power_13 hl (k := 1) rfl rfl (by decide) rfl (fun ls hl => ?_)
      refine lv_goto (tgt := 4) hx hb dX11_power_16 (by decide) ?_
      refine lv_iload_n hx hb dX11_power_4 rfl (lv_at hl 0 rfl) ?_
      refine lv_iload_n hx hb dX11_power_5 rfl (lv_at hl 3 rfl) ?_
      refine cn_ge (X := 1) (Y := 6) hx hb dX11_power_6 rfl rfl (by omega) ?_ (tgt := 19) (by decide)
      refine lv_iload_n hx hb dX11_power_9 rfl (lv_at hl 1 rfl) ?_
      refine lv_iload_n hx hb dX11_power_10 rfl (lv_at hl 2 rfl) ?_
      refine lv_imul hx hb dX11_power_11 ?_
      refine tE (y := 36) rfl ?_
      refine lv_istore_n (lv' := [(2, .int 36), (3, .int 1), (0, .int 6), (1, .int 6)]) hx hb dX11_power_12 rfl hl (by decide) rfl (fun ls hl => ?_)
      refine lv_iinc (v := 2) (lv' := [(3, .int 2), (2, .int 36), (0, .int 6), (1, .int 6)]) hx hb dX11_power_13 hl (k := 1) rfl rfl (by decide) rfl (fun ls hl => ?_)
      refine lv_goto (tgt := 4) hx hb dX11_power_16 (by decide) ?_
      refine lv_iload_n hx hb dX11_power_4 rfl (lv_at hl 0 rfl) ?_
      refine lv_iload_n hx hb dX11_power_5 rfl (lv_at hl 3 rfl) ?_
      refine cn_ge (X := 2) (Y := 6) hx hb dX11_power_6 rfl rfl (by omega) ?_ (tgt := 19) (by decide)
      refine lv_iload_n hx hb dX11_power_9 rfl (lv_at hl 1 rfl) ?_
      refine lv_iload_n hx hb dX11_power_10 rfl (lv_at hl 2 rfl) ?_
      refine lv_imul hx hb dX11_power_11 ?_
      refine tE (y := 216) rfl ?_
      refine lv_istore_n (lv' := [(2, .int 216), (3, .int 2), (0, .int 6), (1, .int 6)]) hx hb dX11_power_12 rfl hl (by decide) rfl (fun ls hl => ?_)
      refine lv_iinc (v := 3) (lv' := [(3, .int 3), (2, .int 216), (0, .int 6), (1, .int 6)]) hx hb dX11_power_13 hl (k := 1) rfl rfl (by decide) rfl (fun ls hl => ?_)
      refine lv_goto (tgt := 4) hx hb dX11_power_16 (by decide) ?_
      refine lv_iload_n hx hb dX11_power_4 rfl (lv_at hl 0 rfl) ?_
      refine lv_iload_n hx hb dX11_power_5 rfl (lv_at hl 3 rfl) ?_
      refine cn_ge (X := 3) (Y := 6) hx hb dX11_power_6 rfl rfl (by omega) ?_ (tgt := 19) (by decide)
      refine lv_iload_n hx hb dX11_power_9 rfl (lv_at hl 1 rfl) ?_
      refine lv_iload_n hx hb dX11_power_10 rfl (lv_at hl 2 rfl) ?_
      refine lv_imul hx hb dX11_power_11 ?_
      refine tE (y := 1296) rfl ?_
      refine lv_istore_n (lv' := [(2, .int 1296), (3, .int 3), (0, .int 6), (1, .int 6)]) hx hb dX11_power_12 rfl hl (by decide) rfl (fun ls hl => ?_)
      refine lv_iinc (v := 4) (lv' := [(3, .int 4), (2, .int 1296), (0, .int 6), (1, .int 6)]) hx hb dX11_power_13 hl (k := 1) rfl rfl (by decide) rfl (fun ls hl => ?_)
      refine lv_goto (tgt := 4) hx hb dX11_power_16 (by decide) ?_
      refine lv_iload_n hx hb dX11_power_4 rfl (lv_at hl 0 rfl) ?_
      refine lv_iload_n hx hb dX11_power_5 rfl (lv_at hl 3 rfl) ?_
      refine cn_ge (X := 4) (Y := 6) hx hb dX11_power_6 rfl rfl (by omega) ?_ (tgt := 19) (by decide)
      refine lv_iload_n hx hb dX11_power_9 rfl (lv_at hl 1 rfl) ?_
      refine lv_iload_n hx hb dX11_power_10 rfl (lv_at hl 2 rfl) ?_
      refine lv_imul hx hb dX11_power_11 ?_
      refine tE (y := 7776) rfl ?_
      refine lv_istore_n (lv' := [(2, .int 7776), (3, .int 4), (0, .int 6), (1, .int 6)]) hx hb dX11_power_12 rfl hl (by decide) rfl (fun ls hl => ?_)
      refine lv_iinc (v := 5) (lv' := [(3, .int 5), (2, .int 7776), (0, .int 6), (1, .int 6)]) hx hb dX11_power_13 hl (k := 1) rfl rfl (by decide) rfl (fun ls hl => ?_)
      refine lv_goto (tgt := 4) hx hb dX11_power_16 (by decide) ?_
      refine lv_iload_n hx hb dX11_power_4 rfl (lv_at hl 0 rfl) ?_
      refine lv_iload_n hx hb dX11_power_5 rfl (lv_at hl 3 rfl) ?_
      refine cn_ge (X := 5) (Y := 6) hx hb dX11_power_6 rfl rfl (by omega) ?_ (tgt := 19) (by decide)
      refine lv_iload_n hx hb dX11_power_9 rfl (lv_at hl 1 rfl) ?_
      refine lv_iload_n hx hb dX11_power_10 rfl (lv_at hl 2 rfl) ?_
      refine lv_imul hx hb dX11_power_11 ?_
      refine tE (y := 46656) rfl ?_
      refine lv_istore_n (lv' := [(2, .int 46656), (3, .int 5), (0, .int 6), (1, .int 6)]) hx hb dX11_power_12 rfl hl (by decide) rfl (fun ls hl => ?_)
      refine lv_iinc (v := 6) (lv' := [(3, .int 6), (2, .int 46656), (0, .int 6), (1, .int 6)]) hx hb dX11_power_13 hl (k := 1) rfl rfl (by decide) rfl (fun ls hl => ?_)
      refine lv_goto (tgt := 4) hx hb dX11_power_16 (by decide) ?_
      refine lv_iload_n hx hb dX11_power_4 rfl (lv_at hl 0 rfl) ?_
      refine lv_iload_n hx hb dX11_power_5 rfl (lv_at hl 3 rfl) ?_
      refine ct_ge (tgt := 19) (X := 6) (Y := 6) hx hb dX11_power_6 (by decide) rfl rfl (by omega) ?_
      refine lv_iload_n hx hb dX11_power_19 rfl (lv_at hl 1 rfl) ?_
      refine hret _ _ _ _ _ _ dX11_power_20 rfl ?_ hO
      exact ⟨(by first | decide | omega), rfl⟩
set_option maxHeartbeats 4000000 in
set_option maxRecDepth 100000 in
theorem T_X11_power_100 (l : Launch) (D : va_G) (cy : Nat → ClassId) (a : Nat → Nat) (u : St) (hJ : MI a u) (x2 : Int32) (hx_x2 : 0 ≤ x2.toInt ∧ x2.toInt ≤ 4) : Mi l D cy (mW cy a) yX11_power (.code yX11_power cX11_power 4 (some .int)) (rmo 0 0) [.int 100, .int x2] u (fun (r : Int32) (u' : St) => (1 ≤ r.toInt ∧ r.toInt ≤ 100000000) ∧ (u' = u)) := by
  refine Mi.of (own := RX11) rfl (by decide) (Nat.le_of_ble_eq_true rfl) ?_
  have hT : Km0 u u := Km0.rf
  have hJ0 := hJ
  intro p e s m below meth c A Q ls C hret hO hl
  obtain ⟨hx, hb, hml, hown, ht, hK, hA⟩ := id C
  have hl : lv_has ls 4 [(0, .int 100), (1, .int x2)] := hl
  have c1 : (x2).toInt = 0 ∨ (x2).toInt = 1 ∨ (x2).toInt = 2 ∨ (x2).toInt = 3 ∨ (x2).toInt = 4 := by omega
  rcases c1 with c1 | c1 | c1 | c1 | c1
  · have ec1 : x2 = 0 := i32_eq.mpr (by rw [c1]; rfl)
    subst ec1
    refine lv_iconst (v := 1) hx hb dX11_power_0 (by decide) ?_
    refine lv_istore_n (lv' := [(2, .int 1), (0, .int 100), (1, .int 0)]) hx hb dX11_power_1 rfl hl (by decide) rfl (fun ls hl => ?_)
    refine lv_iconst (v := 0) hx hb dX11_power_2 (by decide) ?_
    refine lv_istore_n (lv' := [(3, .int 0), (2, .int 1), (0, .int 100), (1, .int 0)]) hx hb dX11_power_3 rfl hl (by decide) rfl (fun ls hl => ?_)
    refine lv_iload_n hx hb dX11_power_4 rfl (lv_at hl 0 rfl) ?_
    refine lv_iload_n hx hb dX11_power_5 rfl (lv_at hl 3 rfl) ?_
    refine ct_ge (tgt := 19) (X := 0) (Y := 0) hx hb dX11_power_6 (by decide) rfl rfl (by omega) ?_
    refine lv_iload_n hx hb dX11_power_19 rfl (lv_at hl 1 rfl) ?_
    refine hret _ _ _ _ _ _ dX11_power_20 rfl ?_ hO
    exact ⟨(by first | decide | omega), rfl⟩
  · have ec1 : x2 = 1 := i32_eq.mpr (by rw [c1]; rfl)
    subst ec1
    refine lv_iconst (v := 1) hx hb dX11_power_0 (by decide) ?_
    refine lv_istore_n (lv' := [(2, .int 1), (0, .int 100), (1, .int 1)]) hx hb dX11_power_1 rfl hl (by decide) rfl (fun ls hl => ?_)
    refine lv_iconst (v := 0) hx hb dX11_power_2 (by decide) ?_
    refine lv_istore_n (lv' := [(3, .int 0), (2, .int 1), (0, .int 100), (1, .int 1)]) hx hb dX11_power_3 rfl hl (by decide) rfl (fun ls hl => ?_)
    refine lv_iload_n hx hb dX11_power_4 rfl (lv_at hl 0 rfl) ?_
    refine lv_iload_n hx hb dX11_power_5 rfl (lv_at hl 3 rfl) ?_
    refine cn_ge (X := 0) (Y := 1) hx hb dX11_power_6 rfl rfl (by omega) ?_ (tgt := 19) (by decide)
    refine lv_iload_n hx hb dX11_power_9 rfl (lv_at hl 1 rfl) ?_
    refine lv_iload_n hx hb dX11_power_10 rfl (lv_at hl 2 rfl) ?_
    refine lv_imul hx hb dX11_power_11 ?_
    refine tE (y := 100) rfl ?_
    refine lv_istore_n (lv' := [(2, .int 100), (3, .int 0), (0, .int 100), (1, .int 1)]) hx hb dX11_power_12 rfl hl (by decide) rfl (fun ls hl => ?_)
    refine lv_iinc (v := 1) (lv' := [(3, .int 1), (2, .int 100), (0, .int 100), (1, .int 1)]) hx hb dX11_power_13 hl (k := 1) rfl rfl (by decide) rfl (fun ls hl => ?_)
    refine lv_goto (tgt := 4) hx hb dX11_power_16 (by decide) ?_
    refine lv_iload_n hx hb dX11_power_4 rfl (lv_at hl 0 rfl) ?_
    refine lv_iload_n hx hb dX11_power_5 rfl (lv_at hl 3 rfl) ?_
    refine ct_ge (tgt := 19) (X := 1) (Y := 1) hx hb dX11_power_6 (by decide) rfl rfl (by omega) ?_
    refine lv_iload_n hx hb dX11_power_19 rfl (lv_at hl 1 rfl) ?_
    refine hret _ _ _ _ _ _ dX11_power_20 rfl ?_ hO
    exact ⟨(by first | decide | omega), rfl⟩
  · have ec1 : x2 = 2 := i32_eq.mpr (by rw [c1]; rfl)
    subst ec1
    refine lv_iconst (v := 1) hx hb dX11_power_0 (by decide) ?_
    refine lv_istore_n (lv' := [(2, .int 1), (0, .int 100), (1, .int 2)]) hx hb dX11_power_1 rfl hl (by decide) rfl (fun ls hl => ?_)
    refine lv_iconst (v := 0) hx hb dX11_power_2 (by decide) ?_
    refine lv_istore_n (lv' := [(3, .int 0), (2, .int 1), (0, .int 100), (1, .int 2)]) hx hb dX11_power_3 rfl hl (by decide) rfl (fun ls hl => ?_)
    refine lv_iload_n hx hb dX11_power_4 rfl (lv_at hl 0 rfl) ?_
    refine lv_iload_n hx hb dX11_power_5 rfl (lv_at hl 3 rfl) ?_
    refine cn_ge (X := 0) (Y := 2) hx hb dX11_power_6 rfl rfl (by omega) ?_ (tgt := 19) (by decide)
    refine lv_iload_n hx hb dX11_power_9 rfl (lv_at hl 1 rfl) ?_
    refine lv_iload_n hx hb dX11_power_10 rfl (lv_at hl 2 rfl) ?_
    refine lv_imul hx hb dX11_power_11 ?_
    refine tE (y := 100) rfl ?_
    refine lv_istore_n (lv' := [(2, .int 100), (3, .int 0), (0, .int 100), (1, .int 2)]) hx hb dX11_power_12 rfl hl (by decide) rfl (fun ls hl => ?_)
    refine lv_iinc (v := 1) (lv' := [(3, .int 1), (2, .int 100), (0, .int 100), (1, .int 2)]) hx hb dX11_power_13 hl (k := 1) rfl rfl (by decide) rfl (fun ls hl => ?_)
    refine lv_goto (tgt := 4) hx hb dX11_power_16 (by decide) ?_
    refine lv_iload_n hx hb dX11_power_4 rfl (lv_at hl 0 rfl) ?_
    refine lv_iload_n hx hb dX11_power_5 rfl (lv_at hl 3 rfl) ?_
    refine cn_ge (X := 1) (Y := 2) hx hb dX11_power_6 rfl rfl (by omega) ?_ (tgt := 19) (by decide)
    refine lv_iload_n hx hb dX11_power_9 rfl (lv_at hl 1 rfl) ?_
    refine lv_iload_n hx hb dX11_power_10 rfl (lv_at hl 2 rfl) ?_
    refine lv_imul hx hb dX11_power_11 ?_
    refine tE (y := 10000) rfl ?_
    refine lv_istore_n (lv' := [(2, .int 10000), (3, .int 1), (0, .int 100), (1, .int 2)]) hx hb dX11_power_12 rfl hl (by decide) rfl (fun ls hl => ?_)
    refine lv_iinc (v := 2) (lv' := [(3, .int 2), (2, .int 10000), (0, .int 100), (1, .int 2)]) hx hb dX11_power_13 hl (k := 1) rfl rfl (by decide) rfl (fun ls hl => ?_)
    refine lv_goto (tgt := 4) hx hb dX11_power_16 (by decide) ?_
    refine lv_iload_n hx hb dX11_power_4 rfl (lv_at hl 0 rfl) ?_
    refine lv_iload_n hx hb dX11_power_5 rfl (lv_at hl 3 rfl) ?_
    refine ct_ge (tgt := 19) (X := 2) (Y := 2) hx hb dX11_power_6 (by decide) rfl rfl (by omega) ?_
    refine lv_iload_n hx hb dX11_power_19 rfl (lv_at hl 1 rfl) ?_
    refine hret _ _ _ _ _ _ dX11_power_20 rfl ?_ hO
    exact ⟨(by first | decide | omega), rfl⟩
  · have ec1 : x2 = 3 := i32_eq.mpr (by rw [c1]; rfl)
    subst ec1
    refine lv_iconst (v := 1) hx hb dX11_power_0 (by decide) ?_
    refine lv_istore_n (lv' := [(2, .int 1), (0, .int 100), (1, .int 3)]) hx hb dX11_power_1 rfl hl (by decide) rfl (fun ls hl => ?_)
    refine lv_iconst (v := 0) hx hb dX11_power_2 (by decide) ?_
    refine lv_istore_n (lv' := [(3, .int 0), (2, .int 1), (0, .int 100), (1, .int 3)]) hx hb dX11_power_3 rfl hl (by decide) rfl (fun ls hl => ?_)
    refine lv_iload_n hx hb dX11_power_4 rfl (lv_at hl 0 rfl) ?_
    refine lv_iload_n hx hb dX11_power_5 rfl (lv_at hl 3 rfl) ?_
    refine cn_ge (X := 0) (Y := 3) hx hb dX11_power_6 rfl rfl (by omega) ?_ (tgt := 19) (by decide)
    refine lv_iload_n hx hb dX11_power_9 rfl (lv_at hl 1 rfl) ?_
    refine lv_iload_n hx hb dX11_power_10 rfl (lv_at hl 2 rfl) ?_
    refine lv_imul hx hb dX11_power_11 ?_
    refine tE (y := 100) rfl ?_
    refine lv_istore_n (lv' := [(2, .int 100), (3, .int 0), (0, .int 100), (1, .int 3)]) hx hb dX11_power_12 rfl hl (by decide) rfl (fun ls hl => ?_)
    refine lv_iinc (v := 1) (lv' := [(3, .int 1), (2, .int 100), (0, .int 100), (1, .int 3)]) hx hb dX11_power_13 hl (k := 1) rfl rfl (by decide) rfl (fun ls hl => ?_)
    refine lv_goto (tgt := 4) hx hb dX11_power_16 (by decide) ?_
    refine lv_iload_n hx hb dX11_power_4 rfl (lv_at hl 0 rfl) ?_
    refine lv_iload_n hx hb dX11_power_5 rfl (lv_at hl 3 rfl) ?_
    refine cn_ge (X := 1) (Y := 3) hx hb dX11_power_6 rfl rfl (by omega) ?_ (tgt := 19) (by decide)
    refine lv_iload_n hx hb dX11_power_9 rfl (lv_at hl 1 rfl) ?_
    refine lv_iload_n hx hb dX11_power_10 rfl (lv_at hl 2 rfl) ?_
    refine lv_imul hx hb dX11_power_11 ?_
    refine tE (y := 10000) rfl ?_
    refine lv_istore_n (lv' := [(2, .int 10000), (3, .int 1), (0, .int 100), (1, .int 3)]) hx hb dX11_power_12 rfl hl (by decide) rfl (fun ls hl => ?_)
    refine lv_iinc (v := 2) (lv' := [(3, .int 2), (2, .int 10000), (0, .int 100), (1, .int 3)]) hx hb dX11_power_13 hl (k := 1) rfl rfl (by decide) rfl (fun ls hl => ?_)
    refine lv_goto (tgt := 4) hx hb dX11_power_16 (by decide) ?_
    refine lv_iload_n hx hb dX11_power_4 rfl (lv_at hl 0 rfl) ?_
    refine lv_iload_n hx hb dX11_power_5 rfl (lv_at hl 3 rfl) ?_
    refine cn_ge (X := 2) (Y := 3) hx hb dX11_power_6 rfl rfl (by omega) ?_ (tgt := 19) (by decide)
    refine lv_iload_n hx hb dX11_power_9 rfl (lv_at hl 1 rfl) ?_
    refine lv_iload_n hx hb dX11_power_10 rfl (lv_at hl 2 rfl) ?_
    refine lv_imul hx hb dX11_power_11 ?_
    refine tE (y := 1000000) rfl ?_
    refine lv_istore_n (lv' := [(2, .int 1000000), (3, .int 2), (0, .int 100), (1, .int 3)]) hx hb dX11_power_12 rfl hl (by decide) rfl (fun ls hl => ?_)
    refine lv_iinc (v := 3) (lv' := [(3, .int 3), (2, .int 1000000), (0, .int 100), (1, .int 3)]) hx hb dX11_power_13 hl (k := 1) rfl rfl (by decide) rfl (fun ls hl => ?_)
    refine lv_goto (tgt := 4) hx hb dX11_power_16 (by decide) ?_
    refine lv_iload_n hx hb dX11_power_4 rfl (lv_at hl 0 rfl) ?_
    refine lv_iload_n hx hb dX11_power_5 rfl (lv_at hl 3 rfl) ?_
    refine ct_ge (tgt := 19) (X := 3) (Y := 3) hx hb dX11_power_6 (by decide) rfl rfl (by omega) ?_
    refine lv_iload_n hx hb dX11_power_19 rfl (lv_at hl 1 rfl) ?_
    refine hret _ _ _ _ _ _ dX11_power_20 rfl ?_ hO
    exact ⟨(by first | decide | omega), rfl⟩
  · have ec1 : x2 = 4 := i32_eq.mpr (by rw [c1]; rfl)
    subst ec1
    refine lv_iconst (v := 1) hx hb dX11_power_0 (by decide) ?_
    refine lv_istore_n (lv' := [(2, .int 1), (0, .int 100), (1, .int 4)]) hx hb dX11_power_1 rfl hl (by decide) rfl (fun ls hl => ?_)
    refine lv_iconst (v := 0) hx hb dX11_power_2 (by decide) ?_
    refine lv_istore_n (lv' := [(3, .int 0), (2, .int 1), (0, .int 100), (1, .int 4)]) hx hb dX11_power_3 rfl hl (by decide) rfl (fun ls hl => ?_)
    refine lv_iload_n hx hb dX11_power_4 rfl (lv_at hl 0 rfl) ?_
    refine lv_iload_n hx hb dX11_power_5 rfl (lv_at hl 3 rfl) ?_
    refine cn_ge (X := 0) (Y := 4) hx hb dX11_power_6 rfl rfl (by omega) ?_ (tgt := 19) (by decide)
    refine lv_iload_n hx hb dX11_power_9 rfl (lv_at hl 1 rfl) ?_
    refine lv_iload_n hx hb dX11_power_10 rfl (lv_at hl 2 rfl) ?_
    refine lv_imul hx hb dX11_power_11 ?_
    refine tE (y := 100) rfl ?_
    refine lv_istore_n (lv' := [(2, .int 100), (3, .int 0), (0, .int 100), (1, .int 4)]) hx hb dX11_power_12 rfl hl (by decide) rfl (fun ls hl => ?_)
    refine lv_iinc (v := 1) (lv' := [(3, .int 1), (2, .int 100), (0, .int 100), (1, .int 4)]) hx hb dX11_power_13 hl (k := 1) rfl rfl (by decide) rfl (fun ls hl => ?_)
    refine lv_goto (tgt := 4) hx hb dX11_power_16 (by decide) ?_
    refine lv_iload_n hx hb dX11_power_4 rfl (lv_at hl 0 rfl) ?_
    refine lv_iload_n hx hb dX11_power_5 rfl (lv_at hl 3 rfl) ?_
    refine cn_ge (X := 1) (Y := 4) hx hb dX11_power_6 rfl rfl (by omega) ?_ (tgt := 19) (by decide)
    refine lv_iload_n hx hb dX11_power_9 rfl (lv_at hl 1 rfl) ?_
    refine lv_iload_n hx hb dX11_power_10 rfl (lv_at hl 2 rfl) ?_
    refine lv_imul hx hb dX11_power_11 ?_
    refine tE (y := 10000) rfl ?_
    refine lv_istore_n (lv' := [(2, .int 10000), (3, .int 1), (0, .int 100), (1, .int 4)]) hx hb dX11_power_12 rfl hl (by decide) rfl (fun ls hl => ?_)
    refine lv_iinc (v := 2) (lv' := [(3, .int 2), (2, .int 10000), (0, .int 100), (1, .int 4)]) hx hb dX11_power_13 hl (k := 1) rfl rfl (by decide) rfl (fun ls hl => ?_)
    refine lv_goto (tgt := 4) hx hb dX11_power_16 (by decide) ?_
    refine lv_iload_n hx hb dX11_power_4 rfl (lv_at hl 0 rfl) ?_
    refine lv_iload_n hx hb dX11_power_5 rfl (lv_at hl 3 rfl) ?_
    refine cn_ge (X := 2) (Y := 4) hx hb dX11_power_6 rfl rfl (by omega) ?_ (tgt := 19) (by decide)
    refine lv_iload_n hx hb dX11_power_9 rfl (lv_at hl 1 rfl) ?_
    refine lv_iload_n hx hb dX11_power_10 rfl (lv_at hl 2 rfl) ?_
    refine lv_imul hx hb dX11_power_11 ?_
    refine tE (y := 1000000) rfl ?_
    refine lv_istore_n (lv' := [(2, .int 1000000), (3, .int 2), (0, .int 100), (1, .int 4)]) hx hb dX11_power_12 rfl hl (by decide) rfl (fun ls hl => ?_)
    refine lv_iinc (v := 3) (lv' := [(3, .int 3), (2, .int 1000000), (0, .int 100), (1, .int 4)]) hx hb dX11_power_13 hl (k := 1) rfl rfl (by decide) rfl (fun ls hl => ?_)
    refine lv_goto (tgt := 4) hx hb dX11_power_16 (by decide) ?_
    refine lv_iload_n hx hb dX11_power_4 rfl (lv_at hl 0 rfl) ?_
    refine lv_iload_n hx hb dX11_power_5 rfl (lv_at hl 3 rfl) ?_
    refine cn_ge (X := 3) (Y := 4) hx hb dX11_power_6 rfl rfl (by omega) ?_ (tgt := 19) (by decide)
    refine lv_iload_n hx hb dX11_power_9 rfl (lv_at hl 1 rfl) ?_
    refine lv_iload_n hx hb dX11_power_10 rfl (lv_at hl 2 rfl) ?_
    refine lv_imul hx hb dX11_power_11 ?_
    refine tE (y := 100000000) rfl ?_
    refine lv_istore_n (lv' := [(2, .int 100000000), (3, .int 3), (0, .int 100), (1, .int 4)]) hx hb dX11_power_12 rfl hl (by decide) rfl (fun ls hl => ?_)
    refine lv_iinc (v := 4) (lv' := [(3, .int 4), (2, .int 100000000), (0, .int 100), (1, .int 4)]) hx hb dX11_power_13 hl (k := 1) rfl rfl (by decide) rfl (fun ls hl => ?_)
    refine lv_goto (tgt := 4) hx hb dX11_power_16 (by decide) ?_
    refine lv_iload_n hx hb dX11_power_4 rfl (lv_at hl 0 rfl) ?_
    refine lv_iload_n hx hb dX11_power_5 rfl (lv_at hl 3 rfl) ?_
    refine ct_ge (tgt := 19) (X := 4) (Y := 4) hx hb dX11_power_6 (by decide) rfl rfl (by omega) ?_
    refine lv_iload_n hx hb dX11_power_19 rfl (lv_at hl 1 rfl) ?_
    refine hret _ _ _ _ _ _ dX11_power_20 rfl ?_ hO
    exact ⟨(by first | decide | omega), rfl⟩
set_option maxHeartbeats 4000000 in
set_option maxRecDepth 100000 in
theorem T_X11_power (l : Launch) (D : va_G) (cy : Nat → ClassId) (a : Nat → Nat) (u : St) (hJ : MI a u) (x1 : Int32) (x2 : Int32) (hx_x2 : 0 ≤ x2.toInt ∧ x2.toInt ≤ 6) : Mi l D cy (mW cy a) yX11_power (.code yX11_power cX11_power 4 (some .int)) (rmo 0 0) [.int x1, .int x2] u (fun (r : Int32) (u' : St) => u' = u) := by
  refine Mi.of (own := RX11) rfl (by decide) (Nat.le_of_ble_eq_true rfl) ?_
  have hT : Km0 u u := Km0.rf
  have hJ0 := hJ
  intro p e s m below meth c A Q ls C hret hO hl
  obtain ⟨hx, hb, hml, hown, ht, hK, hA⟩ := id C
  have hl : lv_has ls 4 [(0, .int x1), (1, .int x2)] := hl
  refine lv_iconst (v := 1) hx hb dX11_power_0 (by decide) ?_
  refine lv_istore_n (lv' := [(2, .int 1), (0, .int x1), (1, .int x2)]) hx hb dX11_power_1 rfl hl (by decide) rfl (fun ls hl => ?_)
  refine lv_iconst (v := 0) hx hb dX11_power_2 (by decide) ?_
  refine lv_istore_n (lv' := [(3, .int 0), (2, .int 1), (0, .int x1), (1, .int x2)]) hx hb dX11_power_3 rfl hl (by decide) rfl (fun ls hl => ?_)
  have LP_4_k1 : ∀ (n : Nat) (H : Heap) (locs : List Loc) (ls : Array Slot) (k_k1 : Int32) (v_k1 : Int32), Wo D A (mW cy a u) s.heap H locs → lv_has ls 4 [(3, .int k_k1), (2, .int v_k1), (0, .int x1), (1, .int x2)] → 0 ≤ k_k1.toInt ∧ k_k1.toInt ≤ 6 → 6 - k_k1.toInt < (n : Int) → W p l e (rmo 0 0) s m [.int x1, .int x2].toArray below meth c H locs 0 0 Q (F0 m 4 ls []) := by
    intro n
    induction n with
    | zero =>
      intro H locs ls k_k1 v_k1 hO hl iv0_k1 hm_k1
      exact absurd hm_k1 (by omega)
    | succ n ih_k1 =>
      intro H locs ls k_k1 v_k1 hO hl iv0_k1 hm_k1
      refine lv_iload_n hx hb dX11_power_4 rfl (lv_at hl 0 rfl) ?_
      refine lv_iload_n hx hb dX11_power_5 rfl (lv_at hl 3 rfl) ?_
      refine cs_ge (tgt := 19) (X := (k_k1).toInt) (Y := (x2).toInt) hx hb dX11_power_6 (by decide) rfl rfl (fun c2 => ?_) (fun c2 => ?_)
      · refine lv_iload_n hx hb dX11_power_19 rfl (lv_at hl 1 rfl) ?_
        refine hret _ _ _ _ _ _ dX11_power_20 rfl ?_ hO
        exact rfl
      · refine lv_iload_n hx hb dX11_power_9 rfl (lv_at hl 1 rfl) ?_
        refine lv_iload_n hx hb dX11_power_10 rfl (lv_at hl 2 rfl) ?_
        refine lv_imul hx hb dX11_power_11 ?_
        refine lv_topi (fun z3 ez3 => ?_)
        refine lv_istore_n (lv' := [(2, .int z3), (3, .int k_k1), (0, .int x1), (1, .int x2)]) hx hb dX11_power_12 rfl hl (by decide) rfl (fun ls hl => ?_)
        obtain ⟨z4, ez4⟩ : ∃ z : Int32, z = k_k1 + Int32.ofInt 1 := ⟨_, rfl⟩
        have e5 : z4.toInt = (k_k1).toInt + 1 := by rw [ez4]; exact i_add rfl rfl (by omega)
        refine lv_iinc (v := z4) (lv' := [(3, .int z4), (2, .int z3), (0, .int x1), (1, .int x2)]) hx hb dX11_power_13 hl (k := 1) rfl ez4.symm (by decide) rfl (fun ls hl => ?_)
        refine lv_goto (tgt := 4) hx hb dX11_power_16 (by decide) ?_
        exact ih_k1 _ _ _ (z4) (z3) hO (lv_sub hl [0, 1, 2, 3] rfl) (by first | decide | omega) (by first | decide | omega)
  have zc6 : (0 : Int32).toInt = 0 := rfl
  have zc7 : (1 : Int32).toInt = 1 := rfl
  exact LP_4_k1 4000 _ _ _ (0) (1) hO (lv_sub hl [0, 1, 2, 3] rfl) (by first | decide | omega) (by first | decide | omega)
theorem dX11_outcome_0 : decode cX11_outcome 0 = .ok (.iload_n 0, 1) := by decide +kernel
theorem dX11_outcome_1 : decode cX11_outcome 1 = .ok (.ifCond .le 7, 3) := by decide +kernel
theorem dX11_outcome_4 : decode cX11_outcome 4 = .ok (.iconst 1, 1) := by decide +kernel
theorem dX11_outcome_5 : decode cX11_outcome 5 = .ok (.goto 12, 3) := by decide +kernel
theorem dX11_outcome_8 : decode cX11_outcome 8 = .ok (.iload_n 0, 1) := by decide +kernel
theorem dX11_outcome_9 : decode cX11_outcome 9 = .ok (.ifCond .ge 7, 3) := by decide +kernel
theorem dX11_outcome_12 : decode cX11_outcome 12 = .ok (.iconst 2, 1) := by decide +kernel
theorem dX11_outcome_13 : decode cX11_outcome 13 = .ok (.goto 4, 3) := by decide +kernel
theorem dX11_outcome_16 : decode cX11_outcome 16 = .ok (.iconst 0, 1) := by decide +kernel
theorem dX11_outcome_17 : decode cX11_outcome 17 = .ok (.ireturn, 1) := by decide +kernel
theorem wd_1827 : (Cond.code ⟨"WebCourtModel", "outcome", "(I)I"⟩ prog_13_method_62_code (1 : Nat) (Option.some FieldType.int)) ∈ gtb := gtb_c8 38 (by decide +kernel) rfl
set_option maxHeartbeats 4000000 in
set_option maxRecDepth 100000 in
theorem T_X11_outcome (l : Launch) (D : va_G) (cy : Nat → ClassId) (a : Nat → Nat) (u : St) (hJ : MI a u) (x1 : Int32)  : Mi l D cy (mW cy a) yX11_outcome (.code yX11_outcome cX11_outcome 1 (some .int)) (rmo 0 0) [.int x1] u (fun (r : Int32) (u' : St) => (0 ≤ r.toInt ∧ r.toInt ≤ 2) ∧ (u' = u)) := by
  refine Mi.of (own := RX11) rfl (by decide) (Nat.le_of_ble_eq_true rfl) ?_
  have hT : Km0 u u := Km0.rf
  have hJ0 := hJ
  intro p e s m below meth c A Q ls C hret hO hl
  obtain ⟨hx, hb, hml, hown, ht, hK, hA⟩ := id C
  have hl : lv_has ls 1 [(0, .int x1)] := hl
  refine lv_iload_n hx hb dX11_outcome_0 rfl (lv_at hl 0 rfl) ?_
  refine bs_le (tgt := 8) (X := (x1).toInt) hx hb dX11_outcome_1 (by decide) rfl (fun c1 => ?_) (fun c1 => ?_)
  · refine lv_iload_n hx hb dX11_outcome_8 rfl (lv_at hl 0 rfl) ?_
    refine bs_ge (tgt := 16) (X := (x1).toInt) hx hb dX11_outcome_9 (by decide) rfl (fun c2 => ?_) (fun c2 => ?_)
    · refine lv_iconst (v := 0) hx hb dX11_outcome_16 (by decide) ?_
      refine hret _ _ _ _ _ _ dX11_outcome_17 rfl ?_ hO
      exact ⟨(by first | decide | omega), rfl⟩
    · refine lv_iconst (v := 2) hx hb dX11_outcome_12 (by decide) ?_
      refine lv_goto (tgt := 17) hx hb dX11_outcome_13 (by decide) ?_
      refine hret _ _ _ _ _ _ dX11_outcome_17 rfl ?_ hO
      exact ⟨(by first | decide | omega), rfl⟩
  · refine lv_iconst (v := 1) hx hb dX11_outcome_4 (by decide) ?_
    refine lv_goto (tgt := 17) hx hb dX11_outcome_5 (by decide) ?_
    refine hret _ _ _ _ _ _ dX11_outcome_17 rfl ?_ hO
    exact ⟨(by first | decide | omega), rfl⟩
