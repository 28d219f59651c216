/-! walks by lines that are not sticky -/
def Wk (A : Nat → Nat → Prop) (K x : Nat) : Nat → Nat → Prop
  | 0, y => x = y
  | n + 1, y => ∃ z, z < K ∧ Wk A K x n z ∧ A z y
theorem Wk_pre {A : Nat → Nat → Prop} {K x e : Nat} (hx : x < K) (ha : A x e) : ∀ {m y : Nat}, Wk A K e m y → Wk A K x (m + 1) y
  | 0, y, h => by
    have h0 : e = y := h
    subst h0
    exact ⟨x, hx, rfl, ha⟩
  | m + 1, y, h => by
    obtain ⟨z, hz, hw, hy⟩ := h
    exact ⟨z, hz, Wk_pre hx ha hw, hy⟩
theorem Wk_fst {A : Nat → Nat → Prop} {K x : Nat} : ∀ {m y : Nat}, y < K → Wk A K x (m + 1) y → ∃ e, e < K ∧ A x e ∧ Wk A K e m y
  | 0, y, hy, h => by
    obtain ⟨z, hz, hw, ha⟩ := h
    have h0 : x = z := hw
    subst h0
    exact ⟨y, hy, ha, rfl⟩
  | m + 1, y, hy, h => by
    obtain ⟨z, hz, hw, ha⟩ := h
    obtain ⟨e, he, hb, hc⟩ := Wk_fst hz hw
    exact ⟨e, he, hb, z, hz, hc, ha⟩
/-- the fewest -/
def Mn (A : Nat → Nat → Prop) (K x m y : Nat) : Prop := Wk A K x m y ∧ ∀ m', m' < m → ¬ Wk A K x m' y
theorem Mn_prev {A : Nat → Nat → Prop} {K x m y : Nat} (h : Mn A K x (m + 1) y) : ∃ z, z < K ∧ Mn A K x m z := by
  obtain ⟨⟨z, hz, hw, ha⟩, h2⟩ := h
  exact ⟨z, hz, hw, fun m' hm hw' => h2 (m' + 1) (by omega) ⟨z, hz, hw', ha⟩⟩
def gF8 (F : Nat → Int32) (x y : Nat) : Int := (F (8 * x + y)).toInt
def Ds (A : Nat → Nat → Prop) (K : Nat) (F : Nat → Int32) (x n y : Nat) : Prop := (gF8 F x y = 1000 ∧ ∀ m, m ≤ n → ¬ Wk A K x m y) ∨ ∃ m : Nat, m ≤ n ∧ gF8 F x y = m ∧ Mn A K x m y
def Lv (A : Nat → Nat → Prop) (K : Nat) (F : Nat → Int32) (x n : Nat) : Prop := ∀ y, y < K → Ds A K F x n y
theorem Ds_mn {A : Nat → Nat → Prop} {K : Nat} {F : Nat → Int32} {x n m y : Nat} (h : Ds A K F x n y) (hm : m ≤ n) (hn : Mn A K x m y) : gF8 F x y = m := by
  rcases h with ⟨_, h⟩ | ⟨m2, _, h1, h2, h3⟩
  · exact absurd hn.1 (h m hm)
  · rcases Nat.lt_trichotomy m m2 with q | q | q
    · exact absurd hn.1 (h3 m q)
    · rw [q]
      exact h1
    · exact absurd h2 (hn.2 m2 q)
theorem way_step {A : Nat → Nat → Prop} {K : Nat} {F : Nat → Int32} {x y : Nat} (h : ∀ x, x < K → Lv A K F x K) (hx : x < K) (hy : y < K) (h1 : ¬ gF8 F x y = 1000) (hne : ¬ x = y) : ∃ e, e < K ∧ A x e ∧ gF8 F e y = gF8 F x y - 1 := by
  rcases h x hx y hy with ⟨q, _⟩ | ⟨m, hm, hd, hw, hmin⟩
  · exact absurd q h1
  · cases m with
    | zero => exact absurd hw hne
    | succ m0 =>
      obtain ⟨e, he, ha, hw2⟩ := Wk_fst hy hw
      refine ⟨e, he, ha, ?_⟩
      have hm0 : Mn A K e m0 y := ⟨hw2, fun m' hm' hw' => hmin (m' + 1) (by omega) (Wk_pre hx ha hw')⟩
      have h3 := Ds_mn (h e he y hy) (by omega) hm0
      rw [h3, hd]
      omega
theorem way_zero {A : Nat → Nat → Prop} {K : Nat} {F : Nat → Int32} {x y : Nat} (h : Lv A K F x K) (hy : y < K) (h1 : ¬ gF8 F x y = 1000) (hne : ¬ x = y) : 1 ≤ gF8 F x y := by
  rcases h y hy with ⟨q, _⟩ | ⟨m, hm, hd, hw, hmin⟩
  · exact absurd q h1
  · cases m with
    | zero => exact absurd hw hne
    | succ m0 => omega
def cntLe (g : Nat → Int) (n : Int) : Nat → Nat
  | 0 => 0
  | m + 1 => cntLe g n m + (if g m ≤ n then 1 else 0)
theorem cntLe_le {g : Nat → Int} {n : Int} : ∀ {m : Nat}, cntLe g n m ≤ m
  | 0 => Nat.le_refl _
  | m + 1 => by
    have h := cntLe_le (g := g) (n := n) (m := m)
    unfold cntLe
    by_cases q : g m ≤ n
    · rw [if_pos q]; omega
    · rw [if_neg q]; omega
theorem cntLe_mono {g : Nat → Int} {n : Int} : ∀ {m : Nat}, cntLe g n m ≤ cntLe g (n + 1) m
  | 0 => Nat.le_refl _
  | m + 1 => by
    have h := cntLe_mono (g := g) (n := n) (m := m)
    unfold cntLe
    by_cases q : g m ≤ n
    · rw [if_pos q, if_pos (by omega)]; omega
    · rw [if_neg q]; omega
theorem cntLe_step {g : Nat → Int} {n : Int} : ∀ {m : Nat}, (∃ z, z < m ∧ g z = n + 1) → cntLe g n m + 1 ≤ cntLe g (n + 1) m
  | 0, h => by
    obtain ⟨z, hz, _⟩ := h
    omega
  | m + 1, h => by
    obtain ⟨z, hz, hg⟩ := h
    unfold cntLe
    by_cases q : z = m
    · subst q
      have h1 := cntLe_mono (g := g) (n := n) (m := z)
      rw [if_neg (by omega), if_pos (by omega)]
      omega
    · have h1 := cntLe_step (g := g) (n := n) (m := m) ⟨z, by omega, hg⟩
      by_cases q : g m ≤ n
      · rw [if_pos q, if_pos (by omega)]; omega
      · rw [if_neg q]; omega
theorem cntLe_all {g : Nat → Int} {m : Nat} : ∀ {d : Nat}, (∀ j : Nat, j ≤ d → ∃ z, z < m ∧ g z = j) → d + 1 ≤ cntLe g d m
  | 0, h => by
    have h1 := cntLe_step (g := g) (n := -1) (m := m) (by
      obtain ⟨z, hz, hg⟩ := h 0 (Nat.le_refl _)
      exact ⟨z, hz, by omega⟩)
    have h2 : (-1 : Int) + 1 = ((0 : Nat) : Int) := rfl
    rw [h2] at h1
    omega
  | d + 1, h => by
    have h0 := cntLe_all (g := g) (m := m) (d := d) (fun j hj => h j (by omega))
    have h1 := cntLe_step (g := g) (n := (d : Int)) (m := m) (by
      obtain ⟨z, hz, hg⟩ := h (d + 1) (Nat.le_refl _)
      exact ⟨z, hz, by omega⟩)
    have h2 : (d : Int) + 1 = ((d + 1 : Nat) : Int) := by omega
    rw [h2] at h1
    omega
theorem Mn_all {A : Nat → Nat → Prop} {K x : Nat} : ∀ {m y : Nat}, y < K → Mn A K x m y → ∀ j, j ≤ m → ∃ z, z < K ∧ Mn A K x j z
  | 0, y, hy, h, j, hj => by
    have e : j = 0 := by omega
    subst e
    exact ⟨y, hy, h⟩
  | m + 1, y, hy, h, j, hj => by
    by_cases q : j = m + 1
    · subst q
      exact ⟨y, hy, h⟩
    · obtain ⟨z, hz, hm⟩ := Mn_prev h
      exact Mn_all hz hm j (by omega)
theorem way_bound {A : Nat → Nat → Prop} {K : Nat} {F : Nat → Int32} {x y : Nat} (h : Lv A K F x K) (hy : y < K) (h1 : ¬ gF8 F x y = 1000) : 0 ≤ gF8 F x y ∧ gF8 F x y + 1 ≤ K := by
  rcases h y hy with ⟨q, _⟩ | ⟨m, hm, hd, hw⟩
  · exact absurd q h1
  · have h2 := cntLe_all (g := gF8 F x) (m := K) (d := m) (fun j hj => by
      obtain ⟨z, hz, hmn⟩ := Mn_all hy hw j hj
      exact ⟨z, hz, Ds_mn (h z hz) (by omega) hmn⟩)
    have h3 := cntLe_le (g := gF8 F x) (n := (m : Int)) (m := K)
    rw [hd]
    omega
/-! how layFar lays a row -/
theorem g8_at {F : Nat → Int32} {x e : Nat} {v : Int32} : gF8 (upd F (8 * x + e) v) x e = v.toInt := by
  unfold gF8
  rw [upd_at]
theorem g8_ne {F : Nat → Int32} {x e y : Nat} {v : Int32} (h : ¬ y = e) : gF8 (upd F (8 * x + e) v) x y = gF8 F x y := by
  unfold gF8
  rw [upd_ne (by omega)]
theorem g8_row {F : Nat → Int32} {x x' e y : Nat} {v : Int32} (h : ¬ x' = x) (he : e < 8) (hy : y < 8) : gF8 (upd F (8 * x + e) v) x' y = gF8 F x' y := by
  unfold gF8
  rw [upd_ne (by omega)]
def Rws (A : Nat → Nat → Prop) (K : Nat) (F : Nat → Int32) (k : Nat) : Prop := ∀ x, x < k → Lv A K F x K
theorem Rws_up {A : Nat → Nat → Prop} {K : Nat} {F : Nat → Int32} {k e : Nat} {v : Int32} (h : Rws A K F k) (hK : K ≤ 8) (he : e < 8) : Rws A K (upd F (8 * k + e) v) k := by
  intro x hx y hy
  have h1 := h x hx y hy
  unfold Ds at h1 ⊢
  rw [g8_row (by omega) he (by omega)]
  exact h1
def Ini (F : Nat → Int32) (k o : Nat) : Prop := ∀ y, y < o → (y = k ∧ gF8 F k y = 0) ∨ (¬ y = k ∧ gF8 F k y = 1000)
theorem Ini_up {F : Nat → Int32} {k o : Nat} {v : Int32} (h : Ini F k o) (hv : (o = k ∧ v.toInt = 0) ∨ (¬ o = k ∧ v.toInt = 1000)) : Ini (upd F (8 * k + o) v) k (o + 1) := by
  intro y hy
  by_cases q : y = o
  · subst q
    rw [g8_at]
    exact hv
  · rw [g8_ne q]
    exact h y (by omega)
theorem Ini_end {A : Nat → Nat → Prop} {K : Nat} {F : Nat → Int32} {k : Nat} (h : Ini F k 8) (hK : K ≤ 8) : Lv A K F k 0 := by
  intro y hy
  rcases h y (by omega) with ⟨q, h1⟩ | ⟨q, h1⟩
  · exact Or.inr ⟨0, Nat.le_refl _, h1, q.symm, fun m' hm => absurd hm (by omega)⟩
  · refine Or.inl ⟨h1, fun m hm hw => q ?_⟩
    have e : m = 0 := by omega
    subst e
    exact hw.symm
def Me (A : Nat → Nat → Prop) (K : Nat) (F : Nat → Int32) (x n o e : Nat) (T : Nat → Prop) : Prop := ∀ y, y < K → (gF8 F x y = 1000 ∧ (∀ m, m ≤ n → ¬ Wk A K x m y) ∧ (∀ z, z < o → gF8 F x z = n → ¬ A z y) ∧ (y < e → ¬ T y)) ∨ (∃ m : Nat, m ≤ n ∧ gF8 F x y = m ∧ Mn A K x m y) ∨ (gF8 F x y = n + 1 ∧ (∀ m, m ≤ n → ¬ Wk A K x m y) ∧ Wk A K x (n + 1) y)
def Tt (A : Nat → Nat → Prop) (F : Nat → Int32) (x n o : Nat) (T : Nat → Prop) : Prop := ∀ y, y < 8 → (T y ↔ (A o y ∧ gF8 F x o = n))
def Md (A : Nat → Nat → Prop) (K : Nat) (F : Nat → Int32) (x n o : Nat) : Prop := Me A K F x n o 0 (fun _ => False)
theorem Md_start {A : Nat → Nat → Prop} {K : Nat} {F : Nat → Int32} {x n : Nat} (h : Lv A K F x n) : Md A K F x n 0 := by
  intro y hy
  rcases h y hy with ⟨h1, h2⟩ | h1
  · exact Or.inl ⟨h1, h2, fun z hz => absurd hz (by omega), fun q => absurd q (by omega)⟩
  · exact Or.inr (Or.inl h1)
theorem Md_end {A : Nat → Nat → Prop} {K : Nat} {F : Nat → Int32} {x n : Nat} (h : Md A K F x n K) : Lv A K F x (n + 1) := by
  intro y hy
  rcases h y hy with ⟨h1, h2, h3, _⟩ | ⟨m, h1, h2, h3⟩ | ⟨h1, h2, h3⟩
  · refine Or.inl ⟨h1, fun m hm hw => ?_⟩
    by_cases q : m ≤ n
    · exact h2 m q hw
    · have e : m = n + 1 := by omega
      subst e
      obtain ⟨z, hz, hwz, ha⟩ := hw
      rcases h z hz with ⟨_, g2, _⟩ | ⟨m, g1, g2, g3⟩ | ⟨_, g2, _⟩
      · exact g2 n (Nat.le_refl _) hwz
      · by_cases q2 : m = n
        · subst q2
          exact h3 z hz g2 ha
        · exact h2 (m + 1) (by omega) ⟨z, hz, g3.1, ha⟩
      · exact g2 n (Nat.le_refl _) hwz
  · exact Or.inr ⟨m, by omega, h2, h3⟩
  · exact Or.inr ⟨n + 1, Nat.le_refl _, by rw [h1]; omega, h3, fun m' hm => h2 m' (by omega)⟩
theorem Me_start {A : Nat → Nat → Prop} {K : Nat} {F : Nat → Int32} {x n o : Nat} {T : Nat → Prop} (h : Md A K F x n o) : Me A K F x n o 0 T := by
  intro y hy
  rcases h y hy with ⟨h1, h2, h3, _⟩ | h1
  · exact Or.inl ⟨h1, h2, h3, fun q => absurd q (by omega)⟩
  · exact Or.inr h1
theorem Me_end {A : Nat → Nat → Prop} {K : Nat} {F : Nat → Int32} {x n o e : Nat} {T : Nat → Prop} (h : Me A K F x n o e T) (ht : Tt A F x n o T) (hK : K ≤ 8) (he : K ≤ e) : Md A K F x n (o + 1) := by
  intro y hy
  rcases h y hy with ⟨h1, h2, h3, h4⟩ | h1
  · refine Or.inl ⟨h1, h2, fun z hz hg ha => ?_, fun q => absurd q (by omega)⟩
    by_cases q : z = o
    · subst q
      exact h4 (by omega) ((ht y (by omega)).mpr ⟨ha, hg⟩)
    · exact h3 z (by omega) hg ha
  · exact Or.inr h1
theorem Me_skip {A : Nat → Nat → Prop} {K : Nat} {F : Nat → Int32} {x n o e : Nat} {T : Nat → Prop} (h : Me A K F x n o e T) (hs : ¬ T e ∨ ¬ gF8 F x e = 1000) : Me A K F x n o (e + 1) T := by
  intro y hy
  rcases h y hy with ⟨h1, h2, h3, h4⟩ | h1
  · refine Or.inl ⟨h1, h2, h3, fun q ht => ?_⟩
    by_cases q2 : y = e
    · subst q2
      rcases hs with hs | hs
      · exact hs ht
      · exact hs h1
    · exact h4 (by omega) ht
  · exact Or.inr h1
theorem Me_put {A : Nat → Nat → Prop} {K : Nat} {F : Nat → Int32} {x n o e : Nat} {T : Nat → Prop} {v : Int32} (h : Me A K F x n o e T) (ht : Tt A F x n o T) (hK : K ≤ 8) (ho : o < K) (he : e < K) (hn : n < 100) (hT : T e) (h1000 : gF8 F x e = 1000) (hv : v.toInt = n + 1) : Me A K (upd F (8 * x + e) v) x n o (e + 1) T ∧ Tt A (upd F (8 * x + e) v) x n o T := by
  have ha := (ht e (by omega)).mp hT
  have hoe : ¬ o = e := by
    intro q
    rw [q] at ha
    omega
  have hwo : Wk A K x n o := by
    rcases h o ho with ⟨g1, _⟩ | ⟨m, g1, g2, g3⟩ | ⟨g1, _⟩
    · omega
    · have q : m = n := by omega
      rw [← q]
      exact g3.1
    · omega
  refine ⟨?_, ?_⟩
  · intro y hy
    by_cases q : y = e
    · subst q
      rcases h y hy with ⟨g1, g2, _⟩ | ⟨m, g1, g2, g3⟩ | ⟨g1, _⟩
      · exact Or.inr (Or.inr ⟨by rw [g8_at]; exact hv, g2, o, ho, hwo, ha.1⟩)
      · omega
      · omega
    · rw [g8_ne q]
      rcases h y hy with ⟨g1, g2, g3, g4⟩ | g1
      · refine Or.inl ⟨g1, g2, fun z hz hg => ?_, fun q2 => g4 (by omega)⟩
        by_cases q3 : z = e
        · subst q3
          rw [g8_at] at hg
          omega
        · rw [g8_ne q3] at hg
          exact g3 z hz hg
      · exact Or.inr g1
  · intro y hy
    rw [g8_ne hoe]
    exact ht y hy
