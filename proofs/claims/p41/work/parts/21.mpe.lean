/-! the pile of what is still to come in a law, while it is read -/
def cntW (f : Nat → Int32) : Nat → Int
  | 0 => 0
  | n + 1 => cntW f n + (if f n = 3 ∨ f n = 7 then 1 else 0)
def cntB (f : Nat → Int32) : Nat → Int
  | 0 => 0
  | n + 1 => cntB f n + (if f n = 3 ∨ f n = 7 ∨ f n = 8 then 0 else 1)
theorem cntW_congr {f g : Nat → Int32} : ∀ {n : Nat}, (∀ x, x < n → f x = g x) → cntW f n = cntW g n
  | 0, _ => rfl
  | n + 1, h => by
    unfold cntW
    rw [cntW_congr (n := n) (fun x hx => h x (by omega)), h n (by omega)]
theorem cntB_congr {f g : Nat → Int32} : ∀ {n : Nat}, (∀ x, x < n → f x = g x) → cntB f n = cntB g n
  | 0, _ => rfl
  | n + 1, h => by
    unfold cntB
    rw [cntB_congr (n := n) (fun x hx => h x (by omega)), h n (by omega)]
theorem cntW_nn {f : Nat → Int32} : ∀ {n : Nat}, 0 ≤ cntW f n
  | 0 => Int.le_refl _
  | n + 1 => by
    have h := cntW_nn (f := f) (n := n)
    unfold cntW
    by_cases q : f n = 3 ∨ f n = 7
    · rw [if_pos q]; omega
    · rw [if_neg q]; omega
theorem cntB_nn {f : Nat → Int32} : ∀ {n : Nat}, 0 ≤ cntB f n ∧ cntB f n ≤ n
  | 0 => ⟨Int.le_refl _, Int.le_refl _⟩
  | n + 1 => by
    have h := cntB_nn (f := f) (n := n)
    unfold cntB
    by_cases q : f n = 3 ∨ f n = 7 ∨ f n = 8
    · rw [if_pos q]; omega
    · rw [if_neg q]; omega
theorem cntW_up {f : Nat → Int32} {p : Nat} {v : Int32} : cntW (upd f p v) p = cntW f p := cntW_congr (fun x hx => upd_ne (by omega))
theorem cntB_up {f : Nat → Int32} {p : Nat} {v : Int32} : cntB (upd f p v) p = cntB f p := cntB_congr (fun x hx => upd_ne (by omega))
def isOp (x : Int32) : Prop := ¬ x = 126 ∧ ¬ isLt x
def sgOk (f g : Nat → Int32) (n : Nat) : Prop := ∀ k, k < n → (1 ≤ (f k).toInt ∧ (f k).toInt ≤ 8) ∧ ((f k).toInt = 8 → k = 0) ∧ (f k = 3 → g k = 126) ∧ ((f k).toInt ≤ 6 → ¬ f k = 3 → isOp (g k))
theorem sgOk_up {f g : Nat → Int32} {p : Nat} {v s : Int32} (h : sgOk f g p) (h1 : 1 ≤ v.toInt ∧ v.toInt ≤ 7) (h2 : v = 3 → s = 126) (h3 : v.toInt ≤ 6 → ¬ v = 3 → isOp s) : sgOk (upd f p v) (upd g p s) (p + 1) := by
  intro k hk
  by_cases e : k = p
  · subst e
    rw [upd_at, upd_at]
    exact ⟨⟨h1.1, by omega⟩, fun q => by omega, h2, h3⟩
  · rw [upd_ne e, upd_ne e]
    exact h k (by omega)
theorem WFc_snoc {c : Nat → Int32} {F L : Nat} {x : Int32} (h : WFc c F L) (h1 : x = 126 → 1 ≤ dpt c F L) (h2 : isLt x → dpt c F L ≤ 59) (h3 : ¬ x = 126 → ¬ isLt x → 2 ≤ dpt c F L) : WFc (upd c (F + L) x) F (L + 1) := by
  have e : ∀ j, j ≤ L → dpt (upd c (F + L) x) F j = dpt c F j := fun j hj => dpt_congr (fun y hy => upd_ne (by omega))
  intro j hj
  rw [e j (by omega)]
  by_cases q : j = L
  · subst q
    rw [upd_at]
    exact ⟨h1, h2, h3⟩
  · rw [upd_ne (by omega)]
    exact h j (by omega)
theorem dpt_snoc {c : Nat → Int32} {F L : Nat} {x : Int32} : dpt (upd c (F + L) x) F L = dpt c F L := dpt_congr (fun y hy => upd_ne (by omega))
def PEd (f g c : Nat → Int32) (F p L : Nat) (wi U w : Int) : Prop :=
  (p = 0 ∨ f 0 = 8) ∧ wi = cntW f p ∧ wi ≤ 7 ∧ 0 ≤ U ∧ U ≤ 30 ∧ ((w = 1 ∧ 1 ≤ p ∧ (p : Int) ≤ 1 + wi + U ∧ (L : Int) + p ≤ 9 * U + wi + 1) ∨ (w = 0 ∧ (p : Int) ≤ wi + U ∧ (L : Int) + p ≤ 9 * U)) ∧ WFc c F L ∧ dpt c F L = cntB f p + (1 - w) ∧ sgOk f g p
theorem pe_operand {f g c : Nat → Int32} {F p L : Nat} {wi U : Int} {x : Int32} (h : PEd f g c F p L wi U 1) (hx : 97 ≤ x.toInt ∧ x.toInt ≤ 122) (hU : U ≤ 29) : PEd f g (upd c (F + L) x) F p (L + 1) wi (U + 1) 0 := by
  obtain ⟨h1, h2, h3, h4, h5, h6, h7, h8, h9⟩ := h
  have hb := cntB_nn (f := f) (n := p)
  have hn : ¬ x = 126 := by
    intro q
    rw [q] at hx
    exact absurd hx (by decide)
  refine ⟨h1, h2, h3, by omega, by omega, Or.inr ⟨rfl, by omega, by omega⟩, WFc_snoc h7 (fun q => absurd q hn) (fun _ => by omega) (fun _ q => absurd hx q), ?_, h9⟩
  rw [dpt_l upd_at hx, dpt_snoc]
  omega
theorem pe_not {f g c : Nat → Int32} {F p L : Nat} {wi U : Int} (h : PEd f g c F p L wi U 1) (hw : wi < 7) : PEd (upd f p 3) (upd g p 126) c F (p + 1) L (wi + 1) U 1 := by
  obtain ⟨h1, h2, h3, h4, h5, h6, h7, h8, h9⟩ := h
  refine ⟨Or.inr ?_, ?_, by omega, h4, h5, Or.inl ⟨rfl, by omega, by omega, by omega⟩, h7, ?_, sgOk_up h9 (by decide) (fun _ => rfl) (fun _ q => absurd rfl q)⟩
  · rw [upd_ne (by omega)]
    rcases h1 with h1 | h1
    · omega
    · exact h1
  · unfold cntW
    rw [cntW_up, upd_at, if_pos (Or.inl rfl), h2]
  · unfold cntB
    rw [cntB_up, upd_at, if_pos (Or.inl rfl)]
    omega
theorem pe_br {f g c : Nat → Int32} {F p L : Nat} {wi U : Int} (h : PEd f g c F p L wi U 1) (hw : wi < 7) (hU : U ≤ 29) : PEd (upd f p 7) (upd g p 126) c F (p + 1) L (wi + 1) (U + 1) 1 := by
  obtain ⟨h1, h2, h3, h4, h5, h6, h7, h8, h9⟩ := h
  refine ⟨Or.inr ?_, ?_, by omega, by omega, by omega, Or.inl ⟨rfl, by omega, by omega, by omega⟩, h7, ?_, sgOk_up h9 (by decide) (fun _ => rfl) (fun q => absurd q (by decide))⟩
  · rw [upd_ne (by omega)]
    rcases h1 with h1 | h1
    · omega
    · exact h1
  · unfold cntW
    rw [cntW_up, upd_at, if_pos (Or.inr rfl), h2]
  · unfold cntB
    rw [cntB_up, upd_at, if_pos (Or.inr (Or.inl rfl))]
    omega
theorem pe_rank {f g c : Nat → Int32} {F p L : Nat} {wi U : Int} {r s : Int32} (h : PEd f g c F p L wi U 0) (hp : 1 ≤ p) (hr : 1 ≤ r.toInt ∧ r.toInt ≤ 6) (hr3 : ¬ r.toInt = 3) (hs : isOp s) : PEd (upd f p r) (upd g p s) c F (p + 1) L wi U 1 := by
  obtain ⟨h1, h2, h3, h4, h5, h6, h7, h8, h9⟩ := h
  have hn := cntW_nn (f := f) (n := p)
  have r3 : ¬ r = 3 := fun q => hr3 (by rw [q]; rfl)
  have r7 : ¬ r = 7 := by
    intro q
    rw [q] at hr
    exact absurd hr (by decide)
  have r8 : ¬ r = 8 := by
    intro q
    rw [q] at hr
    exact absurd hr (by decide)
  refine ⟨Or.inr ?_, ?_, by omega, h4, h5, Or.inl ⟨rfl, by omega, by omega, by omega⟩, h7, ?_, sgOk_up h9 ⟨hr.1, by omega⟩ (fun q => absurd q r3) (fun _ _ => hs)⟩
  · rw [upd_ne (by omega)]
    rcases h1 with h1 | h1
    · omega
    · exact h1
  · unfold cntW
    rw [cntW_up, upd_at, if_neg (by intro q; rcases q with q | q; exact r3 q; exact r7 q), h2]
    omega
  · unfold cntB
    rw [cntB_up, upd_at, if_neg (by intro q; rcases q with q | q | q; exact r3 q; exact r7 q; exact r8 q)]
    omega
theorem pe_pop {f g c : Nat → Int32} {F q L : Nat} {wi U wi' : Int} {x e : Int32} (h : PEd f g c F (q + 1) L wi U 0) (he : f q = e) (h6 : e.toInt ≤ 6) (hx : g q = x) (hw : (e.toInt = 3 ∧ wi' = wi - 1) ∨ (¬ e.toInt = 3 ∧ wi' = wi)) : 1 ≤ q ∧ PEd f g (upd c (F + L) x) F q (L + 1) wi' U 0 := by
  obtain ⟨h1, h2, h3, h4, h5, h6', h7, h8, h9⟩ := h
  have hq : 1 ≤ q := by
    rcases Nat.eq_zero_or_pos q with z | z
    · subst z
      rcases h1 with h1 | h1
      · omega
      · rw [he] at h1
        rw [h1] at h6
        exact absurd h6 (by decide)
    · exact z
  have h10 := h9 q (by omega)
  have hb := cntB_nn (f := f) (n := q)
  have hW : cntW f (q + 1) = cntW f q + (if f q = 3 ∨ f q = 7 then 1 else 0) := rfl
  have hB : cntB f (q + 1) = cntB f q + (if f q = 3 ∨ f q = 7 ∨ f q = 8 then 0 else 1) := rfl
  have n7 : ¬ f q = 7 := by
    intro z
    rw [he] at z
    rw [z] at h6
    exact absurd h6 (by decide)
  have n8 : ¬ f q = 8 := by
    intro z
    rw [he] at z
    rw [z] at h6
    exact absurd h6 (by decide)
  have f0 : q = 0 ∨ f 0 = 8 := by
    rcases h1 with h1 | h1
    · omega
    · exact Or.inr h1
  have hs : sgOk f g q := fun k hk => h9 k (by omega)
  refine ⟨hq, ?_⟩
  rcases hw with ⟨e3, hw⟩ | ⟨e3, hw⟩
  · have z : f q = 3 := by
      rw [he]
      exact i32_eq.mpr e3
    rw [if_pos (Or.inl z)] at hW hB
    have hx2 : x = 126 := by
      rw [← hx]
      exact h10.2.2.1 z
    refine ⟨f0, by omega, by omega, h4, h5, Or.inr ⟨rfl, by omega, by omega⟩, WFc_snoc h7 (fun _ => by omega) (fun y => absurd y (by rw [hx2]; unfold isLt; decide)) (fun y => absurd hx2 y), ?_, hs⟩
    rw [dpt_t upd_at (by rw [hx2]; rfl), dpt_snoc]
    omega
  · have z : ¬ f q = 3 := by
      rw [he]
      intro y
      rw [y] at e3
      exact e3 rfl
    rw [if_neg (by intro y; rcases y with y | y; exact z y; exact n7 y)] at hW
    rw [if_neg (by intro y; rcases y with y | y | y; exact z y; exact n7 y; exact n8 y)] at hB
    have ho := h10.2.2.2 (by rw [he]; exact h6) z
    rw [hx] at ho
    refine ⟨f0, by omega, by omega, h4, h5, Or.inr ⟨rfl, by omega, by omega⟩, WFc_snoc h7 (fun y => absurd y ho.1) (fun y => absurd y ho.2) (fun _ _ => by omega), ?_, hs⟩
    rw [dpt_o upd_at ⟨fun y => ho.1 (i32_eq.mpr y), ho.2⟩, dpt_snoc]
    omega
theorem pe_end {f g c : Nat → Int32} {F q L : Nat} {wi U wi' : Int} {e : Int32} (h : PEd f g c F (q + 1) L wi U 0) (he : f q = e) (h6 : ¬ e.toInt ≤ 6) (hw : (e.toInt = 7 ∧ wi' = wi - 1) ∨ (¬ e.toInt = 7 ∧ wi' = wi)) : PEd f g c F q L wi' U 0 := by
  obtain ⟨h1, h2, h3, h4, h5, h6', h7, h8, h9⟩ := h
  have h10 := h9 q (by omega)
  rw [he] at h10
  have hW : cntW f (q + 1) = cntW f q + (if f q = 3 ∨ f q = 7 then 1 else 0) := rfl
  have hB : cntB f (q + 1) = cntB f q + (if f q = 3 ∨ f q = 7 ∨ f q = 8 then 0 else 1) := rfl
  have f0 : q = 0 ∨ f 0 = 8 := by
    rcases h1 with h1 | h1
    · omega
    · exact Or.inr h1
  have hs : sgOk f g q := fun k hk => h9 k (by omega)
  have n3 : ¬ f q = 3 := by
    intro y
    rw [he] at y
    rw [y] at h6
    exact absurd (by decide) h6
  rcases hw with ⟨e7, hw⟩ | ⟨e7, hw⟩
  · have z : f q = 7 := by
      rw [he]
      exact i32_eq.mpr e7
    rw [if_pos (Or.inr z)] at hW
    rw [if_pos (Or.inr (Or.inl z))] at hB
    exact ⟨f0, by omega, by omega, h4, h5, Or.inr ⟨rfl, by omega, by omega⟩, h7, by omega, hs⟩
  · have e8 : e.toInt = 8 := by omega
    have z : f q = 8 := by
      rw [he]
      exact i32_eq.mpr e8
    have n7 : ¬ f q = 7 := by
      rw [z]
      decide
    have q0 : q = 0 := h10.2.1 e8
    subst q0
    rw [if_neg (by intro y; rcases y with y | y; exact n3 y; exact n7 y)] at hW
    rw [if_pos (Or.inr (Or.inr z))] at hB
    have c0 : cntW f 0 = 0 := rfl
    exact ⟨Or.inl rfl, by omega, by omega, h4, h5, Or.inr ⟨rfl, by omega, by omega⟩, h7, by omega, hs⟩
theorem pe_start {f g c : Nat → Int32} {F : Nat} : PEd (upd f 0 8) (upd g 0 0) c F 1 0 0 0 1 := by
  refine ⟨Or.inr upd_at, ?_, by omega, by omega, by omega, Or.inl ⟨rfl, by omega, by omega, by omega⟩, fun j hj => absurd hj (by omega), ?_, ?_⟩
  · show 0 = (0 : Int) + (if upd f 0 8 0 = 3 ∨ upd f 0 8 0 = 7 then 1 else 0)
    rw [upd_at, if_neg (by decide)]
    rfl
  · show (0 : Int) = (0 : Int) + (if upd f 0 8 0 = 3 ∨ upd f 0 8 0 = 7 ∨ upd f 0 8 0 = 8 then 0 else 1) + (1 - 1)
    rw [upd_at, if_pos (by decide)]
    rfl
  · intro k hk
    have k0 : k = 0 := by omega
    subst k0
    rw [upd_at, upd_at]
    exact ⟨by decide, fun _ => rfl, fun q => absurd q (by decide), fun q => absurd q (by decide)⟩
/-- of a state -/
def PE (u : St) (w : Int) : Prop := ∃ L : Nat, (fI u 0 38).toInt = 560 * (fI u 0 37).toInt + L ∧ 0 ≤ (fI u 0 37).toInt ∧ 0 ≤ (fI u 0 40).toInt ∧ PEd (fA u 25) (fA u 26) (fA u 23) (560 * (fI u 0 37).toNatClampNeg) (fI u 0 40).toNatClampNeg L (fI u 0 39).toInt (fI u 0 41).toInt w
theorem PE_b {u : St} {w : Int} (h : PE u w) : (0 ≤ (fI u 0 40).toInt ∧ (fI u 0 40).toInt ≤ 38) ∧ (0 ≤ (fI u 0 39).toInt ∧ (fI u 0 39).toInt ≤ 7) ∧ (0 ≤ (fI u 0 41).toInt ∧ (fI u 0 41).toInt ≤ 30) ∧ (560 * (fI u 0 37).toInt ≤ (fI u 0 38).toInt ∧ (fI u 0 38).toInt ≤ 560 * (fI u 0 37).toInt + 278) ∧ (w = 0 ∨ 1 ≤ (fI u 0 40).toInt) := by
  obtain ⟨L, e1, e2, e3, h1, h2, h3, h4, h5, h6, h7, h8, h9⟩ := h
  have c := i_cnz e3
  have d := cntW_nn (f := fA u 25) (n := (fI u 0 40).toNatClampNeg)
  omega
theorem PE_8 {u : St} {w : Int} (h : PE u w) (hp : 1 ≤ (fI u 0 40).toInt) : fA u 25 0 = 8 := by
  obtain ⟨L, e1, e2, e3, h1, h2⟩ := h
  have c := i_cnz e3
  rcases h1 with h1 | h1
  · omega
  · exact h1
theorem PE_idx {r co : Int32} {L : Nat} (h : co.toInt = 560 * r.toInt + L) (h0 : 0 ≤ r.toInt) : co.toNatClampNeg = 560 * r.toNatClampNeg + L := by
  have c := i_cnz h0
  have d := i_cnz (x := co) (by omega)
  omega
theorem PE_operand {u v : St} {x : Int32} (h : PE u 1) (hx : 97 ≤ x.toInt ∧ x.toInt ≤ 122) (hU : (fI u 0 41).toInt ≤ 29) (e37 : fI v 0 37 = fI u 0 37) (e25 : fA v 25 = fA u 25) (e26 : fA v 26 = fA u 26) (e23 : fA v 23 = upd (fA u 23) (fI u 0 38).toNatClampNeg x) (e38 : (fI v 0 38).toInt = (fI u 0 38).toInt + 1) (e40 : fI v 0 40 = fI u 0 40) (e39 : fI v 0 39 = fI u 0 39) (e41 : (fI v 0 41).toInt = (fI u 0 41).toInt + 1) : PE v 0 := by
  obtain ⟨L, a1, a2, a3, h⟩ := h
  refine ⟨L + 1, by rw [e37, e38]; omega, by rw [e37]; exact a2, by rw [e40]; exact a3, ?_⟩
  rw [e37, e25, e26, e23, e40, e39, e41, PE_idx a1 a2]
  exact pe_operand h hx hU
theorem PE_not {u v : St} (h : PE u 1) (hw : (fI u 0 39).toInt < 7) (e37 : fI v 0 37 = fI u 0 37) (e38 : fI v 0 38 = fI u 0 38) (e23 : fA v 23 = fA u 23) (e25 : fA v 25 = upd (fA u 25) (fI u 0 40).toNatClampNeg 3) (e26 : fA v 26 = upd (fA u 26) (fI u 0 40).toNatClampNeg 126) (e40 : (fI v 0 40).toInt = (fI u 0 40).toInt + 1) (e39 : (fI v 0 39).toInt = (fI u 0 39).toInt + 1) (e41 : (fI v 0 41).toInt = (fI u 0 41).toInt) : PE v 1 := by
  obtain ⟨L, a1, a2, a3, h⟩ := h
  refine ⟨L, by rw [e37, e38]; exact a1, by rw [e37]; exact a2, by omega, ?_⟩
  rw [e37, e25, e26, e23, i_cadd (y := fI v 0 40) (k := fI u 0 40) (c := 1) (by exact e40) a3, e39, e41]
  exact pe_not h hw
theorem PE_br {u v : St} (h : PE u 1) (hw : (fI u 0 39).toInt < 7) (hU : (fI u 0 41).toInt ≤ 29) (e37 : fI v 0 37 = fI u 0 37) (e38 : fI v 0 38 = fI u 0 38) (e23 : fA v 23 = fA u 23) (e25 : fA v 25 = upd (fA u 25) (fI u 0 40).toNatClampNeg 7) (e26 : fA v 26 = upd (fA u 26) (fI u 0 40).toNatClampNeg 126) (e40 : (fI v 0 40).toInt = (fI u 0 40).toInt + 1) (e39 : (fI v 0 39).toInt = (fI u 0 39).toInt + 1) (e41 : (fI v 0 41).toInt = (fI u 0 41).toInt + 1) : PE v 1 := by
  obtain ⟨L, a1, a2, a3, h⟩ := h
  refine ⟨L, by rw [e37, e38]; exact a1, by rw [e37]; exact a2, by omega, ?_⟩
  rw [e37, e25, e26, e23, i_cadd (y := fI v 0 40) (k := fI u 0 40) (c := 1) (by exact e40) a3, e39, e41]
  exact pe_br h hw hU
theorem PE_rank {u v : St} {r s : Int32} (h : PE u 0) (hp : 1 ≤ (fI u 0 40).toInt) (hr : 1 ≤ r.toInt ∧ r.toInt ≤ 6) (hr3 : ¬ r.toInt = 3) (hs : isOp s) (e37 : fI v 0 37 = fI u 0 37) (e38 : fI v 0 38 = fI u 0 38) (e23 : fA v 23 = fA u 23) (e25 : fA v 25 = upd (fA u 25) (fI u 0 40).toNatClampNeg r) (e26 : fA v 26 = upd (fA u 26) (fI u 0 40).toNatClampNeg s) (e40 : (fI v 0 40).toInt = (fI u 0 40).toInt + 1) (e39 : fI v 0 39 = fI u 0 39) (e41 : fI v 0 41 = fI u 0 41) : PE v 1 := by
  obtain ⟨L, a1, a2, a3, h⟩ := h
  have c := i_cnz a3
  refine ⟨L, by rw [e37, e38]; exact a1, by rw [e37]; exact a2, by omega, ?_⟩
  rw [e37, e25, e26, e23, i_cadd (y := fI v 0 40) (k := fI u 0 40) (c := 1) (by exact e40) a3, e39, e41]
  exact pe_rank h (by omega) hr hr3 hs
theorem PE_pop {u v : St} {q x e : Int32} (h : PE u 0) (hq : q.toInt = (fI u 0 40).toInt - 1) (hq0 : 0 ≤ q.toInt) (he : fA u 25 q.toNatClampNeg = e) (h6 : e.toInt ≤ 6) (hx : fA u 26 q.toNatClampNeg = x) (e37 : fI v 0 37 = fI u 0 37) (e25 : fA v 25 = fA u 25) (e26 : fA v 26 = fA u 26) (e23 : fA v 23 = upd (fA u 23) (fI u 0 38).toNatClampNeg x) (e38 : (fI v 0 38).toInt = (fI u 0 38).toInt + 1) (e40 : fI v 0 40 = q) (e41 : fI v 0 41 = fI u 0 41) (hw : (e.toInt = 3 ∧ (fI v 0 39).toInt = (fI u 0 39).toInt - 1) ∨ (¬ e.toInt = 3 ∧ (fI v 0 39).toInt = (fI u 0 39).toInt)) : 1 ≤ q.toInt ∧ PE v 0 := by
  obtain ⟨L, a1, a2, a3, h⟩ := h
  have c := i_cnz a3
  have d := i_cnz hq0
  rw [show (fI u 0 40).toNatClampNeg = q.toNatClampNeg + 1 by omega] at h
  obtain ⟨h1, h2⟩ := pe_pop h he h6 hx hw
  refine ⟨by omega, L + 1, by rw [e37, e38]; omega, by rw [e37]; exact a2, by rw [e40]; exact hq0, ?_⟩
  rw [e37, e25, e26, e23, e40, e41, PE_idx a1 a2]
  exact h2
theorem PE_end {u v : St} {q e : Int32} (h : PE u 0) (hq : q.toInt = (fI u 0 40).toInt - 1) (hq0 : 0 ≤ q.toInt) (he : fA u 25 q.toNatClampNeg = e) (h6 : ¬ e.toInt ≤ 6) (e37 : fI v 0 37 = fI u 0 37) (e25 : fA v 25 = fA u 25) (e26 : fA v 26 = fA u 26) (e23 : fA v 23 = fA u 23) (e38 : fI v 0 38 = fI u 0 38) (e40 : fI v 0 40 = q) (e41 : fI v 0 41 = fI u 0 41) (hw : (e.toInt = 7 ∧ (fI v 0 39).toInt = (fI u 0 39).toInt - 1) ∨ (¬ e.toInt = 7 ∧ (fI v 0 39).toInt = (fI u 0 39).toInt)) : PE v 0 := by
  obtain ⟨L, a1, a2, a3, h⟩ := h
  have c := i_cnz a3
  have d := i_cnz hq0
  rw [show (fI u 0 40).toNatClampNeg = q.toNatClampNeg + 1 by omega] at h
  refine ⟨L, by rw [e37, e38]; exact a1, by rw [e37]; exact a2, by rw [e40]; exact hq0, ?_⟩
  rw [e37, e25, e26, e23, e40, e41]
  exact pe_end h he h6 hw
theorem PE_ge {u : St} {q e : Int32} {w : Int} (h : PE u w) (hq : q.toInt = (fI u 0 40).toInt - 1) (hq0 : 0 ≤ q.toInt) (he : fA u 25 q.toNatClampNeg = e) : 1 ≤ e.toInt ∧ e.toInt ≤ 8 := by
  obtain ⟨L, a1, a2, a3, h1, h2, h3, h4, h5, h6, h7, h8, h9⟩ := h
  have c := i_cnz a3
  have d := i_cnz hq0
  have h10 := (h9 q.toNatClampNeg (by omega)).1
  rw [he] at h10
  exact h10
theorem PE_start {v : St} {f g : Nat → Int32} (e25 : fA v 25 = upd f 0 8) (e26 : fA v 26 = upd g 0 0) (e38 : (fI v 0 38).toInt = 560 * (fI v 0 37).toInt) (h37 : 0 ≤ (fI v 0 37).toInt) (e40 : (fI v 0 40).toInt = 1) (e39 : (fI v 0 39).toInt = 0) (e41 : (fI v 0 41).toInt = 0) : PE v 1 := by
  refine ⟨0, by omega, h37, by omega, ?_⟩
  rw [e25, e26, e39, e41, i_cn (x := fI v 0 40) (n := 1) (by exact e40)]
  exact pe_start
theorem PE_lex {u v : St} {w : Int} (h : PE u w) (e37 : fI v 0 37 = fI u 0 37) (e25 : fA v 25 = fA u 25) (e26 : fA v 26 = fA u 26) (e23 : fA v 23 = fA u 23) (e38 : fI v 0 38 = fI u 0 38) (e40 : fI v 0 40 = fI u 0 40) (e39 : fI v 0 39 = fI u 0 39) (e41 : fI v 0 41 = fI u 0 41) : PE v w := by
  obtain ⟨L, a1, a2, a3, h⟩ := h
  refine ⟨L, by rw [e37, e38]; exact a1, by rw [e37]; exact a2, by rw [e40]; exact a3, ?_⟩
  rw [e37, e25, e26, e23, e40, e39, e41]
  exact h
theorem PE_done {u : St} {w : Int} (h : PE u w) (hp : (fI u 0 40).toInt ≤ 0) : ∃ L : Nat, (fI u 0 38).toInt = 560 * (fI u 0 37).toInt + L ∧ L ≤ 560 ∧ WFc (fA u 23) (560 * (fI u 0 37).toNatClampNeg) L := by
  obtain ⟨L, a1, a2, a3, h1, h2, h3, h4, h5, h6, h7, h8⟩ := h
  have c := i_cnz a3
  exact ⟨L, a1, by omega, h7⟩
theorem e0_ne {f : Nat → Int32} {k : Int32} (h8 : f 0 = 8) (h : ¬ (f k.toNatClampNeg).toInt = 8) (h0 : 0 ≤ k.toInt) : 1 ≤ k.toInt := by
  rcases Int.lt_or_le k.toInt 1 with q | q
  · exfalso
    apply h
    rw [i_cn (n := 0) (by omega), h8]
    rfl
  · exact q
