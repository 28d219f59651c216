/-! knots next to one, as the Java lays them -/
def nxB (p q k s t : Int32) : Int32 := if t = 1 then s else if q = k then (if p = k then s ||| ((1 : Int32) <<< (q &&& 31)) else s) ||| ((1 : Int32) <<< (p &&& 31)) else if p = k then s ||| ((1 : Int32) <<< (q &&& 31)) else s
def nxS (b : Nat) (f g : Nat → Int32) (st k : Int32) : Nat → Int32
  | 0 => 0
  | n + 1 => nxB (f (b + n)) (g (b + n)) k (nxS b f g st k n) (bitF st (Int32.ofNat n))
def nxF (u : St) (k : Int32) : Int32 := nxS (14 * (fI u 0 36).toNatClampNeg) (fA u 13) (fA u 14) (fA u 28 28) k (fA u 4 (fI u 0 36).toNatClampNeg).toNatClampNeg
theorem nxF_eq {u v : St} {k : Int32} (h4 : fA v 4 = fA u 4) (h13 : fA v 13 = fA u 13) (h14 : fA v 14 = fA u 14) (h28 : fA v 28 = fA u 28) (h36 : fI v 0 36 = fI u 0 36) : nxF v k = nxF u k := by
  unfold nxF
  rw [h4, h13, h14, h28, h36]
def adF (u : St) (z y : Nat) : Prop := bitF (nxF u (Int32.ofNat z)) (Int32.ofNat y) = 1
theorem adF_eq {u v : St} (h4 : fA v 4 = fA u 4) (h13 : fA v 13 = fA u 13) (h14 : fA v 14 = fA u 14) (h28 : fA v 28 = fA u 28) (h36 : fI v 0 36 = fI u 0 36) : adF v = adF u := by
  funext z y
  unfold adF
  rw [nxF_eq h4 h13 h14 h28 h36]
theorem i_ofc {x : Int32} (h : 0 ≤ x.toInt) : Int32.ofNat x.toNatClampNeg = x := by
  have c := i_cnz h
  have d := Int32.toInt_lt x
  exact (i_ofI (by omega) c.symm).symm
theorem nxB_t {p q k s t : Int32} (h : ¬ t.toInt = 0) (h2 : t = 0 ∨ t = 1) : nxB p q k s t = s := by
  have e : t = 1 := by
    rcases h2 with h2 | h2
    · rw [h2] at h
      exact absurd rfl h
    · exact h2
  unfold nxB
  rw [if_pos e]
theorem nxB_o {p q k s t : Int32} (h : t.toInt = 0) : ¬ t = 1 := by
  intro e
  rw [e] at h
  exact absurd h (by decide)
theorem nxB_00 {p q k s t : Int32} (h : t.toInt = 0) (hp : ¬ p.toInt = k.toInt) (hq : ¬ q.toInt = k.toInt) : nxB p q k s t = s := by
  unfold nxB
  rw [if_neg (nxB_o (p := p) (q := q) (k := k) (s := s) h), if_neg (fun e => hq (by rw [e])), if_neg (fun e => hp (by rw [e]))]
theorem nxB_10 {p q k s t : Int32} (h : t.toInt = 0) (hp : p.toInt = k.toInt) (hq : ¬ q.toInt = k.toInt) : nxB p q k s t = s ||| ((1 : Int32) <<< (q &&& 31)) := by
  unfold nxB
  rw [if_neg (nxB_o (p := p) (q := q) (k := k) (s := s) h), if_neg (fun e => hq (by rw [e])), if_pos (i32_eq.mpr hp)]
theorem nxB_01 {p q k s t : Int32} (h : t.toInt = 0) (hp : ¬ p.toInt = k.toInt) (hq : q.toInt = k.toInt) : nxB p q k s t = s ||| ((1 : Int32) <<< (p &&& 31)) := by
  unfold nxB
  rw [if_neg (nxB_o (p := p) (q := q) (k := k) (s := s) h), if_pos (i32_eq.mpr hq), if_neg (fun e => hp (by rw [e]))]
theorem nxB_11 {p q k s t : Int32} (h : t.toInt = 0) (hp : p.toInt = k.toInt) (hq : q.toInt = k.toInt) : nxB p q k s t = (s ||| ((1 : Int32) <<< (q &&& 31))) ||| ((1 : Int32) <<< (p &&& 31)) := by
  unfold nxB
  rw [if_neg (nxB_o (p := p) (q := q) (k := k) (s := s) h), if_pos (i32_eq.mpr hq), if_pos (i32_eq.mpr hp)]
theorem i_lin {A k y : Int32} {c : Nat} (e : y.toInt = (c : Int) * A.toInt + k.toInt) (hA : 0 ≤ A.toInt) (hk : 0 ≤ k.toInt) : y.toNatClampNeg = c * A.toNatClampNeg + k.toNatClampNeg := by
  have h1 := i_cnz hk
  have h3 := i_cnz hA
  have h4 : 0 ≤ (c : Int) * A.toInt := Int.mul_nonneg (by omega) hA
  have h2 := i_cnz (x := y) (by omega)
  have h5 : ((c * A.toNatClampNeg : Nat) : Int) = (c : Int) * A.toInt := by
    rw [← h3]
    exact Int.natCast_mul c A.toNatClampNeg
  omega
theorem nx_step {b : Nat} {f g : Nat → Int32} {st k s s' n m l t r : Int32} (h : s = nxS b f g st k n.toNatClampNeg) (hn : 0 ≤ n.toInt) (hm : m.toInt = n.toInt + 1) (hl : l.toNatClampNeg = b + n.toNatClampNeg) (ht : t = bitF st n) (hs : s' = nxB (f l.toNatClampNeg) (g l.toNatClampNeg) k s t) : s' = nxS b f g st k m.toNatClampNeg := by
  rw [i_cadd (k := n) (c := 1) hm hn]
  show s' = nxB (f (b + n.toNatClampNeg)) (g (b + n.toNatClampNeg)) k (nxS b f g st k n.toNatClampNeg) (bitF st (Int32.ofNat n.toNatClampNeg))
  rw [i_ofc hn, ← hl, ← h, ← ht]
  exact hs
theorem z32 : (0 : Int32).toNatClampNeg = 0 := rfl
/-! tied to the walks -/
theorem bitF_01 {s k : Int32} : bitF s k = 0 ∨ bitF s k = 1 := by
  unfold bitF
  by_cases h : ((s >>> (k &&& 31)) &&& 1) = 1
  · rw [if_pos h]
    exact Or.inr rfl
  · rw [if_neg h]
    exact Or.inl rfl
theorem bitF_z {k : Int32} : bitF 0 k = 0 := by
  unfold bitF
  rw [i_shr0, i_and0l]
  rfl
def Tn (nx : Int32) (y : Nat) : Prop := bitF nx (Int32.ofNat y) = 1
theorem Tn_y {nx e r : Int32} (he : 0 ≤ e.toInt) (hb : r = bitF nx e) (hr : ¬ r.toInt = 0) : Tn nx e.toNatClampNeg := by
  unfold Tn
  rw [i_ofc he, ← hb]
  rcases bitF_01 (s := nx) (k := e) with h | h
  · rw [← hb] at h
    rw [h] at hr
    exact absurd rfl hr
  · rw [← hb] at h
    exact h
theorem Tn_n {nx e r : Int32} (he : 0 ≤ e.toInt) (hb : r = bitF nx e) (hr : r.toInt = 0) : ¬ Tn nx e.toNatClampNeg := by
  unfold Tn
  rw [i_ofc he, ← hb]
  intro h
  rw [h] at hr
  exact absurd hr (by decide)
theorem g8_of {F : Nat → Int32} {k o i : Int32} (hi : i.toInt = 8 * k.toInt + o.toInt) (hk : 0 ≤ k.toInt) (ho : 0 ≤ o.toInt) : gF8 F k.toNatClampNeg o.toNatClampNeg = (F i.toNatClampNeg).toInt := by
  unfold gF8
  rw [i_lin (y := i) (c := 8) (by exact hi) hk ho]
theorem Tt_y {u : St} {F : Nat → Int32} {k n o nx i : Int32} (hi : i.toInt = 8 * k.toInt + o.toInt) (hk : 0 ≤ k.toInt) (ho : 0 ≤ o.toInt) (hn : 0 ≤ n.toInt) (hg : (F i.toNatClampNeg).toInt = n.toInt) (hr : nx = nxF u o) : Tt (adF u) F k.toNatClampNeg n.toNatClampNeg o.toNatClampNeg (Tn nx) := by
  intro y hy
  rw [g8_of hi hk ho, hg, i_cnz hn]
  unfold Tn adF
  rw [i_ofc ho, ← hr]
  exact ⟨fun h => ⟨h, rfl⟩, fun h => h.1⟩
theorem Tt_n {A : Nat → Nat → Prop} {F : Nat → Int32} {k n o i : Int32} (hi : i.toInt = 8 * k.toInt + o.toInt) (hk : 0 ≤ k.toInt) (ho : 0 ≤ o.toInt) (hn : 0 ≤ n.toInt) (hg : ¬ (F i.toNatClampNeg).toInt = n.toInt) : Tt A F k.toNatClampNeg n.toNatClampNeg o.toNatClampNeg (Tn 0) := by
  intro y hy
  rw [g8_of hi hk ho, i_cnz hn]
  unfold Tn
  rw [bitF_z]
  exact ⟨fun h => absurd h (by decide), fun h => absurd h.2 hg⟩
theorem Rws_w {A : Nat → Nat → Prop} {K : Nat} {F : Nat → Int32} {k o i v : Int32} (h : Rws A K F k.toNatClampNeg) (hK : K ≤ 8) (hi : i.toInt = 8 * k.toInt + o.toInt) (hk : 0 ≤ k.toInt) (ho : 0 ≤ o.toInt) (ho8 : o.toInt < 8) : Rws A K (upd F i.toNatClampNeg v) k.toNatClampNeg := by
  have c := i_cnz ho
  rw [i_lin (y := i) (c := 8) (by exact hi) hk ho]
  exact Rws_up h hK (by omega)
theorem Ini_w {F : Nat → Int32} {k o o' i v : Int32} (h : Ini F k.toNatClampNeg o.toNatClampNeg) (hi : i.toInt = 8 * k.toInt + o.toInt) (hk : 0 ≤ k.toInt) (ho : 0 ≤ o.toInt) (ho' : o'.toInt = o.toInt + 1) (hv : (o.toInt = k.toInt ∧ v.toInt = 0) ∨ (¬ o.toInt = k.toInt ∧ v.toInt = 1000)) : Ini (upd F i.toNatClampNeg v) k.toNatClampNeg o'.toNatClampNeg := by
  have c := i_cnz ho
  have d := i_cnz hk
  rw [i_lin (y := i) (c := 8) (by exact hi) hk ho, i_cadd (k := o) (c := 1) ho' ho]
  refine Ini_up h ?_
  rcases hv with ⟨h1, h2⟩ | ⟨h1, h2⟩
  · exact Or.inl ⟨by omega, h2⟩
  · exact Or.inr ⟨by omega, h2⟩
theorem Ini_z {F : Nat → Int32} {k : Nat} : Ini F k (0 : Int32).toNatClampNeg := by
  rw [z32]
  intro y hy
  omega
theorem Ini_e {A : Nat → Nat → Prop} {K : Nat} {F : Nat → Int32} {k : Nat} {o : Int32} (h : Ini F k o.toNatClampNeg) (ho : o.toInt = 8) (hK : K ≤ 8) : Lv A K F k (0 : Int32).toNatClampNeg := by
  rw [i_cn (n := 8) ho] at h
  rw [z32]
  exact Ini_end h hK
theorem Md_z {A : Nat → Nat → Prop} {K : Nat} {F : Nat → Int32} {x n : Nat} (h : Lv A K F x n) : Md A K F x n (0 : Int32).toNatClampNeg := by
  rw [z32]
  exact Md_start h
theorem Md_e {A : Nat → Nat → Prop} {F : Nat → Int32} {x : Nat} {g o n n' : Int32} (h : Md A g.toNatClampNeg F x n.toNatClampNeg o.toNatClampNeg) (ho : o.toInt = g.toInt) (hn : 0 ≤ n.toInt) (hn' : n'.toInt = n.toInt + 1) : Lv A g.toNatClampNeg F x n'.toNatClampNeg := by
  rw [show o = g from i32_eq.mpr ho] at h
  rw [i_cadd (k := n) (c := 1) hn' hn]
  exact Md_end h
theorem Me_z {A : Nat → Nat → Prop} {K : Nat} {F : Nat → Int32} {x n o : Nat} {T : Nat → Prop} (h : Md A K F x n o) : Me A K F x n o (0 : Int32).toNatClampNeg T := by
  rw [z32]
  exact Me_start h
theorem Me_e {A : Nat → Nat → Prop} {F : Nat → Int32} {x n : Nat} {g o o' e : Int32} {T : Nat → Prop} (h : Me A g.toNatClampNeg F x n o.toNatClampNeg e.toNatClampNeg T) (ht : Tt A F x n o.toNatClampNeg T) (hg : 0 ≤ g.toInt) (hg8 : g.toInt ≤ 8) (he : g.toInt ≤ e.toInt) (ho : 0 ≤ o.toInt) (ho' : o'.toInt = o.toInt + 1) : Md A g.toNatClampNeg F x n o'.toNatClampNeg := by
  have c := i_cnz hg
  have d := i_cnz (x := e) (by omega)
  rw [i_cadd (k := o) (c := 1) ho' ho]
  exact Me_end h ht (by omega) (by omega)
theorem Me_s {A : Nat → Nat → Prop} {K : Nat} {F : Nat → Int32} {x n o : Nat} {e e' : Int32} {T : Nat → Prop} (h : Me A K F x n o e.toNatClampNeg T) (he : 0 ≤ e.toInt) (he' : e'.toInt = e.toInt + 1) (hs : ¬ T e.toNatClampNeg ∨ ¬ gF8 F x e.toNatClampNeg = 1000) : Me A K F x n o e'.toNatClampNeg T := by
  rw [i_cadd (k := e) (c := 1) he' he]
  exact Me_skip h hs
theorem Me_w {A : Nat → Nat → Prop} {F : Nat → Int32} {k n o e g i v : Int32} {T : Nat → Prop} (h : Me A g.toNatClampNeg F k.toNatClampNeg n.toNatClampNeg o.toNatClampNeg e.toNatClampNeg T) (ht : Tt A F k.toNatClampNeg n.toNatClampNeg o.toNatClampNeg T) (hg8 : g.toInt ≤ 8) (ho : 0 ≤ o.toInt) (hog : o.toInt < g.toInt) (he : 0 ≤ e.toInt) (heg : e.toInt < g.toInt) (hn : 0 ≤ n.toInt) (hn8 : n.toInt < 8) (hT : T e.toNatClampNeg) (h1000 : gF8 F k.toNatClampNeg e.toNatClampNeg = 1000) (hi : i.toInt = 8 * k.toInt + e.toInt) (hk : 0 ≤ k.toInt) (hv : v.toInt = n.toInt + 1) : Me A g.toNatClampNeg (upd F i.toNatClampNeg v) k.toNatClampNeg n.toNatClampNeg o.toNatClampNeg (e.toNatClampNeg + 1) T ∧ Tt A (upd F i.toNatClampNeg v) k.toNatClampNeg n.toNatClampNeg o.toNatClampNeg T := by
  have c1 := i_cnz ho
  have c2 := i_cnz he
  have c3 := i_cnz hn
  have c4 := i_cnz (x := g) (by omega)
  rw [i_lin (y := i) (c := 8) (by exact hi) hk he]
  exact Me_put h ht (by omega) (by omega) (by omega) (by omega) hT h1000 (by rw [hv, c3])
theorem Rws_n {A : Nat → Nat → Prop} {F : Nat → Int32} {g k k' n : Int32} (h : Rws A g.toNatClampNeg F k.toNatClampNeg) (hl : Lv A g.toNatClampNeg F k.toNatClampNeg n.toNatClampNeg) (hn : n.toInt = g.toInt) (hk : 0 ≤ k.toInt) (hk' : k'.toInt = k.toInt + 1) : Rws A g.toNatClampNeg F k'.toNatClampNeg := by
  rw [show n = g from i32_eq.mpr hn] at hl
  rw [i_cadd (k := k) (c := 1) hk' hk]
  intro x hx
  by_cases q : x = k.toNatClampNeg
  · rw [q]
    exact hl
  · exact h x (by omega)
theorem Rws_z {A : Nat → Nat → Prop} {K : Nat} {F : Nat → Int32} : Rws A K F (0 : Int32).toNatClampNeg := by
  rw [z32]
  intro x hx
  omega
theorem Wk_out {A : Nat → Nat → Prop} {K x : Nat} (hx : K ≤ x) : ∀ {m y : Nat}, y < K → ¬ Wk A K x m y
  | 0, y, hy, h => by
    have e : x = y := h
    omega
  | m + 1, y, hy, h => by
    obtain ⟨z, hz, hw, _⟩ := h
    exact Wk_out hx hz hw
/-- what way() needs of the far rows -/
def Fr (u : St) (g : Int32) (F : Nat → Int32) : Prop := Rws (adF u) g.toNatClampNeg F 8
theorem Fr_of {u : St} {g k : Int32} {F : Nat → Int32} (h : Rws (adF u) g.toNatClampNeg F k.toNatClampNeg) (hk : k.toInt = 8) : Fr u g F := by
  rw [i_cn (n := 8) hk] at h
  exact h
theorem Fr_eq {u v : St} {g : Int32} {F : Nat → Int32} (h : Fr v g F) (h4 : fA v 4 = fA u 4) (h13 : fA v 13 = fA u 13) (h14 : fA v 14 = fA u 14) (h28 : fA v 28 = fA u 28) (h36 : fI v 0 36 = fI u 0 36) : Fr u g F := by
  unfold Fr at h ⊢
  rw [adF_eq h4 h13 h14 h28 h36] at h
  exact h
theorem wy_in {u : St} {g x y i : Int32} {F : Nat → Int32} (h : Fr u g F) (hx : 0 ≤ x.toInt) (hx8 : x.toInt ≤ 7) (hy : 0 ≤ y.toInt) (hyg : y.toInt < g.toInt) (hi : i.toInt = 8 * x.toInt + y.toInt) (hd : ¬ (F i.toNatClampNeg).toInt = 1000) : x.toInt < g.toInt ∧ 0 ≤ (F i.toNatClampNeg).toInt ∧ (F i.toNatClampNeg).toInt + 1 ≤ g.toInt := by
  have c1 := i_cnz hx
  have c2 := i_cnz hy
  have c3 := i_cnz (x := g) (by omega)
  have hl := h x.toNatClampNeg (by omega)
  rw [← g8_of hi hx hy] at hd ⊢
  have hb := way_bound hl (by omega) hd
  refine ⟨?_, hb.1, by omega⟩
  rcases Int.lt_or_le x.toInt g.toInt with q | q
  · exact q
  · exfalso
    rcases hl y.toNatClampNeg (by omega) with ⟨q1, _⟩ | ⟨m, _, _, hw, _⟩
    · exact hd q1
    · exact Wk_out (by omega) (by omega) hw
theorem wy_step {u : St} {g x y i : Int32} {F : Nat → Int32} (h : Fr u g F) (hg8 : g.toInt ≤ 8) (hx : 0 ≤ x.toInt) (hxg : x.toInt < g.toInt) (hy : 0 ≤ y.toInt) (hyg : y.toInt < g.toInt) (hi : gF8 F x.toNatClampNeg y.toNatClampNeg = i.toInt) (hd : ¬ i.toInt = 1000) (hne : ¬ x.toInt = y.toInt) : 1 ≤ i.toInt ∧ ∃ e : Nat, (e : Int) < g.toInt ∧ bitF (nxF u x) (Int32.ofNat e) = 1 ∧ gF8 F e y.toNatClampNeg = i.toInt - 1 := by
  have c1 := i_cnz hx
  have c2 := i_cnz hy
  have c3 := i_cnz (x := g) (by omega)
  rw [← hi] at hd ⊢
  refine ⟨way_zero (h x.toNatClampNeg (by omega)) (by omega) hd (by omega), ?_⟩
  obtain ⟨e, he, ha, hg⟩ := way_step (fun z hz => h z (by omega)) (x := x.toNatClampNeg) (y := y.toNatClampNeg) (by omega) (by omega) hd (by omega)
  refine ⟨e, by omega, ?_, hg⟩
  unfold adF at ha
  rw [i_ofc hx] at ha
  exact ha
theorem wy_n1 {nx e r : Int32} {es : Nat} (h : bitF nx (Int32.ofNat es) = 1) (hb : r = bitF nx e) (hr : r.toInt = 0) (he : 0 ≤ e.toInt) : ¬ e.toInt = (es : Int) := by
  intro q
  have c := i_cnz he
  rw [show es = e.toNatClampNeg by omega, i_ofc he, ← hb] at h
  rw [h] at hr
  exact absurd hr (by decide)
theorem wy_n2 {F : Nat → Int32} {e y i : Int32} {es : Nat} {d : Int} (h : gF8 F es y.toNatClampNeg = d) (hi : i.toInt = 8 * e.toInt + y.toInt) (he : 0 ≤ e.toInt) (hy : 0 ≤ y.toInt) (hne : ¬ (F i.toNatClampNeg).toInt = d) : ¬ e.toInt = (es : Int) := by
  intro q
  have c := i_cnz he
  rw [show es = e.toNatClampNeg by omega, g8_of hi he hy] at h
  exact hne h
set_option maxHeartbeats 4000000 in
set_option maxRecDepth 100000 in
theorem T_X11_nextTo_f (l : Launch) (D : va_G) (cy : Nat → ClassId) (a : Nat → Nat) (u : St) (hJ : MI a u) (x1 : Int32)  : Mi l D cy (mW cy a) yX11_nextTo (.code yX11_nextTo cX11_nextTo 6 (some .int)) (rmo 1 21) [.ref (a 0), .int x1, .int 0] u (fun (r : Int32) (u' : St) => (r = nxF u x1) ∧ (u' = u)) := by
  refine Mi.of (own := RX11) rfl (by decide) (Nat.le_of_ble_eq_true rfl) ?_
  have hT : Km0 u u := Km0.rf
  have hJ0 := hJ
  intro p e s m below meth c A Q ls C hret hO hl
  obtain ⟨hx, hb, hml, hown, ht, hK, hA⟩ := id C
  have hl : lv_has ls 6 [(0, .ref (a 0)), (1, .int x1), (2, .int 0)] := hl
  have g1 : 0 ≤ (fI u 0 36).toInt ∧ (fI u 0 36).toInt ≤ 1 := by have h := MI_36 hJ0; exact h
  have g2 : 0 ≤ (fA u 4 ((fI u 0 36)).toNatClampNeg).toInt ∧ (fA u 4 ((fI u 0 36)).toNatClampNeg).toInt ≤ 14 := by have h := MI_A4 hJ0 ((fI u 0 36)).toNatClampNeg; exact h
  refine lv_iconst (v := 0) hx hb dX11_nextTo_0 (by decide) ?_
  refine lv_istore_n (lv' := [(3, .int 0), (0, .ref (a 0)), (1, .int x1), (2, .int 0)]) hx hb dX11_nextTo_1 rfl hl (by decide) rfl (fun ls hl => ?_)
  refine lv_iconst (v := 0) hx hb dX11_nextTo_2 (by decide) ?_
  refine lv_istore (lv' := [(4, .int 0), (3, .int 0), (0, .ref (a 0)), (1, .int x1), (2, .int 0)]) hx hb dX11_nextTo_3 hl (by decide) rfl (fun ls hl => ?_)
  have LP_5_k3 : ∀ (n : Nat) (H : Heap) (locs : List Loc) (ls : Array Slot) (n_k3 : Int32) (s_k3 : Int32), Wo D A (mW cy a u) s.heap H locs → lv_has ls 6 [(4, .int n_k3), (3, .int s_k3), (0, .ref (a 0)), (1, .int x1), (2, .int 0)] → n_k3.toInt ≤ (fA u 4 (fI u 0 36).toNatClampNeg).toInt → 0 ≤ n_k3.toInt ∧ n_k3.toInt ≤ 14 → (s_k3 = nxS (14 * (fI u 0 36).toNatClampNeg) (fA u 13) (fA u 14) (fA u 28 28) x1 n_k3.toNatClampNeg) → 14 - n_k3.toInt < (n : Int) → W p l e (rmo 1 21) s m [.ref (a 0), .int x1, .int 0].toArray below meth c H locs 0 0 Q (F0 m 5 ls []) := by
    intro n
    induction n with
    | zero =>
      intro H locs ls n_k3 s_k3 hO hl iv0_k3 iv1_k3 cv0_k3 hm_k3
      exact absurd hm_k3 (by omega)
    | succ n ih_k3 =>
      intro H locs ls n_k3 s_k3 hO hl iv0_k3 iv1_k3 cv0_k3 hm_k3
      refine lv_iload hx hb dX11_nextTo_5 (lv_at hl 0 rfl) ?_
      refine lv_aload_n hx hb dX11_nextTo_7 rfl (lv_at hl 2 rfl) ?_
      refine gf_RX11_24 (v := .ref (a 4)) C hO 0 mW_0 rfl dX11_nextTo_8 ?_
      refine lv_aload_n hx hb dX11_nextTo_11 rfl (lv_at hl 2 rfl) ?_
      refine gf_RX11_255 (v := .int (fI u 0 36)) C hO 0 mW_0 rfl dX11_nextTo_12 ?_
      refine aI C hO 4 mW_4 (i_in (X := ((fI u 0 36)).toInt) rfl (by omega) (by omega)) dX11_nextTo_15 ?_
      refine tE (y := (fA u 4 ((fI u 0 36)).toNatClampNeg)) (by exact rfl) ?_
      refine cs_ge (tgt := 102) (X := (n_k3).toInt) (Y := ((fA u 4 ((fI u 0 36)).toNatClampNeg)).toInt) hx hb dX11_nextTo_16 (by decide) rfl rfl (fun c4 => ?_) (fun c4 => ?_)
      · refine lv_iload_n hx hb dX11_nextTo_102 rfl (lv_at hl 1 rfl) ?_
        refine hret _ _ _ _ _ _ dX11_nextTo_103 rfl ?_ hO
        exact ⟨(by have h := cv0_k3; rw [show n_k3 = (fA u 4 (fI u 0 36).toNatClampNeg) from i32_eq.mpr (by omega)] at h; exact h), rfl⟩
      · refine lv_bipush (v := 14) hx hb dX11_nextTo_19 (by decide) ?_
        refine lv_aload_n hx hb dX11_nextTo_21 rfl (lv_at hl 2 rfl) ?_
        refine gf_RX11_255 (v := .int (fI u 0 36)) C hO 0 mW_0 rfl dX11_nextTo_22 ?_
        refine lv_imul hx hb dX11_nextTo_25 ?_
        refine lv_topi (fun z5 ez5 => ?_)
        have e6 : z5.toInt = 14 * ((fI u 0 36)).toInt := by rw [ez5]; exact i_mul rfl rfl (by omega)
        refine lv_iload hx hb dX11_nextTo_26 (lv_at hl 0 rfl) ?_
        refine lv_iadd hx hb dX11_nextTo_28 ?_
        refine lv_topi (fun z7 ez7 => ?_)
        have e8 : z7.toInt = (14 * ((fI u 0 36)).toInt) + (n_k3).toInt := by rw [ez7]; exact i_add e6 rfl (by omega)
        refine lv_istore (lv' := [(5, .int z7), (4, .int n_k3), (3, .int s_k3), (0, .ref (a 0)), (1, .int x1), (2, .int 0)]) hx hb dX11_nextTo_29 hl (by decide) rfl (fun ls hl => ?_)
        refine lv_aload_n hx hb dX11_nextTo_31 rfl (lv_at hl 3 rfl) ?_
        refine gf_RX11_97 (v := .ref (a 28)) C hO 0 mW_0 rfl dX11_nextTo_32 ?_
        refine lv_bipush (v := 28) hx hb dX11_nextTo_35 (by decide) ?_
        refine aI C hO 28 mW_28 (i_in (X := 28) rfl (by omega) (by omega)) dX11_nextTo_37 ?_
        refine tE (y := (fA u 28 28)) (by exact rfl) ?_
        refine lv_iload hx hb dX11_nextTo_38 (lv_at hl 1 rfl) ?_
        refine cSi (w := mW cy a) (As := [.int (fA u 28 28), .int n_k3]) (rest := []) C hO (T_X11_bit l D cy a _ (by exact hJ) ((fA u 28 28)) (n_k3)) (va_cwS 2 ht (gSS wd_1612 wd_1613 wd_121 wd_1614) rfl rfl rfl hd_yX11_bit ⟨Nat.le_of_ble_eq_true rfl, Nat.le_of_ble_eq_true rfl⟩)  rfl hl.1 (Nat.le_of_ble_eq_true rfl) dX11_nextTo_40 rfl ⟨Nat.zero_le _, Nat.zero_le _⟩ (fun r9 u10 H locs hp11 hO => ?_)
        obtain ⟨hr9, hu10⟩ := hp11
        rw [hu10] at hO
        obtain ⟨hr9, hbr9⟩ := hr9
        have gr9 : 0 ≤ r9.toInt ∧ r9.toInt ≤ 1 := by rcases hr9 with h | h <;> rw [h] <;> decide
        refine lv_iload_n hx hb dX11_nextTo_43 rfl (lv_at hl 5 rfl) ?_
        refine cs_eq (tgt := 50) (X := (r9).toInt) (Y := 0) hx hb dX11_nextTo_44 (by decide) rfl rfl (fun c12 => ?_) (fun c12 => ?_)
        · refine lv_aload_n hx hb dX11_nextTo_50 rfl (lv_at hl 3 rfl) ?_
          refine gf_RX11_51 (v := .ref (a 13)) C hO 0 mW_0 rfl dX11_nextTo_51 ?_
          refine lv_iload hx hb dX11_nextTo_54 (lv_at hl 0 rfl) ?_
          refine aI C hO 13 mW_13 (i_in (X := ((14 * ((fI u 0 36)).toInt) + (n_k3).toInt)) e8 (by omega) (by omega)) dX11_nextTo_56 ?_
          have g13 : 0 ≤ (fA u 13 (z7).toNatClampNeg).toInt ∧ (fA u 13 (z7).toNatClampNeg).toInt ≤ 7 := by have h := MI_A13 hJ0 (z7).toNatClampNeg; exact h
          refine tE (y := (fA u 13 (z7).toNatClampNeg)) (by exact rfl) ?_
          refine lv_iload_n hx hb dX11_nextTo_57 rfl (lv_at hl 4 rfl) ?_
          refine cs_ne (tgt := 73) (X := ((fA u 13 (z7).toNatClampNeg)).toInt) (Y := (x1).toInt) hx hb dX11_nextTo_58 (by decide) rfl rfl (fun c14 => ?_) (fun c14 => ?_)
          · refine lv_aload_n hx hb dX11_nextTo_73 rfl (lv_at hl 3 rfl) ?_
            refine gf_RX11_54 (v := .ref (a 14)) C hO 0 mW_0 rfl dX11_nextTo_74 ?_
            refine lv_iload hx hb dX11_nextTo_77 (lv_at hl 0 rfl) ?_
            refine aI C hO 14 mW_14 (i_in (X := ((14 * ((fI u 0 36)).toInt) + (n_k3).toInt)) e8 (by omega) (by omega)) dX11_nextTo_79 ?_
            have g15 : 0 ≤ (fA u 14 (z7).toNatClampNeg).toInt ∧ (fA u 14 (z7).toNatClampNeg).toInt ≤ 7 := by have h := MI_A14 hJ0 (z7).toNatClampNeg; exact h
            refine tE (y := (fA u 14 (z7).toNatClampNeg)) (by exact rfl) ?_
            refine lv_iload_n hx hb dX11_nextTo_80 rfl (lv_at hl 4 rfl) ?_
            refine cs_ne (tgt := 96) (X := ((fA u 14 (z7).toNatClampNeg)).toInt) (Y := (x1).toInt) hx hb dX11_nextTo_81 (by decide) rfl rfl (fun c16 => ?_) (fun c16 => ?_)
            · obtain ⟨z17, ez17⟩ : ∃ z : Int32, z = n_k3 + Int32.ofInt 1 := ⟨_, rfl⟩
              have e18 : z17.toInt = (n_k3).toInt + 1 := by rw [ez17]; exact i_add rfl rfl (by omega)
              refine lv_iinc (v := z17) (lv' := [(4, .int z17), (5, .int z7), (3, .int s_k3), (0, .ref (a 0)), (1, .int x1), (2, .int 0)]) hx hb dX11_nextTo_96 hl (k := 1) rfl ez17.symm (by decide) rfl (fun ls hl => ?_)
              refine lv_goto (tgt := 5) hx hb dX11_nextTo_99 (by decide) ?_
              exact ih_k3 _ _ _ (z17) (s_k3) hO (lv_sub hl [0, 2, 3, 4, 5] rfl) (by first | decide | omega) (by first | decide | omega) (by exact nx_step (l := z7) (n := n_k3) (t := r9) (r := 0) cv0_k3 (by omega) (by omega) (i_lin (c := 14) (A := fI u 0 36) (by omega) (by omega) (by omega)) hbr9 (by first | exact (nxB_t (by omega) hr9).symm | exact (nxB_00 (by omega) (by omega) (by omega)).symm | exact (nxB_10 (by omega) (by omega) (by omega)).symm | exact (nxB_01 (by omega) (by omega) (by omega)).symm | exact (nxB_11 (by omega) (by omega) (by omega)).symm)) (by first | decide | omega)
            · refine lv_iload_n hx hb dX11_nextTo_84 rfl (lv_at hl 2 rfl) ?_
              refine lv_iconst (v := 1) hx hb dX11_nextTo_85 (by decide) ?_
              refine lv_aload_n hx hb dX11_nextTo_86 rfl (lv_at hl 3 rfl) ?_
              refine gf_RX11_51 (v := .ref (a 13)) C hO 0 mW_0 rfl dX11_nextTo_87 ?_
              refine lv_iload hx hb dX11_nextTo_90 (lv_at hl 0 rfl) ?_
              refine aI C hO 13 mW_13 (i_in (X := ((14 * ((fI u 0 36)).toInt) + (n_k3).toInt)) e8 (by omega) (by omega)) dX11_nextTo_92 ?_
              refine tE (y := (fA u 13 (z7).toNatClampNeg)) (by exact rfl) ?_
              refine lv_ishl hx hb dX11_nextTo_93 ?_
              refine lv_topi (fun z19 ez19 => ?_)
              have g20 : 0 ≤ z19.toInt ∧ z19.toInt ≤ 2 ^ 7 := by rw [ez19]; exact i_shl1 rfl (by omega) (by omega) (by decide)
              refine lv_ior hx hb dX11_nextTo_94 ?_
              refine lv_topi (fun z21 ez21 => ?_)
              refine lv_istore_n (lv' := [(3, .int z21), (5, .int z7), (4, .int n_k3), (0, .ref (a 0)), (1, .int x1), (2, .int 0)]) hx hb dX11_nextTo_95 rfl hl (by decide) rfl (fun ls hl => ?_)
              obtain ⟨z22, ez22⟩ : ∃ z : Int32, z = n_k3 + Int32.ofInt 1 := ⟨_, rfl⟩
              have e23 : z22.toInt = (n_k3).toInt + 1 := by rw [ez22]; exact i_add rfl rfl (by omega)
              refine lv_iinc (v := z22) (lv' := [(4, .int z22), (3, .int z21), (5, .int z7), (0, .ref (a 0)), (1, .int x1), (2, .int 0)]) hx hb dX11_nextTo_96 hl (k := 2) rfl ez22.symm (by decide) rfl (fun ls hl => ?_)
              refine lv_goto (tgt := 5) hx hb dX11_nextTo_99 (by decide) ?_
              exact ih_k3 _ _ _ (z22) (z21) hO (lv_sub hl [0, 1, 3, 4, 5] rfl) (by first | decide | omega) (by first | decide | omega) (by exact nx_step (l := z7) (n := n_k3) (t := r9) (r := 0) cv0_k3 (by omega) (by omega) (i_lin (c := 14) (A := fI u 0 36) (by omega) (by omega) (by omega)) hbr9 (by rw [ez21, ez19]; first | exact (nxB_t (by omega) hr9).symm | exact (nxB_00 (by omega) (by omega) (by omega)).symm | exact (nxB_10 (by omega) (by omega) (by omega)).symm | exact (nxB_01 (by omega) (by omega) (by omega)).symm | exact (nxB_11 (by omega) (by omega) (by omega)).symm)) (by first | decide | omega)
          · refine lv_iload_n hx hb dX11_nextTo_61 rfl (lv_at hl 2 rfl) ?_
            refine lv_iconst (v := 1) hx hb dX11_nextTo_62 (by decide) ?_
            refine lv_aload_n hx hb dX11_nextTo_63 rfl (lv_at hl 3 rfl) ?_
            refine gf_RX11_54 (v := .ref (a 14)) C hO 0 mW_0 rfl dX11_nextTo_64 ?_
            refine lv_iload hx hb dX11_nextTo_67 (lv_at hl 0 rfl) ?_
            refine aI C hO 14 mW_14 (i_in (X := ((14 * ((fI u 0 36)).toInt) + (n_k3).toInt)) e8 (by omega) (by omega)) dX11_nextTo_69 ?_
            have g24 : 0 ≤ (fA u 14 (z7).toNatClampNeg).toInt ∧ (fA u 14 (z7).toNatClampNeg).toInt ≤ 7 := by have h := MI_A14 hJ0 (z7).toNatClampNeg; exact h
            refine tE (y := (fA u 14 (z7).toNatClampNeg)) (by exact rfl) ?_
            refine lv_ishl hx hb dX11_nextTo_70 ?_
            refine lv_topi (fun z25 ez25 => ?_)
            have g26 : 0 ≤ z25.toInt ∧ z25.toInt ≤ 2 ^ 7 := by rw [ez25]; exact i_shl1 rfl (by omega) (by omega) (by decide)
            refine lv_ior hx hb dX11_nextTo_71 ?_
            refine lv_topi (fun z27 ez27 => ?_)
            refine lv_istore_n (lv' := [(3, .int z27), (5, .int z7), (4, .int n_k3), (0, .ref (a 0)), (1, .int x1), (2, .int 0)]) hx hb dX11_nextTo_72 rfl hl (by decide) rfl (fun ls hl => ?_)
            refine lv_aload_n hx hb dX11_nextTo_73 rfl (lv_at hl 3 rfl) ?_
            refine gf_RX11_54 (v := .ref (a 14)) C hO 0 mW_0 rfl dX11_nextTo_74 ?_
            refine lv_iload hx hb dX11_nextTo_77 (lv_at hl 1 rfl) ?_
            refine aI C hO 14 mW_14 (i_in (X := ((14 * ((fI u 0 36)).toInt) + (n_k3).toInt)) e8 (by omega) (by omega)) dX11_nextTo_79 ?_
            refine tE (y := (fA u 14 (z7).toNatClampNeg)) (by exact rfl) ?_
            refine lv_iload_n hx hb dX11_nextTo_80 rfl (lv_at hl 4 rfl) ?_
            refine cs_ne (tgt := 96) (X := ((fA u 14 (z7).toNatClampNeg)).toInt) (Y := (x1).toInt) hx hb dX11_nextTo_81 (by decide) rfl rfl (fun c28 => ?_) (fun c28 => ?_)
            · obtain ⟨z29, ez29⟩ : ∃ z : Int32, z = n_k3 + Int32.ofInt 1 := ⟨_, rfl⟩
              have e30 : z29.toInt = (n_k3).toInt + 1 := by rw [ez29]; exact i_add rfl rfl (by omega)
              refine lv_iinc (v := z29) (lv' := [(4, .int z29), (3, .int z27), (5, .int z7), (0, .ref (a 0)), (1, .int x1), (2, .int 0)]) hx hb dX11_nextTo_96 hl (k := 2) rfl ez29.symm (by decide) rfl (fun ls hl => ?_)
              refine lv_goto (tgt := 5) hx hb dX11_nextTo_99 (by decide) ?_
              exact ih_k3 _ _ _ (z29) (z27) hO (lv_sub hl [0, 1, 3, 4, 5] rfl) (by first | decide | omega) (by first | decide | omega) (by exact nx_step (l := z7) (n := n_k3) (t := r9) (r := 0) cv0_k3 (by omega) (by omega) (i_lin (c := 14) (A := fI u 0 36) (by omega) (by omega) (by omega)) hbr9 (by rw [ez27, ez25]; first | exact (nxB_t (by omega) hr9).symm | exact (nxB_00 (by omega) (by omega) (by omega)).symm | exact (nxB_10 (by omega) (by omega) (by omega)).symm | exact (nxB_01 (by omega) (by omega) (by omega)).symm | exact (nxB_11 (by omega) (by omega) (by omega)).symm)) (by first | decide | omega)
            · refine lv_iload_n hx hb dX11_nextTo_84 rfl (lv_at hl 0 rfl) ?_
              refine lv_iconst (v := 1) hx hb dX11_nextTo_85 (by decide) ?_
              refine lv_aload_n hx hb dX11_nextTo_86 rfl (lv_at hl 3 rfl) ?_
              refine gf_RX11_51 (v := .ref (a 13)) C hO 0 mW_0 rfl dX11_nextTo_87 ?_
              refine lv_iload hx hb dX11_nextTo_90 (lv_at hl 1 rfl) ?_
              refine aI C hO 13 mW_13 (i_in (X := ((14 * ((fI u 0 36)).toInt) + (n_k3).toInt)) e8 (by omega) (by omega)) dX11_nextTo_92 ?_
              refine tE (y := (fA u 13 (z7).toNatClampNeg)) (by exact rfl) ?_
              refine lv_ishl hx hb dX11_nextTo_93 ?_
              refine lv_topi (fun z31 ez31 => ?_)
              have g32 : 0 ≤ z31.toInt ∧ z31.toInt ≤ 2 ^ 7 := by rw [ez31]; exact i_shl1 rfl (by omega) (by omega) (by decide)
              refine lv_ior hx hb dX11_nextTo_94 ?_
              refine lv_topi (fun z33 ez33 => ?_)
              refine lv_istore_n (lv' := [(3, .int z33), (5, .int z7), (4, .int n_k3), (0, .ref (a 0)), (1, .int x1), (2, .int 0)]) hx hb dX11_nextTo_95 rfl hl (by decide) rfl (fun ls hl => ?_)
              obtain ⟨z34, ez34⟩ : ∃ z : Int32, z = n_k3 + Int32.ofInt 1 := ⟨_, rfl⟩
              have e35 : z34.toInt = (n_k3).toInt + 1 := by rw [ez34]; exact i_add rfl rfl (by omega)
              refine lv_iinc (v := z34) (lv' := [(4, .int z34), (3, .int z33), (5, .int z7), (0, .ref (a 0)), (1, .int x1), (2, .int 0)]) hx hb dX11_nextTo_96 hl (k := 2) rfl ez34.symm (by decide) rfl (fun ls hl => ?_)
              refine lv_goto (tgt := 5) hx hb dX11_nextTo_99 (by decide) ?_
              exact ih_k3 _ _ _ (z34) (z33) hO (lv_sub hl [0, 1, 3, 4, 5] rfl) (by first | decide | omega) (by first | decide | omega) (by exact nx_step (l := z7) (n := n_k3) (t := r9) (r := 0) cv0_k3 (by omega) (by omega) (i_lin (c := 14) (A := fI u 0 36) (by omega) (by omega) (by omega)) hbr9 (by rw [ez33, ez31, ez27, ez25]; first | exact (nxB_t (by omega) hr9).symm | exact (nxB_00 (by omega) (by omega) (by omega)).symm | exact (nxB_10 (by omega) (by omega) (by omega)).symm | exact (nxB_01 (by omega) (by omega) (by omega)).symm | exact (nxB_11 (by omega) (by omega) (by omega)).symm)) (by first | decide | omega)
        · refine lv_goto (tgt := 96) hx hb dX11_nextTo_47 (by decide) ?_
          obtain ⟨z36, ez36⟩ : ∃ z : Int32, z = n_k3 + Int32.ofInt 1 := ⟨_, rfl⟩
          have e37 : z36.toInt = (n_k3).toInt + 1 := by rw [ez36]; exact i_add rfl rfl (by omega)
          refine lv_iinc (v := z36) (lv' := [(4, .int z36), (5, .int z7), (3, .int s_k3), (0, .ref (a 0)), (1, .int x1), (2, .int 0)]) hx hb dX11_nextTo_96 hl (k := 1) rfl ez36.symm (by decide) rfl (fun ls hl => ?_)
          refine lv_goto (tgt := 5) hx hb dX11_nextTo_99 (by decide) ?_
          exact ih_k3 _ _ _ (z36) (s_k3) hO (lv_sub hl [0, 2, 3, 4, 5] rfl) (by first | decide | omega) (by first | decide | omega) (by exact nx_step (l := z7) (n := n_k3) (t := r9) (r := 0) cv0_k3 (by omega) (by omega) (i_lin (c := 14) (A := fI u 0 36) (by omega) (by omega) (by omega)) hbr9 (by first | exact (nxB_t (by omega) hr9).symm | exact (nxB_00 (by omega) (by omega) (by omega)).symm | exact (nxB_10 (by omega) (by omega) (by omega)).symm | exact (nxB_01 (by omega) (by omega) (by omega)).symm | exact (nxB_11 (by omega) (by omega) (by omega)).symm)) (by first | decide | omega)
  have zc38 : (0 : Int32).toInt = 0 := rfl
  exact LP_5_k3 4000 _ _ _ (0) (0) hO (lv_sub hl [0, 1, 2, 3, 4] rfl) (by first | decide | omega) (by first | decide | omega) (by exact (by rw [z32]; rfl)) (by first | decide | omega)
theorem Km6_A4 {u v : St} (h : Km6 u v) : fA v 4 = fA u 4 := h.2.2.2.2.2.2.2.2.2.2.2.2.2.2.2.2.2.2.2.2.2.2.2.2.2.2.1
theorem Km6_A13 {u v : St} (h : Km6 u v) : fA v 13 = fA u 13 := h.2.2.2.2.2.2.2.2.2.2.2.2.2.2.2.2.2.2.2.2.2.2.2.2.2.2.2.2.2.2.2.2.2.2.2.1
theorem Km6_A14 {u v : St} (h : Km6 u v) : fA v 14 = fA u 14 := h.2.2.2.2.2.2.2.2.2.2.2.2.2.2.2.2.2.2.2.2.2.2.2.2.2.2.2.2.2.2.2.2.2.2.2.2.1
set_option maxHeartbeats 4000000 in
set_option maxRecDepth 100000 in
theorem T_X11_layFar_x (l : Launch) (D : va_G) (cy : Nat → ClassId) (a : Nat → Nat) (u : St) (hJ : MI a u) (gk : Int32) (hgk : fA u 3 (fI u 0 36).toNatClampNeg = gk)   : Mv l D cy (mW cy a) yX11_layFar (.code yX11_layFar cX11_layFar 6 none) (rmo 2 46) [.ref (a 0)] u (fun (u' : St) => (MI a u') ∧ (Km6 u u') ∧ (Fr u gk (fA u' 32))) := by
  refine Mv.of (own := RX11) rfl (by decide) (Nat.le_of_ble_eq_true rfl) ?_
  have hT : Km6 u u := Km6.rf
  have hJ0 := hJ
  intro p e s m below meth c A Q ls C hret hO hl
  obtain ⟨hx, hb, hml, hown, ht, hK, hA⟩ := id C
  have hl : lv_has ls 6 [(0, .ref (a 0))] := hl
  have g1 : 0 ≤ (fI u 0 36).toInt ∧ (fI u 0 36).toInt ≤ 1 := by have h := MI_36 hJ0; exact h
  have g2 : 0 ≤ gk.toInt ∧ gk.toInt ≤ 8 := by have h := MI_A3 hJ0 (fI u 0 36).toNatClampNeg; rw [hgk] at h; exact h
  refine lv_iconst (v := 0) hx hb dX11_layFar_0 (by decide) ?_
  refine lv_istore_n (lv' := [(1, .int 0), (0, .ref (a 0))]) hx hb dX11_layFar_1 rfl hl (by decide) rfl (fun ls hl => ?_)
  have LP_2_k4 : ∀ (n : Nat) (u3 : St) (H : Heap) (locs : List Loc) (ls : Array Slot) (k_k4 : Int32), Wo D A (mW cy a u3) s.heap H locs → lv_has ls 6 [(1, .int k_k4), (0, .ref (a 0))] → MI a u3 → Km6 u u3 → 0 ≤ k_k4.toInt ∧ k_k4.toInt ≤ 8 → (Rws (adF u) gk.toNatClampNeg (fA u3 32) k_k4.toNatClampNeg) → 8 - k_k4.toInt < (n : Int) → W p l e (rmo 2 46) s m [.ref (a 0)].toArray below meth c H locs 0 0 Q (F0 m 2 ls []) := by
    intro n
    induction n with
    | zero =>
      intro u3 H locs ls k_k4 hO hl hJ hT iv0_k4 cv0_k4 hm_k4
      exact absurd hm_k4 (by omega)
    | succ n ih_k4 =>
      intro u3 H locs ls k_k4 hO hl hJ hT iv0_k4 cv0_k4 hm_k4
      refine lv_iload_n hx hb dX11_layFar_2 rfl (lv_at hl 0 rfl) ?_
      refine lv_bipush (v := 8) hx hb dX11_layFar_3 (by decide) ?_
      refine cs_ge (tgt := 171) (X := (k_k4).toInt) (Y := 8) hx hb dX11_layFar_5 (by decide) rfl rfl (fun c5 => ?_) (fun c5 => ?_)
      · refine hret _ _ _ _ _ dX11_layFar_171 ?_ hO
        exact ⟨hJ, hT, Fr_of cv0_k4 (by omega)⟩
      · refine lv_iconst (v := 0) hx hb dX11_layFar_8 (by decide) ?_
        refine lv_istore_n (lv' := [(2, .int 0), (1, .int k_k4), (0, .ref (a 0))]) hx hb dX11_layFar_9 rfl hl (by decide) rfl (fun ls hl => ?_)
        have LP_10_k7 : ∀ (n : Nat) (u6 : St) (H : Heap) (locs : List Loc) (ls : Array Slot) (o_k7 : Int32), Wo D A (mW cy a u6) s.heap H locs → lv_has ls 6 [(2, .int o_k7), (1, .int k_k4), (0, .ref (a 0))] → MI a u6 → Km6 u u6 → 0 ≤ o_k7.toInt ∧ o_k7.toInt ≤ 8 → (Rws (adF u) gk.toNatClampNeg (fA u6 32) k_k4.toNatClampNeg ∧ Ini (fA u6 32) k_k4.toNatClampNeg o_k7.toNatClampNeg) → 8 - o_k7.toInt < (n : Int) → W p l e (rmo 2 46) s m [.ref (a 0)].toArray below meth c H locs 0 0 Q (F0 m 10 ls []) := by
          intro n
          induction n with
          | zero =>
            intro u6 H locs ls o_k7 hO hl hJ hT iv0_k7 cv0_k7 hm_k7
            exact absurd hm_k7 (by omega)
          | succ n ih_k7 =>
            intro u6 H locs ls o_k7 hO hl hJ hT iv0_k7 cv0_k7 hm_k7
            refine lv_iload_n hx hb dX11_layFar_10 rfl (lv_at hl 0 rfl) ?_
            refine lv_bipush (v := 8) hx hb dX11_layFar_11 (by decide) ?_
            refine cs_ge (tgt := 45) (X := (o_k7).toInt) (Y := 8) hx hb dX11_layFar_13 (by decide) rfl rfl (fun c8 => ?_) (fun c8 => ?_)
            · refine lv_iconst (v := 0) hx hb dX11_layFar_45 (by decide) ?_
              refine lv_istore_n (lv' := [(2, .int 0), (1, .int k_k4), (0, .ref (a 0))]) hx hb dX11_layFar_46 rfl hl (by decide) rfl (fun ls hl => ?_)
              have LP_47_k10 : ∀ (n : Nat) (u9 : St) (H : Heap) (locs : List Loc) (ls : Array Slot) (n_k10 : Int32), Wo D A (mW cy a u9) s.heap H locs → lv_has ls 6 [(2, .int n_k10), (1, .int k_k4), (0, .ref (a 0))] → MI a u9 → Km6 u u9 → n_k10.toInt ≤ gk.toInt → 0 ≤ n_k10.toInt ∧ n_k10.toInt ≤ 8 → (Rws (adF u) gk.toNatClampNeg (fA u9 32) k_k4.toNatClampNeg ∧ Lv (adF u) gk.toNatClampNeg (fA u9 32) k_k4.toNatClampNeg n_k10.toNatClampNeg) → 8 - n_k10.toInt < (n : Int) → W p l e (rmo 2 46) s m [.ref (a 0)].toArray below meth c H locs 0 0 Q (F0 m 47 ls []) := by
                intro n
                induction n with
                | zero =>
                  intro u9 H locs ls n_k10 hO hl hJ hT iv0_k10 iv1_k10 cv0_k10 hm_k10
                  exact absurd hm_k10 (by omega)
                | succ n ih_k10 =>
                  intro u9 H locs ls n_k10 hO hl hJ hT iv0_k10 iv1_k10 cv0_k10 hm_k10
                  refine lv_iload_n hx hb dX11_layFar_47 rfl (lv_at hl 0 rfl) ?_
                  refine lv_aload_n hx hb dX11_layFar_48 rfl (lv_at hl 2 rfl) ?_
                  have g11 : 0 ≤ (fI u 0 36).toInt ∧ (fI u 0 36).toInt ≤ 1 := by have h := MI_36 hJ0; exact h
                  have g12 : 0 ≤ gk.toInt ∧ gk.toInt ≤ 8 := by have h := MI_A3 hJ0 (fI u 0 36).toNatClampNeg; rw [hgk] at h; exact h
                  refine cVi (w := mW cy a) (As := []) (rest := [.int n_k10]) C hO (T_X11_spots l D cy a _ (by exact hJ) (gk) (by exact (Eq.trans (congrArg (fun z : Int32 => fA _ 3 z.toNatClampNeg) (Km6_I36 hT)) (Eq.trans (congrFun (Km6_A3 hT) _) hgk)))) (cwV 0 ht (gV wd_1352 wd_1354 wd_47 wd_121 wd_1355) rfl rfl rfl hd_yX11_spots ⟨Nat.le_of_ble_eq_true rfl, Nat.le_of_ble_eq_true rfl⟩) 0 rfl mW_0 rfl rfl hl.1 (Nat.le_of_ble_eq_true rfl) dX11_layFar_49 rfl ⟨Nat.zero_le _, Nat.zero_le _⟩ (fun r13 u14 H locs hp15 hO => ?_)
                  obtain ⟨hr13, hu14⟩ := hp15
                  refine tE hr13 ?_
                  rw [hu14] at hO
                  refine cs_ge (tgt := 165) (X := (n_k10).toInt) (Y := (gk).toInt) hx hb dX11_layFar_52 (by decide) rfl rfl (fun c16 => ?_) (fun c16 => ?_)
                  · obtain ⟨z17, ez17⟩ : ∃ z : Int32, z = k_k4 + Int32.ofInt 1 := ⟨_, rfl⟩
                    have e18 : z17.toInt = (k_k4).toInt + 1 := by rw [ez17]; exact i_add rfl rfl (by omega)
                    refine lv_iinc (v := z17) (lv' := [(1, .int z17), (2, .int n_k10), (0, .ref (a 0))]) hx hb dX11_layFar_165 hl (k := 1) rfl ez17.symm (by decide) rfl (fun ls hl => ?_)
                    refine lv_goto (tgt := 2) hx hb dX11_layFar_168 (by decide) ?_
                    exact ih_k4 _ _ _ _ (z17) hO (lv_sub hl [0, 2] rfl) (by exact hJ) (by exact hT) (by first | decide | omega) (by exact Rws_n (n := n_k10) (k := k_k4) (cv0_k10).1 (cv0_k10).2 (by omega) (by omega) (by omega)) (by first | decide | omega)
                  · refine lv_iconst (v := 0) hx hb dX11_layFar_55 (by decide) ?_
                    refine lv_istore_n (lv' := [(3, .int 0), (2, .int n_k10), (1, .int k_k4), (0, .ref (a 0))]) hx hb dX11_layFar_56 rfl hl (by decide) rfl (fun ls hl => ?_)
                    have LP_57_k20 : ∀ (n : Nat) (u19 : St) (H : Heap) (locs : List Loc) (ls : Array Slot) (o_k20 : Int32), Wo D A (mW cy a u19) s.heap H locs → lv_has ls 6 [(3, .int o_k20), (2, .int n_k10), (1, .int k_k4), (0, .ref (a 0))] → MI a u19 → Km6 u u19 → o_k20.toInt ≤ gk.toInt → 0 ≤ o_k20.toInt ∧ o_k20.toInt ≤ 8 → (Rws (adF u) gk.toNatClampNeg (fA u19 32) k_k4.toNatClampNeg ∧ Md (adF u) gk.toNatClampNeg (fA u19 32) k_k4.toNatClampNeg n_k10.toNatClampNeg o_k20.toNatClampNeg) → 8 - o_k20.toInt < (n : Int) → W p l e (rmo 2 46) s m [.ref (a 0)].toArray below meth c H locs 0 0 Q (F0 m 57 ls []) := by
                      intro n
                      induction n with
                      | zero =>
                        intro u19 H locs ls o_k20 hO hl hJ hT iv0_k20 iv1_k20 cv0_k20 hm_k20
                        exact absurd hm_k20 (by omega)
                      | succ n ih_k20 =>
                        intro u19 H locs ls o_k20 hO hl hJ hT iv0_k20 iv1_k20 cv0_k20 hm_k20
                        refine lv_iload_n hx hb dX11_layFar_57 rfl (lv_at hl 0 rfl) ?_
                        refine lv_aload_n hx hb dX11_layFar_58 rfl (lv_at hl 3 rfl) ?_
                        have g21 : 0 ≤ (fI u 0 36).toInt ∧ (fI u 0 36).toInt ≤ 1 := by have h := MI_36 hJ0; exact h
                        have g22 : 0 ≤ gk.toInt ∧ gk.toInt ≤ 8 := by have h := MI_A3 hJ0 (fI u 0 36).toNatClampNeg; rw [hgk] at h; exact h
                        refine cVi (w := mW cy a) (As := []) (rest := [.int o_k20]) C hO (T_X11_spots l D cy a _ (by exact hJ) (gk) (by exact (Eq.trans (congrArg (fun z : Int32 => fA _ 3 z.toNatClampNeg) (Km6_I36 hT)) (Eq.trans (congrFun (Km6_A3 hT) _) hgk)))) (cwV 0 ht (gV wd_1352 wd_1354 wd_47 wd_121 wd_1355) rfl rfl rfl hd_yX11_spots ⟨Nat.le_of_ble_eq_true rfl, Nat.le_of_ble_eq_true rfl⟩) 0 rfl mW_0 rfl rfl hl.1 (Nat.le_of_ble_eq_true rfl) dX11_layFar_59 rfl ⟨Nat.zero_le _, Nat.zero_le _⟩ (fun r23 u24 H locs hp25 hO => ?_)
                        obtain ⟨hr23, hu24⟩ := hp25
                        refine tE hr23 ?_
                        rw [hu24] at hO
                        refine cs_ge (tgt := 159) (X := (o_k20).toInt) (Y := (gk).toInt) hx hb dX11_layFar_62 (by decide) rfl rfl (fun c26 => ?_) (fun c26 => ?_)
                        · obtain ⟨z27, ez27⟩ : ∃ z : Int32, z = n_k10 + Int32.ofInt 1 := ⟨_, rfl⟩
                          have e28 : z27.toInt = (n_k10).toInt + 1 := by rw [ez27]; exact i_add rfl rfl (by omega)
                          refine lv_iinc (v := z27) (lv' := [(2, .int z27), (3, .int o_k20), (1, .int k_k4), (0, .ref (a 0))]) hx hb dX11_layFar_159 hl (k := 1) rfl ez27.symm (by decide) rfl (fun ls hl => ?_)
                          refine lv_goto (tgt := 47) hx hb dX11_layFar_162 (by decide) ?_
                          exact ih_k10 _ _ _ _ (z27) hO (lv_sub hl [0, 2, 3] rfl) (by exact hJ) (by exact hT) (by first | decide | omega) (by first | decide | omega) (by exact ⟨(cv0_k20).1, Md_e (o := o_k20) (n := n_k10) (cv0_k20).2 (by omega) (by omega) (by omega)⟩) (by first | decide | omega)
                        · refine lv_aload_n hx hb dX11_layFar_65 rfl (lv_at hl 3 rfl) ?_
                          refine gf_RX11_112 (v := .ref (a 32)) C hO 0 mW_0 rfl dX11_layFar_66 ?_
                          refine lv_bipush (v := 8) hx hb dX11_layFar_69 (by decide) ?_
                          refine lv_iload_n hx hb dX11_layFar_71 rfl (lv_at hl 2 rfl) ?_
                          refine lv_imul hx hb dX11_layFar_72 ?_
                          refine lv_topi (fun z29 ez29 => ?_)
                          have e30 : z29.toInt = 8 * (k_k4).toInt := by rw [ez29]; exact i_mul rfl rfl (by omega)
                          refine lv_iload_n hx hb dX11_layFar_73 rfl (lv_at hl 0 rfl) ?_
                          refine lv_iadd hx hb dX11_layFar_74 ?_
                          refine lv_topi (fun z31 ez31 => ?_)
                          have e32 : z31.toInt = (8 * (k_k4).toInt) + (o_k20).toInt := by rw [ez31]; exact i_add e30 rfl (by omega)
                          refine aI C hO 32 mW_32 (i_in (X := ((8 * (k_k4).toInt) + (o_k20).toInt)) e32 (by omega) (by omega)) dX11_layFar_75 ?_
                          have g33 : 0 ≤ (fA u19 32 (z31).toNatClampNeg).toInt ∧ (fA u19 32 (z31).toNatClampNeg).toInt ≤ 1000 := by have h := MI_A32 hJ (z31).toNatClampNeg; exact h
                          refine tE (y := (fA u19 32 (z31).toNatClampNeg)) (by exact rfl) ?_
                          refine lv_iload_n hx hb dX11_layFar_76 rfl (lv_at hl 1 rfl) ?_
                          refine cs_ne (tgt := 89) (X := ((fA u19 32 (z31).toNatClampNeg)).toInt) (Y := (n_k10).toInt) hx hb dX11_layFar_77 (by decide) rfl rfl (fun c34 => ?_) (fun c34 => ?_)
                          · refine lv_iconst (v := 0) hx hb dX11_layFar_89 (by decide) ?_
                            refine lv_istore (lv' := [(4, .int 0), (3, .int o_k20), (2, .int n_k10), (1, .int k_k4), (0, .ref (a 0))]) hx hb dX11_layFar_90 hl (by decide) rfl (fun ls hl => ?_)
                            refine lv_iconst (v := 0) hx hb dX11_layFar_92 (by decide) ?_
                            refine lv_istore (lv' := [(5, .int 0), (4, .int 0), (3, .int o_k20), (2, .int n_k10), (1, .int k_k4), (0, .ref (a 0))]) hx hb dX11_layFar_93 hl (by decide) rfl (fun ls hl => ?_)
                            have LP_95_k36 : ∀ (n : Nat) (u35 : St) (H : Heap) (locs : List Loc) (ls : Array Slot) (e_k36 : Int32), Wo D A (mW cy a u35) s.heap H locs → lv_has ls 6 [(5, .int e_k36), (4, .int 0), (3, .int o_k20), (2, .int n_k10), (1, .int k_k4), (0, .ref (a 0))] → MI a u35 → Km6 u u35 → e_k36.toInt ≤ gk.toInt → 0 ≤ e_k36.toInt ∧ e_k36.toInt ≤ 8 → (Rws (adF u) gk.toNatClampNeg (fA u35 32) k_k4.toNatClampNeg ∧ Me (adF u) gk.toNatClampNeg (fA u35 32) k_k4.toNatClampNeg n_k10.toNatClampNeg o_k20.toNatClampNeg e_k36.toNatClampNeg (Tn 0) ∧ Tt (adF u) (fA u35 32) k_k4.toNatClampNeg n_k10.toNatClampNeg o_k20.toNatClampNeg (Tn 0)) → 8 - e_k36.toInt < (n : Int) → W p l e (rmo 2 46) s m [.ref (a 0)].toArray below meth c H locs 0 0 Q (F0 m 95 ls []) := by
                              intro n
                              induction n with
                              | zero =>
                                intro u35 H locs ls e_k36 hO hl hJ hT iv0_k36 iv1_k36 cv0_k36 hm_k36
                                exact absurd hm_k36 (by omega)
                              | succ n ih_k36 =>
                                intro u35 H locs ls e_k36 hO hl hJ hT iv0_k36 iv1_k36 cv0_k36 hm_k36
                                refine lv_iload hx hb dX11_layFar_95 (lv_at hl 0 rfl) ?_
                                refine lv_aload_n hx hb dX11_layFar_97 rfl (lv_at hl 5 rfl) ?_
                                have g37 : 0 ≤ (fI u 0 36).toInt ∧ (fI u 0 36).toInt ≤ 1 := by have h := MI_36 hJ0; exact h
                                have g38 : 0 ≤ gk.toInt ∧ gk.toInt ≤ 8 := by have h := MI_A3 hJ0 (fI u 0 36).toNatClampNeg; rw [hgk] at h; exact h
                                refine cVi (w := mW cy a) (As := []) (rest := [.int e_k36]) C hO (T_X11_spots l D cy a _ (by exact hJ) (gk) (by exact (Eq.trans (congrArg (fun z : Int32 => fA _ 3 z.toNatClampNeg) (Km6_I36 hT)) (Eq.trans (congrFun (Km6_A3 hT) _) hgk)))) (cwV 0 ht (gV wd_1352 wd_1354 wd_47 wd_121 wd_1355) rfl rfl rfl hd_yX11_spots ⟨Nat.le_of_ble_eq_true rfl, Nat.le_of_ble_eq_true rfl⟩) 0 rfl mW_0 rfl rfl hl.1 (Nat.le_of_ble_eq_true rfl) dX11_layFar_98 rfl ⟨Nat.zero_le _, Nat.zero_le _⟩ (fun r39 u40 H locs hp41 hO => ?_)
                                obtain ⟨hr39, hu40⟩ := hp41
                                refine tE hr39 ?_
                                rw [hu40] at hO
                                refine cs_ge (tgt := 153) (X := (e_k36).toInt) (Y := (gk).toInt) hx hb dX11_layFar_101 (by decide) rfl rfl (fun c42 => ?_) (fun c42 => ?_)
                                · obtain ⟨z43, ez43⟩ : ∃ z : Int32, z = o_k20 + Int32.ofInt 1 := ⟨_, rfl⟩
                                  have e44 : z43.toInt = (o_k20).toInt + 1 := by rw [ez43]; exact i_add rfl rfl (by omega)
                                  refine lv_iinc (v := z43) (lv' := [(3, .int z43), (5, .int e_k36), (4, .int 0), (2, .int n_k10), (1, .int k_k4), (0, .ref (a 0))]) hx hb dX11_layFar_153 hl (k := 2) rfl ez43.symm (by decide) rfl (fun ls hl => ?_)
                                  refine lv_goto (tgt := 57) hx hb dX11_layFar_156 (by decide) ?_
                                  exact ih_k20 _ _ _ _ (z43) hO (lv_sub hl [0, 3, 4, 5] rfl) (by exact hJ) (by exact hT) (by first | decide | omega) (by first | decide | omega) (by exact ⟨(cv0_k36).1, Me_e (o := o_k20) (e := e_k36) (cv0_k36).2.1 (cv0_k36).2.2 (by omega) (by omega) (by omega) (by omega) (by omega)⟩) (by first | decide | omega)
                                · refine lv_iload hx hb dX11_layFar_104 (lv_at hl 1 rfl) ?_
                                  refine lv_iload hx hb dX11_layFar_106 (lv_at hl 0 rfl) ?_
                                  refine cSi (w := mW cy a) (As := [.int 0, .int e_k36]) (rest := []) C hO (T_X11_bit l D cy a _ (by exact hJ) (0) (e_k36)) (va_cwS 2 ht (gSS wd_1612 wd_1613 wd_121 wd_1614) rfl rfl rfl hd_yX11_bit ⟨Nat.le_of_ble_eq_true rfl, Nat.le_of_ble_eq_true rfl⟩)  rfl hl.1 (Nat.le_of_ble_eq_true rfl) dX11_layFar_108 rfl ⟨Nat.zero_le _, Nat.zero_le _⟩ (fun r45 u46 H locs hp47 hO => ?_)
                                  obtain ⟨hr45, hu46⟩ := hp47
                                  rw [hu46] at hO
                                  obtain ⟨hr45, hbr45⟩ := hr45
                                  have gr45 : 0 ≤ r45.toInt ∧ r45.toInt ≤ 1 := by rcases hr45 with h | h <;> rw [h] <;> decide
                                  refine bs_eq (tgt := 147) (X := (r45).toInt) hx hb dX11_layFar_111 (by decide) rfl (fun c48 => ?_) (fun c48 => ?_)
                                  · obtain ⟨z49, ez49⟩ : ∃ z : Int32, z = e_k36 + Int32.ofInt 1 := ⟨_, rfl⟩
                                    have e50 : z49.toInt = (e_k36).toInt + 1 := by rw [ez49]; exact i_add rfl rfl (by omega)
                                    refine lv_iinc (v := z49) (lv' := [(5, .int z49), (4, .int 0), (3, .int o_k20), (2, .int n_k10), (1, .int k_k4), (0, .ref (a 0))]) hx hb dX11_layFar_147 hl (k := 0) rfl ez49.symm (by decide) rfl (fun ls hl => ?_)
                                    refine lv_goto (tgt := 95) hx hb dX11_layFar_150 (by decide) ?_
                                    exact ih_k36 _ _ _ _ (z49) hO (lv_sub hl [0, 1, 2, 3, 4, 5] rfl) (by exact hJ) (by exact hT) (by first | decide | omega) (by first | decide | omega) (by exact ⟨(cv0_k36).1, Me_s (e := e_k36) (cv0_k36).2.1 (by omega) (by omega) (Or.inl (Tn_n (by omega) hbr45 (by omega))), (cv0_k36).2.2⟩) (by first | decide | omega)
                                  · refine lv_aload_n hx hb dX11_layFar_114 rfl (lv_at hl 5 rfl) ?_
                                    refine gf_RX11_112 (v := .ref (a 32)) C hO 0 mW_0 rfl dX11_layFar_115 ?_
                                    refine lv_bipush (v := 8) hx hb dX11_layFar_118 (by decide) ?_
                                    refine lv_iload_n hx hb dX11_layFar_120 rfl (lv_at hl 4 rfl) ?_
                                    refine lv_imul hx hb dX11_layFar_121 ?_
                                    refine lv_topi (fun z51 ez51 => ?_)
                                    have e52 : z51.toInt = 8 * (k_k4).toInt := by rw [ez51]; exact i_mul rfl rfl (by omega)
                                    refine lv_iload hx hb dX11_layFar_122 (lv_at hl 0 rfl) ?_
                                    refine lv_iadd hx hb dX11_layFar_124 ?_
                                    refine lv_topi (fun z53 ez53 => ?_)
                                    have e54 : z53.toInt = (8 * (k_k4).toInt) + (e_k36).toInt := by rw [ez53]; exact i_add e52 rfl (by omega)
                                    refine aI C hO 32 mW_32 (i_in (X := ((8 * (k_k4).toInt) + (e_k36).toInt)) e54 (by omega) (by omega)) dX11_layFar_125 ?_
                                    have g55 : 0 ≤ (fA u35 32 (z53).toNatClampNeg).toInt ∧ (fA u35 32 (z53).toNatClampNeg).toInt ≤ 1000 := by have h := MI_A32 hJ (z53).toNatClampNeg; exact h
                                    refine tE (y := (fA u35 32 (z53).toNatClampNeg)) (by exact rfl) ?_
                                    refine lv_sipush (v := 1000) hx hb dX11_layFar_126 (by decide) ?_
                                    refine cs_ne (tgt := 147) (X := ((fA u35 32 (z53).toNatClampNeg)).toInt) (Y := 1000) hx hb dX11_layFar_129 (by decide) rfl rfl (fun c56 => ?_) (fun c56 => ?_)
                                    · obtain ⟨z57, ez57⟩ : ∃ z : Int32, z = e_k36 + Int32.ofInt 1 := ⟨_, rfl⟩
                                      have e58 : z57.toInt = (e_k36).toInt + 1 := by rw [ez57]; exact i_add rfl rfl (by omega)
                                      refine lv_iinc (v := z57) (lv' := [(5, .int z57), (4, .int 0), (3, .int o_k20), (2, .int n_k10), (1, .int k_k4), (0, .ref (a 0))]) hx hb dX11_layFar_147 hl (k := 0) rfl ez57.symm (by decide) rfl (fun ls hl => ?_)
                                      refine lv_goto (tgt := 95) hx hb dX11_layFar_150 (by decide) ?_
                                      exact ih_k36 _ _ _ _ (z57) hO (lv_sub hl [0, 1, 2, 3, 4, 5] rfl) (by exact hJ) (by exact hT) (by first | decide | omega) (by first | decide | omega) (by exact ⟨(cv0_k36).1, Me_s (e := e_k36) (cv0_k36).2.1 (by omega) (by omega) (Or.inr (by rw [g8_of (i := z53) (by omega) (by omega) (by omega)]; omega)), (cv0_k36).2.2⟩) (by first | decide | omega)
                                    · refine lv_aload_n hx hb dX11_layFar_132 rfl (lv_at hl 5 rfl) ?_
                                      refine gf_RX11_112 (v := .ref (a 32)) C hO 0 mW_0 rfl dX11_layFar_133 ?_
                                      refine lv_bipush (v := 8) hx hb dX11_layFar_136 (by decide) ?_
                                      refine lv_iload_n hx hb dX11_layFar_138 rfl (lv_at hl 4 rfl) ?_
                                      refine lv_imul hx hb dX11_layFar_139 ?_
                                      refine lv_topi (fun z59 ez59 => ?_)
                                      have e60 : z59.toInt = 8 * (k_k4).toInt := by rw [ez59]; exact i_mul rfl rfl (by omega)
                                      refine lv_iload hx hb dX11_layFar_140 (lv_at hl 0 rfl) ?_
                                      refine lv_iadd hx hb dX11_layFar_142 ?_
                                      refine lv_topi (fun z61 ez61 => ?_)
                                      have e62 : z61.toInt = (8 * (k_k4).toInt) + (e_k36).toInt := by rw [ez61]; exact i_add e60 rfl (by omega)
                                      refine lv_iload_n hx hb dX11_layFar_143 rfl (lv_at hl 3 rfl) ?_
                                      refine lv_iconst (v := 1) hx hb dX11_layFar_144 (by decide) ?_
                                      refine lv_iadd hx hb dX11_layFar_145 ?_
                                      refine lv_topi (fun z63 ez63 => ?_)
                                      have e64 : z63.toInt = (n_k10).toInt + 1 := by rw [ez63]; exact i_add rfl rfl (by omega)
                                      refine aIs C hO 32 mW_32 (i_in (X := ((8 * (k_k4).toInt) + (e_k36).toInt)) e62 (by omega) (by omega)) mW_s32 dX11_layFar_146 (fun H locs hO => ?_)
                                      have hT := Km6_wA32 hO hT
                                      have hJ := MIsA_32 hO hJ (by first | decide | omega)
                                      have hRw := Rws_w (k := k_k4) (o := e_k36) (i := z61) (v := z63) (cv0_k36).1 (by have c := i_cnz (x := gk) (by omega); omega) (by omega) (by omega) (by omega) (by omega)
                                      have hMw := Me_w (k := k_k4) (n := n_k10) (o := o_k20) (e := e_k36) (g := gk) (i := z61) (v := z63) (cv0_k36).2.1 (cv0_k36).2.2 (by omega) (by omega) (by omega) (by omega) (by omega) (by omega) (by omega) (Tn_y (by omega) hbr45 (by omega)) (by rw [g8_of (i := z53) (by omega) (by omega) (by omega)]; omega) (by omega) (by omega) (by omega)
                                      obtain ⟨z65, ez65⟩ : ∃ z : Int32, z = e_k36 + Int32.ofInt 1 := ⟨_, rfl⟩
                                      have e66 : z65.toInt = (e_k36).toInt + 1 := by rw [ez65]; exact i_add rfl rfl (by omega)
                                      refine lv_iinc (v := z65) (lv' := [(5, .int z65), (4, .int 0), (3, .int o_k20), (2, .int n_k10), (1, .int k_k4), (0, .ref (a 0))]) hx hb dX11_layFar_147 hl (k := 0) rfl ez65.symm (by decide) rfl (fun ls hl => ?_)
                                      refine lv_goto (tgt := 95) hx hb dX11_layFar_150 (by decide) ?_
                                      exact ih_k36 _ _ _ _ (z65) hO (lv_sub hl [0, 1, 2, 3, 4, 5] rfl) (by exact hJ) (by exact hT) (by first | decide | omega) (by first | decide | omega) (by exact ⟨hRw, by rw [i_cadd (y := z65) (k := e_k36) (c := 1) (by omega) (by omega)]; exact hMw.1, hMw.2⟩) (by first | decide | omega)
                            have zc67 : (0 : Int32).toInt = 0 := rfl
                            exact LP_95_k36 4000 _ _ _ _ (0) hO (lv_sub hl [0, 1, 2, 3, 4, 5] rfl) (by exact hJ) (by exact hT) (by first | decide | omega) (by first | decide | omega) (by exact ⟨(cv0_k20).1, Me_z (cv0_k20).2, Tt_n (k := k_k4) (n := n_k10) (o := o_k20) (i := z31) (by omega) (by omega) (by omega) (by omega) (by omega)⟩) (by first | decide | omega)
                          · refine lv_aload_n hx hb dX11_layFar_80 rfl (lv_at hl 3 rfl) ?_
                            refine lv_iload_n hx hb dX11_layFar_81 rfl (lv_at hl 0 rfl) ?_
                            refine lv_iconst (v := 0) hx hb dX11_layFar_82 (by decide) ?_
                            refine cVi (w := mW cy a) (As := [.int o_k20, .int 0]) (rest := []) C hO (T_X11_nextTo_f l D cy a _ (by exact hJ) (o_k20)) (cwV 2 ht (gV wd_1725 wd_1727 wd_78 wd_121 wd_1728) rfl rfl rfl hd_yX11_nextTo ⟨Nat.le_of_ble_eq_true rfl, Nat.le_of_ble_eq_true rfl⟩) 0 rfl mW_0 rfl rfl hl.1 (Nat.le_of_ble_eq_true rfl) dX11_layFar_83 rfl ⟨Nat.zero_le _, Nat.zero_le _⟩ (fun r68 u69 H locs hp70 hO => ?_)
                            obtain ⟨hr68, hu69⟩ := hp70
                            rw [hu69] at hO
                            have hNr68 : r68 = nxF u o_k20 := hr68.trans (nxF_eq (Km6_A4 hT) (Km6_A13 hT) (Km6_A14 hT) (Km6_A28 hT) (Km6_I36 hT))
                            refine lv_goto (tgt := 90) hx hb dX11_layFar_86 (by decide) ?_
                            refine lv_istore (lv' := [(4, .int r68), (3, .int o_k20), (2, .int n_k10), (1, .int k_k4), (0, .ref (a 0))]) hx hb dX11_layFar_90 hl (by decide) rfl (fun ls hl => ?_)
                            refine lv_iconst (v := 0) hx hb dX11_layFar_92 (by decide) ?_
                            refine lv_istore (lv' := [(5, .int 0), (4, .int r68), (3, .int o_k20), (2, .int n_k10), (1, .int k_k4), (0, .ref (a 0))]) hx hb dX11_layFar_93 hl (by decide) rfl (fun ls hl => ?_)
                            have LP_95_k72 : ∀ (n : Nat) (u71 : St) (H : Heap) (locs : List Loc) (ls : Array Slot) (e_k72 : Int32), Wo D A (mW cy a u71) s.heap H locs → lv_has ls 6 [(5, .int e_k72), (4, .int r68), (3, .int o_k20), (2, .int n_k10), (1, .int k_k4), (0, .ref (a 0))] → MI a u71 → Km6 u u71 → e_k72.toInt ≤ gk.toInt → 0 ≤ e_k72.toInt ∧ e_k72.toInt ≤ 8 → (Rws (adF u) gk.toNatClampNeg (fA u71 32) k_k4.toNatClampNeg ∧ Me (adF u) gk.toNatClampNeg (fA u71 32) k_k4.toNatClampNeg n_k10.toNatClampNeg o_k20.toNatClampNeg e_k72.toNatClampNeg (Tn r68) ∧ Tt (adF u) (fA u71 32) k_k4.toNatClampNeg n_k10.toNatClampNeg o_k20.toNatClampNeg (Tn r68)) → 8 - e_k72.toInt < (n : Int) → W p l e (rmo 2 46) s m [.ref (a 0)].toArray below meth c H locs 0 0 Q (F0 m 95 ls []) := by
                              intro n
                              induction n with
                              | zero =>
                                intro u71 H locs ls e_k72 hO hl hJ hT iv0_k72 iv1_k72 cv0_k72 hm_k72
                                exact absurd hm_k72 (by omega)
                              | succ n ih_k72 =>
                                intro u71 H locs ls e_k72 hO hl hJ hT iv0_k72 iv1_k72 cv0_k72 hm_k72
                                refine lv_iload hx hb dX11_layFar_95 (lv_at hl 0 rfl) ?_
                                refine lv_aload_n hx hb dX11_layFar_97 rfl (lv_at hl 5 rfl) ?_
                                have g73 : 0 ≤ (fI u 0 36).toInt ∧ (fI u 0 36).toInt ≤ 1 := by have h := MI_36 hJ0; exact h
                                have g74 : 0 ≤ gk.toInt ∧ gk.toInt ≤ 8 := by have h := MI_A3 hJ0 (fI u 0 36).toNatClampNeg; rw [hgk] at h; exact h
                                refine cVi (w := mW cy a) (As := []) (rest := [.int e_k72]) C hO (T_X11_spots l D cy a _ (by exact hJ) (gk) (by exact (Eq.trans (congrArg (fun z : Int32 => fA _ 3 z.toNatClampNeg) (Km6_I36 hT)) (Eq.trans (congrFun (Km6_A3 hT) _) hgk)))) (cwV 0 ht (gV wd_1352 wd_1354 wd_47 wd_121 wd_1355) rfl rfl rfl hd_yX11_spots ⟨Nat.le_of_ble_eq_true rfl, Nat.le_of_ble_eq_true rfl⟩) 0 rfl mW_0 rfl rfl hl.1 (Nat.le_of_ble_eq_true rfl) dX11_layFar_98 rfl ⟨Nat.zero_le _, Nat.zero_le _⟩ (fun r75 u76 H locs hp77 hO => ?_)
                                obtain ⟨hr75, hu76⟩ := hp77
                                refine tE hr75 ?_
                                rw [hu76] at hO
                                refine cs_ge (tgt := 153) (X := (e_k72).toInt) (Y := (gk).toInt) hx hb dX11_layFar_101 (by decide) rfl rfl (fun c78 => ?_) (fun c78 => ?_)
                                · obtain ⟨z79, ez79⟩ : ∃ z : Int32, z = o_k20 + Int32.ofInt 1 := ⟨_, rfl⟩
                                  have e80 : z79.toInt = (o_k20).toInt + 1 := by rw [ez79]; exact i_add rfl rfl (by omega)
                                  refine lv_iinc (v := z79) (lv' := [(3, .int z79), (5, .int e_k72), (4, .int r68), (2, .int n_k10), (1, .int k_k4), (0, .ref (a 0))]) hx hb dX11_layFar_153 hl (k := 2) rfl ez79.symm (by decide) rfl (fun ls hl => ?_)
                                  refine lv_goto (tgt := 57) hx hb dX11_layFar_156 (by decide) ?_
                                  exact ih_k20 _ _ _ _ (z79) hO (lv_sub hl [0, 3, 4, 5] rfl) (by exact hJ) (by exact hT) (by first | decide | omega) (by first | decide | omega) (by exact ⟨(cv0_k72).1, Me_e (o := o_k20) (e := e_k72) (cv0_k72).2.1 (cv0_k72).2.2 (by omega) (by omega) (by omega) (by omega) (by omega)⟩) (by first | decide | omega)
                                · refine lv_iload hx hb dX11_layFar_104 (lv_at hl 1 rfl) ?_
                                  refine lv_iload hx hb dX11_layFar_106 (lv_at hl 0 rfl) ?_
                                  refine cSi (w := mW cy a) (As := [.int r68, .int e_k72]) (rest := []) C hO (T_X11_bit l D cy a _ (by exact hJ) (r68) (e_k72)) (va_cwS 2 ht (gSS wd_1612 wd_1613 wd_121 wd_1614) rfl rfl rfl hd_yX11_bit ⟨Nat.le_of_ble_eq_true rfl, Nat.le_of_ble_eq_true rfl⟩)  rfl hl.1 (Nat.le_of_ble_eq_true rfl) dX11_layFar_108 rfl ⟨Nat.zero_le _, Nat.zero_le _⟩ (fun r81 u82 H locs hp83 hO => ?_)
                                  obtain ⟨hr81, hu82⟩ := hp83
                                  rw [hu82] at hO
                                  obtain ⟨hr81, hbr81⟩ := hr81
                                  have gr81 : 0 ≤ r81.toInt ∧ r81.toInt ≤ 1 := by rcases hr81 with h | h <;> rw [h] <;> decide
                                  refine bs_eq (tgt := 147) (X := (r81).toInt) hx hb dX11_layFar_111 (by decide) rfl (fun c84 => ?_) (fun c84 => ?_)
                                  · obtain ⟨z85, ez85⟩ : ∃ z : Int32, z = e_k72 + Int32.ofInt 1 := ⟨_, rfl⟩
                                    have e86 : z85.toInt = (e_k72).toInt + 1 := by rw [ez85]; exact i_add rfl rfl (by omega)
                                    refine lv_iinc (v := z85) (lv' := [(5, .int z85), (4, .int r68), (3, .int o_k20), (2, .int n_k10), (1, .int k_k4), (0, .ref (a 0))]) hx hb dX11_layFar_147 hl (k := 0) rfl ez85.symm (by decide) rfl (fun ls hl => ?_)
                                    refine lv_goto (tgt := 95) hx hb dX11_layFar_150 (by decide) ?_
                                    exact ih_k72 _ _ _ _ (z85) hO (lv_sub hl [0, 1, 2, 3, 4, 5] rfl) (by exact hJ) (by exact hT) (by first | decide | omega) (by first | decide | omega) (by exact ⟨(cv0_k72).1, Me_s (e := e_k72) (cv0_k72).2.1 (by omega) (by omega) (Or.inl (Tn_n (by omega) hbr81 (by omega))), (cv0_k72).2.2⟩) (by first | decide | omega)
                                  · refine lv_aload_n hx hb dX11_layFar_114 rfl (lv_at hl 5 rfl) ?_
                                    refine gf_RX11_112 (v := .ref (a 32)) C hO 0 mW_0 rfl dX11_layFar_115 ?_
                                    refine lv_bipush (v := 8) hx hb dX11_layFar_118 (by decide) ?_
                                    refine lv_iload_n hx hb dX11_layFar_120 rfl (lv_at hl 4 rfl) ?_
                                    refine lv_imul hx hb dX11_layFar_121 ?_
                                    refine lv_topi (fun z87 ez87 => ?_)
                                    have e88 : z87.toInt = 8 * (k_k4).toInt := by rw [ez87]; exact i_mul rfl rfl (by omega)
                                    refine lv_iload hx hb dX11_layFar_122 (lv_at hl 0 rfl) ?_
                                    refine lv_iadd hx hb dX11_layFar_124 ?_
                                    refine lv_topi (fun z89 ez89 => ?_)
                                    have e90 : z89.toInt = (8 * (k_k4).toInt) + (e_k72).toInt := by rw [ez89]; exact i_add e88 rfl (by omega)
                                    refine aI C hO 32 mW_32 (i_in (X := ((8 * (k_k4).toInt) + (e_k72).toInt)) e90 (by omega) (by omega)) dX11_layFar_125 ?_
                                    have g91 : 0 ≤ (fA u71 32 (z89).toNatClampNeg).toInt ∧ (fA u71 32 (z89).toNatClampNeg).toInt ≤ 1000 := by have h := MI_A32 hJ (z89).toNatClampNeg; exact h
                                    refine tE (y := (fA u71 32 (z89).toNatClampNeg)) (by exact rfl) ?_
                                    refine lv_sipush (v := 1000) hx hb dX11_layFar_126 (by decide) ?_
                                    refine cs_ne (tgt := 147) (X := ((fA u71 32 (z89).toNatClampNeg)).toInt) (Y := 1000) hx hb dX11_layFar_129 (by decide) rfl rfl (fun c92 => ?_) (fun c92 => ?_)
                                    · obtain ⟨z93, ez93⟩ : ∃ z : Int32, z = e_k72 + Int32.ofInt 1 := ⟨_, rfl⟩
                                      have e94 : z93.toInt = (e_k72).toInt + 1 := by rw [ez93]; exact i_add rfl rfl (by omega)
                                      refine lv_iinc (v := z93) (lv' := [(5, .int z93), (4, .int r68), (3, .int o_k20), (2, .int n_k10), (1, .int k_k4), (0, .ref (a 0))]) hx hb dX11_layFar_147 hl (k := 0) rfl ez93.symm (by decide) rfl (fun ls hl => ?_)
                                      refine lv_goto (tgt := 95) hx hb dX11_layFar_150 (by decide) ?_
                                      exact ih_k72 _ _ _ _ (z93) hO (lv_sub hl [0, 1, 2, 3, 4, 5] rfl) (by exact hJ) (by exact hT) (by first | decide | omega) (by first | decide | omega) (by exact ⟨(cv0_k72).1, Me_s (e := e_k72) (cv0_k72).2.1 (by omega) (by omega) (Or.inr (by rw [g8_of (i := z89) (by omega) (by omega) (by omega)]; omega)), (cv0_k72).2.2⟩) (by first | decide | omega)
                                    · refine lv_aload_n hx hb dX11_layFar_132 rfl (lv_at hl 5 rfl) ?_
                                      refine gf_RX11_112 (v := .ref (a 32)) C hO 0 mW_0 rfl dX11_layFar_133 ?_
                                      refine lv_bipush (v := 8) hx hb dX11_layFar_136 (by decide) ?_
                                      refine lv_iload_n hx hb dX11_layFar_138 rfl (lv_at hl 4 rfl) ?_
                                      refine lv_imul hx hb dX11_layFar_139 ?_
                                      refine lv_topi (fun z95 ez95 => ?_)
                                      have e96 : z95.toInt = 8 * (k_k4).toInt := by rw [ez95]; exact i_mul rfl rfl (by omega)
                                      refine lv_iload hx hb dX11_layFar_140 (lv_at hl 0 rfl) ?_
                                      refine lv_iadd hx hb dX11_layFar_142 ?_
                                      refine lv_topi (fun z97 ez97 => ?_)
                                      have e98 : z97.toInt = (8 * (k_k4).toInt) + (e_k72).toInt := by rw [ez97]; exact i_add e96 rfl (by omega)
                                      refine lv_iload_n hx hb dX11_layFar_143 rfl (lv_at hl 3 rfl) ?_
                                      refine lv_iconst (v := 1) hx hb dX11_layFar_144 (by decide) ?_
                                      refine lv_iadd hx hb dX11_layFar_145 ?_
                                      refine lv_topi (fun z99 ez99 => ?_)
                                      have e100 : z99.toInt = (n_k10).toInt + 1 := by rw [ez99]; exact i_add rfl rfl (by omega)
                                      refine aIs C hO 32 mW_32 (i_in (X := ((8 * (k_k4).toInt) + (e_k72).toInt)) e98 (by omega) (by omega)) mW_s32 dX11_layFar_146 (fun H locs hO => ?_)
                                      have hT := Km6_wA32 hO hT
                                      have hJ := MIsA_32 hO hJ (by first | decide | omega)
                                      have hRw := Rws_w (k := k_k4) (o := e_k72) (i := z97) (v := z99) (cv0_k72).1 (by have c := i_cnz (x := gk) (by omega); omega) (by omega) (by omega) (by omega) (by omega)
                                      have hMw := Me_w (k := k_k4) (n := n_k10) (o := o_k20) (e := e_k72) (g := gk) (i := z97) (v := z99) (cv0_k72).2.1 (cv0_k72).2.2 (by omega) (by omega) (by omega) (by omega) (by omega) (by omega) (by omega) (Tn_y (by omega) hbr81 (by omega)) (by rw [g8_of (i := z89) (by omega) (by omega) (by omega)]; omega) (by omega) (by omega) (by omega)
                                      obtain ⟨z101, ez101⟩ : ∃ z : Int32, z = e_k72 + Int32.ofInt 1 := ⟨_, rfl⟩
                                      have e102 : z101.toInt = (e_k72).toInt + 1 := by rw [ez101]; exact i_add rfl rfl (by omega)
                                      refine lv_iinc (v := z101) (lv' := [(5, .int z101), (4, .int r68), (3, .int o_k20), (2, .int n_k10), (1, .int k_k4), (0, .ref (a 0))]) hx hb dX11_layFar_147 hl (k := 0) rfl ez101.symm (by decide) rfl (fun ls hl => ?_)
                                      refine lv_goto (tgt := 95) hx hb dX11_layFar_150 (by decide) ?_
                                      exact ih_k72 _ _ _ _ (z101) hO (lv_sub hl [0, 1, 2, 3, 4, 5] rfl) (by exact hJ) (by exact hT) (by first | decide | omega) (by first | decide | omega) (by exact ⟨hRw, by rw [i_cadd (y := z101) (k := e_k72) (c := 1) (by omega) (by omega)]; exact hMw.1, hMw.2⟩) (by first | decide | omega)
                            have zc103 : (0 : Int32).toInt = 0 := rfl
                            exact LP_95_k72 4000 _ _ _ _ (0) hO (lv_sub hl [0, 1, 2, 3, 4, 5] rfl) (by exact hJ) (by exact hT) (by first | decide | omega) (by first | decide | omega) (by exact ⟨(cv0_k20).1, Me_z (cv0_k20).2, Tt_y (k := k_k4) (n := n_k10) (o := o_k20) (i := z31) (by omega) (by omega) (by omega) (by omega) (by omega) hNr68⟩) (by first | decide | omega)
                    have zc104 : (0 : Int32).toInt = 0 := rfl
                    exact LP_57_k20 4000 _ _ _ _ (0) hO (lv_sub hl [0, 1, 2, 3] rfl) (by exact hJ) (by exact hT) (by first | decide | omega) (by first | decide | omega) (by exact ⟨(cv0_k10).1, Md_z (cv0_k10).2⟩) (by first | decide | omega)
              have zc105 : (0 : Int32).toInt = 0 := rfl
              exact LP_47_k10 4000 _ _ _ _ (0) hO (lv_sub hl [0, 1, 2] rfl) (by exact hJ) (by exact hT) (by first | decide | omega) (by first | decide | omega) (by exact ⟨(cv0_k7).1, Ini_e (cv0_k7).2 (by omega) (by have c := i_cnz (x := gk) (by omega); omega)⟩) (by first | decide | omega)
            · refine lv_aload_n hx hb dX11_layFar_16 rfl (lv_at hl 2 rfl) ?_
              refine gf_RX11_112 (v := .ref (a 32)) C hO 0 mW_0 rfl dX11_layFar_17 ?_
              refine lv_bipush (v := 8) hx hb dX11_layFar_20 (by decide) ?_
              refine lv_iload_n hx hb dX11_layFar_22 rfl (lv_at hl 1 rfl) ?_
              refine lv_imul hx hb dX11_layFar_23 ?_
              refine lv_topi (fun z106 ez106 => ?_)
              have e107 : z106.toInt = 8 * (k_k4).toInt := by rw [ez106]; exact i_mul rfl rfl (by omega)
              refine lv_iload_n hx hb dX11_layFar_24 rfl (lv_at hl 0 rfl) ?_
              refine lv_iadd hx hb dX11_layFar_25 ?_
              refine lv_topi (fun z108 ez108 => ?_)
              have e109 : z108.toInt = (8 * (k_k4).toInt) + (o_k7).toInt := by rw [ez108]; exact i_add e107 rfl (by omega)
              refine lv_iload_n hx hb dX11_layFar_26 rfl (lv_at hl 1 rfl) ?_
              refine lv_iload_n hx hb dX11_layFar_27 rfl (lv_at hl 0 rfl) ?_
              refine cs_ne (tgt := 35) (X := (k_k4).toInt) (Y := (o_k7).toInt) hx hb dX11_layFar_28 (by decide) rfl rfl (fun c110 => ?_) (fun c110 => ?_)
              · refine lv_sipush (v := 1000) hx hb dX11_layFar_35 (by decide) ?_
                refine aIs C hO 32 mW_32 (i_in (X := ((8 * (k_k4).toInt) + (o_k7).toInt)) e109 (by omega) (by omega)) mW_s32 dX11_layFar_38 (fun H locs hO => ?_)
                have hT := Km6_wA32 hO hT
                have hJ := MIsA_32 hO hJ (by first | decide | omega)
                have hRw := Rws_w (k := k_k4) (o := o_k7) (i := z108) (v := 1000) (cv0_k7).1 (by have c := i_cnz (x := gk) (by omega); omega) (by omega) (by omega) (by omega) (by omega)
                obtain ⟨z111, ez111⟩ : ∃ z : Int32, z = o_k7 + Int32.ofInt 1 := ⟨_, rfl⟩
                have e112 : z111.toInt = (o_k7).toInt + 1 := by rw [ez111]; exact i_add rfl rfl (by omega)
                refine lv_iinc (v := z111) (lv' := [(2, .int z111), (1, .int k_k4), (0, .ref (a 0))]) hx hb dX11_layFar_39 hl (k := 0) rfl ez111.symm (by decide) rfl (fun ls hl => ?_)
                refine lv_goto (tgt := 10) hx hb dX11_layFar_42 (by decide) ?_
                exact ih_k7 _ _ _ _ (z111) hO (lv_sub hl [0, 1, 2] rfl) (by exact hJ) (by exact hT) (by first | decide | omega) (by exact ⟨hRw, Ini_w (o := o_k7) (i := z108) (cv0_k7).2 (by omega) (by omega) (by omega) (by omega) (Or.inr ⟨by omega, rfl⟩)⟩) (by first | decide | omega)
              · refine lv_iconst (v := 0) hx hb dX11_layFar_31 (by decide) ?_
                refine lv_goto (tgt := 38) hx hb dX11_layFar_32 (by decide) ?_
                refine aIs C hO 32 mW_32 (i_in (X := ((8 * (k_k4).toInt) + (o_k7).toInt)) e109 (by omega) (by omega)) mW_s32 dX11_layFar_38 (fun H locs hO => ?_)
                have hT := Km6_wA32 hO hT
                have hJ := MIsA_32 hO hJ (by first | decide | omega)
                have hRw := Rws_w (k := k_k4) (o := o_k7) (i := z108) (v := 0) (cv0_k7).1 (by have c := i_cnz (x := gk) (by omega); omega) (by omega) (by omega) (by omega) (by omega)
                obtain ⟨z113, ez113⟩ : ∃ z : Int32, z = o_k7 + Int32.ofInt 1 := ⟨_, rfl⟩
                have e114 : z113.toInt = (o_k7).toInt + 1 := by rw [ez113]; exact i_add rfl rfl (by omega)
                refine lv_iinc (v := z113) (lv' := [(2, .int z113), (1, .int k_k4), (0, .ref (a 0))]) hx hb dX11_layFar_39 hl (k := 0) rfl ez113.symm (by decide) rfl (fun ls hl => ?_)
                refine lv_goto (tgt := 10) hx hb dX11_layFar_42 (by decide) ?_
                exact ih_k7 _ _ _ _ (z113) hO (lv_sub hl [0, 1, 2] rfl) (by exact hJ) (by exact hT) (by first | decide | omega) (by exact ⟨hRw, Ini_w (o := o_k7) (i := z108) (cv0_k7).2 (by omega) (by omega) (by omega) (by omega) (Or.inl ⟨by omega, rfl⟩)⟩) (by first | decide | omega)
        have zc115 : (0 : Int32).toInt = 0 := rfl
        exact LP_10_k7 4000 _ _ _ _ (0) hO (lv_sub hl [0, 1, 2] rfl) (by exact hJ) (by exact hT) (by first | decide | omega) (by exact ⟨cv0_k4, Ini_z⟩) (by first | decide | omega)
  have zc116 : (0 : Int32).toInt = 0 := rfl
  exact LP_2_k4 4000 _ _ _ _ (0) hO (lv_sub hl [0, 1] rfl) (by exact hJ) (by exact hT) (by first | decide | omega) (by exact Rws_z) (by first | decide | omega)
theorem dX11_way_0 : decode cX11_way 0 = .ok (.aload_n 0, 1) := by decide +kernel
theorem dX11_way_1 : decode cX11_way 1 = .ok (.iconst 0, 1) := by decide +kernel
theorem dX11_way_2 : decode cX11_way 2 = .ok (.putfield 398, 3) := by decide +kernel
theorem dX11_way_5 : decode cX11_way 5 = .ok (.aload_n 0, 1) := by decide +kernel
theorem dX11_way_6 : decode cX11_way 6 = .ok (.iload_n 1, 1) := by decide +kernel
theorem dX11_way_7 : decode cX11_way 7 = .ok (.invokevirtual 419, 3) := by decide +kernel
theorem dX11_way_10 : decode cX11_way 10 = .ok (.ifCond .ne 5, 3) := by decide +kernel
theorem dX11_way_13 : decode cX11_way 13 = .ok (.iconst (-1), 1) := by decide +kernel
theorem dX11_way_14 : decode cX11_way 14 = .ok (.ireturn, 1) := by decide +kernel
theorem dX11_way_15 : decode cX11_way 15 = .ok (.aload_n 0, 1) := by decide +kernel
theorem dX11_way_16 : decode cX11_way 16 = .ok (.invokevirtual 466, 3) := by decide +kernel
theorem dX11_way_19 : decode cX11_way 19 = .ok (.aload_n 0, 1) := by decide +kernel
theorem dX11_way_20 : decode cX11_way 20 = .ok (.getfield 97, 3) := by decide +kernel
theorem dX11_way_23 : decode cX11_way 23 = .ok (.bipush 24, 2) := by decide +kernel
theorem dX11_way_25 : decode cX11_way 25 = .ok (.iaload, 1) := by decide +kernel
theorem dX11_way_26 : decode cX11_way 26 = .ok (.istore_n 2, 1) := by decide +kernel
theorem dX11_way_27 : decode cX11_way 27 = .ok (.aload_n 0, 1) := by decide +kernel
theorem dX11_way_28 : decode cX11_way 28 = .ok (.getfield 112, 3) := by decide +kernel
theorem dX11_way_31 : decode cX11_way 31 = .ok (.bipush 8, 2) := by decide +kernel
theorem dX11_way_33 : decode cX11_way 33 = .ok (.iload_n 2, 1) := by decide +kernel
theorem dX11_way_34 : decode cX11_way 34 = .ok (.imul, 1) := by decide +kernel
theorem dX11_way_35 : decode cX11_way 35 = .ok (.iload_n 1, 1) := by decide +kernel
theorem dX11_way_36 : decode cX11_way 36 = .ok (.iadd, 1) := by decide +kernel
theorem dX11_way_37 : decode cX11_way 37 = .ok (.iaload, 1) := by decide +kernel
theorem dX11_way_38 : decode cX11_way 38 = .ok (.istore_n 3, 1) := by decide +kernel
theorem dX11_way_39 : decode cX11_way 39 = .ok (.iload_n 3, 1) := by decide +kernel
theorem dX11_way_40 : decode cX11_way 40 = .ok (.sipush 1000, 3) := by decide +kernel
theorem dX11_way_43 : decode cX11_way 43 = .ok (.if_icmp .ne 5, 3) := by decide +kernel
theorem dX11_way_46 : decode cX11_way 46 = .ok (.iconst (-1), 1) := by decide +kernel
theorem dX11_way_47 : decode cX11_way 47 = .ok (.ireturn, 1) := by decide +kernel
theorem dX11_way_48 : decode cX11_way 48 = .ok (.aload_n 0, 1) := by decide +kernel
theorem dX11_way_49 : decode cX11_way 49 = .ok (.getfield 106, 3) := by decide +kernel
theorem dX11_way_52 : decode cX11_way 52 = .ok (.iconst 0, 1) := by decide +kernel
theorem dX11_way_53 : decode cX11_way 53 = .ok (.iload_n 2, 1) := by decide +kernel
theorem dX11_way_54 : decode cX11_way 54 = .ok (.iastore, 1) := by decide +kernel
theorem dX11_way_55 : decode cX11_way 55 = .ok (.aload_n 0, 1) := by decide +kernel
theorem dX11_way_56 : decode cX11_way 56 = .ok (.iconst 1, 1) := by decide +kernel
theorem dX11_way_57 : decode cX11_way 57 = .ok (.putfield 398, 3) := by decide +kernel
theorem dX11_way_60 : decode cX11_way 60 = .ok (.iload_n 2, 1) := by decide +kernel
theorem dX11_way_61 : decode cX11_way 61 = .ok (.iload_n 1, 1) := by decide +kernel
theorem dX11_way_62 : decode cX11_way 62 = .ok (.if_icmp .eq 85, 3) := by decide +kernel
theorem dX11_way_65 : decode cX11_way 65 = .ok (.aload_n 0, 1) := by decide +kernel
theorem dX11_way_66 : decode cX11_way 66 = .ok (.iload_n 2, 1) := by decide +kernel
theorem dX11_way_67 : decode cX11_way 67 = .ok (.iconst 0, 1) := by decide +kernel
theorem dX11_way_68 : decode cX11_way 68 = .ok (.invokevirtual 422, 3) := by decide +kernel
theorem dX11_way_71 : decode cX11_way 71 = .ok (.istore 4, 2) := by decide +kernel
theorem dX11_way_73 : decode cX11_way 73 = .ok (.iconst 0, 1) := by decide +kernel
theorem dX11_way_74 : decode cX11_way 74 = .ok (.istore 5, 2) := by decide +kernel
theorem dX11_way_76 : decode cX11_way 76 = .ok (.iload 4, 2) := by decide +kernel
theorem dX11_way_78 : decode cX11_way 78 = .ok (.iload 5, 2) := by decide +kernel
theorem dX11_way_80 : decode cX11_way 80 = .ok (.invokestatic 264, 3) := by decide +kernel
theorem dX11_way_83 : decode cX11_way 83 = .ok (.ifCond .eq 31, 3) := by decide +kernel
theorem dX11_way_86 : decode cX11_way 86 = .ok (.aload_n 0, 1) := by decide +kernel
theorem dX11_way_87 : decode cX11_way 87 = .ok (.getfield 112, 3) := by decide +kernel
theorem dX11_way_90 : decode cX11_way 90 = .ok (.bipush 8, 2) := by decide +kernel
theorem dX11_way_92 : decode cX11_way 92 = .ok (.iload 5, 2) := by decide +kernel
theorem dX11_way_94 : decode cX11_way 94 = .ok (.imul, 1) := by decide +kernel
theorem dX11_way_95 : decode cX11_way 95 = .ok (.iload_n 1, 1) := by decide +kernel
theorem dX11_way_96 : decode cX11_way 96 = .ok (.iadd, 1) := by decide +kernel
theorem dX11_way_97 : decode cX11_way 97 = .ok (.iaload, 1) := by decide +kernel
theorem dX11_way_98 : decode cX11_way 98 = .ok (.aload_n 0, 1) := by decide +kernel
theorem dX11_way_99 : decode cX11_way 99 = .ok (.getfield 112, 3) := by decide +kernel
theorem dX11_way_102 : decode cX11_way 102 = .ok (.bipush 8, 2) := by decide +kernel
theorem dX11_way_104 : decode cX11_way 104 = .ok (.iload_n 2, 1) := by decide +kernel
theorem dX11_way_105 : decode cX11_way 105 = .ok (.imul, 1) := by decide +kernel
theorem dX11_way_106 : decode cX11_way 106 = .ok (.iload_n 1, 1) := by decide +kernel
theorem dX11_way_107 : decode cX11_way 107 = .ok (.iadd, 1) := by decide +kernel
theorem dX11_way_108 : decode cX11_way 108 = .ok (.iaload, 1) := by decide +kernel
theorem dX11_way_109 : decode cX11_way 109 = .ok (.iconst 1, 1) := by decide +kernel
theorem dX11_way_110 : decode cX11_way 110 = .ok (.isub, 1) := by decide +kernel
theorem dX11_way_111 : decode cX11_way 111 = .ok (.if_icmp .eq 9, 3) := by decide +kernel
theorem dX11_way_114 : decode cX11_way 114 = .ok (.iinc 5 1, 3) := by decide +kernel
theorem dX11_way_117 : decode cX11_way 117 = .ok (.goto (-41), 3) := by decide +kernel
theorem dX11_way_120 : decode cX11_way 120 = .ok (.iload 5, 2) := by decide +kernel
theorem dX11_way_122 : decode cX11_way 122 = .ok (.istore_n 2, 1) := by decide +kernel
theorem dX11_way_123 : decode cX11_way 123 = .ok (.aload_n 0, 1) := by decide +kernel
theorem dX11_way_124 : decode cX11_way 124 = .ok (.getfield 106, 3) := by decide +kernel
theorem dX11_way_127 : decode cX11_way 127 = .ok (.aload_n 0, 1) := by decide +kernel
theorem dX11_way_128 : decode cX11_way 128 = .ok (.getfield 398, 3) := by decide +kernel
theorem dX11_way_131 : decode cX11_way 131 = .ok (.iload 5, 2) := by decide +kernel
theorem dX11_way_133 : decode cX11_way 133 = .ok (.iastore, 1) := by decide +kernel
theorem dX11_way_134 : decode cX11_way 134 = .ok (.aload_n 0, 1) := by decide +kernel
theorem dX11_way_135 : decode cX11_way 135 = .ok (.dup, 1) := by decide +kernel
theorem dX11_way_136 : decode cX11_way 136 = .ok (.getfield 398, 3) := by decide +kernel
theorem dX11_way_139 : decode cX11_way 139 = .ok (.iconst 1, 1) := by decide +kernel
theorem dX11_way_140 : decode cX11_way 140 = .ok (.iadd, 1) := by decide +kernel
theorem dX11_way_141 : decode cX11_way 141 = .ok (.putfield 398, 3) := by decide +kernel
theorem dX11_way_144 : decode cX11_way 144 = .ok (.goto (-84), 3) := by decide +kernel
theorem dX11_way_147 : decode cX11_way 147 = .ok (.iload_n 3, 1) := by decide +kernel
theorem dX11_way_148 : decode cX11_way 148 = .ok (.ireturn, 1) := by decide +kernel
theorem wd_1935 : (Cond.code ⟨"WebCourtModel", "way", "(I)I"⟩ prog_13_method_102_code (6 : Nat) (Option.some FieldType.int)) ∈ gtb := gtb_c8 146 (by decide +kernel) rfl
theorem Km8_A28 {u v : St} (h : Km8 u v) : fA v 28 = fA u 28 := h.2.2.2.2.2.2.2.2.2.2.2.2.2.2.2.2.2.2.2.2.2.2.2.2.2.2.2.2.2.2.2.2.2.2.2.2.2.2.2.2.2.2.2.2.2.2.2.2.2.1
theorem Km8_A4 {u v : St} (h : Km8 u v) : fA v 4 = fA u 4 := h.2.2.2.2.2.2.2.2.2.2.2.2.2.2.2.2.2.2.2.2.2.2.2.2.2.1
theorem Km8_A13 {u v : St} (h : Km8 u v) : fA v 13 = fA u 13 := h.2.2.2.2.2.2.2.2.2.2.2.2.2.2.2.2.2.2.2.2.2.2.2.2.2.2.2.2.2.2.2.2.2.2.1
theorem Km8_A14 {u v : St} (h : Km8 u v) : fA v 14 = fA u 14 := h.2.2.2.2.2.2.2.2.2.2.2.2.2.2.2.2.2.2.2.2.2.2.2.2.2.2.2.2.2.2.2.2.2.2.2.1
set_option maxHeartbeats 4000000 in
set_option maxRecDepth 100000 in
theorem T_X11_way (l : Launch) (D : va_G) (cy : Nat → ClassId) (a : Nat → Nat) (u : St) (hJ : MI a u) (gk : Int32) (hgk : fA u 3 (fI u 0 36).toNatClampNeg = gk) (x1 : Int32)  : Mi l D cy (mW cy a) yX11_way (.code yX11_way cX11_way 6 (some .int)) (rmo 3 71) [.ref (a 0), .int x1] u (fun (r : Int32) (u' : St) => (MI a u') ∧ (Km8 u u')) := by
  refine Mi.of (own := RX11) rfl (by decide) (Nat.le_of_ble_eq_true rfl) ?_
  have hT : Km8 u u := Km8.rf
  have hJ0 := hJ
  intro p e s m below meth c A Q ls C hret hO hl
  obtain ⟨hx, hb, hml, hown, ht, hK, hA⟩ := id C
  have hl : lv_has ls 6 [(0, .ref (a 0)), (1, .int x1)] := hl
  refine lv_aload_n hx hb dX11_way_0 rfl (lv_at hl 0 rfl) ?_
  refine lv_iconst (v := 0) hx hb dX11_way_1 (by decide) ?_
  refine pf_RX11_398 C hO 0 mW_0 (Nat.le_of_ble_eq_true rfl) mW_s0_50 dX11_way_2 (fun H locs hO => ?_)
  have hT := Km8_wI50 (x := 0) hT
  have hJ := MIs_50 (v := 0) hJ (by first | decide | omega)
  refine lv_aload_n hx hb dX11_way_5 rfl (lv_at hl 0 rfl) ?_
  refine lv_iload_n hx hb dX11_way_6 rfl (lv_at hl 1 rfl) ?_
  have g1 : 0 ≤ (fI u 0 36).toInt ∧ (fI u 0 36).toInt ≤ 1 := by have h := MI_36 hJ0; exact h
  have g2 : 0 ≤ gk.toInt ∧ gk.toInt ≤ 8 := by have h := MI_A3 hJ0 (fI u 0 36).toNatClampNeg; rw [hgk] at h; exact h
  refine cVi (w := mW cy a) (As := [.int x1]) (rest := []) C hO (T_X11_isKnot l D cy a _ (by exact hJ) (gk) (by exact hgk) (x1)) (cwV 1 ht (gV wd_1718 wd_1720 wd_77 wd_121 wd_1721) rfl rfl rfl hd_yX11_isKnot ⟨Nat.le_of_ble_eq_true rfl, Nat.le_of_ble_eq_true rfl⟩) 0 rfl mW_0 rfl rfl hl.1 (Nat.le_of_ble_eq_true rfl) dX11_way_7 rfl ⟨Nat.zero_le _, Nat.zero_le _⟩ (fun r3 u4 H locs hp5 hO => ?_)
  obtain ⟨hr3, hu4⟩ := hp5
  rw [hu4] at hO
  rcases hr3 with ⟨hcr3, hvr3⟩ | ⟨hcr3, hvr3⟩
  · subst hvr3
    refine bt_ne (tgt := 15) (X := 1) hx hb dX11_way_10 (by decide) rfl (by omega) ?_
    refine lv_aload_n hx hb dX11_way_15 rfl (lv_at hl 0 rfl) ?_
    refine cVv (w := mW cy a) (As := []) (rest := []) C hO (T_X11_layFar_x l D cy a _ (by exact hJ) (gk) (by exact hgk)) (cwV 0 ht (gV wd_1936 wd_1938 wd_102 wd_121 wd_1939) rfl rfl rfl hd_yX11_layFar ⟨Nat.le_of_ble_eq_true rfl, Nat.le_of_ble_eq_true rfl⟩) 0 rfl mW_0 rfl rfl hl.1 (Nat.le_of_ble_eq_true rfl) dX11_way_16 rfl ⟨Nat.zero_le _, Nat.zero_le _⟩ (fun u7 H locs hp8 hO => ?_)
    obtain ⟨hJ, hTu7, hx0u7⟩ := hp8
    have hT : Km8 u u7 := Km8.tr (by exact hT) (Km6_to_Km8 hTu7)
    have hFr : Fr u gk (fA u7 32) := Fr_eq hx0u7 rfl rfl rfl rfl rfl
    refine lv_aload_n hx hb dX11_way_19 rfl (lv_at hl 0 rfl) ?_
    refine gf_RX11_97 (v := .ref (a 28)) C hO 0 mW_0 rfl dX11_way_20 ?_
    refine lv_bipush (v := 24) hx hb dX11_way_23 (by decide) ?_
    refine aI C hO 28 mW_28 (i_in (X := 24) rfl (by omega) (by omega)) dX11_way_25 ?_
    refine tE (y := (fA u 28 24)) (by exact (congrFun (Km8_A28 hT) _)) ?_
    have g9 : 0 ≤ (fA u 28 24).toInt ∧ (fA u 28 24).toInt ≤ 7 := by have h := MI_sheK hJ (K := gk) (by exact (Eq.trans (congrArg (fun z : Int32 => fA _ 3 z.toNatClampNeg) (Km8_I36 hT)) (Eq.trans (congrFun (Km8_A3 hT) _) hgk))) (by omega); rw [show fA _ 28 24 = (fA u 28 24) from (congrFun (Km8_A28 hT) _)] at h; exact h
    refine lv_istore_n (lv' := [(2, .int (fA u 28 24)), (0, .ref (a 0)), (1, .int x1)]) hx hb dX11_way_26 rfl hl (by decide) rfl (fun ls hl => ?_)
    refine lv_aload_n hx hb dX11_way_27 rfl (lv_at hl 1 rfl) ?_
    refine gf_RX11_112 (v := .ref (a 32)) C hO 0 mW_0 rfl dX11_way_28 ?_
    refine lv_bipush (v := 8) hx hb dX11_way_31 (by decide) ?_
    refine lv_iload_n hx hb dX11_way_33 rfl (lv_at hl 0 rfl) ?_
    refine lv_imul hx hb dX11_way_34 ?_
    refine lv_topi (fun z10 ez10 => ?_)
    have e11 : z10.toInt = 8 * ((fA u 28 24)).toInt := by rw [ez10]; exact i_mul rfl rfl (by omega)
    refine lv_iload_n hx hb dX11_way_35 rfl (lv_at hl 2 rfl) ?_
    refine lv_iadd hx hb dX11_way_36 ?_
    refine lv_topi (fun z12 ez12 => ?_)
    have e13 : z12.toInt = (8 * ((fA u 28 24)).toInt) + (x1).toInt := by rw [ez12]; exact i_add e11 rfl (by omega)
    refine aI C hO 32 mW_32 (i_in (X := ((8 * ((fA u 28 24)).toInt) + (x1).toInt)) e13 (by omega) (by omega)) dX11_way_37 ?_
    have g14 : 0 ≤ (fA u7 32 (z12).toNatClampNeg).toInt ∧ (fA u7 32 (z12).toNatClampNeg).toInt ≤ 1000 := by have h := MI_A32 hJ (z12).toNatClampNeg; exact h
    refine tE (y := (fA u7 32 (z12).toNatClampNeg)) (by exact rfl) ?_
    refine lv_istore_n (lv' := [(3, .int (fA u7 32 (z12).toNatClampNeg)), (2, .int (fA u 28 24)), (0, .ref (a 0)), (1, .int x1)]) hx hb dX11_way_38 rfl hl (by decide) rfl (fun ls hl => ?_)
    refine lv_iload_n hx hb dX11_way_39 rfl (lv_at hl 0 rfl) ?_
    refine lv_sipush (v := 1000) hx hb dX11_way_40 (by decide) ?_
    refine cs_ne (tgt := 48) (X := ((fA u7 32 (z12).toNatClampNeg)).toInt) (Y := 1000) hx hb dX11_way_43 (by decide) rfl rfl (fun c15 => ?_) (fun c15 => ?_)
    · have hin := wy_in (i := z12) (x := (fA u 28 24)) (y := x1) hFr (by omega) (by omega) (by omega) (by omega) (by omega) (by omega)
      refine lv_aload_n hx hb dX11_way_48 rfl (lv_at hl 2 rfl) ?_
      refine gf_RX11_106 (v := .ref (a 30)) C hO 0 mW_0 rfl dX11_way_49 ?_
      refine lv_iconst (v := 0) hx hb dX11_way_52 (by decide) ?_
      refine lv_iload_n hx hb dX11_way_53 rfl (lv_at hl 1 rfl) ?_
      refine aIs C hO 30 mW_30 (i_in (X := 0) rfl (by omega) (by omega)) mW_s30 dX11_way_54 (fun H locs hO => ?_)
      have hT := Km8_wA30 hO hT
      have hJ := MIsA_30 hO hJ
      refine lv_aload_n hx hb dX11_way_55 rfl (lv_at hl 2 rfl) ?_
      refine lv_iconst (v := 1) hx hb dX11_way_56 (by decide) ?_
      refine pf_RX11_398 C hO 0 mW_0 (Nat.le_of_ble_eq_true rfl) mW_s0_50 dX11_way_57 (fun H locs hO => ?_)
      have hT := Km8_wI50 (x := 1) hT
      have hJ := MIs_50 (v := 1) hJ (by first | decide | omega)
      have LP_60_k17 : ∀ (n : Nat) (u16 : St) (H : Heap) (locs : List Loc) (ls : Array Slot) (at_k17 : Int32) (ld_k17 : Int32), Wo D A (mW cy a u16) s.heap H locs → lv_has ls 6 [(3, .int (fA u7 32 (z12).toNatClampNeg)), (2, .int at_k17), (0, .ref (a 0)), (1, .int x1)] → MI a u16 → Km8 u u16 → fI u16 0 50 = ld_k17 → at_k17.toInt < gk.toInt → 1 ≤ ld_k17.toInt → 0 ≤ at_k17.toInt ∧ at_k17.toInt ≤ 7 → 0 ≤ ld_k17.toInt ∧ ld_k17.toInt ≤ 8 → (fA u16 32 = fA u7 32 ∧ gF8 (fA u7 32) at_k17.toNatClampNeg x1.toNatClampNeg + ld_k17.toInt = (fA u7 32 (z12).toNatClampNeg).toInt + 1) → 9 - ld_k17.toInt < (n : Int) → W p l e (rmo 3 71) s m [.ref (a 0), .int x1].toArray below meth c H locs 0 0 Q (F0 m 60 ls []) := by
        intro n
        induction n with
        | zero =>
          intro u16 H locs ls at_k17 ld_k17 hO hl hJ hT hld_k17 iv0_k17 iv1_k17 iv2_k17 iv3_k17 cv0_k17 hm_k17
          exact absurd hm_k17 (by omega)
        | succ n ih_k17 =>
          intro u16 H locs ls at_k17 ld_k17 hO hl hJ hT hld_k17 iv0_k17 iv1_k17 iv2_k17 iv3_k17 cv0_k17 hm_k17
          refine lv_iload_n hx hb dX11_way_60 rfl (lv_at hl 1 rfl) ?_
          refine lv_iload_n hx hb dX11_way_61 rfl (lv_at hl 3 rfl) ?_
          refine cs_eq (tgt := 147) (X := (at_k17).toInt) (Y := (x1).toInt) hx hb dX11_way_62 (by decide) rfl rfl (fun c18 => ?_) (fun c18 => ?_)
          · refine lv_iload_n hx hb dX11_way_147 rfl (lv_at hl 0 rfl) ?_
            refine hret _ _ _ _ _ _ dX11_way_148 rfl ?_ hO
            exact ⟨hJ, hT⟩
          · obtain ⟨dd, hdd⟩ : ∃ z : Int32, gF8 (fA u7 32) at_k17.toNatClampNeg x1.toNatClampNeg = z.toInt := ⟨_, rfl⟩
            have hsum : dd.toInt + ld_k17.toInt = (fA u7 32 (z12).toNatClampNeg).toInt + 1 := by rw [← hdd]; exact (cv0_k17).2
            obtain ⟨hd1, es, hes1, hes2, hes3⟩ := wy_step (x := at_k17) (y := x1) (i := dd) hFr (by omega) (by omega) (by omega) (by omega) (by omega) hdd (by omega) (by omega)
            refine lv_aload_n hx hb dX11_way_65 rfl (lv_at hl 2 rfl) ?_
            refine lv_iload_n hx hb dX11_way_66 rfl (lv_at hl 1 rfl) ?_
            refine lv_iconst (v := 0) hx hb dX11_way_67 (by decide) ?_
            refine cVi (w := mW cy a) (As := [.int at_k17, .int 0]) (rest := []) C hO (T_X11_nextTo_f l D cy a _ (by exact hJ) (at_k17)) (cwV 2 ht (gV wd_1725 wd_1727 wd_78 wd_121 wd_1728) rfl rfl rfl hd_yX11_nextTo ⟨Nat.le_of_ble_eq_true rfl, Nat.le_of_ble_eq_true rfl⟩) 0 rfl mW_0 rfl rfl hl.1 (Nat.le_of_ble_eq_true rfl) dX11_way_68 rfl ⟨Nat.zero_le _, Nat.zero_le _⟩ (fun r19 u20 H locs hp21 hO => ?_)
            obtain ⟨hr19, hu20⟩ := hp21
            rw [hu20] at hO
            have hNr19 : r19 = nxF u at_k17 := hr19.trans (nxF_eq (Km8_A4 hT) (Km8_A13 hT) (Km8_A14 hT) (Km8_A28 hT) (Km8_I36 hT))
            refine lv_istore (lv' := [(4, .int r19), (3, .int (fA u7 32 (z12).toNatClampNeg)), (2, .int at_k17), (0, .ref (a 0)), (1, .int x1)]) hx hb dX11_way_71 hl (by decide) rfl (fun ls hl => ?_)
            refine lv_iconst (v := 0) hx hb dX11_way_73 (by decide) ?_
            refine lv_istore (lv' := [(5, .int 0), (4, .int r19), (3, .int (fA u7 32 (z12).toNatClampNeg)), (2, .int at_k17), (0, .ref (a 0)), (1, .int x1)]) hx hb dX11_way_74 hl (by decide) rfl (fun ls hl => ?_)
            have LP_76_k22 : ∀ (n : Nat) (H : Heap) (locs : List Loc) (ls : Array Slot) (e_k22 : Int32), Wo D A (mW cy a u16) s.heap H locs → lv_has ls 6 [(5, .int e_k22), (4, .int r19), (3, .int (fA u7 32 (z12).toNatClampNeg)), (2, .int at_k17), (0, .ref (a 0)), (1, .int x1)] → e_k22.toInt ≤ (es : Int) → 0 ≤ e_k22.toInt ∧ e_k22.toInt ≤ 7 → 8 - e_k22.toInt < (n : Int) → W p l e (rmo 3 71) s m [.ref (a 0), .int x1].toArray below meth c H locs 0 0 Q (F0 m 76 ls []) := by
              intro n
              induction n with
              | zero =>
                intro H locs ls e_k22 hO hl iv0_k22 iv1_k22 hm_k22
                exact absurd hm_k22 (by omega)
              | succ n ih_k22 =>
                intro H locs ls e_k22 hO hl iv0_k22 iv1_k22 hm_k22
                refine lv_iload hx hb dX11_way_76 (lv_at hl 1 rfl) ?_
                refine lv_iload hx hb dX11_way_78 (lv_at hl 0 rfl) ?_
                refine cSi (w := mW cy a) (As := [.int r19, .int e_k22]) (rest := []) C hO (T_X11_bit l D cy a _ (by exact hJ) (r19) (e_k22)) (va_cwS 2 ht (gSS wd_1612 wd_1613 wd_121 wd_1614) rfl rfl rfl hd_yX11_bit ⟨Nat.le_of_ble_eq_true rfl, Nat.le_of_ble_eq_true rfl⟩)  rfl hl.1 (Nat.le_of_ble_eq_true rfl) dX11_way_80 rfl ⟨Nat.zero_le _, Nat.zero_le _⟩ (fun r23 u24 H locs hp25 hO => ?_)
                obtain ⟨hr23, hu24⟩ := hp25
                rw [hu24] at hO
                obtain ⟨hr23, hbr23⟩ := hr23
                have gr23 : 0 ≤ r23.toInt ∧ r23.toInt ≤ 1 := by rcases hr23 with h | h <;> rw [h] <;> decide
                refine bs_eq (tgt := 114) (X := (r23).toInt) hx hb dX11_way_83 (by decide) rfl (fun c26 => ?_) (fun c26 => ?_)
                · have hne := wy_n1 (nx := r19) (e := e_k22) (es := es) (by rw [hNr19]; exact hes2) hbr23 (by omega) (by omega)
                  obtain ⟨z27, ez27⟩ : ∃ z : Int32, z = e_k22 + Int32.ofInt 1 := ⟨_, rfl⟩
                  have e28 : z27.toInt = (e_k22).toInt + 1 := by rw [ez27]; exact i_add rfl rfl (by omega)
                  refine lv_iinc (v := z27) (lv' := [(5, .int z27), (4, .int r19), (3, .int (fA u7 32 (z12).toNatClampNeg)), (2, .int at_k17), (0, .ref (a 0)), (1, .int x1)]) hx hb dX11_way_114 hl (k := 0) rfl ez27.symm (by decide) rfl (fun ls hl => ?_)
                  refine lv_goto (tgt := 76) hx hb dX11_way_117 (by decide) ?_
                  exact ih_k22 _ _ _ (z27) hO (lv_sub hl [0, 1, 2, 3, 4, 5] rfl) (by first | decide | omega) (by first | decide | omega) (by first | decide | omega)
                · refine lv_aload_n hx hb dX11_way_86 rfl (lv_at hl 4 rfl) ?_
                  refine gf_RX11_112 (v := .ref (a 32)) C hO 0 mW_0 rfl dX11_way_87 ?_
                  refine lv_bipush (v := 8) hx hb dX11_way_90 (by decide) ?_
                  refine lv_iload hx hb dX11_way_92 (lv_at hl 0 rfl) ?_
                  refine lv_imul hx hb dX11_way_94 ?_
                  refine lv_topi (fun z29 ez29 => ?_)
                  have e30 : z29.toInt = 8 * (e_k22).toInt := by rw [ez29]; exact i_mul rfl rfl (by omega)
                  refine lv_iload_n hx hb dX11_way_95 rfl (lv_at hl 5 rfl) ?_
                  refine lv_iadd hx hb dX11_way_96 ?_
                  refine lv_topi (fun z31 ez31 => ?_)
                  have e32 : z31.toInt = (8 * (e_k22).toInt) + (x1).toInt := by rw [ez31]; exact i_add e30 rfl (by omega)
                  refine aI C hO 32 mW_32 (i_in (X := ((8 * (e_k22).toInt) + (x1).toInt)) e32 (by omega) (by omega)) dX11_way_97 ?_
                  have g33 : 0 ≤ (fA u16 32 (z31).toNatClampNeg).toInt ∧ (fA u16 32 (z31).toNatClampNeg).toInt ≤ 1000 := by have h := MI_A32 hJ (z31).toNatClampNeg; exact h
                  refine tE (y := (fA u16 32 (z31).toNatClampNeg)) (by exact rfl) ?_
                  refine lv_aload_n hx hb dX11_way_98 rfl (lv_at hl 4 rfl) ?_
                  refine gf_RX11_112 (v := .ref (a 32)) C hO 0 mW_0 rfl dX11_way_99 ?_
                  refine lv_bipush (v := 8) hx hb dX11_way_102 (by decide) ?_
                  refine lv_iload_n hx hb dX11_way_104 rfl (lv_at hl 3 rfl) ?_
                  refine lv_imul hx hb dX11_way_105 ?_
                  refine lv_topi (fun z34 ez34 => ?_)
                  have e35 : z34.toInt = 8 * (at_k17).toInt := by rw [ez34]; exact i_mul rfl rfl (by omega)
                  refine lv_iload_n hx hb dX11_way_106 rfl (lv_at hl 5 rfl) ?_
                  refine lv_iadd hx hb dX11_way_107 ?_
                  refine lv_topi (fun z36 ez36 => ?_)
                  have e37 : z36.toInt = (8 * (at_k17).toInt) + (x1).toInt := by rw [ez36]; exact i_add e35 rfl (by omega)
                  refine aI C hO 32 mW_32 (i_in (X := ((8 * (at_k17).toInt) + (x1).toInt)) e37 (by omega) (by omega)) dX11_way_108 ?_
                  have g38 : 0 ≤ (fA u16 32 (z36).toNatClampNeg).toInt ∧ (fA u16 32 (z36).toNatClampNeg).toInt ≤ 1000 := by have h := MI_A32 hJ (z36).toNatClampNeg; exact h
                  refine tE (y := (fA u16 32 (z36).toNatClampNeg)) (by exact rfl) ?_
                  refine lv_iconst (v := 1) hx hb dX11_way_109 (by decide) ?_
                  refine lv_isub hx hb dX11_way_110 ?_
                  refine lv_topi (fun z39 ez39 => ?_)
                  have e40 : z39.toInt = ((fA u16 32 (z36).toNatClampNeg)).toInt - 1 := by rw [ez39]; exact i_sub rfl rfl (by omega)
                  have hv2 : ((fA u16 32 (z36).toNatClampNeg)).toInt = dd.toInt := by rw [← hdd, g8_of (i := z36) (by omega) (by omega) (by omega), ← (cv0_k17).1]
                  refine cs_eq (tgt := 120) (X := ((fA u16 32 (z31).toNatClampNeg)).toInt) (Y := (((fA u16 32 (z36).toNatClampNeg)).toInt - 1)) hx hb dX11_way_111 (by decide) rfl e40 (fun c41 => ?_) (fun c41 => ?_)
                  · have hv1 : gF8 (fA u7 32) e_k22.toNatClampNeg x1.toNatClampNeg = ((fA u16 32 (z31).toNatClampNeg)).toInt := by rw [g8_of (i := z31) (by omega) (by omega) (by omega), ← (cv0_k17).1]
                    refine lv_iload hx hb dX11_way_120 (lv_at hl 0 rfl) ?_
                    refine lv_istore_n (lv' := [(2, .int e_k22), (5, .int e_k22), (4, .int r19), (3, .int (fA u7 32 (z12).toNatClampNeg)), (0, .ref (a 0)), (1, .int x1)]) hx hb dX11_way_122 rfl hl (by decide) rfl (fun ls hl => ?_)
                    refine lv_aload_n hx hb dX11_way_123 rfl (lv_at hl 4 rfl) ?_
                    refine gf_RX11_106 (v := .ref (a 30)) C hO 0 mW_0 rfl dX11_way_124 ?_
                    refine lv_aload_n hx hb dX11_way_127 rfl (lv_at hl 4 rfl) ?_
                    refine gf_RX11_398 (v := .int ld_k17) C hO 0 mW_0 (congrArg (fun z : Int32 => some (Value.int z)) hld_k17) dX11_way_128 ?_
                    refine lv_iload hx hb dX11_way_131 (lv_at hl 1 rfl) ?_
                    refine aIs C hO 30 mW_30 (i_in (X := (ld_k17).toInt) rfl (by omega) (by omega)) mW_s30 dX11_way_133 (fun H locs hO => ?_)
                    have hT := Km8_wA30 hO hT
                    have hJ := MIsA_30 hO hJ
                    refine lv_aload_n hx hb dX11_way_134 rfl (lv_at hl 4 rfl) ?_
                    refine lv_dup hx hb dX11_way_135 rfl ?_
                    refine gf_RX11_398 (v := .int ld_k17) C hO 0 mW_0 (congrArg (fun z : Int32 => some (Value.int z)) hld_k17) dX11_way_136 ?_
                    refine lv_iconst (v := 1) hx hb dX11_way_139 (by decide) ?_
                    refine lv_iadd hx hb dX11_way_140 ?_
                    refine lv_topi (fun z42 ez42 => ?_)
                    have e43 : z42.toInt = (ld_k17).toInt + 1 := by rw [ez42]; exact i_add rfl rfl (by omega)
                    refine pf_RX11_398 C hO 0 mW_0 (Nat.le_of_ble_eq_true rfl) mW_s0_50 dX11_way_141 (fun H locs hO => ?_)
                    have hT := Km8_wI50 (x := z42) hT
                    have hJ := MIs_50 (v := z42) hJ (by first | decide | omega)
                    refine lv_goto (tgt := 60) hx hb dX11_way_144 (by decide) ?_
                    exact ih_k17 _ _ _ _ (e_k22) (z42) hO (lv_sub hl [3, 0, 4, 5] rfl) (by exact hJ) (by exact hT) (by exact rfl) (by first | decide | omega) (by first | decide | omega) (by first | decide | omega) (by first | decide | omega) (by exact ⟨(cv0_k17).1, by rw [hv1]; omega⟩) (by first | decide | omega)
                  · have hne := wy_n2 (e := e_k22) (i := z31) hes3 (by omega) (by omega) (by omega) (by rw [← (cv0_k17).1]; omega)
                    obtain ⟨z44, ez44⟩ : ∃ z : Int32, z = e_k22 + Int32.ofInt 1 := ⟨_, rfl⟩
                    have e45 : z44.toInt = (e_k22).toInt + 1 := by rw [ez44]; exact i_add rfl rfl (by omega)
                    refine lv_iinc (v := z44) (lv' := [(5, .int z44), (4, .int r19), (3, .int (fA u7 32 (z12).toNatClampNeg)), (2, .int at_k17), (0, .ref (a 0)), (1, .int x1)]) hx hb dX11_way_114 hl (k := 0) rfl ez44.symm (by decide) rfl (fun ls hl => ?_)
                    refine lv_goto (tgt := 76) hx hb dX11_way_117 (by decide) ?_
                    exact ih_k22 _ _ _ (z44) hO (lv_sub hl [0, 1, 2, 3, 4, 5] rfl) (by first | decide | omega) (by first | decide | omega) (by first | decide | omega)
            have zc46 : (0 : Int32).toInt = 0 := rfl
            exact LP_76_k22 4000 _ _ _ (0) hO (lv_sub hl [0, 1, 2, 3, 4, 5] rfl) (by first | decide | omega) (by first | decide | omega) (by first | decide | omega)
      have zc47 : (1 : Int32).toInt = 1 := rfl
      exact LP_60_k17 4000 _ _ _ _ ((fA u 28 24)) (1) hO (lv_sub hl [0, 1, 2, 3] rfl) (by exact hJ) (by exact hT) (by exact rfl) (by first | decide | omega) (by first | decide | omega) (by first | decide | omega) (by first | decide | omega) (by exact ⟨rfl, by rw [g8_of (i := z12) (by omega) (by omega) (by omega)]; exact (show ((fA u7 32 (z12).toNatClampNeg)).toInt + (1 : Int32).toInt = ((fA u7 32 (z12).toNatClampNeg)).toInt + 1 from rfl)⟩) (by first | decide | omega)
    · refine lv_iconst (v := (-1)) hx hb dX11_way_46 (by decide) ?_
      refine hret _ _ _ _ _ _ dX11_way_47 rfl ?_ hO
      exact ⟨hJ, hT⟩
  · subst hvr3
    refine bn_ne (X := 0) hx hb dX11_way_10 rfl (by omega) ?_ (tgt := 15) (by decide)
    refine lv_iconst (v := (-1)) hx hb dX11_way_13 (by decide) ?_
    refine hret _ _ _ _ _ _ dX11_way_14 rfl ?_ hO
    exact ⟨hJ, hT⟩
