set_option maxHeartbeats 8000000 in
set_option maxRecDepth 100000 in
theorem law_loop {p : Program} {l : Launch} {e : Env} {s : State} {m : MethodId} {below : List Frame} {meth : Method} {c : Code} {b Ln : Nat} {xs : Nat → Int32} {D : va_G} {cy : Nat → ClassId} {a2 : Nat → Nat} {A : Nat → Prop} (hAe : (fun q : Nat => s.heap.size ≤ q) = A) (C : Cx p s m #[Value.ref b] c code 4 RL D cy A) (hr : meth.sig.returnType = ret) (hlocks : meth.locks = false) (hX : va_X b Ln xs s s.heap) (hbl : b < s.heap.size) (hbA : ¬ A b) (hLm : Ln ≤ 3072) : ∀ (n : Nat) (a1 : Nat → Nat) (u1 u2 : St) (H : Heap) (locs : List Loc) (ls : Array Slot) (i : Int32), CI a1 u1 → MI a2 u2 → fI u1 39 6 = fI u2 0 62 → Wo D A (cW cy a1 u1 ++ mW cy a2 u2) s.heap H locs → lv_has ls 4 [(0, .ref b), (1, .ref (a1 0)), (2, .ref (a2 0)), (3, .int i)] → 0 ≤ i.toInt → i.toInt ≤ 3078 → 4000 - i.toInt < (n : Int) → W p l e room_1 s m #[Value.ref b] below meth c H locs 134 12281 (lw_Z below #[Value.ref b] s) (F0 m 18 ls []) := by
  obtain ⟨hx, hb, hml, hown, ht, hK, hA⟩ := id C
  intro n
  induction n with
  | zero =>
    intro a1 u1 u2 H locs ls i hJ1 hJ2 hT hO hl h0 h1 hm
    exact absurd hm (by omega)
  | succ n ih =>
    intro a1 u1 u2 H locs ls i hJ1 hJ2 hT hO hl h0 h1 hm
    refine lv_iload_n hx hb dL_law_18 rfl (lv_at hl 3 rfl) ?_
    refine lv_aload_n hx hb dL_law_19 rfl (lv_at hl 0 rfl) ?_
    refine va_slen hx hb hX hbl hbA hO.2.2 dL_law_20 ?_
    refine lv_bipush (v := 6) hx hb dL_law_21 (by decide) ?_
    refine lv_isub hx hb dL_law_23 ?_
    have eL : (Int32.ofNat Ln).toInt = (Ln : Int) := nI_toInt (n := Ln) (by omega)
    have eM : (Int32.ofNat Ln - 6).toInt = (Ln : Int) - 6 := i_sub eL rfl (by omega)
    refine cs_gt (tgt := 1392) (X := i.toInt) (Y := (Ln : Int) - 6) hx hb dL_law_24 (by decide) rfl eM (fun c1 => ?_) (fun c1 => ?_)
    · exact law_end hAe C hr hlocks hO.2.2
    have kend : ∀ (b1 : Nat → Nat) (v1 v2 : St) (H : Heap) (locs : List Loc) (ls : Array Slot), b1 0 = a1 0 → CI b1 v1 → MI a2 v2 → fI v1 39 6 = fI v2 0 62 → Wo D A (cW cy b1 v1 ++ mW cy a2 v2) s.heap H locs → lv_has ls 4 [(0, .ref b), (1, .ref (a1 0)), (2, .ref (a2 0)), (3, .int i)] → W p l e room_1 s m #[Value.ref b] below meth c H locs 134 12281 (lw_Z below #[Value.ref b] s) (F0 m 1386 ls []) := by
      intro b1 v1 v2 H locs ls hb0 hJ1 hJ2 hT hO hl
      rw [← hb0] at hl
      obtain ⟨z, ez⟩ : ∃ z : Int32, z = i + Int32.ofInt 6 := ⟨_, rfl⟩
      have nz : z.toInt = i.toInt + 6 := by rw [ez]; exact i_add rfl rfl (by omega)
      refine lv_iinc (v := z) (lv' := [(3, .int z), (0, .ref b), (1, .ref (b1 0)), (2, .ref (a2 0))]) hx hb dL_law_1386 hl (k := 3) rfl ez.symm (by decide) rfl (fun ls hl => ?_)
      refine lv_goto (tgt := 18) hx hb dL_law_1389 (by decide) ?_
      exact ih b1 v1 v2 H locs ls z hJ1 hJ2 hT hO (lv_sub hl [1, 2, 3, 0] rfl) (by omega) (by omega) (by omega)
    refine lv_aload_n hx hb dL_law_27 rfl (lv_at hl 0 rfl) ?_
    refine lv_iload_n hx hb dL_law_28 rfl (lv_at hl 3 rfl) ?_
    refine va_sld hx hb hX hbl hbA hO.2.2 (i_in (X := i.toInt) rfl (by omega) (by omega)) dL_law_29 ?_
    refine lv_bipush (v := 63) hx hb dL_law_30 (by decide) ?_
    refine lv_iand hx hb dL_law_32 ?_
    refine lv_topi (fun z ez => ?_)
    have hz : (z.toInt < 0 ∨ 45 < z.toInt) ∨ z.toInt = 0 ∨ z.toInt = 1 ∨ z.toInt = 2 ∨ z.toInt = 3 ∨ z.toInt = 4 ∨ z.toInt = 5 ∨ z.toInt = 6 ∨ z.toInt = 7 ∨ z.toInt = 8 ∨ z.toInt = 9 ∨ z.toInt = 10 ∨ z.toInt = 11 ∨ z.toInt = 12 ∨ z.toInt = 13 ∨ z.toInt = 14 ∨ z.toInt = 15 ∨ z.toInt = 16 ∨ z.toInt = 17 ∨ z.toInt = 18 ∨ z.toInt = 19 ∨ z.toInt = 20 ∨ z.toInt = 21 ∨ z.toInt = 22 ∨ z.toInt = 23 ∨ z.toInt = 24 ∨ z.toInt = 25 ∨ z.toInt = 26 ∨ z.toInt = 27 ∨ z.toInt = 28 ∨ z.toInt = 29 ∨ z.toInt = 30 ∨ z.toInt = 31 ∨ z.toInt = 32 ∨ z.toInt = 33 ∨ z.toInt = 34 ∨ z.toInt = 35 ∨ z.toInt = 36 ∨ z.toInt = 37 ∨ z.toInt = 38 ∨ z.toInt = 39 ∨ z.toInt = 40 ∨ z.toInt = 41 ∨ z.toInt = 42 ∨ z.toInt = 43 ∨ z.toInt = 44 ∨ z.toInt = 45 := by omega
    rcases hz with cz | cz | cz | cz | cz | cz | cz | cz | cz | cz | cz | cz | cz | cz | cz | cz | cz | cz | cz | cz | cz | cz | cz | cz | cz | cz | cz | cz | cz | cz | cz | cz | cz | cz | cz | cz | cz | cz | cz | cz | cz | cz | cz | cz | cz | cz | cz
    · refine lv_tableOut (tgt := 1386) hx hb dL_law_33 cz (by decide) ?_
      exact kend a1 u1 u2 H locs ls rfl hJ1 hJ2 hT hO hl
    · refine lv_tableIn (tgt := 232) hx hb dL_law_33 (by rw [cz]; decide) (by rw [cz]; decide) (by rw [cz]; rfl) (by decide) ?_
      exact lawc_0 C hX hbl hbA h0 (by omega) hLm hJ1 hJ2 hT kend hO hl
    · refine lv_tableIn (tgt := 295) hx hb dL_law_33 (by rw [cz]; decide) (by rw [cz]; decide) (by rw [cz]; rfl) (by decide) ?_
      exact lawc_1 C hX hbl hbA h0 (by omega) hLm hJ1 hJ2 hT kend hO hl
    · refine lv_tableIn (tgt := 318) hx hb dL_law_33 (by rw [cz]; decide) (by rw [cz]; decide) (by rw [cz]; rfl) (by decide) ?_
      exact lawc_2 C hX hbl hbA h0 (by omega) hLm hJ1 hJ2 hT kend hO hl
    · refine lv_tableIn (tgt := 331) hx hb dL_law_33 (by rw [cz]; decide) (by rw [cz]; decide) (by rw [cz]; rfl) (by decide) ?_
      exact lawc_3 C hX hbl hbA h0 (by omega) hLm hJ1 hJ2 hT kend hO hl
    · refine lv_tableIn (tgt := 354) hx hb dL_law_33 (by rw [cz]; decide) (by rw [cz]; decide) (by rw [cz]; rfl) (by decide) ?_
      exact lawc_4 C hX hbl hbA h0 (by omega) hLm hJ1 hJ2 hT kend hO hl
    · refine lv_tableIn (tgt := 387) hx hb dL_law_33 (by rw [cz]; decide) (by rw [cz]; decide) (by rw [cz]; rfl) (by decide) ?_
      exact lawc_5 C hX hbl hbA h0 (by omega) hLm hJ1 hJ2 hT kend hO hl
    · refine lv_tableIn (tgt := 410) hx hb dL_law_33 (by rw [cz]; decide) (by rw [cz]; decide) (by rw [cz]; rfl) (by decide) ?_
      exact lawc_6 C hX hbl hbA h0 (by omega) hLm hJ1 hJ2 hT kend hO hl
    · refine lv_tableIn (tgt := 443) hx hb dL_law_33 (by rw [cz]; decide) (by rw [cz]; decide) (by rw [cz]; rfl) (by decide) ?_
      exact lawc_7 C hX hbl hbA h0 (by omega) hLm hJ1 hJ2 hT kend hO hl
    · refine lv_tableIn (tgt := 466) hx hb dL_law_33 (by rw [cz]; decide) (by rw [cz]; decide) (by rw [cz]; rfl) (by decide) ?_
      exact lawc_8 C hX hbl hbA h0 (by omega) hLm hJ1 hJ2 hT kend hO hl
    · refine lv_tableIn (tgt := 489) hx hb dL_law_33 (by rw [cz]; decide) (by rw [cz]; decide) (by rw [cz]; rfl) (by decide) ?_
      exact lawc_9 C hX hbl hbA h0 (by omega) hLm hJ1 hJ2 hT kend hO hl
    · refine lv_tableIn (tgt := 512) hx hb dL_law_33 (by rw [cz]; decide) (by rw [cz]; decide) (by rw [cz]; rfl) (by decide) ?_
      exact lawc_10 C hX hbl hbA h0 (by omega) hLm hJ1 hJ2 hT kend hO hl
    · refine lv_tableIn (tgt := 545) hx hb dL_law_33 (by rw [cz]; decide) (by rw [cz]; decide) (by rw [cz]; rfl) (by decide) ?_
      exact lawc_11 C hX hbl hbA h0 (by omega) hLm hJ1 hJ2 hT kend hO hl
    · refine lv_tableIn (tgt := 578) hx hb dL_law_33 (by rw [cz]; decide) (by rw [cz]; decide) (by rw [cz]; rfl) (by decide) ?_
      exact lawc_12 C hX hbl hbA h0 (by omega) hLm hJ1 hJ2 hT kend hO hl
    · refine lv_tableIn (tgt := 601) hx hb dL_law_33 (by rw [cz]; decide) (by rw [cz]; decide) (by rw [cz]; rfl) (by decide) ?_
      exact lawc_13 C hX hbl hbA h0 (by omega) hLm hJ1 hJ2 hT kend hO hl
    · refine lv_tableIn (tgt := 624) hx hb dL_law_33 (by rw [cz]; decide) (by rw [cz]; decide) (by rw [cz]; rfl) (by decide) ?_
      exact lawc_14 C hX hbl hbA h0 (by omega) hLm hJ1 hJ2 hT kend hO hl
    · refine lv_tableIn (tgt := 637) hx hb dL_law_33 (by rw [cz]; decide) (by rw [cz]; decide) (by rw [cz]; rfl) (by decide) ?_
      exact lawc_15 C hX hbl hbA h0 (by omega) hLm hJ1 hJ2 hT kend hO hl
    · refine lv_tableIn (tgt := 650) hx hb dL_law_33 (by rw [cz]; decide) (by rw [cz]; decide) (by rw [cz]; rfl) (by decide) ?_
      exact lawc_16 C hX hbl hbA h0 (by omega) hLm hJ1 hJ2 hT kend hO hl
    · refine lv_tableIn (tgt := 683) hx hb dL_law_33 (by rw [cz]; decide) (by rw [cz]; decide) (by rw [cz]; rfl) (by decide) ?_
      exact lawc_17 C hX hbl hbA h0 (by omega) hLm hJ1 hJ2 hT kend hO hl
    · refine lv_tableIn (tgt := 716) hx hb dL_law_33 (by rw [cz]; decide) (by rw [cz]; decide) (by rw [cz]; rfl) (by decide) ?_
      exact lawc_18 C hX hbl hbA h0 (by omega) hLm hJ1 hJ2 hT kend hO hl
    · refine lv_tableIn (tgt := 739) hx hb dL_law_33 (by rw [cz]; decide) (by rw [cz]; decide) (by rw [cz]; rfl) (by decide) ?_
      exact lawc_19 C hX hbl hbA h0 (by omega) hLm hJ1 hJ2 hT kend hO hl
    · refine lv_tableIn (tgt := 752) hx hb dL_law_33 (by rw [cz]; decide) (by rw [cz]; decide) (by rw [cz]; rfl) (by decide) ?_
      exact lawc_20 C hX hbl hbA h0 (by omega) hLm hJ1 hJ2 hT kend hO hl
    · refine lv_tableIn (tgt := 775) hx hb dL_law_33 (by rw [cz]; decide) (by rw [cz]; decide) (by rw [cz]; rfl) (by decide) ?_
      exact lawc_21 C hX hbl hbA h0 (by omega) hLm hJ1 hJ2 hT kend hO hl
    · refine lv_tableIn (tgt := 798) hx hb dL_law_33 (by rw [cz]; decide) (by rw [cz]; decide) (by rw [cz]; rfl) (by decide) ?_
      exact lawc_22 C hX hbl hbA h0 (by omega) hLm hJ1 hJ2 hT kend hO hl
    · refine lv_tableIn (tgt := 821) hx hb dL_law_33 (by rw [cz]; decide) (by rw [cz]; decide) (by rw [cz]; rfl) (by decide) ?_
      exact lawc_23 C hX hbl hbA h0 (by omega) hLm hJ1 hJ2 hT kend hO hl
    · refine lv_tableIn (tgt := 834) hx hb dL_law_33 (by rw [cz]; decide) (by rw [cz]; decide) (by rw [cz]; rfl) (by decide) ?_
      exact lawc_24 C hX hbl hbA h0 (by omega) hLm hJ1 hJ2 hT kend hO hl
    · refine lv_tableIn (tgt := 867) hx hb dL_law_33 (by rw [cz]; decide) (by rw [cz]; decide) (by rw [cz]; rfl) (by decide) ?_
      exact lawc_25 C hX hbl hbA h0 (by omega) hLm hJ1 hJ2 hT kend hO hl
    · refine lv_tableIn (tgt := 890) hx hb dL_law_33 (by rw [cz]; decide) (by rw [cz]; decide) (by rw [cz]; rfl) (by decide) ?_
      exact lawc_26 C hX hbl hbA h0 (by omega) hLm hJ1 hJ2 hT kend hO hl
    · refine lv_tableIn (tgt := 913) hx hb dL_law_33 (by rw [cz]; decide) (by rw [cz]; decide) (by rw [cz]; rfl) (by decide) ?_
      exact lawc_27 C hX hbl hbA h0 (by omega) hLm hJ1 hJ2 hT kend hO hl
    · refine lv_tableIn (tgt := 936) hx hb dL_law_33 (by rw [cz]; decide) (by rw [cz]; decide) (by rw [cz]; rfl) (by decide) ?_
      exact lawc_28 C hX hbl hbA h0 (by omega) hLm hJ1 hJ2 hT kend hO hl
    · refine lv_tableIn (tgt := 969) hx hb dL_law_33 (by rw [cz]; decide) (by rw [cz]; decide) (by rw [cz]; rfl) (by decide) ?_
      exact lawc_29 C hX hbl hbA h0 (by omega) hLm hJ1 hJ2 hT kend hO hl
    · refine lv_tableIn (tgt := 982) hx hb dL_law_33 (by rw [cz]; decide) (by rw [cz]; decide) (by rw [cz]; rfl) (by decide) ?_
      exact lawc_30 C hX hbl hbA h0 (by omega) hLm hJ1 hJ2 hT kend hO hl
    · refine lv_tableIn (tgt := 995) hx hb dL_law_33 (by rw [cz]; decide) (by rw [cz]; decide) (by rw [cz]; rfl) (by decide) ?_
      exact lawc_31 C hX hbl hbA h0 (by omega) hLm hJ1 hJ2 hT kend hO hl
    · refine lv_tableIn (tgt := 1008) hx hb dL_law_33 (by rw [cz]; decide) (by rw [cz]; decide) (by rw [cz]; rfl) (by decide) ?_
      exact lawc_32 C hX hbl hbA h0 (by omega) hLm hJ1 hJ2 hT kend hO hl
    · refine lv_tableIn (tgt := 1021) hx hb dL_law_33 (by rw [cz]; decide) (by rw [cz]; decide) (by rw [cz]; rfl) (by decide) ?_
      exact lawc_33 C hX hbl hbA h0 (by omega) hLm hJ1 hJ2 hT kend hO hl
    · refine lv_tableIn (tgt := 1044) hx hb dL_law_33 (by rw [cz]; decide) (by rw [cz]; decide) (by rw [cz]; rfl) (by decide) ?_
      exact lawc_34 C hX hbl hbA h0 (by omega) hLm hJ1 hJ2 hT kend hO hl
    · refine lv_tableIn (tgt := 1067) hx hb dL_law_33 (by rw [cz]; decide) (by rw [cz]; decide) (by rw [cz]; rfl) (by decide) ?_
      exact lawc_35 C hX hbl hbA h0 (by omega) hLm hJ1 hJ2 hT kend hO hl
    · refine lv_tableIn (tgt := 1100) hx hb dL_law_33 (by rw [cz]; decide) (by rw [cz]; decide) (by rw [cz]; rfl) (by decide) ?_
      exact lawc_36 C hX hbl hbA h0 (by omega) hLm hJ1 hJ2 hT kend hO hl
    · refine lv_tableIn (tgt := 1123) hx hb dL_law_33 (by rw [cz]; decide) (by rw [cz]; decide) (by rw [cz]; rfl) (by decide) ?_
      exact lawc_37 C hX hbl hbA h0 (by omega) hLm hJ1 hJ2 hT kend hO hl
    · refine lv_tableIn (tgt := 1182) hx hb dL_law_33 (by rw [cz]; decide) (by rw [cz]; decide) (by rw [cz]; rfl) (by decide) ?_
      exact lawc_38 C hX hbl hbA h0 (by omega) hLm hJ1 hJ2 hT kend hO hl
    · refine lv_tableIn (tgt := 1205) hx hb dL_law_33 (by rw [cz]; decide) (by rw [cz]; decide) (by rw [cz]; rfl) (by decide) ?_
      exact lawc_39 C hX hbl hbA h0 (by omega) hLm hJ1 hJ2 hT kend hO hl
    · refine lv_tableIn (tgt := 1228) hx hb dL_law_33 (by rw [cz]; decide) (by rw [cz]; decide) (by rw [cz]; rfl) (by decide) ?_
      exact lawc_40 C hX hbl hbA h0 (by omega) hLm hJ1 hJ2 hT kend hO hl
    · refine lv_tableIn (tgt := 1251) hx hb dL_law_33 (by rw [cz]; decide) (by rw [cz]; decide) (by rw [cz]; rfl) (by decide) ?_
      exact lawc_41 C hX hbl hbA h0 (by omega) hLm hJ1 hJ2 hT kend hO hl
    · refine lv_tableIn (tgt := 1284) hx hb dL_law_33 (by rw [cz]; decide) (by rw [cz]; decide) (by rw [cz]; rfl) (by decide) ?_
      exact lawc_42 C hX hbl hbA h0 (by omega) hLm hJ1 hJ2 hT kend hO hl
    · refine lv_tableIn (tgt := 1317) hx hb dL_law_33 (by rw [cz]; decide) (by rw [cz]; decide) (by rw [cz]; rfl) (by decide) ?_
      exact lawc_43 C hX hbl hbA h0 (by omega) hLm hJ1 hJ2 hT kend hO hl
    · refine lv_tableIn (tgt := 1340) hx hb dL_law_33 (by rw [cz]; decide) (by rw [cz]; decide) (by rw [cz]; rfl) (by decide) ?_
      exact lawc_44 C hX hbl hbA h0 (by omega) hLm hJ1 hJ2 hT kend hO hl
    · refine lv_tableIn (tgt := 1363) hx hb dL_law_33 (by rw [cz]; decide) (by rw [cz]; decide) (by rw [cz]; rfl) (by decide) ?_
      exact lawc_45 C hX hbl hbA h0 (by omega) hLm hJ1 hJ2 hT kend hO hl
