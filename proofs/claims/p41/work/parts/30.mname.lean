theorem bit0_or {t m : Int32} (hm : m.toBitVec.getLsbD 0 = false) : bitF (t ||| m) 0 = bitF t 0 := by
  have e : ((t ||| m) >>> ((0 : Int32) &&& 31)) &&& 1 = (t >>> ((0 : Int32) &&& 31)) &&& 1 := by
    apply Int32.toBitVec_inj.mp
    apply BitVec.eq_of_getLsbD_eq
    intro i hi
    have z : ((0 : Int32) &&& 31) = 0 := by decide
    rw [z, Int32.toBitVec_and, Int32.toBitVec_and, BitVec.getLsbD_and, BitVec.getLsbD_and]
    by_cases h : i = 0
    · subst h
      rw [Int32.toBitVec_shiftRight, Int32.toBitVec_shiftRight]
      have z2 : ((0 : Int32).toBitVec.smod 32) = 0#32 := by decide
      rw [z2, BitVec.sshiftRight_eq', BitVec.sshiftRight_eq']
      have hm2 : m.toBitVec[0] = false := by
        rw [← BitVec.getLsbD_eq_getElem]
        exact hm
      simp [Int32.toBitVec_or, hm2]
    · have h1 : (1 : Int32).toBitVec.getLsbD i = false := by
        have : (1 : Int32).toBitVec = 1#32 := rfl
        rw [this, BitVec.getLsbD_one]
        simp [h]
      rw [h1, Bool.and_false, Bool.and_false]
  unfold bitF
  rw [e]
theorem bit0_or2 {t : Int32} : bitF (t ||| ((1 : Int32) <<< ((2 : Int32) &&& 31))) 0 = bitF t 0 := bit0_or (by decide)
theorem bit0_or3 {t : Int32} : bitF (t ||| ((1 : Int32) <<< ((3 : Int32) &&& 31))) 0 = bitF t 0 := bit0_or (by decide)
theorem bit0_orb {t : Int32} : bitF (t ||| 2) 0 = bitF t 0 := bit0_or (by decide)
theorem bit0_set {t : Int32} : bitF (t ||| 1) 0 = 1 := by
  have e : ((t ||| 1) >>> ((0 : Int32) &&& 31)) &&& 1 = 1 := by
    apply Int32.toBitVec_inj.mp
    apply BitVec.eq_of_getLsbD_eq
    intro i hi
    have z : ((0 : Int32) &&& 31) = 0 := by decide
    rw [z, Int32.toBitVec_and, BitVec.getLsbD_and]
    by_cases h : i = 0
    · subst h
      rw [Int32.toBitVec_shiftRight]
      have z2 : ((0 : Int32).toBitVec.smod 32) = 0#32 := by decide
      rw [z2, BitVec.sshiftRight_eq']
      simp [Int32.toBitVec_or]
    · have h1 : (1 : Int32).toBitVec.getLsbD i = false := by
        have : (1 : Int32).toBitVec = 1#32 := rfl
        rw [this, BitVec.getLsbD_one]
        simp [h]
      rw [h1, Bool.and_false]
  unfold bitF
  rw [if_pos e]
/-- what holds while a text is read -/
def PQ (u : St) : Prop := (fI u 0 36).toInt + (fI u 0 37).toInt = 1 ∧ (bitF (fA u 11 (fI u 0 37).toNatClampNeg) 0 = 0 → (fI u 0 38).toInt = 560 * (fI u 0 37).toInt) ∧ (¬ (fI u 0 4).toInt = 0 ∨ LawOk u (fI u 0 37)) ∧ (¬ (fI u 0 4).toInt = 0 ∨ (fA u 6 (fI u 0 37).toNatClampNeg).toInt ≤ 0 ∨ 0 < (fA u 3 (fI u 0 37).toNatClampNeg).toInt)
theorem PQ.go {u v : St} (h : PQ u) (e36 : fI v 0 36 = fI u 0 36) (e37 : fI v 0 37 = fI u 0 37) (e38 : fI v 0 38 = fI u 0 38) (eb : bitF (fA v 11 (fI u 0 37).toNatClampNeg) 0 = bitF (fA u 11 (fI u 0 37).toNatClampNeg) 0) (e18 : fA v 18 = fA u 18) (e19 : fA v 19 = fA u 19) (e23 : fA v 23 = fA u 23) (hf : (fI u 0 4).toInt = 0 ∨ ¬ (fI v 0 4).toInt = 0) (hc : ¬ (fI v 0 4).toInt = 0 ∨ (fA v 6 (fI u 0 37).toNatClampNeg).toInt ≤ 0 ∨ 0 < (fA v 3 (fI u 0 37).toNatClampNeg).toInt) : PQ v := by
  obtain ⟨h1, h2, h3, h4⟩ := h
  refine ⟨by rw [e36, e37]; exact h1, ?_, ?_, by rw [e37]; exact hc⟩
  · rw [e37, e38, eb]
    exact h2
  · rcases hf with hf | hf
    · rcases h3 with h3 | h3
      · exact absurd hf h3
      · refine Or.inr ?_
        rw [e37]
        rcases h3 with h3 | ⟨L, g1, g2, g3, g4⟩
        · exact Or.inl (by rw [eb]; exact h3)
        · exact Or.inr ⟨L, by rw [e18]; exact g1, by rw [e19]; exact g2, g3, by rw [e23]; exact g4⟩
    · exact Or.inl hf
theorem PQ.lex {u v : St} (h : PQ u) (e36 : fI v 0 36 = fI u 0 36) (e37 : fI v 0 37 = fI u 0 37) (e38 : fI v 0 38 = fI u 0 38) (e11 : fA v 11 = fA u 11) (e18 : fA v 18 = fA u 18) (e19 : fA v 19 = fA u 19) (e23 : fA v 23 = fA u 23) (e3 : fA v 3 = fA u 3) (e6 : fA v 6 = fA u 6) (hf : (fI u 0 4).toInt = 0 ∨ ¬ (fI v 0 4).toInt = 0) : PQ v := by
  refine PQ.go h e36 e37 e38 (by rw [e11]) e18 e19 e23 hf ?_
  have h4 := h.2.2.2
  rw [e3, e6]
  rcases hf with hf | hf
  · rcases h4 with h4 | h4
    · exact absurd hf h4
    · exact Or.inr h4
  · exact Or.inl hf
theorem rb_ne {b r : Int32} (h : b.toInt + r.toInt = 1) (h0 : 0 ≤ b.toInt) (h1 : 0 ≤ r.toInt) : ¬ b.toNatClampNeg = r.toNatClampNeg := by
  have c := i_cnz h0
  have d := i_cnz h1
  omega
theorem dX11_here_0 : decode cX11_here 0 = .ok (.iconst 0, 1) := by decide +kernel
theorem dX11_here_1 : decode cX11_here 1 = .ok (.istore 4, 2) := by decide +kernel
theorem dX11_here_3 : decode cX11_here 3 = .ok (.iload 4, 2) := by decide +kernel
theorem dX11_here_5 : decode cX11_here 5 = .ok (.iload_n 3, 1) := by decide +kernel
theorem dX11_here_6 : decode cX11_here 6 = .ok (.if_icmp .ge 34, 3) := by decide +kernel
theorem dX11_here_9 : decode cX11_here 9 = .ok (.aload_n 0, 1) := by decide +kernel
theorem dX11_here_10 : decode cX11_here 10 = .ok (.getfield 208, 3) := by decide +kernel
theorem dX11_here_13 : decode cX11_here 13 = .ok (.iconst 2, 1) := by decide +kernel
theorem dX11_here_14 : decode cX11_here 14 = .ok (.if_icmp .ne 20, 3) := by decide +kernel
theorem dX11_here_17 : decode cX11_here 17 = .ok (.aload_n 1, 1) := by decide +kernel
theorem dX11_here_18 : decode cX11_here 18 = .ok (.iload_n 2, 1) := by decide +kernel
theorem dX11_here_19 : decode cX11_here 19 = .ok (.iload 4, 2) := by decide +kernel
theorem dX11_here_21 : decode cX11_here 21 = .ok (.iadd, 1) := by decide +kernel
theorem dX11_here_22 : decode cX11_here 22 = .ok (.laload, 1) := by decide +kernel
theorem dX11_here_23 : decode cX11_here 23 = .ok (.aload_n 0, 1) := by decide +kernel
theorem dX11_here_24 : decode cX11_here 24 = .ok (.getfield 215, 3) := by decide +kernel
theorem dX11_here_27 : decode cX11_here 27 = .ok (.lcmp, 1) := by decide +kernel
theorem dX11_here_28 : decode cX11_here 28 = .ok (.ifCond .ne 6, 3) := by decide +kernel
theorem dX11_here_31 : decode cX11_here 31 = .ok (.iload 4, 2) := by decide +kernel
theorem dX11_here_33 : decode cX11_here 33 = .ok (.ireturn, 1) := by decide +kernel
theorem dX11_here_34 : decode cX11_here 34 = .ok (.iinc 4 1, 3) := by decide +kernel
theorem dX11_here_37 : decode cX11_here 37 = .ok (.goto (-34), 3) := by decide +kernel
theorem dX11_here_40 : decode cX11_here 40 = .ok (.iconst (-1), 1) := by decide +kernel
theorem dX11_here_41 : decode cX11_here 41 = .ok (.ireturn, 1) := by decide +kernel
theorem wd_1630 : (Cond.code ⟨"WebCourtModel", "here", "([JII)I"⟩ prog_13_method_20_code (5 : Nat) (Option.some FieldType.int)) ∈ gtb := gtb_c7 81 (by decide +kernel) rfl
set_option maxHeartbeats 4000000 in
set_option maxRecDepth 100000 in
theorem T_X11_here_20 (l : Launch) (D : va_G) (cy : Nat → ClassId) (a : Nat → Nat) (u : St) (hJ : MI a u) (x2 : Int32) (x3 : Int32) (hx_x2 : 0 ≤ x2.toInt ∧ x2.toInt ≤ 8) (hx_x3 : 0 ≤ x3.toInt ∧ x3.toInt ≤ 8) : Mi l D cy (mW cy a) yX11_here (.code yX11_here cX11_here 5 (some .int)) (rmo 0 0) [.ref (a 0), .ref (a 20), .int x2, .int x3] u (fun (r : Int32) (u' : St) => (-1 ≤ r.toInt ∧ (r.toInt < x3.toInt ∨ r.toInt = -1)) ∧ (u' = u)) := by
  refine Mi.of (own := RX11) rfl (by decide) (Nat.le_of_ble_eq_true rfl) ?_
  have hT : Km0 u u := Km0.rf
  have hJ0 := hJ
  intro p e s m below meth c A Q ls C hret hO hl
  obtain ⟨hx, hb, hml, hown, ht, hK, hA⟩ := id C
  have hl : lv_has ls 5 [(0, .ref (a 0)), (1, .ref (a 20)), (2, .int x2), (3, .int x3)] := hl
  refine lv_iconst (v := 0) hx hb dX11_here_0 (by decide) ?_
  refine lv_istore (lv' := [(4, .int 0), (0, .ref (a 0)), (1, .ref (a 20)), (2, .int x2), (3, .int x3)]) hx hb dX11_here_1 hl (by decide) rfl (fun ls hl => ?_)
  have LP_3_k1 : ∀ (n : Nat) (H : Heap) (locs : List Loc) (ls : Array Slot) (i_k1 : Int32), Wo D A (mW cy a u) s.heap H locs → lv_has ls 5 [(4, .int i_k1), (0, .ref (a 0)), (1, .ref (a 20)), (2, .int x2), (3, .int x3)] → 0 ≤ i_k1.toInt ∧ i_k1.toInt ≤ 8 → 8 - i_k1.toInt < (n : Int) → W p l e (rmo 0 0) s m [.ref (a 0), .ref (a 20), .int x2, .int x3].toArray below meth c H locs 0 0 Q (F0 m 3 ls []) := by
    intro n
    induction n with
    | zero =>
      intro H locs ls i_k1 hO hl iv0_k1 hm_k1
      exact absurd hm_k1 (by omega)
    | succ n ih_k1 =>
      intro H locs ls i_k1 hO hl iv0_k1 hm_k1
      refine lv_iload hx hb dX11_here_3 (lv_at hl 0 rfl) ?_
      refine lv_iload_n hx hb dX11_here_5 rfl (lv_at hl 4 rfl) ?_
      refine cs_ge (tgt := 40) (X := (i_k1).toInt) (Y := (x3).toInt) hx hb dX11_here_6 (by decide) rfl rfl (fun c2 => ?_) (fun c2 => ?_)
      · refine lv_iconst (v := (-1)) hx hb dX11_here_40 (by decide) ?_
        refine hret _ _ _ _ _ _ dX11_here_41 rfl ?_ hO
        exact ⟨(by have zc : ((-1) : Int32).toInt = (-1) := rfl; omega), rfl⟩
      · refine lv_aload_n hx hb dX11_here_9 rfl (lv_at hl 1 rfl) ?_
        have g3 : 0 ≤ (fI u 0 8).toInt ∧ (fI u 0 8).toInt ≤ 5 := by have h := MI_8 hJ0; exact h
        refine gf_RX11_208 (v := .int (fI u 0 8)) C hO 0 mW_0 rfl dX11_here_10 ?_
        refine lv_iconst (v := 2) hx hb dX11_here_13 (by decide) ?_
        refine cs_ne (tgt := 34) (X := ((fI u 0 8)).toInt) (Y := 2) hx hb dX11_here_14 (by decide) rfl rfl (fun c4 => ?_) (fun c4 => ?_)
        · obtain ⟨z5, ez5⟩ : ∃ z : Int32, z = i_k1 + Int32.ofInt 1 := ⟨_, rfl⟩
          have e6 : z5.toInt = (i_k1).toInt + 1 := by rw [ez5]; exact i_add rfl rfl (by omega)
          refine lv_iinc (v := z5) (lv' := [(4, .int z5), (0, .ref (a 0)), (1, .ref (a 20)), (2, .int x2), (3, .int x3)]) hx hb dX11_here_34 hl (k := 0) rfl ez5.symm (by decide) rfl (fun ls hl => ?_)
          refine lv_goto (tgt := 3) hx hb dX11_here_37 (by decide) ?_
          exact ih_k1 _ _ _ (z5) hO (lv_sub hl [0, 1, 2, 3, 4] rfl) (by first | decide | omega) (by first | decide | omega)
        · refine lv_aload_n hx hb dX11_here_17 rfl (lv_at hl 2 rfl) ?_
          refine lv_iload_n hx hb dX11_here_18 rfl (lv_at hl 3 rfl) ?_
          refine lv_iload hx hb dX11_here_19 (lv_at hl 0 rfl) ?_
          refine lv_iadd hx hb dX11_here_21 ?_
          refine lv_topi (fun z7 ez7 => ?_)
          have e8 : z7.toInt = (x2).toInt + (i_k1).toInt := by rw [ez7]; exact i_add rfl rfl (by omega)
          refine aJ C hO 20 mW_20 (i_in (X := ((x2).toInt + (i_k1).toInt)) e8 (by omega) (by omega)) dX11_here_22 ?_
          refine lv_topl (fun w9 ew9 => ?_)
          refine lv_aload_n hx hb dX11_here_23 rfl (lv_at hl 1 rfl) ?_
          refine gf_RX11_215 (v := .long ((fL u 0 10))) C hO 0 mW_0 rfl dX11_here_24 ?_
          refine W.lcmp hx hb dX11_here_27 ?_
          refine lv_topi (fun z10 ez10 => ?_)
          refine bs_ne (tgt := 34) (X := (z10).toInt) hx hb dX11_here_28 (by decide) rfl (fun c11 => ?_) (fun c11 => ?_)
          · have hj12 := lc_ne ez10 (by omega)
            clear c11
            obtain ⟨z13, ez13⟩ : ∃ z : Int32, z = i_k1 + Int32.ofInt 1 := ⟨_, rfl⟩
            have e14 : z13.toInt = (i_k1).toInt + 1 := by rw [ez13]; exact i_add rfl rfl (by omega)
            refine lv_iinc (v := z13) (lv' := [(4, .int z13), (0, .ref (a 0)), (1, .ref (a 20)), (2, .int x2), (3, .int x3)]) hx hb dX11_here_34 hl (k := 0) rfl ez13.symm (by decide) rfl (fun ls hl => ?_)
            refine lv_goto (tgt := 3) hx hb dX11_here_37 (by decide) ?_
            exact ih_k1 _ _ _ (z13) hO (lv_sub hl [0, 1, 2, 3, 4] rfl) (by first | decide | omega) (by first | decide | omega)
          · have hj15 := lc_eq ez10 (by omega)
            clear c11
            refine lv_iload hx hb dX11_here_31 (lv_at hl 0 rfl) ?_
            refine hret _ _ _ _ _ _ dX11_here_33 rfl ?_ hO
            exact ⟨(by first | decide | omega), rfl⟩
  have zc16 : (0 : Int32).toInt = 0 := rfl
  exact LP_3_k1 4000 _ _ _ (0) hO (lv_sub hl [0, 1, 2, 3, 4] rfl) (by first | decide | omega) (by first | decide | omega)
set_option maxHeartbeats 4000000 in
set_option maxRecDepth 100000 in
theorem T_X11_here_21 (l : Launch) (D : va_G) (cy : Nat → ClassId) (a : Nat → Nat) (u : St) (hJ : MI a u) (x2 : Int32) (x3 : Int32) (hx_x2 : 0 ≤ x2.toInt ∧ x2.toInt ≤ 8) (hx_x3 : 0 ≤ x3.toInt ∧ x3.toInt ≤ 8) : Mi l D cy (mW cy a) yX11_here (.code yX11_here cX11_here 5 (some .int)) (rmo 0 0) [.ref (a 0), .ref (a 21), .int x2, .int x3] u (fun (r : Int32) (u' : St) => (-1 ≤ r.toInt ∧ (r.toInt < x3.toInt ∨ r.toInt = -1)) ∧ (u' = u)) := by
  refine Mi.of (own := RX11) rfl (by decide) (Nat.le_of_ble_eq_true rfl) ?_
  have hT : Km0 u u := Km0.rf
  have hJ0 := hJ
  intro p e s m below meth c A Q ls C hret hO hl
  obtain ⟨hx, hb, hml, hown, ht, hK, hA⟩ := id C
  have hl : lv_has ls 5 [(0, .ref (a 0)), (1, .ref (a 21)), (2, .int x2), (3, .int x3)] := hl
  refine lv_iconst (v := 0) hx hb dX11_here_0 (by decide) ?_
  refine lv_istore (lv' := [(4, .int 0), (0, .ref (a 0)), (1, .ref (a 21)), (2, .int x2), (3, .int x3)]) hx hb dX11_here_1 hl (by decide) rfl (fun ls hl => ?_)
  have LP_3_k1 : ∀ (n : Nat) (H : Heap) (locs : List Loc) (ls : Array Slot) (i_k1 : Int32), Wo D A (mW cy a u) s.heap H locs → lv_has ls 5 [(4, .int i_k1), (0, .ref (a 0)), (1, .ref (a 21)), (2, .int x2), (3, .int x3)] → 0 ≤ i_k1.toInt ∧ i_k1.toInt ≤ 8 → 8 - i_k1.toInt < (n : Int) → W p l e (rmo 0 0) s m [.ref (a 0), .ref (a 21), .int x2, .int x3].toArray below meth c H locs 0 0 Q (F0 m 3 ls []) := by
    intro n
    induction n with
    | zero =>
      intro H locs ls i_k1 hO hl iv0_k1 hm_k1
      exact absurd hm_k1 (by omega)
    | succ n ih_k1 =>
      intro H locs ls i_k1 hO hl iv0_k1 hm_k1
      refine lv_iload hx hb dX11_here_3 (lv_at hl 0 rfl) ?_
      refine lv_iload_n hx hb dX11_here_5 rfl (lv_at hl 4 rfl) ?_
      refine cs_ge (tgt := 40) (X := (i_k1).toInt) (Y := (x3).toInt) hx hb dX11_here_6 (by decide) rfl rfl (fun c2 => ?_) (fun c2 => ?_)
      · refine lv_iconst (v := (-1)) hx hb dX11_here_40 (by decide) ?_
        refine hret _ _ _ _ _ _ dX11_here_41 rfl ?_ hO
        exact ⟨(by have zc : ((-1) : Int32).toInt = (-1) := rfl; omega), rfl⟩
      · refine lv_aload_n hx hb dX11_here_9 rfl (lv_at hl 1 rfl) ?_
        have g3 : 0 ≤ (fI u 0 8).toInt ∧ (fI u 0 8).toInt ≤ 5 := by have h := MI_8 hJ0; exact h
        refine gf_RX11_208 (v := .int (fI u 0 8)) C hO 0 mW_0 rfl dX11_here_10 ?_
        refine lv_iconst (v := 2) hx hb dX11_here_13 (by decide) ?_
        refine cs_ne (tgt := 34) (X := ((fI u 0 8)).toInt) (Y := 2) hx hb dX11_here_14 (by decide) rfl rfl (fun c4 => ?_) (fun c4 => ?_)
        · obtain ⟨z5, ez5⟩ : ∃ z : Int32, z = i_k1 + Int32.ofInt 1 := ⟨_, rfl⟩
          have e6 : z5.toInt = (i_k1).toInt + 1 := by rw [ez5]; exact i_add rfl rfl (by omega)
          refine lv_iinc (v := z5) (lv' := [(4, .int z5), (0, .ref (a 0)), (1, .ref (a 21)), (2, .int x2), (3, .int x3)]) hx hb dX11_here_34 hl (k := 0) rfl ez5.symm (by decide) rfl (fun ls hl => ?_)
          refine lv_goto (tgt := 3) hx hb dX11_here_37 (by decide) ?_
          exact ih_k1 _ _ _ (z5) hO (lv_sub hl [0, 1, 2, 3, 4] rfl) (by first | decide | omega) (by first | decide | omega)
        · refine lv_aload_n hx hb dX11_here_17 rfl (lv_at hl 2 rfl) ?_
          refine lv_iload_n hx hb dX11_here_18 rfl (lv_at hl 3 rfl) ?_
          refine lv_iload hx hb dX11_here_19 (lv_at hl 0 rfl) ?_
          refine lv_iadd hx hb dX11_here_21 ?_
          refine lv_topi (fun z7 ez7 => ?_)
          have e8 : z7.toInt = (x2).toInt + (i_k1).toInt := by rw [ez7]; exact i_add rfl rfl (by omega)
          refine aJ C hO 21 mW_21 (i_in (X := ((x2).toInt + (i_k1).toInt)) e8 (by omega) (by omega)) dX11_here_22 ?_
          refine lv_topl (fun w9 ew9 => ?_)
          refine lv_aload_n hx hb dX11_here_23 rfl (lv_at hl 1 rfl) ?_
          refine gf_RX11_215 (v := .long ((fL u 0 10))) C hO 0 mW_0 rfl dX11_here_24 ?_
          refine W.lcmp hx hb dX11_here_27 ?_
          refine lv_topi (fun z10 ez10 => ?_)
          refine bs_ne (tgt := 34) (X := (z10).toInt) hx hb dX11_here_28 (by decide) rfl (fun c11 => ?_) (fun c11 => ?_)
          · have hj12 := lc_ne ez10 (by omega)
            clear c11
            obtain ⟨z13, ez13⟩ : ∃ z : Int32, z = i_k1 + Int32.ofInt 1 := ⟨_, rfl⟩
            have e14 : z13.toInt = (i_k1).toInt + 1 := by rw [ez13]; exact i_add rfl rfl (by omega)
            refine lv_iinc (v := z13) (lv' := [(4, .int z13), (0, .ref (a 0)), (1, .ref (a 21)), (2, .int x2), (3, .int x3)]) hx hb dX11_here_34 hl (k := 0) rfl ez13.symm (by decide) rfl (fun ls hl => ?_)
            refine lv_goto (tgt := 3) hx hb dX11_here_37 (by decide) ?_
            exact ih_k1 _ _ _ (z13) hO (lv_sub hl [0, 1, 2, 3, 4] rfl) (by first | decide | omega) (by first | decide | omega)
          · have hj15 := lc_eq ez10 (by omega)
            clear c11
            refine lv_iload hx hb dX11_here_31 (lv_at hl 0 rfl) ?_
            refine hret _ _ _ _ _ _ dX11_here_33 rfl ?_ hO
            exact ⟨(by first | decide | omega), rfl⟩
  have zc16 : (0 : Int32).toInt = 0 := rfl
  exact LP_3_k1 4000 _ _ _ (0) hO (lv_sub hl [0, 1, 2, 3, 4] rfl) (by first | decide | omega) (by first | decide | omega)
set_option maxHeartbeats 4000000 in
set_option maxRecDepth 100000 in
theorem T_X11_here_22 (l : Launch) (D : va_G) (cy : Nat → ClassId) (a : Nat → Nat) (u : St) (hJ : MI a u) (x2 : Int32) (x3 : Int32) (hx_x2 : 0 ≤ x2.toInt ∧ x2.toInt ≤ 6) (hx_x3 : 0 ≤ x3.toInt ∧ x3.toInt ≤ 6) : Mi l D cy (mW cy a) yX11_here (.code yX11_here cX11_here 5 (some .int)) (rmo 0 0) [.ref (a 0), .ref (a 22), .int x2, .int x3] u (fun (r : Int32) (u' : St) => (-1 ≤ r.toInt ∧ (r.toInt < x3.toInt ∨ r.toInt = -1)) ∧ (u' = u)) := by
  refine Mi.of (own := RX11) rfl (by decide) (Nat.le_of_ble_eq_true rfl) ?_
  have hT : Km0 u u := Km0.rf
  have hJ0 := hJ
  intro p e s m below meth c A Q ls C hret hO hl
  obtain ⟨hx, hb, hml, hown, ht, hK, hA⟩ := id C
  have hl : lv_has ls 5 [(0, .ref (a 0)), (1, .ref (a 22)), (2, .int x2), (3, .int x3)] := hl
  refine lv_iconst (v := 0) hx hb dX11_here_0 (by decide) ?_
  refine lv_istore (lv' := [(4, .int 0), (0, .ref (a 0)), (1, .ref (a 22)), (2, .int x2), (3, .int x3)]) hx hb dX11_here_1 hl (by decide) rfl (fun ls hl => ?_)
  have LP_3_k1 : ∀ (n : Nat) (H : Heap) (locs : List Loc) (ls : Array Slot) (i_k1 : Int32), Wo D A (mW cy a u) s.heap H locs → lv_has ls 5 [(4, .int i_k1), (0, .ref (a 0)), (1, .ref (a 22)), (2, .int x2), (3, .int x3)] → 0 ≤ i_k1.toInt ∧ i_k1.toInt ≤ 8 → 8 - i_k1.toInt < (n : Int) → W p l e (rmo 0 0) s m [.ref (a 0), .ref (a 22), .int x2, .int x3].toArray below meth c H locs 0 0 Q (F0 m 3 ls []) := by
    intro n
    induction n with
    | zero =>
      intro H locs ls i_k1 hO hl iv0_k1 hm_k1
      exact absurd hm_k1 (by omega)
    | succ n ih_k1 =>
      intro H locs ls i_k1 hO hl iv0_k1 hm_k1
      refine lv_iload hx hb dX11_here_3 (lv_at hl 0 rfl) ?_
      refine lv_iload_n hx hb dX11_here_5 rfl (lv_at hl 4 rfl) ?_
      refine cs_ge (tgt := 40) (X := (i_k1).toInt) (Y := (x3).toInt) hx hb dX11_here_6 (by decide) rfl rfl (fun c2 => ?_) (fun c2 => ?_)
      · refine lv_iconst (v := (-1)) hx hb dX11_here_40 (by decide) ?_
        refine hret _ _ _ _ _ _ dX11_here_41 rfl ?_ hO
        exact ⟨(by have zc : ((-1) : Int32).toInt = (-1) := rfl; omega), rfl⟩
      · refine lv_aload_n hx hb dX11_here_9 rfl (lv_at hl 1 rfl) ?_
        have g3 : 0 ≤ (fI u 0 8).toInt ∧ (fI u 0 8).toInt ≤ 5 := by have h := MI_8 hJ0; exact h
        refine gf_RX11_208 (v := .int (fI u 0 8)) C hO 0 mW_0 rfl dX11_here_10 ?_
        refine lv_iconst (v := 2) hx hb dX11_here_13 (by decide) ?_
        refine cs_ne (tgt := 34) (X := ((fI u 0 8)).toInt) (Y := 2) hx hb dX11_here_14 (by decide) rfl rfl (fun c4 => ?_) (fun c4 => ?_)
        · obtain ⟨z5, ez5⟩ : ∃ z : Int32, z = i_k1 + Int32.ofInt 1 := ⟨_, rfl⟩
          have e6 : z5.toInt = (i_k1).toInt + 1 := by rw [ez5]; exact i_add rfl rfl (by omega)
          refine lv_iinc (v := z5) (lv' := [(4, .int z5), (0, .ref (a 0)), (1, .ref (a 22)), (2, .int x2), (3, .int x3)]) hx hb dX11_here_34 hl (k := 0) rfl ez5.symm (by decide) rfl (fun ls hl => ?_)
          refine lv_goto (tgt := 3) hx hb dX11_here_37 (by decide) ?_
          exact ih_k1 _ _ _ (z5) hO (lv_sub hl [0, 1, 2, 3, 4] rfl) (by first | decide | omega) (by first | decide | omega)
        · refine lv_aload_n hx hb dX11_here_17 rfl (lv_at hl 2 rfl) ?_
          refine lv_iload_n hx hb dX11_here_18 rfl (lv_at hl 3 rfl) ?_
          refine lv_iload hx hb dX11_here_19 (lv_at hl 0 rfl) ?_
          refine lv_iadd hx hb dX11_here_21 ?_
          refine lv_topi (fun z7 ez7 => ?_)
          have e8 : z7.toInt = (x2).toInt + (i_k1).toInt := by rw [ez7]; exact i_add rfl rfl (by omega)
          refine aJ C hO 22 mW_22 (i_in (X := ((x2).toInt + (i_k1).toInt)) e8 (by omega) (by omega)) dX11_here_22 ?_
          refine lv_topl (fun w9 ew9 => ?_)
          refine lv_aload_n hx hb dX11_here_23 rfl (lv_at hl 1 rfl) ?_
          refine gf_RX11_215 (v := .long ((fL u 0 10))) C hO 0 mW_0 rfl dX11_here_24 ?_
          refine W.lcmp hx hb dX11_here_27 ?_
          refine lv_topi (fun z10 ez10 => ?_)
          refine bs_ne (tgt := 34) (X := (z10).toInt) hx hb dX11_here_28 (by decide) rfl (fun c11 => ?_) (fun c11 => ?_)
          · have hj12 := lc_ne ez10 (by omega)
            clear c11
            obtain ⟨z13, ez13⟩ : ∃ z : Int32, z = i_k1 + Int32.ofInt 1 := ⟨_, rfl⟩
            have e14 : z13.toInt = (i_k1).toInt + 1 := by rw [ez13]; exact i_add rfl rfl (by omega)
            refine lv_iinc (v := z13) (lv' := [(4, .int z13), (0, .ref (a 0)), (1, .ref (a 22)), (2, .int x2), (3, .int x3)]) hx hb dX11_here_34 hl (k := 0) rfl ez13.symm (by decide) rfl (fun ls hl => ?_)
            refine lv_goto (tgt := 3) hx hb dX11_here_37 (by decide) ?_
            exact ih_k1 _ _ _ (z13) hO (lv_sub hl [0, 1, 2, 3, 4] rfl) (by first | decide | omega) (by first | decide | omega)
          · have hj15 := lc_eq ez10 (by omega)
            clear c11
            refine lv_iload hx hb dX11_here_31 (lv_at hl 0 rfl) ?_
            refine hret _ _ _ _ _ _ dX11_here_33 rfl ?_ hO
            exact ⟨(by first | decide | omega), rfl⟩
  have zc16 : (0 : Int32).toInt = 0 := rfl
  exact LP_3_k1 4000 _ _ _ (0) hO (lv_sub hl [0, 1, 2, 3, 4] rfl) (by first | decide | omega) (by first | decide | omega)
theorem dX11_knotHere_0 : decode cX11_knotHere 0 = .ok (.aload_n 0, 1) := by decide +kernel
theorem dX11_knotHere_1 : decode cX11_knotHere 1 = .ok (.aload_n 0, 1) := by decide +kernel
theorem dX11_knotHere_2 : decode cX11_knotHere 2 = .ok (.getfield 72, 3) := by decide +kernel
theorem dX11_knotHere_5 : decode cX11_knotHere 5 = .ok (.bipush 8, 2) := by decide +kernel
theorem dX11_knotHere_7 : decode cX11_knotHere 7 = .ok (.aload_n 0, 1) := by decide +kernel
theorem dX11_knotHere_8 : decode cX11_knotHere 8 = .ok (.getfield 246, 3) := by decide +kernel
theorem dX11_knotHere_11 : decode cX11_knotHere 11 = .ok (.imul, 1) := by decide +kernel
theorem dX11_knotHere_12 : decode cX11_knotHere 12 = .ok (.aload_n 0, 1) := by decide +kernel
theorem dX11_knotHere_13 : decode cX11_knotHere 13 = .ok (.getfield 20, 3) := by decide +kernel
theorem dX11_knotHere_16 : decode cX11_knotHere 16 = .ok (.aload_n 0, 1) := by decide +kernel
theorem dX11_knotHere_17 : decode cX11_knotHere 17 = .ok (.getfield 246, 3) := by decide +kernel
theorem dX11_knotHere_20 : decode cX11_knotHere 20 = .ok (.iaload, 1) := by decide +kernel
theorem dX11_knotHere_21 : decode cX11_knotHere 21 = .ok (.invokevirtual 308, 3) := by decide +kernel
theorem dX11_knotHere_24 : decode cX11_knotHere 24 = .ok (.ireturn, 1) := by decide +kernel
theorem wd_1626 : (Cond.code ⟨"WebCourtModel", "knotHere", "()I"⟩ prog_13_method_21_code (1 : Nat) (Option.some FieldType.int)) ∈ gtb := gtb_c7 77 (by decide +kernel) rfl
theorem wd_1384 : (Cond.fieldLink "WebCourtModel" (72 : Nat) "WebCourtModel" "kName" "[J") ∈ gtb := gtb_c6 75 (by decide +kernel) rfl
theorem gf_RX11_72 {p : Program} {l : Launch} {e : Env} {R : Room} {s : State} {m : MethodId} {args : Array Value} {below : List Frame} {meth : Method} {c : Code} {H : Heap} {locs : List Loc} {cells slots : Nat} {Q : State → Prop} {cc : ByteArray} {pc nL : Nat} {ls : Array Slot} {rest : List Value} {D : va_G} {cy : Nat → ClassId} {A : Nat → Prop} {ws : va_W} {b : Nat} {fs : List Value} {v : Value} (C : Cx p s m args c cc nL RX11 D cy A) (hO : Wo D A ws s.heap H locs) (q0 : Nat) (he : ws[q0]? = some (b, .inr (11, fs))) (hv : fs[28]? = some v) (hdg : decode cc pc = .ok (.getfield 72, 3)) (kk : W p l e R s m args below meth c H locs cells slots Q (F0 m (pc + 3) ls (v :: rest))) : W p l e R s m args below meth c H locs cells slots Q (F0 m pc ls (.ref b :: rest)) := gF (k := 28) C hO q0 he rfl inFX11 (by decide) wd_1384 rfl hv hdg kk
theorem wd_1393 : (Cond.fieldLink "WebCourtModel" (246 : Nat) "WebCourtModel" "rb" "I") ∈ gtb := gtb_c6 84 (by decide +kernel) rfl
theorem gf_RX11_246 {p : Program} {l : Launch} {e : Env} {R : Room} {s : State} {m : MethodId} {args : Array Value} {below : List Frame} {meth : Method} {c : Code} {H : Heap} {locs : List Loc} {cells slots : Nat} {Q : State → Prop} {cc : ByteArray} {pc nL : Nat} {ls : Array Slot} {rest : List Value} {D : va_G} {cy : Nat → ClassId} {A : Nat → Prop} {ws : va_W} {b : Nat} {fs : List Value} {v : Value} (C : Cx p s m args c cc nL RX11 D cy A) (hO : Wo D A ws s.heap H locs) (q0 : Nat) (he : ws[q0]? = some (b, .inr (11, fs))) (hv : fs[37]? = some v) (hdg : decode cc pc = .ok (.getfield 246, 3)) (kk : W p l e R s m args below meth c H locs cells slots Q (F0 m (pc + 3) ls (v :: rest))) : W p l e R s m args below meth c H locs cells slots Q (F0 m pc ls (.ref b :: rest)) := gF (k := 37) C hO q0 he rfl inFX11 (by decide) wd_1393 rfl hv hdg kk
theorem wd_1627 : (Cond.methodLink "WebCourtModel" (308 : Nat) ⟨"WebCourtModel", "here", "([JII)I"⟩) ∈ gtb := gtb_c7 78 (by decide +kernel) rfl
theorem wd_1629 : (Cond.instanceMethod ⟨"WebCourtModel", "here", "([JII)I"⟩) ∈ gtb := gtb_c7 80 (by decide +kernel) rfl
theorem wd_57 : (Cond.selects "WebCourtModel" ⟨"WebCourtModel", "here", "([JII)I"⟩ ⟨"WebCourtModel", "here", "([JII)I"⟩) ∈ gtb := gtb_p 57 (by decide +kernel) rfl
theorem hd_yX11_here : yX11_here.cls = RX11 ∧ yX11_here.cls ≠ "java/lang/invoke/MethodHandle" ∧ yX11_here.cls ≠ "java/lang/invoke/VarHandle" ∧ (parseMethodDescriptor yX11_here.desc).map (fun d => d.parameters.length) = some 3 := by decide +kernel
set_option maxHeartbeats 4000000 in
set_option maxRecDepth 100000 in
theorem T_X11_knotHere (l : Launch) (D : va_G) (cy : Nat → ClassId) (a : Nat → Nat) (u : St) (hJ : MI a u) (hk : Int32) (hhk : fA u 3 (fI u 0 37).toNatClampNeg = hk)   : Mi l D cy (mW cy a) yX11_knotHere (.code yX11_knotHere cX11_knotHere 1 (some .int)) (rmo 1 24) [.ref (a 0)] u (fun (r : Int32) (u' : St) => (-1 ≤ r.toInt ∧ (r.toInt < hk.toInt ∨ r.toInt = -1)) ∧ (u' = u)) := by
  refine Mi.of (own := RX11) rfl (by decide) (Nat.le_of_ble_eq_true rfl) ?_
  have hT : Km0 u u := Km0.rf
  have hJ0 := hJ
  intro p e s m below meth c A Q ls C hret hO hl
  obtain ⟨hx, hb, hml, hown, ht, hK, hA⟩ := id C
  have hl : lv_has ls 1 [(0, .ref (a 0))] := hl
  refine lv_aload_n hx hb dX11_knotHere_0 rfl (lv_at hl 0 rfl) ?_
  refine lv_aload_n hx hb dX11_knotHere_1 rfl (lv_at hl 0 rfl) ?_
  refine gf_RX11_72 (v := .ref (a 20)) C hO 0 mW_0 rfl dX11_knotHere_2 ?_
  refine lv_bipush (v := 8) hx hb dX11_knotHere_5 (by decide) ?_
  refine lv_aload_n hx hb dX11_knotHere_7 rfl (lv_at hl 0 rfl) ?_
  have g1 : 0 ≤ (fI u 0 37).toInt ∧ (fI u 0 37).toInt ≤ 1 := by have h := MI_37 hJ0; exact h
  refine gf_RX11_246 (v := .int (fI u 0 37)) C hO 0 mW_0 rfl dX11_knotHere_8 ?_
  refine lv_imul hx hb dX11_knotHere_11 ?_
  refine lv_topi (fun z2 ez2 => ?_)
  have e3 : z2.toInt = 8 * ((fI u 0 37)).toInt := by rw [ez2]; exact i_mul rfl rfl (by omega)
  refine lv_aload_n hx hb dX11_knotHere_12 rfl (lv_at hl 0 rfl) ?_
  refine gf_RX11_20 (v := .ref (a 3)) C hO 0 mW_0 rfl dX11_knotHere_13 ?_
  refine lv_aload_n hx hb dX11_knotHere_16 rfl (lv_at hl 0 rfl) ?_
  refine gf_RX11_246 (v := .int (fI u 0 37)) C hO 0 mW_0 rfl dX11_knotHere_17 ?_
  refine aI C hO 3 mW_3 (i_in (X := ((fI u 0 37)).toInt) rfl (by omega) (by omega)) dX11_knotHere_20 ?_
  have g4 : 0 ≤ hk.toInt ∧ hk.toInt ≤ 8 := by have h := MI_A3 hJ0 (fI u 0 37).toNatClampNeg; rw [hhk] at h; exact h
  refine tE (y := hk) (by exact hhk) ?_
  refine cVi (w := mW cy a) (As := [.ref (a 20), .int z2, .int hk]) (rest := []) C hO (T_X11_here_20 l D cy a _ (by exact hJ) (z2) (hk) (by first | omega | decide) (by first | omega | decide)) (cwV 3 ht (gV wd_1627 wd_1629 wd_57 wd_121 wd_1630) rfl rfl rfl hd_yX11_here ⟨Nat.le_of_ble_eq_true rfl, Nat.le_of_ble_eq_true rfl⟩) 0 rfl mW_0 rfl rfl hl.1 (Nat.le_of_ble_eq_true rfl) dX11_knotHere_21 rfl ⟨Nat.zero_le _, Nat.zero_le _⟩ (fun r5 u6 H locs hp7 hO => ?_)
  obtain ⟨hr5, hu6⟩ := hp7
  rw [hu6] at hO
  refine hret _ _ _ _ _ _ dX11_knotHere_24 rfl ?_ hO
  exact ⟨(by first | decide | omega), rfl⟩
theorem dX11_pleaHere_0 : decode cX11_pleaHere 0 = .ok (.aload_n 0, 1) := by decide +kernel
theorem dX11_pleaHere_1 : decode cX11_pleaHere 1 = .ok (.aload_n 0, 1) := by decide +kernel
theorem dX11_pleaHere_2 : decode cX11_pleaHere 2 = .ok (.getfield 76, 3) := by decide +kernel
theorem dX11_pleaHere_5 : decode cX11_pleaHere 5 = .ok (.bipush 8, 2) := by decide +kernel
theorem dX11_pleaHere_7 : decode cX11_pleaHere 7 = .ok (.aload_n 0, 1) := by decide +kernel
theorem dX11_pleaHere_8 : decode cX11_pleaHere 8 = .ok (.getfield 246, 3) := by decide +kernel
theorem dX11_pleaHere_11 : decode cX11_pleaHere 11 = .ok (.imul, 1) := by decide +kernel
theorem dX11_pleaHere_12 : decode cX11_pleaHere 12 = .ok (.aload_n 0, 1) := by decide +kernel
theorem dX11_pleaHere_13 : decode cX11_pleaHere 13 = .ok (.getfield 27, 3) := by decide +kernel
theorem dX11_pleaHere_16 : decode cX11_pleaHere 16 = .ok (.aload_n 0, 1) := by decide +kernel
theorem dX11_pleaHere_17 : decode cX11_pleaHere 17 = .ok (.getfield 246, 3) := by decide +kernel
theorem dX11_pleaHere_20 : decode cX11_pleaHere 20 = .ok (.iaload, 1) := by decide +kernel
theorem dX11_pleaHere_21 : decode cX11_pleaHere 21 = .ok (.invokevirtual 308, 3) := by decide +kernel
theorem dX11_pleaHere_24 : decode cX11_pleaHere 24 = .ok (.ireturn, 1) := by decide +kernel
theorem wd_1650 : (Cond.code ⟨"WebCourtModel", "pleaHere", "()I"⟩ prog_13_method_22_code (1 : Nat) (Option.some FieldType.int)) ∈ gtb := gtb_c7 101 (by decide +kernel) rfl
theorem wd_1385 : (Cond.fieldLink "WebCourtModel" (76 : Nat) "WebCourtModel" "pName" "[J") ∈ gtb := gtb_c6 76 (by decide +kernel) rfl
theorem gf_RX11_76 {p : Program} {l : Launch} {e : Env} {R : Room} {s : State} {m : MethodId} {args : Array Value} {below : List Frame} {meth : Method} {c : Code} {H : Heap} {locs : List Loc} {cells slots : Nat} {Q : State → Prop} {cc : ByteArray} {pc nL : Nat} {ls : Array Slot} {rest : List Value} {D : va_G} {cy : Nat → ClassId} {A : Nat → Prop} {ws : va_W} {b : Nat} {fs : List Value} {v : Value} (C : Cx p s m args c cc nL RX11 D cy A) (hO : Wo D A ws s.heap H locs) (q0 : Nat) (he : ws[q0]? = some (b, .inr (11, fs))) (hv : fs[29]? = some v) (hdg : decode cc pc = .ok (.getfield 76, 3)) (kk : W p l e R s m args below meth c H locs cells slots Q (F0 m (pc + 3) ls (v :: rest))) : W p l e R s m args below meth c H locs cells slots Q (F0 m pc ls (.ref b :: rest)) := gF (k := 29) C hO q0 he rfl inFX11 (by decide) wd_1385 rfl hv hdg kk
set_option maxHeartbeats 4000000 in
set_option maxRecDepth 100000 in
theorem T_X11_pleaHere (l : Launch) (D : va_G) (cy : Nat → ClassId) (a : Nat → Nat) (u : St) (hJ : MI a u) (hp_ : Int32) (hhp_ : fA u 5 (fI u 0 37).toNatClampNeg = hp_)   : Mi l D cy (mW cy a) yX11_pleaHere (.code yX11_pleaHere cX11_pleaHere 1 (some .int)) (rmo 1 24) [.ref (a 0)] u (fun (r : Int32) (u' : St) => (-1 ≤ r.toInt ∧ (r.toInt < hp_.toInt ∨ r.toInt = -1)) ∧ (u' = u)) := by
  refine Mi.of (own := RX11) rfl (by decide) (Nat.le_of_ble_eq_true rfl) ?_
  have hT : Km0 u u := Km0.rf
  have hJ0 := hJ
  intro p e s m below meth c A Q ls C hret hO hl
  obtain ⟨hx, hb, hml, hown, ht, hK, hA⟩ := id C
  have hl : lv_has ls 1 [(0, .ref (a 0))] := hl
  refine lv_aload_n hx hb dX11_pleaHere_0 rfl (lv_at hl 0 rfl) ?_
  refine lv_aload_n hx hb dX11_pleaHere_1 rfl (lv_at hl 0 rfl) ?_
  refine gf_RX11_76 (v := .ref (a 21)) C hO 0 mW_0 rfl dX11_pleaHere_2 ?_
  refine lv_bipush (v := 8) hx hb dX11_pleaHere_5 (by decide) ?_
  refine lv_aload_n hx hb dX11_pleaHere_7 rfl (lv_at hl 0 rfl) ?_
  have g1 : 0 ≤ (fI u 0 37).toInt ∧ (fI u 0 37).toInt ≤ 1 := by have h := MI_37 hJ0; exact h
  refine gf_RX11_246 (v := .int (fI u 0 37)) C hO 0 mW_0 rfl dX11_pleaHere_8 ?_
  refine lv_imul hx hb dX11_pleaHere_11 ?_
  refine lv_topi (fun z2 ez2 => ?_)
  have e3 : z2.toInt = 8 * ((fI u 0 37)).toInt := by rw [ez2]; exact i_mul rfl rfl (by omega)
  refine lv_aload_n hx hb dX11_pleaHere_12 rfl (lv_at hl 0 rfl) ?_
  refine gf_RX11_27 (v := .ref (a 5)) C hO 0 mW_0 rfl dX11_pleaHere_13 ?_
  refine lv_aload_n hx hb dX11_pleaHere_16 rfl (lv_at hl 0 rfl) ?_
  refine gf_RX11_246 (v := .int (fI u 0 37)) C hO 0 mW_0 rfl dX11_pleaHere_17 ?_
  refine aI C hO 5 mW_5 (i_in (X := ((fI u 0 37)).toInt) rfl (by omega) (by omega)) dX11_pleaHere_20 ?_
  have g4 : 0 ≤ hp_.toInt ∧ hp_.toInt ≤ 8 := by have h := MI_A5 hJ0 (fI u 0 37).toNatClampNeg; rw [hhp_] at h; exact h
  refine tE (y := hp_) (by exact hhp_) ?_
  refine cVi (w := mW cy a) (As := [.ref (a 21), .int z2, .int hp_]) (rest := []) C hO (T_X11_here_21 l D cy a _ (by exact hJ) (z2) (hp_) (by first | omega | decide) (by first | omega | decide)) (cwV 3 ht (gV wd_1627 wd_1629 wd_57 wd_121 wd_1630) rfl rfl rfl hd_yX11_here ⟨Nat.le_of_ble_eq_true rfl, Nat.le_of_ble_eq_true rfl⟩) 0 rfl mW_0 rfl rfl hl.1 (Nat.le_of_ble_eq_true rfl) dX11_pleaHere_21 rfl ⟨Nat.zero_le _, Nat.zero_le _⟩ (fun r5 u6 H locs hp7 hO => ?_)
  obtain ⟨hr5, hu6⟩ := hp7
  rw [hu6] at hO
  refine hret _ _ _ _ _ _ dX11_pleaHere_24 rfl ?_ hO
  exact ⟨(by first | decide | omega), rfl⟩
theorem dX11_fresh_0 : decode cX11_fresh 0 = .ok (.aload_n 0, 1) := by decide +kernel
theorem dX11_fresh_1 : decode cX11_fresh 1 = .ok (.invokevirtual 236, 3) := by decide +kernel
theorem dX11_fresh_4 : decode cX11_fresh 4 = .ok (.ifCond .ne 5, 3) := by decide +kernel
theorem dX11_fresh_7 : decode cX11_fresh 7 = .ok (.lconst 0, 1) := by decide +kernel
theorem dX11_fresh_8 : decode cX11_fresh 8 = .ok (.lreturn, 1) := by decide +kernel
theorem dX11_fresh_9 : decode cX11_fresh 9 = .ok (.aload_n 0, 1) := by decide +kernel
theorem dX11_fresh_10 : decode cX11_fresh 10 = .ok (.getfield 208, 3) := by decide +kernel
theorem dX11_fresh_13 : decode cX11_fresh 13 = .ok (.iconst 2, 1) := by decide +kernel
theorem dX11_fresh_14 : decode cX11_fresh 14 = .ok (.if_icmp .eq 10, 3) := by decide +kernel
theorem dX11_fresh_17 : decode cX11_fresh 17 = .ok (.aload_n 0, 1) := by decide +kernel
theorem dX11_fresh_18 : decode cX11_fresh 18 = .ok (.invokevirtual 243, 3) := by decide +kernel
theorem dX11_fresh_21 : decode cX11_fresh 21 = .ok (.goto 16, 3) := by decide +kernel
theorem dX11_fresh_24 : decode cX11_fresh 24 = .ok (.iload_n 1, 1) := by decide +kernel
theorem dX11_fresh_25 : decode cX11_fresh 25 = .ok (.ifCond .lt 12, 3) := by decide +kernel
theorem dX11_fresh_28 : decode cX11_fresh 28 = .ok (.aload_n 0, 1) := by decide +kernel
theorem dX11_fresh_29 : decode cX11_fresh 29 = .ok (.iconst 3, 1) := by decide +kernel
theorem dX11_fresh_30 : decode cX11_fresh 30 = .ok (.aload_n 0, 1) := by decide +kernel
theorem dX11_fresh_31 : decode cX11_fresh 31 = .ok (.getfield 201, 3) := by decide +kernel
theorem dX11_fresh_34 : decode cX11_fresh 34 = .ok (.invokevirtual 232, 3) := by decide +kernel
theorem dX11_fresh_37 : decode cX11_fresh 37 = .ok (.aload_n 0, 1) := by decide +kernel
theorem dX11_fresh_38 : decode cX11_fresh 38 = .ok (.getfield 215, 3) := by decide +kernel
theorem dX11_fresh_41 : decode cX11_fresh 41 = .ok (.lstore_n 2, 1) := by decide +kernel
theorem dX11_fresh_42 : decode cX11_fresh 42 = .ok (.aload_n 0, 1) := by decide +kernel
theorem dX11_fresh_43 : decode cX11_fresh 43 = .ok (.invokevirtual 236, 3) := by decide +kernel
theorem dX11_fresh_46 : decode cX11_fresh 46 = .ok (.ifCond .eq 7, 3) := by decide +kernel
theorem dX11_fresh_49 : decode cX11_fresh 49 = .ok (.aload_n 0, 1) := by decide +kernel
theorem dX11_fresh_50 : decode cX11_fresh 50 = .ok (.invokevirtual 240, 3) := by decide +kernel
theorem dX11_fresh_53 : decode cX11_fresh 53 = .ok (.lload_n 2, 1) := by decide +kernel
theorem dX11_fresh_54 : decode cX11_fresh 54 = .ok (.lreturn, 1) := by decide +kernel
theorem wd_1634 : (Cond.code ⟨"WebCourtModel", "fresh", "(I)J"⟩ prog_13_method_23_code (4 : Nat) (Option.some FieldType.long)) ∈ gtb := gtb_c7 85 (by decide +kernel) rfl
set_option maxHeartbeats 4000000 in
set_option maxRecDepth 100000 in
theorem T_X11_fresh (l : Launch) (D : va_G) (cy : Nat → ClassId) (a : Nat → Nat) (u : St) (hJ : MI a u) (hp0 : (fI u 0 7).toInt ≤ (fI u 0 3).toInt) (hp1 : (fI u 0 6).toInt ≤ (fI u 0 7).toInt) (hp2 : (fI u 0 8).toInt = 0 ∨ (fI u 0 6).toInt < (fI u 0 7).toInt) (x1 : Int32)  : Mj l D cy (mW cy a) yX11_fresh (.code yX11_fresh cX11_fresh 4 (some .long)) (rmo 2 44) [.ref (a 0), .int x1] u (fun (r : Int64) (u' : St) => (MI a u') ∧ (Km27 u u') ∧ ((fI u' 0 7).toInt ≤ (fI u' 0 3).toInt) ∧ ((fI u' 0 6).toInt ≤ (fI u' 0 7).toInt) ∧ ((fI u' 0 8).toInt = 0 ∨ (fI u' 0 6).toInt < (fI u' 0 7).toInt) ∧ ((fI u 0 6).toInt ≤ (fI u' 0 6).toInt) ∧ ((fI u 0 4).toInt = 0 ∨ ¬ (fI u' 0 4).toInt = 0)) := by
  refine Mj.of (own := RX11) rfl (by decide) (Nat.le_of_ble_eq_true rfl) ?_
  have hT : Km27 u u := Km27.rf
  have hJ0 := hJ
  intro p e s m below meth c A Q ls C hret hO hl
  obtain ⟨hx, hb, hml, hown, ht, hK, hA⟩ := id C
  have hl : lv_has ls 4 [(0, .ref (a 0)), (1, .int x1)] := hl
  refine lv_aload_n hx hb dX11_fresh_0 rfl (lv_at hl 0 rfl) ?_
  have g1 : 0 ≤ (fI u 0 4).toInt ∧ (fI u 0 4).toInt ≤ 5 := by have h := MI_4 hJ0; exact h
  refine cVi (w := mW cy a) (As := []) (rest := []) C hO (T_X11_isGood l D cy a _ (by exact hJ) ((fI u 0 4)) (by exact rfl)) (cwV 0 ht (gV wd_1596 wd_1598 wd_50 wd_121 wd_1599) rfl rfl rfl hd_yX11_isGood ⟨Nat.le_of_ble_eq_true rfl, Nat.le_of_ble_eq_true rfl⟩) 0 rfl mW_0 rfl rfl hl.1 (Nat.le_of_ble_eq_true rfl) dX11_fresh_1 rfl ⟨Nat.zero_le _, Nat.zero_le _⟩ (fun r2 u3 H locs hp4 hO => ?_)
  obtain ⟨hr2, hu3⟩ := hp4
  rw [hu3] at hO
  rcases hr2 with ⟨hcr2, hvr2⟩ | ⟨hcr2, hvr2⟩
  · subst hvr2
    refine bt_ne (tgt := 9) (X := 1) hx hb dX11_fresh_4 (by decide) rfl (by omega) ?_
    refine lv_aload_n hx hb dX11_fresh_9 rfl (lv_at hl 0 rfl) ?_
    have g5 : 0 ≤ (fI u 0 8).toInt ∧ (fI u 0 8).toInt ≤ 5 := by have h := MI_8 hJ0; exact h
    refine gf_RX11_208 (v := .int (fI u 0 8)) C hO 0 mW_0 rfl dX11_fresh_10 ?_
    refine lv_iconst (v := 2) hx hb dX11_fresh_13 (by decide) ?_
    refine cs_eq (tgt := 24) (X := ((fI u 0 8)).toInt) (Y := 2) hx hb dX11_fresh_14 (by decide) rfl rfl (fun c6 => ?_) (fun c6 => ?_)
    · refine lv_iload_n hx hb dX11_fresh_24 rfl (lv_at hl 1 rfl) ?_
      refine bs_lt (tgt := 37) (X := (x1).toInt) hx hb dX11_fresh_25 (by decide) rfl (fun c7 => ?_) (fun c7 => ?_)
      · refine lv_aload_n hx hb dX11_fresh_37 rfl (lv_at hl 0 rfl) ?_
        refine gf_RX11_215 (v := .long ((fL u 0 10))) C hO 0 mW_0 rfl dX11_fresh_38 ?_
        refine lv_lstore_n (lv' := [(2, .long ((fL u 0 10))), (0, .ref (a 0)), (1, .int x1)]) hx hb dX11_fresh_41 rfl hl (by decide) rfl (fun ls hl => ?_)
        refine lv_aload_n hx hb dX11_fresh_42 rfl (lv_at hl 1 rfl) ?_
        refine cVi (w := mW cy a) (As := []) (rest := []) C hO (T_X11_isGood l D cy a _ (by exact hJ) ((fI u 0 4)) (by exact rfl)) (cwV 0 ht (gV wd_1596 wd_1598 wd_50 wd_121 wd_1599) rfl rfl rfl hd_yX11_isGood ⟨Nat.le_of_ble_eq_true rfl, Nat.le_of_ble_eq_true rfl⟩) 0 rfl mW_0 rfl rfl hl.1 (Nat.le_of_ble_eq_true rfl) dX11_fresh_43 rfl ⟨Nat.zero_le _, Nat.zero_le _⟩ (fun r8 u9 H locs hp10 hO => ?_)
        obtain ⟨hr8, hu9⟩ := hp10
        rw [hu9] at hO
        rcases hr8 with ⟨hcr8, hvr8⟩ | ⟨hcr8, hvr8⟩
        · subst hvr8
          refine bn_eq (X := 1) hx hb dX11_fresh_46 rfl (by omega) ?_ (tgt := 53) (by decide)
          refine lv_aload_n hx hb dX11_fresh_49 rfl (lv_at hl 1 rfl) ?_
          have g11 : 0 ≤ (fI u 0 7).toInt ∧ (fI u 0 7).toInt ≤ 1601 := by have h := MI_7 hJ0; exact h
          have g12 : 0 ≤ (fI u 0 3).toInt ∧ (fI u 0 3).toInt ≤ 1600 := by have h := MI_3 hJ0; exact h
          refine cVv (w := mW cy a) (As := []) (rest := []) C hO (T_X11_goOn l D cy a _ (by exact hJ) (by exact (show ((fI u 0 7) : Int32).toInt ≤ ((fI u 0 3) : Int32).toInt from by first | omega | decide))) (cwV 0 ht (gV wd_1556 wd_1558 wd_48 wd_121 wd_1559) rfl rfl rfl hd_yX11_goOn ⟨Nat.le_of_ble_eq_true rfl, Nat.le_of_ble_eq_true rfl⟩) 0 rfl mW_0 rfl rfl hl.1 (Nat.le_of_ble_eq_true rfl) dX11_fresh_50 rfl ⟨Nat.zero_le _, Nat.zero_le _⟩ (fun u14 H locs hp15 hO => ?_)
          obtain ⟨hJ, hTu14, hx0u14, hx1u14, hx2u14, hx3u14⟩ := hp15
          have hT : Km27 u u14 := Km27.tr (by exact hT) (Km26_to_Km27 hTu14)
          have g16 : 0 ≤ (fI u14 0 7).toInt ∧ (fI u14 0 7).toInt ≤ 1601 := by have h := MI_7 hJ; exact h
          have y0u14 : ((fI u14 0 7) : Int32).toInt ≤ ((fI u 0 3) : Int32).toInt := by have h : ((fI u14 0 7) : Int32).toInt ≤ (fI u14 0 3 : Int32).toInt := hx0u14; rw [show fI u14 0 3 = (fI u 0 3) from (Km27_I3 hT)] at h; exact h
          have g17 : 0 ≤ (fI u14 0 6).toInt ∧ (fI u14 0 6).toInt ≤ 1600 := by have h := MI_6 hJ; exact h
          have y1u14 : ((fI u14 0 6) : Int32).toInt ≤ ((fI u14 0 7) : Int32).toInt := by exact hx1u14
          have g18 : 0 ≤ (fI u14 0 8).toInt ∧ (fI u14 0 8).toInt ≤ 5 := by have h := MI_8 hJ; exact h
          have y2u14 : ((fI u14 0 8) : Int32).toInt = 0 ∨ ((fI u14 0 6) : Int32).toInt < ((fI u14 0 7) : Int32).toInt := by exact hx2u14
          have y3u14 : ((fI u 0 7) : Int32).toInt ≤ ((fI u14 0 6) : Int32).toInt := by exact hx3u14
          refine lv_lload_n hx hb dX11_fresh_53 rfl (lv_at hl 0 rfl) ?_
          have q19 : ((fI u14 0 7) : Int32).toInt ≤ ((fI u 0 3) : Int32).toInt := by first | omega | decide
          have q20 : ((fI u14 0 6) : Int32).toInt ≤ ((fI u14 0 7) : Int32).toInt := by first | omega | decide
          have q21 : ((fI u14 0 8) : Int32).toInt = 0 ∨ ((fI u14 0 6) : Int32).toInt < ((fI u14 0 7) : Int32).toInt := by first | omega | decide
          have g22 : 0 ≤ (fI u 0 6).toInt ∧ (fI u 0 6).toInt ≤ 1600 := by have h := MI_6 hJ0; exact h
          have q23 : ((fI u 0 6) : Int32).toInt ≤ ((fI u14 0 6) : Int32).toInt := by first | omega | decide
          have q24 : ((fI u 0 4) : Int32).toInt = 0 ∨ ¬ ((fI u 0 4) : Int32).toInt = 0 := by first | omega | decide
          refine hret _ _ _ _ _ _ dX11_fresh_54 ?_ hO
          exact ⟨hJ, hT, (show ((fI u14 0 7) : Int32).toInt ≤ (fI u14 0 3 : Int32).toInt from by rw [show fI u14 0 3 = (fI u 0 3) from (Km27_I3 hT)]; first | done | exact q19), q20, q21, q23, (show ((fI u 0 4) : Int32).toInt = 0 ∨ ¬ (fI u14 0 4 : Int32).toInt = 0 from by rw [show fI u14 0 4 = (fI u 0 4) from (Km26_I4 hTu14)]; first | done | exact q24)⟩
        · exfalso
          omega
      · refine lv_aload_n hx hb dX11_fresh_28 rfl (lv_at hl 0 rfl) ?_
        refine lv_iconst (v := 3) hx hb dX11_fresh_29 (by decide) ?_
        refine lv_aload_n hx hb dX11_fresh_30 rfl (lv_at hl 0 rfl) ?_
        have g25 : 0 ≤ (fI u 0 6).toInt ∧ (fI u 0 6).toInt ≤ 1600 := by have h := MI_6 hJ0; exact h
        refine gf_RX11_201 (v := .int (fI u 0 6)) C hO 0 mW_0 rfl dX11_fresh_31 ?_
        refine cVv (w := mW cy a) (As := [.int 3, .int (fI u 0 6)]) (rest := []) C hO (T_X11_fails l D cy a _ (by exact hJ) (3) ((fI u 0 6)) (by first | omega | decide)) (cwV 2 ht (gV wd_1619 wd_1621 wd_55 wd_121 wd_1622) rfl rfl rfl hd_yX11_fails ⟨Nat.le_of_ble_eq_true rfl, Nat.le_of_ble_eq_true rfl⟩) 0 rfl mW_0 rfl rfl hl.1 (Nat.le_of_ble_eq_true rfl) dX11_fresh_34 rfl ⟨Nat.zero_le _, Nat.zero_le _⟩ (fun u27 H locs hp28 hO => ?_)
        obtain ⟨hJ, hTu27, hx0u27⟩ := hp28
        have hT : Km27 u u27 := Km27.tr (by exact hT) (Km25_to_Km27 hTu27)
        have g29 : 0 ≤ (fI u27 0 4).toInt ∧ (fI u27 0 4).toInt ≤ 5 := by have h := MI_4 hJ; exact h
        have y0u27 : ¬ ((fI u27 0 4) : Int32).toInt = 0 := by exact hx0u27
        refine lv_aload_n hx hb dX11_fresh_37 rfl (lv_at hl 0 rfl) ?_
        refine gf_RX11_215 (v := .long ((fL u27 0 10))) C hO 0 mW_0 rfl dX11_fresh_38 ?_
        refine lv_lstore_n (lv' := [(2, .long ((fL u27 0 10))), (0, .ref (a 0)), (1, .int x1)]) hx hb dX11_fresh_41 rfl hl (by decide) rfl (fun ls hl => ?_)
        refine lv_aload_n hx hb dX11_fresh_42 rfl (lv_at hl 1 rfl) ?_
        refine cVi (w := mW cy a) (As := []) (rest := []) C hO (T_X11_isGood l D cy a _ (by exact hJ) ((fI u27 0 4)) (by exact rfl)) (cwV 0 ht (gV wd_1596 wd_1598 wd_50 wd_121 wd_1599) rfl rfl rfl hd_yX11_isGood ⟨Nat.le_of_ble_eq_true rfl, Nat.le_of_ble_eq_true rfl⟩) 0 rfl mW_0 rfl rfl hl.1 (Nat.le_of_ble_eq_true rfl) dX11_fresh_43 rfl ⟨Nat.zero_le _, Nat.zero_le _⟩ (fun r30 u31 H locs hp32 hO => ?_)
        obtain ⟨hr30, hu31⟩ := hp32
        rw [hu31] at hO
        rcases hr30 with ⟨hcr30, hvr30⟩ | ⟨hcr30, hvr30⟩
        · exfalso
          omega
        · subst hvr30
          refine bt_eq (tgt := 53) (X := 0) hx hb dX11_fresh_46 (by decide) rfl (by omega) ?_
          refine lv_lload_n hx hb dX11_fresh_53 rfl (lv_at hl 0 rfl) ?_
          have g33 : 0 ≤ (fI u 0 7).toInt ∧ (fI u 0 7).toInt ≤ 1601 := by have h := MI_7 hJ0; exact h
          have g34 : 0 ≤ (fI u 0 3).toInt ∧ (fI u 0 3).toInt ≤ 1600 := by have h := MI_3 hJ0; exact h
          have q35 : ((fI u 0 7) : Int32).toInt ≤ ((fI u 0 3) : Int32).toInt := by first | omega | decide
          have q36 : ((fI u 0 6) : Int32).toInt ≤ ((fI u 0 7) : Int32).toInt := by first | omega | decide
          have q37 : ((fI u 0 8) : Int32).toInt = 0 ∨ ((fI u 0 6) : Int32).toInt < ((fI u 0 7) : Int32).toInt := by first | omega | decide
          have q38 : ((fI u 0 6) : Int32).toInt ≤ ((fI u 0 6) : Int32).toInt := by first | omega | decide
          have q39 : ((fI u 0 4) : Int32).toInt = 0 ∨ ¬ ((fI u27 0 4) : Int32).toInt = 0 := by first | omega | decide
          refine hret _ _ _ _ _ _ dX11_fresh_54 ?_ hO
          exact ⟨hJ, hT, (show (fI u27 0 7 : Int32).toInt ≤ (fI u27 0 3 : Int32).toInt from by rw [show fI u27 0 7 = (fI u 0 7) from (Km25_I7 hTu27), show fI u27 0 3 = (fI u 0 3) from (Km27_I3 hT)]; first | done | exact q35), (show (fI u27 0 6 : Int32).toInt ≤ (fI u27 0 7 : Int32).toInt from by rw [show fI u27 0 6 = (fI u 0 6) from (Km25_I6 hTu27), show fI u27 0 7 = (fI u 0 7) from (Km25_I7 hTu27)]; first | done | exact q36), (show (fI u27 0 8 : Int32).toInt = 0 ∨ (fI u27 0 6 : Int32).toInt < (fI u27 0 7 : Int32).toInt from by rw [show fI u27 0 8 = (fI u 0 8) from (Km25_I8 hTu27), show fI u27 0 6 = (fI u 0 6) from (Km25_I6 hTu27), show fI u27 0 7 = (fI u 0 7) from (Km25_I7 hTu27)]; first | done | exact q37), (show ((fI u 0 6) : Int32).toInt ≤ (fI u27 0 6 : Int32).toInt from by rw [show fI u27 0 6 = (fI u 0 6) from (Km25_I6 hTu27)]; first | done | exact q38), q39⟩
    · refine lv_aload_n hx hb dX11_fresh_17 rfl (lv_at hl 0 rfl) ?_
      refine cVv (w := mW cy a) (As := []) (rest := []) C hO (T_X11_misplaced l D cy a _ (by exact hJ)) (cwV 0 ht (gV wd_1615 wd_1617 wd_54 wd_121 wd_1618) rfl rfl rfl hd_yX11_misplaced ⟨Nat.le_of_ble_eq_true rfl, Nat.le_of_ble_eq_true rfl⟩) 0 rfl mW_0 rfl rfl hl.1 (Nat.le_of_ble_eq_true rfl) dX11_fresh_18 rfl ⟨Nat.zero_le _, Nat.zero_le _⟩ (fun u41 H locs hp42 hO => ?_)
      obtain ⟨hJ, hTu41, hx0u41⟩ := hp42
      have hT : Km27 u u41 := Km27.tr (by exact hT) (Km25_to_Km27 hTu41)
      have g43 : 0 ≤ (fI u41 0 4).toInt ∧ (fI u41 0 4).toInt ≤ 5 := by have h := MI_4 hJ; exact h
      have y0u41 : ¬ ((fI u41 0 4) : Int32).toInt = 0 := by exact hx0u41
      refine lv_goto (tgt := 37) hx hb dX11_fresh_21 (by decide) ?_
      refine lv_aload_n hx hb dX11_fresh_37 rfl (lv_at hl 0 rfl) ?_
      refine gf_RX11_215 (v := .long ((fL u41 0 10))) C hO 0 mW_0 rfl dX11_fresh_38 ?_
      refine lv_lstore_n (lv' := [(2, .long ((fL u41 0 10))), (0, .ref (a 0)), (1, .int x1)]) hx hb dX11_fresh_41 rfl hl (by decide) rfl (fun ls hl => ?_)
      refine lv_aload_n hx hb dX11_fresh_42 rfl (lv_at hl 1 rfl) ?_
      refine cVi (w := mW cy a) (As := []) (rest := []) C hO (T_X11_isGood l D cy a _ (by exact hJ) ((fI u41 0 4)) (by exact rfl)) (cwV 0 ht (gV wd_1596 wd_1598 wd_50 wd_121 wd_1599) rfl rfl rfl hd_yX11_isGood ⟨Nat.le_of_ble_eq_true rfl, Nat.le_of_ble_eq_true rfl⟩) 0 rfl mW_0 rfl rfl hl.1 (Nat.le_of_ble_eq_true rfl) dX11_fresh_43 rfl ⟨Nat.zero_le _, Nat.zero_le _⟩ (fun r44 u45 H locs hp46 hO => ?_)
      obtain ⟨hr44, hu45⟩ := hp46
      rw [hu45] at hO
      rcases hr44 with ⟨hcr44, hvr44⟩ | ⟨hcr44, hvr44⟩
      · exfalso
        omega
      · subst hvr44
        refine bt_eq (tgt := 53) (X := 0) hx hb dX11_fresh_46 (by decide) rfl (by omega) ?_
        refine lv_lload_n hx hb dX11_fresh_53 rfl (lv_at hl 0 rfl) ?_
        have g47 : 0 ≤ (fI u 0 7).toInt ∧ (fI u 0 7).toInt ≤ 1601 := by have h := MI_7 hJ0; exact h
        have g48 : 0 ≤ (fI u 0 3).toInt ∧ (fI u 0 3).toInt ≤ 1600 := by have h := MI_3 hJ0; exact h
        have q49 : ((fI u 0 7) : Int32).toInt ≤ ((fI u 0 3) : Int32).toInt := by first | omega | decide
        have g50 : 0 ≤ (fI u 0 6).toInt ∧ (fI u 0 6).toInt ≤ 1600 := by have h := MI_6 hJ0; exact h
        have q51 : ((fI u 0 6) : Int32).toInt ≤ ((fI u 0 7) : Int32).toInt := by first | omega | decide
        have q52 : ((fI u 0 8) : Int32).toInt = 0 ∨ ((fI u 0 6) : Int32).toInt < ((fI u 0 7) : Int32).toInt := by first | omega | decide
        have q53 : ((fI u 0 6) : Int32).toInt ≤ ((fI u 0 6) : Int32).toInt := by first | omega | decide
        have q54 : ((fI u 0 4) : Int32).toInt = 0 ∨ ¬ ((fI u41 0 4) : Int32).toInt = 0 := by first | omega | decide
        refine hret _ _ _ _ _ _ dX11_fresh_54 ?_ hO
        exact ⟨hJ, hT, (show (fI u41 0 7 : Int32).toInt ≤ (fI u41 0 3 : Int32).toInt from by rw [show fI u41 0 7 = (fI u 0 7) from (Km25_I7 hTu41), show fI u41 0 3 = (fI u 0 3) from (Km27_I3 hT)]; first | done | exact q49), (show (fI u41 0 6 : Int32).toInt ≤ (fI u41 0 7 : Int32).toInt from by rw [show fI u41 0 6 = (fI u 0 6) from (Km25_I6 hTu41), show fI u41 0 7 = (fI u 0 7) from (Km25_I7 hTu41)]; first | done | exact q51), (show (fI u41 0 8 : Int32).toInt = 0 ∨ (fI u41 0 6 : Int32).toInt < (fI u41 0 7 : Int32).toInt from by rw [show fI u41 0 8 = (fI u 0 8) from (Km25_I8 hTu41), show fI u41 0 6 = (fI u 0 6) from (Km25_I6 hTu41), show fI u41 0 7 = (fI u 0 7) from (Km25_I7 hTu41)]; first | done | exact q52), (show ((fI u 0 6) : Int32).toInt ≤ (fI u41 0 6 : Int32).toInt from by rw [show fI u41 0 6 = (fI u 0 6) from (Km25_I6 hTu41)]; first | done | exact q53), q54⟩
  · subst hvr2
    refine bn_ne (X := 0) hx hb dX11_fresh_4 rfl (by omega) ?_ (tgt := 9) (by decide)
    refine lv_lconst (v := 0) hx hb dX11_fresh_7 rfl ?_
    have g55 : 0 ≤ (fI u 0 7).toInt ∧ (fI u 0 7).toInt ≤ 1601 := by have h := MI_7 hJ0; exact h
    have g56 : 0 ≤ (fI u 0 3).toInt ∧ (fI u 0 3).toInt ≤ 1600 := by have h := MI_3 hJ0; exact h
    have q57 : ((fI u 0 7) : Int32).toInt ≤ ((fI u 0 3) : Int32).toInt := by first | omega | decide
    have g58 : 0 ≤ (fI u 0 6).toInt ∧ (fI u 0 6).toInt ≤ 1600 := by have h := MI_6 hJ0; exact h
    have q59 : ((fI u 0 6) : Int32).toInt ≤ ((fI u 0 7) : Int32).toInt := by first | omega | decide
    have g60 : 0 ≤ (fI u 0 8).toInt ∧ (fI u 0 8).toInt ≤ 5 := by have h := MI_8 hJ0; exact h
    have q61 : ((fI u 0 8) : Int32).toInt = 0 ∨ ((fI u 0 6) : Int32).toInt < ((fI u 0 7) : Int32).toInt := by first | omega | decide
    have q62 : ((fI u 0 6) : Int32).toInt ≤ ((fI u 0 6) : Int32).toInt := by first | omega | decide
    have q63 : ((fI u 0 4) : Int32).toInt = 0 ∨ ¬ ((fI u 0 4) : Int32).toInt = 0 := by first | omega | decide
    refine hret _ _ _ _ _ _ dX11_fresh_8 ?_ hO
    exact ⟨hJ, hT, q57, q59, q61, q62, q63⟩
theorem dX11_known_0 : decode cX11_known 0 = .ok (.aload_n 0, 1) := by decide +kernel
theorem dX11_known_1 : decode cX11_known 1 = .ok (.invokevirtual 236, 3) := by decide +kernel
theorem dX11_known_4 : decode cX11_known 4 = .ok (.ifCond .ne 5, 3) := by decide +kernel
theorem dX11_known_7 : decode cX11_known 7 = .ok (.iconst 0, 1) := by decide +kernel
theorem dX11_known_8 : decode cX11_known 8 = .ok (.ireturn, 1) := by decide +kernel
theorem dX11_known_9 : decode cX11_known 9 = .ok (.aload_n 0, 1) := by decide +kernel
theorem dX11_known_10 : decode cX11_known 10 = .ok (.getfield 208, 3) := by decide +kernel
theorem dX11_known_13 : decode cX11_known 13 = .ok (.iconst 2, 1) := by decide +kernel
theorem dX11_known_14 : decode cX11_known 14 = .ok (.if_icmp .eq 10, 3) := by decide +kernel
theorem dX11_known_17 : decode cX11_known 17 = .ok (.aload_n 0, 1) := by decide +kernel
theorem dX11_known_18 : decode cX11_known 18 = .ok (.invokevirtual 243, 3) := by decide +kernel
theorem dX11_known_21 : decode cX11_known 21 = .ok (.goto 23, 3) := by decide +kernel
theorem dX11_known_24 : decode cX11_known 24 = .ok (.iload_n 1, 1) := by decide +kernel
theorem dX11_known_25 : decode cX11_known 25 = .ok (.ifCond .ge 15, 3) := by decide +kernel
theorem dX11_known_28 : decode cX11_known 28 = .ok (.aload_n 0, 1) := by decide +kernel
theorem dX11_known_29 : decode cX11_known 29 = .ok (.iconst 5, 1) := by decide +kernel
theorem dX11_known_30 : decode cX11_known 30 = .ok (.aload_n 0, 1) := by decide +kernel
theorem dX11_known_31 : decode cX11_known 31 = .ok (.getfield 201, 3) := by decide +kernel
theorem dX11_known_34 : decode cX11_known 34 = .ok (.invokevirtual 232, 3) := by decide +kernel
theorem dX11_known_37 : decode cX11_known 37 = .ok (.goto 7, 3) := by decide +kernel
theorem dX11_known_40 : decode cX11_known 40 = .ok (.aload_n 0, 1) := by decide +kernel
theorem dX11_known_41 : decode cX11_known 41 = .ok (.invokevirtual 240, 3) := by decide +kernel
theorem dX11_known_44 : decode cX11_known 44 = .ok (.iload_n 1, 1) := by decide +kernel
theorem dX11_known_45 : decode cX11_known 45 = .ok (.ifCond .ge 7, 3) := by decide +kernel
theorem dX11_known_48 : decode cX11_known 48 = .ok (.iconst 0, 1) := by decide +kernel
theorem dX11_known_49 : decode cX11_known 49 = .ok (.goto 4, 3) := by decide +kernel
theorem dX11_known_52 : decode cX11_known 52 = .ok (.iload_n 1, 1) := by decide +kernel
theorem dX11_known_53 : decode cX11_known 53 = .ok (.ireturn, 1) := by decide +kernel
theorem wd_1642 : (Cond.code ⟨"WebCourtModel", "known", "(I)I"⟩ prog_13_method_24_code (2 : Nat) (Option.some FieldType.int)) ∈ gtb := gtb_c7 93 (by decide +kernel) rfl
set_option maxHeartbeats 4000000 in
set_option maxRecDepth 100000 in
theorem T_X11_known (l : Launch) (D : va_G) (cy : Nat → ClassId) (a : Nat → Nat) (u : St) (hJ : MI a u) (hp0 : (fI u 0 7).toInt ≤ (fI u 0 3).toInt) (hp1 : (fI u 0 6).toInt ≤ (fI u 0 7).toInt) (hp2 : (fI u 0 8).toInt = 0 ∨ (fI u 0 6).toInt < (fI u 0 7).toInt) (x1 : Int32) (hx_x1 : -1 ≤ x1.toInt ∧ x1.toInt ≤ 7) : Mi l D cy (mW cy a) yX11_known (.code yX11_known cX11_known 2 (some .int)) (rmo 2 44) [.ref (a 0), .int x1] u (fun (r : Int32) (u' : St) => (0 ≤ r.toInt ∧ r.toInt ≤ 7) ∧ (MI a u') ∧ (Km27 u u') ∧ ((fI u' 0 7).toInt ≤ (fI u' 0 3).toInt) ∧ ((fI u' 0 6).toInt ≤ (fI u' 0 7).toInt) ∧ ((fI u' 0 8).toInt = 0 ∨ (fI u' 0 6).toInt < (fI u' 0 7).toInt) ∧ ((fI u 0 6).toInt ≤ (fI u' 0 6).toInt) ∧ ((fI u 0 4).toInt = 0 ∨ ¬ (fI u' 0 4).toInt = 0) ∧ (¬ (fI u' 0 4).toInt = 0 ∨ 0 ≤ x1.toInt)) := by
  refine Mi.of (own := RX11) rfl (by decide) (Nat.le_of_ble_eq_true rfl) ?_
  have hT : Km27 u u := Km27.rf
  have hJ0 := hJ
  intro p e s m below meth c A Q ls C hret hO hl
  obtain ⟨hx, hb, hml, hown, ht, hK, hA⟩ := id C
  have hl : lv_has ls 2 [(0, .ref (a 0)), (1, .int x1)] := hl
  refine lv_aload_n hx hb dX11_known_0 rfl (lv_at hl 0 rfl) ?_
  have g1 : 0 ≤ (fI u 0 4).toInt ∧ (fI u 0 4).toInt ≤ 5 := by have h := MI_4 hJ0; exact h
  refine cVi (w := mW cy a) (As := []) (rest := []) C hO (T_X11_isGood l D cy a _ (by exact hJ) ((fI u 0 4)) (by exact rfl)) (cwV 0 ht (gV wd_1596 wd_1598 wd_50 wd_121 wd_1599) rfl rfl rfl hd_yX11_isGood ⟨Nat.le_of_ble_eq_true rfl, Nat.le_of_ble_eq_true rfl⟩) 0 rfl mW_0 rfl rfl hl.1 (Nat.le_of_ble_eq_true rfl) dX11_known_1 rfl ⟨Nat.zero_le _, Nat.zero_le _⟩ (fun r2 u3 H locs hp4 hO => ?_)
  obtain ⟨hr2, hu3⟩ := hp4
  rw [hu3] at hO
  rcases hr2 with ⟨hcr2, hvr2⟩ | ⟨hcr2, hvr2⟩
  · subst hvr2
    refine bt_ne (tgt := 9) (X := 1) hx hb dX11_known_4 (by decide) rfl (by omega) ?_
    refine lv_aload_n hx hb dX11_known_9 rfl (lv_at hl 0 rfl) ?_
    have g5 : 0 ≤ (fI u 0 8).toInt ∧ (fI u 0 8).toInt ≤ 5 := by have h := MI_8 hJ0; exact h
    refine gf_RX11_208 (v := .int (fI u 0 8)) C hO 0 mW_0 rfl dX11_known_10 ?_
    refine lv_iconst (v := 2) hx hb dX11_known_13 (by decide) ?_
    refine cs_eq (tgt := 24) (X := ((fI u 0 8)).toInt) (Y := 2) hx hb dX11_known_14 (by decide) rfl rfl (fun c6 => ?_) (fun c6 => ?_)
    · refine lv_iload_n hx hb dX11_known_24 rfl (lv_at hl 1 rfl) ?_
      refine bs_ge (tgt := 40) (X := (x1).toInt) hx hb dX11_known_25 (by decide) rfl (fun c7 => ?_) (fun c7 => ?_)
      · refine lv_aload_n hx hb dX11_known_40 rfl (lv_at hl 0 rfl) ?_
        have g8 : 0 ≤ (fI u 0 7).toInt ∧ (fI u 0 7).toInt ≤ 1601 := by have h := MI_7 hJ0; exact h
        have g9 : 0 ≤ (fI u 0 3).toInt ∧ (fI u 0 3).toInt ≤ 1600 := by have h := MI_3 hJ0; exact h
        refine cVv (w := mW cy a) (As := []) (rest := []) C hO (T_X11_goOn l D cy a _ (by exact hJ) (by exact (show ((fI u 0 7) : Int32).toInt ≤ ((fI u 0 3) : Int32).toInt from by first | omega | decide))) (cwV 0 ht (gV wd_1556 wd_1558 wd_48 wd_121 wd_1559) rfl rfl rfl hd_yX11_goOn ⟨Nat.le_of_ble_eq_true rfl, Nat.le_of_ble_eq_true rfl⟩) 0 rfl mW_0 rfl rfl hl.1 (Nat.le_of_ble_eq_true rfl) dX11_known_41 rfl ⟨Nat.zero_le _, Nat.zero_le _⟩ (fun u11 H locs hp12 hO => ?_)
        obtain ⟨hJ, hTu11, hx0u11, hx1u11, hx2u11, hx3u11⟩ := hp12
        have hT : Km27 u u11 := Km27.tr (by exact hT) (Km26_to_Km27 hTu11)
        have g13 : 0 ≤ (fI u11 0 7).toInt ∧ (fI u11 0 7).toInt ≤ 1601 := by have h := MI_7 hJ; exact h
        have y0u11 : ((fI u11 0 7) : Int32).toInt ≤ ((fI u 0 3) : Int32).toInt := by have h : ((fI u11 0 7) : Int32).toInt ≤ (fI u11 0 3 : Int32).toInt := hx0u11; rw [show fI u11 0 3 = (fI u 0 3) from (Km27_I3 hT)] at h; exact h
        have g14 : 0 ≤ (fI u11 0 6).toInt ∧ (fI u11 0 6).toInt ≤ 1600 := by have h := MI_6 hJ; exact h
        have y1u11 : ((fI u11 0 6) : Int32).toInt ≤ ((fI u11 0 7) : Int32).toInt := by exact hx1u11
        have g15 : 0 ≤ (fI u11 0 8).toInt ∧ (fI u11 0 8).toInt ≤ 5 := by have h := MI_8 hJ; exact h
        have y2u11 : ((fI u11 0 8) : Int32).toInt = 0 ∨ ((fI u11 0 6) : Int32).toInt < ((fI u11 0 7) : Int32).toInt := by exact hx2u11
        have y3u11 : ((fI u 0 7) : Int32).toInt ≤ ((fI u11 0 6) : Int32).toInt := by exact hx3u11
        refine lv_iload_n hx hb dX11_known_44 rfl (lv_at hl 1 rfl) ?_
        refine bt_ge (tgt := 52) (X := (x1).toInt) hx hb dX11_known_45 (by decide) rfl (by omega) ?_
        refine lv_iload_n hx hb dX11_known_52 rfl (lv_at hl 1 rfl) ?_
        have q16 : ((fI u11 0 7) : Int32).toInt ≤ ((fI u 0 3) : Int32).toInt := by first | omega | decide
        have q17 : ((fI u11 0 6) : Int32).toInt ≤ ((fI u11 0 7) : Int32).toInt := by first | omega | decide
        have q18 : ((fI u11 0 8) : Int32).toInt = 0 ∨ ((fI u11 0 6) : Int32).toInt < ((fI u11 0 7) : Int32).toInt := by first | omega | decide
        have g19 : 0 ≤ (fI u 0 6).toInt ∧ (fI u 0 6).toInt ≤ 1600 := by have h := MI_6 hJ0; exact h
        have q20 : ((fI u 0 6) : Int32).toInt ≤ ((fI u11 0 6) : Int32).toInt := by first | omega | decide
        have q21 : ((fI u 0 4) : Int32).toInt = 0 ∨ ¬ ((fI u 0 4) : Int32).toInt = 0 := by first | omega | decide
        have q22 : ¬ ((fI u 0 4) : Int32).toInt = 0 ∨ 0 ≤ x1.toInt := by first | omega | decide
        refine hret _ _ _ _ _ _ dX11_known_53 rfl ?_ hO
        exact ⟨(by first | decide | omega), hJ, hT, (show ((fI u11 0 7) : Int32).toInt ≤ (fI u11 0 3 : Int32).toInt from by rw [show fI u11 0 3 = (fI u 0 3) from (Km27_I3 hT)]; first | done | exact q16), q17, q18, q20, (show ((fI u 0 4) : Int32).toInt = 0 ∨ ¬ (fI u11 0 4 : Int32).toInt = 0 from by rw [show fI u11 0 4 = (fI u 0 4) from (Km26_I4 hTu11)]; first | done | exact q21), (show ¬ (fI u11 0 4 : Int32).toInt = 0 ∨ 0 ≤ x1.toInt from by rw [show fI u11 0 4 = (fI u 0 4) from (Km26_I4 hTu11)]; first | done | exact q22)⟩
      · refine lv_aload_n hx hb dX11_known_28 rfl (lv_at hl 0 rfl) ?_
        refine lv_iconst (v := 5) hx hb dX11_known_29 (by decide) ?_
        refine lv_aload_n hx hb dX11_known_30 rfl (lv_at hl 0 rfl) ?_
        have g23 : 0 ≤ (fI u 0 6).toInt ∧ (fI u 0 6).toInt ≤ 1600 := by have h := MI_6 hJ0; exact h
        refine gf_RX11_201 (v := .int (fI u 0 6)) C hO 0 mW_0 rfl dX11_known_31 ?_
        refine cVv (w := mW cy a) (As := [.int 5, .int (fI u 0 6)]) (rest := []) C hO (T_X11_fails l D cy a _ (by exact hJ) (5) ((fI u 0 6)) (by first | omega | decide)) (cwV 2 ht (gV wd_1619 wd_1621 wd_55 wd_121 wd_1622) rfl rfl rfl hd_yX11_fails ⟨Nat.le_of_ble_eq_true rfl, Nat.le_of_ble_eq_true rfl⟩) 0 rfl mW_0 rfl rfl hl.1 (Nat.le_of_ble_eq_true rfl) dX11_known_34 rfl ⟨Nat.zero_le _, Nat.zero_le _⟩ (fun u25 H locs hp26 hO => ?_)
        obtain ⟨hJ, hTu25, hx0u25⟩ := hp26
        have hT : Km27 u u25 := Km27.tr (by exact hT) (Km25_to_Km27 hTu25)
        have g27 : 0 ≤ (fI u25 0 4).toInt ∧ (fI u25 0 4).toInt ≤ 5 := by have h := MI_4 hJ; exact h
        have y0u25 : ¬ ((fI u25 0 4) : Int32).toInt = 0 := by exact hx0u25
        refine lv_goto (tgt := 44) hx hb dX11_known_37 (by decide) ?_
        refine lv_iload_n hx hb dX11_known_44 rfl (lv_at hl 1 rfl) ?_
        refine bn_ge (X := (x1).toInt) hx hb dX11_known_45 rfl (by omega) ?_ (tgt := 52) (by decide)
        refine lv_iconst (v := 0) hx hb dX11_known_48 (by decide) ?_
        refine lv_goto (tgt := 53) hx hb dX11_known_49 (by decide) ?_
        have g28 : 0 ≤ (fI u 0 7).toInt ∧ (fI u 0 7).toInt ≤ 1601 := by have h := MI_7 hJ0; exact h
        have g29 : 0 ≤ (fI u 0 3).toInt ∧ (fI u 0 3).toInt ≤ 1600 := by have h := MI_3 hJ0; exact h
        have q30 : ((fI u 0 7) : Int32).toInt ≤ ((fI u 0 3) : Int32).toInt := by have zc0 : (0 : Int32).toInt = 0 := rfl; first | omega | decide
        have q31 : ((fI u 0 6) : Int32).toInt ≤ ((fI u 0 7) : Int32).toInt := by have zc0 : (0 : Int32).toInt = 0 := rfl; first | omega | decide
        have q32 : ((fI u 0 8) : Int32).toInt = 0 ∨ ((fI u 0 6) : Int32).toInt < ((fI u 0 7) : Int32).toInt := by have zc0 : (0 : Int32).toInt = 0 := rfl; first | omega | decide
        have q33 : ((fI u 0 6) : Int32).toInt ≤ ((fI u 0 6) : Int32).toInt := by have zc0 : (0 : Int32).toInt = 0 := rfl; first | omega | decide
        have q34 : ((fI u 0 4) : Int32).toInt = 0 ∨ ¬ ((fI u25 0 4) : Int32).toInt = 0 := by have zc0 : (0 : Int32).toInt = 0 := rfl; first | omega | decide
        have q35 : ¬ ((fI u25 0 4) : Int32).toInt = 0 ∨ 0 ≤ x1.toInt := by have zc0 : (0 : Int32).toInt = 0 := rfl; first | omega | decide
        refine hret _ _ _ _ _ _ dX11_known_53 rfl ?_ hO
        exact ⟨(by first | decide | omega), hJ, hT, (show (fI u25 0 7 : Int32).toInt ≤ (fI u25 0 3 : Int32).toInt from by rw [show fI u25 0 7 = (fI u 0 7) from (Km25_I7 hTu25), show fI u25 0 3 = (fI u 0 3) from (Km27_I3 hT)]; first | done | exact q30), (show (fI u25 0 6 : Int32).toInt ≤ (fI u25 0 7 : Int32).toInt from by rw [show fI u25 0 6 = (fI u 0 6) from (Km25_I6 hTu25), show fI u25 0 7 = (fI u 0 7) from (Km25_I7 hTu25)]; first | done | exact q31), (show (fI u25 0 8 : Int32).toInt = 0 ∨ (fI u25 0 6 : Int32).toInt < (fI u25 0 7 : Int32).toInt from by rw [show fI u25 0 8 = (fI u 0 8) from (Km25_I8 hTu25), show fI u25 0 6 = (fI u 0 6) from (Km25_I6 hTu25), show fI u25 0 7 = (fI u 0 7) from (Km25_I7 hTu25)]; first | done | exact q32), (show ((fI u 0 6) : Int32).toInt ≤ (fI u25 0 6 : Int32).toInt from by rw [show fI u25 0 6 = (fI u 0 6) from (Km25_I6 hTu25)]; first | done | exact q33), q34, q35⟩
    · refine lv_aload_n hx hb dX11_known_17 rfl (lv_at hl 0 rfl) ?_
      refine cVv (w := mW cy a) (As := []) (rest := []) C hO (T_X11_misplaced l D cy a _ (by exact hJ)) (cwV 0 ht (gV wd_1615 wd_1617 wd_54 wd_121 wd_1618) rfl rfl rfl hd_yX11_misplaced ⟨Nat.le_of_ble_eq_true rfl, Nat.le_of_ble_eq_true rfl⟩) 0 rfl mW_0 rfl rfl hl.1 (Nat.le_of_ble_eq_true rfl) dX11_known_18 rfl ⟨Nat.zero_le _, Nat.zero_le _⟩ (fun u37 H locs hp38 hO => ?_)
      obtain ⟨hJ, hTu37, hx0u37⟩ := hp38
      have hT : Km27 u u37 := Km27.tr (by exact hT) (Km25_to_Km27 hTu37)
      have g39 : 0 ≤ (fI u37 0 4).toInt ∧ (fI u37 0 4).toInt ≤ 5 := by have h := MI_4 hJ; exact h
      have y0u37 : ¬ ((fI u37 0 4) : Int32).toInt = 0 := by exact hx0u37
      refine lv_goto (tgt := 44) hx hb dX11_known_21 (by decide) ?_
      refine lv_iload_n hx hb dX11_known_44 rfl (lv_at hl 1 rfl) ?_
      refine bs_ge (tgt := 52) (X := (x1).toInt) hx hb dX11_known_45 (by decide) rfl (fun c40 => ?_) (fun c40 => ?_)
      · refine lv_iload_n hx hb dX11_known_52 rfl (lv_at hl 1 rfl) ?_
        have g41 : 0 ≤ (fI u 0 7).toInt ∧ (fI u 0 7).toInt ≤ 1601 := by have h := MI_7 hJ0; exact h
        have g42 : 0 ≤ (fI u 0 3).toInt ∧ (fI u 0 3).toInt ≤ 1600 := by have h := MI_3 hJ0; exact h
        have q43 : ((fI u 0 7) : Int32).toInt ≤ ((fI u 0 3) : Int32).toInt := by first | omega | decide
        have g44 : 0 ≤ (fI u 0 6).toInt ∧ (fI u 0 6).toInt ≤ 1600 := by have h := MI_6 hJ0; exact h
        have q45 : ((fI u 0 6) : Int32).toInt ≤ ((fI u 0 7) : Int32).toInt := by first | omega | decide
        have q46 : ((fI u 0 8) : Int32).toInt = 0 ∨ ((fI u 0 6) : Int32).toInt < ((fI u 0 7) : Int32).toInt := by first | omega | decide
        have q47 : ((fI u 0 6) : Int32).toInt ≤ ((fI u 0 6) : Int32).toInt := by first | omega | decide
        have q48 : ((fI u 0 4) : Int32).toInt = 0 ∨ ¬ ((fI u37 0 4) : Int32).toInt = 0 := by first | omega | decide
        have q49 : ¬ ((fI u37 0 4) : Int32).toInt = 0 ∨ 0 ≤ x1.toInt := by first | omega | decide
        refine hret _ _ _ _ _ _ dX11_known_53 rfl ?_ hO
        exact ⟨(by first | decide | omega), hJ, hT, (show (fI u37 0 7 : Int32).toInt ≤ (fI u37 0 3 : Int32).toInt from by rw [show fI u37 0 7 = (fI u 0 7) from (Km25_I7 hTu37), show fI u37 0 3 = (fI u 0 3) from (Km27_I3 hT)]; first | done | exact q43), (show (fI u37 0 6 : Int32).toInt ≤ (fI u37 0 7 : Int32).toInt from by rw [show fI u37 0 6 = (fI u 0 6) from (Km25_I6 hTu37), show fI u37 0 7 = (fI u 0 7) from (Km25_I7 hTu37)]; first | done | exact q45), (show (fI u37 0 8 : Int32).toInt = 0 ∨ (fI u37 0 6 : Int32).toInt < (fI u37 0 7 : Int32).toInt from by rw [show fI u37 0 8 = (fI u 0 8) from (Km25_I8 hTu37), show fI u37 0 6 = (fI u 0 6) from (Km25_I6 hTu37), show fI u37 0 7 = (fI u 0 7) from (Km25_I7 hTu37)]; first | done | exact q46), (show ((fI u 0 6) : Int32).toInt ≤ (fI u37 0 6 : Int32).toInt from by rw [show fI u37 0 6 = (fI u 0 6) from (Km25_I6 hTu37)]; first | done | exact q47), q48, q49⟩
      · refine lv_iconst (v := 0) hx hb dX11_known_48 (by decide) ?_
        refine lv_goto (tgt := 53) hx hb dX11_known_49 (by decide) ?_
        have g50 : 0 ≤ (fI u 0 7).toInt ∧ (fI u 0 7).toInt ≤ 1601 := by have h := MI_7 hJ0; exact h
        have g51 : 0 ≤ (fI u 0 3).toInt ∧ (fI u 0 3).toInt ≤ 1600 := by have h := MI_3 hJ0; exact h
        have q52 : ((fI u 0 7) : Int32).toInt ≤ ((fI u 0 3) : Int32).toInt := by have zc0 : (0 : Int32).toInt = 0 := rfl; first | omega | decide
        have g53 : 0 ≤ (fI u 0 6).toInt ∧ (fI u 0 6).toInt ≤ 1600 := by have h := MI_6 hJ0; exact h
        have q54 : ((fI u 0 6) : Int32).toInt ≤ ((fI u 0 7) : Int32).toInt := by have zc0 : (0 : Int32).toInt = 0 := rfl; first | omega | decide
        have q55 : ((fI u 0 8) : Int32).toInt = 0 ∨ ((fI u 0 6) : Int32).toInt < ((fI u 0 7) : Int32).toInt := by have zc0 : (0 : Int32).toInt = 0 := rfl; first | omega | decide
        have q56 : ((fI u 0 6) : Int32).toInt ≤ ((fI u 0 6) : Int32).toInt := by have zc0 : (0 : Int32).toInt = 0 := rfl; first | omega | decide
        have q57 : ((fI u 0 4) : Int32).toInt = 0 ∨ ¬ ((fI u37 0 4) : Int32).toInt = 0 := by have zc0 : (0 : Int32).toInt = 0 := rfl; first | omega | decide
        have q58 : ¬ ((fI u37 0 4) : Int32).toInt = 0 ∨ 0 ≤ x1.toInt := by have zc0 : (0 : Int32).toInt = 0 := rfl; first | omega | decide
        refine hret _ _ _ _ _ _ dX11_known_53 rfl ?_ hO
        exact ⟨(by first | decide | omega), hJ, hT, (show (fI u37 0 7 : Int32).toInt ≤ (fI u37 0 3 : Int32).toInt from by rw [show fI u37 0 7 = (fI u 0 7) from (Km25_I7 hTu37), show fI u37 0 3 = (fI u 0 3) from (Km27_I3 hT)]; first | done | exact q52), (show (fI u37 0 6 : Int32).toInt ≤ (fI u37 0 7 : Int32).toInt from by rw [show fI u37 0 6 = (fI u 0 6) from (Km25_I6 hTu37), show fI u37 0 7 = (fI u 0 7) from (Km25_I7 hTu37)]; first | done | exact q54), (show (fI u37 0 8 : Int32).toInt = 0 ∨ (fI u37 0 6 : Int32).toInt < (fI u37 0 7 : Int32).toInt from by rw [show fI u37 0 8 = (fI u 0 8) from (Km25_I8 hTu37), show fI u37 0 6 = (fI u 0 6) from (Km25_I6 hTu37), show fI u37 0 7 = (fI u 0 7) from (Km25_I7 hTu37)]; first | done | exact q55), (show ((fI u 0 6) : Int32).toInt ≤ (fI u37 0 6 : Int32).toInt from by rw [show fI u37 0 6 = (fI u 0 6) from (Km25_I6 hTu37)]; first | done | exact q56), q57, q58⟩
  · subst hvr2
    refine bn_ne (X := 0) hx hb dX11_known_4 rfl (by omega) ?_ (tgt := 9) (by decide)
    refine lv_iconst (v := 0) hx hb dX11_known_7 (by decide) ?_
    have g59 : 0 ≤ (fI u 0 7).toInt ∧ (fI u 0 7).toInt ≤ 1601 := by have h := MI_7 hJ0; exact h
    have g60 : 0 ≤ (fI u 0 3).toInt ∧ (fI u 0 3).toInt ≤ 1600 := by have h := MI_3 hJ0; exact h
    have q61 : ((fI u 0 7) : Int32).toInt ≤ ((fI u 0 3) : Int32).toInt := by have zc0 : (0 : Int32).toInt = 0 := rfl; first | omega | decide
    have g62 : 0 ≤ (fI u 0 6).toInt ∧ (fI u 0 6).toInt ≤ 1600 := by have h := MI_6 hJ0; exact h
    have q63 : ((fI u 0 6) : Int32).toInt ≤ ((fI u 0 7) : Int32).toInt := by have zc0 : (0 : Int32).toInt = 0 := rfl; first | omega | decide
    have g64 : 0 ≤ (fI u 0 8).toInt ∧ (fI u 0 8).toInt ≤ 5 := by have h := MI_8 hJ0; exact h
    have q65 : ((fI u 0 8) : Int32).toInt = 0 ∨ ((fI u 0 6) : Int32).toInt < ((fI u 0 7) : Int32).toInt := by have zc0 : (0 : Int32).toInt = 0 := rfl; first | omega | decide
    have q66 : ((fI u 0 6) : Int32).toInt ≤ ((fI u 0 6) : Int32).toInt := by have zc0 : (0 : Int32).toInt = 0 := rfl; first | omega | decide
    have q67 : ((fI u 0 4) : Int32).toInt = 0 ∨ ¬ ((fI u 0 4) : Int32).toInt = 0 := by have zc0 : (0 : Int32).toInt = 0 := rfl; first | omega | decide
    have q68 : ¬ ((fI u 0 4) : Int32).toInt = 0 ∨ 0 ≤ x1.toInt := by have zc0 : (0 : Int32).toInt = 0 := rfl; first | omega | decide
    refine hret _ _ _ _ _ _ dX11_known_8 rfl ?_ hO
    exact ⟨(by first | decide | omega), hJ, hT, q61, q63, q65, q66, q67, q68⟩
def Km28 (u v : St) : Prop := fI v 0 2 = fI u 0 2 ∧ fI v 0 3 = fI u 0 3 ∧ fI v 0 36 = fI u 0 36 ∧ fI v 0 37 = fI u 0 37 ∧ fI v 0 38 = fI u 0 38 ∧ fI v 0 39 = fI u 0 39 ∧ fI v 0 40 = fI u 0 40 ∧ fI v 0 41 = fI u 0 41 ∧ fI v 0 42 = fI u 0 42 ∧ fI v 0 43 = fI u 0 43 ∧ fI v 0 45 = fI u 0 45 ∧ fI v 0 47 = fI u 0 47 ∧ fI v 0 48 = fI u 0 48 ∧ fI v 0 50 = fI u 0 50 ∧ fI v 0 61 = fI u 0 61 ∧ fI v 0 62 = fI u 0 62 ∧ fA v 1 = fA u 1 ∧ fA v 2 = fA u 2 ∧ fA v 3 = fA u 3 ∧ fA v 4 = fA u 4 ∧ fA v 5 = fA u 5 ∧ fA v 6 = fA u 6 ∧ fA v 7 = fA u 7 ∧ fA v 8 = fA u 8 ∧ fA v 9 = fA u 9 ∧ fA v 10 = fA u 10 ∧ fA v 12 = fA u 12 ∧ fA v 13 = fA u 13 ∧ fA v 14 = fA u 14 ∧ fA v 15 = fA u 15 ∧ fA v 16 = fA u 16 ∧ fA v 17 = fA u 17 ∧ fA v 18 = fA u 18 ∧ fA v 19 = fA u 19 ∧ fJ v 20 = fJ u 20 ∧ fJ v 21 = fJ u 21 ∧ fJ v 22 = fJ u 22 ∧ fA v 23 = fA u 23 ∧ fA v 24 = fA u 24 ∧ fA v 25 = fA u 25 ∧ fA v 26 = fA u 26 ∧ fA v 27 = fA u 27 ∧ fA v 28 = fA u 28 ∧ fA v 29 = fA u 29 ∧ fA v 30 = fA u 30 ∧ fA v 31 = fA u 31 ∧ fA v 32 = fA u 32 ∧ fA v 33 = fA u 33 ∧ fA v 34 = fA u 34 ∧ fA v 35 = fA u 35 ∧ fA v 36 = fA u 36 ∧ fA v 37 = fA u 37 ∧ fA v 38 = fA u 38 ∧ fA v 39 = fA u 39 ∧ fA v 40 = fA u 40 ∧ fA v 41 = fA u 41 ∧ fA v 42 = fA u 42
theorem Km28.rf {u : St} : Km28 u u := ⟨rfl, rfl, rfl, rfl, rfl, rfl, rfl, rfl, rfl, rfl, rfl, rfl, rfl, rfl, rfl, rfl, rfl, rfl, rfl, rfl, rfl, rfl, rfl, rfl, rfl, rfl, rfl, rfl, rfl, rfl, rfl, rfl, rfl, rfl, rfl, rfl, rfl, rfl, rfl, rfl, rfl, rfl, rfl, rfl, rfl, rfl, rfl, rfl, rfl, rfl, rfl, rfl, rfl, rfl, rfl, rfl, rfl⟩
theorem Km28.tr {u v w : St} (h1 : Km28 u v) (h2 : Km28 v w) : Km28 u w := ⟨(h2.1).trans h1.1, (h2.2.1).trans h1.2.1, (h2.2.2.1).trans h1.2.2.1, (h2.2.2.2.1).trans h1.2.2.2.1, (h2.2.2.2.2.1).trans h1.2.2.2.2.1, (h2.2.2.2.2.2.1).trans h1.2.2.2.2.2.1, (h2.2.2.2.2.2.2.1).trans h1.2.2.2.2.2.2.1, (h2.2.2.2.2.2.2.2.1).trans h1.2.2.2.2.2.2.2.1, (h2.2.2.2.2.2.2.2.2.1).trans h1.2.2.2.2.2.2.2.2.1, (h2.2.2.2.2.2.2.2.2.2.1).trans h1.2.2.2.2.2.2.2.2.2.1, (h2.2.2.2.2.2.2.2.2.2.2.1).trans h1.2.2.2.2.2.2.2.2.2.2.1, (h2.2.2.2.2.2.2.2.2.2.2.2.1).trans h1.2.2.2.2.2.2.2.2.2.2.2.1, (h2.2.2.2.2.2.2.2.2.2.2.2.2.1).trans h1.2.2.2.2.2.2.2.2.2.2.2.2.1, (h2.2.2.2.2.2.2.2.2.2.2.2.2.2.1).trans h1.2.2.2.2.2.2.2.2.2.2.2.2.2.1, (h2.2.2.2.2.2.2.2.2.2.2.2.2.2.2.1).trans h1.2.2.2.2.2.2.2.2.2.2.2.2.2.2.1, (h2.2.2.2.2.2.2.2.2.2.2.2.2.2.2.2.1).trans h1.2.2.2.2.2.2.2.2.2.2.2.2.2.2.2.1, (h2.2.2.2.2.2.2.2.2.2.2.2.2.2.2.2.2.1).trans h1.2.2.2.2.2.2.2.2.2.2.2.2.2.2.2.2.1, (h2.2.2.2.2.2.2.2.2.2.2.2.2.2.2.2.2.2.1).trans h1.2.2.2.2.2.2.2.2.2.2.2.2.2.2.2.2.2.1, (h2.2.2.2.2.2.2.2.2.2.2.2.2.2.2.2.2.2.2.1).trans h1.2.2.2.2.2.2.2.2.2.2.2.2.2.2.2.2.2.2.1, (h2.2.2.2.2.2.2.2.2.2.2.2.2.2.2.2.2.2.2.2.1).trans h1.2.2.2.2.2.2.2.2.2.2.2.2.2.2.2.2.2.2.2.1, (h2.2.2.2.2.2.2.2.2.2.2.2.2.2.2.2.2.2.2.2.2.1).trans h1.2.2.2.2.2.2.2.2.2.2.2.2.2.2.2.2.2.2.2.2.1, (h2.2.2.2.2.2.2.2.2.2.2.2.2.2.2.2.2.2.2.2.2.2.1).trans h1.2.2.2.2.2.2.2.2.2.2.2.2.2.2.2.2.2.2.2.2.2.1, (h2.2.2.2.2.2.2.2.2.2.2.2.2.2.2.2.2.2.2.2.2.2.2.1).trans h1.2.2.2.2.2.2.2.2.2.2.2.2.2.2.2.2.2.2.2.2.2.2.1, (h2.2.2.2.2.2.2.2.2.2.2.2.2.2.2.2.2.2.2.2.2.2.2.2.1).trans h1.2.2.2.2.2.2.2.2.2.2.2.2.2.2.2.2.2.2.2.2.2.2.2.1, (h2.2.2.2.2.2.2.2.2.2.2.2.2.2.2.2.2.2.2.2.2.2.2.2.2.1).trans h1.2.2.2.2.2.2.2.2.2.2.2.2.2.2.2.2.2.2.2.2.2.2.2.2.1, (h2.2.2.2.2.2.2.2.2.2.2.2.2.2.2.2.2.2.2.2.2.2.2.2.2.2.1).trans h1.2.2.2.2.2.2.2.2.2.2.2.2.2.2.2.2.2.2.2.2.2.2.2.2.2.1, (h2.2.2.2.2.2.2.2.2.2.2.2.2.2.2.2.2.2.2.2.2.2.2.2.2.2.2.1).trans h1.2.2.2.2.2.2.2.2.2.2.2.2.2.2.2.2.2.2.2.2.2.2.2.2.2.2.1, (h2.2.2.2.2.2.2.2.2.2.2.2.2.2.2.2.2.2.2.2.2.2.2.2.2.2.2.2.1).trans h1.2.2.2.2.2.2.2.2.2.2.2.2.2.2.2.2.2.2.2.2.2.2.2.2.2.2.2.1, (h2.2.2.2.2.2.2.2.2.2.2.2.2.2.2.2.2.2.2.2.2.2.2.2.2.2.2.2.2.1).trans h1.2.2.2.2.2.2.2.2.2.2.2.2.2.2.2.2.2.2.2.2.2.2.2.2.2.2.2.2.1, (h2.2.2.2.2.2.2.2.2.2.2.2.2.2.2.2.2.2.2.2.2.2.2.2.2.2.2.2.2.2.1).trans h1.2.2.2.2.2.2.2.2.2.2.2.2.2.2.2.2.2.2.2.2.2.2.2.2.2.2.2.2.2.1, (h2.2.2.2.2.2.2.2.2.2.2.2.2.2.2.2.2.2.2.2.2.2.2.2.2.2.2.2.2.2.2.1).trans h1.2.2.2.2.2.2.2.2.2.2.2.2.2.2.2.2.2.2.2.2.2.2.2.2.2.2.2.2.2.2.1, (h2.2.2.2.2.2.2.2.2.2.2.2.2.2.2.2.2.2.2.2.2.2.2.2.2.2.2.2.2.2.2.2.1).trans h1.2.2.2.2.2.2.2.2.2.2.2.2.2.2.2.2.2.2.2.2.2.2.2.2.2.2.2.2.2.2.2.1, (h2.2.2.2.2.2.2.2.2.2.2.2.2.2.2.2.2.2.2.2.2.2.2.2.2.2.2.2.2.2.2.2.2.1).trans h1.2.2.2.2.2.2.2.2.2.2.2.2.2.2.2.2.2.2.2.2.2.2.2.2.2.2.2.2.2.2.2.2.1, (h2.2.2.2.2.2.2.2.2.2.2.2.2.2.2.2.2.2.2.2.2.2.2.2.2.2.2.2.2.2.2.2.2.2.1).trans h1.2.2.2.2.2.2.2.2.2.2.2.2.2.2.2.2.2.2.2.2.2.2.2.2.2.2.2.2.2.2.2.2.2.1, (h2.2.2.2.2.2.2.2.2.2.2.2.2.2.2.2.2.2.2.2.2.2.2.2.2.2.2.2.2.2.2.2.2.2.2.1).trans h1.2.2.2.2.2.2.2.2.2.2.2.2.2.2.2.2.2.2.2.2.2.2.2.2.2.2.2.2.2.2.2.2.2.2.1, (h2.2.2.2.2.2.2.2.2.2.2.2.2.2.2.2.2.2.2.2.2.2.2.2.2.2.2.2.2.2.2.2.2.2.2.2.1).trans h1.2.2.2.2.2.2.2.2.2.2.2.2.2.2.2.2.2.2.2.2.2.2.2.2.2.2.2.2.2.2.2.2.2.2.2.1, (h2.2.2.2.2.2.2.2.2.2.2.2.2.2.2.2.2.2.2.2.2.2.2.2.2.2.2.2.2.2.2.2.2.2.2.2.2.1).trans h1.2.2.2.2.2.2.2.2.2.2.2.2.2.2.2.2.2.2.2.2.2.2.2.2.2.2.2.2.2.2.2.2.2.2.2.2.1, (h2.2.2.2.2.2.2.2.2.2.2.2.2.2.2.2.2.2.2.2.2.2.2.2.2.2.2.2.2.2.2.2.2.2.2.2.2.2.1).trans h1.2.2.2.2.2.2.2.2.2.2.2.2.2.2.2.2.2.2.2.2.2.2.2.2.2.2.2.2.2.2.2.2.2.2.2.2.2.1, (h2.2.2.2.2.2.2.2.2.2.2.2.2.2.2.2.2.2.2.2.2.2.2.2.2.2.2.2.2.2.2.2.2.2.2.2.2.2.2.1).trans h1.2.2.2.2.2.2.2.2.2.2.2.2.2.2.2.2.2.2.2.2.2.2.2.2.2.2.2.2.2.2.2.2.2.2.2.2.2.2.1, (h2.2.2.2.2.2.2.2.2.2.2.2.2.2.2.2.2.2.2.2.2.2.2.2.2.2.2.2.2.2.2.2.2.2.2.2.2.2.2.2.1).trans h1.2.2.2.2.2.2.2.2.2.2.2.2.2.2.2.2.2.2.2.2.2.2.2.2.2.2.2.2.2.2.2.2.2.2.2.2.2.2.2.1, (h2.2.2.2.2.2.2.2.2.2.2.2.2.2.2.2.2.2.2.2.2.2.2.2.2.2.2.2.2.2.2.2.2.2.2.2.2.2.2.2.2.1).trans h1.2.2.2.2.2.2.2.2.2.2.2.2.2.2.2.2.2.2.2.2.2.2.2.2.2.2.2.2.2.2.2.2.2.2.2.2.2.2.2.2.1, (h2.2.2.2.2.2.2.2.2.2.2.2.2.2.2.2.2.2.2.2.2.2.2.2.2.2.2.2.2.2.2.2.2.2.2.2.2.2.2.2.2.2.1).trans h1.2.2.2.2.2.2.2.2.2.2.2.2.2.2.2.2.2.2.2.2.2.2.2.2.2.2.2.2.2.2.2.2.2.2.2.2.2.2.2.2.2.1, (h2.2.2.2.2.2.2.2.2.2.2.2.2.2.2.2.2.2.2.2.2.2.2.2.2.2.2.2.2.2.2.2.2.2.2.2.2.2.2.2.2.2.2.1).trans h1.2.2.2.2.2.2.2.2.2.2.2.2.2.2.2.2.2.2.2.2.2.2.2.2.2.2.2.2.2.2.2.2.2.2.2.2.2.2.2.2.2.2.1, (h2.2.2.2.2.2.2.2.2.2.2.2.2.2.2.2.2.2.2.2.2.2.2.2.2.2.2.2.2.2.2.2.2.2.2.2.2.2.2.2.2.2.2.2.1).trans h1.2.2.2.2.2.2.2.2.2.2.2.2.2.2.2.2.2.2.2.2.2.2.2.2.2.2.2.2.2.2.2.2.2.2.2.2.2.2.2.2.2.2.2.1, (h2.2.2.2.2.2.2.2.2.2.2.2.2.2.2.2.2.2.2.2.2.2.2.2.2.2.2.2.2.2.2.2.2.2.2.2.2.2.2.2.2.2.2.2.2.1).trans h1.2.2.2.2.2.2.2.2.2.2.2.2.2.2.2.2.2.2.2.2.2.2.2.2.2.2.2.2.2.2.2.2.2.2.2.2.2.2.2.2.2.2.2.2.1, (h2.2.2.2.2.2.2.2.2.2.2.2.2.2.2.2.2.2.2.2.2.2.2.2.2.2.2.2.2.2.2.2.2.2.2.2.2.2.2.2.2.2.2.2.2.2.1).trans h1.2.2.2.2.2.2.2.2.2.2.2.2.2.2.2.2.2.2.2.2.2.2.2.2.2.2.2.2.2.2.2.2.2.2.2.2.2.2.2.2.2.2.2.2.2.1, (h2.2.2.2.2.2.2.2.2.2.2.2.2.2.2.2.2.2.2.2.2.2.2.2.2.2.2.2.2.2.2.2.2.2.2.2.2.2.2.2.2.2.2.2.2.2.2.1).trans h1.2.2.2.2.2.2.2.2.2.2.2.2.2.2.2.2.2.2.2.2.2.2.2.2.2.2.2.2.2.2.2.2.2.2.2.2.2.2.2.2.2.2.2.2.2.2.1, (h2.2.2.2.2.2.2.2.2.2.2.2.2.2.2.2.2.2.2.2.2.2.2.2.2.2.2.2.2.2.2.2.2.2.2.2.2.2.2.2.2.2.2.2.2.2.2.2.1).trans h1.2.2.2.2.2.2.2.2.2.2.2.2.2.2.2.2.2.2.2.2.2.2.2.2.2.2.2.2.2.2.2.2.2.2.2.2.2.2.2.2.2.2.2.2.2.2.2.1, (h2.2.2.2.2.2.2.2.2.2.2.2.2.2.2.2.2.2.2.2.2.2.2.2.2.2.2.2.2.2.2.2.2.2.2.2.2.2.2.2.2.2.2.2.2.2.2.2.2.1).trans h1.2.2.2.2.2.2.2.2.2.2.2.2.2.2.2.2.2.2.2.2.2.2.2.2.2.2.2.2.2.2.2.2.2.2.2.2.2.2.2.2.2.2.2.2.2.2.2.2.1, (h2.2.2.2.2.2.2.2.2.2.2.2.2.2.2.2.2.2.2.2.2.2.2.2.2.2.2.2.2.2.2.2.2.2.2.2.2.2.2.2.2.2.2.2.2.2.2.2.2.2.1).trans h1.2.2.2.2.2.2.2.2.2.2.2.2.2.2.2.2.2.2.2.2.2.2.2.2.2.2.2.2.2.2.2.2.2.2.2.2.2.2.2.2.2.2.2.2.2.2.2.2.2.1, (h2.2.2.2.2.2.2.2.2.2.2.2.2.2.2.2.2.2.2.2.2.2.2.2.2.2.2.2.2.2.2.2.2.2.2.2.2.2.2.2.2.2.2.2.2.2.2.2.2.2.2.1).trans h1.2.2.2.2.2.2.2.2.2.2.2.2.2.2.2.2.2.2.2.2.2.2.2.2.2.2.2.2.2.2.2.2.2.2.2.2.2.2.2.2.2.2.2.2.2.2.2.2.2.2.1, (h2.2.2.2.2.2.2.2.2.2.2.2.2.2.2.2.2.2.2.2.2.2.2.2.2.2.2.2.2.2.2.2.2.2.2.2.2.2.2.2.2.2.2.2.2.2.2.2.2.2.2.2.1).trans h1.2.2.2.2.2.2.2.2.2.2.2.2.2.2.2.2.2.2.2.2.2.2.2.2.2.2.2.2.2.2.2.2.2.2.2.2.2.2.2.2.2.2.2.2.2.2.2.2.2.2.2.1, (h2.2.2.2.2.2.2.2.2.2.2.2.2.2.2.2.2.2.2.2.2.2.2.2.2.2.2.2.2.2.2.2.2.2.2.2.2.2.2.2.2.2.2.2.2.2.2.2.2.2.2.2.2.1).trans h1.2.2.2.2.2.2.2.2.2.2.2.2.2.2.2.2.2.2.2.2.2.2.2.2.2.2.2.2.2.2.2.2.2.2.2.2.2.2.2.2.2.2.2.2.2.2.2.2.2.2.2.2.1, (h2.2.2.2.2.2.2.2.2.2.2.2.2.2.2.2.2.2.2.2.2.2.2.2.2.2.2.2.2.2.2.2.2.2.2.2.2.2.2.2.2.2.2.2.2.2.2.2.2.2.2.2.2.2.1).trans h1.2.2.2.2.2.2.2.2.2.2.2.2.2.2.2.2.2.2.2.2.2.2.2.2.2.2.2.2.2.2.2.2.2.2.2.2.2.2.2.2.2.2.2.2.2.2.2.2.2.2.2.2.2.1, (h2.2.2.2.2.2.2.2.2.2.2.2.2.2.2.2.2.2.2.2.2.2.2.2.2.2.2.2.2.2.2.2.2.2.2.2.2.2.2.2.2.2.2.2.2.2.2.2.2.2.2.2.2.2.2.1).trans h1.2.2.2.2.2.2.2.2.2.2.2.2.2.2.2.2.2.2.2.2.2.2.2.2.2.2.2.2.2.2.2.2.2.2.2.2.2.2.2.2.2.2.2.2.2.2.2.2.2.2.2.2.2.2.1, (h2.2.2.2.2.2.2.2.2.2.2.2.2.2.2.2.2.2.2.2.2.2.2.2.2.2.2.2.2.2.2.2.2.2.2.2.2.2.2.2.2.2.2.2.2.2.2.2.2.2.2.2.2.2.2.2.1).trans h1.2.2.2.2.2.2.2.2.2.2.2.2.2.2.2.2.2.2.2.2.2.2.2.2.2.2.2.2.2.2.2.2.2.2.2.2.2.2.2.2.2.2.2.2.2.2.2.2.2.2.2.2.2.2.2.1, (h2.2.2.2.2.2.2.2.2.2.2.2.2.2.2.2.2.2.2.2.2.2.2.2.2.2.2.2.2.2.2.2.2.2.2.2.2.2.2.2.2.2.2.2.2.2.2.2.2.2.2.2.2.2.2.2.2).trans h1.2.2.2.2.2.2.2.2.2.2.2.2.2.2.2.2.2.2.2.2.2.2.2.2.2.2.2.2.2.2.2.2.2.2.2.2.2.2.2.2.2.2.2.2.2.2.2.2.2.2.2.2.2.2.2.2⟩
theorem dX11_once_0 : decode cX11_once 0 = .ok (.aload_n 0, 1) := by decide +kernel
theorem dX11_once_1 : decode cX11_once 1 = .ok (.getfield 45, 3) := by decide +kernel
theorem dX11_once_4 : decode cX11_once 4 = .ok (.aload_n 0, 1) := by decide +kernel
theorem dX11_once_5 : decode cX11_once 5 = .ok (.getfield 246, 3) := by decide +kernel
theorem dX11_once_8 : decode cX11_once 8 = .ok (.dup2, 1) := by decide +kernel
theorem dX11_once_9 : decode cX11_once 9 = .ok (.iaload, 1) := by decide +kernel
theorem dX11_once_10 : decode cX11_once 10 = .ok (.iconst 1, 1) := by decide +kernel
theorem dX11_once_11 : decode cX11_once 11 = .ok (.iload_n 1, 1) := by decide +kernel
theorem dX11_once_12 : decode cX11_once 12 = .ok (.ishl, 1) := by decide +kernel
theorem dX11_once_13 : decode cX11_once 13 = .ok (.ior, 1) := by decide +kernel
theorem dX11_once_14 : decode cX11_once 14 = .ok (.iastore, 1) := by decide +kernel
theorem dX11_once_15 : decode cX11_once 15 = .ok (.aload_n 0, 1) := by decide +kernel
theorem dX11_once_16 : decode cX11_once 16 = .ok (.iconst 0, 1) := by decide +kernel
theorem dX11_once_17 : decode cX11_once 17 = .ok (.iload_n 2, 1) := by decide +kernel
theorem dX11_once_18 : decode cX11_once 18 = .ok (.invokevirtual 268, 3) := by decide +kernel
theorem dX11_once_21 : decode cX11_once 21 = .ok (.ireturn, 1) := by decide +kernel
theorem wd_1709 : (Cond.code ⟨"WebCourtModel", "once", "(II)I"⟩ prog_13_method_18_code (3 : Nat) (Option.some FieldType.int)) ∈ gtb := gtb_c7 160 (by decide +kernel) rfl
theorem Km28_wA11 {u v : St} {D : va_G} {A : Nat → Prop} {cy : Nat → ClassId} {a : Nat → Nat} {hp H : Heap} {locs : List Loc} {f : Nat → Int32} (_ : Wo D A (mW cy a (sA v 11 f)) hp H locs) (h : Km28 u v) : Km28 u (sA v 11 f) := ⟨h.1, h.2.1, h.2.2.1, h.2.2.2.1, h.2.2.2.2.1, h.2.2.2.2.2.1, h.2.2.2.2.2.2.1, h.2.2.2.2.2.2.2.1, h.2.2.2.2.2.2.2.2.1, h.2.2.2.2.2.2.2.2.2.1, h.2.2.2.2.2.2.2.2.2.2.1, h.2.2.2.2.2.2.2.2.2.2.2.1, h.2.2.2.2.2.2.2.2.2.2.2.2.1, h.2.2.2.2.2.2.2.2.2.2.2.2.2.1, h.2.2.2.2.2.2.2.2.2.2.2.2.2.2.1, h.2.2.2.2.2.2.2.2.2.2.2.2.2.2.2.1, h.2.2.2.2.2.2.2.2.2.2.2.2.2.2.2.2.1, h.2.2.2.2.2.2.2.2.2.2.2.2.2.2.2.2.2.1, h.2.2.2.2.2.2.2.2.2.2.2.2.2.2.2.2.2.2.1, h.2.2.2.2.2.2.2.2.2.2.2.2.2.2.2.2.2.2.2.1, h.2.2.2.2.2.2.2.2.2.2.2.2.2.2.2.2.2.2.2.2.1, h.2.2.2.2.2.2.2.2.2.2.2.2.2.2.2.2.2.2.2.2.2.1, h.2.2.2.2.2.2.2.2.2.2.2.2.2.2.2.2.2.2.2.2.2.2.1, h.2.2.2.2.2.2.2.2.2.2.2.2.2.2.2.2.2.2.2.2.2.2.2.1, h.2.2.2.2.2.2.2.2.2.2.2.2.2.2.2.2.2.2.2.2.2.2.2.2.1, h.2.2.2.2.2.2.2.2.2.2.2.2.2.2.2.2.2.2.2.2.2.2.2.2.2.1, h.2.2.2.2.2.2.2.2.2.2.2.2.2.2.2.2.2.2.2.2.2.2.2.2.2.2.1, h.2.2.2.2.2.2.2.2.2.2.2.2.2.2.2.2.2.2.2.2.2.2.2.2.2.2.2.1, h.2.2.2.2.2.2.2.2.2.2.2.2.2.2.2.2.2.2.2.2.2.2.2.2.2.2.2.2.1, h.2.2.2.2.2.2.2.2.2.2.2.2.2.2.2.2.2.2.2.2.2.2.2.2.2.2.2.2.2.1, h.2.2.2.2.2.2.2.2.2.2.2.2.2.2.2.2.2.2.2.2.2.2.2.2.2.2.2.2.2.2.1, h.2.2.2.2.2.2.2.2.2.2.2.2.2.2.2.2.2.2.2.2.2.2.2.2.2.2.2.2.2.2.2.1, h.2.2.2.2.2.2.2.2.2.2.2.2.2.2.2.2.2.2.2.2.2.2.2.2.2.2.2.2.2.2.2.2.1, h.2.2.2.2.2.2.2.2.2.2.2.2.2.2.2.2.2.2.2.2.2.2.2.2.2.2.2.2.2.2.2.2.2.1, h.2.2.2.2.2.2.2.2.2.2.2.2.2.2.2.2.2.2.2.2.2.2.2.2.2.2.2.2.2.2.2.2.2.2.1, h.2.2.2.2.2.2.2.2.2.2.2.2.2.2.2.2.2.2.2.2.2.2.2.2.2.2.2.2.2.2.2.2.2.2.2.1, h.2.2.2.2.2.2.2.2.2.2.2.2.2.2.2.2.2.2.2.2.2.2.2.2.2.2.2.2.2.2.2.2.2.2.2.2.1, h.2.2.2.2.2.2.2.2.2.2.2.2.2.2.2.2.2.2.2.2.2.2.2.2.2.2.2.2.2.2.2.2.2.2.2.2.2.1, h.2.2.2.2.2.2.2.2.2.2.2.2.2.2.2.2.2.2.2.2.2.2.2.2.2.2.2.2.2.2.2.2.2.2.2.2.2.2.1, h.2.2.2.2.2.2.2.2.2.2.2.2.2.2.2.2.2.2.2.2.2.2.2.2.2.2.2.2.2.2.2.2.2.2.2.2.2.2.2.1, h.2.2.2.2.2.2.2.2.2.2.2.2.2.2.2.2.2.2.2.2.2.2.2.2.2.2.2.2.2.2.2.2.2.2.2.2.2.2.2.2.1, h.2.2.2.2.2.2.2.2.2.2.2.2.2.2.2.2.2.2.2.2.2.2.2.2.2.2.2.2.2.2.2.2.2.2.2.2.2.2.2.2.2.1, h.2.2.2.2.2.2.2.2.2.2.2.2.2.2.2.2.2.2.2.2.2.2.2.2.2.2.2.2.2.2.2.2.2.2.2.2.2.2.2.2.2.2.1, h.2.2.2.2.2.2.2.2.2.2.2.2.2.2.2.2.2.2.2.2.2.2.2.2.2.2.2.2.2.2.2.2.2.2.2.2.2.2.2.2.2.2.2.1, h.2.2.2.2.2.2.2.2.2.2.2.2.2.2.2.2.2.2.2.2.2.2.2.2.2.2.2.2.2.2.2.2.2.2.2.2.2.2.2.2.2.2.2.2.1, h.2.2.2.2.2.2.2.2.2.2.2.2.2.2.2.2.2.2.2.2.2.2.2.2.2.2.2.2.2.2.2.2.2.2.2.2.2.2.2.2.2.2.2.2.2.1, h.2.2.2.2.2.2.2.2.2.2.2.2.2.2.2.2.2.2.2.2.2.2.2.2.2.2.2.2.2.2.2.2.2.2.2.2.2.2.2.2.2.2.2.2.2.2.1, h.2.2.2.2.2.2.2.2.2.2.2.2.2.2.2.2.2.2.2.2.2.2.2.2.2.2.2.2.2.2.2.2.2.2.2.2.2.2.2.2.2.2.2.2.2.2.2.1, h.2.2.2.2.2.2.2.2.2.2.2.2.2.2.2.2.2.2.2.2.2.2.2.2.2.2.2.2.2.2.2.2.2.2.2.2.2.2.2.2.2.2.2.2.2.2.2.2.1, h.2.2.2.2.2.2.2.2.2.2.2.2.2.2.2.2.2.2.2.2.2.2.2.2.2.2.2.2.2.2.2.2.2.2.2.2.2.2.2.2.2.2.2.2.2.2.2.2.2.1, h.2.2.2.2.2.2.2.2.2.2.2.2.2.2.2.2.2.2.2.2.2.2.2.2.2.2.2.2.2.2.2.2.2.2.2.2.2.2.2.2.2.2.2.2.2.2.2.2.2.2.1, h.2.2.2.2.2.2.2.2.2.2.2.2.2.2.2.2.2.2.2.2.2.2.2.2.2.2.2.2.2.2.2.2.2.2.2.2.2.2.2.2.2.2.2.2.2.2.2.2.2.2.2.1, h.2.2.2.2.2.2.2.2.2.2.2.2.2.2.2.2.2.2.2.2.2.2.2.2.2.2.2.2.2.2.2.2.2.2.2.2.2.2.2.2.2.2.2.2.2.2.2.2.2.2.2.2.1, h.2.2.2.2.2.2.2.2.2.2.2.2.2.2.2.2.2.2.2.2.2.2.2.2.2.2.2.2.2.2.2.2.2.2.2.2.2.2.2.2.2.2.2.2.2.2.2.2.2.2.2.2.2.1, h.2.2.2.2.2.2.2.2.2.2.2.2.2.2.2.2.2.2.2.2.2.2.2.2.2.2.2.2.2.2.2.2.2.2.2.2.2.2.2.2.2.2.2.2.2.2.2.2.2.2.2.2.2.2.1, h.2.2.2.2.2.2.2.2.2.2.2.2.2.2.2.2.2.2.2.2.2.2.2.2.2.2.2.2.2.2.2.2.2.2.2.2.2.2.2.2.2.2.2.2.2.2.2.2.2.2.2.2.2.2.2.1, h.2.2.2.2.2.2.2.2.2.2.2.2.2.2.2.2.2.2.2.2.2.2.2.2.2.2.2.2.2.2.2.2.2.2.2.2.2.2.2.2.2.2.2.2.2.2.2.2.2.2.2.2.2.2.2.2⟩
theorem wd_1655 : (Cond.methodLink "WebCourtModel" (268 : Nat) ⟨"WebCourtModel", "numeral", "(II)I"⟩) ∈ gtb := gtb_c7 106 (by decide +kernel) rfl
theorem wd_1657 : (Cond.instanceMethod ⟨"WebCourtModel", "numeral", "(II)I"⟩) ∈ gtb := gtb_c7 108 (by decide +kernel) rfl
theorem wd_64 : (Cond.selects "WebCourtModel" ⟨"WebCourtModel", "numeral", "(II)I"⟩ ⟨"WebCourtModel", "numeral", "(II)I"⟩) ∈ gtb := gtb_p 64 (by decide +kernel) rfl
theorem hd_yX11_numeral : yX11_numeral.cls = RX11 ∧ yX11_numeral.cls ≠ "java/lang/invoke/MethodHandle" ∧ yX11_numeral.cls ≠ "java/lang/invoke/VarHandle" ∧ (parseMethodDescriptor yX11_numeral.desc).map (fun d => d.parameters.length) = some 2 := by decide +kernel
theorem Km27_to_Km28 {u v : St} (h : Km27 u v) : Km28 u v := ⟨h.1, h.2.1, h.2.2.1, h.2.2.2.1, h.2.2.2.2.1, h.2.2.2.2.2.1, h.2.2.2.2.2.2.1, h.2.2.2.2.2.2.2.1, h.2.2.2.2.2.2.2.2.1, h.2.2.2.2.2.2.2.2.2.1, h.2.2.2.2.2.2.2.2.2.2.1, h.2.2.2.2.2.2.2.2.2.2.2.1, h.2.2.2.2.2.2.2.2.2.2.2.2.1, h.2.2.2.2.2.2.2.2.2.2.2.2.2.1, h.2.2.2.2.2.2.2.2.2.2.2.2.2.2.1, h.2.2.2.2.2.2.2.2.2.2.2.2.2.2.2.1, h.2.2.2.2.2.2.2.2.2.2.2.2.2.2.2.2.1, h.2.2.2.2.2.2.2.2.2.2.2.2.2.2.2.2.2.1, h.2.2.2.2.2.2.2.2.2.2.2.2.2.2.2.2.2.2.1, h.2.2.2.2.2.2.2.2.2.2.2.2.2.2.2.2.2.2.2.1, h.2.2.2.2.2.2.2.2.2.2.2.2.2.2.2.2.2.2.2.2.1, h.2.2.2.2.2.2.2.2.2.2.2.2.2.2.2.2.2.2.2.2.2.1, h.2.2.2.2.2.2.2.2.2.2.2.2.2.2.2.2.2.2.2.2.2.2.1, h.2.2.2.2.2.2.2.2.2.2.2.2.2.2.2.2.2.2.2.2.2.2.2.1, h.2.2.2.2.2.2.2.2.2.2.2.2.2.2.2.2.2.2.2.2.2.2.2.2.1, h.2.2.2.2.2.2.2.2.2.2.2.2.2.2.2.2.2.2.2.2.2.2.2.2.2.1, h.2.2.2.2.2.2.2.2.2.2.2.2.2.2.2.2.2.2.2.2.2.2.2.2.2.2.2.1, h.2.2.2.2.2.2.2.2.2.2.2.2.2.2.2.2.2.2.2.2.2.2.2.2.2.2.2.2.1, h.2.2.2.2.2.2.2.2.2.2.2.2.2.2.2.2.2.2.2.2.2.2.2.2.2.2.2.2.2.1, h.2.2.2.2.2.2.2.2.2.2.2.2.2.2.2.2.2.2.2.2.2.2.2.2.2.2.2.2.2.2.1, h.2.2.2.2.2.2.2.2.2.2.2.2.2.2.2.2.2.2.2.2.2.2.2.2.2.2.2.2.2.2.2.1, h.2.2.2.2.2.2.2.2.2.2.2.2.2.2.2.2.2.2.2.2.2.2.2.2.2.2.2.2.2.2.2.2.1, h.2.2.2.2.2.2.2.2.2.2.2.2.2.2.2.2.2.2.2.2.2.2.2.2.2.2.2.2.2.2.2.2.2.1, h.2.2.2.2.2.2.2.2.2.2.2.2.2.2.2.2.2.2.2.2.2.2.2.2.2.2.2.2.2.2.2.2.2.2.1, h.2.2.2.2.2.2.2.2.2.2.2.2.2.2.2.2.2.2.2.2.2.2.2.2.2.2.2.2.2.2.2.2.2.2.2.1, h.2.2.2.2.2.2.2.2.2.2.2.2.2.2.2.2.2.2.2.2.2.2.2.2.2.2.2.2.2.2.2.2.2.2.2.2.1, h.2.2.2.2.2.2.2.2.2.2.2.2.2.2.2.2.2.2.2.2.2.2.2.2.2.2.2.2.2.2.2.2.2.2.2.2.2.1, h.2.2.2.2.2.2.2.2.2.2.2.2.2.2.2.2.2.2.2.2.2.2.2.2.2.2.2.2.2.2.2.2.2.2.2.2.2.2.1, h.2.2.2.2.2.2.2.2.2.2.2.2.2.2.2.2.2.2.2.2.2.2.2.2.2.2.2.2.2.2.2.2.2.2.2.2.2.2.2.1, h.2.2.2.2.2.2.2.2.2.2.2.2.2.2.2.2.2.2.2.2.2.2.2.2.2.2.2.2.2.2.2.2.2.2.2.2.2.2.2.2.1, h.2.2.2.2.2.2.2.2.2.2.2.2.2.2.2.2.2.2.2.2.2.2.2.2.2.2.2.2.2.2.2.2.2.2.2.2.2.2.2.2.2.1, h.2.2.2.2.2.2.2.2.2.2.2.2.2.2.2.2.2.2.2.2.2.2.2.2.2.2.2.2.2.2.2.2.2.2.2.2.2.2.2.2.2.2.1, h.2.2.2.2.2.2.2.2.2.2.2.2.2.2.2.2.2.2.2.2.2.2.2.2.2.2.2.2.2.2.2.2.2.2.2.2.2.2.2.2.2.2.2.1, h.2.2.2.2.2.2.2.2.2.2.2.2.2.2.2.2.2.2.2.2.2.2.2.2.2.2.2.2.2.2.2.2.2.2.2.2.2.2.2.2.2.2.2.2.1, h.2.2.2.2.2.2.2.2.2.2.2.2.2.2.2.2.2.2.2.2.2.2.2.2.2.2.2.2.2.2.2.2.2.2.2.2.2.2.2.2.2.2.2.2.2.1, h.2.2.2.2.2.2.2.2.2.2.2.2.2.2.2.2.2.2.2.2.2.2.2.2.2.2.2.2.2.2.2.2.2.2.2.2.2.2.2.2.2.2.2.2.2.2.1, h.2.2.2.2.2.2.2.2.2.2.2.2.2.2.2.2.2.2.2.2.2.2.2.2.2.2.2.2.2.2.2.2.2.2.2.2.2.2.2.2.2.2.2.2.2.2.2.1, h.2.2.2.2.2.2.2.2.2.2.2.2.2.2.2.2.2.2.2.2.2.2.2.2.2.2.2.2.2.2.2.2.2.2.2.2.2.2.2.2.2.2.2.2.2.2.2.2.1, h.2.2.2.2.2.2.2.2.2.2.2.2.2.2.2.2.2.2.2.2.2.2.2.2.2.2.2.2.2.2.2.2.2.2.2.2.2.2.2.2.2.2.2.2.2.2.2.2.2.1, h.2.2.2.2.2.2.2.2.2.2.2.2.2.2.2.2.2.2.2.2.2.2.2.2.2.2.2.2.2.2.2.2.2.2.2.2.2.2.2.2.2.2.2.2.2.2.2.2.2.2.1, h.2.2.2.2.2.2.2.2.2.2.2.2.2.2.2.2.2.2.2.2.2.2.2.2.2.2.2.2.2.2.2.2.2.2.2.2.2.2.2.2.2.2.2.2.2.2.2.2.2.2.2.1, h.2.2.2.2.2.2.2.2.2.2.2.2.2.2.2.2.2.2.2.2.2.2.2.2.2.2.2.2.2.2.2.2.2.2.2.2.2.2.2.2.2.2.2.2.2.2.2.2.2.2.2.2.1, h.2.2.2.2.2.2.2.2.2.2.2.2.2.2.2.2.2.2.2.2.2.2.2.2.2.2.2.2.2.2.2.2.2.2.2.2.2.2.2.2.2.2.2.2.2.2.2.2.2.2.2.2.2.1, h.2.2.2.2.2.2.2.2.2.2.2.2.2.2.2.2.2.2.2.2.2.2.2.2.2.2.2.2.2.2.2.2.2.2.2.2.2.2.2.2.2.2.2.2.2.2.2.2.2.2.2.2.2.2.1, h.2.2.2.2.2.2.2.2.2.2.2.2.2.2.2.2.2.2.2.2.2.2.2.2.2.2.2.2.2.2.2.2.2.2.2.2.2.2.2.2.2.2.2.2.2.2.2.2.2.2.2.2.2.2.2.1, h.2.2.2.2.2.2.2.2.2.2.2.2.2.2.2.2.2.2.2.2.2.2.2.2.2.2.2.2.2.2.2.2.2.2.2.2.2.2.2.2.2.2.2.2.2.2.2.2.2.2.2.2.2.2.2.2.1, h.2.2.2.2.2.2.2.2.2.2.2.2.2.2.2.2.2.2.2.2.2.2.2.2.2.2.2.2.2.2.2.2.2.2.2.2.2.2.2.2.2.2.2.2.2.2.2.2.2.2.2.2.2.2.2.2.2⟩
theorem Km28_I3 {u v : St} (h : Km28 u v) : fI v 0 3 = fI u 0 3 := h.2.1
theorem Km27_A11 {u v : St} (h : Km27 u v) : fA v 11 = fA u 11 := h.2.2.2.2.2.2.2.2.2.2.2.2.2.2.2.2.2.2.2.2.2.2.2.2.2.2.1
set_option maxHeartbeats 4000000 in
set_option maxRecDepth 100000 in
theorem T_X11_once_2 (l : Launch) (D : va_G) (cy : Nat → ClassId) (a : Nat → Nat) (u : St) (hJ : MI a u) (hp0 : (fI u 0 7).toInt ≤ (fI u 0 3).toInt) (hp1 : (fI u 0 6).toInt ≤ (fI u 0 7).toInt) (hp2 : (fI u 0 8).toInt = 0 ∨ (fI u 0 6).toInt < (fI u 0 7).toInt) (hp3 : (fI u 0 36).toInt + (fI u 0 37).toInt = 1)   : Mi l D cy (mW cy a) yX11_once (.code yX11_once cX11_once 3 (some .int)) (rmo 3 67) [.ref (a 0), .int 2, .int 100] u (fun (r : Int32) (u' : St) => (MI a u') ∧ (Km28 u u') ∧ ((fI u' 0 7).toInt ≤ (fI u' 0 3).toInt) ∧ ((fI u' 0 6).toInt ≤ (fI u' 0 7).toInt) ∧ ((fI u' 0 8).toInt = 0 ∨ (fI u' 0 6).toInt < (fI u' 0 7).toInt) ∧ ((fI u 0 6).toInt ≤ (fI u' 0 6).toInt) ∧ ((fI u 0 4).toInt = 0 ∨ ¬ (fI u' 0 4).toInt = 0) ∧ (bitF (fA u' 11 (fI u 0 37).toNatClampNeg) 0 = bitF (fA u 11 (fI u 0 37).toNatClampNeg) 0)) := by
  refine Mi.of (own := RX11) rfl (by decide) (Nat.le_of_ble_eq_true rfl) ?_
  have hT : Km28 u u := Km28.rf
  have hJ0 := hJ
  intro p e s m below meth c A Q ls C hret hO hl
  obtain ⟨hx, hb, hml, hown, ht, hK, hA⟩ := id C
  have hl : lv_has ls 3 [(0, .ref (a 0)), (1, .int 2), (2, .int 100)] := hl
  refine lv_aload_n hx hb dX11_once_0 rfl (lv_at hl 0 rfl) ?_
  refine gf_RX11_45 (v := .ref (a 11)) C hO 0 mW_0 rfl dX11_once_1 ?_
  refine lv_aload_n hx hb dX11_once_4 rfl (lv_at hl 0 rfl) ?_
  have g1 : 0 ≤ (fI u 0 37).toInt ∧ (fI u 0 37).toInt ≤ 1 := by have h := MI_37 hJ0; exact h
  refine gf_RX11_246 (v := .int (fI u 0 37)) C hO 0 mW_0 rfl dX11_once_5 ?_
  refine lv_dup2_11 hx hb dX11_once_8 rfl rfl ?_
  refine aI C hO 11 mW_11 (i_in (X := ((fI u 0 37)).toInt) rfl (by omega) (by omega)) dX11_once_9 ?_
  refine tE (y := (fA u 11 ((fI u 0 37)).toNatClampNeg)) (by exact rfl) ?_
  refine lv_iconst (v := 1) hx hb dX11_once_10 (by decide) ?_
  refine lv_iload_n hx hb dX11_once_11 rfl (lv_at hl 1 rfl) ?_
  refine lv_ishl hx hb dX11_once_12 ?_
  refine tE (y := 4) (by decide) ?_
  refine lv_ior hx hb dX11_once_13 ?_
  refine lv_topi (fun z2 ez2 => ?_)
  refine aIs C hO 11 mW_11 (i_in (X := ((fI u 0 37)).toInt) rfl (by omega) (by omega)) mW_s11 dX11_once_14 (fun H locs hO => ?_)
  have hT := Km28_wA11 hO hT
  have hJ := MIsA_11 hO hJ (rb_ne (b := fI u 0 36) (r := (fI u 0 37)) (by omega) (by omega) (by omega))
  refine lv_aload_n hx hb dX11_once_15 rfl (lv_at hl 0 rfl) ?_
  refine lv_iconst (v := 0) hx hb dX11_once_16 (by decide) ?_
  refine lv_iload_n hx hb dX11_once_17 rfl (lv_at hl 2 rfl) ?_
  have g3 : 0 ≤ (fI u 0 7).toInt ∧ (fI u 0 7).toInt ≤ 1601 := by have h := MI_7 hJ0; exact h
  have g4 : 0 ≤ (fI u 0 3).toInt ∧ (fI u 0 3).toInt ≤ 1600 := by have h := MI_3 hJ0; exact h
  have g5 : 0 ≤ (fI u 0 6).toInt ∧ (fI u 0 6).toInt ≤ 1600 := by have h := MI_6 hJ0; exact h
  have g6 : 0 ≤ (fI u 0 8).toInt ∧ (fI u 0 8).toInt ≤ 5 := by have h := MI_8 hJ0; exact h
  refine cVi (w := mW cy a) (As := [.int 0, .int 100]) (rest := []) C hO (T_X11_numeral l D cy a _ (by exact hJ) (by exact (show ((fI u 0 7) : Int32).toInt ≤ ((fI u 0 3) : Int32).toInt from by first | omega | decide)) (by exact (show ((fI u 0 6) : Int32).toInt ≤ ((fI u 0 7) : Int32).toInt from by first | omega | decide)) (by exact (show ((fI u 0 8) : Int32).toInt = 0 ∨ ((fI u 0 6) : Int32).toInt < ((fI u 0 7) : Int32).toInt from by first | omega | decide)) (0) (100)) (cwV 2 ht (gV wd_1655 wd_1657 wd_64 wd_121 wd_1658) rfl rfl rfl hd_yX11_numeral ⟨Nat.le_of_ble_eq_true rfl, Nat.le_of_ble_eq_true rfl⟩) 0 rfl mW_0 rfl rfl hl.1 (Nat.le_of_ble_eq_true rfl) dX11_once_18 rfl ⟨Nat.zero_le _, Nat.zero_le _⟩ (fun r7 u8 H locs hp9 hO => ?_)
  have g10 : 0 ≤ (fI u 0 4).toInt ∧ (fI u 0 4).toInt ≤ 5 := by have h := MI_4 hJ0; exact h
  obtain ⟨hJ, hTu8, hx0u8, hx1u8, hx2u8, hx3u8, hx4u8⟩ := hp9
  have hT : Km28 u u8 := Km28.tr (by exact hT) (Km27_to_Km28 hTu8)
  have g11 : 0 ≤ (fI u8 0 7).toInt ∧ (fI u8 0 7).toInt ≤ 1601 := by have h := MI_7 hJ; exact h
  have y0u8 : ((fI u8 0 7) : Int32).toInt ≤ ((fI u 0 3) : Int32).toInt := by have h : ((fI u8 0 7) : Int32).toInt ≤ (fI u8 0 3 : Int32).toInt := hx0u8; rw [show fI u8 0 3 = (fI u 0 3) from (Km28_I3 hT)] at h; exact h
  have g12 : 0 ≤ (fI u8 0 6).toInt ∧ (fI u8 0 6).toInt ≤ 1600 := by have h := MI_6 hJ; exact h
  have y1u8 : ((fI u8 0 6) : Int32).toInt ≤ ((fI u8 0 7) : Int32).toInt := by exact hx1u8
  have g13 : 0 ≤ (fI u8 0 8).toInt ∧ (fI u8 0 8).toInt ≤ 5 := by have h := MI_8 hJ; exact h
  have y2u8 : ((fI u8 0 8) : Int32).toInt = 0 ∨ ((fI u8 0 6) : Int32).toInt < ((fI u8 0 7) : Int32).toInt := by exact hx2u8
  have y3u8 : ((fI u 0 6) : Int32).toInt ≤ ((fI u8 0 6) : Int32).toInt := by exact hx3u8
  have g14 : 0 ≤ (fI u8 0 4).toInt ∧ (fI u8 0 4).toInt ≤ 5 := by have h := MI_4 hJ; exact h
  have y4u8 : ((fI u 0 4) : Int32).toInt = 0 ∨ ¬ ((fI u8 0 4) : Int32).toInt = 0 := by exact hx4u8
  have q15 : ((fI u8 0 7) : Int32).toInt ≤ ((fI u 0 3) : Int32).toInt := by first | omega | decide
  have q16 : ((fI u8 0 6) : Int32).toInt ≤ ((fI u8 0 7) : Int32).toInt := by first | omega | decide
  have q17 : ((fI u8 0 8) : Int32).toInt = 0 ∨ ((fI u8 0 6) : Int32).toInt < ((fI u8 0 7) : Int32).toInt := by first | omega | decide
  have q18 : ((fI u 0 6) : Int32).toInt ≤ ((fI u8 0 6) : Int32).toInt := by first | omega | decide
  have q19 : ((fI u 0 4) : Int32).toInt = 0 ∨ ¬ ((fI u8 0 4) : Int32).toInt = 0 := by first | omega | decide
  refine hret _ _ _ _ _ _ dX11_once_21 rfl ?_ hO
  exact ⟨hJ, hT, (show ((fI u8 0 7) : Int32).toInt ≤ (fI u8 0 3 : Int32).toInt from by rw [show fI u8 0 3 = (fI u 0 3) from (Km28_I3 hT)]; first | done | exact q15), q16, q17, q18, q19, (by rw [Km27_A11 hTu8]; show bitF (upd (fA u 11) (fI u 0 37).toNatClampNeg z2 (fI u 0 37).toNatClampNeg) 0 = _; rw [upd_at, ez2]; exact bit0_or (by decide))⟩
set_option maxHeartbeats 4000000 in
set_option maxRecDepth 100000 in
theorem T_X11_once_3 (l : Launch) (D : va_G) (cy : Nat → ClassId) (a : Nat → Nat) (u : St) (hJ : MI a u) (hp0 : (fI u 0 7).toInt ≤ (fI u 0 3).toInt) (hp1 : (fI u 0 6).toInt ≤ (fI u 0 7).toInt) (hp2 : (fI u 0 8).toInt = 0 ∨ (fI u 0 6).toInt < (fI u 0 7).toInt) (hp3 : (fI u 0 36).toInt + (fI u 0 37).toInt = 1)   : Mi l D cy (mW cy a) yX11_once (.code yX11_once cX11_once 3 (some .int)) (rmo 3 67) [.ref (a 0), .int 3, .int 999] u (fun (r : Int32) (u' : St) => (MI a u') ∧ (Km28 u u') ∧ ((fI u' 0 7).toInt ≤ (fI u' 0 3).toInt) ∧ ((fI u' 0 6).toInt ≤ (fI u' 0 7).toInt) ∧ ((fI u' 0 8).toInt = 0 ∨ (fI u' 0 6).toInt < (fI u' 0 7).toInt) ∧ ((fI u 0 6).toInt ≤ (fI u' 0 6).toInt) ∧ ((fI u 0 4).toInt = 0 ∨ ¬ (fI u' 0 4).toInt = 0) ∧ (bitF (fA u' 11 (fI u 0 37).toNatClampNeg) 0 = bitF (fA u 11 (fI u 0 37).toNatClampNeg) 0)) := by
  refine Mi.of (own := RX11) rfl (by decide) (Nat.le_of_ble_eq_true rfl) ?_
  have hT : Km28 u u := Km28.rf
  have hJ0 := hJ
  intro p e s m below meth c A Q ls C hret hO hl
  obtain ⟨hx, hb, hml, hown, ht, hK, hA⟩ := id C
  have hl : lv_has ls 3 [(0, .ref (a 0)), (1, .int 3), (2, .int 999)] := hl
  refine lv_aload_n hx hb dX11_once_0 rfl (lv_at hl 0 rfl) ?_
  refine gf_RX11_45 (v := .ref (a 11)) C hO 0 mW_0 rfl dX11_once_1 ?_
  refine lv_aload_n hx hb dX11_once_4 rfl (lv_at hl 0 rfl) ?_
  have g1 : 0 ≤ (fI u 0 37).toInt ∧ (fI u 0 37).toInt ≤ 1 := by have h := MI_37 hJ0; exact h
  refine gf_RX11_246 (v := .int (fI u 0 37)) C hO 0 mW_0 rfl dX11_once_5 ?_
  refine lv_dup2_11 hx hb dX11_once_8 rfl rfl ?_
  refine aI C hO 11 mW_11 (i_in (X := ((fI u 0 37)).toInt) rfl (by omega) (by omega)) dX11_once_9 ?_
  refine tE (y := (fA u 11 ((fI u 0 37)).toNatClampNeg)) (by exact rfl) ?_
  refine lv_iconst (v := 1) hx hb dX11_once_10 (by decide) ?_
  refine lv_iload_n hx hb dX11_once_11 rfl (lv_at hl 1 rfl) ?_
  refine lv_ishl hx hb dX11_once_12 ?_
  refine tE (y := 8) (by decide) ?_
  refine lv_ior hx hb dX11_once_13 ?_
  refine lv_topi (fun z2 ez2 => ?_)
  refine aIs C hO 11 mW_11 (i_in (X := ((fI u 0 37)).toInt) rfl (by omega) (by omega)) mW_s11 dX11_once_14 (fun H locs hO => ?_)
  have hT := Km28_wA11 hO hT
  have hJ := MIsA_11 hO hJ (rb_ne (b := fI u 0 36) (r := (fI u 0 37)) (by omega) (by omega) (by omega))
  refine lv_aload_n hx hb dX11_once_15 rfl (lv_at hl 0 rfl) ?_
  refine lv_iconst (v := 0) hx hb dX11_once_16 (by decide) ?_
  refine lv_iload_n hx hb dX11_once_17 rfl (lv_at hl 2 rfl) ?_
  have g3 : 0 ≤ (fI u 0 7).toInt ∧ (fI u 0 7).toInt ≤ 1601 := by have h := MI_7 hJ0; exact h
  have g4 : 0 ≤ (fI u 0 3).toInt ∧ (fI u 0 3).toInt ≤ 1600 := by have h := MI_3 hJ0; exact h
  have g5 : 0 ≤ (fI u 0 6).toInt ∧ (fI u 0 6).toInt ≤ 1600 := by have h := MI_6 hJ0; exact h
  have g6 : 0 ≤ (fI u 0 8).toInt ∧ (fI u 0 8).toInt ≤ 5 := by have h := MI_8 hJ0; exact h
  refine cVi (w := mW cy a) (As := [.int 0, .int 999]) (rest := []) C hO (T_X11_numeral l D cy a _ (by exact hJ) (by exact (show ((fI u 0 7) : Int32).toInt ≤ ((fI u 0 3) : Int32).toInt from by first | omega | decide)) (by exact (show ((fI u 0 6) : Int32).toInt ≤ ((fI u 0 7) : Int32).toInt from by first | omega | decide)) (by exact (show ((fI u 0 8) : Int32).toInt = 0 ∨ ((fI u 0 6) : Int32).toInt < ((fI u 0 7) : Int32).toInt from by first | omega | decide)) (0) (999)) (cwV 2 ht (gV wd_1655 wd_1657 wd_64 wd_121 wd_1658) rfl rfl rfl hd_yX11_numeral ⟨Nat.le_of_ble_eq_true rfl, Nat.le_of_ble_eq_true rfl⟩) 0 rfl mW_0 rfl rfl hl.1 (Nat.le_of_ble_eq_true rfl) dX11_once_18 rfl ⟨Nat.zero_le _, Nat.zero_le _⟩ (fun r7 u8 H locs hp9 hO => ?_)
  have g10 : 0 ≤ (fI u 0 4).toInt ∧ (fI u 0 4).toInt ≤ 5 := by have h := MI_4 hJ0; exact h
  obtain ⟨hJ, hTu8, hx0u8, hx1u8, hx2u8, hx3u8, hx4u8⟩ := hp9
  have hT : Km28 u u8 := Km28.tr (by exact hT) (Km27_to_Km28 hTu8)
  have g11 : 0 ≤ (fI u8 0 7).toInt ∧ (fI u8 0 7).toInt ≤ 1601 := by have h := MI_7 hJ; exact h
  have y0u8 : ((fI u8 0 7) : Int32).toInt ≤ ((fI u 0 3) : Int32).toInt := by have h : ((fI u8 0 7) : Int32).toInt ≤ (fI u8 0 3 : Int32).toInt := hx0u8; rw [show fI u8 0 3 = (fI u 0 3) from (Km28_I3 hT)] at h; exact h
  have g12 : 0 ≤ (fI u8 0 6).toInt ∧ (fI u8 0 6).toInt ≤ 1600 := by have h := MI_6 hJ; exact h
  have y1u8 : ((fI u8 0 6) : Int32).toInt ≤ ((fI u8 0 7) : Int32).toInt := by exact hx1u8
  have g13 : 0 ≤ (fI u8 0 8).toInt ∧ (fI u8 0 8).toInt ≤ 5 := by have h := MI_8 hJ; exact h
  have y2u8 : ((fI u8 0 8) : Int32).toInt = 0 ∨ ((fI u8 0 6) : Int32).toInt < ((fI u8 0 7) : Int32).toInt := by exact hx2u8
  have y3u8 : ((fI u 0 6) : Int32).toInt ≤ ((fI u8 0 6) : Int32).toInt := by exact hx3u8
  have g14 : 0 ≤ (fI u8 0 4).toInt ∧ (fI u8 0 4).toInt ≤ 5 := by have h := MI_4 hJ; exact h
  have y4u8 : ((fI u 0 4) : Int32).toInt = 0 ∨ ¬ ((fI u8 0 4) : Int32).toInt = 0 := by exact hx4u8
  have q15 : ((fI u8 0 7) : Int32).toInt ≤ ((fI u 0 3) : Int32).toInt := by first | omega | decide
  have q16 : ((fI u8 0 6) : Int32).toInt ≤ ((fI u8 0 7) : Int32).toInt := by first | omega | decide
  have q17 : ((fI u8 0 8) : Int32).toInt = 0 ∨ ((fI u8 0 6) : Int32).toInt < ((fI u8 0 7) : Int32).toInt := by first | omega | decide
  have q18 : ((fI u 0 6) : Int32).toInt ≤ ((fI u8 0 6) : Int32).toInt := by first | omega | decide
  have q19 : ((fI u 0 4) : Int32).toInt = 0 ∨ ¬ ((fI u8 0 4) : Int32).toInt = 0 := by first | omega | decide
  refine hret _ _ _ _ _ _ dX11_once_21 rfl ?_ hO
  exact ⟨hJ, hT, (show ((fI u8 0 7) : Int32).toInt ≤ (fI u8 0 3 : Int32).toInt from by rw [show fI u8 0 3 = (fI u 0 3) from (Km28_I3 hT)]; first | done | exact q15), q16, q17, q18, q19, (by rw [Km27_A11 hTu8]; show bitF (upd (fA u 11) (fI u 0 37).toNatClampNeg z2 (fI u 0 37).toNatClampNeg) 0 = _; rw [upd_at, ez2]; exact bit0_or (by decide))⟩
theorem dX11_isThread_0 : decode cX11_isThread 0 = .ok (.aload_n 0, 1) := by decide +kernel
theorem dX11_isThread_1 : decode cX11_isThread 1 = .ok (.getfield 51, 3) := by decide +kernel
theorem dX11_isThread_4 : decode cX11_isThread 4 = .ok (.bipush 14, 2) := by decide +kernel
theorem dX11_isThread_6 : decode cX11_isThread 6 = .ok (.aload_n 0, 1) := by decide +kernel
theorem dX11_isThread_7 : decode cX11_isThread 7 = .ok (.getfield 246, 3) := by decide +kernel
theorem dX11_isThread_10 : decode cX11_isThread 10 = .ok (.imul, 1) := by decide +kernel
theorem dX11_isThread_11 : decode cX11_isThread 11 = .ok (.iload_n 1, 1) := by decide +kernel
theorem dX11_isThread_12 : decode cX11_isThread 12 = .ok (.iadd, 1) := by decide +kernel
theorem dX11_isThread_13 : decode cX11_isThread 13 = .ok (.iaload, 1) := by decide +kernel
theorem dX11_isThread_14 : decode cX11_isThread 14 = .ok (.iload_n 2, 1) := by decide +kernel
theorem dX11_isThread_15 : decode cX11_isThread 15 = .ok (.if_icmp .ne 21, 3) := by decide +kernel
theorem dX11_isThread_18 : decode cX11_isThread 18 = .ok (.aload_n 0, 1) := by decide +kernel
theorem dX11_isThread_19 : decode cX11_isThread 19 = .ok (.getfield 54, 3) := by decide +kernel
theorem dX11_isThread_22 : decode cX11_isThread 22 = .ok (.bipush 14, 2) := by decide +kernel
theorem dX11_isThread_24 : decode cX11_isThread 24 = .ok (.aload_n 0, 1) := by decide +kernel
theorem dX11_isThread_25 : decode cX11_isThread 25 = .ok (.getfield 246, 3) := by decide +kernel
theorem dX11_isThread_28 : decode cX11_isThread 28 = .ok (.imul, 1) := by decide +kernel
theorem dX11_isThread_29 : decode cX11_isThread 29 = .ok (.iload_n 1, 1) := by decide +kernel
theorem dX11_isThread_30 : decode cX11_isThread 30 = .ok (.iadd, 1) := by decide +kernel
theorem dX11_isThread_31 : decode cX11_isThread 31 = .ok (.iaload, 1) := by decide +kernel
theorem dX11_isThread_32 : decode cX11_isThread 32 = .ok (.iload_n 3, 1) := by decide +kernel
theorem dX11_isThread_33 : decode cX11_isThread 33 = .ok (.if_icmp .eq 39, 3) := by decide +kernel
theorem dX11_isThread_36 : decode cX11_isThread 36 = .ok (.aload_n 0, 1) := by decide +kernel
theorem dX11_isThread_37 : decode cX11_isThread 37 = .ok (.getfield 51, 3) := by decide +kernel
theorem dX11_isThread_40 : decode cX11_isThread 40 = .ok (.bipush 14, 2) := by decide +kernel
theorem dX11_isThread_42 : decode cX11_isThread 42 = .ok (.aload_n 0, 1) := by decide +kernel
theorem dX11_isThread_43 : decode cX11_isThread 43 = .ok (.getfield 246, 3) := by decide +kernel
theorem dX11_isThread_46 : decode cX11_isThread 46 = .ok (.imul, 1) := by decide +kernel
theorem dX11_isThread_47 : decode cX11_isThread 47 = .ok (.iload_n 1, 1) := by decide +kernel
theorem dX11_isThread_48 : decode cX11_isThread 48 = .ok (.iadd, 1) := by decide +kernel
theorem dX11_isThread_49 : decode cX11_isThread 49 = .ok (.iaload, 1) := by decide +kernel
theorem dX11_isThread_50 : decode cX11_isThread 50 = .ok (.iload_n 3, 1) := by decide +kernel
theorem dX11_isThread_51 : decode cX11_isThread 51 = .ok (.if_icmp .ne 25, 3) := by decide +kernel
theorem dX11_isThread_54 : decode cX11_isThread 54 = .ok (.aload_n 0, 1) := by decide +kernel
theorem dX11_isThread_55 : decode cX11_isThread 55 = .ok (.getfield 54, 3) := by decide +kernel
theorem dX11_isThread_58 : decode cX11_isThread 58 = .ok (.bipush 14, 2) := by decide +kernel
theorem dX11_isThread_60 : decode cX11_isThread 60 = .ok (.aload_n 0, 1) := by decide +kernel
theorem dX11_isThread_61 : decode cX11_isThread 61 = .ok (.getfield 246, 3) := by decide +kernel
theorem dX11_isThread_64 : decode cX11_isThread 64 = .ok (.imul, 1) := by decide +kernel
theorem dX11_isThread_65 : decode cX11_isThread 65 = .ok (.iload_n 1, 1) := by decide +kernel
theorem dX11_isThread_66 : decode cX11_isThread 66 = .ok (.iadd, 1) := by decide +kernel
theorem dX11_isThread_67 : decode cX11_isThread 67 = .ok (.iaload, 1) := by decide +kernel
theorem dX11_isThread_68 : decode cX11_isThread 68 = .ok (.iload_n 2, 1) := by decide +kernel
theorem dX11_isThread_69 : decode cX11_isThread 69 = .ok (.if_icmp .ne 7, 3) := by decide +kernel
theorem dX11_isThread_72 : decode cX11_isThread 72 = .ok (.iconst 1, 1) := by decide +kernel
theorem dX11_isThread_73 : decode cX11_isThread 73 = .ok (.goto 4, 3) := by decide +kernel
theorem dX11_isThread_76 : decode cX11_isThread 76 = .ok (.iconst 0, 1) := by decide +kernel
theorem dX11_isThread_77 : decode cX11_isThread 77 = .ok (.ireturn, 1) := by decide +kernel
theorem wd_1646 : (Cond.code ⟨"WebCourtModel", "isThread", "(III)Z"⟩ prog_13_method_25_code (4 : Nat) (Option.some FieldType.boolean)) ∈ gtb := gtb_c7 97 (by decide +kernel) rfl
set_option maxHeartbeats 4000000 in
set_option maxRecDepth 100000 in
theorem T_X11_isThread (l : Launch) (D : va_G) (cy : Nat → ClassId) (a : Nat → Nat) (u : St) (hJ : MI a u) (x1 : Int32) (x2 : Int32) (x3 : Int32) (hx_x1 : 0 ≤ x1.toInt ∧ x1.toInt ≤ 13) : Mi l D cy (mW cy a) yX11_isThread (.code yX11_isThread cX11_isThread 4 (some .boolean)) (rmo 0 0) [.ref (a 0), .int x1, .int x2, .int x3] u (fun (r : Int32) (u' : St) => (r = 0 ∨ r = 1) ∧ (u' = u)) := by
  refine Mi.of (own := RX11) rfl (by decide) (Nat.le_of_ble_eq_true rfl) ?_
  have hT : Km0 u u := Km0.rf
  have hJ0 := hJ
  intro p e s m below meth c A Q ls C hret hO hl
  obtain ⟨hx, hb, hml, hown, ht, hK, hA⟩ := id C
  have hl : lv_has ls 4 [(0, .ref (a 0)), (1, .int x1), (2, .int x2), (3, .int x3)] := hl
  refine lv_aload_n hx hb dX11_isThread_0 rfl (lv_at hl 0 rfl) ?_
  refine gf_RX11_51 (v := .ref (a 13)) C hO 0 mW_0 rfl dX11_isThread_1 ?_
  refine lv_bipush (v := 14) hx hb dX11_isThread_4 (by decide) ?_
  refine lv_aload_n hx hb dX11_isThread_6 rfl (lv_at hl 0 rfl) ?_
  have g1 : 0 ≤ (fI u 0 37).toInt ∧ (fI u 0 37).toInt ≤ 1 := by have h := MI_37 hJ0; exact h
  refine gf_RX11_246 (v := .int (fI u 0 37)) C hO 0 mW_0 rfl dX11_isThread_7 ?_
  refine lv_imul hx hb dX11_isThread_10 ?_
  refine lv_topi (fun z2 ez2 => ?_)
  have e3 : z2.toInt = 14 * ((fI u 0 37)).toInt := by rw [ez2]; exact i_mul rfl rfl (by omega)
  refine lv_iload_n hx hb dX11_isThread_11 rfl (lv_at hl 1 rfl) ?_
  refine lv_iadd hx hb dX11_isThread_12 ?_
  refine lv_topi (fun z4 ez4 => ?_)
  have e5 : z4.toInt = (14 * ((fI u 0 37)).toInt) + (x1).toInt := by rw [ez4]; exact i_add e3 rfl (by omega)
  refine aI C hO 13 mW_13 (i_in (X := ((14 * ((fI u 0 37)).toInt) + (x1).toInt)) e5 (by omega) (by omega)) dX11_isThread_13 ?_
  have g6 : 0 ≤ (fA u 13 (z4).toNatClampNeg).toInt ∧ (fA u 13 (z4).toNatClampNeg).toInt ≤ 7 := by have h := MI_A13 hJ0 (z4).toNatClampNeg; exact h
  refine tE (y := (fA u 13 (z4).toNatClampNeg)) (by exact rfl) ?_
  refine lv_iload_n hx hb dX11_isThread_14 rfl (lv_at hl 2 rfl) ?_
  refine cs_ne (tgt := 36) (X := ((fA u 13 (z4).toNatClampNeg)).toInt) (Y := (x2).toInt) hx hb dX11_isThread_15 (by decide) rfl rfl (fun c7 => ?_) (fun c7 => ?_)
  · refine lv_aload_n hx hb dX11_isThread_36 rfl (lv_at hl 0 rfl) ?_
    refine gf_RX11_51 (v := .ref (a 13)) C hO 0 mW_0 rfl dX11_isThread_37 ?_
    refine lv_bipush (v := 14) hx hb dX11_isThread_40 (by decide) ?_
    refine lv_aload_n hx hb dX11_isThread_42 rfl (lv_at hl 0 rfl) ?_
    refine gf_RX11_246 (v := .int (fI u 0 37)) C hO 0 mW_0 rfl dX11_isThread_43 ?_
    refine lv_imul hx hb dX11_isThread_46 ?_
    refine lv_topi (fun z8 ez8 => ?_)
    have e9 : z8.toInt = 14 * ((fI u 0 37)).toInt := by rw [ez8]; exact i_mul rfl rfl (by omega)
    refine lv_iload_n hx hb dX11_isThread_47 rfl (lv_at hl 1 rfl) ?_
    refine lv_iadd hx hb dX11_isThread_48 ?_
    refine lv_topi (fun z10 ez10 => ?_)
    have e11 : z10.toInt = (14 * ((fI u 0 37)).toInt) + (x1).toInt := by rw [ez10]; exact i_add e9 rfl (by omega)
    refine aI C hO 13 mW_13 (i_in (X := ((14 * ((fI u 0 37)).toInt) + (x1).toInt)) e11 (by omega) (by omega)) dX11_isThread_49 ?_
    have g12 : 0 ≤ (fA u 13 (z10).toNatClampNeg).toInt ∧ (fA u 13 (z10).toNatClampNeg).toInt ≤ 7 := by have h := MI_A13 hJ0 (z10).toNatClampNeg; exact h
    refine tE (y := (fA u 13 (z10).toNatClampNeg)) (by exact rfl) ?_
    refine lv_iload_n hx hb dX11_isThread_50 rfl (lv_at hl 3 rfl) ?_
    refine cs_ne (tgt := 76) (X := ((fA u 13 (z10).toNatClampNeg)).toInt) (Y := (x3).toInt) hx hb dX11_isThread_51 (by decide) rfl rfl (fun c13 => ?_) (fun c13 => ?_)
    · refine lv_iconst (v := 0) hx hb dX11_isThread_76 (by decide) ?_
      refine hret _ _ _ _ _ _ dX11_isThread_77 rfl ?_ hO
      exact ⟨Or.inl rfl, rfl⟩
    · refine lv_aload_n hx hb dX11_isThread_54 rfl (lv_at hl 0 rfl) ?_
      refine gf_RX11_54 (v := .ref (a 14)) C hO 0 mW_0 rfl dX11_isThread_55 ?_
      refine lv_bipush (v := 14) hx hb dX11_isThread_58 (by decide) ?_
      refine lv_aload_n hx hb dX11_isThread_60 rfl (lv_at hl 0 rfl) ?_
      refine gf_RX11_246 (v := .int (fI u 0 37)) C hO 0 mW_0 rfl dX11_isThread_61 ?_
      refine lv_imul hx hb dX11_isThread_64 ?_
      refine lv_topi (fun z14 ez14 => ?_)
      have e15 : z14.toInt = 14 * ((fI u 0 37)).toInt := by rw [ez14]; exact i_mul rfl rfl (by omega)
      refine lv_iload_n hx hb dX11_isThread_65 rfl (lv_at hl 1 rfl) ?_
      refine lv_iadd hx hb dX11_isThread_66 ?_
      refine lv_topi (fun z16 ez16 => ?_)
      have e17 : z16.toInt = (14 * ((fI u 0 37)).toInt) + (x1).toInt := by rw [ez16]; exact i_add e15 rfl (by omega)
      refine aI C hO 14 mW_14 (i_in (X := ((14 * ((fI u 0 37)).toInt) + (x1).toInt)) e17 (by omega) (by omega)) dX11_isThread_67 ?_
      have g18 : 0 ≤ (fA u 14 (z16).toNatClampNeg).toInt ∧ (fA u 14 (z16).toNatClampNeg).toInt ≤ 7 := by have h := MI_A14 hJ0 (z16).toNatClampNeg; exact h
      refine tE (y := (fA u 14 (z16).toNatClampNeg)) (by exact rfl) ?_
      refine lv_iload_n hx hb dX11_isThread_68 rfl (lv_at hl 2 rfl) ?_
      refine cs_ne (tgt := 76) (X := ((fA u 14 (z16).toNatClampNeg)).toInt) (Y := (x2).toInt) hx hb dX11_isThread_69 (by decide) rfl rfl (fun c19 => ?_) (fun c19 => ?_)
      · refine lv_iconst (v := 0) hx hb dX11_isThread_76 (by decide) ?_
        refine hret _ _ _ _ _ _ dX11_isThread_77 rfl ?_ hO
        exact ⟨Or.inl rfl, rfl⟩
      · refine lv_iconst (v := 1) hx hb dX11_isThread_72 (by decide) ?_
        refine lv_goto (tgt := 77) hx hb dX11_isThread_73 (by decide) ?_
        refine hret _ _ _ _ _ _ dX11_isThread_77 rfl ?_ hO
        exact ⟨Or.inr rfl, rfl⟩
  · refine lv_aload_n hx hb dX11_isThread_18 rfl (lv_at hl 0 rfl) ?_
    refine gf_RX11_54 (v := .ref (a 14)) C hO 0 mW_0 rfl dX11_isThread_19 ?_
    refine lv_bipush (v := 14) hx hb dX11_isThread_22 (by decide) ?_
    refine lv_aload_n hx hb dX11_isThread_24 rfl (lv_at hl 0 rfl) ?_
    refine gf_RX11_246 (v := .int (fI u 0 37)) C hO 0 mW_0 rfl dX11_isThread_25 ?_
    refine lv_imul hx hb dX11_isThread_28 ?_
    refine lv_topi (fun z20 ez20 => ?_)
    have e21 : z20.toInt = 14 * ((fI u 0 37)).toInt := by rw [ez20]; exact i_mul rfl rfl (by omega)
    refine lv_iload_n hx hb dX11_isThread_29 rfl (lv_at hl 1 rfl) ?_
    refine lv_iadd hx hb dX11_isThread_30 ?_
    refine lv_topi (fun z22 ez22 => ?_)
    have e23 : z22.toInt = (14 * ((fI u 0 37)).toInt) + (x1).toInt := by rw [ez22]; exact i_add e21 rfl (by omega)
    refine aI C hO 14 mW_14 (i_in (X := ((14 * ((fI u 0 37)).toInt) + (x1).toInt)) e23 (by omega) (by omega)) dX11_isThread_31 ?_
    have g24 : 0 ≤ (fA u 14 (z22).toNatClampNeg).toInt ∧ (fA u 14 (z22).toNatClampNeg).toInt ≤ 7 := by have h := MI_A14 hJ0 (z22).toNatClampNeg; exact h
    refine tE (y := (fA u 14 (z22).toNatClampNeg)) (by exact rfl) ?_
    refine lv_iload_n hx hb dX11_isThread_32 rfl (lv_at hl 3 rfl) ?_
    refine cs_eq (tgt := 72) (X := ((fA u 14 (z22).toNatClampNeg)).toInt) (Y := (x3).toInt) hx hb dX11_isThread_33 (by decide) rfl rfl (fun c25 => ?_) (fun c25 => ?_)
    · refine lv_iconst (v := 1) hx hb dX11_isThread_72 (by decide) ?_
      refine lv_goto (tgt := 77) hx hb dX11_isThread_73 (by decide) ?_
      refine hret _ _ _ _ _ _ dX11_isThread_77 rfl ?_ hO
      exact ⟨Or.inr rfl, rfl⟩
    · refine lv_aload_n hx hb dX11_isThread_36 rfl (lv_at hl 0 rfl) ?_
      refine gf_RX11_51 (v := .ref (a 13)) C hO 0 mW_0 rfl dX11_isThread_37 ?_
      refine lv_bipush (v := 14) hx hb dX11_isThread_40 (by decide) ?_
      refine lv_aload_n hx hb dX11_isThread_42 rfl (lv_at hl 0 rfl) ?_
      refine gf_RX11_246 (v := .int (fI u 0 37)) C hO 0 mW_0 rfl dX11_isThread_43 ?_
      refine lv_imul hx hb dX11_isThread_46 ?_
      refine lv_topi (fun z26 ez26 => ?_)
      have e27 : z26.toInt = 14 * ((fI u 0 37)).toInt := by rw [ez26]; exact i_mul rfl rfl (by omega)
      refine lv_iload_n hx hb dX11_isThread_47 rfl (lv_at hl 1 rfl) ?_
      refine lv_iadd hx hb dX11_isThread_48 ?_
      refine lv_topi (fun z28 ez28 => ?_)
      have e29 : z28.toInt = (14 * ((fI u 0 37)).toInt) + (x1).toInt := by rw [ez28]; exact i_add e27 rfl (by omega)
      refine aI C hO 13 mW_13 (i_in (X := ((14 * ((fI u 0 37)).toInt) + (x1).toInt)) e29 (by omega) (by omega)) dX11_isThread_49 ?_
      have g30 : 0 ≤ (fA u 13 (z28).toNatClampNeg).toInt ∧ (fA u 13 (z28).toNatClampNeg).toInt ≤ 7 := by have h := MI_A13 hJ0 (z28).toNatClampNeg; exact h
      refine tE (y := (fA u 13 (z28).toNatClampNeg)) (by exact rfl) ?_
      refine lv_iload_n hx hb dX11_isThread_50 rfl (lv_at hl 3 rfl) ?_
      refine cs_ne (tgt := 76) (X := ((fA u 13 (z28).toNatClampNeg)).toInt) (Y := (x3).toInt) hx hb dX11_isThread_51 (by decide) rfl rfl (fun c31 => ?_) (fun c31 => ?_)
      · refine lv_iconst (v := 0) hx hb dX11_isThread_76 (by decide) ?_
        refine hret _ _ _ _ _ _ dX11_isThread_77 rfl ?_ hO
        exact ⟨Or.inl rfl, rfl⟩
      · refine lv_aload_n hx hb dX11_isThread_54 rfl (lv_at hl 0 rfl) ?_
        refine gf_RX11_54 (v := .ref (a 14)) C hO 0 mW_0 rfl dX11_isThread_55 ?_
        refine lv_bipush (v := 14) hx hb dX11_isThread_58 (by decide) ?_
        refine lv_aload_n hx hb dX11_isThread_60 rfl (lv_at hl 0 rfl) ?_
        refine gf_RX11_246 (v := .int (fI u 0 37)) C hO 0 mW_0 rfl dX11_isThread_61 ?_
        refine lv_imul hx hb dX11_isThread_64 ?_
        refine lv_topi (fun z32 ez32 => ?_)
        have e33 : z32.toInt = 14 * ((fI u 0 37)).toInt := by rw [ez32]; exact i_mul rfl rfl (by omega)
        refine lv_iload_n hx hb dX11_isThread_65 rfl (lv_at hl 1 rfl) ?_
        refine lv_iadd hx hb dX11_isThread_66 ?_
        refine lv_topi (fun z34 ez34 => ?_)
        have e35 : z34.toInt = (14 * ((fI u 0 37)).toInt) + (x1).toInt := by rw [ez34]; exact i_add e33 rfl (by omega)
        refine aI C hO 14 mW_14 (i_in (X := ((14 * ((fI u 0 37)).toInt) + (x1).toInt)) e35 (by omega) (by omega)) dX11_isThread_67 ?_
        have g36 : 0 ≤ (fA u 14 (z34).toNatClampNeg).toInt ∧ (fA u 14 (z34).toNatClampNeg).toInt ≤ 7 := by have h := MI_A14 hJ0 (z34).toNatClampNeg; exact h
        refine tE (y := (fA u 14 (z34).toNatClampNeg)) (by exact rfl) ?_
        refine lv_iload_n hx hb dX11_isThread_68 rfl (lv_at hl 2 rfl) ?_
        refine cs_ne (tgt := 76) (X := ((fA u 14 (z34).toNatClampNeg)).toInt) (Y := (x2).toInt) hx hb dX11_isThread_69 (by decide) rfl rfl (fun c37 => ?_) (fun c37 => ?_)
        · refine lv_iconst (v := 0) hx hb dX11_isThread_76 (by decide) ?_
          refine hret _ _ _ _ _ _ dX11_isThread_77 rfl ?_ hO
          exact ⟨Or.inl rfl, rfl⟩
        · refine lv_iconst (v := 1) hx hb dX11_isThread_72 (by decide) ?_
          refine lv_goto (tgt := 77) hx hb dX11_isThread_73 (by decide) ?_
          refine hret _ _ _ _ _ _ dX11_isThread_77 rfl ?_ hO
          exact ⟨Or.inr rfl, rfl⟩
def Km29 (u v : St) : Prop := fI v 0 2 = fI u 0 2 ∧ fI v 0 3 = fI u 0 3 ∧ fI v 0 36 = fI u 0 36 ∧ fI v 0 37 = fI u 0 37 ∧ fI v 0 38 = fI u 0 38 ∧ fI v 0 39 = fI u 0 39 ∧ fI v 0 40 = fI u 0 40 ∧ fI v 0 41 = fI u 0 41 ∧ fI v 0 42 = fI u 0 42 ∧ fI v 0 43 = fI u 0 43 ∧ fI v 0 45 = fI u 0 45 ∧ fI v 0 47 = fI u 0 47 ∧ fI v 0 48 = fI u 0 48 ∧ fI v 0 50 = fI u 0 50 ∧ fI v 0 61 = fI u 0 61 ∧ fI v 0 62 = fI u 0 62 ∧ fA v 1 = fA u 1 ∧ fA v 2 = fA u 2 ∧ fA v 3 = fA u 3 ∧ fA v 5 = fA u 5 ∧ fA v 6 = fA u 6 ∧ fA v 7 = fA u 7 ∧ fA v 8 = fA u 8 ∧ fA v 9 = fA u 9 ∧ fA v 10 = fA u 10 ∧ fA v 11 = fA u 11 ∧ fA v 15 = fA u 15 ∧ fA v 16 = fA u 16 ∧ fA v 17 = fA u 17 ∧ fA v 18 = fA u 18 ∧ fA v 19 = fA u 19 ∧ fJ v 20 = fJ u 20 ∧ fJ v 21 = fJ u 21 ∧ fJ v 22 = fJ u 22 ∧ fA v 23 = fA u 23 ∧ fA v 24 = fA u 24 ∧ fA v 25 = fA u 25 ∧ fA v 26 = fA u 26 ∧ fA v 27 = fA u 27 ∧ fA v 28 = fA u 28 ∧ fA v 29 = fA u 29 ∧ fA v 30 = fA u 30 ∧ fA v 31 = fA u 31 ∧ fA v 32 = fA u 32 ∧ fA v 33 = fA u 33 ∧ fA v 34 = fA u 34 ∧ fA v 35 = fA u 35 ∧ fA v 36 = fA u 36 ∧ fA v 37 = fA u 37 ∧ fA v 38 = fA u 38 ∧ fA v 39 = fA u 39 ∧ fA v 40 = fA u 40 ∧ fA v 41 = fA u 41 ∧ fA v 42 = fA u 42
theorem Km29.rf {u : St} : Km29 u u := ⟨rfl, rfl, rfl, rfl, rfl, rfl, rfl, rfl, rfl, rfl, rfl, rfl, rfl, rfl, rfl, rfl, rfl, rfl, rfl, rfl, rfl, rfl, rfl, rfl, rfl, rfl, rfl, rfl, rfl, rfl, rfl, rfl, rfl, rfl, rfl, rfl, rfl, rfl, rfl, rfl, rfl, rfl, rfl, rfl, rfl, rfl, rfl, rfl, rfl, rfl, rfl, rfl, rfl, rfl⟩
theorem Km29.tr {u v w : St} (h1 : Km29 u v) (h2 : Km29 v w) : Km29 u w := ⟨(h2.1).trans h1.1, (h2.2.1).trans h1.2.1, (h2.2.2.1).trans h1.2.2.1, (h2.2.2.2.1).trans h1.2.2.2.1, (h2.2.2.2.2.1).trans h1.2.2.2.2.1, (h2.2.2.2.2.2.1).trans h1.2.2.2.2.2.1, (h2.2.2.2.2.2.2.1).trans h1.2.2.2.2.2.2.1, (h2.2.2.2.2.2.2.2.1).trans h1.2.2.2.2.2.2.2.1, (h2.2.2.2.2.2.2.2.2.1).trans h1.2.2.2.2.2.2.2.2.1, (h2.2.2.2.2.2.2.2.2.2.1).trans h1.2.2.2.2.2.2.2.2.2.1, (h2.2.2.2.2.2.2.2.2.2.2.1).trans h1.2.2.2.2.2.2.2.2.2.2.1, (h2.2.2.2.2.2.2.2.2.2.2.2.1).trans h1.2.2.2.2.2.2.2.2.2.2.2.1, (h2.2.2.2.2.2.2.2.2.2.2.2.2.1).trans h1.2.2.2.2.2.2.2.2.2.2.2.2.1, (h2.2.2.2.2.2.2.2.2.2.2.2.2.2.1).trans h1.2.2.2.2.2.2.2.2.2.2.2.2.2.1, (h2.2.2.2.2.2.2.2.2.2.2.2.2.2.2.1).trans h1.2.2.2.2.2.2.2.2.2.2.2.2.2.2.1, (h2.2.2.2.2.2.2.2.2.2.2.2.2.2.2.2.1).trans h1.2.2.2.2.2.2.2.2.2.2.2.2.2.2.2.1, (h2.2.2.2.2.2.2.2.2.2.2.2.2.2.2.2.2.1).trans h1.2.2.2.2.2.2.2.2.2.2.2.2.2.2.2.2.1, (h2.2.2.2.2.2.2.2.2.2.2.2.2.2.2.2.2.2.1).trans h1.2.2.2.2.2.2.2.2.2.2.2.2.2.2.2.2.2.1, (h2.2.2.2.2.2.2.2.2.2.2.2.2.2.2.2.2.2.2.1).trans h1.2.2.2.2.2.2.2.2.2.2.2.2.2.2.2.2.2.2.1, (h2.2.2.2.2.2.2.2.2.2.2.2.2.2.2.2.2.2.2.2.1).trans h1.2.2.2.2.2.2.2.2.2.2.2.2.2.2.2.2.2.2.2.1, (h2.2.2.2.2.2.2.2.2.2.2.2.2.2.2.2.2.2.2.2.2.1).trans h1.2.2.2.2.2.2.2.2.2.2.2.2.2.2.2.2.2.2.2.2.1, (h2.2.2.2.2.2.2.2.2.2.2.2.2.2.2.2.2.2.2.2.2.2.1).trans h1.2.2.2.2.2.2.2.2.2.2.2.2.2.2.2.2.2.2.2.2.2.1, (h2.2.2.2.2.2.2.2.2.2.2.2.2.2.2.2.2.2.2.2.2.2.2.1).trans h1.2.2.2.2.2.2.2.2.2.2.2.2.2.2.2.2.2.2.2.2.2.2.1, (h2.2.2.2.2.2.2.2.2.2.2.2.2.2.2.2.2.2.2.2.2.2.2.2.1).trans h1.2.2.2.2.2.2.2.2.2.2.2.2.2.2.2.2.2.2.2.2.2.2.2.1, (h2.2.2.2.2.2.2.2.2.2.2.2.2.2.2.2.2.2.2.2.2.2.2.2.2.1).trans h1.2.2.2.2.2.2.2.2.2.2.2.2.2.2.2.2.2.2.2.2.2.2.2.2.1, (h2.2.2.2.2.2.2.2.2.2.2.2.2.2.2.2.2.2.2.2.2.2.2.2.2.2.1).trans h1.2.2.2.2.2.2.2.2.2.2.2.2.2.2.2.2.2.2.2.2.2.2.2.2.2.1, (h2.2.2.2.2.2.2.2.2.2.2.2.2.2.2.2.2.2.2.2.2.2.2.2.2.2.2.1).trans h1.2.2.2.2.2.2.2.2.2.2.2.2.2.2.2.2.2.2.2.2.2.2.2.2.2.2.1, (h2.2.2.2.2.2.2.2.2.2.2.2.2.2.2.2.2.2.2.2.2.2.2.2.2.2.2.2.1).trans h1.2.2.2.2.2.2.2.2.2.2.2.2.2.2.2.2.2.2.2.2.2.2.2.2.2.2.2.1, (h2.2.2.2.2.2.2.2.2.2.2.2.2.2.2.2.2.2.2.2.2.2.2.2.2.2.2.2.2.1).trans h1.2.2.2.2.2.2.2.2.2.2.2.2.2.2.2.2.2.2.2.2.2.2.2.2.2.2.2.2.1, (h2.2.2.2.2.2.2.2.2.2.2.2.2.2.2.2.2.2.2.2.2.2.2.2.2.2.2.2.2.2.1).trans h1.2.2.2.2.2.2.2.2.2.2.2.2.2.2.2.2.2.2.2.2.2.2.2.2.2.2.2.2.2.1, (h2.2.2.2.2.2.2.2.2.2.2.2.2.2.2.2.2.2.2.2.2.2.2.2.2.2.2.2.2.2.2.1).trans h1.2.2.2.2.2.2.2.2.2.2.2.2.2.2.2.2.2.2.2.2.2.2.2.2.2.2.2.2.2.2.1, (h2.2.2.2.2.2.2.2.2.2.2.2.2.2.2.2.2.2.2.2.2.2.2.2.2.2.2.2.2.2.2.2.1).trans h1.2.2.2.2.2.2.2.2.2.2.2.2.2.2.2.2.2.2.2.2.2.2.2.2.2.2.2.2.2.2.2.1, (h2.2.2.2.2.2.2.2.2.2.2.2.2.2.2.2.2.2.2.2.2.2.2.2.2.2.2.2.2.2.2.2.2.1).trans h1.2.2.2.2.2.2.2.2.2.2.2.2.2.2.2.2.2.2.2.2.2.2.2.2.2.2.2.2.2.2.2.2.1, (h2.2.2.2.2.2.2.2.2.2.2.2.2.2.2.2.2.2.2.2.2.2.2.2.2.2.2.2.2.2.2.2.2.2.1).trans h1.2.2.2.2.2.2.2.2.2.2.2.2.2.2.2.2.2.2.2.2.2.2.2.2.2.2.2.2.2.2.2.2.2.1, (h2.2.2.2.2.2.2.2.2.2.2.2.2.2.2.2.2.2.2.2.2.2.2.2.2.2.2.2.2.2.2.2.2.2.2.1).trans h1.2.2.2.2.2.2.2.2.2.2.2.2.2.2.2.2.2.2.2.2.2.2.2.2.2.2.2.2.2.2.2.2.2.2.1, (h2.2.2.2.2.2.2.2.2.2.2.2.2.2.2.2.2.2.2.2.2.2.2.2.2.2.2.2.2.2.2.2.2.2.2.2.1).trans h1.2.2.2.2.2.2.2.2.2.2.2.2.2.2.2.2.2.2.2.2.2.2.2.2.2.2.2.2.2.2.2.2.2.2.2.1, (h2.2.2.2.2.2.2.2.2.2.2.2.2.2.2.2.2.2.2.2.2.2.2.2.2.2.2.2.2.2.2.2.2.2.2.2.2.1).trans h1.2.2.2.2.2.2.2.2.2.2.2.2.2.2.2.2.2.2.2.2.2.2.2.2.2.2.2.2.2.2.2.2.2.2.2.2.1, (h2.2.2.2.2.2.2.2.2.2.2.2.2.2.2.2.2.2.2.2.2.2.2.2.2.2.2.2.2.2.2.2.2.2.2.2.2.2.1).trans h1.2.2.2.2.2.2.2.2.2.2.2.2.2.2.2.2.2.2.2.2.2.2.2.2.2.2.2.2.2.2.2.2.2.2.2.2.2.1, (h2.2.2.2.2.2.2.2.2.2.2.2.2.2.2.2.2.2.2.2.2.2.2.2.2.2.2.2.2.2.2.2.2.2.2.2.2.2.2.1).trans h1.2.2.2.2.2.2.2.2.2.2.2.2.2.2.2.2.2.2.2.2.2.2.2.2.2.2.2.2.2.2.2.2.2.2.2.2.2.2.1, (h2.2.2.2.2.2.2.2.2.2.2.2.2.2.2.2.2.2.2.2.2.2.2.2.2.2.2.2.2.2.2.2.2.2.2.2.2.2.2.2.1).trans h1.2.2.2.2.2.2.2.2.2.2.2.2.2.2.2.2.2.2.2.2.2.2.2.2.2.2.2.2.2.2.2.2.2.2.2.2.2.2.2.1, (h2.2.2.2.2.2.2.2.2.2.2.2.2.2.2.2.2.2.2.2.2.2.2.2.2.2.2.2.2.2.2.2.2.2.2.2.2.2.2.2.2.1).trans h1.2.2.2.2.2.2.2.2.2.2.2.2.2.2.2.2.2.2.2.2.2.2.2.2.2.2.2.2.2.2.2.2.2.2.2.2.2.2.2.2.1, (h2.2.2.2.2.2.2.2.2.2.2.2.2.2.2.2.2.2.2.2.2.2.2.2.2.2.2.2.2.2.2.2.2.2.2.2.2.2.2.2.2.2.1).trans h1.2.2.2.2.2.2.2.2.2.2.2.2.2.2.2.2.2.2.2.2.2.2.2.2.2.2.2.2.2.2.2.2.2.2.2.2.2.2.2.2.2.1, (h2.2.2.2.2.2.2.2.2.2.2.2.2.2.2.2.2.2.2.2.2.2.2.2.2.2.2.2.2.2.2.2.2.2.2.2.2.2.2.2.2.2.2.1).trans h1.2.2.2.2.2.2.2.2.2.2.2.2.2.2.2.2.2.2.2.2.2.2.2.2.2.2.2.2.2.2.2.2.2.2.2.2.2.2.2.2.2.2.1, (h2.2.2.2.2.2.2.2.2.2.2.2.2.2.2.2.2.2.2.2.2.2.2.2.2.2.2.2.2.2.2.2.2.2.2.2.2.2.2.2.2.2.2.2.1).trans h1.2.2.2.2.2.2.2.2.2.2.2.2.2.2.2.2.2.2.2.2.2.2.2.2.2.2.2.2.2.2.2.2.2.2.2.2.2.2.2.2.2.2.2.1, (h2.2.2.2.2.2.2.2.2.2.2.2.2.2.2.2.2.2.2.2.2.2.2.2.2.2.2.2.2.2.2.2.2.2.2.2.2.2.2.2.2.2.2.2.2.1).trans h1.2.2.2.2.2.2.2.2.2.2.2.2.2.2.2.2.2.2.2.2.2.2.2.2.2.2.2.2.2.2.2.2.2.2.2.2.2.2.2.2.2.2.2.2.1, (h2.2.2.2.2.2.2.2.2.2.2.2.2.2.2.2.2.2.2.2.2.2.2.2.2.2.2.2.2.2.2.2.2.2.2.2.2.2.2.2.2.2.2.2.2.2.1).trans h1.2.2.2.2.2.2.2.2.2.2.2.2.2.2.2.2.2.2.2.2.2.2.2.2.2.2.2.2.2.2.2.2.2.2.2.2.2.2.2.2.2.2.2.2.2.1, (h2.2.2.2.2.2.2.2.2.2.2.2.2.2.2.2.2.2.2.2.2.2.2.2.2.2.2.2.2.2.2.2.2.2.2.2.2.2.2.2.2.2.2.2.2.2.2.1).trans h1.2.2.2.2.2.2.2.2.2.2.2.2.2.2.2.2.2.2.2.2.2.2.2.2.2.2.2.2.2.2.2.2.2.2.2.2.2.2.2.2.2.2.2.2.2.2.1, (h2.2.2.2.2.2.2.2.2.2.2.2.2.2.2.2.2.2.2.2.2.2.2.2.2.2.2.2.2.2.2.2.2.2.2.2.2.2.2.2.2.2.2.2.2.2.2.2.1).trans h1.2.2.2.2.2.2.2.2.2.2.2.2.2.2.2.2.2.2.2.2.2.2.2.2.2.2.2.2.2.2.2.2.2.2.2.2.2.2.2.2.2.2.2.2.2.2.2.1, (h2.2.2.2.2.2.2.2.2.2.2.2.2.2.2.2.2.2.2.2.2.2.2.2.2.2.2.2.2.2.2.2.2.2.2.2.2.2.2.2.2.2.2.2.2.2.2.2.2.1).trans h1.2.2.2.2.2.2.2.2.2.2.2.2.2.2.2.2.2.2.2.2.2.2.2.2.2.2.2.2.2.2.2.2.2.2.2.2.2.2.2.2.2.2.2.2.2.2.2.2.1, (h2.2.2.2.2.2.2.2.2.2.2.2.2.2.2.2.2.2.2.2.2.2.2.2.2.2.2.2.2.2.2.2.2.2.2.2.2.2.2.2.2.2.2.2.2.2.2.2.2.2.1).trans h1.2.2.2.2.2.2.2.2.2.2.2.2.2.2.2.2.2.2.2.2.2.2.2.2.2.2.2.2.2.2.2.2.2.2.2.2.2.2.2.2.2.2.2.2.2.2.2.2.2.1, (h2.2.2.2.2.2.2.2.2.2.2.2.2.2.2.2.2.2.2.2.2.2.2.2.2.2.2.2.2.2.2.2.2.2.2.2.2.2.2.2.2.2.2.2.2.2.2.2.2.2.2.1).trans h1.2.2.2.2.2.2.2.2.2.2.2.2.2.2.2.2.2.2.2.2.2.2.2.2.2.2.2.2.2.2.2.2.2.2.2.2.2.2.2.2.2.2.2.2.2.2.2.2.2.2.1, (h2.2.2.2.2.2.2.2.2.2.2.2.2.2.2.2.2.2.2.2.2.2.2.2.2.2.2.2.2.2.2.2.2.2.2.2.2.2.2.2.2.2.2.2.2.2.2.2.2.2.2.2.1).trans h1.2.2.2.2.2.2.2.2.2.2.2.2.2.2.2.2.2.2.2.2.2.2.2.2.2.2.2.2.2.2.2.2.2.2.2.2.2.2.2.2.2.2.2.2.2.2.2.2.2.2.2.1, (h2.2.2.2.2.2.2.2.2.2.2.2.2.2.2.2.2.2.2.2.2.2.2.2.2.2.2.2.2.2.2.2.2.2.2.2.2.2.2.2.2.2.2.2.2.2.2.2.2.2.2.2.2.1).trans h1.2.2.2.2.2.2.2.2.2.2.2.2.2.2.2.2.2.2.2.2.2.2.2.2.2.2.2.2.2.2.2.2.2.2.2.2.2.2.2.2.2.2.2.2.2.2.2.2.2.2.2.2.1, (h2.2.2.2.2.2.2.2.2.2.2.2.2.2.2.2.2.2.2.2.2.2.2.2.2.2.2.2.2.2.2.2.2.2.2.2.2.2.2.2.2.2.2.2.2.2.2.2.2.2.2.2.2.2).trans h1.2.2.2.2.2.2.2.2.2.2.2.2.2.2.2.2.2.2.2.2.2.2.2.2.2.2.2.2.2.2.2.2.2.2.2.2.2.2.2.2.2.2.2.2.2.2.2.2.2.2.2.2.2⟩
theorem dX11_readThread_0 : decode cX11_readThread 0 = .ok (.aload_n 0, 1) := by decide +kernel
theorem dX11_readThread_1 : decode cX11_readThread 1 = .ok (.aload_n 0, 1) := by decide +kernel
theorem dX11_readThread_2 : decode cX11_readThread 2 = .ok (.invokevirtual 275, 3) := by decide +kernel
theorem dX11_readThread_5 : decode cX11_readThread 5 = .ok (.invokevirtual 296, 3) := by decide +kernel
theorem dX11_readThread_8 : decode cX11_readThread 8 = .ok (.istore_n 1, 1) := by decide +kernel
theorem dX11_readThread_9 : decode cX11_readThread 9 = .ok (.aload_n 0, 1) := by decide +kernel
theorem dX11_readThread_10 : decode cX11_readThread 10 = .ok (.invokevirtual 236, 3) := by decide +kernel
theorem dX11_readThread_13 : decode cX11_readThread 13 = .ok (.ifCond .ne 4, 3) := by decide +kernel
theorem dX11_readThread_16 : decode cX11_readThread 16 = .ok (.return_, 1) := by decide +kernel
theorem dX11_readThread_17 : decode cX11_readThread 17 = .ok (.aload_n 0, 1) := by decide +kernel
theorem dX11_readThread_18 : decode cX11_readThread 18 = .ok (.invokevirtual 275, 3) := by decide +kernel
theorem dX11_readThread_21 : decode cX11_readThread 21 = .ok (.istore_n 2, 1) := by decide +kernel
theorem dX11_readThread_22 : decode cX11_readThread 22 = .ok (.iload_n 1, 1) := by decide +kernel
theorem dX11_readThread_23 : decode cX11_readThread 23 = .ok (.iload_n 2, 1) := by decide +kernel
theorem dX11_readThread_24 : decode cX11_readThread 24 = .ok (.if_icmp .ne 12, 3) := by decide +kernel
theorem dX11_readThread_27 : decode cX11_readThread 27 = .ok (.aload_n 0, 1) := by decide +kernel
theorem dX11_readThread_28 : decode cX11_readThread 28 = .ok (.iconst 3, 1) := by decide +kernel
theorem dX11_readThread_29 : decode cX11_readThread 29 = .ok (.aload_n 0, 1) := by decide +kernel
theorem dX11_readThread_30 : decode cX11_readThread 30 = .ok (.getfield 201, 3) := by decide +kernel
theorem dX11_readThread_33 : decode cX11_readThread 33 = .ok (.invokevirtual 232, 3) := by decide +kernel
theorem dX11_readThread_36 : decode cX11_readThread 36 = .ok (.iconst 0, 1) := by decide +kernel
theorem dX11_readThread_37 : decode cX11_readThread 37 = .ok (.istore_n 3, 1) := by decide +kernel
theorem dX11_readThread_38 : decode cX11_readThread 38 = .ok (.iload_n 3, 1) := by decide +kernel
theorem dX11_readThread_39 : decode cX11_readThread 39 = .ok (.aload_n 0, 1) := by decide +kernel
theorem dX11_readThread_40 : decode cX11_readThread 40 = .ok (.getfield 24, 3) := by decide +kernel
theorem dX11_readThread_43 : decode cX11_readThread 43 = .ok (.aload_n 0, 1) := by decide +kernel
theorem dX11_readThread_44 : decode cX11_readThread 44 = .ok (.getfield 246, 3) := by decide +kernel
theorem dX11_readThread_47 : decode cX11_readThread 47 = .ok (.iaload, 1) := by decide +kernel
theorem dX11_readThread_48 : decode cX11_readThread 48 = .ok (.if_icmp .ge 32, 3) := by decide +kernel
theorem dX11_readThread_51 : decode cX11_readThread 51 = .ok (.iload_n 2, 1) := by decide +kernel
theorem dX11_readThread_52 : decode cX11_readThread 52 = .ok (.ifCond .lt 22, 3) := by decide +kernel
theorem dX11_readThread_55 : decode cX11_readThread 55 = .ok (.aload_n 0, 1) := by decide +kernel
theorem dX11_readThread_56 : decode cX11_readThread 56 = .ok (.iload_n 3, 1) := by decide +kernel
theorem dX11_readThread_57 : decode cX11_readThread 57 = .ok (.iload_n 1, 1) := by decide +kernel
theorem dX11_readThread_58 : decode cX11_readThread 58 = .ok (.iload_n 2, 1) := by decide +kernel
theorem dX11_readThread_59 : decode cX11_readThread 59 = .ok (.invokevirtual 312, 3) := by decide +kernel
theorem dX11_readThread_62 : decode cX11_readThread 62 = .ok (.ifCond .eq 12, 3) := by decide +kernel
theorem dX11_readThread_65 : decode cX11_readThread 65 = .ok (.aload_n 0, 1) := by decide +kernel
theorem dX11_readThread_66 : decode cX11_readThread 66 = .ok (.iconst 3, 1) := by decide +kernel
theorem dX11_readThread_67 : decode cX11_readThread 67 = .ok (.aload_n 0, 1) := by decide +kernel
theorem dX11_readThread_68 : decode cX11_readThread 68 = .ok (.getfield 201, 3) := by decide +kernel
theorem dX11_readThread_71 : decode cX11_readThread 71 = .ok (.invokevirtual 232, 3) := by decide +kernel
theorem dX11_readThread_74 : decode cX11_readThread 74 = .ok (.iinc 3 1, 3) := by decide +kernel
theorem dX11_readThread_77 : decode cX11_readThread 77 = .ok (.goto (-39), 3) := by decide +kernel
theorem dX11_readThread_80 : decode cX11_readThread 80 = .ok (.aload_n 0, 1) := by decide +kernel
theorem dX11_readThread_81 : decode cX11_readThread 81 = .ok (.getfield 51, 3) := by decide +kernel
theorem dX11_readThread_84 : decode cX11_readThread 84 = .ok (.bipush 14, 2) := by decide +kernel
theorem dX11_readThread_86 : decode cX11_readThread 86 = .ok (.aload_n 0, 1) := by decide +kernel
theorem dX11_readThread_87 : decode cX11_readThread 87 = .ok (.getfield 246, 3) := by decide +kernel
theorem dX11_readThread_90 : decode cX11_readThread 90 = .ok (.imul, 1) := by decide +kernel
theorem dX11_readThread_91 : decode cX11_readThread 91 = .ok (.aload_n 0, 1) := by decide +kernel
theorem dX11_readThread_92 : decode cX11_readThread 92 = .ok (.getfield 24, 3) := by decide +kernel
theorem dX11_readThread_95 : decode cX11_readThread 95 = .ok (.aload_n 0, 1) := by decide +kernel
theorem dX11_readThread_96 : decode cX11_readThread 96 = .ok (.getfield 246, 3) := by decide +kernel
theorem dX11_readThread_99 : decode cX11_readThread 99 = .ok (.iaload, 1) := by decide +kernel
theorem dX11_readThread_100 : decode cX11_readThread 100 = .ok (.iadd, 1) := by decide +kernel
theorem dX11_readThread_101 : decode cX11_readThread 101 = .ok (.iload_n 1, 1) := by decide +kernel
theorem dX11_readThread_102 : decode cX11_readThread 102 = .ok (.iastore, 1) := by decide +kernel
theorem dX11_readThread_103 : decode cX11_readThread 103 = .ok (.aload_n 0, 1) := by decide +kernel
theorem dX11_readThread_104 : decode cX11_readThread 104 = .ok (.getfield 54, 3) := by decide +kernel
theorem dX11_readThread_107 : decode cX11_readThread 107 = .ok (.bipush 14, 2) := by decide +kernel
theorem dX11_readThread_109 : decode cX11_readThread 109 = .ok (.aload_n 0, 1) := by decide +kernel
theorem dX11_readThread_110 : decode cX11_readThread 110 = .ok (.getfield 246, 3) := by decide +kernel
theorem dX11_readThread_113 : decode cX11_readThread 113 = .ok (.imul, 1) := by decide +kernel
theorem dX11_readThread_114 : decode cX11_readThread 114 = .ok (.aload_n 0, 1) := by decide +kernel
theorem dX11_readThread_115 : decode cX11_readThread 115 = .ok (.getfield 24, 3) := by decide +kernel
theorem dX11_readThread_118 : decode cX11_readThread 118 = .ok (.aload_n 0, 1) := by decide +kernel
theorem dX11_readThread_119 : decode cX11_readThread 119 = .ok (.getfield 246, 3) := by decide +kernel
theorem dX11_readThread_122 : decode cX11_readThread 122 = .ok (.iaload, 1) := by decide +kernel
theorem dX11_readThread_123 : decode cX11_readThread 123 = .ok (.iadd, 1) := by decide +kernel
theorem dX11_readThread_124 : decode cX11_readThread 124 = .ok (.aload_n 0, 1) := by decide +kernel
theorem dX11_readThread_125 : decode cX11_readThread 125 = .ok (.iload_n 2, 1) := by decide +kernel
theorem dX11_readThread_126 : decode cX11_readThread 126 = .ok (.invokevirtual 296, 3) := by decide +kernel
theorem dX11_readThread_129 : decode cX11_readThread 129 = .ok (.iastore, 1) := by decide +kernel
theorem dX11_readThread_130 : decode cX11_readThread 130 = .ok (.aload_n 0, 1) := by decide +kernel
theorem dX11_readThread_131 : decode cX11_readThread 131 = .ok (.invokevirtual 236, 3) := by decide +kernel
theorem dX11_readThread_134 : decode cX11_readThread 134 = .ok (.ifCond .eq 40, 3) := by decide +kernel
theorem dX11_readThread_137 : decode cX11_readThread 137 = .ok (.aload_n 0, 1) := by decide +kernel
theorem dX11_readThread_138 : decode cX11_readThread 138 = .ok (.ldc2_w 162, 3) := by decide +kernel
theorem dX11_readThread_141 : decode cX11_readThread 141 = .ok (.invokevirtual 261, 3) := by decide +kernel
theorem dX11_readThread_144 : decode cX11_readThread 144 = .ok (.ifCond .eq 30, 3) := by decide +kernel
theorem dX11_readThread_147 : decode cX11_readThread 147 = .ok (.aload_n 0, 1) := by decide +kernel
theorem dX11_readThread_148 : decode cX11_readThread 148 = .ok (.getfield 48, 3) := by decide +kernel
theorem dX11_readThread_151 : decode cX11_readThread 151 = .ok (.aload_n 0, 1) := by decide +kernel
theorem dX11_readThread_152 : decode cX11_readThread 152 = .ok (.getfield 246, 3) := by decide +kernel
theorem dX11_readThread_155 : decode cX11_readThread 155 = .ok (.dup2, 1) := by decide +kernel
theorem dX11_readThread_156 : decode cX11_readThread 156 = .ok (.iaload, 1) := by decide +kernel
theorem dX11_readThread_157 : decode cX11_readThread 157 = .ok (.iconst 1, 1) := by decide +kernel
theorem dX11_readThread_158 : decode cX11_readThread 158 = .ok (.aload_n 0, 1) := by decide +kernel
theorem dX11_readThread_159 : decode cX11_readThread 159 = .ok (.getfield 24, 3) := by decide +kernel
theorem dX11_readThread_162 : decode cX11_readThread 162 = .ok (.aload_n 0, 1) := by decide +kernel
theorem dX11_readThread_163 : decode cX11_readThread 163 = .ok (.getfield 246, 3) := by decide +kernel
theorem dX11_readThread_166 : decode cX11_readThread 166 = .ok (.iaload, 1) := by decide +kernel
theorem dX11_readThread_167 : decode cX11_readThread 167 = .ok (.ishl, 1) := by decide +kernel
theorem dX11_readThread_168 : decode cX11_readThread 168 = .ok (.ior, 1) := by decide +kernel
theorem dX11_readThread_169 : decode cX11_readThread 169 = .ok (.iastore, 1) := by decide +kernel
theorem dX11_readThread_170 : decode cX11_readThread 170 = .ok (.aload_n 0, 1) := by decide +kernel
theorem dX11_readThread_171 : decode cX11_readThread 171 = .ok (.invokevirtual 240, 3) := by decide +kernel
theorem dX11_readThread_174 : decode cX11_readThread 174 = .ok (.aload_n 0, 1) := by decide +kernel
theorem dX11_readThread_175 : decode cX11_readThread 175 = .ok (.getfield 24, 3) := by decide +kernel
theorem dX11_readThread_178 : decode cX11_readThread 178 = .ok (.aload_n 0, 1) := by decide +kernel
theorem dX11_readThread_179 : decode cX11_readThread 179 = .ok (.getfield 246, 3) := by decide +kernel
theorem dX11_readThread_182 : decode cX11_readThread 182 = .ok (.dup2, 1) := by decide +kernel
theorem dX11_readThread_183 : decode cX11_readThread 183 = .ok (.iaload, 1) := by decide +kernel
theorem dX11_readThread_184 : decode cX11_readThread 184 = .ok (.iconst 1, 1) := by decide +kernel
theorem dX11_readThread_185 : decode cX11_readThread 185 = .ok (.iadd, 1) := by decide +kernel
theorem dX11_readThread_186 : decode cX11_readThread 186 = .ok (.iastore, 1) := by decide +kernel
theorem dX11_readThread_187 : decode cX11_readThread 187 = .ok (.return_, 1) := by decide +kernel
theorem wd_1638 : (Cond.code ⟨"WebCourtModel", "readThread", "()V"⟩ prog_13_method_26_code (4 : Nat) (Option.none : Option FieldType)) ∈ gtb := gtb_c7 89 (by decide +kernel) rfl
theorem wd_1623 : (Cond.methodLink "WebCourtModel" (275 : Nat) ⟨"WebCourtModel", "knotHere", "()I"⟩) ∈ gtb := gtb_c7 74 (by decide +kernel) rfl
theorem wd_1625 : (Cond.instanceMethod ⟨"WebCourtModel", "knotHere", "()I"⟩) ∈ gtb := gtb_c7 76 (by decide +kernel) rfl
theorem wd_56 : (Cond.selects "WebCourtModel" ⟨"WebCourtModel", "knotHere", "()I"⟩ ⟨"WebCourtModel", "knotHere", "()I"⟩) ∈ gtb := gtb_p 56 (by decide +kernel) rfl
theorem hd_yX11_knotHere : yX11_knotHere.cls = RX11 ∧ yX11_knotHere.cls ≠ "java/lang/invoke/MethodHandle" ∧ yX11_knotHere.cls ≠ "java/lang/invoke/VarHandle" ∧ (parseMethodDescriptor yX11_knotHere.desc).map (fun d => d.parameters.length) = some 0 := by decide +kernel
theorem wd_1639 : (Cond.methodLink "WebCourtModel" (296 : Nat) ⟨"WebCourtModel", "known", "(I)I"⟩) ∈ gtb := gtb_c7 90 (by decide +kernel) rfl
theorem wd_1641 : (Cond.instanceMethod ⟨"WebCourtModel", "known", "(I)I"⟩) ∈ gtb := gtb_c7 92 (by decide +kernel) rfl
theorem wd_60 : (Cond.selects "WebCourtModel" ⟨"WebCourtModel", "known", "(I)I"⟩ ⟨"WebCourtModel", "known", "(I)I"⟩) ∈ gtb := gtb_p 60 (by decide +kernel) rfl
theorem hd_yX11_known : yX11_known.cls = RX11 ∧ yX11_known.cls ≠ "java/lang/invoke/MethodHandle" ∧ yX11_known.cls ≠ "java/lang/invoke/VarHandle" ∧ (parseMethodDescriptor yX11_known.desc).map (fun d => d.parameters.length) = some 1 := by decide +kernel
theorem Km27_to_Km29 {u v : St} (h : Km27 u v) : Km29 u v := ⟨h.1, h.2.1, h.2.2.1, h.2.2.2.1, h.2.2.2.2.1, h.2.2.2.2.2.1, h.2.2.2.2.2.2.1, h.2.2.2.2.2.2.2.1, h.2.2.2.2.2.2.2.2.1, h.2.2.2.2.2.2.2.2.2.1, h.2.2.2.2.2.2.2.2.2.2.1, h.2.2.2.2.2.2.2.2.2.2.2.1, h.2.2.2.2.2.2.2.2.2.2.2.2.1, h.2.2.2.2.2.2.2.2.2.2.2.2.2.1, h.2.2.2.2.2.2.2.2.2.2.2.2.2.2.1, h.2.2.2.2.2.2.2.2.2.2.2.2.2.2.2.1, h.2.2.2.2.2.2.2.2.2.2.2.2.2.2.2.2.1, h.2.2.2.2.2.2.2.2.2.2.2.2.2.2.2.2.2.1, h.2.2.2.2.2.2.2.2.2.2.2.2.2.2.2.2.2.2.1, h.2.2.2.2.2.2.2.2.2.2.2.2.2.2.2.2.2.2.2.2.1, h.2.2.2.2.2.2.2.2.2.2.2.2.2.2.2.2.2.2.2.2.2.1, h.2.2.2.2.2.2.2.2.2.2.2.2.2.2.2.2.2.2.2.2.2.2.1, h.2.2.2.2.2.2.2.2.2.2.2.2.2.2.2.2.2.2.2.2.2.2.2.1, h.2.2.2.2.2.2.2.2.2.2.2.2.2.2.2.2.2.2.2.2.2.2.2.2.1, h.2.2.2.2.2.2.2.2.2.2.2.2.2.2.2.2.2.2.2.2.2.2.2.2.2.1, h.2.2.2.2.2.2.2.2.2.2.2.2.2.2.2.2.2.2.2.2.2.2.2.2.2.2.1, h.2.2.2.2.2.2.2.2.2.2.2.2.2.2.2.2.2.2.2.2.2.2.2.2.2.2.2.2.2.2.1, h.2.2.2.2.2.2.2.2.2.2.2.2.2.2.2.2.2.2.2.2.2.2.2.2.2.2.2.2.2.2.2.1, h.2.2.2.2.2.2.2.2.2.2.2.2.2.2.2.2.2.2.2.2.2.2.2.2.2.2.2.2.2.2.2.2.1, h.2.2.2.2.2.2.2.2.2.2.2.2.2.2.2.2.2.2.2.2.2.2.2.2.2.2.2.2.2.2.2.2.2.1, h.2.2.2.2.2.2.2.2.2.2.2.2.2.2.2.2.2.2.2.2.2.2.2.2.2.2.2.2.2.2.2.2.2.2.1, h.2.2.2.2.2.2.2.2.2.2.2.2.2.2.2.2.2.2.2.2.2.2.2.2.2.2.2.2.2.2.2.2.2.2.2.1, h.2.2.2.2.2.2.2.2.2.2.2.2.2.2.2.2.2.2.2.2.2.2.2.2.2.2.2.2.2.2.2.2.2.2.2.2.1, h.2.2.2.2.2.2.2.2.2.2.2.2.2.2.2.2.2.2.2.2.2.2.2.2.2.2.2.2.2.2.2.2.2.2.2.2.2.1, h.2.2.2.2.2.2.2.2.2.2.2.2.2.2.2.2.2.2.2.2.2.2.2.2.2.2.2.2.2.2.2.2.2.2.2.2.2.2.1, h.2.2.2.2.2.2.2.2.2.2.2.2.2.2.2.2.2.2.2.2.2.2.2.2.2.2.2.2.2.2.2.2.2.2.2.2.2.2.2.1, h.2.2.2.2.2.2.2.2.2.2.2.2.2.2.2.2.2.2.2.2.2.2.2.2.2.2.2.2.2.2.2.2.2.2.2.2.2.2.2.2.1, h.2.2.2.2.2.2.2.2.2.2.2.2.2.2.2.2.2.2.2.2.2.2.2.2.2.2.2.2.2.2.2.2.2.2.2.2.2.2.2.2.2.1, h.2.2.2.2.2.2.2.2.2.2.2.2.2.2.2.2.2.2.2.2.2.2.2.2.2.2.2.2.2.2.2.2.2.2.2.2.2.2.2.2.2.2.1, h.2.2.2.2.2.2.2.2.2.2.2.2.2.2.2.2.2.2.2.2.2.2.2.2.2.2.2.2.2.2.2.2.2.2.2.2.2.2.2.2.2.2.2.1, h.2.2.2.2.2.2.2.2.2.2.2.2.2.2.2.2.2.2.2.2.2.2.2.2.2.2.2.2.2.2.2.2.2.2.2.2.2.2.2.2.2.2.2.2.1, h.2.2.2.2.2.2.2.2.2.2.2.2.2.2.2.2.2.2.2.2.2.2.2.2.2.2.2.2.2.2.2.2.2.2.2.2.2.2.2.2.2.2.2.2.2.1, h.2.2.2.2.2.2.2.2.2.2.2.2.2.2.2.2.2.2.2.2.2.2.2.2.2.2.2.2.2.2.2.2.2.2.2.2.2.2.2.2.2.2.2.2.2.2.1, h.2.2.2.2.2.2.2.2.2.2.2.2.2.2.2.2.2.2.2.2.2.2.2.2.2.2.2.2.2.2.2.2.2.2.2.2.2.2.2.2.2.2.2.2.2.2.2.1, h.2.2.2.2.2.2.2.2.2.2.2.2.2.2.2.2.2.2.2.2.2.2.2.2.2.2.2.2.2.2.2.2.2.2.2.2.2.2.2.2.2.2.2.2.2.2.2.2.1, h.2.2.2.2.2.2.2.2.2.2.2.2.2.2.2.2.2.2.2.2.2.2.2.2.2.2.2.2.2.2.2.2.2.2.2.2.2.2.2.2.2.2.2.2.2.2.2.2.2.1, h.2.2.2.2.2.2.2.2.2.2.2.2.2.2.2.2.2.2.2.2.2.2.2.2.2.2.2.2.2.2.2.2.2.2.2.2.2.2.2.2.2.2.2.2.2.2.2.2.2.2.1, h.2.2.2.2.2.2.2.2.2.2.2.2.2.2.2.2.2.2.2.2.2.2.2.2.2.2.2.2.2.2.2.2.2.2.2.2.2.2.2.2.2.2.2.2.2.2.2.2.2.2.2.1, h.2.2.2.2.2.2.2.2.2.2.2.2.2.2.2.2.2.2.2.2.2.2.2.2.2.2.2.2.2.2.2.2.2.2.2.2.2.2.2.2.2.2.2.2.2.2.2.2.2.2.2.2.1, h.2.2.2.2.2.2.2.2.2.2.2.2.2.2.2.2.2.2.2.2.2.2.2.2.2.2.2.2.2.2.2.2.2.2.2.2.2.2.2.2.2.2.2.2.2.2.2.2.2.2.2.2.2.1, h.2.2.2.2.2.2.2.2.2.2.2.2.2.2.2.2.2.2.2.2.2.2.2.2.2.2.2.2.2.2.2.2.2.2.2.2.2.2.2.2.2.2.2.2.2.2.2.2.2.2.2.2.2.2.1, h.2.2.2.2.2.2.2.2.2.2.2.2.2.2.2.2.2.2.2.2.2.2.2.2.2.2.2.2.2.2.2.2.2.2.2.2.2.2.2.2.2.2.2.2.2.2.2.2.2.2.2.2.2.2.2.1, h.2.2.2.2.2.2.2.2.2.2.2.2.2.2.2.2.2.2.2.2.2.2.2.2.2.2.2.2.2.2.2.2.2.2.2.2.2.2.2.2.2.2.2.2.2.2.2.2.2.2.2.2.2.2.2.2.1, h.2.2.2.2.2.2.2.2.2.2.2.2.2.2.2.2.2.2.2.2.2.2.2.2.2.2.2.2.2.2.2.2.2.2.2.2.2.2.2.2.2.2.2.2.2.2.2.2.2.2.2.2.2.2.2.2.2⟩
theorem Km29_I3 {u v : St} (h : Km29 u v) : fI v 0 3 = fI u 0 3 := h.2.1
theorem Km29_I37 {u v : St} (h : Km29 u v) : fI v 0 37 = fI u 0 37 := h.2.2.2.1
theorem Km29_A3 {u v : St} (h : Km29 u v) : fA v 3 = fA u 3 := h.2.2.2.2.2.2.2.2.2.2.2.2.2.2.2.2.2.2.1
theorem Km29_wA13 {u v : St} {D : va_G} {A : Nat → Prop} {cy : Nat → ClassId} {a : Nat → Nat} {hp H : Heap} {locs : List Loc} {f : Nat → Int32} (_ : Wo D A (mW cy a (sA v 13 f)) hp H locs) (h : Km29 u v) : Km29 u (sA v 13 f) := ⟨h.1, h.2.1, h.2.2.1, h.2.2.2.1, h.2.2.2.2.1, h.2.2.2.2.2.1, h.2.2.2.2.2.2.1, h.2.2.2.2.2.2.2.1, h.2.2.2.2.2.2.2.2.1, h.2.2.2.2.2.2.2.2.2.1, h.2.2.2.2.2.2.2.2.2.2.1, h.2.2.2.2.2.2.2.2.2.2.2.1, h.2.2.2.2.2.2.2.2.2.2.2.2.1, h.2.2.2.2.2.2.2.2.2.2.2.2.2.1, h.2.2.2.2.2.2.2.2.2.2.2.2.2.2.1, h.2.2.2.2.2.2.2.2.2.2.2.2.2.2.2.1, h.2.2.2.2.2.2.2.2.2.2.2.2.2.2.2.2.1, h.2.2.2.2.2.2.2.2.2.2.2.2.2.2.2.2.2.1, h.2.2.2.2.2.2.2.2.2.2.2.2.2.2.2.2.2.2.1, h.2.2.2.2.2.2.2.2.2.2.2.2.2.2.2.2.2.2.2.1, h.2.2.2.2.2.2.2.2.2.2.2.2.2.2.2.2.2.2.2.2.1, h.2.2.2.2.2.2.2.2.2.2.2.2.2.2.2.2.2.2.2.2.2.1, h.2.2.2.2.2.2.2.2.2.2.2.2.2.2.2.2.2.2.2.2.2.2.1, h.2.2.2.2.2.2.2.2.2.2.2.2.2.2.2.2.2.2.2.2.2.2.2.1, h.2.2.2.2.2.2.2.2.2.2.2.2.2.2.2.2.2.2.2.2.2.2.2.2.1, h.2.2.2.2.2.2.2.2.2.2.2.2.2.2.2.2.2.2.2.2.2.2.2.2.2.1, h.2.2.2.2.2.2.2.2.2.2.2.2.2.2.2.2.2.2.2.2.2.2.2.2.2.2.1, h.2.2.2.2.2.2.2.2.2.2.2.2.2.2.2.2.2.2.2.2.2.2.2.2.2.2.2.1, h.2.2.2.2.2.2.2.2.2.2.2.2.2.2.2.2.2.2.2.2.2.2.2.2.2.2.2.2.1, h.2.2.2.2.2.2.2.2.2.2.2.2.2.2.2.2.2.2.2.2.2.2.2.2.2.2.2.2.2.1, h.2.2.2.2.2.2.2.2.2.2.2.2.2.2.2.2.2.2.2.2.2.2.2.2.2.2.2.2.2.2.1, h.2.2.2.2.2.2.2.2.2.2.2.2.2.2.2.2.2.2.2.2.2.2.2.2.2.2.2.2.2.2.2.1, h.2.2.2.2.2.2.2.2.2.2.2.2.2.2.2.2.2.2.2.2.2.2.2.2.2.2.2.2.2.2.2.2.1, h.2.2.2.2.2.2.2.2.2.2.2.2.2.2.2.2.2.2.2.2.2.2.2.2.2.2.2.2.2.2.2.2.2.1, h.2.2.2.2.2.2.2.2.2.2.2.2.2.2.2.2.2.2.2.2.2.2.2.2.2.2.2.2.2.2.2.2.2.2.1, h.2.2.2.2.2.2.2.2.2.2.2.2.2.2.2.2.2.2.2.2.2.2.2.2.2.2.2.2.2.2.2.2.2.2.2.1, h.2.2.2.2.2.2.2.2.2.2.2.2.2.2.2.2.2.2.2.2.2.2.2.2.2.2.2.2.2.2.2.2.2.2.2.2.1, h.2.2.2.2.2.2.2.2.2.2.2.2.2.2.2.2.2.2.2.2.2.2.2.2.2.2.2.2.2.2.2.2.2.2.2.2.2.1, h.2.2.2.2.2.2.2.2.2.2.2.2.2.2.2.2.2.2.2.2.2.2.2.2.2.2.2.2.2.2.2.2.2.2.2.2.2.2.1, h.2.2.2.2.2.2.2.2.2.2.2.2.2.2.2.2.2.2.2.2.2.2.2.2.2.2.2.2.2.2.2.2.2.2.2.2.2.2.2.1, h.2.2.2.2.2.2.2.2.2.2.2.2.2.2.2.2.2.2.2.2.2.2.2.2.2.2.2.2.2.2.2.2.2.2.2.2.2.2.2.2.1, h.2.2.2.2.2.2.2.2.2.2.2.2.2.2.2.2.2.2.2.2.2.2.2.2.2.2.2.2.2.2.2.2.2.2.2.2.2.2.2.2.2.1, h.2.2.2.2.2.2.2.2.2.2.2.2.2.2.2.2.2.2.2.2.2.2.2.2.2.2.2.2.2.2.2.2.2.2.2.2.2.2.2.2.2.2.1, h.2.2.2.2.2.2.2.2.2.2.2.2.2.2.2.2.2.2.2.2.2.2.2.2.2.2.2.2.2.2.2.2.2.2.2.2.2.2.2.2.2.2.2.1, h.2.2.2.2.2.2.2.2.2.2.2.2.2.2.2.2.2.2.2.2.2.2.2.2.2.2.2.2.2.2.2.2.2.2.2.2.2.2.2.2.2.2.2.2.1, h.2.2.2.2.2.2.2.2.2.2.2.2.2.2.2.2.2.2.2.2.2.2.2.2.2.2.2.2.2.2.2.2.2.2.2.2.2.2.2.2.2.2.2.2.2.1, h.2.2.2.2.2.2.2.2.2.2.2.2.2.2.2.2.2.2.2.2.2.2.2.2.2.2.2.2.2.2.2.2.2.2.2.2.2.2.2.2.2.2.2.2.2.2.1, h.2.2.2.2.2.2.2.2.2.2.2.2.2.2.2.2.2.2.2.2.2.2.2.2.2.2.2.2.2.2.2.2.2.2.2.2.2.2.2.2.2.2.2.2.2.2.2.1, h.2.2.2.2.2.2.2.2.2.2.2.2.2.2.2.2.2.2.2.2.2.2.2.2.2.2.2.2.2.2.2.2.2.2.2.2.2.2.2.2.2.2.2.2.2.2.2.2.1, h.2.2.2.2.2.2.2.2.2.2.2.2.2.2.2.2.2.2.2.2.2.2.2.2.2.2.2.2.2.2.2.2.2.2.2.2.2.2.2.2.2.2.2.2.2.2.2.2.2.1, h.2.2.2.2.2.2.2.2.2.2.2.2.2.2.2.2.2.2.2.2.2.2.2.2.2.2.2.2.2.2.2.2.2.2.2.2.2.2.2.2.2.2.2.2.2.2.2.2.2.2.1, h.2.2.2.2.2.2.2.2.2.2.2.2.2.2.2.2.2.2.2.2.2.2.2.2.2.2.2.2.2.2.2.2.2.2.2.2.2.2.2.2.2.2.2.2.2.2.2.2.2.2.2.1, h.2.2.2.2.2.2.2.2.2.2.2.2.2.2.2.2.2.2.2.2.2.2.2.2.2.2.2.2.2.2.2.2.2.2.2.2.2.2.2.2.2.2.2.2.2.2.2.2.2.2.2.2.1, h.2.2.2.2.2.2.2.2.2.2.2.2.2.2.2.2.2.2.2.2.2.2.2.2.2.2.2.2.2.2.2.2.2.2.2.2.2.2.2.2.2.2.2.2.2.2.2.2.2.2.2.2.2⟩
theorem Km29_wA14 {u v : St} {D : va_G} {A : Nat → Prop} {cy : Nat → ClassId} {a : Nat → Nat} {hp H : Heap} {locs : List Loc} {f : Nat → Int32} (_ : Wo D A (mW cy a (sA v 14 f)) hp H locs) (h : Km29 u v) : Km29 u (sA v 14 f) := ⟨h.1, h.2.1, h.2.2.1, h.2.2.2.1, h.2.2.2.2.1, h.2.2.2.2.2.1, h.2.2.2.2.2.2.1, h.2.2.2.2.2.2.2.1, h.2.2.2.2.2.2.2.2.1, h.2.2.2.2.2.2.2.2.2.1, h.2.2.2.2.2.2.2.2.2.2.1, h.2.2.2.2.2.2.2.2.2.2.2.1, h.2.2.2.2.2.2.2.2.2.2.2.2.1, h.2.2.2.2.2.2.2.2.2.2.2.2.2.1, h.2.2.2.2.2.2.2.2.2.2.2.2.2.2.1, h.2.2.2.2.2.2.2.2.2.2.2.2.2.2.2.1, h.2.2.2.2.2.2.2.2.2.2.2.2.2.2.2.2.1, h.2.2.2.2.2.2.2.2.2.2.2.2.2.2.2.2.2.1, h.2.2.2.2.2.2.2.2.2.2.2.2.2.2.2.2.2.2.1, h.2.2.2.2.2.2.2.2.2.2.2.2.2.2.2.2.2.2.2.1, h.2.2.2.2.2.2.2.2.2.2.2.2.2.2.2.2.2.2.2.2.1, h.2.2.2.2.2.2.2.2.2.2.2.2.2.2.2.2.2.2.2.2.2.1, h.2.2.2.2.2.2.2.2.2.2.2.2.2.2.2.2.2.2.2.2.2.2.1, h.2.2.2.2.2.2.2.2.2.2.2.2.2.2.2.2.2.2.2.2.2.2.2.1, h.2.2.2.2.2.2.2.2.2.2.2.2.2.2.2.2.2.2.2.2.2.2.2.2.1, h.2.2.2.2.2.2.2.2.2.2.2.2.2.2.2.2.2.2.2.2.2.2.2.2.2.1, h.2.2.2.2.2.2.2.2.2.2.2.2.2.2.2.2.2.2.2.2.2.2.2.2.2.2.1, h.2.2.2.2.2.2.2.2.2.2.2.2.2.2.2.2.2.2.2.2.2.2.2.2.2.2.2.1, h.2.2.2.2.2.2.2.2.2.2.2.2.2.2.2.2.2.2.2.2.2.2.2.2.2.2.2.2.1, h.2.2.2.2.2.2.2.2.2.2.2.2.2.2.2.2.2.2.2.2.2.2.2.2.2.2.2.2.2.1, h.2.2.2.2.2.2.2.2.2.2.2.2.2.2.2.2.2.2.2.2.2.2.2.2.2.2.2.2.2.2.1, h.2.2.2.2.2.2.2.2.2.2.2.2.2.2.2.2.2.2.2.2.2.2.2.2.2.2.2.2.2.2.2.1, h.2.2.2.2.2.2.2.2.2.2.2.2.2.2.2.2.2.2.2.2.2.2.2.2.2.2.2.2.2.2.2.2.1, h.2.2.2.2.2.2.2.2.2.2.2.2.2.2.2.2.2.2.2.2.2.2.2.2.2.2.2.2.2.2.2.2.2.1, h.2.2.2.2.2.2.2.2.2.2.2.2.2.2.2.2.2.2.2.2.2.2.2.2.2.2.2.2.2.2.2.2.2.2.1, h.2.2.2.2.2.2.2.2.2.2.2.2.2.2.2.2.2.2.2.2.2.2.2.2.2.2.2.2.2.2.2.2.2.2.2.1, h.2.2.2.2.2.2.2.2.2.2.2.2.2.2.2.2.2.2.2.2.2.2.2.2.2.2.2.2.2.2.2.2.2.2.2.2.1, h.2.2.2.2.2.2.2.2.2.2.2.2.2.2.2.2.2.2.2.2.2.2.2.2.2.2.2.2.2.2.2.2.2.2.2.2.2.1, h.2.2.2.2.2.2.2.2.2.2.2.2.2.2.2.2.2.2.2.2.2.2.2.2.2.2.2.2.2.2.2.2.2.2.2.2.2.2.1, h.2.2.2.2.2.2.2.2.2.2.2.2.2.2.2.2.2.2.2.2.2.2.2.2.2.2.2.2.2.2.2.2.2.2.2.2.2.2.2.1, h.2.2.2.2.2.2.2.2.2.2.2.2.2.2.2.2.2.2.2.2.2.2.2.2.2.2.2.2.2.2.2.2.2.2.2.2.2.2.2.2.1, h.2.2.2.2.2.2.2.2.2.2.2.2.2.2.2.2.2.2.2.2.2.2.2.2.2.2.2.2.2.2.2.2.2.2.2.2.2.2.2.2.2.1, h.2.2.2.2.2.2.2.2.2.2.2.2.2.2.2.2.2.2.2.2.2.2.2.2.2.2.2.2.2.2.2.2.2.2.2.2.2.2.2.2.2.2.1, h.2.2.2.2.2.2.2.2.2.2.2.2.2.2.2.2.2.2.2.2.2.2.2.2.2.2.2.2.2.2.2.2.2.2.2.2.2.2.2.2.2.2.2.1, h.2.2.2.2.2.2.2.2.2.2.2.2.2.2.2.2.2.2.2.2.2.2.2.2.2.2.2.2.2.2.2.2.2.2.2.2.2.2.2.2.2.2.2.2.1, h.2.2.2.2.2.2.2.2.2.2.2.2.2.2.2.2.2.2.2.2.2.2.2.2.2.2.2.2.2.2.2.2.2.2.2.2.2.2.2.2.2.2.2.2.2.1, h.2.2.2.2.2.2.2.2.2.2.2.2.2.2.2.2.2.2.2.2.2.2.2.2.2.2.2.2.2.2.2.2.2.2.2.2.2.2.2.2.2.2.2.2.2.2.1, h.2.2.2.2.2.2.2.2.2.2.2.2.2.2.2.2.2.2.2.2.2.2.2.2.2.2.2.2.2.2.2.2.2.2.2.2.2.2.2.2.2.2.2.2.2.2.2.1, h.2.2.2.2.2.2.2.2.2.2.2.2.2.2.2.2.2.2.2.2.2.2.2.2.2.2.2.2.2.2.2.2.2.2.2.2.2.2.2.2.2.2.2.2.2.2.2.2.1, h.2.2.2.2.2.2.2.2.2.2.2.2.2.2.2.2.2.2.2.2.2.2.2.2.2.2.2.2.2.2.2.2.2.2.2.2.2.2.2.2.2.2.2.2.2.2.2.2.2.1, h.2.2.2.2.2.2.2.2.2.2.2.2.2.2.2.2.2.2.2.2.2.2.2.2.2.2.2.2.2.2.2.2.2.2.2.2.2.2.2.2.2.2.2.2.2.2.2.2.2.2.1, h.2.2.2.2.2.2.2.2.2.2.2.2.2.2.2.2.2.2.2.2.2.2.2.2.2.2.2.2.2.2.2.2.2.2.2.2.2.2.2.2.2.2.2.2.2.2.2.2.2.2.2.1, h.2.2.2.2.2.2.2.2.2.2.2.2.2.2.2.2.2.2.2.2.2.2.2.2.2.2.2.2.2.2.2.2.2.2.2.2.2.2.2.2.2.2.2.2.2.2.2.2.2.2.2.2.1, h.2.2.2.2.2.2.2.2.2.2.2.2.2.2.2.2.2.2.2.2.2.2.2.2.2.2.2.2.2.2.2.2.2.2.2.2.2.2.2.2.2.2.2.2.2.2.2.2.2.2.2.2.2⟩
theorem wd_1608 : (Cond.methodLink "WebCourtModel" (261 : Nat) ⟨"WebCourtModel", "isWord", "(J)Z"⟩) ∈ gtb := gtb_c7 59 (by decide +kernel) rfl
theorem wd_1610 : (Cond.instanceMethod ⟨"WebCourtModel", "isWord", "(J)Z"⟩) ∈ gtb := gtb_c7 61 (by decide +kernel) rfl
theorem wd_53 : (Cond.selects "WebCourtModel" ⟨"WebCourtModel", "isWord", "(J)Z"⟩ ⟨"WebCourtModel", "isWord", "(J)Z"⟩) ∈ gtb := gtb_p 53 (by decide +kernel) rfl
theorem hd_yX11_isWord : yX11_isWord.cls = RX11 ∧ yX11_isWord.cls ≠ "java/lang/invoke/MethodHandle" ∧ yX11_isWord.cls ≠ "java/lang/invoke/VarHandle" ∧ (parseMethodDescriptor yX11_isWord.desc).map (fun d => d.parameters.length) = some 1 := by decide +kernel
theorem Km27_A4 {u v : St} (h : Km27 u v) : fA v 4 = fA u 4 := h.2.2.2.2.2.2.2.2.2.2.2.2.2.2.2.2.2.2.2.1
theorem Km29_wA4 {u v : St} {D : va_G} {A : Nat → Prop} {cy : Nat → ClassId} {a : Nat → Nat} {hp H : Heap} {locs : List Loc} {f : Nat → Int32} (_ : Wo D A (mW cy a (sA v 4 f)) hp H locs) (h : Km29 u v) : Km29 u (sA v 4 f) := ⟨h.1, h.2.1, h.2.2.1, h.2.2.2.1, h.2.2.2.2.1, h.2.2.2.2.2.1, h.2.2.2.2.2.2.1, h.2.2.2.2.2.2.2.1, h.2.2.2.2.2.2.2.2.1, h.2.2.2.2.2.2.2.2.2.1, h.2.2.2.2.2.2.2.2.2.2.1, h.2.2.2.2.2.2.2.2.2.2.2.1, h.2.2.2.2.2.2.2.2.2.2.2.2.1, h.2.2.2.2.2.2.2.2.2.2.2.2.2.1, h.2.2.2.2.2.2.2.2.2.2.2.2.2.2.1, h.2.2.2.2.2.2.2.2.2.2.2.2.2.2.2.1, h.2.2.2.2.2.2.2.2.2.2.2.2.2.2.2.2.1, h.2.2.2.2.2.2.2.2.2.2.2.2.2.2.2.2.2.1, h.2.2.2.2.2.2.2.2.2.2.2.2.2.2.2.2.2.2.1, h.2.2.2.2.2.2.2.2.2.2.2.2.2.2.2.2.2.2.2.1, h.2.2.2.2.2.2.2.2.2.2.2.2.2.2.2.2.2.2.2.2.1, h.2.2.2.2.2.2.2.2.2.2.2.2.2.2.2.2.2.2.2.2.2.1, h.2.2.2.2.2.2.2.2.2.2.2.2.2.2.2.2.2.2.2.2.2.2.1, h.2.2.2.2.2.2.2.2.2.2.2.2.2.2.2.2.2.2.2.2.2.2.2.1, h.2.2.2.2.2.2.2.2.2.2.2.2.2.2.2.2.2.2.2.2.2.2.2.2.1, h.2.2.2.2.2.2.2.2.2.2.2.2.2.2.2.2.2.2.2.2.2.2.2.2.2.1, h.2.2.2.2.2.2.2.2.2.2.2.2.2.2.2.2.2.2.2.2.2.2.2.2.2.2.1, h.2.2.2.2.2.2.2.2.2.2.2.2.2.2.2.2.2.2.2.2.2.2.2.2.2.2.2.1, h.2.2.2.2.2.2.2.2.2.2.2.2.2.2.2.2.2.2.2.2.2.2.2.2.2.2.2.2.1, h.2.2.2.2.2.2.2.2.2.2.2.2.2.2.2.2.2.2.2.2.2.2.2.2.2.2.2.2.2.1, h.2.2.2.2.2.2.2.2.2.2.2.2.2.2.2.2.2.2.2.2.2.2.2.2.2.2.2.2.2.2.1, h.2.2.2.2.2.2.2.2.2.2.2.2.2.2.2.2.2.2.2.2.2.2.2.2.2.2.2.2.2.2.2.1, h.2.2.2.2.2.2.2.2.2.2.2.2.2.2.2.2.2.2.2.2.2.2.2.2.2.2.2.2.2.2.2.2.1, h.2.2.2.2.2.2.2.2.2.2.2.2.2.2.2.2.2.2.2.2.2.2.2.2.2.2.2.2.2.2.2.2.2.1, h.2.2.2.2.2.2.2.2.2.2.2.2.2.2.2.2.2.2.2.2.2.2.2.2.2.2.2.2.2.2.2.2.2.2.1, h.2.2.2.2.2.2.2.2.2.2.2.2.2.2.2.2.2.2.2.2.2.2.2.2.2.2.2.2.2.2.2.2.2.2.2.1, h.2.2.2.2.2.2.2.2.2.2.2.2.2.2.2.2.2.2.2.2.2.2.2.2.2.2.2.2.2.2.2.2.2.2.2.2.1, h.2.2.2.2.2.2.2.2.2.2.2.2.2.2.2.2.2.2.2.2.2.2.2.2.2.2.2.2.2.2.2.2.2.2.2.2.2.1, h.2.2.2.2.2.2.2.2.2.2.2.2.2.2.2.2.2.2.2.2.2.2.2.2.2.2.2.2.2.2.2.2.2.2.2.2.2.2.1, h.2.2.2.2.2.2.2.2.2.2.2.2.2.2.2.2.2.2.2.2.2.2.2.2.2.2.2.2.2.2.2.2.2.2.2.2.2.2.2.1, h.2.2.2.2.2.2.2.2.2.2.2.2.2.2.2.2.2.2.2.2.2.2.2.2.2.2.2.2.2.2.2.2.2.2.2.2.2.2.2.2.1, h.2.2.2.2.2.2.2.2.2.2.2.2.2.2.2.2.2.2.2.2.2.2.2.2.2.2.2.2.2.2.2.2.2.2.2.2.2.2.2.2.2.1, h.2.2.2.2.2.2.2.2.2.2.2.2.2.2.2.2.2.2.2.2.2.2.2.2.2.2.2.2.2.2.2.2.2.2.2.2.2.2.2.2.2.2.1, h.2.2.2.2.2.2.2.2.2.2.2.2.2.2.2.2.2.2.2.2.2.2.2.2.2.2.2.2.2.2.2.2.2.2.2.2.2.2.2.2.2.2.2.1, h.2.2.2.2.2.2.2.2.2.2.2.2.2.2.2.2.2.2.2.2.2.2.2.2.2.2.2.2.2.2.2.2.2.2.2.2.2.2.2.2.2.2.2.2.1, h.2.2.2.2.2.2.2.2.2.2.2.2.2.2.2.2.2.2.2.2.2.2.2.2.2.2.2.2.2.2.2.2.2.2.2.2.2.2.2.2.2.2.2.2.2.1, h.2.2.2.2.2.2.2.2.2.2.2.2.2.2.2.2.2.2.2.2.2.2.2.2.2.2.2.2.2.2.2.2.2.2.2.2.2.2.2.2.2.2.2.2.2.2.1, h.2.2.2.2.2.2.2.2.2.2.2.2.2.2.2.2.2.2.2.2.2.2.2.2.2.2.2.2.2.2.2.2.2.2.2.2.2.2.2.2.2.2.2.2.2.2.2.1, h.2.2.2.2.2.2.2.2.2.2.2.2.2.2.2.2.2.2.2.2.2.2.2.2.2.2.2.2.2.2.2.2.2.2.2.2.2.2.2.2.2.2.2.2.2.2.2.2.1, h.2.2.2.2.2.2.2.2.2.2.2.2.2.2.2.2.2.2.2.2.2.2.2.2.2.2.2.2.2.2.2.2.2.2.2.2.2.2.2.2.2.2.2.2.2.2.2.2.2.1, h.2.2.2.2.2.2.2.2.2.2.2.2.2.2.2.2.2.2.2.2.2.2.2.2.2.2.2.2.2.2.2.2.2.2.2.2.2.2.2.2.2.2.2.2.2.2.2.2.2.2.1, h.2.2.2.2.2.2.2.2.2.2.2.2.2.2.2.2.2.2.2.2.2.2.2.2.2.2.2.2.2.2.2.2.2.2.2.2.2.2.2.2.2.2.2.2.2.2.2.2.2.2.2.1, h.2.2.2.2.2.2.2.2.2.2.2.2.2.2.2.2.2.2.2.2.2.2.2.2.2.2.2.2.2.2.2.2.2.2.2.2.2.2.2.2.2.2.2.2.2.2.2.2.2.2.2.2.1, h.2.2.2.2.2.2.2.2.2.2.2.2.2.2.2.2.2.2.2.2.2.2.2.2.2.2.2.2.2.2.2.2.2.2.2.2.2.2.2.2.2.2.2.2.2.2.2.2.2.2.2.2.2⟩
theorem Km27_A12 {u v : St} (h : Km27 u v) : fA v 12 = fA u 12 := h.2.2.2.2.2.2.2.2.2.2.2.2.2.2.2.2.2.2.2.2.2.2.2.2.2.2.2.1
theorem Km29_wA12 {u v : St} {D : va_G} {A : Nat → Prop} {cy : Nat → ClassId} {a : Nat → Nat} {hp H : Heap} {locs : List Loc} {f : Nat → Int32} (_ : Wo D A (mW cy a (sA v 12 f)) hp H locs) (h : Km29 u v) : Km29 u (sA v 12 f) := ⟨h.1, h.2.1, h.2.2.1, h.2.2.2.1, h.2.2.2.2.1, h.2.2.2.2.2.1, h.2.2.2.2.2.2.1, h.2.2.2.2.2.2.2.1, h.2.2.2.2.2.2.2.2.1, h.2.2.2.2.2.2.2.2.2.1, h.2.2.2.2.2.2.2.2.2.2.1, h.2.2.2.2.2.2.2.2.2.2.2.1, h.2.2.2.2.2.2.2.2.2.2.2.2.1, h.2.2.2.2.2.2.2.2.2.2.2.2.2.1, h.2.2.2.2.2.2.2.2.2.2.2.2.2.2.1, h.2.2.2.2.2.2.2.2.2.2.2.2.2.2.2.1, h.2.2.2.2.2.2.2.2.2.2.2.2.2.2.2.2.1, h.2.2.2.2.2.2.2.2.2.2.2.2.2.2.2.2.2.1, h.2.2.2.2.2.2.2.2.2.2.2.2.2.2.2.2.2.2.1, h.2.2.2.2.2.2.2.2.2.2.2.2.2.2.2.2.2.2.2.1, h.2.2.2.2.2.2.2.2.2.2.2.2.2.2.2.2.2.2.2.2.1, h.2.2.2.2.2.2.2.2.2.2.2.2.2.2.2.2.2.2.2.2.2.1, h.2.2.2.2.2.2.2.2.2.2.2.2.2.2.2.2.2.2.2.2.2.2.1, h.2.2.2.2.2.2.2.2.2.2.2.2.2.2.2.2.2.2.2.2.2.2.2.1, h.2.2.2.2.2.2.2.2.2.2.2.2.2.2.2.2.2.2.2.2.2.2.2.2.1, h.2.2.2.2.2.2.2.2.2.2.2.2.2.2.2.2.2.2.2.2.2.2.2.2.2.1, h.2.2.2.2.2.2.2.2.2.2.2.2.2.2.2.2.2.2.2.2.2.2.2.2.2.2.1, h.2.2.2.2.2.2.2.2.2.2.2.2.2.2.2.2.2.2.2.2.2.2.2.2.2.2.2.1, h.2.2.2.2.2.2.2.2.2.2.2.2.2.2.2.2.2.2.2.2.2.2.2.2.2.2.2.2.1, h.2.2.2.2.2.2.2.2.2.2.2.2.2.2.2.2.2.2.2.2.2.2.2.2.2.2.2.2.2.1, h.2.2.2.2.2.2.2.2.2.2.2.2.2.2.2.2.2.2.2.2.2.2.2.2.2.2.2.2.2.2.1, h.2.2.2.2.2.2.2.2.2.2.2.2.2.2.2.2.2.2.2.2.2.2.2.2.2.2.2.2.2.2.2.1, h.2.2.2.2.2.2.2.2.2.2.2.2.2.2.2.2.2.2.2.2.2.2.2.2.2.2.2.2.2.2.2.2.1, h.2.2.2.2.2.2.2.2.2.2.2.2.2.2.2.2.2.2.2.2.2.2.2.2.2.2.2.2.2.2.2.2.2.1, h.2.2.2.2.2.2.2.2.2.2.2.2.2.2.2.2.2.2.2.2.2.2.2.2.2.2.2.2.2.2.2.2.2.2.1, h.2.2.2.2.2.2.2.2.2.2.2.2.2.2.2.2.2.2.2.2.2.2.2.2.2.2.2.2.2.2.2.2.2.2.2.1, h.2.2.2.2.2.2.2.2.2.2.2.2.2.2.2.2.2.2.2.2.2.2.2.2.2.2.2.2.2.2.2.2.2.2.2.2.1, h.2.2.2.2.2.2.2.2.2.2.2.2.2.2.2.2.2.2.2.2.2.2.2.2.2.2.2.2.2.2.2.2.2.2.2.2.2.1, h.2.2.2.2.2.2.2.2.2.2.2.2.2.2.2.2.2.2.2.2.2.2.2.2.2.2.2.2.2.2.2.2.2.2.2.2.2.2.1, h.2.2.2.2.2.2.2.2.2.2.2.2.2.2.2.2.2.2.2.2.2.2.2.2.2.2.2.2.2.2.2.2.2.2.2.2.2.2.2.1, h.2.2.2.2.2.2.2.2.2.2.2.2.2.2.2.2.2.2.2.2.2.2.2.2.2.2.2.2.2.2.2.2.2.2.2.2.2.2.2.2.1, h.2.2.2.2.2.2.2.2.2.2.2.2.2.2.2.2.2.2.2.2.2.2.2.2.2.2.2.2.2.2.2.2.2.2.2.2.2.2.2.2.2.1, h.2.2.2.2.2.2.2.2.2.2.2.2.2.2.2.2.2.2.2.2.2.2.2.2.2.2.2.2.2.2.2.2.2.2.2.2.2.2.2.2.2.2.1, h.2.2.2.2.2.2.2.2.2.2.2.2.2.2.2.2.2.2.2.2.2.2.2.2.2.2.2.2.2.2.2.2.2.2.2.2.2.2.2.2.2.2.2.1, h.2.2.2.2.2.2.2.2.2.2.2.2.2.2.2.2.2.2.2.2.2.2.2.2.2.2.2.2.2.2.2.2.2.2.2.2.2.2.2.2.2.2.2.2.1, h.2.2.2.2.2.2.2.2.2.2.2.2.2.2.2.2.2.2.2.2.2.2.2.2.2.2.2.2.2.2.2.2.2.2.2.2.2.2.2.2.2.2.2.2.2.1, h.2.2.2.2.2.2.2.2.2.2.2.2.2.2.2.2.2.2.2.2.2.2.2.2.2.2.2.2.2.2.2.2.2.2.2.2.2.2.2.2.2.2.2.2.2.2.1, h.2.2.2.2.2.2.2.2.2.2.2.2.2.2.2.2.2.2.2.2.2.2.2.2.2.2.2.2.2.2.2.2.2.2.2.2.2.2.2.2.2.2.2.2.2.2.2.1, h.2.2.2.2.2.2.2.2.2.2.2.2.2.2.2.2.2.2.2.2.2.2.2.2.2.2.2.2.2.2.2.2.2.2.2.2.2.2.2.2.2.2.2.2.2.2.2.2.1, h.2.2.2.2.2.2.2.2.2.2.2.2.2.2.2.2.2.2.2.2.2.2.2.2.2.2.2.2.2.2.2.2.2.2.2.2.2.2.2.2.2.2.2.2.2.2.2.2.2.1, h.2.2.2.2.2.2.2.2.2.2.2.2.2.2.2.2.2.2.2.2.2.2.2.2.2.2.2.2.2.2.2.2.2.2.2.2.2.2.2.2.2.2.2.2.2.2.2.2.2.2.1, h.2.2.2.2.2.2.2.2.2.2.2.2.2.2.2.2.2.2.2.2.2.2.2.2.2.2.2.2.2.2.2.2.2.2.2.2.2.2.2.2.2.2.2.2.2.2.2.2.2.2.2.1, h.2.2.2.2.2.2.2.2.2.2.2.2.2.2.2.2.2.2.2.2.2.2.2.2.2.2.2.2.2.2.2.2.2.2.2.2.2.2.2.2.2.2.2.2.2.2.2.2.2.2.2.2.1, h.2.2.2.2.2.2.2.2.2.2.2.2.2.2.2.2.2.2.2.2.2.2.2.2.2.2.2.2.2.2.2.2.2.2.2.2.2.2.2.2.2.2.2.2.2.2.2.2.2.2.2.2.2⟩
theorem Km26_to_Km29 {u v : St} (h : Km26 u v) : Km29 u v := ⟨h.1, h.2.1, h.2.2.2.2.1, h.2.2.2.2.2.1, h.2.2.2.2.2.2.1, h.2.2.2.2.2.2.2.1, h.2.2.2.2.2.2.2.2.1, h.2.2.2.2.2.2.2.2.2.1, h.2.2.2.2.2.2.2.2.2.2.1, h.2.2.2.2.2.2.2.2.2.2.2.1, h.2.2.2.2.2.2.2.2.2.2.2.2.1, h.2.2.2.2.2.2.2.2.2.2.2.2.2.1, h.2.2.2.2.2.2.2.2.2.2.2.2.2.2.1, h.2.2.2.2.2.2.2.2.2.2.2.2.2.2.2.1, h.2.2.2.2.2.2.2.2.2.2.2.2.2.2.2.2.1, h.2.2.2.2.2.2.2.2.2.2.2.2.2.2.2.2.2.1, h.2.2.2.2.2.2.2.2.2.2.2.2.2.2.2.2.2.2.1, h.2.2.2.2.2.2.2.2.2.2.2.2.2.2.2.2.2.2.2.1, h.2.2.2.2.2.2.2.2.2.2.2.2.2.2.2.2.2.2.2.2.1, h.2.2.2.2.2.2.2.2.2.2.2.2.2.2.2.2.2.2.2.2.2.2.1, h.2.2.2.2.2.2.2.2.2.2.2.2.2.2.2.2.2.2.2.2.2.2.2.1, h.2.2.2.2.2.2.2.2.2.2.2.2.2.2.2.2.2.2.2.2.2.2.2.2.1, h.2.2.2.2.2.2.2.2.2.2.2.2.2.2.2.2.2.2.2.2.2.2.2.2.2.1, h.2.2.2.2.2.2.2.2.2.2.2.2.2.2.2.2.2.2.2.2.2.2.2.2.2.2.1, h.2.2.2.2.2.2.2.2.2.2.2.2.2.2.2.2.2.2.2.2.2.2.2.2.2.2.2.1, h.2.2.2.2.2.2.2.2.2.2.2.2.2.2.2.2.2.2.2.2.2.2.2.2.2.2.2.2.1, h.2.2.2.2.2.2.2.2.2.2.2.2.2.2.2.2.2.2.2.2.2.2.2.2.2.2.2.2.2.2.2.2.1, h.2.2.2.2.2.2.2.2.2.2.2.2.2.2.2.2.2.2.2.2.2.2.2.2.2.2.2.2.2.2.2.2.2.1, h.2.2.2.2.2.2.2.2.2.2.2.2.2.2.2.2.2.2.2.2.2.2.2.2.2.2.2.2.2.2.2.2.2.2.1, h.2.2.2.2.2.2.2.2.2.2.2.2.2.2.2.2.2.2.2.2.2.2.2.2.2.2.2.2.2.2.2.2.2.2.2.1, h.2.2.2.2.2.2.2.2.2.2.2.2.2.2.2.2.2.2.2.2.2.2.2.2.2.2.2.2.2.2.2.2.2.2.2.2.1, h.2.2.2.2.2.2.2.2.2.2.2.2.2.2.2.2.2.2.2.2.2.2.2.2.2.2.2.2.2.2.2.2.2.2.2.2.2.1, h.2.2.2.2.2.2.2.2.2.2.2.2.2.2.2.2.2.2.2.2.2.2.2.2.2.2.2.2.2.2.2.2.2.2.2.2.2.2.1, h.2.2.2.2.2.2.2.2.2.2.2.2.2.2.2.2.2.2.2.2.2.2.2.2.2.2.2.2.2.2.2.2.2.2.2.2.2.2.2.1, h.2.2.2.2.2.2.2.2.2.2.2.2.2.2.2.2.2.2.2.2.2.2.2.2.2.2.2.2.2.2.2.2.2.2.2.2.2.2.2.2.1, h.2.2.2.2.2.2.2.2.2.2.2.2.2.2.2.2.2.2.2.2.2.2.2.2.2.2.2.2.2.2.2.2.2.2.2.2.2.2.2.2.2.1, h.2.2.2.2.2.2.2.2.2.2.2.2.2.2.2.2.2.2.2.2.2.2.2.2.2.2.2.2.2.2.2.2.2.2.2.2.2.2.2.2.2.2.1, h.2.2.2.2.2.2.2.2.2.2.2.2.2.2.2.2.2.2.2.2.2.2.2.2.2.2.2.2.2.2.2.2.2.2.2.2.2.2.2.2.2.2.2.1, h.2.2.2.2.2.2.2.2.2.2.2.2.2.2.2.2.2.2.2.2.2.2.2.2.2.2.2.2.2.2.2.2.2.2.2.2.2.2.2.2.2.2.2.2.1, h.2.2.2.2.2.2.2.2.2.2.2.2.2.2.2.2.2.2.2.2.2.2.2.2.2.2.2.2.2.2.2.2.2.2.2.2.2.2.2.2.2.2.2.2.2.1, h.2.2.2.2.2.2.2.2.2.2.2.2.2.2.2.2.2.2.2.2.2.2.2.2.2.2.2.2.2.2.2.2.2.2.2.2.2.2.2.2.2.2.2.2.2.2.1, h.2.2.2.2.2.2.2.2.2.2.2.2.2.2.2.2.2.2.2.2.2.2.2.2.2.2.2.2.2.2.2.2.2.2.2.2.2.2.2.2.2.2.2.2.2.2.2.1, h.2.2.2.2.2.2.2.2.2.2.2.2.2.2.2.2.2.2.2.2.2.2.2.2.2.2.2.2.2.2.2.2.2.2.2.2.2.2.2.2.2.2.2.2.2.2.2.2.1, h.2.2.2.2.2.2.2.2.2.2.2.2.2.2.2.2.2.2.2.2.2.2.2.2.2.2.2.2.2.2.2.2.2.2.2.2.2.2.2.2.2.2.2.2.2.2.2.2.2.1, h.2.2.2.2.2.2.2.2.2.2.2.2.2.2.2.2.2.2.2.2.2.2.2.2.2.2.2.2.2.2.2.2.2.2.2.2.2.2.2.2.2.2.2.2.2.2.2.2.2.2.1, h.2.2.2.2.2.2.2.2.2.2.2.2.2.2.2.2.2.2.2.2.2.2.2.2.2.2.2.2.2.2.2.2.2.2.2.2.2.2.2.2.2.2.2.2.2.2.2.2.2.2.2.1, h.2.2.2.2.2.2.2.2.2.2.2.2.2.2.2.2.2.2.2.2.2.2.2.2.2.2.2.2.2.2.2.2.2.2.2.2.2.2.2.2.2.2.2.2.2.2.2.2.2.2.2.2.1, h.2.2.2.2.2.2.2.2.2.2.2.2.2.2.2.2.2.2.2.2.2.2.2.2.2.2.2.2.2.2.2.2.2.2.2.2.2.2.2.2.2.2.2.2.2.2.2.2.2.2.2.2.2.1, h.2.2.2.2.2.2.2.2.2.2.2.2.2.2.2.2.2.2.2.2.2.2.2.2.2.2.2.2.2.2.2.2.2.2.2.2.2.2.2.2.2.2.2.2.2.2.2.2.2.2.2.2.2.2.1, h.2.2.2.2.2.2.2.2.2.2.2.2.2.2.2.2.2.2.2.2.2.2.2.2.2.2.2.2.2.2.2.2.2.2.2.2.2.2.2.2.2.2.2.2.2.2.2.2.2.2.2.2.2.2.2.1, h.2.2.2.2.2.2.2.2.2.2.2.2.2.2.2.2.2.2.2.2.2.2.2.2.2.2.2.2.2.2.2.2.2.2.2.2.2.2.2.2.2.2.2.2.2.2.2.2.2.2.2.2.2.2.2.2.1, h.2.2.2.2.2.2.2.2.2.2.2.2.2.2.2.2.2.2.2.2.2.2.2.2.2.2.2.2.2.2.2.2.2.2.2.2.2.2.2.2.2.2.2.2.2.2.2.2.2.2.2.2.2.2.2.2.2.1, h.2.2.2.2.2.2.2.2.2.2.2.2.2.2.2.2.2.2.2.2.2.2.2.2.2.2.2.2.2.2.2.2.2.2.2.2.2.2.2.2.2.2.2.2.2.2.2.2.2.2.2.2.2.2.2.2.2.2.1, h.2.2.2.2.2.2.2.2.2.2.2.2.2.2.2.2.2.2.2.2.2.2.2.2.2.2.2.2.2.2.2.2.2.2.2.2.2.2.2.2.2.2.2.2.2.2.2.2.2.2.2.2.2.2.2.2.2.2.2⟩
theorem Km26_A4 {u v : St} (h : Km26 u v) : fA v 4 = fA u 4 := h.2.2.2.2.2.2.2.2.2.2.2.2.2.2.2.2.2.2.2.2.2.1
theorem wd_1643 : (Cond.methodLink "WebCourtModel" (312 : Nat) ⟨"WebCourtModel", "isThread", "(III)Z"⟩) ∈ gtb := gtb_c7 94 (by decide +kernel) rfl
theorem wd_1645 : (Cond.instanceMethod ⟨"WebCourtModel", "isThread", "(III)Z"⟩) ∈ gtb := gtb_c7 96 (by decide +kernel) rfl
theorem wd_61 : (Cond.selects "WebCourtModel" ⟨"WebCourtModel", "isThread", "(III)Z"⟩ ⟨"WebCourtModel", "isThread", "(III)Z"⟩) ∈ gtb := gtb_p 61 (by decide +kernel) rfl
theorem hd_yX11_isThread : yX11_isThread.cls = RX11 ∧ yX11_isThread.cls ≠ "java/lang/invoke/MethodHandle" ∧ yX11_isThread.cls ≠ "java/lang/invoke/VarHandle" ∧ (parseMethodDescriptor yX11_isThread.desc).map (fun d => d.parameters.length) = some 3 := by decide +kernel
theorem Km25_to_Km29 {u v : St} (h : Km25 u v) : Km29 u v := ⟨h.1, h.2.1, h.2.2.2.2.2.2.2.1, h.2.2.2.2.2.2.2.2.1, h.2.2.2.2.2.2.2.2.2.1, h.2.2.2.2.2.2.2.2.2.2.1, h.2.2.2.2.2.2.2.2.2.2.2.1, h.2.2.2.2.2.2.2.2.2.2.2.2.1, h.2.2.2.2.2.2.2.2.2.2.2.2.2.1, h.2.2.2.2.2.2.2.2.2.2.2.2.2.2.1, h.2.2.2.2.2.2.2.2.2.2.2.2.2.2.2.1, h.2.2.2.2.2.2.2.2.2.2.2.2.2.2.2.2.1, h.2.2.2.2.2.2.2.2.2.2.2.2.2.2.2.2.2.1, h.2.2.2.2.2.2.2.2.2.2.2.2.2.2.2.2.2.2.1, h.2.2.2.2.2.2.2.2.2.2.2.2.2.2.2.2.2.2.2.1, h.2.2.2.2.2.2.2.2.2.2.2.2.2.2.2.2.2.2.2.2.1, h.2.2.2.2.2.2.2.2.2.2.2.2.2.2.2.2.2.2.2.2.2.1, h.2.2.2.2.2.2.2.2.2.2.2.2.2.2.2.2.2.2.2.2.2.2.1, h.2.2.2.2.2.2.2.2.2.2.2.2.2.2.2.2.2.2.2.2.2.2.2.1, h.2.2.2.2.2.2.2.2.2.2.2.2.2.2.2.2.2.2.2.2.2.2.2.2.2.1, h.2.2.2.2.2.2.2.2.2.2.2.2.2.2.2.2.2.2.2.2.2.2.2.2.2.2.1, h.2.2.2.2.2.2.2.2.2.2.2.2.2.2.2.2.2.2.2.2.2.2.2.2.2.2.2.1, h.2.2.2.2.2.2.2.2.2.2.2.2.2.2.2.2.2.2.2.2.2.2.2.2.2.2.2.2.1, h.2.2.2.2.2.2.2.2.2.2.2.2.2.2.2.2.2.2.2.2.2.2.2.2.2.2.2.2.2.1, h.2.2.2.2.2.2.2.2.2.2.2.2.2.2.2.2.2.2.2.2.2.2.2.2.2.2.2.2.2.2.1, h.2.2.2.2.2.2.2.2.2.2.2.2.2.2.2.2.2.2.2.2.2.2.2.2.2.2.2.2.2.2.2.1, h.2.2.2.2.2.2.2.2.2.2.2.2.2.2.2.2.2.2.2.2.2.2.2.2.2.2.2.2.2.2.2.2.2.2.2.1, h.2.2.2.2.2.2.2.2.2.2.2.2.2.2.2.2.2.2.2.2.2.2.2.2.2.2.2.2.2.2.2.2.2.2.2.2.1, h.2.2.2.2.2.2.2.2.2.2.2.2.2.2.2.2.2.2.2.2.2.2.2.2.2.2.2.2.2.2.2.2.2.2.2.2.2.1, h.2.2.2.2.2.2.2.2.2.2.2.2.2.2.2.2.2.2.2.2.2.2.2.2.2.2.2.2.2.2.2.2.2.2.2.2.2.2.1, h.2.2.2.2.2.2.2.2.2.2.2.2.2.2.2.2.2.2.2.2.2.2.2.2.2.2.2.2.2.2.2.2.2.2.2.2.2.2.2.1, h.2.2.2.2.2.2.2.2.2.2.2.2.2.2.2.2.2.2.2.2.2.2.2.2.2.2.2.2.2.2.2.2.2.2.2.2.2.2.2.2.1, h.2.2.2.2.2.2.2.2.2.2.2.2.2.2.2.2.2.2.2.2.2.2.2.2.2.2.2.2.2.2.2.2.2.2.2.2.2.2.2.2.2.1, h.2.2.2.2.2.2.2.2.2.2.2.2.2.2.2.2.2.2.2.2.2.2.2.2.2.2.2.2.2.2.2.2.2.2.2.2.2.2.2.2.2.2.1, h.2.2.2.2.2.2.2.2.2.2.2.2.2.2.2.2.2.2.2.2.2.2.2.2.2.2.2.2.2.2.2.2.2.2.2.2.2.2.2.2.2.2.2.1, h.2.2.2.2.2.2.2.2.2.2.2.2.2.2.2.2.2.2.2.2.2.2.2.2.2.2.2.2.2.2.2.2.2.2.2.2.2.2.2.2.2.2.2.2.1, h.2.2.2.2.2.2.2.2.2.2.2.2.2.2.2.2.2.2.2.2.2.2.2.2.2.2.2.2.2.2.2.2.2.2.2.2.2.2.2.2.2.2.2.2.2.1, h.2.2.2.2.2.2.2.2.2.2.2.2.2.2.2.2.2.2.2.2.2.2.2.2.2.2.2.2.2.2.2.2.2.2.2.2.2.2.2.2.2.2.2.2.2.2.1, h.2.2.2.2.2.2.2.2.2.2.2.2.2.2.2.2.2.2.2.2.2.2.2.2.2.2.2.2.2.2.2.2.2.2.2.2.2.2.2.2.2.2.2.2.2.2.2.1, h.2.2.2.2.2.2.2.2.2.2.2.2.2.2.2.2.2.2.2.2.2.2.2.2.2.2.2.2.2.2.2.2.2.2.2.2.2.2.2.2.2.2.2.2.2.2.2.2.1, h.2.2.2.2.2.2.2.2.2.2.2.2.2.2.2.2.2.2.2.2.2.2.2.2.2.2.2.2.2.2.2.2.2.2.2.2.2.2.2.2.2.2.2.2.2.2.2.2.2.1, h.2.2.2.2.2.2.2.2.2.2.2.2.2.2.2.2.2.2.2.2.2.2.2.2.2.2.2.2.2.2.2.2.2.2.2.2.2.2.2.2.2.2.2.2.2.2.2.2.2.2.1, h.2.2.2.2.2.2.2.2.2.2.2.2.2.2.2.2.2.2.2.2.2.2.2.2.2.2.2.2.2.2.2.2.2.2.2.2.2.2.2.2.2.2.2.2.2.2.2.2.2.2.2.1, h.2.2.2.2.2.2.2.2.2.2.2.2.2.2.2.2.2.2.2.2.2.2.2.2.2.2.2.2.2.2.2.2.2.2.2.2.2.2.2.2.2.2.2.2.2.2.2.2.2.2.2.2.1, h.2.2.2.2.2.2.2.2.2.2.2.2.2.2.2.2.2.2.2.2.2.2.2.2.2.2.2.2.2.2.2.2.2.2.2.2.2.2.2.2.2.2.2.2.2.2.2.2.2.2.2.2.2.1, h.2.2.2.2.2.2.2.2.2.2.2.2.2.2.2.2.2.2.2.2.2.2.2.2.2.2.2.2.2.2.2.2.2.2.2.2.2.2.2.2.2.2.2.2.2.2.2.2.2.2.2.2.2.2.1, h.2.2.2.2.2.2.2.2.2.2.2.2.2.2.2.2.2.2.2.2.2.2.2.2.2.2.2.2.2.2.2.2.2.2.2.2.2.2.2.2.2.2.2.2.2.2.2.2.2.2.2.2.2.2.2.1, h.2.2.2.2.2.2.2.2.2.2.2.2.2.2.2.2.2.2.2.2.2.2.2.2.2.2.2.2.2.2.2.2.2.2.2.2.2.2.2.2.2.2.2.2.2.2.2.2.2.2.2.2.2.2.2.2.1, h.2.2.2.2.2.2.2.2.2.2.2.2.2.2.2.2.2.2.2.2.2.2.2.2.2.2.2.2.2.2.2.2.2.2.2.2.2.2.2.2.2.2.2.2.2.2.2.2.2.2.2.2.2.2.2.2.2.1, h.2.2.2.2.2.2.2.2.2.2.2.2.2.2.2.2.2.2.2.2.2.2.2.2.2.2.2.2.2.2.2.2.2.2.2.2.2.2.2.2.2.2.2.2.2.2.2.2.2.2.2.2.2.2.2.2.2.2.1, h.2.2.2.2.2.2.2.2.2.2.2.2.2.2.2.2.2.2.2.2.2.2.2.2.2.2.2.2.2.2.2.2.2.2.2.2.2.2.2.2.2.2.2.2.2.2.2.2.2.2.2.2.2.2.2.2.2.2.2.1, h.2.2.2.2.2.2.2.2.2.2.2.2.2.2.2.2.2.2.2.2.2.2.2.2.2.2.2.2.2.2.2.2.2.2.2.2.2.2.2.2.2.2.2.2.2.2.2.2.2.2.2.2.2.2.2.2.2.2.2.2.1, h.2.2.2.2.2.2.2.2.2.2.2.2.2.2.2.2.2.2.2.2.2.2.2.2.2.2.2.2.2.2.2.2.2.2.2.2.2.2.2.2.2.2.2.2.2.2.2.2.2.2.2.2.2.2.2.2.2.2.2.2.2.1, h.2.2.2.2.2.2.2.2.2.2.2.2.2.2.2.2.2.2.2.2.2.2.2.2.2.2.2.2.2.2.2.2.2.2.2.2.2.2.2.2.2.2.2.2.2.2.2.2.2.2.2.2.2.2.2.2.2.2.2.2.2.2⟩
theorem Km25_A4 {u v : St} (h : Km25 u v) : fA v 4 = fA u 4 := h.2.2.2.2.2.2.2.2.2.2.2.2.2.2.2.2.2.2.2.2.2.2.2.2.1
set_option maxHeartbeats 4000000 in
set_option maxRecDepth 100000 in
theorem T_X11_readThread (l : Launch) (D : va_G) (cy : Nat → ClassId) (a : Nat → Nat) (u : St) (hJ : MI a u) (hl_ : Int32) (hhl_ : fA u 4 (fI u 0 37).toNatClampNeg = hl_) (hp0 : (fI u 0 7).toInt ≤ (fI u 0 3).toInt) (hp1 : (fI u 0 6).toInt ≤ (fI u 0 7).toInt) (hp2 : (fI u 0 8).toInt = 0 ∨ (fI u 0 6).toInt < (fI u 0 7).toInt)  (hlt : hl_.toInt < 14) : Mv l D cy (mW cy a) yX11_readThread (.code yX11_readThread cX11_readThread 4 none) (rmo 3 65) [.ref (a 0)] u (fun (u' : St) => (MI a u') ∧ (Km29 u u') ∧ ((fI u' 0 7).toInt ≤ (fI u' 0 3).toInt) ∧ ((fI u' 0 6).toInt ≤ (fI u' 0 7).toInt) ∧ ((fI u' 0 8).toInt = 0 ∨ (fI u' 0 6).toInt < (fI u' 0 7).toInt) ∧ ((fI u 0 6).toInt ≤ (fI u' 0 6).toInt) ∧ ((fI u 0 4).toInt = 0 ∨ ¬ (fI u' 0 4).toInt = 0)) := by
  refine Mv.of (own := RX11) rfl (by decide) (Nat.le_of_ble_eq_true rfl) ?_
  have hT : Km29 u u := Km29.rf
  have hJ0 := hJ
  intro p e s m below meth c A Q ls C hret hO hl
  obtain ⟨hx, hb, hml, hown, ht, hK, hA⟩ := id C
  have hl : lv_has ls 4 [(0, .ref (a 0))] := hl
  refine lv_aload_n hx hb dX11_readThread_0 rfl (lv_at hl 0 rfl) ?_
  refine lv_aload_n hx hb dX11_readThread_1 rfl (lv_at hl 0 rfl) ?_
  have g1 : 0 ≤ (fI u 0 37).toInt ∧ (fI u 0 37).toInt ≤ 1 := by have h := MI_37 hJ0; exact h
  have g2 : 0 ≤ (fA u 3 ((fI u 0 37)).toNatClampNeg).toInt ∧ (fA u 3 ((fI u 0 37)).toNatClampNeg).toInt ≤ 8 := by have h := MI_A3 hJ0 ((fI u 0 37)).toNatClampNeg; exact h
  refine cVi (w := mW cy a) (As := []) (rest := [.ref (a 0)]) C hO (T_X11_knotHere l D cy a _ (by exact hJ) ((fA u 3 ((fI u 0 37)).toNatClampNeg)) (by exact rfl)) (cwV 0 ht (gV wd_1623 wd_1625 wd_56 wd_121 wd_1626) rfl rfl rfl hd_yX11_knotHere ⟨Nat.le_of_ble_eq_true rfl, Nat.le_of_ble_eq_true rfl⟩) 0 rfl mW_0 rfl rfl hl.1 (Nat.le_of_ble_eq_true rfl) dX11_readThread_2 rfl ⟨Nat.zero_le _, Nat.zero_le _⟩ (fun r3 u4 H locs hp5 hO => ?_)
  obtain ⟨hr3, hu4⟩ := hp5
  rw [hu4] at hO
  have g6 : 0 ≤ (fI u 0 7).toInt ∧ (fI u 0 7).toInt ≤ 1601 := by have h := MI_7 hJ0; exact h
  have g7 : 0 ≤ (fI u 0 3).toInt ∧ (fI u 0 3).toInt ≤ 1600 := by have h := MI_3 hJ0; exact h
  have g8 : 0 ≤ (fI u 0 6).toInt ∧ (fI u 0 6).toInt ≤ 1600 := by have h := MI_6 hJ0; exact h
  have g9 : 0 ≤ (fI u 0 8).toInt ∧ (fI u 0 8).toInt ≤ 5 := by have h := MI_8 hJ0; exact h
  refine cVi (w := mW cy a) (As := [.int r3]) (rest := []) C hO (T_X11_known l D cy a _ (by exact hJ) (by exact (show ((fI u 0 7) : Int32).toInt ≤ ((fI u 0 3) : Int32).toInt from by first | omega | decide)) (by exact (show ((fI u 0 6) : Int32).toInt ≤ ((fI u 0 7) : Int32).toInt from by first | omega | decide)) (by exact (show ((fI u 0 8) : Int32).toInt = 0 ∨ ((fI u 0 6) : Int32).toInt < ((fI u 0 7) : Int32).toInt from by first | omega | decide)) (r3) (by first | omega | decide)) (cwV 1 ht (gV wd_1639 wd_1641 wd_60 wd_121 wd_1642) rfl rfl rfl hd_yX11_known ⟨Nat.le_of_ble_eq_true rfl, Nat.le_of_ble_eq_true rfl⟩) 0 rfl mW_0 rfl rfl hl.1 (Nat.le_of_ble_eq_true rfl) dX11_readThread_5 rfl ⟨Nat.zero_le _, Nat.zero_le _⟩ (fun r10 u11 H locs hp12 hO => ?_)
  have g13 : 0 ≤ (fI u 0 4).toInt ∧ (fI u 0 4).toInt ≤ 5 := by have h := MI_4 hJ0; exact h
  obtain ⟨hr10, hJ, hTu11, hx0u11, hx1u11, hx2u11, hx3u11, hx4u11, hx5u11⟩ := hp12
  have hT : Km29 u u11 := Km29.tr (by exact hT) (Km27_to_Km29 hTu11)
  have g14 : 0 ≤ (fI u11 0 7).toInt ∧ (fI u11 0 7).toInt ≤ 1601 := by have h := MI_7 hJ; exact h
  have y0u11 : ((fI u11 0 7) : Int32).toInt ≤ ((fI u 0 3) : Int32).toInt := by have h : ((fI u11 0 7) : Int32).toInt ≤ (fI u11 0 3 : Int32).toInt := hx0u11; rw [show fI u11 0 3 = (fI u 0 3) from (Km29_I3 hT)] at h; exact h
  have g15 : 0 ≤ (fI u11 0 6).toInt ∧ (fI u11 0 6).toInt ≤ 1600 := by have h := MI_6 hJ; exact h
  have y1u11 : ((fI u11 0 6) : Int32).toInt ≤ ((fI u11 0 7) : Int32).toInt := by exact hx1u11
  have g16 : 0 ≤ (fI u11 0 8).toInt ∧ (fI u11 0 8).toInt ≤ 5 := by have h := MI_8 hJ; exact h
  have y2u11 : ((fI u11 0 8) : Int32).toInt = 0 ∨ ((fI u11 0 6) : Int32).toInt < ((fI u11 0 7) : Int32).toInt := by exact hx2u11
  have y3u11 : ((fI u 0 6) : Int32).toInt ≤ ((fI u11 0 6) : Int32).toInt := by exact hx3u11
  have g17 : 0 ≤ (fI u11 0 4).toInt ∧ (fI u11 0 4).toInt ≤ 5 := by have h := MI_4 hJ; exact h
  have y4u11 : ((fI u 0 4) : Int32).toInt = 0 ∨ ¬ ((fI u11 0 4) : Int32).toInt = 0 := by exact hx4u11
  have y5u11 : ¬ ((fI u11 0 4) : Int32).toInt = 0 ∨ 0 ≤ (r3 : Int32).toInt := by exact hx5u11
  refine lv_istore_n (lv' := [(1, .int r10), (0, .ref (a 0))]) hx hb dX11_readThread_8 rfl hl (by decide) rfl (fun ls hl => ?_)
  refine lv_aload_n hx hb dX11_readThread_9 rfl (lv_at hl 1 rfl) ?_
  refine cVi (w := mW cy a) (As := []) (rest := []) C hO (T_X11_isGood l D cy a _ (by exact hJ) ((fI u11 0 4)) (by exact rfl)) (cwV 0 ht (gV wd_1596 wd_1598 wd_50 wd_121 wd_1599) rfl rfl rfl hd_yX11_isGood ⟨Nat.le_of_ble_eq_true rfl, Nat.le_of_ble_eq_true rfl⟩) 0 rfl mW_0 rfl rfl hl.1 (Nat.le_of_ble_eq_true rfl) dX11_readThread_10 rfl ⟨Nat.zero_le _, Nat.zero_le _⟩ (fun r18 u19 H locs hp20 hO => ?_)
  obtain ⟨hr18, hu19⟩ := hp20
  rw [hu19] at hO
  rcases hr18 with ⟨hcr18, hvr18⟩ | ⟨hcr18, hvr18⟩
  · subst hvr18
    refine bt_ne (tgt := 17) (X := 1) hx hb dX11_readThread_13 (by decide) rfl (by omega) ?_
    refine lv_aload_n hx hb dX11_readThread_17 rfl (lv_at hl 1 rfl) ?_
    refine cVi (w := mW cy a) (As := []) (rest := []) C hO (T_X11_knotHere l D cy a _ (by exact hJ) ((fA u 3 ((fI u 0 37)).toNatClampNeg)) (by exact (Eq.trans (congrArg (fun z : Int32 => fA _ 3 z.toNatClampNeg) (Km29_I37 hT)) (congrFun (Km29_A3 hT) _)))) (cwV 0 ht (gV wd_1623 wd_1625 wd_56 wd_121 wd_1626) rfl rfl rfl hd_yX11_knotHere ⟨Nat.le_of_ble_eq_true rfl, Nat.le_of_ble_eq_true rfl⟩) 0 rfl mW_0 rfl rfl hl.1 (Nat.le_of_ble_eq_true rfl) dX11_readThread_18 rfl ⟨Nat.zero_le _, Nat.zero_le _⟩ (fun r21 u22 H locs hp23 hO => ?_)
    obtain ⟨hr21, hu22⟩ := hp23
    rw [hu22] at hO
    refine lv_istore_n (lv' := [(2, .int r21), (1, .int r10), (0, .ref (a 0))]) hx hb dX11_readThread_21 rfl hl (by decide) rfl (fun ls hl => ?_)
    have LP_38_k25 : ∀ (n : Nat) (u24 : St) (H : Heap) (locs : List Loc) (ls : Array Slot) (k_k25 : Int32) (at_k25 : Int32) (en_k25 : Int32) (tk_k25 : Int32) (fa_k25 : Int32), Wo D A (mW cy a u24) s.heap H locs → lv_has ls 4 [(3, .int k_k25), (2, .int r21), (1, .int r10), (0, .ref (a 0))] → MI a u24 → Km29 u u24 → fI u24 0 6 = at_k25 → fI u24 0 7 = en_k25 → fI u24 0 8 = tk_k25 → fI u24 0 4 = fa_k25 → en_k25.toInt ≤ (fI u 0 3).toInt → at_k25.toInt ≤ en_k25.toInt → (tk_k25.toInt = 0 ∨ at_k25.toInt < en_k25.toInt) → (fI u 0 6).toInt ≤ at_k25.toInt → ((fI u 0 4).toInt = 0 ∨ ¬ fa_k25.toInt = 0) → 0 ≤ k_k25.toInt ∧ k_k25.toInt ≤ 14 → 0 ≤ at_k25.toInt ∧ at_k25.toInt ≤ 1600 → 0 ≤ en_k25.toInt ∧ en_k25.toInt ≤ 1601 → 0 ≤ tk_k25.toInt ∧ tk_k25.toInt ≤ 5 → 0 ≤ fa_k25.toInt ∧ fa_k25.toInt ≤ 5 → (fA u24 4 = fA u 4) → 14 - k_k25.toInt < (n : Int) → W p l e (rmo 3 65) s m [.ref (a 0)].toArray below meth c H locs 0 0 Q (F0 m 38 ls []) := by
      intro n
      induction n with
      | zero =>
        intro u24 H locs ls k_k25 at_k25 en_k25 tk_k25 fa_k25 hO hl hJ hT hat_k25 hen_k25 htk_k25 hfa_k25 iv0_k25 iv1_k25 iv2_k25 iv3_k25 iv4_k25 iv5_k25 iv6_k25 iv7_k25 iv8_k25 iv9_k25 cv0_k25 hm_k25
        exact absurd hm_k25 (by omega)
      | succ n ih_k25 =>
        intro u24 H locs ls k_k25 at_k25 en_k25 tk_k25 fa_k25 hO hl hJ hT hat_k25 hen_k25 htk_k25 hfa_k25 iv0_k25 iv1_k25 iv2_k25 iv3_k25 iv4_k25 iv5_k25 iv6_k25 iv7_k25 iv8_k25 iv9_k25 cv0_k25 hm_k25
        refine lv_iload_n hx hb dX11_readThread_38 rfl (lv_at hl 0 rfl) ?_
        refine lv_aload_n hx hb dX11_readThread_39 rfl (lv_at hl 3 rfl) ?_
        refine gf_RX11_24 (v := .ref (a 4)) C hO 0 mW_0 rfl dX11_readThread_40 ?_
        refine lv_aload_n hx hb dX11_readThread_43 rfl (lv_at hl 3 rfl) ?_
        have g26 : 0 ≤ (fI u 0 37).toInt ∧ (fI u 0 37).toInt ≤ 1 := by have h := MI_37 hJ0; exact h
        refine gf_RX11_246 (v := .int (fI u 0 37)) C hO 0 mW_0 (congrArg (fun z : Int32 => some (Value.int z)) (Km29_I37 hT)) dX11_readThread_44 ?_
        refine aI C hO 4 mW_4 (i_in (X := ((fI u 0 37)).toInt) rfl (by omega) (by omega)) dX11_readThread_47 ?_
        have g27 : 0 ≤ hl_.toInt ∧ hl_.toInt ≤ 14 := by have h := MI_A4 hJ0 (fI u 0 37).toNatClampNeg; rw [hhl_] at h; exact h
        refine tE (y := hl_) (by exact (Eq.trans (congrFun cv0_k25 _) hhl_)) ?_
        refine cs_ge (tgt := 80) (X := (k_k25).toInt) (Y := (hl_).toInt) hx hb dX11_readThread_48 (by decide) rfl rfl (fun c28 => ?_) (fun c28 => ?_)
        · refine lv_aload_n hx hb dX11_readThread_80 rfl (lv_at hl 3 rfl) ?_
          refine gf_RX11_51 (v := .ref (a 13)) C hO 0 mW_0 rfl dX11_readThread_81 ?_
          refine lv_bipush (v := 14) hx hb dX11_readThread_84 (by decide) ?_
          refine lv_aload_n hx hb dX11_readThread_86 rfl (lv_at hl 3 rfl) ?_
          refine gf_RX11_246 (v := .int (fI u 0 37)) C hO 0 mW_0 (congrArg (fun z : Int32 => some (Value.int z)) (Km29_I37 hT)) dX11_readThread_87 ?_
          refine lv_imul hx hb dX11_readThread_90 ?_
          refine lv_topi (fun z29 ez29 => ?_)
          have e30 : z29.toInt = 14 * ((fI u 0 37)).toInt := by rw [ez29]; exact i_mul rfl rfl (by omega)
          refine lv_aload_n hx hb dX11_readThread_91 rfl (lv_at hl 3 rfl) ?_
          refine gf_RX11_24 (v := .ref (a 4)) C hO 0 mW_0 rfl dX11_readThread_92 ?_
          refine lv_aload_n hx hb dX11_readThread_95 rfl (lv_at hl 3 rfl) ?_
          refine gf_RX11_246 (v := .int (fI u 0 37)) C hO 0 mW_0 (congrArg (fun z : Int32 => some (Value.int z)) (Km29_I37 hT)) dX11_readThread_96 ?_
          refine aI C hO 4 mW_4 (i_in (X := ((fI u 0 37)).toInt) rfl (by omega) (by omega)) dX11_readThread_99 ?_
          refine tE (y := hl_) (by exact (Eq.trans (congrFun cv0_k25 _) hhl_)) ?_
          refine lv_iadd hx hb dX11_readThread_100 ?_
          refine lv_topi (fun z31 ez31 => ?_)
          have e32 : z31.toInt = (14 * ((fI u 0 37)).toInt) + (hl_).toInt := by rw [ez31]; exact i_add e30 rfl (by omega)
          refine lv_iload_n hx hb dX11_readThread_101 rfl (lv_at hl 2 rfl) ?_
          refine aIs C hO 13 mW_13 (i_in (X := ((14 * ((fI u 0 37)).toInt) + (hl_).toInt)) e32 (by omega) (by omega)) mW_s13 dX11_readThread_102 (fun H locs hO => ?_)
          have hT := Km29_wA13 hO hT
          have hJ := MIsA_13 hO hJ (by first | decide | omega)
          refine lv_aload_n hx hb dX11_readThread_103 rfl (lv_at hl 3 rfl) ?_
          refine gf_RX11_54 (v := .ref (a 14)) C hO 0 mW_0 rfl dX11_readThread_104 ?_
          refine lv_bipush (v := 14) hx hb dX11_readThread_107 (by decide) ?_
          refine lv_aload_n hx hb dX11_readThread_109 rfl (lv_at hl 3 rfl) ?_
          refine gf_RX11_246 (v := .int (fI u 0 37)) C hO 0 mW_0 (congrArg (fun z : Int32 => some (Value.int z)) (Km29_I37 hT)) dX11_readThread_110 ?_
          refine lv_imul hx hb dX11_readThread_113 ?_
          refine lv_topi (fun z33 ez33 => ?_)
          have e34 : z33.toInt = 14 * ((fI u 0 37)).toInt := by rw [ez33]; exact i_mul rfl rfl (by omega)
          refine lv_aload_n hx hb dX11_readThread_114 rfl (lv_at hl 3 rfl) ?_
          refine gf_RX11_24 (v := .ref (a 4)) C hO 0 mW_0 rfl dX11_readThread_115 ?_
          refine lv_aload_n hx hb dX11_readThread_118 rfl (lv_at hl 3 rfl) ?_
          refine gf_RX11_246 (v := .int (fI u 0 37)) C hO 0 mW_0 (congrArg (fun z : Int32 => some (Value.int z)) (Km29_I37 hT)) dX11_readThread_119 ?_
          refine aI C hO 4 mW_4 (i_in (X := ((fI u 0 37)).toInt) rfl (by omega) (by omega)) dX11_readThread_122 ?_
          refine tE (y := hl_) (by exact (Eq.trans (congrFun cv0_k25 _) hhl_)) ?_
          refine lv_iadd hx hb dX11_readThread_123 ?_
          refine lv_topi (fun z35 ez35 => ?_)
          have e36 : z35.toInt = (14 * ((fI u 0 37)).toInt) + (hl_).toInt := by rw [ez35]; exact i_add e34 rfl (by omega)
          refine lv_aload_n hx hb dX11_readThread_124 rfl (lv_at hl 3 rfl) ?_
          refine lv_iload_n hx hb dX11_readThread_125 rfl (lv_at hl 1 rfl) ?_
          have g37 : 0 ≤ (fI u 0 3).toInt ∧ (fI u 0 3).toInt ≤ 1600 := by have h := MI_3 hJ0; exact h
          refine cVi (w := mW cy a) (As := [.int r21]) (rest := [.int z35, .ref (a 14)]) C hO (T_X11_known l D cy a _ (by exact hJ) (by exact (show (fI u24 0 7 : Int32).toInt ≤ (fI u24 0 3 : Int32).toInt from by rw [show fI u24 0 7 = en_k25 from hen_k25, show fI u24 0 3 = (fI u 0 3) from (Km29_I3 hT)]; first | done | omega | decide)) (by exact (show (fI u24 0 6 : Int32).toInt ≤ (fI u24 0 7 : Int32).toInt from by rw [show fI u24 0 6 = at_k25 from hat_k25, show fI u24 0 7 = en_k25 from hen_k25]; first | done | omega | decide)) (by exact (show (fI u24 0 8 : Int32).toInt = 0 ∨ (fI u24 0 6 : Int32).toInt < (fI u24 0 7 : Int32).toInt from by rw [show fI u24 0 8 = tk_k25 from htk_k25, show fI u24 0 6 = at_k25 from hat_k25, show fI u24 0 7 = en_k25 from hen_k25]; first | done | omega | decide)) (r21) (by first | omega | decide)) (cwV 1 ht (gV wd_1639 wd_1641 wd_60 wd_121 wd_1642) rfl rfl rfl hd_yX11_known ⟨Nat.le_of_ble_eq_true rfl, Nat.le_of_ble_eq_true rfl⟩) 0 rfl mW_0 rfl rfl hl.1 (Nat.le_of_ble_eq_true rfl) dX11_readThread_126 rfl ⟨Nat.zero_le _, Nat.zero_le _⟩ (fun r38 u39 H locs hp40 hO => ?_)
          obtain ⟨hr38, hJ, hTu39, hx0u39, hx1u39, hx2u39, hx3u39, hx4u39, hx5u39⟩ := hp40
          have hT : Km29 u u39 := Km29.tr (by exact hT) (Km27_to_Km29 hTu39)
          have g41 : 0 ≤ (fI u39 0 7).toInt ∧ (fI u39 0 7).toInt ≤ 1601 := by have h := MI_7 hJ; exact h
          have y0u39 : ((fI u39 0 7) : Int32).toInt ≤ ((fI u 0 3) : Int32).toInt := by have h : ((fI u39 0 7) : Int32).toInt ≤ (fI u39 0 3 : Int32).toInt := hx0u39; rw [show fI u39 0 3 = (fI u 0 3) from (Km29_I3 hT)] at h; exact h
          have g42 : 0 ≤ (fI u39 0 6).toInt ∧ (fI u39 0 6).toInt ≤ 1600 := by have h := MI_6 hJ; exact h
          have y1u39 : ((fI u39 0 6) : Int32).toInt ≤ ((fI u39 0 7) : Int32).toInt := by exact hx1u39
          have g43 : 0 ≤ (fI u39 0 8).toInt ∧ (fI u39 0 8).toInt ≤ 5 := by have h := MI_8 hJ; exact h
          have y2u39 : ((fI u39 0 8) : Int32).toInt = 0 ∨ ((fI u39 0 6) : Int32).toInt < ((fI u39 0 7) : Int32).toInt := by exact hx2u39
          have y3u39 : (at_k25 : Int32).toInt ≤ ((fI u39 0 6) : Int32).toInt := by have h : (fI u24 0 6 : Int32).toInt ≤ ((fI u39 0 6) : Int32).toInt := hx3u39; rw [show fI u24 0 6 = at_k25 from hat_k25] at h; exact h
          have g44 : 0 ≤ (fI u39 0 4).toInt ∧ (fI u39 0 4).toInt ≤ 5 := by have h := MI_4 hJ; exact h
          have y4u39 : (fa_k25 : Int32).toInt = 0 ∨ ¬ ((fI u39 0 4) : Int32).toInt = 0 := by have h : (fI u24 0 4 : Int32).toInt = 0 ∨ ¬ ((fI u39 0 4) : Int32).toInt = 0 := hx4u39; rw [show fI u24 0 4 = fa_k25 from hfa_k25] at h; exact h
          have y5u39 : ¬ ((fI u39 0 4) : Int32).toInt = 0 ∨ 0 ≤ (r21 : Int32).toInt := by exact hx5u39
          refine aIs C hO 14 mW_14 (i_in (X := ((14 * ((fI u 0 37)).toInt) + (hl_).toInt)) e36 (by omega) (by omega)) mW_s14 dX11_readThread_129 (fun H locs hO => ?_)
          have hT := Km29_wA14 hO hT
          have hJ := MIsA_14 hO hJ (by first | decide | omega)
          refine lv_aload_n hx hb dX11_readThread_130 rfl (lv_at hl 3 rfl) ?_
          refine cVi (w := mW cy a) (As := []) (rest := []) C hO (T_X11_isGood l D cy a _ (by exact hJ) ((fI u39 0 4)) (by exact rfl)) (cwV 0 ht (gV wd_1596 wd_1598 wd_50 wd_121 wd_1599) rfl rfl rfl hd_yX11_isGood ⟨Nat.le_of_ble_eq_true rfl, Nat.le_of_ble_eq_true rfl⟩) 0 rfl mW_0 rfl rfl hl.1 (Nat.le_of_ble_eq_true rfl) dX11_readThread_131 rfl ⟨Nat.zero_le _, Nat.zero_le _⟩ (fun r45 u46 H locs hp47 hO => ?_)
          obtain ⟨hr45, hu46⟩ := hp47
          rw [hu46] at hO
          rcases hr45 with ⟨hcr45, hvr45⟩ | ⟨hcr45, hvr45⟩
          · subst hvr45
            refine bn_eq (X := 1) hx hb dX11_readThread_134 rfl (by omega) ?_ (tgt := 174) (by decide)
            refine lv_aload_n hx hb dX11_readThread_137 rfl (lv_at hl 3 rfl) ?_
            refine lv_ldc2 (v := 126943821523833) hx hb hown (ht _ wd_1572) dX11_readThread_138 ?_
            refine cVi (w := mW cy a) (As := [.long 126943821523833]) (rest := []) C hO (T_X11_isWord_n l D cy a _ (by exact hJ) (126943821523833)) (cwV 1 ht (gV wd_1608 wd_1610 wd_53 wd_121 wd_1611) rfl rfl rfl hd_yX11_isWord ⟨Nat.le_of_ble_eq_true rfl, Nat.le_of_ble_eq_true rfl⟩) 0 rfl mW_0 rfl rfl hl.1 (Nat.le_of_ble_eq_true rfl) dX11_readThread_141 rfl ⟨Nat.zero_le _, Nat.zero_le _⟩ (fun r48 u49 H locs hp50 hO => ?_)
            obtain ⟨hr48, hu49⟩ := hp50
            have gr48 : 0 ≤ r48.toInt ∧ r48.toInt ≤ 1 := by rcases hr48 with h | h <;> rw [h] <;> decide
            rw [hu49] at hO
            refine bs_eq (tgt := 174) (X := (r48).toInt) hx hb dX11_readThread_144 (by decide) rfl (fun c51 => ?_) (fun c51 => ?_)
            · refine lv_aload_n hx hb dX11_readThread_174 rfl (lv_at hl 3 rfl) ?_
              refine gf_RX11_24 (v := .ref (a 4)) C hO 0 mW_0 rfl dX11_readThread_175 ?_
              refine lv_aload_n hx hb dX11_readThread_178 rfl (lv_at hl 3 rfl) ?_
              refine gf_RX11_246 (v := .int (fI u 0 37)) C hO 0 mW_0 (congrArg (fun z : Int32 => some (Value.int z)) (Km29_I37 hT)) dX11_readThread_179 ?_
              refine lv_dup2_11 hx hb dX11_readThread_182 rfl rfl ?_
              refine aI C hO 4 mW_4 (i_in (X := ((fI u 0 37)).toInt) rfl (by omega) (by omega)) dX11_readThread_183 ?_
              refine tE (y := hl_) (by exact (Eq.trans (congrFun (Eq.trans (by have h9 := (Km27_A4 hTu39); exact h9) cv0_k25) _) hhl_)) ?_
              refine lv_iconst (v := 1) hx hb dX11_readThread_184 (by decide) ?_
              refine lv_iadd hx hb dX11_readThread_185 ?_
              refine lv_topi (fun z52 ez52 => ?_)
              have e53 : z52.toInt = (hl_).toInt + 1 := by rw [ez52]; exact i_add rfl rfl (by omega)
              refine aIs C hO 4 mW_4 (i_in (X := ((fI u 0 37)).toInt) rfl (by omega) (by omega)) mW_s4 dX11_readThread_186 (fun H locs hO => ?_)
              have hT := Km29_wA4 hO hT
              have hJ := MIsA_4 hO hJ (by first | decide | omega)
              have q54 : ((fI u39 0 7) : Int32).toInt ≤ ((fI u 0 3) : Int32).toInt := by first | omega | decide
              have q55 : ((fI u39 0 6) : Int32).toInt ≤ ((fI u39 0 7) : Int32).toInt := by first | omega | decide
              have q56 : ((fI u39 0 8) : Int32).toInt = 0 ∨ ((fI u39 0 6) : Int32).toInt < ((fI u39 0 7) : Int32).toInt := by first | omega | decide
              have g57 : 0 ≤ (fI u 0 6).toInt ∧ (fI u 0 6).toInt ≤ 1600 := by have h := MI_6 hJ0; exact h
              have q58 : ((fI u 0 6) : Int32).toInt ≤ ((fI u39 0 6) : Int32).toInt := by first | omega | decide
              have g59 : 0 ≤ (fI u 0 4).toInt ∧ (fI u 0 4).toInt ≤ 5 := by have h := MI_4 hJ0; exact h
              have q60 : ((fI u 0 4) : Int32).toInt = 0 ∨ ¬ ((fI u39 0 4) : Int32).toInt = 0 := by first | omega | decide
              refine hret _ _ _ _ _ dX11_readThread_187 ?_ hO
              exact ⟨hJ, hT, (show ((fI u39 0 7) : Int32).toInt ≤ (fI u39 0 3 : Int32).toInt from by rw [show fI u39 0 3 = (fI u 0 3) from (Km29_I3 hT)]; first | done | exact q54), q55, q56, q58, q60⟩
            · refine lv_aload_n hx hb dX11_readThread_147 rfl (lv_at hl 3 rfl) ?_
              refine gf_RX11_48 (v := .ref (a 12)) C hO 0 mW_0 rfl dX11_readThread_148 ?_
              refine lv_aload_n hx hb dX11_readThread_151 rfl (lv_at hl 3 rfl) ?_
              refine gf_RX11_246 (v := .int (fI u 0 37)) C hO 0 mW_0 (congrArg (fun z : Int32 => some (Value.int z)) (Km29_I37 hT)) dX11_readThread_152 ?_
              refine lv_dup2_11 hx hb dX11_readThread_155 rfl rfl ?_
              refine aI C hO 12 mW_12 (i_in (X := ((fI u 0 37)).toInt) rfl (by omega) (by omega)) dX11_readThread_156 ?_
              refine tE (y := (fA u24 12 ((fI u 0 37)).toNatClampNeg)) (by exact (congrFun (by have h9 := (Km27_A12 hTu39); exact h9) _)) ?_
              refine lv_iconst (v := 1) hx hb dX11_readThread_157 (by decide) ?_
              refine lv_aload_n hx hb dX11_readThread_158 rfl (lv_at hl 3 rfl) ?_
              refine gf_RX11_24 (v := .ref (a 4)) C hO 0 mW_0 rfl dX11_readThread_159 ?_
              refine lv_aload_n hx hb dX11_readThread_162 rfl (lv_at hl 3 rfl) ?_
              refine gf_RX11_246 (v := .int (fI u 0 37)) C hO 0 mW_0 (congrArg (fun z : Int32 => some (Value.int z)) (Km29_I37 hT)) dX11_readThread_163 ?_
              refine aI C hO 4 mW_4 (i_in (X := ((fI u 0 37)).toInt) rfl (by omega) (by omega)) dX11_readThread_166 ?_
              refine tE (y := hl_) (by exact (Eq.trans (congrFun (Eq.trans (by have h9 := (Km27_A4 hTu39); exact h9) cv0_k25) _) hhl_)) ?_
              refine lv_ishl hx hb dX11_readThread_167 ?_
              refine lv_topi (fun z61 ez61 => ?_)
              have g62 : 0 ≤ z61.toInt ∧ z61.toInt ≤ 2 ^ 13 := by rw [ez61]; exact i_shl1 rfl (by omega) (by omega) (by decide)
              refine lv_ior hx hb dX11_readThread_168 ?_
              refine lv_topi (fun z63 ez63 => ?_)
              refine aIs C hO 12 mW_12 (i_in (X := ((fI u 0 37)).toInt) rfl (by omega) (by omega)) mW_s12 dX11_readThread_169 (fun H locs hO => ?_)
              have hT := Km29_wA12 hO hT
              have hJ := MIsA_12 hO hJ
              refine lv_aload_n hx hb dX11_readThread_170 rfl (lv_at hl 3 rfl) ?_
              refine cVv (w := mW cy a) (As := []) (rest := []) C hO (T_X11_goOn l D cy a _ (by exact hJ) (by exact (show ((fI u39 0 7) : Int32).toInt ≤ (fI u39 0 3 : Int32).toInt from by rw [show fI u39 0 3 = (fI u 0 3) from (Km29_I3 hT)]; first | done | omega | decide))) (cwV 0 ht (gV wd_1556 wd_1558 wd_48 wd_121 wd_1559) rfl rfl rfl hd_yX11_goOn ⟨Nat.le_of_ble_eq_true rfl, Nat.le_of_ble_eq_true rfl⟩) 0 rfl mW_0 rfl rfl hl.1 (Nat.le_of_ble_eq_true rfl) dX11_readThread_171 rfl ⟨Nat.zero_le _, Nat.zero_le _⟩ (fun u65 H locs hp66 hO => ?_)
              obtain ⟨hJ, hTu65, hx0u65, hx1u65, hx2u65, hx3u65⟩ := hp66
              have hT : Km29 u u65 := Km29.tr (by exact hT) (Km26_to_Km29 hTu65)
              have g67 : 0 ≤ (fI u65 0 7).toInt ∧ (fI u65 0 7).toInt ≤ 1601 := by have h := MI_7 hJ; exact h
              have y0u65 : ((fI u65 0 7) : Int32).toInt ≤ ((fI u 0 3) : Int32).toInt := by have h : ((fI u65 0 7) : Int32).toInt ≤ (fI u65 0 3 : Int32).toInt := hx0u65; rw [show fI u65 0 3 = (fI u 0 3) from (Km29_I3 hT)] at h; exact h
              have g68 : 0 ≤ (fI u65 0 6).toInt ∧ (fI u65 0 6).toInt ≤ 1600 := by have h := MI_6 hJ; exact h
              have y1u65 : ((fI u65 0 6) : Int32).toInt ≤ ((fI u65 0 7) : Int32).toInt := by exact hx1u65
              have g69 : 0 ≤ (fI u65 0 8).toInt ∧ (fI u65 0 8).toInt ≤ 5 := by have h := MI_8 hJ; exact h
              have y2u65 : ((fI u65 0 8) : Int32).toInt = 0 ∨ ((fI u65 0 6) : Int32).toInt < ((fI u65 0 7) : Int32).toInt := by exact hx2u65
              have y3u65 : ((fI u39 0 7) : Int32).toInt ≤ ((fI u65 0 6) : Int32).toInt := by exact hx3u65
              refine lv_aload_n hx hb dX11_readThread_174 rfl (lv_at hl 3 rfl) ?_
              refine gf_RX11_24 (v := .ref (a 4)) C hO 0 mW_0 rfl dX11_readThread_175 ?_
              refine lv_aload_n hx hb dX11_readThread_178 rfl (lv_at hl 3 rfl) ?_
              refine gf_RX11_246 (v := .int (fI u 0 37)) C hO 0 mW_0 (congrArg (fun z : Int32 => some (Value.int z)) (Km29_I37 hT)) dX11_readThread_179 ?_
              refine lv_dup2_11 hx hb dX11_readThread_182 rfl rfl ?_
              refine aI C hO 4 mW_4 (i_in (X := ((fI u 0 37)).toInt) rfl (by omega) (by omega)) dX11_readThread_183 ?_
              refine tE (y := hl_) (by exact (Eq.trans (congrFun (Eq.trans (by have h9 := (Km26_A4 hTu65); exact h9) (Eq.trans (by have h9 := (Km27_A4 hTu39); exact h9) cv0_k25)) _) hhl_)) ?_
              refine lv_iconst (v := 1) hx hb dX11_readThread_184 (by decide) ?_
              refine lv_iadd hx hb dX11_readThread_185 ?_
              refine lv_topi (fun z70 ez70 => ?_)
              have e71 : z70.toInt = (hl_).toInt + 1 := by rw [ez70]; exact i_add rfl rfl (by omega)
              refine aIs C hO 4 mW_4 (i_in (X := ((fI u 0 37)).toInt) rfl (by omega) (by omega)) mW_s4 dX11_readThread_186 (fun H locs hO => ?_)
              have hT := Km29_wA4 hO hT
              have hJ := MIsA_4 hO hJ (by first | decide | omega)
              have q72 : ((fI u65 0 7) : Int32).toInt ≤ ((fI u 0 3) : Int32).toInt := by first | omega | decide
              have q73 : ((fI u65 0 6) : Int32).toInt ≤ ((fI u65 0 7) : Int32).toInt := by first | omega | decide
              have q74 : ((fI u65 0 8) : Int32).toInt = 0 ∨ ((fI u65 0 6) : Int32).toInt < ((fI u65 0 7) : Int32).toInt := by first | omega | decide
              have g75 : 0 ≤ (fI u 0 6).toInt ∧ (fI u 0 6).toInt ≤ 1600 := by have h := MI_6 hJ0; exact h
              have q76 : ((fI u 0 6) : Int32).toInt ≤ ((fI u65 0 6) : Int32).toInt := by first | omega | decide
              have g77 : 0 ≤ (fI u 0 4).toInt ∧ (fI u 0 4).toInt ≤ 5 := by have h := MI_4 hJ0; exact h
              have q78 : ((fI u 0 4) : Int32).toInt = 0 ∨ ¬ ((fI u39 0 4) : Int32).toInt = 0 := by first | omega | decide
              refine hret _ _ _ _ _ dX11_readThread_187 ?_ hO
              exact ⟨hJ, hT, (show ((fI u65 0 7) : Int32).toInt ≤ (fI u65 0 3 : Int32).toInt from by rw [show fI u65 0 3 = (fI u 0 3) from (Km29_I3 hT)]; first | done | exact q72), q73, q74, q76, (show ((fI u 0 4) : Int32).toInt = 0 ∨ ¬ (fI u65 0 4 : Int32).toInt = 0 from by rw [show fI u65 0 4 = (fI u39 0 4) from (by have h9 := (Km26_I4 hTu65); exact h9)]; first | done | exact q78)⟩
          · subst hvr45
            refine bt_eq (tgt := 174) (X := 0) hx hb dX11_readThread_134 (by decide) rfl (by omega) ?_
            refine lv_aload_n hx hb dX11_readThread_174 rfl (lv_at hl 3 rfl) ?_
            refine gf_RX11_24 (v := .ref (a 4)) C hO 0 mW_0 rfl dX11_readThread_175 ?_
            refine lv_aload_n hx hb dX11_readThread_178 rfl (lv_at hl 3 rfl) ?_
            refine gf_RX11_246 (v := .int (fI u 0 37)) C hO 0 mW_0 (congrArg (fun z : Int32 => some (Value.int z)) (Km29_I37 hT)) dX11_readThread_179 ?_
            refine lv_dup2_11 hx hb dX11_readThread_182 rfl rfl ?_
            refine aI C hO 4 mW_4 (i_in (X := ((fI u 0 37)).toInt) rfl (by omega) (by omega)) dX11_readThread_183 ?_
            refine tE (y := hl_) (by exact (Eq.trans (congrFun (Eq.trans (by have h9 := (Km27_A4 hTu39); exact h9) cv0_k25) _) hhl_)) ?_
            refine lv_iconst (v := 1) hx hb dX11_readThread_184 (by decide) ?_
            refine lv_iadd hx hb dX11_readThread_185 ?_
            refine lv_topi (fun z79 ez79 => ?_)
            have e80 : z79.toInt = (hl_).toInt + 1 := by rw [ez79]; exact i_add rfl rfl (by omega)
            refine aIs C hO 4 mW_4 (i_in (X := ((fI u 0 37)).toInt) rfl (by omega) (by omega)) mW_s4 dX11_readThread_186 (fun H locs hO => ?_)
            have hT := Km29_wA4 hO hT
            have hJ := MIsA_4 hO hJ (by first | decide | omega)
            have q81 : ((fI u39 0 7) : Int32).toInt ≤ ((fI u 0 3) : Int32).toInt := by first | omega | decide
            have q82 : ((fI u39 0 6) : Int32).toInt ≤ ((fI u39 0 7) : Int32).toInt := by first | omega | decide
            have q83 : ((fI u39 0 8) : Int32).toInt = 0 ∨ ((fI u39 0 6) : Int32).toInt < ((fI u39 0 7) : Int32).toInt := by first | omega | decide
            have g84 : 0 ≤ (fI u 0 6).toInt ∧ (fI u 0 6).toInt ≤ 1600 := by have h := MI_6 hJ0; exact h
            have q85 : ((fI u 0 6) : Int32).toInt ≤ ((fI u39 0 6) : Int32).toInt := by first | omega | decide
            have g86 : 0 ≤ (fI u 0 4).toInt ∧ (fI u 0 4).toInt ≤ 5 := by have h := MI_4 hJ0; exact h
            have q87 : ((fI u 0 4) : Int32).toInt = 0 ∨ ¬ ((fI u39 0 4) : Int32).toInt = 0 := by first | omega | decide
            refine hret _ _ _ _ _ dX11_readThread_187 ?_ hO
            exact ⟨hJ, hT, (show ((fI u39 0 7) : Int32).toInt ≤ (fI u39 0 3 : Int32).toInt from by rw [show fI u39 0 3 = (fI u 0 3) from (Km29_I3 hT)]; first | done | exact q81), q82, q83, q85, q87⟩
        · refine lv_iload_n hx hb dX11_readThread_51 rfl (lv_at hl 1 rfl) ?_
          refine bs_lt (tgt := 74) (X := (r21).toInt) hx hb dX11_readThread_52 (by decide) rfl (fun c88 => ?_) (fun c88 => ?_)
          · obtain ⟨z89, ez89⟩ : ∃ z : Int32, z = k_k25 + Int32.ofInt 1 := ⟨_, rfl⟩
            have e90 : z89.toInt = (k_k25).toInt + 1 := by rw [ez89]; exact i_add rfl rfl (by omega)
            refine lv_iinc (v := z89) (lv' := [(3, .int z89), (2, .int r21), (1, .int r10), (0, .ref (a 0))]) hx hb dX11_readThread_74 hl (k := 0) rfl ez89.symm (by decide) rfl (fun ls hl => ?_)
            refine lv_goto (tgt := 38) hx hb dX11_readThread_77 (by decide) ?_
            exact ih_k25 _ _ _ _ (z89) (at_k25) (en_k25) (tk_k25) (fa_k25) hO (lv_sub hl [0, 1, 2, 3] rfl) (by exact hJ) (by exact hT) (by exact hat_k25) (by exact hen_k25) (by exact htk_k25) (by exact hfa_k25) (by first | decide | omega) (by first | decide | omega) (by first | decide | omega) (by first | decide | omega) (by first | decide | omega) (by first | decide | omega) (by first | decide | omega) (by first | decide | omega) (by first | decide | omega) (by first | decide | omega) (by exact cv0_k25) (by first | decide | omega)
          · refine lv_aload_n hx hb dX11_readThread_55 rfl (lv_at hl 3 rfl) ?_
            refine lv_iload_n hx hb dX11_readThread_56 rfl (lv_at hl 0 rfl) ?_
            refine lv_iload_n hx hb dX11_readThread_57 rfl (lv_at hl 2 rfl) ?_
            refine lv_iload_n hx hb dX11_readThread_58 rfl (lv_at hl 1 rfl) ?_
            refine cVi (w := mW cy a) (As := [.int k_k25, .int r10, .int r21]) (rest := []) C hO (T_X11_isThread l D cy a _ (by exact hJ) (k_k25) (r10) (r21) (by first | omega | decide)) (cwV 3 ht (gV wd_1643 wd_1645 wd_61 wd_121 wd_1646) rfl rfl rfl hd_yX11_isThread ⟨Nat.le_of_ble_eq_true rfl, Nat.le_of_ble_eq_true rfl⟩) 0 rfl mW_0 rfl rfl hl.1 (Nat.le_of_ble_eq_true rfl) dX11_readThread_59 rfl ⟨Nat.zero_le _, Nat.zero_le _⟩ (fun r91 u92 H locs hp93 hO => ?_)
            obtain ⟨hr91, hu92⟩ := hp93
            have gr91 : 0 ≤ r91.toInt ∧ r91.toInt ≤ 1 := by rcases hr91 with h | h <;> rw [h] <;> decide
            rw [hu92] at hO
            refine bs_eq (tgt := 74) (X := (r91).toInt) hx hb dX11_readThread_62 (by decide) rfl (fun c94 => ?_) (fun c94 => ?_)
            · obtain ⟨z95, ez95⟩ : ∃ z : Int32, z = k_k25 + Int32.ofInt 1 := ⟨_, rfl⟩
              have e96 : z95.toInt = (k_k25).toInt + 1 := by rw [ez95]; exact i_add rfl rfl (by omega)
              refine lv_iinc (v := z95) (lv' := [(3, .int z95), (2, .int r21), (1, .int r10), (0, .ref (a 0))]) hx hb dX11_readThread_74 hl (k := 0) rfl ez95.symm (by decide) rfl (fun ls hl => ?_)
              refine lv_goto (tgt := 38) hx hb dX11_readThread_77 (by decide) ?_
              exact ih_k25 _ _ _ _ (z95) (at_k25) (en_k25) (tk_k25) (fa_k25) hO (lv_sub hl [0, 1, 2, 3] rfl) (by exact hJ) (by exact hT) (by exact hat_k25) (by exact hen_k25) (by exact htk_k25) (by exact hfa_k25) (by first | decide | omega) (by first | decide | omega) (by first | decide | omega) (by first | decide | omega) (by first | decide | omega) (by first | decide | omega) (by first | decide | omega) (by first | decide | omega) (by first | decide | omega) (by first | decide | omega) (by exact cv0_k25) (by first | decide | omega)
            · refine lv_aload_n hx hb dX11_readThread_65 rfl (lv_at hl 3 rfl) ?_
              refine lv_iconst (v := 3) hx hb dX11_readThread_66 (by decide) ?_
              refine lv_aload_n hx hb dX11_readThread_67 rfl (lv_at hl 3 rfl) ?_
              refine gf_RX11_201 (v := .int at_k25) C hO 0 mW_0 (congrArg (fun z : Int32 => some (Value.int z)) hat_k25) dX11_readThread_68 ?_
              refine cVv (w := mW cy a) (As := [.int 3, .int at_k25]) (rest := []) C hO (T_X11_fails l D cy a _ (by exact hJ) (3) (at_k25) (by first | omega | decide)) (cwV 2 ht (gV wd_1619 wd_1621 wd_55 wd_121 wd_1622) rfl rfl rfl hd_yX11_fails ⟨Nat.le_of_ble_eq_true rfl, Nat.le_of_ble_eq_true rfl⟩) 0 rfl mW_0 rfl rfl hl.1 (Nat.le_of_ble_eq_true rfl) dX11_readThread_71 rfl ⟨Nat.zero_le _, Nat.zero_le _⟩ (fun u98 H locs hp99 hO => ?_)
              obtain ⟨hJ, hTu98, hx0u98⟩ := hp99
              have hT : Km29 u u98 := Km29.tr (by exact hT) (Km25_to_Km29 hTu98)
              have g100 : 0 ≤ (fI u98 0 4).toInt ∧ (fI u98 0 4).toInt ≤ 5 := by have h := MI_4 hJ; exact h
              have y0u98 : ¬ ((fI u98 0 4) : Int32).toInt = 0 := by exact hx0u98
              obtain ⟨z101, ez101⟩ : ∃ z : Int32, z = k_k25 + Int32.ofInt 1 := ⟨_, rfl⟩
              have e102 : z101.toInt = (k_k25).toInt + 1 := by rw [ez101]; exact i_add rfl rfl (by omega)
              refine lv_iinc (v := z101) (lv' := [(3, .int z101), (2, .int r21), (1, .int r10), (0, .ref (a 0))]) hx hb dX11_readThread_74 hl (k := 0) rfl ez101.symm (by decide) rfl (fun ls hl => ?_)
              refine lv_goto (tgt := 38) hx hb dX11_readThread_77 (by decide) ?_
              exact ih_k25 _ _ _ _ (z101) (at_k25) (en_k25) (tk_k25) ((fI u98 0 4)) hO (lv_sub hl [0, 1, 2, 3] rfl) (by exact hJ) (by exact hT) (by exact (Eq.trans (Km25_I6 hTu98) hat_k25)) (by exact (Eq.trans (Km25_I7 hTu98) hen_k25)) (by exact (Eq.trans (Km25_I8 hTu98) htk_k25)) (by exact rfl) (by first | decide | omega) (by first | decide | omega) (by first | decide | omega) (by first | decide | omega) (by first | decide | omega) (by first | decide | omega) (by first | decide | omega) (by first | decide | omega) (by first | decide | omega) (by first | decide | omega) (by exact (Eq.trans (Km25_A4 hTu98) cv0_k25)) (by first | decide | omega)
    refine lv_iload_n hx hb dX11_readThread_22 rfl (lv_at hl 1 rfl) ?_
    refine lv_iload_n hx hb dX11_readThread_23 rfl (lv_at hl 0 rfl) ?_
    refine cs_ne (tgt := 36) (X := (r10).toInt) (Y := (r21).toInt) hx hb dX11_readThread_24 (by decide) rfl rfl (fun c103 => ?_) (fun c103 => ?_)
    · refine lv_iconst (v := 0) hx hb dX11_readThread_36 (by decide) ?_
      refine lv_istore_n (lv' := [(3, .int 0), (2, .int r21), (1, .int r10), (0, .ref (a 0))]) hx hb dX11_readThread_37 rfl hl (by decide) rfl (fun ls hl => ?_)
      have zc104 : (0 : Int32).toInt = 0 := rfl
      exact LP_38_k25 4000 _ _ _ _ (0) ((fI u11 0 6)) ((fI u11 0 7)) ((fI u11 0 8)) ((fI u11 0 4)) hO (lv_sub hl [0, 1, 2, 3] rfl) (by exact hJ) (by exact hT) (by exact rfl) (by exact rfl) (by exact rfl) (by exact rfl) (by first | decide | omega) (by first | decide | omega) (by first | decide | omega) (by first | decide | omega) (by first | decide | omega) (by first | decide | omega) (by first | decide | omega) (by first | decide | omega) (by first | decide | omega) (by first | decide | omega) (by exact (Km27_A4 hTu11)) (by first | decide | omega)
    · refine lv_aload_n hx hb dX11_readThread_27 rfl (lv_at hl 2 rfl) ?_
      refine lv_iconst (v := 3) hx hb dX11_readThread_28 (by decide) ?_
      refine lv_aload_n hx hb dX11_readThread_29 rfl (lv_at hl 2 rfl) ?_
      refine gf_RX11_201 (v := .int (fI u11 0 6)) C hO 0 mW_0 rfl dX11_readThread_30 ?_
      refine cVv (w := mW cy a) (As := [.int 3, .int (fI u11 0 6)]) (rest := []) C hO (T_X11_fails l D cy a _ (by exact hJ) (3) ((fI u11 0 6)) (by first | omega | decide)) (cwV 2 ht (gV wd_1619 wd_1621 wd_55 wd_121 wd_1622) rfl rfl rfl hd_yX11_fails ⟨Nat.le_of_ble_eq_true rfl, Nat.le_of_ble_eq_true rfl⟩) 0 rfl mW_0 rfl rfl hl.1 (Nat.le_of_ble_eq_true rfl) dX11_readThread_33 rfl ⟨Nat.zero_le _, Nat.zero_le _⟩ (fun u106 H locs hp107 hO => ?_)
      obtain ⟨hJ, hTu106, hx0u106⟩ := hp107
      have hT : Km29 u u106 := Km29.tr (by exact hT) (Km25_to_Km29 hTu106)
      have g108 : 0 ≤ (fI u106 0 4).toInt ∧ (fI u106 0 4).toInt ≤ 5 := by have h := MI_4 hJ; exact h
      have y0u106 : ¬ ((fI u106 0 4) : Int32).toInt = 0 := by exact hx0u106
      refine lv_iconst (v := 0) hx hb dX11_readThread_36 (by decide) ?_
      refine lv_istore_n (lv' := [(3, .int 0), (2, .int r21), (1, .int r10), (0, .ref (a 0))]) hx hb dX11_readThread_37 rfl hl (by decide) rfl (fun ls hl => ?_)
      have zc109 : (0 : Int32).toInt = 0 := rfl
      exact LP_38_k25 4000 _ _ _ _ (0) ((fI u11 0 6)) ((fI u11 0 7)) ((fI u11 0 8)) ((fI u106 0 4)) hO (lv_sub hl [0, 1, 2, 3] rfl) (by exact hJ) (by exact hT) (by exact (Km25_I6 hTu106)) (by exact (Km25_I7 hTu106)) (by exact (Km25_I8 hTu106)) (by exact rfl) (by first | decide | omega) (by first | decide | omega) (by first | decide | omega) (by first | decide | omega) (by first | decide | omega) (by first | decide | omega) (by first | decide | omega) (by first | decide | omega) (by first | decide | omega) (by first | decide | omega) (by exact (Eq.trans (Km25_A4 hTu106) (Km27_A4 hTu11))) (by first | decide | omega)
  · subst hvr18
    refine bn_ne (X := 0) hx hb dX11_readThread_13 rfl (by omega) ?_ (tgt := 17) (by decide)
    have q110 : ((fI u11 0 7) : Int32).toInt ≤ ((fI u 0 3) : Int32).toInt := by first | omega | decide
    have q111 : ((fI u11 0 6) : Int32).toInt ≤ ((fI u11 0 7) : Int32).toInt := by first | omega | decide
    have q112 : ((fI u11 0 8) : Int32).toInt = 0 ∨ ((fI u11 0 6) : Int32).toInt < ((fI u11 0 7) : Int32).toInt := by first | omega | decide
    have q113 : ((fI u 0 6) : Int32).toInt ≤ ((fI u11 0 6) : Int32).toInt := by first | omega | decide
    have q114 : ((fI u 0 4) : Int32).toInt = 0 ∨ ¬ ((fI u11 0 4) : Int32).toInt = 0 := by first | omega | decide
    refine hret _ _ _ _ _ dX11_readThread_16 ?_ hO
    exact ⟨hJ, hT, (show ((fI u11 0 7) : Int32).toInt ≤ (fI u11 0 3 : Int32).toInt from by rw [show fI u11 0 3 = (fI u 0 3) from (Km29_I3 hT)]; first | done | exact q110), q111, q112, q113, q114⟩
def Km30 (u v : St) : Prop := fI v 0 2 = fI u 0 2 ∧ fI v 0 3 = fI u 0 3 ∧ fI v 0 36 = fI u 0 36 ∧ fI v 0 37 = fI u 0 37 ∧ fI v 0 38 = fI u 0 38 ∧ fI v 0 39 = fI u 0 39 ∧ fI v 0 40 = fI u 0 40 ∧ fI v 0 41 = fI u 0 41 ∧ fI v 0 42 = fI u 0 42 ∧ fI v 0 43 = fI u 0 43 ∧ fI v 0 45 = fI u 0 45 ∧ fI v 0 47 = fI u 0 47 ∧ fI v 0 48 = fI u 0 48 ∧ fI v 0 50 = fI u 0 50 ∧ fI v 0 61 = fI u 0 61 ∧ fI v 0 62 = fI u 0 62 ∧ fA v 1 = fA u 1 ∧ fA v 2 = fA u 2 ∧ fA v 3 = fA u 3 ∧ fA v 4 = fA u 4 ∧ fA v 5 = fA u 5 ∧ fA v 7 = fA u 7 ∧ fA v 8 = fA u 8 ∧ fA v 9 = fA u 9 ∧ fA v 10 = fA u 10 ∧ fA v 11 = fA u 11 ∧ fA v 12 = fA u 12 ∧ fA v 13 = fA u 13 ∧ fA v 14 = fA u 14 ∧ fA v 15 = fA u 15 ∧ fA v 18 = fA u 18 ∧ fA v 19 = fA u 19 ∧ fJ v 20 = fJ u 20 ∧ fJ v 21 = fJ u 21 ∧ fA v 23 = fA u 23 ∧ fA v 24 = fA u 24 ∧ fA v 25 = fA u 25 ∧ fA v 26 = fA u 26 ∧ fA v 27 = fA u 27 ∧ fA v 28 = fA u 28 ∧ fA v 29 = fA u 29 ∧ fA v 30 = fA u 30 ∧ fA v 31 = fA u 31 ∧ fA v 32 = fA u 32 ∧ fA v 33 = fA u 33 ∧ fA v 34 = fA u 34 ∧ fA v 35 = fA u 35 ∧ fA v 36 = fA u 36 ∧ fA v 37 = fA u 37 ∧ fA v 38 = fA u 38 ∧ fA v 39 = fA u 39 ∧ fA v 40 = fA u 40 ∧ fA v 41 = fA u 41 ∧ fA v 42 = fA u 42
theorem Km30.rf {u : St} : Km30 u u := ⟨rfl, rfl, rfl, rfl, rfl, rfl, rfl, rfl, rfl, rfl, rfl, rfl, rfl, rfl, rfl, rfl, rfl, rfl, rfl, rfl, rfl, rfl, rfl, rfl, rfl, rfl, rfl, rfl, rfl, rfl, rfl, rfl, rfl, rfl, rfl, rfl, rfl, rfl, rfl, rfl, rfl, rfl, rfl, rfl, rfl, rfl, rfl, rfl, rfl, rfl, rfl, rfl, rfl, rfl⟩
theorem Km30.tr {u v w : St} (h1 : Km30 u v) (h2 : Km30 v w) : Km30 u w := ⟨(h2.1).trans h1.1, (h2.2.1).trans h1.2.1, (h2.2.2.1).trans h1.2.2.1, (h2.2.2.2.1).trans h1.2.2.2.1, (h2.2.2.2.2.1).trans h1.2.2.2.2.1, (h2.2.2.2.2.2.1).trans h1.2.2.2.2.2.1, (h2.2.2.2.2.2.2.1).trans h1.2.2.2.2.2.2.1, (h2.2.2.2.2.2.2.2.1).trans h1.2.2.2.2.2.2.2.1, (h2.2.2.2.2.2.2.2.2.1).trans h1.2.2.2.2.2.2.2.2.1, (h2.2.2.2.2.2.2.2.2.2.1).trans h1.2.2.2.2.2.2.2.2.2.1, (h2.2.2.2.2.2.2.2.2.2.2.1).trans h1.2.2.2.2.2.2.2.2.2.2.1, (h2.2.2.2.2.2.2.2.2.2.2.2.1).trans h1.2.2.2.2.2.2.2.2.2.2.2.1, (h2.2.2.2.2.2.2.2.2.2.2.2.2.1).trans h1.2.2.2.2.2.2.2.2.2.2.2.2.1, (h2.2.2.2.2.2.2.2.2.2.2.2.2.2.1).trans h1.2.2.2.2.2.2.2.2.2.2.2.2.2.1, (h2.2.2.2.2.2.2.2.2.2.2.2.2.2.2.1).trans h1.2.2.2.2.2.2.2.2.2.2.2.2.2.2.1, (h2.2.2.2.2.2.2.2.2.2.2.2.2.2.2.2.1).trans h1.2.2.2.2.2.2.2.2.2.2.2.2.2.2.2.1, (h2.2.2.2.2.2.2.2.2.2.2.2.2.2.2.2.2.1).trans h1.2.2.2.2.2.2.2.2.2.2.2.2.2.2.2.2.1, (h2.2.2.2.2.2.2.2.2.2.2.2.2.2.2.2.2.2.1).trans h1.2.2.2.2.2.2.2.2.2.2.2.2.2.2.2.2.2.1, (h2.2.2.2.2.2.2.2.2.2.2.2.2.2.2.2.2.2.2.1).trans h1.2.2.2.2.2.2.2.2.2.2.2.2.2.2.2.2.2.2.1, (h2.2.2.2.2.2.2.2.2.2.2.2.2.2.2.2.2.2.2.2.1).trans h1.2.2.2.2.2.2.2.2.2.2.2.2.2.2.2.2.2.2.2.1, (h2.2.2.2.2.2.2.2.2.2.2.2.2.2.2.2.2.2.2.2.2.1).trans h1.2.2.2.2.2.2.2.2.2.2.2.2.2.2.2.2.2.2.2.2.1, (h2.2.2.2.2.2.2.2.2.2.2.2.2.2.2.2.2.2.2.2.2.2.1).trans h1.2.2.2.2.2.2.2.2.2.2.2.2.2.2.2.2.2.2.2.2.2.1, (h2.2.2.2.2.2.2.2.2.2.2.2.2.2.2.2.2.2.2.2.2.2.2.1).trans h1.2.2.2.2.2.2.2.2.2.2.2.2.2.2.2.2.2.2.2.2.2.2.1, (h2.2.2.2.2.2.2.2.2.2.2.2.2.2.2.2.2.2.2.2.2.2.2.2.1).trans h1.2.2.2.2.2.2.2.2.2.2.2.2.2.2.2.2.2.2.2.2.2.2.2.1, (h2.2.2.2.2.2.2.2.2.2.2.2.2.2.2.2.2.2.2.2.2.2.2.2.2.1).trans h1.2.2.2.2.2.2.2.2.2.2.2.2.2.2.2.2.2.2.2.2.2.2.2.2.1, (h2.2.2.2.2.2.2.2.2.2.2.2.2.2.2.2.2.2.2.2.2.2.2.2.2.2.1).trans h1.2.2.2.2.2.2.2.2.2.2.2.2.2.2.2.2.2.2.2.2.2.2.2.2.2.1, (h2.2.2.2.2.2.2.2.2.2.2.2.2.2.2.2.2.2.2.2.2.2.2.2.2.2.2.1).trans h1.2.2.2.2.2.2.2.2.2.2.2.2.2.2.2.2.2.2.2.2.2.2.2.2.2.2.1, (h2.2.2.2.2.2.2.2.2.2.2.2.2.2.2.2.2.2.2.2.2.2.2.2.2.2.2.2.1).trans h1.2.2.2.2.2.2.2.2.2.2.2.2.2.2.2.2.2.2.2.2.2.2.2.2.2.2.2.1, (h2.2.2.2.2.2.2.2.2.2.2.2.2.2.2.2.2.2.2.2.2.2.2.2.2.2.2.2.2.1).trans h1.2.2.2.2.2.2.2.2.2.2.2.2.2.2.2.2.2.2.2.2.2.2.2.2.2.2.2.2.1, (h2.2.2.2.2.2.2.2.2.2.2.2.2.2.2.2.2.2.2.2.2.2.2.2.2.2.2.2.2.2.1).trans h1.2.2.2.2.2.2.2.2.2.2.2.2.2.2.2.2.2.2.2.2.2.2.2.2.2.2.2.2.2.1, (h2.2.2.2.2.2.2.2.2.2.2.2.2.2.2.2.2.2.2.2.2.2.2.2.2.2.2.2.2.2.2.1).trans h1.2.2.2.2.2.2.2.2.2.2.2.2.2.2.2.2.2.2.2.2.2.2.2.2.2.2.2.2.2.2.1, (h2.2.2.2.2.2.2.2.2.2.2.2.2.2.2.2.2.2.2.2.2.2.2.2.2.2.2.2.2.2.2.2.1).trans h1.2.2.2.2.2.2.2.2.2.2.2.2.2.2.2.2.2.2.2.2.2.2.2.2.2.2.2.2.2.2.2.1, (h2.2.2.2.2.2.2.2.2.2.2.2.2.2.2.2.2.2.2.2.2.2.2.2.2.2.2.2.2.2.2.2.2.1).trans h1.2.2.2.2.2.2.2.2.2.2.2.2.2.2.2.2.2.2.2.2.2.2.2.2.2.2.2.2.2.2.2.2.1, (h2.2.2.2.2.2.2.2.2.2.2.2.2.2.2.2.2.2.2.2.2.2.2.2.2.2.2.2.2.2.2.2.2.2.1).trans h1.2.2.2.2.2.2.2.2.2.2.2.2.2.2.2.2.2.2.2.2.2.2.2.2.2.2.2.2.2.2.2.2.2.1, (h2.2.2.2.2.2.2.2.2.2.2.2.2.2.2.2.2.2.2.2.2.2.2.2.2.2.2.2.2.2.2.2.2.2.2.1).trans h1.2.2.2.2.2.2.2.2.2.2.2.2.2.2.2.2.2.2.2.2.2.2.2.2.2.2.2.2.2.2.2.2.2.2.1, (h2.2.2.2.2.2.2.2.2.2.2.2.2.2.2.2.2.2.2.2.2.2.2.2.2.2.2.2.2.2.2.2.2.2.2.2.1).trans h1.2.2.2.2.2.2.2.2.2.2.2.2.2.2.2.2.2.2.2.2.2.2.2.2.2.2.2.2.2.2.2.2.2.2.2.1, (h2.2.2.2.2.2.2.2.2.2.2.2.2.2.2.2.2.2.2.2.2.2.2.2.2.2.2.2.2.2.2.2.2.2.2.2.2.1).trans h1.2.2.2.2.2.2.2.2.2.2.2.2.2.2.2.2.2.2.2.2.2.2.2.2.2.2.2.2.2.2.2.2.2.2.2.2.1, (h2.2.2.2.2.2.2.2.2.2.2.2.2.2.2.2.2.2.2.2.2.2.2.2.2.2.2.2.2.2.2.2.2.2.2.2.2.2.1).trans h1.2.2.2.2.2.2.2.2.2.2.2.2.2.2.2.2.2.2.2.2.2.2.2.2.2.2.2.2.2.2.2.2.2.2.2.2.2.1, (h2.2.2.2.2.2.2.2.2.2.2.2.2.2.2.2.2.2.2.2.2.2.2.2.2.2.2.2.2.2.2.2.2.2.2.2.2.2.2.1).trans h1.2.2.2.2.2.2.2.2.2.2.2.2.2.2.2.2.2.2.2.2.2.2.2.2.2.2.2.2.2.2.2.2.2.2.2.2.2.2.1, (h2.2.2.2.2.2.2.2.2.2.2.2.2.2.2.2.2.2.2.2.2.2.2.2.2.2.2.2.2.2.2.2.2.2.2.2.2.2.2.2.1).trans h1.2.2.2.2.2.2.2.2.2.2.2.2.2.2.2.2.2.2.2.2.2.2.2.2.2.2.2.2.2.2.2.2.2.2.2.2.2.2.2.1, (h2.2.2.2.2.2.2.2.2.2.2.2.2.2.2.2.2.2.2.2.2.2.2.2.2.2.2.2.2.2.2.2.2.2.2.2.2.2.2.2.2.1).trans h1.2.2.2.2.2.2.2.2.2.2.2.2.2.2.2.2.2.2.2.2.2.2.2.2.2.2.2.2.2.2.2.2.2.2.2.2.2.2.2.2.1, (h2.2.2.2.2.2.2.2.2.2.2.2.2.2.2.2.2.2.2.2.2.2.2.2.2.2.2.2.2.2.2.2.2.2.2.2.2.2.2.2.2.2.1).trans h1.2.2.2.2.2.2.2.2.2.2.2.2.2.2.2.2.2.2.2.2.2.2.2.2.2.2.2.2.2.2.2.2.2.2.2.2.2.2.2.2.2.1, (h2.2.2.2.2.2.2.2.2.2.2.2.2.2.2.2.2.2.2.2.2.2.2.2.2.2.2.2.2.2.2.2.2.2.2.2.2.2.2.2.2.2.2.1).trans h1.2.2.2.2.2.2.2.2.2.2.2.2.2.2.2.2.2.2.2.2.2.2.2.2.2.2.2.2.2.2.2.2.2.2.2.2.2.2.2.2.2.2.1, (h2.2.2.2.2.2.2.2.2.2.2.2.2.2.2.2.2.2.2.2.2.2.2.2.2.2.2.2.2.2.2.2.2.2.2.2.2.2.2.2.2.2.2.2.1).trans h1.2.2.2.2.2.2.2.2.2.2.2.2.2.2.2.2.2.2.2.2.2.2.2.2.2.2.2.2.2.2.2.2.2.2.2.2.2.2.2.2.2.2.2.1, (h2.2.2.2.2.2.2.2.2.2.2.2.2.2.2.2.2.2.2.2.2.2.2.2.2.2.2.2.2.2.2.2.2.2.2.2.2.2.2.2.2.2.2.2.2.1).trans h1.2.2.2.2.2.2.2.2.2.2.2.2.2.2.2.2.2.2.2.2.2.2.2.2.2.2.2.2.2.2.2.2.2.2.2.2.2.2.2.2.2.2.2.2.1, (h2.2.2.2.2.2.2.2.2.2.2.2.2.2.2.2.2.2.2.2.2.2.2.2.2.2.2.2.2.2.2.2.2.2.2.2.2.2.2.2.2.2.2.2.2.2.1).trans h1.2.2.2.2.2.2.2.2.2.2.2.2.2.2.2.2.2.2.2.2.2.2.2.2.2.2.2.2.2.2.2.2.2.2.2.2.2.2.2.2.2.2.2.2.2.1, (h2.2.2.2.2.2.2.2.2.2.2.2.2.2.2.2.2.2.2.2.2.2.2.2.2.2.2.2.2.2.2.2.2.2.2.2.2.2.2.2.2.2.2.2.2.2.2.1).trans h1.2.2.2.2.2.2.2.2.2.2.2.2.2.2.2.2.2.2.2.2.2.2.2.2.2.2.2.2.2.2.2.2.2.2.2.2.2.2.2.2.2.2.2.2.2.2.1, (h2.2.2.2.2.2.2.2.2.2.2.2.2.2.2.2.2.2.2.2.2.2.2.2.2.2.2.2.2.2.2.2.2.2.2.2.2.2.2.2.2.2.2.2.2.2.2.2.1).trans h1.2.2.2.2.2.2.2.2.2.2.2.2.2.2.2.2.2.2.2.2.2.2.2.2.2.2.2.2.2.2.2.2.2.2.2.2.2.2.2.2.2.2.2.2.2.2.2.1, (h2.2.2.2.2.2.2.2.2.2.2.2.2.2.2.2.2.2.2.2.2.2.2.2.2.2.2.2.2.2.2.2.2.2.2.2.2.2.2.2.2.2.2.2.2.2.2.2.2.1).trans h1.2.2.2.2.2.2.2.2.2.2.2.2.2.2.2.2.2.2.2.2.2.2.2.2.2.2.2.2.2.2.2.2.2.2.2.2.2.2.2.2.2.2.2.2.2.2.2.2.1, (h2.2.2.2.2.2.2.2.2.2.2.2.2.2.2.2.2.2.2.2.2.2.2.2.2.2.2.2.2.2.2.2.2.2.2.2.2.2.2.2.2.2.2.2.2.2.2.2.2.2.1).trans h1.2.2.2.2.2.2.2.2.2.2.2.2.2.2.2.2.2.2.2.2.2.2.2.2.2.2.2.2.2.2.2.2.2.2.2.2.2.2.2.2.2.2.2.2.2.2.2.2.2.1, (h2.2.2.2.2.2.2.2.2.2.2.2.2.2.2.2.2.2.2.2.2.2.2.2.2.2.2.2.2.2.2.2.2.2.2.2.2.2.2.2.2.2.2.2.2.2.2.2.2.2.2.1).trans h1.2.2.2.2.2.2.2.2.2.2.2.2.2.2.2.2.2.2.2.2.2.2.2.2.2.2.2.2.2.2.2.2.2.2.2.2.2.2.2.2.2.2.2.2.2.2.2.2.2.2.1, (h2.2.2.2.2.2.2.2.2.2.2.2.2.2.2.2.2.2.2.2.2.2.2.2.2.2.2.2.2.2.2.2.2.2.2.2.2.2.2.2.2.2.2.2.2.2.2.2.2.2.2.2.1).trans h1.2.2.2.2.2.2.2.2.2.2.2.2.2.2.2.2.2.2.2.2.2.2.2.2.2.2.2.2.2.2.2.2.2.2.2.2.2.2.2.2.2.2.2.2.2.2.2.2.2.2.2.1, (h2.2.2.2.2.2.2.2.2.2.2.2.2.2.2.2.2.2.2.2.2.2.2.2.2.2.2.2.2.2.2.2.2.2.2.2.2.2.2.2.2.2.2.2.2.2.2.2.2.2.2.2.2.1).trans h1.2.2.2.2.2.2.2.2.2.2.2.2.2.2.2.2.2.2.2.2.2.2.2.2.2.2.2.2.2.2.2.2.2.2.2.2.2.2.2.2.2.2.2.2.2.2.2.2.2.2.2.2.1, (h2.2.2.2.2.2.2.2.2.2.2.2.2.2.2.2.2.2.2.2.2.2.2.2.2.2.2.2.2.2.2.2.2.2.2.2.2.2.2.2.2.2.2.2.2.2.2.2.2.2.2.2.2.2).trans h1.2.2.2.2.2.2.2.2.2.2.2.2.2.2.2.2.2.2.2.2.2.2.2.2.2.2.2.2.2.2.2.2.2.2.2.2.2.2.2.2.2.2.2.2.2.2.2.2.2.2.2.2.2⟩
theorem dX11_readCase_0 : decode cX11_readCase 0 = .ok (.bipush 6, 2) := by decide +kernel
theorem dX11_readCase_2 : decode cX11_readCase 2 = .ok (.aload_n 0, 1) := by decide +kernel
theorem dX11_readCase_3 : decode cX11_readCase 3 = .ok (.getfield 246, 3) := by decide +kernel
theorem dX11_readCase_6 : decode cX11_readCase 6 = .ok (.imul, 1) := by decide +kernel
theorem dX11_readCase_7 : decode cX11_readCase 7 = .ok (.aload_n 0, 1) := by decide +kernel
theorem dX11_readCase_8 : decode cX11_readCase 8 = .ok (.getfield 30, 3) := by decide +kernel
theorem dX11_readCase_11 : decode cX11_readCase 11 = .ok (.aload_n 0, 1) := by decide +kernel
theorem dX11_readCase_12 : decode cX11_readCase 12 = .ok (.getfield 246, 3) := by decide +kernel
theorem dX11_readCase_15 : decode cX11_readCase 15 = .ok (.iaload, 1) := by decide +kernel
theorem dX11_readCase_16 : decode cX11_readCase 16 = .ok (.iadd, 1) := by decide +kernel
theorem dX11_readCase_17 : decode cX11_readCase 17 = .ok (.istore_n 1, 1) := by decide +kernel
theorem dX11_readCase_18 : decode cX11_readCase 18 = .ok (.aload_n 0, 1) := by decide +kernel
theorem dX11_readCase_19 : decode cX11_readCase 19 = .ok (.getfield 79, 3) := by decide +kernel
theorem dX11_readCase_22 : decode cX11_readCase 22 = .ok (.iload_n 1, 1) := by decide +kernel
theorem dX11_readCase_23 : decode cX11_readCase 23 = .ok (.aload_n 0, 1) := by decide +kernel
theorem dX11_readCase_24 : decode cX11_readCase 24 = .ok (.aload_n 0, 1) := by decide +kernel
theorem dX11_readCase_25 : decode cX11_readCase 25 = .ok (.aload_n 0, 1) := by decide +kernel
theorem dX11_readCase_26 : decode cX11_readCase 26 = .ok (.getfield 79, 3) := by decide +kernel
theorem dX11_readCase_29 : decode cX11_readCase 29 = .ok (.bipush 6, 2) := by decide +kernel
theorem dX11_readCase_31 : decode cX11_readCase 31 = .ok (.aload_n 0, 1) := by decide +kernel
theorem dX11_readCase_32 : decode cX11_readCase 32 = .ok (.getfield 246, 3) := by decide +kernel
theorem dX11_readCase_35 : decode cX11_readCase 35 = .ok (.imul, 1) := by decide +kernel
theorem dX11_readCase_36 : decode cX11_readCase 36 = .ok (.aload_n 0, 1) := by decide +kernel
theorem dX11_readCase_37 : decode cX11_readCase 37 = .ok (.getfield 30, 3) := by decide +kernel
theorem dX11_readCase_40 : decode cX11_readCase 40 = .ok (.aload_n 0, 1) := by decide +kernel
theorem dX11_readCase_41 : decode cX11_readCase 41 = .ok (.getfield 246, 3) := by decide +kernel
theorem dX11_readCase_44 : decode cX11_readCase 44 = .ok (.iaload, 1) := by decide +kernel
theorem dX11_readCase_45 : decode cX11_readCase 45 = .ok (.invokevirtual 308, 3) := by decide +kernel
theorem dX11_readCase_48 : decode cX11_readCase 48 = .ok (.invokevirtual 279, 3) := by decide +kernel
theorem dX11_readCase_51 : decode cX11_readCase 51 = .ok (.lastore, 1) := by decide +kernel
theorem dX11_readCase_52 : decode cX11_readCase 52 = .ok (.aload_n 0, 1) := by decide +kernel
theorem dX11_readCase_53 : decode cX11_readCase 53 = .ok (.aload_n 0, 1) := by decide +kernel
theorem dX11_readCase_54 : decode cX11_readCase 54 = .ok (.ldc2_w 170, 3) := by decide +kernel
theorem dX11_readCase_57 : decode cX11_readCase 57 = .ok (.invokevirtual 261, 3) := by decide +kernel
theorem dX11_readCase_60 : decode cX11_readCase 60 = .ok (.invokevirtual 289, 3) := by decide +kernel
theorem dX11_readCase_63 : decode cX11_readCase 63 = .ok (.aload_n 0, 1) := by decide +kernel
theorem dX11_readCase_64 : decode cX11_readCase 64 = .ok (.getfield 60, 3) := by decide +kernel
theorem dX11_readCase_67 : decode cX11_readCase 67 = .ok (.iload_n 1, 1) := by decide +kernel
theorem dX11_readCase_68 : decode cX11_readCase 68 = .ok (.aload_n 0, 1) := by decide +kernel
theorem dX11_readCase_69 : decode cX11_readCase 69 = .ok (.aload_n 0, 1) := by decide +kernel
theorem dX11_readCase_70 : decode cX11_readCase 70 = .ok (.invokevirtual 275, 3) := by decide +kernel
theorem dX11_readCase_73 : decode cX11_readCase 73 = .ok (.invokevirtual 296, 3) := by decide +kernel
theorem dX11_readCase_76 : decode cX11_readCase 76 = .ok (.iastore, 1) := by decide +kernel
theorem dX11_readCase_77 : decode cX11_readCase 77 = .ok (.aload_n 0, 1) := by decide +kernel
theorem dX11_readCase_78 : decode cX11_readCase 78 = .ok (.aload_n 0, 1) := by decide +kernel
theorem dX11_readCase_79 : decode cX11_readCase 79 = .ok (.ldc2_w 172, 3) := by decide +kernel
theorem dX11_readCase_82 : decode cX11_readCase 82 = .ok (.invokevirtual 261, 3) := by decide +kernel
theorem dX11_readCase_85 : decode cX11_readCase 85 = .ok (.invokevirtual 289, 3) := by decide +kernel
theorem dX11_readCase_88 : decode cX11_readCase 88 = .ok (.aload_n 0, 1) := by decide +kernel
theorem dX11_readCase_89 : decode cX11_readCase 89 = .ok (.getfield 63, 3) := by decide +kernel
theorem dX11_readCase_92 : decode cX11_readCase 92 = .ok (.iload_n 1, 1) := by decide +kernel
theorem dX11_readCase_93 : decode cX11_readCase 93 = .ok (.iconst 0, 1) := by decide +kernel
theorem dX11_readCase_94 : decode cX11_readCase 94 = .ok (.iastore, 1) := by decide +kernel
theorem dX11_readCase_95 : decode cX11_readCase 95 = .ok (.iconst 1, 1) := by decide +kernel
theorem dX11_readCase_96 : decode cX11_readCase 96 = .ok (.istore_n 2, 1) := by decide +kernel
theorem dX11_readCase_97 : decode cX11_readCase 97 = .ok (.aload_n 0, 1) := by decide +kernel
theorem dX11_readCase_98 : decode cX11_readCase 98 = .ok (.invokevirtual 236, 3) := by decide +kernel
theorem dX11_readCase_101 : decode cX11_readCase 101 = .ok (.ifCond .eq 123, 3) := by decide +kernel
theorem dX11_readCase_104 : decode cX11_readCase 104 = .ok (.iload_n 2, 1) := by decide +kernel
theorem dX11_readCase_105 : decode cX11_readCase 105 = .ok (.ifCond .eq 119, 3) := by decide +kernel
theorem dX11_readCase_108 : decode cX11_readCase 108 = .ok (.aload_n 0, 1) := by decide +kernel
theorem dX11_readCase_109 : decode cX11_readCase 109 = .ok (.invokevirtual 286, 3) := by decide +kernel
theorem dX11_readCase_112 : decode cX11_readCase 112 = .ok (.istore_n 3, 1) := by decide +kernel
theorem dX11_readCase_113 : decode cX11_readCase 113 = .ok (.aload_n 0, 1) := by decide +kernel
theorem dX11_readCase_114 : decode cX11_readCase 114 = .ok (.getfield 208, 3) := by decide +kernel
theorem dX11_readCase_117 : decode cX11_readCase 117 = .ok (.iconst 2, 1) := by decide +kernel
theorem dX11_readCase_118 : decode cX11_readCase 118 = .ok (.if_icmp .ne 16, 3) := by decide +kernel
theorem dX11_readCase_121 : decode cX11_readCase 121 = .ok (.aload_n 0, 1) := by decide +kernel
theorem dX11_readCase_122 : decode cX11_readCase 122 = .ok (.getfield 63, 3) := by decide +kernel
theorem dX11_readCase_125 : decode cX11_readCase 125 = .ok (.iload_n 1, 1) := by decide +kernel
theorem dX11_readCase_126 : decode cX11_readCase 126 = .ok (.iaload, 1) := by decide +kernel
theorem dX11_readCase_127 : decode cX11_readCase 127 = .ok (.invokestatic 316, 3) := by decide +kernel
theorem dX11_readCase_130 : decode cX11_readCase 130 = .ok (.iconst 4, 1) := by decide +kernel
theorem dX11_readCase_131 : decode cX11_readCase 131 = .ok (.if_icmp .ne 10, 3) := by decide +kernel
theorem dX11_readCase_134 : decode cX11_readCase 134 = .ok (.aload_n 0, 1) := by decide +kernel
theorem dX11_readCase_135 : decode cX11_readCase 135 = .ok (.invokevirtual 243, 3) := by decide +kernel
theorem dX11_readCase_138 : decode cX11_readCase 138 = .ok (.goto 45, 3) := by decide +kernel
theorem dX11_readCase_141 : decode cX11_readCase 141 = .ok (.iload_n 3, 1) := by decide +kernel
theorem dX11_readCase_142 : decode cX11_readCase 142 = .ok (.ifCond .lt 28, 3) := by decide +kernel
theorem dX11_readCase_145 : decode cX11_readCase 145 = .ok (.aload_n 0, 1) := by decide +kernel
theorem dX11_readCase_146 : decode cX11_readCase 146 = .ok (.getfield 63, 3) := by decide +kernel
theorem dX11_readCase_149 : decode cX11_readCase 149 = .ok (.iload_n 1, 1) := by decide +kernel
theorem dX11_readCase_150 : decode cX11_readCase 150 = .ok (.iaload, 1) := by decide +kernel
theorem dX11_readCase_151 : decode cX11_readCase 151 = .ok (.iload_n 3, 1) := by decide +kernel
theorem dX11_readCase_152 : decode cX11_readCase 152 = .ok (.invokestatic 264, 3) := by decide +kernel
theorem dX11_readCase_155 : decode cX11_readCase 155 = .ok (.ifCond .eq 15, 3) := by decide +kernel
theorem dX11_readCase_158 : decode cX11_readCase 158 = .ok (.aload_n 0, 1) := by decide +kernel
theorem dX11_readCase_159 : decode cX11_readCase 159 = .ok (.iconst 3, 1) := by decide +kernel
theorem dX11_readCase_160 : decode cX11_readCase 160 = .ok (.aload_n 0, 1) := by decide +kernel
theorem dX11_readCase_161 : decode cX11_readCase 161 = .ok (.getfield 201, 3) := by decide +kernel
theorem dX11_readCase_164 : decode cX11_readCase 164 = .ok (.invokevirtual 232, 3) := by decide +kernel
theorem dX11_readCase_167 : decode cX11_readCase 167 = .ok (.goto 16, 3) := by decide +kernel
theorem dX11_readCase_170 : decode cX11_readCase 170 = .ok (.iload_n 3, 1) := by decide +kernel
theorem dX11_readCase_171 : decode cX11_readCase 171 = .ok (.ifCond .ge 12, 3) := by decide +kernel
theorem dX11_readCase_174 : decode cX11_readCase 174 = .ok (.aload_n 0, 1) := by decide +kernel
theorem dX11_readCase_175 : decode cX11_readCase 175 = .ok (.iconst 5, 1) := by decide +kernel
theorem dX11_readCase_176 : decode cX11_readCase 176 = .ok (.aload_n 0, 1) := by decide +kernel
theorem dX11_readCase_177 : decode cX11_readCase 177 = .ok (.getfield 201, 3) := by decide +kernel
theorem dX11_readCase_180 : decode cX11_readCase 180 = .ok (.invokevirtual 232, 3) := by decide +kernel
theorem dX11_readCase_183 : decode cX11_readCase 183 = .ok (.aload_n 0, 1) := by decide +kernel
theorem dX11_readCase_184 : decode cX11_readCase 184 = .ok (.invokevirtual 236, 3) := by decide +kernel
theorem dX11_readCase_187 : decode cX11_readCase 187 = .ok (.ifCond .ne 4, 3) := by decide +kernel
theorem dX11_readCase_190 : decode cX11_readCase 190 = .ok (.return_, 1) := by decide +kernel
theorem dX11_readCase_191 : decode cX11_readCase 191 = .ok (.aload_n 0, 1) := by decide +kernel
theorem dX11_readCase_192 : decode cX11_readCase 192 = .ok (.getfield 63, 3) := by decide +kernel
theorem dX11_readCase_195 : decode cX11_readCase 195 = .ok (.iload_n 1, 1) := by decide +kernel
theorem dX11_readCase_196 : decode cX11_readCase 196 = .ok (.dup2, 1) := by decide +kernel
theorem dX11_readCase_197 : decode cX11_readCase 197 = .ok (.iaload, 1) := by decide +kernel
theorem dX11_readCase_198 : decode cX11_readCase 198 = .ok (.iconst 1, 1) := by decide +kernel
theorem dX11_readCase_199 : decode cX11_readCase 199 = .ok (.iload_n 3, 1) := by decide +kernel
theorem dX11_readCase_200 : decode cX11_readCase 200 = .ok (.ishl, 1) := by decide +kernel
theorem dX11_readCase_201 : decode cX11_readCase 201 = .ok (.ior, 1) := by decide +kernel
theorem dX11_readCase_202 : decode cX11_readCase 202 = .ok (.iastore, 1) := by decide +kernel
theorem dX11_readCase_203 : decode cX11_readCase 203 = .ok (.aload_n 0, 1) := by decide +kernel
theorem dX11_readCase_204 : decode cX11_readCase 204 = .ok (.invokevirtual 240, 3) := by decide +kernel
theorem dX11_readCase_207 : decode cX11_readCase 207 = .ok (.aload_n 0, 1) := by decide +kernel
theorem dX11_readCase_208 : decode cX11_readCase 208 = .ok (.getfield 208, 3) := by decide +kernel
theorem dX11_readCase_211 : decode cX11_readCase 211 = .ok (.iconst 2, 1) := by decide +kernel
theorem dX11_readCase_212 : decode cX11_readCase 212 = .ok (.if_icmp .ne 7, 3) := by decide +kernel
theorem dX11_readCase_215 : decode cX11_readCase 215 = .ok (.iconst 1, 1) := by decide +kernel
theorem dX11_readCase_216 : decode cX11_readCase 216 = .ok (.goto 4, 3) := by decide +kernel
theorem dX11_readCase_219 : decode cX11_readCase 219 = .ok (.iconst 0, 1) := by decide +kernel
theorem dX11_readCase_220 : decode cX11_readCase 220 = .ok (.istore_n 2, 1) := by decide +kernel
theorem dX11_readCase_221 : decode cX11_readCase 221 = .ok (.goto (-124), 3) := by decide +kernel
theorem dX11_readCase_224 : decode cX11_readCase 224 = .ok (.aload_n 0, 1) := by decide +kernel
theorem dX11_readCase_225 : decode cX11_readCase 225 = .ok (.getfield 30, 3) := by decide +kernel
theorem dX11_readCase_228 : decode cX11_readCase 228 = .ok (.aload_n 0, 1) := by decide +kernel
theorem dX11_readCase_229 : decode cX11_readCase 229 = .ok (.getfield 246, 3) := by decide +kernel
theorem dX11_readCase_232 : decode cX11_readCase 232 = .ok (.dup2, 1) := by decide +kernel
theorem dX11_readCase_233 : decode cX11_readCase 233 = .ok (.iaload, 1) := by decide +kernel
theorem dX11_readCase_234 : decode cX11_readCase 234 = .ok (.iconst 1, 1) := by decide +kernel
theorem dX11_readCase_235 : decode cX11_readCase 235 = .ok (.iadd, 1) := by decide +kernel
theorem dX11_readCase_236 : decode cX11_readCase 236 = .ok (.iastore, 1) := by decide +kernel
theorem dX11_readCase_237 : decode cX11_readCase 237 = .ok (.return_, 1) := by decide +kernel
theorem wd_1662 : (Cond.code ⟨"WebCourtModel", "readCase", "()V"⟩ prog_13_method_27_code (4 : Nat) (Option.none : Option FieldType)) ∈ gtb := gtb_c7 113 (by decide +kernel) rfl
theorem wd_1386 : (Cond.fieldLink "WebCourtModel" (79 : Nat) "WebCourtModel" "cName" "[J") ∈ gtb := gtb_c6 77 (by decide +kernel) rfl
theorem gf_RX11_79 {p : Program} {l : Launch} {e : Env} {R : Room} {s : State} {m : MethodId} {args : Array Value} {below : List Frame} {meth : Method} {c : Code} {H : Heap} {locs : List Loc} {cells slots : Nat} {Q : State → Prop} {cc : ByteArray} {pc nL : Nat} {ls : Array Slot} {rest : List Value} {D : va_G} {cy : Nat → ClassId} {A : Nat → Prop} {ws : va_W} {b : Nat} {fs : List Value} {v : Value} (C : Cx p s m args c cc nL RX11 D cy A) (hO : Wo D A ws s.heap H locs) (q0 : Nat) (he : ws[q0]? = some (b, .inr (11, fs))) (hv : fs[30]? = some v) (hdg : decode cc pc = .ok (.getfield 79, 3)) (kk : W p l e R s m args below meth c H locs cells slots Q (F0 m (pc + 3) ls (v :: rest))) : W p l e R s m args below meth c H locs cells slots Q (F0 m pc ls (.ref b :: rest)) := gF (k := 30) C hO q0 he rfl inFX11 (by decide) wd_1386 rfl hv hdg kk
theorem wd_1631 : (Cond.methodLink "WebCourtModel" (279 : Nat) ⟨"WebCourtModel", "fresh", "(I)J"⟩) ∈ gtb := gtb_c7 82 (by decide +kernel) rfl
theorem wd_1633 : (Cond.instanceMethod ⟨"WebCourtModel", "fresh", "(I)J"⟩) ∈ gtb := gtb_c7 84 (by decide +kernel) rfl
theorem wd_58 : (Cond.selects "WebCourtModel" ⟨"WebCourtModel", "fresh", "(I)J"⟩ ⟨"WebCourtModel", "fresh", "(I)J"⟩) ∈ gtb := gtb_p 58 (by decide +kernel) rfl
theorem hd_yX11_fresh : yX11_fresh.cls = RX11 ∧ yX11_fresh.cls ≠ "java/lang/invoke/MethodHandle" ∧ yX11_fresh.cls ≠ "java/lang/invoke/VarHandle" ∧ (parseMethodDescriptor yX11_fresh.desc).map (fun d => d.parameters.length) = some 1 := by decide +kernel
theorem Km27_to_Km30 {u v : St} (h : Km27 u v) : Km30 u v := ⟨h.1, h.2.1, h.2.2.1, h.2.2.2.1, h.2.2.2.2.1, h.2.2.2.2.2.1, h.2.2.2.2.2.2.1, h.2.2.2.2.2.2.2.1, h.2.2.2.2.2.2.2.2.1, h.2.2.2.2.2.2.2.2.2.1, h.2.2.2.2.2.2.2.2.2.2.1, h.2.2.2.2.2.2.2.2.2.2.2.1, h.2.2.2.2.2.2.2.2.2.2.2.2.1, h.2.2.2.2.2.2.2.2.2.2.2.2.2.1, h.2.2.2.2.2.2.2.2.2.2.2.2.2.2.1, h.2.2.2.2.2.2.2.2.2.2.2.2.2.2.2.1, h.2.2.2.2.2.2.2.2.2.2.2.2.2.2.2.2.1, h.2.2.2.2.2.2.2.2.2.2.2.2.2.2.2.2.2.1, h.2.2.2.2.2.2.2.2.2.2.2.2.2.2.2.2.2.2.1, h.2.2.2.2.2.2.2.2.2.2.2.2.2.2.2.2.2.2.2.1, h.2.2.2.2.2.2.2.2.2.2.2.2.2.2.2.2.2.2.2.2.1, h.2.2.2.2.2.2.2.2.2.2.2.2.2.2.2.2.2.2.2.2.2.2.1, h.2.2.2.2.2.2.2.2.2.2.2.2.2.2.2.2.2.2.2.2.2.2.2.1, h.2.2.2.2.2.2.2.2.2.2.2.2.2.2.2.2.2.2.2.2.2.2.2.2.1, h.2.2.2.2.2.2.2.2.2.2.2.2.2.2.2.2.2.2.2.2.2.2.2.2.2.1, h.2.2.2.2.2.2.2.2.2.2.2.2.2.2.2.2.2.2.2.2.2.2.2.2.2.2.1, h.2.2.2.2.2.2.2.2.2.2.2.2.2.2.2.2.2.2.2.2.2.2.2.2.2.2.2.1, h.2.2.2.2.2.2.2.2.2.2.2.2.2.2.2.2.2.2.2.2.2.2.2.2.2.2.2.2.1, h.2.2.2.2.2.2.2.2.2.2.2.2.2.2.2.2.2.2.2.2.2.2.2.2.2.2.2.2.2.1, h.2.2.2.2.2.2.2.2.2.2.2.2.2.2.2.2.2.2.2.2.2.2.2.2.2.2.2.2.2.2.1, h.2.2.2.2.2.2.2.2.2.2.2.2.2.2.2.2.2.2.2.2.2.2.2.2.2.2.2.2.2.2.2.2.2.1, h.2.2.2.2.2.2.2.2.2.2.2.2.2.2.2.2.2.2.2.2.2.2.2.2.2.2.2.2.2.2.2.2.2.2.1, h.2.2.2.2.2.2.2.2.2.2.2.2.2.2.2.2.2.2.2.2.2.2.2.2.2.2.2.2.2.2.2.2.2.2.2.1, h.2.2.2.2.2.2.2.2.2.2.2.2.2.2.2.2.2.2.2.2.2.2.2.2.2.2.2.2.2.2.2.2.2.2.2.2.1, h.2.2.2.2.2.2.2.2.2.2.2.2.2.2.2.2.2.2.2.2.2.2.2.2.2.2.2.2.2.2.2.2.2.2.2.2.2.2.1, h.2.2.2.2.2.2.2.2.2.2.2.2.2.2.2.2.2.2.2.2.2.2.2.2.2.2.2.2.2.2.2.2.2.2.2.2.2.2.2.1, h.2.2.2.2.2.2.2.2.2.2.2.2.2.2.2.2.2.2.2.2.2.2.2.2.2.2.2.2.2.2.2.2.2.2.2.2.2.2.2.2.1, h.2.2.2.2.2.2.2.2.2.2.2.2.2.2.2.2.2.2.2.2.2.2.2.2.2.2.2.2.2.2.2.2.2.2.2.2.2.2.2.2.2.1, h.2.2.2.2.2.2.2.2.2.2.2.2.2.2.2.2.2.2.2.2.2.2.2.2.2.2.2.2.2.2.2.2.2.2.2.2.2.2.2.2.2.2.1, h.2.2.2.2.2.2.2.2.2.2.2.2.2.2.2.2.2.2.2.2.2.2.2.2.2.2.2.2.2.2.2.2.2.2.2.2.2.2.2.2.2.2.2.1, h.2.2.2.2.2.2.2.2.2.2.2.2.2.2.2.2.2.2.2.2.2.2.2.2.2.2.2.2.2.2.2.2.2.2.2.2.2.2.2.2.2.2.2.2.1, h.2.2.2.2.2.2.2.2.2.2.2.2.2.2.2.2.2.2.2.2.2.2.2.2.2.2.2.2.2.2.2.2.2.2.2.2.2.2.2.2.2.2.2.2.2.1, h.2.2.2.2.2.2.2.2.2.2.2.2.2.2.2.2.2.2.2.2.2.2.2.2.2.2.2.2.2.2.2.2.2.2.2.2.2.2.2.2.2.2.2.2.2.2.1, h.2.2.2.2.2.2.2.2.2.2.2.2.2.2.2.2.2.2.2.2.2.2.2.2.2.2.2.2.2.2.2.2.2.2.2.2.2.2.2.2.2.2.2.2.2.2.2.1, h.2.2.2.2.2.2.2.2.2.2.2.2.2.2.2.2.2.2.2.2.2.2.2.2.2.2.2.2.2.2.2.2.2.2.2.2.2.2.2.2.2.2.2.2.2.2.2.2.1, h.2.2.2.2.2.2.2.2.2.2.2.2.2.2.2.2.2.2.2.2.2.2.2.2.2.2.2.2.2.2.2.2.2.2.2.2.2.2.2.2.2.2.2.2.2.2.2.2.2.1, h.2.2.2.2.2.2.2.2.2.2.2.2.2.2.2.2.2.2.2.2.2.2.2.2.2.2.2.2.2.2.2.2.2.2.2.2.2.2.2.2.2.2.2.2.2.2.2.2.2.2.1, h.2.2.2.2.2.2.2.2.2.2.2.2.2.2.2.2.2.2.2.2.2.2.2.2.2.2.2.2.2.2.2.2.2.2.2.2.2.2.2.2.2.2.2.2.2.2.2.2.2.2.2.1, h.2.2.2.2.2.2.2.2.2.2.2.2.2.2.2.2.2.2.2.2.2.2.2.2.2.2.2.2.2.2.2.2.2.2.2.2.2.2.2.2.2.2.2.2.2.2.2.2.2.2.2.2.1, h.2.2.2.2.2.2.2.2.2.2.2.2.2.2.2.2.2.2.2.2.2.2.2.2.2.2.2.2.2.2.2.2.2.2.2.2.2.2.2.2.2.2.2.2.2.2.2.2.2.2.2.2.2.1, h.2.2.2.2.2.2.2.2.2.2.2.2.2.2.2.2.2.2.2.2.2.2.2.2.2.2.2.2.2.2.2.2.2.2.2.2.2.2.2.2.2.2.2.2.2.2.2.2.2.2.2.2.2.2.1, h.2.2.2.2.2.2.2.2.2.2.2.2.2.2.2.2.2.2.2.2.2.2.2.2.2.2.2.2.2.2.2.2.2.2.2.2.2.2.2.2.2.2.2.2.2.2.2.2.2.2.2.2.2.2.2.1, h.2.2.2.2.2.2.2.2.2.2.2.2.2.2.2.2.2.2.2.2.2.2.2.2.2.2.2.2.2.2.2.2.2.2.2.2.2.2.2.2.2.2.2.2.2.2.2.2.2.2.2.2.2.2.2.2.1, h.2.2.2.2.2.2.2.2.2.2.2.2.2.2.2.2.2.2.2.2.2.2.2.2.2.2.2.2.2.2.2.2.2.2.2.2.2.2.2.2.2.2.2.2.2.2.2.2.2.2.2.2.2.2.2.2.2⟩
theorem Km30_I3 {u v : St} (h : Km30 u v) : fI v 0 3 = fI u 0 3 := h.2.1
theorem Km30_wJ22 {u v : St} {D : va_G} {A : Nat → Prop} {cy : Nat → ClassId} {a : Nat → Nat} {hp H : Heap} {locs : List Loc} {f : Nat → Int64} (_ : Wo D A (mW cy a (sJ v 22 f)) hp H locs) (h : Km30 u v) : Km30 u (sJ v 22 f) := ⟨h.1, h.2.1, h.2.2.1, h.2.2.2.1, h.2.2.2.2.1, h.2.2.2.2.2.1, h.2.2.2.2.2.2.1, h.2.2.2.2.2.2.2.1, h.2.2.2.2.2.2.2.2.1, h.2.2.2.2.2.2.2.2.2.1, h.2.2.2.2.2.2.2.2.2.2.1, h.2.2.2.2.2.2.2.2.2.2.2.1, h.2.2.2.2.2.2.2.2.2.2.2.2.1, h.2.2.2.2.2.2.2.2.2.2.2.2.2.1, h.2.2.2.2.2.2.2.2.2.2.2.2.2.2.1, h.2.2.2.2.2.2.2.2.2.2.2.2.2.2.2.1, h.2.2.2.2.2.2.2.2.2.2.2.2.2.2.2.2.1, h.2.2.2.2.2.2.2.2.2.2.2.2.2.2.2.2.2.1, h.2.2.2.2.2.2.2.2.2.2.2.2.2.2.2.2.2.2.1, h.2.2.2.2.2.2.2.2.2.2.2.2.2.2.2.2.2.2.2.1, h.2.2.2.2.2.2.2.2.2.2.2.2.2.2.2.2.2.2.2.2.1, h.2.2.2.2.2.2.2.2.2.2.2.2.2.2.2.2.2.2.2.2.2.1, h.2.2.2.2.2.2.2.2.2.2.2.2.2.2.2.2.2.2.2.2.2.2.1, h.2.2.2.2.2.2.2.2.2.2.2.2.2.2.2.2.2.2.2.2.2.2.2.1, h.2.2.2.2.2.2.2.2.2.2.2.2.2.2.2.2.2.2.2.2.2.2.2.2.1, h.2.2.2.2.2.2.2.2.2.2.2.2.2.2.2.2.2.2.2.2.2.2.2.2.2.1, h.2.2.2.2.2.2.2.2.2.2.2.2.2.2.2.2.2.2.2.2.2.2.2.2.2.2.1, h.2.2.2.2.2.2.2.2.2.2.2.2.2.2.2.2.2.2.2.2.2.2.2.2.2.2.2.1, h.2.2.2.2.2.2.2.2.2.2.2.2.2.2.2.2.2.2.2.2.2.2.2.2.2.2.2.2.1, h.2.2.2.2.2.2.2.2.2.2.2.2.2.2.2.2.2.2.2.2.2.2.2.2.2.2.2.2.2.1, h.2.2.2.2.2.2.2.2.2.2.2.2.2.2.2.2.2.2.2.2.2.2.2.2.2.2.2.2.2.2.1, h.2.2.2.2.2.2.2.2.2.2.2.2.2.2.2.2.2.2.2.2.2.2.2.2.2.2.2.2.2.2.2.1, h.2.2.2.2.2.2.2.2.2.2.2.2.2.2.2.2.2.2.2.2.2.2.2.2.2.2.2.2.2.2.2.2.1, h.2.2.2.2.2.2.2.2.2.2.2.2.2.2.2.2.2.2.2.2.2.2.2.2.2.2.2.2.2.2.2.2.2.1, h.2.2.2.2.2.2.2.2.2.2.2.2.2.2.2.2.2.2.2.2.2.2.2.2.2.2.2.2.2.2.2.2.2.2.1, h.2.2.2.2.2.2.2.2.2.2.2.2.2.2.2.2.2.2.2.2.2.2.2.2.2.2.2.2.2.2.2.2.2.2.2.1, h.2.2.2.2.2.2.2.2.2.2.2.2.2.2.2.2.2.2.2.2.2.2.2.2.2.2.2.2.2.2.2.2.2.2.2.2.1, h.2.2.2.2.2.2.2.2.2.2.2.2.2.2.2.2.2.2.2.2.2.2.2.2.2.2.2.2.2.2.2.2.2.2.2.2.2.1, h.2.2.2.2.2.2.2.2.2.2.2.2.2.2.2.2.2.2.2.2.2.2.2.2.2.2.2.2.2.2.2.2.2.2.2.2.2.2.1, h.2.2.2.2.2.2.2.2.2.2.2.2.2.2.2.2.2.2.2.2.2.2.2.2.2.2.2.2.2.2.2.2.2.2.2.2.2.2.2.1, h.2.2.2.2.2.2.2.2.2.2.2.2.2.2.2.2.2.2.2.2.2.2.2.2.2.2.2.2.2.2.2.2.2.2.2.2.2.2.2.2.1, h.2.2.2.2.2.2.2.2.2.2.2.2.2.2.2.2.2.2.2.2.2.2.2.2.2.2.2.2.2.2.2.2.2.2.2.2.2.2.2.2.2.1, h.2.2.2.2.2.2.2.2.2.2.2.2.2.2.2.2.2.2.2.2.2.2.2.2.2.2.2.2.2.2.2.2.2.2.2.2.2.2.2.2.2.2.1, h.2.2.2.2.2.2.2.2.2.2.2.2.2.2.2.2.2.2.2.2.2.2.2.2.2.2.2.2.2.2.2.2.2.2.2.2.2.2.2.2.2.2.2.1, h.2.2.2.2.2.2.2.2.2.2.2.2.2.2.2.2.2.2.2.2.2.2.2.2.2.2.2.2.2.2.2.2.2.2.2.2.2.2.2.2.2.2.2.2.1, h.2.2.2.2.2.2.2.2.2.2.2.2.2.2.2.2.2.2.2.2.2.2.2.2.2.2.2.2.2.2.2.2.2.2.2.2.2.2.2.2.2.2.2.2.2.1, h.2.2.2.2.2.2.2.2.2.2.2.2.2.2.2.2.2.2.2.2.2.2.2.2.2.2.2.2.2.2.2.2.2.2.2.2.2.2.2.2.2.2.2.2.2.2.1, h.2.2.2.2.2.2.2.2.2.2.2.2.2.2.2.2.2.2.2.2.2.2.2.2.2.2.2.2.2.2.2.2.2.2.2.2.2.2.2.2.2.2.2.2.2.2.2.1, h.2.2.2.2.2.2.2.2.2.2.2.2.2.2.2.2.2.2.2.2.2.2.2.2.2.2.2.2.2.2.2.2.2.2.2.2.2.2.2.2.2.2.2.2.2.2.2.2.1, h.2.2.2.2.2.2.2.2.2.2.2.2.2.2.2.2.2.2.2.2.2.2.2.2.2.2.2.2.2.2.2.2.2.2.2.2.2.2.2.2.2.2.2.2.2.2.2.2.2.1, h.2.2.2.2.2.2.2.2.2.2.2.2.2.2.2.2.2.2.2.2.2.2.2.2.2.2.2.2.2.2.2.2.2.2.2.2.2.2.2.2.2.2.2.2.2.2.2.2.2.2.1, h.2.2.2.2.2.2.2.2.2.2.2.2.2.2.2.2.2.2.2.2.2.2.2.2.2.2.2.2.2.2.2.2.2.2.2.2.2.2.2.2.2.2.2.2.2.2.2.2.2.2.2.1, h.2.2.2.2.2.2.2.2.2.2.2.2.2.2.2.2.2.2.2.2.2.2.2.2.2.2.2.2.2.2.2.2.2.2.2.2.2.2.2.2.2.2.2.2.2.2.2.2.2.2.2.2.1, h.2.2.2.2.2.2.2.2.2.2.2.2.2.2.2.2.2.2.2.2.2.2.2.2.2.2.2.2.2.2.2.2.2.2.2.2.2.2.2.2.2.2.2.2.2.2.2.2.2.2.2.2.2⟩
theorem wd_1651 : (Cond.methodLink "WebCourtModel" (289 : Nat) ⟨"WebCourtModel", "must", "(Z)V"⟩) ∈ gtb := gtb_c7 102 (by decide +kernel) rfl
theorem wd_1653 : (Cond.instanceMethod ⟨"WebCourtModel", "must", "(Z)V"⟩) ∈ gtb := gtb_c7 104 (by decide +kernel) rfl
theorem wd_63 : (Cond.selects "WebCourtModel" ⟨"WebCourtModel", "must", "(Z)V"⟩ ⟨"WebCourtModel", "must", "(Z)V"⟩) ∈ gtb := gtb_p 63 (by decide +kernel) rfl
theorem hd_yX11_must : yX11_must.cls = RX11 ∧ yX11_must.cls ≠ "java/lang/invoke/MethodHandle" ∧ yX11_must.cls ≠ "java/lang/invoke/VarHandle" ∧ (parseMethodDescriptor yX11_must.desc).map (fun d => d.parameters.length) = some 1 := by decide +kernel
theorem Km30_I37 {u v : St} (h : Km30 u v) : fI v 0 37 = fI u 0 37 := h.2.2.2.1
theorem Km30_A3 {u v : St} (h : Km30 u v) : fA v 3 = fA u 3 := h.2.2.2.2.2.2.2.2.2.2.2.2.2.2.2.2.2.2.1
theorem Km30_wA16 {u v : St} {D : va_G} {A : Nat → Prop} {cy : Nat → ClassId} {a : Nat → Nat} {hp H : Heap} {locs : List Loc} {f : Nat → Int32} (_ : Wo D A (mW cy a (sA v 16 f)) hp H locs) (h : Km30 u v) : Km30 u (sA v 16 f) := ⟨h.1, h.2.1, h.2.2.1, h.2.2.2.1, h.2.2.2.2.1, h.2.2.2.2.2.1, h.2.2.2.2.2.2.1, h.2.2.2.2.2.2.2.1, h.2.2.2.2.2.2.2.2.1, h.2.2.2.2.2.2.2.2.2.1, h.2.2.2.2.2.2.2.2.2.2.1, h.2.2.2.2.2.2.2.2.2.2.2.1, h.2.2.2.2.2.2.2.2.2.2.2.2.1, h.2.2.2.2.2.2.2.2.2.2.2.2.2.1, h.2.2.2.2.2.2.2.2.2.2.2.2.2.2.1, h.2.2.2.2.2.2.2.2.2.2.2.2.2.2.2.1, h.2.2.2.2.2.2.2.2.2.2.2.2.2.2.2.2.1, h.2.2.2.2.2.2.2.2.2.2.2.2.2.2.2.2.2.1, h.2.2.2.2.2.2.2.2.2.2.2.2.2.2.2.2.2.2.1, h.2.2.2.2.2.2.2.2.2.2.2.2.2.2.2.2.2.2.2.1, h.2.2.2.2.2.2.2.2.2.2.2.2.2.2.2.2.2.2.2.2.1, h.2.2.2.2.2.2.2.2.2.2.2.2.2.2.2.2.2.2.2.2.2.1, h.2.2.2.2.2.2.2.2.2.2.2.2.2.2.2.2.2.2.2.2.2.2.1, h.2.2.2.2.2.2.2.2.2.2.2.2.2.2.2.2.2.2.2.2.2.2.2.1, h.2.2.2.2.2.2.2.2.2.2.2.2.2.2.2.2.2.2.2.2.2.2.2.2.1, h.2.2.2.2.2.2.2.2.2.2.2.2.2.2.2.2.2.2.2.2.2.2.2.2.2.1, h.2.2.2.2.2.2.2.2.2.2.2.2.2.2.2.2.2.2.2.2.2.2.2.2.2.2.1, h.2.2.2.2.2.2.2.2.2.2.2.2.2.2.2.2.2.2.2.2.2.2.2.2.2.2.2.1, h.2.2.2.2.2.2.2.2.2.2.2.2.2.2.2.2.2.2.2.2.2.2.2.2.2.2.2.2.1, h.2.2.2.2.2.2.2.2.2.2.2.2.2.2.2.2.2.2.2.2.2.2.2.2.2.2.2.2.2.1, h.2.2.2.2.2.2.2.2.2.2.2.2.2.2.2.2.2.2.2.2.2.2.2.2.2.2.2.2.2.2.1, h.2.2.2.2.2.2.2.2.2.2.2.2.2.2.2.2.2.2.2.2.2.2.2.2.2.2.2.2.2.2.2.1, h.2.2.2.2.2.2.2.2.2.2.2.2.2.2.2.2.2.2.2.2.2.2.2.2.2.2.2.2.2.2.2.2.1, h.2.2.2.2.2.2.2.2.2.2.2.2.2.2.2.2.2.2.2.2.2.2.2.2.2.2.2.2.2.2.2.2.2.1, h.2.2.2.2.2.2.2.2.2.2.2.2.2.2.2.2.2.2.2.2.2.2.2.2.2.2.2.2.2.2.2.2.2.2.1, h.2.2.2.2.2.2.2.2.2.2.2.2.2.2.2.2.2.2.2.2.2.2.2.2.2.2.2.2.2.2.2.2.2.2.2.1, h.2.2.2.2.2.2.2.2.2.2.2.2.2.2.2.2.2.2.2.2.2.2.2.2.2.2.2.2.2.2.2.2.2.2.2.2.1, h.2.2.2.2.2.2.2.2.2.2.2.2.2.2.2.2.2.2.2.2.2.2.2.2.2.2.2.2.2.2.2.2.2.2.2.2.2.1, h.2.2.2.2.2.2.2.2.2.2.2.2.2.2.2.2.2.2.2.2.2.2.2.2.2.2.2.2.2.2.2.2.2.2.2.2.2.2.1, h.2.2.2.2.2.2.2.2.2.2.2.2.2.2.2.2.2.2.2.2.2.2.2.2.2.2.2.2.2.2.2.2.2.2.2.2.2.2.2.1, h.2.2.2.2.2.2.2.2.2.2.2.2.2.2.2.2.2.2.2.2.2.2.2.2.2.2.2.2.2.2.2.2.2.2.2.2.2.2.2.2.1, h.2.2.2.2.2.2.2.2.2.2.2.2.2.2.2.2.2.2.2.2.2.2.2.2.2.2.2.2.2.2.2.2.2.2.2.2.2.2.2.2.2.1, h.2.2.2.2.2.2.2.2.2.2.2.2.2.2.2.2.2.2.2.2.2.2.2.2.2.2.2.2.2.2.2.2.2.2.2.2.2.2.2.2.2.2.1, h.2.2.2.2.2.2.2.2.2.2.2.2.2.2.2.2.2.2.2.2.2.2.2.2.2.2.2.2.2.2.2.2.2.2.2.2.2.2.2.2.2.2.2.1, h.2.2.2.2.2.2.2.2.2.2.2.2.2.2.2.2.2.2.2.2.2.2.2.2.2.2.2.2.2.2.2.2.2.2.2.2.2.2.2.2.2.2.2.2.1, h.2.2.2.2.2.2.2.2.2.2.2.2.2.2.2.2.2.2.2.2.2.2.2.2.2.2.2.2.2.2.2.2.2.2.2.2.2.2.2.2.2.2.2.2.2.1, h.2.2.2.2.2.2.2.2.2.2.2.2.2.2.2.2.2.2.2.2.2.2.2.2.2.2.2.2.2.2.2.2.2.2.2.2.2.2.2.2.2.2.2.2.2.2.1, h.2.2.2.2.2.2.2.2.2.2.2.2.2.2.2.2.2.2.2.2.2.2.2.2.2.2.2.2.2.2.2.2.2.2.2.2.2.2.2.2.2.2.2.2.2.2.2.1, h.2.2.2.2.2.2.2.2.2.2.2.2.2.2.2.2.2.2.2.2.2.2.2.2.2.2.2.2.2.2.2.2.2.2.2.2.2.2.2.2.2.2.2.2.2.2.2.2.1, h.2.2.2.2.2.2.2.2.2.2.2.2.2.2.2.2.2.2.2.2.2.2.2.2.2.2.2.2.2.2.2.2.2.2.2.2.2.2.2.2.2.2.2.2.2.2.2.2.2.1, h.2.2.2.2.2.2.2.2.2.2.2.2.2.2.2.2.2.2.2.2.2.2.2.2.2.2.2.2.2.2.2.2.2.2.2.2.2.2.2.2.2.2.2.2.2.2.2.2.2.2.1, h.2.2.2.2.2.2.2.2.2.2.2.2.2.2.2.2.2.2.2.2.2.2.2.2.2.2.2.2.2.2.2.2.2.2.2.2.2.2.2.2.2.2.2.2.2.2.2.2.2.2.2.1, h.2.2.2.2.2.2.2.2.2.2.2.2.2.2.2.2.2.2.2.2.2.2.2.2.2.2.2.2.2.2.2.2.2.2.2.2.2.2.2.2.2.2.2.2.2.2.2.2.2.2.2.2.1, h.2.2.2.2.2.2.2.2.2.2.2.2.2.2.2.2.2.2.2.2.2.2.2.2.2.2.2.2.2.2.2.2.2.2.2.2.2.2.2.2.2.2.2.2.2.2.2.2.2.2.2.2.2⟩
theorem Km30_wA17 {u v : St} {D : va_G} {A : Nat → Prop} {cy : Nat → ClassId} {a : Nat → Nat} {hp H : Heap} {locs : List Loc} {f : Nat → Int32} (_ : Wo D A (mW cy a (sA v 17 f)) hp H locs) (h : Km30 u v) : Km30 u (sA v 17 f) := ⟨h.1, h.2.1, h.2.2.1, h.2.2.2.1, h.2.2.2.2.1, h.2.2.2.2.2.1, h.2.2.2.2.2.2.1, h.2.2.2.2.2.2.2.1, h.2.2.2.2.2.2.2.2.1, h.2.2.2.2.2.2.2.2.2.1, h.2.2.2.2.2.2.2.2.2.2.1, h.2.2.2.2.2.2.2.2.2.2.2.1, h.2.2.2.2.2.2.2.2.2.2.2.2.1, h.2.2.2.2.2.2.2.2.2.2.2.2.2.1, h.2.2.2.2.2.2.2.2.2.2.2.2.2.2.1, h.2.2.2.2.2.2.2.2.2.2.2.2.2.2.2.1, h.2.2.2.2.2.2.2.2.2.2.2.2.2.2.2.2.1, h.2.2.2.2.2.2.2.2.2.2.2.2.2.2.2.2.2.1, h.2.2.2.2.2.2.2.2.2.2.2.2.2.2.2.2.2.2.1, h.2.2.2.2.2.2.2.2.2.2.2.2.2.2.2.2.2.2.2.1, h.2.2.2.2.2.2.2.2.2.2.2.2.2.2.2.2.2.2.2.2.1, h.2.2.2.2.2.2.2.2.2.2.2.2.2.2.2.2.2.2.2.2.2.1, h.2.2.2.2.2.2.2.2.2.2.2.2.2.2.2.2.2.2.2.2.2.2.1, h.2.2.2.2.2.2.2.2.2.2.2.2.2.2.2.2.2.2.2.2.2.2.2.1, h.2.2.2.2.2.2.2.2.2.2.2.2.2.2.2.2.2.2.2.2.2.2.2.2.1, h.2.2.2.2.2.2.2.2.2.2.2.2.2.2.2.2.2.2.2.2.2.2.2.2.2.1, h.2.2.2.2.2.2.2.2.2.2.2.2.2.2.2.2.2.2.2.2.2.2.2.2.2.2.1, h.2.2.2.2.2.2.2.2.2.2.2.2.2.2.2.2.2.2.2.2.2.2.2.2.2.2.2.1, h.2.2.2.2.2.2.2.2.2.2.2.2.2.2.2.2.2.2.2.2.2.2.2.2.2.2.2.2.1, h.2.2.2.2.2.2.2.2.2.2.2.2.2.2.2.2.2.2.2.2.2.2.2.2.2.2.2.2.2.1, h.2.2.2.2.2.2.2.2.2.2.2.2.2.2.2.2.2.2.2.2.2.2.2.2.2.2.2.2.2.2.1, h.2.2.2.2.2.2.2.2.2.2.2.2.2.2.2.2.2.2.2.2.2.2.2.2.2.2.2.2.2.2.2.1, h.2.2.2.2.2.2.2.2.2.2.2.2.2.2.2.2.2.2.2.2.2.2.2.2.2.2.2.2.2.2.2.2.1, h.2.2.2.2.2.2.2.2.2.2.2.2.2.2.2.2.2.2.2.2.2.2.2.2.2.2.2.2.2.2.2.2.2.1, h.2.2.2.2.2.2.2.2.2.2.2.2.2.2.2.2.2.2.2.2.2.2.2.2.2.2.2.2.2.2.2.2.2.2.1, h.2.2.2.2.2.2.2.2.2.2.2.2.2.2.2.2.2.2.2.2.2.2.2.2.2.2.2.2.2.2.2.2.2.2.2.1, h.2.2.2.2.2.2.2.2.2.2.2.2.2.2.2.2.2.2.2.2.2.2.2.2.2.2.2.2.2.2.2.2.2.2.2.2.1, h.2.2.2.2.2.2.2.2.2.2.2.2.2.2.2.2.2.2.2.2.2.2.2.2.2.2.2.2.2.2.2.2.2.2.2.2.2.1, h.2.2.2.2.2.2.2.2.2.2.2.2.2.2.2.2.2.2.2.2.2.2.2.2.2.2.2.2.2.2.2.2.2.2.2.2.2.2.1, h.2.2.2.2.2.2.2.2.2.2.2.2.2.2.2.2.2.2.2.2.2.2.2.2.2.2.2.2.2.2.2.2.2.2.2.2.2.2.2.1, h.2.2.2.2.2.2.2.2.2.2.2.2.2.2.2.2.2.2.2.2.2.2.2.2.2.2.2.2.2.2.2.2.2.2.2.2.2.2.2.2.1, h.2.2.2.2.2.2.2.2.2.2.2.2.2.2.2.2.2.2.2.2.2.2.2.2.2.2.2.2.2.2.2.2.2.2.2.2.2.2.2.2.2.1, h.2.2.2.2.2.2.2.2.2.2.2.2.2.2.2.2.2.2.2.2.2.2.2.2.2.2.2.2.2.2.2.2.2.2.2.2.2.2.2.2.2.2.1, h.2.2.2.2.2.2.2.2.2.2.2.2.2.2.2.2.2.2.2.2.2.2.2.2.2.2.2.2.2.2.2.2.2.2.2.2.2.2.2.2.2.2.2.1, h.2.2.2.2.2.2.2.2.2.2.2.2.2.2.2.2.2.2.2.2.2.2.2.2.2.2.2.2.2.2.2.2.2.2.2.2.2.2.2.2.2.2.2.2.1, h.2.2.2.2.2.2.2.2.2.2.2.2.2.2.2.2.2.2.2.2.2.2.2.2.2.2.2.2.2.2.2.2.2.2.2.2.2.2.2.2.2.2.2.2.2.1, h.2.2.2.2.2.2.2.2.2.2.2.2.2.2.2.2.2.2.2.2.2.2.2.2.2.2.2.2.2.2.2.2.2.2.2.2.2.2.2.2.2.2.2.2.2.2.1, h.2.2.2.2.2.2.2.2.2.2.2.2.2.2.2.2.2.2.2.2.2.2.2.2.2.2.2.2.2.2.2.2.2.2.2.2.2.2.2.2.2.2.2.2.2.2.2.1, h.2.2.2.2.2.2.2.2.2.2.2.2.2.2.2.2.2.2.2.2.2.2.2.2.2.2.2.2.2.2.2.2.2.2.2.2.2.2.2.2.2.2.2.2.2.2.2.2.1, h.2.2.2.2.2.2.2.2.2.2.2.2.2.2.2.2.2.2.2.2.2.2.2.2.2.2.2.2.2.2.2.2.2.2.2.2.2.2.2.2.2.2.2.2.2.2.2.2.2.1, h.2.2.2.2.2.2.2.2.2.2.2.2.2.2.2.2.2.2.2.2.2.2.2.2.2.2.2.2.2.2.2.2.2.2.2.2.2.2.2.2.2.2.2.2.2.2.2.2.2.2.1, h.2.2.2.2.2.2.2.2.2.2.2.2.2.2.2.2.2.2.2.2.2.2.2.2.2.2.2.2.2.2.2.2.2.2.2.2.2.2.2.2.2.2.2.2.2.2.2.2.2.2.2.1, h.2.2.2.2.2.2.2.2.2.2.2.2.2.2.2.2.2.2.2.2.2.2.2.2.2.2.2.2.2.2.2.2.2.2.2.2.2.2.2.2.2.2.2.2.2.2.2.2.2.2.2.2.1, h.2.2.2.2.2.2.2.2.2.2.2.2.2.2.2.2.2.2.2.2.2.2.2.2.2.2.2.2.2.2.2.2.2.2.2.2.2.2.2.2.2.2.2.2.2.2.2.2.2.2.2.2.2⟩
theorem Km30_wA6 {u v : St} {D : va_G} {A : Nat → Prop} {cy : Nat → ClassId} {a : Nat → Nat} {hp H : Heap} {locs : List Loc} {f : Nat → Int32} (_ : Wo D A (mW cy a (sA v 6 f)) hp H locs) (h : Km30 u v) : Km30 u (sA v 6 f) := ⟨h.1, h.2.1, h.2.2.1, h.2.2.2.1, h.2.2.2.2.1, h.2.2.2.2.2.1, h.2.2.2.2.2.2.1, h.2.2.2.2.2.2.2.1, h.2.2.2.2.2.2.2.2.1, h.2.2.2.2.2.2.2.2.2.1, h.2.2.2.2.2.2.2.2.2.2.1, h.2.2.2.2.2.2.2.2.2.2.2.1, h.2.2.2.2.2.2.2.2.2.2.2.2.1, h.2.2.2.2.2.2.2.2.2.2.2.2.2.1, h.2.2.2.2.2.2.2.2.2.2.2.2.2.2.1, h.2.2.2.2.2.2.2.2.2.2.2.2.2.2.2.1, h.2.2.2.2.2.2.2.2.2.2.2.2.2.2.2.2.1, h.2.2.2.2.2.2.2.2.2.2.2.2.2.2.2.2.2.1, h.2.2.2.2.2.2.2.2.2.2.2.2.2.2.2.2.2.2.1, h.2.2.2.2.2.2.2.2.2.2.2.2.2.2.2.2.2.2.2.1, h.2.2.2.2.2.2.2.2.2.2.2.2.2.2.2.2.2.2.2.2.1, h.2.2.2.2.2.2.2.2.2.2.2.2.2.2.2.2.2.2.2.2.2.1, h.2.2.2.2.2.2.2.2.2.2.2.2.2.2.2.2.2.2.2.2.2.2.1, h.2.2.2.2.2.2.2.2.2.2.2.2.2.2.2.2.2.2.2.2.2.2.2.1, h.2.2.2.2.2.2.2.2.2.2.2.2.2.2.2.2.2.2.2.2.2.2.2.2.1, h.2.2.2.2.2.2.2.2.2.2.2.2.2.2.2.2.2.2.2.2.2.2.2.2.2.1, h.2.2.2.2.2.2.2.2.2.2.2.2.2.2.2.2.2.2.2.2.2.2.2.2.2.2.1, h.2.2.2.2.2.2.2.2.2.2.2.2.2.2.2.2.2.2.2.2.2.2.2.2.2.2.2.1, h.2.2.2.2.2.2.2.2.2.2.2.2.2.2.2.2.2.2.2.2.2.2.2.2.2.2.2.2.1, h.2.2.2.2.2.2.2.2.2.2.2.2.2.2.2.2.2.2.2.2.2.2.2.2.2.2.2.2.2.1, h.2.2.2.2.2.2.2.2.2.2.2.2.2.2.2.2.2.2.2.2.2.2.2.2.2.2.2.2.2.2.1, h.2.2.2.2.2.2.2.2.2.2.2.2.2.2.2.2.2.2.2.2.2.2.2.2.2.2.2.2.2.2.2.1, h.2.2.2.2.2.2.2.2.2.2.2.2.2.2.2.2.2.2.2.2.2.2.2.2.2.2.2.2.2.2.2.2.1, h.2.2.2.2.2.2.2.2.2.2.2.2.2.2.2.2.2.2.2.2.2.2.2.2.2.2.2.2.2.2.2.2.2.1, h.2.2.2.2.2.2.2.2.2.2.2.2.2.2.2.2.2.2.2.2.2.2.2.2.2.2.2.2.2.2.2.2.2.2.1, h.2.2.2.2.2.2.2.2.2.2.2.2.2.2.2.2.2.2.2.2.2.2.2.2.2.2.2.2.2.2.2.2.2.2.2.1, h.2.2.2.2.2.2.2.2.2.2.2.2.2.2.2.2.2.2.2.2.2.2.2.2.2.2.2.2.2.2.2.2.2.2.2.2.1, h.2.2.2.2.2.2.2.2.2.2.2.2.2.2.2.2.2.2.2.2.2.2.2.2.2.2.2.2.2.2.2.2.2.2.2.2.2.1, h.2.2.2.2.2.2.2.2.2.2.2.2.2.2.2.2.2.2.2.2.2.2.2.2.2.2.2.2.2.2.2.2.2.2.2.2.2.2.1, h.2.2.2.2.2.2.2.2.2.2.2.2.2.2.2.2.2.2.2.2.2.2.2.2.2.2.2.2.2.2.2.2.2.2.2.2.2.2.2.1, h.2.2.2.2.2.2.2.2.2.2.2.2.2.2.2.2.2.2.2.2.2.2.2.2.2.2.2.2.2.2.2.2.2.2.2.2.2.2.2.2.1, h.2.2.2.2.2.2.2.2.2.2.2.2.2.2.2.2.2.2.2.2.2.2.2.2.2.2.2.2.2.2.2.2.2.2.2.2.2.2.2.2.2.1, h.2.2.2.2.2.2.2.2.2.2.2.2.2.2.2.2.2.2.2.2.2.2.2.2.2.2.2.2.2.2.2.2.2.2.2.2.2.2.2.2.2.2.1, h.2.2.2.2.2.2.2.2.2.2.2.2.2.2.2.2.2.2.2.2.2.2.2.2.2.2.2.2.2.2.2.2.2.2.2.2.2.2.2.2.2.2.2.1, h.2.2.2.2.2.2.2.2.2.2.2.2.2.2.2.2.2.2.2.2.2.2.2.2.2.2.2.2.2.2.2.2.2.2.2.2.2.2.2.2.2.2.2.2.1, h.2.2.2.2.2.2.2.2.2.2.2.2.2.2.2.2.2.2.2.2.2.2.2.2.2.2.2.2.2.2.2.2.2.2.2.2.2.2.2.2.2.2.2.2.2.1, h.2.2.2.2.2.2.2.2.2.2.2.2.2.2.2.2.2.2.2.2.2.2.2.2.2.2.2.2.2.2.2.2.2.2.2.2.2.2.2.2.2.2.2.2.2.2.1, h.2.2.2.2.2.2.2.2.2.2.2.2.2.2.2.2.2.2.2.2.2.2.2.2.2.2.2.2.2.2.2.2.2.2.2.2.2.2.2.2.2.2.2.2.2.2.2.1, h.2.2.2.2.2.2.2.2.2.2.2.2.2.2.2.2.2.2.2.2.2.2.2.2.2.2.2.2.2.2.2.2.2.2.2.2.2.2.2.2.2.2.2.2.2.2.2.2.1, h.2.2.2.2.2.2.2.2.2.2.2.2.2.2.2.2.2.2.2.2.2.2.2.2.2.2.2.2.2.2.2.2.2.2.2.2.2.2.2.2.2.2.2.2.2.2.2.2.2.1, h.2.2.2.2.2.2.2.2.2.2.2.2.2.2.2.2.2.2.2.2.2.2.2.2.2.2.2.2.2.2.2.2.2.2.2.2.2.2.2.2.2.2.2.2.2.2.2.2.2.2.1, h.2.2.2.2.2.2.2.2.2.2.2.2.2.2.2.2.2.2.2.2.2.2.2.2.2.2.2.2.2.2.2.2.2.2.2.2.2.2.2.2.2.2.2.2.2.2.2.2.2.2.2.1, h.2.2.2.2.2.2.2.2.2.2.2.2.2.2.2.2.2.2.2.2.2.2.2.2.2.2.2.2.2.2.2.2.2.2.2.2.2.2.2.2.2.2.2.2.2.2.2.2.2.2.2.2.1, h.2.2.2.2.2.2.2.2.2.2.2.2.2.2.2.2.2.2.2.2.2.2.2.2.2.2.2.2.2.2.2.2.2.2.2.2.2.2.2.2.2.2.2.2.2.2.2.2.2.2.2.2.2⟩
theorem Km30_I36 {u v : St} (h : Km30 u v) : fI v 0 36 = fI u 0 36 := h.2.2.1
theorem Km30_A5 {u v : St} (h : Km30 u v) : fA v 5 = fA u 5 := h.2.2.2.2.2.2.2.2.2.2.2.2.2.2.2.2.2.2.2.2.1
theorem wd_1647 : (Cond.methodLink "WebCourtModel" (286 : Nat) ⟨"WebCourtModel", "pleaHere", "()I"⟩) ∈ gtb := gtb_c7 98 (by decide +kernel) rfl
theorem wd_1649 : (Cond.instanceMethod ⟨"WebCourtModel", "pleaHere", "()I"⟩) ∈ gtb := gtb_c7 100 (by decide +kernel) rfl
theorem wd_62 : (Cond.selects "WebCourtModel" ⟨"WebCourtModel", "pleaHere", "()I"⟩ ⟨"WebCourtModel", "pleaHere", "()I"⟩) ∈ gtb := gtb_p 62 (by decide +kernel) rfl
theorem hd_yX11_pleaHere : yX11_pleaHere.cls = RX11 ∧ yX11_pleaHere.cls ≠ "java/lang/invoke/MethodHandle" ∧ yX11_pleaHere.cls ≠ "java/lang/invoke/VarHandle" ∧ (parseMethodDescriptor yX11_pleaHere.desc).map (fun d => d.parameters.length) = some 0 := by decide +kernel
theorem Km25_to_Km30 {u v : St} (h : Km25 u v) : Km30 u v := ⟨h.1, h.2.1, h.2.2.2.2.2.2.2.1, h.2.2.2.2.2.2.2.2.1, h.2.2.2.2.2.2.2.2.2.1, h.2.2.2.2.2.2.2.2.2.2.1, h.2.2.2.2.2.2.2.2.2.2.2.1, h.2.2.2.2.2.2.2.2.2.2.2.2.1, h.2.2.2.2.2.2.2.2.2.2.2.2.2.1, h.2.2.2.2.2.2.2.2.2.2.2.2.2.2.1, h.2.2.2.2.2.2.2.2.2.2.2.2.2.2.2.1, h.2.2.2.2.2.2.2.2.2.2.2.2.2.2.2.2.1, h.2.2.2.2.2.2.2.2.2.2.2.2.2.2.2.2.2.1, h.2.2.2.2.2.2.2.2.2.2.2.2.2.2.2.2.2.2.1, h.2.2.2.2.2.2.2.2.2.2.2.2.2.2.2.2.2.2.2.1, h.2.2.2.2.2.2.2.2.2.2.2.2.2.2.2.2.2.2.2.2.1, h.2.2.2.2.2.2.2.2.2.2.2.2.2.2.2.2.2.2.2.2.2.1, h.2.2.2.2.2.2.2.2.2.2.2.2.2.2.2.2.2.2.2.2.2.2.1, h.2.2.2.2.2.2.2.2.2.2.2.2.2.2.2.2.2.2.2.2.2.2.2.1, h.2.2.2.2.2.2.2.2.2.2.2.2.2.2.2.2.2.2.2.2.2.2.2.2.1, h.2.2.2.2.2.2.2.2.2.2.2.2.2.2.2.2.2.2.2.2.2.2.2.2.2.1, h.2.2.2.2.2.2.2.2.2.2.2.2.2.2.2.2.2.2.2.2.2.2.2.2.2.2.2.1, h.2.2.2.2.2.2.2.2.2.2.2.2.2.2.2.2.2.2.2.2.2.2.2.2.2.2.2.2.1, h.2.2.2.2.2.2.2.2.2.2.2.2.2.2.2.2.2.2.2.2.2.2.2.2.2.2.2.2.2.1, h.2.2.2.2.2.2.2.2.2.2.2.2.2.2.2.2.2.2.2.2.2.2.2.2.2.2.2.2.2.2.1, h.2.2.2.2.2.2.2.2.2.2.2.2.2.2.2.2.2.2.2.2.2.2.2.2.2.2.2.2.2.2.2.1, h.2.2.2.2.2.2.2.2.2.2.2.2.2.2.2.2.2.2.2.2.2.2.2.2.2.2.2.2.2.2.2.2.1, h.2.2.2.2.2.2.2.2.2.2.2.2.2.2.2.2.2.2.2.2.2.2.2.2.2.2.2.2.2.2.2.2.2.1, h.2.2.2.2.2.2.2.2.2.2.2.2.2.2.2.2.2.2.2.2.2.2.2.2.2.2.2.2.2.2.2.2.2.2.1, h.2.2.2.2.2.2.2.2.2.2.2.2.2.2.2.2.2.2.2.2.2.2.2.2.2.2.2.2.2.2.2.2.2.2.2.1, h.2.2.2.2.2.2.2.2.2.2.2.2.2.2.2.2.2.2.2.2.2.2.2.2.2.2.2.2.2.2.2.2.2.2.2.2.2.2.1, h.2.2.2.2.2.2.2.2.2.2.2.2.2.2.2.2.2.2.2.2.2.2.2.2.2.2.2.2.2.2.2.2.2.2.2.2.2.2.2.1, h.2.2.2.2.2.2.2.2.2.2.2.2.2.2.2.2.2.2.2.2.2.2.2.2.2.2.2.2.2.2.2.2.2.2.2.2.2.2.2.2.1, h.2.2.2.2.2.2.2.2.2.2.2.2.2.2.2.2.2.2.2.2.2.2.2.2.2.2.2.2.2.2.2.2.2.2.2.2.2.2.2.2.2.1, h.2.2.2.2.2.2.2.2.2.2.2.2.2.2.2.2.2.2.2.2.2.2.2.2.2.2.2.2.2.2.2.2.2.2.2.2.2.2.2.2.2.2.2.1, h.2.2.2.2.2.2.2.2.2.2.2.2.2.2.2.2.2.2.2.2.2.2.2.2.2.2.2.2.2.2.2.2.2.2.2.2.2.2.2.2.2.2.2.2.1, h.2.2.2.2.2.2.2.2.2.2.2.2.2.2.2.2.2.2.2.2.2.2.2.2.2.2.2.2.2.2.2.2.2.2.2.2.2.2.2.2.2.2.2.2.2.1, h.2.2.2.2.2.2.2.2.2.2.2.2.2.2.2.2.2.2.2.2.2.2.2.2.2.2.2.2.2.2.2.2.2.2.2.2.2.2.2.2.2.2.2.2.2.2.1, h.2.2.2.2.2.2.2.2.2.2.2.2.2.2.2.2.2.2.2.2.2.2.2.2.2.2.2.2.2.2.2.2.2.2.2.2.2.2.2.2.2.2.2.2.2.2.2.1, h.2.2.2.2.2.2.2.2.2.2.2.2.2.2.2.2.2.2.2.2.2.2.2.2.2.2.2.2.2.2.2.2.2.2.2.2.2.2.2.2.2.2.2.2.2.2.2.2.1, h.2.2.2.2.2.2.2.2.2.2.2.2.2.2.2.2.2.2.2.2.2.2.2.2.2.2.2.2.2.2.2.2.2.2.2.2.2.2.2.2.2.2.2.2.2.2.2.2.2.1, h.2.2.2.2.2.2.2.2.2.2.2.2.2.2.2.2.2.2.2.2.2.2.2.2.2.2.2.2.2.2.2.2.2.2.2.2.2.2.2.2.2.2.2.2.2.2.2.2.2.2.1, h.2.2.2.2.2.2.2.2.2.2.2.2.2.2.2.2.2.2.2.2.2.2.2.2.2.2.2.2.2.2.2.2.2.2.2.2.2.2.2.2.2.2.2.2.2.2.2.2.2.2.2.1, h.2.2.2.2.2.2.2.2.2.2.2.2.2.2.2.2.2.2.2.2.2.2.2.2.2.2.2.2.2.2.2.2.2.2.2.2.2.2.2.2.2.2.2.2.2.2.2.2.2.2.2.2.1, h.2.2.2.2.2.2.2.2.2.2.2.2.2.2.2.2.2.2.2.2.2.2.2.2.2.2.2.2.2.2.2.2.2.2.2.2.2.2.2.2.2.2.2.2.2.2.2.2.2.2.2.2.2.1, h.2.2.2.2.2.2.2.2.2.2.2.2.2.2.2.2.2.2.2.2.2.2.2.2.2.2.2.2.2.2.2.2.2.2.2.2.2.2.2.2.2.2.2.2.2.2.2.2.2.2.2.2.2.2.1, h.2.2.2.2.2.2.2.2.2.2.2.2.2.2.2.2.2.2.2.2.2.2.2.2.2.2.2.2.2.2.2.2.2.2.2.2.2.2.2.2.2.2.2.2.2.2.2.2.2.2.2.2.2.2.2.1, h.2.2.2.2.2.2.2.2.2.2.2.2.2.2.2.2.2.2.2.2.2.2.2.2.2.2.2.2.2.2.2.2.2.2.2.2.2.2.2.2.2.2.2.2.2.2.2.2.2.2.2.2.2.2.2.2.1, h.2.2.2.2.2.2.2.2.2.2.2.2.2.2.2.2.2.2.2.2.2.2.2.2.2.2.2.2.2.2.2.2.2.2.2.2.2.2.2.2.2.2.2.2.2.2.2.2.2.2.2.2.2.2.2.2.2.1, h.2.2.2.2.2.2.2.2.2.2.2.2.2.2.2.2.2.2.2.2.2.2.2.2.2.2.2.2.2.2.2.2.2.2.2.2.2.2.2.2.2.2.2.2.2.2.2.2.2.2.2.2.2.2.2.2.2.2.1, h.2.2.2.2.2.2.2.2.2.2.2.2.2.2.2.2.2.2.2.2.2.2.2.2.2.2.2.2.2.2.2.2.2.2.2.2.2.2.2.2.2.2.2.2.2.2.2.2.2.2.2.2.2.2.2.2.2.2.2.1, h.2.2.2.2.2.2.2.2.2.2.2.2.2.2.2.2.2.2.2.2.2.2.2.2.2.2.2.2.2.2.2.2.2.2.2.2.2.2.2.2.2.2.2.2.2.2.2.2.2.2.2.2.2.2.2.2.2.2.2.2.1, h.2.2.2.2.2.2.2.2.2.2.2.2.2.2.2.2.2.2.2.2.2.2.2.2.2.2.2.2.2.2.2.2.2.2.2.2.2.2.2.2.2.2.2.2.2.2.2.2.2.2.2.2.2.2.2.2.2.2.2.2.2.1, h.2.2.2.2.2.2.2.2.2.2.2.2.2.2.2.2.2.2.2.2.2.2.2.2.2.2.2.2.2.2.2.2.2.2.2.2.2.2.2.2.2.2.2.2.2.2.2.2.2.2.2.2.2.2.2.2.2.2.2.2.2.2⟩
theorem Km26_to_Km30 {u v : St} (h : Km26 u v) : Km30 u v := ⟨h.1, h.2.1, h.2.2.2.2.1, h.2.2.2.2.2.1, h.2.2.2.2.2.2.1, h.2.2.2.2.2.2.2.1, h.2.2.2.2.2.2.2.2.1, h.2.2.2.2.2.2.2.2.2.1, h.2.2.2.2.2.2.2.2.2.2.1, h.2.2.2.2.2.2.2.2.2.2.2.1, h.2.2.2.2.2.2.2.2.2.2.2.2.1, h.2.2.2.2.2.2.2.2.2.2.2.2.2.1, h.2.2.2.2.2.2.2.2.2.2.2.2.2.2.1, h.2.2.2.2.2.2.2.2.2.2.2.2.2.2.2.1, h.2.2.2.2.2.2.2.2.2.2.2.2.2.2.2.2.1, h.2.2.2.2.2.2.2.2.2.2.2.2.2.2.2.2.2.1, h.2.2.2.2.2.2.2.2.2.2.2.2.2.2.2.2.2.2.1, h.2.2.2.2.2.2.2.2.2.2.2.2.2.2.2.2.2.2.2.1, h.2.2.2.2.2.2.2.2.2.2.2.2.2.2.2.2.2.2.2.2.1, h.2.2.2.2.2.2.2.2.2.2.2.2.2.2.2.2.2.2.2.2.2.1, h.2.2.2.2.2.2.2.2.2.2.2.2.2.2.2.2.2.2.2.2.2.2.1, h.2.2.2.2.2.2.2.2.2.2.2.2.2.2.2.2.2.2.2.2.2.2.2.2.1, h.2.2.2.2.2.2.2.2.2.2.2.2.2.2.2.2.2.2.2.2.2.2.2.2.2.1, h.2.2.2.2.2.2.2.2.2.2.2.2.2.2.2.2.2.2.2.2.2.2.2.2.2.2.1, h.2.2.2.2.2.2.2.2.2.2.2.2.2.2.2.2.2.2.2.2.2.2.2.2.2.2.2.1, h.2.2.2.2.2.2.2.2.2.2.2.2.2.2.2.2.2.2.2.2.2.2.2.2.2.2.2.2.1, h.2.2.2.2.2.2.2.2.2.2.2.2.2.2.2.2.2.2.2.2.2.2.2.2.2.2.2.2.2.1, h.2.2.2.2.2.2.2.2.2.2.2.2.2.2.2.2.2.2.2.2.2.2.2.2.2.2.2.2.2.2.1, h.2.2.2.2.2.2.2.2.2.2.2.2.2.2.2.2.2.2.2.2.2.2.2.2.2.2.2.2.2.2.2.1, h.2.2.2.2.2.2.2.2.2.2.2.2.2.2.2.2.2.2.2.2.2.2.2.2.2.2.2.2.2.2.2.2.1, h.2.2.2.2.2.2.2.2.2.2.2.2.2.2.2.2.2.2.2.2.2.2.2.2.2.2.2.2.2.2.2.2.2.2.2.1, h.2.2.2.2.2.2.2.2.2.2.2.2.2.2.2.2.2.2.2.2.2.2.2.2.2.2.2.2.2.2.2.2.2.2.2.2.1, h.2.2.2.2.2.2.2.2.2.2.2.2.2.2.2.2.2.2.2.2.2.2.2.2.2.2.2.2.2.2.2.2.2.2.2.2.2.1, h.2.2.2.2.2.2.2.2.2.2.2.2.2.2.2.2.2.2.2.2.2.2.2.2.2.2.2.2.2.2.2.2.2.2.2.2.2.2.1, h.2.2.2.2.2.2.2.2.2.2.2.2.2.2.2.2.2.2.2.2.2.2.2.2.2.2.2.2.2.2.2.2.2.2.2.2.2.2.2.2.1, h.2.2.2.2.2.2.2.2.2.2.2.2.2.2.2.2.2.2.2.2.2.2.2.2.2.2.2.2.2.2.2.2.2.2.2.2.2.2.2.2.2.1, h.2.2.2.2.2.2.2.2.2.2.2.2.2.2.2.2.2.2.2.2.2.2.2.2.2.2.2.2.2.2.2.2.2.2.2.2.2.2.2.2.2.2.1, h.2.2.2.2.2.2.2.2.2.2.2.2.2.2.2.2.2.2.2.2.2.2.2.2.2.2.2.2.2.2.2.2.2.2.2.2.2.2.2.2.2.2.2.1, h.2.2.2.2.2.2.2.2.2.2.2.2.2.2.2.2.2.2.2.2.2.2.2.2.2.2.2.2.2.2.2.2.2.2.2.2.2.2.2.2.2.2.2.2.1, h.2.2.2.2.2.2.2.2.2.2.2.2.2.2.2.2.2.2.2.2.2.2.2.2.2.2.2.2.2.2.2.2.2.2.2.2.2.2.2.2.2.2.2.2.2.1, h.2.2.2.2.2.2.2.2.2.2.2.2.2.2.2.2.2.2.2.2.2.2.2.2.2.2.2.2.2.2.2.2.2.2.2.2.2.2.2.2.2.2.2.2.2.2.1, h.2.2.2.2.2.2.2.2.2.2.2.2.2.2.2.2.2.2.2.2.2.2.2.2.2.2.2.2.2.2.2.2.2.2.2.2.2.2.2.2.2.2.2.2.2.2.2.1, h.2.2.2.2.2.2.2.2.2.2.2.2.2.2.2.2.2.2.2.2.2.2.2.2.2.2.2.2.2.2.2.2.2.2.2.2.2.2.2.2.2.2.2.2.2.2.2.2.1, h.2.2.2.2.2.2.2.2.2.2.2.2.2.2.2.2.2.2.2.2.2.2.2.2.2.2.2.2.2.2.2.2.2.2.2.2.2.2.2.2.2.2.2.2.2.2.2.2.2.1, h.2.2.2.2.2.2.2.2.2.2.2.2.2.2.2.2.2.2.2.2.2.2.2.2.2.2.2.2.2.2.2.2.2.2.2.2.2.2.2.2.2.2.2.2.2.2.2.2.2.2.1, h.2.2.2.2.2.2.2.2.2.2.2.2.2.2.2.2.2.2.2.2.2.2.2.2.2.2.2.2.2.2.2.2.2.2.2.2.2.2.2.2.2.2.2.2.2.2.2.2.2.2.2.1, h.2.2.2.2.2.2.2.2.2.2.2.2.2.2.2.2.2.2.2.2.2.2.2.2.2.2.2.2.2.2.2.2.2.2.2.2.2.2.2.2.2.2.2.2.2.2.2.2.2.2.2.2.1, h.2.2.2.2.2.2.2.2.2.2.2.2.2.2.2.2.2.2.2.2.2.2.2.2.2.2.2.2.2.2.2.2.2.2.2.2.2.2.2.2.2.2.2.2.2.2.2.2.2.2.2.2.2.1, h.2.2.2.2.2.2.2.2.2.2.2.2.2.2.2.2.2.2.2.2.2.2.2.2.2.2.2.2.2.2.2.2.2.2.2.2.2.2.2.2.2.2.2.2.2.2.2.2.2.2.2.2.2.2.1, h.2.2.2.2.2.2.2.2.2.2.2.2.2.2.2.2.2.2.2.2.2.2.2.2.2.2.2.2.2.2.2.2.2.2.2.2.2.2.2.2.2.2.2.2.2.2.2.2.2.2.2.2.2.2.2.1, h.2.2.2.2.2.2.2.2.2.2.2.2.2.2.2.2.2.2.2.2.2.2.2.2.2.2.2.2.2.2.2.2.2.2.2.2.2.2.2.2.2.2.2.2.2.2.2.2.2.2.2.2.2.2.2.2.1, h.2.2.2.2.2.2.2.2.2.2.2.2.2.2.2.2.2.2.2.2.2.2.2.2.2.2.2.2.2.2.2.2.2.2.2.2.2.2.2.2.2.2.2.2.2.2.2.2.2.2.2.2.2.2.2.2.2.1, h.2.2.2.2.2.2.2.2.2.2.2.2.2.2.2.2.2.2.2.2.2.2.2.2.2.2.2.2.2.2.2.2.2.2.2.2.2.2.2.2.2.2.2.2.2.2.2.2.2.2.2.2.2.2.2.2.2.2.1, h.2.2.2.2.2.2.2.2.2.2.2.2.2.2.2.2.2.2.2.2.2.2.2.2.2.2.2.2.2.2.2.2.2.2.2.2.2.2.2.2.2.2.2.2.2.2.2.2.2.2.2.2.2.2.2.2.2.2.2⟩
theorem Km26_A6 {u v : St} (h : Km26 u v) : fA v 6 = fA u 6 := h.2.2.2.2.2.2.2.2.2.2.2.2.2.2.2.2.2.2.2.2.2.2.2.1
theorem Km27_A6 {u v : St} (h : Km27 u v) : fA v 6 = fA u 6 := h.2.2.2.2.2.2.2.2.2.2.2.2.2.2.2.2.2.2.2.2.2.1
set_option maxHeartbeats 4000000 in
set_option maxRecDepth 100000 in
theorem T_X11_readCase (l : Launch) (D : va_G) (cy : Nat → ClassId) (a : Nat → Nat) (u : St) (hJ : MI a u) (hk : Int32) (hhk : fA u 3 (fI u 0 37).toNatClampNeg = hk) (hc_ : Int32) (hhc_ : fA u 6 (fI u 0 37).toNatClampNeg = hc_) (hp0 : (fI u 0 7).toInt ≤ (fI u 0 3).toInt) (hp1 : (fI u 0 6).toInt ≤ (fI u 0 7).toInt) (hp2 : (fI u 0 8).toInt = 0 ∨ (fI u 0 6).toInt < (fI u 0 7).toInt) (hp3 : (fI u 0 36).toInt + (fI u 0 37).toInt = 1)  (hlt : hc_.toInt < 6) : Mv l D cy (mW cy a) yX11_readCase (.code yX11_readCase cX11_readCase 4 none) (rmo 3 67) [.ref (a 0)] u (fun (u' : St) => (MI a u') ∧ (Km30 u u') ∧ ((fI u' 0 7).toInt ≤ (fI u' 0 3).toInt) ∧ ((fI u' 0 6).toInt ≤ (fI u' 0 7).toInt) ∧ ((fI u' 0 8).toInt = 0 ∨ (fI u' 0 6).toInt < (fI u' 0 7).toInt) ∧ ((fI u 0 6).toInt ≤ (fI u' 0 6).toInt) ∧ ((fI u 0 4).toInt = 0 ∨ ¬ (fI u' 0 4).toInt = 0) ∧ (¬ (fI u' 0 4).toInt = 0 ∨ 0 < hk.toInt)) := by
  refine Mv.of (own := RX11) rfl (by decide) (Nat.le_of_ble_eq_true rfl) ?_
  have hT : Km30 u u := Km30.rf
  have hJ0 := hJ
  intro p e s m below meth c A Q ls C hret hO hl
  obtain ⟨hx, hb, hml, hown, ht, hK, hA⟩ := id C
  have hl : lv_has ls 4 [(0, .ref (a 0))] := hl
  refine lv_bipush (v := 6) hx hb dX11_readCase_0 (by decide) ?_
  refine lv_aload_n hx hb dX11_readCase_2 rfl (lv_at hl 0 rfl) ?_
  have g1 : 0 ≤ (fI u 0 37).toInt ∧ (fI u 0 37).toInt ≤ 1 := by have h := MI_37 hJ0; exact h
  refine gf_RX11_246 (v := .int (fI u 0 37)) C hO 0 mW_0 rfl dX11_readCase_3 ?_
  refine lv_imul hx hb dX11_readCase_6 ?_
  refine lv_topi (fun z2 ez2 => ?_)
  have e3 : z2.toInt = 6 * ((fI u 0 37)).toInt := by rw [ez2]; exact i_mul rfl rfl (by omega)
  refine lv_aload_n hx hb dX11_readCase_7 rfl (lv_at hl 0 rfl) ?_
  refine gf_RX11_30 (v := .ref (a 6)) C hO 0 mW_0 rfl dX11_readCase_8 ?_
  refine lv_aload_n hx hb dX11_readCase_11 rfl (lv_at hl 0 rfl) ?_
  refine gf_RX11_246 (v := .int (fI u 0 37)) C hO 0 mW_0 rfl dX11_readCase_12 ?_
  refine aI C hO 6 mW_6 (i_in (X := ((fI u 0 37)).toInt) rfl (by omega) (by omega)) dX11_readCase_15 ?_
  have g4 : 0 ≤ hc_.toInt ∧ hc_.toInt ≤ 6 := by have h := MI_A6 hJ0 (fI u 0 37).toNatClampNeg; rw [hhc_] at h; exact h
  refine tE (y := hc_) (by exact hhc_) ?_
  refine lv_iadd hx hb dX11_readCase_16 ?_
  refine lv_topi (fun z5 ez5 => ?_)
  have e6 : z5.toInt = (6 * ((fI u 0 37)).toInt) + (hc_).toInt := by rw [ez5]; exact i_add e3 rfl (by omega)
  refine lv_istore_n (lv' := [(1, .int z5), (0, .ref (a 0))]) hx hb dX11_readCase_17 rfl hl (by decide) rfl (fun ls hl => ?_)
  refine lv_aload_n hx hb dX11_readCase_18 rfl (lv_at hl 1 rfl) ?_
  refine gf_RX11_79 (v := .ref (a 22)) C hO 0 mW_0 rfl dX11_readCase_19 ?_
  refine lv_iload_n hx hb dX11_readCase_22 rfl (lv_at hl 0 rfl) ?_
  refine lv_aload_n hx hb dX11_readCase_23 rfl (lv_at hl 1 rfl) ?_
  refine lv_aload_n hx hb dX11_readCase_24 rfl (lv_at hl 1 rfl) ?_
  refine lv_aload_n hx hb dX11_readCase_25 rfl (lv_at hl 1 rfl) ?_
  refine gf_RX11_79 (v := .ref (a 22)) C hO 0 mW_0 rfl dX11_readCase_26 ?_
  refine lv_bipush (v := 6) hx hb dX11_readCase_29 (by decide) ?_
  refine lv_aload_n hx hb dX11_readCase_31 rfl (lv_at hl 1 rfl) ?_
  refine gf_RX11_246 (v := .int (fI u 0 37)) C hO 0 mW_0 rfl dX11_readCase_32 ?_
  refine lv_imul hx hb dX11_readCase_35 ?_
  refine lv_topi (fun z7 ez7 => ?_)
  have e8 : z7.toInt = 6 * ((fI u 0 37)).toInt := by rw [ez7]; exact i_mul rfl rfl (by omega)
  refine lv_aload_n hx hb dX11_readCase_36 rfl (lv_at hl 1 rfl) ?_
  refine gf_RX11_30 (v := .ref (a 6)) C hO 0 mW_0 rfl dX11_readCase_37 ?_
  refine lv_aload_n hx hb dX11_readCase_40 rfl (lv_at hl 1 rfl) ?_
  refine gf_RX11_246 (v := .int (fI u 0 37)) C hO 0 mW_0 rfl dX11_readCase_41 ?_
  refine aI C hO 6 mW_6 (i_in (X := ((fI u 0 37)).toInt) rfl (by omega) (by omega)) dX11_readCase_44 ?_
  refine tE (y := hc_) (by exact hhc_) ?_
  refine cVi (w := mW cy a) (As := [.ref (a 22), .int z7, .int hc_]) (rest := [.ref (a 0), .int z5, .ref (a 22)]) C hO (T_X11_here_22 l D cy a _ (by exact hJ) (z7) (hc_) (by first | omega | decide) (by first | omega | decide)) (cwV 3 ht (gV wd_1627 wd_1629 wd_57 wd_121 wd_1630) rfl rfl rfl hd_yX11_here ⟨Nat.le_of_ble_eq_true rfl, Nat.le_of_ble_eq_true rfl⟩) 0 rfl mW_0 rfl rfl hl.1 (Nat.le_of_ble_eq_true rfl) dX11_readCase_45 rfl ⟨Nat.zero_le _, Nat.zero_le _⟩ (fun r9 u10 H locs hp11 hO => ?_)
  obtain ⟨hr9, hu10⟩ := hp11
  rw [hu10] at hO
  have g12 : 0 ≤ (fI u 0 7).toInt ∧ (fI u 0 7).toInt ≤ 1601 := by have h := MI_7 hJ0; exact h
  have g13 : 0 ≤ (fI u 0 3).toInt ∧ (fI u 0 3).toInt ≤ 1600 := by have h := MI_3 hJ0; exact h
  have g14 : 0 ≤ (fI u 0 6).toInt ∧ (fI u 0 6).toInt ≤ 1600 := by have h := MI_6 hJ0; exact h
  have g15 : 0 ≤ (fI u 0 8).toInt ∧ (fI u 0 8).toInt ≤ 5 := by have h := MI_8 hJ0; exact h
  refine cVj (w := mW cy a) (As := [.int r9]) (rest := [.int z5, .ref (a 22)]) C hO (T_X11_fresh l D cy a _ (by exact hJ) (by exact (show ((fI u 0 7) : Int32).toInt ≤ ((fI u 0 3) : Int32).toInt from by first | omega | decide)) (by exact (show ((fI u 0 6) : Int32).toInt ≤ ((fI u 0 7) : Int32).toInt from by first | omega | decide)) (by exact (show ((fI u 0 8) : Int32).toInt = 0 ∨ ((fI u 0 6) : Int32).toInt < ((fI u 0 7) : Int32).toInt from by first | omega | decide)) (r9)) (cwV 1 ht (gV wd_1631 wd_1633 wd_58 wd_121 wd_1634) rfl rfl rfl hd_yX11_fresh ⟨Nat.le_of_ble_eq_true rfl, Nat.le_of_ble_eq_true rfl⟩) 0 rfl mW_0 rfl rfl hl.1 (Nat.le_of_ble_eq_true rfl) dX11_readCase_48 rfl ⟨Nat.zero_le _, Nat.zero_le _⟩ (fun r16 u17 H locs hp18 hO => ?_)
  have g19 : 0 ≤ (fI u 0 4).toInt ∧ (fI u 0 4).toInt ≤ 5 := by have h := MI_4 hJ0; exact h
  obtain ⟨hJ, hTu17, hx0u17, hx1u17, hx2u17, hx3u17, hx4u17⟩ := hp18
  have hT : Km30 u u17 := Km30.tr (by exact hT) (Km27_to_Km30 hTu17)
  have g20 : 0 ≤ (fI u17 0 7).toInt ∧ (fI u17 0 7).toInt ≤ 1601 := by have h := MI_7 hJ; exact h
  have y0u17 : ((fI u17 0 7) : Int32).toInt ≤ ((fI u 0 3) : Int32).toInt := by have h : ((fI u17 0 7) : Int32).toInt ≤ (fI u17 0 3 : Int32).toInt := hx0u17; rw [show fI u17 0 3 = (fI u 0 3) from (Km30_I3 hT)] at h; exact h
  have g21 : 0 ≤ (fI u17 0 6).toInt ∧ (fI u17 0 6).toInt ≤ 1600 := by have h := MI_6 hJ; exact h
  have y1u17 : ((fI u17 0 6) : Int32).toInt ≤ ((fI u17 0 7) : Int32).toInt := by exact hx1u17
  have g22 : 0 ≤ (fI u17 0 8).toInt ∧ (fI u17 0 8).toInt ≤ 5 := by have h := MI_8 hJ; exact h
  have y2u17 : ((fI u17 0 8) : Int32).toInt = 0 ∨ ((fI u17 0 6) : Int32).toInt < ((fI u17 0 7) : Int32).toInt := by exact hx2u17
  have y3u17 : ((fI u 0 6) : Int32).toInt ≤ ((fI u17 0 6) : Int32).toInt := by exact hx3u17
  have g23 : 0 ≤ (fI u17 0 4).toInt ∧ (fI u17 0 4).toInt ≤ 5 := by have h := MI_4 hJ; exact h
  have y4u17 : ((fI u 0 4) : Int32).toInt = 0 ∨ ¬ ((fI u17 0 4) : Int32).toInt = 0 := by exact hx4u17
  refine aJs C hO 22 mW_22 (i_in (X := ((6 * ((fI u 0 37)).toInt) + (hc_).toInt)) e6 (by omega) (by omega)) mW_s22 dX11_readCase_51 (fun H locs hO => ?_)
  have hT := Km30_wJ22 hO hT
  have hJ := MIsJ_22 hO hJ
  refine lv_aload_n hx hb dX11_readCase_52 rfl (lv_at hl 1 rfl) ?_
  refine lv_aload_n hx hb dX11_readCase_53 rfl (lv_at hl 1 rfl) ?_
  refine lv_ldc2 (v := 24948) hx hb hown (ht _ wd_1576) dX11_readCase_54 ?_
  refine cVi (w := mW cy a) (As := [.long 24948]) (rest := [.ref (a 0)]) C hO (T_X11_isWord_n l D cy a _ (by exact hJ) (24948)) (cwV 1 ht (gV wd_1608 wd_1610 wd_53 wd_121 wd_1611) rfl rfl rfl hd_yX11_isWord ⟨Nat.le_of_ble_eq_true rfl, Nat.le_of_ble_eq_true rfl⟩) 0 rfl mW_0 rfl rfl hl.1 (Nat.le_of_ble_eq_true rfl) dX11_readCase_57 rfl ⟨Nat.zero_le _, Nat.zero_le _⟩ (fun r24 u25 H locs hp26 hO => ?_)
  obtain ⟨hr24, hu25⟩ := hp26
  have gr24 : 0 ≤ r24.toInt ∧ r24.toInt ≤ 1 := by rcases hr24 with h | h <;> rw [h] <;> decide
  rw [hu25] at hO
  refine cVv (w := mW cy a) (As := [.int r24]) (rest := []) C hO (T_X11_must l D cy a _ (by exact hJ) (by exact (show ((fI u17 0 7) : Int32).toInt ≤ (fI u17 0 3 : Int32).toInt from by rw [show fI u17 0 3 = (fI u 0 3) from (Km30_I3 hT)]; first | done | omega | decide)) (by exact (show ((fI u17 0 6) : Int32).toInt ≤ ((fI u17 0 7) : Int32).toInt from by first | omega | decide)) (by exact (show ((fI u17 0 8) : Int32).toInt = 0 ∨ ((fI u17 0 6) : Int32).toInt < ((fI u17 0 7) : Int32).toInt from by first | omega | decide)) (r24)) (cwV 1 ht (gV wd_1651 wd_1653 wd_63 wd_121 wd_1654) rfl rfl rfl hd_yX11_must ⟨Nat.le_of_ble_eq_true rfl, Nat.le_of_ble_eq_true rfl⟩) 0 rfl mW_0 rfl rfl hl.1 (Nat.le_of_ble_eq_true rfl) dX11_readCase_60 rfl ⟨Nat.zero_le _, Nat.zero_le _⟩ (fun u28 H locs hp29 hO => ?_)
  obtain ⟨hJ, hTu28, hx0u28, hx1u28, hx2u28, hx3u28, hx4u28⟩ := hp29
  have hT : Km30 u u28 := Km30.tr (by exact hT) (Km27_to_Km30 hTu28)
  have g30 : 0 ≤ (fI u28 0 7).toInt ∧ (fI u28 0 7).toInt ≤ 1601 := by have h := MI_7 hJ; exact h
  have y0u28 : ((fI u28 0 7) : Int32).toInt ≤ ((fI u 0 3) : Int32).toInt := by have h : ((fI u28 0 7) : Int32).toInt ≤ (fI u28 0 3 : Int32).toInt := hx0u28; rw [show fI u28 0 3 = (fI u 0 3) from (Km30_I3 hT)] at h; exact h
  have g31 : 0 ≤ (fI u28 0 6).toInt ∧ (fI u28 0 6).toInt ≤ 1600 := by have h := MI_6 hJ; exact h
  have y1u28 : ((fI u28 0 6) : Int32).toInt ≤ ((fI u28 0 7) : Int32).toInt := by exact hx1u28
  have g32 : 0 ≤ (fI u28 0 8).toInt ∧ (fI u28 0 8).toInt ≤ 5 := by have h := MI_8 hJ; exact h
  have y2u28 : ((fI u28 0 8) : Int32).toInt = 0 ∨ ((fI u28 0 6) : Int32).toInt < ((fI u28 0 7) : Int32).toInt := by exact hx2u28
  have y3u28 : ((fI u17 0 6) : Int32).toInt ≤ ((fI u28 0 6) : Int32).toInt := by exact hx3u28
  have g33 : 0 ≤ (fI u28 0 4).toInt ∧ (fI u28 0 4).toInt ≤ 5 := by have h := MI_4 hJ; exact h
  have y4u28 : ((fI u17 0 4) : Int32).toInt = 0 ∨ ¬ ((fI u28 0 4) : Int32).toInt = 0 := by exact hx4u28
  refine lv_aload_n hx hb dX11_readCase_63 rfl (lv_at hl 1 rfl) ?_
  refine gf_RX11_60 (v := .ref (a 16)) C hO 0 mW_0 rfl dX11_readCase_64 ?_
  refine lv_iload_n hx hb dX11_readCase_67 rfl (lv_at hl 0 rfl) ?_
  refine lv_aload_n hx hb dX11_readCase_68 rfl (lv_at hl 1 rfl) ?_
  refine lv_aload_n hx hb dX11_readCase_69 rfl (lv_at hl 1 rfl) ?_
  have g34 : 0 ≤ hk.toInt ∧ hk.toInt ≤ 8 := by have h := MI_A3 hJ0 (fI u 0 37).toNatClampNeg; rw [hhk] at h; exact h
  refine cVi (w := mW cy a) (As := []) (rest := [.ref (a 0), .int z5, .ref (a 16)]) C hO (T_X11_knotHere l D cy a _ (by exact hJ) (hk) (by exact (Eq.trans (congrArg (fun z : Int32 => fA _ 3 z.toNatClampNeg) (Km30_I37 hT)) (Eq.trans (congrFun (Km30_A3 hT) _) hhk)))) (cwV 0 ht (gV wd_1623 wd_1625 wd_56 wd_121 wd_1626) rfl rfl rfl hd_yX11_knotHere ⟨Nat.le_of_ble_eq_true rfl, Nat.le_of_ble_eq_true rfl⟩) 0 rfl mW_0 rfl rfl hl.1 (Nat.le_of_ble_eq_true rfl) dX11_readCase_70 rfl ⟨Nat.zero_le _, Nat.zero_le _⟩ (fun r35 u36 H locs hp37 hO => ?_)
  obtain ⟨hr35, hu36⟩ := hp37
  rw [hu36] at hO
  refine cVi (w := mW cy a) (As := [.int r35]) (rest := [.int z5, .ref (a 16)]) C hO (T_X11_known l D cy a _ (by exact hJ) (by exact (show ((fI u28 0 7) : Int32).toInt ≤ (fI u28 0 3 : Int32).toInt from by rw [show fI u28 0 3 = (fI u 0 3) from (Km30_I3 hT)]; first | done | omega | decide)) (by exact (show ((fI u28 0 6) : Int32).toInt ≤ ((fI u28 0 7) : Int32).toInt from by first | omega | decide)) (by exact (show ((fI u28 0 8) : Int32).toInt = 0 ∨ ((fI u28 0 6) : Int32).toInt < ((fI u28 0 7) : Int32).toInt from by first | omega | decide)) (r35) (by first | omega | decide)) (cwV 1 ht (gV wd_1639 wd_1641 wd_60 wd_121 wd_1642) rfl rfl rfl hd_yX11_known ⟨Nat.le_of_ble_eq_true rfl, Nat.le_of_ble_eq_true rfl⟩) 0 rfl mW_0 rfl rfl hl.1 (Nat.le_of_ble_eq_true rfl) dX11_readCase_73 rfl ⟨Nat.zero_le _, Nat.zero_le _⟩ (fun r38 u39 H locs hp40 hO => ?_)
  obtain ⟨hr38, hJ, hTu39, hx0u39, hx1u39, hx2u39, hx3u39, hx4u39, hx5u39⟩ := hp40
  have hT : Km30 u u39 := Km30.tr (by exact hT) (Km27_to_Km30 hTu39)
  have g41 : 0 ≤ (fI u39 0 7).toInt ∧ (fI u39 0 7).toInt ≤ 1601 := by have h := MI_7 hJ; exact h
  have y0u39 : ((fI u39 0 7) : Int32).toInt ≤ ((fI u 0 3) : Int32).toInt := by have h : ((fI u39 0 7) : Int32).toInt ≤ (fI u39 0 3 : Int32).toInt := hx0u39; rw [show fI u39 0 3 = (fI u 0 3) from (Km30_I3 hT)] at h; exact h
  have g42 : 0 ≤ (fI u39 0 6).toInt ∧ (fI u39 0 6).toInt ≤ 1600 := by have h := MI_6 hJ; exact h
  have y1u39 : ((fI u39 0 6) : Int32).toInt ≤ ((fI u39 0 7) : Int32).toInt := by exact hx1u39
  have g43 : 0 ≤ (fI u39 0 8).toInt ∧ (fI u39 0 8).toInt ≤ 5 := by have h := MI_8 hJ; exact h
  have y2u39 : ((fI u39 0 8) : Int32).toInt = 0 ∨ ((fI u39 0 6) : Int32).toInt < ((fI u39 0 7) : Int32).toInt := by exact hx2u39
  have y3u39 : ((fI u28 0 6) : Int32).toInt ≤ ((fI u39 0 6) : Int32).toInt := by exact hx3u39
  have g44 : 0 ≤ (fI u39 0 4).toInt ∧ (fI u39 0 4).toInt ≤ 5 := by have h := MI_4 hJ; exact h
  have y4u39 : ((fI u28 0 4) : Int32).toInt = 0 ∨ ¬ ((fI u39 0 4) : Int32).toInt = 0 := by exact hx4u39
  have y5u39 : ¬ ((fI u39 0 4) : Int32).toInt = 0 ∨ 0 ≤ (r35 : Int32).toInt := by exact hx5u39
  refine aIs C hO 16 mW_16 (i_in (X := ((6 * ((fI u 0 37)).toInt) + (hc_).toInt)) e6 (by omega) (by omega)) mW_s16 dX11_readCase_76 (fun H locs hO => ?_)
  have hT := Km30_wA16 hO hT
  have hJ := MIsA_16 hO hJ (by first | decide | omega)
  refine lv_aload_n hx hb dX11_readCase_77 rfl (lv_at hl 1 rfl) ?_
  refine lv_aload_n hx hb dX11_readCase_78 rfl (lv_at hl 1 rfl) ?_
  refine lv_ldc2 (v := 123610859660403) hx hb hown (ht _ wd_1577) dX11_readCase_79 ?_
  refine cVi (w := mW cy a) (As := [.long 123610859660403]) (rest := [.ref (a 0)]) C hO (T_X11_isWord_n l D cy a _ (by exact hJ) (123610859660403)) (cwV 1 ht (gV wd_1608 wd_1610 wd_53 wd_121 wd_1611) rfl rfl rfl hd_yX11_isWord ⟨Nat.le_of_ble_eq_true rfl, Nat.le_of_ble_eq_true rfl⟩) 0 rfl mW_0 rfl rfl hl.1 (Nat.le_of_ble_eq_true rfl) dX11_readCase_82 rfl ⟨Nat.zero_le _, Nat.zero_le _⟩ (fun r45 u46 H locs hp47 hO => ?_)
  obtain ⟨hr45, hu46⟩ := hp47
  have gr45 : 0 ≤ r45.toInt ∧ r45.toInt ≤ 1 := by rcases hr45 with h | h <;> rw [h] <;> decide
  rw [hu46] at hO
  refine cVv (w := mW cy a) (As := [.int r45]) (rest := []) C hO (T_X11_must l D cy a _ (by exact hJ) (by exact (show ((fI u39 0 7) : Int32).toInt ≤ (fI u39 0 3 : Int32).toInt from by rw [show fI u39 0 3 = (fI u 0 3) from (Km30_I3 hT)]; first | done | omega | decide)) (by exact (show ((fI u39 0 6) : Int32).toInt ≤ ((fI u39 0 7) : Int32).toInt from by first | omega | decide)) (by exact (show ((fI u39 0 8) : Int32).toInt = 0 ∨ ((fI u39 0 6) : Int32).toInt < ((fI u39 0 7) : Int32).toInt from by first | omega | decide)) (r45)) (cwV 1 ht (gV wd_1651 wd_1653 wd_63 wd_121 wd_1654) rfl rfl rfl hd_yX11_must ⟨Nat.le_of_ble_eq_true rfl, Nat.le_of_ble_eq_true rfl⟩) 0 rfl mW_0 rfl rfl hl.1 (Nat.le_of_ble_eq_true rfl) dX11_readCase_85 rfl ⟨Nat.zero_le _, Nat.zero_le _⟩ (fun u49 H locs hp50 hO => ?_)
  obtain ⟨hJ, hTu49, hx0u49, hx1u49, hx2u49, hx3u49, hx4u49⟩ := hp50
  have hT : Km30 u u49 := Km30.tr (by exact hT) (Km27_to_Km30 hTu49)
  have g51 : 0 ≤ (fI u49 0 7).toInt ∧ (fI u49 0 7).toInt ≤ 1601 := by have h := MI_7 hJ; exact h
  have y0u49 : ((fI u49 0 7) : Int32).toInt ≤ ((fI u 0 3) : Int32).toInt := by have h : ((fI u49 0 7) : Int32).toInt ≤ (fI u49 0 3 : Int32).toInt := hx0u49; rw [show fI u49 0 3 = (fI u 0 3) from (Km30_I3 hT)] at h; exact h
  have g52 : 0 ≤ (fI u49 0 6).toInt ∧ (fI u49 0 6).toInt ≤ 1600 := by have h := MI_6 hJ; exact h
  have y1u49 : ((fI u49 0 6) : Int32).toInt ≤ ((fI u49 0 7) : Int32).toInt := by exact hx1u49
  have g53 : 0 ≤ (fI u49 0 8).toInt ∧ (fI u49 0 8).toInt ≤ 5 := by have h := MI_8 hJ; exact h
  have y2u49 : ((fI u49 0 8) : Int32).toInt = 0 ∨ ((fI u49 0 6) : Int32).toInt < ((fI u49 0 7) : Int32).toInt := by exact hx2u49
  have y3u49 : ((fI u39 0 6) : Int32).toInt ≤ ((fI u49 0 6) : Int32).toInt := by exact hx3u49
  have g54 : 0 ≤ (fI u49 0 4).toInt ∧ (fI u49 0 4).toInt ≤ 5 := by have h := MI_4 hJ; exact h
  have y4u49 : ((fI u39 0 4) : Int32).toInt = 0 ∨ ¬ ((fI u49 0 4) : Int32).toInt = 0 := by exact hx4u49
  refine lv_aload_n hx hb dX11_readCase_88 rfl (lv_at hl 1 rfl) ?_
  refine gf_RX11_63 (v := .ref (a 17)) C hO 0 mW_0 rfl dX11_readCase_89 ?_
  refine lv_iload_n hx hb dX11_readCase_92 rfl (lv_at hl 0 rfl) ?_
  refine lv_iconst (v := 0) hx hb dX11_readCase_93 (by decide) ?_
  refine aIs C hO 17 mW_17 (i_in (X := ((6 * ((fI u 0 37)).toInt) + (hc_).toInt)) e6 (by omega) (by omega)) mW_s17 dX11_readCase_94 (fun H locs hO => ?_)
  have hT := Km30_wA17 hO hT
  have hJ := MIsA_17 hO hJ (by first | decide | omega)
  refine lv_iconst (v := 1) hx hb dX11_readCase_95 (by decide) ?_
  refine lv_istore_n (lv' := [(2, .int 1), (1, .int z5), (0, .ref (a 0))]) hx hb dX11_readCase_96 rfl hl (by decide) rfl (fun ls hl => ?_)
  have LP_97_k56 : ∀ (n : Nat) (u55 : St) (H : Heap) (locs : List Loc) (ls : Array Slot) (m_k56 : Int32) (at_k56 : Int32) (en_k56 : Int32) (tk_k56 : Int32) (fa_k56 : Int32), Wo D A (mW cy a u55) s.heap H locs → lv_has ls 4 [(2, .int m_k56), (1, .int z5), (0, .ref (a 0))] → MI a u55 → Km30 u u55 → fI u55 0 6 = at_k56 → fI u55 0 7 = en_k56 → fI u55 0 8 = tk_k56 → fI u55 0 4 = fa_k56 → en_k56.toInt ≤ (fI u 0 3).toInt → at_k56.toInt ≤ en_k56.toInt → (tk_k56.toInt = 0 ∨ at_k56.toInt < en_k56.toInt) → (fI u 0 6).toInt ≤ at_k56.toInt → ((fI u 0 4).toInt = 0 ∨ ¬ fa_k56.toInt = 0) → (¬ fa_k56.toInt = 0 ∨ 0 < hk.toInt) → 0 ≤ m_k56.toInt ∧ m_k56.toInt ≤ 1 → 0 ≤ at_k56.toInt ∧ at_k56.toInt ≤ 1600 → 0 ≤ en_k56.toInt ∧ en_k56.toInt ≤ 1601 → 0 ≤ tk_k56.toInt ∧ tk_k56.toInt ≤ 5 → 0 ≤ fa_k56.toInt ∧ fa_k56.toInt ≤ 5 → (fA u55 6 = fA u 6) → 1601 - at_k56.toInt < (n : Int) → W p l e (rmo 3 67) s m [.ref (a 0)].toArray below meth c H locs 0 0 Q (F0 m 97 ls []) := by
    intro n
    induction n with
    | zero =>
      intro u55 H locs ls m_k56 at_k56 en_k56 tk_k56 fa_k56 hO hl hJ hT hat_k56 hen_k56 htk_k56 hfa_k56 iv0_k56 iv1_k56 iv2_k56 iv3_k56 iv4_k56 iv5_k56 iv6_k56 iv7_k56 iv8_k56 iv9_k56 iv10_k56 cv0_k56 hm_k56
      exact absurd hm_k56 (by omega)
    | succ n ih_k56 =>
      intro u55 H locs ls m_k56 at_k56 en_k56 tk_k56 fa_k56 hO hl hJ hT hat_k56 hen_k56 htk_k56 hfa_k56 iv0_k56 iv1_k56 iv2_k56 iv3_k56 iv4_k56 iv5_k56 iv6_k56 iv7_k56 iv8_k56 iv9_k56 iv10_k56 cv0_k56 hm_k56
      refine lv_aload_n hx hb dX11_readCase_97 rfl (lv_at hl 2 rfl) ?_
      refine cVi (w := mW cy a) (As := []) (rest := []) C hO (T_X11_isGood l D cy a _ (by exact hJ) (fa_k56) (by exact hfa_k56)) (cwV 0 ht (gV wd_1596 wd_1598 wd_50 wd_121 wd_1599) rfl rfl rfl hd_yX11_isGood ⟨Nat.le_of_ble_eq_true rfl, Nat.le_of_ble_eq_true rfl⟩) 0 rfl mW_0 rfl rfl hl.1 (Nat.le_of_ble_eq_true rfl) dX11_readCase_98 rfl ⟨Nat.zero_le _, Nat.zero_le _⟩ (fun r57 u58 H locs hp59 hO => ?_)
      obtain ⟨hr57, hu58⟩ := hp59
      rw [hu58] at hO
      rcases hr57 with ⟨hcr57, hvr57⟩ | ⟨hcr57, hvr57⟩
      · subst hvr57
        refine bn_eq (X := 1) hx hb dX11_readCase_101 rfl (by omega) ?_ (tgt := 224) (by decide)
        refine lv_iload_n hx hb dX11_readCase_104 rfl (lv_at hl 0 rfl) ?_
        refine bs_eq (tgt := 224) (X := (m_k56).toInt) hx hb dX11_readCase_105 (by decide) rfl (fun c60 => ?_) (fun c60 => ?_)
        · refine lv_aload_n hx hb dX11_readCase_224 rfl (lv_at hl 2 rfl) ?_
          refine gf_RX11_30 (v := .ref (a 6)) C hO 0 mW_0 rfl dX11_readCase_225 ?_
          refine lv_aload_n hx hb dX11_readCase_228 rfl (lv_at hl 2 rfl) ?_
          have g61 : 0 ≤ (fI u 0 37).toInt ∧ (fI u 0 37).toInt ≤ 1 := by have h := MI_37 hJ0; exact h
          refine gf_RX11_246 (v := .int (fI u 0 37)) C hO 0 mW_0 (congrArg (fun z : Int32 => some (Value.int z)) (Km30_I37 hT)) dX11_readCase_229 ?_
          refine lv_dup2_11 hx hb dX11_readCase_232 rfl rfl ?_
          refine aI C hO 6 mW_6 (i_in (X := ((fI u 0 37)).toInt) rfl (by omega) (by omega)) dX11_readCase_233 ?_
          have g62 : 0 ≤ hc_.toInt ∧ hc_.toInt ≤ 6 := by have h := MI_A6 hJ0 (fI u 0 37).toNatClampNeg; rw [hhc_] at h; exact h
          refine tE (y := hc_) (by exact (Eq.trans (congrFun cv0_k56 _) hhc_)) ?_
          refine lv_iconst (v := 1) hx hb dX11_readCase_234 (by decide) ?_
          refine lv_iadd hx hb dX11_readCase_235 ?_
          refine lv_topi (fun z63 ez63 => ?_)
          have e64 : z63.toInt = (hc_).toInt + 1 := by rw [ez63]; exact i_add rfl rfl (by omega)
          refine aIs C hO 6 mW_6 (i_in (X := ((fI u 0 37)).toInt) rfl (by omega) (by omega)) mW_s6 dX11_readCase_236 (fun H locs hO => ?_)
          have hT := Km30_wA6 hO hT
          have hJ := MIsA_6 hO hJ (by omega) (by rw [show fI u55 0 36 = fI u 0 36 from (Km30_I36 hT)]; exact rb_ne (b := fI u 0 36) (r := (fI u 0 37)) (by omega) (by omega) (by omega))
          have g65 : 0 ≤ (fI u 0 3).toInt ∧ (fI u 0 3).toInt ≤ 1600 := by have h := MI_3 hJ0; exact h
          have q66 : (en_k56 : Int32).toInt ≤ ((fI u 0 3) : Int32).toInt := by first | omega | decide
          have q67 : (at_k56 : Int32).toInt ≤ (en_k56 : Int32).toInt := by first | omega | decide
          have q68 : (tk_k56 : Int32).toInt = 0 ∨ (at_k56 : Int32).toInt < (en_k56 : Int32).toInt := by first | omega | decide
          have g69 : 0 ≤ (fI u 0 6).toInt ∧ (fI u 0 6).toInt ≤ 1600 := by have h := MI_6 hJ0; exact h
          have q70 : ((fI u 0 6) : Int32).toInt ≤ (at_k56 : Int32).toInt := by first | omega | decide
          have g71 : 0 ≤ (fI u 0 4).toInt ∧ (fI u 0 4).toInt ≤ 5 := by have h := MI_4 hJ0; exact h
          have q72 : ((fI u 0 4) : Int32).toInt = 0 ∨ ¬ (fa_k56 : Int32).toInt = 0 := by first | omega | decide
          have q73 : ¬ (fa_k56 : Int32).toInt = 0 ∨ 0 < hk.toInt := by first | omega | decide
          refine hret _ _ _ _ _ dX11_readCase_237 ?_ hO
          exact ⟨hJ, hT, (show (fI u55 0 7 : Int32).toInt ≤ (fI u55 0 3 : Int32).toInt from by rw [show fI u55 0 7 = en_k56 from hen_k56, show fI u55 0 3 = (fI u 0 3) from (Km30_I3 hT)]; first | done | exact q66), (show (fI u55 0 6 : Int32).toInt ≤ (fI u55 0 7 : Int32).toInt from by rw [show fI u55 0 6 = at_k56 from hat_k56, show fI u55 0 7 = en_k56 from hen_k56]; first | done | exact q67), (show (fI u55 0 8 : Int32).toInt = 0 ∨ (fI u55 0 6 : Int32).toInt < (fI u55 0 7 : Int32).toInt from by rw [show fI u55 0 8 = tk_k56 from htk_k56, show fI u55 0 6 = at_k56 from hat_k56, show fI u55 0 7 = en_k56 from hen_k56]; first | done | exact q68), (show ((fI u 0 6) : Int32).toInt ≤ (fI u55 0 6 : Int32).toInt from by rw [show fI u55 0 6 = at_k56 from hat_k56]; first | done | exact q70), (show ((fI u 0 4) : Int32).toInt = 0 ∨ ¬ (fI u55 0 4 : Int32).toInt = 0 from by rw [show fI u55 0 4 = fa_k56 from hfa_k56]; first | done | exact q72), (show ¬ (fI u55 0 4 : Int32).toInt = 0 ∨ 0 < hk.toInt from by rw [show fI u55 0 4 = fa_k56 from hfa_k56]; first | done | exact q73)⟩
        · refine lv_aload_n hx hb dX11_readCase_108 rfl (lv_at hl 2 rfl) ?_
          have g74 : 0 ≤ (fI u 0 37).toInt ∧ (fI u 0 37).toInt ≤ 1 := by have h := MI_37 hJ0; exact h
          have g75 : 0 ≤ (fA u 5 ((fI u 0 37)).toNatClampNeg).toInt ∧ (fA u 5 ((fI u 0 37)).toNatClampNeg).toInt ≤ 8 := by have h := MI_A5 hJ0 ((fI u 0 37)).toNatClampNeg; exact h
          refine cVi (w := mW cy a) (As := []) (rest := []) C hO (T_X11_pleaHere l D cy a _ (by exact hJ) ((fA u 5 ((fI u 0 37)).toNatClampNeg)) (by exact (Eq.trans (congrArg (fun z : Int32 => fA _ 5 z.toNatClampNeg) (Km30_I37 hT)) (congrFun (Km30_A5 hT) _)))) (cwV 0 ht (gV wd_1647 wd_1649 wd_62 wd_121 wd_1650) rfl rfl rfl hd_yX11_pleaHere ⟨Nat.le_of_ble_eq_true rfl, Nat.le_of_ble_eq_true rfl⟩) 0 rfl mW_0 rfl rfl hl.1 (Nat.le_of_ble_eq_true rfl) dX11_readCase_109 rfl ⟨Nat.zero_le _, Nat.zero_le _⟩ (fun r76 u77 H locs hp78 hO => ?_)
          obtain ⟨hr76, hu77⟩ := hp78
          rw [hu77] at hO
          refine lv_istore_n (lv' := [(3, .int r76), (2, .int m_k56), (1, .int z5), (0, .ref (a 0))]) hx hb dX11_readCase_112 rfl hl (by decide) rfl (fun ls hl => ?_)
          refine lv_aload_n hx hb dX11_readCase_113 rfl (lv_at hl 3 rfl) ?_
          refine gf_RX11_208 (v := .int tk_k56) C hO 0 mW_0 (congrArg (fun z : Int32 => some (Value.int z)) htk_k56) dX11_readCase_114 ?_
          refine lv_iconst (v := 2) hx hb dX11_readCase_117 (by decide) ?_
          refine cs_ne (tgt := 134) (X := (tk_k56).toInt) (Y := 2) hx hb dX11_readCase_118 (by decide) rfl rfl (fun c79 => ?_) (fun c79 => ?_)
          · refine lv_aload_n hx hb dX11_readCase_134 rfl (lv_at hl 3 rfl) ?_
            refine cVv (w := mW cy a) (As := []) (rest := []) C hO (T_X11_misplaced l D cy a _ (by exact hJ)) (cwV 0 ht (gV wd_1615 wd_1617 wd_54 wd_121 wd_1618) rfl rfl rfl hd_yX11_misplaced ⟨Nat.le_of_ble_eq_true rfl, Nat.le_of_ble_eq_true rfl⟩) 0 rfl mW_0 rfl rfl hl.1 (Nat.le_of_ble_eq_true rfl) dX11_readCase_135 rfl ⟨Nat.zero_le _, Nat.zero_le _⟩ (fun u81 H locs hp82 hO => ?_)
            obtain ⟨hJ, hTu81, hx0u81⟩ := hp82
            have hT : Km30 u u81 := Km30.tr (by exact hT) (Km25_to_Km30 hTu81)
            have g83 : 0 ≤ (fI u81 0 4).toInt ∧ (fI u81 0 4).toInt ≤ 5 := by have h := MI_4 hJ; exact h
            have y0u81 : ¬ ((fI u81 0 4) : Int32).toInt = 0 := by exact hx0u81
            refine lv_goto (tgt := 183) hx hb dX11_readCase_138 (by decide) ?_
            refine lv_aload_n hx hb dX11_readCase_183 rfl (lv_at hl 3 rfl) ?_
            refine cVi (w := mW cy a) (As := []) (rest := []) C hO (T_X11_isGood l D cy a _ (by exact hJ) ((fI u81 0 4)) (by exact rfl)) (cwV 0 ht (gV wd_1596 wd_1598 wd_50 wd_121 wd_1599) rfl rfl rfl hd_yX11_isGood ⟨Nat.le_of_ble_eq_true rfl, Nat.le_of_ble_eq_true rfl⟩) 0 rfl mW_0 rfl rfl hl.1 (Nat.le_of_ble_eq_true rfl) dX11_readCase_184 rfl ⟨Nat.zero_le _, Nat.zero_le _⟩ (fun r84 u85 H locs hp86 hO => ?_)
            obtain ⟨hr84, hu85⟩ := hp86
            rw [hu85] at hO
            rcases hr84 with ⟨hcr84, hvr84⟩ | ⟨hcr84, hvr84⟩
            · exfalso
              omega
            · subst hvr84
              refine bn_ne (X := 0) hx hb dX11_readCase_187 rfl (by omega) ?_ (tgt := 191) (by decide)
              have g87 : 0 ≤ (fI u 0 3).toInt ∧ (fI u 0 3).toInt ≤ 1600 := by have h := MI_3 hJ0; exact h
              have q88 : (en_k56 : Int32).toInt ≤ ((fI u 0 3) : Int32).toInt := by first | omega | decide
              have q89 : (at_k56 : Int32).toInt ≤ (en_k56 : Int32).toInt := by first | omega | decide
              have q90 : (tk_k56 : Int32).toInt = 0 ∨ (at_k56 : Int32).toInt < (en_k56 : Int32).toInt := by first | omega | decide
              have g91 : 0 ≤ (fI u 0 6).toInt ∧ (fI u 0 6).toInt ≤ 1600 := by have h := MI_6 hJ0; exact h
              have q92 : ((fI u 0 6) : Int32).toInt ≤ (at_k56 : Int32).toInt := by first | omega | decide
              have g93 : 0 ≤ (fI u 0 4).toInt ∧ (fI u 0 4).toInt ≤ 5 := by have h := MI_4 hJ0; exact h
              have q94 : ((fI u 0 4) : Int32).toInt = 0 ∨ ¬ ((fI u81 0 4) : Int32).toInt = 0 := by first | omega | decide
              have q95 : ¬ ((fI u81 0 4) : Int32).toInt = 0 ∨ 0 < hk.toInt := by first | omega | decide
              refine hret _ _ _ _ _ dX11_readCase_190 ?_ hO
              exact ⟨hJ, hT, (show (fI u81 0 7 : Int32).toInt ≤ (fI u81 0 3 : Int32).toInt from by rw [show fI u81 0 7 = en_k56 from (Eq.trans (Km25_I7 hTu81) hen_k56), show fI u81 0 3 = (fI u 0 3) from (Km30_I3 hT)]; first | done | exact q88), (show (fI u81 0 6 : Int32).toInt ≤ (fI u81 0 7 : Int32).toInt from by rw [show fI u81 0 6 = at_k56 from (Eq.trans (Km25_I6 hTu81) hat_k56), show fI u81 0 7 = en_k56 from (Eq.trans (Km25_I7 hTu81) hen_k56)]; first | done | exact q89), (show (fI u81 0 8 : Int32).toInt = 0 ∨ (fI u81 0 6 : Int32).toInt < (fI u81 0 7 : Int32).toInt from by rw [show fI u81 0 8 = tk_k56 from (Eq.trans (Km25_I8 hTu81) htk_k56), show fI u81 0 6 = at_k56 from (Eq.trans (Km25_I6 hTu81) hat_k56), show fI u81 0 7 = en_k56 from (Eq.trans (Km25_I7 hTu81) hen_k56)]; first | done | exact q90), (show ((fI u 0 6) : Int32).toInt ≤ (fI u81 0 6 : Int32).toInt from by rw [show fI u81 0 6 = at_k56 from (Eq.trans (Km25_I6 hTu81) hat_k56)]; first | done | exact q92), q94, q95⟩
          · refine lv_aload_n hx hb dX11_readCase_121 rfl (lv_at hl 3 rfl) ?_
            refine gf_RX11_63 (v := .ref (a 17)) C hO 0 mW_0 rfl dX11_readCase_122 ?_
            refine lv_iload_n hx hb dX11_readCase_125 rfl (lv_at hl 2 rfl) ?_
            refine aI C hO 17 mW_17 (i_in (X := ((6 * ((fI u 0 37)).toInt) + (hc_).toInt)) e6 (by omega) (by omega)) dX11_readCase_126 ?_
            have g96 : 0 ≤ (fA u55 17 (z5).toNatClampNeg).toInt ∧ (fA u55 17 (z5).toNatClampNeg).toInt ≤ 255 := by have h := MI_A17 hJ (z5).toNatClampNeg; exact h
            refine tE (y := (fA u55 17 (z5).toNatClampNeg)) (by exact rfl) ?_
            refine cSi (w := mW cy a) (As := [.int (fA u55 17 (z5).toNatClampNeg)]) (rest := []) C hO (T_X11_bitsOf_8 l D cy a _ (by exact hJ) ((fA u55 17 (z5).toNatClampNeg)) (by first | omega | decide)) (va_cwS 1 ht (gSS wd_1663 wd_1664 wd_121 wd_1665) rfl rfl rfl hd_yX11_bitsOf ⟨Nat.le_of_ble_eq_true rfl, Nat.le_of_ble_eq_true rfl⟩)  rfl hl.1 (Nat.le_of_ble_eq_true rfl) dX11_readCase_127 rfl ⟨Nat.zero_le _, Nat.zero_le _⟩ (fun r97 u98 H locs hp99 hO => ?_)
            obtain ⟨hr97, hu98⟩ := hp99
            rw [hu98] at hO
            have gpr97 := pc8_b (x := ((fA u55 17 (z5).toNatClampNeg) : Int32).toInt) (by omega) (by omega)
            have gr97 : 0 ≤ r97.toInt ∧ r97.toInt ≤ 8 := by omega
            refine lv_iconst (v := 4) hx hb dX11_readCase_130 (by decide) ?_
            refine cs_ne (tgt := 141) (X := (r97).toInt) (Y := 4) hx hb dX11_readCase_131 (by decide) rfl rfl (fun c100 => ?_) (fun c100 => ?_)
            · refine lv_iload_n hx hb dX11_readCase_141 rfl (lv_at hl 0 rfl) ?_
              refine bs_lt (tgt := 170) (X := (r76).toInt) hx hb dX11_readCase_142 (by decide) rfl (fun c101 => ?_) (fun c101 => ?_)
              · refine lv_iload_n hx hb dX11_readCase_170 rfl (lv_at hl 0 rfl) ?_
                refine bn_ge (X := (r76).toInt) hx hb dX11_readCase_171 rfl (by omega) ?_ (tgt := 183) (by decide)
                refine lv_aload_n hx hb dX11_readCase_174 rfl (lv_at hl 3 rfl) ?_
                refine lv_iconst (v := 5) hx hb dX11_readCase_175 (by decide) ?_
                refine lv_aload_n hx hb dX11_readCase_176 rfl (lv_at hl 3 rfl) ?_
                refine gf_RX11_201 (v := .int at_k56) C hO 0 mW_0 (congrArg (fun z : Int32 => some (Value.int z)) hat_k56) dX11_readCase_177 ?_
                refine cVv (w := mW cy a) (As := [.int 5, .int at_k56]) (rest := []) C hO (T_X11_fails l D cy a _ (by exact hJ) (5) (at_k56) (by first | omega | decide)) (cwV 2 ht (gV wd_1619 wd_1621 wd_55 wd_121 wd_1622) rfl rfl rfl hd_yX11_fails ⟨Nat.le_of_ble_eq_true rfl, Nat.le_of_ble_eq_true rfl⟩) 0 rfl mW_0 rfl rfl hl.1 (Nat.le_of_ble_eq_true rfl) dX11_readCase_180 rfl ⟨Nat.zero_le _, Nat.zero_le _⟩ (fun u103 H locs hp104 hO => ?_)
                obtain ⟨hJ, hTu103, hx0u103⟩ := hp104
                have hT : Km30 u u103 := Km30.tr (by exact hT) (Km25_to_Km30 hTu103)
                have g105 : 0 ≤ (fI u103 0 4).toInt ∧ (fI u103 0 4).toInt ≤ 5 := by have h := MI_4 hJ; exact h
                have y0u103 : ¬ ((fI u103 0 4) : Int32).toInt = 0 := by exact hx0u103
                refine lv_aload_n hx hb dX11_readCase_183 rfl (lv_at hl 3 rfl) ?_
                refine cVi (w := mW cy a) (As := []) (rest := []) C hO (T_X11_isGood l D cy a _ (by exact hJ) ((fI u103 0 4)) (by exact rfl)) (cwV 0 ht (gV wd_1596 wd_1598 wd_50 wd_121 wd_1599) rfl rfl rfl hd_yX11_isGood ⟨Nat.le_of_ble_eq_true rfl, Nat.le_of_ble_eq_true rfl⟩) 0 rfl mW_0 rfl rfl hl.1 (Nat.le_of_ble_eq_true rfl) dX11_readCase_184 rfl ⟨Nat.zero_le _, Nat.zero_le _⟩ (fun r106 u107 H locs hp108 hO => ?_)
                obtain ⟨hr106, hu107⟩ := hp108
                rw [hu107] at hO
                rcases hr106 with ⟨hcr106, hvr106⟩ | ⟨hcr106, hvr106⟩
                · exfalso
                  omega
                · subst hvr106
                  refine bn_ne (X := 0) hx hb dX11_readCase_187 rfl (by omega) ?_ (tgt := 191) (by decide)
                  have g109 : 0 ≤ (fI u 0 3).toInt ∧ (fI u 0 3).toInt ≤ 1600 := by have h := MI_3 hJ0; exact h
                  have q110 : (en_k56 : Int32).toInt ≤ ((fI u 0 3) : Int32).toInt := by first | omega | decide
                  have q111 : (at_k56 : Int32).toInt ≤ (en_k56 : Int32).toInt := by first | omega | decide
                  have q112 : (tk_k56 : Int32).toInt = 0 ∨ (at_k56 : Int32).toInt < (en_k56 : Int32).toInt := by first | omega | decide
                  have g113 : 0 ≤ (fI u 0 6).toInt ∧ (fI u 0 6).toInt ≤ 1600 := by have h := MI_6 hJ0; exact h
                  have q114 : ((fI u 0 6) : Int32).toInt ≤ (at_k56 : Int32).toInt := by first | omega | decide
                  have g115 : 0 ≤ (fI u 0 4).toInt ∧ (fI u 0 4).toInt ≤ 5 := by have h := MI_4 hJ0; exact h
                  have q116 : ((fI u 0 4) : Int32).toInt = 0 ∨ ¬ ((fI u103 0 4) : Int32).toInt = 0 := by first | omega | decide
                  have q117 : ¬ ((fI u103 0 4) : Int32).toInt = 0 ∨ 0 < hk.toInt := by first | omega | decide
                  refine hret _ _ _ _ _ dX11_readCase_190 ?_ hO
                  exact ⟨hJ, hT, (show (fI u103 0 7 : Int32).toInt ≤ (fI u103 0 3 : Int32).toInt from by rw [show fI u103 0 7 = en_k56 from (Eq.trans (Km25_I7 hTu103) hen_k56), show fI u103 0 3 = (fI u 0 3) from (Km30_I3 hT)]; first | done | exact q110), (show (fI u103 0 6 : Int32).toInt ≤ (fI u103 0 7 : Int32).toInt from by rw [show fI u103 0 6 = at_k56 from (Eq.trans (Km25_I6 hTu103) hat_k56), show fI u103 0 7 = en_k56 from (Eq.trans (Km25_I7 hTu103) hen_k56)]; first | done | exact q111), (show (fI u103 0 8 : Int32).toInt = 0 ∨ (fI u103 0 6 : Int32).toInt < (fI u103 0 7 : Int32).toInt from by rw [show fI u103 0 8 = tk_k56 from (Eq.trans (Km25_I8 hTu103) htk_k56), show fI u103 0 6 = at_k56 from (Eq.trans (Km25_I6 hTu103) hat_k56), show fI u103 0 7 = en_k56 from (Eq.trans (Km25_I7 hTu103) hen_k56)]; first | done | exact q112), (show ((fI u 0 6) : Int32).toInt ≤ (fI u103 0 6 : Int32).toInt from by rw [show fI u103 0 6 = at_k56 from (Eq.trans (Km25_I6 hTu103) hat_k56)]; first | done | exact q114), q116, q117⟩
              · refine lv_aload_n hx hb dX11_readCase_145 rfl (lv_at hl 3 rfl) ?_
                refine gf_RX11_63 (v := .ref (a 17)) C hO 0 mW_0 rfl dX11_readCase_146 ?_
                refine lv_iload_n hx hb dX11_readCase_149 rfl (lv_at hl 2 rfl) ?_
                refine aI C hO 17 mW_17 (i_in (X := ((6 * ((fI u 0 37)).toInt) + (hc_).toInt)) e6 (by omega) (by omega)) dX11_readCase_150 ?_
                refine tE (y := (fA u55 17 (z5).toNatClampNeg)) (by exact rfl) ?_
                refine lv_iload_n hx hb dX11_readCase_151 rfl (lv_at hl 0 rfl) ?_
                refine cSi (w := mW cy a) (As := [.int (fA u55 17 (z5).toNatClampNeg), .int r76]) (rest := []) C hO (T_X11_bit l D cy a _ (by exact hJ) ((fA u55 17 (z5).toNatClampNeg)) (r76)) (va_cwS 2 ht (gSS wd_1612 wd_1613 wd_121 wd_1614) rfl rfl rfl hd_yX11_bit ⟨Nat.le_of_ble_eq_true rfl, Nat.le_of_ble_eq_true rfl⟩)  rfl hl.1 (Nat.le_of_ble_eq_true rfl) dX11_readCase_152 rfl ⟨Nat.zero_le _, Nat.zero_le _⟩ (fun r118 u119 H locs hp120 hO => ?_)
                obtain ⟨hr118, hu119⟩ := hp120
                rw [hu119] at hO
                obtain ⟨hr118, hbr118⟩ := hr118
                have gr118 : 0 ≤ r118.toInt ∧ r118.toInt ≤ 1 := by rcases hr118 with h | h <;> rw [h] <;> decide
                refine bs_eq (tgt := 170) (X := (r118).toInt) hx hb dX11_readCase_155 (by decide) rfl (fun c121 => ?_) (fun c121 => ?_)
                · refine lv_iload_n hx hb dX11_readCase_170 rfl (lv_at hl 0 rfl) ?_
                  refine bt_ge (tgt := 183) (X := (r76).toInt) hx hb dX11_readCase_171 (by decide) rfl (by omega) ?_
                  refine lv_aload_n hx hb dX11_readCase_183 rfl (lv_at hl 3 rfl) ?_
                  refine cVi (w := mW cy a) (As := []) (rest := []) C hO (T_X11_isGood l D cy a _ (by exact hJ) (fa_k56) (by exact hfa_k56)) (cwV 0 ht (gV wd_1596 wd_1598 wd_50 wd_121 wd_1599) rfl rfl rfl hd_yX11_isGood ⟨Nat.le_of_ble_eq_true rfl, Nat.le_of_ble_eq_true rfl⟩) 0 rfl mW_0 rfl rfl hl.1 (Nat.le_of_ble_eq_true rfl) dX11_readCase_184 rfl ⟨Nat.zero_le _, Nat.zero_le _⟩ (fun r122 u123 H locs hp124 hO => ?_)
                  obtain ⟨hr122, hu123⟩ := hp124
                  rw [hu123] at hO
                  rcases hr122 with ⟨hcr122, hvr122⟩ | ⟨hcr122, hvr122⟩
                  · subst hvr122
                    refine bt_ne (tgt := 191) (X := 1) hx hb dX11_readCase_187 (by decide) rfl (by omega) ?_
                    refine lv_aload_n hx hb dX11_readCase_191 rfl (lv_at hl 3 rfl) ?_
                    refine gf_RX11_63 (v := .ref (a 17)) C hO 0 mW_0 rfl dX11_readCase_192 ?_
                    refine lv_iload_n hx hb dX11_readCase_195 rfl (lv_at hl 2 rfl) ?_
                    refine lv_dup2_11 hx hb dX11_readCase_196 rfl rfl ?_
                    refine aI C hO 17 mW_17 (i_in (X := ((6 * ((fI u 0 37)).toInt) + (hc_).toInt)) e6 (by omega) (by omega)) dX11_readCase_197 ?_
                    refine tE (y := (fA u55 17 (z5).toNatClampNeg)) (by exact rfl) ?_
                    refine lv_iconst (v := 1) hx hb dX11_readCase_198 (by decide) ?_
                    refine lv_iload_n hx hb dX11_readCase_199 rfl (lv_at hl 0 rfl) ?_
                    refine lv_ishl hx hb dX11_readCase_200 ?_
                    refine lv_topi (fun z125 ez125 => ?_)
                    have g126 : 0 ≤ z125.toInt ∧ z125.toInt ≤ 2 ^ 7 := by rw [ez125]; exact i_shl1 rfl (by omega) (by omega) (by decide)
                    refine lv_ior hx hb dX11_readCase_201 ?_
                    refine lv_topi (fun z127 ez127 => ?_)
                    have g128 : 0 ≤ z127.toInt ∧ z127.toInt < 2 ^ 8 := by rw [ez127]; exact i_or rfl rfl (by omega) (by omega) (by decide)
                    refine aIs C hO 17 mW_17 (i_in (X := ((6 * ((fI u 0 37)).toInt) + (hc_).toInt)) e6 (by omega) (by omega)) mW_s17 dX11_readCase_202 (fun H locs hO => ?_)
                    have hT := Km30_wA17 hO hT
                    have hJ := MIsA_17 hO hJ (by first | decide | omega)
                    refine lv_aload_n hx hb dX11_readCase_203 rfl (lv_at hl 3 rfl) ?_
                    have g129 : 0 ≤ (fI u 0 3).toInt ∧ (fI u 0 3).toInt ≤ 1600 := by have h := MI_3 hJ0; exact h
                    refine cVv (w := mW cy a) (As := []) (rest := []) C hO (T_X11_goOn l D cy a _ (by exact hJ) (by exact (show (fI u55 0 7 : Int32).toInt ≤ (fI u55 0 3 : Int32).toInt from by rw [show fI u55 0 7 = en_k56 from hen_k56, show fI u55 0 3 = (fI u 0 3) from (Km30_I3 hT)]; first | done | omega | decide))) (cwV 0 ht (gV wd_1556 wd_1558 wd_48 wd_121 wd_1559) rfl rfl rfl hd_yX11_goOn ⟨Nat.le_of_ble_eq_true rfl, Nat.le_of_ble_eq_true rfl⟩) 0 rfl mW_0 rfl rfl hl.1 (Nat.le_of_ble_eq_true rfl) dX11_readCase_204 rfl ⟨Nat.zero_le _, Nat.zero_le _⟩ (fun u131 H locs hp132 hO => ?_)
                    obtain ⟨hJ, hTu131, hx0u131, hx1u131, hx2u131, hx3u131⟩ := hp132
                    have hT : Km30 u u131 := Km30.tr (by exact hT) (Km26_to_Km30 hTu131)
                    have g133 : 0 ≤ (fI u131 0 7).toInt ∧ (fI u131 0 7).toInt ≤ 1601 := by have h := MI_7 hJ; exact h
                    have y0u131 : ((fI u131 0 7) : Int32).toInt ≤ ((fI u 0 3) : Int32).toInt := by have h : ((fI u131 0 7) : Int32).toInt ≤ (fI u131 0 3 : Int32).toInt := hx0u131; rw [show fI u131 0 3 = (fI u 0 3) from (Km30_I3 hT)] at h; exact h
                    have g134 : 0 ≤ (fI u131 0 6).toInt ∧ (fI u131 0 6).toInt ≤ 1600 := by have h := MI_6 hJ; exact h
                    have y1u131 : ((fI u131 0 6) : Int32).toInt ≤ ((fI u131 0 7) : Int32).toInt := by exact hx1u131
                    have g135 : 0 ≤ (fI u131 0 8).toInt ∧ (fI u131 0 8).toInt ≤ 5 := by have h := MI_8 hJ; exact h
                    have y2u131 : ((fI u131 0 8) : Int32).toInt = 0 ∨ ((fI u131 0 6) : Int32).toInt < ((fI u131 0 7) : Int32).toInt := by exact hx2u131
                    have y3u131 : (en_k56 : Int32).toInt ≤ ((fI u131 0 6) : Int32).toInt := by have h : (fI u55 0 7 : Int32).toInt ≤ ((fI u131 0 6) : Int32).toInt := hx3u131; rw [show fI u55 0 7 = en_k56 from hen_k56] at h; exact h
                    refine lv_aload_n hx hb dX11_readCase_207 rfl (lv_at hl 3 rfl) ?_
                    refine gf_RX11_208 (v := .int (fI u131 0 8)) C hO 0 mW_0 rfl dX11_readCase_208 ?_
                    refine lv_iconst (v := 2) hx hb dX11_readCase_211 (by decide) ?_
                    refine cs_ne (tgt := 219) (X := ((fI u131 0 8)).toInt) (Y := 2) hx hb dX11_readCase_212 (by decide) rfl rfl (fun c136 => ?_) (fun c136 => ?_)
                    · refine lv_iconst (v := 0) hx hb dX11_readCase_219 (by decide) ?_
                      refine lv_istore_n (lv' := [(2, .int 0), (3, .int r76), (1, .int z5), (0, .ref (a 0))]) hx hb dX11_readCase_220 rfl hl (by decide) rfl (fun ls hl => ?_)
                      refine lv_goto (tgt := 97) hx hb dX11_readCase_221 (by decide) ?_
                      have zc137 : (0 : Int32).toInt = 0 := rfl
                      exact ih_k56 _ _ _ _ (0) ((fI u131 0 6)) ((fI u131 0 7)) ((fI u131 0 8)) (fa_k56) hO (lv_sub hl [0, 2, 3] rfl) (by exact hJ) (by exact hT) (by exact rfl) (by exact rfl) (by exact rfl) (by exact (Eq.trans (by have h9 := (Km26_I4 hTu131); exact h9) hfa_k56)) (by first | decide | omega) (by first | decide | omega) (by first | decide | omega) (by first | decide | omega) (by first | decide | omega) (by first | decide | omega) (by first | decide | omega) (by first | decide | omega) (by first | decide | omega) (by first | decide | omega) (by first | decide | omega) (by exact (Eq.trans (by have h9 := (Km26_A6 hTu131); exact h9) cv0_k56)) (by first | decide | omega)
                    · refine lv_iconst (v := 1) hx hb dX11_readCase_215 (by decide) ?_
                      refine lv_goto (tgt := 220) hx hb dX11_readCase_216 (by decide) ?_
                      refine lv_istore_n (lv' := [(2, .int 1), (3, .int r76), (1, .int z5), (0, .ref (a 0))]) hx hb dX11_readCase_220 rfl hl (by decide) rfl (fun ls hl => ?_)
                      refine lv_goto (tgt := 97) hx hb dX11_readCase_221 (by decide) ?_
                      have zc138 : (1 : Int32).toInt = 1 := rfl
                      exact ih_k56 _ _ _ _ (1) ((fI u131 0 6)) ((fI u131 0 7)) ((fI u131 0 8)) (fa_k56) hO (lv_sub hl [0, 2, 3] rfl) (by exact hJ) (by exact hT) (by exact rfl) (by exact rfl) (by exact rfl) (by exact (Eq.trans (by have h9 := (Km26_I4 hTu131); exact h9) hfa_k56)) (by first | decide | omega) (by first | decide | omega) (by first | decide | omega) (by first | decide | omega) (by first | decide | omega) (by first | decide | omega) (by first | decide | omega) (by first | decide | omega) (by first | decide | omega) (by first | decide | omega) (by first | decide | omega) (by exact (Eq.trans (by have h9 := (Km26_A6 hTu131); exact h9) cv0_k56)) (by first | decide | omega)
                  · exfalso
                    omega
                · refine lv_aload_n hx hb dX11_readCase_158 rfl (lv_at hl 3 rfl) ?_
                  refine lv_iconst (v := 3) hx hb dX11_readCase_159 (by decide) ?_
                  refine lv_aload_n hx hb dX11_readCase_160 rfl (lv_at hl 3 rfl) ?_
                  refine gf_RX11_201 (v := .int at_k56) C hO 0 mW_0 (congrArg (fun z : Int32 => some (Value.int z)) hat_k56) dX11_readCase_161 ?_
                  refine cVv (w := mW cy a) (As := [.int 3, .int at_k56]) (rest := []) C hO (T_X11_fails l D cy a _ (by exact hJ) (3) (at_k56) (by first | omega | decide)) (cwV 2 ht (gV wd_1619 wd_1621 wd_55 wd_121 wd_1622) rfl rfl rfl hd_yX11_fails ⟨Nat.le_of_ble_eq_true rfl, Nat.le_of_ble_eq_true rfl⟩) 0 rfl mW_0 rfl rfl hl.1 (Nat.le_of_ble_eq_true rfl) dX11_readCase_164 rfl ⟨Nat.zero_le _, Nat.zero_le _⟩ (fun u140 H locs hp141 hO => ?_)
                  obtain ⟨hJ, hTu140, hx0u140⟩ := hp141
                  have hT : Km30 u u140 := Km30.tr (by exact hT) (Km25_to_Km30 hTu140)
                  have g142 : 0 ≤ (fI u140 0 4).toInt ∧ (fI u140 0 4).toInt ≤ 5 := by have h := MI_4 hJ; exact h
                  have y0u140 : ¬ ((fI u140 0 4) : Int32).toInt = 0 := by exact hx0u140
                  refine lv_goto (tgt := 183) hx hb dX11_readCase_167 (by decide) ?_
                  refine lv_aload_n hx hb dX11_readCase_183 rfl (lv_at hl 3 rfl) ?_
                  refine cVi (w := mW cy a) (As := []) (rest := []) C hO (T_X11_isGood l D cy a _ (by exact hJ) ((fI u140 0 4)) (by exact rfl)) (cwV 0 ht (gV wd_1596 wd_1598 wd_50 wd_121 wd_1599) rfl rfl rfl hd_yX11_isGood ⟨Nat.le_of_ble_eq_true rfl, Nat.le_of_ble_eq_true rfl⟩) 0 rfl mW_0 rfl rfl hl.1 (Nat.le_of_ble_eq_true rfl) dX11_readCase_184 rfl ⟨Nat.zero_le _, Nat.zero_le _⟩ (fun r143 u144 H locs hp145 hO => ?_)
                  obtain ⟨hr143, hu144⟩ := hp145
                  rw [hu144] at hO
                  rcases hr143 with ⟨hcr143, hvr143⟩ | ⟨hcr143, hvr143⟩
                  · exfalso
                    omega
                  · subst hvr143
                    refine bn_ne (X := 0) hx hb dX11_readCase_187 rfl (by omega) ?_ (tgt := 191) (by decide)
                    have g146 : 0 ≤ (fI u 0 3).toInt ∧ (fI u 0 3).toInt ≤ 1600 := by have h := MI_3 hJ0; exact h
                    have q147 : (en_k56 : Int32).toInt ≤ ((fI u 0 3) : Int32).toInt := by first | omega | decide
                    have q148 : (at_k56 : Int32).toInt ≤ (en_k56 : Int32).toInt := by first | omega | decide
                    have q149 : (tk_k56 : Int32).toInt = 0 ∨ (at_k56 : Int32).toInt < (en_k56 : Int32).toInt := by first | omega | decide
                    have g150 : 0 ≤ (fI u 0 6).toInt ∧ (fI u 0 6).toInt ≤ 1600 := by have h := MI_6 hJ0; exact h
                    have q151 : ((fI u 0 6) : Int32).toInt ≤ (at_k56 : Int32).toInt := by first | omega | decide
                    have g152 : 0 ≤ (fI u 0 4).toInt ∧ (fI u 0 4).toInt ≤ 5 := by have h := MI_4 hJ0; exact h
                    have q153 : ((fI u 0 4) : Int32).toInt = 0 ∨ ¬ ((fI u140 0 4) : Int32).toInt = 0 := by first | omega | decide
                    have q154 : ¬ ((fI u140 0 4) : Int32).toInt = 0 ∨ 0 < hk.toInt := by first | omega | decide
                    refine hret _ _ _ _ _ dX11_readCase_190 ?_ hO
                    exact ⟨hJ, hT, (show (fI u140 0 7 : Int32).toInt ≤ (fI u140 0 3 : Int32).toInt from by rw [show fI u140 0 7 = en_k56 from (Eq.trans (Km25_I7 hTu140) hen_k56), show fI u140 0 3 = (fI u 0 3) from (Km30_I3 hT)]; first | done | exact q147), (show (fI u140 0 6 : Int32).toInt ≤ (fI u140 0 7 : Int32).toInt from by rw [show fI u140 0 6 = at_k56 from (Eq.trans (Km25_I6 hTu140) hat_k56), show fI u140 0 7 = en_k56 from (Eq.trans (Km25_I7 hTu140) hen_k56)]; first | done | exact q148), (show (fI u140 0 8 : Int32).toInt = 0 ∨ (fI u140 0 6 : Int32).toInt < (fI u140 0 7 : Int32).toInt from by rw [show fI u140 0 8 = tk_k56 from (Eq.trans (Km25_I8 hTu140) htk_k56), show fI u140 0 6 = at_k56 from (Eq.trans (Km25_I6 hTu140) hat_k56), show fI u140 0 7 = en_k56 from (Eq.trans (Km25_I7 hTu140) hen_k56)]; first | done | exact q149), (show ((fI u 0 6) : Int32).toInt ≤ (fI u140 0 6 : Int32).toInt from by rw [show fI u140 0 6 = at_k56 from (Eq.trans (Km25_I6 hTu140) hat_k56)]; first | done | exact q151), q153, q154⟩
            · refine lv_aload_n hx hb dX11_readCase_134 rfl (lv_at hl 3 rfl) ?_
              refine cVv (w := mW cy a) (As := []) (rest := []) C hO (T_X11_misplaced l D cy a _ (by exact hJ)) (cwV 0 ht (gV wd_1615 wd_1617 wd_54 wd_121 wd_1618) rfl rfl rfl hd_yX11_misplaced ⟨Nat.le_of_ble_eq_true rfl, Nat.le_of_ble_eq_true rfl⟩) 0 rfl mW_0 rfl rfl hl.1 (Nat.le_of_ble_eq_true rfl) dX11_readCase_135 rfl ⟨Nat.zero_le _, Nat.zero_le _⟩ (fun u156 H locs hp157 hO => ?_)
              obtain ⟨hJ, hTu156, hx0u156⟩ := hp157
              have hT : Km30 u u156 := Km30.tr (by exact hT) (Km25_to_Km30 hTu156)
              have g158 : 0 ≤ (fI u156 0 4).toInt ∧ (fI u156 0 4).toInt ≤ 5 := by have h := MI_4 hJ; exact h
              have y0u156 : ¬ ((fI u156 0 4) : Int32).toInt = 0 := by exact hx0u156
              refine lv_goto (tgt := 183) hx hb dX11_readCase_138 (by decide) ?_
              refine lv_aload_n hx hb dX11_readCase_183 rfl (lv_at hl 3 rfl) ?_
              refine cVi (w := mW cy a) (As := []) (rest := []) C hO (T_X11_isGood l D cy a _ (by exact hJ) ((fI u156 0 4)) (by exact rfl)) (cwV 0 ht (gV wd_1596 wd_1598 wd_50 wd_121 wd_1599) rfl rfl rfl hd_yX11_isGood ⟨Nat.le_of_ble_eq_true rfl, Nat.le_of_ble_eq_true rfl⟩) 0 rfl mW_0 rfl rfl hl.1 (Nat.le_of_ble_eq_true rfl) dX11_readCase_184 rfl ⟨Nat.zero_le _, Nat.zero_le _⟩ (fun r159 u160 H locs hp161 hO => ?_)
              obtain ⟨hr159, hu160⟩ := hp161
              rw [hu160] at hO
              rcases hr159 with ⟨hcr159, hvr159⟩ | ⟨hcr159, hvr159⟩
              · exfalso
                omega
              · subst hvr159
                refine bn_ne (X := 0) hx hb dX11_readCase_187 rfl (by omega) ?_ (tgt := 191) (by decide)
                have g162 : 0 ≤ (fI u 0 3).toInt ∧ (fI u 0 3).toInt ≤ 1600 := by have h := MI_3 hJ0; exact h
                have q163 : (en_k56 : Int32).toInt ≤ ((fI u 0 3) : Int32).toInt := by first | omega | decide
                have q164 : (at_k56 : Int32).toInt ≤ (en_k56 : Int32).toInt := by first | omega | decide
                have q165 : (tk_k56 : Int32).toInt = 0 ∨ (at_k56 : Int32).toInt < (en_k56 : Int32).toInt := by first | omega | decide
                have g166 : 0 ≤ (fI u 0 6).toInt ∧ (fI u 0 6).toInt ≤ 1600 := by have h := MI_6 hJ0; exact h
                have q167 : ((fI u 0 6) : Int32).toInt ≤ (at_k56 : Int32).toInt := by first | omega | decide
                have g168 : 0 ≤ (fI u 0 4).toInt ∧ (fI u 0 4).toInt ≤ 5 := by have h := MI_4 hJ0; exact h
                have q169 : ((fI u 0 4) : Int32).toInt = 0 ∨ ¬ ((fI u156 0 4) : Int32).toInt = 0 := by first | omega | decide
                have q170 : ¬ ((fI u156 0 4) : Int32).toInt = 0 ∨ 0 < hk.toInt := by first | omega | decide
                refine hret _ _ _ _ _ dX11_readCase_190 ?_ hO
                exact ⟨hJ, hT, (show (fI u156 0 7 : Int32).toInt ≤ (fI u156 0 3 : Int32).toInt from by rw [show fI u156 0 7 = en_k56 from (Eq.trans (Km25_I7 hTu156) hen_k56), show fI u156 0 3 = (fI u 0 3) from (Km30_I3 hT)]; first | done | exact q163), (show (fI u156 0 6 : Int32).toInt ≤ (fI u156 0 7 : Int32).toInt from by rw [show fI u156 0 6 = at_k56 from (Eq.trans (Km25_I6 hTu156) hat_k56), show fI u156 0 7 = en_k56 from (Eq.trans (Km25_I7 hTu156) hen_k56)]; first | done | exact q164), (show (fI u156 0 8 : Int32).toInt = 0 ∨ (fI u156 0 6 : Int32).toInt < (fI u156 0 7 : Int32).toInt from by rw [show fI u156 0 8 = tk_k56 from (Eq.trans (Km25_I8 hTu156) htk_k56), show fI u156 0 6 = at_k56 from (Eq.trans (Km25_I6 hTu156) hat_k56), show fI u156 0 7 = en_k56 from (Eq.trans (Km25_I7 hTu156) hen_k56)]; first | done | exact q165), (show ((fI u 0 6) : Int32).toInt ≤ (fI u156 0 6 : Int32).toInt from by rw [show fI u156 0 6 = at_k56 from (Eq.trans (Km25_I6 hTu156) hat_k56)]; first | done | exact q167), q169, q170⟩
      · subst hvr57
        refine bt_eq (tgt := 224) (X := 0) hx hb dX11_readCase_101 (by decide) rfl (by omega) ?_
        refine lv_aload_n hx hb dX11_readCase_224 rfl (lv_at hl 2 rfl) ?_
        refine gf_RX11_30 (v := .ref (a 6)) C hO 0 mW_0 rfl dX11_readCase_225 ?_
        refine lv_aload_n hx hb dX11_readCase_228 rfl (lv_at hl 2 rfl) ?_
        have g171 : 0 ≤ (fI u 0 37).toInt ∧ (fI u 0 37).toInt ≤ 1 := by have h := MI_37 hJ0; exact h
        refine gf_RX11_246 (v := .int (fI u 0 37)) C hO 0 mW_0 (congrArg (fun z : Int32 => some (Value.int z)) (Km30_I37 hT)) dX11_readCase_229 ?_
        refine lv_dup2_11 hx hb dX11_readCase_232 rfl rfl ?_
        refine aI C hO 6 mW_6 (i_in (X := ((fI u 0 37)).toInt) rfl (by omega) (by omega)) dX11_readCase_233 ?_
        have g172 : 0 ≤ hc_.toInt ∧ hc_.toInt ≤ 6 := by have h := MI_A6 hJ0 (fI u 0 37).toNatClampNeg; rw [hhc_] at h; exact h
        refine tE (y := hc_) (by exact (Eq.trans (congrFun cv0_k56 _) hhc_)) ?_
        refine lv_iconst (v := 1) hx hb dX11_readCase_234 (by decide) ?_
        refine lv_iadd hx hb dX11_readCase_235 ?_
        refine lv_topi (fun z173 ez173 => ?_)
        have e174 : z173.toInt = (hc_).toInt + 1 := by rw [ez173]; exact i_add rfl rfl (by omega)
        refine aIs C hO 6 mW_6 (i_in (X := ((fI u 0 37)).toInt) rfl (by omega) (by omega)) mW_s6 dX11_readCase_236 (fun H locs hO => ?_)
        have hT := Km30_wA6 hO hT
        have hJ := MIsA_6 hO hJ (by omega) (by rw [show fI u55 0 36 = fI u 0 36 from (Km30_I36 hT)]; exact rb_ne (b := fI u 0 36) (r := (fI u 0 37)) (by omega) (by omega) (by omega))
        have g175 : 0 ≤ (fI u 0 3).toInt ∧ (fI u 0 3).toInt ≤ 1600 := by have h := MI_3 hJ0; exact h
        have q176 : (en_k56 : Int32).toInt ≤ ((fI u 0 3) : Int32).toInt := by first | omega | decide
        have q177 : (at_k56 : Int32).toInt ≤ (en_k56 : Int32).toInt := by first | omega | decide
        have q178 : (tk_k56 : Int32).toInt = 0 ∨ (at_k56 : Int32).toInt < (en_k56 : Int32).toInt := by first | omega | decide
        have g179 : 0 ≤ (fI u 0 6).toInt ∧ (fI u 0 6).toInt ≤ 1600 := by have h := MI_6 hJ0; exact h
        have q180 : ((fI u 0 6) : Int32).toInt ≤ (at_k56 : Int32).toInt := by first | omega | decide
        have g181 : 0 ≤ (fI u 0 4).toInt ∧ (fI u 0 4).toInt ≤ 5 := by have h := MI_4 hJ0; exact h
        have q182 : ((fI u 0 4) : Int32).toInt = 0 ∨ ¬ (fa_k56 : Int32).toInt = 0 := by first | omega | decide
        have q183 : ¬ (fa_k56 : Int32).toInt = 0 ∨ 0 < hk.toInt := by first | omega | decide
        refine hret _ _ _ _ _ dX11_readCase_237 ?_ hO
        exact ⟨hJ, hT, (show (fI u55 0 7 : Int32).toInt ≤ (fI u55 0 3 : Int32).toInt from by rw [show fI u55 0 7 = en_k56 from hen_k56, show fI u55 0 3 = (fI u 0 3) from (Km30_I3 hT)]; first | done | exact q176), (show (fI u55 0 6 : Int32).toInt ≤ (fI u55 0 7 : Int32).toInt from by rw [show fI u55 0 6 = at_k56 from hat_k56, show fI u55 0 7 = en_k56 from hen_k56]; first | done | exact q177), (show (fI u55 0 8 : Int32).toInt = 0 ∨ (fI u55 0 6 : Int32).toInt < (fI u55 0 7 : Int32).toInt from by rw [show fI u55 0 8 = tk_k56 from htk_k56, show fI u55 0 6 = at_k56 from hat_k56, show fI u55 0 7 = en_k56 from hen_k56]; first | done | exact q178), (show ((fI u 0 6) : Int32).toInt ≤ (fI u55 0 6 : Int32).toInt from by rw [show fI u55 0 6 = at_k56 from hat_k56]; first | done | exact q180), (show ((fI u 0 4) : Int32).toInt = 0 ∨ ¬ (fI u55 0 4 : Int32).toInt = 0 from by rw [show fI u55 0 4 = fa_k56 from hfa_k56]; first | done | exact q182), (show ¬ (fI u55 0 4 : Int32).toInt = 0 ∨ 0 < hk.toInt from by rw [show fI u55 0 4 = fa_k56 from hfa_k56]; first | done | exact q183)⟩
  have zc184 : (1 : Int32).toInt = 1 := rfl
  exact LP_97_k56 4000 _ _ _ _ (1) ((fI u49 0 6)) ((fI u49 0 7)) ((fI u49 0 8)) ((fI u49 0 4)) hO (lv_sub hl [0, 1, 2] rfl) (by exact hJ) (by exact hT) (by exact rfl) (by exact rfl) (by exact rfl) (by exact rfl) (by first | decide | omega) (by first | decide | omega) (by first | decide | omega) (by first | decide | omega) (by first | decide | omega) (by first | decide | omega) (by first | decide | omega) (by first | decide | omega) (by first | decide | omega) (by first | decide | omega) (by first | decide | omega) (by exact (Eq.trans (by have h9 := (Km27_A6 hTu49); exact h9) (Eq.trans (by have h9 := (Km27_A6 hTu39); exact h9) (Eq.trans (by have h9 := (Km27_A6 hTu28); exact h9) (by have h9 := (Km27_A6 hTu17); exact h9))))) (by first | decide | omega)
