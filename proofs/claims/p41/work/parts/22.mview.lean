theorem dX11_strengthOf_0 : decode cX11_strengthOf 0 = .ok (.iconst 0, 1) := by decide +kernel
theorem dX11_strengthOf_1 : decode cX11_strengthOf 1 = .ok (.istore_n 2, 1) := by decide +kernel
theorem dX11_strengthOf_2 : decode cX11_strengthOf 2 = .ok (.iconst 0, 1) := by decide +kernel
theorem dX11_strengthOf_3 : decode cX11_strengthOf 3 = .ok (.istore_n 3, 1) := by decide +kernel
theorem dX11_strengthOf_4 : decode cX11_strengthOf 4 = .ok (.iload_n 3, 1) := by decide +kernel
theorem dX11_strengthOf_5 : decode cX11_strengthOf 5 = .ok (.aload_n 0, 1) := by decide +kernel
theorem dX11_strengthOf_6 : decode cX11_strengthOf 6 = .ok (.invokevirtual 377, 3) := by decide +kernel
theorem dX11_strengthOf_9 : decode cX11_strengthOf 9 = .ok (.if_icmp .ge 62, 3) := by decide +kernel
theorem dX11_strengthOf_12 : decode cX11_strengthOf 12 = .ok (.iload_n 2, 1) := by decide +kernel
theorem dX11_strengthOf_13 : decode cX11_strengthOf 13 = .ok (.iload_n 1, 1) := by decide +kernel
theorem dX11_strengthOf_14 : decode cX11_strengthOf 14 = .ok (.iload_n 3, 1) := by decide +kernel
theorem dX11_strengthOf_15 : decode cX11_strengthOf 15 = .ok (.invokestatic 264, 3) := by decide +kernel
theorem dX11_strengthOf_18 : decode cX11_strengthOf 18 = .ok (.ifCond .ne 7, 3) := by decide +kernel
theorem dX11_strengthOf_21 : decode cX11_strengthOf 21 = .ok (.iconst 0, 1) := by decide +kernel
theorem dX11_strengthOf_22 : decode cX11_strengthOf 22 = .ok (.goto 41, 3) := by decide +kernel
theorem dX11_strengthOf_25 : decode cX11_strengthOf 25 = .ok (.aload_n 0, 1) := by decide +kernel
theorem dX11_strengthOf_26 : decode cX11_strengthOf 26 = .ok (.getfield 100, 3) := by decide +kernel
theorem dX11_strengthOf_29 : decode cX11_strengthOf 29 = .ok (.ifCond .lt 20, 3) := by decide +kernel
theorem dX11_strengthOf_32 : decode cX11_strengthOf 32 = .ok (.iload_n 3, 1) := by decide +kernel
theorem dX11_strengthOf_33 : decode cX11_strengthOf 33 = .ok (.aload_n 0, 1) := by decide +kernel
theorem dX11_strengthOf_34 : decode cX11_strengthOf 34 = .ok (.invokevirtual 377, 3) := by decide +kernel
theorem dX11_strengthOf_37 : decode cX11_strengthOf 37 = .ok (.iconst 1, 1) := by decide +kernel
theorem dX11_strengthOf_38 : decode cX11_strengthOf 38 = .ok (.isub, 1) := by decide +kernel
theorem dX11_strengthOf_39 : decode cX11_strengthOf 39 = .ok (.if_icmp .ne 10, 3) := by decide +kernel
theorem dX11_strengthOf_42 : decode cX11_strengthOf 42 = .ok (.aload_n 0, 1) := by decide +kernel
theorem dX11_strengthOf_43 : decode cX11_strengthOf 43 = .ok (.getfield 100, 3) := by decide +kernel
theorem dX11_strengthOf_46 : decode cX11_strengthOf 46 = .ok (.goto 17, 3) := by decide +kernel
theorem dX11_strengthOf_49 : decode cX11_strengthOf 49 = .ok (.aload_n 0, 1) := by decide +kernel
theorem dX11_strengthOf_50 : decode cX11_strengthOf 50 = .ok (.getfield 57, 3) := by decide +kernel
theorem dX11_strengthOf_53 : decode cX11_strengthOf 53 = .ok (.bipush 8, 2) := by decide +kernel
theorem dX11_strengthOf_55 : decode cX11_strengthOf 55 = .ok (.aload_n 0, 1) := by decide +kernel
theorem dX11_strengthOf_56 : decode cX11_strengthOf 56 = .ok (.getfield 255, 3) := by decide +kernel
theorem dX11_strengthOf_59 : decode cX11_strengthOf 59 = .ok (.imul, 1) := by decide +kernel
theorem dX11_strengthOf_60 : decode cX11_strengthOf 60 = .ok (.iload_n 3, 1) := by decide +kernel
theorem dX11_strengthOf_61 : decode cX11_strengthOf 61 = .ok (.iadd, 1) := by decide +kernel
theorem dX11_strengthOf_62 : decode cX11_strengthOf 62 = .ok (.iaload, 1) := by decide +kernel
theorem dX11_strengthOf_63 : decode cX11_strengthOf 63 = .ok (.iadd, 1) := by decide +kernel
theorem dX11_strengthOf_64 : decode cX11_strengthOf 64 = .ok (.istore_n 2, 1) := by decide +kernel
theorem dX11_strengthOf_65 : decode cX11_strengthOf 65 = .ok (.iinc 3 1, 3) := by decide +kernel
theorem dX11_strengthOf_68 : decode cX11_strengthOf 68 = .ok (.goto (-64), 3) := by decide +kernel
theorem dX11_strengthOf_71 : decode cX11_strengthOf 71 = .ok (.iload_n 2, 1) := by decide +kernel
theorem dX11_strengthOf_72 : decode cX11_strengthOf 72 = .ok (.ireturn, 1) := by decide +kernel
theorem wd_1780 : (Cond.code ⟨"WebCourtModel", "strengthOf", "(I)I"⟩ prog_13_method_56_code (4 : Nat) (Option.some FieldType.int)) ∈ gtb := gtb_c7 231 (by decide +kernel) rfl
theorem wd_1612 : (Cond.methodLink "WebCourtModel" (264 : Nat) ⟨"WebCourtModel", "bit", "(II)Z"⟩) ∈ gtb := gtb_c7 63 (by decide +kernel) rfl
theorem wd_1613 : (Cond.static ⟨"WebCourtModel", "bit", "(II)Z"⟩) ∈ gtb := gtb_c7 64 (by decide +kernel) rfl
theorem hd_yX11_bit : yX11_bit.cls ≠ "java/lang/invoke/MethodHandle" ∧ yX11_bit.cls ≠ "java/lang/invoke/VarHandle" ∧ (parseMethodDescriptor yX11_bit.desc).map (fun d => d.parameters.length) = some 2 := by decide +kernel
theorem wd_1401 : (Cond.fieldLink "WebCourtModel" (100 : Nat) "WebCourtModel" "thought" "I") ∈ gtb := gtb_c6 92 (by decide +kernel) rfl
theorem gf_RX11_100 {p : Program} {l : Launch} {e : Env} {R : Room} {s : State} {m : MethodId} {args : Array Value} {below : List Frame} {meth : Method} {c : Code} {H : Heap} {locs : List Loc} {cells slots : Nat} {Q : State → Prop} {cc : ByteArray} {pc nL : Nat} {ls : Array Slot} {rest : List Value} {D : va_G} {cy : Nat → ClassId} {A : Nat → Prop} {ws : va_W} {b : Nat} {fs : List Value} {v : Value} (C : Cx p s m args c cc nL RX11 D cy A) (hO : Wo D A ws s.heap H locs) (q0 : Nat) (he : ws[q0]? = some (b, .inr (11, fs))) (hv : fs[45]? = some v) (hdg : decode cc pc = .ok (.getfield 100, 3)) (kk : W p l e R s m args below meth c H locs cells slots Q (F0 m (pc + 3) ls (v :: rest))) : W p l e R s m args below meth c H locs cells slots Q (F0 m pc ls (.ref b :: rest)) := gF (k := 45) C hO q0 he rfl inFX11 (by decide) wd_1401 rfl hv hdg kk
theorem wd_1379 : (Cond.fieldLink "WebCourtModel" (57 : Nat) "WebCourtModel" "strong" "[I") ∈ gtb := gtb_c6 70 (by decide +kernel) rfl
theorem gf_RX11_57 {p : Program} {l : Launch} {e : Env} {R : Room} {s : State} {m : MethodId} {args : Array Value} {below : List Frame} {meth : Method} {c : Code} {H : Heap} {locs : List Loc} {cells slots : Nat} {Q : State → Prop} {cc : ByteArray} {pc nL : Nat} {ls : Array Slot} {rest : List Value} {D : va_G} {cy : Nat → ClassId} {A : Nat → Prop} {ws : va_W} {b : Nat} {fs : List Value} {v : Value} (C : Cx p s m args c cc nL RX11 D cy A) (hO : Wo D A ws s.heap H locs) (q0 : Nat) (he : ws[q0]? = some (b, .inr (11, fs))) (hv : fs[23]? = some v) (hdg : decode cc pc = .ok (.getfield 57, 3)) (kk : W p l e R s m args below meth c H locs cells slots Q (F0 m (pc + 3) ls (v :: rest))) : W p l e R s m args below meth c H locs cells slots Q (F0 m pc ls (.ref b :: rest)) := gF (k := 23) C hO q0 he rfl inFX11 (by decide) wd_1379 rfl hv hdg kk
set_option maxHeartbeats 4000000 in
set_option maxRecDepth 100000 in
theorem T_X11_strengthOf (l : Launch) (D : va_G) (cy : Nat → ClassId) (a : Nat → Nat) (u : St) (hJ : MI a u) (gq : Int32) (hgq : fA u 5 (fI u 0 36).toNatClampNeg = gq) (x1 : Int32)  : Mi l D cy (mW cy a) yX11_strengthOf (.code yX11_strengthOf cX11_strengthOf 4 (some .int)) (rmo 1 21) [.ref (a 0), .int x1] u (fun (r : Int32) (u' : St) => u' = u) := by
  refine Mi.of (own := RX11) rfl (by decide) (Nat.le_of_ble_eq_true rfl) ?_
  have hT : Km0 u u := Km0.rf
  have hJ0 := hJ
  intro p e s m below meth c A Q ls C hret hO hl
  obtain ⟨hx, hb, hml, hown, ht, hK, hA⟩ := id C
  have hl : lv_has ls 4 [(0, .ref (a 0)), (1, .int x1)] := hl
  refine lv_iconst (v := 0) hx hb dX11_strengthOf_0 (by decide) ?_
  refine lv_istore_n (lv' := [(2, .int 0), (0, .ref (a 0)), (1, .int x1)]) hx hb dX11_strengthOf_1 rfl hl (by decide) rfl (fun ls hl => ?_)
  refine lv_iconst (v := 0) hx hb dX11_strengthOf_2 (by decide) ?_
  refine lv_istore_n (lv' := [(3, .int 0), (2, .int 0), (0, .ref (a 0)), (1, .int x1)]) hx hb dX11_strengthOf_3 rfl hl (by decide) rfl (fun ls hl => ?_)
  have LP_4_k1 : ∀ (n : Nat) (H : Heap) (locs : List Loc) (ls : Array Slot) (p_k1 : Int32) (w2_k1 : Int32), Wo D A (mW cy a u) s.heap H locs → lv_has ls 4 [(3, .int p_k1), (2, .int w2_k1), (0, .ref (a 0)), (1, .int x1)] → 0 ≤ p_k1.toInt ∧ p_k1.toInt ≤ 8 → 8 - p_k1.toInt < (n : Int) → W p l e (rmo 1 21) s m [.ref (a 0), .int x1].toArray below meth c H locs 0 0 Q (F0 m 4 ls []) := by
    intro n
    induction n with
    | zero =>
      intro H locs ls p_k1 w2_k1 hO hl iv0_k1 hm_k1
      exact absurd hm_k1 (by omega)
    | succ n ih_k1 =>
      intro H locs ls p_k1 w2_k1 hO hl iv0_k1 hm_k1
      refine lv_iload_n hx hb dX11_strengthOf_4 rfl (lv_at hl 0 rfl) ?_
      refine lv_aload_n hx hb dX11_strengthOf_5 rfl (lv_at hl 2 rfl) ?_
      have g2 : 0 ≤ (fI u 0 36).toInt ∧ (fI u 0 36).toInt ≤ 1 := by have h := MI_36 hJ0; exact h
      have g3 : 0 ≤ gq.toInt ∧ gq.toInt ≤ 8 := by have h := MI_A5 hJ0 (fI u 0 36).toNatClampNeg; rw [hgq] at h; exact h
      refine cVi (w := mW cy a) (As := []) (rest := [.int p_k1]) C hO (T_X11_pleads l D cy a _ (by exact hJ) (gq) (by exact hgq)) (cwV 0 ht (gV wd_1745 wd_1747 wd_82 wd_121 wd_1748) rfl rfl rfl hd_yX11_pleads ⟨Nat.le_of_ble_eq_true rfl, Nat.le_of_ble_eq_true rfl⟩) 0 rfl mW_0 rfl rfl hl.1 (Nat.le_of_ble_eq_true rfl) dX11_strengthOf_6 rfl ⟨Nat.zero_le _, Nat.zero_le _⟩ (fun r4 u5 H locs hp6 hO => ?_)
      obtain ⟨hr4, hu5⟩ := hp6
      refine tE hr4 ?_
      rw [hu5] at hO
      refine cs_ge (tgt := 71) (X := (p_k1).toInt) (Y := (gq).toInt) hx hb dX11_strengthOf_9 (by decide) rfl rfl (fun c7 => ?_) (fun c7 => ?_)
      · refine lv_iload_n hx hb dX11_strengthOf_71 rfl (lv_at hl 1 rfl) ?_
        refine hret _ _ _ _ _ _ dX11_strengthOf_72 rfl ?_ hO
        exact rfl
      · refine lv_iload_n hx hb dX11_strengthOf_12 rfl (lv_at hl 1 rfl) ?_
        refine lv_iload_n hx hb dX11_strengthOf_13 rfl (lv_at hl 3 rfl) ?_
        refine lv_iload_n hx hb dX11_strengthOf_14 rfl (lv_at hl 0 rfl) ?_
        refine cSi (w := mW cy a) (As := [.int x1, .int p_k1]) (rest := [.int w2_k1]) C hO (T_X11_bit l D cy a _ (by exact hJ) (x1) (p_k1)) (va_cwS 2 ht (gSS wd_1612 wd_1613 wd_121 wd_1614) rfl rfl rfl hd_yX11_bit ⟨Nat.le_of_ble_eq_true rfl, Nat.le_of_ble_eq_true rfl⟩)  rfl hl.1 (Nat.le_of_ble_eq_true rfl) dX11_strengthOf_15 rfl ⟨Nat.zero_le _, Nat.zero_le _⟩ (fun r8 u9 H locs hp10 hO => ?_)
        obtain ⟨hr8, hu9⟩ := hp10
        rw [hu9] at hO
        obtain ⟨hr8, hbr8⟩ := hr8
        have gr8 : 0 ≤ r8.toInt ∧ r8.toInt ≤ 1 := by rcases hr8 with h | h <;> rw [h] <;> decide
        refine bs_ne (tgt := 25) (X := (r8).toInt) hx hb dX11_strengthOf_18 (by decide) rfl (fun c11 => ?_) (fun c11 => ?_)
        · refine lv_aload_n hx hb dX11_strengthOf_25 rfl (lv_at hl 2 rfl) ?_
          refine gf_RX11_100 (v := .int (fI u 0 45)) C hO 0 mW_0 rfl dX11_strengthOf_26 ?_
          refine bs_lt (tgt := 49) (X := ((fI u 0 45)).toInt) hx hb dX11_strengthOf_29 (by decide) rfl (fun c12 => ?_) (fun c12 => ?_)
          · refine lv_aload_n hx hb dX11_strengthOf_49 rfl (lv_at hl 2 rfl) ?_
            refine gf_RX11_57 (v := .ref (a 15)) C hO 0 mW_0 rfl dX11_strengthOf_50 ?_
            refine lv_bipush (v := 8) hx hb dX11_strengthOf_53 (by decide) ?_
            refine lv_aload_n hx hb dX11_strengthOf_55 rfl (lv_at hl 2 rfl) ?_
            refine gf_RX11_255 (v := .int (fI u 0 36)) C hO 0 mW_0 rfl dX11_strengthOf_56 ?_
            refine lv_imul hx hb dX11_strengthOf_59 ?_
            refine lv_topi (fun z13 ez13 => ?_)
            have e14 : z13.toInt = 8 * ((fI u 0 36)).toInt := by rw [ez13]; exact i_mul rfl rfl (by omega)
            refine lv_iload_n hx hb dX11_strengthOf_60 rfl (lv_at hl 0 rfl) ?_
            refine lv_iadd hx hb dX11_strengthOf_61 ?_
            refine lv_topi (fun z15 ez15 => ?_)
            have e16 : z15.toInt = (8 * ((fI u 0 36)).toInt) + (p_k1).toInt := by rw [ez15]; exact i_add e14 rfl (by omega)
            refine aI C hO 15 mW_15 (i_in (X := ((8 * ((fI u 0 36)).toInt) + (p_k1).toInt)) e16 (by omega) (by omega)) dX11_strengthOf_62 ?_
            refine tE (y := (fA u 15 (z15).toNatClampNeg)) (by exact rfl) ?_
            refine lv_iadd hx hb dX11_strengthOf_63 ?_
            refine lv_topi (fun z17 ez17 => ?_)
            refine lv_istore_n (lv' := [(2, .int z17), (3, .int p_k1), (0, .ref (a 0)), (1, .int x1)]) hx hb dX11_strengthOf_64 rfl hl (by decide) rfl (fun ls hl => ?_)
            obtain ⟨z18, ez18⟩ : ∃ z : Int32, z = p_k1 + Int32.ofInt 1 := ⟨_, rfl⟩
            have e19 : z18.toInt = (p_k1).toInt + 1 := by rw [ez18]; exact i_add rfl rfl (by omega)
            refine lv_iinc (v := z18) (lv' := [(3, .int z18), (2, .int z17), (0, .ref (a 0)), (1, .int x1)]) hx hb dX11_strengthOf_65 hl (k := 1) rfl ez18.symm (by decide) rfl (fun ls hl => ?_)
            refine lv_goto (tgt := 4) hx hb dX11_strengthOf_68 (by decide) ?_
            exact ih_k1 _ _ _ (z18) (z17) hO (lv_sub hl [0, 1, 2, 3] rfl) (by first | decide | omega) (by first | decide | omega)
          · refine lv_iload_n hx hb dX11_strengthOf_32 rfl (lv_at hl 0 rfl) ?_
            refine lv_aload_n hx hb dX11_strengthOf_33 rfl (lv_at hl 2 rfl) ?_
            refine cVi (w := mW cy a) (As := []) (rest := [.int p_k1, .int w2_k1]) C hO (T_X11_pleads l D cy a _ (by exact hJ) (gq) (by exact hgq)) (cwV 0 ht (gV wd_1745 wd_1747 wd_82 wd_121 wd_1748) rfl rfl rfl hd_yX11_pleads ⟨Nat.le_of_ble_eq_true rfl, Nat.le_of_ble_eq_true rfl⟩) 0 rfl mW_0 rfl rfl hl.1 (Nat.le_of_ble_eq_true rfl) dX11_strengthOf_34 rfl ⟨Nat.zero_le _, Nat.zero_le _⟩ (fun r20 u21 H locs hp22 hO => ?_)
            obtain ⟨hr20, hu21⟩ := hp22
            refine tE hr20 ?_
            rw [hu21] at hO
            refine lv_iconst (v := 1) hx hb dX11_strengthOf_37 (by decide) ?_
            refine lv_isub hx hb dX11_strengthOf_38 ?_
            refine lv_topi (fun z23 ez23 => ?_)
            have e24 : z23.toInt = (gq).toInt - 1 := by rw [ez23]; exact i_sub rfl rfl (by omega)
            refine cs_ne (tgt := 49) (X := (p_k1).toInt) (Y := ((gq).toInt - 1)) hx hb dX11_strengthOf_39 (by decide) rfl e24 (fun c25 => ?_) (fun c25 => ?_)
            · refine lv_aload_n hx hb dX11_strengthOf_49 rfl (lv_at hl 2 rfl) ?_
              refine gf_RX11_57 (v := .ref (a 15)) C hO 0 mW_0 rfl dX11_strengthOf_50 ?_
              refine lv_bipush (v := 8) hx hb dX11_strengthOf_53 (by decide) ?_
              refine lv_aload_n hx hb dX11_strengthOf_55 rfl (lv_at hl 2 rfl) ?_
              refine gf_RX11_255 (v := .int (fI u 0 36)) C hO 0 mW_0 rfl dX11_strengthOf_56 ?_
              refine lv_imul hx hb dX11_strengthOf_59 ?_
              refine lv_topi (fun z26 ez26 => ?_)
              have e27 : z26.toInt = 8 * ((fI u 0 36)).toInt := by rw [ez26]; exact i_mul rfl rfl (by omega)
              refine lv_iload_n hx hb dX11_strengthOf_60 rfl (lv_at hl 0 rfl) ?_
              refine lv_iadd hx hb dX11_strengthOf_61 ?_
              refine lv_topi (fun z28 ez28 => ?_)
              have e29 : z28.toInt = (8 * ((fI u 0 36)).toInt) + (p_k1).toInt := by rw [ez28]; exact i_add e27 rfl (by omega)
              refine aI C hO 15 mW_15 (i_in (X := ((8 * ((fI u 0 36)).toInt) + (p_k1).toInt)) e29 (by omega) (by omega)) dX11_strengthOf_62 ?_
              refine tE (y := (fA u 15 (z28).toNatClampNeg)) (by exact rfl) ?_
              refine lv_iadd hx hb dX11_strengthOf_63 ?_
              refine lv_topi (fun z30 ez30 => ?_)
              refine lv_istore_n (lv' := [(2, .int z30), (3, .int p_k1), (0, .ref (a 0)), (1, .int x1)]) hx hb dX11_strengthOf_64 rfl hl (by decide) rfl (fun ls hl => ?_)
              obtain ⟨z31, ez31⟩ : ∃ z : Int32, z = p_k1 + Int32.ofInt 1 := ⟨_, rfl⟩
              have e32 : z31.toInt = (p_k1).toInt + 1 := by rw [ez31]; exact i_add rfl rfl (by omega)
              refine lv_iinc (v := z31) (lv' := [(3, .int z31), (2, .int z30), (0, .ref (a 0)), (1, .int x1)]) hx hb dX11_strengthOf_65 hl (k := 1) rfl ez31.symm (by decide) rfl (fun ls hl => ?_)
              refine lv_goto (tgt := 4) hx hb dX11_strengthOf_68 (by decide) ?_
              exact ih_k1 _ _ _ (z31) (z30) hO (lv_sub hl [0, 1, 2, 3] rfl) (by first | decide | omega) (by first | decide | omega)
            · refine lv_aload_n hx hb dX11_strengthOf_42 rfl (lv_at hl 2 rfl) ?_
              refine gf_RX11_100 (v := .int (fI u 0 45)) C hO 0 mW_0 rfl dX11_strengthOf_43 ?_
              refine lv_goto (tgt := 63) hx hb dX11_strengthOf_46 (by decide) ?_
              refine lv_iadd hx hb dX11_strengthOf_63 ?_
              refine lv_topi (fun z33 ez33 => ?_)
              refine lv_istore_n (lv' := [(2, .int z33), (3, .int p_k1), (0, .ref (a 0)), (1, .int x1)]) hx hb dX11_strengthOf_64 rfl hl (by decide) rfl (fun ls hl => ?_)
              obtain ⟨z34, ez34⟩ : ∃ z : Int32, z = p_k1 + Int32.ofInt 1 := ⟨_, rfl⟩
              have e35 : z34.toInt = (p_k1).toInt + 1 := by rw [ez34]; exact i_add rfl rfl (by omega)
              refine lv_iinc (v := z34) (lv' := [(3, .int z34), (2, .int z33), (0, .ref (a 0)), (1, .int x1)]) hx hb dX11_strengthOf_65 hl (k := 1) rfl ez34.symm (by decide) rfl (fun ls hl => ?_)
              refine lv_goto (tgt := 4) hx hb dX11_strengthOf_68 (by decide) ?_
              exact ih_k1 _ _ _ (z34) (z33) hO (lv_sub hl [0, 1, 2, 3] rfl) (by first | decide | omega) (by first | decide | omega)
        · refine lv_iconst (v := 0) hx hb dX11_strengthOf_21 (by decide) ?_
          refine lv_goto (tgt := 63) hx hb dX11_strengthOf_22 (by decide) ?_
          refine lv_iadd hx hb dX11_strengthOf_63 ?_
          refine lv_topi (fun z36 ez36 => ?_)
          refine lv_istore_n (lv' := [(2, .int z36), (3, .int p_k1), (0, .ref (a 0)), (1, .int x1)]) hx hb dX11_strengthOf_64 rfl hl (by decide) rfl (fun ls hl => ?_)
          obtain ⟨z37, ez37⟩ : ∃ z : Int32, z = p_k1 + Int32.ofInt 1 := ⟨_, rfl⟩
          have e38 : z37.toInt = (p_k1).toInt + 1 := by rw [ez37]; exact i_add rfl rfl (by omega)
          refine lv_iinc (v := z37) (lv' := [(3, .int z37), (2, .int z36), (0, .ref (a 0)), (1, .int x1)]) hx hb dX11_strengthOf_65 hl (k := 1) rfl ez37.symm (by decide) rfl (fun ls hl => ?_)
          refine lv_goto (tgt := 4) hx hb dX11_strengthOf_68 (by decide) ?_
          exact ih_k1 _ _ _ (z37) (z36) hO (lv_sub hl [0, 1, 2, 3] rfl) (by first | decide | omega) (by first | decide | omega)
  have zc39 : (0 : Int32).toInt = 0 := rfl
  exact LP_4_k1 4000 _ _ _ (0) (0) hO (lv_sub hl [0, 1, 2, 3] rfl) (by first | decide | omega) (by first | decide | omega)
theorem dX11_heldNow_0 : decode cX11_heldNow 0 = .ok (.iconst 0, 1) := by decide +kernel
theorem dX11_heldNow_1 : decode cX11_heldNow 1 = .ok (.istore_n 1, 1) := by decide +kernel
theorem dX11_heldNow_2 : decode cX11_heldNow 2 = .ok (.iconst 0, 1) := by decide +kernel
theorem dX11_heldNow_3 : decode cX11_heldNow 3 = .ok (.istore_n 2, 1) := by decide +kernel
theorem dX11_heldNow_4 : decode cX11_heldNow 4 = .ok (.iload_n 2, 1) := by decide +kernel
theorem dX11_heldNow_5 : decode cX11_heldNow 5 = .ok (.aload_n 0, 1) := by decide +kernel
theorem dX11_heldNow_6 : decode cX11_heldNow 6 = .ok (.invokevirtual 371, 3) := by decide +kernel
theorem dX11_heldNow_9 : decode cX11_heldNow 9 = .ok (.if_icmp .ge 26, 3) := by decide +kernel
theorem dX11_heldNow_12 : decode cX11_heldNow 12 = .ok (.aload_n 0, 1) := by decide +kernel
theorem dX11_heldNow_13 : decode cX11_heldNow 13 = .ok (.getfield 97, 3) := by decide +kernel
theorem dX11_heldNow_16 : decode cX11_heldNow 16 = .ok (.iconst 0, 1) := by decide +kernel
theorem dX11_heldNow_17 : decode cX11_heldNow 17 = .ok (.iload_n 2, 1) := by decide +kernel
theorem dX11_heldNow_18 : decode cX11_heldNow 18 = .ok (.iadd, 1) := by decide +kernel
theorem dX11_heldNow_19 : decode cX11_heldNow 19 = .ok (.iaload, 1) := by decide +kernel
theorem dX11_heldNow_20 : decode cX11_heldNow 20 = .ok (.ifCond .ne 9, 3) := by decide +kernel
theorem dX11_heldNow_23 : decode cX11_heldNow 23 = .ok (.iload_n 1, 1) := by decide +kernel
theorem dX11_heldNow_24 : decode cX11_heldNow 24 = .ok (.iconst 1, 1) := by decide +kernel
theorem dX11_heldNow_25 : decode cX11_heldNow 25 = .ok (.iload_n 2, 1) := by decide +kernel
theorem dX11_heldNow_26 : decode cX11_heldNow 26 = .ok (.ishl, 1) := by decide +kernel
theorem dX11_heldNow_27 : decode cX11_heldNow 27 = .ok (.ior, 1) := by decide +kernel
theorem dX11_heldNow_28 : decode cX11_heldNow 28 = .ok (.istore_n 1, 1) := by decide +kernel
theorem dX11_heldNow_29 : decode cX11_heldNow 29 = .ok (.iinc 2 1, 3) := by decide +kernel
theorem dX11_heldNow_32 : decode cX11_heldNow 32 = .ok (.goto (-28), 3) := by decide +kernel
theorem dX11_heldNow_35 : decode cX11_heldNow 35 = .ok (.iload_n 1, 1) := by decide +kernel
theorem dX11_heldNow_36 : decode cX11_heldNow 36 = .ok (.ireturn, 1) := by decide +kernel
theorem wd_1843 : (Cond.code ⟨"WebCourtModel", "heldNow", "()I"⟩ prog_13_method_57_code (3 : Nat) (Option.some FieldType.int)) ∈ gtb := gtb_c8 54 (by decide +kernel) rfl
set_option maxHeartbeats 4000000 in
set_option maxRecDepth 100000 in
theorem T_X11_heldNow (l : Launch) (D : va_G) (cy : Nat → ClassId) (a : Nat → Nat) (u : St) (hJ : MI a u) (gm : Int32) (hgm : fA u 6 (fI u 0 36).toNatClampNeg = gm)   : Mi l D cy (mW cy a) yX11_heldNow (.code yX11_heldNow cX11_heldNow 3 (some .int)) (rmo 1 20) [.ref (a 0)] u (fun (r : Int32) (u' : St) => ((0 ≤ r.toInt ∧ r.toInt ≤ 63) ∧ (r.toInt = 0 ∨ 0 < gm.toInt)) ∧ (u' = u)) := by
  refine Mi.of (own := RX11) rfl (by decide) (Nat.le_of_ble_eq_true rfl) ?_
  have hT : Km0 u u := Km0.rf
  have hJ0 := hJ
  intro p e s m below meth c A Q ls C hret hO hl
  obtain ⟨hx, hb, hml, hown, ht, hK, hA⟩ := id C
  have hl : lv_has ls 3 [(0, .ref (a 0))] := hl
  refine lv_iconst (v := 0) hx hb dX11_heldNow_0 (by decide) ?_
  refine lv_istore_n (lv' := [(1, .int 0), (0, .ref (a 0))]) hx hb dX11_heldNow_1 rfl hl (by decide) rfl (fun ls hl => ?_)
  refine lv_iconst (v := 0) hx hb dX11_heldNow_2 (by decide) ?_
  refine lv_istore_n (lv' := [(2, .int 0), (1, .int 0), (0, .ref (a 0))]) hx hb dX11_heldNow_3 rfl hl (by decide) rfl (fun ls hl => ?_)
  have LP_4_k1 : ∀ (n : Nat) (H : Heap) (locs : List Loc) (ls : Array Slot) (c_k1 : Int32) (s_k1 : Int32), Wo D A (mW cy a u) s.heap H locs → lv_has ls 3 [(2, .int c_k1), (1, .int s_k1), (0, .ref (a 0))] → (s_k1.toInt = 0 ∨ 0 < gm.toInt) → 0 ≤ c_k1.toInt ∧ c_k1.toInt ≤ 6 → 0 ≤ s_k1.toInt ∧ s_k1.toInt ≤ 63 → 6 - c_k1.toInt < (n : Int) → W p l e (rmo 1 20) s m [.ref (a 0)].toArray below meth c H locs 0 0 Q (F0 m 4 ls []) := by
    intro n
    induction n with
    | zero =>
      intro H locs ls c_k1 s_k1 hO hl iv0_k1 iv1_k1 iv2_k1 hm_k1
      exact absurd hm_k1 (by omega)
    | succ n ih_k1 =>
      intro H locs ls c_k1 s_k1 hO hl iv0_k1 iv1_k1 iv2_k1 hm_k1
      refine lv_iload_n hx hb dX11_heldNow_4 rfl (lv_at hl 0 rfl) ?_
      refine lv_aload_n hx hb dX11_heldNow_5 rfl (lv_at hl 2 rfl) ?_
      have g2 : 0 ≤ (fI u 0 36).toInt ∧ (fI u 0 36).toInt ≤ 1 := by have h := MI_36 hJ0; exact h
      have g3 : 0 ≤ gm.toInt ∧ gm.toInt ≤ 6 := by have h := MI_A6 hJ0 (fI u 0 36).toNatClampNeg; rw [hgm] at h; exact h
      refine cVi (w := mW cy a) (As := []) (rest := [.int c_k1]) C hO (T_X11_many l D cy a _ (by exact hJ) (gm) (by exact hgm)) (cwV 0 ht (gV wd_1348 wd_1350 wd_46 wd_121 wd_1351) rfl rfl rfl hd_yX11_many ⟨Nat.le_of_ble_eq_true rfl, Nat.le_of_ble_eq_true rfl⟩) 0 rfl mW_0 rfl rfl hl.1 (Nat.le_of_ble_eq_true rfl) dX11_heldNow_6 rfl ⟨Nat.zero_le _, Nat.zero_le _⟩ (fun r4 u5 H locs hp6 hO => ?_)
      obtain ⟨hr4, hu5⟩ := hp6
      refine tE hr4 ?_
      rw [hu5] at hO
      refine cs_ge (tgt := 35) (X := (c_k1).toInt) (Y := (gm).toInt) hx hb dX11_heldNow_9 (by decide) rfl rfl (fun c7 => ?_) (fun c7 => ?_)
      · refine lv_iload_n hx hb dX11_heldNow_35 rfl (lv_at hl 1 rfl) ?_
        refine hret _ _ _ _ _ _ dX11_heldNow_36 rfl ?_ hO
        exact ⟨(by omega), rfl⟩
      · refine lv_aload_n hx hb dX11_heldNow_12 rfl (lv_at hl 2 rfl) ?_
        refine gf_RX11_97 (v := .ref (a 28)) C hO 0 mW_0 rfl dX11_heldNow_13 ?_
        refine lv_iconst (v := 0) hx hb dX11_heldNow_16 (by decide) ?_
        refine lv_iload_n hx hb dX11_heldNow_17 rfl (lv_at hl 0 rfl) ?_
        refine lv_iadd hx hb dX11_heldNow_18 ?_
        refine lv_topi (fun z8 ez8 => ?_)
        have e9 : z8.toInt = 0 + (c_k1).toInt := by rw [ez8]; exact i_add rfl rfl (by omega)
        refine aI C hO 28 mW_28 (i_in (X := (0 + (c_k1).toInt)) e9 (by omega) (by omega)) dX11_heldNow_19 ?_
        refine tE (y := (fA u 28 (z8).toNatClampNeg)) (by exact rfl) ?_
        refine bs_ne (tgt := 29) (X := ((fA u 28 (z8).toNatClampNeg)).toInt) hx hb dX11_heldNow_20 (by decide) rfl (fun c10 => ?_) (fun c10 => ?_)
        · obtain ⟨z11, ez11⟩ : ∃ z : Int32, z = c_k1 + Int32.ofInt 1 := ⟨_, rfl⟩
          have e12 : z11.toInt = (c_k1).toInt + 1 := by rw [ez11]; exact i_add rfl rfl (by omega)
          refine lv_iinc (v := z11) (lv' := [(2, .int z11), (1, .int s_k1), (0, .ref (a 0))]) hx hb dX11_heldNow_29 hl (k := 0) rfl ez11.symm (by decide) rfl (fun ls hl => ?_)
          refine lv_goto (tgt := 4) hx hb dX11_heldNow_32 (by decide) ?_
          exact ih_k1 _ _ _ (z11) (s_k1) hO (lv_sub hl [0, 1, 2] rfl) (by first | decide | omega) (by first | decide | omega) (by first | decide | omega) (by first | decide | omega)
        · refine lv_iload_n hx hb dX11_heldNow_23 rfl (lv_at hl 1 rfl) ?_
          refine lv_iconst (v := 1) hx hb dX11_heldNow_24 (by decide) ?_
          refine lv_iload_n hx hb dX11_heldNow_25 rfl (lv_at hl 0 rfl) ?_
          refine lv_ishl hx hb dX11_heldNow_26 ?_
          refine lv_topi (fun z13 ez13 => ?_)
          have g14 : 0 ≤ z13.toInt ∧ z13.toInt ≤ 2 ^ 5 := by rw [ez13]; exact i_shl1 rfl (by omega) (by omega) (by decide)
          refine lv_ior hx hb dX11_heldNow_27 ?_
          refine lv_topi (fun z15 ez15 => ?_)
          have g16 : 0 ≤ z15.toInt ∧ z15.toInt < 2 ^ 6 := by rw [ez15]; exact i_or rfl rfl (by omega) (by omega) (by decide)
          refine lv_istore_n (lv' := [(1, .int z15), (2, .int c_k1), (0, .ref (a 0))]) hx hb dX11_heldNow_28 rfl hl (by decide) rfl (fun ls hl => ?_)
          obtain ⟨z17, ez17⟩ : ∃ z : Int32, z = c_k1 + Int32.ofInt 1 := ⟨_, rfl⟩
          have e18 : z17.toInt = (c_k1).toInt + 1 := by rw [ez17]; exact i_add rfl rfl (by omega)
          refine lv_iinc (v := z17) (lv' := [(2, .int z17), (1, .int z15), (0, .ref (a 0))]) hx hb dX11_heldNow_29 hl (k := 1) rfl ez17.symm (by decide) rfl (fun ls hl => ?_)
          refine lv_goto (tgt := 4) hx hb dX11_heldNow_32 (by decide) ?_
          exact ih_k1 _ _ _ (z17) (z15) hO (lv_sub hl [0, 1, 2] rfl) (by first | decide | omega) (by first | decide | omega) (by first | decide | omega) (by first | decide | omega)
  have zc19 : (0 : Int32).toInt = 0 := rfl
  exact LP_4_k1 4000 _ _ _ (0) (0) hO (lv_sub hl [0, 1, 2] rfl) (by first | decide | omega) (by first | decide | omega) (by first | decide | omega) (by first | decide | omega)
theorem dX11_heldAt_0 : decode cX11_heldAt 0 = .ok (.iconst 0, 1) := by decide +kernel
theorem dX11_heldAt_1 : decode cX11_heldAt 1 = .ok (.istore_n 2, 1) := by decide +kernel
theorem dX11_heldAt_2 : decode cX11_heldAt 2 = .ok (.iconst 0, 1) := by decide +kernel
theorem dX11_heldAt_3 : decode cX11_heldAt 3 = .ok (.istore_n 3, 1) := by decide +kernel
theorem dX11_heldAt_4 : decode cX11_heldAt 4 = .ok (.iload_n 3, 1) := by decide +kernel
theorem dX11_heldAt_5 : decode cX11_heldAt 5 = .ok (.aload_n 0, 1) := by decide +kernel
theorem dX11_heldAt_6 : decode cX11_heldAt 6 = .ok (.invokevirtual 371, 3) := by decide +kernel
theorem dX11_heldAt_9 : decode cX11_heldAt 9 = .ok (.if_icmp .ge 35, 3) := by decide +kernel
theorem dX11_heldAt_12 : decode cX11_heldAt 12 = .ok (.aload_n 0, 1) := by decide +kernel
theorem dX11_heldAt_13 : decode cX11_heldAt 13 = .ok (.getfield 97, 3) := by decide +kernel
theorem dX11_heldAt_16 : decode cX11_heldAt 16 = .ok (.iconst 0, 1) := by decide +kernel
theorem dX11_heldAt_17 : decode cX11_heldAt 17 = .ok (.iload_n 3, 1) := by decide +kernel
theorem dX11_heldAt_18 : decode cX11_heldAt 18 = .ok (.iadd, 1) := by decide +kernel
theorem dX11_heldAt_19 : decode cX11_heldAt 19 = .ok (.iaload, 1) := by decide +kernel
theorem dX11_heldAt_20 : decode cX11_heldAt 20 = .ok (.ifCond .ne 18, 3) := by decide +kernel
theorem dX11_heldAt_23 : decode cX11_heldAt 23 = .ok (.aload_n 0, 1) := by decide +kernel
theorem dX11_heldAt_24 : decode cX11_heldAt 24 = .ok (.iload_n 3, 1) := by decide +kernel
theorem dX11_heldAt_25 : decode cX11_heldAt 25 = .ok (.invokevirtual 401, 3) := by decide +kernel
theorem dX11_heldAt_28 : decode cX11_heldAt 28 = .ok (.iload_n 1, 1) := by decide +kernel
theorem dX11_heldAt_29 : decode cX11_heldAt 29 = .ok (.if_icmp .ne 9, 3) := by decide +kernel
theorem dX11_heldAt_32 : decode cX11_heldAt 32 = .ok (.iload_n 2, 1) := by decide +kernel
theorem dX11_heldAt_33 : decode cX11_heldAt 33 = .ok (.iconst 1, 1) := by decide +kernel
theorem dX11_heldAt_34 : decode cX11_heldAt 34 = .ok (.iload_n 3, 1) := by decide +kernel
theorem dX11_heldAt_35 : decode cX11_heldAt 35 = .ok (.ishl, 1) := by decide +kernel
theorem dX11_heldAt_36 : decode cX11_heldAt 36 = .ok (.ior, 1) := by decide +kernel
theorem dX11_heldAt_37 : decode cX11_heldAt 37 = .ok (.istore_n 2, 1) := by decide +kernel
theorem dX11_heldAt_38 : decode cX11_heldAt 38 = .ok (.iinc 3 1, 3) := by decide +kernel
theorem dX11_heldAt_41 : decode cX11_heldAt 41 = .ok (.goto (-37), 3) := by decide +kernel
theorem dX11_heldAt_44 : decode cX11_heldAt 44 = .ok (.iload_n 2, 1) := by decide +kernel
theorem dX11_heldAt_45 : decode cX11_heldAt 45 = .ok (.ireturn, 1) := by decide +kernel
theorem wd_1732 : (Cond.code ⟨"WebCourtModel", "heldAt", "(I)I"⟩ prog_13_method_58_code (4 : Nat) (Option.some FieldType.int)) ∈ gtb := gtb_c7 183 (by decide +kernel) rfl
theorem wd_1733 : (Cond.methodLink "WebCourtModel" (401 : Nat) ⟨"WebCourtModel", "placeOf", "(I)I"⟩) ∈ gtb := gtb_c7 184 (by decide +kernel) rfl
theorem wd_1735 : (Cond.instanceMethod ⟨"WebCourtModel", "placeOf", "(I)I"⟩) ∈ gtb := gtb_c7 186 (by decide +kernel) rfl
theorem wd_80 : (Cond.selects "WebCourtModel" ⟨"WebCourtModel", "placeOf", "(I)I"⟩ ⟨"WebCourtModel", "placeOf", "(I)I"⟩) ∈ gtb := gtb_p 80 (by decide +kernel) rfl
theorem hd_yX11_placeOf : yX11_placeOf.cls = RX11 ∧ yX11_placeOf.cls ≠ "java/lang/invoke/MethodHandle" ∧ yX11_placeOf.cls ≠ "java/lang/invoke/VarHandle" ∧ (parseMethodDescriptor yX11_placeOf.desc).map (fun d => d.parameters.length) = some 1 := by decide +kernel
set_option maxHeartbeats 4000000 in
set_option maxRecDepth 100000 in
theorem T_X11_heldAt (l : Launch) (D : va_G) (cy : Nat → ClassId) (a : Nat → Nat) (u : St) (hJ : MI a u) (gm : Int32) (hgm : fA u 6 (fI u 0 36).toNatClampNeg = gm) (x1 : Int32)  : Mi l D cy (mW cy a) yX11_heldAt (.code yX11_heldAt cX11_heldAt 4 (some .int)) (rmo 1 21) [.ref (a 0), .int x1] u (fun (r : Int32) (u' : St) => (0 ≤ r.toInt ∧ r.toInt ≤ 63) ∧ (u' = u)) := by
  refine Mi.of (own := RX11) rfl (by decide) (Nat.le_of_ble_eq_true rfl) ?_
  have hT : Km0 u u := Km0.rf
  have hJ0 := hJ
  intro p e s m below meth c A Q ls C hret hO hl
  obtain ⟨hx, hb, hml, hown, ht, hK, hA⟩ := id C
  have hl : lv_has ls 4 [(0, .ref (a 0)), (1, .int x1)] := hl
  refine lv_iconst (v := 0) hx hb dX11_heldAt_0 (by decide) ?_
  refine lv_istore_n (lv' := [(2, .int 0), (0, .ref (a 0)), (1, .int x1)]) hx hb dX11_heldAt_1 rfl hl (by decide) rfl (fun ls hl => ?_)
  refine lv_iconst (v := 0) hx hb dX11_heldAt_2 (by decide) ?_
  refine lv_istore_n (lv' := [(3, .int 0), (2, .int 0), (0, .ref (a 0)), (1, .int x1)]) hx hb dX11_heldAt_3 rfl hl (by decide) rfl (fun ls hl => ?_)
  have LP_4_k1 : ∀ (n : Nat) (H : Heap) (locs : List Loc) (ls : Array Slot) (c_k1 : Int32) (s_k1 : Int32), Wo D A (mW cy a u) s.heap H locs → lv_has ls 4 [(3, .int c_k1), (2, .int s_k1), (0, .ref (a 0)), (1, .int x1)] → 0 ≤ c_k1.toInt ∧ c_k1.toInt ≤ 6 → 0 ≤ s_k1.toInt ∧ s_k1.toInt ≤ 63 → 6 - c_k1.toInt < (n : Int) → W p l e (rmo 1 21) s m [.ref (a 0), .int x1].toArray below meth c H locs 0 0 Q (F0 m 4 ls []) := by
    intro n
    induction n with
    | zero =>
      intro H locs ls c_k1 s_k1 hO hl iv0_k1 iv1_k1 hm_k1
      exact absurd hm_k1 (by omega)
    | succ n ih_k1 =>
      intro H locs ls c_k1 s_k1 hO hl iv0_k1 iv1_k1 hm_k1
      refine lv_iload_n hx hb dX11_heldAt_4 rfl (lv_at hl 0 rfl) ?_
      refine lv_aload_n hx hb dX11_heldAt_5 rfl (lv_at hl 2 rfl) ?_
      have g2 : 0 ≤ (fI u 0 36).toInt ∧ (fI u 0 36).toInt ≤ 1 := by have h := MI_36 hJ0; exact h
      have g3 : 0 ≤ gm.toInt ∧ gm.toInt ≤ 6 := by have h := MI_A6 hJ0 (fI u 0 36).toNatClampNeg; rw [hgm] at h; exact h
      refine cVi (w := mW cy a) (As := []) (rest := [.int c_k1]) C hO (T_X11_many l D cy a _ (by exact hJ) (gm) (by exact hgm)) (cwV 0 ht (gV wd_1348 wd_1350 wd_46 wd_121 wd_1351) rfl rfl rfl hd_yX11_many ⟨Nat.le_of_ble_eq_true rfl, Nat.le_of_ble_eq_true rfl⟩) 0 rfl mW_0 rfl rfl hl.1 (Nat.le_of_ble_eq_true rfl) dX11_heldAt_6 rfl ⟨Nat.zero_le _, Nat.zero_le _⟩ (fun r4 u5 H locs hp6 hO => ?_)
      obtain ⟨hr4, hu5⟩ := hp6
      refine tE hr4 ?_
      rw [hu5] at hO
      refine cs_ge (tgt := 44) (X := (c_k1).toInt) (Y := (gm).toInt) hx hb dX11_heldAt_9 (by decide) rfl rfl (fun c7 => ?_) (fun c7 => ?_)
      · refine lv_iload_n hx hb dX11_heldAt_44 rfl (lv_at hl 1 rfl) ?_
        refine hret _ _ _ _ _ _ dX11_heldAt_45 rfl ?_ hO
        exact ⟨(by first | decide | omega), rfl⟩
      · refine lv_aload_n hx hb dX11_heldAt_12 rfl (lv_at hl 2 rfl) ?_
        refine gf_RX11_97 (v := .ref (a 28)) C hO 0 mW_0 rfl dX11_heldAt_13 ?_
        refine lv_iconst (v := 0) hx hb dX11_heldAt_16 (by decide) ?_
        refine lv_iload_n hx hb dX11_heldAt_17 rfl (lv_at hl 0 rfl) ?_
        refine lv_iadd hx hb dX11_heldAt_18 ?_
        refine lv_topi (fun z8 ez8 => ?_)
        have e9 : z8.toInt = 0 + (c_k1).toInt := by rw [ez8]; exact i_add rfl rfl (by omega)
        refine aI C hO 28 mW_28 (i_in (X := (0 + (c_k1).toInt)) e9 (by omega) (by omega)) dX11_heldAt_19 ?_
        refine tE (y := (fA u 28 (z8).toNatClampNeg)) (by exact rfl) ?_
        refine bs_ne (tgt := 38) (X := ((fA u 28 (z8).toNatClampNeg)).toInt) hx hb dX11_heldAt_20 (by decide) rfl (fun c10 => ?_) (fun c10 => ?_)
        · obtain ⟨z11, ez11⟩ : ∃ z : Int32, z = c_k1 + Int32.ofInt 1 := ⟨_, rfl⟩
          have e12 : z11.toInt = (c_k1).toInt + 1 := by rw [ez11]; exact i_add rfl rfl (by omega)
          refine lv_iinc (v := z11) (lv' := [(3, .int z11), (2, .int s_k1), (0, .ref (a 0)), (1, .int x1)]) hx hb dX11_heldAt_38 hl (k := 0) rfl ez11.symm (by decide) rfl (fun ls hl => ?_)
          refine lv_goto (tgt := 4) hx hb dX11_heldAt_41 (by decide) ?_
          exact ih_k1 _ _ _ (z11) (s_k1) hO (lv_sub hl [0, 1, 2, 3] rfl) (by first | decide | omega) (by first | decide | omega) (by first | decide | omega)
        · refine lv_aload_n hx hb dX11_heldAt_23 rfl (lv_at hl 2 rfl) ?_
          refine lv_iload_n hx hb dX11_heldAt_24 rfl (lv_at hl 0 rfl) ?_
          refine cVi (w := mW cy a) (As := [.int c_k1]) (rest := []) C hO (T_X11_placeOf l D cy a _ (by exact hJ) (c_k1) (by first | omega | decide)) (cwV 1 ht (gV wd_1733 wd_1735 wd_80 wd_121 wd_1736) rfl rfl rfl hd_yX11_placeOf ⟨Nat.le_of_ble_eq_true rfl, Nat.le_of_ble_eq_true rfl⟩) 0 rfl mW_0 rfl rfl hl.1 (Nat.le_of_ble_eq_true rfl) dX11_heldAt_25 rfl ⟨Nat.zero_le _, Nat.zero_le _⟩ (fun r13 u14 H locs hp15 hO => ?_)
          obtain ⟨hr13, hu14⟩ := hp15
          rw [hu14] at hO
          refine lv_iload_n hx hb dX11_heldAt_28 rfl (lv_at hl 3 rfl) ?_
          refine cs_ne (tgt := 38) (X := (r13).toInt) (Y := (x1).toInt) hx hb dX11_heldAt_29 (by decide) rfl rfl (fun c16 => ?_) (fun c16 => ?_)
          · obtain ⟨z17, ez17⟩ : ∃ z : Int32, z = c_k1 + Int32.ofInt 1 := ⟨_, rfl⟩
            have e18 : z17.toInt = (c_k1).toInt + 1 := by rw [ez17]; exact i_add rfl rfl (by omega)
            refine lv_iinc (v := z17) (lv' := [(3, .int z17), (2, .int s_k1), (0, .ref (a 0)), (1, .int x1)]) hx hb dX11_heldAt_38 hl (k := 0) rfl ez17.symm (by decide) rfl (fun ls hl => ?_)
            refine lv_goto (tgt := 4) hx hb dX11_heldAt_41 (by decide) ?_
            exact ih_k1 _ _ _ (z17) (s_k1) hO (lv_sub hl [0, 1, 2, 3] rfl) (by first | decide | omega) (by first | decide | omega) (by first | decide | omega)
          · refine lv_iload_n hx hb dX11_heldAt_32 rfl (lv_at hl 1 rfl) ?_
            refine lv_iconst (v := 1) hx hb dX11_heldAt_33 (by decide) ?_
            refine lv_iload_n hx hb dX11_heldAt_34 rfl (lv_at hl 0 rfl) ?_
            refine lv_ishl hx hb dX11_heldAt_35 ?_
            refine lv_topi (fun z19 ez19 => ?_)
            have g20 : 0 ≤ z19.toInt ∧ z19.toInt ≤ 2 ^ 5 := by rw [ez19]; exact i_shl1 rfl (by omega) (by omega) (by decide)
            refine lv_ior hx hb dX11_heldAt_36 ?_
            refine lv_topi (fun z21 ez21 => ?_)
            have g22 : 0 ≤ z21.toInt ∧ z21.toInt < 2 ^ 6 := by rw [ez21]; exact i_or rfl rfl (by omega) (by omega) (by decide)
            refine lv_istore_n (lv' := [(2, .int z21), (3, .int c_k1), (0, .ref (a 0)), (1, .int x1)]) hx hb dX11_heldAt_37 rfl hl (by decide) rfl (fun ls hl => ?_)
            obtain ⟨z23, ez23⟩ : ∃ z : Int32, z = c_k1 + Int32.ofInt 1 := ⟨_, rfl⟩
            have e24 : z23.toInt = (c_k1).toInt + 1 := by rw [ez23]; exact i_add rfl rfl (by omega)
            refine lv_iinc (v := z23) (lv' := [(3, .int z23), (2, .int z21), (0, .ref (a 0)), (1, .int x1)]) hx hb dX11_heldAt_38 hl (k := 1) rfl ez23.symm (by decide) rfl (fun ls hl => ?_)
            refine lv_goto (tgt := 4) hx hb dX11_heldAt_41 (by decide) ?_
            exact ih_k1 _ _ _ (z23) (z21) hO (lv_sub hl [0, 1, 2, 3] rfl) (by first | decide | omega) (by first | decide | omega) (by first | decide | omega)
  have zc25 : (0 : Int32).toInt = 0 := rfl
  exact LP_4_k1 4000 _ _ _ (0) (0) hO (lv_sub hl [0, 1, 2, 3] rfl) (by first | decide | omega) (by first | decide | omega) (by first | decide | omega)
theorem dX11_kinOf_0 : decode cX11_kinOf 0 = .ok (.aload_n 0, 1) := by decide +kernel
theorem dX11_kinOf_1 : decode cX11_kinOf 1 = .ok (.aload_n 0, 1) := by decide +kernel
theorem dX11_kinOf_2 : decode cX11_kinOf 2 = .ok (.iload_n 1, 1) := by decide +kernel
theorem dX11_kinOf_3 : decode cX11_kinOf 3 = .ok (.invokevirtual 401, 3) := by decide +kernel
theorem dX11_kinOf_6 : decode cX11_kinOf 6 = .ok (.invokevirtual 404, 3) := by decide +kernel
theorem dX11_kinOf_9 : decode cX11_kinOf 9 = .ok (.iconst 1, 1) := by decide +kernel
theorem dX11_kinOf_10 : decode cX11_kinOf 10 = .ok (.iload_n 1, 1) := by decide +kernel
theorem dX11_kinOf_11 : decode cX11_kinOf 11 = .ok (.ishl, 1) := by decide +kernel
theorem dX11_kinOf_12 : decode cX11_kinOf 12 = .ok (.iconst (-1), 1) := by decide +kernel
theorem dX11_kinOf_13 : decode cX11_kinOf 13 = .ok (.ixor, 1) := by decide +kernel
theorem dX11_kinOf_14 : decode cX11_kinOf 14 = .ok (.iand, 1) := by decide +kernel
theorem dX11_kinOf_15 : decode cX11_kinOf 15 = .ok (.invokestatic 316, 3) := by decide +kernel
theorem dX11_kinOf_18 : decode cX11_kinOf 18 = .ok (.ireturn, 1) := by decide +kernel
theorem wd_1784 : (Cond.code ⟨"WebCourtModel", "kinOf", "(I)I"⟩ prog_13_method_59_code (2 : Nat) (Option.some FieldType.int)) ∈ gtb := gtb_c7 235 (by decide +kernel) rfl
theorem wd_1729 : (Cond.methodLink "WebCourtModel" (404 : Nat) ⟨"WebCourtModel", "heldAt", "(I)I"⟩) ∈ gtb := gtb_c7 180 (by decide +kernel) rfl
theorem wd_1731 : (Cond.instanceMethod ⟨"WebCourtModel", "heldAt", "(I)I"⟩) ∈ gtb := gtb_c7 182 (by decide +kernel) rfl
theorem wd_79 : (Cond.selects "WebCourtModel" ⟨"WebCourtModel", "heldAt", "(I)I"⟩ ⟨"WebCourtModel", "heldAt", "(I)I"⟩) ∈ gtb := gtb_p 79 (by decide +kernel) rfl
theorem hd_yX11_heldAt : yX11_heldAt.cls = RX11 ∧ yX11_heldAt.cls ≠ "java/lang/invoke/MethodHandle" ∧ yX11_heldAt.cls ≠ "java/lang/invoke/VarHandle" ∧ (parseMethodDescriptor yX11_heldAt.desc).map (fun d => d.parameters.length) = some 1 := by decide +kernel
theorem wd_1663 : (Cond.methodLink "WebCourtModel" (316 : Nat) ⟨"WebCourtModel", "bitsOf", "(I)I"⟩) ∈ gtb := gtb_c7 114 (by decide +kernel) rfl
theorem wd_1664 : (Cond.static ⟨"WebCourtModel", "bitsOf", "(I)I"⟩) ∈ gtb := gtb_c7 115 (by decide +kernel) rfl
theorem hd_yX11_bitsOf : yX11_bitsOf.cls ≠ "java/lang/invoke/MethodHandle" ∧ yX11_bitsOf.cls ≠ "java/lang/invoke/VarHandle" ∧ (parseMethodDescriptor yX11_bitsOf.desc).map (fun d => d.parameters.length) = some 1 := by decide +kernel
set_option maxHeartbeats 4000000 in
set_option maxRecDepth 100000 in
theorem T_X11_kinOf (l : Launch) (D : va_G) (cy : Nat → ClassId) (a : Nat → Nat) (u : St) (hJ : MI a u) (x1 : Int32) (hx_x1 : 0 ≤ x1.toInt ∧ x1.toInt ≤ 5) : Mi l D cy (mW cy a) yX11_kinOf (.code yX11_kinOf cX11_kinOf 2 (some .int)) (rmo 2 44) [.ref (a 0), .int x1] u (fun (r : Int32) (u' : St) => u' = u) := by
  refine Mi.of (own := RX11) rfl (by decide) (Nat.le_of_ble_eq_true rfl) ?_
  have hT : Km0 u u := Km0.rf
  have hJ0 := hJ
  intro p e s m below meth c A Q ls C hret hO hl
  obtain ⟨hx, hb, hml, hown, ht, hK, hA⟩ := id C
  have hl : lv_has ls 2 [(0, .ref (a 0)), (1, .int x1)] := hl
  refine lv_aload_n hx hb dX11_kinOf_0 rfl (lv_at hl 0 rfl) ?_
  refine lv_aload_n hx hb dX11_kinOf_1 rfl (lv_at hl 0 rfl) ?_
  refine lv_iload_n hx hb dX11_kinOf_2 rfl (lv_at hl 1 rfl) ?_
  refine cVi (w := mW cy a) (As := [.int x1]) (rest := [.ref (a 0)]) C hO (T_X11_placeOf l D cy a _ (by exact hJ) (x1) (by first | omega | decide)) (cwV 1 ht (gV wd_1733 wd_1735 wd_80 wd_121 wd_1736) rfl rfl rfl hd_yX11_placeOf ⟨Nat.le_of_ble_eq_true rfl, Nat.le_of_ble_eq_true rfl⟩) 0 rfl mW_0 rfl rfl hl.1 (Nat.le_of_ble_eq_true rfl) dX11_kinOf_3 rfl ⟨Nat.zero_le _, Nat.zero_le _⟩ (fun r1 u2 H locs hp3 hO => ?_)
  obtain ⟨hr1, hu2⟩ := hp3
  rw [hu2] at hO
  have g4 : 0 ≤ (fI u 0 36).toInt ∧ (fI u 0 36).toInt ≤ 1 := by have h := MI_36 hJ0; exact h
  have g5 : 0 ≤ (fA u 6 ((fI u 0 36)).toNatClampNeg).toInt ∧ (fA u 6 ((fI u 0 36)).toNatClampNeg).toInt ≤ 6 := by have h := MI_A6 hJ0 ((fI u 0 36)).toNatClampNeg; exact h
  refine cVi (w := mW cy a) (As := [.int r1]) (rest := []) C hO (T_X11_heldAt l D cy a _ (by exact hJ) ((fA u 6 ((fI u 0 36)).toNatClampNeg)) (by exact rfl) (r1)) (cwV 1 ht (gV wd_1729 wd_1731 wd_79 wd_121 wd_1732) rfl rfl rfl hd_yX11_heldAt ⟨Nat.le_of_ble_eq_true rfl, Nat.le_of_ble_eq_true rfl⟩) 0 rfl mW_0 rfl rfl hl.1 (Nat.le_of_ble_eq_true rfl) dX11_kinOf_6 rfl ⟨Nat.zero_le _, Nat.zero_le _⟩ (fun r6 u7 H locs hp8 hO => ?_)
  obtain ⟨hr6, hu7⟩ := hp8
  rw [hu7] at hO
  refine lv_iconst (v := 1) hx hb dX11_kinOf_9 (by decide) ?_
  refine lv_iload_n hx hb dX11_kinOf_10 rfl (lv_at hl 1 rfl) ?_
  refine lv_ishl hx hb dX11_kinOf_11 ?_
  refine lv_topi (fun z9 ez9 => ?_)
  have g10 : 0 ≤ z9.toInt ∧ z9.toInt ≤ 2 ^ 5 := by rw [ez9]; exact i_shl1 rfl (by omega) (by omega) (by decide)
  refine lv_iconst (v := (-1)) hx hb dX11_kinOf_12 (by decide) ?_
  refine lv_ixor hx hb dX11_kinOf_13 ?_
  refine lv_topi (fun z11 ez11 => ?_)
  refine lv_iand hx hb dX11_kinOf_14 ?_
  refine lv_topi (fun z12 ez12 => ?_)
  have g13 : 0 ≤ z12.toInt ∧ z12.toInt ≤ (r6).toInt := by rw [ez12]; exact i_andl rfl (by omega)
  refine cSi (w := mW cy a) (As := [.int z12]) (rest := []) C hO (T_X11_bitsOf_8 l D cy a _ (by exact hJ) (z12) (by first | omega | decide)) (va_cwS 1 ht (gSS wd_1663 wd_1664 wd_121 wd_1665) rfl rfl rfl hd_yX11_bitsOf ⟨Nat.le_of_ble_eq_true rfl, Nat.le_of_ble_eq_true rfl⟩)  rfl hl.1 (Nat.le_of_ble_eq_true rfl) dX11_kinOf_15 rfl ⟨Nat.zero_le _, Nat.zero_le _⟩ (fun r14 u15 H locs hp16 hO => ?_)
  obtain ⟨hr14, hu15⟩ := hp16
  rw [hu15] at hO
  have gpr14 := pc8_b (x := (z12 : Int32).toInt) (by omega) (by omega)
  have gr14 : 0 ≤ r14.toInt ∧ r14.toInt ≤ 6 := by omega
  refine hret _ _ _ _ _ _ dX11_kinOf_18 rfl ?_ hO
  exact rfl
theorem dX11_nextTo_0 : decode cX11_nextTo 0 = .ok (.iconst 0, 1) := by decide +kernel
theorem dX11_nextTo_1 : decode cX11_nextTo 1 = .ok (.istore_n 3, 1) := by decide +kernel
theorem dX11_nextTo_2 : decode cX11_nextTo 2 = .ok (.iconst 0, 1) := by decide +kernel
theorem dX11_nextTo_3 : decode cX11_nextTo 3 = .ok (.istore 4, 2) := by decide +kernel
theorem dX11_nextTo_5 : decode cX11_nextTo 5 = .ok (.iload 4, 2) := by decide +kernel
theorem dX11_nextTo_7 : decode cX11_nextTo 7 = .ok (.aload_n 0, 1) := by decide +kernel
theorem dX11_nextTo_8 : decode cX11_nextTo 8 = .ok (.getfield 24, 3) := by decide +kernel
theorem dX11_nextTo_11 : decode cX11_nextTo 11 = .ok (.aload_n 0, 1) := by decide +kernel
theorem dX11_nextTo_12 : decode cX11_nextTo 12 = .ok (.getfield 255, 3) := by decide +kernel
theorem dX11_nextTo_15 : decode cX11_nextTo 15 = .ok (.iaload, 1) := by decide +kernel
theorem dX11_nextTo_16 : decode cX11_nextTo 16 = .ok (.if_icmp .ge 86, 3) := by decide +kernel
theorem dX11_nextTo_19 : decode cX11_nextTo 19 = .ok (.bipush 14, 2) := by decide +kernel
theorem dX11_nextTo_21 : decode cX11_nextTo 21 = .ok (.aload_n 0, 1) := by decide +kernel
theorem dX11_nextTo_22 : decode cX11_nextTo 22 = .ok (.getfield 255, 3) := by decide +kernel
theorem dX11_nextTo_25 : decode cX11_nextTo 25 = .ok (.imul, 1) := by decide +kernel
theorem dX11_nextTo_26 : decode cX11_nextTo 26 = .ok (.iload 4, 2) := by decide +kernel
theorem dX11_nextTo_28 : decode cX11_nextTo 28 = .ok (.iadd, 1) := by decide +kernel
theorem dX11_nextTo_29 : decode cX11_nextTo 29 = .ok (.istore 5, 2) := by decide +kernel
theorem dX11_nextTo_31 : decode cX11_nextTo 31 = .ok (.aload_n 0, 1) := by decide +kernel
theorem dX11_nextTo_32 : decode cX11_nextTo 32 = .ok (.getfield 97, 3) := by decide +kernel
theorem dX11_nextTo_35 : decode cX11_nextTo 35 = .ok (.bipush 28, 2) := by decide +kernel
theorem dX11_nextTo_37 : decode cX11_nextTo 37 = .ok (.iaload, 1) := by decide +kernel
theorem dX11_nextTo_38 : decode cX11_nextTo 38 = .ok (.iload 4, 2) := by decide +kernel
theorem dX11_nextTo_40 : decode cX11_nextTo 40 = .ok (.invokestatic 264, 3) := by decide +kernel
theorem dX11_nextTo_43 : decode cX11_nextTo 43 = .ok (.iload_n 2, 1) := by decide +kernel
theorem dX11_nextTo_44 : decode cX11_nextTo 44 = .ok (.if_icmp .eq 6, 3) := by decide +kernel
theorem dX11_nextTo_47 : decode cX11_nextTo 47 = .ok (.goto 49, 3) := by decide +kernel
theorem dX11_nextTo_50 : decode cX11_nextTo 50 = .ok (.aload_n 0, 1) := by decide +kernel
theorem dX11_nextTo_51 : decode cX11_nextTo 51 = .ok (.getfield 51, 3) := by decide +kernel
theorem dX11_nextTo_54 : decode cX11_nextTo 54 = .ok (.iload 5, 2) := by decide +kernel
theorem dX11_nextTo_56 : decode cX11_nextTo 56 = .ok (.iaload, 1) := by decide +kernel
theorem dX11_nextTo_57 : decode cX11_nextTo 57 = .ok (.iload_n 1, 1) := by decide +kernel
theorem dX11_nextTo_58 : decode cX11_nextTo 58 = .ok (.if_icmp .ne 15, 3) := by decide +kernel
theorem dX11_nextTo_61 : decode cX11_nextTo 61 = .ok (.iload_n 3, 1) := by decide +kernel
theorem dX11_nextTo_62 : decode cX11_nextTo 62 = .ok (.iconst 1, 1) := by decide +kernel
theorem dX11_nextTo_63 : decode cX11_nextTo 63 = .ok (.aload_n 0, 1) := by decide +kernel
theorem dX11_nextTo_64 : decode cX11_nextTo 64 = .ok (.getfield 54, 3) := by decide +kernel
theorem dX11_nextTo_67 : decode cX11_nextTo 67 = .ok (.iload 5, 2) := by decide +kernel
theorem dX11_nextTo_69 : decode cX11_nextTo 69 = .ok (.iaload, 1) := by decide +kernel
theorem dX11_nextTo_70 : decode cX11_nextTo 70 = .ok (.ishl, 1) := by decide +kernel
theorem dX11_nextTo_71 : decode cX11_nextTo 71 = .ok (.ior, 1) := by decide +kernel
theorem dX11_nextTo_72 : decode cX11_nextTo 72 = .ok (.istore_n 3, 1) := by decide +kernel
theorem dX11_nextTo_73 : decode cX11_nextTo 73 = .ok (.aload_n 0, 1) := by decide +kernel
theorem dX11_nextTo_74 : decode cX11_nextTo 74 = .ok (.getfield 54, 3) := by decide +kernel
theorem dX11_nextTo_77 : decode cX11_nextTo 77 = .ok (.iload 5, 2) := by decide +kernel
theorem dX11_nextTo_79 : decode cX11_nextTo 79 = .ok (.iaload, 1) := by decide +kernel
theorem dX11_nextTo_80 : decode cX11_nextTo 80 = .ok (.iload_n 1, 1) := by decide +kernel
theorem dX11_nextTo_81 : decode cX11_nextTo 81 = .ok (.if_icmp .ne 15, 3) := by decide +kernel
theorem dX11_nextTo_84 : decode cX11_nextTo 84 = .ok (.iload_n 3, 1) := by decide +kernel
theorem dX11_nextTo_85 : decode cX11_nextTo 85 = .ok (.iconst 1, 1) := by decide +kernel
theorem dX11_nextTo_86 : decode cX11_nextTo 86 = .ok (.aload_n 0, 1) := by decide +kernel
theorem dX11_nextTo_87 : decode cX11_nextTo 87 = .ok (.getfield 51, 3) := by decide +kernel
theorem dX11_nextTo_90 : decode cX11_nextTo 90 = .ok (.iload 5, 2) := by decide +kernel
theorem dX11_nextTo_92 : decode cX11_nextTo 92 = .ok (.iaload, 1) := by decide +kernel
theorem dX11_nextTo_93 : decode cX11_nextTo 93 = .ok (.ishl, 1) := by decide +kernel
theorem dX11_nextTo_94 : decode cX11_nextTo 94 = .ok (.ior, 1) := by decide +kernel
theorem dX11_nextTo_95 : decode cX11_nextTo 95 = .ok (.istore_n 3, 1) := by decide +kernel
theorem dX11_nextTo_96 : decode cX11_nextTo 96 = .ok (.iinc 4 1, 3) := by decide +kernel
theorem dX11_nextTo_99 : decode cX11_nextTo 99 = .ok (.goto (-94), 3) := by decide +kernel
theorem dX11_nextTo_102 : decode cX11_nextTo 102 = .ok (.iload_n 3, 1) := by decide +kernel
theorem dX11_nextTo_103 : decode cX11_nextTo 103 = .ok (.ireturn, 1) := by decide +kernel
theorem wd_1728 : (Cond.code ⟨"WebCourtModel", "nextTo", "(IZ)I"⟩ prog_13_method_64_code (6 : Nat) (Option.some FieldType.int)) ∈ gtb := gtb_c7 179 (by decide +kernel) rfl
theorem wd_1368 : (Cond.fieldLink "WebCourtModel" (24 : Nat) "WebCourtModel" "lines" "[I") ∈ gtb := gtb_c6 59 (by decide +kernel) rfl
theorem gf_RX11_24 {p : Program} {l : Launch} {e : Env} {R : Room} {s : State} {m : MethodId} {args : Array Value} {below : List Frame} {meth : Method} {c : Code} {H : Heap} {locs : List Loc} {cells slots : Nat} {Q : State → Prop} {cc : ByteArray} {pc nL : Nat} {ls : Array Slot} {rest : List Value} {D : va_G} {cy : Nat → ClassId} {A : Nat → Prop} {ws : va_W} {b : Nat} {fs : List Value} {v : Value} (C : Cx p s m args c cc nL RX11 D cy A) (hO : Wo D A ws s.heap H locs) (q0 : Nat) (he : ws[q0]? = some (b, .inr (11, fs))) (hv : fs[12]? = some v) (hdg : decode cc pc = .ok (.getfield 24, 3)) (kk : W p l e R s m args below meth c H locs cells slots Q (F0 m (pc + 3) ls (v :: rest))) : W p l e R s m args below meth c H locs cells slots Q (F0 m pc ls (.ref b :: rest)) := gF (k := 12) C hO q0 he rfl inFX11 (by decide) wd_1368 rfl hv hdg kk
theorem wd_1377 : (Cond.fieldLink "WebCourtModel" (51 : Nat) "WebCourtModel" "oneEnd" "[I") ∈ gtb := gtb_c6 68 (by decide +kernel) rfl
theorem gf_RX11_51 {p : Program} {l : Launch} {e : Env} {R : Room} {s : State} {m : MethodId} {args : Array Value} {below : List Frame} {meth : Method} {c : Code} {H : Heap} {locs : List Loc} {cells slots : Nat} {Q : State → Prop} {cc : ByteArray} {pc nL : Nat} {ls : Array Slot} {rest : List Value} {D : va_G} {cy : Nat → ClassId} {A : Nat → Prop} {ws : va_W} {b : Nat} {fs : List Value} {v : Value} (C : Cx p s m args c cc nL RX11 D cy A) (hO : Wo D A ws s.heap H locs) (q0 : Nat) (he : ws[q0]? = some (b, .inr (11, fs))) (hv : fs[21]? = some v) (hdg : decode cc pc = .ok (.getfield 51, 3)) (kk : W p l e R s m args below meth c H locs cells slots Q (F0 m (pc + 3) ls (v :: rest))) : W p l e R s m args below meth c H locs cells slots Q (F0 m pc ls (.ref b :: rest)) := gF (k := 21) C hO q0 he rfl inFX11 (by decide) wd_1377 rfl hv hdg kk
theorem wd_1378 : (Cond.fieldLink "WebCourtModel" (54 : Nat) "WebCourtModel" "otherEnd" "[I") ∈ gtb := gtb_c6 69 (by decide +kernel) rfl
theorem gf_RX11_54 {p : Program} {l : Launch} {e : Env} {R : Room} {s : State} {m : MethodId} {args : Array Value} {below : List Frame} {meth : Method} {c : Code} {H : Heap} {locs : List Loc} {cells slots : Nat} {Q : State → Prop} {cc : ByteArray} {pc nL : Nat} {ls : Array Slot} {rest : List Value} {D : va_G} {cy : Nat → ClassId} {A : Nat → Prop} {ws : va_W} {b : Nat} {fs : List Value} {v : Value} (C : Cx p s m args c cc nL RX11 D cy A) (hO : Wo D A ws s.heap H locs) (q0 : Nat) (he : ws[q0]? = some (b, .inr (11, fs))) (hv : fs[22]? = some v) (hdg : decode cc pc = .ok (.getfield 54, 3)) (kk : W p l e R s m args below meth c H locs cells slots Q (F0 m (pc + 3) ls (v :: rest))) : W p l e R s m args below meth c H locs cells slots Q (F0 m pc ls (.ref b :: rest)) := gF (k := 22) C hO q0 he rfl inFX11 (by decide) wd_1378 rfl hv hdg kk
set_option maxHeartbeats 4000000 in
set_option maxRecDepth 100000 in
theorem T_X11_nextTo (l : Launch) (D : va_G) (cy : Nat → ClassId) (a : Nat → Nat) (u : St) (hJ : MI a u) (x1 : Int32) (x2 : Int32)  : Mi l D cy (mW cy a) yX11_nextTo (.code yX11_nextTo cX11_nextTo 6 (some .int)) (rmo 1 21) [.ref (a 0), .int x1, .int x2] u (fun (r : Int32) (u' : St) => u' = u) := by
  refine Mi.of (own := RX11) rfl (by decide) (Nat.le_of_ble_eq_true rfl) ?_
  have hT : Km0 u u := Km0.rf
  have hJ0 := hJ
  intro p e s m below meth c A Q ls C hret hO hl
  obtain ⟨hx, hb, hml, hown, ht, hK, hA⟩ := id C
  have hl : lv_has ls 6 [(0, .ref (a 0)), (1, .int x1), (2, .int x2)] := hl
  refine lv_iconst (v := 0) hx hb dX11_nextTo_0 (by decide) ?_
  refine lv_istore_n (lv' := [(3, .int 0), (0, .ref (a 0)), (1, .int x1), (2, .int x2)]) hx hb dX11_nextTo_1 rfl hl (by decide) rfl (fun ls hl => ?_)
  refine lv_iconst (v := 0) hx hb dX11_nextTo_2 (by decide) ?_
  refine lv_istore (lv' := [(4, .int 0), (3, .int 0), (0, .ref (a 0)), (1, .int x1), (2, .int x2)]) hx hb dX11_nextTo_3 hl (by decide) rfl (fun ls hl => ?_)
  have LP_5_k1 : ∀ (n : Nat) (H : Heap) (locs : List Loc) (ls : Array Slot) (n_k1 : Int32) (s_k1 : Int32), Wo D A (mW cy a u) s.heap H locs → lv_has ls 6 [(4, .int n_k1), (3, .int s_k1), (0, .ref (a 0)), (1, .int x1), (2, .int x2)] → 0 ≤ n_k1.toInt ∧ n_k1.toInt ≤ 14 → 14 - n_k1.toInt < (n : Int) → W p l e (rmo 1 21) s m [.ref (a 0), .int x1, .int x2].toArray below meth c H locs 0 0 Q (F0 m 5 ls []) := by
    intro n
    induction n with
    | zero =>
      intro H locs ls n_k1 s_k1 hO hl iv0_k1 hm_k1
      exact absurd hm_k1 (by omega)
    | succ n ih_k1 =>
      intro H locs ls n_k1 s_k1 hO hl iv0_k1 hm_k1
      refine lv_iload hx hb dX11_nextTo_5 (lv_at hl 0 rfl) ?_
      refine lv_aload_n hx hb dX11_nextTo_7 rfl (lv_at hl 2 rfl) ?_
      refine gf_RX11_24 (v := .ref (a 4)) C hO 0 mW_0 rfl dX11_nextTo_8 ?_
      refine lv_aload_n hx hb dX11_nextTo_11 rfl (lv_at hl 2 rfl) ?_
      have g2 : 0 ≤ (fI u 0 36).toInt ∧ (fI u 0 36).toInt ≤ 1 := by have h := MI_36 hJ0; exact h
      refine gf_RX11_255 (v := .int (fI u 0 36)) C hO 0 mW_0 rfl dX11_nextTo_12 ?_
      refine aI C hO 4 mW_4 (i_in (X := ((fI u 0 36)).toInt) rfl (by omega) (by omega)) dX11_nextTo_15 ?_
      have g3 : 0 ≤ (fA u 4 ((fI u 0 36)).toNatClampNeg).toInt ∧ (fA u 4 ((fI u 0 36)).toNatClampNeg).toInt ≤ 14 := by have h := MI_A4 hJ0 ((fI u 0 36)).toNatClampNeg; exact h
      refine tE (y := (fA u 4 ((fI u 0 36)).toNatClampNeg)) (by exact rfl) ?_
      refine cs_ge (tgt := 102) (X := (n_k1).toInt) (Y := ((fA u 4 ((fI u 0 36)).toNatClampNeg)).toInt) hx hb dX11_nextTo_16 (by decide) rfl rfl (fun c4 => ?_) (fun c4 => ?_)
      · refine lv_iload_n hx hb dX11_nextTo_102 rfl (lv_at hl 1 rfl) ?_
        refine hret _ _ _ _ _ _ dX11_nextTo_103 rfl ?_ hO
        exact rfl
      · refine lv_bipush (v := 14) hx hb dX11_nextTo_19 (by decide) ?_
        refine lv_aload_n hx hb dX11_nextTo_21 rfl (lv_at hl 2 rfl) ?_
        refine gf_RX11_255 (v := .int (fI u 0 36)) C hO 0 mW_0 rfl dX11_nextTo_22 ?_
        refine lv_imul hx hb dX11_nextTo_25 ?_
        refine lv_topi (fun z5 ez5 => ?_)
        have e6 : z5.toInt = 14 * ((fI u 0 36)).toInt := by rw [ez5]; exact i_mul rfl rfl (by omega)
        refine lv_iload hx hb dX11_nextTo_26 (lv_at hl 0 rfl) ?_
        refine lv_iadd hx hb dX11_nextTo_28 ?_
        refine lv_topi (fun z7 ez7 => ?_)
        have e8 : z7.toInt = (14 * ((fI u 0 36)).toInt) + (n_k1).toInt := by rw [ez7]; exact i_add e6 rfl (by omega)
        refine lv_istore (lv' := [(5, .int z7), (4, .int n_k1), (3, .int s_k1), (0, .ref (a 0)), (1, .int x1), (2, .int x2)]) hx hb dX11_nextTo_29 hl (by decide) rfl (fun ls hl => ?_)
        refine lv_aload_n hx hb dX11_nextTo_31 rfl (lv_at hl 3 rfl) ?_
        refine gf_RX11_97 (v := .ref (a 28)) C hO 0 mW_0 rfl dX11_nextTo_32 ?_
        refine lv_bipush (v := 28) hx hb dX11_nextTo_35 (by decide) ?_
        refine aI C hO 28 mW_28 (i_in (X := 28) rfl (by omega) (by omega)) dX11_nextTo_37 ?_
        refine tE (y := (fA u 28 28)) (by exact rfl) ?_
        refine lv_iload hx hb dX11_nextTo_38 (lv_at hl 1 rfl) ?_
        refine cSi (w := mW cy a) (As := [.int (fA u 28 28), .int n_k1]) (rest := []) C hO (T_X11_bit l D cy a _ (by exact hJ) ((fA u 28 28)) (n_k1)) (va_cwS 2 ht (gSS wd_1612 wd_1613 wd_121 wd_1614) rfl rfl rfl hd_yX11_bit ⟨Nat.le_of_ble_eq_true rfl, Nat.le_of_ble_eq_true rfl⟩)  rfl hl.1 (Nat.le_of_ble_eq_true rfl) dX11_nextTo_40 rfl ⟨Nat.zero_le _, Nat.zero_le _⟩ (fun r9 u10 H locs hp11 hO => ?_)
        obtain ⟨hr9, hu10⟩ := hp11
        rw [hu10] at hO
        obtain ⟨hr9, hbr9⟩ := hr9
        have gr9 : 0 ≤ r9.toInt ∧ r9.toInt ≤ 1 := by rcases hr9 with h | h <;> rw [h] <;> decide
        refine lv_iload_n hx hb dX11_nextTo_43 rfl (lv_at hl 5 rfl) ?_
        refine cs_eq (tgt := 50) (X := (r9).toInt) (Y := (x2).toInt) hx hb dX11_nextTo_44 (by decide) rfl rfl (fun c12 => ?_) (fun c12 => ?_)
        · refine lv_aload_n hx hb dX11_nextTo_50 rfl (lv_at hl 3 rfl) ?_
          refine gf_RX11_51 (v := .ref (a 13)) C hO 0 mW_0 rfl dX11_nextTo_51 ?_
          refine lv_iload hx hb dX11_nextTo_54 (lv_at hl 0 rfl) ?_
          refine aI C hO 13 mW_13 (i_in (X := ((14 * ((fI u 0 36)).toInt) + (n_k1).toInt)) e8 (by omega) (by omega)) dX11_nextTo_56 ?_
          have g13 : 0 ≤ (fA u 13 (z7).toNatClampNeg).toInt ∧ (fA u 13 (z7).toNatClampNeg).toInt ≤ 7 := by have h := MI_A13 hJ0 (z7).toNatClampNeg; exact h
          refine tE (y := (fA u 13 (z7).toNatClampNeg)) (by exact rfl) ?_
          refine lv_iload_n hx hb dX11_nextTo_57 rfl (lv_at hl 4 rfl) ?_
          refine cs_ne (tgt := 73) (X := ((fA u 13 (z7).toNatClampNeg)).toInt) (Y := (x1).toInt) hx hb dX11_nextTo_58 (by decide) rfl rfl (fun c14 => ?_) (fun c14 => ?_)
          · refine lv_aload_n hx hb dX11_nextTo_73 rfl (lv_at hl 3 rfl) ?_
            refine gf_RX11_54 (v := .ref (a 14)) C hO 0 mW_0 rfl dX11_nextTo_74 ?_
            refine lv_iload hx hb dX11_nextTo_77 (lv_at hl 0 rfl) ?_
            refine aI C hO 14 mW_14 (i_in (X := ((14 * ((fI u 0 36)).toInt) + (n_k1).toInt)) e8 (by omega) (by omega)) dX11_nextTo_79 ?_
            have g15 : 0 ≤ (fA u 14 (z7).toNatClampNeg).toInt ∧ (fA u 14 (z7).toNatClampNeg).toInt ≤ 7 := by have h := MI_A14 hJ0 (z7).toNatClampNeg; exact h
            refine tE (y := (fA u 14 (z7).toNatClampNeg)) (by exact rfl) ?_
            refine lv_iload_n hx hb dX11_nextTo_80 rfl (lv_at hl 4 rfl) ?_
            refine cs_ne (tgt := 96) (X := ((fA u 14 (z7).toNatClampNeg)).toInt) (Y := (x1).toInt) hx hb dX11_nextTo_81 (by decide) rfl rfl (fun c16 => ?_) (fun c16 => ?_)
            · obtain ⟨z17, ez17⟩ : ∃ z : Int32, z = n_k1 + Int32.ofInt 1 := ⟨_, rfl⟩
              have e18 : z17.toInt = (n_k1).toInt + 1 := by rw [ez17]; exact i_add rfl rfl (by omega)
              refine lv_iinc (v := z17) (lv' := [(4, .int z17), (5, .int z7), (3, .int s_k1), (0, .ref (a 0)), (1, .int x1), (2, .int x2)]) hx hb dX11_nextTo_96 hl (k := 1) rfl ez17.symm (by decide) rfl (fun ls hl => ?_)
              refine lv_goto (tgt := 5) hx hb dX11_nextTo_99 (by decide) ?_
              exact ih_k1 _ _ _ (z17) (s_k1) hO (lv_sub hl [0, 2, 3, 4, 5] rfl) (by first | decide | omega) (by first | decide | omega)
            · refine lv_iload_n hx hb dX11_nextTo_84 rfl (lv_at hl 2 rfl) ?_
              refine lv_iconst (v := 1) hx hb dX11_nextTo_85 (by decide) ?_
              refine lv_aload_n hx hb dX11_nextTo_86 rfl (lv_at hl 3 rfl) ?_
              refine gf_RX11_51 (v := .ref (a 13)) C hO 0 mW_0 rfl dX11_nextTo_87 ?_
              refine lv_iload hx hb dX11_nextTo_90 (lv_at hl 0 rfl) ?_
              refine aI C hO 13 mW_13 (i_in (X := ((14 * ((fI u 0 36)).toInt) + (n_k1).toInt)) e8 (by omega) (by omega)) dX11_nextTo_92 ?_
              refine tE (y := (fA u 13 (z7).toNatClampNeg)) (by exact rfl) ?_
              refine lv_ishl hx hb dX11_nextTo_93 ?_
              refine lv_topi (fun z19 ez19 => ?_)
              have g20 : 0 ≤ z19.toInt ∧ z19.toInt ≤ 2 ^ 7 := by rw [ez19]; exact i_shl1 rfl (by omega) (by omega) (by decide)
              refine lv_ior hx hb dX11_nextTo_94 ?_
              refine lv_topi (fun z21 ez21 => ?_)
              refine lv_istore_n (lv' := [(3, .int z21), (5, .int z7), (4, .int n_k1), (0, .ref (a 0)), (1, .int x1), (2, .int x2)]) hx hb dX11_nextTo_95 rfl hl (by decide) rfl (fun ls hl => ?_)
              obtain ⟨z22, ez22⟩ : ∃ z : Int32, z = n_k1 + Int32.ofInt 1 := ⟨_, rfl⟩
              have e23 : z22.toInt = (n_k1).toInt + 1 := by rw [ez22]; exact i_add rfl rfl (by omega)
              refine lv_iinc (v := z22) (lv' := [(4, .int z22), (3, .int z21), (5, .int z7), (0, .ref (a 0)), (1, .int x1), (2, .int x2)]) hx hb dX11_nextTo_96 hl (k := 2) rfl ez22.symm (by decide) rfl (fun ls hl => ?_)
              refine lv_goto (tgt := 5) hx hb dX11_nextTo_99 (by decide) ?_
              exact ih_k1 _ _ _ (z22) (z21) hO (lv_sub hl [0, 1, 3, 4, 5] rfl) (by first | decide | omega) (by first | decide | omega)
          · refine lv_iload_n hx hb dX11_nextTo_61 rfl (lv_at hl 2 rfl) ?_
            refine lv_iconst (v := 1) hx hb dX11_nextTo_62 (by decide) ?_
            refine lv_aload_n hx hb dX11_nextTo_63 rfl (lv_at hl 3 rfl) ?_
            refine gf_RX11_54 (v := .ref (a 14)) C hO 0 mW_0 rfl dX11_nextTo_64 ?_
            refine lv_iload hx hb dX11_nextTo_67 (lv_at hl 0 rfl) ?_
            refine aI C hO 14 mW_14 (i_in (X := ((14 * ((fI u 0 36)).toInt) + (n_k1).toInt)) e8 (by omega) (by omega)) dX11_nextTo_69 ?_
            have g24 : 0 ≤ (fA u 14 (z7).toNatClampNeg).toInt ∧ (fA u 14 (z7).toNatClampNeg).toInt ≤ 7 := by have h := MI_A14 hJ0 (z7).toNatClampNeg; exact h
            refine tE (y := (fA u 14 (z7).toNatClampNeg)) (by exact rfl) ?_
            refine lv_ishl hx hb dX11_nextTo_70 ?_
            refine lv_topi (fun z25 ez25 => ?_)
            have g26 : 0 ≤ z25.toInt ∧ z25.toInt ≤ 2 ^ 7 := by rw [ez25]; exact i_shl1 rfl (by omega) (by omega) (by decide)
            refine lv_ior hx hb dX11_nextTo_71 ?_
            refine lv_topi (fun z27 ez27 => ?_)
            refine lv_istore_n (lv' := [(3, .int z27), (5, .int z7), (4, .int n_k1), (0, .ref (a 0)), (1, .int x1), (2, .int x2)]) hx hb dX11_nextTo_72 rfl hl (by decide) rfl (fun ls hl => ?_)
            refine lv_aload_n hx hb dX11_nextTo_73 rfl (lv_at hl 3 rfl) ?_
            refine gf_RX11_54 (v := .ref (a 14)) C hO 0 mW_0 rfl dX11_nextTo_74 ?_
            refine lv_iload hx hb dX11_nextTo_77 (lv_at hl 1 rfl) ?_
            refine aI C hO 14 mW_14 (i_in (X := ((14 * ((fI u 0 36)).toInt) + (n_k1).toInt)) e8 (by omega) (by omega)) dX11_nextTo_79 ?_
            refine tE (y := (fA u 14 (z7).toNatClampNeg)) (by exact rfl) ?_
            refine lv_iload_n hx hb dX11_nextTo_80 rfl (lv_at hl 4 rfl) ?_
            refine cs_ne (tgt := 96) (X := ((fA u 14 (z7).toNatClampNeg)).toInt) (Y := (x1).toInt) hx hb dX11_nextTo_81 (by decide) rfl rfl (fun c28 => ?_) (fun c28 => ?_)
            · obtain ⟨z29, ez29⟩ : ∃ z : Int32, z = n_k1 + Int32.ofInt 1 := ⟨_, rfl⟩
              have e30 : z29.toInt = (n_k1).toInt + 1 := by rw [ez29]; exact i_add rfl rfl (by omega)
              refine lv_iinc (v := z29) (lv' := [(4, .int z29), (3, .int z27), (5, .int z7), (0, .ref (a 0)), (1, .int x1), (2, .int x2)]) hx hb dX11_nextTo_96 hl (k := 2) rfl ez29.symm (by decide) rfl (fun ls hl => ?_)
              refine lv_goto (tgt := 5) hx hb dX11_nextTo_99 (by decide) ?_
              exact ih_k1 _ _ _ (z29) (z27) hO (lv_sub hl [0, 1, 3, 4, 5] rfl) (by first | decide | omega) (by first | decide | omega)
            · refine lv_iload_n hx hb dX11_nextTo_84 rfl (lv_at hl 0 rfl) ?_
              refine lv_iconst (v := 1) hx hb dX11_nextTo_85 (by decide) ?_
              refine lv_aload_n hx hb dX11_nextTo_86 rfl (lv_at hl 3 rfl) ?_
              refine gf_RX11_51 (v := .ref (a 13)) C hO 0 mW_0 rfl dX11_nextTo_87 ?_
              refine lv_iload hx hb dX11_nextTo_90 (lv_at hl 1 rfl) ?_
              refine aI C hO 13 mW_13 (i_in (X := ((14 * ((fI u 0 36)).toInt) + (n_k1).toInt)) e8 (by omega) (by omega)) dX11_nextTo_92 ?_
              refine tE (y := (fA u 13 (z7).toNatClampNeg)) (by exact rfl) ?_
              refine lv_ishl hx hb dX11_nextTo_93 ?_
              refine lv_topi (fun z31 ez31 => ?_)
              have g32 : 0 ≤ z31.toInt ∧ z31.toInt ≤ 2 ^ 7 := by rw [ez31]; exact i_shl1 rfl (by omega) (by omega) (by decide)
              refine lv_ior hx hb dX11_nextTo_94 ?_
              refine lv_topi (fun z33 ez33 => ?_)
              refine lv_istore_n (lv' := [(3, .int z33), (5, .int z7), (4, .int n_k1), (0, .ref (a 0)), (1, .int x1), (2, .int x2)]) hx hb dX11_nextTo_95 rfl hl (by decide) rfl (fun ls hl => ?_)
              obtain ⟨z34, ez34⟩ : ∃ z : Int32, z = n_k1 + Int32.ofInt 1 := ⟨_, rfl⟩
              have e35 : z34.toInt = (n_k1).toInt + 1 := by rw [ez34]; exact i_add rfl rfl (by omega)
              refine lv_iinc (v := z34) (lv' := [(4, .int z34), (3, .int z33), (5, .int z7), (0, .ref (a 0)), (1, .int x1), (2, .int x2)]) hx hb dX11_nextTo_96 hl (k := 2) rfl ez34.symm (by decide) rfl (fun ls hl => ?_)
              refine lv_goto (tgt := 5) hx hb dX11_nextTo_99 (by decide) ?_
              exact ih_k1 _ _ _ (z34) (z33) hO (lv_sub hl [0, 1, 3, 4, 5] rfl) (by first | decide | omega) (by first | decide | omega)
        · refine lv_goto (tgt := 96) hx hb dX11_nextTo_47 (by decide) ?_
          obtain ⟨z36, ez36⟩ : ∃ z : Int32, z = n_k1 + Int32.ofInt 1 := ⟨_, rfl⟩
          have e37 : z36.toInt = (n_k1).toInt + 1 := by rw [ez36]; exact i_add rfl rfl (by omega)
          refine lv_iinc (v := z36) (lv' := [(4, .int z36), (5, .int z7), (3, .int s_k1), (0, .ref (a 0)), (1, .int x1), (2, .int x2)]) hx hb dX11_nextTo_96 hl (k := 1) rfl ez36.symm (by decide) rfl (fun ls hl => ?_)
          refine lv_goto (tgt := 5) hx hb dX11_nextTo_99 (by decide) ?_
          exact ih_k1 _ _ _ (z36) (s_k1) hO (lv_sub hl [0, 2, 3, 4, 5] rfl) (by first | decide | omega) (by first | decide | omega)
  have zc38 : (0 : Int32).toInt = 0 := rfl
  exact LP_5_k1 4000 _ _ _ (0) (0) hO (lv_sub hl [0, 1, 2, 3, 4] rfl) (by first | decide | omega) (by first | decide | omega)
theorem dX11_two_0 : decode cX11_two 0 = .ok (.iload_n 0, 1) := by decide +kernel
theorem dX11_two_1 : decode cX11_two 1 = .ok (.tableswitch 202 37 62 #[143, 188, 202, 202, 202, 127, 119, 202, 123, 202, 131, 202, 202, 202, 202, 202, 202, 202, 202, 202, 202, 202, 202, 155, 177, 166], 119) := by decide +kernel
theorem dX11_two_120 : decode cX11_two 120 = .ok (.iload_n 1, 1) := by decide +kernel
theorem dX11_two_121 : decode cX11_two 121 = .ok (.iload_n 2, 1) := by decide +kernel
theorem dX11_two_122 : decode cX11_two 122 = .ok (.iadd, 1) := by decide +kernel
theorem dX11_two_123 : decode cX11_two 123 = .ok (.ireturn, 1) := by decide +kernel
theorem dX11_two_124 : decode cX11_two 124 = .ok (.iload_n 1, 1) := by decide +kernel
theorem dX11_two_125 : decode cX11_two 125 = .ok (.iload_n 2, 1) := by decide +kernel
theorem dX11_two_126 : decode cX11_two 126 = .ok (.isub, 1) := by decide +kernel
theorem dX11_two_127 : decode cX11_two 127 = .ok (.ireturn, 1) := by decide +kernel
theorem dX11_two_128 : decode cX11_two 128 = .ok (.iload_n 1, 1) := by decide +kernel
theorem dX11_two_129 : decode cX11_two 129 = .ok (.iload_n 2, 1) := by decide +kernel
theorem dX11_two_130 : decode cX11_two 130 = .ok (.imul, 1) := by decide +kernel
theorem dX11_two_131 : decode cX11_two 131 = .ok (.ireturn, 1) := by decide +kernel
theorem dX11_two_132 : decode cX11_two 132 = .ok (.iload_n 2, 1) := by decide +kernel
theorem dX11_two_133 : decode cX11_two 133 = .ok (.ifCond .ne 7, 3) := by decide +kernel
theorem dX11_two_136 : decode cX11_two 136 = .ok (.iconst 0, 1) := by decide +kernel
theorem dX11_two_137 : decode cX11_two 137 = .ok (.goto 6, 3) := by decide +kernel
theorem dX11_two_140 : decode cX11_two 140 = .ok (.iload_n 1, 1) := by decide +kernel
theorem dX11_two_141 : decode cX11_two 141 = .ok (.iload_n 2, 1) := by decide +kernel
theorem dX11_two_142 : decode cX11_two 142 = .ok (.idiv, 1) := by decide +kernel
theorem dX11_two_143 : decode cX11_two 143 = .ok (.ireturn, 1) := by decide +kernel
theorem dX11_two_144 : decode cX11_two 144 = .ok (.iload_n 2, 1) := by decide +kernel
theorem dX11_two_145 : decode cX11_two 145 = .ok (.ifCond .ne 7, 3) := by decide +kernel
theorem dX11_two_148 : decode cX11_two 148 = .ok (.iconst 0, 1) := by decide +kernel
theorem dX11_two_149 : decode cX11_two 149 = .ok (.goto 6, 3) := by decide +kernel
theorem dX11_two_152 : decode cX11_two 152 = .ok (.iload_n 1, 1) := by decide +kernel
theorem dX11_two_153 : decode cX11_two 153 = .ok (.iload_n 2, 1) := by decide +kernel
theorem dX11_two_154 : decode cX11_two 154 = .ok (.irem, 1) := by decide +kernel
theorem dX11_two_155 : decode cX11_two 155 = .ok (.ireturn, 1) := by decide +kernel
theorem dX11_two_156 : decode cX11_two 156 = .ok (.iload_n 1, 1) := by decide +kernel
theorem dX11_two_157 : decode cX11_two 157 = .ok (.iload_n 2, 1) := by decide +kernel
theorem dX11_two_158 : decode cX11_two 158 = .ok (.if_icmp .ge 7, 3) := by decide +kernel
theorem dX11_two_161 : decode cX11_two 161 = .ok (.iconst 1, 1) := by decide +kernel
theorem dX11_two_162 : decode cX11_two 162 = .ok (.goto 4, 3) := by decide +kernel
theorem dX11_two_165 : decode cX11_two 165 = .ok (.iconst 0, 1) := by decide +kernel
theorem dX11_two_166 : decode cX11_two 166 = .ok (.ireturn, 1) := by decide +kernel
theorem dX11_two_167 : decode cX11_two 167 = .ok (.iload_n 1, 1) := by decide +kernel
theorem dX11_two_168 : decode cX11_two 168 = .ok (.iload_n 2, 1) := by decide +kernel
theorem dX11_two_169 : decode cX11_two 169 = .ok (.if_icmp .le 7, 3) := by decide +kernel
theorem dX11_two_172 : decode cX11_two 172 = .ok (.iconst 1, 1) := by decide +kernel
theorem dX11_two_173 : decode cX11_two 173 = .ok (.goto 4, 3) := by decide +kernel
theorem dX11_two_176 : decode cX11_two 176 = .ok (.iconst 0, 1) := by decide +kernel
theorem dX11_two_177 : decode cX11_two 177 = .ok (.ireturn, 1) := by decide +kernel
theorem dX11_two_178 : decode cX11_two 178 = .ok (.iload_n 1, 1) := by decide +kernel
theorem dX11_two_179 : decode cX11_two 179 = .ok (.iload_n 2, 1) := by decide +kernel
theorem dX11_two_180 : decode cX11_two 180 = .ok (.if_icmp .ne 7, 3) := by decide +kernel
theorem dX11_two_183 : decode cX11_two 183 = .ok (.iconst 1, 1) := by decide +kernel
theorem dX11_two_184 : decode cX11_two 184 = .ok (.goto 4, 3) := by decide +kernel
theorem dX11_two_187 : decode cX11_two 187 = .ok (.iconst 0, 1) := by decide +kernel
theorem dX11_two_188 : decode cX11_two 188 = .ok (.ireturn, 1) := by decide +kernel
theorem dX11_two_189 : decode cX11_two 189 = .ok (.iload_n 1, 1) := by decide +kernel
theorem dX11_two_190 : decode cX11_two 190 = .ok (.ifCond .eq 11, 3) := by decide +kernel
theorem dX11_two_193 : decode cX11_two 193 = .ok (.iload_n 2, 1) := by decide +kernel
theorem dX11_two_194 : decode cX11_two 194 = .ok (.ifCond .eq 7, 3) := by decide +kernel
theorem dX11_two_197 : decode cX11_two 197 = .ok (.iconst 1, 1) := by decide +kernel
theorem dX11_two_198 : decode cX11_two 198 = .ok (.goto 4, 3) := by decide +kernel
theorem dX11_two_201 : decode cX11_two 201 = .ok (.iconst 0, 1) := by decide +kernel
theorem dX11_two_202 : decode cX11_two 202 = .ok (.ireturn, 1) := by decide +kernel
theorem dX11_two_203 : decode cX11_two 203 = .ok (.iload_n 1, 1) := by decide +kernel
theorem dX11_two_204 : decode cX11_two 204 = .ok (.ifCond .ne 7, 3) := by decide +kernel
theorem dX11_two_207 : decode cX11_two 207 = .ok (.iload_n 2, 1) := by decide +kernel
theorem dX11_two_208 : decode cX11_two 208 = .ok (.ifCond .eq 7, 3) := by decide +kernel
theorem dX11_two_211 : decode cX11_two 211 = .ok (.iconst 1, 1) := by decide +kernel
theorem dX11_two_212 : decode cX11_two 212 = .ok (.goto 4, 3) := by decide +kernel
theorem dX11_two_215 : decode cX11_two 215 = .ok (.iconst 0, 1) := by decide +kernel
theorem dX11_two_216 : decode cX11_two 216 = .ok (.ireturn, 1) := by decide +kernel
theorem wd_1787 : (Cond.code ⟨"WebCourtModel", "two", "(III)I"⟩ prog_13_method_37_code (3 : Nat) (Option.some FieldType.int)) ∈ gtb := gtb_c7 238 (by decide +kernel) rfl
set_option maxHeartbeats 4000000 in
set_option maxRecDepth 100000 in
theorem T_X11_two (l : Launch) (D : va_G) (cy : Nat → ClassId) (a : Nat → Nat) (u : St) (hJ : MI a u) (x1 : Int32) (x2 : Int32) (x3 : Int32)  : Mi l D cy (mW cy a) yX11_two (.code yX11_two cX11_two 3 (some .int)) (rmo 0 0) [.int x1, .int x2, .int x3] u (fun (r : Int32) (u' : St) => u' = u) := by
  refine Mi.of (own := RX11) rfl (by decide) (Nat.le_of_ble_eq_true rfl) ?_
  have hT : Km0 u u := Km0.rf
  have hJ0 := hJ
  intro p e s m below meth c A Q ls C hret hO hl
  obtain ⟨hx, hb, hml, hown, ht, hK, hA⟩ := id C
  have hl : lv_has ls 3 [(0, .int x1), (1, .int x2), (2, .int x3)] := hl
  refine lv_iload_n hx hb dX11_two_0 rfl (lv_at hl 0 rfl) ?_
  have c1 : ((x1).toInt < 37 ∨ 62 < (x1).toInt) ∨ (x1).toInt = 37 ∨ (x1).toInt = 38 ∨ (x1).toInt = 39 ∨ (x1).toInt = 40 ∨ (x1).toInt = 41 ∨ (x1).toInt = 42 ∨ (x1).toInt = 43 ∨ (x1).toInt = 44 ∨ (x1).toInt = 45 ∨ (x1).toInt = 46 ∨ (x1).toInt = 47 ∨ (x1).toInt = 48 ∨ (x1).toInt = 49 ∨ (x1).toInt = 50 ∨ (x1).toInt = 51 ∨ (x1).toInt = 52 ∨ (x1).toInt = 53 ∨ (x1).toInt = 54 ∨ (x1).toInt = 55 ∨ (x1).toInt = 56 ∨ (x1).toInt = 57 ∨ (x1).toInt = 58 ∨ (x1).toInt = 59 ∨ (x1).toInt = 60 ∨ (x1).toInt = 61 ∨ (x1).toInt = 62 := by omega
  rcases c1 with c1 | c1 | c1 | c1 | c1 | c1 | c1 | c1 | c1 | c1 | c1 | c1 | c1 | c1 | c1 | c1 | c1 | c1 | c1 | c1 | c1 | c1 | c1 | c1 | c1 | c1 | c1
  · refine lv_tableOut (tgt := 203) hx hb dX11_two_1 (by rw [show x1.toInt = (x1).toInt from rfl]; exact c1) (by decide) ?_
    refine lv_iload_n hx hb dX11_two_203 rfl (lv_at hl 1 rfl) ?_
    refine bs_ne (tgt := 211) (X := (x2).toInt) hx hb dX11_two_204 (by decide) rfl (fun c2 => ?_) (fun c2 => ?_)
    · refine lv_iconst (v := 1) hx hb dX11_two_211 (by decide) ?_
      refine lv_goto (tgt := 216) hx hb dX11_two_212 (by decide) ?_
      refine hret _ _ _ _ _ _ dX11_two_216 rfl ?_ hO
      exact rfl
    · refine lv_iload_n hx hb dX11_two_207 rfl (lv_at hl 2 rfl) ?_
      refine bs_eq (tgt := 215) (X := (x3).toInt) hx hb dX11_two_208 (by decide) rfl (fun c3 => ?_) (fun c3 => ?_)
      · refine lv_iconst (v := 0) hx hb dX11_two_215 (by decide) ?_
        refine hret _ _ _ _ _ _ dX11_two_216 rfl ?_ hO
        exact rfl
      · refine lv_iconst (v := 1) hx hb dX11_two_211 (by decide) ?_
        refine lv_goto (tgt := 216) hx hb dX11_two_212 (by decide) ?_
        refine hret _ _ _ _ _ _ dX11_two_216 rfl ?_ hO
        exact rfl
  · refine lv_tableIn (tgt := 144) hx hb dX11_two_1 (by rw [c1]; decide) (by rw [c1]; decide) (by rw [c1]; rfl) (by decide) ?_
    refine lv_iload_n hx hb dX11_two_144 rfl (lv_at hl 2 rfl) ?_
    refine bs_ne (tgt := 152) (X := (x3).toInt) hx hb dX11_two_145 (by decide) rfl (fun c4 => ?_) (fun c4 => ?_)
    · refine lv_iload_n hx hb dX11_two_152 rfl (lv_at hl 1 rfl) ?_
      refine lv_iload_n hx hb dX11_two_153 rfl (lv_at hl 2 rfl) ?_
      refine lv_irem hx hb dX11_two_154 (i_ne0 (X := (x3).toInt) rfl (by omega)) ?_
      refine lv_topi (fun z5 ez5 => ?_)
      refine hret _ _ _ _ _ _ dX11_two_155 rfl ?_ hO
      exact rfl
    · refine lv_iconst (v := 0) hx hb dX11_two_148 (by decide) ?_
      refine lv_goto (tgt := 155) hx hb dX11_two_149 (by decide) ?_
      refine hret _ _ _ _ _ _ dX11_two_155 rfl ?_ hO
      exact rfl
  · refine lv_tableIn (tgt := 189) hx hb dX11_two_1 (by rw [c1]; decide) (by rw [c1]; decide) (by rw [c1]; rfl) (by decide) ?_
    refine lv_iload_n hx hb dX11_two_189 rfl (lv_at hl 1 rfl) ?_
    refine bs_eq (tgt := 201) (X := (x2).toInt) hx hb dX11_two_190 (by decide) rfl (fun c6 => ?_) (fun c6 => ?_)
    · refine lv_iconst (v := 0) hx hb dX11_two_201 (by decide) ?_
      refine hret _ _ _ _ _ _ dX11_two_202 rfl ?_ hO
      exact rfl
    · refine lv_iload_n hx hb dX11_two_193 rfl (lv_at hl 2 rfl) ?_
      refine bs_eq (tgt := 201) (X := (x3).toInt) hx hb dX11_two_194 (by decide) rfl (fun c7 => ?_) (fun c7 => ?_)
      · refine lv_iconst (v := 0) hx hb dX11_two_201 (by decide) ?_
        refine hret _ _ _ _ _ _ dX11_two_202 rfl ?_ hO
        exact rfl
      · refine lv_iconst (v := 1) hx hb dX11_two_197 (by decide) ?_
        refine lv_goto (tgt := 202) hx hb dX11_two_198 (by decide) ?_
        refine hret _ _ _ _ _ _ dX11_two_202 rfl ?_ hO
        exact rfl
  · refine lv_tableIn (tgt := 203) hx hb dX11_two_1 (by rw [c1]; decide) (by rw [c1]; decide) (by rw [c1]; rfl) (by decide) ?_
    refine lv_iload_n hx hb dX11_two_203 rfl (lv_at hl 1 rfl) ?_
    refine bs_ne (tgt := 211) (X := (x2).toInt) hx hb dX11_two_204 (by decide) rfl (fun c8 => ?_) (fun c8 => ?_)
    · refine lv_iconst (v := 1) hx hb dX11_two_211 (by decide) ?_
      refine lv_goto (tgt := 216) hx hb dX11_two_212 (by decide) ?_
      refine hret _ _ _ _ _ _ dX11_two_216 rfl ?_ hO
      exact rfl
    · refine lv_iload_n hx hb dX11_two_207 rfl (lv_at hl 2 rfl) ?_
      refine bs_eq (tgt := 215) (X := (x3).toInt) hx hb dX11_two_208 (by decide) rfl (fun c9 => ?_) (fun c9 => ?_)
      · refine lv_iconst (v := 0) hx hb dX11_two_215 (by decide) ?_
        refine hret _ _ _ _ _ _ dX11_two_216 rfl ?_ hO
        exact rfl
      · refine lv_iconst (v := 1) hx hb dX11_two_211 (by decide) ?_
        refine lv_goto (tgt := 216) hx hb dX11_two_212 (by decide) ?_
        refine hret _ _ _ _ _ _ dX11_two_216 rfl ?_ hO
        exact rfl
  · refine lv_tableIn (tgt := 203) hx hb dX11_two_1 (by rw [c1]; decide) (by rw [c1]; decide) (by rw [c1]; rfl) (by decide) ?_
    refine lv_iload_n hx hb dX11_two_203 rfl (lv_at hl 1 rfl) ?_
    refine bs_ne (tgt := 211) (X := (x2).toInt) hx hb dX11_two_204 (by decide) rfl (fun c10 => ?_) (fun c10 => ?_)
    · refine lv_iconst (v := 1) hx hb dX11_two_211 (by decide) ?_
      refine lv_goto (tgt := 216) hx hb dX11_two_212 (by decide) ?_
      refine hret _ _ _ _ _ _ dX11_two_216 rfl ?_ hO
      exact rfl
    · refine lv_iload_n hx hb dX11_two_207 rfl (lv_at hl 2 rfl) ?_
      refine bs_eq (tgt := 215) (X := (x3).toInt) hx hb dX11_two_208 (by decide) rfl (fun c11 => ?_) (fun c11 => ?_)
      · refine lv_iconst (v := 0) hx hb dX11_two_215 (by decide) ?_
        refine hret _ _ _ _ _ _ dX11_two_216 rfl ?_ hO
        exact rfl
      · refine lv_iconst (v := 1) hx hb dX11_two_211 (by decide) ?_
        refine lv_goto (tgt := 216) hx hb dX11_two_212 (by decide) ?_
        refine hret _ _ _ _ _ _ dX11_two_216 rfl ?_ hO
        exact rfl
  · refine lv_tableIn (tgt := 203) hx hb dX11_two_1 (by rw [c1]; decide) (by rw [c1]; decide) (by rw [c1]; rfl) (by decide) ?_
    refine lv_iload_n hx hb dX11_two_203 rfl (lv_at hl 1 rfl) ?_
    refine bs_ne (tgt := 211) (X := (x2).toInt) hx hb dX11_two_204 (by decide) rfl (fun c12 => ?_) (fun c12 => ?_)
    · refine lv_iconst (v := 1) hx hb dX11_two_211 (by decide) ?_
      refine lv_goto (tgt := 216) hx hb dX11_two_212 (by decide) ?_
      refine hret _ _ _ _ _ _ dX11_two_216 rfl ?_ hO
      exact rfl
    · refine lv_iload_n hx hb dX11_two_207 rfl (lv_at hl 2 rfl) ?_
      refine bs_eq (tgt := 215) (X := (x3).toInt) hx hb dX11_two_208 (by decide) rfl (fun c13 => ?_) (fun c13 => ?_)
      · refine lv_iconst (v := 0) hx hb dX11_two_215 (by decide) ?_
        refine hret _ _ _ _ _ _ dX11_two_216 rfl ?_ hO
        exact rfl
      · refine lv_iconst (v := 1) hx hb dX11_two_211 (by decide) ?_
        refine lv_goto (tgt := 216) hx hb dX11_two_212 (by decide) ?_
        refine hret _ _ _ _ _ _ dX11_two_216 rfl ?_ hO
        exact rfl
  · refine lv_tableIn (tgt := 128) hx hb dX11_two_1 (by rw [c1]; decide) (by rw [c1]; decide) (by rw [c1]; rfl) (by decide) ?_
    refine lv_iload_n hx hb dX11_two_128 rfl (lv_at hl 1 rfl) ?_
    refine lv_iload_n hx hb dX11_two_129 rfl (lv_at hl 2 rfl) ?_
    refine lv_imul hx hb dX11_two_130 ?_
    refine lv_topi (fun z14 ez14 => ?_)
    refine hret _ _ _ _ _ _ dX11_two_131 rfl ?_ hO
    exact rfl
  · refine lv_tableIn (tgt := 120) hx hb dX11_two_1 (by rw [c1]; decide) (by rw [c1]; decide) (by rw [c1]; rfl) (by decide) ?_
    refine lv_iload_n hx hb dX11_two_120 rfl (lv_at hl 1 rfl) ?_
    refine lv_iload_n hx hb dX11_two_121 rfl (lv_at hl 2 rfl) ?_
    refine lv_iadd hx hb dX11_two_122 ?_
    refine lv_topi (fun z15 ez15 => ?_)
    refine hret _ _ _ _ _ _ dX11_two_123 rfl ?_ hO
    exact rfl
  · refine lv_tableIn (tgt := 203) hx hb dX11_two_1 (by rw [c1]; decide) (by rw [c1]; decide) (by rw [c1]; rfl) (by decide) ?_
    refine lv_iload_n hx hb dX11_two_203 rfl (lv_at hl 1 rfl) ?_
    refine bs_ne (tgt := 211) (X := (x2).toInt) hx hb dX11_two_204 (by decide) rfl (fun c16 => ?_) (fun c16 => ?_)
    · refine lv_iconst (v := 1) hx hb dX11_two_211 (by decide) ?_
      refine lv_goto (tgt := 216) hx hb dX11_two_212 (by decide) ?_
      refine hret _ _ _ _ _ _ dX11_two_216 rfl ?_ hO
      exact rfl
    · refine lv_iload_n hx hb dX11_two_207 rfl (lv_at hl 2 rfl) ?_
      refine bs_eq (tgt := 215) (X := (x3).toInt) hx hb dX11_two_208 (by decide) rfl (fun c17 => ?_) (fun c17 => ?_)
      · refine lv_iconst (v := 0) hx hb dX11_two_215 (by decide) ?_
        refine hret _ _ _ _ _ _ dX11_two_216 rfl ?_ hO
        exact rfl
      · refine lv_iconst (v := 1) hx hb dX11_two_211 (by decide) ?_
        refine lv_goto (tgt := 216) hx hb dX11_two_212 (by decide) ?_
        refine hret _ _ _ _ _ _ dX11_two_216 rfl ?_ hO
        exact rfl
  · refine lv_tableIn (tgt := 124) hx hb dX11_two_1 (by rw [c1]; decide) (by rw [c1]; decide) (by rw [c1]; rfl) (by decide) ?_
    refine lv_iload_n hx hb dX11_two_124 rfl (lv_at hl 1 rfl) ?_
    refine lv_iload_n hx hb dX11_two_125 rfl (lv_at hl 2 rfl) ?_
    refine lv_isub hx hb dX11_two_126 ?_
    refine lv_topi (fun z18 ez18 => ?_)
    refine hret _ _ _ _ _ _ dX11_two_127 rfl ?_ hO
    exact rfl
  · refine lv_tableIn (tgt := 203) hx hb dX11_two_1 (by rw [c1]; decide) (by rw [c1]; decide) (by rw [c1]; rfl) (by decide) ?_
    refine lv_iload_n hx hb dX11_two_203 rfl (lv_at hl 1 rfl) ?_
    refine bs_ne (tgt := 211) (X := (x2).toInt) hx hb dX11_two_204 (by decide) rfl (fun c19 => ?_) (fun c19 => ?_)
    · refine lv_iconst (v := 1) hx hb dX11_two_211 (by decide) ?_
      refine lv_goto (tgt := 216) hx hb dX11_two_212 (by decide) ?_
      refine hret _ _ _ _ _ _ dX11_two_216 rfl ?_ hO
      exact rfl
    · refine lv_iload_n hx hb dX11_two_207 rfl (lv_at hl 2 rfl) ?_
      refine bs_eq (tgt := 215) (X := (x3).toInt) hx hb dX11_two_208 (by decide) rfl (fun c20 => ?_) (fun c20 => ?_)
      · refine lv_iconst (v := 0) hx hb dX11_two_215 (by decide) ?_
        refine hret _ _ _ _ _ _ dX11_two_216 rfl ?_ hO
        exact rfl
      · refine lv_iconst (v := 1) hx hb dX11_two_211 (by decide) ?_
        refine lv_goto (tgt := 216) hx hb dX11_two_212 (by decide) ?_
        refine hret _ _ _ _ _ _ dX11_two_216 rfl ?_ hO
        exact rfl
  · refine lv_tableIn (tgt := 132) hx hb dX11_two_1 (by rw [c1]; decide) (by rw [c1]; decide) (by rw [c1]; rfl) (by decide) ?_
    refine lv_iload_n hx hb dX11_two_132 rfl (lv_at hl 2 rfl) ?_
    refine bs_ne (tgt := 140) (X := (x3).toInt) hx hb dX11_two_133 (by decide) rfl (fun c21 => ?_) (fun c21 => ?_)
    · refine lv_iload_n hx hb dX11_two_140 rfl (lv_at hl 1 rfl) ?_
      refine lv_iload_n hx hb dX11_two_141 rfl (lv_at hl 2 rfl) ?_
      refine lv_idiv hx hb dX11_two_142 (i_ne0 (X := (x3).toInt) rfl (by omega)) ?_
      refine lv_topi (fun z22 ez22 => ?_)
      refine hret _ _ _ _ _ _ dX11_two_143 rfl ?_ hO
      exact rfl
    · refine lv_iconst (v := 0) hx hb dX11_two_136 (by decide) ?_
      refine lv_goto (tgt := 143) hx hb dX11_two_137 (by decide) ?_
      refine hret _ _ _ _ _ _ dX11_two_143 rfl ?_ hO
      exact rfl
  · refine lv_tableIn (tgt := 203) hx hb dX11_two_1 (by rw [c1]; decide) (by rw [c1]; decide) (by rw [c1]; rfl) (by decide) ?_
    refine lv_iload_n hx hb dX11_two_203 rfl (lv_at hl 1 rfl) ?_
    refine bs_ne (tgt := 211) (X := (x2).toInt) hx hb dX11_two_204 (by decide) rfl (fun c23 => ?_) (fun c23 => ?_)
    · refine lv_iconst (v := 1) hx hb dX11_two_211 (by decide) ?_
      refine lv_goto (tgt := 216) hx hb dX11_two_212 (by decide) ?_
      refine hret _ _ _ _ _ _ dX11_two_216 rfl ?_ hO
      exact rfl
    · refine lv_iload_n hx hb dX11_two_207 rfl (lv_at hl 2 rfl) ?_
      refine bs_eq (tgt := 215) (X := (x3).toInt) hx hb dX11_two_208 (by decide) rfl (fun c24 => ?_) (fun c24 => ?_)
      · refine lv_iconst (v := 0) hx hb dX11_two_215 (by decide) ?_
        refine hret _ _ _ _ _ _ dX11_two_216 rfl ?_ hO
        exact rfl
      · refine lv_iconst (v := 1) hx hb dX11_two_211 (by decide) ?_
        refine lv_goto (tgt := 216) hx hb dX11_two_212 (by decide) ?_
        refine hret _ _ _ _ _ _ dX11_two_216 rfl ?_ hO
        exact rfl
  · refine lv_tableIn (tgt := 203) hx hb dX11_two_1 (by rw [c1]; decide) (by rw [c1]; decide) (by rw [c1]; rfl) (by decide) ?_
    refine lv_iload_n hx hb dX11_two_203 rfl (lv_at hl 1 rfl) ?_
    refine bs_ne (tgt := 211) (X := (x2).toInt) hx hb dX11_two_204 (by decide) rfl (fun c25 => ?_) (fun c25 => ?_)
    · refine lv_iconst (v := 1) hx hb dX11_two_211 (by decide) ?_
      refine lv_goto (tgt := 216) hx hb dX11_two_212 (by decide) ?_
      refine hret _ _ _ _ _ _ dX11_two_216 rfl ?_ hO
      exact rfl
    · refine lv_iload_n hx hb dX11_two_207 rfl (lv_at hl 2 rfl) ?_
      refine bs_eq (tgt := 215) (X := (x3).toInt) hx hb dX11_two_208 (by decide) rfl (fun c26 => ?_) (fun c26 => ?_)
      · refine lv_iconst (v := 0) hx hb dX11_two_215 (by decide) ?_
        refine hret _ _ _ _ _ _ dX11_two_216 rfl ?_ hO
        exact rfl
      · refine lv_iconst (v := 1) hx hb dX11_two_211 (by decide) ?_
        refine lv_goto (tgt := 216) hx hb dX11_two_212 (by decide) ?_
        refine hret _ _ _ _ _ _ dX11_two_216 rfl ?_ hO
        exact rfl
  · refine lv_tableIn (tgt := 203) hx hb dX11_two_1 (by rw [c1]; decide) (by rw [c1]; decide) (by rw [c1]; rfl) (by decide) ?_
    refine lv_iload_n hx hb dX11_two_203 rfl (lv_at hl 1 rfl) ?_
    refine bs_ne (tgt := 211) (X := (x2).toInt) hx hb dX11_two_204 (by decide) rfl (fun c27 => ?_) (fun c27 => ?_)
    · refine lv_iconst (v := 1) hx hb dX11_two_211 (by decide) ?_
      refine lv_goto (tgt := 216) hx hb dX11_two_212 (by decide) ?_
      refine hret _ _ _ _ _ _ dX11_two_216 rfl ?_ hO
      exact rfl
    · refine lv_iload_n hx hb dX11_two_207 rfl (lv_at hl 2 rfl) ?_
      refine bs_eq (tgt := 215) (X := (x3).toInt) hx hb dX11_two_208 (by decide) rfl (fun c28 => ?_) (fun c28 => ?_)
      · refine lv_iconst (v := 0) hx hb dX11_two_215 (by decide) ?_
        refine hret _ _ _ _ _ _ dX11_two_216 rfl ?_ hO
        exact rfl
      · refine lv_iconst (v := 1) hx hb dX11_two_211 (by decide) ?_
        refine lv_goto (tgt := 216) hx hb dX11_two_212 (by decide) ?_
        refine hret _ _ _ _ _ _ dX11_two_216 rfl ?_ hO
        exact rfl
  · refine lv_tableIn (tgt := 203) hx hb dX11_two_1 (by rw [c1]; decide) (by rw [c1]; decide) (by rw [c1]; rfl) (by decide) ?_
    refine lv_iload_n hx hb dX11_two_203 rfl (lv_at hl 1 rfl) ?_
    refine bs_ne (tgt := 211) (X := (x2).toInt) hx hb dX11_two_204 (by decide) rfl (fun c29 => ?_) (fun c29 => ?_)
    · refine lv_iconst (v := 1) hx hb dX11_two_211 (by decide) ?_
      refine lv_goto (tgt := 216) hx hb dX11_two_212 (by decide) ?_
      refine hret _ _ _ _ _ _ dX11_two_216 rfl ?_ hO
      exact rfl
    · refine lv_iload_n hx hb dX11_two_207 rfl (lv_at hl 2 rfl) ?_
      refine bs_eq (tgt := 215) (X := (x3).toInt) hx hb dX11_two_208 (by decide) rfl (fun c30 => ?_) (fun c30 => ?_)
      · refine lv_iconst (v := 0) hx hb dX11_two_215 (by decide) ?_
        refine hret _ _ _ _ _ _ dX11_two_216 rfl ?_ hO
        exact rfl
      · refine lv_iconst (v := 1) hx hb dX11_two_211 (by decide) ?_
        refine lv_goto (tgt := 216) hx hb dX11_two_212 (by decide) ?_
        refine hret _ _ _ _ _ _ dX11_two_216 rfl ?_ hO
        exact rfl
  · refine lv_tableIn (tgt := 203) hx hb dX11_two_1 (by rw [c1]; decide) (by rw [c1]; decide) (by rw [c1]; rfl) (by decide) ?_
    refine lv_iload_n hx hb dX11_two_203 rfl (lv_at hl 1 rfl) ?_
    refine bs_ne (tgt := 211) (X := (x2).toInt) hx hb dX11_two_204 (by decide) rfl (fun c31 => ?_) (fun c31 => ?_)
    · refine lv_iconst (v := 1) hx hb dX11_two_211 (by decide) ?_
      refine lv_goto (tgt := 216) hx hb dX11_two_212 (by decide) ?_
      refine hret _ _ _ _ _ _ dX11_two_216 rfl ?_ hO
      exact rfl
    · refine lv_iload_n hx hb dX11_two_207 rfl (lv_at hl 2 rfl) ?_
      refine bs_eq (tgt := 215) (X := (x3).toInt) hx hb dX11_two_208 (by decide) rfl (fun c32 => ?_) (fun c32 => ?_)
      · refine lv_iconst (v := 0) hx hb dX11_two_215 (by decide) ?_
        refine hret _ _ _ _ _ _ dX11_two_216 rfl ?_ hO
        exact rfl
      · refine lv_iconst (v := 1) hx hb dX11_two_211 (by decide) ?_
        refine lv_goto (tgt := 216) hx hb dX11_two_212 (by decide) ?_
        refine hret _ _ _ _ _ _ dX11_two_216 rfl ?_ hO
        exact rfl
  · refine lv_tableIn (tgt := 203) hx hb dX11_two_1 (by rw [c1]; decide) (by rw [c1]; decide) (by rw [c1]; rfl) (by decide) ?_
    refine lv_iload_n hx hb dX11_two_203 rfl (lv_at hl 1 rfl) ?_
    refine bs_ne (tgt := 211) (X := (x2).toInt) hx hb dX11_two_204 (by decide) rfl (fun c33 => ?_) (fun c33 => ?_)
    · refine lv_iconst (v := 1) hx hb dX11_two_211 (by decide) ?_
      refine lv_goto (tgt := 216) hx hb dX11_two_212 (by decide) ?_
      refine hret _ _ _ _ _ _ dX11_two_216 rfl ?_ hO
      exact rfl
    · refine lv_iload_n hx hb dX11_two_207 rfl (lv_at hl 2 rfl) ?_
      refine bs_eq (tgt := 215) (X := (x3).toInt) hx hb dX11_two_208 (by decide) rfl (fun c34 => ?_) (fun c34 => ?_)
      · refine lv_iconst (v := 0) hx hb dX11_two_215 (by decide) ?_
        refine hret _ _ _ _ _ _ dX11_two_216 rfl ?_ hO
        exact rfl
      · refine lv_iconst (v := 1) hx hb dX11_two_211 (by decide) ?_
        refine lv_goto (tgt := 216) hx hb dX11_two_212 (by decide) ?_
        refine hret _ _ _ _ _ _ dX11_two_216 rfl ?_ hO
        exact rfl
  · refine lv_tableIn (tgt := 203) hx hb dX11_two_1 (by rw [c1]; decide) (by rw [c1]; decide) (by rw [c1]; rfl) (by decide) ?_
    refine lv_iload_n hx hb dX11_two_203 rfl (lv_at hl 1 rfl) ?_
    refine bs_ne (tgt := 211) (X := (x2).toInt) hx hb dX11_two_204 (by decide) rfl (fun c35 => ?_) (fun c35 => ?_)
    · refine lv_iconst (v := 1) hx hb dX11_two_211 (by decide) ?_
      refine lv_goto (tgt := 216) hx hb dX11_two_212 (by decide) ?_
      refine hret _ _ _ _ _ _ dX11_two_216 rfl ?_ hO
      exact rfl
    · refine lv_iload_n hx hb dX11_two_207 rfl (lv_at hl 2 rfl) ?_
      refine bs_eq (tgt := 215) (X := (x3).toInt) hx hb dX11_two_208 (by decide) rfl (fun c36 => ?_) (fun c36 => ?_)
      · refine lv_iconst (v := 0) hx hb dX11_two_215 (by decide) ?_
        refine hret _ _ _ _ _ _ dX11_two_216 rfl ?_ hO
        exact rfl
      · refine lv_iconst (v := 1) hx hb dX11_two_211 (by decide) ?_
        refine lv_goto (tgt := 216) hx hb dX11_two_212 (by decide) ?_
        refine hret _ _ _ _ _ _ dX11_two_216 rfl ?_ hO
        exact rfl
  · refine lv_tableIn (tgt := 203) hx hb dX11_two_1 (by rw [c1]; decide) (by rw [c1]; decide) (by rw [c1]; rfl) (by decide) ?_
    refine lv_iload_n hx hb dX11_two_203 rfl (lv_at hl 1 rfl) ?_
    refine bs_ne (tgt := 211) (X := (x2).toInt) hx hb dX11_two_204 (by decide) rfl (fun c37 => ?_) (fun c37 => ?_)
    · refine lv_iconst (v := 1) hx hb dX11_two_211 (by decide) ?_
      refine lv_goto (tgt := 216) hx hb dX11_two_212 (by decide) ?_
      refine hret _ _ _ _ _ _ dX11_two_216 rfl ?_ hO
      exact rfl
    · refine lv_iload_n hx hb dX11_two_207 rfl (lv_at hl 2 rfl) ?_
      refine bs_eq (tgt := 215) (X := (x3).toInt) hx hb dX11_two_208 (by decide) rfl (fun c38 => ?_) (fun c38 => ?_)
      · refine lv_iconst (v := 0) hx hb dX11_two_215 (by decide) ?_
        refine hret _ _ _ _ _ _ dX11_two_216 rfl ?_ hO
        exact rfl
      · refine lv_iconst (v := 1) hx hb dX11_two_211 (by decide) ?_
        refine lv_goto (tgt := 216) hx hb dX11_two_212 (by decide) ?_
        refine hret _ _ _ _ _ _ dX11_two_216 rfl ?_ hO
        exact rfl
  · refine lv_tableIn (tgt := 203) hx hb dX11_two_1 (by rw [c1]; decide) (by rw [c1]; decide) (by rw [c1]; rfl) (by decide) ?_
    refine lv_iload_n hx hb dX11_two_203 rfl (lv_at hl 1 rfl) ?_
    refine bs_ne (tgt := 211) (X := (x2).toInt) hx hb dX11_two_204 (by decide) rfl (fun c39 => ?_) (fun c39 => ?_)
    · refine lv_iconst (v := 1) hx hb dX11_two_211 (by decide) ?_
      refine lv_goto (tgt := 216) hx hb dX11_two_212 (by decide) ?_
      refine hret _ _ _ _ _ _ dX11_two_216 rfl ?_ hO
      exact rfl
    · refine lv_iload_n hx hb dX11_two_207 rfl (lv_at hl 2 rfl) ?_
      refine bs_eq (tgt := 215) (X := (x3).toInt) hx hb dX11_two_208 (by decide) rfl (fun c40 => ?_) (fun c40 => ?_)
      · refine lv_iconst (v := 0) hx hb dX11_two_215 (by decide) ?_
        refine hret _ _ _ _ _ _ dX11_two_216 rfl ?_ hO
        exact rfl
      · refine lv_iconst (v := 1) hx hb dX11_two_211 (by decide) ?_
        refine lv_goto (tgt := 216) hx hb dX11_two_212 (by decide) ?_
        refine hret _ _ _ _ _ _ dX11_two_216 rfl ?_ hO
        exact rfl
  · refine lv_tableIn (tgt := 203) hx hb dX11_two_1 (by rw [c1]; decide) (by rw [c1]; decide) (by rw [c1]; rfl) (by decide) ?_
    refine lv_iload_n hx hb dX11_two_203 rfl (lv_at hl 1 rfl) ?_
    refine bs_ne (tgt := 211) (X := (x2).toInt) hx hb dX11_two_204 (by decide) rfl (fun c41 => ?_) (fun c41 => ?_)
    · refine lv_iconst (v := 1) hx hb dX11_two_211 (by decide) ?_
      refine lv_goto (tgt := 216) hx hb dX11_two_212 (by decide) ?_
      refine hret _ _ _ _ _ _ dX11_two_216 rfl ?_ hO
      exact rfl
    · refine lv_iload_n hx hb dX11_two_207 rfl (lv_at hl 2 rfl) ?_
      refine bs_eq (tgt := 215) (X := (x3).toInt) hx hb dX11_two_208 (by decide) rfl (fun c42 => ?_) (fun c42 => ?_)
      · refine lv_iconst (v := 0) hx hb dX11_two_215 (by decide) ?_
        refine hret _ _ _ _ _ _ dX11_two_216 rfl ?_ hO
        exact rfl
      · refine lv_iconst (v := 1) hx hb dX11_two_211 (by decide) ?_
        refine lv_goto (tgt := 216) hx hb dX11_two_212 (by decide) ?_
        refine hret _ _ _ _ _ _ dX11_two_216 rfl ?_ hO
        exact rfl
  · refine lv_tableIn (tgt := 203) hx hb dX11_two_1 (by rw [c1]; decide) (by rw [c1]; decide) (by rw [c1]; rfl) (by decide) ?_
    refine lv_iload_n hx hb dX11_two_203 rfl (lv_at hl 1 rfl) ?_
    refine bs_ne (tgt := 211) (X := (x2).toInt) hx hb dX11_two_204 (by decide) rfl (fun c43 => ?_) (fun c43 => ?_)
    · refine lv_iconst (v := 1) hx hb dX11_two_211 (by decide) ?_
      refine lv_goto (tgt := 216) hx hb dX11_two_212 (by decide) ?_
      refine hret _ _ _ _ _ _ dX11_two_216 rfl ?_ hO
      exact rfl
    · refine lv_iload_n hx hb dX11_two_207 rfl (lv_at hl 2 rfl) ?_
      refine bs_eq (tgt := 215) (X := (x3).toInt) hx hb dX11_two_208 (by decide) rfl (fun c44 => ?_) (fun c44 => ?_)
      · refine lv_iconst (v := 0) hx hb dX11_two_215 (by decide) ?_
        refine hret _ _ _ _ _ _ dX11_two_216 rfl ?_ hO
        exact rfl
      · refine lv_iconst (v := 1) hx hb dX11_two_211 (by decide) ?_
        refine lv_goto (tgt := 216) hx hb dX11_two_212 (by decide) ?_
        refine hret _ _ _ _ _ _ dX11_two_216 rfl ?_ hO
        exact rfl
  · refine lv_tableIn (tgt := 203) hx hb dX11_two_1 (by rw [c1]; decide) (by rw [c1]; decide) (by rw [c1]; rfl) (by decide) ?_
    refine lv_iload_n hx hb dX11_two_203 rfl (lv_at hl 1 rfl) ?_
    refine bs_ne (tgt := 211) (X := (x2).toInt) hx hb dX11_two_204 (by decide) rfl (fun c45 => ?_) (fun c45 => ?_)
    · refine lv_iconst (v := 1) hx hb dX11_two_211 (by decide) ?_
      refine lv_goto (tgt := 216) hx hb dX11_two_212 (by decide) ?_
      refine hret _ _ _ _ _ _ dX11_two_216 rfl ?_ hO
      exact rfl
    · refine lv_iload_n hx hb dX11_two_207 rfl (lv_at hl 2 rfl) ?_
      refine bs_eq (tgt := 215) (X := (x3).toInt) hx hb dX11_two_208 (by decide) rfl (fun c46 => ?_) (fun c46 => ?_)
      · refine lv_iconst (v := 0) hx hb dX11_two_215 (by decide) ?_
        refine hret _ _ _ _ _ _ dX11_two_216 rfl ?_ hO
        exact rfl
      · refine lv_iconst (v := 1) hx hb dX11_two_211 (by decide) ?_
        refine lv_goto (tgt := 216) hx hb dX11_two_212 (by decide) ?_
        refine hret _ _ _ _ _ _ dX11_two_216 rfl ?_ hO
        exact rfl
  · refine lv_tableIn (tgt := 156) hx hb dX11_two_1 (by rw [c1]; decide) (by rw [c1]; decide) (by rw [c1]; rfl) (by decide) ?_
    refine lv_iload_n hx hb dX11_two_156 rfl (lv_at hl 1 rfl) ?_
    refine lv_iload_n hx hb dX11_two_157 rfl (lv_at hl 2 rfl) ?_
    refine cs_ge (tgt := 165) (X := (x2).toInt) (Y := (x3).toInt) hx hb dX11_two_158 (by decide) rfl rfl (fun c47 => ?_) (fun c47 => ?_)
    · refine lv_iconst (v := 0) hx hb dX11_two_165 (by decide) ?_
      refine hret _ _ _ _ _ _ dX11_two_166 rfl ?_ hO
      exact rfl
    · refine lv_iconst (v := 1) hx hb dX11_two_161 (by decide) ?_
      refine lv_goto (tgt := 166) hx hb dX11_two_162 (by decide) ?_
      refine hret _ _ _ _ _ _ dX11_two_166 rfl ?_ hO
      exact rfl
  · refine lv_tableIn (tgt := 178) hx hb dX11_two_1 (by rw [c1]; decide) (by rw [c1]; decide) (by rw [c1]; rfl) (by decide) ?_
    refine lv_iload_n hx hb dX11_two_178 rfl (lv_at hl 1 rfl) ?_
    refine lv_iload_n hx hb dX11_two_179 rfl (lv_at hl 2 rfl) ?_
    refine cs_ne (tgt := 187) (X := (x2).toInt) (Y := (x3).toInt) hx hb dX11_two_180 (by decide) rfl rfl (fun c48 => ?_) (fun c48 => ?_)
    · refine lv_iconst (v := 0) hx hb dX11_two_187 (by decide) ?_
      refine hret _ _ _ _ _ _ dX11_two_188 rfl ?_ hO
      exact rfl
    · refine lv_iconst (v := 1) hx hb dX11_two_183 (by decide) ?_
      refine lv_goto (tgt := 188) hx hb dX11_two_184 (by decide) ?_
      refine hret _ _ _ _ _ _ dX11_two_188 rfl ?_ hO
      exact rfl
  · refine lv_tableIn (tgt := 167) hx hb dX11_two_1 (by rw [c1]; decide) (by rw [c1]; decide) (by rw [c1]; rfl) (by decide) ?_
    refine lv_iload_n hx hb dX11_two_167 rfl (lv_at hl 1 rfl) ?_
    refine lv_iload_n hx hb dX11_two_168 rfl (lv_at hl 2 rfl) ?_
    refine cs_le (tgt := 176) (X := (x2).toInt) (Y := (x3).toInt) hx hb dX11_two_169 (by decide) rfl rfl (fun c49 => ?_) (fun c49 => ?_)
    · refine lv_iconst (v := 0) hx hb dX11_two_176 (by decide) ?_
      refine hret _ _ _ _ _ _ dX11_two_177 rfl ?_ hO
      exact rfl
    · refine lv_iconst (v := 1) hx hb dX11_two_172 (by decide) ?_
      refine lv_goto (tgt := 177) hx hb dX11_two_173 (by decide) ?_
      refine hret _ _ _ _ _ _ dX11_two_177 rfl ?_ hO
      exact rfl
theorem dX11_asked_0 : decode cX11_asked 0 = .ok (.iload_n 1, 1) := by decide +kernel
theorem dX11_asked_1 : decode cX11_asked 1 = .ok (.tableswitch 147 98 115 #[104, 147, 147, 147, 147, 147, 139, 147, 147, 130, 147, 96, 147, 147, 87, 147, 147, 117], 87) := by decide +kernel
theorem dX11_asked_88 : decode cX11_asked 88 = .ok (.aload_n 0, 1) := by decide +kernel
theorem dX11_asked_89 : decode cX11_asked 89 = .ok (.aload_n 0, 1) := by decide +kernel
theorem dX11_asked_90 : decode cX11_asked 90 = .ok (.getfield 352, 3) := by decide +kernel
theorem dX11_asked_93 : decode cX11_asked 93 = .ok (.invokevirtual 355, 3) := by decide +kernel
theorem dX11_asked_96 : decode cX11_asked 96 = .ok (.ireturn, 1) := by decide +kernel
theorem dX11_asked_97 : decode cX11_asked 97 = .ok (.aload_n 0, 1) := by decide +kernel
theorem dX11_asked_98 : decode cX11_asked 98 = .ok (.getfield 352, 3) := by decide +kernel
theorem dX11_asked_101 : decode cX11_asked 101 = .ok (.invokestatic 316, 3) := by decide +kernel
theorem dX11_asked_104 : decode cX11_asked 104 = .ok (.ireturn, 1) := by decide +kernel
theorem dX11_asked_105 : decode cX11_asked 105 = .ok (.aload_n 0, 1) := by decide +kernel
theorem dX11_asked_106 : decode cX11_asked 106 = .ok (.getfield 97, 3) := by decide +kernel
theorem dX11_asked_109 : decode cX11_asked 109 = .ok (.bipush 12, 2) := by decide +kernel
theorem dX11_asked_111 : decode cX11_asked 111 = .ok (.aload_n 0, 1) := by decide +kernel
theorem dX11_asked_112 : decode cX11_asked 112 = .ok (.getfield 358, 3) := by decide +kernel
theorem dX11_asked_115 : decode cX11_asked 115 = .ok (.iadd, 1) := by decide +kernel
theorem dX11_asked_116 : decode cX11_asked 116 = .ok (.iaload, 1) := by decide +kernel
theorem dX11_asked_117 : decode cX11_asked 117 = .ok (.ireturn, 1) := by decide +kernel
theorem dX11_asked_118 : decode cX11_asked 118 = .ok (.aload_n 0, 1) := by decide +kernel
theorem dX11_asked_119 : decode cX11_asked 119 = .ok (.getfield 97, 3) := by decide +kernel
theorem dX11_asked_122 : decode cX11_asked 122 = .ok (.bipush 18, 2) := by decide +kernel
theorem dX11_asked_124 : decode cX11_asked 124 = .ok (.aload_n 0, 1) := by decide +kernel
theorem dX11_asked_125 : decode cX11_asked 125 = .ok (.getfield 358, 3) := by decide +kernel
theorem dX11_asked_128 : decode cX11_asked 128 = .ok (.iadd, 1) := by decide +kernel
theorem dX11_asked_129 : decode cX11_asked 129 = .ok (.iaload, 1) := by decide +kernel
theorem dX11_asked_130 : decode cX11_asked 130 = .ok (.ireturn, 1) := by decide +kernel
theorem dX11_asked_131 : decode cX11_asked 131 = .ok (.aload_n 0, 1) := by decide +kernel
theorem dX11_asked_132 : decode cX11_asked 132 = .ok (.aload_n 0, 1) := by decide +kernel
theorem dX11_asked_133 : decode cX11_asked 133 = .ok (.getfield 358, 3) := by decide +kernel
theorem dX11_asked_136 : decode cX11_asked 136 = .ok (.invokevirtual 361, 3) := by decide +kernel
theorem dX11_asked_139 : decode cX11_asked 139 = .ok (.ireturn, 1) := by decide +kernel
theorem dX11_asked_140 : decode cX11_asked 140 = .ok (.aload_n 0, 1) := by decide +kernel
theorem dX11_asked_141 : decode cX11_asked 141 = .ok (.getfield 97, 3) := by decide +kernel
theorem dX11_asked_144 : decode cX11_asked 144 = .ok (.bipush 25, 2) := by decide +kernel
theorem dX11_asked_146 : decode cX11_asked 146 = .ok (.iaload, 1) := by decide +kernel
theorem dX11_asked_147 : decode cX11_asked 147 = .ok (.ireturn, 1) := by decide +kernel
theorem dX11_asked_148 : decode cX11_asked 148 = .ok (.iload_n 2, 1) := by decide +kernel
theorem dX11_asked_149 : decode cX11_asked 149 = .ok (.ireturn, 1) := by decide +kernel
theorem wd_1776 : (Cond.code ⟨"WebCourtModel", "asked", "(II)I"⟩ prog_13_method_38_code (3 : Nat) (Option.some FieldType.int)) ∈ gtb := gtb_c7 227 (by decide +kernel) rfl
theorem wd_1398 : (Cond.fieldLink "WebCourtModel" (358 : Nat) "WebCourtModel" "askCase" "I") ∈ gtb := gtb_c6 89 (by decide +kernel) rfl
theorem gf_RX11_358 {p : Program} {l : Launch} {e : Env} {R : Room} {s : State} {m : MethodId} {args : Array Value} {below : List Frame} {meth : Method} {c : Code} {H : Heap} {locs : List Loc} {cells slots : Nat} {Q : State → Prop} {cc : ByteArray} {pc nL : Nat} {ls : Array Slot} {rest : List Value} {D : va_G} {cy : Nat → ClassId} {A : Nat → Prop} {ws : va_W} {b : Nat} {fs : List Value} {v : Value} (C : Cx p s m args c cc nL RX11 D cy A) (hO : Wo D A ws s.heap H locs) (q0 : Nat) (he : ws[q0]? = some (b, .inr (11, fs))) (hv : fs[42]? = some v) (hdg : decode cc pc = .ok (.getfield 358, 3)) (kk : W p l e R s m args below meth c H locs cells slots Q (F0 m (pc + 3) ls (v :: rest))) : W p l e R s m args below meth c H locs cells slots Q (F0 m pc ls (.ref b :: rest)) := gF (k := 42) C hO q0 he rfl inFX11 (by decide) wd_1398 rfl hv hdg kk
theorem wd_1781 : (Cond.methodLink "WebCourtModel" (361 : Nat) ⟨"WebCourtModel", "kinOf", "(I)I"⟩) ∈ gtb := gtb_c7 232 (by decide +kernel) rfl
theorem wd_1783 : (Cond.instanceMethod ⟨"WebCourtModel", "kinOf", "(I)I"⟩) ∈ gtb := gtb_c7 234 (by decide +kernel) rfl
theorem wd_89 : (Cond.selects "WebCourtModel" ⟨"WebCourtModel", "kinOf", "(I)I"⟩ ⟨"WebCourtModel", "kinOf", "(I)I"⟩) ∈ gtb := gtb_p 89 (by decide +kernel) rfl
theorem hd_yX11_kinOf : yX11_kinOf.cls = RX11 ∧ yX11_kinOf.cls ≠ "java/lang/invoke/MethodHandle" ∧ yX11_kinOf.cls ≠ "java/lang/invoke/VarHandle" ∧ (parseMethodDescriptor yX11_kinOf.desc).map (fun d => d.parameters.length) = some 1 := by decide +kernel
theorem wd_1399 : (Cond.fieldLink "WebCourtModel" (352 : Nat) "WebCourtModel" "askPleas" "I") ∈ gtb := gtb_c6 90 (by decide +kernel) rfl
theorem gf_RX11_352 {p : Program} {l : Launch} {e : Env} {R : Room} {s : State} {m : MethodId} {args : Array Value} {below : List Frame} {meth : Method} {c : Code} {H : Heap} {locs : List Loc} {cells slots : Nat} {Q : State → Prop} {cc : ByteArray} {pc nL : Nat} {ls : Array Slot} {rest : List Value} {D : va_G} {cy : Nat → ClassId} {A : Nat → Prop} {ws : va_W} {b : Nat} {fs : List Value} {v : Value} (C : Cx p s m args c cc nL RX11 D cy A) (hO : Wo D A ws s.heap H locs) (q0 : Nat) (he : ws[q0]? = some (b, .inr (11, fs))) (hv : fs[43]? = some v) (hdg : decode cc pc = .ok (.getfield 352, 3)) (kk : W p l e R s m args below meth c H locs cells slots Q (F0 m (pc + 3) ls (v :: rest))) : W p l e R s m args below meth c H locs cells slots Q (F0 m pc ls (.ref b :: rest)) := gF (k := 43) C hO q0 he rfl inFX11 (by decide) wd_1399 rfl hv hdg kk
theorem wd_1777 : (Cond.methodLink "WebCourtModel" (355 : Nat) ⟨"WebCourtModel", "strengthOf", "(I)I"⟩) ∈ gtb := gtb_c7 228 (by decide +kernel) rfl
theorem wd_1779 : (Cond.instanceMethod ⟨"WebCourtModel", "strengthOf", "(I)I"⟩) ∈ gtb := gtb_c7 230 (by decide +kernel) rfl
theorem wd_88 : (Cond.selects "WebCourtModel" ⟨"WebCourtModel", "strengthOf", "(I)I"⟩ ⟨"WebCourtModel", "strengthOf", "(I)I"⟩) ∈ gtb := gtb_p 88 (by decide +kernel) rfl
theorem hd_yX11_strengthOf : yX11_strengthOf.cls = RX11 ∧ yX11_strengthOf.cls ≠ "java/lang/invoke/MethodHandle" ∧ yX11_strengthOf.cls ≠ "java/lang/invoke/VarHandle" ∧ (parseMethodDescriptor yX11_strengthOf.desc).map (fun d => d.parameters.length) = some 1 := by decide +kernel
set_option maxHeartbeats 4000000 in
set_option maxRecDepth 100000 in
theorem T_X11_asked (l : Launch) (D : va_G) (cy : Nat → ClassId) (a : Nat → Nat) (u : St) (hJ : MI a u) (x1 : Int32) (x2 : Int32)  : Mi l D cy (mW cy a) yX11_asked (.code yX11_asked cX11_asked 3 (some .int)) (rmo 3 65) [.ref (a 0), .int x1, .int x2] u (fun (r : Int32) (u' : St) => u' = u) := by
  refine Mi.of (own := RX11) rfl (by decide) (Nat.le_of_ble_eq_true rfl) ?_
  have hT : Km0 u u := Km0.rf
  have hJ0 := hJ
  intro p e s m below meth c A Q ls C hret hO hl
  obtain ⟨hx, hb, hml, hown, ht, hK, hA⟩ := id C
  have hl : lv_has ls 3 [(0, .ref (a 0)), (1, .int x1), (2, .int x2)] := hl
  refine lv_iload_n hx hb dX11_asked_0 rfl (lv_at hl 1 rfl) ?_
  have c1 : ((x1).toInt < 98 ∨ 115 < (x1).toInt) ∨ (x1).toInt = 98 ∨ (x1).toInt = 99 ∨ (x1).toInt = 100 ∨ (x1).toInt = 101 ∨ (x1).toInt = 102 ∨ (x1).toInt = 103 ∨ (x1).toInt = 104 ∨ (x1).toInt = 105 ∨ (x1).toInt = 106 ∨ (x1).toInt = 107 ∨ (x1).toInt = 108 ∨ (x1).toInt = 109 ∨ (x1).toInt = 110 ∨ (x1).toInt = 111 ∨ (x1).toInt = 112 ∨ (x1).toInt = 113 ∨ (x1).toInt = 114 ∨ (x1).toInt = 115 := by omega
  rcases c1 with c1 | c1 | c1 | c1 | c1 | c1 | c1 | c1 | c1 | c1 | c1 | c1 | c1 | c1 | c1 | c1 | c1 | c1 | c1
  · refine lv_tableOut (tgt := 148) hx hb dX11_asked_1 (by rw [show x1.toInt = (x1).toInt from rfl]; exact c1) (by decide) ?_
    refine lv_iload_n hx hb dX11_asked_148 rfl (lv_at hl 2 rfl) ?_
    refine hret _ _ _ _ _ _ dX11_asked_149 rfl ?_ hO
    exact rfl
  · refine lv_tableIn (tgt := 105) hx hb dX11_asked_1 (by rw [c1]; decide) (by rw [c1]; decide) (by rw [c1]; rfl) (by decide) ?_
    refine lv_aload_n hx hb dX11_asked_105 rfl (lv_at hl 0 rfl) ?_
    refine gf_RX11_97 (v := .ref (a 28)) C hO 0 mW_0 rfl dX11_asked_106 ?_
    refine lv_bipush (v := 12) hx hb dX11_asked_109 (by decide) ?_
    refine lv_aload_n hx hb dX11_asked_111 rfl (lv_at hl 0 rfl) ?_
    have g2 : 0 ≤ (fI u 0 42).toInt ∧ (fI u 0 42).toInt ≤ 5 := by have h := MI_42 hJ0; exact h
    refine gf_RX11_358 (v := .int (fI u 0 42)) C hO 0 mW_0 rfl dX11_asked_112 ?_
    refine lv_iadd hx hb dX11_asked_115 ?_
    refine lv_topi (fun z3 ez3 => ?_)
    have e4 : z3.toInt = 12 + ((fI u 0 42)).toInt := by rw [ez3]; exact i_add rfl rfl (by omega)
    refine aI C hO 28 mW_28 (i_in (X := (12 + ((fI u 0 42)).toInt)) e4 (by omega) (by omega)) dX11_asked_116 ?_
    refine tE (y := (fA u 28 (z3).toNatClampNeg)) (by exact rfl) ?_
    refine hret _ _ _ _ _ _ dX11_asked_117 rfl ?_ hO
    exact rfl
  · refine lv_tableIn (tgt := 148) hx hb dX11_asked_1 (by rw [c1]; decide) (by rw [c1]; decide) (by rw [c1]; rfl) (by decide) ?_
    refine lv_iload_n hx hb dX11_asked_148 rfl (lv_at hl 2 rfl) ?_
    refine hret _ _ _ _ _ _ dX11_asked_149 rfl ?_ hO
    exact rfl
  · refine lv_tableIn (tgt := 148) hx hb dX11_asked_1 (by rw [c1]; decide) (by rw [c1]; decide) (by rw [c1]; rfl) (by decide) ?_
    refine lv_iload_n hx hb dX11_asked_148 rfl (lv_at hl 2 rfl) ?_
    refine hret _ _ _ _ _ _ dX11_asked_149 rfl ?_ hO
    exact rfl
  · refine lv_tableIn (tgt := 148) hx hb dX11_asked_1 (by rw [c1]; decide) (by rw [c1]; decide) (by rw [c1]; rfl) (by decide) ?_
    refine lv_iload_n hx hb dX11_asked_148 rfl (lv_at hl 2 rfl) ?_
    refine hret _ _ _ _ _ _ dX11_asked_149 rfl ?_ hO
    exact rfl
  · refine lv_tableIn (tgt := 148) hx hb dX11_asked_1 (by rw [c1]; decide) (by rw [c1]; decide) (by rw [c1]; rfl) (by decide) ?_
    refine lv_iload_n hx hb dX11_asked_148 rfl (lv_at hl 2 rfl) ?_
    refine hret _ _ _ _ _ _ dX11_asked_149 rfl ?_ hO
    exact rfl
  · refine lv_tableIn (tgt := 148) hx hb dX11_asked_1 (by rw [c1]; decide) (by rw [c1]; decide) (by rw [c1]; rfl) (by decide) ?_
    refine lv_iload_n hx hb dX11_asked_148 rfl (lv_at hl 2 rfl) ?_
    refine hret _ _ _ _ _ _ dX11_asked_149 rfl ?_ hO
    exact rfl
  · refine lv_tableIn (tgt := 140) hx hb dX11_asked_1 (by rw [c1]; decide) (by rw [c1]; decide) (by rw [c1]; rfl) (by decide) ?_
    refine lv_aload_n hx hb dX11_asked_140 rfl (lv_at hl 0 rfl) ?_
    refine gf_RX11_97 (v := .ref (a 28)) C hO 0 mW_0 rfl dX11_asked_141 ?_
    refine lv_bipush (v := 25) hx hb dX11_asked_144 (by decide) ?_
    refine aI C hO 28 mW_28 (i_in (X := 25) rfl (by omega) (by omega)) dX11_asked_146 ?_
    refine tE (y := (fA u 28 25)) (by exact rfl) ?_
    refine hret _ _ _ _ _ _ dX11_asked_147 rfl ?_ hO
    exact rfl
  · refine lv_tableIn (tgt := 148) hx hb dX11_asked_1 (by rw [c1]; decide) (by rw [c1]; decide) (by rw [c1]; rfl) (by decide) ?_
    refine lv_iload_n hx hb dX11_asked_148 rfl (lv_at hl 2 rfl) ?_
    refine hret _ _ _ _ _ _ dX11_asked_149 rfl ?_ hO
    exact rfl
  · refine lv_tableIn (tgt := 148) hx hb dX11_asked_1 (by rw [c1]; decide) (by rw [c1]; decide) (by rw [c1]; rfl) (by decide) ?_
    refine lv_iload_n hx hb dX11_asked_148 rfl (lv_at hl 2 rfl) ?_
    refine hret _ _ _ _ _ _ dX11_asked_149 rfl ?_ hO
    exact rfl
  · refine lv_tableIn (tgt := 131) hx hb dX11_asked_1 (by rw [c1]; decide) (by rw [c1]; decide) (by rw [c1]; rfl) (by decide) ?_
    refine lv_aload_n hx hb dX11_asked_131 rfl (lv_at hl 0 rfl) ?_
    refine lv_aload_n hx hb dX11_asked_132 rfl (lv_at hl 0 rfl) ?_
    have g5 : 0 ≤ (fI u 0 42).toInt ∧ (fI u 0 42).toInt ≤ 5 := by have h := MI_42 hJ0; exact h
    refine gf_RX11_358 (v := .int (fI u 0 42)) C hO 0 mW_0 rfl dX11_asked_133 ?_
    refine cVi (w := mW cy a) (As := [.int (fI u 0 42)]) (rest := []) C hO (T_X11_kinOf l D cy a _ (by exact hJ) ((fI u 0 42)) (by first | omega | decide)) (cwV 1 ht (gV wd_1781 wd_1783 wd_89 wd_121 wd_1784) rfl rfl rfl hd_yX11_kinOf ⟨Nat.le_of_ble_eq_true rfl, Nat.le_of_ble_eq_true rfl⟩) 0 rfl mW_0 rfl rfl hl.1 (Nat.le_of_ble_eq_true rfl) dX11_asked_136 rfl ⟨Nat.zero_le _, Nat.zero_le _⟩ (fun r6 u7 H locs hp8 hO => ?_)
    have hu7 := hp8
    rw [hu7] at hO
    refine hret _ _ _ _ _ _ dX11_asked_139 rfl ?_ hO
    exact rfl
  · refine lv_tableIn (tgt := 148) hx hb dX11_asked_1 (by rw [c1]; decide) (by rw [c1]; decide) (by rw [c1]; rfl) (by decide) ?_
    refine lv_iload_n hx hb dX11_asked_148 rfl (lv_at hl 2 rfl) ?_
    refine hret _ _ _ _ _ _ dX11_asked_149 rfl ?_ hO
    exact rfl
  · refine lv_tableIn (tgt := 97) hx hb dX11_asked_1 (by rw [c1]; decide) (by rw [c1]; decide) (by rw [c1]; rfl) (by decide) ?_
    refine lv_aload_n hx hb dX11_asked_97 rfl (lv_at hl 0 rfl) ?_
    refine gf_RX11_352 (v := .int (fI u 0 43)) C hO 0 mW_0 rfl dX11_asked_98 ?_
    refine cSi (w := mW cy a) (As := [.int (fI u 0 43)]) (rest := []) C hO (T_X11_bitsOf l D cy a _ (by exact hJ) ((fI u 0 43))) (va_cwS 1 ht (gSS wd_1663 wd_1664 wd_121 wd_1665) rfl rfl rfl hd_yX11_bitsOf ⟨Nat.le_of_ble_eq_true rfl, Nat.le_of_ble_eq_true rfl⟩)  rfl hl.1 (Nat.le_of_ble_eq_true rfl) dX11_asked_101 rfl ⟨Nat.zero_le _, Nat.zero_le _⟩ (fun r9 u10 H locs hp11 hO => ?_)
    have hu10 := hp11
    rw [hu10] at hO
    refine hret _ _ _ _ _ _ dX11_asked_104 rfl ?_ hO
    exact rfl
  · refine lv_tableIn (tgt := 148) hx hb dX11_asked_1 (by rw [c1]; decide) (by rw [c1]; decide) (by rw [c1]; rfl) (by decide) ?_
    refine lv_iload_n hx hb dX11_asked_148 rfl (lv_at hl 2 rfl) ?_
    refine hret _ _ _ _ _ _ dX11_asked_149 rfl ?_ hO
    exact rfl
  · refine lv_tableIn (tgt := 148) hx hb dX11_asked_1 (by rw [c1]; decide) (by rw [c1]; decide) (by rw [c1]; rfl) (by decide) ?_
    refine lv_iload_n hx hb dX11_asked_148 rfl (lv_at hl 2 rfl) ?_
    refine hret _ _ _ _ _ _ dX11_asked_149 rfl ?_ hO
    exact rfl
  · refine lv_tableIn (tgt := 88) hx hb dX11_asked_1 (by rw [c1]; decide) (by rw [c1]; decide) (by rw [c1]; rfl) (by decide) ?_
    refine lv_aload_n hx hb dX11_asked_88 rfl (lv_at hl 0 rfl) ?_
    refine lv_aload_n hx hb dX11_asked_89 rfl (lv_at hl 0 rfl) ?_
    refine gf_RX11_352 (v := .int (fI u 0 43)) C hO 0 mW_0 rfl dX11_asked_90 ?_
    have g12 : 0 ≤ (fI u 0 36).toInt ∧ (fI u 0 36).toInt ≤ 1 := by have h := MI_36 hJ0; exact h
    have g13 : 0 ≤ (fA u 5 ((fI u 0 36)).toNatClampNeg).toInt ∧ (fA u 5 ((fI u 0 36)).toNatClampNeg).toInt ≤ 8 := by have h := MI_A5 hJ0 ((fI u 0 36)).toNatClampNeg; exact h
    refine cVi (w := mW cy a) (As := [.int (fI u 0 43)]) (rest := []) C hO (T_X11_strengthOf l D cy a _ (by exact hJ) ((fA u 5 ((fI u 0 36)).toNatClampNeg)) (by exact rfl) ((fI u 0 43))) (cwV 1 ht (gV wd_1777 wd_1779 wd_88 wd_121 wd_1780) rfl rfl rfl hd_yX11_strengthOf ⟨Nat.le_of_ble_eq_true rfl, Nat.le_of_ble_eq_true rfl⟩) 0 rfl mW_0 rfl rfl hl.1 (Nat.le_of_ble_eq_true rfl) dX11_asked_93 rfl ⟨Nat.zero_le _, Nat.zero_le _⟩ (fun r14 u15 H locs hp16 hO => ?_)
    have hu15 := hp16
    rw [hu15] at hO
    refine hret _ _ _ _ _ _ dX11_asked_96 rfl ?_ hO
    exact rfl
  · refine lv_tableIn (tgt := 148) hx hb dX11_asked_1 (by rw [c1]; decide) (by rw [c1]; decide) (by rw [c1]; rfl) (by decide) ?_
    refine lv_iload_n hx hb dX11_asked_148 rfl (lv_at hl 2 rfl) ?_
    refine hret _ _ _ _ _ _ dX11_asked_149 rfl ?_ hO
    exact rfl
  · refine lv_tableIn (tgt := 148) hx hb dX11_asked_1 (by rw [c1]; decide) (by rw [c1]; decide) (by rw [c1]; rfl) (by decide) ?_
    refine lv_iload_n hx hb dX11_asked_148 rfl (lv_at hl 2 rfl) ?_
    refine hret _ _ _ _ _ _ dX11_asked_149 rfl ?_ hO
    exact rfl
  · refine lv_tableIn (tgt := 118) hx hb dX11_asked_1 (by rw [c1]; decide) (by rw [c1]; decide) (by rw [c1]; rfl) (by decide) ?_
    refine lv_aload_n hx hb dX11_asked_118 rfl (lv_at hl 0 rfl) ?_
    refine gf_RX11_97 (v := .ref (a 28)) C hO 0 mW_0 rfl dX11_asked_119 ?_
    refine lv_bipush (v := 18) hx hb dX11_asked_122 (by decide) ?_
    refine lv_aload_n hx hb dX11_asked_124 rfl (lv_at hl 0 rfl) ?_
    have g17 : 0 ≤ (fI u 0 42).toInt ∧ (fI u 0 42).toInt ≤ 5 := by have h := MI_42 hJ0; exact h
    refine gf_RX11_358 (v := .int (fI u 0 42)) C hO 0 mW_0 rfl dX11_asked_125 ?_
    refine lv_iadd hx hb dX11_asked_128 ?_
    refine lv_topi (fun z18 ez18 => ?_)
    have e19 : z18.toInt = 18 + ((fI u 0 42)).toInt := by rw [ez18]; exact i_add rfl rfl (by omega)
    refine aI C hO 28 mW_28 (i_in (X := (18 + ((fI u 0 42)).toInt)) e19 (by omega) (by omega)) dX11_asked_129 ?_
    refine tE (y := (fA u 28 (z18).toNatClampNeg)) (by exact rfl) ?_
    refine hret _ _ _ _ _ _ dX11_asked_130 rfl ?_ hO
    exact rfl
