theorem dX8_shortenOver_0 : decode cX8_shortenOver 0 = .ok (.iconst 0, 1) := by decide +kernel
theorem dX8_shortenOver_1 : decode cX8_shortenOver 1 = .ok (.istore_n 2, 1) := by decide +kernel
theorem dX8_shortenOver_2 : decode cX8_shortenOver 2 = .ok (.iload_n 2, 1) := by decide +kernel
theorem dX8_shortenOver_3 : decode cX8_shortenOver 3 = .ok (.bipush 8, 2) := by decide +kernel
theorem dX8_shortenOver_5 : decode cX8_shortenOver 5 = .ok (.if_icmp .ge 77, 3) := by decide +kernel
theorem dX8_shortenOver_8 : decode cX8_shortenOver 8 = .ok (.iconst 0, 1) := by decide +kernel
theorem dX8_shortenOver_9 : decode cX8_shortenOver 9 = .ok (.istore_n 3, 1) := by decide +kernel
theorem dX8_shortenOver_10 : decode cX8_shortenOver 10 = .ok (.iload_n 3, 1) := by decide +kernel
theorem dX8_shortenOver_11 : decode cX8_shortenOver 11 = .ok (.bipush 8, 2) := by decide +kernel
theorem dX8_shortenOver_13 : decode cX8_shortenOver 13 = .ok (.if_icmp .ge 63, 3) := by decide +kernel
theorem dX8_shortenOver_16 : decode cX8_shortenOver 16 = .ok (.aload_n 0, 1) := by decide +kernel
theorem dX8_shortenOver_17 : decode cX8_shortenOver 17 = .ok (.getfield 9, 3) := by decide +kernel
theorem dX8_shortenOver_20 : decode cX8_shortenOver 20 = .ok (.iload_n 2, 1) := by decide +kernel
theorem dX8_shortenOver_21 : decode cX8_shortenOver 21 = .ok (.bipush 8, 2) := by decide +kernel
theorem dX8_shortenOver_23 : decode cX8_shortenOver 23 = .ok (.imul, 1) := by decide +kernel
theorem dX8_shortenOver_24 : decode cX8_shortenOver 24 = .ok (.iload_n 1, 1) := by decide +kernel
theorem dX8_shortenOver_25 : decode cX8_shortenOver 25 = .ok (.iadd, 1) := by decide +kernel
theorem dX8_shortenOver_26 : decode cX8_shortenOver 26 = .ok (.iaload, 1) := by decide +kernel
theorem dX8_shortenOver_27 : decode cX8_shortenOver 27 = .ok (.aload_n 0, 1) := by decide +kernel
theorem dX8_shortenOver_28 : decode cX8_shortenOver 28 = .ok (.getfield 9, 3) := by decide +kernel
theorem dX8_shortenOver_31 : decode cX8_shortenOver 31 = .ok (.iload_n 1, 1) := by decide +kernel
theorem dX8_shortenOver_32 : decode cX8_shortenOver 32 = .ok (.bipush 8, 2) := by decide +kernel
theorem dX8_shortenOver_34 : decode cX8_shortenOver 34 = .ok (.imul, 1) := by decide +kernel
theorem dX8_shortenOver_35 : decode cX8_shortenOver 35 = .ok (.iload_n 3, 1) := by decide +kernel
theorem dX8_shortenOver_36 : decode cX8_shortenOver 36 = .ok (.iadd, 1) := by decide +kernel
theorem dX8_shortenOver_37 : decode cX8_shortenOver 37 = .ok (.iaload, 1) := by decide +kernel
theorem dX8_shortenOver_38 : decode cX8_shortenOver 38 = .ok (.iadd, 1) := by decide +kernel
theorem dX8_shortenOver_39 : decode cX8_shortenOver 39 = .ok (.istore 4, 2) := by decide +kernel
theorem dX8_shortenOver_41 : decode cX8_shortenOver 41 = .ok (.iload 4, 2) := by decide +kernel
theorem dX8_shortenOver_43 : decode cX8_shortenOver 43 = .ok (.aload_n 0, 1) := by decide +kernel
theorem dX8_shortenOver_44 : decode cX8_shortenOver 44 = .ok (.getfield 9, 3) := by decide +kernel
theorem dX8_shortenOver_47 : decode cX8_shortenOver 47 = .ok (.iload_n 2, 1) := by decide +kernel
theorem dX8_shortenOver_48 : decode cX8_shortenOver 48 = .ok (.bipush 8, 2) := by decide +kernel
theorem dX8_shortenOver_50 : decode cX8_shortenOver 50 = .ok (.imul, 1) := by decide +kernel
theorem dX8_shortenOver_51 : decode cX8_shortenOver 51 = .ok (.iload_n 3, 1) := by decide +kernel
theorem dX8_shortenOver_52 : decode cX8_shortenOver 52 = .ok (.iadd, 1) := by decide +kernel
theorem dX8_shortenOver_53 : decode cX8_shortenOver 53 = .ok (.iaload, 1) := by decide +kernel
theorem dX8_shortenOver_54 : decode cX8_shortenOver 54 = .ok (.if_icmp .ge 16, 3) := by decide +kernel
theorem dX8_shortenOver_57 : decode cX8_shortenOver 57 = .ok (.aload_n 0, 1) := by decide +kernel
theorem dX8_shortenOver_58 : decode cX8_shortenOver 58 = .ok (.getfield 9, 3) := by decide +kernel
theorem dX8_shortenOver_61 : decode cX8_shortenOver 61 = .ok (.iload_n 2, 1) := by decide +kernel
theorem dX8_shortenOver_62 : decode cX8_shortenOver 62 = .ok (.bipush 8, 2) := by decide +kernel
theorem dX8_shortenOver_64 : decode cX8_shortenOver 64 = .ok (.imul, 1) := by decide +kernel
theorem dX8_shortenOver_65 : decode cX8_shortenOver 65 = .ok (.iload_n 3, 1) := by decide +kernel
theorem dX8_shortenOver_66 : decode cX8_shortenOver 66 = .ok (.iadd, 1) := by decide +kernel
theorem dX8_shortenOver_67 : decode cX8_shortenOver 67 = .ok (.iload 4, 2) := by decide +kernel
theorem dX8_shortenOver_69 : decode cX8_shortenOver 69 = .ok (.iastore, 1) := by decide +kernel
theorem dX8_shortenOver_70 : decode cX8_shortenOver 70 = .ok (.iinc 3 1, 3) := by decide +kernel
theorem dX8_shortenOver_73 : decode cX8_shortenOver 73 = .ok (.goto (-63), 3) := by decide +kernel
theorem dX8_shortenOver_76 : decode cX8_shortenOver 76 = .ok (.iinc 2 1, 3) := by decide +kernel
theorem dX8_shortenOver_79 : decode cX8_shortenOver 79 = .ok (.goto (-77), 3) := by decide +kernel
theorem dX8_shortenOver_82 : decode cX8_shortenOver 82 = .ok (.return_, 1) := by decide +kernel
theorem wd_1016 : (Cond.code ⟨"WebCourt$Ways", "shortenOver", "(I)V"⟩ prog_10_method_4_code (5 : Nat) (Option.none : Option FieldType)) ∈ gtb := gtb_c4 187 (by decide +kernel) rfl
theorem wd_398 : (Cond.fieldLink "WebCourt$Ways" (9 : Nat) "WebCourt$Ways" "between" "[I") ∈ gtb := gtb_c2 49 (by decide +kernel) rfl
theorem gf_RX8_9 {p : Program} {l : Launch} {e : Env} {R : Room} {s : State} {m : MethodId} {args : Array Value} {below : List Frame} {meth : Method} {c : Code} {H : Heap} {locs : List Loc} {cells slots : Nat} {Q : State → Prop} {cc : ByteArray} {pc nL : Nat} {ls : Array Slot} {rest : List Value} {D : va_G} {cy : Nat → ClassId} {A : Nat → Prop} {ws : va_W} {b : Nat} {fs : List Value} {v : Value} (C : Cx p s m args c cc nL RX8 D cy A) (hO : Wo D A ws s.heap H locs) (q0 : Nat) (he : ws[q0]? = some (b, .inr (8, fs))) (hv : fs[1]? = some v) (hdg : decode cc pc = .ok (.getfield 9, 3)) (kk : W p l e R s m args below meth c H locs cells slots Q (F0 m (pc + 3) ls (v :: rest))) : W p l e R s m args below meth c H locs cells slots Q (F0 m pc ls (.ref b :: rest)) := gF (k := 1) C hO q0 he rfl inFX8 (by decide) wd_398 rfl hv hdg kk
set_option maxHeartbeats 4000000 in
set_option maxRecDepth 100000 in
theorem T_X8_shortenOver (l : Launch) (D : va_G) (cy : Nat → ClassId) (a : Nat → Nat) (u : St) (hI_3_12 : fI u 3 12 = 0) (hR_0 : fR u 0 = a 3) (x1 : Int32) (hov : 0 ≤ x1.toInt ∧ x1.toInt ≤ 7) : Mv l D cy (cW cy a) yX8_shortenOver (.code yX8_shortenOver cX8_shortenOver 5 none) (rmo 0 0) [.ref (a 32), .int x1] u (fun (u' : St) => (fR u' 0 = a 3) ∧ (fI u' 3 12 = 0)) := by
  refine Mv.of (own := RX8) rfl (by decide) (Nat.le_of_ble_eq_true rfl) ?_
  intro p e s m below meth c A Q ls C hret hO hl
  obtain ⟨hx, hb, hml, hown, ht, hK, hA⟩ := id C
  have hl : lv_has ls 5 [(0, .ref (a 32)), (1, .int x1)] := hl
  refine lv_iconst (v := 0) hx hb dX8_shortenOver_0 (by decide) ?_
  refine lv_istore_n (lv' := [(2, .int 0), (0, .ref (a 32)), (1, .int x1)]) hx hb dX8_shortenOver_1 rfl hl (by decide) rfl (fun ls hl => ?_)
  have LP_2_u1 : ∀ (n : Nat) (u1 : St) (H : Heap) (locs : List Loc) (ls : Array Slot) (i_1 : Int32), Wo D A (cW cy a u1) s.heap H locs → lv_has ls 5 [(2, .int i_1), (0, .ref (a 32)), (1, .int x1)] → fI u1 3 12 = 0 → fR u1 0 = a 3 → 0 ≤ i_1.toInt ∧ i_1.toInt ≤ 8 → 8 - i_1.toInt < (n : Int) → W p l e (rmo 0 0) s m [.ref (a 32), .int x1].toArray below meth c H locs 0 0 Q (F0 m 2 ls []) := by
    intro n
    induction n with
    | zero =>
      intro u1 H locs ls i_1 hO hl hI_3_12_u1 hR_0_u1 iv0_u1 hm_u1
      exact absurd hm_u1 (by omega)
    | succ n ih_u1 =>
      intro u1 H locs ls i_1 hO hl hI_3_12_u1 hR_0_u1 iv0_u1 hm_u1
      refine lv_iload_n hx hb dX8_shortenOver_2 rfl (lv_at hl 0 rfl) ?_
      refine lv_bipush (v := 8) hx hb dX8_shortenOver_3 (by decide) ?_
      refine cs_ge (tgt := 82) (X := (i_1).toInt) (Y := 8) hx hb dX8_shortenOver_5 (by decide) rfl rfl (fun c3 => ?_) (fun c3 => ?_)
      · refine hret _ _ _ _ _ dX8_shortenOver_82 ?_ hO
        exact ⟨hR_0_u1, hI_3_12_u1⟩
      · refine lv_iconst (v := 0) hx hb dX8_shortenOver_8 (by decide) ?_
        refine lv_istore_n (lv' := [(3, .int 0), (2, .int i_1), (0, .ref (a 32)), (1, .int x1)]) hx hb dX8_shortenOver_9 rfl hl (by decide) rfl (fun ls hl => ?_)
        have LP_10_u4 : ∀ (n : Nat) (u4 : St) (H : Heap) (locs : List Loc) (ls : Array Slot) (j_4 : Int32), Wo D A (cW cy a u4) s.heap H locs → lv_has ls 5 [(3, .int j_4), (2, .int i_1), (0, .ref (a 32)), (1, .int x1)] → fI u4 3 12 = 0 → fR u4 0 = a 3 → 0 ≤ j_4.toInt ∧ j_4.toInt ≤ 8 → 8 - j_4.toInt < (n : Int) → W p l e (rmo 0 0) s m [.ref (a 32), .int x1].toArray below meth c H locs 0 0 Q (F0 m 10 ls []) := by
          intro n
          induction n with
          | zero =>
            intro u4 H locs ls j_4 hO hl hI_3_12_u4 hR_0_u4 iv0_u4 hm_u4
            exact absurd hm_u4 (by omega)
          | succ n ih_u4 =>
            intro u4 H locs ls j_4 hO hl hI_3_12_u4 hR_0_u4 iv0_u4 hm_u4
            refine lv_iload_n hx hb dX8_shortenOver_10 rfl (lv_at hl 0 rfl) ?_
            refine lv_bipush (v := 8) hx hb dX8_shortenOver_11 (by decide) ?_
            refine cs_ge (tgt := 76) (X := (j_4).toInt) (Y := 8) hx hb dX8_shortenOver_13 (by decide) rfl rfl (fun c6 => ?_) (fun c6 => ?_)
            · have e7 : ((i_1 + 1)).toInt = (i_1).toInt + 1 := i_add rfl rfl (by omega)
              refine lv_iinc (v := (i_1 + 1)) (lv' := [(2, .int (i_1 + 1)), (3, .int j_4), (0, .ref (a 32)), (1, .int x1)]) hx hb dX8_shortenOver_76 hl (k := 1) rfl rfl (by decide) rfl (fun ls hl => ?_)
              refine lv_goto (tgt := 2) hx hb dX8_shortenOver_79 (by decide) ?_
              exact ih_u1 _ _ _ _ ((i_1 + 1)) hO (lv_sub hl [0, 2, 3] rfl) (by exact hI_3_12_u4) (by exact hR_0_u4) (by first | decide | omega) (by first | decide | omega)
            · refine lv_aload_n hx hb dX8_shortenOver_16 rfl (lv_at hl 2 rfl) ?_
              refine gf_RX8_9 (v := .ref (a 33)) C hO 32 cW_32 rfl dX8_shortenOver_17 ?_
              refine lv_iload_n hx hb dX8_shortenOver_20 rfl (lv_at hl 1 rfl) ?_
              refine lv_bipush (v := 8) hx hb dX8_shortenOver_21 (by decide) ?_
              have e8 : ((i_1 * 8)).toInt = (i_1).toInt * 8 := i_mul rfl rfl (by omega)
              refine lv_imul hx hb dX8_shortenOver_23 ?_
              refine lv_iload_n hx hb dX8_shortenOver_24 rfl (lv_at hl 3 rfl) ?_
              have e9 : (((i_1 * 8) + x1)).toInt = ((i_1).toInt * 8) + (x1).toInt := i_add e8 rfl (by omega)
              refine lv_iadd hx hb dX8_shortenOver_25 ?_
              refine aI C hO 33 cW_33 (i_in (X := (((i_1).toInt * 8) + (x1).toInt)) e9 (by omega) (by omega)) dX8_shortenOver_26 ?_
              refine lv_topi (fun w10 ew10 => ?_)
              refine lv_aload_n hx hb dX8_shortenOver_27 rfl (lv_at hl 2 rfl) ?_
              refine gf_RX8_9 (v := .ref (a 33)) C hO 32 cW_32 rfl dX8_shortenOver_28 ?_
              refine lv_iload_n hx hb dX8_shortenOver_31 rfl (lv_at hl 3 rfl) ?_
              refine lv_bipush (v := 8) hx hb dX8_shortenOver_32 (by decide) ?_
              have e11 : ((x1 * 8)).toInt = (x1).toInt * 8 := i_mul rfl rfl (by omega)
              refine lv_imul hx hb dX8_shortenOver_34 ?_
              refine lv_iload_n hx hb dX8_shortenOver_35 rfl (lv_at hl 0 rfl) ?_
              have e12 : (((x1 * 8) + j_4)).toInt = ((x1).toInt * 8) + (j_4).toInt := i_add e11 rfl (by omega)
              refine lv_iadd hx hb dX8_shortenOver_36 ?_
              refine aI C hO 33 cW_33 (i_in (X := (((x1).toInt * 8) + (j_4).toInt)) e12 (by omega) (by omega)) dX8_shortenOver_37 ?_
              refine lv_topi (fun w13 ew13 => ?_)
              refine lv_iadd hx hb dX8_shortenOver_38 ?_
              refine lv_istore (lv' := [(4, .int (w10 + w13)), (3, .int j_4), (2, .int i_1), (0, .ref (a 32)), (1, .int x1)]) hx hb dX8_shortenOver_39 hl (by decide) rfl (fun ls hl => ?_)
              refine lv_iload hx hb dX8_shortenOver_41 (lv_at hl 0 rfl) ?_
              refine lv_aload_n hx hb dX8_shortenOver_43 rfl (lv_at hl 3 rfl) ?_
              refine gf_RX8_9 (v := .ref (a 33)) C hO 32 cW_32 rfl dX8_shortenOver_44 ?_
              refine lv_iload_n hx hb dX8_shortenOver_47 rfl (lv_at hl 2 rfl) ?_
              refine lv_bipush (v := 8) hx hb dX8_shortenOver_48 (by decide) ?_
              have e14 : ((i_1 * 8)).toInt = (i_1).toInt * 8 := i_mul rfl rfl (by omega)
              refine lv_imul hx hb dX8_shortenOver_50 ?_
              refine lv_iload_n hx hb dX8_shortenOver_51 rfl (lv_at hl 1 rfl) ?_
              have e15 : (((i_1 * 8) + j_4)).toInt = ((i_1).toInt * 8) + (j_4).toInt := i_add e14 rfl (by omega)
              refine lv_iadd hx hb dX8_shortenOver_52 ?_
              refine aI C hO 33 cW_33 (i_in (X := (((i_1).toInt * 8) + (j_4).toInt)) e15 (by omega) (by omega)) dX8_shortenOver_53 ?_
              refine lv_topi (fun w16 ew16 => ?_)
              refine cs_ge (tgt := 70) (X := ((w10 + w13)).toInt) (Y := (w16).toInt) hx hb dX8_shortenOver_54 (by decide) rfl rfl (fun c17 => ?_) (fun c17 => ?_)
              · have e18 : ((j_4 + 1)).toInt = (j_4).toInt + 1 := i_add rfl rfl (by omega)
                refine lv_iinc (v := (j_4 + 1)) (lv' := [(3, .int (j_4 + 1)), (4, .int (w10 + w13)), (2, .int i_1), (0, .ref (a 32)), (1, .int x1)]) hx hb dX8_shortenOver_70 hl (k := 1) rfl rfl (by decide) rfl (fun ls hl => ?_)
                refine lv_goto (tgt := 10) hx hb dX8_shortenOver_73 (by decide) ?_
                exact ih_u4 _ _ _ _ ((j_4 + 1)) hO (lv_sub hl [0, 2, 3, 4] rfl) (by exact hI_3_12_u4) (by exact hR_0_u4) (by first | decide | omega) (by first | decide | omega)
              · refine lv_aload_n hx hb dX8_shortenOver_57 rfl (lv_at hl 3 rfl) ?_
                refine gf_RX8_9 (v := .ref (a 33)) C hO 32 cW_32 rfl dX8_shortenOver_58 ?_
                refine lv_iload_n hx hb dX8_shortenOver_61 rfl (lv_at hl 2 rfl) ?_
                refine lv_bipush (v := 8) hx hb dX8_shortenOver_62 (by decide) ?_
                have e19 : ((i_1 * 8)).toInt = (i_1).toInt * 8 := i_mul rfl rfl (by omega)
                refine lv_imul hx hb dX8_shortenOver_64 ?_
                refine lv_iload_n hx hb dX8_shortenOver_65 rfl (lv_at hl 1 rfl) ?_
                have e20 : (((i_1 * 8) + j_4)).toInt = ((i_1).toInt * 8) + (j_4).toInt := i_add e19 rfl (by omega)
                refine lv_iadd hx hb dX8_shortenOver_66 ?_
                refine lv_iload hx hb dX8_shortenOver_67 (lv_at hl 0 rfl) ?_
                refine aIs C hO 33 cW_33 (i_in (X := (((i_1).toInt * 8) + (j_4).toInt)) e20 (by omega) (by omega)) cW_s33 dX8_shortenOver_69 (fun H locs hO => ?_)
                have e21 : ((j_4 + 1)).toInt = (j_4).toInt + 1 := i_add rfl rfl (by omega)
                refine lv_iinc (v := (j_4 + 1)) (lv' := [(3, .int (j_4 + 1)), (4, .int (w10 + w13)), (2, .int i_1), (0, .ref (a 32)), (1, .int x1)]) hx hb dX8_shortenOver_70 hl (k := 1) rfl rfl (by decide) rfl (fun ls hl => ?_)
                refine lv_goto (tgt := 10) hx hb dX8_shortenOver_73 (by decide) ?_
                exact ih_u4 _ _ _ _ ((j_4 + 1)) hO (lv_sub hl [0, 2, 3, 4] rfl) (by exact hI_3_12_u4) (by exact hR_0_u4) (by first | decide | omega) (by first | decide | omega)
        exact LP_10_u4 2000 _ _ _ _ (0) hO (lv_sub hl [0, 1, 2, 3] rfl) (by exact hI_3_12_u1) (by exact hR_0_u1) (by first | decide | omega) (by first | decide | omega)
  exact LP_2_u1 2000 _ _ _ _ (0) hO (lv_sub hl [0, 1, 2] rfl) (by exact hI_3_12) (by exact hR_0) (by first | decide | omega) (by first | decide | omega)
theorem dX8_measure_0 : decode cX8_measure 0 = .ok (.iconst 0, 1) := by decide +kernel
theorem dX8_measure_1 : decode cX8_measure 1 = .ok (.istore_n 1, 1) := by decide +kernel
theorem dX8_measure_2 : decode cX8_measure 2 = .ok (.iload_n 1, 1) := by decide +kernel
theorem dX8_measure_3 : decode cX8_measure 3 = .ok (.bipush 8, 2) := by decide +kernel
theorem dX8_measure_5 : decode cX8_measure 5 = .ok (.if_icmp .ge 72, 3) := by decide +kernel
theorem dX8_measure_8 : decode cX8_measure 8 = .ok (.aload_n 0, 1) := by decide +kernel
theorem dX8_measure_9 : decode cX8_measure 9 = .ok (.getfield 15, 3) := by decide +kernel
theorem dX8_measure_12 : decode cX8_measure 12 = .ok (.iload_n 1, 1) := by decide +kernel
theorem dX8_measure_13 : decode cX8_measure 13 = .ok (.iconst 0, 1) := by decide +kernel
theorem dX8_measure_14 : decode cX8_measure 14 = .ok (.invokevirtual 25, 3) := by decide +kernel
theorem dX8_measure_17 : decode cX8_measure 17 = .ok (.istore_n 2, 1) := by decide +kernel
theorem dX8_measure_18 : decode cX8_measure 18 = .ok (.iconst 0, 1) := by decide +kernel
theorem dX8_measure_19 : decode cX8_measure 19 = .ok (.istore_n 3, 1) := by decide +kernel
theorem dX8_measure_20 : decode cX8_measure 20 = .ok (.iload_n 3, 1) := by decide +kernel
theorem dX8_measure_21 : decode cX8_measure 21 = .ok (.bipush 8, 2) := by decide +kernel
theorem dX8_measure_23 : decode cX8_measure 23 = .ok (.if_icmp .ge 48, 3) := by decide +kernel
theorem dX8_measure_26 : decode cX8_measure 26 = .ok (.iload_n 2, 1) := by decide +kernel
theorem dX8_measure_27 : decode cX8_measure 27 = .ok (.iload_n 3, 1) := by decide +kernel
theorem dX8_measure_28 : decode cX8_measure 28 = .ok (.ishr, 1) := by decide +kernel
theorem dX8_measure_29 : decode cX8_measure 29 = .ok (.iconst 1, 1) := by decide +kernel
theorem dX8_measure_30 : decode cX8_measure 30 = .ok (.iand, 1) := by decide +kernel
theorem dX8_measure_31 : decode cX8_measure 31 = .ok (.ifCond .eq 7, 3) := by decide +kernel
theorem dX8_measure_34 : decode cX8_measure 34 = .ok (.iconst 1, 1) := by decide +kernel
theorem dX8_measure_35 : decode cX8_measure 35 = .ok (.goto 6, 3) := by decide +kernel
theorem dX8_measure_38 : decode cX8_measure 38 = .ok (.sipush 1000, 3) := by decide +kernel
theorem dX8_measure_41 : decode cX8_measure 41 = .ok (.istore 4, 2) := by decide +kernel
theorem dX8_measure_43 : decode cX8_measure 43 = .ok (.aload_n 0, 1) := by decide +kernel
theorem dX8_measure_44 : decode cX8_measure 44 = .ok (.getfield 9, 3) := by decide +kernel
theorem dX8_measure_47 : decode cX8_measure 47 = .ok (.iload_n 1, 1) := by decide +kernel
theorem dX8_measure_48 : decode cX8_measure 48 = .ok (.bipush 8, 2) := by decide +kernel
theorem dX8_measure_50 : decode cX8_measure 50 = .ok (.imul, 1) := by decide +kernel
theorem dX8_measure_51 : decode cX8_measure 51 = .ok (.iload_n 3, 1) := by decide +kernel
theorem dX8_measure_52 : decode cX8_measure 52 = .ok (.iadd, 1) := by decide +kernel
theorem dX8_measure_53 : decode cX8_measure 53 = .ok (.iload_n 1, 1) := by decide +kernel
theorem dX8_measure_54 : decode cX8_measure 54 = .ok (.iload_n 3, 1) := by decide +kernel
theorem dX8_measure_55 : decode cX8_measure 55 = .ok (.if_icmp .ne 7, 3) := by decide +kernel
theorem dX8_measure_58 : decode cX8_measure 58 = .ok (.iconst 0, 1) := by decide +kernel
theorem dX8_measure_59 : decode cX8_measure 59 = .ok (.goto 5, 3) := by decide +kernel
theorem dX8_measure_62 : decode cX8_measure 62 = .ok (.iload 4, 2) := by decide +kernel
theorem dX8_measure_64 : decode cX8_measure 64 = .ok (.iastore, 1) := by decide +kernel
theorem dX8_measure_65 : decode cX8_measure 65 = .ok (.iinc 3 1, 3) := by decide +kernel
theorem dX8_measure_68 : decode cX8_measure 68 = .ok (.goto (-48), 3) := by decide +kernel
theorem dX8_measure_71 : decode cX8_measure 71 = .ok (.iinc 1 1, 3) := by decide +kernel
theorem dX8_measure_74 : decode cX8_measure 74 = .ok (.goto (-72), 3) := by decide +kernel
theorem dX8_measure_77 : decode cX8_measure 77 = .ok (.iconst 0, 1) := by decide +kernel
theorem dX8_measure_78 : decode cX8_measure 78 = .ok (.istore_n 1, 1) := by decide +kernel
theorem dX8_measure_79 : decode cX8_measure 79 = .ok (.iload_n 1, 1) := by decide +kernel
theorem dX8_measure_80 : decode cX8_measure 80 = .ok (.bipush 8, 2) := by decide +kernel
theorem dX8_measure_82 : decode cX8_measure 82 = .ok (.if_icmp .ge 14, 3) := by decide +kernel
theorem dX8_measure_85 : decode cX8_measure 85 = .ok (.aload_n 0, 1) := by decide +kernel
theorem dX8_measure_86 : decode cX8_measure 86 = .ok (.iload_n 1, 1) := by decide +kernel
theorem dX8_measure_87 : decode cX8_measure 87 = .ok (.invokevirtual 29, 3) := by decide +kernel
theorem dX8_measure_90 : decode cX8_measure 90 = .ok (.iinc 1 1, 3) := by decide +kernel
theorem dX8_measure_93 : decode cX8_measure 93 = .ok (.goto (-14), 3) := by decide +kernel
theorem dX8_measure_96 : decode cX8_measure 96 = .ok (.return_, 1) := by decide +kernel
theorem wd_1011 : (Cond.code ⟨"WebCourt$Ways", "measure", "()V"⟩ prog_10_method_3_code (5 : Nat) (Option.none : Option FieldType)) ∈ gtb := gtb_c4 182 (by decide +kernel) rfl
theorem wd_1013 : (Cond.methodLink "WebCourt$Ways" (29 : Nat) ⟨"WebCourt$Ways", "shortenOver", "(I)V"⟩) ∈ gtb := gtb_c4 184 (by decide +kernel) rfl
theorem wd_1015 : (Cond.instanceMethod ⟨"WebCourt$Ways", "shortenOver", "(I)V"⟩) ∈ gtb := gtb_c4 186 (by decide +kernel) rfl
theorem wd_33 : (Cond.selects "WebCourt$Ways" ⟨"WebCourt$Ways", "shortenOver", "(I)V"⟩ ⟨"WebCourt$Ways", "shortenOver", "(I)V"⟩) ∈ gtb := gtb_p 33 (by decide +kernel) rfl
theorem hd_yX8_shortenOver : yX8_shortenOver.cls = RX8 ∧ yX8_shortenOver.cls ≠ "java/lang/invoke/MethodHandle" ∧ yX8_shortenOver.cls ≠ "java/lang/invoke/VarHandle" ∧ (parseMethodDescriptor yX8_shortenOver.desc).map (fun d => d.parameters.length) = some 1 := by decide +kernel
theorem wd_1012 : (Cond.methodLink "WebCourt$Ways" (25 : Nat) ⟨"WebCourt$Court", "nextTo", "(IZ)I"⟩) ∈ gtb := gtb_c4 183 (by decide +kernel) rfl
theorem wd_822 : (Cond.instanceMethod ⟨"WebCourt$Court", "nextTo", "(IZ)I"⟩) ∈ gtb := gtb_c3 233 (by decide +kernel) rfl
theorem wd_823 : (Cond.selects "WebCourt$Court" ⟨"WebCourt$Court", "nextTo", "(IZ)I"⟩ ⟨"WebCourt$Court", "nextTo", "(IZ)I"⟩) ∈ gtb := gtb_c3 234 (by decide +kernel) rfl
theorem hd_yX2_nextTo : yX2_nextTo.cls = RX2 ∧ yX2_nextTo.cls ≠ "java/lang/invoke/MethodHandle" ∧ yX2_nextTo.cls ≠ "java/lang/invoke/VarHandle" ∧ (parseMethodDescriptor yX2_nextTo.desc).map (fun d => d.parameters.length) = some 2 := by decide +kernel
set_option maxHeartbeats 4000000 in
set_option maxRecDepth 100000 in
theorem T_X8_measure (l : Launch) (D : va_G) (cy : Nat → ClassId) (a : Nat → Nat) (u : St) (hI_3_10 : fI u 3 10 = 0) (hI_3_12 : fI u 3 12 = 0) (hR_0 : fR u 0 = a 3)   : Mv l D cy (cW cy a) yX8_measure (.code yX8_measure cX8_measure 5 none) (rmo 1 25) [.ref (a 32)] u (fun (u' : St) => (fR u' 0 = a 3) ∧ (fI u' 3 12 = 0)) := by
  refine Mv.of (own := RX8) rfl (by decide) (Nat.le_of_ble_eq_true rfl) ?_
  intro p e s m below meth c A Q ls C hret hO hl
  obtain ⟨hx, hb, hml, hown, ht, hK, hA⟩ := id C
  have hl : lv_has ls 5 [(0, .ref (a 32))] := hl
  refine lv_iconst (v := 0) hx hb dX8_measure_0 (by decide) ?_
  refine lv_istore_n (lv' := [(1, .int 0), (0, .ref (a 32))]) hx hb dX8_measure_1 rfl hl (by decide) rfl (fun ls hl => ?_)
  have LP_2_u1 : ∀ (n : Nat) (u1 : St) (H : Heap) (locs : List Loc) (ls : Array Slot) (i_1 : Int32), Wo D A (cW cy a u1) s.heap H locs → lv_has ls 5 [(1, .int i_1), (0, .ref (a 32))] → fI u1 3 10 = 0 → fI u1 3 12 = 0 → fR u1 0 = a 3 → 0 ≤ i_1.toInt ∧ i_1.toInt ≤ 8 → 8 - i_1.toInt < (n : Int) → W p l e (rmo 1 25) s m [.ref (a 32)].toArray below meth c H locs 0 0 Q (F0 m 2 ls []) := by
    intro n
    induction n with
    | zero =>
      intro u1 H locs ls i_1 hO hl hI_3_10_u1 hI_3_12_u1 hR_0_u1 iv0_u1 hm_u1
      exact absurd hm_u1 (by omega)
    | succ n ih_u1 =>
      intro u1 H locs ls i_1 hO hl hI_3_10_u1 hI_3_12_u1 hR_0_u1 iv0_u1 hm_u1
      refine lv_iload_n hx hb dX8_measure_2 rfl (lv_at hl 0 rfl) ?_
      refine lv_bipush (v := 8) hx hb dX8_measure_3 (by decide) ?_
      refine cs_ge (tgt := 77) (X := (i_1).toInt) (Y := 8) hx hb dX8_measure_5 (by decide) rfl rfl (fun c3 => ?_) (fun c3 => ?_)
      · refine lv_iconst (v := 0) hx hb dX8_measure_77 (by decide) ?_
        refine lv_istore_n (lv' := [(1, .int 0), (0, .ref (a 32))]) hx hb dX8_measure_78 rfl hl (by decide) rfl (fun ls hl => ?_)
        have LP_79_u4 : ∀ (n : Nat) (u4 : St) (H : Heap) (locs : List Loc) (ls : Array Slot) (k_4 : Int32), Wo D A (cW cy a u4) s.heap H locs → lv_has ls 5 [(1, .int k_4), (0, .ref (a 32))] → fI u4 3 12 = 0 → fR u4 0 = a 3 → 0 ≤ k_4.toInt ∧ k_4.toInt ≤ 8 → 8 - k_4.toInt < (n : Int) → W p l e (rmo 1 25) s m [.ref (a 32)].toArray below meth c H locs 0 0 Q (F0 m 79 ls []) := by
          intro n
          induction n with
          | zero =>
            intro u4 H locs ls k_4 hO hl hI_3_12_u4 hR_0_u4 iv0_u4 hm_u4
            exact absurd hm_u4 (by omega)
          | succ n ih_u4 =>
            intro u4 H locs ls k_4 hO hl hI_3_12_u4 hR_0_u4 iv0_u4 hm_u4
            refine lv_iload_n hx hb dX8_measure_79 rfl (lv_at hl 0 rfl) ?_
            refine lv_bipush (v := 8) hx hb dX8_measure_80 (by decide) ?_
            refine cs_ge (tgt := 96) (X := (k_4).toInt) (Y := 8) hx hb dX8_measure_82 (by decide) rfl rfl (fun c6 => ?_) (fun c6 => ?_)
            · refine hret _ _ _ _ _ dX8_measure_96 ?_ hO
              exact ⟨hR_0_u4, hI_3_12_u4⟩
            · refine lv_aload_n hx hb dX8_measure_85 rfl (lv_at hl 1 rfl) ?_
              refine lv_iload_n hx hb dX8_measure_86 rfl (lv_at hl 0 rfl) ?_
              refine cVv (w := cW cy a) (As := [.int k_4]) (rest := []) C hO (T_X8_shortenOver l D cy a _ (by exact hI_3_12_u4) (by exact hR_0_u4) (k_4) (by omega)) (cwV 1 ht (gV wd_1013 wd_1015 wd_33 wd_117 wd_1016) rfl rfl rfl hd_yX8_shortenOver ⟨Nat.le_of_ble_eq_true rfl, Nat.le_of_ble_eq_true rfl⟩) 32 rfl cW_32 rfl rfl hl.1 (Nat.le_of_ble_eq_true rfl) dX8_measure_87 rfl ⟨Nat.zero_le _, Nat.zero_le _⟩ (fun u8 H locs hp9 hO => ?_)
              obtain ⟨hR_0_u8, hI_3_12_u8⟩ := hp9
              have e10 : ((k_4 + 1)).toInt = (k_4).toInt + 1 := i_add rfl rfl (by omega)
              refine lv_iinc (v := (k_4 + 1)) (lv' := [(1, .int (k_4 + 1)), (0, .ref (a 32))]) hx hb dX8_measure_90 hl (k := 0) rfl rfl (by decide) rfl (fun ls hl => ?_)
              refine lv_goto (tgt := 79) hx hb dX8_measure_93 (by decide) ?_
              exact ih_u4 _ _ _ _ ((k_4 + 1)) hO (lv_sub hl [0, 1] rfl) (by exact hI_3_12_u8) (by exact hR_0_u8) (by first | decide | omega) (by first | decide | omega)
        exact LP_79_u4 2000 _ _ _ _ (0) hO (lv_sub hl [0, 1] rfl) (by exact hI_3_12_u1) (by exact hR_0_u1) (by first | decide | omega) (by first | decide | omega)
      · refine lv_aload_n hx hb dX8_measure_8 rfl (lv_at hl 1 rfl) ?_
        refine gf_RX8_15 (v := .ref (a 28)) C hO 32 cW_32 rfl dX8_measure_9 ?_
        refine lv_iload_n hx hb dX8_measure_12 rfl (lv_at hl 0 rfl) ?_
        refine lv_iconst (v := 0) hx hb dX8_measure_13 (by decide) ?_
        refine cVi (w := cW cy a) (As := [.int i_1, .int 0]) (rest := []) C hO (T_X2_nextTo l D cy a _ (by exact hI_3_10_u1) (by exact hR_0_u1) (i_1) (0)) (cwV 2 ht (gV wd_1012 wd_822 wd_823 wd_115 wd_824) rfl rfl rfl hd_yX2_nextTo ⟨Nat.le_of_ble_eq_true rfl, Nat.le_of_ble_eq_true rfl⟩) 28 rfl cW_28 rfl rfl hl.1 (Nat.le_of_ble_eq_true rfl) dX8_measure_14 rfl ⟨Nat.zero_le _, Nat.zero_le _⟩ (fun r11 u12 H locs hp13 hO => ?_)
        obtain ⟨hr11, hu12⟩ := hp13
        subst hr11
        rw [hu12] at hO
        refine lv_istore_n (lv' := [(2, .int 0), (1, .int i_1), (0, .ref (a 32))]) hx hb dX8_measure_17 rfl hl (by decide) rfl (fun ls hl => ?_)
        refine lv_iconst (v := 0) hx hb dX8_measure_18 (by decide) ?_
        refine lv_istore_n (lv' := [(3, .int 0), (2, .int 0), (1, .int i_1), (0, .ref (a 32))]) hx hb dX8_measure_19 rfl hl (by decide) rfl (fun ls hl => ?_)
        have LP_20_u14 : ∀ (n : Nat) (u14 : St) (H : Heap) (locs : List Loc) (ls : Array Slot) (j_14 : Int32), Wo D A (cW cy a u14) s.heap H locs → lv_has ls 5 [(3, .int j_14), (2, .int 0), (1, .int i_1), (0, .ref (a 32))] → fI u14 3 10 = 0 → fI u14 3 12 = 0 → fR u14 0 = a 3 → 0 ≤ j_14.toInt ∧ j_14.toInt ≤ 8 → 8 - j_14.toInt < (n : Int) → W p l e (rmo 1 25) s m [.ref (a 32)].toArray below meth c H locs 0 0 Q (F0 m 20 ls []) := by
          intro n
          induction n with
          | zero =>
            intro u14 H locs ls j_14 hO hl hI_3_10_u14 hI_3_12_u14 hR_0_u14 iv0_u14 hm_u14
            exact absurd hm_u14 (by omega)
          | succ n ih_u14 =>
            intro u14 H locs ls j_14 hO hl hI_3_10_u14 hI_3_12_u14 hR_0_u14 iv0_u14 hm_u14
            refine lv_iload_n hx hb dX8_measure_20 rfl (lv_at hl 0 rfl) ?_
            refine lv_bipush (v := 8) hx hb dX8_measure_21 (by decide) ?_
            refine cs_ge (tgt := 71) (X := (j_14).toInt) (Y := 8) hx hb dX8_measure_23 (by decide) rfl rfl (fun c16 => ?_) (fun c16 => ?_)
            · have e17 : ((i_1 + 1)).toInt = (i_1).toInt + 1 := i_add rfl rfl (by omega)
              refine lv_iinc (v := (i_1 + 1)) (lv' := [(1, .int (i_1 + 1)), (3, .int j_14), (2, .int 0), (0, .ref (a 32))]) hx hb dX8_measure_71 hl (k := 2) rfl rfl (by decide) rfl (fun ls hl => ?_)
              refine lv_goto (tgt := 2) hx hb dX8_measure_74 (by decide) ?_
              exact ih_u1 _ _ _ _ ((i_1 + 1)) hO (lv_sub hl [0, 3] rfl) (by exact hI_3_10_u14) (by exact hI_3_12_u14) (by exact hR_0_u14) (by first | decide | omega) (by first | decide | omega)
            · refine lv_iload_n hx hb dX8_measure_26 rfl (lv_at hl 1 rfl) ?_
              refine lv_iload_n hx hb dX8_measure_27 rfl (lv_at hl 0 rfl) ?_
              refine lv_ishr hx hb dX8_measure_28 ?_
              refine tE (y := 0) (i_shr0 _) ?_
              refine lv_iconst (v := 1) hx hb dX8_measure_29 (by decide) ?_
              refine lv_iand hx hb dX8_measure_30 ?_
              refine tE (y := 0) (by decide) ?_
              refine bt_eq (tgt := 38) (X := 0) hx hb dX8_measure_31 (by decide) rfl (by omega) ?_
              refine lv_sipush (v := 1000) hx hb dX8_measure_38 (by decide) ?_
              refine lv_istore (lv' := [(4, .int 1000), (3, .int j_14), (2, .int 0), (1, .int i_1), (0, .ref (a 32))]) hx hb dX8_measure_41 hl (by decide) rfl (fun ls hl => ?_)
              refine lv_aload_n hx hb dX8_measure_43 rfl (lv_at hl 4 rfl) ?_
              refine gf_RX8_9 (v := .ref (a 33)) C hO 32 cW_32 rfl dX8_measure_44 ?_
              refine lv_iload_n hx hb dX8_measure_47 rfl (lv_at hl 3 rfl) ?_
              refine lv_bipush (v := 8) hx hb dX8_measure_48 (by decide) ?_
              have e18 : ((i_1 * 8)).toInt = (i_1).toInt * 8 := i_mul rfl rfl (by omega)
              refine lv_imul hx hb dX8_measure_50 ?_
              refine lv_iload_n hx hb dX8_measure_51 rfl (lv_at hl 1 rfl) ?_
              have e19 : (((i_1 * 8) + j_14)).toInt = ((i_1).toInt * 8) + (j_14).toInt := i_add e18 rfl (by omega)
              refine lv_iadd hx hb dX8_measure_52 ?_
              refine lv_iload_n hx hb dX8_measure_53 rfl (lv_at hl 3 rfl) ?_
              refine lv_iload_n hx hb dX8_measure_54 rfl (lv_at hl 1 rfl) ?_
              refine cs_ne (tgt := 62) (X := (i_1).toInt) (Y := (j_14).toInt) hx hb dX8_measure_55 (by decide) rfl rfl (fun c20 => ?_) (fun c20 => ?_)
              · refine lv_iload hx hb dX8_measure_62 (lv_at hl 0 rfl) ?_
                refine aIs C hO 33 cW_33 (i_in (X := (((i_1).toInt * 8) + (j_14).toInt)) e19 (by omega) (by omega)) cW_s33 dX8_measure_64 (fun H locs hO => ?_)
                have e21 : ((j_14 + 1)).toInt = (j_14).toInt + 1 := i_add rfl rfl (by omega)
                refine lv_iinc (v := (j_14 + 1)) (lv' := [(3, .int (j_14 + 1)), (4, .int 1000), (2, .int 0), (1, .int i_1), (0, .ref (a 32))]) hx hb dX8_measure_65 hl (k := 1) rfl rfl (by decide) rfl (fun ls hl => ?_)
                refine lv_goto (tgt := 20) hx hb dX8_measure_68 (by decide) ?_
                exact ih_u14 _ _ _ _ ((j_14 + 1)) hO (lv_sub hl [0, 2, 3, 4] rfl) (by exact hI_3_10_u14) (by exact hI_3_12_u14) (by exact hR_0_u14) (by first | decide | omega) (by first | decide | omega)
              · refine lv_iconst (v := 0) hx hb dX8_measure_58 (by decide) ?_
                refine lv_goto (tgt := 64) hx hb dX8_measure_59 (by decide) ?_
                refine aIs C hO 33 cW_33 (i_in (X := (((i_1).toInt * 8) + (j_14).toInt)) e19 (by omega) (by omega)) cW_s33 dX8_measure_64 (fun H locs hO => ?_)
                have e22 : ((j_14 + 1)).toInt = (j_14).toInt + 1 := i_add rfl rfl (by omega)
                refine lv_iinc (v := (j_14 + 1)) (lv' := [(3, .int (j_14 + 1)), (4, .int 1000), (2, .int 0), (1, .int i_1), (0, .ref (a 32))]) hx hb dX8_measure_65 hl (k := 1) rfl rfl (by decide) rfl (fun ls hl => ?_)
                refine lv_goto (tgt := 20) hx hb dX8_measure_68 (by decide) ?_
                exact ih_u14 _ _ _ _ ((j_14 + 1)) hO (lv_sub hl [0, 2, 3, 4] rfl) (by exact hI_3_10_u14) (by exact hI_3_12_u14) (by exact hR_0_u14) (by first | decide | omega) (by first | decide | omega)
        exact LP_20_u14 2000 _ _ _ _ (0) hO (lv_sub hl [0, 1, 2, 3] rfl) (by exact hI_3_10_u1) (by exact hI_3_12_u1) (by exact hR_0_u1) (by first | decide | omega) (by first | decide | omega)
  exact LP_2_u1 2000 _ _ _ _ (0) hO (lv_sub hl [0, 1] rfl) (by exact hI_3_10) (by exact hI_3_12) (by exact hR_0) (by first | decide | omega) (by first | decide | omega)
theorem dX6_measure_0 : decode cX6_measure 0 = .ok (.aload_n 0, 1) := by decide +kernel
theorem dX6_measure_1 : decode cX6_measure 1 = .ok (.getfield 19, 3) := by decide +kernel
theorem dX6_measure_4 : decode cX6_measure 4 = .ok (.invokevirtual 23, 3) := by decide +kernel
theorem dX6_measure_7 : decode cX6_measure 7 = .ok (.iconst 1, 1) := by decide +kernel
theorem dX6_measure_8 : decode cX6_measure 8 = .ok (.aload_n 0, 1) := by decide +kernel
theorem dX6_measure_9 : decode cX6_measure 9 = .ok (.getfield 15, 3) := by decide +kernel
theorem dX6_measure_12 : decode cX6_measure 12 = .ok (.getfield 28, 3) := by decide +kernel
theorem dX6_measure_15 : decode cX6_measure 15 = .ok (.getfield 34, 3) := by decide +kernel
theorem dX6_measure_18 : decode cX6_measure 18 = .ok (.ishl, 1) := by decide +kernel
theorem dX6_measure_19 : decode cX6_measure 19 = .ok (.istore_n 1, 1) := by decide +kernel
theorem dX6_measure_20 : decode cX6_measure 20 = .ok (.iconst 0, 1) := by decide +kernel
theorem dX6_measure_21 : decode cX6_measure 21 = .ok (.istore_n 2, 1) := by decide +kernel
theorem dX6_measure_22 : decode cX6_measure 22 = .ok (.iload_n 2, 1) := by decide +kernel
theorem dX6_measure_23 : decode cX6_measure 23 = .ok (.iload_n 1, 1) := by decide +kernel
theorem dX6_measure_24 : decode cX6_measure 24 = .ok (.if_icmp .ge 62, 3) := by decide +kernel
theorem dX6_measure_27 : decode cX6_measure 27 = .ok (.iload_n 2, 1) := by decide +kernel
theorem dX6_measure_28 : decode cX6_measure 28 = .ok (.bipush 64, 2) := by decide +kernel
theorem dX6_measure_30 : decode cX6_measure 30 = .ok (.if_icmp .ge 56, 3) := by decide +kernel
theorem dX6_measure_33 : decode cX6_measure 33 = .ok (.iconst 0, 1) := by decide +kernel
theorem dX6_measure_34 : decode cX6_measure 34 = .ok (.istore_n 3, 1) := by decide +kernel
theorem dX6_measure_35 : decode cX6_measure 35 = .ok (.iload_n 3, 1) := by decide +kernel
theorem dX6_measure_36 : decode cX6_measure 36 = .ok (.aload_n 0, 1) := by decide +kernel
theorem dX6_measure_37 : decode cX6_measure 37 = .ok (.getfield 15, 3) := by decide +kernel
theorem dX6_measure_40 : decode cX6_measure 40 = .ok (.getfield 28, 3) := by decide +kernel
theorem dX6_measure_43 : decode cX6_measure 43 = .ok (.getfield 34, 3) := by decide +kernel
theorem dX6_measure_46 : decode cX6_measure 46 = .ok (.if_icmp .ge 34, 3) := by decide +kernel
theorem dX6_measure_49 : decode cX6_measure 49 = .ok (.aload_n 0, 1) := by decide +kernel
theorem dX6_measure_50 : decode cX6_measure 50 = .ok (.getfield 11, 3) := by decide +kernel
theorem dX6_measure_53 : decode cX6_measure 53 = .ok (.iload_n 2, 1) := by decide +kernel
theorem dX6_measure_54 : decode cX6_measure 54 = .ok (.bipush 6, 2) := by decide +kernel
theorem dX6_measure_56 : decode cX6_measure 56 = .ok (.imul, 1) := by decide +kernel
theorem dX6_measure_57 : decode cX6_measure 57 = .ok (.iload_n 3, 1) := by decide +kernel
theorem dX6_measure_58 : decode cX6_measure 58 = .ok (.iadd, 1) := by decide +kernel
theorem dX6_measure_59 : decode cX6_measure 59 = .ok (.iload_n 2, 1) := by decide +kernel
theorem dX6_measure_60 : decode cX6_measure 60 = .ok (.ifCond .ne 7, 3) := by decide +kernel
theorem dX6_measure_63 : decode cX6_measure 63 = .ok (.iconst 0, 1) := by decide +kernel
theorem dX6_measure_64 : decode cX6_measure 64 = .ok (.goto 9, 3) := by decide +kernel
theorem dX6_measure_67 : decode cX6_measure 67 = .ok (.aload_n 0, 1) := by decide +kernel
theorem dX6_measure_68 : decode cX6_measure 68 = .ok (.iload_n 2, 1) := by decide +kernel
theorem dX6_measure_69 : decode cX6_measure 69 = .ok (.iload_n 3, 1) := by decide +kernel
theorem dX6_measure_70 : decode cX6_measure 70 = .ok (.invokevirtual 40, 3) := by decide +kernel
theorem dX6_measure_73 : decode cX6_measure 73 = .ok (.iastore, 1) := by decide +kernel
theorem dX6_measure_74 : decode cX6_measure 74 = .ok (.iinc 3 1, 3) := by decide +kernel
theorem dX6_measure_77 : decode cX6_measure 77 = .ok (.goto (-42), 3) := by decide +kernel
theorem dX6_measure_80 : decode cX6_measure 80 = .ok (.iinc 2 1, 3) := by decide +kernel
theorem dX6_measure_83 : decode cX6_measure 83 = .ok (.goto (-61), 3) := by decide +kernel
theorem dX6_measure_86 : decode cX6_measure 86 = .ok (.return_, 1) := by decide +kernel
theorem wd_1038 : (Cond.code ⟨"WebCourt$Rounds", "measure", "()V"⟩ prog_8_method_2_code (4 : Nat) (Option.none : Option FieldType)) ∈ gtb := gtb_c4 209 (by decide +kernel) rfl
theorem wd_411 : (Cond.fieldLink "WebCourt$Rounds" (19 : Nat) "WebCourt$Rounds" "ways" "LWebCourt$Ways;") ∈ gtb := gtb_c2 62 (by decide +kernel) rfl
theorem wd_413 : (Cond.laysFinal "WebCourt$Rounds" "WebCourt$Rounds" "court" "LWebCourt$Court;") ∈ gtb := gtb_c2 64 (by decide +kernel) rfl
theorem wd_415 : (Cond.laysFinal "WebCourt$Rounds" "WebCourt$Rounds" "ways" "LWebCourt$Ways;") ∈ gtb := gtb_c2 66 (by decide +kernel) rfl
theorem wd_417 : (Cond.laysFinal "WebCourt$Rounds" "WebCourt$Rounds" "behind" "[I") ∈ gtb := gtb_c2 68 (by decide +kernel) rfl
theorem inFX6 : ∀ w ∈ u_ws RX6 TX6 3, w ∈ gtb := by
  show ∀ w ∈ [u_lay RX6 TX6 0, u_lay RX6 TX6 1, u_lay RX6 TX6 2], w ∈ gtb
  exact List.forall_mem_cons.mpr ⟨wd_413, List.forall_mem_cons.mpr ⟨wd_415, List.forall_mem_cons.mpr ⟨wd_417, fun _ h => absurd h List.not_mem_nil⟩⟩⟩
theorem gf_RX6_19 {p : Program} {l : Launch} {e : Env} {R : Room} {s : State} {m : MethodId} {args : Array Value} {below : List Frame} {meth : Method} {c : Code} {H : Heap} {locs : List Loc} {cells slots : Nat} {Q : State → Prop} {cc : ByteArray} {pc nL : Nat} {ls : Array Slot} {rest : List Value} {D : va_G} {cy : Nat → ClassId} {A : Nat → Prop} {ws : va_W} {b : Nat} {fs : List Value} {v : Value} (C : Cx p s m args c cc nL RX6 D cy A) (hO : Wo D A ws s.heap H locs) (q0 : Nat) (he : ws[q0]? = some (b, .inr (6, fs))) (hv : fs[1]? = some v) (hdg : decode cc pc = .ok (.getfield 19, 3)) (kk : W p l e R s m args below meth c H locs cells slots Q (F0 m (pc + 3) ls (v :: rest))) : W p l e R s m args below meth c H locs cells slots Q (F0 m pc ls (.ref b :: rest)) := gF (k := 1) C hO q0 he rfl inFX6 (by decide) wd_411 rfl hv hdg kk
theorem wd_1039 : (Cond.methodLink "WebCourt$Rounds" (23 : Nat) ⟨"WebCourt$Ways", "measure", "()V"⟩) ∈ gtb := gtb_c4 210 (by decide +kernel) rfl
theorem wd_1009 : (Cond.instanceMethod ⟨"WebCourt$Ways", "measure", "()V"⟩) ∈ gtb := gtb_c4 180 (by decide +kernel) rfl
theorem wd_1010 : (Cond.selects "WebCourt$Ways" ⟨"WebCourt$Ways", "measure", "()V"⟩ ⟨"WebCourt$Ways", "measure", "()V"⟩) ∈ gtb := gtb_c4 181 (by decide +kernel) rfl
theorem hd_yX8_measure : yX8_measure.cls = RX8 ∧ yX8_measure.cls ≠ "java/lang/invoke/MethodHandle" ∧ yX8_measure.cls ≠ "java/lang/invoke/VarHandle" ∧ (parseMethodDescriptor yX8_measure.desc).map (fun d => d.parameters.length) = some 0 := by decide +kernel
theorem wd_410 : (Cond.fieldLink "WebCourt$Rounds" (15 : Nat) "WebCourt$Rounds" "court" "LWebCourt$Court;") ∈ gtb := gtb_c2 61 (by decide +kernel) rfl
theorem gf_RX6_15 {p : Program} {l : Launch} {e : Env} {R : Room} {s : State} {m : MethodId} {args : Array Value} {below : List Frame} {meth : Method} {c : Code} {H : Heap} {locs : List Loc} {cells slots : Nat} {Q : State → Prop} {cc : ByteArray} {pc nL : Nat} {ls : Array Slot} {rest : List Value} {D : va_G} {cy : Nat → ClassId} {A : Nat → Prop} {ws : va_W} {b : Nat} {fs : List Value} {v : Value} (C : Cx p s m args c cc nL RX6 D cy A) (hO : Wo D A ws s.heap H locs) (q0 : Nat) (he : ws[q0]? = some (b, .inr (6, fs))) (hv : fs[0]? = some v) (hdg : decode cc pc = .ok (.getfield 15, 3)) (kk : W p l e R s m args below meth c H locs cells slots Q (F0 m (pc + 3) ls (v :: rest))) : W p l e R s m args below meth c H locs cells slots Q (F0 m pc ls (.ref b :: rest)) := gF (k := 0) C hO q0 he rfl inFX6 (by decide) wd_410 rfl hv hdg kk
theorem wd_359 : (Cond.fieldLink "WebCourt$Rounds" (28 : Nat) "WebCourt$Court" "web" "LWebCourt$Web;") ∈ gtb := gtb_c2 10 (by decide +kernel) rfl
theorem gf_RX6_28 {p : Program} {l : Launch} {e : Env} {R : Room} {s : State} {m : MethodId} {args : Array Value} {below : List Frame} {meth : Method} {c : Code} {H : Heap} {locs : List Loc} {cells slots : Nat} {Q : State → Prop} {cc : ByteArray} {pc nL : Nat} {ls : Array Slot} {rest : List Value} {D : va_G} {cy : Nat → ClassId} {A : Nat → Prop} {ws : va_W} {b : Nat} {fs : List Value} {v : Value} (C : Cx p s m args c cc nL RX6 D cy A) (hO : Wo D A ws s.heap H locs) (q0 : Nat) (he : ws[q0]? = some (b, .inr (2, fs))) (hv : fs[1]? = some v) (hdg : decode cc pc = .ok (.getfield 28, 3)) (kk : W p l e R s m args below meth c H locs cells slots Q (F0 m (pc + 3) ls (v :: rest))) : W p l e R s m args below meth c H locs cells slots Q (F0 m pc ls (.ref b :: rest)) := gF (k := 1) C hO q0 he rfl inFX2 (by decide) wd_359 rfl hv hdg kk
theorem wd_267 : (Cond.fieldLink "WebCourt$Rounds" (34 : Nat) "WebCourt$Web" "cases" "I") ∈ gtb := gtb_c1 158 (by decide +kernel) rfl
theorem gf_RX6_34 {p : Program} {l : Launch} {e : Env} {R : Room} {s : State} {m : MethodId} {args : Array Value} {below : List Frame} {meth : Method} {c : Code} {H : Heap} {locs : List Loc} {cells slots : Nat} {Q : State → Prop} {cc : ByteArray} {pc nL : Nat} {ls : Array Slot} {rest : List Value} {D : va_G} {cy : Nat → ClassId} {A : Nat → Prop} {ws : va_W} {b : Nat} {fs : List Value} {v : Value} (C : Cx p s m args c cc nL RX6 D cy A) (hO : Wo D A ws s.heap H locs) (q0 : Nat) (he : ws[q0]? = some (b, .inr (9, fs))) (hv : fs[12]? = some v) (hdg : decode cc pc = .ok (.getfield 34, 3)) (kk : W p l e R s m args below meth c H locs cells slots Q (F0 m (pc + 3) ls (v :: rest))) : W p l e R s m args below meth c H locs cells slots Q (F0 m pc ls (.ref b :: rest)) := gF (k := 12) C hO q0 he rfl inFX9 (by decide) wd_267 rfl hv hdg kk
set_option maxHeartbeats 4000000 in
set_option maxRecDepth 100000 in
theorem T_X6_measure (l : Launch) (D : va_G) (cy : Nat → ClassId) (a : Nat → Nat) (u : St) (hI_3_10 : fI u 3 10 = 0) (hI_3_12 : fI u 3 12 = 0) (hR_0 : fR u 0 = a 3)   : Mv l D cy (cW cy a) yX6_measure (.code yX6_measure cX6_measure 4 none) (rmo 2 49) [.ref (a 34)] u (fun (u' : St) => (fR u' 0 = a 3) ∧ (fI u' 3 12 = 0)) := by
  refine Mv.of (own := RX6) rfl (by decide) (Nat.le_of_ble_eq_true rfl) ?_
  intro p e s m below meth c A Q ls C hret hO hl
  obtain ⟨hx, hb, hml, hown, ht, hK, hA⟩ := id C
  have hl : lv_has ls 4 [(0, .ref (a 34))] := hl
  refine lv_aload_n hx hb dX6_measure_0 rfl (lv_at hl 0 rfl) ?_
  refine gf_RX6_19 (v := .ref (a 32)) C hO 34 cW_34 rfl dX6_measure_1 ?_
  refine cVv (w := cW cy a) (As := []) (rest := []) C hO (T_X8_measure l D cy a _ (by exact hI_3_10) (by exact hI_3_12) (by exact hR_0)) (cwV 0 ht (gV wd_1039 wd_1009 wd_1010 wd_117 wd_1011) rfl rfl rfl hd_yX8_measure ⟨Nat.le_of_ble_eq_true rfl, Nat.le_of_ble_eq_true rfl⟩) 32 rfl cW_32 rfl rfl hl.1 (Nat.le_of_ble_eq_true rfl) dX6_measure_4 rfl ⟨Nat.zero_le _, Nat.zero_le _⟩ (fun u2 H locs hp3 hO => ?_)
  obtain ⟨hR_0_u2, hI_3_12_u2⟩ := hp3
  refine lv_iconst (v := 1) hx hb dX6_measure_7 (by decide) ?_
  refine lv_aload_n hx hb dX6_measure_8 rfl (lv_at hl 0 rfl) ?_
  refine gf_RX6_15 (v := .ref (a 28)) C hO 34 cW_34 rfl dX6_measure_9 ?_
  refine gf_RX6_28 (v := .ref (a 3)) C hO 28 cW_28 (congrArg (fun z : Nat => some (Value.ref z)) hR_0_u2) dX6_measure_12 ?_
  refine gf_RX6_34 (v := .int 0) C hO 3 cW_3 (congrArg (fun z : Int32 => some (Value.int z)) hI_3_12_u2) dX6_measure_15 ?_
  refine lv_ishl hx hb dX6_measure_18 ?_
  refine tE (y := 1) (by decide) ?_
  refine lv_istore_n (lv' := [(1, .int 1), (0, .ref (a 34))]) hx hb dX6_measure_19 rfl hl (by decide) rfl (fun ls hl => ?_)
  refine lv_iconst (v := 0) hx hb dX6_measure_20 (by decide) ?_
  refine lv_istore_n (lv' := [(2, .int 0), (1, .int 1), (0, .ref (a 34))]) hx hb dX6_measure_21 rfl hl (by decide) rfl (fun ls hl => ?_)
  refine lv_iload_n hx hb dX6_measure_22 rfl (lv_at hl 0 rfl) ?_
  refine lv_iload_n hx hb dX6_measure_23 rfl (lv_at hl 1 rfl) ?_
  refine cn_ge (X := 0) (Y := 1) hx hb dX6_measure_24 rfl rfl (by omega) ?_ (tgt := 86) (by decide)
  refine lv_iload_n hx hb dX6_measure_27 rfl (lv_at hl 0 rfl) ?_
  refine lv_bipush (v := 64) hx hb dX6_measure_28 (by decide) ?_
  refine cn_ge (X := 0) (Y := 64) hx hb dX6_measure_30 rfl rfl (by omega) ?_ (tgt := 86) (by decide)
  refine lv_iconst (v := 0) hx hb dX6_measure_33 (by decide) ?_
  refine lv_istore_n (lv' := [(3, .int 0), (2, .int 0), (1, .int 1), (0, .ref (a 34))]) hx hb dX6_measure_34 rfl hl (by decide) rfl (fun ls hl => ?_)
  refine lv_iload_n hx hb dX6_measure_35 rfl (lv_at hl 0 rfl) ?_
  refine lv_aload_n hx hb dX6_measure_36 rfl (lv_at hl 3 rfl) ?_
  refine gf_RX6_15 (v := .ref (a 28)) C hO 34 cW_34 rfl dX6_measure_37 ?_
  refine gf_RX6_28 (v := .ref (a 3)) C hO 28 cW_28 (congrArg (fun z : Nat => some (Value.ref z)) hR_0_u2) dX6_measure_40 ?_
  refine gf_RX6_34 (v := .int 0) C hO 3 cW_3 (congrArg (fun z : Int32 => some (Value.int z)) hI_3_12_u2) dX6_measure_43 ?_
  refine ct_ge (tgt := 80) (X := 0) (Y := 0) hx hb dX6_measure_46 (by decide) rfl rfl (by omega) ?_
  refine lv_iinc (v := 1) (lv' := [(2, .int 1), (3, .int 0), (1, .int 1), (0, .ref (a 34))]) hx hb dX6_measure_80 hl (k := 1) rfl rfl (by decide) rfl (fun ls hl => ?_)
  refine lv_goto (tgt := 22) hx hb dX6_measure_83 (by decide) ?_
  refine lv_iload_n hx hb dX6_measure_22 rfl (lv_at hl 0 rfl) ?_
  refine lv_iload_n hx hb dX6_measure_23 rfl (lv_at hl 2 rfl) ?_
  refine ct_ge (tgt := 86) (X := 1) (Y := 1) hx hb dX6_measure_24 (by decide) rfl rfl (by omega) ?_
  refine hret _ _ _ _ _ dX6_measure_86 ?_ hO
  exact ⟨hR_0_u2, hI_3_12_u2⟩
theorem dX6_mostHeard_0 : decode cX6_mostHeard 0 = .ok (.iconst 0, 1) := by decide +kernel
theorem dX6_mostHeard_1 : decode cX6_mostHeard 1 = .ok (.istore_n 3, 1) := by decide +kernel
theorem dX6_mostHeard_2 : decode cX6_mostHeard 2 = .ok (.iconst 0, 1) := by decide +kernel
theorem dX6_mostHeard_3 : decode cX6_mostHeard 3 = .ok (.istore 4, 2) := by decide +kernel
theorem dX6_mostHeard_5 : decode cX6_mostHeard 5 = .ok (.iload 4, 2) := by decide +kernel
theorem dX6_mostHeard_7 : decode cX6_mostHeard 7 = .ok (.bipush 64, 2) := by decide +kernel
theorem dX6_mostHeard_9 : decode cX6_mostHeard 9 = .ok (.if_icmp .ge 43, 3) := by decide +kernel
theorem dX6_mostHeard_12 : decode cX6_mostHeard 12 = .ok (.iload 4, 2) := by decide +kernel
theorem dX6_mostHeard_14 : decode cX6_mostHeard 14 = .ok (.iload_n 1, 1) := by decide +kernel
theorem dX6_mostHeard_15 : decode cX6_mostHeard 15 = .ok (.iconst (-1), 1) := by decide +kernel
theorem dX6_mostHeard_16 : decode cX6_mostHeard 16 = .ok (.ixor, 1) := by decide +kernel
theorem dX6_mostHeard_17 : decode cX6_mostHeard 17 = .ok (.iand, 1) := by decide +kernel
theorem dX6_mostHeard_18 : decode cX6_mostHeard 18 = .ok (.ifCond .ne 28, 3) := by decide +kernel
theorem dX6_mostHeard_21 : decode cX6_mostHeard 21 = .ok (.iload 4, 2) := by decide +kernel
theorem dX6_mostHeard_23 : decode cX6_mostHeard 23 = .ok (.invokestatic 68, 3) := by decide +kernel
theorem dX6_mostHeard_26 : decode cX6_mostHeard 26 = .ok (.iload_n 3, 1) := by decide +kernel
theorem dX6_mostHeard_27 : decode cX6_mostHeard 27 = .ok (.if_icmp .le 19, 3) := by decide +kernel
theorem dX6_mostHeard_30 : decode cX6_mostHeard 30 = .ok (.aload_n 0, 1) := by decide +kernel
theorem dX6_mostHeard_31 : decode cX6_mostHeard 31 = .ok (.iload 4, 2) := by decide +kernel
theorem dX6_mostHeard_33 : decode cX6_mostHeard 33 = .ok (.invokevirtual 74, 3) := by decide +kernel
theorem dX6_mostHeard_36 : decode cX6_mostHeard 36 = .ok (.iload_n 2, 1) := by decide +kernel
theorem dX6_mostHeard_37 : decode cX6_mostHeard 37 = .ok (.if_icmp .gt 9, 3) := by decide +kernel
theorem dX6_mostHeard_40 : decode cX6_mostHeard 40 = .ok (.iload 4, 2) := by decide +kernel
theorem dX6_mostHeard_42 : decode cX6_mostHeard 42 = .ok (.invokestatic 68, 3) := by decide +kernel
theorem dX6_mostHeard_45 : decode cX6_mostHeard 45 = .ok (.istore_n 3, 1) := by decide +kernel
theorem dX6_mostHeard_46 : decode cX6_mostHeard 46 = .ok (.iinc 4 1, 3) := by decide +kernel
theorem dX6_mostHeard_49 : decode cX6_mostHeard 49 = .ok (.goto (-44), 3) := by decide +kernel
theorem dX6_mostHeard_52 : decode cX6_mostHeard 52 = .ok (.iload_n 3, 1) := by decide +kernel
theorem dX6_mostHeard_53 : decode cX6_mostHeard 53 = .ok (.ireturn, 1) := by decide +kernel
theorem wd_1070 : (Cond.code ⟨"WebCourt$Rounds", "mostHeard", "(II)I"⟩ prog_8_method_8_code (5 : Nat) (Option.some FieldType.int)) ∈ gtb := gtb_c5 1 (by decide +kernel) rfl
theorem wd_1071 : (Cond.methodLink "WebCourt$Rounds" (68 : Nat) ⟨"java/lang/Integer", "bitCount", "(I)I"⟩) ∈ gtb := gtb_c5 2 (by decide +kernel) rfl
set_option maxHeartbeats 4000000 in
set_option maxRecDepth 100000 in
theorem T_X6_mostHeard_0 (l : Launch) (D : va_G) (cy : Nat → ClassId) (a : Nat → Nat) (u : St)  (x2 : Int32)  : Mi l D cy (cW cy a) yX6_mostHeard (.code yX6_mostHeard cX6_mostHeard 5 (some .int)) (rmo 1 20) [.ref (a 34), .int 0, .int x2] u (fun (r : Int32) (u' : St) => (r = 0) ∧ (u' = u)) := by
  refine Mi.of (own := RX6) rfl (by decide) (Nat.le_of_ble_eq_true rfl) ?_
  intro p e s m below meth c A Q ls C hret hO hl
  obtain ⟨hx, hb, hml, hown, ht, hK, hA⟩ := id C
  have hl : lv_has ls 5 [(0, .ref (a 34)), (1, .int 0), (2, .int x2)] := hl
  refine lv_iconst (v := 0) hx hb dX6_mostHeard_0 (by decide) ?_
  refine lv_istore_n (lv' := [(3, .int 0), (0, .ref (a 34)), (1, .int 0), (2, .int x2)]) hx hb dX6_mostHeard_1 rfl hl (by decide) rfl (fun ls hl => ?_)
  refine lv_iconst (v := 0) hx hb dX6_mostHeard_2 (by decide) ?_
  refine lv_istore (lv' := [(4, .int 0), (3, .int 0), (0, .ref (a 34)), (1, .int 0), (2, .int x2)]) hx hb dX6_mostHeard_3 hl (by decide) rfl (fun ls hl => ?_)
  refine lv_iload hx hb dX6_mostHeard_5 (lv_at hl 0 rfl) ?_
  refine lv_bipush (v := 64) hx hb dX6_mostHeard_7 (by decide) ?_
  refine cn_ge (X := 0) (Y := 64) hx hb dX6_mostHeard_9 rfl rfl (by omega) ?_ (tgt := 52) (by decide)
  refine lv_iload hx hb dX6_mostHeard_12 (lv_at hl 0 rfl) ?_
  refine lv_iload_n hx hb dX6_mostHeard_14 rfl (lv_at hl 3 rfl) ?_
  refine lv_iconst (v := (-1)) hx hb dX6_mostHeard_15 (by decide) ?_
  refine lv_ixor hx hb dX6_mostHeard_16 ?_
  refine tE (y := (-1)) (by decide) ?_
  refine lv_iand hx hb dX6_mostHeard_17 ?_
  refine tE (y := 0) (by decide) ?_
  refine bn_ne (X := 0) hx hb dX6_mostHeard_18 rfl (by omega) ?_ (tgt := 46) (by decide)
  refine lv_iload hx hb dX6_mostHeard_21 (lv_at hl 0 rfl) ?_
  refine cSi (w := cW cy a) (As := [.int 0]) (rest := []) C hO (T_J6_bitCount_0f7a4_c0 l D cy a _ ) (va_cwS 1 ht (gSS wd_1071 wd_870 wd_128 wd_871) rfl rfl rfl hd_yJ6_bitCount_0f7a4 ⟨Nat.le_of_ble_eq_true rfl, Nat.le_of_ble_eq_true rfl⟩)  rfl hl.1 (Nat.le_of_ble_eq_true rfl) dX6_mostHeard_23 rfl ⟨Nat.zero_le _, Nat.zero_le _⟩ (fun r1 u2 H locs hp3 hO => ?_)
  obtain ⟨hr1, hu2⟩ := hp3
  subst hr1
  rw [hu2] at hO
  refine lv_iload_n hx hb dX6_mostHeard_26 rfl (lv_at hl 1 rfl) ?_
  refine ct_le (tgt := 46) (X := 0) (Y := 0) hx hb dX6_mostHeard_27 (by decide) rfl rfl (by omega) ?_
  refine lv_iinc (v := 1) (lv' := [(4, .int 1), (3, .int 0), (0, .ref (a 34)), (1, .int 0), (2, .int x2)]) hx hb dX6_mostHeard_46 hl (k := 0) rfl rfl (by decide) rfl (fun ls hl => ?_)
  refine lv_goto (tgt := 5) hx hb dX6_mostHeard_49 (by decide) ?_
  refine lv_iload hx hb dX6_mostHeard_5 (lv_at hl 0 rfl) ?_
  refine lv_bipush (v := 64) hx hb dX6_mostHeard_7 (by decide) ?_
  refine cn_ge (X := 1) (Y := 64) hx hb dX6_mostHeard_9 rfl rfl (by omega) ?_ (tgt := 52) (by decide)
  refine lv_iload hx hb dX6_mostHeard_12 (lv_at hl 0 rfl) ?_
  refine lv_iload_n hx hb dX6_mostHeard_14 rfl (lv_at hl 3 rfl) ?_
  refine lv_iconst (v := (-1)) hx hb dX6_mostHeard_15 (by decide) ?_
  refine lv_ixor hx hb dX6_mostHeard_16 ?_
  refine tE (y := (-1)) (by decide) ?_
  refine lv_iand hx hb dX6_mostHeard_17 ?_
  refine tE (y := 1) (by decide) ?_
  refine bt_ne (tgt := 46) (X := 1) hx hb dX6_mostHeard_18 (by decide) rfl (by omega) ?_
  refine lv_iinc (v := 2) (lv' := [(4, .int 2), (3, .int 0), (0, .ref (a 34)), (1, .int 0), (2, .int x2)]) hx hb dX6_mostHeard_46 hl (k := 0) rfl rfl (by decide) rfl (fun ls hl => ?_)
  refine lv_goto (tgt := 5) hx hb dX6_mostHeard_49 (by decide) ?_
  refine lv_iload hx hb dX6_mostHeard_5 (lv_at hl 0 rfl) ?_
  refine lv_bipush (v := 64) hx hb dX6_mostHeard_7 (by decide) ?_
  refine cn_ge (X := 2) (Y := 64) hx hb dX6_mostHeard_9 rfl rfl (by omega) ?_ (tgt := 52) (by decide)
  refine lv_iload hx hb dX6_mostHeard_12 (lv_at hl 0 rfl) ?_
  refine lv_iload_n hx hb dX6_mostHeard_14 rfl (lv_at hl 3 rfl) ?_
  refine lv_iconst (v := (-1)) hx hb dX6_mostHeard_15 (by decide) ?_
  refine lv_ixor hx hb dX6_mostHeard_16 ?_
  refine tE (y := (-1)) (by decide) ?_
  refine lv_iand hx hb dX6_mostHeard_17 ?_
  refine tE (y := 2) (by decide) ?_
  refine bt_ne (tgt := 46) (X := 2) hx hb dX6_mostHeard_18 (by decide) rfl (by omega) ?_
  refine lv_iinc (v := 3) (lv' := [(4, .int 3), (3, .int 0), (0, .ref (a 34)), (1, .int 0), (2, .int x2)]) hx hb dX6_mostHeard_46 hl (k := 0) rfl rfl (by decide) rfl (fun ls hl => ?_)
  refine lv_goto (tgt := 5) hx hb dX6_mostHeard_49 (by decide) ?_
  refine lv_iload hx hb dX6_mostHeard_5 (lv_at hl 0 rfl) ?_
  refine lv_bipush (v := 64) hx hb dX6_mostHeard_7 (by decide) ?_
  refine cn_ge (X := 3) (Y := 64) hx hb dX6_mostHeard_9 rfl rfl (by omega) ?_ (tgt := 52) (by decide)
  refine lv_iload hx hb dX6_mostHeard_12 (lv_at hl 0 rfl) ?_
  refine lv_iload_n hx hb dX6_mostHeard_14 rfl (lv_at hl 3 rfl) ?_
  refine lv_iconst (v := (-1)) hx hb dX6_mostHeard_15 (by decide) ?_
  refine lv_ixor hx hb dX6_mostHeard_16 ?_
  refine tE (y := (-1)) (by decide) ?_
  refine lv_iand hx hb dX6_mostHeard_17 ?_
  refine tE (y := 3) (by decide) ?_
  refine bt_ne (tgt := 46) (X := 3) hx hb dX6_mostHeard_18 (by decide) rfl (by omega) ?_
  refine lv_iinc (v := 4) (lv' := [(4, .int 4), (3, .int 0), (0, .ref (a 34)), (1, .int 0), (2, .int x2)]) hx hb dX6_mostHeard_46 hl (k := 0) rfl rfl (by decide) rfl (fun ls hl => ?_)
  refine lv_goto (tgt := 5) hx hb dX6_mostHeard_49 (by decide) ?_
  refine lv_iload hx hb dX6_mostHeard_5 (lv_at hl 0 rfl) ?_
  refine lv_bipush (v := 64) hx hb dX6_mostHeard_7 (by decide) ?_
  refine cn_ge (X := 4) (Y := 64) hx hb dX6_mostHeard_9 rfl rfl (by omega) ?_ (tgt := 52) (by decide)
  refine lv_iload hx hb dX6_mostHeard_12 (lv_at hl 0 rfl) ?_
  refine lv_iload_n hx hb dX6_mostHeard_14 rfl (lv_at hl 3 rfl) ?_
  refine lv_iconst (v := (-1)) hx hb dX6_mostHeard_15 (by decide) ?_
  refine lv_ixor hx hb dX6_mostHeard_16 ?_
  refine tE (y := (-1)) (by decide) ?_
  refine lv_iand hx hb dX6_mostHeard_17 ?_
  refine tE (y := 4) (by decide) ?_
  refine bt_ne (tgt := 46) (X := 4) hx hb dX6_mostHeard_18 (by decide) rfl (by omega) ?_
  refine lv_iinc (v := 5) (lv' := [(4, .int 5), (3, .int 0), (0, .ref (a 34)), (1, .int 0), (2, .int x2)]) hx hb dX6_mostHeard_46 hl (k := 0) rfl rfl (by decide) rfl (fun ls hl => ?_)
  refine lv_goto (tgt := 5) hx hb dX6_mostHeard_49 (by decide) ?_
  refine lv_iload hx hb dX6_mostHeard_5 (lv_at hl 0 rfl) ?_
  refine lv_bipush (v := 64) hx hb dX6_mostHeard_7 (by decide) ?_
  refine cn_ge (X := 5) (Y := 64) hx hb dX6_mostHeard_9 rfl rfl (by omega) ?_ (tgt := 52) (by decide)
  refine lv_iload hx hb dX6_mostHeard_12 (lv_at hl 0 rfl) ?_
  refine lv_iload_n hx hb dX6_mostHeard_14 rfl (lv_at hl 3 rfl) ?_
  refine lv_iconst (v := (-1)) hx hb dX6_mostHeard_15 (by decide) ?_
  refine lv_ixor hx hb dX6_mostHeard_16 ?_
  refine tE (y := (-1)) (by decide) ?_
  refine lv_iand hx hb dX6_mostHeard_17 ?_
  refine tE (y := 5) (by decide) ?_
  refine bt_ne (tgt := 46) (X := 5) hx hb dX6_mostHeard_18 (by decide) rfl (by omega) ?_
  refine lv_iinc (v := 6) (lv' := [(4, .int 6), (3, .int 0), (0, .ref (a 34)), (1, .int 0), (2, .int x2)]) hx hb dX6_mostHeard_46 hl (k := 0) rfl rfl (by decide) rfl (fun ls hl => ?_)
  refine lv_goto (tgt := 5) hx hb dX6_mostHeard_49 (by decide) ?_
  refine lv_iload hx hb dX6_mostHeard_5 (lv_at hl 0 rfl) ?_
  refine lv_bipush (v := 64) hx hb dX6_mostHeard_7 (by decide) ?_
  refine cn_ge (X := 6) (Y := 64) hx hb dX6_mostHeard_9 rfl rfl (by omega) ?_ (tgt := 52) (by decide)
  refine lv_iload hx hb dX6_mostHeard_12 (lv_at hl 0 rfl) ?_
  refine lv_iload_n hx hb dX6_mostHeard_14 rfl (lv_at hl 3 rfl) ?_
  refine lv_iconst (v := (-1)) hx hb dX6_mostHeard_15 (by decide) ?_
  refine lv_ixor hx hb dX6_mostHeard_16 ?_
  refine tE (y := (-1)) (by decide) ?_
  refine lv_iand hx hb dX6_mostHeard_17 ?_
  refine tE (y := 6) (by decide) ?_
  refine bt_ne (tgt := 46) (X := 6) hx hb dX6_mostHeard_18 (by decide) rfl (by omega) ?_
  refine lv_iinc (v := 7) (lv' := [(4, .int 7), (3, .int 0), (0, .ref (a 34)), (1, .int 0), (2, .int x2)]) hx hb dX6_mostHeard_46 hl (k := 0) rfl rfl (by decide) rfl (fun ls hl => ?_)
  refine lv_goto (tgt := 5) hx hb dX6_mostHeard_49 (by decide) ?_
  refine lv_iload hx hb dX6_mostHeard_5 (lv_at hl 0 rfl) ?_
  refine lv_bipush (v := 64) hx hb dX6_mostHeard_7 (by decide) ?_
  refine cn_ge (X := 7) (Y := 64) hx hb dX6_mostHeard_9 rfl rfl (by omega) ?_ (tgt := 52) (by decide)
  refine lv_iload hx hb dX6_mostHeard_12 (lv_at hl 0 rfl) ?_
  refine lv_iload_n hx hb dX6_mostHeard_14 rfl (lv_at hl 3 rfl) ?_
  refine lv_iconst (v := (-1)) hx hb dX6_mostHeard_15 (by decide) ?_
  refine lv_ixor hx hb dX6_mostHeard_16 ?_
  refine tE (y := (-1)) (by decide) ?_
  refine lv_iand hx hb dX6_mostHeard_17 ?_
  refine tE (y := 7) (by decide) ?_
  refine bt_ne (tgt := 46) (X := 7) hx hb dX6_mostHeard_18 (by decide) rfl (by omega) ?_
  refine lv_iinc (v := 8) (lv' := [(4, .int 8), (3, .int 0), (0, .ref (a 34)), (1, .int 0), (2, .int x2)]) hx hb dX6_mostHeard_46 hl (k := 0) rfl rfl (by decide) rfl (fun ls hl => ?_)
  refine lv_goto (tgt := 5) hx hb dX6_mostHeard_49 (by decide) ?_
  refine lv_iload hx hb dX6_mostHeard_5 (lv_at hl 0 rfl) ?_
  refine lv_bipush (v := 64) hx hb dX6_mostHeard_7 (by decide) ?_
  refine cn_ge (X := 8) (Y := 64) hx hb dX6_mostHeard_9 rfl rfl (by omega) ?_ (tgt := 52) (by decide)
  refine lv_iload hx hb dX6_mostHeard_12 (lv_at hl 0 rfl) ?_
  refine lv_iload_n hx hb dX6_mostHeard_14 rfl (lv_at hl 3 rfl) ?_
  refine lv_iconst (v := (-1)) hx hb dX6_mostHeard_15 (by decide) ?_
  refine lv_ixor hx hb dX6_mostHeard_16 ?_
  refine tE (y := (-1)) (by decide) ?_
  refine lv_iand hx hb dX6_mostHeard_17 ?_
  refine tE (y := 8) (by decide) ?_
  refine bt_ne (tgt := 46) (X := 8) hx hb dX6_mostHeard_18 (by decide) rfl (by omega) ?_
  refine lv_iinc (v := 9) (lv' := [(4, .int 9), (3, .int 0), (0, .ref (a 34)), (1, .int 0), (2, .int x2)]) hx hb dX6_mostHeard_46 hl (k := 0) rfl rfl (by decide) rfl (fun ls hl => ?_)
  refine lv_goto (tgt := 5) hx hb dX6_mostHeard_49 (by decide) ?_
  refine lv_iload hx hb dX6_mostHeard_5 (lv_at hl 0 rfl) ?_
  refine lv_bipush (v := 64) hx hb dX6_mostHeard_7 (by decide) ?_
  refine cn_ge (X := 9) (Y := 64) hx hb dX6_mostHeard_9 rfl rfl (by omega) ?_ (tgt := 52) (by decide)
  refine lv_iload hx hb dX6_mostHeard_12 (lv_at hl 0 rfl) ?_
  refine lv_iload_n hx hb dX6_mostHeard_14 rfl (lv_at hl 3 rfl) ?_
  refine lv_iconst (v := (-1)) hx hb dX6_mostHeard_15 (by decide) ?_
  refine lv_ixor hx hb dX6_mostHeard_16 ?_
  refine tE (y := (-1)) (by decide) ?_
  refine lv_iand hx hb dX6_mostHeard_17 ?_
  refine tE (y := 9) (by decide) ?_
  refine bt_ne (tgt := 46) (X := 9) hx hb dX6_mostHeard_18 (by decide) rfl (by omega) ?_
  refine lv_iinc (v := 10) (lv' := [(4, .int 10), (3, .int 0), (0, .ref (a 34)), (1, .int 0), (2, .int x2)]) hx hb dX6_mostHeard_46 hl (k := 0) rfl rfl (by decide) rfl (fun ls hl => ?_)
  refine lv_goto (tgt := 5) hx hb dX6_mostHeard_49 (by decide) ?_
  refine lv_iload hx hb dX6_mostHeard_5 (lv_at hl 0 rfl) ?_
  refine lv_bipush (v := 64) hx hb dX6_mostHeard_7 (by decide) ?_
  refine cn_ge (X := 10) (Y := 64) hx hb dX6_mostHeard_9 rfl rfl (by omega) ?_ (tgt := 52) (by decide)
  refine lv_iload hx hb dX6_mostHeard_12 (lv_at hl 0 rfl) ?_
  refine lv_iload_n hx hb dX6_mostHeard_14 rfl (lv_at hl 3 rfl) ?_
  refine lv_iconst (v := (-1)) hx hb dX6_mostHeard_15 (by decide) ?_
  refine lv_ixor hx hb dX6_mostHeard_16 ?_
  refine tE (y := (-1)) (by decide) ?_
  refine lv_iand hx hb dX6_mostHeard_17 ?_
  refine tE (y := 10) (by decide) ?_
  refine bt_ne (tgt := 46) (X := 10) hx hb dX6_mostHeard_18 (by decide) rfl (by omega) ?_
  refine lv_iinc (v := 11) (lv' := [(4, .int 11), (3, .int 0), (0, .ref (a 34)), (1, .int 0), (2, .int x2)]) hx hb dX6_mostHeard_46 hl (k := 0) rfl rfl (by decide) rfl (fun ls hl => ?_)
  refine lv_goto (tgt := 5) hx hb dX6_mostHeard_49 (by decide) ?_
  refine lv_iload hx hb dX6_mostHeard_5 (lv_at hl 0 rfl) ?_
  refine lv_bipush (v := 64) hx hb dX6_mostHeard_7 (by decide) ?_
  refine cn_ge (X := 11) (Y := 64) hx hb dX6_mostHeard_9 rfl rfl (by omega) ?_ (tgt := 52) (by decide)
  refine lv_iload hx hb dX6_mostHeard_12 (lv_at hl 0 rfl) ?_
  refine lv_iload_n hx hb dX6_mostHeard_14 rfl (lv_at hl 3 rfl) ?_
  refine lv_iconst (v := (-1)) hx hb dX6_mostHeard_15 (by decide) ?_
  refine lv_ixor hx hb dX6_mostHeard_16 ?_
  refine tE (y := (-1)) (by decide) ?_
  refine lv_iand hx hb dX6_mostHeard_17 ?_
  refine tE (y := 11) (by decide) ?_
  refine bt_ne (tgt := 46) (X := 11) hx hb dX6_mostHeard_18 (by decide) rfl (by omega) ?_
  refine lv_iinc (v := 12) (lv' := [(4, .int 12), (3, .int 0), (0, .ref (a 34)), (1, .int 0), (2, .int x2)]) hx hb dX6_mostHeard_46 hl (k := 0) rfl rfl (by decide) rfl (fun ls hl => ?_)
  refine lv_goto (tgt := 5) hx hb dX6_mostHeard_49 (by decide) ?_
  refine lv_iload hx hb dX6_mostHeard_5 (lv_at hl 0 rfl) ?_
  refine lv_bipush (v := 64) hx hb dX6_mostHeard_7 (by decide) ?_
  refine cn_ge (X := 12) (Y := 64) hx hb dX6_mostHeard_9 rfl rfl (by omega) ?_ (tgt := 52) (by decide)
  refine lv_iload hx hb dX6_mostHeard_12 (lv_at hl 0 rfl) ?_
  refine lv_iload_n hx hb dX6_mostHeard_14 rfl (lv_at hl 3 rfl) ?_
  refine lv_iconst (v := (-1)) hx hb dX6_mostHeard_15 (by decide) ?_
  refine lv_ixor hx hb dX6_mostHeard_16 ?_
  refine tE (y := (-1)) (by decide) ?_
  refine lv_iand hx hb dX6_mostHeard_17 ?_
  refine tE (y := 12) (by decide) ?_
  refine bt_ne (tgt := 46) (X := 12) hx hb dX6_mostHeard_18 (by decide) rfl (by omega) ?_
  refine lv_iinc (v := 13) (lv' := [(4, .int 13), (3, .int 0), (0, .ref (a 34)), (1, .int 0), (2, .int x2)]) hx hb dX6_mostHeard_46 hl (k := 0) rfl rfl (by decide) rfl (fun ls hl => ?_)
  refine lv_goto (tgt := 5) hx hb dX6_mostHeard_49 (by decide) ?_
  refine lv_iload hx hb dX6_mostHeard_5 (lv_at hl 0 rfl) ?_
  refine lv_bipush (v := 64) hx hb dX6_mostHeard_7 (by decide) ?_
  refine cn_ge (X := 13) (Y := 64) hx hb dX6_mostHeard_9 rfl rfl (by omega) ?_ (tgt := 52) (by decide)
  refine lv_iload hx hb dX6_mostHeard_12 (lv_at hl 0 rfl) ?_
  refine lv_iload_n hx hb dX6_mostHeard_14 rfl (lv_at hl 3 rfl) ?_
  refine lv_iconst (v := (-1)) hx hb dX6_mostHeard_15 (by decide) ?_
  refine lv_ixor hx hb dX6_mostHeard_16 ?_
  refine tE (y := (-1)) (by decide) ?_
  refine lv_iand hx hb dX6_mostHeard_17 ?_
  refine tE (y := 13) (by decide) ?_
  refine bt_ne (tgt := 46) (X := 13) hx hb dX6_mostHeard_18 (by decide) rfl (by omega) ?_
  refine lv_iinc (v := 14) (lv' := [(4, .int 14), (3, .int 0), (0, .ref (a 34)), (1, .int 0), (2, .int x2)]) hx hb dX6_mostHeard_46 hl (k := 0) rfl rfl (by decide) rfl (fun ls hl => ?_)
  refine lv_goto (tgt := 5) hx hb dX6_mostHeard_49 (by decide) ?_
  refine lv_iload hx hb dX6_mostHeard_5 (lv_at hl 0 rfl) ?_
  refine lv_bipush (v := 64) hx hb dX6_mostHeard_7 (by decide) ?_
  refine cn_ge (X := 14) (Y := 64) hx hb dX6_mostHeard_9 rfl rfl (by omega) ?_ (tgt := 52) (by decide)
  refine lv_iload hx hb dX6_mostHeard_12 (lv_at hl 0 rfl) ?_
  refine lv_iload_n hx hb dX6_mostHeard_14 rfl (lv_at hl 3 rfl) ?_
  refine lv_iconst (v := (-1)) hx hb dX6_mostHeard_15 (by decide) ?_
  refine lv_ixor hx hb dX6_mostHeard_16 ?_
  refine tE (y := (-1)) (by decide) ?_
  refine lv_iand hx hb dX6_mostHeard_17 ?_
  refine tE (y := 14) (by decide) ?_
  refine bt_ne (tgt := 46) (X := 14) hx hb dX6_mostHeard_18 (by decide) rfl (by omega) ?_
  refine lv_iinc (v := 15) (lv' := [(4, .int 15), (3, .int 0), (0, .ref (a 34)), (1, .int 0), (2, .int x2)]) hx hb dX6_mostHeard_46 hl (k := 0) rfl rfl (by decide) rfl (fun ls hl => ?_)
  refine lv_goto (tgt := 5) hx hb dX6_mostHeard_49 (by decide) ?_
  refine lv_iload hx hb dX6_mostHeard_5 (lv_at hl 0 rfl) ?_
  refine lv_bipush (v := 64) hx hb dX6_mostHeard_7 (by decide) ?_
  refine cn_ge (X := 15) (Y := 64) hx hb dX6_mostHeard_9 rfl rfl (by omega) ?_ (tgt := 52) (by decide)
  refine lv_iload hx hb dX6_mostHeard_12 (lv_at hl 0 rfl) ?_
  refine lv_iload_n hx hb dX6_mostHeard_14 rfl (lv_at hl 3 rfl) ?_
  refine lv_iconst (v := (-1)) hx hb dX6_mostHeard_15 (by decide) ?_
  refine lv_ixor hx hb dX6_mostHeard_16 ?_
  refine tE (y := (-1)) (by decide) ?_
  refine lv_iand hx hb dX6_mostHeard_17 ?_
  refine tE (y := 15) (by decide) ?_
  refine bt_ne (tgt := 46) (X := 15) hx hb dX6_mostHeard_18 (by decide) rfl (by omega) ?_
  refine lv_iinc (v := 16) (lv' := [(4, .int 16), (3, .int 0), (0, .ref (a 34)), (1, .int 0), (2, .int x2)]) hx hb dX6_mostHeard_46 hl (k := 0) rfl rfl (by decide) rfl (fun ls hl => ?_)
  refine lv_goto (tgt := 5) hx hb dX6_mostHeard_49 (by decide) ?_
  refine lv_iload hx hb dX6_mostHeard_5 (lv_at hl 0 rfl) ?_
  refine lv_bipush (v := 64) hx hb dX6_mostHeard_7 (by decide) ?_
  refine cn_ge (X := 16) (Y := 64) hx hb dX6_mostHeard_9 rfl rfl (by omega) ?_ (tgt := 52) (by decide)
  refine lv_iload hx hb dX6_mostHeard_12 (lv_at hl 0 rfl) ?_
  refine lv_iload_n hx hb dX6_mostHeard_14 rfl (lv_at hl 3 rfl) ?_
  refine lv_iconst (v := (-1)) hx hb dX6_mostHeard_15 (by decide) ?_
  refine lv_ixor hx hb dX6_mostHeard_16 ?_
  refine tE (y := (-1)) (by decide) ?_
  refine lv_iand hx hb dX6_mostHeard_17 ?_
  refine tE (y := 16) (by decide) ?_
  refine bt_ne (tgt := 46) (X := 16) hx hb dX6_mostHeard_18 (by decide) rfl (by omega) ?_
  refine lv_iinc (v := 17) (lv' := [(4, .int 17), (3, .int 0), (0, .ref (a 34)), (1, .int 0), (2, .int x2)]) hx hb dX6_mostHeard_46 hl (k := 0) rfl rfl (by decide) rfl (fun ls hl => ?_)
  refine lv_goto (tgt := 5) hx hb dX6_mostHeard_49 (by decide) ?_
  refine lv_iload hx hb dX6_mostHeard_5 (lv_at hl 0 rfl) ?_
  refine lv_bipush (v := 64) hx hb dX6_mostHeard_7 (by decide) ?_
  refine cn_ge (X := 17) (Y := 64) hx hb dX6_mostHeard_9 rfl rfl (by omega) ?_ (tgt := 52) (by decide)
  refine lv_iload hx hb dX6_mostHeard_12 (lv_at hl 0 rfl) ?_
  refine lv_iload_n hx hb dX6_mostHeard_14 rfl (lv_at hl 3 rfl) ?_
  refine lv_iconst (v := (-1)) hx hb dX6_mostHeard_15 (by decide) ?_
  refine lv_ixor hx hb dX6_mostHeard_16 ?_
  refine tE (y := (-1)) (by decide) ?_
  refine lv_iand hx hb dX6_mostHeard_17 ?_
  refine tE (y := 17) (by decide) ?_
  refine bt_ne (tgt := 46) (X := 17) hx hb dX6_mostHeard_18 (by decide) rfl (by omega) ?_
  refine lv_iinc (v := 18) (lv' := [(4, .int 18), (3, .int 0), (0, .ref (a 34)), (1, .int 0), (2, .int x2)]) hx hb dX6_mostHeard_46 hl (k := 0) rfl rfl (by decide) rfl (fun ls hl => ?_)
  refine lv_goto (tgt := 5) hx hb dX6_mostHeard_49 (by decide) ?_
  refine lv_iload hx hb dX6_mostHeard_5 (lv_at hl 0 rfl) ?_
  refine lv_bipush (v := 64) hx hb dX6_mostHeard_7 (by decide) ?_
  refine cn_ge (X := 18) (Y := 64) hx hb dX6_mostHeard_9 rfl rfl (by omega) ?_ (tgt := 52) (by decide)
  refine lv_iload hx hb dX6_mostHeard_12 (lv_at hl 0 rfl) ?_
  refine lv_iload_n hx hb dX6_mostHeard_14 rfl (lv_at hl 3 rfl) ?_
  refine lv_iconst (v := (-1)) hx hb dX6_mostHeard_15 (by decide) ?_
  refine lv_ixor hx hb dX6_mostHeard_16 ?_
  refine tE (y := (-1)) (by decide) ?_
  refine lv_iand hx hb dX6_mostHeard_17 ?_
  refine tE (y := 18) (by decide) ?_
  refine bt_ne (tgt := 46) (X := 18) hx hb dX6_mostHeard_18 (by decide) rfl (by omega) ?_
  refine lv_iinc (v := 19) (lv' := [(4, .int 19), (3, .int 0), (0, .ref (a 34)), (1, .int 0), (2, .int x2)]) hx hb dX6_mostHeard_46 hl (k := 0) rfl rfl (by decide) rfl (fun ls hl => ?_)
  refine lv_goto (tgt := 5) hx hb dX6_mostHeard_49 (by decide) ?_
  refine lv_iload hx hb dX6_mostHeard_5 (lv_at hl 0 rfl) ?_
  refine lv_bipush (v := 64) hx hb dX6_mostHeard_7 (by decide) ?_
  refine cn_ge (X := 19) (Y := 64) hx hb dX6_mostHeard_9 rfl rfl (by omega) ?_ (tgt := 52) (by decide)
  refine lv_iload hx hb dX6_mostHeard_12 (lv_at hl 0 rfl) ?_
  refine lv_iload_n hx hb dX6_mostHeard_14 rfl (lv_at hl 3 rfl) ?_
  refine lv_iconst (v := (-1)) hx hb dX6_mostHeard_15 (by decide) ?_
  refine lv_ixor hx hb dX6_mostHeard_16 ?_
  refine tE (y := (-1)) (by decide) ?_
  refine lv_iand hx hb dX6_mostHeard_17 ?_
  refine tE (y := 19) (by decide) ?_
  refine bt_ne (tgt := 46) (X := 19) hx hb dX6_mostHeard_18 (by decide) rfl (by omega) ?_
  refine lv_iinc (v := 20) (lv' := [(4, .int 20), (3, .int 0), (0, .ref (a 34)), (1, .int 0), (2, .int x2)]) hx hb dX6_mostHeard_46 hl (k := 0) rfl rfl (by decide) rfl (fun ls hl => ?_)
  refine lv_goto (tgt := 5) hx hb dX6_mostHeard_49 (by decide) ?_
  refine lv_iload hx hb dX6_mostHeard_5 (lv_at hl 0 rfl) ?_
  refine lv_bipush (v := 64) hx hb dX6_mostHeard_7 (by decide) ?_
  refine cn_ge (X := 20) (Y := 64) hx hb dX6_mostHeard_9 rfl rfl (by omega) ?_ (tgt := 52) (by decide)
  refine lv_iload hx hb dX6_mostHeard_12 (lv_at hl 0 rfl) ?_
  refine lv_iload_n hx hb dX6_mostHeard_14 rfl (lv_at hl 3 rfl) ?_
  refine lv_iconst (v := (-1)) hx hb dX6_mostHeard_15 (by decide) ?_
  refine lv_ixor hx hb dX6_mostHeard_16 ?_
  refine tE (y := (-1)) (by decide) ?_
  refine lv_iand hx hb dX6_mostHeard_17 ?_
  refine tE (y := 20) (by decide) ?_
  refine bt_ne (tgt := 46) (X := 20) hx hb dX6_mostHeard_18 (by decide) rfl (by omega) ?_
  refine lv_iinc (v := 21) (lv' := [(4, .int 21), (3, .int 0), (0, .ref (a 34)), (1, .int 0), (2, .int x2)]) hx hb dX6_mostHeard_46 hl (k := 0) rfl rfl (by decide) rfl (fun ls hl => ?_)
  refine lv_goto (tgt := 5) hx hb dX6_mostHeard_49 (by decide) ?_
  refine lv_iload hx hb dX6_mostHeard_5 (lv_at hl 0 rfl) ?_
  refine lv_bipush (v := 64) hx hb dX6_mostHeard_7 (by decide) ?_
  refine cn_ge (X := 21) (Y := 64) hx hb dX6_mostHeard_9 rfl rfl (by omega) ?_ (tgt := 52) (by decide)
  refine lv_iload hx hb dX6_mostHeard_12 (lv_at hl 0 rfl) ?_
  refine lv_iload_n hx hb dX6_mostHeard_14 rfl (lv_at hl 3 rfl) ?_
  refine lv_iconst (v := (-1)) hx hb dX6_mostHeard_15 (by decide) ?_
  refine lv_ixor hx hb dX6_mostHeard_16 ?_
  refine tE (y := (-1)) (by decide) ?_
  refine lv_iand hx hb dX6_mostHeard_17 ?_
  refine tE (y := 21) (by decide) ?_
  refine bt_ne (tgt := 46) (X := 21) hx hb dX6_mostHeard_18 (by decide) rfl (by omega) ?_
  refine lv_iinc (v := 22) (lv' := [(4, .int 22), (3, .int 0), (0, .ref (a 34)), (1, .int 0), (2, .int x2)]) hx hb dX6_mostHeard_46 hl (k := 0) rfl rfl (by decide) rfl (fun ls hl => ?_)
  refine lv_goto (tgt := 5) hx hb dX6_mostHeard_49 (by decide) ?_
  refine lv_iload hx hb dX6_mostHeard_5 (lv_at hl 0 rfl) ?_
  refine lv_bipush (v := 64) hx hb dX6_mostHeard_7 (by decide) ?_
  refine cn_ge (X := 22) (Y := 64) hx hb dX6_mostHeard_9 rfl rfl (by omega) ?_ (tgt := 52) (by decide)
  refine lv_iload hx hb dX6_mostHeard_12 (lv_at hl 0 rfl) ?_
  refine lv_iload_n hx hb dX6_mostHeard_14 rfl (lv_at hl 3 rfl) ?_
  refine lv_iconst (v := (-1)) hx hb dX6_mostHeard_15 (by decide) ?_
  refine lv_ixor hx hb dX6_mostHeard_16 ?_
  refine tE (y := (-1)) (by decide) ?_
  refine lv_iand hx hb dX6_mostHeard_17 ?_
  refine tE (y := 22) (by decide) ?_
  refine bt_ne (tgt := 46) (X := 22) hx hb dX6_mostHeard_18 (by decide) rfl (by omega) ?_
  refine lv_iinc (v := 23) (lv' := [(4, .int 23), (3, .int 0), (0, .ref (a 34)), (1, .int 0), (2, .int x2)]) hx hb dX6_mostHeard_46 hl (k := 0) rfl rfl (by decide) rfl (fun ls hl => ?_)
  refine lv_goto (tgt := 5) hx hb dX6_mostHeard_49 (by decide) ?_
  refine lv_iload hx hb dX6_mostHeard_5 (lv_at hl 0 rfl) ?_
  refine lv_bipush (v := 64) hx hb dX6_mostHeard_7 (by decide) ?_
  refine cn_ge (X := 23) (Y := 64) hx hb dX6_mostHeard_9 rfl rfl (by omega) ?_ (tgt := 52) (by decide)
  refine lv_iload hx hb dX6_mostHeard_12 (lv_at hl 0 rfl) ?_
  refine lv_iload_n hx hb dX6_mostHeard_14 rfl (lv_at hl 3 rfl) ?_
  refine lv_iconst (v := (-1)) hx hb dX6_mostHeard_15 (by decide) ?_
  refine lv_ixor hx hb dX6_mostHeard_16 ?_
  refine tE (y := (-1)) (by decide) ?_
  refine lv_iand hx hb dX6_mostHeard_17 ?_
  refine tE (y := 23) (by decide) ?_
  refine bt_ne (tgt := 46) (X := 23) hx hb dX6_mostHeard_18 (by decide) rfl (by omega) ?_
  refine lv_iinc (v := 24) (lv' := [(4, .int 24), (3, .int 0), (0, .ref (a 34)), (1, .int 0), (2, .int x2)]) hx hb dX6_mostHeard_46 hl (k := 0) rfl rfl (by decide) rfl (fun ls hl => ?_)
  refine lv_goto (tgt := 5) hx hb dX6_mostHeard_49 (by decide) ?_
  refine lv_iload hx hb dX6_mostHeard_5 (lv_at hl 0 rfl) ?_
  refine lv_bipush (v := 64) hx hb dX6_mostHeard_7 (by decide) ?_
  refine cn_ge (X := 24) (Y := 64) hx hb dX6_mostHeard_9 rfl rfl (by omega) ?_ (tgt := 52) (by decide)
  refine lv_iload hx hb dX6_mostHeard_12 (lv_at hl 0 rfl) ?_
  refine lv_iload_n hx hb dX6_mostHeard_14 rfl (lv_at hl 3 rfl) ?_
  refine lv_iconst (v := (-1)) hx hb dX6_mostHeard_15 (by decide) ?_
  refine lv_ixor hx hb dX6_mostHeard_16 ?_
  refine tE (y := (-1)) (by decide) ?_
  refine lv_iand hx hb dX6_mostHeard_17 ?_
  refine tE (y := 24) (by decide) ?_
  refine bt_ne (tgt := 46) (X := 24) hx hb dX6_mostHeard_18 (by decide) rfl (by omega) ?_
  refine lv_iinc (v := 25) (lv' := [(4, .int 25), (3, .int 0), (0, .ref (a 34)), (1, .int 0), (2, .int x2)]) hx hb dX6_mostHeard_46 hl (k := 0) rfl rfl (by decide) rfl (fun ls hl => ?_)
  refine lv_goto (tgt := 5) hx hb dX6_mostHeard_49 (by decide) ?_
  refine lv_iload hx hb dX6_mostHeard_5 (lv_at hl 0 rfl) ?_
  refine lv_bipush (v := 64) hx hb dX6_mostHeard_7 (by decide) ?_
  refine cn_ge (X := 25) (Y := 64) hx hb dX6_mostHeard_9 rfl rfl (by omega) ?_ (tgt := 52) (by decide)
  refine lv_iload hx hb dX6_mostHeard_12 (lv_at hl 0 rfl) ?_
  refine lv_iload_n hx hb dX6_mostHeard_14 rfl (lv_at hl 3 rfl) ?_
  refine lv_iconst (v := (-1)) hx hb dX6_mostHeard_15 (by decide) ?_
  refine lv_ixor hx hb dX6_mostHeard_16 ?_
  refine tE (y := (-1)) (by decide) ?_
  refine lv_iand hx hb dX6_mostHeard_17 ?_
  refine tE (y := 25) (by decide) ?_
  refine bt_ne (tgt := 46) (X := 25) hx hb dX6_mostHeard_18 (by decide) rfl (by omega) ?_
  refine lv_iinc (v := 26) (lv' := [(4, .int 26), (3, .int 0), (0, .ref (a 34)), (1, .int 0), (2, .int x2)]) hx hb dX6_mostHeard_46 hl (k := 0) rfl rfl (by decide) rfl (fun ls hl => ?_)
  refine lv_goto (tgt := 5) hx hb dX6_mostHeard_49 (by decide) ?_
  refine lv_iload hx hb dX6_mostHeard_5 (lv_at hl 0 rfl) ?_
  refine lv_bipush (v := 64) hx hb dX6_mostHeard_7 (by decide) ?_
  refine cn_ge (X := 26) (Y := 64) hx hb dX6_mostHeard_9 rfl rfl (by omega) ?_ (tgt := 52) (by decide)
  refine lv_iload hx hb dX6_mostHeard_12 (lv_at hl 0 rfl) ?_
  refine lv_iload_n hx hb dX6_mostHeard_14 rfl (lv_at hl 3 rfl) ?_
  refine lv_iconst (v := (-1)) hx hb dX6_mostHeard_15 (by decide) ?_
  refine lv_ixor hx hb dX6_mostHeard_16 ?_
  refine tE (y := (-1)) (by decide) ?_
  refine lv_iand hx hb dX6_mostHeard_17 ?_
  refine tE (y := 26) (by decide) ?_
  refine bt_ne (tgt := 46) (X := 26) hx hb dX6_mostHeard_18 (by decide) rfl (by omega) ?_
  refine lv_iinc (v := 27) (lv' := [(4, .int 27), (3, .int 0), (0, .ref (a 34)), (1, .int 0), (2, .int x2)]) hx hb dX6_mostHeard_46 hl (k := 0) rfl rfl (by decide) rfl (fun ls hl => ?_)
  refine lv_goto (tgt := 5) hx hb dX6_mostHeard_49 (by decide) ?_
  refine lv_iload hx hb dX6_mostHeard_5 (lv_at hl 0 rfl) ?_
  refine lv_bipush (v := 64) hx hb dX6_mostHeard_7 (by decide) ?_
  refine cn_ge (X := 27) (Y := 64) hx hb dX6_mostHeard_9 rfl rfl (by omega) ?_ (tgt := 52) (by decide)
  refine lv_iload hx hb dX6_mostHeard_12 (lv_at hl 0 rfl) ?_
  refine lv_iload_n hx hb dX6_mostHeard_14 rfl (lv_at hl 3 rfl) ?_
  refine lv_iconst (v := (-1)) hx hb dX6_mostHeard_15 (by decide) ?_
  refine lv_ixor hx hb dX6_mostHeard_16 ?_
  refine tE (y := (-1)) (by decide) ?_
  refine lv_iand hx hb dX6_mostHeard_17 ?_
  refine tE (y := 27) (by decide) ?_
  refine bt_ne (tgt := 46) (X := 27) hx hb dX6_mostHeard_18 (by decide) rfl (by omega) ?_
  refine lv_iinc (v := 28) (lv' := [(4, .int 28), (3, .int 0), (0, .ref (a 34)), (1, .int 0), (2, .int x2)]) hx hb dX6_mostHeard_46 hl (k := 0) rfl rfl (by decide) rfl (fun ls hl => ?_)
  refine lv_goto (tgt := 5) hx hb dX6_mostHeard_49 (by decide) ?_
  refine lv_iload hx hb dX6_mostHeard_5 (lv_at hl 0 rfl) ?_
  refine lv_bipush (v := 64) hx hb dX6_mostHeard_7 (by decide) ?_
  refine cn_ge (X := 28) (Y := 64) hx hb dX6_mostHeard_9 rfl rfl (by omega) ?_ (tgt := 52) (by decide)
  refine lv_iload hx hb dX6_mostHeard_12 (lv_at hl 0 rfl) ?_
  refine lv_iload_n hx hb dX6_mostHeard_14 rfl (lv_at hl 3 rfl) ?_
  refine lv_iconst (v := (-1)) hx hb dX6_mostHeard_15 (by decide) ?_
  refine lv_ixor hx hb dX6_mostHeard_16 ?_
  refine tE (y := (-1)) (by decide) ?_
  refine lv_iand hx hb dX6_mostHeard_17 ?_
  refine tE (y := 28) (by decide) ?_
  refine bt_ne (tgt := 46) (X := 28) hx hb dX6_mostHeard_18 (by decide) rfl (by omega) ?_
  refine lv_iinc (v := 29) (lv' := [(4, .int 29), (3, .int 0), (0, .ref (a 34)), (1, .int 0), (2, .int x2)]) hx hb dX6_mostHeard_46 hl (k := 0) rfl rfl (by decide) rfl (fun ls hl => ?_)
  refine lv_goto (tgt := 5) hx hb dX6_mostHeard_49 (by decide) ?_
  refine lv_iload hx hb dX6_mostHeard_5 (lv_at hl 0 rfl) ?_
  refine lv_bipush (v := 64) hx hb dX6_mostHeard_7 (by decide) ?_
  refine cn_ge (X := 29) (Y := 64) hx hb dX6_mostHeard_9 rfl rfl (by omega) ?_ (tgt := 52) (by decide)
  refine lv_iload hx hb dX6_mostHeard_12 (lv_at hl 0 rfl) ?_
  refine lv_iload_n hx hb dX6_mostHeard_14 rfl (lv_at hl 3 rfl) ?_
  refine lv_iconst (v := (-1)) hx hb dX6_mostHeard_15 (by decide) ?_
  refine lv_ixor hx hb dX6_mostHeard_16 ?_
  refine tE (y := (-1)) (by decide) ?_
  refine lv_iand hx hb dX6_mostHeard_17 ?_
  refine tE (y := 29) (by decide) ?_
  refine bt_ne (tgt := 46) (X := 29) hx hb dX6_mostHeard_18 (by decide) rfl (by omega) ?_
  refine lv_iinc (v := 30) (lv' := [(4, .int 30), (3, .int 0), (0, .ref (a 34)), (1, .int 0), (2, .int x2)]) hx hb dX6_mostHeard_46 hl (k := 0) rfl rfl (by decide) rfl (fun ls hl => ?_)
  refine lv_goto (tgt := 5) hx hb dX6_mostHeard_49 (by decide) ?_
  refine lv_iload hx hb dX6_mostHeard_5 (lv_at hl 0 rfl) ?_
  refine lv_bipush (v := 64) hx hb dX6_mostHeard_7 (by decide) ?_
  refine cn_ge (X := 30) (Y := 64) hx hb dX6_mostHeard_9 rfl rfl (by omega) ?_ (tgt := 52) (by decide)
  refine lv_iload hx hb dX6_mostHeard_12 (lv_at hl 0 rfl) ?_
  refine lv_iload_n hx hb dX6_mostHeard_14 rfl (lv_at hl 3 rfl) ?_
  refine lv_iconst (v := (-1)) hx hb dX6_mostHeard_15 (by decide) ?_
  refine lv_ixor hx hb dX6_mostHeard_16 ?_
  refine tE (y := (-1)) (by decide) ?_
  refine lv_iand hx hb dX6_mostHeard_17 ?_
  refine tE (y := 30) (by decide) ?_
  refine bt_ne (tgt := 46) (X := 30) hx hb dX6_mostHeard_18 (by decide) rfl (by omega) ?_
  refine lv_iinc (v := 31) (lv' := [(4, .int 31), (3, .int 0), (0, .ref (a 34)), (1, .int 0), (2, .int x2)]) hx hb dX6_mostHeard_46 hl (k := 0) rfl rfl (by decide) rfl (fun ls hl => ?_)
  refine lv_goto (tgt := 5) hx hb dX6_mostHeard_49 (by decide) ?_
  refine lv_iload hx hb dX6_mostHeard_5 (lv_at hl 0 rfl) ?_
  refine lv_bipush (v := 64) hx hb dX6_mostHeard_7 (by decide) ?_
  refine cn_ge (X := 31) (Y := 64) hx hb dX6_mostHeard_9 rfl rfl (by omega) ?_ (tgt := 52) (by decide)
  refine lv_iload hx hb dX6_mostHeard_12 (lv_at hl 0 rfl) ?_
  refine lv_iload_n hx hb dX6_mostHeard_14 rfl (lv_at hl 3 rfl) ?_
  refine lv_iconst (v := (-1)) hx hb dX6_mostHeard_15 (by decide) ?_
  refine lv_ixor hx hb dX6_mostHeard_16 ?_
  refine tE (y := (-1)) (by decide) ?_
  refine lv_iand hx hb dX6_mostHeard_17 ?_
  refine tE (y := 31) (by decide) ?_
  refine bt_ne (tgt := 46) (X := 31) hx hb dX6_mostHeard_18 (by decide) rfl (by omega) ?_
  refine lv_iinc (v := 32) (lv' := [(4, .int 32), (3, .int 0), (0, .ref (a 34)), (1, .int 0), (2, .int x2)]) hx hb dX6_mostHeard_46 hl (k := 0) rfl rfl (by decide) rfl (fun ls hl => ?_)
  refine lv_goto (tgt := 5) hx hb dX6_mostHeard_49 (by decide) ?_
  refine lv_iload hx hb dX6_mostHeard_5 (lv_at hl 0 rfl) ?_
  refine lv_bipush (v := 64) hx hb dX6_mostHeard_7 (by decide) ?_
  refine cn_ge (X := 32) (Y := 64) hx hb dX6_mostHeard_9 rfl rfl (by omega) ?_ (tgt := 52) (by decide)
  refine lv_iload hx hb dX6_mostHeard_12 (lv_at hl 0 rfl) ?_
  refine lv_iload_n hx hb dX6_mostHeard_14 rfl (lv_at hl 3 rfl) ?_
  refine lv_iconst (v := (-1)) hx hb dX6_mostHeard_15 (by decide) ?_
  refine lv_ixor hx hb dX6_mostHeard_16 ?_
  refine tE (y := (-1)) (by decide) ?_
  refine lv_iand hx hb dX6_mostHeard_17 ?_
  refine tE (y := 32) (by decide) ?_
  refine bt_ne (tgt := 46) (X := 32) hx hb dX6_mostHeard_18 (by decide) rfl (by omega) ?_
  refine lv_iinc (v := 33) (lv' := [(4, .int 33), (3, .int 0), (0, .ref (a 34)), (1, .int 0), (2, .int x2)]) hx hb dX6_mostHeard_46 hl (k := 0) rfl rfl (by decide) rfl (fun ls hl => ?_)
  refine lv_goto (tgt := 5) hx hb dX6_mostHeard_49 (by decide) ?_
  refine lv_iload hx hb dX6_mostHeard_5 (lv_at hl 0 rfl) ?_
  refine lv_bipush (v := 64) hx hb dX6_mostHeard_7 (by decide) ?_
  refine cn_ge (X := 33) (Y := 64) hx hb dX6_mostHeard_9 rfl rfl (by omega) ?_ (tgt := 52) (by decide)
  refine lv_iload hx hb dX6_mostHeard_12 (lv_at hl 0 rfl) ?_
  refine lv_iload_n hx hb dX6_mostHeard_14 rfl (lv_at hl 3 rfl) ?_
  refine lv_iconst (v := (-1)) hx hb dX6_mostHeard_15 (by decide) ?_
  refine lv_ixor hx hb dX6_mostHeard_16 ?_
  refine tE (y := (-1)) (by decide) ?_
  refine lv_iand hx hb dX6_mostHeard_17 ?_
  refine tE (y := 33) (by decide) ?_
  refine bt_ne (tgt := 46) (X := 33) hx hb dX6_mostHeard_18 (by decide) rfl (by omega) ?_
  refine lv_iinc (v := 34) (lv' := [(4, .int 34), (3, .int 0), (0, .ref (a 34)), (1, .int 0), (2, .int x2)]) hx hb dX6_mostHeard_46 hl (k := 0) rfl rfl (by decide) rfl (fun ls hl => ?_)
  refine lv_goto (tgt := 5) hx hb dX6_mostHeard_49 (by decide) ?_
  refine lv_iload hx hb dX6_mostHeard_5 (lv_at hl 0 rfl) ?_
  refine lv_bipush (v := 64) hx hb dX6_mostHeard_7 (by decide) ?_
  refine cn_ge (X := 34) (Y := 64) hx hb dX6_mostHeard_9 rfl rfl (by omega) ?_ (tgt := 52) (by decide)
  refine lv_iload hx hb dX6_mostHeard_12 (lv_at hl 0 rfl) ?_
  refine lv_iload_n hx hb dX6_mostHeard_14 rfl (lv_at hl 3 rfl) ?_
  refine lv_iconst (v := (-1)) hx hb dX6_mostHeard_15 (by decide) ?_
  refine lv_ixor hx hb dX6_mostHeard_16 ?_
  refine tE (y := (-1)) (by decide) ?_
  refine lv_iand hx hb dX6_mostHeard_17 ?_
  refine tE (y := 34) (by decide) ?_
  refine bt_ne (tgt := 46) (X := 34) hx hb dX6_mostHeard_18 (by decide) rfl (by omega) ?_
  refine lv_iinc (v := 35) (lv' := [(4, .int 35), (3, .int 0), (0, .ref (a 34)), (1, .int 0), (2, .int x2)]) hx hb dX6_mostHeard_46 hl (k := 0) rfl rfl (by decide) rfl (fun ls hl => ?_)
  refine lv_goto (tgt := 5) hx hb dX6_mostHeard_49 (by decide) ?_
  refine lv_iload hx hb dX6_mostHeard_5 (lv_at hl 0 rfl) ?_
  refine lv_bipush (v := 64) hx hb dX6_mostHeard_7 (by decide) ?_
  refine cn_ge (X := 35) (Y := 64) hx hb dX6_mostHeard_9 rfl rfl (by omega) ?_ (tgt := 52) (by decide)
  refine lv_iload hx hb dX6_mostHeard_12 (lv_at hl 0 rfl) ?_
  refine lv_iload_n hx hb dX6_mostHeard_14 rfl (lv_at hl 3 rfl) ?_
  refine lv_iconst (v := (-1)) hx hb dX6_mostHeard_15 (by decide) ?_
  refine lv_ixor hx hb dX6_mostHeard_16 ?_
  refine tE (y := (-1)) (by decide) ?_
  refine lv_iand hx hb dX6_mostHeard_17 ?_
  refine tE (y := 35) (by decide) ?_
  refine bt_ne (tgt := 46) (X := 35) hx hb dX6_mostHeard_18 (by decide) rfl (by omega) ?_
  refine lv_iinc (v := 36) (lv' := [(4, .int 36), (3, .int 0), (0, .ref (a 34)), (1, .int 0), (2, .int x2)]) hx hb dX6_mostHeard_46 hl (k := 0) rfl rfl (by decide) rfl (fun ls hl => ?_)
  refine lv_goto (tgt := 5) hx hb dX6_mostHeard_49 (by decide) ?_
  refine lv_iload hx hb dX6_mostHeard_5 (lv_at hl 0 rfl) ?_
  refine lv_bipush (v := 64) hx hb dX6_mostHeard_7 (by decide) ?_
  refine cn_ge (X := 36) (Y := 64) hx hb dX6_mostHeard_9 rfl rfl (by omega) ?_ (tgt := 52) (by decide)
  refine lv_iload hx hb dX6_mostHeard_12 (lv_at hl 0 rfl) ?_
  refine lv_iload_n hx hb dX6_mostHeard_14 rfl (lv_at hl 3 rfl) ?_
  refine lv_iconst (v := (-1)) hx hb dX6_mostHeard_15 (by decide) ?_
  refine lv_ixor hx hb dX6_mostHeard_16 ?_
  refine tE (y := (-1)) (by decide) ?_
  refine lv_iand hx hb dX6_mostHeard_17 ?_
  refine tE (y := 36) (by decide) ?_
  refine bt_ne (tgt := 46) (X := 36) hx hb dX6_mostHeard_18 (by decide) rfl (by omega) ?_
  refine lv_iinc (v := 37) (lv' := [(4, .int 37), (3, .int 0), (0, .ref (a 34)), (1, .int 0), (2, .int x2)]) hx hb dX6_mostHeard_46 hl (k := 0) rfl rfl (by decide) rfl (fun ls hl => ?_)
  refine lv_goto (tgt := 5) hx hb dX6_mostHeard_49 (by decide) ?_
  refine lv_iload hx hb dX6_mostHeard_5 (lv_at hl 0 rfl) ?_
  refine lv_bipush (v := 64) hx hb dX6_mostHeard_7 (by decide) ?_
  refine cn_ge (X := 37) (Y := 64) hx hb dX6_mostHeard_9 rfl rfl (by omega) ?_ (tgt := 52) (by decide)
  refine lv_iload hx hb dX6_mostHeard_12 (lv_at hl 0 rfl) ?_
  refine lv_iload_n hx hb dX6_mostHeard_14 rfl (lv_at hl 3 rfl) ?_
  refine lv_iconst (v := (-1)) hx hb dX6_mostHeard_15 (by decide) ?_
  refine lv_ixor hx hb dX6_mostHeard_16 ?_
  refine tE (y := (-1)) (by decide) ?_
  refine lv_iand hx hb dX6_mostHeard_17 ?_
  refine tE (y := 37) (by decide) ?_
  refine bt_ne (tgt := 46) (X := 37) hx hb dX6_mostHeard_18 (by decide) rfl (by omega) ?_
  refine lv_iinc (v := 38) (lv' := [(4, .int 38), (3, .int 0), (0, .ref (a 34)), (1, .int 0), (2, .int x2)]) hx hb dX6_mostHeard_46 hl (k := 0) rfl rfl (by decide) rfl (fun ls hl => ?_)
  refine lv_goto (tgt := 5) hx hb dX6_mostHeard_49 (by decide) ?_
  refine lv_iload hx hb dX6_mostHeard_5 (lv_at hl 0 rfl) ?_
  refine lv_bipush (v := 64) hx hb dX6_mostHeard_7 (by decide) ?_
  refine cn_ge (X := 38) (Y := 64) hx hb dX6_mostHeard_9 rfl rfl (by omega) ?_ (tgt := 52) (by decide)
  refine lv_iload hx hb dX6_mostHeard_12 (lv_at hl 0 rfl) ?_
  refine lv_iload_n hx hb dX6_mostHeard_14 rfl (lv_at hl 3 rfl) ?_
  refine lv_iconst (v := (-1)) hx hb dX6_mostHeard_15 (by decide) ?_
  refine lv_ixor hx hb dX6_mostHeard_16 ?_
  refine tE (y := (-1)) (by decide) ?_
  refine lv_iand hx hb dX6_mostHeard_17 ?_
  refine tE (y := 38) (by decide) ?_
  refine bt_ne (tgt := 46) (X := 38) hx hb dX6_mostHeard_18 (by decide) rfl (by omega) ?_
  refine lv_iinc (v := 39) (lv' := [(4, .int 39), (3, .int 0), (0, .ref (a 34)), (1, .int 0), (2, .int x2)]) hx hb dX6_mostHeard_46 hl (k := 0) rfl rfl (by decide) rfl (fun ls hl => ?_)
  refine lv_goto (tgt := 5) hx hb dX6_mostHeard_49 (by decide) ?_
  refine lv_iload hx hb dX6_mostHeard_5 (lv_at hl 0 rfl) ?_
  refine lv_bipush (v := 64) hx hb dX6_mostHeard_7 (by decide) ?_
  refine cn_ge (X := 39) (Y := 64) hx hb dX6_mostHeard_9 rfl rfl (by omega) ?_ (tgt := 52) (by decide)
  refine lv_iload hx hb dX6_mostHeard_12 (lv_at hl 0 rfl) ?_
  refine lv_iload_n hx hb dX6_mostHeard_14 rfl (lv_at hl 3 rfl) ?_
  refine lv_iconst (v := (-1)) hx hb dX6_mostHeard_15 (by decide) ?_
  refine lv_ixor hx hb dX6_mostHeard_16 ?_
  refine tE (y := (-1)) (by decide) ?_
  refine lv_iand hx hb dX6_mostHeard_17 ?_
  refine tE (y := 39) (by decide) ?_
  refine bt_ne (tgt := 46) (X := 39) hx hb dX6_mostHeard_18 (by decide) rfl (by omega) ?_
  refine lv_iinc (v := 40) (lv' := [(4, .int 40), (3, .int 0), (0, .ref (a 34)), (1, .int 0), (2, .int x2)]) hx hb dX6_mostHeard_46 hl (k := 0) rfl rfl (by decide) rfl (fun ls hl => ?_)
  refine lv_goto (tgt := 5) hx hb dX6_mostHeard_49 (by decide) ?_
  refine lv_iload hx hb dX6_mostHeard_5 (lv_at hl 0 rfl) ?_
  refine lv_bipush (v := 64) hx hb dX6_mostHeard_7 (by decide) ?_
  refine cn_ge (X := 40) (Y := 64) hx hb dX6_mostHeard_9 rfl rfl (by omega) ?_ (tgt := 52) (by decide)
  refine lv_iload hx hb dX6_mostHeard_12 (lv_at hl 0 rfl) ?_
  refine lv_iload_n hx hb dX6_mostHeard_14 rfl (lv_at hl 3 rfl) ?_
  refine lv_iconst (v := (-1)) hx hb dX6_mostHeard_15 (by decide) ?_
  refine lv_ixor hx hb dX6_mostHeard_16 ?_
  refine tE (y := (-1)) (by decide) ?_
  refine lv_iand hx hb dX6_mostHeard_17 ?_
  refine tE (y := 40) (by decide) ?_
  refine bt_ne (tgt := 46) (X := 40) hx hb dX6_mostHeard_18 (by decide) rfl (by omega) ?_
  refine lv_iinc (v := 41) (lv' := [(4, .int 41), (3, .int 0), (0, .ref (a 34)), (1, .int 0), (2, .int x2)]) hx hb dX6_mostHeard_46 hl (k := 0) rfl rfl (by decide) rfl (fun ls hl => ?_)
  refine lv_goto (tgt := 5) hx hb dX6_mostHeard_49 (by decide) ?_
  refine lv_iload hx hb dX6_mostHeard_5 (lv_at hl 0 rfl) ?_
  refine lv_bipush (v := 64) hx hb dX6_mostHeard_7 (by decide) ?_
  refine cn_ge (X := 41) (Y := 64) hx hb dX6_mostHeard_9 rfl rfl (by omega) ?_ (tgt := 52) (by decide)
  refine lv_iload hx hb dX6_mostHeard_12 (lv_at hl 0 rfl) ?_
  refine lv_iload_n hx hb dX6_mostHeard_14 rfl (lv_at hl 3 rfl) ?_
  refine lv_iconst (v := (-1)) hx hb dX6_mostHeard_15 (by decide) ?_
  refine lv_ixor hx hb dX6_mostHeard_16 ?_
  refine tE (y := (-1)) (by decide) ?_
  refine lv_iand hx hb dX6_mostHeard_17 ?_
  refine tE (y := 41) (by decide) ?_
  refine bt_ne (tgt := 46) (X := 41) hx hb dX6_mostHeard_18 (by decide) rfl (by omega) ?_
  refine lv_iinc (v := 42) (lv' := [(4, .int 42), (3, .int 0), (0, .ref (a 34)), (1, .int 0), (2, .int x2)]) hx hb dX6_mostHeard_46 hl (k := 0) rfl rfl (by decide) rfl (fun ls hl => ?_)
  refine lv_goto (tgt := 5) hx hb dX6_mostHeard_49 (by decide) ?_
  refine lv_iload hx hb dX6_mostHeard_5 (lv_at hl 0 rfl) ?_
  refine lv_bipush (v := 64) hx hb dX6_mostHeard_7 (by decide) ?_
  refine cn_ge (X := 42) (Y := 64) hx hb dX6_mostHeard_9 rfl rfl (by omega) ?_ (tgt := 52) (by decide)
  refine lv_iload hx hb dX6_mostHeard_12 (lv_at hl 0 rfl) ?_
  refine lv_iload_n hx hb dX6_mostHeard_14 rfl (lv_at hl 3 rfl) ?_
  refine lv_iconst (v := (-1)) hx hb dX6_mostHeard_15 (by decide) ?_
  refine lv_ixor hx hb dX6_mostHeard_16 ?_
  refine tE (y := (-1)) (by decide) ?_
  refine lv_iand hx hb dX6_mostHeard_17 ?_
  refine tE (y := 42) (by decide) ?_
  refine bt_ne (tgt := 46) (X := 42) hx hb dX6_mostHeard_18 (by decide) rfl (by omega) ?_
  refine lv_iinc (v := 43) (lv' := [(4, .int 43), (3, .int 0), (0, .ref (a 34)), (1, .int 0), (2, .int x2)]) hx hb dX6_mostHeard_46 hl (k := 0) rfl rfl (by decide) rfl (fun ls hl => ?_)
  refine lv_goto (tgt := 5) hx hb dX6_mostHeard_49 (by decide) ?_
  refine lv_iload hx hb dX6_mostHeard_5 (lv_at hl 0 rfl) ?_
  refine lv_bipush (v := 64) hx hb dX6_mostHeard_7 (by decide) ?_
  refine cn_ge (X := 43) (Y := 64) hx hb dX6_mostHeard_9 rfl rfl (by omega) ?_ (tgt := 52) (by decide)
  refine lv_iload hx hb dX6_mostHeard_12 (lv_at hl 0 rfl) ?_
  refine lv_iload_n hx hb dX6_mostHeard_14 rfl (lv_at hl 3 rfl) ?_
  refine lv_iconst (v := (-1)) hx hb dX6_mostHeard_15 (by decide) ?_
  refine lv_ixor hx hb dX6_mostHeard_16 ?_
  refine tE (y := (-1)) (by decide) ?_
  refine lv_iand hx hb dX6_mostHeard_17 ?_
  refine tE (y := 43) (by decide) ?_
  refine bt_ne (tgt := 46) (X := 43) hx hb dX6_mostHeard_18 (by decide) rfl (by omega) ?_
  refine lv_iinc (v := 44) (lv' := [(4, .int 44), (3, .int 0), (0, .ref (a 34)), (1, .int 0), (2, .int x2)]) hx hb dX6_mostHeard_46 hl (k := 0) rfl rfl (by decide) rfl (fun ls hl => ?_)
  refine lv_goto (tgt := 5) hx hb dX6_mostHeard_49 (by decide) ?_
  refine lv_iload hx hb dX6_mostHeard_5 (lv_at hl 0 rfl) ?_
  refine lv_bipush (v := 64) hx hb dX6_mostHeard_7 (by decide) ?_
  refine cn_ge (X := 44) (Y := 64) hx hb dX6_mostHeard_9 rfl rfl (by omega) ?_ (tgt := 52) (by decide)
  refine lv_iload hx hb dX6_mostHeard_12 (lv_at hl 0 rfl) ?_
  refine lv_iload_n hx hb dX6_mostHeard_14 rfl (lv_at hl 3 rfl) ?_
  refine lv_iconst (v := (-1)) hx hb dX6_mostHeard_15 (by decide) ?_
  refine lv_ixor hx hb dX6_mostHeard_16 ?_
  refine tE (y := (-1)) (by decide) ?_
  refine lv_iand hx hb dX6_mostHeard_17 ?_
  refine tE (y := 44) (by decide) ?_
  refine bt_ne (tgt := 46) (X := 44) hx hb dX6_mostHeard_18 (by decide) rfl (by omega) ?_
  refine lv_iinc (v := 45) (lv' := [(4, .int 45), (3, .int 0), (0, .ref (a 34)), (1, .int 0), (2, .int x2)]) hx hb dX6_mostHeard_46 hl (k := 0) rfl rfl (by decide) rfl (fun ls hl => ?_)
  refine lv_goto (tgt := 5) hx hb dX6_mostHeard_49 (by decide) ?_
  refine lv_iload hx hb dX6_mostHeard_5 (lv_at hl 0 rfl) ?_
  refine lv_bipush (v := 64) hx hb dX6_mostHeard_7 (by decide) ?_
  refine cn_ge (X := 45) (Y := 64) hx hb dX6_mostHeard_9 rfl rfl (by omega) ?_ (tgt := 52) (by decide)
  refine lv_iload hx hb dX6_mostHeard_12 (lv_at hl 0 rfl) ?_
  refine lv_iload_n hx hb dX6_mostHeard_14 rfl (lv_at hl 3 rfl) ?_
  refine lv_iconst (v := (-1)) hx hb dX6_mostHeard_15 (by decide) ?_
  refine lv_ixor hx hb dX6_mostHeard_16 ?_
  refine tE (y := (-1)) (by decide) ?_
  refine lv_iand hx hb dX6_mostHeard_17 ?_
  refine tE (y := 45) (by decide) ?_
  refine bt_ne (tgt := 46) (X := 45) hx hb dX6_mostHeard_18 (by decide) rfl (by omega) ?_
  refine lv_iinc (v := 46) (lv' := [(4, .int 46), (3, .int 0), (0, .ref (a 34)), (1, .int 0), (2, .int x2)]) hx hb dX6_mostHeard_46 hl (k := 0) rfl rfl (by decide) rfl (fun ls hl => ?_)
  refine lv_goto (tgt := 5) hx hb dX6_mostHeard_49 (by decide) ?_
  refine lv_iload hx hb dX6_mostHeard_5 (lv_at hl 0 rfl) ?_
  refine lv_bipush (v := 64) hx hb dX6_mostHeard_7 (by decide) ?_
  refine cn_ge (X := 46) (Y := 64) hx hb dX6_mostHeard_9 rfl rfl (by omega) ?_ (tgt := 52) (by decide)
  refine lv_iload hx hb dX6_mostHeard_12 (lv_at hl 0 rfl) ?_
  refine lv_iload_n hx hb dX6_mostHeard_14 rfl (lv_at hl 3 rfl) ?_
  refine lv_iconst (v := (-1)) hx hb dX6_mostHeard_15 (by decide) ?_
  refine lv_ixor hx hb dX6_mostHeard_16 ?_
  refine tE (y := (-1)) (by decide) ?_
  refine lv_iand hx hb dX6_mostHeard_17 ?_
  refine tE (y := 46) (by decide) ?_
  refine bt_ne (tgt := 46) (X := 46) hx hb dX6_mostHeard_18 (by decide) rfl (by omega) ?_
  refine lv_iinc (v := 47) (lv' := [(4, .int 47), (3, .int 0), (0, .ref (a 34)), (1, .int 0), (2, .int x2)]) hx hb dX6_mostHeard_46 hl (k := 0) rfl rfl (by decide) rfl (fun ls hl => ?_)
  refine lv_goto (tgt := 5) hx hb dX6_mostHeard_49 (by decide) ?_
  refine lv_iload hx hb dX6_mostHeard_5 (lv_at hl 0 rfl) ?_
  refine lv_bipush (v := 64) hx hb dX6_mostHeard_7 (by decide) ?_
  refine cn_ge (X := 47) (Y := 64) hx hb dX6_mostHeard_9 rfl rfl (by omega) ?_ (tgt := 52) (by decide)
  refine lv_iload hx hb dX6_mostHeard_12 (lv_at hl 0 rfl) ?_
  refine lv_iload_n hx hb dX6_mostHeard_14 rfl (lv_at hl 3 rfl) ?_
  refine lv_iconst (v := (-1)) hx hb dX6_mostHeard_15 (by decide) ?_
  refine lv_ixor hx hb dX6_mostHeard_16 ?_
  refine tE (y := (-1)) (by decide) ?_
  refine lv_iand hx hb dX6_mostHeard_17 ?_
  refine tE (y := 47) (by decide) ?_
  refine bt_ne (tgt := 46) (X := 47) hx hb dX6_mostHeard_18 (by decide) rfl (by omega) ?_
  refine lv_iinc (v := 48) (lv' := [(4, .int 48), (3, .int 0), (0, .ref (a 34)), (1, .int 0), (2, .int x2)]) hx hb dX6_mostHeard_46 hl (k := 0) rfl rfl (by decide) rfl (fun ls hl => ?_)
  refine lv_goto (tgt := 5) hx hb dX6_mostHeard_49 (by decide) ?_
  refine lv_iload hx hb dX6_mostHeard_5 (lv_at hl 0 rfl) ?_
  refine lv_bipush (v := 64) hx hb dX6_mostHeard_7 (by decide) ?_
  refine cn_ge (X := 48) (Y := 64) hx hb dX6_mostHeard_9 rfl rfl (by omega) ?_ (tgt := 52) (by decide)
  refine lv_iload hx hb dX6_mostHeard_12 (lv_at hl 0 rfl) ?_
  refine lv_iload_n hx hb dX6_mostHeard_14 rfl (lv_at hl 3 rfl) ?_
  refine lv_iconst (v := (-1)) hx hb dX6_mostHeard_15 (by decide) ?_
  refine lv_ixor hx hb dX6_mostHeard_16 ?_
  refine tE (y := (-1)) (by decide) ?_
  refine lv_iand hx hb dX6_mostHeard_17 ?_
  refine tE (y := 48) (by decide) ?_
  refine bt_ne (tgt := 46) (X := 48) hx hb dX6_mostHeard_18 (by decide) rfl (by omega) ?_
  refine lv_iinc (v := 49) (lv' := [(4, .int 49), (3, .int 0), (0, .ref (a 34)), (1, .int 0), (2, .int x2)]) hx hb dX6_mostHeard_46 hl (k := 0) rfl rfl (by decide) rfl (fun ls hl => ?_)
  refine lv_goto (tgt := 5) hx hb dX6_mostHeard_49 (by decide) ?_
  refine lv_iload hx hb dX6_mostHeard_5 (lv_at hl 0 rfl) ?_
  refine lv_bipush (v := 64) hx hb dX6_mostHeard_7 (by decide) ?_
  refine cn_ge (X := 49) (Y := 64) hx hb dX6_mostHeard_9 rfl rfl (by omega) ?_ (tgt := 52) (by decide)
  refine lv_iload hx hb dX6_mostHeard_12 (lv_at hl 0 rfl) ?_
  refine lv_iload_n hx hb dX6_mostHeard_14 rfl (lv_at hl 3 rfl) ?_
  refine lv_iconst (v := (-1)) hx hb dX6_mostHeard_15 (by decide) ?_
  refine lv_ixor hx hb dX6_mostHeard_16 ?_
  refine tE (y := (-1)) (by decide) ?_
  refine lv_iand hx hb dX6_mostHeard_17 ?_
  refine tE (y := 49) (by decide) ?_
  refine bt_ne (tgt := 46) (X := 49) hx hb dX6_mostHeard_18 (by decide) rfl (by omega) ?_
  refine lv_iinc (v := 50) (lv' := [(4, .int 50), (3, .int 0), (0, .ref (a 34)), (1, .int 0), (2, .int x2)]) hx hb dX6_mostHeard_46 hl (k := 0) rfl rfl (by decide) rfl (fun ls hl => ?_)
  refine lv_goto (tgt := 5) hx hb dX6_mostHeard_49 (by decide) ?_
  refine lv_iload hx hb dX6_mostHeard_5 (lv_at hl 0 rfl) ?_
  refine lv_bipush (v := 64) hx hb dX6_mostHeard_7 (by decide) ?_
  refine cn_ge (X := 50) (Y := 64) hx hb dX6_mostHeard_9 rfl rfl (by omega) ?_ (tgt := 52) (by decide)
  refine lv_iload hx hb dX6_mostHeard_12 (lv_at hl 0 rfl) ?_
  refine lv_iload_n hx hb dX6_mostHeard_14 rfl (lv_at hl 3 rfl) ?_
  refine lv_iconst (v := (-1)) hx hb dX6_mostHeard_15 (by decide) ?_
  refine lv_ixor hx hb dX6_mostHeard_16 ?_
  refine tE (y := (-1)) (by decide) ?_
  refine lv_iand hx hb dX6_mostHeard_17 ?_
  refine tE (y := 50) (by decide) ?_
  refine bt_ne (tgt := 46) (X := 50) hx hb dX6_mostHeard_18 (by decide) rfl (by omega) ?_
  refine lv_iinc (v := 51) (lv' := [(4, .int 51), (3, .int 0), (0, .ref (a 34)), (1, .int 0), (2, .int x2)]) hx hb dX6_mostHeard_46 hl (k := 0) rfl rfl (by decide) rfl (fun ls hl => ?_)
  refine lv_goto (tgt := 5) hx hb dX6_mostHeard_49 (by decide) ?_
  refine lv_iload hx hb dX6_mostHeard_5 (lv_at hl 0 rfl) ?_
  refine lv_bipush (v := 64) hx hb dX6_mostHeard_7 (by decide) ?_
  refine cn_ge (X := 51) (Y := 64) hx hb dX6_mostHeard_9 rfl rfl (by omega) ?_ (tgt := 52) (by decide)
  refine lv_iload hx hb dX6_mostHeard_12 (lv_at hl 0 rfl) ?_
  refine lv_iload_n hx hb dX6_mostHeard_14 rfl (lv_at hl 3 rfl) ?_
  refine lv_iconst (v := (-1)) hx hb dX6_mostHeard_15 (by decide) ?_
  refine lv_ixor hx hb dX6_mostHeard_16 ?_
  refine tE (y := (-1)) (by decide) ?_
  refine lv_iand hx hb dX6_mostHeard_17 ?_
  refine tE (y := 51) (by decide) ?_
  refine bt_ne (tgt := 46) (X := 51) hx hb dX6_mostHeard_18 (by decide) rfl (by omega) ?_
  refine lv_iinc (v := 52) (lv' := [(4, .int 52), (3, .int 0), (0, .ref (a 34)), (1, .int 0), (2, .int x2)]) hx hb dX6_mostHeard_46 hl (k := 0) rfl rfl (by decide) rfl (fun ls hl => ?_)
  refine lv_goto (tgt := 5) hx hb dX6_mostHeard_49 (by decide) ?_
  refine lv_iload hx hb dX6_mostHeard_5 (lv_at hl 0 rfl) ?_
  refine lv_bipush (v := 64) hx hb dX6_mostHeard_7 (by decide) ?_
  refine cn_ge (X := 52) (Y := 64) hx hb dX6_mostHeard_9 rfl rfl (by omega) ?_ (tgt := 52) (by decide)
  refine lv_iload hx hb dX6_mostHeard_12 (lv_at hl 0 rfl) ?_
  refine lv_iload_n hx hb dX6_mostHeard_14 rfl (lv_at hl 3 rfl) ?_
  refine lv_iconst (v := (-1)) hx hb dX6_mostHeard_15 (by decide) ?_
  refine lv_ixor hx hb dX6_mostHeard_16 ?_
  refine tE (y := (-1)) (by decide) ?_
  refine lv_iand hx hb dX6_mostHeard_17 ?_
  refine tE (y := 52) (by decide) ?_
  refine bt_ne (tgt := 46) (X := 52) hx hb dX6_mostHeard_18 (by decide) rfl (by omega) ?_
  refine lv_iinc (v := 53) (lv' := [(4, .int 53), (3, .int 0), (0, .ref (a 34)), (1, .int 0), (2, .int x2)]) hx hb dX6_mostHeard_46 hl (k := 0) rfl rfl (by decide) rfl (fun ls hl => ?_)
  refine lv_goto (tgt := 5) hx hb dX6_mostHeard_49 (by decide) ?_
  refine lv_iload hx hb dX6_mostHeard_5 (lv_at hl 0 rfl) ?_
  refine lv_bipush (v := 64) hx hb dX6_mostHeard_7 (by decide) ?_
  refine cn_ge (X := 53) (Y := 64) hx hb dX6_mostHeard_9 rfl rfl (by omega) ?_ (tgt := 52) (by decide)
  refine lv_iload hx hb dX6_mostHeard_12 (lv_at hl 0 rfl) ?_
  refine lv_iload_n hx hb dX6_mostHeard_14 rfl (lv_at hl 3 rfl) ?_
  refine lv_iconst (v := (-1)) hx hb dX6_mostHeard_15 (by decide) ?_
  refine lv_ixor hx hb dX6_mostHeard_16 ?_
  refine tE (y := (-1)) (by decide) ?_
  refine lv_iand hx hb dX6_mostHeard_17 ?_
  refine tE (y := 53) (by decide) ?_
  refine bt_ne (tgt := 46) (X := 53) hx hb dX6_mostHeard_18 (by decide) rfl (by omega) ?_
  refine lv_iinc (v := 54) (lv' := [(4, .int 54), (3, .int 0), (0, .ref (a 34)), (1, .int 0), (2, .int x2)]) hx hb dX6_mostHeard_46 hl (k := 0) rfl rfl (by decide) rfl (fun ls hl => ?_)
  refine lv_goto (tgt := 5) hx hb dX6_mostHeard_49 (by decide) ?_
  refine lv_iload hx hb dX6_mostHeard_5 (lv_at hl 0 rfl) ?_
  refine lv_bipush (v := 64) hx hb dX6_mostHeard_7 (by decide) ?_
  refine cn_ge (X := 54) (Y := 64) hx hb dX6_mostHeard_9 rfl rfl (by omega) ?_ (tgt := 52) (by decide)
  refine lv_iload hx hb dX6_mostHeard_12 (lv_at hl 0 rfl) ?_
  refine lv_iload_n hx hb dX6_mostHeard_14 rfl (lv_at hl 3 rfl) ?_
  refine lv_iconst (v := (-1)) hx hb dX6_mostHeard_15 (by decide) ?_
  refine lv_ixor hx hb dX6_mostHeard_16 ?_
  refine tE (y := (-1)) (by decide) ?_
  refine lv_iand hx hb dX6_mostHeard_17 ?_
  refine tE (y := 54) (by decide) ?_
  refine bt_ne (tgt := 46) (X := 54) hx hb dX6_mostHeard_18 (by decide) rfl (by omega) ?_
  refine lv_iinc (v := 55) (lv' := [(4, .int 55), (3, .int 0), (0, .ref (a 34)), (1, .int 0), (2, .int x2)]) hx hb dX6_mostHeard_46 hl (k := 0) rfl rfl (by decide) rfl (fun ls hl => ?_)
  refine lv_goto (tgt := 5) hx hb dX6_mostHeard_49 (by decide) ?_
  refine lv_iload hx hb dX6_mostHeard_5 (lv_at hl 0 rfl) ?_
  refine lv_bipush (v := 64) hx hb dX6_mostHeard_7 (by decide) ?_
  refine cn_ge (X := 55) (Y := 64) hx hb dX6_mostHeard_9 rfl rfl (by omega) ?_ (tgt := 52) (by decide)
  refine lv_iload hx hb dX6_mostHeard_12 (lv_at hl 0 rfl) ?_
  refine lv_iload_n hx hb dX6_mostHeard_14 rfl (lv_at hl 3 rfl) ?_
  refine lv_iconst (v := (-1)) hx hb dX6_mostHeard_15 (by decide) ?_
  refine lv_ixor hx hb dX6_mostHeard_16 ?_
  refine tE (y := (-1)) (by decide) ?_
  refine lv_iand hx hb dX6_mostHeard_17 ?_
  refine tE (y := 55) (by decide) ?_
  refine bt_ne (tgt := 46) (X := 55) hx hb dX6_mostHeard_18 (by decide) rfl (by omega) ?_
  refine lv_iinc (v := 56) (lv' := [(4, .int 56), (3, .int 0), (0, .ref (a 34)), (1, .int 0), (2, .int x2)]) hx hb dX6_mostHeard_46 hl (k := 0) rfl rfl (by decide) rfl (fun ls hl => ?_)
  refine lv_goto (tgt := 5) hx hb dX6_mostHeard_49 (by decide) ?_
  refine lv_iload hx hb dX6_mostHeard_5 (lv_at hl 0 rfl) ?_
  refine lv_bipush (v := 64) hx hb dX6_mostHeard_7 (by decide) ?_
  refine cn_ge (X := 56) (Y := 64) hx hb dX6_mostHeard_9 rfl rfl (by omega) ?_ (tgt := 52) (by decide)
  refine lv_iload hx hb dX6_mostHeard_12 (lv_at hl 0 rfl) ?_
  refine lv_iload_n hx hb dX6_mostHeard_14 rfl (lv_at hl 3 rfl) ?_
  refine lv_iconst (v := (-1)) hx hb dX6_mostHeard_15 (by decide) ?_
  refine lv_ixor hx hb dX6_mostHeard_16 ?_
  refine tE (y := (-1)) (by decide) ?_
  refine lv_iand hx hb dX6_mostHeard_17 ?_
  refine tE (y := 56) (by decide) ?_
  refine bt_ne (tgt := 46) (X := 56) hx hb dX6_mostHeard_18 (by decide) rfl (by omega) ?_
  refine lv_iinc (v := 57) (lv' := [(4, .int 57), (3, .int 0), (0, .ref (a 34)), (1, .int 0), (2, .int x2)]) hx hb dX6_mostHeard_46 hl (k := 0) rfl rfl (by decide) rfl (fun ls hl => ?_)
  refine lv_goto (tgt := 5) hx hb dX6_mostHeard_49 (by decide) ?_
  refine lv_iload hx hb dX6_mostHeard_5 (lv_at hl 0 rfl) ?_
  refine lv_bipush (v := 64) hx hb dX6_mostHeard_7 (by decide) ?_
  refine cn_ge (X := 57) (Y := 64) hx hb dX6_mostHeard_9 rfl rfl (by omega) ?_ (tgt := 52) (by decide)
  refine lv_iload hx hb dX6_mostHeard_12 (lv_at hl 0 rfl) ?_
  refine lv_iload_n hx hb dX6_mostHeard_14 rfl (lv_at hl 3 rfl) ?_
  refine lv_iconst (v := (-1)) hx hb dX6_mostHeard_15 (by decide) ?_
  refine lv_ixor hx hb dX6_mostHeard_16 ?_
  refine tE (y := (-1)) (by decide) ?_
  refine lv_iand hx hb dX6_mostHeard_17 ?_
  refine tE (y := 57) (by decide) ?_
  refine bt_ne (tgt := 46) (X := 57) hx hb dX6_mostHeard_18 (by decide) rfl (by omega) ?_
  refine lv_iinc (v := 58) (lv' := [(4, .int 58), (3, .int 0), (0, .ref (a 34)), (1, .int 0), (2, .int x2)]) hx hb dX6_mostHeard_46 hl (k := 0) rfl rfl (by decide) rfl (fun ls hl => ?_)
  refine lv_goto (tgt := 5) hx hb dX6_mostHeard_49 (by decide) ?_
  refine lv_iload hx hb dX6_mostHeard_5 (lv_at hl 0 rfl) ?_
  refine lv_bipush (v := 64) hx hb dX6_mostHeard_7 (by decide) ?_
  refine cn_ge (X := 58) (Y := 64) hx hb dX6_mostHeard_9 rfl rfl (by omega) ?_ (tgt := 52) (by decide)
  refine lv_iload hx hb dX6_mostHeard_12 (lv_at hl 0 rfl) ?_
  refine lv_iload_n hx hb dX6_mostHeard_14 rfl (lv_at hl 3 rfl) ?_
  refine lv_iconst (v := (-1)) hx hb dX6_mostHeard_15 (by decide) ?_
  refine lv_ixor hx hb dX6_mostHeard_16 ?_
  refine tE (y := (-1)) (by decide) ?_
  refine lv_iand hx hb dX6_mostHeard_17 ?_
  refine tE (y := 58) (by decide) ?_
  refine bt_ne (tgt := 46) (X := 58) hx hb dX6_mostHeard_18 (by decide) rfl (by omega) ?_
  refine lv_iinc (v := 59) (lv' := [(4, .int 59), (3, .int 0), (0, .ref (a 34)), (1, .int 0), (2, .int x2)]) hx hb dX6_mostHeard_46 hl (k := 0) rfl rfl (by decide) rfl (fun ls hl => ?_)
  refine lv_goto (tgt := 5) hx hb dX6_mostHeard_49 (by decide) ?_
  refine lv_iload hx hb dX6_mostHeard_5 (lv_at hl 0 rfl) ?_
  refine lv_bipush (v := 64) hx hb dX6_mostHeard_7 (by decide) ?_
  refine cn_ge (X := 59) (Y := 64) hx hb dX6_mostHeard_9 rfl rfl (by omega) ?_ (tgt := 52) (by decide)
  refine lv_iload hx hb dX6_mostHeard_12 (lv_at hl 0 rfl) ?_
  refine lv_iload_n hx hb dX6_mostHeard_14 rfl (lv_at hl 3 rfl) ?_
  refine lv_iconst (v := (-1)) hx hb dX6_mostHeard_15 (by decide) ?_
  refine lv_ixor hx hb dX6_mostHeard_16 ?_
  refine tE (y := (-1)) (by decide) ?_
  refine lv_iand hx hb dX6_mostHeard_17 ?_
  refine tE (y := 59) (by decide) ?_
  refine bt_ne (tgt := 46) (X := 59) hx hb dX6_mostHeard_18 (by decide) rfl (by omega) ?_
  refine lv_iinc (v := 60) (lv' := [(4, .int 60), (3, .int 0), (0, .ref (a 34)), (1, .int 0), (2, .int x2)]) hx hb dX6_mostHeard_46 hl (k := 0) rfl rfl (by decide) rfl (fun ls hl => ?_)
  refine lv_goto (tgt := 5) hx hb dX6_mostHeard_49 (by decide) ?_
  refine lv_iload hx hb dX6_mostHeard_5 (lv_at hl 0 rfl) ?_
  refine lv_bipush (v := 64) hx hb dX6_mostHeard_7 (by decide) ?_
  refine cn_ge (X := 60) (Y := 64) hx hb dX6_mostHeard_9 rfl rfl (by omega) ?_ (tgt := 52) (by decide)
  refine lv_iload hx hb dX6_mostHeard_12 (lv_at hl 0 rfl) ?_
  refine lv_iload_n hx hb dX6_mostHeard_14 rfl (lv_at hl 3 rfl) ?_
  refine lv_iconst (v := (-1)) hx hb dX6_mostHeard_15 (by decide) ?_
  refine lv_ixor hx hb dX6_mostHeard_16 ?_
  refine tE (y := (-1)) (by decide) ?_
  refine lv_iand hx hb dX6_mostHeard_17 ?_
  refine tE (y := 60) (by decide) ?_
  refine bt_ne (tgt := 46) (X := 60) hx hb dX6_mostHeard_18 (by decide) rfl (by omega) ?_
  refine lv_iinc (v := 61) (lv' := [(4, .int 61), (3, .int 0), (0, .ref (a 34)), (1, .int 0), (2, .int x2)]) hx hb dX6_mostHeard_46 hl (k := 0) rfl rfl (by decide) rfl (fun ls hl => ?_)
  refine lv_goto (tgt := 5) hx hb dX6_mostHeard_49 (by decide) ?_
  refine lv_iload hx hb dX6_mostHeard_5 (lv_at hl 0 rfl) ?_
  refine lv_bipush (v := 64) hx hb dX6_mostHeard_7 (by decide) ?_
  refine cn_ge (X := 61) (Y := 64) hx hb dX6_mostHeard_9 rfl rfl (by omega) ?_ (tgt := 52) (by decide)
  refine lv_iload hx hb dX6_mostHeard_12 (lv_at hl 0 rfl) ?_
  refine lv_iload_n hx hb dX6_mostHeard_14 rfl (lv_at hl 3 rfl) ?_
  refine lv_iconst (v := (-1)) hx hb dX6_mostHeard_15 (by decide) ?_
  refine lv_ixor hx hb dX6_mostHeard_16 ?_
  refine tE (y := (-1)) (by decide) ?_
  refine lv_iand hx hb dX6_mostHeard_17 ?_
  refine tE (y := 61) (by decide) ?_
  refine bt_ne (tgt := 46) (X := 61) hx hb dX6_mostHeard_18 (by decide) rfl (by omega) ?_
  refine lv_iinc (v := 62) (lv' := [(4, .int 62), (3, .int 0), (0, .ref (a 34)), (1, .int 0), (2, .int x2)]) hx hb dX6_mostHeard_46 hl (k := 0) rfl rfl (by decide) rfl (fun ls hl => ?_)
  refine lv_goto (tgt := 5) hx hb dX6_mostHeard_49 (by decide) ?_
  refine lv_iload hx hb dX6_mostHeard_5 (lv_at hl 0 rfl) ?_
  refine lv_bipush (v := 64) hx hb dX6_mostHeard_7 (by decide) ?_
  refine cn_ge (X := 62) (Y := 64) hx hb dX6_mostHeard_9 rfl rfl (by omega) ?_ (tgt := 52) (by decide)
  refine lv_iload hx hb dX6_mostHeard_12 (lv_at hl 0 rfl) ?_
  refine lv_iload_n hx hb dX6_mostHeard_14 rfl (lv_at hl 3 rfl) ?_
  refine lv_iconst (v := (-1)) hx hb dX6_mostHeard_15 (by decide) ?_
  refine lv_ixor hx hb dX6_mostHeard_16 ?_
  refine tE (y := (-1)) (by decide) ?_
  refine lv_iand hx hb dX6_mostHeard_17 ?_
  refine tE (y := 62) (by decide) ?_
  refine bt_ne (tgt := 46) (X := 62) hx hb dX6_mostHeard_18 (by decide) rfl (by omega) ?_
  refine lv_iinc (v := 63) (lv' := [(4, .int 63), (3, .int 0), (0, .ref (a 34)), (1, .int 0), (2, .int x2)]) hx hb dX6_mostHeard_46 hl (k := 0) rfl rfl (by decide) rfl (fun ls hl => ?_)
  refine lv_goto (tgt := 5) hx hb dX6_mostHeard_49 (by decide) ?_
  refine lv_iload hx hb dX6_mostHeard_5 (lv_at hl 0 rfl) ?_
  refine lv_bipush (v := 64) hx hb dX6_mostHeard_7 (by decide) ?_
  refine cn_ge (X := 63) (Y := 64) hx hb dX6_mostHeard_9 rfl rfl (by omega) ?_ (tgt := 52) (by decide)
  refine lv_iload hx hb dX6_mostHeard_12 (lv_at hl 0 rfl) ?_
  refine lv_iload_n hx hb dX6_mostHeard_14 rfl (lv_at hl 3 rfl) ?_
  refine lv_iconst (v := (-1)) hx hb dX6_mostHeard_15 (by decide) ?_
  refine lv_ixor hx hb dX6_mostHeard_16 ?_
  refine tE (y := (-1)) (by decide) ?_
  refine lv_iand hx hb dX6_mostHeard_17 ?_
  refine tE (y := 63) (by decide) ?_
  refine bt_ne (tgt := 46) (X := 63) hx hb dX6_mostHeard_18 (by decide) rfl (by omega) ?_
  refine lv_iinc (v := 64) (lv' := [(4, .int 64), (3, .int 0), (0, .ref (a 34)), (1, .int 0), (2, .int x2)]) hx hb dX6_mostHeard_46 hl (k := 0) rfl rfl (by decide) rfl (fun ls hl => ?_)
  refine lv_goto (tgt := 5) hx hb dX6_mostHeard_49 (by decide) ?_
  refine lv_iload hx hb dX6_mostHeard_5 (lv_at hl 0 rfl) ?_
  refine lv_bipush (v := 64) hx hb dX6_mostHeard_7 (by decide) ?_
  refine ct_ge (tgt := 52) (X := 64) (Y := 64) hx hb dX6_mostHeard_9 (by decide) rfl rfl (by omega) ?_
  refine lv_iload_n hx hb dX6_mostHeard_52 rfl (lv_at hl 1 rfl) ?_
  refine hret _ _ _ _ _ _ dX6_mostHeard_53 rfl ?_ hO
  exact ⟨rfl, rfl⟩
theorem dX10_term_0 : decode cX10_term 0 = .ok (.iload_n 1, 1) := by decide +kernel
theorem dX10_term_1 : decode cX10_term 1 = .ok (.ifCond .lt 9, 3) := by decide +kernel
theorem dX10_term_4 : decode cX10_term 4 = .ok (.iload_n 1, 1) := by decide +kernel
theorem dX10_term_5 : decode cX10_term 5 = .ok (.bipush 30, 2) := by decide +kernel
theorem dX10_term_7 : decode cX10_term 7 = .ok (.if_icmp .le 5, 3) := by decide +kernel
theorem dX10_term_10 : decode cX10_term 10 = .ok (.iconst (-1), 1) := by decide +kernel
theorem dX10_term_11 : decode cX10_term 11 = .ok (.ireturn, 1) := by decide +kernel
theorem dX10_term_12 : decode cX10_term 12 = .ok (.aload_n 0, 1) := by decide +kernel
theorem dX10_term_13 : decode cX10_term 13 = .ok (.getfield 62, 3) := by decide +kernel
theorem dX10_term_16 : decode cX10_term 16 = .ok (.invokevirtual 226, 3) := by decide +kernel
theorem dX10_term_19 : decode cX10_term 19 = .ok (.aload_n 0, 1) := by decide +kernel
theorem dX10_term_20 : decode cX10_term 20 = .ok (.getfield 62, 3) := by decide +kernel
theorem dX10_term_23 : decode cX10_term 23 = .ok (.aload_n 0, 1) := by decide +kernel
theorem dX10_term_24 : decode cX10_term 24 = .ok (.getfield 37, 3) := by decide +kernel
theorem dX10_term_27 : decode cX10_term 27 = .ok (.invokevirtual 192, 3) := by decide +kernel
theorem dX10_term_30 : decode cX10_term 30 = .ok (.iload_n 1, 1) := by decide +kernel
theorem dX10_term_31 : decode cX10_term 31 = .ok (.invokevirtual 233, 3) := by decide +kernel
theorem dX10_term_34 : decode cX10_term 34 = .ok (.ireturn, 1) := by decide +kernel
theorem wd_1066 : (Cond.code ⟨"WebCourt", "term", "(I)I"⟩ prog_1_method_24_code (2 : Nat) (Option.some FieldType.int)) ∈ gtb := gtb_c4 237 (by decide +kernel) rfl
theorem wd_473 : (Cond.fieldLink "WebCourt" (62 : Nat) "WebCourt" "rounds" "LWebCourt$Rounds;") ∈ gtb := gtb_c2 124 (by decide +kernel) rfl
theorem gf_RX10_62 {p : Program} {l : Launch} {e : Env} {R : Room} {s : State} {m : MethodId} {args : Array Value} {below : List Frame} {meth : Method} {c : Code} {H : Heap} {locs : List Loc} {cells slots : Nat} {Q : State → Prop} {cc : ByteArray} {pc nL : Nat} {ls : Array Slot} {rest : List Value} {D : va_G} {cy : Nat → ClassId} {A : Nat → Prop} {ws : va_W} {b : Nat} {fs : List Value} {v : Value} (C : Cx p s m args c cc nL RX10 D cy A) (hO : Wo D A ws s.heap H locs) (q0 : Nat) (he : ws[q0]? = some (b, .inr (10, fs))) (hv : fs[5]? = some v) (hdg : decode cc pc = .ok (.getfield 62, 3)) (kk : W p l e R s m args below meth c H locs cells slots Q (F0 m (pc + 3) ls (v :: rest))) : W p l e R s m args below meth c H locs cells slots Q (F0 m pc ls (.ref b :: rest)) := gF (k := 5) C hO q0 he rfl inFX10 (by decide) wd_473 rfl hv hdg kk
theorem wd_1035 : (Cond.methodLink "WebCourt" (226 : Nat) ⟨"WebCourt$Rounds", "measure", "()V"⟩) ∈ gtb := gtb_c4 206 (by decide +kernel) rfl
theorem wd_1036 : (Cond.instanceMethod ⟨"WebCourt$Rounds", "measure", "()V"⟩) ∈ gtb := gtb_c4 207 (by decide +kernel) rfl
theorem wd_1037 : (Cond.selects "WebCourt$Rounds" ⟨"WebCourt$Rounds", "measure", "()V"⟩ ⟨"WebCourt$Rounds", "measure", "()V"⟩) ∈ gtb := gtb_c4 208 (by decide +kernel) rfl
theorem wd_118 : (Cond.initialized "WebCourt$Rounds") ∈ gtb := gtb_c1 9 (by decide +kernel) rfl
theorem hd_yX6_measure : yX6_measure.cls = RX6 ∧ yX6_measure.cls ≠ "java/lang/invoke/MethodHandle" ∧ yX6_measure.cls ≠ "java/lang/invoke/VarHandle" ∧ (parseMethodDescriptor yX6_measure.desc).map (fun d => d.parameters.length) = some 0 := by decide +kernel
theorem wd_1067 : (Cond.methodLink "WebCourt" (233 : Nat) ⟨"WebCourt$Rounds", "mostHeard", "(II)I"⟩) ∈ gtb := gtb_c4 238 (by decide +kernel) rfl
theorem wd_1068 : (Cond.instanceMethod ⟨"WebCourt$Rounds", "mostHeard", "(II)I"⟩) ∈ gtb := gtb_c4 239 (by decide +kernel) rfl
theorem wd_1069 : (Cond.selects "WebCourt$Rounds" ⟨"WebCourt$Rounds", "mostHeard", "(II)I"⟩ ⟨"WebCourt$Rounds", "mostHeard", "(II)I"⟩) ∈ gtb := gtb_c5 0 (by decide +kernel) rfl
theorem hd_yX6_mostHeard : yX6_mostHeard.cls = RX6 ∧ yX6_mostHeard.cls ≠ "java/lang/invoke/MethodHandle" ∧ yX6_mostHeard.cls ≠ "java/lang/invoke/VarHandle" ∧ (parseMethodDescriptor yX6_mostHeard.desc).map (fun d => d.parameters.length) = some 2 := by decide +kernel
set_option maxHeartbeats 4000000 in
set_option maxRecDepth 100000 in
theorem T_X10_term (l : Launch) (D : va_G) (cy : Nat → ClassId) (a : Nat → Nat) (u : St) (hI_3_10 : fI u 3 10 = 0) (hI_3_12 : fI u 3 12 = 0) (hR_0 : fR u 0 = a 3) (x1 : Int32)  : Mi l D cy (cW cy a) yX10_term (.code yX10_term cX10_term 2 (some .int)) (rmo 3 72) [.ref (a 0), .int x1] u (fun (r : Int32) (u' : St) => r = q_term x1) := by
  refine Mi.of (own := RX10) rfl (by decide) (Nat.le_of_ble_eq_true rfl) ?_
  intro p e s m below meth c A Q ls C hret hO hl
  obtain ⟨hx, hb, hml, hown, ht, hK, hA⟩ := id C
  have hl : lv_has ls 2 [(0, .ref (a 0)), (1, .int x1)] := hl
  refine lv_iload_n hx hb dX10_term_0 rfl (lv_at hl 1 rfl) ?_
  refine bs_lt (tgt := 10) (X := (x1).toInt) hx hb dX10_term_1 (by decide) rfl (fun c1 => ?_) (fun c1 => ?_)
  · refine lv_iconst (v := (-1)) hx hb dX10_term_10 (by decide) ?_
    refine hret _ _ _ _ _ _ dX10_term_11 rfl ?_ hO
    exact (by unfold q_term; have z0 : (0 : Int32).toInt = 0 := rfl; have z1 : (-1 : Int32).toInt = -1 := rfl; split <;> first | rfl | (exact i32_eq.mpr (by omega)) | (exfalso; omega))
  · refine lv_iload_n hx hb dX10_term_4 rfl (lv_at hl 1 rfl) ?_
    refine lv_bipush (v := 30) hx hb dX10_term_5 (by decide) ?_
    refine cs_le (tgt := 12) (X := (x1).toInt) (Y := 30) hx hb dX10_term_7 (by decide) rfl rfl (fun c2 => ?_) (fun c2 => ?_)
    · refine lv_aload_n hx hb dX10_term_12 rfl (lv_at hl 0 rfl) ?_
      refine gf_RX10_62 (v := .ref (a 34)) C hO 0 cW_0 rfl dX10_term_13 ?_
      refine cVv (w := cW cy a) (As := []) (rest := []) C hO (T_X6_measure l D cy a _ (by exact hI_3_10) (by exact hI_3_12) (by exact hR_0)) (cwV 0 ht (gV wd_1035 wd_1036 wd_1037 wd_118 wd_1038) rfl rfl rfl hd_yX6_measure ⟨Nat.le_of_ble_eq_true rfl, Nat.le_of_ble_eq_true rfl⟩) 34 rfl cW_34 rfl rfl hl.1 (Nat.le_of_ble_eq_true rfl) dX10_term_16 rfl ⟨Nat.zero_le _, Nat.zero_le _⟩ (fun u4 H locs hp5 hO => ?_)
      obtain ⟨hR_0_u4, hI_3_12_u4⟩ := hp5
      refine lv_aload_n hx hb dX10_term_19 rfl (lv_at hl 0 rfl) ?_
      refine gf_RX10_62 (v := .ref (a 34)) C hO 0 cW_0 rfl dX10_term_20 ?_
      refine lv_aload_n hx hb dX10_term_23 rfl (lv_at hl 0 rfl) ?_
      refine gf_RX10_37 (v := .ref (a 28)) C hO 0 cW_0 rfl dX10_term_24 ?_
      refine cVi (w := cW cy a) (As := []) (rest := [.ref (a 34)]) C hO (T_X2_held l D cy a _ (by exact hI_3_12_u4) (by exact hR_0_u4)) (cwV 0 ht (gV wd_962 wd_858 wd_859 wd_115 wd_860) rfl rfl rfl hd_yX2_held ⟨Nat.le_of_ble_eq_true rfl, Nat.le_of_ble_eq_true rfl⟩) 28 rfl cW_28 rfl rfl hl.1 (Nat.le_of_ble_eq_true rfl) dX10_term_27 rfl ⟨Nat.zero_le _, Nat.zero_le _⟩ (fun r6 u7 H locs hp8 hO => ?_)
      obtain ⟨hr6, hu7⟩ := hp8
      subst hr6
      rw [hu7] at hO
      refine lv_iload_n hx hb dX10_term_30 rfl (lv_at hl 1 rfl) ?_
      refine cVi (w := cW cy a) (As := [.int 0, .int x1]) (rest := []) C hO (T_X6_mostHeard_0 l D cy a _ (x1)) (cwV 2 ht (gV wd_1067 wd_1068 wd_1069 wd_118 wd_1070) rfl rfl rfl hd_yX6_mostHeard ⟨Nat.le_of_ble_eq_true rfl, Nat.le_of_ble_eq_true rfl⟩) 34 rfl cW_34 rfl rfl hl.1 (Nat.le_of_ble_eq_true rfl) dX10_term_31 rfl ⟨Nat.zero_le _, Nat.zero_le _⟩ (fun r9 u10 H locs hp11 hO => ?_)
      obtain ⟨hr9, hu10⟩ := hp11
      subst hr9
      rw [hu10] at hO
      refine hret _ _ _ _ _ _ dX10_term_34 rfl ?_ hO
      exact (by unfold q_term; have z0 : (0 : Int32).toInt = 0 := rfl; have z1 : (-1 : Int32).toInt = -1 := rfl; split <;> first | rfl | (exact i32_eq.mpr (by omega)) | (exfalso; omega))
    · refine lv_iconst (v := (-1)) hx hb dX10_term_10 (by decide) ?_
      refine hret _ _ _ _ _ _ dX10_term_11 rfl ?_ hO
      exact (by unfold q_term; have z0 : (0 : Int32).toInt = 0 := rfl; have z1 : (-1 : Int32).toInt = -1 := rfl; split <;> first | rfl | (exact i32_eq.mpr (by omega)) | (exfalso; omega))
