theorem dX8_hours_0 : decode cX8_hours 0 = .ok (.aload_n 0, 1) := by decide +kernel
theorem dX8_hours_1 : decode cX8_hours 1 = .ok (.getfield 15, 3) := by decide +kernel
theorem dX8_hours_4 : decode cX8_hours 4 = .ok (.iload_n 1, 1) := by decide +kernel
theorem dX8_hours_5 : decode cX8_hours 5 = .ok (.invokevirtual 19, 3) := by decide +kernel
theorem dX8_hours_8 : decode cX8_hours 8 = .ok (.ifCond .eq 14, 3) := by decide +kernel
theorem dX8_hours_11 : decode cX8_hours 11 = .ok (.aload_n 0, 1) := by decide +kernel
theorem dX8_hours_12 : decode cX8_hours 12 = .ok (.getfield 15, 3) := by decide +kernel
theorem dX8_hours_15 : decode cX8_hours 15 = .ok (.iload_n 2, 1) := by decide +kernel
theorem dX8_hours_16 : decode cX8_hours 16 = .ok (.invokevirtual 19, 3) := by decide +kernel
theorem dX8_hours_19 : decode cX8_hours 19 = .ok (.ifCond .ne 7, 3) := by decide +kernel
theorem dX8_hours_22 : decode cX8_hours 22 = .ok (.sipush 1000, 3) := by decide +kernel
theorem dX8_hours_25 : decode cX8_hours 25 = .ok (.ireturn, 1) := by decide +kernel
theorem dX8_hours_26 : decode cX8_hours 26 = .ok (.aload_n 0, 1) := by decide +kernel
theorem dX8_hours_27 : decode cX8_hours 27 = .ok (.getfield 9, 3) := by decide +kernel
theorem dX8_hours_30 : decode cX8_hours 30 = .ok (.iload_n 1, 1) := by decide +kernel
theorem dX8_hours_31 : decode cX8_hours 31 = .ok (.bipush 8, 2) := by decide +kernel
theorem dX8_hours_33 : decode cX8_hours 33 = .ok (.imul, 1) := by decide +kernel
theorem dX8_hours_34 : decode cX8_hours 34 = .ok (.iload_n 2, 1) := by decide +kernel
theorem dX8_hours_35 : decode cX8_hours 35 = .ok (.iadd, 1) := by decide +kernel
theorem dX8_hours_36 : decode cX8_hours 36 = .ok (.iaload, 1) := by decide +kernel
theorem dX8_hours_37 : decode cX8_hours 37 = .ok (.ireturn, 1) := by decide +kernel
theorem wd_1020 : (Cond.code ⟨"WebCourt$Ways", "hours", "(II)I"⟩ prog_10_method_2_code (3 : Nat) (Option.some FieldType.int)) ∈ gtb := gtb_c4 191 (by decide +kernel) rfl
theorem wd_397 : (Cond.fieldLink "WebCourt$Ways" (15 : Nat) "WebCourt$Ways" "court" "LWebCourt$Court;") ∈ gtb := gtb_c2 48 (by decide +kernel) rfl
theorem wd_399 : (Cond.laysFinal "WebCourt$Ways" "WebCourt$Ways" "court" "LWebCourt$Court;") ∈ gtb := gtb_c2 50 (by decide +kernel) rfl
theorem wd_401 : (Cond.laysFinal "WebCourt$Ways" "WebCourt$Ways" "between" "[I") ∈ gtb := gtb_c2 52 (by decide +kernel) rfl
theorem inFX8 : ∀ w ∈ u_ws RX8 TX8 2, w ∈ gtb := by
  show ∀ w ∈ [u_lay RX8 TX8 0, u_lay RX8 TX8 1], w ∈ gtb
  exact List.forall_mem_cons.mpr ⟨wd_399, List.forall_mem_cons.mpr ⟨wd_401, fun _ h => absurd h List.not_mem_nil⟩⟩
theorem gf_RX8_15 {p : Program} {l : Launch} {e : Env} {R : Room} {s : State} {m : MethodId} {args : Array Value} {below : List Frame} {meth : Method} {c : Code} {H : Heap} {locs : List Loc} {cells slots : Nat} {Q : State → Prop} {cc : ByteArray} {pc nL : Nat} {ls : Array Slot} {rest : List Value} {D : va_G} {cy : Nat → ClassId} {A : Nat → Prop} {ws : va_W} {b : Nat} {fs : List Value} {v : Value} (C : Cx p s m args c cc nL RX8 D cy A) (hO : Wo D A ws s.heap H locs) (q0 : Nat) (he : ws[q0]? = some (b, .inr (8, fs))) (hv : fs[0]? = some v) (hdg : decode cc pc = .ok (.getfield 15, 3)) (kk : W p l e R s m args below meth c H locs cells slots Q (F0 m (pc + 3) ls (v :: rest))) : W p l e R s m args below meth c H locs cells slots Q (F0 m pc ls (.ref b :: rest)) := gF (k := 0) C hO q0 he rfl inFX8 (by decide) wd_397 rfl hv hdg kk
theorem wd_1021 : (Cond.methodLink "WebCourt$Ways" (19 : Nat) ⟨"WebCourt$Court", "hasKnot", "(I)Z"⟩) ∈ gtb := gtb_c4 192 (by decide +kernel) rfl
theorem wd_398 : (Cond.fieldLink "WebCourt$Ways" (9 : Nat) "WebCourt$Ways" "between" "[I") ∈ gtb := gtb_c2 49 (by decide +kernel) rfl
theorem gf_RX8_9 {p : Program} {l : Launch} {e : Env} {R : Room} {s : State} {m : MethodId} {args : Array Value} {below : List Frame} {meth : Method} {c : Code} {H : Heap} {locs : List Loc} {cells slots : Nat} {Q : State → Prop} {cc : ByteArray} {pc nL : Nat} {ls : Array Slot} {rest : List Value} {D : va_G} {cy : Nat → ClassId} {A : Nat → Prop} {ws : va_W} {b : Nat} {fs : List Value} {v : Value} (C : Cx p s m args c cc nL RX8 D cy A) (hO : Wo D A ws s.heap H locs) (q0 : Nat) (he : ws[q0]? = some (b, .inr (8, fs))) (hv : fs[1]? = some v) (hdg : decode cc pc = .ok (.getfield 9, 3)) (kk : W p l e R s m args below meth c H locs cells slots Q (F0 m (pc + 3) ls (v :: rest))) : W p l e R s m args below meth c H locs cells slots Q (F0 m pc ls (.ref b :: rest)) := gF (k := 1) C hO q0 he rfl inFX8 (by decide) wd_398 rfl hv hdg kk
set_option maxHeartbeats 4000000 in
set_option maxRecDepth 100000 in
theorem T_X8_hours (l : Launch) (D : va_G) (cy : Nat → ClassId) (a : Nat → Nat) (u : St) (hJ : CI a u) (x1 : Int32) (x2 : Int32)  : Mi l D cy (cW cy a) yX8_hours (.code yX8_hours cX8_hours 3 (some .int)) (rmo 1 21) [.ref (a 32), .int x1, .int x2] u (fun (r : Int32) (u' : St) => u' = u) := by
  refine Mi.of (own := RX8) rfl (by decide) (Nat.le_of_ble_eq_true rfl) ?_
  have hT : KT u u := KT.rf
  intro p e s m below meth c A Q ls C hret hO hl
  obtain ⟨hx, hb, hml, hown, ht, hK, hA⟩ := id C
  have hl : lv_has ls 3 [(0, .ref (a 32)), (1, .int x1), (2, .int x2)] := hl
  refine lv_aload_n hx hb dX8_hours_0 rfl (lv_at hl 0 rfl) ?_
  refine gf_RX8_15 (v := .ref (a 28)) C hO 32 cW_32 rfl dX8_hours_1 ?_
  refine lv_iload_n hx hb dX8_hours_4 rfl (lv_at hl 1 rfl) ?_
  refine cVi (w := cW cy a) (As := [.int x1]) (rest := []) C hO (T_X2_hasKnot l D cy a _ (by exact hJ) (x1)) (cwV 1 ht (gV wd_1021 wd_818 wd_819 wd_115 wd_820) rfl rfl rfl hd_yX2_hasKnot ⟨Nat.le_of_ble_eq_true rfl, Nat.le_of_ble_eq_true rfl⟩) 28 rfl cW_28 rfl rfl hl.1 (Nat.le_of_ble_eq_true rfl) dX8_hours_5 rfl ⟨Nat.zero_le _, Nat.zero_le _⟩ (fun r1 u2 H locs hp3 hO => ?_)
  obtain ⟨hr1, hu2⟩ := hp3
  rw [hu2] at hO
  rcases hr1 with ⟨hcr1, hvr1⟩ | ⟨hcr1, hvr1⟩
  · subst hvr1
    refine bn_eq (X := 1) hx hb dX8_hours_8 rfl (by omega) ?_ (tgt := 22) (by decide)
    refine lv_aload_n hx hb dX8_hours_11 rfl (lv_at hl 0 rfl) ?_
    refine gf_RX8_15 (v := .ref (a 28)) C hO 32 cW_32 rfl dX8_hours_12 ?_
    refine lv_iload_n hx hb dX8_hours_15 rfl (lv_at hl 2 rfl) ?_
    refine cVi (w := cW cy a) (As := [.int x2]) (rest := []) C hO (T_X2_hasKnot l D cy a _ (by exact hJ) (x2)) (cwV 1 ht (gV wd_1021 wd_818 wd_819 wd_115 wd_820) rfl rfl rfl hd_yX2_hasKnot ⟨Nat.le_of_ble_eq_true rfl, Nat.le_of_ble_eq_true rfl⟩) 28 rfl cW_28 rfl rfl hl.1 (Nat.le_of_ble_eq_true rfl) dX8_hours_16 rfl ⟨Nat.zero_le _, Nat.zero_le _⟩ (fun r4 u5 H locs hp6 hO => ?_)
    obtain ⟨hr4, hu5⟩ := hp6
    rw [hu5] at hO
    rcases hr4 with ⟨hcr4, hvr4⟩ | ⟨hcr4, hvr4⟩
    · subst hvr4
      refine bt_ne (tgt := 26) (X := 1) hx hb dX8_hours_19 (by decide) rfl (by omega) ?_
      refine lv_aload_n hx hb dX8_hours_26 rfl (lv_at hl 0 rfl) ?_
      refine gf_RX8_9 (v := .ref (a 33)) C hO 32 cW_32 rfl dX8_hours_27 ?_
      refine lv_iload_n hx hb dX8_hours_30 rfl (lv_at hl 1 rfl) ?_
      refine lv_bipush (v := 8) hx hb dX8_hours_31 (by decide) ?_
      have e7 : ((x1 * 8)).toInt = (x1).toInt * 8 := i_mul rfl rfl (by omega)
      refine lv_imul hx hb dX8_hours_33 ?_
      refine lv_iload_n hx hb dX8_hours_34 rfl (lv_at hl 2 rfl) ?_
      have e8 : (((x1 * 8) + x2)).toInt = ((x1).toInt * 8) + (x2).toInt := i_add e7 rfl (by omega)
      refine lv_iadd hx hb dX8_hours_35 ?_
      refine aI C hO 33 cW_33 (i_in (X := (((x1).toInt * 8) + (x2).toInt)) e8 (by omega) (by omega)) dX8_hours_36 ?_
      refine lv_topi (fun w9 ew9 => ?_)
      refine hret _ _ _ _ _ _ dX8_hours_37 rfl ?_ hO
      exact rfl
    · subst hvr4
      refine bn_ne (X := 0) hx hb dX8_hours_19 rfl (by omega) ?_ (tgt := 26) (by decide)
      refine lv_sipush (v := 1000) hx hb dX8_hours_22 (by decide) ?_
      refine hret _ _ _ _ _ _ dX8_hours_25 rfl ?_ hO
      exact rfl
  · subst hvr1
    refine bt_eq (tgt := 22) (X := 0) hx hb dX8_hours_8 (by decide) rfl (by omega) ?_
    refine lv_sipush (v := 1000) hx hb dX8_hours_22 (by decide) ?_
    refine hret _ _ _ _ _ _ dX8_hours_25 rfl ?_ hO
    exact rfl
theorem dX8_shortenOver_0 : decode cX8_shortenOver 0 = .ok (.iconst 0, 1) := by decide +kernel
theorem dX8_shortenOver_1 : decode cX8_shortenOver 1 = .ok (.istore_n 2, 1) := by decide +kernel
theorem dX8_shortenOver_2 : decode cX8_shortenOver 2 = .ok (.iload_n 2, 1) := by decide +kernel
theorem dX8_shortenOver_3 : decode cX8_shortenOver 3 = .ok (.bipush 8, 2) := by decide +kernel
theorem dX8_shortenOver_5 : decode cX8_shortenOver 5 = .ok (.if_icmp .ge 77, 3) := by decide +kernel
theorem dX8_shortenOver_8 : decode cX8_shortenOver 8 = .ok (.iconst 0, 1) := by decide +kernel
theorem dX8_shortenOver_9 : decode cX8_shortenOver 9 = .ok (.istore_n 3, 1) := by decide +kernel
theorem dX8_shortenOver_10 : decode cX8_shortenOver 10 = .ok (.iload_n 3, 1) := by decide +kernel
theorem dX8_shortenOver_11 : decode cX8_shortenOver 11 = .ok (.bipush 8, 2) := by decide +kernel
theorem dX8_shortenOver_13 : decode cX8_shortenOver 13 = .ok (.if_icmp .ge 63, 3) := by decide +kernel
theorem dX8_shortenOver_16 : decode cX8_shortenOver 16 = .ok (.aload_n 0, 1) := by decide +kernel
theorem dX8_shortenOver_17 : decode cX8_shortenOver 17 = .ok (.getfield 9, 3) := by decide +kernel
theorem dX8_shortenOver_20 : decode cX8_shortenOver 20 = .ok (.iload_n 2, 1) := by decide +kernel
theorem dX8_shortenOver_21 : decode cX8_shortenOver 21 = .ok (.bipush 8, 2) := by decide +kernel
theorem dX8_shortenOver_23 : decode cX8_shortenOver 23 = .ok (.imul, 1) := by decide +kernel
theorem dX8_shortenOver_24 : decode cX8_shortenOver 24 = .ok (.iload_n 1, 1) := by decide +kernel
theorem dX8_shortenOver_25 : decode cX8_shortenOver 25 = .ok (.iadd, 1) := by decide +kernel
theorem dX8_shortenOver_26 : decode cX8_shortenOver 26 = .ok (.iaload, 1) := by decide +kernel
theorem dX8_shortenOver_27 : decode cX8_shortenOver 27 = .ok (.aload_n 0, 1) := by decide +kernel
theorem dX8_shortenOver_28 : decode cX8_shortenOver 28 = .ok (.getfield 9, 3) := by decide +kernel
theorem dX8_shortenOver_31 : decode cX8_shortenOver 31 = .ok (.iload_n 1, 1) := by decide +kernel
theorem dX8_shortenOver_32 : decode cX8_shortenOver 32 = .ok (.bipush 8, 2) := by decide +kernel
theorem dX8_shortenOver_34 : decode cX8_shortenOver 34 = .ok (.imul, 1) := by decide +kernel
theorem dX8_shortenOver_35 : decode cX8_shortenOver 35 = .ok (.iload_n 3, 1) := by decide +kernel
theorem dX8_shortenOver_36 : decode cX8_shortenOver 36 = .ok (.iadd, 1) := by decide +kernel
theorem dX8_shortenOver_37 : decode cX8_shortenOver 37 = .ok (.iaload, 1) := by decide +kernel
theorem dX8_shortenOver_38 : decode cX8_shortenOver 38 = .ok (.iadd, 1) := by decide +kernel
theorem dX8_shortenOver_39 : decode cX8_shortenOver 39 = .ok (.istore 4, 2) := by decide +kernel
theorem dX8_shortenOver_41 : decode cX8_shortenOver 41 = .ok (.iload 4, 2) := by decide +kernel
theorem dX8_shortenOver_43 : decode cX8_shortenOver 43 = .ok (.aload_n 0, 1) := by decide +kernel
theorem dX8_shortenOver_44 : decode cX8_shortenOver 44 = .ok (.getfield 9, 3) := by decide +kernel
theorem dX8_shortenOver_47 : decode cX8_shortenOver 47 = .ok (.iload_n 2, 1) := by decide +kernel
theorem dX8_shortenOver_48 : decode cX8_shortenOver 48 = .ok (.bipush 8, 2) := by decide +kernel
theorem dX8_shortenOver_50 : decode cX8_shortenOver 50 = .ok (.imul, 1) := by decide +kernel
theorem dX8_shortenOver_51 : decode cX8_shortenOver 51 = .ok (.iload_n 3, 1) := by decide +kernel
theorem dX8_shortenOver_52 : decode cX8_shortenOver 52 = .ok (.iadd, 1) := by decide +kernel
theorem dX8_shortenOver_53 : decode cX8_shortenOver 53 = .ok (.iaload, 1) := by decide +kernel
theorem dX8_shortenOver_54 : decode cX8_shortenOver 54 = .ok (.if_icmp .ge 16, 3) := by decide +kernel
theorem dX8_shortenOver_57 : decode cX8_shortenOver 57 = .ok (.aload_n 0, 1) := by decide +kernel
theorem dX8_shortenOver_58 : decode cX8_shortenOver 58 = .ok (.getfield 9, 3) := by decide +kernel
theorem dX8_shortenOver_61 : decode cX8_shortenOver 61 = .ok (.iload_n 2, 1) := by decide +kernel
theorem dX8_shortenOver_62 : decode cX8_shortenOver 62 = .ok (.bipush 8, 2) := by decide +kernel
theorem dX8_shortenOver_64 : decode cX8_shortenOver 64 = .ok (.imul, 1) := by decide +kernel
theorem dX8_shortenOver_65 : decode cX8_shortenOver 65 = .ok (.iload_n 3, 1) := by decide +kernel
theorem dX8_shortenOver_66 : decode cX8_shortenOver 66 = .ok (.iadd, 1) := by decide +kernel
theorem dX8_shortenOver_67 : decode cX8_shortenOver 67 = .ok (.iload 4, 2) := by decide +kernel
theorem dX8_shortenOver_69 : decode cX8_shortenOver 69 = .ok (.iastore, 1) := by decide +kernel
theorem dX8_shortenOver_70 : decode cX8_shortenOver 70 = .ok (.iinc 3 1, 3) := by decide +kernel
theorem dX8_shortenOver_73 : decode cX8_shortenOver 73 = .ok (.goto (-63), 3) := by decide +kernel
theorem dX8_shortenOver_76 : decode cX8_shortenOver 76 = .ok (.iinc 2 1, 3) := by decide +kernel
theorem dX8_shortenOver_79 : decode cX8_shortenOver 79 = .ok (.goto (-77), 3) := by decide +kernel
theorem dX8_shortenOver_82 : decode cX8_shortenOver 82 = .ok (.return_, 1) := by decide +kernel
theorem wd_1016 : (Cond.code ⟨"WebCourt$Ways", "shortenOver", "(I)V"⟩ prog_10_method_4_code (5 : Nat) (Option.none : Option FieldType)) ∈ gtb := gtb_c4 187 (by decide +kernel) rfl
set_option maxHeartbeats 4000000 in
set_option maxRecDepth 100000 in
theorem T_X8_shortenOver (l : Launch) (D : va_G) (cy : Nat → ClassId) (a : Nat → Nat) (u : St) (hJ : CI a u) (x1 : Int32) (hx_x1 : 0 ≤ x1.toInt ∧ x1.toInt ≤ 7) : Mv l D cy (cW cy a) yX8_shortenOver (.code yX8_shortenOver cX8_shortenOver 5 none) (rmo 0 0) [.ref (a 32), .int x1] u (fun (u' : St) => (CI a u') ∧ (KT u u')) := by
  refine Mv.of (own := RX8) rfl (by decide) (Nat.le_of_ble_eq_true rfl) ?_
  have hT : KT u u := KT.rf
  intro p e s m below meth c A Q ls C hret hO hl
  obtain ⟨hx, hb, hml, hown, ht, hK, hA⟩ := id C
  have hl : lv_has ls 5 [(0, .ref (a 32)), (1, .int x1)] := hl
  refine lv_iconst (v := 0) hx hb dX8_shortenOver_0 (by decide) ?_
  refine lv_istore_n (lv' := [(2, .int 0), (0, .ref (a 32)), (1, .int x1)]) hx hb dX8_shortenOver_1 rfl hl (by decide) rfl (fun ls hl => ?_)
  have LP_2_k2 : ∀ (n : Nat) (u1 : St) (H : Heap) (locs : List Loc) (ls : Array Slot) (i_k2 : Int32), Wo D A (cW cy a u1) s.heap H locs → lv_has ls 5 [(2, .int i_k2), (0, .ref (a 32)), (1, .int x1)] → CI a u1 → KT u u1 → 0 ≤ i_k2.toInt ∧ i_k2.toInt ≤ 8 → 8 - i_k2.toInt < (n : Int) → W p l e (rmo 0 0) s m [.ref (a 32), .int x1].toArray below meth c H locs 0 0 Q (F0 m 2 ls []) := by
    intro n
    induction n with
    | zero =>
      intro u1 H locs ls i_k2 hO hl hJ hT iv0_k2 hm_k2
      exact absurd hm_k2 (by omega)
    | succ n ih_k2 =>
      intro u1 H locs ls i_k2 hO hl hJ hT iv0_k2 hm_k2
      refine lv_iload_n hx hb dX8_shortenOver_2 rfl (lv_at hl 0 rfl) ?_
      refine lv_bipush (v := 8) hx hb dX8_shortenOver_3 (by decide) ?_
      refine cs_ge (tgt := 82) (X := (i_k2).toInt) (Y := 8) hx hb dX8_shortenOver_5 (by decide) rfl rfl (fun c3 => ?_) (fun c3 => ?_)
      · refine hret _ _ _ _ _ dX8_shortenOver_82 ?_ hO
        exact ⟨hJ, hT⟩
      · refine lv_iconst (v := 0) hx hb dX8_shortenOver_8 (by decide) ?_
        refine lv_istore_n (lv' := [(3, .int 0), (2, .int i_k2), (0, .ref (a 32)), (1, .int x1)]) hx hb dX8_shortenOver_9 rfl hl (by decide) rfl (fun ls hl => ?_)
        have LP_10_k5 : ∀ (n : Nat) (u4 : St) (H : Heap) (locs : List Loc) (ls : Array Slot) (i_k5 : Int32), Wo D A (cW cy a u4) s.heap H locs → lv_has ls 5 [(3, .int i_k5), (2, .int i_k2), (0, .ref (a 32)), (1, .int x1)] → CI a u4 → KT u u4 → 0 ≤ i_k5.toInt ∧ i_k5.toInt ≤ 8 → 8 - i_k5.toInt < (n : Int) → W p l e (rmo 0 0) s m [.ref (a 32), .int x1].toArray below meth c H locs 0 0 Q (F0 m 10 ls []) := by
          intro n
          induction n with
          | zero =>
            intro u4 H locs ls i_k5 hO hl hJ hT iv0_k5 hm_k5
            exact absurd hm_k5 (by omega)
          | succ n ih_k5 =>
            intro u4 H locs ls i_k5 hO hl hJ hT iv0_k5 hm_k5
            refine lv_iload_n hx hb dX8_shortenOver_10 rfl (lv_at hl 0 rfl) ?_
            refine lv_bipush (v := 8) hx hb dX8_shortenOver_11 (by decide) ?_
            refine cs_ge (tgt := 76) (X := (i_k5).toInt) (Y := 8) hx hb dX8_shortenOver_13 (by decide) rfl rfl (fun c6 => ?_) (fun c6 => ?_)
            · have e7 : ((i_k2 + 1)).toInt = (i_k2).toInt + 1 := i_add rfl rfl (by omega)
              refine lv_iinc (v := (i_k2 + 1)) (lv' := [(2, .int (i_k2 + 1)), (3, .int i_k5), (0, .ref (a 32)), (1, .int x1)]) hx hb dX8_shortenOver_76 hl (k := 1) rfl rfl (by decide) rfl (fun ls hl => ?_)
              refine lv_goto (tgt := 2) hx hb dX8_shortenOver_79 (by decide) ?_
              exact ih_k2 _ _ _ _ ((i_k2 + 1)) hO (lv_sub hl [0, 2, 3] rfl) (by exact hJ) (by exact hT) (by first | decide | omega) (by first | decide | omega)
            · refine lv_aload_n hx hb dX8_shortenOver_16 rfl (lv_at hl 2 rfl) ?_
              refine gf_RX8_9 (v := .ref (a 33)) C hO 32 cW_32 rfl dX8_shortenOver_17 ?_
              refine lv_iload_n hx hb dX8_shortenOver_20 rfl (lv_at hl 1 rfl) ?_
              refine lv_bipush (v := 8) hx hb dX8_shortenOver_21 (by decide) ?_
              have e8 : ((i_k2 * 8)).toInt = (i_k2).toInt * 8 := i_mul rfl rfl (by omega)
              refine lv_imul hx hb dX8_shortenOver_23 ?_
              refine lv_iload_n hx hb dX8_shortenOver_24 rfl (lv_at hl 3 rfl) ?_
              have e9 : (((i_k2 * 8) + x1)).toInt = ((i_k2).toInt * 8) + (x1).toInt := i_add e8 rfl (by omega)
              refine lv_iadd hx hb dX8_shortenOver_25 ?_
              refine aI C hO 33 cW_33 (i_in (X := (((i_k2).toInt * 8) + (x1).toInt)) e9 (by omega) (by omega)) dX8_shortenOver_26 ?_
              refine lv_topi (fun w10 ew10 => ?_)
              refine lv_aload_n hx hb dX8_shortenOver_27 rfl (lv_at hl 2 rfl) ?_
              refine gf_RX8_9 (v := .ref (a 33)) C hO 32 cW_32 rfl dX8_shortenOver_28 ?_
              refine lv_iload_n hx hb dX8_shortenOver_31 rfl (lv_at hl 3 rfl) ?_
              refine lv_bipush (v := 8) hx hb dX8_shortenOver_32 (by decide) ?_
              have e11 : ((x1 * 8)).toInt = (x1).toInt * 8 := i_mul rfl rfl (by omega)
              refine lv_imul hx hb dX8_shortenOver_34 ?_
              refine lv_iload_n hx hb dX8_shortenOver_35 rfl (lv_at hl 0 rfl) ?_
              have e12 : (((x1 * 8) + i_k5)).toInt = ((x1).toInt * 8) + (i_k5).toInt := i_add e11 rfl (by omega)
              refine lv_iadd hx hb dX8_shortenOver_36 ?_
              refine aI C hO 33 cW_33 (i_in (X := (((x1).toInt * 8) + (i_k5).toInt)) e12 (by omega) (by omega)) dX8_shortenOver_37 ?_
              refine lv_topi (fun w13 ew13 => ?_)
              refine lv_iadd hx hb dX8_shortenOver_38 ?_
              refine lv_istore (lv' := [(4, .int (w10 + w13)), (3, .int i_k5), (2, .int i_k2), (0, .ref (a 32)), (1, .int x1)]) hx hb dX8_shortenOver_39 hl (by decide) rfl (fun ls hl => ?_)
              refine lv_iload hx hb dX8_shortenOver_41 (lv_at hl 0 rfl) ?_
              refine lv_aload_n hx hb dX8_shortenOver_43 rfl (lv_at hl 3 rfl) ?_
              refine gf_RX8_9 (v := .ref (a 33)) C hO 32 cW_32 rfl dX8_shortenOver_44 ?_
              refine lv_iload_n hx hb dX8_shortenOver_47 rfl (lv_at hl 2 rfl) ?_
              refine lv_bipush (v := 8) hx hb dX8_shortenOver_48 (by decide) ?_
              have e14 : ((i_k2 * 8)).toInt = (i_k2).toInt * 8 := i_mul rfl rfl (by omega)
              refine lv_imul hx hb dX8_shortenOver_50 ?_
              refine lv_iload_n hx hb dX8_shortenOver_51 rfl (lv_at hl 1 rfl) ?_
              have e15 : (((i_k2 * 8) + i_k5)).toInt = ((i_k2).toInt * 8) + (i_k5).toInt := i_add e14 rfl (by omega)
              refine lv_iadd hx hb dX8_shortenOver_52 ?_
              refine aI C hO 33 cW_33 (i_in (X := (((i_k2).toInt * 8) + (i_k5).toInt)) e15 (by omega) (by omega)) dX8_shortenOver_53 ?_
              refine lv_topi (fun w16 ew16 => ?_)
              refine cs_ge (tgt := 70) (X := ((w10 + w13)).toInt) (Y := (w16).toInt) hx hb dX8_shortenOver_54 (by decide) rfl rfl (fun c17 => ?_) (fun c17 => ?_)
              · have e18 : ((i_k5 + 1)).toInt = (i_k5).toInt + 1 := i_add rfl rfl (by omega)
                refine lv_iinc (v := (i_k5 + 1)) (lv' := [(3, .int (i_k5 + 1)), (4, .int (w10 + w13)), (2, .int i_k2), (0, .ref (a 32)), (1, .int x1)]) hx hb dX8_shortenOver_70 hl (k := 1) rfl rfl (by decide) rfl (fun ls hl => ?_)
                refine lv_goto (tgt := 10) hx hb dX8_shortenOver_73 (by decide) ?_
                exact ih_k5 _ _ _ _ ((i_k5 + 1)) hO (lv_sub hl [0, 2, 3, 4] rfl) (by exact hJ) (by exact hT) (by first | decide | omega) (by first | decide | omega)
              · refine lv_aload_n hx hb dX8_shortenOver_57 rfl (lv_at hl 3 rfl) ?_
                refine gf_RX8_9 (v := .ref (a 33)) C hO 32 cW_32 rfl dX8_shortenOver_58 ?_
                refine lv_iload_n hx hb dX8_shortenOver_61 rfl (lv_at hl 2 rfl) ?_
                refine lv_bipush (v := 8) hx hb dX8_shortenOver_62 (by decide) ?_
                have e19 : ((i_k2 * 8)).toInt = (i_k2).toInt * 8 := i_mul rfl rfl (by omega)
                refine lv_imul hx hb dX8_shortenOver_64 ?_
                refine lv_iload_n hx hb dX8_shortenOver_65 rfl (lv_at hl 1 rfl) ?_
                have e20 : (((i_k2 * 8) + i_k5)).toInt = ((i_k2).toInt * 8) + (i_k5).toInt := i_add e19 rfl (by omega)
                refine lv_iadd hx hb dX8_shortenOver_66 ?_
                refine lv_iload hx hb dX8_shortenOver_67 (lv_at hl 0 rfl) ?_
                refine aIs C hO 33 cW_33 (i_in (X := (((i_k2).toInt * 8) + (i_k5).toInt)) e20 (by omega) (by omega)) cW_s33 dX8_shortenOver_69 (fun H locs hO => ?_)
                have hJ := CIsA hO hJ
                have e21 : ((i_k5 + 1)).toInt = (i_k5).toInt + 1 := i_add rfl rfl (by omega)
                refine lv_iinc (v := (i_k5 + 1)) (lv' := [(3, .int (i_k5 + 1)), (4, .int (w10 + w13)), (2, .int i_k2), (0, .ref (a 32)), (1, .int x1)]) hx hb dX8_shortenOver_70 hl (k := 1) rfl rfl (by decide) rfl (fun ls hl => ?_)
                refine lv_goto (tgt := 10) hx hb dX8_shortenOver_73 (by decide) ?_
                exact ih_k5 _ _ _ _ ((i_k5 + 1)) hO (lv_sub hl [0, 2, 3, 4] rfl) (by exact hJ) (by exact hT) (by first | decide | omega) (by first | decide | omega)
        exact LP_10_k5 4000 _ _ _ _ (0) hO (lv_sub hl [0, 1, 2, 3] rfl) (by exact hJ) (by exact hT) (by first | decide | omega) (by first | decide | omega)
  exact LP_2_k2 4000 _ _ _ _ (0) hO (lv_sub hl [0, 1, 2] rfl) (by exact hJ) (by exact hT) (by first | decide | omega) (by first | decide | omega)
theorem dX8_measure_0 : decode cX8_measure 0 = .ok (.iconst 0, 1) := by decide +kernel
theorem dX8_measure_1 : decode cX8_measure 1 = .ok (.istore_n 1, 1) := by decide +kernel
theorem dX8_measure_2 : decode cX8_measure 2 = .ok (.iload_n 1, 1) := by decide +kernel
theorem dX8_measure_3 : decode cX8_measure 3 = .ok (.bipush 8, 2) := by decide +kernel
theorem dX8_measure_5 : decode cX8_measure 5 = .ok (.if_icmp .ge 72, 3) := by decide +kernel
theorem dX8_measure_8 : decode cX8_measure 8 = .ok (.aload_n 0, 1) := by decide +kernel
theorem dX8_measure_9 : decode cX8_measure 9 = .ok (.getfield 15, 3) := by decide +kernel
theorem dX8_measure_12 : decode cX8_measure 12 = .ok (.iload_n 1, 1) := by decide +kernel
theorem dX8_measure_13 : decode cX8_measure 13 = .ok (.iconst 0, 1) := by decide +kernel
theorem dX8_measure_14 : decode cX8_measure 14 = .ok (.invokevirtual 25, 3) := by decide +kernel
theorem dX8_measure_17 : decode cX8_measure 17 = .ok (.istore_n 2, 1) := by decide +kernel
theorem dX8_measure_18 : decode cX8_measure 18 = .ok (.iconst 0, 1) := by decide +kernel
theorem dX8_measure_19 : decode cX8_measure 19 = .ok (.istore_n 3, 1) := by decide +kernel
theorem dX8_measure_20 : decode cX8_measure 20 = .ok (.iload_n 3, 1) := by decide +kernel
theorem dX8_measure_21 : decode cX8_measure 21 = .ok (.bipush 8, 2) := by decide +kernel
theorem dX8_measure_23 : decode cX8_measure 23 = .ok (.if_icmp .ge 48, 3) := by decide +kernel
theorem dX8_measure_26 : decode cX8_measure 26 = .ok (.iload_n 2, 1) := by decide +kernel
theorem dX8_measure_27 : decode cX8_measure 27 = .ok (.iload_n 3, 1) := by decide +kernel
theorem dX8_measure_28 : decode cX8_measure 28 = .ok (.ishr, 1) := by decide +kernel
theorem dX8_measure_29 : decode cX8_measure 29 = .ok (.iconst 1, 1) := by decide +kernel
theorem dX8_measure_30 : decode cX8_measure 30 = .ok (.iand, 1) := by decide +kernel
theorem dX8_measure_31 : decode cX8_measure 31 = .ok (.ifCond .eq 7, 3) := by decide +kernel
theorem dX8_measure_34 : decode cX8_measure 34 = .ok (.iconst 1, 1) := by decide +kernel
theorem dX8_measure_35 : decode cX8_measure 35 = .ok (.goto 6, 3) := by decide +kernel
theorem dX8_measure_38 : decode cX8_measure 38 = .ok (.sipush 1000, 3) := by decide +kernel
theorem dX8_measure_41 : decode cX8_measure 41 = .ok (.istore 4, 2) := by decide +kernel
theorem dX8_measure_43 : decode cX8_measure 43 = .ok (.aload_n 0, 1) := by decide +kernel
theorem dX8_measure_44 : decode cX8_measure 44 = .ok (.getfield 9, 3) := by decide +kernel
theorem dX8_measure_47 : decode cX8_measure 47 = .ok (.iload_n 1, 1) := by decide +kernel
theorem dX8_measure_48 : decode cX8_measure 48 = .ok (.bipush 8, 2) := by decide +kernel
theorem dX8_measure_50 : decode cX8_measure 50 = .ok (.imul, 1) := by decide +kernel
theorem dX8_measure_51 : decode cX8_measure 51 = .ok (.iload_n 3, 1) := by decide +kernel
theorem dX8_measure_52 : decode cX8_measure 52 = .ok (.iadd, 1) := by decide +kernel
theorem dX8_measure_53 : decode cX8_measure 53 = .ok (.iload_n 1, 1) := by decide +kernel
theorem dX8_measure_54 : decode cX8_measure 54 = .ok (.iload_n 3, 1) := by decide +kernel
theorem dX8_measure_55 : decode cX8_measure 55 = .ok (.if_icmp .ne 7, 3) := by decide +kernel
theorem dX8_measure_58 : decode cX8_measure 58 = .ok (.iconst 0, 1) := by decide +kernel
theorem dX8_measure_59 : decode cX8_measure 59 = .ok (.goto 5, 3) := by decide +kernel
theorem dX8_measure_62 : decode cX8_measure 62 = .ok (.iload 4, 2) := by decide +kernel
theorem dX8_measure_64 : decode cX8_measure 64 = .ok (.iastore, 1) := by decide +kernel
theorem dX8_measure_65 : decode cX8_measure 65 = .ok (.iinc 3 1, 3) := by decide +kernel
theorem dX8_measure_68 : decode cX8_measure 68 = .ok (.goto (-48), 3) := by decide +kernel
theorem dX8_measure_71 : decode cX8_measure 71 = .ok (.iinc 1 1, 3) := by decide +kernel
theorem dX8_measure_74 : decode cX8_measure 74 = .ok (.goto (-72), 3) := by decide +kernel
theorem dX8_measure_77 : decode cX8_measure 77 = .ok (.iconst 0, 1) := by decide +kernel
theorem dX8_measure_78 : decode cX8_measure 78 = .ok (.istore_n 1, 1) := by decide +kernel
theorem dX8_measure_79 : decode cX8_measure 79 = .ok (.iload_n 1, 1) := by decide +kernel
theorem dX8_measure_80 : decode cX8_measure 80 = .ok (.bipush 8, 2) := by decide +kernel
theorem dX8_measure_82 : decode cX8_measure 82 = .ok (.if_icmp .ge 14, 3) := by decide +kernel
theorem dX8_measure_85 : decode cX8_measure 85 = .ok (.aload_n 0, 1) := by decide +kernel
theorem dX8_measure_86 : decode cX8_measure 86 = .ok (.iload_n 1, 1) := by decide +kernel
theorem dX8_measure_87 : decode cX8_measure 87 = .ok (.invokevirtual 29, 3) := by decide +kernel
theorem dX8_measure_90 : decode cX8_measure 90 = .ok (.iinc 1 1, 3) := by decide +kernel
theorem dX8_measure_93 : decode cX8_measure 93 = .ok (.goto (-14), 3) := by decide +kernel
theorem dX8_measure_96 : decode cX8_measure 96 = .ok (.return_, 1) := by decide +kernel
theorem wd_1011 : (Cond.code ⟨"WebCourt$Ways", "measure", "()V"⟩ prog_10_method_3_code (5 : Nat) (Option.none : Option FieldType)) ∈ gtb := gtb_c4 182 (by decide +kernel) rfl
theorem wd_1013 : (Cond.methodLink "WebCourt$Ways" (29 : Nat) ⟨"WebCourt$Ways", "shortenOver", "(I)V"⟩) ∈ gtb := gtb_c4 184 (by decide +kernel) rfl
theorem wd_1015 : (Cond.instanceMethod ⟨"WebCourt$Ways", "shortenOver", "(I)V"⟩) ∈ gtb := gtb_c4 186 (by decide +kernel) rfl
theorem wd_33 : (Cond.selects "WebCourt$Ways" ⟨"WebCourt$Ways", "shortenOver", "(I)V"⟩ ⟨"WebCourt$Ways", "shortenOver", "(I)V"⟩) ∈ gtb := gtb_p 33 (by decide +kernel) rfl
theorem wd_117 : (Cond.initialized "WebCourt$Ways") ∈ gtb := gtb_c1 8 (by decide +kernel) rfl
theorem hd_yX8_shortenOver : yX8_shortenOver.cls = RX8 ∧ yX8_shortenOver.cls ≠ "java/lang/invoke/MethodHandle" ∧ yX8_shortenOver.cls ≠ "java/lang/invoke/VarHandle" ∧ (parseMethodDescriptor yX8_shortenOver.desc).map (fun d => d.parameters.length) = some 1 := by decide +kernel
theorem wd_1012 : (Cond.methodLink "WebCourt$Ways" (25 : Nat) ⟨"WebCourt$Court", "nextTo", "(IZ)I"⟩) ∈ gtb := gtb_c4 183 (by decide +kernel) rfl
set_option maxHeartbeats 4000000 in
set_option maxRecDepth 100000 in
theorem T_X8_measure (l : Launch) (D : va_G) (cy : Nat → ClassId) (a : Nat → Nat) (u : St) (hJ : CI a u)   : Mv l D cy (cW cy a) yX8_measure (.code yX8_measure cX8_measure 5 none) (rmo 1 25) [.ref (a 32)] u (fun (u' : St) => (CI a u') ∧ (KT u u')) := by
  refine Mv.of (own := RX8) rfl (by decide) (Nat.le_of_ble_eq_true rfl) ?_
  have hT : KT u u := KT.rf
  intro p e s m below meth c A Q ls C hret hO hl
  obtain ⟨hx, hb, hml, hown, ht, hK, hA⟩ := id C
  have hl : lv_has ls 5 [(0, .ref (a 32))] := hl
  refine lv_iconst (v := 0) hx hb dX8_measure_0 (by decide) ?_
  refine lv_istore_n (lv' := [(1, .int 0), (0, .ref (a 32))]) hx hb dX8_measure_1 rfl hl (by decide) rfl (fun ls hl => ?_)
  have LP_2_k2 : ∀ (n : Nat) (u1 : St) (H : Heap) (locs : List Loc) (ls : Array Slot) (i_k2 : Int32), Wo D A (cW cy a u1) s.heap H locs → lv_has ls 5 [(1, .int i_k2), (0, .ref (a 32))] → CI a u1 → KT u u1 → 0 ≤ i_k2.toInt ∧ i_k2.toInt ≤ 8 → 8 - i_k2.toInt < (n : Int) → W p l e (rmo 1 25) s m [.ref (a 32)].toArray below meth c H locs 0 0 Q (F0 m 2 ls []) := by
    intro n
    induction n with
    | zero =>
      intro u1 H locs ls i_k2 hO hl hJ hT iv0_k2 hm_k2
      exact absurd hm_k2 (by omega)
    | succ n ih_k2 =>
      intro u1 H locs ls i_k2 hO hl hJ hT iv0_k2 hm_k2
      refine lv_iload_n hx hb dX8_measure_2 rfl (lv_at hl 0 rfl) ?_
      refine lv_bipush (v := 8) hx hb dX8_measure_3 (by decide) ?_
      refine cs_ge (tgt := 77) (X := (i_k2).toInt) (Y := 8) hx hb dX8_measure_5 (by decide) rfl rfl (fun c3 => ?_) (fun c3 => ?_)
      · refine lv_iconst (v := 0) hx hb dX8_measure_77 (by decide) ?_
        refine lv_istore_n (lv' := [(1, .int 0), (0, .ref (a 32))]) hx hb dX8_measure_78 rfl hl (by decide) rfl (fun ls hl => ?_)
        have LP_79_k5 : ∀ (n : Nat) (u4 : St) (H : Heap) (locs : List Loc) (ls : Array Slot) (i_k5 : Int32), Wo D A (cW cy a u4) s.heap H locs → lv_has ls 5 [(1, .int i_k5), (0, .ref (a 32))] → CI a u4 → KT u u4 → 0 ≤ i_k5.toInt ∧ i_k5.toInt ≤ 8 → 8 - i_k5.toInt < (n : Int) → W p l e (rmo 1 25) s m [.ref (a 32)].toArray below meth c H locs 0 0 Q (F0 m 79 ls []) := by
          intro n
          induction n with
          | zero =>
            intro u4 H locs ls i_k5 hO hl hJ hT iv0_k5 hm_k5
            exact absurd hm_k5 (by omega)
          | succ n ih_k5 =>
            intro u4 H locs ls i_k5 hO hl hJ hT iv0_k5 hm_k5
            refine lv_iload_n hx hb dX8_measure_79 rfl (lv_at hl 0 rfl) ?_
            refine lv_bipush (v := 8) hx hb dX8_measure_80 (by decide) ?_
            refine cs_ge (tgt := 96) (X := (i_k5).toInt) (Y := 8) hx hb dX8_measure_82 (by decide) rfl rfl (fun c6 => ?_) (fun c6 => ?_)
            · refine hret _ _ _ _ _ dX8_measure_96 ?_ hO
              exact ⟨hJ, hT⟩
            · refine lv_aload_n hx hb dX8_measure_85 rfl (lv_at hl 1 rfl) ?_
              refine lv_iload_n hx hb dX8_measure_86 rfl (lv_at hl 0 rfl) ?_
              refine cVv (w := cW cy a) (As := [.int i_k5]) (rest := []) C hO (T_X8_shortenOver l D cy a _ (by exact hJ) (i_k5) (by first | omega | decide)) (cwV 1 ht (gV wd_1013 wd_1015 wd_33 wd_117 wd_1016) rfl rfl rfl hd_yX8_shortenOver ⟨Nat.le_of_ble_eq_true rfl, Nat.le_of_ble_eq_true rfl⟩) 32 rfl cW_32 rfl rfl hl.1 (Nat.le_of_ble_eq_true rfl) dX8_measure_87 rfl ⟨Nat.zero_le _, Nat.zero_le _⟩ (fun u8 H locs hp9 hO => ?_)
              obtain ⟨hJ, hTu8⟩ := hp9
              have hT : KT u u8 := KT.tr (by exact hT) hTu8
              have e10 : ((i_k5 + 1)).toInt = (i_k5).toInt + 1 := i_add rfl rfl (by omega)
              refine lv_iinc (v := (i_k5 + 1)) (lv' := [(1, .int (i_k5 + 1)), (0, .ref (a 32))]) hx hb dX8_measure_90 hl (k := 0) rfl rfl (by decide) rfl (fun ls hl => ?_)
              refine lv_goto (tgt := 79) hx hb dX8_measure_93 (by decide) ?_
              exact ih_k5 _ _ _ _ ((i_k5 + 1)) hO (lv_sub hl [0, 1] rfl) (by exact hJ) (by exact hT) (by first | decide | omega) (by first | decide | omega)
        exact LP_79_k5 4000 _ _ _ _ (0) hO (lv_sub hl [0, 1] rfl) (by exact hJ) (by exact hT) (by first | decide | omega) (by first | decide | omega)
      · refine lv_aload_n hx hb dX8_measure_8 rfl (lv_at hl 1 rfl) ?_
        refine gf_RX8_15 (v := .ref (a 28)) C hO 32 cW_32 rfl dX8_measure_9 ?_
        refine lv_iload_n hx hb dX8_measure_12 rfl (lv_at hl 0 rfl) ?_
        refine lv_iconst (v := 0) hx hb dX8_measure_13 (by decide) ?_
        refine cVi (w := cW cy a) (As := [.int i_k2, .int 0]) (rest := []) C hO (T_X2_nextTo l D cy a _ (by exact hJ) (i_k2) (0)) (cwV 2 ht (gV wd_1012 wd_822 wd_823 wd_115 wd_824) rfl rfl rfl hd_yX2_nextTo ⟨Nat.le_of_ble_eq_true rfl, Nat.le_of_ble_eq_true rfl⟩) 28 rfl cW_28 rfl rfl hl.1 (Nat.le_of_ble_eq_true rfl) dX8_measure_14 rfl ⟨Nat.zero_le _, Nat.zero_le _⟩ (fun r11 u12 H locs hp13 hO => ?_)
        have hu12 := hp13
        rw [hu12] at hO
        refine lv_istore_n (lv' := [(2, .int r11), (1, .int i_k2), (0, .ref (a 32))]) hx hb dX8_measure_17 rfl hl (by decide) rfl (fun ls hl => ?_)
        refine lv_iconst (v := 0) hx hb dX8_measure_18 (by decide) ?_
        refine lv_istore_n (lv' := [(3, .int 0), (2, .int r11), (1, .int i_k2), (0, .ref (a 32))]) hx hb dX8_measure_19 rfl hl (by decide) rfl (fun ls hl => ?_)
        have LP_20_k15 : ∀ (n : Nat) (u14 : St) (H : Heap) (locs : List Loc) (ls : Array Slot) (i_k15 : Int32), Wo D A (cW cy a u14) s.heap H locs → lv_has ls 5 [(3, .int i_k15), (2, .int r11), (1, .int i_k2), (0, .ref (a 32))] → CI a u14 → KT u u14 → 0 ≤ i_k15.toInt ∧ i_k15.toInt ≤ 8 → 8 - i_k15.toInt < (n : Int) → W p l e (rmo 1 25) s m [.ref (a 32)].toArray below meth c H locs 0 0 Q (F0 m 20 ls []) := by
          intro n
          induction n with
          | zero =>
            intro u14 H locs ls i_k15 hO hl hJ hT iv0_k15 hm_k15
            exact absurd hm_k15 (by omega)
          | succ n ih_k15 =>
            intro u14 H locs ls i_k15 hO hl hJ hT iv0_k15 hm_k15
            refine lv_iload_n hx hb dX8_measure_20 rfl (lv_at hl 0 rfl) ?_
            refine lv_bipush (v := 8) hx hb dX8_measure_21 (by decide) ?_
            refine cs_ge (tgt := 71) (X := (i_k15).toInt) (Y := 8) hx hb dX8_measure_23 (by decide) rfl rfl (fun c16 => ?_) (fun c16 => ?_)
            · have e17 : ((i_k2 + 1)).toInt = (i_k2).toInt + 1 := i_add rfl rfl (by omega)
              refine lv_iinc (v := (i_k2 + 1)) (lv' := [(1, .int (i_k2 + 1)), (3, .int i_k15), (2, .int r11), (0, .ref (a 32))]) hx hb dX8_measure_71 hl (k := 2) rfl rfl (by decide) rfl (fun ls hl => ?_)
              refine lv_goto (tgt := 2) hx hb dX8_measure_74 (by decide) ?_
              exact ih_k2 _ _ _ _ ((i_k2 + 1)) hO (lv_sub hl [0, 3] rfl) (by exact hJ) (by exact hT) (by first | decide | omega) (by first | decide | omega)
            · refine lv_iload_n hx hb dX8_measure_26 rfl (lv_at hl 1 rfl) ?_
              refine lv_iload_n hx hb dX8_measure_27 rfl (lv_at hl 0 rfl) ?_
              refine lv_ishr hx hb dX8_measure_28 ?_
              refine lv_topi (fun z18 ez18 => ?_)
              refine lv_iconst (v := 1) hx hb dX8_measure_29 (by decide) ?_
              refine lv_iand hx hb dX8_measure_30 ?_
              refine lv_topi (fun z19 ez19 => ?_)
              have g20 : 0 ≤ z19.toInt ∧ z19.toInt ≤ 1 := by rw [ez19]; exact i_andr rfl (by omega)
              refine bs_eq (tgt := 38) (X := (z19).toInt) hx hb dX8_measure_31 (by decide) rfl (fun c21 => ?_) (fun c21 => ?_)
              · refine lv_sipush (v := 1000) hx hb dX8_measure_38 (by decide) ?_
                refine lv_istore (lv' := [(4, .int 1000), (3, .int i_k15), (2, .int r11), (1, .int i_k2), (0, .ref (a 32))]) hx hb dX8_measure_41 hl (by decide) rfl (fun ls hl => ?_)
                refine lv_aload_n hx hb dX8_measure_43 rfl (lv_at hl 4 rfl) ?_
                refine gf_RX8_9 (v := .ref (a 33)) C hO 32 cW_32 rfl dX8_measure_44 ?_
                refine lv_iload_n hx hb dX8_measure_47 rfl (lv_at hl 3 rfl) ?_
                refine lv_bipush (v := 8) hx hb dX8_measure_48 (by decide) ?_
                have e22 : ((i_k2 * 8)).toInt = (i_k2).toInt * 8 := i_mul rfl rfl (by omega)
                refine lv_imul hx hb dX8_measure_50 ?_
                refine lv_iload_n hx hb dX8_measure_51 rfl (lv_at hl 1 rfl) ?_
                have e23 : (((i_k2 * 8) + i_k15)).toInt = ((i_k2).toInt * 8) + (i_k15).toInt := i_add e22 rfl (by omega)
                refine lv_iadd hx hb dX8_measure_52 ?_
                refine lv_iload_n hx hb dX8_measure_53 rfl (lv_at hl 3 rfl) ?_
                refine lv_iload_n hx hb dX8_measure_54 rfl (lv_at hl 1 rfl) ?_
                refine cs_ne (tgt := 62) (X := (i_k2).toInt) (Y := (i_k15).toInt) hx hb dX8_measure_55 (by decide) rfl rfl (fun c24 => ?_) (fun c24 => ?_)
                · refine lv_iload hx hb dX8_measure_62 (lv_at hl 0 rfl) ?_
                  refine aIs C hO 33 cW_33 (i_in (X := (((i_k2).toInt * 8) + (i_k15).toInt)) e23 (by omega) (by omega)) cW_s33 dX8_measure_64 (fun H locs hO => ?_)
                  have hJ := CIsA hO hJ
                  have e25 : ((i_k15 + 1)).toInt = (i_k15).toInt + 1 := i_add rfl rfl (by omega)
                  refine lv_iinc (v := (i_k15 + 1)) (lv' := [(3, .int (i_k15 + 1)), (4, .int 1000), (2, .int r11), (1, .int i_k2), (0, .ref (a 32))]) hx hb dX8_measure_65 hl (k := 1) rfl rfl (by decide) rfl (fun ls hl => ?_)
                  refine lv_goto (tgt := 20) hx hb dX8_measure_68 (by decide) ?_
                  exact ih_k15 _ _ _ _ ((i_k15 + 1)) hO (lv_sub hl [0, 2, 3, 4] rfl) (by exact hJ) (by exact hT) (by first | decide | omega) (by first | decide | omega)
                · refine lv_iconst (v := 0) hx hb dX8_measure_58 (by decide) ?_
                  refine lv_goto (tgt := 64) hx hb dX8_measure_59 (by decide) ?_
                  refine aIs C hO 33 cW_33 (i_in (X := (((i_k2).toInt * 8) + (i_k15).toInt)) e23 (by omega) (by omega)) cW_s33 dX8_measure_64 (fun H locs hO => ?_)
                  have hJ := CIsA hO hJ
                  have e26 : ((i_k15 + 1)).toInt = (i_k15).toInt + 1 := i_add rfl rfl (by omega)
                  refine lv_iinc (v := (i_k15 + 1)) (lv' := [(3, .int (i_k15 + 1)), (4, .int 1000), (2, .int r11), (1, .int i_k2), (0, .ref (a 32))]) hx hb dX8_measure_65 hl (k := 1) rfl rfl (by decide) rfl (fun ls hl => ?_)
                  refine lv_goto (tgt := 20) hx hb dX8_measure_68 (by decide) ?_
                  exact ih_k15 _ _ _ _ ((i_k15 + 1)) hO (lv_sub hl [0, 2, 3, 4] rfl) (by exact hJ) (by exact hT) (by first | decide | omega) (by first | decide | omega)
              · refine lv_iconst (v := 1) hx hb dX8_measure_34 (by decide) ?_
                refine lv_goto (tgt := 41) hx hb dX8_measure_35 (by decide) ?_
                refine lv_istore (lv' := [(4, .int 1), (3, .int i_k15), (2, .int r11), (1, .int i_k2), (0, .ref (a 32))]) hx hb dX8_measure_41 hl (by decide) rfl (fun ls hl => ?_)
                refine lv_aload_n hx hb dX8_measure_43 rfl (lv_at hl 4 rfl) ?_
                refine gf_RX8_9 (v := .ref (a 33)) C hO 32 cW_32 rfl dX8_measure_44 ?_
                refine lv_iload_n hx hb dX8_measure_47 rfl (lv_at hl 3 rfl) ?_
                refine lv_bipush (v := 8) hx hb dX8_measure_48 (by decide) ?_
                have e27 : ((i_k2 * 8)).toInt = (i_k2).toInt * 8 := i_mul rfl rfl (by omega)
                refine lv_imul hx hb dX8_measure_50 ?_
                refine lv_iload_n hx hb dX8_measure_51 rfl (lv_at hl 1 rfl) ?_
                have e28 : (((i_k2 * 8) + i_k15)).toInt = ((i_k2).toInt * 8) + (i_k15).toInt := i_add e27 rfl (by omega)
                refine lv_iadd hx hb dX8_measure_52 ?_
                refine lv_iload_n hx hb dX8_measure_53 rfl (lv_at hl 3 rfl) ?_
                refine lv_iload_n hx hb dX8_measure_54 rfl (lv_at hl 1 rfl) ?_
                refine cs_ne (tgt := 62) (X := (i_k2).toInt) (Y := (i_k15).toInt) hx hb dX8_measure_55 (by decide) rfl rfl (fun c29 => ?_) (fun c29 => ?_)
                · refine lv_iload hx hb dX8_measure_62 (lv_at hl 0 rfl) ?_
                  refine aIs C hO 33 cW_33 (i_in (X := (((i_k2).toInt * 8) + (i_k15).toInt)) e28 (by omega) (by omega)) cW_s33 dX8_measure_64 (fun H locs hO => ?_)
                  have hJ := CIsA hO hJ
                  have e30 : ((i_k15 + 1)).toInt = (i_k15).toInt + 1 := i_add rfl rfl (by omega)
                  refine lv_iinc (v := (i_k15 + 1)) (lv' := [(3, .int (i_k15 + 1)), (4, .int 1), (2, .int r11), (1, .int i_k2), (0, .ref (a 32))]) hx hb dX8_measure_65 hl (k := 1) rfl rfl (by decide) rfl (fun ls hl => ?_)
                  refine lv_goto (tgt := 20) hx hb dX8_measure_68 (by decide) ?_
                  exact ih_k15 _ _ _ _ ((i_k15 + 1)) hO (lv_sub hl [0, 2, 3, 4] rfl) (by exact hJ) (by exact hT) (by first | decide | omega) (by first | decide | omega)
                · refine lv_iconst (v := 0) hx hb dX8_measure_58 (by decide) ?_
                  refine lv_goto (tgt := 64) hx hb dX8_measure_59 (by decide) ?_
                  refine aIs C hO 33 cW_33 (i_in (X := (((i_k2).toInt * 8) + (i_k15).toInt)) e28 (by omega) (by omega)) cW_s33 dX8_measure_64 (fun H locs hO => ?_)
                  have hJ := CIsA hO hJ
                  have e31 : ((i_k15 + 1)).toInt = (i_k15).toInt + 1 := i_add rfl rfl (by omega)
                  refine lv_iinc (v := (i_k15 + 1)) (lv' := [(3, .int (i_k15 + 1)), (4, .int 1), (2, .int r11), (1, .int i_k2), (0, .ref (a 32))]) hx hb dX8_measure_65 hl (k := 1) rfl rfl (by decide) rfl (fun ls hl => ?_)
                  refine lv_goto (tgt := 20) hx hb dX8_measure_68 (by decide) ?_
                  exact ih_k15 _ _ _ _ ((i_k15 + 1)) hO (lv_sub hl [0, 2, 3, 4] rfl) (by exact hJ) (by exact hT) (by first | decide | omega) (by first | decide | omega)
        exact LP_20_k15 4000 _ _ _ _ (0) hO (lv_sub hl [0, 1, 2, 3] rfl) (by exact hJ) (by exact hT) (by first | decide | omega) (by first | decide | omega)
  exact LP_2_k2 4000 _ _ _ _ (0) hO (lv_sub hl [0, 1] rfl) (by exact hJ) (by exact hT) (by first | decide | omega) (by first | decide | omega)
theorem dX8_stepNearer_0 : decode cX8_stepNearer 0 = .ok (.aload_n 0, 1) := by decide +kernel
theorem dX8_stepNearer_1 : decode cX8_stepNearer 1 = .ok (.getfield 15, 3) := by decide +kernel
theorem dX8_stepNearer_4 : decode cX8_stepNearer 4 = .ok (.iload_n 1, 1) := by decide +kernel
theorem dX8_stepNearer_5 : decode cX8_stepNearer 5 = .ok (.iconst 0, 1) := by decide +kernel
theorem dX8_stepNearer_6 : decode cX8_stepNearer 6 = .ok (.invokevirtual 25, 3) := by decide +kernel
theorem dX8_stepNearer_9 : decode cX8_stepNearer 9 = .ok (.istore 4, 2) := by decide +kernel
theorem dX8_stepNearer_11 : decode cX8_stepNearer 11 = .ok (.iconst 0, 1) := by decide +kernel
theorem dX8_stepNearer_12 : decode cX8_stepNearer 12 = .ok (.istore 5, 2) := by decide +kernel
theorem dX8_stepNearer_14 : decode cX8_stepNearer 14 = .ok (.iload 5, 2) := by decide +kernel
theorem dX8_stepNearer_16 : decode cX8_stepNearer 16 = .ok (.aload_n 0, 1) := by decide +kernel
theorem dX8_stepNearer_17 : decode cX8_stepNearer 17 = .ok (.getfield 15, 3) := by decide +kernel
theorem dX8_stepNearer_20 : decode cX8_stepNearer 20 = .ok (.getfield 44, 3) := by decide +kernel
theorem dX8_stepNearer_23 : decode cX8_stepNearer 23 = .ok (.getfield 48, 3) := by decide +kernel
theorem dX8_stepNearer_26 : decode cX8_stepNearer 26 = .ok (.if_icmp .ge 33, 3) := by decide +kernel
theorem dX8_stepNearer_29 : decode cX8_stepNearer 29 = .ok (.iload 4, 2) := by decide +kernel
theorem dX8_stepNearer_31 : decode cX8_stepNearer 31 = .ok (.iload 5, 2) := by decide +kernel
theorem dX8_stepNearer_33 : decode cX8_stepNearer 33 = .ok (.ishr, 1) := by decide +kernel
theorem dX8_stepNearer_34 : decode cX8_stepNearer 34 = .ok (.iconst 1, 1) := by decide +kernel
theorem dX8_stepNearer_35 : decode cX8_stepNearer 35 = .ok (.iand, 1) := by decide +kernel
theorem dX8_stepNearer_36 : decode cX8_stepNearer 36 = .ok (.ifCond .eq 17, 3) := by decide +kernel
theorem dX8_stepNearer_39 : decode cX8_stepNearer 39 = .ok (.aload_n 0, 1) := by decide +kernel
theorem dX8_stepNearer_40 : decode cX8_stepNearer 40 = .ok (.iload 5, 2) := by decide +kernel
theorem dX8_stepNearer_42 : decode cX8_stepNearer 42 = .ok (.iload_n 2, 1) := by decide +kernel
theorem dX8_stepNearer_43 : decode cX8_stepNearer 43 = .ok (.invokevirtual 36, 3) := by decide +kernel
theorem dX8_stepNearer_46 : decode cX8_stepNearer 46 = .ok (.iload_n 3, 1) := by decide +kernel
theorem dX8_stepNearer_47 : decode cX8_stepNearer 47 = .ok (.if_icmp .ne 6, 3) := by decide +kernel
theorem dX8_stepNearer_50 : decode cX8_stepNearer 50 = .ok (.iload 5, 2) := by decide +kernel
theorem dX8_stepNearer_52 : decode cX8_stepNearer 52 = .ok (.ireturn, 1) := by decide +kernel
theorem dX8_stepNearer_53 : decode cX8_stepNearer 53 = .ok (.iinc 5 1, 3) := by decide +kernel
theorem dX8_stepNearer_56 : decode cX8_stepNearer 56 = .ok (.goto (-42), 3) := by decide +kernel
theorem dX8_stepNearer_59 : decode cX8_stepNearer 59 = .ok (.iload_n 1, 1) := by decide +kernel
theorem dX8_stepNearer_60 : decode cX8_stepNearer 60 = .ok (.ireturn, 1) := by decide +kernel
theorem wd_1030 : (Cond.code ⟨"WebCourt$Ways", "stepNearer", "(III)I"⟩ prog_10_method_6_code (6 : Nat) (Option.some FieldType.int)) ∈ gtb := gtb_c4 201 (by decide +kernel) rfl
theorem wd_362 : (Cond.fieldLink "WebCourt$Ways" (44 : Nat) "WebCourt$Court" "web" "LWebCourt$Web;") ∈ gtb := gtb_c2 13 (by decide +kernel) rfl
theorem gf_RX8_44 {p : Program} {l : Launch} {e : Env} {R : Room} {s : State} {m : MethodId} {args : Array Value} {below : List Frame} {meth : Method} {c : Code} {H : Heap} {locs : List Loc} {cells slots : Nat} {Q : State → Prop} {cc : ByteArray} {pc nL : Nat} {ls : Array Slot} {rest : List Value} {D : va_G} {cy : Nat → ClassId} {A : Nat → Prop} {ws : va_W} {b : Nat} {fs : List Value} {v : Value} (C : Cx p s m args c cc nL RX8 D cy A) (hO : Wo D A ws s.heap H locs) (q0 : Nat) (he : ws[q0]? = some (b, .inr (2, fs))) (hv : fs[1]? = some v) (hdg : decode cc pc = .ok (.getfield 44, 3)) (kk : W p l e R s m args below meth c H locs cells slots Q (F0 m (pc + 3) ls (v :: rest))) : W p l e R s m args below meth c H locs cells slots Q (F0 m pc ls (.ref b :: rest)) := gF (k := 1) C hO q0 he rfl inFX2 (by decide) wd_362 rfl hv hdg kk
theorem wd_253 : (Cond.fieldLink "WebCourt$Ways" (48 : Nat) "WebCourt$Web" "knots" "I") ∈ gtb := gtb_c1 144 (by decide +kernel) rfl
theorem gf_RX8_48 {p : Program} {l : Launch} {e : Env} {R : Room} {s : State} {m : MethodId} {args : Array Value} {below : List Frame} {meth : Method} {c : Code} {H : Heap} {locs : List Loc} {cells slots : Nat} {Q : State → Prop} {cc : ByteArray} {pc nL : Nat} {ls : Array Slot} {rest : List Value} {D : va_G} {cy : Nat → ClassId} {A : Nat → Prop} {ws : va_W} {b : Nat} {fs : List Value} {v : Value} (C : Cx p s m args c cc nL RX8 D cy A) (hO : Wo D A ws s.heap H locs) (q0 : Nat) (he : ws[q0]? = some (b, .inr (9, fs))) (hv : fs[9]? = some v) (hdg : decode cc pc = .ok (.getfield 48, 3)) (kk : W p l e R s m args below meth c H locs cells slots Q (F0 m (pc + 3) ls (v :: rest))) : W p l e R s m args below meth c H locs cells slots Q (F0 m pc ls (.ref b :: rest)) := gF (k := 9) C hO q0 he rfl inFX9 (by decide) wd_253 rfl hv hdg kk
theorem wd_1026 : (Cond.methodLink "WebCourt$Ways" (36 : Nat) ⟨"WebCourt$Ways", "hours", "(II)I"⟩) ∈ gtb := gtb_c4 197 (by decide +kernel) rfl
theorem wd_1018 : (Cond.instanceMethod ⟨"WebCourt$Ways", "hours", "(II)I"⟩) ∈ gtb := gtb_c4 189 (by decide +kernel) rfl
theorem wd_1019 : (Cond.selects "WebCourt$Ways" ⟨"WebCourt$Ways", "hours", "(II)I"⟩ ⟨"WebCourt$Ways", "hours", "(II)I"⟩) ∈ gtb := gtb_c4 190 (by decide +kernel) rfl
theorem hd_yX8_hours : yX8_hours.cls = RX8 ∧ yX8_hours.cls ≠ "java/lang/invoke/MethodHandle" ∧ yX8_hours.cls ≠ "java/lang/invoke/VarHandle" ∧ (parseMethodDescriptor yX8_hours.desc).map (fun d => d.parameters.length) = some 2 := by decide +kernel
set_option maxHeartbeats 4000000 in
set_option maxRecDepth 100000 in
theorem T_X8_stepNearer (l : Launch) (D : va_G) (cy : Nat → ClassId) (a : Nat → Nat) (u : St) (hJ : CI a u) (x1 : Int32) (x2 : Int32) (x3 : Int32)  : Mi l D cy (cW cy a) yX8_stepNearer (.code yX8_stepNearer cX8_stepNearer 6 (some .int)) (rmo 2 43) [.ref (a 32), .int x1, .int x2, .int x3] u (fun (r : Int32) (u' : St) => u' = u) := by
  refine Mi.of (own := RX8) rfl (by decide) (Nat.le_of_ble_eq_true rfl) ?_
  have hT : KT u u := KT.rf
  intro p e s m below meth c A Q ls C hret hO hl
  obtain ⟨hx, hb, hml, hown, ht, hK, hA⟩ := id C
  have hl : lv_has ls 6 [(0, .ref (a 32)), (1, .int x1), (2, .int x2), (3, .int x3)] := hl
  refine lv_aload_n hx hb dX8_stepNearer_0 rfl (lv_at hl 0 rfl) ?_
  refine gf_RX8_15 (v := .ref (a 28)) C hO 32 cW_32 rfl dX8_stepNearer_1 ?_
  refine lv_iload_n hx hb dX8_stepNearer_4 rfl (lv_at hl 1 rfl) ?_
  refine lv_iconst (v := 0) hx hb dX8_stepNearer_5 (by decide) ?_
  refine cVi (w := cW cy a) (As := [.int x1, .int 0]) (rest := []) C hO (T_X2_nextTo l D cy a _ (by exact hJ) (x1) (0)) (cwV 2 ht (gV wd_1012 wd_822 wd_823 wd_115 wd_824) rfl rfl rfl hd_yX2_nextTo ⟨Nat.le_of_ble_eq_true rfl, Nat.le_of_ble_eq_true rfl⟩) 28 rfl cW_28 rfl rfl hl.1 (Nat.le_of_ble_eq_true rfl) dX8_stepNearer_6 rfl ⟨Nat.zero_le _, Nat.zero_le _⟩ (fun r1 u2 H locs hp3 hO => ?_)
  have hu2 := hp3
  rw [hu2] at hO
  refine lv_istore (lv' := [(4, .int r1), (0, .ref (a 32)), (1, .int x1), (2, .int x2), (3, .int x3)]) hx hb dX8_stepNearer_9 hl (by decide) rfl (fun ls hl => ?_)
  refine lv_iconst (v := 0) hx hb dX8_stepNearer_11 (by decide) ?_
  refine lv_istore (lv' := [(5, .int 0), (4, .int r1), (0, .ref (a 32)), (1, .int x1), (2, .int x2), (3, .int x3)]) hx hb dX8_stepNearer_12 hl (by decide) rfl (fun ls hl => ?_)
  have LP_14_k4 : ∀ (n : Nat) (H : Heap) (locs : List Loc) (ls : Array Slot) (i_k4 : Int32), Wo D A (cW cy a u) s.heap H locs → lv_has ls 6 [(5, .int i_k4), (4, .int r1), (0, .ref (a 32)), (1, .int x1), (2, .int x2), (3, .int x3)] → 0 ≤ i_k4.toInt ∧ i_k4.toInt ≤ 8 → 8 - i_k4.toInt < (n : Int) → W p l e (rmo 2 43) s m [.ref (a 32), .int x1, .int x2, .int x3].toArray below meth c H locs 0 0 Q (F0 m 14 ls []) := by
    intro n
    induction n with
    | zero =>
      intro H locs ls i_k4 hO hl iv0_k4 hm_k4
      exact absurd hm_k4 (by omega)
    | succ n ih_k4 =>
      intro H locs ls i_k4 hO hl iv0_k4 hm_k4
      refine lv_iload hx hb dX8_stepNearer_14 (lv_at hl 0 rfl) ?_
      refine lv_aload_n hx hb dX8_stepNearer_16 rfl (lv_at hl 2 rfl) ?_
      refine gf_RX8_15 (v := .ref (a 28)) C hO 32 cW_32 rfl dX8_stepNearer_17 ?_
      refine gf_RX8_44 (v := .ref (a 3)) C hO 28 cW_28 (congrArg (fun z : Nat => some (Value.ref z)) (CI_R0 hJ)) dX8_stepNearer_20 ?_
      have g5 : 0 ≤ (fI u 3 9).toInt ∧ (fI u 3 9).toInt ≤ 8 := by have h := CI_3_9 hJ; exact h
      refine gf_RX8_48 (v := .int (fI u 3 9)) C hO 3 cW_3 rfl dX8_stepNearer_23 ?_
      refine cs_ge (tgt := 59) (X := (i_k4).toInt) (Y := ((fI u 3 9)).toInt) hx hb dX8_stepNearer_26 (by decide) rfl rfl (fun c6 => ?_) (fun c6 => ?_)
      · refine lv_iload_n hx hb dX8_stepNearer_59 rfl (lv_at hl 3 rfl) ?_
        refine hret _ _ _ _ _ _ dX8_stepNearer_60 rfl ?_ hO
        exact rfl
      · refine lv_iload hx hb dX8_stepNearer_29 (lv_at hl 1 rfl) ?_
        refine lv_iload hx hb dX8_stepNearer_31 (lv_at hl 0 rfl) ?_
        refine lv_ishr hx hb dX8_stepNearer_33 ?_
        refine lv_topi (fun z7 ez7 => ?_)
        refine lv_iconst (v := 1) hx hb dX8_stepNearer_34 (by decide) ?_
        refine lv_iand hx hb dX8_stepNearer_35 ?_
        refine lv_topi (fun z8 ez8 => ?_)
        have g9 : 0 ≤ z8.toInt ∧ z8.toInt ≤ 1 := by rw [ez8]; exact i_andr rfl (by omega)
        refine bs_eq (tgt := 53) (X := (z8).toInt) hx hb dX8_stepNearer_36 (by decide) rfl (fun c10 => ?_) (fun c10 => ?_)
        · have e11 : ((i_k4 + 1)).toInt = (i_k4).toInt + 1 := i_add rfl rfl (by omega)
          refine lv_iinc (v := (i_k4 + 1)) (lv' := [(5, .int (i_k4 + 1)), (4, .int r1), (0, .ref (a 32)), (1, .int x1), (2, .int x2), (3, .int x3)]) hx hb dX8_stepNearer_53 hl (k := 0) rfl rfl (by decide) rfl (fun ls hl => ?_)
          refine lv_goto (tgt := 14) hx hb dX8_stepNearer_56 (by decide) ?_
          exact ih_k4 _ _ _ ((i_k4 + 1)) hO (lv_sub hl [0, 1, 2, 3, 4, 5] rfl) (by first | decide | omega) (by first | decide | omega)
        · refine lv_aload_n hx hb dX8_stepNearer_39 rfl (lv_at hl 2 rfl) ?_
          refine lv_iload hx hb dX8_stepNearer_40 (lv_at hl 0 rfl) ?_
          refine lv_iload_n hx hb dX8_stepNearer_42 rfl (lv_at hl 4 rfl) ?_
          refine cVi (w := cW cy a) (As := [.int i_k4, .int x2]) (rest := []) C hO (T_X8_hours l D cy a _ (by exact hJ) (i_k4) (x2)) (cwV 2 ht (gV wd_1026 wd_1018 wd_1019 wd_117 wd_1020) rfl rfl rfl hd_yX8_hours ⟨Nat.le_of_ble_eq_true rfl, Nat.le_of_ble_eq_true rfl⟩) 32 rfl cW_32 rfl rfl hl.1 (Nat.le_of_ble_eq_true rfl) dX8_stepNearer_43 rfl ⟨Nat.zero_le _, Nat.zero_le _⟩ (fun r12 u13 H locs hp14 hO => ?_)
          have hu13 := hp14
          rw [hu13] at hO
          refine lv_iload_n hx hb dX8_stepNearer_46 rfl (lv_at hl 5 rfl) ?_
          refine cs_ne (tgt := 53) (X := (r12).toInt) (Y := (x3).toInt) hx hb dX8_stepNearer_47 (by decide) rfl rfl (fun c15 => ?_) (fun c15 => ?_)
          · have e16 : ((i_k4 + 1)).toInt = (i_k4).toInt + 1 := i_add rfl rfl (by omega)
            refine lv_iinc (v := (i_k4 + 1)) (lv' := [(5, .int (i_k4 + 1)), (4, .int r1), (0, .ref (a 32)), (1, .int x1), (2, .int x2), (3, .int x3)]) hx hb dX8_stepNearer_53 hl (k := 0) rfl rfl (by decide) rfl (fun ls hl => ?_)
            refine lv_goto (tgt := 14) hx hb dX8_stepNearer_56 (by decide) ?_
            exact ih_k4 _ _ _ ((i_k4 + 1)) hO (lv_sub hl [0, 1, 2, 3, 4, 5] rfl) (by first | decide | omega) (by first | decide | omega)
          · refine lv_iload hx hb dX8_stepNearer_50 (lv_at hl 0 rfl) ?_
            refine hret _ _ _ _ _ _ dX8_stepNearer_52 rfl ?_ hO
            exact rfl
  exact LP_14_k4 4000 _ _ _ (0) hO (lv_sub hl [0, 1, 2, 3, 4, 5] rfl) (by first | decide | omega) (by first | decide | omega)
theorem dX8_reached_0 : decode cX8_reached 0 = .ok (.aload_n 0, 1) := by decide +kernel
theorem dX8_reached_1 : decode cX8_reached 1 = .ok (.getfield 15, 3) := by decide +kernel
theorem dX8_reached_4 : decode cX8_reached 4 = .ok (.getfield 33, 3) := by decide +kernel
theorem dX8_reached_7 : decode cX8_reached 7 = .ok (.iconst 0, 1) := by decide +kernel
theorem dX8_reached_8 : decode cX8_reached 8 = .ok (.iaload, 1) := by decide +kernel
theorem dX8_reached_9 : decode cX8_reached 9 = .ok (.iconst (-1), 1) := by decide +kernel
theorem dX8_reached_10 : decode cX8_reached 10 = .ok (.if_icmp .ne 7, 3) := by decide +kernel
theorem dX8_reached_13 : decode cX8_reached 13 = .ok (.iconst 0, 1) := by decide +kernel
theorem dX8_reached_14 : decode cX8_reached 14 = .ok (.goto 14, 3) := by decide +kernel
theorem dX8_reached_17 : decode cX8_reached 17 = .ok (.iconst 1, 1) := by decide +kernel
theorem dX8_reached_18 : decode cX8_reached 18 = .ok (.aload_n 0, 1) := by decide +kernel
theorem dX8_reached_19 : decode cX8_reached 19 = .ok (.getfield 15, 3) := by decide +kernel
theorem dX8_reached_22 : decode cX8_reached 22 = .ok (.getfield 33, 3) := by decide +kernel
theorem dX8_reached_25 : decode cX8_reached 25 = .ok (.iconst 0, 1) := by decide +kernel
theorem dX8_reached_26 : decode cX8_reached 26 = .ok (.iaload, 1) := by decide +kernel
theorem dX8_reached_27 : decode cX8_reached 27 = .ok (.ishl, 1) := by decide +kernel
theorem dX8_reached_28 : decode cX8_reached 28 = .ok (.istore_n 2, 1) := by decide +kernel
theorem dX8_reached_29 : decode cX8_reached 29 = .ok (.iconst 0, 1) := by decide +kernel
theorem dX8_reached_30 : decode cX8_reached 30 = .ok (.istore_n 3, 1) := by decide +kernel
theorem dX8_reached_31 : decode cX8_reached 31 = .ok (.iload_n 3, 1) := by decide +kernel
theorem dX8_reached_32 : decode cX8_reached 32 = .ok (.bipush 8, 2) := by decide +kernel
theorem dX8_reached_34 : decode cX8_reached 34 = .ok (.if_icmp .ge 87, 3) := by decide +kernel
theorem dX8_reached_37 : decode cX8_reached 37 = .ok (.iconst 0, 1) := by decide +kernel
theorem dX8_reached_38 : decode cX8_reached 38 = .ok (.istore 4, 2) := by decide +kernel
theorem dX8_reached_40 : decode cX8_reached 40 = .ok (.iload 4, 2) := by decide +kernel
theorem dX8_reached_42 : decode cX8_reached 42 = .ok (.aload_n 0, 1) := by decide +kernel
theorem dX8_reached_43 : decode cX8_reached 43 = .ok (.getfield 15, 3) := by decide +kernel
theorem dX8_reached_46 : decode cX8_reached 46 = .ok (.getfield 44, 3) := by decide +kernel
theorem dX8_reached_49 : decode cX8_reached 49 = .ok (.getfield 54, 3) := by decide +kernel
theorem dX8_reached_52 : decode cX8_reached 52 = .ok (.if_icmp .ge 63, 3) := by decide +kernel
theorem dX8_reached_55 : decode cX8_reached 55 = .ok (.iconst 1, 1) := by decide +kernel
theorem dX8_reached_56 : decode cX8_reached 56 = .ok (.aload_n 0, 1) := by decide +kernel
theorem dX8_reached_57 : decode cX8_reached 57 = .ok (.getfield 15, 3) := by decide +kernel
theorem dX8_reached_60 : decode cX8_reached 60 = .ok (.getfield 44, 3) := by decide +kernel
theorem dX8_reached_63 : decode cX8_reached 63 = .ok (.getfield 57, 3) := by decide +kernel
theorem dX8_reached_66 : decode cX8_reached 66 = .ok (.iload 4, 2) := by decide +kernel
theorem dX8_reached_68 : decode cX8_reached 68 = .ok (.iaload, 1) := by decide +kernel
theorem dX8_reached_69 : decode cX8_reached 69 = .ok (.ishl, 1) := by decide +kernel
theorem dX8_reached_70 : decode cX8_reached 70 = .ok (.iconst 1, 1) := by decide +kernel
theorem dX8_reached_71 : decode cX8_reached 71 = .ok (.aload_n 0, 1) := by decide +kernel
theorem dX8_reached_72 : decode cX8_reached 72 = .ok (.getfield 15, 3) := by decide +kernel
theorem dX8_reached_75 : decode cX8_reached 75 = .ok (.getfield 44, 3) := by decide +kernel
theorem dX8_reached_78 : decode cX8_reached 78 = .ok (.getfield 60, 3) := by decide +kernel
theorem dX8_reached_81 : decode cX8_reached 81 = .ok (.iload 4, 2) := by decide +kernel
theorem dX8_reached_83 : decode cX8_reached 83 = .ok (.iaload, 1) := by decide +kernel
theorem dX8_reached_84 : decode cX8_reached 84 = .ok (.ishl, 1) := by decide +kernel
theorem dX8_reached_85 : decode cX8_reached 85 = .ok (.ior, 1) := by decide +kernel
theorem dX8_reached_86 : decode cX8_reached 86 = .ok (.istore 5, 2) := by decide +kernel
theorem dX8_reached_88 : decode cX8_reached 88 = .ok (.iload_n 1, 1) := by decide +kernel
theorem dX8_reached_89 : decode cX8_reached 89 = .ok (.iload 4, 2) := by decide +kernel
theorem dX8_reached_91 : decode cX8_reached 91 = .ok (.ishr, 1) := by decide +kernel
theorem dX8_reached_92 : decode cX8_reached 92 = .ok (.iconst 1, 1) := by decide +kernel
theorem dX8_reached_93 : decode cX8_reached 93 = .ok (.iand, 1) := by decide +kernel
theorem dX8_reached_94 : decode cX8_reached 94 = .ok (.ifCond .ne 15, 3) := by decide +kernel
theorem dX8_reached_97 : decode cX8_reached 97 = .ok (.iload_n 2, 1) := by decide +kernel
theorem dX8_reached_98 : decode cX8_reached 98 = .ok (.iload 5, 2) := by decide +kernel
theorem dX8_reached_100 : decode cX8_reached 100 = .ok (.iand, 1) := by decide +kernel
theorem dX8_reached_101 : decode cX8_reached 101 = .ok (.ifCond .eq 8, 3) := by decide +kernel
theorem dX8_reached_104 : decode cX8_reached 104 = .ok (.iload_n 2, 1) := by decide +kernel
theorem dX8_reached_105 : decode cX8_reached 105 = .ok (.iload 5, 2) := by decide +kernel
theorem dX8_reached_107 : decode cX8_reached 107 = .ok (.ior, 1) := by decide +kernel
theorem dX8_reached_108 : decode cX8_reached 108 = .ok (.istore_n 2, 1) := by decide +kernel
theorem dX8_reached_109 : decode cX8_reached 109 = .ok (.iinc 4 1, 3) := by decide +kernel
theorem dX8_reached_112 : decode cX8_reached 112 = .ok (.goto (-72), 3) := by decide +kernel
theorem dX8_reached_115 : decode cX8_reached 115 = .ok (.iinc 3 1, 3) := by decide +kernel
theorem dX8_reached_118 : decode cX8_reached 118 = .ok (.goto (-87), 3) := by decide +kernel
theorem dX8_reached_121 : decode cX8_reached 121 = .ok (.iload_n 2, 1) := by decide +kernel
theorem dX8_reached_122 : decode cX8_reached 122 = .ok (.ireturn, 1) := by decide +kernel
theorem wd_1139 : (Cond.code ⟨"WebCourt$Ways", "reached", "(I)I"⟩ prog_10_method_7_code (6 : Nat) (Option.some FieldType.int)) ∈ gtb := gtb_c5 70 (by decide +kernel) rfl
theorem wd_355 : (Cond.fieldLink "WebCourt$Ways" (33 : Nat) "WebCourt$Court" "row" "[I") ∈ gtb := gtb_c2 6 (by decide +kernel) rfl
theorem gf_RX8_33 {p : Program} {l : Launch} {e : Env} {R : Room} {s : State} {m : MethodId} {args : Array Value} {below : List Frame} {meth : Method} {c : Code} {H : Heap} {locs : List Loc} {cells slots : Nat} {Q : State → Prop} {cc : ByteArray} {pc nL : Nat} {ls : Array Slot} {rest : List Value} {D : va_G} {cy : Nat → ClassId} {A : Nat → Prop} {ws : va_W} {b : Nat} {fs : List Value} {v : Value} (C : Cx p s m args c cc nL RX8 D cy A) (hO : Wo D A ws s.heap H locs) (q0 : Nat) (he : ws[q0]? = some (b, .inr (2, fs))) (hv : fs[0]? = some v) (hdg : decode cc pc = .ok (.getfield 33, 3)) (kk : W p l e R s m args below meth c H locs cells slots Q (F0 m (pc + 3) ls (v :: rest))) : W p l e R s m args below meth c H locs cells slots Q (F0 m pc ls (.ref b :: rest)) := gF (k := 0) C hO q0 he rfl inFX2 (by decide) wd_355 rfl hv hdg kk
theorem wd_257 : (Cond.fieldLink "WebCourt$Ways" (54 : Nat) "WebCourt$Web" "lines" "I") ∈ gtb := gtb_c1 148 (by decide +kernel) rfl
theorem gf_RX8_54 {p : Program} {l : Launch} {e : Env} {R : Room} {s : State} {m : MethodId} {args : Array Value} {below : List Frame} {meth : Method} {c : Code} {H : Heap} {locs : List Loc} {cells slots : Nat} {Q : State → Prop} {cc : ByteArray} {pc nL : Nat} {ls : Array Slot} {rest : List Value} {D : va_G} {cy : Nat → ClassId} {A : Nat → Prop} {ws : va_W} {b : Nat} {fs : List Value} {v : Value} (C : Cx p s m args c cc nL RX8 D cy A) (hO : Wo D A ws s.heap H locs) (q0 : Nat) (he : ws[q0]? = some (b, .inr (9, fs))) (hv : fs[10]? = some v) (hdg : decode cc pc = .ok (.getfield 54, 3)) (kk : W p l e R s m args below meth c H locs cells slots Q (F0 m (pc + 3) ls (v :: rest))) : W p l e R s m args below meth c H locs cells slots Q (F0 m pc ls (.ref b :: rest)) := gF (k := 10) C hO q0 he rfl inFX9 (by decide) wd_257 rfl hv hdg kk
theorem wd_228 : (Cond.fieldLink "WebCourt$Ways" (57 : Nat) "WebCourt$Web" "lineFrom" "[I") ∈ gtb := gtb_c1 119 (by decide +kernel) rfl
theorem gf_RX8_57 {p : Program} {l : Launch} {e : Env} {R : Room} {s : State} {m : MethodId} {args : Array Value} {below : List Frame} {meth : Method} {c : Code} {H : Heap} {locs : List Loc} {cells slots : Nat} {Q : State → Prop} {cc : ByteArray} {pc nL : Nat} {ls : Array Slot} {rest : List Value} {D : va_G} {cy : Nat → ClassId} {A : Nat → Prop} {ws : va_W} {b : Nat} {fs : List Value} {v : Value} (C : Cx p s m args c cc nL RX8 D cy A) (hO : Wo D A ws s.heap H locs) (q0 : Nat) (he : ws[q0]? = some (b, .inr (9, fs))) (hv : fs[3]? = some v) (hdg : decode cc pc = .ok (.getfield 57, 3)) (kk : W p l e R s m args below meth c H locs cells slots Q (F0 m (pc + 3) ls (v :: rest))) : W p l e R s m args below meth c H locs cells slots Q (F0 m pc ls (.ref b :: rest)) := gF (k := 3) C hO q0 he rfl inFX9 (by decide) wd_228 rfl hv hdg kk
theorem wd_232 : (Cond.fieldLink "WebCourt$Ways" (60 : Nat) "WebCourt$Web" "lineTo" "[I") ∈ gtb := gtb_c1 123 (by decide +kernel) rfl
theorem gf_RX8_60 {p : Program} {l : Launch} {e : Env} {R : Room} {s : State} {m : MethodId} {args : Array Value} {below : List Frame} {meth : Method} {c : Code} {H : Heap} {locs : List Loc} {cells slots : Nat} {Q : State → Prop} {cc : ByteArray} {pc nL : Nat} {ls : Array Slot} {rest : List Value} {D : va_G} {cy : Nat → ClassId} {A : Nat → Prop} {ws : va_W} {b : Nat} {fs : List Value} {v : Value} (C : Cx p s m args c cc nL RX8 D cy A) (hO : Wo D A ws s.heap H locs) (q0 : Nat) (he : ws[q0]? = some (b, .inr (9, fs))) (hv : fs[4]? = some v) (hdg : decode cc pc = .ok (.getfield 60, 3)) (kk : W p l e R s m args below meth c H locs cells slots Q (F0 m (pc + 3) ls (v :: rest))) : W p l e R s m args below meth c H locs cells slots Q (F0 m pc ls (.ref b :: rest)) := gF (k := 4) C hO q0 he rfl inFX9 (by decide) wd_232 rfl hv hdg kk
set_option maxHeartbeats 4000000 in
set_option maxRecDepth 100000 in
theorem T_X8_reached (l : Launch) (D : va_G) (cy : Nat → ClassId) (a : Nat → Nat) (u : St) (hJ : CI a u) (x1 : Int32)  : Mi l D cy (cW cy a) yX8_reached (.code yX8_reached cX8_reached 6 (some .int)) (rmo 0 0) [.ref (a 32), .int x1] u (fun (r : Int32) (u' : St) => u' = u) := by
  refine Mi.of (own := RX8) rfl (by decide) (Nat.le_of_ble_eq_true rfl) ?_
  have hT : KT u u := KT.rf
  intro p e s m below meth c A Q ls C hret hO hl
  obtain ⟨hx, hb, hml, hown, ht, hK, hA⟩ := id C
  have hl : lv_has ls 6 [(0, .ref (a 32)), (1, .int x1)] := hl
  refine lv_aload_n hx hb dX8_reached_0 rfl (lv_at hl 0 rfl) ?_
  refine gf_RX8_15 (v := .ref (a 28)) C hO 32 cW_32 rfl dX8_reached_1 ?_
  refine gf_RX8_33 (v := .ref (a 29)) C hO 28 cW_28 rfl dX8_reached_4 ?_
  refine lv_iconst (v := 0) hx hb dX8_reached_7 (by decide) ?_
  refine aI C hO 29 cW_29 (i_in (X := 0) rfl (by omega) (by omega)) dX8_reached_8 ?_
  refine lv_topi (fun w1 ew1 => ?_)
  refine lv_iconst (v := (-1)) hx hb dX8_reached_9 (by decide) ?_
  refine cs_ne (tgt := 17) (X := (w1).toInt) (Y := (-1)) hx hb dX8_reached_10 (by decide) rfl rfl (fun c2 => ?_) (fun c2 => ?_)
  · refine lv_iconst (v := 1) hx hb dX8_reached_17 (by decide) ?_
    refine lv_aload_n hx hb dX8_reached_18 rfl (lv_at hl 0 rfl) ?_
    refine gf_RX8_15 (v := .ref (a 28)) C hO 32 cW_32 rfl dX8_reached_19 ?_
    refine gf_RX8_33 (v := .ref (a 29)) C hO 28 cW_28 rfl dX8_reached_22 ?_
    refine lv_iconst (v := 0) hx hb dX8_reached_25 (by decide) ?_
    refine aI C hO 29 cW_29 (i_in (X := 0) rfl (by omega) (by omega)) dX8_reached_26 ?_
    refine lv_topi (fun w3 ew3 => ?_)
    refine lv_ishl hx hb dX8_reached_27 ?_
    refine lv_topi (fun z4 ez4 => ?_)
    refine lv_istore_n (lv' := [(2, .int z4), (0, .ref (a 32)), (1, .int x1)]) hx hb dX8_reached_28 rfl hl (by decide) rfl (fun ls hl => ?_)
    refine lv_iconst (v := 0) hx hb dX8_reached_29 (by decide) ?_
    refine lv_istore_n (lv' := [(3, .int 0), (2, .int z4), (0, .ref (a 32)), (1, .int x1)]) hx hb dX8_reached_30 rfl hl (by decide) rfl (fun ls hl => ?_)
    have LP_31_k5 : ∀ (n : Nat) (H : Heap) (locs : List Loc) (ls : Array Slot) (i_k5 : Int32) (w2_k5 : Int32), Wo D A (cW cy a u) s.heap H locs → lv_has ls 6 [(3, .int i_k5), (2, .int w2_k5), (0, .ref (a 32)), (1, .int x1)] → 0 ≤ i_k5.toInt ∧ i_k5.toInt ≤ 8 → 8 - i_k5.toInt < (n : Int) → W p l e (rmo 0 0) s m [.ref (a 32), .int x1].toArray below meth c H locs 0 0 Q (F0 m 31 ls []) := by
      intro n
      induction n with
      | zero =>
        intro H locs ls i_k5 w2_k5 hO hl iv0_k5 hm_k5
        exact absurd hm_k5 (by omega)
      | succ n ih_k5 =>
        intro H locs ls i_k5 w2_k5 hO hl iv0_k5 hm_k5
        refine lv_iload_n hx hb dX8_reached_31 rfl (lv_at hl 0 rfl) ?_
        refine lv_bipush (v := 8) hx hb dX8_reached_32 (by decide) ?_
        refine cs_ge (tgt := 121) (X := (i_k5).toInt) (Y := 8) hx hb dX8_reached_34 (by decide) rfl rfl (fun c6 => ?_) (fun c6 => ?_)
        · refine lv_iload_n hx hb dX8_reached_121 rfl (lv_at hl 1 rfl) ?_
          refine hret _ _ _ _ _ _ dX8_reached_122 rfl ?_ hO
          exact rfl
        · refine lv_iconst (v := 0) hx hb dX8_reached_37 (by decide) ?_
          refine lv_istore (lv' := [(4, .int 0), (3, .int i_k5), (2, .int w2_k5), (0, .ref (a 32)), (1, .int x1)]) hx hb dX8_reached_38 hl (by decide) rfl (fun ls hl => ?_)
          have LP_40_k7 : ∀ (n : Nat) (H : Heap) (locs : List Loc) (ls : Array Slot) (i_k7 : Int32) (w2_k7 : Int32), Wo D A (cW cy a u) s.heap H locs → lv_has ls 6 [(4, .int i_k7), (3, .int i_k5), (2, .int w2_k7), (0, .ref (a 32)), (1, .int x1)] → 0 ≤ i_k7.toInt ∧ i_k7.toInt ≤ 14 → 14 - i_k7.toInt < (n : Int) → W p l e (rmo 0 0) s m [.ref (a 32), .int x1].toArray below meth c H locs 0 0 Q (F0 m 40 ls []) := by
            intro n
            induction n with
            | zero =>
              intro H locs ls i_k7 w2_k7 hO hl iv0_k7 hm_k7
              exact absurd hm_k7 (by omega)
            | succ n ih_k7 =>
              intro H locs ls i_k7 w2_k7 hO hl iv0_k7 hm_k7
              refine lv_iload hx hb dX8_reached_40 (lv_at hl 0 rfl) ?_
              refine lv_aload_n hx hb dX8_reached_42 rfl (lv_at hl 3 rfl) ?_
              refine gf_RX8_15 (v := .ref (a 28)) C hO 32 cW_32 rfl dX8_reached_43 ?_
              refine gf_RX8_44 (v := .ref (a 3)) C hO 28 cW_28 (congrArg (fun z : Nat => some (Value.ref z)) (CI_R0 hJ)) dX8_reached_46 ?_
              have g8 : 0 ≤ (fI u 3 10).toInt ∧ (fI u 3 10).toInt ≤ 14 := by have h := CI_3_10 hJ; exact h
              refine gf_RX8_54 (v := .int (fI u 3 10)) C hO 3 cW_3 rfl dX8_reached_49 ?_
              refine cs_ge (tgt := 115) (X := (i_k7).toInt) (Y := ((fI u 3 10)).toInt) hx hb dX8_reached_52 (by decide) rfl rfl (fun c9 => ?_) (fun c9 => ?_)
              · have e10 : ((i_k5 + 1)).toInt = (i_k5).toInt + 1 := i_add rfl rfl (by omega)
                refine lv_iinc (v := (i_k5 + 1)) (lv' := [(3, .int (i_k5 + 1)), (4, .int i_k7), (2, .int w2_k7), (0, .ref (a 32)), (1, .int x1)]) hx hb dX8_reached_115 hl (k := 1) rfl rfl (by decide) rfl (fun ls hl => ?_)
                refine lv_goto (tgt := 31) hx hb dX8_reached_118 (by decide) ?_
                exact ih_k5 _ _ _ ((i_k5 + 1)) (w2_k7) hO (lv_sub hl [0, 2, 3, 4] rfl) (by first | decide | omega) (by first | decide | omega)
              · refine lv_iconst (v := 1) hx hb dX8_reached_55 (by decide) ?_
                refine lv_aload_n hx hb dX8_reached_56 rfl (lv_at hl 3 rfl) ?_
                refine gf_RX8_15 (v := .ref (a 28)) C hO 32 cW_32 rfl dX8_reached_57 ?_
                refine gf_RX8_44 (v := .ref (a 3)) C hO 28 cW_28 (congrArg (fun z : Nat => some (Value.ref z)) (CI_R0 hJ)) dX8_reached_60 ?_
                refine gf_RX8_57 (v := .ref (a 7)) C hO 3 cW_3 rfl dX8_reached_63 ?_
                refine lv_iload hx hb dX8_reached_66 (lv_at hl 0 rfl) ?_
                refine aI C hO 7 cW_7 (i_in (X := (i_k7).toInt) rfl (by omega) (by omega)) dX8_reached_68 ?_
                refine lv_topi (fun w11 ew11 => ?_)
                refine lv_ishl hx hb dX8_reached_69 ?_
                refine lv_topi (fun z12 ez12 => ?_)
                refine lv_iconst (v := 1) hx hb dX8_reached_70 (by decide) ?_
                refine lv_aload_n hx hb dX8_reached_71 rfl (lv_at hl 3 rfl) ?_
                refine gf_RX8_15 (v := .ref (a 28)) C hO 32 cW_32 rfl dX8_reached_72 ?_
                refine gf_RX8_44 (v := .ref (a 3)) C hO 28 cW_28 (congrArg (fun z : Nat => some (Value.ref z)) (CI_R0 hJ)) dX8_reached_75 ?_
                refine gf_RX8_60 (v := .ref (a 8)) C hO 3 cW_3 rfl dX8_reached_78 ?_
                refine lv_iload hx hb dX8_reached_81 (lv_at hl 0 rfl) ?_
                refine aI C hO 8 cW_8 (i_in (X := (i_k7).toInt) rfl (by omega) (by omega)) dX8_reached_83 ?_
                refine lv_topi (fun w13 ew13 => ?_)
                refine lv_ishl hx hb dX8_reached_84 ?_
                refine lv_topi (fun z14 ez14 => ?_)
                refine lv_ior hx hb dX8_reached_85 ?_
                refine lv_topi (fun z15 ez15 => ?_)
                refine lv_istore (lv' := [(5, .int z15), (4, .int i_k7), (3, .int i_k5), (2, .int w2_k7), (0, .ref (a 32)), (1, .int x1)]) hx hb dX8_reached_86 hl (by decide) rfl (fun ls hl => ?_)
                refine lv_iload_n hx hb dX8_reached_88 rfl (lv_at hl 5 rfl) ?_
                refine lv_iload hx hb dX8_reached_89 (lv_at hl 1 rfl) ?_
                refine lv_ishr hx hb dX8_reached_91 ?_
                refine lv_topi (fun z16 ez16 => ?_)
                refine lv_iconst (v := 1) hx hb dX8_reached_92 (by decide) ?_
                refine lv_iand hx hb dX8_reached_93 ?_
                refine lv_topi (fun z17 ez17 => ?_)
                have g18 : 0 ≤ z17.toInt ∧ z17.toInt ≤ 1 := by rw [ez17]; exact i_andr rfl (by omega)
                refine bs_ne (tgt := 109) (X := (z17).toInt) hx hb dX8_reached_94 (by decide) rfl (fun c19 => ?_) (fun c19 => ?_)
                · have e20 : ((i_k7 + 1)).toInt = (i_k7).toInt + 1 := i_add rfl rfl (by omega)
                  refine lv_iinc (v := (i_k7 + 1)) (lv' := [(4, .int (i_k7 + 1)), (5, .int z15), (3, .int i_k5), (2, .int w2_k7), (0, .ref (a 32)), (1, .int x1)]) hx hb dX8_reached_109 hl (k := 1) rfl rfl (by decide) rfl (fun ls hl => ?_)
                  refine lv_goto (tgt := 40) hx hb dX8_reached_112 (by decide) ?_
                  exact ih_k7 _ _ _ ((i_k7 + 1)) (w2_k7) hO (lv_sub hl [0, 2, 3, 4, 5] rfl) (by first | decide | omega) (by first | decide | omega)
                · refine lv_iload_n hx hb dX8_reached_97 rfl (lv_at hl 3 rfl) ?_
                  refine lv_iload hx hb dX8_reached_98 (lv_at hl 0 rfl) ?_
                  refine lv_iand hx hb dX8_reached_100 ?_
                  refine lv_topi (fun z21 ez21 => ?_)
                  refine bs_eq (tgt := 109) (X := (z21).toInt) hx hb dX8_reached_101 (by decide) rfl (fun c22 => ?_) (fun c22 => ?_)
                  · have e23 : ((i_k7 + 1)).toInt = (i_k7).toInt + 1 := i_add rfl rfl (by omega)
                    refine lv_iinc (v := (i_k7 + 1)) (lv' := [(4, .int (i_k7 + 1)), (5, .int z15), (3, .int i_k5), (2, .int w2_k7), (0, .ref (a 32)), (1, .int x1)]) hx hb dX8_reached_109 hl (k := 1) rfl rfl (by decide) rfl (fun ls hl => ?_)
                    refine lv_goto (tgt := 40) hx hb dX8_reached_112 (by decide) ?_
                    exact ih_k7 _ _ _ ((i_k7 + 1)) (w2_k7) hO (lv_sub hl [0, 2, 3, 4, 5] rfl) (by first | decide | omega) (by first | decide | omega)
                  · refine lv_iload_n hx hb dX8_reached_104 rfl (lv_at hl 3 rfl) ?_
                    refine lv_iload hx hb dX8_reached_105 (lv_at hl 0 rfl) ?_
                    refine lv_ior hx hb dX8_reached_107 ?_
                    refine lv_topi (fun z24 ez24 => ?_)
                    refine lv_istore_n (lv' := [(2, .int z24), (5, .int z15), (4, .int i_k7), (3, .int i_k5), (0, .ref (a 32)), (1, .int x1)]) hx hb dX8_reached_108 rfl hl (by decide) rfl (fun ls hl => ?_)
                    have e25 : ((i_k7 + 1)).toInt = (i_k7).toInt + 1 := i_add rfl rfl (by omega)
                    refine lv_iinc (v := (i_k7 + 1)) (lv' := [(4, .int (i_k7 + 1)), (2, .int z24), (5, .int z15), (3, .int i_k5), (0, .ref (a 32)), (1, .int x1)]) hx hb dX8_reached_109 hl (k := 2) rfl rfl (by decide) rfl (fun ls hl => ?_)
                    refine lv_goto (tgt := 40) hx hb dX8_reached_112 (by decide) ?_
                    exact ih_k7 _ _ _ ((i_k7 + 1)) (z24) hO (lv_sub hl [0, 3, 1, 4, 5] rfl) (by first | decide | omega) (by first | decide | omega)
          exact LP_40_k7 4000 _ _ _ (0) (w2_k5) hO (lv_sub hl [0, 1, 2, 3, 4] rfl) (by first | decide | omega) (by first | decide | omega)
    exact LP_31_k5 4000 _ _ _ (0) (z4) hO (lv_sub hl [0, 1, 2, 3] rfl) (by first | decide | omega) (by first | decide | omega)
  · refine lv_iconst (v := 0) hx hb dX8_reached_13 (by decide) ?_
    refine lv_goto (tgt := 28) hx hb dX8_reached_14 (by decide) ?_
    refine lv_istore_n (lv' := [(2, .int 0), (0, .ref (a 32)), (1, .int x1)]) hx hb dX8_reached_28 rfl hl (by decide) rfl (fun ls hl => ?_)
    refine lv_iconst (v := 0) hx hb dX8_reached_29 (by decide) ?_
    refine lv_istore_n (lv' := [(3, .int 0), (2, .int 0), (0, .ref (a 32)), (1, .int x1)]) hx hb dX8_reached_30 rfl hl (by decide) rfl (fun ls hl => ?_)
    have LP_31_k26 : ∀ (n : Nat) (H : Heap) (locs : List Loc) (ls : Array Slot) (i_k26 : Int32) (w2_k26 : Int32), Wo D A (cW cy a u) s.heap H locs → lv_has ls 6 [(3, .int i_k26), (2, .int w2_k26), (0, .ref (a 32)), (1, .int x1)] → 0 ≤ i_k26.toInt ∧ i_k26.toInt ≤ 8 → 8 - i_k26.toInt < (n : Int) → W p l e (rmo 0 0) s m [.ref (a 32), .int x1].toArray below meth c H locs 0 0 Q (F0 m 31 ls []) := by
      intro n
      induction n with
      | zero =>
        intro H locs ls i_k26 w2_k26 hO hl iv0_k26 hm_k26
        exact absurd hm_k26 (by omega)
      | succ n ih_k26 =>
        intro H locs ls i_k26 w2_k26 hO hl iv0_k26 hm_k26
        refine lv_iload_n hx hb dX8_reached_31 rfl (lv_at hl 0 rfl) ?_
        refine lv_bipush (v := 8) hx hb dX8_reached_32 (by decide) ?_
        refine cs_ge (tgt := 121) (X := (i_k26).toInt) (Y := 8) hx hb dX8_reached_34 (by decide) rfl rfl (fun c27 => ?_) (fun c27 => ?_)
        · refine lv_iload_n hx hb dX8_reached_121 rfl (lv_at hl 1 rfl) ?_
          refine hret _ _ _ _ _ _ dX8_reached_122 rfl ?_ hO
          exact rfl
        · refine lv_iconst (v := 0) hx hb dX8_reached_37 (by decide) ?_
          refine lv_istore (lv' := [(4, .int 0), (3, .int i_k26), (2, .int w2_k26), (0, .ref (a 32)), (1, .int x1)]) hx hb dX8_reached_38 hl (by decide) rfl (fun ls hl => ?_)
          have LP_40_k28 : ∀ (n : Nat) (H : Heap) (locs : List Loc) (ls : Array Slot) (i_k28 : Int32) (w2_k28 : Int32), Wo D A (cW cy a u) s.heap H locs → lv_has ls 6 [(4, .int i_k28), (3, .int i_k26), (2, .int w2_k28), (0, .ref (a 32)), (1, .int x1)] → 0 ≤ i_k28.toInt ∧ i_k28.toInt ≤ 14 → 14 - i_k28.toInt < (n : Int) → W p l e (rmo 0 0) s m [.ref (a 32), .int x1].toArray below meth c H locs 0 0 Q (F0 m 40 ls []) := by
            intro n
            induction n with
            | zero =>
              intro H locs ls i_k28 w2_k28 hO hl iv0_k28 hm_k28
              exact absurd hm_k28 (by omega)
            | succ n ih_k28 =>
              intro H locs ls i_k28 w2_k28 hO hl iv0_k28 hm_k28
              refine lv_iload hx hb dX8_reached_40 (lv_at hl 0 rfl) ?_
              refine lv_aload_n hx hb dX8_reached_42 rfl (lv_at hl 3 rfl) ?_
              refine gf_RX8_15 (v := .ref (a 28)) C hO 32 cW_32 rfl dX8_reached_43 ?_
              refine gf_RX8_44 (v := .ref (a 3)) C hO 28 cW_28 (congrArg (fun z : Nat => some (Value.ref z)) (CI_R0 hJ)) dX8_reached_46 ?_
              have g29 : 0 ≤ (fI u 3 10).toInt ∧ (fI u 3 10).toInt ≤ 14 := by have h := CI_3_10 hJ; exact h
              refine gf_RX8_54 (v := .int (fI u 3 10)) C hO 3 cW_3 rfl dX8_reached_49 ?_
              refine cs_ge (tgt := 115) (X := (i_k28).toInt) (Y := ((fI u 3 10)).toInt) hx hb dX8_reached_52 (by decide) rfl rfl (fun c30 => ?_) (fun c30 => ?_)
              · have e31 : ((i_k26 + 1)).toInt = (i_k26).toInt + 1 := i_add rfl rfl (by omega)
                refine lv_iinc (v := (i_k26 + 1)) (lv' := [(3, .int (i_k26 + 1)), (4, .int i_k28), (2, .int w2_k28), (0, .ref (a 32)), (1, .int x1)]) hx hb dX8_reached_115 hl (k := 1) rfl rfl (by decide) rfl (fun ls hl => ?_)
                refine lv_goto (tgt := 31) hx hb dX8_reached_118 (by decide) ?_
                exact ih_k26 _ _ _ ((i_k26 + 1)) (w2_k28) hO (lv_sub hl [0, 2, 3, 4] rfl) (by first | decide | omega) (by first | decide | omega)
              · refine lv_iconst (v := 1) hx hb dX8_reached_55 (by decide) ?_
                refine lv_aload_n hx hb dX8_reached_56 rfl (lv_at hl 3 rfl) ?_
                refine gf_RX8_15 (v := .ref (a 28)) C hO 32 cW_32 rfl dX8_reached_57 ?_
                refine gf_RX8_44 (v := .ref (a 3)) C hO 28 cW_28 (congrArg (fun z : Nat => some (Value.ref z)) (CI_R0 hJ)) dX8_reached_60 ?_
                refine gf_RX8_57 (v := .ref (a 7)) C hO 3 cW_3 rfl dX8_reached_63 ?_
                refine lv_iload hx hb dX8_reached_66 (lv_at hl 0 rfl) ?_
                refine aI C hO 7 cW_7 (i_in (X := (i_k28).toInt) rfl (by omega) (by omega)) dX8_reached_68 ?_
                refine lv_topi (fun w32 ew32 => ?_)
                refine lv_ishl hx hb dX8_reached_69 ?_
                refine lv_topi (fun z33 ez33 => ?_)
                refine lv_iconst (v := 1) hx hb dX8_reached_70 (by decide) ?_
                refine lv_aload_n hx hb dX8_reached_71 rfl (lv_at hl 3 rfl) ?_
                refine gf_RX8_15 (v := .ref (a 28)) C hO 32 cW_32 rfl dX8_reached_72 ?_
                refine gf_RX8_44 (v := .ref (a 3)) C hO 28 cW_28 (congrArg (fun z : Nat => some (Value.ref z)) (CI_R0 hJ)) dX8_reached_75 ?_
                refine gf_RX8_60 (v := .ref (a 8)) C hO 3 cW_3 rfl dX8_reached_78 ?_
                refine lv_iload hx hb dX8_reached_81 (lv_at hl 0 rfl) ?_
                refine aI C hO 8 cW_8 (i_in (X := (i_k28).toInt) rfl (by omega) (by omega)) dX8_reached_83 ?_
                refine lv_topi (fun w34 ew34 => ?_)
                refine lv_ishl hx hb dX8_reached_84 ?_
                refine lv_topi (fun z35 ez35 => ?_)
                refine lv_ior hx hb dX8_reached_85 ?_
                refine lv_topi (fun z36 ez36 => ?_)
                refine lv_istore (lv' := [(5, .int z36), (4, .int i_k28), (3, .int i_k26), (2, .int w2_k28), (0, .ref (a 32)), (1, .int x1)]) hx hb dX8_reached_86 hl (by decide) rfl (fun ls hl => ?_)
                refine lv_iload_n hx hb dX8_reached_88 rfl (lv_at hl 5 rfl) ?_
                refine lv_iload hx hb dX8_reached_89 (lv_at hl 1 rfl) ?_
                refine lv_ishr hx hb dX8_reached_91 ?_
                refine lv_topi (fun z37 ez37 => ?_)
                refine lv_iconst (v := 1) hx hb dX8_reached_92 (by decide) ?_
                refine lv_iand hx hb dX8_reached_93 ?_
                refine lv_topi (fun z38 ez38 => ?_)
                have g39 : 0 ≤ z38.toInt ∧ z38.toInt ≤ 1 := by rw [ez38]; exact i_andr rfl (by omega)
                refine bs_ne (tgt := 109) (X := (z38).toInt) hx hb dX8_reached_94 (by decide) rfl (fun c40 => ?_) (fun c40 => ?_)
                · have e41 : ((i_k28 + 1)).toInt = (i_k28).toInt + 1 := i_add rfl rfl (by omega)
                  refine lv_iinc (v := (i_k28 + 1)) (lv' := [(4, .int (i_k28 + 1)), (5, .int z36), (3, .int i_k26), (2, .int w2_k28), (0, .ref (a 32)), (1, .int x1)]) hx hb dX8_reached_109 hl (k := 1) rfl rfl (by decide) rfl (fun ls hl => ?_)
                  refine lv_goto (tgt := 40) hx hb dX8_reached_112 (by decide) ?_
                  exact ih_k28 _ _ _ ((i_k28 + 1)) (w2_k28) hO (lv_sub hl [0, 2, 3, 4, 5] rfl) (by first | decide | omega) (by first | decide | omega)
                · refine lv_iload_n hx hb dX8_reached_97 rfl (lv_at hl 3 rfl) ?_
                  refine lv_iload hx hb dX8_reached_98 (lv_at hl 0 rfl) ?_
                  refine lv_iand hx hb dX8_reached_100 ?_
                  refine lv_topi (fun z42 ez42 => ?_)
                  refine bs_eq (tgt := 109) (X := (z42).toInt) hx hb dX8_reached_101 (by decide) rfl (fun c43 => ?_) (fun c43 => ?_)
                  · have e44 : ((i_k28 + 1)).toInt = (i_k28).toInt + 1 := i_add rfl rfl (by omega)
                    refine lv_iinc (v := (i_k28 + 1)) (lv' := [(4, .int (i_k28 + 1)), (5, .int z36), (3, .int i_k26), (2, .int w2_k28), (0, .ref (a 32)), (1, .int x1)]) hx hb dX8_reached_109 hl (k := 1) rfl rfl (by decide) rfl (fun ls hl => ?_)
                    refine lv_goto (tgt := 40) hx hb dX8_reached_112 (by decide) ?_
                    exact ih_k28 _ _ _ ((i_k28 + 1)) (w2_k28) hO (lv_sub hl [0, 2, 3, 4, 5] rfl) (by first | decide | omega) (by first | decide | omega)
                  · refine lv_iload_n hx hb dX8_reached_104 rfl (lv_at hl 3 rfl) ?_
                    refine lv_iload hx hb dX8_reached_105 (lv_at hl 0 rfl) ?_
                    refine lv_ior hx hb dX8_reached_107 ?_
                    refine lv_topi (fun z45 ez45 => ?_)
                    refine lv_istore_n (lv' := [(2, .int z45), (5, .int z36), (4, .int i_k28), (3, .int i_k26), (0, .ref (a 32)), (1, .int x1)]) hx hb dX8_reached_108 rfl hl (by decide) rfl (fun ls hl => ?_)
                    have e46 : ((i_k28 + 1)).toInt = (i_k28).toInt + 1 := i_add rfl rfl (by omega)
                    refine lv_iinc (v := (i_k28 + 1)) (lv' := [(4, .int (i_k28 + 1)), (2, .int z45), (5, .int z36), (3, .int i_k26), (0, .ref (a 32)), (1, .int x1)]) hx hb dX8_reached_109 hl (k := 2) rfl rfl (by decide) rfl (fun ls hl => ?_)
                    refine lv_goto (tgt := 40) hx hb dX8_reached_112 (by decide) ?_
                    exact ih_k28 _ _ _ ((i_k28 + 1)) (z45) hO (lv_sub hl [0, 3, 1, 4, 5] rfl) (by first | decide | omega) (by first | decide | omega)
          exact LP_40_k28 4000 _ _ _ (0) (w2_k26) hO (lv_sub hl [0, 1, 2, 3, 4] rfl) (by first | decide | omega) (by first | decide | omega)
    exact LP_31_k26 4000 _ _ _ (0) (0) hO (lv_sub hl [0, 1, 2, 3] rfl) (by first | decide | omega) (by first | decide | omega)
theorem dX8_knotsWithout_0 : decode cX8_knotsWithout 0 = .ok (.aload_n 0, 1) := by decide +kernel
theorem dX8_knotsWithout_1 : decode cX8_knotsWithout 1 = .ok (.aload_n 0, 1) := by decide +kernel
theorem dX8_knotsWithout_2 : decode cX8_knotsWithout 2 = .ok (.getfield 15, 3) := by decide +kernel
theorem dX8_knotsWithout_5 : decode cX8_knotsWithout 5 = .ok (.getfield 33, 3) := by decide +kernel
theorem dX8_knotsWithout_8 : decode cX8_knotsWithout 8 = .ok (.iconst 4, 1) := by decide +kernel
theorem dX8_knotsWithout_9 : decode cX8_knotsWithout 9 = .ok (.iaload, 1) := by decide +kernel
theorem dX8_knotsWithout_10 : decode cX8_knotsWithout 10 = .ok (.iconst 1, 1) := by decide +kernel
theorem dX8_knotsWithout_11 : decode cX8_knotsWithout 11 = .ok (.iload_n 1, 1) := by decide +kernel
theorem dX8_knotsWithout_12 : decode cX8_knotsWithout 12 = .ok (.ishl, 1) := by decide +kernel
theorem dX8_knotsWithout_13 : decode cX8_knotsWithout 13 = .ok (.ior, 1) := by decide +kernel
theorem dX8_knotsWithout_14 : decode cX8_knotsWithout 14 = .ok (.invokevirtual 63, 3) := by decide +kernel
theorem dX8_knotsWithout_17 : decode cX8_knotsWithout 17 = .ok (.invokestatic 67, 3) := by decide +kernel
theorem dX8_knotsWithout_20 : decode cX8_knotsWithout 20 = .ok (.ireturn, 1) := by decide +kernel
theorem wd_1135 : (Cond.code ⟨"WebCourt$Ways", "knotsWithout", "(I)I"⟩ prog_10_method_8_code (2 : Nat) (Option.some FieldType.int)) ∈ gtb := gtb_c5 66 (by decide +kernel) rfl
theorem wd_1136 : (Cond.methodLink "WebCourt$Ways" (63 : Nat) ⟨"WebCourt$Ways", "reached", "(I)I"⟩) ∈ gtb := gtb_c5 67 (by decide +kernel) rfl
theorem wd_1137 : (Cond.instanceMethod ⟨"WebCourt$Ways", "reached", "(I)I"⟩) ∈ gtb := gtb_c5 68 (by decide +kernel) rfl
theorem wd_1138 : (Cond.selects "WebCourt$Ways" ⟨"WebCourt$Ways", "reached", "(I)I"⟩ ⟨"WebCourt$Ways", "reached", "(I)I"⟩) ∈ gtb := gtb_c5 69 (by decide +kernel) rfl
theorem hd_yX8_reached : yX8_reached.cls = RX8 ∧ yX8_reached.cls ≠ "java/lang/invoke/MethodHandle" ∧ yX8_reached.cls ≠ "java/lang/invoke/VarHandle" ∧ (parseMethodDescriptor yX8_reached.desc).map (fun d => d.parameters.length) = some 1 := by decide +kernel
theorem wd_1140 : (Cond.methodLink "WebCourt$Ways" (67 : Nat) ⟨"java/lang/Integer", "bitCount", "(I)I"⟩) ∈ gtb := gtb_c5 71 (by decide +kernel) rfl
set_option maxHeartbeats 4000000 in
set_option maxRecDepth 100000 in
theorem T_X8_knotsWithout (l : Launch) (D : va_G) (cy : Nat → ClassId) (a : Nat → Nat) (u : St) (hJ : CI a u) (x1 : Int32)  : Mi l D cy (cW cy a) yX8_knotsWithout (.code yX8_knotsWithout cX8_knotsWithout 2 (some .int)) (rmo 1 25) [.ref (a 32), .int x1] u (fun (r : Int32) (u' : St) => u' = u) := by
  refine Mi.of (own := RX8) rfl (by decide) (Nat.le_of_ble_eq_true rfl) ?_
  have hT : KT u u := KT.rf
  intro p e s m below meth c A Q ls C hret hO hl
  obtain ⟨hx, hb, hml, hown, ht, hK, hA⟩ := id C
  have hl : lv_has ls 2 [(0, .ref (a 32)), (1, .int x1)] := hl
  refine lv_aload_n hx hb dX8_knotsWithout_0 rfl (lv_at hl 0 rfl) ?_
  refine lv_aload_n hx hb dX8_knotsWithout_1 rfl (lv_at hl 0 rfl) ?_
  refine gf_RX8_15 (v := .ref (a 28)) C hO 32 cW_32 rfl dX8_knotsWithout_2 ?_
  refine gf_RX8_33 (v := .ref (a 29)) C hO 28 cW_28 rfl dX8_knotsWithout_5 ?_
  refine lv_iconst (v := 4) hx hb dX8_knotsWithout_8 (by decide) ?_
  refine aI C hO 29 cW_29 (i_in (X := 4) rfl (by omega) (by omega)) dX8_knotsWithout_9 ?_
  refine lv_topi (fun w1 ew1 => ?_)
  refine lv_iconst (v := 1) hx hb dX8_knotsWithout_10 (by decide) ?_
  refine lv_iload_n hx hb dX8_knotsWithout_11 rfl (lv_at hl 1 rfl) ?_
  refine lv_ishl hx hb dX8_knotsWithout_12 ?_
  refine lv_topi (fun z2 ez2 => ?_)
  refine lv_ior hx hb dX8_knotsWithout_13 ?_
  refine lv_topi (fun z3 ez3 => ?_)
  refine cVi (w := cW cy a) (As := [.int z3]) (rest := []) C hO (T_X8_reached l D cy a _ (by exact hJ) (z3)) (cwV 1 ht (gV wd_1136 wd_1137 wd_1138 wd_117 wd_1139) rfl rfl rfl hd_yX8_reached ⟨Nat.le_of_ble_eq_true rfl, Nat.le_of_ble_eq_true rfl⟩) 32 rfl cW_32 rfl rfl hl.1 (Nat.le_of_ble_eq_true rfl) dX8_knotsWithout_14 rfl ⟨Nat.zero_le _, Nat.zero_le _⟩ (fun r4 u5 H locs hp6 hO => ?_)
  have hu5 := hp6
  rw [hu5] at hO
  refine cSi (w := cW cy a) (As := [.int r4]) (rest := []) C hO (T_J6_bitCount_0f7a4 l D cy a _ (by exact hJ) (r4)) (va_cwS 1 ht (gSS wd_1140 wd_870 wd_128 wd_871) rfl rfl rfl hd_yJ6_bitCount_0f7a4 ⟨Nat.le_of_ble_eq_true rfl, Nat.le_of_ble_eq_true rfl⟩)  rfl hl.1 (Nat.le_of_ble_eq_true rfl) dX8_knotsWithout_17 rfl ⟨Nat.zero_le _, Nat.zero_le _⟩ (fun r7 u8 H locs hp9 hO => ?_)
  have hu8 := hp9
  rw [hu8] at hO
  refine hret _ _ _ _ _ _ dX8_knotsWithout_20 rfl ?_ hO
  exact rfl
theorem dX8_bridgeLine_0 : decode cX8_bridgeLine 0 = .ok (.iconst (-1), 1) := by decide +kernel
theorem dX8_bridgeLine_1 : decode cX8_bridgeLine 1 = .ok (.istore_n 1, 1) := by decide +kernel
theorem dX8_bridgeLine_2 : decode cX8_bridgeLine 2 = .ok (.bipush 9, 2) := by decide +kernel
theorem dX8_bridgeLine_4 : decode cX8_bridgeLine 4 = .ok (.istore_n 2, 1) := by decide +kernel
theorem dX8_bridgeLine_5 : decode cX8_bridgeLine 5 = .ok (.iconst 0, 1) := by decide +kernel
theorem dX8_bridgeLine_6 : decode cX8_bridgeLine 6 = .ok (.istore_n 3, 1) := by decide +kernel
theorem dX8_bridgeLine_7 : decode cX8_bridgeLine 7 = .ok (.iload_n 3, 1) := by decide +kernel
theorem dX8_bridgeLine_8 : decode cX8_bridgeLine 8 = .ok (.aload_n 0, 1) := by decide +kernel
theorem dX8_bridgeLine_9 : decode cX8_bridgeLine 9 = .ok (.getfield 15, 3) := by decide +kernel
theorem dX8_bridgeLine_12 : decode cX8_bridgeLine 12 = .ok (.getfield 44, 3) := by decide +kernel
theorem dX8_bridgeLine_15 : decode cX8_bridgeLine 15 = .ok (.getfield 54, 3) := by decide +kernel
theorem dX8_bridgeLine_18 : decode cX8_bridgeLine 18 = .ok (.if_icmp .ge 46, 3) := by decide +kernel
theorem dX8_bridgeLine_21 : decode cX8_bridgeLine 21 = .ok (.aload_n 0, 1) := by decide +kernel
theorem dX8_bridgeLine_22 : decode cX8_bridgeLine 22 = .ok (.getfield 15, 3) := by decide +kernel
theorem dX8_bridgeLine_25 : decode cX8_bridgeLine 25 = .ok (.getfield 33, 3) := by decide +kernel
theorem dX8_bridgeLine_28 : decode cX8_bridgeLine 28 = .ok (.iconst 4, 1) := by decide +kernel
theorem dX8_bridgeLine_29 : decode cX8_bridgeLine 29 = .ok (.iaload, 1) := by decide +kernel
theorem dX8_bridgeLine_30 : decode cX8_bridgeLine 30 = .ok (.iload_n 3, 1) := by decide +kernel
theorem dX8_bridgeLine_31 : decode cX8_bridgeLine 31 = .ok (.ishr, 1) := by decide +kernel
theorem dX8_bridgeLine_32 : decode cX8_bridgeLine 32 = .ok (.iconst 1, 1) := by decide +kernel
theorem dX8_bridgeLine_33 : decode cX8_bridgeLine 33 = .ok (.iand, 1) := by decide +kernel
theorem dX8_bridgeLine_34 : decode cX8_bridgeLine 34 = .ok (.ifCond .eq 6, 3) := by decide +kernel
theorem dX8_bridgeLine_37 : decode cX8_bridgeLine 37 = .ok (.goto 21, 3) := by decide +kernel
theorem dX8_bridgeLine_40 : decode cX8_bridgeLine 40 = .ok (.aload_n 0, 1) := by decide +kernel
theorem dX8_bridgeLine_41 : decode cX8_bridgeLine 41 = .ok (.iload_n 3, 1) := by decide +kernel
theorem dX8_bridgeLine_42 : decode cX8_bridgeLine 42 = .ok (.invokevirtual 72, 3) := by decide +kernel
theorem dX8_bridgeLine_45 : decode cX8_bridgeLine 45 = .ok (.istore 4, 2) := by decide +kernel
theorem dX8_bridgeLine_47 : decode cX8_bridgeLine 47 = .ok (.iload 4, 2) := by decide +kernel
theorem dX8_bridgeLine_49 : decode cX8_bridgeLine 49 = .ok (.iload_n 2, 1) := by decide +kernel
theorem dX8_bridgeLine_50 : decode cX8_bridgeLine 50 = .ok (.if_icmp .ge 8, 3) := by decide +kernel
theorem dX8_bridgeLine_53 : decode cX8_bridgeLine 53 = .ok (.iload 4, 2) := by decide +kernel
theorem dX8_bridgeLine_55 : decode cX8_bridgeLine 55 = .ok (.istore_n 2, 1) := by decide +kernel
theorem dX8_bridgeLine_56 : decode cX8_bridgeLine 56 = .ok (.iload_n 3, 1) := by decide +kernel
theorem dX8_bridgeLine_57 : decode cX8_bridgeLine 57 = .ok (.istore_n 1, 1) := by decide +kernel
theorem dX8_bridgeLine_58 : decode cX8_bridgeLine 58 = .ok (.iinc 3 1, 3) := by decide +kernel
theorem dX8_bridgeLine_61 : decode cX8_bridgeLine 61 = .ok (.goto (-54), 3) := by decide +kernel
theorem dX8_bridgeLine_64 : decode cX8_bridgeLine 64 = .ok (.iload_n 1, 1) := by decide +kernel
theorem dX8_bridgeLine_65 : decode cX8_bridgeLine 65 = .ok (.ireturn, 1) := by decide +kernel
theorem wd_1131 : (Cond.code ⟨"WebCourt$Ways", "bridgeLine", "()I"⟩ prog_10_method_9_code (5 : Nat) (Option.some FieldType.int)) ∈ gtb := gtb_c5 62 (by decide +kernel) rfl
theorem wd_1132 : (Cond.methodLink "WebCourt$Ways" (72 : Nat) ⟨"WebCourt$Ways", "knotsWithout", "(I)I"⟩) ∈ gtb := gtb_c5 63 (by decide +kernel) rfl
theorem wd_1133 : (Cond.instanceMethod ⟨"WebCourt$Ways", "knotsWithout", "(I)I"⟩) ∈ gtb := gtb_c5 64 (by decide +kernel) rfl
theorem wd_1134 : (Cond.selects "WebCourt$Ways" ⟨"WebCourt$Ways", "knotsWithout", "(I)I"⟩ ⟨"WebCourt$Ways", "knotsWithout", "(I)I"⟩) ∈ gtb := gtb_c5 65 (by decide +kernel) rfl
theorem hd_yX8_knotsWithout : yX8_knotsWithout.cls = RX8 ∧ yX8_knotsWithout.cls ≠ "java/lang/invoke/MethodHandle" ∧ yX8_knotsWithout.cls ≠ "java/lang/invoke/VarHandle" ∧ (parseMethodDescriptor yX8_knotsWithout.desc).map (fun d => d.parameters.length) = some 1 := by decide +kernel
set_option maxHeartbeats 4000000 in
set_option maxRecDepth 100000 in
theorem T_X8_bridgeLine (l : Launch) (D : va_G) (cy : Nat → ClassId) (a : Nat → Nat) (u : St) (hJ : CI a u)   : Mi l D cy (cW cy a) yX8_bridgeLine (.code yX8_bridgeLine cX8_bridgeLine 5 (some .int)) (rmo 2 46) [.ref (a 32)] u (fun (r : Int32) (u' : St) => u' = u) := by
  refine Mi.of (own := RX8) rfl (by decide) (Nat.le_of_ble_eq_true rfl) ?_
  have hT : KT u u := KT.rf
  intro p e s m below meth c A Q ls C hret hO hl
  obtain ⟨hx, hb, hml, hown, ht, hK, hA⟩ := id C
  have hl : lv_has ls 5 [(0, .ref (a 32))] := hl
  refine lv_iconst (v := (-1)) hx hb dX8_bridgeLine_0 (by decide) ?_
  refine lv_istore_n (lv' := [(1, .int (-1)), (0, .ref (a 32))]) hx hb dX8_bridgeLine_1 rfl hl (by decide) rfl (fun ls hl => ?_)
  refine lv_bipush (v := 9) hx hb dX8_bridgeLine_2 (by decide) ?_
  refine lv_istore_n (lv' := [(2, .int 9), (1, .int (-1)), (0, .ref (a 32))]) hx hb dX8_bridgeLine_4 rfl hl (by decide) rfl (fun ls hl => ?_)
  refine lv_iconst (v := 0) hx hb dX8_bridgeLine_5 (by decide) ?_
  refine lv_istore_n (lv' := [(3, .int 0), (2, .int 9), (1, .int (-1)), (0, .ref (a 32))]) hx hb dX8_bridgeLine_6 rfl hl (by decide) rfl (fun ls hl => ?_)
  have LP_7_k1 : ∀ (n : Nat) (H : Heap) (locs : List Loc) (ls : Array Slot) (i_k1 : Int32) (w2_k1 : Int32) (w1_k1 : Int32), Wo D A (cW cy a u) s.heap H locs → lv_has ls 5 [(3, .int i_k1), (2, .int w2_k1), (1, .int w1_k1), (0, .ref (a 32))] → 0 ≤ i_k1.toInt ∧ i_k1.toInt ≤ 14 → 14 - i_k1.toInt < (n : Int) → W p l e (rmo 2 46) s m [.ref (a 32)].toArray below meth c H locs 0 0 Q (F0 m 7 ls []) := by
    intro n
    induction n with
    | zero =>
      intro H locs ls i_k1 w2_k1 w1_k1 hO hl iv0_k1 hm_k1
      exact absurd hm_k1 (by omega)
    | succ n ih_k1 =>
      intro H locs ls i_k1 w2_k1 w1_k1 hO hl iv0_k1 hm_k1
      refine lv_iload_n hx hb dX8_bridgeLine_7 rfl (lv_at hl 0 rfl) ?_
      refine lv_aload_n hx hb dX8_bridgeLine_8 rfl (lv_at hl 3 rfl) ?_
      refine gf_RX8_15 (v := .ref (a 28)) C hO 32 cW_32 rfl dX8_bridgeLine_9 ?_
      refine gf_RX8_44 (v := .ref (a 3)) C hO 28 cW_28 (congrArg (fun z : Nat => some (Value.ref z)) (CI_R0 hJ)) dX8_bridgeLine_12 ?_
      have g2 : 0 ≤ (fI u 3 10).toInt ∧ (fI u 3 10).toInt ≤ 14 := by have h := CI_3_10 hJ; exact h
      refine gf_RX8_54 (v := .int (fI u 3 10)) C hO 3 cW_3 rfl dX8_bridgeLine_15 ?_
      refine cs_ge (tgt := 64) (X := (i_k1).toInt) (Y := ((fI u 3 10)).toInt) hx hb dX8_bridgeLine_18 (by decide) rfl rfl (fun c3 => ?_) (fun c3 => ?_)
      · refine lv_iload_n hx hb dX8_bridgeLine_64 rfl (lv_at hl 2 rfl) ?_
        refine hret _ _ _ _ _ _ dX8_bridgeLine_65 rfl ?_ hO
        exact rfl
      · refine lv_aload_n hx hb dX8_bridgeLine_21 rfl (lv_at hl 3 rfl) ?_
        refine gf_RX8_15 (v := .ref (a 28)) C hO 32 cW_32 rfl dX8_bridgeLine_22 ?_
        refine gf_RX8_33 (v := .ref (a 29)) C hO 28 cW_28 rfl dX8_bridgeLine_25 ?_
        refine lv_iconst (v := 4) hx hb dX8_bridgeLine_28 (by decide) ?_
        refine aI C hO 29 cW_29 (i_in (X := 4) rfl (by omega) (by omega)) dX8_bridgeLine_29 ?_
        refine lv_topi (fun w4 ew4 => ?_)
        refine lv_iload_n hx hb dX8_bridgeLine_30 rfl (lv_at hl 0 rfl) ?_
        refine lv_ishr hx hb dX8_bridgeLine_31 ?_
        refine lv_topi (fun z5 ez5 => ?_)
        refine lv_iconst (v := 1) hx hb dX8_bridgeLine_32 (by decide) ?_
        refine lv_iand hx hb dX8_bridgeLine_33 ?_
        refine lv_topi (fun z6 ez6 => ?_)
        have g7 : 0 ≤ z6.toInt ∧ z6.toInt ≤ 1 := by rw [ez6]; exact i_andr rfl (by omega)
        refine bs_eq (tgt := 40) (X := (z6).toInt) hx hb dX8_bridgeLine_34 (by decide) rfl (fun c8 => ?_) (fun c8 => ?_)
        · refine lv_aload_n hx hb dX8_bridgeLine_40 rfl (lv_at hl 3 rfl) ?_
          refine lv_iload_n hx hb dX8_bridgeLine_41 rfl (lv_at hl 0 rfl) ?_
          refine cVi (w := cW cy a) (As := [.int i_k1]) (rest := []) C hO (T_X8_knotsWithout l D cy a _ (by exact hJ) (i_k1)) (cwV 1 ht (gV wd_1132 wd_1133 wd_1134 wd_117 wd_1135) rfl rfl rfl hd_yX8_knotsWithout ⟨Nat.le_of_ble_eq_true rfl, Nat.le_of_ble_eq_true rfl⟩) 32 rfl cW_32 rfl rfl hl.1 (Nat.le_of_ble_eq_true rfl) dX8_bridgeLine_42 rfl ⟨Nat.zero_le _, Nat.zero_le _⟩ (fun r9 u10 H locs hp11 hO => ?_)
          have hu10 := hp11
          rw [hu10] at hO
          refine lv_istore (lv' := [(4, .int r9), (3, .int i_k1), (2, .int w2_k1), (1, .int w1_k1), (0, .ref (a 32))]) hx hb dX8_bridgeLine_45 hl (by decide) rfl (fun ls hl => ?_)
          refine lv_iload hx hb dX8_bridgeLine_47 (lv_at hl 0 rfl) ?_
          refine lv_iload_n hx hb dX8_bridgeLine_49 rfl (lv_at hl 2 rfl) ?_
          refine cs_ge (tgt := 58) (X := (r9).toInt) (Y := (w2_k1).toInt) hx hb dX8_bridgeLine_50 (by decide) rfl rfl (fun c12 => ?_) (fun c12 => ?_)
          · have e13 : ((i_k1 + 1)).toInt = (i_k1).toInt + 1 := i_add rfl rfl (by omega)
            refine lv_iinc (v := (i_k1 + 1)) (lv' := [(3, .int (i_k1 + 1)), (4, .int r9), (2, .int w2_k1), (1, .int w1_k1), (0, .ref (a 32))]) hx hb dX8_bridgeLine_58 hl (k := 1) rfl rfl (by decide) rfl (fun ls hl => ?_)
            refine lv_goto (tgt := 7) hx hb dX8_bridgeLine_61 (by decide) ?_
            exact ih_k1 _ _ _ ((i_k1 + 1)) (w2_k1) (w1_k1) hO (lv_sub hl [0, 2, 3, 4] rfl) (by first | decide | omega) (by first | decide | omega)
          · refine lv_iload hx hb dX8_bridgeLine_53 (lv_at hl 0 rfl) ?_
            refine lv_istore_n (lv' := [(2, .int r9), (4, .int r9), (3, .int i_k1), (1, .int w1_k1), (0, .ref (a 32))]) hx hb dX8_bridgeLine_55 rfl hl (by decide) rfl (fun ls hl => ?_)
            refine lv_iload_n hx hb dX8_bridgeLine_56 rfl (lv_at hl 2 rfl) ?_
            refine lv_istore_n (lv' := [(1, .int i_k1), (2, .int r9), (4, .int r9), (3, .int i_k1), (0, .ref (a 32))]) hx hb dX8_bridgeLine_57 rfl hl (by decide) rfl (fun ls hl => ?_)
            have e14 : ((i_k1 + 1)).toInt = (i_k1).toInt + 1 := i_add rfl rfl (by omega)
            refine lv_iinc (v := (i_k1 + 1)) (lv' := [(3, .int (i_k1 + 1)), (1, .int i_k1), (2, .int r9), (4, .int r9), (0, .ref (a 32))]) hx hb dX8_bridgeLine_58 hl (k := 3) rfl rfl (by decide) rfl (fun ls hl => ?_)
            refine lv_goto (tgt := 7) hx hb dX8_bridgeLine_61 (by decide) ?_
            exact ih_k1 _ _ _ ((i_k1 + 1)) (r9) (i_k1) hO (lv_sub hl [0, 2, 1, 4] rfl) (by first | decide | omega) (by first | decide | omega)
        · refine lv_goto (tgt := 58) hx hb dX8_bridgeLine_37 (by decide) ?_
          have e15 : ((i_k1 + 1)).toInt = (i_k1).toInt + 1 := i_add rfl rfl (by omega)
          refine lv_iinc (v := (i_k1 + 1)) (lv' := [(3, .int (i_k1 + 1)), (2, .int w2_k1), (1, .int w1_k1), (0, .ref (a 32))]) hx hb dX8_bridgeLine_58 hl (k := 0) rfl rfl (by decide) rfl (fun ls hl => ?_)
          refine lv_goto (tgt := 7) hx hb dX8_bridgeLine_61 (by decide) ?_
          exact ih_k1 _ _ _ ((i_k1 + 1)) (w2_k1) (w1_k1) hO (lv_sub hl [0, 1, 2, 3] rfl) (by first | decide | omega) (by first | decide | omega)
  exact LP_7_k1 4000 _ _ _ (0) (9) ((-1)) hO (lv_sub hl [0, 1, 2, 3] rfl) (by first | decide | omega) (by first | decide | omega)
theorem dX8_walk_0 : decode cX8_walk 0 = .ok (.aload_n 0, 1) := by decide +kernel
theorem dX8_walk_1 : decode cX8_walk 1 = .ok (.getfield 15, 3) := by decide +kernel
theorem dX8_walk_4 : decode cX8_walk 4 = .ok (.getfield 33, 3) := by decide +kernel
theorem dX8_walk_7 : decode cX8_walk 7 = .ok (.iconst 0, 1) := by decide +kernel
theorem dX8_walk_8 : decode cX8_walk 8 = .ok (.iaload, 1) := by decide +kernel
theorem dX8_walk_9 : decode cX8_walk 9 = .ok (.istore_n 3, 1) := by decide +kernel
theorem dX8_walk_10 : decode cX8_walk 10 = .ok (.aload_n 0, 1) := by decide +kernel
theorem dX8_walk_11 : decode cX8_walk 11 = .ok (.iload_n 3, 1) := by decide +kernel
theorem dX8_walk_12 : decode cX8_walk 12 = .ok (.iload_n 1, 1) := by decide +kernel
theorem dX8_walk_13 : decode cX8_walk 13 = .ok (.invokevirtual 36, 3) := by decide +kernel
theorem dX8_walk_16 : decode cX8_walk 16 = .ok (.istore 4, 2) := by decide +kernel
theorem dX8_walk_18 : decode cX8_walk 18 = .ok (.iconst 0, 1) := by decide +kernel
theorem dX8_walk_19 : decode cX8_walk 19 = .ok (.istore 5, 2) := by decide +kernel
theorem dX8_walk_21 : decode cX8_walk 21 = .ok (.iload 5, 2) := by decide +kernel
theorem dX8_walk_23 : decode cX8_walk 23 = .ok (.aload_n 2, 1) := by decide +kernel
theorem dX8_walk_24 : decode cX8_walk 24 = .ok (.arraylength, 1) := by decide +kernel
theorem dX8_walk_25 : decode cX8_walk 25 = .ok (.if_icmp .ge 39, 3) := by decide +kernel
theorem dX8_walk_28 : decode cX8_walk 28 = .ok (.iload 4, 2) := by decide +kernel
theorem dX8_walk_30 : decode cX8_walk 30 = .ok (.ifCond .lt 34, 3) := by decide +kernel
theorem dX8_walk_33 : decode cX8_walk 33 = .ok (.iload 4, 2) := by decide +kernel
theorem dX8_walk_35 : decode cX8_walk 35 = .ok (.sipush 1000, 3) := by decide +kernel
theorem dX8_walk_38 : decode cX8_walk 38 = .ok (.if_icmp .ge 26, 3) := by decide +kernel
theorem dX8_walk_41 : decode cX8_walk 41 = .ok (.aload_n 2, 1) := by decide +kernel
theorem dX8_walk_42 : decode cX8_walk 42 = .ok (.iload 5, 2) := by decide +kernel
theorem dX8_walk_44 : decode cX8_walk 44 = .ok (.iload_n 3, 1) := by decide +kernel
theorem dX8_walk_45 : decode cX8_walk 45 = .ok (.iastore, 1) := by decide +kernel
theorem dX8_walk_46 : decode cX8_walk 46 = .ok (.iinc 5 1, 3) := by decide +kernel
theorem dX8_walk_49 : decode cX8_walk 49 = .ok (.iinc 4 (-1), 3) := by decide +kernel
theorem dX8_walk_52 : decode cX8_walk 52 = .ok (.aload_n 0, 1) := by decide +kernel
theorem dX8_walk_53 : decode cX8_walk 53 = .ok (.iload_n 3, 1) := by decide +kernel
theorem dX8_walk_54 : decode cX8_walk 54 = .ok (.iload_n 1, 1) := by decide +kernel
theorem dX8_walk_55 : decode cX8_walk 55 = .ok (.iload 4, 2) := by decide +kernel
theorem dX8_walk_57 : decode cX8_walk 57 = .ok (.invokevirtual 40, 3) := by decide +kernel
theorem dX8_walk_60 : decode cX8_walk 60 = .ok (.istore_n 3, 1) := by decide +kernel
theorem dX8_walk_61 : decode cX8_walk 61 = .ok (.goto (-40), 3) := by decide +kernel
theorem dX8_walk_64 : decode cX8_walk 64 = .ok (.iload 5, 2) := by decide +kernel
theorem dX8_walk_66 : decode cX8_walk 66 = .ok (.ireturn, 1) := by decide +kernel
theorem wd_1025 : (Cond.code ⟨"WebCourt$Ways", "walk", "(I[I)I"⟩ prog_10_method_5_code (6 : Nat) (Option.some FieldType.int)) ∈ gtb := gtb_c4 196 (by decide +kernel) rfl
theorem wd_1027 : (Cond.methodLink "WebCourt$Ways" (40 : Nat) ⟨"WebCourt$Ways", "stepNearer", "(III)I"⟩) ∈ gtb := gtb_c4 198 (by decide +kernel) rfl
theorem wd_1029 : (Cond.instanceMethod ⟨"WebCourt$Ways", "stepNearer", "(III)I"⟩) ∈ gtb := gtb_c4 200 (by decide +kernel) rfl
theorem wd_34 : (Cond.selects "WebCourt$Ways" ⟨"WebCourt$Ways", "stepNearer", "(III)I"⟩ ⟨"WebCourt$Ways", "stepNearer", "(III)I"⟩) ∈ gtb := gtb_p 34 (by decide +kernel) rfl
theorem hd_yX8_stepNearer : yX8_stepNearer.cls = RX8 ∧ yX8_stepNearer.cls ≠ "java/lang/invoke/MethodHandle" ∧ yX8_stepNearer.cls ≠ "java/lang/invoke/VarHandle" ∧ (parseMethodDescriptor yX8_stepNearer.desc).map (fun d => d.parameters.length) = some 3 := by decide +kernel
set_option maxHeartbeats 4000000 in
set_option maxRecDepth 100000 in
theorem T_X8_walk (l : Launch) (D : va_G) (cy : Nat → ClassId) (a : Nat → Nat) (u : St) (hJ : CI a u) (x1 : Int32)  : Mi l D cy (cW cy a) yX8_walk (.code yX8_walk cX8_walk 6 (some .int)) (rmo 3 68) [.ref (a 32), .int x1, .ref (a 46)] u (fun (r : Int32) (u' : St) => (0 ≤ r.toInt ∧ r.toInt ≤ 8) ∧ (CI a u') ∧ (KT u u')) := by
  refine Mi.of (own := RX8) rfl (by decide) (Nat.le_of_ble_eq_true rfl) ?_
  have hT : KT u u := KT.rf
  intro p e s m below meth c A Q ls C hret hO hl
  obtain ⟨hx, hb, hml, hown, ht, hK, hA⟩ := id C
  have hl : lv_has ls 6 [(0, .ref (a 32)), (1, .int x1), (2, .ref (a 46))] := hl
  refine lv_aload_n hx hb dX8_walk_0 rfl (lv_at hl 0 rfl) ?_
  refine gf_RX8_15 (v := .ref (a 28)) C hO 32 cW_32 rfl dX8_walk_1 ?_
  refine gf_RX8_33 (v := .ref (a 29)) C hO 28 cW_28 rfl dX8_walk_4 ?_
  refine lv_iconst (v := 0) hx hb dX8_walk_7 (by decide) ?_
  refine aI C hO 29 cW_29 (i_in (X := 0) rfl (by omega) (by omega)) dX8_walk_8 ?_
  refine lv_topi (fun w1 ew1 => ?_)
  refine lv_istore_n (lv' := [(3, .int w1), (0, .ref (a 32)), (1, .int x1), (2, .ref (a 46))]) hx hb dX8_walk_9 rfl hl (by decide) rfl (fun ls hl => ?_)
  refine lv_aload_n hx hb dX8_walk_10 rfl (lv_at hl 1 rfl) ?_
  refine lv_iload_n hx hb dX8_walk_11 rfl (lv_at hl 0 rfl) ?_
  refine lv_iload_n hx hb dX8_walk_12 rfl (lv_at hl 2 rfl) ?_
  refine cVi (w := cW cy a) (As := [.int w1, .int x1]) (rest := []) C hO (T_X8_hours l D cy a _ (by exact hJ) (w1) (x1)) (cwV 2 ht (gV wd_1026 wd_1018 wd_1019 wd_117 wd_1020) rfl rfl rfl hd_yX8_hours ⟨Nat.le_of_ble_eq_true rfl, Nat.le_of_ble_eq_true rfl⟩) 32 rfl cW_32 rfl rfl hl.1 (Nat.le_of_ble_eq_true rfl) dX8_walk_13 rfl ⟨Nat.zero_le _, Nat.zero_le _⟩ (fun r2 u3 H locs hp4 hO => ?_)
  have hu3 := hp4
  rw [hu3] at hO
  refine lv_istore (lv' := [(4, .int r2), (3, .int w1), (0, .ref (a 32)), (1, .int x1), (2, .ref (a 46))]) hx hb dX8_walk_16 hl (by decide) rfl (fun ls hl => ?_)
  refine lv_iconst (v := 0) hx hb dX8_walk_18 (by decide) ?_
  refine lv_istore (lv' := [(5, .int 0), (4, .int r2), (3, .int w1), (0, .ref (a 32)), (1, .int x1), (2, .ref (a 46))]) hx hb dX8_walk_19 hl (by decide) rfl (fun ls hl => ?_)
  have LP_21_k6 : ∀ (n : Nat) (u5 : St) (H : Heap) (locs : List Loc) (ls : Array Slot) (i_k6 : Int32) (w4_k6 : Int32) (w3_k6 : Int32), Wo D A (cW cy a u5) s.heap H locs → lv_has ls 6 [(5, .int i_k6), (4, .int w4_k6), (3, .int w3_k6), (0, .ref (a 32)), (1, .int x1), (2, .ref (a 46))] → CI a u5 → KT u u5 → 0 ≤ i_k6.toInt ∧ i_k6.toInt ≤ 8 → 8 - i_k6.toInt < (n : Int) → W p l e (rmo 3 68) s m [.ref (a 32), .int x1, .ref (a 46)].toArray below meth c H locs 0 0 Q (F0 m 21 ls []) := by
    intro n
    induction n with
    | zero =>
      intro u5 H locs ls i_k6 w4_k6 w3_k6 hO hl hJ hT iv0_k6 hm_k6
      exact absurd hm_k6 (by omega)
    | succ n ih_k6 =>
      intro u5 H locs ls i_k6 w4_k6 w3_k6 hO hl hJ hT iv0_k6 hm_k6
      refine lv_iload hx hb dX8_walk_21 (lv_at hl 0 rfl) ?_
      refine lv_aload_n hx hb dX8_walk_23 rfl (lv_at hl 5 rfl) ?_
      refine aLen (v := 8) C hO 46 1 cW_46 rfl rfl dX8_walk_24 ?_
      refine cs_ge (tgt := 64) (X := (i_k6).toInt) (Y := 8) hx hb dX8_walk_25 (by decide) rfl rfl (fun c7 => ?_) (fun c7 => ?_)
      · refine lv_iload hx hb dX8_walk_64 (lv_at hl 0 rfl) ?_
        refine hret _ _ _ _ _ _ dX8_walk_66 rfl ?_ hO
        exact ⟨(by first | decide | omega), hJ, hT⟩
      · refine lv_iload hx hb dX8_walk_28 (lv_at hl 1 rfl) ?_
        refine bs_lt (tgt := 64) (X := (w4_k6).toInt) hx hb dX8_walk_30 (by decide) rfl (fun c8 => ?_) (fun c8 => ?_)
        · refine lv_iload hx hb dX8_walk_64 (lv_at hl 0 rfl) ?_
          refine hret _ _ _ _ _ _ dX8_walk_66 rfl ?_ hO
          exact ⟨(by first | decide | omega), hJ, hT⟩
        · refine lv_iload hx hb dX8_walk_33 (lv_at hl 1 rfl) ?_
          refine lv_sipush (v := 1000) hx hb dX8_walk_35 (by decide) ?_
          refine cs_ge (tgt := 64) (X := (w4_k6).toInt) (Y := 1000) hx hb dX8_walk_38 (by decide) rfl rfl (fun c9 => ?_) (fun c9 => ?_)
          · refine lv_iload hx hb dX8_walk_64 (lv_at hl 0 rfl) ?_
            refine hret _ _ _ _ _ _ dX8_walk_66 rfl ?_ hO
            exact ⟨(by first | decide | omega), hJ, hT⟩
          · refine lv_aload_n hx hb dX8_walk_41 rfl (lv_at hl 5 rfl) ?_
            refine lv_iload hx hb dX8_walk_42 (lv_at hl 0 rfl) ?_
            refine lv_iload_n hx hb dX8_walk_44 rfl (lv_at hl 2 rfl) ?_
            refine aIs C hO 46 cW_46 (i_in (X := (i_k6).toInt) rfl (by omega) (by omega)) cW_s46 dX8_walk_45 (fun H locs hO => ?_)
            have hJ := CIsA hO hJ
            have e10 : ((i_k6 + 1)).toInt = (i_k6).toInt + 1 := i_add rfl rfl (by omega)
            refine lv_iinc (v := (i_k6 + 1)) (lv' := [(5, .int (i_k6 + 1)), (4, .int w4_k6), (3, .int w3_k6), (0, .ref (a 32)), (1, .int x1), (2, .ref (a 46))]) hx hb dX8_walk_46 hl (k := 0) rfl rfl (by decide) rfl (fun ls hl => ?_)
            have e11 : ((w4_k6 + (-1))).toInt = (w4_k6).toInt + (-1) := i_add rfl rfl (by omega)
            refine lv_iinc (v := (w4_k6 + (-1))) (lv' := [(4, .int (w4_k6 + (-1))), (5, .int (i_k6 + 1)), (3, .int w3_k6), (0, .ref (a 32)), (1, .int x1), (2, .ref (a 46))]) hx hb dX8_walk_49 hl (k := 1) rfl rfl (by decide) rfl (fun ls hl => ?_)
            refine lv_aload_n hx hb dX8_walk_52 rfl (lv_at hl 3 rfl) ?_
            refine lv_iload_n hx hb dX8_walk_53 rfl (lv_at hl 2 rfl) ?_
            refine lv_iload_n hx hb dX8_walk_54 rfl (lv_at hl 4 rfl) ?_
            refine lv_iload hx hb dX8_walk_55 (lv_at hl 0 rfl) ?_
            refine cVi (w := cW cy a) (As := [.int w3_k6, .int x1, .int (w4_k6 + (-1))]) (rest := []) C hO (T_X8_stepNearer l D cy a _ (by exact hJ) (w3_k6) (x1) ((w4_k6 + (-1)))) (cwV 3 ht (gV wd_1027 wd_1029 wd_34 wd_117 wd_1030) rfl rfl rfl hd_yX8_stepNearer ⟨Nat.le_of_ble_eq_true rfl, Nat.le_of_ble_eq_true rfl⟩) 32 rfl cW_32 rfl rfl hl.1 (Nat.le_of_ble_eq_true rfl) dX8_walk_57 rfl ⟨Nat.zero_le _, Nat.zero_le _⟩ (fun r12 u13 H locs hp14 hO => ?_)
            have hu13 := hp14
            rw [hu13] at hO
            refine lv_istore_n (lv' := [(3, .int r12), (4, .int (w4_k6 + (-1))), (5, .int (i_k6 + 1)), (0, .ref (a 32)), (1, .int x1), (2, .ref (a 46))]) hx hb dX8_walk_60 rfl hl (by decide) rfl (fun ls hl => ?_)
            refine lv_goto (tgt := 21) hx hb dX8_walk_61 (by decide) ?_
            exact ih_k6 _ _ _ _ ((i_k6 + 1)) ((w4_k6 + (-1))) (r12) hO (lv_sub hl [2, 1, 0, 3, 4, 5] rfl) (by exact hJ) (by exact hT) (by first | decide | omega) (by first | decide | omega)
  exact LP_21_k6 4000 _ _ _ _ (0) (r2) (w1) hO (lv_sub hl [0, 1, 2, 3, 4, 5] rfl) (by exact hJ) (by exact hT) (by first | decide | omega) (by first | decide | omega)
theorem dX6_hoursBy_0 : decode cX6_hoursBy 0 = .ok (.aload_n 0, 1) := by decide +kernel
theorem dX6_hoursBy_1 : decode cX6_hoursBy 1 = .ok (.getfield 15, 3) := by decide +kernel
theorem dX6_hoursBy_4 : decode cX6_hoursBy 4 = .ok (.getfield 53, 3) := by decide +kernel
theorem dX6_hoursBy_7 : decode cX6_hoursBy 7 = .ok (.iconst 0, 1) := by decide +kernel
theorem dX6_hoursBy_8 : decode cX6_hoursBy 8 = .ok (.iaload, 1) := by decide +kernel
theorem dX6_hoursBy_9 : decode cX6_hoursBy 9 = .ok (.istore 4, 2) := by decide +kernel
theorem dX6_hoursBy_11 : decode cX6_hoursBy 11 = .ok (.aload_n 0, 1) := by decide +kernel
theorem dX6_hoursBy_12 : decode cX6_hoursBy 12 = .ok (.getfield 15, 3) := by decide +kernel
theorem dX6_hoursBy_15 : decode cX6_hoursBy 15 = .ok (.getfield 53, 3) := by decide +kernel
theorem dX6_hoursBy_18 : decode cX6_hoursBy 18 = .ok (.iconst 2, 1) := by decide +kernel
theorem dX6_hoursBy_19 : decode cX6_hoursBy 19 = .ok (.iaload, 1) := by decide +kernel
theorem dX6_hoursBy_20 : decode cX6_hoursBy 20 = .ok (.istore 5, 2) := by decide +kernel
theorem dX6_hoursBy_22 : decode cX6_hoursBy 22 = .ok (.iload_n 2, 1) := by decide +kernel
theorem dX6_hoursBy_23 : decode cX6_hoursBy 23 = .ok (.iconst (-1), 1) := by decide +kernel
theorem dX6_hoursBy_24 : decode cX6_hoursBy 24 = .ok (.if_icmp .eq 20, 3) := by decide +kernel
theorem dX6_hoursBy_27 : decode cX6_hoursBy 27 = .ok (.aload_n 0, 1) := by decide +kernel
theorem dX6_hoursBy_28 : decode cX6_hoursBy 28 = .ok (.getfield 15, 3) := by decide +kernel
theorem dX6_hoursBy_31 : decode cX6_hoursBy 31 = .ok (.getfield 28, 3) := by decide +kernel
theorem dX6_hoursBy_34 : decode cX6_hoursBy 34 = .ok (.getfield 56, 3) := by decide +kernel
theorem dX6_hoursBy_37 : decode cX6_hoursBy 37 = .ok (.iload_n 2, 1) := by decide +kernel
theorem dX6_hoursBy_38 : decode cX6_hoursBy 38 = .ok (.iaload, 1) := by decide +kernel
theorem dX6_hoursBy_39 : decode cX6_hoursBy 39 = .ok (.istore 4, 2) := by decide +kernel
theorem dX6_hoursBy_41 : decode cX6_hoursBy 41 = .ok (.iconst 1, 1) := by decide +kernel
theorem dX6_hoursBy_42 : decode cX6_hoursBy 42 = .ok (.istore 5, 2) := by decide +kernel
theorem dX6_hoursBy_44 : decode cX6_hoursBy 44 = .ok (.iload 5, 2) := by decide +kernel
theorem dX6_hoursBy_46 : decode cX6_hoursBy 46 = .ok (.aload_n 0, 1) := by decide +kernel
theorem dX6_hoursBy_47 : decode cX6_hoursBy 47 = .ok (.getfield 19, 3) := by decide +kernel
theorem dX6_hoursBy_50 : decode cX6_hoursBy 50 = .ok (.iload 4, 2) := by decide +kernel
theorem dX6_hoursBy_52 : decode cX6_hoursBy 52 = .ok (.aload_n 0, 1) := by decide +kernel
theorem dX6_hoursBy_53 : decode cX6_hoursBy 53 = .ok (.getfield 15, 3) := by decide +kernel
theorem dX6_hoursBy_56 : decode cX6_hoursBy 56 = .ok (.getfield 28, 3) := by decide +kernel
theorem dX6_hoursBy_59 : decode cX6_hoursBy 59 = .ok (.getfield 56, 3) := by decide +kernel
theorem dX6_hoursBy_62 : decode cX6_hoursBy 62 = .ok (.iload_n 3, 1) := by decide +kernel
theorem dX6_hoursBy_63 : decode cX6_hoursBy 63 = .ok (.iaload, 1) := by decide +kernel
theorem dX6_hoursBy_64 : decode cX6_hoursBy 64 = .ok (.invokevirtual 59, 3) := by decide +kernel
theorem dX6_hoursBy_67 : decode cX6_hoursBy 67 = .ok (.invokestatic 62, 3) := by decide +kernel
theorem dX6_hoursBy_70 : decode cX6_hoursBy 70 = .ok (.istore 6, 2) := by decide +kernel
theorem dX6_hoursBy_72 : decode cX6_hoursBy 72 = .ok (.sipush 1000, 3) := by decide +kernel
theorem dX6_hoursBy_75 : decode cX6_hoursBy 75 = .ok (.iload 6, 2) := by decide +kernel
theorem dX6_hoursBy_77 : decode cX6_hoursBy 77 = .ok (.aload_n 0, 1) := by decide +kernel
theorem dX6_hoursBy_78 : decode cX6_hoursBy 78 = .ok (.getfield 11, 3) := by decide +kernel
theorem dX6_hoursBy_81 : decode cX6_hoursBy 81 = .ok (.iload_n 1, 1) := by decide +kernel
theorem dX6_hoursBy_82 : decode cX6_hoursBy 82 = .ok (.iconst 1, 1) := by decide +kernel
theorem dX6_hoursBy_83 : decode cX6_hoursBy 83 = .ok (.iload_n 3, 1) := by decide +kernel
theorem dX6_hoursBy_84 : decode cX6_hoursBy 84 = .ok (.ishl, 1) := by decide +kernel
theorem dX6_hoursBy_85 : decode cX6_hoursBy 85 = .ok (.iconst (-1), 1) := by decide +kernel
theorem dX6_hoursBy_86 : decode cX6_hoursBy 86 = .ok (.ixor, 1) := by decide +kernel
theorem dX6_hoursBy_87 : decode cX6_hoursBy 87 = .ok (.iand, 1) := by decide +kernel
theorem dX6_hoursBy_88 : decode cX6_hoursBy 88 = .ok (.bipush 6, 2) := by decide +kernel
theorem dX6_hoursBy_90 : decode cX6_hoursBy 90 = .ok (.imul, 1) := by decide +kernel
theorem dX6_hoursBy_91 : decode cX6_hoursBy 91 = .ok (.iload_n 3, 1) := by decide +kernel
theorem dX6_hoursBy_92 : decode cX6_hoursBy 92 = .ok (.iadd, 1) := by decide +kernel
theorem dX6_hoursBy_93 : decode cX6_hoursBy 93 = .ok (.iaload, 1) := by decide +kernel
theorem dX6_hoursBy_94 : decode cX6_hoursBy 94 = .ok (.iadd, 1) := by decide +kernel
theorem dX6_hoursBy_95 : decode cX6_hoursBy 95 = .ok (.invokestatic 48, 3) := by decide +kernel
theorem dX6_hoursBy_98 : decode cX6_hoursBy 98 = .ok (.ireturn, 1) := by decide +kernel
theorem wd_1047 : (Cond.code ⟨"WebCourt$Rounds", "hoursBy", "(III)I"⟩ prog_8_method_5_code (7 : Nat) (Option.some FieldType.int)) ∈ gtb := gtb_c4 218 (by decide +kernel) rfl
theorem wd_410 : (Cond.fieldLink "WebCourt$Rounds" (15 : Nat) "WebCourt$Rounds" "court" "LWebCourt$Court;") ∈ gtb := gtb_c2 61 (by decide +kernel) rfl
theorem wd_413 : (Cond.laysFinal "WebCourt$Rounds" "WebCourt$Rounds" "court" "LWebCourt$Court;") ∈ gtb := gtb_c2 64 (by decide +kernel) rfl
theorem wd_415 : (Cond.laysFinal "WebCourt$Rounds" "WebCourt$Rounds" "ways" "LWebCourt$Ways;") ∈ gtb := gtb_c2 66 (by decide +kernel) rfl
theorem wd_417 : (Cond.laysFinal "WebCourt$Rounds" "WebCourt$Rounds" "behind" "[I") ∈ gtb := gtb_c2 68 (by decide +kernel) rfl
theorem inFX6 : ∀ w ∈ u_ws RX6 TX6 3, w ∈ gtb := by
  show ∀ w ∈ [u_lay RX6 TX6 0, u_lay RX6 TX6 1, u_lay RX6 TX6 2], w ∈ gtb
  exact List.forall_mem_cons.mpr ⟨wd_413, List.forall_mem_cons.mpr ⟨wd_415, List.forall_mem_cons.mpr ⟨wd_417, fun _ h => absurd h List.not_mem_nil⟩⟩⟩
theorem gf_RX6_15 {p : Program} {l : Launch} {e : Env} {R : Room} {s : State} {m : MethodId} {args : Array Value} {below : List Frame} {meth : Method} {c : Code} {H : Heap} {locs : List Loc} {cells slots : Nat} {Q : State → Prop} {cc : ByteArray} {pc nL : Nat} {ls : Array Slot} {rest : List Value} {D : va_G} {cy : Nat → ClassId} {A : Nat → Prop} {ws : va_W} {b : Nat} {fs : List Value} {v : Value} (C : Cx p s m args c cc nL RX6 D cy A) (hO : Wo D A ws s.heap H locs) (q0 : Nat) (he : ws[q0]? = some (b, .inr (6, fs))) (hv : fs[0]? = some v) (hdg : decode cc pc = .ok (.getfield 15, 3)) (kk : W p l e R s m args below meth c H locs cells slots Q (F0 m (pc + 3) ls (v :: rest))) : W p l e R s m args below meth c H locs cells slots Q (F0 m pc ls (.ref b :: rest)) := gF (k := 0) C hO q0 he rfl inFX6 (by decide) wd_410 rfl hv hdg kk
theorem wd_356 : (Cond.fieldLink "WebCourt$Rounds" (53 : Nat) "WebCourt$Court" "row" "[I") ∈ gtb := gtb_c2 7 (by decide +kernel) rfl
theorem gf_RX6_53 {p : Program} {l : Launch} {e : Env} {R : Room} {s : State} {m : MethodId} {args : Array Value} {below : List Frame} {meth : Method} {c : Code} {H : Heap} {locs : List Loc} {cells slots : Nat} {Q : State → Prop} {cc : ByteArray} {pc nL : Nat} {ls : Array Slot} {rest : List Value} {D : va_G} {cy : Nat → ClassId} {A : Nat → Prop} {ws : va_W} {b : Nat} {fs : List Value} {v : Value} (C : Cx p s m args c cc nL RX6 D cy A) (hO : Wo D A ws s.heap H locs) (q0 : Nat) (he : ws[q0]? = some (b, .inr (2, fs))) (hv : fs[0]? = some v) (hdg : decode cc pc = .ok (.getfield 53, 3)) (kk : W p l e R s m args below meth c H locs cells slots Q (F0 m (pc + 3) ls (v :: rest))) : W p l e R s m args below meth c H locs cells slots Q (F0 m pc ls (.ref b :: rest)) := gF (k := 0) C hO q0 he rfl inFX2 (by decide) wd_356 rfl hv hdg kk
theorem wd_411 : (Cond.fieldLink "WebCourt$Rounds" (19 : Nat) "WebCourt$Rounds" "ways" "LWebCourt$Ways;") ∈ gtb := gtb_c2 62 (by decide +kernel) rfl
theorem gf_RX6_19 {p : Program} {l : Launch} {e : Env} {R : Room} {s : State} {m : MethodId} {args : Array Value} {below : List Frame} {meth : Method} {c : Code} {H : Heap} {locs : List Loc} {cells slots : Nat} {Q : State → Prop} {cc : ByteArray} {pc nL : Nat} {ls : Array Slot} {rest : List Value} {D : va_G} {cy : Nat → ClassId} {A : Nat → Prop} {ws : va_W} {b : Nat} {fs : List Value} {v : Value} (C : Cx p s m args c cc nL RX6 D cy A) (hO : Wo D A ws s.heap H locs) (q0 : Nat) (he : ws[q0]? = some (b, .inr (6, fs))) (hv : fs[1]? = some v) (hdg : decode cc pc = .ok (.getfield 19, 3)) (kk : W p l e R s m args below meth c H locs cells slots Q (F0 m (pc + 3) ls (v :: rest))) : W p l e R s m args below meth c H locs cells slots Q (F0 m pc ls (.ref b :: rest)) := gF (k := 1) C hO q0 he rfl inFX6 (by decide) wd_411 rfl hv hdg kk
theorem wd_359 : (Cond.fieldLink "WebCourt$Rounds" (28 : Nat) "WebCourt$Court" "web" "LWebCourt$Web;") ∈ gtb := gtb_c2 10 (by decide +kernel) rfl
theorem gf_RX6_28 {p : Program} {l : Launch} {e : Env} {R : Room} {s : State} {m : MethodId} {args : Array Value} {below : List Frame} {meth : Method} {c : Code} {H : Heap} {locs : List Loc} {cells slots : Nat} {Q : State → Prop} {cc : ByteArray} {pc nL : Nat} {ls : Array Slot} {rest : List Value} {D : va_G} {cy : Nat → ClassId} {A : Nat → Prop} {ws : va_W} {b : Nat} {fs : List Value} {v : Value} (C : Cx p s m args c cc nL RX6 D cy A) (hO : Wo D A ws s.heap H locs) (q0 : Nat) (he : ws[q0]? = some (b, .inr (2, fs))) (hv : fs[1]? = some v) (hdg : decode cc pc = .ok (.getfield 28, 3)) (kk : W p l e R s m args below meth c H locs cells slots Q (F0 m (pc + 3) ls (v :: rest))) : W p l e R s m args below meth c H locs cells slots Q (F0 m pc ls (.ref b :: rest)) := gF (k := 1) C hO q0 he rfl inFX2 (by decide) wd_359 rfl hv hdg kk
theorem wd_239 : (Cond.fieldLink "WebCourt$Rounds" (56 : Nat) "WebCourt$Web" "caseKnots" "[I") ∈ gtb := gtb_c1 130 (by decide +kernel) rfl
theorem gf_RX6_56 {p : Program} {l : Launch} {e : Env} {R : Room} {s : State} {m : MethodId} {args : Array Value} {below : List Frame} {meth : Method} {c : Code} {H : Heap} {locs : List Loc} {cells slots : Nat} {Q : State → Prop} {cc : ByteArray} {pc nL : Nat} {ls : Array Slot} {rest : List Value} {D : va_G} {cy : Nat → ClassId} {A : Nat → Prop} {ws : va_W} {b : Nat} {fs : List Value} {v : Value} (C : Cx p s m args c cc nL RX6 D cy A) (hO : Wo D A ws s.heap H locs) (q0 : Nat) (he : ws[q0]? = some (b, .inr (9, fs))) (hv : fs[6]? = some v) (hdg : decode cc pc = .ok (.getfield 56, 3)) (kk : W p l e R s m args below meth c H locs cells slots Q (F0 m (pc + 3) ls (v :: rest))) : W p l e R s m args below meth c H locs cells slots Q (F0 m pc ls (.ref b :: rest)) := gF (k := 6) C hO q0 he rfl inFX9 (by decide) wd_239 rfl hv hdg kk
theorem wd_1048 : (Cond.methodLink "WebCourt$Rounds" (59 : Nat) ⟨"WebCourt$Ways", "hours", "(II)I"⟩) ∈ gtb := gtb_c4 219 (by decide +kernel) rfl
theorem wd_1049 : (Cond.methodLink "WebCourt$Rounds" (62 : Nat) ⟨"java/lang/Math", "max", "(II)I"⟩) ∈ gtb := gtb_c4 220 (by decide +kernel) rfl
theorem wd_636 : (Cond.static ⟨"java/lang/Math", "max", "(II)I"⟩) ∈ gtb := gtb_c3 47 (by decide +kernel) rfl
theorem wd_637 : (Cond.code ⟨"java/lang/Math", "max", "(II)I"⟩ prog_16_method_65_code (2 : Nat) (Option.some FieldType.int)) ∈ gtb := gtb_c3 48 (by decide +kernel) rfl
theorem wd_412 : (Cond.fieldLink "WebCourt$Rounds" (11 : Nat) "WebCourt$Rounds" "behind" "[I") ∈ gtb := gtb_c2 63 (by decide +kernel) rfl
theorem gf_RX6_11 {p : Program} {l : Launch} {e : Env} {R : Room} {s : State} {m : MethodId} {args : Array Value} {below : List Frame} {meth : Method} {c : Code} {H : Heap} {locs : List Loc} {cells slots : Nat} {Q : State → Prop} {cc : ByteArray} {pc nL : Nat} {ls : Array Slot} {rest : List Value} {D : va_G} {cy : Nat → ClassId} {A : Nat → Prop} {ws : va_W} {b : Nat} {fs : List Value} {v : Value} (C : Cx p s m args c cc nL RX6 D cy A) (hO : Wo D A ws s.heap H locs) (q0 : Nat) (he : ws[q0]? = some (b, .inr (6, fs))) (hv : fs[2]? = some v) (hdg : decode cc pc = .ok (.getfield 11, 3)) (kk : W p l e R s m args below meth c H locs cells slots Q (F0 m (pc + 3) ls (v :: rest))) : W p l e R s m args below meth c H locs cells slots Q (F0 m pc ls (.ref b :: rest)) := gF (k := 2) C hO q0 he rfl inFX6 (by decide) wd_412 rfl hv hdg kk
theorem wd_1050 : (Cond.methodLink "WebCourt$Rounds" (48 : Nat) ⟨"java/lang/Math", "min", "(II)I"⟩) ∈ gtb := gtb_c4 221 (by decide +kernel) rfl
set_option maxHeartbeats 4000000 in
set_option maxRecDepth 100000 in
theorem T_X6_hoursBy (l : Launch) (D : va_G) (cy : Nat → ClassId) (a : Nat → Nat) (u : St) (hJ : CI a u) (x1 : Int32) (x2 : Int32) (x3 : Int32) (hx_x1 : 0 ≤ x1.toInt ∧ x1.toInt ≤ 63) (hx_x2 : -1 ≤ x2.toInt ∧ x2.toInt ≤ 5) (hx_x3 : 0 ≤ x3.toInt ∧ x3.toInt ≤ 5) : Mi l D cy (cW cy a) yX6_hoursBy (.code yX6_hoursBy cX6_hoursBy 7 (some .int)) (rmo 2 43) [.ref (a 34), .int x1, .int x2, .int x3] u (fun (r : Int32) (u' : St) => u' = u) := by
  refine Mi.of (own := RX6) rfl (by decide) (Nat.le_of_ble_eq_true rfl) ?_
  have hT : KT u u := KT.rf
  intro p e s m below meth c A Q ls C hret hO hl
  obtain ⟨hx, hb, hml, hown, ht, hK, hA⟩ := id C
  have hl : lv_has ls 7 [(0, .ref (a 34)), (1, .int x1), (2, .int x2), (3, .int x3)] := hl
  refine lv_aload_n hx hb dX6_hoursBy_0 rfl (lv_at hl 0 rfl) ?_
  refine gf_RX6_15 (v := .ref (a 28)) C hO 34 cW_34 rfl dX6_hoursBy_1 ?_
  refine gf_RX6_53 (v := .ref (a 29)) C hO 28 cW_28 rfl dX6_hoursBy_4 ?_
  refine lv_iconst (v := 0) hx hb dX6_hoursBy_7 (by decide) ?_
  refine aI C hO 29 cW_29 (i_in (X := 0) rfl (by omega) (by omega)) dX6_hoursBy_8 ?_
  refine lv_topi (fun w1 ew1 => ?_)
  refine lv_istore (lv' := [(4, .int w1), (0, .ref (a 34)), (1, .int x1), (2, .int x2), (3, .int x3)]) hx hb dX6_hoursBy_9 hl (by decide) rfl (fun ls hl => ?_)
  refine lv_aload_n hx hb dX6_hoursBy_11 rfl (lv_at hl 1 rfl) ?_
  refine gf_RX6_15 (v := .ref (a 28)) C hO 34 cW_34 rfl dX6_hoursBy_12 ?_
  refine gf_RX6_53 (v := .ref (a 29)) C hO 28 cW_28 rfl dX6_hoursBy_15 ?_
  refine lv_iconst (v := 2) hx hb dX6_hoursBy_18 (by decide) ?_
  refine aI C hO 29 cW_29 (i_in (X := 2) rfl (by omega) (by omega)) dX6_hoursBy_19 ?_
  refine lv_topi (fun w2 ew2 => ?_)
  refine lv_istore (lv' := [(5, .int w2), (4, .int w1), (0, .ref (a 34)), (1, .int x1), (2, .int x2), (3, .int x3)]) hx hb dX6_hoursBy_20 hl (by decide) rfl (fun ls hl => ?_)
  refine lv_iload_n hx hb dX6_hoursBy_22 rfl (lv_at hl 4 rfl) ?_
  refine lv_iconst (v := (-1)) hx hb dX6_hoursBy_23 (by decide) ?_
  refine cs_eq (tgt := 44) (X := (x2).toInt) (Y := (-1)) hx hb dX6_hoursBy_24 (by decide) rfl rfl (fun c3 => ?_) (fun c3 => ?_)
  · refine lv_iload hx hb dX6_hoursBy_44 (lv_at hl 0 rfl) ?_
    refine lv_aload_n hx hb dX6_hoursBy_46 rfl (lv_at hl 2 rfl) ?_
    refine gf_RX6_19 (v := .ref (a 32)) C hO 34 cW_34 rfl dX6_hoursBy_47 ?_
    refine lv_iload hx hb dX6_hoursBy_50 (lv_at hl 1 rfl) ?_
    refine lv_aload_n hx hb dX6_hoursBy_52 rfl (lv_at hl 2 rfl) ?_
    refine gf_RX6_15 (v := .ref (a 28)) C hO 34 cW_34 rfl dX6_hoursBy_53 ?_
    refine gf_RX6_28 (v := .ref (a 3)) C hO 28 cW_28 (congrArg (fun z : Nat => some (Value.ref z)) (CI_R0 hJ)) dX6_hoursBy_56 ?_
    refine gf_RX6_56 (v := .ref (a 10)) C hO 3 cW_3 rfl dX6_hoursBy_59 ?_
    refine lv_iload_n hx hb dX6_hoursBy_62 rfl (lv_at hl 5 rfl) ?_
    refine aI C hO 10 cW_10 (i_in (X := (x3).toInt) rfl (by omega) (by omega)) dX6_hoursBy_63 ?_
    refine lv_topi (fun w4 ew4 => ?_)
    refine cVi (w := cW cy a) (As := [.int w1, .int w4]) (rest := [.int w2]) C hO (T_X8_hours l D cy a _ (by exact hJ) (w1) (w4)) (cwV 2 ht (gV wd_1048 wd_1018 wd_1019 wd_117 wd_1020) rfl rfl rfl hd_yX8_hours ⟨Nat.le_of_ble_eq_true rfl, Nat.le_of_ble_eq_true rfl⟩) 32 rfl cW_32 rfl rfl hl.1 (Nat.le_of_ble_eq_true rfl) dX6_hoursBy_64 rfl ⟨Nat.zero_le _, Nat.zero_le _⟩ (fun r5 u6 H locs hp7 hO => ?_)
    have hu6 := hp7
    rw [hu6] at hO
    refine va_mmax hx hb (by rw [hml]; exact hl.1.symm) hown (ht _ wd_1049) (ht _ wd_636) (ht _ wd_126) (ht _ wd_637) (Nat.le_of_ble_eq_true rfl) (Nat.le_of_ble_eq_true rfl) (Nat.zero_le _) (Nat.zero_le _) dX6_hoursBy_67 ?_
    refine lv_topi (fun z8 ez8 => ?_)
    refine lv_istore (lv' := [(6, .int z8), (5, .int w2), (4, .int w1), (0, .ref (a 34)), (1, .int x1), (2, .int x2), (3, .int x3)]) hx hb dX6_hoursBy_70 hl (by decide) rfl (fun ls hl => ?_)
    refine lv_sipush (v := 1000) hx hb dX6_hoursBy_72 (by decide) ?_
    refine lv_iload hx hb dX6_hoursBy_75 (lv_at hl 0 rfl) ?_
    refine lv_aload_n hx hb dX6_hoursBy_77 rfl (lv_at hl 3 rfl) ?_
    refine gf_RX6_11 (v := .ref (a 35)) C hO 34 cW_34 rfl dX6_hoursBy_78 ?_
    refine lv_iload_n hx hb dX6_hoursBy_81 rfl (lv_at hl 4 rfl) ?_
    refine lv_iconst (v := 1) hx hb dX6_hoursBy_82 (by decide) ?_
    refine lv_iload_n hx hb dX6_hoursBy_83 rfl (lv_at hl 6 rfl) ?_
    refine lv_ishl hx hb dX6_hoursBy_84 ?_
    refine lv_topi (fun z9 ez9 => ?_)
    have g10 : 0 ≤ z9.toInt ∧ z9.toInt ≤ 2 ^ 5 := by rw [ez9]; exact i_shl1 rfl (by omega) (by omega) (by decide)
    refine lv_iconst (v := (-1)) hx hb dX6_hoursBy_85 (by decide) ?_
    refine lv_ixor hx hb dX6_hoursBy_86 ?_
    refine lv_topi (fun z11 ez11 => ?_)
    refine lv_iand hx hb dX6_hoursBy_87 ?_
    refine lv_topi (fun z12 ez12 => ?_)
    have g13 : 0 ≤ z12.toInt ∧ z12.toInt ≤ (x1).toInt := by rw [ez12]; exact i_andl rfl (by omega)
    refine lv_bipush (v := 6) hx hb dX6_hoursBy_88 (by decide) ?_
    have e14 : ((z12 * 6)).toInt = (z12).toInt * 6 := i_mul rfl rfl (by omega)
    refine lv_imul hx hb dX6_hoursBy_90 ?_
    refine lv_iload_n hx hb dX6_hoursBy_91 rfl (lv_at hl 6 rfl) ?_
    have e15 : (((z12 * 6) + x3)).toInt = ((z12).toInt * 6) + (x3).toInt := i_add e14 rfl (by omega)
    refine lv_iadd hx hb dX6_hoursBy_92 ?_
    refine aI C hO 35 cW_35 (i_in (X := (((z12).toInt * 6) + (x3).toInt)) e15 (by omega) (by omega)) dX6_hoursBy_93 ?_
    refine lv_topi (fun w16 ew16 => ?_)
    refine lv_iadd hx hb dX6_hoursBy_94 ?_
    refine va_mmin hx hb (by rw [hml]; exact hl.1.symm) hown (ht _ wd_1050) (ht _ wd_639) (ht _ wd_126) (ht _ wd_640) (Nat.le_of_ble_eq_true rfl) (Nat.le_of_ble_eq_true rfl) (Nat.zero_le _) (Nat.zero_le _) dX6_hoursBy_95 ?_
    refine lv_topi (fun z17 ez17 => ?_)
    refine hret _ _ _ _ _ _ dX6_hoursBy_98 rfl ?_ hO
    exact rfl
  · refine lv_aload_n hx hb dX6_hoursBy_27 rfl (lv_at hl 2 rfl) ?_
    refine gf_RX6_15 (v := .ref (a 28)) C hO 34 cW_34 rfl dX6_hoursBy_28 ?_
    refine gf_RX6_28 (v := .ref (a 3)) C hO 28 cW_28 (congrArg (fun z : Nat => some (Value.ref z)) (CI_R0 hJ)) dX6_hoursBy_31 ?_
    refine gf_RX6_56 (v := .ref (a 10)) C hO 3 cW_3 rfl dX6_hoursBy_34 ?_
    refine lv_iload_n hx hb dX6_hoursBy_37 rfl (lv_at hl 4 rfl) ?_
    refine aI C hO 10 cW_10 (i_in (X := (x2).toInt) rfl (by omega) (by omega)) dX6_hoursBy_38 ?_
    refine lv_topi (fun w18 ew18 => ?_)
    refine lv_istore (lv' := [(4, .int w18), (5, .int w2), (0, .ref (a 34)), (1, .int x1), (2, .int x2), (3, .int x3)]) hx hb dX6_hoursBy_39 hl (by decide) rfl (fun ls hl => ?_)
    refine lv_iconst (v := 1) hx hb dX6_hoursBy_41 (by decide) ?_
    refine lv_istore (lv' := [(5, .int 1), (4, .int w18), (0, .ref (a 34)), (1, .int x1), (2, .int x2), (3, .int x3)]) hx hb dX6_hoursBy_42 hl (by decide) rfl (fun ls hl => ?_)
    refine lv_iload hx hb dX6_hoursBy_44 (lv_at hl 0 rfl) ?_
    refine lv_aload_n hx hb dX6_hoursBy_46 rfl (lv_at hl 2 rfl) ?_
    refine gf_RX6_19 (v := .ref (a 32)) C hO 34 cW_34 rfl dX6_hoursBy_47 ?_
    refine lv_iload hx hb dX6_hoursBy_50 (lv_at hl 1 rfl) ?_
    refine lv_aload_n hx hb dX6_hoursBy_52 rfl (lv_at hl 2 rfl) ?_
    refine gf_RX6_15 (v := .ref (a 28)) C hO 34 cW_34 rfl dX6_hoursBy_53 ?_
    refine gf_RX6_28 (v := .ref (a 3)) C hO 28 cW_28 (congrArg (fun z : Nat => some (Value.ref z)) (CI_R0 hJ)) dX6_hoursBy_56 ?_
    refine gf_RX6_56 (v := .ref (a 10)) C hO 3 cW_3 rfl dX6_hoursBy_59 ?_
    refine lv_iload_n hx hb dX6_hoursBy_62 rfl (lv_at hl 5 rfl) ?_
    refine aI C hO 10 cW_10 (i_in (X := (x3).toInt) rfl (by omega) (by omega)) dX6_hoursBy_63 ?_
    refine lv_topi (fun w19 ew19 => ?_)
    refine cVi (w := cW cy a) (As := [.int w18, .int w19]) (rest := [.int 1]) C hO (T_X8_hours l D cy a _ (by exact hJ) (w18) (w19)) (cwV 2 ht (gV wd_1048 wd_1018 wd_1019 wd_117 wd_1020) rfl rfl rfl hd_yX8_hours ⟨Nat.le_of_ble_eq_true rfl, Nat.le_of_ble_eq_true rfl⟩) 32 rfl cW_32 rfl rfl hl.1 (Nat.le_of_ble_eq_true rfl) dX6_hoursBy_64 rfl ⟨Nat.zero_le _, Nat.zero_le _⟩ (fun r20 u21 H locs hp22 hO => ?_)
    have hu21 := hp22
    rw [hu21] at hO
    refine va_mmax hx hb (by rw [hml]; exact hl.1.symm) hown (ht _ wd_1049) (ht _ wd_636) (ht _ wd_126) (ht _ wd_637) (Nat.le_of_ble_eq_true rfl) (Nat.le_of_ble_eq_true rfl) (Nat.zero_le _) (Nat.zero_le _) dX6_hoursBy_67 ?_
    refine lv_topi (fun z23 ez23 => ?_)
    refine lv_istore (lv' := [(6, .int z23), (5, .int 1), (4, .int w18), (0, .ref (a 34)), (1, .int x1), (2, .int x2), (3, .int x3)]) hx hb dX6_hoursBy_70 hl (by decide) rfl (fun ls hl => ?_)
    refine lv_sipush (v := 1000) hx hb dX6_hoursBy_72 (by decide) ?_
    refine lv_iload hx hb dX6_hoursBy_75 (lv_at hl 0 rfl) ?_
    refine lv_aload_n hx hb dX6_hoursBy_77 rfl (lv_at hl 3 rfl) ?_
    refine gf_RX6_11 (v := .ref (a 35)) C hO 34 cW_34 rfl dX6_hoursBy_78 ?_
    refine lv_iload_n hx hb dX6_hoursBy_81 rfl (lv_at hl 4 rfl) ?_
    refine lv_iconst (v := 1) hx hb dX6_hoursBy_82 (by decide) ?_
    refine lv_iload_n hx hb dX6_hoursBy_83 rfl (lv_at hl 6 rfl) ?_
    refine lv_ishl hx hb dX6_hoursBy_84 ?_
    refine lv_topi (fun z24 ez24 => ?_)
    have g25 : 0 ≤ z24.toInt ∧ z24.toInt ≤ 2 ^ 5 := by rw [ez24]; exact i_shl1 rfl (by omega) (by omega) (by decide)
    refine lv_iconst (v := (-1)) hx hb dX6_hoursBy_85 (by decide) ?_
    refine lv_ixor hx hb dX6_hoursBy_86 ?_
    refine lv_topi (fun z26 ez26 => ?_)
    refine lv_iand hx hb dX6_hoursBy_87 ?_
    refine lv_topi (fun z27 ez27 => ?_)
    have g28 : 0 ≤ z27.toInt ∧ z27.toInt ≤ (x1).toInt := by rw [ez27]; exact i_andl rfl (by omega)
    refine lv_bipush (v := 6) hx hb dX6_hoursBy_88 (by decide) ?_
    have e29 : ((z27 * 6)).toInt = (z27).toInt * 6 := i_mul rfl rfl (by omega)
    refine lv_imul hx hb dX6_hoursBy_90 ?_
    refine lv_iload_n hx hb dX6_hoursBy_91 rfl (lv_at hl 6 rfl) ?_
    have e30 : (((z27 * 6) + x3)).toInt = ((z27).toInt * 6) + (x3).toInt := i_add e29 rfl (by omega)
    refine lv_iadd hx hb dX6_hoursBy_92 ?_
    refine aI C hO 35 cW_35 (i_in (X := (((z27).toInt * 6) + (x3).toInt)) e30 (by omega) (by omega)) dX6_hoursBy_93 ?_
    refine lv_topi (fun w31 ew31 => ?_)
    refine lv_iadd hx hb dX6_hoursBy_94 ?_
    refine va_mmin hx hb (by rw [hml]; exact hl.1.symm) hown (ht _ wd_1050) (ht _ wd_639) (ht _ wd_126) (ht _ wd_640) (Nat.le_of_ble_eq_true rfl) (Nat.le_of_ble_eq_true rfl) (Nat.zero_le _) (Nat.zero_le _) dX6_hoursBy_95 ?_
    refine lv_topi (fun z32 ez32 => ?_)
    refine hret _ _ _ _ _ _ dX6_hoursBy_98 rfl ?_ hO
    exact rfl
theorem dX6_hoursFrom_0 : decode cX6_hoursFrom 0 = .ok (.sipush 1000, 3) := by decide +kernel
theorem dX6_hoursFrom_3 : decode cX6_hoursFrom 3 = .ok (.istore_n 3, 1) := by decide +kernel
theorem dX6_hoursFrom_4 : decode cX6_hoursFrom 4 = .ok (.iconst 0, 1) := by decide +kernel
theorem dX6_hoursFrom_5 : decode cX6_hoursFrom 5 = .ok (.istore 4, 2) := by decide +kernel
theorem dX6_hoursFrom_7 : decode cX6_hoursFrom 7 = .ok (.iload 4, 2) := by decide +kernel
theorem dX6_hoursFrom_9 : decode cX6_hoursFrom 9 = .ok (.aload_n 0, 1) := by decide +kernel
theorem dX6_hoursFrom_10 : decode cX6_hoursFrom 10 = .ok (.getfield 15, 3) := by decide +kernel
theorem dX6_hoursFrom_13 : decode cX6_hoursFrom 13 = .ok (.getfield 28, 3) := by decide +kernel
theorem dX6_hoursFrom_16 : decode cX6_hoursFrom 16 = .ok (.getfield 34, 3) := by decide +kernel
theorem dX6_hoursFrom_19 : decode cX6_hoursFrom 19 = .ok (.if_icmp .ge 31, 3) := by decide +kernel
theorem dX6_hoursFrom_22 : decode cX6_hoursFrom 22 = .ok (.iload_n 1, 1) := by decide +kernel
theorem dX6_hoursFrom_23 : decode cX6_hoursFrom 23 = .ok (.iload 4, 2) := by decide +kernel
theorem dX6_hoursFrom_25 : decode cX6_hoursFrom 25 = .ok (.ishr, 1) := by decide +kernel
theorem dX6_hoursFrom_26 : decode cX6_hoursFrom 26 = .ok (.iconst 1, 1) := by decide +kernel
theorem dX6_hoursFrom_27 : decode cX6_hoursFrom 27 = .ok (.iand, 1) := by decide +kernel
theorem dX6_hoursFrom_28 : decode cX6_hoursFrom 28 = .ok (.ifCond .eq 16, 3) := by decide +kernel
theorem dX6_hoursFrom_31 : decode cX6_hoursFrom 31 = .ok (.iload_n 3, 1) := by decide +kernel
theorem dX6_hoursFrom_32 : decode cX6_hoursFrom 32 = .ok (.aload_n 0, 1) := by decide +kernel
theorem dX6_hoursFrom_33 : decode cX6_hoursFrom 33 = .ok (.iload_n 1, 1) := by decide +kernel
theorem dX6_hoursFrom_34 : decode cX6_hoursFrom 34 = .ok (.iload_n 2, 1) := by decide +kernel
theorem dX6_hoursFrom_35 : decode cX6_hoursFrom 35 = .ok (.iload 4, 2) := by decide +kernel
theorem dX6_hoursFrom_37 : decode cX6_hoursFrom 37 = .ok (.invokevirtual 44, 3) := by decide +kernel
theorem dX6_hoursFrom_40 : decode cX6_hoursFrom 40 = .ok (.invokestatic 48, 3) := by decide +kernel
theorem dX6_hoursFrom_43 : decode cX6_hoursFrom 43 = .ok (.istore_n 3, 1) := by decide +kernel
theorem dX6_hoursFrom_44 : decode cX6_hoursFrom 44 = .ok (.iinc 4 1, 3) := by decide +kernel
theorem dX6_hoursFrom_47 : decode cX6_hoursFrom 47 = .ok (.goto (-40), 3) := by decide +kernel
theorem dX6_hoursFrom_50 : decode cX6_hoursFrom 50 = .ok (.iload_n 3, 1) := by decide +kernel
theorem dX6_hoursFrom_51 : decode cX6_hoursFrom 51 = .ok (.ireturn, 1) := by decide +kernel
theorem wd_1043 : (Cond.code ⟨"WebCourt$Rounds", "hoursFrom", "(II)I"⟩ prog_8_method_4_code (5 : Nat) (Option.some FieldType.int)) ∈ gtb := gtb_c4 214 (by decide +kernel) rfl
theorem wd_267 : (Cond.fieldLink "WebCourt$Rounds" (34 : Nat) "WebCourt$Web" "cases" "I") ∈ gtb := gtb_c1 158 (by decide +kernel) rfl
theorem gf_RX6_34 {p : Program} {l : Launch} {e : Env} {R : Room} {s : State} {m : MethodId} {args : Array Value} {below : List Frame} {meth : Method} {c : Code} {H : Heap} {locs : List Loc} {cells slots : Nat} {Q : State → Prop} {cc : ByteArray} {pc nL : Nat} {ls : Array Slot} {rest : List Value} {D : va_G} {cy : Nat → ClassId} {A : Nat → Prop} {ws : va_W} {b : Nat} {fs : List Value} {v : Value} (C : Cx p s m args c cc nL RX6 D cy A) (hO : Wo D A ws s.heap H locs) (q0 : Nat) (he : ws[q0]? = some (b, .inr (9, fs))) (hv : fs[12]? = some v) (hdg : decode cc pc = .ok (.getfield 34, 3)) (kk : W p l e R s m args below meth c H locs cells slots Q (F0 m (pc + 3) ls (v :: rest))) : W p l e R s m args below meth c H locs cells slots Q (F0 m pc ls (.ref b :: rest)) := gF (k := 12) C hO q0 he rfl inFX9 (by decide) wd_267 rfl hv hdg kk
theorem wd_1044 : (Cond.methodLink "WebCourt$Rounds" (44 : Nat) ⟨"WebCourt$Rounds", "hoursBy", "(III)I"⟩) ∈ gtb := gtb_c4 215 (by decide +kernel) rfl
theorem wd_1046 : (Cond.instanceMethod ⟨"WebCourt$Rounds", "hoursBy", "(III)I"⟩) ∈ gtb := gtb_c4 217 (by decide +kernel) rfl
theorem wd_36 : (Cond.selects "WebCourt$Rounds" ⟨"WebCourt$Rounds", "hoursBy", "(III)I"⟩ ⟨"WebCourt$Rounds", "hoursBy", "(III)I"⟩) ∈ gtb := gtb_p 36 (by decide +kernel) rfl
theorem wd_118 : (Cond.initialized "WebCourt$Rounds") ∈ gtb := gtb_c1 9 (by decide +kernel) rfl
theorem hd_yX6_hoursBy : yX6_hoursBy.cls = RX6 ∧ yX6_hoursBy.cls ≠ "java/lang/invoke/MethodHandle" ∧ yX6_hoursBy.cls ≠ "java/lang/invoke/VarHandle" ∧ (parseMethodDescriptor yX6_hoursBy.desc).map (fun d => d.parameters.length) = some 3 := by decide +kernel
set_option maxHeartbeats 4000000 in
set_option maxRecDepth 100000 in
theorem T_X6_hoursFrom (l : Launch) (D : va_G) (cy : Nat → ClassId) (a : Nat → Nat) (u : St) (hJ : CI a u) (x1 : Int32) (x2 : Int32) (hx_x1 : 0 ≤ x1.toInt ∧ x1.toInt ≤ 63) (hx_x2 : -1 ≤ x2.toInt ∧ x2.toInt ≤ 5) : Mi l D cy (cW cy a) yX6_hoursFrom (.code yX6_hoursFrom cX6_hoursFrom 5 (some .int)) (rmo 3 69) [.ref (a 34), .int x1, .int x2] u (fun (r : Int32) (u' : St) => u' = u) := by
  refine Mi.of (own := RX6) rfl (by decide) (Nat.le_of_ble_eq_true rfl) ?_
  have hT : KT u u := KT.rf
  intro p e s m below meth c A Q ls C hret hO hl
  obtain ⟨hx, hb, hml, hown, ht, hK, hA⟩ := id C
  have hl : lv_has ls 5 [(0, .ref (a 34)), (1, .int x1), (2, .int x2)] := hl
  refine lv_sipush (v := 1000) hx hb dX6_hoursFrom_0 (by decide) ?_
  refine lv_istore_n (lv' := [(3, .int 1000), (0, .ref (a 34)), (1, .int x1), (2, .int x2)]) hx hb dX6_hoursFrom_3 rfl hl (by decide) rfl (fun ls hl => ?_)
  refine lv_iconst (v := 0) hx hb dX6_hoursFrom_4 (by decide) ?_
  refine lv_istore (lv' := [(4, .int 0), (3, .int 1000), (0, .ref (a 34)), (1, .int x1), (2, .int x2)]) hx hb dX6_hoursFrom_5 hl (by decide) rfl (fun ls hl => ?_)
  have LP_7_k1 : ∀ (n : Nat) (H : Heap) (locs : List Loc) (ls : Array Slot) (i_k1 : Int32) (w3_k1 : Int32), Wo D A (cW cy a u) s.heap H locs → lv_has ls 5 [(4, .int i_k1), (3, .int w3_k1), (0, .ref (a 34)), (1, .int x1), (2, .int x2)] → 0 ≤ i_k1.toInt ∧ i_k1.toInt ≤ 6 → 6 - i_k1.toInt < (n : Int) → W p l e (rmo 3 69) s m [.ref (a 34), .int x1, .int x2].toArray below meth c H locs 0 0 Q (F0 m 7 ls []) := by
    intro n
    induction n with
    | zero =>
      intro H locs ls i_k1 w3_k1 hO hl iv0_k1 hm_k1
      exact absurd hm_k1 (by omega)
    | succ n ih_k1 =>
      intro H locs ls i_k1 w3_k1 hO hl iv0_k1 hm_k1
      refine lv_iload hx hb dX6_hoursFrom_7 (lv_at hl 0 rfl) ?_
      refine lv_aload_n hx hb dX6_hoursFrom_9 rfl (lv_at hl 2 rfl) ?_
      refine gf_RX6_15 (v := .ref (a 28)) C hO 34 cW_34 rfl dX6_hoursFrom_10 ?_
      refine gf_RX6_28 (v := .ref (a 3)) C hO 28 cW_28 (congrArg (fun z : Nat => some (Value.ref z)) (CI_R0 hJ)) dX6_hoursFrom_13 ?_
      have g2 : 0 ≤ (fI u 3 12).toInt ∧ (fI u 3 12).toInt ≤ 6 := by have h := CI_3_12 hJ; exact h
      refine gf_RX6_34 (v := .int (fI u 3 12)) C hO 3 cW_3 rfl dX6_hoursFrom_16 ?_
      refine cs_ge (tgt := 50) (X := (i_k1).toInt) (Y := ((fI u 3 12)).toInt) hx hb dX6_hoursFrom_19 (by decide) rfl rfl (fun c3 => ?_) (fun c3 => ?_)
      · refine lv_iload_n hx hb dX6_hoursFrom_50 rfl (lv_at hl 1 rfl) ?_
        refine hret _ _ _ _ _ _ dX6_hoursFrom_51 rfl ?_ hO
        exact rfl
      · refine lv_iload_n hx hb dX6_hoursFrom_22 rfl (lv_at hl 3 rfl) ?_
        refine lv_iload hx hb dX6_hoursFrom_23 (lv_at hl 0 rfl) ?_
        refine lv_ishr hx hb dX6_hoursFrom_25 ?_
        refine lv_topi (fun z4 ez4 => ?_)
        have g5 : 0 ≤ z4.toInt ∧ z4.toInt ≤ (x1).toInt := by rw [ez4]; exact i_shrr rfl (by omega)
        refine lv_iconst (v := 1) hx hb dX6_hoursFrom_26 (by decide) ?_
        refine lv_iand hx hb dX6_hoursFrom_27 ?_
        refine lv_topi (fun z6 ez6 => ?_)
        have g7 : 0 ≤ z6.toInt ∧ z6.toInt ≤ (z4).toInt := by rw [ez6]; exact i_andl rfl (by omega)
        refine bs_eq (tgt := 44) (X := (z6).toInt) hx hb dX6_hoursFrom_28 (by decide) rfl (fun c8 => ?_) (fun c8 => ?_)
        · have e9 : ((i_k1 + 1)).toInt = (i_k1).toInt + 1 := i_add rfl rfl (by omega)
          refine lv_iinc (v := (i_k1 + 1)) (lv' := [(4, .int (i_k1 + 1)), (3, .int w3_k1), (0, .ref (a 34)), (1, .int x1), (2, .int x2)]) hx hb dX6_hoursFrom_44 hl (k := 0) rfl rfl (by decide) rfl (fun ls hl => ?_)
          refine lv_goto (tgt := 7) hx hb dX6_hoursFrom_47 (by decide) ?_
          exact ih_k1 _ _ _ ((i_k1 + 1)) (w3_k1) hO (lv_sub hl [0, 1, 2, 3, 4] rfl) (by first | decide | omega) (by first | decide | omega)
        · refine lv_iload_n hx hb dX6_hoursFrom_31 rfl (lv_at hl 1 rfl) ?_
          refine lv_aload_n hx hb dX6_hoursFrom_32 rfl (lv_at hl 2 rfl) ?_
          refine lv_iload_n hx hb dX6_hoursFrom_33 rfl (lv_at hl 3 rfl) ?_
          refine lv_iload_n hx hb dX6_hoursFrom_34 rfl (lv_at hl 4 rfl) ?_
          refine lv_iload hx hb dX6_hoursFrom_35 (lv_at hl 0 rfl) ?_
          refine cVi (w := cW cy a) (As := [.int x1, .int x2, .int i_k1]) (rest := [.int w3_k1]) C hO (T_X6_hoursBy l D cy a _ (by exact hJ) (x1) (x2) (i_k1) (by first | omega | decide) (by first | omega | decide) (by first | omega | decide)) (cwV 3 ht (gV wd_1044 wd_1046 wd_36 wd_118 wd_1047) rfl rfl rfl hd_yX6_hoursBy ⟨Nat.le_of_ble_eq_true rfl, Nat.le_of_ble_eq_true rfl⟩) 34 rfl cW_34 rfl rfl hl.1 (Nat.le_of_ble_eq_true rfl) dX6_hoursFrom_37 rfl ⟨Nat.zero_le _, Nat.zero_le _⟩ (fun r10 u11 H locs hp12 hO => ?_)
          have hu11 := hp12
          rw [hu11] at hO
          refine va_mmin hx hb (by rw [hml]; exact hl.1.symm) hown (ht _ wd_1050) (ht _ wd_639) (ht _ wd_126) (ht _ wd_640) (Nat.le_of_ble_eq_true rfl) (Nat.le_of_ble_eq_true rfl) (Nat.zero_le _) (Nat.zero_le _) dX6_hoursFrom_40 ?_
          refine lv_topi (fun z13 ez13 => ?_)
          refine lv_istore_n (lv' := [(3, .int z13), (4, .int i_k1), (0, .ref (a 34)), (1, .int x1), (2, .int x2)]) hx hb dX6_hoursFrom_43 rfl hl (by decide) rfl (fun ls hl => ?_)
          have e14 : ((i_k1 + 1)).toInt = (i_k1).toInt + 1 := i_add rfl rfl (by omega)
          refine lv_iinc (v := (i_k1 + 1)) (lv' := [(4, .int (i_k1 + 1)), (3, .int z13), (0, .ref (a 34)), (1, .int x1), (2, .int x2)]) hx hb dX6_hoursFrom_44 hl (k := 1) rfl rfl (by decide) rfl (fun ls hl => ?_)
          refine lv_goto (tgt := 7) hx hb dX6_hoursFrom_47 (by decide) ?_
          exact ih_k1 _ _ _ ((i_k1 + 1)) (z13) hO (lv_sub hl [0, 1, 2, 3, 4] rfl) (by first | decide | omega) (by first | decide | omega)
  exact LP_7_k1 4000 _ _ _ (0) (1000) hO (lv_sub hl [0, 1, 2, 3, 4] rfl) (by first | decide | omega) (by first | decide | omega)
theorem dX6_fewestHours_0 : decode cX6_fewestHours 0 = .ok (.iload_n 1, 1) := by decide +kernel
theorem dX6_fewestHours_1 : decode cX6_fewestHours 1 = .ok (.ifCond .ne 7, 3) := by decide +kernel
theorem dX6_fewestHours_4 : decode cX6_fewestHours 4 = .ok (.iconst 0, 1) := by decide +kernel
theorem dX6_fewestHours_5 : decode cX6_fewestHours 5 = .ok (.goto 9, 3) := by decide +kernel
theorem dX6_fewestHours_8 : decode cX6_fewestHours 8 = .ok (.aload_n 0, 1) := by decide +kernel
theorem dX6_fewestHours_9 : decode cX6_fewestHours 9 = .ok (.iload_n 1, 1) := by decide +kernel
theorem dX6_fewestHours_10 : decode cX6_fewestHours 10 = .ok (.iconst (-1), 1) := by decide +kernel
theorem dX6_fewestHours_11 : decode cX6_fewestHours 11 = .ok (.invokevirtual 40, 3) := by decide +kernel
theorem dX6_fewestHours_14 : decode cX6_fewestHours 14 = .ok (.ireturn, 1) := by decide +kernel
theorem wd_1054 : (Cond.code ⟨"WebCourt$Rounds", "fewestHours", "(I)I"⟩ prog_8_method_3_code (2 : Nat) (Option.some FieldType.int)) ∈ gtb := gtb_c4 225 (by decide +kernel) rfl
theorem wd_1040 : (Cond.methodLink "WebCourt$Rounds" (40 : Nat) ⟨"WebCourt$Rounds", "hoursFrom", "(II)I"⟩) ∈ gtb := gtb_c4 211 (by decide +kernel) rfl
theorem wd_1042 : (Cond.instanceMethod ⟨"WebCourt$Rounds", "hoursFrom", "(II)I"⟩) ∈ gtb := gtb_c4 213 (by decide +kernel) rfl
theorem wd_35 : (Cond.selects "WebCourt$Rounds" ⟨"WebCourt$Rounds", "hoursFrom", "(II)I"⟩ ⟨"WebCourt$Rounds", "hoursFrom", "(II)I"⟩) ∈ gtb := gtb_p 35 (by decide +kernel) rfl
theorem hd_yX6_hoursFrom : yX6_hoursFrom.cls = RX6 ∧ yX6_hoursFrom.cls ≠ "java/lang/invoke/MethodHandle" ∧ yX6_hoursFrom.cls ≠ "java/lang/invoke/VarHandle" ∧ (parseMethodDescriptor yX6_hoursFrom.desc).map (fun d => d.parameters.length) = some 2 := by decide +kernel
set_option maxHeartbeats 4000000 in
set_option maxRecDepth 100000 in
theorem T_X6_fewestHours (l : Launch) (D : va_G) (cy : Nat → ClassId) (a : Nat → Nat) (u : St) (hJ : CI a u) (x1 : Int32) (hx_x1 : 0 ≤ x1.toInt ∧ x1.toInt ≤ 63) : Mi l D cy (cW cy a) yX6_fewestHours (.code yX6_fewestHours cX6_fewestHours 2 (some .int)) (rmo 4 93) [.ref (a 34), .int x1] u (fun (r : Int32) (u' : St) => u' = u) := by
  refine Mi.of (own := RX6) rfl (by decide) (Nat.le_of_ble_eq_true rfl) ?_
  have hT : KT u u := KT.rf
  intro p e s m below meth c A Q ls C hret hO hl
  obtain ⟨hx, hb, hml, hown, ht, hK, hA⟩ := id C
  have hl : lv_has ls 2 [(0, .ref (a 34)), (1, .int x1)] := hl
  refine lv_iload_n hx hb dX6_fewestHours_0 rfl (lv_at hl 1 rfl) ?_
  refine bs_ne (tgt := 8) (X := (x1).toInt) hx hb dX6_fewestHours_1 (by decide) rfl (fun c1 => ?_) (fun c1 => ?_)
  · refine lv_aload_n hx hb dX6_fewestHours_8 rfl (lv_at hl 0 rfl) ?_
    refine lv_iload_n hx hb dX6_fewestHours_9 rfl (lv_at hl 1 rfl) ?_
    refine lv_iconst (v := (-1)) hx hb dX6_fewestHours_10 (by decide) ?_
    refine cVi (w := cW cy a) (As := [.int x1, .int (-1)]) (rest := []) C hO (T_X6_hoursFrom l D cy a _ (by exact hJ) (x1) ((-1)) (by first | omega | decide) (by first | omega | decide)) (cwV 2 ht (gV wd_1040 wd_1042 wd_35 wd_118 wd_1043) rfl rfl rfl hd_yX6_hoursFrom ⟨Nat.le_of_ble_eq_true rfl, Nat.le_of_ble_eq_true rfl⟩) 34 rfl cW_34 rfl rfl hl.1 (Nat.le_of_ble_eq_true rfl) dX6_fewestHours_11 rfl ⟨Nat.zero_le _, Nat.zero_le _⟩ (fun r2 u3 H locs hp4 hO => ?_)
    have hu3 := hp4
    rw [hu3] at hO
    refine hret _ _ _ _ _ _ dX6_fewestHours_14 rfl ?_ hO
    exact rfl
  · refine lv_iconst (v := 0) hx hb dX6_fewestHours_4 (by decide) ?_
    refine lv_goto (tgt := 14) hx hb dX6_fewestHours_5 (by decide) ?_
    refine hret _ _ _ _ _ _ dX6_fewestHours_14 rfl ?_ hO
    exact rfl
theorem dX6_measure_0 : decode cX6_measure 0 = .ok (.aload_n 0, 1) := by decide +kernel
theorem dX6_measure_1 : decode cX6_measure 1 = .ok (.getfield 19, 3) := by decide +kernel
theorem dX6_measure_4 : decode cX6_measure 4 = .ok (.invokevirtual 23, 3) := by decide +kernel
theorem dX6_measure_7 : decode cX6_measure 7 = .ok (.iconst 1, 1) := by decide +kernel
theorem dX6_measure_8 : decode cX6_measure 8 = .ok (.aload_n 0, 1) := by decide +kernel
theorem dX6_measure_9 : decode cX6_measure 9 = .ok (.getfield 15, 3) := by decide +kernel
theorem dX6_measure_12 : decode cX6_measure 12 = .ok (.getfield 28, 3) := by decide +kernel
theorem dX6_measure_15 : decode cX6_measure 15 = .ok (.getfield 34, 3) := by decide +kernel
theorem dX6_measure_18 : decode cX6_measure 18 = .ok (.ishl, 1) := by decide +kernel
theorem dX6_measure_19 : decode cX6_measure 19 = .ok (.istore_n 1, 1) := by decide +kernel
theorem dX6_measure_20 : decode cX6_measure 20 = .ok (.iconst 0, 1) := by decide +kernel
theorem dX6_measure_21 : decode cX6_measure 21 = .ok (.istore_n 2, 1) := by decide +kernel
theorem dX6_measure_22 : decode cX6_measure 22 = .ok (.iload_n 2, 1) := by decide +kernel
theorem dX6_measure_23 : decode cX6_measure 23 = .ok (.iload_n 1, 1) := by decide +kernel
theorem dX6_measure_24 : decode cX6_measure 24 = .ok (.if_icmp .ge 62, 3) := by decide +kernel
theorem dX6_measure_27 : decode cX6_measure 27 = .ok (.iload_n 2, 1) := by decide +kernel
theorem dX6_measure_28 : decode cX6_measure 28 = .ok (.bipush 64, 2) := by decide +kernel
theorem dX6_measure_30 : decode cX6_measure 30 = .ok (.if_icmp .ge 56, 3) := by decide +kernel
theorem dX6_measure_33 : decode cX6_measure 33 = .ok (.iconst 0, 1) := by decide +kernel
theorem dX6_measure_34 : decode cX6_measure 34 = .ok (.istore_n 3, 1) := by decide +kernel
theorem dX6_measure_35 : decode cX6_measure 35 = .ok (.iload_n 3, 1) := by decide +kernel
theorem dX6_measure_36 : decode cX6_measure 36 = .ok (.aload_n 0, 1) := by decide +kernel
theorem dX6_measure_37 : decode cX6_measure 37 = .ok (.getfield 15, 3) := by decide +kernel
theorem dX6_measure_40 : decode cX6_measure 40 = .ok (.getfield 28, 3) := by decide +kernel
theorem dX6_measure_43 : decode cX6_measure 43 = .ok (.getfield 34, 3) := by decide +kernel
theorem dX6_measure_46 : decode cX6_measure 46 = .ok (.if_icmp .ge 34, 3) := by decide +kernel
theorem dX6_measure_49 : decode cX6_measure 49 = .ok (.aload_n 0, 1) := by decide +kernel
theorem dX6_measure_50 : decode cX6_measure 50 = .ok (.getfield 11, 3) := by decide +kernel
theorem dX6_measure_53 : decode cX6_measure 53 = .ok (.iload_n 2, 1) := by decide +kernel
theorem dX6_measure_54 : decode cX6_measure 54 = .ok (.bipush 6, 2) := by decide +kernel
theorem dX6_measure_56 : decode cX6_measure 56 = .ok (.imul, 1) := by decide +kernel
theorem dX6_measure_57 : decode cX6_measure 57 = .ok (.iload_n 3, 1) := by decide +kernel
theorem dX6_measure_58 : decode cX6_measure 58 = .ok (.iadd, 1) := by decide +kernel
theorem dX6_measure_59 : decode cX6_measure 59 = .ok (.iload_n 2, 1) := by decide +kernel
theorem dX6_measure_60 : decode cX6_measure 60 = .ok (.ifCond .ne 7, 3) := by decide +kernel
theorem dX6_measure_63 : decode cX6_measure 63 = .ok (.iconst 0, 1) := by decide +kernel
theorem dX6_measure_64 : decode cX6_measure 64 = .ok (.goto 9, 3) := by decide +kernel
theorem dX6_measure_67 : decode cX6_measure 67 = .ok (.aload_n 0, 1) := by decide +kernel
theorem dX6_measure_68 : decode cX6_measure 68 = .ok (.iload_n 2, 1) := by decide +kernel
theorem dX6_measure_69 : decode cX6_measure 69 = .ok (.iload_n 3, 1) := by decide +kernel
theorem dX6_measure_70 : decode cX6_measure 70 = .ok (.invokevirtual 40, 3) := by decide +kernel
theorem dX6_measure_73 : decode cX6_measure 73 = .ok (.iastore, 1) := by decide +kernel
theorem dX6_measure_74 : decode cX6_measure 74 = .ok (.iinc 3 1, 3) := by decide +kernel
theorem dX6_measure_77 : decode cX6_measure 77 = .ok (.goto (-42), 3) := by decide +kernel
theorem dX6_measure_80 : decode cX6_measure 80 = .ok (.iinc 2 1, 3) := by decide +kernel
theorem dX6_measure_83 : decode cX6_measure 83 = .ok (.goto (-61), 3) := by decide +kernel
theorem dX6_measure_86 : decode cX6_measure 86 = .ok (.return_, 1) := by decide +kernel
theorem wd_1038 : (Cond.code ⟨"WebCourt$Rounds", "measure", "()V"⟩ prog_8_method_2_code (4 : Nat) (Option.none : Option FieldType)) ∈ gtb := gtb_c4 209 (by decide +kernel) rfl
theorem wd_1039 : (Cond.methodLink "WebCourt$Rounds" (23 : Nat) ⟨"WebCourt$Ways", "measure", "()V"⟩) ∈ gtb := gtb_c4 210 (by decide +kernel) rfl
theorem wd_1009 : (Cond.instanceMethod ⟨"WebCourt$Ways", "measure", "()V"⟩) ∈ gtb := gtb_c4 180 (by decide +kernel) rfl
theorem wd_1010 : (Cond.selects "WebCourt$Ways" ⟨"WebCourt$Ways", "measure", "()V"⟩ ⟨"WebCourt$Ways", "measure", "()V"⟩) ∈ gtb := gtb_c4 181 (by decide +kernel) rfl
theorem hd_yX8_measure : yX8_measure.cls = RX8 ∧ yX8_measure.cls ≠ "java/lang/invoke/MethodHandle" ∧ yX8_measure.cls ≠ "java/lang/invoke/VarHandle" ∧ (parseMethodDescriptor yX8_measure.desc).map (fun d => d.parameters.length) = some 0 := by decide +kernel
set_option maxHeartbeats 4000000 in
set_option maxRecDepth 100000 in
theorem T_X6_measure (l : Launch) (D : va_G) (cy : Nat → ClassId) (a : Nat → Nat) (u : St) (hJ : CI a u)   : Mv l D cy (cW cy a) yX6_measure (.code yX6_measure cX6_measure 4 none) (rmo 4 93) [.ref (a 34)] u (fun (u' : St) => (CI a u') ∧ (KT u u')) := by
  refine Mv.of (own := RX6) rfl (by decide) (Nat.le_of_ble_eq_true rfl) ?_
  have hT : KT u u := KT.rf
  intro p e s m below meth c A Q ls C hret hO hl
  obtain ⟨hx, hb, hml, hown, ht, hK, hA⟩ := id C
  have hl : lv_has ls 4 [(0, .ref (a 34))] := hl
  refine lv_aload_n hx hb dX6_measure_0 rfl (lv_at hl 0 rfl) ?_
  refine gf_RX6_19 (v := .ref (a 32)) C hO 34 cW_34 rfl dX6_measure_1 ?_
  refine cVv (w := cW cy a) (As := []) (rest := []) C hO (T_X8_measure l D cy a _ (by exact hJ)) (cwV 0 ht (gV wd_1039 wd_1009 wd_1010 wd_117 wd_1011) rfl rfl rfl hd_yX8_measure ⟨Nat.le_of_ble_eq_true rfl, Nat.le_of_ble_eq_true rfl⟩) 32 rfl cW_32 rfl rfl hl.1 (Nat.le_of_ble_eq_true rfl) dX6_measure_4 rfl ⟨Nat.zero_le _, Nat.zero_le _⟩ (fun u2 H locs hp3 hO => ?_)
  obtain ⟨hJ, hTu2⟩ := hp3
  have hT : KT u u2 := KT.tr (by exact hT) hTu2
  refine lv_iconst (v := 1) hx hb dX6_measure_7 (by decide) ?_
  refine lv_aload_n hx hb dX6_measure_8 rfl (lv_at hl 0 rfl) ?_
  refine gf_RX6_15 (v := .ref (a 28)) C hO 34 cW_34 rfl dX6_measure_9 ?_
  refine gf_RX6_28 (v := .ref (a 3)) C hO 28 cW_28 (congrArg (fun z : Nat => some (Value.ref z)) (CI_R0 hJ)) dX6_measure_12 ?_
  have g4 : 0 ≤ (fI u2 3 12).toInt ∧ (fI u2 3 12).toInt ≤ 6 := by have h := CI_3_12 hJ; exact h
  refine gf_RX6_34 (v := .int (fI u2 3 12)) C hO 3 cW_3 rfl dX6_measure_15 ?_
  refine lv_ishl hx hb dX6_measure_18 ?_
  refine lv_topi (fun z5 ez5 => ?_)
  have g6 : 0 ≤ z5.toInt ∧ z5.toInt ≤ 2 ^ 6 := by rw [ez5]; exact i_shl1 rfl (by omega) (by omega) (by decide)
  refine lv_istore_n (lv' := [(1, .int z5), (0, .ref (a 34))]) hx hb dX6_measure_19 rfl hl (by decide) rfl (fun ls hl => ?_)
  refine lv_iconst (v := 0) hx hb dX6_measure_20 (by decide) ?_
  refine lv_istore_n (lv' := [(2, .int 0), (1, .int z5), (0, .ref (a 34))]) hx hb dX6_measure_21 rfl hl (by decide) rfl (fun ls hl => ?_)
  have LP_22_k8 : ∀ (n : Nat) (u7 : St) (H : Heap) (locs : List Loc) (ls : Array Slot) (i_k8 : Int32), Wo D A (cW cy a u7) s.heap H locs → lv_has ls 4 [(2, .int i_k8), (1, .int z5), (0, .ref (a 34))] → CI a u7 → KT u u7 → 0 ≤ i_k8.toInt ∧ i_k8.toInt ≤ 64 → 64 - i_k8.toInt < (n : Int) → W p l e (rmo 4 93) s m [.ref (a 34)].toArray below meth c H locs 0 0 Q (F0 m 22 ls []) := by
    intro n
    induction n with
    | zero =>
      intro u7 H locs ls i_k8 hO hl hJ hT iv0_k8 hm_k8
      exact absurd hm_k8 (by omega)
    | succ n ih_k8 =>
      intro u7 H locs ls i_k8 hO hl hJ hT iv0_k8 hm_k8
      refine lv_iload_n hx hb dX6_measure_22 rfl (lv_at hl 0 rfl) ?_
      refine lv_iload_n hx hb dX6_measure_23 rfl (lv_at hl 1 rfl) ?_
      refine cs_ge (tgt := 86) (X := (i_k8).toInt) (Y := (z5).toInt) hx hb dX6_measure_24 (by decide) rfl rfl (fun c9 => ?_) (fun c9 => ?_)
      · refine hret _ _ _ _ _ dX6_measure_86 ?_ hO
        exact ⟨hJ, hT⟩
      · refine lv_iload_n hx hb dX6_measure_27 rfl (lv_at hl 0 rfl) ?_
        refine lv_bipush (v := 64) hx hb dX6_measure_28 (by decide) ?_
        refine cn_ge (X := (i_k8).toInt) (Y := 64) hx hb dX6_measure_30 rfl rfl (by omega) ?_ (tgt := 86) (by decide)
        refine lv_iconst (v := 0) hx hb dX6_measure_33 (by decide) ?_
        refine lv_istore_n (lv' := [(3, .int 0), (2, .int i_k8), (1, .int z5), (0, .ref (a 34))]) hx hb dX6_measure_34 rfl hl (by decide) rfl (fun ls hl => ?_)
        have LP_35_k11 : ∀ (n : Nat) (u10 : St) (H : Heap) (locs : List Loc) (ls : Array Slot) (i_k11 : Int32), Wo D A (cW cy a u10) s.heap H locs → lv_has ls 4 [(3, .int i_k11), (2, .int i_k8), (1, .int z5), (0, .ref (a 34))] → CI a u10 → KT u u10 → 0 ≤ i_k11.toInt ∧ i_k11.toInt ≤ 6 → 6 - i_k11.toInt < (n : Int) → W p l e (rmo 4 93) s m [.ref (a 34)].toArray below meth c H locs 0 0 Q (F0 m 35 ls []) := by
          intro n
          induction n with
          | zero =>
            intro u10 H locs ls i_k11 hO hl hJ hT iv0_k11 hm_k11
            exact absurd hm_k11 (by omega)
          | succ n ih_k11 =>
            intro u10 H locs ls i_k11 hO hl hJ hT iv0_k11 hm_k11
            refine lv_iload_n hx hb dX6_measure_35 rfl (lv_at hl 0 rfl) ?_
            refine lv_aload_n hx hb dX6_measure_36 rfl (lv_at hl 3 rfl) ?_
            refine gf_RX6_15 (v := .ref (a 28)) C hO 34 cW_34 rfl dX6_measure_37 ?_
            refine gf_RX6_28 (v := .ref (a 3)) C hO 28 cW_28 (congrArg (fun z : Nat => some (Value.ref z)) (CI_R0 hJ)) dX6_measure_40 ?_
            have g12 : 0 ≤ (fI u10 3 12).toInt ∧ (fI u10 3 12).toInt ≤ 6 := by have h := CI_3_12 hJ; exact h
            refine gf_RX6_34 (v := .int (fI u10 3 12)) C hO 3 cW_3 rfl dX6_measure_43 ?_
            refine cs_ge (tgt := 80) (X := (i_k11).toInt) (Y := ((fI u10 3 12)).toInt) hx hb dX6_measure_46 (by decide) rfl rfl (fun c13 => ?_) (fun c13 => ?_)
            · have e14 : ((i_k8 + 1)).toInt = (i_k8).toInt + 1 := i_add rfl rfl (by omega)
              refine lv_iinc (v := (i_k8 + 1)) (lv' := [(2, .int (i_k8 + 1)), (3, .int i_k11), (1, .int z5), (0, .ref (a 34))]) hx hb dX6_measure_80 hl (k := 1) rfl rfl (by decide) rfl (fun ls hl => ?_)
              refine lv_goto (tgt := 22) hx hb dX6_measure_83 (by decide) ?_
              exact ih_k8 _ _ _ _ ((i_k8 + 1)) hO (lv_sub hl [0, 2, 3] rfl) (by exact hJ) (by exact hT) (by first | decide | omega) (by first | decide | omega)
            · refine lv_aload_n hx hb dX6_measure_49 rfl (lv_at hl 3 rfl) ?_
              refine gf_RX6_11 (v := .ref (a 35)) C hO 34 cW_34 rfl dX6_measure_50 ?_
              refine lv_iload_n hx hb dX6_measure_53 rfl (lv_at hl 1 rfl) ?_
              refine lv_bipush (v := 6) hx hb dX6_measure_54 (by decide) ?_
              have e15 : ((i_k8 * 6)).toInt = (i_k8).toInt * 6 := i_mul rfl rfl (by omega)
              refine lv_imul hx hb dX6_measure_56 ?_
              refine lv_iload_n hx hb dX6_measure_57 rfl (lv_at hl 0 rfl) ?_
              have e16 : (((i_k8 * 6) + i_k11)).toInt = ((i_k8).toInt * 6) + (i_k11).toInt := i_add e15 rfl (by omega)
              refine lv_iadd hx hb dX6_measure_58 ?_
              refine lv_iload_n hx hb dX6_measure_59 rfl (lv_at hl 1 rfl) ?_
              refine bs_ne (tgt := 67) (X := (i_k8).toInt) hx hb dX6_measure_60 (by decide) rfl (fun c17 => ?_) (fun c17 => ?_)
              · refine lv_aload_n hx hb dX6_measure_67 rfl (lv_at hl 3 rfl) ?_
                refine lv_iload_n hx hb dX6_measure_68 rfl (lv_at hl 1 rfl) ?_
                refine lv_iload_n hx hb dX6_measure_69 rfl (lv_at hl 0 rfl) ?_
                refine cVi (w := cW cy a) (As := [.int i_k8, .int i_k11]) (rest := [.int ((i_k8 * 6) + i_k11), .ref (a 35)]) C hO (T_X6_hoursFrom l D cy a _ (by exact hJ) (i_k8) (i_k11) (by first | omega | decide) (by first | omega | decide)) (cwV 2 ht (gV wd_1040 wd_1042 wd_35 wd_118 wd_1043) rfl rfl rfl hd_yX6_hoursFrom ⟨Nat.le_of_ble_eq_true rfl, Nat.le_of_ble_eq_true rfl⟩) 34 rfl cW_34 rfl rfl hl.1 (Nat.le_of_ble_eq_true rfl) dX6_measure_70 rfl ⟨Nat.zero_le _, Nat.zero_le _⟩ (fun r18 u19 H locs hp20 hO => ?_)
                have hu19 := hp20
                rw [hu19] at hO
                refine aIs C hO 35 cW_35 (i_in (X := (((i_k8).toInt * 6) + (i_k11).toInt)) e16 (by omega) (by omega)) cW_s35 dX6_measure_73 (fun H locs hO => ?_)
                have hJ := CIsA hO hJ
                have e21 : ((i_k11 + 1)).toInt = (i_k11).toInt + 1 := i_add rfl rfl (by omega)
                refine lv_iinc (v := (i_k11 + 1)) (lv' := [(3, .int (i_k11 + 1)), (2, .int i_k8), (1, .int z5), (0, .ref (a 34))]) hx hb dX6_measure_74 hl (k := 0) rfl rfl (by decide) rfl (fun ls hl => ?_)
                refine lv_goto (tgt := 35) hx hb dX6_measure_77 (by decide) ?_
                exact ih_k11 _ _ _ _ ((i_k11 + 1)) hO (lv_sub hl [0, 1, 2, 3] rfl) (by exact hJ) (by exact hT) (by first | decide | omega) (by first | decide | omega)
              · refine lv_iconst (v := 0) hx hb dX6_measure_63 (by decide) ?_
                refine lv_goto (tgt := 73) hx hb dX6_measure_64 (by decide) ?_
                refine aIs C hO 35 cW_35 (i_in (X := (((i_k8).toInt * 6) + (i_k11).toInt)) e16 (by omega) (by omega)) cW_s35 dX6_measure_73 (fun H locs hO => ?_)
                have hJ := CIsA hO hJ
                have e22 : ((i_k11 + 1)).toInt = (i_k11).toInt + 1 := i_add rfl rfl (by omega)
                refine lv_iinc (v := (i_k11 + 1)) (lv' := [(3, .int (i_k11 + 1)), (2, .int i_k8), (1, .int z5), (0, .ref (a 34))]) hx hb dX6_measure_74 hl (k := 0) rfl rfl (by decide) rfl (fun ls hl => ?_)
                refine lv_goto (tgt := 35) hx hb dX6_measure_77 (by decide) ?_
                exact ih_k11 _ _ _ _ ((i_k11 + 1)) hO (lv_sub hl [0, 1, 2, 3] rfl) (by exact hJ) (by exact hT) (by first | decide | omega) (by first | decide | omega)
        exact LP_35_k11 4000 _ _ _ _ (0) hO (lv_sub hl [0, 1, 2, 3] rfl) (by exact hJ) (by exact hT) (by first | decide | omega) (by first | decide | omega)
  exact LP_22_k8 4000 _ _ _ _ (0) hO (lv_sub hl [0, 1, 2] rfl) (by exact hJ) (by exact hT) (by first | decide | omega) (by first | decide | omega)
theorem dX6_firstBest_0 : decode cX6_firstBest 0 = .ok (.iconst 0, 1) := by decide +kernel
theorem dX6_firstBest_1 : decode cX6_firstBest 1 = .ok (.istore_n 3, 1) := by decide +kernel
theorem dX6_firstBest_2 : decode cX6_firstBest 2 = .ok (.sipush 1001, 3) := by decide +kernel
theorem dX6_firstBest_5 : decode cX6_firstBest 5 = .ok (.istore 4, 2) := by decide +kernel
theorem dX6_firstBest_7 : decode cX6_firstBest 7 = .ok (.iconst 0, 1) := by decide +kernel
theorem dX6_firstBest_8 : decode cX6_firstBest 8 = .ok (.istore 5, 2) := by decide +kernel
theorem dX6_firstBest_10 : decode cX6_firstBest 10 = .ok (.iload 5, 2) := by decide +kernel
theorem dX6_firstBest_12 : decode cX6_firstBest 12 = .ok (.aload_n 0, 1) := by decide +kernel
theorem dX6_firstBest_13 : decode cX6_firstBest 13 = .ok (.getfield 15, 3) := by decide +kernel
theorem dX6_firstBest_16 : decode cX6_firstBest 16 = .ok (.getfield 28, 3) := by decide +kernel
theorem dX6_firstBest_19 : decode cX6_firstBest 19 = .ok (.getfield 34, 3) := by decide +kernel
theorem dX6_firstBest_22 : decode cX6_firstBest 22 = .ok (.if_icmp .ge 45, 3) := by decide +kernel
theorem dX6_firstBest_25 : decode cX6_firstBest 25 = .ok (.iload_n 1, 1) := by decide +kernel
theorem dX6_firstBest_26 : decode cX6_firstBest 26 = .ok (.iload 5, 2) := by decide +kernel
theorem dX6_firstBest_28 : decode cX6_firstBest 28 = .ok (.ishr, 1) := by decide +kernel
theorem dX6_firstBest_29 : decode cX6_firstBest 29 = .ok (.iconst 1, 1) := by decide +kernel
theorem dX6_firstBest_30 : decode cX6_firstBest 30 = .ok (.iand, 1) := by decide +kernel
theorem dX6_firstBest_31 : decode cX6_firstBest 31 = .ok (.ifCond .ne 6, 3) := by decide +kernel
theorem dX6_firstBest_34 : decode cX6_firstBest 34 = .ok (.goto 27, 3) := by decide +kernel
theorem dX6_firstBest_37 : decode cX6_firstBest 37 = .ok (.aload_n 0, 1) := by decide +kernel
theorem dX6_firstBest_38 : decode cX6_firstBest 38 = .ok (.iload_n 1, 1) := by decide +kernel
theorem dX6_firstBest_39 : decode cX6_firstBest 39 = .ok (.iload_n 2, 1) := by decide +kernel
theorem dX6_firstBest_40 : decode cX6_firstBest 40 = .ok (.iload 5, 2) := by decide +kernel
theorem dX6_firstBest_42 : decode cX6_firstBest 42 = .ok (.invokevirtual 44, 3) := by decide +kernel
theorem dX6_firstBest_45 : decode cX6_firstBest 45 = .ok (.istore 6, 2) := by decide +kernel
theorem dX6_firstBest_47 : decode cX6_firstBest 47 = .ok (.iload 6, 2) := by decide +kernel
theorem dX6_firstBest_49 : decode cX6_firstBest 49 = .ok (.iload 4, 2) := by decide +kernel
theorem dX6_firstBest_51 : decode cX6_firstBest 51 = .ok (.if_icmp .ge 10, 3) := by decide +kernel
theorem dX6_firstBest_54 : decode cX6_firstBest 54 = .ok (.iload 6, 2) := by decide +kernel
theorem dX6_firstBest_56 : decode cX6_firstBest 56 = .ok (.istore 4, 2) := by decide +kernel
theorem dX6_firstBest_58 : decode cX6_firstBest 58 = .ok (.iload 5, 2) := by decide +kernel
theorem dX6_firstBest_60 : decode cX6_firstBest 60 = .ok (.istore_n 3, 1) := by decide +kernel
theorem dX6_firstBest_61 : decode cX6_firstBest 61 = .ok (.iinc 5 1, 3) := by decide +kernel
theorem dX6_firstBest_64 : decode cX6_firstBest 64 = .ok (.goto (-54), 3) := by decide +kernel
theorem dX6_firstBest_67 : decode cX6_firstBest 67 = .ok (.iload_n 3, 1) := by decide +kernel
theorem dX6_firstBest_68 : decode cX6_firstBest 68 = .ok (.ireturn, 1) := by decide +kernel
theorem wd_1062 : (Cond.code ⟨"WebCourt$Rounds", "firstBest", "(II)I"⟩ prog_8_method_7_code (7 : Nat) (Option.some FieldType.int)) ∈ gtb := gtb_c4 233 (by decide +kernel) rfl
set_option maxHeartbeats 4000000 in
set_option maxRecDepth 100000 in
theorem T_X6_firstBest (l : Launch) (D : va_G) (cy : Nat → ClassId) (a : Nat → Nat) (u : St) (hJ : CI a u) (x1 : Int32) (x2 : Int32) (hx_x1 : 0 ≤ x1.toInt ∧ x1.toInt ≤ 63) (hx_x2 : -1 ≤ x2.toInt ∧ x2.toInt ≤ 5) : Mi l D cy (cW cy a) yX6_firstBest (.code yX6_firstBest cX6_firstBest 7 (some .int)) (rmo 3 69) [.ref (a 34), .int x1, .int x2] u (fun (r : Int32) (u' : St) => (0 ≤ r.toInt ∧ r.toInt ≤ 5) ∧ (u' = u)) := by
  refine Mi.of (own := RX6) rfl (by decide) (Nat.le_of_ble_eq_true rfl) ?_
  have hT : KT u u := KT.rf
  intro p e s m below meth c A Q ls C hret hO hl
  obtain ⟨hx, hb, hml, hown, ht, hK, hA⟩ := id C
  have hl : lv_has ls 7 [(0, .ref (a 34)), (1, .int x1), (2, .int x2)] := hl
  refine lv_iconst (v := 0) hx hb dX6_firstBest_0 (by decide) ?_
  refine lv_istore_n (lv' := [(3, .int 0), (0, .ref (a 34)), (1, .int x1), (2, .int x2)]) hx hb dX6_firstBest_1 rfl hl (by decide) rfl (fun ls hl => ?_)
  refine lv_sipush (v := 1001) hx hb dX6_firstBest_2 (by decide) ?_
  refine lv_istore (lv' := [(4, .int 1001), (3, .int 0), (0, .ref (a 34)), (1, .int x1), (2, .int x2)]) hx hb dX6_firstBest_5 hl (by decide) rfl (fun ls hl => ?_)
  refine lv_iconst (v := 0) hx hb dX6_firstBest_7 (by decide) ?_
  refine lv_istore (lv' := [(5, .int 0), (4, .int 1001), (3, .int 0), (0, .ref (a 34)), (1, .int x1), (2, .int x2)]) hx hb dX6_firstBest_8 hl (by decide) rfl (fun ls hl => ?_)
  have LP_10_k1 : ∀ (n : Nat) (H : Heap) (locs : List Loc) (ls : Array Slot) (i_k1 : Int32) (w4_k1 : Int32) (w3_k1 : Int32), Wo D A (cW cy a u) s.heap H locs → lv_has ls 7 [(5, .int i_k1), (4, .int w4_k1), (3, .int w3_k1), (0, .ref (a 34)), (1, .int x1), (2, .int x2)] → 0 ≤ i_k1.toInt ∧ i_k1.toInt ≤ 6 → 0 ≤ w3_k1.toInt ∧ w3_k1.toInt ≤ 5 → 6 - i_k1.toInt < (n : Int) → W p l e (rmo 3 69) s m [.ref (a 34), .int x1, .int x2].toArray below meth c H locs 0 0 Q (F0 m 10 ls []) := by
    intro n
    induction n with
    | zero =>
      intro H locs ls i_k1 w4_k1 w3_k1 hO hl iv0_k1 iv1_k1 hm_k1
      exact absurd hm_k1 (by omega)
    | succ n ih_k1 =>
      intro H locs ls i_k1 w4_k1 w3_k1 hO hl iv0_k1 iv1_k1 hm_k1
      refine lv_iload hx hb dX6_firstBest_10 (lv_at hl 0 rfl) ?_
      refine lv_aload_n hx hb dX6_firstBest_12 rfl (lv_at hl 3 rfl) ?_
      refine gf_RX6_15 (v := .ref (a 28)) C hO 34 cW_34 rfl dX6_firstBest_13 ?_
      refine gf_RX6_28 (v := .ref (a 3)) C hO 28 cW_28 (congrArg (fun z : Nat => some (Value.ref z)) (CI_R0 hJ)) dX6_firstBest_16 ?_
      have g2 : 0 ≤ (fI u 3 12).toInt ∧ (fI u 3 12).toInt ≤ 6 := by have h := CI_3_12 hJ; exact h
      refine gf_RX6_34 (v := .int (fI u 3 12)) C hO 3 cW_3 rfl dX6_firstBest_19 ?_
      refine cs_ge (tgt := 67) (X := (i_k1).toInt) (Y := ((fI u 3 12)).toInt) hx hb dX6_firstBest_22 (by decide) rfl rfl (fun c3 => ?_) (fun c3 => ?_)
      · refine lv_iload_n hx hb dX6_firstBest_67 rfl (lv_at hl 2 rfl) ?_
        refine hret _ _ _ _ _ _ dX6_firstBest_68 rfl ?_ hO
        exact ⟨(by first | decide | omega), rfl⟩
      · refine lv_iload_n hx hb dX6_firstBest_25 rfl (lv_at hl 4 rfl) ?_
        refine lv_iload hx hb dX6_firstBest_26 (lv_at hl 0 rfl) ?_
        refine lv_ishr hx hb dX6_firstBest_28 ?_
        refine lv_topi (fun z4 ez4 => ?_)
        have g5 : 0 ≤ z4.toInt ∧ z4.toInt ≤ (x1).toInt := by rw [ez4]; exact i_shrr rfl (by omega)
        refine lv_iconst (v := 1) hx hb dX6_firstBest_29 (by decide) ?_
        refine lv_iand hx hb dX6_firstBest_30 ?_
        refine lv_topi (fun z6 ez6 => ?_)
        have g7 : 0 ≤ z6.toInt ∧ z6.toInt ≤ (z4).toInt := by rw [ez6]; exact i_andl rfl (by omega)
        refine bs_ne (tgt := 37) (X := (z6).toInt) hx hb dX6_firstBest_31 (by decide) rfl (fun c8 => ?_) (fun c8 => ?_)
        · refine lv_aload_n hx hb dX6_firstBest_37 rfl (lv_at hl 3 rfl) ?_
          refine lv_iload_n hx hb dX6_firstBest_38 rfl (lv_at hl 4 rfl) ?_
          refine lv_iload_n hx hb dX6_firstBest_39 rfl (lv_at hl 5 rfl) ?_
          refine lv_iload hx hb dX6_firstBest_40 (lv_at hl 0 rfl) ?_
          refine cVi (w := cW cy a) (As := [.int x1, .int x2, .int i_k1]) (rest := []) C hO (T_X6_hoursBy l D cy a _ (by exact hJ) (x1) (x2) (i_k1) (by first | omega | decide) (by first | omega | decide) (by first | omega | decide)) (cwV 3 ht (gV wd_1044 wd_1046 wd_36 wd_118 wd_1047) rfl rfl rfl hd_yX6_hoursBy ⟨Nat.le_of_ble_eq_true rfl, Nat.le_of_ble_eq_true rfl⟩) 34 rfl cW_34 rfl rfl hl.1 (Nat.le_of_ble_eq_true rfl) dX6_firstBest_42 rfl ⟨Nat.zero_le _, Nat.zero_le _⟩ (fun r9 u10 H locs hp11 hO => ?_)
          have hu10 := hp11
          rw [hu10] at hO
          refine lv_istore (lv' := [(6, .int r9), (5, .int i_k1), (4, .int w4_k1), (3, .int w3_k1), (0, .ref (a 34)), (1, .int x1), (2, .int x2)]) hx hb dX6_firstBest_45 hl (by decide) rfl (fun ls hl => ?_)
          refine lv_iload hx hb dX6_firstBest_47 (lv_at hl 0 rfl) ?_
          refine lv_iload hx hb dX6_firstBest_49 (lv_at hl 2 rfl) ?_
          refine cs_ge (tgt := 61) (X := (r9).toInt) (Y := (w4_k1).toInt) hx hb dX6_firstBest_51 (by decide) rfl rfl (fun c12 => ?_) (fun c12 => ?_)
          · have e13 : ((i_k1 + 1)).toInt = (i_k1).toInt + 1 := i_add rfl rfl (by omega)
            refine lv_iinc (v := (i_k1 + 1)) (lv' := [(5, .int (i_k1 + 1)), (6, .int r9), (4, .int w4_k1), (3, .int w3_k1), (0, .ref (a 34)), (1, .int x1), (2, .int x2)]) hx hb dX6_firstBest_61 hl (k := 1) rfl rfl (by decide) rfl (fun ls hl => ?_)
            refine lv_goto (tgt := 10) hx hb dX6_firstBest_64 (by decide) ?_
            exact ih_k1 _ _ _ ((i_k1 + 1)) (w4_k1) (w3_k1) hO (lv_sub hl [0, 2, 3, 4, 5, 6] rfl) (by first | decide | omega) (by first | decide | omega) (by first | decide | omega)
          · refine lv_iload hx hb dX6_firstBest_54 (lv_at hl 0 rfl) ?_
            refine lv_istore (lv' := [(4, .int r9), (6, .int r9), (5, .int i_k1), (3, .int w3_k1), (0, .ref (a 34)), (1, .int x1), (2, .int x2)]) hx hb dX6_firstBest_56 hl (by decide) rfl (fun ls hl => ?_)
            refine lv_iload hx hb dX6_firstBest_58 (lv_at hl 2 rfl) ?_
            refine lv_istore_n (lv' := [(3, .int i_k1), (4, .int r9), (6, .int r9), (5, .int i_k1), (0, .ref (a 34)), (1, .int x1), (2, .int x2)]) hx hb dX6_firstBest_60 rfl hl (by decide) rfl (fun ls hl => ?_)
            have e14 : ((i_k1 + 1)).toInt = (i_k1).toInt + 1 := i_add rfl rfl (by omega)
            refine lv_iinc (v := (i_k1 + 1)) (lv' := [(5, .int (i_k1 + 1)), (3, .int i_k1), (4, .int r9), (6, .int r9), (0, .ref (a 34)), (1, .int x1), (2, .int x2)]) hx hb dX6_firstBest_61 hl (k := 3) rfl rfl (by decide) rfl (fun ls hl => ?_)
            refine lv_goto (tgt := 10) hx hb dX6_firstBest_64 (by decide) ?_
            exact ih_k1 _ _ _ ((i_k1 + 1)) (r9) (i_k1) hO (lv_sub hl [0, 2, 1, 4, 5, 6] rfl) (by first | decide | omega) (by first | decide | omega) (by first | decide | omega)
        · refine lv_goto (tgt := 61) hx hb dX6_firstBest_34 (by decide) ?_
          have e15 : ((i_k1 + 1)).toInt = (i_k1).toInt + 1 := i_add rfl rfl (by omega)
          refine lv_iinc (v := (i_k1 + 1)) (lv' := [(5, .int (i_k1 + 1)), (4, .int w4_k1), (3, .int w3_k1), (0, .ref (a 34)), (1, .int x1), (2, .int x2)]) hx hb dX6_firstBest_61 hl (k := 0) rfl rfl (by decide) rfl (fun ls hl => ?_)
          refine lv_goto (tgt := 10) hx hb dX6_firstBest_64 (by decide) ?_
          exact ih_k1 _ _ _ ((i_k1 + 1)) (w4_k1) (w3_k1) hO (lv_sub hl [0, 1, 2, 3, 4, 5] rfl) (by first | decide | omega) (by first | decide | omega) (by first | decide | omega)
  exact LP_10_k1 4000 _ _ _ (0) (1001) (0) hO (lv_sub hl [0, 1, 2, 3, 4, 5] rfl) (by first | decide | omega) (by first | decide | omega) (by first | decide | omega)
theorem dX6_order_0 : decode cX6_order 0 = .ok (.iload_n 1, 1) := by decide +kernel
theorem dX6_order_1 : decode cX6_order 1 = .ok (.istore_n 3, 1) := by decide +kernel
theorem dX6_order_2 : decode cX6_order 2 = .ok (.iconst (-1), 1) := by decide +kernel
theorem dX6_order_3 : decode cX6_order 3 = .ok (.istore 4, 2) := by decide +kernel
theorem dX6_order_5 : decode cX6_order 5 = .ok (.iconst 0, 1) := by decide +kernel
theorem dX6_order_6 : decode cX6_order 6 = .ok (.istore 5, 2) := by decide +kernel
theorem dX6_order_8 : decode cX6_order 8 = .ok (.iload_n 3, 1) := by decide +kernel
theorem dX6_order_9 : decode cX6_order 9 = .ok (.ifCond .eq 40, 3) := by decide +kernel
theorem dX6_order_12 : decode cX6_order 12 = .ok (.iload 5, 2) := by decide +kernel
theorem dX6_order_14 : decode cX6_order 14 = .ok (.aload_n 2, 1) := by decide +kernel
theorem dX6_order_15 : decode cX6_order 15 = .ok (.arraylength, 1) := by decide +kernel
theorem dX6_order_16 : decode cX6_order 16 = .ok (.if_icmp .ge 33, 3) := by decide +kernel
theorem dX6_order_19 : decode cX6_order 19 = .ok (.aload_n 0, 1) := by decide +kernel
theorem dX6_order_20 : decode cX6_order 20 = .ok (.iload_n 3, 1) := by decide +kernel
theorem dX6_order_21 : decode cX6_order 21 = .ok (.iload 4, 2) := by decide +kernel
theorem dX6_order_23 : decode cX6_order 23 = .ok (.invokevirtual 65, 3) := by decide +kernel
theorem dX6_order_26 : decode cX6_order 26 = .ok (.istore 4, 2) := by decide +kernel
theorem dX6_order_28 : decode cX6_order 28 = .ok (.aload_n 2, 1) := by decide +kernel
theorem dX6_order_29 : decode cX6_order 29 = .ok (.iload 5, 2) := by decide +kernel
theorem dX6_order_31 : decode cX6_order 31 = .ok (.iload 4, 2) := by decide +kernel
theorem dX6_order_33 : decode cX6_order 33 = .ok (.iastore, 1) := by decide +kernel
theorem dX6_order_34 : decode cX6_order 34 = .ok (.iinc 5 1, 3) := by decide +kernel
theorem dX6_order_37 : decode cX6_order 37 = .ok (.iload_n 3, 1) := by decide +kernel
theorem dX6_order_38 : decode cX6_order 38 = .ok (.iconst 1, 1) := by decide +kernel
theorem dX6_order_39 : decode cX6_order 39 = .ok (.iload 4, 2) := by decide +kernel
theorem dX6_order_41 : decode cX6_order 41 = .ok (.ishl, 1) := by decide +kernel
theorem dX6_order_42 : decode cX6_order 42 = .ok (.iconst (-1), 1) := by decide +kernel
theorem dX6_order_43 : decode cX6_order 43 = .ok (.ixor, 1) := by decide +kernel
theorem dX6_order_44 : decode cX6_order 44 = .ok (.iand, 1) := by decide +kernel
theorem dX6_order_45 : decode cX6_order 45 = .ok (.istore_n 3, 1) := by decide +kernel
theorem dX6_order_46 : decode cX6_order 46 = .ok (.goto (-38), 3) := by decide +kernel
theorem dX6_order_49 : decode cX6_order 49 = .ok (.iload 5, 2) := by decide +kernel
theorem dX6_order_51 : decode cX6_order 51 = .ok (.ireturn, 1) := by decide +kernel
theorem wd_1058 : (Cond.code ⟨"WebCourt$Rounds", "order", "(I[I)I"⟩ prog_8_method_6_code (6 : Nat) (Option.some FieldType.int)) ∈ gtb := gtb_c4 229 (by decide +kernel) rfl
theorem wd_1059 : (Cond.methodLink "WebCourt$Rounds" (65 : Nat) ⟨"WebCourt$Rounds", "firstBest", "(II)I"⟩) ∈ gtb := gtb_c4 230 (by decide +kernel) rfl
theorem wd_1061 : (Cond.instanceMethod ⟨"WebCourt$Rounds", "firstBest", "(II)I"⟩) ∈ gtb := gtb_c4 232 (by decide +kernel) rfl
theorem wd_37 : (Cond.selects "WebCourt$Rounds" ⟨"WebCourt$Rounds", "firstBest", "(II)I"⟩ ⟨"WebCourt$Rounds", "firstBest", "(II)I"⟩) ∈ gtb := gtb_p 37 (by decide +kernel) rfl
theorem hd_yX6_firstBest : yX6_firstBest.cls = RX6 ∧ yX6_firstBest.cls ≠ "java/lang/invoke/MethodHandle" ∧ yX6_firstBest.cls ≠ "java/lang/invoke/VarHandle" ∧ (parseMethodDescriptor yX6_firstBest.desc).map (fun d => d.parameters.length) = some 2 := by decide +kernel
set_option maxHeartbeats 4000000 in
set_option maxRecDepth 100000 in
theorem T_X6_order (l : Launch) (D : va_G) (cy : Nat → ClassId) (a : Nat → Nat) (u : St) (hJ : CI a u) (x1 : Int32) (hx_x1 : 0 ≤ x1.toInt ∧ x1.toInt ≤ 63) : Mi l D cy (cW cy a) yX6_order (.code yX6_order cX6_order 6 (some .int)) (rmo 4 95) [.ref (a 34), .int x1, .ref (a 46)] u (fun (r : Int32) (u' : St) => (0 ≤ r.toInt ∧ r.toInt ≤ 8) ∧ (CI a u') ∧ (KT u u')) := by
  refine Mi.of (own := RX6) rfl (by decide) (Nat.le_of_ble_eq_true rfl) ?_
  have hT : KT u u := KT.rf
  intro p e s m below meth c A Q ls C hret hO hl
  obtain ⟨hx, hb, hml, hown, ht, hK, hA⟩ := id C
  have hl : lv_has ls 6 [(0, .ref (a 34)), (1, .int x1), (2, .ref (a 46))] := hl
  refine lv_iload_n hx hb dX6_order_0 rfl (lv_at hl 1 rfl) ?_
  refine lv_istore_n (lv' := [(3, .int x1), (0, .ref (a 34)), (1, .int x1), (2, .ref (a 46))]) hx hb dX6_order_1 rfl hl (by decide) rfl (fun ls hl => ?_)
  refine lv_iconst (v := (-1)) hx hb dX6_order_2 (by decide) ?_
  refine lv_istore (lv' := [(4, .int (-1)), (3, .int x1), (0, .ref (a 34)), (1, .int x1), (2, .ref (a 46))]) hx hb dX6_order_3 hl (by decide) rfl (fun ls hl => ?_)
  refine lv_iconst (v := 0) hx hb dX6_order_5 (by decide) ?_
  refine lv_istore (lv' := [(5, .int 0), (4, .int (-1)), (3, .int x1), (0, .ref (a 34)), (1, .int x1), (2, .ref (a 46))]) hx hb dX6_order_6 hl (by decide) rfl (fun ls hl => ?_)
  have LP_8_k2 : ∀ (n : Nat) (u1 : St) (H : Heap) (locs : List Loc) (ls : Array Slot) (i_k2 : Int32) (l_k2 : Int32) (s_k2 : Int32), Wo D A (cW cy a u1) s.heap H locs → lv_has ls 6 [(5, .int i_k2), (4, .int l_k2), (3, .int s_k2), (0, .ref (a 34)), (1, .int x1), (2, .ref (a 46))] → CI a u1 → KT u u1 → 0 ≤ i_k2.toInt ∧ i_k2.toInt ≤ 8 → (-1) ≤ l_k2.toInt ∧ l_k2.toInt ≤ 5 → 0 ≤ s_k2.toInt ∧ s_k2.toInt ≤ 63 → 8 - i_k2.toInt < (n : Int) → W p l e (rmo 4 95) s m [.ref (a 34), .int x1, .ref (a 46)].toArray below meth c H locs 0 0 Q (F0 m 8 ls []) := by
    intro n
    induction n with
    | zero =>
      intro u1 H locs ls i_k2 l_k2 s_k2 hO hl hJ hT iv0_k2 iv1_k2 iv2_k2 hm_k2
      exact absurd hm_k2 (by omega)
    | succ n ih_k2 =>
      intro u1 H locs ls i_k2 l_k2 s_k2 hO hl hJ hT iv0_k2 iv1_k2 iv2_k2 hm_k2
      refine lv_iload_n hx hb dX6_order_8 rfl (lv_at hl 2 rfl) ?_
      refine bs_eq (tgt := 49) (X := (s_k2).toInt) hx hb dX6_order_9 (by decide) rfl (fun c3 => ?_) (fun c3 => ?_)
      · refine lv_iload hx hb dX6_order_49 (lv_at hl 0 rfl) ?_
        refine hret _ _ _ _ _ _ dX6_order_51 rfl ?_ hO
        exact ⟨(by first | decide | omega), hJ, hT⟩
      · refine lv_iload hx hb dX6_order_12 (lv_at hl 0 rfl) ?_
        refine lv_aload_n hx hb dX6_order_14 rfl (lv_at hl 5 rfl) ?_
        refine aLen (v := 8) C hO 46 1 cW_46 rfl rfl dX6_order_15 ?_
        refine cs_ge (tgt := 49) (X := (i_k2).toInt) (Y := 8) hx hb dX6_order_16 (by decide) rfl rfl (fun c4 => ?_) (fun c4 => ?_)
        · refine lv_iload hx hb dX6_order_49 (lv_at hl 0 rfl) ?_
          refine hret _ _ _ _ _ _ dX6_order_51 rfl ?_ hO
          exact ⟨(by first | decide | omega), hJ, hT⟩
        · refine lv_aload_n hx hb dX6_order_19 rfl (lv_at hl 3 rfl) ?_
          refine lv_iload_n hx hb dX6_order_20 rfl (lv_at hl 2 rfl) ?_
          refine lv_iload hx hb dX6_order_21 (lv_at hl 1 rfl) ?_
          refine cVi (w := cW cy a) (As := [.int s_k2, .int l_k2]) (rest := []) C hO (T_X6_firstBest l D cy a _ (by exact hJ) (s_k2) (l_k2) (by first | omega | decide) (by first | omega | decide)) (cwV 2 ht (gV wd_1059 wd_1061 wd_37 wd_118 wd_1062) rfl rfl rfl hd_yX6_firstBest ⟨Nat.le_of_ble_eq_true rfl, Nat.le_of_ble_eq_true rfl⟩) 34 rfl cW_34 rfl rfl hl.1 (Nat.le_of_ble_eq_true rfl) dX6_order_23 rfl ⟨Nat.zero_le _, Nat.zero_le _⟩ (fun r5 u6 H locs hp7 hO => ?_)
          obtain ⟨hr5, hu6⟩ := hp7
          rw [hu6] at hO
          refine lv_istore (lv' := [(4, .int r5), (5, .int i_k2), (3, .int s_k2), (0, .ref (a 34)), (1, .int x1), (2, .ref (a 46))]) hx hb dX6_order_26 hl (by decide) rfl (fun ls hl => ?_)
          refine lv_aload_n hx hb dX6_order_28 rfl (lv_at hl 5 rfl) ?_
          refine lv_iload hx hb dX6_order_29 (lv_at hl 1 rfl) ?_
          refine lv_iload hx hb dX6_order_31 (lv_at hl 0 rfl) ?_
          refine aIs C hO 46 cW_46 (i_in (X := (i_k2).toInt) rfl (by omega) (by omega)) cW_s46 dX6_order_33 (fun H locs hO => ?_)
          have hJ := CIsA hO hJ
          have e8 : ((i_k2 + 1)).toInt = (i_k2).toInt + 1 := i_add rfl rfl (by omega)
          refine lv_iinc (v := (i_k2 + 1)) (lv' := [(5, .int (i_k2 + 1)), (4, .int r5), (3, .int s_k2), (0, .ref (a 34)), (1, .int x1), (2, .ref (a 46))]) hx hb dX6_order_34 hl (k := 1) rfl rfl (by decide) rfl (fun ls hl => ?_)
          refine lv_iload_n hx hb dX6_order_37 rfl (lv_at hl 2 rfl) ?_
          refine lv_iconst (v := 1) hx hb dX6_order_38 (by decide) ?_
          refine lv_iload hx hb dX6_order_39 (lv_at hl 1 rfl) ?_
          refine lv_ishl hx hb dX6_order_41 ?_
          refine lv_topi (fun z9 ez9 => ?_)
          have g10 : 0 ≤ z9.toInt ∧ z9.toInt ≤ 2 ^ 5 := by rw [ez9]; exact i_shl1 rfl (by omega) (by omega) (by decide)
          refine lv_iconst (v := (-1)) hx hb dX6_order_42 (by decide) ?_
          refine lv_ixor hx hb dX6_order_43 ?_
          refine lv_topi (fun z11 ez11 => ?_)
          refine lv_iand hx hb dX6_order_44 ?_
          refine lv_topi (fun z12 ez12 => ?_)
          have g13 : 0 ≤ z12.toInt ∧ z12.toInt ≤ (s_k2).toInt := by rw [ez12]; exact i_andl rfl (by omega)
          refine lv_istore_n (lv' := [(3, .int z12), (5, .int (i_k2 + 1)), (4, .int r5), (0, .ref (a 34)), (1, .int x1), (2, .ref (a 46))]) hx hb dX6_order_45 rfl hl (by decide) rfl (fun ls hl => ?_)
          refine lv_goto (tgt := 8) hx hb dX6_order_46 (by decide) ?_
          exact ih_k2 _ _ _ _ ((i_k2 + 1)) (r5) (z12) hO (lv_sub hl [1, 2, 0, 3, 4, 5] rfl) (by exact hJ) (by exact hT) (by first | decide | omega) (by first | decide | omega) (by first | decide | omega) (by first | decide | omega)
  exact LP_8_k2 4000 _ _ _ _ (0) ((-1)) (x1) hO (lv_sub hl [0, 1, 2, 3, 4, 5] rfl) (by exact hJ) (by exact hT) (by first | decide | omega) (by first | decide | omega) (by first | decide | omega) (by first | decide | omega)
theorem dX6_mostHeard_0 : decode cX6_mostHeard 0 = .ok (.iconst 0, 1) := by decide +kernel
theorem dX6_mostHeard_1 : decode cX6_mostHeard 1 = .ok (.istore_n 3, 1) := by decide +kernel
theorem dX6_mostHeard_2 : decode cX6_mostHeard 2 = .ok (.iconst 0, 1) := by decide +kernel
theorem dX6_mostHeard_3 : decode cX6_mostHeard 3 = .ok (.istore 4, 2) := by decide +kernel
theorem dX6_mostHeard_5 : decode cX6_mostHeard 5 = .ok (.iload 4, 2) := by decide +kernel
theorem dX6_mostHeard_7 : decode cX6_mostHeard 7 = .ok (.bipush 64, 2) := by decide +kernel
theorem dX6_mostHeard_9 : decode cX6_mostHeard 9 = .ok (.if_icmp .ge 43, 3) := by decide +kernel
theorem dX6_mostHeard_12 : decode cX6_mostHeard 12 = .ok (.iload 4, 2) := by decide +kernel
theorem dX6_mostHeard_14 : decode cX6_mostHeard 14 = .ok (.iload_n 1, 1) := by decide +kernel
theorem dX6_mostHeard_15 : decode cX6_mostHeard 15 = .ok (.iconst (-1), 1) := by decide +kernel
theorem dX6_mostHeard_16 : decode cX6_mostHeard 16 = .ok (.ixor, 1) := by decide +kernel
theorem dX6_mostHeard_17 : decode cX6_mostHeard 17 = .ok (.iand, 1) := by decide +kernel
theorem dX6_mostHeard_18 : decode cX6_mostHeard 18 = .ok (.ifCond .ne 28, 3) := by decide +kernel
theorem dX6_mostHeard_21 : decode cX6_mostHeard 21 = .ok (.iload 4, 2) := by decide +kernel
theorem dX6_mostHeard_23 : decode cX6_mostHeard 23 = .ok (.invokestatic 68, 3) := by decide +kernel
theorem dX6_mostHeard_26 : decode cX6_mostHeard 26 = .ok (.iload_n 3, 1) := by decide +kernel
theorem dX6_mostHeard_27 : decode cX6_mostHeard 27 = .ok (.if_icmp .le 19, 3) := by decide +kernel
theorem dX6_mostHeard_30 : decode cX6_mostHeard 30 = .ok (.aload_n 0, 1) := by decide +kernel
theorem dX6_mostHeard_31 : decode cX6_mostHeard 31 = .ok (.iload 4, 2) := by decide +kernel
theorem dX6_mostHeard_33 : decode cX6_mostHeard 33 = .ok (.invokevirtual 74, 3) := by decide +kernel
theorem dX6_mostHeard_36 : decode cX6_mostHeard 36 = .ok (.iload_n 2, 1) := by decide +kernel
theorem dX6_mostHeard_37 : decode cX6_mostHeard 37 = .ok (.if_icmp .gt 9, 3) := by decide +kernel
theorem dX6_mostHeard_40 : decode cX6_mostHeard 40 = .ok (.iload 4, 2) := by decide +kernel
theorem dX6_mostHeard_42 : decode cX6_mostHeard 42 = .ok (.invokestatic 68, 3) := by decide +kernel
theorem dX6_mostHeard_45 : decode cX6_mostHeard 45 = .ok (.istore_n 3, 1) := by decide +kernel
theorem dX6_mostHeard_46 : decode cX6_mostHeard 46 = .ok (.iinc 4 1, 3) := by decide +kernel
theorem dX6_mostHeard_49 : decode cX6_mostHeard 49 = .ok (.goto (-44), 3) := by decide +kernel
theorem dX6_mostHeard_52 : decode cX6_mostHeard 52 = .ok (.iload_n 3, 1) := by decide +kernel
theorem dX6_mostHeard_53 : decode cX6_mostHeard 53 = .ok (.ireturn, 1) := by decide +kernel
theorem wd_1070 : (Cond.code ⟨"WebCourt$Rounds", "mostHeard", "(II)I"⟩ prog_8_method_8_code (5 : Nat) (Option.some FieldType.int)) ∈ gtb := gtb_c5 1 (by decide +kernel) rfl
theorem wd_1071 : (Cond.methodLink "WebCourt$Rounds" (68 : Nat) ⟨"java/lang/Integer", "bitCount", "(I)I"⟩) ∈ gtb := gtb_c5 2 (by decide +kernel) rfl
theorem wd_1072 : (Cond.methodLink "WebCourt$Rounds" (74 : Nat) ⟨"WebCourt$Rounds", "fewestHours", "(I)I"⟩) ∈ gtb := gtb_c5 3 (by decide +kernel) rfl
theorem wd_1052 : (Cond.instanceMethod ⟨"WebCourt$Rounds", "fewestHours", "(I)I"⟩) ∈ gtb := gtb_c4 223 (by decide +kernel) rfl
theorem wd_1053 : (Cond.selects "WebCourt$Rounds" ⟨"WebCourt$Rounds", "fewestHours", "(I)I"⟩ ⟨"WebCourt$Rounds", "fewestHours", "(I)I"⟩) ∈ gtb := gtb_c4 224 (by decide +kernel) rfl
theorem hd_yX6_fewestHours : yX6_fewestHours.cls = RX6 ∧ yX6_fewestHours.cls ≠ "java/lang/invoke/MethodHandle" ∧ yX6_fewestHours.cls ≠ "java/lang/invoke/VarHandle" ∧ (parseMethodDescriptor yX6_fewestHours.desc).map (fun d => d.parameters.length) = some 1 := by decide +kernel
set_option maxHeartbeats 4000000 in
set_option maxRecDepth 100000 in
theorem T_X6_mostHeard (l : Launch) (D : va_G) (cy : Nat → ClassId) (a : Nat → Nat) (u : St) (hJ : CI a u) (x1 : Int32) (x2 : Int32)  : Mi l D cy (cW cy a) yX6_mostHeard (.code yX6_mostHeard cX6_mostHeard 5 (some .int)) (rmo 5 114) [.ref (a 34), .int x1, .int x2] u (fun (r : Int32) (u' : St) => u' = u) := by
  refine Mi.of (own := RX6) rfl (by decide) (Nat.le_of_ble_eq_true rfl) ?_
  have hT : KT u u := KT.rf
  intro p e s m below meth c A Q ls C hret hO hl
  obtain ⟨hx, hb, hml, hown, ht, hK, hA⟩ := id C
  have hl : lv_has ls 5 [(0, .ref (a 34)), (1, .int x1), (2, .int x2)] := hl
  refine lv_iconst (v := 0) hx hb dX6_mostHeard_0 (by decide) ?_
  refine lv_istore_n (lv' := [(3, .int 0), (0, .ref (a 34)), (1, .int x1), (2, .int x2)]) hx hb dX6_mostHeard_1 rfl hl (by decide) rfl (fun ls hl => ?_)
  refine lv_iconst (v := 0) hx hb dX6_mostHeard_2 (by decide) ?_
  refine lv_istore (lv' := [(4, .int 0), (3, .int 0), (0, .ref (a 34)), (1, .int x1), (2, .int x2)]) hx hb dX6_mostHeard_3 hl (by decide) rfl (fun ls hl => ?_)
  have LP_5_k1 : ∀ (n : Nat) (H : Heap) (locs : List Loc) (ls : Array Slot) (i_k1 : Int32) (w3_k1 : Int32), Wo D A (cW cy a u) s.heap H locs → lv_has ls 5 [(4, .int i_k1), (3, .int w3_k1), (0, .ref (a 34)), (1, .int x1), (2, .int x2)] → 0 ≤ i_k1.toInt ∧ i_k1.toInt ≤ 64 → 64 - i_k1.toInt < (n : Int) → W p l e (rmo 5 114) s m [.ref (a 34), .int x1, .int x2].toArray below meth c H locs 0 0 Q (F0 m 5 ls []) := by
    intro n
    induction n with
    | zero =>
      intro H locs ls i_k1 w3_k1 hO hl iv0_k1 hm_k1
      exact absurd hm_k1 (by omega)
    | succ n ih_k1 =>
      intro H locs ls i_k1 w3_k1 hO hl iv0_k1 hm_k1
      refine lv_iload hx hb dX6_mostHeard_5 (lv_at hl 0 rfl) ?_
      refine lv_bipush (v := 64) hx hb dX6_mostHeard_7 (by decide) ?_
      refine cs_ge (tgt := 52) (X := (i_k1).toInt) (Y := 64) hx hb dX6_mostHeard_9 (by decide) rfl rfl (fun c2 => ?_) (fun c2 => ?_)
      · refine lv_iload_n hx hb dX6_mostHeard_52 rfl (lv_at hl 1 rfl) ?_
        refine hret _ _ _ _ _ _ dX6_mostHeard_53 rfl ?_ hO
        exact rfl
      · refine lv_iload hx hb dX6_mostHeard_12 (lv_at hl 0 rfl) ?_
        refine lv_iload_n hx hb dX6_mostHeard_14 rfl (lv_at hl 3 rfl) ?_
        refine lv_iconst (v := (-1)) hx hb dX6_mostHeard_15 (by decide) ?_
        refine lv_ixor hx hb dX6_mostHeard_16 ?_
        refine lv_topi (fun z3 ez3 => ?_)
        refine lv_iand hx hb dX6_mostHeard_17 ?_
        refine lv_topi (fun z4 ez4 => ?_)
        have g5 : 0 ≤ z4.toInt ∧ z4.toInt ≤ (i_k1).toInt := by rw [ez4]; exact i_andl rfl (by omega)
        refine bs_ne (tgt := 46) (X := (z4).toInt) hx hb dX6_mostHeard_18 (by decide) rfl (fun c6 => ?_) (fun c6 => ?_)
        · have e7 : ((i_k1 + 1)).toInt = (i_k1).toInt + 1 := i_add rfl rfl (by omega)
          refine lv_iinc (v := (i_k1 + 1)) (lv' := [(4, .int (i_k1 + 1)), (3, .int w3_k1), (0, .ref (a 34)), (1, .int x1), (2, .int x2)]) hx hb dX6_mostHeard_46 hl (k := 0) rfl rfl (by decide) rfl (fun ls hl => ?_)
          refine lv_goto (tgt := 5) hx hb dX6_mostHeard_49 (by decide) ?_
          exact ih_k1 _ _ _ ((i_k1 + 1)) (w3_k1) hO (lv_sub hl [0, 1, 2, 3, 4] rfl) (by first | decide | omega) (by first | decide | omega)
        · refine lv_iload hx hb dX6_mostHeard_21 (lv_at hl 0 rfl) ?_
          refine cSi (w := cW cy a) (As := [.int i_k1]) (rest := []) C hO (T_J6_bitCount_0f7a4 l D cy a _ (by exact hJ) (i_k1)) (va_cwS 1 ht (gSS wd_1071 wd_870 wd_128 wd_871) rfl rfl rfl hd_yJ6_bitCount_0f7a4 ⟨Nat.le_of_ble_eq_true rfl, Nat.le_of_ble_eq_true rfl⟩)  rfl hl.1 (Nat.le_of_ble_eq_true rfl) dX6_mostHeard_23 rfl ⟨Nat.zero_le _, Nat.zero_le _⟩ (fun r8 u9 H locs hp10 hO => ?_)
          have hu9 := hp10
          rw [hu9] at hO
          refine lv_iload_n hx hb dX6_mostHeard_26 rfl (lv_at hl 1 rfl) ?_
          refine cs_le (tgt := 46) (X := (r8).toInt) (Y := (w3_k1).toInt) hx hb dX6_mostHeard_27 (by decide) rfl rfl (fun c11 => ?_) (fun c11 => ?_)
          · have e12 : ((i_k1 + 1)).toInt = (i_k1).toInt + 1 := i_add rfl rfl (by omega)
            refine lv_iinc (v := (i_k1 + 1)) (lv' := [(4, .int (i_k1 + 1)), (3, .int w3_k1), (0, .ref (a 34)), (1, .int x1), (2, .int x2)]) hx hb dX6_mostHeard_46 hl (k := 0) rfl rfl (by decide) rfl (fun ls hl => ?_)
            refine lv_goto (tgt := 5) hx hb dX6_mostHeard_49 (by decide) ?_
            exact ih_k1 _ _ _ ((i_k1 + 1)) (w3_k1) hO (lv_sub hl [0, 1, 2, 3, 4] rfl) (by first | decide | omega) (by first | decide | omega)
          · refine lv_aload_n hx hb dX6_mostHeard_30 rfl (lv_at hl 2 rfl) ?_
            refine lv_iload hx hb dX6_mostHeard_31 (lv_at hl 0 rfl) ?_
            refine cVi (w := cW cy a) (As := [.int i_k1]) (rest := []) C hO (T_X6_fewestHours l D cy a _ (by exact hJ) (i_k1) (by first | omega | decide)) (cwV 1 ht (gV wd_1072 wd_1052 wd_1053 wd_118 wd_1054) rfl rfl rfl hd_yX6_fewestHours ⟨Nat.le_of_ble_eq_true rfl, Nat.le_of_ble_eq_true rfl⟩) 34 rfl cW_34 rfl rfl hl.1 (Nat.le_of_ble_eq_true rfl) dX6_mostHeard_33 rfl ⟨Nat.zero_le _, Nat.zero_le _⟩ (fun r13 u14 H locs hp15 hO => ?_)
            have hu14 := hp15
            rw [hu14] at hO
            refine lv_iload_n hx hb dX6_mostHeard_36 rfl (lv_at hl 4 rfl) ?_
            refine cs_gt (tgt := 46) (X := (r13).toInt) (Y := (x2).toInt) hx hb dX6_mostHeard_37 (by decide) rfl rfl (fun c16 => ?_) (fun c16 => ?_)
            · have e17 : ((i_k1 + 1)).toInt = (i_k1).toInt + 1 := i_add rfl rfl (by omega)
              refine lv_iinc (v := (i_k1 + 1)) (lv' := [(4, .int (i_k1 + 1)), (3, .int w3_k1), (0, .ref (a 34)), (1, .int x1), (2, .int x2)]) hx hb dX6_mostHeard_46 hl (k := 0) rfl rfl (by decide) rfl (fun ls hl => ?_)
              refine lv_goto (tgt := 5) hx hb dX6_mostHeard_49 (by decide) ?_
              exact ih_k1 _ _ _ ((i_k1 + 1)) (w3_k1) hO (lv_sub hl [0, 1, 2, 3, 4] rfl) (by first | decide | omega) (by first | decide | omega)
            · refine lv_iload hx hb dX6_mostHeard_40 (lv_at hl 0 rfl) ?_
              refine cSi (w := cW cy a) (As := [.int i_k1]) (rest := []) C hO (T_J6_bitCount_0f7a4 l D cy a _ (by exact hJ) (i_k1)) (va_cwS 1 ht (gSS wd_1071 wd_870 wd_128 wd_871) rfl rfl rfl hd_yJ6_bitCount_0f7a4 ⟨Nat.le_of_ble_eq_true rfl, Nat.le_of_ble_eq_true rfl⟩)  rfl hl.1 (Nat.le_of_ble_eq_true rfl) dX6_mostHeard_42 rfl ⟨Nat.zero_le _, Nat.zero_le _⟩ (fun r18 u19 H locs hp20 hO => ?_)
              have hu19 := hp20
              rw [hu19] at hO
              refine lv_istore_n (lv' := [(3, .int r18), (4, .int i_k1), (0, .ref (a 34)), (1, .int x1), (2, .int x2)]) hx hb dX6_mostHeard_45 rfl hl (by decide) rfl (fun ls hl => ?_)
              have e21 : ((i_k1 + 1)).toInt = (i_k1).toInt + 1 := i_add rfl rfl (by omega)
              refine lv_iinc (v := (i_k1 + 1)) (lv' := [(4, .int (i_k1 + 1)), (3, .int r18), (0, .ref (a 34)), (1, .int x1), (2, .int x2)]) hx hb dX6_mostHeard_46 hl (k := 1) rfl rfl (by decide) rfl (fun ls hl => ?_)
              refine lv_goto (tgt := 5) hx hb dX6_mostHeard_49 (by decide) ?_
              exact ih_k1 _ _ _ ((i_k1 + 1)) (r18) hO (lv_sub hl [0, 1, 2, 3, 4] rfl) (by first | decide | omega) (by first | decide | omega)
  exact LP_5_k1 4000 _ _ _ (0) (0) hO (lv_sub hl [0, 1, 2, 3, 4] rfl) (by first | decide | omega) (by first | decide | omega)
