theorem dX1_fewestPleas_0 : decode cX1_fewestPleas 0 = .ok (.iconst 0, 1) := by decide +kernel
theorem dX1_fewestPleas_1 : decode cX1_fewestPleas 1 = .ok (.istore_n 3, 1) := by decide +kernel
theorem dX1_fewestPleas_2 : decode cX1_fewestPleas 2 = .ok (.iconst 5, 1) := by decide +kernel
theorem dX1_fewestPleas_3 : decode cX1_fewestPleas 3 = .ok (.istore 4, 2) := by decide +kernel
theorem dX1_fewestPleas_5 : decode cX1_fewestPleas 5 = .ok (.iconst 1, 1) := by decide +kernel
theorem dX1_fewestPleas_6 : decode cX1_fewestPleas 6 = .ok (.istore 5, 2) := by decide +kernel
theorem dX1_fewestPleas_8 : decode cX1_fewestPleas 8 = .ok (.iload 5, 2) := by decide +kernel
theorem dX1_fewestPleas_10 : decode cX1_fewestPleas 10 = .ok (.sipush 256, 3) := by decide +kernel
theorem dX1_fewestPleas_13 : decode cX1_fewestPleas 13 = .ok (.if_icmp .ge 51, 3) := by decide +kernel
theorem dX1_fewestPleas_16 : decode cX1_fewestPleas 16 = .ok (.iload 5, 2) := by decide +kernel
theorem dX1_fewestPleas_18 : decode cX1_fewestPleas 18 = .ok (.iload_n 2, 1) := by decide +kernel
theorem dX1_fewestPleas_19 : decode cX1_fewestPleas 19 = .ok (.iconst (-1), 1) := by decide +kernel
theorem dX1_fewestPleas_20 : decode cX1_fewestPleas 20 = .ok (.ixor, 1) := by decide +kernel
theorem dX1_fewestPleas_21 : decode cX1_fewestPleas 21 = .ok (.iand, 1) := by decide +kernel
theorem dX1_fewestPleas_22 : decode cX1_fewestPleas 22 = .ok (.ifCond .ne 36, 3) := by decide +kernel
theorem dX1_fewestPleas_25 : decode cX1_fewestPleas 25 = .ok (.iload 5, 2) := by decide +kernel
theorem dX1_fewestPleas_27 : decode cX1_fewestPleas 27 = .ok (.invokestatic 22, 3) := by decide +kernel
theorem dX1_fewestPleas_30 : decode cX1_fewestPleas 30 = .ok (.iload 4, 2) := by decide +kernel
theorem dX1_fewestPleas_32 : decode cX1_fewestPleas 32 = .ok (.if_icmp .ge 26, 3) := by decide +kernel
theorem dX1_fewestPleas_35 : decode cX1_fewestPleas 35 = .ok (.aload_n 0, 1) := by decide +kernel
theorem dX1_fewestPleas_36 : decode cX1_fewestPleas 36 = .ok (.getfield 18, 3) := by decide +kernel
theorem dX1_fewestPleas_39 : decode cX1_fewestPleas 39 = .ok (.iload_n 1, 1) := by decide +kernel
theorem dX1_fewestPleas_40 : decode cX1_fewestPleas 40 = .ok (.iload 5, 2) := by decide +kernel
theorem dX1_fewestPleas_42 : decode cX1_fewestPleas 42 = .ok (.invokevirtual 28, 3) := by decide +kernel
theorem dX1_fewestPleas_45 : decode cX1_fewestPleas 45 = .ok (.ifCond .le 13, 3) := by decide +kernel
theorem dX1_fewestPleas_48 : decode cX1_fewestPleas 48 = .ok (.iload 5, 2) := by decide +kernel
theorem dX1_fewestPleas_50 : decode cX1_fewestPleas 50 = .ok (.istore_n 3, 1) := by decide +kernel
theorem dX1_fewestPleas_51 : decode cX1_fewestPleas 51 = .ok (.iload 5, 2) := by decide +kernel
theorem dX1_fewestPleas_53 : decode cX1_fewestPleas 53 = .ok (.invokestatic 22, 3) := by decide +kernel
theorem dX1_fewestPleas_56 : decode cX1_fewestPleas 56 = .ok (.istore 4, 2) := by decide +kernel
theorem dX1_fewestPleas_58 : decode cX1_fewestPleas 58 = .ok (.iinc 5 1, 3) := by decide +kernel
theorem dX1_fewestPleas_61 : decode cX1_fewestPleas 61 = .ok (.goto (-53), 3) := by decide +kernel
theorem dX1_fewestPleas_64 : decode cX1_fewestPleas 64 = .ok (.iload_n 3, 1) := by decide +kernel
theorem dX1_fewestPleas_65 : decode cX1_fewestPleas 65 = .ok (.ireturn, 1) := by decide +kernel
theorem wd_994 : (Cond.code ⟨"WebCourt$Counsel", "fewestPleas", "(II)I"⟩ prog_3_method_2_code (6 : Nat) (Option.some FieldType.int)) ∈ gtb := gtb_c4 165 (by decide +kernel) rfl
theorem wd_995 : (Cond.methodLink "WebCourt$Counsel" (22 : Nat) ⟨"java/lang/Integer", "bitCount", "(I)I"⟩) ∈ gtb := gtb_c4 166 (by decide +kernel) rfl
theorem wd_426 : (Cond.fieldLink "WebCourt$Counsel" (18 : Nat) "WebCourt$Counsel" "court" "LWebCourt$Court;") ∈ gtb := gtb_c2 77 (by decide +kernel) rfl
theorem wd_429 : (Cond.laysFinal "WebCourt$Counsel" "WebCourt$Counsel" "court" "LWebCourt$Court;") ∈ gtb := gtb_c2 80 (by decide +kernel) rfl
theorem wd_431 : (Cond.laysFinal "WebCourt$Counsel" "WebCourt$Counsel" "alone" "[I") ∈ gtb := gtb_c2 82 (by decide +kernel) rfl
theorem wd_433 : (Cond.laysFinal "WebCourt$Counsel" "WebCourt$Counsel" "otherAlone" "[I") ∈ gtb := gtb_c2 84 (by decide +kernel) rfl
theorem inFX1 : ∀ w ∈ u_ws RX1 TX1 3, w ∈ gtb := by
  show ∀ w ∈ [u_lay RX1 TX1 0, u_lay RX1 TX1 1, u_lay RX1 TX1 2], w ∈ gtb
  exact List.forall_mem_cons.mpr ⟨wd_429, List.forall_mem_cons.mpr ⟨wd_431, List.forall_mem_cons.mpr ⟨wd_433, fun _ h => absurd h List.not_mem_nil⟩⟩⟩
theorem gf_RX1_18 {p : Program} {l : Launch} {e : Env} {R : Room} {s : State} {m : MethodId} {args : Array Value} {below : List Frame} {meth : Method} {c : Code} {H : Heap} {locs : List Loc} {cells slots : Nat} {Q : State → Prop} {cc : ByteArray} {pc nL : Nat} {ls : Array Slot} {rest : List Value} {D : va_G} {cy : Nat → ClassId} {A : Nat → Prop} {ws : va_W} {b : Nat} {fs : List Value} {v : Value} (C : Cx p s m args c cc nL RX1 D cy A) (hO : Wo D A ws s.heap H locs) (q0 : Nat) (he : ws[q0]? = some (b, .inr (1, fs))) (hv : fs[0]? = some v) (hdg : decode cc pc = .ok (.getfield 18, 3)) (kk : W p l e R s m args below meth c H locs cells slots Q (F0 m (pc + 3) ls (v :: rest))) : W p l e R s m args below meth c H locs cells slots Q (F0 m pc ls (.ref b :: rest)) := gF (k := 0) C hO q0 he rfl inFX1 (by decide) wd_426 rfl hv hdg kk
theorem wd_996 : (Cond.methodLink "WebCourt$Counsel" (28 : Nat) ⟨"WebCourt$Court", "judged", "(II)I"⟩) ∈ gtb := gtb_c4 167 (by decide +kernel) rfl
theorem wd_997 : (Cond.instanceMethod ⟨"WebCourt$Court", "judged", "(II)I"⟩) ∈ gtb := gtb_c4 168 (by decide +kernel) rfl
theorem wd_998 : (Cond.selects "WebCourt$Court" ⟨"WebCourt$Court", "judged", "(II)I"⟩ ⟨"WebCourt$Court", "judged", "(II)I"⟩) ∈ gtb := gtb_c4 169 (by decide +kernel) rfl
theorem hd_yX2_judged : yX2_judged.cls = RX2 ∧ yX2_judged.cls ≠ "java/lang/invoke/MethodHandle" ∧ yX2_judged.cls ≠ "java/lang/invoke/VarHandle" ∧ (parseMethodDescriptor yX2_judged.desc).map (fun d => d.parameters.length) = some 2 := by decide +kernel
set_option maxHeartbeats 4000000 in
set_option maxRecDepth 100000 in
theorem T_X1_fewestPleas (l : Launch) (D : va_G) (cy : Nat → ClassId) (a : Nat → Nat) (u : St) (hJ : CI a u) (x1 : Int32) (x2 : Int32) (hx_x1 : 0 ≤ x1.toInt ∧ x1.toInt ≤ 5) : Mi l D cy (cW cy a) yX1_fewestPleas (.code yX1_fewestPleas cX1_fewestPleas 6 (some .int)) (rmo 4 100) [.ref (a 36), .int x1, .int x2] u (fun (r : Int32) (u' : St) => (CI a u') ∧ (KT u u')) := by
  refine Mi.of (own := RX1) rfl (by decide) (Nat.le_of_ble_eq_true rfl) ?_
  have hT : KT u u := KT.rf
  intro p e s m below meth c A Q ls C hret hO hl
  obtain ⟨hx, hb, hml, hown, ht, hK, hA⟩ := id C
  have hl : lv_has ls 6 [(0, .ref (a 36)), (1, .int x1), (2, .int x2)] := hl
  refine lv_iconst (v := 0) hx hb dX1_fewestPleas_0 (by decide) ?_
  refine lv_istore_n (lv' := [(3, .int 0), (0, .ref (a 36)), (1, .int x1), (2, .int x2)]) hx hb dX1_fewestPleas_1 rfl hl (by decide) rfl (fun ls hl => ?_)
  refine lv_iconst (v := 5) hx hb dX1_fewestPleas_2 (by decide) ?_
  refine lv_istore (lv' := [(4, .int 5), (3, .int 0), (0, .ref (a 36)), (1, .int x1), (2, .int x2)]) hx hb dX1_fewestPleas_3 hl (by decide) rfl (fun ls hl => ?_)
  refine lv_iconst (v := 1) hx hb dX1_fewestPleas_5 (by decide) ?_
  refine lv_istore (lv' := [(5, .int 1), (4, .int 5), (3, .int 0), (0, .ref (a 36)), (1, .int x1), (2, .int x2)]) hx hb dX1_fewestPleas_6 hl (by decide) rfl (fun ls hl => ?_)
  have LP_8_k2 : ∀ (n : Nat) (u1 : St) (H : Heap) (locs : List Loc) (ls : Array Slot) (i_k2 : Int32) (w4_k2 : Int32) (w3_k2 : Int32), Wo D A (cW cy a u1) s.heap H locs → lv_has ls 6 [(5, .int i_k2), (4, .int w4_k2), (3, .int w3_k2), (0, .ref (a 36)), (1, .int x1), (2, .int x2)] → CI a u1 → KT u u1 → 1 ≤ i_k2.toInt ∧ i_k2.toInt ≤ 256 → 256 - i_k2.toInt < (n : Int) → W p l e (rmo 4 100) s m [.ref (a 36), .int x1, .int x2].toArray below meth c H locs 0 0 Q (F0 m 8 ls []) := by
    intro n
    induction n with
    | zero =>
      intro u1 H locs ls i_k2 w4_k2 w3_k2 hO hl hJ hT iv0_k2 hm_k2
      exact absurd hm_k2 (by omega)
    | succ n ih_k2 =>
      intro u1 H locs ls i_k2 w4_k2 w3_k2 hO hl hJ hT iv0_k2 hm_k2
      refine lv_iload hx hb dX1_fewestPleas_8 (lv_at hl 0 rfl) ?_
      refine lv_sipush (v := 256) hx hb dX1_fewestPleas_10 (by decide) ?_
      refine cs_ge (tgt := 64) (X := (i_k2).toInt) (Y := 256) hx hb dX1_fewestPleas_13 (by decide) rfl rfl (fun c3 => ?_) (fun c3 => ?_)
      · refine lv_iload_n hx hb dX1_fewestPleas_64 rfl (lv_at hl 2 rfl) ?_
        refine hret _ _ _ _ _ _ dX1_fewestPleas_65 rfl ?_ hO
        exact ⟨hJ, hT⟩
      · refine lv_iload hx hb dX1_fewestPleas_16 (lv_at hl 0 rfl) ?_
        refine lv_iload_n hx hb dX1_fewestPleas_18 rfl (lv_at hl 5 rfl) ?_
        refine lv_iconst (v := (-1)) hx hb dX1_fewestPleas_19 (by decide) ?_
        refine lv_ixor hx hb dX1_fewestPleas_20 ?_
        refine lv_topi (fun z4 ez4 => ?_)
        refine lv_iand hx hb dX1_fewestPleas_21 ?_
        refine lv_topi (fun z5 ez5 => ?_)
        have g6 : 0 ≤ z5.toInt ∧ z5.toInt ≤ (i_k2).toInt := by rw [ez5]; exact i_andl rfl (by omega)
        refine bs_ne (tgt := 58) (X := (z5).toInt) hx hb dX1_fewestPleas_22 (by decide) rfl (fun c7 => ?_) (fun c7 => ?_)
        · have e8 : ((i_k2 + 1)).toInt = (i_k2).toInt + 1 := i_add rfl rfl (by omega)
          refine lv_iinc (v := (i_k2 + 1)) (lv' := [(5, .int (i_k2 + 1)), (4, .int w4_k2), (3, .int w3_k2), (0, .ref (a 36)), (1, .int x1), (2, .int x2)]) hx hb dX1_fewestPleas_58 hl (k := 0) rfl rfl (by decide) rfl (fun ls hl => ?_)
          refine lv_goto (tgt := 8) hx hb dX1_fewestPleas_61 (by decide) ?_
          exact ih_k2 _ _ _ _ ((i_k2 + 1)) (w4_k2) (w3_k2) hO (lv_sub hl [0, 1, 2, 3, 4, 5] rfl) (by exact hJ) (by exact hT) (by first | decide | omega) (by first | decide | omega)
        · refine lv_iload hx hb dX1_fewestPleas_25 (lv_at hl 0 rfl) ?_
          refine cSi (w := cW cy a) (As := [.int i_k2]) (rest := []) C hO (T_J6_bitCount_0f7a4 l D cy a _ (by exact hJ) (i_k2)) (va_cwS 1 ht (gSS wd_995 wd_870 wd_128 wd_871) rfl rfl rfl hd_yJ6_bitCount_0f7a4 ⟨Nat.le_of_ble_eq_true rfl, Nat.le_of_ble_eq_true rfl⟩)  rfl hl.1 (Nat.le_of_ble_eq_true rfl) dX1_fewestPleas_27 rfl ⟨Nat.zero_le _, Nat.zero_le _⟩ (fun r9 u10 H locs hp11 hO => ?_)
          have hu10 := hp11
          rw [hu10] at hO
          refine lv_iload hx hb dX1_fewestPleas_30 (lv_at hl 1 rfl) ?_
          refine cs_ge (tgt := 58) (X := (r9).toInt) (Y := (w4_k2).toInt) hx hb dX1_fewestPleas_32 (by decide) rfl rfl (fun c12 => ?_) (fun c12 => ?_)
          · have e13 : ((i_k2 + 1)).toInt = (i_k2).toInt + 1 := i_add rfl rfl (by omega)
            refine lv_iinc (v := (i_k2 + 1)) (lv' := [(5, .int (i_k2 + 1)), (4, .int w4_k2), (3, .int w3_k2), (0, .ref (a 36)), (1, .int x1), (2, .int x2)]) hx hb dX1_fewestPleas_58 hl (k := 0) rfl rfl (by decide) rfl (fun ls hl => ?_)
            refine lv_goto (tgt := 8) hx hb dX1_fewestPleas_61 (by decide) ?_
            exact ih_k2 _ _ _ _ ((i_k2 + 1)) (w4_k2) (w3_k2) hO (lv_sub hl [0, 1, 2, 3, 4, 5] rfl) (by exact hJ) (by exact hT) (by first | decide | omega) (by first | decide | omega)
          · refine lv_aload_n hx hb dX1_fewestPleas_35 rfl (lv_at hl 3 rfl) ?_
            refine gf_RX1_18 (v := .ref (a 28)) C hO 36 cW_36 rfl dX1_fewestPleas_36 ?_
            refine lv_iload_n hx hb dX1_fewestPleas_39 rfl (lv_at hl 4 rfl) ?_
            refine lv_iload hx hb dX1_fewestPleas_40 (lv_at hl 0 rfl) ?_
            refine cVi (w := cW cy a) (As := [.int x1, .int i_k2]) (rest := []) C hO (T_X2_judged l D cy a _ (by exact hJ) (x1) (i_k2) (by first | omega | decide)) (cwV 2 ht (gV wd_996 wd_997 wd_998 wd_115 wd_999) rfl rfl rfl hd_yX2_judged ⟨Nat.le_of_ble_eq_true rfl, Nat.le_of_ble_eq_true rfl⟩) 28 rfl cW_28 rfl rfl hl.1 (Nat.le_of_ble_eq_true rfl) dX1_fewestPleas_42 rfl ⟨Nat.zero_le _, Nat.zero_le _⟩ (fun r14 u15 H locs hp16 hO => ?_)
            obtain ⟨hJ, hTu15⟩ := hp16
            have hT : KT u u15 := KT.tr (by exact hT) hTu15
            refine bs_le (tgt := 58) (X := (r14).toInt) hx hb dX1_fewestPleas_45 (by decide) rfl (fun c17 => ?_) (fun c17 => ?_)
            · have e18 : ((i_k2 + 1)).toInt = (i_k2).toInt + 1 := i_add rfl rfl (by omega)
              refine lv_iinc (v := (i_k2 + 1)) (lv' := [(5, .int (i_k2 + 1)), (4, .int w4_k2), (3, .int w3_k2), (0, .ref (a 36)), (1, .int x1), (2, .int x2)]) hx hb dX1_fewestPleas_58 hl (k := 0) rfl rfl (by decide) rfl (fun ls hl => ?_)
              refine lv_goto (tgt := 8) hx hb dX1_fewestPleas_61 (by decide) ?_
              exact ih_k2 _ _ _ _ ((i_k2 + 1)) (w4_k2) (w3_k2) hO (lv_sub hl [0, 1, 2, 3, 4, 5] rfl) (by exact hJ) (by exact hT) (by first | decide | omega) (by first | decide | omega)
            · refine lv_iload hx hb dX1_fewestPleas_48 (lv_at hl 0 rfl) ?_
              refine lv_istore_n (lv' := [(3, .int i_k2), (5, .int i_k2), (4, .int w4_k2), (0, .ref (a 36)), (1, .int x1), (2, .int x2)]) hx hb dX1_fewestPleas_50 rfl hl (by decide) rfl (fun ls hl => ?_)
              refine lv_iload hx hb dX1_fewestPleas_51 (lv_at hl 1 rfl) ?_
              refine cSi (w := cW cy a) (As := [.int i_k2]) (rest := []) C hO (T_J6_bitCount_0f7a4 l D cy a _ (by exact hJ) (i_k2)) (va_cwS 1 ht (gSS wd_995 wd_870 wd_128 wd_871) rfl rfl rfl hd_yJ6_bitCount_0f7a4 ⟨Nat.le_of_ble_eq_true rfl, Nat.le_of_ble_eq_true rfl⟩)  rfl hl.1 (Nat.le_of_ble_eq_true rfl) dX1_fewestPleas_53 rfl ⟨Nat.zero_le _, Nat.zero_le _⟩ (fun r19 u20 H locs hp21 hO => ?_)
              have hu20 := hp21
              rw [hu20] at hO
              refine lv_istore (lv' := [(4, .int r19), (3, .int i_k2), (5, .int i_k2), (0, .ref (a 36)), (1, .int x1), (2, .int x2)]) hx hb dX1_fewestPleas_56 hl (by decide) rfl (fun ls hl => ?_)
              have e22 : ((i_k2 + 1)).toInt = (i_k2).toInt + 1 := i_add rfl rfl (by omega)
              refine lv_iinc (v := (i_k2 + 1)) (lv' := [(5, .int (i_k2 + 1)), (4, .int r19), (3, .int i_k2), (0, .ref (a 36)), (1, .int x1), (2, .int x2)]) hx hb dX1_fewestPleas_58 hl (k := 2) rfl rfl (by decide) rfl (fun ls hl => ?_)
              refine lv_goto (tgt := 8) hx hb dX1_fewestPleas_61 (by decide) ?_
              exact ih_k2 _ _ _ _ ((i_k2 + 1)) (r19) (i_k2) hO (lv_sub hl [0, 1, 2, 3, 4, 5] rfl) (by exact hJ) (by exact hT) (by first | decide | omega) (by first | decide | omega)
  exact LP_8_k2 4000 _ _ _ _ (1) (5) (0) hO (lv_sub hl [0, 1, 2, 3, 4, 5] rfl) (by exact hJ) (by exact hT) (by first | decide | omega) (by first | decide | omega)
theorem dX1_withoutHope_0 : decode cX1_withoutHope 0 = .ok (.iconst 1, 1) := by decide +kernel
theorem dX1_withoutHope_1 : decode cX1_withoutHope 1 = .ok (.aload_n 0, 1) := by decide +kernel
theorem dX1_withoutHope_2 : decode cX1_withoutHope 2 = .ok (.getfield 18, 3) := by decide +kernel
theorem dX1_withoutHope_5 : decode cX1_withoutHope 5 = .ok (.getfield 34, 3) := by decide +kernel
theorem dX1_withoutHope_8 : decode cX1_withoutHope 8 = .ok (.getfield 38, 3) := by decide +kernel
theorem dX1_withoutHope_11 : decode cX1_withoutHope 11 = .ok (.ishl, 1) := by decide +kernel
theorem dX1_withoutHope_12 : decode cX1_withoutHope 12 = .ok (.iconst 1, 1) := by decide +kernel
theorem dX1_withoutHope_13 : decode cX1_withoutHope 13 = .ok (.isub, 1) := by decide +kernel
theorem dX1_withoutHope_14 : decode cX1_withoutHope 14 = .ok (.istore_n 1, 1) := by decide +kernel
theorem dX1_withoutHope_15 : decode cX1_withoutHope 15 = .ok (.iconst 0, 1) := by decide +kernel
theorem dX1_withoutHope_16 : decode cX1_withoutHope 16 = .ok (.istore_n 2, 1) := by decide +kernel
theorem dX1_withoutHope_17 : decode cX1_withoutHope 17 = .ok (.iconst 0, 1) := by decide +kernel
theorem dX1_withoutHope_18 : decode cX1_withoutHope 18 = .ok (.istore_n 3, 1) := by decide +kernel
theorem dX1_withoutHope_19 : decode cX1_withoutHope 19 = .ok (.iload_n 3, 1) := by decide +kernel
theorem dX1_withoutHope_20 : decode cX1_withoutHope 20 = .ok (.aload_n 0, 1) := by decide +kernel
theorem dX1_withoutHope_21 : decode cX1_withoutHope 21 = .ok (.getfield 18, 3) := by decide +kernel
theorem dX1_withoutHope_24 : decode cX1_withoutHope 24 = .ok (.getfield 34, 3) := by decide +kernel
theorem dX1_withoutHope_27 : decode cX1_withoutHope 27 = .ok (.getfield 44, 3) := by decide +kernel
theorem dX1_withoutHope_30 : decode cX1_withoutHope 30 = .ok (.if_icmp .ge 35, 3) := by decide +kernel
theorem dX1_withoutHope_33 : decode cX1_withoutHope 33 = .ok (.aload_n 0, 1) := by decide +kernel
theorem dX1_withoutHope_34 : decode cX1_withoutHope 34 = .ok (.getfield 18, 3) := by decide +kernel
theorem dX1_withoutHope_37 : decode cX1_withoutHope 37 = .ok (.iload_n 3, 1) := by decide +kernel
theorem dX1_withoutHope_38 : decode cX1_withoutHope 38 = .ok (.invokevirtual 47, 3) := by decide +kernel
theorem dX1_withoutHope_41 : decode cX1_withoutHope 41 = .ok (.ifCond .eq 18, 3) := by decide +kernel
theorem dX1_withoutHope_44 : decode cX1_withoutHope 44 = .ok (.aload_n 0, 1) := by decide +kernel
theorem dX1_withoutHope_45 : decode cX1_withoutHope 45 = .ok (.iload_n 3, 1) := by decide +kernel
theorem dX1_withoutHope_46 : decode cX1_withoutHope 46 = .ok (.iload_n 1, 1) := by decide +kernel
theorem dX1_withoutHope_47 : decode cX1_withoutHope 47 = .ok (.invokevirtual 51, 3) := by decide +kernel
theorem dX1_withoutHope_50 : decode cX1_withoutHope 50 = .ok (.ifCond .ne 9, 3) := by decide +kernel
theorem dX1_withoutHope_53 : decode cX1_withoutHope 53 = .ok (.iload_n 2, 1) := by decide +kernel
theorem dX1_withoutHope_54 : decode cX1_withoutHope 54 = .ok (.iconst 1, 1) := by decide +kernel
theorem dX1_withoutHope_55 : decode cX1_withoutHope 55 = .ok (.iload_n 3, 1) := by decide +kernel
theorem dX1_withoutHope_56 : decode cX1_withoutHope 56 = .ok (.ishl, 1) := by decide +kernel
theorem dX1_withoutHope_57 : decode cX1_withoutHope 57 = .ok (.ior, 1) := by decide +kernel
theorem dX1_withoutHope_58 : decode cX1_withoutHope 58 = .ok (.istore_n 2, 1) := by decide +kernel
theorem dX1_withoutHope_59 : decode cX1_withoutHope 59 = .ok (.iinc 3 1, 3) := by decide +kernel
theorem dX1_withoutHope_62 : decode cX1_withoutHope 62 = .ok (.goto (-43), 3) := by decide +kernel
theorem dX1_withoutHope_65 : decode cX1_withoutHope 65 = .ok (.iload_n 2, 1) := by decide +kernel
theorem dX1_withoutHope_66 : decode cX1_withoutHope 66 = .ok (.ireturn, 1) := by decide +kernel
theorem wd_1110 : (Cond.code ⟨"WebCourt$Counsel", "withoutHope", "()I"⟩ prog_3_method_3_code (4 : Nat) (Option.some FieldType.int)) ∈ gtb := gtb_c5 41 (by decide +kernel) rfl
theorem wd_360 : (Cond.fieldLink "WebCourt$Counsel" (34 : Nat) "WebCourt$Court" "web" "LWebCourt$Web;") ∈ gtb := gtb_c2 11 (by decide +kernel) rfl
theorem gf_RX1_34 {p : Program} {l : Launch} {e : Env} {R : Room} {s : State} {m : MethodId} {args : Array Value} {below : List Frame} {meth : Method} {c : Code} {H : Heap} {locs : List Loc} {cells slots : Nat} {Q : State → Prop} {cc : ByteArray} {pc nL : Nat} {ls : Array Slot} {rest : List Value} {D : va_G} {cy : Nat → ClassId} {A : Nat → Prop} {ws : va_W} {b : Nat} {fs : List Value} {v : Value} (C : Cx p s m args c cc nL RX1 D cy A) (hO : Wo D A ws s.heap H locs) (q0 : Nat) (he : ws[q0]? = some (b, .inr (2, fs))) (hv : fs[1]? = some v) (hdg : decode cc pc = .ok (.getfield 34, 3)) (kk : W p l e R s m args below meth c H locs cells slots Q (F0 m (pc + 3) ls (v :: rest))) : W p l e R s m args below meth c H locs cells slots Q (F0 m pc ls (.ref b :: rest)) := gF (k := 1) C hO q0 he rfl inFX2 (by decide) wd_360 rfl hv hdg kk
theorem wd_262 : (Cond.fieldLink "WebCourt$Counsel" (38 : Nat) "WebCourt$Web" "pleas" "I") ∈ gtb := gtb_c1 153 (by decide +kernel) rfl
theorem gf_RX1_38 {p : Program} {l : Launch} {e : Env} {R : Room} {s : State} {m : MethodId} {args : Array Value} {below : List Frame} {meth : Method} {c : Code} {H : Heap} {locs : List Loc} {cells slots : Nat} {Q : State → Prop} {cc : ByteArray} {pc nL : Nat} {ls : Array Slot} {rest : List Value} {D : va_G} {cy : Nat → ClassId} {A : Nat → Prop} {ws : va_W} {b : Nat} {fs : List Value} {v : Value} (C : Cx p s m args c cc nL RX1 D cy A) (hO : Wo D A ws s.heap H locs) (q0 : Nat) (he : ws[q0]? = some (b, .inr (9, fs))) (hv : fs[11]? = some v) (hdg : decode cc pc = .ok (.getfield 38, 3)) (kk : W p l e R s m args below meth c H locs cells slots Q (F0 m (pc + 3) ls (v :: rest))) : W p l e R s m args below meth c H locs cells slots Q (F0 m pc ls (.ref b :: rest)) := gF (k := 11) C hO q0 he rfl inFX9 (by decide) wd_262 rfl hv hdg kk
theorem wd_270 : (Cond.fieldLink "WebCourt$Counsel" (44 : Nat) "WebCourt$Web" "cases" "I") ∈ gtb := gtb_c1 161 (by decide +kernel) rfl
theorem gf_RX1_44 {p : Program} {l : Launch} {e : Env} {R : Room} {s : State} {m : MethodId} {args : Array Value} {below : List Frame} {meth : Method} {c : Code} {H : Heap} {locs : List Loc} {cells slots : Nat} {Q : State → Prop} {cc : ByteArray} {pc nL : Nat} {ls : Array Slot} {rest : List Value} {D : va_G} {cy : Nat → ClassId} {A : Nat → Prop} {ws : va_W} {b : Nat} {fs : List Value} {v : Value} (C : Cx p s m args c cc nL RX1 D cy A) (hO : Wo D A ws s.heap H locs) (q0 : Nat) (he : ws[q0]? = some (b, .inr (9, fs))) (hv : fs[12]? = some v) (hdg : decode cc pc = .ok (.getfield 44, 3)) (kk : W p l e R s m args below meth c H locs cells slots Q (F0 m (pc + 3) ls (v :: rest))) : W p l e R s m args below meth c H locs cells slots Q (F0 m pc ls (.ref b :: rest)) := gF (k := 12) C hO q0 he rfl inFX9 (by decide) wd_270 rfl hv hdg kk
theorem wd_1091 : (Cond.methodLink "WebCourt$Counsel" (47 : Nat) ⟨"WebCourt$Court", "isHeld", "(I)Z"⟩) ∈ gtb := gtb_c5 22 (by decide +kernel) rfl
theorem wd_1111 : (Cond.methodLink "WebCourt$Counsel" (51 : Nat) ⟨"WebCourt$Counsel", "fewestPleas", "(II)I"⟩) ∈ gtb := gtb_c5 42 (by decide +kernel) rfl
theorem wd_992 : (Cond.instanceMethod ⟨"WebCourt$Counsel", "fewestPleas", "(II)I"⟩) ∈ gtb := gtb_c4 163 (by decide +kernel) rfl
theorem wd_993 : (Cond.selects "WebCourt$Counsel" ⟨"WebCourt$Counsel", "fewestPleas", "(II)I"⟩ ⟨"WebCourt$Counsel", "fewestPleas", "(II)I"⟩) ∈ gtb := gtb_c4 164 (by decide +kernel) rfl
theorem wd_119 : (Cond.initialized "WebCourt$Counsel") ∈ gtb := gtb_c1 10 (by decide +kernel) rfl
theorem hd_yX1_fewestPleas : yX1_fewestPleas.cls = RX1 ∧ yX1_fewestPleas.cls ≠ "java/lang/invoke/MethodHandle" ∧ yX1_fewestPleas.cls ≠ "java/lang/invoke/VarHandle" ∧ (parseMethodDescriptor yX1_fewestPleas.desc).map (fun d => d.parameters.length) = some 2 := by decide +kernel
set_option maxHeartbeats 4000000 in
set_option maxRecDepth 100000 in
theorem T_X1_withoutHope (l : Launch) (D : va_G) (cy : Nat → ClassId) (a : Nat → Nat) (u : St) (hJ : CI a u)   : Mi l D cy (cW cy a) yX1_withoutHope (.code yX1_withoutHope cX1_withoutHope 4 (some .int)) (rmo 5 125) [.ref (a 36)] u (fun (r : Int32) (u' : St) => (CI a u') ∧ (KT u u')) := by
  refine Mi.of (own := RX1) rfl (by decide) (Nat.le_of_ble_eq_true rfl) ?_
  have hT : KT u u := KT.rf
  intro p e s m below meth c A Q ls C hret hO hl
  obtain ⟨hx, hb, hml, hown, ht, hK, hA⟩ := id C
  have hl : lv_has ls 4 [(0, .ref (a 36))] := hl
  refine lv_iconst (v := 1) hx hb dX1_withoutHope_0 (by decide) ?_
  refine lv_aload_n hx hb dX1_withoutHope_1 rfl (lv_at hl 0 rfl) ?_
  refine gf_RX1_18 (v := .ref (a 28)) C hO 36 cW_36 rfl dX1_withoutHope_2 ?_
  refine gf_RX1_34 (v := .ref (a 3)) C hO 28 cW_28 (congrArg (fun z : Nat => some (Value.ref z)) (CI_R0 hJ)) dX1_withoutHope_5 ?_
  have g1 : 0 ≤ (fI u 3 11).toInt ∧ (fI u 3 11).toInt ≤ 8 := by have h := CI_3_11 hJ; exact h
  refine gf_RX1_38 (v := .int (fI u 3 11)) C hO 3 cW_3 rfl dX1_withoutHope_8 ?_
  refine lv_ishl hx hb dX1_withoutHope_11 ?_
  refine lv_topi (fun z2 ez2 => ?_)
  have g3 : 0 ≤ z2.toInt ∧ z2.toInt ≤ 2 ^ 8 := by rw [ez2]; exact i_shl1 rfl (by omega) (by omega) (by decide)
  refine lv_iconst (v := 1) hx hb dX1_withoutHope_12 (by decide) ?_
  have e4 : ((z2 - 1)).toInt = (z2).toInt - 1 := i_sub rfl rfl (by omega)
  refine lv_isub hx hb dX1_withoutHope_13 ?_
  refine lv_istore_n (lv' := [(1, .int (z2 - 1)), (0, .ref (a 36))]) hx hb dX1_withoutHope_14 rfl hl (by decide) rfl (fun ls hl => ?_)
  refine lv_iconst (v := 0) hx hb dX1_withoutHope_15 (by decide) ?_
  refine lv_istore_n (lv' := [(2, .int 0), (1, .int (z2 - 1)), (0, .ref (a 36))]) hx hb dX1_withoutHope_16 rfl hl (by decide) rfl (fun ls hl => ?_)
  refine lv_iconst (v := 0) hx hb dX1_withoutHope_17 (by decide) ?_
  refine lv_istore_n (lv' := [(3, .int 0), (2, .int 0), (1, .int (z2 - 1)), (0, .ref (a 36))]) hx hb dX1_withoutHope_18 rfl hl (by decide) rfl (fun ls hl => ?_)
  have LP_19_k6 : ∀ (n : Nat) (u5 : St) (H : Heap) (locs : List Loc) (ls : Array Slot) (i_k6 : Int32) (w2_k6 : Int32), Wo D A (cW cy a u5) s.heap H locs → lv_has ls 4 [(3, .int i_k6), (2, .int w2_k6), (1, .int (z2 - 1)), (0, .ref (a 36))] → CI a u5 → KT u u5 → 0 ≤ i_k6.toInt ∧ i_k6.toInt ≤ 6 → 6 - i_k6.toInt < (n : Int) → W p l e (rmo 5 125) s m [.ref (a 36)].toArray below meth c H locs 0 0 Q (F0 m 19 ls []) := by
    intro n
    induction n with
    | zero =>
      intro u5 H locs ls i_k6 w2_k6 hO hl hJ hT iv0_k6 hm_k6
      exact absurd hm_k6 (by omega)
    | succ n ih_k6 =>
      intro u5 H locs ls i_k6 w2_k6 hO hl hJ hT iv0_k6 hm_k6
      refine lv_iload_n hx hb dX1_withoutHope_19 rfl (lv_at hl 0 rfl) ?_
      refine lv_aload_n hx hb dX1_withoutHope_20 rfl (lv_at hl 3 rfl) ?_
      refine gf_RX1_18 (v := .ref (a 28)) C hO 36 cW_36 rfl dX1_withoutHope_21 ?_
      refine gf_RX1_34 (v := .ref (a 3)) C hO 28 cW_28 (congrArg (fun z : Nat => some (Value.ref z)) (CI_R0 hJ)) dX1_withoutHope_24 ?_
      have g7 : 0 ≤ (fI u5 3 12).toInt ∧ (fI u5 3 12).toInt ≤ 6 := by have h := CI_3_12 hJ; exact h
      refine gf_RX1_44 (v := .int (fI u5 3 12)) C hO 3 cW_3 rfl dX1_withoutHope_27 ?_
      refine cs_ge (tgt := 65) (X := (i_k6).toInt) (Y := ((fI u5 3 12)).toInt) hx hb dX1_withoutHope_30 (by decide) rfl rfl (fun c8 => ?_) (fun c8 => ?_)
      · refine lv_iload_n hx hb dX1_withoutHope_65 rfl (lv_at hl 1 rfl) ?_
        refine hret _ _ _ _ _ _ dX1_withoutHope_66 rfl ?_ hO
        exact ⟨hJ, hT⟩
      · refine lv_aload_n hx hb dX1_withoutHope_33 rfl (lv_at hl 3 rfl) ?_
        refine gf_RX1_18 (v := .ref (a 28)) C hO 36 cW_36 rfl dX1_withoutHope_34 ?_
        refine lv_iload_n hx hb dX1_withoutHope_37 rfl (lv_at hl 0 rfl) ?_
        refine cVi (w := cW cy a) (As := [.int i_k6]) (rest := []) C hO (T_X2_isHeld l D cy a _ (by exact hJ) (i_k6)) (cwV 1 ht (gV wd_1091 wd_930 wd_931 wd_115 wd_932) rfl rfl rfl hd_yX2_isHeld ⟨Nat.le_of_ble_eq_true rfl, Nat.le_of_ble_eq_true rfl⟩) 28 rfl cW_28 rfl rfl hl.1 (Nat.le_of_ble_eq_true rfl) dX1_withoutHope_38 rfl ⟨Nat.zero_le _, Nat.zero_le _⟩ (fun r9 u10 H locs hp11 hO => ?_)
        obtain ⟨hr9, hu10⟩ := hp11
        rw [hu10] at hO
        rcases hr9 with ⟨hcr9, hvr9⟩ | ⟨hcr9, hvr9⟩
        · subst hvr9
          refine bn_eq (X := 1) hx hb dX1_withoutHope_41 rfl (by omega) ?_ (tgt := 59) (by decide)
          refine lv_aload_n hx hb dX1_withoutHope_44 rfl (lv_at hl 3 rfl) ?_
          refine lv_iload_n hx hb dX1_withoutHope_45 rfl (lv_at hl 0 rfl) ?_
          refine lv_iload_n hx hb dX1_withoutHope_46 rfl (lv_at hl 2 rfl) ?_
          refine cVi (w := cW cy a) (As := [.int i_k6, .int (z2 - 1)]) (rest := []) C hO (T_X1_fewestPleas l D cy a _ (by exact hJ) (i_k6) ((z2 - 1)) (by first | omega | decide)) (cwV 2 ht (gV wd_1111 wd_992 wd_993 wd_119 wd_994) rfl rfl rfl hd_yX1_fewestPleas ⟨Nat.le_of_ble_eq_true rfl, Nat.le_of_ble_eq_true rfl⟩) 36 rfl cW_36 rfl rfl hl.1 (Nat.le_of_ble_eq_true rfl) dX1_withoutHope_47 rfl ⟨Nat.zero_le _, Nat.zero_le _⟩ (fun r12 u13 H locs hp14 hO => ?_)
          obtain ⟨hJ, hTu13⟩ := hp14
          have hT : KT u u13 := KT.tr (by exact hT) hTu13
          refine bs_ne (tgt := 59) (X := (r12).toInt) hx hb dX1_withoutHope_50 (by decide) rfl (fun c15 => ?_) (fun c15 => ?_)
          · have e16 : ((i_k6 + 1)).toInt = (i_k6).toInt + 1 := i_add rfl rfl (by omega)
            refine lv_iinc (v := (i_k6 + 1)) (lv' := [(3, .int (i_k6 + 1)), (2, .int w2_k6), (1, .int (z2 - 1)), (0, .ref (a 36))]) hx hb dX1_withoutHope_59 hl (k := 0) rfl rfl (by decide) rfl (fun ls hl => ?_)
            refine lv_goto (tgt := 19) hx hb dX1_withoutHope_62 (by decide) ?_
            exact ih_k6 _ _ _ _ ((i_k6 + 1)) (w2_k6) hO (lv_sub hl [0, 1, 2, 3] rfl) (by exact hJ) (by exact hT) (by first | decide | omega) (by first | decide | omega)
          · refine lv_iload_n hx hb dX1_withoutHope_53 rfl (lv_at hl 1 rfl) ?_
            refine lv_iconst (v := 1) hx hb dX1_withoutHope_54 (by decide) ?_
            refine lv_iload_n hx hb dX1_withoutHope_55 rfl (lv_at hl 0 rfl) ?_
            refine lv_ishl hx hb dX1_withoutHope_56 ?_
            refine lv_topi (fun z17 ez17 => ?_)
            have g18 : 0 ≤ z17.toInt ∧ z17.toInt ≤ 2 ^ 5 := by rw [ez17]; exact i_shl1 rfl (by omega) (by omega) (by decide)
            refine lv_ior hx hb dX1_withoutHope_57 ?_
            refine lv_topi (fun z19 ez19 => ?_)
            refine lv_istore_n (lv' := [(2, .int z19), (3, .int i_k6), (1, .int (z2 - 1)), (0, .ref (a 36))]) hx hb dX1_withoutHope_58 rfl hl (by decide) rfl (fun ls hl => ?_)
            have e20 : ((i_k6 + 1)).toInt = (i_k6).toInt + 1 := i_add rfl rfl (by omega)
            refine lv_iinc (v := (i_k6 + 1)) (lv' := [(3, .int (i_k6 + 1)), (2, .int z19), (1, .int (z2 - 1)), (0, .ref (a 36))]) hx hb dX1_withoutHope_59 hl (k := 1) rfl rfl (by decide) rfl (fun ls hl => ?_)
            refine lv_goto (tgt := 19) hx hb dX1_withoutHope_62 (by decide) ?_
            exact ih_k6 _ _ _ _ ((i_k6 + 1)) (z19) hO (lv_sub hl [0, 1, 2, 3] rfl) (by exact hJ) (by exact hT) (by first | decide | omega) (by first | decide | omega)
        · subst hvr9
          refine bt_eq (tgt := 59) (X := 0) hx hb dX1_withoutHope_41 (by decide) rfl (by omega) ?_
          have e21 : ((i_k6 + 1)).toInt = (i_k6).toInt + 1 := i_add rfl rfl (by omega)
          refine lv_iinc (v := (i_k6 + 1)) (lv' := [(3, .int (i_k6 + 1)), (2, .int w2_k6), (1, .int (z2 - 1)), (0, .ref (a 36))]) hx hb dX1_withoutHope_59 hl (k := 0) rfl rfl (by decide) rfl (fun ls hl => ?_)
          refine lv_goto (tgt := 19) hx hb dX1_withoutHope_62 (by decide) ?_
          exact ih_k6 _ _ _ _ ((i_k6 + 1)) (w2_k6) hO (lv_sub hl [0, 1, 2, 3] rfl) (by exact hJ) (by exact hT) (by first | decide | omega) (by first | decide | omega)
  exact LP_19_k6 4000 _ _ _ _ (0) (0) hO (lv_sub hl [0, 1, 2, 3] rfl) (by exact hJ) (by exact hT) (by first | decide | omega) (by first | decide | omega)
theorem dX1_hearingsTillFree_0 : decode cX1_hearingsTillFree 0 = .ok (.aload_n 0, 1) := by decide +kernel
theorem dX1_hearingsTillFree_1 : decode cX1_hearingsTillFree 1 = .ok (.getfield 18, 3) := by decide +kernel
theorem dX1_hearingsTillFree_4 : decode cX1_hearingsTillFree 4 = .ok (.getfield 54, 3) := by decide +kernel
theorem dX1_hearingsTillFree_7 : decode cX1_hearingsTillFree 7 = .ok (.astore_n 2, 1) := by decide +kernel
theorem dX1_hearingsTillFree_8 : decode cX1_hearingsTillFree 8 = .ok (.iconst 0, 1) := by decide +kernel
theorem dX1_hearingsTillFree_9 : decode cX1_hearingsTillFree 9 = .ok (.istore_n 3, 1) := by decide +kernel
theorem dX1_hearingsTillFree_10 : decode cX1_hearingsTillFree 10 = .ok (.iload_n 3, 1) := by decide +kernel
theorem dX1_hearingsTillFree_11 : decode cX1_hearingsTillFree 11 = .ok (.bipush 30, 2) := by decide +kernel
theorem dX1_hearingsTillFree_13 : decode cX1_hearingsTillFree 13 = .ok (.if_icmp .ge 71, 3) := by decide +kernel
theorem dX1_hearingsTillFree_16 : decode cX1_hearingsTillFree 16 = .ok (.aload_n 2, 1) := by decide +kernel
theorem dX1_hearingsTillFree_17 : decode cX1_hearingsTillFree 17 = .ok (.bipush 23, 2) := by decide +kernel
theorem dX1_hearingsTillFree_19 : decode cX1_hearingsTillFree 19 = .ok (.iload_n 1, 1) := by decide +kernel
theorem dX1_hearingsTillFree_20 : decode cX1_hearingsTillFree 20 = .ok (.iadd, 1) := by decide +kernel
theorem dX1_hearingsTillFree_21 : decode cX1_hearingsTillFree 21 = .ok (.iaload, 1) := by decide +kernel
theorem dX1_hearingsTillFree_22 : decode cX1_hearingsTillFree 22 = .ok (.iload_n 3, 1) := by decide +kernel
theorem dX1_hearingsTillFree_23 : decode cX1_hearingsTillFree 23 = .ok (.iadd, 1) := by decide +kernel
theorem dX1_hearingsTillFree_24 : decode cX1_hearingsTillFree 24 = .ok (.bipush 99, 2) := by decide +kernel
theorem dX1_hearingsTillFree_26 : decode cX1_hearingsTillFree 26 = .ok (.invokestatic 57, 3) := by decide +kernel
theorem dX1_hearingsTillFree_29 : decode cX1_hearingsTillFree 29 = .ok (.istore 4, 2) := by decide +kernel
theorem dX1_hearingsTillFree_31 : decode cX1_hearingsTillFree 31 = .ok (.aload_n 0, 1) := by decide +kernel
theorem dX1_hearingsTillFree_32 : decode cX1_hearingsTillFree 32 = .ok (.getfield 18, 3) := by decide +kernel
theorem dX1_hearingsTillFree_35 : decode cX1_hearingsTillFree 35 = .ok (.iload_n 1, 1) := by decide +kernel
theorem dX1_hearingsTillFree_36 : decode cX1_hearingsTillFree 36 = .ok (.aload_n 2, 1) := by decide +kernel
theorem dX1_hearingsTillFree_37 : decode cX1_hearingsTillFree 37 = .ok (.bipush 11, 2) := by decide +kernel
theorem dX1_hearingsTillFree_39 : decode cX1_hearingsTillFree 39 = .ok (.iload_n 1, 1) := by decide +kernel
theorem dX1_hearingsTillFree_40 : decode cX1_hearingsTillFree 40 = .ok (.iadd, 1) := by decide +kernel
theorem dX1_hearingsTillFree_41 : decode cX1_hearingsTillFree 41 = .ok (.iaload, 1) := by decide +kernel
theorem dX1_hearingsTillFree_42 : decode cX1_hearingsTillFree 42 = .ok (.aload_n 2, 1) := by decide +kernel
theorem dX1_hearingsTillFree_43 : decode cX1_hearingsTillFree 43 = .ok (.bipush 17, 2) := by decide +kernel
theorem dX1_hearingsTillFree_45 : decode cX1_hearingsTillFree 45 = .ok (.iload_n 1, 1) := by decide +kernel
theorem dX1_hearingsTillFree_46 : decode cX1_hearingsTillFree 46 = .ok (.iadd, 1) := by decide +kernel
theorem dX1_hearingsTillFree_47 : decode cX1_hearingsTillFree 47 = .ok (.iaload, 1) := by decide +kernel
theorem dX1_hearingsTillFree_48 : decode cX1_hearingsTillFree 48 = .ok (.iload 4, 2) := by decide +kernel
theorem dX1_hearingsTillFree_50 : decode cX1_hearingsTillFree 50 = .ok (.aload_n 2, 1) := by decide +kernel
theorem dX1_hearingsTillFree_51 : decode cX1_hearingsTillFree 51 = .ok (.iconst 1, 1) := by decide +kernel
theorem dX1_hearingsTillFree_52 : decode cX1_hearingsTillFree 52 = .ok (.iaload, 1) := by decide +kernel
theorem dX1_hearingsTillFree_53 : decode cX1_hearingsTillFree 53 = .ok (.iload_n 3, 1) := by decide +kernel
theorem dX1_hearingsTillFree_54 : decode cX1_hearingsTillFree 54 = .ok (.iadd, 1) := by decide +kernel
theorem dX1_hearingsTillFree_55 : decode cX1_hearingsTillFree 55 = .ok (.invokevirtual 62, 3) := by decide +kernel
theorem dX1_hearingsTillFree_58 : decode cX1_hearingsTillFree 58 = .ok (.istore 5, 2) := by decide +kernel
theorem dX1_hearingsTillFree_60 : decode cX1_hearingsTillFree 60 = .ok (.iload 5, 2) := by decide +kernel
theorem dX1_hearingsTillFree_62 : decode cX1_hearingsTillFree 62 = .ok (.ifCond .eq 16, 3) := by decide +kernel
theorem dX1_hearingsTillFree_65 : decode cX1_hearingsTillFree 65 = .ok (.iload 5, 2) := by decide +kernel
theorem dX1_hearingsTillFree_67 : decode cX1_hearingsTillFree 67 = .ok (.ifCond .le 9, 3) := by decide +kernel
theorem dX1_hearingsTillFree_70 : decode cX1_hearingsTillFree 70 = .ok (.iload_n 3, 1) := by decide +kernel
theorem dX1_hearingsTillFree_71 : decode cX1_hearingsTillFree 71 = .ok (.iconst 1, 1) := by decide +kernel
theorem dX1_hearingsTillFree_72 : decode cX1_hearingsTillFree 72 = .ok (.iadd, 1) := by decide +kernel
theorem dX1_hearingsTillFree_73 : decode cX1_hearingsTillFree 73 = .ok (.goto 4, 3) := by decide +kernel
theorem dX1_hearingsTillFree_76 : decode cX1_hearingsTillFree 76 = .ok (.iconst (-1), 1) := by decide +kernel
theorem dX1_hearingsTillFree_77 : decode cX1_hearingsTillFree 77 = .ok (.ireturn, 1) := by decide +kernel
theorem dX1_hearingsTillFree_78 : decode cX1_hearingsTillFree 78 = .ok (.iinc 3 1, 3) := by decide +kernel
theorem dX1_hearingsTillFree_81 : decode cX1_hearingsTillFree 81 = .ok (.goto (-71), 3) := by decide +kernel
theorem dX1_hearingsTillFree_84 : decode cX1_hearingsTillFree 84 = .ok (.iconst (-1), 1) := by decide +kernel
theorem dX1_hearingsTillFree_85 : decode cX1_hearingsTillFree 85 = .ok (.ireturn, 1) := by decide +kernel
theorem wd_1080 : (Cond.code ⟨"WebCourt$Counsel", "hearingsTillFree", "(I)I"⟩ prog_3_method_4_code (6 : Nat) (Option.some FieldType.int)) ∈ gtb := gtb_c5 11 (by decide +kernel) rfl
theorem wd_354 : (Cond.fieldLink "WebCourt$Counsel" (54 : Nat) "WebCourt$Court" "row" "[I") ∈ gtb := gtb_c2 5 (by decide +kernel) rfl
theorem gf_RX1_54 {p : Program} {l : Launch} {e : Env} {R : Room} {s : State} {m : MethodId} {args : Array Value} {below : List Frame} {meth : Method} {c : Code} {H : Heap} {locs : List Loc} {cells slots : Nat} {Q : State → Prop} {cc : ByteArray} {pc nL : Nat} {ls : Array Slot} {rest : List Value} {D : va_G} {cy : Nat → ClassId} {A : Nat → Prop} {ws : va_W} {b : Nat} {fs : List Value} {v : Value} (C : Cx p s m args c cc nL RX1 D cy A) (hO : Wo D A ws s.heap H locs) (q0 : Nat) (he : ws[q0]? = some (b, .inr (2, fs))) (hv : fs[0]? = some v) (hdg : decode cc pc = .ok (.getfield 54, 3)) (kk : W p l e R s m args below meth c H locs cells slots Q (F0 m (pc + 3) ls (v :: rest))) : W p l e R s m args below meth c H locs cells slots Q (F0 m pc ls (.ref b :: rest)) := gF (k := 0) C hO q0 he rfl inFX2 (by decide) wd_354 rfl hv hdg kk
theorem wd_1081 : (Cond.methodLink "WebCourt$Counsel" (57 : Nat) ⟨"java/lang/Math", "min", "(II)I"⟩) ∈ gtb := gtb_c5 12 (by decide +kernel) rfl
theorem wd_1082 : (Cond.methodLink "WebCourt$Counsel" (62 : Nat) ⟨"WebCourt$Court", "judgedAs", "(IIIII)I"⟩) ∈ gtb := gtb_c5 13 (by decide +kernel) rfl
set_option maxHeartbeats 4000000 in
set_option maxRecDepth 100000 in
theorem T_X1_hearingsTillFree (l : Launch) (D : va_G) (cy : Nat → ClassId) (a : Nat → Nat) (u : St) (hJ : CI a u) (x1 : Int32) (hx_x1 : 0 ≤ x1.toInt ∧ x1.toInt ≤ 5) : Mi l D cy (cW cy a) yX1_hearingsTillFree (.code yX1_hearingsTillFree cX1_hearingsTillFree 6 (some .int)) (rmo 3 78) [.ref (a 36), .int x1] u (fun (r : Int32) (u' : St) => (CI a u') ∧ (KT u u')) := by
  refine Mi.of (own := RX1) rfl (by decide) (Nat.le_of_ble_eq_true rfl) ?_
  have hT : KT u u := KT.rf
  intro p e s m below meth c A Q ls C hret hO hl
  obtain ⟨hx, hb, hml, hown, ht, hK, hA⟩ := id C
  have hl : lv_has ls 6 [(0, .ref (a 36)), (1, .int x1)] := hl
  refine lv_aload_n hx hb dX1_hearingsTillFree_0 rfl (lv_at hl 0 rfl) ?_
  refine gf_RX1_18 (v := .ref (a 28)) C hO 36 cW_36 rfl dX1_hearingsTillFree_1 ?_
  refine gf_RX1_54 (v := .ref (a 29)) C hO 28 cW_28 rfl dX1_hearingsTillFree_4 ?_
  refine lv_astore_n (lv' := [(2, .ref (a 29)), (0, .ref (a 36)), (1, .int x1)]) hx hb dX1_hearingsTillFree_7 rfl hl (by decide) rfl (fun ls hl => ?_)
  refine lv_iconst (v := 0) hx hb dX1_hearingsTillFree_8 (by decide) ?_
  refine lv_istore_n (lv' := [(3, .int 0), (2, .ref (a 29)), (0, .ref (a 36)), (1, .int x1)]) hx hb dX1_hearingsTillFree_9 rfl hl (by decide) rfl (fun ls hl => ?_)
  have LP_10_k2 : ∀ (n : Nat) (u1 : St) (H : Heap) (locs : List Loc) (ls : Array Slot) (i_k2 : Int32), Wo D A (cW cy a u1) s.heap H locs → lv_has ls 6 [(3, .int i_k2), (2, .ref (a 29)), (0, .ref (a 36)), (1, .int x1)] → CI a u1 → KT u u1 → 0 ≤ i_k2.toInt ∧ i_k2.toInt ≤ 30 → 30 - i_k2.toInt < (n : Int) → W p l e (rmo 3 78) s m [.ref (a 36), .int x1].toArray below meth c H locs 0 0 Q (F0 m 10 ls []) := by
    intro n
    induction n with
    | zero =>
      intro u1 H locs ls i_k2 hO hl hJ hT iv0_k2 hm_k2
      exact absurd hm_k2 (by omega)
    | succ n ih_k2 =>
      intro u1 H locs ls i_k2 hO hl hJ hT iv0_k2 hm_k2
      refine lv_iload_n hx hb dX1_hearingsTillFree_10 rfl (lv_at hl 0 rfl) ?_
      refine lv_bipush (v := 30) hx hb dX1_hearingsTillFree_11 (by decide) ?_
      refine cs_ge (tgt := 84) (X := (i_k2).toInt) (Y := 30) hx hb dX1_hearingsTillFree_13 (by decide) rfl rfl (fun c3 => ?_) (fun c3 => ?_)
      · refine lv_iconst (v := (-1)) hx hb dX1_hearingsTillFree_84 (by decide) ?_
        refine hret _ _ _ _ _ _ dX1_hearingsTillFree_85 rfl ?_ hO
        exact ⟨hJ, hT⟩
      · refine lv_aload_n hx hb dX1_hearingsTillFree_16 rfl (lv_at hl 1 rfl) ?_
        refine lv_bipush (v := 23) hx hb dX1_hearingsTillFree_17 (by decide) ?_
        refine lv_iload_n hx hb dX1_hearingsTillFree_19 rfl (lv_at hl 3 rfl) ?_
        have e4 : ((23 + x1)).toInt = 23 + (x1).toInt := i_add rfl rfl (by omega)
        refine lv_iadd hx hb dX1_hearingsTillFree_20 ?_
        refine aI C hO 29 cW_29 (i_in (X := (23 + (x1).toInt)) e4 (by omega) (by omega)) dX1_hearingsTillFree_21 ?_
        refine lv_topi (fun w5 ew5 => ?_)
        refine lv_iload_n hx hb dX1_hearingsTillFree_22 rfl (lv_at hl 0 rfl) ?_
        refine lv_iadd hx hb dX1_hearingsTillFree_23 ?_
        refine lv_bipush (v := 99) hx hb dX1_hearingsTillFree_24 (by decide) ?_
        refine va_mmin hx hb (by rw [hml]; exact hl.1.symm) hown (ht _ wd_1081) (ht _ wd_639) (ht _ wd_126) (ht _ wd_640) (Nat.le_of_ble_eq_true rfl) (Nat.le_of_ble_eq_true rfl) (Nat.zero_le _) (Nat.zero_le _) dX1_hearingsTillFree_26 ?_
        refine lv_topi (fun z6 ez6 => ?_)
        refine lv_istore (lv' := [(4, .int z6), (3, .int i_k2), (2, .ref (a 29)), (0, .ref (a 36)), (1, .int x1)]) hx hb dX1_hearingsTillFree_29 hl (by decide) rfl (fun ls hl => ?_)
        refine lv_aload_n hx hb dX1_hearingsTillFree_31 rfl (lv_at hl 3 rfl) ?_
        refine gf_RX1_18 (v := .ref (a 28)) C hO 36 cW_36 rfl dX1_hearingsTillFree_32 ?_
        refine lv_iload_n hx hb dX1_hearingsTillFree_35 rfl (lv_at hl 4 rfl) ?_
        refine lv_aload_n hx hb dX1_hearingsTillFree_36 rfl (lv_at hl 2 rfl) ?_
        refine lv_bipush (v := 11) hx hb dX1_hearingsTillFree_37 (by decide) ?_
        refine lv_iload_n hx hb dX1_hearingsTillFree_39 rfl (lv_at hl 4 rfl) ?_
        have e7 : ((11 + x1)).toInt = 11 + (x1).toInt := i_add rfl rfl (by omega)
        refine lv_iadd hx hb dX1_hearingsTillFree_40 ?_
        refine aI C hO 29 cW_29 (i_in (X := (11 + (x1).toInt)) e7 (by omega) (by omega)) dX1_hearingsTillFree_41 ?_
        refine lv_topi (fun w8 ew8 => ?_)
        refine lv_aload_n hx hb dX1_hearingsTillFree_42 rfl (lv_at hl 2 rfl) ?_
        refine lv_bipush (v := 17) hx hb dX1_hearingsTillFree_43 (by decide) ?_
        refine lv_iload_n hx hb dX1_hearingsTillFree_45 rfl (lv_at hl 4 rfl) ?_
        have e9 : ((17 + x1)).toInt = 17 + (x1).toInt := i_add rfl rfl (by omega)
        refine lv_iadd hx hb dX1_hearingsTillFree_46 ?_
        refine aI C hO 29 cW_29 (i_in (X := (17 + (x1).toInt)) e9 (by omega) (by omega)) dX1_hearingsTillFree_47 ?_
        refine lv_topi (fun w10 ew10 => ?_)
        refine lv_iload hx hb dX1_hearingsTillFree_48 (lv_at hl 0 rfl) ?_
        refine lv_aload_n hx hb dX1_hearingsTillFree_50 rfl (lv_at hl 2 rfl) ?_
        refine lv_iconst (v := 1) hx hb dX1_hearingsTillFree_51 (by decide) ?_
        refine aI C hO 29 cW_29 (i_in (X := 1) rfl (by omega) (by omega)) dX1_hearingsTillFree_52 ?_
        refine lv_topi (fun w11 ew11 => ?_)
        refine lv_iload_n hx hb dX1_hearingsTillFree_53 rfl (lv_at hl 1 rfl) ?_
        refine lv_iadd hx hb dX1_hearingsTillFree_54 ?_
        refine cVi (w := cW cy a) (As := [.int x1, .int w8, .int w10, .int z6, .int (w11 + i_k2)]) (rest := []) C hO (T_X2_judgedAs l D cy a _ (by exact hJ) (x1) (w8) (w10) (z6) ((w11 + i_k2)) (by first | omega | decide)) (cwV 5 ht (gV wd_1082 wd_854 wd_855 wd_115 wd_856) rfl rfl rfl hd_yX2_judgedAs ⟨Nat.le_of_ble_eq_true rfl, Nat.le_of_ble_eq_true rfl⟩) 28 rfl cW_28 rfl rfl hl.1 (Nat.le_of_ble_eq_true rfl) dX1_hearingsTillFree_55 rfl ⟨Nat.zero_le _, Nat.zero_le _⟩ (fun r12 u13 H locs hp14 hO => ?_)
        obtain ⟨hJ, hTu13⟩ := hp14
        have hT : KT u u13 := KT.tr (by exact hT) hTu13
        refine lv_istore (lv' := [(5, .int r12), (4, .int z6), (3, .int i_k2), (2, .ref (a 29)), (0, .ref (a 36)), (1, .int x1)]) hx hb dX1_hearingsTillFree_58 hl (by decide) rfl (fun ls hl => ?_)
        refine lv_iload hx hb dX1_hearingsTillFree_60 (lv_at hl 0 rfl) ?_
        refine bs_eq (tgt := 78) (X := (r12).toInt) hx hb dX1_hearingsTillFree_62 (by decide) rfl (fun c15 => ?_) (fun c15 => ?_)
        · have e16 : ((i_k2 + 1)).toInt = (i_k2).toInt + 1 := i_add rfl rfl (by omega)
          refine lv_iinc (v := (i_k2 + 1)) (lv' := [(3, .int (i_k2 + 1)), (5, .int r12), (4, .int z6), (2, .ref (a 29)), (0, .ref (a 36)), (1, .int x1)]) hx hb dX1_hearingsTillFree_78 hl (k := 2) rfl rfl (by decide) rfl (fun ls hl => ?_)
          refine lv_goto (tgt := 10) hx hb dX1_hearingsTillFree_81 (by decide) ?_
          exact ih_k2 _ _ _ _ ((i_k2 + 1)) hO (lv_sub hl [0, 3, 4, 5] rfl) (by exact hJ) (by exact hT) (by first | decide | omega) (by first | decide | omega)
        · refine lv_iload hx hb dX1_hearingsTillFree_65 (lv_at hl 0 rfl) ?_
          refine bs_le (tgt := 76) (X := (r12).toInt) hx hb dX1_hearingsTillFree_67 (by decide) rfl (fun c17 => ?_) (fun c17 => ?_)
          · refine lv_iconst (v := (-1)) hx hb dX1_hearingsTillFree_76 (by decide) ?_
            refine hret _ _ _ _ _ _ dX1_hearingsTillFree_77 rfl ?_ hO
            exact ⟨hJ, hT⟩
          · refine lv_iload_n hx hb dX1_hearingsTillFree_70 rfl (lv_at hl 2 rfl) ?_
            refine lv_iconst (v := 1) hx hb dX1_hearingsTillFree_71 (by decide) ?_
            have e18 : ((i_k2 + 1)).toInt = (i_k2).toInt + 1 := i_add rfl rfl (by omega)
            refine lv_iadd hx hb dX1_hearingsTillFree_72 ?_
            refine lv_goto (tgt := 77) hx hb dX1_hearingsTillFree_73 (by decide) ?_
            refine hret _ _ _ _ _ _ dX1_hearingsTillFree_77 rfl ?_ hO
            exact ⟨hJ, hT⟩
  exact LP_10_k2 4000 _ _ _ _ (0) hO (lv_sub hl [0, 1, 2, 3] rfl) (by exact hJ) (by exact hT) (by first | decide | omega) (by first | decide | omega)
theorem dX1_outcome_0 : decode cX1_outcome 0 = .ok (.aload_n 0, 1) := by decide +kernel
theorem dX1_outcome_1 : decode cX1_outcome 1 = .ok (.getfield 18, 3) := by decide +kernel
theorem dX1_outcome_4 : decode cX1_outcome 4 = .ok (.iload_n 1, 1) := by decide +kernel
theorem dX1_outcome_5 : decode cX1_outcome 5 = .ok (.invokevirtual 69, 3) := by decide +kernel
theorem dX1_outcome_8 : decode cX1_outcome 8 = .ok (.iconst 0, 1) := by decide +kernel
theorem dX1_outcome_9 : decode cX1_outcome 9 = .ok (.invokestatic 72, 3) := by decide +kernel
theorem dX1_outcome_12 : decode cX1_outcome 12 = .ok (.ireturn, 1) := by decide +kernel
theorem wd_1095 : (Cond.code ⟨"WebCourt$Counsel", "outcome", "(I)I"⟩ prog_3_method_6_code (2 : Nat) (Option.some FieldType.int)) ∈ gtb := gtb_c5 26 (by decide +kernel) rfl
theorem wd_1096 : (Cond.methodLink "WebCourt$Counsel" (69 : Nat) ⟨"WebCourt$Court", "judgedNow", "(I)I"⟩) ∈ gtb := gtb_c5 27 (by decide +kernel) rfl
theorem wd_1097 : (Cond.methodLink "WebCourt$Counsel" (72 : Nat) ⟨"java/lang/Integer", "compare", "(II)I"⟩) ∈ gtb := gtb_c5 28 (by decide +kernel) rfl
theorem wd_1098 : (Cond.static ⟨"java/lang/Integer", "compare", "(II)I"⟩) ∈ gtb := gtb_c5 29 (by decide +kernel) rfl
theorem hd_yJ6_compare_7cf53 : yJ6_compare_7cf53.cls ≠ "java/lang/invoke/MethodHandle" ∧ yJ6_compare_7cf53.cls ≠ "java/lang/invoke/VarHandle" ∧ (parseMethodDescriptor yJ6_compare_7cf53.desc).map (fun d => d.parameters.length) = some 2 := by decide +kernel
set_option maxHeartbeats 4000000 in
set_option maxRecDepth 100000 in
theorem T_X1_outcome (l : Launch) (D : va_G) (cy : Nat → ClassId) (a : Nat → Nat) (u : St) (hJ : CI a u) (x1 : Int32) (hx_x1 : 0 ≤ x1.toInt ∧ x1.toInt ≤ 5) : Mi l D cy (cW cy a) yX1_outcome (.code yX1_outcome cX1_outcome 2 (some .int)) (rmo 4 99) [.ref (a 36), .int x1] u (fun (r : Int32) (u' : St) => (CI a u') ∧ (KT u u')) := by
  refine Mi.of (own := RX1) rfl (by decide) (Nat.le_of_ble_eq_true rfl) ?_
  have hT : KT u u := KT.rf
  intro p e s m below meth c A Q ls C hret hO hl
  obtain ⟨hx, hb, hml, hown, ht, hK, hA⟩ := id C
  have hl : lv_has ls 2 [(0, .ref (a 36)), (1, .int x1)] := hl
  refine lv_aload_n hx hb dX1_outcome_0 rfl (lv_at hl 0 rfl) ?_
  refine gf_RX1_18 (v := .ref (a 28)) C hO 36 cW_36 rfl dX1_outcome_1 ?_
  refine lv_iload_n hx hb dX1_outcome_4 rfl (lv_at hl 1 rfl) ?_
  refine cVi (w := cW cy a) (As := [.int x1]) (rest := []) C hO (T_X2_judgedNow l D cy a _ (by exact hJ) (x1) (by first | omega | decide)) (cwV 1 ht (gV wd_1096 wd_850 wd_851 wd_115 wd_852) rfl rfl rfl hd_yX2_judgedNow ⟨Nat.le_of_ble_eq_true rfl, Nat.le_of_ble_eq_true rfl⟩) 28 rfl cW_28 rfl rfl hl.1 (Nat.le_of_ble_eq_true rfl) dX1_outcome_5 rfl ⟨Nat.zero_le _, Nat.zero_le _⟩ (fun r1 u2 H locs hp3 hO => ?_)
  obtain ⟨hJ, hTu2⟩ := hp3
  have hT : KT u u2 := KT.tr (by exact hT) hTu2
  refine lv_iconst (v := 0) hx hb dX1_outcome_8 (by decide) ?_
  refine cSi (w := cW cy a) (As := [.int r1, .int 0]) (rest := []) C hO (T_J6_compare_7cf53 l D cy a _ (by exact hJ) (r1) (0)) (va_cwS 2 ht (gSS wd_1097 wd_1098 wd_128 wd_1099) rfl rfl rfl hd_yJ6_compare_7cf53 ⟨Nat.le_of_ble_eq_true rfl, Nat.le_of_ble_eq_true rfl⟩)  rfl hl.1 (Nat.le_of_ble_eq_true rfl) dX1_outcome_9 rfl ⟨Nat.zero_le _, Nat.zero_le _⟩ (fun r4 u5 H locs hp6 hO => ?_)
  have hu5 := hp6
  rw [hu5] at hO
  refine hret _ _ _ _ _ _ dX1_outcome_12 rfl ?_ hO
  exact ⟨hJ, hT⟩
theorem dX1_contraries_0 : decode cX1_contraries 0 = .ok (.iconst 0, 1) := by decide +kernel
theorem dX1_contraries_1 : decode cX1_contraries 1 = .ok (.istore_n 1, 1) := by decide +kernel
theorem dX1_contraries_2 : decode cX1_contraries 2 = .ok (.iload_n 1, 1) := by decide +kernel
theorem dX1_contraries_3 : decode cX1_contraries 3 = .ok (.aload_n 0, 1) := by decide +kernel
theorem dX1_contraries_4 : decode cX1_contraries 4 = .ok (.getfield 18, 3) := by decide +kernel
theorem dX1_contraries_7 : decode cX1_contraries 7 = .ok (.getfield 34, 3) := by decide +kernel
theorem dX1_contraries_10 : decode cX1_contraries 10 = .ok (.getfield 44, 3) := by decide +kernel
theorem dX1_contraries_13 : decode cX1_contraries 13 = .ok (.if_icmp .ge 102, 3) := by decide +kernel
theorem dX1_contraries_16 : decode cX1_contraries 16 = .ok (.iload_n 1, 1) := by decide +kernel
theorem dX1_contraries_17 : decode cX1_contraries 17 = .ok (.iconst 1, 1) := by decide +kernel
theorem dX1_contraries_18 : decode cX1_contraries 18 = .ok (.iadd, 1) := by decide +kernel
theorem dX1_contraries_19 : decode cX1_contraries 19 = .ok (.istore_n 2, 1) := by decide +kernel
theorem dX1_contraries_20 : decode cX1_contraries 20 = .ok (.iload_n 2, 1) := by decide +kernel
theorem dX1_contraries_21 : decode cX1_contraries 21 = .ok (.aload_n 0, 1) := by decide +kernel
theorem dX1_contraries_22 : decode cX1_contraries 22 = .ok (.getfield 18, 3) := by decide +kernel
theorem dX1_contraries_25 : decode cX1_contraries 25 = .ok (.getfield 34, 3) := by decide +kernel
theorem dX1_contraries_28 : decode cX1_contraries 28 = .ok (.getfield 44, 3) := by decide +kernel
theorem dX1_contraries_31 : decode cX1_contraries 31 = .ok (.if_icmp .ge 78, 3) := by decide +kernel
theorem dX1_contraries_34 : decode cX1_contraries 34 = .ok (.aload_n 0, 1) := by decide +kernel
theorem dX1_contraries_35 : decode cX1_contraries 35 = .ok (.getfield 18, 3) := by decide +kernel
theorem dX1_contraries_38 : decode cX1_contraries 38 = .ok (.iload_n 1, 1) := by decide +kernel
theorem dX1_contraries_39 : decode cX1_contraries 39 = .ok (.invokevirtual 47, 3) := by decide +kernel
theorem dX1_contraries_42 : decode cX1_contraries 42 = .ok (.ifCond .eq 61, 3) := by decide +kernel
theorem dX1_contraries_45 : decode cX1_contraries 45 = .ok (.aload_n 0, 1) := by decide +kernel
theorem dX1_contraries_46 : decode cX1_contraries 46 = .ok (.getfield 18, 3) := by decide +kernel
theorem dX1_contraries_49 : decode cX1_contraries 49 = .ok (.iload_n 2, 1) := by decide +kernel
theorem dX1_contraries_50 : decode cX1_contraries 50 = .ok (.invokevirtual 47, 3) := by decide +kernel
theorem dX1_contraries_53 : decode cX1_contraries 53 = .ok (.ifCond .eq 50, 3) := by decide +kernel
theorem dX1_contraries_56 : decode cX1_contraries 56 = .ok (.aload_n 0, 1) := by decide +kernel
theorem dX1_contraries_57 : decode cX1_contraries 57 = .ok (.getfield 18, 3) := by decide +kernel
theorem dX1_contraries_60 : decode cX1_contraries 60 = .ok (.getfield 54, 3) := by decide +kernel
theorem dX1_contraries_63 : decode cX1_contraries 63 = .ok (.bipush 11, 2) := by decide +kernel
theorem dX1_contraries_65 : decode cX1_contraries 65 = .ok (.iload_n 1, 1) := by decide +kernel
theorem dX1_contraries_66 : decode cX1_contraries 66 = .ok (.iadd, 1) := by decide +kernel
theorem dX1_contraries_67 : decode cX1_contraries 67 = .ok (.iaload, 1) := by decide +kernel
theorem dX1_contraries_68 : decode cX1_contraries 68 = .ok (.aload_n 0, 1) := by decide +kernel
theorem dX1_contraries_69 : decode cX1_contraries 69 = .ok (.getfield 18, 3) := by decide +kernel
theorem dX1_contraries_72 : decode cX1_contraries 72 = .ok (.getfield 54, 3) := by decide +kernel
theorem dX1_contraries_75 : decode cX1_contraries 75 = .ok (.bipush 11, 2) := by decide +kernel
theorem dX1_contraries_77 : decode cX1_contraries 77 = .ok (.iload_n 2, 1) := by decide +kernel
theorem dX1_contraries_78 : decode cX1_contraries 78 = .ok (.iadd, 1) := by decide +kernel
theorem dX1_contraries_79 : decode cX1_contraries 79 = .ok (.iaload, 1) := by decide +kernel
theorem dX1_contraries_80 : decode cX1_contraries 80 = .ok (.if_icmp .ne 23, 3) := by decide +kernel
theorem dX1_contraries_83 : decode cX1_contraries 83 = .ok (.aload_n 0, 1) := by decide +kernel
theorem dX1_contraries_84 : decode cX1_contraries 84 = .ok (.iload_n 1, 1) := by decide +kernel
theorem dX1_contraries_85 : decode cX1_contraries 85 = .ok (.invokevirtual 66, 3) := by decide +kernel
theorem dX1_contraries_88 : decode cX1_contraries 88 = .ok (.aload_n 0, 1) := by decide +kernel
theorem dX1_contraries_89 : decode cX1_contraries 89 = .ok (.iload_n 2, 1) := by decide +kernel
theorem dX1_contraries_90 : decode cX1_contraries 90 = .ok (.invokevirtual 66, 3) := by decide +kernel
theorem dX1_contraries_93 : decode cX1_contraries 93 = .ok (.if_icmp .eq 10, 3) := by decide +kernel
theorem dX1_contraries_96 : decode cX1_contraries 96 = .ok (.iload_n 1, 1) := by decide +kernel
theorem dX1_contraries_97 : decode cX1_contraries 97 = .ok (.bipush 6, 2) := by decide +kernel
theorem dX1_contraries_99 : decode cX1_contraries 99 = .ok (.imul, 1) := by decide +kernel
theorem dX1_contraries_100 : decode cX1_contraries 100 = .ok (.iload_n 2, 1) := by decide +kernel
theorem dX1_contraries_101 : decode cX1_contraries 101 = .ok (.iadd, 1) := by decide +kernel
theorem dX1_contraries_102 : decode cX1_contraries 102 = .ok (.ireturn, 1) := by decide +kernel
theorem dX1_contraries_103 : decode cX1_contraries 103 = .ok (.iinc 2 1, 3) := by decide +kernel
theorem dX1_contraries_106 : decode cX1_contraries 106 = .ok (.goto (-86), 3) := by decide +kernel
theorem dX1_contraries_109 : decode cX1_contraries 109 = .ok (.iinc 1 1, 3) := by decide +kernel
theorem dX1_contraries_112 : decode cX1_contraries 112 = .ok (.goto (-110), 3) := by decide +kernel
theorem dX1_contraries_115 : decode cX1_contraries 115 = .ok (.iconst (-1), 1) := by decide +kernel
theorem dX1_contraries_116 : decode cX1_contraries 116 = .ok (.ireturn, 1) := by decide +kernel
theorem wd_1090 : (Cond.code ⟨"WebCourt$Counsel", "contraries", "()I"⟩ prog_3_method_5_code (3 : Nat) (Option.some FieldType.int)) ∈ gtb := gtb_c5 21 (by decide +kernel) rfl
theorem wd_1092 : (Cond.methodLink "WebCourt$Counsel" (66 : Nat) ⟨"WebCourt$Counsel", "outcome", "(I)I"⟩) ∈ gtb := gtb_c5 23 (by decide +kernel) rfl
theorem wd_1094 : (Cond.instanceMethod ⟨"WebCourt$Counsel", "outcome", "(I)I"⟩) ∈ gtb := gtb_c5 25 (by decide +kernel) rfl
theorem wd_38 : (Cond.selects "WebCourt$Counsel" ⟨"WebCourt$Counsel", "outcome", "(I)I"⟩ ⟨"WebCourt$Counsel", "outcome", "(I)I"⟩) ∈ gtb := gtb_p 38 (by decide +kernel) rfl
theorem hd_yX1_outcome : yX1_outcome.cls = RX1 ∧ yX1_outcome.cls ≠ "java/lang/invoke/MethodHandle" ∧ yX1_outcome.cls ≠ "java/lang/invoke/VarHandle" ∧ (parseMethodDescriptor yX1_outcome.desc).map (fun d => d.parameters.length) = some 1 := by decide +kernel
set_option maxHeartbeats 4000000 in
set_option maxRecDepth 100000 in
theorem T_X1_contraries (l : Launch) (D : va_G) (cy : Nat → ClassId) (a : Nat → Nat) (u : St) (hJ : CI a u)   : Mi l D cy (cW cy a) yX1_contraries (.code yX1_contraries cX1_contraries 3 (some .int)) (rmo 5 120) [.ref (a 36)] u (fun (r : Int32) (u' : St) => (CI a u') ∧ (KT u u')) := by
  refine Mi.of (own := RX1) rfl (by decide) (Nat.le_of_ble_eq_true rfl) ?_
  have hT : KT u u := KT.rf
  intro p e s m below meth c A Q ls C hret hO hl
  obtain ⟨hx, hb, hml, hown, ht, hK, hA⟩ := id C
  have hl : lv_has ls 3 [(0, .ref (a 36))] := hl
  refine lv_iconst (v := 0) hx hb dX1_contraries_0 (by decide) ?_
  refine lv_istore_n (lv' := [(1, .int 0), (0, .ref (a 36))]) hx hb dX1_contraries_1 rfl hl (by decide) rfl (fun ls hl => ?_)
  have LP_2_k2 : ∀ (n : Nat) (u1 : St) (H : Heap) (locs : List Loc) (ls : Array Slot) (i_k2 : Int32), Wo D A (cW cy a u1) s.heap H locs → lv_has ls 3 [(1, .int i_k2), (0, .ref (a 36))] → CI a u1 → KT u u1 → 0 ≤ i_k2.toInt ∧ i_k2.toInt ≤ 6 → 6 - i_k2.toInt < (n : Int) → W p l e (rmo 5 120) s m [.ref (a 36)].toArray below meth c H locs 0 0 Q (F0 m 2 ls []) := by
    intro n
    induction n with
    | zero =>
      intro u1 H locs ls i_k2 hO hl hJ hT iv0_k2 hm_k2
      exact absurd hm_k2 (by omega)
    | succ n ih_k2 =>
      intro u1 H locs ls i_k2 hO hl hJ hT iv0_k2 hm_k2
      refine lv_iload_n hx hb dX1_contraries_2 rfl (lv_at hl 0 rfl) ?_
      refine lv_aload_n hx hb dX1_contraries_3 rfl (lv_at hl 1 rfl) ?_
      refine gf_RX1_18 (v := .ref (a 28)) C hO 36 cW_36 rfl dX1_contraries_4 ?_
      refine gf_RX1_34 (v := .ref (a 3)) C hO 28 cW_28 (congrArg (fun z : Nat => some (Value.ref z)) (CI_R0 hJ)) dX1_contraries_7 ?_
      have g3 : 0 ≤ (fI u1 3 12).toInt ∧ (fI u1 3 12).toInt ≤ 6 := by have h := CI_3_12 hJ; exact h
      refine gf_RX1_44 (v := .int (fI u1 3 12)) C hO 3 cW_3 rfl dX1_contraries_10 ?_
      refine cs_ge (tgt := 115) (X := (i_k2).toInt) (Y := ((fI u1 3 12)).toInt) hx hb dX1_contraries_13 (by decide) rfl rfl (fun c4 => ?_) (fun c4 => ?_)
      · refine lv_iconst (v := (-1)) hx hb dX1_contraries_115 (by decide) ?_
        refine hret _ _ _ _ _ _ dX1_contraries_116 rfl ?_ hO
        exact ⟨hJ, hT⟩
      · refine lv_iload_n hx hb dX1_contraries_16 rfl (lv_at hl 0 rfl) ?_
        refine lv_iconst (v := 1) hx hb dX1_contraries_17 (by decide) ?_
        have e5 : ((i_k2 + 1)).toInt = (i_k2).toInt + 1 := i_add rfl rfl (by omega)
        refine lv_iadd hx hb dX1_contraries_18 ?_
        refine lv_istore_n (lv' := [(2, .int (i_k2 + 1)), (1, .int i_k2), (0, .ref (a 36))]) hx hb dX1_contraries_19 rfl hl (by decide) rfl (fun ls hl => ?_)
        have LP_20_k7 : ∀ (n : Nat) (u6 : St) (H : Heap) (locs : List Loc) (ls : Array Slot) (i_k7 : Int32), Wo D A (cW cy a u6) s.heap H locs → lv_has ls 3 [(2, .int i_k7), (1, .int i_k2), (0, .ref (a 36))] → CI a u6 → KT u u6 → 1 ≤ i_k7.toInt ∧ i_k7.toInt ≤ 6 → 6 - i_k7.toInt < (n : Int) → W p l e (rmo 5 120) s m [.ref (a 36)].toArray below meth c H locs 0 0 Q (F0 m 20 ls []) := by
          intro n
          induction n with
          | zero =>
            intro u6 H locs ls i_k7 hO hl hJ hT iv0_k7 hm_k7
            exact absurd hm_k7 (by omega)
          | succ n ih_k7 =>
            intro u6 H locs ls i_k7 hO hl hJ hT iv0_k7 hm_k7
            refine lv_iload_n hx hb dX1_contraries_20 rfl (lv_at hl 0 rfl) ?_
            refine lv_aload_n hx hb dX1_contraries_21 rfl (lv_at hl 2 rfl) ?_
            refine gf_RX1_18 (v := .ref (a 28)) C hO 36 cW_36 rfl dX1_contraries_22 ?_
            refine gf_RX1_34 (v := .ref (a 3)) C hO 28 cW_28 (congrArg (fun z : Nat => some (Value.ref z)) (CI_R0 hJ)) dX1_contraries_25 ?_
            have g8 : 0 ≤ (fI u6 3 12).toInt ∧ (fI u6 3 12).toInt ≤ 6 := by have h := CI_3_12 hJ; exact h
            refine gf_RX1_44 (v := .int (fI u6 3 12)) C hO 3 cW_3 rfl dX1_contraries_28 ?_
            refine cs_ge (tgt := 109) (X := (i_k7).toInt) (Y := ((fI u6 3 12)).toInt) hx hb dX1_contraries_31 (by decide) rfl rfl (fun c9 => ?_) (fun c9 => ?_)
            · have e10 : ((i_k2 + 1)).toInt = (i_k2).toInt + 1 := i_add rfl rfl (by omega)
              refine lv_iinc (v := (i_k2 + 1)) (lv' := [(1, .int (i_k2 + 1)), (2, .int i_k7), (0, .ref (a 36))]) hx hb dX1_contraries_109 hl (k := 1) rfl rfl (by decide) rfl (fun ls hl => ?_)
              refine lv_goto (tgt := 2) hx hb dX1_contraries_112 (by decide) ?_
              exact ih_k2 _ _ _ _ ((i_k2 + 1)) hO (lv_sub hl [0, 2] rfl) (by exact hJ) (by exact hT) (by first | decide | omega) (by first | decide | omega)
            · refine lv_aload_n hx hb dX1_contraries_34 rfl (lv_at hl 2 rfl) ?_
              refine gf_RX1_18 (v := .ref (a 28)) C hO 36 cW_36 rfl dX1_contraries_35 ?_
              refine lv_iload_n hx hb dX1_contraries_38 rfl (lv_at hl 1 rfl) ?_
              refine cVi (w := cW cy a) (As := [.int i_k2]) (rest := []) C hO (T_X2_isHeld l D cy a _ (by exact hJ) (i_k2)) (cwV 1 ht (gV wd_1091 wd_930 wd_931 wd_115 wd_932) rfl rfl rfl hd_yX2_isHeld ⟨Nat.le_of_ble_eq_true rfl, Nat.le_of_ble_eq_true rfl⟩) 28 rfl cW_28 rfl rfl hl.1 (Nat.le_of_ble_eq_true rfl) dX1_contraries_39 rfl ⟨Nat.zero_le _, Nat.zero_le _⟩ (fun r11 u12 H locs hp13 hO => ?_)
              obtain ⟨hr11, hu12⟩ := hp13
              rw [hu12] at hO
              rcases hr11 with ⟨hcr11, hvr11⟩ | ⟨hcr11, hvr11⟩
              · subst hvr11
                refine bn_eq (X := 1) hx hb dX1_contraries_42 rfl (by omega) ?_ (tgt := 103) (by decide)
                refine lv_aload_n hx hb dX1_contraries_45 rfl (lv_at hl 2 rfl) ?_
                refine gf_RX1_18 (v := .ref (a 28)) C hO 36 cW_36 rfl dX1_contraries_46 ?_
                refine lv_iload_n hx hb dX1_contraries_49 rfl (lv_at hl 0 rfl) ?_
                refine cVi (w := cW cy a) (As := [.int i_k7]) (rest := []) C hO (T_X2_isHeld l D cy a _ (by exact hJ) (i_k7)) (cwV 1 ht (gV wd_1091 wd_930 wd_931 wd_115 wd_932) rfl rfl rfl hd_yX2_isHeld ⟨Nat.le_of_ble_eq_true rfl, Nat.le_of_ble_eq_true rfl⟩) 28 rfl cW_28 rfl rfl hl.1 (Nat.le_of_ble_eq_true rfl) dX1_contraries_50 rfl ⟨Nat.zero_le _, Nat.zero_le _⟩ (fun r14 u15 H locs hp16 hO => ?_)
                obtain ⟨hr14, hu15⟩ := hp16
                rw [hu15] at hO
                rcases hr14 with ⟨hcr14, hvr14⟩ | ⟨hcr14, hvr14⟩
                · subst hvr14
                  refine bn_eq (X := 1) hx hb dX1_contraries_53 rfl (by omega) ?_ (tgt := 103) (by decide)
                  refine lv_aload_n hx hb dX1_contraries_56 rfl (lv_at hl 2 rfl) ?_
                  refine gf_RX1_18 (v := .ref (a 28)) C hO 36 cW_36 rfl dX1_contraries_57 ?_
                  refine gf_RX1_54 (v := .ref (a 29)) C hO 28 cW_28 rfl dX1_contraries_60 ?_
                  refine lv_bipush (v := 11) hx hb dX1_contraries_63 (by decide) ?_
                  refine lv_iload_n hx hb dX1_contraries_65 rfl (lv_at hl 1 rfl) ?_
                  have e17 : ((11 + i_k2)).toInt = 11 + (i_k2).toInt := i_add rfl rfl (by omega)
                  refine lv_iadd hx hb dX1_contraries_66 ?_
                  refine aI C hO 29 cW_29 (i_in (X := (11 + (i_k2).toInt)) e17 (by omega) (by omega)) dX1_contraries_67 ?_
                  refine lv_topi (fun w18 ew18 => ?_)
                  refine lv_aload_n hx hb dX1_contraries_68 rfl (lv_at hl 2 rfl) ?_
                  refine gf_RX1_18 (v := .ref (a 28)) C hO 36 cW_36 rfl dX1_contraries_69 ?_
                  refine gf_RX1_54 (v := .ref (a 29)) C hO 28 cW_28 rfl dX1_contraries_72 ?_
                  refine lv_bipush (v := 11) hx hb dX1_contraries_75 (by decide) ?_
                  refine lv_iload_n hx hb dX1_contraries_77 rfl (lv_at hl 0 rfl) ?_
                  have e19 : ((11 + i_k7)).toInt = 11 + (i_k7).toInt := i_add rfl rfl (by omega)
                  refine lv_iadd hx hb dX1_contraries_78 ?_
                  refine aI C hO 29 cW_29 (i_in (X := (11 + (i_k7).toInt)) e19 (by omega) (by omega)) dX1_contraries_79 ?_
                  refine lv_topi (fun w20 ew20 => ?_)
                  refine cs_ne (tgt := 103) (X := (w18).toInt) (Y := (w20).toInt) hx hb dX1_contraries_80 (by decide) rfl rfl (fun c21 => ?_) (fun c21 => ?_)
                  · have e22 : ((i_k7 + 1)).toInt = (i_k7).toInt + 1 := i_add rfl rfl (by omega)
                    refine lv_iinc (v := (i_k7 + 1)) (lv' := [(2, .int (i_k7 + 1)), (1, .int i_k2), (0, .ref (a 36))]) hx hb dX1_contraries_103 hl (k := 0) rfl rfl (by decide) rfl (fun ls hl => ?_)
                    refine lv_goto (tgt := 20) hx hb dX1_contraries_106 (by decide) ?_
                    exact ih_k7 _ _ _ _ ((i_k7 + 1)) hO (lv_sub hl [0, 1, 2] rfl) (by exact hJ) (by exact hT) (by first | decide | omega) (by first | decide | omega)
                  · refine lv_aload_n hx hb dX1_contraries_83 rfl (lv_at hl 2 rfl) ?_
                    refine lv_iload_n hx hb dX1_contraries_84 rfl (lv_at hl 1 rfl) ?_
                    refine cVi (w := cW cy a) (As := [.int i_k2]) (rest := []) C hO (T_X1_outcome l D cy a _ (by exact hJ) (i_k2) (by first | omega | decide)) (cwV 1 ht (gV wd_1092 wd_1094 wd_38 wd_119 wd_1095) rfl rfl rfl hd_yX1_outcome ⟨Nat.le_of_ble_eq_true rfl, Nat.le_of_ble_eq_true rfl⟩) 36 rfl cW_36 rfl rfl hl.1 (Nat.le_of_ble_eq_true rfl) dX1_contraries_85 rfl ⟨Nat.zero_le _, Nat.zero_le _⟩ (fun r23 u24 H locs hp25 hO => ?_)
                    obtain ⟨hJ, hTu24⟩ := hp25
                    have hT : KT u u24 := KT.tr (by exact hT) hTu24
                    refine lv_aload_n hx hb dX1_contraries_88 rfl (lv_at hl 2 rfl) ?_
                    refine lv_iload_n hx hb dX1_contraries_89 rfl (lv_at hl 0 rfl) ?_
                    refine cVi (w := cW cy a) (As := [.int i_k7]) (rest := [.int r23]) C hO (T_X1_outcome l D cy a _ (by exact hJ) (i_k7) (by first | omega | decide)) (cwV 1 ht (gV wd_1092 wd_1094 wd_38 wd_119 wd_1095) rfl rfl rfl hd_yX1_outcome ⟨Nat.le_of_ble_eq_true rfl, Nat.le_of_ble_eq_true rfl⟩) 36 rfl cW_36 rfl rfl hl.1 (Nat.le_of_ble_eq_true rfl) dX1_contraries_90 rfl ⟨Nat.zero_le _, Nat.zero_le _⟩ (fun r26 u27 H locs hp28 hO => ?_)
                    obtain ⟨hJ, hTu27⟩ := hp28
                    have hT : KT u u27 := KT.tr (by exact hT) hTu27
                    refine cs_eq (tgt := 103) (X := (r23).toInt) (Y := (r26).toInt) hx hb dX1_contraries_93 (by decide) rfl rfl (fun c29 => ?_) (fun c29 => ?_)
                    · have e30 : ((i_k7 + 1)).toInt = (i_k7).toInt + 1 := i_add rfl rfl (by omega)
                      refine lv_iinc (v := (i_k7 + 1)) (lv' := [(2, .int (i_k7 + 1)), (1, .int i_k2), (0, .ref (a 36))]) hx hb dX1_contraries_103 hl (k := 0) rfl rfl (by decide) rfl (fun ls hl => ?_)
                      refine lv_goto (tgt := 20) hx hb dX1_contraries_106 (by decide) ?_
                      exact ih_k7 _ _ _ _ ((i_k7 + 1)) hO (lv_sub hl [0, 1, 2] rfl) (by exact hJ) (by exact hT) (by first | decide | omega) (by first | decide | omega)
                    · refine lv_iload_n hx hb dX1_contraries_96 rfl (lv_at hl 1 rfl) ?_
                      refine lv_bipush (v := 6) hx hb dX1_contraries_97 (by decide) ?_
                      have e31 : ((i_k2 * 6)).toInt = (i_k2).toInt * 6 := i_mul rfl rfl (by omega)
                      refine lv_imul hx hb dX1_contraries_99 ?_
                      refine lv_iload_n hx hb dX1_contraries_100 rfl (lv_at hl 0 rfl) ?_
                      have e32 : (((i_k2 * 6) + i_k7)).toInt = ((i_k2).toInt * 6) + (i_k7).toInt := i_add e31 rfl (by omega)
                      refine lv_iadd hx hb dX1_contraries_101 ?_
                      refine hret _ _ _ _ _ _ dX1_contraries_102 rfl ?_ hO
                      exact ⟨hJ, hT⟩
                · subst hvr14
                  refine bt_eq (tgt := 103) (X := 0) hx hb dX1_contraries_53 (by decide) rfl (by omega) ?_
                  have e33 : ((i_k7 + 1)).toInt = (i_k7).toInt + 1 := i_add rfl rfl (by omega)
                  refine lv_iinc (v := (i_k7 + 1)) (lv' := [(2, .int (i_k7 + 1)), (1, .int i_k2), (0, .ref (a 36))]) hx hb dX1_contraries_103 hl (k := 0) rfl rfl (by decide) rfl (fun ls hl => ?_)
                  refine lv_goto (tgt := 20) hx hb dX1_contraries_106 (by decide) ?_
                  exact ih_k7 _ _ _ _ ((i_k7 + 1)) hO (lv_sub hl [0, 1, 2] rfl) (by exact hJ) (by exact hT) (by first | decide | omega) (by first | decide | omega)
              · subst hvr11
                refine bt_eq (tgt := 103) (X := 0) hx hb dX1_contraries_42 (by decide) rfl (by omega) ?_
                have e34 : ((i_k7 + 1)).toInt = (i_k7).toInt + 1 := i_add rfl rfl (by omega)
                refine lv_iinc (v := (i_k7 + 1)) (lv' := [(2, .int (i_k7 + 1)), (1, .int i_k2), (0, .ref (a 36))]) hx hb dX1_contraries_103 hl (k := 0) rfl rfl (by decide) rfl (fun ls hl => ?_)
                refine lv_goto (tgt := 20) hx hb dX1_contraries_106 (by decide) ?_
                exact ih_k7 _ _ _ _ ((i_k7 + 1)) hO (lv_sub hl [0, 1, 2] rfl) (by exact hJ) (by exact hT) (by first | decide | omega) (by first | decide | omega)
        exact LP_20_k7 4000 _ _ _ _ ((i_k2 + 1)) hO (lv_sub hl [0, 1, 2] rfl) (by exact hJ) (by exact hT) (by first | decide | omega) (by first | decide | omega)
  exact LP_2_k2 4000 _ _ _ _ (0) hO (lv_sub hl [0, 1] rfl) (by exact hJ) (by exact hT) (by first | decide | omega) (by first | decide | omega)
theorem dX1_isBest_0 : decode cX1_isBest 0 = .ok (.iload_n 3, 1) := by decide +kernel
theorem dX1_isBest_1 : decode cX1_isBest 1 = .ok (.iload 4, 2) := by decide +kernel
theorem dX1_isBest_3 : decode cX1_isBest 3 = .ok (.if_icmp .ne 7, 3) := by decide +kernel
theorem dX1_isBest_6 : decode cX1_isBest 6 = .ok (.iload_n 2, 1) := by decide +kernel
theorem dX1_isBest_7 : decode cX1_isBest 7 = .ok (.goto 6, 3) := by decide +kernel
theorem dX1_isBest_10 : decode cX1_isBest 10 = .ok (.aload_n 1, 1) := by decide +kernel
theorem dX1_isBest_11 : decode cX1_isBest 11 = .ok (.iload_n 3, 1) := by decide +kernel
theorem dX1_isBest_12 : decode cX1_isBest 12 = .ok (.iaload, 1) := by decide +kernel
theorem dX1_isBest_13 : decode cX1_isBest 13 = .ok (.istore 5, 2) := by decide +kernel
theorem dX1_isBest_15 : decode cX1_isBest 15 = .ok (.iconst 0, 1) := by decide +kernel
theorem dX1_isBest_16 : decode cX1_isBest 16 = .ok (.istore 6, 2) := by decide +kernel
theorem dX1_isBest_18 : decode cX1_isBest 18 = .ok (.iload 6, 2) := by decide +kernel
theorem dX1_isBest_20 : decode cX1_isBest 20 = .ok (.aload_n 0, 1) := by decide +kernel
theorem dX1_isBest_21 : decode cX1_isBest 21 = .ok (.getfield 18, 3) := by decide +kernel
theorem dX1_isBest_24 : decode cX1_isBest 24 = .ok (.getfield 34, 3) := by decide +kernel
theorem dX1_isBest_27 : decode cX1_isBest 27 = .ok (.getfield 38, 3) := by decide +kernel
theorem dX1_isBest_30 : decode cX1_isBest 30 = .ok (.if_icmp .ge 35, 3) := by decide +kernel
theorem dX1_isBest_33 : decode cX1_isBest 33 = .ok (.iload 6, 2) := by decide +kernel
theorem dX1_isBest_35 : decode cX1_isBest 35 = .ok (.iload 4, 2) := by decide +kernel
theorem dX1_isBest_37 : decode cX1_isBest 37 = .ok (.if_icmp .ne 7, 3) := by decide +kernel
theorem dX1_isBest_40 : decode cX1_isBest 40 = .ok (.iload_n 2, 1) := by decide +kernel
theorem dX1_isBest_41 : decode cX1_isBest 41 = .ok (.goto 7, 3) := by decide +kernel
theorem dX1_isBest_44 : decode cX1_isBest 44 = .ok (.aload_n 1, 1) := by decide +kernel
theorem dX1_isBest_45 : decode cX1_isBest 45 = .ok (.iload 6, 2) := by decide +kernel
theorem dX1_isBest_47 : decode cX1_isBest 47 = .ok (.iaload, 1) := by decide +kernel
theorem dX1_isBest_48 : decode cX1_isBest 48 = .ok (.istore 7, 2) := by decide +kernel
theorem dX1_isBest_50 : decode cX1_isBest 50 = .ok (.iload 7, 2) := by decide +kernel
theorem dX1_isBest_52 : decode cX1_isBest 52 = .ok (.iload 5, 2) := by decide +kernel
theorem dX1_isBest_54 : decode cX1_isBest 54 = .ok (.if_icmp .le 5, 3) := by decide +kernel
theorem dX1_isBest_57 : decode cX1_isBest 57 = .ok (.iconst 0, 1) := by decide +kernel
theorem dX1_isBest_58 : decode cX1_isBest 58 = .ok (.ireturn, 1) := by decide +kernel
theorem dX1_isBest_59 : decode cX1_isBest 59 = .ok (.iinc 6 1, 3) := by decide +kernel
theorem dX1_isBest_62 : decode cX1_isBest 62 = .ok (.goto (-44), 3) := by decide +kernel
theorem dX1_isBest_65 : decode cX1_isBest 65 = .ok (.iconst 1, 1) := by decide +kernel
theorem dX1_isBest_66 : decode cX1_isBest 66 = .ok (.ireturn, 1) := by decide +kernel
theorem wd_1123 : (Cond.code ⟨"WebCourt$Counsel", "isBest", "([IIII)Z"⟩ prog_3_method_8_code (8 : Nat) (Option.some FieldType.boolean)) ∈ gtb := gtb_c5 54 (by decide +kernel) rfl
set_option maxHeartbeats 4000000 in
set_option maxRecDepth 100000 in
theorem T_X1_isBest_1 (l : Launch) (D : va_G) (cy : Nat → ClassId) (a : Nat → Nat) (u : St) (hJ : CI a u) (x2 : Int32) (x3 : Int32) (x4 : Int32) (hx_x3 : 0 ≤ x3.toInt ∧ x3.toInt ≤ 7) : Mi l D cy (cW cy a) yX1_isBest (.code yX1_isBest cX1_isBest 8 (some .boolean)) (rmo 0 0) [.ref (a 36), .ref (a 37), .int x2, .int x3, .int x4] u (fun (r : Int32) (u' : St) => (r = 0 ∨ r = 1) ∧ (u' = u)) := by
  refine Mi.of (own := RX1) rfl (by decide) (Nat.le_of_ble_eq_true rfl) ?_
  have hT : KT u u := KT.rf
  intro p e s m below meth c A Q ls C hret hO hl
  obtain ⟨hx, hb, hml, hown, ht, hK, hA⟩ := id C
  have hl : lv_has ls 8 [(0, .ref (a 36)), (1, .ref (a 37)), (2, .int x2), (3, .int x3), (4, .int x4)] := hl
  refine lv_iload_n hx hb dX1_isBest_0 rfl (lv_at hl 3 rfl) ?_
  refine lv_iload hx hb dX1_isBest_1 (lv_at hl 4 rfl) ?_
  refine cs_ne (tgt := 10) (X := (x3).toInt) (Y := (x4).toInt) hx hb dX1_isBest_3 (by decide) rfl rfl (fun c1 => ?_) (fun c1 => ?_)
  · refine lv_aload_n hx hb dX1_isBest_10 rfl (lv_at hl 1 rfl) ?_
    refine lv_iload_n hx hb dX1_isBest_11 rfl (lv_at hl 3 rfl) ?_
    refine aI C hO 37 cW_37 (i_in (X := (x3).toInt) rfl (by omega) (by omega)) dX1_isBest_12 ?_
    refine lv_topi (fun w2 ew2 => ?_)
    refine lv_istore (lv' := [(5, .int w2), (0, .ref (a 36)), (1, .ref (a 37)), (2, .int x2), (3, .int x3), (4, .int x4)]) hx hb dX1_isBest_13 hl (by decide) rfl (fun ls hl => ?_)
    refine lv_iconst (v := 0) hx hb dX1_isBest_15 (by decide) ?_
    refine lv_istore (lv' := [(6, .int 0), (5, .int w2), (0, .ref (a 36)), (1, .ref (a 37)), (2, .int x2), (3, .int x3), (4, .int x4)]) hx hb dX1_isBest_16 hl (by decide) rfl (fun ls hl => ?_)
    have LP_18_k3 : ∀ (n : Nat) (H : Heap) (locs : List Loc) (ls : Array Slot) (i_k3 : Int32), Wo D A (cW cy a u) s.heap H locs → lv_has ls 8 [(6, .int i_k3), (5, .int w2), (0, .ref (a 36)), (1, .ref (a 37)), (2, .int x2), (3, .int x3), (4, .int x4)] → 0 ≤ i_k3.toInt ∧ i_k3.toInt ≤ 8 → 8 - i_k3.toInt < (n : Int) → W p l e (rmo 0 0) s m [.ref (a 36), .ref (a 37), .int x2, .int x3, .int x4].toArray below meth c H locs 0 0 Q (F0 m 18 ls []) := by
      intro n
      induction n with
      | zero =>
        intro H locs ls i_k3 hO hl iv0_k3 hm_k3
        exact absurd hm_k3 (by omega)
      | succ n ih_k3 =>
        intro H locs ls i_k3 hO hl iv0_k3 hm_k3
        refine lv_iload hx hb dX1_isBest_18 (lv_at hl 0 rfl) ?_
        refine lv_aload_n hx hb dX1_isBest_20 rfl (lv_at hl 2 rfl) ?_
        refine gf_RX1_18 (v := .ref (a 28)) C hO 36 cW_36 rfl dX1_isBest_21 ?_
        refine gf_RX1_34 (v := .ref (a 3)) C hO 28 cW_28 (congrArg (fun z : Nat => some (Value.ref z)) (CI_R0 hJ)) dX1_isBest_24 ?_
        have g4 : 0 ≤ (fI u 3 11).toInt ∧ (fI u 3 11).toInt ≤ 8 := by have h := CI_3_11 hJ; exact h
        refine gf_RX1_38 (v := .int (fI u 3 11)) C hO 3 cW_3 rfl dX1_isBest_27 ?_
        refine cs_ge (tgt := 65) (X := (i_k3).toInt) (Y := ((fI u 3 11)).toInt) hx hb dX1_isBest_30 (by decide) rfl rfl (fun c5 => ?_) (fun c5 => ?_)
        · refine lv_iconst (v := 1) hx hb dX1_isBest_65 (by decide) ?_
          refine hret _ _ _ _ _ _ dX1_isBest_66 rfl ?_ hO
          exact ⟨Or.inr rfl, rfl⟩
        · refine lv_iload hx hb dX1_isBest_33 (lv_at hl 0 rfl) ?_
          refine lv_iload hx hb dX1_isBest_35 (lv_at hl 6 rfl) ?_
          refine cs_ne (tgt := 44) (X := (i_k3).toInt) (Y := (x4).toInt) hx hb dX1_isBest_37 (by decide) rfl rfl (fun c6 => ?_) (fun c6 => ?_)
          · refine lv_aload_n hx hb dX1_isBest_44 rfl (lv_at hl 3 rfl) ?_
            refine lv_iload hx hb dX1_isBest_45 (lv_at hl 0 rfl) ?_
            refine aI C hO 37 cW_37 (i_in (X := (i_k3).toInt) rfl (by omega) (by omega)) dX1_isBest_47 ?_
            refine lv_topi (fun w7 ew7 => ?_)
            refine lv_istore (lv' := [(7, .int w7), (6, .int i_k3), (5, .int w2), (0, .ref (a 36)), (1, .ref (a 37)), (2, .int x2), (3, .int x3), (4, .int x4)]) hx hb dX1_isBest_48 hl (by decide) rfl (fun ls hl => ?_)
            refine lv_iload hx hb dX1_isBest_50 (lv_at hl 0 rfl) ?_
            refine lv_iload hx hb dX1_isBest_52 (lv_at hl 2 rfl) ?_
            refine cs_le (tgt := 59) (X := (w7).toInt) (Y := (w2).toInt) hx hb dX1_isBest_54 (by decide) rfl rfl (fun c8 => ?_) (fun c8 => ?_)
            · have e9 : ((i_k3 + 1)).toInt = (i_k3).toInt + 1 := i_add rfl rfl (by omega)
              refine lv_iinc (v := (i_k3 + 1)) (lv' := [(6, .int (i_k3 + 1)), (7, .int w7), (5, .int w2), (0, .ref (a 36)), (1, .ref (a 37)), (2, .int x2), (3, .int x3), (4, .int x4)]) hx hb dX1_isBest_59 hl (k := 1) rfl rfl (by decide) rfl (fun ls hl => ?_)
              refine lv_goto (tgt := 18) hx hb dX1_isBest_62 (by decide) ?_
              exact ih_k3 _ _ _ ((i_k3 + 1)) hO (lv_sub hl [0, 2, 3, 4, 5, 6, 7] rfl) (by first | decide | omega) (by first | decide | omega)
            · refine lv_iconst (v := 0) hx hb dX1_isBest_57 (by decide) ?_
              refine hret _ _ _ _ _ _ dX1_isBest_58 rfl ?_ hO
              exact ⟨Or.inl rfl, rfl⟩
          · refine lv_iload_n hx hb dX1_isBest_40 rfl (lv_at hl 4 rfl) ?_
            refine lv_goto (tgt := 48) hx hb dX1_isBest_41 (by decide) ?_
            refine lv_istore (lv' := [(7, .int x2), (6, .int i_k3), (5, .int w2), (0, .ref (a 36)), (1, .ref (a 37)), (2, .int x2), (3, .int x3), (4, .int x4)]) hx hb dX1_isBest_48 hl (by decide) rfl (fun ls hl => ?_)
            refine lv_iload hx hb dX1_isBest_50 (lv_at hl 0 rfl) ?_
            refine lv_iload hx hb dX1_isBest_52 (lv_at hl 2 rfl) ?_
            refine cs_le (tgt := 59) (X := (x2).toInt) (Y := (w2).toInt) hx hb dX1_isBest_54 (by decide) rfl rfl (fun c10 => ?_) (fun c10 => ?_)
            · have e11 : ((i_k3 + 1)).toInt = (i_k3).toInt + 1 := i_add rfl rfl (by omega)
              refine lv_iinc (v := (i_k3 + 1)) (lv' := [(6, .int (i_k3 + 1)), (7, .int x2), (5, .int w2), (0, .ref (a 36)), (1, .ref (a 37)), (2, .int x2), (3, .int x3), (4, .int x4)]) hx hb dX1_isBest_59 hl (k := 1) rfl rfl (by decide) rfl (fun ls hl => ?_)
              refine lv_goto (tgt := 18) hx hb dX1_isBest_62 (by decide) ?_
              exact ih_k3 _ _ _ ((i_k3 + 1)) hO (lv_sub hl [0, 2, 3, 4, 5, 6, 7] rfl) (by first | decide | omega) (by first | decide | omega)
            · refine lv_iconst (v := 0) hx hb dX1_isBest_57 (by decide) ?_
              refine hret _ _ _ _ _ _ dX1_isBest_58 rfl ?_ hO
              exact ⟨Or.inl rfl, rfl⟩
    exact LP_18_k3 4000 _ _ _ (0) hO (lv_sub hl [0, 1, 2, 3, 4, 5, 6] rfl) (by first | decide | omega) (by first | decide | omega)
  · refine lv_iload_n hx hb dX1_isBest_6 rfl (lv_at hl 2 rfl) ?_
    refine lv_goto (tgt := 13) hx hb dX1_isBest_7 (by decide) ?_
    refine lv_istore (lv' := [(5, .int x2), (0, .ref (a 36)), (1, .ref (a 37)), (2, .int x2), (3, .int x3), (4, .int x4)]) hx hb dX1_isBest_13 hl (by decide) rfl (fun ls hl => ?_)
    refine lv_iconst (v := 0) hx hb dX1_isBest_15 (by decide) ?_
    refine lv_istore (lv' := [(6, .int 0), (5, .int x2), (0, .ref (a 36)), (1, .ref (a 37)), (2, .int x2), (3, .int x3), (4, .int x4)]) hx hb dX1_isBest_16 hl (by decide) rfl (fun ls hl => ?_)
    have LP_18_k12 : ∀ (n : Nat) (H : Heap) (locs : List Loc) (ls : Array Slot) (i_k12 : Int32), Wo D A (cW cy a u) s.heap H locs → lv_has ls 8 [(6, .int i_k12), (5, .int x2), (0, .ref (a 36)), (1, .ref (a 37)), (2, .int x2), (3, .int x3), (4, .int x4)] → 0 ≤ i_k12.toInt ∧ i_k12.toInt ≤ 8 → 8 - i_k12.toInt < (n : Int) → W p l e (rmo 0 0) s m [.ref (a 36), .ref (a 37), .int x2, .int x3, .int x4].toArray below meth c H locs 0 0 Q (F0 m 18 ls []) := by
      intro n
      induction n with
      | zero =>
        intro H locs ls i_k12 hO hl iv0_k12 hm_k12
        exact absurd hm_k12 (by omega)
      | succ n ih_k12 =>
        intro H locs ls i_k12 hO hl iv0_k12 hm_k12
        refine lv_iload hx hb dX1_isBest_18 (lv_at hl 0 rfl) ?_
        refine lv_aload_n hx hb dX1_isBest_20 rfl (lv_at hl 2 rfl) ?_
        refine gf_RX1_18 (v := .ref (a 28)) C hO 36 cW_36 rfl dX1_isBest_21 ?_
        refine gf_RX1_34 (v := .ref (a 3)) C hO 28 cW_28 (congrArg (fun z : Nat => some (Value.ref z)) (CI_R0 hJ)) dX1_isBest_24 ?_
        have g13 : 0 ≤ (fI u 3 11).toInt ∧ (fI u 3 11).toInt ≤ 8 := by have h := CI_3_11 hJ; exact h
        refine gf_RX1_38 (v := .int (fI u 3 11)) C hO 3 cW_3 rfl dX1_isBest_27 ?_
        refine cs_ge (tgt := 65) (X := (i_k12).toInt) (Y := ((fI u 3 11)).toInt) hx hb dX1_isBest_30 (by decide) rfl rfl (fun c14 => ?_) (fun c14 => ?_)
        · refine lv_iconst (v := 1) hx hb dX1_isBest_65 (by decide) ?_
          refine hret _ _ _ _ _ _ dX1_isBest_66 rfl ?_ hO
          exact ⟨Or.inr rfl, rfl⟩
        · refine lv_iload hx hb dX1_isBest_33 (lv_at hl 0 rfl) ?_
          refine lv_iload hx hb dX1_isBest_35 (lv_at hl 6 rfl) ?_
          refine cs_ne (tgt := 44) (X := (i_k12).toInt) (Y := (x4).toInt) hx hb dX1_isBest_37 (by decide) rfl rfl (fun c15 => ?_) (fun c15 => ?_)
          · refine lv_aload_n hx hb dX1_isBest_44 rfl (lv_at hl 3 rfl) ?_
            refine lv_iload hx hb dX1_isBest_45 (lv_at hl 0 rfl) ?_
            refine aI C hO 37 cW_37 (i_in (X := (i_k12).toInt) rfl (by omega) (by omega)) dX1_isBest_47 ?_
            refine lv_topi (fun w16 ew16 => ?_)
            refine lv_istore (lv' := [(7, .int w16), (6, .int i_k12), (5, .int x2), (0, .ref (a 36)), (1, .ref (a 37)), (2, .int x2), (3, .int x3), (4, .int x4)]) hx hb dX1_isBest_48 hl (by decide) rfl (fun ls hl => ?_)
            refine lv_iload hx hb dX1_isBest_50 (lv_at hl 0 rfl) ?_
            refine lv_iload hx hb dX1_isBest_52 (lv_at hl 2 rfl) ?_
            refine cs_le (tgt := 59) (X := (w16).toInt) (Y := (x2).toInt) hx hb dX1_isBest_54 (by decide) rfl rfl (fun c17 => ?_) (fun c17 => ?_)
            · have e18 : ((i_k12 + 1)).toInt = (i_k12).toInt + 1 := i_add rfl rfl (by omega)
              refine lv_iinc (v := (i_k12 + 1)) (lv' := [(6, .int (i_k12 + 1)), (7, .int w16), (5, .int x2), (0, .ref (a 36)), (1, .ref (a 37)), (2, .int x2), (3, .int x3), (4, .int x4)]) hx hb dX1_isBest_59 hl (k := 1) rfl rfl (by decide) rfl (fun ls hl => ?_)
              refine lv_goto (tgt := 18) hx hb dX1_isBest_62 (by decide) ?_
              exact ih_k12 _ _ _ ((i_k12 + 1)) hO (lv_sub hl [0, 2, 3, 4, 5, 6, 7] rfl) (by first | decide | omega) (by first | decide | omega)
            · refine lv_iconst (v := 0) hx hb dX1_isBest_57 (by decide) ?_
              refine hret _ _ _ _ _ _ dX1_isBest_58 rfl ?_ hO
              exact ⟨Or.inl rfl, rfl⟩
          · refine lv_iload_n hx hb dX1_isBest_40 rfl (lv_at hl 4 rfl) ?_
            refine lv_goto (tgt := 48) hx hb dX1_isBest_41 (by decide) ?_
            refine lv_istore (lv' := [(7, .int x2), (6, .int i_k12), (5, .int x2), (0, .ref (a 36)), (1, .ref (a 37)), (2, .int x2), (3, .int x3), (4, .int x4)]) hx hb dX1_isBest_48 hl (by decide) rfl (fun ls hl => ?_)
            refine lv_iload hx hb dX1_isBest_50 (lv_at hl 0 rfl) ?_
            refine lv_iload hx hb dX1_isBest_52 (lv_at hl 2 rfl) ?_
            refine cs_le (tgt := 59) (X := (x2).toInt) (Y := (x2).toInt) hx hb dX1_isBest_54 (by decide) rfl rfl (fun c19 => ?_) (fun c19 => ?_)
            · have e20 : ((i_k12 + 1)).toInt = (i_k12).toInt + 1 := i_add rfl rfl (by omega)
              refine lv_iinc (v := (i_k12 + 1)) (lv' := [(6, .int (i_k12 + 1)), (7, .int x2), (5, .int x2), (0, .ref (a 36)), (1, .ref (a 37)), (2, .int x2), (3, .int x3), (4, .int x4)]) hx hb dX1_isBest_59 hl (k := 1) rfl rfl (by decide) rfl (fun ls hl => ?_)
              refine lv_goto (tgt := 18) hx hb dX1_isBest_62 (by decide) ?_
              exact ih_k12 _ _ _ ((i_k12 + 1)) hO (lv_sub hl [0, 2, 3, 4, 5, 6, 7] rfl) (by first | decide | omega) (by first | decide | omega)
            · refine lv_iconst (v := 0) hx hb dX1_isBest_57 (by decide) ?_
              refine hret _ _ _ _ _ _ dX1_isBest_58 rfl ?_ hO
              exact ⟨Or.inl rfl, rfl⟩
    exact LP_18_k12 4000 _ _ _ (0) hO (lv_sub hl [0, 1, 2, 3, 4, 5, 6] rfl) (by first | decide | omega) (by first | decide | omega)
set_option maxHeartbeats 4000000 in
set_option maxRecDepth 100000 in
theorem T_X1_isBest_2 (l : Launch) (D : va_G) (cy : Nat → ClassId) (a : Nat → Nat) (u : St) (hJ : CI a u) (x2 : Int32) (x3 : Int32) (x4 : Int32) (hx_x3 : 0 ≤ x3.toInt ∧ x3.toInt ≤ 7) : Mi l D cy (cW cy a) yX1_isBest (.code yX1_isBest cX1_isBest 8 (some .boolean)) (rmo 0 0) [.ref (a 36), .ref (a 38), .int x2, .int x3, .int x4] u (fun (r : Int32) (u' : St) => (r = 0 ∨ r = 1) ∧ (u' = u)) := by
  refine Mi.of (own := RX1) rfl (by decide) (Nat.le_of_ble_eq_true rfl) ?_
  have hT : KT u u := KT.rf
  intro p e s m below meth c A Q ls C hret hO hl
  obtain ⟨hx, hb, hml, hown, ht, hK, hA⟩ := id C
  have hl : lv_has ls 8 [(0, .ref (a 36)), (1, .ref (a 38)), (2, .int x2), (3, .int x3), (4, .int x4)] := hl
  refine lv_iload_n hx hb dX1_isBest_0 rfl (lv_at hl 3 rfl) ?_
  refine lv_iload hx hb dX1_isBest_1 (lv_at hl 4 rfl) ?_
  refine cs_ne (tgt := 10) (X := (x3).toInt) (Y := (x4).toInt) hx hb dX1_isBest_3 (by decide) rfl rfl (fun c1 => ?_) (fun c1 => ?_)
  · refine lv_aload_n hx hb dX1_isBest_10 rfl (lv_at hl 1 rfl) ?_
    refine lv_iload_n hx hb dX1_isBest_11 rfl (lv_at hl 3 rfl) ?_
    refine aI C hO 38 cW_38 (i_in (X := (x3).toInt) rfl (by omega) (by omega)) dX1_isBest_12 ?_
    refine lv_topi (fun w2 ew2 => ?_)
    refine lv_istore (lv' := [(5, .int w2), (0, .ref (a 36)), (1, .ref (a 38)), (2, .int x2), (3, .int x3), (4, .int x4)]) hx hb dX1_isBest_13 hl (by decide) rfl (fun ls hl => ?_)
    refine lv_iconst (v := 0) hx hb dX1_isBest_15 (by decide) ?_
    refine lv_istore (lv' := [(6, .int 0), (5, .int w2), (0, .ref (a 36)), (1, .ref (a 38)), (2, .int x2), (3, .int x3), (4, .int x4)]) hx hb dX1_isBest_16 hl (by decide) rfl (fun ls hl => ?_)
    have LP_18_k3 : ∀ (n : Nat) (H : Heap) (locs : List Loc) (ls : Array Slot) (i_k3 : Int32), Wo D A (cW cy a u) s.heap H locs → lv_has ls 8 [(6, .int i_k3), (5, .int w2), (0, .ref (a 36)), (1, .ref (a 38)), (2, .int x2), (3, .int x3), (4, .int x4)] → 0 ≤ i_k3.toInt ∧ i_k3.toInt ≤ 8 → 8 - i_k3.toInt < (n : Int) → W p l e (rmo 0 0) s m [.ref (a 36), .ref (a 38), .int x2, .int x3, .int x4].toArray below meth c H locs 0 0 Q (F0 m 18 ls []) := by
      intro n
      induction n with
      | zero =>
        intro H locs ls i_k3 hO hl iv0_k3 hm_k3
        exact absurd hm_k3 (by omega)
      | succ n ih_k3 =>
        intro H locs ls i_k3 hO hl iv0_k3 hm_k3
        refine lv_iload hx hb dX1_isBest_18 (lv_at hl 0 rfl) ?_
        refine lv_aload_n hx hb dX1_isBest_20 rfl (lv_at hl 2 rfl) ?_
        refine gf_RX1_18 (v := .ref (a 28)) C hO 36 cW_36 rfl dX1_isBest_21 ?_
        refine gf_RX1_34 (v := .ref (a 3)) C hO 28 cW_28 (congrArg (fun z : Nat => some (Value.ref z)) (CI_R0 hJ)) dX1_isBest_24 ?_
        have g4 : 0 ≤ (fI u 3 11).toInt ∧ (fI u 3 11).toInt ≤ 8 := by have h := CI_3_11 hJ; exact h
        refine gf_RX1_38 (v := .int (fI u 3 11)) C hO 3 cW_3 rfl dX1_isBest_27 ?_
        refine cs_ge (tgt := 65) (X := (i_k3).toInt) (Y := ((fI u 3 11)).toInt) hx hb dX1_isBest_30 (by decide) rfl rfl (fun c5 => ?_) (fun c5 => ?_)
        · refine lv_iconst (v := 1) hx hb dX1_isBest_65 (by decide) ?_
          refine hret _ _ _ _ _ _ dX1_isBest_66 rfl ?_ hO
          exact ⟨Or.inr rfl, rfl⟩
        · refine lv_iload hx hb dX1_isBest_33 (lv_at hl 0 rfl) ?_
          refine lv_iload hx hb dX1_isBest_35 (lv_at hl 6 rfl) ?_
          refine cs_ne (tgt := 44) (X := (i_k3).toInt) (Y := (x4).toInt) hx hb dX1_isBest_37 (by decide) rfl rfl (fun c6 => ?_) (fun c6 => ?_)
          · refine lv_aload_n hx hb dX1_isBest_44 rfl (lv_at hl 3 rfl) ?_
            refine lv_iload hx hb dX1_isBest_45 (lv_at hl 0 rfl) ?_
            refine aI C hO 38 cW_38 (i_in (X := (i_k3).toInt) rfl (by omega) (by omega)) dX1_isBest_47 ?_
            refine lv_topi (fun w7 ew7 => ?_)
            refine lv_istore (lv' := [(7, .int w7), (6, .int i_k3), (5, .int w2), (0, .ref (a 36)), (1, .ref (a 38)), (2, .int x2), (3, .int x3), (4, .int x4)]) hx hb dX1_isBest_48 hl (by decide) rfl (fun ls hl => ?_)
            refine lv_iload hx hb dX1_isBest_50 (lv_at hl 0 rfl) ?_
            refine lv_iload hx hb dX1_isBest_52 (lv_at hl 2 rfl) ?_
            refine cs_le (tgt := 59) (X := (w7).toInt) (Y := (w2).toInt) hx hb dX1_isBest_54 (by decide) rfl rfl (fun c8 => ?_) (fun c8 => ?_)
            · have e9 : ((i_k3 + 1)).toInt = (i_k3).toInt + 1 := i_add rfl rfl (by omega)
              refine lv_iinc (v := (i_k3 + 1)) (lv' := [(6, .int (i_k3 + 1)), (7, .int w7), (5, .int w2), (0, .ref (a 36)), (1, .ref (a 38)), (2, .int x2), (3, .int x3), (4, .int x4)]) hx hb dX1_isBest_59 hl (k := 1) rfl rfl (by decide) rfl (fun ls hl => ?_)
              refine lv_goto (tgt := 18) hx hb dX1_isBest_62 (by decide) ?_
              exact ih_k3 _ _ _ ((i_k3 + 1)) hO (lv_sub hl [0, 2, 3, 4, 5, 6, 7] rfl) (by first | decide | omega) (by first | decide | omega)
            · refine lv_iconst (v := 0) hx hb dX1_isBest_57 (by decide) ?_
              refine hret _ _ _ _ _ _ dX1_isBest_58 rfl ?_ hO
              exact ⟨Or.inl rfl, rfl⟩
          · refine lv_iload_n hx hb dX1_isBest_40 rfl (lv_at hl 4 rfl) ?_
            refine lv_goto (tgt := 48) hx hb dX1_isBest_41 (by decide) ?_
            refine lv_istore (lv' := [(7, .int x2), (6, .int i_k3), (5, .int w2), (0, .ref (a 36)), (1, .ref (a 38)), (2, .int x2), (3, .int x3), (4, .int x4)]) hx hb dX1_isBest_48 hl (by decide) rfl (fun ls hl => ?_)
            refine lv_iload hx hb dX1_isBest_50 (lv_at hl 0 rfl) ?_
            refine lv_iload hx hb dX1_isBest_52 (lv_at hl 2 rfl) ?_
            refine cs_le (tgt := 59) (X := (x2).toInt) (Y := (w2).toInt) hx hb dX1_isBest_54 (by decide) rfl rfl (fun c10 => ?_) (fun c10 => ?_)
            · have e11 : ((i_k3 + 1)).toInt = (i_k3).toInt + 1 := i_add rfl rfl (by omega)
              refine lv_iinc (v := (i_k3 + 1)) (lv' := [(6, .int (i_k3 + 1)), (7, .int x2), (5, .int w2), (0, .ref (a 36)), (1, .ref (a 38)), (2, .int x2), (3, .int x3), (4, .int x4)]) hx hb dX1_isBest_59 hl (k := 1) rfl rfl (by decide) rfl (fun ls hl => ?_)
              refine lv_goto (tgt := 18) hx hb dX1_isBest_62 (by decide) ?_
              exact ih_k3 _ _ _ ((i_k3 + 1)) hO (lv_sub hl [0, 2, 3, 4, 5, 6, 7] rfl) (by first | decide | omega) (by first | decide | omega)
            · refine lv_iconst (v := 0) hx hb dX1_isBest_57 (by decide) ?_
              refine hret _ _ _ _ _ _ dX1_isBest_58 rfl ?_ hO
              exact ⟨Or.inl rfl, rfl⟩
    exact LP_18_k3 4000 _ _ _ (0) hO (lv_sub hl [0, 1, 2, 3, 4, 5, 6] rfl) (by first | decide | omega) (by first | decide | omega)
  · refine lv_iload_n hx hb dX1_isBest_6 rfl (lv_at hl 2 rfl) ?_
    refine lv_goto (tgt := 13) hx hb dX1_isBest_7 (by decide) ?_
    refine lv_istore (lv' := [(5, .int x2), (0, .ref (a 36)), (1, .ref (a 38)), (2, .int x2), (3, .int x3), (4, .int x4)]) hx hb dX1_isBest_13 hl (by decide) rfl (fun ls hl => ?_)
    refine lv_iconst (v := 0) hx hb dX1_isBest_15 (by decide) ?_
    refine lv_istore (lv' := [(6, .int 0), (5, .int x2), (0, .ref (a 36)), (1, .ref (a 38)), (2, .int x2), (3, .int x3), (4, .int x4)]) hx hb dX1_isBest_16 hl (by decide) rfl (fun ls hl => ?_)
    have LP_18_k12 : ∀ (n : Nat) (H : Heap) (locs : List Loc) (ls : Array Slot) (i_k12 : Int32), Wo D A (cW cy a u) s.heap H locs → lv_has ls 8 [(6, .int i_k12), (5, .int x2), (0, .ref (a 36)), (1, .ref (a 38)), (2, .int x2), (3, .int x3), (4, .int x4)] → 0 ≤ i_k12.toInt ∧ i_k12.toInt ≤ 8 → 8 - i_k12.toInt < (n : Int) → W p l e (rmo 0 0) s m [.ref (a 36), .ref (a 38), .int x2, .int x3, .int x4].toArray below meth c H locs 0 0 Q (F0 m 18 ls []) := by
      intro n
      induction n with
      | zero =>
        intro H locs ls i_k12 hO hl iv0_k12 hm_k12
        exact absurd hm_k12 (by omega)
      | succ n ih_k12 =>
        intro H locs ls i_k12 hO hl iv0_k12 hm_k12
        refine lv_iload hx hb dX1_isBest_18 (lv_at hl 0 rfl) ?_
        refine lv_aload_n hx hb dX1_isBest_20 rfl (lv_at hl 2 rfl) ?_
        refine gf_RX1_18 (v := .ref (a 28)) C hO 36 cW_36 rfl dX1_isBest_21 ?_
        refine gf_RX1_34 (v := .ref (a 3)) C hO 28 cW_28 (congrArg (fun z : Nat => some (Value.ref z)) (CI_R0 hJ)) dX1_isBest_24 ?_
        have g13 : 0 ≤ (fI u 3 11).toInt ∧ (fI u 3 11).toInt ≤ 8 := by have h := CI_3_11 hJ; exact h
        refine gf_RX1_38 (v := .int (fI u 3 11)) C hO 3 cW_3 rfl dX1_isBest_27 ?_
        refine cs_ge (tgt := 65) (X := (i_k12).toInt) (Y := ((fI u 3 11)).toInt) hx hb dX1_isBest_30 (by decide) rfl rfl (fun c14 => ?_) (fun c14 => ?_)
        · refine lv_iconst (v := 1) hx hb dX1_isBest_65 (by decide) ?_
          refine hret _ _ _ _ _ _ dX1_isBest_66 rfl ?_ hO
          exact ⟨Or.inr rfl, rfl⟩
        · refine lv_iload hx hb dX1_isBest_33 (lv_at hl 0 rfl) ?_
          refine lv_iload hx hb dX1_isBest_35 (lv_at hl 6 rfl) ?_
          refine cs_ne (tgt := 44) (X := (i_k12).toInt) (Y := (x4).toInt) hx hb dX1_isBest_37 (by decide) rfl rfl (fun c15 => ?_) (fun c15 => ?_)
          · refine lv_aload_n hx hb dX1_isBest_44 rfl (lv_at hl 3 rfl) ?_
            refine lv_iload hx hb dX1_isBest_45 (lv_at hl 0 rfl) ?_
            refine aI C hO 38 cW_38 (i_in (X := (i_k12).toInt) rfl (by omega) (by omega)) dX1_isBest_47 ?_
            refine lv_topi (fun w16 ew16 => ?_)
            refine lv_istore (lv' := [(7, .int w16), (6, .int i_k12), (5, .int x2), (0, .ref (a 36)), (1, .ref (a 38)), (2, .int x2), (3, .int x3), (4, .int x4)]) hx hb dX1_isBest_48 hl (by decide) rfl (fun ls hl => ?_)
            refine lv_iload hx hb dX1_isBest_50 (lv_at hl 0 rfl) ?_
            refine lv_iload hx hb dX1_isBest_52 (lv_at hl 2 rfl) ?_
            refine cs_le (tgt := 59) (X := (w16).toInt) (Y := (x2).toInt) hx hb dX1_isBest_54 (by decide) rfl rfl (fun c17 => ?_) (fun c17 => ?_)
            · have e18 : ((i_k12 + 1)).toInt = (i_k12).toInt + 1 := i_add rfl rfl (by omega)
              refine lv_iinc (v := (i_k12 + 1)) (lv' := [(6, .int (i_k12 + 1)), (7, .int w16), (5, .int x2), (0, .ref (a 36)), (1, .ref (a 38)), (2, .int x2), (3, .int x3), (4, .int x4)]) hx hb dX1_isBest_59 hl (k := 1) rfl rfl (by decide) rfl (fun ls hl => ?_)
              refine lv_goto (tgt := 18) hx hb dX1_isBest_62 (by decide) ?_
              exact ih_k12 _ _ _ ((i_k12 + 1)) hO (lv_sub hl [0, 2, 3, 4, 5, 6, 7] rfl) (by first | decide | omega) (by first | decide | omega)
            · refine lv_iconst (v := 0) hx hb dX1_isBest_57 (by decide) ?_
              refine hret _ _ _ _ _ _ dX1_isBest_58 rfl ?_ hO
              exact ⟨Or.inl rfl, rfl⟩
          · refine lv_iload_n hx hb dX1_isBest_40 rfl (lv_at hl 4 rfl) ?_
            refine lv_goto (tgt := 48) hx hb dX1_isBest_41 (by decide) ?_
            refine lv_istore (lv' := [(7, .int x2), (6, .int i_k12), (5, .int x2), (0, .ref (a 36)), (1, .ref (a 38)), (2, .int x2), (3, .int x3), (4, .int x4)]) hx hb dX1_isBest_48 hl (by decide) rfl (fun ls hl => ?_)
            refine lv_iload hx hb dX1_isBest_50 (lv_at hl 0 rfl) ?_
            refine lv_iload hx hb dX1_isBest_52 (lv_at hl 2 rfl) ?_
            refine cs_le (tgt := 59) (X := (x2).toInt) (Y := (x2).toInt) hx hb dX1_isBest_54 (by decide) rfl rfl (fun c19 => ?_) (fun c19 => ?_)
            · have e20 : ((i_k12 + 1)).toInt = (i_k12).toInt + 1 := i_add rfl rfl (by omega)
              refine lv_iinc (v := (i_k12 + 1)) (lv' := [(6, .int (i_k12 + 1)), (7, .int x2), (5, .int x2), (0, .ref (a 36)), (1, .ref (a 38)), (2, .int x2), (3, .int x3), (4, .int x4)]) hx hb dX1_isBest_59 hl (k := 1) rfl rfl (by decide) rfl (fun ls hl => ?_)
              refine lv_goto (tgt := 18) hx hb dX1_isBest_62 (by decide) ?_
              exact ih_k12 _ _ _ ((i_k12 + 1)) hO (lv_sub hl [0, 2, 3, 4, 5, 6, 7] rfl) (by first | decide | omega) (by first | decide | omega)
            · refine lv_iconst (v := 0) hx hb dX1_isBest_57 (by decide) ?_
              refine hret _ _ _ _ _ _ dX1_isBest_58 rfl ?_ hO
              exact ⟨Or.inl rfl, rfl⟩
    exact LP_18_k12 4000 _ _ _ (0) hO (lv_sub hl [0, 1, 2, 3, 4, 5, 6] rfl) (by first | decide | omega) (by first | decide | omega)
theorem dX1_rests_0 : decode cX1_rests 0 = .ok (.aload_n 0, 1) := by decide +kernel
theorem dX1_rests_1 : decode cX1_rests 1 = .ok (.getfield 18, 3) := by decide +kernel
theorem dX1_rests_4 : decode cX1_rests 4 = .ok (.getfield 34, 3) := by decide +kernel
theorem dX1_rests_7 : decode cX1_rests 7 = .ok (.getfield 38, 3) := by decide +kernel
theorem dX1_rests_10 : decode cX1_rests 10 = .ok (.istore 4, 2) := by decide +kernel
theorem dX1_rests_12 : decode cX1_rests 12 = .ok (.iconst 0, 1) := by decide +kernel
theorem dX1_rests_13 : decode cX1_rests 13 = .ok (.istore 5, 2) := by decide +kernel
theorem dX1_rests_15 : decode cX1_rests 15 = .ok (.iload 5, 2) := by decide +kernel
theorem dX1_rests_17 : decode cX1_rests 17 = .ok (.iload 4, 2) := by decide +kernel
theorem dX1_rests_19 : decode cX1_rests 19 = .ok (.if_icmp .ge 47, 3) := by decide +kernel
theorem dX1_rests_22 : decode cX1_rests 22 = .ok (.aload_n 0, 1) := by decide +kernel
theorem dX1_rests_23 : decode cX1_rests 23 = .ok (.getfield 9, 3) := by decide +kernel
theorem dX1_rests_26 : decode cX1_rests 26 = .ok (.iload 5, 2) := by decide +kernel
theorem dX1_rests_28 : decode cX1_rests 28 = .ok (.aload_n 0, 1) := by decide +kernel
theorem dX1_rests_29 : decode cX1_rests 29 = .ok (.getfield 18, 3) := by decide +kernel
theorem dX1_rests_32 : decode cX1_rests 32 = .ok (.iload_n 1, 1) := by decide +kernel
theorem dX1_rests_33 : decode cX1_rests 33 = .ok (.iconst 1, 1) := by decide +kernel
theorem dX1_rests_34 : decode cX1_rests 34 = .ok (.iload 5, 2) := by decide +kernel
theorem dX1_rests_36 : decode cX1_rests 36 = .ok (.ishl, 1) := by decide +kernel
theorem dX1_rests_37 : decode cX1_rests 37 = .ok (.invokevirtual 28, 3) := by decide +kernel
theorem dX1_rests_40 : decode cX1_rests 40 = .ok (.iastore, 1) := by decide +kernel
theorem dX1_rests_41 : decode cX1_rests 41 = .ok (.aload_n 0, 1) := by decide +kernel
theorem dX1_rests_42 : decode cX1_rests 42 = .ok (.getfield 15, 3) := by decide +kernel
theorem dX1_rests_45 : decode cX1_rests 45 = .ok (.iload 5, 2) := by decide +kernel
theorem dX1_rests_47 : decode cX1_rests 47 = .ok (.aload_n 0, 1) := by decide +kernel
theorem dX1_rests_48 : decode cX1_rests 48 = .ok (.getfield 18, 3) := by decide +kernel
theorem dX1_rests_51 : decode cX1_rests 51 = .ok (.iload_n 2, 1) := by decide +kernel
theorem dX1_rests_52 : decode cX1_rests 52 = .ok (.iconst 1, 1) := by decide +kernel
theorem dX1_rests_53 : decode cX1_rests 53 = .ok (.iload 5, 2) := by decide +kernel
theorem dX1_rests_55 : decode cX1_rests 55 = .ok (.ishl, 1) := by decide +kernel
theorem dX1_rests_56 : decode cX1_rests 56 = .ok (.invokevirtual 28, 3) := by decide +kernel
theorem dX1_rests_59 : decode cX1_rests 59 = .ok (.iastore, 1) := by decide +kernel
theorem dX1_rests_60 : decode cX1_rests 60 = .ok (.iinc 5 1, 3) := by decide +kernel
theorem dX1_rests_63 : decode cX1_rests 63 = .ok (.goto (-48), 3) := by decide +kernel
theorem dX1_rests_66 : decode cX1_rests 66 = .ok (.aload_n 0, 1) := by decide +kernel
theorem dX1_rests_67 : decode cX1_rests 67 = .ok (.getfield 18, 3) := by decide +kernel
theorem dX1_rests_70 : decode cX1_rests 70 = .ok (.iload_n 1, 1) := by decide +kernel
theorem dX1_rests_71 : decode cX1_rests 71 = .ok (.iconst 0, 1) := by decide +kernel
theorem dX1_rests_72 : decode cX1_rests 72 = .ok (.invokevirtual 28, 3) := by decide +kernel
theorem dX1_rests_75 : decode cX1_rests 75 = .ok (.istore 5, 2) := by decide +kernel
theorem dX1_rests_77 : decode cX1_rests 77 = .ok (.aload_n 0, 1) := by decide +kernel
theorem dX1_rests_78 : decode cX1_rests 78 = .ok (.getfield 18, 3) := by decide +kernel
theorem dX1_rests_81 : decode cX1_rests 81 = .ok (.iload_n 2, 1) := by decide +kernel
theorem dX1_rests_82 : decode cX1_rests 82 = .ok (.iconst 0, 1) := by decide +kernel
theorem dX1_rests_83 : decode cX1_rests 83 = .ok (.invokevirtual 28, 3) := by decide +kernel
theorem dX1_rests_86 : decode cX1_rests 86 = .ok (.istore 6, 2) := by decide +kernel
theorem dX1_rests_88 : decode cX1_rests 88 = .ok (.iconst 0, 1) := by decide +kernel
theorem dX1_rests_89 : decode cX1_rests 89 = .ok (.istore 7, 2) := by decide +kernel
theorem dX1_rests_91 : decode cX1_rests 91 = .ok (.iconst 0, 1) := by decide +kernel
theorem dX1_rests_92 : decode cX1_rests 92 = .ok (.istore 8, 2) := by decide +kernel
theorem dX1_rests_94 : decode cX1_rests 94 = .ok (.iload 8, 2) := by decide +kernel
theorem dX1_rests_96 : decode cX1_rests 96 = .ok (.iload 4, 2) := by decide +kernel
theorem dX1_rests_98 : decode cX1_rests 98 = .ok (.if_icmp .ge 86, 3) := by decide +kernel
theorem dX1_rests_101 : decode cX1_rests 101 = .ok (.iconst 0, 1) := by decide +kernel
theorem dX1_rests_102 : decode cX1_rests 102 = .ok (.istore 9, 2) := by decide +kernel
theorem dX1_rests_104 : decode cX1_rests 104 = .ok (.iload 9, 2) := by decide +kernel
theorem dX1_rests_106 : decode cX1_rests 106 = .ok (.iload 4, 2) := by decide +kernel
theorem dX1_rests_108 : decode cX1_rests 108 = .ok (.if_icmp .ge 70, 3) := by decide +kernel
theorem dX1_rests_111 : decode cX1_rests 111 = .ok (.aload_n 0, 1) := by decide +kernel
theorem dX1_rests_112 : decode cX1_rests 112 = .ok (.aload_n 0, 1) := by decide +kernel
theorem dX1_rests_113 : decode cX1_rests 113 = .ok (.getfield 9, 3) := by decide +kernel
theorem dX1_rests_116 : decode cX1_rests 116 = .ok (.iload 5, 2) := by decide +kernel
theorem dX1_rests_118 : decode cX1_rests 118 = .ok (.iload 8, 2) := by decide +kernel
theorem dX1_rests_120 : decode cX1_rests 120 = .ok (.iload 9, 2) := by decide +kernel
theorem dX1_rests_122 : decode cX1_rests 122 = .ok (.invokevirtual 75, 3) := by decide +kernel
theorem dX1_rests_125 : decode cX1_rests 125 = .ok (.ifCond .eq 47, 3) := by decide +kernel
theorem dX1_rests_128 : decode cX1_rests 128 = .ok (.aload_n 0, 1) := by decide +kernel
theorem dX1_rests_129 : decode cX1_rests 129 = .ok (.aload_n 0, 1) := by decide +kernel
theorem dX1_rests_130 : decode cX1_rests 130 = .ok (.getfield 15, 3) := by decide +kernel
theorem dX1_rests_133 : decode cX1_rests 133 = .ok (.iload 6, 2) := by decide +kernel
theorem dX1_rests_135 : decode cX1_rests 135 = .ok (.iload 9, 2) := by decide +kernel
theorem dX1_rests_137 : decode cX1_rests 137 = .ok (.iload 8, 2) := by decide +kernel
theorem dX1_rests_139 : decode cX1_rests 139 = .ok (.invokevirtual 75, 3) := by decide +kernel
theorem dX1_rests_142 : decode cX1_rests 142 = .ok (.ifCond .ne 6, 3) := by decide +kernel
theorem dX1_rests_145 : decode cX1_rests 145 = .ok (.goto 27, 3) := by decide +kernel
theorem dX1_rests_148 : decode cX1_rests 148 = .ok (.iload 7, 2) := by decide +kernel
theorem dX1_rests_150 : decode cX1_rests 150 = .ok (.ifCond .ne 19, 3) := by decide +kernel
theorem dX1_rests_153 : decode cX1_rests 153 = .ok (.aload_n 3, 1) := by decide +kernel
theorem dX1_rests_154 : decode cX1_rests 154 = .ok (.arraylength, 1) := by decide +kernel
theorem dX1_rests_155 : decode cX1_rests 155 = .ok (.iconst 2, 1) := by decide +kernel
theorem dX1_rests_156 : decode cX1_rests 156 = .ok (.if_icmp .lt 13, 3) := by decide +kernel
theorem dX1_rests_159 : decode cX1_rests 159 = .ok (.aload_n 3, 1) := by decide +kernel
theorem dX1_rests_160 : decode cX1_rests 160 = .ok (.iconst 0, 1) := by decide +kernel
theorem dX1_rests_161 : decode cX1_rests 161 = .ok (.iload 8, 2) := by decide +kernel
theorem dX1_rests_163 : decode cX1_rests 163 = .ok (.iastore, 1) := by decide +kernel
theorem dX1_rests_164 : decode cX1_rests 164 = .ok (.aload_n 3, 1) := by decide +kernel
theorem dX1_rests_165 : decode cX1_rests 165 = .ok (.iconst 1, 1) := by decide +kernel
theorem dX1_rests_166 : decode cX1_rests 166 = .ok (.iload 9, 2) := by decide +kernel
theorem dX1_rests_168 : decode cX1_rests 168 = .ok (.iastore, 1) := by decide +kernel
theorem dX1_rests_169 : decode cX1_rests 169 = .ok (.iinc 7 1, 3) := by decide +kernel
theorem dX1_rests_172 : decode cX1_rests 172 = .ok (.iinc 9 1, 3) := by decide +kernel
theorem dX1_rests_175 : decode cX1_rests 175 = .ok (.goto (-71), 3) := by decide +kernel
theorem dX1_rests_178 : decode cX1_rests 178 = .ok (.iinc 8 1, 3) := by decide +kernel
theorem dX1_rests_181 : decode cX1_rests 181 = .ok (.goto (-87), 3) := by decide +kernel
theorem dX1_rests_184 : decode cX1_rests 184 = .ok (.iload 7, 2) := by decide +kernel
theorem dX1_rests_186 : decode cX1_rests 186 = .ok (.ireturn, 1) := by decide +kernel
theorem wd_1119 : (Cond.code ⟨"WebCourt$Counsel", "rests", "(II[I)I"⟩ prog_3_method_7_code (10 : Nat) (Option.some FieldType.int)) ∈ gtb := gtb_c5 50 (by decide +kernel) rfl
theorem wd_427 : (Cond.fieldLink "WebCourt$Counsel" (9 : Nat) "WebCourt$Counsel" "alone" "[I") ∈ gtb := gtb_c2 78 (by decide +kernel) rfl
theorem gf_RX1_9 {p : Program} {l : Launch} {e : Env} {R : Room} {s : State} {m : MethodId} {args : Array Value} {below : List Frame} {meth : Method} {c : Code} {H : Heap} {locs : List Loc} {cells slots : Nat} {Q : State → Prop} {cc : ByteArray} {pc nL : Nat} {ls : Array Slot} {rest : List Value} {D : va_G} {cy : Nat → ClassId} {A : Nat → Prop} {ws : va_W} {b : Nat} {fs : List Value} {v : Value} (C : Cx p s m args c cc nL RX1 D cy A) (hO : Wo D A ws s.heap H locs) (q0 : Nat) (he : ws[q0]? = some (b, .inr (1, fs))) (hv : fs[1]? = some v) (hdg : decode cc pc = .ok (.getfield 9, 3)) (kk : W p l e R s m args below meth c H locs cells slots Q (F0 m (pc + 3) ls (v :: rest))) : W p l e R s m args below meth c H locs cells slots Q (F0 m pc ls (.ref b :: rest)) := gF (k := 1) C hO q0 he rfl inFX1 (by decide) wd_427 rfl hv hdg kk
theorem wd_1120 : (Cond.methodLink "WebCourt$Counsel" (75 : Nat) ⟨"WebCourt$Counsel", "isBest", "([IIII)Z"⟩) ∈ gtb := gtb_c5 51 (by decide +kernel) rfl
theorem wd_1122 : (Cond.instanceMethod ⟨"WebCourt$Counsel", "isBest", "([IIII)Z"⟩) ∈ gtb := gtb_c5 53 (by decide +kernel) rfl
theorem wd_39 : (Cond.selects "WebCourt$Counsel" ⟨"WebCourt$Counsel", "isBest", "([IIII)Z"⟩ ⟨"WebCourt$Counsel", "isBest", "([IIII)Z"⟩) ∈ gtb := gtb_p 39 (by decide +kernel) rfl
theorem hd_yX1_isBest : yX1_isBest.cls = RX1 ∧ yX1_isBest.cls ≠ "java/lang/invoke/MethodHandle" ∧ yX1_isBest.cls ≠ "java/lang/invoke/VarHandle" ∧ (parseMethodDescriptor yX1_isBest.desc).map (fun d => d.parameters.length) = some 4 := by decide +kernel
theorem wd_428 : (Cond.fieldLink "WebCourt$Counsel" (15 : Nat) "WebCourt$Counsel" "otherAlone" "[I") ∈ gtb := gtb_c2 79 (by decide +kernel) rfl
theorem gf_RX1_15 {p : Program} {l : Launch} {e : Env} {R : Room} {s : State} {m : MethodId} {args : Array Value} {below : List Frame} {meth : Method} {c : Code} {H : Heap} {locs : List Loc} {cells slots : Nat} {Q : State → Prop} {cc : ByteArray} {pc nL : Nat} {ls : Array Slot} {rest : List Value} {D : va_G} {cy : Nat → ClassId} {A : Nat → Prop} {ws : va_W} {b : Nat} {fs : List Value} {v : Value} (C : Cx p s m args c cc nL RX1 D cy A) (hO : Wo D A ws s.heap H locs) (q0 : Nat) (he : ws[q0]? = some (b, .inr (1, fs))) (hv : fs[2]? = some v) (hdg : decode cc pc = .ok (.getfield 15, 3)) (kk : W p l e R s m args below meth c H locs cells slots Q (F0 m (pc + 3) ls (v :: rest))) : W p l e R s m args below meth c H locs cells slots Q (F0 m pc ls (.ref b :: rest)) := gF (k := 2) C hO q0 he rfl inFX1 (by decide) wd_428 rfl hv hdg kk
set_option maxHeartbeats 4000000 in
set_option maxRecDepth 100000 in
theorem T_X1_rests (l : Launch) (D : va_G) (cy : Nat → ClassId) (a : Nat → Nat) (u : St) (hJ : CI a u) (x1 : Int32) (x2 : Int32) (hx_x1 : 0 ≤ x1.toInt ∧ x1.toInt ≤ 5) (hx_x2 : 0 ≤ x2.toInt ∧ x2.toInt ≤ 5) : Mi l D cy (cW cy a) yX1_rests (.code yX1_rests cX1_rests 10 (some .int)) (rmo 4 100) [.ref (a 36), .int x1, .int x2, .ref (a 46)] u (fun (r : Int32) (u' : St) => (CI a u') ∧ (KT u u')) := by
  refine Mi.of (own := RX1) rfl (by decide) (Nat.le_of_ble_eq_true rfl) ?_
  have hT : KT u u := KT.rf
  intro p e s m below meth c A Q ls C hret hO hl
  obtain ⟨hx, hb, hml, hown, ht, hK, hA⟩ := id C
  have hl : lv_has ls 10 [(0, .ref (a 36)), (1, .int x1), (2, .int x2), (3, .ref (a 46))] := hl
  refine lv_aload_n hx hb dX1_rests_0 rfl (lv_at hl 0 rfl) ?_
  refine gf_RX1_18 (v := .ref (a 28)) C hO 36 cW_36 rfl dX1_rests_1 ?_
  refine gf_RX1_34 (v := .ref (a 3)) C hO 28 cW_28 (congrArg (fun z : Nat => some (Value.ref z)) (CI_R0 hJ)) dX1_rests_4 ?_
  have g1 : 0 ≤ (fI u 3 11).toInt ∧ (fI u 3 11).toInt ≤ 8 := by have h := CI_3_11 hJ; exact h
  refine gf_RX1_38 (v := .int (fI u 3 11)) C hO 3 cW_3 rfl dX1_rests_7 ?_
  refine lv_istore (lv' := [(4, .int (fI u 3 11)), (0, .ref (a 36)), (1, .int x1), (2, .int x2), (3, .ref (a 46))]) hx hb dX1_rests_10 hl (by decide) rfl (fun ls hl => ?_)
  refine lv_iconst (v := 0) hx hb dX1_rests_12 (by decide) ?_
  refine lv_istore (lv' := [(5, .int 0), (4, .int (fI u 3 11)), (0, .ref (a 36)), (1, .int x1), (2, .int x2), (3, .ref (a 46))]) hx hb dX1_rests_13 hl (by decide) rfl (fun ls hl => ?_)
  have LP_15_k3 : ∀ (n : Nat) (u2 : St) (H : Heap) (locs : List Loc) (ls : Array Slot) (i_k3 : Int32), Wo D A (cW cy a u2) s.heap H locs → lv_has ls 10 [(5, .int i_k3), (4, .int (fI u 3 11)), (0, .ref (a 36)), (1, .int x1), (2, .int x2), (3, .ref (a 46))] → CI a u2 → KT u u2 → 0 ≤ i_k3.toInt ∧ i_k3.toInt ≤ 8 → 8 - i_k3.toInt < (n : Int) → W p l e (rmo 4 100) s m [.ref (a 36), .int x1, .int x2, .ref (a 46)].toArray below meth c H locs 0 0 Q (F0 m 15 ls []) := by
    intro n
    induction n with
    | zero =>
      intro u2 H locs ls i_k3 hO hl hJ hT iv0_k3 hm_k3
      exact absurd hm_k3 (by omega)
    | succ n ih_k3 =>
      intro u2 H locs ls i_k3 hO hl hJ hT iv0_k3 hm_k3
      refine lv_iload hx hb dX1_rests_15 (lv_at hl 0 rfl) ?_
      refine lv_iload hx hb dX1_rests_17 (lv_at hl 1 rfl) ?_
      refine cs_ge (tgt := 66) (X := (i_k3).toInt) (Y := ((fI u 3 11)).toInt) hx hb dX1_rests_19 (by decide) rfl rfl (fun c4 => ?_) (fun c4 => ?_)
      · refine lv_aload_n hx hb dX1_rests_66 rfl (lv_at hl 2 rfl) ?_
        refine gf_RX1_18 (v := .ref (a 28)) C hO 36 cW_36 rfl dX1_rests_67 ?_
        refine lv_iload_n hx hb dX1_rests_70 rfl (lv_at hl 3 rfl) ?_
        refine lv_iconst (v := 0) hx hb dX1_rests_71 (by decide) ?_
        refine cVi (w := cW cy a) (As := [.int x1, .int 0]) (rest := []) C hO (T_X2_judged l D cy a _ (by exact hJ) (x1) (0) (by first | omega | decide)) (cwV 2 ht (gV wd_996 wd_997 wd_998 wd_115 wd_999) rfl rfl rfl hd_yX2_judged ⟨Nat.le_of_ble_eq_true rfl, Nat.le_of_ble_eq_true rfl⟩) 28 rfl cW_28 rfl rfl hl.1 (Nat.le_of_ble_eq_true rfl) dX1_rests_72 rfl ⟨Nat.zero_le _, Nat.zero_le _⟩ (fun r5 u6 H locs hp7 hO => ?_)
        obtain ⟨hJ, hTu6⟩ := hp7
        have hT : KT u u6 := KT.tr (by exact hT) hTu6
        refine lv_istore (lv' := [(5, .int r5), (4, .int (fI u 3 11)), (0, .ref (a 36)), (1, .int x1), (2, .int x2), (3, .ref (a 46))]) hx hb dX1_rests_75 hl (by decide) rfl (fun ls hl => ?_)
        refine lv_aload_n hx hb dX1_rests_77 rfl (lv_at hl 2 rfl) ?_
        refine gf_RX1_18 (v := .ref (a 28)) C hO 36 cW_36 rfl dX1_rests_78 ?_
        refine lv_iload_n hx hb dX1_rests_81 rfl (lv_at hl 4 rfl) ?_
        refine lv_iconst (v := 0) hx hb dX1_rests_82 (by decide) ?_
        refine cVi (w := cW cy a) (As := [.int x2, .int 0]) (rest := []) C hO (T_X2_judged l D cy a _ (by exact hJ) (x2) (0) (by first | omega | decide)) (cwV 2 ht (gV wd_996 wd_997 wd_998 wd_115 wd_999) rfl rfl rfl hd_yX2_judged ⟨Nat.le_of_ble_eq_true rfl, Nat.le_of_ble_eq_true rfl⟩) 28 rfl cW_28 rfl rfl hl.1 (Nat.le_of_ble_eq_true rfl) dX1_rests_83 rfl ⟨Nat.zero_le _, Nat.zero_le _⟩ (fun r8 u9 H locs hp10 hO => ?_)
        obtain ⟨hJ, hTu9⟩ := hp10
        have hT : KT u u9 := KT.tr (by exact hT) hTu9
        refine lv_istore (lv' := [(6, .int r8), (5, .int r5), (4, .int (fI u 3 11)), (0, .ref (a 36)), (1, .int x1), (2, .int x2), (3, .ref (a 46))]) hx hb dX1_rests_86 hl (by decide) rfl (fun ls hl => ?_)
        refine lv_iconst (v := 0) hx hb dX1_rests_88 (by decide) ?_
        refine lv_istore (lv' := [(7, .int 0), (6, .int r8), (5, .int r5), (4, .int (fI u 3 11)), (0, .ref (a 36)), (1, .int x1), (2, .int x2), (3, .ref (a 46))]) hx hb dX1_rests_89 hl (by decide) rfl (fun ls hl => ?_)
        refine lv_iconst (v := 0) hx hb dX1_rests_91 (by decide) ?_
        refine lv_istore (lv' := [(8, .int 0), (7, .int 0), (6, .int r8), (5, .int r5), (4, .int (fI u 3 11)), (0, .ref (a 36)), (1, .int x1), (2, .int x2), (3, .ref (a 46))]) hx hb dX1_rests_92 hl (by decide) rfl (fun ls hl => ?_)
        have LP_94_k12 : ∀ (n : Nat) (u11 : St) (H : Heap) (locs : List Loc) (ls : Array Slot) (i_k12 : Int32) (w7_k12 : Int32), Wo D A (cW cy a u11) s.heap H locs → lv_has ls 10 [(8, .int i_k12), (7, .int w7_k12), (6, .int r8), (5, .int r5), (4, .int (fI u 3 11)), (0, .ref (a 36)), (1, .int x1), (2, .int x2), (3, .ref (a 46))] → CI a u11 → KT u u11 → 0 ≤ i_k12.toInt ∧ i_k12.toInt ≤ 8 → 8 - i_k12.toInt < (n : Int) → W p l e (rmo 4 100) s m [.ref (a 36), .int x1, .int x2, .ref (a 46)].toArray below meth c H locs 0 0 Q (F0 m 94 ls []) := by
          intro n
          induction n with
          | zero =>
            intro u11 H locs ls i_k12 w7_k12 hO hl hJ hT iv0_k12 hm_k12
            exact absurd hm_k12 (by omega)
          | succ n ih_k12 =>
            intro u11 H locs ls i_k12 w7_k12 hO hl hJ hT iv0_k12 hm_k12
            refine lv_iload hx hb dX1_rests_94 (lv_at hl 0 rfl) ?_
            refine lv_iload hx hb dX1_rests_96 (lv_at hl 4 rfl) ?_
            refine cs_ge (tgt := 184) (X := (i_k12).toInt) (Y := ((fI u 3 11)).toInt) hx hb dX1_rests_98 (by decide) rfl rfl (fun c13 => ?_) (fun c13 => ?_)
            · refine lv_iload hx hb dX1_rests_184 (lv_at hl 1 rfl) ?_
              refine hret _ _ _ _ _ _ dX1_rests_186 rfl ?_ hO
              exact ⟨hJ, hT⟩
            · refine lv_iconst (v := 0) hx hb dX1_rests_101 (by decide) ?_
              refine lv_istore (lv' := [(9, .int 0), (8, .int i_k12), (7, .int w7_k12), (6, .int r8), (5, .int r5), (4, .int (fI u 3 11)), (0, .ref (a 36)), (1, .int x1), (2, .int x2), (3, .ref (a 46))]) hx hb dX1_rests_102 hl (by decide) rfl (fun ls hl => ?_)
              have LP_104_k15 : ∀ (n : Nat) (u14 : St) (H : Heap) (locs : List Loc) (ls : Array Slot) (i_k15 : Int32) (w7_k15 : Int32), Wo D A (cW cy a u14) s.heap H locs → lv_has ls 10 [(9, .int i_k15), (8, .int i_k12), (7, .int w7_k15), (6, .int r8), (5, .int r5), (4, .int (fI u 3 11)), (0, .ref (a 36)), (1, .int x1), (2, .int x2), (3, .ref (a 46))] → CI a u14 → KT u u14 → 0 ≤ i_k15.toInt ∧ i_k15.toInt ≤ 8 → 8 - i_k15.toInt < (n : Int) → W p l e (rmo 4 100) s m [.ref (a 36), .int x1, .int x2, .ref (a 46)].toArray below meth c H locs 0 0 Q (F0 m 104 ls []) := by
                intro n
                induction n with
                | zero =>
                  intro u14 H locs ls i_k15 w7_k15 hO hl hJ hT iv0_k15 hm_k15
                  exact absurd hm_k15 (by omega)
                | succ n ih_k15 =>
                  intro u14 H locs ls i_k15 w7_k15 hO hl hJ hT iv0_k15 hm_k15
                  refine lv_iload hx hb dX1_rests_104 (lv_at hl 0 rfl) ?_
                  refine lv_iload hx hb dX1_rests_106 (lv_at hl 5 rfl) ?_
                  refine cs_ge (tgt := 178) (X := (i_k15).toInt) (Y := ((fI u 3 11)).toInt) hx hb dX1_rests_108 (by decide) rfl rfl (fun c16 => ?_) (fun c16 => ?_)
                  · have e17 : ((i_k12 + 1)).toInt = (i_k12).toInt + 1 := i_add rfl rfl (by omega)
                    refine lv_iinc (v := (i_k12 + 1)) (lv' := [(8, .int (i_k12 + 1)), (9, .int i_k15), (7, .int w7_k15), (6, .int r8), (5, .int r5), (4, .int (fI u 3 11)), (0, .ref (a 36)), (1, .int x1), (2, .int x2), (3, .ref (a 46))]) hx hb dX1_rests_178 hl (k := 1) rfl rfl (by decide) rfl (fun ls hl => ?_)
                    refine lv_goto (tgt := 94) hx hb dX1_rests_181 (by decide) ?_
                    exact ih_k12 _ _ _ _ ((i_k12 + 1)) (w7_k15) hO (lv_sub hl [0, 2, 3, 4, 5, 6, 7, 8, 9] rfl) (by exact hJ) (by exact hT) (by first | decide | omega) (by first | decide | omega)
                  · refine lv_aload_n hx hb dX1_rests_111 rfl (lv_at hl 6 rfl) ?_
                    refine lv_aload_n hx hb dX1_rests_112 rfl (lv_at hl 6 rfl) ?_
                    refine gf_RX1_9 (v := .ref (a 37)) C hO 36 cW_36 rfl dX1_rests_113 ?_
                    refine lv_iload hx hb dX1_rests_116 (lv_at hl 4 rfl) ?_
                    refine lv_iload hx hb dX1_rests_118 (lv_at hl 1 rfl) ?_
                    refine lv_iload hx hb dX1_rests_120 (lv_at hl 0 rfl) ?_
                    refine cVi (w := cW cy a) (As := [.ref (a 37), .int r5, .int i_k12, .int i_k15]) (rest := []) C hO (T_X1_isBest_1 l D cy a _ (by exact hJ) (r5) (i_k12) (i_k15) (by first | omega | decide)) (cwV 4 ht (gV wd_1120 wd_1122 wd_39 wd_119 wd_1123) rfl rfl rfl hd_yX1_isBest ⟨Nat.le_of_ble_eq_true rfl, Nat.le_of_ble_eq_true rfl⟩) 36 rfl cW_36 rfl rfl hl.1 (Nat.le_of_ble_eq_true rfl) dX1_rests_122 rfl ⟨Nat.zero_le _, Nat.zero_le _⟩ (fun r18 u19 H locs hp20 hO => ?_)
                    obtain ⟨hr18, hu19⟩ := hp20
                    have gr18 : 0 ≤ r18.toInt ∧ r18.toInt ≤ 1 := by rcases hr18 with h | h <;> rw [h] <;> decide
                    rw [hu19] at hO
                    refine bs_eq (tgt := 172) (X := (r18).toInt) hx hb dX1_rests_125 (by decide) rfl (fun c21 => ?_) (fun c21 => ?_)
                    · have e22 : ((i_k15 + 1)).toInt = (i_k15).toInt + 1 := i_add rfl rfl (by omega)
                      refine lv_iinc (v := (i_k15 + 1)) (lv' := [(9, .int (i_k15 + 1)), (8, .int i_k12), (7, .int w7_k15), (6, .int r8), (5, .int r5), (4, .int (fI u 3 11)), (0, .ref (a 36)), (1, .int x1), (2, .int x2), (3, .ref (a 46))]) hx hb dX1_rests_172 hl (k := 0) rfl rfl (by decide) rfl (fun ls hl => ?_)
                      refine lv_goto (tgt := 104) hx hb dX1_rests_175 (by decide) ?_
                      exact ih_k15 _ _ _ _ ((i_k15 + 1)) (w7_k15) hO (lv_sub hl [0, 1, 2, 3, 4, 5, 6, 7, 8, 9] rfl) (by exact hJ) (by exact hT) (by first | decide | omega) (by first | decide | omega)
                    · refine lv_aload_n hx hb dX1_rests_128 rfl (lv_at hl 6 rfl) ?_
                      refine lv_aload_n hx hb dX1_rests_129 rfl (lv_at hl 6 rfl) ?_
                      refine gf_RX1_15 (v := .ref (a 38)) C hO 36 cW_36 rfl dX1_rests_130 ?_
                      refine lv_iload hx hb dX1_rests_133 (lv_at hl 3 rfl) ?_
                      refine lv_iload hx hb dX1_rests_135 (lv_at hl 0 rfl) ?_
                      refine lv_iload hx hb dX1_rests_137 (lv_at hl 1 rfl) ?_
                      refine cVi (w := cW cy a) (As := [.ref (a 38), .int r8, .int i_k15, .int i_k12]) (rest := []) C hO (T_X1_isBest_2 l D cy a _ (by exact hJ) (r8) (i_k15) (i_k12) (by first | omega | decide)) (cwV 4 ht (gV wd_1120 wd_1122 wd_39 wd_119 wd_1123) rfl rfl rfl hd_yX1_isBest ⟨Nat.le_of_ble_eq_true rfl, Nat.le_of_ble_eq_true rfl⟩) 36 rfl cW_36 rfl rfl hl.1 (Nat.le_of_ble_eq_true rfl) dX1_rests_139 rfl ⟨Nat.zero_le _, Nat.zero_le _⟩ (fun r23 u24 H locs hp25 hO => ?_)
                      obtain ⟨hr23, hu24⟩ := hp25
                      have gr23 : 0 ≤ r23.toInt ∧ r23.toInt ≤ 1 := by rcases hr23 with h | h <;> rw [h] <;> decide
                      rw [hu24] at hO
                      refine bs_ne (tgt := 148) (X := (r23).toInt) hx hb dX1_rests_142 (by decide) rfl (fun c26 => ?_) (fun c26 => ?_)
                      · refine lv_iload hx hb dX1_rests_148 (lv_at hl 2 rfl) ?_
                        refine bs_ne (tgt := 169) (X := (w7_k15).toInt) hx hb dX1_rests_150 (by decide) rfl (fun c27 => ?_) (fun c27 => ?_)
                        · refine lv_iinc (v := (w7_k15 + 1)) (lv' := [(7, .int (w7_k15 + 1)), (9, .int i_k15), (8, .int i_k12), (6, .int r8), (5, .int r5), (4, .int (fI u 3 11)), (0, .ref (a 36)), (1, .int x1), (2, .int x2), (3, .ref (a 46))]) hx hb dX1_rests_169 hl (k := 2) rfl rfl (by decide) rfl (fun ls hl => ?_)
                          have e28 : ((i_k15 + 1)).toInt = (i_k15).toInt + 1 := i_add rfl rfl (by omega)
                          refine lv_iinc (v := (i_k15 + 1)) (lv' := [(9, .int (i_k15 + 1)), (7, .int (w7_k15 + 1)), (8, .int i_k12), (6, .int r8), (5, .int r5), (4, .int (fI u 3 11)), (0, .ref (a 36)), (1, .int x1), (2, .int x2), (3, .ref (a 46))]) hx hb dX1_rests_172 hl (k := 1) rfl rfl (by decide) rfl (fun ls hl => ?_)
                          refine lv_goto (tgt := 104) hx hb dX1_rests_175 (by decide) ?_
                          exact ih_k15 _ _ _ _ ((i_k15 + 1)) ((w7_k15 + 1)) hO (lv_sub hl [0, 2, 1, 3, 4, 5, 6, 7, 8, 9] rfl) (by exact hJ) (by exact hT) (by first | decide | omega) (by first | decide | omega)
                        · refine lv_aload_n hx hb dX1_rests_153 rfl (lv_at hl 9 rfl) ?_
                          refine aLen (v := 8) C hO 46 1 cW_46 rfl rfl dX1_rests_154 ?_
                          refine lv_iconst (v := 2) hx hb dX1_rests_155 (by decide) ?_
                          refine cn_lt (X := 8) (Y := 2) hx hb dX1_rests_156 rfl rfl (by omega) ?_ (tgt := 169) (by decide)
                          refine lv_aload_n hx hb dX1_rests_159 rfl (lv_at hl 9 rfl) ?_
                          refine lv_iconst (v := 0) hx hb dX1_rests_160 (by decide) ?_
                          refine lv_iload hx hb dX1_rests_161 (lv_at hl 1 rfl) ?_
                          refine aIs C hO 46 cW_46 (i_in (X := 0) rfl (by omega) (by omega)) cW_s46 dX1_rests_163 (fun H locs hO => ?_)
                          have hJ := CIsA hO hJ
                          refine lv_aload_n hx hb dX1_rests_164 rfl (lv_at hl 9 rfl) ?_
                          refine lv_iconst (v := 1) hx hb dX1_rests_165 (by decide) ?_
                          refine lv_iload hx hb dX1_rests_166 (lv_at hl 0 rfl) ?_
                          refine aIs C hO 46 cW_46 (i_in (X := 1) rfl (by omega) (by omega)) cW_s46 dX1_rests_168 (fun H locs hO => ?_)
                          have hJ := CIsA hO hJ
                          have e29 : ((w7_k15 + 1)).toInt = (w7_k15).toInt + 1 := i_add rfl rfl (by omega)
                          refine lv_iinc (v := (w7_k15 + 1)) (lv' := [(7, .int (w7_k15 + 1)), (9, .int i_k15), (8, .int i_k12), (6, .int r8), (5, .int r5), (4, .int (fI u 3 11)), (0, .ref (a 36)), (1, .int x1), (2, .int x2), (3, .ref (a 46))]) hx hb dX1_rests_169 hl (k := 2) rfl rfl (by decide) rfl (fun ls hl => ?_)
                          have e30 : ((i_k15 + 1)).toInt = (i_k15).toInt + 1 := i_add rfl rfl (by omega)
                          refine lv_iinc (v := (i_k15 + 1)) (lv' := [(9, .int (i_k15 + 1)), (7, .int (w7_k15 + 1)), (8, .int i_k12), (6, .int r8), (5, .int r5), (4, .int (fI u 3 11)), (0, .ref (a 36)), (1, .int x1), (2, .int x2), (3, .ref (a 46))]) hx hb dX1_rests_172 hl (k := 1) rfl rfl (by decide) rfl (fun ls hl => ?_)
                          refine lv_goto (tgt := 104) hx hb dX1_rests_175 (by decide) ?_
                          exact ih_k15 _ _ _ _ ((i_k15 + 1)) ((w7_k15 + 1)) hO (lv_sub hl [0, 2, 1, 3, 4, 5, 6, 7, 8, 9] rfl) (by exact hJ) (by exact hT) (by first | decide | omega) (by first | decide | omega)
                      · refine lv_goto (tgt := 172) hx hb dX1_rests_145 (by decide) ?_
                        have e31 : ((i_k15 + 1)).toInt = (i_k15).toInt + 1 := i_add rfl rfl (by omega)
                        refine lv_iinc (v := (i_k15 + 1)) (lv' := [(9, .int (i_k15 + 1)), (8, .int i_k12), (7, .int w7_k15), (6, .int r8), (5, .int r5), (4, .int (fI u 3 11)), (0, .ref (a 36)), (1, .int x1), (2, .int x2), (3, .ref (a 46))]) hx hb dX1_rests_172 hl (k := 0) rfl rfl (by decide) rfl (fun ls hl => ?_)
                        refine lv_goto (tgt := 104) hx hb dX1_rests_175 (by decide) ?_
                        exact ih_k15 _ _ _ _ ((i_k15 + 1)) (w7_k15) hO (lv_sub hl [0, 1, 2, 3, 4, 5, 6, 7, 8, 9] rfl) (by exact hJ) (by exact hT) (by first | decide | omega) (by first | decide | omega)
              exact LP_104_k15 4000 _ _ _ _ (0) (w7_k12) hO (lv_sub hl [0, 1, 2, 3, 4, 5, 6, 7, 8, 9] rfl) (by exact hJ) (by exact hT) (by first | decide | omega) (by first | decide | omega)
        exact LP_94_k12 4000 _ _ _ _ (0) (0) hO (lv_sub hl [0, 1, 2, 3, 4, 5, 6, 7, 8] rfl) (by exact hJ) (by exact hT) (by first | decide | omega) (by first | decide | omega)
      · refine lv_aload_n hx hb dX1_rests_22 rfl (lv_at hl 2 rfl) ?_
        refine gf_RX1_9 (v := .ref (a 37)) C hO 36 cW_36 rfl dX1_rests_23 ?_
        refine lv_iload hx hb dX1_rests_26 (lv_at hl 0 rfl) ?_
        refine lv_aload_n hx hb dX1_rests_28 rfl (lv_at hl 2 rfl) ?_
        refine gf_RX1_18 (v := .ref (a 28)) C hO 36 cW_36 rfl dX1_rests_29 ?_
        refine lv_iload_n hx hb dX1_rests_32 rfl (lv_at hl 3 rfl) ?_
        refine lv_iconst (v := 1) hx hb dX1_rests_33 (by decide) ?_
        refine lv_iload hx hb dX1_rests_34 (lv_at hl 0 rfl) ?_
        refine lv_ishl hx hb dX1_rests_36 ?_
        refine lv_topi (fun z32 ez32 => ?_)
        have g33 : 0 ≤ z32.toInt ∧ z32.toInt ≤ 2 ^ 7 := by rw [ez32]; exact i_shl1 rfl (by omega) (by omega) (by decide)
        refine cVi (w := cW cy a) (As := [.int x1, .int z32]) (rest := [.int i_k3, .ref (a 37)]) C hO (T_X2_judged l D cy a _ (by exact hJ) (x1) (z32) (by first | omega | decide)) (cwV 2 ht (gV wd_996 wd_997 wd_998 wd_115 wd_999) rfl rfl rfl hd_yX2_judged ⟨Nat.le_of_ble_eq_true rfl, Nat.le_of_ble_eq_true rfl⟩) 28 rfl cW_28 rfl rfl hl.1 (Nat.le_of_ble_eq_true rfl) dX1_rests_37 rfl ⟨Nat.zero_le _, Nat.zero_le _⟩ (fun r34 u35 H locs hp36 hO => ?_)
        obtain ⟨hJ, hTu35⟩ := hp36
        have hT : KT u u35 := KT.tr (by exact hT) hTu35
        refine aIs C hO 37 cW_37 (i_in (X := (i_k3).toInt) rfl (by omega) (by omega)) cW_s37 dX1_rests_40 (fun H locs hO => ?_)
        have hJ := CIsA hO hJ
        refine lv_aload_n hx hb dX1_rests_41 rfl (lv_at hl 2 rfl) ?_
        refine gf_RX1_15 (v := .ref (a 38)) C hO 36 cW_36 rfl dX1_rests_42 ?_
        refine lv_iload hx hb dX1_rests_45 (lv_at hl 0 rfl) ?_
        refine lv_aload_n hx hb dX1_rests_47 rfl (lv_at hl 2 rfl) ?_
        refine gf_RX1_18 (v := .ref (a 28)) C hO 36 cW_36 rfl dX1_rests_48 ?_
        refine lv_iload_n hx hb dX1_rests_51 rfl (lv_at hl 4 rfl) ?_
        refine lv_iconst (v := 1) hx hb dX1_rests_52 (by decide) ?_
        refine lv_iload hx hb dX1_rests_53 (lv_at hl 0 rfl) ?_
        refine lv_ishl hx hb dX1_rests_55 ?_
        refine lv_topi (fun z37 ez37 => ?_)
        have g38 : 0 ≤ z37.toInt ∧ z37.toInt ≤ 2 ^ 7 := by rw [ez37]; exact i_shl1 rfl (by omega) (by omega) (by decide)
        refine cVi (w := cW cy a) (As := [.int x2, .int z37]) (rest := [.int i_k3, .ref (a 38)]) C hO (T_X2_judged l D cy a _ (by exact hJ) (x2) (z37) (by first | omega | decide)) (cwV 2 ht (gV wd_996 wd_997 wd_998 wd_115 wd_999) rfl rfl rfl hd_yX2_judged ⟨Nat.le_of_ble_eq_true rfl, Nat.le_of_ble_eq_true rfl⟩) 28 rfl cW_28 rfl rfl hl.1 (Nat.le_of_ble_eq_true rfl) dX1_rests_56 rfl ⟨Nat.zero_le _, Nat.zero_le _⟩ (fun r39 u40 H locs hp41 hO => ?_)
        obtain ⟨hJ, hTu40⟩ := hp41
        have hT : KT u u40 := KT.tr (by exact hT) hTu40
        refine aIs C hO 38 cW_38 (i_in (X := (i_k3).toInt) rfl (by omega) (by omega)) cW_s38 dX1_rests_59 (fun H locs hO => ?_)
        have hJ := CIsA hO hJ
        have e42 : ((i_k3 + 1)).toInt = (i_k3).toInt + 1 := i_add rfl rfl (by omega)
        refine lv_iinc (v := (i_k3 + 1)) (lv' := [(5, .int (i_k3 + 1)), (4, .int (fI u 3 11)), (0, .ref (a 36)), (1, .int x1), (2, .int x2), (3, .ref (a 46))]) hx hb dX1_rests_60 hl (k := 0) rfl rfl (by decide) rfl (fun ls hl => ?_)
        refine lv_goto (tgt := 15) hx hb dX1_rests_63 (by decide) ?_
        exact ih_k3 _ _ _ _ ((i_k3 + 1)) hO (lv_sub hl [0, 1, 2, 3, 4, 5] rfl) (by exact hJ) (by exact hT) (by first | decide | omega) (by first | decide | omega)
  exact LP_15_k3 4000 _ _ _ _ (0) hO (lv_sub hl [0, 1, 2, 3, 4, 5] rfl) (by exact hJ) (by exact hT) (by first | decide | omega) (by first | decide | omega)
theorem dX1_freeWithout_0 : decode cX1_freeWithout 0 = .ok (.iconst 0, 1) := by decide +kernel
theorem dX1_freeWithout_1 : decode cX1_freeWithout 1 = .ok (.istore_n 2, 1) := by decide +kernel
theorem dX1_freeWithout_2 : decode cX1_freeWithout 2 = .ok (.iconst 0, 1) := by decide +kernel
theorem dX1_freeWithout_3 : decode cX1_freeWithout 3 = .ok (.istore_n 3, 1) := by decide +kernel
theorem dX1_freeWithout_4 : decode cX1_freeWithout 4 = .ok (.iload_n 3, 1) := by decide +kernel
theorem dX1_freeWithout_5 : decode cX1_freeWithout 5 = .ok (.aload_n 0, 1) := by decide +kernel
theorem dX1_freeWithout_6 : decode cX1_freeWithout 6 = .ok (.getfield 18, 3) := by decide +kernel
theorem dX1_freeWithout_9 : decode cX1_freeWithout 9 = .ok (.getfield 34, 3) := by decide +kernel
theorem dX1_freeWithout_12 : decode cX1_freeWithout 12 = .ok (.getfield 44, 3) := by decide +kernel
theorem dX1_freeWithout_15 : decode cX1_freeWithout 15 = .ok (.if_icmp .ge 52, 3) := by decide +kernel
theorem dX1_freeWithout_18 : decode cX1_freeWithout 18 = .ok (.aload_n 0, 1) := by decide +kernel
theorem dX1_freeWithout_19 : decode cX1_freeWithout 19 = .ok (.getfield 18, 3) := by decide +kernel
theorem dX1_freeWithout_22 : decode cX1_freeWithout 22 = .ok (.iload_n 3, 1) := by decide +kernel
theorem dX1_freeWithout_23 : decode cX1_freeWithout 23 = .ok (.invokevirtual 47, 3) := by decide +kernel
theorem dX1_freeWithout_26 : decode cX1_freeWithout 26 = .ok (.ifCond .eq 35, 3) := by decide +kernel
theorem dX1_freeWithout_29 : decode cX1_freeWithout 29 = .ok (.aload_n 0, 1) := by decide +kernel
theorem dX1_freeWithout_30 : decode cX1_freeWithout 30 = .ok (.getfield 18, 3) := by decide +kernel
theorem dX1_freeWithout_33 : decode cX1_freeWithout 33 = .ok (.iload_n 3, 1) := by decide +kernel
theorem dX1_freeWithout_34 : decode cX1_freeWithout 34 = .ok (.aload_n 0, 1) := by decide +kernel
theorem dX1_freeWithout_35 : decode cX1_freeWithout 35 = .ok (.getfield 18, 3) := by decide +kernel
theorem dX1_freeWithout_38 : decode cX1_freeWithout 38 = .ok (.getfield 54, 3) := by decide +kernel
theorem dX1_freeWithout_41 : decode cX1_freeWithout 41 = .ok (.bipush 11, 2) := by decide +kernel
theorem dX1_freeWithout_43 : decode cX1_freeWithout 43 = .ok (.iload_n 3, 1) := by decide +kernel
theorem dX1_freeWithout_44 : decode cX1_freeWithout 44 = .ok (.iadd, 1) := by decide +kernel
theorem dX1_freeWithout_45 : decode cX1_freeWithout 45 = .ok (.iaload, 1) := by decide +kernel
theorem dX1_freeWithout_46 : decode cX1_freeWithout 46 = .ok (.iconst 1, 1) := by decide +kernel
theorem dX1_freeWithout_47 : decode cX1_freeWithout 47 = .ok (.iload_n 1, 1) := by decide +kernel
theorem dX1_freeWithout_48 : decode cX1_freeWithout 48 = .ok (.ishl, 1) := by decide +kernel
theorem dX1_freeWithout_49 : decode cX1_freeWithout 49 = .ok (.iconst (-1), 1) := by decide +kernel
theorem dX1_freeWithout_50 : decode cX1_freeWithout 50 = .ok (.ixor, 1) := by decide +kernel
theorem dX1_freeWithout_51 : decode cX1_freeWithout 51 = .ok (.iand, 1) := by decide +kernel
theorem dX1_freeWithout_52 : decode cX1_freeWithout 52 = .ok (.invokevirtual 28, 3) := by decide +kernel
theorem dX1_freeWithout_55 : decode cX1_freeWithout 55 = .ok (.ifCond .le 6, 3) := by decide +kernel
theorem dX1_freeWithout_58 : decode cX1_freeWithout 58 = .ok (.iinc 2 1, 3) := by decide +kernel
theorem dX1_freeWithout_61 : decode cX1_freeWithout 61 = .ok (.iinc 3 1, 3) := by decide +kernel
theorem dX1_freeWithout_64 : decode cX1_freeWithout 64 = .ok (.goto (-60), 3) := by decide +kernel
theorem dX1_freeWithout_67 : decode cX1_freeWithout 67 = .ok (.iload_n 2, 1) := by decide +kernel
theorem dX1_freeWithout_68 : decode cX1_freeWithout 68 = .ok (.ireturn, 1) := by decide +kernel
theorem wd_1153 : (Cond.code ⟨"WebCourt$Counsel", "freeWithout", "(I)I"⟩ prog_3_method_9_code (4 : Nat) (Option.some FieldType.int)) ∈ gtb := gtb_c5 84 (by decide +kernel) rfl
set_option maxHeartbeats 4000000 in
set_option maxRecDepth 100000 in
theorem T_X1_freeWithout (l : Launch) (D : va_G) (cy : Nat → ClassId) (a : Nat → Nat) (u : St) (hJ : CI a u) (x1 : Int32)  : Mi l D cy (cW cy a) yX1_freeWithout (.code yX1_freeWithout cX1_freeWithout 4 (some .int)) (rmo 4 100) [.ref (a 36), .int x1] u (fun (r : Int32) (u' : St) => (CI a u') ∧ (KT u u')) := by
  refine Mi.of (own := RX1) rfl (by decide) (Nat.le_of_ble_eq_true rfl) ?_
  have hT : KT u u := KT.rf
  intro p e s m below meth c A Q ls C hret hO hl
  obtain ⟨hx, hb, hml, hown, ht, hK, hA⟩ := id C
  have hl : lv_has ls 4 [(0, .ref (a 36)), (1, .int x1)] := hl
  refine lv_iconst (v := 0) hx hb dX1_freeWithout_0 (by decide) ?_
  refine lv_istore_n (lv' := [(2, .int 0), (0, .ref (a 36)), (1, .int x1)]) hx hb dX1_freeWithout_1 rfl hl (by decide) rfl (fun ls hl => ?_)
  refine lv_iconst (v := 0) hx hb dX1_freeWithout_2 (by decide) ?_
  refine lv_istore_n (lv' := [(3, .int 0), (2, .int 0), (0, .ref (a 36)), (1, .int x1)]) hx hb dX1_freeWithout_3 rfl hl (by decide) rfl (fun ls hl => ?_)
  have LP_4_k2 : ∀ (n : Nat) (u1 : St) (H : Heap) (locs : List Loc) (ls : Array Slot) (i_k2 : Int32) (w2_k2 : Int32), Wo D A (cW cy a u1) s.heap H locs → lv_has ls 4 [(3, .int i_k2), (2, .int w2_k2), (0, .ref (a 36)), (1, .int x1)] → CI a u1 → KT u u1 → 0 ≤ i_k2.toInt ∧ i_k2.toInt ≤ 6 → 6 - i_k2.toInt < (n : Int) → W p l e (rmo 4 100) s m [.ref (a 36), .int x1].toArray below meth c H locs 0 0 Q (F0 m 4 ls []) := by
    intro n
    induction n with
    | zero =>
      intro u1 H locs ls i_k2 w2_k2 hO hl hJ hT iv0_k2 hm_k2
      exact absurd hm_k2 (by omega)
    | succ n ih_k2 =>
      intro u1 H locs ls i_k2 w2_k2 hO hl hJ hT iv0_k2 hm_k2
      refine lv_iload_n hx hb dX1_freeWithout_4 rfl (lv_at hl 0 rfl) ?_
      refine lv_aload_n hx hb dX1_freeWithout_5 rfl (lv_at hl 2 rfl) ?_
      refine gf_RX1_18 (v := .ref (a 28)) C hO 36 cW_36 rfl dX1_freeWithout_6 ?_
      refine gf_RX1_34 (v := .ref (a 3)) C hO 28 cW_28 (congrArg (fun z : Nat => some (Value.ref z)) (CI_R0 hJ)) dX1_freeWithout_9 ?_
      have g3 : 0 ≤ (fI u1 3 12).toInt ∧ (fI u1 3 12).toInt ≤ 6 := by have h := CI_3_12 hJ; exact h
      refine gf_RX1_44 (v := .int (fI u1 3 12)) C hO 3 cW_3 rfl dX1_freeWithout_12 ?_
      refine cs_ge (tgt := 67) (X := (i_k2).toInt) (Y := ((fI u1 3 12)).toInt) hx hb dX1_freeWithout_15 (by decide) rfl rfl (fun c4 => ?_) (fun c4 => ?_)
      · refine lv_iload_n hx hb dX1_freeWithout_67 rfl (lv_at hl 1 rfl) ?_
        refine hret _ _ _ _ _ _ dX1_freeWithout_68 rfl ?_ hO
        exact ⟨hJ, hT⟩
      · refine lv_aload_n hx hb dX1_freeWithout_18 rfl (lv_at hl 2 rfl) ?_
        refine gf_RX1_18 (v := .ref (a 28)) C hO 36 cW_36 rfl dX1_freeWithout_19 ?_
        refine lv_iload_n hx hb dX1_freeWithout_22 rfl (lv_at hl 0 rfl) ?_
        refine cVi (w := cW cy a) (As := [.int i_k2]) (rest := []) C hO (T_X2_isHeld l D cy a _ (by exact hJ) (i_k2)) (cwV 1 ht (gV wd_1091 wd_930 wd_931 wd_115 wd_932) rfl rfl rfl hd_yX2_isHeld ⟨Nat.le_of_ble_eq_true rfl, Nat.le_of_ble_eq_true rfl⟩) 28 rfl cW_28 rfl rfl hl.1 (Nat.le_of_ble_eq_true rfl) dX1_freeWithout_23 rfl ⟨Nat.zero_le _, Nat.zero_le _⟩ (fun r5 u6 H locs hp7 hO => ?_)
        obtain ⟨hr5, hu6⟩ := hp7
        rw [hu6] at hO
        rcases hr5 with ⟨hcr5, hvr5⟩ | ⟨hcr5, hvr5⟩
        · subst hvr5
          refine bn_eq (X := 1) hx hb dX1_freeWithout_26 rfl (by omega) ?_ (tgt := 61) (by decide)
          refine lv_aload_n hx hb dX1_freeWithout_29 rfl (lv_at hl 2 rfl) ?_
          refine gf_RX1_18 (v := .ref (a 28)) C hO 36 cW_36 rfl dX1_freeWithout_30 ?_
          refine lv_iload_n hx hb dX1_freeWithout_33 rfl (lv_at hl 0 rfl) ?_
          refine lv_aload_n hx hb dX1_freeWithout_34 rfl (lv_at hl 2 rfl) ?_
          refine gf_RX1_18 (v := .ref (a 28)) C hO 36 cW_36 rfl dX1_freeWithout_35 ?_
          refine gf_RX1_54 (v := .ref (a 29)) C hO 28 cW_28 rfl dX1_freeWithout_38 ?_
          refine lv_bipush (v := 11) hx hb dX1_freeWithout_41 (by decide) ?_
          refine lv_iload_n hx hb dX1_freeWithout_43 rfl (lv_at hl 0 rfl) ?_
          have e8 : ((11 + i_k2)).toInt = 11 + (i_k2).toInt := i_add rfl rfl (by omega)
          refine lv_iadd hx hb dX1_freeWithout_44 ?_
          refine aI C hO 29 cW_29 (i_in (X := (11 + (i_k2).toInt)) e8 (by omega) (by omega)) dX1_freeWithout_45 ?_
          refine lv_topi (fun w9 ew9 => ?_)
          refine lv_iconst (v := 1) hx hb dX1_freeWithout_46 (by decide) ?_
          refine lv_iload_n hx hb dX1_freeWithout_47 rfl (lv_at hl 3 rfl) ?_
          refine lv_ishl hx hb dX1_freeWithout_48 ?_
          refine lv_topi (fun z10 ez10 => ?_)
          refine lv_iconst (v := (-1)) hx hb dX1_freeWithout_49 (by decide) ?_
          refine lv_ixor hx hb dX1_freeWithout_50 ?_
          refine lv_topi (fun z11 ez11 => ?_)
          refine lv_iand hx hb dX1_freeWithout_51 ?_
          refine lv_topi (fun z12 ez12 => ?_)
          refine cVi (w := cW cy a) (As := [.int i_k2, .int z12]) (rest := []) C hO (T_X2_judged l D cy a _ (by exact hJ) (i_k2) (z12) (by first | omega | decide)) (cwV 2 ht (gV wd_996 wd_997 wd_998 wd_115 wd_999) rfl rfl rfl hd_yX2_judged ⟨Nat.le_of_ble_eq_true rfl, Nat.le_of_ble_eq_true rfl⟩) 28 rfl cW_28 rfl rfl hl.1 (Nat.le_of_ble_eq_true rfl) dX1_freeWithout_52 rfl ⟨Nat.zero_le _, Nat.zero_le _⟩ (fun r13 u14 H locs hp15 hO => ?_)
          obtain ⟨hJ, hTu14⟩ := hp15
          have hT : KT u u14 := KT.tr (by exact hT) hTu14
          refine bs_le (tgt := 61) (X := (r13).toInt) hx hb dX1_freeWithout_55 (by decide) rfl (fun c16 => ?_) (fun c16 => ?_)
          · have e17 : ((i_k2 + 1)).toInt = (i_k2).toInt + 1 := i_add rfl rfl (by omega)
            refine lv_iinc (v := (i_k2 + 1)) (lv' := [(3, .int (i_k2 + 1)), (2, .int w2_k2), (0, .ref (a 36)), (1, .int x1)]) hx hb dX1_freeWithout_61 hl (k := 0) rfl rfl (by decide) rfl (fun ls hl => ?_)
            refine lv_goto (tgt := 4) hx hb dX1_freeWithout_64 (by decide) ?_
            exact ih_k2 _ _ _ _ ((i_k2 + 1)) (w2_k2) hO (lv_sub hl [0, 1, 2, 3] rfl) (by exact hJ) (by exact hT) (by first | decide | omega) (by first | decide | omega)
          · refine lv_iinc (v := (w2_k2 + 1)) (lv' := [(2, .int (w2_k2 + 1)), (3, .int i_k2), (0, .ref (a 36)), (1, .int x1)]) hx hb dX1_freeWithout_58 hl (k := 1) rfl rfl (by decide) rfl (fun ls hl => ?_)
            have e18 : ((i_k2 + 1)).toInt = (i_k2).toInt + 1 := i_add rfl rfl (by omega)
            refine lv_iinc (v := (i_k2 + 1)) (lv' := [(3, .int (i_k2 + 1)), (2, .int (w2_k2 + 1)), (0, .ref (a 36)), (1, .int x1)]) hx hb dX1_freeWithout_61 hl (k := 1) rfl rfl (by decide) rfl (fun ls hl => ?_)
            refine lv_goto (tgt := 4) hx hb dX1_freeWithout_64 (by decide) ?_
            exact ih_k2 _ _ _ _ ((i_k2 + 1)) ((w2_k2 + 1)) hO (lv_sub hl [0, 1, 2, 3] rfl) (by exact hJ) (by exact hT) (by first | decide | omega) (by first | decide | omega)
        · subst hvr5
          refine bt_eq (tgt := 61) (X := 0) hx hb dX1_freeWithout_26 (by decide) rfl (by omega) ?_
          have e19 : ((i_k2 + 1)).toInt = (i_k2).toInt + 1 := i_add rfl rfl (by omega)
          refine lv_iinc (v := (i_k2 + 1)) (lv' := [(3, .int (i_k2 + 1)), (2, .int w2_k2), (0, .ref (a 36)), (1, .int x1)]) hx hb dX1_freeWithout_61 hl (k := 0) rfl rfl (by decide) rfl (fun ls hl => ?_)
          refine lv_goto (tgt := 4) hx hb dX1_freeWithout_64 (by decide) ?_
          exact ih_k2 _ _ _ _ ((i_k2 + 1)) (w2_k2) hO (lv_sub hl [0, 1, 2, 3] rfl) (by exact hJ) (by exact hT) (by first | decide | omega) (by first | decide | omega)
  exact LP_4_k2 4000 _ _ _ _ (0) (0) hO (lv_sub hl [0, 1, 2, 3] rfl) (by exact hJ) (by exact hT) (by first | decide | omega) (by first | decide | omega)
theorem dX1_pleaToForbid_0 : decode cX1_pleaToForbid 0 = .ok (.iconst (-1), 1) := by decide +kernel
theorem dX1_pleaToForbid_1 : decode cX1_pleaToForbid 1 = .ok (.istore_n 1, 1) := by decide +kernel
theorem dX1_pleaToForbid_2 : decode cX1_pleaToForbid 2 = .ok (.bipush 7, 2) := by decide +kernel
theorem dX1_pleaToForbid_4 : decode cX1_pleaToForbid 4 = .ok (.istore_n 2, 1) := by decide +kernel
theorem dX1_pleaToForbid_5 : decode cX1_pleaToForbid 5 = .ok (.iconst 0, 1) := by decide +kernel
theorem dX1_pleaToForbid_6 : decode cX1_pleaToForbid 6 = .ok (.istore_n 3, 1) := by decide +kernel
theorem dX1_pleaToForbid_7 : decode cX1_pleaToForbid 7 = .ok (.iload_n 3, 1) := by decide +kernel
theorem dX1_pleaToForbid_8 : decode cX1_pleaToForbid 8 = .ok (.aload_n 0, 1) := by decide +kernel
theorem dX1_pleaToForbid_9 : decode cX1_pleaToForbid 9 = .ok (.getfield 18, 3) := by decide +kernel
theorem dX1_pleaToForbid_12 : decode cX1_pleaToForbid 12 = .ok (.getfield 34, 3) := by decide +kernel
theorem dX1_pleaToForbid_15 : decode cX1_pleaToForbid 15 = .ok (.getfield 38, 3) := by decide +kernel
theorem dX1_pleaToForbid_18 : decode cX1_pleaToForbid 18 = .ok (.if_icmp .ge 27, 3) := by decide +kernel
theorem dX1_pleaToForbid_21 : decode cX1_pleaToForbid 21 = .ok (.aload_n 0, 1) := by decide +kernel
theorem dX1_pleaToForbid_22 : decode cX1_pleaToForbid 22 = .ok (.iload_n 3, 1) := by decide +kernel
theorem dX1_pleaToForbid_23 : decode cX1_pleaToForbid 23 = .ok (.invokevirtual 79, 3) := by decide +kernel
theorem dX1_pleaToForbid_26 : decode cX1_pleaToForbid 26 = .ok (.istore 4, 2) := by decide +kernel
theorem dX1_pleaToForbid_28 : decode cX1_pleaToForbid 28 = .ok (.iload 4, 2) := by decide +kernel
theorem dX1_pleaToForbid_30 : decode cX1_pleaToForbid 30 = .ok (.iload_n 2, 1) := by decide +kernel
theorem dX1_pleaToForbid_31 : decode cX1_pleaToForbid 31 = .ok (.if_icmp .ge 8, 3) := by decide +kernel
theorem dX1_pleaToForbid_34 : decode cX1_pleaToForbid 34 = .ok (.iload 4, 2) := by decide +kernel
theorem dX1_pleaToForbid_36 : decode cX1_pleaToForbid 36 = .ok (.istore_n 2, 1) := by decide +kernel
theorem dX1_pleaToForbid_37 : decode cX1_pleaToForbid 37 = .ok (.iload_n 3, 1) := by decide +kernel
theorem dX1_pleaToForbid_38 : decode cX1_pleaToForbid 38 = .ok (.istore_n 1, 1) := by decide +kernel
theorem dX1_pleaToForbid_39 : decode cX1_pleaToForbid 39 = .ok (.iinc 3 1, 3) := by decide +kernel
theorem dX1_pleaToForbid_42 : decode cX1_pleaToForbid 42 = .ok (.goto (-35), 3) := by decide +kernel
theorem dX1_pleaToForbid_45 : decode cX1_pleaToForbid 45 = .ok (.iload_n 1, 1) := by decide +kernel
theorem dX1_pleaToForbid_46 : decode cX1_pleaToForbid 46 = .ok (.ireturn, 1) := by decide +kernel
theorem wd_1149 : (Cond.code ⟨"WebCourt$Counsel", "pleaToForbid", "()I"⟩ prog_3_method_10_code (5 : Nat) (Option.some FieldType.int)) ∈ gtb := gtb_c5 80 (by decide +kernel) rfl
theorem wd_1150 : (Cond.methodLink "WebCourt$Counsel" (79 : Nat) ⟨"WebCourt$Counsel", "freeWithout", "(I)I"⟩) ∈ gtb := gtb_c5 81 (by decide +kernel) rfl
theorem wd_1151 : (Cond.instanceMethod ⟨"WebCourt$Counsel", "freeWithout", "(I)I"⟩) ∈ gtb := gtb_c5 82 (by decide +kernel) rfl
theorem wd_1152 : (Cond.selects "WebCourt$Counsel" ⟨"WebCourt$Counsel", "freeWithout", "(I)I"⟩ ⟨"WebCourt$Counsel", "freeWithout", "(I)I"⟩) ∈ gtb := gtb_c5 83 (by decide +kernel) rfl
theorem hd_yX1_freeWithout : yX1_freeWithout.cls = RX1 ∧ yX1_freeWithout.cls ≠ "java/lang/invoke/MethodHandle" ∧ yX1_freeWithout.cls ≠ "java/lang/invoke/VarHandle" ∧ (parseMethodDescriptor yX1_freeWithout.desc).map (fun d => d.parameters.length) = some 1 := by decide +kernel
set_option maxHeartbeats 4000000 in
set_option maxRecDepth 100000 in
theorem T_X1_pleaToForbid (l : Launch) (D : va_G) (cy : Nat → ClassId) (a : Nat → Nat) (u : St) (hJ : CI a u)   : Mi l D cy (cW cy a) yX1_pleaToForbid (.code yX1_pleaToForbid cX1_pleaToForbid 5 (some .int)) (rmo 5 123) [.ref (a 36)] u (fun (r : Int32) (u' : St) => (CI a u') ∧ (KT u u')) := by
  refine Mi.of (own := RX1) rfl (by decide) (Nat.le_of_ble_eq_true rfl) ?_
  have hT : KT u u := KT.rf
  intro p e s m below meth c A Q ls C hret hO hl
  obtain ⟨hx, hb, hml, hown, ht, hK, hA⟩ := id C
  have hl : lv_has ls 5 [(0, .ref (a 36))] := hl
  refine lv_iconst (v := (-1)) hx hb dX1_pleaToForbid_0 (by decide) ?_
  refine lv_istore_n (lv' := [(1, .int (-1)), (0, .ref (a 36))]) hx hb dX1_pleaToForbid_1 rfl hl (by decide) rfl (fun ls hl => ?_)
  refine lv_bipush (v := 7) hx hb dX1_pleaToForbid_2 (by decide) ?_
  refine lv_istore_n (lv' := [(2, .int 7), (1, .int (-1)), (0, .ref (a 36))]) hx hb dX1_pleaToForbid_4 rfl hl (by decide) rfl (fun ls hl => ?_)
  refine lv_iconst (v := 0) hx hb dX1_pleaToForbid_5 (by decide) ?_
  refine lv_istore_n (lv' := [(3, .int 0), (2, .int 7), (1, .int (-1)), (0, .ref (a 36))]) hx hb dX1_pleaToForbid_6 rfl hl (by decide) rfl (fun ls hl => ?_)
  have LP_7_k2 : ∀ (n : Nat) (u1 : St) (H : Heap) (locs : List Loc) (ls : Array Slot) (i_k2 : Int32) (w2_k2 : Int32) (w1_k2 : Int32), Wo D A (cW cy a u1) s.heap H locs → lv_has ls 5 [(3, .int i_k2), (2, .int w2_k2), (1, .int w1_k2), (0, .ref (a 36))] → CI a u1 → KT u u1 → 0 ≤ i_k2.toInt ∧ i_k2.toInt ≤ 8 → 8 - i_k2.toInt < (n : Int) → W p l e (rmo 5 123) s m [.ref (a 36)].toArray below meth c H locs 0 0 Q (F0 m 7 ls []) := by
    intro n
    induction n with
    | zero =>
      intro u1 H locs ls i_k2 w2_k2 w1_k2 hO hl hJ hT iv0_k2 hm_k2
      exact absurd hm_k2 (by omega)
    | succ n ih_k2 =>
      intro u1 H locs ls i_k2 w2_k2 w1_k2 hO hl hJ hT iv0_k2 hm_k2
      refine lv_iload_n hx hb dX1_pleaToForbid_7 rfl (lv_at hl 0 rfl) ?_
      refine lv_aload_n hx hb dX1_pleaToForbid_8 rfl (lv_at hl 3 rfl) ?_
      refine gf_RX1_18 (v := .ref (a 28)) C hO 36 cW_36 rfl dX1_pleaToForbid_9 ?_
      refine gf_RX1_34 (v := .ref (a 3)) C hO 28 cW_28 (congrArg (fun z : Nat => some (Value.ref z)) (CI_R0 hJ)) dX1_pleaToForbid_12 ?_
      have g3 : 0 ≤ (fI u1 3 11).toInt ∧ (fI u1 3 11).toInt ≤ 8 := by have h := CI_3_11 hJ; exact h
      refine gf_RX1_38 (v := .int (fI u1 3 11)) C hO 3 cW_3 rfl dX1_pleaToForbid_15 ?_
      refine cs_ge (tgt := 45) (X := (i_k2).toInt) (Y := ((fI u1 3 11)).toInt) hx hb dX1_pleaToForbid_18 (by decide) rfl rfl (fun c4 => ?_) (fun c4 => ?_)
      · refine lv_iload_n hx hb dX1_pleaToForbid_45 rfl (lv_at hl 2 rfl) ?_
        refine hret _ _ _ _ _ _ dX1_pleaToForbid_46 rfl ?_ hO
        exact ⟨hJ, hT⟩
      · refine lv_aload_n hx hb dX1_pleaToForbid_21 rfl (lv_at hl 3 rfl) ?_
        refine lv_iload_n hx hb dX1_pleaToForbid_22 rfl (lv_at hl 0 rfl) ?_
        refine cVi (w := cW cy a) (As := [.int i_k2]) (rest := []) C hO (T_X1_freeWithout l D cy a _ (by exact hJ) (i_k2)) (cwV 1 ht (gV wd_1150 wd_1151 wd_1152 wd_119 wd_1153) rfl rfl rfl hd_yX1_freeWithout ⟨Nat.le_of_ble_eq_true rfl, Nat.le_of_ble_eq_true rfl⟩) 36 rfl cW_36 rfl rfl hl.1 (Nat.le_of_ble_eq_true rfl) dX1_pleaToForbid_23 rfl ⟨Nat.zero_le _, Nat.zero_le _⟩ (fun r5 u6 H locs hp7 hO => ?_)
        obtain ⟨hJ, hTu6⟩ := hp7
        have hT : KT u u6 := KT.tr (by exact hT) hTu6
        refine lv_istore (lv' := [(4, .int r5), (3, .int i_k2), (2, .int w2_k2), (1, .int w1_k2), (0, .ref (a 36))]) hx hb dX1_pleaToForbid_26 hl (by decide) rfl (fun ls hl => ?_)
        refine lv_iload hx hb dX1_pleaToForbid_28 (lv_at hl 0 rfl) ?_
        refine lv_iload_n hx hb dX1_pleaToForbid_30 rfl (lv_at hl 2 rfl) ?_
        refine cs_ge (tgt := 39) (X := (r5).toInt) (Y := (w2_k2).toInt) hx hb dX1_pleaToForbid_31 (by decide) rfl rfl (fun c8 => ?_) (fun c8 => ?_)
        · have e9 : ((i_k2 + 1)).toInt = (i_k2).toInt + 1 := i_add rfl rfl (by omega)
          refine lv_iinc (v := (i_k2 + 1)) (lv' := [(3, .int (i_k2 + 1)), (4, .int r5), (2, .int w2_k2), (1, .int w1_k2), (0, .ref (a 36))]) hx hb dX1_pleaToForbid_39 hl (k := 1) rfl rfl (by decide) rfl (fun ls hl => ?_)
          refine lv_goto (tgt := 7) hx hb dX1_pleaToForbid_42 (by decide) ?_
          exact ih_k2 _ _ _ _ ((i_k2 + 1)) (w2_k2) (w1_k2) hO (lv_sub hl [0, 2, 3, 4] rfl) (by exact hJ) (by exact hT) (by first | decide | omega) (by first | decide | omega)
        · refine lv_iload hx hb dX1_pleaToForbid_34 (lv_at hl 0 rfl) ?_
          refine lv_istore_n (lv' := [(2, .int r5), (4, .int r5), (3, .int i_k2), (1, .int w1_k2), (0, .ref (a 36))]) hx hb dX1_pleaToForbid_36 rfl hl (by decide) rfl (fun ls hl => ?_)
          refine lv_iload_n hx hb dX1_pleaToForbid_37 rfl (lv_at hl 2 rfl) ?_
          refine lv_istore_n (lv' := [(1, .int i_k2), (2, .int r5), (4, .int r5), (3, .int i_k2), (0, .ref (a 36))]) hx hb dX1_pleaToForbid_38 rfl hl (by decide) rfl (fun ls hl => ?_)
          have e10 : ((i_k2 + 1)).toInt = (i_k2).toInt + 1 := i_add rfl rfl (by omega)
          refine lv_iinc (v := (i_k2 + 1)) (lv' := [(3, .int (i_k2 + 1)), (1, .int i_k2), (2, .int r5), (4, .int r5), (0, .ref (a 36))]) hx hb dX1_pleaToForbid_39 hl (k := 3) rfl rfl (by decide) rfl (fun ls hl => ?_)
          refine lv_goto (tgt := 7) hx hb dX1_pleaToForbid_42 (by decide) ?_
          exact ih_k2 _ _ _ _ ((i_k2 + 1)) (r5) (i_k2) hO (lv_sub hl [0, 2, 1, 4] rfl) (by exact hJ) (by exact hT) (by first | decide | omega) (by first | decide | omega)
  exact LP_7_k2 4000 _ _ _ _ (0) (7) ((-1)) hO (lv_sub hl [0, 1, 2, 3] rfl) (by exact hJ) (by exact hT) (by first | decide | omega) (by first | decide | omega)
theorem dX1_freeByExchange_0 : decode cX1_freeByExchange 0 = .ok (.iconst 0, 1) := by decide +kernel
theorem dX1_freeByExchange_1 : decode cX1_freeByExchange 1 = .ok (.istore_n 3, 1) := by decide +kernel
theorem dX1_freeByExchange_2 : decode cX1_freeByExchange 2 = .ok (.iconst 0, 1) := by decide +kernel
theorem dX1_freeByExchange_3 : decode cX1_freeByExchange 3 = .ok (.istore 4, 2) := by decide +kernel
theorem dX1_freeByExchange_5 : decode cX1_freeByExchange 5 = .ok (.iload 4, 2) := by decide +kernel
theorem dX1_freeByExchange_7 : decode cX1_freeByExchange 7 = .ok (.aload_n 0, 1) := by decide +kernel
theorem dX1_freeByExchange_8 : decode cX1_freeByExchange 8 = .ok (.getfield 18, 3) := by decide +kernel
theorem dX1_freeByExchange_11 : decode cX1_freeByExchange 11 = .ok (.getfield 34, 3) := by decide +kernel
theorem dX1_freeByExchange_14 : decode cX1_freeByExchange 14 = .ok (.getfield 44, 3) := by decide +kernel
theorem dX1_freeByExchange_17 : decode cX1_freeByExchange 17 = .ok (.if_icmp .ge 73, 3) := by decide +kernel
theorem dX1_freeByExchange_20 : decode cX1_freeByExchange 20 = .ok (.iload 4, 2) := by decide +kernel
theorem dX1_freeByExchange_22 : decode cX1_freeByExchange 22 = .ok (.iload_n 1, 1) := by decide +kernel
theorem dX1_freeByExchange_23 : decode cX1_freeByExchange 23 = .ok (.if_icmp .ne 7, 3) := by decide +kernel
theorem dX1_freeByExchange_26 : decode cX1_freeByExchange 26 = .ok (.iload_n 2, 1) := by decide +kernel
theorem dX1_freeByExchange_27 : decode cX1_freeByExchange 27 = .ok (.goto 15, 3) := by decide +kernel
theorem dX1_freeByExchange_30 : decode cX1_freeByExchange 30 = .ok (.iload 4, 2) := by decide +kernel
theorem dX1_freeByExchange_32 : decode cX1_freeByExchange 32 = .ok (.iload_n 2, 1) := by decide +kernel
theorem dX1_freeByExchange_33 : decode cX1_freeByExchange 33 = .ok (.if_icmp .ne 7, 3) := by decide +kernel
theorem dX1_freeByExchange_36 : decode cX1_freeByExchange 36 = .ok (.iload_n 1, 1) := by decide +kernel
theorem dX1_freeByExchange_37 : decode cX1_freeByExchange 37 = .ok (.goto 5, 3) := by decide +kernel
theorem dX1_freeByExchange_40 : decode cX1_freeByExchange 40 = .ok (.iload 4, 2) := by decide +kernel
theorem dX1_freeByExchange_42 : decode cX1_freeByExchange 42 = .ok (.istore 5, 2) := by decide +kernel
theorem dX1_freeByExchange_44 : decode cX1_freeByExchange 44 = .ok (.aload_n 0, 1) := by decide +kernel
theorem dX1_freeByExchange_45 : decode cX1_freeByExchange 45 = .ok (.getfield 18, 3) := by decide +kernel
theorem dX1_freeByExchange_48 : decode cX1_freeByExchange 48 = .ok (.iload 4, 2) := by decide +kernel
theorem dX1_freeByExchange_50 : decode cX1_freeByExchange 50 = .ok (.invokevirtual 47, 3) := by decide +kernel
theorem dX1_freeByExchange_53 : decode cX1_freeByExchange 53 = .ok (.ifCond .eq 31, 3) := by decide +kernel
theorem dX1_freeByExchange_56 : decode cX1_freeByExchange 56 = .ok (.aload_n 0, 1) := by decide +kernel
theorem dX1_freeByExchange_57 : decode cX1_freeByExchange 57 = .ok (.getfield 18, 3) := by decide +kernel
theorem dX1_freeByExchange_60 : decode cX1_freeByExchange 60 = .ok (.iload 4, 2) := by decide +kernel
theorem dX1_freeByExchange_62 : decode cX1_freeByExchange 62 = .ok (.aload_n 0, 1) := by decide +kernel
theorem dX1_freeByExchange_63 : decode cX1_freeByExchange 63 = .ok (.getfield 18, 3) := by decide +kernel
theorem dX1_freeByExchange_66 : decode cX1_freeByExchange 66 = .ok (.getfield 54, 3) := by decide +kernel
theorem dX1_freeByExchange_69 : decode cX1_freeByExchange 69 = .ok (.bipush 11, 2) := by decide +kernel
theorem dX1_freeByExchange_71 : decode cX1_freeByExchange 71 = .ok (.iload 5, 2) := by decide +kernel
theorem dX1_freeByExchange_73 : decode cX1_freeByExchange 73 = .ok (.iadd, 1) := by decide +kernel
theorem dX1_freeByExchange_74 : decode cX1_freeByExchange 74 = .ok (.iaload, 1) := by decide +kernel
theorem dX1_freeByExchange_75 : decode cX1_freeByExchange 75 = .ok (.invokevirtual 28, 3) := by decide +kernel
theorem dX1_freeByExchange_78 : decode cX1_freeByExchange 78 = .ok (.ifCond .le 6, 3) := by decide +kernel
theorem dX1_freeByExchange_81 : decode cX1_freeByExchange 81 = .ok (.iinc 3 1, 3) := by decide +kernel
theorem dX1_freeByExchange_84 : decode cX1_freeByExchange 84 = .ok (.iinc 4 1, 3) := by decide +kernel
theorem dX1_freeByExchange_87 : decode cX1_freeByExchange 87 = .ok (.goto (-82), 3) := by decide +kernel
theorem dX1_freeByExchange_90 : decode cX1_freeByExchange 90 = .ok (.iload_n 3, 1) := by decide +kernel
theorem dX1_freeByExchange_91 : decode cX1_freeByExchange 91 = .ok (.ireturn, 1) := by decide +kernel
theorem wd_1166 : (Cond.code ⟨"WebCourt$Counsel", "freeByExchange", "(II)I"⟩ prog_3_method_11_code (6 : Nat) (Option.some FieldType.int)) ∈ gtb := gtb_c5 97 (by decide +kernel) rfl
set_option maxHeartbeats 4000000 in
set_option maxRecDepth 100000 in
theorem T_X1_freeByExchange (l : Launch) (D : va_G) (cy : Nat → ClassId) (a : Nat → Nat) (u : St) (hJ : CI a u) (x1 : Int32) (x2 : Int32) (hx_x1 : 0 ≤ x1.toInt ∧ x1.toInt ≤ 5) (hx_x2 : 0 ≤ x2.toInt ∧ x2.toInt ≤ 5) : Mi l D cy (cW cy a) yX1_freeByExchange (.code yX1_freeByExchange cX1_freeByExchange 6 (some .int)) (rmo 4 100) [.ref (a 36), .int x1, .int x2] u (fun (r : Int32) (u' : St) => (CI a u') ∧ (KT u u')) := by
  refine Mi.of (own := RX1) rfl (by decide) (Nat.le_of_ble_eq_true rfl) ?_
  have hT : KT u u := KT.rf
  intro p e s m below meth c A Q ls C hret hO hl
  obtain ⟨hx, hb, hml, hown, ht, hK, hA⟩ := id C
  have hl : lv_has ls 6 [(0, .ref (a 36)), (1, .int x1), (2, .int x2)] := hl
  refine lv_iconst (v := 0) hx hb dX1_freeByExchange_0 (by decide) ?_
  refine lv_istore_n (lv' := [(3, .int 0), (0, .ref (a 36)), (1, .int x1), (2, .int x2)]) hx hb dX1_freeByExchange_1 rfl hl (by decide) rfl (fun ls hl => ?_)
  refine lv_iconst (v := 0) hx hb dX1_freeByExchange_2 (by decide) ?_
  refine lv_istore (lv' := [(4, .int 0), (3, .int 0), (0, .ref (a 36)), (1, .int x1), (2, .int x2)]) hx hb dX1_freeByExchange_3 hl (by decide) rfl (fun ls hl => ?_)
  have LP_5_k2 : ∀ (n : Nat) (u1 : St) (H : Heap) (locs : List Loc) (ls : Array Slot) (i_k2 : Int32) (w3_k2 : Int32), Wo D A (cW cy a u1) s.heap H locs → lv_has ls 6 [(4, .int i_k2), (3, .int w3_k2), (0, .ref (a 36)), (1, .int x1), (2, .int x2)] → CI a u1 → KT u u1 → 0 ≤ i_k2.toInt ∧ i_k2.toInt ≤ 6 → 6 - i_k2.toInt < (n : Int) → W p l e (rmo 4 100) s m [.ref (a 36), .int x1, .int x2].toArray below meth c H locs 0 0 Q (F0 m 5 ls []) := by
    intro n
    induction n with
    | zero =>
      intro u1 H locs ls i_k2 w3_k2 hO hl hJ hT iv0_k2 hm_k2
      exact absurd hm_k2 (by omega)
    | succ n ih_k2 =>
      intro u1 H locs ls i_k2 w3_k2 hO hl hJ hT iv0_k2 hm_k2
      refine lv_iload hx hb dX1_freeByExchange_5 (lv_at hl 0 rfl) ?_
      refine lv_aload_n hx hb dX1_freeByExchange_7 rfl (lv_at hl 2 rfl) ?_
      refine gf_RX1_18 (v := .ref (a 28)) C hO 36 cW_36 rfl dX1_freeByExchange_8 ?_
      refine gf_RX1_34 (v := .ref (a 3)) C hO 28 cW_28 (congrArg (fun z : Nat => some (Value.ref z)) (CI_R0 hJ)) dX1_freeByExchange_11 ?_
      have g3 : 0 ≤ (fI u1 3 12).toInt ∧ (fI u1 3 12).toInt ≤ 6 := by have h := CI_3_12 hJ; exact h
      refine gf_RX1_44 (v := .int (fI u1 3 12)) C hO 3 cW_3 rfl dX1_freeByExchange_14 ?_
      refine cs_ge (tgt := 90) (X := (i_k2).toInt) (Y := ((fI u1 3 12)).toInt) hx hb dX1_freeByExchange_17 (by decide) rfl rfl (fun c4 => ?_) (fun c4 => ?_)
      · refine lv_iload_n hx hb dX1_freeByExchange_90 rfl (lv_at hl 1 rfl) ?_
        refine hret _ _ _ _ _ _ dX1_freeByExchange_91 rfl ?_ hO
        exact ⟨hJ, hT⟩
      · refine lv_iload hx hb dX1_freeByExchange_20 (lv_at hl 0 rfl) ?_
        refine lv_iload_n hx hb dX1_freeByExchange_22 rfl (lv_at hl 3 rfl) ?_
        refine cs_ne (tgt := 30) (X := (i_k2).toInt) (Y := (x1).toInt) hx hb dX1_freeByExchange_23 (by decide) rfl rfl (fun c5 => ?_) (fun c5 => ?_)
        · refine lv_iload hx hb dX1_freeByExchange_30 (lv_at hl 0 rfl) ?_
          refine lv_iload_n hx hb dX1_freeByExchange_32 rfl (lv_at hl 4 rfl) ?_
          refine cs_ne (tgt := 40) (X := (i_k2).toInt) (Y := (x2).toInt) hx hb dX1_freeByExchange_33 (by decide) rfl rfl (fun c6 => ?_) (fun c6 => ?_)
          · refine lv_iload hx hb dX1_freeByExchange_40 (lv_at hl 0 rfl) ?_
            refine lv_istore (lv' := [(5, .int i_k2), (4, .int i_k2), (3, .int w3_k2), (0, .ref (a 36)), (1, .int x1), (2, .int x2)]) hx hb dX1_freeByExchange_42 hl (by decide) rfl (fun ls hl => ?_)
            refine lv_aload_n hx hb dX1_freeByExchange_44 rfl (lv_at hl 3 rfl) ?_
            refine gf_RX1_18 (v := .ref (a 28)) C hO 36 cW_36 rfl dX1_freeByExchange_45 ?_
            refine lv_iload hx hb dX1_freeByExchange_48 (lv_at hl 1 rfl) ?_
            refine cVi (w := cW cy a) (As := [.int i_k2]) (rest := []) C hO (T_X2_isHeld l D cy a _ (by exact hJ) (i_k2)) (cwV 1 ht (gV wd_1091 wd_930 wd_931 wd_115 wd_932) rfl rfl rfl hd_yX2_isHeld ⟨Nat.le_of_ble_eq_true rfl, Nat.le_of_ble_eq_true rfl⟩) 28 rfl cW_28 rfl rfl hl.1 (Nat.le_of_ble_eq_true rfl) dX1_freeByExchange_50 rfl ⟨Nat.zero_le _, Nat.zero_le _⟩ (fun r7 u8 H locs hp9 hO => ?_)
            obtain ⟨hr7, hu8⟩ := hp9
            rw [hu8] at hO
            rcases hr7 with ⟨hcr7, hvr7⟩ | ⟨hcr7, hvr7⟩
            · subst hvr7
              refine bn_eq (X := 1) hx hb dX1_freeByExchange_53 rfl (by omega) ?_ (tgt := 84) (by decide)
              refine lv_aload_n hx hb dX1_freeByExchange_56 rfl (lv_at hl 3 rfl) ?_
              refine gf_RX1_18 (v := .ref (a 28)) C hO 36 cW_36 rfl dX1_freeByExchange_57 ?_
              refine lv_iload hx hb dX1_freeByExchange_60 (lv_at hl 1 rfl) ?_
              refine lv_aload_n hx hb dX1_freeByExchange_62 rfl (lv_at hl 3 rfl) ?_
              refine gf_RX1_18 (v := .ref (a 28)) C hO 36 cW_36 rfl dX1_freeByExchange_63 ?_
              refine gf_RX1_54 (v := .ref (a 29)) C hO 28 cW_28 rfl dX1_freeByExchange_66 ?_
              refine lv_bipush (v := 11) hx hb dX1_freeByExchange_69 (by decide) ?_
              refine lv_iload hx hb dX1_freeByExchange_71 (lv_at hl 0 rfl) ?_
              have e10 : ((11 + i_k2)).toInt = 11 + (i_k2).toInt := i_add rfl rfl (by omega)
              refine lv_iadd hx hb dX1_freeByExchange_73 ?_
              refine aI C hO 29 cW_29 (i_in (X := (11 + (i_k2).toInt)) e10 (by omega) (by omega)) dX1_freeByExchange_74 ?_
              refine lv_topi (fun w11 ew11 => ?_)
              refine cVi (w := cW cy a) (As := [.int i_k2, .int w11]) (rest := []) C hO (T_X2_judged l D cy a _ (by exact hJ) (i_k2) (w11) (by first | omega | decide)) (cwV 2 ht (gV wd_996 wd_997 wd_998 wd_115 wd_999) rfl rfl rfl hd_yX2_judged ⟨Nat.le_of_ble_eq_true rfl, Nat.le_of_ble_eq_true rfl⟩) 28 rfl cW_28 rfl rfl hl.1 (Nat.le_of_ble_eq_true rfl) dX1_freeByExchange_75 rfl ⟨Nat.zero_le _, Nat.zero_le _⟩ (fun r12 u13 H locs hp14 hO => ?_)
              obtain ⟨hJ, hTu13⟩ := hp14
              have hT : KT u u13 := KT.tr (by exact hT) hTu13
              refine bs_le (tgt := 84) (X := (r12).toInt) hx hb dX1_freeByExchange_78 (by decide) rfl (fun c15 => ?_) (fun c15 => ?_)
              · have e16 : ((i_k2 + 1)).toInt = (i_k2).toInt + 1 := i_add rfl rfl (by omega)
                refine lv_iinc (v := (i_k2 + 1)) (lv' := [(4, .int (i_k2 + 1)), (5, .int i_k2), (3, .int w3_k2), (0, .ref (a 36)), (1, .int x1), (2, .int x2)]) hx hb dX1_freeByExchange_84 hl (k := 1) rfl rfl (by decide) rfl (fun ls hl => ?_)
                refine lv_goto (tgt := 5) hx hb dX1_freeByExchange_87 (by decide) ?_
                exact ih_k2 _ _ _ _ ((i_k2 + 1)) (w3_k2) hO (lv_sub hl [0, 2, 3, 4, 5] rfl) (by exact hJ) (by exact hT) (by first | decide | omega) (by first | decide | omega)
              · refine lv_iinc (v := (w3_k2 + 1)) (lv' := [(3, .int (w3_k2 + 1)), (5, .int i_k2), (4, .int i_k2), (0, .ref (a 36)), (1, .int x1), (2, .int x2)]) hx hb dX1_freeByExchange_81 hl (k := 2) rfl rfl (by decide) rfl (fun ls hl => ?_)
                have e17 : ((i_k2 + 1)).toInt = (i_k2).toInt + 1 := i_add rfl rfl (by omega)
                refine lv_iinc (v := (i_k2 + 1)) (lv' := [(4, .int (i_k2 + 1)), (3, .int (w3_k2 + 1)), (5, .int i_k2), (0, .ref (a 36)), (1, .int x1), (2, .int x2)]) hx hb dX1_freeByExchange_84 hl (k := 2) rfl rfl (by decide) rfl (fun ls hl => ?_)
                refine lv_goto (tgt := 5) hx hb dX1_freeByExchange_87 (by decide) ?_
                exact ih_k2 _ _ _ _ ((i_k2 + 1)) ((w3_k2 + 1)) hO (lv_sub hl [0, 1, 3, 4, 5] rfl) (by exact hJ) (by exact hT) (by first | decide | omega) (by first | decide | omega)
            · subst hvr7
              refine bt_eq (tgt := 84) (X := 0) hx hb dX1_freeByExchange_53 (by decide) rfl (by omega) ?_
              have e18 : ((i_k2 + 1)).toInt = (i_k2).toInt + 1 := i_add rfl rfl (by omega)
              refine lv_iinc (v := (i_k2 + 1)) (lv' := [(4, .int (i_k2 + 1)), (5, .int i_k2), (3, .int w3_k2), (0, .ref (a 36)), (1, .int x1), (2, .int x2)]) hx hb dX1_freeByExchange_84 hl (k := 1) rfl rfl (by decide) rfl (fun ls hl => ?_)
              refine lv_goto (tgt := 5) hx hb dX1_freeByExchange_87 (by decide) ?_
              exact ih_k2 _ _ _ _ ((i_k2 + 1)) (w3_k2) hO (lv_sub hl [0, 2, 3, 4, 5] rfl) (by exact hJ) (by exact hT) (by first | decide | omega) (by first | decide | omega)
          · refine lv_iload_n hx hb dX1_freeByExchange_36 rfl (lv_at hl 3 rfl) ?_
            refine lv_goto (tgt := 42) hx hb dX1_freeByExchange_37 (by decide) ?_
            refine lv_istore (lv' := [(5, .int x1), (4, .int i_k2), (3, .int w3_k2), (0, .ref (a 36)), (1, .int x1), (2, .int x2)]) hx hb dX1_freeByExchange_42 hl (by decide) rfl (fun ls hl => ?_)
            refine lv_aload_n hx hb dX1_freeByExchange_44 rfl (lv_at hl 3 rfl) ?_
            refine gf_RX1_18 (v := .ref (a 28)) C hO 36 cW_36 rfl dX1_freeByExchange_45 ?_
            refine lv_iload hx hb dX1_freeByExchange_48 (lv_at hl 1 rfl) ?_
            refine cVi (w := cW cy a) (As := [.int i_k2]) (rest := []) C hO (T_X2_isHeld l D cy a _ (by exact hJ) (i_k2)) (cwV 1 ht (gV wd_1091 wd_930 wd_931 wd_115 wd_932) rfl rfl rfl hd_yX2_isHeld ⟨Nat.le_of_ble_eq_true rfl, Nat.le_of_ble_eq_true rfl⟩) 28 rfl cW_28 rfl rfl hl.1 (Nat.le_of_ble_eq_true rfl) dX1_freeByExchange_50 rfl ⟨Nat.zero_le _, Nat.zero_le _⟩ (fun r19 u20 H locs hp21 hO => ?_)
            obtain ⟨hr19, hu20⟩ := hp21
            rw [hu20] at hO
            rcases hr19 with ⟨hcr19, hvr19⟩ | ⟨hcr19, hvr19⟩
            · subst hvr19
              refine bn_eq (X := 1) hx hb dX1_freeByExchange_53 rfl (by omega) ?_ (tgt := 84) (by decide)
              refine lv_aload_n hx hb dX1_freeByExchange_56 rfl (lv_at hl 3 rfl) ?_
              refine gf_RX1_18 (v := .ref (a 28)) C hO 36 cW_36 rfl dX1_freeByExchange_57 ?_
              refine lv_iload hx hb dX1_freeByExchange_60 (lv_at hl 1 rfl) ?_
              refine lv_aload_n hx hb dX1_freeByExchange_62 rfl (lv_at hl 3 rfl) ?_
              refine gf_RX1_18 (v := .ref (a 28)) C hO 36 cW_36 rfl dX1_freeByExchange_63 ?_
              refine gf_RX1_54 (v := .ref (a 29)) C hO 28 cW_28 rfl dX1_freeByExchange_66 ?_
              refine lv_bipush (v := 11) hx hb dX1_freeByExchange_69 (by decide) ?_
              refine lv_iload hx hb dX1_freeByExchange_71 (lv_at hl 0 rfl) ?_
              have e22 : ((11 + x1)).toInt = 11 + (x1).toInt := i_add rfl rfl (by omega)
              refine lv_iadd hx hb dX1_freeByExchange_73 ?_
              refine aI C hO 29 cW_29 (i_in (X := (11 + (x1).toInt)) e22 (by omega) (by omega)) dX1_freeByExchange_74 ?_
              refine lv_topi (fun w23 ew23 => ?_)
              refine cVi (w := cW cy a) (As := [.int i_k2, .int w23]) (rest := []) C hO (T_X2_judged l D cy a _ (by exact hJ) (i_k2) (w23) (by first | omega | decide)) (cwV 2 ht (gV wd_996 wd_997 wd_998 wd_115 wd_999) rfl rfl rfl hd_yX2_judged ⟨Nat.le_of_ble_eq_true rfl, Nat.le_of_ble_eq_true rfl⟩) 28 rfl cW_28 rfl rfl hl.1 (Nat.le_of_ble_eq_true rfl) dX1_freeByExchange_75 rfl ⟨Nat.zero_le _, Nat.zero_le _⟩ (fun r24 u25 H locs hp26 hO => ?_)
              obtain ⟨hJ, hTu25⟩ := hp26
              have hT : KT u u25 := KT.tr (by exact hT) hTu25
              refine bs_le (tgt := 84) (X := (r24).toInt) hx hb dX1_freeByExchange_78 (by decide) rfl (fun c27 => ?_) (fun c27 => ?_)
              · have e28 : ((i_k2 + 1)).toInt = (i_k2).toInt + 1 := i_add rfl rfl (by omega)
                refine lv_iinc (v := (i_k2 + 1)) (lv' := [(4, .int (i_k2 + 1)), (5, .int x1), (3, .int w3_k2), (0, .ref (a 36)), (1, .int x1), (2, .int x2)]) hx hb dX1_freeByExchange_84 hl (k := 1) rfl rfl (by decide) rfl (fun ls hl => ?_)
                refine lv_goto (tgt := 5) hx hb dX1_freeByExchange_87 (by decide) ?_
                exact ih_k2 _ _ _ _ ((i_k2 + 1)) (w3_k2) hO (lv_sub hl [0, 2, 3, 4, 5] rfl) (by exact hJ) (by exact hT) (by first | decide | omega) (by first | decide | omega)
              · refine lv_iinc (v := (w3_k2 + 1)) (lv' := [(3, .int (w3_k2 + 1)), (5, .int x1), (4, .int i_k2), (0, .ref (a 36)), (1, .int x1), (2, .int x2)]) hx hb dX1_freeByExchange_81 hl (k := 2) rfl rfl (by decide) rfl (fun ls hl => ?_)
                have e29 : ((i_k2 + 1)).toInt = (i_k2).toInt + 1 := i_add rfl rfl (by omega)
                refine lv_iinc (v := (i_k2 + 1)) (lv' := [(4, .int (i_k2 + 1)), (3, .int (w3_k2 + 1)), (5, .int x1), (0, .ref (a 36)), (1, .int x1), (2, .int x2)]) hx hb dX1_freeByExchange_84 hl (k := 2) rfl rfl (by decide) rfl (fun ls hl => ?_)
                refine lv_goto (tgt := 5) hx hb dX1_freeByExchange_87 (by decide) ?_
                exact ih_k2 _ _ _ _ ((i_k2 + 1)) ((w3_k2 + 1)) hO (lv_sub hl [0, 1, 3, 4, 5] rfl) (by exact hJ) (by exact hT) (by first | decide | omega) (by first | decide | omega)
            · subst hvr19
              refine bt_eq (tgt := 84) (X := 0) hx hb dX1_freeByExchange_53 (by decide) rfl (by omega) ?_
              have e30 : ((i_k2 + 1)).toInt = (i_k2).toInt + 1 := i_add rfl rfl (by omega)
              refine lv_iinc (v := (i_k2 + 1)) (lv' := [(4, .int (i_k2 + 1)), (5, .int x1), (3, .int w3_k2), (0, .ref (a 36)), (1, .int x1), (2, .int x2)]) hx hb dX1_freeByExchange_84 hl (k := 1) rfl rfl (by decide) rfl (fun ls hl => ?_)
              refine lv_goto (tgt := 5) hx hb dX1_freeByExchange_87 (by decide) ?_
              exact ih_k2 _ _ _ _ ((i_k2 + 1)) (w3_k2) hO (lv_sub hl [0, 2, 3, 4, 5] rfl) (by exact hJ) (by exact hT) (by first | decide | omega) (by first | decide | omega)
        · refine lv_iload_n hx hb dX1_freeByExchange_26 rfl (lv_at hl 4 rfl) ?_
          refine lv_goto (tgt := 42) hx hb dX1_freeByExchange_27 (by decide) ?_
          refine lv_istore (lv' := [(5, .int x2), (4, .int i_k2), (3, .int w3_k2), (0, .ref (a 36)), (1, .int x1), (2, .int x2)]) hx hb dX1_freeByExchange_42 hl (by decide) rfl (fun ls hl => ?_)
          refine lv_aload_n hx hb dX1_freeByExchange_44 rfl (lv_at hl 3 rfl) ?_
          refine gf_RX1_18 (v := .ref (a 28)) C hO 36 cW_36 rfl dX1_freeByExchange_45 ?_
          refine lv_iload hx hb dX1_freeByExchange_48 (lv_at hl 1 rfl) ?_
          refine cVi (w := cW cy a) (As := [.int i_k2]) (rest := []) C hO (T_X2_isHeld l D cy a _ (by exact hJ) (i_k2)) (cwV 1 ht (gV wd_1091 wd_930 wd_931 wd_115 wd_932) rfl rfl rfl hd_yX2_isHeld ⟨Nat.le_of_ble_eq_true rfl, Nat.le_of_ble_eq_true rfl⟩) 28 rfl cW_28 rfl rfl hl.1 (Nat.le_of_ble_eq_true rfl) dX1_freeByExchange_50 rfl ⟨Nat.zero_le _, Nat.zero_le _⟩ (fun r31 u32 H locs hp33 hO => ?_)
          obtain ⟨hr31, hu32⟩ := hp33
          rw [hu32] at hO
          rcases hr31 with ⟨hcr31, hvr31⟩ | ⟨hcr31, hvr31⟩
          · subst hvr31
            refine bn_eq (X := 1) hx hb dX1_freeByExchange_53 rfl (by omega) ?_ (tgt := 84) (by decide)
            refine lv_aload_n hx hb dX1_freeByExchange_56 rfl (lv_at hl 3 rfl) ?_
            refine gf_RX1_18 (v := .ref (a 28)) C hO 36 cW_36 rfl dX1_freeByExchange_57 ?_
            refine lv_iload hx hb dX1_freeByExchange_60 (lv_at hl 1 rfl) ?_
            refine lv_aload_n hx hb dX1_freeByExchange_62 rfl (lv_at hl 3 rfl) ?_
            refine gf_RX1_18 (v := .ref (a 28)) C hO 36 cW_36 rfl dX1_freeByExchange_63 ?_
            refine gf_RX1_54 (v := .ref (a 29)) C hO 28 cW_28 rfl dX1_freeByExchange_66 ?_
            refine lv_bipush (v := 11) hx hb dX1_freeByExchange_69 (by decide) ?_
            refine lv_iload hx hb dX1_freeByExchange_71 (lv_at hl 0 rfl) ?_
            have e34 : ((11 + x2)).toInt = 11 + (x2).toInt := i_add rfl rfl (by omega)
            refine lv_iadd hx hb dX1_freeByExchange_73 ?_
            refine aI C hO 29 cW_29 (i_in (X := (11 + (x2).toInt)) e34 (by omega) (by omega)) dX1_freeByExchange_74 ?_
            refine lv_topi (fun w35 ew35 => ?_)
            refine cVi (w := cW cy a) (As := [.int i_k2, .int w35]) (rest := []) C hO (T_X2_judged l D cy a _ (by exact hJ) (i_k2) (w35) (by first | omega | decide)) (cwV 2 ht (gV wd_996 wd_997 wd_998 wd_115 wd_999) rfl rfl rfl hd_yX2_judged ⟨Nat.le_of_ble_eq_true rfl, Nat.le_of_ble_eq_true rfl⟩) 28 rfl cW_28 rfl rfl hl.1 (Nat.le_of_ble_eq_true rfl) dX1_freeByExchange_75 rfl ⟨Nat.zero_le _, Nat.zero_le _⟩ (fun r36 u37 H locs hp38 hO => ?_)
            obtain ⟨hJ, hTu37⟩ := hp38
            have hT : KT u u37 := KT.tr (by exact hT) hTu37
            refine bs_le (tgt := 84) (X := (r36).toInt) hx hb dX1_freeByExchange_78 (by decide) rfl (fun c39 => ?_) (fun c39 => ?_)
            · have e40 : ((i_k2 + 1)).toInt = (i_k2).toInt + 1 := i_add rfl rfl (by omega)
              refine lv_iinc (v := (i_k2 + 1)) (lv' := [(4, .int (i_k2 + 1)), (5, .int x2), (3, .int w3_k2), (0, .ref (a 36)), (1, .int x1), (2, .int x2)]) hx hb dX1_freeByExchange_84 hl (k := 1) rfl rfl (by decide) rfl (fun ls hl => ?_)
              refine lv_goto (tgt := 5) hx hb dX1_freeByExchange_87 (by decide) ?_
              exact ih_k2 _ _ _ _ ((i_k2 + 1)) (w3_k2) hO (lv_sub hl [0, 2, 3, 4, 5] rfl) (by exact hJ) (by exact hT) (by first | decide | omega) (by first | decide | omega)
            · refine lv_iinc (v := (w3_k2 + 1)) (lv' := [(3, .int (w3_k2 + 1)), (5, .int x2), (4, .int i_k2), (0, .ref (a 36)), (1, .int x1), (2, .int x2)]) hx hb dX1_freeByExchange_81 hl (k := 2) rfl rfl (by decide) rfl (fun ls hl => ?_)
              have e41 : ((i_k2 + 1)).toInt = (i_k2).toInt + 1 := i_add rfl rfl (by omega)
              refine lv_iinc (v := (i_k2 + 1)) (lv' := [(4, .int (i_k2 + 1)), (3, .int (w3_k2 + 1)), (5, .int x2), (0, .ref (a 36)), (1, .int x1), (2, .int x2)]) hx hb dX1_freeByExchange_84 hl (k := 2) rfl rfl (by decide) rfl (fun ls hl => ?_)
              refine lv_goto (tgt := 5) hx hb dX1_freeByExchange_87 (by decide) ?_
              exact ih_k2 _ _ _ _ ((i_k2 + 1)) ((w3_k2 + 1)) hO (lv_sub hl [0, 1, 3, 4, 5] rfl) (by exact hJ) (by exact hT) (by first | decide | omega) (by first | decide | omega)
          · subst hvr31
            refine bt_eq (tgt := 84) (X := 0) hx hb dX1_freeByExchange_53 (by decide) rfl (by omega) ?_
            have e42 : ((i_k2 + 1)).toInt = (i_k2).toInt + 1 := i_add rfl rfl (by omega)
            refine lv_iinc (v := (i_k2 + 1)) (lv' := [(4, .int (i_k2 + 1)), (5, .int x2), (3, .int w3_k2), (0, .ref (a 36)), (1, .int x1), (2, .int x2)]) hx hb dX1_freeByExchange_84 hl (k := 1) rfl rfl (by decide) rfl (fun ls hl => ?_)
            refine lv_goto (tgt := 5) hx hb dX1_freeByExchange_87 (by decide) ?_
            exact ih_k2 _ _ _ _ ((i_k2 + 1)) (w3_k2) hO (lv_sub hl [0, 2, 3, 4, 5] rfl) (by exact hJ) (by exact hT) (by first | decide | omega) (by first | decide | omega)
  exact LP_5_k2 4000 _ _ _ _ (0) (0) hO (lv_sub hl [0, 1, 2, 3, 4] rfl) (by exact hJ) (by exact hT) (by first | decide | omega) (by first | decide | omega)
theorem dX1_bestExchange_0 : decode cX1_bestExchange 0 = .ok (.iconst (-1), 1) := by decide +kernel
theorem dX1_bestExchange_1 : decode cX1_bestExchange 1 = .ok (.istore_n 1, 1) := by decide +kernel
theorem dX1_bestExchange_2 : decode cX1_bestExchange 2 = .ok (.aload_n 0, 1) := by decide +kernel
theorem dX1_bestExchange_3 : decode cX1_bestExchange 3 = .ok (.iconst 0, 1) := by decide +kernel
theorem dX1_bestExchange_4 : decode cX1_bestExchange 4 = .ok (.iconst 0, 1) := by decide +kernel
theorem dX1_bestExchange_5 : decode cX1_bestExchange 5 = .ok (.invokevirtual 82, 3) := by decide +kernel
theorem dX1_bestExchange_8 : decode cX1_bestExchange 8 = .ok (.istore_n 2, 1) := by decide +kernel
theorem dX1_bestExchange_9 : decode cX1_bestExchange 9 = .ok (.iconst 0, 1) := by decide +kernel
theorem dX1_bestExchange_10 : decode cX1_bestExchange 10 = .ok (.istore_n 3, 1) := by decide +kernel
theorem dX1_bestExchange_11 : decode cX1_bestExchange 11 = .ok (.iload_n 3, 1) := by decide +kernel
theorem dX1_bestExchange_12 : decode cX1_bestExchange 12 = .ok (.aload_n 0, 1) := by decide +kernel
theorem dX1_bestExchange_13 : decode cX1_bestExchange 13 = .ok (.getfield 18, 3) := by decide +kernel
theorem dX1_bestExchange_16 : decode cX1_bestExchange 16 = .ok (.getfield 34, 3) := by decide +kernel
theorem dX1_bestExchange_19 : decode cX1_bestExchange 19 = .ok (.getfield 44, 3) := by decide +kernel
theorem dX1_bestExchange_22 : decode cX1_bestExchange 22 = .ok (.if_icmp .ge 88, 3) := by decide +kernel
theorem dX1_bestExchange_25 : decode cX1_bestExchange 25 = .ok (.iload_n 3, 1) := by decide +kernel
theorem dX1_bestExchange_26 : decode cX1_bestExchange 26 = .ok (.iconst 1, 1) := by decide +kernel
theorem dX1_bestExchange_27 : decode cX1_bestExchange 27 = .ok (.iadd, 1) := by decide +kernel
theorem dX1_bestExchange_28 : decode cX1_bestExchange 28 = .ok (.istore 4, 2) := by decide +kernel
theorem dX1_bestExchange_30 : decode cX1_bestExchange 30 = .ok (.iload 4, 2) := by decide +kernel
theorem dX1_bestExchange_32 : decode cX1_bestExchange 32 = .ok (.aload_n 0, 1) := by decide +kernel
theorem dX1_bestExchange_33 : decode cX1_bestExchange 33 = .ok (.getfield 18, 3) := by decide +kernel
theorem dX1_bestExchange_36 : decode cX1_bestExchange 36 = .ok (.getfield 34, 3) := by decide +kernel
theorem dX1_bestExchange_39 : decode cX1_bestExchange 39 = .ok (.getfield 44, 3) := by decide +kernel
theorem dX1_bestExchange_42 : decode cX1_bestExchange 42 = .ok (.if_icmp .ge 62, 3) := by decide +kernel
theorem dX1_bestExchange_45 : decode cX1_bestExchange 45 = .ok (.aload_n 0, 1) := by decide +kernel
theorem dX1_bestExchange_46 : decode cX1_bestExchange 46 = .ok (.getfield 18, 3) := by decide +kernel
theorem dX1_bestExchange_49 : decode cX1_bestExchange 49 = .ok (.iload_n 3, 1) := by decide +kernel
theorem dX1_bestExchange_50 : decode cX1_bestExchange 50 = .ok (.invokevirtual 47, 3) := by decide +kernel
theorem dX1_bestExchange_53 : decode cX1_bestExchange 53 = .ok (.ifCond .eq 25, 3) := by decide +kernel
theorem dX1_bestExchange_56 : decode cX1_bestExchange 56 = .ok (.aload_n 0, 1) := by decide +kernel
theorem dX1_bestExchange_57 : decode cX1_bestExchange 57 = .ok (.getfield 18, 3) := by decide +kernel
theorem dX1_bestExchange_60 : decode cX1_bestExchange 60 = .ok (.iload 4, 2) := by decide +kernel
theorem dX1_bestExchange_62 : decode cX1_bestExchange 62 = .ok (.invokevirtual 47, 3) := by decide +kernel
theorem dX1_bestExchange_65 : decode cX1_bestExchange 65 = .ok (.ifCond .eq 13, 3) := by decide +kernel
theorem dX1_bestExchange_68 : decode cX1_bestExchange 68 = .ok (.aload_n 0, 1) := by decide +kernel
theorem dX1_bestExchange_69 : decode cX1_bestExchange 69 = .ok (.iload_n 3, 1) := by decide +kernel
theorem dX1_bestExchange_70 : decode cX1_bestExchange 70 = .ok (.iload 4, 2) := by decide +kernel
theorem dX1_bestExchange_72 : decode cX1_bestExchange 72 = .ok (.invokevirtual 82, 3) := by decide +kernel
theorem dX1_bestExchange_75 : decode cX1_bestExchange 75 = .ok (.goto 4, 3) := by decide +kernel
theorem dX1_bestExchange_78 : decode cX1_bestExchange 78 = .ok (.iconst 0, 1) := by decide +kernel
theorem dX1_bestExchange_79 : decode cX1_bestExchange 79 = .ok (.istore 5, 2) := by decide +kernel
theorem dX1_bestExchange_81 : decode cX1_bestExchange 81 = .ok (.iload 5, 2) := by decide +kernel
theorem dX1_bestExchange_83 : decode cX1_bestExchange 83 = .ok (.iload_n 2, 1) := by decide +kernel
theorem dX1_bestExchange_84 : decode cX1_bestExchange 84 = .ok (.if_icmp .le 14, 3) := by decide +kernel
theorem dX1_bestExchange_87 : decode cX1_bestExchange 87 = .ok (.iload 5, 2) := by decide +kernel
theorem dX1_bestExchange_89 : decode cX1_bestExchange 89 = .ok (.istore_n 2, 1) := by decide +kernel
theorem dX1_bestExchange_90 : decode cX1_bestExchange 90 = .ok (.iload_n 3, 1) := by decide +kernel
theorem dX1_bestExchange_91 : decode cX1_bestExchange 91 = .ok (.bipush 6, 2) := by decide +kernel
theorem dX1_bestExchange_93 : decode cX1_bestExchange 93 = .ok (.imul, 1) := by decide +kernel
theorem dX1_bestExchange_94 : decode cX1_bestExchange 94 = .ok (.iload 4, 2) := by decide +kernel
theorem dX1_bestExchange_96 : decode cX1_bestExchange 96 = .ok (.iadd, 1) := by decide +kernel
theorem dX1_bestExchange_97 : decode cX1_bestExchange 97 = .ok (.istore_n 1, 1) := by decide +kernel
theorem dX1_bestExchange_98 : decode cX1_bestExchange 98 = .ok (.iinc 4 1, 3) := by decide +kernel
theorem dX1_bestExchange_101 : decode cX1_bestExchange 101 = .ok (.goto (-71), 3) := by decide +kernel
theorem dX1_bestExchange_104 : decode cX1_bestExchange 104 = .ok (.iinc 3 1, 3) := by decide +kernel
theorem dX1_bestExchange_107 : decode cX1_bestExchange 107 = .ok (.goto (-96), 3) := by decide +kernel
theorem dX1_bestExchange_110 : decode cX1_bestExchange 110 = .ok (.iload_n 1, 1) := by decide +kernel
theorem dX1_bestExchange_111 : decode cX1_bestExchange 111 = .ok (.ireturn, 1) := by decide +kernel
theorem wd_1162 : (Cond.code ⟨"WebCourt$Counsel", "bestExchange", "()I"⟩ prog_3_method_12_code (6 : Nat) (Option.some FieldType.int)) ∈ gtb := gtb_c5 93 (by decide +kernel) rfl
theorem wd_1163 : (Cond.methodLink "WebCourt$Counsel" (82 : Nat) ⟨"WebCourt$Counsel", "freeByExchange", "(II)I"⟩) ∈ gtb := gtb_c5 94 (by decide +kernel) rfl
theorem wd_1164 : (Cond.instanceMethod ⟨"WebCourt$Counsel", "freeByExchange", "(II)I"⟩) ∈ gtb := gtb_c5 95 (by decide +kernel) rfl
theorem wd_1165 : (Cond.selects "WebCourt$Counsel" ⟨"WebCourt$Counsel", "freeByExchange", "(II)I"⟩ ⟨"WebCourt$Counsel", "freeByExchange", "(II)I"⟩) ∈ gtb := gtb_c5 96 (by decide +kernel) rfl
theorem hd_yX1_freeByExchange : yX1_freeByExchange.cls = RX1 ∧ yX1_freeByExchange.cls ≠ "java/lang/invoke/MethodHandle" ∧ yX1_freeByExchange.cls ≠ "java/lang/invoke/VarHandle" ∧ (parseMethodDescriptor yX1_freeByExchange.desc).map (fun d => d.parameters.length) = some 2 := by decide +kernel
set_option maxHeartbeats 4000000 in
set_option maxRecDepth 100000 in
theorem T_X1_bestExchange (l : Launch) (D : va_G) (cy : Nat → ClassId) (a : Nat → Nat) (u : St) (hJ : CI a u)   : Mi l D cy (cW cy a) yX1_bestExchange (.code yX1_bestExchange cX1_bestExchange 6 (some .int)) (rmo 5 125) [.ref (a 36)] u (fun (r : Int32) (u' : St) => ((-1) ≤ r.toInt ∧ r.toInt ≤ 35) ∧ (CI a u') ∧ (KT u u')) := by
  refine Mi.of (own := RX1) rfl (by decide) (Nat.le_of_ble_eq_true rfl) ?_
  have hT : KT u u := KT.rf
  intro p e s m below meth c A Q ls C hret hO hl
  obtain ⟨hx, hb, hml, hown, ht, hK, hA⟩ := id C
  have hl : lv_has ls 6 [(0, .ref (a 36))] := hl
  refine lv_iconst (v := (-1)) hx hb dX1_bestExchange_0 (by decide) ?_
  refine lv_istore_n (lv' := [(1, .int (-1)), (0, .ref (a 36))]) hx hb dX1_bestExchange_1 rfl hl (by decide) rfl (fun ls hl => ?_)
  refine lv_aload_n hx hb dX1_bestExchange_2 rfl (lv_at hl 1 rfl) ?_
  refine lv_iconst (v := 0) hx hb dX1_bestExchange_3 (by decide) ?_
  refine lv_iconst (v := 0) hx hb dX1_bestExchange_4 (by decide) ?_
  refine cVi (w := cW cy a) (As := [.int 0, .int 0]) (rest := []) C hO (T_X1_freeByExchange l D cy a _ (by exact hJ) (0) (0) (by first | omega | decide) (by first | omega | decide)) (cwV 2 ht (gV wd_1163 wd_1164 wd_1165 wd_119 wd_1166) rfl rfl rfl hd_yX1_freeByExchange ⟨Nat.le_of_ble_eq_true rfl, Nat.le_of_ble_eq_true rfl⟩) 36 rfl cW_36 rfl rfl hl.1 (Nat.le_of_ble_eq_true rfl) dX1_bestExchange_5 rfl ⟨Nat.zero_le _, Nat.zero_le _⟩ (fun r1 u2 H locs hp3 hO => ?_)
  obtain ⟨hJ, hTu2⟩ := hp3
  have hT : KT u u2 := KT.tr (by exact hT) hTu2
  refine lv_istore_n (lv' := [(2, .int r1), (1, .int (-1)), (0, .ref (a 36))]) hx hb dX1_bestExchange_8 rfl hl (by decide) rfl (fun ls hl => ?_)
  refine lv_iconst (v := 0) hx hb dX1_bestExchange_9 (by decide) ?_
  refine lv_istore_n (lv' := [(3, .int 0), (2, .int r1), (1, .int (-1)), (0, .ref (a 36))]) hx hb dX1_bestExchange_10 rfl hl (by decide) rfl (fun ls hl => ?_)
  have LP_11_k5 : ∀ (n : Nat) (u4 : St) (H : Heap) (locs : List Loc) (ls : Array Slot) (i_k5 : Int32) (w2_k5 : Int32) (w1_k5 : Int32), Wo D A (cW cy a u4) s.heap H locs → lv_has ls 6 [(3, .int i_k5), (2, .int w2_k5), (1, .int w1_k5), (0, .ref (a 36))] → CI a u4 → KT u u4 → 0 ≤ i_k5.toInt ∧ i_k5.toInt ≤ 6 → (-1) ≤ w1_k5.toInt ∧ w1_k5.toInt ≤ 35 → 6 - i_k5.toInt < (n : Int) → W p l e (rmo 5 125) s m [.ref (a 36)].toArray below meth c H locs 0 0 Q (F0 m 11 ls []) := by
    intro n
    induction n with
    | zero =>
      intro u4 H locs ls i_k5 w2_k5 w1_k5 hO hl hJ hT iv0_k5 iv1_k5 hm_k5
      exact absurd hm_k5 (by omega)
    | succ n ih_k5 =>
      intro u4 H locs ls i_k5 w2_k5 w1_k5 hO hl hJ hT iv0_k5 iv1_k5 hm_k5
      refine lv_iload_n hx hb dX1_bestExchange_11 rfl (lv_at hl 0 rfl) ?_
      refine lv_aload_n hx hb dX1_bestExchange_12 rfl (lv_at hl 3 rfl) ?_
      refine gf_RX1_18 (v := .ref (a 28)) C hO 36 cW_36 rfl dX1_bestExchange_13 ?_
      refine gf_RX1_34 (v := .ref (a 3)) C hO 28 cW_28 (congrArg (fun z : Nat => some (Value.ref z)) (CI_R0 hJ)) dX1_bestExchange_16 ?_
      have g6 : 0 ≤ (fI u4 3 12).toInt ∧ (fI u4 3 12).toInt ≤ 6 := by have h := CI_3_12 hJ; exact h
      refine gf_RX1_44 (v := .int (fI u4 3 12)) C hO 3 cW_3 rfl dX1_bestExchange_19 ?_
      refine cs_ge (tgt := 110) (X := (i_k5).toInt) (Y := ((fI u4 3 12)).toInt) hx hb dX1_bestExchange_22 (by decide) rfl rfl (fun c7 => ?_) (fun c7 => ?_)
      · refine lv_iload_n hx hb dX1_bestExchange_110 rfl (lv_at hl 2 rfl) ?_
        refine hret _ _ _ _ _ _ dX1_bestExchange_111 rfl ?_ hO
        exact ⟨(by first | decide | omega), hJ, hT⟩
      · refine lv_iload_n hx hb dX1_bestExchange_25 rfl (lv_at hl 0 rfl) ?_
        refine lv_iconst (v := 1) hx hb dX1_bestExchange_26 (by decide) ?_
        have e8 : ((i_k5 + 1)).toInt = (i_k5).toInt + 1 := i_add rfl rfl (by omega)
        refine lv_iadd hx hb dX1_bestExchange_27 ?_
        refine lv_istore (lv' := [(4, .int (i_k5 + 1)), (3, .int i_k5), (2, .int w2_k5), (1, .int w1_k5), (0, .ref (a 36))]) hx hb dX1_bestExchange_28 hl (by decide) rfl (fun ls hl => ?_)
        have LP_30_k10 : ∀ (n : Nat) (u9 : St) (H : Heap) (locs : List Loc) (ls : Array Slot) (i_k10 : Int32) (w2_k10 : Int32) (w1_k10 : Int32), Wo D A (cW cy a u9) s.heap H locs → lv_has ls 6 [(4, .int i_k10), (3, .int i_k5), (2, .int w2_k10), (1, .int w1_k10), (0, .ref (a 36))] → CI a u9 → KT u u9 → 1 ≤ i_k10.toInt ∧ i_k10.toInt ≤ 6 → (-1) ≤ w1_k10.toInt ∧ w1_k10.toInt ≤ 35 → 6 - i_k10.toInt < (n : Int) → W p l e (rmo 5 125) s m [.ref (a 36)].toArray below meth c H locs 0 0 Q (F0 m 30 ls []) := by
          intro n
          induction n with
          | zero =>
            intro u9 H locs ls i_k10 w2_k10 w1_k10 hO hl hJ hT iv0_k10 iv1_k10 hm_k10
            exact absurd hm_k10 (by omega)
          | succ n ih_k10 =>
            intro u9 H locs ls i_k10 w2_k10 w1_k10 hO hl hJ hT iv0_k10 iv1_k10 hm_k10
            refine lv_iload hx hb dX1_bestExchange_30 (lv_at hl 0 rfl) ?_
            refine lv_aload_n hx hb dX1_bestExchange_32 rfl (lv_at hl 4 rfl) ?_
            refine gf_RX1_18 (v := .ref (a 28)) C hO 36 cW_36 rfl dX1_bestExchange_33 ?_
            refine gf_RX1_34 (v := .ref (a 3)) C hO 28 cW_28 (congrArg (fun z : Nat => some (Value.ref z)) (CI_R0 hJ)) dX1_bestExchange_36 ?_
            have g11 : 0 ≤ (fI u9 3 12).toInt ∧ (fI u9 3 12).toInt ≤ 6 := by have h := CI_3_12 hJ; exact h
            refine gf_RX1_44 (v := .int (fI u9 3 12)) C hO 3 cW_3 rfl dX1_bestExchange_39 ?_
            refine cs_ge (tgt := 104) (X := (i_k10).toInt) (Y := ((fI u9 3 12)).toInt) hx hb dX1_bestExchange_42 (by decide) rfl rfl (fun c12 => ?_) (fun c12 => ?_)
            · have e13 : ((i_k5 + 1)).toInt = (i_k5).toInt + 1 := i_add rfl rfl (by omega)
              refine lv_iinc (v := (i_k5 + 1)) (lv' := [(3, .int (i_k5 + 1)), (4, .int i_k10), (2, .int w2_k10), (1, .int w1_k10), (0, .ref (a 36))]) hx hb dX1_bestExchange_104 hl (k := 1) rfl rfl (by decide) rfl (fun ls hl => ?_)
              refine lv_goto (tgt := 11) hx hb dX1_bestExchange_107 (by decide) ?_
              exact ih_k5 _ _ _ _ ((i_k5 + 1)) (w2_k10) (w1_k10) hO (lv_sub hl [0, 2, 3, 4] rfl) (by exact hJ) (by exact hT) (by first | decide | omega) (by first | decide | omega) (by first | decide | omega)
            · refine lv_aload_n hx hb dX1_bestExchange_45 rfl (lv_at hl 4 rfl) ?_
              refine gf_RX1_18 (v := .ref (a 28)) C hO 36 cW_36 rfl dX1_bestExchange_46 ?_
              refine lv_iload_n hx hb dX1_bestExchange_49 rfl (lv_at hl 1 rfl) ?_
              refine cVi (w := cW cy a) (As := [.int i_k5]) (rest := []) C hO (T_X2_isHeld l D cy a _ (by exact hJ) (i_k5)) (cwV 1 ht (gV wd_1091 wd_930 wd_931 wd_115 wd_932) rfl rfl rfl hd_yX2_isHeld ⟨Nat.le_of_ble_eq_true rfl, Nat.le_of_ble_eq_true rfl⟩) 28 rfl cW_28 rfl rfl hl.1 (Nat.le_of_ble_eq_true rfl) dX1_bestExchange_50 rfl ⟨Nat.zero_le _, Nat.zero_le _⟩ (fun r14 u15 H locs hp16 hO => ?_)
              obtain ⟨hr14, hu15⟩ := hp16
              rw [hu15] at hO
              rcases hr14 with ⟨hcr14, hvr14⟩ | ⟨hcr14, hvr14⟩
              · subst hvr14
                refine bn_eq (X := 1) hx hb dX1_bestExchange_53 rfl (by omega) ?_ (tgt := 78) (by decide)
                refine lv_aload_n hx hb dX1_bestExchange_56 rfl (lv_at hl 4 rfl) ?_
                refine gf_RX1_18 (v := .ref (a 28)) C hO 36 cW_36 rfl dX1_bestExchange_57 ?_
                refine lv_iload hx hb dX1_bestExchange_60 (lv_at hl 0 rfl) ?_
                refine cVi (w := cW cy a) (As := [.int i_k10]) (rest := []) C hO (T_X2_isHeld l D cy a _ (by exact hJ) (i_k10)) (cwV 1 ht (gV wd_1091 wd_930 wd_931 wd_115 wd_932) rfl rfl rfl hd_yX2_isHeld ⟨Nat.le_of_ble_eq_true rfl, Nat.le_of_ble_eq_true rfl⟩) 28 rfl cW_28 rfl rfl hl.1 (Nat.le_of_ble_eq_true rfl) dX1_bestExchange_62 rfl ⟨Nat.zero_le _, Nat.zero_le _⟩ (fun r17 u18 H locs hp19 hO => ?_)
                obtain ⟨hr17, hu18⟩ := hp19
                rw [hu18] at hO
                rcases hr17 with ⟨hcr17, hvr17⟩ | ⟨hcr17, hvr17⟩
                · subst hvr17
                  refine bn_eq (X := 1) hx hb dX1_bestExchange_65 rfl (by omega) ?_ (tgt := 78) (by decide)
                  refine lv_aload_n hx hb dX1_bestExchange_68 rfl (lv_at hl 4 rfl) ?_
                  refine lv_iload_n hx hb dX1_bestExchange_69 rfl (lv_at hl 1 rfl) ?_
                  refine lv_iload hx hb dX1_bestExchange_70 (lv_at hl 0 rfl) ?_
                  refine cVi (w := cW cy a) (As := [.int i_k5, .int i_k10]) (rest := []) C hO (T_X1_freeByExchange l D cy a _ (by exact hJ) (i_k5) (i_k10) (by first | omega | decide) (by first | omega | decide)) (cwV 2 ht (gV wd_1163 wd_1164 wd_1165 wd_119 wd_1166) rfl rfl rfl hd_yX1_freeByExchange ⟨Nat.le_of_ble_eq_true rfl, Nat.le_of_ble_eq_true rfl⟩) 36 rfl cW_36 rfl rfl hl.1 (Nat.le_of_ble_eq_true rfl) dX1_bestExchange_72 rfl ⟨Nat.zero_le _, Nat.zero_le _⟩ (fun r20 u21 H locs hp22 hO => ?_)
                  obtain ⟨hJ, hTu21⟩ := hp22
                  have hT : KT u u21 := KT.tr (by exact hT) hTu21
                  refine lv_goto (tgt := 79) hx hb dX1_bestExchange_75 (by decide) ?_
                  refine lv_istore (lv' := [(5, .int r20), (4, .int i_k10), (3, .int i_k5), (2, .int w2_k10), (1, .int w1_k10), (0, .ref (a 36))]) hx hb dX1_bestExchange_79 hl (by decide) rfl (fun ls hl => ?_)
                  refine lv_iload hx hb dX1_bestExchange_81 (lv_at hl 0 rfl) ?_
                  refine lv_iload_n hx hb dX1_bestExchange_83 rfl (lv_at hl 3 rfl) ?_
                  refine cs_le (tgt := 98) (X := (r20).toInt) (Y := (w2_k10).toInt) hx hb dX1_bestExchange_84 (by decide) rfl rfl (fun c23 => ?_) (fun c23 => ?_)
                  · have e24 : ((i_k10 + 1)).toInt = (i_k10).toInt + 1 := i_add rfl rfl (by omega)
                    refine lv_iinc (v := (i_k10 + 1)) (lv' := [(4, .int (i_k10 + 1)), (5, .int r20), (3, .int i_k5), (2, .int w2_k10), (1, .int w1_k10), (0, .ref (a 36))]) hx hb dX1_bestExchange_98 hl (k := 1) rfl rfl (by decide) rfl (fun ls hl => ?_)
                    refine lv_goto (tgt := 30) hx hb dX1_bestExchange_101 (by decide) ?_
                    exact ih_k10 _ _ _ _ ((i_k10 + 1)) (w2_k10) (w1_k10) hO (lv_sub hl [0, 2, 3, 4, 5] rfl) (by exact hJ) (by exact hT) (by first | decide | omega) (by first | decide | omega) (by first | decide | omega)
                  · refine lv_iload hx hb dX1_bestExchange_87 (lv_at hl 0 rfl) ?_
                    refine lv_istore_n (lv' := [(2, .int r20), (5, .int r20), (4, .int i_k10), (3, .int i_k5), (1, .int w1_k10), (0, .ref (a 36))]) hx hb dX1_bestExchange_89 rfl hl (by decide) rfl (fun ls hl => ?_)
                    refine lv_iload_n hx hb dX1_bestExchange_90 rfl (lv_at hl 3 rfl) ?_
                    refine lv_bipush (v := 6) hx hb dX1_bestExchange_91 (by decide) ?_
                    have e25 : ((i_k5 * 6)).toInt = (i_k5).toInt * 6 := i_mul rfl rfl (by omega)
                    refine lv_imul hx hb dX1_bestExchange_93 ?_
                    refine lv_iload hx hb dX1_bestExchange_94 (lv_at hl 2 rfl) ?_
                    have e26 : (((i_k5 * 6) + i_k10)).toInt = ((i_k5).toInt * 6) + (i_k10).toInt := i_add e25 rfl (by omega)
                    refine lv_iadd hx hb dX1_bestExchange_96 ?_
                    refine lv_istore_n (lv' := [(1, .int ((i_k5 * 6) + i_k10)), (2, .int r20), (5, .int r20), (4, .int i_k10), (3, .int i_k5), (0, .ref (a 36))]) hx hb dX1_bestExchange_97 rfl hl (by decide) rfl (fun ls hl => ?_)
                    have e27 : ((i_k10 + 1)).toInt = (i_k10).toInt + 1 := i_add rfl rfl (by omega)
                    refine lv_iinc (v := (i_k10 + 1)) (lv' := [(4, .int (i_k10 + 1)), (1, .int ((i_k5 * 6) + i_k10)), (2, .int r20), (5, .int r20), (3, .int i_k5), (0, .ref (a 36))]) hx hb dX1_bestExchange_98 hl (k := 3) rfl rfl (by decide) rfl (fun ls hl => ?_)
                    refine lv_goto (tgt := 30) hx hb dX1_bestExchange_101 (by decide) ?_
                    exact ih_k10 _ _ _ _ ((i_k10 + 1)) (r20) (((i_k5 * 6) + i_k10)) hO (lv_sub hl [0, 4, 2, 1, 5] rfl) (by exact hJ) (by exact hT) (by first | decide | omega) (by first | decide | omega) (by first | decide | omega)
                · subst hvr17
                  refine bt_eq (tgt := 78) (X := 0) hx hb dX1_bestExchange_65 (by decide) rfl (by omega) ?_
                  refine lv_iconst (v := 0) hx hb dX1_bestExchange_78 (by decide) ?_
                  refine lv_istore (lv' := [(5, .int 0), (4, .int i_k10), (3, .int i_k5), (2, .int w2_k10), (1, .int w1_k10), (0, .ref (a 36))]) hx hb dX1_bestExchange_79 hl (by decide) rfl (fun ls hl => ?_)
                  refine lv_iload hx hb dX1_bestExchange_81 (lv_at hl 0 rfl) ?_
                  refine lv_iload_n hx hb dX1_bestExchange_83 rfl (lv_at hl 3 rfl) ?_
                  refine cs_le (tgt := 98) (X := 0) (Y := (w2_k10).toInt) hx hb dX1_bestExchange_84 (by decide) rfl rfl (fun c28 => ?_) (fun c28 => ?_)
                  · have e29 : ((i_k10 + 1)).toInt = (i_k10).toInt + 1 := i_add rfl rfl (by omega)
                    refine lv_iinc (v := (i_k10 + 1)) (lv' := [(4, .int (i_k10 + 1)), (5, .int 0), (3, .int i_k5), (2, .int w2_k10), (1, .int w1_k10), (0, .ref (a 36))]) hx hb dX1_bestExchange_98 hl (k := 1) rfl rfl (by decide) rfl (fun ls hl => ?_)
                    refine lv_goto (tgt := 30) hx hb dX1_bestExchange_101 (by decide) ?_
                    exact ih_k10 _ _ _ _ ((i_k10 + 1)) (w2_k10) (w1_k10) hO (lv_sub hl [0, 2, 3, 4, 5] rfl) (by exact hJ) (by exact hT) (by first | decide | omega) (by first | decide | omega) (by first | decide | omega)
                  · refine lv_iload hx hb dX1_bestExchange_87 (lv_at hl 0 rfl) ?_
                    refine lv_istore_n (lv' := [(2, .int 0), (5, .int 0), (4, .int i_k10), (3, .int i_k5), (1, .int w1_k10), (0, .ref (a 36))]) hx hb dX1_bestExchange_89 rfl hl (by decide) rfl (fun ls hl => ?_)
                    refine lv_iload_n hx hb dX1_bestExchange_90 rfl (lv_at hl 3 rfl) ?_
                    refine lv_bipush (v := 6) hx hb dX1_bestExchange_91 (by decide) ?_
                    have e30 : ((i_k5 * 6)).toInt = (i_k5).toInt * 6 := i_mul rfl rfl (by omega)
                    refine lv_imul hx hb dX1_bestExchange_93 ?_
                    refine lv_iload hx hb dX1_bestExchange_94 (lv_at hl 2 rfl) ?_
                    have e31 : (((i_k5 * 6) + i_k10)).toInt = ((i_k5).toInt * 6) + (i_k10).toInt := i_add e30 rfl (by omega)
                    refine lv_iadd hx hb dX1_bestExchange_96 ?_
                    refine lv_istore_n (lv' := [(1, .int ((i_k5 * 6) + i_k10)), (2, .int 0), (5, .int 0), (4, .int i_k10), (3, .int i_k5), (0, .ref (a 36))]) hx hb dX1_bestExchange_97 rfl hl (by decide) rfl (fun ls hl => ?_)
                    have e32 : ((i_k10 + 1)).toInt = (i_k10).toInt + 1 := i_add rfl rfl (by omega)
                    refine lv_iinc (v := (i_k10 + 1)) (lv' := [(4, .int (i_k10 + 1)), (1, .int ((i_k5 * 6) + i_k10)), (2, .int 0), (5, .int 0), (3, .int i_k5), (0, .ref (a 36))]) hx hb dX1_bestExchange_98 hl (k := 3) rfl rfl (by decide) rfl (fun ls hl => ?_)
                    refine lv_goto (tgt := 30) hx hb dX1_bestExchange_101 (by decide) ?_
                    exact ih_k10 _ _ _ _ ((i_k10 + 1)) (0) (((i_k5 * 6) + i_k10)) hO (lv_sub hl [0, 4, 2, 1, 5] rfl) (by exact hJ) (by exact hT) (by first | decide | omega) (by first | decide | omega) (by first | decide | omega)
              · subst hvr14
                refine bt_eq (tgt := 78) (X := 0) hx hb dX1_bestExchange_53 (by decide) rfl (by omega) ?_
                refine lv_iconst (v := 0) hx hb dX1_bestExchange_78 (by decide) ?_
                refine lv_istore (lv' := [(5, .int 0), (4, .int i_k10), (3, .int i_k5), (2, .int w2_k10), (1, .int w1_k10), (0, .ref (a 36))]) hx hb dX1_bestExchange_79 hl (by decide) rfl (fun ls hl => ?_)
                refine lv_iload hx hb dX1_bestExchange_81 (lv_at hl 0 rfl) ?_
                refine lv_iload_n hx hb dX1_bestExchange_83 rfl (lv_at hl 3 rfl) ?_
                refine cs_le (tgt := 98) (X := 0) (Y := (w2_k10).toInt) hx hb dX1_bestExchange_84 (by decide) rfl rfl (fun c33 => ?_) (fun c33 => ?_)
                · have e34 : ((i_k10 + 1)).toInt = (i_k10).toInt + 1 := i_add rfl rfl (by omega)
                  refine lv_iinc (v := (i_k10 + 1)) (lv' := [(4, .int (i_k10 + 1)), (5, .int 0), (3, .int i_k5), (2, .int w2_k10), (1, .int w1_k10), (0, .ref (a 36))]) hx hb dX1_bestExchange_98 hl (k := 1) rfl rfl (by decide) rfl (fun ls hl => ?_)
                  refine lv_goto (tgt := 30) hx hb dX1_bestExchange_101 (by decide) ?_
                  exact ih_k10 _ _ _ _ ((i_k10 + 1)) (w2_k10) (w1_k10) hO (lv_sub hl [0, 2, 3, 4, 5] rfl) (by exact hJ) (by exact hT) (by first | decide | omega) (by first | decide | omega) (by first | decide | omega)
                · refine lv_iload hx hb dX1_bestExchange_87 (lv_at hl 0 rfl) ?_
                  refine lv_istore_n (lv' := [(2, .int 0), (5, .int 0), (4, .int i_k10), (3, .int i_k5), (1, .int w1_k10), (0, .ref (a 36))]) hx hb dX1_bestExchange_89 rfl hl (by decide) rfl (fun ls hl => ?_)
                  refine lv_iload_n hx hb dX1_bestExchange_90 rfl (lv_at hl 3 rfl) ?_
                  refine lv_bipush (v := 6) hx hb dX1_bestExchange_91 (by decide) ?_
                  have e35 : ((i_k5 * 6)).toInt = (i_k5).toInt * 6 := i_mul rfl rfl (by omega)
                  refine lv_imul hx hb dX1_bestExchange_93 ?_
                  refine lv_iload hx hb dX1_bestExchange_94 (lv_at hl 2 rfl) ?_
                  have e36 : (((i_k5 * 6) + i_k10)).toInt = ((i_k5).toInt * 6) + (i_k10).toInt := i_add e35 rfl (by omega)
                  refine lv_iadd hx hb dX1_bestExchange_96 ?_
                  refine lv_istore_n (lv' := [(1, .int ((i_k5 * 6) + i_k10)), (2, .int 0), (5, .int 0), (4, .int i_k10), (3, .int i_k5), (0, .ref (a 36))]) hx hb dX1_bestExchange_97 rfl hl (by decide) rfl (fun ls hl => ?_)
                  have e37 : ((i_k10 + 1)).toInt = (i_k10).toInt + 1 := i_add rfl rfl (by omega)
                  refine lv_iinc (v := (i_k10 + 1)) (lv' := [(4, .int (i_k10 + 1)), (1, .int ((i_k5 * 6) + i_k10)), (2, .int 0), (5, .int 0), (3, .int i_k5), (0, .ref (a 36))]) hx hb dX1_bestExchange_98 hl (k := 3) rfl rfl (by decide) rfl (fun ls hl => ?_)
                  refine lv_goto (tgt := 30) hx hb dX1_bestExchange_101 (by decide) ?_
                  exact ih_k10 _ _ _ _ ((i_k10 + 1)) (0) (((i_k5 * 6) + i_k10)) hO (lv_sub hl [0, 4, 2, 1, 5] rfl) (by exact hJ) (by exact hT) (by first | decide | omega) (by first | decide | omega) (by first | decide | omega)
        exact LP_30_k10 4000 _ _ _ _ ((i_k5 + 1)) (w2_k5) (w1_k5) hO (lv_sub hl [0, 1, 2, 3, 4] rfl) (by exact hJ) (by exact hT) (by first | decide | omega) (by first | decide | omega) (by first | decide | omega)
  exact LP_11_k5 4000 _ _ _ _ (0) (r1) ((-1)) hO (lv_sub hl [0, 1, 2, 3] rfl) (by exact hJ) (by exact hT) (by first | decide | omega) (by first | decide | omega) (by first | decide | omega)
theorem dX1_pleaToTakeUp_0 : decode cX1_pleaToTakeUp 0 = .ok (.aload_n 0, 1) := by decide +kernel
theorem dX1_pleaToTakeUp_1 : decode cX1_pleaToTakeUp 1 = .ok (.getfield 18, 3) := by decide +kernel
theorem dX1_pleaToTakeUp_4 : decode cX1_pleaToTakeUp 4 = .ok (.getfield 54, 3) := by decide +kernel
theorem dX1_pleaToTakeUp_7 : decode cX1_pleaToTakeUp 7 = .ok (.bipush 11, 2) := by decide +kernel
theorem dX1_pleaToTakeUp_9 : decode cX1_pleaToTakeUp 9 = .ok (.iload_n 1, 1) := by decide +kernel
theorem dX1_pleaToTakeUp_10 : decode cX1_pleaToTakeUp 10 = .ok (.iadd, 1) := by decide +kernel
theorem dX1_pleaToTakeUp_11 : decode cX1_pleaToTakeUp 11 = .ok (.iaload, 1) := by decide +kernel
theorem dX1_pleaToTakeUp_12 : decode cX1_pleaToTakeUp 12 = .ok (.istore_n 2, 1) := by decide +kernel
theorem dX1_pleaToTakeUp_13 : decode cX1_pleaToTakeUp 13 = .ok (.iload_n 2, 1) := by decide +kernel
theorem dX1_pleaToTakeUp_14 : decode cX1_pleaToTakeUp 14 = .ok (.invokestatic 22, 3) := by decide +kernel
theorem dX1_pleaToTakeUp_17 : decode cX1_pleaToTakeUp 17 = .ok (.iconst 4, 1) := by decide +kernel
theorem dX1_pleaToTakeUp_18 : decode cX1_pleaToTakeUp 18 = .ok (.if_icmp .lt 5, 3) := by decide +kernel
theorem dX1_pleaToTakeUp_21 : decode cX1_pleaToTakeUp 21 = .ok (.iconst (-1), 1) := by decide +kernel
theorem dX1_pleaToTakeUp_22 : decode cX1_pleaToTakeUp 22 = .ok (.ireturn, 1) := by decide +kernel
theorem dX1_pleaToTakeUp_23 : decode cX1_pleaToTakeUp 23 = .ok (.iconst (-1), 1) := by decide +kernel
theorem dX1_pleaToTakeUp_24 : decode cX1_pleaToTakeUp 24 = .ok (.istore_n 3, 1) := by decide +kernel
theorem dX1_pleaToTakeUp_25 : decode cX1_pleaToTakeUp 25 = .ok (.iconst 0, 1) := by decide +kernel
theorem dX1_pleaToTakeUp_26 : decode cX1_pleaToTakeUp 26 = .ok (.istore 4, 2) := by decide +kernel
theorem dX1_pleaToTakeUp_28 : decode cX1_pleaToTakeUp 28 = .ok (.iconst 0, 1) := by decide +kernel
theorem dX1_pleaToTakeUp_29 : decode cX1_pleaToTakeUp 29 = .ok (.istore 5, 2) := by decide +kernel
theorem dX1_pleaToTakeUp_31 : decode cX1_pleaToTakeUp 31 = .ok (.iload 5, 2) := by decide +kernel
theorem dX1_pleaToTakeUp_33 : decode cX1_pleaToTakeUp 33 = .ok (.aload_n 0, 1) := by decide +kernel
theorem dX1_pleaToTakeUp_34 : decode cX1_pleaToTakeUp 34 = .ok (.getfield 18, 3) := by decide +kernel
theorem dX1_pleaToTakeUp_37 : decode cX1_pleaToTakeUp 37 = .ok (.getfield 34, 3) := by decide +kernel
theorem dX1_pleaToTakeUp_40 : decode cX1_pleaToTakeUp 40 = .ok (.getfield 38, 3) := by decide +kernel
theorem dX1_pleaToTakeUp_43 : decode cX1_pleaToTakeUp 43 = .ok (.if_icmp .ge 56, 3) := by decide +kernel
theorem dX1_pleaToTakeUp_46 : decode cX1_pleaToTakeUp 46 = .ok (.iload_n 2, 1) := by decide +kernel
theorem dX1_pleaToTakeUp_47 : decode cX1_pleaToTakeUp 47 = .ok (.iload 5, 2) := by decide +kernel
theorem dX1_pleaToTakeUp_49 : decode cX1_pleaToTakeUp 49 = .ok (.ishr, 1) := by decide +kernel
theorem dX1_pleaToTakeUp_50 : decode cX1_pleaToTakeUp 50 = .ok (.iconst 1, 1) := by decide +kernel
theorem dX1_pleaToTakeUp_51 : decode cX1_pleaToTakeUp 51 = .ok (.iand, 1) := by decide +kernel
theorem dX1_pleaToTakeUp_52 : decode cX1_pleaToTakeUp 52 = .ok (.ifCond .eq 6, 3) := by decide +kernel
theorem dX1_pleaToTakeUp_55 : decode cX1_pleaToTakeUp 55 = .ok (.goto 38, 3) := by decide +kernel
theorem dX1_pleaToTakeUp_58 : decode cX1_pleaToTakeUp 58 = .ok (.aload_n 0, 1) := by decide +kernel
theorem dX1_pleaToTakeUp_59 : decode cX1_pleaToTakeUp 59 = .ok (.getfield 18, 3) := by decide +kernel
theorem dX1_pleaToTakeUp_62 : decode cX1_pleaToTakeUp 62 = .ok (.iload_n 1, 1) := by decide +kernel
theorem dX1_pleaToTakeUp_63 : decode cX1_pleaToTakeUp 63 = .ok (.iload_n 2, 1) := by decide +kernel
theorem dX1_pleaToTakeUp_64 : decode cX1_pleaToTakeUp 64 = .ok (.iconst 1, 1) := by decide +kernel
theorem dX1_pleaToTakeUp_65 : decode cX1_pleaToTakeUp 65 = .ok (.iload 5, 2) := by decide +kernel
theorem dX1_pleaToTakeUp_67 : decode cX1_pleaToTakeUp 67 = .ok (.ishl, 1) := by decide +kernel
theorem dX1_pleaToTakeUp_68 : decode cX1_pleaToTakeUp 68 = .ok (.ior, 1) := by decide +kernel
theorem dX1_pleaToTakeUp_69 : decode cX1_pleaToTakeUp 69 = .ok (.invokevirtual 28, 3) := by decide +kernel
theorem dX1_pleaToTakeUp_72 : decode cX1_pleaToTakeUp 72 = .ok (.istore 6, 2) := by decide +kernel
theorem dX1_pleaToTakeUp_74 : decode cX1_pleaToTakeUp 74 = .ok (.iload_n 3, 1) := by decide +kernel
theorem dX1_pleaToTakeUp_75 : decode cX1_pleaToTakeUp 75 = .ok (.iconst (-1), 1) := by decide +kernel
theorem dX1_pleaToTakeUp_76 : decode cX1_pleaToTakeUp 76 = .ok (.if_icmp .eq 10, 3) := by decide +kernel
theorem dX1_pleaToTakeUp_79 : decode cX1_pleaToTakeUp 79 = .ok (.iload 6, 2) := by decide +kernel
theorem dX1_pleaToTakeUp_81 : decode cX1_pleaToTakeUp 81 = .ok (.iload 4, 2) := by decide +kernel
theorem dX1_pleaToTakeUp_83 : decode cX1_pleaToTakeUp 83 = .ok (.if_icmp .le 10, 3) := by decide +kernel
theorem dX1_pleaToTakeUp_86 : decode cX1_pleaToTakeUp 86 = .ok (.iload 6, 2) := by decide +kernel
theorem dX1_pleaToTakeUp_88 : decode cX1_pleaToTakeUp 88 = .ok (.istore 4, 2) := by decide +kernel
theorem dX1_pleaToTakeUp_90 : decode cX1_pleaToTakeUp 90 = .ok (.iload 5, 2) := by decide +kernel
theorem dX1_pleaToTakeUp_92 : decode cX1_pleaToTakeUp 92 = .ok (.istore_n 3, 1) := by decide +kernel
theorem dX1_pleaToTakeUp_93 : decode cX1_pleaToTakeUp 93 = .ok (.iinc 5 1, 3) := by decide +kernel
theorem dX1_pleaToTakeUp_96 : decode cX1_pleaToTakeUp 96 = .ok (.goto (-65), 3) := by decide +kernel
theorem dX1_pleaToTakeUp_99 : decode cX1_pleaToTakeUp 99 = .ok (.iload_n 3, 1) := by decide +kernel
theorem dX1_pleaToTakeUp_100 : decode cX1_pleaToTakeUp 100 = .ok (.ireturn, 1) := by decide +kernel
theorem wd_1175 : (Cond.code ⟨"WebCourt$Counsel", "pleaToTakeUp", "(I)I"⟩ prog_3_method_13_code (7 : Nat) (Option.some FieldType.int)) ∈ gtb := gtb_c5 106 (by decide +kernel) rfl
set_option maxHeartbeats 4000000 in
set_option maxRecDepth 100000 in
theorem T_X1_pleaToTakeUp (l : Launch) (D : va_G) (cy : Nat → ClassId) (a : Nat → Nat) (u : St) (hJ : CI a u) (x1 : Int32) (hx_x1 : 0 ≤ x1.toInt ∧ x1.toInt ≤ 5) : Mi l D cy (cW cy a) yX1_pleaToTakeUp (.code yX1_pleaToTakeUp cX1_pleaToTakeUp 7 (some .int)) (rmo 4 100) [.ref (a 36), .int x1] u (fun (r : Int32) (u' : St) => (CI a u') ∧ (KT u u')) := by
  refine Mi.of (own := RX1) rfl (by decide) (Nat.le_of_ble_eq_true rfl) ?_
  have hT : KT u u := KT.rf
  intro p e s m below meth c A Q ls C hret hO hl
  obtain ⟨hx, hb, hml, hown, ht, hK, hA⟩ := id C
  have hl : lv_has ls 7 [(0, .ref (a 36)), (1, .int x1)] := hl
  refine lv_aload_n hx hb dX1_pleaToTakeUp_0 rfl (lv_at hl 0 rfl) ?_
  refine gf_RX1_18 (v := .ref (a 28)) C hO 36 cW_36 rfl dX1_pleaToTakeUp_1 ?_
  refine gf_RX1_54 (v := .ref (a 29)) C hO 28 cW_28 rfl dX1_pleaToTakeUp_4 ?_
  refine lv_bipush (v := 11) hx hb dX1_pleaToTakeUp_7 (by decide) ?_
  refine lv_iload_n hx hb dX1_pleaToTakeUp_9 rfl (lv_at hl 1 rfl) ?_
  have e1 : ((11 + x1)).toInt = 11 + (x1).toInt := i_add rfl rfl (by omega)
  refine lv_iadd hx hb dX1_pleaToTakeUp_10 ?_
  refine aI C hO 29 cW_29 (i_in (X := (11 + (x1).toInt)) e1 (by omega) (by omega)) dX1_pleaToTakeUp_11 ?_
  refine lv_topi (fun w2 ew2 => ?_)
  refine lv_istore_n (lv' := [(2, .int w2), (0, .ref (a 36)), (1, .int x1)]) hx hb dX1_pleaToTakeUp_12 rfl hl (by decide) rfl (fun ls hl => ?_)
  refine lv_iload_n hx hb dX1_pleaToTakeUp_13 rfl (lv_at hl 0 rfl) ?_
  refine cSi (w := cW cy a) (As := [.int w2]) (rest := []) C hO (T_J6_bitCount_0f7a4 l D cy a _ (by exact hJ) (w2)) (va_cwS 1 ht (gSS wd_995 wd_870 wd_128 wd_871) rfl rfl rfl hd_yJ6_bitCount_0f7a4 ⟨Nat.le_of_ble_eq_true rfl, Nat.le_of_ble_eq_true rfl⟩)  rfl hl.1 (Nat.le_of_ble_eq_true rfl) dX1_pleaToTakeUp_14 rfl ⟨Nat.zero_le _, Nat.zero_le _⟩ (fun r3 u4 H locs hp5 hO => ?_)
  have hu4 := hp5
  rw [hu4] at hO
  refine lv_iconst (v := 4) hx hb dX1_pleaToTakeUp_17 (by decide) ?_
  refine cs_lt (tgt := 23) (X := (r3).toInt) (Y := 4) hx hb dX1_pleaToTakeUp_18 (by decide) rfl rfl (fun c6 => ?_) (fun c6 => ?_)
  · refine lv_iconst (v := (-1)) hx hb dX1_pleaToTakeUp_23 (by decide) ?_
    refine lv_istore_n (lv' := [(3, .int (-1)), (2, .int w2), (0, .ref (a 36)), (1, .int x1)]) hx hb dX1_pleaToTakeUp_24 rfl hl (by decide) rfl (fun ls hl => ?_)
    refine lv_iconst (v := 0) hx hb dX1_pleaToTakeUp_25 (by decide) ?_
    refine lv_istore (lv' := [(4, .int 0), (3, .int (-1)), (2, .int w2), (0, .ref (a 36)), (1, .int x1)]) hx hb dX1_pleaToTakeUp_26 hl (by decide) rfl (fun ls hl => ?_)
    refine lv_iconst (v := 0) hx hb dX1_pleaToTakeUp_28 (by decide) ?_
    refine lv_istore (lv' := [(5, .int 0), (4, .int 0), (3, .int (-1)), (2, .int w2), (0, .ref (a 36)), (1, .int x1)]) hx hb dX1_pleaToTakeUp_29 hl (by decide) rfl (fun ls hl => ?_)
    have LP_31_k8 : ∀ (n : Nat) (u7 : St) (H : Heap) (locs : List Loc) (ls : Array Slot) (i_k8 : Int32) (w4_k8 : Int32) (w3_k8 : Int32), Wo D A (cW cy a u7) s.heap H locs → lv_has ls 7 [(5, .int i_k8), (4, .int w4_k8), (3, .int w3_k8), (2, .int w2), (0, .ref (a 36)), (1, .int x1)] → CI a u7 → KT u u7 → 0 ≤ i_k8.toInt ∧ i_k8.toInt ≤ 8 → 8 - i_k8.toInt < (n : Int) → W p l e (rmo 4 100) s m [.ref (a 36), .int x1].toArray below meth c H locs 0 0 Q (F0 m 31 ls []) := by
      intro n
      induction n with
      | zero =>
        intro u7 H locs ls i_k8 w4_k8 w3_k8 hO hl hJ hT iv0_k8 hm_k8
        exact absurd hm_k8 (by omega)
      | succ n ih_k8 =>
        intro u7 H locs ls i_k8 w4_k8 w3_k8 hO hl hJ hT iv0_k8 hm_k8
        refine lv_iload hx hb dX1_pleaToTakeUp_31 (lv_at hl 0 rfl) ?_
        refine lv_aload_n hx hb dX1_pleaToTakeUp_33 rfl (lv_at hl 4 rfl) ?_
        refine gf_RX1_18 (v := .ref (a 28)) C hO 36 cW_36 rfl dX1_pleaToTakeUp_34 ?_
        refine gf_RX1_34 (v := .ref (a 3)) C hO 28 cW_28 (congrArg (fun z : Nat => some (Value.ref z)) (CI_R0 hJ)) dX1_pleaToTakeUp_37 ?_
        have g9 : 0 ≤ (fI u7 3 11).toInt ∧ (fI u7 3 11).toInt ≤ 8 := by have h := CI_3_11 hJ; exact h
        refine gf_RX1_38 (v := .int (fI u7 3 11)) C hO 3 cW_3 rfl dX1_pleaToTakeUp_40 ?_
        refine cs_ge (tgt := 99) (X := (i_k8).toInt) (Y := ((fI u7 3 11)).toInt) hx hb dX1_pleaToTakeUp_43 (by decide) rfl rfl (fun c10 => ?_) (fun c10 => ?_)
        · refine lv_iload_n hx hb dX1_pleaToTakeUp_99 rfl (lv_at hl 2 rfl) ?_
          refine hret _ _ _ _ _ _ dX1_pleaToTakeUp_100 rfl ?_ hO
          exact ⟨hJ, hT⟩
        · refine lv_iload_n hx hb dX1_pleaToTakeUp_46 rfl (lv_at hl 3 rfl) ?_
          refine lv_iload hx hb dX1_pleaToTakeUp_47 (lv_at hl 0 rfl) ?_
          refine lv_ishr hx hb dX1_pleaToTakeUp_49 ?_
          refine lv_topi (fun z11 ez11 => ?_)
          refine lv_iconst (v := 1) hx hb dX1_pleaToTakeUp_50 (by decide) ?_
          refine lv_iand hx hb dX1_pleaToTakeUp_51 ?_
          refine lv_topi (fun z12 ez12 => ?_)
          have g13 : 0 ≤ z12.toInt ∧ z12.toInt ≤ 1 := by rw [ez12]; exact i_andr rfl (by omega)
          refine bs_eq (tgt := 58) (X := (z12).toInt) hx hb dX1_pleaToTakeUp_52 (by decide) rfl (fun c14 => ?_) (fun c14 => ?_)
          · refine lv_aload_n hx hb dX1_pleaToTakeUp_58 rfl (lv_at hl 4 rfl) ?_
            refine gf_RX1_18 (v := .ref (a 28)) C hO 36 cW_36 rfl dX1_pleaToTakeUp_59 ?_
            refine lv_iload_n hx hb dX1_pleaToTakeUp_62 rfl (lv_at hl 5 rfl) ?_
            refine lv_iload_n hx hb dX1_pleaToTakeUp_63 rfl (lv_at hl 3 rfl) ?_
            refine lv_iconst (v := 1) hx hb dX1_pleaToTakeUp_64 (by decide) ?_
            refine lv_iload hx hb dX1_pleaToTakeUp_65 (lv_at hl 0 rfl) ?_
            refine lv_ishl hx hb dX1_pleaToTakeUp_67 ?_
            refine lv_topi (fun z15 ez15 => ?_)
            have g16 : 0 ≤ z15.toInt ∧ z15.toInt ≤ 2 ^ 7 := by rw [ez15]; exact i_shl1 rfl (by omega) (by omega) (by decide)
            refine lv_ior hx hb dX1_pleaToTakeUp_68 ?_
            refine lv_topi (fun z17 ez17 => ?_)
            refine cVi (w := cW cy a) (As := [.int x1, .int z17]) (rest := []) C hO (T_X2_judged l D cy a _ (by exact hJ) (x1) (z17) (by first | omega | decide)) (cwV 2 ht (gV wd_996 wd_997 wd_998 wd_115 wd_999) rfl rfl rfl hd_yX2_judged ⟨Nat.le_of_ble_eq_true rfl, Nat.le_of_ble_eq_true rfl⟩) 28 rfl cW_28 rfl rfl hl.1 (Nat.le_of_ble_eq_true rfl) dX1_pleaToTakeUp_69 rfl ⟨Nat.zero_le _, Nat.zero_le _⟩ (fun r18 u19 H locs hp20 hO => ?_)
            obtain ⟨hJ, hTu19⟩ := hp20
            have hT : KT u u19 := KT.tr (by exact hT) hTu19
            refine lv_istore (lv' := [(6, .int r18), (5, .int i_k8), (4, .int w4_k8), (3, .int w3_k8), (2, .int w2), (0, .ref (a 36)), (1, .int x1)]) hx hb dX1_pleaToTakeUp_72 hl (by decide) rfl (fun ls hl => ?_)
            refine lv_iload_n hx hb dX1_pleaToTakeUp_74 rfl (lv_at hl 3 rfl) ?_
            refine lv_iconst (v := (-1)) hx hb dX1_pleaToTakeUp_75 (by decide) ?_
            refine cs_eq (tgt := 86) (X := (w3_k8).toInt) (Y := (-1)) hx hb dX1_pleaToTakeUp_76 (by decide) rfl rfl (fun c21 => ?_) (fun c21 => ?_)
            · refine lv_iload hx hb dX1_pleaToTakeUp_86 (lv_at hl 0 rfl) ?_
              refine lv_istore (lv' := [(4, .int r18), (6, .int r18), (5, .int i_k8), (3, .int w3_k8), (2, .int w2), (0, .ref (a 36)), (1, .int x1)]) hx hb dX1_pleaToTakeUp_88 hl (by decide) rfl (fun ls hl => ?_)
              refine lv_iload hx hb dX1_pleaToTakeUp_90 (lv_at hl 2 rfl) ?_
              refine lv_istore_n (lv' := [(3, .int i_k8), (4, .int r18), (6, .int r18), (5, .int i_k8), (2, .int w2), (0, .ref (a 36)), (1, .int x1)]) hx hb dX1_pleaToTakeUp_92 rfl hl (by decide) rfl (fun ls hl => ?_)
              have e22 : ((i_k8 + 1)).toInt = (i_k8).toInt + 1 := i_add rfl rfl (by omega)
              refine lv_iinc (v := (i_k8 + 1)) (lv' := [(5, .int (i_k8 + 1)), (3, .int i_k8), (4, .int r18), (6, .int r18), (2, .int w2), (0, .ref (a 36)), (1, .int x1)]) hx hb dX1_pleaToTakeUp_93 hl (k := 3) rfl rfl (by decide) rfl (fun ls hl => ?_)
              refine lv_goto (tgt := 31) hx hb dX1_pleaToTakeUp_96 (by decide) ?_
              exact ih_k8 _ _ _ _ ((i_k8 + 1)) (r18) (i_k8) hO (lv_sub hl [0, 2, 1, 4, 5, 6] rfl) (by exact hJ) (by exact hT) (by first | decide | omega) (by first | decide | omega)
            · refine lv_iload hx hb dX1_pleaToTakeUp_79 (lv_at hl 0 rfl) ?_
              refine lv_iload hx hb dX1_pleaToTakeUp_81 (lv_at hl 2 rfl) ?_
              refine cs_le (tgt := 93) (X := (r18).toInt) (Y := (w4_k8).toInt) hx hb dX1_pleaToTakeUp_83 (by decide) rfl rfl (fun c23 => ?_) (fun c23 => ?_)
              · have e24 : ((i_k8 + 1)).toInt = (i_k8).toInt + 1 := i_add rfl rfl (by omega)
                refine lv_iinc (v := (i_k8 + 1)) (lv' := [(5, .int (i_k8 + 1)), (6, .int r18), (4, .int w4_k8), (3, .int w3_k8), (2, .int w2), (0, .ref (a 36)), (1, .int x1)]) hx hb dX1_pleaToTakeUp_93 hl (k := 1) rfl rfl (by decide) rfl (fun ls hl => ?_)
                refine lv_goto (tgt := 31) hx hb dX1_pleaToTakeUp_96 (by decide) ?_
                exact ih_k8 _ _ _ _ ((i_k8 + 1)) (w4_k8) (w3_k8) hO (lv_sub hl [0, 2, 3, 4, 5, 6] rfl) (by exact hJ) (by exact hT) (by first | decide | omega) (by first | decide | omega)
              · refine lv_iload hx hb dX1_pleaToTakeUp_86 (lv_at hl 0 rfl) ?_
                refine lv_istore (lv' := [(4, .int r18), (6, .int r18), (5, .int i_k8), (3, .int w3_k8), (2, .int w2), (0, .ref (a 36)), (1, .int x1)]) hx hb dX1_pleaToTakeUp_88 hl (by decide) rfl (fun ls hl => ?_)
                refine lv_iload hx hb dX1_pleaToTakeUp_90 (lv_at hl 2 rfl) ?_
                refine lv_istore_n (lv' := [(3, .int i_k8), (4, .int r18), (6, .int r18), (5, .int i_k8), (2, .int w2), (0, .ref (a 36)), (1, .int x1)]) hx hb dX1_pleaToTakeUp_92 rfl hl (by decide) rfl (fun ls hl => ?_)
                have e25 : ((i_k8 + 1)).toInt = (i_k8).toInt + 1 := i_add rfl rfl (by omega)
                refine lv_iinc (v := (i_k8 + 1)) (lv' := [(5, .int (i_k8 + 1)), (3, .int i_k8), (4, .int r18), (6, .int r18), (2, .int w2), (0, .ref (a 36)), (1, .int x1)]) hx hb dX1_pleaToTakeUp_93 hl (k := 3) rfl rfl (by decide) rfl (fun ls hl => ?_)
                refine lv_goto (tgt := 31) hx hb dX1_pleaToTakeUp_96 (by decide) ?_
                exact ih_k8 _ _ _ _ ((i_k8 + 1)) (r18) (i_k8) hO (lv_sub hl [0, 2, 1, 4, 5, 6] rfl) (by exact hJ) (by exact hT) (by first | decide | omega) (by first | decide | omega)
          · refine lv_goto (tgt := 93) hx hb dX1_pleaToTakeUp_55 (by decide) ?_
            have e26 : ((i_k8 + 1)).toInt = (i_k8).toInt + 1 := i_add rfl rfl (by omega)
            refine lv_iinc (v := (i_k8 + 1)) (lv' := [(5, .int (i_k8 + 1)), (4, .int w4_k8), (3, .int w3_k8), (2, .int w2), (0, .ref (a 36)), (1, .int x1)]) hx hb dX1_pleaToTakeUp_93 hl (k := 0) rfl rfl (by decide) rfl (fun ls hl => ?_)
            refine lv_goto (tgt := 31) hx hb dX1_pleaToTakeUp_96 (by decide) ?_
            exact ih_k8 _ _ _ _ ((i_k8 + 1)) (w4_k8) (w3_k8) hO (lv_sub hl [0, 1, 2, 3, 4, 5] rfl) (by exact hJ) (by exact hT) (by first | decide | omega) (by first | decide | omega)
    exact LP_31_k8 4000 _ _ _ _ (0) (0) ((-1)) hO (lv_sub hl [0, 1, 2, 3, 4, 5] rfl) (by exact hJ) (by exact hT) (by first | decide | omega) (by first | decide | omega)
  · refine lv_iconst (v := (-1)) hx hb dX1_pleaToTakeUp_21 (by decide) ?_
    refine hret _ _ _ _ _ _ dX1_pleaToTakeUp_22 rfl ?_ hO
    exact ⟨hJ, hT⟩
theorem dX1_freeNow_0 : decode cX1_freeNow 0 = .ok (.iconst 0, 1) := by decide +kernel
theorem dX1_freeNow_1 : decode cX1_freeNow 1 = .ok (.istore_n 1, 1) := by decide +kernel
theorem dX1_freeNow_2 : decode cX1_freeNow 2 = .ok (.iconst 0, 1) := by decide +kernel
theorem dX1_freeNow_3 : decode cX1_freeNow 3 = .ok (.istore_n 2, 1) := by decide +kernel
theorem dX1_freeNow_4 : decode cX1_freeNow 4 = .ok (.iload_n 2, 1) := by decide +kernel
theorem dX1_freeNow_5 : decode cX1_freeNow 5 = .ok (.aload_n 0, 1) := by decide +kernel
theorem dX1_freeNow_6 : decode cX1_freeNow 6 = .ok (.getfield 18, 3) := by decide +kernel
theorem dX1_freeNow_9 : decode cX1_freeNow 9 = .ok (.getfield 34, 3) := by decide +kernel
theorem dX1_freeNow_12 : decode cX1_freeNow 12 = .ok (.getfield 44, 3) := by decide +kernel
theorem dX1_freeNow_15 : decode cX1_freeNow 15 = .ok (.if_icmp .ge 37, 3) := by decide +kernel
theorem dX1_freeNow_18 : decode cX1_freeNow 18 = .ok (.aload_n 0, 1) := by decide +kernel
theorem dX1_freeNow_19 : decode cX1_freeNow 19 = .ok (.getfield 18, 3) := by decide +kernel
theorem dX1_freeNow_22 : decode cX1_freeNow 22 = .ok (.iload_n 2, 1) := by decide +kernel
theorem dX1_freeNow_23 : decode cX1_freeNow 23 = .ok (.invokevirtual 47, 3) := by decide +kernel
theorem dX1_freeNow_26 : decode cX1_freeNow 26 = .ok (.ifCond .eq 20, 3) := by decide +kernel
theorem dX1_freeNow_29 : decode cX1_freeNow 29 = .ok (.aload_n 0, 1) := by decide +kernel
theorem dX1_freeNow_30 : decode cX1_freeNow 30 = .ok (.getfield 18, 3) := by decide +kernel
theorem dX1_freeNow_33 : decode cX1_freeNow 33 = .ok (.iload_n 2, 1) := by decide +kernel
theorem dX1_freeNow_34 : decode cX1_freeNow 34 = .ok (.invokevirtual 69, 3) := by decide +kernel
theorem dX1_freeNow_37 : decode cX1_freeNow 37 = .ok (.ifCond .le 9, 3) := by decide +kernel
theorem dX1_freeNow_40 : decode cX1_freeNow 40 = .ok (.iload_n 1, 1) := by decide +kernel
theorem dX1_freeNow_41 : decode cX1_freeNow 41 = .ok (.iconst 1, 1) := by decide +kernel
theorem dX1_freeNow_42 : decode cX1_freeNow 42 = .ok (.iload_n 2, 1) := by decide +kernel
theorem dX1_freeNow_43 : decode cX1_freeNow 43 = .ok (.ishl, 1) := by decide +kernel
theorem dX1_freeNow_44 : decode cX1_freeNow 44 = .ok (.ior, 1) := by decide +kernel
theorem dX1_freeNow_45 : decode cX1_freeNow 45 = .ok (.istore_n 1, 1) := by decide +kernel
theorem dX1_freeNow_46 : decode cX1_freeNow 46 = .ok (.iinc 2 1, 3) := by decide +kernel
theorem dX1_freeNow_49 : decode cX1_freeNow 49 = .ok (.goto (-45), 3) := by decide +kernel
theorem dX1_freeNow_52 : decode cX1_freeNow 52 = .ok (.iload_n 1, 1) := by decide +kernel
theorem dX1_freeNow_53 : decode cX1_freeNow 53 = .ok (.ireturn, 1) := by decide +kernel
theorem wd_1184 : (Cond.code ⟨"WebCourt$Counsel", "freeNow", "()I"⟩ prog_3_method_14_code (3 : Nat) (Option.some FieldType.int)) ∈ gtb := gtb_c5 115 (by decide +kernel) rfl
set_option maxHeartbeats 4000000 in
set_option maxRecDepth 100000 in
theorem T_X1_freeNow (l : Launch) (D : va_G) (cy : Nat → ClassId) (a : Nat → Nat) (u : St) (hJ : CI a u)   : Mi l D cy (cW cy a) yX1_freeNow (.code yX1_freeNow cX1_freeNow 3 (some .int)) (rmo 4 99) [.ref (a 36)] u (fun (r : Int32) (u' : St) => (CI a u') ∧ (KT u u')) := by
  refine Mi.of (own := RX1) rfl (by decide) (Nat.le_of_ble_eq_true rfl) ?_
  have hT : KT u u := KT.rf
  intro p e s m below meth c A Q ls C hret hO hl
  obtain ⟨hx, hb, hml, hown, ht, hK, hA⟩ := id C
  have hl : lv_has ls 3 [(0, .ref (a 36))] := hl
  refine lv_iconst (v := 0) hx hb dX1_freeNow_0 (by decide) ?_
  refine lv_istore_n (lv' := [(1, .int 0), (0, .ref (a 36))]) hx hb dX1_freeNow_1 rfl hl (by decide) rfl (fun ls hl => ?_)
  refine lv_iconst (v := 0) hx hb dX1_freeNow_2 (by decide) ?_
  refine lv_istore_n (lv' := [(2, .int 0), (1, .int 0), (0, .ref (a 36))]) hx hb dX1_freeNow_3 rfl hl (by decide) rfl (fun ls hl => ?_)
  have LP_4_k2 : ∀ (n : Nat) (u1 : St) (H : Heap) (locs : List Loc) (ls : Array Slot) (i_k2 : Int32) (w1_k2 : Int32), Wo D A (cW cy a u1) s.heap H locs → lv_has ls 3 [(2, .int i_k2), (1, .int w1_k2), (0, .ref (a 36))] → CI a u1 → KT u u1 → 0 ≤ i_k2.toInt ∧ i_k2.toInt ≤ 6 → 6 - i_k2.toInt < (n : Int) → W p l e (rmo 4 99) s m [.ref (a 36)].toArray below meth c H locs 0 0 Q (F0 m 4 ls []) := by
    intro n
    induction n with
    | zero =>
      intro u1 H locs ls i_k2 w1_k2 hO hl hJ hT iv0_k2 hm_k2
      exact absurd hm_k2 (by omega)
    | succ n ih_k2 =>
      intro u1 H locs ls i_k2 w1_k2 hO hl hJ hT iv0_k2 hm_k2
      refine lv_iload_n hx hb dX1_freeNow_4 rfl (lv_at hl 0 rfl) ?_
      refine lv_aload_n hx hb dX1_freeNow_5 rfl (lv_at hl 2 rfl) ?_
      refine gf_RX1_18 (v := .ref (a 28)) C hO 36 cW_36 rfl dX1_freeNow_6 ?_
      refine gf_RX1_34 (v := .ref (a 3)) C hO 28 cW_28 (congrArg (fun z : Nat => some (Value.ref z)) (CI_R0 hJ)) dX1_freeNow_9 ?_
      have g3 : 0 ≤ (fI u1 3 12).toInt ∧ (fI u1 3 12).toInt ≤ 6 := by have h := CI_3_12 hJ; exact h
      refine gf_RX1_44 (v := .int (fI u1 3 12)) C hO 3 cW_3 rfl dX1_freeNow_12 ?_
      refine cs_ge (tgt := 52) (X := (i_k2).toInt) (Y := ((fI u1 3 12)).toInt) hx hb dX1_freeNow_15 (by decide) rfl rfl (fun c4 => ?_) (fun c4 => ?_)
      · refine lv_iload_n hx hb dX1_freeNow_52 rfl (lv_at hl 1 rfl) ?_
        refine hret _ _ _ _ _ _ dX1_freeNow_53 rfl ?_ hO
        exact ⟨hJ, hT⟩
      · refine lv_aload_n hx hb dX1_freeNow_18 rfl (lv_at hl 2 rfl) ?_
        refine gf_RX1_18 (v := .ref (a 28)) C hO 36 cW_36 rfl dX1_freeNow_19 ?_
        refine lv_iload_n hx hb dX1_freeNow_22 rfl (lv_at hl 0 rfl) ?_
        refine cVi (w := cW cy a) (As := [.int i_k2]) (rest := []) C hO (T_X2_isHeld l D cy a _ (by exact hJ) (i_k2)) (cwV 1 ht (gV wd_1091 wd_930 wd_931 wd_115 wd_932) rfl rfl rfl hd_yX2_isHeld ⟨Nat.le_of_ble_eq_true rfl, Nat.le_of_ble_eq_true rfl⟩) 28 rfl cW_28 rfl rfl hl.1 (Nat.le_of_ble_eq_true rfl) dX1_freeNow_23 rfl ⟨Nat.zero_le _, Nat.zero_le _⟩ (fun r5 u6 H locs hp7 hO => ?_)
        obtain ⟨hr5, hu6⟩ := hp7
        rw [hu6] at hO
        rcases hr5 with ⟨hcr5, hvr5⟩ | ⟨hcr5, hvr5⟩
        · subst hvr5
          refine bn_eq (X := 1) hx hb dX1_freeNow_26 rfl (by omega) ?_ (tgt := 46) (by decide)
          refine lv_aload_n hx hb dX1_freeNow_29 rfl (lv_at hl 2 rfl) ?_
          refine gf_RX1_18 (v := .ref (a 28)) C hO 36 cW_36 rfl dX1_freeNow_30 ?_
          refine lv_iload_n hx hb dX1_freeNow_33 rfl (lv_at hl 0 rfl) ?_
          refine cVi (w := cW cy a) (As := [.int i_k2]) (rest := []) C hO (T_X2_judgedNow l D cy a _ (by exact hJ) (i_k2) (by first | omega | decide)) (cwV 1 ht (gV wd_1096 wd_850 wd_851 wd_115 wd_852) rfl rfl rfl hd_yX2_judgedNow ⟨Nat.le_of_ble_eq_true rfl, Nat.le_of_ble_eq_true rfl⟩) 28 rfl cW_28 rfl rfl hl.1 (Nat.le_of_ble_eq_true rfl) dX1_freeNow_34 rfl ⟨Nat.zero_le _, Nat.zero_le _⟩ (fun r8 u9 H locs hp10 hO => ?_)
          obtain ⟨hJ, hTu9⟩ := hp10
          have hT : KT u u9 := KT.tr (by exact hT) hTu9
          refine bs_le (tgt := 46) (X := (r8).toInt) hx hb dX1_freeNow_37 (by decide) rfl (fun c11 => ?_) (fun c11 => ?_)
          · have e12 : ((i_k2 + 1)).toInt = (i_k2).toInt + 1 := i_add rfl rfl (by omega)
            refine lv_iinc (v := (i_k2 + 1)) (lv' := [(2, .int (i_k2 + 1)), (1, .int w1_k2), (0, .ref (a 36))]) hx hb dX1_freeNow_46 hl (k := 0) rfl rfl (by decide) rfl (fun ls hl => ?_)
            refine lv_goto (tgt := 4) hx hb dX1_freeNow_49 (by decide) ?_
            exact ih_k2 _ _ _ _ ((i_k2 + 1)) (w1_k2) hO (lv_sub hl [0, 1, 2] rfl) (by exact hJ) (by exact hT) (by first | decide | omega) (by first | decide | omega)
          · refine lv_iload_n hx hb dX1_freeNow_40 rfl (lv_at hl 1 rfl) ?_
            refine lv_iconst (v := 1) hx hb dX1_freeNow_41 (by decide) ?_
            refine lv_iload_n hx hb dX1_freeNow_42 rfl (lv_at hl 0 rfl) ?_
            refine lv_ishl hx hb dX1_freeNow_43 ?_
            refine lv_topi (fun z13 ez13 => ?_)
            have g14 : 0 ≤ z13.toInt ∧ z13.toInt ≤ 2 ^ 5 := by rw [ez13]; exact i_shl1 rfl (by omega) (by omega) (by decide)
            refine lv_ior hx hb dX1_freeNow_44 ?_
            refine lv_topi (fun z15 ez15 => ?_)
            refine lv_istore_n (lv' := [(1, .int z15), (2, .int i_k2), (0, .ref (a 36))]) hx hb dX1_freeNow_45 rfl hl (by decide) rfl (fun ls hl => ?_)
            have e16 : ((i_k2 + 1)).toInt = (i_k2).toInt + 1 := i_add rfl rfl (by omega)
            refine lv_iinc (v := (i_k2 + 1)) (lv' := [(2, .int (i_k2 + 1)), (1, .int z15), (0, .ref (a 36))]) hx hb dX1_freeNow_46 hl (k := 1) rfl rfl (by decide) rfl (fun ls hl => ?_)
            refine lv_goto (tgt := 4) hx hb dX1_freeNow_49 (by decide) ?_
            exact ih_k2 _ _ _ _ ((i_k2 + 1)) (z15) hO (lv_sub hl [0, 1, 2] rfl) (by exact hJ) (by exact hT) (by first | decide | omega) (by first | decide | omega)
        · subst hvr5
          refine bt_eq (tgt := 46) (X := 0) hx hb dX1_freeNow_26 (by decide) rfl (by omega) ?_
          have e17 : ((i_k2 + 1)).toInt = (i_k2).toInt + 1 := i_add rfl rfl (by omega)
          refine lv_iinc (v := (i_k2 + 1)) (lv' := [(2, .int (i_k2 + 1)), (1, .int w1_k2), (0, .ref (a 36))]) hx hb dX1_freeNow_46 hl (k := 0) rfl rfl (by decide) rfl (fun ls hl => ?_)
          refine lv_goto (tgt := 4) hx hb dX1_freeNow_49 (by decide) ?_
          exact ih_k2 _ _ _ _ ((i_k2 + 1)) (w1_k2) hO (lv_sub hl [0, 1, 2] rfl) (by exact hJ) (by exact hT) (by first | decide | omega) (by first | decide | omega)
  exact LP_4_k2 4000 _ _ _ _ (0) (0) hO (lv_sub hl [0, 1, 2] rfl) (by exact hJ) (by exact hT) (by first | decide | omega) (by first | decide | omega)
theorem dX1_commonestPlea_0 : decode cX1_commonestPlea 0 = .ok (.iconst (-1), 1) := by decide +kernel
theorem dX1_commonestPlea_1 : decode cX1_commonestPlea 1 = .ok (.istore_n 1, 1) := by decide +kernel
theorem dX1_commonestPlea_2 : decode cX1_commonestPlea 2 = .ok (.iconst (-1), 1) := by decide +kernel
theorem dX1_commonestPlea_3 : decode cX1_commonestPlea 3 = .ok (.istore_n 2, 1) := by decide +kernel
theorem dX1_commonestPlea_4 : decode cX1_commonestPlea 4 = .ok (.iconst 0, 1) := by decide +kernel
theorem dX1_commonestPlea_5 : decode cX1_commonestPlea 5 = .ok (.istore_n 3, 1) := by decide +kernel
theorem dX1_commonestPlea_6 : decode cX1_commonestPlea 6 = .ok (.iload_n 3, 1) := by decide +kernel
theorem dX1_commonestPlea_7 : decode cX1_commonestPlea 7 = .ok (.aload_n 0, 1) := by decide +kernel
theorem dX1_commonestPlea_8 : decode cX1_commonestPlea 8 = .ok (.getfield 18, 3) := by decide +kernel
theorem dX1_commonestPlea_11 : decode cX1_commonestPlea 11 = .ok (.getfield 34, 3) := by decide +kernel
theorem dX1_commonestPlea_14 : decode cX1_commonestPlea 14 = .ok (.getfield 38, 3) := by decide +kernel
theorem dX1_commonestPlea_17 : decode cX1_commonestPlea 17 = .ok (.if_icmp .ge 75, 3) := by decide +kernel
theorem dX1_commonestPlea_20 : decode cX1_commonestPlea 20 = .ok (.iconst 0, 1) := by decide +kernel
theorem dX1_commonestPlea_21 : decode cX1_commonestPlea 21 = .ok (.istore 4, 2) := by decide +kernel
theorem dX1_commonestPlea_23 : decode cX1_commonestPlea 23 = .ok (.iconst 0, 1) := by decide +kernel
theorem dX1_commonestPlea_24 : decode cX1_commonestPlea 24 = .ok (.istore 5, 2) := by decide +kernel
theorem dX1_commonestPlea_26 : decode cX1_commonestPlea 26 = .ok (.iload 5, 2) := by decide +kernel
theorem dX1_commonestPlea_28 : decode cX1_commonestPlea 28 = .ok (.aload_n 0, 1) := by decide +kernel
theorem dX1_commonestPlea_29 : decode cX1_commonestPlea 29 = .ok (.getfield 18, 3) := by decide +kernel
theorem dX1_commonestPlea_32 : decode cX1_commonestPlea 32 = .ok (.getfield 34, 3) := by decide +kernel
theorem dX1_commonestPlea_35 : decode cX1_commonestPlea 35 = .ok (.getfield 44, 3) := by decide +kernel
theorem dX1_commonestPlea_38 : decode cX1_commonestPlea 38 = .ok (.if_icmp .ge 37, 3) := by decide +kernel
theorem dX1_commonestPlea_41 : decode cX1_commonestPlea 41 = .ok (.aload_n 0, 1) := by decide +kernel
theorem dX1_commonestPlea_42 : decode cX1_commonestPlea 42 = .ok (.getfield 18, 3) := by decide +kernel
theorem dX1_commonestPlea_45 : decode cX1_commonestPlea 45 = .ok (.iload 5, 2) := by decide +kernel
theorem dX1_commonestPlea_47 : decode cX1_commonestPlea 47 = .ok (.invokevirtual 47, 3) := by decide +kernel
theorem dX1_commonestPlea_50 : decode cX1_commonestPlea 50 = .ok (.ifCond .eq 19, 3) := by decide +kernel
theorem dX1_commonestPlea_53 : decode cX1_commonestPlea 53 = .ok (.aload_n 0, 1) := by decide +kernel
theorem dX1_commonestPlea_54 : decode cX1_commonestPlea 54 = .ok (.getfield 18, 3) := by decide +kernel
theorem dX1_commonestPlea_57 : decode cX1_commonestPlea 57 = .ok (.iload 5, 2) := by decide +kernel
theorem dX1_commonestPlea_59 : decode cX1_commonestPlea 59 = .ok (.iload_n 3, 1) := by decide +kernel
theorem dX1_commonestPlea_60 : decode cX1_commonestPlea 60 = .ok (.invokevirtual 85, 3) := by decide +kernel
theorem dX1_commonestPlea_63 : decode cX1_commonestPlea 63 = .ok (.ifCond .eq 6, 3) := by decide +kernel
theorem dX1_commonestPlea_66 : decode cX1_commonestPlea 66 = .ok (.iinc 4 1, 3) := by decide +kernel
theorem dX1_commonestPlea_69 : decode cX1_commonestPlea 69 = .ok (.iinc 5 1, 3) := by decide +kernel
theorem dX1_commonestPlea_72 : decode cX1_commonestPlea 72 = .ok (.goto (-46), 3) := by decide +kernel
theorem dX1_commonestPlea_75 : decode cX1_commonestPlea 75 = .ok (.iload 4, 2) := by decide +kernel
theorem dX1_commonestPlea_77 : decode cX1_commonestPlea 77 = .ok (.iload_n 2, 1) := by decide +kernel
theorem dX1_commonestPlea_78 : decode cX1_commonestPlea 78 = .ok (.if_icmp .le 8, 3) := by decide +kernel
theorem dX1_commonestPlea_81 : decode cX1_commonestPlea 81 = .ok (.iload 4, 2) := by decide +kernel
theorem dX1_commonestPlea_83 : decode cX1_commonestPlea 83 = .ok (.istore_n 2, 1) := by decide +kernel
theorem dX1_commonestPlea_84 : decode cX1_commonestPlea 84 = .ok (.iload_n 3, 1) := by decide +kernel
theorem dX1_commonestPlea_85 : decode cX1_commonestPlea 85 = .ok (.istore_n 1, 1) := by decide +kernel
theorem dX1_commonestPlea_86 : decode cX1_commonestPlea 86 = .ok (.iinc 3 1, 3) := by decide +kernel
theorem dX1_commonestPlea_89 : decode cX1_commonestPlea 89 = .ok (.goto (-83), 3) := by decide +kernel
theorem dX1_commonestPlea_92 : decode cX1_commonestPlea 92 = .ok (.iload_n 1, 1) := by decide +kernel
theorem dX1_commonestPlea_93 : decode cX1_commonestPlea 93 = .ok (.ireturn, 1) := by decide +kernel
theorem wd_1197 : (Cond.code ⟨"WebCourt$Counsel", "commonestPlea", "()I"⟩ prog_3_method_15_code (6 : Nat) (Option.some FieldType.int)) ∈ gtb := gtb_c5 128 (by decide +kernel) rfl
theorem wd_1198 : (Cond.methodLink "WebCourt$Counsel" (85 : Nat) ⟨"WebCourt$Court", "pleads", "(II)Z"⟩) ∈ gtb := gtb_c5 129 (by decide +kernel) rfl
theorem wd_945 : (Cond.instanceMethod ⟨"WebCourt$Court", "pleads", "(II)Z"⟩) ∈ gtb := gtb_c4 116 (by decide +kernel) rfl
theorem wd_946 : (Cond.selects "WebCourt$Court" ⟨"WebCourt$Court", "pleads", "(II)Z"⟩ ⟨"WebCourt$Court", "pleads", "(II)Z"⟩) ∈ gtb := gtb_c4 117 (by decide +kernel) rfl
theorem hd_yX2_pleads : yX2_pleads.cls = RX2 ∧ yX2_pleads.cls ≠ "java/lang/invoke/MethodHandle" ∧ yX2_pleads.cls ≠ "java/lang/invoke/VarHandle" ∧ (parseMethodDescriptor yX2_pleads.desc).map (fun d => d.parameters.length) = some 2 := by decide +kernel
set_option maxHeartbeats 4000000 in
set_option maxRecDepth 100000 in
theorem T_X1_commonestPlea (l : Launch) (D : va_G) (cy : Nat → ClassId) (a : Nat → Nat) (u : St) (hJ : CI a u)   : Mi l D cy (cW cy a) yX1_commonestPlea (.code yX1_commonestPlea cX1_commonestPlea 6 (some .int)) (rmo 2 42) [.ref (a 36)] u (fun (r : Int32) (u' : St) => u' = u) := by
  refine Mi.of (own := RX1) rfl (by decide) (Nat.le_of_ble_eq_true rfl) ?_
  have hT : KT u u := KT.rf
  intro p e s m below meth c A Q ls C hret hO hl
  obtain ⟨hx, hb, hml, hown, ht, hK, hA⟩ := id C
  have hl : lv_has ls 6 [(0, .ref (a 36))] := hl
  refine lv_iconst (v := (-1)) hx hb dX1_commonestPlea_0 (by decide) ?_
  refine lv_istore_n (lv' := [(1, .int (-1)), (0, .ref (a 36))]) hx hb dX1_commonestPlea_1 rfl hl (by decide) rfl (fun ls hl => ?_)
  refine lv_iconst (v := (-1)) hx hb dX1_commonestPlea_2 (by decide) ?_
  refine lv_istore_n (lv' := [(2, .int (-1)), (1, .int (-1)), (0, .ref (a 36))]) hx hb dX1_commonestPlea_3 rfl hl (by decide) rfl (fun ls hl => ?_)
  refine lv_iconst (v := 0) hx hb dX1_commonestPlea_4 (by decide) ?_
  refine lv_istore_n (lv' := [(3, .int 0), (2, .int (-1)), (1, .int (-1)), (0, .ref (a 36))]) hx hb dX1_commonestPlea_5 rfl hl (by decide) rfl (fun ls hl => ?_)
  have LP_6_k1 : ∀ (n : Nat) (H : Heap) (locs : List Loc) (ls : Array Slot) (i_k1 : Int32) (w2_k1 : Int32) (w1_k1 : Int32), Wo D A (cW cy a u) s.heap H locs → lv_has ls 6 [(3, .int i_k1), (2, .int w2_k1), (1, .int w1_k1), (0, .ref (a 36))] → 0 ≤ i_k1.toInt ∧ i_k1.toInt ≤ 8 → 8 - i_k1.toInt < (n : Int) → W p l e (rmo 2 42) s m [.ref (a 36)].toArray below meth c H locs 0 0 Q (F0 m 6 ls []) := by
    intro n
    induction n with
    | zero =>
      intro H locs ls i_k1 w2_k1 w1_k1 hO hl iv0_k1 hm_k1
      exact absurd hm_k1 (by omega)
    | succ n ih_k1 =>
      intro H locs ls i_k1 w2_k1 w1_k1 hO hl iv0_k1 hm_k1
      refine lv_iload_n hx hb dX1_commonestPlea_6 rfl (lv_at hl 0 rfl) ?_
      refine lv_aload_n hx hb dX1_commonestPlea_7 rfl (lv_at hl 3 rfl) ?_
      refine gf_RX1_18 (v := .ref (a 28)) C hO 36 cW_36 rfl dX1_commonestPlea_8 ?_
      refine gf_RX1_34 (v := .ref (a 3)) C hO 28 cW_28 (congrArg (fun z : Nat => some (Value.ref z)) (CI_R0 hJ)) dX1_commonestPlea_11 ?_
      have g2 : 0 ≤ (fI u 3 11).toInt ∧ (fI u 3 11).toInt ≤ 8 := by have h := CI_3_11 hJ; exact h
      refine gf_RX1_38 (v := .int (fI u 3 11)) C hO 3 cW_3 rfl dX1_commonestPlea_14 ?_
      refine cs_ge (tgt := 92) (X := (i_k1).toInt) (Y := ((fI u 3 11)).toInt) hx hb dX1_commonestPlea_17 (by decide) rfl rfl (fun c3 => ?_) (fun c3 => ?_)
      · refine lv_iload_n hx hb dX1_commonestPlea_92 rfl (lv_at hl 2 rfl) ?_
        refine hret _ _ _ _ _ _ dX1_commonestPlea_93 rfl ?_ hO
        exact rfl
      · refine lv_iconst (v := 0) hx hb dX1_commonestPlea_20 (by decide) ?_
        refine lv_istore (lv' := [(4, .int 0), (3, .int i_k1), (2, .int w2_k1), (1, .int w1_k1), (0, .ref (a 36))]) hx hb dX1_commonestPlea_21 hl (by decide) rfl (fun ls hl => ?_)
        refine lv_iconst (v := 0) hx hb dX1_commonestPlea_23 (by decide) ?_
        refine lv_istore (lv' := [(5, .int 0), (4, .int 0), (3, .int i_k1), (2, .int w2_k1), (1, .int w1_k1), (0, .ref (a 36))]) hx hb dX1_commonestPlea_24 hl (by decide) rfl (fun ls hl => ?_)
        have LP_26_k4 : ∀ (n : Nat) (H : Heap) (locs : List Loc) (ls : Array Slot) (i_k4 : Int32) (w4_k4 : Int32), Wo D A (cW cy a u) s.heap H locs → lv_has ls 6 [(5, .int i_k4), (4, .int w4_k4), (3, .int i_k1), (2, .int w2_k1), (1, .int w1_k1), (0, .ref (a 36))] → 0 ≤ i_k4.toInt ∧ i_k4.toInt ≤ 6 → 6 - i_k4.toInt < (n : Int) → W p l e (rmo 2 42) s m [.ref (a 36)].toArray below meth c H locs 0 0 Q (F0 m 26 ls []) := by
          intro n
          induction n with
          | zero =>
            intro H locs ls i_k4 w4_k4 hO hl iv0_k4 hm_k4
            exact absurd hm_k4 (by omega)
          | succ n ih_k4 =>
            intro H locs ls i_k4 w4_k4 hO hl iv0_k4 hm_k4
            refine lv_iload hx hb dX1_commonestPlea_26 (lv_at hl 0 rfl) ?_
            refine lv_aload_n hx hb dX1_commonestPlea_28 rfl (lv_at hl 5 rfl) ?_
            refine gf_RX1_18 (v := .ref (a 28)) C hO 36 cW_36 rfl dX1_commonestPlea_29 ?_
            refine gf_RX1_34 (v := .ref (a 3)) C hO 28 cW_28 (congrArg (fun z : Nat => some (Value.ref z)) (CI_R0 hJ)) dX1_commonestPlea_32 ?_
            have g5 : 0 ≤ (fI u 3 12).toInt ∧ (fI u 3 12).toInt ≤ 6 := by have h := CI_3_12 hJ; exact h
            refine gf_RX1_44 (v := .int (fI u 3 12)) C hO 3 cW_3 rfl dX1_commonestPlea_35 ?_
            refine cs_ge (tgt := 75) (X := (i_k4).toInt) (Y := ((fI u 3 12)).toInt) hx hb dX1_commonestPlea_38 (by decide) rfl rfl (fun c6 => ?_) (fun c6 => ?_)
            · refine lv_iload hx hb dX1_commonestPlea_75 (lv_at hl 1 rfl) ?_
              refine lv_iload_n hx hb dX1_commonestPlea_77 rfl (lv_at hl 3 rfl) ?_
              refine cs_le (tgt := 86) (X := (w4_k4).toInt) (Y := (w2_k1).toInt) hx hb dX1_commonestPlea_78 (by decide) rfl rfl (fun c7 => ?_) (fun c7 => ?_)
              · have e8 : ((i_k1 + 1)).toInt = (i_k1).toInt + 1 := i_add rfl rfl (by omega)
                refine lv_iinc (v := (i_k1 + 1)) (lv' := [(3, .int (i_k1 + 1)), (5, .int i_k4), (4, .int w4_k4), (2, .int w2_k1), (1, .int w1_k1), (0, .ref (a 36))]) hx hb dX1_commonestPlea_86 hl (k := 2) rfl rfl (by decide) rfl (fun ls hl => ?_)
                refine lv_goto (tgt := 6) hx hb dX1_commonestPlea_89 (by decide) ?_
                exact ih_k1 _ _ _ ((i_k1 + 1)) (w2_k1) (w1_k1) hO (lv_sub hl [0, 3, 4, 5] rfl) (by first | decide | omega) (by first | decide | omega)
              · refine lv_iload hx hb dX1_commonestPlea_81 (lv_at hl 1 rfl) ?_
                refine lv_istore_n (lv' := [(2, .int w4_k4), (5, .int i_k4), (4, .int w4_k4), (3, .int i_k1), (1, .int w1_k1), (0, .ref (a 36))]) hx hb dX1_commonestPlea_83 rfl hl (by decide) rfl (fun ls hl => ?_)
                refine lv_iload_n hx hb dX1_commonestPlea_84 rfl (lv_at hl 3 rfl) ?_
                refine lv_istore_n (lv' := [(1, .int i_k1), (2, .int w4_k4), (5, .int i_k4), (4, .int w4_k4), (3, .int i_k1), (0, .ref (a 36))]) hx hb dX1_commonestPlea_85 rfl hl (by decide) rfl (fun ls hl => ?_)
                have e9 : ((i_k1 + 1)).toInt = (i_k1).toInt + 1 := i_add rfl rfl (by omega)
                refine lv_iinc (v := (i_k1 + 1)) (lv' := [(3, .int (i_k1 + 1)), (1, .int i_k1), (2, .int w4_k4), (5, .int i_k4), (4, .int w4_k4), (0, .ref (a 36))]) hx hb dX1_commonestPlea_86 hl (k := 4) rfl rfl (by decide) rfl (fun ls hl => ?_)
                refine lv_goto (tgt := 6) hx hb dX1_commonestPlea_89 (by decide) ?_
                exact ih_k1 _ _ _ ((i_k1 + 1)) (w4_k4) (i_k1) hO (lv_sub hl [0, 2, 1, 5] rfl) (by first | decide | omega) (by first | decide | omega)
            · refine lv_aload_n hx hb dX1_commonestPlea_41 rfl (lv_at hl 5 rfl) ?_
              refine gf_RX1_18 (v := .ref (a 28)) C hO 36 cW_36 rfl dX1_commonestPlea_42 ?_
              refine lv_iload hx hb dX1_commonestPlea_45 (lv_at hl 0 rfl) ?_
              refine cVi (w := cW cy a) (As := [.int i_k4]) (rest := []) C hO (T_X2_isHeld l D cy a _ (by exact hJ) (i_k4)) (cwV 1 ht (gV wd_1091 wd_930 wd_931 wd_115 wd_932) rfl rfl rfl hd_yX2_isHeld ⟨Nat.le_of_ble_eq_true rfl, Nat.le_of_ble_eq_true rfl⟩) 28 rfl cW_28 rfl rfl hl.1 (Nat.le_of_ble_eq_true rfl) dX1_commonestPlea_47 rfl ⟨Nat.zero_le _, Nat.zero_le _⟩ (fun r10 u11 H locs hp12 hO => ?_)
              obtain ⟨hr10, hu11⟩ := hp12
              rw [hu11] at hO
              rcases hr10 with ⟨hcr10, hvr10⟩ | ⟨hcr10, hvr10⟩
              · subst hvr10
                refine bn_eq (X := 1) hx hb dX1_commonestPlea_50 rfl (by omega) ?_ (tgt := 69) (by decide)
                refine lv_aload_n hx hb dX1_commonestPlea_53 rfl (lv_at hl 5 rfl) ?_
                refine gf_RX1_18 (v := .ref (a 28)) C hO 36 cW_36 rfl dX1_commonestPlea_54 ?_
                refine lv_iload hx hb dX1_commonestPlea_57 (lv_at hl 0 rfl) ?_
                refine lv_iload_n hx hb dX1_commonestPlea_59 rfl (lv_at hl 2 rfl) ?_
                refine cVi (w := cW cy a) (As := [.int i_k4, .int i_k1]) (rest := []) C hO (T_X2_pleads l D cy a _ (by exact hJ) (i_k4) (i_k1) (by first | omega | decide)) (cwV 2 ht (gV wd_1198 wd_945 wd_946 wd_115 wd_947) rfl rfl rfl hd_yX2_pleads ⟨Nat.le_of_ble_eq_true rfl, Nat.le_of_ble_eq_true rfl⟩) 28 rfl cW_28 rfl rfl hl.1 (Nat.le_of_ble_eq_true rfl) dX1_commonestPlea_60 rfl ⟨Nat.zero_le _, Nat.zero_le _⟩ (fun r13 u14 H locs hp15 hO => ?_)
                obtain ⟨hr13, hu14⟩ := hp15
                have gr13 : 0 ≤ r13.toInt ∧ r13.toInt ≤ 1 := by rcases hr13 with h | h <;> rw [h] <;> decide
                rw [hu14] at hO
                refine bs_eq (tgt := 69) (X := (r13).toInt) hx hb dX1_commonestPlea_63 (by decide) rfl (fun c16 => ?_) (fun c16 => ?_)
                · have e17 : ((i_k4 + 1)).toInt = (i_k4).toInt + 1 := i_add rfl rfl (by omega)
                  refine lv_iinc (v := (i_k4 + 1)) (lv' := [(5, .int (i_k4 + 1)), (4, .int w4_k4), (3, .int i_k1), (2, .int w2_k1), (1, .int w1_k1), (0, .ref (a 36))]) hx hb dX1_commonestPlea_69 hl (k := 0) rfl rfl (by decide) rfl (fun ls hl => ?_)
                  refine lv_goto (tgt := 26) hx hb dX1_commonestPlea_72 (by decide) ?_
                  exact ih_k4 _ _ _ ((i_k4 + 1)) (w4_k4) hO (lv_sub hl [0, 1, 2, 3, 4, 5] rfl) (by first | decide | omega) (by first | decide | omega)
                · refine lv_iinc (v := (w4_k4 + 1)) (lv' := [(4, .int (w4_k4 + 1)), (5, .int i_k4), (3, .int i_k1), (2, .int w2_k1), (1, .int w1_k1), (0, .ref (a 36))]) hx hb dX1_commonestPlea_66 hl (k := 1) rfl rfl (by decide) rfl (fun ls hl => ?_)
                  have e18 : ((i_k4 + 1)).toInt = (i_k4).toInt + 1 := i_add rfl rfl (by omega)
                  refine lv_iinc (v := (i_k4 + 1)) (lv' := [(5, .int (i_k4 + 1)), (4, .int (w4_k4 + 1)), (3, .int i_k1), (2, .int w2_k1), (1, .int w1_k1), (0, .ref (a 36))]) hx hb dX1_commonestPlea_69 hl (k := 1) rfl rfl (by decide) rfl (fun ls hl => ?_)
                  refine lv_goto (tgt := 26) hx hb dX1_commonestPlea_72 (by decide) ?_
                  exact ih_k4 _ _ _ ((i_k4 + 1)) ((w4_k4 + 1)) hO (lv_sub hl [0, 1, 2, 3, 4, 5] rfl) (by first | decide | omega) (by first | decide | omega)
              · subst hvr10
                refine bt_eq (tgt := 69) (X := 0) hx hb dX1_commonestPlea_50 (by decide) rfl (by omega) ?_
                have e19 : ((i_k4 + 1)).toInt = (i_k4).toInt + 1 := i_add rfl rfl (by omega)
                refine lv_iinc (v := (i_k4 + 1)) (lv' := [(5, .int (i_k4 + 1)), (4, .int w4_k4), (3, .int i_k1), (2, .int w2_k1), (1, .int w1_k1), (0, .ref (a 36))]) hx hb dX1_commonestPlea_69 hl (k := 0) rfl rfl (by decide) rfl (fun ls hl => ?_)
                refine lv_goto (tgt := 26) hx hb dX1_commonestPlea_72 (by decide) ?_
                exact ih_k4 _ _ _ ((i_k4 + 1)) (w4_k4) hO (lv_sub hl [0, 1, 2, 3, 4, 5] rfl) (by first | decide | omega) (by first | decide | omega)
        exact LP_26_k4 4000 _ _ _ (0) (0) hO (lv_sub hl [0, 1, 2, 3, 4, 5] rfl) (by first | decide | omega) (by first | decide | omega)
  exact LP_6_k1 4000 _ _ _ (0) ((-1)) ((-1)) hO (lv_sub hl [0, 1, 2, 3] rfl) (by first | decide | omega) (by first | decide | omega)
theorem dX1_greatestVerdict_0 : decode cX1_greatestVerdict 0 = .ok (.iconst (-1), 1) := by decide +kernel
theorem dX1_greatestVerdict_1 : decode cX1_greatestVerdict 1 = .ok (.istore_n 1, 1) := by decide +kernel
theorem dX1_greatestVerdict_2 : decode cX1_greatestVerdict 2 = .ok (.iconst 0, 1) := by decide +kernel
theorem dX1_greatestVerdict_3 : decode cX1_greatestVerdict 3 = .ok (.istore_n 2, 1) := by decide +kernel
theorem dX1_greatestVerdict_4 : decode cX1_greatestVerdict 4 = .ok (.iconst 0, 1) := by decide +kernel
theorem dX1_greatestVerdict_5 : decode cX1_greatestVerdict 5 = .ok (.istore_n 3, 1) := by decide +kernel
theorem dX1_greatestVerdict_6 : decode cX1_greatestVerdict 6 = .ok (.iload_n 3, 1) := by decide +kernel
theorem dX1_greatestVerdict_7 : decode cX1_greatestVerdict 7 = .ok (.aload_n 0, 1) := by decide +kernel
theorem dX1_greatestVerdict_8 : decode cX1_greatestVerdict 8 = .ok (.getfield 18, 3) := by decide +kernel
theorem dX1_greatestVerdict_11 : decode cX1_greatestVerdict 11 = .ok (.getfield 34, 3) := by decide +kernel
theorem dX1_greatestVerdict_14 : decode cX1_greatestVerdict 14 = .ok (.getfield 44, 3) := by decide +kernel
theorem dX1_greatestVerdict_17 : decode cX1_greatestVerdict 17 = .ok (.if_icmp .ge 49, 3) := by decide +kernel
theorem dX1_greatestVerdict_20 : decode cX1_greatestVerdict 20 = .ok (.aload_n 0, 1) := by decide +kernel
theorem dX1_greatestVerdict_21 : decode cX1_greatestVerdict 21 = .ok (.getfield 18, 3) := by decide +kernel
theorem dX1_greatestVerdict_24 : decode cX1_greatestVerdict 24 = .ok (.iload_n 3, 1) := by decide +kernel
theorem dX1_greatestVerdict_25 : decode cX1_greatestVerdict 25 = .ok (.invokevirtual 47, 3) := by decide +kernel
theorem dX1_greatestVerdict_28 : decode cX1_greatestVerdict 28 = .ok (.ifCond .ne 6, 3) := by decide +kernel
theorem dX1_greatestVerdict_31 : decode cX1_greatestVerdict 31 = .ok (.goto 29, 3) := by decide +kernel
theorem dX1_greatestVerdict_34 : decode cX1_greatestVerdict 34 = .ok (.aload_n 0, 1) := by decide +kernel
theorem dX1_greatestVerdict_35 : decode cX1_greatestVerdict 35 = .ok (.getfield 18, 3) := by decide +kernel
theorem dX1_greatestVerdict_38 : decode cX1_greatestVerdict 38 = .ok (.iload_n 3, 1) := by decide +kernel
theorem dX1_greatestVerdict_39 : decode cX1_greatestVerdict 39 = .ok (.invokevirtual 69, 3) := by decide +kernel
theorem dX1_greatestVerdict_42 : decode cX1_greatestVerdict 42 = .ok (.istore 4, 2) := by decide +kernel
theorem dX1_greatestVerdict_44 : decode cX1_greatestVerdict 44 = .ok (.iload_n 1, 1) := by decide +kernel
theorem dX1_greatestVerdict_45 : decode cX1_greatestVerdict 45 = .ok (.iconst (-1), 1) := by decide +kernel
theorem dX1_greatestVerdict_46 : decode cX1_greatestVerdict 46 = .ok (.if_icmp .eq 9, 3) := by decide +kernel
theorem dX1_greatestVerdict_49 : decode cX1_greatestVerdict 49 = .ok (.iload 4, 2) := by decide +kernel
theorem dX1_greatestVerdict_51 : decode cX1_greatestVerdict 51 = .ok (.iload_n 2, 1) := by decide +kernel
theorem dX1_greatestVerdict_52 : decode cX1_greatestVerdict 52 = .ok (.if_icmp .le 8, 3) := by decide +kernel
theorem dX1_greatestVerdict_55 : decode cX1_greatestVerdict 55 = .ok (.iload 4, 2) := by decide +kernel
theorem dX1_greatestVerdict_57 : decode cX1_greatestVerdict 57 = .ok (.istore_n 2, 1) := by decide +kernel
theorem dX1_greatestVerdict_58 : decode cX1_greatestVerdict 58 = .ok (.iload_n 3, 1) := by decide +kernel
theorem dX1_greatestVerdict_59 : decode cX1_greatestVerdict 59 = .ok (.istore_n 1, 1) := by decide +kernel
theorem dX1_greatestVerdict_60 : decode cX1_greatestVerdict 60 = .ok (.iinc 3 1, 3) := by decide +kernel
theorem dX1_greatestVerdict_63 : decode cX1_greatestVerdict 63 = .ok (.goto (-57), 3) := by decide +kernel
theorem dX1_greatestVerdict_66 : decode cX1_greatestVerdict 66 = .ok (.iload_n 1, 1) := by decide +kernel
theorem dX1_greatestVerdict_67 : decode cX1_greatestVerdict 67 = .ok (.ireturn, 1) := by decide +kernel
theorem wd_1206 : (Cond.code ⟨"WebCourt$Counsel", "greatestVerdict", "()I"⟩ prog_3_method_16_code (5 : Nat) (Option.some FieldType.int)) ∈ gtb := gtb_c5 137 (by decide +kernel) rfl
set_option maxHeartbeats 4000000 in
set_option maxRecDepth 100000 in
theorem T_X1_greatestVerdict (l : Launch) (D : va_G) (cy : Nat → ClassId) (a : Nat → Nat) (u : St) (hJ : CI a u)   : Mi l D cy (cW cy a) yX1_greatestVerdict (.code yX1_greatestVerdict cX1_greatestVerdict 5 (some .int)) (rmo 4 99) [.ref (a 36)] u (fun (r : Int32) (u' : St) => (CI a u') ∧ (KT u u')) := by
  refine Mi.of (own := RX1) rfl (by decide) (Nat.le_of_ble_eq_true rfl) ?_
  have hT : KT u u := KT.rf
  intro p e s m below meth c A Q ls C hret hO hl
  obtain ⟨hx, hb, hml, hown, ht, hK, hA⟩ := id C
  have hl : lv_has ls 5 [(0, .ref (a 36))] := hl
  refine lv_iconst (v := (-1)) hx hb dX1_greatestVerdict_0 (by decide) ?_
  refine lv_istore_n (lv' := [(1, .int (-1)), (0, .ref (a 36))]) hx hb dX1_greatestVerdict_1 rfl hl (by decide) rfl (fun ls hl => ?_)
  refine lv_iconst (v := 0) hx hb dX1_greatestVerdict_2 (by decide) ?_
  refine lv_istore_n (lv' := [(2, .int 0), (1, .int (-1)), (0, .ref (a 36))]) hx hb dX1_greatestVerdict_3 rfl hl (by decide) rfl (fun ls hl => ?_)
  refine lv_iconst (v := 0) hx hb dX1_greatestVerdict_4 (by decide) ?_
  refine lv_istore_n (lv' := [(3, .int 0), (2, .int 0), (1, .int (-1)), (0, .ref (a 36))]) hx hb dX1_greatestVerdict_5 rfl hl (by decide) rfl (fun ls hl => ?_)
  have LP_6_k2 : ∀ (n : Nat) (u1 : St) (H : Heap) (locs : List Loc) (ls : Array Slot) (i_k2 : Int32) (w2_k2 : Int32) (w1_k2 : Int32), Wo D A (cW cy a u1) s.heap H locs → lv_has ls 5 [(3, .int i_k2), (2, .int w2_k2), (1, .int w1_k2), (0, .ref (a 36))] → CI a u1 → KT u u1 → 0 ≤ i_k2.toInt ∧ i_k2.toInt ≤ 6 → 6 - i_k2.toInt < (n : Int) → W p l e (rmo 4 99) s m [.ref (a 36)].toArray below meth c H locs 0 0 Q (F0 m 6 ls []) := by
    intro n
    induction n with
    | zero =>
      intro u1 H locs ls i_k2 w2_k2 w1_k2 hO hl hJ hT iv0_k2 hm_k2
      exact absurd hm_k2 (by omega)
    | succ n ih_k2 =>
      intro u1 H locs ls i_k2 w2_k2 w1_k2 hO hl hJ hT iv0_k2 hm_k2
      refine lv_iload_n hx hb dX1_greatestVerdict_6 rfl (lv_at hl 0 rfl) ?_
      refine lv_aload_n hx hb dX1_greatestVerdict_7 rfl (lv_at hl 3 rfl) ?_
      refine gf_RX1_18 (v := .ref (a 28)) C hO 36 cW_36 rfl dX1_greatestVerdict_8 ?_
      refine gf_RX1_34 (v := .ref (a 3)) C hO 28 cW_28 (congrArg (fun z : Nat => some (Value.ref z)) (CI_R0 hJ)) dX1_greatestVerdict_11 ?_
      have g3 : 0 ≤ (fI u1 3 12).toInt ∧ (fI u1 3 12).toInt ≤ 6 := by have h := CI_3_12 hJ; exact h
      refine gf_RX1_44 (v := .int (fI u1 3 12)) C hO 3 cW_3 rfl dX1_greatestVerdict_14 ?_
      refine cs_ge (tgt := 66) (X := (i_k2).toInt) (Y := ((fI u1 3 12)).toInt) hx hb dX1_greatestVerdict_17 (by decide) rfl rfl (fun c4 => ?_) (fun c4 => ?_)
      · refine lv_iload_n hx hb dX1_greatestVerdict_66 rfl (lv_at hl 2 rfl) ?_
        refine hret _ _ _ _ _ _ dX1_greatestVerdict_67 rfl ?_ hO
        exact ⟨hJ, hT⟩
      · refine lv_aload_n hx hb dX1_greatestVerdict_20 rfl (lv_at hl 3 rfl) ?_
        refine gf_RX1_18 (v := .ref (a 28)) C hO 36 cW_36 rfl dX1_greatestVerdict_21 ?_
        refine lv_iload_n hx hb dX1_greatestVerdict_24 rfl (lv_at hl 0 rfl) ?_
        refine cVi (w := cW cy a) (As := [.int i_k2]) (rest := []) C hO (T_X2_isHeld l D cy a _ (by exact hJ) (i_k2)) (cwV 1 ht (gV wd_1091 wd_930 wd_931 wd_115 wd_932) rfl rfl rfl hd_yX2_isHeld ⟨Nat.le_of_ble_eq_true rfl, Nat.le_of_ble_eq_true rfl⟩) 28 rfl cW_28 rfl rfl hl.1 (Nat.le_of_ble_eq_true rfl) dX1_greatestVerdict_25 rfl ⟨Nat.zero_le _, Nat.zero_le _⟩ (fun r5 u6 H locs hp7 hO => ?_)
        obtain ⟨hr5, hu6⟩ := hp7
        rw [hu6] at hO
        rcases hr5 with ⟨hcr5, hvr5⟩ | ⟨hcr5, hvr5⟩
        · subst hvr5
          refine bt_ne (tgt := 34) (X := 1) hx hb dX1_greatestVerdict_28 (by decide) rfl (by omega) ?_
          refine lv_aload_n hx hb dX1_greatestVerdict_34 rfl (lv_at hl 3 rfl) ?_
          refine gf_RX1_18 (v := .ref (a 28)) C hO 36 cW_36 rfl dX1_greatestVerdict_35 ?_
          refine lv_iload_n hx hb dX1_greatestVerdict_38 rfl (lv_at hl 0 rfl) ?_
          refine cVi (w := cW cy a) (As := [.int i_k2]) (rest := []) C hO (T_X2_judgedNow l D cy a _ (by exact hJ) (i_k2) (by first | omega | decide)) (cwV 1 ht (gV wd_1096 wd_850 wd_851 wd_115 wd_852) rfl rfl rfl hd_yX2_judgedNow ⟨Nat.le_of_ble_eq_true rfl, Nat.le_of_ble_eq_true rfl⟩) 28 rfl cW_28 rfl rfl hl.1 (Nat.le_of_ble_eq_true rfl) dX1_greatestVerdict_39 rfl ⟨Nat.zero_le _, Nat.zero_le _⟩ (fun r8 u9 H locs hp10 hO => ?_)
          obtain ⟨hJ, hTu9⟩ := hp10
          have hT : KT u u9 := KT.tr (by exact hT) hTu9
          refine lv_istore (lv' := [(4, .int r8), (3, .int i_k2), (2, .int w2_k2), (1, .int w1_k2), (0, .ref (a 36))]) hx hb dX1_greatestVerdict_42 hl (by decide) rfl (fun ls hl => ?_)
          refine lv_iload_n hx hb dX1_greatestVerdict_44 rfl (lv_at hl 3 rfl) ?_
          refine lv_iconst (v := (-1)) hx hb dX1_greatestVerdict_45 (by decide) ?_
          refine cs_eq (tgt := 55) (X := (w1_k2).toInt) (Y := (-1)) hx hb dX1_greatestVerdict_46 (by decide) rfl rfl (fun c11 => ?_) (fun c11 => ?_)
          · refine lv_iload hx hb dX1_greatestVerdict_55 (lv_at hl 0 rfl) ?_
            refine lv_istore_n (lv' := [(2, .int r8), (4, .int r8), (3, .int i_k2), (1, .int w1_k2), (0, .ref (a 36))]) hx hb dX1_greatestVerdict_57 rfl hl (by decide) rfl (fun ls hl => ?_)
            refine lv_iload_n hx hb dX1_greatestVerdict_58 rfl (lv_at hl 2 rfl) ?_
            refine lv_istore_n (lv' := [(1, .int i_k2), (2, .int r8), (4, .int r8), (3, .int i_k2), (0, .ref (a 36))]) hx hb dX1_greatestVerdict_59 rfl hl (by decide) rfl (fun ls hl => ?_)
            have e12 : ((i_k2 + 1)).toInt = (i_k2).toInt + 1 := i_add rfl rfl (by omega)
            refine lv_iinc (v := (i_k2 + 1)) (lv' := [(3, .int (i_k2 + 1)), (1, .int i_k2), (2, .int r8), (4, .int r8), (0, .ref (a 36))]) hx hb dX1_greatestVerdict_60 hl (k := 3) rfl rfl (by decide) rfl (fun ls hl => ?_)
            refine lv_goto (tgt := 6) hx hb dX1_greatestVerdict_63 (by decide) ?_
            exact ih_k2 _ _ _ _ ((i_k2 + 1)) (r8) (i_k2) hO (lv_sub hl [0, 2, 1, 4] rfl) (by exact hJ) (by exact hT) (by first | decide | omega) (by first | decide | omega)
          · refine lv_iload hx hb dX1_greatestVerdict_49 (lv_at hl 0 rfl) ?_
            refine lv_iload_n hx hb dX1_greatestVerdict_51 rfl (lv_at hl 2 rfl) ?_
            refine cs_le (tgt := 60) (X := (r8).toInt) (Y := (w2_k2).toInt) hx hb dX1_greatestVerdict_52 (by decide) rfl rfl (fun c13 => ?_) (fun c13 => ?_)
            · have e14 : ((i_k2 + 1)).toInt = (i_k2).toInt + 1 := i_add rfl rfl (by omega)
              refine lv_iinc (v := (i_k2 + 1)) (lv' := [(3, .int (i_k2 + 1)), (4, .int r8), (2, .int w2_k2), (1, .int w1_k2), (0, .ref (a 36))]) hx hb dX1_greatestVerdict_60 hl (k := 1) rfl rfl (by decide) rfl (fun ls hl => ?_)
              refine lv_goto (tgt := 6) hx hb dX1_greatestVerdict_63 (by decide) ?_
              exact ih_k2 _ _ _ _ ((i_k2 + 1)) (w2_k2) (w1_k2) hO (lv_sub hl [0, 2, 3, 4] rfl) (by exact hJ) (by exact hT) (by first | decide | omega) (by first | decide | omega)
            · refine lv_iload hx hb dX1_greatestVerdict_55 (lv_at hl 0 rfl) ?_
              refine lv_istore_n (lv' := [(2, .int r8), (4, .int r8), (3, .int i_k2), (1, .int w1_k2), (0, .ref (a 36))]) hx hb dX1_greatestVerdict_57 rfl hl (by decide) rfl (fun ls hl => ?_)
              refine lv_iload_n hx hb dX1_greatestVerdict_58 rfl (lv_at hl 2 rfl) ?_
              refine lv_istore_n (lv' := [(1, .int i_k2), (2, .int r8), (4, .int r8), (3, .int i_k2), (0, .ref (a 36))]) hx hb dX1_greatestVerdict_59 rfl hl (by decide) rfl (fun ls hl => ?_)
              have e15 : ((i_k2 + 1)).toInt = (i_k2).toInt + 1 := i_add rfl rfl (by omega)
              refine lv_iinc (v := (i_k2 + 1)) (lv' := [(3, .int (i_k2 + 1)), (1, .int i_k2), (2, .int r8), (4, .int r8), (0, .ref (a 36))]) hx hb dX1_greatestVerdict_60 hl (k := 3) rfl rfl (by decide) rfl (fun ls hl => ?_)
              refine lv_goto (tgt := 6) hx hb dX1_greatestVerdict_63 (by decide) ?_
              exact ih_k2 _ _ _ _ ((i_k2 + 1)) (r8) (i_k2) hO (lv_sub hl [0, 2, 1, 4] rfl) (by exact hJ) (by exact hT) (by first | decide | omega) (by first | decide | omega)
        · subst hvr5
          refine bn_ne (X := 0) hx hb dX1_greatestVerdict_28 rfl (by omega) ?_ (tgt := 34) (by decide)
          refine lv_goto (tgt := 60) hx hb dX1_greatestVerdict_31 (by decide) ?_
          have e16 : ((i_k2 + 1)).toInt = (i_k2).toInt + 1 := i_add rfl rfl (by omega)
          refine lv_iinc (v := (i_k2 + 1)) (lv' := [(3, .int (i_k2 + 1)), (2, .int w2_k2), (1, .int w1_k2), (0, .ref (a 36))]) hx hb dX1_greatestVerdict_60 hl (k := 0) rfl rfl (by decide) rfl (fun ls hl => ?_)
          refine lv_goto (tgt := 6) hx hb dX1_greatestVerdict_63 (by decide) ?_
          exact ih_k2 _ _ _ _ ((i_k2 + 1)) (w2_k2) (w1_k2) hO (lv_sub hl [0, 1, 2, 3] rfl) (by exact hJ) (by exact hT) (by first | decide | omega) (by first | decide | omega)
  exact LP_6_k2 4000 _ _ _ _ (0) (0) ((-1)) hO (lv_sub hl [0, 1, 2, 3] rfl) (by exact hJ) (by exact hT) (by first | decide | omega) (by first | decide | omega)
theorem dX1_freeingHour_0 : decode cX1_freeingHour 0 = .ok (.aload_n 0, 1) := by decide +kernel
theorem dX1_freeingHour_1 : decode cX1_freeingHour 1 = .ok (.getfield 18, 3) := by decide +kernel
theorem dX1_freeingHour_4 : decode cX1_freeingHour 4 = .ok (.getfield 54, 3) := by decide +kernel
theorem dX1_freeingHour_7 : decode cX1_freeingHour 7 = .ok (.astore_n 2, 1) := by decide +kernel
theorem dX1_freeingHour_8 : decode cX1_freeingHour 8 = .ok (.iconst 0, 1) := by decide +kernel
theorem dX1_freeingHour_9 : decode cX1_freeingHour 9 = .ok (.istore_n 3, 1) := by decide +kernel
theorem dX1_freeingHour_10 : decode cX1_freeingHour 10 = .ok (.iload_n 3, 1) := by decide +kernel
theorem dX1_freeingHour_11 : decode cX1_freeingHour 11 = .ok (.bipush 100, 2) := by decide +kernel
theorem dX1_freeingHour_13 : decode cX1_freeingHour 13 = .ok (.if_icmp .ge 41, 3) := by decide +kernel
theorem dX1_freeingHour_16 : decode cX1_freeingHour 16 = .ok (.aload_n 0, 1) := by decide +kernel
theorem dX1_freeingHour_17 : decode cX1_freeingHour 17 = .ok (.getfield 18, 3) := by decide +kernel
theorem dX1_freeingHour_20 : decode cX1_freeingHour 20 = .ok (.iload_n 1, 1) := by decide +kernel
theorem dX1_freeingHour_21 : decode cX1_freeingHour 21 = .ok (.aload_n 2, 1) := by decide +kernel
theorem dX1_freeingHour_22 : decode cX1_freeingHour 22 = .ok (.bipush 11, 2) := by decide +kernel
theorem dX1_freeingHour_24 : decode cX1_freeingHour 24 = .ok (.iload_n 1, 1) := by decide +kernel
theorem dX1_freeingHour_25 : decode cX1_freeingHour 25 = .ok (.iadd, 1) := by decide +kernel
theorem dX1_freeingHour_26 : decode cX1_freeingHour 26 = .ok (.iaload, 1) := by decide +kernel
theorem dX1_freeingHour_27 : decode cX1_freeingHour 27 = .ok (.aload_n 2, 1) := by decide +kernel
theorem dX1_freeingHour_28 : decode cX1_freeingHour 28 = .ok (.bipush 17, 2) := by decide +kernel
theorem dX1_freeingHour_30 : decode cX1_freeingHour 30 = .ok (.iload_n 1, 1) := by decide +kernel
theorem dX1_freeingHour_31 : decode cX1_freeingHour 31 = .ok (.iadd, 1) := by decide +kernel
theorem dX1_freeingHour_32 : decode cX1_freeingHour 32 = .ok (.iaload, 1) := by decide +kernel
theorem dX1_freeingHour_33 : decode cX1_freeingHour 33 = .ok (.aload_n 2, 1) := by decide +kernel
theorem dX1_freeingHour_34 : decode cX1_freeingHour 34 = .ok (.bipush 23, 2) := by decide +kernel
theorem dX1_freeingHour_36 : decode cX1_freeingHour 36 = .ok (.iload_n 1, 1) := by decide +kernel
theorem dX1_freeingHour_37 : decode cX1_freeingHour 37 = .ok (.iadd, 1) := by decide +kernel
theorem dX1_freeingHour_38 : decode cX1_freeingHour 38 = .ok (.iaload, 1) := by decide +kernel
theorem dX1_freeingHour_39 : decode cX1_freeingHour 39 = .ok (.iload_n 3, 1) := by decide +kernel
theorem dX1_freeingHour_40 : decode cX1_freeingHour 40 = .ok (.invokevirtual 62, 3) := by decide +kernel
theorem dX1_freeingHour_43 : decode cX1_freeingHour 43 = .ok (.ifCond .le 5, 3) := by decide +kernel
theorem dX1_freeingHour_46 : decode cX1_freeingHour 46 = .ok (.iload_n 3, 1) := by decide +kernel
theorem dX1_freeingHour_47 : decode cX1_freeingHour 47 = .ok (.ireturn, 1) := by decide +kernel
theorem dX1_freeingHour_48 : decode cX1_freeingHour 48 = .ok (.iinc 3 1, 3) := by decide +kernel
theorem dX1_freeingHour_51 : decode cX1_freeingHour 51 = .ok (.goto (-41), 3) := by decide +kernel
theorem dX1_freeingHour_54 : decode cX1_freeingHour 54 = .ok (.iconst (-1), 1) := by decide +kernel
theorem dX1_freeingHour_55 : decode cX1_freeingHour 55 = .ok (.ireturn, 1) := by decide +kernel
theorem wd_1214 : (Cond.code ⟨"WebCourt$Counsel", "freeingHour", "(I)I"⟩ prog_3_method_17_code (4 : Nat) (Option.some FieldType.int)) ∈ gtb := gtb_c5 145 (by decide +kernel) rfl
set_option maxHeartbeats 4000000 in
set_option maxRecDepth 100000 in
theorem T_X1_freeingHour (l : Launch) (D : va_G) (cy : Nat → ClassId) (a : Nat → Nat) (u : St) (hJ : CI a u) (x1 : Int32) (hx_x1 : 0 ≤ x1.toInt ∧ x1.toInt ≤ 5) : Mi l D cy (cW cy a) yX1_freeingHour (.code yX1_freeingHour cX1_freeingHour 4 (some .int)) (rmo 3 78) [.ref (a 36), .int x1] u (fun (r : Int32) (u' : St) => (CI a u') ∧ (KT u u')) := by
  refine Mi.of (own := RX1) rfl (by decide) (Nat.le_of_ble_eq_true rfl) ?_
  have hT : KT u u := KT.rf
  intro p e s m below meth c A Q ls C hret hO hl
  obtain ⟨hx, hb, hml, hown, ht, hK, hA⟩ := id C
  have hl : lv_has ls 4 [(0, .ref (a 36)), (1, .int x1)] := hl
  refine lv_aload_n hx hb dX1_freeingHour_0 rfl (lv_at hl 0 rfl) ?_
  refine gf_RX1_18 (v := .ref (a 28)) C hO 36 cW_36 rfl dX1_freeingHour_1 ?_
  refine gf_RX1_54 (v := .ref (a 29)) C hO 28 cW_28 rfl dX1_freeingHour_4 ?_
  refine lv_astore_n (lv' := [(2, .ref (a 29)), (0, .ref (a 36)), (1, .int x1)]) hx hb dX1_freeingHour_7 rfl hl (by decide) rfl (fun ls hl => ?_)
  refine lv_iconst (v := 0) hx hb dX1_freeingHour_8 (by decide) ?_
  refine lv_istore_n (lv' := [(3, .int 0), (2, .ref (a 29)), (0, .ref (a 36)), (1, .int x1)]) hx hb dX1_freeingHour_9 rfl hl (by decide) rfl (fun ls hl => ?_)
  have LP_10_k2 : ∀ (n : Nat) (u1 : St) (H : Heap) (locs : List Loc) (ls : Array Slot) (i_k2 : Int32), Wo D A (cW cy a u1) s.heap H locs → lv_has ls 4 [(3, .int i_k2), (2, .ref (a 29)), (0, .ref (a 36)), (1, .int x1)] → CI a u1 → KT u u1 → 0 ≤ i_k2.toInt ∧ i_k2.toInt ≤ 100 → 100 - i_k2.toInt < (n : Int) → W p l e (rmo 3 78) s m [.ref (a 36), .int x1].toArray below meth c H locs 0 0 Q (F0 m 10 ls []) := by
    intro n
    induction n with
    | zero =>
      intro u1 H locs ls i_k2 hO hl hJ hT iv0_k2 hm_k2
      exact absurd hm_k2 (by omega)
    | succ n ih_k2 =>
      intro u1 H locs ls i_k2 hO hl hJ hT iv0_k2 hm_k2
      refine lv_iload_n hx hb dX1_freeingHour_10 rfl (lv_at hl 0 rfl) ?_
      refine lv_bipush (v := 100) hx hb dX1_freeingHour_11 (by decide) ?_
      refine cs_ge (tgt := 54) (X := (i_k2).toInt) (Y := 100) hx hb dX1_freeingHour_13 (by decide) rfl rfl (fun c3 => ?_) (fun c3 => ?_)
      · refine lv_iconst (v := (-1)) hx hb dX1_freeingHour_54 (by decide) ?_
        refine hret _ _ _ _ _ _ dX1_freeingHour_55 rfl ?_ hO
        exact ⟨hJ, hT⟩
      · refine lv_aload_n hx hb dX1_freeingHour_16 rfl (lv_at hl 2 rfl) ?_
        refine gf_RX1_18 (v := .ref (a 28)) C hO 36 cW_36 rfl dX1_freeingHour_17 ?_
        refine lv_iload_n hx hb dX1_freeingHour_20 rfl (lv_at hl 3 rfl) ?_
        refine lv_aload_n hx hb dX1_freeingHour_21 rfl (lv_at hl 1 rfl) ?_
        refine lv_bipush (v := 11) hx hb dX1_freeingHour_22 (by decide) ?_
        refine lv_iload_n hx hb dX1_freeingHour_24 rfl (lv_at hl 3 rfl) ?_
        have e4 : ((11 + x1)).toInt = 11 + (x1).toInt := i_add rfl rfl (by omega)
        refine lv_iadd hx hb dX1_freeingHour_25 ?_
        refine aI C hO 29 cW_29 (i_in (X := (11 + (x1).toInt)) e4 (by omega) (by omega)) dX1_freeingHour_26 ?_
        refine lv_topi (fun w5 ew5 => ?_)
        refine lv_aload_n hx hb dX1_freeingHour_27 rfl (lv_at hl 1 rfl) ?_
        refine lv_bipush (v := 17) hx hb dX1_freeingHour_28 (by decide) ?_
        refine lv_iload_n hx hb dX1_freeingHour_30 rfl (lv_at hl 3 rfl) ?_
        have e6 : ((17 + x1)).toInt = 17 + (x1).toInt := i_add rfl rfl (by omega)
        refine lv_iadd hx hb dX1_freeingHour_31 ?_
        refine aI C hO 29 cW_29 (i_in (X := (17 + (x1).toInt)) e6 (by omega) (by omega)) dX1_freeingHour_32 ?_
        refine lv_topi (fun w7 ew7 => ?_)
        refine lv_aload_n hx hb dX1_freeingHour_33 rfl (lv_at hl 1 rfl) ?_
        refine lv_bipush (v := 23) hx hb dX1_freeingHour_34 (by decide) ?_
        refine lv_iload_n hx hb dX1_freeingHour_36 rfl (lv_at hl 3 rfl) ?_
        have e8 : ((23 + x1)).toInt = 23 + (x1).toInt := i_add rfl rfl (by omega)
        refine lv_iadd hx hb dX1_freeingHour_37 ?_
        refine aI C hO 29 cW_29 (i_in (X := (23 + (x1).toInt)) e8 (by omega) (by omega)) dX1_freeingHour_38 ?_
        refine lv_topi (fun w9 ew9 => ?_)
        refine lv_iload_n hx hb dX1_freeingHour_39 rfl (lv_at hl 0 rfl) ?_
        refine cVi (w := cW cy a) (As := [.int x1, .int w5, .int w7, .int w9, .int i_k2]) (rest := []) C hO (T_X2_judgedAs l D cy a _ (by exact hJ) (x1) (w5) (w7) (w9) (i_k2) (by first | omega | decide)) (cwV 5 ht (gV wd_1082 wd_854 wd_855 wd_115 wd_856) rfl rfl rfl hd_yX2_judgedAs ⟨Nat.le_of_ble_eq_true rfl, Nat.le_of_ble_eq_true rfl⟩) 28 rfl cW_28 rfl rfl hl.1 (Nat.le_of_ble_eq_true rfl) dX1_freeingHour_40 rfl ⟨Nat.zero_le _, Nat.zero_le _⟩ (fun r10 u11 H locs hp12 hO => ?_)
        obtain ⟨hJ, hTu11⟩ := hp12
        have hT : KT u u11 := KT.tr (by exact hT) hTu11
        refine bs_le (tgt := 48) (X := (r10).toInt) hx hb dX1_freeingHour_43 (by decide) rfl (fun c13 => ?_) (fun c13 => ?_)
        · have e14 : ((i_k2 + 1)).toInt = (i_k2).toInt + 1 := i_add rfl rfl (by omega)
          refine lv_iinc (v := (i_k2 + 1)) (lv' := [(3, .int (i_k2 + 1)), (2, .ref (a 29)), (0, .ref (a 36)), (1, .int x1)]) hx hb dX1_freeingHour_48 hl (k := 0) rfl rfl (by decide) rfl (fun ls hl => ?_)
          refine lv_goto (tgt := 10) hx hb dX1_freeingHour_51 (by decide) ?_
          exact ih_k2 _ _ _ _ ((i_k2 + 1)) hO (lv_sub hl [0, 1, 2, 3] rfl) (by exact hJ) (by exact hT) (by first | decide | omega) (by first | decide | omega)
        · refine lv_iload_n hx hb dX1_freeingHour_46 rfl (lv_at hl 0 rfl) ?_
          refine hret _ _ _ _ _ _ dX1_freeingHour_47 rfl ?_ hO
          exact ⟨hJ, hT⟩
  exact LP_10_k2 4000 _ _ _ _ (0) hO (lv_sub hl [0, 1, 2, 3] rfl) (by exact hJ) (by exact hT) (by first | decide | omega) (by first | decide | omega)
theorem dX1_freeAfter_0 : decode cX1_freeAfter 0 = .ok (.aload_n 0, 1) := by decide +kernel
theorem dX1_freeAfter_1 : decode cX1_freeAfter 1 = .ok (.getfield 18, 3) := by decide +kernel
theorem dX1_freeAfter_4 : decode cX1_freeAfter 4 = .ok (.getfield 54, 3) := by decide +kernel
theorem dX1_freeAfter_7 : decode cX1_freeAfter 7 = .ok (.astore_n 2, 1) := by decide +kernel
theorem dX1_freeAfter_8 : decode cX1_freeAfter 8 = .ok (.iconst 0, 1) := by decide +kernel
theorem dX1_freeAfter_9 : decode cX1_freeAfter 9 = .ok (.istore_n 3, 1) := by decide +kernel
theorem dX1_freeAfter_10 : decode cX1_freeAfter 10 = .ok (.iconst 0, 1) := by decide +kernel
theorem dX1_freeAfter_11 : decode cX1_freeAfter 11 = .ok (.istore 4, 2) := by decide +kernel
theorem dX1_freeAfter_13 : decode cX1_freeAfter 13 = .ok (.iload 4, 2) := by decide +kernel
theorem dX1_freeAfter_15 : decode cX1_freeAfter 15 = .ok (.aload_n 0, 1) := by decide +kernel
theorem dX1_freeAfter_16 : decode cX1_freeAfter 16 = .ok (.getfield 18, 3) := by decide +kernel
theorem dX1_freeAfter_19 : decode cX1_freeAfter 19 = .ok (.getfield 34, 3) := by decide +kernel
theorem dX1_freeAfter_22 : decode cX1_freeAfter 22 = .ok (.getfield 44, 3) := by decide +kernel
theorem dX1_freeAfter_25 : decode cX1_freeAfter 25 = .ok (.if_icmp .ge 54, 3) := by decide +kernel
theorem dX1_freeAfter_28 : decode cX1_freeAfter 28 = .ok (.aload_n 0, 1) := by decide +kernel
theorem dX1_freeAfter_29 : decode cX1_freeAfter 29 = .ok (.getfield 18, 3) := by decide +kernel
theorem dX1_freeAfter_32 : decode cX1_freeAfter 32 = .ok (.iload 4, 2) := by decide +kernel
theorem dX1_freeAfter_34 : decode cX1_freeAfter 34 = .ok (.invokevirtual 47, 3) := by decide +kernel
theorem dX1_freeAfter_37 : decode cX1_freeAfter 37 = .ok (.ifCond .eq 36, 3) := by decide +kernel
theorem dX1_freeAfter_40 : decode cX1_freeAfter 40 = .ok (.aload_n 0, 1) := by decide +kernel
theorem dX1_freeAfter_41 : decode cX1_freeAfter 41 = .ok (.getfield 18, 3) := by decide +kernel
theorem dX1_freeAfter_44 : decode cX1_freeAfter 44 = .ok (.iload 4, 2) := by decide +kernel
theorem dX1_freeAfter_46 : decode cX1_freeAfter 46 = .ok (.aload_n 2, 1) := by decide +kernel
theorem dX1_freeAfter_47 : decode cX1_freeAfter 47 = .ok (.bipush 11, 2) := by decide +kernel
theorem dX1_freeAfter_49 : decode cX1_freeAfter 49 = .ok (.iload 4, 2) := by decide +kernel
theorem dX1_freeAfter_51 : decode cX1_freeAfter 51 = .ok (.iadd, 1) := by decide +kernel
theorem dX1_freeAfter_52 : decode cX1_freeAfter 52 = .ok (.iaload, 1) := by decide +kernel
theorem dX1_freeAfter_53 : decode cX1_freeAfter 53 = .ok (.iload_n 1, 1) := by decide +kernel
theorem dX1_freeAfter_54 : decode cX1_freeAfter 54 = .ok (.aload_n 2, 1) := by decide +kernel
theorem dX1_freeAfter_55 : decode cX1_freeAfter 55 = .ok (.bipush 23, 2) := by decide +kernel
theorem dX1_freeAfter_57 : decode cX1_freeAfter 57 = .ok (.iload 4, 2) := by decide +kernel
theorem dX1_freeAfter_59 : decode cX1_freeAfter 59 = .ok (.iadd, 1) := by decide +kernel
theorem dX1_freeAfter_60 : decode cX1_freeAfter 60 = .ok (.iaload, 1) := by decide +kernel
theorem dX1_freeAfter_61 : decode cX1_freeAfter 61 = .ok (.aload_n 2, 1) := by decide +kernel
theorem dX1_freeAfter_62 : decode cX1_freeAfter 62 = .ok (.iconst 1, 1) := by decide +kernel
theorem dX1_freeAfter_63 : decode cX1_freeAfter 63 = .ok (.iaload, 1) := by decide +kernel
theorem dX1_freeAfter_64 : decode cX1_freeAfter 64 = .ok (.invokevirtual 62, 3) := by decide +kernel
theorem dX1_freeAfter_67 : decode cX1_freeAfter 67 = .ok (.ifCond .le 6, 3) := by decide +kernel
theorem dX1_freeAfter_70 : decode cX1_freeAfter 70 = .ok (.iinc 3 1, 3) := by decide +kernel
theorem dX1_freeAfter_73 : decode cX1_freeAfter 73 = .ok (.iinc 4 1, 3) := by decide +kernel
theorem dX1_freeAfter_76 : decode cX1_freeAfter 76 = .ok (.goto (-63), 3) := by decide +kernel
theorem dX1_freeAfter_79 : decode cX1_freeAfter 79 = .ok (.iload_n 3, 1) := by decide +kernel
theorem dX1_freeAfter_80 : decode cX1_freeAfter 80 = .ok (.ireturn, 1) := by decide +kernel
theorem wd_1222 : (Cond.code ⟨"WebCourt$Counsel", "freeAfter", "(I)I"⟩ prog_3_method_18_code (5 : Nat) (Option.some FieldType.int)) ∈ gtb := gtb_c5 153 (by decide +kernel) rfl
set_option maxHeartbeats 4000000 in
set_option maxRecDepth 100000 in
theorem T_X1_freeAfter (l : Launch) (D : va_G) (cy : Nat → ClassId) (a : Nat → Nat) (u : St) (hJ : CI a u) (x1 : Int32)  : Mi l D cy (cW cy a) yX1_freeAfter (.code yX1_freeAfter cX1_freeAfter 5 (some .int)) (rmo 3 78) [.ref (a 36), .int x1] u (fun (r : Int32) (u' : St) => (CI a u') ∧ (KT u u')) := by
  refine Mi.of (own := RX1) rfl (by decide) (Nat.le_of_ble_eq_true rfl) ?_
  have hT : KT u u := KT.rf
  intro p e s m below meth c A Q ls C hret hO hl
  obtain ⟨hx, hb, hml, hown, ht, hK, hA⟩ := id C
  have hl : lv_has ls 5 [(0, .ref (a 36)), (1, .int x1)] := hl
  refine lv_aload_n hx hb dX1_freeAfter_0 rfl (lv_at hl 0 rfl) ?_
  refine gf_RX1_18 (v := .ref (a 28)) C hO 36 cW_36 rfl dX1_freeAfter_1 ?_
  refine gf_RX1_54 (v := .ref (a 29)) C hO 28 cW_28 rfl dX1_freeAfter_4 ?_
  refine lv_astore_n (lv' := [(2, .ref (a 29)), (0, .ref (a 36)), (1, .int x1)]) hx hb dX1_freeAfter_7 rfl hl (by decide) rfl (fun ls hl => ?_)
  refine lv_iconst (v := 0) hx hb dX1_freeAfter_8 (by decide) ?_
  refine lv_istore_n (lv' := [(3, .int 0), (2, .ref (a 29)), (0, .ref (a 36)), (1, .int x1)]) hx hb dX1_freeAfter_9 rfl hl (by decide) rfl (fun ls hl => ?_)
  refine lv_iconst (v := 0) hx hb dX1_freeAfter_10 (by decide) ?_
  refine lv_istore (lv' := [(4, .int 0), (3, .int 0), (2, .ref (a 29)), (0, .ref (a 36)), (1, .int x1)]) hx hb dX1_freeAfter_11 hl (by decide) rfl (fun ls hl => ?_)
  have LP_13_k2 : ∀ (n : Nat) (u1 : St) (H : Heap) (locs : List Loc) (ls : Array Slot) (i_k2 : Int32) (w3_k2 : Int32), Wo D A (cW cy a u1) s.heap H locs → lv_has ls 5 [(4, .int i_k2), (3, .int w3_k2), (2, .ref (a 29)), (0, .ref (a 36)), (1, .int x1)] → CI a u1 → KT u u1 → 0 ≤ i_k2.toInt ∧ i_k2.toInt ≤ 6 → 6 - i_k2.toInt < (n : Int) → W p l e (rmo 3 78) s m [.ref (a 36), .int x1].toArray below meth c H locs 0 0 Q (F0 m 13 ls []) := by
    intro n
    induction n with
    | zero =>
      intro u1 H locs ls i_k2 w3_k2 hO hl hJ hT iv0_k2 hm_k2
      exact absurd hm_k2 (by omega)
    | succ n ih_k2 =>
      intro u1 H locs ls i_k2 w3_k2 hO hl hJ hT iv0_k2 hm_k2
      refine lv_iload hx hb dX1_freeAfter_13 (lv_at hl 0 rfl) ?_
      refine lv_aload_n hx hb dX1_freeAfter_15 rfl (lv_at hl 3 rfl) ?_
      refine gf_RX1_18 (v := .ref (a 28)) C hO 36 cW_36 rfl dX1_freeAfter_16 ?_
      refine gf_RX1_34 (v := .ref (a 3)) C hO 28 cW_28 (congrArg (fun z : Nat => some (Value.ref z)) (CI_R0 hJ)) dX1_freeAfter_19 ?_
      have g3 : 0 ≤ (fI u1 3 12).toInt ∧ (fI u1 3 12).toInt ≤ 6 := by have h := CI_3_12 hJ; exact h
      refine gf_RX1_44 (v := .int (fI u1 3 12)) C hO 3 cW_3 rfl dX1_freeAfter_22 ?_
      refine cs_ge (tgt := 79) (X := (i_k2).toInt) (Y := ((fI u1 3 12)).toInt) hx hb dX1_freeAfter_25 (by decide) rfl rfl (fun c4 => ?_) (fun c4 => ?_)
      · refine lv_iload_n hx hb dX1_freeAfter_79 rfl (lv_at hl 1 rfl) ?_
        refine hret _ _ _ _ _ _ dX1_freeAfter_80 rfl ?_ hO
        exact ⟨hJ, hT⟩
      · refine lv_aload_n hx hb dX1_freeAfter_28 rfl (lv_at hl 3 rfl) ?_
        refine gf_RX1_18 (v := .ref (a 28)) C hO 36 cW_36 rfl dX1_freeAfter_29 ?_
        refine lv_iload hx hb dX1_freeAfter_32 (lv_at hl 0 rfl) ?_
        refine cVi (w := cW cy a) (As := [.int i_k2]) (rest := []) C hO (T_X2_isHeld l D cy a _ (by exact hJ) (i_k2)) (cwV 1 ht (gV wd_1091 wd_930 wd_931 wd_115 wd_932) rfl rfl rfl hd_yX2_isHeld ⟨Nat.le_of_ble_eq_true rfl, Nat.le_of_ble_eq_true rfl⟩) 28 rfl cW_28 rfl rfl hl.1 (Nat.le_of_ble_eq_true rfl) dX1_freeAfter_34 rfl ⟨Nat.zero_le _, Nat.zero_le _⟩ (fun r5 u6 H locs hp7 hO => ?_)
        obtain ⟨hr5, hu6⟩ := hp7
        rw [hu6] at hO
        rcases hr5 with ⟨hcr5, hvr5⟩ | ⟨hcr5, hvr5⟩
        · subst hvr5
          refine bn_eq (X := 1) hx hb dX1_freeAfter_37 rfl (by omega) ?_ (tgt := 73) (by decide)
          refine lv_aload_n hx hb dX1_freeAfter_40 rfl (lv_at hl 3 rfl) ?_
          refine gf_RX1_18 (v := .ref (a 28)) C hO 36 cW_36 rfl dX1_freeAfter_41 ?_
          refine lv_iload hx hb dX1_freeAfter_44 (lv_at hl 0 rfl) ?_
          refine lv_aload_n hx hb dX1_freeAfter_46 rfl (lv_at hl 2 rfl) ?_
          refine lv_bipush (v := 11) hx hb dX1_freeAfter_47 (by decide) ?_
          refine lv_iload hx hb dX1_freeAfter_49 (lv_at hl 0 rfl) ?_
          have e8 : ((11 + i_k2)).toInt = 11 + (i_k2).toInt := i_add rfl rfl (by omega)
          refine lv_iadd hx hb dX1_freeAfter_51 ?_
          refine aI C hO 29 cW_29 (i_in (X := (11 + (i_k2).toInt)) e8 (by omega) (by omega)) dX1_freeAfter_52 ?_
          refine lv_topi (fun w9 ew9 => ?_)
          refine lv_iload_n hx hb dX1_freeAfter_53 rfl (lv_at hl 4 rfl) ?_
          refine lv_aload_n hx hb dX1_freeAfter_54 rfl (lv_at hl 2 rfl) ?_
          refine lv_bipush (v := 23) hx hb dX1_freeAfter_55 (by decide) ?_
          refine lv_iload hx hb dX1_freeAfter_57 (lv_at hl 0 rfl) ?_
          have e10 : ((23 + i_k2)).toInt = 23 + (i_k2).toInt := i_add rfl rfl (by omega)
          refine lv_iadd hx hb dX1_freeAfter_59 ?_
          refine aI C hO 29 cW_29 (i_in (X := (23 + (i_k2).toInt)) e10 (by omega) (by omega)) dX1_freeAfter_60 ?_
          refine lv_topi (fun w11 ew11 => ?_)
          refine lv_aload_n hx hb dX1_freeAfter_61 rfl (lv_at hl 2 rfl) ?_
          refine lv_iconst (v := 1) hx hb dX1_freeAfter_62 (by decide) ?_
          refine aI C hO 29 cW_29 (i_in (X := 1) rfl (by omega) (by omega)) dX1_freeAfter_63 ?_
          refine lv_topi (fun w12 ew12 => ?_)
          refine cVi (w := cW cy a) (As := [.int i_k2, .int w9, .int x1, .int w11, .int w12]) (rest := []) C hO (T_X2_judgedAs l D cy a _ (by exact hJ) (i_k2) (w9) (x1) (w11) (w12) (by first | omega | decide)) (cwV 5 ht (gV wd_1082 wd_854 wd_855 wd_115 wd_856) rfl rfl rfl hd_yX2_judgedAs ⟨Nat.le_of_ble_eq_true rfl, Nat.le_of_ble_eq_true rfl⟩) 28 rfl cW_28 rfl rfl hl.1 (Nat.le_of_ble_eq_true rfl) dX1_freeAfter_64 rfl ⟨Nat.zero_le _, Nat.zero_le _⟩ (fun r13 u14 H locs hp15 hO => ?_)
          obtain ⟨hJ, hTu14⟩ := hp15
          have hT : KT u u14 := KT.tr (by exact hT) hTu14
          refine bs_le (tgt := 73) (X := (r13).toInt) hx hb dX1_freeAfter_67 (by decide) rfl (fun c16 => ?_) (fun c16 => ?_)
          · have e17 : ((i_k2 + 1)).toInt = (i_k2).toInt + 1 := i_add rfl rfl (by omega)
            refine lv_iinc (v := (i_k2 + 1)) (lv' := [(4, .int (i_k2 + 1)), (3, .int w3_k2), (2, .ref (a 29)), (0, .ref (a 36)), (1, .int x1)]) hx hb dX1_freeAfter_73 hl (k := 0) rfl rfl (by decide) rfl (fun ls hl => ?_)
            refine lv_goto (tgt := 13) hx hb dX1_freeAfter_76 (by decide) ?_
            exact ih_k2 _ _ _ _ ((i_k2 + 1)) (w3_k2) hO (lv_sub hl [0, 1, 2, 3, 4] rfl) (by exact hJ) (by exact hT) (by first | decide | omega) (by first | decide | omega)
          · refine lv_iinc (v := (w3_k2 + 1)) (lv' := [(3, .int (w3_k2 + 1)), (4, .int i_k2), (2, .ref (a 29)), (0, .ref (a 36)), (1, .int x1)]) hx hb dX1_freeAfter_70 hl (k := 1) rfl rfl (by decide) rfl (fun ls hl => ?_)
            have e18 : ((i_k2 + 1)).toInt = (i_k2).toInt + 1 := i_add rfl rfl (by omega)
            refine lv_iinc (v := (i_k2 + 1)) (lv' := [(4, .int (i_k2 + 1)), (3, .int (w3_k2 + 1)), (2, .ref (a 29)), (0, .ref (a 36)), (1, .int x1)]) hx hb dX1_freeAfter_73 hl (k := 1) rfl rfl (by decide) rfl (fun ls hl => ?_)
            refine lv_goto (tgt := 13) hx hb dX1_freeAfter_76 (by decide) ?_
            exact ih_k2 _ _ _ _ ((i_k2 + 1)) ((w3_k2 + 1)) hO (lv_sub hl [0, 1, 2, 3, 4] rfl) (by exact hJ) (by exact hT) (by first | decide | omega) (by first | decide | omega)
        · subst hvr5
          refine bt_eq (tgt := 73) (X := 0) hx hb dX1_freeAfter_37 (by decide) rfl (by omega) ?_
          have e19 : ((i_k2 + 1)).toInt = (i_k2).toInt + 1 := i_add rfl rfl (by omega)
          refine lv_iinc (v := (i_k2 + 1)) (lv' := [(4, .int (i_k2 + 1)), (3, .int w3_k2), (2, .ref (a 29)), (0, .ref (a 36)), (1, .int x1)]) hx hb dX1_freeAfter_73 hl (k := 0) rfl rfl (by decide) rfl (fun ls hl => ?_)
          refine lv_goto (tgt := 13) hx hb dX1_freeAfter_76 (by decide) ?_
          exact ih_k2 _ _ _ _ ((i_k2 + 1)) (w3_k2) hO (lv_sub hl [0, 1, 2, 3, 4] rfl) (by exact hJ) (by exact hT) (by first | decide | omega) (by first | decide | omega)
  exact LP_13_k2 4000 _ _ _ _ (0) (0) hO (lv_sub hl [0, 1, 2, 3, 4] rfl) (by exact hJ) (by exact hT) (by first | decide | omega) (by first | decide | omega)
