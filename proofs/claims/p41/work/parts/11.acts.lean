theorem dX10_copyRow_0 : decode cX10_copyRow 0 = .ok (.iconst 0, 1) := by decide +kernel
theorem dX10_copyRow_1 : decode cX10_copyRow 1 = .ok (.istore_n 2, 1) := by decide +kernel
theorem dX10_copyRow_2 : decode cX10_copyRow 2 = .ok (.iload_n 2, 1) := by decide +kernel
theorem dX10_copyRow_3 : decode cX10_copyRow 3 = .ok (.aload_n 0, 1) := by decide +kernel
theorem dX10_copyRow_4 : decode cX10_copyRow 4 = .ok (.arraylength, 1) := by decide +kernel
theorem dX10_copyRow_5 : decode cX10_copyRow 5 = .ok (.if_icmp .ge 21, 3) := by decide +kernel
theorem dX10_copyRow_8 : decode cX10_copyRow 8 = .ok (.iload_n 2, 1) := by decide +kernel
theorem dX10_copyRow_9 : decode cX10_copyRow 9 = .ok (.aload_n 1, 1) := by decide +kernel
theorem dX10_copyRow_10 : decode cX10_copyRow 10 = .ok (.arraylength, 1) := by decide +kernel
theorem dX10_copyRow_11 : decode cX10_copyRow 11 = .ok (.if_icmp .ge 15, 3) := by decide +kernel
theorem dX10_copyRow_14 : decode cX10_copyRow 14 = .ok (.aload_n 1, 1) := by decide +kernel
theorem dX10_copyRow_15 : decode cX10_copyRow 15 = .ok (.iload_n 2, 1) := by decide +kernel
theorem dX10_copyRow_16 : decode cX10_copyRow 16 = .ok (.aload_n 0, 1) := by decide +kernel
theorem dX10_copyRow_17 : decode cX10_copyRow 17 = .ok (.iload_n 2, 1) := by decide +kernel
theorem dX10_copyRow_18 : decode cX10_copyRow 18 = .ok (.iaload, 1) := by decide +kernel
theorem dX10_copyRow_19 : decode cX10_copyRow 19 = .ok (.iastore, 1) := by decide +kernel
theorem dX10_copyRow_20 : decode cX10_copyRow 20 = .ok (.iinc 2 1, 3) := by decide +kernel
theorem dX10_copyRow_23 : decode cX10_copyRow 23 = .ok (.goto (-21), 3) := by decide +kernel
theorem dX10_copyRow_26 : decode cX10_copyRow 26 = .ok (.return_, 1) := by decide +kernel
theorem wd_912 : (Cond.code ⟨"WebCourt", "copyRow", "([I[I)V"⟩ prog_1_method_54_code (3 : Nat) (Option.none : Option FieldType)) ∈ gtb := gtb_c4 83 (by decide +kernel) rfl
set_option maxHeartbeats 4000000 in
set_option maxRecDepth 100000 in
theorem T_X10_copyRow_out (l : Launch) (D : va_G) (cy : Nat → ClassId) (a : Nat → Nat) (u : St) (hJ : CI a u) (k1 : Nat) (rk1 : k1 < 44) : Mv l D cy (cW cy a) yX10_copyRow (.code yX10_copyRow cX10_copyRow 3 none) (rmo 0 0) [.ref (a 29), .ref (a (47 + k1))] u (fun (u' : St) => (CI a u') ∧ (KA u u')) := by
  refine Mv.of (own := RX10) rfl (by decide) (Nat.le_of_ble_eq_true rfl) ?_
  have hT : KA u u := KA.rf
  intro p e s m below meth c A Q ls C hret hO hl
  obtain ⟨hx, hb, hml, hown, ht, hK, hA⟩ := id C
  have hl : lv_has ls 3 [(0, .ref (a 29)), (1, .ref (a (47 + k1)))] := hl
  refine lv_iconst (v := 0) hx hb dX10_copyRow_0 (by decide) ?_
  refine lv_istore_n (lv' := [(2, .int 0), (0, .ref (a 29)), (1, .ref (a (47 + k1)))]) hx hb dX10_copyRow_1 rfl hl (by decide) rfl (fun ls hl => ?_)
  have LP_2_k2 : ∀ (n : Nat) (u1 : St) (H : Heap) (locs : List Loc) (ls : Array Slot) (i_k2 : Int32), Wo D A (cW cy a u1) s.heap H locs → lv_has ls 3 [(2, .int i_k2), (0, .ref (a 29)), (1, .ref (a (47 + k1)))] → CI a u1 → KA u u1 → 0 ≤ i_k2.toInt ∧ i_k2.toInt ≤ 29 → 29 - i_k2.toInt < (n : Int) → W p l e (rmo 0 0) s m [.ref (a 29), .ref (a (47 + k1))].toArray below meth c H locs 0 0 Q (F0 m 2 ls []) := by
    intro n
    induction n with
    | zero =>
      intro u1 H locs ls i_k2 hO hl hJ hT iv0_k2 hm_k2
      exact absurd hm_k2 (by omega)
    | succ n ih_k2 =>
      intro u1 H locs ls i_k2 hO hl hJ hT iv0_k2 hm_k2
      refine lv_iload_n hx hb dX10_copyRow_2 rfl (lv_at hl 0 rfl) ?_
      refine lv_aload_n hx hb dX10_copyRow_3 rfl (lv_at hl 1 rfl) ?_
      refine aLen (v := 29) C hO 29 1 cW_29 rfl rfl dX10_copyRow_4 ?_
      refine cs_ge (tgt := 26) (X := (i_k2).toInt) (Y := 29) hx hb dX10_copyRow_5 (by decide) rfl rfl (fun c3 => ?_) (fun c3 => ?_)
      · refine hret _ _ _ _ _ dX10_copyRow_26 ?_ hO
        exact ⟨hJ, hT⟩
      · refine lv_iload_n hx hb dX10_copyRow_8 rfl (lv_at hl 0 rfl) ?_
        refine lv_aload_n hx hb dX10_copyRow_9 rfl (lv_at hl 2 rfl) ?_
        refine aLen (v := 29) C hO (47 + k1) 1 (cW_row rk1) rfl rfl dX10_copyRow_10 ?_
        refine cn_ge (X := (i_k2).toInt) (Y := 29) hx hb dX10_copyRow_11 rfl rfl (by omega) ?_ (tgt := 26) (by decide)
        refine lv_aload_n hx hb dX10_copyRow_14 rfl (lv_at hl 2 rfl) ?_
        refine lv_iload_n hx hb dX10_copyRow_15 rfl (lv_at hl 0 rfl) ?_
        refine lv_aload_n hx hb dX10_copyRow_16 rfl (lv_at hl 1 rfl) ?_
        refine lv_iload_n hx hb dX10_copyRow_17 rfl (lv_at hl 0 rfl) ?_
        refine aI C hO 29 cW_29 (i_in (X := (i_k2).toInt) rfl (by omega) (by omega)) dX10_copyRow_18 ?_
        refine lv_topi (fun w4 ew4 => ?_)
        refine aIs C hO (47 + k1) (cW_row rk1) (i_in (X := (i_k2).toInt) rfl (by omega) (by omega)) (cW_srow rk1) dX10_copyRow_19 (fun H locs hO => ?_)
        have hJ := CIsB hO hJ
        have e5 : ((i_k2 + 1)).toInt = (i_k2).toInt + 1 := i_add rfl rfl (by omega)
        refine lv_iinc (v := (i_k2 + 1)) (lv' := [(2, .int (i_k2 + 1)), (0, .ref (a 29)), (1, .ref (a (47 + k1)))]) hx hb dX10_copyRow_20 hl (k := 0) rfl rfl (by decide) rfl (fun ls hl => ?_)
        refine lv_goto (tgt := 2) hx hb dX10_copyRow_23 (by decide) ?_
        exact ih_k2 _ _ _ _ ((i_k2 + 1)) hO (lv_sub hl [0, 1, 2] rfl) (by exact hJ) (by exact hT) (by first | decide | omega) (by first | decide | omega)
  exact LP_2_k2 4000 _ _ _ _ (0) hO (lv_sub hl [0, 1, 2] rfl) (by exact hJ) (by exact hT) (by first | decide | omega) (by first | decide | omega)
set_option maxHeartbeats 4000000 in
set_option maxRecDepth 100000 in
theorem T_X10_copyRow_in (l : Launch) (D : va_G) (cy : Nat → ClassId) (a : Nat → Nat) (u : St) (hJ : CI a u) (k1 : Nat) (rk1 : k1 < 44) : Mv l D cy (cW cy a) yX10_copyRow (.code yX10_copyRow cX10_copyRow 3 none) (rmo 0 0) [.ref (a (47 + k1)), .ref (a 29)] u (fun (u' : St) => (CI a u') ∧ (KA u u')) := by
  refine Mv.of (own := RX10) rfl (by decide) (Nat.le_of_ble_eq_true rfl) ?_
  have hT : KA u u := KA.rf
  intro p e s m below meth c A Q ls C hret hO hl
  obtain ⟨hx, hb, hml, hown, ht, hK, hA⟩ := id C
  have hl : lv_has ls 3 [(0, .ref (a (47 + k1))), (1, .ref (a 29))] := hl
  refine lv_iconst (v := 0) hx hb dX10_copyRow_0 (by decide) ?_
  refine lv_istore_n (lv' := [(2, .int 0), (0, .ref (a (47 + k1))), (1, .ref (a 29))]) hx hb dX10_copyRow_1 rfl hl (by decide) rfl (fun ls hl => ?_)
  have LP_2_k2 : ∀ (n : Nat) (u1 : St) (H : Heap) (locs : List Loc) (ls : Array Slot) (i_k2 : Int32), Wo D A (cW cy a u1) s.heap H locs → lv_has ls 3 [(2, .int i_k2), (0, .ref (a (47 + k1))), (1, .ref (a 29))] → CI a u1 → KA u u1 → 0 ≤ i_k2.toInt ∧ i_k2.toInt ≤ 29 → 29 - i_k2.toInt < (n : Int) → W p l e (rmo 0 0) s m [.ref (a (47 + k1)), .ref (a 29)].toArray below meth c H locs 0 0 Q (F0 m 2 ls []) := by
    intro n
    induction n with
    | zero =>
      intro u1 H locs ls i_k2 hO hl hJ hT iv0_k2 hm_k2
      exact absurd hm_k2 (by omega)
    | succ n ih_k2 =>
      intro u1 H locs ls i_k2 hO hl hJ hT iv0_k2 hm_k2
      refine lv_iload_n hx hb dX10_copyRow_2 rfl (lv_at hl 0 rfl) ?_
      refine lv_aload_n hx hb dX10_copyRow_3 rfl (lv_at hl 1 rfl) ?_
      refine aLen (v := 29) C hO (47 + k1) 1 (cW_row rk1) rfl rfl dX10_copyRow_4 ?_
      refine cs_ge (tgt := 26) (X := (i_k2).toInt) (Y := 29) hx hb dX10_copyRow_5 (by decide) rfl rfl (fun c3 => ?_) (fun c3 => ?_)
      · refine hret _ _ _ _ _ dX10_copyRow_26 ?_ hO
        exact ⟨hJ, hT⟩
      · refine lv_iload_n hx hb dX10_copyRow_8 rfl (lv_at hl 0 rfl) ?_
        refine lv_aload_n hx hb dX10_copyRow_9 rfl (lv_at hl 2 rfl) ?_
        refine aLen (v := 29) C hO 29 1 cW_29 rfl rfl dX10_copyRow_10 ?_
        refine cn_ge (X := (i_k2).toInt) (Y := 29) hx hb dX10_copyRow_11 rfl rfl (by omega) ?_ (tgt := 26) (by decide)
        refine lv_aload_n hx hb dX10_copyRow_14 rfl (lv_at hl 2 rfl) ?_
        refine lv_iload_n hx hb dX10_copyRow_15 rfl (lv_at hl 0 rfl) ?_
        refine lv_aload_n hx hb dX10_copyRow_16 rfl (lv_at hl 1 rfl) ?_
        refine lv_iload_n hx hb dX10_copyRow_17 rfl (lv_at hl 0 rfl) ?_
        refine aI C hO (47 + k1) (cW_row rk1) (i_in (X := (i_k2).toInt) rfl (by omega) (by omega)) dX10_copyRow_18 ?_
        refine lv_topi (fun w4 ew4 => ?_)
        refine aIs C hO 29 cW_29 (i_in (X := (i_k2).toInt) rfl (by omega) (by omega)) cW_s29 dX10_copyRow_19 (fun H locs hO => ?_)
        have hJ := CIsA hO hJ
        have e5 : ((i_k2 + 1)).toInt = (i_k2).toInt + 1 := i_add rfl rfl (by omega)
        refine lv_iinc (v := (i_k2 + 1)) (lv' := [(2, .int (i_k2 + 1)), (0, .ref (a (47 + k1))), (1, .ref (a 29))]) hx hb dX10_copyRow_20 hl (k := 0) rfl rfl (by decide) rfl (fun ls hl => ?_)
        refine lv_goto (tgt := 2) hx hb dX10_copyRow_23 (by decide) ?_
        exact ih_k2 _ _ _ _ ((i_k2 + 1)) hO (lv_sub hl [0, 1, 2] rfl) (by exact hJ) (by exact hT) (by first | decide | omega) (by first | decide | omega)
  exact LP_2_k2 4000 _ _ _ _ (0) hO (lv_sub hl [0, 1, 2] rfl) (by exact hJ) (by exact hT) (by first | decide | omega) (by first | decide | omega)
theorem dX0_clear_0 : decode cX0_clear 0 = .ok (.aload_n 0, 1) := by decide +kernel
theorem dX0_clear_1 : decode cX0_clear 1 = .ok (.iconst 0, 1) := by decide +kernel
theorem dX0_clear_2 : decode cX0_clear 2 = .ok (.putfield 16, 3) := by decide +kernel
theorem dX0_clear_5 : decode cX0_clear 5 = .ok (.aload_n 0, 1) := by decide +kernel
theorem dX0_clear_6 : decode cX0_clear 6 = .ok (.iconst 0, 1) := by decide +kernel
theorem dX0_clear_7 : decode cX0_clear 7 = .ok (.putfield 20, 3) := by decide +kernel
theorem dX0_clear_10 : decode cX0_clear 10 = .ok (.return_, 1) := by decide +kernel
theorem wd_804 : (Cond.code ⟨"WebCourt$Acts", "clear", "()V"⟩ prog_2_method_2_code (1 : Nat) (Option.none : Option FieldType)) ∈ gtb := gtb_c3 215 (by decide +kernel) rfl
theorem wd_378 : (Cond.fieldLink "WebCourt$Acts" (16 : Nat) "WebCourt$Acts" "done" "I") ∈ gtb := gtb_c2 29 (by decide +kernel) rfl
theorem wd_382 : (Cond.laysFinal "WebCourt$Acts" "WebCourt$Acts" "rows" "[[I") ∈ gtb := gtb_c2 33 (by decide +kernel) rfl
theorem wd_384 : (Cond.lays "WebCourt$Acts" "WebCourt$Acts" "first" "I") ∈ gtb := gtb_c2 35 (by decide +kernel) rfl
theorem wd_386 : (Cond.lays "WebCourt$Acts" "WebCourt$Acts" "done" "I") ∈ gtb := gtb_c2 37 (by decide +kernel) rfl
theorem wd_388 : (Cond.lays "WebCourt$Acts" "WebCourt$Acts" "undone" "I") ∈ gtb := gtb_c2 39 (by decide +kernel) rfl
theorem inFX0 : ∀ w ∈ u_ws RX0 TX0 4, w ∈ gtb := by
  show ∀ w ∈ [u_lay RX0 TX0 0, u_lay RX0 TX0 1, u_lay RX0 TX0 2, u_lay RX0 TX0 3], w ∈ gtb
  exact List.forall_mem_cons.mpr ⟨wd_382, List.forall_mem_cons.mpr ⟨wd_384, List.forall_mem_cons.mpr ⟨wd_386, List.forall_mem_cons.mpr ⟨wd_388, fun _ h => absurd h List.not_mem_nil⟩⟩⟩⟩
theorem pf_RX0_16 {p : Program} {l : Launch} {e : Env} {R : Room} {s : State} {m : MethodId} {args : Array Value} {below : List Frame} {meth : Method} {c : Code} {H : Heap} {locs : List Loc} {cells slots : Nat} {Q : State → Prop} {cc : ByteArray} {pc nL : Nat} {ls : Array Slot} {rest : List Value} {D : va_G} {cy : Nat → ClassId} {A : Nat → Prop} {ws : va_W} {b : Nat} {fs : List Value} {v : Int32} {ws' : va_W} (C : Cx p s m args c cc nL RX0 D cy A) (hO : Wo D A ws s.heap H locs) (q0 : Nat) (he : ws[q0]? = some (b, .inr (0, fs))) (hlen : 2 < fs.length) (hw : ws.set q0 (b, .inr (0, fs.set 2 (.int v))) = ws') (hdg : decode cc pc = .ok (.putfield 16, 3)) (kk : ∀ (H : Heap) (locs : List Loc), Wo D A ws' s.heap H locs → W p l e R s m args below meth c H locs cells slots Q (F0 m (pc + 3) ls rest)) : W p l e R s m args below meth c H locs cells slots Q (F0 m pc ls (.int v :: .ref b :: rest)) := pF (k := 2) (ty := .int) C hO q0 he rfl inFX0 (by decide) wd_378 rfl tyX0 tyX0_ok nmX0 rfl (by decide +kernel) rfl rfl hlen hw hdg kk
theorem wd_380 : (Cond.fieldLink "WebCourt$Acts" (20 : Nat) "WebCourt$Acts" "undone" "I") ∈ gtb := gtb_c2 31 (by decide +kernel) rfl
theorem pf_RX0_20 {p : Program} {l : Launch} {e : Env} {R : Room} {s : State} {m : MethodId} {args : Array Value} {below : List Frame} {meth : Method} {c : Code} {H : Heap} {locs : List Loc} {cells slots : Nat} {Q : State → Prop} {cc : ByteArray} {pc nL : Nat} {ls : Array Slot} {rest : List Value} {D : va_G} {cy : Nat → ClassId} {A : Nat → Prop} {ws : va_W} {b : Nat} {fs : List Value} {v : Int32} {ws' : va_W} (C : Cx p s m args c cc nL RX0 D cy A) (hO : Wo D A ws s.heap H locs) (q0 : Nat) (he : ws[q0]? = some (b, .inr (0, fs))) (hlen : 3 < fs.length) (hw : ws.set q0 (b, .inr (0, fs.set 3 (.int v))) = ws') (hdg : decode cc pc = .ok (.putfield 20, 3)) (kk : ∀ (H : Heap) (locs : List Loc), Wo D A ws' s.heap H locs → W p l e R s m args below meth c H locs cells slots Q (F0 m (pc + 3) ls rest)) : W p l e R s m args below meth c H locs cells slots Q (F0 m pc ls (.int v :: .ref b :: rest)) := pF (k := 3) (ty := .int) C hO q0 he rfl inFX0 (by decide) wd_380 rfl tyX0 tyX0_ok nmX0 rfl (by decide +kernel) rfl rfl hlen hw hdg kk
set_option maxHeartbeats 4000000 in
set_option maxRecDepth 100000 in
theorem T_X0_clear (l : Launch) (D : va_G) (cy : Nat → ClassId) (a : Nat → Nat) (u : St) (hJ : CI a u)   : Mv l D cy (cW cy a) yX0_clear (.code yX0_clear cX0_clear 1 none) (rmo 0 0) [.ref (a 30)] u (fun (u' : St) => (CI a u') ∧ (KT u u')) := by
  refine Mv.of (own := RX0) rfl (by decide) (Nat.le_of_ble_eq_true rfl) ?_
  have hT : KT u u := KT.rf
  intro p e s m below meth c A Q ls C hret hO hl
  obtain ⟨hx, hb, hml, hown, ht, hK, hA⟩ := id C
  have hl : lv_has ls 1 [(0, .ref (a 30))] := hl
  refine lv_aload_n hx hb dX0_clear_0 rfl (lv_at hl 0 rfl) ?_
  refine lv_iconst (v := 0) hx hb dX0_clear_1 (by decide) ?_
  refine pf_RX0_16 C hO 30 cW_30 (Nat.le_of_ble_eq_true rfl) cW_s30_2 dX0_clear_2 (fun H locs hO => ?_)
  have g1 : 0 ≤ (fI u 30 3).toInt ∧ (fI u 30 3).toInt ≤ 40 := by have h := CI_30_3 hJ; exact h
  have hJ := CIs_30_2 (v := 0) hJ ((show 0 ≤ (0 : Int32).toInt ∧ (0 : Int32).toInt + ((fI u 30 3) : Int32).toInt ≤ 40 from by first | decide | omega | (have z0 : (0 : Int32).toInt = 0 := rfl; omega)))
  refine lv_aload_n hx hb dX0_clear_5 rfl (lv_at hl 0 rfl) ?_
  refine lv_iconst (v := 0) hx hb dX0_clear_6 (by decide) ?_
  refine pf_RX0_20 C hO 30 cW_30 (Nat.le_of_ble_eq_true rfl) cW_s30_3 dX0_clear_7 (fun H locs hO => ?_)
  have hJ := CIs_30_3 (v := 0) hJ ((show 0 ≤ (0 : Int32).toInt ∧ (0 : Int32).toInt + (0 : Int32).toInt ≤ 40 from by first | decide | omega | (have z0 : (0 : Int32).toInt = 0 := rfl; omega)))
  refine hret _ _ _ _ _ dX0_clear_10 ?_ hO
  exact ⟨hJ, hT⟩
theorem dX0_keep_0 : decode cX0_keep 0 = .ok (.aload_n 1, 1) := by decide +kernel
theorem dX0_keep_1 : decode cX0_keep 1 = .ok (.aload_n 0, 1) := by decide +kernel
theorem dX0_keep_2 : decode cX0_keep 2 = .ok (.getfield 13, 3) := by decide +kernel
theorem dX0_keep_5 : decode cX0_keep 5 = .ok (.aload_n 0, 1) := by decide +kernel
theorem dX0_keep_6 : decode cX0_keep 6 = .ok (.getfield 23, 3) := by decide +kernel
theorem dX0_keep_9 : decode cX0_keep 9 = .ok (.aload_n 0, 1) := by decide +kernel
theorem dX0_keep_10 : decode cX0_keep 10 = .ok (.getfield 16, 3) := by decide +kernel
theorem dX0_keep_13 : decode cX0_keep 13 = .ok (.iadd, 1) := by decide +kernel
theorem dX0_keep_14 : decode cX0_keep 14 = .ok (.bipush 41, 2) := by decide +kernel
theorem dX0_keep_16 : decode cX0_keep 16 = .ok (.irem, 1) := by decide +kernel
theorem dX0_keep_17 : decode cX0_keep 17 = .ok (.aaload, 1) := by decide +kernel
theorem dX0_keep_18 : decode cX0_keep 18 = .ok (.invokestatic 26, 3) := by decide +kernel
theorem dX0_keep_21 : decode cX0_keep 21 = .ok (.aload_n 0, 1) := by decide +kernel
theorem dX0_keep_22 : decode cX0_keep 22 = .ok (.iconst 0, 1) := by decide +kernel
theorem dX0_keep_23 : decode cX0_keep 23 = .ok (.putfield 20, 3) := by decide +kernel
theorem dX0_keep_26 : decode cX0_keep 26 = .ok (.aload_n 0, 1) := by decide +kernel
theorem dX0_keep_27 : decode cX0_keep 27 = .ok (.getfield 16, 3) := by decide +kernel
theorem dX0_keep_30 : decode cX0_keep 30 = .ok (.bipush 40, 2) := by decide +kernel
theorem dX0_keep_32 : decode cX0_keep 32 = .ok (.if_icmp .ge 16, 3) := by decide +kernel
theorem dX0_keep_35 : decode cX0_keep 35 = .ok (.aload_n 0, 1) := by decide +kernel
theorem dX0_keep_36 : decode cX0_keep 36 = .ok (.dup, 1) := by decide +kernel
theorem dX0_keep_37 : decode cX0_keep 37 = .ok (.getfield 16, 3) := by decide +kernel
theorem dX0_keep_40 : decode cX0_keep 40 = .ok (.iconst 1, 1) := by decide +kernel
theorem dX0_keep_41 : decode cX0_keep 41 = .ok (.iadd, 1) := by decide +kernel
theorem dX0_keep_42 : decode cX0_keep 42 = .ok (.putfield 16, 3) := by decide +kernel
theorem dX0_keep_45 : decode cX0_keep 45 = .ok (.goto 16, 3) := by decide +kernel
theorem dX0_keep_48 : decode cX0_keep 48 = .ok (.aload_n 0, 1) := by decide +kernel
theorem dX0_keep_49 : decode cX0_keep 49 = .ok (.aload_n 0, 1) := by decide +kernel
theorem dX0_keep_50 : decode cX0_keep 50 = .ok (.getfield 23, 3) := by decide +kernel
theorem dX0_keep_53 : decode cX0_keep 53 = .ok (.iconst 1, 1) := by decide +kernel
theorem dX0_keep_54 : decode cX0_keep 54 = .ok (.iadd, 1) := by decide +kernel
theorem dX0_keep_55 : decode cX0_keep 55 = .ok (.bipush 41, 2) := by decide +kernel
theorem dX0_keep_57 : decode cX0_keep 57 = .ok (.irem, 1) := by decide +kernel
theorem dX0_keep_58 : decode cX0_keep 58 = .ok (.putfield 23, 3) := by decide +kernel
theorem dX0_keep_61 : decode cX0_keep 61 = .ok (.return_, 1) := by decide +kernel
theorem wd_909 : (Cond.code ⟨"WebCourt$Acts", "keep", "([I)V"⟩ prog_2_method_3_code (2 : Nat) (Option.none : Option FieldType)) ∈ gtb := gtb_c4 80 (by decide +kernel) rfl
theorem wd_376 : (Cond.fieldLink "WebCourt$Acts" (13 : Nat) "WebCourt$Acts" "rows" "[[I") ∈ gtb := gtb_c2 27 (by decide +kernel) rfl
theorem gf_RX0_13 {p : Program} {l : Launch} {e : Env} {R : Room} {s : State} {m : MethodId} {args : Array Value} {below : List Frame} {meth : Method} {c : Code} {H : Heap} {locs : List Loc} {cells slots : Nat} {Q : State → Prop} {cc : ByteArray} {pc nL : Nat} {ls : Array Slot} {rest : List Value} {D : va_G} {cy : Nat → ClassId} {A : Nat → Prop} {ws : va_W} {b : Nat} {fs : List Value} {v : Value} (C : Cx p s m args c cc nL RX0 D cy A) (hO : Wo D A ws s.heap H locs) (q0 : Nat) (he : ws[q0]? = some (b, .inr (0, fs))) (hv : fs[0]? = some v) (hdg : decode cc pc = .ok (.getfield 13, 3)) (kk : W p l e R s m args below meth c H locs cells slots Q (F0 m (pc + 3) ls (v :: rest))) : W p l e R s m args below meth c H locs cells slots Q (F0 m pc ls (.ref b :: rest)) := gF (k := 0) C hO q0 he rfl inFX0 (by decide) wd_376 rfl hv hdg kk
theorem wd_377 : (Cond.fieldLink "WebCourt$Acts" (23 : Nat) "WebCourt$Acts" "first" "I") ∈ gtb := gtb_c2 28 (by decide +kernel) rfl
theorem gf_RX0_23 {p : Program} {l : Launch} {e : Env} {R : Room} {s : State} {m : MethodId} {args : Array Value} {below : List Frame} {meth : Method} {c : Code} {H : Heap} {locs : List Loc} {cells slots : Nat} {Q : State → Prop} {cc : ByteArray} {pc nL : Nat} {ls : Array Slot} {rest : List Value} {D : va_G} {cy : Nat → ClassId} {A : Nat → Prop} {ws : va_W} {b : Nat} {fs : List Value} {v : Value} (C : Cx p s m args c cc nL RX0 D cy A) (hO : Wo D A ws s.heap H locs) (q0 : Nat) (he : ws[q0]? = some (b, .inr (0, fs))) (hv : fs[1]? = some v) (hdg : decode cc pc = .ok (.getfield 23, 3)) (kk : W p l e R s m args below meth c H locs cells slots Q (F0 m (pc + 3) ls (v :: rest))) : W p l e R s m args below meth c H locs cells slots Q (F0 m pc ls (.ref b :: rest)) := gF (k := 1) C hO q0 he rfl inFX0 (by decide) wd_377 rfl hv hdg kk
theorem gf_RX0_16 {p : Program} {l : Launch} {e : Env} {R : Room} {s : State} {m : MethodId} {args : Array Value} {below : List Frame} {meth : Method} {c : Code} {H : Heap} {locs : List Loc} {cells slots : Nat} {Q : State → Prop} {cc : ByteArray} {pc nL : Nat} {ls : Array Slot} {rest : List Value} {D : va_G} {cy : Nat → ClassId} {A : Nat → Prop} {ws : va_W} {b : Nat} {fs : List Value} {v : Value} (C : Cx p s m args c cc nL RX0 D cy A) (hO : Wo D A ws s.heap H locs) (q0 : Nat) (he : ws[q0]? = some (b, .inr (0, fs))) (hv : fs[2]? = some v) (hdg : decode cc pc = .ok (.getfield 16, 3)) (kk : W p l e R s m args below meth c H locs cells slots Q (F0 m (pc + 3) ls (v :: rest))) : W p l e R s m args below meth c H locs cells slots Q (F0 m pc ls (.ref b :: rest)) := gF (k := 2) C hO q0 he rfl inFX0 (by decide) wd_378 rfl hv hdg kk
theorem wd_911 : (Cond.static ⟨"WebCourt", "copyRow", "([I[I)V"⟩) ∈ gtb := gtb_c4 82 (by decide +kernel) rfl
theorem wd_110 : (Cond.initialized "WebCourt") ∈ gtb := gtb_c1 1 (by decide +kernel) rfl
theorem hd_yX10_copyRow : yX10_copyRow.cls ≠ "java/lang/invoke/MethodHandle" ∧ yX10_copyRow.cls ≠ "java/lang/invoke/VarHandle" ∧ (parseMethodDescriptor yX10_copyRow.desc).map (fun d => d.parameters.length) = some 2 := by decide +kernel
theorem pf_RX0_23 {p : Program} {l : Launch} {e : Env} {R : Room} {s : State} {m : MethodId} {args : Array Value} {below : List Frame} {meth : Method} {c : Code} {H : Heap} {locs : List Loc} {cells slots : Nat} {Q : State → Prop} {cc : ByteArray} {pc nL : Nat} {ls : Array Slot} {rest : List Value} {D : va_G} {cy : Nat → ClassId} {A : Nat → Prop} {ws : va_W} {b : Nat} {fs : List Value} {v : Int32} {ws' : va_W} (C : Cx p s m args c cc nL RX0 D cy A) (hO : Wo D A ws s.heap H locs) (q0 : Nat) (he : ws[q0]? = some (b, .inr (0, fs))) (hlen : 1 < fs.length) (hw : ws.set q0 (b, .inr (0, fs.set 1 (.int v))) = ws') (hdg : decode cc pc = .ok (.putfield 23, 3)) (kk : ∀ (H : Heap) (locs : List Loc), Wo D A ws' s.heap H locs → W p l e R s m args below meth c H locs cells slots Q (F0 m (pc + 3) ls rest)) : W p l e R s m args below meth c H locs cells slots Q (F0 m pc ls (.int v :: .ref b :: rest)) := pF (k := 1) (ty := .int) C hO q0 he rfl inFX0 (by decide) wd_377 rfl tyX0 tyX0_ok nmX0 rfl (by decide +kernel) rfl rfl hlen hw hdg kk
set_option maxHeartbeats 4000000 in
set_option maxRecDepth 100000 in
theorem T_X0_keep (l : Launch) (D : va_G) (cy : Nat → ClassId) (a : Nat → Nat) (u : St) (hJ : CI a u)   : Mv l D cy (cW cy a) yX0_keep (.code yX0_keep cX0_keep 2 none) (rmo 1 22) [.ref (a 30), .ref (a 29)] u (fun (u' : St) => (CI a u') ∧ (KT u u')) := by
  refine Mv.of (own := RX0) rfl (by decide) (Nat.le_of_ble_eq_true rfl) ?_
  have hT : KT u u := KT.rf
  intro p e s m below meth c A Q ls C hret hO hl
  obtain ⟨hx, hb, hml, hown, ht, hK, hA⟩ := id C
  have hl : lv_has ls 2 [(0, .ref (a 30)), (1, .ref (a 29))] := hl
  refine lv_aload_n hx hb dX0_keep_0 rfl (lv_at hl 1 rfl) ?_
  refine lv_aload_n hx hb dX0_keep_1 rfl (lv_at hl 0 rfl) ?_
  refine gf_RX0_13 (v := .ref (a 31)) C hO 30 cW_30 rfl dX0_keep_2 ?_
  refine lv_aload_n hx hb dX0_keep_5 rfl (lv_at hl 0 rfl) ?_
  have g1 : 0 ≤ (fI u 30 1).toInt ∧ (fI u 30 1).toInt ≤ 40 := by have h := CI_30_1 hJ; exact h
  refine gf_RX0_23 (v := .int (fI u 30 1)) C hO 30 cW_30 rfl dX0_keep_6 ?_
  refine lv_aload_n hx hb dX0_keep_9 rfl (lv_at hl 0 rfl) ?_
  have g2 : 0 ≤ (fI u 30 2).toInt ∧ (fI u 30 2).toInt ≤ 40 := by have h := CI_30_2 hJ; exact h
  refine gf_RX0_16 (v := .int (fI u 30 2)) C hO 30 cW_30 rfl dX0_keep_10 ?_
  have e3 : (((fI u 30 1) + (fI u 30 2))).toInt = ((fI u 30 1)).toInt + ((fI u 30 2)).toInt := i_add rfl rfl (by omega)
  refine lv_iadd hx hb dX0_keep_13 ?_
  refine lv_bipush (v := 41) hx hb dX0_keep_14 (by decide) ?_
  refine lv_irem hx hb dX0_keep_16 (i_ne0 (X := 41) rfl (by omega)) ?_
  refine lv_topi (fun z4 ez4 => ?_)
  have d5 := i_remj (y := 41) e3 (d := 41) rfl (by omega) (by decide)
  rw [← ez4] at d5
  refine aII C hO 31 cW_31 (i_in (X := (z4).toInt) rfl (by omega) (by omega)) dX0_keep_17 ?_
  obtain ⟨k6, hk6⟩ : ∃ k : Nat, k = z4.toNatClampNeg := ⟨_, rfl⟩
  have lk6 : k6 < 41 := by rw [hk6]; exact i_clt (X := (z4).toInt) rfl (by omega) (by omega)
  refine tEv (y := .ref (a (47 + (0 + k6)))) (by rw [← hk6]; simp only [if_pos lk6, va_rf]; rw [show 47 + k6 = 47 + (0 + k6) by omega]) ?_
  have rk6 : (0 + k6) < 44 := by omega
  refine cNv (w := cW cy a) (As := [.ref (a 29), .ref (a (47 + (0 + k6)))]) (rest := []) C hO (T_X10_copyRow_out l D cy a _ (by exact hJ) (0 + k6) rk6) ⟨va_cnB (host := "WebCourt") 2 ht (gGood wd_912) rfl rfl rfl hK.2 (ht _ wd_110) hd_yX10_copyRow ⟨Nat.le_of_ble_eq_true rfl, Nat.le_of_ble_eq_true rfl⟩, ht _ wd_911, trivial⟩  rfl hl.1 (Nat.le_of_ble_eq_true rfl) dX0_keep_18 rfl ⟨Nat.zero_le _, Nat.zero_le _⟩ (fun u8 H locs hp9 hO => ?_)
  have g10 : 0 ≤ (fI u 30 3).toInt ∧ (fI u 30 3).toInt ≤ 40 := by have h := CI_30_3 hJ; exact h
  obtain ⟨hJ, hTu8⟩ := hp9
  have hT : KT u u8 := KT.tr (by exact hT) hTu8.1
  have hI_30_1_u8 : fI u8 30 1 = (fI u 30 1) := hTu8.2.1
  have hI_30_2_u8 : fI u8 30 2 = (fI u 30 2) := hTu8.2.2.1
  have hI_30_3_u8 : fI u8 30 3 = (fI u 30 3) := hTu8.2.2.2
  refine lv_aload_n hx hb dX0_keep_21 rfl (lv_at hl 0 rfl) ?_
  refine lv_iconst (v := 0) hx hb dX0_keep_22 (by decide) ?_
  refine pf_RX0_20 C hO 30 cW_30 (Nat.le_of_ble_eq_true rfl) cW_s30_3 dX0_keep_23 (fun H locs hO => ?_)
  have hJ := CIs_30_3 (v := 0) hJ (by rw [hI_30_2_u8]; exact (show 0 ≤ (0 : Int32).toInt ∧ (0 : Int32).toInt + ((fI u 30 2) : Int32).toInt ≤ 40 from by first | decide | omega | (have z0 : (0 : Int32).toInt = 0 := rfl; omega)))
  refine lv_aload_n hx hb dX0_keep_26 rfl (lv_at hl 0 rfl) ?_
  refine gf_RX0_16 (v := .int (fI u 30 2)) C hO 30 cW_30 (congrArg (fun z : Int32 => some (Value.int z)) hI_30_2_u8) dX0_keep_27 ?_
  refine lv_bipush (v := 40) hx hb dX0_keep_30 (by decide) ?_
  refine cs_ge (tgt := 48) (X := ((fI u 30 2)).toInt) (Y := 40) hx hb dX0_keep_32 (by decide) rfl rfl (fun c11 => ?_) (fun c11 => ?_)
  · refine lv_aload_n hx hb dX0_keep_48 rfl (lv_at hl 0 rfl) ?_
    refine lv_aload_n hx hb dX0_keep_49 rfl (lv_at hl 0 rfl) ?_
    refine gf_RX0_23 (v := .int (fI u 30 1)) C hO 30 cW_30 (congrArg (fun z : Int32 => some (Value.int z)) hI_30_1_u8) dX0_keep_50 ?_
    refine lv_iconst (v := 1) hx hb dX0_keep_53 (by decide) ?_
    have e12 : (((fI u 30 1) + 1)).toInt = ((fI u 30 1)).toInt + 1 := i_add rfl rfl (by omega)
    refine lv_iadd hx hb dX0_keep_54 ?_
    refine lv_bipush (v := 41) hx hb dX0_keep_55 (by decide) ?_
    refine lv_irem hx hb dX0_keep_57 (i_ne0 (X := 41) rfl (by omega)) ?_
    refine lv_topi (fun z13 ez13 => ?_)
    have d14 := i_remj (y := 41) e12 (d := 41) rfl (by omega) (by decide)
    rw [← ez13] at d14
    refine pf_RX0_23 C hO 30 cW_30 (Nat.le_of_ble_eq_true rfl) cW_s30_1 dX0_keep_58 (fun H locs hO => ?_)
    have hJ := CIs_30_1 (v := z13) hJ (by first | decide | omega)
    refine hret _ _ _ _ _ dX0_keep_61 ?_ hO
    exact ⟨hJ, hT⟩
  · refine lv_aload_n hx hb dX0_keep_35 rfl (lv_at hl 0 rfl) ?_
    refine lv_dup hx hb dX0_keep_36 rfl ?_
    refine gf_RX0_16 (v := .int (fI u 30 2)) C hO 30 cW_30 (congrArg (fun z : Int32 => some (Value.int z)) hI_30_2_u8) dX0_keep_37 ?_
    refine lv_iconst (v := 1) hx hb dX0_keep_40 (by decide) ?_
    have e15 : (((fI u 30 2) + 1)).toInt = ((fI u 30 2)).toInt + 1 := i_add rfl rfl (by omega)
    refine lv_iadd hx hb dX0_keep_41 ?_
    refine pf_RX0_16 C hO 30 cW_30 (Nat.le_of_ble_eq_true rfl) cW_s30_2 dX0_keep_42 (fun H locs hO => ?_)
    have hJ := CIs_30_2 (v := ((fI u 30 2) + 1)) hJ ((show 0 ≤ (((fI u 30 2) + 1) : Int32).toInt ∧ (((fI u 30 2) + 1) : Int32).toInt + (0 : Int32).toInt ≤ 40 from by first | decide | omega | (have z0 : (0 : Int32).toInt = 0 := rfl; omega)))
    refine lv_goto (tgt := 61) hx hb dX0_keep_45 (by decide) ?_
    refine hret _ _ _ _ _ dX0_keep_61 ?_ hO
    exact ⟨hJ, hT⟩
theorem dX0_takeBack_0 : decode cX0_takeBack 0 = .ok (.aload_n 0, 1) := by decide +kernel
theorem dX0_takeBack_1 : decode cX0_takeBack 1 = .ok (.getfield 16, 3) := by decide +kernel
theorem dX0_takeBack_4 : decode cX0_takeBack 4 = .ok (.ifCond .ne 5, 3) := by decide +kernel
theorem dX0_takeBack_7 : decode cX0_takeBack 7 = .ok (.iconst 0, 1) := by decide +kernel
theorem dX0_takeBack_8 : decode cX0_takeBack 8 = .ok (.ireturn, 1) := by decide +kernel
theorem dX0_takeBack_9 : decode cX0_takeBack 9 = .ok (.aload_n 1, 1) := by decide +kernel
theorem dX0_takeBack_10 : decode cX0_takeBack 10 = .ok (.aload_n 0, 1) := by decide +kernel
theorem dX0_takeBack_11 : decode cX0_takeBack 11 = .ok (.getfield 13, 3) := by decide +kernel
theorem dX0_takeBack_14 : decode cX0_takeBack 14 = .ok (.aload_n 0, 1) := by decide +kernel
theorem dX0_takeBack_15 : decode cX0_takeBack 15 = .ok (.getfield 23, 3) := by decide +kernel
theorem dX0_takeBack_18 : decode cX0_takeBack 18 = .ok (.aload_n 0, 1) := by decide +kernel
theorem dX0_takeBack_19 : decode cX0_takeBack 19 = .ok (.getfield 16, 3) := by decide +kernel
theorem dX0_takeBack_22 : decode cX0_takeBack 22 = .ok (.iadd, 1) := by decide +kernel
theorem dX0_takeBack_23 : decode cX0_takeBack 23 = .ok (.bipush 41, 2) := by decide +kernel
theorem dX0_takeBack_25 : decode cX0_takeBack 25 = .ok (.irem, 1) := by decide +kernel
theorem dX0_takeBack_26 : decode cX0_takeBack 26 = .ok (.aaload, 1) := by decide +kernel
theorem dX0_takeBack_27 : decode cX0_takeBack 27 = .ok (.invokestatic 26, 3) := by decide +kernel
theorem dX0_takeBack_30 : decode cX0_takeBack 30 = .ok (.aload_n 0, 1) := by decide +kernel
theorem dX0_takeBack_31 : decode cX0_takeBack 31 = .ok (.dup, 1) := by decide +kernel
theorem dX0_takeBack_32 : decode cX0_takeBack 32 = .ok (.getfield 16, 3) := by decide +kernel
theorem dX0_takeBack_35 : decode cX0_takeBack 35 = .ok (.iconst 1, 1) := by decide +kernel
theorem dX0_takeBack_36 : decode cX0_takeBack 36 = .ok (.isub, 1) := by decide +kernel
theorem dX0_takeBack_37 : decode cX0_takeBack 37 = .ok (.putfield 16, 3) := by decide +kernel
theorem dX0_takeBack_40 : decode cX0_takeBack 40 = .ok (.aload_n 0, 1) := by decide +kernel
theorem dX0_takeBack_41 : decode cX0_takeBack 41 = .ok (.dup, 1) := by decide +kernel
theorem dX0_takeBack_42 : decode cX0_takeBack 42 = .ok (.getfield 20, 3) := by decide +kernel
theorem dX0_takeBack_45 : decode cX0_takeBack 45 = .ok (.iconst 1, 1) := by decide +kernel
theorem dX0_takeBack_46 : decode cX0_takeBack 46 = .ok (.iadd, 1) := by decide +kernel
theorem dX0_takeBack_47 : decode cX0_takeBack 47 = .ok (.putfield 20, 3) := by decide +kernel
theorem dX0_takeBack_50 : decode cX0_takeBack 50 = .ok (.aload_n 0, 1) := by decide +kernel
theorem dX0_takeBack_51 : decode cX0_takeBack 51 = .ok (.getfield 13, 3) := by decide +kernel
theorem dX0_takeBack_54 : decode cX0_takeBack 54 = .ok (.aload_n 0, 1) := by decide +kernel
theorem dX0_takeBack_55 : decode cX0_takeBack 55 = .ok (.getfield 23, 3) := by decide +kernel
theorem dX0_takeBack_58 : decode cX0_takeBack 58 = .ok (.aload_n 0, 1) := by decide +kernel
theorem dX0_takeBack_59 : decode cX0_takeBack 59 = .ok (.getfield 16, 3) := by decide +kernel
theorem dX0_takeBack_62 : decode cX0_takeBack 62 = .ok (.iadd, 1) := by decide +kernel
theorem dX0_takeBack_63 : decode cX0_takeBack 63 = .ok (.bipush 41, 2) := by decide +kernel
theorem dX0_takeBack_65 : decode cX0_takeBack 65 = .ok (.irem, 1) := by decide +kernel
theorem dX0_takeBack_66 : decode cX0_takeBack 66 = .ok (.aaload, 1) := by decide +kernel
theorem dX0_takeBack_67 : decode cX0_takeBack 67 = .ok (.aload_n 1, 1) := by decide +kernel
theorem dX0_takeBack_68 : decode cX0_takeBack 68 = .ok (.invokestatic 26, 3) := by decide +kernel
theorem dX0_takeBack_71 : decode cX0_takeBack 71 = .ok (.iconst 1, 1) := by decide +kernel
theorem dX0_takeBack_72 : decode cX0_takeBack 72 = .ok (.ireturn, 1) := by decide +kernel
theorem wd_974 : (Cond.code ⟨"WebCourt$Acts", "takeBack", "([I)Z"⟩ prog_2_method_4_code (2 : Nat) (Option.some FieldType.boolean)) ∈ gtb := gtb_c4 145 (by decide +kernel) rfl
theorem gf_RX0_20 {p : Program} {l : Launch} {e : Env} {R : Room} {s : State} {m : MethodId} {args : Array Value} {below : List Frame} {meth : Method} {c : Code} {H : Heap} {locs : List Loc} {cells slots : Nat} {Q : State → Prop} {cc : ByteArray} {pc nL : Nat} {ls : Array Slot} {rest : List Value} {D : va_G} {cy : Nat → ClassId} {A : Nat → Prop} {ws : va_W} {b : Nat} {fs : List Value} {v : Value} (C : Cx p s m args c cc nL RX0 D cy A) (hO : Wo D A ws s.heap H locs) (q0 : Nat) (he : ws[q0]? = some (b, .inr (0, fs))) (hv : fs[3]? = some v) (hdg : decode cc pc = .ok (.getfield 20, 3)) (kk : W p l e R s m args below meth c H locs cells slots Q (F0 m (pc + 3) ls (v :: rest))) : W p l e R s m args below meth c H locs cells slots Q (F0 m pc ls (.ref b :: rest)) := gF (k := 3) C hO q0 he rfl inFX0 (by decide) wd_380 rfl hv hdg kk
set_option maxHeartbeats 4000000 in
set_option maxRecDepth 100000 in
theorem T_X0_takeBack (l : Launch) (D : va_G) (cy : Nat → ClassId) (a : Nat → Nat) (u : St) (hJ : CI a u)   : Mi l D cy (cW cy a) yX0_takeBack (.code yX0_takeBack cX0_takeBack 2 (some .boolean)) (rmo 1 22) [.ref (a 30), .ref (a 29)] u (fun (r : Int32) (u' : St) => (r = 0 ∨ r = 1) ∧ (CI a u') ∧ (KT u u')) := by
  refine Mi.of (own := RX0) rfl (by decide) (Nat.le_of_ble_eq_true rfl) ?_
  have hT : KT u u := KT.rf
  have hact := CI_acts hJ
  intro p e s m below meth c A Q ls C hret hO hl
  obtain ⟨hx, hb, hml, hown, ht, hK, hA⟩ := id C
  have hl : lv_has ls 2 [(0, .ref (a 30)), (1, .ref (a 29))] := hl
  refine lv_aload_n hx hb dX0_takeBack_0 rfl (lv_at hl 0 rfl) ?_
  have g1 : 0 ≤ (fI u 30 2).toInt ∧ (fI u 30 2).toInt ≤ 40 := by have h := CI_30_2 hJ; exact h
  refine gf_RX0_16 (v := .int (fI u 30 2)) C hO 30 cW_30 rfl dX0_takeBack_1 ?_
  refine bs_ne (tgt := 9) (X := ((fI u 30 2)).toInt) hx hb dX0_takeBack_4 (by decide) rfl (fun c2 => ?_) (fun c2 => ?_)
  · refine lv_aload_n hx hb dX0_takeBack_9 rfl (lv_at hl 1 rfl) ?_
    refine lv_aload_n hx hb dX0_takeBack_10 rfl (lv_at hl 0 rfl) ?_
    refine gf_RX0_13 (v := .ref (a 31)) C hO 30 cW_30 rfl dX0_takeBack_11 ?_
    refine lv_aload_n hx hb dX0_takeBack_14 rfl (lv_at hl 0 rfl) ?_
    have g3 : 0 ≤ (fI u 30 1).toInt ∧ (fI u 30 1).toInt ≤ 40 := by have h := CI_30_1 hJ; exact h
    refine gf_RX0_23 (v := .int (fI u 30 1)) C hO 30 cW_30 rfl dX0_takeBack_15 ?_
    refine lv_aload_n hx hb dX0_takeBack_18 rfl (lv_at hl 0 rfl) ?_
    refine gf_RX0_16 (v := .int (fI u 30 2)) C hO 30 cW_30 rfl dX0_takeBack_19 ?_
    have e4 : (((fI u 30 1) + (fI u 30 2))).toInt = ((fI u 30 1)).toInt + ((fI u 30 2)).toInt := i_add rfl rfl (by omega)
    refine lv_iadd hx hb dX0_takeBack_22 ?_
    refine lv_bipush (v := 41) hx hb dX0_takeBack_23 (by decide) ?_
    refine lv_irem hx hb dX0_takeBack_25 (i_ne0 (X := 41) rfl (by omega)) ?_
    refine lv_topi (fun z5 ez5 => ?_)
    have d6 := i_remj (y := 41) e4 (d := 41) rfl (by omega) (by decide)
    rw [← ez5] at d6
    refine aII C hO 31 cW_31 (i_in (X := (z5).toInt) rfl (by omega) (by omega)) dX0_takeBack_26 ?_
    obtain ⟨k7, hk7⟩ : ∃ k : Nat, k = z5.toNatClampNeg := ⟨_, rfl⟩
    have lk7 : k7 < 41 := by rw [hk7]; exact i_clt (X := (z5).toInt) rfl (by omega) (by omega)
    refine tEv (y := .ref (a (47 + (0 + k7)))) (by rw [← hk7]; simp only [if_pos lk7, va_rf]; rw [show 47 + k7 = 47 + (0 + k7) by omega]) ?_
    have rk7 : (0 + k7) < 44 := by omega
    refine cNv (w := cW cy a) (As := [.ref (a 29), .ref (a (47 + (0 + k7)))]) (rest := []) C hO (T_X10_copyRow_out l D cy a _ (by exact hJ) (0 + k7) rk7) ⟨va_cnB (host := "WebCourt") 2 ht (gGood wd_912) rfl rfl rfl hK.2 (ht _ wd_110) hd_yX10_copyRow ⟨Nat.le_of_ble_eq_true rfl, Nat.le_of_ble_eq_true rfl⟩, ht _ wd_911, trivial⟩  rfl hl.1 (Nat.le_of_ble_eq_true rfl) dX0_takeBack_27 rfl ⟨Nat.zero_le _, Nat.zero_le _⟩ (fun u9 H locs hp10 hO => ?_)
    have g11 : 0 ≤ (fI u 30 3).toInt ∧ (fI u 30 3).toInt ≤ 40 := by have h := CI_30_3 hJ; exact h
    obtain ⟨hJ, hTu9⟩ := hp10
    have hT : KT u u9 := KT.tr (by exact hT) hTu9.1
    have hI_30_1_u9 : fI u9 30 1 = (fI u 30 1) := hTu9.2.1
    have hI_30_2_u9 : fI u9 30 2 = (fI u 30 2) := hTu9.2.2.1
    have hI_30_3_u9 : fI u9 30 3 = (fI u 30 3) := hTu9.2.2.2
    refine lv_aload_n hx hb dX0_takeBack_30 rfl (lv_at hl 0 rfl) ?_
    refine lv_dup hx hb dX0_takeBack_31 rfl ?_
    refine gf_RX0_16 (v := .int (fI u 30 2)) C hO 30 cW_30 (congrArg (fun z : Int32 => some (Value.int z)) hI_30_2_u9) dX0_takeBack_32 ?_
    refine lv_iconst (v := 1) hx hb dX0_takeBack_35 (by decide) ?_
    have e12 : (((fI u 30 2) - 1)).toInt = ((fI u 30 2)).toInt - 1 := i_sub rfl rfl (by omega)
    refine lv_isub hx hb dX0_takeBack_36 ?_
    refine pf_RX0_16 C hO 30 cW_30 (Nat.le_of_ble_eq_true rfl) cW_s30_2 dX0_takeBack_37 (fun H locs hO => ?_)
    have hJ := CIs_30_2 (v := ((fI u 30 2) - 1)) hJ (by rw [hI_30_3_u9]; exact (show 0 ≤ (((fI u 30 2) - 1) : Int32).toInt ∧ (((fI u 30 2) - 1) : Int32).toInt + ((fI u 30 3) : Int32).toInt ≤ 40 from by first | decide | omega | (have z0 : (0 : Int32).toInt = 0 := rfl; omega)))
    refine lv_aload_n hx hb dX0_takeBack_40 rfl (lv_at hl 0 rfl) ?_
    refine lv_dup hx hb dX0_takeBack_41 rfl ?_
    refine gf_RX0_20 (v := .int (fI u 30 3)) C hO 30 cW_30 (congrArg (fun z : Int32 => some (Value.int z)) hI_30_3_u9) dX0_takeBack_42 ?_
    refine lv_iconst (v := 1) hx hb dX0_takeBack_45 (by decide) ?_
    have e13 : (((fI u 30 3) + 1)).toInt = ((fI u 30 3)).toInt + 1 := i_add rfl rfl (by omega)
    refine lv_iadd hx hb dX0_takeBack_46 ?_
    refine pf_RX0_20 C hO 30 cW_30 (Nat.le_of_ble_eq_true rfl) cW_s30_3 dX0_takeBack_47 (fun H locs hO => ?_)
    have hJ := CIs_30_3 (v := ((fI u 30 3) + 1)) hJ ((show 0 ≤ (((fI u 30 3) + 1) : Int32).toInt ∧ (((fI u 30 3) + 1) : Int32).toInt + (((fI u 30 2) - 1) : Int32).toInt ≤ 40 from by first | decide | omega | (have z0 : (0 : Int32).toInt = 0 := rfl; omega)))
    refine lv_aload_n hx hb dX0_takeBack_50 rfl (lv_at hl 0 rfl) ?_
    refine gf_RX0_13 (v := .ref (a 31)) C hO 30 cW_30 rfl dX0_takeBack_51 ?_
    refine lv_aload_n hx hb dX0_takeBack_54 rfl (lv_at hl 0 rfl) ?_
    refine gf_RX0_23 (v := .int (fI u 30 1)) C hO 30 cW_30 (congrArg (fun z : Int32 => some (Value.int z)) hI_30_1_u9) dX0_takeBack_55 ?_
    refine lv_aload_n hx hb dX0_takeBack_58 rfl (lv_at hl 0 rfl) ?_
    refine gf_RX0_16 (v := .int ((fI u 30 2) - 1)) C hO 30 cW_30 rfl dX0_takeBack_59 ?_
    have e14 : (((fI u 30 1) + ((fI u 30 2) - 1))).toInt = ((fI u 30 1)).toInt + (((fI u 30 2)).toInt - 1) := i_add rfl e12 (by omega)
    refine lv_iadd hx hb dX0_takeBack_62 ?_
    refine lv_bipush (v := 41) hx hb dX0_takeBack_63 (by decide) ?_
    refine lv_irem hx hb dX0_takeBack_65 (i_ne0 (X := 41) rfl (by omega)) ?_
    refine lv_topi (fun z15 ez15 => ?_)
    have d16 := i_remj (y := 41) e14 (d := 41) rfl (by omega) (by decide)
    rw [← ez15] at d16
    refine aII C hO 31 cW_31 (i_in (X := (z15).toInt) rfl (by omega) (by omega)) dX0_takeBack_66 ?_
    obtain ⟨k17, hk17⟩ : ∃ k : Nat, k = z15.toNatClampNeg := ⟨_, rfl⟩
    have lk17 : k17 < 41 := by rw [hk17]; exact i_clt (X := (z15).toInt) rfl (by omega) (by omega)
    refine tEv (y := .ref (a (47 + (0 + k17)))) (by rw [← hk17]; simp only [if_pos lk17, va_rf]; rw [show 47 + k17 = 47 + (0 + k17) by omega]) ?_
    have rk17 : (0 + k17) < 44 := by omega
    refine lv_aload_n hx hb dX0_takeBack_67 rfl (lv_at hl 1 rfl) ?_
    refine cNv (w := cW cy a) (As := [.ref (a (47 + (0 + k17))), .ref (a 29)]) (rest := []) C hO (T_X10_copyRow_in l D cy a _ (by exact hJ) (0 + k17) rk17) ⟨va_cnB (host := "WebCourt") 2 ht (gGood wd_912) rfl rfl rfl hK.2 (ht _ wd_110) hd_yX10_copyRow ⟨Nat.le_of_ble_eq_true rfl, Nat.le_of_ble_eq_true rfl⟩, ht _ wd_911, trivial⟩  rfl hl.1 (Nat.le_of_ble_eq_true rfl) dX0_takeBack_68 rfl ⟨Nat.zero_le _, Nat.zero_le _⟩ (fun u19 H locs hp20 hO => ?_)
    obtain ⟨hJ, hTu19⟩ := hp20
    have hT : KT u u19 := KT.tr (by exact hT) hTu19.1
    have hI_30_1_u19 : fI u19 30 1 = (fI u 30 1) := Eq.trans (hTu19.2.1) (hI_30_1_u9)
    have hI_30_2_u19 : fI u19 30 2 = ((fI u 30 2) - 1) := hTu19.2.2.1
    have hI_30_3_u19 : fI u19 30 3 = ((fI u 30 3) + 1) := hTu19.2.2.2
    refine lv_iconst (v := 1) hx hb dX0_takeBack_71 (by decide) ?_
    refine hret _ _ _ _ _ _ dX0_takeBack_72 rfl ?_ hO
    exact ⟨Or.inr rfl, hJ, hT⟩
  · refine lv_iconst (v := 0) hx hb dX0_takeBack_7 (by decide) ?_
    refine hret _ _ _ _ _ _ dX0_takeBack_8 rfl ?_ hO
    exact ⟨Or.inl rfl, hJ, hT⟩
theorem dX0_doAgain_0 : decode cX0_doAgain 0 = .ok (.aload_n 0, 1) := by decide +kernel
theorem dX0_doAgain_1 : decode cX0_doAgain 1 = .ok (.getfield 20, 3) := by decide +kernel
theorem dX0_doAgain_4 : decode cX0_doAgain 4 = .ok (.ifCond .ne 5, 3) := by decide +kernel
theorem dX0_doAgain_7 : decode cX0_doAgain 7 = .ok (.iconst 0, 1) := by decide +kernel
theorem dX0_doAgain_8 : decode cX0_doAgain 8 = .ok (.ireturn, 1) := by decide +kernel
theorem dX0_doAgain_9 : decode cX0_doAgain 9 = .ok (.aload_n 0, 1) := by decide +kernel
theorem dX0_doAgain_10 : decode cX0_doAgain 10 = .ok (.dup, 1) := by decide +kernel
theorem dX0_doAgain_11 : decode cX0_doAgain 11 = .ok (.getfield 16, 3) := by decide +kernel
theorem dX0_doAgain_14 : decode cX0_doAgain 14 = .ok (.iconst 1, 1) := by decide +kernel
theorem dX0_doAgain_15 : decode cX0_doAgain 15 = .ok (.iadd, 1) := by decide +kernel
theorem dX0_doAgain_16 : decode cX0_doAgain 16 = .ok (.putfield 16, 3) := by decide +kernel
theorem dX0_doAgain_19 : decode cX0_doAgain 19 = .ok (.aload_n 0, 1) := by decide +kernel
theorem dX0_doAgain_20 : decode cX0_doAgain 20 = .ok (.dup, 1) := by decide +kernel
theorem dX0_doAgain_21 : decode cX0_doAgain 21 = .ok (.getfield 20, 3) := by decide +kernel
theorem dX0_doAgain_24 : decode cX0_doAgain 24 = .ok (.iconst 1, 1) := by decide +kernel
theorem dX0_doAgain_25 : decode cX0_doAgain 25 = .ok (.isub, 1) := by decide +kernel
theorem dX0_doAgain_26 : decode cX0_doAgain 26 = .ok (.putfield 20, 3) := by decide +kernel
theorem dX0_doAgain_29 : decode cX0_doAgain 29 = .ok (.aload_n 0, 1) := by decide +kernel
theorem dX0_doAgain_30 : decode cX0_doAgain 30 = .ok (.getfield 13, 3) := by decide +kernel
theorem dX0_doAgain_33 : decode cX0_doAgain 33 = .ok (.aload_n 0, 1) := by decide +kernel
theorem dX0_doAgain_34 : decode cX0_doAgain 34 = .ok (.getfield 23, 3) := by decide +kernel
theorem dX0_doAgain_37 : decode cX0_doAgain 37 = .ok (.aload_n 0, 1) := by decide +kernel
theorem dX0_doAgain_38 : decode cX0_doAgain 38 = .ok (.getfield 16, 3) := by decide +kernel
theorem dX0_doAgain_41 : decode cX0_doAgain 41 = .ok (.iadd, 1) := by decide +kernel
theorem dX0_doAgain_42 : decode cX0_doAgain 42 = .ok (.bipush 41, 2) := by decide +kernel
theorem dX0_doAgain_44 : decode cX0_doAgain 44 = .ok (.irem, 1) := by decide +kernel
theorem dX0_doAgain_45 : decode cX0_doAgain 45 = .ok (.aaload, 1) := by decide +kernel
theorem dX0_doAgain_46 : decode cX0_doAgain 46 = .ok (.aload_n 1, 1) := by decide +kernel
theorem dX0_doAgain_47 : decode cX0_doAgain 47 = .ok (.invokestatic 26, 3) := by decide +kernel
theorem dX0_doAgain_50 : decode cX0_doAgain 50 = .ok (.iconst 1, 1) := by decide +kernel
theorem dX0_doAgain_51 : decode cX0_doAgain 51 = .ok (.ireturn, 1) := by decide +kernel
theorem wd_982 : (Cond.code ⟨"WebCourt$Acts", "doAgain", "([I)Z"⟩ prog_2_method_5_code (2 : Nat) (Option.some FieldType.boolean)) ∈ gtb := gtb_c4 153 (by decide +kernel) rfl
set_option maxHeartbeats 4000000 in
set_option maxRecDepth 100000 in
theorem T_X0_doAgain (l : Launch) (D : va_G) (cy : Nat → ClassId) (a : Nat → Nat) (u : St) (hJ : CI a u)   : Mi l D cy (cW cy a) yX0_doAgain (.code yX0_doAgain cX0_doAgain 2 (some .boolean)) (rmo 1 22) [.ref (a 30), .ref (a 29)] u (fun (r : Int32) (u' : St) => (r = 0 ∨ r = 1) ∧ (CI a u') ∧ (KT u u')) := by
  refine Mi.of (own := RX0) rfl (by decide) (Nat.le_of_ble_eq_true rfl) ?_
  have hT : KT u u := KT.rf
  have hact := CI_acts hJ
  intro p e s m below meth c A Q ls C hret hO hl
  obtain ⟨hx, hb, hml, hown, ht, hK, hA⟩ := id C
  have hl : lv_has ls 2 [(0, .ref (a 30)), (1, .ref (a 29))] := hl
  refine lv_aload_n hx hb dX0_doAgain_0 rfl (lv_at hl 0 rfl) ?_
  have g1 : 0 ≤ (fI u 30 3).toInt ∧ (fI u 30 3).toInt ≤ 40 := by have h := CI_30_3 hJ; exact h
  refine gf_RX0_20 (v := .int (fI u 30 3)) C hO 30 cW_30 rfl dX0_doAgain_1 ?_
  refine bs_ne (tgt := 9) (X := ((fI u 30 3)).toInt) hx hb dX0_doAgain_4 (by decide) rfl (fun c2 => ?_) (fun c2 => ?_)
  · refine lv_aload_n hx hb dX0_doAgain_9 rfl (lv_at hl 0 rfl) ?_
    refine lv_dup hx hb dX0_doAgain_10 rfl ?_
    have g3 : 0 ≤ (fI u 30 2).toInt ∧ (fI u 30 2).toInt ≤ 40 := by have h := CI_30_2 hJ; exact h
    refine gf_RX0_16 (v := .int (fI u 30 2)) C hO 30 cW_30 rfl dX0_doAgain_11 ?_
    refine lv_iconst (v := 1) hx hb dX0_doAgain_14 (by decide) ?_
    have e4 : (((fI u 30 2) + 1)).toInt = ((fI u 30 2)).toInt + 1 := i_add rfl rfl (by omega)
    refine lv_iadd hx hb dX0_doAgain_15 ?_
    refine pf_RX0_16 C hO 30 cW_30 (Nat.le_of_ble_eq_true rfl) cW_s30_2 dX0_doAgain_16 (fun H locs hO => ?_)
    refine lv_aload_n hx hb dX0_doAgain_19 rfl (lv_at hl 0 rfl) ?_
    refine lv_dup hx hb dX0_doAgain_20 rfl ?_
    refine gf_RX0_20 (v := .int (fI u 30 3)) C hO 30 cW_30 rfl dX0_doAgain_21 ?_
    refine lv_iconst (v := 1) hx hb dX0_doAgain_24 (by decide) ?_
    have e5 : (((fI u 30 3) - 1)).toInt = ((fI u 30 3)).toInt - 1 := i_sub rfl rfl (by omega)
    refine lv_isub hx hb dX0_doAgain_25 ?_
    refine pf_RX0_20 C hO 30 cW_30 (Nat.le_of_ble_eq_true rfl) cW_s30_3 dX0_doAgain_26 (fun H locs hO => ?_)
    have hJ := CIs_30_23 (v := ((fI u 30 2) + 1)) (w := ((fI u 30 3) - 1)) hJ (by omega) (by omega) (by omega)
    refine lv_aload_n hx hb dX0_doAgain_29 rfl (lv_at hl 0 rfl) ?_
    refine gf_RX0_13 (v := .ref (a 31)) C hO 30 cW_30 rfl dX0_doAgain_30 ?_
    refine lv_aload_n hx hb dX0_doAgain_33 rfl (lv_at hl 0 rfl) ?_
    have g6 : 0 ≤ (fI u 30 1).toInt ∧ (fI u 30 1).toInt ≤ 40 := by have h := CI_30_1 hJ; exact h
    refine gf_RX0_23 (v := .int (fI u 30 1)) C hO 30 cW_30 rfl dX0_doAgain_34 ?_
    refine lv_aload_n hx hb dX0_doAgain_37 rfl (lv_at hl 0 rfl) ?_
    refine gf_RX0_16 (v := .int ((fI u 30 2) + 1)) C hO 30 cW_30 rfl dX0_doAgain_38 ?_
    have e7 : (((fI u 30 1) + ((fI u 30 2) + 1))).toInt = ((fI u 30 1)).toInt + (((fI u 30 2)).toInt + 1) := i_add rfl e4 (by omega)
    refine lv_iadd hx hb dX0_doAgain_41 ?_
    refine lv_bipush (v := 41) hx hb dX0_doAgain_42 (by decide) ?_
    refine lv_irem hx hb dX0_doAgain_44 (i_ne0 (X := 41) rfl (by omega)) ?_
    refine lv_topi (fun z8 ez8 => ?_)
    have d9 := i_remj (y := 41) e7 (d := 41) rfl (by omega) (by decide)
    rw [← ez8] at d9
    refine aII C hO 31 cW_31 (i_in (X := (z8).toInt) rfl (by omega) (by omega)) dX0_doAgain_45 ?_
    obtain ⟨k10, hk10⟩ : ∃ k : Nat, k = z8.toNatClampNeg := ⟨_, rfl⟩
    have lk10 : k10 < 41 := by rw [hk10]; exact i_clt (X := (z8).toInt) rfl (by omega) (by omega)
    refine tEv (y := .ref (a (47 + (0 + k10)))) (by rw [← hk10]; simp only [if_pos lk10, va_rf]; rw [show 47 + k10 = 47 + (0 + k10) by omega]) ?_
    have rk10 : (0 + k10) < 44 := by omega
    refine lv_aload_n hx hb dX0_doAgain_46 rfl (lv_at hl 1 rfl) ?_
    refine cNv (w := cW cy a) (As := [.ref (a (47 + (0 + k10))), .ref (a 29)]) (rest := []) C hO (T_X10_copyRow_in l D cy a _ (by exact hJ) (0 + k10) rk10) ⟨va_cnB (host := "WebCourt") 2 ht (gGood wd_912) rfl rfl rfl hK.2 (ht _ wd_110) hd_yX10_copyRow ⟨Nat.le_of_ble_eq_true rfl, Nat.le_of_ble_eq_true rfl⟩, ht _ wd_911, trivial⟩  rfl hl.1 (Nat.le_of_ble_eq_true rfl) dX0_doAgain_47 rfl ⟨Nat.zero_le _, Nat.zero_le _⟩ (fun u12 H locs hp13 hO => ?_)
    obtain ⟨hJ, hTu12⟩ := hp13
    have hT : KT u u12 := KT.tr (by exact hT) hTu12.1
    have hI_30_1_u12 : fI u12 30 1 = (fI u 30 1) := hTu12.2.1
    have hI_30_2_u12 : fI u12 30 2 = ((fI u 30 2) + 1) := hTu12.2.2.1
    have hI_30_3_u12 : fI u12 30 3 = ((fI u 30 3) - 1) := hTu12.2.2.2
    refine lv_iconst (v := 1) hx hb dX0_doAgain_50 (by decide) ?_
    refine hret _ _ _ _ _ _ dX0_doAgain_51 rfl ?_ hO
    exact ⟨Or.inr rfl, hJ, hT⟩
  · refine lv_iconst (v := 0) hx hb dX0_doAgain_7 (by decide) ?_
    refine hret _ _ _ _ _ _ dX0_doAgain_8 rfl ?_ hO
    exact ⟨Or.inl rfl, hJ, hT⟩
theorem dX9_firstVerdict_0 : decode cX9_firstVerdict 0 = .ok (.aload_n 0, 1) := by decide +kernel
theorem dX9_firstVerdict_1 : decode cX9_firstVerdict 1 = .ok (.getfield 34, 3) := by decide +kernel
theorem dX9_firstVerdict_4 : decode cX9_firstVerdict 4 = .ok (.iload_n 1, 1) := by decide +kernel
theorem dX9_firstVerdict_5 : decode cX9_firstVerdict 5 = .ok (.iaload, 1) := by decide +kernel
theorem dX9_firstVerdict_6 : decode cX9_firstVerdict 6 = .ok (.istore_n 3, 1) := by decide +kernel
theorem dX9_firstVerdict_7 : decode cX9_firstVerdict 7 = .ok (.aload_n 0, 1) := by decide +kernel
theorem dX9_firstVerdict_8 : decode cX9_firstVerdict 8 = .ok (.getfield 54, 3) := by decide +kernel
theorem dX9_firstVerdict_11 : decode cX9_firstVerdict 11 = .ok (.ifCond .le 14, 3) := by decide +kernel
theorem dX9_firstVerdict_14 : decode cX9_firstVerdict 14 = .ok (.iconst 1, 1) := by decide +kernel
theorem dX9_firstVerdict_15 : decode cX9_firstVerdict 15 = .ok (.aload_n 0, 1) := by decide +kernel
theorem dX9_firstVerdict_16 : decode cX9_firstVerdict 16 = .ok (.getfield 54, 3) := by decide +kernel
theorem dX9_firstVerdict_19 : decode cX9_firstVerdict 19 = .ok (.iconst 1, 1) := by decide +kernel
theorem dX9_firstVerdict_20 : decode cX9_firstVerdict 20 = .ok (.isub, 1) := by decide +kernel
theorem dX9_firstVerdict_21 : decode cX9_firstVerdict 21 = .ok (.ishl, 1) := by decide +kernel
theorem dX9_firstVerdict_22 : decode cX9_firstVerdict 22 = .ok (.goto 4, 3) := by decide +kernel
theorem dX9_firstVerdict_25 : decode cX9_firstVerdict 25 = .ok (.iconst 0, 1) := by decide +kernel
theorem dX9_firstVerdict_26 : decode cX9_firstVerdict 26 = .ok (.istore 4, 2) := by decide +kernel
theorem dX9_firstVerdict_28 : decode cX9_firstVerdict 28 = .ok (.aload_n 0, 1) := by decide +kernel
theorem dX9_firstVerdict_29 : decode cX9_firstVerdict 29 = .ok (.iload_n 3, 1) := by decide +kernel
theorem dX9_firstVerdict_30 : decode cX9_firstVerdict 30 = .ok (.iload 4, 2) := by decide +kernel
theorem dX9_firstVerdict_32 : decode cX9_firstVerdict 32 = .ok (.iconst (-1), 1) := by decide +kernel
theorem dX9_firstVerdict_33 : decode cX9_firstVerdict 33 = .ok (.ixor, 1) := by decide +kernel
theorem dX9_firstVerdict_34 : decode cX9_firstVerdict 34 = .ok (.iand, 1) := by decide +kernel
theorem dX9_firstVerdict_35 : decode cX9_firstVerdict 35 = .ok (.invokevirtual 75, 3) := by decide +kernel
theorem dX9_firstVerdict_38 : decode cX9_firstVerdict 38 = .ok (.istore 5, 2) := by decide +kernel
theorem dX9_firstVerdict_40 : decode cX9_firstVerdict 40 = .ok (.iload_n 3, 1) := by decide +kernel
theorem dX9_firstVerdict_41 : decode cX9_firstVerdict 41 = .ok (.iload 4, 2) := by decide +kernel
theorem dX9_firstVerdict_43 : decode cX9_firstVerdict 43 = .ok (.iand, 1) := by decide +kernel
theorem dX9_firstVerdict_44 : decode cX9_firstVerdict 44 = .ok (.ifCond .eq 9, 3) := by decide +kernel
theorem dX9_firstVerdict_47 : decode cX9_firstVerdict 47 = .ok (.iload 5, 2) := by decide +kernel
theorem dX9_firstVerdict_49 : decode cX9_firstVerdict 49 = .ok (.iload_n 2, 1) := by decide +kernel
theorem dX9_firstVerdict_50 : decode cX9_firstVerdict 50 = .ok (.iadd, 1) := by decide +kernel
theorem dX9_firstVerdict_51 : decode cX9_firstVerdict 51 = .ok (.istore 5, 2) := by decide +kernel
theorem dX9_firstVerdict_53 : decode cX9_firstVerdict 53 = .ok (.aload_n 0, 1) := by decide +kernel
theorem dX9_firstVerdict_54 : decode cX9_firstVerdict 54 = .ok (.getfield 40, 3) := by decide +kernel
theorem dX9_firstVerdict_57 : decode cX9_firstVerdict 57 = .ok (.iload 5, 2) := by decide +kernel
theorem dX9_firstVerdict_59 : decode cX9_firstVerdict 59 = .ok (.iload_n 3, 1) := by decide +kernel
theorem dX9_firstVerdict_60 : decode cX9_firstVerdict 60 = .ok (.invokestatic 79, 3) := by decide +kernel
theorem dX9_firstVerdict_63 : decode cX9_firstVerdict 63 = .ok (.iconst 0, 1) := by decide +kernel
theorem dX9_firstVerdict_64 : decode cX9_firstVerdict 64 = .ok (.iconst 0, 1) := by decide +kernel
theorem dX9_firstVerdict_65 : decode cX9_firstVerdict 65 = .ok (.aload_n 0, 1) := by decide +kernel
theorem dX9_firstVerdict_66 : decode cX9_firstVerdict 66 = .ok (.iload_n 1, 1) := by decide +kernel
theorem dX9_firstVerdict_67 : decode cX9_firstVerdict 67 = .ok (.iconst 1, 1) := by decide +kernel
theorem dX9_firstVerdict_68 : decode cX9_firstVerdict 68 = .ok (.aload_n 0, 1) := by decide +kernel
theorem dX9_firstVerdict_69 : decode cX9_firstVerdict 69 = .ok (.getfield 57, 3) := by decide +kernel
theorem dX9_firstVerdict_72 : decode cX9_firstVerdict 72 = .ok (.ishl, 1) := by decide +kernel
theorem dX9_firstVerdict_73 : decode cX9_firstVerdict 73 = .ok (.iconst 1, 1) := by decide +kernel
theorem dX9_firstVerdict_74 : decode cX9_firstVerdict 74 = .ok (.isub, 1) := by decide +kernel
theorem dX9_firstVerdict_75 : decode cX9_firstVerdict 75 = .ok (.invokevirtual 84, 3) := by decide +kernel
theorem dX9_firstVerdict_78 : decode cX9_firstVerdict 78 = .ok (.iconst 0, 1) := by decide +kernel
theorem dX9_firstVerdict_79 : decode cX9_firstVerdict 79 = .ok (.invokevirtual 88, 3) := by decide +kernel
theorem dX9_firstVerdict_82 : decode cX9_firstVerdict 82 = .ok (.ireturn, 1) := by decide +kernel
theorem wd_1278 : (Cond.code ⟨"WebCourt$Web", "firstVerdict", "(II)I"⟩ prog_11_method_6_code (6 : Nat) (Option.some FieldType.int)) ∈ gtb := gtb_c5 209 (by decide +kernel) rfl
theorem wd_243 : (Cond.fieldLink "WebCourt$Web" (34 : Nat) "WebCourt$Web" "casePleas" "[I") ∈ gtb := gtb_c1 134 (by decide +kernel) rfl
theorem gf_RX9_34 {p : Program} {l : Launch} {e : Env} {R : Room} {s : State} {m : MethodId} {args : Array Value} {below : List Frame} {meth : Method} {c : Code} {H : Heap} {locs : List Loc} {cells slots : Nat} {Q : State → Prop} {cc : ByteArray} {pc nL : Nat} {ls : Array Slot} {rest : List Value} {D : va_G} {cy : Nat → ClassId} {A : Nat → Prop} {ws : va_W} {b : Nat} {fs : List Value} {v : Value} (C : Cx p s m args c cc nL RX9 D cy A) (hO : Wo D A ws s.heap H locs) (q0 : Nat) (he : ws[q0]? = some (b, .inr (9, fs))) (hv : fs[7]? = some v) (hdg : decode cc pc = .ok (.getfield 34, 3)) (kk : W p l e R s m args below meth c H locs cells slots Q (F0 m (pc + 3) ls (v :: rest))) : W p l e R s m args below meth c H locs cells slots Q (F0 m pc ls (.ref b :: rest)) := gF (k := 7) C hO q0 he rfl inFX9 (by decide) wd_243 rfl hv hdg kk
theorem wd_1279 : (Cond.methodLink "WebCourt$Web" (75 : Nat) ⟨"WebCourt$Web", "strengthOf", "(I)I"⟩) ∈ gtb := gtb_c5 210 (by decide +kernel) rfl
theorem wd_247 : (Cond.fieldLink "WebCourt$Web" (40 : Nat) "WebCourt$Web" "law" "LWebCourt$Law;") ∈ gtb := gtb_c1 138 (by decide +kernel) rfl
theorem gf_RX9_40 {p : Program} {l : Launch} {e : Env} {R : Room} {s : State} {m : MethodId} {args : Array Value} {below : List Frame} {meth : Method} {c : Code} {H : Heap} {locs : List Loc} {cells slots : Nat} {Q : State → Prop} {cc : ByteArray} {pc nL : Nat} {ls : Array Slot} {rest : List Value} {D : va_G} {cy : Nat → ClassId} {A : Nat → Prop} {ws : va_W} {b : Nat} {fs : List Value} {v : Value} (C : Cx p s m args c cc nL RX9 D cy A) (hO : Wo D A ws s.heap H locs) (q0 : Nat) (he : ws[q0]? = some (b, .inr (9, fs))) (hv : fs[8]? = some v) (hdg : decode cc pc = .ok (.getfield 40, 3)) (kk : W p l e R s m args below meth c H locs cells slots Q (F0 m (pc + 3) ls (v :: rest))) : W p l e R s m args below meth c H locs cells slots Q (F0 m pc ls (.ref b :: rest)) := gF (k := 8) C hO q0 he rfl inFX9 (by decide) wd_247 rfl hv hdg kk
theorem wd_1280 : (Cond.methodLink "WebCourt$Web" (79 : Nat) ⟨"java/lang/Integer", "bitCount", "(I)I"⟩) ∈ gtb := gtb_c5 211 (by decide +kernel) rfl
theorem wd_1281 : (Cond.methodLink "WebCourt$Web" (84 : Nat) ⟨"WebCourt$Web", "kinOf", "(II)I"⟩) ∈ gtb := gtb_c5 212 (by decide +kernel) rfl
theorem wd_1282 : (Cond.methodLink "WebCourt$Web" (88 : Nat) ⟨"WebCourt$Law", "value", "(IIIIII)I"⟩) ∈ gtb := gtb_c5 213 (by decide +kernel) rfl
set_option maxHeartbeats 4000000 in
set_option maxRecDepth 100000 in
theorem T_X9_firstVerdict (l : Launch) (D : va_G) (cy : Nat → ClassId) (a : Nat → Nat) (u : St) (hJ : CI a u) (x1 : Int32) (x2 : Int32) (hx_x1 : 0 ≤ x1.toInt ∧ x1.toInt ≤ 5) : Mi l D cy (cW cy a) yX9_firstVerdict (.code yX9_firstVerdict cX9_firstVerdict 6 (some .int)) (rmo 2 52) [.ref (a 3), .int x1, .int x2] u (fun (r : Int32) (u' : St) => (CI a u') ∧ (KT u u')) := by
  refine Mi.of (own := RX9) rfl (by decide) (Nat.le_of_ble_eq_true rfl) ?_
  have hT : KT u u := KT.rf
  intro p e s m below meth c A Q ls C hret hO hl
  obtain ⟨hx, hb, hml, hown, ht, hK, hA⟩ := id C
  have hl : lv_has ls 6 [(0, .ref (a 3)), (1, .int x1), (2, .int x2)] := hl
  refine lv_aload_n hx hb dX9_firstVerdict_0 rfl (lv_at hl 0 rfl) ?_
  refine gf_RX9_34 (v := .ref (a 11)) C hO 3 cW_3 rfl dX9_firstVerdict_1 ?_
  refine lv_iload_n hx hb dX9_firstVerdict_4 rfl (lv_at hl 1 rfl) ?_
  refine aI C hO 11 cW_11 (i_in (X := (x1).toInt) rfl (by omega) (by omega)) dX9_firstVerdict_5 ?_
  refine lv_topi (fun w1 ew1 => ?_)
  refine lv_istore_n (lv' := [(3, .int w1), (0, .ref (a 3)), (1, .int x1), (2, .int x2)]) hx hb dX9_firstVerdict_6 rfl hl (by decide) rfl (fun ls hl => ?_)
  refine lv_aload_n hx hb dX9_firstVerdict_7 rfl (lv_at hl 1 rfl) ?_
  have g2 : 0 ≤ (fI u 3 11).toInt ∧ (fI u 3 11).toInt ≤ 8 := by have h := CI_3_11 hJ; exact h
  refine gf_RX9_54 (v := .int (fI u 3 11)) C hO 3 cW_3 rfl dX9_firstVerdict_8 ?_
  refine bs_le (tgt := 25) (X := ((fI u 3 11)).toInt) hx hb dX9_firstVerdict_11 (by decide) rfl (fun c3 => ?_) (fun c3 => ?_)
  · refine lv_iconst (v := 0) hx hb dX9_firstVerdict_25 (by decide) ?_
    refine lv_istore (lv' := [(4, .int 0), (3, .int w1), (0, .ref (a 3)), (1, .int x1), (2, .int x2)]) hx hb dX9_firstVerdict_26 hl (by decide) rfl (fun ls hl => ?_)
    refine lv_aload_n hx hb dX9_firstVerdict_28 rfl (lv_at hl 2 rfl) ?_
    refine lv_iload_n hx hb dX9_firstVerdict_29 rfl (lv_at hl 1 rfl) ?_
    refine lv_iload hx hb dX9_firstVerdict_30 (lv_at hl 0 rfl) ?_
    refine lv_iconst (v := (-1)) hx hb dX9_firstVerdict_32 (by decide) ?_
    refine lv_ixor hx hb dX9_firstVerdict_33 ?_
    refine tE (y := (-1)) (by decide) ?_
    refine lv_iand hx hb dX9_firstVerdict_34 ?_
    refine lv_topi (fun z4 ez4 => ?_)
    refine cVi (w := cW cy a) (As := [.int z4]) (rest := []) C hO (T_X9_strengthOf l D cy a _ (by exact hJ) (z4)) (cwV 1 ht (gV wd_1279 wd_866 wd_867 wd_112 wd_868) rfl rfl rfl hd_yX9_strengthOf ⟨Nat.le_of_ble_eq_true rfl, Nat.le_of_ble_eq_true rfl⟩) 3 rfl cW_3 rfl rfl hl.1 (Nat.le_of_ble_eq_true rfl) dX9_firstVerdict_35 rfl ⟨Nat.zero_le _, Nat.zero_le _⟩ (fun r5 u6 H locs hp7 hO => ?_)
    have hu6 := hp7
    rw [hu6] at hO
    refine lv_istore (lv' := [(5, .int r5), (4, .int 0), (3, .int w1), (0, .ref (a 3)), (1, .int x1), (2, .int x2)]) hx hb dX9_firstVerdict_38 hl (by decide) rfl (fun ls hl => ?_)
    refine lv_iload_n hx hb dX9_firstVerdict_40 rfl (lv_at hl 2 rfl) ?_
    refine lv_iload hx hb dX9_firstVerdict_41 (lv_at hl 1 rfl) ?_
    refine lv_iand hx hb dX9_firstVerdict_43 ?_
    refine tE (y := 0) (i_and0 _) ?_
    refine bt_eq (tgt := 53) (X := 0) hx hb dX9_firstVerdict_44 (by decide) rfl (by omega) ?_
    refine lv_aload_n hx hb dX9_firstVerdict_53 rfl (lv_at hl 3 rfl) ?_
    refine gf_RX9_40 (v := .ref (a 12)) C hO 3 cW_3 rfl dX9_firstVerdict_54 ?_
    refine lv_iload hx hb dX9_firstVerdict_57 (lv_at hl 0 rfl) ?_
    refine lv_iload_n hx hb dX9_firstVerdict_59 rfl (lv_at hl 2 rfl) ?_
    refine cSi (w := cW cy a) (As := [.int w1]) (rest := [.int r5, .ref (a 12)]) C hO (T_J6_bitCount_0f7a4 l D cy a _ (by exact hJ) (w1)) (va_cwS 1 ht (gSS wd_1280 wd_870 wd_128 wd_871) rfl rfl rfl hd_yJ6_bitCount_0f7a4 ⟨Nat.le_of_ble_eq_true rfl, Nat.le_of_ble_eq_true rfl⟩)  rfl hl.1 (Nat.le_of_ble_eq_true rfl) dX9_firstVerdict_60 rfl ⟨Nat.zero_le _, Nat.zero_le _⟩ (fun r8 u9 H locs hp10 hO => ?_)
    have hu9 := hp10
    rw [hu9] at hO
    refine lv_iconst (v := 0) hx hb dX9_firstVerdict_63 (by decide) ?_
    refine lv_iconst (v := 0) hx hb dX9_firstVerdict_64 (by decide) ?_
    refine lv_aload_n hx hb dX9_firstVerdict_65 rfl (lv_at hl 3 rfl) ?_
    refine lv_iload_n hx hb dX9_firstVerdict_66 rfl (lv_at hl 4 rfl) ?_
    refine lv_iconst (v := 1) hx hb dX9_firstVerdict_67 (by decide) ?_
    refine lv_aload_n hx hb dX9_firstVerdict_68 rfl (lv_at hl 3 rfl) ?_
    have g11 : 0 ≤ (fI u 3 12).toInt ∧ (fI u 3 12).toInt ≤ 6 := by have h := CI_3_12 hJ; exact h
    refine gf_RX9_57 (v := .int (fI u 3 12)) C hO 3 cW_3 rfl dX9_firstVerdict_69 ?_
    refine lv_ishl hx hb dX9_firstVerdict_72 ?_
    refine lv_topi (fun z12 ez12 => ?_)
    have g13 : 0 ≤ z12.toInt ∧ z12.toInt ≤ 2 ^ 6 := by rw [ez12]; exact i_shl1 rfl (by omega) (by omega) (by decide)
    refine lv_iconst (v := 1) hx hb dX9_firstVerdict_73 (by decide) ?_
    have e14 : ((z12 - 1)).toInt = (z12).toInt - 1 := i_sub rfl rfl (by omega)
    refine lv_isub hx hb dX9_firstVerdict_74 ?_
    refine cVi (w := cW cy a) (As := [.int x1, .int (z12 - 1)]) (rest := [.int 0, .int 0, .int r8, .int r5, .ref (a 12)]) C hO (T_X9_kinOf l D cy a _ (by exact hJ) (x1) ((z12 - 1)) (by first | omega | decide)) (cwV 2 ht (gV wd_1281 wd_862 wd_863 wd_112 wd_864) rfl rfl rfl hd_yX9_kinOf ⟨Nat.le_of_ble_eq_true rfl, Nat.le_of_ble_eq_true rfl⟩) 3 rfl cW_3 rfl rfl hl.1 (Nat.le_of_ble_eq_true rfl) dX9_firstVerdict_75 rfl ⟨Nat.zero_le _, Nat.zero_le _⟩ (fun r15 u16 H locs hp17 hO => ?_)
    have hu16 := hp17
    rw [hu16] at hO
    refine lv_iconst (v := 0) hx hb dX9_firstVerdict_78 (by decide) ?_
    refine cVi (w := cW cy a) (As := [.int r5, .int r8, .int 0, .int 0, .int r15, .int 0]) (rest := []) C hO (T_X4_value l D cy a _ (by exact hJ) (r5) (r8) (0) (0) (r15) (0)) (cwV 6 ht (gV wd_1282 wd_876 wd_877 wd_113 wd_878) rfl rfl rfl hd_yX4_value ⟨Nat.le_of_ble_eq_true rfl, Nat.le_of_ble_eq_true rfl⟩) 12 rfl cW_12 rfl rfl hl.1 (Nat.le_of_ble_eq_true rfl) dX9_firstVerdict_79 rfl ⟨Nat.zero_le _, Nat.zero_le _⟩ (fun r18 u19 H locs hp20 hO => ?_)
    obtain ⟨hJ, hTu19⟩ := hp20
    have hT : KT u u19 := KT.tr (by exact hT) hTu19
    refine hret _ _ _ _ _ _ dX9_firstVerdict_82 rfl ?_ hO
    exact ⟨hJ, hT⟩
  · refine lv_iconst (v := 1) hx hb dX9_firstVerdict_14 (by decide) ?_
    refine lv_aload_n hx hb dX9_firstVerdict_15 rfl (lv_at hl 1 rfl) ?_
    refine gf_RX9_54 (v := .int (fI u 3 11)) C hO 3 cW_3 rfl dX9_firstVerdict_16 ?_
    refine lv_iconst (v := 1) hx hb dX9_firstVerdict_19 (by decide) ?_
    have e21 : (((fI u 3 11) - 1)).toInt = ((fI u 3 11)).toInt - 1 := i_sub rfl rfl (by omega)
    refine lv_isub hx hb dX9_firstVerdict_20 ?_
    refine lv_ishl hx hb dX9_firstVerdict_21 ?_
    refine lv_topi (fun z22 ez22 => ?_)
    have g23 : 0 ≤ z22.toInt ∧ z22.toInt ≤ 2 ^ 7 := by rw [ez22]; exact i_shl1 e21 (by omega) (by omega) (by decide)
    refine lv_goto (tgt := 26) hx hb dX9_firstVerdict_22 (by decide) ?_
    refine lv_istore (lv' := [(4, .int z22), (3, .int w1), (0, .ref (a 3)), (1, .int x1), (2, .int x2)]) hx hb dX9_firstVerdict_26 hl (by decide) rfl (fun ls hl => ?_)
    refine lv_aload_n hx hb dX9_firstVerdict_28 rfl (lv_at hl 2 rfl) ?_
    refine lv_iload_n hx hb dX9_firstVerdict_29 rfl (lv_at hl 1 rfl) ?_
    refine lv_iload hx hb dX9_firstVerdict_30 (lv_at hl 0 rfl) ?_
    refine lv_iconst (v := (-1)) hx hb dX9_firstVerdict_32 (by decide) ?_
    refine lv_ixor hx hb dX9_firstVerdict_33 ?_
    refine lv_topi (fun z24 ez24 => ?_)
    refine lv_iand hx hb dX9_firstVerdict_34 ?_
    refine lv_topi (fun z25 ez25 => ?_)
    refine cVi (w := cW cy a) (As := [.int z25]) (rest := []) C hO (T_X9_strengthOf l D cy a _ (by exact hJ) (z25)) (cwV 1 ht (gV wd_1279 wd_866 wd_867 wd_112 wd_868) rfl rfl rfl hd_yX9_strengthOf ⟨Nat.le_of_ble_eq_true rfl, Nat.le_of_ble_eq_true rfl⟩) 3 rfl cW_3 rfl rfl hl.1 (Nat.le_of_ble_eq_true rfl) dX9_firstVerdict_35 rfl ⟨Nat.zero_le _, Nat.zero_le _⟩ (fun r26 u27 H locs hp28 hO => ?_)
    have hu27 := hp28
    rw [hu27] at hO
    refine lv_istore (lv' := [(5, .int r26), (4, .int z22), (3, .int w1), (0, .ref (a 3)), (1, .int x1), (2, .int x2)]) hx hb dX9_firstVerdict_38 hl (by decide) rfl (fun ls hl => ?_)
    refine lv_iload_n hx hb dX9_firstVerdict_40 rfl (lv_at hl 2 rfl) ?_
    refine lv_iload hx hb dX9_firstVerdict_41 (lv_at hl 1 rfl) ?_
    refine lv_iand hx hb dX9_firstVerdict_43 ?_
    refine lv_topi (fun z29 ez29 => ?_)
    have g30 : 0 ≤ z29.toInt ∧ z29.toInt ≤ (z22).toInt := by rw [ez29]; exact i_andr rfl (by omega)
    refine bs_eq (tgt := 53) (X := (z29).toInt) hx hb dX9_firstVerdict_44 (by decide) rfl (fun c31 => ?_) (fun c31 => ?_)
    · refine lv_aload_n hx hb dX9_firstVerdict_53 rfl (lv_at hl 3 rfl) ?_
      refine gf_RX9_40 (v := .ref (a 12)) C hO 3 cW_3 rfl dX9_firstVerdict_54 ?_
      refine lv_iload hx hb dX9_firstVerdict_57 (lv_at hl 0 rfl) ?_
      refine lv_iload_n hx hb dX9_firstVerdict_59 rfl (lv_at hl 2 rfl) ?_
      refine cSi (w := cW cy a) (As := [.int w1]) (rest := [.int r26, .ref (a 12)]) C hO (T_J6_bitCount_0f7a4 l D cy a _ (by exact hJ) (w1)) (va_cwS 1 ht (gSS wd_1280 wd_870 wd_128 wd_871) rfl rfl rfl hd_yJ6_bitCount_0f7a4 ⟨Nat.le_of_ble_eq_true rfl, Nat.le_of_ble_eq_true rfl⟩)  rfl hl.1 (Nat.le_of_ble_eq_true rfl) dX9_firstVerdict_60 rfl ⟨Nat.zero_le _, Nat.zero_le _⟩ (fun r32 u33 H locs hp34 hO => ?_)
      have hu33 := hp34
      rw [hu33] at hO
      refine lv_iconst (v := 0) hx hb dX9_firstVerdict_63 (by decide) ?_
      refine lv_iconst (v := 0) hx hb dX9_firstVerdict_64 (by decide) ?_
      refine lv_aload_n hx hb dX9_firstVerdict_65 rfl (lv_at hl 3 rfl) ?_
      refine lv_iload_n hx hb dX9_firstVerdict_66 rfl (lv_at hl 4 rfl) ?_
      refine lv_iconst (v := 1) hx hb dX9_firstVerdict_67 (by decide) ?_
      refine lv_aload_n hx hb dX9_firstVerdict_68 rfl (lv_at hl 3 rfl) ?_
      have g35 : 0 ≤ (fI u 3 12).toInt ∧ (fI u 3 12).toInt ≤ 6 := by have h := CI_3_12 hJ; exact h
      refine gf_RX9_57 (v := .int (fI u 3 12)) C hO 3 cW_3 rfl dX9_firstVerdict_69 ?_
      refine lv_ishl hx hb dX9_firstVerdict_72 ?_
      refine lv_topi (fun z36 ez36 => ?_)
      have g37 : 0 ≤ z36.toInt ∧ z36.toInt ≤ 2 ^ 6 := by rw [ez36]; exact i_shl1 rfl (by omega) (by omega) (by decide)
      refine lv_iconst (v := 1) hx hb dX9_firstVerdict_73 (by decide) ?_
      have e38 : ((z36 - 1)).toInt = (z36).toInt - 1 := i_sub rfl rfl (by omega)
      refine lv_isub hx hb dX9_firstVerdict_74 ?_
      refine cVi (w := cW cy a) (As := [.int x1, .int (z36 - 1)]) (rest := [.int 0, .int 0, .int r32, .int r26, .ref (a 12)]) C hO (T_X9_kinOf l D cy a _ (by exact hJ) (x1) ((z36 - 1)) (by first | omega | decide)) (cwV 2 ht (gV wd_1281 wd_862 wd_863 wd_112 wd_864) rfl rfl rfl hd_yX9_kinOf ⟨Nat.le_of_ble_eq_true rfl, Nat.le_of_ble_eq_true rfl⟩) 3 rfl cW_3 rfl rfl hl.1 (Nat.le_of_ble_eq_true rfl) dX9_firstVerdict_75 rfl ⟨Nat.zero_le _, Nat.zero_le _⟩ (fun r39 u40 H locs hp41 hO => ?_)
      have hu40 := hp41
      rw [hu40] at hO
      refine lv_iconst (v := 0) hx hb dX9_firstVerdict_78 (by decide) ?_
      refine cVi (w := cW cy a) (As := [.int r26, .int r32, .int 0, .int 0, .int r39, .int 0]) (rest := []) C hO (T_X4_value l D cy a _ (by exact hJ) (r26) (r32) (0) (0) (r39) (0)) (cwV 6 ht (gV wd_1282 wd_876 wd_877 wd_113 wd_878) rfl rfl rfl hd_yX4_value ⟨Nat.le_of_ble_eq_true rfl, Nat.le_of_ble_eq_true rfl⟩) 12 rfl cW_12 rfl rfl hl.1 (Nat.le_of_ble_eq_true rfl) dX9_firstVerdict_79 rfl ⟨Nat.zero_le _, Nat.zero_le _⟩ (fun r42 u43 H locs hp44 hO => ?_)
      obtain ⟨hJ, hTu43⟩ := hp44
      have hT : KT u u43 := KT.tr (by exact hT) hTu43
      refine hret _ _ _ _ _ _ dX9_firstVerdict_82 rfl ?_ hO
      exact ⟨hJ, hT⟩
    · refine lv_iload hx hb dX9_firstVerdict_47 (lv_at hl 0 rfl) ?_
      refine lv_iload_n hx hb dX9_firstVerdict_49 rfl (lv_at hl 5 rfl) ?_
      refine lv_iadd hx hb dX9_firstVerdict_50 ?_
      refine lv_istore (lv' := [(5, .int (r26 + x2)), (4, .int z22), (3, .int w1), (0, .ref (a 3)), (1, .int x1), (2, .int x2)]) hx hb dX9_firstVerdict_51 hl (by decide) rfl (fun ls hl => ?_)
      refine lv_aload_n hx hb dX9_firstVerdict_53 rfl (lv_at hl 3 rfl) ?_
      refine gf_RX9_40 (v := .ref (a 12)) C hO 3 cW_3 rfl dX9_firstVerdict_54 ?_
      refine lv_iload hx hb dX9_firstVerdict_57 (lv_at hl 0 rfl) ?_
      refine lv_iload_n hx hb dX9_firstVerdict_59 rfl (lv_at hl 2 rfl) ?_
      refine cSi (w := cW cy a) (As := [.int w1]) (rest := [.int (r26 + x2), .ref (a 12)]) C hO (T_J6_bitCount_0f7a4 l D cy a _ (by exact hJ) (w1)) (va_cwS 1 ht (gSS wd_1280 wd_870 wd_128 wd_871) rfl rfl rfl hd_yJ6_bitCount_0f7a4 ⟨Nat.le_of_ble_eq_true rfl, Nat.le_of_ble_eq_true rfl⟩)  rfl hl.1 (Nat.le_of_ble_eq_true rfl) dX9_firstVerdict_60 rfl ⟨Nat.zero_le _, Nat.zero_le _⟩ (fun r45 u46 H locs hp47 hO => ?_)
      have hu46 := hp47
      rw [hu46] at hO
      refine lv_iconst (v := 0) hx hb dX9_firstVerdict_63 (by decide) ?_
      refine lv_iconst (v := 0) hx hb dX9_firstVerdict_64 (by decide) ?_
      refine lv_aload_n hx hb dX9_firstVerdict_65 rfl (lv_at hl 3 rfl) ?_
      refine lv_iload_n hx hb dX9_firstVerdict_66 rfl (lv_at hl 4 rfl) ?_
      refine lv_iconst (v := 1) hx hb dX9_firstVerdict_67 (by decide) ?_
      refine lv_aload_n hx hb dX9_firstVerdict_68 rfl (lv_at hl 3 rfl) ?_
      have g48 : 0 ≤ (fI u 3 12).toInt ∧ (fI u 3 12).toInt ≤ 6 := by have h := CI_3_12 hJ; exact h
      refine gf_RX9_57 (v := .int (fI u 3 12)) C hO 3 cW_3 rfl dX9_firstVerdict_69 ?_
      refine lv_ishl hx hb dX9_firstVerdict_72 ?_
      refine lv_topi (fun z49 ez49 => ?_)
      have g50 : 0 ≤ z49.toInt ∧ z49.toInt ≤ 2 ^ 6 := by rw [ez49]; exact i_shl1 rfl (by omega) (by omega) (by decide)
      refine lv_iconst (v := 1) hx hb dX9_firstVerdict_73 (by decide) ?_
      have e51 : ((z49 - 1)).toInt = (z49).toInt - 1 := i_sub rfl rfl (by omega)
      refine lv_isub hx hb dX9_firstVerdict_74 ?_
      refine cVi (w := cW cy a) (As := [.int x1, .int (z49 - 1)]) (rest := [.int 0, .int 0, .int r45, .int (r26 + x2), .ref (a 12)]) C hO (T_X9_kinOf l D cy a _ (by exact hJ) (x1) ((z49 - 1)) (by first | omega | decide)) (cwV 2 ht (gV wd_1281 wd_862 wd_863 wd_112 wd_864) rfl rfl rfl hd_yX9_kinOf ⟨Nat.le_of_ble_eq_true rfl, Nat.le_of_ble_eq_true rfl⟩) 3 rfl cW_3 rfl rfl hl.1 (Nat.le_of_ble_eq_true rfl) dX9_firstVerdict_75 rfl ⟨Nat.zero_le _, Nat.zero_le _⟩ (fun r52 u53 H locs hp54 hO => ?_)
      have hu53 := hp54
      rw [hu53] at hO
      refine lv_iconst (v := 0) hx hb dX9_firstVerdict_78 (by decide) ?_
      refine cVi (w := cW cy a) (As := [.int (r26 + x2), .int r45, .int 0, .int 0, .int r52, .int 0]) (rest := []) C hO (T_X4_value l D cy a _ (by exact hJ) ((r26 + x2)) (r45) (0) (0) (r52) (0)) (cwV 6 ht (gV wd_1282 wd_876 wd_877 wd_113 wd_878) rfl rfl rfl hd_yX4_value ⟨Nat.le_of_ble_eq_true rfl, Nat.le_of_ble_eq_true rfl⟩) 12 rfl cW_12 rfl rfl hl.1 (Nat.le_of_ble_eq_true rfl) dX9_firstVerdict_79 rfl ⟨Nat.zero_le _, Nat.zero_le _⟩ (fun r55 u56 H locs hp57 hO => ?_)
      obtain ⟨hJ, hTu56⟩ := hp57
      have hT : KT u u56 := KT.tr (by exact hT) hTu56
      refine hret _ _ _ _ _ _ dX9_firstVerdict_82 rfl ?_ hO
      exact ⟨hJ, hT⟩
theorem dX3_clear_0 : decode cX3_clear 0 = .ok (.aload_n 0, 1) := by decide +kernel
theorem dX3_clear_1 : decode cX3_clear 1 = .ok (.iconst 0, 1) := by decide +kernel
theorem dX3_clear_2 : decode cX3_clear 2 = .ok (.putfield 28, 3) := by decide +kernel
theorem dX3_clear_5 : decode cX3_clear 5 = .ok (.return_, 1) := by decide +kernel
theorem wd_808 : (Cond.code ⟨"WebCourt$Hearsay", "clear", "()V"⟩ prog_5_method_2_code (1 : Nat) (Option.none : Option FieldType)) ∈ gtb := gtb_c3 219 (by decide +kernel) rfl
theorem wd_447 : (Cond.fieldLink "WebCourt$Hearsay" (28 : Nat) "WebCourt$Hearsay" "count" "I") ∈ gtb := gtb_c2 98 (by decide +kernel) rfl
theorem wd_451 : (Cond.laysFinal "WebCourt$Hearsay" "WebCourt$Hearsay" "items" "[I") ∈ gtb := gtb_c2 102 (by decide +kernel) rfl
theorem wd_453 : (Cond.laysFinal "WebCourt$Hearsay" "WebCourt$Hearsay" "verdicts" "[I") ∈ gtb := gtb_c2 104 (by decide +kernel) rfl
theorem wd_455 : (Cond.laysFinal "WebCourt$Hearsay" "WebCourt$Hearsay" "are" "[Z") ∈ gtb := gtb_c2 106 (by decide +kernel) rfl
theorem wd_457 : (Cond.laysFinal "WebCourt$Hearsay" "WebCourt$Hearsay" "told" "[I") ∈ gtb := gtb_c2 108 (by decide +kernel) rfl
theorem wd_459 : (Cond.laysFinal "WebCourt$Hearsay" "WebCourt$Hearsay" "untold" "[I") ∈ gtb := gtb_c2 110 (by decide +kernel) rfl
theorem wd_461 : (Cond.lays "WebCourt$Hearsay" "WebCourt$Hearsay" "count" "I") ∈ gtb := gtb_c2 112 (by decide +kernel) rfl
theorem wd_463 : (Cond.lays "WebCourt$Hearsay" "WebCourt$Hearsay" "time" "I") ∈ gtb := gtb_c2 114 (by decide +kernel) rfl
theorem inFX3 : ∀ w ∈ u_ws RX3 TX3 7, w ∈ gtb := by
  show ∀ w ∈ [u_lay RX3 TX3 0, u_lay RX3 TX3 1, u_lay RX3 TX3 2, u_lay RX3 TX3 3, u_lay RX3 TX3 4, u_lay RX3 TX3 5, u_lay RX3 TX3 6], w ∈ gtb
  exact List.forall_mem_cons.mpr ⟨wd_451, List.forall_mem_cons.mpr ⟨wd_453, List.forall_mem_cons.mpr ⟨wd_455, List.forall_mem_cons.mpr ⟨wd_457, List.forall_mem_cons.mpr ⟨wd_459, List.forall_mem_cons.mpr ⟨wd_461, List.forall_mem_cons.mpr ⟨wd_463, fun _ h => absurd h List.not_mem_nil⟩⟩⟩⟩⟩⟩⟩
theorem pf_RX3_28 {p : Program} {l : Launch} {e : Env} {R : Room} {s : State} {m : MethodId} {args : Array Value} {below : List Frame} {meth : Method} {c : Code} {H : Heap} {locs : List Loc} {cells slots : Nat} {Q : State → Prop} {cc : ByteArray} {pc nL : Nat} {ls : Array Slot} {rest : List Value} {D : va_G} {cy : Nat → ClassId} {A : Nat → Prop} {ws : va_W} {b : Nat} {fs : List Value} {v : Int32} {ws' : va_W} (C : Cx p s m args c cc nL RX3 D cy A) (hO : Wo D A ws s.heap H locs) (q0 : Nat) (he : ws[q0]? = some (b, .inr (3, fs))) (hlen : 5 < fs.length) (hw : ws.set q0 (b, .inr (3, fs.set 5 (.int v))) = ws') (hdg : decode cc pc = .ok (.putfield 28, 3)) (kk : ∀ (H : Heap) (locs : List Loc), Wo D A ws' s.heap H locs → W p l e R s m args below meth c H locs cells slots Q (F0 m (pc + 3) ls rest)) : W p l e R s m args below meth c H locs cells slots Q (F0 m pc ls (.int v :: .ref b :: rest)) := pF (k := 5) (ty := .int) C hO q0 he rfl inFX3 (by decide) wd_447 rfl tyX3 tyX3_ok nmX3 rfl (by decide +kernel) rfl rfl hlen hw hdg kk
set_option maxHeartbeats 4000000 in
set_option maxRecDepth 100000 in
theorem T_X3_clear (l : Launch) (D : va_G) (cy : Nat → ClassId) (a : Nat → Nat) (u : St) (hJ : CI a u)   : Mv l D cy (cW cy a) yX3_clear (.code yX3_clear cX3_clear 1 none) (rmo 0 0) [.ref (a 39)] u (fun (u' : St) => (CI a u') ∧ (KT u u')) := by
  refine Mv.of (own := RX3) rfl (by decide) (Nat.le_of_ble_eq_true rfl) ?_
  have hT : KT u u := KT.rf
  intro p e s m below meth c A Q ls C hret hO hl
  obtain ⟨hx, hb, hml, hown, ht, hK, hA⟩ := id C
  have hl : lv_has ls 1 [(0, .ref (a 39))] := hl
  refine lv_aload_n hx hb dX3_clear_0 rfl (lv_at hl 0 rfl) ?_
  refine lv_iconst (v := 0) hx hb dX3_clear_1 (by decide) ?_
  refine pf_RX3_28 C hO 39 cW_39 (Nat.le_of_ble_eq_true rfl) cW_s39_5 dX3_clear_2 (fun H locs hO => ?_)
  have hJ := CIs_39_5 (v := 0) hJ (by first | decide | omega)
  refine hret _ _ _ _ _ dX3_clear_5 ?_ hO
  exact ⟨hJ, hT⟩
theorem dX3_tell_0 : decode cX3_tell 0 = .ok (.aload_n 0, 1) := by decide +kernel
theorem dX3_tell_1 : decode cX3_tell 1 = .ok (.getfield 28, 3) := by decide +kernel
theorem dX3_tell_4 : decode cX3_tell 4 = .ok (.bipush 30, 2) := by decide +kernel
theorem dX3_tell_6 : decode cX3_tell 6 = .ok (.if_icmp .lt 5, 3) := by decide +kernel
theorem dX3_tell_9 : decode cX3_tell 9 = .ok (.iconst (-1), 1) := by decide +kernel
theorem dX3_tell_10 : decode cX3_tell 10 = .ok (.ireturn, 1) := by decide +kernel
theorem dX3_tell_11 : decode cX3_tell 11 = .ok (.aload_n 0, 1) := by decide +kernel
theorem dX3_tell_12 : decode cX3_tell 12 = .ok (.getfield 11, 3) := by decide +kernel
theorem dX3_tell_15 : decode cX3_tell 15 = .ok (.aload_n 0, 1) := by decide +kernel
theorem dX3_tell_16 : decode cX3_tell 16 = .ok (.getfield 28, 3) := by decide +kernel
theorem dX3_tell_19 : decode cX3_tell 19 = .ok (.iload_n 1, 1) := by decide +kernel
theorem dX3_tell_20 : decode cX3_tell 20 = .ok (.iastore, 1) := by decide +kernel
theorem dX3_tell_21 : decode cX3_tell 21 = .ok (.aload_n 0, 1) := by decide +kernel
theorem dX3_tell_22 : decode cX3_tell 22 = .ok (.getfield 15, 3) := by decide +kernel
theorem dX3_tell_25 : decode cX3_tell 25 = .ok (.aload_n 0, 1) := by decide +kernel
theorem dX3_tell_26 : decode cX3_tell 26 = .ok (.getfield 28, 3) := by decide +kernel
theorem dX3_tell_29 : decode cX3_tell 29 = .ok (.iload_n 2, 1) := by decide +kernel
theorem dX3_tell_30 : decode cX3_tell 30 = .ok (.iastore, 1) := by decide +kernel
theorem dX3_tell_31 : decode cX3_tell 31 = .ok (.aload_n 0, 1) := by decide +kernel
theorem dX3_tell_32 : decode cX3_tell 32 = .ok (.getfield 18, 3) := by decide +kernel
theorem dX3_tell_35 : decode cX3_tell 35 = .ok (.aload_n 0, 1) := by decide +kernel
theorem dX3_tell_36 : decode cX3_tell 36 = .ok (.getfield 28, 3) := by decide +kernel
theorem dX3_tell_39 : decode cX3_tell 39 = .ok (.iload_n 3, 1) := by decide +kernel
theorem dX3_tell_40 : decode cX3_tell 40 = .ok (.bastore, 1) := by decide +kernel
theorem dX3_tell_41 : decode cX3_tell 41 = .ok (.aload_n 0, 1) := by decide +kernel
theorem dX3_tell_42 : decode cX3_tell 42 = .ok (.getfield 22, 3) := by decide +kernel
theorem dX3_tell_45 : decode cX3_tell 45 = .ok (.aload_n 0, 1) := by decide +kernel
theorem dX3_tell_46 : decode cX3_tell 46 = .ok (.getfield 28, 3) := by decide +kernel
theorem dX3_tell_49 : decode cX3_tell 49 = .ok (.aload_n 0, 1) := by decide +kernel
theorem dX3_tell_50 : decode cX3_tell 50 = .ok (.getfield 32, 3) := by decide +kernel
theorem dX3_tell_53 : decode cX3_tell 53 = .ok (.iastore, 1) := by decide +kernel
theorem dX3_tell_54 : decode cX3_tell 54 = .ok (.aload_n 0, 1) := by decide +kernel
theorem dX3_tell_55 : decode cX3_tell 55 = .ok (.getfield 25, 3) := by decide +kernel
theorem dX3_tell_58 : decode cX3_tell 58 = .ok (.aload_n 0, 1) := by decide +kernel
theorem dX3_tell_59 : decode cX3_tell 59 = .ok (.getfield 28, 3) := by decide +kernel
theorem dX3_tell_62 : decode cX3_tell 62 = .ok (.iconst (-1), 1) := by decide +kernel
theorem dX3_tell_63 : decode cX3_tell 63 = .ok (.iastore, 1) := by decide +kernel
theorem dX3_tell_64 : decode cX3_tell 64 = .ok (.aload_n 0, 1) := by decide +kernel
theorem dX3_tell_65 : decode cX3_tell 65 = .ok (.dup, 1) := by decide +kernel
theorem dX3_tell_66 : decode cX3_tell 66 = .ok (.getfield 28, 3) := by decide +kernel
theorem dX3_tell_69 : decode cX3_tell 69 = .ok (.iconst 1, 1) := by decide +kernel
theorem dX3_tell_70 : decode cX3_tell 70 = .ok (.iadd, 1) := by decide +kernel
theorem dX3_tell_71 : decode cX3_tell 71 = .ok (.putfield 28, 3) := by decide +kernel
theorem dX3_tell_74 : decode cX3_tell 74 = .ok (.aload_n 0, 1) := by decide +kernel
theorem dX3_tell_75 : decode cX3_tell 75 = .ok (.getfield 28, 3) := by decide +kernel
theorem dX3_tell_78 : decode cX3_tell 78 = .ok (.iconst 1, 1) := by decide +kernel
theorem dX3_tell_79 : decode cX3_tell 79 = .ok (.isub, 1) := by decide +kernel
theorem dX3_tell_80 : decode cX3_tell 80 = .ok (.ireturn, 1) := by decide +kernel
theorem wd_1245 : (Cond.code ⟨"WebCourt$Hearsay", "tell", "(IIZ)I"⟩ prog_5_method_3_code (4 : Nat) (Option.some FieldType.int)) ∈ gtb := gtb_c5 176 (by decide +kernel) rfl
theorem gf_RX3_28 {p : Program} {l : Launch} {e : Env} {R : Room} {s : State} {m : MethodId} {args : Array Value} {below : List Frame} {meth : Method} {c : Code} {H : Heap} {locs : List Loc} {cells slots : Nat} {Q : State → Prop} {cc : ByteArray} {pc nL : Nat} {ls : Array Slot} {rest : List Value} {D : va_G} {cy : Nat → ClassId} {A : Nat → Prop} {ws : va_W} {b : Nat} {fs : List Value} {v : Value} (C : Cx p s m args c cc nL RX3 D cy A) (hO : Wo D A ws s.heap H locs) (q0 : Nat) (he : ws[q0]? = some (b, .inr (3, fs))) (hv : fs[5]? = some v) (hdg : decode cc pc = .ok (.getfield 28, 3)) (kk : W p l e R s m args below meth c H locs cells slots Q (F0 m (pc + 3) ls (v :: rest))) : W p l e R s m args below meth c H locs cells slots Q (F0 m pc ls (.ref b :: rest)) := gF (k := 5) C hO q0 he rfl inFX3 (by decide) wd_447 rfl hv hdg kk
theorem wd_442 : (Cond.fieldLink "WebCourt$Hearsay" (11 : Nat) "WebCourt$Hearsay" "items" "[I") ∈ gtb := gtb_c2 93 (by decide +kernel) rfl
theorem gf_RX3_11 {p : Program} {l : Launch} {e : Env} {R : Room} {s : State} {m : MethodId} {args : Array Value} {below : List Frame} {meth : Method} {c : Code} {H : Heap} {locs : List Loc} {cells slots : Nat} {Q : State → Prop} {cc : ByteArray} {pc nL : Nat} {ls : Array Slot} {rest : List Value} {D : va_G} {cy : Nat → ClassId} {A : Nat → Prop} {ws : va_W} {b : Nat} {fs : List Value} {v : Value} (C : Cx p s m args c cc nL RX3 D cy A) (hO : Wo D A ws s.heap H locs) (q0 : Nat) (he : ws[q0]? = some (b, .inr (3, fs))) (hv : fs[0]? = some v) (hdg : decode cc pc = .ok (.getfield 11, 3)) (kk : W p l e R s m args below meth c H locs cells slots Q (F0 m (pc + 3) ls (v :: rest))) : W p l e R s m args below meth c H locs cells slots Q (F0 m pc ls (.ref b :: rest)) := gF (k := 0) C hO q0 he rfl inFX3 (by decide) wd_442 rfl hv hdg kk
theorem wd_443 : (Cond.fieldLink "WebCourt$Hearsay" (15 : Nat) "WebCourt$Hearsay" "verdicts" "[I") ∈ gtb := gtb_c2 94 (by decide +kernel) rfl
theorem gf_RX3_15 {p : Program} {l : Launch} {e : Env} {R : Room} {s : State} {m : MethodId} {args : Array Value} {below : List Frame} {meth : Method} {c : Code} {H : Heap} {locs : List Loc} {cells slots : Nat} {Q : State → Prop} {cc : ByteArray} {pc nL : Nat} {ls : Array Slot} {rest : List Value} {D : va_G} {cy : Nat → ClassId} {A : Nat → Prop} {ws : va_W} {b : Nat} {fs : List Value} {v : Value} (C : Cx p s m args c cc nL RX3 D cy A) (hO : Wo D A ws s.heap H locs) (q0 : Nat) (he : ws[q0]? = some (b, .inr (3, fs))) (hv : fs[1]? = some v) (hdg : decode cc pc = .ok (.getfield 15, 3)) (kk : W p l e R s m args below meth c H locs cells slots Q (F0 m (pc + 3) ls (v :: rest))) : W p l e R s m args below meth c H locs cells slots Q (F0 m pc ls (.ref b :: rest)) := gF (k := 1) C hO q0 he rfl inFX3 (by decide) wd_443 rfl hv hdg kk
theorem wd_444 : (Cond.fieldLink "WebCourt$Hearsay" (18 : Nat) "WebCourt$Hearsay" "are" "[Z") ∈ gtb := gtb_c2 95 (by decide +kernel) rfl
theorem gf_RX3_18 {p : Program} {l : Launch} {e : Env} {R : Room} {s : State} {m : MethodId} {args : Array Value} {below : List Frame} {meth : Method} {c : Code} {H : Heap} {locs : List Loc} {cells slots : Nat} {Q : State → Prop} {cc : ByteArray} {pc nL : Nat} {ls : Array Slot} {rest : List Value} {D : va_G} {cy : Nat → ClassId} {A : Nat → Prop} {ws : va_W} {b : Nat} {fs : List Value} {v : Value} (C : Cx p s m args c cc nL RX3 D cy A) (hO : Wo D A ws s.heap H locs) (q0 : Nat) (he : ws[q0]? = some (b, .inr (3, fs))) (hv : fs[2]? = some v) (hdg : decode cc pc = .ok (.getfield 18, 3)) (kk : W p l e R s m args below meth c H locs cells slots Q (F0 m (pc + 3) ls (v :: rest))) : W p l e R s m args below meth c H locs cells slots Q (F0 m pc ls (.ref b :: rest)) := gF (k := 2) C hO q0 he rfl inFX3 (by decide) wd_444 rfl hv hdg kk
theorem wd_445 : (Cond.fieldLink "WebCourt$Hearsay" (22 : Nat) "WebCourt$Hearsay" "told" "[I") ∈ gtb := gtb_c2 96 (by decide +kernel) rfl
theorem gf_RX3_22 {p : Program} {l : Launch} {e : Env} {R : Room} {s : State} {m : MethodId} {args : Array Value} {below : List Frame} {meth : Method} {c : Code} {H : Heap} {locs : List Loc} {cells slots : Nat} {Q : State → Prop} {cc : ByteArray} {pc nL : Nat} {ls : Array Slot} {rest : List Value} {D : va_G} {cy : Nat → ClassId} {A : Nat → Prop} {ws : va_W} {b : Nat} {fs : List Value} {v : Value} (C : Cx p s m args c cc nL RX3 D cy A) (hO : Wo D A ws s.heap H locs) (q0 : Nat) (he : ws[q0]? = some (b, .inr (3, fs))) (hv : fs[3]? = some v) (hdg : decode cc pc = .ok (.getfield 22, 3)) (kk : W p l e R s m args below meth c H locs cells slots Q (F0 m (pc + 3) ls (v :: rest))) : W p l e R s m args below meth c H locs cells slots Q (F0 m pc ls (.ref b :: rest)) := gF (k := 3) C hO q0 he rfl inFX3 (by decide) wd_445 rfl hv hdg kk
theorem wd_449 : (Cond.fieldLink "WebCourt$Hearsay" (32 : Nat) "WebCourt$Hearsay" "time" "I") ∈ gtb := gtb_c2 100 (by decide +kernel) rfl
theorem gf_RX3_32 {p : Program} {l : Launch} {e : Env} {R : Room} {s : State} {m : MethodId} {args : Array Value} {below : List Frame} {meth : Method} {c : Code} {H : Heap} {locs : List Loc} {cells slots : Nat} {Q : State → Prop} {cc : ByteArray} {pc nL : Nat} {ls : Array Slot} {rest : List Value} {D : va_G} {cy : Nat → ClassId} {A : Nat → Prop} {ws : va_W} {b : Nat} {fs : List Value} {v : Value} (C : Cx p s m args c cc nL RX3 D cy A) (hO : Wo D A ws s.heap H locs) (q0 : Nat) (he : ws[q0]? = some (b, .inr (3, fs))) (hv : fs[6]? = some v) (hdg : decode cc pc = .ok (.getfield 32, 3)) (kk : W p l e R s m args below meth c H locs cells slots Q (F0 m (pc + 3) ls (v :: rest))) : W p l e R s m args below meth c H locs cells slots Q (F0 m pc ls (.ref b :: rest)) := gF (k := 6) C hO q0 he rfl inFX3 (by decide) wd_449 rfl hv hdg kk
theorem wd_446 : (Cond.fieldLink "WebCourt$Hearsay" (25 : Nat) "WebCourt$Hearsay" "untold" "[I") ∈ gtb := gtb_c2 97 (by decide +kernel) rfl
theorem gf_RX3_25 {p : Program} {l : Launch} {e : Env} {R : Room} {s : State} {m : MethodId} {args : Array Value} {below : List Frame} {meth : Method} {c : Code} {H : Heap} {locs : List Loc} {cells slots : Nat} {Q : State → Prop} {cc : ByteArray} {pc nL : Nat} {ls : Array Slot} {rest : List Value} {D : va_G} {cy : Nat → ClassId} {A : Nat → Prop} {ws : va_W} {b : Nat} {fs : List Value} {v : Value} (C : Cx p s m args c cc nL RX3 D cy A) (hO : Wo D A ws s.heap H locs) (q0 : Nat) (he : ws[q0]? = some (b, .inr (3, fs))) (hv : fs[4]? = some v) (hdg : decode cc pc = .ok (.getfield 25, 3)) (kk : W p l e R s m args below meth c H locs cells slots Q (F0 m (pc + 3) ls (v :: rest))) : W p l e R s m args below meth c H locs cells slots Q (F0 m pc ls (.ref b :: rest)) := gF (k := 4) C hO q0 he rfl inFX3 (by decide) wd_446 rfl hv hdg kk
set_option maxHeartbeats 4000000 in
set_option maxRecDepth 100000 in
theorem T_X3_tell (l : Launch) (D : va_G) (cy : Nat → ClassId) (a : Nat → Nat) (u : St) (hJ : CI a u) (x1 : Int32) (x2 : Int32) (x3 : Int32)  : Mi l D cy (cW cy a) yX3_tell (.code yX3_tell cX3_tell 4 (some .int)) (rmo 0 0) [.ref (a 39), .int x1, .int x2, .int x3] u (fun (r : Int32) (u' : St) => (CI a u') ∧ (KT u u')) := by
  refine Mi.of (own := RX3) rfl (by decide) (Nat.le_of_ble_eq_true rfl) ?_
  have hT : KT u u := KT.rf
  intro p e s m below meth c A Q ls C hret hO hl
  obtain ⟨hx, hb, hml, hown, ht, hK, hA⟩ := id C
  have hl : lv_has ls 4 [(0, .ref (a 39)), (1, .int x1), (2, .int x2), (3, .int x3)] := hl
  refine lv_aload_n hx hb dX3_tell_0 rfl (lv_at hl 0 rfl) ?_
  have g1 : 0 ≤ (fI u 39 5).toInt ∧ (fI u 39 5).toInt ≤ 30 := by have h := CI_39_5 hJ; exact h
  refine gf_RX3_28 (v := .int (fI u 39 5)) C hO 39 cW_39 rfl dX3_tell_1 ?_
  refine lv_bipush (v := 30) hx hb dX3_tell_4 (by decide) ?_
  refine cs_lt (tgt := 11) (X := ((fI u 39 5)).toInt) (Y := 30) hx hb dX3_tell_6 (by decide) rfl rfl (fun c2 => ?_) (fun c2 => ?_)
  · refine lv_aload_n hx hb dX3_tell_11 rfl (lv_at hl 0 rfl) ?_
    refine gf_RX3_11 (v := .ref (a 40)) C hO 39 cW_39 rfl dX3_tell_12 ?_
    refine lv_aload_n hx hb dX3_tell_15 rfl (lv_at hl 0 rfl) ?_
    refine gf_RX3_28 (v := .int (fI u 39 5)) C hO 39 cW_39 rfl dX3_tell_16 ?_
    refine lv_iload_n hx hb dX3_tell_19 rfl (lv_at hl 1 rfl) ?_
    refine aIs C hO 40 cW_40 (i_in (X := ((fI u 39 5)).toInt) rfl (by omega) (by omega)) cW_s40 dX3_tell_20 (fun H locs hO => ?_)
    have hJ := CIsA hO hJ
    refine lv_aload_n hx hb dX3_tell_21 rfl (lv_at hl 0 rfl) ?_
    refine gf_RX3_15 (v := .ref (a 41)) C hO 39 cW_39 rfl dX3_tell_22 ?_
    refine lv_aload_n hx hb dX3_tell_25 rfl (lv_at hl 0 rfl) ?_
    refine gf_RX3_28 (v := .int (fI u 39 5)) C hO 39 cW_39 rfl dX3_tell_26 ?_
    refine lv_iload_n hx hb dX3_tell_29 rfl (lv_at hl 2 rfl) ?_
    refine aIs C hO 41 cW_41 (i_in (X := ((fI u 39 5)).toInt) rfl (by omega) (by omega)) cW_s41 dX3_tell_30 (fun H locs hO => ?_)
    have hJ := CIsA hO hJ
    refine lv_aload_n hx hb dX3_tell_31 rfl (lv_at hl 0 rfl) ?_
    refine gf_RX3_18 (v := .ref (a 42)) C hO 39 cW_39 rfl dX3_tell_32 ?_
    refine lv_aload_n hx hb dX3_tell_35 rfl (lv_at hl 0 rfl) ?_
    refine gf_RX3_28 (v := .int (fI u 39 5)) C hO 39 cW_39 rfl dX3_tell_36 ?_
    refine lv_iload_n hx hb dX3_tell_39 rfl (lv_at hl 3 rfl) ?_
    refine aZs C hO 42 cW_42 (i_in (X := ((fI u 39 5)).toInt) rfl (by omega) (by omega)) cW_s42 dX3_tell_40 (fun H locs hO => ?_)
    have hJ := CIsA hO hJ
    refine lv_aload_n hx hb dX3_tell_41 rfl (lv_at hl 0 rfl) ?_
    refine gf_RX3_22 (v := .ref (a 43)) C hO 39 cW_39 rfl dX3_tell_42 ?_
    refine lv_aload_n hx hb dX3_tell_45 rfl (lv_at hl 0 rfl) ?_
    refine gf_RX3_28 (v := .int (fI u 39 5)) C hO 39 cW_39 rfl dX3_tell_46 ?_
    refine lv_aload_n hx hb dX3_tell_49 rfl (lv_at hl 0 rfl) ?_
    have g3 : 0 ≤ (fI u 39 6).toInt ∧ (fI u 39 6).toInt ≤ 100000 := by have h := CI_39_6 hJ; exact h
    refine gf_RX3_32 (v := .int (fI u 39 6)) C hO 39 cW_39 rfl dX3_tell_50 ?_
    refine aIs C hO 43 cW_43 (i_in (X := ((fI u 39 5)).toInt) rfl (by omega) (by omega)) cW_s43 dX3_tell_53 (fun H locs hO => ?_)
    have hJ := CIsA hO hJ
    refine lv_aload_n hx hb dX3_tell_54 rfl (lv_at hl 0 rfl) ?_
    refine gf_RX3_25 (v := .ref (a 44)) C hO 39 cW_39 rfl dX3_tell_55 ?_
    refine lv_aload_n hx hb dX3_tell_58 rfl (lv_at hl 0 rfl) ?_
    refine gf_RX3_28 (v := .int (fI u 39 5)) C hO 39 cW_39 rfl dX3_tell_59 ?_
    refine lv_iconst (v := (-1)) hx hb dX3_tell_62 (by decide) ?_
    refine aIs C hO 44 cW_44 (i_in (X := ((fI u 39 5)).toInt) rfl (by omega) (by omega)) cW_s44 dX3_tell_63 (fun H locs hO => ?_)
    have hJ := CIsA hO hJ
    refine lv_aload_n hx hb dX3_tell_64 rfl (lv_at hl 0 rfl) ?_
    refine lv_dup hx hb dX3_tell_65 rfl ?_
    refine gf_RX3_28 (v := .int (fI u 39 5)) C hO 39 cW_39 rfl dX3_tell_66 ?_
    refine lv_iconst (v := 1) hx hb dX3_tell_69 (by decide) ?_
    have e4 : (((fI u 39 5) + 1)).toInt = ((fI u 39 5)).toInt + 1 := i_add rfl rfl (by omega)
    refine lv_iadd hx hb dX3_tell_70 ?_
    refine pf_RX3_28 C hO 39 cW_39 (Nat.le_of_ble_eq_true rfl) cW_s39_5 dX3_tell_71 (fun H locs hO => ?_)
    have hJ := CIs_39_5 (v := ((fI u 39 5) + 1)) hJ (by first | decide | omega)
    refine lv_aload_n hx hb dX3_tell_74 rfl (lv_at hl 0 rfl) ?_
    refine gf_RX3_28 (v := .int ((fI u 39 5) + 1)) C hO 39 cW_39 rfl dX3_tell_75 ?_
    refine lv_iconst (v := 1) hx hb dX3_tell_78 (by decide) ?_
    have e5 : ((((fI u 39 5) + 1) - 1)).toInt = (((fI u 39 5)).toInt + 1) - 1 := i_sub e4 rfl (by omega)
    refine lv_isub hx hb dX3_tell_79 ?_
    refine hret _ _ _ _ _ _ dX3_tell_80 rfl ?_ hO
    exact ⟨hJ, hT⟩
  · refine lv_iconst (v := (-1)) hx hb dX3_tell_9 (by decide) ?_
    refine hret _ _ _ _ _ _ dX3_tell_10 rfl ?_ hO
    exact ⟨hJ, hT⟩
theorem dX3_takeBack_0 : decode cX3_takeBack 0 = .ok (.iload_n 1, 1) := by decide +kernel
theorem dX3_takeBack_1 : decode cX3_takeBack 1 = .ok (.ifCond .lt 21, 3) := by decide +kernel
theorem dX3_takeBack_4 : decode cX3_takeBack 4 = .ok (.iload_n 1, 1) := by decide +kernel
theorem dX3_takeBack_5 : decode cX3_takeBack 5 = .ok (.aload_n 0, 1) := by decide +kernel
theorem dX3_takeBack_6 : decode cX3_takeBack 6 = .ok (.getfield 28, 3) := by decide +kernel
theorem dX3_takeBack_9 : decode cX3_takeBack 9 = .ok (.if_icmp .ge 13, 3) := by decide +kernel
theorem dX3_takeBack_12 : decode cX3_takeBack 12 = .ok (.aload_n 0, 1) := by decide +kernel
theorem dX3_takeBack_13 : decode cX3_takeBack 13 = .ok (.getfield 25, 3) := by decide +kernel
theorem dX3_takeBack_16 : decode cX3_takeBack 16 = .ok (.iload_n 1, 1) := by decide +kernel
theorem dX3_takeBack_17 : decode cX3_takeBack 17 = .ok (.iaload, 1) := by decide +kernel
theorem dX3_takeBack_18 : decode cX3_takeBack 18 = .ok (.iconst (-1), 1) := by decide +kernel
theorem dX3_takeBack_19 : decode cX3_takeBack 19 = .ok (.if_icmp .eq 5, 3) := by decide +kernel
theorem dX3_takeBack_22 : decode cX3_takeBack 22 = .ok (.iconst 0, 1) := by decide +kernel
theorem dX3_takeBack_23 : decode cX3_takeBack 23 = .ok (.ireturn, 1) := by decide +kernel
theorem dX3_takeBack_24 : decode cX3_takeBack 24 = .ok (.aload_n 0, 1) := by decide +kernel
theorem dX3_takeBack_25 : decode cX3_takeBack 25 = .ok (.getfield 25, 3) := by decide +kernel
theorem dX3_takeBack_28 : decode cX3_takeBack 28 = .ok (.iload_n 1, 1) := by decide +kernel
theorem dX3_takeBack_29 : decode cX3_takeBack 29 = .ok (.aload_n 0, 1) := by decide +kernel
theorem dX3_takeBack_30 : decode cX3_takeBack 30 = .ok (.getfield 32, 3) := by decide +kernel
theorem dX3_takeBack_33 : decode cX3_takeBack 33 = .ok (.iastore, 1) := by decide +kernel
theorem dX3_takeBack_34 : decode cX3_takeBack 34 = .ok (.iconst 1, 1) := by decide +kernel
theorem dX3_takeBack_35 : decode cX3_takeBack 35 = .ok (.ireturn, 1) := by decide +kernel
theorem wd_1253 : (Cond.code ⟨"WebCourt$Hearsay", "takeBack", "(I)Z"⟩ prog_5_method_4_code (2 : Nat) (Option.some FieldType.boolean)) ∈ gtb := gtb_c5 184 (by decide +kernel) rfl
set_option maxHeartbeats 4000000 in
set_option maxRecDepth 100000 in
theorem T_X3_takeBack (l : Launch) (D : va_G) (cy : Nat → ClassId) (a : Nat → Nat) (u : St) (hJ : CI a u) (x1 : Int32)  : Mi l D cy (cW cy a) yX3_takeBack (.code yX3_takeBack cX3_takeBack 2 (some .boolean)) (rmo 0 0) [.ref (a 39), .int x1] u (fun (r : Int32) (u' : St) => (r = 0 ∨ r = 1) ∧ (CI a u') ∧ (KT u u')) := by
  refine Mi.of (own := RX3) rfl (by decide) (Nat.le_of_ble_eq_true rfl) ?_
  have hT : KT u u := KT.rf
  intro p e s m below meth c A Q ls C hret hO hl
  obtain ⟨hx, hb, hml, hown, ht, hK, hA⟩ := id C
  have hl : lv_has ls 2 [(0, .ref (a 39)), (1, .int x1)] := hl
  refine lv_iload_n hx hb dX3_takeBack_0 rfl (lv_at hl 1 rfl) ?_
  refine bs_lt (tgt := 22) (X := (x1).toInt) hx hb dX3_takeBack_1 (by decide) rfl (fun c1 => ?_) (fun c1 => ?_)
  · refine lv_iconst (v := 0) hx hb dX3_takeBack_22 (by decide) ?_
    refine hret _ _ _ _ _ _ dX3_takeBack_23 rfl ?_ hO
    exact ⟨Or.inl rfl, hJ, hT⟩
  · refine lv_iload_n hx hb dX3_takeBack_4 rfl (lv_at hl 1 rfl) ?_
    refine lv_aload_n hx hb dX3_takeBack_5 rfl (lv_at hl 0 rfl) ?_
    have g2 : 0 ≤ (fI u 39 5).toInt ∧ (fI u 39 5).toInt ≤ 30 := by have h := CI_39_5 hJ; exact h
    refine gf_RX3_28 (v := .int (fI u 39 5)) C hO 39 cW_39 rfl dX3_takeBack_6 ?_
    refine cs_ge (tgt := 22) (X := (x1).toInt) (Y := ((fI u 39 5)).toInt) hx hb dX3_takeBack_9 (by decide) rfl rfl (fun c3 => ?_) (fun c3 => ?_)
    · refine lv_iconst (v := 0) hx hb dX3_takeBack_22 (by decide) ?_
      refine hret _ _ _ _ _ _ dX3_takeBack_23 rfl ?_ hO
      exact ⟨Or.inl rfl, hJ, hT⟩
    · refine lv_aload_n hx hb dX3_takeBack_12 rfl (lv_at hl 0 rfl) ?_
      refine gf_RX3_25 (v := .ref (a 44)) C hO 39 cW_39 rfl dX3_takeBack_13 ?_
      refine lv_iload_n hx hb dX3_takeBack_16 rfl (lv_at hl 1 rfl) ?_
      refine aI C hO 44 cW_44 (i_in (X := (x1).toInt) rfl (by omega) (by omega)) dX3_takeBack_17 ?_
      refine lv_topi (fun w4 ew4 => ?_)
      refine lv_iconst (v := (-1)) hx hb dX3_takeBack_18 (by decide) ?_
      refine cs_eq (tgt := 24) (X := (w4).toInt) (Y := (-1)) hx hb dX3_takeBack_19 (by decide) rfl rfl (fun c5 => ?_) (fun c5 => ?_)
      · refine lv_aload_n hx hb dX3_takeBack_24 rfl (lv_at hl 0 rfl) ?_
        refine gf_RX3_25 (v := .ref (a 44)) C hO 39 cW_39 rfl dX3_takeBack_25 ?_
        refine lv_iload_n hx hb dX3_takeBack_28 rfl (lv_at hl 1 rfl) ?_
        refine lv_aload_n hx hb dX3_takeBack_29 rfl (lv_at hl 0 rfl) ?_
        have g6 : 0 ≤ (fI u 39 6).toInt ∧ (fI u 39 6).toInt ≤ 100000 := by have h := CI_39_6 hJ; exact h
        refine gf_RX3_32 (v := .int (fI u 39 6)) C hO 39 cW_39 rfl dX3_takeBack_30 ?_
        refine aIs C hO 44 cW_44 (i_in (X := (x1).toInt) rfl (by omega) (by omega)) cW_s44 dX3_takeBack_33 (fun H locs hO => ?_)
        have hJ := CIsA hO hJ
        refine lv_iconst (v := 1) hx hb dX3_takeBack_34 (by decide) ?_
        refine hret _ _ _ _ _ _ dX3_takeBack_35 rfl ?_ hO
        exact ⟨Or.inr rfl, hJ, hT⟩
      · refine lv_iconst (v := 0) hx hb dX3_takeBack_22 (by decide) ?_
        refine hret _ _ _ _ _ _ dX3_takeBack_23 rfl ?_ hO
        exact ⟨Or.inl rfl, hJ, hT⟩
theorem dX3_counts_0 : decode cX3_counts 0 = .ok (.aload_n 0, 1) := by decide +kernel
theorem dX3_counts_1 : decode cX3_counts 1 = .ok (.getfield 22, 3) := by decide +kernel
theorem dX3_counts_4 : decode cX3_counts 4 = .ok (.iload_n 1, 1) := by decide +kernel
theorem dX3_counts_5 : decode cX3_counts 5 = .ok (.iaload, 1) := by decide +kernel
theorem dX3_counts_6 : decode cX3_counts 6 = .ok (.iload_n 2, 1) := by decide +kernel
theorem dX3_counts_7 : decode cX3_counts 7 = .ok (.if_icmp .gt 27, 3) := by decide +kernel
theorem dX3_counts_10 : decode cX3_counts 10 = .ok (.aload_n 0, 1) := by decide +kernel
theorem dX3_counts_11 : decode cX3_counts 11 = .ok (.getfield 25, 3) := by decide +kernel
theorem dX3_counts_14 : decode cX3_counts 14 = .ok (.iload_n 1, 1) := by decide +kernel
theorem dX3_counts_15 : decode cX3_counts 15 = .ok (.iaload, 1) := by decide +kernel
theorem dX3_counts_16 : decode cX3_counts 16 = .ok (.iconst (-1), 1) := by decide +kernel
theorem dX3_counts_17 : decode cX3_counts 17 = .ok (.if_icmp .eq 13, 3) := by decide +kernel
theorem dX3_counts_20 : decode cX3_counts 20 = .ok (.aload_n 0, 1) := by decide +kernel
theorem dX3_counts_21 : decode cX3_counts 21 = .ok (.getfield 25, 3) := by decide +kernel
theorem dX3_counts_24 : decode cX3_counts 24 = .ok (.iload_n 1, 1) := by decide +kernel
theorem dX3_counts_25 : decode cX3_counts 25 = .ok (.iaload, 1) := by decide +kernel
theorem dX3_counts_26 : decode cX3_counts 26 = .ok (.iload_n 2, 1) := by decide +kernel
theorem dX3_counts_27 : decode cX3_counts 27 = .ok (.if_icmp .le 7, 3) := by decide +kernel
theorem dX3_counts_30 : decode cX3_counts 30 = .ok (.iconst 1, 1) := by decide +kernel
theorem dX3_counts_31 : decode cX3_counts 31 = .ok (.goto 4, 3) := by decide +kernel
theorem dX3_counts_34 : decode cX3_counts 34 = .ok (.iconst 0, 1) := by decide +kernel
theorem dX3_counts_35 : decode cX3_counts 35 = .ok (.ireturn, 1) := by decide +kernel
theorem wd_1286 : (Cond.code ⟨"WebCourt$Hearsay", "counts", "(II)Z"⟩ prog_5_method_6_code (3 : Nat) (Option.some FieldType.boolean)) ∈ gtb := gtb_c5 217 (by decide +kernel) rfl
set_option maxHeartbeats 4000000 in
set_option maxRecDepth 100000 in
theorem T_X3_counts (l : Launch) (D : va_G) (cy : Nat → ClassId) (a : Nat → Nat) (u : St) (hJ : CI a u) (x1 : Int32) (x2 : Int32) (hx_x1 : 0 ≤ x1.toInt ∧ x1.toInt ≤ 29) : Mi l D cy (cW cy a) yX3_counts (.code yX3_counts cX3_counts 3 (some .boolean)) (rmo 0 0) [.ref (a 39), .int x1, .int x2] u (fun (r : Int32) (u' : St) => (r = 0 ∨ r = 1) ∧ (u' = u)) := by
  refine Mi.of (own := RX3) rfl (by decide) (Nat.le_of_ble_eq_true rfl) ?_
  have hT : KT u u := KT.rf
  intro p e s m below meth c A Q ls C hret hO hl
  obtain ⟨hx, hb, hml, hown, ht, hK, hA⟩ := id C
  have hl : lv_has ls 3 [(0, .ref (a 39)), (1, .int x1), (2, .int x2)] := hl
  refine lv_aload_n hx hb dX3_counts_0 rfl (lv_at hl 0 rfl) ?_
  refine gf_RX3_22 (v := .ref (a 43)) C hO 39 cW_39 rfl dX3_counts_1 ?_
  refine lv_iload_n hx hb dX3_counts_4 rfl (lv_at hl 1 rfl) ?_
  refine aI C hO 43 cW_43 (i_in (X := (x1).toInt) rfl (by omega) (by omega)) dX3_counts_5 ?_
  refine lv_topi (fun w1 ew1 => ?_)
  refine lv_iload_n hx hb dX3_counts_6 rfl (lv_at hl 2 rfl) ?_
  refine cs_gt (tgt := 34) (X := (w1).toInt) (Y := (x2).toInt) hx hb dX3_counts_7 (by decide) rfl rfl (fun c2 => ?_) (fun c2 => ?_)
  · refine lv_iconst (v := 0) hx hb dX3_counts_34 (by decide) ?_
    refine hret _ _ _ _ _ _ dX3_counts_35 rfl ?_ hO
    exact ⟨Or.inl rfl, rfl⟩
  · refine lv_aload_n hx hb dX3_counts_10 rfl (lv_at hl 0 rfl) ?_
    refine gf_RX3_25 (v := .ref (a 44)) C hO 39 cW_39 rfl dX3_counts_11 ?_
    refine lv_iload_n hx hb dX3_counts_14 rfl (lv_at hl 1 rfl) ?_
    refine aI C hO 44 cW_44 (i_in (X := (x1).toInt) rfl (by omega) (by omega)) dX3_counts_15 ?_
    refine lv_topi (fun w3 ew3 => ?_)
    refine lv_iconst (v := (-1)) hx hb dX3_counts_16 (by decide) ?_
    refine cs_eq (tgt := 30) (X := (w3).toInt) (Y := (-1)) hx hb dX3_counts_17 (by decide) rfl rfl (fun c4 => ?_) (fun c4 => ?_)
    · refine lv_iconst (v := 1) hx hb dX3_counts_30 (by decide) ?_
      refine lv_goto (tgt := 35) hx hb dX3_counts_31 (by decide) ?_
      refine hret _ _ _ _ _ _ dX3_counts_35 rfl ?_ hO
      exact ⟨Or.inr rfl, rfl⟩
    · refine lv_aload_n hx hb dX3_counts_20 rfl (lv_at hl 0 rfl) ?_
      refine gf_RX3_25 (v := .ref (a 44)) C hO 39 cW_39 rfl dX3_counts_21 ?_
      refine lv_iload_n hx hb dX3_counts_24 rfl (lv_at hl 1 rfl) ?_
      refine aI C hO 44 cW_44 (i_in (X := (x1).toInt) rfl (by omega) (by omega)) dX3_counts_25 ?_
      refine lv_topi (fun w5 ew5 => ?_)
      refine lv_iload_n hx hb dX3_counts_26 rfl (lv_at hl 2 rfl) ?_
      refine cs_le (tgt := 34) (X := (w5).toInt) (Y := (x2).toInt) hx hb dX3_counts_27 (by decide) rfl rfl (fun c6 => ?_) (fun c6 => ?_)
      · refine lv_iconst (v := 0) hx hb dX3_counts_34 (by decide) ?_
        refine hret _ _ _ _ _ _ dX3_counts_35 rfl ?_ hO
        exact ⟨Or.inl rfl, rfl⟩
      · refine lv_iconst (v := 1) hx hb dX3_counts_30 (by decide) ?_
        refine lv_goto (tgt := 35) hx hb dX3_counts_31 (by decide) ?_
        refine hret _ _ _ _ _ _ dX3_counts_35 rfl ?_ hO
        exact ⟨Or.inr rfl, rfl⟩
theorem dX3_allIsSo_0 : decode cX3_allIsSo 0 = .ok (.iconst 0, 1) := by decide +kernel
theorem dX3_allIsSo_1 : decode cX3_allIsSo 1 = .ok (.istore 4, 2) := by decide +kernel
theorem dX3_allIsSo_3 : decode cX3_allIsSo 3 = .ok (.iload 4, 2) := by decide +kernel
theorem dX3_allIsSo_5 : decode cX3_allIsSo 5 = .ok (.aload_n 1, 1) := by decide +kernel
theorem dX3_allIsSo_6 : decode cX3_allIsSo 6 = .ok (.getfield 45, 3) := by decide +kernel
theorem dX3_allIsSo_9 : decode cX3_allIsSo 9 = .ok (.if_icmp .ge 87, 3) := by decide +kernel
theorem dX3_allIsSo_12 : decode cX3_allIsSo 12 = .ok (.aload_n 1, 1) := by decide +kernel
theorem dX3_allIsSo_13 : decode cX3_allIsSo 13 = .ok (.iload 4, 2) := by decide +kernel
theorem dX3_allIsSo_15 : decode cX3_allIsSo 15 = .ok (.iload_n 2, 1) := by decide +kernel
theorem dX3_allIsSo_16 : decode cX3_allIsSo 16 = .ok (.invokevirtual 48, 3) := by decide +kernel
theorem dX3_allIsSo_19 : decode cX3_allIsSo 19 = .ok (.istore 5, 2) := by decide +kernel
theorem dX3_allIsSo_21 : decode cX3_allIsSo 21 = .ok (.iconst 0, 1) := by decide +kernel
theorem dX3_allIsSo_22 : decode cX3_allIsSo 22 = .ok (.istore 6, 2) := by decide +kernel
theorem dX3_allIsSo_24 : decode cX3_allIsSo 24 = .ok (.iload 6, 2) := by decide +kernel
theorem dX3_allIsSo_26 : decode cX3_allIsSo 26 = .ok (.aload_n 0, 1) := by decide +kernel
theorem dX3_allIsSo_27 : decode cX3_allIsSo 27 = .ok (.getfield 28, 3) := by decide +kernel
theorem dX3_allIsSo_30 : decode cX3_allIsSo 30 = .ok (.if_icmp .ge 60, 3) := by decide +kernel
theorem dX3_allIsSo_33 : decode cX3_allIsSo 33 = .ok (.aload_n 0, 1) := by decide +kernel
theorem dX3_allIsSo_34 : decode cX3_allIsSo 34 = .ok (.getfield 11, 3) := by decide +kernel
theorem dX3_allIsSo_37 : decode cX3_allIsSo 37 = .ok (.iload 6, 2) := by decide +kernel
theorem dX3_allIsSo_39 : decode cX3_allIsSo 39 = .ok (.iaload, 1) := by decide +kernel
theorem dX3_allIsSo_40 : decode cX3_allIsSo 40 = .ok (.iload 4, 2) := by decide +kernel
theorem dX3_allIsSo_42 : decode cX3_allIsSo 42 = .ok (.if_icmp .ne 42, 3) := by decide +kernel
theorem dX3_allIsSo_45 : decode cX3_allIsSo 45 = .ok (.aload_n 0, 1) := by decide +kernel
theorem dX3_allIsSo_46 : decode cX3_allIsSo 46 = .ok (.iload 6, 2) := by decide +kernel
theorem dX3_allIsSo_48 : decode cX3_allIsSo 48 = .ok (.iload_n 3, 1) := by decide +kernel
theorem dX3_allIsSo_49 : decode cX3_allIsSo 49 = .ok (.invokevirtual 52, 3) := by decide +kernel
theorem dX3_allIsSo_52 : decode cX3_allIsSo 52 = .ok (.ifCond .eq 32, 3) := by decide +kernel
theorem dX3_allIsSo_55 : decode cX3_allIsSo 55 = .ok (.iload 5, 2) := by decide +kernel
theorem dX3_allIsSo_57 : decode cX3_allIsSo 57 = .ok (.aload_n 0, 1) := by decide +kernel
theorem dX3_allIsSo_58 : decode cX3_allIsSo 58 = .ok (.getfield 15, 3) := by decide +kernel
theorem dX3_allIsSo_61 : decode cX3_allIsSo 61 = .ok (.iload 6, 2) := by decide +kernel
theorem dX3_allIsSo_63 : decode cX3_allIsSo 63 = .ok (.iaload, 1) := by decide +kernel
theorem dX3_allIsSo_64 : decode cX3_allIsSo 64 = .ok (.if_icmp .lt 7, 3) := by decide +kernel
theorem dX3_allIsSo_67 : decode cX3_allIsSo 67 = .ok (.iconst 1, 1) := by decide +kernel
theorem dX3_allIsSo_68 : decode cX3_allIsSo 68 = .ok (.goto 4, 3) := by decide +kernel
theorem dX3_allIsSo_71 : decode cX3_allIsSo 71 = .ok (.iconst 0, 1) := by decide +kernel
theorem dX3_allIsSo_72 : decode cX3_allIsSo 72 = .ok (.aload_n 0, 1) := by decide +kernel
theorem dX3_allIsSo_73 : decode cX3_allIsSo 73 = .ok (.getfield 18, 3) := by decide +kernel
theorem dX3_allIsSo_76 : decode cX3_allIsSo 76 = .ok (.iload 6, 2) := by decide +kernel
theorem dX3_allIsSo_78 : decode cX3_allIsSo 78 = .ok (.baload, 1) := by decide +kernel
theorem dX3_allIsSo_79 : decode cX3_allIsSo 79 = .ok (.if_icmp .eq 5, 3) := by decide +kernel
theorem dX3_allIsSo_82 : decode cX3_allIsSo 82 = .ok (.iconst 0, 1) := by decide +kernel
theorem dX3_allIsSo_83 : decode cX3_allIsSo 83 = .ok (.ireturn, 1) := by decide +kernel
theorem dX3_allIsSo_84 : decode cX3_allIsSo 84 = .ok (.iinc 6 1, 3) := by decide +kernel
theorem dX3_allIsSo_87 : decode cX3_allIsSo 87 = .ok (.goto (-63), 3) := by decide +kernel
theorem dX3_allIsSo_90 : decode cX3_allIsSo 90 = .ok (.iinc 4 1, 3) := by decide +kernel
theorem dX3_allIsSo_93 : decode cX3_allIsSo 93 = .ok (.goto (-90), 3) := by decide +kernel
theorem dX3_allIsSo_96 : decode cX3_allIsSo 96 = .ok (.iconst 1, 1) := by decide +kernel
theorem dX3_allIsSo_97 : decode cX3_allIsSo 97 = .ok (.ireturn, 1) := by decide +kernel
theorem wd_1274 : (Cond.code ⟨"WebCourt$Hearsay", "allIsSo", "(LWebCourt$Web;II)Z"⟩ prog_5_method_8_code (7 : Nat) (Option.some FieldType.boolean)) ∈ gtb := gtb_c5 205 (by decide +kernel) rfl
theorem wd_272 : (Cond.fieldLink "WebCourt$Hearsay" (45 : Nat) "WebCourt$Web" "cases" "I") ∈ gtb := gtb_c1 163 (by decide +kernel) rfl
theorem gf_RX3_45 {p : Program} {l : Launch} {e : Env} {R : Room} {s : State} {m : MethodId} {args : Array Value} {below : List Frame} {meth : Method} {c : Code} {H : Heap} {locs : List Loc} {cells slots : Nat} {Q : State → Prop} {cc : ByteArray} {pc nL : Nat} {ls : Array Slot} {rest : List Value} {D : va_G} {cy : Nat → ClassId} {A : Nat → Prop} {ws : va_W} {b : Nat} {fs : List Value} {v : Value} (C : Cx p s m args c cc nL RX3 D cy A) (hO : Wo D A ws s.heap H locs) (q0 : Nat) (he : ws[q0]? = some (b, .inr (9, fs))) (hv : fs[12]? = some v) (hdg : decode cc pc = .ok (.getfield 45, 3)) (kk : W p l e R s m args below meth c H locs cells slots Q (F0 m (pc + 3) ls (v :: rest))) : W p l e R s m args below meth c H locs cells slots Q (F0 m pc ls (.ref b :: rest)) := gF (k := 12) C hO q0 he rfl inFX9 (by decide) wd_272 rfl hv hdg kk
theorem wd_1275 : (Cond.methodLink "WebCourt$Hearsay" (48 : Nat) ⟨"WebCourt$Web", "firstVerdict", "(II)I"⟩) ∈ gtb := gtb_c5 206 (by decide +kernel) rfl
theorem wd_1276 : (Cond.instanceMethod ⟨"WebCourt$Web", "firstVerdict", "(II)I"⟩) ∈ gtb := gtb_c5 207 (by decide +kernel) rfl
theorem wd_1277 : (Cond.selects "WebCourt$Web" ⟨"WebCourt$Web", "firstVerdict", "(II)I"⟩ ⟨"WebCourt$Web", "firstVerdict", "(II)I"⟩) ∈ gtb := gtb_c5 208 (by decide +kernel) rfl
theorem hd_yX9_firstVerdict : yX9_firstVerdict.cls = RX9 ∧ yX9_firstVerdict.cls ≠ "java/lang/invoke/MethodHandle" ∧ yX9_firstVerdict.cls ≠ "java/lang/invoke/VarHandle" ∧ (parseMethodDescriptor yX9_firstVerdict.desc).map (fun d => d.parameters.length) = some 2 := by decide +kernel
theorem wd_1283 : (Cond.methodLink "WebCourt$Hearsay" (52 : Nat) ⟨"WebCourt$Hearsay", "counts", "(II)Z"⟩) ∈ gtb := gtb_c5 214 (by decide +kernel) rfl
theorem wd_1285 : (Cond.instanceMethod ⟨"WebCourt$Hearsay", "counts", "(II)Z"⟩) ∈ gtb := gtb_c5 216 (by decide +kernel) rfl
theorem wd_41 : (Cond.selects "WebCourt$Hearsay" ⟨"WebCourt$Hearsay", "counts", "(II)Z"⟩ ⟨"WebCourt$Hearsay", "counts", "(II)Z"⟩) ∈ gtb := gtb_p 41 (by decide +kernel) rfl
theorem wd_120 : (Cond.initialized "WebCourt$Hearsay") ∈ gtb := gtb_c1 11 (by decide +kernel) rfl
theorem hd_yX3_counts : yX3_counts.cls = RX3 ∧ yX3_counts.cls ≠ "java/lang/invoke/MethodHandle" ∧ yX3_counts.cls ≠ "java/lang/invoke/VarHandle" ∧ (parseMethodDescriptor yX3_counts.desc).map (fun d => d.parameters.length) = some 2 := by decide +kernel
set_option maxHeartbeats 4000000 in
set_option maxRecDepth 100000 in
theorem T_X3_allIsSo (l : Launch) (D : va_G) (cy : Nat → ClassId) (a : Nat → Nat) (u : St) (hJ : CI a u) (x2 : Int32) (x3 : Int32)  : Mi l D cy (cW cy a) yX3_allIsSo (.code yX3_allIsSo cX3_allIsSo 7 (some .boolean)) (rmo 3 77) [.ref (a 39), .ref (a 3), .int x2, .int x3] u (fun (r : Int32) (u' : St) => (r = 0 ∨ r = 1) ∧ (CI a u') ∧ (KT u u')) := by
  refine Mi.of (own := RX3) rfl (by decide) (Nat.le_of_ble_eq_true rfl) ?_
  have hT : KT u u := KT.rf
  intro p e s m below meth c A Q ls C hret hO hl
  obtain ⟨hx, hb, hml, hown, ht, hK, hA⟩ := id C
  have hl : lv_has ls 7 [(0, .ref (a 39)), (1, .ref (a 3)), (2, .int x2), (3, .int x3)] := hl
  refine lv_iconst (v := 0) hx hb dX3_allIsSo_0 (by decide) ?_
  refine lv_istore (lv' := [(4, .int 0), (0, .ref (a 39)), (1, .ref (a 3)), (2, .int x2), (3, .int x3)]) hx hb dX3_allIsSo_1 hl (by decide) rfl (fun ls hl => ?_)
  have LP_3_k2 : ∀ (n : Nat) (u1 : St) (H : Heap) (locs : List Loc) (ls : Array Slot) (i_k2 : Int32), Wo D A (cW cy a u1) s.heap H locs → lv_has ls 7 [(4, .int i_k2), (0, .ref (a 39)), (1, .ref (a 3)), (2, .int x2), (3, .int x3)] → CI a u1 → KT u u1 → 0 ≤ i_k2.toInt ∧ i_k2.toInt ≤ 6 → 6 - i_k2.toInt < (n : Int) → W p l e (rmo 3 77) s m [.ref (a 39), .ref (a 3), .int x2, .int x3].toArray below meth c H locs 0 0 Q (F0 m 3 ls []) := by
    intro n
    induction n with
    | zero =>
      intro u1 H locs ls i_k2 hO hl hJ hT iv0_k2 hm_k2
      exact absurd hm_k2 (by omega)
    | succ n ih_k2 =>
      intro u1 H locs ls i_k2 hO hl hJ hT iv0_k2 hm_k2
      refine lv_iload hx hb dX3_allIsSo_3 (lv_at hl 0 rfl) ?_
      refine lv_aload_n hx hb dX3_allIsSo_5 rfl (lv_at hl 2 rfl) ?_
      have g3 : 0 ≤ (fI u1 3 12).toInt ∧ (fI u1 3 12).toInt ≤ 6 := by have h := CI_3_12 hJ; exact h
      refine gf_RX3_45 (v := .int (fI u1 3 12)) C hO 3 cW_3 rfl dX3_allIsSo_6 ?_
      refine cs_ge (tgt := 96) (X := (i_k2).toInt) (Y := ((fI u1 3 12)).toInt) hx hb dX3_allIsSo_9 (by decide) rfl rfl (fun c4 => ?_) (fun c4 => ?_)
      · refine lv_iconst (v := 1) hx hb dX3_allIsSo_96 (by decide) ?_
        refine hret _ _ _ _ _ _ dX3_allIsSo_97 rfl ?_ hO
        exact ⟨Or.inr rfl, hJ, hT⟩
      · refine lv_aload_n hx hb dX3_allIsSo_12 rfl (lv_at hl 2 rfl) ?_
        refine lv_iload hx hb dX3_allIsSo_13 (lv_at hl 0 rfl) ?_
        refine lv_iload_n hx hb dX3_allIsSo_15 rfl (lv_at hl 3 rfl) ?_
        refine cVi (w := cW cy a) (As := [.int i_k2, .int x2]) (rest := []) C hO (T_X9_firstVerdict l D cy a _ (by exact hJ) (i_k2) (x2) (by first | omega | decide)) (cwV 2 ht (gV wd_1275 wd_1276 wd_1277 wd_112 wd_1278) rfl rfl rfl hd_yX9_firstVerdict ⟨Nat.le_of_ble_eq_true rfl, Nat.le_of_ble_eq_true rfl⟩) 3 rfl cW_3 rfl rfl hl.1 (Nat.le_of_ble_eq_true rfl) dX3_allIsSo_16 rfl ⟨Nat.zero_le _, Nat.zero_le _⟩ (fun r5 u6 H locs hp7 hO => ?_)
        obtain ⟨hJ, hTu6⟩ := hp7
        have hT : KT u u6 := KT.tr (by exact hT) hTu6
        refine lv_istore (lv' := [(5, .int r5), (4, .int i_k2), (0, .ref (a 39)), (1, .ref (a 3)), (2, .int x2), (3, .int x3)]) hx hb dX3_allIsSo_19 hl (by decide) rfl (fun ls hl => ?_)
        refine lv_iconst (v := 0) hx hb dX3_allIsSo_21 (by decide) ?_
        refine lv_istore (lv' := [(6, .int 0), (5, .int r5), (4, .int i_k2), (0, .ref (a 39)), (1, .ref (a 3)), (2, .int x2), (3, .int x3)]) hx hb dX3_allIsSo_22 hl (by decide) rfl (fun ls hl => ?_)
        have LP_24_k8 : ∀ (n : Nat) (H : Heap) (locs : List Loc) (ls : Array Slot) (i_k8 : Int32), Wo D A (cW cy a u6) s.heap H locs → lv_has ls 7 [(6, .int i_k8), (5, .int r5), (4, .int i_k2), (0, .ref (a 39)), (1, .ref (a 3)), (2, .int x2), (3, .int x3)] → 0 ≤ i_k8.toInt ∧ i_k8.toInt ≤ 30 → 30 - i_k8.toInt < (n : Int) → W p l e (rmo 3 77) s m [.ref (a 39), .ref (a 3), .int x2, .int x3].toArray below meth c H locs 0 0 Q (F0 m 24 ls []) := by
          intro n
          induction n with
          | zero =>
            intro H locs ls i_k8 hO hl iv0_k8 hm_k8
            exact absurd hm_k8 (by omega)
          | succ n ih_k8 =>
            intro H locs ls i_k8 hO hl iv0_k8 hm_k8
            refine lv_iload hx hb dX3_allIsSo_24 (lv_at hl 0 rfl) ?_
            refine lv_aload_n hx hb dX3_allIsSo_26 rfl (lv_at hl 3 rfl) ?_
            have g9 : 0 ≤ (fI u6 39 5).toInt ∧ (fI u6 39 5).toInt ≤ 30 := by have h := CI_39_5 hJ; exact h
            refine gf_RX3_28 (v := .int (fI u6 39 5)) C hO 39 cW_39 rfl dX3_allIsSo_27 ?_
            refine cs_ge (tgt := 90) (X := (i_k8).toInt) (Y := ((fI u6 39 5)).toInt) hx hb dX3_allIsSo_30 (by decide) rfl rfl (fun c10 => ?_) (fun c10 => ?_)
            · have e11 : ((i_k2 + 1)).toInt = (i_k2).toInt + 1 := i_add rfl rfl (by omega)
              refine lv_iinc (v := (i_k2 + 1)) (lv' := [(4, .int (i_k2 + 1)), (6, .int i_k8), (5, .int r5), (0, .ref (a 39)), (1, .ref (a 3)), (2, .int x2), (3, .int x3)]) hx hb dX3_allIsSo_90 hl (k := 2) rfl rfl (by decide) rfl (fun ls hl => ?_)
              refine lv_goto (tgt := 3) hx hb dX3_allIsSo_93 (by decide) ?_
              exact ih_k2 _ _ _ _ ((i_k2 + 1)) hO (lv_sub hl [0, 3, 4, 5, 6] rfl) (by exact hJ) (by exact hT) (by first | decide | omega) (by first | decide | omega)
            · refine lv_aload_n hx hb dX3_allIsSo_33 rfl (lv_at hl 3 rfl) ?_
              refine gf_RX3_11 (v := .ref (a 40)) C hO 39 cW_39 rfl dX3_allIsSo_34 ?_
              refine lv_iload hx hb dX3_allIsSo_37 (lv_at hl 0 rfl) ?_
              refine aI C hO 40 cW_40 (i_in (X := (i_k8).toInt) rfl (by omega) (by omega)) dX3_allIsSo_39 ?_
              refine lv_topi (fun w12 ew12 => ?_)
              refine lv_iload hx hb dX3_allIsSo_40 (lv_at hl 2 rfl) ?_
              refine cs_ne (tgt := 84) (X := (w12).toInt) (Y := (i_k2).toInt) hx hb dX3_allIsSo_42 (by decide) rfl rfl (fun c13 => ?_) (fun c13 => ?_)
              · have e14 : ((i_k8 + 1)).toInt = (i_k8).toInt + 1 := i_add rfl rfl (by omega)
                refine lv_iinc (v := (i_k8 + 1)) (lv' := [(6, .int (i_k8 + 1)), (5, .int r5), (4, .int i_k2), (0, .ref (a 39)), (1, .ref (a 3)), (2, .int x2), (3, .int x3)]) hx hb dX3_allIsSo_84 hl (k := 0) rfl rfl (by decide) rfl (fun ls hl => ?_)
                refine lv_goto (tgt := 24) hx hb dX3_allIsSo_87 (by decide) ?_
                exact ih_k8 _ _ _ ((i_k8 + 1)) hO (lv_sub hl [0, 1, 2, 3, 4, 5, 6] rfl) (by first | decide | omega) (by first | decide | omega)
              · refine lv_aload_n hx hb dX3_allIsSo_45 rfl (lv_at hl 3 rfl) ?_
                refine lv_iload hx hb dX3_allIsSo_46 (lv_at hl 0 rfl) ?_
                refine lv_iload_n hx hb dX3_allIsSo_48 rfl (lv_at hl 6 rfl) ?_
                refine cVi (w := cW cy a) (As := [.int i_k8, .int x3]) (rest := []) C hO (T_X3_counts l D cy a _ (by exact hJ) (i_k8) (x3) (by first | omega | decide)) (cwV 2 ht (gV wd_1283 wd_1285 wd_41 wd_120 wd_1286) rfl rfl rfl hd_yX3_counts ⟨Nat.le_of_ble_eq_true rfl, Nat.le_of_ble_eq_true rfl⟩) 39 rfl cW_39 rfl rfl hl.1 (Nat.le_of_ble_eq_true rfl) dX3_allIsSo_49 rfl ⟨Nat.zero_le _, Nat.zero_le _⟩ (fun r15 u16 H locs hp17 hO => ?_)
                obtain ⟨hr15, hu16⟩ := hp17
                have gr15 : 0 ≤ r15.toInt ∧ r15.toInt ≤ 1 := by rcases hr15 with h | h <;> rw [h] <;> decide
                rw [hu16] at hO
                refine bs_eq (tgt := 84) (X := (r15).toInt) hx hb dX3_allIsSo_52 (by decide) rfl (fun c18 => ?_) (fun c18 => ?_)
                · have e19 : ((i_k8 + 1)).toInt = (i_k8).toInt + 1 := i_add rfl rfl (by omega)
                  refine lv_iinc (v := (i_k8 + 1)) (lv' := [(6, .int (i_k8 + 1)), (5, .int r5), (4, .int i_k2), (0, .ref (a 39)), (1, .ref (a 3)), (2, .int x2), (3, .int x3)]) hx hb dX3_allIsSo_84 hl (k := 0) rfl rfl (by decide) rfl (fun ls hl => ?_)
                  refine lv_goto (tgt := 24) hx hb dX3_allIsSo_87 (by decide) ?_
                  exact ih_k8 _ _ _ ((i_k8 + 1)) hO (lv_sub hl [0, 1, 2, 3, 4, 5, 6] rfl) (by first | decide | omega) (by first | decide | omega)
                · refine lv_iload hx hb dX3_allIsSo_55 (lv_at hl 1 rfl) ?_
                  refine lv_aload_n hx hb dX3_allIsSo_57 rfl (lv_at hl 3 rfl) ?_
                  refine gf_RX3_15 (v := .ref (a 41)) C hO 39 cW_39 rfl dX3_allIsSo_58 ?_
                  refine lv_iload hx hb dX3_allIsSo_61 (lv_at hl 0 rfl) ?_
                  refine aI C hO 41 cW_41 (i_in (X := (i_k8).toInt) rfl (by omega) (by omega)) dX3_allIsSo_63 ?_
                  refine lv_topi (fun w20 ew20 => ?_)
                  refine cs_lt (tgt := 71) (X := (r5).toInt) (Y := (w20).toInt) hx hb dX3_allIsSo_64 (by decide) rfl rfl (fun c21 => ?_) (fun c21 => ?_)
                  · refine lv_iconst (v := 0) hx hb dX3_allIsSo_71 (by decide) ?_
                    refine lv_aload_n hx hb dX3_allIsSo_72 rfl (lv_at hl 3 rfl) ?_
                    refine gf_RX3_18 (v := .ref (a 42)) C hO 39 cW_39 rfl dX3_allIsSo_73 ?_
                    refine lv_iload hx hb dX3_allIsSo_76 (lv_at hl 0 rfl) ?_
                    refine aZ C hO 42 cW_42 (i_in (X := (i_k8).toInt) rfl (by omega) (by omega)) dX3_allIsSo_78 ?_
                    refine lv_topi (fun w22 ew22 => ?_)
                    refine cs_eq (tgt := 84) (X := 0) (Y := (w22).toInt) hx hb dX3_allIsSo_79 (by decide) rfl rfl (fun c23 => ?_) (fun c23 => ?_)
                    · have e24 : ((i_k8 + 1)).toInt = (i_k8).toInt + 1 := i_add rfl rfl (by omega)
                      refine lv_iinc (v := (i_k8 + 1)) (lv' := [(6, .int (i_k8 + 1)), (5, .int r5), (4, .int i_k2), (0, .ref (a 39)), (1, .ref (a 3)), (2, .int x2), (3, .int x3)]) hx hb dX3_allIsSo_84 hl (k := 0) rfl rfl (by decide) rfl (fun ls hl => ?_)
                      refine lv_goto (tgt := 24) hx hb dX3_allIsSo_87 (by decide) ?_
                      exact ih_k8 _ _ _ ((i_k8 + 1)) hO (lv_sub hl [0, 1, 2, 3, 4, 5, 6] rfl) (by first | decide | omega) (by first | decide | omega)
                    · refine lv_iconst (v := 0) hx hb dX3_allIsSo_82 (by decide) ?_
                      refine hret _ _ _ _ _ _ dX3_allIsSo_83 rfl ?_ hO
                      exact ⟨Or.inl rfl, hJ, hT⟩
                  · refine lv_iconst (v := 1) hx hb dX3_allIsSo_67 (by decide) ?_
                    refine lv_goto (tgt := 72) hx hb dX3_allIsSo_68 (by decide) ?_
                    refine lv_aload_n hx hb dX3_allIsSo_72 rfl (lv_at hl 3 rfl) ?_
                    refine gf_RX3_18 (v := .ref (a 42)) C hO 39 cW_39 rfl dX3_allIsSo_73 ?_
                    refine lv_iload hx hb dX3_allIsSo_76 (lv_at hl 0 rfl) ?_
                    refine aZ C hO 42 cW_42 (i_in (X := (i_k8).toInt) rfl (by omega) (by omega)) dX3_allIsSo_78 ?_
                    refine lv_topi (fun w25 ew25 => ?_)
                    refine cs_eq (tgt := 84) (X := 1) (Y := (w25).toInt) hx hb dX3_allIsSo_79 (by decide) rfl rfl (fun c26 => ?_) (fun c26 => ?_)
                    · have e27 : ((i_k8 + 1)).toInt = (i_k8).toInt + 1 := i_add rfl rfl (by omega)
                      refine lv_iinc (v := (i_k8 + 1)) (lv' := [(6, .int (i_k8 + 1)), (5, .int r5), (4, .int i_k2), (0, .ref (a 39)), (1, .ref (a 3)), (2, .int x2), (3, .int x3)]) hx hb dX3_allIsSo_84 hl (k := 0) rfl rfl (by decide) rfl (fun ls hl => ?_)
                      refine lv_goto (tgt := 24) hx hb dX3_allIsSo_87 (by decide) ?_
                      exact ih_k8 _ _ _ ((i_k8 + 1)) hO (lv_sub hl [0, 1, 2, 3, 4, 5, 6] rfl) (by first | decide | omega) (by first | decide | omega)
                    · refine lv_iconst (v := 0) hx hb dX3_allIsSo_82 (by decide) ?_
                      refine hret _ _ _ _ _ _ dX3_allIsSo_83 rfl ?_ hO
                      exact ⟨Or.inl rfl, hJ, hT⟩
        exact LP_24_k8 4000 _ _ _ (0) hO (lv_sub hl [0, 1, 2, 3, 4, 5, 6] rfl) (by first | decide | omega) (by first | decide | omega)
  exact LP_3_k2 4000 _ _ _ _ (0) hO (lv_sub hl [0, 1, 2, 3, 4] rfl) (by exact hJ) (by exact hT) (by first | decide | omega) (by first | decide | omega)
theorem dX3_fitting_0 : decode cX3_fitting 0 = .ok (.iconst 0, 1) := by decide +kernel
theorem dX3_fitting_1 : decode cX3_fitting 1 = .ok (.istore_n 3, 1) := by decide +kernel
theorem dX3_fitting_2 : decode cX3_fitting 2 = .ok (.iconst 0, 1) := by decide +kernel
theorem dX3_fitting_3 : decode cX3_fitting 3 = .ok (.istore 4, 2) := by decide +kernel
theorem dX3_fitting_5 : decode cX3_fitting 5 = .ok (.iload 4, 2) := by decide +kernel
theorem dX3_fitting_7 : decode cX3_fitting 7 = .ok (.bipush 30, 2) := by decide +kernel
theorem dX3_fitting_9 : decode cX3_fitting 9 = .ok (.if_icmp .gt 34, 3) := by decide +kernel
theorem dX3_fitting_12 : decode cX3_fitting 12 = .ok (.aload_n 1, 1) := by decide +kernel
theorem dX3_fitting_13 : decode cX3_fitting 13 = .ok (.getfield 36, 3) := by decide +kernel
theorem dX3_fitting_16 : decode cX3_fitting 16 = .ok (.ifCond .le 27, 3) := by decide +kernel
theorem dX3_fitting_19 : decode cX3_fitting 19 = .ok (.aload_n 0, 1) := by decide +kernel
theorem dX3_fitting_20 : decode cX3_fitting 20 = .ok (.aload_n 1, 1) := by decide +kernel
theorem dX3_fitting_21 : decode cX3_fitting 21 = .ok (.iload 4, 2) := by decide +kernel
theorem dX3_fitting_23 : decode cX3_fitting 23 = .ok (.iload_n 2, 1) := by decide +kernel
theorem dX3_fitting_24 : decode cX3_fitting 24 = .ok (.invokevirtual 41, 3) := by decide +kernel
theorem dX3_fitting_27 : decode cX3_fitting 27 = .ok (.ifCond .eq 10, 3) := by decide +kernel
theorem dX3_fitting_30 : decode cX3_fitting 30 = .ok (.iload_n 3, 1) := by decide +kernel
theorem dX3_fitting_31 : decode cX3_fitting 31 = .ok (.iconst 1, 1) := by decide +kernel
theorem dX3_fitting_32 : decode cX3_fitting 32 = .ok (.iload 4, 2) := by decide +kernel
theorem dX3_fitting_34 : decode cX3_fitting 34 = .ok (.ishl, 1) := by decide +kernel
theorem dX3_fitting_35 : decode cX3_fitting 35 = .ok (.ior, 1) := by decide +kernel
theorem dX3_fitting_36 : decode cX3_fitting 36 = .ok (.istore_n 3, 1) := by decide +kernel
theorem dX3_fitting_37 : decode cX3_fitting 37 = .ok (.iinc 4 1, 3) := by decide +kernel
theorem dX3_fitting_40 : decode cX3_fitting 40 = .ok (.goto (-35), 3) := by decide +kernel
theorem dX3_fitting_43 : decode cX3_fitting 43 = .ok (.iload_n 3, 1) := by decide +kernel
theorem dX3_fitting_44 : decode cX3_fitting 44 = .ok (.ireturn, 1) := by decide +kernel
theorem wd_1270 : (Cond.code ⟨"WebCourt$Hearsay", "fitting", "(LWebCourt$Web;I)I"⟩ prog_5_method_7_code (5 : Nat) (Option.some FieldType.int)) ∈ gtb := gtb_c5 201 (by decide +kernel) rfl
theorem wd_264 : (Cond.fieldLink "WebCourt$Hearsay" (36 : Nat) "WebCourt$Web" "pleas" "I") ∈ gtb := gtb_c1 155 (by decide +kernel) rfl
theorem gf_RX3_36 {p : Program} {l : Launch} {e : Env} {R : Room} {s : State} {m : MethodId} {args : Array Value} {below : List Frame} {meth : Method} {c : Code} {H : Heap} {locs : List Loc} {cells slots : Nat} {Q : State → Prop} {cc : ByteArray} {pc nL : Nat} {ls : Array Slot} {rest : List Value} {D : va_G} {cy : Nat → ClassId} {A : Nat → Prop} {ws : va_W} {b : Nat} {fs : List Value} {v : Value} (C : Cx p s m args c cc nL RX3 D cy A) (hO : Wo D A ws s.heap H locs) (q0 : Nat) (he : ws[q0]? = some (b, .inr (9, fs))) (hv : fs[11]? = some v) (hdg : decode cc pc = .ok (.getfield 36, 3)) (kk : W p l e R s m args below meth c H locs cells slots Q (F0 m (pc + 3) ls (v :: rest))) : W p l e R s m args below meth c H locs cells slots Q (F0 m pc ls (.ref b :: rest)) := gF (k := 11) C hO q0 he rfl inFX9 (by decide) wd_264 rfl hv hdg kk
theorem wd_1271 : (Cond.methodLink "WebCourt$Hearsay" (41 : Nat) ⟨"WebCourt$Hearsay", "allIsSo", "(LWebCourt$Web;II)Z"⟩) ∈ gtb := gtb_c5 202 (by decide +kernel) rfl
theorem wd_1273 : (Cond.instanceMethod ⟨"WebCourt$Hearsay", "allIsSo", "(LWebCourt$Web;II)Z"⟩) ∈ gtb := gtb_c5 204 (by decide +kernel) rfl
theorem wd_40 : (Cond.selects "WebCourt$Hearsay" ⟨"WebCourt$Hearsay", "allIsSo", "(LWebCourt$Web;II)Z"⟩ ⟨"WebCourt$Hearsay", "allIsSo", "(LWebCourt$Web;II)Z"⟩) ∈ gtb := gtb_p 40 (by decide +kernel) rfl
theorem hd_yX3_allIsSo : yX3_allIsSo.cls = RX3 ∧ yX3_allIsSo.cls ≠ "java/lang/invoke/MethodHandle" ∧ yX3_allIsSo.cls ≠ "java/lang/invoke/VarHandle" ∧ (parseMethodDescriptor yX3_allIsSo.desc).map (fun d => d.parameters.length) = some 3 := by decide +kernel
set_option maxHeartbeats 4000000 in
set_option maxRecDepth 100000 in
theorem T_X3_fitting (l : Launch) (D : va_G) (cy : Nat → ClassId) (a : Nat → Nat) (u : St) (hJ : CI a u) (x2 : Int32)  : Mi l D cy (cW cy a) yX3_fitting (.code yX3_fitting cX3_fitting 5 (some .int)) (rmo 4 103) [.ref (a 39), .ref (a 3), .int x2] u (fun (r : Int32) (u' : St) => (CI a u') ∧ (KT u u')) := by
  refine Mi.of (own := RX3) rfl (by decide) (Nat.le_of_ble_eq_true rfl) ?_
  have hT : KT u u := KT.rf
  intro p e s m below meth c A Q ls C hret hO hl
  obtain ⟨hx, hb, hml, hown, ht, hK, hA⟩ := id C
  have hl : lv_has ls 5 [(0, .ref (a 39)), (1, .ref (a 3)), (2, .int x2)] := hl
  refine lv_iconst (v := 0) hx hb dX3_fitting_0 (by decide) ?_
  refine lv_istore_n (lv' := [(3, .int 0), (0, .ref (a 39)), (1, .ref (a 3)), (2, .int x2)]) hx hb dX3_fitting_1 rfl hl (by decide) rfl (fun ls hl => ?_)
  refine lv_iconst (v := 0) hx hb dX3_fitting_2 (by decide) ?_
  refine lv_istore (lv' := [(4, .int 0), (3, .int 0), (0, .ref (a 39)), (1, .ref (a 3)), (2, .int x2)]) hx hb dX3_fitting_3 hl (by decide) rfl (fun ls hl => ?_)
  have LP_5_k2 : ∀ (n : Nat) (u1 : St) (H : Heap) (locs : List Loc) (ls : Array Slot) (i_k2 : Int32) (w3_k2 : Int32), Wo D A (cW cy a u1) s.heap H locs → lv_has ls 5 [(4, .int i_k2), (3, .int w3_k2), (0, .ref (a 39)), (1, .ref (a 3)), (2, .int x2)] → CI a u1 → KT u u1 → 0 ≤ i_k2.toInt ∧ i_k2.toInt ≤ 31 → 31 - i_k2.toInt < (n : Int) → W p l e (rmo 4 103) s m [.ref (a 39), .ref (a 3), .int x2].toArray below meth c H locs 0 0 Q (F0 m 5 ls []) := by
    intro n
    induction n with
    | zero =>
      intro u1 H locs ls i_k2 w3_k2 hO hl hJ hT iv0_k2 hm_k2
      exact absurd hm_k2 (by omega)
    | succ n ih_k2 =>
      intro u1 H locs ls i_k2 w3_k2 hO hl hJ hT iv0_k2 hm_k2
      refine lv_iload hx hb dX3_fitting_5 (lv_at hl 0 rfl) ?_
      refine lv_bipush (v := 30) hx hb dX3_fitting_7 (by decide) ?_
      refine cs_gt (tgt := 43) (X := (i_k2).toInt) (Y := 30) hx hb dX3_fitting_9 (by decide) rfl rfl (fun c3 => ?_) (fun c3 => ?_)
      · refine lv_iload_n hx hb dX3_fitting_43 rfl (lv_at hl 1 rfl) ?_
        refine hret _ _ _ _ _ _ dX3_fitting_44 rfl ?_ hO
        exact ⟨hJ, hT⟩
      · refine lv_aload_n hx hb dX3_fitting_12 rfl (lv_at hl 3 rfl) ?_
        have g4 : 0 ≤ (fI u1 3 11).toInt ∧ (fI u1 3 11).toInt ≤ 8 := by have h := CI_3_11 hJ; exact h
        refine gf_RX3_36 (v := .int (fI u1 3 11)) C hO 3 cW_3 rfl dX3_fitting_13 ?_
        refine bs_le (tgt := 43) (X := ((fI u1 3 11)).toInt) hx hb dX3_fitting_16 (by decide) rfl (fun c5 => ?_) (fun c5 => ?_)
        · refine lv_iload_n hx hb dX3_fitting_43 rfl (lv_at hl 1 rfl) ?_
          refine hret _ _ _ _ _ _ dX3_fitting_44 rfl ?_ hO
          exact ⟨hJ, hT⟩
        · refine lv_aload_n hx hb dX3_fitting_19 rfl (lv_at hl 2 rfl) ?_
          refine lv_aload_n hx hb dX3_fitting_20 rfl (lv_at hl 3 rfl) ?_
          refine lv_iload hx hb dX3_fitting_21 (lv_at hl 0 rfl) ?_
          refine lv_iload_n hx hb dX3_fitting_23 rfl (lv_at hl 4 rfl) ?_
          refine cVi (w := cW cy a) (As := [.ref (a 3), .int i_k2, .int x2]) (rest := []) C hO (T_X3_allIsSo l D cy a _ (by exact hJ) (i_k2) (x2)) (cwV 3 ht (gV wd_1271 wd_1273 wd_40 wd_120 wd_1274) rfl rfl rfl hd_yX3_allIsSo ⟨Nat.le_of_ble_eq_true rfl, Nat.le_of_ble_eq_true rfl⟩) 39 rfl cW_39 rfl rfl hl.1 (Nat.le_of_ble_eq_true rfl) dX3_fitting_24 rfl ⟨Nat.zero_le _, Nat.zero_le _⟩ (fun r6 u7 H locs hp8 hO => ?_)
          obtain ⟨hr6, hJ, hTu7⟩ := hp8
          have gr6 : 0 ≤ r6.toInt ∧ r6.toInt ≤ 1 := by rcases hr6 with h | h <;> rw [h] <;> decide
          have hT : KT u u7 := KT.tr (by exact hT) hTu7
          refine bs_eq (tgt := 37) (X := (r6).toInt) hx hb dX3_fitting_27 (by decide) rfl (fun c9 => ?_) (fun c9 => ?_)
          · have e10 : ((i_k2 + 1)).toInt = (i_k2).toInt + 1 := i_add rfl rfl (by omega)
            refine lv_iinc (v := (i_k2 + 1)) (lv' := [(4, .int (i_k2 + 1)), (3, .int w3_k2), (0, .ref (a 39)), (1, .ref (a 3)), (2, .int x2)]) hx hb dX3_fitting_37 hl (k := 0) rfl rfl (by decide) rfl (fun ls hl => ?_)
            refine lv_goto (tgt := 5) hx hb dX3_fitting_40 (by decide) ?_
            exact ih_k2 _ _ _ _ ((i_k2 + 1)) (w3_k2) hO (lv_sub hl [0, 1, 2, 3, 4] rfl) (by exact hJ) (by exact hT) (by first | decide | omega) (by first | decide | omega)
          · refine lv_iload_n hx hb dX3_fitting_30 rfl (lv_at hl 1 rfl) ?_
            refine lv_iconst (v := 1) hx hb dX3_fitting_31 (by decide) ?_
            refine lv_iload hx hb dX3_fitting_32 (lv_at hl 0 rfl) ?_
            refine lv_ishl hx hb dX3_fitting_34 ?_
            refine lv_topi (fun z11 ez11 => ?_)
            refine lv_ior hx hb dX3_fitting_35 ?_
            refine lv_topi (fun z12 ez12 => ?_)
            refine lv_istore_n (lv' := [(3, .int z12), (4, .int i_k2), (0, .ref (a 39)), (1, .ref (a 3)), (2, .int x2)]) hx hb dX3_fitting_36 rfl hl (by decide) rfl (fun ls hl => ?_)
            have e13 : ((i_k2 + 1)).toInt = (i_k2).toInt + 1 := i_add rfl rfl (by omega)
            refine lv_iinc (v := (i_k2 + 1)) (lv' := [(4, .int (i_k2 + 1)), (3, .int z12), (0, .ref (a 39)), (1, .ref (a 3)), (2, .int x2)]) hx hb dX3_fitting_37 hl (k := 1) rfl rfl (by decide) rfl (fun ls hl => ?_)
            refine lv_goto (tgt := 5) hx hb dX3_fitting_40 (by decide) ?_
            exact ih_k2 _ _ _ _ ((i_k2 + 1)) (z12) hO (lv_sub hl [0, 1, 2, 3, 4] rfl) (by exact hJ) (by exact hT) (by first | decide | omega) (by first | decide | omega)
  exact LP_5_k2 4000 _ _ _ _ (0) (0) hO (lv_sub hl [0, 1, 2, 3, 4] rfl) (by exact hJ) (by exact hT) (by first | decide | omega) (by first | decide | omega)
theorem dX3_leastOf_0 : decode cX3_leastOf 0 = .ok (.iconst 0, 1) := by decide +kernel
theorem dX3_leastOf_1 : decode cX3_leastOf 1 = .ok (.istore_n 2, 1) := by decide +kernel
theorem dX3_leastOf_2 : decode cX3_leastOf 2 = .ok (.iload_n 2, 1) := by decide +kernel
theorem dX3_leastOf_3 : decode cX3_leastOf 3 = .ok (.bipush 30, 2) := by decide +kernel
theorem dX3_leastOf_5 : decode cX3_leastOf 5 = .ok (.if_icmp .gt 19, 3) := by decide +kernel
theorem dX3_leastOf_8 : decode cX3_leastOf 8 = .ok (.iload_n 1, 1) := by decide +kernel
theorem dX3_leastOf_9 : decode cX3_leastOf 9 = .ok (.iload_n 2, 1) := by decide +kernel
theorem dX3_leastOf_10 : decode cX3_leastOf 10 = .ok (.ishr, 1) := by decide +kernel
theorem dX3_leastOf_11 : decode cX3_leastOf 11 = .ok (.iconst 1, 1) := by decide +kernel
theorem dX3_leastOf_12 : decode cX3_leastOf 12 = .ok (.iand, 1) := by decide +kernel
theorem dX3_leastOf_13 : decode cX3_leastOf 13 = .ok (.ifCond .eq 5, 3) := by decide +kernel
theorem dX3_leastOf_16 : decode cX3_leastOf 16 = .ok (.iload_n 2, 1) := by decide +kernel
theorem dX3_leastOf_17 : decode cX3_leastOf 17 = .ok (.ireturn, 1) := by decide +kernel
theorem dX3_leastOf_18 : decode cX3_leastOf 18 = .ok (.iinc 2 1, 3) := by decide +kernel
theorem dX3_leastOf_21 : decode cX3_leastOf 21 = .ok (.goto (-19), 3) := by decide +kernel
theorem dX3_leastOf_24 : decode cX3_leastOf 24 = .ok (.iconst (-1), 1) := by decide +kernel
theorem dX3_leastOf_25 : decode cX3_leastOf 25 = .ok (.ireturn, 1) := by decide +kernel
theorem wd_1294 : (Cond.code ⟨"WebCourt$Hearsay", "leastOf", "(I)I"⟩ prog_5_method_9_code (3 : Nat) (Option.some FieldType.int)) ∈ gtb := gtb_c5 225 (by decide +kernel) rfl
set_option maxHeartbeats 4000000 in
set_option maxRecDepth 100000 in
theorem T_X3_leastOf (l : Launch) (D : va_G) (cy : Nat → ClassId) (a : Nat → Nat) (u : St) (hJ : CI a u) (x1 : Int32)  : Mi l D cy (cW cy a) yX3_leastOf (.code yX3_leastOf cX3_leastOf 3 (some .int)) (rmo 0 0) [.ref (a 39), .int x1] u (fun (r : Int32) (u' : St) => u' = u) := by
  refine Mi.of (own := RX3) rfl (by decide) (Nat.le_of_ble_eq_true rfl) ?_
  have hT : KT u u := KT.rf
  intro p e s m below meth c A Q ls C hret hO hl
  obtain ⟨hx, hb, hml, hown, ht, hK, hA⟩ := id C
  have hl : lv_has ls 3 [(0, .ref (a 39)), (1, .int x1)] := hl
  refine lv_iconst (v := 0) hx hb dX3_leastOf_0 (by decide) ?_
  refine lv_istore_n (lv' := [(2, .int 0), (0, .ref (a 39)), (1, .int x1)]) hx hb dX3_leastOf_1 rfl hl (by decide) rfl (fun ls hl => ?_)
  have LP_2_k1 : ∀ (n : Nat) (H : Heap) (locs : List Loc) (ls : Array Slot) (i_k1 : Int32), Wo D A (cW cy a u) s.heap H locs → lv_has ls 3 [(2, .int i_k1), (0, .ref (a 39)), (1, .int x1)] → 0 ≤ i_k1.toInt ∧ i_k1.toInt ≤ 31 → 31 - i_k1.toInt < (n : Int) → W p l e (rmo 0 0) s m [.ref (a 39), .int x1].toArray below meth c H locs 0 0 Q (F0 m 2 ls []) := by
    intro n
    induction n with
    | zero =>
      intro H locs ls i_k1 hO hl iv0_k1 hm_k1
      exact absurd hm_k1 (by omega)
    | succ n ih_k1 =>
      intro H locs ls i_k1 hO hl iv0_k1 hm_k1
      refine lv_iload_n hx hb dX3_leastOf_2 rfl (lv_at hl 0 rfl) ?_
      refine lv_bipush (v := 30) hx hb dX3_leastOf_3 (by decide) ?_
      refine cs_gt (tgt := 24) (X := (i_k1).toInt) (Y := 30) hx hb dX3_leastOf_5 (by decide) rfl rfl (fun c2 => ?_) (fun c2 => ?_)
      · refine lv_iconst (v := (-1)) hx hb dX3_leastOf_24 (by decide) ?_
        refine hret _ _ _ _ _ _ dX3_leastOf_25 rfl ?_ hO
        exact rfl
      · refine lv_iload_n hx hb dX3_leastOf_8 rfl (lv_at hl 2 rfl) ?_
        refine lv_iload_n hx hb dX3_leastOf_9 rfl (lv_at hl 0 rfl) ?_
        refine lv_ishr hx hb dX3_leastOf_10 ?_
        refine lv_topi (fun z3 ez3 => ?_)
        refine lv_iconst (v := 1) hx hb dX3_leastOf_11 (by decide) ?_
        refine lv_iand hx hb dX3_leastOf_12 ?_
        refine lv_topi (fun z4 ez4 => ?_)
        have g5 : 0 ≤ z4.toInt ∧ z4.toInt ≤ 1 := by rw [ez4]; exact i_andr rfl (by omega)
        refine bs_eq (tgt := 18) (X := (z4).toInt) hx hb dX3_leastOf_13 (by decide) rfl (fun c6 => ?_) (fun c6 => ?_)
        · have e7 : ((i_k1 + 1)).toInt = (i_k1).toInt + 1 := i_add rfl rfl (by omega)
          refine lv_iinc (v := (i_k1 + 1)) (lv' := [(2, .int (i_k1 + 1)), (0, .ref (a 39)), (1, .int x1)]) hx hb dX3_leastOf_18 hl (k := 0) rfl rfl (by decide) rfl (fun ls hl => ?_)
          refine lv_goto (tgt := 2) hx hb dX3_leastOf_21 (by decide) ?_
          exact ih_k1 _ _ _ ((i_k1 + 1)) hO (lv_sub hl [0, 1, 2] rfl) (by first | decide | omega) (by first | decide | omega)
        · refine lv_iload_n hx hb dX3_leastOf_16 rfl (lv_at hl 0 rfl) ?_
          refine hret _ _ _ _ _ _ dX3_leastOf_17 rfl ?_ hO
          exact rfl
  exact LP_2_k1 4000 _ _ _ (0) hO (lv_sub hl [0, 1, 2] rfl) (by first | decide | omega) (by first | decide | omega)
theorem dX3_greatestOf_0 : decode cX3_greatestOf 0 = .ok (.bipush 30, 2) := by decide +kernel
theorem dX3_greatestOf_2 : decode cX3_greatestOf 2 = .ok (.istore_n 2, 1) := by decide +kernel
theorem dX3_greatestOf_3 : decode cX3_greatestOf 3 = .ok (.iload_n 2, 1) := by decide +kernel
theorem dX3_greatestOf_4 : decode cX3_greatestOf 4 = .ok (.ifCond .lt 19, 3) := by decide +kernel
theorem dX3_greatestOf_7 : decode cX3_greatestOf 7 = .ok (.iload_n 1, 1) := by decide +kernel
theorem dX3_greatestOf_8 : decode cX3_greatestOf 8 = .ok (.iload_n 2, 1) := by decide +kernel
theorem dX3_greatestOf_9 : decode cX3_greatestOf 9 = .ok (.ishr, 1) := by decide +kernel
theorem dX3_greatestOf_10 : decode cX3_greatestOf 10 = .ok (.iconst 1, 1) := by decide +kernel
theorem dX3_greatestOf_11 : decode cX3_greatestOf 11 = .ok (.iand, 1) := by decide +kernel
theorem dX3_greatestOf_12 : decode cX3_greatestOf 12 = .ok (.ifCond .eq 5, 3) := by decide +kernel
theorem dX3_greatestOf_15 : decode cX3_greatestOf 15 = .ok (.iload_n 2, 1) := by decide +kernel
theorem dX3_greatestOf_16 : decode cX3_greatestOf 16 = .ok (.ireturn, 1) := by decide +kernel
theorem dX3_greatestOf_17 : decode cX3_greatestOf 17 = .ok (.iinc 2 (-1), 3) := by decide +kernel
theorem dX3_greatestOf_20 : decode cX3_greatestOf 20 = .ok (.goto (-17), 3) := by decide +kernel
theorem dX3_greatestOf_23 : decode cX3_greatestOf 23 = .ok (.iconst (-1), 1) := by decide +kernel
theorem dX3_greatestOf_24 : decode cX3_greatestOf 24 = .ok (.ireturn, 1) := by decide +kernel
theorem wd_1298 : (Cond.code ⟨"WebCourt$Hearsay", "greatestOf", "(I)I"⟩ prog_5_method_10_code (3 : Nat) (Option.some FieldType.int)) ∈ gtb := gtb_c5 229 (by decide +kernel) rfl
set_option maxHeartbeats 4000000 in
set_option maxRecDepth 100000 in
theorem T_X3_greatestOf (l : Launch) (D : va_G) (cy : Nat → ClassId) (a : Nat → Nat) (u : St) (hJ : CI a u) (x1 : Int32)  : Mi l D cy (cW cy a) yX3_greatestOf (.code yX3_greatestOf cX3_greatestOf 3 (some .int)) (rmo 0 0) [.ref (a 39), .int x1] u (fun (r : Int32) (u' : St) => u' = u) := by
  refine Mi.of (own := RX3) rfl (by decide) (Nat.le_of_ble_eq_true rfl) ?_
  have hT : KT u u := KT.rf
  intro p e s m below meth c A Q ls C hret hO hl
  obtain ⟨hx, hb, hml, hown, ht, hK, hA⟩ := id C
  have hl : lv_has ls 3 [(0, .ref (a 39)), (1, .int x1)] := hl
  refine lv_bipush (v := 30) hx hb dX3_greatestOf_0 (by decide) ?_
  refine lv_istore_n (lv' := [(2, .int 30), (0, .ref (a 39)), (1, .int x1)]) hx hb dX3_greatestOf_2 rfl hl (by decide) rfl (fun ls hl => ?_)
  have LP_3_k1 : ∀ (n : Nat) (H : Heap) (locs : List Loc) (ls : Array Slot) (i_k1 : Int32), Wo D A (cW cy a u) s.heap H locs → lv_has ls 3 [(2, .int i_k1), (0, .ref (a 39)), (1, .int x1)] → (-1) ≤ i_k1.toInt ∧ i_k1.toInt ≤ 30 → i_k1.toInt + 1 < (n : Int) → W p l e (rmo 0 0) s m [.ref (a 39), .int x1].toArray below meth c H locs 0 0 Q (F0 m 3 ls []) := by
    intro n
    induction n with
    | zero =>
      intro H locs ls i_k1 hO hl iv0_k1 hm_k1
      exact absurd hm_k1 (by omega)
    | succ n ih_k1 =>
      intro H locs ls i_k1 hO hl iv0_k1 hm_k1
      refine lv_iload_n hx hb dX3_greatestOf_3 rfl (lv_at hl 0 rfl) ?_
      refine bs_lt (tgt := 23) (X := (i_k1).toInt) hx hb dX3_greatestOf_4 (by decide) rfl (fun c2 => ?_) (fun c2 => ?_)
      · refine lv_iconst (v := (-1)) hx hb dX3_greatestOf_23 (by decide) ?_
        refine hret _ _ _ _ _ _ dX3_greatestOf_24 rfl ?_ hO
        exact rfl
      · refine lv_iload_n hx hb dX3_greatestOf_7 rfl (lv_at hl 2 rfl) ?_
        refine lv_iload_n hx hb dX3_greatestOf_8 rfl (lv_at hl 0 rfl) ?_
        refine lv_ishr hx hb dX3_greatestOf_9 ?_
        refine lv_topi (fun z3 ez3 => ?_)
        refine lv_iconst (v := 1) hx hb dX3_greatestOf_10 (by decide) ?_
        refine lv_iand hx hb dX3_greatestOf_11 ?_
        refine lv_topi (fun z4 ez4 => ?_)
        have g5 : 0 ≤ z4.toInt ∧ z4.toInt ≤ 1 := by rw [ez4]; exact i_andr rfl (by omega)
        refine bs_eq (tgt := 17) (X := (z4).toInt) hx hb dX3_greatestOf_12 (by decide) rfl (fun c6 => ?_) (fun c6 => ?_)
        · have e7 : ((i_k1 + (-1))).toInt = (i_k1).toInt + (-1) := i_add rfl rfl (by omega)
          refine lv_iinc (v := (i_k1 + (-1))) (lv' := [(2, .int (i_k1 + (-1))), (0, .ref (a 39)), (1, .int x1)]) hx hb dX3_greatestOf_17 hl (k := 0) rfl rfl (by decide) rfl (fun ls hl => ?_)
          refine lv_goto (tgt := 3) hx hb dX3_greatestOf_20 (by decide) ?_
          exact ih_k1 _ _ _ ((i_k1 + (-1))) hO (lv_sub hl [0, 1, 2] rfl) (by first | decide | omega) (by first | decide | omega)
        · refine lv_iload_n hx hb dX3_greatestOf_15 rfl (lv_at hl 0 rfl) ?_
          refine hret _ _ _ _ _ _ dX3_greatestOf_16 rfl ?_ hO
          exact rfl
  exact LP_3_k1 4000 _ _ _ (30) hO (lv_sub hl [0, 1, 2] rfl) (by first | decide | omega) (by first | decide | omega)
theorem dX3_mostLeft_0 : decode cX3_mostLeft 0 = .ok (.iconst 0, 1) := by decide +kernel
theorem dX3_mostLeft_1 : decode cX3_mostLeft 1 = .ok (.istore 4, 2) := by decide +kernel
theorem dX3_mostLeft_3 : decode cX3_mostLeft 3 = .ok (.iconst 0, 1) := by decide +kernel
theorem dX3_mostLeft_4 : decode cX3_mostLeft 4 = .ok (.istore 5, 2) := by decide +kernel
theorem dX3_mostLeft_6 : decode cX3_mostLeft 6 = .ok (.iconst 0, 1) := by decide +kernel
theorem dX3_mostLeft_7 : decode cX3_mostLeft 7 = .ok (.istore 6, 2) := by decide +kernel
theorem dX3_mostLeft_9 : decode cX3_mostLeft 9 = .ok (.iconst 0, 1) := by decide +kernel
theorem dX3_mostLeft_10 : decode cX3_mostLeft 10 = .ok (.istore 7, 2) := by decide +kernel
theorem dX3_mostLeft_12 : decode cX3_mostLeft 12 = .ok (.iload 7, 2) := by decide +kernel
theorem dX3_mostLeft_14 : decode cX3_mostLeft 14 = .ok (.bipush 30, 2) := by decide +kernel
theorem dX3_mostLeft_16 : decode cX3_mostLeft 16 = .ok (.if_icmp .gt 55, 3) := by decide +kernel
theorem dX3_mostLeft_19 : decode cX3_mostLeft 19 = .ok (.iload_n 3, 1) := by decide +kernel
theorem dX3_mostLeft_20 : decode cX3_mostLeft 20 = .ok (.iload 7, 2) := by decide +kernel
theorem dX3_mostLeft_22 : decode cX3_mostLeft 22 = .ok (.ishr, 1) := by decide +kernel
theorem dX3_mostLeft_23 : decode cX3_mostLeft 23 = .ok (.iconst 1, 1) := by decide +kernel
theorem dX3_mostLeft_24 : decode cX3_mostLeft 24 = .ok (.iand, 1) := by decide +kernel
theorem dX3_mostLeft_25 : decode cX3_mostLeft 25 = .ok (.ifCond .ne 6, 3) := by decide +kernel
theorem dX3_mostLeft_28 : decode cX3_mostLeft 28 = .ok (.goto 37, 3) := by decide +kernel
theorem dX3_mostLeft_31 : decode cX3_mostLeft 31 = .ok (.aload_n 1, 1) := by decide +kernel
theorem dX3_mostLeft_32 : decode cX3_mostLeft 32 = .ok (.iload_n 2, 1) := by decide +kernel
theorem dX3_mostLeft_33 : decode cX3_mostLeft 33 = .ok (.iload 7, 2) := by decide +kernel
theorem dX3_mostLeft_35 : decode cX3_mostLeft 35 = .ok (.invokevirtual 48, 3) := by decide +kernel
theorem dX3_mostLeft_38 : decode cX3_mostLeft 38 = .ok (.istore 8, 2) := by decide +kernel
theorem dX3_mostLeft_40 : decode cX3_mostLeft 40 = .ok (.iload 8, 2) := by decide +kernel
theorem dX3_mostLeft_42 : decode cX3_mostLeft 42 = .ok (.ifCond .le 9, 3) := by decide +kernel
theorem dX3_mostLeft_45 : decode cX3_mostLeft 45 = .ok (.iinc 4 1, 3) := by decide +kernel
theorem dX3_mostLeft_48 : decode cX3_mostLeft 48 = .ok (.goto 17, 3) := by decide +kernel
theorem dX3_mostLeft_51 : decode cX3_mostLeft 51 = .ok (.iload 8, 2) := by decide +kernel
theorem dX3_mostLeft_53 : decode cX3_mostLeft 53 = .ok (.ifCond .ne 9, 3) := by decide +kernel
theorem dX3_mostLeft_56 : decode cX3_mostLeft 56 = .ok (.iinc 5 1, 3) := by decide +kernel
theorem dX3_mostLeft_59 : decode cX3_mostLeft 59 = .ok (.goto 6, 3) := by decide +kernel
theorem dX3_mostLeft_62 : decode cX3_mostLeft 62 = .ok (.iinc 6 1, 3) := by decide +kernel
theorem dX3_mostLeft_65 : decode cX3_mostLeft 65 = .ok (.iinc 7 1, 3) := by decide +kernel
theorem dX3_mostLeft_68 : decode cX3_mostLeft 68 = .ok (.goto (-56), 3) := by decide +kernel
theorem dX3_mostLeft_71 : decode cX3_mostLeft 71 = .ok (.iload 4, 2) := by decide +kernel
theorem dX3_mostLeft_73 : decode cX3_mostLeft 73 = .ok (.iload 5, 2) := by decide +kernel
theorem dX3_mostLeft_75 : decode cX3_mostLeft 75 = .ok (.iload 6, 2) := by decide +kernel
theorem dX3_mostLeft_77 : decode cX3_mostLeft 77 = .ok (.invokestatic 56, 3) := by decide +kernel
theorem dX3_mostLeft_80 : decode cX3_mostLeft 80 = .ok (.invokestatic 56, 3) := by decide +kernel
theorem dX3_mostLeft_83 : decode cX3_mostLeft 83 = .ok (.ireturn, 1) := by decide +kernel
theorem wd_1310 : (Cond.code ⟨"WebCourt$Hearsay", "mostLeft", "(LWebCourt$Web;II)I"⟩ prog_5_method_11_code (9 : Nat) (Option.some FieldType.int)) ∈ gtb := gtb_c6 1 (by decide +kernel) rfl
theorem wd_1311 : (Cond.methodLink "WebCourt$Hearsay" (56 : Nat) ⟨"java/lang/Math", "max", "(II)I"⟩) ∈ gtb := gtb_c6 2 (by decide +kernel) rfl
set_option maxHeartbeats 4000000 in
set_option maxRecDepth 100000 in
theorem T_X3_mostLeft (l : Launch) (D : va_G) (cy : Nat → ClassId) (a : Nat → Nat) (u : St) (hJ : CI a u) (x2 : Int32) (x3 : Int32) (hx_x2 : 0 ≤ x2.toInt ∧ x2.toInt ≤ 5) : Mi l D cy (cW cy a) yX3_mostLeft (.code yX3_mostLeft cX3_mostLeft 9 (some .int)) (rmo 3 77) [.ref (a 39), .ref (a 3), .int x2, .int x3] u (fun (r : Int32) (u' : St) => (CI a u') ∧ (KT u u')) := by
  refine Mi.of (own := RX3) rfl (by decide) (Nat.le_of_ble_eq_true rfl) ?_
  have hT : KT u u := KT.rf
  intro p e s m below meth c A Q ls C hret hO hl
  obtain ⟨hx, hb, hml, hown, ht, hK, hA⟩ := id C
  have hl : lv_has ls 9 [(0, .ref (a 39)), (1, .ref (a 3)), (2, .int x2), (3, .int x3)] := hl
  refine lv_iconst (v := 0) hx hb dX3_mostLeft_0 (by decide) ?_
  refine lv_istore (lv' := [(4, .int 0), (0, .ref (a 39)), (1, .ref (a 3)), (2, .int x2), (3, .int x3)]) hx hb dX3_mostLeft_1 hl (by decide) rfl (fun ls hl => ?_)
  refine lv_iconst (v := 0) hx hb dX3_mostLeft_3 (by decide) ?_
  refine lv_istore (lv' := [(5, .int 0), (4, .int 0), (0, .ref (a 39)), (1, .ref (a 3)), (2, .int x2), (3, .int x3)]) hx hb dX3_mostLeft_4 hl (by decide) rfl (fun ls hl => ?_)
  refine lv_iconst (v := 0) hx hb dX3_mostLeft_6 (by decide) ?_
  refine lv_istore (lv' := [(6, .int 0), (5, .int 0), (4, .int 0), (0, .ref (a 39)), (1, .ref (a 3)), (2, .int x2), (3, .int x3)]) hx hb dX3_mostLeft_7 hl (by decide) rfl (fun ls hl => ?_)
  refine lv_iconst (v := 0) hx hb dX3_mostLeft_9 (by decide) ?_
  refine lv_istore (lv' := [(7, .int 0), (6, .int 0), (5, .int 0), (4, .int 0), (0, .ref (a 39)), (1, .ref (a 3)), (2, .int x2), (3, .int x3)]) hx hb dX3_mostLeft_10 hl (by decide) rfl (fun ls hl => ?_)
  have LP_12_k2 : ∀ (n : Nat) (u1 : St) (H : Heap) (locs : List Loc) (ls : Array Slot) (i_k2 : Int32) (w6_k2 : Int32) (w5_k2 : Int32) (w4_k2 : Int32), Wo D A (cW cy a u1) s.heap H locs → lv_has ls 9 [(7, .int i_k2), (6, .int w6_k2), (5, .int w5_k2), (4, .int w4_k2), (0, .ref (a 39)), (1, .ref (a 3)), (2, .int x2), (3, .int x3)] → CI a u1 → KT u u1 → 0 ≤ i_k2.toInt ∧ i_k2.toInt ≤ 31 → 31 - i_k2.toInt < (n : Int) → W p l e (rmo 3 77) s m [.ref (a 39), .ref (a 3), .int x2, .int x3].toArray below meth c H locs 0 0 Q (F0 m 12 ls []) := by
    intro n
    induction n with
    | zero =>
      intro u1 H locs ls i_k2 w6_k2 w5_k2 w4_k2 hO hl hJ hT iv0_k2 hm_k2
      exact absurd hm_k2 (by omega)
    | succ n ih_k2 =>
      intro u1 H locs ls i_k2 w6_k2 w5_k2 w4_k2 hO hl hJ hT iv0_k2 hm_k2
      refine lv_iload hx hb dX3_mostLeft_12 (lv_at hl 0 rfl) ?_
      refine lv_bipush (v := 30) hx hb dX3_mostLeft_14 (by decide) ?_
      refine cs_gt (tgt := 71) (X := (i_k2).toInt) (Y := 30) hx hb dX3_mostLeft_16 (by decide) rfl rfl (fun c3 => ?_) (fun c3 => ?_)
      · refine lv_iload hx hb dX3_mostLeft_71 (lv_at hl 3 rfl) ?_
        refine lv_iload hx hb dX3_mostLeft_73 (lv_at hl 2 rfl) ?_
        refine lv_iload hx hb dX3_mostLeft_75 (lv_at hl 1 rfl) ?_
        refine va_mmax hx hb (by rw [hml]; exact hl.1.symm) hown (ht _ wd_1311) (ht _ wd_636) (ht _ wd_126) (ht _ wd_637) (Nat.le_of_ble_eq_true rfl) (Nat.le_of_ble_eq_true rfl) (Nat.zero_le _) (Nat.zero_le _) dX3_mostLeft_77 ?_
        refine lv_topi (fun z4 ez4 => ?_)
        refine va_mmax hx hb (by rw [hml]; exact hl.1.symm) hown (ht _ wd_1311) (ht _ wd_636) (ht _ wd_126) (ht _ wd_637) (Nat.le_of_ble_eq_true rfl) (Nat.le_of_ble_eq_true rfl) (Nat.zero_le _) (Nat.zero_le _) dX3_mostLeft_80 ?_
        refine lv_topi (fun z5 ez5 => ?_)
        refine hret _ _ _ _ _ _ dX3_mostLeft_83 rfl ?_ hO
        exact ⟨hJ, hT⟩
      · refine lv_iload_n hx hb dX3_mostLeft_19 rfl (lv_at hl 7 rfl) ?_
        refine lv_iload hx hb dX3_mostLeft_20 (lv_at hl 0 rfl) ?_
        refine lv_ishr hx hb dX3_mostLeft_22 ?_
        refine lv_topi (fun z6 ez6 => ?_)
        refine lv_iconst (v := 1) hx hb dX3_mostLeft_23 (by decide) ?_
        refine lv_iand hx hb dX3_mostLeft_24 ?_
        refine lv_topi (fun z7 ez7 => ?_)
        have g8 : 0 ≤ z7.toInt ∧ z7.toInt ≤ 1 := by rw [ez7]; exact i_andr rfl (by omega)
        refine bs_ne (tgt := 31) (X := (z7).toInt) hx hb dX3_mostLeft_25 (by decide) rfl (fun c9 => ?_) (fun c9 => ?_)
        · refine lv_aload_n hx hb dX3_mostLeft_31 rfl (lv_at hl 5 rfl) ?_
          refine lv_iload_n hx hb dX3_mostLeft_32 rfl (lv_at hl 6 rfl) ?_
          refine lv_iload hx hb dX3_mostLeft_33 (lv_at hl 0 rfl) ?_
          refine cVi (w := cW cy a) (As := [.int x2, .int i_k2]) (rest := []) C hO (T_X9_firstVerdict l D cy a _ (by exact hJ) (x2) (i_k2) (by first | omega | decide)) (cwV 2 ht (gV wd_1275 wd_1276 wd_1277 wd_112 wd_1278) rfl rfl rfl hd_yX9_firstVerdict ⟨Nat.le_of_ble_eq_true rfl, Nat.le_of_ble_eq_true rfl⟩) 3 rfl cW_3 rfl rfl hl.1 (Nat.le_of_ble_eq_true rfl) dX3_mostLeft_35 rfl ⟨Nat.zero_le _, Nat.zero_le _⟩ (fun r10 u11 H locs hp12 hO => ?_)
          obtain ⟨hJ, hTu11⟩ := hp12
          have hT : KT u u11 := KT.tr (by exact hT) hTu11
          refine lv_istore (lv' := [(8, .int r10), (7, .int i_k2), (6, .int w6_k2), (5, .int w5_k2), (4, .int w4_k2), (0, .ref (a 39)), (1, .ref (a 3)), (2, .int x2), (3, .int x3)]) hx hb dX3_mostLeft_38 hl (by decide) rfl (fun ls hl => ?_)
          refine lv_iload hx hb dX3_mostLeft_40 (lv_at hl 0 rfl) ?_
          refine bs_le (tgt := 51) (X := (r10).toInt) hx hb dX3_mostLeft_42 (by decide) rfl (fun c13 => ?_) (fun c13 => ?_)
          · refine lv_iload hx hb dX3_mostLeft_51 (lv_at hl 0 rfl) ?_
            refine bs_ne (tgt := 62) (X := (r10).toInt) hx hb dX3_mostLeft_53 (by decide) rfl (fun c14 => ?_) (fun c14 => ?_)
            · refine lv_iinc (v := (w6_k2 + 1)) (lv' := [(6, .int (w6_k2 + 1)), (8, .int r10), (7, .int i_k2), (5, .int w5_k2), (4, .int w4_k2), (0, .ref (a 39)), (1, .ref (a 3)), (2, .int x2), (3, .int x3)]) hx hb dX3_mostLeft_62 hl (k := 2) rfl rfl (by decide) rfl (fun ls hl => ?_)
              have e15 : ((i_k2 + 1)).toInt = (i_k2).toInt + 1 := i_add rfl rfl (by omega)
              refine lv_iinc (v := (i_k2 + 1)) (lv' := [(7, .int (i_k2 + 1)), (6, .int (w6_k2 + 1)), (8, .int r10), (5, .int w5_k2), (4, .int w4_k2), (0, .ref (a 39)), (1, .ref (a 3)), (2, .int x2), (3, .int x3)]) hx hb dX3_mostLeft_65 hl (k := 2) rfl rfl (by decide) rfl (fun ls hl => ?_)
              refine lv_goto (tgt := 12) hx hb dX3_mostLeft_68 (by decide) ?_
              exact ih_k2 _ _ _ _ ((i_k2 + 1)) ((w6_k2 + 1)) (w5_k2) (w4_k2) hO (lv_sub hl [0, 1, 3, 4, 5, 6, 7, 8] rfl) (by exact hJ) (by exact hT) (by first | decide | omega) (by first | decide | omega)
            · refine lv_iinc (v := (w5_k2 + 1)) (lv' := [(5, .int (w5_k2 + 1)), (8, .int r10), (7, .int i_k2), (6, .int w6_k2), (4, .int w4_k2), (0, .ref (a 39)), (1, .ref (a 3)), (2, .int x2), (3, .int x3)]) hx hb dX3_mostLeft_56 hl (k := 3) rfl rfl (by decide) rfl (fun ls hl => ?_)
              refine lv_goto (tgt := 65) hx hb dX3_mostLeft_59 (by decide) ?_
              have e16 : ((i_k2 + 1)).toInt = (i_k2).toInt + 1 := i_add rfl rfl (by omega)
              refine lv_iinc (v := (i_k2 + 1)) (lv' := [(7, .int (i_k2 + 1)), (5, .int (w5_k2 + 1)), (8, .int r10), (6, .int w6_k2), (4, .int w4_k2), (0, .ref (a 39)), (1, .ref (a 3)), (2, .int x2), (3, .int x3)]) hx hb dX3_mostLeft_65 hl (k := 2) rfl rfl (by decide) rfl (fun ls hl => ?_)
              refine lv_goto (tgt := 12) hx hb dX3_mostLeft_68 (by decide) ?_
              exact ih_k2 _ _ _ _ ((i_k2 + 1)) (w6_k2) ((w5_k2 + 1)) (w4_k2) hO (lv_sub hl [0, 3, 1, 4, 5, 6, 7, 8] rfl) (by exact hJ) (by exact hT) (by first | decide | omega) (by first | decide | omega)
          · refine lv_iinc (v := (w4_k2 + 1)) (lv' := [(4, .int (w4_k2 + 1)), (8, .int r10), (7, .int i_k2), (6, .int w6_k2), (5, .int w5_k2), (0, .ref (a 39)), (1, .ref (a 3)), (2, .int x2), (3, .int x3)]) hx hb dX3_mostLeft_45 hl (k := 4) rfl rfl (by decide) rfl (fun ls hl => ?_)
            refine lv_goto (tgt := 65) hx hb dX3_mostLeft_48 (by decide) ?_
            have e17 : ((i_k2 + 1)).toInt = (i_k2).toInt + 1 := i_add rfl rfl (by omega)
            refine lv_iinc (v := (i_k2 + 1)) (lv' := [(7, .int (i_k2 + 1)), (4, .int (w4_k2 + 1)), (8, .int r10), (6, .int w6_k2), (5, .int w5_k2), (0, .ref (a 39)), (1, .ref (a 3)), (2, .int x2), (3, .int x3)]) hx hb dX3_mostLeft_65 hl (k := 2) rfl rfl (by decide) rfl (fun ls hl => ?_)
            refine lv_goto (tgt := 12) hx hb dX3_mostLeft_68 (by decide) ?_
            exact ih_k2 _ _ _ _ ((i_k2 + 1)) (w6_k2) (w5_k2) ((w4_k2 + 1)) hO (lv_sub hl [0, 3, 4, 1, 5, 6, 7, 8] rfl) (by exact hJ) (by exact hT) (by first | decide | omega) (by first | decide | omega)
        · refine lv_goto (tgt := 65) hx hb dX3_mostLeft_28 (by decide) ?_
          have e18 : ((i_k2 + 1)).toInt = (i_k2).toInt + 1 := i_add rfl rfl (by omega)
          refine lv_iinc (v := (i_k2 + 1)) (lv' := [(7, .int (i_k2 + 1)), (6, .int w6_k2), (5, .int w5_k2), (4, .int w4_k2), (0, .ref (a 39)), (1, .ref (a 3)), (2, .int x2), (3, .int x3)]) hx hb dX3_mostLeft_65 hl (k := 0) rfl rfl (by decide) rfl (fun ls hl => ?_)
          refine lv_goto (tgt := 12) hx hb dX3_mostLeft_68 (by decide) ?_
          exact ih_k2 _ _ _ _ ((i_k2 + 1)) (w6_k2) (w5_k2) (w4_k2) hO (lv_sub hl [0, 1, 2, 3, 4, 5, 6, 7] rfl) (by exact hJ) (by exact hT) (by first | decide | omega) (by first | decide | omega)
  exact LP_12_k2 4000 _ _ _ _ (0) (0) (0) (0) hO (lv_sub hl [0, 1, 2, 3, 4, 5, 6, 7] rfl) (by exact hJ) (by exact hT) (by first | decide | omega) (by first | decide | omega)
theorem dX3_caseToAsk_0 : decode cX3_caseToAsk 0 = .ok (.iconst 0, 1) := by decide +kernel
theorem dX3_caseToAsk_1 : decode cX3_caseToAsk 1 = .ok (.istore_n 3, 1) := by decide +kernel
theorem dX3_caseToAsk_2 : decode cX3_caseToAsk 2 = .ok (.bipush 32, 2) := by decide +kernel
theorem dX3_caseToAsk_4 : decode cX3_caseToAsk 4 = .ok (.istore 4, 2) := by decide +kernel
theorem dX3_caseToAsk_6 : decode cX3_caseToAsk 6 = .ok (.iconst 0, 1) := by decide +kernel
theorem dX3_caseToAsk_7 : decode cX3_caseToAsk 7 = .ok (.istore 5, 2) := by decide +kernel
theorem dX3_caseToAsk_9 : decode cX3_caseToAsk 9 = .ok (.iload 5, 2) := by decide +kernel
theorem dX3_caseToAsk_11 : decode cX3_caseToAsk 11 = .ok (.aload_n 1, 1) := by decide +kernel
theorem dX3_caseToAsk_12 : decode cX3_caseToAsk 12 = .ok (.getfield 45, 3) := by decide +kernel
theorem dX3_caseToAsk_15 : decode cX3_caseToAsk 15 = .ok (.if_icmp .ge 33, 3) := by decide +kernel
theorem dX3_caseToAsk_18 : decode cX3_caseToAsk 18 = .ok (.aload_n 0, 1) := by decide +kernel
theorem dX3_caseToAsk_19 : decode cX3_caseToAsk 19 = .ok (.aload_n 1, 1) := by decide +kernel
theorem dX3_caseToAsk_20 : decode cX3_caseToAsk 20 = .ok (.iload 5, 2) := by decide +kernel
theorem dX3_caseToAsk_22 : decode cX3_caseToAsk 22 = .ok (.iload_n 2, 1) := by decide +kernel
theorem dX3_caseToAsk_23 : decode cX3_caseToAsk 23 = .ok (.invokevirtual 61, 3) := by decide +kernel
theorem dX3_caseToAsk_26 : decode cX3_caseToAsk 26 = .ok (.istore 6, 2) := by decide +kernel
theorem dX3_caseToAsk_28 : decode cX3_caseToAsk 28 = .ok (.iload 6, 2) := by decide +kernel
theorem dX3_caseToAsk_30 : decode cX3_caseToAsk 30 = .ok (.iload 4, 2) := by decide +kernel
theorem dX3_caseToAsk_32 : decode cX3_caseToAsk 32 = .ok (.if_icmp .ge 10, 3) := by decide +kernel
theorem dX3_caseToAsk_35 : decode cX3_caseToAsk 35 = .ok (.iload 6, 2) := by decide +kernel
theorem dX3_caseToAsk_37 : decode cX3_caseToAsk 37 = .ok (.istore 4, 2) := by decide +kernel
theorem dX3_caseToAsk_39 : decode cX3_caseToAsk 39 = .ok (.iload 5, 2) := by decide +kernel
theorem dX3_caseToAsk_41 : decode cX3_caseToAsk 41 = .ok (.istore_n 3, 1) := by decide +kernel
theorem dX3_caseToAsk_42 : decode cX3_caseToAsk 42 = .ok (.iinc 5 1, 3) := by decide +kernel
theorem dX3_caseToAsk_45 : decode cX3_caseToAsk 45 = .ok (.goto (-36), 3) := by decide +kernel
theorem dX3_caseToAsk_48 : decode cX3_caseToAsk 48 = .ok (.iload_n 3, 1) := by decide +kernel
theorem dX3_caseToAsk_49 : decode cX3_caseToAsk 49 = .ok (.ireturn, 1) := by decide +kernel
theorem wd_1306 : (Cond.code ⟨"WebCourt$Hearsay", "caseToAsk", "(LWebCourt$Web;I)I"⟩ prog_5_method_12_code (7 : Nat) (Option.some FieldType.int)) ∈ gtb := gtb_c5 237 (by decide +kernel) rfl
theorem wd_1307 : (Cond.methodLink "WebCourt$Hearsay" (61 : Nat) ⟨"WebCourt$Hearsay", "mostLeft", "(LWebCourt$Web;II)I"⟩) ∈ gtb := gtb_c5 238 (by decide +kernel) rfl
theorem wd_1308 : (Cond.instanceMethod ⟨"WebCourt$Hearsay", "mostLeft", "(LWebCourt$Web;II)I"⟩) ∈ gtb := gtb_c5 239 (by decide +kernel) rfl
theorem wd_1309 : (Cond.selects "WebCourt$Hearsay" ⟨"WebCourt$Hearsay", "mostLeft", "(LWebCourt$Web;II)I"⟩ ⟨"WebCourt$Hearsay", "mostLeft", "(LWebCourt$Web;II)I"⟩) ∈ gtb := gtb_c6 0 (by decide +kernel) rfl
theorem hd_yX3_mostLeft : yX3_mostLeft.cls = RX3 ∧ yX3_mostLeft.cls ≠ "java/lang/invoke/MethodHandle" ∧ yX3_mostLeft.cls ≠ "java/lang/invoke/VarHandle" ∧ (parseMethodDescriptor yX3_mostLeft.desc).map (fun d => d.parameters.length) = some 3 := by decide +kernel
set_option maxHeartbeats 4000000 in
set_option maxRecDepth 100000 in
theorem T_X3_caseToAsk (l : Launch) (D : va_G) (cy : Nat → ClassId) (a : Nat → Nat) (u : St) (hJ : CI a u) (x2 : Int32)  : Mi l D cy (cW cy a) yX3_caseToAsk (.code yX3_caseToAsk cX3_caseToAsk 7 (some .int)) (rmo 4 105) [.ref (a 39), .ref (a 3), .int x2] u (fun (r : Int32) (u' : St) => (0 ≤ r.toInt ∧ r.toInt ≤ 5) ∧ (CI a u') ∧ (KT u u')) := by
  refine Mi.of (own := RX3) rfl (by decide) (Nat.le_of_ble_eq_true rfl) ?_
  have hT : KT u u := KT.rf
  intro p e s m below meth c A Q ls C hret hO hl
  obtain ⟨hx, hb, hml, hown, ht, hK, hA⟩ := id C
  have hl : lv_has ls 7 [(0, .ref (a 39)), (1, .ref (a 3)), (2, .int x2)] := hl
  refine lv_iconst (v := 0) hx hb dX3_caseToAsk_0 (by decide) ?_
  refine lv_istore_n (lv' := [(3, .int 0), (0, .ref (a 39)), (1, .ref (a 3)), (2, .int x2)]) hx hb dX3_caseToAsk_1 rfl hl (by decide) rfl (fun ls hl => ?_)
  refine lv_bipush (v := 32) hx hb dX3_caseToAsk_2 (by decide) ?_
  refine lv_istore (lv' := [(4, .int 32), (3, .int 0), (0, .ref (a 39)), (1, .ref (a 3)), (2, .int x2)]) hx hb dX3_caseToAsk_4 hl (by decide) rfl (fun ls hl => ?_)
  refine lv_iconst (v := 0) hx hb dX3_caseToAsk_6 (by decide) ?_
  refine lv_istore (lv' := [(5, .int 0), (4, .int 32), (3, .int 0), (0, .ref (a 39)), (1, .ref (a 3)), (2, .int x2)]) hx hb dX3_caseToAsk_7 hl (by decide) rfl (fun ls hl => ?_)
  have LP_9_k2 : ∀ (n : Nat) (u1 : St) (H : Heap) (locs : List Loc) (ls : Array Slot) (i_k2 : Int32) (w4_k2 : Int32) (w3_k2 : Int32), Wo D A (cW cy a u1) s.heap H locs → lv_has ls 7 [(5, .int i_k2), (4, .int w4_k2), (3, .int w3_k2), (0, .ref (a 39)), (1, .ref (a 3)), (2, .int x2)] → CI a u1 → KT u u1 → 0 ≤ i_k2.toInt ∧ i_k2.toInt ≤ 6 → 0 ≤ w3_k2.toInt ∧ w3_k2.toInt ≤ 5 → 6 - i_k2.toInt < (n : Int) → W p l e (rmo 4 105) s m [.ref (a 39), .ref (a 3), .int x2].toArray below meth c H locs 0 0 Q (F0 m 9 ls []) := by
    intro n
    induction n with
    | zero =>
      intro u1 H locs ls i_k2 w4_k2 w3_k2 hO hl hJ hT iv0_k2 iv1_k2 hm_k2
      exact absurd hm_k2 (by omega)
    | succ n ih_k2 =>
      intro u1 H locs ls i_k2 w4_k2 w3_k2 hO hl hJ hT iv0_k2 iv1_k2 hm_k2
      refine lv_iload hx hb dX3_caseToAsk_9 (lv_at hl 0 rfl) ?_
      refine lv_aload_n hx hb dX3_caseToAsk_11 rfl (lv_at hl 4 rfl) ?_
      have g3 : 0 ≤ (fI u1 3 12).toInt ∧ (fI u1 3 12).toInt ≤ 6 := by have h := CI_3_12 hJ; exact h
      refine gf_RX3_45 (v := .int (fI u1 3 12)) C hO 3 cW_3 rfl dX3_caseToAsk_12 ?_
      refine cs_ge (tgt := 48) (X := (i_k2).toInt) (Y := ((fI u1 3 12)).toInt) hx hb dX3_caseToAsk_15 (by decide) rfl rfl (fun c4 => ?_) (fun c4 => ?_)
      · refine lv_iload_n hx hb dX3_caseToAsk_48 rfl (lv_at hl 2 rfl) ?_
        refine hret _ _ _ _ _ _ dX3_caseToAsk_49 rfl ?_ hO
        exact ⟨(by first | decide | omega), hJ, hT⟩
      · refine lv_aload_n hx hb dX3_caseToAsk_18 rfl (lv_at hl 3 rfl) ?_
        refine lv_aload_n hx hb dX3_caseToAsk_19 rfl (lv_at hl 4 rfl) ?_
        refine lv_iload hx hb dX3_caseToAsk_20 (lv_at hl 0 rfl) ?_
        refine lv_iload_n hx hb dX3_caseToAsk_22 rfl (lv_at hl 5 rfl) ?_
        refine cVi (w := cW cy a) (As := [.ref (a 3), .int i_k2, .int x2]) (rest := []) C hO (T_X3_mostLeft l D cy a _ (by exact hJ) (i_k2) (x2) (by first | omega | decide)) (cwV 3 ht (gV wd_1307 wd_1308 wd_1309 wd_120 wd_1310) rfl rfl rfl hd_yX3_mostLeft ⟨Nat.le_of_ble_eq_true rfl, Nat.le_of_ble_eq_true rfl⟩) 39 rfl cW_39 rfl rfl hl.1 (Nat.le_of_ble_eq_true rfl) dX3_caseToAsk_23 rfl ⟨Nat.zero_le _, Nat.zero_le _⟩ (fun r5 u6 H locs hp7 hO => ?_)
        obtain ⟨hJ, hTu6⟩ := hp7
        have hT : KT u u6 := KT.tr (by exact hT) hTu6
        refine lv_istore (lv' := [(6, .int r5), (5, .int i_k2), (4, .int w4_k2), (3, .int w3_k2), (0, .ref (a 39)), (1, .ref (a 3)), (2, .int x2)]) hx hb dX3_caseToAsk_26 hl (by decide) rfl (fun ls hl => ?_)
        refine lv_iload hx hb dX3_caseToAsk_28 (lv_at hl 0 rfl) ?_
        refine lv_iload hx hb dX3_caseToAsk_30 (lv_at hl 2 rfl) ?_
        refine cs_ge (tgt := 42) (X := (r5).toInt) (Y := (w4_k2).toInt) hx hb dX3_caseToAsk_32 (by decide) rfl rfl (fun c8 => ?_) (fun c8 => ?_)
        · have e9 : ((i_k2 + 1)).toInt = (i_k2).toInt + 1 := i_add rfl rfl (by omega)
          refine lv_iinc (v := (i_k2 + 1)) (lv' := [(5, .int (i_k2 + 1)), (6, .int r5), (4, .int w4_k2), (3, .int w3_k2), (0, .ref (a 39)), (1, .ref (a 3)), (2, .int x2)]) hx hb dX3_caseToAsk_42 hl (k := 1) rfl rfl (by decide) rfl (fun ls hl => ?_)
          refine lv_goto (tgt := 9) hx hb dX3_caseToAsk_45 (by decide) ?_
          exact ih_k2 _ _ _ _ ((i_k2 + 1)) (w4_k2) (w3_k2) hO (lv_sub hl [0, 2, 3, 4, 5, 6] rfl) (by exact hJ) (by exact hT) (by first | decide | omega) (by first | decide | omega) (by first | decide | omega)
        · refine lv_iload hx hb dX3_caseToAsk_35 (lv_at hl 0 rfl) ?_
          refine lv_istore (lv' := [(4, .int r5), (6, .int r5), (5, .int i_k2), (3, .int w3_k2), (0, .ref (a 39)), (1, .ref (a 3)), (2, .int x2)]) hx hb dX3_caseToAsk_37 hl (by decide) rfl (fun ls hl => ?_)
          refine lv_iload hx hb dX3_caseToAsk_39 (lv_at hl 2 rfl) ?_
          refine lv_istore_n (lv' := [(3, .int i_k2), (4, .int r5), (6, .int r5), (5, .int i_k2), (0, .ref (a 39)), (1, .ref (a 3)), (2, .int x2)]) hx hb dX3_caseToAsk_41 rfl hl (by decide) rfl (fun ls hl => ?_)
          have e10 : ((i_k2 + 1)).toInt = (i_k2).toInt + 1 := i_add rfl rfl (by omega)
          refine lv_iinc (v := (i_k2 + 1)) (lv' := [(5, .int (i_k2 + 1)), (3, .int i_k2), (4, .int r5), (6, .int r5), (0, .ref (a 39)), (1, .ref (a 3)), (2, .int x2)]) hx hb dX3_caseToAsk_42 hl (k := 3) rfl rfl (by decide) rfl (fun ls hl => ?_)
          refine lv_goto (tgt := 9) hx hb dX3_caseToAsk_45 (by decide) ?_
          exact ih_k2 _ _ _ _ ((i_k2 + 1)) (r5) (i_k2) hO (lv_sub hl [0, 2, 1, 4, 5, 6] rfl) (by exact hJ) (by exact hT) (by first | decide | omega) (by first | decide | omega) (by first | decide | omega)
  exact LP_9_k2 4000 _ _ _ _ (0) (32) (0) hO (lv_sub hl [0, 1, 2, 3, 4, 5] rfl) (by exact hJ) (by exact hT) (by first | decide | omega) (by first | decide | omega) (by first | decide | omega)
