set_option maxHeartbeats 4000000 in
set_option maxRecDepth 100000 in
theorem T_X2_canBeHeard_c (l : Launch) (D : va_G) (cy : Nat → ClassId) (a : Nat → Nat) (u : St) (hJ : CI a u) (x1 : Int32)  : Mi l D cy (cW cy a) yX2_canBeHeard (.code yX2_canBeHeard cX2_canBeHeard 2 (some .boolean)) (rmo 2 42) [.ref (a 28), .int x1] u (fun (r : Int32) (u' : St) => (((0 ≤ x1.toInt ∧ x1.toInt ≤ 5) ∧ r = 1) ∨ (True ∧ r = 0)) ∧ (u' = u)) := by
  refine Mi.of (own := RX2) rfl (by decide) (Nat.le_of_ble_eq_true rfl) ?_
  have hT : KT u u := KT.rf
  intro p e s m below meth c A Q ls C hret hO hl
  obtain ⟨hx, hb, hml, hown, ht, hK, hA⟩ := id C
  have hl : lv_has ls 2 [(0, .ref (a 28)), (1, .int x1)] := hl
  refine lv_aload_n hx hb dX2_canBeHeard_0 rfl (lv_at hl 0 rfl) ?_
  refine lv_iload_n hx hb dX2_canBeHeard_1 rfl (lv_at hl 1 rfl) ?_
  refine cVi (w := cW cy a) (As := [.int x1]) (rest := []) C hO (T_X2_isHeld l D cy a _ (by exact hJ) (x1)) (cwV 1 ht (gV wd_929 wd_930 wd_931 wd_115 wd_932) rfl rfl rfl hd_yX2_isHeld ⟨Nat.le_of_ble_eq_true rfl, Nat.le_of_ble_eq_true rfl⟩) 28 rfl cW_28 rfl rfl hl.1 (Nat.le_of_ble_eq_true rfl) dX2_canBeHeard_2 rfl ⟨Nat.zero_le _, Nat.zero_le _⟩ (fun r1 u2 H locs hp3 hO => ?_)
  obtain ⟨hr1, hu2⟩ := hp3
  rw [hu2] at hO
  rcases hr1 with ⟨hcr1, hvr1⟩ | ⟨hcr1, hvr1⟩
  · subst hvr1
    refine bn_eq (X := 1) hx hb dX2_canBeHeard_5 rfl (by omega) ?_ (tgt := 39) (by decide)
    refine lv_aload_n hx hb dX2_canBeHeard_8 rfl (lv_at hl 0 rfl) ?_
    refine gf_RX2_15 (v := .ref (a 3)) C hO 28 cW_28 (congrArg (fun z : Nat => some (Value.ref z)) (CI_R0 hJ)) dX2_canBeHeard_9 ?_
    refine gf_RX2_47 (v := .ref (a 10)) C hO 3 cW_3 rfl dX2_canBeHeard_12 ?_
    refine lv_iload_n hx hb dX2_canBeHeard_15 rfl (lv_at hl 1 rfl) ?_
    refine aI C hO 10 cW_10 (i_in (X := (x1).toInt) rfl (by omega) (by omega)) dX2_canBeHeard_16 ?_
    refine lv_topi (fun w4 ew4 => ?_)
    refine lv_aload_n hx hb dX2_canBeHeard_17 rfl (lv_at hl 0 rfl) ?_
    refine gf_RX2_9 (v := .ref (a 29)) C hO 28 cW_28 rfl dX2_canBeHeard_18 ?_
    refine lv_iconst (v := 0) hx hb dX2_canBeHeard_21 (by decide) ?_
    refine aI C hO 29 cW_29 (i_in (X := 0) rfl (by omega) (by omega)) dX2_canBeHeard_22 ?_
    refine lv_topi (fun w5 ew5 => ?_)
    refine cs_ne (tgt := 39) (X := (w4).toInt) (Y := (w5).toInt) hx hb dX2_canBeHeard_23 (by decide) rfl rfl (fun c6 => ?_) (fun c6 => ?_)
    · refine lv_iconst (v := 0) hx hb dX2_canBeHeard_39 (by decide) ?_
      refine hret _ _ _ _ _ _ dX2_canBeHeard_40 rfl ?_ hO
      exact ⟨Or.inr ⟨trivial, rfl⟩, rfl⟩
    · refine lv_aload_n hx hb dX2_canBeHeard_26 rfl (lv_at hl 0 rfl) ?_
      refine gf_RX2_9 (v := .ref (a 29)) C hO 28 cW_28 rfl dX2_canBeHeard_27 ?_
      refine lv_iconst (v := 2) hx hb dX2_canBeHeard_30 (by decide) ?_
      refine aI C hO 29 cW_29 (i_in (X := 2) rfl (by omega) (by omega)) dX2_canBeHeard_31 ?_
      refine lv_topi (fun w7 ew7 => ?_)
      refine bs_ne (tgt := 39) (X := (w7).toInt) hx hb dX2_canBeHeard_32 (by decide) rfl (fun c8 => ?_) (fun c8 => ?_)
      · refine lv_iconst (v := 0) hx hb dX2_canBeHeard_39 (by decide) ?_
        refine hret _ _ _ _ _ _ dX2_canBeHeard_40 rfl ?_ hO
        exact ⟨Or.inr ⟨trivial, rfl⟩, rfl⟩
      · refine lv_iconst (v := 1) hx hb dX2_canBeHeard_35 (by decide) ?_
        refine lv_goto (tgt := 40) hx hb dX2_canBeHeard_36 (by decide) ?_
        refine hret _ _ _ _ _ _ dX2_canBeHeard_40 rfl ?_ hO
        exact ⟨Or.inl ⟨by omega, rfl⟩, rfl⟩
  · subst hvr1
    refine bt_eq (tgt := 39) (X := 0) hx hb dX2_canBeHeard_5 (by decide) rfl (by omega) ?_
    refine lv_iconst (v := 0) hx hb dX2_canBeHeard_39 (by decide) ?_
    refine hret _ _ _ _ _ _ dX2_canBeHeard_40 rfl ?_ hO
    exact ⟨Or.inr ⟨trivial, rfl⟩, rfl⟩
theorem dX10_feed_0 : decode cX10_feed 0 = .ok (.aload_n 0, 1) := by decide +kernel
theorem dX10_feed_1 : decode cX10_feed 1 = .ok (.getfield 12, 3) := by decide +kernel
theorem dX10_feed_4 : decode cX10_feed 4 = .ok (.getfield 89, 3) := by decide +kernel
theorem dX10_feed_7 : decode cX10_feed 7 = .ok (.bipush 20, 2) := by decide +kernel
theorem dX10_feed_9 : decode cX10_feed 9 = .ok (.iadd, 1) := by decide +kernel
theorem dX10_feed_10 : decode cX10_feed 10 = .ok (.sipush 1600, 3) := by decide +kernel
theorem dX10_feed_13 : decode cX10_feed 13 = .ok (.if_icmp .le 5, 3) := by decide +kernel
theorem dX10_feed_16 : decode cX10_feed 16 = .ok (.iconst (-1), 1) := by decide +kernel
theorem dX10_feed_17 : decode cX10_feed 17 = .ok (.ireturn, 1) := by decide +kernel
theorem dX10_feed_18 : decode cX10_feed 18 = .ok (.aload_n 0, 1) := by decide +kernel
theorem dX10_feed_19 : decode cX10_feed 19 = .ok (.getfield 12, 3) := by decide +kernel
theorem dX10_feed_22 : decode cX10_feed 22 = .ok (.iload_n 1, 1) := by decide +kernel
theorem dX10_feed_23 : decode cX10_feed 23 = .ok (.invokevirtual 93, 3) := by decide +kernel
theorem dX10_feed_26 : decode cX10_feed 26 = .ok (.aload_n 0, 1) := by decide +kernel
theorem dX10_feed_27 : decode cX10_feed 27 = .ok (.getfield 12, 3) := by decide +kernel
theorem dX10_feed_30 : decode cX10_feed 30 = .ok (.iload_n 2, 1) := by decide +kernel
theorem dX10_feed_31 : decode cX10_feed 31 = .ok (.invokevirtual 93, 3) := by decide +kernel
theorem dX10_feed_34 : decode cX10_feed 34 = .ok (.aload_n 0, 1) := by decide +kernel
theorem dX10_feed_35 : decode cX10_feed 35 = .ok (.getfield 12, 3) := by decide +kernel
theorem dX10_feed_38 : decode cX10_feed 38 = .ok (.iload_n 3, 1) := by decide +kernel
theorem dX10_feed_39 : decode cX10_feed 39 = .ok (.invokevirtual 93, 3) := by decide +kernel
theorem dX10_feed_42 : decode cX10_feed 42 = .ok (.aload_n 0, 1) := by decide +kernel
theorem dX10_feed_43 : decode cX10_feed 43 = .ok (.getfield 12, 3) := by decide +kernel
theorem dX10_feed_46 : decode cX10_feed 46 = .ok (.iload 4, 2) := by decide +kernel
theorem dX10_feed_48 : decode cX10_feed 48 = .ok (.invokevirtual 93, 3) := by decide +kernel
theorem dX10_feed_51 : decode cX10_feed 51 = .ok (.aload_n 0, 1) := by decide +kernel
theorem dX10_feed_52 : decode cX10_feed 52 = .ok (.getfield 12, 3) := by decide +kernel
theorem dX10_feed_55 : decode cX10_feed 55 = .ok (.iload 5, 2) := by decide +kernel
theorem dX10_feed_57 : decode cX10_feed 57 = .ok (.invokevirtual 93, 3) := by decide +kernel
theorem dX10_feed_60 : decode cX10_feed 60 = .ok (.aload_n 0, 1) := by decide +kernel
theorem dX10_feed_61 : decode cX10_feed 61 = .ok (.getfield 12, 3) := by decide +kernel
theorem dX10_feed_64 : decode cX10_feed 64 = .ok (.getfield 89, 3) := by decide +kernel
theorem dX10_feed_67 : decode cX10_feed 67 = .ok (.ireturn, 1) := by decide +kernel
theorem wd_511 : (Cond.code ⟨"WebCourt", "feed", "(IIIII)I"⟩ prog_1_method_2_code (6 : Nat) (Option.some FieldType.int)) ∈ gtb := gtb_c2 162 (by decide +kernel) rfl
theorem wd_468 : (Cond.fieldLink "WebCourt" (12 : Nat) "WebCourt" "tape" "LWebCourt$Tape;") ∈ gtb := gtb_c2 119 (by decide +kernel) rfl
theorem wd_481 : (Cond.laysFinal "WebCourt" "WebCourt" "tape" "LWebCourt$Tape;") ∈ gtb := gtb_c2 132 (by decide +kernel) rfl
theorem wd_483 : (Cond.laysFinal "WebCourt" "WebCourt" "reader" "LWebCourt$Reader;") ∈ gtb := gtb_c2 134 (by decide +kernel) rfl
theorem wd_485 : (Cond.laysFinal "WebCourt" "WebCourt" "court" "LWebCourt$Court;") ∈ gtb := gtb_c2 136 (by decide +kernel) rfl
theorem wd_487 : (Cond.laysFinal "WebCourt" "WebCourt" "acts" "LWebCourt$Acts;") ∈ gtb := gtb_c2 138 (by decide +kernel) rfl
theorem wd_489 : (Cond.laysFinal "WebCourt" "WebCourt" "ways" "LWebCourt$Ways;") ∈ gtb := gtb_c2 140 (by decide +kernel) rfl
theorem wd_491 : (Cond.laysFinal "WebCourt" "WebCourt" "rounds" "LWebCourt$Rounds;") ∈ gtb := gtb_c2 142 (by decide +kernel) rfl
theorem wd_493 : (Cond.laysFinal "WebCourt" "WebCourt" "counsel" "LWebCourt$Counsel;") ∈ gtb := gtb_c2 144 (by decide +kernel) rfl
theorem wd_495 : (Cond.laysFinal "WebCourt" "WebCourt" "hearsay" "LWebCourt$Hearsay;") ∈ gtb := gtb_c2 146 (by decide +kernel) rfl
theorem wd_497 : (Cond.laysFinal "WebCourt" "WebCourt" "boxes" "[[I") ∈ gtb := gtb_c2 148 (by decide +kernel) rfl
theorem wd_499 : (Cond.laysFinal "WebCourt" "WebCourt" "lying" "[I") ∈ gtb := gtb_c2 150 (by decide +kernel) rfl
theorem wd_501 : (Cond.lays "WebCourt" "WebCourt" "lyingCount" "I") ∈ gtb := gtb_c2 152 (by decide +kernel) rfl
theorem wd_503 : (Cond.lays "WebCourt" "WebCourt" "boxesKept" "I") ∈ gtb := gtb_c2 154 (by decide +kernel) rfl
theorem wd_505 : (Cond.lays "WebCourt" "WebCourt" "draft" "LWebCourt$Web;") ∈ gtb := gtb_c2 156 (by decide +kernel) rfl
theorem inFX10 : ∀ w ∈ u_ws RX10 TX10 13, w ∈ gtb := by
  show ∀ w ∈ [u_lay RX10 TX10 0, u_lay RX10 TX10 1, u_lay RX10 TX10 2, u_lay RX10 TX10 3, u_lay RX10 TX10 4, u_lay RX10 TX10 5, u_lay RX10 TX10 6, u_lay RX10 TX10 7, u_lay RX10 TX10 8, u_lay RX10 TX10 9, u_lay RX10 TX10 10, u_lay RX10 TX10 11, u_lay RX10 TX10 12], w ∈ gtb
  exact List.forall_mem_cons.mpr ⟨wd_481, List.forall_mem_cons.mpr ⟨wd_483, List.forall_mem_cons.mpr ⟨wd_485, List.forall_mem_cons.mpr ⟨wd_487, List.forall_mem_cons.mpr ⟨wd_489, List.forall_mem_cons.mpr ⟨wd_491, List.forall_mem_cons.mpr ⟨wd_493, List.forall_mem_cons.mpr ⟨wd_495, List.forall_mem_cons.mpr ⟨wd_497, List.forall_mem_cons.mpr ⟨wd_499, List.forall_mem_cons.mpr ⟨wd_501, List.forall_mem_cons.mpr ⟨wd_503, List.forall_mem_cons.mpr ⟨wd_505, fun _ h => absurd h List.not_mem_nil⟩⟩⟩⟩⟩⟩⟩⟩⟩⟩⟩⟩⟩
theorem gf_RX10_12 {p : Program} {l : Launch} {e : Env} {R : Room} {s : State} {m : MethodId} {args : Array Value} {below : List Frame} {meth : Method} {c : Code} {H : Heap} {locs : List Loc} {cells slots : Nat} {Q : State → Prop} {cc : ByteArray} {pc nL : Nat} {ls : Array Slot} {rest : List Value} {D : va_G} {cy : Nat → ClassId} {A : Nat → Prop} {ws : va_W} {b : Nat} {fs : List Value} {v : Value} (C : Cx p s m args c cc nL RX10 D cy A) (hO : Wo D A ws s.heap H locs) (q0 : Nat) (he : ws[q0]? = some (b, .inr (10, fs))) (hv : fs[0]? = some v) (hdg : decode cc pc = .ok (.getfield 12, 3)) (kk : W p l e R s m args below meth c H locs cells slots Q (F0 m (pc + 3) ls (v :: rest))) : W p l e R s m args below meth c H locs cells slots Q (F0 m pc ls (.ref b :: rest)) := gF (k := 0) C hO q0 he rfl inFX10 (by decide) wd_468 rfl hv hdg kk
theorem wd_144 : (Cond.fieldLink "WebCourt" (89 : Nat) "WebCourt$Tape" "length" "I") ∈ gtb := gtb_c1 35 (by decide +kernel) rfl
theorem gf_RX10_89 {p : Program} {l : Launch} {e : Env} {R : Room} {s : State} {m : MethodId} {args : Array Value} {below : List Frame} {meth : Method} {c : Code} {H : Heap} {locs : List Loc} {cells slots : Nat} {Q : State → Prop} {cc : ByteArray} {pc nL : Nat} {ls : Array Slot} {rest : List Value} {D : va_G} {cy : Nat → ClassId} {A : Nat → Prop} {ws : va_W} {b : Nat} {fs : List Value} {v : Value} (C : Cx p s m args c cc nL RX10 D cy A) (hO : Wo D A ws s.heap H locs) (q0 : Nat) (he : ws[q0]? = some (b, .inr (7, fs))) (hv : fs[1]? = some v) (hdg : decode cc pc = .ok (.getfield 89, 3)) (kk : W p l e R s m args below meth c H locs cells slots Q (F0 m (pc + 3) ls (v :: rest))) : W p l e R s m args below meth c H locs cells slots Q (F0 m pc ls (.ref b :: rest)) := gF (k := 1) C hO q0 he rfl inFX7 (by decide) wd_144 rfl hv hdg kk
theorem wd_512 : (Cond.methodLink "WebCourt" (93 : Nat) ⟨"WebCourt$Tape", "put", "(I)V"⟩) ∈ gtb := gtb_c2 163 (by decide +kernel) rfl
theorem wd_513 : (Cond.instanceMethod ⟨"WebCourt$Tape", "put", "(I)V"⟩) ∈ gtb := gtb_c2 164 (by decide +kernel) rfl
theorem wd_514 : (Cond.selects "WebCourt$Tape" ⟨"WebCourt$Tape", "put", "(I)V"⟩ ⟨"WebCourt$Tape", "put", "(I)V"⟩) ∈ gtb := gtb_c2 165 (by decide +kernel) rfl
theorem hd_yX7_put : yX7_put.cls = RX7 ∧ yX7_put.cls ≠ "java/lang/invoke/MethodHandle" ∧ yX7_put.cls ≠ "java/lang/invoke/VarHandle" ∧ (parseMethodDescriptor yX7_put.desc).map (fun d => d.parameters.length) = some 1 := by decide +kernel
set_option maxHeartbeats 4000000 in
set_option maxRecDepth 100000 in
theorem T_X10_feed (l : Launch) (D : va_G) (cy : Nat → ClassId) (a : Nat → Nat) (u : St) (hJ : CI a u) (x1 : Int32) (x2 : Int32) (x3 : Int32) (x4 : Int32) (x5 : Int32)  : Mi l D cy (cW cy a) yX10_feed (.code yX10_feed cX10_feed 6 (some .int)) (rmo 1 22) [.ref (a 0), .int x1, .int x2, .int x3, .int x4, .int x5] u (fun (r : Int32) (u' : St) => (CI a u') ∧ (KT u u')) := by
  refine Mi.of (own := RX10) rfl (by decide) (Nat.le_of_ble_eq_true rfl) ?_
  have hT : KT u u := KT.rf
  intro p e s m below meth c A Q ls C hret hO hl
  obtain ⟨hx, hb, hml, hown, ht, hK, hA⟩ := id C
  have hl : lv_has ls 6 [(0, .ref (a 0)), (1, .int x1), (2, .int x2), (3, .int x3), (4, .int x4), (5, .int x5)] := hl
  refine lv_aload_n hx hb dX10_feed_0 rfl (lv_at hl 0 rfl) ?_
  refine gf_RX10_12 (v := .ref (a 1)) C hO 0 cW_0 rfl dX10_feed_1 ?_
  have g1 : 0 ≤ (fI u 1 1).toInt ∧ (fI u 1 1).toInt ≤ 1600 := by have h := CI_1_1 hJ; exact h
  refine gf_RX10_89 (v := .int (fI u 1 1)) C hO 1 cW_1 rfl dX10_feed_4 ?_
  refine lv_bipush (v := 20) hx hb dX10_feed_7 (by decide) ?_
  have e2 : (((fI u 1 1) + 20)).toInt = ((fI u 1 1)).toInt + 20 := i_add rfl rfl (by omega)
  refine lv_iadd hx hb dX10_feed_9 ?_
  refine lv_sipush (v := 1600) hx hb dX10_feed_10 (by decide) ?_
  refine cs_le (tgt := 18) (X := (((fI u 1 1)).toInt + 20)) (Y := 1600) hx hb dX10_feed_13 (by decide) e2 rfl (fun c3 => ?_) (fun c3 => ?_)
  · refine lv_aload_n hx hb dX10_feed_18 rfl (lv_at hl 0 rfl) ?_
    refine gf_RX10_12 (v := .ref (a 1)) C hO 0 cW_0 rfl dX10_feed_19 ?_
    refine lv_iload_n hx hb dX10_feed_22 rfl (lv_at hl 1 rfl) ?_
    refine cVv (w := cW cy a) (As := [.int x1]) (rest := []) C hO (T_X7_put l D cy a _ (by exact hJ) (x1)) (cwV 1 ht (gV wd_512 wd_513 wd_514 wd_111 wd_515) rfl rfl rfl hd_yX7_put ⟨Nat.le_of_ble_eq_true rfl, Nat.le_of_ble_eq_true rfl⟩) 1 rfl cW_1 rfl rfl hl.1 (Nat.le_of_ble_eq_true rfl) dX10_feed_23 rfl ⟨Nat.zero_le _, Nat.zero_le _⟩ (fun u5 H locs hp6 hO => ?_)
    obtain ⟨hJ, hTu5⟩ := hp6
    have hT : KT u u5 := KT.tr (by exact hT) hTu5
    refine lv_aload_n hx hb dX10_feed_26 rfl (lv_at hl 0 rfl) ?_
    refine gf_RX10_12 (v := .ref (a 1)) C hO 0 cW_0 rfl dX10_feed_27 ?_
    refine lv_iload_n hx hb dX10_feed_30 rfl (lv_at hl 2 rfl) ?_
    refine cVv (w := cW cy a) (As := [.int x2]) (rest := []) C hO (T_X7_put l D cy a _ (by exact hJ) (x2)) (cwV 1 ht (gV wd_512 wd_513 wd_514 wd_111 wd_515) rfl rfl rfl hd_yX7_put ⟨Nat.le_of_ble_eq_true rfl, Nat.le_of_ble_eq_true rfl⟩) 1 rfl cW_1 rfl rfl hl.1 (Nat.le_of_ble_eq_true rfl) dX10_feed_31 rfl ⟨Nat.zero_le _, Nat.zero_le _⟩ (fun u8 H locs hp9 hO => ?_)
    obtain ⟨hJ, hTu8⟩ := hp9
    have hT : KT u u8 := KT.tr (by exact hT) hTu8
    refine lv_aload_n hx hb dX10_feed_34 rfl (lv_at hl 0 rfl) ?_
    refine gf_RX10_12 (v := .ref (a 1)) C hO 0 cW_0 rfl dX10_feed_35 ?_
    refine lv_iload_n hx hb dX10_feed_38 rfl (lv_at hl 3 rfl) ?_
    refine cVv (w := cW cy a) (As := [.int x3]) (rest := []) C hO (T_X7_put l D cy a _ (by exact hJ) (x3)) (cwV 1 ht (gV wd_512 wd_513 wd_514 wd_111 wd_515) rfl rfl rfl hd_yX7_put ⟨Nat.le_of_ble_eq_true rfl, Nat.le_of_ble_eq_true rfl⟩) 1 rfl cW_1 rfl rfl hl.1 (Nat.le_of_ble_eq_true rfl) dX10_feed_39 rfl ⟨Nat.zero_le _, Nat.zero_le _⟩ (fun u11 H locs hp12 hO => ?_)
    obtain ⟨hJ, hTu11⟩ := hp12
    have hT : KT u u11 := KT.tr (by exact hT) hTu11
    refine lv_aload_n hx hb dX10_feed_42 rfl (lv_at hl 0 rfl) ?_
    refine gf_RX10_12 (v := .ref (a 1)) C hO 0 cW_0 rfl dX10_feed_43 ?_
    refine lv_iload hx hb dX10_feed_46 (lv_at hl 4 rfl) ?_
    refine cVv (w := cW cy a) (As := [.int x4]) (rest := []) C hO (T_X7_put l D cy a _ (by exact hJ) (x4)) (cwV 1 ht (gV wd_512 wd_513 wd_514 wd_111 wd_515) rfl rfl rfl hd_yX7_put ⟨Nat.le_of_ble_eq_true rfl, Nat.le_of_ble_eq_true rfl⟩) 1 rfl cW_1 rfl rfl hl.1 (Nat.le_of_ble_eq_true rfl) dX10_feed_48 rfl ⟨Nat.zero_le _, Nat.zero_le _⟩ (fun u14 H locs hp15 hO => ?_)
    obtain ⟨hJ, hTu14⟩ := hp15
    have hT : KT u u14 := KT.tr (by exact hT) hTu14
    refine lv_aload_n hx hb dX10_feed_51 rfl (lv_at hl 0 rfl) ?_
    refine gf_RX10_12 (v := .ref (a 1)) C hO 0 cW_0 rfl dX10_feed_52 ?_
    refine lv_iload hx hb dX10_feed_55 (lv_at hl 5 rfl) ?_
    refine cVv (w := cW cy a) (As := [.int x5]) (rest := []) C hO (T_X7_put l D cy a _ (by exact hJ) (x5)) (cwV 1 ht (gV wd_512 wd_513 wd_514 wd_111 wd_515) rfl rfl rfl hd_yX7_put ⟨Nat.le_of_ble_eq_true rfl, Nat.le_of_ble_eq_true rfl⟩) 1 rfl cW_1 rfl rfl hl.1 (Nat.le_of_ble_eq_true rfl) dX10_feed_57 rfl ⟨Nat.zero_le _, Nat.zero_le _⟩ (fun u17 H locs hp18 hO => ?_)
    obtain ⟨hJ, hTu17⟩ := hp18
    have hT : KT u u17 := KT.tr (by exact hT) hTu17
    refine lv_aload_n hx hb dX10_feed_60 rfl (lv_at hl 0 rfl) ?_
    refine gf_RX10_12 (v := .ref (a 1)) C hO 0 cW_0 rfl dX10_feed_61 ?_
    have g19 : 0 ≤ (fI u17 1 1).toInt ∧ (fI u17 1 1).toInt ≤ 1600 := by have h := CI_1_1 hJ; exact h
    refine gf_RX10_89 (v := .int (fI u17 1 1)) C hO 1 cW_1 rfl dX10_feed_64 ?_
    refine hret _ _ _ _ _ _ dX10_feed_67 rfl ?_ hO
    exact ⟨hJ, hT⟩
  · refine lv_iconst (v := (-1)) hx hb dX10_feed_16 (by decide) ?_
    refine hret _ _ _ _ _ _ dX10_feed_17 rfl ?_ hO
    exact ⟨hJ, hT⟩
theorem dX10_end_0 : decode cX10_end 0 = .ok (.iload_n 1, 1) := by decide +kernel
theorem dX10_end_1 : decode cX10_end 1 = .ok (.ifCond .lt 14, 3) := by decide +kernel
theorem dX10_end_4 : decode cX10_end 4 = .ok (.iload_n 1, 1) := by decide +kernel
theorem dX10_end_5 : decode cX10_end 5 = .ok (.aload_n 0, 1) := by decide +kernel
theorem dX10_end_6 : decode cX10_end 6 = .ok (.getfield 12, 3) := by decide +kernel
theorem dX10_end_9 : decode cX10_end 9 = .ok (.getfield 89, 3) := by decide +kernel
theorem dX10_end_12 : decode cX10_end 12 = .ok (.if_icmp .le 5, 3) := by decide +kernel
theorem dX10_end_15 : decode cX10_end 15 = .ok (.iconst (-1), 1) := by decide +kernel
theorem dX10_end_16 : decode cX10_end 16 = .ok (.ireturn, 1) := by decide +kernel
theorem dX10_end_17 : decode cX10_end 17 = .ok (.aload_n 0, 1) := by decide +kernel
theorem dX10_end_18 : decode cX10_end 18 = .ok (.getfield 12, 3) := by decide +kernel
theorem dX10_end_21 : decode cX10_end 21 = .ok (.iload_n 1, 1) := by decide +kernel
theorem dX10_end_22 : decode cX10_end 22 = .ok (.putfield 89, 3) := by decide +kernel
theorem dX10_end_25 : decode cX10_end 25 = .ok (.iload_n 1, 1) := by decide +kernel
theorem dX10_end_26 : decode cX10_end 26 = .ok (.ireturn, 1) := by decide +kernel
theorem wd_519 : (Cond.code ⟨"WebCourt", "end", "(I)I"⟩ prog_1_method_3_code (2 : Nat) (Option.some FieldType.int)) ∈ gtb := gtb_c2 170 (by decide +kernel) rfl
theorem pf_RX10_89 {p : Program} {l : Launch} {e : Env} {R : Room} {s : State} {m : MethodId} {args : Array Value} {below : List Frame} {meth : Method} {c : Code} {H : Heap} {locs : List Loc} {cells slots : Nat} {Q : State → Prop} {cc : ByteArray} {pc nL : Nat} {ls : Array Slot} {rest : List Value} {D : va_G} {cy : Nat → ClassId} {A : Nat → Prop} {ws : va_W} {b : Nat} {fs : List Value} {v : Int32} {ws' : va_W} (C : Cx p s m args c cc nL RX10 D cy A) (hO : Wo D A ws s.heap H locs) (q0 : Nat) (he : ws[q0]? = some (b, .inr (7, fs))) (hlen : 1 < fs.length) (hw : ws.set q0 (b, .inr (7, fs.set 1 (.int v))) = ws') (hdg : decode cc pc = .ok (.putfield 89, 3)) (kk : ∀ (H : Heap) (locs : List Loc), Wo D A ws' s.heap H locs → W p l e R s m args below meth c H locs cells slots Q (F0 m (pc + 3) ls rest)) : W p l e R s m args below meth c H locs cells slots Q (F0 m pc ls (.int v :: .ref b :: rest)) := pF (k := 1) (ty := .int) C hO q0 he rfl inFX7 (by decide) wd_144 rfl tyX7 tyX7_ok nmX7 rfl (by decide +kernel) rfl rfl hlen hw hdg kk
set_option maxHeartbeats 4000000 in
set_option maxRecDepth 100000 in
theorem T_X10_end (l : Launch) (D : va_G) (cy : Nat → ClassId) (a : Nat → Nat) (u : St) (hJ : CI a u) (x1 : Int32)  : Mi l D cy (cW cy a) yX10_end (.code yX10_end cX10_end 2 (some .int)) (rmo 0 0) [.ref (a 0), .int x1] u (fun (r : Int32) (u' : St) => (CI a u') ∧ (KT u u')) := by
  refine Mi.of (own := RX10) rfl (by decide) (Nat.le_of_ble_eq_true rfl) ?_
  have hT : KT u u := KT.rf
  intro p e s m below meth c A Q ls C hret hO hl
  obtain ⟨hx, hb, hml, hown, ht, hK, hA⟩ := id C
  have hl : lv_has ls 2 [(0, .ref (a 0)), (1, .int x1)] := hl
  refine lv_iload_n hx hb dX10_end_0 rfl (lv_at hl 1 rfl) ?_
  refine bs_lt (tgt := 15) (X := (x1).toInt) hx hb dX10_end_1 (by decide) rfl (fun c1 => ?_) (fun c1 => ?_)
  · refine lv_iconst (v := (-1)) hx hb dX10_end_15 (by decide) ?_
    refine hret _ _ _ _ _ _ dX10_end_16 rfl ?_ hO
    exact ⟨hJ, hT⟩
  · refine lv_iload_n hx hb dX10_end_4 rfl (lv_at hl 1 rfl) ?_
    refine lv_aload_n hx hb dX10_end_5 rfl (lv_at hl 0 rfl) ?_
    refine gf_RX10_12 (v := .ref (a 1)) C hO 0 cW_0 rfl dX10_end_6 ?_
    have g2 : 0 ≤ (fI u 1 1).toInt ∧ (fI u 1 1).toInt ≤ 1600 := by have h := CI_1_1 hJ; exact h
    refine gf_RX10_89 (v := .int (fI u 1 1)) C hO 1 cW_1 rfl dX10_end_9 ?_
    refine cs_le (tgt := 17) (X := (x1).toInt) (Y := ((fI u 1 1)).toInt) hx hb dX10_end_12 (by decide) rfl rfl (fun c3 => ?_) (fun c3 => ?_)
    · refine lv_aload_n hx hb dX10_end_17 rfl (lv_at hl 0 rfl) ?_
      refine gf_RX10_12 (v := .ref (a 1)) C hO 0 cW_0 rfl dX10_end_18 ?_
      refine lv_iload_n hx hb dX10_end_21 rfl (lv_at hl 1 rfl) ?_
      refine pf_RX10_89 C hO 1 cW_1 (Nat.le_of_ble_eq_true rfl) cW_s1_1 dX10_end_22 (fun H locs hO => ?_)
      have hJ := CIs_1_1 (v := x1) hJ (by first | decide | omega)
      refine lv_iload_n hx hb dX10_end_25 rfl (lv_at hl 1 rfl) ?_
      refine hret _ _ _ _ _ _ dX10_end_26 rfl ?_ hO
      exact ⟨hJ, hT⟩
    · refine lv_iconst (v := (-1)) hx hb dX10_end_15 (by decide) ?_
      refine hret _ _ _ _ _ _ dX10_end_16 rfl ?_ hO
      exact ⟨hJ, hT⟩
theorem dX10_fault_0 : decode cX10_fault 0 = .ok (.iload_n 1, 1) := by decide +kernel
theorem dX10_fault_1 : decode cX10_fault 1 = .ok (.ifCond .ne 11, 3) := by decide +kernel
theorem dX10_fault_4 : decode cX10_fault 4 = .ok (.aload_n 0, 1) := by decide +kernel
theorem dX10_fault_5 : decode cX10_fault 5 = .ok (.getfield 28, 3) := by decide +kernel
theorem dX10_fault_8 : decode cX10_fault 8 = .ok (.getfield 120, 3) := by decide +kernel
theorem dX10_fault_11 : decode cX10_fault 11 = .ok (.ireturn, 1) := by decide +kernel
theorem dX10_fault_12 : decode cX10_fault 12 = .ok (.iload_n 1, 1) := by decide +kernel
theorem dX10_fault_13 : decode cX10_fault 13 = .ok (.iconst 1, 1) := by decide +kernel
theorem dX10_fault_14 : decode cX10_fault 14 = .ok (.if_icmp .ne 13, 3) := by decide +kernel
theorem dX10_fault_17 : decode cX10_fault 17 = .ok (.aload_n 0, 1) := by decide +kernel
theorem dX10_fault_18 : decode cX10_fault 18 = .ok (.getfield 28, 3) := by decide +kernel
theorem dX10_fault_21 : decode cX10_fault 21 = .ok (.getfield 123, 3) := by decide +kernel
theorem dX10_fault_24 : decode cX10_fault 24 = .ok (.goto 4, 3) := by decide +kernel
theorem dX10_fault_27 : decode cX10_fault 27 = .ok (.iconst (-1), 1) := by decide +kernel
theorem dX10_fault_28 : decode cX10_fault 28 = .ok (.ireturn, 1) := by decide +kernel
theorem wd_812 : (Cond.code ⟨"WebCourt", "fault", "(I)I"⟩ prog_1_method_5_code (2 : Nat) (Option.some FieldType.int)) ∈ gtb := gtb_c3 223 (by decide +kernel) rfl
theorem wd_469 : (Cond.fieldLink "WebCourt" (28 : Nat) "WebCourt" "reader" "LWebCourt$Reader;") ∈ gtb := gtb_c2 120 (by decide +kernel) rfl
theorem gf_RX10_28 {p : Program} {l : Launch} {e : Env} {R : Room} {s : State} {m : MethodId} {args : Array Value} {below : List Frame} {meth : Method} {c : Code} {H : Heap} {locs : List Loc} {cells slots : Nat} {Q : State → Prop} {cc : ByteArray} {pc nL : Nat} {ls : Array Slot} {rest : List Value} {D : va_G} {cy : Nat → ClassId} {A : Nat → Prop} {ws : va_W} {b : Nat} {fs : List Value} {v : Value} (C : Cx p s m args c cc nL RX10 D cy A) (hO : Wo D A ws s.heap H locs) (q0 : Nat) (he : ws[q0]? = some (b, .inr (10, fs))) (hv : fs[1]? = some v) (hdg : decode cc pc = .ok (.getfield 28, 3)) (kk : W p l e R s m args below meth c H locs cells slots Q (F0 m (pc + 3) ls (v :: rest))) : W p l e R s m args below meth c H locs cells slots Q (F0 m pc ls (.ref b :: rest)) := gF (k := 1) C hO q0 he rfl inFX10 (by decide) wd_469 rfl hv hdg kk
theorem wd_337 : (Cond.fieldLink "WebCourt" (123 : Nat) "WebCourt$Reader" "place" "I") ∈ gtb := gtb_c1 228 (by decide +kernel) rfl
theorem gf_RX10_123 {p : Program} {l : Launch} {e : Env} {R : Room} {s : State} {m : MethodId} {args : Array Value} {below : List Frame} {meth : Method} {c : Code} {H : Heap} {locs : List Loc} {cells slots : Nat} {Q : State → Prop} {cc : ByteArray} {pc nL : Nat} {ls : Array Slot} {rest : List Value} {D : va_G} {cy : Nat → ClassId} {A : Nat → Prop} {ws : va_W} {b : Nat} {fs : List Value} {v : Value} (C : Cx p s m args c cc nL RX10 D cy A) (hO : Wo D A ws s.heap H locs) (q0 : Nat) (he : ws[q0]? = some (b, .inr (5, fs))) (hv : fs[3]? = some v) (hdg : decode cc pc = .ok (.getfield 123, 3)) (kk : W p l e R s m args below meth c H locs cells slots Q (F0 m (pc + 3) ls (v :: rest))) : W p l e R s m args below meth c H locs cells slots Q (F0 m pc ls (.ref b :: rest)) := gF (k := 3) C hO q0 he rfl inFX5 (by decide) wd_337 rfl hv hdg kk
theorem wd_335 : (Cond.fieldLink "WebCourt" (120 : Nat) "WebCourt$Reader" "fault" "I") ∈ gtb := gtb_c1 226 (by decide +kernel) rfl
theorem gf_RX10_120 {p : Program} {l : Launch} {e : Env} {R : Room} {s : State} {m : MethodId} {args : Array Value} {below : List Frame} {meth : Method} {c : Code} {H : Heap} {locs : List Loc} {cells slots : Nat} {Q : State → Prop} {cc : ByteArray} {pc nL : Nat} {ls : Array Slot} {rest : List Value} {D : va_G} {cy : Nat → ClassId} {A : Nat → Prop} {ws : va_W} {b : Nat} {fs : List Value} {v : Value} (C : Cx p s m args c cc nL RX10 D cy A) (hO : Wo D A ws s.heap H locs) (q0 : Nat) (he : ws[q0]? = some (b, .inr (5, fs))) (hv : fs[2]? = some v) (hdg : decode cc pc = .ok (.getfield 120, 3)) (kk : W p l e R s m args below meth c H locs cells slots Q (F0 m (pc + 3) ls (v :: rest))) : W p l e R s m args below meth c H locs cells slots Q (F0 m pc ls (.ref b :: rest)) := gF (k := 2) C hO q0 he rfl inFX5 (by decide) wd_335 rfl hv hdg kk
set_option maxHeartbeats 4000000 in
set_option maxRecDepth 100000 in
theorem T_X10_fault (l : Launch) (D : va_G) (cy : Nat → ClassId) (a : Nat → Nat) (u : St) (hJ : CI a u) (x1 : Int32)  : Mi l D cy (cW cy a) yX10_fault (.code yX10_fault cX10_fault 2 (some .int)) (rmo 0 0) [.ref (a 0), .int x1] u (fun (r : Int32) (u' : St) => u' = u) := by
  refine Mi.of (own := RX10) rfl (by decide) (Nat.le_of_ble_eq_true rfl) ?_
  have hT : KT u u := KT.rf
  intro p e s m below meth c A Q ls C hret hO hl
  obtain ⟨hx, hb, hml, hown, ht, hK, hA⟩ := id C
  have hl : lv_has ls 2 [(0, .ref (a 0)), (1, .int x1)] := hl
  refine lv_iload_n hx hb dX10_fault_0 rfl (lv_at hl 1 rfl) ?_
  refine bs_ne (tgt := 12) (X := (x1).toInt) hx hb dX10_fault_1 (by decide) rfl (fun c1 => ?_) (fun c1 => ?_)
  · refine lv_iload_n hx hb dX10_fault_12 rfl (lv_at hl 1 rfl) ?_
    refine lv_iconst (v := 1) hx hb dX10_fault_13 (by decide) ?_
    refine cs_ne (tgt := 27) (X := (x1).toInt) (Y := 1) hx hb dX10_fault_14 (by decide) rfl rfl (fun c2 => ?_) (fun c2 => ?_)
    · refine lv_iconst (v := (-1)) hx hb dX10_fault_27 (by decide) ?_
      refine hret _ _ _ _ _ _ dX10_fault_28 rfl ?_ hO
      exact rfl
    · refine lv_aload_n hx hb dX10_fault_17 rfl (lv_at hl 0 rfl) ?_
      refine gf_RX10_28 (v := .ref (a 27)) C hO 0 cW_0 rfl dX10_fault_18 ?_
      refine gf_RX10_123 (v := .int (fI u 27 3)) C hO 27 cW_27 rfl dX10_fault_21 ?_
      refine lv_goto (tgt := 28) hx hb dX10_fault_24 (by decide) ?_
      refine hret _ _ _ _ _ _ dX10_fault_28 rfl ?_ hO
      exact rfl
  · refine lv_aload_n hx hb dX10_fault_4 rfl (lv_at hl 0 rfl) ?_
    refine gf_RX10_28 (v := .ref (a 27)) C hO 0 cW_0 rfl dX10_fault_5 ?_
    refine gf_RX10_120 (v := .int (fI u 27 2)) C hO 27 cW_27 rfl dX10_fault_8 ?_
    refine hret _ _ _ _ _ _ dX10_fault_11 rfl ?_ hO
    exact rfl
theorem dX10_knot_0 : decode cX10_knot 0 = .ok (.aload_n 0, 1) := by decide +kernel
theorem dX10_knot_1 : decode cX10_knot 1 = .ok (.getfield 37, 3) := by decide +kernel
theorem dX10_knot_4 : decode cX10_knot 4 = .ok (.iload_n 1, 1) := by decide +kernel
theorem dX10_knot_5 : decode cX10_knot 5 = .ok (.invokevirtual 126, 3) := by decide +kernel
theorem dX10_knot_8 : decode cX10_knot 8 = .ok (.ifCond .ne 5, 3) := by decide +kernel
theorem dX10_knot_11 : decode cX10_knot 11 = .ok (.iconst (-1), 1) := by decide +kernel
theorem dX10_knot_12 : decode cX10_knot 12 = .ok (.ireturn, 1) := by decide +kernel
theorem dX10_knot_13 : decode cX10_knot 13 = .ok (.iload_n 2, 1) := by decide +kernel
theorem dX10_knot_14 : decode cX10_knot 14 = .ok (.tableswitch 55 0 2 #[26, 36, 46], 26) := by decide +kernel
theorem dX10_knot_40 : decode cX10_knot 40 = .ok (.aload_n 0, 1) := by decide +kernel
theorem dX10_knot_41 : decode cX10_knot 41 = .ok (.getfield 37, 3) := by decide +kernel
theorem dX10_knot_44 : decode cX10_knot 44 = .ok (.iload_n 1, 1) := by decide +kernel
theorem dX10_knot_45 : decode cX10_knot 45 = .ok (.iconst 0, 1) := by decide +kernel
theorem dX10_knot_46 : decode cX10_knot 46 = .ok (.invokevirtual 130, 3) := by decide +kernel
theorem dX10_knot_49 : decode cX10_knot 49 = .ok (.ireturn, 1) := by decide +kernel
theorem dX10_knot_50 : decode cX10_knot 50 = .ok (.aload_n 0, 1) := by decide +kernel
theorem dX10_knot_51 : decode cX10_knot 51 = .ok (.getfield 37, 3) := by decide +kernel
theorem dX10_knot_54 : decode cX10_knot 54 = .ok (.iload_n 1, 1) := by decide +kernel
theorem dX10_knot_55 : decode cX10_knot 55 = .ok (.iconst 1, 1) := by decide +kernel
theorem dX10_knot_56 : decode cX10_knot 56 = .ok (.invokevirtual 130, 3) := by decide +kernel
theorem dX10_knot_59 : decode cX10_knot 59 = .ok (.ireturn, 1) := by decide +kernel
theorem dX10_knot_60 : decode cX10_knot 60 = .ok (.aload_n 0, 1) := by decide +kernel
theorem dX10_knot_61 : decode cX10_knot 61 = .ok (.getfield 37, 3) := by decide +kernel
theorem dX10_knot_64 : decode cX10_knot 64 = .ok (.iload_n 1, 1) := by decide +kernel
theorem dX10_knot_65 : decode cX10_knot 65 = .ok (.invokevirtual 134, 3) := by decide +kernel
theorem dX10_knot_68 : decode cX10_knot 68 = .ok (.ireturn, 1) := by decide +kernel
theorem dX10_knot_69 : decode cX10_knot 69 = .ok (.iconst (-1), 1) := by decide +kernel
theorem dX10_knot_70 : decode cX10_knot 70 = .ok (.ireturn, 1) := by decide +kernel
theorem wd_816 : (Cond.code ⟨"WebCourt", "knot", "(II)I"⟩ prog_1_method_6_code (3 : Nat) (Option.some FieldType.int)) ∈ gtb := gtb_c3 227 (by decide +kernel) rfl
theorem wd_470 : (Cond.fieldLink "WebCourt" (37 : Nat) "WebCourt" "court" "LWebCourt$Court;") ∈ gtb := gtb_c2 121 (by decide +kernel) rfl
theorem gf_RX10_37 {p : Program} {l : Launch} {e : Env} {R : Room} {s : State} {m : MethodId} {args : Array Value} {below : List Frame} {meth : Method} {c : Code} {H : Heap} {locs : List Loc} {cells slots : Nat} {Q : State → Prop} {cc : ByteArray} {pc nL : Nat} {ls : Array Slot} {rest : List Value} {D : va_G} {cy : Nat → ClassId} {A : Nat → Prop} {ws : va_W} {b : Nat} {fs : List Value} {v : Value} (C : Cx p s m args c cc nL RX10 D cy A) (hO : Wo D A ws s.heap H locs) (q0 : Nat) (he : ws[q0]? = some (b, .inr (10, fs))) (hv : fs[2]? = some v) (hdg : decode cc pc = .ok (.getfield 37, 3)) (kk : W p l e R s m args below meth c H locs cells slots Q (F0 m (pc + 3) ls (v :: rest))) : W p l e R s m args below meth c H locs cells slots Q (F0 m pc ls (.ref b :: rest)) := gF (k := 2) C hO q0 he rfl inFX10 (by decide) wd_470 rfl hv hdg kk
theorem wd_817 : (Cond.methodLink "WebCourt" (126 : Nat) ⟨"WebCourt$Court", "hasKnot", "(I)Z"⟩) ∈ gtb := gtb_c3 228 (by decide +kernel) rfl
theorem wd_821 : (Cond.methodLink "WebCourt" (130 : Nat) ⟨"WebCourt$Court", "nextTo", "(IZ)I"⟩) ∈ gtb := gtb_c3 232 (by decide +kernel) rfl
theorem wd_825 : (Cond.methodLink "WebCourt" (134 : Nat) ⟨"WebCourt$Court", "heldAt", "(I)I"⟩) ∈ gtb := gtb_c3 236 (by decide +kernel) rfl
theorem wd_826 : (Cond.instanceMethod ⟨"WebCourt$Court", "heldAt", "(I)I"⟩) ∈ gtb := gtb_c3 237 (by decide +kernel) rfl
theorem wd_827 : (Cond.selects "WebCourt$Court" ⟨"WebCourt$Court", "heldAt", "(I)I"⟩ ⟨"WebCourt$Court", "heldAt", "(I)I"⟩) ∈ gtb := gtb_c3 238 (by decide +kernel) rfl
theorem hd_yX2_heldAt : yX2_heldAt.cls = RX2 ∧ yX2_heldAt.cls ≠ "java/lang/invoke/MethodHandle" ∧ yX2_heldAt.cls ≠ "java/lang/invoke/VarHandle" ∧ (parseMethodDescriptor yX2_heldAt.desc).map (fun d => d.parameters.length) = some 1 := by decide +kernel
set_option maxHeartbeats 4000000 in
set_option maxRecDepth 100000 in
theorem T_X10_knot (l : Launch) (D : va_G) (cy : Nat → ClassId) (a : Nat → Nat) (u : St) (hJ : CI a u) (x1 : Int32) (x2 : Int32)  : Mi l D cy (cW cy a) yX10_knot (.code yX10_knot cX10_knot 3 (some .int)) (rmo 1 25) [.ref (a 0), .int x1, .int x2] u (fun (r : Int32) (u' : St) => u' = u) := by
  refine Mi.of (own := RX10) rfl (by decide) (Nat.le_of_ble_eq_true rfl) ?_
  have hT : KT u u := KT.rf
  intro p e s m below meth c A Q ls C hret hO hl
  obtain ⟨hx, hb, hml, hown, ht, hK, hA⟩ := id C
  have hl : lv_has ls 3 [(0, .ref (a 0)), (1, .int x1), (2, .int x2)] := hl
  refine lv_aload_n hx hb dX10_knot_0 rfl (lv_at hl 0 rfl) ?_
  refine gf_RX10_37 (v := .ref (a 28)) C hO 0 cW_0 rfl dX10_knot_1 ?_
  refine lv_iload_n hx hb dX10_knot_4 rfl (lv_at hl 1 rfl) ?_
  refine cVi (w := cW cy a) (As := [.int x1]) (rest := []) C hO (T_X2_hasKnot l D cy a _ (by exact hJ) (x1)) (cwV 1 ht (gV wd_817 wd_818 wd_819 wd_115 wd_820) rfl rfl rfl hd_yX2_hasKnot ⟨Nat.le_of_ble_eq_true rfl, Nat.le_of_ble_eq_true rfl⟩) 28 rfl cW_28 rfl rfl hl.1 (Nat.le_of_ble_eq_true rfl) dX10_knot_5 rfl ⟨Nat.zero_le _, Nat.zero_le _⟩ (fun r1 u2 H locs hp3 hO => ?_)
  obtain ⟨hr1, hu2⟩ := hp3
  rw [hu2] at hO
  rcases hr1 with ⟨hcr1, hvr1⟩ | ⟨hcr1, hvr1⟩
  · subst hvr1
    refine bt_ne (tgt := 13) (X := 1) hx hb dX10_knot_8 (by decide) rfl (by omega) ?_
    refine lv_iload_n hx hb dX10_knot_13 rfl (lv_at hl 2 rfl) ?_
    have c4 : ((x2).toInt < 0 ∨ 2 < (x2).toInt) ∨ (x2).toInt = 0 ∨ (x2).toInt = 1 ∨ (x2).toInt = 2 := by omega
    rcases c4 with c4 | c4 | c4 | c4
    · refine lv_tableOut (tgt := 69) hx hb dX10_knot_14 (by rw [show x2.toInt = (x2).toInt from rfl]; exact c4) (by decide) ?_
      refine lv_iconst (v := (-1)) hx hb dX10_knot_69 (by decide) ?_
      refine hret _ _ _ _ _ _ dX10_knot_70 rfl ?_ hO
      exact rfl
    · refine lv_tableIn (tgt := 40) hx hb dX10_knot_14 (by rw [c4]; decide) (by rw [c4]; decide) (by rw [c4]; rfl) (by decide) ?_
      refine lv_aload_n hx hb dX10_knot_40 rfl (lv_at hl 0 rfl) ?_
      refine gf_RX10_37 (v := .ref (a 28)) C hO 0 cW_0 rfl dX10_knot_41 ?_
      refine lv_iload_n hx hb dX10_knot_44 rfl (lv_at hl 1 rfl) ?_
      refine lv_iconst (v := 0) hx hb dX10_knot_45 (by decide) ?_
      refine cVi (w := cW cy a) (As := [.int x1, .int 0]) (rest := []) C hO (T_X2_nextTo l D cy a _ (by exact hJ) (x1) (0)) (cwV 2 ht (gV wd_821 wd_822 wd_823 wd_115 wd_824) rfl rfl rfl hd_yX2_nextTo ⟨Nat.le_of_ble_eq_true rfl, Nat.le_of_ble_eq_true rfl⟩) 28 rfl cW_28 rfl rfl hl.1 (Nat.le_of_ble_eq_true rfl) dX10_knot_46 rfl ⟨Nat.zero_le _, Nat.zero_le _⟩ (fun r5 u6 H locs hp7 hO => ?_)
      have hu6 := hp7
      rw [hu6] at hO
      refine hret _ _ _ _ _ _ dX10_knot_49 rfl ?_ hO
      exact rfl
    · refine lv_tableIn (tgt := 50) hx hb dX10_knot_14 (by rw [c4]; decide) (by rw [c4]; decide) (by rw [c4]; rfl) (by decide) ?_
      refine lv_aload_n hx hb dX10_knot_50 rfl (lv_at hl 0 rfl) ?_
      refine gf_RX10_37 (v := .ref (a 28)) C hO 0 cW_0 rfl dX10_knot_51 ?_
      refine lv_iload_n hx hb dX10_knot_54 rfl (lv_at hl 1 rfl) ?_
      refine lv_iconst (v := 1) hx hb dX10_knot_55 (by decide) ?_
      refine cVi (w := cW cy a) (As := [.int x1, .int 1]) (rest := []) C hO (T_X2_nextTo l D cy a _ (by exact hJ) (x1) (1)) (cwV 2 ht (gV wd_821 wd_822 wd_823 wd_115 wd_824) rfl rfl rfl hd_yX2_nextTo ⟨Nat.le_of_ble_eq_true rfl, Nat.le_of_ble_eq_true rfl⟩) 28 rfl cW_28 rfl rfl hl.1 (Nat.le_of_ble_eq_true rfl) dX10_knot_56 rfl ⟨Nat.zero_le _, Nat.zero_le _⟩ (fun r8 u9 H locs hp10 hO => ?_)
      have hu9 := hp10
      rw [hu9] at hO
      refine hret _ _ _ _ _ _ dX10_knot_59 rfl ?_ hO
      exact rfl
    · refine lv_tableIn (tgt := 60) hx hb dX10_knot_14 (by rw [c4]; decide) (by rw [c4]; decide) (by rw [c4]; rfl) (by decide) ?_
      refine lv_aload_n hx hb dX10_knot_60 rfl (lv_at hl 0 rfl) ?_
      refine gf_RX10_37 (v := .ref (a 28)) C hO 0 cW_0 rfl dX10_knot_61 ?_
      refine lv_iload_n hx hb dX10_knot_64 rfl (lv_at hl 1 rfl) ?_
      refine cVi (w := cW cy a) (As := [.int x1]) (rest := []) C hO (T_X2_heldAt l D cy a _ (by exact hJ) (x1)) (cwV 1 ht (gV wd_825 wd_826 wd_827 wd_115 wd_828) rfl rfl rfl hd_yX2_heldAt ⟨Nat.le_of_ble_eq_true rfl, Nat.le_of_ble_eq_true rfl⟩) 28 rfl cW_28 rfl rfl hl.1 (Nat.le_of_ble_eq_true rfl) dX10_knot_65 rfl ⟨Nat.zero_le _, Nat.zero_le _⟩ (fun r11 u12 H locs hp13 hO => ?_)
      have hu12 := hp13
      rw [hu12] at hO
      refine hret _ _ _ _ _ _ dX10_knot_68 rfl ?_ hO
      exact rfl
  · subst hvr1
    refine bn_ne (X := 0) hx hb dX10_knot_8 rfl (by omega) ?_ (tgt := 13) (by decide)
    refine lv_iconst (v := (-1)) hx hb dX10_knot_11 (by decide) ?_
    refine hret _ _ _ _ _ _ dX10_knot_12 rfl ?_ hO
    exact rfl
theorem dX10_plea_0 : decode cX10_plea 0 = .ok (.aload_n 0, 1) := by decide +kernel
theorem dX10_plea_1 : decode cX10_plea 1 = .ok (.getfield 37, 3) := by decide +kernel
theorem dX10_plea_4 : decode cX10_plea 4 = .ok (.iload_n 1, 1) := by decide +kernel
theorem dX10_plea_5 : decode cX10_plea 5 = .ok (.invokevirtual 138, 3) := by decide +kernel
theorem dX10_plea_8 : decode cX10_plea 8 = .ok (.ifCond .eq 18, 3) := by decide +kernel
theorem dX10_plea_11 : decode cX10_plea 11 = .ok (.aload_n 0, 1) := by decide +kernel
theorem dX10_plea_12 : decode cX10_plea 12 = .ok (.getfield 37, 3) := by decide +kernel
theorem dX10_plea_15 : decode cX10_plea 15 = .ok (.getfield 101, 3) := by decide +kernel
theorem dX10_plea_18 : decode cX10_plea 18 = .ok (.getfield 141, 3) := by decide +kernel
theorem dX10_plea_21 : decode cX10_plea 21 = .ok (.iload_n 1, 1) := by decide +kernel
theorem dX10_plea_22 : decode cX10_plea 22 = .ok (.iaload, 1) := by decide +kernel
theorem dX10_plea_23 : decode cX10_plea 23 = .ok (.goto 4, 3) := by decide +kernel
theorem dX10_plea_26 : decode cX10_plea 26 = .ok (.iconst (-1), 1) := by decide +kernel
theorem dX10_plea_27 : decode cX10_plea 27 = .ok (.ireturn, 1) := by decide +kernel
theorem wd_832 : (Cond.code ⟨"WebCourt", "plea", "(I)I"⟩ prog_1_method_7_code (2 : Nat) (Option.some FieldType.int)) ∈ gtb := gtb_c4 3 (by decide +kernel) rfl
theorem wd_833 : (Cond.methodLink "WebCourt" (138 : Nat) ⟨"WebCourt$Court", "hasPlea", "(I)Z"⟩) ∈ gtb := gtb_c4 4 (by decide +kernel) rfl
theorem wd_834 : (Cond.instanceMethod ⟨"WebCourt$Court", "hasPlea", "(I)Z"⟩) ∈ gtb := gtb_c4 5 (by decide +kernel) rfl
theorem wd_835 : (Cond.selects "WebCourt$Court" ⟨"WebCourt$Court", "hasPlea", "(I)Z"⟩ ⟨"WebCourt$Court", "hasPlea", "(I)Z"⟩) ∈ gtb := gtb_c4 6 (by decide +kernel) rfl
theorem hd_yX2_hasPlea : yX2_hasPlea.cls = RX2 ∧ yX2_hasPlea.cls ≠ "java/lang/invoke/MethodHandle" ∧ yX2_hasPlea.cls ≠ "java/lang/invoke/VarHandle" ∧ (parseMethodDescriptor yX2_hasPlea.desc).map (fun d => d.parameters.length) = some 1 := by decide +kernel
theorem wd_361 : (Cond.fieldLink "WebCourt" (101 : Nat) "WebCourt$Court" "web" "LWebCourt$Web;") ∈ gtb := gtb_c2 12 (by decide +kernel) rfl
theorem gf_RX10_101 {p : Program} {l : Launch} {e : Env} {R : Room} {s : State} {m : MethodId} {args : Array Value} {below : List Frame} {meth : Method} {c : Code} {H : Heap} {locs : List Loc} {cells slots : Nat} {Q : State → Prop} {cc : ByteArray} {pc nL : Nat} {ls : Array Slot} {rest : List Value} {D : va_G} {cy : Nat → ClassId} {A : Nat → Prop} {ws : va_W} {b : Nat} {fs : List Value} {v : Value} (C : Cx p s m args c cc nL RX10 D cy A) (hO : Wo D A ws s.heap H locs) (q0 : Nat) (he : ws[q0]? = some (b, .inr (2, fs))) (hv : fs[1]? = some v) (hdg : decode cc pc = .ok (.getfield 101, 3)) (kk : W p l e R s m args below meth c H locs cells slots Q (F0 m (pc + 3) ls (v :: rest))) : W p l e R s m args below meth c H locs cells slots Q (F0 m pc ls (.ref b :: rest)) := gF (k := 1) C hO q0 he rfl inFX2 (by decide) wd_361 rfl hv hdg kk
theorem wd_236 : (Cond.fieldLink "WebCourt" (141 : Nat) "WebCourt$Web" "strong" "[I") ∈ gtb := gtb_c1 127 (by decide +kernel) rfl
theorem gf_RX10_141 {p : Program} {l : Launch} {e : Env} {R : Room} {s : State} {m : MethodId} {args : Array Value} {below : List Frame} {meth : Method} {c : Code} {H : Heap} {locs : List Loc} {cells slots : Nat} {Q : State → Prop} {cc : ByteArray} {pc nL : Nat} {ls : Array Slot} {rest : List Value} {D : va_G} {cy : Nat → ClassId} {A : Nat → Prop} {ws : va_W} {b : Nat} {fs : List Value} {v : Value} (C : Cx p s m args c cc nL RX10 D cy A) (hO : Wo D A ws s.heap H locs) (q0 : Nat) (he : ws[q0]? = some (b, .inr (9, fs))) (hv : fs[5]? = some v) (hdg : decode cc pc = .ok (.getfield 141, 3)) (kk : W p l e R s m args below meth c H locs cells slots Q (F0 m (pc + 3) ls (v :: rest))) : W p l e R s m args below meth c H locs cells slots Q (F0 m pc ls (.ref b :: rest)) := gF (k := 5) C hO q0 he rfl inFX9 (by decide) wd_236 rfl hv hdg kk
set_option maxHeartbeats 4000000 in
set_option maxRecDepth 100000 in
theorem T_X10_plea (l : Launch) (D : va_G) (cy : Nat → ClassId) (a : Nat → Nat) (u : St) (hJ : CI a u) (x1 : Int32)  : Mi l D cy (cW cy a) yX10_plea (.code yX10_plea cX10_plea 2 (some .int)) (rmo 1 21) [.ref (a 0), .int x1] u (fun (r : Int32) (u' : St) => u' = u) := by
  refine Mi.of (own := RX10) rfl (by decide) (Nat.le_of_ble_eq_true rfl) ?_
  have hT : KT u u := KT.rf
  intro p e s m below meth c A Q ls C hret hO hl
  obtain ⟨hx, hb, hml, hown, ht, hK, hA⟩ := id C
  have hl : lv_has ls 2 [(0, .ref (a 0)), (1, .int x1)] := hl
  refine lv_aload_n hx hb dX10_plea_0 rfl (lv_at hl 0 rfl) ?_
  refine gf_RX10_37 (v := .ref (a 28)) C hO 0 cW_0 rfl dX10_plea_1 ?_
  refine lv_iload_n hx hb dX10_plea_4 rfl (lv_at hl 1 rfl) ?_
  refine cVi (w := cW cy a) (As := [.int x1]) (rest := []) C hO (T_X2_hasPlea l D cy a _ (by exact hJ) (x1)) (cwV 1 ht (gV wd_833 wd_834 wd_835 wd_115 wd_836) rfl rfl rfl hd_yX2_hasPlea ⟨Nat.le_of_ble_eq_true rfl, Nat.le_of_ble_eq_true rfl⟩) 28 rfl cW_28 rfl rfl hl.1 (Nat.le_of_ble_eq_true rfl) dX10_plea_5 rfl ⟨Nat.zero_le _, Nat.zero_le _⟩ (fun r1 u2 H locs hp3 hO => ?_)
  obtain ⟨hr1, hu2⟩ := hp3
  rw [hu2] at hO
  rcases hr1 with ⟨hcr1, hvr1⟩ | ⟨hcr1, hvr1⟩
  · subst hvr1
    refine bn_eq (X := 1) hx hb dX10_plea_8 rfl (by omega) ?_ (tgt := 26) (by decide)
    refine lv_aload_n hx hb dX10_plea_11 rfl (lv_at hl 0 rfl) ?_
    refine gf_RX10_37 (v := .ref (a 28)) C hO 0 cW_0 rfl dX10_plea_12 ?_
    refine gf_RX10_101 (v := .ref (a 3)) C hO 28 cW_28 (congrArg (fun z : Nat => some (Value.ref z)) (CI_R0 hJ)) dX10_plea_15 ?_
    refine gf_RX10_141 (v := .ref (a 9)) C hO 3 cW_3 rfl dX10_plea_18 ?_
    refine lv_iload_n hx hb dX10_plea_21 rfl (lv_at hl 1 rfl) ?_
    refine aI C hO 9 cW_9 (i_in (X := (x1).toInt) rfl (by omega) (by omega)) dX10_plea_22 ?_
    refine lv_topi (fun w4 ew4 => ?_)
    refine lv_goto (tgt := 27) hx hb dX10_plea_23 (by decide) ?_
    refine hret _ _ _ _ _ _ dX10_plea_27 rfl ?_ hO
    exact rfl
  · subst hvr1
    refine bt_eq (tgt := 26) (X := 0) hx hb dX10_plea_8 (by decide) rfl (by omega) ?_
    refine lv_iconst (v := (-1)) hx hb dX10_plea_26 (by decide) ?_
    refine hret _ _ _ _ _ _ dX10_plea_27 rfl ?_ hO
    exact rfl
theorem dX10_item_0 : decode cX10_item 0 = .ok (.aload_n 0, 1) := by decide +kernel
theorem dX10_item_1 : decode cX10_item 1 = .ok (.getfield 37, 3) := by decide +kernel
theorem dX10_item_4 : decode cX10_item 4 = .ok (.iload_n 1, 1) := by decide +kernel
theorem dX10_item_5 : decode cX10_item 5 = .ok (.invokevirtual 144, 3) := by decide +kernel
theorem dX10_item_8 : decode cX10_item 8 = .ok (.ifCond .ne 5, 3) := by decide +kernel
theorem dX10_item_11 : decode cX10_item 11 = .ok (.iconst (-1), 1) := by decide +kernel
theorem dX10_item_12 : decode cX10_item 12 = .ok (.ireturn, 1) := by decide +kernel
theorem dX10_item_13 : decode cX10_item 13 = .ok (.iload_n 2, 1) := by decide +kernel
theorem dX10_item_14 : decode cX10_item 14 = .ok (.tableswitch 115 0 5 #[38, 51, 63, 76, 89, 102], 38) := by decide +kernel
theorem dX10_item_52 : decode cX10_item 52 = .ok (.aload_n 0, 1) := by decide +kernel
theorem dX10_item_53 : decode cX10_item 53 = .ok (.getfield 37, 3) := by decide +kernel
theorem dX10_item_56 : decode cX10_item 56 = .ok (.getfield 101, 3) := by decide +kernel
theorem dX10_item_59 : decode cX10_item 59 = .ok (.getfield 147, 3) := by decide +kernel
theorem dX10_item_62 : decode cX10_item 62 = .ok (.iload_n 1, 1) := by decide +kernel
theorem dX10_item_63 : decode cX10_item 63 = .ok (.iaload, 1) := by decide +kernel
theorem dX10_item_64 : decode cX10_item 64 = .ok (.ireturn, 1) := by decide +kernel
theorem dX10_item_65 : decode cX10_item 65 = .ok (.aload_n 0, 1) := by decide +kernel
theorem dX10_item_66 : decode cX10_item 66 = .ok (.getfield 37, 3) := by decide +kernel
theorem dX10_item_69 : decode cX10_item 69 = .ok (.getfield 150, 3) := by decide +kernel
theorem dX10_item_72 : decode cX10_item 72 = .ok (.iconst 5, 1) := by decide +kernel
theorem dX10_item_73 : decode cX10_item 73 = .ok (.iload_n 1, 1) := by decide +kernel
theorem dX10_item_74 : decode cX10_item 74 = .ok (.iadd, 1) := by decide +kernel
theorem dX10_item_75 : decode cX10_item 75 = .ok (.iaload, 1) := by decide +kernel
theorem dX10_item_76 : decode cX10_item 76 = .ok (.ireturn, 1) := by decide +kernel
theorem dX10_item_77 : decode cX10_item 77 = .ok (.aload_n 0, 1) := by decide +kernel
theorem dX10_item_78 : decode cX10_item 78 = .ok (.getfield 37, 3) := by decide +kernel
theorem dX10_item_81 : decode cX10_item 81 = .ok (.getfield 150, 3) := by decide +kernel
theorem dX10_item_84 : decode cX10_item 84 = .ok (.bipush 11, 2) := by decide +kernel
theorem dX10_item_86 : decode cX10_item 86 = .ok (.iload_n 1, 1) := by decide +kernel
theorem dX10_item_87 : decode cX10_item 87 = .ok (.iadd, 1) := by decide +kernel
theorem dX10_item_88 : decode cX10_item 88 = .ok (.iaload, 1) := by decide +kernel
theorem dX10_item_89 : decode cX10_item 89 = .ok (.ireturn, 1) := by decide +kernel
theorem dX10_item_90 : decode cX10_item 90 = .ok (.aload_n 0, 1) := by decide +kernel
theorem dX10_item_91 : decode cX10_item 91 = .ok (.getfield 37, 3) := by decide +kernel
theorem dX10_item_94 : decode cX10_item 94 = .ok (.getfield 101, 3) := by decide +kernel
theorem dX10_item_97 : decode cX10_item 97 = .ok (.getfield 153, 3) := by decide +kernel
theorem dX10_item_100 : decode cX10_item 100 = .ok (.iload_n 1, 1) := by decide +kernel
theorem dX10_item_101 : decode cX10_item 101 = .ok (.iaload, 1) := by decide +kernel
theorem dX10_item_102 : decode cX10_item 102 = .ok (.ireturn, 1) := by decide +kernel
theorem dX10_item_103 : decode cX10_item 103 = .ok (.aload_n 0, 1) := by decide +kernel
theorem dX10_item_104 : decode cX10_item 104 = .ok (.getfield 37, 3) := by decide +kernel
theorem dX10_item_107 : decode cX10_item 107 = .ok (.getfield 150, 3) := by decide +kernel
theorem dX10_item_110 : decode cX10_item 110 = .ok (.bipush 17, 2) := by decide +kernel
theorem dX10_item_112 : decode cX10_item 112 = .ok (.iload_n 1, 1) := by decide +kernel
theorem dX10_item_113 : decode cX10_item 113 = .ok (.iadd, 1) := by decide +kernel
theorem dX10_item_114 : decode cX10_item 114 = .ok (.iaload, 1) := by decide +kernel
theorem dX10_item_115 : decode cX10_item 115 = .ok (.ireturn, 1) := by decide +kernel
theorem dX10_item_116 : decode cX10_item 116 = .ok (.aload_n 0, 1) := by decide +kernel
theorem dX10_item_117 : decode cX10_item 117 = .ok (.getfield 37, 3) := by decide +kernel
theorem dX10_item_120 : decode cX10_item 120 = .ok (.getfield 150, 3) := by decide +kernel
theorem dX10_item_123 : decode cX10_item 123 = .ok (.bipush 23, 2) := by decide +kernel
theorem dX10_item_125 : decode cX10_item 125 = .ok (.iload_n 1, 1) := by decide +kernel
theorem dX10_item_126 : decode cX10_item 126 = .ok (.iadd, 1) := by decide +kernel
theorem dX10_item_127 : decode cX10_item 127 = .ok (.iaload, 1) := by decide +kernel
theorem dX10_item_128 : decode cX10_item 128 = .ok (.ireturn, 1) := by decide +kernel
theorem dX10_item_129 : decode cX10_item 129 = .ok (.iconst (-1), 1) := by decide +kernel
theorem dX10_item_130 : decode cX10_item 130 = .ok (.ireturn, 1) := by decide +kernel
theorem wd_840 : (Cond.code ⟨"WebCourt", "item", "(II)I"⟩ prog_1_method_8_code (3 : Nat) (Option.some FieldType.int)) ∈ gtb := gtb_c4 11 (by decide +kernel) rfl
theorem wd_841 : (Cond.methodLink "WebCourt" (144 : Nat) ⟨"WebCourt$Court", "hasCase", "(I)Z"⟩) ∈ gtb := gtb_c4 12 (by decide +kernel) rfl
theorem wd_240 : (Cond.fieldLink "WebCourt" (147 : Nat) "WebCourt$Web" "caseKnots" "[I") ∈ gtb := gtb_c1 131 (by decide +kernel) rfl
theorem gf_RX10_147 {p : Program} {l : Launch} {e : Env} {R : Room} {s : State} {m : MethodId} {args : Array Value} {below : List Frame} {meth : Method} {c : Code} {H : Heap} {locs : List Loc} {cells slots : Nat} {Q : State → Prop} {cc : ByteArray} {pc nL : Nat} {ls : Array Slot} {rest : List Value} {D : va_G} {cy : Nat → ClassId} {A : Nat → Prop} {ws : va_W} {b : Nat} {fs : List Value} {v : Value} (C : Cx p s m args c cc nL RX10 D cy A) (hO : Wo D A ws s.heap H locs) (q0 : Nat) (he : ws[q0]? = some (b, .inr (9, fs))) (hv : fs[6]? = some v) (hdg : decode cc pc = .ok (.getfield 147, 3)) (kk : W p l e R s m args below meth c H locs cells slots Q (F0 m (pc + 3) ls (v :: rest))) : W p l e R s m args below meth c H locs cells slots Q (F0 m pc ls (.ref b :: rest)) := gF (k := 6) C hO q0 he rfl inFX9 (by decide) wd_240 rfl hv hdg kk
theorem wd_357 : (Cond.fieldLink "WebCourt" (150 : Nat) "WebCourt$Court" "row" "[I") ∈ gtb := gtb_c2 8 (by decide +kernel) rfl
theorem gf_RX10_150 {p : Program} {l : Launch} {e : Env} {R : Room} {s : State} {m : MethodId} {args : Array Value} {below : List Frame} {meth : Method} {c : Code} {H : Heap} {locs : List Loc} {cells slots : Nat} {Q : State → Prop} {cc : ByteArray} {pc nL : Nat} {ls : Array Slot} {rest : List Value} {D : va_G} {cy : Nat → ClassId} {A : Nat → Prop} {ws : va_W} {b : Nat} {fs : List Value} {v : Value} (C : Cx p s m args c cc nL RX10 D cy A) (hO : Wo D A ws s.heap H locs) (q0 : Nat) (he : ws[q0]? = some (b, .inr (2, fs))) (hv : fs[0]? = some v) (hdg : decode cc pc = .ok (.getfield 150, 3)) (kk : W p l e R s m args below meth c H locs cells slots Q (F0 m (pc + 3) ls (v :: rest))) : W p l e R s m args below meth c H locs cells slots Q (F0 m pc ls (.ref b :: rest)) := gF (k := 0) C hO q0 he rfl inFX2 (by decide) wd_357 rfl hv hdg kk
theorem wd_245 : (Cond.fieldLink "WebCourt" (153 : Nat) "WebCourt$Web" "casePleas" "[I") ∈ gtb := gtb_c1 136 (by decide +kernel) rfl
theorem gf_RX10_153 {p : Program} {l : Launch} {e : Env} {R : Room} {s : State} {m : MethodId} {args : Array Value} {below : List Frame} {meth : Method} {c : Code} {H : Heap} {locs : List Loc} {cells slots : Nat} {Q : State → Prop} {cc : ByteArray} {pc nL : Nat} {ls : Array Slot} {rest : List Value} {D : va_G} {cy : Nat → ClassId} {A : Nat → Prop} {ws : va_W} {b : Nat} {fs : List Value} {v : Value} (C : Cx p s m args c cc nL RX10 D cy A) (hO : Wo D A ws s.heap H locs) (q0 : Nat) (he : ws[q0]? = some (b, .inr (9, fs))) (hv : fs[7]? = some v) (hdg : decode cc pc = .ok (.getfield 153, 3)) (kk : W p l e R s m args below meth c H locs cells slots Q (F0 m (pc + 3) ls (v :: rest))) : W p l e R s m args below meth c H locs cells slots Q (F0 m pc ls (.ref b :: rest)) := gF (k := 7) C hO q0 he rfl inFX9 (by decide) wd_245 rfl hv hdg kk
set_option maxHeartbeats 4000000 in
set_option maxRecDepth 100000 in
theorem T_X10_item (l : Launch) (D : va_G) (cy : Nat → ClassId) (a : Nat → Nat) (u : St) (hJ : CI a u) (x1 : Int32) (x2 : Int32)  : Mi l D cy (cW cy a) yX10_item (.code yX10_item cX10_item 3 (some .int)) (rmo 1 21) [.ref (a 0), .int x1, .int x2] u (fun (r : Int32) (u' : St) => u' = u) := by
  refine Mi.of (own := RX10) rfl (by decide) (Nat.le_of_ble_eq_true rfl) ?_
  have hT : KT u u := KT.rf
  intro p e s m below meth c A Q ls C hret hO hl
  obtain ⟨hx, hb, hml, hown, ht, hK, hA⟩ := id C
  have hl : lv_has ls 3 [(0, .ref (a 0)), (1, .int x1), (2, .int x2)] := hl
  refine lv_aload_n hx hb dX10_item_0 rfl (lv_at hl 0 rfl) ?_
  refine gf_RX10_37 (v := .ref (a 28)) C hO 0 cW_0 rfl dX10_item_1 ?_
  refine lv_iload_n hx hb dX10_item_4 rfl (lv_at hl 1 rfl) ?_
  refine cVi (w := cW cy a) (As := [.int x1]) (rest := []) C hO (T_X2_hasCase l D cy a _ (by exact hJ) (x1)) (cwV 1 ht (gV wd_841 wd_842 wd_843 wd_115 wd_844) rfl rfl rfl hd_yX2_hasCase ⟨Nat.le_of_ble_eq_true rfl, Nat.le_of_ble_eq_true rfl⟩) 28 rfl cW_28 rfl rfl hl.1 (Nat.le_of_ble_eq_true rfl) dX10_item_5 rfl ⟨Nat.zero_le _, Nat.zero_le _⟩ (fun r1 u2 H locs hp3 hO => ?_)
  obtain ⟨hr1, hu2⟩ := hp3
  rw [hu2] at hO
  rcases hr1 with ⟨hcr1, hvr1⟩ | ⟨hcr1, hvr1⟩
  · subst hvr1
    refine bt_ne (tgt := 13) (X := 1) hx hb dX10_item_8 (by decide) rfl (by omega) ?_
    refine lv_iload_n hx hb dX10_item_13 rfl (lv_at hl 2 rfl) ?_
    have c4 : ((x2).toInt < 0 ∨ 5 < (x2).toInt) ∨ (x2).toInt = 0 ∨ (x2).toInt = 1 ∨ (x2).toInt = 2 ∨ (x2).toInt = 3 ∨ (x2).toInt = 4 ∨ (x2).toInt = 5 := by omega
    rcases c4 with c4 | c4 | c4 | c4 | c4 | c4 | c4
    · refine lv_tableOut (tgt := 129) hx hb dX10_item_14 (by rw [show x2.toInt = (x2).toInt from rfl]; exact c4) (by decide) ?_
      refine lv_iconst (v := (-1)) hx hb dX10_item_129 (by decide) ?_
      refine hret _ _ _ _ _ _ dX10_item_130 rfl ?_ hO
      exact rfl
    · refine lv_tableIn (tgt := 52) hx hb dX10_item_14 (by rw [c4]; decide) (by rw [c4]; decide) (by rw [c4]; rfl) (by decide) ?_
      refine lv_aload_n hx hb dX10_item_52 rfl (lv_at hl 0 rfl) ?_
      refine gf_RX10_37 (v := .ref (a 28)) C hO 0 cW_0 rfl dX10_item_53 ?_
      refine gf_RX10_101 (v := .ref (a 3)) C hO 28 cW_28 (congrArg (fun z : Nat => some (Value.ref z)) (CI_R0 hJ)) dX10_item_56 ?_
      refine gf_RX10_147 (v := .ref (a 10)) C hO 3 cW_3 rfl dX10_item_59 ?_
      refine lv_iload_n hx hb dX10_item_62 rfl (lv_at hl 1 rfl) ?_
      refine aI C hO 10 cW_10 (i_in (X := (x1).toInt) rfl (by omega) (by omega)) dX10_item_63 ?_
      refine lv_topi (fun w5 ew5 => ?_)
      refine hret _ _ _ _ _ _ dX10_item_64 rfl ?_ hO
      exact rfl
    · refine lv_tableIn (tgt := 65) hx hb dX10_item_14 (by rw [c4]; decide) (by rw [c4]; decide) (by rw [c4]; rfl) (by decide) ?_
      refine lv_aload_n hx hb dX10_item_65 rfl (lv_at hl 0 rfl) ?_
      refine gf_RX10_37 (v := .ref (a 28)) C hO 0 cW_0 rfl dX10_item_66 ?_
      refine gf_RX10_150 (v := .ref (a 29)) C hO 28 cW_28 rfl dX10_item_69 ?_
      refine lv_iconst (v := 5) hx hb dX10_item_72 (by decide) ?_
      refine lv_iload_n hx hb dX10_item_73 rfl (lv_at hl 1 rfl) ?_
      have e6 : ((5 + x1)).toInt = 5 + (x1).toInt := i_add rfl rfl (by omega)
      refine lv_iadd hx hb dX10_item_74 ?_
      refine aI C hO 29 cW_29 (i_in (X := (5 + (x1).toInt)) e6 (by omega) (by omega)) dX10_item_75 ?_
      refine lv_topi (fun w7 ew7 => ?_)
      refine hret _ _ _ _ _ _ dX10_item_76 rfl ?_ hO
      exact rfl
    · refine lv_tableIn (tgt := 77) hx hb dX10_item_14 (by rw [c4]; decide) (by rw [c4]; decide) (by rw [c4]; rfl) (by decide) ?_
      refine lv_aload_n hx hb dX10_item_77 rfl (lv_at hl 0 rfl) ?_
      refine gf_RX10_37 (v := .ref (a 28)) C hO 0 cW_0 rfl dX10_item_78 ?_
      refine gf_RX10_150 (v := .ref (a 29)) C hO 28 cW_28 rfl dX10_item_81 ?_
      refine lv_bipush (v := 11) hx hb dX10_item_84 (by decide) ?_
      refine lv_iload_n hx hb dX10_item_86 rfl (lv_at hl 1 rfl) ?_
      have e8 : ((11 + x1)).toInt = 11 + (x1).toInt := i_add rfl rfl (by omega)
      refine lv_iadd hx hb dX10_item_87 ?_
      refine aI C hO 29 cW_29 (i_in (X := (11 + (x1).toInt)) e8 (by omega) (by omega)) dX10_item_88 ?_
      refine lv_topi (fun w9 ew9 => ?_)
      refine hret _ _ _ _ _ _ dX10_item_89 rfl ?_ hO
      exact rfl
    · refine lv_tableIn (tgt := 90) hx hb dX10_item_14 (by rw [c4]; decide) (by rw [c4]; decide) (by rw [c4]; rfl) (by decide) ?_
      refine lv_aload_n hx hb dX10_item_90 rfl (lv_at hl 0 rfl) ?_
      refine gf_RX10_37 (v := .ref (a 28)) C hO 0 cW_0 rfl dX10_item_91 ?_
      refine gf_RX10_101 (v := .ref (a 3)) C hO 28 cW_28 (congrArg (fun z : Nat => some (Value.ref z)) (CI_R0 hJ)) dX10_item_94 ?_
      refine gf_RX10_153 (v := .ref (a 11)) C hO 3 cW_3 rfl dX10_item_97 ?_
      refine lv_iload_n hx hb dX10_item_100 rfl (lv_at hl 1 rfl) ?_
      refine aI C hO 11 cW_11 (i_in (X := (x1).toInt) rfl (by omega) (by omega)) dX10_item_101 ?_
      refine lv_topi (fun w10 ew10 => ?_)
      refine hret _ _ _ _ _ _ dX10_item_102 rfl ?_ hO
      exact rfl
    · refine lv_tableIn (tgt := 103) hx hb dX10_item_14 (by rw [c4]; decide) (by rw [c4]; decide) (by rw [c4]; rfl) (by decide) ?_
      refine lv_aload_n hx hb dX10_item_103 rfl (lv_at hl 0 rfl) ?_
      refine gf_RX10_37 (v := .ref (a 28)) C hO 0 cW_0 rfl dX10_item_104 ?_
      refine gf_RX10_150 (v := .ref (a 29)) C hO 28 cW_28 rfl dX10_item_107 ?_
      refine lv_bipush (v := 17) hx hb dX10_item_110 (by decide) ?_
      refine lv_iload_n hx hb dX10_item_112 rfl (lv_at hl 1 rfl) ?_
      have e11 : ((17 + x1)).toInt = 17 + (x1).toInt := i_add rfl rfl (by omega)
      refine lv_iadd hx hb dX10_item_113 ?_
      refine aI C hO 29 cW_29 (i_in (X := (17 + (x1).toInt)) e11 (by omega) (by omega)) dX10_item_114 ?_
      refine lv_topi (fun w12 ew12 => ?_)
      refine hret _ _ _ _ _ _ dX10_item_115 rfl ?_ hO
      exact rfl
    · refine lv_tableIn (tgt := 116) hx hb dX10_item_14 (by rw [c4]; decide) (by rw [c4]; decide) (by rw [c4]; rfl) (by decide) ?_
      refine lv_aload_n hx hb dX10_item_116 rfl (lv_at hl 0 rfl) ?_
      refine gf_RX10_37 (v := .ref (a 28)) C hO 0 cW_0 rfl dX10_item_117 ?_
      refine gf_RX10_150 (v := .ref (a 29)) C hO 28 cW_28 rfl dX10_item_120 ?_
      refine lv_bipush (v := 23) hx hb dX10_item_123 (by decide) ?_
      refine lv_iload_n hx hb dX10_item_125 rfl (lv_at hl 1 rfl) ?_
      have e13 : ((23 + x1)).toInt = 23 + (x1).toInt := i_add rfl rfl (by omega)
      refine lv_iadd hx hb dX10_item_126 ?_
      refine aI C hO 29 cW_29 (i_in (X := (23 + (x1).toInt)) e13 (by omega) (by omega)) dX10_item_127 ?_
      refine lv_topi (fun w14 ew14 => ?_)
      refine hret _ _ _ _ _ _ dX10_item_128 rfl ?_ hO
      exact rfl
  · subst hvr1
    refine bn_ne (X := 0) hx hb dX10_item_8 rfl (by omega) ?_ (tgt := 13) (by decide)
    refine lv_iconst (v := (-1)) hx hb dX10_item_11 (by decide) ?_
    refine hret _ _ _ _ _ _ dX10_item_12 rfl ?_ hO
    exact rfl
theorem dX10_verdict_0 : decode cX10_verdict 0 = .ok (.aload_n 0, 1) := by decide +kernel
theorem dX10_verdict_1 : decode cX10_verdict 1 = .ok (.getfield 37, 3) := by decide +kernel
theorem dX10_verdict_4 : decode cX10_verdict 4 = .ok (.iload_n 1, 1) := by decide +kernel
theorem dX10_verdict_5 : decode cX10_verdict 5 = .ok (.invokevirtual 144, 3) := by decide +kernel
theorem dX10_verdict_8 : decode cX10_verdict 8 = .ok (.ifCond .eq 14, 3) := by decide +kernel
theorem dX10_verdict_11 : decode cX10_verdict 11 = .ok (.aload_n 0, 1) := by decide +kernel
theorem dX10_verdict_12 : decode cX10_verdict 12 = .ok (.getfield 37, 3) := by decide +kernel
theorem dX10_verdict_15 : decode cX10_verdict 15 = .ok (.iload_n 1, 1) := by decide +kernel
theorem dX10_verdict_16 : decode cX10_verdict 16 = .ok (.invokevirtual 156, 3) := by decide +kernel
theorem dX10_verdict_19 : decode cX10_verdict 19 = .ok (.goto 5, 3) := by decide +kernel
theorem dX10_verdict_22 : decode cX10_verdict 22 = .ok (.ldc 159, 2) := by decide +kernel
theorem dX10_verdict_24 : decode cX10_verdict 24 = .ok (.ireturn, 1) := by decide +kernel
theorem wd_848 : (Cond.code ⟨"WebCourt", "verdict", "(I)I"⟩ prog_1_method_9_code (2 : Nat) (Option.some FieldType.int)) ∈ gtb := gtb_c4 19 (by decide +kernel) rfl
theorem wd_849 : (Cond.methodLink "WebCourt" (156 : Nat) ⟨"WebCourt$Court", "judgedNow", "(I)I"⟩) ∈ gtb := gtb_c4 20 (by decide +kernel) rfl
theorem wd_895 : (Cond.constant "WebCourt" (159 : Nat) (-1000000000 : Int32)) ∈ gtb := gtb_c4 66 (by decide +kernel) rfl
set_option maxHeartbeats 4000000 in
set_option maxRecDepth 100000 in
theorem T_X10_verdict (l : Launch) (D : va_G) (cy : Nat → ClassId) (a : Nat → Nat) (u : St) (hJ : CI a u) (x1 : Int32)  : Mi l D cy (cW cy a) yX10_verdict (.code yX10_verdict cX10_verdict 2 (some .int)) (rmo 4 99) [.ref (a 0), .int x1] u (fun (r : Int32) (u' : St) => (CI a u') ∧ (KT u u')) := by
  refine Mi.of (own := RX10) rfl (by decide) (Nat.le_of_ble_eq_true rfl) ?_
  have hT : KT u u := KT.rf
  intro p e s m below meth c A Q ls C hret hO hl
  obtain ⟨hx, hb, hml, hown, ht, hK, hA⟩ := id C
  have hl : lv_has ls 2 [(0, .ref (a 0)), (1, .int x1)] := hl
  refine lv_aload_n hx hb dX10_verdict_0 rfl (lv_at hl 0 rfl) ?_
  refine gf_RX10_37 (v := .ref (a 28)) C hO 0 cW_0 rfl dX10_verdict_1 ?_
  refine lv_iload_n hx hb dX10_verdict_4 rfl (lv_at hl 1 rfl) ?_
  refine cVi (w := cW cy a) (As := [.int x1]) (rest := []) C hO (T_X2_hasCase l D cy a _ (by exact hJ) (x1)) (cwV 1 ht (gV wd_841 wd_842 wd_843 wd_115 wd_844) rfl rfl rfl hd_yX2_hasCase ⟨Nat.le_of_ble_eq_true rfl, Nat.le_of_ble_eq_true rfl⟩) 28 rfl cW_28 rfl rfl hl.1 (Nat.le_of_ble_eq_true rfl) dX10_verdict_5 rfl ⟨Nat.zero_le _, Nat.zero_le _⟩ (fun r1 u2 H locs hp3 hO => ?_)
  obtain ⟨hr1, hu2⟩ := hp3
  rw [hu2] at hO
  rcases hr1 with ⟨hcr1, hvr1⟩ | ⟨hcr1, hvr1⟩
  · subst hvr1
    refine bn_eq (X := 1) hx hb dX10_verdict_8 rfl (by omega) ?_ (tgt := 22) (by decide)
    refine lv_aload_n hx hb dX10_verdict_11 rfl (lv_at hl 0 rfl) ?_
    refine gf_RX10_37 (v := .ref (a 28)) C hO 0 cW_0 rfl dX10_verdict_12 ?_
    refine lv_iload_n hx hb dX10_verdict_15 rfl (lv_at hl 1 rfl) ?_
    refine cVi (w := cW cy a) (As := [.int x1]) (rest := []) C hO (T_X2_judgedNow l D cy a _ (by exact hJ) (x1) (by first | omega | decide)) (cwV 1 ht (gV wd_849 wd_850 wd_851 wd_115 wd_852) rfl rfl rfl hd_yX2_judgedNow ⟨Nat.le_of_ble_eq_true rfl, Nat.le_of_ble_eq_true rfl⟩) 28 rfl cW_28 rfl rfl hl.1 (Nat.le_of_ble_eq_true rfl) dX10_verdict_16 rfl ⟨Nat.zero_le _, Nat.zero_le _⟩ (fun r4 u5 H locs hp6 hO => ?_)
    obtain ⟨hJ, hTu5⟩ := hp6
    have hT : KT u u5 := KT.tr (by exact hT) hTu5
    refine lv_goto (tgt := 24) hx hb dX10_verdict_19 (by decide) ?_
    refine hret _ _ _ _ _ _ dX10_verdict_24 rfl ?_ hO
    exact ⟨hJ, hT⟩
  · subst hvr1
    refine bt_eq (tgt := 22) (X := 0) hx hb dX10_verdict_8 (by decide) rfl (by omega) ?_
    refine lv_ldc (v := (-1000000000)) hx hb hown (ht _ wd_895) dX10_verdict_22 ?_
    refine hret _ _ _ _ _ _ dX10_verdict_24 rfl ?_ hO
    exact ⟨hJ, hT⟩
theorem dX10_hour_0 : decode cX10_hour 0 = .ok (.aload_n 0, 1) := by decide +kernel
theorem dX10_hour_1 : decode cX10_hour 1 = .ok (.getfield 37, 3) := by decide +kernel
theorem dX10_hour_4 : decode cX10_hour 4 = .ok (.iload_n 1, 1) := by decide +kernel
theorem dX10_hour_5 : decode cX10_hour 5 = .ok (.invokevirtual 160, 3) := by decide +kernel
theorem dX10_hour_8 : decode cX10_hour 8 = .ok (.ifCond .ne 5, 3) := by decide +kernel
theorem dX10_hour_11 : decode cX10_hour 11 = .ok (.iconst (-1), 1) := by decide +kernel
theorem dX10_hour_12 : decode cX10_hour 12 = .ok (.ireturn, 1) := by decide +kernel
theorem dX10_hour_13 : decode cX10_hour 13 = .ok (.aload_n 0, 1) := by decide +kernel
theorem dX10_hour_14 : decode cX10_hour 14 = .ok (.getfield 44, 3) := by decide +kernel
theorem dX10_hour_17 : decode cX10_hour 17 = .ok (.aload_n 0, 1) := by decide +kernel
theorem dX10_hour_18 : decode cX10_hour 18 = .ok (.getfield 37, 3) := by decide +kernel
theorem dX10_hour_21 : decode cX10_hour 21 = .ok (.getfield 150, 3) := by decide +kernel
theorem dX10_hour_24 : decode cX10_hour 24 = .ok (.invokevirtual 163, 3) := by decide +kernel
theorem dX10_hour_27 : decode cX10_hour 27 = .ok (.aload_n 0, 1) := by decide +kernel
theorem dX10_hour_28 : decode cX10_hour 28 = .ok (.getfield 37, 3) := by decide +kernel
theorem dX10_hour_31 : decode cX10_hour 31 = .ok (.iload_n 1, 1) := by decide +kernel
theorem dX10_hour_32 : decode cX10_hour 32 = .ok (.invokevirtual 167, 3) := by decide +kernel
theorem dX10_hour_35 : decode cX10_hour 35 = .ok (.ireturn, 1) := by decide +kernel
theorem wd_899 : (Cond.code ⟨"WebCourt", "hour", "(I)I"⟩ prog_1_method_10_code (2 : Nat) (Option.some FieldType.int)) ∈ gtb := gtb_c4 70 (by decide +kernel) rfl
theorem wd_900 : (Cond.methodLink "WebCourt" (160 : Nat) ⟨"WebCourt$Court", "canGo", "(I)Z"⟩) ∈ gtb := gtb_c4 71 (by decide +kernel) rfl
theorem wd_901 : (Cond.instanceMethod ⟨"WebCourt$Court", "canGo", "(I)Z"⟩) ∈ gtb := gtb_c4 72 (by decide +kernel) rfl
theorem wd_902 : (Cond.selects "WebCourt$Court" ⟨"WebCourt$Court", "canGo", "(I)Z"⟩ ⟨"WebCourt$Court", "canGo", "(I)Z"⟩) ∈ gtb := gtb_c4 73 (by decide +kernel) rfl
theorem hd_yX2_canGo : yX2_canGo.cls = RX2 ∧ yX2_canGo.cls ≠ "java/lang/invoke/MethodHandle" ∧ yX2_canGo.cls ≠ "java/lang/invoke/VarHandle" ∧ (parseMethodDescriptor yX2_canGo.desc).map (fun d => d.parameters.length) = some 1 := by decide +kernel
theorem wd_471 : (Cond.fieldLink "WebCourt" (44 : Nat) "WebCourt" "acts" "LWebCourt$Acts;") ∈ gtb := gtb_c2 122 (by decide +kernel) rfl
theorem gf_RX10_44 {p : Program} {l : Launch} {e : Env} {R : Room} {s : State} {m : MethodId} {args : Array Value} {below : List Frame} {meth : Method} {c : Code} {H : Heap} {locs : List Loc} {cells slots : Nat} {Q : State → Prop} {cc : ByteArray} {pc nL : Nat} {ls : Array Slot} {rest : List Value} {D : va_G} {cy : Nat → ClassId} {A : Nat → Prop} {ws : va_W} {b : Nat} {fs : List Value} {v : Value} (C : Cx p s m args c cc nL RX10 D cy A) (hO : Wo D A ws s.heap H locs) (q0 : Nat) (he : ws[q0]? = some (b, .inr (10, fs))) (hv : fs[3]? = some v) (hdg : decode cc pc = .ok (.getfield 44, 3)) (kk : W p l e R s m args below meth c H locs cells slots Q (F0 m (pc + 3) ls (v :: rest))) : W p l e R s m args below meth c H locs cells slots Q (F0 m pc ls (.ref b :: rest)) := gF (k := 3) C hO q0 he rfl inFX10 (by decide) wd_471 rfl hv hdg kk
theorem wd_906 : (Cond.methodLink "WebCourt" (163 : Nat) ⟨"WebCourt$Acts", "keep", "([I)V"⟩) ∈ gtb := gtb_c4 77 (by decide +kernel) rfl
theorem wd_907 : (Cond.instanceMethod ⟨"WebCourt$Acts", "keep", "([I)V"⟩) ∈ gtb := gtb_c4 78 (by decide +kernel) rfl
theorem wd_908 : (Cond.selects "WebCourt$Acts" ⟨"WebCourt$Acts", "keep", "([I)V"⟩ ⟨"WebCourt$Acts", "keep", "([I)V"⟩) ∈ gtb := gtb_c4 79 (by decide +kernel) rfl
theorem wd_116 : (Cond.initialized "WebCourt$Acts") ∈ gtb := gtb_c1 7 (by decide +kernel) rfl
theorem hd_yX0_keep : yX0_keep.cls = RX0 ∧ yX0_keep.cls ≠ "java/lang/invoke/MethodHandle" ∧ yX0_keep.cls ≠ "java/lang/invoke/VarHandle" ∧ (parseMethodDescriptor yX0_keep.desc).map (fun d => d.parameters.length) = some 1 := by decide +kernel
theorem wd_913 : (Cond.methodLink "WebCourt" (167 : Nat) ⟨"WebCourt$Court", "go", "(I)I"⟩) ∈ gtb := gtb_c4 84 (by decide +kernel) rfl
theorem wd_914 : (Cond.instanceMethod ⟨"WebCourt$Court", "go", "(I)I"⟩) ∈ gtb := gtb_c4 85 (by decide +kernel) rfl
theorem wd_915 : (Cond.selects "WebCourt$Court" ⟨"WebCourt$Court", "go", "(I)I"⟩ ⟨"WebCourt$Court", "go", "(I)I"⟩) ∈ gtb := gtb_c4 86 (by decide +kernel) rfl
theorem hd_yX2_go : yX2_go.cls = RX2 ∧ yX2_go.cls ≠ "java/lang/invoke/MethodHandle" ∧ yX2_go.cls ≠ "java/lang/invoke/VarHandle" ∧ (parseMethodDescriptor yX2_go.desc).map (fun d => d.parameters.length) = some 1 := by decide +kernel
set_option maxHeartbeats 4000000 in
set_option maxRecDepth 100000 in
theorem T_X10_hour (l : Launch) (D : va_G) (cy : Nat → ClassId) (a : Nat → Nat) (u : St) (hJ : CI a u) (x1 : Int32)  : Mi l D cy (cW cy a) yX10_hour (.code yX10_hour cX10_hour 2 (some .int)) (rmo 2 46) [.ref (a 0), .int x1] u (fun (r : Int32) (u' : St) => (CI a u') ∧ (KT u u')) := by
  refine Mi.of (own := RX10) rfl (by decide) (Nat.le_of_ble_eq_true rfl) ?_
  have hT : KT u u := KT.rf
  intro p e s m below meth c A Q ls C hret hO hl
  obtain ⟨hx, hb, hml, hown, ht, hK, hA⟩ := id C
  have hl : lv_has ls 2 [(0, .ref (a 0)), (1, .int x1)] := hl
  refine lv_aload_n hx hb dX10_hour_0 rfl (lv_at hl 0 rfl) ?_
  refine gf_RX10_37 (v := .ref (a 28)) C hO 0 cW_0 rfl dX10_hour_1 ?_
  refine lv_iload_n hx hb dX10_hour_4 rfl (lv_at hl 1 rfl) ?_
  refine cVi (w := cW cy a) (As := [.int x1]) (rest := []) C hO (T_X2_canGo l D cy a _ (by exact hJ) (x1)) (cwV 1 ht (gV wd_900 wd_901 wd_902 wd_115 wd_903) rfl rfl rfl hd_yX2_canGo ⟨Nat.le_of_ble_eq_true rfl, Nat.le_of_ble_eq_true rfl⟩) 28 rfl cW_28 rfl rfl hl.1 (Nat.le_of_ble_eq_true rfl) dX10_hour_5 rfl ⟨Nat.zero_le _, Nat.zero_le _⟩ (fun r1 u2 H locs hp3 hO => ?_)
  obtain ⟨hr1, hu2⟩ := hp3
  have gr1 : 0 ≤ r1.toInt ∧ r1.toInt ≤ 1 := by rcases hr1 with h | h <;> rw [h] <;> decide
  rw [hu2] at hO
  refine bs_ne (tgt := 13) (X := (r1).toInt) hx hb dX10_hour_8 (by decide) rfl (fun c4 => ?_) (fun c4 => ?_)
  · refine lv_aload_n hx hb dX10_hour_13 rfl (lv_at hl 0 rfl) ?_
    refine gf_RX10_44 (v := .ref (a 30)) C hO 0 cW_0 rfl dX10_hour_14 ?_
    refine lv_aload_n hx hb dX10_hour_17 rfl (lv_at hl 0 rfl) ?_
    refine gf_RX10_37 (v := .ref (a 28)) C hO 0 cW_0 rfl dX10_hour_18 ?_
    refine gf_RX10_150 (v := .ref (a 29)) C hO 28 cW_28 rfl dX10_hour_21 ?_
    refine cVv (w := cW cy a) (As := [.ref (a 29)]) (rest := []) C hO (T_X0_keep l D cy a _ (by exact hJ)) (cwV 1 ht (gV wd_906 wd_907 wd_908 wd_116 wd_909) rfl rfl rfl hd_yX0_keep ⟨Nat.le_of_ble_eq_true rfl, Nat.le_of_ble_eq_true rfl⟩) 30 rfl cW_30 rfl rfl hl.1 (Nat.le_of_ble_eq_true rfl) dX10_hour_24 rfl ⟨Nat.zero_le _, Nat.zero_le _⟩ (fun u6 H locs hp7 hO => ?_)
    obtain ⟨hJ, hTu6⟩ := hp7
    have hT : KT u u6 := KT.tr (by exact hT) hTu6
    refine lv_aload_n hx hb dX10_hour_27 rfl (lv_at hl 0 rfl) ?_
    refine gf_RX10_37 (v := .ref (a 28)) C hO 0 cW_0 rfl dX10_hour_28 ?_
    refine lv_iload_n hx hb dX10_hour_31 rfl (lv_at hl 1 rfl) ?_
    refine cVi (w := cW cy a) (As := [.int x1]) (rest := []) C hO (T_X2_go l D cy a _ (by exact hJ) (x1)) (cwV 1 ht (gV wd_913 wd_914 wd_915 wd_115 wd_916) rfl rfl rfl hd_yX2_go ⟨Nat.le_of_ble_eq_true rfl, Nat.le_of_ble_eq_true rfl⟩) 28 rfl cW_28 rfl rfl hl.1 (Nat.le_of_ble_eq_true rfl) dX10_hour_32 rfl ⟨Nat.zero_le _, Nat.zero_le _⟩ (fun r8 u9 H locs hp10 hO => ?_)
    obtain ⟨hJ, hTu9⟩ := hp10
    have hT : KT u u9 := KT.tr (by exact hT) hTu9
    refine hret _ _ _ _ _ _ dX10_hour_35 rfl ?_ hO
    exact ⟨hJ, hT⟩
  · refine lv_iconst (v := (-1)) hx hb dX10_hour_11 (by decide) ?_
    refine hret _ _ _ _ _ _ dX10_hour_12 rfl ?_ hO
    exact ⟨hJ, hT⟩
theorem dX10_hear_0 : decode cX10_hear 0 = .ok (.aload_n 0, 1) := by decide +kernel
theorem dX10_hear_1 : decode cX10_hear 1 = .ok (.getfield 37, 3) := by decide +kernel
theorem dX10_hear_4 : decode cX10_hear 4 = .ok (.iload_n 1, 1) := by decide +kernel
theorem dX10_hear_5 : decode cX10_hear 5 = .ok (.invokevirtual 170, 3) := by decide +kernel
theorem dX10_hear_8 : decode cX10_hear 8 = .ok (.ifCond .ne 5, 3) := by decide +kernel
theorem dX10_hear_11 : decode cX10_hear 11 = .ok (.iconst (-1), 1) := by decide +kernel
theorem dX10_hear_12 : decode cX10_hear 12 = .ok (.ireturn, 1) := by decide +kernel
theorem dX10_hear_13 : decode cX10_hear 13 = .ok (.aload_n 0, 1) := by decide +kernel
theorem dX10_hear_14 : decode cX10_hear 14 = .ok (.getfield 44, 3) := by decide +kernel
theorem dX10_hear_17 : decode cX10_hear 17 = .ok (.aload_n 0, 1) := by decide +kernel
theorem dX10_hear_18 : decode cX10_hear 18 = .ok (.getfield 37, 3) := by decide +kernel
theorem dX10_hear_21 : decode cX10_hear 21 = .ok (.getfield 150, 3) := by decide +kernel
theorem dX10_hear_24 : decode cX10_hear 24 = .ok (.invokevirtual 163, 3) := by decide +kernel
theorem dX10_hear_27 : decode cX10_hear 27 = .ok (.aload_n 0, 1) := by decide +kernel
theorem dX10_hear_28 : decode cX10_hear 28 = .ok (.getfield 37, 3) := by decide +kernel
theorem dX10_hear_31 : decode cX10_hear 31 = .ok (.iload_n 1, 1) := by decide +kernel
theorem dX10_hear_32 : decode cX10_hear 32 = .ok (.invokevirtual 173, 3) := by decide +kernel
theorem dX10_hear_35 : decode cX10_hear 35 = .ok (.ireturn, 1) := by decide +kernel
theorem wd_924 : (Cond.code ⟨"WebCourt", "hear", "(I)I"⟩ prog_1_method_11_code (2 : Nat) (Option.some FieldType.int)) ∈ gtb := gtb_c4 95 (by decide +kernel) rfl
theorem wd_925 : (Cond.methodLink "WebCourt" (170 : Nat) ⟨"WebCourt$Court", "canBeHeard", "(I)Z"⟩) ∈ gtb := gtb_c4 96 (by decide +kernel) rfl
theorem wd_926 : (Cond.instanceMethod ⟨"WebCourt$Court", "canBeHeard", "(I)Z"⟩) ∈ gtb := gtb_c4 97 (by decide +kernel) rfl
theorem wd_927 : (Cond.selects "WebCourt$Court" ⟨"WebCourt$Court", "canBeHeard", "(I)Z"⟩ ⟨"WebCourt$Court", "canBeHeard", "(I)Z"⟩) ∈ gtb := gtb_c4 98 (by decide +kernel) rfl
theorem hd_yX2_canBeHeard : yX2_canBeHeard.cls = RX2 ∧ yX2_canBeHeard.cls ≠ "java/lang/invoke/MethodHandle" ∧ yX2_canBeHeard.cls ≠ "java/lang/invoke/VarHandle" ∧ (parseMethodDescriptor yX2_canBeHeard.desc).map (fun d => d.parameters.length) = some 1 := by decide +kernel
theorem wd_934 : (Cond.methodLink "WebCourt" (173 : Nat) ⟨"WebCourt$Court", "decide", "(I)I"⟩) ∈ gtb := gtb_c4 105 (by decide +kernel) rfl
theorem wd_935 : (Cond.instanceMethod ⟨"WebCourt$Court", "decide", "(I)I"⟩) ∈ gtb := gtb_c4 106 (by decide +kernel) rfl
theorem wd_936 : (Cond.selects "WebCourt$Court" ⟨"WebCourt$Court", "decide", "(I)I"⟩ ⟨"WebCourt$Court", "decide", "(I)I"⟩) ∈ gtb := gtb_c4 107 (by decide +kernel) rfl
theorem hd_yX2_decide : yX2_decide.cls = RX2 ∧ yX2_decide.cls ≠ "java/lang/invoke/MethodHandle" ∧ yX2_decide.cls ≠ "java/lang/invoke/VarHandle" ∧ (parseMethodDescriptor yX2_decide.desc).map (fun d => d.parameters.length) = some 1 := by decide +kernel
set_option maxHeartbeats 4000000 in
set_option maxRecDepth 100000 in
theorem T_X10_hear (l : Launch) (D : va_G) (cy : Nat → ClassId) (a : Nat → Nat) (u : St) (hJ : CI a u) (x1 : Int32)  : Mi l D cy (cW cy a) yX10_hear (.code yX10_hear cX10_hear 2 (some .int)) (rmo 5 121) [.ref (a 0), .int x1] u (fun (r : Int32) (u' : St) => (CI a u') ∧ (KT u u')) := by
  refine Mi.of (own := RX10) rfl (by decide) (Nat.le_of_ble_eq_true rfl) ?_
  have hT : KT u u := KT.rf
  intro p e s m below meth c A Q ls C hret hO hl
  obtain ⟨hx, hb, hml, hown, ht, hK, hA⟩ := id C
  have hl : lv_has ls 2 [(0, .ref (a 0)), (1, .int x1)] := hl
  refine lv_aload_n hx hb dX10_hear_0 rfl (lv_at hl 0 rfl) ?_
  refine gf_RX10_37 (v := .ref (a 28)) C hO 0 cW_0 rfl dX10_hear_1 ?_
  refine lv_iload_n hx hb dX10_hear_4 rfl (lv_at hl 1 rfl) ?_
  refine cVi (w := cW cy a) (As := [.int x1]) (rest := []) C hO (T_X2_canBeHeard_c l D cy a _ (by exact hJ) (x1)) (cwV 1 ht (gV wd_925 wd_926 wd_927 wd_115 wd_928) rfl rfl rfl hd_yX2_canBeHeard ⟨Nat.le_of_ble_eq_true rfl, Nat.le_of_ble_eq_true rfl⟩) 28 rfl cW_28 rfl rfl hl.1 (Nat.le_of_ble_eq_true rfl) dX10_hear_5 rfl ⟨Nat.zero_le _, Nat.zero_le _⟩ (fun r1 u2 H locs hp3 hO => ?_)
  obtain ⟨hr1, hu2⟩ := hp3
  rw [hu2] at hO
  rcases hr1 with ⟨hcr1, hvr1⟩ | ⟨hcr1, hvr1⟩
  · subst hvr1
    refine bt_ne (tgt := 13) (X := 1) hx hb dX10_hear_8 (by decide) rfl (by omega) ?_
    refine lv_aload_n hx hb dX10_hear_13 rfl (lv_at hl 0 rfl) ?_
    refine gf_RX10_44 (v := .ref (a 30)) C hO 0 cW_0 rfl dX10_hear_14 ?_
    refine lv_aload_n hx hb dX10_hear_17 rfl (lv_at hl 0 rfl) ?_
    refine gf_RX10_37 (v := .ref (a 28)) C hO 0 cW_0 rfl dX10_hear_18 ?_
    refine gf_RX10_150 (v := .ref (a 29)) C hO 28 cW_28 rfl dX10_hear_21 ?_
    refine cVv (w := cW cy a) (As := [.ref (a 29)]) (rest := []) C hO (T_X0_keep l D cy a _ (by exact hJ)) (cwV 1 ht (gV wd_906 wd_907 wd_908 wd_116 wd_909) rfl rfl rfl hd_yX0_keep ⟨Nat.le_of_ble_eq_true rfl, Nat.le_of_ble_eq_true rfl⟩) 30 rfl cW_30 rfl rfl hl.1 (Nat.le_of_ble_eq_true rfl) dX10_hear_24 rfl ⟨Nat.zero_le _, Nat.zero_le _⟩ (fun u5 H locs hp6 hO => ?_)
    obtain ⟨hJ, hTu5⟩ := hp6
    have hT : KT u u5 := KT.tr (by exact hT) hTu5
    refine lv_aload_n hx hb dX10_hear_27 rfl (lv_at hl 0 rfl) ?_
    refine gf_RX10_37 (v := .ref (a 28)) C hO 0 cW_0 rfl dX10_hear_28 ?_
    refine lv_iload_n hx hb dX10_hear_31 rfl (lv_at hl 1 rfl) ?_
    refine cVi (w := cW cy a) (As := [.int x1]) (rest := []) C hO (T_X2_decide l D cy a _ (by exact hJ) (x1) (by first | omega | decide)) (cwV 1 ht (gV wd_934 wd_935 wd_936 wd_115 wd_937) rfl rfl rfl hd_yX2_decide ⟨Nat.le_of_ble_eq_true rfl, Nat.le_of_ble_eq_true rfl⟩) 28 rfl cW_28 rfl rfl hl.1 (Nat.le_of_ble_eq_true rfl) dX10_hear_32 rfl ⟨Nat.zero_le _, Nat.zero_le _⟩ (fun r7 u8 H locs hp9 hO => ?_)
    obtain ⟨hJ, hTu8⟩ := hp9
    have hT : KT u u8 := KT.tr (by exact hT) hTu8
    refine hret _ _ _ _ _ _ dX10_hear_35 rfl ?_ hO
    exact ⟨hJ, hT⟩
  · subst hvr1
    refine bn_ne (X := 0) hx hb dX10_hear_8 rfl (by omega) ?_ (tgt := 13) (by decide)
    refine lv_iconst (v := (-1)) hx hb dX10_hear_11 (by decide) ?_
    refine hret _ _ _ _ _ _ dX10_hear_12 rfl ?_ hO
    exact ⟨hJ, hT⟩
theorem dX10_turnPlea_0 : decode cX10_turnPlea 0 = .ok (.aload_n 0, 1) := by decide +kernel
theorem dX10_turnPlea_1 : decode cX10_turnPlea 1 = .ok (.getfield 44, 3) := by decide +kernel
theorem dX10_turnPlea_4 : decode cX10_turnPlea 4 = .ok (.aload_n 0, 1) := by decide +kernel
theorem dX10_turnPlea_5 : decode cX10_turnPlea 5 = .ok (.getfield 37, 3) := by decide +kernel
theorem dX10_turnPlea_8 : decode cX10_turnPlea 8 = .ok (.getfield 150, 3) := by decide +kernel
theorem dX10_turnPlea_11 : decode cX10_turnPlea 11 = .ok (.invokevirtual 163, 3) := by decide +kernel
theorem dX10_turnPlea_14 : decode cX10_turnPlea 14 = .ok (.aload_n 0, 1) := by decide +kernel
theorem dX10_turnPlea_15 : decode cX10_turnPlea 15 = .ok (.getfield 37, 3) := by decide +kernel
theorem dX10_turnPlea_18 : decode cX10_turnPlea 18 = .ok (.getfield 150, 3) := by decide +kernel
theorem dX10_turnPlea_21 : decode cX10_turnPlea 21 = .ok (.bipush 11, 2) := by decide +kernel
theorem dX10_turnPlea_23 : decode cX10_turnPlea 23 = .ok (.iload_n 1, 1) := by decide +kernel
theorem dX10_turnPlea_24 : decode cX10_turnPlea 24 = .ok (.iadd, 1) := by decide +kernel
theorem dX10_turnPlea_25 : decode cX10_turnPlea 25 = .ok (.dup2, 1) := by decide +kernel
theorem dX10_turnPlea_26 : decode cX10_turnPlea 26 = .ok (.iaload, 1) := by decide +kernel
theorem dX10_turnPlea_27 : decode cX10_turnPlea 27 = .ok (.iconst 1, 1) := by decide +kernel
theorem dX10_turnPlea_28 : decode cX10_turnPlea 28 = .ok (.iload_n 2, 1) := by decide +kernel
theorem dX10_turnPlea_29 : decode cX10_turnPlea 29 = .ok (.ishl, 1) := by decide +kernel
theorem dX10_turnPlea_30 : decode cX10_turnPlea 30 = .ok (.ixor, 1) := by decide +kernel
theorem dX10_turnPlea_31 : decode cX10_turnPlea 31 = .ok (.iastore, 1) := by decide +kernel
theorem dX10_turnPlea_32 : decode cX10_turnPlea 32 = .ok (.aload_n 0, 1) := by decide +kernel
theorem dX10_turnPlea_33 : decode cX10_turnPlea 33 = .ok (.getfield 37, 3) := by decide +kernel
theorem dX10_turnPlea_36 : decode cX10_turnPlea 36 = .ok (.iload_n 1, 1) := by decide +kernel
theorem dX10_turnPlea_37 : decode cX10_turnPlea 37 = .ok (.invokevirtual 156, 3) := by decide +kernel
theorem dX10_turnPlea_40 : decode cX10_turnPlea 40 = .ok (.ireturn, 1) := by decide +kernel
theorem wd_952 : (Cond.code ⟨"WebCourt", "turnPlea", "(II)I"⟩ prog_1_method_14_code (3 : Nat) (Option.some FieldType.int)) ∈ gtb := gtb_c4 123 (by decide +kernel) rfl
set_option maxHeartbeats 4000000 in
set_option maxRecDepth 100000 in
theorem T_X10_turnPlea (l : Launch) (D : va_G) (cy : Nat → ClassId) (a : Nat → Nat) (u : St) (hJ : CI a u) (x1 : Int32) (x2 : Int32) (hx_x1 : 0 ≤ x1.toInt ∧ x1.toInt ≤ 5) : Mi l D cy (cW cy a) yX10_turnPlea (.code yX10_turnPlea cX10_turnPlea 3 (some .int)) (rmo 4 99) [.ref (a 0), .int x1, .int x2] u (fun (r : Int32) (u' : St) => (CI a u') ∧ (KT u u')) := by
  refine Mi.of (own := RX10) rfl (by decide) (Nat.le_of_ble_eq_true rfl) ?_
  have hT : KT u u := KT.rf
  intro p e s m below meth c A Q ls C hret hO hl
  obtain ⟨hx, hb, hml, hown, ht, hK, hA⟩ := id C
  have hl : lv_has ls 3 [(0, .ref (a 0)), (1, .int x1), (2, .int x2)] := hl
  refine lv_aload_n hx hb dX10_turnPlea_0 rfl (lv_at hl 0 rfl) ?_
  refine gf_RX10_44 (v := .ref (a 30)) C hO 0 cW_0 rfl dX10_turnPlea_1 ?_
  refine lv_aload_n hx hb dX10_turnPlea_4 rfl (lv_at hl 0 rfl) ?_
  refine gf_RX10_37 (v := .ref (a 28)) C hO 0 cW_0 rfl dX10_turnPlea_5 ?_
  refine gf_RX10_150 (v := .ref (a 29)) C hO 28 cW_28 rfl dX10_turnPlea_8 ?_
  refine cVv (w := cW cy a) (As := [.ref (a 29)]) (rest := []) C hO (T_X0_keep l D cy a _ (by exact hJ)) (cwV 1 ht (gV wd_906 wd_907 wd_908 wd_116 wd_909) rfl rfl rfl hd_yX0_keep ⟨Nat.le_of_ble_eq_true rfl, Nat.le_of_ble_eq_true rfl⟩) 30 rfl cW_30 rfl rfl hl.1 (Nat.le_of_ble_eq_true rfl) dX10_turnPlea_11 rfl ⟨Nat.zero_le _, Nat.zero_le _⟩ (fun u2 H locs hp3 hO => ?_)
  obtain ⟨hJ, hTu2⟩ := hp3
  have hT : KT u u2 := KT.tr (by exact hT) hTu2
  refine lv_aload_n hx hb dX10_turnPlea_14 rfl (lv_at hl 0 rfl) ?_
  refine gf_RX10_37 (v := .ref (a 28)) C hO 0 cW_0 rfl dX10_turnPlea_15 ?_
  refine gf_RX10_150 (v := .ref (a 29)) C hO 28 cW_28 rfl dX10_turnPlea_18 ?_
  refine lv_bipush (v := 11) hx hb dX10_turnPlea_21 (by decide) ?_
  refine lv_iload_n hx hb dX10_turnPlea_23 rfl (lv_at hl 1 rfl) ?_
  have e4 : ((11 + x1)).toInt = 11 + (x1).toInt := i_add rfl rfl (by omega)
  refine lv_iadd hx hb dX10_turnPlea_24 ?_
  refine lv_dup2_11 hx hb dX10_turnPlea_25 rfl rfl ?_
  refine aI C hO 29 cW_29 (i_in (X := (11 + (x1).toInt)) e4 (by omega) (by omega)) dX10_turnPlea_26 ?_
  refine lv_topi (fun w5 ew5 => ?_)
  refine lv_iconst (v := 1) hx hb dX10_turnPlea_27 (by decide) ?_
  refine lv_iload_n hx hb dX10_turnPlea_28 rfl (lv_at hl 2 rfl) ?_
  refine lv_ishl hx hb dX10_turnPlea_29 ?_
  refine lv_topi (fun z6 ez6 => ?_)
  refine lv_ixor hx hb dX10_turnPlea_30 ?_
  refine lv_topi (fun z7 ez7 => ?_)
  refine aIs C hO 29 cW_29 (i_in (X := (11 + (x1).toInt)) e4 (by omega) (by omega)) cW_s29 dX10_turnPlea_31 (fun H locs hO => ?_)
  have hJ := CIsA hO hJ
  refine lv_aload_n hx hb dX10_turnPlea_32 rfl (lv_at hl 0 rfl) ?_
  refine gf_RX10_37 (v := .ref (a 28)) C hO 0 cW_0 rfl dX10_turnPlea_33 ?_
  refine lv_iload_n hx hb dX10_turnPlea_36 rfl (lv_at hl 1 rfl) ?_
  refine cVi (w := cW cy a) (As := [.int x1]) (rest := []) C hO (T_X2_judgedNow l D cy a _ (by exact hJ) (x1) (by first | omega | decide)) (cwV 1 ht (gV wd_849 wd_850 wd_851 wd_115 wd_852) rfl rfl rfl hd_yX2_judgedNow ⟨Nat.le_of_ble_eq_true rfl, Nat.le_of_ble_eq_true rfl⟩) 28 rfl cW_28 rfl rfl hl.1 (Nat.le_of_ble_eq_true rfl) dX10_turnPlea_37 rfl ⟨Nat.zero_le _, Nat.zero_le _⟩ (fun r8 u9 H locs hp10 hO => ?_)
  obtain ⟨hJ, hTu9⟩ := hp10
  have hT : KT u u9 := KT.tr (by exact hT) hTu9
  refine hret _ _ _ _ _ _ dX10_turnPlea_40 rfl ?_ hO
  exact ⟨hJ, hT⟩
theorem dX10_plead_0 : decode cX10_plead 0 = .ok (.aload_n 0, 1) := by decide +kernel
theorem dX10_plead_1 : decode cX10_plead 1 = .ok (.getfield 37, 3) := by decide +kernel
theorem dX10_plead_4 : decode cX10_plead 4 = .ok (.iload_n 1, 1) := by decide +kernel
theorem dX10_plead_5 : decode cX10_plead 5 = .ok (.invokevirtual 144, 3) := by decide +kernel
theorem dX10_plead_8 : decode cX10_plead 8 = .ok (.ifCond .eq 45, 3) := by decide +kernel
theorem dX10_plead_11 : decode cX10_plead 11 = .ok (.aload_n 0, 1) := by decide +kernel
theorem dX10_plead_12 : decode cX10_plead 12 = .ok (.getfield 37, 3) := by decide +kernel
theorem dX10_plead_15 : decode cX10_plead 15 = .ok (.iload_n 2, 1) := by decide +kernel
theorem dX10_plead_16 : decode cX10_plead 16 = .ok (.invokevirtual 138, 3) := by decide +kernel
theorem dX10_plead_19 : decode cX10_plead 19 = .ok (.ifCond .eq 34, 3) := by decide +kernel
theorem dX10_plead_22 : decode cX10_plead 22 = .ok (.aload_n 0, 1) := by decide +kernel
theorem dX10_plead_23 : decode cX10_plead 23 = .ok (.getfield 37, 3) := by decide +kernel
theorem dX10_plead_26 : decode cX10_plead 26 = .ok (.iload_n 1, 1) := by decide +kernel
theorem dX10_plead_27 : decode cX10_plead 27 = .ok (.iload_n 2, 1) := by decide +kernel
theorem dX10_plead_28 : decode cX10_plead 28 = .ok (.invokevirtual 176, 3) := by decide +kernel
theorem dX10_plead_31 : decode cX10_plead 31 = .ok (.ifCond .ne 22, 3) := by decide +kernel
theorem dX10_plead_34 : decode cX10_plead 34 = .ok (.aload_n 0, 1) := by decide +kernel
theorem dX10_plead_35 : decode cX10_plead 35 = .ok (.getfield 37, 3) := by decide +kernel
theorem dX10_plead_38 : decode cX10_plead 38 = .ok (.getfield 150, 3) := by decide +kernel
theorem dX10_plead_41 : decode cX10_plead 41 = .ok (.bipush 11, 2) := by decide +kernel
theorem dX10_plead_43 : decode cX10_plead 43 = .ok (.iload_n 1, 1) := by decide +kernel
theorem dX10_plead_44 : decode cX10_plead 44 = .ok (.iadd, 1) := by decide +kernel
theorem dX10_plead_45 : decode cX10_plead 45 = .ok (.iaload, 1) := by decide +kernel
theorem dX10_plead_46 : decode cX10_plead 46 = .ok (.invokestatic 180, 3) := by decide +kernel
theorem dX10_plead_49 : decode cX10_plead 49 = .ok (.iconst 4, 1) := by decide +kernel
theorem dX10_plead_50 : decode cX10_plead 50 = .ok (.if_icmp .lt 6, 3) := by decide +kernel
theorem dX10_plead_53 : decode cX10_plead 53 = .ok (.ldc 159, 2) := by decide +kernel
theorem dX10_plead_55 : decode cX10_plead 55 = .ok (.ireturn, 1) := by decide +kernel
theorem dX10_plead_56 : decode cX10_plead 56 = .ok (.aload_n 0, 1) := by decide +kernel
theorem dX10_plead_57 : decode cX10_plead 57 = .ok (.iload_n 1, 1) := by decide +kernel
theorem dX10_plead_58 : decode cX10_plead 58 = .ok (.iload_n 2, 1) := by decide +kernel
theorem dX10_plead_59 : decode cX10_plead 59 = .ok (.invokevirtual 185, 3) := by decide +kernel
theorem dX10_plead_62 : decode cX10_plead 62 = .ok (.ireturn, 1) := by decide +kernel
theorem wd_943 : (Cond.code ⟨"WebCourt", "plead", "(II)I"⟩ prog_1_method_12_code (3 : Nat) (Option.some FieldType.int)) ∈ gtb := gtb_c4 114 (by decide +kernel) rfl
theorem wd_944 : (Cond.methodLink "WebCourt" (176 : Nat) ⟨"WebCourt$Court", "pleads", "(II)Z"⟩) ∈ gtb := gtb_c4 115 (by decide +kernel) rfl
theorem wd_948 : (Cond.methodLink "WebCourt" (180 : Nat) ⟨"java/lang/Integer", "bitCount", "(I)I"⟩) ∈ gtb := gtb_c4 119 (by decide +kernel) rfl
theorem wd_949 : (Cond.methodLink "WebCourt" (185 : Nat) ⟨"WebCourt", "turnPlea", "(II)I"⟩) ∈ gtb := gtb_c4 120 (by decide +kernel) rfl
theorem wd_951 : (Cond.instanceMethod ⟨"WebCourt", "turnPlea", "(II)I"⟩) ∈ gtb := gtb_c4 122 (by decide +kernel) rfl
theorem wd_31 : (Cond.selects "WebCourt" ⟨"WebCourt", "turnPlea", "(II)I"⟩ ⟨"WebCourt", "turnPlea", "(II)I"⟩) ∈ gtb := gtb_p 31 (by decide +kernel) rfl
theorem hd_yX10_turnPlea : yX10_turnPlea.cls = RX10 ∧ yX10_turnPlea.cls ≠ "java/lang/invoke/MethodHandle" ∧ yX10_turnPlea.cls ≠ "java/lang/invoke/VarHandle" ∧ (parseMethodDescriptor yX10_turnPlea.desc).map (fun d => d.parameters.length) = some 2 := by decide +kernel
set_option maxHeartbeats 4000000 in
set_option maxRecDepth 100000 in
theorem T_X10_plead (l : Launch) (D : va_G) (cy : Nat → ClassId) (a : Nat → Nat) (u : St) (hJ : CI a u) (x1 : Int32) (x2 : Int32)  : Mi l D cy (cW cy a) yX10_plead (.code yX10_plead cX10_plead 3 (some .int)) (rmo 5 121) [.ref (a 0), .int x1, .int x2] u (fun (r : Int32) (u' : St) => (CI a u') ∧ (KT u u')) := by
  refine Mi.of (own := RX10) rfl (by decide) (Nat.le_of_ble_eq_true rfl) ?_
  have hT : KT u u := KT.rf
  intro p e s m below meth c A Q ls C hret hO hl
  obtain ⟨hx, hb, hml, hown, ht, hK, hA⟩ := id C
  have hl : lv_has ls 3 [(0, .ref (a 0)), (1, .int x1), (2, .int x2)] := hl
  refine lv_aload_n hx hb dX10_plead_0 rfl (lv_at hl 0 rfl) ?_
  refine gf_RX10_37 (v := .ref (a 28)) C hO 0 cW_0 rfl dX10_plead_1 ?_
  refine lv_iload_n hx hb dX10_plead_4 rfl (lv_at hl 1 rfl) ?_
  refine cVi (w := cW cy a) (As := [.int x1]) (rest := []) C hO (T_X2_hasCase l D cy a _ (by exact hJ) (x1)) (cwV 1 ht (gV wd_841 wd_842 wd_843 wd_115 wd_844) rfl rfl rfl hd_yX2_hasCase ⟨Nat.le_of_ble_eq_true rfl, Nat.le_of_ble_eq_true rfl⟩) 28 rfl cW_28 rfl rfl hl.1 (Nat.le_of_ble_eq_true rfl) dX10_plead_5 rfl ⟨Nat.zero_le _, Nat.zero_le _⟩ (fun r1 u2 H locs hp3 hO => ?_)
  obtain ⟨hr1, hu2⟩ := hp3
  rw [hu2] at hO
  rcases hr1 with ⟨hcr1, hvr1⟩ | ⟨hcr1, hvr1⟩
  · subst hvr1
    refine bn_eq (X := 1) hx hb dX10_plead_8 rfl (by omega) ?_ (tgt := 53) (by decide)
    refine lv_aload_n hx hb dX10_plead_11 rfl (lv_at hl 0 rfl) ?_
    refine gf_RX10_37 (v := .ref (a 28)) C hO 0 cW_0 rfl dX10_plead_12 ?_
    refine lv_iload_n hx hb dX10_plead_15 rfl (lv_at hl 2 rfl) ?_
    refine cVi (w := cW cy a) (As := [.int x2]) (rest := []) C hO (T_X2_hasPlea l D cy a _ (by exact hJ) (x2)) (cwV 1 ht (gV wd_833 wd_834 wd_835 wd_115 wd_836) rfl rfl rfl hd_yX2_hasPlea ⟨Nat.le_of_ble_eq_true rfl, Nat.le_of_ble_eq_true rfl⟩) 28 rfl cW_28 rfl rfl hl.1 (Nat.le_of_ble_eq_true rfl) dX10_plead_16 rfl ⟨Nat.zero_le _, Nat.zero_le _⟩ (fun r4 u5 H locs hp6 hO => ?_)
    obtain ⟨hr4, hu5⟩ := hp6
    rw [hu5] at hO
    rcases hr4 with ⟨hcr4, hvr4⟩ | ⟨hcr4, hvr4⟩
    · subst hvr4
      refine bn_eq (X := 1) hx hb dX10_plead_19 rfl (by omega) ?_ (tgt := 53) (by decide)
      refine lv_aload_n hx hb dX10_plead_22 rfl (lv_at hl 0 rfl) ?_
      refine gf_RX10_37 (v := .ref (a 28)) C hO 0 cW_0 rfl dX10_plead_23 ?_
      refine lv_iload_n hx hb dX10_plead_26 rfl (lv_at hl 1 rfl) ?_
      refine lv_iload_n hx hb dX10_plead_27 rfl (lv_at hl 2 rfl) ?_
      refine cVi (w := cW cy a) (As := [.int x1, .int x2]) (rest := []) C hO (T_X2_pleads l D cy a _ (by exact hJ) (x1) (x2) (by first | omega | decide)) (cwV 2 ht (gV wd_944 wd_945 wd_946 wd_115 wd_947) rfl rfl rfl hd_yX2_pleads ⟨Nat.le_of_ble_eq_true rfl, Nat.le_of_ble_eq_true rfl⟩) 28 rfl cW_28 rfl rfl hl.1 (Nat.le_of_ble_eq_true rfl) dX10_plead_28 rfl ⟨Nat.zero_le _, Nat.zero_le _⟩ (fun r7 u8 H locs hp9 hO => ?_)
      obtain ⟨hr7, hu8⟩ := hp9
      have gr7 : 0 ≤ r7.toInt ∧ r7.toInt ≤ 1 := by rcases hr7 with h | h <;> rw [h] <;> decide
      rw [hu8] at hO
      refine bs_ne (tgt := 53) (X := (r7).toInt) hx hb dX10_plead_31 (by decide) rfl (fun c10 => ?_) (fun c10 => ?_)
      · refine lv_ldc (v := (-1000000000)) hx hb hown (ht _ wd_895) dX10_plead_53 ?_
        refine hret _ _ _ _ _ _ dX10_plead_55 rfl ?_ hO
        exact ⟨hJ, hT⟩
      · refine lv_aload_n hx hb dX10_plead_34 rfl (lv_at hl 0 rfl) ?_
        refine gf_RX10_37 (v := .ref (a 28)) C hO 0 cW_0 rfl dX10_plead_35 ?_
        refine gf_RX10_150 (v := .ref (a 29)) C hO 28 cW_28 rfl dX10_plead_38 ?_
        refine lv_bipush (v := 11) hx hb dX10_plead_41 (by decide) ?_
        refine lv_iload_n hx hb dX10_plead_43 rfl (lv_at hl 1 rfl) ?_
        have e11 : ((11 + x1)).toInt = 11 + (x1).toInt := i_add rfl rfl (by omega)
        refine lv_iadd hx hb dX10_plead_44 ?_
        refine aI C hO 29 cW_29 (i_in (X := (11 + (x1).toInt)) e11 (by omega) (by omega)) dX10_plead_45 ?_
        refine lv_topi (fun w12 ew12 => ?_)
        refine cSi (w := cW cy a) (As := [.int w12]) (rest := []) C hO (T_J6_bitCount_0f7a4 l D cy a _ (by exact hJ) (w12)) (va_cwS 1 ht (gSS wd_948 wd_870 wd_128 wd_871) rfl rfl rfl hd_yJ6_bitCount_0f7a4 ⟨Nat.le_of_ble_eq_true rfl, Nat.le_of_ble_eq_true rfl⟩)  rfl hl.1 (Nat.le_of_ble_eq_true rfl) dX10_plead_46 rfl ⟨Nat.zero_le _, Nat.zero_le _⟩ (fun r13 u14 H locs hp15 hO => ?_)
        have hu14 := hp15
        rw [hu14] at hO
        refine lv_iconst (v := 4) hx hb dX10_plead_49 (by decide) ?_
        refine cs_lt (tgt := 56) (X := (r13).toInt) (Y := 4) hx hb dX10_plead_50 (by decide) rfl rfl (fun c16 => ?_) (fun c16 => ?_)
        · refine lv_aload_n hx hb dX10_plead_56 rfl (lv_at hl 0 rfl) ?_
          refine lv_iload_n hx hb dX10_plead_57 rfl (lv_at hl 1 rfl) ?_
          refine lv_iload_n hx hb dX10_plead_58 rfl (lv_at hl 2 rfl) ?_
          refine cVi (w := cW cy a) (As := [.int x1, .int x2]) (rest := []) C hO (T_X10_turnPlea l D cy a _ (by exact hJ) (x1) (x2) (by first | omega | decide)) (cwV 2 ht (gV wd_949 wd_951 wd_31 wd_110 wd_952) rfl rfl rfl hd_yX10_turnPlea ⟨Nat.le_of_ble_eq_true rfl, Nat.le_of_ble_eq_true rfl⟩) 0 rfl cW_0 rfl rfl hl.1 (Nat.le_of_ble_eq_true rfl) dX10_plead_59 rfl ⟨Nat.zero_le _, Nat.zero_le _⟩ (fun r17 u18 H locs hp19 hO => ?_)
          obtain ⟨hJ, hTu18⟩ := hp19
          have hT : KT u u18 := KT.tr (by exact hT) hTu18
          refine hret _ _ _ _ _ _ dX10_plead_62 rfl ?_ hO
          exact ⟨hJ, hT⟩
        · refine lv_ldc (v := (-1000000000)) hx hb hown (ht _ wd_895) dX10_plead_53 ?_
          refine hret _ _ _ _ _ _ dX10_plead_55 rfl ?_ hO
          exact ⟨hJ, hT⟩
    · subst hvr4
      refine bt_eq (tgt := 53) (X := 0) hx hb dX10_plead_19 (by decide) rfl (by omega) ?_
      refine lv_ldc (v := (-1000000000)) hx hb hown (ht _ wd_895) dX10_plead_53 ?_
      refine hret _ _ _ _ _ _ dX10_plead_55 rfl ?_ hO
      exact ⟨hJ, hT⟩
  · subst hvr1
    refine bt_eq (tgt := 53) (X := 0) hx hb dX10_plead_8 (by decide) rfl (by omega) ?_
    refine lv_ldc (v := (-1000000000)) hx hb hown (ht _ wd_895) dX10_plead_53 ?_
    refine hret _ _ _ _ _ _ dX10_plead_55 rfl ?_ hO
    exact ⟨hJ, hT⟩
theorem dX10_drop_0 : decode cX10_drop 0 = .ok (.aload_n 0, 1) := by decide +kernel
theorem dX10_drop_1 : decode cX10_drop 1 = .ok (.getfield 37, 3) := by decide +kernel
theorem dX10_drop_4 : decode cX10_drop 4 = .ok (.iload_n 1, 1) := by decide +kernel
theorem dX10_drop_5 : decode cX10_drop 5 = .ok (.invokevirtual 144, 3) := by decide +kernel
theorem dX10_drop_8 : decode cX10_drop 8 = .ok (.ifCond .eq 45, 3) := by decide +kernel
theorem dX10_drop_11 : decode cX10_drop 11 = .ok (.aload_n 0, 1) := by decide +kernel
theorem dX10_drop_12 : decode cX10_drop 12 = .ok (.getfield 37, 3) := by decide +kernel
theorem dX10_drop_15 : decode cX10_drop 15 = .ok (.iload_n 2, 1) := by decide +kernel
theorem dX10_drop_16 : decode cX10_drop 16 = .ok (.invokevirtual 138, 3) := by decide +kernel
theorem dX10_drop_19 : decode cX10_drop 19 = .ok (.ifCond .eq 34, 3) := by decide +kernel
theorem dX10_drop_22 : decode cX10_drop 22 = .ok (.aload_n 0, 1) := by decide +kernel
theorem dX10_drop_23 : decode cX10_drop 23 = .ok (.getfield 37, 3) := by decide +kernel
theorem dX10_drop_26 : decode cX10_drop 26 = .ok (.iload_n 1, 1) := by decide +kernel
theorem dX10_drop_27 : decode cX10_drop 27 = .ok (.iload_n 2, 1) := by decide +kernel
theorem dX10_drop_28 : decode cX10_drop 28 = .ok (.invokevirtual 176, 3) := by decide +kernel
theorem dX10_drop_31 : decode cX10_drop 31 = .ok (.ifCond .eq 22, 3) := by decide +kernel
theorem dX10_drop_34 : decode cX10_drop 34 = .ok (.aload_n 0, 1) := by decide +kernel
theorem dX10_drop_35 : decode cX10_drop 35 = .ok (.getfield 37, 3) := by decide +kernel
theorem dX10_drop_38 : decode cX10_drop 38 = .ok (.getfield 150, 3) := by decide +kernel
theorem dX10_drop_41 : decode cX10_drop 41 = .ok (.bipush 11, 2) := by decide +kernel
theorem dX10_drop_43 : decode cX10_drop 43 = .ok (.iload_n 1, 1) := by decide +kernel
theorem dX10_drop_44 : decode cX10_drop 44 = .ok (.iadd, 1) := by decide +kernel
theorem dX10_drop_45 : decode cX10_drop 45 = .ok (.iaload, 1) := by decide +kernel
theorem dX10_drop_46 : decode cX10_drop 46 = .ok (.invokestatic 180, 3) := by decide +kernel
theorem dX10_drop_49 : decode cX10_drop 49 = .ok (.iconst 1, 1) := by decide +kernel
theorem dX10_drop_50 : decode cX10_drop 50 = .ok (.if_icmp .gt 6, 3) := by decide +kernel
theorem dX10_drop_53 : decode cX10_drop 53 = .ok (.ldc 159, 2) := by decide +kernel
theorem dX10_drop_55 : decode cX10_drop 55 = .ok (.ireturn, 1) := by decide +kernel
theorem dX10_drop_56 : decode cX10_drop 56 = .ok (.aload_n 0, 1) := by decide +kernel
theorem dX10_drop_57 : decode cX10_drop 57 = .ok (.iload_n 1, 1) := by decide +kernel
theorem dX10_drop_58 : decode cX10_drop 58 = .ok (.iload_n 2, 1) := by decide +kernel
theorem dX10_drop_59 : decode cX10_drop 59 = .ok (.invokevirtual 185, 3) := by decide +kernel
theorem dX10_drop_62 : decode cX10_drop 62 = .ok (.ireturn, 1) := by decide +kernel
theorem wd_956 : (Cond.code ⟨"WebCourt", "drop", "(II)I"⟩ prog_1_method_13_code (3 : Nat) (Option.some FieldType.int)) ∈ gtb := gtb_c4 127 (by decide +kernel) rfl
set_option maxHeartbeats 4000000 in
set_option maxRecDepth 100000 in
theorem T_X10_drop (l : Launch) (D : va_G) (cy : Nat → ClassId) (a : Nat → Nat) (u : St) (hJ : CI a u) (x1 : Int32) (x2 : Int32)  : Mi l D cy (cW cy a) yX10_drop (.code yX10_drop cX10_drop 3 (some .int)) (rmo 5 121) [.ref (a 0), .int x1, .int x2] u (fun (r : Int32) (u' : St) => (CI a u') ∧ (KT u u')) := by
  refine Mi.of (own := RX10) rfl (by decide) (Nat.le_of_ble_eq_true rfl) ?_
  have hT : KT u u := KT.rf
  intro p e s m below meth c A Q ls C hret hO hl
  obtain ⟨hx, hb, hml, hown, ht, hK, hA⟩ := id C
  have hl : lv_has ls 3 [(0, .ref (a 0)), (1, .int x1), (2, .int x2)] := hl
  refine lv_aload_n hx hb dX10_drop_0 rfl (lv_at hl 0 rfl) ?_
  refine gf_RX10_37 (v := .ref (a 28)) C hO 0 cW_0 rfl dX10_drop_1 ?_
  refine lv_iload_n hx hb dX10_drop_4 rfl (lv_at hl 1 rfl) ?_
  refine cVi (w := cW cy a) (As := [.int x1]) (rest := []) C hO (T_X2_hasCase l D cy a _ (by exact hJ) (x1)) (cwV 1 ht (gV wd_841 wd_842 wd_843 wd_115 wd_844) rfl rfl rfl hd_yX2_hasCase ⟨Nat.le_of_ble_eq_true rfl, Nat.le_of_ble_eq_true rfl⟩) 28 rfl cW_28 rfl rfl hl.1 (Nat.le_of_ble_eq_true rfl) dX10_drop_5 rfl ⟨Nat.zero_le _, Nat.zero_le _⟩ (fun r1 u2 H locs hp3 hO => ?_)
  obtain ⟨hr1, hu2⟩ := hp3
  rw [hu2] at hO
  rcases hr1 with ⟨hcr1, hvr1⟩ | ⟨hcr1, hvr1⟩
  · subst hvr1
    refine bn_eq (X := 1) hx hb dX10_drop_8 rfl (by omega) ?_ (tgt := 53) (by decide)
    refine lv_aload_n hx hb dX10_drop_11 rfl (lv_at hl 0 rfl) ?_
    refine gf_RX10_37 (v := .ref (a 28)) C hO 0 cW_0 rfl dX10_drop_12 ?_
    refine lv_iload_n hx hb dX10_drop_15 rfl (lv_at hl 2 rfl) ?_
    refine cVi (w := cW cy a) (As := [.int x2]) (rest := []) C hO (T_X2_hasPlea l D cy a _ (by exact hJ) (x2)) (cwV 1 ht (gV wd_833 wd_834 wd_835 wd_115 wd_836) rfl rfl rfl hd_yX2_hasPlea ⟨Nat.le_of_ble_eq_true rfl, Nat.le_of_ble_eq_true rfl⟩) 28 rfl cW_28 rfl rfl hl.1 (Nat.le_of_ble_eq_true rfl) dX10_drop_16 rfl ⟨Nat.zero_le _, Nat.zero_le _⟩ (fun r4 u5 H locs hp6 hO => ?_)
    obtain ⟨hr4, hu5⟩ := hp6
    rw [hu5] at hO
    rcases hr4 with ⟨hcr4, hvr4⟩ | ⟨hcr4, hvr4⟩
    · subst hvr4
      refine bn_eq (X := 1) hx hb dX10_drop_19 rfl (by omega) ?_ (tgt := 53) (by decide)
      refine lv_aload_n hx hb dX10_drop_22 rfl (lv_at hl 0 rfl) ?_
      refine gf_RX10_37 (v := .ref (a 28)) C hO 0 cW_0 rfl dX10_drop_23 ?_
      refine lv_iload_n hx hb dX10_drop_26 rfl (lv_at hl 1 rfl) ?_
      refine lv_iload_n hx hb dX10_drop_27 rfl (lv_at hl 2 rfl) ?_
      refine cVi (w := cW cy a) (As := [.int x1, .int x2]) (rest := []) C hO (T_X2_pleads l D cy a _ (by exact hJ) (x1) (x2) (by first | omega | decide)) (cwV 2 ht (gV wd_944 wd_945 wd_946 wd_115 wd_947) rfl rfl rfl hd_yX2_pleads ⟨Nat.le_of_ble_eq_true rfl, Nat.le_of_ble_eq_true rfl⟩) 28 rfl cW_28 rfl rfl hl.1 (Nat.le_of_ble_eq_true rfl) dX10_drop_28 rfl ⟨Nat.zero_le _, Nat.zero_le _⟩ (fun r7 u8 H locs hp9 hO => ?_)
      obtain ⟨hr7, hu8⟩ := hp9
      have gr7 : 0 ≤ r7.toInt ∧ r7.toInt ≤ 1 := by rcases hr7 with h | h <;> rw [h] <;> decide
      rw [hu8] at hO
      refine bs_eq (tgt := 53) (X := (r7).toInt) hx hb dX10_drop_31 (by decide) rfl (fun c10 => ?_) (fun c10 => ?_)
      · refine lv_ldc (v := (-1000000000)) hx hb hown (ht _ wd_895) dX10_drop_53 ?_
        refine hret _ _ _ _ _ _ dX10_drop_55 rfl ?_ hO
        exact ⟨hJ, hT⟩
      · refine lv_aload_n hx hb dX10_drop_34 rfl (lv_at hl 0 rfl) ?_
        refine gf_RX10_37 (v := .ref (a 28)) C hO 0 cW_0 rfl dX10_drop_35 ?_
        refine gf_RX10_150 (v := .ref (a 29)) C hO 28 cW_28 rfl dX10_drop_38 ?_
        refine lv_bipush (v := 11) hx hb dX10_drop_41 (by decide) ?_
        refine lv_iload_n hx hb dX10_drop_43 rfl (lv_at hl 1 rfl) ?_
        have e11 : ((11 + x1)).toInt = 11 + (x1).toInt := i_add rfl rfl (by omega)
        refine lv_iadd hx hb dX10_drop_44 ?_
        refine aI C hO 29 cW_29 (i_in (X := (11 + (x1).toInt)) e11 (by omega) (by omega)) dX10_drop_45 ?_
        refine lv_topi (fun w12 ew12 => ?_)
        refine cSi (w := cW cy a) (As := [.int w12]) (rest := []) C hO (T_J6_bitCount_0f7a4 l D cy a _ (by exact hJ) (w12)) (va_cwS 1 ht (gSS wd_948 wd_870 wd_128 wd_871) rfl rfl rfl hd_yJ6_bitCount_0f7a4 ⟨Nat.le_of_ble_eq_true rfl, Nat.le_of_ble_eq_true rfl⟩)  rfl hl.1 (Nat.le_of_ble_eq_true rfl) dX10_drop_46 rfl ⟨Nat.zero_le _, Nat.zero_le _⟩ (fun r13 u14 H locs hp15 hO => ?_)
        have hu14 := hp15
        rw [hu14] at hO
        refine lv_iconst (v := 1) hx hb dX10_drop_49 (by decide) ?_
        refine cs_gt (tgt := 56) (X := (r13).toInt) (Y := 1) hx hb dX10_drop_50 (by decide) rfl rfl (fun c16 => ?_) (fun c16 => ?_)
        · refine lv_aload_n hx hb dX10_drop_56 rfl (lv_at hl 0 rfl) ?_
          refine lv_iload_n hx hb dX10_drop_57 rfl (lv_at hl 1 rfl) ?_
          refine lv_iload_n hx hb dX10_drop_58 rfl (lv_at hl 2 rfl) ?_
          refine cVi (w := cW cy a) (As := [.int x1, .int x2]) (rest := []) C hO (T_X10_turnPlea l D cy a _ (by exact hJ) (x1) (x2) (by first | omega | decide)) (cwV 2 ht (gV wd_949 wd_951 wd_31 wd_110 wd_952) rfl rfl rfl hd_yX10_turnPlea ⟨Nat.le_of_ble_eq_true rfl, Nat.le_of_ble_eq_true rfl⟩) 0 rfl cW_0 rfl rfl hl.1 (Nat.le_of_ble_eq_true rfl) dX10_drop_59 rfl ⟨Nat.zero_le _, Nat.zero_le _⟩ (fun r17 u18 H locs hp19 hO => ?_)
          obtain ⟨hJ, hTu18⟩ := hp19
          have hT : KT u u18 := KT.tr (by exact hT) hTu18
          refine hret _ _ _ _ _ _ dX10_drop_62 rfl ?_ hO
          exact ⟨hJ, hT⟩
        · refine lv_ldc (v := (-1000000000)) hx hb hown (ht _ wd_895) dX10_drop_53 ?_
          refine hret _ _ _ _ _ _ dX10_drop_55 rfl ?_ hO
          exact ⟨hJ, hT⟩
    · subst hvr4
      refine bt_eq (tgt := 53) (X := 0) hx hb dX10_drop_19 (by decide) rfl (by omega) ?_
      refine lv_ldc (v := (-1000000000)) hx hb hown (ht _ wd_895) dX10_drop_53 ?_
      refine hret _ _ _ _ _ _ dX10_drop_55 rfl ?_ hO
      exact ⟨hJ, hT⟩
  · subst hvr1
    refine bt_eq (tgt := 53) (X := 0) hx hb dX10_drop_8 (by decide) rfl (by omega) ?_
    refine lv_ldc (v := (-1000000000)) hx hb hown (ht _ wd_895) dX10_drop_53 ?_
    refine hret _ _ _ _ _ _ dX10_drop_55 rfl ?_ hO
    exact ⟨hJ, hT⟩
theorem dX10_grab_0 : decode cX10_grab 0 = .ok (.aload_n 0, 1) := by decide +kernel
theorem dX10_grab_1 : decode cX10_grab 1 = .ok (.getfield 37, 3) := by decide +kernel
theorem dX10_grab_4 : decode cX10_grab 4 = .ok (.iload_n 1, 1) := by decide +kernel
theorem dX10_grab_5 : decode cX10_grab 5 = .ok (.invokevirtual 144, 3) := by decide +kernel
theorem dX10_grab_8 : decode cX10_grab 8 = .ok (.ifCond .eq 14, 3) := by decide +kernel
theorem dX10_grab_11 : decode cX10_grab 11 = .ok (.aload_n 0, 1) := by decide +kernel
theorem dX10_grab_12 : decode cX10_grab 12 = .ok (.getfield 37, 3) := by decide +kernel
theorem dX10_grab_15 : decode cX10_grab 15 = .ok (.iload_n 1, 1) := by decide +kernel
theorem dX10_grab_16 : decode cX10_grab 16 = .ok (.invokevirtual 189, 3) := by decide +kernel
theorem dX10_grab_19 : decode cX10_grab 19 = .ok (.ifCond .eq 5, 3) := by decide +kernel
theorem dX10_grab_22 : decode cX10_grab 22 = .ok (.iconst (-1), 1) := by decide +kernel
theorem dX10_grab_23 : decode cX10_grab 23 = .ok (.ireturn, 1) := by decide +kernel
theorem dX10_grab_24 : decode cX10_grab 24 = .ok (.aload_n 0, 1) := by decide +kernel
theorem dX10_grab_25 : decode cX10_grab 25 = .ok (.getfield 44, 3) := by decide +kernel
theorem dX10_grab_28 : decode cX10_grab 28 = .ok (.aload_n 0, 1) := by decide +kernel
theorem dX10_grab_29 : decode cX10_grab 29 = .ok (.getfield 37, 3) := by decide +kernel
theorem dX10_grab_32 : decode cX10_grab 32 = .ok (.getfield 150, 3) := by decide +kernel
theorem dX10_grab_35 : decode cX10_grab 35 = .ok (.invokevirtual 163, 3) := by decide +kernel
theorem dX10_grab_38 : decode cX10_grab 38 = .ok (.aload_n 0, 1) := by decide +kernel
theorem dX10_grab_39 : decode cX10_grab 39 = .ok (.getfield 37, 3) := by decide +kernel
theorem dX10_grab_42 : decode cX10_grab 42 = .ok (.getfield 150, 3) := by decide +kernel
theorem dX10_grab_45 : decode cX10_grab 45 = .ok (.iconst 5, 1) := by decide +kernel
theorem dX10_grab_46 : decode cX10_grab 46 = .ok (.iload_n 1, 1) := by decide +kernel
theorem dX10_grab_47 : decode cX10_grab 47 = .ok (.iadd, 1) := by decide +kernel
theorem dX10_grab_48 : decode cX10_grab 48 = .ok (.iconst 0, 1) := by decide +kernel
theorem dX10_grab_49 : decode cX10_grab 49 = .ok (.iastore, 1) := by decide +kernel
theorem dX10_grab_50 : decode cX10_grab 50 = .ok (.aload_n 0, 1) := by decide +kernel
theorem dX10_grab_51 : decode cX10_grab 51 = .ok (.getfield 37, 3) := by decide +kernel
theorem dX10_grab_54 : decode cX10_grab 54 = .ok (.invokevirtual 192, 3) := by decide +kernel
theorem dX10_grab_57 : decode cX10_grab 57 = .ok (.invokestatic 180, 3) := by decide +kernel
theorem dX10_grab_60 : decode cX10_grab 60 = .ok (.ireturn, 1) := by decide +kernel
theorem wd_960 : (Cond.code ⟨"WebCourt", "grab", "(I)I"⟩ prog_1_method_15_code (2 : Nat) (Option.some FieldType.int)) ∈ gtb := gtb_c4 131 (by decide +kernel) rfl
theorem wd_961 : (Cond.methodLink "WebCourt" (189 : Nat) ⟨"WebCourt$Court", "isHeld", "(I)Z"⟩) ∈ gtb := gtb_c4 132 (by decide +kernel) rfl
theorem wd_962 : (Cond.methodLink "WebCourt" (192 : Nat) ⟨"WebCourt$Court", "held", "()I"⟩) ∈ gtb := gtb_c4 133 (by decide +kernel) rfl
set_option maxHeartbeats 4000000 in
set_option maxRecDepth 100000 in
theorem T_X10_grab (l : Launch) (D : va_G) (cy : Nat → ClassId) (a : Nat → Nat) (u : St) (hJ : CI a u) (x1 : Int32)  : Mi l D cy (cW cy a) yX10_grab (.code yX10_grab cX10_grab 2 (some .int)) (rmo 2 43) [.ref (a 0), .int x1] u (fun (r : Int32) (u' : St) => (CI a u') ∧ (KT u u')) := by
  refine Mi.of (own := RX10) rfl (by decide) (Nat.le_of_ble_eq_true rfl) ?_
  have hT : KT u u := KT.rf
  intro p e s m below meth c A Q ls C hret hO hl
  obtain ⟨hx, hb, hml, hown, ht, hK, hA⟩ := id C
  have hl : lv_has ls 2 [(0, .ref (a 0)), (1, .int x1)] := hl
  refine lv_aload_n hx hb dX10_grab_0 rfl (lv_at hl 0 rfl) ?_
  refine gf_RX10_37 (v := .ref (a 28)) C hO 0 cW_0 rfl dX10_grab_1 ?_
  refine lv_iload_n hx hb dX10_grab_4 rfl (lv_at hl 1 rfl) ?_
  refine cVi (w := cW cy a) (As := [.int x1]) (rest := []) C hO (T_X2_hasCase l D cy a _ (by exact hJ) (x1)) (cwV 1 ht (gV wd_841 wd_842 wd_843 wd_115 wd_844) rfl rfl rfl hd_yX2_hasCase ⟨Nat.le_of_ble_eq_true rfl, Nat.le_of_ble_eq_true rfl⟩) 28 rfl cW_28 rfl rfl hl.1 (Nat.le_of_ble_eq_true rfl) dX10_grab_5 rfl ⟨Nat.zero_le _, Nat.zero_le _⟩ (fun r1 u2 H locs hp3 hO => ?_)
  obtain ⟨hr1, hu2⟩ := hp3
  rw [hu2] at hO
  rcases hr1 with ⟨hcr1, hvr1⟩ | ⟨hcr1, hvr1⟩
  · subst hvr1
    refine bn_eq (X := 1) hx hb dX10_grab_8 rfl (by omega) ?_ (tgt := 22) (by decide)
    refine lv_aload_n hx hb dX10_grab_11 rfl (lv_at hl 0 rfl) ?_
    refine gf_RX10_37 (v := .ref (a 28)) C hO 0 cW_0 rfl dX10_grab_12 ?_
    refine lv_iload_n hx hb dX10_grab_15 rfl (lv_at hl 1 rfl) ?_
    refine cVi (w := cW cy a) (As := [.int x1]) (rest := []) C hO (T_X2_isHeld l D cy a _ (by exact hJ) (x1)) (cwV 1 ht (gV wd_961 wd_930 wd_931 wd_115 wd_932) rfl rfl rfl hd_yX2_isHeld ⟨Nat.le_of_ble_eq_true rfl, Nat.le_of_ble_eq_true rfl⟩) 28 rfl cW_28 rfl rfl hl.1 (Nat.le_of_ble_eq_true rfl) dX10_grab_16 rfl ⟨Nat.zero_le _, Nat.zero_le _⟩ (fun r4 u5 H locs hp6 hO => ?_)
    obtain ⟨hr4, hu5⟩ := hp6
    rw [hu5] at hO
    rcases hr4 with ⟨hcr4, hvr4⟩ | ⟨hcr4, hvr4⟩
    · subst hvr4
      refine bn_eq (X := 1) hx hb dX10_grab_19 rfl (by omega) ?_ (tgt := 24) (by decide)
      refine lv_iconst (v := (-1)) hx hb dX10_grab_22 (by decide) ?_
      refine hret _ _ _ _ _ _ dX10_grab_23 rfl ?_ hO
      exact ⟨hJ, hT⟩
    · subst hvr4
      refine bt_eq (tgt := 24) (X := 0) hx hb dX10_grab_19 (by decide) rfl (by omega) ?_
      refine lv_aload_n hx hb dX10_grab_24 rfl (lv_at hl 0 rfl) ?_
      refine gf_RX10_44 (v := .ref (a 30)) C hO 0 cW_0 rfl dX10_grab_25 ?_
      refine lv_aload_n hx hb dX10_grab_28 rfl (lv_at hl 0 rfl) ?_
      refine gf_RX10_37 (v := .ref (a 28)) C hO 0 cW_0 rfl dX10_grab_29 ?_
      refine gf_RX10_150 (v := .ref (a 29)) C hO 28 cW_28 rfl dX10_grab_32 ?_
      refine cVv (w := cW cy a) (As := [.ref (a 29)]) (rest := []) C hO (T_X0_keep l D cy a _ (by exact hJ)) (cwV 1 ht (gV wd_906 wd_907 wd_908 wd_116 wd_909) rfl rfl rfl hd_yX0_keep ⟨Nat.le_of_ble_eq_true rfl, Nat.le_of_ble_eq_true rfl⟩) 30 rfl cW_30 rfl rfl hl.1 (Nat.le_of_ble_eq_true rfl) dX10_grab_35 rfl ⟨Nat.zero_le _, Nat.zero_le _⟩ (fun u8 H locs hp9 hO => ?_)
      obtain ⟨hJ, hTu8⟩ := hp9
      have hT : KT u u8 := KT.tr (by exact hT) hTu8
      refine lv_aload_n hx hb dX10_grab_38 rfl (lv_at hl 0 rfl) ?_
      refine gf_RX10_37 (v := .ref (a 28)) C hO 0 cW_0 rfl dX10_grab_39 ?_
      refine gf_RX10_150 (v := .ref (a 29)) C hO 28 cW_28 rfl dX10_grab_42 ?_
      refine lv_iconst (v := 5) hx hb dX10_grab_45 (by decide) ?_
      refine lv_iload_n hx hb dX10_grab_46 rfl (lv_at hl 1 rfl) ?_
      have e10 : ((5 + x1)).toInt = 5 + (x1).toInt := i_add rfl rfl (by omega)
      refine lv_iadd hx hb dX10_grab_47 ?_
      refine lv_iconst (v := 0) hx hb dX10_grab_48 (by decide) ?_
      refine aIs C hO 29 cW_29 (i_in (X := (5 + (x1).toInt)) e10 (by omega) (by omega)) cW_s29 dX10_grab_49 (fun H locs hO => ?_)
      have hJ := CIsA hO hJ
      refine lv_aload_n hx hb dX10_grab_50 rfl (lv_at hl 0 rfl) ?_
      refine gf_RX10_37 (v := .ref (a 28)) C hO 0 cW_0 rfl dX10_grab_51 ?_
      refine cVi (w := cW cy a) (As := []) (rest := []) C hO (T_X2_held l D cy a _ (by exact hJ)) (cwV 0 ht (gV wd_962 wd_858 wd_859 wd_115 wd_860) rfl rfl rfl hd_yX2_held ⟨Nat.le_of_ble_eq_true rfl, Nat.le_of_ble_eq_true rfl⟩) 28 rfl cW_28 rfl rfl hl.1 (Nat.le_of_ble_eq_true rfl) dX10_grab_54 rfl ⟨Nat.zero_le _, Nat.zero_le _⟩ (fun r11 u12 H locs hp13 hO => ?_)
      obtain ⟨hr11, hu12⟩ := hp13
      rw [hu12] at hO
      refine cSi (w := cW cy a) (As := [.int r11]) (rest := []) C hO (T_J6_bitCount_0f7a4 l D cy a _ (by exact hJ) (r11)) (va_cwS 1 ht (gSS wd_948 wd_870 wd_128 wd_871) rfl rfl rfl hd_yJ6_bitCount_0f7a4 ⟨Nat.le_of_ble_eq_true rfl, Nat.le_of_ble_eq_true rfl⟩)  rfl hl.1 (Nat.le_of_ble_eq_true rfl) dX10_grab_57 rfl ⟨Nat.zero_le _, Nat.zero_le _⟩ (fun r14 u15 H locs hp16 hO => ?_)
      have hu15 := hp16
      rw [hu15] at hO
      refine hret _ _ _ _ _ _ dX10_grab_60 rfl ?_ hO
      exact ⟨hJ, hT⟩
  · subst hvr1
    refine bt_eq (tgt := 22) (X := 0) hx hb dX10_grab_8 (by decide) rfl (by omega) ?_
    refine lv_iconst (v := (-1)) hx hb dX10_grab_22 (by decide) ?_
    refine hret _ _ _ _ _ _ dX10_grab_23 rfl ?_ hO
    exact ⟨hJ, hT⟩
theorem dX10_spin_0 : decode cX10_spin 0 = .ok (.iload_n 1, 1) := by decide +kernel
theorem dX10_spin_1 : decode cX10_spin 1 = .ok (.ifCond .lt 17, 3) := by decide +kernel
theorem dX10_spin_4 : decode cX10_spin 4 = .ok (.iload_n 1, 1) := by decide +kernel
theorem dX10_spin_5 : decode cX10_spin 5 = .ok (.aload_n 0, 1) := by decide +kernel
theorem dX10_spin_6 : decode cX10_spin 6 = .ok (.getfield 37, 3) := by decide +kernel
theorem dX10_spin_9 : decode cX10_spin 9 = .ok (.getfield 101, 3) := by decide +kernel
theorem dX10_spin_12 : decode cX10_spin 12 = .ok (.getfield 196, 3) := by decide +kernel
theorem dX10_spin_15 : decode cX10_spin 15 = .ok (.if_icmp .lt 5, 3) := by decide +kernel
theorem dX10_spin_18 : decode cX10_spin 18 = .ok (.iconst (-1), 1) := by decide +kernel
theorem dX10_spin_19 : decode cX10_spin 19 = .ok (.ireturn, 1) := by decide +kernel
theorem dX10_spin_20 : decode cX10_spin 20 = .ok (.aload_n 0, 1) := by decide +kernel
theorem dX10_spin_21 : decode cX10_spin 21 = .ok (.getfield 44, 3) := by decide +kernel
theorem dX10_spin_24 : decode cX10_spin 24 = .ok (.aload_n 0, 1) := by decide +kernel
theorem dX10_spin_25 : decode cX10_spin 25 = .ok (.getfield 37, 3) := by decide +kernel
theorem dX10_spin_28 : decode cX10_spin 28 = .ok (.getfield 150, 3) := by decide +kernel
theorem dX10_spin_31 : decode cX10_spin 31 = .ok (.invokevirtual 163, 3) := by decide +kernel
theorem dX10_spin_34 : decode cX10_spin 34 = .ok (.aload_n 0, 1) := by decide +kernel
theorem dX10_spin_35 : decode cX10_spin 35 = .ok (.getfield 37, 3) := by decide +kernel
theorem dX10_spin_38 : decode cX10_spin 38 = .ok (.getfield 150, 3) := by decide +kernel
theorem dX10_spin_41 : decode cX10_spin 41 = .ok (.iconst 4, 1) := by decide +kernel
theorem dX10_spin_42 : decode cX10_spin 42 = .ok (.dup2, 1) := by decide +kernel
theorem dX10_spin_43 : decode cX10_spin 43 = .ok (.iaload, 1) := by decide +kernel
theorem dX10_spin_44 : decode cX10_spin 44 = .ok (.iconst 1, 1) := by decide +kernel
theorem dX10_spin_45 : decode cX10_spin 45 = .ok (.iload_n 1, 1) := by decide +kernel
theorem dX10_spin_46 : decode cX10_spin 46 = .ok (.ishl, 1) := by decide +kernel
theorem dX10_spin_47 : decode cX10_spin 47 = .ok (.ixor, 1) := by decide +kernel
theorem dX10_spin_48 : decode cX10_spin 48 = .ok (.iastore, 1) := by decide +kernel
theorem dX10_spin_49 : decode cX10_spin 49 = .ok (.aload_n 0, 1) := by decide +kernel
theorem dX10_spin_50 : decode cX10_spin 50 = .ok (.getfield 37, 3) := by decide +kernel
theorem dX10_spin_53 : decode cX10_spin 53 = .ok (.getfield 150, 3) := by decide +kernel
theorem dX10_spin_56 : decode cX10_spin 56 = .ok (.iconst 4, 1) := by decide +kernel
theorem dX10_spin_57 : decode cX10_spin 57 = .ok (.iaload, 1) := by decide +kernel
theorem dX10_spin_58 : decode cX10_spin 58 = .ok (.iload_n 1, 1) := by decide +kernel
theorem dX10_spin_59 : decode cX10_spin 59 = .ok (.ishr, 1) := by decide +kernel
theorem dX10_spin_60 : decode cX10_spin 60 = .ok (.iconst 1, 1) := by decide +kernel
theorem dX10_spin_61 : decode cX10_spin 61 = .ok (.iand, 1) := by decide +kernel
theorem dX10_spin_62 : decode cX10_spin 62 = .ok (.ireturn, 1) := by decide +kernel
theorem wd_966 : (Cond.code ⟨"WebCourt", "spin", "(I)I"⟩ prog_1_method_16_code (2 : Nat) (Option.some FieldType.int)) ∈ gtb := gtb_c4 137 (by decide +kernel) rfl
theorem wd_260 : (Cond.fieldLink "WebCourt" (196 : Nat) "WebCourt$Web" "lines" "I") ∈ gtb := gtb_c1 151 (by decide +kernel) rfl
theorem gf_RX10_196 {p : Program} {l : Launch} {e : Env} {R : Room} {s : State} {m : MethodId} {args : Array Value} {below : List Frame} {meth : Method} {c : Code} {H : Heap} {locs : List Loc} {cells slots : Nat} {Q : State → Prop} {cc : ByteArray} {pc nL : Nat} {ls : Array Slot} {rest : List Value} {D : va_G} {cy : Nat → ClassId} {A : Nat → Prop} {ws : va_W} {b : Nat} {fs : List Value} {v : Value} (C : Cx p s m args c cc nL RX10 D cy A) (hO : Wo D A ws s.heap H locs) (q0 : Nat) (he : ws[q0]? = some (b, .inr (9, fs))) (hv : fs[10]? = some v) (hdg : decode cc pc = .ok (.getfield 196, 3)) (kk : W p l e R s m args below meth c H locs cells slots Q (F0 m (pc + 3) ls (v :: rest))) : W p l e R s m args below meth c H locs cells slots Q (F0 m pc ls (.ref b :: rest)) := gF (k := 10) C hO q0 he rfl inFX9 (by decide) wd_260 rfl hv hdg kk
set_option maxHeartbeats 4000000 in
set_option maxRecDepth 100000 in
theorem T_X10_spin (l : Launch) (D : va_G) (cy : Nat → ClassId) (a : Nat → Nat) (u : St) (hJ : CI a u) (x1 : Int32)  : Mi l D cy (cW cy a) yX10_spin (.code yX10_spin cX10_spin 2 (some .int)) (rmo 2 43) [.ref (a 0), .int x1] u (fun (r : Int32) (u' : St) => (CI a u') ∧ (KT u u')) := by
  refine Mi.of (own := RX10) rfl (by decide) (Nat.le_of_ble_eq_true rfl) ?_
  have hT : KT u u := KT.rf
  intro p e s m below meth c A Q ls C hret hO hl
  obtain ⟨hx, hb, hml, hown, ht, hK, hA⟩ := id C
  have hl : lv_has ls 2 [(0, .ref (a 0)), (1, .int x1)] := hl
  refine lv_iload_n hx hb dX10_spin_0 rfl (lv_at hl 1 rfl) ?_
  refine bs_lt (tgt := 18) (X := (x1).toInt) hx hb dX10_spin_1 (by decide) rfl (fun c1 => ?_) (fun c1 => ?_)
  · refine lv_iconst (v := (-1)) hx hb dX10_spin_18 (by decide) ?_
    refine hret _ _ _ _ _ _ dX10_spin_19 rfl ?_ hO
    exact ⟨hJ, hT⟩
  · refine lv_iload_n hx hb dX10_spin_4 rfl (lv_at hl 1 rfl) ?_
    refine lv_aload_n hx hb dX10_spin_5 rfl (lv_at hl 0 rfl) ?_
    refine gf_RX10_37 (v := .ref (a 28)) C hO 0 cW_0 rfl dX10_spin_6 ?_
    refine gf_RX10_101 (v := .ref (a 3)) C hO 28 cW_28 (congrArg (fun z : Nat => some (Value.ref z)) (CI_R0 hJ)) dX10_spin_9 ?_
    have g2 : 0 ≤ (fI u 3 10).toInt ∧ (fI u 3 10).toInt ≤ 14 := by have h := CI_3_10 hJ; exact h
    refine gf_RX10_196 (v := .int (fI u 3 10)) C hO 3 cW_3 rfl dX10_spin_12 ?_
    refine cs_lt (tgt := 20) (X := (x1).toInt) (Y := ((fI u 3 10)).toInt) hx hb dX10_spin_15 (by decide) rfl rfl (fun c3 => ?_) (fun c3 => ?_)
    · refine lv_aload_n hx hb dX10_spin_20 rfl (lv_at hl 0 rfl) ?_
      refine gf_RX10_44 (v := .ref (a 30)) C hO 0 cW_0 rfl dX10_spin_21 ?_
      refine lv_aload_n hx hb dX10_spin_24 rfl (lv_at hl 0 rfl) ?_
      refine gf_RX10_37 (v := .ref (a 28)) C hO 0 cW_0 rfl dX10_spin_25 ?_
      refine gf_RX10_150 (v := .ref (a 29)) C hO 28 cW_28 rfl dX10_spin_28 ?_
      refine cVv (w := cW cy a) (As := [.ref (a 29)]) (rest := []) C hO (T_X0_keep l D cy a _ (by exact hJ)) (cwV 1 ht (gV wd_906 wd_907 wd_908 wd_116 wd_909) rfl rfl rfl hd_yX0_keep ⟨Nat.le_of_ble_eq_true rfl, Nat.le_of_ble_eq_true rfl⟩) 30 rfl cW_30 rfl rfl hl.1 (Nat.le_of_ble_eq_true rfl) dX10_spin_31 rfl ⟨Nat.zero_le _, Nat.zero_le _⟩ (fun u5 H locs hp6 hO => ?_)
      obtain ⟨hJ, hTu5⟩ := hp6
      have hT : KT u u5 := KT.tr (by exact hT) hTu5
      refine lv_aload_n hx hb dX10_spin_34 rfl (lv_at hl 0 rfl) ?_
      refine gf_RX10_37 (v := .ref (a 28)) C hO 0 cW_0 rfl dX10_spin_35 ?_
      refine gf_RX10_150 (v := .ref (a 29)) C hO 28 cW_28 rfl dX10_spin_38 ?_
      refine lv_iconst (v := 4) hx hb dX10_spin_41 (by decide) ?_
      refine lv_dup2_11 hx hb dX10_spin_42 rfl rfl ?_
      refine aI C hO 29 cW_29 (i_in (X := 4) rfl (by omega) (by omega)) dX10_spin_43 ?_
      refine lv_topi (fun w7 ew7 => ?_)
      refine lv_iconst (v := 1) hx hb dX10_spin_44 (by decide) ?_
      refine lv_iload_n hx hb dX10_spin_45 rfl (lv_at hl 1 rfl) ?_
      refine lv_ishl hx hb dX10_spin_46 ?_
      refine lv_topi (fun z8 ez8 => ?_)
      have g9 : 0 ≤ z8.toInt ∧ z8.toInt ≤ 2 ^ 13 := by rw [ez8]; exact i_shl1 rfl (by omega) (by omega) (by decide)
      refine lv_ixor hx hb dX10_spin_47 ?_
      refine lv_topi (fun z10 ez10 => ?_)
      refine aIs C hO 29 cW_29 (i_in (X := 4) rfl (by omega) (by omega)) cW_s29 dX10_spin_48 (fun H locs hO => ?_)
      have hJ := CIsA hO hJ
      refine lv_aload_n hx hb dX10_spin_49 rfl (lv_at hl 0 rfl) ?_
      refine gf_RX10_37 (v := .ref (a 28)) C hO 0 cW_0 rfl dX10_spin_50 ?_
      refine gf_RX10_150 (v := .ref (a 29)) C hO 28 cW_28 rfl dX10_spin_53 ?_
      refine lv_iconst (v := 4) hx hb dX10_spin_56 (by decide) ?_
      refine aI C hO 29 cW_29 (i_in (X := 4) rfl (by omega) (by omega)) dX10_spin_57 ?_
      refine tE (y := z10) rfl ?_
      refine lv_iload_n hx hb dX10_spin_58 rfl (lv_at hl 1 rfl) ?_
      refine lv_ishr hx hb dX10_spin_59 ?_
      refine lv_topi (fun z11 ez11 => ?_)
      refine lv_iconst (v := 1) hx hb dX10_spin_60 (by decide) ?_
      refine lv_iand hx hb dX10_spin_61 ?_
      refine lv_topi (fun z12 ez12 => ?_)
      have g13 : 0 ≤ z12.toInt ∧ z12.toInt ≤ 1 := by rw [ez12]; exact i_andr rfl (by omega)
      refine hret _ _ _ _ _ _ dX10_spin_62 rfl ?_ hO
      exact ⟨hJ, hT⟩
    · refine lv_iconst (v := (-1)) hx hb dX10_spin_18 (by decide) ?_
      refine hret _ _ _ _ _ _ dX10_spin_19 rfl ?_ hO
      exact ⟨hJ, hT⟩
theorem dX10_undo_0 : decode cX10_undo 0 = .ok (.aload_n 0, 1) := by decide +kernel
theorem dX10_undo_1 : decode cX10_undo 1 = .ok (.getfield 44, 3) := by decide +kernel
theorem dX10_undo_4 : decode cX10_undo 4 = .ok (.aload_n 0, 1) := by decide +kernel
theorem dX10_undo_5 : decode cX10_undo 5 = .ok (.getfield 37, 3) := by decide +kernel
theorem dX10_undo_8 : decode cX10_undo 8 = .ok (.getfield 150, 3) := by decide +kernel
theorem dX10_undo_11 : decode cX10_undo 11 = .ok (.invokevirtual 199, 3) := by decide +kernel
theorem dX10_undo_14 : decode cX10_undo 14 = .ok (.ireturn, 1) := by decide +kernel
theorem wd_970 : (Cond.code ⟨"WebCourt", "undo", "()Z"⟩ prog_1_method_17_code (1 : Nat) (Option.some FieldType.boolean)) ∈ gtb := gtb_c4 141 (by decide +kernel) rfl
theorem wd_971 : (Cond.methodLink "WebCourt" (199 : Nat) ⟨"WebCourt$Acts", "takeBack", "([I)Z"⟩) ∈ gtb := gtb_c4 142 (by decide +kernel) rfl
theorem wd_972 : (Cond.instanceMethod ⟨"WebCourt$Acts", "takeBack", "([I)Z"⟩) ∈ gtb := gtb_c4 143 (by decide +kernel) rfl
theorem wd_973 : (Cond.selects "WebCourt$Acts" ⟨"WebCourt$Acts", "takeBack", "([I)Z"⟩ ⟨"WebCourt$Acts", "takeBack", "([I)Z"⟩) ∈ gtb := gtb_c4 144 (by decide +kernel) rfl
theorem hd_yX0_takeBack : yX0_takeBack.cls = RX0 ∧ yX0_takeBack.cls ≠ "java/lang/invoke/MethodHandle" ∧ yX0_takeBack.cls ≠ "java/lang/invoke/VarHandle" ∧ (parseMethodDescriptor yX0_takeBack.desc).map (fun d => d.parameters.length) = some 1 := by decide +kernel
set_option maxHeartbeats 4000000 in
set_option maxRecDepth 100000 in
theorem T_X10_undo (l : Launch) (D : va_G) (cy : Nat → ClassId) (a : Nat → Nat) (u : St) (hJ : CI a u)   : Mi l D cy (cW cy a) yX10_undo (.code yX10_undo cX10_undo 1 (some .boolean)) (rmo 2 43) [.ref (a 0)] u (fun (r : Int32) (u' : St) => (r = 0 ∨ r = 1) ∧ (CI a u') ∧ (KT u u')) := by
  refine Mi.of (own := RX10) rfl (by decide) (Nat.le_of_ble_eq_true rfl) ?_
  have hT : KT u u := KT.rf
  intro p e s m below meth c A Q ls C hret hO hl
  obtain ⟨hx, hb, hml, hown, ht, hK, hA⟩ := id C
  have hl : lv_has ls 1 [(0, .ref (a 0))] := hl
  refine lv_aload_n hx hb dX10_undo_0 rfl (lv_at hl 0 rfl) ?_
  refine gf_RX10_44 (v := .ref (a 30)) C hO 0 cW_0 rfl dX10_undo_1 ?_
  refine lv_aload_n hx hb dX10_undo_4 rfl (lv_at hl 0 rfl) ?_
  refine gf_RX10_37 (v := .ref (a 28)) C hO 0 cW_0 rfl dX10_undo_5 ?_
  refine gf_RX10_150 (v := .ref (a 29)) C hO 28 cW_28 rfl dX10_undo_8 ?_
  refine cVi (w := cW cy a) (As := [.ref (a 29)]) (rest := []) C hO (T_X0_takeBack l D cy a _ (by exact hJ)) (cwV 1 ht (gV wd_971 wd_972 wd_973 wd_116 wd_974) rfl rfl rfl hd_yX0_takeBack ⟨Nat.le_of_ble_eq_true rfl, Nat.le_of_ble_eq_true rfl⟩) 30 rfl cW_30 rfl rfl hl.1 (Nat.le_of_ble_eq_true rfl) dX10_undo_11 rfl ⟨Nat.zero_le _, Nat.zero_le _⟩ (fun r1 u2 H locs hp3 hO => ?_)
  obtain ⟨hr1, hJ, hTu2⟩ := hp3
  have gr1 : 0 ≤ r1.toInt ∧ r1.toInt ≤ 1 := by rcases hr1 with h | h <;> rw [h] <;> decide
  have hT : KT u u2 := KT.tr (by exact hT) hTu2
  refine hret _ _ _ _ _ _ dX10_undo_14 (by rcases hr1 with h | h <;> rw [h] <;> rfl) ?_ hO
  exact ⟨hr1, hJ, hT⟩
theorem dX10_redo_0 : decode cX10_redo 0 = .ok (.aload_n 0, 1) := by decide +kernel
theorem dX10_redo_1 : decode cX10_redo 1 = .ok (.getfield 44, 3) := by decide +kernel
theorem dX10_redo_4 : decode cX10_redo 4 = .ok (.aload_n 0, 1) := by decide +kernel
theorem dX10_redo_5 : decode cX10_redo 5 = .ok (.getfield 37, 3) := by decide +kernel
theorem dX10_redo_8 : decode cX10_redo 8 = .ok (.getfield 150, 3) := by decide +kernel
theorem dX10_redo_11 : decode cX10_redo 11 = .ok (.invokevirtual 203, 3) := by decide +kernel
theorem dX10_redo_14 : decode cX10_redo 14 = .ok (.ireturn, 1) := by decide +kernel
theorem wd_978 : (Cond.code ⟨"WebCourt", "redo", "()Z"⟩ prog_1_method_18_code (1 : Nat) (Option.some FieldType.boolean)) ∈ gtb := gtb_c4 149 (by decide +kernel) rfl
theorem wd_979 : (Cond.methodLink "WebCourt" (203 : Nat) ⟨"WebCourt$Acts", "doAgain", "([I)Z"⟩) ∈ gtb := gtb_c4 150 (by decide +kernel) rfl
theorem wd_980 : (Cond.instanceMethod ⟨"WebCourt$Acts", "doAgain", "([I)Z"⟩) ∈ gtb := gtb_c4 151 (by decide +kernel) rfl
theorem wd_981 : (Cond.selects "WebCourt$Acts" ⟨"WebCourt$Acts", "doAgain", "([I)Z"⟩ ⟨"WebCourt$Acts", "doAgain", "([I)Z"⟩) ∈ gtb := gtb_c4 152 (by decide +kernel) rfl
theorem hd_yX0_doAgain : yX0_doAgain.cls = RX0 ∧ yX0_doAgain.cls ≠ "java/lang/invoke/MethodHandle" ∧ yX0_doAgain.cls ≠ "java/lang/invoke/VarHandle" ∧ (parseMethodDescriptor yX0_doAgain.desc).map (fun d => d.parameters.length) = some 1 := by decide +kernel
set_option maxHeartbeats 4000000 in
set_option maxRecDepth 100000 in
theorem T_X10_redo (l : Launch) (D : va_G) (cy : Nat → ClassId) (a : Nat → Nat) (u : St) (hJ : CI a u)   : Mi l D cy (cW cy a) yX10_redo (.code yX10_redo cX10_redo 1 (some .boolean)) (rmo 2 43) [.ref (a 0)] u (fun (r : Int32) (u' : St) => (r = 0 ∨ r = 1) ∧ (CI a u') ∧ (KT u u')) := by
  refine Mi.of (own := RX10) rfl (by decide) (Nat.le_of_ble_eq_true rfl) ?_
  have hT : KT u u := KT.rf
  intro p e s m below meth c A Q ls C hret hO hl
  obtain ⟨hx, hb, hml, hown, ht, hK, hA⟩ := id C
  have hl : lv_has ls 1 [(0, .ref (a 0))] := hl
  refine lv_aload_n hx hb dX10_redo_0 rfl (lv_at hl 0 rfl) ?_
  refine gf_RX10_44 (v := .ref (a 30)) C hO 0 cW_0 rfl dX10_redo_1 ?_
  refine lv_aload_n hx hb dX10_redo_4 rfl (lv_at hl 0 rfl) ?_
  refine gf_RX10_37 (v := .ref (a 28)) C hO 0 cW_0 rfl dX10_redo_5 ?_
  refine gf_RX10_150 (v := .ref (a 29)) C hO 28 cW_28 rfl dX10_redo_8 ?_
  refine cVi (w := cW cy a) (As := [.ref (a 29)]) (rest := []) C hO (T_X0_doAgain l D cy a _ (by exact hJ)) (cwV 1 ht (gV wd_979 wd_980 wd_981 wd_116 wd_982) rfl rfl rfl hd_yX0_doAgain ⟨Nat.le_of_ble_eq_true rfl, Nat.le_of_ble_eq_true rfl⟩) 30 rfl cW_30 rfl rfl hl.1 (Nat.le_of_ble_eq_true rfl) dX10_redo_11 rfl ⟨Nat.zero_le _, Nat.zero_le _⟩ (fun r1 u2 H locs hp3 hO => ?_)
  obtain ⟨hr1, hJ, hTu2⟩ := hp3
  have gr1 : 0 ≤ r1.toInt ∧ r1.toInt ≤ 1 := by rcases hr1 with h | h <;> rw [h] <;> decide
  have hT : KT u u2 := KT.tr (by exact hT) hTu2
  refine hret _ _ _ _ _ _ dX10_redo_14 (by rcases hr1 with h | h <;> rw [h] <;> rfl) ?_ hO
  exact ⟨hr1, hJ, hT⟩
theorem dX10_fewestOf_0 : decode cX10_fewestOf 0 = .ok (.aload_n 0, 1) := by decide +kernel
theorem dX10_fewestOf_1 : decode cX10_fewestOf 1 = .ok (.getfield 37, 3) := by decide +kernel
theorem dX10_fewestOf_4 : decode cX10_fewestOf 4 = .ok (.iload_n 1, 1) := by decide +kernel
theorem dX10_fewestOf_5 : decode cX10_fewestOf 5 = .ok (.invokevirtual 189, 3) := by decide +kernel
theorem dX10_fewestOf_8 : decode cX10_fewestOf 8 = .ok (.ifCond .eq 12, 3) := by decide +kernel
theorem dX10_fewestOf_11 : decode cX10_fewestOf 11 = .ok (.iload_n 3, 1) := by decide +kernel
theorem dX10_fewestOf_12 : decode cX10_fewestOf 12 = .ok (.ifCond .lt 8, 3) := by decide +kernel
theorem dX10_fewestOf_15 : decode cX10_fewestOf 15 = .ok (.iload_n 3, 1) := by decide +kernel
theorem dX10_fewestOf_16 : decode cX10_fewestOf 16 = .ok (.iconst 1, 1) := by decide +kernel
theorem dX10_fewestOf_17 : decode cX10_fewestOf 17 = .ok (.if_icmp .le 5, 3) := by decide +kernel
theorem dX10_fewestOf_20 : decode cX10_fewestOf 20 = .ok (.iconst (-1), 1) := by decide +kernel
theorem dX10_fewestOf_21 : decode cX10_fewestOf 21 = .ok (.ireturn, 1) := by decide +kernel
theorem dX10_fewestOf_22 : decode cX10_fewestOf 22 = .ok (.aload_n 0, 1) := by decide +kernel
theorem dX10_fewestOf_23 : decode cX10_fewestOf 23 = .ok (.getfield 69, 3) := by decide +kernel
theorem dX10_fewestOf_26 : decode cX10_fewestOf 26 = .ok (.iload_n 1, 1) := by decide +kernel
theorem dX10_fewestOf_27 : decode cX10_fewestOf 27 = .ok (.iload_n 2, 1) := by decide +kernel
theorem dX10_fewestOf_28 : decode cX10_fewestOf 28 = .ok (.invokevirtual 213, 3) := by decide +kernel
theorem dX10_fewestOf_31 : decode cX10_fewestOf 31 = .ok (.istore 4, 2) := by decide +kernel
theorem dX10_fewestOf_33 : decode cX10_fewestOf 33 = .ok (.iload 4, 2) := by decide +kernel
theorem dX10_fewestOf_35 : decode cX10_fewestOf 35 = .ok (.ifCond .ne 5, 3) := by decide +kernel
theorem dX10_fewestOf_38 : decode cX10_fewestOf 38 = .ok (.iconst (-1), 1) := by decide +kernel
theorem dX10_fewestOf_39 : decode cX10_fewestOf 39 = .ok (.ireturn, 1) := by decide +kernel
theorem dX10_fewestOf_40 : decode cX10_fewestOf 40 = .ok (.iload_n 3, 1) := by decide +kernel
theorem dX10_fewestOf_41 : decode cX10_fewestOf 41 = .ok (.ifCond .ne 11, 3) := by decide +kernel
theorem dX10_fewestOf_44 : decode cX10_fewestOf 44 = .ok (.iload 4, 2) := by decide +kernel
theorem dX10_fewestOf_46 : decode cX10_fewestOf 46 = .ok (.invokestatic 180, 3) := by decide +kernel
theorem dX10_fewestOf_49 : decode cX10_fewestOf 49 = .ok (.goto 5, 3) := by decide +kernel
theorem dX10_fewestOf_52 : decode cX10_fewestOf 52 = .ok (.iload 4, 2) := by decide +kernel
theorem dX10_fewestOf_54 : decode cX10_fewestOf 54 = .ok (.ireturn, 1) := by decide +kernel
theorem wd_990 : (Cond.code ⟨"WebCourt", "fewestOf", "(III)I"⟩ prog_1_method_21_code (5 : Nat) (Option.some FieldType.int)) ∈ gtb := gtb_c4 161 (by decide +kernel) rfl
theorem wd_474 : (Cond.fieldLink "WebCourt" (69 : Nat) "WebCourt" "counsel" "LWebCourt$Counsel;") ∈ gtb := gtb_c2 125 (by decide +kernel) rfl
theorem gf_RX10_69 {p : Program} {l : Launch} {e : Env} {R : Room} {s : State} {m : MethodId} {args : Array Value} {below : List Frame} {meth : Method} {c : Code} {H : Heap} {locs : List Loc} {cells slots : Nat} {Q : State → Prop} {cc : ByteArray} {pc nL : Nat} {ls : Array Slot} {rest : List Value} {D : va_G} {cy : Nat → ClassId} {A : Nat → Prop} {ws : va_W} {b : Nat} {fs : List Value} {v : Value} (C : Cx p s m args c cc nL RX10 D cy A) (hO : Wo D A ws s.heap H locs) (q0 : Nat) (he : ws[q0]? = some (b, .inr (10, fs))) (hv : fs[6]? = some v) (hdg : decode cc pc = .ok (.getfield 69, 3)) (kk : W p l e R s m args below meth c H locs cells slots Q (F0 m (pc + 3) ls (v :: rest))) : W p l e R s m args below meth c H locs cells slots Q (F0 m pc ls (.ref b :: rest)) := gF (k := 6) C hO q0 he rfl inFX10 (by decide) wd_474 rfl hv hdg kk
theorem wd_991 : (Cond.methodLink "WebCourt" (213 : Nat) ⟨"WebCourt$Counsel", "fewestPleas", "(II)I"⟩) ∈ gtb := gtb_c4 162 (by decide +kernel) rfl
set_option maxHeartbeats 4000000 in
set_option maxRecDepth 100000 in
theorem T_X10_fewestOf (l : Launch) (D : va_G) (cy : Nat → ClassId) (a : Nat → Nat) (u : St) (hJ : CI a u) (x1 : Int32) (x2 : Int32) (x3 : Int32)  : Mi l D cy (cW cy a) yX10_fewestOf (.code yX10_fewestOf cX10_fewestOf 5 (some .int)) (rmo 5 125) [.ref (a 0), .int x1, .int x2, .int x3] u (fun (r : Int32) (u' : St) => (CI a u') ∧ (KT u u')) := by
  refine Mi.of (own := RX10) rfl (by decide) (Nat.le_of_ble_eq_true rfl) ?_
  have hT : KT u u := KT.rf
  intro p e s m below meth c A Q ls C hret hO hl
  obtain ⟨hx, hb, hml, hown, ht, hK, hA⟩ := id C
  have hl : lv_has ls 5 [(0, .ref (a 0)), (1, .int x1), (2, .int x2), (3, .int x3)] := hl
  refine lv_aload_n hx hb dX10_fewestOf_0 rfl (lv_at hl 0 rfl) ?_
  refine gf_RX10_37 (v := .ref (a 28)) C hO 0 cW_0 rfl dX10_fewestOf_1 ?_
  refine lv_iload_n hx hb dX10_fewestOf_4 rfl (lv_at hl 1 rfl) ?_
  refine cVi (w := cW cy a) (As := [.int x1]) (rest := []) C hO (T_X2_isHeld l D cy a _ (by exact hJ) (x1)) (cwV 1 ht (gV wd_961 wd_930 wd_931 wd_115 wd_932) rfl rfl rfl hd_yX2_isHeld ⟨Nat.le_of_ble_eq_true rfl, Nat.le_of_ble_eq_true rfl⟩) 28 rfl cW_28 rfl rfl hl.1 (Nat.le_of_ble_eq_true rfl) dX10_fewestOf_5 rfl ⟨Nat.zero_le _, Nat.zero_le _⟩ (fun r1 u2 H locs hp3 hO => ?_)
  obtain ⟨hr1, hu2⟩ := hp3
  rw [hu2] at hO
  rcases hr1 with ⟨hcr1, hvr1⟩ | ⟨hcr1, hvr1⟩
  · subst hvr1
    refine bn_eq (X := 1) hx hb dX10_fewestOf_8 rfl (by omega) ?_ (tgt := 20) (by decide)
    refine lv_iload_n hx hb dX10_fewestOf_11 rfl (lv_at hl 3 rfl) ?_
    refine bs_lt (tgt := 20) (X := (x3).toInt) hx hb dX10_fewestOf_12 (by decide) rfl (fun c4 => ?_) (fun c4 => ?_)
    · refine lv_iconst (v := (-1)) hx hb dX10_fewestOf_20 (by decide) ?_
      refine hret _ _ _ _ _ _ dX10_fewestOf_21 rfl ?_ hO
      exact ⟨hJ, hT⟩
    · refine lv_iload_n hx hb dX10_fewestOf_15 rfl (lv_at hl 3 rfl) ?_
      refine lv_iconst (v := 1) hx hb dX10_fewestOf_16 (by decide) ?_
      refine cs_le (tgt := 22) (X := (x3).toInt) (Y := 1) hx hb dX10_fewestOf_17 (by decide) rfl rfl (fun c5 => ?_) (fun c5 => ?_)
      · refine lv_aload_n hx hb dX10_fewestOf_22 rfl (lv_at hl 0 rfl) ?_
        refine gf_RX10_69 (v := .ref (a 36)) C hO 0 cW_0 rfl dX10_fewestOf_23 ?_
        refine lv_iload_n hx hb dX10_fewestOf_26 rfl (lv_at hl 1 rfl) ?_
        refine lv_iload_n hx hb dX10_fewestOf_27 rfl (lv_at hl 2 rfl) ?_
        refine cVi (w := cW cy a) (As := [.int x1, .int x2]) (rest := []) C hO (T_X1_fewestPleas l D cy a _ (by exact hJ) (x1) (x2) (by first | omega | decide)) (cwV 2 ht (gV wd_991 wd_992 wd_993 wd_119 wd_994) rfl rfl rfl hd_yX1_fewestPleas ⟨Nat.le_of_ble_eq_true rfl, Nat.le_of_ble_eq_true rfl⟩) 36 rfl cW_36 rfl rfl hl.1 (Nat.le_of_ble_eq_true rfl) dX10_fewestOf_28 rfl ⟨Nat.zero_le _, Nat.zero_le _⟩ (fun r6 u7 H locs hp8 hO => ?_)
        obtain ⟨hJ, hTu7⟩ := hp8
        have hT : KT u u7 := KT.tr (by exact hT) hTu7
        refine lv_istore (lv' := [(4, .int r6), (0, .ref (a 0)), (1, .int x1), (2, .int x2), (3, .int x3)]) hx hb dX10_fewestOf_31 hl (by decide) rfl (fun ls hl => ?_)
        refine lv_iload hx hb dX10_fewestOf_33 (lv_at hl 0 rfl) ?_
        refine bs_ne (tgt := 40) (X := (r6).toInt) hx hb dX10_fewestOf_35 (by decide) rfl (fun c9 => ?_) (fun c9 => ?_)
        · refine lv_iload_n hx hb dX10_fewestOf_40 rfl (lv_at hl 4 rfl) ?_
          refine bs_ne (tgt := 52) (X := (x3).toInt) hx hb dX10_fewestOf_41 (by decide) rfl (fun c10 => ?_) (fun c10 => ?_)
          · refine lv_iload hx hb dX10_fewestOf_52 (lv_at hl 0 rfl) ?_
            refine hret _ _ _ _ _ _ dX10_fewestOf_54 rfl ?_ hO
            exact ⟨hJ, hT⟩
          · refine lv_iload hx hb dX10_fewestOf_44 (lv_at hl 0 rfl) ?_
            refine cSi (w := cW cy a) (As := [.int r6]) (rest := []) C hO (T_J6_bitCount_0f7a4 l D cy a _ (by exact hJ) (r6)) (va_cwS 1 ht (gSS wd_948 wd_870 wd_128 wd_871) rfl rfl rfl hd_yJ6_bitCount_0f7a4 ⟨Nat.le_of_ble_eq_true rfl, Nat.le_of_ble_eq_true rfl⟩)  rfl hl.1 (Nat.le_of_ble_eq_true rfl) dX10_fewestOf_46 rfl ⟨Nat.zero_le _, Nat.zero_le _⟩ (fun r11 u12 H locs hp13 hO => ?_)
            have hu12 := hp13
            rw [hu12] at hO
            refine lv_goto (tgt := 54) hx hb dX10_fewestOf_49 (by decide) ?_
            refine hret _ _ _ _ _ _ dX10_fewestOf_54 rfl ?_ hO
            exact ⟨hJ, hT⟩
        · refine lv_iconst (v := (-1)) hx hb dX10_fewestOf_38 (by decide) ?_
          refine hret _ _ _ _ _ _ dX10_fewestOf_39 rfl ?_ hO
          exact ⟨hJ, hT⟩
      · refine lv_iconst (v := (-1)) hx hb dX10_fewestOf_20 (by decide) ?_
        refine hret _ _ _ _ _ _ dX10_fewestOf_21 rfl ?_ hO
        exact ⟨hJ, hT⟩
  · subst hvr1
    refine bt_eq (tgt := 20) (X := 0) hx hb dX10_fewestOf_8 (by decide) rfl (by omega) ?_
    refine lv_iconst (v := (-1)) hx hb dX10_fewestOf_20 (by decide) ?_
    refine hret _ _ _ _ _ _ dX10_fewestOf_21 rfl ?_ hO
    exact ⟨hJ, hT⟩
theorem dX10_shortest_0 : decode cX10_shortest 0 = .ok (.aload_n 0, 1) := by decide +kernel
theorem dX10_shortest_1 : decode cX10_shortest 1 = .ok (.iload_n 1, 1) := by decide +kernel
theorem dX10_shortest_2 : decode cX10_shortest 2 = .ok (.iconst 1, 1) := by decide +kernel
theorem dX10_shortest_3 : decode cX10_shortest 3 = .ok (.aload_n 0, 1) := by decide +kernel
theorem dX10_shortest_4 : decode cX10_shortest 4 = .ok (.getfield 37, 3) := by decide +kernel
theorem dX10_shortest_7 : decode cX10_shortest 7 = .ok (.getfield 101, 3) := by decide +kernel
theorem dX10_shortest_10 : decode cX10_shortest 10 = .ok (.getfield 206, 3) := by decide +kernel
theorem dX10_shortest_13 : decode cX10_shortest 13 = .ok (.ishl, 1) := by decide +kernel
theorem dX10_shortest_14 : decode cX10_shortest 14 = .ok (.iconst 1, 1) := by decide +kernel
theorem dX10_shortest_15 : decode cX10_shortest 15 = .ok (.isub, 1) := by decide +kernel
theorem dX10_shortest_16 : decode cX10_shortest 16 = .ok (.iload_n 2, 1) := by decide +kernel
theorem dX10_shortest_17 : decode cX10_shortest 17 = .ok (.invokevirtual 209, 3) := by decide +kernel
theorem dX10_shortest_20 : decode cX10_shortest 20 = .ok (.ireturn, 1) := by decide +kernel
theorem wd_986 : (Cond.code ⟨"WebCourt", "shortest", "(II)I"⟩ prog_1_method_19_code (3 : Nat) (Option.some FieldType.int)) ∈ gtb := gtb_c4 157 (by decide +kernel) rfl
theorem wd_266 : (Cond.fieldLink "WebCourt" (206 : Nat) "WebCourt$Web" "pleas" "I") ∈ gtb := gtb_c1 157 (by decide +kernel) rfl
theorem gf_RX10_206 {p : Program} {l : Launch} {e : Env} {R : Room} {s : State} {m : MethodId} {args : Array Value} {below : List Frame} {meth : Method} {c : Code} {H : Heap} {locs : List Loc} {cells slots : Nat} {Q : State → Prop} {cc : ByteArray} {pc nL : Nat} {ls : Array Slot} {rest : List Value} {D : va_G} {cy : Nat → ClassId} {A : Nat → Prop} {ws : va_W} {b : Nat} {fs : List Value} {v : Value} (C : Cx p s m args c cc nL RX10 D cy A) (hO : Wo D A ws s.heap H locs) (q0 : Nat) (he : ws[q0]? = some (b, .inr (9, fs))) (hv : fs[11]? = some v) (hdg : decode cc pc = .ok (.getfield 206, 3)) (kk : W p l e R s m args below meth c H locs cells slots Q (F0 m (pc + 3) ls (v :: rest))) : W p l e R s m args below meth c H locs cells slots Q (F0 m pc ls (.ref b :: rest)) := gF (k := 11) C hO q0 he rfl inFX9 (by decide) wd_266 rfl hv hdg kk
theorem wd_987 : (Cond.methodLink "WebCourt" (209 : Nat) ⟨"WebCourt", "fewestOf", "(III)I"⟩) ∈ gtb := gtb_c4 158 (by decide +kernel) rfl
theorem wd_989 : (Cond.instanceMethod ⟨"WebCourt", "fewestOf", "(III)I"⟩) ∈ gtb := gtb_c4 160 (by decide +kernel) rfl
theorem wd_32 : (Cond.selects "WebCourt" ⟨"WebCourt", "fewestOf", "(III)I"⟩ ⟨"WebCourt", "fewestOf", "(III)I"⟩) ∈ gtb := gtb_p 32 (by decide +kernel) rfl
theorem hd_yX10_fewestOf : yX10_fewestOf.cls = RX10 ∧ yX10_fewestOf.cls ≠ "java/lang/invoke/MethodHandle" ∧ yX10_fewestOf.cls ≠ "java/lang/invoke/VarHandle" ∧ (parseMethodDescriptor yX10_fewestOf.desc).map (fun d => d.parameters.length) = some 3 := by decide +kernel
set_option maxHeartbeats 4000000 in
set_option maxRecDepth 100000 in
theorem T_X10_shortest (l : Launch) (D : va_G) (cy : Nat → ClassId) (a : Nat → Nat) (u : St) (hJ : CI a u) (x1 : Int32) (x2 : Int32)  : Mi l D cy (cW cy a) yX10_shortest (.code yX10_shortest cX10_shortest 3 (some .int)) (rmo 6 149) [.ref (a 0), .int x1, .int x2] u (fun (r : Int32) (u' : St) => (CI a u') ∧ (KT u u')) := by
  refine Mi.of (own := RX10) rfl (by decide) (Nat.le_of_ble_eq_true rfl) ?_
  have hT : KT u u := KT.rf
  intro p e s m below meth c A Q ls C hret hO hl
  obtain ⟨hx, hb, hml, hown, ht, hK, hA⟩ := id C
  have hl : lv_has ls 3 [(0, .ref (a 0)), (1, .int x1), (2, .int x2)] := hl
  refine lv_aload_n hx hb dX10_shortest_0 rfl (lv_at hl 0 rfl) ?_
  refine lv_iload_n hx hb dX10_shortest_1 rfl (lv_at hl 1 rfl) ?_
  refine lv_iconst (v := 1) hx hb dX10_shortest_2 (by decide) ?_
  refine lv_aload_n hx hb dX10_shortest_3 rfl (lv_at hl 0 rfl) ?_
  refine gf_RX10_37 (v := .ref (a 28)) C hO 0 cW_0 rfl dX10_shortest_4 ?_
  refine gf_RX10_101 (v := .ref (a 3)) C hO 28 cW_28 (congrArg (fun z : Nat => some (Value.ref z)) (CI_R0 hJ)) dX10_shortest_7 ?_
  have g1 : 0 ≤ (fI u 3 11).toInt ∧ (fI u 3 11).toInt ≤ 8 := by have h := CI_3_11 hJ; exact h
  refine gf_RX10_206 (v := .int (fI u 3 11)) C hO 3 cW_3 rfl dX10_shortest_10 ?_
  refine lv_ishl hx hb dX10_shortest_13 ?_
  refine lv_topi (fun z2 ez2 => ?_)
  have g3 : 0 ≤ z2.toInt ∧ z2.toInt ≤ 2 ^ 8 := by rw [ez2]; exact i_shl1 rfl (by omega) (by omega) (by decide)
  refine lv_iconst (v := 1) hx hb dX10_shortest_14 (by decide) ?_
  have e4 : ((z2 - 1)).toInt = (z2).toInt - 1 := i_sub rfl rfl (by omega)
  refine lv_isub hx hb dX10_shortest_15 ?_
  refine lv_iload_n hx hb dX10_shortest_16 rfl (lv_at hl 2 rfl) ?_
  refine cVi (w := cW cy a) (As := [.int x1, .int (z2 - 1), .int x2]) (rest := []) C hO (T_X10_fewestOf l D cy a _ (by exact hJ) (x1) ((z2 - 1)) (x2)) (cwV 3 ht (gV wd_987 wd_989 wd_32 wd_110 wd_990) rfl rfl rfl hd_yX10_fewestOf ⟨Nat.le_of_ble_eq_true rfl, Nat.le_of_ble_eq_true rfl⟩) 0 rfl cW_0 rfl rfl hl.1 (Nat.le_of_ble_eq_true rfl) dX10_shortest_17 rfl ⟨Nat.zero_le _, Nat.zero_le _⟩ (fun r5 u6 H locs hp7 hO => ?_)
  obtain ⟨hJ, hTu6⟩ := hp7
  have hT : KT u u6 := KT.tr (by exact hT) hTu6
  refine hret _ _ _ _ _ _ dX10_shortest_20 rfl ?_ hO
  exact ⟨hJ, hT⟩
theorem dX10_honest_0 : decode cX10_honest 0 = .ok (.aload_n 0, 1) := by decide +kernel
theorem dX10_honest_1 : decode cX10_honest 1 = .ok (.getfield 37, 3) := by decide +kernel
theorem dX10_honest_4 : decode cX10_honest 4 = .ok (.iload_n 1, 1) := by decide +kernel
theorem dX10_honest_5 : decode cX10_honest 5 = .ok (.invokevirtual 144, 3) := by decide +kernel
theorem dX10_honest_8 : decode cX10_honest 8 = .ok (.ifCond .eq 24, 3) := by decide +kernel
theorem dX10_honest_11 : decode cX10_honest 11 = .ok (.aload_n 0, 1) := by decide +kernel
theorem dX10_honest_12 : decode cX10_honest 12 = .ok (.iload_n 1, 1) := by decide +kernel
theorem dX10_honest_13 : decode cX10_honest 13 = .ok (.aload_n 0, 1) := by decide +kernel
theorem dX10_honest_14 : decode cX10_honest 14 = .ok (.getfield 37, 3) := by decide +kernel
theorem dX10_honest_17 : decode cX10_honest 17 = .ok (.getfield 101, 3) := by decide +kernel
theorem dX10_honest_20 : decode cX10_honest 20 = .ok (.getfield 153, 3) := by decide +kernel
theorem dX10_honest_23 : decode cX10_honest 23 = .ok (.iload_n 1, 1) := by decide +kernel
theorem dX10_honest_24 : decode cX10_honest 24 = .ok (.iaload, 1) := by decide +kernel
theorem dX10_honest_25 : decode cX10_honest 25 = .ok (.iload_n 2, 1) := by decide +kernel
theorem dX10_honest_26 : decode cX10_honest 26 = .ok (.invokevirtual 209, 3) := by decide +kernel
theorem dX10_honest_29 : decode cX10_honest 29 = .ok (.goto 4, 3) := by decide +kernel
theorem dX10_honest_32 : decode cX10_honest 32 = .ok (.iconst (-1), 1) := by decide +kernel
theorem dX10_honest_33 : decode cX10_honest 33 = .ok (.ireturn, 1) := by decide +kernel
theorem wd_1003 : (Cond.code ⟨"WebCourt", "honest", "(II)I"⟩ prog_1_method_20_code (3 : Nat) (Option.some FieldType.int)) ∈ gtb := gtb_c4 174 (by decide +kernel) rfl
set_option maxHeartbeats 4000000 in
set_option maxRecDepth 100000 in
theorem T_X10_honest (l : Launch) (D : va_G) (cy : Nat → ClassId) (a : Nat → Nat) (u : St) (hJ : CI a u) (x1 : Int32) (x2 : Int32)  : Mi l D cy (cW cy a) yX10_honest (.code yX10_honest cX10_honest 3 (some .int)) (rmo 6 149) [.ref (a 0), .int x1, .int x2] u (fun (r : Int32) (u' : St) => (CI a u') ∧ (KT u u')) := by
  refine Mi.of (own := RX10) rfl (by decide) (Nat.le_of_ble_eq_true rfl) ?_
  have hT : KT u u := KT.rf
  intro p e s m below meth c A Q ls C hret hO hl
  obtain ⟨hx, hb, hml, hown, ht, hK, hA⟩ := id C
  have hl : lv_has ls 3 [(0, .ref (a 0)), (1, .int x1), (2, .int x2)] := hl
  refine lv_aload_n hx hb dX10_honest_0 rfl (lv_at hl 0 rfl) ?_
  refine gf_RX10_37 (v := .ref (a 28)) C hO 0 cW_0 rfl dX10_honest_1 ?_
  refine lv_iload_n hx hb dX10_honest_4 rfl (lv_at hl 1 rfl) ?_
  refine cVi (w := cW cy a) (As := [.int x1]) (rest := []) C hO (T_X2_hasCase l D cy a _ (by exact hJ) (x1)) (cwV 1 ht (gV wd_841 wd_842 wd_843 wd_115 wd_844) rfl rfl rfl hd_yX2_hasCase ⟨Nat.le_of_ble_eq_true rfl, Nat.le_of_ble_eq_true rfl⟩) 28 rfl cW_28 rfl rfl hl.1 (Nat.le_of_ble_eq_true rfl) dX10_honest_5 rfl ⟨Nat.zero_le _, Nat.zero_le _⟩ (fun r1 u2 H locs hp3 hO => ?_)
  obtain ⟨hr1, hu2⟩ := hp3
  rw [hu2] at hO
  rcases hr1 with ⟨hcr1, hvr1⟩ | ⟨hcr1, hvr1⟩
  · subst hvr1
    refine bn_eq (X := 1) hx hb dX10_honest_8 rfl (by omega) ?_ (tgt := 32) (by decide)
    refine lv_aload_n hx hb dX10_honest_11 rfl (lv_at hl 0 rfl) ?_
    refine lv_iload_n hx hb dX10_honest_12 rfl (lv_at hl 1 rfl) ?_
    refine lv_aload_n hx hb dX10_honest_13 rfl (lv_at hl 0 rfl) ?_
    refine gf_RX10_37 (v := .ref (a 28)) C hO 0 cW_0 rfl dX10_honest_14 ?_
    refine gf_RX10_101 (v := .ref (a 3)) C hO 28 cW_28 (congrArg (fun z : Nat => some (Value.ref z)) (CI_R0 hJ)) dX10_honest_17 ?_
    refine gf_RX10_153 (v := .ref (a 11)) C hO 3 cW_3 rfl dX10_honest_20 ?_
    refine lv_iload_n hx hb dX10_honest_23 rfl (lv_at hl 1 rfl) ?_
    refine aI C hO 11 cW_11 (i_in (X := (x1).toInt) rfl (by omega) (by omega)) dX10_honest_24 ?_
    refine lv_topi (fun w4 ew4 => ?_)
    refine lv_iload_n hx hb dX10_honest_25 rfl (lv_at hl 2 rfl) ?_
    refine cVi (w := cW cy a) (As := [.int x1, .int w4, .int x2]) (rest := []) C hO (T_X10_fewestOf l D cy a _ (by exact hJ) (x1) (w4) (x2)) (cwV 3 ht (gV wd_987 wd_989 wd_32 wd_110 wd_990) rfl rfl rfl hd_yX10_fewestOf ⟨Nat.le_of_ble_eq_true rfl, Nat.le_of_ble_eq_true rfl⟩) 0 rfl cW_0 rfl rfl hl.1 (Nat.le_of_ble_eq_true rfl) dX10_honest_26 rfl ⟨Nat.zero_le _, Nat.zero_le _⟩ (fun r5 u6 H locs hp7 hO => ?_)
    obtain ⟨hJ, hTu6⟩ := hp7
    have hT : KT u u6 := KT.tr (by exact hT) hTu6
    refine lv_goto (tgt := 33) hx hb dX10_honest_29 (by decide) ?_
    refine hret _ _ _ _ _ _ dX10_honest_33 rfl ?_ hO
    exact ⟨hJ, hT⟩
  · subst hvr1
    refine bt_eq (tgt := 32) (X := 0) hx hb dX10_honest_8 (by decide) rfl (by omega) ?_
    refine lv_iconst (v := (-1)) hx hb dX10_honest_32 (by decide) ?_
    refine hret _ _ _ _ _ _ dX10_honest_33 rfl ?_ hO
    exact ⟨hJ, hT⟩
theorem dX10_way_0 : decode cX10_way 0 = .ok (.aload_n 0, 1) := by decide +kernel
theorem dX10_way_1 : decode cX10_way 1 = .ok (.iconst 0, 1) := by decide +kernel
theorem dX10_way_2 : decode cX10_way 2 = .ok (.putfield 111, 3) := by decide +kernel
theorem dX10_way_5 : decode cX10_way 5 = .ok (.aload_n 0, 1) := by decide +kernel
theorem dX10_way_6 : decode cX10_way 6 = .ok (.getfield 37, 3) := by decide +kernel
theorem dX10_way_9 : decode cX10_way 9 = .ok (.iload_n 1, 1) := by decide +kernel
theorem dX10_way_10 : decode cX10_way 10 = .ok (.invokevirtual 126, 3) := by decide +kernel
theorem dX10_way_13 : decode cX10_way 13 = .ok (.ifCond .ne 5, 3) := by decide +kernel
theorem dX10_way_16 : decode cX10_way 16 = .ok (.iconst (-1), 1) := by decide +kernel
theorem dX10_way_17 : decode cX10_way 17 = .ok (.ireturn, 1) := by decide +kernel
theorem dX10_way_18 : decode cX10_way 18 = .ok (.aload_n 0, 1) := by decide +kernel
theorem dX10_way_19 : decode cX10_way 19 = .ok (.getfield 53, 3) := by decide +kernel
theorem dX10_way_22 : decode cX10_way 22 = .ok (.invokevirtual 216, 3) := by decide +kernel
theorem dX10_way_25 : decode cX10_way 25 = .ok (.aload_n 0, 1) := by decide +kernel
theorem dX10_way_26 : decode cX10_way 26 = .ok (.getfield 53, 3) := by decide +kernel
theorem dX10_way_29 : decode cX10_way 29 = .ok (.aload_n 0, 1) := by decide +kernel
theorem dX10_way_30 : decode cX10_way 30 = .ok (.getfield 37, 3) := by decide +kernel
theorem dX10_way_33 : decode cX10_way 33 = .ok (.getfield 150, 3) := by decide +kernel
theorem dX10_way_36 : decode cX10_way 36 = .ok (.iconst 0, 1) := by decide +kernel
theorem dX10_way_37 : decode cX10_way 37 = .ok (.iaload, 1) := by decide +kernel
theorem dX10_way_38 : decode cX10_way 38 = .ok (.iload_n 1, 1) := by decide +kernel
theorem dX10_way_39 : decode cX10_way 39 = .ok (.invokevirtual 219, 3) := by decide +kernel
theorem dX10_way_42 : decode cX10_way 42 = .ok (.istore_n 2, 1) := by decide +kernel
theorem dX10_way_43 : decode cX10_way 43 = .ok (.iload_n 2, 1) := by decide +kernel
theorem dX10_way_44 : decode cX10_way 44 = .ok (.sipush 1000, 3) := by decide +kernel
theorem dX10_way_47 : decode cX10_way 47 = .ok (.if_icmp .lt 5, 3) := by decide +kernel
theorem dX10_way_50 : decode cX10_way 50 = .ok (.iconst (-1), 1) := by decide +kernel
theorem dX10_way_51 : decode cX10_way 51 = .ok (.ireturn, 1) := by decide +kernel
theorem dX10_way_52 : decode cX10_way 52 = .ok (.aload_n 0, 1) := by decide +kernel
theorem dX10_way_53 : decode cX10_way 53 = .ok (.aload_n 0, 1) := by decide +kernel
theorem dX10_way_54 : decode cX10_way 54 = .ok (.getfield 53, 3) := by decide +kernel
theorem dX10_way_57 : decode cX10_way 57 = .ok (.iload_n 1, 1) := by decide +kernel
theorem dX10_way_58 : decode cX10_way 58 = .ok (.aload_n 0, 1) := by decide +kernel
theorem dX10_way_59 : decode cX10_way 59 = .ok (.getfield 85, 3) := by decide +kernel
theorem dX10_way_62 : decode cX10_way 62 = .ok (.invokevirtual 222, 3) := by decide +kernel
theorem dX10_way_65 : decode cX10_way 65 = .ok (.putfield 111, 3) := by decide +kernel
theorem dX10_way_68 : decode cX10_way 68 = .ok (.iload_n 2, 1) := by decide +kernel
theorem dX10_way_69 : decode cX10_way 69 = .ok (.ireturn, 1) := by decide +kernel
theorem wd_1007 : (Cond.code ⟨"WebCourt", "way", "(I)I"⟩ prog_1_method_22_code (3 : Nat) (Option.some FieldType.int)) ∈ gtb := gtb_c4 178 (by decide +kernel) rfl
theorem wd_478 : (Cond.fieldLink "WebCourt" (111 : Nat) "WebCourt" "lyingCount" "I") ∈ gtb := gtb_c2 129 (by decide +kernel) rfl
theorem pf_RX10_111 {p : Program} {l : Launch} {e : Env} {R : Room} {s : State} {m : MethodId} {args : Array Value} {below : List Frame} {meth : Method} {c : Code} {H : Heap} {locs : List Loc} {cells slots : Nat} {Q : State → Prop} {cc : ByteArray} {pc nL : Nat} {ls : Array Slot} {rest : List Value} {D : va_G} {cy : Nat → ClassId} {A : Nat → Prop} {ws : va_W} {b : Nat} {fs : List Value} {v : Int32} {ws' : va_W} (C : Cx p s m args c cc nL RX10 D cy A) (hO : Wo D A ws s.heap H locs) (q0 : Nat) (he : ws[q0]? = some (b, .inr (10, fs))) (hlen : 10 < fs.length) (hw : ws.set q0 (b, .inr (10, fs.set 10 (.int v))) = ws') (hdg : decode cc pc = .ok (.putfield 111, 3)) (kk : ∀ (H : Heap) (locs : List Loc), Wo D A ws' s.heap H locs → W p l e R s m args below meth c H locs cells slots Q (F0 m (pc + 3) ls rest)) : W p l e R s m args below meth c H locs cells slots Q (F0 m pc ls (.int v :: .ref b :: rest)) := pF (k := 10) (ty := .int) C hO q0 he rfl inFX10 (by decide) wd_478 rfl tyX10 tyX10_ok nmX10 rfl (by decide +kernel) rfl rfl hlen hw hdg kk
theorem wd_472 : (Cond.fieldLink "WebCourt" (53 : Nat) "WebCourt" "ways" "LWebCourt$Ways;") ∈ gtb := gtb_c2 123 (by decide +kernel) rfl
theorem gf_RX10_53 {p : Program} {l : Launch} {e : Env} {R : Room} {s : State} {m : MethodId} {args : Array Value} {below : List Frame} {meth : Method} {c : Code} {H : Heap} {locs : List Loc} {cells slots : Nat} {Q : State → Prop} {cc : ByteArray} {pc nL : Nat} {ls : Array Slot} {rest : List Value} {D : va_G} {cy : Nat → ClassId} {A : Nat → Prop} {ws : va_W} {b : Nat} {fs : List Value} {v : Value} (C : Cx p s m args c cc nL RX10 D cy A) (hO : Wo D A ws s.heap H locs) (q0 : Nat) (he : ws[q0]? = some (b, .inr (10, fs))) (hv : fs[4]? = some v) (hdg : decode cc pc = .ok (.getfield 53, 3)) (kk : W p l e R s m args below meth c H locs cells slots Q (F0 m (pc + 3) ls (v :: rest))) : W p l e R s m args below meth c H locs cells slots Q (F0 m pc ls (.ref b :: rest)) := gF (k := 4) C hO q0 he rfl inFX10 (by decide) wd_472 rfl hv hdg kk
theorem wd_1008 : (Cond.methodLink "WebCourt" (216 : Nat) ⟨"WebCourt$Ways", "measure", "()V"⟩) ∈ gtb := gtb_c4 179 (by decide +kernel) rfl
theorem wd_1017 : (Cond.methodLink "WebCourt" (219 : Nat) ⟨"WebCourt$Ways", "hours", "(II)I"⟩) ∈ gtb := gtb_c4 188 (by decide +kernel) rfl
theorem wd_477 : (Cond.fieldLink "WebCourt" (85 : Nat) "WebCourt" "lying" "[I") ∈ gtb := gtb_c2 128 (by decide +kernel) rfl
theorem gf_RX10_85 {p : Program} {l : Launch} {e : Env} {R : Room} {s : State} {m : MethodId} {args : Array Value} {below : List Frame} {meth : Method} {c : Code} {H : Heap} {locs : List Loc} {cells slots : Nat} {Q : State → Prop} {cc : ByteArray} {pc nL : Nat} {ls : Array Slot} {rest : List Value} {D : va_G} {cy : Nat → ClassId} {A : Nat → Prop} {ws : va_W} {b : Nat} {fs : List Value} {v : Value} (C : Cx p s m args c cc nL RX10 D cy A) (hO : Wo D A ws s.heap H locs) (q0 : Nat) (he : ws[q0]? = some (b, .inr (10, fs))) (hv : fs[9]? = some v) (hdg : decode cc pc = .ok (.getfield 85, 3)) (kk : W p l e R s m args below meth c H locs cells slots Q (F0 m (pc + 3) ls (v :: rest))) : W p l e R s m args below meth c H locs cells slots Q (F0 m pc ls (.ref b :: rest)) := gF (k := 9) C hO q0 he rfl inFX10 (by decide) wd_477 rfl hv hdg kk
theorem wd_1022 : (Cond.methodLink "WebCourt" (222 : Nat) ⟨"WebCourt$Ways", "walk", "(I[I)I"⟩) ∈ gtb := gtb_c4 193 (by decide +kernel) rfl
theorem wd_1023 : (Cond.instanceMethod ⟨"WebCourt$Ways", "walk", "(I[I)I"⟩) ∈ gtb := gtb_c4 194 (by decide +kernel) rfl
theorem wd_1024 : (Cond.selects "WebCourt$Ways" ⟨"WebCourt$Ways", "walk", "(I[I)I"⟩ ⟨"WebCourt$Ways", "walk", "(I[I)I"⟩) ∈ gtb := gtb_c4 195 (by decide +kernel) rfl
theorem hd_yX8_walk : yX8_walk.cls = RX8 ∧ yX8_walk.cls ≠ "java/lang/invoke/MethodHandle" ∧ yX8_walk.cls ≠ "java/lang/invoke/VarHandle" ∧ (parseMethodDescriptor yX8_walk.desc).map (fun d => d.parameters.length) = some 2 := by decide +kernel
set_option maxHeartbeats 4000000 in
set_option maxRecDepth 100000 in
theorem T_X10_way (l : Launch) (D : va_G) (cy : Nat → ClassId) (a : Nat → Nat) (u : St) (hJ : CI a u) (x1 : Int32)  : Mi l D cy (cW cy a) yX10_way (.code yX10_way cX10_way 3 (some .int)) (rmo 4 93) [.ref (a 0), .int x1] u (fun (r : Int32) (u' : St) => (CI a u') ∧ (KT u u')) := by
  refine Mi.of (own := RX10) rfl (by decide) (Nat.le_of_ble_eq_true rfl) ?_
  have hT : KT u u := KT.rf
  intro p e s m below meth c A Q ls C hret hO hl
  obtain ⟨hx, hb, hml, hown, ht, hK, hA⟩ := id C
  have hl : lv_has ls 3 [(0, .ref (a 0)), (1, .int x1)] := hl
  refine lv_aload_n hx hb dX10_way_0 rfl (lv_at hl 0 rfl) ?_
  refine lv_iconst (v := 0) hx hb dX10_way_1 (by decide) ?_
  refine pf_RX10_111 C hO 0 cW_0 (Nat.le_of_ble_eq_true rfl) cW_s0_10 dX10_way_2 (fun H locs hO => ?_)
  have hJ := CIs_0_10 (v := 0) hJ (by first | decide | omega)
  refine lv_aload_n hx hb dX10_way_5 rfl (lv_at hl 0 rfl) ?_
  refine gf_RX10_37 (v := .ref (a 28)) C hO 0 cW_0 rfl dX10_way_6 ?_
  refine lv_iload_n hx hb dX10_way_9 rfl (lv_at hl 1 rfl) ?_
  refine cVi (w := cW cy a) (As := [.int x1]) (rest := []) C hO (T_X2_hasKnot l D cy a _ (by exact hJ) (x1)) (cwV 1 ht (gV wd_817 wd_818 wd_819 wd_115 wd_820) rfl rfl rfl hd_yX2_hasKnot ⟨Nat.le_of_ble_eq_true rfl, Nat.le_of_ble_eq_true rfl⟩) 28 rfl cW_28 rfl rfl hl.1 (Nat.le_of_ble_eq_true rfl) dX10_way_10 rfl ⟨Nat.zero_le _, Nat.zero_le _⟩ (fun r1 u2 H locs hp3 hO => ?_)
  obtain ⟨hr1, hu2⟩ := hp3
  rw [hu2] at hO
  rcases hr1 with ⟨hcr1, hvr1⟩ | ⟨hcr1, hvr1⟩
  · subst hvr1
    refine bt_ne (tgt := 18) (X := 1) hx hb dX10_way_13 (by decide) rfl (by omega) ?_
    refine lv_aload_n hx hb dX10_way_18 rfl (lv_at hl 0 rfl) ?_
    refine gf_RX10_53 (v := .ref (a 32)) C hO 0 cW_0 rfl dX10_way_19 ?_
    refine cVv (w := cW cy a) (As := []) (rest := []) C hO (T_X8_measure l D cy a _ (by exact hJ)) (cwV 0 ht (gV wd_1008 wd_1009 wd_1010 wd_117 wd_1011) rfl rfl rfl hd_yX8_measure ⟨Nat.le_of_ble_eq_true rfl, Nat.le_of_ble_eq_true rfl⟩) 32 rfl cW_32 rfl rfl hl.1 (Nat.le_of_ble_eq_true rfl) dX10_way_22 rfl ⟨Nat.zero_le _, Nat.zero_le _⟩ (fun u5 H locs hp6 hO => ?_)
    obtain ⟨hJ, hTu5⟩ := hp6
    have hT : KT u u5 := KT.tr (by exact hT) hTu5
    refine lv_aload_n hx hb dX10_way_25 rfl (lv_at hl 0 rfl) ?_
    refine gf_RX10_53 (v := .ref (a 32)) C hO 0 cW_0 rfl dX10_way_26 ?_
    refine lv_aload_n hx hb dX10_way_29 rfl (lv_at hl 0 rfl) ?_
    refine gf_RX10_37 (v := .ref (a 28)) C hO 0 cW_0 rfl dX10_way_30 ?_
    refine gf_RX10_150 (v := .ref (a 29)) C hO 28 cW_28 rfl dX10_way_33 ?_
    refine lv_iconst (v := 0) hx hb dX10_way_36 (by decide) ?_
    refine aI C hO 29 cW_29 (i_in (X := 0) rfl (by omega) (by omega)) dX10_way_37 ?_
    refine lv_topi (fun w7 ew7 => ?_)
    refine lv_iload_n hx hb dX10_way_38 rfl (lv_at hl 1 rfl) ?_
    refine cVi (w := cW cy a) (As := [.int w7, .int x1]) (rest := []) C hO (T_X8_hours l D cy a _ (by exact hJ) (w7) (x1)) (cwV 2 ht (gV wd_1017 wd_1018 wd_1019 wd_117 wd_1020) rfl rfl rfl hd_yX8_hours ⟨Nat.le_of_ble_eq_true rfl, Nat.le_of_ble_eq_true rfl⟩) 32 rfl cW_32 rfl rfl hl.1 (Nat.le_of_ble_eq_true rfl) dX10_way_39 rfl ⟨Nat.zero_le _, Nat.zero_le _⟩ (fun r8 u9 H locs hp10 hO => ?_)
    have hu9 := hp10
    rw [hu9] at hO
    refine lv_istore_n (lv' := [(2, .int r8), (0, .ref (a 0)), (1, .int x1)]) hx hb dX10_way_42 rfl hl (by decide) rfl (fun ls hl => ?_)
    refine lv_iload_n hx hb dX10_way_43 rfl (lv_at hl 0 rfl) ?_
    refine lv_sipush (v := 1000) hx hb dX10_way_44 (by decide) ?_
    refine cs_lt (tgt := 52) (X := (r8).toInt) (Y := 1000) hx hb dX10_way_47 (by decide) rfl rfl (fun c11 => ?_) (fun c11 => ?_)
    · refine lv_aload_n hx hb dX10_way_52 rfl (lv_at hl 1 rfl) ?_
      refine lv_aload_n hx hb dX10_way_53 rfl (lv_at hl 1 rfl) ?_
      refine gf_RX10_53 (v := .ref (a 32)) C hO 0 cW_0 rfl dX10_way_54 ?_
      refine lv_iload_n hx hb dX10_way_57 rfl (lv_at hl 2 rfl) ?_
      refine lv_aload_n hx hb dX10_way_58 rfl (lv_at hl 1 rfl) ?_
      refine gf_RX10_85 (v := .ref (a 46)) C hO 0 cW_0 rfl dX10_way_59 ?_
      refine cVi (w := cW cy a) (As := [.int x1, .ref (a 46)]) (rest := [.ref (a 0)]) C hO (T_X8_walk l D cy a _ (by exact hJ) (x1)) (cwV 2 ht (gV wd_1022 wd_1023 wd_1024 wd_117 wd_1025) rfl rfl rfl hd_yX8_walk ⟨Nat.le_of_ble_eq_true rfl, Nat.le_of_ble_eq_true rfl⟩) 32 rfl cW_32 rfl rfl hl.1 (Nat.le_of_ble_eq_true rfl) dX10_way_62 rfl ⟨Nat.zero_le _, Nat.zero_le _⟩ (fun r12 u13 H locs hp14 hO => ?_)
      obtain ⟨hr12, hJ, hTu13⟩ := hp14
      have hT : KT u u13 := KT.tr (by exact hT) hTu13
      refine pf_RX10_111 C hO 0 cW_0 (Nat.le_of_ble_eq_true rfl) cW_s0_10 dX10_way_65 (fun H locs hO => ?_)
      have hJ := CIs_0_10 (v := r12) hJ (by first | decide | omega)
      refine lv_iload_n hx hb dX10_way_68 rfl (lv_at hl 0 rfl) ?_
      refine hret _ _ _ _ _ _ dX10_way_69 rfl ?_ hO
      exact ⟨hJ, hT⟩
    · refine lv_iconst (v := (-1)) hx hb dX10_way_50 (by decide) ?_
      refine hret _ _ _ _ _ _ dX10_way_51 rfl ?_ hO
      exact ⟨hJ, hT⟩
  · subst hvr1
    refine bn_ne (X := 0) hx hb dX10_way_13 rfl (by omega) ?_ (tgt := 18) (by decide)
    refine lv_iconst (v := (-1)) hx hb dX10_way_16 (by decide) ?_
    refine hret _ _ _ _ _ _ dX10_way_17 rfl ?_ hO
    exact ⟨hJ, hT⟩
theorem dX10_round_0 : decode cX10_round 0 = .ok (.aload_n 0, 1) := by decide +kernel
theorem dX10_round_1 : decode cX10_round 1 = .ok (.iconst 0, 1) := by decide +kernel
theorem dX10_round_2 : decode cX10_round 2 = .ok (.putfield 111, 3) := by decide +kernel
theorem dX10_round_5 : decode cX10_round 5 = .ok (.aload_n 0, 1) := by decide +kernel
theorem dX10_round_6 : decode cX10_round 6 = .ok (.getfield 37, 3) := by decide +kernel
theorem dX10_round_9 : decode cX10_round 9 = .ok (.invokevirtual 192, 3) := by decide +kernel
theorem dX10_round_12 : decode cX10_round 12 = .ok (.istore_n 1, 1) := by decide +kernel
theorem dX10_round_13 : decode cX10_round 13 = .ok (.iload_n 1, 1) := by decide +kernel
theorem dX10_round_14 : decode cX10_round 14 = .ok (.ifCond .ne 5, 3) := by decide +kernel
theorem dX10_round_17 : decode cX10_round 17 = .ok (.iconst (-1), 1) := by decide +kernel
theorem dX10_round_18 : decode cX10_round 18 = .ok (.ireturn, 1) := by decide +kernel
theorem dX10_round_19 : decode cX10_round 19 = .ok (.aload_n 0, 1) := by decide +kernel
theorem dX10_round_20 : decode cX10_round 20 = .ok (.getfield 62, 3) := by decide +kernel
theorem dX10_round_23 : decode cX10_round 23 = .ok (.invokevirtual 226, 3) := by decide +kernel
theorem dX10_round_26 : decode cX10_round 26 = .ok (.aload_n 0, 1) := by decide +kernel
theorem dX10_round_27 : decode cX10_round 27 = .ok (.getfield 62, 3) := by decide +kernel
theorem dX10_round_30 : decode cX10_round 30 = .ok (.iload_n 1, 1) := by decide +kernel
theorem dX10_round_31 : decode cX10_round 31 = .ok (.invokevirtual 227, 3) := by decide +kernel
theorem dX10_round_34 : decode cX10_round 34 = .ok (.istore_n 2, 1) := by decide +kernel
theorem dX10_round_35 : decode cX10_round 35 = .ok (.iload_n 2, 1) := by decide +kernel
theorem dX10_round_36 : decode cX10_round 36 = .ok (.sipush 1000, 3) := by decide +kernel
theorem dX10_round_39 : decode cX10_round 39 = .ok (.if_icmp .lt 5, 3) := by decide +kernel
theorem dX10_round_42 : decode cX10_round 42 = .ok (.iconst (-1), 1) := by decide +kernel
theorem dX10_round_43 : decode cX10_round 43 = .ok (.ireturn, 1) := by decide +kernel
theorem dX10_round_44 : decode cX10_round 44 = .ok (.aload_n 0, 1) := by decide +kernel
theorem dX10_round_45 : decode cX10_round 45 = .ok (.aload_n 0, 1) := by decide +kernel
theorem dX10_round_46 : decode cX10_round 46 = .ok (.getfield 62, 3) := by decide +kernel
theorem dX10_round_49 : decode cX10_round 49 = .ok (.iload_n 1, 1) := by decide +kernel
theorem dX10_round_50 : decode cX10_round 50 = .ok (.aload_n 0, 1) := by decide +kernel
theorem dX10_round_51 : decode cX10_round 51 = .ok (.getfield 85, 3) := by decide +kernel
theorem dX10_round_54 : decode cX10_round 54 = .ok (.invokevirtual 230, 3) := by decide +kernel
theorem dX10_round_57 : decode cX10_round 57 = .ok (.putfield 111, 3) := by decide +kernel
theorem dX10_round_60 : decode cX10_round 60 = .ok (.iload_n 2, 1) := by decide +kernel
theorem dX10_round_61 : decode cX10_round 61 = .ok (.ireturn, 1) := by decide +kernel
theorem wd_1034 : (Cond.code ⟨"WebCourt", "round", "()I"⟩ prog_1_method_23_code (3 : Nat) (Option.some FieldType.int)) ∈ gtb := gtb_c4 205 (by decide +kernel) rfl
theorem wd_473 : (Cond.fieldLink "WebCourt" (62 : Nat) "WebCourt" "rounds" "LWebCourt$Rounds;") ∈ gtb := gtb_c2 124 (by decide +kernel) rfl
theorem gf_RX10_62 {p : Program} {l : Launch} {e : Env} {R : Room} {s : State} {m : MethodId} {args : Array Value} {below : List Frame} {meth : Method} {c : Code} {H : Heap} {locs : List Loc} {cells slots : Nat} {Q : State → Prop} {cc : ByteArray} {pc nL : Nat} {ls : Array Slot} {rest : List Value} {D : va_G} {cy : Nat → ClassId} {A : Nat → Prop} {ws : va_W} {b : Nat} {fs : List Value} {v : Value} (C : Cx p s m args c cc nL RX10 D cy A) (hO : Wo D A ws s.heap H locs) (q0 : Nat) (he : ws[q0]? = some (b, .inr (10, fs))) (hv : fs[5]? = some v) (hdg : decode cc pc = .ok (.getfield 62, 3)) (kk : W p l e R s m args below meth c H locs cells slots Q (F0 m (pc + 3) ls (v :: rest))) : W p l e R s m args below meth c H locs cells slots Q (F0 m pc ls (.ref b :: rest)) := gF (k := 5) C hO q0 he rfl inFX10 (by decide) wd_473 rfl hv hdg kk
theorem wd_1035 : (Cond.methodLink "WebCourt" (226 : Nat) ⟨"WebCourt$Rounds", "measure", "()V"⟩) ∈ gtb := gtb_c4 206 (by decide +kernel) rfl
theorem wd_1036 : (Cond.instanceMethod ⟨"WebCourt$Rounds", "measure", "()V"⟩) ∈ gtb := gtb_c4 207 (by decide +kernel) rfl
theorem wd_1037 : (Cond.selects "WebCourt$Rounds" ⟨"WebCourt$Rounds", "measure", "()V"⟩ ⟨"WebCourt$Rounds", "measure", "()V"⟩) ∈ gtb := gtb_c4 208 (by decide +kernel) rfl
theorem hd_yX6_measure : yX6_measure.cls = RX6 ∧ yX6_measure.cls ≠ "java/lang/invoke/MethodHandle" ∧ yX6_measure.cls ≠ "java/lang/invoke/VarHandle" ∧ (parseMethodDescriptor yX6_measure.desc).map (fun d => d.parameters.length) = some 0 := by decide +kernel
theorem wd_1051 : (Cond.methodLink "WebCourt" (227 : Nat) ⟨"WebCourt$Rounds", "fewestHours", "(I)I"⟩) ∈ gtb := gtb_c4 222 (by decide +kernel) rfl
theorem wd_1055 : (Cond.methodLink "WebCourt" (230 : Nat) ⟨"WebCourt$Rounds", "order", "(I[I)I"⟩) ∈ gtb := gtb_c4 226 (by decide +kernel) rfl
theorem wd_1056 : (Cond.instanceMethod ⟨"WebCourt$Rounds", "order", "(I[I)I"⟩) ∈ gtb := gtb_c4 227 (by decide +kernel) rfl
theorem wd_1057 : (Cond.selects "WebCourt$Rounds" ⟨"WebCourt$Rounds", "order", "(I[I)I"⟩ ⟨"WebCourt$Rounds", "order", "(I[I)I"⟩) ∈ gtb := gtb_c4 228 (by decide +kernel) rfl
theorem hd_yX6_order : yX6_order.cls = RX6 ∧ yX6_order.cls ≠ "java/lang/invoke/MethodHandle" ∧ yX6_order.cls ≠ "java/lang/invoke/VarHandle" ∧ (parseMethodDescriptor yX6_order.desc).map (fun d => d.parameters.length) = some 2 := by decide +kernel
set_option maxHeartbeats 4000000 in
set_option maxRecDepth 100000 in
theorem T_X10_round (l : Launch) (D : va_G) (cy : Nat → ClassId) (a : Nat → Nat) (u : St) (hJ : CI a u)   : Mi l D cy (cW cy a) yX10_round (.code yX10_round cX10_round 3 (some .int)) (rmo 5 120) [.ref (a 0)] u (fun (r : Int32) (u' : St) => (CI a u') ∧ (KT u u')) := by
  refine Mi.of (own := RX10) rfl (by decide) (Nat.le_of_ble_eq_true rfl) ?_
  have hT : KT u u := KT.rf
  intro p e s m below meth c A Q ls C hret hO hl
  obtain ⟨hx, hb, hml, hown, ht, hK, hA⟩ := id C
  have hl : lv_has ls 3 [(0, .ref (a 0))] := hl
  refine lv_aload_n hx hb dX10_round_0 rfl (lv_at hl 0 rfl) ?_
  refine lv_iconst (v := 0) hx hb dX10_round_1 (by decide) ?_
  refine pf_RX10_111 C hO 0 cW_0 (Nat.le_of_ble_eq_true rfl) cW_s0_10 dX10_round_2 (fun H locs hO => ?_)
  have hJ := CIs_0_10 (v := 0) hJ (by first | decide | omega)
  refine lv_aload_n hx hb dX10_round_5 rfl (lv_at hl 0 rfl) ?_
  refine gf_RX10_37 (v := .ref (a 28)) C hO 0 cW_0 rfl dX10_round_6 ?_
  refine cVi (w := cW cy a) (As := []) (rest := []) C hO (T_X2_held l D cy a _ (by exact hJ)) (cwV 0 ht (gV wd_962 wd_858 wd_859 wd_115 wd_860) rfl rfl rfl hd_yX2_held ⟨Nat.le_of_ble_eq_true rfl, Nat.le_of_ble_eq_true rfl⟩) 28 rfl cW_28 rfl rfl hl.1 (Nat.le_of_ble_eq_true rfl) dX10_round_9 rfl ⟨Nat.zero_le _, Nat.zero_le _⟩ (fun r1 u2 H locs hp3 hO => ?_)
  obtain ⟨hr1, hu2⟩ := hp3
  rw [hu2] at hO
  refine lv_istore_n (lv' := [(1, .int r1), (0, .ref (a 0))]) hx hb dX10_round_12 rfl hl (by decide) rfl (fun ls hl => ?_)
  refine lv_iload_n hx hb dX10_round_13 rfl (lv_at hl 0 rfl) ?_
  refine bs_ne (tgt := 19) (X := (r1).toInt) hx hb dX10_round_14 (by decide) rfl (fun c4 => ?_) (fun c4 => ?_)
  · refine lv_aload_n hx hb dX10_round_19 rfl (lv_at hl 1 rfl) ?_
    refine gf_RX10_62 (v := .ref (a 34)) C hO 0 cW_0 rfl dX10_round_20 ?_
    refine cVv (w := cW cy a) (As := []) (rest := []) C hO (T_X6_measure l D cy a _ (by exact hJ)) (cwV 0 ht (gV wd_1035 wd_1036 wd_1037 wd_118 wd_1038) rfl rfl rfl hd_yX6_measure ⟨Nat.le_of_ble_eq_true rfl, Nat.le_of_ble_eq_true rfl⟩) 34 rfl cW_34 rfl rfl hl.1 (Nat.le_of_ble_eq_true rfl) dX10_round_23 rfl ⟨Nat.zero_le _, Nat.zero_le _⟩ (fun u6 H locs hp7 hO => ?_)
    obtain ⟨hJ, hTu6⟩ := hp7
    have hT : KT u u6 := KT.tr (by exact hT) hTu6
    refine lv_aload_n hx hb dX10_round_26 rfl (lv_at hl 1 rfl) ?_
    refine gf_RX10_62 (v := .ref (a 34)) C hO 0 cW_0 rfl dX10_round_27 ?_
    refine lv_iload_n hx hb dX10_round_30 rfl (lv_at hl 0 rfl) ?_
    refine cVi (w := cW cy a) (As := [.int r1]) (rest := []) C hO (T_X6_fewestHours l D cy a _ (by exact hJ) (r1) (by first | omega | decide)) (cwV 1 ht (gV wd_1051 wd_1052 wd_1053 wd_118 wd_1054) rfl rfl rfl hd_yX6_fewestHours ⟨Nat.le_of_ble_eq_true rfl, Nat.le_of_ble_eq_true rfl⟩) 34 rfl cW_34 rfl rfl hl.1 (Nat.le_of_ble_eq_true rfl) dX10_round_31 rfl ⟨Nat.zero_le _, Nat.zero_le _⟩ (fun r8 u9 H locs hp10 hO => ?_)
    have hu9 := hp10
    rw [hu9] at hO
    refine lv_istore_n (lv' := [(2, .int r8), (1, .int r1), (0, .ref (a 0))]) hx hb dX10_round_34 rfl hl (by decide) rfl (fun ls hl => ?_)
    refine lv_iload_n hx hb dX10_round_35 rfl (lv_at hl 0 rfl) ?_
    refine lv_sipush (v := 1000) hx hb dX10_round_36 (by decide) ?_
    refine cs_lt (tgt := 44) (X := (r8).toInt) (Y := 1000) hx hb dX10_round_39 (by decide) rfl rfl (fun c11 => ?_) (fun c11 => ?_)
    · refine lv_aload_n hx hb dX10_round_44 rfl (lv_at hl 2 rfl) ?_
      refine lv_aload_n hx hb dX10_round_45 rfl (lv_at hl 2 rfl) ?_
      refine gf_RX10_62 (v := .ref (a 34)) C hO 0 cW_0 rfl dX10_round_46 ?_
      refine lv_iload_n hx hb dX10_round_49 rfl (lv_at hl 1 rfl) ?_
      refine lv_aload_n hx hb dX10_round_50 rfl (lv_at hl 2 rfl) ?_
      refine gf_RX10_85 (v := .ref (a 46)) C hO 0 cW_0 rfl dX10_round_51 ?_
      refine cVi (w := cW cy a) (As := [.int r1, .ref (a 46)]) (rest := [.ref (a 0)]) C hO (T_X6_order l D cy a _ (by exact hJ) (r1) (by first | omega | decide)) (cwV 2 ht (gV wd_1055 wd_1056 wd_1057 wd_118 wd_1058) rfl rfl rfl hd_yX6_order ⟨Nat.le_of_ble_eq_true rfl, Nat.le_of_ble_eq_true rfl⟩) 34 rfl cW_34 rfl rfl hl.1 (Nat.le_of_ble_eq_true rfl) dX10_round_54 rfl ⟨Nat.zero_le _, Nat.zero_le _⟩ (fun r12 u13 H locs hp14 hO => ?_)
      obtain ⟨hr12, hJ, hTu13⟩ := hp14
      have hT : KT u u13 := KT.tr (by exact hT) hTu13
      refine pf_RX10_111 C hO 0 cW_0 (Nat.le_of_ble_eq_true rfl) cW_s0_10 dX10_round_57 (fun H locs hO => ?_)
      have hJ := CIs_0_10 (v := r12) hJ (by first | decide | omega)
      refine lv_iload_n hx hb dX10_round_60 rfl (lv_at hl 0 rfl) ?_
      refine hret _ _ _ _ _ _ dX10_round_61 rfl ?_ hO
      exact ⟨hJ, hT⟩
    · refine lv_iconst (v := (-1)) hx hb dX10_round_42 (by decide) ?_
      refine hret _ _ _ _ _ _ dX10_round_43 rfl ?_ hO
      exact ⟨hJ, hT⟩
  · refine lv_iconst (v := (-1)) hx hb dX10_round_17 (by decide) ?_
    refine hret _ _ _ _ _ _ dX10_round_18 rfl ?_ hO
    exact ⟨hJ, hT⟩
theorem dX10_term_0 : decode cX10_term 0 = .ok (.iload_n 1, 1) := by decide +kernel
theorem dX10_term_1 : decode cX10_term 1 = .ok (.ifCond .lt 9, 3) := by decide +kernel
theorem dX10_term_4 : decode cX10_term 4 = .ok (.iload_n 1, 1) := by decide +kernel
theorem dX10_term_5 : decode cX10_term 5 = .ok (.bipush 30, 2) := by decide +kernel
theorem dX10_term_7 : decode cX10_term 7 = .ok (.if_icmp .le 5, 3) := by decide +kernel
theorem dX10_term_10 : decode cX10_term 10 = .ok (.iconst (-1), 1) := by decide +kernel
theorem dX10_term_11 : decode cX10_term 11 = .ok (.ireturn, 1) := by decide +kernel
theorem dX10_term_12 : decode cX10_term 12 = .ok (.aload_n 0, 1) := by decide +kernel
theorem dX10_term_13 : decode cX10_term 13 = .ok (.getfield 62, 3) := by decide +kernel
theorem dX10_term_16 : decode cX10_term 16 = .ok (.invokevirtual 226, 3) := by decide +kernel
theorem dX10_term_19 : decode cX10_term 19 = .ok (.aload_n 0, 1) := by decide +kernel
theorem dX10_term_20 : decode cX10_term 20 = .ok (.getfield 62, 3) := by decide +kernel
theorem dX10_term_23 : decode cX10_term 23 = .ok (.aload_n 0, 1) := by decide +kernel
theorem dX10_term_24 : decode cX10_term 24 = .ok (.getfield 37, 3) := by decide +kernel
theorem dX10_term_27 : decode cX10_term 27 = .ok (.invokevirtual 192, 3) := by decide +kernel
theorem dX10_term_30 : decode cX10_term 30 = .ok (.iload_n 1, 1) := by decide +kernel
theorem dX10_term_31 : decode cX10_term 31 = .ok (.invokevirtual 233, 3) := by decide +kernel
theorem dX10_term_34 : decode cX10_term 34 = .ok (.ireturn, 1) := by decide +kernel
theorem wd_1066 : (Cond.code ⟨"WebCourt", "term", "(I)I"⟩ prog_1_method_24_code (2 : Nat) (Option.some FieldType.int)) ∈ gtb := gtb_c4 237 (by decide +kernel) rfl
theorem wd_1067 : (Cond.methodLink "WebCourt" (233 : Nat) ⟨"WebCourt$Rounds", "mostHeard", "(II)I"⟩) ∈ gtb := gtb_c4 238 (by decide +kernel) rfl
theorem wd_1068 : (Cond.instanceMethod ⟨"WebCourt$Rounds", "mostHeard", "(II)I"⟩) ∈ gtb := gtb_c4 239 (by decide +kernel) rfl
theorem wd_1069 : (Cond.selects "WebCourt$Rounds" ⟨"WebCourt$Rounds", "mostHeard", "(II)I"⟩ ⟨"WebCourt$Rounds", "mostHeard", "(II)I"⟩) ∈ gtb := gtb_c5 0 (by decide +kernel) rfl
theorem hd_yX6_mostHeard : yX6_mostHeard.cls = RX6 ∧ yX6_mostHeard.cls ≠ "java/lang/invoke/MethodHandle" ∧ yX6_mostHeard.cls ≠ "java/lang/invoke/VarHandle" ∧ (parseMethodDescriptor yX6_mostHeard.desc).map (fun d => d.parameters.length) = some 2 := by decide +kernel
set_option maxHeartbeats 4000000 in
set_option maxRecDepth 100000 in
theorem T_X10_term (l : Launch) (D : va_G) (cy : Nat → ClassId) (a : Nat → Nat) (u : St) (hJ : CI a u) (x1 : Int32)  : Mi l D cy (cW cy a) yX10_term (.code yX10_term cX10_term 2 (some .int)) (rmo 6 138) [.ref (a 0), .int x1] u (fun (r : Int32) (u' : St) => (CI a u') ∧ (KT u u')) := by
  refine Mi.of (own := RX10) rfl (by decide) (Nat.le_of_ble_eq_true rfl) ?_
  have hT : KT u u := KT.rf
  intro p e s m below meth c A Q ls C hret hO hl
  obtain ⟨hx, hb, hml, hown, ht, hK, hA⟩ := id C
  have hl : lv_has ls 2 [(0, .ref (a 0)), (1, .int x1)] := hl
  refine lv_iload_n hx hb dX10_term_0 rfl (lv_at hl 1 rfl) ?_
  refine bs_lt (tgt := 10) (X := (x1).toInt) hx hb dX10_term_1 (by decide) rfl (fun c1 => ?_) (fun c1 => ?_)
  · refine lv_iconst (v := (-1)) hx hb dX10_term_10 (by decide) ?_
    refine hret _ _ _ _ _ _ dX10_term_11 rfl ?_ hO
    exact ⟨hJ, hT⟩
  · refine lv_iload_n hx hb dX10_term_4 rfl (lv_at hl 1 rfl) ?_
    refine lv_bipush (v := 30) hx hb dX10_term_5 (by decide) ?_
    refine cs_le (tgt := 12) (X := (x1).toInt) (Y := 30) hx hb dX10_term_7 (by decide) rfl rfl (fun c2 => ?_) (fun c2 => ?_)
    · refine lv_aload_n hx hb dX10_term_12 rfl (lv_at hl 0 rfl) ?_
      refine gf_RX10_62 (v := .ref (a 34)) C hO 0 cW_0 rfl dX10_term_13 ?_
      refine cVv (w := cW cy a) (As := []) (rest := []) C hO (T_X6_measure l D cy a _ (by exact hJ)) (cwV 0 ht (gV wd_1035 wd_1036 wd_1037 wd_118 wd_1038) rfl rfl rfl hd_yX6_measure ⟨Nat.le_of_ble_eq_true rfl, Nat.le_of_ble_eq_true rfl⟩) 34 rfl cW_34 rfl rfl hl.1 (Nat.le_of_ble_eq_true rfl) dX10_term_16 rfl ⟨Nat.zero_le _, Nat.zero_le _⟩ (fun u4 H locs hp5 hO => ?_)
      obtain ⟨hJ, hTu4⟩ := hp5
      have hT : KT u u4 := KT.tr (by exact hT) hTu4
      refine lv_aload_n hx hb dX10_term_19 rfl (lv_at hl 0 rfl) ?_
      refine gf_RX10_62 (v := .ref (a 34)) C hO 0 cW_0 rfl dX10_term_20 ?_
      refine lv_aload_n hx hb dX10_term_23 rfl (lv_at hl 0 rfl) ?_
      refine gf_RX10_37 (v := .ref (a 28)) C hO 0 cW_0 rfl dX10_term_24 ?_
      refine cVi (w := cW cy a) (As := []) (rest := [.ref (a 34)]) C hO (T_X2_held l D cy a _ (by exact hJ)) (cwV 0 ht (gV wd_962 wd_858 wd_859 wd_115 wd_860) rfl rfl rfl hd_yX2_held ⟨Nat.le_of_ble_eq_true rfl, Nat.le_of_ble_eq_true rfl⟩) 28 rfl cW_28 rfl rfl hl.1 (Nat.le_of_ble_eq_true rfl) dX10_term_27 rfl ⟨Nat.zero_le _, Nat.zero_le _⟩ (fun r6 u7 H locs hp8 hO => ?_)
      obtain ⟨hr6, hu7⟩ := hp8
      rw [hu7] at hO
      refine lv_iload_n hx hb dX10_term_30 rfl (lv_at hl 1 rfl) ?_
      refine cVi (w := cW cy a) (As := [.int r6, .int x1]) (rest := []) C hO (T_X6_mostHeard l D cy a _ (by exact hJ) (r6) (x1)) (cwV 2 ht (gV wd_1067 wd_1068 wd_1069 wd_118 wd_1070) rfl rfl rfl hd_yX6_mostHeard ⟨Nat.le_of_ble_eq_true rfl, Nat.le_of_ble_eq_true rfl⟩) 34 rfl cW_34 rfl rfl hl.1 (Nat.le_of_ble_eq_true rfl) dX10_term_31 rfl ⟨Nat.zero_le _, Nat.zero_le _⟩ (fun r9 u10 H locs hp11 hO => ?_)
      have hu10 := hp11
      rw [hu10] at hO
      refine hret _ _ _ _ _ _ dX10_term_34 rfl ?_ hO
      exact ⟨hJ, hT⟩
    · refine lv_iconst (v := (-1)) hx hb dX10_term_10 (by decide) ?_
      refine hret _ _ _ _ _ _ dX10_term_11 rfl ?_ hO
      exact ⟨hJ, hT⟩
theorem dX10_leave_0 : decode cX10_leave 0 = .ok (.aload_n 0, 1) := by decide +kernel
theorem dX10_leave_1 : decode cX10_leave 1 = .ok (.getfield 37, 3) := by decide +kernel
theorem dX10_leave_4 : decode cX10_leave 4 = .ok (.iload_n 1, 1) := by decide +kernel
theorem dX10_leave_5 : decode cX10_leave 5 = .ok (.invokevirtual 189, 3) := by decide +kernel
theorem dX10_leave_8 : decode cX10_leave 8 = .ok (.ifCond .eq 14, 3) := by decide +kernel
theorem dX10_leave_11 : decode cX10_leave 11 = .ok (.aload_n 0, 1) := by decide +kernel
theorem dX10_leave_12 : decode cX10_leave 12 = .ok (.getfield 69, 3) := by decide +kernel
theorem dX10_leave_15 : decode cX10_leave 15 = .ok (.iload_n 1, 1) := by decide +kernel
theorem dX10_leave_16 : decode cX10_leave 16 = .ok (.invokevirtual 236, 3) := by decide +kernel
theorem dX10_leave_19 : decode cX10_leave 19 = .ok (.goto 4, 3) := by decide +kernel
theorem dX10_leave_22 : decode cX10_leave 22 = .ok (.iconst (-1), 1) := by decide +kernel
theorem dX10_leave_23 : decode cX10_leave 23 = .ok (.ireturn, 1) := by decide +kernel
theorem wd_1076 : (Cond.code ⟨"WebCourt", "leave", "(I)I"⟩ prog_1_method_25_code (2 : Nat) (Option.some FieldType.int)) ∈ gtb := gtb_c5 7 (by decide +kernel) rfl
theorem wd_1077 : (Cond.methodLink "WebCourt" (236 : Nat) ⟨"WebCourt$Counsel", "hearingsTillFree", "(I)I"⟩) ∈ gtb := gtb_c5 8 (by decide +kernel) rfl
theorem wd_1078 : (Cond.instanceMethod ⟨"WebCourt$Counsel", "hearingsTillFree", "(I)I"⟩) ∈ gtb := gtb_c5 9 (by decide +kernel) rfl
theorem wd_1079 : (Cond.selects "WebCourt$Counsel" ⟨"WebCourt$Counsel", "hearingsTillFree", "(I)I"⟩ ⟨"WebCourt$Counsel", "hearingsTillFree", "(I)I"⟩) ∈ gtb := gtb_c5 10 (by decide +kernel) rfl
theorem hd_yX1_hearingsTillFree : yX1_hearingsTillFree.cls = RX1 ∧ yX1_hearingsTillFree.cls ≠ "java/lang/invoke/MethodHandle" ∧ yX1_hearingsTillFree.cls ≠ "java/lang/invoke/VarHandle" ∧ (parseMethodDescriptor yX1_hearingsTillFree.desc).map (fun d => d.parameters.length) = some 1 := by decide +kernel
set_option maxHeartbeats 4000000 in
set_option maxRecDepth 100000 in
theorem T_X10_leave (l : Launch) (D : va_G) (cy : Nat → ClassId) (a : Nat → Nat) (u : St) (hJ : CI a u) (x1 : Int32)  : Mi l D cy (cW cy a) yX10_leave (.code yX10_leave cX10_leave 2 (some .int)) (rmo 4 103) [.ref (a 0), .int x1] u (fun (r : Int32) (u' : St) => (CI a u') ∧ (KT u u')) := by
  refine Mi.of (own := RX10) rfl (by decide) (Nat.le_of_ble_eq_true rfl) ?_
  have hT : KT u u := KT.rf
  intro p e s m below meth c A Q ls C hret hO hl
  obtain ⟨hx, hb, hml, hown, ht, hK, hA⟩ := id C
  have hl : lv_has ls 2 [(0, .ref (a 0)), (1, .int x1)] := hl
  refine lv_aload_n hx hb dX10_leave_0 rfl (lv_at hl 0 rfl) ?_
  refine gf_RX10_37 (v := .ref (a 28)) C hO 0 cW_0 rfl dX10_leave_1 ?_
  refine lv_iload_n hx hb dX10_leave_4 rfl (lv_at hl 1 rfl) ?_
  refine cVi (w := cW cy a) (As := [.int x1]) (rest := []) C hO (T_X2_isHeld l D cy a _ (by exact hJ) (x1)) (cwV 1 ht (gV wd_961 wd_930 wd_931 wd_115 wd_932) rfl rfl rfl hd_yX2_isHeld ⟨Nat.le_of_ble_eq_true rfl, Nat.le_of_ble_eq_true rfl⟩) 28 rfl cW_28 rfl rfl hl.1 (Nat.le_of_ble_eq_true rfl) dX10_leave_5 rfl ⟨Nat.zero_le _, Nat.zero_le _⟩ (fun r1 u2 H locs hp3 hO => ?_)
  obtain ⟨hr1, hu2⟩ := hp3
  rw [hu2] at hO
  rcases hr1 with ⟨hcr1, hvr1⟩ | ⟨hcr1, hvr1⟩
  · subst hvr1
    refine bn_eq (X := 1) hx hb dX10_leave_8 rfl (by omega) ?_ (tgt := 22) (by decide)
    refine lv_aload_n hx hb dX10_leave_11 rfl (lv_at hl 0 rfl) ?_
    refine gf_RX10_69 (v := .ref (a 36)) C hO 0 cW_0 rfl dX10_leave_12 ?_
    refine lv_iload_n hx hb dX10_leave_15 rfl (lv_at hl 1 rfl) ?_
    refine cVi (w := cW cy a) (As := [.int x1]) (rest := []) C hO (T_X1_hearingsTillFree l D cy a _ (by exact hJ) (x1) (by first | omega | decide)) (cwV 1 ht (gV wd_1077 wd_1078 wd_1079 wd_119 wd_1080) rfl rfl rfl hd_yX1_hearingsTillFree ⟨Nat.le_of_ble_eq_true rfl, Nat.le_of_ble_eq_true rfl⟩) 36 rfl cW_36 rfl rfl hl.1 (Nat.le_of_ble_eq_true rfl) dX10_leave_16 rfl ⟨Nat.zero_le _, Nat.zero_le _⟩ (fun r4 u5 H locs hp6 hO => ?_)
    obtain ⟨hJ, hTu5⟩ := hp6
    have hT : KT u u5 := KT.tr (by exact hT) hTu5
    refine lv_goto (tgt := 23) hx hb dX10_leave_19 (by decide) ?_
    refine hret _ _ _ _ _ _ dX10_leave_23 rfl ?_ hO
    exact ⟨hJ, hT⟩
  · subst hvr1
    refine bt_eq (tgt := 22) (X := 0) hx hb dX10_leave_8 (by decide) rfl (by omega) ?_
    refine lv_iconst (v := (-1)) hx hb dX10_leave_22 (by decide) ?_
    refine hret _ _ _ _ _ _ dX10_leave_23 rfl ?_ hO
    exact ⟨hJ, hT⟩
theorem dX10_memberOf_0 : decode cX10_memberOf 0 = .ok (.iload_n 0, 1) := by decide +kernel
theorem dX10_memberOf_1 : decode cX10_memberOf 1 = .ok (.iconst (-1), 1) := by decide +kernel
theorem dX10_memberOf_2 : decode cX10_memberOf 2 = .ok (.if_icmp .eq 12, 3) := by decide +kernel
theorem dX10_memberOf_5 : decode cX10_memberOf 5 = .ok (.iload_n 1, 1) := by decide +kernel
theorem dX10_memberOf_6 : decode cX10_memberOf 6 = .ok (.ifCond .lt 8, 3) := by decide +kernel
theorem dX10_memberOf_9 : decode cX10_memberOf 9 = .ok (.iload_n 1, 1) := by decide +kernel
theorem dX10_memberOf_10 : decode cX10_memberOf 10 = .ok (.iconst 1, 1) := by decide +kernel
theorem dX10_memberOf_11 : decode cX10_memberOf 11 = .ok (.if_icmp .le 5, 3) := by decide +kernel
theorem dX10_memberOf_14 : decode cX10_memberOf 14 = .ok (.iconst (-1), 1) := by decide +kernel
theorem dX10_memberOf_15 : decode cX10_memberOf 15 = .ok (.ireturn, 1) := by decide +kernel
theorem dX10_memberOf_16 : decode cX10_memberOf 16 = .ok (.iload_n 1, 1) := by decide +kernel
theorem dX10_memberOf_17 : decode cX10_memberOf 17 = .ok (.ifCond .ne 10, 3) := by decide +kernel
theorem dX10_memberOf_20 : decode cX10_memberOf 20 = .ok (.iload_n 0, 1) := by decide +kernel
theorem dX10_memberOf_21 : decode cX10_memberOf 21 = .ok (.bipush 6, 2) := by decide +kernel
theorem dX10_memberOf_23 : decode cX10_memberOf 23 = .ok (.idiv, 1) := by decide +kernel
theorem dX10_memberOf_24 : decode cX10_memberOf 24 = .ok (.goto 7, 3) := by decide +kernel
theorem dX10_memberOf_27 : decode cX10_memberOf 27 = .ok (.iload_n 0, 1) := by decide +kernel
theorem dX10_memberOf_28 : decode cX10_memberOf 28 = .ok (.bipush 6, 2) := by decide +kernel
theorem dX10_memberOf_30 : decode cX10_memberOf 30 = .ok (.irem, 1) := by decide +kernel
theorem dX10_memberOf_31 : decode cX10_memberOf 31 = .ok (.ireturn, 1) := by decide +kernel
theorem wd_1102 : (Cond.code ⟨"WebCourt", "memberOf", "(II)I"⟩ prog_1_method_27_code (2 : Nat) (Option.some FieldType.int)) ∈ gtb := gtb_c5 33 (by decide +kernel) rfl
set_option maxHeartbeats 4000000 in
set_option maxRecDepth 100000 in
theorem T_X10_memberOf (l : Launch) (D : va_G) (cy : Nat → ClassId) (a : Nat → Nat) (u : St) (hJ : CI a u) (x1 : Int32) (x2 : Int32)  : Mi l D cy (cW cy a) yX10_memberOf (.code yX10_memberOf cX10_memberOf 2 (some .int)) (rmo 0 0) [.int x1, .int x2] u (fun (r : Int32) (u' : St) => u' = u) := by
  refine Mi.of (own := RX10) rfl (by decide) (Nat.le_of_ble_eq_true rfl) ?_
  have hT : KT u u := KT.rf
  intro p e s m below meth c A Q ls C hret hO hl
  obtain ⟨hx, hb, hml, hown, ht, hK, hA⟩ := id C
  have hl : lv_has ls 2 [(0, .int x1), (1, .int x2)] := hl
  refine lv_iload_n hx hb dX10_memberOf_0 rfl (lv_at hl 0 rfl) ?_
  refine lv_iconst (v := (-1)) hx hb dX10_memberOf_1 (by decide) ?_
  refine cs_eq (tgt := 14) (X := (x1).toInt) (Y := (-1)) hx hb dX10_memberOf_2 (by decide) rfl rfl (fun c1 => ?_) (fun c1 => ?_)
  · refine lv_iconst (v := (-1)) hx hb dX10_memberOf_14 (by decide) ?_
    refine hret _ _ _ _ _ _ dX10_memberOf_15 rfl ?_ hO
    exact rfl
  · refine lv_iload_n hx hb dX10_memberOf_5 rfl (lv_at hl 1 rfl) ?_
    refine bs_lt (tgt := 14) (X := (x2).toInt) hx hb dX10_memberOf_6 (by decide) rfl (fun c2 => ?_) (fun c2 => ?_)
    · refine lv_iconst (v := (-1)) hx hb dX10_memberOf_14 (by decide) ?_
      refine hret _ _ _ _ _ _ dX10_memberOf_15 rfl ?_ hO
      exact rfl
    · refine lv_iload_n hx hb dX10_memberOf_9 rfl (lv_at hl 1 rfl) ?_
      refine lv_iconst (v := 1) hx hb dX10_memberOf_10 (by decide) ?_
      refine cs_le (tgt := 16) (X := (x2).toInt) (Y := 1) hx hb dX10_memberOf_11 (by decide) rfl rfl (fun c3 => ?_) (fun c3 => ?_)
      · refine lv_iload_n hx hb dX10_memberOf_16 rfl (lv_at hl 1 rfl) ?_
        refine bs_ne (tgt := 27) (X := (x2).toInt) hx hb dX10_memberOf_17 (by decide) rfl (fun c4 => ?_) (fun c4 => ?_)
        · refine lv_iload_n hx hb dX10_memberOf_27 rfl (lv_at hl 0 rfl) ?_
          refine lv_bipush (v := 6) hx hb dX10_memberOf_28 (by decide) ?_
          refine lv_irem hx hb dX10_memberOf_30 (i_ne0 (X := 6) rfl (by omega)) ?_
          refine lv_topi (fun z5 ez5 => ?_)
          refine hret _ _ _ _ _ _ dX10_memberOf_31 rfl ?_ hO
          exact rfl
        · refine lv_iload_n hx hb dX10_memberOf_20 rfl (lv_at hl 0 rfl) ?_
          refine lv_bipush (v := 6) hx hb dX10_memberOf_21 (by decide) ?_
          refine lv_idiv hx hb dX10_memberOf_23 (i_ne0 (X := 6) rfl (by omega)) ?_
          refine lv_topi (fun z6 ez6 => ?_)
          refine lv_goto (tgt := 31) hx hb dX10_memberOf_24 (by decide) ?_
          refine hret _ _ _ _ _ _ dX10_memberOf_31 rfl ?_ hO
          exact rfl
      · refine lv_iconst (v := (-1)) hx hb dX10_memberOf_14 (by decide) ?_
        refine hret _ _ _ _ _ _ dX10_memberOf_15 rfl ?_ hO
        exact rfl
theorem dX10_contrary_0 : decode cX10_contrary 0 = .ok (.aload_n 0, 1) := by decide +kernel
theorem dX10_contrary_1 : decode cX10_contrary 1 = .ok (.getfield 69, 3) := by decide +kernel
theorem dX10_contrary_4 : decode cX10_contrary 4 = .ok (.invokevirtual 239, 3) := by decide +kernel
theorem dX10_contrary_7 : decode cX10_contrary 7 = .ok (.iload_n 1, 1) := by decide +kernel
theorem dX10_contrary_8 : decode cX10_contrary 8 = .ok (.invokestatic 242, 3) := by decide +kernel
theorem dX10_contrary_11 : decode cX10_contrary 11 = .ok (.ireturn, 1) := by decide +kernel
theorem wd_1086 : (Cond.code ⟨"WebCourt", "contrary", "(I)I"⟩ prog_1_method_26_code (2 : Nat) (Option.some FieldType.int)) ∈ gtb := gtb_c5 17 (by decide +kernel) rfl
theorem wd_1087 : (Cond.methodLink "WebCourt" (239 : Nat) ⟨"WebCourt$Counsel", "contraries", "()I"⟩) ∈ gtb := gtb_c5 18 (by decide +kernel) rfl
theorem wd_1088 : (Cond.instanceMethod ⟨"WebCourt$Counsel", "contraries", "()I"⟩) ∈ gtb := gtb_c5 19 (by decide +kernel) rfl
theorem wd_1089 : (Cond.selects "WebCourt$Counsel" ⟨"WebCourt$Counsel", "contraries", "()I"⟩ ⟨"WebCourt$Counsel", "contraries", "()I"⟩) ∈ gtb := gtb_c5 20 (by decide +kernel) rfl
theorem hd_yX1_contraries : yX1_contraries.cls = RX1 ∧ yX1_contraries.cls ≠ "java/lang/invoke/MethodHandle" ∧ yX1_contraries.cls ≠ "java/lang/invoke/VarHandle" ∧ (parseMethodDescriptor yX1_contraries.desc).map (fun d => d.parameters.length) = some 0 := by decide +kernel
theorem wd_1100 : (Cond.methodLink "WebCourt" (242 : Nat) ⟨"WebCourt", "memberOf", "(II)I"⟩) ∈ gtb := gtb_c5 31 (by decide +kernel) rfl
theorem wd_1101 : (Cond.static ⟨"WebCourt", "memberOf", "(II)I"⟩) ∈ gtb := gtb_c5 32 (by decide +kernel) rfl
theorem hd_yX10_memberOf : yX10_memberOf.cls ≠ "java/lang/invoke/MethodHandle" ∧ yX10_memberOf.cls ≠ "java/lang/invoke/VarHandle" ∧ (parseMethodDescriptor yX10_memberOf.desc).map (fun d => d.parameters.length) = some 2 := by decide +kernel
set_option maxHeartbeats 4000000 in
set_option maxRecDepth 100000 in
theorem T_X10_contrary (l : Launch) (D : va_G) (cy : Nat → ClassId) (a : Nat → Nat) (u : St) (hJ : CI a u) (x1 : Int32)  : Mi l D cy (cW cy a) yX10_contrary (.code yX10_contrary cX10_contrary 2 (some .int)) (rmo 6 142) [.ref (a 0), .int x1] u (fun (r : Int32) (u' : St) => (CI a u') ∧ (KT u u')) := by
  refine Mi.of (own := RX10) rfl (by decide) (Nat.le_of_ble_eq_true rfl) ?_
  have hT : KT u u := KT.rf
  intro p e s m below meth c A Q ls C hret hO hl
  obtain ⟨hx, hb, hml, hown, ht, hK, hA⟩ := id C
  have hl : lv_has ls 2 [(0, .ref (a 0)), (1, .int x1)] := hl
  refine lv_aload_n hx hb dX10_contrary_0 rfl (lv_at hl 0 rfl) ?_
  refine gf_RX10_69 (v := .ref (a 36)) C hO 0 cW_0 rfl dX10_contrary_1 ?_
  refine cVi (w := cW cy a) (As := []) (rest := []) C hO (T_X1_contraries l D cy a _ (by exact hJ)) (cwV 0 ht (gV wd_1087 wd_1088 wd_1089 wd_119 wd_1090) rfl rfl rfl hd_yX1_contraries ⟨Nat.le_of_ble_eq_true rfl, Nat.le_of_ble_eq_true rfl⟩) 36 rfl cW_36 rfl rfl hl.1 (Nat.le_of_ble_eq_true rfl) dX10_contrary_4 rfl ⟨Nat.zero_le _, Nat.zero_le _⟩ (fun r1 u2 H locs hp3 hO => ?_)
  obtain ⟨hJ, hTu2⟩ := hp3
  have hT : KT u u2 := KT.tr (by exact hT) hTu2
  refine lv_iload_n hx hb dX10_contrary_7 rfl (lv_at hl 1 rfl) ?_
  refine cSi (w := cW cy a) (As := [.int r1, .int x1]) (rest := []) C hO (T_X10_memberOf l D cy a _ (by exact hJ) (r1) (x1)) (va_cwS 2 ht (gSS wd_1100 wd_1101 wd_110 wd_1102) rfl rfl rfl hd_yX10_memberOf ⟨Nat.le_of_ble_eq_true rfl, Nat.le_of_ble_eq_true rfl⟩)  rfl hl.1 (Nat.le_of_ble_eq_true rfl) dX10_contrary_8 rfl ⟨Nat.zero_le _, Nat.zero_le _⟩ (fun r4 u5 H locs hp6 hO => ?_)
  have hu5 := hp6
  rw [hu5] at hO
  refine hret _ _ _ _ _ _ dX10_contrary_11 rfl ?_ hO
  exact ⟨hJ, hT⟩
theorem dX10_hopeless_0 : decode cX10_hopeless 0 = .ok (.aload_n 0, 1) := by decide +kernel
theorem dX10_hopeless_1 : decode cX10_hopeless 1 = .ok (.getfield 69, 3) := by decide +kernel
theorem dX10_hopeless_4 : decode cX10_hopeless 4 = .ok (.invokevirtual 245, 3) := by decide +kernel
theorem dX10_hopeless_7 : decode cX10_hopeless 7 = .ok (.ireturn, 1) := by decide +kernel
theorem wd_1106 : (Cond.code ⟨"WebCourt", "hopeless", "()I"⟩ prog_1_method_28_code (1 : Nat) (Option.some FieldType.int)) ∈ gtb := gtb_c5 37 (by decide +kernel) rfl
theorem wd_1107 : (Cond.methodLink "WebCourt" (245 : Nat) ⟨"WebCourt$Counsel", "withoutHope", "()I"⟩) ∈ gtb := gtb_c5 38 (by decide +kernel) rfl
theorem wd_1108 : (Cond.instanceMethod ⟨"WebCourt$Counsel", "withoutHope", "()I"⟩) ∈ gtb := gtb_c5 39 (by decide +kernel) rfl
theorem wd_1109 : (Cond.selects "WebCourt$Counsel" ⟨"WebCourt$Counsel", "withoutHope", "()I"⟩ ⟨"WebCourt$Counsel", "withoutHope", "()I"⟩) ∈ gtb := gtb_c5 40 (by decide +kernel) rfl
theorem hd_yX1_withoutHope : yX1_withoutHope.cls = RX1 ∧ yX1_withoutHope.cls ≠ "java/lang/invoke/MethodHandle" ∧ yX1_withoutHope.cls ≠ "java/lang/invoke/VarHandle" ∧ (parseMethodDescriptor yX1_withoutHope.desc).map (fun d => d.parameters.length) = some 0 := by decide +kernel
set_option maxHeartbeats 4000000 in
set_option maxRecDepth 100000 in
theorem T_X10_hopeless (l : Launch) (D : va_G) (cy : Nat → ClassId) (a : Nat → Nat) (u : St) (hJ : CI a u)   : Mi l D cy (cW cy a) yX10_hopeless (.code yX10_hopeless cX10_hopeless 1 (some .int)) (rmo 6 148) [.ref (a 0)] u (fun (r : Int32) (u' : St) => (CI a u') ∧ (KT u u')) := by
  refine Mi.of (own := RX10) rfl (by decide) (Nat.le_of_ble_eq_true rfl) ?_
  have hT : KT u u := KT.rf
  intro p e s m below meth c A Q ls C hret hO hl
  obtain ⟨hx, hb, hml, hown, ht, hK, hA⟩ := id C
  have hl : lv_has ls 1 [(0, .ref (a 0))] := hl
  refine lv_aload_n hx hb dX10_hopeless_0 rfl (lv_at hl 0 rfl) ?_
  refine gf_RX10_69 (v := .ref (a 36)) C hO 0 cW_0 rfl dX10_hopeless_1 ?_
  refine cVi (w := cW cy a) (As := []) (rest := []) C hO (T_X1_withoutHope l D cy a _ (by exact hJ)) (cwV 0 ht (gV wd_1107 wd_1108 wd_1109 wd_119 wd_1110) rfl rfl rfl hd_yX1_withoutHope ⟨Nat.le_of_ble_eq_true rfl, Nat.le_of_ble_eq_true rfl⟩) 36 rfl cW_36 rfl rfl hl.1 (Nat.le_of_ble_eq_true rfl) dX10_hopeless_4 rfl ⟨Nat.zero_le _, Nat.zero_le _⟩ (fun r1 u2 H locs hp3 hO => ?_)
  obtain ⟨hJ, hTu2⟩ := hp3
  have hT : KT u u2 := KT.tr (by exact hT) hTu2
  refine hret _ _ _ _ _ _ dX10_hopeless_7 rfl ?_ hO
  exact ⟨hJ, hT⟩
theorem dX10_rivals_0 : decode cX10_rivals 0 = .ok (.aload_n 0, 1) := by decide +kernel
theorem dX10_rivals_1 : decode cX10_rivals 1 = .ok (.iconst 0, 1) := by decide +kernel
theorem dX10_rivals_2 : decode cX10_rivals 2 = .ok (.putfield 111, 3) := by decide +kernel
theorem dX10_rivals_5 : decode cX10_rivals 5 = .ok (.iload_n 1, 1) := by decide +kernel
theorem dX10_rivals_6 : decode cX10_rivals 6 = .ok (.iload_n 2, 1) := by decide +kernel
theorem dX10_rivals_7 : decode cX10_rivals 7 = .ok (.if_icmp .eq 38, 3) := by decide +kernel
theorem dX10_rivals_10 : decode cX10_rivals 10 = .ok (.aload_n 0, 1) := by decide +kernel
theorem dX10_rivals_11 : decode cX10_rivals 11 = .ok (.getfield 37, 3) := by decide +kernel
theorem dX10_rivals_14 : decode cX10_rivals 14 = .ok (.iload_n 1, 1) := by decide +kernel
theorem dX10_rivals_15 : decode cX10_rivals 15 = .ok (.invokevirtual 189, 3) := by decide +kernel
theorem dX10_rivals_18 : decode cX10_rivals 18 = .ok (.ifCond .eq 27, 3) := by decide +kernel
theorem dX10_rivals_21 : decode cX10_rivals 21 = .ok (.aload_n 0, 1) := by decide +kernel
theorem dX10_rivals_22 : decode cX10_rivals 22 = .ok (.getfield 37, 3) := by decide +kernel
theorem dX10_rivals_25 : decode cX10_rivals 25 = .ok (.iload_n 2, 1) := by decide +kernel
theorem dX10_rivals_26 : decode cX10_rivals 26 = .ok (.invokevirtual 189, 3) := by decide +kernel
theorem dX10_rivals_29 : decode cX10_rivals 29 = .ok (.ifCond .eq 16, 3) := by decide +kernel
theorem dX10_rivals_32 : decode cX10_rivals 32 = .ok (.aload_n 0, 1) := by decide +kernel
theorem dX10_rivals_33 : decode cX10_rivals 33 = .ok (.getfield 37, 3) := by decide +kernel
theorem dX10_rivals_36 : decode cX10_rivals 36 = .ok (.getfield 101, 3) := by decide +kernel
theorem dX10_rivals_39 : decode cX10_rivals 39 = .ok (.getfield 206, 3) := by decide +kernel
theorem dX10_rivals_42 : decode cX10_rivals 42 = .ok (.ifCond .ne 5, 3) := by decide +kernel
theorem dX10_rivals_45 : decode cX10_rivals 45 = .ok (.iconst (-1), 1) := by decide +kernel
theorem dX10_rivals_46 : decode cX10_rivals 46 = .ok (.ireturn, 1) := by decide +kernel
theorem dX10_rivals_47 : decode cX10_rivals 47 = .ok (.aload_n 0, 1) := by decide +kernel
theorem dX10_rivals_48 : decode cX10_rivals 48 = .ok (.getfield 69, 3) := by decide +kernel
theorem dX10_rivals_51 : decode cX10_rivals 51 = .ok (.iload_n 1, 1) := by decide +kernel
theorem dX10_rivals_52 : decode cX10_rivals 52 = .ok (.iload_n 2, 1) := by decide +kernel
theorem dX10_rivals_53 : decode cX10_rivals 53 = .ok (.aload_n 0, 1) := by decide +kernel
theorem dX10_rivals_54 : decode cX10_rivals 54 = .ok (.getfield 85, 3) := by decide +kernel
theorem dX10_rivals_57 : decode cX10_rivals 57 = .ok (.invokevirtual 248, 3) := by decide +kernel
theorem dX10_rivals_60 : decode cX10_rivals 60 = .ok (.istore_n 3, 1) := by decide +kernel
theorem dX10_rivals_61 : decode cX10_rivals 61 = .ok (.aload_n 0, 1) := by decide +kernel
theorem dX10_rivals_62 : decode cX10_rivals 62 = .ok (.iload_n 3, 1) := by decide +kernel
theorem dX10_rivals_63 : decode cX10_rivals 63 = .ok (.ifCond .le 7, 3) := by decide +kernel
theorem dX10_rivals_66 : decode cX10_rivals 66 = .ok (.iconst 2, 1) := by decide +kernel
theorem dX10_rivals_67 : decode cX10_rivals 67 = .ok (.goto 4, 3) := by decide +kernel
theorem dX10_rivals_70 : decode cX10_rivals 70 = .ok (.iconst 0, 1) := by decide +kernel
theorem dX10_rivals_71 : decode cX10_rivals 71 = .ok (.putfield 111, 3) := by decide +kernel
theorem dX10_rivals_74 : decode cX10_rivals 74 = .ok (.iload_n 3, 1) := by decide +kernel
theorem dX10_rivals_75 : decode cX10_rivals 75 = .ok (.ireturn, 1) := by decide +kernel
theorem wd_1115 : (Cond.code ⟨"WebCourt", "rivals", "(II)I"⟩ prog_1_method_29_code (4 : Nat) (Option.some FieldType.int)) ∈ gtb := gtb_c5 46 (by decide +kernel) rfl
theorem wd_1116 : (Cond.methodLink "WebCourt" (248 : Nat) ⟨"WebCourt$Counsel", "rests", "(II[I)I"⟩) ∈ gtb := gtb_c5 47 (by decide +kernel) rfl
theorem wd_1117 : (Cond.instanceMethod ⟨"WebCourt$Counsel", "rests", "(II[I)I"⟩) ∈ gtb := gtb_c5 48 (by decide +kernel) rfl
theorem wd_1118 : (Cond.selects "WebCourt$Counsel" ⟨"WebCourt$Counsel", "rests", "(II[I)I"⟩ ⟨"WebCourt$Counsel", "rests", "(II[I)I"⟩) ∈ gtb := gtb_c5 49 (by decide +kernel) rfl
theorem hd_yX1_rests : yX1_rests.cls = RX1 ∧ yX1_rests.cls ≠ "java/lang/invoke/MethodHandle" ∧ yX1_rests.cls ≠ "java/lang/invoke/VarHandle" ∧ (parseMethodDescriptor yX1_rests.desc).map (fun d => d.parameters.length) = some 3 := by decide +kernel
set_option maxHeartbeats 4000000 in
set_option maxRecDepth 100000 in
theorem T_X10_rivals (l : Launch) (D : va_G) (cy : Nat → ClassId) (a : Nat → Nat) (u : St) (hJ : CI a u) (x1 : Int32) (x2 : Int32)  : Mi l D cy (cW cy a) yX10_rivals (.code yX10_rivals cX10_rivals 4 (some .int)) (rmo 5 129) [.ref (a 0), .int x1, .int x2] u (fun (r : Int32) (u' : St) => (CI a u') ∧ (KT u u')) := by
  refine Mi.of (own := RX10) rfl (by decide) (Nat.le_of_ble_eq_true rfl) ?_
  have hT : KT u u := KT.rf
  intro p e s m below meth c A Q ls C hret hO hl
  obtain ⟨hx, hb, hml, hown, ht, hK, hA⟩ := id C
  have hl : lv_has ls 4 [(0, .ref (a 0)), (1, .int x1), (2, .int x2)] := hl
  refine lv_aload_n hx hb dX10_rivals_0 rfl (lv_at hl 0 rfl) ?_
  refine lv_iconst (v := 0) hx hb dX10_rivals_1 (by decide) ?_
  refine pf_RX10_111 C hO 0 cW_0 (Nat.le_of_ble_eq_true rfl) cW_s0_10 dX10_rivals_2 (fun H locs hO => ?_)
  have hJ := CIs_0_10 (v := 0) hJ (by first | decide | omega)
  refine lv_iload_n hx hb dX10_rivals_5 rfl (lv_at hl 1 rfl) ?_
  refine lv_iload_n hx hb dX10_rivals_6 rfl (lv_at hl 2 rfl) ?_
  refine cs_eq (tgt := 45) (X := (x1).toInt) (Y := (x2).toInt) hx hb dX10_rivals_7 (by decide) rfl rfl (fun c1 => ?_) (fun c1 => ?_)
  · refine lv_iconst (v := (-1)) hx hb dX10_rivals_45 (by decide) ?_
    refine hret _ _ _ _ _ _ dX10_rivals_46 rfl ?_ hO
    exact ⟨hJ, hT⟩
  · refine lv_aload_n hx hb dX10_rivals_10 rfl (lv_at hl 0 rfl) ?_
    refine gf_RX10_37 (v := .ref (a 28)) C hO 0 cW_0 rfl dX10_rivals_11 ?_
    refine lv_iload_n hx hb dX10_rivals_14 rfl (lv_at hl 1 rfl) ?_
    refine cVi (w := cW cy a) (As := [.int x1]) (rest := []) C hO (T_X2_isHeld l D cy a _ (by exact hJ) (x1)) (cwV 1 ht (gV wd_961 wd_930 wd_931 wd_115 wd_932) rfl rfl rfl hd_yX2_isHeld ⟨Nat.le_of_ble_eq_true rfl, Nat.le_of_ble_eq_true rfl⟩) 28 rfl cW_28 rfl rfl hl.1 (Nat.le_of_ble_eq_true rfl) dX10_rivals_15 rfl ⟨Nat.zero_le _, Nat.zero_le _⟩ (fun r2 u3 H locs hp4 hO => ?_)
    obtain ⟨hr2, hu3⟩ := hp4
    rw [hu3] at hO
    rcases hr2 with ⟨hcr2, hvr2⟩ | ⟨hcr2, hvr2⟩
    · subst hvr2
      refine bn_eq (X := 1) hx hb dX10_rivals_18 rfl (by omega) ?_ (tgt := 45) (by decide)
      refine lv_aload_n hx hb dX10_rivals_21 rfl (lv_at hl 0 rfl) ?_
      refine gf_RX10_37 (v := .ref (a 28)) C hO 0 cW_0 rfl dX10_rivals_22 ?_
      refine lv_iload_n hx hb dX10_rivals_25 rfl (lv_at hl 2 rfl) ?_
      refine cVi (w := cW cy a) (As := [.int x2]) (rest := []) C hO (T_X2_isHeld l D cy a _ (by exact hJ) (x2)) (cwV 1 ht (gV wd_961 wd_930 wd_931 wd_115 wd_932) rfl rfl rfl hd_yX2_isHeld ⟨Nat.le_of_ble_eq_true rfl, Nat.le_of_ble_eq_true rfl⟩) 28 rfl cW_28 rfl rfl hl.1 (Nat.le_of_ble_eq_true rfl) dX10_rivals_26 rfl ⟨Nat.zero_le _, Nat.zero_le _⟩ (fun r5 u6 H locs hp7 hO => ?_)
      obtain ⟨hr5, hu6⟩ := hp7
      rw [hu6] at hO
      rcases hr5 with ⟨hcr5, hvr5⟩ | ⟨hcr5, hvr5⟩
      · subst hvr5
        refine bn_eq (X := 1) hx hb dX10_rivals_29 rfl (by omega) ?_ (tgt := 45) (by decide)
        refine lv_aload_n hx hb dX10_rivals_32 rfl (lv_at hl 0 rfl) ?_
        refine gf_RX10_37 (v := .ref (a 28)) C hO 0 cW_0 rfl dX10_rivals_33 ?_
        refine gf_RX10_101 (v := .ref (a 3)) C hO 28 cW_28 (congrArg (fun z : Nat => some (Value.ref z)) (CI_R0 hJ)) dX10_rivals_36 ?_
        have g8 : 0 ≤ (fI u 3 11).toInt ∧ (fI u 3 11).toInt ≤ 8 := by have h := CI_3_11 hJ; exact h
        refine gf_RX10_206 (v := .int (fI u 3 11)) C hO 3 cW_3 rfl dX10_rivals_39 ?_
        refine bs_ne (tgt := 47) (X := ((fI u 3 11)).toInt) hx hb dX10_rivals_42 (by decide) rfl (fun c9 => ?_) (fun c9 => ?_)
        · refine lv_aload_n hx hb dX10_rivals_47 rfl (lv_at hl 0 rfl) ?_
          refine gf_RX10_69 (v := .ref (a 36)) C hO 0 cW_0 rfl dX10_rivals_48 ?_
          refine lv_iload_n hx hb dX10_rivals_51 rfl (lv_at hl 1 rfl) ?_
          refine lv_iload_n hx hb dX10_rivals_52 rfl (lv_at hl 2 rfl) ?_
          refine lv_aload_n hx hb dX10_rivals_53 rfl (lv_at hl 0 rfl) ?_
          refine gf_RX10_85 (v := .ref (a 46)) C hO 0 cW_0 rfl dX10_rivals_54 ?_
          refine cVi (w := cW cy a) (As := [.int x1, .int x2, .ref (a 46)]) (rest := []) C hO (T_X1_rests l D cy a _ (by exact hJ) (x1) (x2) (by first | omega | decide) (by first | omega | decide)) (cwV 3 ht (gV wd_1116 wd_1117 wd_1118 wd_119 wd_1119) rfl rfl rfl hd_yX1_rests ⟨Nat.le_of_ble_eq_true rfl, Nat.le_of_ble_eq_true rfl⟩) 36 rfl cW_36 rfl rfl hl.1 (Nat.le_of_ble_eq_true rfl) dX10_rivals_57 rfl ⟨Nat.zero_le _, Nat.zero_le _⟩ (fun r10 u11 H locs hp12 hO => ?_)
          obtain ⟨hJ, hTu11⟩ := hp12
          have hT : KT u u11 := KT.tr (by exact hT) hTu11
          refine lv_istore_n (lv' := [(3, .int r10), (0, .ref (a 0)), (1, .int x1), (2, .int x2)]) hx hb dX10_rivals_60 rfl hl (by decide) rfl (fun ls hl => ?_)
          refine lv_aload_n hx hb dX10_rivals_61 rfl (lv_at hl 1 rfl) ?_
          refine lv_iload_n hx hb dX10_rivals_62 rfl (lv_at hl 0 rfl) ?_
          refine bs_le (tgt := 70) (X := (r10).toInt) hx hb dX10_rivals_63 (by decide) rfl (fun c13 => ?_) (fun c13 => ?_)
          · refine lv_iconst (v := 0) hx hb dX10_rivals_70 (by decide) ?_
            refine pf_RX10_111 C hO 0 cW_0 (Nat.le_of_ble_eq_true rfl) cW_s0_10 dX10_rivals_71 (fun H locs hO => ?_)
            have hJ := CIs_0_10 (v := 0) hJ (by first | decide | omega)
            refine lv_iload_n hx hb dX10_rivals_74 rfl (lv_at hl 0 rfl) ?_
            refine hret _ _ _ _ _ _ dX10_rivals_75 rfl ?_ hO
            exact ⟨hJ, hT⟩
          · refine lv_iconst (v := 2) hx hb dX10_rivals_66 (by decide) ?_
            refine lv_goto (tgt := 71) hx hb dX10_rivals_67 (by decide) ?_
            refine pf_RX10_111 C hO 0 cW_0 (Nat.le_of_ble_eq_true rfl) cW_s0_10 dX10_rivals_71 (fun H locs hO => ?_)
            have hJ := CIs_0_10 (v := 2) hJ (by first | decide | omega)
            refine lv_iload_n hx hb dX10_rivals_74 rfl (lv_at hl 0 rfl) ?_
            refine hret _ _ _ _ _ _ dX10_rivals_75 rfl ?_ hO
            exact ⟨hJ, hT⟩
        · refine lv_iconst (v := (-1)) hx hb dX10_rivals_45 (by decide) ?_
          refine hret _ _ _ _ _ _ dX10_rivals_46 rfl ?_ hO
          exact ⟨hJ, hT⟩
      · subst hvr5
        refine bt_eq (tgt := 45) (X := 0) hx hb dX10_rivals_29 (by decide) rfl (by omega) ?_
        refine lv_iconst (v := (-1)) hx hb dX10_rivals_45 (by decide) ?_
        refine hret _ _ _ _ _ _ dX10_rivals_46 rfl ?_ hO
        exact ⟨hJ, hT⟩
    · subst hvr2
      refine bt_eq (tgt := 45) (X := 0) hx hb dX10_rivals_18 (by decide) rfl (by omega) ?_
      refine lv_iconst (v := (-1)) hx hb dX10_rivals_45 (by decide) ?_
      refine hret _ _ _ _ _ _ dX10_rivals_46 rfl ?_ hO
      exact ⟨hJ, hT⟩
theorem dX10_bridge_0 : decode cX10_bridge 0 = .ok (.aload_n 0, 1) := by decide +kernel
theorem dX10_bridge_1 : decode cX10_bridge 1 = .ok (.getfield 53, 3) := by decide +kernel
theorem dX10_bridge_4 : decode cX10_bridge 4 = .ok (.invokevirtual 252, 3) := by decide +kernel
theorem dX10_bridge_7 : decode cX10_bridge 7 = .ok (.istore_n 2, 1) := by decide +kernel
theorem dX10_bridge_8 : decode cX10_bridge 8 = .ok (.iload_n 2, 1) := by decide +kernel
theorem dX10_bridge_9 : decode cX10_bridge 9 = .ok (.iconst (-1), 1) := by decide +kernel
theorem dX10_bridge_10 : decode cX10_bridge 10 = .ok (.if_icmp .eq 12, 3) := by decide +kernel
theorem dX10_bridge_13 : decode cX10_bridge 13 = .ok (.iload_n 1, 1) := by decide +kernel
theorem dX10_bridge_14 : decode cX10_bridge 14 = .ok (.ifCond .lt 8, 3) := by decide +kernel
theorem dX10_bridge_17 : decode cX10_bridge 17 = .ok (.iload_n 1, 1) := by decide +kernel
theorem dX10_bridge_18 : decode cX10_bridge 18 = .ok (.iconst 1, 1) := by decide +kernel
theorem dX10_bridge_19 : decode cX10_bridge 19 = .ok (.if_icmp .le 5, 3) := by decide +kernel
theorem dX10_bridge_22 : decode cX10_bridge 22 = .ok (.iconst (-1), 1) := by decide +kernel
theorem dX10_bridge_23 : decode cX10_bridge 23 = .ok (.ireturn, 1) := by decide +kernel
theorem dX10_bridge_24 : decode cX10_bridge 24 = .ok (.iload_n 1, 1) := by decide +kernel
theorem dX10_bridge_25 : decode cX10_bridge 25 = .ok (.ifCond .ne 7, 3) := by decide +kernel
theorem dX10_bridge_28 : decode cX10_bridge 28 = .ok (.iload_n 2, 1) := by decide +kernel
theorem dX10_bridge_29 : decode cX10_bridge 29 = .ok (.goto 11, 3) := by decide +kernel
theorem dX10_bridge_32 : decode cX10_bridge 32 = .ok (.aload_n 0, 1) := by decide +kernel
theorem dX10_bridge_33 : decode cX10_bridge 33 = .ok (.getfield 53, 3) := by decide +kernel
theorem dX10_bridge_36 : decode cX10_bridge 36 = .ok (.iload_n 2, 1) := by decide +kernel
theorem dX10_bridge_37 : decode cX10_bridge 37 = .ok (.invokevirtual 255, 3) := by decide +kernel
theorem dX10_bridge_40 : decode cX10_bridge 40 = .ok (.ireturn, 1) := by decide +kernel
theorem wd_1127 : (Cond.code ⟨"WebCourt", "bridge", "(I)I"⟩ prog_1_method_30_code (3 : Nat) (Option.some FieldType.int)) ∈ gtb := gtb_c5 58 (by decide +kernel) rfl
theorem wd_1128 : (Cond.methodLink "WebCourt" (252 : Nat) ⟨"WebCourt$Ways", "bridgeLine", "()I"⟩) ∈ gtb := gtb_c5 59 (by decide +kernel) rfl
theorem wd_1129 : (Cond.instanceMethod ⟨"WebCourt$Ways", "bridgeLine", "()I"⟩) ∈ gtb := gtb_c5 60 (by decide +kernel) rfl
theorem wd_1130 : (Cond.selects "WebCourt$Ways" ⟨"WebCourt$Ways", "bridgeLine", "()I"⟩ ⟨"WebCourt$Ways", "bridgeLine", "()I"⟩) ∈ gtb := gtb_c5 61 (by decide +kernel) rfl
theorem hd_yX8_bridgeLine : yX8_bridgeLine.cls = RX8 ∧ yX8_bridgeLine.cls ≠ "java/lang/invoke/MethodHandle" ∧ yX8_bridgeLine.cls ≠ "java/lang/invoke/VarHandle" ∧ (parseMethodDescriptor yX8_bridgeLine.desc).map (fun d => d.parameters.length) = some 0 := by decide +kernel
theorem wd_1141 : (Cond.methodLink "WebCourt" (255 : Nat) ⟨"WebCourt$Ways", "knotsWithout", "(I)I"⟩) ∈ gtb := gtb_c5 72 (by decide +kernel) rfl
set_option maxHeartbeats 4000000 in
set_option maxRecDepth 100000 in
theorem T_X10_bridge (l : Launch) (D : va_G) (cy : Nat → ClassId) (a : Nat → Nat) (u : St) (hJ : CI a u) (x1 : Int32)  : Mi l D cy (cW cy a) yX10_bridge (.code yX10_bridge cX10_bridge 3 (some .int)) (rmo 3 70) [.ref (a 0), .int x1] u (fun (r : Int32) (u' : St) => u' = u) := by
  refine Mi.of (own := RX10) rfl (by decide) (Nat.le_of_ble_eq_true rfl) ?_
  have hT : KT u u := KT.rf
  intro p e s m below meth c A Q ls C hret hO hl
  obtain ⟨hx, hb, hml, hown, ht, hK, hA⟩ := id C
  have hl : lv_has ls 3 [(0, .ref (a 0)), (1, .int x1)] := hl
  refine lv_aload_n hx hb dX10_bridge_0 rfl (lv_at hl 0 rfl) ?_
  refine gf_RX10_53 (v := .ref (a 32)) C hO 0 cW_0 rfl dX10_bridge_1 ?_
  refine cVi (w := cW cy a) (As := []) (rest := []) C hO (T_X8_bridgeLine l D cy a _ (by exact hJ)) (cwV 0 ht (gV wd_1128 wd_1129 wd_1130 wd_117 wd_1131) rfl rfl rfl hd_yX8_bridgeLine ⟨Nat.le_of_ble_eq_true rfl, Nat.le_of_ble_eq_true rfl⟩) 32 rfl cW_32 rfl rfl hl.1 (Nat.le_of_ble_eq_true rfl) dX10_bridge_4 rfl ⟨Nat.zero_le _, Nat.zero_le _⟩ (fun r1 u2 H locs hp3 hO => ?_)
  have hu2 := hp3
  rw [hu2] at hO
  refine lv_istore_n (lv' := [(2, .int r1), (0, .ref (a 0)), (1, .int x1)]) hx hb dX10_bridge_7 rfl hl (by decide) rfl (fun ls hl => ?_)
  refine lv_iload_n hx hb dX10_bridge_8 rfl (lv_at hl 0 rfl) ?_
  refine lv_iconst (v := (-1)) hx hb dX10_bridge_9 (by decide) ?_
  refine cs_eq (tgt := 22) (X := (r1).toInt) (Y := (-1)) hx hb dX10_bridge_10 (by decide) rfl rfl (fun c4 => ?_) (fun c4 => ?_)
  · refine lv_iconst (v := (-1)) hx hb dX10_bridge_22 (by decide) ?_
    refine hret _ _ _ _ _ _ dX10_bridge_23 rfl ?_ hO
    exact rfl
  · refine lv_iload_n hx hb dX10_bridge_13 rfl (lv_at hl 2 rfl) ?_
    refine bs_lt (tgt := 22) (X := (x1).toInt) hx hb dX10_bridge_14 (by decide) rfl (fun c5 => ?_) (fun c5 => ?_)
    · refine lv_iconst (v := (-1)) hx hb dX10_bridge_22 (by decide) ?_
      refine hret _ _ _ _ _ _ dX10_bridge_23 rfl ?_ hO
      exact rfl
    · refine lv_iload_n hx hb dX10_bridge_17 rfl (lv_at hl 2 rfl) ?_
      refine lv_iconst (v := 1) hx hb dX10_bridge_18 (by decide) ?_
      refine cs_le (tgt := 24) (X := (x1).toInt) (Y := 1) hx hb dX10_bridge_19 (by decide) rfl rfl (fun c6 => ?_) (fun c6 => ?_)
      · refine lv_iload_n hx hb dX10_bridge_24 rfl (lv_at hl 2 rfl) ?_
        refine bs_ne (tgt := 32) (X := (x1).toInt) hx hb dX10_bridge_25 (by decide) rfl (fun c7 => ?_) (fun c7 => ?_)
        · refine lv_aload_n hx hb dX10_bridge_32 rfl (lv_at hl 1 rfl) ?_
          refine gf_RX10_53 (v := .ref (a 32)) C hO 0 cW_0 rfl dX10_bridge_33 ?_
          refine lv_iload_n hx hb dX10_bridge_36 rfl (lv_at hl 0 rfl) ?_
          refine cVi (w := cW cy a) (As := [.int r1]) (rest := []) C hO (T_X8_knotsWithout l D cy a _ (by exact hJ) (r1)) (cwV 1 ht (gV wd_1141 wd_1133 wd_1134 wd_117 wd_1135) rfl rfl rfl hd_yX8_knotsWithout ⟨Nat.le_of_ble_eq_true rfl, Nat.le_of_ble_eq_true rfl⟩) 32 rfl cW_32 rfl rfl hl.1 (Nat.le_of_ble_eq_true rfl) dX10_bridge_37 rfl ⟨Nat.zero_le _, Nat.zero_le _⟩ (fun r8 u9 H locs hp10 hO => ?_)
          have hu9 := hp10
          rw [hu9] at hO
          refine hret _ _ _ _ _ _ dX10_bridge_40 rfl ?_ hO
          exact rfl
        · refine lv_iload_n hx hb dX10_bridge_28 rfl (lv_at hl 0 rfl) ?_
          refine lv_goto (tgt := 40) hx hb dX10_bridge_29 (by decide) ?_
          refine hret _ _ _ _ _ _ dX10_bridge_40 rfl ?_ hO
          exact rfl
      · refine lv_iconst (v := (-1)) hx hb dX10_bridge_22 (by decide) ?_
        refine hret _ _ _ _ _ _ dX10_bridge_23 rfl ?_ hO
        exact rfl
theorem dX10_forbid_0 : decode cX10_forbid 0 = .ok (.aload_n 0, 1) := by decide +kernel
theorem dX10_forbid_1 : decode cX10_forbid 1 = .ok (.getfield 69, 3) := by decide +kernel
theorem dX10_forbid_4 : decode cX10_forbid 4 = .ok (.invokevirtual 258, 3) := by decide +kernel
theorem dX10_forbid_7 : decode cX10_forbid 7 = .ok (.istore_n 2, 1) := by decide +kernel
theorem dX10_forbid_8 : decode cX10_forbid 8 = .ok (.iload_n 2, 1) := by decide +kernel
theorem dX10_forbid_9 : decode cX10_forbid 9 = .ok (.iconst (-1), 1) := by decide +kernel
theorem dX10_forbid_10 : decode cX10_forbid 10 = .ok (.if_icmp .eq 12, 3) := by decide +kernel
theorem dX10_forbid_13 : decode cX10_forbid 13 = .ok (.iload_n 1, 1) := by decide +kernel
theorem dX10_forbid_14 : decode cX10_forbid 14 = .ok (.ifCond .lt 8, 3) := by decide +kernel
theorem dX10_forbid_17 : decode cX10_forbid 17 = .ok (.iload_n 1, 1) := by decide +kernel
theorem dX10_forbid_18 : decode cX10_forbid 18 = .ok (.iconst 1, 1) := by decide +kernel
theorem dX10_forbid_19 : decode cX10_forbid 19 = .ok (.if_icmp .le 5, 3) := by decide +kernel
theorem dX10_forbid_22 : decode cX10_forbid 22 = .ok (.iconst (-1), 1) := by decide +kernel
theorem dX10_forbid_23 : decode cX10_forbid 23 = .ok (.ireturn, 1) := by decide +kernel
theorem dX10_forbid_24 : decode cX10_forbid 24 = .ok (.iload_n 1, 1) := by decide +kernel
theorem dX10_forbid_25 : decode cX10_forbid 25 = .ok (.ifCond .ne 7, 3) := by decide +kernel
theorem dX10_forbid_28 : decode cX10_forbid 28 = .ok (.iload_n 2, 1) := by decide +kernel
theorem dX10_forbid_29 : decode cX10_forbid 29 = .ok (.goto 11, 3) := by decide +kernel
theorem dX10_forbid_32 : decode cX10_forbid 32 = .ok (.aload_n 0, 1) := by decide +kernel
theorem dX10_forbid_33 : decode cX10_forbid 33 = .ok (.getfield 69, 3) := by decide +kernel
theorem dX10_forbid_36 : decode cX10_forbid 36 = .ok (.iload_n 2, 1) := by decide +kernel
theorem dX10_forbid_37 : decode cX10_forbid 37 = .ok (.invokevirtual 261, 3) := by decide +kernel
theorem dX10_forbid_40 : decode cX10_forbid 40 = .ok (.ireturn, 1) := by decide +kernel
theorem wd_1145 : (Cond.code ⟨"WebCourt", "forbid", "(I)I"⟩ prog_1_method_31_code (3 : Nat) (Option.some FieldType.int)) ∈ gtb := gtb_c5 76 (by decide +kernel) rfl
theorem wd_1146 : (Cond.methodLink "WebCourt" (258 : Nat) ⟨"WebCourt$Counsel", "pleaToForbid", "()I"⟩) ∈ gtb := gtb_c5 77 (by decide +kernel) rfl
theorem wd_1147 : (Cond.instanceMethod ⟨"WebCourt$Counsel", "pleaToForbid", "()I"⟩) ∈ gtb := gtb_c5 78 (by decide +kernel) rfl
theorem wd_1148 : (Cond.selects "WebCourt$Counsel" ⟨"WebCourt$Counsel", "pleaToForbid", "()I"⟩ ⟨"WebCourt$Counsel", "pleaToForbid", "()I"⟩) ∈ gtb := gtb_c5 79 (by decide +kernel) rfl
theorem hd_yX1_pleaToForbid : yX1_pleaToForbid.cls = RX1 ∧ yX1_pleaToForbid.cls ≠ "java/lang/invoke/MethodHandle" ∧ yX1_pleaToForbid.cls ≠ "java/lang/invoke/VarHandle" ∧ (parseMethodDescriptor yX1_pleaToForbid.desc).map (fun d => d.parameters.length) = some 0 := by decide +kernel
theorem wd_1154 : (Cond.methodLink "WebCourt" (261 : Nat) ⟨"WebCourt$Counsel", "freeWithout", "(I)I"⟩) ∈ gtb := gtb_c5 85 (by decide +kernel) rfl
set_option maxHeartbeats 4000000 in
set_option maxRecDepth 100000 in
theorem T_X10_forbid (l : Launch) (D : va_G) (cy : Nat → ClassId) (a : Nat → Nat) (u : St) (hJ : CI a u) (x1 : Int32)  : Mi l D cy (cW cy a) yX10_forbid (.code yX10_forbid cX10_forbid 3 (some .int)) (rmo 6 147) [.ref (a 0), .int x1] u (fun (r : Int32) (u' : St) => (CI a u') ∧ (KT u u')) := by
  refine Mi.of (own := RX10) rfl (by decide) (Nat.le_of_ble_eq_true rfl) ?_
  have hT : KT u u := KT.rf
  intro p e s m below meth c A Q ls C hret hO hl
  obtain ⟨hx, hb, hml, hown, ht, hK, hA⟩ := id C
  have hl : lv_has ls 3 [(0, .ref (a 0)), (1, .int x1)] := hl
  refine lv_aload_n hx hb dX10_forbid_0 rfl (lv_at hl 0 rfl) ?_
  refine gf_RX10_69 (v := .ref (a 36)) C hO 0 cW_0 rfl dX10_forbid_1 ?_
  refine cVi (w := cW cy a) (As := []) (rest := []) C hO (T_X1_pleaToForbid l D cy a _ (by exact hJ)) (cwV 0 ht (gV wd_1146 wd_1147 wd_1148 wd_119 wd_1149) rfl rfl rfl hd_yX1_pleaToForbid ⟨Nat.le_of_ble_eq_true rfl, Nat.le_of_ble_eq_true rfl⟩) 36 rfl cW_36 rfl rfl hl.1 (Nat.le_of_ble_eq_true rfl) dX10_forbid_4 rfl ⟨Nat.zero_le _, Nat.zero_le _⟩ (fun r1 u2 H locs hp3 hO => ?_)
  obtain ⟨hJ, hTu2⟩ := hp3
  have hT : KT u u2 := KT.tr (by exact hT) hTu2
  refine lv_istore_n (lv' := [(2, .int r1), (0, .ref (a 0)), (1, .int x1)]) hx hb dX10_forbid_7 rfl hl (by decide) rfl (fun ls hl => ?_)
  refine lv_iload_n hx hb dX10_forbid_8 rfl (lv_at hl 0 rfl) ?_
  refine lv_iconst (v := (-1)) hx hb dX10_forbid_9 (by decide) ?_
  refine cs_eq (tgt := 22) (X := (r1).toInt) (Y := (-1)) hx hb dX10_forbid_10 (by decide) rfl rfl (fun c4 => ?_) (fun c4 => ?_)
  · refine lv_iconst (v := (-1)) hx hb dX10_forbid_22 (by decide) ?_
    refine hret _ _ _ _ _ _ dX10_forbid_23 rfl ?_ hO
    exact ⟨hJ, hT⟩
  · refine lv_iload_n hx hb dX10_forbid_13 rfl (lv_at hl 2 rfl) ?_
    refine bs_lt (tgt := 22) (X := (x1).toInt) hx hb dX10_forbid_14 (by decide) rfl (fun c5 => ?_) (fun c5 => ?_)
    · refine lv_iconst (v := (-1)) hx hb dX10_forbid_22 (by decide) ?_
      refine hret _ _ _ _ _ _ dX10_forbid_23 rfl ?_ hO
      exact ⟨hJ, hT⟩
    · refine lv_iload_n hx hb dX10_forbid_17 rfl (lv_at hl 2 rfl) ?_
      refine lv_iconst (v := 1) hx hb dX10_forbid_18 (by decide) ?_
      refine cs_le (tgt := 24) (X := (x1).toInt) (Y := 1) hx hb dX10_forbid_19 (by decide) rfl rfl (fun c6 => ?_) (fun c6 => ?_)
      · refine lv_iload_n hx hb dX10_forbid_24 rfl (lv_at hl 2 rfl) ?_
        refine bs_ne (tgt := 32) (X := (x1).toInt) hx hb dX10_forbid_25 (by decide) rfl (fun c7 => ?_) (fun c7 => ?_)
        · refine lv_aload_n hx hb dX10_forbid_32 rfl (lv_at hl 1 rfl) ?_
          refine gf_RX10_69 (v := .ref (a 36)) C hO 0 cW_0 rfl dX10_forbid_33 ?_
          refine lv_iload_n hx hb dX10_forbid_36 rfl (lv_at hl 0 rfl) ?_
          refine cVi (w := cW cy a) (As := [.int r1]) (rest := []) C hO (T_X1_freeWithout l D cy a _ (by exact hJ) (r1)) (cwV 1 ht (gV wd_1154 wd_1151 wd_1152 wd_119 wd_1153) rfl rfl rfl hd_yX1_freeWithout ⟨Nat.le_of_ble_eq_true rfl, Nat.le_of_ble_eq_true rfl⟩) 36 rfl cW_36 rfl rfl hl.1 (Nat.le_of_ble_eq_true rfl) dX10_forbid_37 rfl ⟨Nat.zero_le _, Nat.zero_le _⟩ (fun r8 u9 H locs hp10 hO => ?_)
          obtain ⟨hJ, hTu9⟩ := hp10
          have hT : KT u u9 := KT.tr (by exact hT) hTu9
          refine hret _ _ _ _ _ _ dX10_forbid_40 rfl ?_ hO
          exact ⟨hJ, hT⟩
        · refine lv_iload_n hx hb dX10_forbid_28 rfl (lv_at hl 0 rfl) ?_
          refine lv_goto (tgt := 40) hx hb dX10_forbid_29 (by decide) ?_
          refine hret _ _ _ _ _ _ dX10_forbid_40 rfl ?_ hO
          exact ⟨hJ, hT⟩
      · refine lv_iconst (v := (-1)) hx hb dX10_forbid_22 (by decide) ?_
        refine hret _ _ _ _ _ _ dX10_forbid_23 rfl ?_ hO
        exact ⟨hJ, hT⟩
theorem dX10_swap_0 : decode cX10_swap 0 = .ok (.aload_n 0, 1) := by decide +kernel
theorem dX10_swap_1 : decode cX10_swap 1 = .ok (.getfield 69, 3) := by decide +kernel
theorem dX10_swap_4 : decode cX10_swap 4 = .ok (.invokevirtual 264, 3) := by decide +kernel
theorem dX10_swap_7 : decode cX10_swap 7 = .ok (.istore_n 2, 1) := by decide +kernel
theorem dX10_swap_8 : decode cX10_swap 8 = .ok (.iload_n 2, 1) := by decide +kernel
theorem dX10_swap_9 : decode cX10_swap 9 = .ok (.iconst (-1), 1) := by decide +kernel
theorem dX10_swap_10 : decode cX10_swap 10 = .ok (.if_icmp .eq 8, 3) := by decide +kernel
theorem dX10_swap_13 : decode cX10_swap 13 = .ok (.iload_n 1, 1) := by decide +kernel
theorem dX10_swap_14 : decode cX10_swap 14 = .ok (.iconst 2, 1) := by decide +kernel
theorem dX10_swap_15 : decode cX10_swap 15 = .ok (.if_icmp .eq 9, 3) := by decide +kernel
theorem dX10_swap_18 : decode cX10_swap 18 = .ok (.iload_n 2, 1) := by decide +kernel
theorem dX10_swap_19 : decode cX10_swap 19 = .ok (.iload_n 1, 1) := by decide +kernel
theorem dX10_swap_20 : decode cX10_swap 20 = .ok (.invokestatic 242, 3) := by decide +kernel
theorem dX10_swap_23 : decode cX10_swap 23 = .ok (.ireturn, 1) := by decide +kernel
theorem dX10_swap_24 : decode cX10_swap 24 = .ok (.aload_n 0, 1) := by decide +kernel
theorem dX10_swap_25 : decode cX10_swap 25 = .ok (.getfield 69, 3) := by decide +kernel
theorem dX10_swap_28 : decode cX10_swap 28 = .ok (.iload_n 2, 1) := by decide +kernel
theorem dX10_swap_29 : decode cX10_swap 29 = .ok (.bipush 6, 2) := by decide +kernel
theorem dX10_swap_31 : decode cX10_swap 31 = .ok (.idiv, 1) := by decide +kernel
theorem dX10_swap_32 : decode cX10_swap 32 = .ok (.iload_n 2, 1) := by decide +kernel
theorem dX10_swap_33 : decode cX10_swap 33 = .ok (.bipush 6, 2) := by decide +kernel
theorem dX10_swap_35 : decode cX10_swap 35 = .ok (.irem, 1) := by decide +kernel
theorem dX10_swap_36 : decode cX10_swap 36 = .ok (.invokevirtual 267, 3) := by decide +kernel
theorem dX10_swap_39 : decode cX10_swap 39 = .ok (.ireturn, 1) := by decide +kernel
theorem wd_1158 : (Cond.code ⟨"WebCourt", "swap", "(I)I"⟩ prog_1_method_32_code (3 : Nat) (Option.some FieldType.int)) ∈ gtb := gtb_c5 89 (by decide +kernel) rfl
theorem wd_1159 : (Cond.methodLink "WebCourt" (264 : Nat) ⟨"WebCourt$Counsel", "bestExchange", "()I"⟩) ∈ gtb := gtb_c5 90 (by decide +kernel) rfl
theorem wd_1160 : (Cond.instanceMethod ⟨"WebCourt$Counsel", "bestExchange", "()I"⟩) ∈ gtb := gtb_c5 91 (by decide +kernel) rfl
theorem wd_1161 : (Cond.selects "WebCourt$Counsel" ⟨"WebCourt$Counsel", "bestExchange", "()I"⟩ ⟨"WebCourt$Counsel", "bestExchange", "()I"⟩) ∈ gtb := gtb_c5 92 (by decide +kernel) rfl
theorem hd_yX1_bestExchange : yX1_bestExchange.cls = RX1 ∧ yX1_bestExchange.cls ≠ "java/lang/invoke/MethodHandle" ∧ yX1_bestExchange.cls ≠ "java/lang/invoke/VarHandle" ∧ (parseMethodDescriptor yX1_bestExchange.desc).map (fun d => d.parameters.length) = some 0 := by decide +kernel
theorem wd_1167 : (Cond.methodLink "WebCourt" (267 : Nat) ⟨"WebCourt$Counsel", "freeByExchange", "(II)I"⟩) ∈ gtb := gtb_c5 98 (by decide +kernel) rfl
set_option maxHeartbeats 4000000 in
set_option maxRecDepth 100000 in
theorem T_X10_swap (l : Launch) (D : va_G) (cy : Nat → ClassId) (a : Nat → Nat) (u : St) (hJ : CI a u) (x1 : Int32)  : Mi l D cy (cW cy a) yX10_swap (.code yX10_swap cX10_swap 3 (some .int)) (rmo 6 150) [.ref (a 0), .int x1] u (fun (r : Int32) (u' : St) => (CI a u') ∧ (KT u u')) := by
  refine Mi.of (own := RX10) rfl (by decide) (Nat.le_of_ble_eq_true rfl) ?_
  have hT : KT u u := KT.rf
  intro p e s m below meth c A Q ls C hret hO hl
  obtain ⟨hx, hb, hml, hown, ht, hK, hA⟩ := id C
  have hl : lv_has ls 3 [(0, .ref (a 0)), (1, .int x1)] := hl
  refine lv_aload_n hx hb dX10_swap_0 rfl (lv_at hl 0 rfl) ?_
  refine gf_RX10_69 (v := .ref (a 36)) C hO 0 cW_0 rfl dX10_swap_1 ?_
  refine cVi (w := cW cy a) (As := []) (rest := []) C hO (T_X1_bestExchange l D cy a _ (by exact hJ)) (cwV 0 ht (gV wd_1159 wd_1160 wd_1161 wd_119 wd_1162) rfl rfl rfl hd_yX1_bestExchange ⟨Nat.le_of_ble_eq_true rfl, Nat.le_of_ble_eq_true rfl⟩) 36 rfl cW_36 rfl rfl hl.1 (Nat.le_of_ble_eq_true rfl) dX10_swap_4 rfl ⟨Nat.zero_le _, Nat.zero_le _⟩ (fun r1 u2 H locs hp3 hO => ?_)
  obtain ⟨hr1, hJ, hTu2⟩ := hp3
  have hT : KT u u2 := KT.tr (by exact hT) hTu2
  refine lv_istore_n (lv' := [(2, .int r1), (0, .ref (a 0)), (1, .int x1)]) hx hb dX10_swap_7 rfl hl (by decide) rfl (fun ls hl => ?_)
  refine lv_iload_n hx hb dX10_swap_8 rfl (lv_at hl 0 rfl) ?_
  refine lv_iconst (v := (-1)) hx hb dX10_swap_9 (by decide) ?_
  refine cs_eq (tgt := 18) (X := (r1).toInt) (Y := (-1)) hx hb dX10_swap_10 (by decide) rfl rfl (fun c4 => ?_) (fun c4 => ?_)
  · refine lv_iload_n hx hb dX10_swap_18 rfl (lv_at hl 0 rfl) ?_
    refine lv_iload_n hx hb dX10_swap_19 rfl (lv_at hl 2 rfl) ?_
    refine cSi (w := cW cy a) (As := [.int r1, .int x1]) (rest := []) C hO (T_X10_memberOf l D cy a _ (by exact hJ) (r1) (x1)) (va_cwS 2 ht (gSS wd_1100 wd_1101 wd_110 wd_1102) rfl rfl rfl hd_yX10_memberOf ⟨Nat.le_of_ble_eq_true rfl, Nat.le_of_ble_eq_true rfl⟩)  rfl hl.1 (Nat.le_of_ble_eq_true rfl) dX10_swap_20 rfl ⟨Nat.zero_le _, Nat.zero_le _⟩ (fun r5 u6 H locs hp7 hO => ?_)
    have hu6 := hp7
    rw [hu6] at hO
    refine hret _ _ _ _ _ _ dX10_swap_23 rfl ?_ hO
    exact ⟨hJ, hT⟩
  · refine lv_iload_n hx hb dX10_swap_13 rfl (lv_at hl 2 rfl) ?_
    refine lv_iconst (v := 2) hx hb dX10_swap_14 (by decide) ?_
    refine cs_eq (tgt := 24) (X := (x1).toInt) (Y := 2) hx hb dX10_swap_15 (by decide) rfl rfl (fun c8 => ?_) (fun c8 => ?_)
    · refine lv_aload_n hx hb dX10_swap_24 rfl (lv_at hl 1 rfl) ?_
      refine gf_RX10_69 (v := .ref (a 36)) C hO 0 cW_0 rfl dX10_swap_25 ?_
      refine lv_iload_n hx hb dX10_swap_28 rfl (lv_at hl 0 rfl) ?_
      refine lv_bipush (v := 6) hx hb dX10_swap_29 (by decide) ?_
      refine lv_idiv hx hb dX10_swap_31 (i_ne0 (X := 6) rfl (by omega)) ?_
      refine lv_topi (fun z9 ez9 => ?_)
      have d10 := i_div (x := r1) (y := 6) rfl (d := 6) rfl (by omega) (by decide)
      rw [← ez9] at d10
      refine lv_iload_n hx hb dX10_swap_32 rfl (lv_at hl 0 rfl) ?_
      refine lv_bipush (v := 6) hx hb dX10_swap_33 (by decide) ?_
      refine lv_irem hx hb dX10_swap_35 (i_ne0 (X := 6) rfl (by omega)) ?_
      refine lv_topi (fun z11 ez11 => ?_)
      have d12 := i_remj (x := r1) (y := 6) rfl (d := 6) rfl (by omega) (by decide)
      rw [← ez11] at d12
      refine cVi (w := cW cy a) (As := [.int z9, .int z11]) (rest := []) C hO (T_X1_freeByExchange l D cy a _ (by exact hJ) (z9) (z11) (by first | omega | decide) (by first | omega | decide)) (cwV 2 ht (gV wd_1167 wd_1164 wd_1165 wd_119 wd_1166) rfl rfl rfl hd_yX1_freeByExchange ⟨Nat.le_of_ble_eq_true rfl, Nat.le_of_ble_eq_true rfl⟩) 36 rfl cW_36 rfl rfl hl.1 (Nat.le_of_ble_eq_true rfl) dX10_swap_36 rfl ⟨Nat.zero_le _, Nat.zero_le _⟩ (fun r13 u14 H locs hp15 hO => ?_)
      obtain ⟨hJ, hTu14⟩ := hp15
      have hT : KT u u14 := KT.tr (by exact hT) hTu14
      refine hret _ _ _ _ _ _ dX10_swap_39 rfl ?_ hO
      exact ⟨hJ, hT⟩
    · refine lv_iload_n hx hb dX10_swap_18 rfl (lv_at hl 0 rfl) ?_
      refine lv_iload_n hx hb dX10_swap_19 rfl (lv_at hl 2 rfl) ?_
      refine cSi (w := cW cy a) (As := [.int r1, .int x1]) (rest := []) C hO (T_X10_memberOf l D cy a _ (by exact hJ) (r1) (x1)) (va_cwS 2 ht (gSS wd_1100 wd_1101 wd_110 wd_1102) rfl rfl rfl hd_yX10_memberOf ⟨Nat.le_of_ble_eq_true rfl, Nat.le_of_ble_eq_true rfl⟩)  rfl hl.1 (Nat.le_of_ble_eq_true rfl) dX10_swap_20 rfl ⟨Nat.zero_le _, Nat.zero_le _⟩ (fun r16 u17 H locs hp18 hO => ?_)
      have hu17 := hp18
      rw [hu17] at hO
      refine hret _ _ _ _ _ _ dX10_swap_23 rfl ?_ hO
      exact ⟨hJ, hT⟩
theorem dX10_advice_0 : decode cX10_advice 0 = .ok (.aload_n 0, 1) := by decide +kernel
theorem dX10_advice_1 : decode cX10_advice 1 = .ok (.getfield 37, 3) := by decide +kernel
theorem dX10_advice_4 : decode cX10_advice 4 = .ok (.iload_n 1, 1) := by decide +kernel
theorem dX10_advice_5 : decode cX10_advice 5 = .ok (.invokevirtual 189, 3) := by decide +kernel
theorem dX10_advice_8 : decode cX10_advice 8 = .ok (.ifCond .eq 12, 3) := by decide +kernel
theorem dX10_advice_11 : decode cX10_advice 11 = .ok (.iload_n 2, 1) := by decide +kernel
theorem dX10_advice_12 : decode cX10_advice 12 = .ok (.ifCond .lt 8, 3) := by decide +kernel
theorem dX10_advice_15 : decode cX10_advice 15 = .ok (.iload_n 2, 1) := by decide +kernel
theorem dX10_advice_16 : decode cX10_advice 16 = .ok (.iconst 1, 1) := by decide +kernel
theorem dX10_advice_17 : decode cX10_advice 17 = .ok (.if_icmp .le 6, 3) := by decide +kernel
theorem dX10_advice_20 : decode cX10_advice 20 = .ok (.ldc 159, 2) := by decide +kernel
theorem dX10_advice_22 : decode cX10_advice 22 = .ok (.ireturn, 1) := by decide +kernel
theorem dX10_advice_23 : decode cX10_advice 23 = .ok (.aload_n 0, 1) := by decide +kernel
theorem dX10_advice_24 : decode cX10_advice 24 = .ok (.getfield 69, 3) := by decide +kernel
theorem dX10_advice_27 : decode cX10_advice 27 = .ok (.iload_n 1, 1) := by decide +kernel
theorem dX10_advice_28 : decode cX10_advice 28 = .ok (.invokevirtual 270, 3) := by decide +kernel
theorem dX10_advice_31 : decode cX10_advice 31 = .ok (.istore_n 3, 1) := by decide +kernel
theorem dX10_advice_32 : decode cX10_advice 32 = .ok (.iload_n 3, 1) := by decide +kernel
theorem dX10_advice_33 : decode cX10_advice 33 = .ok (.iconst (-1), 1) := by decide +kernel
theorem dX10_advice_34 : decode cX10_advice 34 = .ok (.if_icmp .ne 6, 3) := by decide +kernel
theorem dX10_advice_37 : decode cX10_advice 37 = .ok (.ldc 159, 2) := by decide +kernel
theorem dX10_advice_39 : decode cX10_advice 39 = .ok (.ireturn, 1) := by decide +kernel
theorem dX10_advice_40 : decode cX10_advice 40 = .ok (.iload_n 2, 1) := by decide +kernel
theorem dX10_advice_41 : decode cX10_advice 41 = .ok (.ifCond .ne 7, 3) := by decide +kernel
theorem dX10_advice_44 : decode cX10_advice 44 = .ok (.iload_n 3, 1) := by decide +kernel
theorem dX10_advice_45 : decode cX10_advice 45 = .ok (.goto 27, 3) := by decide +kernel
theorem dX10_advice_48 : decode cX10_advice 48 = .ok (.aload_n 0, 1) := by decide +kernel
theorem dX10_advice_49 : decode cX10_advice 49 = .ok (.getfield 37, 3) := by decide +kernel
theorem dX10_advice_52 : decode cX10_advice 52 = .ok (.iload_n 1, 1) := by decide +kernel
theorem dX10_advice_53 : decode cX10_advice 53 = .ok (.aload_n 0, 1) := by decide +kernel
theorem dX10_advice_54 : decode cX10_advice 54 = .ok (.getfield 37, 3) := by decide +kernel
theorem dX10_advice_57 : decode cX10_advice 57 = .ok (.getfield 150, 3) := by decide +kernel
theorem dX10_advice_60 : decode cX10_advice 60 = .ok (.bipush 11, 2) := by decide +kernel
theorem dX10_advice_62 : decode cX10_advice 62 = .ok (.iload_n 1, 1) := by decide +kernel
theorem dX10_advice_63 : decode cX10_advice 63 = .ok (.iadd, 1) := by decide +kernel
theorem dX10_advice_64 : decode cX10_advice 64 = .ok (.iaload, 1) := by decide +kernel
theorem dX10_advice_65 : decode cX10_advice 65 = .ok (.iconst 1, 1) := by decide +kernel
theorem dX10_advice_66 : decode cX10_advice 66 = .ok (.iload_n 3, 1) := by decide +kernel
theorem dX10_advice_67 : decode cX10_advice 67 = .ok (.ishl, 1) := by decide +kernel
theorem dX10_advice_68 : decode cX10_advice 68 = .ok (.ior, 1) := by decide +kernel
theorem dX10_advice_69 : decode cX10_advice 69 = .ok (.invokevirtual 273, 3) := by decide +kernel
theorem dX10_advice_72 : decode cX10_advice 72 = .ok (.ireturn, 1) := by decide +kernel
theorem wd_1171 : (Cond.code ⟨"WebCourt", "advice", "(II)I"⟩ prog_1_method_33_code (4 : Nat) (Option.some FieldType.int)) ∈ gtb := gtb_c5 102 (by decide +kernel) rfl
theorem wd_1172 : (Cond.methodLink "WebCourt" (270 : Nat) ⟨"WebCourt$Counsel", "pleaToTakeUp", "(I)I"⟩) ∈ gtb := gtb_c5 103 (by decide +kernel) rfl
theorem wd_1173 : (Cond.instanceMethod ⟨"WebCourt$Counsel", "pleaToTakeUp", "(I)I"⟩) ∈ gtb := gtb_c5 104 (by decide +kernel) rfl
theorem wd_1174 : (Cond.selects "WebCourt$Counsel" ⟨"WebCourt$Counsel", "pleaToTakeUp", "(I)I"⟩ ⟨"WebCourt$Counsel", "pleaToTakeUp", "(I)I"⟩) ∈ gtb := gtb_c5 105 (by decide +kernel) rfl
theorem hd_yX1_pleaToTakeUp : yX1_pleaToTakeUp.cls = RX1 ∧ yX1_pleaToTakeUp.cls ≠ "java/lang/invoke/MethodHandle" ∧ yX1_pleaToTakeUp.cls ≠ "java/lang/invoke/VarHandle" ∧ (parseMethodDescriptor yX1_pleaToTakeUp.desc).map (fun d => d.parameters.length) = some 1 := by decide +kernel
theorem wd_1176 : (Cond.methodLink "WebCourt" (273 : Nat) ⟨"WebCourt$Court", "judged", "(II)I"⟩) ∈ gtb := gtb_c5 107 (by decide +kernel) rfl
set_option maxHeartbeats 4000000 in
set_option maxRecDepth 100000 in
theorem T_X10_advice (l : Launch) (D : va_G) (cy : Nat → ClassId) (a : Nat → Nat) (u : St) (hJ : CI a u) (x1 : Int32) (x2 : Int32)  : Mi l D cy (cW cy a) yX10_advice (.code yX10_advice cX10_advice 4 (some .int)) (rmo 5 126) [.ref (a 0), .int x1, .int x2] u (fun (r : Int32) (u' : St) => (CI a u') ∧ (KT u u')) := by
  refine Mi.of (own := RX10) rfl (by decide) (Nat.le_of_ble_eq_true rfl) ?_
  have hT : KT u u := KT.rf
  intro p e s m below meth c A Q ls C hret hO hl
  obtain ⟨hx, hb, hml, hown, ht, hK, hA⟩ := id C
  have hl : lv_has ls 4 [(0, .ref (a 0)), (1, .int x1), (2, .int x2)] := hl
  refine lv_aload_n hx hb dX10_advice_0 rfl (lv_at hl 0 rfl) ?_
  refine gf_RX10_37 (v := .ref (a 28)) C hO 0 cW_0 rfl dX10_advice_1 ?_
  refine lv_iload_n hx hb dX10_advice_4 rfl (lv_at hl 1 rfl) ?_
  refine cVi (w := cW cy a) (As := [.int x1]) (rest := []) C hO (T_X2_isHeld l D cy a _ (by exact hJ) (x1)) (cwV 1 ht (gV wd_961 wd_930 wd_931 wd_115 wd_932) rfl rfl rfl hd_yX2_isHeld ⟨Nat.le_of_ble_eq_true rfl, Nat.le_of_ble_eq_true rfl⟩) 28 rfl cW_28 rfl rfl hl.1 (Nat.le_of_ble_eq_true rfl) dX10_advice_5 rfl ⟨Nat.zero_le _, Nat.zero_le _⟩ (fun r1 u2 H locs hp3 hO => ?_)
  obtain ⟨hr1, hu2⟩ := hp3
  rw [hu2] at hO
  rcases hr1 with ⟨hcr1, hvr1⟩ | ⟨hcr1, hvr1⟩
  · subst hvr1
    refine bn_eq (X := 1) hx hb dX10_advice_8 rfl (by omega) ?_ (tgt := 20) (by decide)
    refine lv_iload_n hx hb dX10_advice_11 rfl (lv_at hl 2 rfl) ?_
    refine bs_lt (tgt := 20) (X := (x2).toInt) hx hb dX10_advice_12 (by decide) rfl (fun c4 => ?_) (fun c4 => ?_)
    · refine lv_ldc (v := (-1000000000)) hx hb hown (ht _ wd_895) dX10_advice_20 ?_
      refine hret _ _ _ _ _ _ dX10_advice_22 rfl ?_ hO
      exact ⟨hJ, hT⟩
    · refine lv_iload_n hx hb dX10_advice_15 rfl (lv_at hl 2 rfl) ?_
      refine lv_iconst (v := 1) hx hb dX10_advice_16 (by decide) ?_
      refine cs_le (tgt := 23) (X := (x2).toInt) (Y := 1) hx hb dX10_advice_17 (by decide) rfl rfl (fun c5 => ?_) (fun c5 => ?_)
      · refine lv_aload_n hx hb dX10_advice_23 rfl (lv_at hl 0 rfl) ?_
        refine gf_RX10_69 (v := .ref (a 36)) C hO 0 cW_0 rfl dX10_advice_24 ?_
        refine lv_iload_n hx hb dX10_advice_27 rfl (lv_at hl 1 rfl) ?_
        refine cVi (w := cW cy a) (As := [.int x1]) (rest := []) C hO (T_X1_pleaToTakeUp l D cy a _ (by exact hJ) (x1) (by first | omega | decide)) (cwV 1 ht (gV wd_1172 wd_1173 wd_1174 wd_119 wd_1175) rfl rfl rfl hd_yX1_pleaToTakeUp ⟨Nat.le_of_ble_eq_true rfl, Nat.le_of_ble_eq_true rfl⟩) 36 rfl cW_36 rfl rfl hl.1 (Nat.le_of_ble_eq_true rfl) dX10_advice_28 rfl ⟨Nat.zero_le _, Nat.zero_le _⟩ (fun r6 u7 H locs hp8 hO => ?_)
        obtain ⟨hJ, hTu7⟩ := hp8
        have hT : KT u u7 := KT.tr (by exact hT) hTu7
        refine lv_istore_n (lv' := [(3, .int r6), (0, .ref (a 0)), (1, .int x1), (2, .int x2)]) hx hb dX10_advice_31 rfl hl (by decide) rfl (fun ls hl => ?_)
        refine lv_iload_n hx hb dX10_advice_32 rfl (lv_at hl 0 rfl) ?_
        refine lv_iconst (v := (-1)) hx hb dX10_advice_33 (by decide) ?_
        refine cs_ne (tgt := 40) (X := (r6).toInt) (Y := (-1)) hx hb dX10_advice_34 (by decide) rfl rfl (fun c9 => ?_) (fun c9 => ?_)
        · refine lv_iload_n hx hb dX10_advice_40 rfl (lv_at hl 3 rfl) ?_
          refine bs_ne (tgt := 48) (X := (x2).toInt) hx hb dX10_advice_41 (by decide) rfl (fun c10 => ?_) (fun c10 => ?_)
          · refine lv_aload_n hx hb dX10_advice_48 rfl (lv_at hl 1 rfl) ?_
            refine gf_RX10_37 (v := .ref (a 28)) C hO 0 cW_0 rfl dX10_advice_49 ?_
            refine lv_iload_n hx hb dX10_advice_52 rfl (lv_at hl 2 rfl) ?_
            refine lv_aload_n hx hb dX10_advice_53 rfl (lv_at hl 1 rfl) ?_
            refine gf_RX10_37 (v := .ref (a 28)) C hO 0 cW_0 rfl dX10_advice_54 ?_
            refine gf_RX10_150 (v := .ref (a 29)) C hO 28 cW_28 rfl dX10_advice_57 ?_
            refine lv_bipush (v := 11) hx hb dX10_advice_60 (by decide) ?_
            refine lv_iload_n hx hb dX10_advice_62 rfl (lv_at hl 2 rfl) ?_
            have e11 : ((11 + x1)).toInt = 11 + (x1).toInt := i_add rfl rfl (by omega)
            refine lv_iadd hx hb dX10_advice_63 ?_
            refine aI C hO 29 cW_29 (i_in (X := (11 + (x1).toInt)) e11 (by omega) (by omega)) dX10_advice_64 ?_
            refine lv_topi (fun w12 ew12 => ?_)
            refine lv_iconst (v := 1) hx hb dX10_advice_65 (by decide) ?_
            refine lv_iload_n hx hb dX10_advice_66 rfl (lv_at hl 0 rfl) ?_
            refine lv_ishl hx hb dX10_advice_67 ?_
            refine lv_topi (fun z13 ez13 => ?_)
            refine lv_ior hx hb dX10_advice_68 ?_
            refine lv_topi (fun z14 ez14 => ?_)
            refine cVi (w := cW cy a) (As := [.int x1, .int z14]) (rest := []) C hO (T_X2_judged l D cy a _ (by exact hJ) (x1) (z14) (by first | omega | decide)) (cwV 2 ht (gV wd_1176 wd_997 wd_998 wd_115 wd_999) rfl rfl rfl hd_yX2_judged ⟨Nat.le_of_ble_eq_true rfl, Nat.le_of_ble_eq_true rfl⟩) 28 rfl cW_28 rfl rfl hl.1 (Nat.le_of_ble_eq_true rfl) dX10_advice_69 rfl ⟨Nat.zero_le _, Nat.zero_le _⟩ (fun r15 u16 H locs hp17 hO => ?_)
            obtain ⟨hJ, hTu16⟩ := hp17
            have hT : KT u u16 := KT.tr (by exact hT) hTu16
            refine hret _ _ _ _ _ _ dX10_advice_72 rfl ?_ hO
            exact ⟨hJ, hT⟩
          · refine lv_iload_n hx hb dX10_advice_44 rfl (lv_at hl 0 rfl) ?_
            refine lv_goto (tgt := 72) hx hb dX10_advice_45 (by decide) ?_
            refine hret _ _ _ _ _ _ dX10_advice_72 rfl ?_ hO
            exact ⟨hJ, hT⟩
        · refine lv_ldc (v := (-1000000000)) hx hb hown (ht _ wd_895) dX10_advice_37 ?_
          refine hret _ _ _ _ _ _ dX10_advice_39 rfl ?_ hO
          exact ⟨hJ, hT⟩
      · refine lv_ldc (v := (-1000000000)) hx hb hown (ht _ wd_895) dX10_advice_20 ?_
        refine hret _ _ _ _ _ _ dX10_advice_22 rfl ?_ hO
        exact ⟨hJ, hT⟩
  · subst hvr1
    refine bt_eq (tgt := 20) (X := 0) hx hb dX10_advice_8 (by decide) rfl (by omega) ?_
    refine lv_ldc (v := (-1000000000)) hx hb hown (ht _ wd_895) dX10_advice_20 ?_
    refine hret _ _ _ _ _ _ dX10_advice_22 rfl ?_ hO
    exact ⟨hJ, hT⟩
theorem dX10_free_0 : decode cX10_free 0 = .ok (.aload_n 0, 1) := by decide +kernel
theorem dX10_free_1 : decode cX10_free 1 = .ok (.getfield 69, 3) := by decide +kernel
theorem dX10_free_4 : decode cX10_free 4 = .ok (.invokevirtual 276, 3) := by decide +kernel
theorem dX10_free_7 : decode cX10_free 7 = .ok (.ireturn, 1) := by decide +kernel
theorem wd_1180 : (Cond.code ⟨"WebCourt", "free", "()I"⟩ prog_1_method_34_code (1 : Nat) (Option.some FieldType.int)) ∈ gtb := gtb_c5 111 (by decide +kernel) rfl
theorem wd_1181 : (Cond.methodLink "WebCourt" (276 : Nat) ⟨"WebCourt$Counsel", "freeNow", "()I"⟩) ∈ gtb := gtb_c5 112 (by decide +kernel) rfl
theorem wd_1182 : (Cond.instanceMethod ⟨"WebCourt$Counsel", "freeNow", "()I"⟩) ∈ gtb := gtb_c5 113 (by decide +kernel) rfl
theorem wd_1183 : (Cond.selects "WebCourt$Counsel" ⟨"WebCourt$Counsel", "freeNow", "()I"⟩ ⟨"WebCourt$Counsel", "freeNow", "()I"⟩) ∈ gtb := gtb_c5 114 (by decide +kernel) rfl
theorem hd_yX1_freeNow : yX1_freeNow.cls = RX1 ∧ yX1_freeNow.cls ≠ "java/lang/invoke/MethodHandle" ∧ yX1_freeNow.cls ≠ "java/lang/invoke/VarHandle" ∧ (parseMethodDescriptor yX1_freeNow.desc).map (fun d => d.parameters.length) = some 0 := by decide +kernel
set_option maxHeartbeats 4000000 in
set_option maxRecDepth 100000 in
theorem T_X10_free (l : Launch) (D : va_G) (cy : Nat → ClassId) (a : Nat → Nat) (u : St) (hJ : CI a u)   : Mi l D cy (cW cy a) yX10_free (.code yX10_free cX10_free 1 (some .int)) (rmo 5 121) [.ref (a 0)] u (fun (r : Int32) (u' : St) => (CI a u') ∧ (KT u u')) := by
  refine Mi.of (own := RX10) rfl (by decide) (Nat.le_of_ble_eq_true rfl) ?_
  have hT : KT u u := KT.rf
  intro p e s m below meth c A Q ls C hret hO hl
  obtain ⟨hx, hb, hml, hown, ht, hK, hA⟩ := id C
  have hl : lv_has ls 1 [(0, .ref (a 0))] := hl
  refine lv_aload_n hx hb dX10_free_0 rfl (lv_at hl 0 rfl) ?_
  refine gf_RX10_69 (v := .ref (a 36)) C hO 0 cW_0 rfl dX10_free_1 ?_
  refine cVi (w := cW cy a) (As := []) (rest := []) C hO (T_X1_freeNow l D cy a _ (by exact hJ)) (cwV 0 ht (gV wd_1181 wd_1182 wd_1183 wd_119 wd_1184) rfl rfl rfl hd_yX1_freeNow ⟨Nat.le_of_ble_eq_true rfl, Nat.le_of_ble_eq_true rfl⟩) 36 rfl cW_36 rfl rfl hl.1 (Nat.le_of_ble_eq_true rfl) dX10_free_4 rfl ⟨Nat.zero_le _, Nat.zero_le _⟩ (fun r1 u2 H locs hp3 hO => ?_)
  obtain ⟨hJ, hTu2⟩ := hp3
  have hT : KT u u2 := KT.tr (by exact hT) hTu2
  refine hret _ _ _ _ _ _ dX10_free_7 rfl ?_ hO
  exact ⟨hJ, hT⟩
theorem dX10_reach_0 : decode cX10_reach 0 = .ok (.aload_n 0, 1) := by decide +kernel
theorem dX10_reach_1 : decode cX10_reach 1 = .ok (.getfield 53, 3) := by decide +kernel
theorem dX10_reach_4 : decode cX10_reach 4 = .ok (.aload_n 0, 1) := by decide +kernel
theorem dX10_reach_5 : decode cX10_reach 5 = .ok (.getfield 37, 3) := by decide +kernel
theorem dX10_reach_8 : decode cX10_reach 8 = .ok (.getfield 150, 3) := by decide +kernel
theorem dX10_reach_11 : decode cX10_reach 11 = .ok (.iconst 4, 1) := by decide +kernel
theorem dX10_reach_12 : decode cX10_reach 12 = .ok (.iaload, 1) := by decide +kernel
theorem dX10_reach_13 : decode cX10_reach 13 = .ok (.invokevirtual 279, 3) := by decide +kernel
theorem dX10_reach_16 : decode cX10_reach 16 = .ok (.ireturn, 1) := by decide +kernel
theorem wd_1188 : (Cond.code ⟨"WebCourt", "reach", "()I"⟩ prog_1_method_35_code (1 : Nat) (Option.some FieldType.int)) ∈ gtb := gtb_c5 119 (by decide +kernel) rfl
theorem wd_1189 : (Cond.methodLink "WebCourt" (279 : Nat) ⟨"WebCourt$Ways", "reached", "(I)I"⟩) ∈ gtb := gtb_c5 120 (by decide +kernel) rfl
set_option maxHeartbeats 4000000 in
set_option maxRecDepth 100000 in
theorem T_X10_reach (l : Launch) (D : va_G) (cy : Nat → ClassId) (a : Nat → Nat) (u : St) (hJ : CI a u)   : Mi l D cy (cW cy a) yX10_reach (.code yX10_reach cX10_reach 1 (some .int)) (rmo 1 25) [.ref (a 0)] u (fun (r : Int32) (u' : St) => u' = u) := by
  refine Mi.of (own := RX10) rfl (by decide) (Nat.le_of_ble_eq_true rfl) ?_
  have hT : KT u u := KT.rf
  intro p e s m below meth c A Q ls C hret hO hl
  obtain ⟨hx, hb, hml, hown, ht, hK, hA⟩ := id C
  have hl : lv_has ls 1 [(0, .ref (a 0))] := hl
  refine lv_aload_n hx hb dX10_reach_0 rfl (lv_at hl 0 rfl) ?_
  refine gf_RX10_53 (v := .ref (a 32)) C hO 0 cW_0 rfl dX10_reach_1 ?_
  refine lv_aload_n hx hb dX10_reach_4 rfl (lv_at hl 0 rfl) ?_
  refine gf_RX10_37 (v := .ref (a 28)) C hO 0 cW_0 rfl dX10_reach_5 ?_
  refine gf_RX10_150 (v := .ref (a 29)) C hO 28 cW_28 rfl dX10_reach_8 ?_
  refine lv_iconst (v := 4) hx hb dX10_reach_11 (by decide) ?_
  refine aI C hO 29 cW_29 (i_in (X := 4) rfl (by omega) (by omega)) dX10_reach_12 ?_
  refine lv_topi (fun w1 ew1 => ?_)
  refine cVi (w := cW cy a) (As := [.int w1]) (rest := []) C hO (T_X8_reached l D cy a _ (by exact hJ) (w1)) (cwV 1 ht (gV wd_1189 wd_1137 wd_1138 wd_117 wd_1139) rfl rfl rfl hd_yX8_reached ⟨Nat.le_of_ble_eq_true rfl, Nat.le_of_ble_eq_true rfl⟩) 32 rfl cW_32 rfl rfl hl.1 (Nat.le_of_ble_eq_true rfl) dX10_reach_13 rfl ⟨Nat.zero_le _, Nat.zero_le _⟩ (fun r2 u3 H locs hp4 hO => ?_)
  have hu3 := hp4
  rw [hu3] at hO
  refine hret _ _ _ _ _ _ dX10_reach_16 rfl ?_ hO
  exact rfl
theorem dX10_fashion_0 : decode cX10_fashion 0 = .ok (.aload_n 0, 1) := by decide +kernel
theorem dX10_fashion_1 : decode cX10_fashion 1 = .ok (.getfield 69, 3) := by decide +kernel
theorem dX10_fashion_4 : decode cX10_fashion 4 = .ok (.invokevirtual 282, 3) := by decide +kernel
theorem dX10_fashion_7 : decode cX10_fashion 7 = .ok (.ireturn, 1) := by decide +kernel
theorem wd_1193 : (Cond.code ⟨"WebCourt", "fashion", "()I"⟩ prog_1_method_36_code (1 : Nat) (Option.some FieldType.int)) ∈ gtb := gtb_c5 124 (by decide +kernel) rfl
theorem wd_1194 : (Cond.methodLink "WebCourt" (282 : Nat) ⟨"WebCourt$Counsel", "commonestPlea", "()I"⟩) ∈ gtb := gtb_c5 125 (by decide +kernel) rfl
theorem wd_1195 : (Cond.instanceMethod ⟨"WebCourt$Counsel", "commonestPlea", "()I"⟩) ∈ gtb := gtb_c5 126 (by decide +kernel) rfl
theorem wd_1196 : (Cond.selects "WebCourt$Counsel" ⟨"WebCourt$Counsel", "commonestPlea", "()I"⟩ ⟨"WebCourt$Counsel", "commonestPlea", "()I"⟩) ∈ gtb := gtb_c5 127 (by decide +kernel) rfl
theorem hd_yX1_commonestPlea : yX1_commonestPlea.cls = RX1 ∧ yX1_commonestPlea.cls ≠ "java/lang/invoke/MethodHandle" ∧ yX1_commonestPlea.cls ≠ "java/lang/invoke/VarHandle" ∧ (parseMethodDescriptor yX1_commonestPlea.desc).map (fun d => d.parameters.length) = some 0 := by decide +kernel
set_option maxHeartbeats 4000000 in
set_option maxRecDepth 100000 in
theorem T_X10_fashion (l : Launch) (D : va_G) (cy : Nat → ClassId) (a : Nat → Nat) (u : St) (hJ : CI a u)   : Mi l D cy (cW cy a) yX10_fashion (.code yX10_fashion cX10_fashion 1 (some .int)) (rmo 3 67) [.ref (a 0)] u (fun (r : Int32) (u' : St) => u' = u) := by
  refine Mi.of (own := RX10) rfl (by decide) (Nat.le_of_ble_eq_true rfl) ?_
  have hT : KT u u := KT.rf
  intro p e s m below meth c A Q ls C hret hO hl
  obtain ⟨hx, hb, hml, hown, ht, hK, hA⟩ := id C
  have hl : lv_has ls 1 [(0, .ref (a 0))] := hl
  refine lv_aload_n hx hb dX10_fashion_0 rfl (lv_at hl 0 rfl) ?_
  refine gf_RX10_69 (v := .ref (a 36)) C hO 0 cW_0 rfl dX10_fashion_1 ?_
  refine cVi (w := cW cy a) (As := []) (rest := []) C hO (T_X1_commonestPlea l D cy a _ (by exact hJ)) (cwV 0 ht (gV wd_1194 wd_1195 wd_1196 wd_119 wd_1197) rfl rfl rfl hd_yX1_commonestPlea ⟨Nat.le_of_ble_eq_true rfl, Nat.le_of_ble_eq_true rfl⟩) 36 rfl cW_36 rfl rfl hl.1 (Nat.le_of_ble_eq_true rfl) dX10_fashion_4 rfl ⟨Nat.zero_le _, Nat.zero_le _⟩ (fun r1 u2 H locs hp3 hO => ?_)
  have hu2 := hp3
  rw [hu2] at hO
  refine hret _ _ _ _ _ _ dX10_fashion_7 rfl ?_ hO
  exact rfl
theorem dX10_likeliest_0 : decode cX10_likeliest 0 = .ok (.aload_n 0, 1) := by decide +kernel
theorem dX10_likeliest_1 : decode cX10_likeliest 1 = .ok (.getfield 69, 3) := by decide +kernel
theorem dX10_likeliest_4 : decode cX10_likeliest 4 = .ok (.invokevirtual 285, 3) := by decide +kernel
theorem dX10_likeliest_7 : decode cX10_likeliest 7 = .ok (.ireturn, 1) := by decide +kernel
theorem wd_1202 : (Cond.code ⟨"WebCourt", "likeliest", "()I"⟩ prog_1_method_37_code (1 : Nat) (Option.some FieldType.int)) ∈ gtb := gtb_c5 133 (by decide +kernel) rfl
theorem wd_1203 : (Cond.methodLink "WebCourt" (285 : Nat) ⟨"WebCourt$Counsel", "greatestVerdict", "()I"⟩) ∈ gtb := gtb_c5 134 (by decide +kernel) rfl
theorem wd_1204 : (Cond.instanceMethod ⟨"WebCourt$Counsel", "greatestVerdict", "()I"⟩) ∈ gtb := gtb_c5 135 (by decide +kernel) rfl
theorem wd_1205 : (Cond.selects "WebCourt$Counsel" ⟨"WebCourt$Counsel", "greatestVerdict", "()I"⟩ ⟨"WebCourt$Counsel", "greatestVerdict", "()I"⟩) ∈ gtb := gtb_c5 136 (by decide +kernel) rfl
theorem hd_yX1_greatestVerdict : yX1_greatestVerdict.cls = RX1 ∧ yX1_greatestVerdict.cls ≠ "java/lang/invoke/MethodHandle" ∧ yX1_greatestVerdict.cls ≠ "java/lang/invoke/VarHandle" ∧ (parseMethodDescriptor yX1_greatestVerdict.desc).map (fun d => d.parameters.length) = some 0 := by decide +kernel
set_option maxHeartbeats 4000000 in
set_option maxRecDepth 100000 in
theorem T_X10_likeliest (l : Launch) (D : va_G) (cy : Nat → ClassId) (a : Nat → Nat) (u : St) (hJ : CI a u)   : Mi l D cy (cW cy a) yX10_likeliest (.code yX10_likeliest cX10_likeliest 1 (some .int)) (rmo 5 123) [.ref (a 0)] u (fun (r : Int32) (u' : St) => (CI a u') ∧ (KT u u')) := by
  refine Mi.of (own := RX10) rfl (by decide) (Nat.le_of_ble_eq_true rfl) ?_
  have hT : KT u u := KT.rf
  intro p e s m below meth c A Q ls C hret hO hl
  obtain ⟨hx, hb, hml, hown, ht, hK, hA⟩ := id C
  have hl : lv_has ls 1 [(0, .ref (a 0))] := hl
  refine lv_aload_n hx hb dX10_likeliest_0 rfl (lv_at hl 0 rfl) ?_
  refine gf_RX10_69 (v := .ref (a 36)) C hO 0 cW_0 rfl dX10_likeliest_1 ?_
  refine cVi (w := cW cy a) (As := []) (rest := []) C hO (T_X1_greatestVerdict l D cy a _ (by exact hJ)) (cwV 0 ht (gV wd_1203 wd_1204 wd_1205 wd_119 wd_1206) rfl rfl rfl hd_yX1_greatestVerdict ⟨Nat.le_of_ble_eq_true rfl, Nat.le_of_ble_eq_true rfl⟩) 36 rfl cW_36 rfl rfl hl.1 (Nat.le_of_ble_eq_true rfl) dX10_likeliest_4 rfl ⟨Nat.zero_le _, Nat.zero_le _⟩ (fun r1 u2 H locs hp3 hO => ?_)
  obtain ⟨hJ, hTu2⟩ := hp3
  have hT : KT u u2 := KT.tr (by exact hT) hTu2
  refine hret _ _ _ _ _ _ dX10_likeliest_7 rfl ?_ hO
  exact ⟨hJ, hT⟩
theorem dX10_loophole_0 : decode cX10_loophole 0 = .ok (.aload_n 0, 1) := by decide +kernel
theorem dX10_loophole_1 : decode cX10_loophole 1 = .ok (.getfield 37, 3) := by decide +kernel
theorem dX10_loophole_4 : decode cX10_loophole 4 = .ok (.iload_n 1, 1) := by decide +kernel
theorem dX10_loophole_5 : decode cX10_loophole 5 = .ok (.invokevirtual 189, 3) := by decide +kernel
theorem dX10_loophole_8 : decode cX10_loophole 8 = .ok (.ifCond .eq 14, 3) := by decide +kernel
theorem dX10_loophole_11 : decode cX10_loophole 11 = .ok (.aload_n 0, 1) := by decide +kernel
theorem dX10_loophole_12 : decode cX10_loophole 12 = .ok (.getfield 69, 3) := by decide +kernel
theorem dX10_loophole_15 : decode cX10_loophole 15 = .ok (.iload_n 1, 1) := by decide +kernel
theorem dX10_loophole_16 : decode cX10_loophole 16 = .ok (.invokevirtual 288, 3) := by decide +kernel
theorem dX10_loophole_19 : decode cX10_loophole 19 = .ok (.goto 4, 3) := by decide +kernel
theorem dX10_loophole_22 : decode cX10_loophole 22 = .ok (.iconst (-1), 1) := by decide +kernel
theorem dX10_loophole_23 : decode cX10_loophole 23 = .ok (.ireturn, 1) := by decide +kernel
theorem wd_1210 : (Cond.code ⟨"WebCourt", "loophole", "(I)I"⟩ prog_1_method_38_code (2 : Nat) (Option.some FieldType.int)) ∈ gtb := gtb_c5 141 (by decide +kernel) rfl
theorem wd_1211 : (Cond.methodLink "WebCourt" (288 : Nat) ⟨"WebCourt$Counsel", "freeingHour", "(I)I"⟩) ∈ gtb := gtb_c5 142 (by decide +kernel) rfl
theorem wd_1212 : (Cond.instanceMethod ⟨"WebCourt$Counsel", "freeingHour", "(I)I"⟩) ∈ gtb := gtb_c5 143 (by decide +kernel) rfl
theorem wd_1213 : (Cond.selects "WebCourt$Counsel" ⟨"WebCourt$Counsel", "freeingHour", "(I)I"⟩ ⟨"WebCourt$Counsel", "freeingHour", "(I)I"⟩) ∈ gtb := gtb_c5 144 (by decide +kernel) rfl
theorem hd_yX1_freeingHour : yX1_freeingHour.cls = RX1 ∧ yX1_freeingHour.cls ≠ "java/lang/invoke/MethodHandle" ∧ yX1_freeingHour.cls ≠ "java/lang/invoke/VarHandle" ∧ (parseMethodDescriptor yX1_freeingHour.desc).map (fun d => d.parameters.length) = some 1 := by decide +kernel
set_option maxHeartbeats 4000000 in
set_option maxRecDepth 100000 in
theorem T_X10_loophole (l : Launch) (D : va_G) (cy : Nat → ClassId) (a : Nat → Nat) (u : St) (hJ : CI a u) (x1 : Int32)  : Mi l D cy (cW cy a) yX10_loophole (.code yX10_loophole cX10_loophole 2 (some .int)) (rmo 4 101) [.ref (a 0), .int x1] u (fun (r : Int32) (u' : St) => (CI a u') ∧ (KT u u')) := by
  refine Mi.of (own := RX10) rfl (by decide) (Nat.le_of_ble_eq_true rfl) ?_
  have hT : KT u u := KT.rf
  intro p e s m below meth c A Q ls C hret hO hl
  obtain ⟨hx, hb, hml, hown, ht, hK, hA⟩ := id C
  have hl : lv_has ls 2 [(0, .ref (a 0)), (1, .int x1)] := hl
  refine lv_aload_n hx hb dX10_loophole_0 rfl (lv_at hl 0 rfl) ?_
  refine gf_RX10_37 (v := .ref (a 28)) C hO 0 cW_0 rfl dX10_loophole_1 ?_
  refine lv_iload_n hx hb dX10_loophole_4 rfl (lv_at hl 1 rfl) ?_
  refine cVi (w := cW cy a) (As := [.int x1]) (rest := []) C hO (T_X2_isHeld l D cy a _ (by exact hJ) (x1)) (cwV 1 ht (gV wd_961 wd_930 wd_931 wd_115 wd_932) rfl rfl rfl hd_yX2_isHeld ⟨Nat.le_of_ble_eq_true rfl, Nat.le_of_ble_eq_true rfl⟩) 28 rfl cW_28 rfl rfl hl.1 (Nat.le_of_ble_eq_true rfl) dX10_loophole_5 rfl ⟨Nat.zero_le _, Nat.zero_le _⟩ (fun r1 u2 H locs hp3 hO => ?_)
  obtain ⟨hr1, hu2⟩ := hp3
  rw [hu2] at hO
  rcases hr1 with ⟨hcr1, hvr1⟩ | ⟨hcr1, hvr1⟩
  · subst hvr1
    refine bn_eq (X := 1) hx hb dX10_loophole_8 rfl (by omega) ?_ (tgt := 22) (by decide)
    refine lv_aload_n hx hb dX10_loophole_11 rfl (lv_at hl 0 rfl) ?_
    refine gf_RX10_69 (v := .ref (a 36)) C hO 0 cW_0 rfl dX10_loophole_12 ?_
    refine lv_iload_n hx hb dX10_loophole_15 rfl (lv_at hl 1 rfl) ?_
    refine cVi (w := cW cy a) (As := [.int x1]) (rest := []) C hO (T_X1_freeingHour l D cy a _ (by exact hJ) (x1) (by first | omega | decide)) (cwV 1 ht (gV wd_1211 wd_1212 wd_1213 wd_119 wd_1214) rfl rfl rfl hd_yX1_freeingHour ⟨Nat.le_of_ble_eq_true rfl, Nat.le_of_ble_eq_true rfl⟩) 36 rfl cW_36 rfl rfl hl.1 (Nat.le_of_ble_eq_true rfl) dX10_loophole_16 rfl ⟨Nat.zero_le _, Nat.zero_le _⟩ (fun r4 u5 H locs hp6 hO => ?_)
    obtain ⟨hJ, hTu5⟩ := hp6
    have hT : KT u u5 := KT.tr (by exact hT) hTu5
    refine lv_goto (tgt := 23) hx hb dX10_loophole_19 (by decide) ?_
    refine hret _ _ _ _ _ _ dX10_loophole_23 rfl ?_ hO
    exact ⟨hJ, hT⟩
  · subst hvr1
    refine bt_eq (tgt := 22) (X := 0) hx hb dX10_loophole_8 (by decide) rfl (by omega) ?_
    refine lv_iconst (v := (-1)) hx hb dX10_loophole_22 (by decide) ?_
    refine hret _ _ _ _ _ _ dX10_loophole_23 rfl ?_ hO
    exact ⟨hJ, hT⟩
theorem dX10_precedent_0 : decode cX10_precedent 0 = .ok (.iload_n 1, 1) := by decide +kernel
theorem dX10_precedent_1 : decode cX10_precedent 1 = .ok (.ifCond .lt 9, 3) := by decide +kernel
theorem dX10_precedent_4 : decode cX10_precedent 4 = .ok (.iload_n 1, 1) := by decide +kernel
theorem dX10_precedent_5 : decode cX10_precedent 5 = .ok (.bipush 99, 2) := by decide +kernel
theorem dX10_precedent_7 : decode cX10_precedent 7 = .ok (.if_icmp .le 7, 3) := by decide +kernel
theorem dX10_precedent_10 : decode cX10_precedent 10 = .ok (.iconst (-1), 1) := by decide +kernel
theorem dX10_precedent_11 : decode cX10_precedent 11 = .ok (.goto 11, 3) := by decide +kernel
theorem dX10_precedent_14 : decode cX10_precedent 14 = .ok (.aload_n 0, 1) := by decide +kernel
theorem dX10_precedent_15 : decode cX10_precedent 15 = .ok (.getfield 69, 3) := by decide +kernel
theorem dX10_precedent_18 : decode cX10_precedent 18 = .ok (.iload_n 1, 1) := by decide +kernel
theorem dX10_precedent_19 : decode cX10_precedent 19 = .ok (.invokevirtual 291, 3) := by decide +kernel
theorem dX10_precedent_22 : decode cX10_precedent 22 = .ok (.ireturn, 1) := by decide +kernel
theorem wd_1218 : (Cond.code ⟨"WebCourt", "precedent", "(I)I"⟩ prog_1_method_39_code (2 : Nat) (Option.some FieldType.int)) ∈ gtb := gtb_c5 149 (by decide +kernel) rfl
theorem wd_1219 : (Cond.methodLink "WebCourt" (291 : Nat) ⟨"WebCourt$Counsel", "freeAfter", "(I)I"⟩) ∈ gtb := gtb_c5 150 (by decide +kernel) rfl
theorem wd_1220 : (Cond.instanceMethod ⟨"WebCourt$Counsel", "freeAfter", "(I)I"⟩) ∈ gtb := gtb_c5 151 (by decide +kernel) rfl
theorem wd_1221 : (Cond.selects "WebCourt$Counsel" ⟨"WebCourt$Counsel", "freeAfter", "(I)I"⟩ ⟨"WebCourt$Counsel", "freeAfter", "(I)I"⟩) ∈ gtb := gtb_c5 152 (by decide +kernel) rfl
theorem hd_yX1_freeAfter : yX1_freeAfter.cls = RX1 ∧ yX1_freeAfter.cls ≠ "java/lang/invoke/MethodHandle" ∧ yX1_freeAfter.cls ≠ "java/lang/invoke/VarHandle" ∧ (parseMethodDescriptor yX1_freeAfter.desc).map (fun d => d.parameters.length) = some 1 := by decide +kernel
set_option maxHeartbeats 4000000 in
set_option maxRecDepth 100000 in
theorem T_X10_precedent (l : Launch) (D : va_G) (cy : Nat → ClassId) (a : Nat → Nat) (u : St) (hJ : CI a u) (x1 : Int32)  : Mi l D cy (cW cy a) yX10_precedent (.code yX10_precedent cX10_precedent 2 (some .int)) (rmo 4 102) [.ref (a 0), .int x1] u (fun (r : Int32) (u' : St) => (CI a u') ∧ (KT u u')) := by
  refine Mi.of (own := RX10) rfl (by decide) (Nat.le_of_ble_eq_true rfl) ?_
  have hT : KT u u := KT.rf
  intro p e s m below meth c A Q ls C hret hO hl
  obtain ⟨hx, hb, hml, hown, ht, hK, hA⟩ := id C
  have hl : lv_has ls 2 [(0, .ref (a 0)), (1, .int x1)] := hl
  refine lv_iload_n hx hb dX10_precedent_0 rfl (lv_at hl 1 rfl) ?_
  refine bs_lt (tgt := 10) (X := (x1).toInt) hx hb dX10_precedent_1 (by decide) rfl (fun c1 => ?_) (fun c1 => ?_)
  · refine lv_iconst (v := (-1)) hx hb dX10_precedent_10 (by decide) ?_
    refine lv_goto (tgt := 22) hx hb dX10_precedent_11 (by decide) ?_
    refine hret _ _ _ _ _ _ dX10_precedent_22 rfl ?_ hO
    exact ⟨hJ, hT⟩
  · refine lv_iload_n hx hb dX10_precedent_4 rfl (lv_at hl 1 rfl) ?_
    refine lv_bipush (v := 99) hx hb dX10_precedent_5 (by decide) ?_
    refine cs_le (tgt := 14) (X := (x1).toInt) (Y := 99) hx hb dX10_precedent_7 (by decide) rfl rfl (fun c2 => ?_) (fun c2 => ?_)
    · refine lv_aload_n hx hb dX10_precedent_14 rfl (lv_at hl 0 rfl) ?_
      refine gf_RX10_69 (v := .ref (a 36)) C hO 0 cW_0 rfl dX10_precedent_15 ?_
      refine lv_iload_n hx hb dX10_precedent_18 rfl (lv_at hl 1 rfl) ?_
      refine cVi (w := cW cy a) (As := [.int x1]) (rest := []) C hO (T_X1_freeAfter l D cy a _ (by exact hJ) (x1)) (cwV 1 ht (gV wd_1219 wd_1220 wd_1221 wd_119 wd_1222) rfl rfl rfl hd_yX1_freeAfter ⟨Nat.le_of_ble_eq_true rfl, Nat.le_of_ble_eq_true rfl⟩) 36 rfl cW_36 rfl rfl hl.1 (Nat.le_of_ble_eq_true rfl) dX10_precedent_19 rfl ⟨Nat.zero_le _, Nat.zero_le _⟩ (fun r3 u4 H locs hp5 hO => ?_)
      obtain ⟨hJ, hTu4⟩ := hp5
      have hT : KT u u4 := KT.tr (by exact hT) hTu4
      refine hret _ _ _ _ _ _ dX10_precedent_22 rfl ?_ hO
      exact ⟨hJ, hT⟩
    · refine lv_iconst (v := (-1)) hx hb dX10_precedent_10 (by decide) ?_
      refine lv_goto (tgt := 22) hx hb dX10_precedent_11 (by decide) ?_
      refine hret _ _ _ _ _ _ dX10_precedent_22 rfl ?_ hO
      exact ⟨hJ, hT⟩
theorem dX10_commonDivisor_0 : decode cX10_commonDivisor 0 = .ok (.iload_n 0, 1) := by decide +kernel
theorem dX10_commonDivisor_1 : decode cX10_commonDivisor 1 = .ok (.istore_n 2, 1) := by decide +kernel
theorem dX10_commonDivisor_2 : decode cX10_commonDivisor 2 = .ok (.iload_n 1, 1) := by decide +kernel
theorem dX10_commonDivisor_3 : decode cX10_commonDivisor 3 = .ok (.istore_n 3, 1) := by decide +kernel
theorem dX10_commonDivisor_4 : decode cX10_commonDivisor 4 = .ok (.iconst 0, 1) := by decide +kernel
theorem dX10_commonDivisor_5 : decode cX10_commonDivisor 5 = .ok (.istore 4, 2) := by decide +kernel
theorem dX10_commonDivisor_7 : decode cX10_commonDivisor 7 = .ok (.iload 4, 2) := by decide +kernel
theorem dX10_commonDivisor_9 : decode cX10_commonDivisor 9 = .ok (.bipush 64, 2) := by decide +kernel
theorem dX10_commonDivisor_11 : decode cX10_commonDivisor 11 = .ok (.if_icmp .ge 23, 3) := by decide +kernel
theorem dX10_commonDivisor_14 : decode cX10_commonDivisor 14 = .ok (.iload_n 3, 1) := by decide +kernel
theorem dX10_commonDivisor_15 : decode cX10_commonDivisor 15 = .ok (.ifCond .le 19, 3) := by decide +kernel
theorem dX10_commonDivisor_18 : decode cX10_commonDivisor 18 = .ok (.iload_n 2, 1) := by decide +kernel
theorem dX10_commonDivisor_19 : decode cX10_commonDivisor 19 = .ok (.iload_n 3, 1) := by decide +kernel
theorem dX10_commonDivisor_20 : decode cX10_commonDivisor 20 = .ok (.irem, 1) := by decide +kernel
theorem dX10_commonDivisor_21 : decode cX10_commonDivisor 21 = .ok (.istore 5, 2) := by decide +kernel
theorem dX10_commonDivisor_23 : decode cX10_commonDivisor 23 = .ok (.iload_n 3, 1) := by decide +kernel
theorem dX10_commonDivisor_24 : decode cX10_commonDivisor 24 = .ok (.istore_n 2, 1) := by decide +kernel
theorem dX10_commonDivisor_25 : decode cX10_commonDivisor 25 = .ok (.iload 5, 2) := by decide +kernel
theorem dX10_commonDivisor_27 : decode cX10_commonDivisor 27 = .ok (.istore_n 3, 1) := by decide +kernel
theorem dX10_commonDivisor_28 : decode cX10_commonDivisor 28 = .ok (.iinc 4 1, 3) := by decide +kernel
theorem dX10_commonDivisor_31 : decode cX10_commonDivisor 31 = .ok (.goto (-24), 3) := by decide +kernel
theorem dX10_commonDivisor_34 : decode cX10_commonDivisor 34 = .ok (.iload_n 2, 1) := by decide +kernel
theorem dX10_commonDivisor_35 : decode cX10_commonDivisor 35 = .ok (.ireturn, 1) := by decide +kernel
theorem wd_1229 : (Cond.code ⟨"WebCourt", "commonDivisor", "(II)I"⟩ prog_1_method_41_code (6 : Nat) (Option.some FieldType.int)) ∈ gtb := gtb_c5 160 (by decide +kernel) rfl
set_option maxHeartbeats 4000000 in
set_option maxRecDepth 100000 in
theorem T_X10_commonDivisor (l : Launch) (D : va_G) (cy : Nat → ClassId) (a : Nat → Nat) (u : St) (hJ : CI a u) (x1 : Int32) (x2 : Int32)  : Mi l D cy (cW cy a) yX10_commonDivisor (.code yX10_commonDivisor cX10_commonDivisor 6 (some .int)) (rmo 0 0) [.int x1, .int x2] u (fun (r : Int32) (u' : St) => u' = u) := by
  refine Mi.of (own := RX10) rfl (by decide) (Nat.le_of_ble_eq_true rfl) ?_
  have hT : KT u u := KT.rf
  intro p e s m below meth c A Q ls C hret hO hl
  obtain ⟨hx, hb, hml, hown, ht, hK, hA⟩ := id C
  have hl : lv_has ls 6 [(0, .int x1), (1, .int x2)] := hl
  refine lv_iload_n hx hb dX10_commonDivisor_0 rfl (lv_at hl 0 rfl) ?_
  refine lv_istore_n (lv' := [(2, .int x1), (0, .int x1), (1, .int x2)]) hx hb dX10_commonDivisor_1 rfl hl (by decide) rfl (fun ls hl => ?_)
  refine lv_iload_n hx hb dX10_commonDivisor_2 rfl (lv_at hl 2 rfl) ?_
  refine lv_istore_n (lv' := [(3, .int x2), (2, .int x1), (0, .int x1), (1, .int x2)]) hx hb dX10_commonDivisor_3 rfl hl (by decide) rfl (fun ls hl => ?_)
  refine lv_iconst (v := 0) hx hb dX10_commonDivisor_4 (by decide) ?_
  refine lv_istore (lv' := [(4, .int 0), (3, .int x2), (2, .int x1), (0, .int x1), (1, .int x2)]) hx hb dX10_commonDivisor_5 hl (by decide) rfl (fun ls hl => ?_)
  have LP_7_k1 : ∀ (n : Nat) (H : Heap) (locs : List Loc) (ls : Array Slot) (i_k1 : Int32) (w3_k1 : Int32) (w2_k1 : Int32), Wo D A (cW cy a u) s.heap H locs → lv_has ls 6 [(4, .int i_k1), (3, .int w3_k1), (2, .int w2_k1), (0, .int x1), (1, .int x2)] → 0 ≤ i_k1.toInt ∧ i_k1.toInt ≤ 64 → 64 - i_k1.toInt < (n : Int) → W p l e (rmo 0 0) s m [.int x1, .int x2].toArray below meth c H locs 0 0 Q (F0 m 7 ls []) := by
    intro n
    induction n with
    | zero =>
      intro H locs ls i_k1 w3_k1 w2_k1 hO hl iv0_k1 hm_k1
      exact absurd hm_k1 (by omega)
    | succ n ih_k1 =>
      intro H locs ls i_k1 w3_k1 w2_k1 hO hl iv0_k1 hm_k1
      refine lv_iload hx hb dX10_commonDivisor_7 (lv_at hl 0 rfl) ?_
      refine lv_bipush (v := 64) hx hb dX10_commonDivisor_9 (by decide) ?_
      refine cs_ge (tgt := 34) (X := (i_k1).toInt) (Y := 64) hx hb dX10_commonDivisor_11 (by decide) rfl rfl (fun c2 => ?_) (fun c2 => ?_)
      · refine lv_iload_n hx hb dX10_commonDivisor_34 rfl (lv_at hl 2 rfl) ?_
        refine hret _ _ _ _ _ _ dX10_commonDivisor_35 rfl ?_ hO
        exact rfl
      · refine lv_iload_n hx hb dX10_commonDivisor_14 rfl (lv_at hl 1 rfl) ?_
        refine bs_le (tgt := 34) (X := (w3_k1).toInt) hx hb dX10_commonDivisor_15 (by decide) rfl (fun c3 => ?_) (fun c3 => ?_)
        · refine lv_iload_n hx hb dX10_commonDivisor_34 rfl (lv_at hl 2 rfl) ?_
          refine hret _ _ _ _ _ _ dX10_commonDivisor_35 rfl ?_ hO
          exact rfl
        · refine lv_iload_n hx hb dX10_commonDivisor_18 rfl (lv_at hl 2 rfl) ?_
          refine lv_iload_n hx hb dX10_commonDivisor_19 rfl (lv_at hl 1 rfl) ?_
          refine lv_irem hx hb dX10_commonDivisor_20 (i_ne0 (X := (w3_k1).toInt) rfl (by omega)) ?_
          refine lv_topi (fun z4 ez4 => ?_)
          refine lv_istore (lv' := [(5, .int z4), (4, .int i_k1), (3, .int w3_k1), (2, .int w2_k1), (0, .int x1), (1, .int x2)]) hx hb dX10_commonDivisor_21 hl (by decide) rfl (fun ls hl => ?_)
          refine lv_iload_n hx hb dX10_commonDivisor_23 rfl (lv_at hl 2 rfl) ?_
          refine lv_istore_n (lv' := [(2, .int w3_k1), (5, .int z4), (4, .int i_k1), (3, .int w3_k1), (0, .int x1), (1, .int x2)]) hx hb dX10_commonDivisor_24 rfl hl (by decide) rfl (fun ls hl => ?_)
          refine lv_iload hx hb dX10_commonDivisor_25 (lv_at hl 1 rfl) ?_
          refine lv_istore_n (lv' := [(3, .int z4), (2, .int w3_k1), (5, .int z4), (4, .int i_k1), (0, .int x1), (1, .int x2)]) hx hb dX10_commonDivisor_27 rfl hl (by decide) rfl (fun ls hl => ?_)
          have e5 : ((i_k1 + 1)).toInt = (i_k1).toInt + 1 := i_add rfl rfl (by omega)
          refine lv_iinc (v := (i_k1 + 1)) (lv' := [(4, .int (i_k1 + 1)), (3, .int z4), (2, .int w3_k1), (5, .int z4), (0, .int x1), (1, .int x2)]) hx hb dX10_commonDivisor_28 hl (k := 3) rfl rfl (by decide) rfl (fun ls hl => ?_)
          refine lv_goto (tgt := 7) hx hb dX10_commonDivisor_31 (by decide) ?_
          exact ih_k1 _ _ _ ((i_k1 + 1)) (z4) (w3_k1) hO (lv_sub hl [0, 1, 2, 4, 5] rfl) (by first | decide | omega) (by first | decide | omega)
  exact LP_7_k1 4000 _ _ _ (0) (x2) (x1) hO (lv_sub hl [0, 1, 2, 3, 4] rfl) (by first | decide | omega) (by first | decide | omega)
theorem dX10_power_0 : decode cX10_power 0 = .ok (.iconst 1, 1) := by decide +kernel
theorem dX10_power_1 : decode cX10_power 1 = .ok (.istore_n 2, 1) := by decide +kernel
theorem dX10_power_2 : decode cX10_power 2 = .ok (.iconst 0, 1) := by decide +kernel
theorem dX10_power_3 : decode cX10_power 3 = .ok (.istore_n 3, 1) := by decide +kernel
theorem dX10_power_4 : decode cX10_power 4 = .ok (.iload_n 3, 1) := by decide +kernel
theorem dX10_power_5 : decode cX10_power 5 = .ok (.iload_n 1, 1) := by decide +kernel
theorem dX10_power_6 : decode cX10_power 6 = .ok (.if_icmp .ge 13, 3) := by decide +kernel
theorem dX10_power_9 : decode cX10_power 9 = .ok (.iload_n 2, 1) := by decide +kernel
theorem dX10_power_10 : decode cX10_power 10 = .ok (.iload_n 0, 1) := by decide +kernel
theorem dX10_power_11 : decode cX10_power 11 = .ok (.imul, 1) := by decide +kernel
theorem dX10_power_12 : decode cX10_power 12 = .ok (.istore_n 2, 1) := by decide +kernel
theorem dX10_power_13 : decode cX10_power 13 = .ok (.iinc 3 1, 3) := by decide +kernel
theorem dX10_power_16 : decode cX10_power 16 = .ok (.goto (-12), 3) := by decide +kernel
theorem dX10_power_19 : decode cX10_power 19 = .ok (.iload_n 2, 1) := by decide +kernel
theorem dX10_power_20 : decode cX10_power 20 = .ok (.ireturn, 1) := by decide +kernel
theorem wd_1233 : (Cond.code ⟨"WebCourt", "power", "(II)I"⟩ prog_1_method_42_code (4 : Nat) (Option.some FieldType.int)) ∈ gtb := gtb_c5 164 (by decide +kernel) rfl
set_option maxHeartbeats 4000000 in
set_option maxRecDepth 100000 in
theorem T_X10_power (l : Launch) (D : va_G) (cy : Nat → ClassId) (a : Nat → Nat) (u : St) (hJ : CI a u) (x1 : Int32) (x2 : Int32) (hx_x2 : 0 ≤ x2.toInt ∧ x2.toInt ≤ 4) : Mi l D cy (cW cy a) yX10_power (.code yX10_power cX10_power 4 (some .int)) (rmo 0 0) [.int x1, .int x2] u (fun (r : Int32) (u' : St) => u' = u) := by
  refine Mi.of (own := RX10) rfl (by decide) (Nat.le_of_ble_eq_true rfl) ?_
  have hT : KT u u := KT.rf
  intro p e s m below meth c A Q ls C hret hO hl
  obtain ⟨hx, hb, hml, hown, ht, hK, hA⟩ := id C
  have hl : lv_has ls 4 [(0, .int x1), (1, .int x2)] := hl
  refine lv_iconst (v := 1) hx hb dX10_power_0 (by decide) ?_
  refine lv_istore_n (lv' := [(2, .int 1), (0, .int x1), (1, .int x2)]) hx hb dX10_power_1 rfl hl (by decide) rfl (fun ls hl => ?_)
  refine lv_iconst (v := 0) hx hb dX10_power_2 (by decide) ?_
  refine lv_istore_n (lv' := [(3, .int 0), (2, .int 1), (0, .int x1), (1, .int x2)]) hx hb dX10_power_3 rfl hl (by decide) rfl (fun ls hl => ?_)
  have LP_4_k1 : ∀ (n : Nat) (H : Heap) (locs : List Loc) (ls : Array Slot) (i_k1 : Int32) (w2_k1 : Int32), Wo D A (cW cy a u) s.heap H locs → lv_has ls 4 [(3, .int i_k1), (2, .int w2_k1), (0, .int x1), (1, .int x2)] → 0 ≤ i_k1.toInt ∧ i_k1.toInt ≤ 4 → 4 - i_k1.toInt < (n : Int) → W p l e (rmo 0 0) s m [.int x1, .int x2].toArray below meth c H locs 0 0 Q (F0 m 4 ls []) := by
    intro n
    induction n with
    | zero =>
      intro H locs ls i_k1 w2_k1 hO hl iv0_k1 hm_k1
      exact absurd hm_k1 (by omega)
    | succ n ih_k1 =>
      intro H locs ls i_k1 w2_k1 hO hl iv0_k1 hm_k1
      refine lv_iload_n hx hb dX10_power_4 rfl (lv_at hl 0 rfl) ?_
      refine lv_iload_n hx hb dX10_power_5 rfl (lv_at hl 3 rfl) ?_
      refine cs_ge (tgt := 19) (X := (i_k1).toInt) (Y := (x2).toInt) hx hb dX10_power_6 (by decide) rfl rfl (fun c2 => ?_) (fun c2 => ?_)
      · refine lv_iload_n hx hb dX10_power_19 rfl (lv_at hl 1 rfl) ?_
        refine hret _ _ _ _ _ _ dX10_power_20 rfl ?_ hO
        exact rfl
      · refine lv_iload_n hx hb dX10_power_9 rfl (lv_at hl 1 rfl) ?_
        refine lv_iload_n hx hb dX10_power_10 rfl (lv_at hl 2 rfl) ?_
        refine lv_imul hx hb dX10_power_11 ?_
        refine lv_istore_n (lv' := [(2, .int (w2_k1 * x1)), (3, .int i_k1), (0, .int x1), (1, .int x2)]) hx hb dX10_power_12 rfl hl (by decide) rfl (fun ls hl => ?_)
        have e3 : ((i_k1 + 1)).toInt = (i_k1).toInt + 1 := i_add rfl rfl (by omega)
        refine lv_iinc (v := (i_k1 + 1)) (lv' := [(3, .int (i_k1 + 1)), (2, .int (w2_k1 * x1)), (0, .int x1), (1, .int x2)]) hx hb dX10_power_13 hl (k := 1) rfl rfl (by decide) rfl (fun ls hl => ?_)
        refine lv_goto (tgt := 4) hx hb dX10_power_16 (by decide) ?_
        exact ih_k1 _ _ _ ((i_k1 + 1)) ((w2_k1 * x1)) hO (lv_sub hl [0, 1, 2, 3] rfl) (by first | decide | omega) (by first | decide | omega)
  exact LP_4_k1 4000 _ _ _ (0) (1) hO (lv_sub hl [0, 1, 2, 3] rfl) (by first | decide | omega) (by first | decide | omega)
theorem dX10_odds_0 : decode cX10_odds 0 = .ok (.iload_n 1, 1) := by decide +kernel
theorem dX10_odds_1 : decode cX10_odds 1 = .ok (.ifCond .lt 17, 3) := by decide +kernel
theorem dX10_odds_4 : decode cX10_odds 4 = .ok (.iload_n 1, 1) := by decide +kernel
theorem dX10_odds_5 : decode cX10_odds 5 = .ok (.iconst 4, 1) := by decide +kernel
theorem dX10_odds_6 : decode cX10_odds 6 = .ok (.if_icmp .gt 12, 3) := by decide +kernel
theorem dX10_odds_9 : decode cX10_odds 9 = .ok (.iload_n 2, 1) := by decide +kernel
theorem dX10_odds_10 : decode cX10_odds 10 = .ok (.ifCond .lt 8, 3) := by decide +kernel
theorem dX10_odds_13 : decode cX10_odds 13 = .ok (.iload_n 2, 1) := by decide +kernel
theorem dX10_odds_14 : decode cX10_odds 14 = .ok (.iconst 1, 1) := by decide +kernel
theorem dX10_odds_15 : decode cX10_odds 15 = .ok (.if_icmp .le 5, 3) := by decide +kernel
theorem dX10_odds_18 : decode cX10_odds 18 = .ok (.iconst (-1), 1) := by decide +kernel
theorem dX10_odds_19 : decode cX10_odds 19 = .ok (.ireturn, 1) := by decide +kernel
theorem dX10_odds_20 : decode cX10_odds 20 = .ok (.bipush 100, 2) := by decide +kernel
theorem dX10_odds_22 : decode cX10_odds 22 = .ok (.aload_n 0, 1) := by decide +kernel
theorem dX10_odds_23 : decode cX10_odds 23 = .ok (.getfield 37, 3) := by decide +kernel
theorem dX10_odds_26 : decode cX10_odds 26 = .ok (.getfield 101, 3) := by decide +kernel
theorem dX10_odds_29 : decode cX10_odds 29 = .ok (.getfield 294, 3) := by decide +kernel
theorem dX10_odds_32 : decode cX10_odds 32 = .ok (.isub, 1) := by decide +kernel
theorem dX10_odds_33 : decode cX10_odds 33 = .ok (.istore_n 3, 1) := by decide +kernel
theorem dX10_odds_34 : decode cX10_odds 34 = .ok (.bipush 100, 2) := by decide +kernel
theorem dX10_odds_36 : decode cX10_odds 36 = .ok (.iload_n 3, 1) := by decide +kernel
theorem dX10_odds_37 : decode cX10_odds 37 = .ok (.invokestatic 297, 3) := by decide +kernel
theorem dX10_odds_40 : decode cX10_odds 40 = .ok (.istore 4, 2) := by decide +kernel
theorem dX10_odds_42 : decode cX10_odds 42 = .ok (.iload_n 2, 1) := by decide +kernel
theorem dX10_odds_43 : decode cX10_odds 43 = .ok (.ifCond .ne 7, 3) := by decide +kernel
theorem dX10_odds_46 : decode cX10_odds 46 = .ok (.iload_n 3, 1) := by decide +kernel
theorem dX10_odds_47 : decode cX10_odds 47 = .ok (.goto 5, 3) := by decide +kernel
theorem dX10_odds_50 : decode cX10_odds 50 = .ok (.bipush 100, 2) := by decide +kernel
theorem dX10_odds_52 : decode cX10_odds 52 = .ok (.iload 4, 2) := by decide +kernel
theorem dX10_odds_54 : decode cX10_odds 54 = .ok (.iconst 1, 1) := by decide +kernel
theorem dX10_odds_55 : decode cX10_odds 55 = .ok (.invokestatic 300, 3) := by decide +kernel
theorem dX10_odds_58 : decode cX10_odds 58 = .ok (.idiv, 1) := by decide +kernel
theorem dX10_odds_59 : decode cX10_odds 59 = .ok (.iload_n 1, 1) := by decide +kernel
theorem dX10_odds_60 : decode cX10_odds 60 = .ok (.invokestatic 305, 3) := by decide +kernel
theorem dX10_odds_63 : decode cX10_odds 63 = .ok (.ireturn, 1) := by decide +kernel
theorem wd_1226 : (Cond.code ⟨"WebCourt", "odds", "(II)I"⟩ prog_1_method_40_code (5 : Nat) (Option.some FieldType.int)) ∈ gtb := gtb_c5 157 (by decide +kernel) rfl
theorem wd_283 : (Cond.fieldLink "WebCourt" (294 : Nat) "WebCourt$Web" "back" "I") ∈ gtb := gtb_c1 174 (by decide +kernel) rfl
theorem gf_RX10_294 {p : Program} {l : Launch} {e : Env} {R : Room} {s : State} {m : MethodId} {args : Array Value} {below : List Frame} {meth : Method} {c : Code} {H : Heap} {locs : List Loc} {cells slots : Nat} {Q : State → Prop} {cc : ByteArray} {pc nL : Nat} {ls : Array Slot} {rest : List Value} {D : va_G} {cy : Nat → ClassId} {A : Nat → Prop} {ws : va_W} {b : Nat} {fs : List Value} {v : Value} (C : Cx p s m args c cc nL RX10 D cy A) (hO : Wo D A ws s.heap H locs) (q0 : Nat) (he : ws[q0]? = some (b, .inr (9, fs))) (hv : fs[15]? = some v) (hdg : decode cc pc = .ok (.getfield 294, 3)) (kk : W p l e R s m args below meth c H locs cells slots Q (F0 m (pc + 3) ls (v :: rest))) : W p l e R s m args below meth c H locs cells slots Q (F0 m pc ls (.ref b :: rest)) := gF (k := 15) C hO q0 he rfl inFX9 (by decide) wd_283 rfl hv hdg kk
theorem wd_1227 : (Cond.methodLink "WebCourt" (297 : Nat) ⟨"WebCourt", "commonDivisor", "(II)I"⟩) ∈ gtb := gtb_c5 158 (by decide +kernel) rfl
theorem wd_1228 : (Cond.static ⟨"WebCourt", "commonDivisor", "(II)I"⟩) ∈ gtb := gtb_c5 159 (by decide +kernel) rfl
theorem hd_yX10_commonDivisor : yX10_commonDivisor.cls ≠ "java/lang/invoke/MethodHandle" ∧ yX10_commonDivisor.cls ≠ "java/lang/invoke/VarHandle" ∧ (parseMethodDescriptor yX10_commonDivisor.desc).map (fun d => d.parameters.length) = some 2 := by decide +kernel
theorem wd_1230 : (Cond.methodLink "WebCourt" (300 : Nat) ⟨"java/lang/Math", "max", "(II)I"⟩) ∈ gtb := gtb_c5 161 (by decide +kernel) rfl
theorem wd_1231 : (Cond.methodLink "WebCourt" (305 : Nat) ⟨"WebCourt", "power", "(II)I"⟩) ∈ gtb := gtb_c5 162 (by decide +kernel) rfl
theorem wd_1232 : (Cond.static ⟨"WebCourt", "power", "(II)I"⟩) ∈ gtb := gtb_c5 163 (by decide +kernel) rfl
theorem hd_yX10_power : yX10_power.cls ≠ "java/lang/invoke/MethodHandle" ∧ yX10_power.cls ≠ "java/lang/invoke/VarHandle" ∧ (parseMethodDescriptor yX10_power.desc).map (fun d => d.parameters.length) = some 2 := by decide +kernel
set_option maxHeartbeats 4000000 in
set_option maxRecDepth 100000 in
theorem T_X10_odds (l : Launch) (D : va_G) (cy : Nat → ClassId) (a : Nat → Nat) (u : St) (hJ : CI a u) (x1 : Int32) (x2 : Int32)  : Mi l D cy (cW cy a) yX10_odds (.code yX10_odds cX10_odds 5 (some .int)) (rmo 1 25) [.ref (a 0), .int x1, .int x2] u (fun (r : Int32) (u' : St) => u' = u) := by
  refine Mi.of (own := RX10) rfl (by decide) (Nat.le_of_ble_eq_true rfl) ?_
  have hT : KT u u := KT.rf
  intro p e s m below meth c A Q ls C hret hO hl
  obtain ⟨hx, hb, hml, hown, ht, hK, hA⟩ := id C
  have hl : lv_has ls 5 [(0, .ref (a 0)), (1, .int x1), (2, .int x2)] := hl
  refine lv_iload_n hx hb dX10_odds_0 rfl (lv_at hl 1 rfl) ?_
  refine bs_lt (tgt := 18) (X := (x1).toInt) hx hb dX10_odds_1 (by decide) rfl (fun c1 => ?_) (fun c1 => ?_)
  · refine lv_iconst (v := (-1)) hx hb dX10_odds_18 (by decide) ?_
    refine hret _ _ _ _ _ _ dX10_odds_19 rfl ?_ hO
    exact rfl
  · refine lv_iload_n hx hb dX10_odds_4 rfl (lv_at hl 1 rfl) ?_
    refine lv_iconst (v := 4) hx hb dX10_odds_5 (by decide) ?_
    refine cs_gt (tgt := 18) (X := (x1).toInt) (Y := 4) hx hb dX10_odds_6 (by decide) rfl rfl (fun c2 => ?_) (fun c2 => ?_)
    · refine lv_iconst (v := (-1)) hx hb dX10_odds_18 (by decide) ?_
      refine hret _ _ _ _ _ _ dX10_odds_19 rfl ?_ hO
      exact rfl
    · refine lv_iload_n hx hb dX10_odds_9 rfl (lv_at hl 2 rfl) ?_
      refine bs_lt (tgt := 18) (X := (x2).toInt) hx hb dX10_odds_10 (by decide) rfl (fun c3 => ?_) (fun c3 => ?_)
      · refine lv_iconst (v := (-1)) hx hb dX10_odds_18 (by decide) ?_
        refine hret _ _ _ _ _ _ dX10_odds_19 rfl ?_ hO
        exact rfl
      · refine lv_iload_n hx hb dX10_odds_13 rfl (lv_at hl 2 rfl) ?_
        refine lv_iconst (v := 1) hx hb dX10_odds_14 (by decide) ?_
        refine cs_le (tgt := 20) (X := (x2).toInt) (Y := 1) hx hb dX10_odds_15 (by decide) rfl rfl (fun c4 => ?_) (fun c4 => ?_)
        · refine lv_bipush (v := 100) hx hb dX10_odds_20 (by decide) ?_
          refine lv_aload_n hx hb dX10_odds_22 rfl (lv_at hl 0 rfl) ?_
          refine gf_RX10_37 (v := .ref (a 28)) C hO 0 cW_0 rfl dX10_odds_23 ?_
          refine gf_RX10_101 (v := .ref (a 3)) C hO 28 cW_28 (congrArg (fun z : Nat => some (Value.ref z)) (CI_R0 hJ)) dX10_odds_26 ?_
          refine gf_RX10_294 (v := .int (fI u 3 15)) C hO 3 cW_3 rfl dX10_odds_29 ?_
          refine lv_isub hx hb dX10_odds_32 ?_
          refine lv_istore_n (lv' := [(3, .int (100 - (fI u 3 15))), (0, .ref (a 0)), (1, .int x1), (2, .int x2)]) hx hb dX10_odds_33 rfl hl (by decide) rfl (fun ls hl => ?_)
          refine lv_bipush (v := 100) hx hb dX10_odds_34 (by decide) ?_
          refine lv_iload_n hx hb dX10_odds_36 rfl (lv_at hl 0 rfl) ?_
          refine cSi (w := cW cy a) (As := [.int 100, .int (100 - (fI u 3 15))]) (rest := []) C hO (T_X10_commonDivisor l D cy a _ (by exact hJ) (100) ((100 - (fI u 3 15)))) (va_cwS 2 ht (gSS wd_1227 wd_1228 wd_110 wd_1229) rfl rfl rfl hd_yX10_commonDivisor ⟨Nat.le_of_ble_eq_true rfl, Nat.le_of_ble_eq_true rfl⟩)  rfl hl.1 (Nat.le_of_ble_eq_true rfl) dX10_odds_37 rfl ⟨Nat.zero_le _, Nat.zero_le _⟩ (fun r5 u6 H locs hp7 hO => ?_)
          have hu6 := hp7
          rw [hu6] at hO
          refine lv_istore (lv' := [(4, .int r5), (3, .int (100 - (fI u 3 15))), (0, .ref (a 0)), (1, .int x1), (2, .int x2)]) hx hb dX10_odds_40 hl (by decide) rfl (fun ls hl => ?_)
          refine lv_iload_n hx hb dX10_odds_42 rfl (lv_at hl 4 rfl) ?_
          refine bs_ne (tgt := 50) (X := (x2).toInt) hx hb dX10_odds_43 (by decide) rfl (fun c8 => ?_) (fun c8 => ?_)
          · refine lv_bipush (v := 100) hx hb dX10_odds_50 (by decide) ?_
            refine lv_iload hx hb dX10_odds_52 (lv_at hl 0 rfl) ?_
            refine lv_iconst (v := 1) hx hb dX10_odds_54 (by decide) ?_
            refine va_mmax hx hb (by rw [hml]; exact hl.1.symm) hown (ht _ wd_1230) (ht _ wd_636) (ht _ wd_126) (ht _ wd_637) (Nat.le_of_ble_eq_true rfl) (Nat.le_of_ble_eq_true rfl) (Nat.zero_le _) (Nat.zero_le _) dX10_odds_55 ?_
            refine lv_topi (fun z9 ez9 => ?_)
            have g10 : 1 ≤ z9.toInt := i_maxr ez9 rfl
            refine lv_idiv hx hb dX10_odds_58 (i_ne0 (X := (z9).toInt) rfl (by omega)) ?_
            refine lv_topi (fun z11 ez11 => ?_)
            refine lv_iload_n hx hb dX10_odds_59 rfl (lv_at hl 3 rfl) ?_
            refine cSi (w := cW cy a) (As := [.int z11, .int x1]) (rest := []) C hO (T_X10_power l D cy a _ (by exact hJ) (z11) (x1) (by first | omega | decide)) (va_cwS 2 ht (gSS wd_1231 wd_1232 wd_110 wd_1233) rfl rfl rfl hd_yX10_power ⟨Nat.le_of_ble_eq_true rfl, Nat.le_of_ble_eq_true rfl⟩)  rfl hl.1 (Nat.le_of_ble_eq_true rfl) dX10_odds_60 rfl ⟨Nat.zero_le _, Nat.zero_le _⟩ (fun r12 u13 H locs hp14 hO => ?_)
            have hu13 := hp14
            rw [hu13] at hO
            refine hret _ _ _ _ _ _ dX10_odds_63 rfl ?_ hO
            exact rfl
          · refine lv_iload_n hx hb dX10_odds_46 rfl (lv_at hl 1 rfl) ?_
            refine lv_goto (tgt := 52) hx hb dX10_odds_47 (by decide) ?_
            refine lv_iload hx hb dX10_odds_52 (lv_at hl 0 rfl) ?_
            refine lv_iconst (v := 1) hx hb dX10_odds_54 (by decide) ?_
            refine va_mmax hx hb (by rw [hml]; exact hl.1.symm) hown (ht _ wd_1230) (ht _ wd_636) (ht _ wd_126) (ht _ wd_637) (Nat.le_of_ble_eq_true rfl) (Nat.le_of_ble_eq_true rfl) (Nat.zero_le _) (Nat.zero_le _) dX10_odds_55 ?_
            refine lv_topi (fun z15 ez15 => ?_)
            have g16 : 1 ≤ z15.toInt := i_maxr ez15 rfl
            refine lv_idiv hx hb dX10_odds_58 (i_ne0 (X := (z15).toInt) rfl (by omega)) ?_
            refine lv_topi (fun z17 ez17 => ?_)
            refine lv_iload_n hx hb dX10_odds_59 rfl (lv_at hl 3 rfl) ?_
            refine cSi (w := cW cy a) (As := [.int z17, .int x1]) (rest := []) C hO (T_X10_power l D cy a _ (by exact hJ) (z17) (x1) (by first | omega | decide)) (va_cwS 2 ht (gSS wd_1231 wd_1232 wd_110 wd_1233) rfl rfl rfl hd_yX10_power ⟨Nat.le_of_ble_eq_true rfl, Nat.le_of_ble_eq_true rfl⟩)  rfl hl.1 (Nat.le_of_ble_eq_true rfl) dX10_odds_60 rfl ⟨Nat.zero_le _, Nat.zero_le _⟩ (fun r18 u19 H locs hp20 hO => ?_)
            have hu19 := hp20
            rw [hu19] at hO
            refine hret _ _ _ _ _ _ dX10_odds_63 rfl ?_ hO
            exact rfl
        · refine lv_iconst (v := (-1)) hx hb dX10_odds_18 (by decide) ?_
          refine hret _ _ _ _ _ _ dX10_odds_19 rfl ?_ hO
          exact rfl
theorem dX10_lies_0 : decode cX10_lies 0 = .ok (.iload_n 1, 1) := by decide +kernel
theorem dX10_lies_1 : decode cX10_lies 1 = .ok (.ifCond .lt 11, 3) := by decide +kernel
theorem dX10_lies_4 : decode cX10_lies 4 = .ok (.iload_n 1, 1) := by decide +kernel
theorem dX10_lies_5 : decode cX10_lies 5 = .ok (.aload_n 0, 1) := by decide +kernel
theorem dX10_lies_6 : decode cX10_lies 6 = .ok (.getfield 111, 3) := by decide +kernel
theorem dX10_lies_9 : decode cX10_lies 9 = .ok (.if_icmp .lt 7, 3) := by decide +kernel
theorem dX10_lies_12 : decode cX10_lies 12 = .ok (.iconst (-1), 1) := by decide +kernel
theorem dX10_lies_13 : decode cX10_lies 13 = .ok (.goto 9, 3) := by decide +kernel
theorem dX10_lies_16 : decode cX10_lies 16 = .ok (.aload_n 0, 1) := by decide +kernel
theorem dX10_lies_17 : decode cX10_lies 17 = .ok (.getfield 85, 3) := by decide +kernel
theorem dX10_lies_20 : decode cX10_lies 20 = .ok (.iload_n 1, 1) := by decide +kernel
theorem dX10_lies_21 : decode cX10_lies 21 = .ok (.iaload, 1) := by decide +kernel
theorem dX10_lies_22 : decode cX10_lies 22 = .ok (.ireturn, 1) := by decide +kernel
theorem wd_1237 : (Cond.code ⟨"WebCourt", "lies", "(I)I"⟩ prog_1_method_43_code (2 : Nat) (Option.some FieldType.int)) ∈ gtb := gtb_c5 168 (by decide +kernel) rfl
theorem gf_RX10_111 {p : Program} {l : Launch} {e : Env} {R : Room} {s : State} {m : MethodId} {args : Array Value} {below : List Frame} {meth : Method} {c : Code} {H : Heap} {locs : List Loc} {cells slots : Nat} {Q : State → Prop} {cc : ByteArray} {pc nL : Nat} {ls : Array Slot} {rest : List Value} {D : va_G} {cy : Nat → ClassId} {A : Nat → Prop} {ws : va_W} {b : Nat} {fs : List Value} {v : Value} (C : Cx p s m args c cc nL RX10 D cy A) (hO : Wo D A ws s.heap H locs) (q0 : Nat) (he : ws[q0]? = some (b, .inr (10, fs))) (hv : fs[10]? = some v) (hdg : decode cc pc = .ok (.getfield 111, 3)) (kk : W p l e R s m args below meth c H locs cells slots Q (F0 m (pc + 3) ls (v :: rest))) : W p l e R s m args below meth c H locs cells slots Q (F0 m pc ls (.ref b :: rest)) := gF (k := 10) C hO q0 he rfl inFX10 (by decide) wd_478 rfl hv hdg kk
set_option maxHeartbeats 4000000 in
set_option maxRecDepth 100000 in
theorem T_X10_lies (l : Launch) (D : va_G) (cy : Nat → ClassId) (a : Nat → Nat) (u : St) (hJ : CI a u) (x1 : Int32)  : Mi l D cy (cW cy a) yX10_lies (.code yX10_lies cX10_lies 2 (some .int)) (rmo 0 0) [.ref (a 0), .int x1] u (fun (r : Int32) (u' : St) => u' = u) := by
  refine Mi.of (own := RX10) rfl (by decide) (Nat.le_of_ble_eq_true rfl) ?_
  have hT : KT u u := KT.rf
  intro p e s m below meth c A Q ls C hret hO hl
  obtain ⟨hx, hb, hml, hown, ht, hK, hA⟩ := id C
  have hl : lv_has ls 2 [(0, .ref (a 0)), (1, .int x1)] := hl
  refine lv_iload_n hx hb dX10_lies_0 rfl (lv_at hl 1 rfl) ?_
  refine bs_lt (tgt := 12) (X := (x1).toInt) hx hb dX10_lies_1 (by decide) rfl (fun c1 => ?_) (fun c1 => ?_)
  · refine lv_iconst (v := (-1)) hx hb dX10_lies_12 (by decide) ?_
    refine lv_goto (tgt := 22) hx hb dX10_lies_13 (by decide) ?_
    refine hret _ _ _ _ _ _ dX10_lies_22 rfl ?_ hO
    exact rfl
  · refine lv_iload_n hx hb dX10_lies_4 rfl (lv_at hl 1 rfl) ?_
    refine lv_aload_n hx hb dX10_lies_5 rfl (lv_at hl 0 rfl) ?_
    have g2 : 0 ≤ (fI u 0 10).toInt ∧ (fI u 0 10).toInt ≤ 8 := by have h := CI_0_10 hJ; exact h
    refine gf_RX10_111 (v := .int (fI u 0 10)) C hO 0 cW_0 rfl dX10_lies_6 ?_
    refine cs_lt (tgt := 16) (X := (x1).toInt) (Y := ((fI u 0 10)).toInt) hx hb dX10_lies_9 (by decide) rfl rfl (fun c3 => ?_) (fun c3 => ?_)
    · refine lv_aload_n hx hb dX10_lies_16 rfl (lv_at hl 0 rfl) ?_
      refine gf_RX10_85 (v := .ref (a 46)) C hO 0 cW_0 rfl dX10_lies_17 ?_
      refine lv_iload_n hx hb dX10_lies_20 rfl (lv_at hl 1 rfl) ?_
      refine aI C hO 46 cW_46 (i_in (X := (x1).toInt) rfl (by omega) (by omega)) dX10_lies_21 ?_
      refine lv_topi (fun w4 ew4 => ?_)
      refine hret _ _ _ _ _ _ dX10_lies_22 rfl ?_ hO
      exact rfl
    · refine lv_iconst (v := (-1)) hx hb dX10_lies_12 (by decide) ?_
      refine lv_goto (tgt := 22) hx hb dX10_lies_13 (by decide) ?_
      refine hret _ _ _ _ _ _ dX10_lies_22 rfl ?_ hO
      exact rfl
theorem dX10_heard_0 : decode cX10_heard 0 = .ok (.aload_n 0, 1) := by decide +kernel
theorem dX10_heard_1 : decode cX10_heard 1 = .ok (.getfield 37, 3) := by decide +kernel
theorem dX10_heard_4 : decode cX10_heard 4 = .ok (.iload_n 1, 1) := by decide +kernel
theorem dX10_heard_5 : decode cX10_heard 5 = .ok (.invokevirtual 144, 3) := by decide +kernel
theorem dX10_heard_8 : decode cX10_heard 8 = .ok (.ifCond .eq 30, 3) := by decide +kernel
theorem dX10_heard_11 : decode cX10_heard 11 = .ok (.iload_n 2, 1) := by decide +kernel
theorem dX10_heard_12 : decode cX10_heard 12 = .ok (.sipush (-9999), 3) := by decide +kernel
theorem dX10_heard_15 : decode cX10_heard 15 = .ok (.if_icmp .lt 23, 3) := by decide +kernel
theorem dX10_heard_18 : decode cX10_heard 18 = .ok (.iload_n 2, 1) := by decide +kernel
theorem dX10_heard_19 : decode cX10_heard 19 = .ok (.sipush 9999, 3) := by decide +kernel
theorem dX10_heard_22 : decode cX10_heard 22 = .ok (.if_icmp .gt 16, 3) := by decide +kernel
theorem dX10_heard_25 : decode cX10_heard 25 = .ok (.aload_n 0, 1) := by decide +kernel
theorem dX10_heard_26 : decode cX10_heard 26 = .ok (.getfield 37, 3) := by decide +kernel
theorem dX10_heard_29 : decode cX10_heard 29 = .ok (.getfield 101, 3) := by decide +kernel
theorem dX10_heard_32 : decode cX10_heard 32 = .ok (.getfield 206, 3) := by decide +kernel
theorem dX10_heard_35 : decode cX10_heard 35 = .ok (.ifCond .ne 5, 3) := by decide +kernel
theorem dX10_heard_38 : decode cX10_heard 38 = .ok (.iconst (-1), 1) := by decide +kernel
theorem dX10_heard_39 : decode cX10_heard 39 = .ok (.ireturn, 1) := by decide +kernel
theorem dX10_heard_40 : decode cX10_heard 40 = .ok (.aload_n 0, 1) := by decide +kernel
theorem dX10_heard_41 : decode cX10_heard 41 = .ok (.getfield 76, 3) := by decide +kernel
theorem dX10_heard_44 : decode cX10_heard 44 = .ok (.iload_n 1, 1) := by decide +kernel
theorem dX10_heard_45 : decode cX10_heard 45 = .ok (.iload_n 2, 1) := by decide +kernel
theorem dX10_heard_46 : decode cX10_heard 46 = .ok (.iload_n 3, 1) := by decide +kernel
theorem dX10_heard_47 : decode cX10_heard 47 = .ok (.invokevirtual 308, 3) := by decide +kernel
theorem dX10_heard_50 : decode cX10_heard 50 = .ok (.ireturn, 1) := by decide +kernel
theorem wd_1241 : (Cond.code ⟨"WebCourt", "heard", "(IIZ)I"⟩ prog_1_method_44_code (4 : Nat) (Option.some FieldType.int)) ∈ gtb := gtb_c5 172 (by decide +kernel) rfl
theorem wd_475 : (Cond.fieldLink "WebCourt" (76 : Nat) "WebCourt" "hearsay" "LWebCourt$Hearsay;") ∈ gtb := gtb_c2 126 (by decide +kernel) rfl
theorem gf_RX10_76 {p : Program} {l : Launch} {e : Env} {R : Room} {s : State} {m : MethodId} {args : Array Value} {below : List Frame} {meth : Method} {c : Code} {H : Heap} {locs : List Loc} {cells slots : Nat} {Q : State → Prop} {cc : ByteArray} {pc nL : Nat} {ls : Array Slot} {rest : List Value} {D : va_G} {cy : Nat → ClassId} {A : Nat → Prop} {ws : va_W} {b : Nat} {fs : List Value} {v : Value} (C : Cx p s m args c cc nL RX10 D cy A) (hO : Wo D A ws s.heap H locs) (q0 : Nat) (he : ws[q0]? = some (b, .inr (10, fs))) (hv : fs[7]? = some v) (hdg : decode cc pc = .ok (.getfield 76, 3)) (kk : W p l e R s m args below meth c H locs cells slots Q (F0 m (pc + 3) ls (v :: rest))) : W p l e R s m args below meth c H locs cells slots Q (F0 m pc ls (.ref b :: rest)) := gF (k := 7) C hO q0 he rfl inFX10 (by decide) wd_475 rfl hv hdg kk
theorem wd_1242 : (Cond.methodLink "WebCourt" (308 : Nat) ⟨"WebCourt$Hearsay", "tell", "(IIZ)I"⟩) ∈ gtb := gtb_c5 173 (by decide +kernel) rfl
theorem wd_1243 : (Cond.instanceMethod ⟨"WebCourt$Hearsay", "tell", "(IIZ)I"⟩) ∈ gtb := gtb_c5 174 (by decide +kernel) rfl
theorem wd_1244 : (Cond.selects "WebCourt$Hearsay" ⟨"WebCourt$Hearsay", "tell", "(IIZ)I"⟩ ⟨"WebCourt$Hearsay", "tell", "(IIZ)I"⟩) ∈ gtb := gtb_c5 175 (by decide +kernel) rfl
theorem hd_yX3_tell : yX3_tell.cls = RX3 ∧ yX3_tell.cls ≠ "java/lang/invoke/MethodHandle" ∧ yX3_tell.cls ≠ "java/lang/invoke/VarHandle" ∧ (parseMethodDescriptor yX3_tell.desc).map (fun d => d.parameters.length) = some 3 := by decide +kernel
set_option maxHeartbeats 4000000 in
set_option maxRecDepth 100000 in
theorem T_X10_heard (l : Launch) (D : va_G) (cy : Nat → ClassId) (a : Nat → Nat) (u : St) (hJ : CI a u) (x1 : Int32) (x2 : Int32) (x3 : Int32)  : Mi l D cy (cW cy a) yX10_heard (.code yX10_heard cX10_heard 4 (some .int)) (rmo 1 23) [.ref (a 0), .int x1, .int x2, .int x3] u (fun (r : Int32) (u' : St) => (CI a u') ∧ (KT u u')) := by
  refine Mi.of (own := RX10) rfl (by decide) (Nat.le_of_ble_eq_true rfl) ?_
  have hT : KT u u := KT.rf
  intro p e s m below meth c A Q ls C hret hO hl
  obtain ⟨hx, hb, hml, hown, ht, hK, hA⟩ := id C
  have hl : lv_has ls 4 [(0, .ref (a 0)), (1, .int x1), (2, .int x2), (3, .int x3)] := hl
  refine lv_aload_n hx hb dX10_heard_0 rfl (lv_at hl 0 rfl) ?_
  refine gf_RX10_37 (v := .ref (a 28)) C hO 0 cW_0 rfl dX10_heard_1 ?_
  refine lv_iload_n hx hb dX10_heard_4 rfl (lv_at hl 1 rfl) ?_
  refine cVi (w := cW cy a) (As := [.int x1]) (rest := []) C hO (T_X2_hasCase l D cy a _ (by exact hJ) (x1)) (cwV 1 ht (gV wd_841 wd_842 wd_843 wd_115 wd_844) rfl rfl rfl hd_yX2_hasCase ⟨Nat.le_of_ble_eq_true rfl, Nat.le_of_ble_eq_true rfl⟩) 28 rfl cW_28 rfl rfl hl.1 (Nat.le_of_ble_eq_true rfl) dX10_heard_5 rfl ⟨Nat.zero_le _, Nat.zero_le _⟩ (fun r1 u2 H locs hp3 hO => ?_)
  obtain ⟨hr1, hu2⟩ := hp3
  rw [hu2] at hO
  rcases hr1 with ⟨hcr1, hvr1⟩ | ⟨hcr1, hvr1⟩
  · subst hvr1
    refine bn_eq (X := 1) hx hb dX10_heard_8 rfl (by omega) ?_ (tgt := 38) (by decide)
    refine lv_iload_n hx hb dX10_heard_11 rfl (lv_at hl 2 rfl) ?_
    refine lv_sipush (v := (-9999)) hx hb dX10_heard_12 (by decide) ?_
    refine cs_lt (tgt := 38) (X := (x2).toInt) (Y := (-9999)) hx hb dX10_heard_15 (by decide) rfl rfl (fun c4 => ?_) (fun c4 => ?_)
    · refine lv_iconst (v := (-1)) hx hb dX10_heard_38 (by decide) ?_
      refine hret _ _ _ _ _ _ dX10_heard_39 rfl ?_ hO
      exact ⟨hJ, hT⟩
    · refine lv_iload_n hx hb dX10_heard_18 rfl (lv_at hl 2 rfl) ?_
      refine lv_sipush (v := 9999) hx hb dX10_heard_19 (by decide) ?_
      refine cs_gt (tgt := 38) (X := (x2).toInt) (Y := 9999) hx hb dX10_heard_22 (by decide) rfl rfl (fun c5 => ?_) (fun c5 => ?_)
      · refine lv_iconst (v := (-1)) hx hb dX10_heard_38 (by decide) ?_
        refine hret _ _ _ _ _ _ dX10_heard_39 rfl ?_ hO
        exact ⟨hJ, hT⟩
      · refine lv_aload_n hx hb dX10_heard_25 rfl (lv_at hl 0 rfl) ?_
        refine gf_RX10_37 (v := .ref (a 28)) C hO 0 cW_0 rfl dX10_heard_26 ?_
        refine gf_RX10_101 (v := .ref (a 3)) C hO 28 cW_28 (congrArg (fun z : Nat => some (Value.ref z)) (CI_R0 hJ)) dX10_heard_29 ?_
        have g6 : 0 ≤ (fI u 3 11).toInt ∧ (fI u 3 11).toInt ≤ 8 := by have h := CI_3_11 hJ; exact h
        refine gf_RX10_206 (v := .int (fI u 3 11)) C hO 3 cW_3 rfl dX10_heard_32 ?_
        refine bs_ne (tgt := 40) (X := ((fI u 3 11)).toInt) hx hb dX10_heard_35 (by decide) rfl (fun c7 => ?_) (fun c7 => ?_)
        · refine lv_aload_n hx hb dX10_heard_40 rfl (lv_at hl 0 rfl) ?_
          refine gf_RX10_76 (v := .ref (a 39)) C hO 0 cW_0 rfl dX10_heard_41 ?_
          refine lv_iload_n hx hb dX10_heard_44 rfl (lv_at hl 1 rfl) ?_
          refine lv_iload_n hx hb dX10_heard_45 rfl (lv_at hl 2 rfl) ?_
          refine lv_iload_n hx hb dX10_heard_46 rfl (lv_at hl 3 rfl) ?_
          refine cVi (w := cW cy a) (As := [.int x1, .int x2, .int x3]) (rest := []) C hO (T_X3_tell l D cy a _ (by exact hJ) (x1) (x2) (x3)) (cwV 3 ht (gV wd_1242 wd_1243 wd_1244 wd_120 wd_1245) rfl rfl rfl hd_yX3_tell ⟨Nat.le_of_ble_eq_true rfl, Nat.le_of_ble_eq_true rfl⟩) 39 rfl cW_39 rfl rfl hl.1 (Nat.le_of_ble_eq_true rfl) dX10_heard_47 rfl ⟨Nat.zero_le _, Nat.zero_le _⟩ (fun r8 u9 H locs hp10 hO => ?_)
          obtain ⟨hJ, hTu9⟩ := hp10
          have hT : KT u u9 := KT.tr (by exact hT) hTu9
          refine hret _ _ _ _ _ _ dX10_heard_50 rfl ?_ hO
          exact ⟨hJ, hT⟩
        · refine lv_iconst (v := (-1)) hx hb dX10_heard_38 (by decide) ?_
          refine hret _ _ _ _ _ _ dX10_heard_39 rfl ?_ hO
          exact ⟨hJ, hT⟩
  · subst hvr1
    refine bt_eq (tgt := 38) (X := 0) hx hb dX10_heard_8 (by decide) rfl (by omega) ?_
    refine lv_iconst (v := (-1)) hx hb dX10_heard_38 (by decide) ?_
    refine hret _ _ _ _ _ _ dX10_heard_39 rfl ?_ hO
    exact ⟨hJ, hT⟩
theorem dX10_untell_0 : decode cX10_untell 0 = .ok (.aload_n 0, 1) := by decide +kernel
theorem dX10_untell_1 : decode cX10_untell 1 = .ok (.getfield 76, 3) := by decide +kernel
theorem dX10_untell_4 : decode cX10_untell 4 = .ok (.iload_n 1, 1) := by decide +kernel
theorem dX10_untell_5 : decode cX10_untell 5 = .ok (.invokevirtual 312, 3) := by decide +kernel
theorem dX10_untell_8 : decode cX10_untell 8 = .ok (.ireturn, 1) := by decide +kernel
theorem wd_1249 : (Cond.code ⟨"WebCourt", "untell", "(I)Z"⟩ prog_1_method_45_code (2 : Nat) (Option.some FieldType.boolean)) ∈ gtb := gtb_c5 180 (by decide +kernel) rfl
theorem wd_1250 : (Cond.methodLink "WebCourt" (312 : Nat) ⟨"WebCourt$Hearsay", "takeBack", "(I)Z"⟩) ∈ gtb := gtb_c5 181 (by decide +kernel) rfl
theorem wd_1251 : (Cond.instanceMethod ⟨"WebCourt$Hearsay", "takeBack", "(I)Z"⟩) ∈ gtb := gtb_c5 182 (by decide +kernel) rfl
theorem wd_1252 : (Cond.selects "WebCourt$Hearsay" ⟨"WebCourt$Hearsay", "takeBack", "(I)Z"⟩ ⟨"WebCourt$Hearsay", "takeBack", "(I)Z"⟩) ∈ gtb := gtb_c5 183 (by decide +kernel) rfl
theorem hd_yX3_takeBack : yX3_takeBack.cls = RX3 ∧ yX3_takeBack.cls ≠ "java/lang/invoke/MethodHandle" ∧ yX3_takeBack.cls ≠ "java/lang/invoke/VarHandle" ∧ (parseMethodDescriptor yX3_takeBack.desc).map (fun d => d.parameters.length) = some 1 := by decide +kernel
set_option maxHeartbeats 4000000 in
set_option maxRecDepth 100000 in
theorem T_X10_untell (l : Launch) (D : va_G) (cy : Nat → ClassId) (a : Nat → Nat) (u : St) (hJ : CI a u) (x1 : Int32)  : Mi l D cy (cW cy a) yX10_untell (.code yX10_untell cX10_untell 2 (some .boolean)) (rmo 1 21) [.ref (a 0), .int x1] u (fun (r : Int32) (u' : St) => (r = 0 ∨ r = 1) ∧ (CI a u') ∧ (KT u u')) := by
  refine Mi.of (own := RX10) rfl (by decide) (Nat.le_of_ble_eq_true rfl) ?_
  have hT : KT u u := KT.rf
  intro p e s m below meth c A Q ls C hret hO hl
  obtain ⟨hx, hb, hml, hown, ht, hK, hA⟩ := id C
  have hl : lv_has ls 2 [(0, .ref (a 0)), (1, .int x1)] := hl
  refine lv_aload_n hx hb dX10_untell_0 rfl (lv_at hl 0 rfl) ?_
  refine gf_RX10_76 (v := .ref (a 39)) C hO 0 cW_0 rfl dX10_untell_1 ?_
  refine lv_iload_n hx hb dX10_untell_4 rfl (lv_at hl 1 rfl) ?_
  refine cVi (w := cW cy a) (As := [.int x1]) (rest := []) C hO (T_X3_takeBack l D cy a _ (by exact hJ) (x1)) (cwV 1 ht (gV wd_1250 wd_1251 wd_1252 wd_120 wd_1253) rfl rfl rfl hd_yX3_takeBack ⟨Nat.le_of_ble_eq_true rfl, Nat.le_of_ble_eq_true rfl⟩) 39 rfl cW_39 rfl rfl hl.1 (Nat.le_of_ble_eq_true rfl) dX10_untell_5 rfl ⟨Nat.zero_le _, Nat.zero_le _⟩ (fun r1 u2 H locs hp3 hO => ?_)
  obtain ⟨hr1, hJ, hTu2⟩ := hp3
  have gr1 : 0 ≤ r1.toInt ∧ r1.toInt ≤ 1 := by rcases hr1 with h | h <;> rw [h] <;> decide
  have hT : KT u u2 := KT.tr (by exact hT) hTu2
  refine hret _ _ _ _ _ _ dX10_untell_8 (by rcases hr1 with h | h <;> rw [h] <;> rfl) ?_ hO
  exact ⟨hr1, hJ, hT⟩
theorem dX10_fits_0 : decode cX10_fits 0 = .ok (.aload_n 0, 1) := by decide +kernel
theorem dX10_fits_1 : decode cX10_fits 1 = .ok (.getfield 76, 3) := by decide +kernel
theorem dX10_fits_4 : decode cX10_fits 4 = .ok (.aload_n 0, 1) := by decide +kernel
theorem dX10_fits_5 : decode cX10_fits 5 = .ok (.getfield 37, 3) := by decide +kernel
theorem dX10_fits_8 : decode cX10_fits 8 = .ok (.getfield 101, 3) := by decide +kernel
theorem dX10_fits_11 : decode cX10_fits 11 = .ok (.iload_n 1, 1) := by decide +kernel
theorem dX10_fits_12 : decode cX10_fits 12 = .ok (.invokevirtual 317, 3) := by decide +kernel
theorem dX10_fits_15 : decode cX10_fits 15 = .ok (.invokestatic 180, 3) := by decide +kernel
theorem dX10_fits_18 : decode cX10_fits 18 = .ok (.ireturn, 1) := by decide +kernel
theorem wd_1266 : (Cond.code ⟨"WebCourt", "fits", "(I)I"⟩ prog_1_method_47_code (2 : Nat) (Option.some FieldType.int)) ∈ gtb := gtb_c5 197 (by decide +kernel) rfl
theorem wd_1267 : (Cond.methodLink "WebCourt" (317 : Nat) ⟨"WebCourt$Hearsay", "fitting", "(LWebCourt$Web;I)I"⟩) ∈ gtb := gtb_c5 198 (by decide +kernel) rfl
theorem wd_1268 : (Cond.instanceMethod ⟨"WebCourt$Hearsay", "fitting", "(LWebCourt$Web;I)I"⟩) ∈ gtb := gtb_c5 199 (by decide +kernel) rfl
theorem wd_1269 : (Cond.selects "WebCourt$Hearsay" ⟨"WebCourt$Hearsay", "fitting", "(LWebCourt$Web;I)I"⟩ ⟨"WebCourt$Hearsay", "fitting", "(LWebCourt$Web;I)I"⟩) ∈ gtb := gtb_c5 200 (by decide +kernel) rfl
theorem hd_yX3_fitting : yX3_fitting.cls = RX3 ∧ yX3_fitting.cls ≠ "java/lang/invoke/MethodHandle" ∧ yX3_fitting.cls ≠ "java/lang/invoke/VarHandle" ∧ (parseMethodDescriptor yX3_fitting.desc).map (fun d => d.parameters.length) = some 2 := by decide +kernel
set_option maxHeartbeats 4000000 in
set_option maxRecDepth 100000 in
theorem T_X10_fits (l : Launch) (D : va_G) (cy : Nat → ClassId) (a : Nat → Nat) (u : St) (hJ : CI a u) (x1 : Int32)  : Mi l D cy (cW cy a) yX10_fits (.code yX10_fits cX10_fits 2 (some .int)) (rmo 5 127) [.ref (a 0), .int x1] u (fun (r : Int32) (u' : St) => (CI a u') ∧ (KT u u')) := by
  refine Mi.of (own := RX10) rfl (by decide) (Nat.le_of_ble_eq_true rfl) ?_
  have hT : KT u u := KT.rf
  intro p e s m below meth c A Q ls C hret hO hl
  obtain ⟨hx, hb, hml, hown, ht, hK, hA⟩ := id C
  have hl : lv_has ls 2 [(0, .ref (a 0)), (1, .int x1)] := hl
  refine lv_aload_n hx hb dX10_fits_0 rfl (lv_at hl 0 rfl) ?_
  refine gf_RX10_76 (v := .ref (a 39)) C hO 0 cW_0 rfl dX10_fits_1 ?_
  refine lv_aload_n hx hb dX10_fits_4 rfl (lv_at hl 0 rfl) ?_
  refine gf_RX10_37 (v := .ref (a 28)) C hO 0 cW_0 rfl dX10_fits_5 ?_
  refine gf_RX10_101 (v := .ref (a 3)) C hO 28 cW_28 (congrArg (fun z : Nat => some (Value.ref z)) (CI_R0 hJ)) dX10_fits_8 ?_
  refine lv_iload_n hx hb dX10_fits_11 rfl (lv_at hl 1 rfl) ?_
  refine cVi (w := cW cy a) (As := [.ref (a 3), .int x1]) (rest := []) C hO (T_X3_fitting l D cy a _ (by exact hJ) (x1)) (cwV 2 ht (gV wd_1267 wd_1268 wd_1269 wd_120 wd_1270) rfl rfl rfl hd_yX3_fitting ⟨Nat.le_of_ble_eq_true rfl, Nat.le_of_ble_eq_true rfl⟩) 39 rfl cW_39 rfl rfl hl.1 (Nat.le_of_ble_eq_true rfl) dX10_fits_12 rfl ⟨Nat.zero_le _, Nat.zero_le _⟩ (fun r1 u2 H locs hp3 hO => ?_)
  obtain ⟨hJ, hTu2⟩ := hp3
  have hT : KT u u2 := KT.tr (by exact hT) hTu2
  refine cSi (w := cW cy a) (As := [.int r1]) (rest := []) C hO (T_J6_bitCount_0f7a4 l D cy a _ (by exact hJ) (r1)) (va_cwS 1 ht (gSS wd_948 wd_870 wd_128 wd_871) rfl rfl rfl hd_yJ6_bitCount_0f7a4 ⟨Nat.le_of_ble_eq_true rfl, Nat.le_of_ble_eq_true rfl⟩)  rfl hl.1 (Nat.le_of_ble_eq_true rfl) dX10_fits_15 rfl ⟨Nat.zero_le _, Nat.zero_le _⟩ (fun r4 u5 H locs hp6 hO => ?_)
  have hu5 := hp6
  rw [hu5] at hO
  refine hret _ _ _ _ _ _ dX10_fits_18 rfl ?_ hO
  exact ⟨hJ, hT⟩
theorem dX10_sure_0 : decode cX10_sure 0 = .ok (.aload_n 0, 1) := by decide +kernel
theorem dX10_sure_1 : decode cX10_sure 1 = .ok (.getfield 76, 3) := by decide +kernel
theorem dX10_sure_4 : decode cX10_sure 4 = .ok (.aload_n 0, 1) := by decide +kernel
theorem dX10_sure_5 : decode cX10_sure 5 = .ok (.getfield 37, 3) := by decide +kernel
theorem dX10_sure_8 : decode cX10_sure 8 = .ok (.getfield 101, 3) := by decide +kernel
theorem dX10_sure_11 : decode cX10_sure 11 = .ok (.iload_n 2, 1) := by decide +kernel
theorem dX10_sure_12 : decode cX10_sure 12 = .ok (.invokevirtual 317, 3) := by decide +kernel
theorem dX10_sure_15 : decode cX10_sure 15 = .ok (.istore_n 3, 1) := by decide +kernel
theorem dX10_sure_16 : decode cX10_sure 16 = .ok (.iload_n 3, 1) := by decide +kernel
theorem dX10_sure_17 : decode cX10_sure 17 = .ok (.ifCond .eq 12, 3) := by decide +kernel
theorem dX10_sure_20 : decode cX10_sure 20 = .ok (.iload_n 1, 1) := by decide +kernel
theorem dX10_sure_21 : decode cX10_sure 21 = .ok (.ifCond .lt 8, 3) := by decide +kernel
theorem dX10_sure_24 : decode cX10_sure 24 = .ok (.iload_n 1, 1) := by decide +kernel
theorem dX10_sure_25 : decode cX10_sure 25 = .ok (.iconst 1, 1) := by decide +kernel
theorem dX10_sure_26 : decode cX10_sure 26 = .ok (.if_icmp .le 5, 3) := by decide +kernel
theorem dX10_sure_29 : decode cX10_sure 29 = .ok (.iconst (-1), 1) := by decide +kernel
theorem dX10_sure_30 : decode cX10_sure 30 = .ok (.ireturn, 1) := by decide +kernel
theorem dX10_sure_31 : decode cX10_sure 31 = .ok (.iload_n 1, 1) := by decide +kernel
theorem dX10_sure_32 : decode cX10_sure 32 = .ok (.ifCond .ne 14, 3) := by decide +kernel
theorem dX10_sure_35 : decode cX10_sure 35 = .ok (.aload_n 0, 1) := by decide +kernel
theorem dX10_sure_36 : decode cX10_sure 36 = .ok (.getfield 76, 3) := by decide +kernel
theorem dX10_sure_39 : decode cX10_sure 39 = .ok (.iload_n 3, 1) := by decide +kernel
theorem dX10_sure_40 : decode cX10_sure 40 = .ok (.invokevirtual 321, 3) := by decide +kernel
theorem dX10_sure_43 : decode cX10_sure 43 = .ok (.goto 11, 3) := by decide +kernel
theorem dX10_sure_46 : decode cX10_sure 46 = .ok (.aload_n 0, 1) := by decide +kernel
theorem dX10_sure_47 : decode cX10_sure 47 = .ok (.getfield 76, 3) := by decide +kernel
theorem dX10_sure_50 : decode cX10_sure 50 = .ok (.iload_n 3, 1) := by decide +kernel
theorem dX10_sure_51 : decode cX10_sure 51 = .ok (.invokevirtual 324, 3) := by decide +kernel
theorem dX10_sure_54 : decode cX10_sure 54 = .ok (.ireturn, 1) := by decide +kernel
theorem wd_1290 : (Cond.code ⟨"WebCourt", "sure", "(II)I"⟩ prog_1_method_48_code (4 : Nat) (Option.some FieldType.int)) ∈ gtb := gtb_c5 221 (by decide +kernel) rfl
theorem wd_1295 : (Cond.methodLink "WebCourt" (324 : Nat) ⟨"WebCourt$Hearsay", "greatestOf", "(I)I"⟩) ∈ gtb := gtb_c5 226 (by decide +kernel) rfl
theorem wd_1296 : (Cond.instanceMethod ⟨"WebCourt$Hearsay", "greatestOf", "(I)I"⟩) ∈ gtb := gtb_c5 227 (by decide +kernel) rfl
theorem wd_1297 : (Cond.selects "WebCourt$Hearsay" ⟨"WebCourt$Hearsay", "greatestOf", "(I)I"⟩ ⟨"WebCourt$Hearsay", "greatestOf", "(I)I"⟩) ∈ gtb := gtb_c5 228 (by decide +kernel) rfl
theorem hd_yX3_greatestOf : yX3_greatestOf.cls = RX3 ∧ yX3_greatestOf.cls ≠ "java/lang/invoke/MethodHandle" ∧ yX3_greatestOf.cls ≠ "java/lang/invoke/VarHandle" ∧ (parseMethodDescriptor yX3_greatestOf.desc).map (fun d => d.parameters.length) = some 1 := by decide +kernel
theorem wd_1291 : (Cond.methodLink "WebCourt" (321 : Nat) ⟨"WebCourt$Hearsay", "leastOf", "(I)I"⟩) ∈ gtb := gtb_c5 222 (by decide +kernel) rfl
theorem wd_1292 : (Cond.instanceMethod ⟨"WebCourt$Hearsay", "leastOf", "(I)I"⟩) ∈ gtb := gtb_c5 223 (by decide +kernel) rfl
theorem wd_1293 : (Cond.selects "WebCourt$Hearsay" ⟨"WebCourt$Hearsay", "leastOf", "(I)I"⟩ ⟨"WebCourt$Hearsay", "leastOf", "(I)I"⟩) ∈ gtb := gtb_c5 224 (by decide +kernel) rfl
theorem hd_yX3_leastOf : yX3_leastOf.cls = RX3 ∧ yX3_leastOf.cls ≠ "java/lang/invoke/MethodHandle" ∧ yX3_leastOf.cls ≠ "java/lang/invoke/VarHandle" ∧ (parseMethodDescriptor yX3_leastOf.desc).map (fun d => d.parameters.length) = some 1 := by decide +kernel
set_option maxHeartbeats 4000000 in
set_option maxRecDepth 100000 in
theorem T_X10_sure (l : Launch) (D : va_G) (cy : Nat → ClassId) (a : Nat → Nat) (u : St) (hJ : CI a u) (x1 : Int32) (x2 : Int32)  : Mi l D cy (cW cy a) yX10_sure (.code yX10_sure cX10_sure 4 (some .int)) (rmo 5 127) [.ref (a 0), .int x1, .int x2] u (fun (r : Int32) (u' : St) => (CI a u') ∧ (KT u u')) := by
  refine Mi.of (own := RX10) rfl (by decide) (Nat.le_of_ble_eq_true rfl) ?_
  have hT : KT u u := KT.rf
  intro p e s m below meth c A Q ls C hret hO hl
  obtain ⟨hx, hb, hml, hown, ht, hK, hA⟩ := id C
  have hl : lv_has ls 4 [(0, .ref (a 0)), (1, .int x1), (2, .int x2)] := hl
  refine lv_aload_n hx hb dX10_sure_0 rfl (lv_at hl 0 rfl) ?_
  refine gf_RX10_76 (v := .ref (a 39)) C hO 0 cW_0 rfl dX10_sure_1 ?_
  refine lv_aload_n hx hb dX10_sure_4 rfl (lv_at hl 0 rfl) ?_
  refine gf_RX10_37 (v := .ref (a 28)) C hO 0 cW_0 rfl dX10_sure_5 ?_
  refine gf_RX10_101 (v := .ref (a 3)) C hO 28 cW_28 (congrArg (fun z : Nat => some (Value.ref z)) (CI_R0 hJ)) dX10_sure_8 ?_
  refine lv_iload_n hx hb dX10_sure_11 rfl (lv_at hl 2 rfl) ?_
  refine cVi (w := cW cy a) (As := [.ref (a 3), .int x2]) (rest := []) C hO (T_X3_fitting l D cy a _ (by exact hJ) (x2)) (cwV 2 ht (gV wd_1267 wd_1268 wd_1269 wd_120 wd_1270) rfl rfl rfl hd_yX3_fitting ⟨Nat.le_of_ble_eq_true rfl, Nat.le_of_ble_eq_true rfl⟩) 39 rfl cW_39 rfl rfl hl.1 (Nat.le_of_ble_eq_true rfl) dX10_sure_12 rfl ⟨Nat.zero_le _, Nat.zero_le _⟩ (fun r1 u2 H locs hp3 hO => ?_)
  obtain ⟨hJ, hTu2⟩ := hp3
  have hT : KT u u2 := KT.tr (by exact hT) hTu2
  refine lv_istore_n (lv' := [(3, .int r1), (0, .ref (a 0)), (1, .int x1), (2, .int x2)]) hx hb dX10_sure_15 rfl hl (by decide) rfl (fun ls hl => ?_)
  refine lv_iload_n hx hb dX10_sure_16 rfl (lv_at hl 0 rfl) ?_
  refine bs_eq (tgt := 29) (X := (r1).toInt) hx hb dX10_sure_17 (by decide) rfl (fun c4 => ?_) (fun c4 => ?_)
  · refine lv_iconst (v := (-1)) hx hb dX10_sure_29 (by decide) ?_
    refine hret _ _ _ _ _ _ dX10_sure_30 rfl ?_ hO
    exact ⟨hJ, hT⟩
  · refine lv_iload_n hx hb dX10_sure_20 rfl (lv_at hl 2 rfl) ?_
    refine bs_lt (tgt := 29) (X := (x1).toInt) hx hb dX10_sure_21 (by decide) rfl (fun c5 => ?_) (fun c5 => ?_)
    · refine lv_iconst (v := (-1)) hx hb dX10_sure_29 (by decide) ?_
      refine hret _ _ _ _ _ _ dX10_sure_30 rfl ?_ hO
      exact ⟨hJ, hT⟩
    · refine lv_iload_n hx hb dX10_sure_24 rfl (lv_at hl 2 rfl) ?_
      refine lv_iconst (v := 1) hx hb dX10_sure_25 (by decide) ?_
      refine cs_le (tgt := 31) (X := (x1).toInt) (Y := 1) hx hb dX10_sure_26 (by decide) rfl rfl (fun c6 => ?_) (fun c6 => ?_)
      · refine lv_iload_n hx hb dX10_sure_31 rfl (lv_at hl 2 rfl) ?_
        refine bs_ne (tgt := 46) (X := (x1).toInt) hx hb dX10_sure_32 (by decide) rfl (fun c7 => ?_) (fun c7 => ?_)
        · refine lv_aload_n hx hb dX10_sure_46 rfl (lv_at hl 1 rfl) ?_
          refine gf_RX10_76 (v := .ref (a 39)) C hO 0 cW_0 rfl dX10_sure_47 ?_
          refine lv_iload_n hx hb dX10_sure_50 rfl (lv_at hl 0 rfl) ?_
          refine cVi (w := cW cy a) (As := [.int r1]) (rest := []) C hO (T_X3_greatestOf l D cy a _ (by exact hJ) (r1)) (cwV 1 ht (gV wd_1295 wd_1296 wd_1297 wd_120 wd_1298) rfl rfl rfl hd_yX3_greatestOf ⟨Nat.le_of_ble_eq_true rfl, Nat.le_of_ble_eq_true rfl⟩) 39 rfl cW_39 rfl rfl hl.1 (Nat.le_of_ble_eq_true rfl) dX10_sure_51 rfl ⟨Nat.zero_le _, Nat.zero_le _⟩ (fun r8 u9 H locs hp10 hO => ?_)
          have hu9 := hp10
          rw [hu9] at hO
          refine hret _ _ _ _ _ _ dX10_sure_54 rfl ?_ hO
          exact ⟨hJ, hT⟩
        · refine lv_aload_n hx hb dX10_sure_35 rfl (lv_at hl 1 rfl) ?_
          refine gf_RX10_76 (v := .ref (a 39)) C hO 0 cW_0 rfl dX10_sure_36 ?_
          refine lv_iload_n hx hb dX10_sure_39 rfl (lv_at hl 0 rfl) ?_
          refine cVi (w := cW cy a) (As := [.int r1]) (rest := []) C hO (T_X3_leastOf l D cy a _ (by exact hJ) (r1)) (cwV 1 ht (gV wd_1291 wd_1292 wd_1293 wd_120 wd_1294) rfl rfl rfl hd_yX3_leastOf ⟨Nat.le_of_ble_eq_true rfl, Nat.le_of_ble_eq_true rfl⟩) 39 rfl cW_39 rfl rfl hl.1 (Nat.le_of_ble_eq_true rfl) dX10_sure_40 rfl ⟨Nat.zero_le _, Nat.zero_le _⟩ (fun r11 u12 H locs hp13 hO => ?_)
          have hu12 := hp13
          rw [hu12] at hO
          refine lv_goto (tgt := 54) hx hb dX10_sure_43 (by decide) ?_
          refine hret _ _ _ _ _ _ dX10_sure_54 rfl ?_ hO
          exact ⟨hJ, hT⟩
      · refine lv_iconst (v := (-1)) hx hb dX10_sure_29 (by decide) ?_
        refine hret _ _ _ _ _ _ dX10_sure_30 rfl ?_ hO
        exact ⟨hJ, hT⟩
theorem dX10_ask_0 : decode cX10_ask 0 = .ok (.aload_n 0, 1) := by decide +kernel
theorem dX10_ask_1 : decode cX10_ask 1 = .ok (.getfield 76, 3) := by decide +kernel
theorem dX10_ask_4 : decode cX10_ask 4 = .ok (.aload_n 0, 1) := by decide +kernel
theorem dX10_ask_5 : decode cX10_ask 5 = .ok (.getfield 37, 3) := by decide +kernel
theorem dX10_ask_8 : decode cX10_ask 8 = .ok (.getfield 101, 3) := by decide +kernel
theorem dX10_ask_11 : decode cX10_ask 11 = .ok (.iload_n 2, 1) := by decide +kernel
theorem dX10_ask_12 : decode cX10_ask 12 = .ok (.invokevirtual 317, 3) := by decide +kernel
theorem dX10_ask_15 : decode cX10_ask 15 = .ok (.istore_n 3, 1) := by decide +kernel
theorem dX10_ask_16 : decode cX10_ask 16 = .ok (.iload_n 3, 1) := by decide +kernel
theorem dX10_ask_17 : decode cX10_ask 17 = .ok (.ifCond .eq 25, 3) := by decide +kernel
theorem dX10_ask_20 : decode cX10_ask 20 = .ok (.aload_n 0, 1) := by decide +kernel
theorem dX10_ask_21 : decode cX10_ask 21 = .ok (.getfield 37, 3) := by decide +kernel
theorem dX10_ask_24 : decode cX10_ask 24 = .ok (.getfield 101, 3) := by decide +kernel
theorem dX10_ask_27 : decode cX10_ask 27 = .ok (.getfield 117, 3) := by decide +kernel
theorem dX10_ask_30 : decode cX10_ask 30 = .ok (.ifCond .eq 12, 3) := by decide +kernel
theorem dX10_ask_33 : decode cX10_ask 33 = .ok (.iload_n 1, 1) := by decide +kernel
theorem dX10_ask_34 : decode cX10_ask 34 = .ok (.ifCond .lt 8, 3) := by decide +kernel
theorem dX10_ask_37 : decode cX10_ask 37 = .ok (.iload_n 1, 1) := by decide +kernel
theorem dX10_ask_38 : decode cX10_ask 38 = .ok (.iconst 1, 1) := by decide +kernel
theorem dX10_ask_39 : decode cX10_ask 39 = .ok (.if_icmp .le 5, 3) := by decide +kernel
theorem dX10_ask_42 : decode cX10_ask 42 = .ok (.iconst (-1), 1) := by decide +kernel
theorem dX10_ask_43 : decode cX10_ask 43 = .ok (.ireturn, 1) := by decide +kernel
theorem dX10_ask_44 : decode cX10_ask 44 = .ok (.aload_n 0, 1) := by decide +kernel
theorem dX10_ask_45 : decode cX10_ask 45 = .ok (.getfield 76, 3) := by decide +kernel
theorem dX10_ask_48 : decode cX10_ask 48 = .ok (.aload_n 0, 1) := by decide +kernel
theorem dX10_ask_49 : decode cX10_ask 49 = .ok (.getfield 37, 3) := by decide +kernel
theorem dX10_ask_52 : decode cX10_ask 52 = .ok (.getfield 101, 3) := by decide +kernel
theorem dX10_ask_55 : decode cX10_ask 55 = .ok (.iload_n 3, 1) := by decide +kernel
theorem dX10_ask_56 : decode cX10_ask 56 = .ok (.invokevirtual 327, 3) := by decide +kernel
theorem dX10_ask_59 : decode cX10_ask 59 = .ok (.istore 4, 2) := by decide +kernel
theorem dX10_ask_61 : decode cX10_ask 61 = .ok (.iload_n 1, 1) := by decide +kernel
theorem dX10_ask_62 : decode cX10_ask 62 = .ok (.ifCond .ne 8, 3) := by decide +kernel
theorem dX10_ask_65 : decode cX10_ask 65 = .ok (.iload 4, 2) := by decide +kernel
theorem dX10_ask_67 : decode cX10_ask 67 = .ok (.goto 20, 3) := by decide +kernel
theorem dX10_ask_70 : decode cX10_ask 70 = .ok (.aload_n 0, 1) := by decide +kernel
theorem dX10_ask_71 : decode cX10_ask 71 = .ok (.getfield 76, 3) := by decide +kernel
theorem dX10_ask_74 : decode cX10_ask 74 = .ok (.aload_n 0, 1) := by decide +kernel
theorem dX10_ask_75 : decode cX10_ask 75 = .ok (.getfield 37, 3) := by decide +kernel
theorem dX10_ask_78 : decode cX10_ask 78 = .ok (.getfield 101, 3) := by decide +kernel
theorem dX10_ask_81 : decode cX10_ask 81 = .ok (.iload 4, 2) := by decide +kernel
theorem dX10_ask_83 : decode cX10_ask 83 = .ok (.iload_n 3, 1) := by decide +kernel
theorem dX10_ask_84 : decode cX10_ask 84 = .ok (.invokevirtual 330, 3) := by decide +kernel
theorem dX10_ask_87 : decode cX10_ask 87 = .ok (.ireturn, 1) := by decide +kernel
theorem wd_1302 : (Cond.code ⟨"WebCourt", "ask", "(II)I"⟩ prog_1_method_49_code (5 : Nat) (Option.some FieldType.int)) ∈ gtb := gtb_c5 233 (by decide +kernel) rfl
theorem wd_271 : (Cond.fieldLink "WebCourt" (117 : Nat) "WebCourt$Web" "cases" "I") ∈ gtb := gtb_c1 162 (by decide +kernel) rfl
theorem gf_RX10_117 {p : Program} {l : Launch} {e : Env} {R : Room} {s : State} {m : MethodId} {args : Array Value} {below : List Frame} {meth : Method} {c : Code} {H : Heap} {locs : List Loc} {cells slots : Nat} {Q : State → Prop} {cc : ByteArray} {pc nL : Nat} {ls : Array Slot} {rest : List Value} {D : va_G} {cy : Nat → ClassId} {A : Nat → Prop} {ws : va_W} {b : Nat} {fs : List Value} {v : Value} (C : Cx p s m args c cc nL RX10 D cy A) (hO : Wo D A ws s.heap H locs) (q0 : Nat) (he : ws[q0]? = some (b, .inr (9, fs))) (hv : fs[12]? = some v) (hdg : decode cc pc = .ok (.getfield 117, 3)) (kk : W p l e R s m args below meth c H locs cells slots Q (F0 m (pc + 3) ls (v :: rest))) : W p l e R s m args below meth c H locs cells slots Q (F0 m pc ls (.ref b :: rest)) := gF (k := 12) C hO q0 he rfl inFX9 (by decide) wd_271 rfl hv hdg kk
theorem wd_1303 : (Cond.methodLink "WebCourt" (327 : Nat) ⟨"WebCourt$Hearsay", "caseToAsk", "(LWebCourt$Web;I)I"⟩) ∈ gtb := gtb_c5 234 (by decide +kernel) rfl
theorem wd_1304 : (Cond.instanceMethod ⟨"WebCourt$Hearsay", "caseToAsk", "(LWebCourt$Web;I)I"⟩) ∈ gtb := gtb_c5 235 (by decide +kernel) rfl
theorem wd_1305 : (Cond.selects "WebCourt$Hearsay" ⟨"WebCourt$Hearsay", "caseToAsk", "(LWebCourt$Web;I)I"⟩ ⟨"WebCourt$Hearsay", "caseToAsk", "(LWebCourt$Web;I)I"⟩) ∈ gtb := gtb_c5 236 (by decide +kernel) rfl
theorem hd_yX3_caseToAsk : yX3_caseToAsk.cls = RX3 ∧ yX3_caseToAsk.cls ≠ "java/lang/invoke/MethodHandle" ∧ yX3_caseToAsk.cls ≠ "java/lang/invoke/VarHandle" ∧ (parseMethodDescriptor yX3_caseToAsk.desc).map (fun d => d.parameters.length) = some 2 := by decide +kernel
theorem wd_1312 : (Cond.methodLink "WebCourt" (330 : Nat) ⟨"WebCourt$Hearsay", "mostLeft", "(LWebCourt$Web;II)I"⟩) ∈ gtb := gtb_c6 3 (by decide +kernel) rfl
set_option maxHeartbeats 4000000 in
set_option maxRecDepth 100000 in
theorem T_X10_ask (l : Launch) (D : va_G) (cy : Nat → ClassId) (a : Nat → Nat) (u : St) (hJ : CI a u) (x1 : Int32) (x2 : Int32)  : Mi l D cy (cW cy a) yX10_ask (.code yX10_ask cX10_ask 5 (some .int)) (rmo 5 131) [.ref (a 0), .int x1, .int x2] u (fun (r : Int32) (u' : St) => (CI a u') ∧ (KT u u')) := by
  refine Mi.of (own := RX10) rfl (by decide) (Nat.le_of_ble_eq_true rfl) ?_
  have hT : KT u u := KT.rf
  intro p e s m below meth c A Q ls C hret hO hl
  obtain ⟨hx, hb, hml, hown, ht, hK, hA⟩ := id C
  have hl : lv_has ls 5 [(0, .ref (a 0)), (1, .int x1), (2, .int x2)] := hl
  refine lv_aload_n hx hb dX10_ask_0 rfl (lv_at hl 0 rfl) ?_
  refine gf_RX10_76 (v := .ref (a 39)) C hO 0 cW_0 rfl dX10_ask_1 ?_
  refine lv_aload_n hx hb dX10_ask_4 rfl (lv_at hl 0 rfl) ?_
  refine gf_RX10_37 (v := .ref (a 28)) C hO 0 cW_0 rfl dX10_ask_5 ?_
  refine gf_RX10_101 (v := .ref (a 3)) C hO 28 cW_28 (congrArg (fun z : Nat => some (Value.ref z)) (CI_R0 hJ)) dX10_ask_8 ?_
  refine lv_iload_n hx hb dX10_ask_11 rfl (lv_at hl 2 rfl) ?_
  refine cVi (w := cW cy a) (As := [.ref (a 3), .int x2]) (rest := []) C hO (T_X3_fitting l D cy a _ (by exact hJ) (x2)) (cwV 2 ht (gV wd_1267 wd_1268 wd_1269 wd_120 wd_1270) rfl rfl rfl hd_yX3_fitting ⟨Nat.le_of_ble_eq_true rfl, Nat.le_of_ble_eq_true rfl⟩) 39 rfl cW_39 rfl rfl hl.1 (Nat.le_of_ble_eq_true rfl) dX10_ask_12 rfl ⟨Nat.zero_le _, Nat.zero_le _⟩ (fun r1 u2 H locs hp3 hO => ?_)
  obtain ⟨hJ, hTu2⟩ := hp3
  have hT : KT u u2 := KT.tr (by exact hT) hTu2
  refine lv_istore_n (lv' := [(3, .int r1), (0, .ref (a 0)), (1, .int x1), (2, .int x2)]) hx hb dX10_ask_15 rfl hl (by decide) rfl (fun ls hl => ?_)
  refine lv_iload_n hx hb dX10_ask_16 rfl (lv_at hl 0 rfl) ?_
  refine bs_eq (tgt := 42) (X := (r1).toInt) hx hb dX10_ask_17 (by decide) rfl (fun c4 => ?_) (fun c4 => ?_)
  · refine lv_iconst (v := (-1)) hx hb dX10_ask_42 (by decide) ?_
    refine hret _ _ _ _ _ _ dX10_ask_43 rfl ?_ hO
    exact ⟨hJ, hT⟩
  · refine lv_aload_n hx hb dX10_ask_20 rfl (lv_at hl 1 rfl) ?_
    refine gf_RX10_37 (v := .ref (a 28)) C hO 0 cW_0 rfl dX10_ask_21 ?_
    refine gf_RX10_101 (v := .ref (a 3)) C hO 28 cW_28 (congrArg (fun z : Nat => some (Value.ref z)) (CI_R0 hJ)) dX10_ask_24 ?_
    have g5 : 0 ≤ (fI u2 3 12).toInt ∧ (fI u2 3 12).toInt ≤ 6 := by have h := CI_3_12 hJ; exact h
    refine gf_RX10_117 (v := .int (fI u2 3 12)) C hO 3 cW_3 rfl dX10_ask_27 ?_
    refine bs_eq (tgt := 42) (X := ((fI u2 3 12)).toInt) hx hb dX10_ask_30 (by decide) rfl (fun c6 => ?_) (fun c6 => ?_)
    · refine lv_iconst (v := (-1)) hx hb dX10_ask_42 (by decide) ?_
      refine hret _ _ _ _ _ _ dX10_ask_43 rfl ?_ hO
      exact ⟨hJ, hT⟩
    · refine lv_iload_n hx hb dX10_ask_33 rfl (lv_at hl 2 rfl) ?_
      refine bs_lt (tgt := 42) (X := (x1).toInt) hx hb dX10_ask_34 (by decide) rfl (fun c7 => ?_) (fun c7 => ?_)
      · refine lv_iconst (v := (-1)) hx hb dX10_ask_42 (by decide) ?_
        refine hret _ _ _ _ _ _ dX10_ask_43 rfl ?_ hO
        exact ⟨hJ, hT⟩
      · refine lv_iload_n hx hb dX10_ask_37 rfl (lv_at hl 2 rfl) ?_
        refine lv_iconst (v := 1) hx hb dX10_ask_38 (by decide) ?_
        refine cs_le (tgt := 44) (X := (x1).toInt) (Y := 1) hx hb dX10_ask_39 (by decide) rfl rfl (fun c8 => ?_) (fun c8 => ?_)
        · refine lv_aload_n hx hb dX10_ask_44 rfl (lv_at hl 1 rfl) ?_
          refine gf_RX10_76 (v := .ref (a 39)) C hO 0 cW_0 rfl dX10_ask_45 ?_
          refine lv_aload_n hx hb dX10_ask_48 rfl (lv_at hl 1 rfl) ?_
          refine gf_RX10_37 (v := .ref (a 28)) C hO 0 cW_0 rfl dX10_ask_49 ?_
          refine gf_RX10_101 (v := .ref (a 3)) C hO 28 cW_28 (congrArg (fun z : Nat => some (Value.ref z)) (CI_R0 hJ)) dX10_ask_52 ?_
          refine lv_iload_n hx hb dX10_ask_55 rfl (lv_at hl 0 rfl) ?_
          refine cVi (w := cW cy a) (As := [.ref (a 3), .int r1]) (rest := []) C hO (T_X3_caseToAsk l D cy a _ (by exact hJ) (r1)) (cwV 2 ht (gV wd_1303 wd_1304 wd_1305 wd_120 wd_1306) rfl rfl rfl hd_yX3_caseToAsk ⟨Nat.le_of_ble_eq_true rfl, Nat.le_of_ble_eq_true rfl⟩) 39 rfl cW_39 rfl rfl hl.1 (Nat.le_of_ble_eq_true rfl) dX10_ask_56 rfl ⟨Nat.zero_le _, Nat.zero_le _⟩ (fun r9 u10 H locs hp11 hO => ?_)
          obtain ⟨hr9, hJ, hTu10⟩ := hp11
          have hT : KT u u10 := KT.tr (by exact hT) hTu10
          refine lv_istore (lv' := [(4, .int r9), (3, .int r1), (0, .ref (a 0)), (1, .int x1), (2, .int x2)]) hx hb dX10_ask_59 hl (by decide) rfl (fun ls hl => ?_)
          refine lv_iload_n hx hb dX10_ask_61 rfl (lv_at hl 3 rfl) ?_
          refine bs_ne (tgt := 70) (X := (x1).toInt) hx hb dX10_ask_62 (by decide) rfl (fun c12 => ?_) (fun c12 => ?_)
          · refine lv_aload_n hx hb dX10_ask_70 rfl (lv_at hl 2 rfl) ?_
            refine gf_RX10_76 (v := .ref (a 39)) C hO 0 cW_0 rfl dX10_ask_71 ?_
            refine lv_aload_n hx hb dX10_ask_74 rfl (lv_at hl 2 rfl) ?_
            refine gf_RX10_37 (v := .ref (a 28)) C hO 0 cW_0 rfl dX10_ask_75 ?_
            refine gf_RX10_101 (v := .ref (a 3)) C hO 28 cW_28 (congrArg (fun z : Nat => some (Value.ref z)) (CI_R0 hJ)) dX10_ask_78 ?_
            refine lv_iload hx hb dX10_ask_81 (lv_at hl 0 rfl) ?_
            refine lv_iload_n hx hb dX10_ask_83 rfl (lv_at hl 1 rfl) ?_
            refine cVi (w := cW cy a) (As := [.ref (a 3), .int r9, .int r1]) (rest := []) C hO (T_X3_mostLeft l D cy a _ (by exact hJ) (r9) (r1) (by first | omega | decide)) (cwV 3 ht (gV wd_1312 wd_1308 wd_1309 wd_120 wd_1310) rfl rfl rfl hd_yX3_mostLeft ⟨Nat.le_of_ble_eq_true rfl, Nat.le_of_ble_eq_true rfl⟩) 39 rfl cW_39 rfl rfl hl.1 (Nat.le_of_ble_eq_true rfl) dX10_ask_84 rfl ⟨Nat.zero_le _, Nat.zero_le _⟩ (fun r13 u14 H locs hp15 hO => ?_)
            obtain ⟨hJ, hTu14⟩ := hp15
            have hT : KT u u14 := KT.tr (by exact hT) hTu14
            refine hret _ _ _ _ _ _ dX10_ask_87 rfl ?_ hO
            exact ⟨hJ, hT⟩
          · refine lv_iload hx hb dX10_ask_65 (lv_at hl 0 rfl) ?_
            refine lv_goto (tgt := 87) hx hb dX10_ask_67 (by decide) ?_
            refine hret _ _ _ _ _ _ dX10_ask_87 rfl ?_ hO
            exact ⟨hJ, hT⟩
        · refine lv_iconst (v := (-1)) hx hb dX10_ask_42 (by decide) ?_
          refine hret _ _ _ _ _ _ dX10_ask_43 rfl ?_ hO
          exact ⟨hJ, hT⟩
theorem dX10_image_0 : decode cX10_image 0 = .ok (.iload_n 1, 1) := by decide +kernel
theorem dX10_image_1 : decode cX10_image 1 = .ok (.ifCond .lt 8, 3) := by decide +kernel
theorem dX10_image_4 : decode cX10_image 4 = .ok (.iload_n 1, 1) := by decide +kernel
theorem dX10_image_5 : decode cX10_image 5 = .ok (.iconst 3, 1) := by decide +kernel
theorem dX10_image_6 : decode cX10_image 6 = .ok (.if_icmp .lt 5, 3) := by decide +kernel
theorem dX10_image_9 : decode cX10_image 9 = .ok (.iconst (-1), 1) := by decide +kernel
theorem dX10_image_10 : decode cX10_image 10 = .ok (.ireturn, 1) := by decide +kernel
theorem dX10_image_11 : decode cX10_image 11 = .ok (.aload_n 0, 1) := by decide +kernel
theorem dX10_image_12 : decode cX10_image 12 = .ok (.getfield 37, 3) := by decide +kernel
theorem dX10_image_15 : decode cX10_image 15 = .ok (.getfield 150, 3) := by decide +kernel
theorem dX10_image_18 : decode cX10_image 18 = .ok (.aload_n 0, 1) := by decide +kernel
theorem dX10_image_19 : decode cX10_image 19 = .ok (.getfield 82, 3) := by decide +kernel
theorem dX10_image_22 : decode cX10_image 22 = .ok (.iload_n 1, 1) := by decide +kernel
theorem dX10_image_23 : decode cX10_image 23 = .ok (.aaload, 1) := by decide +kernel
theorem dX10_image_24 : decode cX10_image 24 = .ok (.invokestatic 334, 3) := by decide +kernel
theorem dX10_image_27 : decode cX10_image 27 = .ok (.aload_n 0, 1) := by decide +kernel
theorem dX10_image_28 : decode cX10_image 28 = .ok (.dup, 1) := by decide +kernel
theorem dX10_image_29 : decode cX10_image 29 = .ok (.getfield 114, 3) := by decide +kernel
theorem dX10_image_32 : decode cX10_image 32 = .ok (.iconst 1, 1) := by decide +kernel
theorem dX10_image_33 : decode cX10_image 33 = .ok (.iload_n 1, 1) := by decide +kernel
theorem dX10_image_34 : decode cX10_image 34 = .ok (.ishl, 1) := by decide +kernel
theorem dX10_image_35 : decode cX10_image 35 = .ok (.ior, 1) := by decide +kernel
theorem dX10_image_36 : decode cX10_image 36 = .ok (.putfield 114, 3) := by decide +kernel
theorem dX10_image_39 : decode cX10_image 39 = .ok (.aload_n 0, 1) := by decide +kernel
theorem dX10_image_40 : decode cX10_image 40 = .ok (.getfield 37, 3) := by decide +kernel
theorem dX10_image_43 : decode cX10_image 43 = .ok (.getfield 150, 3) := by decide +kernel
theorem dX10_image_46 : decode cX10_image 46 = .ok (.iconst 1, 1) := by decide +kernel
theorem dX10_image_47 : decode cX10_image 47 = .ok (.iaload, 1) := by decide +kernel
theorem dX10_image_48 : decode cX10_image 48 = .ok (.ireturn, 1) := by decide +kernel
theorem wd_1316 : (Cond.code ⟨"WebCourt", "image", "(I)I"⟩ prog_1_method_50_code (2 : Nat) (Option.some FieldType.int)) ∈ gtb := gtb_c6 7 (by decide +kernel) rfl
theorem wd_476 : (Cond.fieldLink "WebCourt" (82 : Nat) "WebCourt" "boxes" "[[I") ∈ gtb := gtb_c2 127 (by decide +kernel) rfl
theorem gf_RX10_82 {p : Program} {l : Launch} {e : Env} {R : Room} {s : State} {m : MethodId} {args : Array Value} {below : List Frame} {meth : Method} {c : Code} {H : Heap} {locs : List Loc} {cells slots : Nat} {Q : State → Prop} {cc : ByteArray} {pc nL : Nat} {ls : Array Slot} {rest : List Value} {D : va_G} {cy : Nat → ClassId} {A : Nat → Prop} {ws : va_W} {b : Nat} {fs : List Value} {v : Value} (C : Cx p s m args c cc nL RX10 D cy A) (hO : Wo D A ws s.heap H locs) (q0 : Nat) (he : ws[q0]? = some (b, .inr (10, fs))) (hv : fs[8]? = some v) (hdg : decode cc pc = .ok (.getfield 82, 3)) (kk : W p l e R s m args below meth c H locs cells slots Q (F0 m (pc + 3) ls (v :: rest))) : W p l e R s m args below meth c H locs cells slots Q (F0 m pc ls (.ref b :: rest)) := gF (k := 8) C hO q0 he rfl inFX10 (by decide) wd_476 rfl hv hdg kk
theorem wd_1317 : (Cond.methodLink "WebCourt" (334 : Nat) ⟨"WebCourt", "copyRow", "([I[I)V"⟩) ∈ gtb := gtb_c6 8 (by decide +kernel) rfl
theorem wd_479 : (Cond.fieldLink "WebCourt" (114 : Nat) "WebCourt" "boxesKept" "I") ∈ gtb := gtb_c2 130 (by decide +kernel) rfl
theorem gf_RX10_114 {p : Program} {l : Launch} {e : Env} {R : Room} {s : State} {m : MethodId} {args : Array Value} {below : List Frame} {meth : Method} {c : Code} {H : Heap} {locs : List Loc} {cells slots : Nat} {Q : State → Prop} {cc : ByteArray} {pc nL : Nat} {ls : Array Slot} {rest : List Value} {D : va_G} {cy : Nat → ClassId} {A : Nat → Prop} {ws : va_W} {b : Nat} {fs : List Value} {v : Value} (C : Cx p s m args c cc nL RX10 D cy A) (hO : Wo D A ws s.heap H locs) (q0 : Nat) (he : ws[q0]? = some (b, .inr (10, fs))) (hv : fs[11]? = some v) (hdg : decode cc pc = .ok (.getfield 114, 3)) (kk : W p l e R s m args below meth c H locs cells slots Q (F0 m (pc + 3) ls (v :: rest))) : W p l e R s m args below meth c H locs cells slots Q (F0 m pc ls (.ref b :: rest)) := gF (k := 11) C hO q0 he rfl inFX10 (by decide) wd_479 rfl hv hdg kk
theorem pf_RX10_114 {p : Program} {l : Launch} {e : Env} {R : Room} {s : State} {m : MethodId} {args : Array Value} {below : List Frame} {meth : Method} {c : Code} {H : Heap} {locs : List Loc} {cells slots : Nat} {Q : State → Prop} {cc : ByteArray} {pc nL : Nat} {ls : Array Slot} {rest : List Value} {D : va_G} {cy : Nat → ClassId} {A : Nat → Prop} {ws : va_W} {b : Nat} {fs : List Value} {v : Int32} {ws' : va_W} (C : Cx p s m args c cc nL RX10 D cy A) (hO : Wo D A ws s.heap H locs) (q0 : Nat) (he : ws[q0]? = some (b, .inr (10, fs))) (hlen : 11 < fs.length) (hw : ws.set q0 (b, .inr (10, fs.set 11 (.int v))) = ws') (hdg : decode cc pc = .ok (.putfield 114, 3)) (kk : ∀ (H : Heap) (locs : List Loc), Wo D A ws' s.heap H locs → W p l e R s m args below meth c H locs cells slots Q (F0 m (pc + 3) ls rest)) : W p l e R s m args below meth c H locs cells slots Q (F0 m pc ls (.int v :: .ref b :: rest)) := pF (k := 11) (ty := .int) C hO q0 he rfl inFX10 (by decide) wd_479 rfl tyX10 tyX10_ok nmX10 rfl (by decide +kernel) rfl rfl hlen hw hdg kk
set_option maxHeartbeats 4000000 in
set_option maxRecDepth 100000 in
theorem T_X10_image (l : Launch) (D : va_G) (cy : Nat → ClassId) (a : Nat → Nat) (u : St) (hJ : CI a u) (x1 : Int32)  : Mi l D cy (cW cy a) yX10_image (.code yX10_image cX10_image 2 (some .int)) (rmo 1 22) [.ref (a 0), .int x1] u (fun (r : Int32) (u' : St) => (CI a u') ∧ (KT u u')) := by
  refine Mi.of (own := RX10) rfl (by decide) (Nat.le_of_ble_eq_true rfl) ?_
  have hT : KT u u := KT.rf
  intro p e s m below meth c A Q ls C hret hO hl
  obtain ⟨hx, hb, hml, hown, ht, hK, hA⟩ := id C
  have hl : lv_has ls 2 [(0, .ref (a 0)), (1, .int x1)] := hl
  refine lv_iload_n hx hb dX10_image_0 rfl (lv_at hl 1 rfl) ?_
  refine bs_lt (tgt := 9) (X := (x1).toInt) hx hb dX10_image_1 (by decide) rfl (fun c1 => ?_) (fun c1 => ?_)
  · refine lv_iconst (v := (-1)) hx hb dX10_image_9 (by decide) ?_
    refine hret _ _ _ _ _ _ dX10_image_10 rfl ?_ hO
    exact ⟨hJ, hT⟩
  · refine lv_iload_n hx hb dX10_image_4 rfl (lv_at hl 1 rfl) ?_
    refine lv_iconst (v := 3) hx hb dX10_image_5 (by decide) ?_
    refine cs_lt (tgt := 11) (X := (x1).toInt) (Y := 3) hx hb dX10_image_6 (by decide) rfl rfl (fun c2 => ?_) (fun c2 => ?_)
    · refine lv_aload_n hx hb dX10_image_11 rfl (lv_at hl 0 rfl) ?_
      refine gf_RX10_37 (v := .ref (a 28)) C hO 0 cW_0 rfl dX10_image_12 ?_
      refine gf_RX10_150 (v := .ref (a 29)) C hO 28 cW_28 rfl dX10_image_15 ?_
      refine lv_aload_n hx hb dX10_image_18 rfl (lv_at hl 0 rfl) ?_
      refine gf_RX10_82 (v := .ref (a 45)) C hO 0 cW_0 rfl dX10_image_19 ?_
      refine lv_iload_n hx hb dX10_image_22 rfl (lv_at hl 1 rfl) ?_
      refine aII C hO 45 cW_45 (i_in (X := (x1).toInt) rfl (by omega) (by omega)) dX10_image_23 ?_
      obtain ⟨k3, hk3⟩ : ∃ k : Nat, k = x1.toNatClampNeg := ⟨_, rfl⟩
      have lk3 : k3 < 3 := by rw [hk3]; exact i_clt (X := (x1).toInt) rfl (by omega) (by omega)
      refine tEv (y := .ref (a (47 + (41 + k3)))) (by rw [← hk3]; simp only [if_pos lk3, va_rf]; rw [show 88 + k3 = 47 + (41 + k3) by omega]) ?_
      have rk3 : (41 + k3) < 44 := by omega
      refine cSv (w := cW cy a) (As := [.ref (a 29), .ref (a (47 + (41 + k3)))]) (rest := []) C hO (T_X10_copyRow_out l D cy a _ (by exact hJ) (41 + k3) rk3) (va_cwS 2 ht (gSS wd_1317 wd_911 wd_110 wd_912) rfl rfl rfl hd_yX10_copyRow ⟨Nat.le_of_ble_eq_true rfl, Nat.le_of_ble_eq_true rfl⟩)  rfl hl.1 (Nat.le_of_ble_eq_true rfl) dX10_image_24 rfl ⟨Nat.zero_le _, Nat.zero_le _⟩ (fun u5 H locs hp6 hO => ?_)
      have g7 : 0 ≤ (fI u 30 1).toInt ∧ (fI u 30 1).toInt ≤ 40 := by have h := CI_30_1 hJ; exact h
      have g8 : 0 ≤ (fI u 30 2).toInt ∧ (fI u 30 2).toInt ≤ 40 := by have h := CI_30_2 hJ; exact h
      have g9 : 0 ≤ (fI u 30 3).toInt ∧ (fI u 30 3).toInt ≤ 40 := by have h := CI_30_3 hJ; exact h
      obtain ⟨hJ, hTu5⟩ := hp6
      have hT : KT u u5 := KT.tr (by exact hT) hTu5.1
      have hI_30_1_u5 : fI u5 30 1 = (fI u 30 1) := hTu5.2.1
      have hI_30_2_u5 : fI u5 30 2 = (fI u 30 2) := hTu5.2.2.1
      have hI_30_3_u5 : fI u5 30 3 = (fI u 30 3) := hTu5.2.2.2
      refine lv_aload_n hx hb dX10_image_27 rfl (lv_at hl 0 rfl) ?_
      refine lv_dup hx hb dX10_image_28 rfl ?_
      refine gf_RX10_114 (v := .int (fI u5 0 11)) C hO 0 cW_0 rfl dX10_image_29 ?_
      refine lv_iconst (v := 1) hx hb dX10_image_32 (by decide) ?_
      refine lv_iload_n hx hb dX10_image_33 rfl (lv_at hl 1 rfl) ?_
      refine lv_ishl hx hb dX10_image_34 ?_
      refine lv_topi (fun z10 ez10 => ?_)
      have g11 : 0 ≤ z10.toInt ∧ z10.toInt ≤ 2 ^ 2 := by rw [ez10]; exact i_shl1 rfl (by omega) (by omega) (by decide)
      refine lv_ior hx hb dX10_image_35 ?_
      refine lv_topi (fun z12 ez12 => ?_)
      refine pf_RX10_114 C hO 0 cW_0 (Nat.le_of_ble_eq_true rfl) cW_s0_11 dX10_image_36 (fun H locs hO => ?_)
      have hJ := CIs_0_11 (v := z12) hJ
      refine lv_aload_n hx hb dX10_image_39 rfl (lv_at hl 0 rfl) ?_
      refine gf_RX10_37 (v := .ref (a 28)) C hO 0 cW_0 rfl dX10_image_40 ?_
      refine gf_RX10_150 (v := .ref (a 29)) C hO 28 cW_28 rfl dX10_image_43 ?_
      refine lv_iconst (v := 1) hx hb dX10_image_46 (by decide) ?_
      refine aI C hO 29 cW_29 (i_in (X := 1) rfl (by omega) (by omega)) dX10_image_47 ?_
      refine lv_topi (fun w13 ew13 => ?_)
      refine hret _ _ _ _ _ _ dX10_image_48 rfl ?_ hO
      exact ⟨hJ, hT⟩
    · refine lv_iconst (v := (-1)) hx hb dX10_image_9 (by decide) ?_
      refine hret _ _ _ _ _ _ dX10_image_10 rfl ?_ hO
      exact ⟨hJ, hT⟩
theorem dX10_restore_0 : decode cX10_restore 0 = .ok (.iload_n 1, 1) := by decide +kernel
theorem dX10_restore_1 : decode cX10_restore 1 = .ok (.ifCond .lt 19, 3) := by decide +kernel
theorem dX10_restore_4 : decode cX10_restore 4 = .ok (.iload_n 1, 1) := by decide +kernel
theorem dX10_restore_5 : decode cX10_restore 5 = .ok (.iconst 3, 1) := by decide +kernel
theorem dX10_restore_6 : decode cX10_restore 6 = .ok (.if_icmp .ge 14, 3) := by decide +kernel
theorem dX10_restore_9 : decode cX10_restore 9 = .ok (.aload_n 0, 1) := by decide +kernel
theorem dX10_restore_10 : decode cX10_restore 10 = .ok (.getfield 114, 3) := by decide +kernel
theorem dX10_restore_13 : decode cX10_restore 13 = .ok (.iload_n 1, 1) := by decide +kernel
theorem dX10_restore_14 : decode cX10_restore 14 = .ok (.ishr, 1) := by decide +kernel
theorem dX10_restore_15 : decode cX10_restore 15 = .ok (.iconst 1, 1) := by decide +kernel
theorem dX10_restore_16 : decode cX10_restore 16 = .ok (.iand, 1) := by decide +kernel
theorem dX10_restore_17 : decode cX10_restore 17 = .ok (.ifCond .ne 5, 3) := by decide +kernel
theorem dX10_restore_20 : decode cX10_restore 20 = .ok (.iconst (-1), 1) := by decide +kernel
theorem dX10_restore_21 : decode cX10_restore 21 = .ok (.ireturn, 1) := by decide +kernel
theorem dX10_restore_22 : decode cX10_restore 22 = .ok (.aload_n 0, 1) := by decide +kernel
theorem dX10_restore_23 : decode cX10_restore 23 = .ok (.getfield 82, 3) := by decide +kernel
theorem dX10_restore_26 : decode cX10_restore 26 = .ok (.iload_n 1, 1) := by decide +kernel
theorem dX10_restore_27 : decode cX10_restore 27 = .ok (.aaload, 1) := by decide +kernel
theorem dX10_restore_28 : decode cX10_restore 28 = .ok (.aload_n 0, 1) := by decide +kernel
theorem dX10_restore_29 : decode cX10_restore 29 = .ok (.getfield 37, 3) := by decide +kernel
theorem dX10_restore_32 : decode cX10_restore 32 = .ok (.getfield 150, 3) := by decide +kernel
theorem dX10_restore_35 : decode cX10_restore 35 = .ok (.invokestatic 334, 3) := by decide +kernel
theorem dX10_restore_38 : decode cX10_restore 38 = .ok (.aload_n 0, 1) := by decide +kernel
theorem dX10_restore_39 : decode cX10_restore 39 = .ok (.getfield 44, 3) := by decide +kernel
theorem dX10_restore_42 : decode cX10_restore 42 = .ok (.invokevirtual 107, 3) := by decide +kernel
theorem dX10_restore_45 : decode cX10_restore 45 = .ok (.aload_n 0, 1) := by decide +kernel
theorem dX10_restore_46 : decode cX10_restore 46 = .ok (.getfield 37, 3) := by decide +kernel
theorem dX10_restore_49 : decode cX10_restore 49 = .ok (.getfield 150, 3) := by decide +kernel
theorem dX10_restore_52 : decode cX10_restore 52 = .ok (.iconst 1, 1) := by decide +kernel
theorem dX10_restore_53 : decode cX10_restore 53 = .ok (.iaload, 1) := by decide +kernel
theorem dX10_restore_54 : decode cX10_restore 54 = .ok (.ireturn, 1) := by decide +kernel
theorem wd_1321 : (Cond.code ⟨"WebCourt", "restore", "(I)I"⟩ prog_1_method_51_code (2 : Nat) (Option.some FieldType.int)) ∈ gtb := gtb_c6 12 (by decide +kernel) rfl
theorem wd_801 : (Cond.methodLink "WebCourt" (107 : Nat) ⟨"WebCourt$Acts", "clear", "()V"⟩) ∈ gtb := gtb_c3 212 (by decide +kernel) rfl
theorem wd_802 : (Cond.instanceMethod ⟨"WebCourt$Acts", "clear", "()V"⟩) ∈ gtb := gtb_c3 213 (by decide +kernel) rfl
theorem wd_803 : (Cond.selects "WebCourt$Acts" ⟨"WebCourt$Acts", "clear", "()V"⟩ ⟨"WebCourt$Acts", "clear", "()V"⟩) ∈ gtb := gtb_c3 214 (by decide +kernel) rfl
theorem hd_yX0_clear : yX0_clear.cls = RX0 ∧ yX0_clear.cls ≠ "java/lang/invoke/MethodHandle" ∧ yX0_clear.cls ≠ "java/lang/invoke/VarHandle" ∧ (parseMethodDescriptor yX0_clear.desc).map (fun d => d.parameters.length) = some 0 := by decide +kernel
set_option maxHeartbeats 4000000 in
set_option maxRecDepth 100000 in
theorem T_X10_restore (l : Launch) (D : va_G) (cy : Nat → ClassId) (a : Nat → Nat) (u : St) (hJ : CI a u) (x1 : Int32)  : Mi l D cy (cW cy a) yX10_restore (.code yX10_restore cX10_restore 2 (some .int)) (rmo 1 22) [.ref (a 0), .int x1] u (fun (r : Int32) (u' : St) => (CI a u') ∧ (KT u u')) := by
  refine Mi.of (own := RX10) rfl (by decide) (Nat.le_of_ble_eq_true rfl) ?_
  have hT : KT u u := KT.rf
  intro p e s m below meth c A Q ls C hret hO hl
  obtain ⟨hx, hb, hml, hown, ht, hK, hA⟩ := id C
  have hl : lv_has ls 2 [(0, .ref (a 0)), (1, .int x1)] := hl
  refine lv_iload_n hx hb dX10_restore_0 rfl (lv_at hl 1 rfl) ?_
  refine bs_lt (tgt := 20) (X := (x1).toInt) hx hb dX10_restore_1 (by decide) rfl (fun c1 => ?_) (fun c1 => ?_)
  · refine lv_iconst (v := (-1)) hx hb dX10_restore_20 (by decide) ?_
    refine hret _ _ _ _ _ _ dX10_restore_21 rfl ?_ hO
    exact ⟨hJ, hT⟩
  · refine lv_iload_n hx hb dX10_restore_4 rfl (lv_at hl 1 rfl) ?_
    refine lv_iconst (v := 3) hx hb dX10_restore_5 (by decide) ?_
    refine cs_ge (tgt := 20) (X := (x1).toInt) (Y := 3) hx hb dX10_restore_6 (by decide) rfl rfl (fun c2 => ?_) (fun c2 => ?_)
    · refine lv_iconst (v := (-1)) hx hb dX10_restore_20 (by decide) ?_
      refine hret _ _ _ _ _ _ dX10_restore_21 rfl ?_ hO
      exact ⟨hJ, hT⟩
    · refine lv_aload_n hx hb dX10_restore_9 rfl (lv_at hl 0 rfl) ?_
      refine gf_RX10_114 (v := .int (fI u 0 11)) C hO 0 cW_0 rfl dX10_restore_10 ?_
      refine lv_iload_n hx hb dX10_restore_13 rfl (lv_at hl 1 rfl) ?_
      refine lv_ishr hx hb dX10_restore_14 ?_
      refine lv_topi (fun z3 ez3 => ?_)
      refine lv_iconst (v := 1) hx hb dX10_restore_15 (by decide) ?_
      refine lv_iand hx hb dX10_restore_16 ?_
      refine lv_topi (fun z4 ez4 => ?_)
      have g5 : 0 ≤ z4.toInt ∧ z4.toInt ≤ 1 := by rw [ez4]; exact i_andr rfl (by omega)
      refine bs_ne (tgt := 22) (X := (z4).toInt) hx hb dX10_restore_17 (by decide) rfl (fun c6 => ?_) (fun c6 => ?_)
      · refine lv_aload_n hx hb dX10_restore_22 rfl (lv_at hl 0 rfl) ?_
        refine gf_RX10_82 (v := .ref (a 45)) C hO 0 cW_0 rfl dX10_restore_23 ?_
        refine lv_iload_n hx hb dX10_restore_26 rfl (lv_at hl 1 rfl) ?_
        refine aII C hO 45 cW_45 (i_in (X := (x1).toInt) rfl (by omega) (by omega)) dX10_restore_27 ?_
        obtain ⟨k7, hk7⟩ : ∃ k : Nat, k = x1.toNatClampNeg := ⟨_, rfl⟩
        have lk7 : k7 < 3 := by rw [hk7]; exact i_clt (X := (x1).toInt) rfl (by omega) (by omega)
        refine tEv (y := .ref (a (47 + (41 + k7)))) (by rw [← hk7]; simp only [if_pos lk7, va_rf]; rw [show 88 + k7 = 47 + (41 + k7) by omega]) ?_
        have rk7 : (41 + k7) < 44 := by omega
        refine lv_aload_n hx hb dX10_restore_28 rfl (lv_at hl 0 rfl) ?_
        refine gf_RX10_37 (v := .ref (a 28)) C hO 0 cW_0 rfl dX10_restore_29 ?_
        refine gf_RX10_150 (v := .ref (a 29)) C hO 28 cW_28 rfl dX10_restore_32 ?_
        refine cSv (w := cW cy a) (As := [.ref (a (47 + (41 + k7))), .ref (a 29)]) (rest := []) C hO (T_X10_copyRow_in l D cy a _ (by exact hJ) (41 + k7) rk7) (va_cwS 2 ht (gSS wd_1317 wd_911 wd_110 wd_912) rfl rfl rfl hd_yX10_copyRow ⟨Nat.le_of_ble_eq_true rfl, Nat.le_of_ble_eq_true rfl⟩)  rfl hl.1 (Nat.le_of_ble_eq_true rfl) dX10_restore_35 rfl ⟨Nat.zero_le _, Nat.zero_le _⟩ (fun u9 H locs hp10 hO => ?_)
        have g11 : 0 ≤ (fI u 30 1).toInt ∧ (fI u 30 1).toInt ≤ 40 := by have h := CI_30_1 hJ; exact h
        have g12 : 0 ≤ (fI u 30 2).toInt ∧ (fI u 30 2).toInt ≤ 40 := by have h := CI_30_2 hJ; exact h
        have g13 : 0 ≤ (fI u 30 3).toInt ∧ (fI u 30 3).toInt ≤ 40 := by have h := CI_30_3 hJ; exact h
        obtain ⟨hJ, hTu9⟩ := hp10
        have hT : KT u u9 := KT.tr (by exact hT) hTu9.1
        have hI_30_1_u9 : fI u9 30 1 = (fI u 30 1) := hTu9.2.1
        have hI_30_2_u9 : fI u9 30 2 = (fI u 30 2) := hTu9.2.2.1
        have hI_30_3_u9 : fI u9 30 3 = (fI u 30 3) := hTu9.2.2.2
        refine lv_aload_n hx hb dX10_restore_38 rfl (lv_at hl 0 rfl) ?_
        refine gf_RX10_44 (v := .ref (a 30)) C hO 0 cW_0 rfl dX10_restore_39 ?_
        refine cVv (w := cW cy a) (As := []) (rest := []) C hO (T_X0_clear l D cy a _ (by exact hJ)) (cwV 0 ht (gV wd_801 wd_802 wd_803 wd_116 wd_804) rfl rfl rfl hd_yX0_clear ⟨Nat.le_of_ble_eq_true rfl, Nat.le_of_ble_eq_true rfl⟩) 30 rfl cW_30 rfl rfl hl.1 (Nat.le_of_ble_eq_true rfl) dX10_restore_42 rfl ⟨Nat.zero_le _, Nat.zero_le _⟩ (fun u15 H locs hp16 hO => ?_)
        obtain ⟨hJ, hTu15⟩ := hp16
        have hT : KT u u15 := KT.tr (by exact hT) hTu15
        refine lv_aload_n hx hb dX10_restore_45 rfl (lv_at hl 0 rfl) ?_
        refine gf_RX10_37 (v := .ref (a 28)) C hO 0 cW_0 rfl dX10_restore_46 ?_
        refine gf_RX10_150 (v := .ref (a 29)) C hO 28 cW_28 rfl dX10_restore_49 ?_
        refine lv_iconst (v := 1) hx hb dX10_restore_52 (by decide) ?_
        refine aI C hO 29 cW_29 (i_in (X := 1) rfl (by omega) (by omega)) dX10_restore_53 ?_
        refine lv_topi (fun w17 ew17 => ?_)
        refine hret _ _ _ _ _ _ dX10_restore_54 rfl ?_ hO
        exact ⟨hJ, hT⟩
      · refine lv_iconst (v := (-1)) hx hb dX10_restore_20 (by decide) ?_
        refine hret _ _ _ _ _ _ dX10_restore_21 rfl ?_ hO
        exact ⟨hJ, hT⟩
theorem dX10_aboutRest_0 : decode cX10_aboutRest 0 = .ok (.iload_n 1, 1) := by decide +kernel
theorem dX10_aboutRest_1 : decode cX10_aboutRest 1 = .ok (.tableswitch 102 8 14 #[43, 51, 59, 67, 75, 83, 97], 43) := by decide +kernel
theorem dX10_aboutRest_44 : decode cX10_aboutRest 44 = .ok (.aload_n 0, 1) := by decide +kernel
theorem dX10_aboutRest_45 : decode cX10_aboutRest 45 = .ok (.getfield 44, 3) := by decide +kernel
theorem dX10_aboutRest_48 : decode cX10_aboutRest 48 = .ok (.getfield 344, 3) := by decide +kernel
theorem dX10_aboutRest_51 : decode cX10_aboutRest 51 = .ok (.ireturn, 1) := by decide +kernel
theorem dX10_aboutRest_52 : decode cX10_aboutRest 52 = .ok (.aload_n 0, 1) := by decide +kernel
theorem dX10_aboutRest_53 : decode cX10_aboutRest 53 = .ok (.getfield 44, 3) := by decide +kernel
theorem dX10_aboutRest_56 : decode cX10_aboutRest 56 = .ok (.getfield 347, 3) := by decide +kernel
theorem dX10_aboutRest_59 : decode cX10_aboutRest 59 = .ok (.ireturn, 1) := by decide +kernel
theorem dX10_aboutRest_60 : decode cX10_aboutRest 60 = .ok (.aload_n 0, 1) := by decide +kernel
theorem dX10_aboutRest_61 : decode cX10_aboutRest 61 = .ok (.getfield 76, 3) := by decide +kernel
theorem dX10_aboutRest_64 : decode cX10_aboutRest 64 = .ok (.getfield 350, 3) := by decide +kernel
theorem dX10_aboutRest_67 : decode cX10_aboutRest 67 = .ok (.ireturn, 1) := by decide +kernel
theorem dX10_aboutRest_68 : decode cX10_aboutRest 68 = .ok (.aload_n 0, 1) := by decide +kernel
theorem dX10_aboutRest_69 : decode cX10_aboutRest 69 = .ok (.getfield 76, 3) := by decide +kernel
theorem dX10_aboutRest_72 : decode cX10_aboutRest 72 = .ok (.getfield 353, 3) := by decide +kernel
theorem dX10_aboutRest_75 : decode cX10_aboutRest 75 = .ok (.ireturn, 1) := by decide +kernel
theorem dX10_aboutRest_76 : decode cX10_aboutRest 76 = .ok (.aload_n 0, 1) := by decide +kernel
theorem dX10_aboutRest_77 : decode cX10_aboutRest 77 = .ok (.getfield 12, 3) := by decide +kernel
theorem dX10_aboutRest_80 : decode cX10_aboutRest 80 = .ok (.getfield 89, 3) := by decide +kernel
theorem dX10_aboutRest_83 : decode cX10_aboutRest 83 = .ok (.ireturn, 1) := by decide +kernel
theorem dX10_aboutRest_84 : decode cX10_aboutRest 84 = .ok (.aload_n 0, 1) := by decide +kernel
theorem dX10_aboutRest_85 : decode cX10_aboutRest 85 = .ok (.getfield 37, 3) := by decide +kernel
theorem dX10_aboutRest_88 : decode cX10_aboutRest 88 = .ok (.getfield 101, 3) := by decide +kernel
theorem dX10_aboutRest_91 : decode cX10_aboutRest 91 = .ok (.getfield 356, 3) := by decide +kernel
theorem dX10_aboutRest_94 : decode cX10_aboutRest 94 = .ok (.getfield 360, 3) := by decide +kernel
theorem dX10_aboutRest_97 : decode cX10_aboutRest 97 = .ok (.ireturn, 1) := by decide +kernel
theorem dX10_aboutRest_98 : decode cX10_aboutRest 98 = .ok (.aload_n 0, 1) := by decide +kernel
theorem dX10_aboutRest_99 : decode cX10_aboutRest 99 = .ok (.getfield 111, 3) := by decide +kernel
theorem dX10_aboutRest_102 : decode cX10_aboutRest 102 = .ok (.ireturn, 1) := by decide +kernel
theorem dX10_aboutRest_103 : decode cX10_aboutRest 103 = .ok (.iconst (-1), 1) := by decide +kernel
theorem dX10_aboutRest_104 : decode cX10_aboutRest 104 = .ok (.ireturn, 1) := by decide +kernel
theorem wd_1329 : (Cond.code ⟨"WebCourt", "aboutRest", "(I)I"⟩ prog_1_method_53_code (2 : Nat) (Option.some FieldType.int)) ∈ gtb := gtb_c6 20 (by decide +kernel) rfl
theorem wd_379 : (Cond.fieldLink "WebCourt" (344 : Nat) "WebCourt$Acts" "done" "I") ∈ gtb := gtb_c2 30 (by decide +kernel) rfl
theorem gf_RX10_344 {p : Program} {l : Launch} {e : Env} {R : Room} {s : State} {m : MethodId} {args : Array Value} {below : List Frame} {meth : Method} {c : Code} {H : Heap} {locs : List Loc} {cells slots : Nat} {Q : State → Prop} {cc : ByteArray} {pc nL : Nat} {ls : Array Slot} {rest : List Value} {D : va_G} {cy : Nat → ClassId} {A : Nat → Prop} {ws : va_W} {b : Nat} {fs : List Value} {v : Value} (C : Cx p s m args c cc nL RX10 D cy A) (hO : Wo D A ws s.heap H locs) (q0 : Nat) (he : ws[q0]? = some (b, .inr (0, fs))) (hv : fs[2]? = some v) (hdg : decode cc pc = .ok (.getfield 344, 3)) (kk : W p l e R s m args below meth c H locs cells slots Q (F0 m (pc + 3) ls (v :: rest))) : W p l e R s m args below meth c H locs cells slots Q (F0 m pc ls (.ref b :: rest)) := gF (k := 2) C hO q0 he rfl inFX0 (by decide) wd_379 rfl hv hdg kk
theorem wd_381 : (Cond.fieldLink "WebCourt" (347 : Nat) "WebCourt$Acts" "undone" "I") ∈ gtb := gtb_c2 32 (by decide +kernel) rfl
theorem gf_RX10_347 {p : Program} {l : Launch} {e : Env} {R : Room} {s : State} {m : MethodId} {args : Array Value} {below : List Frame} {meth : Method} {c : Code} {H : Heap} {locs : List Loc} {cells slots : Nat} {Q : State → Prop} {cc : ByteArray} {pc nL : Nat} {ls : Array Slot} {rest : List Value} {D : va_G} {cy : Nat → ClassId} {A : Nat → Prop} {ws : va_W} {b : Nat} {fs : List Value} {v : Value} (C : Cx p s m args c cc nL RX10 D cy A) (hO : Wo D A ws s.heap H locs) (q0 : Nat) (he : ws[q0]? = some (b, .inr (0, fs))) (hv : fs[3]? = some v) (hdg : decode cc pc = .ok (.getfield 347, 3)) (kk : W p l e R s m args below meth c H locs cells slots Q (F0 m (pc + 3) ls (v :: rest))) : W p l e R s m args below meth c H locs cells slots Q (F0 m pc ls (.ref b :: rest)) := gF (k := 3) C hO q0 he rfl inFX0 (by decide) wd_381 rfl hv hdg kk
theorem wd_448 : (Cond.fieldLink "WebCourt" (350 : Nat) "WebCourt$Hearsay" "count" "I") ∈ gtb := gtb_c2 99 (by decide +kernel) rfl
theorem gf_RX10_350 {p : Program} {l : Launch} {e : Env} {R : Room} {s : State} {m : MethodId} {args : Array Value} {below : List Frame} {meth : Method} {c : Code} {H : Heap} {locs : List Loc} {cells slots : Nat} {Q : State → Prop} {cc : ByteArray} {pc nL : Nat} {ls : Array Slot} {rest : List Value} {D : va_G} {cy : Nat → ClassId} {A : Nat → Prop} {ws : va_W} {b : Nat} {fs : List Value} {v : Value} (C : Cx p s m args c cc nL RX10 D cy A) (hO : Wo D A ws s.heap H locs) (q0 : Nat) (he : ws[q0]? = some (b, .inr (3, fs))) (hv : fs[5]? = some v) (hdg : decode cc pc = .ok (.getfield 350, 3)) (kk : W p l e R s m args below meth c H locs cells slots Q (F0 m (pc + 3) ls (v :: rest))) : W p l e R s m args below meth c H locs cells slots Q (F0 m pc ls (.ref b :: rest)) := gF (k := 5) C hO q0 he rfl inFX3 (by decide) wd_448 rfl hv hdg kk
theorem wd_450 : (Cond.fieldLink "WebCourt" (353 : Nat) "WebCourt$Hearsay" "time" "I") ∈ gtb := gtb_c2 101 (by decide +kernel) rfl
theorem gf_RX10_353 {p : Program} {l : Launch} {e : Env} {R : Room} {s : State} {m : MethodId} {args : Array Value} {below : List Frame} {meth : Method} {c : Code} {H : Heap} {locs : List Loc} {cells slots : Nat} {Q : State → Prop} {cc : ByteArray} {pc nL : Nat} {ls : Array Slot} {rest : List Value} {D : va_G} {cy : Nat → ClassId} {A : Nat → Prop} {ws : va_W} {b : Nat} {fs : List Value} {v : Value} (C : Cx p s m args c cc nL RX10 D cy A) (hO : Wo D A ws s.heap H locs) (q0 : Nat) (he : ws[q0]? = some (b, .inr (3, fs))) (hv : fs[6]? = some v) (hdg : decode cc pc = .ok (.getfield 353, 3)) (kk : W p l e R s m args below meth c H locs cells slots Q (F0 m (pc + 3) ls (v :: rest))) : W p l e R s m args below meth c H locs cells slots Q (F0 m pc ls (.ref b :: rest)) := gF (k := 6) C hO q0 he rfl inFX3 (by decide) wd_450 rfl hv hdg kk
theorem wd_250 : (Cond.fieldLink "WebCourt" (356 : Nat) "WebCourt$Web" "law" "LWebCourt$Law;") ∈ gtb := gtb_c1 141 (by decide +kernel) rfl
theorem gf_RX10_356 {p : Program} {l : Launch} {e : Env} {R : Room} {s : State} {m : MethodId} {args : Array Value} {below : List Frame} {meth : Method} {c : Code} {H : Heap} {locs : List Loc} {cells slots : Nat} {Q : State → Prop} {cc : ByteArray} {pc nL : Nat} {ls : Array Slot} {rest : List Value} {D : va_G} {cy : Nat → ClassId} {A : Nat → Prop} {ws : va_W} {b : Nat} {fs : List Value} {v : Value} (C : Cx p s m args c cc nL RX10 D cy A) (hO : Wo D A ws s.heap H locs) (q0 : Nat) (he : ws[q0]? = some (b, .inr (9, fs))) (hv : fs[8]? = some v) (hdg : decode cc pc = .ok (.getfield 356, 3)) (kk : W p l e R s m args below meth c H locs cells slots Q (F0 m (pc + 3) ls (v :: rest))) : W p l e R s m args below meth c H locs cells slots Q (F0 m pc ls (.ref b :: rest)) := gF (k := 8) C hO q0 he rfl inFX9 (by decide) wd_250 rfl hv hdg kk
theorem wd_189 : (Cond.fieldLink "WebCourt" (360 : Nat) "WebCourt$Law" "units" "I") ∈ gtb := gtb_c1 80 (by decide +kernel) rfl
theorem gf_RX10_360 {p : Program} {l : Launch} {e : Env} {R : Room} {s : State} {m : MethodId} {args : Array Value} {below : List Frame} {meth : Method} {c : Code} {H : Heap} {locs : List Loc} {cells slots : Nat} {Q : State → Prop} {cc : ByteArray} {pc nL : Nat} {ls : Array Slot} {rest : List Value} {D : va_G} {cy : Nat → ClassId} {A : Nat → Prop} {ws : va_W} {b : Nat} {fs : List Value} {v : Value} (C : Cx p s m args c cc nL RX10 D cy A) (hO : Wo D A ws s.heap H locs) (q0 : Nat) (he : ws[q0]? = some (b, .inr (4, fs))) (hv : fs[4]? = some v) (hdg : decode cc pc = .ok (.getfield 360, 3)) (kk : W p l e R s m args below meth c H locs cells slots Q (F0 m (pc + 3) ls (v :: rest))) : W p l e R s m args below meth c H locs cells slots Q (F0 m pc ls (.ref b :: rest)) := gF (k := 4) C hO q0 he rfl inFX4 (by decide) wd_189 rfl hv hdg kk
set_option maxHeartbeats 4000000 in
set_option maxRecDepth 100000 in
theorem T_X10_aboutRest (l : Launch) (D : va_G) (cy : Nat → ClassId) (a : Nat → Nat) (u : St) (hJ : CI a u) (x1 : Int32)  : Mi l D cy (cW cy a) yX10_aboutRest (.code yX10_aboutRest cX10_aboutRest 2 (some .int)) (rmo 0 0) [.ref (a 0), .int x1] u (fun (r : Int32) (u' : St) => u' = u) := by
  refine Mi.of (own := RX10) rfl (by decide) (Nat.le_of_ble_eq_true rfl) ?_
  have hT : KT u u := KT.rf
  intro p e s m below meth c A Q ls C hret hO hl
  obtain ⟨hx, hb, hml, hown, ht, hK, hA⟩ := id C
  have hl : lv_has ls 2 [(0, .ref (a 0)), (1, .int x1)] := hl
  refine lv_iload_n hx hb dX10_aboutRest_0 rfl (lv_at hl 1 rfl) ?_
  have c1 : ((x1).toInt < 8 ∨ 14 < (x1).toInt) ∨ (x1).toInt = 8 ∨ (x1).toInt = 9 ∨ (x1).toInt = 10 ∨ (x1).toInt = 11 ∨ (x1).toInt = 12 ∨ (x1).toInt = 13 ∨ (x1).toInt = 14 := by omega
  rcases c1 with c1 | c1 | c1 | c1 | c1 | c1 | c1 | c1
  · refine lv_tableOut (tgt := 103) hx hb dX10_aboutRest_1 (by rw [show x1.toInt = (x1).toInt from rfl]; exact c1) (by decide) ?_
    refine lv_iconst (v := (-1)) hx hb dX10_aboutRest_103 (by decide) ?_
    refine hret _ _ _ _ _ _ dX10_aboutRest_104 rfl ?_ hO
    exact rfl
  · refine lv_tableIn (tgt := 44) hx hb dX10_aboutRest_1 (by rw [c1]; decide) (by rw [c1]; decide) (by rw [c1]; rfl) (by decide) ?_
    refine lv_aload_n hx hb dX10_aboutRest_44 rfl (lv_at hl 0 rfl) ?_
    refine gf_RX10_44 (v := .ref (a 30)) C hO 0 cW_0 rfl dX10_aboutRest_45 ?_
    have g2 : 0 ≤ (fI u 30 2).toInt ∧ (fI u 30 2).toInt ≤ 40 := by have h := CI_30_2 hJ; exact h
    refine gf_RX10_344 (v := .int (fI u 30 2)) C hO 30 cW_30 rfl dX10_aboutRest_48 ?_
    refine hret _ _ _ _ _ _ dX10_aboutRest_51 rfl ?_ hO
    exact rfl
  · refine lv_tableIn (tgt := 52) hx hb dX10_aboutRest_1 (by rw [c1]; decide) (by rw [c1]; decide) (by rw [c1]; rfl) (by decide) ?_
    refine lv_aload_n hx hb dX10_aboutRest_52 rfl (lv_at hl 0 rfl) ?_
    refine gf_RX10_44 (v := .ref (a 30)) C hO 0 cW_0 rfl dX10_aboutRest_53 ?_
    have g3 : 0 ≤ (fI u 30 3).toInt ∧ (fI u 30 3).toInt ≤ 40 := by have h := CI_30_3 hJ; exact h
    refine gf_RX10_347 (v := .int (fI u 30 3)) C hO 30 cW_30 rfl dX10_aboutRest_56 ?_
    refine hret _ _ _ _ _ _ dX10_aboutRest_59 rfl ?_ hO
    exact rfl
  · refine lv_tableIn (tgt := 60) hx hb dX10_aboutRest_1 (by rw [c1]; decide) (by rw [c1]; decide) (by rw [c1]; rfl) (by decide) ?_
    refine lv_aload_n hx hb dX10_aboutRest_60 rfl (lv_at hl 0 rfl) ?_
    refine gf_RX10_76 (v := .ref (a 39)) C hO 0 cW_0 rfl dX10_aboutRest_61 ?_
    have g4 : 0 ≤ (fI u 39 5).toInt ∧ (fI u 39 5).toInt ≤ 30 := by have h := CI_39_5 hJ; exact h
    refine gf_RX10_350 (v := .int (fI u 39 5)) C hO 39 cW_39 rfl dX10_aboutRest_64 ?_
    refine hret _ _ _ _ _ _ dX10_aboutRest_67 rfl ?_ hO
    exact rfl
  · refine lv_tableIn (tgt := 68) hx hb dX10_aboutRest_1 (by rw [c1]; decide) (by rw [c1]; decide) (by rw [c1]; rfl) (by decide) ?_
    refine lv_aload_n hx hb dX10_aboutRest_68 rfl (lv_at hl 0 rfl) ?_
    refine gf_RX10_76 (v := .ref (a 39)) C hO 0 cW_0 rfl dX10_aboutRest_69 ?_
    have g5 : 0 ≤ (fI u 39 6).toInt ∧ (fI u 39 6).toInt ≤ 100000 := by have h := CI_39_6 hJ; exact h
    refine gf_RX10_353 (v := .int (fI u 39 6)) C hO 39 cW_39 rfl dX10_aboutRest_72 ?_
    refine hret _ _ _ _ _ _ dX10_aboutRest_75 rfl ?_ hO
    exact rfl
  · refine lv_tableIn (tgt := 76) hx hb dX10_aboutRest_1 (by rw [c1]; decide) (by rw [c1]; decide) (by rw [c1]; rfl) (by decide) ?_
    refine lv_aload_n hx hb dX10_aboutRest_76 rfl (lv_at hl 0 rfl) ?_
    refine gf_RX10_12 (v := .ref (a 1)) C hO 0 cW_0 rfl dX10_aboutRest_77 ?_
    have g6 : 0 ≤ (fI u 1 1).toInt ∧ (fI u 1 1).toInt ≤ 1600 := by have h := CI_1_1 hJ; exact h
    refine gf_RX10_89 (v := .int (fI u 1 1)) C hO 1 cW_1 rfl dX10_aboutRest_80 ?_
    refine hret _ _ _ _ _ _ dX10_aboutRest_83 rfl ?_ hO
    exact rfl
  · refine lv_tableIn (tgt := 84) hx hb dX10_aboutRest_1 (by rw [c1]; decide) (by rw [c1]; decide) (by rw [c1]; rfl) (by decide) ?_
    refine lv_aload_n hx hb dX10_aboutRest_84 rfl (lv_at hl 0 rfl) ?_
    refine gf_RX10_37 (v := .ref (a 28)) C hO 0 cW_0 rfl dX10_aboutRest_85 ?_
    refine gf_RX10_101 (v := .ref (a 3)) C hO 28 cW_28 (congrArg (fun z : Nat => some (Value.ref z)) (CI_R0 hJ)) dX10_aboutRest_88 ?_
    refine gf_RX10_356 (v := .ref (a 12)) C hO 3 cW_3 rfl dX10_aboutRest_91 ?_
    refine gf_RX10_360 (v := .int (fI u 12 4)) C hO 12 cW_12 rfl dX10_aboutRest_94 ?_
    refine hret _ _ _ _ _ _ dX10_aboutRest_97 rfl ?_ hO
    exact rfl
  · refine lv_tableIn (tgt := 98) hx hb dX10_aboutRest_1 (by rw [c1]; decide) (by rw [c1]; decide) (by rw [c1]; rfl) (by decide) ?_
    refine lv_aload_n hx hb dX10_aboutRest_98 rfl (lv_at hl 0 rfl) ?_
    have g7 : 0 ≤ (fI u 0 10).toInt ∧ (fI u 0 10).toInt ≤ 8 := by have h := CI_0_10 hJ; exact h
    refine gf_RX10_111 (v := .int (fI u 0 10)) C hO 0 cW_0 rfl dX10_aboutRest_99 ?_
    refine hret _ _ _ _ _ _ dX10_aboutRest_102 rfl ?_ hO
    exact rfl
theorem dX10_about_0 : decode cX10_about 0 = .ok (.iload_n 1, 1) := by decide +kernel
theorem dX10_about_1 : decode cX10_about 1 = .ok (.tableswitch 173 0 15 #[79, 90, 101, 112, 123, 133, 143, 153, 173, 173, 173, 173, 173, 173, 173, 163], 79) := by decide +kernel
theorem dX10_about_80 : decode cX10_about 80 = .ok (.aload_n 0, 1) := by decide +kernel
theorem dX10_about_81 : decode cX10_about 81 = .ok (.getfield 37, 3) := by decide +kernel
theorem dX10_about_84 : decode cX10_about 84 = .ok (.getfield 101, 3) := by decide +kernel
theorem dX10_about_87 : decode cX10_about 87 = .ok (.getfield 117, 3) := by decide +kernel
theorem dX10_about_90 : decode cX10_about 90 = .ok (.ireturn, 1) := by decide +kernel
theorem dX10_about_91 : decode cX10_about 91 = .ok (.aload_n 0, 1) := by decide +kernel
theorem dX10_about_92 : decode cX10_about 92 = .ok (.getfield 37, 3) := by decide +kernel
theorem dX10_about_95 : decode cX10_about 95 = .ok (.getfield 101, 3) := by decide +kernel
theorem dX10_about_98 : decode cX10_about 98 = .ok (.getfield 338, 3) := by decide +kernel
theorem dX10_about_101 : decode cX10_about 101 = .ok (.ireturn, 1) := by decide +kernel
theorem dX10_about_102 : decode cX10_about 102 = .ok (.aload_n 0, 1) := by decide +kernel
theorem dX10_about_103 : decode cX10_about 103 = .ok (.getfield 37, 3) := by decide +kernel
theorem dX10_about_106 : decode cX10_about 106 = .ok (.getfield 101, 3) := by decide +kernel
theorem dX10_about_109 : decode cX10_about 109 = .ok (.getfield 196, 3) := by decide +kernel
theorem dX10_about_112 : decode cX10_about 112 = .ok (.ireturn, 1) := by decide +kernel
theorem dX10_about_113 : decode cX10_about 113 = .ok (.aload_n 0, 1) := by decide +kernel
theorem dX10_about_114 : decode cX10_about 114 = .ok (.getfield 37, 3) := by decide +kernel
theorem dX10_about_117 : decode cX10_about 117 = .ok (.getfield 101, 3) := by decide +kernel
theorem dX10_about_120 : decode cX10_about 120 = .ok (.getfield 206, 3) := by decide +kernel
theorem dX10_about_123 : decode cX10_about 123 = .ok (.ireturn, 1) := by decide +kernel
theorem dX10_about_124 : decode cX10_about 124 = .ok (.aload_n 0, 1) := by decide +kernel
theorem dX10_about_125 : decode cX10_about 125 = .ok (.getfield 37, 3) := by decide +kernel
theorem dX10_about_128 : decode cX10_about 128 = .ok (.getfield 150, 3) := by decide +kernel
theorem dX10_about_131 : decode cX10_about 131 = .ok (.iconst 0, 1) := by decide +kernel
theorem dX10_about_132 : decode cX10_about 132 = .ok (.iaload, 1) := by decide +kernel
theorem dX10_about_133 : decode cX10_about 133 = .ok (.ireturn, 1) := by decide +kernel
theorem dX10_about_134 : decode cX10_about 134 = .ok (.aload_n 0, 1) := by decide +kernel
theorem dX10_about_135 : decode cX10_about 135 = .ok (.getfield 37, 3) := by decide +kernel
theorem dX10_about_138 : decode cX10_about 138 = .ok (.getfield 150, 3) := by decide +kernel
theorem dX10_about_141 : decode cX10_about 141 = .ok (.iconst 1, 1) := by decide +kernel
theorem dX10_about_142 : decode cX10_about 142 = .ok (.iaload, 1) := by decide +kernel
theorem dX10_about_143 : decode cX10_about 143 = .ok (.ireturn, 1) := by decide +kernel
theorem dX10_about_144 : decode cX10_about 144 = .ok (.aload_n 0, 1) := by decide +kernel
theorem dX10_about_145 : decode cX10_about 145 = .ok (.getfield 37, 3) := by decide +kernel
theorem dX10_about_148 : decode cX10_about 148 = .ok (.getfield 150, 3) := by decide +kernel
theorem dX10_about_151 : decode cX10_about 151 = .ok (.iconst 2, 1) := by decide +kernel
theorem dX10_about_152 : decode cX10_about 152 = .ok (.iaload, 1) := by decide +kernel
theorem dX10_about_153 : decode cX10_about 153 = .ok (.ireturn, 1) := by decide +kernel
theorem dX10_about_154 : decode cX10_about 154 = .ok (.aload_n 0, 1) := by decide +kernel
theorem dX10_about_155 : decode cX10_about 155 = .ok (.getfield 37, 3) := by decide +kernel
theorem dX10_about_158 : decode cX10_about 158 = .ok (.getfield 150, 3) := by decide +kernel
theorem dX10_about_161 : decode cX10_about 161 = .ok (.iconst 3, 1) := by decide +kernel
theorem dX10_about_162 : decode cX10_about 162 = .ok (.iaload, 1) := by decide +kernel
theorem dX10_about_163 : decode cX10_about 163 = .ok (.ireturn, 1) := by decide +kernel
theorem dX10_about_164 : decode cX10_about 164 = .ok (.aload_n 0, 1) := by decide +kernel
theorem dX10_about_165 : decode cX10_about 165 = .ok (.getfield 37, 3) := by decide +kernel
theorem dX10_about_168 : decode cX10_about 168 = .ok (.getfield 150, 3) := by decide +kernel
theorem dX10_about_171 : decode cX10_about 171 = .ok (.iconst 4, 1) := by decide +kernel
theorem dX10_about_172 : decode cX10_about 172 = .ok (.iaload, 1) := by decide +kernel
theorem dX10_about_173 : decode cX10_about 173 = .ok (.ireturn, 1) := by decide +kernel
theorem dX10_about_174 : decode cX10_about 174 = .ok (.aload_n 0, 1) := by decide +kernel
theorem dX10_about_175 : decode cX10_about 175 = .ok (.iload_n 1, 1) := by decide +kernel
theorem dX10_about_176 : decode cX10_about 176 = .ok (.invokevirtual 341, 3) := by decide +kernel
theorem dX10_about_179 : decode cX10_about 179 = .ok (.ireturn, 1) := by decide +kernel
theorem wd_1325 : (Cond.code ⟨"WebCourt", "about", "(I)I"⟩ prog_1_method_52_code (2 : Nat) (Option.some FieldType.int)) ∈ gtb := gtb_c6 16 (by decide +kernel) rfl
theorem wd_1326 : (Cond.methodLink "WebCourt" (341 : Nat) ⟨"WebCourt", "aboutRest", "(I)I"⟩) ∈ gtb := gtb_c6 17 (by decide +kernel) rfl
theorem wd_1328 : (Cond.instanceMethod ⟨"WebCourt", "aboutRest", "(I)I"⟩) ∈ gtb := gtb_c6 19 (by decide +kernel) rfl
theorem wd_42 : (Cond.selects "WebCourt" ⟨"WebCourt", "aboutRest", "(I)I"⟩ ⟨"WebCourt", "aboutRest", "(I)I"⟩) ∈ gtb := gtb_p 42 (by decide +kernel) rfl
theorem hd_yX10_aboutRest : yX10_aboutRest.cls = RX10 ∧ yX10_aboutRest.cls ≠ "java/lang/invoke/MethodHandle" ∧ yX10_aboutRest.cls ≠ "java/lang/invoke/VarHandle" ∧ (parseMethodDescriptor yX10_aboutRest.desc).map (fun d => d.parameters.length) = some 1 := by decide +kernel
theorem wd_255 : (Cond.fieldLink "WebCourt" (338 : Nat) "WebCourt$Web" "knots" "I") ∈ gtb := gtb_c1 146 (by decide +kernel) rfl
theorem gf_RX10_338 {p : Program} {l : Launch} {e : Env} {R : Room} {s : State} {m : MethodId} {args : Array Value} {below : List Frame} {meth : Method} {c : Code} {H : Heap} {locs : List Loc} {cells slots : Nat} {Q : State → Prop} {cc : ByteArray} {pc nL : Nat} {ls : Array Slot} {rest : List Value} {D : va_G} {cy : Nat → ClassId} {A : Nat → Prop} {ws : va_W} {b : Nat} {fs : List Value} {v : Value} (C : Cx p s m args c cc nL RX10 D cy A) (hO : Wo D A ws s.heap H locs) (q0 : Nat) (he : ws[q0]? = some (b, .inr (9, fs))) (hv : fs[9]? = some v) (hdg : decode cc pc = .ok (.getfield 338, 3)) (kk : W p l e R s m args below meth c H locs cells slots Q (F0 m (pc + 3) ls (v :: rest))) : W p l e R s m args below meth c H locs cells slots Q (F0 m pc ls (.ref b :: rest)) := gF (k := 9) C hO q0 he rfl inFX9 (by decide) wd_255 rfl hv hdg kk
set_option maxHeartbeats 4000000 in
set_option maxRecDepth 100000 in
theorem T_X10_about (l : Launch) (D : va_G) (cy : Nat → ClassId) (a : Nat → Nat) (u : St) (hJ : CI a u) (x1 : Int32)  : Mi l D cy (cW cy a) yX10_about (.code yX10_about cX10_about 2 (some .int)) (rmo 1 21) [.ref (a 0), .int x1] u (fun (r : Int32) (u' : St) => u' = u) := by
  refine Mi.of (own := RX10) rfl (by decide) (Nat.le_of_ble_eq_true rfl) ?_
  have hT : KT u u := KT.rf
  intro p e s m below meth c A Q ls C hret hO hl
  obtain ⟨hx, hb, hml, hown, ht, hK, hA⟩ := id C
  have hl : lv_has ls 2 [(0, .ref (a 0)), (1, .int x1)] := hl
  refine lv_iload_n hx hb dX10_about_0 rfl (lv_at hl 1 rfl) ?_
  have c1 : ((x1).toInt < 0 ∨ 15 < (x1).toInt) ∨ (x1).toInt = 0 ∨ (x1).toInt = 1 ∨ (x1).toInt = 2 ∨ (x1).toInt = 3 ∨ (x1).toInt = 4 ∨ (x1).toInt = 5 ∨ (x1).toInt = 6 ∨ (x1).toInt = 7 ∨ (x1).toInt = 8 ∨ (x1).toInt = 9 ∨ (x1).toInt = 10 ∨ (x1).toInt = 11 ∨ (x1).toInt = 12 ∨ (x1).toInt = 13 ∨ (x1).toInt = 14 ∨ (x1).toInt = 15 := by omega
  rcases c1 with c1 | c1 | c1 | c1 | c1 | c1 | c1 | c1 | c1 | c1 | c1 | c1 | c1 | c1 | c1 | c1 | c1
  · refine lv_tableOut (tgt := 174) hx hb dX10_about_1 (by rw [show x1.toInt = (x1).toInt from rfl]; exact c1) (by decide) ?_
    refine lv_aload_n hx hb dX10_about_174 rfl (lv_at hl 0 rfl) ?_
    refine lv_iload_n hx hb dX10_about_175 rfl (lv_at hl 1 rfl) ?_
    refine cVi (w := cW cy a) (As := [.int x1]) (rest := []) C hO (T_X10_aboutRest l D cy a _ (by exact hJ) (x1)) (cwV 1 ht (gV wd_1326 wd_1328 wd_42 wd_110 wd_1329) rfl rfl rfl hd_yX10_aboutRest ⟨Nat.le_of_ble_eq_true rfl, Nat.le_of_ble_eq_true rfl⟩) 0 rfl cW_0 rfl rfl hl.1 (Nat.le_of_ble_eq_true rfl) dX10_about_176 rfl ⟨Nat.zero_le _, Nat.zero_le _⟩ (fun r2 u3 H locs hp4 hO => ?_)
    have hu3 := hp4
    rw [hu3] at hO
    refine hret _ _ _ _ _ _ dX10_about_179 rfl ?_ hO
    exact rfl
  · refine lv_tableIn (tgt := 80) hx hb dX10_about_1 (by rw [c1]; decide) (by rw [c1]; decide) (by rw [c1]; rfl) (by decide) ?_
    refine lv_aload_n hx hb dX10_about_80 rfl (lv_at hl 0 rfl) ?_
    refine gf_RX10_37 (v := .ref (a 28)) C hO 0 cW_0 rfl dX10_about_81 ?_
    refine gf_RX10_101 (v := .ref (a 3)) C hO 28 cW_28 (congrArg (fun z : Nat => some (Value.ref z)) (CI_R0 hJ)) dX10_about_84 ?_
    have g5 : 0 ≤ (fI u 3 12).toInt ∧ (fI u 3 12).toInt ≤ 6 := by have h := CI_3_12 hJ; exact h
    refine gf_RX10_117 (v := .int (fI u 3 12)) C hO 3 cW_3 rfl dX10_about_87 ?_
    refine hret _ _ _ _ _ _ dX10_about_90 rfl ?_ hO
    exact rfl
  · refine lv_tableIn (tgt := 91) hx hb dX10_about_1 (by rw [c1]; decide) (by rw [c1]; decide) (by rw [c1]; rfl) (by decide) ?_
    refine lv_aload_n hx hb dX10_about_91 rfl (lv_at hl 0 rfl) ?_
    refine gf_RX10_37 (v := .ref (a 28)) C hO 0 cW_0 rfl dX10_about_92 ?_
    refine gf_RX10_101 (v := .ref (a 3)) C hO 28 cW_28 (congrArg (fun z : Nat => some (Value.ref z)) (CI_R0 hJ)) dX10_about_95 ?_
    have g6 : 0 ≤ (fI u 3 9).toInt ∧ (fI u 3 9).toInt ≤ 8 := by have h := CI_3_9 hJ; exact h
    refine gf_RX10_338 (v := .int (fI u 3 9)) C hO 3 cW_3 rfl dX10_about_98 ?_
    refine hret _ _ _ _ _ _ dX10_about_101 rfl ?_ hO
    exact rfl
  · refine lv_tableIn (tgt := 102) hx hb dX10_about_1 (by rw [c1]; decide) (by rw [c1]; decide) (by rw [c1]; rfl) (by decide) ?_
    refine lv_aload_n hx hb dX10_about_102 rfl (lv_at hl 0 rfl) ?_
    refine gf_RX10_37 (v := .ref (a 28)) C hO 0 cW_0 rfl dX10_about_103 ?_
    refine gf_RX10_101 (v := .ref (a 3)) C hO 28 cW_28 (congrArg (fun z : Nat => some (Value.ref z)) (CI_R0 hJ)) dX10_about_106 ?_
    have g7 : 0 ≤ (fI u 3 10).toInt ∧ (fI u 3 10).toInt ≤ 14 := by have h := CI_3_10 hJ; exact h
    refine gf_RX10_196 (v := .int (fI u 3 10)) C hO 3 cW_3 rfl dX10_about_109 ?_
    refine hret _ _ _ _ _ _ dX10_about_112 rfl ?_ hO
    exact rfl
  · refine lv_tableIn (tgt := 113) hx hb dX10_about_1 (by rw [c1]; decide) (by rw [c1]; decide) (by rw [c1]; rfl) (by decide) ?_
    refine lv_aload_n hx hb dX10_about_113 rfl (lv_at hl 0 rfl) ?_
    refine gf_RX10_37 (v := .ref (a 28)) C hO 0 cW_0 rfl dX10_about_114 ?_
    refine gf_RX10_101 (v := .ref (a 3)) C hO 28 cW_28 (congrArg (fun z : Nat => some (Value.ref z)) (CI_R0 hJ)) dX10_about_117 ?_
    have g8 : 0 ≤ (fI u 3 11).toInt ∧ (fI u 3 11).toInt ≤ 8 := by have h := CI_3_11 hJ; exact h
    refine gf_RX10_206 (v := .int (fI u 3 11)) C hO 3 cW_3 rfl dX10_about_120 ?_
    refine hret _ _ _ _ _ _ dX10_about_123 rfl ?_ hO
    exact rfl
  · refine lv_tableIn (tgt := 124) hx hb dX10_about_1 (by rw [c1]; decide) (by rw [c1]; decide) (by rw [c1]; rfl) (by decide) ?_
    refine lv_aload_n hx hb dX10_about_124 rfl (lv_at hl 0 rfl) ?_
    refine gf_RX10_37 (v := .ref (a 28)) C hO 0 cW_0 rfl dX10_about_125 ?_
    refine gf_RX10_150 (v := .ref (a 29)) C hO 28 cW_28 rfl dX10_about_128 ?_
    refine lv_iconst (v := 0) hx hb dX10_about_131 (by decide) ?_
    refine aI C hO 29 cW_29 (i_in (X := 0) rfl (by omega) (by omega)) dX10_about_132 ?_
    refine lv_topi (fun w9 ew9 => ?_)
    refine hret _ _ _ _ _ _ dX10_about_133 rfl ?_ hO
    exact rfl
  · refine lv_tableIn (tgt := 134) hx hb dX10_about_1 (by rw [c1]; decide) (by rw [c1]; decide) (by rw [c1]; rfl) (by decide) ?_
    refine lv_aload_n hx hb dX10_about_134 rfl (lv_at hl 0 rfl) ?_
    refine gf_RX10_37 (v := .ref (a 28)) C hO 0 cW_0 rfl dX10_about_135 ?_
    refine gf_RX10_150 (v := .ref (a 29)) C hO 28 cW_28 rfl dX10_about_138 ?_
    refine lv_iconst (v := 1) hx hb dX10_about_141 (by decide) ?_
    refine aI C hO 29 cW_29 (i_in (X := 1) rfl (by omega) (by omega)) dX10_about_142 ?_
    refine lv_topi (fun w10 ew10 => ?_)
    refine hret _ _ _ _ _ _ dX10_about_143 rfl ?_ hO
    exact rfl
  · refine lv_tableIn (tgt := 144) hx hb dX10_about_1 (by rw [c1]; decide) (by rw [c1]; decide) (by rw [c1]; rfl) (by decide) ?_
    refine lv_aload_n hx hb dX10_about_144 rfl (lv_at hl 0 rfl) ?_
    refine gf_RX10_37 (v := .ref (a 28)) C hO 0 cW_0 rfl dX10_about_145 ?_
    refine gf_RX10_150 (v := .ref (a 29)) C hO 28 cW_28 rfl dX10_about_148 ?_
    refine lv_iconst (v := 2) hx hb dX10_about_151 (by decide) ?_
    refine aI C hO 29 cW_29 (i_in (X := 2) rfl (by omega) (by omega)) dX10_about_152 ?_
    refine lv_topi (fun w11 ew11 => ?_)
    refine hret _ _ _ _ _ _ dX10_about_153 rfl ?_ hO
    exact rfl
  · refine lv_tableIn (tgt := 154) hx hb dX10_about_1 (by rw [c1]; decide) (by rw [c1]; decide) (by rw [c1]; rfl) (by decide) ?_
    refine lv_aload_n hx hb dX10_about_154 rfl (lv_at hl 0 rfl) ?_
    refine gf_RX10_37 (v := .ref (a 28)) C hO 0 cW_0 rfl dX10_about_155 ?_
    refine gf_RX10_150 (v := .ref (a 29)) C hO 28 cW_28 rfl dX10_about_158 ?_
    refine lv_iconst (v := 3) hx hb dX10_about_161 (by decide) ?_
    refine aI C hO 29 cW_29 (i_in (X := 3) rfl (by omega) (by omega)) dX10_about_162 ?_
    refine lv_topi (fun w12 ew12 => ?_)
    refine hret _ _ _ _ _ _ dX10_about_163 rfl ?_ hO
    exact rfl
  · refine lv_tableIn (tgt := 174) hx hb dX10_about_1 (by rw [c1]; decide) (by rw [c1]; decide) (by rw [c1]; rfl) (by decide) ?_
    refine lv_aload_n hx hb dX10_about_174 rfl (lv_at hl 0 rfl) ?_
    refine lv_iload_n hx hb dX10_about_175 rfl (lv_at hl 1 rfl) ?_
    refine cVi (w := cW cy a) (As := [.int x1]) (rest := []) C hO (T_X10_aboutRest l D cy a _ (by exact hJ) (x1)) (cwV 1 ht (gV wd_1326 wd_1328 wd_42 wd_110 wd_1329) rfl rfl rfl hd_yX10_aboutRest ⟨Nat.le_of_ble_eq_true rfl, Nat.le_of_ble_eq_true rfl⟩) 0 rfl cW_0 rfl rfl hl.1 (Nat.le_of_ble_eq_true rfl) dX10_about_176 rfl ⟨Nat.zero_le _, Nat.zero_le _⟩ (fun r13 u14 H locs hp15 hO => ?_)
    have hu14 := hp15
    rw [hu14] at hO
    refine hret _ _ _ _ _ _ dX10_about_179 rfl ?_ hO
    exact rfl
  · refine lv_tableIn (tgt := 174) hx hb dX10_about_1 (by rw [c1]; decide) (by rw [c1]; decide) (by rw [c1]; rfl) (by decide) ?_
    refine lv_aload_n hx hb dX10_about_174 rfl (lv_at hl 0 rfl) ?_
    refine lv_iload_n hx hb dX10_about_175 rfl (lv_at hl 1 rfl) ?_
    refine cVi (w := cW cy a) (As := [.int x1]) (rest := []) C hO (T_X10_aboutRest l D cy a _ (by exact hJ) (x1)) (cwV 1 ht (gV wd_1326 wd_1328 wd_42 wd_110 wd_1329) rfl rfl rfl hd_yX10_aboutRest ⟨Nat.le_of_ble_eq_true rfl, Nat.le_of_ble_eq_true rfl⟩) 0 rfl cW_0 rfl rfl hl.1 (Nat.le_of_ble_eq_true rfl) dX10_about_176 rfl ⟨Nat.zero_le _, Nat.zero_le _⟩ (fun r16 u17 H locs hp18 hO => ?_)
    have hu17 := hp18
    rw [hu17] at hO
    refine hret _ _ _ _ _ _ dX10_about_179 rfl ?_ hO
    exact rfl
  · refine lv_tableIn (tgt := 174) hx hb dX10_about_1 (by rw [c1]; decide) (by rw [c1]; decide) (by rw [c1]; rfl) (by decide) ?_
    refine lv_aload_n hx hb dX10_about_174 rfl (lv_at hl 0 rfl) ?_
    refine lv_iload_n hx hb dX10_about_175 rfl (lv_at hl 1 rfl) ?_
    refine cVi (w := cW cy a) (As := [.int x1]) (rest := []) C hO (T_X10_aboutRest l D cy a _ (by exact hJ) (x1)) (cwV 1 ht (gV wd_1326 wd_1328 wd_42 wd_110 wd_1329) rfl rfl rfl hd_yX10_aboutRest ⟨Nat.le_of_ble_eq_true rfl, Nat.le_of_ble_eq_true rfl⟩) 0 rfl cW_0 rfl rfl hl.1 (Nat.le_of_ble_eq_true rfl) dX10_about_176 rfl ⟨Nat.zero_le _, Nat.zero_le _⟩ (fun r19 u20 H locs hp21 hO => ?_)
    have hu20 := hp21
    rw [hu20] at hO
    refine hret _ _ _ _ _ _ dX10_about_179 rfl ?_ hO
    exact rfl
  · refine lv_tableIn (tgt := 174) hx hb dX10_about_1 (by rw [c1]; decide) (by rw [c1]; decide) (by rw [c1]; rfl) (by decide) ?_
    refine lv_aload_n hx hb dX10_about_174 rfl (lv_at hl 0 rfl) ?_
    refine lv_iload_n hx hb dX10_about_175 rfl (lv_at hl 1 rfl) ?_
    refine cVi (w := cW cy a) (As := [.int x1]) (rest := []) C hO (T_X10_aboutRest l D cy a _ (by exact hJ) (x1)) (cwV 1 ht (gV wd_1326 wd_1328 wd_42 wd_110 wd_1329) rfl rfl rfl hd_yX10_aboutRest ⟨Nat.le_of_ble_eq_true rfl, Nat.le_of_ble_eq_true rfl⟩) 0 rfl cW_0 rfl rfl hl.1 (Nat.le_of_ble_eq_true rfl) dX10_about_176 rfl ⟨Nat.zero_le _, Nat.zero_le _⟩ (fun r22 u23 H locs hp24 hO => ?_)
    have hu23 := hp24
    rw [hu23] at hO
    refine hret _ _ _ _ _ _ dX10_about_179 rfl ?_ hO
    exact rfl
  · refine lv_tableIn (tgt := 174) hx hb dX10_about_1 (by rw [c1]; decide) (by rw [c1]; decide) (by rw [c1]; rfl) (by decide) ?_
    refine lv_aload_n hx hb dX10_about_174 rfl (lv_at hl 0 rfl) ?_
    refine lv_iload_n hx hb dX10_about_175 rfl (lv_at hl 1 rfl) ?_
    refine cVi (w := cW cy a) (As := [.int x1]) (rest := []) C hO (T_X10_aboutRest l D cy a _ (by exact hJ) (x1)) (cwV 1 ht (gV wd_1326 wd_1328 wd_42 wd_110 wd_1329) rfl rfl rfl hd_yX10_aboutRest ⟨Nat.le_of_ble_eq_true rfl, Nat.le_of_ble_eq_true rfl⟩) 0 rfl cW_0 rfl rfl hl.1 (Nat.le_of_ble_eq_true rfl) dX10_about_176 rfl ⟨Nat.zero_le _, Nat.zero_le _⟩ (fun r25 u26 H locs hp27 hO => ?_)
    have hu26 := hp27
    rw [hu26] at hO
    refine hret _ _ _ _ _ _ dX10_about_179 rfl ?_ hO
    exact rfl
  · refine lv_tableIn (tgt := 174) hx hb dX10_about_1 (by rw [c1]; decide) (by rw [c1]; decide) (by rw [c1]; rfl) (by decide) ?_
    refine lv_aload_n hx hb dX10_about_174 rfl (lv_at hl 0 rfl) ?_
    refine lv_iload_n hx hb dX10_about_175 rfl (lv_at hl 1 rfl) ?_
    refine cVi (w := cW cy a) (As := [.int x1]) (rest := []) C hO (T_X10_aboutRest l D cy a _ (by exact hJ) (x1)) (cwV 1 ht (gV wd_1326 wd_1328 wd_42 wd_110 wd_1329) rfl rfl rfl hd_yX10_aboutRest ⟨Nat.le_of_ble_eq_true rfl, Nat.le_of_ble_eq_true rfl⟩) 0 rfl cW_0 rfl rfl hl.1 (Nat.le_of_ble_eq_true rfl) dX10_about_176 rfl ⟨Nat.zero_le _, Nat.zero_le _⟩ (fun r28 u29 H locs hp30 hO => ?_)
    have hu29 := hp30
    rw [hu29] at hO
    refine hret _ _ _ _ _ _ dX10_about_179 rfl ?_ hO
    exact rfl
  · refine lv_tableIn (tgt := 174) hx hb dX10_about_1 (by rw [c1]; decide) (by rw [c1]; decide) (by rw [c1]; rfl) (by decide) ?_
    refine lv_aload_n hx hb dX10_about_174 rfl (lv_at hl 0 rfl) ?_
    refine lv_iload_n hx hb dX10_about_175 rfl (lv_at hl 1 rfl) ?_
    refine cVi (w := cW cy a) (As := [.int x1]) (rest := []) C hO (T_X10_aboutRest l D cy a _ (by exact hJ) (x1)) (cwV 1 ht (gV wd_1326 wd_1328 wd_42 wd_110 wd_1329) rfl rfl rfl hd_yX10_aboutRest ⟨Nat.le_of_ble_eq_true rfl, Nat.le_of_ble_eq_true rfl⟩) 0 rfl cW_0 rfl rfl hl.1 (Nat.le_of_ble_eq_true rfl) dX10_about_176 rfl ⟨Nat.zero_le _, Nat.zero_le _⟩ (fun r31 u32 H locs hp33 hO => ?_)
    have hu32 := hp33
    rw [hu32] at hO
    refine hret _ _ _ _ _ _ dX10_about_179 rfl ?_ hO
    exact rfl
  · refine lv_tableIn (tgt := 164) hx hb dX10_about_1 (by rw [c1]; decide) (by rw [c1]; decide) (by rw [c1]; rfl) (by decide) ?_
    refine lv_aload_n hx hb dX10_about_164 rfl (lv_at hl 0 rfl) ?_
    refine gf_RX10_37 (v := .ref (a 28)) C hO 0 cW_0 rfl dX10_about_165 ?_
    refine gf_RX10_150 (v := .ref (a 29)) C hO 28 cW_28 rfl dX10_about_168 ?_
    refine lv_iconst (v := 4) hx hb dX10_about_171 (by decide) ?_
    refine aI C hO 29 cW_29 (i_in (X := 4) rfl (by omega) (by omega)) dX10_about_172 ?_
    refine lv_topi (fun w34 ew34 => ?_)
    refine hret _ _ _ _ _ _ dX10_about_173 rfl ?_ hO
    exact rfl
theorem dX3_goOn_0 : decode cX3_goOn 0 = .ok (.iload_n 1, 1) := by decide +kernel
theorem dX3_goOn_1 : decode cX3_goOn 1 = .ok (.ifCond .lt 21, 3) := by decide +kernel
theorem dX3_goOn_4 : decode cX3_goOn 4 = .ok (.iload_n 1, 1) := by decide +kernel
theorem dX3_goOn_5 : decode cX3_goOn 5 = .ok (.sipush 1000, 3) := by decide +kernel
theorem dX3_goOn_8 : decode cX3_goOn 8 = .ok (.if_icmp .gt 14, 3) := by decide +kernel
theorem dX3_goOn_11 : decode cX3_goOn 11 = .ok (.aload_n 0, 1) := by decide +kernel
theorem dX3_goOn_12 : decode cX3_goOn 12 = .ok (.getfield 32, 3) := by decide +kernel
theorem dX3_goOn_15 : decode cX3_goOn 15 = .ok (.iload_n 1, 1) := by decide +kernel
theorem dX3_goOn_16 : decode cX3_goOn 16 = .ok (.iadd, 1) := by decide +kernel
theorem dX3_goOn_17 : decode cX3_goOn 17 = .ok (.ldc 35, 2) := by decide +kernel
theorem dX3_goOn_19 : decode cX3_goOn 19 = .ok (.if_icmp .le 5, 3) := by decide +kernel
theorem dX3_goOn_22 : decode cX3_goOn 22 = .ok (.iconst (-1), 1) := by decide +kernel
theorem dX3_goOn_23 : decode cX3_goOn 23 = .ok (.ireturn, 1) := by decide +kernel
theorem dX3_goOn_24 : decode cX3_goOn 24 = .ok (.aload_n 0, 1) := by decide +kernel
theorem dX3_goOn_25 : decode cX3_goOn 25 = .ok (.dup, 1) := by decide +kernel
theorem dX3_goOn_26 : decode cX3_goOn 26 = .ok (.getfield 32, 3) := by decide +kernel
theorem dX3_goOn_29 : decode cX3_goOn 29 = .ok (.iload_n 1, 1) := by decide +kernel
theorem dX3_goOn_30 : decode cX3_goOn 30 = .ok (.iadd, 1) := by decide +kernel
theorem dX3_goOn_31 : decode cX3_goOn 31 = .ok (.putfield 32, 3) := by decide +kernel
theorem dX3_goOn_34 : decode cX3_goOn 34 = .ok (.aload_n 0, 1) := by decide +kernel
theorem dX3_goOn_35 : decode cX3_goOn 35 = .ok (.getfield 32, 3) := by decide +kernel
theorem dX3_goOn_38 : decode cX3_goOn 38 = .ok (.ireturn, 1) := by decide +kernel
theorem wd_1261 : (Cond.code ⟨"WebCourt$Hearsay", "goOn", "(I)I"⟩ prog_5_method_5_code (2 : Nat) (Option.some FieldType.int)) ∈ gtb := gtb_c5 192 (by decide +kernel) rfl
theorem wd_1262 : (Cond.constant "WebCourt$Hearsay" (35 : Nat) (100000 : Int32)) ∈ gtb := gtb_c5 193 (by decide +kernel) rfl
theorem pf_RX3_32 {p : Program} {l : Launch} {e : Env} {R : Room} {s : State} {m : MethodId} {args : Array Value} {below : List Frame} {meth : Method} {c : Code} {H : Heap} {locs : List Loc} {cells slots : Nat} {Q : State → Prop} {cc : ByteArray} {pc nL : Nat} {ls : Array Slot} {rest : List Value} {D : va_G} {cy : Nat → ClassId} {A : Nat → Prop} {ws : va_W} {b : Nat} {fs : List Value} {v : Int32} {ws' : va_W} (C : Cx p s m args c cc nL RX3 D cy A) (hO : Wo D A ws s.heap H locs) (q0 : Nat) (he : ws[q0]? = some (b, .inr (3, fs))) (hlen : 6 < fs.length) (hw : ws.set q0 (b, .inr (3, fs.set 6 (.int v))) = ws') (hdg : decode cc pc = .ok (.putfield 32, 3)) (kk : ∀ (H : Heap) (locs : List Loc), Wo D A ws' s.heap H locs → W p l e R s m args below meth c H locs cells slots Q (F0 m (pc + 3) ls rest)) : W p l e R s m args below meth c H locs cells slots Q (F0 m pc ls (.int v :: .ref b :: rest)) := pF (k := 6) (ty := .int) C hO q0 he rfl inFX3 (by decide) wd_449 rfl tyX3 tyX3_ok nmX3 rfl (by decide +kernel) rfl rfl hlen hw hdg kk
set_option maxHeartbeats 4000000 in
set_option maxRecDepth 100000 in
theorem T_X3_goOn (l : Launch) (D : va_G) (cy : Nat → ClassId) (a : Nat → Nat) (u : St) (hJ : CI a u) (x1 : Int32)  : Mi l D cy (cW cy a) yX3_goOn (.code yX3_goOn cX3_goOn 2 (some .int)) (rmo 0 0) [.ref (a 39), .int x1] u (fun (r : Int32) (u' : St) => (CI a u') ∧ (KN u u') ∧ (r = ltR (fI u 39 6) x1) ∧ (fI u' 39 6 = ltT (fI u 39 6) x1)) := by
  refine Mi.of (own := RX3) rfl (by decide) (Nat.le_of_ble_eq_true rfl) ?_
  have hT : KN u u := KN.rf
  intro p e s m below meth c A Q ls C hret hO hl
  obtain ⟨hx, hb, hml, hown, ht, hK, hA⟩ := id C
  have hl : lv_has ls 2 [(0, .ref (a 39)), (1, .int x1)] := hl
  refine lv_iload_n hx hb dX3_goOn_0 rfl (lv_at hl 1 rfl) ?_
  refine bs_lt (tgt := 22) (X := (x1).toInt) hx hb dX3_goOn_1 (by decide) rfl (fun c1 => ?_) (fun c1 => ?_)
  · refine lv_iconst (v := (-1)) hx hb dX3_goOn_22 (by decide) ?_
    refine hret _ _ _ _ _ _ dX3_goOn_23 rfl ?_ hO
    exact ⟨hJ, hT, (by first | exact (ltR_y (by unfold ltOk; omega)).symm | exact (ltR_n (by unfold ltOk; omega)).symm), (by first | exact (ltT_y (by unfold ltOk; omega)).symm | exact (ltT_n (by unfold ltOk; omega)).symm)⟩
  · refine lv_iload_n hx hb dX3_goOn_4 rfl (lv_at hl 1 rfl) ?_
    refine lv_sipush (v := 1000) hx hb dX3_goOn_5 (by decide) ?_
    refine cs_gt (tgt := 22) (X := (x1).toInt) (Y := 1000) hx hb dX3_goOn_8 (by decide) rfl rfl (fun c2 => ?_) (fun c2 => ?_)
    · refine lv_iconst (v := (-1)) hx hb dX3_goOn_22 (by decide) ?_
      refine hret _ _ _ _ _ _ dX3_goOn_23 rfl ?_ hO
      exact ⟨hJ, hT, (by first | exact (ltR_y (by unfold ltOk; omega)).symm | exact (ltR_n (by unfold ltOk; omega)).symm), (by first | exact (ltT_y (by unfold ltOk; omega)).symm | exact (ltT_n (by unfold ltOk; omega)).symm)⟩
    · refine lv_aload_n hx hb dX3_goOn_11 rfl (lv_at hl 0 rfl) ?_
      have g3 : 0 ≤ (fI u 39 6).toInt ∧ (fI u 39 6).toInt ≤ 100000 := by have h := CI_39_6 hJ; exact h
      refine gf_RX3_32 (v := .int (fI u 39 6)) C hO 39 cW_39 rfl dX3_goOn_12 ?_
      refine lv_iload_n hx hb dX3_goOn_15 rfl (lv_at hl 1 rfl) ?_
      have e4 : (((fI u 39 6) + x1)).toInt = ((fI u 39 6)).toInt + (x1).toInt := i_add rfl rfl (by omega)
      refine lv_iadd hx hb dX3_goOn_16 ?_
      refine lv_ldc (v := 100000) hx hb hown (ht _ wd_1262) dX3_goOn_17 ?_
      refine cs_le (tgt := 24) (X := (((fI u 39 6)).toInt + (x1).toInt)) (Y := 100000) hx hb dX3_goOn_19 (by decide) e4 rfl (fun c5 => ?_) (fun c5 => ?_)
      · refine lv_aload_n hx hb dX3_goOn_24 rfl (lv_at hl 0 rfl) ?_
        refine lv_dup hx hb dX3_goOn_25 rfl ?_
        refine gf_RX3_32 (v := .int (fI u 39 6)) C hO 39 cW_39 rfl dX3_goOn_26 ?_
        refine lv_iload_n hx hb dX3_goOn_29 rfl (lv_at hl 1 rfl) ?_
        have e6 : (((fI u 39 6) + x1)).toInt = ((fI u 39 6)).toInt + (x1).toInt := i_add rfl rfl (by omega)
        refine lv_iadd hx hb dX3_goOn_30 ?_
        refine pf_RX3_32 C hO 39 cW_39 (Nat.le_of_ble_eq_true rfl) cW_s39_6 dX3_goOn_31 (fun H locs hO => ?_)
        have hJ := CIs_39_6 (v := ((fI u 39 6) + x1)) hJ (by first | decide | omega)
        refine lv_aload_n hx hb dX3_goOn_34 rfl (lv_at hl 0 rfl) ?_
        refine gf_RX3_32 (v := .int ((fI u 39 6) + x1)) C hO 39 cW_39 rfl dX3_goOn_35 ?_
        refine hret _ _ _ _ _ _ dX3_goOn_38 rfl ?_ hO
        exact ⟨hJ, hT, (by first | exact (ltR_y (by unfold ltOk; omega)).symm | exact (ltR_n (by unfold ltOk; omega)).symm), (by first | exact (ltT_y (by unfold ltOk; omega)).symm | exact (ltT_n (by unfold ltOk; omega)).symm)⟩
      · refine lv_iconst (v := (-1)) hx hb dX3_goOn_22 (by decide) ?_
        refine hret _ _ _ _ _ _ dX3_goOn_23 rfl ?_ hO
        exact ⟨hJ, hT, (by first | exact (ltR_y (by unfold ltOk; omega)).symm | exact (ltR_n (by unfold ltOk; omega)).symm), (by first | exact (ltT_y (by unfold ltOk; omega)).symm | exact (ltT_n (by unfold ltOk; omega)).symm)⟩
theorem dX10_later_0 : decode cX10_later 0 = .ok (.aload_n 0, 1) := by decide +kernel
theorem dX10_later_1 : decode cX10_later 1 = .ok (.getfield 76, 3) := by decide +kernel
theorem dX10_later_4 : decode cX10_later 4 = .ok (.iload_n 1, 1) := by decide +kernel
theorem dX10_later_5 : decode cX10_later 5 = .ok (.invokevirtual 314, 3) := by decide +kernel
theorem dX10_later_8 : decode cX10_later 8 = .ok (.ireturn, 1) := by decide +kernel
theorem wd_1257 : (Cond.code ⟨"WebCourt", "later", "(I)I"⟩ prog_1_method_46_code (2 : Nat) (Option.some FieldType.int)) ∈ gtb := gtb_c5 188 (by decide +kernel) rfl
theorem wd_1258 : (Cond.methodLink "WebCourt" (314 : Nat) ⟨"WebCourt$Hearsay", "goOn", "(I)I"⟩) ∈ gtb := gtb_c5 189 (by decide +kernel) rfl
theorem wd_1259 : (Cond.instanceMethod ⟨"WebCourt$Hearsay", "goOn", "(I)I"⟩) ∈ gtb := gtb_c5 190 (by decide +kernel) rfl
theorem wd_1260 : (Cond.selects "WebCourt$Hearsay" ⟨"WebCourt$Hearsay", "goOn", "(I)I"⟩ ⟨"WebCourt$Hearsay", "goOn", "(I)I"⟩) ∈ gtb := gtb_c5 191 (by decide +kernel) rfl
theorem hd_yX3_goOn : yX3_goOn.cls = RX3 ∧ yX3_goOn.cls ≠ "java/lang/invoke/MethodHandle" ∧ yX3_goOn.cls ≠ "java/lang/invoke/VarHandle" ∧ (parseMethodDescriptor yX3_goOn.desc).map (fun d => d.parameters.length) = some 1 := by decide +kernel
set_option maxHeartbeats 4000000 in
set_option maxRecDepth 100000 in
theorem T_X10_later (l : Launch) (D : va_G) (cy : Nat → ClassId) (a : Nat → Nat) (u : St) (hJ : CI a u) (x1 : Int32)  : Mi l D cy (cW cy a) yX10_later (.code yX10_later cX10_later 2 (some .int)) (rmo 1 21) [.ref (a 0), .int x1] u (fun (r : Int32) (u' : St) => (CI a u') ∧ (KN u u') ∧ (r = ltR (fI u 39 6) x1) ∧ (fI u' 39 6 = ltT (fI u 39 6) x1)) := by
  refine Mi.of (own := RX10) rfl (by decide) (Nat.le_of_ble_eq_true rfl) ?_
  have hT : KN u u := KN.rf
  intro p e s m below meth c A Q ls C hret hO hl
  obtain ⟨hx, hb, hml, hown, ht, hK, hA⟩ := id C
  have hl : lv_has ls 2 [(0, .ref (a 0)), (1, .int x1)] := hl
  refine lv_aload_n hx hb dX10_later_0 rfl (lv_at hl 0 rfl) ?_
  refine gf_RX10_76 (v := .ref (a 39)) C hO 0 cW_0 rfl dX10_later_1 ?_
  refine lv_iload_n hx hb dX10_later_4 rfl (lv_at hl 1 rfl) ?_
  refine cVi (w := cW cy a) (As := [.int x1]) (rest := []) C hO (T_X3_goOn l D cy a _ (by exact hJ) (x1)) (cwV 1 ht (gV wd_1258 wd_1259 wd_1260 wd_120 wd_1261) rfl rfl rfl hd_yX3_goOn ⟨Nat.le_of_ble_eq_true rfl, Nat.le_of_ble_eq_true rfl⟩) 39 rfl cW_39 rfl rfl hl.1 (Nat.le_of_ble_eq_true rfl) dX10_later_5 rfl ⟨Nat.zero_le _, Nat.zero_le _⟩ (fun r1 u2 H locs hp3 hO => ?_)
  have g4 : 0 ≤ (fI u 30 2).toInt ∧ (fI u 30 2).toInt ≤ 40 := by have h := CI_30_2 hJ; exact h
  obtain ⟨hJ, hTu2, hx0u2, hx1u2⟩ := hp3
  have hT : KN u u2 := KN.tr (by exact hT) hTu2
  have hI_30_2_u2 : fI u2 30 2 = (fI u 30 2) := hTu2.2
  refine hret _ _ _ _ _ _ dX10_later_8 rfl ?_ hO
  exact ⟨hJ, hT, hx0u2, hx1u2⟩
